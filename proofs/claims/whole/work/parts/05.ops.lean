/-! ENGINE, part 2: arithmetic of plain integers, and one row an instruction over HW -/
theorem zi_toInt (a : Int) : (Int32.ofInt a).toInt = (a + 2147483648) % 4294967296 - 2147483648 := by
  rw [Int32.toInt_ofInt, show Int32.size = 4294967296 from rfl, Int.bmod_def]
  split <;> omega
theorem zi_eq (a b : Int) : Int32.ofInt a = Int32.ofInt b ↔ a % 4294967296 = b % 4294967296 := by
  rw [← Int32.toInt_inj, zi_toInt, zi_toInt]
  omega
theorem zi_lt (a b : Int) : Int32.ofInt a < Int32.ofInt b ↔ (a + 2147483648) % 4294967296 < (b + 2147483648) % 4294967296 := by
  rw [Int32.lt_iff_toInt_lt, zi_toInt, zi_toInt]
  omega
theorem zi_le (a b : Int) : Int32.ofInt a ≤ Int32.ofInt b ↔ (a + 2147483648) % 4294967296 ≤ (b + 2147483648) % 4294967296 := by
  rw [Int32.le_iff_toInt_le, zi_toInt, zi_toInt]
  omega
theorem zi_0 : (0 : Int32) = Int32.ofInt 0 := rfl
theorem zi_add (a b : Int) : Int32.ofInt a + Int32.ofInt b = Int32.ofInt (a + b) := by
  rw [← Int32.toInt_inj, Int32.toInt_add, zi_toInt, zi_toInt, zi_toInt, Int.bmod_def]
  split <;> omega
theorem zi_sub (a b : Int) : Int32.ofInt a - Int32.ofInt b = Int32.ofInt (a - b) := by
  rw [← Int32.toInt_inj, Int32.toInt_sub, zi_toInt, zi_toInt, zi_toInt, Int.bmod_def]
  split <;> omega
theorem zi_neg (a : Int) : -Int32.ofInt a = Int32.ofInt (-a) := by
  rw [← Int32.toInt_inj, Int32.toInt_neg, zi_toInt, zi_toInt, Int.bmod_def]
  split <;> omega
theorem zi_mul (a b : Int) : Int32.ofInt a * Int32.ofInt b = Int32.ofInt (a * b) := by
  rw [← Int32.toInt_inj, Int32.toInt_mul, Int32.toInt_ofInt, Int32.toInt_ofInt, Int32.toInt_ofInt, show Int32.size = 2 ^ 32 from rfl]
  rw [Int.bmod_mul_bmod, Int.mul_comm, Int.bmod_mul_bmod, Int.mul_comm]
def zb (x : Int64) : Nat := x.toBitVec.toNat
theorem zb_of (x : Int64) : Int64.ofNat (zb x) = x := by
  unfold zb
  rw [Int64.ofNat_bitVecToNat, Int64.ofBitVec_toBitVec]
def zand (a b : Int) : Int := (Int32.ofInt a &&& Int32.ofInt b).toInt
def zor (a b : Int) : Int := (Int32.ofInt a ||| Int32.ofInt b).toInt
def zxor (a b : Int) : Int := (Int32.ofInt a ^^^ Int32.ofInt b).toInt
def zshl (a b : Int) : Int := (Int32.ofInt a <<< (Int32.ofInt b &&& 31)).toInt
def zshr (a b : Int) : Int := (Int32.ofInt a >>> (Int32.ofInt b &&& 31)).toInt
def zush (a b : Int) : Int := (((Int32.ofInt a).toUInt32 >>> ((Int32.ofInt b).toUInt32 &&& Int32.toUInt32 31)).toInt32).toInt
def zdiv (a b : Int) : Int := (Int32.ofInt a / Int32.ofInt b).toInt
def zrem (a b : Int) : Int := (Int32.ofInt a - Int32.ofInt a / Int32.ofInt b * Int32.ofInt b).toInt
def zladd (a b : Nat) : Nat := zb (Int64.ofNat a + Int64.ofNat b)
def zlsub (a b : Nat) : Nat := zb (Int64.ofNat a - Int64.ofNat b)
def zland (a b : Nat) : Nat := zb (Int64.ofNat a &&& Int64.ofNat b)
def zlor (a b : Nat) : Nat := zb (Int64.ofNat a ||| Int64.ofNat b)
def zlxor (a b : Nat) : Nat := zb (Int64.ofNat a ^^^ Int64.ofNat b)
def zlneg (a : Nat) : Nat := zb (-Int64.ofNat a)
def zlshl (a : Nat) (b : Int) : Nat := zb (Int64.ofNat a <<< ((Int32.ofInt b).toInt64 &&& 63))
def zlshr (a : Nat) (b : Int) : Nat := zb (Int64.ofNat a >>> ((Int32.ofInt b).toInt64 &&& 63))
def zlush (a : Nat) (b : Int) : Nat := zb (((Int64.ofNat a).toUInt64 >>> ((Int32.ofInt b).toInt64.toUInt64 &&& Int64.toUInt64 63)).toInt64)
def zi2l (a : Int) : Nat := zb (Int32.ofInt a).toInt64
def zl2i (a : Nat) : Int := (Int64.ofNat a).toInt32.toInt
def zcmp (a b : Nat) : Int := (lg_cmp (Int64.ofNat a) (Int64.ofNat b)).toInt
/-- a store into the locals: what it covers is forgotten -/
def zkill (ls : List (Option zV)) : Nat → List (Option zV)
  | 0 => ls
  | j + 1 => match ls[j]? with
    | some (some (.inr (.inl _))) => ls.set j none
    | _ => ls
def zst1 (ls : List (Option zV)) (i : Nat) (v : zV) : List (Option zV) := (zkill ls i).set i (some v)
def zst2 (ls : List (Option zV)) (i : Nat) (v : zV) : List (Option zV) := ((zkill ls i).set i (some v)).set (i + 1) none
theorem zkill_len (ls : List (Option zV)) (i : Nat) : (zkill ls i).length = ls.length := by
  cases i with
  | zero => rfl
  | succ j => simp only [zkill]; split <;> simp
theorem zkill_get {ls : List (Option zV)} {i j : Nat} {v : zV} (h : (zkill ls i)[j]? = some (some v)) : ls[j]? = some (some v) ∧ (j + 1 = i → ∀ n, v ≠ .inr (.inl n)) := by
  cases i with
  | zero => exact ⟨h, fun e => by omega⟩
  | succ k =>
    simp only [zkill] at h
    split at h
    · rename_i n hn
      by_cases e : k = j
      · subst e
        rw [List.getElem?_set_self (List.getElem?_eq_some_iff.mp hn).1] at h
        cases h
      · rw [List.getElem?_set_ne e] at h
        exact ⟨h, fun e2 => by omega⟩
    · rename_i hn
      refine ⟨h, fun e n e2 => ?_⟩
      have : j = k := by omega
      subst this
      subst e2
      exact hn n h
theorem zv_cat (ad : Nat → Nat) (v : zV) (h : (zv ad v).category = 2) : ∃ n, v = .inr (.inl n) := by
  rcases v with a | n | x
  · cases h
  · exact ⟨n, rfl⟩
  · cases x <;> cases h
/-- the list that the kit's rows ask for -/
def zla (ad : Nat → Nat) (ls : List (Option zV)) : List (Nat × Value) := (List.range ls.length).filterMap (fun i => match ls[i]? with
  | some (some v) => some (i, zv ad v)
  | _ => none)
theorem zla_mem {ad : Nat → Nat} {ls : List (Option zV)} {q : Nat × Value} : q ∈ zla ad ls ↔ ∃ v, ls[q.1]? = some (some v) ∧ q.2 = zv ad v := by
  obtain ⟨i, w⟩ := q
  unfold zla
  rw [List.mem_filterMap]
  constructor
  · rintro ⟨j, -, h⟩
    split at h
    · rename_i v hv
      cases h
      exact ⟨v, hv, rfl⟩
    · cases h
  · rintro ⟨v, hv, e⟩
    dsimp only at hv e
    refine ⟨i, List.mem_range.mpr (List.getElem?_eq_some_iff.mp hv).1, ?_⟩
    rw [hv, e]
theorem zL.has {ad : Nat → Nat} {nL : Nat} {ls : List (Option zV)} {LS : Array Slot} (h : zL ad nL ls LS) : lv_has LS nL (zla ad ls) := by
  refine ⟨h.1, h.2.2.1, fun q hq => ?_⟩
  obtain ⟨v, h1, h2⟩ := zla_mem.mp hq
  rw [h2]
  exact h.2.2.2 q.1 v h1
theorem zL.st1 {ad : Nat → Nat} {nL : Nat} {ls : List (Option zV)} {LS LS' : Array Slot} {i : Nat} {v : zV} (h : zL ad nL ls LS) (h' : lv_has LS' nL ((i, zv ad v) :: (zla ad ls).filter (fun q => !(q.1 == i) && !(q.1 + 1 == i && q.2.category == 2)))) (hi : i < ls.length) : zL ad nL (zst1 ls i v) LS' := by
  refine ⟨h'.1, by unfold zst1; rw [List.length_set, zkill_len]; exact h.2.1, h'.2.1, fun j w hj => ?_⟩
  unfold zst1 at hj
  by_cases e : i = j
  · subst e
    rw [List.getElem?_set_self (by rw [zkill_len]; exact hi)] at hj
    cases hj
    exact h'.2.2 (i, zv ad v) List.mem_cons_self
  · rw [List.getElem?_set_ne e] at hj
    obtain ⟨h1, h2⟩ := zkill_get hj
    refine h'.2.2 (j, zv ad w) (List.mem_cons_of_mem _ (List.mem_filter.mpr ⟨zla_mem.mpr ⟨w, h1, rfl⟩, ?_⟩))
    simp only [Bool.and_eq_true, Bool.not_eq_true', beq_eq_false_iff_ne, ne_eq, Bool.and_eq_false_iff]
    refine ⟨fun e2 => e e2.symm, ?_⟩
    by_cases e3 : j + 1 = i
    · refine Or.inr fun e4 => ?_
      obtain ⟨n, hn⟩ := zv_cat ad w e4
      exact h2 e3 n hn
    · exact Or.inl e3
theorem zL.st2 {ad : Nat → Nat} {nL : Nat} {ls : List (Option zV)} {LS LS' : Array Slot} {i : Nat} {v : zV} (h : zL ad nL ls LS) (h' : lv_has LS' nL ((i, zv ad v) :: (zla ad ls).filter (fun q => !(q.1 == i) && (!(q.1 == i + 1) && !(q.1 + 1 == i && q.2.category == 2))))) (hi : i < ls.length) : zL ad nL (zst2 ls i v) LS' := by
  refine ⟨h'.1, by unfold zst2; rw [List.length_set, List.length_set, zkill_len]; exact h.2.1, h'.2.1, fun j w hj => ?_⟩
  unfold zst2 at hj
  by_cases e1 : i + 1 = j
  · subst e1
    rw [List.getElem?_set] at hj
    simp only [List.length_set, if_true] at hj
    split at hj <;> cases hj
  rw [List.getElem?_set_ne e1] at hj
  by_cases e : i = j
  · subst e
    rw [List.getElem?_set_self (by rw [zkill_len]; exact hi)] at hj
    cases hj
    exact h'.2.2 (i, zv ad v) List.mem_cons_self
  · rw [List.getElem?_set_ne e] at hj
    obtain ⟨h1, h2⟩ := zkill_get hj
    refine h'.2.2 (j, zv ad w) (List.mem_cons_of_mem _ (List.mem_filter.mpr ⟨zla_mem.mpr ⟨w, h1, rfl⟩, ?_⟩))
    simp only [Bool.and_eq_true, Bool.not_eq_true', beq_eq_false_iff_ne, ne_eq, Bool.and_eq_false_iff]
    refine ⟨fun e2 => e e2.symm, fun e2 => e1 e2.symm, ?_⟩
    by_cases e3 : j + 1 = i
    · refine Or.inr fun e4 => ?_
      obtain ⟨n, hn⟩ := zv_cat ad w e4
      exact h2 e3 n hn
    · exact Or.inl e3
section ZOPS
variable {X : zX} {M : zM} {pc n aux : Nat} {ls : List (Option zV)} {st : List zV} {F I : zFi} {J : zJi}
theorem zrow {i : Instr} (hX : ZF X M) (hr : (pc, i, n, aux) ∈ M.2.1) : ∃ d, zorig pc i n aux = some d ∧ decode M.1 pc = .ok (d, n) ∧ zlen i n = true ∧ zside M i n aux = true := zok_spec (hX.2.2.2.2.2.2.2 _ hr)
theorem hw_iconst {v : Int} (hX : ZF X M) (hr : (pc, .iconst v, n, aux) ∈ M.2.1) (k : HW X (pc + n) ls (.inl v :: st) F I J) : HW X pc ls st F I J := by
  obtain ⟨d, h1, h2, -, h4⟩ := zrow hX hr
  obtain ⟨hx, hb, hown, hts, -⟩ := hX
  intro H locs LS hW hS hL
  have kk := k H locs LS hW hS hL
  unfold zorig at h1
  dsimp only at h1
  split at h1
  · cases h1
    exact lv_iconst hx hb h2 rfl kk
  · split at h1
    · rename_i hv
      cases h1
      exact lv_bipush hx hb h2 (Int8.toInt32_ofInt (show (-128 : Int) ≤ v by omega) (show v ≤ (127 : Int) by omega)) kk
    · cases h1
  · split at h1
    · rename_i hv
      cases h1
      exact lv_sipush hx hb h2 (Int16.toInt32_ofInt (show (-32768 : Int) ≤ v by omega) (show v ≤ (32767 : Int) by omega)) kk
    · cases h1
  · cases h1
    exact lv_ldc hx hb hown (hts _ (of_decide_eq_true h4)) h2 kk
  · cases h1
    exact lv_ldcw hx hb hown (hts _ (of_decide_eq_true h4)) h2 kk
  · cases h1
theorem hw_lconst {v : Fin 2} (hX : ZF X M) (hr : (pc, .lconst v, n, aux) ∈ M.2.1) (k : HW X (pc + n) ls (.inr (.inl v.val) :: st) F I J) : HW X pc ls st F I J := by
  obtain ⟨d, h1, h2, h3, -⟩ := zrow hX hr
  cases h1
  cases (beq_iff_eq.mp h3 : n = 1)
  intro H locs LS hW hS hL
  exact lv_lconst hX.1 hX.2.1 h2 rfl (k H locs LS hW hS hL)
theorem hw_ldc2 {v : Nat} (hX : ZF X M) (hr : (pc, .ldc2_w v, n, aux) ∈ M.2.1) (k : HW X (pc + n) ls (.inr (.inl v) :: st) F I J) : HW X pc ls st F I J := by
  obtain ⟨d, h1, h2, h3, h4⟩ := zrow hX hr
  cases h1
  cases (beq_iff_eq.mp h3 : n = 3)
  intro H locs LS hW hS hL
  exact lv_ldc2 hX.1 hX.2.1 hX.2.2.1 (hX.2.2.2.1 _ (of_decide_eq_true h4)) h2 (k H locs LS hW hS hL)
theorem hw_iload {i : Nat} {x : Int} (hX : ZF X M) (hr : (pc, .iload i, n, aux) ∈ M.2.1) (hl : ls[i]? = some (some (.inl x))) (k : HW X (pc + n) ls (.inl x :: st) F I J) : HW X pc ls st F I J := by
  obtain ⟨d, h1, h2, h3, -⟩ := zrow hX hr
  obtain ⟨hx, hb, -⟩ := hX
  intro H locs LS hW hS hL
  have kk := k H locs LS hW hS hL
  have hl' := hL.2.2.2 i _ hl
  unfold zorig at h1
  dsimp only at h1
  split at h1
  · split at h1
    · cases h1
      exact lv_iload_n hx hb h2 rfl hl' kk
    · cases h1
  · cases h1
    rename_i hn
    have : n = 2 := by
      simp only [zlen, Bool.or_eq_true, beq_iff_eq] at h3
      exact h3.resolve_left hn
    subst this
    exact lv_iload hx hb h2 hl' kk
theorem hw_lload {i : Nat} {x : Nat} (hX : ZF X M) (hr : (pc, .lload i, n, aux) ∈ M.2.1) (hl : ls[i]? = some (some (.inr (.inl x)))) (k : HW X (pc + n) ls (.inr (.inl x) :: st) F I J) : HW X pc ls st F I J := by
  obtain ⟨d, h1, h2, h3, -⟩ := zrow hX hr
  obtain ⟨hx, hb, -⟩ := hX
  intro H locs LS hW hS hL
  have kk := k H locs LS hW hS hL
  have hl' := hL.2.2.2 i _ hl
  unfold zorig at h1
  dsimp only at h1
  split at h1
  · split at h1
    · cases h1
      exact lv_lload_n hx hb h2 rfl hl' kk
    · cases h1
  · cases h1
    rename_i hn
    have : n = 2 := by
      simp only [zlen, Bool.or_eq_true, beq_iff_eq] at h3
      exact h3.resolve_left hn
    subst this
    exact lv_lload hx hb h2 hl' kk
theorem hw_aload {i : Nat} {x : Option Nat} (hX : ZF X M) (hr : (pc, .aload i, n, aux) ∈ M.2.1) (hl : ls[i]? = some (some (.inr (.inr x)))) (k : HW X (pc + n) ls (.inr (.inr x) :: st) F I J) : HW X pc ls st F I J := by
  obtain ⟨d, h1, h2, h3, -⟩ := zrow hX hr
  obtain ⟨hx, hb, -⟩ := hX
  intro H locs LS hW hS hL
  have kk := k H locs LS hW hS hL
  have hl' := hL.2.2.2 i _ hl
  unfold zorig at h1
  dsimp only at h1
  split at h1
  · split at h1
    · cases h1
      cases x with
      | none => exact lv_aload_nN hx hb h2 rfl hl' kk
      | some x => exact lv_aload_n hx hb h2 rfl hl' kk
    · cases h1
  · cases h1
    rename_i hn
    have : n = 2 := by
      simp only [zlen, Bool.or_eq_true, beq_iff_eq] at h3
      exact h3.resolve_left hn
    subst this
    cases x with
    | none => exact lv_aloadN hx hb h2 hl' kk
    | some x => exact lv_aload hx hb h2 hl' kk
theorem hw_istore {i : Nat} {x : Int} (hX : ZF X M) (hr : (pc, .istore i, n, aux) ∈ M.2.1) (hi : i < ls.length) (k : HW X (pc + n) (zst1 ls i (.inl x)) st F I J) : HW X pc ls (.inl x :: st) F I J := by
  obtain ⟨d, h1, h2, h3, -⟩ := zrow hX hr
  obtain ⟨hx, hb, -⟩ := hX
  intro H locs LS hW hS hL
  unfold zorig at h1
  dsimp only at h1
  split at h1
  · split at h1
    · cases h1
      exact lv_istore_n hx hb h2 rfl hL.has (Nat.lt_of_lt_of_le hi hL.2.1) rfl fun LS' h' => k H locs LS' hW hS (hL.st1 (v := .inl x) h' hi)
    · cases h1
  · cases h1
    rename_i hn
    have : n = 2 := by
      simp only [zlen, Bool.or_eq_true, beq_iff_eq] at h3
      exact h3.resolve_left hn
    subst this
    exact lv_istore hx hb h2 hL.has (Nat.lt_of_lt_of_le hi hL.2.1) rfl fun LS' h' => k H locs LS' hW hS (hL.st1 (v := .inl x) h' hi)
theorem hw_astore {i : Nat} {x : Option Nat} (hX : ZF X M) (hr : (pc, .astore i, n, aux) ∈ M.2.1) (hi : i < ls.length) (k : HW X (pc + n) (zst1 ls i (.inr (.inr x))) st F I J) : HW X pc ls (.inr (.inr x) :: st) F I J := by
  obtain ⟨d, h1, h2, h3, -⟩ := zrow hX hr
  obtain ⟨hx, hb, -⟩ := hX
  intro H locs LS hW hS hL
  unfold zorig at h1
  dsimp only at h1
  split at h1
  · split at h1
    · cases h1
      cases x with
      | none => exact lv_astore_nN hx hb h2 rfl hL.has (Nat.lt_of_lt_of_le hi hL.2.1) rfl fun LS' h' => k H locs LS' hW hS (hL.st1 (v := .inr (.inr none)) h' hi)
      | some x => exact lv_astore_n hx hb h2 rfl hL.has (Nat.lt_of_lt_of_le hi hL.2.1) rfl fun LS' h' => k H locs LS' hW hS (hL.st1 (v := .inr (.inr (some x))) h' hi)
    · cases h1
  · cases h1
    rename_i hn
    have : n = 2 := by
      simp only [zlen, Bool.or_eq_true, beq_iff_eq] at h3
      exact h3.resolve_left hn
    subst this
    cases x with
    | none => exact lv_astoreN hx hb h2 hL.has (Nat.lt_of_lt_of_le hi hL.2.1) rfl fun LS' h' => k H locs LS' hW hS (hL.st1 (v := .inr (.inr none)) h' hi)
    | some x => exact lv_astore hx hb h2 hL.has (Nat.lt_of_lt_of_le hi hL.2.1) rfl fun LS' h' => k H locs LS' hW hS (hL.st1 (v := .inr (.inr (some x))) h' hi)
theorem hw_lstore {i : Nat} {x : Nat} (hX : ZF X M) (hr : (pc, .lstore i, n, aux) ∈ M.2.1) (hi : i + 1 < ls.length) (k : HW X (pc + n) (zst2 ls i (.inr (.inl x))) st F I J) : HW X pc ls (.inr (.inl x) :: st) F I J := by
  obtain ⟨d, h1, h2, h3, -⟩ := zrow hX hr
  obtain ⟨hx, hb, -⟩ := hX
  intro H locs LS hW hS hL
  unfold zorig at h1
  dsimp only at h1
  split at h1
  · split at h1
    · cases h1
      exact lv_lstore_n hx hb h2 rfl hL.has (Nat.lt_of_lt_of_le hi hL.2.1) rfl fun LS' h' => k H locs LS' hW hS (hL.st2 (v := .inr (.inl x)) h' (by omega))
    · cases h1
  · cases h1
    rename_i hn
    have : n = 2 := by
      simp only [zlen, Bool.or_eq_true, beq_iff_eq] at h3
      exact h3.resolve_left hn
    subst this
    exact lv_lstore hx hb h2 hL.has (Nat.lt_of_lt_of_le hi hL.2.1) rfl fun LS' h' => k H locs LS' hW hS (hL.st2 (v := .inr (.inl x)) h' (by omega))
theorem hw_iinc {i : Nat} {x w : Int} (hX : ZF X M) (hr : (pc, .iinc i w, n, aux) ∈ M.2.1) (hl : ls[i]? = some (some (.inl x))) (k : HW X (pc + n) (zst1 ls i (.inl (x + w))) st F I J) : HW X pc ls st F I J := by
  obtain ⟨d, h1, h2, h3, -⟩ := zrow hX hr
  cases h1
  cases (beq_iff_eq.mp h3 : n = 3)
  obtain ⟨hx, hb, -⟩ := hX
  intro H locs LS hW hS hL
  have hi : i < ls.length := (List.getElem?_eq_some_iff.mp hl).1
  obtain ⟨k0, hk0⟩ := List.getElem?_of_mem (zla_mem (ad := xad X) (q := (i, .int (Int32.ofInt x))).mpr ⟨_, hl, rfl⟩)
  exact lv_iinc (v := Int32.ofInt (x + w)) hx hb h2 hL.has hk0 (zi_add x w) (Nat.lt_of_lt_of_le hi hL.2.1) rfl fun LS' h' => k H locs LS' hW hS (hL.st1 (v := .inl (x + w)) h' hi)
end ZOPS
