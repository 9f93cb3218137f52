section
/-! ENGINE, part 1: values, worlds whose shape stands, the judgement HW -/
abbrev zV : Type := Int ⊕ (Nat ⊕ Option Nat)
abbrev zS : Type := (Nat × List (Option (Option Nat))) ⊕ ((ClassId × Nat) ⊕ ((ClassId × Nat) ⊕ (ClassId × String × Nat × (Nat → Option Nat))))
abbrev zFi : Type := Nat → Nat → Int
abbrev zJi : Type := Nat → Nat → Nat
def zv (ad : Nat → Nat) : zV → Value
  | .inl i => .int (Int32.ofInt i)
  | .inr (.inl n) => .long (Int64.ofNat n)
  | .inr (.inr none) => .null
  | .inr (.inr (some k)) => .ref (ad k)
def zfs (ad : Nat → Nat) (f : Nat → Int) : Nat → List (Option (Option Nat)) → List Value
  | _, [] => []
  | j, none :: r => .int (Int32.ofInt (f j)) :: zfs ad f (j + 1) r
  | j, some x :: r => va_rf (x.map ad) :: zfs ad f (j + 1) r
def zent (ad : Nat → Nat) (F I : zFi) (J : zJi) (k : Nat) : zS → va_E
  | .inl (ci, sl) => .inr (ci, zfs ad (F k) 0 sl)
  | .inr (.inl (cA, n)) => .inl (cA, n, .inl (fun j => Int32.ofInt (I k j)))
  | .inr (.inr (.inl (cA, n))) => .inl (cA, n, .inr (.inl (fun j => Int64.ofNat (J k j))))
  | .inr (.inr (.inr (cA, _, n, r))) => .inl (cA, n, .inr (.inr (.inr (.inr (fun j => (r j).map ad)))))
/-- the heap holds the world -/
def zWd (D : va_G) (cl : List vw_C) (sh : Nat → Option zS) (ad : Nat → Nat) (F I : zFi) (J : zJi) (H : Heap) : Prop := ∀ (k : Nat) (t : zS), sh k = some t → va_at D cl (ad k, zent ad F I J k t) H
/-- what stands of the shape in a state -/
def zG (D : va_G) (cl : List vw_C) (sh : Nat → Option zS) (ad : Nat → Nat) (U : State) : Prop :=
  (∀ i j, sh i ≠ none → sh j ≠ none → ad i = ad j → i = j) ∧ va_K D cl [] U ∧
  (∀ k cA n, sh k = some (.inr (.inl (cA, n))) → n < 2147483648 ∧ ArrOfT U cA .int ∧ va_RA U cA .int) ∧
  (∀ k cA n, sh k = some (.inr (.inr (.inl (cA, n)))) → n < 2147483648 ∧ ArrOfT U cA .long ∧ va_RA U cA .long) ∧
  (∀ k cA E n r, sh k = some (.inr (.inr (.inr (cA, E, n, r)))) → n < 2147483648 ∧ ArrOfT U cA (.object E) ∧ va_RA U cA (.object E))
theorem zG.moved {D : va_G} {cl : List vw_C} {sh : Nat → Option zS} {ad : Nat → Nat} {u U : State} (hvm : u.vm.Alike U.vm) (h : zG D cl sh ad u) : zG D cl sh ad U :=
  ⟨h.1, h.2.1.moved hvm, fun k cA n e => ⟨(h.2.2.1 k cA n e).1, arrOfT_moved hvm (h.2.2.1 k cA n e).2.1, (h.2.2.1 k cA n e).2.2.moved hvm⟩,
    fun k cA n e => ⟨(h.2.2.2.1 k cA n e).1, arrOfT_moved hvm (h.2.2.2.1 k cA n e).2.1, (h.2.2.2.1 k cA n e).2.2.moved hvm⟩,
    fun k cA E n r e => ⟨(h.2.2.2.2 k cA E n r e).1, arrOfT_moved hvm (h.2.2.2.2 k cA E n r e).2.1, (h.2.2.2.2 k cA E n r e).2.2.moved hvm⟩⟩
/-- which cells may change: those of the shape, and new ones -/
def zA (sh : Nat → Option zS) (ad : Nat → Nat) (sz : Nat) : Nat → Prop := fun q => (∃ k, sh k ≠ none ∧ q = ad k) ∨ sz ≤ q
abbrev zX : Type := (Program × Launch × Env × Room × State × MethodId × Array Value × List Frame × Method × Code) × (va_G × List vw_C × (Nat → Option zS) × (Nat → Nat)) × ((Nat → Prop) × Nat × Nat × (State → Prop))
abbrev xp (X : zX) : Program := X.1.1
abbrev xl (X : zX) : Launch := X.1.2.1
abbrev xe (X : zX) : Env := X.1.2.2.1
abbrev xR (X : zX) : Room := X.1.2.2.2.1
abbrev xs (X : zX) : State := X.1.2.2.2.2.1
abbrev xm (X : zX) : MethodId := X.1.2.2.2.2.2.1
abbrev xa (X : zX) : Array Value := X.1.2.2.2.2.2.2.1
abbrev xb (X : zX) : List Frame := X.1.2.2.2.2.2.2.2.1
abbrev xt (X : zX) : Method := X.1.2.2.2.2.2.2.2.2.1
abbrev xc (X : zX) : Code := X.1.2.2.2.2.2.2.2.2.2
abbrev xD (X : zX) : va_G := X.2.1.1
abbrev xcl (X : zX) : List vw_C := X.2.1.2.1
abbrev xsh (X : zX) : Nat → Option zS := X.2.1.2.2.1
abbrev xad (X : zX) : Nat → Nat := X.2.1.2.2.2
abbrev xA (X : zX) : Nat → Prop := X.2.2.1
abbrev xk (X : zX) : Nat := X.2.2.2.1
abbrev xn (X : zX) : Nat := X.2.2.2.2.1
abbrev xQ (X : zX) : State → Prop := X.2.2.2.2.2
/-- the locals: those that are listed are held -/
def zL (ad : Nat → Nat) (nL : Nat) (ls : List (Option zV)) (LS : Array Slot) : Prop := LS.size = nL ∧ ls.length ≤ nL ∧ lv_wf LS ∧ ∀ (i : Nat) (v : zV), ls[i]? = some (some v) → LS[i]? = some (.val (zv ad v))
def HW (X : zX) (pc : Nat) (ls : List (Option zV)) (st : List zV) (F I : zFi) (J : zJi) : Prop :=
  ∀ (H : Heap) (locs : List Loc) (LS : Array Slot), zWd (xD X) (xcl X) (xsh X) (xad X) F I J H → va_S (xA X) (xs X).heap H locs → zL (xad X) (xc X).maxLocals ls LS →
    W (xp X) (xl X) (xe X) (xR X) (xs X) (xm X) (xa X) (xb X) (xt X) (xc X) H locs (xk X) (xn X) (xQ X) (F0 (xm X) pc LS (st.map (zv (xad X))))
/-- the method: its bytes, its rows (pc, instruction in a plain form, length, pool index), its class, its words -/
abbrev zM : Type := ByteArray × List (Nat × Instr × Nat × Nat) × String × List Cond
def zcl (cl : List vw_C) : Prop := ∀ (ci : Nat) (C : String) (T : u_T) (N : Nat), cl[ci]? = some (C, T, N) → (∃ ty0 : Nat → FieldType, ∀ k, k < N → parseFieldDescriptor (T k).2.2.1 = some (ty0 k)) ∧ ∀ a, a < N → ∀ b, b < N → a ≠ b → (T a).2.1 ≠ (T b).2.1
/-- the instruction that stands in the bytes for a plain one -/
def zorig (pc : Nat) (i : Instr) (n aux : Nat) : Option Instr := match i with
  | .iconst v => match n, aux with
    | 1, 0 => some (.iconst v)
    | 2, 0 => if -128 ≤ v ∧ v < 128 then some (.bipush v) else none
    | 3, 0 => if -32768 ≤ v ∧ v < 32768 then some (.sipush v) else none
    | 2, a + 1 => some (.ldc (a + 1))
    | 3, a + 1 => some (.ldc_w (a + 1))
    | _, _ => none
  | .ldc2_w _ => some (.ldc2_w aux)
  | .iload j => match n with
    | 1 => if h : j < 4 then some (.iload_n ⟨j, h⟩) else none
    | _ => some (.iload j)
  | .lload j => match n with
    | 1 => if h : j < 4 then some (.lload_n ⟨j, h⟩) else none
    | _ => some (.lload j)
  | .aload j => match n with
    | 1 => if h : j < 4 then some (.aload_n ⟨j, h⟩) else none
    | _ => some (.aload j)
  | .istore j => match n with
    | 1 => if h : j < 4 then some (.istore_n ⟨j, h⟩) else none
    | _ => some (.istore j)
  | .lstore j => match n with
    | 1 => if h : j < 4 then some (.lstore_n ⟨j, h⟩) else none
    | _ => some (.lstore j)
  | .astore j => match n with
    | 1 => if h : j < 4 then some (.astore_n ⟨j, h⟩) else none
    | _ => some (.astore j)
  | .if_icmp c t => some (.if_icmp c (t - pc))
  | .ifCond c t => some (.ifCond c (t - pc))
  | .goto t => some (.goto (t - pc))
  | .ifnull t => some (.ifnull (t - pc))
  | .ifnonnull t => some (.ifnonnull (t - pc))
  | .getfield _ => some (.getfield aux)
  | .putfield _ => some (.putfield aux)
  | .dreturn => some .ireturn
  | i => some i
/-- the length that a plain instruction has, where it is one alone -/
def zlen (i : Instr) (n : Nat) : Bool := match i with
  | .iconst _ => true
  | .iload _ | .lload _ | .aload _ | .istore _ | .lstore _ | .astore _ => n == 1 || n == 2
  | .iinc _ _ | .if_icmp _ _ | .ifCond _ _ | .goto _ | .ifnull _ | .ifnonnull _ | .getfield _ | .putfield _ | .ldc2_w _ | .invokevirtual _ | .invokestatic _ | .invokespecial _ => n == 3
  | .tableswitch _ _ _ _ => true
  | _ => n == 1
def zfl (cl : List vw_C) (own : String) (Ts : List Cond) (e idx : Nat) (put : Bool) : Bool := match cl[e / 64]? with
  | some (C, T, N) => decide (e % 64 < N) && (decide (Cond.fieldLink own idx (T (e % 64)).1 (T (e % 64)).2.1 (T (e % 64)).2.2.1 ∈ Ts) && ((u_ws C T N).all (fun w => decide (w ∈ Ts)) &&
      (!put || (!(T (e % 64)).2.2.2 && (decide (parseFieldDescriptor (T (e % 64)).2.2.1 = some .int) || decide (parseFieldDescriptor (T (e % 64)).2.2.1 = some .boolean))))))
  | none => false
def zside (cl : List vw_C) (M : zM) (i : Instr) (n aux : Nat) : Bool := match i with
  | .iconst v => match aux with
    | 0 => true
    | a + 1 => decide (Cond.constant M.2.2.1 (a + 1) (Int32.ofInt v) ∈ M.2.2.2)
  | .ldc2_w v => decide (Cond.constantLong M.2.2.1 aux (Int64.ofNat v) ∈ M.2.2.2)
  | .if_icmp _ t | .ifCond _ t | .goto t | .ifnull t | .ifnonnull t => decide (0 ≤ t)
  | .getfield e => zfl cl M.2.2.1 M.2.2.2 e aux false
  | .putfield e => zfl cl M.2.2.1 M.2.2.2 e aux true
  | _ => true
def zok (cl : List vw_C) (M : zM) (r : Nat × Instr × Nat × Nat) : Bool := match zorig r.1 r.2.1 r.2.2.1 r.2.2.2 with
  | some d => decide (decode M.1 r.1 = .ok (d, r.2.2.1)) && (zlen r.2.1 r.2.2.1 && zside cl M r.2.1 r.2.2.1 r.2.2.2)
  | none => false
/-- the facts that stand all along a method -/
def ZF (X : zX) (M : zM) : Prop :=
  (xp X).tables.exec = Jvm.exec ∧ (xc X).code = M.1 ∧ (xs X).vm.findClass M.2.2.1 = some (xm X).cls ∧ (∀ w ∈ M.2.2.2, w.before (xa X) (xs X) = true) ∧
  zG (xD X) (xcl X) (xsh X) (xad X) (xs X) ∧ (∀ k, xsh X k ≠ none → xA X (xad X k)) ∧ zcl (xcl X) ∧ (∀ r ∈ M.2.1, zok (xcl X) M r = true)
theorem zok_spec {cl : List vw_C} {M : zM} {pc : Nat} {i : Instr} {n aux : Nat} (h : zok cl M (pc, i, n, aux) = true) : ∃ d, zorig pc i n aux = some d ∧ decode M.1 pc = .ok (d, n) ∧ zlen i n = true ∧ zside cl M i n aux = true := by
  unfold zok at h
  dsimp only at h
  split at h
  · rename_i d hd
    simp only [Bool.and_eq_true, decide_eq_true_eq] at h
    exact ⟨d, hd, h.1, h.2.1, h.2.2⟩
  · cases h
end
section
/-! ENGINE, part 2: arithmetic of plain integers, and one row an instruction over HW -/
theorem zi_toInt (a : Int) : (Int32.ofInt a).toInt = (a + 2147483648) % 4294967296 - 2147483648 := by
  rw [Int32.toInt_ofInt, show Int32.size = 4294967296 from rfl, Int.bmod_def]
  split <;> omega
theorem zi_eq (a b : Int) : Int32.ofInt a = Int32.ofInt b ↔ a % 4294967296 = b % 4294967296 := by
  rw [← Int32.toInt_inj, zi_toInt, zi_toInt]
  omega
theorem zi_lt (a b : Int) : Int32.ofInt a < Int32.ofInt b ↔ (a + 2147483648) % 4294967296 < (b + 2147483648) % 4294967296 := by
  rw [Int32.lt_iff_toInt_lt, zi_toInt, zi_toInt]
  omega
theorem zi_le (a b : Int) : Int32.ofInt a ≤ Int32.ofInt b ↔ (a + 2147483648) % 4294967296 ≤ (b + 2147483648) % 4294967296 := by
  rw [Int32.le_iff_toInt_le, zi_toInt, zi_toInt]
  omega
theorem zi_0 : (0 : Int32) = Int32.ofInt 0 := rfl
theorem zi_add (a b : Int) : Int32.ofInt a + Int32.ofInt b = Int32.ofInt (a + b) := by
  rw [← Int32.toInt_inj, Int32.toInt_add, zi_toInt, zi_toInt, zi_toInt, Int.bmod_def]
  split <;> omega
theorem zi_sub (a b : Int) : Int32.ofInt a - Int32.ofInt b = Int32.ofInt (a - b) := by
  rw [← Int32.toInt_inj, Int32.toInt_sub, zi_toInt, zi_toInt, zi_toInt, Int.bmod_def]
  split <;> omega
theorem zi_neg (a : Int) : -Int32.ofInt a = Int32.ofInt (-a) := by
  rw [← Int32.toInt_inj, Int32.toInt_neg, zi_toInt, zi_toInt, Int.bmod_def]
  split <;> omega
theorem zi_mul (a b : Int) : Int32.ofInt a * Int32.ofInt b = Int32.ofInt (a * b) := by
  rw [← Int32.toInt_inj, Int32.toInt_mul, Int32.toInt_ofInt, Int32.toInt_ofInt, Int32.toInt_ofInt, show Int32.size = 2 ^ 32 from rfl]
  rw [Int.bmod_mul_bmod, Int.mul_comm, Int.bmod_mul_bmod, Int.mul_comm]
def zb (x : Int64) : Nat := x.toBitVec.toNat
theorem zb_of (x : Int64) : Int64.ofNat (zb x) = x := by
  unfold zb
  rw [Int64.ofNat_bitVecToNat, Int64.ofBitVec_toBitVec]
def zand (a b : Int) : Int := (Int32.ofInt a &&& Int32.ofInt b).toInt
def zor (a b : Int) : Int := (Int32.ofInt a ||| Int32.ofInt b).toInt
def zxor (a b : Int) : Int := (Int32.ofInt a ^^^ Int32.ofInt b).toInt
def zshl (a b : Int) : Int := (Int32.ofInt a <<< (Int32.ofInt b &&& 31)).toInt
def zshr (a b : Int) : Int := (Int32.ofInt a >>> (Int32.ofInt b &&& 31)).toInt
def zush (a b : Int) : Int := (((Int32.ofInt a).toUInt32 >>> ((Int32.ofInt b).toUInt32 &&& Int32.toUInt32 31)).toInt32).toInt
def zdiv (a b : Int) : Int := (Int32.ofInt a / Int32.ofInt b).toInt
def zrem (a b : Int) : Int := (Int32.ofInt a - Int32.ofInt a / Int32.ofInt b * Int32.ofInt b).toInt
def zladd (a b : Nat) : Nat := zb (Int64.ofNat a + Int64.ofNat b)
def zlsub (a b : Nat) : Nat := zb (Int64.ofNat a - Int64.ofNat b)
def zland (a b : Nat) : Nat := zb (Int64.ofNat a &&& Int64.ofNat b)
def zlor (a b : Nat) : Nat := zb (Int64.ofNat a ||| Int64.ofNat b)
def zlxor (a b : Nat) : Nat := zb (Int64.ofNat a ^^^ Int64.ofNat b)
def zlneg (a : Nat) : Nat := zb (-Int64.ofNat a)
def zlshl (a : Nat) (b : Int) : Nat := zb (Int64.ofNat a <<< ((Int32.ofInt b).toInt64 &&& 63))
def zlshr (a : Nat) (b : Int) : Nat := zb (Int64.ofNat a >>> ((Int32.ofInt b).toInt64 &&& 63))
def zlush (a : Nat) (b : Int) : Nat := zb (((Int64.ofNat a).toUInt64 >>> ((Int32.ofInt b).toInt64.toUInt64 &&& Int64.toUInt64 63)).toInt64)
def zi2l (a : Int) : Nat := zb (Int32.ofInt a).toInt64
def zl2i (a : Nat) : Int := (Int64.ofNat a).toInt32.toInt
def zcmp (a b : Nat) : Int := (lg_cmp (Int64.ofNat a) (Int64.ofNat b)).toInt
/-- a store into the locals: what it covers is forgotten -/
def zkill (ls : List (Option zV)) : Nat → List (Option zV)
  | 0 => ls
  | j + 1 => match ls[j]? with
    | some (some (.inr (.inl _))) => ls.set j none
    | _ => ls
def zst1 (ls : List (Option zV)) (i : Nat) (v : zV) : List (Option zV) := (zkill ls i).set i (some v)
def zst2 (ls : List (Option zV)) (i : Nat) (v : zV) : List (Option zV) := ((zkill ls i).set i (some v)).set (i + 1) none
theorem zkill_len (ls : List (Option zV)) (i : Nat) : (zkill ls i).length = ls.length := by
  cases i with
  | zero => rfl
  | succ j => simp only [zkill]; split <;> simp
theorem zkill_get {ls : List (Option zV)} {i j : Nat} {v : zV} (h : (zkill ls i)[j]? = some (some v)) : ls[j]? = some (some v) ∧ (j + 1 = i → ∀ n, v ≠ .inr (.inl n)) := by
  cases i with
  | zero => exact ⟨h, fun e => by omega⟩
  | succ k =>
    simp only [zkill] at h
    split at h
    · rename_i n hn
      by_cases e : k = j
      · subst e
        rw [List.getElem?_set_self (List.getElem?_eq_some_iff.mp hn).1] at h
        cases h
      · rw [List.getElem?_set_ne e] at h
        exact ⟨h, fun e2 => by omega⟩
    · rename_i hn
      refine ⟨h, fun e n e2 => ?_⟩
      have : j = k := by omega
      subst this
      subst e2
      exact hn n h
theorem zv_cat (ad : Nat → Nat) (v : zV) (h : (zv ad v).category = 2) : ∃ n, v = .inr (.inl n) := by
  rcases v with a | n | x
  · cases h
  · exact ⟨n, rfl⟩
  · cases x <;> cases h
/-- the list that the kit's rows ask for -/
def zla (ad : Nat → Nat) (ls : List (Option zV)) : List (Nat × Value) := (List.range ls.length).filterMap (fun i => match ls[i]? with
  | some (some v) => some (i, zv ad v)
  | _ => none)
theorem zla_mem {ad : Nat → Nat} {ls : List (Option zV)} {q : Nat × Value} : q ∈ zla ad ls ↔ ∃ v, ls[q.1]? = some (some v) ∧ q.2 = zv ad v := by
  obtain ⟨i, w⟩ := q
  unfold zla
  rw [List.mem_filterMap]
  constructor
  · rintro ⟨j, -, h⟩
    split at h
    · rename_i v hv
      cases h
      exact ⟨v, hv, rfl⟩
    · cases h
  · rintro ⟨v, hv, e⟩
    dsimp only at hv e
    refine ⟨i, List.mem_range.mpr (List.getElem?_eq_some_iff.mp hv).1, ?_⟩
    rw [hv, e]
theorem zL.has {ad : Nat → Nat} {nL : Nat} {ls : List (Option zV)} {LS : Array Slot} (h : zL ad nL ls LS) : lv_has LS nL (zla ad ls) := by
  refine ⟨h.1, h.2.2.1, fun q hq => ?_⟩
  obtain ⟨v, h1, h2⟩ := zla_mem.mp hq
  rw [h2]
  exact h.2.2.2 q.1 v h1
theorem zL.st1 {ad : Nat → Nat} {nL : Nat} {ls : List (Option zV)} {LS LS' : Array Slot} {i : Nat} {v : zV} (h : zL ad nL ls LS) (h' : lv_has LS' nL ((i, zv ad v) :: (zla ad ls).filter (fun q => !(q.1 == i) && !(q.1 + 1 == i && q.2.category == 2)))) (hi : i < ls.length) : zL ad nL (zst1 ls i v) LS' := by
  refine ⟨h'.1, by unfold zst1; rw [List.length_set, zkill_len]; exact h.2.1, h'.2.1, fun j w hj => ?_⟩
  unfold zst1 at hj
  by_cases e : i = j
  · subst e
    rw [List.getElem?_set_self (by rw [zkill_len]; exact hi)] at hj
    cases hj
    exact h'.2.2 (i, zv ad v) List.mem_cons_self
  · rw [List.getElem?_set_ne e] at hj
    obtain ⟨h1, h2⟩ := zkill_get hj
    refine h'.2.2 (j, zv ad w) (List.mem_cons_of_mem _ (List.mem_filter.mpr ⟨zla_mem.mpr ⟨w, h1, rfl⟩, ?_⟩))
    simp only [Bool.and_eq_true, Bool.not_eq_true', beq_eq_false_iff_ne, ne_eq, Bool.and_eq_false_iff]
    refine ⟨fun e2 => e e2.symm, ?_⟩
    by_cases e3 : j + 1 = i
    · refine Or.inr fun e4 => ?_
      obtain ⟨n, hn⟩ := zv_cat ad w e4
      exact h2 e3 n hn
    · exact Or.inl e3
theorem zL.st2 {ad : Nat → Nat} {nL : Nat} {ls : List (Option zV)} {LS LS' : Array Slot} {i : Nat} {v : zV} (h : zL ad nL ls LS) (h' : lv_has LS' nL ((i, zv ad v) :: (zla ad ls).filter (fun q => !(q.1 == i) && (!(q.1 == i + 1) && !(q.1 + 1 == i && q.2.category == 2))))) (hi : i < ls.length) : zL ad nL (zst2 ls i v) LS' := by
  refine ⟨h'.1, by unfold zst2; rw [List.length_set, List.length_set, zkill_len]; exact h.2.1, h'.2.1, fun j w hj => ?_⟩
  unfold zst2 at hj
  by_cases e1 : i + 1 = j
  · subst e1
    rw [List.getElem?_set] at hj
    simp only [List.length_set, if_true] at hj
    split at hj <;> cases hj
  rw [List.getElem?_set_ne e1] at hj
  by_cases e : i = j
  · subst e
    rw [List.getElem?_set_self (by rw [zkill_len]; exact hi)] at hj
    cases hj
    exact h'.2.2 (i, zv ad v) List.mem_cons_self
  · rw [List.getElem?_set_ne e] at hj
    obtain ⟨h1, h2⟩ := zkill_get hj
    refine h'.2.2 (j, zv ad w) (List.mem_cons_of_mem _ (List.mem_filter.mpr ⟨zla_mem.mpr ⟨w, h1, rfl⟩, ?_⟩))
    simp only [Bool.and_eq_true, Bool.not_eq_true', beq_eq_false_iff_ne, ne_eq, Bool.and_eq_false_iff]
    refine ⟨fun e2 => e e2.symm, fun e2 => e1 e2.symm, ?_⟩
    by_cases e3 : j + 1 = i
    · refine Or.inr fun e4 => ?_
      obtain ⟨n, hn⟩ := zv_cat ad w e4
      exact h2 e3 n hn
    · exact Or.inl e3
section ZOPS
variable {X : zX} {M : zM} {pc n aux : Nat} {ls : List (Option zV)} {st : List zV} {F I : zFi} {J : zJi}
theorem zrow {i : Instr} (hX : ZF X M) (hr : (pc, i, n, aux) ∈ M.2.1) : ∃ d, zorig pc i n aux = some d ∧ decode M.1 pc = .ok (d, n) ∧ zlen i n = true ∧ zside (xcl X) M i n aux = true := zok_spec (hX.2.2.2.2.2.2.2 _ hr)
theorem hw_iconst {v : Int} (hX : ZF X M) (hr : (pc, .iconst v, n, aux) ∈ M.2.1) (k : HW X (pc + n) ls (.inl v :: st) F I J) : HW X pc ls st F I J := by
  obtain ⟨d, h1, h2, -, h4⟩ := zrow hX hr
  obtain ⟨hx, hb, hown, hts, -⟩ := hX
  intro H locs LS hW hS hL
  have kk := k H locs LS hW hS hL
  unfold zorig at h1
  dsimp only at h1
  split at h1
  · cases h1
    exact lv_iconst hx hb h2 rfl kk
  · split at h1
    · rename_i hv
      cases h1
      exact lv_bipush hx hb h2 (Int8.toInt32_ofInt (show (-128 : Int) ≤ v by omega) (show v ≤ (127 : Int) by omega)) kk
    · cases h1
  · split at h1
    · rename_i hv
      cases h1
      exact lv_sipush hx hb h2 (Int16.toInt32_ofInt (show (-32768 : Int) ≤ v by omega) (show v ≤ (32767 : Int) by omega)) kk
    · cases h1
  · cases h1
    exact lv_ldc hx hb hown (hts _ (of_decide_eq_true h4)) h2 kk
  · cases h1
    exact lv_ldcw hx hb hown (hts _ (of_decide_eq_true h4)) h2 kk
  · cases h1
theorem hw_lconst {v : Fin 2} (hX : ZF X M) (hr : (pc, .lconst v, n, aux) ∈ M.2.1) (k : HW X (pc + n) ls (.inr (.inl v.val) :: st) F I J) : HW X pc ls st F I J := by
  obtain ⟨d, h1, h2, h3, -⟩ := zrow hX hr
  cases h1
  cases (beq_iff_eq.mp h3 : n = 1)
  intro H locs LS hW hS hL
  exact lv_lconst hX.1 hX.2.1 h2 rfl (k H locs LS hW hS hL)
theorem hw_ldc2 {v : Nat} (hX : ZF X M) (hr : (pc, .ldc2_w v, n, aux) ∈ M.2.1) (k : HW X (pc + n) ls (.inr (.inl v) :: st) F I J) : HW X pc ls st F I J := by
  obtain ⟨d, h1, h2, h3, h4⟩ := zrow hX hr
  cases h1
  cases (beq_iff_eq.mp h3 : n = 3)
  intro H locs LS hW hS hL
  exact lv_ldc2 hX.1 hX.2.1 hX.2.2.1 (hX.2.2.2.1 _ (of_decide_eq_true h4)) h2 (k H locs LS hW hS hL)
theorem hw_iload {i : Nat} {x : Int} (hX : ZF X M) (hr : (pc, .iload i, n, aux) ∈ M.2.1) (hl : ls[i]? = some (some (.inl x))) (k : HW X (pc + n) ls (.inl x :: st) F I J) : HW X pc ls st F I J := by
  obtain ⟨d, h1, h2, h3, -⟩ := zrow hX hr
  obtain ⟨hx, hb, -⟩ := hX
  intro H locs LS hW hS hL
  have kk := k H locs LS hW hS hL
  have hl' := hL.2.2.2 i _ hl
  unfold zorig at h1
  dsimp only at h1
  split at h1
  · split at h1
    · cases h1
      exact lv_iload_n hx hb h2 rfl hl' kk
    · cases h1
  · cases h1
    rename_i hn
    have : n = 2 := by
      simp only [zlen, Bool.or_eq_true, beq_iff_eq] at h3
      exact h3.resolve_left hn
    subst this
    exact lv_iload hx hb h2 hl' kk
theorem hw_lload {i : Nat} {x : Nat} (hX : ZF X M) (hr : (pc, .lload i, n, aux) ∈ M.2.1) (hl : ls[i]? = some (some (.inr (.inl x)))) (k : HW X (pc + n) ls (.inr (.inl x) :: st) F I J) : HW X pc ls st F I J := by
  obtain ⟨d, h1, h2, h3, -⟩ := zrow hX hr
  obtain ⟨hx, hb, -⟩ := hX
  intro H locs LS hW hS hL
  have kk := k H locs LS hW hS hL
  have hl' := hL.2.2.2 i _ hl
  unfold zorig at h1
  dsimp only at h1
  split at h1
  · split at h1
    · cases h1
      exact lv_lload_n hx hb h2 rfl hl' kk
    · cases h1
  · cases h1
    rename_i hn
    have : n = 2 := by
      simp only [zlen, Bool.or_eq_true, beq_iff_eq] at h3
      exact h3.resolve_left hn
    subst this
    exact lv_lload hx hb h2 hl' kk
theorem hw_aload {i : Nat} {x : Option Nat} (hX : ZF X M) (hr : (pc, .aload i, n, aux) ∈ M.2.1) (hl : ls[i]? = some (some (.inr (.inr x)))) (k : HW X (pc + n) ls (.inr (.inr x) :: st) F I J) : HW X pc ls st F I J := by
  obtain ⟨d, h1, h2, h3, -⟩ := zrow hX hr
  obtain ⟨hx, hb, -⟩ := hX
  intro H locs LS hW hS hL
  have kk := k H locs LS hW hS hL
  have hl' := hL.2.2.2 i _ hl
  unfold zorig at h1
  dsimp only at h1
  split at h1
  · split at h1
    · cases h1
      cases x with
      | none => exact lv_aload_nN hx hb h2 rfl hl' kk
      | some x => exact lv_aload_n hx hb h2 rfl hl' kk
    · cases h1
  · cases h1
    rename_i hn
    have : n = 2 := by
      simp only [zlen, Bool.or_eq_true, beq_iff_eq] at h3
      exact h3.resolve_left hn
    subst this
    cases x with
    | none => exact lv_aloadN hx hb h2 hl' kk
    | some x => exact lv_aload hx hb h2 hl' kk
theorem hw_istore {i : Nat} {x : Int} (hX : ZF X M) (hr : (pc, .istore i, n, aux) ∈ M.2.1) (hi : i < ls.length) (k : HW X (pc + n) (zst1 ls i (.inl x)) st F I J) : HW X pc ls (.inl x :: st) F I J := by
  obtain ⟨d, h1, h2, h3, -⟩ := zrow hX hr
  obtain ⟨hx, hb, -⟩ := hX
  intro H locs LS hW hS hL
  unfold zorig at h1
  dsimp only at h1
  split at h1
  · split at h1
    · cases h1
      exact lv_istore_n hx hb h2 rfl hL.has (Nat.lt_of_lt_of_le hi hL.2.1) rfl fun LS' h' => k H locs LS' hW hS (hL.st1 (v := .inl x) h' hi)
    · cases h1
  · cases h1
    rename_i hn
    have : n = 2 := by
      simp only [zlen, Bool.or_eq_true, beq_iff_eq] at h3
      exact h3.resolve_left hn
    subst this
    exact lv_istore hx hb h2 hL.has (Nat.lt_of_lt_of_le hi hL.2.1) rfl fun LS' h' => k H locs LS' hW hS (hL.st1 (v := .inl x) h' hi)
theorem hw_astore {i : Nat} {x : Option Nat} (hX : ZF X M) (hr : (pc, .astore i, n, aux) ∈ M.2.1) (hi : i < ls.length) (k : HW X (pc + n) (zst1 ls i (.inr (.inr x))) st F I J) : HW X pc ls (.inr (.inr x) :: st) F I J := by
  obtain ⟨d, h1, h2, h3, -⟩ := zrow hX hr
  obtain ⟨hx, hb, -⟩ := hX
  intro H locs LS hW hS hL
  unfold zorig at h1
  dsimp only at h1
  split at h1
  · split at h1
    · cases h1
      cases x with
      | none => exact lv_astore_nN hx hb h2 rfl hL.has (Nat.lt_of_lt_of_le hi hL.2.1) rfl fun LS' h' => k H locs LS' hW hS (hL.st1 (v := .inr (.inr none)) h' hi)
      | some x => exact lv_astore_n hx hb h2 rfl hL.has (Nat.lt_of_lt_of_le hi hL.2.1) rfl fun LS' h' => k H locs LS' hW hS (hL.st1 (v := .inr (.inr (some x))) h' hi)
    · cases h1
  · cases h1
    rename_i hn
    have : n = 2 := by
      simp only [zlen, Bool.or_eq_true, beq_iff_eq] at h3
      exact h3.resolve_left hn
    subst this
    cases x with
    | none => exact lv_astoreN hx hb h2 hL.has (Nat.lt_of_lt_of_le hi hL.2.1) rfl fun LS' h' => k H locs LS' hW hS (hL.st1 (v := .inr (.inr none)) h' hi)
    | some x => exact lv_astore hx hb h2 hL.has (Nat.lt_of_lt_of_le hi hL.2.1) rfl fun LS' h' => k H locs LS' hW hS (hL.st1 (v := .inr (.inr (some x))) h' hi)
theorem hw_lstore {i : Nat} {x : Nat} (hX : ZF X M) (hr : (pc, .lstore i, n, aux) ∈ M.2.1) (hi : i + 1 < ls.length) (k : HW X (pc + n) (zst2 ls i (.inr (.inl x))) st F I J) : HW X pc ls (.inr (.inl x) :: st) F I J := by
  obtain ⟨d, h1, h2, h3, -⟩ := zrow hX hr
  obtain ⟨hx, hb, -⟩ := hX
  intro H locs LS hW hS hL
  unfold zorig at h1
  dsimp only at h1
  split at h1
  · split at h1
    · cases h1
      exact lv_lstore_n hx hb h2 rfl hL.has (Nat.lt_of_lt_of_le hi hL.2.1) rfl fun LS' h' => k H locs LS' hW hS (hL.st2 (v := .inr (.inl x)) h' (by omega))
    · cases h1
  · cases h1
    rename_i hn
    have : n = 2 := by
      simp only [zlen, Bool.or_eq_true, beq_iff_eq] at h3
      exact h3.resolve_left hn
    subst this
    exact lv_lstore hx hb h2 hL.has (Nat.lt_of_lt_of_le hi hL.2.1) rfl fun LS' h' => k H locs LS' hW hS (hL.st2 (v := .inr (.inl x)) h' (by omega))
theorem hw_iinc {i : Nat} {x w : Int} (hX : ZF X M) (hr : (pc, .iinc i w, n, aux) ∈ M.2.1) (hl : ls[i]? = some (some (.inl x))) (k : HW X (pc + n) (zst1 ls i (.inl (x + w))) st F I J) : HW X pc ls st F I J := by
  obtain ⟨d, h1, h2, h3, -⟩ := zrow hX hr
  cases h1
  cases (beq_iff_eq.mp h3 : n = 3)
  obtain ⟨hx, hb, -⟩ := hX
  intro H locs LS hW hS hL
  have hi : i < ls.length := (List.getElem?_eq_some_iff.mp hl).1
  obtain ⟨k0, hk0⟩ := List.getElem?_of_mem (zla_mem (ad := xad X) (q := (i, .int (Int32.ofInt x))).mpr ⟨_, hl, rfl⟩)
  exact lv_iinc (v := Int32.ofInt (x + w)) hx hb h2 hL.has hk0 (zi_add x w) (Nat.lt_of_lt_of_le hi hL.2.1) rfl fun LS' h' => k H locs LS' hW hS (hL.st1 (v := .inl (x + w)) h' hi)
end ZOPS
end
