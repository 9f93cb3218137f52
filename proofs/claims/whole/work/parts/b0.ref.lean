/-! the reference: its world; small methods of its tower -/
theorem wb_sshr (n : Nat) {k : Nat} (hk : k < 64) : (lN n >>> ((nI k).toInt64 &&& 63)).toBitVec = (BitVec.ofNat 64 n).sshiftRight k := by
  rw [wb_c k hk, Int64.toBitVec_shiftRight, wb_tb, wb_tb, wb_sm k hk]
  show (BitVec.ofNat 64 n).sshiftRight ((BitVec.ofNat 64 k).toNat) = _
  rw [BitVec.toNat_ofNat, Nat.mod_eq_of_lt (by omega)]
theorem zlbit {x k : Nat} (hx : x < 18446744073709551616) (hk : k < 64) : zland (zlshr x (k : Int)) 1 = if x.testBit k then 1 else 0 := by
  have h1 : (lN x >>> ((Int32.ofInt (k : Int)).toInt64 &&& 63)).toBitVec = (BitVec.ofNat 64 x).sshiftRight k := by
    rw [zi_nI]
    exact wb_sshr x hk
  have h2 : zlshr x (k : Int) = ((BitVec.ofNat 64 x).sshiftRight k).toNat := by
    unfold zlshr zb
    exact congrArg BitVec.toNat h1
  rw [h2, zland_eq (BitVec.isLt _) (by decide), Nat.and_one_is_mod]
  have h3 : ((BitVec.ofNat 64 x).sshiftRight k).toNat.testBit 0 = x.testBit k := by
    rw [← BitVec.getLsbD, BitVec.getLsbD_sshiftRight]
    rw [BitVec.getLsbD_ofNat]
    simp [hk]
  rw [Nat.testBit_zero] at h3
  cases hb : x.testBit k
  · rw [hb] at h3
    have := of_decide_eq_false h3
    rw [if_neg (by decide)]
    omega
  · rw [hb] at h3
    have := of_decide_eq_true h3
    rw [if_pos rfl]
    exact this
def zIA (sh : Nat → Option zS) (q n : Nat) : Prop := ∃ cA, sh q = some (.inr (.inl (cA, n)))
def zJA (sh : Nat → Option zS) (q n : Nat) : Prop := ∃ cA, sh q = some (.inr (.inr (.inl (cA, n))))
def mSl : List (Option (Option Nat)) := [some (some 61), some (some 62), some (some 63), some (some 64), some (some 65), some (some 66), some (some 67), none, none, some (some 68), none, some (some 69), some (some 70), none, some (some 71), some (some 72), some (some 73), none, some (some 74), none, none, some (some 75), none, some (some 76), some (some 77), some (some 78), none, some (some 79), none, some (some 80)]
/-- the reference's world -/
def zWM (sh : Nat → Option zS) : Prop := sh 60 = some (.inl (9, mSl)) ∧ zIA sh 61 17 ∧ zIA sh 62 64 ∧ zIA sh 63 256 ∧ zIA sh 64 192 ∧ zIA sh 65 960 ∧ zIA sh 66 960 ∧ zIA sh 67 4096 ∧ zIA sh 68 6 ∧ zIA sh 69 12 ∧ zIA sh 70 156 ∧ zIA sh 71 6 ∧ zIA sh 72 600 ∧ zJA sh 73 3000 ∧ zIA sh 74 450 ∧ zJA sh 75 4000 ∧ zIA sh 76 400 ∧ zJA sh 77 10 ∧ zJA sh 78 2000 ∧ zJA sh 79 2000 ∧ zIA sh 80 100
theorem zWM.o {sh : Nat → Option zS} (h : zWM sh) : sh 60 = some (.inl (9, mSl)) := h.1
theorem zWM.a61 {sh : Nat → Option zS} (h : zWM sh) : zIA sh 61 17 := h.2.1
theorem zWM.a62 {sh : Nat → Option zS} (h : zWM sh) : zIA sh 62 64 := h.2.2.1
theorem zWM.a63 {sh : Nat → Option zS} (h : zWM sh) : zIA sh 63 256 := h.2.2.2.1
theorem zWM.a64 {sh : Nat → Option zS} (h : zWM sh) : zIA sh 64 192 := h.2.2.2.2.1
theorem zWM.a65 {sh : Nat → Option zS} (h : zWM sh) : zIA sh 65 960 := h.2.2.2.2.2.1
theorem zWM.a66 {sh : Nat → Option zS} (h : zWM sh) : zIA sh 66 960 := h.2.2.2.2.2.2.1
theorem zWM.a67 {sh : Nat → Option zS} (h : zWM sh) : zIA sh 67 4096 := h.2.2.2.2.2.2.2.1
theorem zWM.a68 {sh : Nat → Option zS} (h : zWM sh) : zIA sh 68 6 := h.2.2.2.2.2.2.2.2.1
theorem zWM.a69 {sh : Nat → Option zS} (h : zWM sh) : zIA sh 69 12 := h.2.2.2.2.2.2.2.2.2.1
theorem zWM.a70 {sh : Nat → Option zS} (h : zWM sh) : zIA sh 70 156 := h.2.2.2.2.2.2.2.2.2.2.1
theorem zWM.a71 {sh : Nat → Option zS} (h : zWM sh) : zIA sh 71 6 := h.2.2.2.2.2.2.2.2.2.2.2.1
theorem zWM.a72 {sh : Nat → Option zS} (h : zWM sh) : zIA sh 72 600 := h.2.2.2.2.2.2.2.2.2.2.2.2.1
theorem zWM.a73 {sh : Nat → Option zS} (h : zWM sh) : zJA sh 73 3000 := h.2.2.2.2.2.2.2.2.2.2.2.2.2.1
theorem zWM.a74 {sh : Nat → Option zS} (h : zWM sh) : zIA sh 74 450 := h.2.2.2.2.2.2.2.2.2.2.2.2.2.2.1
theorem zWM.a75 {sh : Nat → Option zS} (h : zWM sh) : zJA sh 75 4000 := h.2.2.2.2.2.2.2.2.2.2.2.2.2.2.2.1
theorem zWM.a76 {sh : Nat → Option zS} (h : zWM sh) : zIA sh 76 400 := h.2.2.2.2.2.2.2.2.2.2.2.2.2.2.2.2.1
theorem zWM.a77 {sh : Nat → Option zS} (h : zWM sh) : zJA sh 77 10 := h.2.2.2.2.2.2.2.2.2.2.2.2.2.2.2.2.2.1
theorem zWM.a78 {sh : Nat → Option zS} (h : zWM sh) : zJA sh 78 2000 := h.2.2.2.2.2.2.2.2.2.2.2.2.2.2.2.2.2.2.1
theorem zWM.a79 {sh : Nat → Option zS} (h : zWM sh) : zJA sh 79 2000 := h.2.2.2.2.2.2.2.2.2.2.2.2.2.2.2.2.2.2.2.1
theorem zWM.a80 {sh : Nat → Option zS} (h : zWM sh) : zIA sh 80 100 := h.2.2.2.2.2.2.2.2.2.2.2.2.2.2.2.2.2.2.2.2
theorem c_X9_in (l : Launch) (D : va_G) (sh : Nat → Option zS) (F I : zFi) (J : zJi) {x lo hi : Int} (h1 : zi32 x) (h2 : zi32 lo) (h3 : zi32 hi) :
    Cn l D yX9_in wsX9_in mX9_in.2.2.2.2 sh [.inl x, .inl lo, .inl hi] F I J (zself F I J (.inl (if lo ≤ x ∧ x ≤ hi then 1 else 0))) := by
  unfold zi32 at h1 h2 h3
  refine zmet (M := mX9_in) rfl rfl rfl kX9_in (Nat.le_of_ble_eq_true rfl) (fun X hX hR hl hD hsh => ?_)
  subst hl hD hsh
  refine zgo (fun _ => false) 200 hX hR rfl ?_
  refine And.intro (fun c1 => ?_) (fun c1 => ?_)
  · exact And.intro (Or.inl rfl) ⟨by rw [if_neg (by omega)], rfl, rfl, rfl⟩
  refine And.intro (fun c2 => ?_) (fun c2 => ?_)
  · exact And.intro (Or.inl rfl) ⟨by rw [if_neg (by omega)], rfl, rfl, rfl⟩
  · exact And.intro (Or.inr rfl) ⟨by rw [if_pos (by omega)], rfl, rfl, rfl⟩
/-- where words begin -/
def mBg (I : zFi) : Prop := ∀ j, j ≤ 15 → I 61 j = (aS j : Int)
theorem c_X9_manyOf (l : Launch) (D : va_G) (sh : Nat → Option zS) (hs : zWM sh) (F I : zFi) (J : zJi) (hb : mBg I) {x : Nat} (hx : x ≤ 14) :
    Cn l D yX9_manyOf wsX9_manyOf mX9_manyOf.2.2.2.2 sh [.inr (.inr (some 60)), .inl (x : Int)] F I J (zself F I J (.inl (bsz aS (x : Int)))) := by
  obtain ⟨cA, h61⟩ := hs.a61
  refine zmet (M := mX9_manyOf) rfl rfl rfl kX9_manyOf (Nat.le_of_ble_eq_true rfl) (fun X hX hR hl hD hsh => ?_)
  subst hl hD hsh
  refine zgo (fun _ => false) 200 hX hR rfl ?_
  refine Exists.intro _ ⟨hs.o, ?_⟩
  refine Exists.intro _ ⟨_, x + 1, h61, rfl, by omega, ?_⟩
  refine Exists.intro _ ⟨hs.o, ?_⟩
  refine Exists.intro _ ⟨_, x, h61, rfl, by omega, ?_⟩
  refine And.intro ?_ ⟨rfl, rfl, rfl⟩
  rw [hb (x + 1) (by omega), hb x (by omega)]
  unfold bsz
  rw [if_pos (by omega), Int.toNat_natCast]
theorem c_X9_offset (l : Launch) (D : va_G) (sh : Nat → Option zS) (hs : zWM sh) (F I : zFi) (J : zJi) (hb : mBg I) {s g t : Nat} {d : Nat → Nat} (hs6 : s < 6) (hg : g ≤ 72) (ht : t ≤ 14) (hd : ∀ a, a < g → I 72 (100 * s + a) = (d a : Int) ∧ d a ≤ 14) :
    Cn l D yX9_offset wsX9_offset mX9_offset.2.2.2.2 sh [.inr (.inr (some 60)), .inl (s : Int), .inl (g : Int), .inl (t : Int)] F I J (zself F I J (.inl (flP aS d t g : Int))) := by
  obtain ⟨cA, h72⟩ := hs.a72
  refine zmet (M := mX9_offset) rfl rfl rfl kX9_offset (Nat.le_of_ble_eq_true rfl) (fun X hX hR hl hD hsh => ?_)
  subst hl hD hsh
  have loop : ∀ m k : Nat, k + m = g → ∀ l6, HW X 6 [some (.inr (.inr (some 60))), some (.inl (s : Int)), some (.inl (g : Int)), some (.inl (t : Int)), some (.inl (flP aS d t k : Int)), some (.inl (k : Int)), l6] [] F I J := by
    intro m
    induction m with
    | zero =>
      intro k hk l6
      refine zgo (fun pc => Nat.beq pc 6) 200 hX hR rfl ?_
      refine And.intro (fun c1 => ?_) (fun c1 => by omega)
      exact And.intro (by rw [show k = g by omega]) ⟨rfl, rfl, rfl⟩
    | succ m ih =>
      intro k hk l6
      obtain ⟨e1, e2⟩ := hd k (by omega)
      have hsz := aS_30 ((t : Int) - d k)
      have h6 := ih (k + 1) (by omega) (some (.inl ((t : Int) - (d k : Int))))
      rw [show ((flP aS d t (k + 1) : Nat) : Int) = (flP aS d t k : Int) + bsz aS ((t : Int) - d k) by
        rw [show flP aS d t (k + 1) = flP aS d t k + (bsz aS ((t : Int) - d k)).toNat from rfl]
        omega] at h6
      refine zgo (fun pc => Nat.beq pc 6) 200 hX hR rfl ?_
      refine And.intro (fun c1 => by omega) (fun c1 => ?_)
      refine Exists.intro _ ⟨hs.o, ?_⟩
      refine Exists.intro _ ⟨_, 100 * s + k, h72, by omega, by omega, ?_⟩
      rw [e1]
      refine And.intro (fun c2 => ?_) (fun c2 => ?_)
      · obtain ⟨x, hx⟩ := Int.eq_ofNat_of_zero_le (show 0 ≤ (t : Int) - d k by omega)
        have cM := c_X9_manyOf (xl X) (xD X) (xsh X) hs F I J hb (x := x) (by omega)
        rw [← hx] at cM
        refine qX9_offset_87 hX cM hs.o (fun v F' I' J' hv => ?_)
        obtain ⟨rfl, rfl, rfl, rfl⟩ := hv
        exact h6
      · have hz : bsz aS ((t : Int) - d k) = 0 := by
          unfold bsz
          rw [if_neg (by omega)]
        rw [hz] at h6
        exact h6
  refine zgo (fun pc => Nat.beq pc 6) 200 hX hR rfl ?_
  exact loop g 0 (by omega) none
/-- the reference's floors as they lie in memory -/
def RTM (I : zFi) (J : zJi) (G : Nat → Nat) (d : Nat → Nat → Nat) (gb : Nat → Nat → Nat → Bool) : Prop :=
  (∀ s, s < 6 → I 71 s = (G s : Int) ∧ G s ≤ 72 ∧ (∀ a, a < G s → I 72 (100 * s + a) = (d s a : Int) ∧ d s a ≤ 14) ∧ ∀ a, a < G s → rq J 73 5 (100 * s + a) = gb s a) ∧ ∀ j, J 73 j < 18446744073709551616
theorem c_X9_wide (l : Launch) (D : va_G) (sh : Nat → Option zS) (hs : zWM sh) (F I : zFi) (J : zJi) (hb : mBg I) {G : Nat → Nat} {d : Nat → Nat → Nat} {gb : Nat → Nat → Nat → Bool} (hM : RTM I J G d gb) {s t : Nat} (hs6 : s < 6) (ht : t ≤ 14) :
    Cn l D yX9_wide wsX9_wide mX9_wide.2.2.2.2 sh [.inr (.inr (some 60)), .inl (s : Int), .inl (t : Int)] F I J (zself F I J (.inl (flP aS (d s) t (G s) : Int))) := by
  obtain ⟨cA, h71⟩ := hs.a71
  obtain ⟨m1, m2, m3, m4⟩ := hM.1 s hs6
  refine zmet (M := mX9_wide) rfl rfl rfl kX9_wide (Nat.le_of_ble_eq_true rfl) (fun X hX hR hl hD hsh => ?_)
  subst hl hD hsh
  refine zgo (fun _ => false) 200 hX hR rfl ?_
  refine Exists.intro _ ⟨hs.o, ?_⟩
  refine Exists.intro _ ⟨_, s, h71, rfl, by omega, ?_⟩
  rw [m1]
  refine qX9_wide_175 hX (c_X9_offset (xl X) (xD X) (xsh X) hs F I J hb hs6 m2 ht m3) hs.o (fun v F' I' J' hv => ?_)
  obtain ⟨rfl, rfl, rfl, rfl⟩ := hv
  exact And.intro rfl ⟨rfl, rfl, rfl⟩
def trn (J : zJi) (b : Nat) : zJi := zw J 77 (b / 64) (J 77 (b / 64) ^^^ 2 ^ (b % 64))
theorem c_X9_turns (l : Launch) (D : va_G) (sh : Nat → Option zS) (hs : zWM sh) (F I : zFi) (J : zJi) (hJ : ∀ j, J 77 j < 18446744073709551616) {b : Nat} (hb : b < 640) :
    Cn l D yX9_turns wsX9_turns mX9_turns.2.2.2.2 sh [.inr (.inr (some 60)), .inl (b : Int)] F I J (fun v F' I' J' => v = none ∧ F' = F ∧ I' = I ∧ J' = trn J b) := by
  obtain ⟨cA, h77⟩ := hs.a77
  have e1 := zshr6 (p := b) (by omega)
  have e2 := zand63 (p := b) (by omega)
  have hp : 2 ^ (b % 64) < 18446744073709551616 := show 2 ^ (b % 64) < 2 ^ 64 from Nat.pow_lt_pow_right (by decide) (by omega)
  refine zmet (M := mX9_turns) rfl rfl rfl kX9_turns (Nat.le_of_ble_eq_true rfl) (fun X hX hR hl hD hsh => ?_)
  subst hl hD hsh
  refine zgo (fun _ => false) 200 hX hR rfl ?_
  refine Exists.intro _ ⟨hs.o, ?_⟩
  refine Exists.intro _ ⟨_, b / 64, h77, e1, by omega, ?_⟩
  refine Exists.intro _ ⟨_, b / 64, h77, e1, by omega, ?_⟩
  refine And.intro rfl ⟨rfl, rfl, ?_⟩
  unfold trn
  congr 1
  rw [e2]
  show zlxor _ (zlshl 1 _) = _
  rw [zlshl_eq (by omega), Nat.one_mul, Nat.mod_eq_of_lt hp, zlxor_eq (hJ _) hp]
theorem trn_bit {J : zJi} {b : Nat} (hb : b < 640) (p : Nat) : rq (trn J b) 77 10 0 p = (rq J 77 10 0 p ^^ decide (p = b)) := by
  unfold trn
  by_cases hp : p < 64 * 10
  · rw [rq_in hp, rq_in hp]
    by_cases e : p / 64 = b / 64
    · rw [show 0 * 10 + p / 64 = b / 64 by omega, zw_s, Nat.testBit_xor]
      congr 1
      by_cases e2 : p % 64 = b % 64
      · rw [e2, Nat.testBit_two_pow_self, decide_eq_true (by omega)]
      · rw [Nat.testBit_two_pow_of_ne (fun z => e2 z.symm), decide_eq_false (by omega)]
    · rw [zw_n (by omega), decide_eq_false (by omega), Bool.xor_false]
  · rw [rq_out (by omega), rq_out (by omega), decide_eq_false (by omega)]
    rfl
theorem trn_lt {J : zJi} {b : Nat} (h : ∀ j, J 77 j < 18446744073709551616) : ∀ j, trn J b 77 j < 18446744073709551616 := by
  intro j
  unfold trn zw
  split
  · exact Nat.xor_lt_two_pow (n := 64) (h _) (Nat.pow_lt_pow_right (by decide) (Nat.mod_lt _ (by decide)))
  · exact h j
theorem trn_r {J : zJi} {a b : Nat} (h : a ≠ 77) : trn J b a = J a := zw_r h
theorem c_X9_clearNow (l : Launch) (D : va_G) (sh : Nat → Option zS) (hs : zWM sh) (F I : zFi) (J : zJi) :
    Cn l D yX9_clearNow wsX9_clearNow mX9_clearNow.2.2.2.2 sh [.inr (.inr (some 60))] F I J (fun v F' I' J' => v = none ∧ F' = F ∧ I' = I ∧ J' = zz J 77 0 10) := by
  obtain ⟨cA, h77⟩ := hs.a77
  refine zmet (M := mX9_clearNow) rfl rfl rfl kX9_clearNow (Nat.le_of_ble_eq_true rfl) (fun X hX hR hl hD hsh => ?_)
  subst hl hD hsh
  have loop : ∀ m k : Nat, k + m = 10 → HW X 2 [some (.inr (.inr (some 60))), some (.inl (k : Int))] [] F I (zz J 77 0 (0 + k)) := by
    intro m
    induction m with
    | zero =>
      intro k hk
      refine zgo (fun pc => Nat.beq pc 2) 200 hX hR rfl ?_
      refine And.intro (fun c1 => ?_) (fun c1 => by omega)
      exact And.intro rfl ⟨rfl, rfl, by rw [show 0 + k = 10 by omega]⟩
    | succ m ih =>
      intro k hk
      have h := ih (k + 1) (by omega)
      rw [← zz_step] at h
      refine zgo (fun pc => Nat.beq pc 2) 200 hX hR rfl ?_
      refine And.intro (fun c1 => by omega) (fun c1 => ?_)
      refine Exists.intro _ ⟨hs.o, ?_⟩
      refine Exists.intro _ ⟨_, 0 + k, h77, by omega, by omega, ?_⟩
      exact h
  have h0 := loop 10 0 (by decide)
  rw [zz_0] at h0
  refine zgo (fun pc => Nat.beq pc 2) 200 hX hR rfl ?_
  exact h0
/-- the first bit of the row in hand -/
def ldR (J : zJi) (x : Int) : Prop := (x = -1 ∧ ∀ p, p < 320 → rq J 77 10 0 p = false) ∨ ∃ t : Nat, t < 320 ∧ x = (t : Int) ∧ rq J 77 10 0 t = true ∧ ∀ q, q < t → rq J 77 10 0 q = false
theorem c_X9_lead (l : Launch) (D : va_G) (sh : Nat → Option zS) (hs : zWM sh) (F I : zFi) (J : zJi) (hJ : ∀ j, J 77 j < 18446744073709551616) :
    Cn l D yX9_lead wsX9_lead mX9_lead.2.2.2.2 sh [.inr (.inr (some 60))] F I J (fun v F' I' J' => F' = F ∧ I' = I ∧ J' = J ∧ ∃ x, v = some (.inl x) ∧ ldR J x) := by
  obtain ⟨cA, h77⟩ := hs.a77
  refine zmet (M := mX9_lead) rfl rfl rfl kX9_lead (Nat.le_of_ble_eq_true rfl) (fun X hX hR hl hD hsh => ?_)
  subst hl hD hsh
  have hrq : ∀ k j, k < 10 → j < 64 → rq J 77 10 0 (64 * k + j) = (J 77 k).testBit j := fun k j hk hj => by
    rw [rq_in (by omega), show 0 * 10 + (64 * k + j) / 64 = k by omega, show (64 * k + j) % 64 = j by omega]
  have loop : ∀ m k : Nat, k + m = 5 → ∀ l2, (∀ p, p < 64 * k → rq J 77 10 0 p = false) → HW X 2 [some (.inr (.inr (some 60))), some (.inl (k : Int)), l2] [] F I J := by
    intro m
    induction m with
    | zero =>
      intro k hk l2 hz
      refine zgo (fun pc => Nat.beq pc 2) 200 hX hR rfl ?_
      refine And.intro (fun c1 => ?_) (fun c1 => by omega)
      exact And.intro rfl ⟨rfl, rfl, -1, rfl, Or.inl ⟨rfl, fun p hp => hz p (by omega)⟩⟩
    | succ m ih =>
      intro k hk l2 hz
      have hc0 := zcmp_eq (a := J 77 k) (b := 0) (hJ k) (by decide)
      refine zgo (fun pc => Nat.beq pc 2 || Nat.beq pc 23) 200 hX hR rfl ?_
      refine And.intro (fun c1 => by omega) (fun c1 => ?_)
      refine Exists.intro _ ⟨hs.o, ?_⟩
      refine Exists.intro _ ⟨_, k, h77, rfl, by omega, ?_⟩
      refine And.intro (fun c2 => ?_) (fun c2 => ?_)
      · have e0 : J 77 k = 0 := hc0.mp c2
        refine ih (k + 1) (by omega) l2 (fun p hp => ?_)
        rcases Nat.lt_or_ge p (64 * k) with g | g
        · exact hz p g
        · rw [show p = 64 * k + (p - 64 * k) by omega, hrq k _ (by omega) (by omega), e0, Nat.zero_testBit]
      · have e0 : J 77 k ≠ 0 := fun z => c2 (hc0.mpr z)
        obtain ⟨τ, t1, t2, -⟩ := top_bit 64 (J 77 k) (Nat.pos_of_ne_zero e0) (hJ k)
        have inner : ∀ r j, j + r = τ → (∀ i, i < j → (J 77 k).testBit i = false) → HW X 23 [some (.inr (.inr (some 60))), some (.inl (k : Int)), some (.inl ((64 * k + j : Nat) : Int))] [] F I J := by
          intro r
          induction r with
          | zero =>
            intro j hj hzj
            have hj' : j = τ := by omega
            subst hj'
            have hb := zlbit (x := J 77 k) (k := j) (hJ k) t1
            rw [t2, if_pos rfl] at hb
            have hm := zand63 (p := 64 * k + j) (by omega)
            rw [show (64 * k + j) % 64 = j by omega] at hm
            rw [← hm] at hb
            refine zgo (fun pc => Nat.beq pc 2 || Nat.beq pc 23) 200 hX hR rfl ?_
            refine Exists.intro _ ⟨hs.o, ?_⟩
            refine Exists.intro _ ⟨_, k, h77, rfl, by omega, ?_⟩
            refine And.intro (fun c3 => ?_) (fun c3 => ?_)
            · refine And.intro rfl ⟨rfl, rfl, _, rfl, Or.inr ⟨64 * k + j, by omega, rfl, by rw [hrq k j (by omega) t1]; exact t2, fun q hq => ?_⟩⟩
              rcases Nat.lt_or_ge q (64 * k) with g | g
              · exact hz q g
              · rw [show q = 64 * k + (q - 64 * k) by omega, hrq k _ (by omega) (by omega)]
                exact hzj _ (by omega)
            · exfalso
              have := (zcmp_eq (a := 1) (b := 0) (by decide) (by decide)).mp (Eq.mp (congrArg (fun y => zcmp y 0 % 4294967296 = 0) hb) c3)
              cases this
          | succ r ihr =>
            intro j hj hzj
            cases hbj : (J 77 k).testBit j
            · have hb := zlbit (x := J 77 k) (k := j) (hJ k) (by omega)
              rw [hbj, if_neg (by decide)] at hb
              have hm := zand63 (p := 64 * k + j) (by omega)
              rw [show (64 * k + j) % 64 = j by omega] at hm
              rw [← hm] at hb
              have h := ihr (j + 1) (by omega) (fun i hi => by
                by_cases e : i = j
                · rw [e]; exact hbj
                · exact hzj i (by omega))
              refine zgo (fun pc => Nat.beq pc 2 || Nat.beq pc 23) 200 hX hR rfl ?_
              refine Exists.intro _ ⟨hs.o, ?_⟩
              refine Exists.intro _ ⟨_, k, h77, rfl, by omega, ?_⟩
              refine And.intro (fun c3 => ?_) (fun c3 => ?_)
              · exfalso
                exact c3 (Eq.mpr (congrArg (fun y => zcmp y 0 % 4294967296 = 0) hb) ((zcmp_eq (a := 0) (b := 0) (by decide) (by decide)).mpr rfl))
              · exact h
            · have hb := zlbit (x := J 77 k) (k := j) (hJ k) (by omega)
              rw [hbj, if_pos rfl] at hb
              have hm := zand63 (p := 64 * k + j) (by omega)
              rw [show (64 * k + j) % 64 = j by omega] at hm
              rw [← hm] at hb
              refine zgo (fun pc => Nat.beq pc 2 || Nat.beq pc 23) 200 hX hR rfl ?_
              refine Exists.intro _ ⟨hs.o, ?_⟩
              refine Exists.intro _ ⟨_, k, h77, rfl, by omega, ?_⟩
              refine And.intro (fun c3 => ?_) (fun c3 => ?_)
              · refine And.intro rfl ⟨rfl, rfl, _, rfl, Or.inr ⟨64 * k + j, by omega, rfl, by rw [hrq k j (by omega) (by omega)]; exact hbj, fun q hq => ?_⟩⟩
                rcases Nat.lt_or_ge q (64 * k) with g | g
                · exact hz q g
                · rw [show q = 64 * k + (q - 64 * k) by omega, hrq k _ (by omega) (by omega)]
                  exact hzj _ (by omega)
              · exfalso
                have := (zcmp_eq (a := 1) (b := 0) (by decide) (by decide)).mp (Eq.mp (congrArg (fun y => zcmp y 0 % 4294967296 = 0) hb) c3)
                cases this
        have h0 := inner τ 0 (by omega) (fun i hi => by omega)
        rw [Nat.add_zero] at h0
        exact h0
  refine zgo (fun pc => Nat.beq pc 2) 200 hX hR rfl ?_
  exact loop 5 0 (by decide) none (fun p hp => by omega)
