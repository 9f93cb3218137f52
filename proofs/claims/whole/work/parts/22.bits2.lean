/-! BitRows: open, add, copy -/
def zz (J : zJi) (c lo hi : Nat) : zJi := fun a b => if a = c ∧ lo ≤ b ∧ b < hi then 0 else J a b
theorem zz_0 (J : zJi) (c lo : Nat) : zz J c lo (lo + 0) = J := by
  funext a b
  unfold zz
  rw [if_neg (by omega)]
theorem zz_step (J : zJi) (c lo w : Nat) : zw (zz J c lo (lo + w)) c (lo + w) 0 = zz J c lo (lo + (w + 1)) := by
  funext a b
  unfold zw zz
  by_cases h1 : a = c ∧ b = lo + w
  · rw [if_pos h1, if_pos ⟨h1.1, by omega⟩]
  · rw [if_neg h1]
    by_cases h2 : a = c ∧ lo ≤ b ∧ b < lo + w
    · rw [if_pos h2, if_pos ⟨h2.1, by omega⟩]
    · rw [if_neg h2, if_neg (by omega)]
theorem c_X1_open (l : Launch) (D : va_G) (sh : Nat → Option zS) {k c m : Nat} (hs : zsBits sh k c m) (F I : zFi) (J : zJi) {W C : Nat} (hb : bR F J k c m W C) (hroom : (C + 1) * W ≤ m) :
    Cn l D yX1_open wsX1_open mX1_open.2.2.2.2 sh [.inr (.inr (some k))] F I J (fun v F' I' J' => v = some (.inl (C : Int)) ∧ F' = zu F k 2 ((C + 1 : Nat) : Int) ∧ I' = I ∧ J' = zz J c (C * W) (C * W + W)) := by
  obtain ⟨hk, cA, hc⟩ := hs
  have hC' := hb.C
  obtain ⟨hW, hC, hm, hw1, hw5, hm1, hj⟩ := hb
  have hsucc : (C + 1) * W = C * W + W := Nat.succ_mul C W
  refine zmet (M := mX1_open) rfl rfl rfl kX1_open (Nat.le_of_ble_eq_true rfl) (fun X hX hR hl hD hsh => ?_)
  subst hl hD hsh
  have loop : ∀ n w : Nat, w + n = W → HW X 23 [some (.inr (.inr (some k))), some (.inl (w : Int))] [] F I (zz J c (C * W) (C * W + w)) := by
    intro n
    induction n with
    | zero =>
      intro w hw
      refine zgo (fun pc => Nat.beq pc 23) 200 hX hR rfl ?_
      refine Exists.intro _ ⟨hk, ?_⟩
      refine And.intro (fun c1 => ?_) (fun c1 => ?_)
      · refine Exists.intro _ ⟨hk, ?_⟩
        refine Exists.intro _ ⟨hk, ?_⟩
        refine Exists.intro _ ⟨hk, ?_⟩
        refine And.intro ?_ ⟨?_, rfl, ?_⟩
        · rw [zu_s, hC]
          congr 2
          omega
        · rw [hC]
          rfl
        · rw [show w = W by omega]
      · omega
    | succ n ih =>
      intro w hw
      refine zgo (fun pc => Nat.beq pc 23) 200 hX hR rfl ?_
      refine Exists.intro _ ⟨hk, ?_⟩
      refine And.intro (fun c1 => ?_) (fun c1 => ?_)
      · omega
      · refine Exists.intro _ ⟨hk, ?_⟩
        refine Exists.intro _ ⟨hk, ?_⟩
        refine Exists.intro _ ⟨hk, ?_⟩
        refine Exists.intro _ ⟨_, C * W + w, hc, by rw [hC, hW]; simp, by omega, ?_⟩
        have h2 := ih (w + 1) (by omega)
        rw [← zz_step] at h2
        exact h2
  refine zgo (fun pc => Nat.beq pc 23) 200 hX hR rfl ?_
  refine Exists.intro _ ⟨hk, ?_⟩
  refine Exists.intro _ ⟨hk, ?_⟩
  refine Exists.intro _ ⟨hk, ?_⟩
  refine Exists.intro _ ⟨hc, ?_⟩
  refine And.intro (fun c1 => ?_) (fun c1 => ?_)
  · have := loop W 0 (by omega)
    rw [zz_0] at this
    exact this
  · exfalso
    rw [hC, hW, show ((C : Int) + 1) * (W : Int) = (((C + 1) * W : Nat) : Int) by simp] at c1
    omega
/-- the words after add, w words on -/
def bad (J : zJi) (c W r o w : Nat) : zJi := fun a b => if a = c ∧ r * W ≤ b ∧ b < r * W + w then J c b ^^^ J c (o * W + (b - r * W)) else J a b
theorem bad_0 (J : zJi) (c W r o : Nat) : bad J c W r o 0 = J := by
  funext a b
  unfold bad
  rw [if_neg (by omega)]
theorem c_X1_add (l : Launch) (D : va_G) (sh : Nat → Option zS) {k c m : Nat} (hs : zsBits sh k c m) (F I : zFi) (J : zJi) {W C : Nat} (hb : bR F J k c m W C) {r o : Nat} (hr : r < C) (ho : o < C) (hro : r ≠ o) :
    Cn l D yX1_add wsX1_add mX1_add.2.2.2.2 sh [.inr (.inr (some k)), .inl r, .inl o] F I J (fun v F' I' J' => v = none ∧ F' = F ∧ I' = I ∧ J' = bad J c W r o W) := by
  obtain ⟨hk, cA, hc⟩ := hs
  have hC' := hb.C
  obtain ⟨hW, hC, hm, hw1, hw5, hm1, hj⟩ := hb
  refine zmet (M := mX1_add) rfl rfl rfl kX1_add (Nat.le_of_ble_eq_true rfl) (fun X hX hR' hl hD hsh => ?_)
  subst hl hD hsh
  have hR := hR'
  have loop : ∀ n w : Nat, w + n = W → HW X 27 [some (.inr (.inr (some k))), some (.inl (r : Int)), some (.inl (o : Int)), some (.inl (w : Int))] [] F I (bad J c W r o w) := by
    intro n
    induction n with
    | zero =>
      intro w hw
      refine zgo (fun pc => Nat.beq pc 27) 200 hX hR rfl ?_
      refine Exists.intro _ ⟨hk, ?_⟩
      refine And.intro (fun c1 => ?_) (fun c1 => ?_)
      · exact And.intro rfl ⟨rfl, rfl, by rw [show w = W by omega]⟩
      · omega
    | succ n ih =>
      intro w hw
      have i1 := Nat.lt_of_lt_of_le (zmul_lt (r := r) (w := w) (C := C) (W := W) hr (by omega)) hm
      have i2 := Nat.lt_of_lt_of_le (zmul_lt (r := o) (w := w) (C := C) (W := W) ho (by omega)) hm
      refine zgo (fun pc => Nat.beq pc 27) 200 hX hR rfl ?_
      refine Exists.intro _ ⟨hk, ?_⟩
      refine And.intro (fun c1 => ?_) (fun c1 => ?_)
      · omega
      · refine Exists.intro _ ⟨hk, ?_⟩
        refine Exists.intro _ ⟨hk, ?_⟩
        refine Exists.intro _ ⟨_, r * W + w, hc, by rw [hW]; simp, i1, ?_⟩
        refine Exists.intro _ ⟨hk, ?_⟩
        refine Exists.intro _ ⟨hk, ?_⟩
        refine Exists.intro _ ⟨_, o * W + w, hc, by rw [hW]; simp, i2, ?_⟩
        refine Exists.intro _ ⟨_, r * W + w, hc, by rw [hW]; simp, i1, ?_⟩
        have e1 : bad J c W r o w c (r * W + w) = J c (r * W + w) := by
          unfold bad
          rw [if_neg (by omega)]
        have e2 : bad J c W r o w c (o * W + w) = J c (o * W + w) := by
          unfold bad
          rw [if_neg]
          intro h
          have h1 := h.2
          rcases Nat.lt_or_gt_of_ne hro with g | g
          · have : (r + 1) * W ≤ o * W := Nat.mul_le_mul_right W g
            rw [Nat.succ_mul] at this
            omega
          · have : (o + 1) * W ≤ r * W := Nat.mul_le_mul_right W g
            rw [Nat.succ_mul] at this
            omega
        have e3 : zw (bad J c W r o w) c (r * W + w) (zlxor (bad J c W r o w c (r * W + w)) (bad J c W r o w c (o * W + w))) = bad J c W r o (w + 1) := by
          rw [e1, e2, zlxor_eq (hj _) (hj _)]
          funext a b
          unfold zw bad
          by_cases h1 : a = c ∧ b = r * W + w
          · obtain ⟨rfl, rfl⟩ := h1
            rw [if_pos ⟨rfl, rfl⟩, if_pos ⟨rfl, by omega, by omega⟩, show r * W + w - r * W = w by omega]
          · rw [if_neg h1]
            by_cases h2 : a = c ∧ r * W ≤ b ∧ b < r * W + w
            · rw [if_pos h2, if_pos ⟨h2.1, by omega⟩]
            · rw [if_neg h2, if_neg (by omega)]
        rw [e3]
        exact ih (w + 1) (by omega)
  refine zgo (fun pc => Nat.beq pc 27) 200 hX hR rfl ?_
  refine And.intro (fun c1 => ?_) (fun c1 => ?_)
  · omega
  refine Exists.intro _ ⟨hk, ?_⟩
  refine And.intro (fun c2 => ?_) (fun c2 => ?_)
  · omega
  refine And.intro (fun c3 => ?_) (fun c3 => ?_)
  · omega
  refine Exists.intro _ ⟨hk, ?_⟩
  refine And.intro (fun c4 => ?_) (fun c4 => ?_)
  · have := loop W 0 (by omega)
    rw [bad_0] at this
    exact this
  · omega
