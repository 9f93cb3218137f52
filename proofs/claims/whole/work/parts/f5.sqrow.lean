/-! the reference: squareOfRow -/
theorem xorN_stop {z : Nat} {f : Nat → Nat} (h : ∀ j, z ≤ j → f j = 0) : ∀ k, xorN (z + k) f = xorN z f := by
  intro k
  induction k with
  | zero => rfl
  | succ k ih =>
    show xorN (z + k) f ^^^ f (z + k) = _
    rw [h (z + k) (by omega), Nat.xor_zero, ih]
theorem mN_b : ∀ w, w < 61 → mN (3 * w) ≤ 14 ∧ mN (3 * w + 1) ≤ 4 ∧ mN (3 * w + 2) ≤ 2 := by decide +kernel
def srz (i w x y z : Nat) : Nat := if 2 * x + 4 * y + 8 * z ≤ i ∧ ((mN (3 * w) - x) &&& (i - 2 * x - 4 * y - 8 * z) = 0 ∧ (mN (3 * w + 1) - y) &&& x = 0 ∧ (mN (3 * w + 2) - z) &&& y = 0 ∧ z = 0) then 2 ^ rwa (dgA w + i) (mN (3 * w) - x + (i - 2 * x - 4 * y - 8 * z)) (mN (3 * w + 1) - y + x) (mN (3 * w + 2) - z + y) else 0
def sry (i w x y : Nat) : Nat := if 2 * x + 4 * y ≤ i then xorN (mN (3 * w + 2) + 1) (srz i w x y) else 0
def srx (i w x : Nat) : Nat := if 2 * x ≤ i then xorN (mN (3 * w + 1) + 1) (sry i w x) else 0
def sro (i w : Nat) : Nat := xorN (mN (3 * w) + 1) (srx i w)
def ckSR : Bool := (List.range 61).all fun w => (List.range 15).all fun i => !(Nat.ble 1 i && Nat.ble (i + dgA w) 14) || Nat.beq (sro i w) (rRw i w)
set_option maxRecDepth 100000 in
theorem ckSR_ok : ckSR = true := by decide +kernel
theorem ckSR_at {i w : Nat} (hw : w < 61) (hi : 1 ≤ i) (h : i + dgA w ≤ 14) : sro i w = rRw i w := by
  have h2 := range_all (range_all ckSR_ok hw) (show i < 15 by omega)
  rw [show Nat.ble 1 i = true from Nat.ble_eq.mpr hi, show Nat.ble (i + dgA w) 14 = true from Nat.ble_eq.mpr h] at h2
  exact Nat.eq_of_beq_eq_true h2
theorem srz_lt {i w x y z : Nat} (h : dgA w + i ≤ 14) : srz i w x y z < 2 ^ 10 := by
  unfold srz
  split
  · exact Nat.pow_lt_pow_right (by decide) (Nat.lt_of_le_of_lt (rwa_9 h) (by decide))
  · decide
theorem sry_lt {i w x y : Nat} (h : dgA w + i ≤ 14) : sry i w x y < 2 ^ 10 := by
  unfold sry
  split
  · exact xorN_lt (fun _ _ => srz_lt h)
  · decide
theorem srx_lt {i w x : Nat} (h : dgA w + i ≤ 14) : srx i w x < 2 ^ 10 := by
  unfold srx
  split
  · exact xorN_lt (fun _ _ => sry_lt h)
  · decide
section REF
set_option maxHeartbeats 2000000 in
theorem c_X9_squareOfRow (l : Launch) (D : va_G) (sh : Nat → Option zS) (hs : zWM sh) (F I : zFi) (J : zJi) (hb : mBg I) (hw : mRw I) {i w : Nat} (hw61 : w < 61) (hi : 1 ≤ i) (hd : i + dgA w ≤ 14) :
    Cn l D yX9_squareOfRow wsX9_squareOfRow mX9_squareOfRow.2.2.2.2 sh [.inr (.inr (some 60)), .inl (i : Int), .inl (w : Int), .inl (dgA w : Int)] F I J (zself F I J (.inl (rRw i w : Int))) := by
  obtain ⟨c64, s64⟩ := hs.a64
  have hd' : dgA w + i ≤ 14 := by omega
  rw [← ckSR_at hw61 hi hd]
  have r0 := hw w 0 hw61 (by decide)
  have r1 := hw w 1 hw61 (by decide)
  have r2 := hw w 2 hw61 (by decide)
  obtain ⟨q0, q1, q2⟩ := mN_b w hw61
  refine zmet (M := mX9_squareOfRow) rfl rfl rfl kX9_squareOfRow (Nat.le_of_ble_eq_true rfl) (fun X hX hR hl hD hsh => ?_)
  subst hl hD hsh
  -- the third numbers
  have loopZ : ∀ x y A : Nat, x ≤ mN (3 * w) → y ≤ mN (3 * w + 1) → 2 * x + 4 * y ≤ i → A < 2 ^ 10 → (HW X 30 [some (.inr (.inr (some 60))), some (.inl (i : Int)), some (.inl (w : Int)), some (.inl (dgA w : Int)), some (.inl ((A ^^^ xorN (mN (3 * w + 2) + 1) (srz i w x y) : Nat) : Int)), some (.inl (x : Int)), some (.inl ((y + 1 : Nat) : Int)), none, none, none, none, none] [] F I J) → ∀ m z : Nat, z + m = mN (3 * w + 2) + 1 → HW X 61 [some (.inr (.inr (some 60))), some (.inl (i : Int)), some (.inl (w : Int)), some (.inl (dgA w : Int)), some (.inl ((A ^^^ xorN z (srz i w x y) : Nat) : Int)), some (.inl (x : Int)), some (.inl (y : Int)), some (.inl (z : Int)), none, none, none, none] [] F I J := by
    intro x y A hx hy hxy hA hk m
    have stop : ∀ z : Nat, xorN z (srz i w x y) = xorN (mN (3 * w + 2) + 1) (srz i w x y) → HW X 221 [some (.inr (.inr (some 60))), some (.inl (i : Int)), some (.inl (w : Int)), some (.inl (dgA w : Int)), some (.inl ((A ^^^ xorN z (srz i w x y) : Nat) : Int)), some (.inl (x : Int)), some (.inl (y : Int)), some (.inl (z : Int)), none, none, none, none] [] F I J := fun z hz => by
      rw [hz]
      refine zgo (fun pc => Nat.beq pc 30) 200 hX hR rfl ?_
      exact hw_weak (ls' := [some (.inr (.inr (some 60))), some (.inl (i : Int)), some (.inl (w : Int)), some (.inl (dgA w : Int)), some (.inl ((A ^^^ xorN (mN (3 * w + 2) + 1) (srz i w x y) : Nat) : Int)), some (.inl (x : Int)), some (.inl ((y + 1 : Nat) : Int)), none, none, none, none, none]) ⟨rfl, rfl, rfl, rfl, rfl, rfl, rfl, trivial⟩ hk
    induction m with
    | zero =>
      intro z hz
      have s9 := stop z (by rw [show z = mN (3 * w + 2) + 1 by omega])
      refine zgo (fun pc => Nat.beq pc 221) 200 hX hR rfl ?_
      refine Exists.intro _ ⟨hs.o, ?_⟩
      refine Exists.intro _ ⟨_, 3 * w + 2, s64, by omega, by omega, ?_⟩
      rw [r2]
      refine And.intro (fun c1 => ?_) (fun c1 => by omega)
      exact s9
    | succ m ih =>
      intro z hz
      have h9 := ih (z + 1) (by omega)
      rw [show xorN (z + 1) (srz i w x y) = xorN z (srz i w x y) ^^^ srz i w x y z from rfl, ← Nat.xor_assoc] at h9
      have hlt : A ^^^ xorN z (srz i w x y) < 2 ^ 10 := Nat.xor_lt_two_pow hA (xorN_lt (fun _ _ => srz_lt hd'))
      have hz8 := srz_lt (x := x) (y := y) (z := z) hd'
      refine zgo (fun pc => Nat.beq pc 221 || Nat.beq pc 215) 200 hX hR rfl ?_
      refine Exists.intro _ ⟨hs.o, ?_⟩
      refine Exists.intro _ ⟨_, 3 * w + 2, s64, by omega, by omega, ?_⟩
      rw [r2]
      refine And.intro (fun c1 => by omega) (fun c1 => ?_)
      refine And.intro (fun c2 => ?_) (fun c2 => ?_)
      · refine stop z ?_
        have := xorN_stop (z := z) (f := srz i w x y) (fun j hj => by unfold srz; rw [if_neg (fun h => by omega)]) (mN (3 * w + 2) + 1 - z)
        rw [← this, show z + (mN (3 * w + 2) + 1 - z) = mN (3 * w + 2) + 1 by omega]
      · refine Exists.intro _ ⟨hs.o, ?_⟩
        refine Exists.intro _ ⟨_, 3 * w + 0, s64, by omega, by omega, ?_⟩
        refine Exists.intro _ ⟨hs.o, ?_⟩
        refine Exists.intro _ ⟨_, 3 * w + 1, s64, by omega, by omega, ?_⟩
        refine Exists.intro _ ⟨hs.o, ?_⟩
        refine Exists.intro _ ⟨_, 3 * w + 2, s64, by omega, by omega, ?_⟩
        have ea : I 64 (3 * w + 0) - (x : Int) = ((mN (3 * w) - x : Nat) : Int) := by rw [r0]; show (mN (3 * w) : Int) - (x : Int) = _; omega
        have eb : I 64 (3 * w + 1) - (y : Int) = ((mN (3 * w + 1) - y : Nat) : Int) := by rw [r1]; omega
        have ec : I 64 (3 * w + 2) - (z : Int) = ((mN (3 * w + 2) - z : Nat) : Int) := by rw [r2]; omega
        have ew : (i : Int) - 2 * (x : Int) - 4 * (y : Int) - 8 * (z : Int) = ((i - 2 * x - 4 * y - 8 * z : Nat) : Int) := by omega
        have z1 : zand (I 64 (3 * w + 0) - (x : Int)) ((i : Int) - 2 * (x : Int) - 4 * (y : Int) - 8 * (z : Int)) = (((mN (3 * w) - x) &&& (i - 2 * x - 4 * y - 8 * z) : Nat) : Int) := by rw [ea, ew]; exact zand_eq (by omega) (by omega)
        have z2 : zand (I 64 (3 * w + 1) - (y : Int)) (x : Int) = (((mN (3 * w + 1) - y) &&& x : Nat) : Int) := by rw [eb]; exact zand_eq (by omega) (by omega)
        have z3 : zand (I 64 (3 * w + 2) - (z : Int)) (y : Int) = (((mN (3 * w + 2) - z) &&& y : Nat) : Int) := by rw [ec]; exact zand_eq (by omega) (by omega)
        have l1 : (mN (3 * w) - x) &&& (i - 2 * x - 4 * y - 8 * z) ≤ mN (3 * w) - x := Nat.and_le_left
        have l2 : (mN (3 * w + 1) - y) &&& x ≤ mN (3 * w + 1) - y := Nat.and_le_left
        have l3 : (mN (3 * w + 2) - z) &&& y ≤ mN (3 * w + 2) - z := Nat.and_le_left
        have no : srz i w x y z = 0 → HW X 215 [some (.inr (.inr (some 60))), some (.inl (i : Int)), some (.inl (w : Int)), some (.inl (dgA w : Int)), some (.inl ((A ^^^ xorN z (srz i w x y) : Nat) : Int)), some (.inl (x : Int)), some (.inl (y : Int)), some (.inl (z : Int)), none, none, none, none] [] F I J := fun h => by
          rw [h, Nat.xor_zero] at h9
          refine zgo (fun pc => Nat.beq pc 61) 200 hX hR rfl ?_
          exact h9
        have weak : ∀ a1 a2 a3 a4 : Int, srz i w x y z = 0 → HW X 215 [some (.inr (.inr (some 60))), some (.inl (i : Int)), some (.inl (w : Int)), some (.inl (dgA w : Int)), some (.inl ((A ^^^ xorN z (srz i w x y) : Nat) : Int)), some (.inl (x : Int)), some (.inl (y : Int)), some (.inl (z : Int)), some (.inl a1), some (.inl a2), some (.inl a3), some (.inl a4)] [] F I J := fun a1 a2 a3 a4 h => hw_weak (ls' := [some (.inr (.inr (some 60))), some (.inl (i : Int)), some (.inl (w : Int)), some (.inl (dgA w : Int)), some (.inl ((A ^^^ xorN z (srz i w x y) : Nat) : Int)), some (.inl (x : Int)), some (.inl (y : Int)), some (.inl (z : Int)), none, none, none, none]) ⟨rfl, rfl, rfl, rfl, rfl, rfl, rfl, rfl, trivial⟩ (no h)
        refine And.intro (fun c3 => ?_) (fun c3 => ?_)
        · rw [z1] at c3
          exact weak _ _ _ _ (by unfold srz; rw [if_neg (fun h => by have := h.2.1; omega)])
        rw [z1] at c3
        refine And.intro (fun c4 => ?_) (fun c4 => ?_)
        · rw [z2] at c4
          exact weak _ _ _ _ (by unfold srz; rw [if_neg (fun h => by have := h.2.2.1; omega)])
        rw [z2] at c4
        refine And.intro (fun c5 => ?_) (fun c5 => ?_)
        · rw [z3] at c5
          exact weak _ _ _ _ (by unfold srz; rw [if_neg (fun h => by have := h.2.2.2.1; omega)])
        rw [z3] at c5
        refine And.intro (fun c6 => ?_) (fun c6 => ?_)
        · exact weak _ _ _ _ (by unfold srz; rw [if_neg (fun h => by have := h.2.2.2.2; omega)])
        have hv : srz i w x y z = 2 ^ rwa (dgA w + i) (mN (3 * w) - x + (i - 2 * x - 4 * y - 8 * z)) (mN (3 * w + 1) - y + x) (mN (3 * w + 2) - z + y) := by
          unfold srz
          rw [if_pos ⟨by omega, by omega, by omega, by omega, by omega⟩]
        have cR := c_X9_rowAt (xl X) (xD X) (xsh X) hs F I J hb hw (n := dgA w + i) (a := mN (3 * w) - x + (i - 2 * x - 4 * y - 8 * z)) (b := mN (3 * w + 1) - y + x) (c := mN (3 * w + 2) - z + y) (by omega) (by omega) (by omega) (by omega)
        rw [show ((dgA w + i : Nat) : Int) = (dgA w : Int) + (i : Int) by omega, show ((mN (3 * w) - x + (i - 2 * x - 4 * y - 8 * z) : Nat) : Int) = (I 64 (3 * w + 0) - (x : Int)) + ((i : Int) - 2 * (x : Int) - 4 * (y : Int) - 8 * (z : Int)) by rw [ea, ew]; omega, show ((mN (3 * w + 1) - y + x : Nat) : Int) = (I 64 (3 * w + 1) - (y : Int)) + (x : Int) by rw [eb]; omega, show ((mN (3 * w + 2) - z + y : Nat) : Int) = (I 64 (3 * w + 2) - (z : Int)) + (y : Int) by rw [ec]; omega] at cR
        refine qX9_squareOfRow_107 hX cR hs.o (fun v F' I' J' hv => ?_)
        obtain ⟨rfl, rfl, rfl, rfl⟩ := hv
        have h31 : rwa (dgA w + i) (mN (3 * w) - x + (i - 2 * x - 4 * y - 8 * z)) (mN (3 * w + 1) - y + x) (mN (3 * w + 2) - z + y) < 31 := Nat.lt_of_le_of_lt (rwa_9 hd') (by decide)
        rw [hv, ← zxor_eq (by omega) (by rw [← hv]; omega), ← zshl1 h31] at h9
        refine hw_weak (ls' := [some (.inr (.inr (some 60))), some (.inl (i : Int)), some (.inl (w : Int)), some (.inl (dgA w : Int)), some (.inl (zxor ((A ^^^ xorN z (srz i w x y) : Nat) : Int) (zshl 1 ((rwa (dgA w + i) (mN (3 * w) - x + (i - 2 * x - 4 * y - 8 * z)) (mN (3 * w + 1) - y + x) (mN (3 * w + 2) - z + y) : Nat) : Int)))), some (.inl (x : Int)), some (.inl (y : Int)), some (.inl (z : Int)), none, none, none, none]) ⟨rfl, rfl, rfl, rfl, rfl, rfl, rfl, rfl, trivial⟩ ?_
        refine zgo (fun pc => Nat.beq pc 61) 200 hX hR rfl ?_
        exact h9
  -- the second numbers
  have loopY : ∀ x A : Nat, x ≤ mN (3 * w) → 2 * x ≤ i → A < 2 ^ 10 → (HW X 6 [some (.inr (.inr (some 60))), some (.inl (i : Int)), some (.inl (w : Int)), some (.inl (dgA w : Int)), some (.inl ((A ^^^ xorN (mN (3 * w + 1) + 1) (sry i w x) : Nat) : Int)), some (.inl ((x + 1 : Nat) : Int)), none, none, none, none, none, none] [] F I J) → ∀ m y : Nat, y + m = mN (3 * w + 1) + 1 → HW X 30 [some (.inr (.inr (some 60))), some (.inl (i : Int)), some (.inl (w : Int)), some (.inl (dgA w : Int)), some (.inl ((A ^^^ xorN y (sry i w x) : Nat) : Int)), some (.inl (x : Int)), some (.inl (y : Int)), none, none, none, none, none] [] F I J := by
    intro x A hx hxi hA hk m
    have stop : ∀ y : Nat, xorN y (sry i w x) = xorN (mN (3 * w + 1) + 1) (sry i w x) → HW X 227 [some (.inr (.inr (some 60))), some (.inl (i : Int)), some (.inl (w : Int)), some (.inl (dgA w : Int)), some (.inl ((A ^^^ xorN y (sry i w x) : Nat) : Int)), some (.inl (x : Int)), some (.inl (y : Int)), none, none, none, none, none] [] F I J := fun y hy => by
      rw [hy]
      refine zgo (fun pc => Nat.beq pc 6) 200 hX hR rfl ?_
      exact hw_weak (ls' := [some (.inr (.inr (some 60))), some (.inl (i : Int)), some (.inl (w : Int)), some (.inl (dgA w : Int)), some (.inl ((A ^^^ xorN (mN (3 * w + 1) + 1) (sry i w x) : Nat) : Int)), some (.inl ((x + 1 : Nat) : Int)), none, none, none, none, none, none]) ⟨rfl, rfl, rfl, rfl, rfl, rfl, trivial⟩ hk
    induction m with
    | zero =>
      intro y hy
      have s9 := stop y (by rw [show y = mN (3 * w + 1) + 1 by omega])
      refine zgo (fun pc => Nat.beq pc 227) 200 hX hR rfl ?_
      refine Exists.intro _ ⟨hs.o, ?_⟩
      refine Exists.intro _ ⟨_, 3 * w + 1, s64, by omega, by omega, ?_⟩
      rw [r1]
      refine And.intro (fun c1 => ?_) (fun c1 => by omega)
      exact s9
    | succ m ih =>
      intro y hy
      have h9 := ih (y + 1) (by omega)
      rw [show xorN (y + 1) (sry i w x) = xorN y (sry i w x) ^^^ sry i w x y from rfl, ← Nat.xor_assoc] at h9
      have hlt : A ^^^ xorN y (sry i w x) < 2 ^ 10 := Nat.xor_lt_two_pow hA (xorN_lt (fun _ _ => sry_lt hd'))
      refine zgo (fun pc => Nat.beq pc 227 || Nat.beq pc 61) 200 hX hR rfl ?_
      refine Exists.intro _ ⟨hs.o, ?_⟩
      refine Exists.intro _ ⟨_, 3 * w + 1, s64, by omega, by omega, ?_⟩
      rw [r1]
      refine And.intro (fun c1 => by omega) (fun c1 => ?_)
      refine And.intro (fun c2 => ?_) (fun c2 => ?_)
      · refine stop y ?_
        have := xorN_stop (z := y) (f := sry i w x) (fun j hj => by unfold sry; rw [if_neg (by omega)]) (mN (3 * w + 1) + 1 - y)
        rw [← this, show y + (mN (3 * w + 1) + 1 - y) = mN (3 * w + 1) + 1 by omega]
      · have hxy : 2 * x + 4 * y ≤ i := by omega
        rw [show sry i w x y = xorN (mN (3 * w + 2) + 1) (srz i w x y) by unfold sry; rw [if_pos hxy]] at h9
        have h8 := loopZ x y (A ^^^ xorN y (sry i w x)) hx (by omega) hxy hlt h9 (mN (3 * w + 2) + 1) 0 (by omega)
        rw [show A ^^^ xorN y (sry i w x) ^^^ xorN 0 (srz i w x y) = A ^^^ xorN y (sry i w x) from Nat.xor_zero _] at h8
        exact h8
  -- the first numbers
  have loopX : ∀ m x : Nat, x + m = mN (3 * w) + 1 → HW X 6 [some (.inr (.inr (some 60))), some (.inl (i : Int)), some (.inl (w : Int)), some (.inl (dgA w : Int)), some (.inl (xorN x (srx i w) : Int)), some (.inl (x : Int)), none, none, none, none, none, none] [] F I J := by
    intro m
    have stop : ∀ x : Nat, xorN x (srx i w) = xorN (mN (3 * w) + 1) (srx i w) → HW X 233 [some (.inr (.inr (some 60))), some (.inl (i : Int)), some (.inl (w : Int)), some (.inl (dgA w : Int)), some (.inl (xorN x (srx i w) : Int)), some (.inl (x : Int)), none, none, none, none, none, none] [] F I J := fun x hx => by
      rw [hx]
      refine zgo (fun _ => false) 200 hX hR rfl ?_
      exact And.intro rfl ⟨rfl, rfl, rfl⟩
    induction m with
    | zero =>
      intro x hx
      have s9 := stop x (by rw [show x = mN (3 * w) + 1 by omega])
      refine zgo (fun pc => Nat.beq pc 233) 200 hX hR rfl ?_
      refine Exists.intro _ ⟨hs.o, ?_⟩
      refine Exists.intro _ ⟨_, 3 * w + 0, s64, by omega, by omega, ?_⟩
      rw [r0]
      have e0 : mN (3 * w + 0) = mN (3 * w) := rfl
      refine And.intro (fun c1 => ?_) (fun c1 => by omega)
      exact s9
    | succ m ih =>
      intro x hx
      have h9 := ih (x + 1) (by omega)
      rw [show xorN (x + 1) (srx i w) = xorN x (srx i w) ^^^ srx i w x from rfl] at h9
      have hlt : xorN x (srx i w) < 2 ^ 10 := xorN_lt (fun _ _ => srx_lt hd')
      have e0 : mN (3 * w + 0) = mN (3 * w) := rfl
      refine zgo (fun pc => Nat.beq pc 233 || Nat.beq pc 30) 200 hX hR rfl ?_
      refine Exists.intro _ ⟨hs.o, ?_⟩
      refine Exists.intro _ ⟨_, 3 * w + 0, s64, by omega, by omega, ?_⟩
      rw [r0]
      refine And.intro (fun c1 => by omega) (fun c1 => ?_)
      refine And.intro (fun c2 => ?_) (fun c2 => ?_)
      · refine stop x ?_
        have := xorN_stop (z := x) (f := srx i w) (fun j hj => by unfold srx; rw [if_neg (by omega)]) (mN (3 * w) + 1 - x)
        rw [← this, show x + (mN (3 * w) + 1 - x) = mN (3 * w) + 1 by omega]
      · have hxi : 2 * x ≤ i := by omega
        rw [show srx i w x = xorN (mN (3 * w + 1) + 1) (sry i w x) by unfold srx; rw [if_pos hxi]] at h9
        have h8 := loopY x (xorN x (srx i w)) (by omega) hxi hlt h9 (mN (3 * w + 1) + 1) 0 (by omega)
        rw [show xorN x (srx i w) ^^^ xorN 0 (sry i w x) = xorN x (srx i w) from Nat.xor_zero _] at h8
        exact h8
  refine zgo (fun pc => Nat.beq pc 6) 200 hX hR rfl ?_
  exact loopX (mN (3 * w) + 1) 0 (by omega)
end REF
