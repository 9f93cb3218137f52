/-! the reference: squareOf, squareOfRow -/
def sq0 (j x n : Nat) : Nat := if j = 0 then x else sqs aGP aS (j : Int) x (n : Int)
def sqp (i w j : Nat) : Nat := if zodd ((cn w 0 : Int) - 1 - (j : Int)) ((i : Int) - 2 * (j : Int)) = 1 then sq0 (i + cn w 0 - j) (sq0 j (2 ^ (rst w - aS (dgA w - cn w 0))) (dgA w - cn w 0)) (dgA w - cn w 0 + j) else 0
def sqo (i w : Nat) : Nat := if lnC w = 0 ∨ 2 * cn w 0 ≤ i then 2 ^ plc (dgA w + i) i w else xorN (i / 2 + 1) (sqp i w)
def ckSO : Bool := (List.range 61).all fun w => (List.range 15).all fun i => !(Nat.ble 1 i && Nat.ble (i + dgA w) 14) || (Nat.beq (sqo i w) (aGP (sg i) w) && (Nat.blt (plc (dgA w + i) i w) 31 && (Nat.ble (aS (dgA w - cn w 0)) (rst w) && Nat.blt (rst w - aS (dgA w - cn w 0)) 31)))
set_option maxRecDepth 100000 in
theorem ckSO_ok : ckSO = true := by decide +kernel
theorem ckSO_at {i w : Nat} (hw : w < 61) (hi : 1 ≤ i) (h : i + dgA w ≤ 14) : sqo i w = aGP (sg i) w ∧ plc (dgA w + i) i w < 31 ∧ aS (dgA w - cn w 0) ≤ rst w ∧ rst w - aS (dgA w - cn w 0) < 31 := by
  have h2 := range_all (range_all ckSO_ok hw) (show i < 15 by omega)
  rw [show Nat.ble 1 i = true from Nat.ble_eq.mpr hi, show Nat.ble (i + dgA w) 14 = true from Nat.ble_eq.mpr h] at h2
  simp only [Bool.and_self, Bool.not_true, Bool.false_or, Bool.and_eq_true, bl_iff, bq_iff, Nat.ble_eq] at h2
  exact h2
theorem sq0_lt {j x n : Nat} (h : j + n ≤ 14) (hx : x < 2147483648) : sq0 j x n < 2147483648 := by
  unfold sq0
  split
  · exact hx
  · have := sqs_ltw (i := j) (n := n) (x := x) h
    have h2 := pow9 h
    omega
theorem sq0_512 {j x n : Nat} (h : j + n ≤ 14) (hj : j ≠ 0) : sq0 j x n < 512 := by
  unfold sq0
  rw [if_neg hj]
  have := sqs_ltw (i := j) (n := n) (x := x) h
  have h2 := pow9 h
  omega
section REF
set_option maxHeartbeats 1000000 in
theorem c_X9_squareOf (l : Launch) (D : va_G) (sh : Nat → Option zS) (hs : zWM sh) (F I : zFi) (J : zJi) (hb : mBg I) (hw : mWd I) {i w : Nat} (hw61 : w < 61) (hi : 1 ≤ i) (hd : i + dgA w ≤ 14) (hq : ∀ i' u, 1 ≤ i' → u < 61 → (i' + dgA u < i + dgA w ∨ (i' + dgA u = i + dgA w ∧ i < i')) → I 65 (64 * i' + u) = (aGP (sg i') u : Int)) :
    Cn l D yX9_squareOf wsX9_squareOf mX9_squareOf.2.2.2.2 sh [.inr (.inr (some 60)), .inl (i : Int), .inl (w : Int), .inl (dgA w : Int)] F I J (zself F I J (.inl (aGP (sg i) w : Int))) := by
  obtain ⟨c61, s61⟩ := hs.a61
  obtain ⟨c62, s62⟩ := hs.a62
  obtain ⟨c63, s63⟩ := hs.a63
  obtain ⟨k1, k2, k3, k4⟩ := ckSO_at hw61 hi hd
  have hdw := (cn_rest hw61).1
  have hlw := lnC_3 w
  obtain ⟨ew, ew2⟩ := hw w hw61
  have ew0 := ew2 0 (by decide)
  have hc0 := cn_le w hw61 0 (by decide)
  refine zmet (M := mX9_squareOf) rfl rfl rfl kX9_squareOf (Nat.le_of_ble_eq_true rfl) (fun X hX hR hl hD hsh => ?_)
  subst hl hD hsh
  have yes : (lnC w = 0 ∨ 2 * cn w 0 ≤ i) → HW X 27 [some (.inr (.inr (some 60))), some (.inl (i : Int)), some (.inl (w : Int)), some (.inl (dgA w : Int)), some (.inl (cn w 0 : Int)), none, none, none, none, none] [] F I J := fun h => by
    refine zgo (fun _ => false) 200 hX hR rfl ?_
    have cP := c_X9_placeOf (xl X) (xD X) (xsh X) hs F I J hb hw (n := dgA w + i) (i := i) (b := w) (by omega) (by omega) hw61
    refine qX9_squareOf_91 hX cP hs.o (fun v F' I' J' hv => ?_)
    obtain ⟨rfl, rfl, rfl, rfl⟩ := hv
    have e := zshl1 k2
    refine And.intro ?_ ⟨rfl, rfl, rfl⟩
    rw [e, ← k1]
    unfold sqo
    rw [if_pos h]
  have no : ¬ (lnC w = 0 ∨ 2 * cn w 0 ≤ i) → HW X 40 [some (.inr (.inr (some 60))), some (.inl (i : Int)), some (.inl (w : Int)), some (.inl (dgA w : Int)), some (.inl (cn w 0 : Int)), none, none, none, none, none] [] F I J := fun h => by
    have hdv : zdiv (i : Int) 2 = ((i / 2 : Nat) : Int) := zdiv_eq (d := 2) (by omega) (by decide) (by decide)
    generalize hL : dgA w - cn w 0 = L at k3 k4
    have hr := dg_range (show L ≤ 14 by omega)
    have hsq : ∀ j, sqp i w j = if zodd ((cn w 0 : Int) - 1 - (j : Int)) ((i : Int) - 2 * (j : Int)) = 1 then sq0 (i + cn w 0 - j) (sq0 j (2 ^ (rst w - aS L)) L) (L + j) else 0 := fun j => by unfold sqp; rw [hL]
    have hp31 : 2 ^ (rst w - aS L) < 2147483648 := Nat.lt_of_lt_of_le (Nat.pow_lt_pow_right (by decide) k4) (by decide)
    have hlt : ∀ j, j ≤ i / 2 → sqp i w j < 2 ^ 9 := fun j hj => by
      rw [hsq]
      split
      · exact sq0_512 (by omega) (by omega)
      · decide
    have loop : ∀ m j : Nat, j + m = i / 2 + 1 → ∀ x : Option zV, HW X 60 [some (.inr (.inr (some 60))), some (.inl (i : Int)), some (.inl (w : Int)), some (.inl (dgA w : Int)), some (.inl (cn w 0 : Int)), some (.inl (rst w : Int)), some (.inl (L : Int)), some (.inl (xorN j (sqp i w) : Int)), some (.inl (j : Int)), none] [] F I J := by
      intro m
      induction m with
      | zero =>
        intro j hj x
        refine zgo (fun pc => Nat.beq pc 60) 200 hX hR rfl ?_
        refine And.intro (by decide) ?_
        rw [hdv]
        refine And.intro (fun c1 => ?_) (fun c1 => by omega)
        refine And.intro ?_ ⟨rfl, rfl, rfl⟩
        rw [← k1]
        unfold sqo
        rw [if_neg h, show j = i / 2 + 1 by omega]
      | succ m ih =>
        intro j hj x
        have h9 := ih (j + 1) (by omega) none
        have hx9 : xorN j (sqp i w) < 2 ^ 9 := xorN_lt (fun j' hj' => hlt j' (by omega))
        have hx8 := hlt j (by omega)
        rw [show xorN (j + 1) (sqp i w) = xorN j (sqp i w) ^^^ sqp i w j from rfl] at h9
        refine zgo (fun pc => Nat.beq pc 60) 200 hX hR rfl ?_
        refine And.intro (by decide) ?_
        rw [hdv]
        refine And.intro (fun c1 => by omega) (fun c1 => ?_)
        refine qX9_squareOf_99 hX (c_X9_isOdd (xl X) (xD X) (xsh X) F I J (n := (cn w 0 : Int) - 1 - (j : Int)) (k := (i : Int) - 2 * (j : Int)) (by unfold zi32; omega) (by unfold zi32; omega)) (fun v F' I' J' hv => ?_)
        obtain ⟨rfl, rfl, rfl, rfl⟩ := hv
        have hz : zodd ((cn w 0 : Int) - 1 - (j : Int)) ((i : Int) - 2 * (j : Int)) = 1 ∨ zodd ((cn w 0 : Int) - 1 - (j : Int)) ((i : Int) - 2 * (j : Int)) = 0 := by
          unfold zodd
          split
          · exact Or.inl rfl
          · exact Or.inr rfl
        rcases hz with hz | hz
        · have hs2 := hsq j
          rw [if_pos hz] at hs2
          rw [hz]
          refine And.intro (fun c2 => absurd c2 (by decide)) (fun c2 => ?_)
          refine Exists.intro _ ⟨hs.o, ?_⟩
          refine Exists.intro _ ⟨_, L, s61, rfl, by omega, ?_⟩
          rw [hb L (by omega)]
          have ez : zshl 1 ((rst w : Int) - (aS L : Int)) = ((2 ^ (rst w - aS L) : Nat) : Int) := by
            rw [show (rst w : Int) - (aS L : Int) = ((rst w - aS L : Nat) : Int) by omega]
            exact zshl1 k4
          have c1q : Cn (xl X) (xD X) yX9_squares wsX9_squares mX9_squares.2.2.2.2 (xsh X) [.inr (.inr (some 60)), .inl (j : Int), .inl ((2 ^ (rst w - aS L) : Nat) : Int), .inl (L : Int)] F' I' J' (zself F' I' J' (.inl (sq0 j (2 ^ (rst w - aS L)) L : Int))) := c_X9_squaresP (xl X) (xD X) (xsh X) hs F' I' J' hb (i := j) (x := 2 ^ (rst w - aS L)) (n := L) (fun u hu hdu hj1 => hq j u hj1 hu (Or.inl (by omega))) (by omega) hp31
          rw [← ez] at c1q
          refine qX9_squareOf_103 hX c1q hs.o (fun v F2 I2 J2 hv => ?_)
          obtain ⟨rfl, rfl, rfl, rfl⟩ := hv
          have hin := sq0_lt (j := j) (x := 2 ^ (rst w - aS L)) (n := L) (by omega) hp31
          have c2q : Cn (xl X) (xD X) yX9_squares wsX9_squares mX9_squares.2.2.2.2 (xsh X) [.inr (.inr (some 60)), .inl ((i + cn w 0 - j : Nat) : Int), .inl (sq0 j (2 ^ (rst w - aS L)) L : Int), .inl ((L + j : Nat) : Int)] F2 I2 J2 (zself F2 I2 J2 (.inl (sq0 (i + cn w 0 - j) (sq0 j (2 ^ (rst w - aS L)) L) (L + j) : Int))) := c_X9_squaresP (xl X) (xD X) (xsh X) hs F2 I2 J2 hb (i := i + cn w 0 - j) (x := sq0 j (2 ^ (rst w - aS L)) L) (n := L + j) (fun u hu hdu hj1 => hq (i + cn w 0 - j) u hj1 hu (Or.inr ⟨by omega, by omega⟩)) (by omega) hin
          rw [show ((i + cn w 0 - j : Nat) : Int) = (i : Int) + (cn w 0 : Int) - (j : Int) by omega, show ((L + j : Nat) : Int) = (L : Int) + (j : Int) by omega] at c2q
          refine qX9_squareOf_103 hX c2q hs.o (fun v F3 I3 J3 hv => ?_)
          obtain ⟨rfl, rfl, rfl, rfl⟩ := hv
          rw [hs2, ← zxor_eq (by omega) (by rw [hs2] at hx8; omega)] at h9
          exact hw_weak (ls' := [some (.inr (.inr (some 60))), some (.inl (i : Int)), some (.inl (w : Int)), some (.inl (dgA w : Int)), some (.inl (cn w 0 : Int)), some (.inl (rst w : Int)), some (.inl (L : Int)), some (.inl (zxor (xorN j (sqp i w) : Int) (sq0 (i + cn w 0 - j) (sq0 j (2 ^ (rst w - aS L)) L) (L + j) : Int))), some (.inl ((j + 1 : Nat) : Int)), none]) ⟨rfl, rfl, rfl, rfl, rfl, rfl, rfl, rfl, rfl, trivial⟩ h9
        · have hs2 := hsq j
          rw [if_neg (by rw [hz]; decide)] at hs2
          rw [hs2, Nat.xor_zero] at h9
          rw [hz]
          refine And.intro (fun c2 => ?_) (fun c2 => absurd rfl c2)
          exact h9
    have l0 := loop (i / 2 + 1) 0 (by omega) none
    have mid : HW X 54 [some (.inr (.inr (some 60))), some (.inl (i : Int)), some (.inl (w : Int)), some (.inl (dgA w : Int)), some (.inl (cn w 0 : Int)), some (.inl (rst w : Int)), some (.inl (L : Int)), none, none, none] [] F I J := by
      refine zgo (fun pc => Nat.beq pc 60) 200 hX hR rfl ?_
      exact l0
    rw [show (L : Int) = (dgA w : Int) - (cn w 0 : Int) by omega] at mid
    refine zgo (fun pc => Nat.beq pc 54) 200 hX hR rfl ?_
    refine qX9_squareOf_95 hX (c_X9_restOf (xl X) (xD X) (xsh X) hs F I J hb hw hw61) hs.o (fun v F' I' J' hv => ?_)
    obtain ⟨rfl, rfl, rfl, rfl⟩ := hv
    exact mid
  refine zgo (fun pc => Nat.beq pc 27 || Nat.beq pc 40) 200 hX hR rfl ?_
  refine Exists.intro _ ⟨hs.o, ?_⟩
  refine Exists.intro _ ⟨_, 4 * w, s63, by omega, by omega, ?_⟩
  rw [show I 63 (4 * w) = (cn w 0 : Int) from ew0]
  refine Exists.intro _ ⟨hs.o, ?_⟩
  refine Exists.intro _ ⟨_, w, s62, rfl, by omega, ?_⟩
  rw [ew]
  refine And.intro (fun c1 => yes (Or.inl (by omega))) (fun c1 => ?_)
  refine And.intro (fun c2 => no (fun h => by omega)) (fun c2 => yes (Or.inr (by omega)))
end REF
