/-! RowProduct -/
def zsRp (sh : Nat → Option zS) (q b : Nat) : Prop := sh q = some (.inl (4, [some (some b)]))
theorem bbt_lt {S : Nat → Nat} {d t : Int} (h : bsz S d ≤ 30) : (bbt S d t).toNat < 1073741824 := by
  unfold bbt
  split
  · rw [Int.toNat_natCast]
    exact Nat.pow_lt_pow_right (n := 30) (by decide) (by omega)
  · decide
def rcl (N S : Nat → Nat) (i s1 s2 s3 : Nat) (n : Int) (x1 x2 : Nat) : Nat :=
  if 2 * x1 + 4 * x2 ≤ i ∧ (i - 2 * x1 - 4 * x2) &&& (s1 - x1) = 0 ∧ x1 &&& (s2 - x2) = 0 ∧ x2 &&& s3 = 0 then (bbt S n (bfi N S n ((i : Int) - 2 * x1 - 4 * x2 + s1 - x1) ((x1 : Int) + s2 - x2) ((x2 : Int) + s3))).toNat else 0
def rrw (N S : Nat → Nat) (i s1 s2 s3 : Nat) (n : Int) : Nat := xorN (s1 + 1) (fun x1 => xorN (s2 + 1) (rcl N S i s1 s2 s3 n x1))
def rbn (N : Nat → Nat) (t : Int) (j : Int) : Nat := (bnm N t j).toNat
theorem rcl_lt {N S : Nat → Nat} {i s1 s2 s3 : Nat} {n : Int} (h : bsz S n ≤ 30) (x1 x2 : Nat) : rcl N S i s1 s2 s3 n x1 x2 < 1073741824 := by
  unfold rcl
  split
  · exact bbt_lt h
  · decide
theorem c_X4_timesRow (l : Launch) (D : va_G) (sh : Nat → Option zS) {q b nu st : Nat} (hs : zsRp sh q b) (hb : zsBas sh b nu st) (F I : zFi) (J : zJi) {N S : Nat → Nat} (hT : bT I nu st N S) {i : Nat} {t n : Int} (hi : i ≤ 100) (ht : 0 ≤ t ∧ t ≤ 200) (hn : 0 ≤ n ∧ n ≤ 100) (h30 : bsz S n ≤ 30) :
    Cn l D yX4_timesRow wsX4_timesRow mX4_timesRow.2.2.2.2 sh [.inr (.inr (some q)), .inl (i : Int), .inl t, .inl n] F I J (zself F I J (.inl (rrw N S i (rbn N t 0) (rbn N t 1) (rbn N t 2) n : Int))) := by
  have h0 := bnm_i hT t 0
  have h1 := bnm_i hT t 1
  have h2 := bnm_i hT t 2
  have hs' : sh q = some (.inl (4, [some (some b)])) := hs
  have hfr : ∀ d x y z, -1 ≤ bfi N S d x y z ∧ bfi N S d x y z ≤ 100 := fun d x y z => by
    have h1 := bst_i hT d
    have h2 := bst_i hT (d + 1)
    exact bfd_r N x y z _ _ (by omega)
  refine zmet (M := mX4_timesRow) rfl rfl rfl kX4_timesRow (Nat.le_of_ble_eq_true rfl) (fun X hX hR hl hD hsh => ?_)
  subst hl hD hsh
  have core : ∀ s1 s2 s3 : Nat, s1 ≤ 61 → s2 ≤ 61 → s3 ≤ 61 → rrw N S i (rbn N t 0) (rbn N t 1) (rbn N t 2) n = rrw N S i s1 s2 s3 n → HW X 39 [some (.inr (.inr (some q))), some (.inl (i : Int)), some (.inl t), some (.inl n), some (.inl (s1 : Int)), some (.inl (s2 : Int)), some (.inl (s3 : Int)), some (.inl 0), some (.inl 0), none, none] [] F I J := by
    intro s1 s2 s3 b1 b2 b3 hq
    have inner : ∀ x1 : Nat, x1 ≤ s1 → (∀ l9 l10, HW X 152 [some (.inr (.inr (some q))), some (.inl (i : Int)), some (.inl t), some (.inl n), some (.inl (s1 : Int)), some (.inl (s2 : Int)), some (.inl (s3 : Int)), some (.inl (xorN (x1 + 1) (fun x1 => xorN (s2 + 1) (rcl N S i s1 s2 s3 n x1)) : Int)), some (.inl (x1 : Int)), l9, l10] [] F I J) →
        ∀ k x2 : Nat, x2 + k = s2 + 1 → ∀ l10, HW X 49 [some (.inr (.inr (some q))), some (.inl (i : Int)), some (.inl t), some (.inl n), some (.inl (s1 : Int)), some (.inl (s2 : Int)), some (.inl (s3 : Int)), some (.inl ((xorN x1 (fun x1 => xorN (s2 + 1) (rcl N S i s1 s2 s3 n x1)) ^^^ xorN x2 (rcl N S i s1 s2 s3 n x1) : Nat) : Int)), some (.inl (x1 : Int)), some (.inl (x2 : Int)), l10] [] F I J := by
      intro x1 hx1 hnext k
      induction k with
      | zero =>
        intro x2 hk l10
        have h3 := hnext (some (.inl (x2 : Int))) l10
        rw [show x2 = s2 + 1 by omega]
        rw [show xorN (x1 + 1) (fun x1 => xorN (s2 + 1) (rcl N S i s1 s2 s3 n x1)) = xorN x1 (fun x1 => xorN (s2 + 1) (rcl N S i s1 s2 s3 n x1)) ^^^ xorN (s2 + 1) (rcl N S i s1 s2 s3 n x1) from rfl, show x2 = s2 + 1 by omega] at h3
        refine zgo (fun pc => Nat.beq pc 49 || Nat.beq pc 152) 200 hX hR rfl ?_
        refine And.intro (fun c1 => h3) (fun c1 => by omega)
      | succ k ih =>
        intro x2 hk l10
        have ih' := ih (x2 + 1) (by omega)
        rw [show ∀ f, xorN (x2 + 1) f = xorN x2 f ^^^ f x2 from fun _ => rfl, ← Nat.xor_assoc] at ih'
        have l1 : xorN x1 (fun x1 => xorN (s2 + 1) (rcl N S i s1 s2 s3 n x1)) ^^^ xorN x2 (rcl N S i s1 s2 s3 n x1) < 1073741824 := Nat.xor_lt_two_pow (n := 30) (xorN_lt (m := 30) (fun _ _ => xorN_lt (m := 30) (fun _ _ => rcl_lt h30 _ _))) (xorN_lt (m := 30) (fun _ _ => rcl_lt h30 _ _))
        have l2 : rcl N S i s1 s2 s3 n x1 x2 < 1073741824 := rcl_lt h30 _ _
        generalize xorN x1 (fun x1 => xorN (s2 + 1) (rcl N S i s1 s2 s3 n x1)) ^^^ xorN x2 (rcl N S i s1 s2 s3 n x1) = acc at ih' l1 ⊢
        have skip : rcl N S i s1 s2 s3 n x1 x2 = 0 → ∀ l10, HW X 146 [some (.inr (.inr (some q))), some (.inl (i : Int)), some (.inl t), some (.inl n), some (.inl (s1 : Int)), some (.inl (s2 : Int)), some (.inl (s3 : Int)), some (.inl (acc : Int)), some (.inl (x1 : Int)), some (.inl (x2 : Int)), l10] [] F I J := by
          intro hz l10
          have h4 := ih' l10
          rw [hz, Nat.xor_zero] at h4
          refine zgo (fun pc => Nat.beq pc 49) 200 hX hR rfl ?_
          exact h4
        have take : (2 * x1 + 4 * x2 ≤ i ∧ (i - 2 * x1 - 4 * x2) &&& (s1 - x1) = 0 ∧ x1 &&& (s2 - x2) = 0 ∧ x2 &&& s3 = 0) → HW X 104 [some (.inr (.inr (some q))), some (.inl (i : Int)), some (.inl t), some (.inl n), some (.inl (s1 : Int)), some (.inl (s2 : Int)), some (.inl (s3 : Int)), some (.inl (acc : Int)), some (.inl (x1 : Int)), some (.inl (x2 : Int)), some (.inl ((i : Int) - 2 * x1 - 4 * x2))] [] F I J := by
          intro hc
          have h4 := ih' (some (.inl ((i : Int) - 2 * x1 - 4 * x2)))
          have er : rcl N S i s1 s2 s3 n x1 x2 = (bbt S n (bfi N S n ((i : Int) - 2 * x1 - 4 * x2 + s1 - x1) ((x1 : Int) + s2 - x2) ((x2 : Int) + s3))).toNat := by unfold rcl; rw [if_pos hc]
          have hf := hfr n ((i : Int) - 2 * x1 - 4 * x2 + s1 - x1) ((x1 : Int) + s2 - x2) ((x2 : Int) + s3)
          have cF : Cn (xl X) (xD X) yX0_find wsX0_find mX0_find.2.2.2.2 (xsh X) [.inr (.inr (some b)), .inl n, .inl ((i : Int) - 2 * x1 - 4 * x2 + s1 - x1), .inl ((x1 : Int) + s2 - x2), .inl ((x2 : Int) + s3)] F I J (zself F I J (.inl (bfi N S n ((i : Int) - 2 * x1 - 4 * x2 + s1 - x1) ((x1 : Int) + s2 - x2) ((x2 : Int) + s3)))) := c_X0_find (xl X) (xD X) (xsh X) hb F I J hT ⟨by omega, by omega⟩ ⟨by omega, by omega⟩ ⟨by omega, by omega⟩ ⟨by omega, by omega⟩ ⟨by omega, by omega⟩
          rw [← zxor_eq (by omega) (by omega), er, ← bbt_nn] at h4
          refine zgo (fun pc => Nat.beq pc 49) 200 hX hR rfl ?_
          refine Exists.intro _ ⟨hs', ?_⟩
          refine Exists.intro _ ⟨hs', ?_⟩
          refine qX4_timesRow_30 hX cF hb.1 (fun v F1 I1 J1 hv => ?_)
          obtain ⟨rfl, rfl, rfl, rfl⟩ := hv
          refine qX4_timesRow_34 hX (c_X0_bit (xl X) (xD X) (xsh X) hb F1 I1 J1 hT (d := n) ⟨by omega, by omega⟩ ⟨hf.1, by omega⟩ h30) hb.1 (fun v F2 I2 J2 hv => ?_)
          obtain ⟨rfl, rfl, rfl, rfl⟩ := hv
          exact h4
        refine zgo (fun pc => Nat.beq pc 49 || Nat.beq pc 146 || Nat.beq pc 104) 200 hX hR rfl ?_
        refine And.intro (fun c1 => by omega) (fun c1 => ?_)
        refine And.intro (fun c2 => ?_) (fun c2 => ?_)
        · exact skip (by unfold rcl; rw [if_neg (fun z => by omega)]) _
        have e0 : (i : Int) - 2 * x1 - 4 * x2 = ((i - 2 * x1 - 4 * x2 : Nat) : Int) := by omega
        have e1 : (s1 : Int) - x1 = ((s1 - x1 : Nat) : Int) := by omega
        have e2 : (s2 : Int) - x2 = ((s2 - x2 : Nat) : Int) := by omega
        have z1 := zand_eq (a := i - 2 * x1 - 4 * x2) (b := s1 - x1) (by omega) (by omega)
        have z2 := zand_eq (a := x1) (b := s2 - x2) (by omega) (by omega)
        have z3 := zand_eq (a := x2) (b := s3) (by omega) (by omega)
        have y1 : (i - 2 * x1 - 4 * x2) &&& (s1 - x1) ≤ s1 - x1 := Nat.and_le_right
        have y2 : x1 &&& (s2 - x2) ≤ s2 - x2 := Nat.and_le_right
        have y3 : x2 &&& s3 ≤ s3 := Nat.and_le_right
        refine And.intro (fun c3 => ?_) (fun c3 => ?_)
        · rw [e0, e1, z1] at c3
          exact skip (by unfold rcl; rw [if_neg (fun z => by omega)]) _
        rw [e0, e1, z1] at c3
        refine And.intro (fun c4 => ?_) (fun c4 => ?_)
        · rw [e2, z2] at c4
          exact skip (by unfold rcl; rw [if_neg (fun z => by omega)]) _
        rw [e2, z2] at c4
        refine And.intro (fun c5 => ?_) (fun c5 => ?_)
        · rw [z3] at c5
          exact skip (by unfold rcl; rw [if_neg (fun z => by omega)]) _
        rw [z3] at c5
        exact take ⟨by omega, by omega, by omega, by omega⟩
    have outer : ∀ k x1 : Nat, x1 + k = s1 + 1 → ∀ l9 l10, HW X 39 [some (.inr (.inr (some q))), some (.inl (i : Int)), some (.inl t), some (.inl n), some (.inl (s1 : Int)), some (.inl (s2 : Int)), some (.inl (s3 : Int)), some (.inl (xorN x1 (fun x1 => xorN (s2 + 1) (rcl N S i s1 s2 s3 n x1)) : Int)), some (.inl (x1 : Int)), l9, l10] [] F I J := by
      intro k
      induction k with
      | zero =>
        intro x1 hk l9 l10
        refine zgo (fun pc => Nat.beq pc 39) 200 hX hR rfl ?_
        refine And.intro (fun c1 => ?_) (fun c1 => by omega)
        exact And.intro (by rw [hq, show x1 = s1 + 1 by omega]; rfl) ⟨rfl, rfl, rfl⟩
      | succ k ih =>
        intro x1 hk l9 l10
        have h3 := inner x1 (by omega) (fun l9 l10 => by
          have h4 := ih (x1 + 1) (by omega) l9 l10
          refine zgo (fun pc => Nat.beq pc 39) 200 hX hR rfl ?_
          exact h4) (s2 + 1) 0 (by omega) l10
        rw [show ∀ f, xorN 0 f = 0 from fun _ => rfl, Nat.xor_zero] at h3
        refine zgo (fun pc => Nat.beq pc 39 || Nat.beq pc 49) 200 hX hR rfl ?_
        refine And.intro (fun c1 => by omega) (fun c1 => ?_)
        exact h3
    have h5 := outer (s1 + 1) 0 (by omega) none none
    rw [show ∀ f, xorN 0 f = 0 from fun _ => rfl] at h5
    exact h5
  obtain ⟨s1, e1⟩ := Int.eq_ofNat_of_zero_le h0.1
  obtain ⟨s2, e2⟩ := Int.eq_ofNat_of_zero_le h1.1
  obtain ⟨s3, e3⟩ := Int.eq_ofNat_of_zero_le h2.1
  have mid := core s1 s2 s3 (by omega) (by omega) (by omega) (by unfold rbn; rw [e1, e2, e3]; rfl)
  rw [← e1, ← e2, ← e3] at mid
  have mid2 : HW X 33 [some (.inr (.inr (some q))), some (.inl (i : Int)), some (.inl t), some (.inl n), some (.inl (bnm N t 0)), some (.inl (bnm N t 1)), some (.inl (bnm N t 2)), none, none, none, none] [] F I J := by
    refine zgo (fun pc => Nat.beq pc 39) 200 hX hR rfl ?_
    exact mid
  clear mid core
  refine zgo (fun pc => Nat.beq pc 33) 200 hX hR rfl ?_
  refine Exists.intro _ ⟨hs', ?_⟩
  refine qX4_timesRow_26 hX (c_X0_numberAt (xl X) (xD X) (xsh X) hb F I J hT (t := t) (j := 0) ⟨by omega, by omega⟩ ⟨by omega, by omega⟩) hb.1 (fun v F' I' J' hv => ?_)
  obtain ⟨rfl, rfl, rfl, rfl⟩ := hv
  refine Exists.intro _ ⟨hs', ?_⟩
  refine qX4_timesRow_26 hX (c_X0_numberAt (xl X) (xD X) (xsh X) hb F' I' J' hT (t := t) (j := 1) ⟨by omega, by omega⟩ ⟨by omega, by omega⟩) hb.1 (fun v F' I' J' hv => ?_)
  obtain ⟨rfl, rfl, rfl, rfl⟩ := hv
  refine Exists.intro _ ⟨hs', ?_⟩
  refine qX4_timesRow_26 hX (c_X0_numberAt (xl X) (xD X) (xsh X) hb F' I' J' hT (t := t) (j := 2) ⟨by omega, by omega⟩ ⟨by omega, by omega⟩) hb.1 (fun v F' I' J' hv => ?_)
  obtain ⟨rfl, rfl, rfl, rfl⟩ := hv
  exact mid2
