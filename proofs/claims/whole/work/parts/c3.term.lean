/-! the reference: term; changes, empty -/
def mRw (I : zFi) : Prop := ∀ w k, w < 61 → k < 3 → I 64 (3 * w + k) = (mN (3 * w + k) : Int)
theorem zsh_bit {x k : Nat} (hx : x < 2147483648) (hk : k < 31) : zand (zshr (x : Int) (k : Int)) 1 = if x.testBit k then 1 else 0 := zbit hx hk
theorem lnC_nz : ∀ u, u < 61 → ∀ k, k < lnC u → cn u k ≠ 0 := by decide +kernel
theorem c_X9_term (l : Launch) (D : va_G) (sh : Nat → Option zS) (hs : zWM sh) (F I : zFi) (J : zJi) (hb : mBg I) (hq : mSq I) (hq2 : mSr I) (hwd : mWd I) (hrw : mRw I) {ℓ : Nat} {c : Nat → Nat} (hw : RWd F I ℓ c) {what i j : Int} (h1 : zi32 what) (h2 : zi32 i) (h3 : zi32 j) :
    Cn l D yX9_term wsX9_term mX9_term.2.2.2.2 sh [.inr (.inr (some 60)), .inl what, .inl i, .inl j] F I J (zself F I J (.inl (atm ℓ c what i j))) := by
  obtain ⟨cA, h61⟩ := hs.a61
  obtain ⟨cB, h62⟩ := hs.a62
  obtain ⟨cC, h63⟩ := hs.a63
  obtain ⟨cD, h64⟩ := hs.a64
  have hw14 := hw.2.2.1
  have hr := dg_range hw14
  have hlt2 := wsm_lt hw14 what
  have hlt := Nat.lt_of_lt_of_le hlt2 (pow9 hw14)
  refine zmet (M := mX9_term) rfl rfl rfl kX9_term (Nat.le_of_ble_eq_true rfl) (fun X hX hR' hl hD hsh => ?_)
  subst hl hD hsh
  have g1 := h1
  have g2 := h2
  have g3 := h3
  unfold zi32 at g1 g2 g3
  have bad : ((what < 0 ∨ 1 < what) ∨ i < 0 ∨ j < 0 ∨ (what = 1 ∧ 3 < j)) → HW X 27 [some (.inr (.inr (some 60))), some (.inl what), some (.inl i), some (.inl j), none, none] [] F I J := fun hc => by
    refine zgo (fun _ => false) 200 hX hR' rfl ?_
    refine And.intro ?_ ⟨rfl, rfl, rfl⟩
    unfold atm
    by_cases g : what < 0 ∨ 1 < what ∨ j < 0 ∨ (what = 1 ∧ 4 ≤ j)
    · rw [if_pos g]
    · rw [if_neg g]
      have hi0 : i < 0 := by omega
      have := pbk_out (x := wsm ℓ c what) (i := i) 31 0 0 (Or.inl (by omega))
      rw [this, if_pos (by decide)]
  have good : (0 ≤ what ∧ what ≤ 1) → 0 ≤ i → 0 ≤ j → ¬ (what = 1 ∧ 3 < j) → HW X 29 [some (.inr (.inr (some 60))), some (.inl what), some (.inl i), some (.inl j), none, none] [] F I J := fun k1 k2 k3 k4 => by
    have hng : ¬ (what < 0 ∨ 1 < what ∨ j < 0 ∨ (what = 1 ∧ 4 ≤ j)) := by omega
    rcases pbk_at hlt (i := i) with ⟨p1, p2⟩ | ⟨a, q, rfl, ha, hq9, hp, hbt, hlow⟩
    · refine zgo (fun pc => Nat.beq pc 50 || Nat.beq pc 74) 200 hX hR' rfl ?_
      refine qX9_term_133 hX (c_X9_sumOf (xl X) (xD X) (xsh X) hs F I J hb hq hq2 hw h1) hs.o (fun v F2 I2 J2 hv => ?_)
      obtain ⟨rfl, rfl, rfl, rfl⟩ := hv
      refine qX9_term_136 hX (c_X9_ones (xl X) (xD X) (xsh X) F2 I2 J2 (x := wsm ℓ c what) (by omega)) (fun v F3 I3 J3 hv => ?_)
      obtain ⟨rfl, rfl, rfl, rfl⟩ := hv
      have h9 := zpop_9 hlt
      refine And.intro (fun c1 => by omega) (fun c1 => ?_)
      refine And.intro ?_ ⟨rfl, rfl, rfl⟩
      unfold atm
      rw [if_neg hng, p2, if_pos (by decide)]
    · have hcl := clr_le (wsm ℓ c what) a
      have hqs : q < aS (ns ℓ c + 1) - aS (ns ℓ c) := by
        rcases Nat.lt_or_ge q (aS (ns ℓ c + 1) - aS (ns ℓ c)) with g | g
        · exact g
        · rw [tb_small (Nat.lt_of_le_of_lt hcl hlt2) g] at hbt
          cases hbt
      have hwl : aS (ns ℓ c) + q < 61 := by omega
      obtain ⟨d1, d2⟩ := hwd (aS (ns ℓ c) + q) hwl
      obtain ⟨d3, d4⟩ := lnC_z (aS (ns ℓ c) + q) hwl
      have d5 := lnC_nz (aS (ns ℓ c) + q) hwl
      have fin : HW X 104 [some (.inr (.inr (some 60))), some (.inl what), some (.inl (a : Int)), some (.inl j), some (.inl (clr (wsm ℓ c what) a : Int)), some (.inl ((q : Int) + (aS (ns ℓ c) : Int)))] [] F I J := by
        refine zgo (fun _ => false) 200 hX hR' rfl ?_
        unfold atm
        rw [if_neg hng, hp, if_neg (by omega)]
        obtain ⟨j', rfl⟩ := Int.eq_ofNat_of_zero_le k3
        refine And.intro (fun c1 => ?_) (fun c1 => ?_)
        · rw [if_neg (by omega)]
          refine Exists.intro _ ⟨hs.o, ?_⟩
          refine Exists.intro _ ⟨_, aS (ns ℓ c) + q, h62, by omega, by omega, ?_⟩
          refine And.intro (fun c2 => ?_) (fun c2 => ?_)
          · rw [d1] at c2
            refine And.intro ?_ ⟨rfl, rfl, rfl⟩
            have : bnm aN ((aS (ns ℓ c) : Int) + (q : Int)) (j' : Int) = 0 := by
              unfold bnm
              split
              · rename_i g
                have := d4 j' (by omega) (by omega)
                unfold cn at this
                rw [show ((aS (ns ℓ c) : Int) + (q : Int)).toNat * 3 + (j' : Int).toNat = (aS (ns ℓ c) + q) * 3 + j' by omega, this]
                rfl
              · rfl
            rw [if_pos this]
          · rw [d1] at c2
            have hj3 : j' < lnC (aS (ns ℓ c) + q) := by omega
            have hnz := d5 j' hj3
            refine Exists.intro _ ⟨hs.o, ?_⟩
            refine Exists.intro _ ⟨_, 4 * (aS (ns ℓ c) + q) + j', h63, by omega, by omega, ?_⟩
            refine And.intro ?_ ⟨rfl, rfl, rfl⟩
            rw [d2 j' (by omega)]
            have : bnm aN ((aS (ns ℓ c) : Int) + (q : Int)) (j' : Int) = (cn (aS (ns ℓ c) + q) j' : Int) := by
              unfold bnm cn
              rw [if_pos (by omega), show ((aS (ns ℓ c) : Int) + (q : Int)).toNat * 3 + (j' : Int).toNat = (aS (ns ℓ c) + q) * 3 + j' by omega]
            rw [this, if_neg (by omega)]
        · rw [if_pos (by omega)]
          refine And.intro (fun c2 => ?_) (fun c2 => ?_)
          · refine Exists.intro _ ⟨hs.o, ?_⟩
            refine Exists.intro _ ⟨_, 3 * (aS (ns ℓ c) + q) + j', h64, by omega, by omega, ?_⟩
            refine And.intro ?_ ⟨rfl, rfl, rfl⟩
            rw [hrw _ j' hwl (by omega)]
            unfold bnm
            rw [if_pos (by omega), show ((aS (ns ℓ c) : Int) + (q : Int)).toNat * 3 + (j' : Int).toNat = 3 * (aS (ns ℓ c) + q) + j' by omega]
          · refine And.intro ?_ ⟨rfl, rfl, rfl⟩
            unfold bnm
            rw [if_neg (by omega)]
      have l74 : ∀ r k : Nat, k + r = q → HW X 74 [some (.inr (.inr (some 60))), some (.inl what), some (.inl (a : Int)), some (.inl j), some (.inl (clr (wsm ℓ c what) a : Int)), some (.inl (k : Int))] [] F I J := by
        intro r
        induction r with
        | zero =>
          intro k hk
          have hk' : k = q := by omega
          subst hk'
          have hz := zbit (x := clr (wsm ℓ c what) a) (e := k) (by omega) (by omega)
          rw [hbt, if_pos rfl] at hz
          refine zgo (fun pc => Nat.beq pc 74 || Nat.beq pc 104) 200 hX hR' rfl ?_
          refine And.intro (fun c1 => ?_) (fun c1 => by rw [hz] at c1; exact absurd c1 (by decide))
          refine Exists.intro _ ⟨hs.o, ?_⟩
          refine qX9_term_126 hX (c_X9_wordDegree (xl X) (xD X) (xsh X) hs F I J hw) hs.o (fun v F3 I3 J3 hv => ?_)
          obtain ⟨rfl, rfl, rfl, rfl⟩ := hv
          refine Exists.intro _ ⟨_, ns ℓ c, h61, rfl, by omega, ?_⟩
          rw [hb _ (by omega)]
          exact fin
        | succ r ih =>
          intro k hk
          have h := ih (k + 1) (by omega)
          have hz := zbit (x := clr (wsm ℓ c what) a) (e := k) (by omega) (by omega)
          rw [hlow k (by omega), if_neg (by decide)] at hz
          refine zgo (fun pc => Nat.beq pc 74 || Nat.beq pc 104) 200 hX hR' rfl ?_
          refine And.intro (fun c1 => by rw [hz] at c1; exact absurd rfl c1) (fun c1 => ?_)
          exact h
      have l50 : ∀ r k : Nat, k + r = a → HW X 50 [some (.inr (.inr (some 60))), some (.inl what), some (.inl (a : Int)), some (.inl j), some (.inl (clr (wsm ℓ c what) k : Int)), some (.inl (k : Int))] [] F I J := by
        intro r
        induction r with
        | zero =>
          intro k hk
          have hk' : k = a := by omega
          subst hk'
          have h := l74 q 0 (by omega)
          refine zgo (fun pc => Nat.beq pc 50 || Nat.beq pc 74) 200 hX hR' rfl ?_
          refine And.intro (fun c1 => ?_) (fun c1 => by omega)
          exact h
        | succ r ih =>
          intro k hk
          have h := ih (k + 1) (by omega)
          have e1 := clr_le (wsm ℓ c what) k
          have e2 := (clr_end (x := wsm ℓ c what) (by omega)).2 k (by omega)
          rw [show clr (wsm ℓ c what) (k + 1) = clr (wsm ℓ c what) k &&& (clr (wsm ℓ c what) k - 1) from rfl, ← zand_eq (by omega) (by omega), show ((clr (wsm ℓ c what) k - 1 : Nat) : Int) = (clr (wsm ℓ c what) k : Int) - 1 by omega] at h
          refine zgo (fun pc => Nat.beq pc 50 || Nat.beq pc 74) 200 hX hR' rfl ?_
          refine And.intro (fun c1 => by omega) (fun c1 => ?_)
          exact h
      have h0 := l50 a 0 (by omega)
      refine zgo (fun pc => Nat.beq pc 50 || Nat.beq pc 74) 200 hX hR' rfl ?_
      refine qX9_term_133 hX (c_X9_sumOf (xl X) (xD X) (xsh X) hs F I J hb hq hq2 hw h1) hs.o (fun v F2 I2 J2 hv => ?_)
      obtain ⟨rfl, rfl, rfl, rfl⟩ := hv
      refine qX9_term_136 hX (c_X9_ones (xl X) (xD X) (xsh X) F2 I2 J2 (x := wsm ℓ c what) (by omega)) (fun v F3 I3 J3 hv => ?_)
      obtain ⟨rfl, rfl, rfl, rfl⟩ := hv
      have h9 := zpop_9 hlt
      refine And.intro (fun c1 => ?_) (fun c1 => by omega)
      exact h0
  refine zgo (fun pc => Nat.beq pc 27 || Nat.beq pc 29) 200 hX hR' rfl ?_
  refine qX9_term_122 hX (c_X9_in (xl X) (xD X) (xsh X) F I J (x := what) (lo := 0) (hi := 1) h1 ⟨by omega, by omega⟩ ⟨by omega, by omega⟩) (fun v F' I' J' hv => ?_)
  obtain ⟨rfl, rfl, rfl, rfl⟩ := hv
  refine And.intro (fun c1 => bad (Or.inl ?_)) (fun c1 => ?_)
  · have hi0 : ¬ (0 ≤ what ∧ what ≤ 1) := fun g => by rw [if_pos g] at c1; exact absurd c1 (by decide)
    omega
  have hi0 : 0 ≤ what ∧ what ≤ 1 := Decidable.byContradiction fun g => by rw [if_neg g] at c1; exact c1 rfl
  refine And.intro (fun c2 => bad (by omega)) (fun c2 => ?_)
  refine And.intro (fun c3 => bad (by omega)) (fun c3 => ?_)
  refine And.intro (fun c4 => good hi0 (by omega) (by omega) (by omega)) (fun c4 => ?_)
  exact And.intro (fun c5 => good hi0 (by omega) (by omega) (by omega)) (fun c5 => bad (by omega))
