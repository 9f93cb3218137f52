/-! the class: term, many; bits that lie within others -/
theorem zsubm {b : Int} {r : Nat} (hb : zi32 b) (hr : r < 2147483648) : zand b (zxor (r : Int) (-1)) = 0 ↔ ∃ x : Nat, b = (x : Int) ∧ x &&& r = x := by
  unfold zi32 at hb
  have hR : ∀ q, q < 32 → (Int32.ofInt (r : Int)).toBitVec.getLsbD q = r.testBit q := fun q hq => by
    rw [zi_nI]
    show (BitVec.ofNat 32 r).getLsbD q = _
    rw [BitVec.getLsbD_ofNat, decide_eq_true hq, Bool.true_and]
  have h1 : ∀ q, q < 32 → (Int32.ofInt b &&& Int32.ofInt (zxor (r : Int) (-1))).toBitVec.getLsbD q = ((Int32.ofInt b).toBitVec.getLsbD q && !(r.testBit q)) := fun q hq => by
    unfold zxor
    rw [Int32.ofInt_toInt, Int32.toBitVec_and, Int32.toBitVec_xor, BitVec.getLsbD_and, BitVec.getLsbD_xor, hR q hq]
    congr 1
    have : (Int32.ofInt (-1)).toBitVec.getLsbD q = true := by
      rw [show (Int32.ofInt (-1)).toBitVec = BitVec.allOnes 32 from rfl, BitVec.getLsbD_allOnes, decide_eq_true hq]
    rw [this, Bool.xor_true]
  have h0 : zand b (zxor (r : Int) (-1)) = 0 ↔ ∀ q, q < 32 → ((Int32.ofInt b).toBitVec.getLsbD q && !(r.testBit q)) = false := by
    constructor
    · intro h q hq
      rw [← h1 q hq]
      have : Int32.ofInt b &&& Int32.ofInt (zxor (r : Int) (-1)) = 0 := Int32.toInt_inj.mp h
      rw [this]
      show (0#32).getLsbD q = false
      exact BitVec.getLsbD_zero
    · intro h
      have : Int32.ofInt b &&& Int32.ofInt (zxor (r : Int) (-1)) = 0 := by
        apply Int32.toBitVec_inj.mp
        apply BitVec.eq_of_getLsbD_eq
        intro q hq
        rw [h1 q hq, h q hq]
        exact BitVec.getLsbD_zero.symm
      unfold zand
      rw [this]
      rfl
  rw [h0]
  constructor
  · intro h
    have hr31 : r.testBit 31 = false := Nat.testBit_lt_two_pow (show r < 2 ^ 31 from hr)
    have hm := h 31 (by decide)
    rw [hr31] at hm
    have hb0 : 0 ≤ b := by
      rcases (show b < 0 ∨ 0 ≤ b by omega) with g | g
      · exfalso
        have e : (Int32.ofInt b).toBitVec.getLsbD 31 = true := by
          rw [show b = -((-b).toNat : Int) by omega]
          show (BitVec.ofInt 32 (-((-b).toNat : Int))).getLsbD 31 = true
          rw [← BitVec.msb_eq_getLsbD_last, BitVec.msb_eq_toInt, BitVec.toInt_ofInt]
          rw [decide_eq_true]
          rw [show (2 : Nat) ^ 32 = 4294967296 from rfl, Int.bmod_def]
          omega
        rw [e] at hm
        cases hm
      · exact g
    obtain ⟨x, rfl⟩ := Int.eq_ofNat_of_zero_le hb0
    refine ⟨x, rfl, ?_⟩
    apply Nat.eq_of_testBit_eq
    intro q
    rw [Nat.testBit_and]
    by_cases hq : q < 32
    · have := h q hq
      rw [zi_nI] at this
      have e2 : (nI x).toBitVec.getLsbD q = x.testBit q := by
        show (BitVec.ofNat 32 x).getLsbD q = _
        rw [BitVec.getLsbD_ofNat, decide_eq_true hq, Bool.true_and]
      rw [e2] at this
      cases hx : x.testBit q
      · rfl
      · rw [hx] at this
        cases hr2 : r.testBit q
        · rw [hr2] at this
          cases this
        · rfl
    · rw [Nat.testBit_lt_two_pow (show x < 2 ^ q from Nat.lt_of_lt_of_le (by omega : x < 2 ^ 32) (Nat.pow_le_pow_right (by decide) (by omega)))]
      rfl
  · rintro ⟨x, rfl, hx⟩ q hq
    rw [zi_nI]
    have e2 : (nI x).toBitVec.getLsbD q = x.testBit q := by
      show (BitVec.ofNat 32 x).getLsbD q = _
      rw [BitVec.getLsbD_ofNat, decide_eq_true hq, Bool.true_and]
    rw [e2]
    have := congrArg (fun z => z.testBit q) hx
    rw [Nat.testBit_and] at this
    cases h1 : x.testBit q
    · rfl
    · rw [h1, Bool.true_and] at this
      rw [this]
      rfl
/-- a term's number -/
def atm (ℓ : Nat) (c : Nat → Nat) (what i j : Int) : Int :=
  if what < 0 ∨ 1 < what ∨ j < 0 ∨ (what = 1 ∧ 4 ≤ j) then -1 else if pbk (wsm ℓ c what) i 31 0 0 < 0 then -1 else
    if what = 1 then bnm mN ((aS (ns ℓ c) : Int) + pbk (wsm ℓ c what) i 31 0 0) j else if bnm aN ((aS (ns ℓ c) : Int) + pbk (wsm ℓ c what) i 31 0 0) j = 0 then -9 else bnm aN ((aS (ns ℓ c) : Int) + pbk (wsm ℓ c what) i 31 0 0) j
theorem pbk_i (x : Nat) (i : Int) : ∀ n k seen, -1 ≤ pbk x i n k seen ∧ pbk x i n k seen ≤ (k : Int) + n := by
  intro n
  induction n with
  | zero => intro k seen; show -1 ≤ (-1 : Int) ∧ (-1 : Int) ≤ (k : Int) + 0; omega
  | succ n ih =>
    intro k seen
    have h1 := ih (k + 1) (seen + 1)
    have h2 := ih (k + 1) seen
    show -1 ≤ (if x.testBit k then (if (seen : Int) = i then (k : Int) else pbk x i n (k + 1) (seen + 1)) else pbk x i n (k + 1) seen) ∧ (if x.testBit k then (if (seen : Int) = i then (k : Int) else pbk x i n (k + 1) (seen + 1)) else pbk x i n (k + 1) seen) ≤ (k : Int) + ((n + 1 : Nat) : Int)
    split
    · split <;> omega
    · omega
theorem c_X8_term (l : Launch) (D : va_G) (sh : Nat → Option zS) (hs : zWS sh) (F I : zFi) (J : zJi) (hT : zTb I) {ℓ : Nat} {c : Nat → Nat} (hw : WdM F I ℓ c) {what i j : Int} (h1 : zi32 what) (h2 : zi32 i) (h3 : zi32 j) :
    Cn l D yX8_term wsX8_term mX8_term.2.2.2.2 sh [.inr (.inr (some 0)), .inl what, .inl i, .inl j] F I J (zself F I J (.inl (atm ℓ c what i j))) := by
  have hb := hs.1.2.1
  obtain ⟨-, h0, -, hb2, -⟩ := id hs
  obtain ⟨w1, w2, w3, w4, w5⟩ := id hw
  unfold zi32 at h1 h2 h3
  have hbs : bst aS (ns ℓ c : Int) = aS (ns ℓ c) := bst_aS (by omega)
  have hSb : aS (ns ℓ c) ≤ 61 := hT.1.2.2.1 _
  refine zmet (M := mX8_term) rfl rfl rfl kX8_term (Nat.le_of_ble_eq_true rfl) (fun X hX hR hl hD hsh => ?_)
  subst hl hD hsh
  have bad : (what < 0 ∨ 1 < what ∨ j < 0 ∨ (what = 1 ∧ 4 ≤ j)) → HW X 23 [some (.inr (.inr (some 0))), some (.inl what), some (.inl i), some (.inl j), none, none] [] F I J := fun hc => by
    refine zgo (fun _ => false) 200 hX hR rfl ?_
    exact And.intro (by unfold atm; rw [if_pos hc]) ⟨rfl, rfl, rfl⟩
  have h40 : ¬ (what < 0 ∨ 1 < what ∨ j < 0 ∨ (what = 1 ∧ 4 ≤ j)) → HW X 40 [some (.inr (.inr (some 0))), some (.inl what), some (.inl i), some (.inl j), none, none] [.inl (wsm ℓ c what : Int)] F I J := fun hc => by
    have hlt : wsm ℓ c what < 1073741824 := by
      unfold wsm
      split
      · exact wsA_lt hT.2.2 _ _ _
      · exact wsR_lt _ _ _
    have hp := pbk_i (wsm ℓ c what) i 31 0 0
    refine zgo (fun _ => false) 200 hX hR rfl ?_
    refine qX8_term_84 hX (c_X8_placeOfBit (xl X) (xD X) (xsh X) F I J hlt (i := i) ⟨by omega, by omega⟩) (fun v F' I' J' hv => ?_)
    obtain ⟨rfl, rfl, rfl, rfl⟩ := hv
    unfold atm
    rw [if_neg hc]
    refine And.intro (fun c1 => ?_) (fun c1 => ?_)
    · rw [if_neg (by omega)]
      refine And.intro (fun c2 => ?_) (fun c2 => ?_)
      · rw [if_neg (by omega)]
        refine Exists.intro _ ⟨h0, ?_⟩
        refine Exists.intro _ ⟨h0, ?_⟩
        refine Exists.intro _ ⟨h0, ?_⟩
        rw [w2]
        refine qX8_term_88 hX (c_X0_start (xl X) (xD X) (xsh X) hb F' I' J' hT.1 (d := (ns ℓ c : Int)) ⟨by omega, by omega⟩) hb.1 (fun v F2 I2 J2 hv => ?_)
        obtain ⟨rfl, rfl, rfl, rfl⟩ := hv
        rw [hbs]
        refine qX8_term_91 hX (c_X0_numberAt (xl X) (xD X) (xsh X) hb F2 I2 J2 hT.1 (t := (aS (ns ℓ c) : Int) + pbk (wsm ℓ c what) i 31 0 0) (j := j) ⟨by omega, by omega⟩ ⟨by omega, by omega⟩) hb.1 (fun v F3 I3 J3 hv => ?_)
        obtain ⟨rfl, rfl, rfl, rfl⟩ := hv
        have hb61 := bnm_i hT.1 ((aS (ns ℓ c) : Int) + pbk (wsm ℓ c what) i 31 0 0) j
        refine And.intro (fun c3 => ?_) (fun c3 => ?_)
        · exact And.intro (by rw [if_neg (by omega)]) ⟨rfl, rfl, rfl⟩
        · exact And.intro (by rw [if_pos (by omega)]) ⟨rfl, rfl, rfl⟩
      · rw [if_pos (by omega)]
        refine Exists.intro _ ⟨h0, ?_⟩
        refine Exists.intro _ ⟨h0, ?_⟩
        refine Exists.intro _ ⟨h0, ?_⟩
        rw [w2]
        refine qX8_term_88 hX (c_X0_start (xl X) (xD X) (xsh X) hb2 F' I' J' hT.2.1 (d := (ns ℓ c : Int)) ⟨by omega, by omega⟩) hb2.1 (fun v F2 I2 J2 hv => ?_)
        obtain ⟨rfl, rfl, rfl, rfl⟩ := hv
        rw [hbs]
        refine qX8_term_91 hX (c_X0_numberAt (xl X) (xD X) (xsh X) hb2 F2 I2 J2 hT.2.1 (t := (aS (ns ℓ c) : Int) + pbk (wsm ℓ c what) i 31 0 0) (j := j) ⟨by omega, by omega⟩ ⟨by omega, by omega⟩) hb2.1 (fun v F3 I3 J3 hv => ?_)
        obtain ⟨rfl, rfl, rfl, rfl⟩ := hv
        exact And.intro rfl ⟨rfl, rfl, rfl⟩
    · rw [if_pos (by omega)]
      exact And.intro rfl ⟨rfl, rfl, rfl⟩
  have h25 : ¬ (what < 0 ∨ 1 < what ∨ j < 0 ∨ (what = 1 ∧ 4 ≤ j)) → HW X 25 [some (.inr (.inr (some 0))), some (.inl what), some (.inl i), some (.inl j), none, none] [] F I J := fun hc => by
    have h4 := h40 hc
    refine zgo (fun pc => Nat.beq pc 40) 200 hX hR rfl ?_
    refine And.intro (fun c1 => ?_) (fun c1 => ?_)
    · refine qX8_term_75 hX (c_X8_sumOfRows (xl X) (xD X) (xsh X) hs F I J hT hw) hs.2.1 (fun v F' I' J' hv => ?_)
      obtain ⟨rfl, rfl, rfl, rfl⟩ := hv
      unfold wsm at h4
      rw [if_neg (by omega)] at h4
      exact h4
    · refine qX8_term_71 hX (c_X8_sumOfAllowed (xl X) (xD X) (xsh X) hs F I J hT hw) hs.2.1 (fun v F' I' J' hv => ?_)
      obtain ⟨rfl, rfl, rfl, rfl⟩ := hv
      unfold wsm at h4
      rw [if_pos (by omega)] at h4
      exact h4
  refine zgo (fun pc => Nat.beq pc 23 || Nat.beq pc 25) 200 hX hR rfl ?_
  refine And.intro (fun c1 => bad (by omega)) (fun c1 => ?_)
  refine And.intro (fun c2 => bad (by omega)) (fun c2 => ?_)
  refine And.intro (fun c3 => bad (by omega)) (fun c3 => ?_)
  refine And.intro (fun c4 => h25 (by omega)) (fun c4 => ?_)
  exact And.intro (fun c5 => h25 (by omega)) (fun c5 => bad (by omega))
def amy (d : Int) : Int := if d < 0 ∨ 14 < d then -1 else bsz aS d
theorem c_X8_many (l : Launch) (D : va_G) (sh : Nat → Option zS) (hs : zWS sh) (F I : zFi) (J : zJi) (hT : zTb I) {d : Int} (h1 : zi32 d) :
    Cn l D yX8_many wsX8_many mX8_many.2.2.2.2 sh [.inr (.inr (some 0)), .inl d] F I J (zself F I J (.inl (amy d))) := by
  have hb := hs.1.2.1
  obtain ⟨-, h0, -⟩ := id hs
  unfold zi32 at h1
  refine zmet (M := mX8_many) rfl rfl rfl kX8_many (Nat.le_of_ble_eq_true rfl) (fun X hX hR hl hD hsh => ?_)
  subst hl hD hsh
  refine zgo (fun _ => false) 200 hX hR rfl ?_
  unfold amy
  refine And.intro (fun c1 => ?_) (fun c1 => ?_)
  · exact And.intro (by rw [if_pos (by omega)]) ⟨rfl, rfl, rfl⟩
  refine And.intro (fun c2 => ?_) (fun c2 => ?_)
  · refine Exists.intro _ ⟨h0, ?_⟩
    refine qX8_many_94 hX (c_X0_size (xl X) (xD X) (xsh X) hb F I J hT.1 (d := d) ⟨by omega, by omega⟩) hb.1 (fun v F2 I2 J2 hv => ?_)
    obtain ⟨rfl, rfl, rfl, rfl⟩ := hv
    exact And.intro (by rw [if_neg (by omega)]) ⟨rfl, rfl, rfl⟩
  · exact And.intro (by rw [if_pos (by omega)]) ⟨rfl, rfl, rfl⟩
