/-! chains: their numbers, THE RULE on the table of products -/
def aNum : List Nat := [0, 0, 0, 1, 0, 0, 2, 0, 0, 2, 1, 0, 3, 0, 0, 3, 1, 0, 4, 0, 0, 4, 1, 0, 5, 0, 0, 4, 2, 0, 5, 1, 0, 6, 0, 0, 4, 2, 1, 5, 2, 0, 6, 1, 0, 7, 0, 0, 5, 2, 1, 6, 2, 0, 7, 1, 0, 8, 0, 0, 6, 2, 1, 6, 3, 0, 7, 2, 0, 8, 1, 0, 9, 0, 0, 6, 3, 1, 7, 2, 1, 7, 3, 0, 8, 2, 0, 9, 1, 0, 10, 0, 0, 7, 3, 1, 8, 2, 1, 8, 3, 0, 9, 2, 0, 10, 1, 0, 11, 0, 0, 8, 3, 1, 8, 4, 0, 9, 2, 1, 9, 3, 0, 10, 2, 0, 11, 1, 0, 12, 0, 0, 8, 4, 1, 9, 3, 1, 9, 4, 0, 10, 2, 1, 10, 3, 0, 11, 2, 0, 12, 1, 0, 13, 0, 0, 8, 4, 2, 9, 4, 1, 10, 3, 1, 10, 4, 0, 11, 2, 1, 11, 3, 0, 12, 2, 0, 13, 1, 0, 14, 0, 0]
def aRestL : List Nat := [0, 0, 0, 1, 0, 1, 0, 1, 0, 2, 1, 0, 3, 2, 1, 0, 3, 2, 1, 0, 3, 4, 2, 1, 0, 5, 3, 4, 2, 1, 0, 5, 3, 4, 2, 1, 0, 5, 6, 3, 4, 2, 1, 0, 7, 5, 6, 3, 4, 2, 1, 0, 9, 7, 5, 6, 3, 4, 2, 1, 0]
def aN (j : Nat) : Nat := aNum.getD j 0
def aS (j : Nat) : Nat := aSt.getD j 0
def aR (u : Nat) : Nat := aRestL.getD u 0
def cn (u j : Nat) : Nat := aN (u * 3 + j)
/-- the chain of one number -/
def sg (i : Nat) : Nat := aS (i + 1) - 1
def rul (i v : Nat) : Nat := xorN (i / 2 + 1) (fun j => if Nat.beq ((cn v 0 - 1 - j) &&& (i - 2 * j)) (i - 2 * j) then xfold 61 (gpA (sg j) (aR v)) (fun w => gpA (sg (i + cn v 0 - j)) w) else 0)
def ckRule : Bool := (List.range 61).all fun v => (List.range 15).all fun i => Nat.beq i 0 || !Nat.ble (i + dgA v) 14 || (match Nat.ble (2 * cn v 0) i with
  | true => Nat.beq (cn v 2) 0 && (List.range 61).any fun w => Nat.beq (gpA (sg i) v) (2 ^ w) && (Nat.beq (cn w 0) i && (Nat.beq (cn w 1) (cn v 0) && Nat.beq (cn w 2) (cn v 1)))
  | false => Nat.beq (gpA (sg i) v) (rul i v))
set_option maxRecDepth 100000 in
theorem ckRule_ok : ckRule = true := by decide +kernel
def ckRest : Bool := (List.range 61).all fun u => Nat.beq (dgA u) (cn u 0 + cn u 1 + cn u 2) && (Nat.blt (aR u) 61 && (Nat.beq (cn (aR u) 0) (cn u 1) && (Nat.beq (cn (aR u) 1) (cn u 2) && (Nat.beq (cn (aR u) 2) 0 && (Nat.beq (gpA (sg (cn u 0)) (aR u)) (2 ^ u) && (Nat.beq u 0 || Nat.blt 0 (cn u 0)))))))
set_option maxRecDepth 100000 in
theorem ckRest_ok : ckRest = true := by decide +kernel
def ckSg : Bool := (List.range 15).all fun i => Nat.blt (sg i) 61 && (Nat.beq (cn (sg i) 0) i && (Nat.beq (cn (sg i) 1) 0 && (Nat.beq (cn (sg i) 2) 0 && Nat.beq (dgA (sg i)) i)))
theorem ckSg_ok : ckSg = true := by decide +kernel
theorem blt_lt {a b : Nat} (h : Nat.blt a b = true) : a < b := Nat.lt_of_lt_of_le (Nat.lt_succ_self a) (Nat.le_of_ble_eq_true h)
theorem cn_rest {u : Nat} (hu : u < 61) : dgA u = cn u 0 + cn u 1 + cn u 2 ∧ aR u < 61 ∧ cn (aR u) 0 = cn u 1 ∧ cn (aR u) 1 = cn u 2 ∧ cn (aR u) 2 = 0 ∧ gpA (sg (cn u 0)) (aR u) = 2 ^ u ∧ (u ≠ 0 → 0 < cn u 0) := by
  have h := range_all ckRest_ok hu
  simp only [Bool.and_eq_true, Bool.or_eq_true] at h
  obtain ⟨h1, h2, h3, h4, h5, h6, h7⟩ := h
  refine ⟨Nat.eq_of_beq_eq_true h1, blt_lt h2, Nat.eq_of_beq_eq_true h3, Nat.eq_of_beq_eq_true h4, Nat.eq_of_beq_eq_true h5, Nat.eq_of_beq_eq_true h6, fun h0 => ?_⟩
  rcases h7 with h7 | h7
  · exact absurd (Nat.eq_of_beq_eq_true h7) h0
  · exact blt_lt h7
theorem sg_ok {i : Nat} (hi : i ≤ 14) : sg i < 61 ∧ cn (sg i) 0 = i ∧ cn (sg i) 1 = 0 ∧ cn (sg i) 2 = 0 ∧ dgA (sg i) = i := by
  have h := range_all ckSg_ok (show i < 15 by omega)
  simp only [Bool.and_eq_true] at h
  obtain ⟨h1, h2, h3, h4, h5⟩ := h
  exact ⟨blt_lt h1, Nat.eq_of_beq_eq_true h2, Nat.eq_of_beq_eq_true h3, Nat.eq_of_beq_eq_true h4, Nat.eq_of_beq_eq_true h5⟩
theorem rule_at {i v : Nat} (hv : v < 61) (hi : 1 ≤ i) (hd : i + dgA v ≤ 14) :
    (2 * cn v 0 ≤ i ∧ cn v 2 = 0 ∧ ∃ w, w < 61 ∧ gpA (sg i) v = 2 ^ w ∧ cn w 0 = i ∧ cn w 1 = cn v 0 ∧ cn w 2 = cn v 1) ∨ (i < 2 * cn v 0 ∧ gpA (sg i) v = rul i v) := by
  have h := range_all (range_all ckRule_ok hv) (show i < 15 by omega)
  simp only [Bool.or_eq_true, Bool.not_eq_true'] at h
  rcases h with (h | h) | h
  · exact absurd (Nat.eq_of_beq_eq_true h) (by omega)
  · exact absurd (Nat.ble_eq_true_of_le hd) (by rw [h]; decide)
  · cases hb : Nat.ble (2 * cn v 0) i
    · rw [hb] at h
      refine Or.inr ⟨?_, Nat.eq_of_beq_eq_true h⟩
      rcases Nat.lt_or_ge i (2 * cn v 0) with g | g
      · exact g
      · rw [Nat.ble_eq_true_of_le g] at hb
        cases hb
    · rw [hb] at h
      have h' : (Nat.beq (cn v 2) 0 && (List.range 61).any fun w => Nat.beq (gpA (sg i) v) (2 ^ w) && (Nat.beq (cn w 0) i && (Nat.beq (cn w 1) (cn v 0) && Nat.beq (cn w 2) (cn v 1)))) = true := h
      simp only [Bool.and_eq_true] at h'
      obtain ⟨h1, h2⟩ := h'
      obtain ⟨w, hw, h3⟩ := List.any_eq_true.mp h2
      simp only [Bool.and_eq_true] at h3
      obtain ⟨h3, h4, h5, h6⟩ := h3
      exact Or.inl ⟨Nat.le_of_ble_eq_true hb, Nat.eq_of_beq_eq_true h1, w, List.mem_range.mp hw, Nat.eq_of_beq_eq_true h3, Nat.eq_of_beq_eq_true h4, Nat.eq_of_beq_eq_true h5, Nat.eq_of_beq_eq_true h6⟩
theorem bst_aS {t : Nat} (h : t ≤ 15) : bst aS (t : Int) = aS t := by
  unfold bst
  rw [Int.toNat_natCast, Nat.min_eq_left h]
def ckDg : Bool := (List.range 15).all fun t => Nat.ble (aS t) (aS (t + 1)) && (Nat.ble (aS (t + 1) - aS t) 9 && (Nat.ble (aS (t + 1)) 61 && (List.range 61).all fun u => Nat.beq (dgA u) t == (Nat.ble (aS t) u && Nat.blt u (aS (t + 1)))))
theorem ckDg_ok : ckDg = true := by decide +kernel
theorem dg_range {t : Nat} (ht : t ≤ 14) : aS t ≤ aS (t + 1) ∧ aS (t + 1) - aS t ≤ 9 ∧ aS (t + 1) ≤ 61 ∧ ∀ u, u < 61 → (dgA u = t ↔ aS t ≤ u ∧ u < aS (t + 1)) := by
  have h := range_all ckDg_ok (show t < 15 by omega)
  simp only [Bool.and_eq_true] at h
  obtain ⟨h1, h2, h3, h4⟩ := h
  refine ⟨Nat.le_of_ble_eq_true h1, Nat.le_of_ble_eq_true h2, Nat.le_of_ble_eq_true h3, fun u hu => ?_⟩
  have h5 := eq_of_beq (range_all h4 hu)
  constructor
  · intro e
    rw [e, Nat.beq_refl] at h5
    have h6 := h5.symm
    simp only [Bool.and_eq_true] at h6
    exact ⟨Nat.le_of_ble_eq_true h6.1, blt_lt h6.2⟩
  · rintro ⟨g1, g2⟩
    rw [Nat.ble_eq_true_of_le g1, show Nat.blt u (aS (t + 1)) = true from Nat.ble_eq_true_of_le g2] at h5
    exact Nat.eq_of_beq_eq_true h5
theorem bsz_aS (x : Int) : (bsz aS x = 0 ∧ ∀ u, u < 61 → (dgA u : Int) ≠ x) ∨ ∃ t : Nat, t ≤ 14 ∧ x = (t : Int) ∧ bst aS x = aS t ∧ bsz aS x = ((aS (t + 1) - aS t : Nat) : Int) := by
  by_cases h : 0 ≤ x ∧ x ≤ 14
  · obtain ⟨t, rfl⟩ := Int.eq_ofNat_of_zero_le h.1
    have ht : t ≤ 14 := by omega
    refine Or.inr ⟨t, ht, rfl, bst_aS (by omega), ?_⟩
    unfold bsz
    rw [if_pos h, Int.toNat_natCast]
    have := (dg_range ht).1
    omega
  · refine Or.inl ⟨?_, fun u hu e => ?_⟩
    · unfold bsz
      rw [if_neg h]
    · have := dgA_le hu
      omega
/-- the chains of a degree lie together -/
theorem dg_iff {u : Nat} (hu : u < 61) (x : Int) : (dgA u : Int) = x ↔ bst aS x ≤ u ∧ u < bst aS x + (bsz aS x).toNat := by
  rcases bsz_aS x with ⟨h1, h2⟩ | ⟨t, ht, rfl, h1, h2⟩
  · rw [h1]
    constructor
    · intro e
      exact absurd e (h2 u hu)
    · intro g
      omega
  · rw [h1, h2, Int.toNat_natCast]
    obtain ⟨a1, a2, a3, a4⟩ := dg_range ht
    have := a4 u hu
    constructor
    · intro e
      have := this.mp (by omega)
      omega
    · intro g
      have := this.mpr (by omega)
      omega
theorem aS_fit (x : Int) : bst aS x + (bsz aS x).toNat ≤ 61 ∧ 0 ≤ bsz aS x ∧ bsz aS x ≤ 9 := by
  rcases bsz_aS x with ⟨h1, -⟩ | ⟨t, ht, rfl, h1, h2⟩
  · rw [h1]
    refine ⟨?_, by decide, by decide⟩
    unfold bst
    have : ∀ k, k < 16 → aS k ≤ 61 := by decide +kernel
    have := this (min x.toNat 15) (by omega)
    simpa using this
  · obtain ⟨a1, a2, a3, -⟩ := dg_range ht
    rw [h1, h2, Int.toNat_natCast]
    omega
