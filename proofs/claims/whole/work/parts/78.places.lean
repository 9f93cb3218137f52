/-! Tower: listPlaces -/
def lpk (I : zFi) (ca ta start place target : Nat) : Nat → zFi
  | 0 => I
  | k + 1 => zu (zu (lpk I ca ta start place target k) ca (place + k) ((start + k : Nat) : Int)) ta (place + k) (target : Int)
def lph (I : zFi) (ca ta : Nat) (S d : Nat → Nat) (deg t : Int) : Nat → zFi
  | 0 => I
  | h + 1 => lpk (lph I ca ta S d deg t h) ca ta (bst S (deg - d h)) (flP S d deg h) (flP S d t h) (bsz S (deg - d h)).toNat
theorem lpk_r {I : zFi} {ca ta start place target q : Nat} (h1 : q ≠ ca) (h2 : q ≠ ta) : ∀ k, lpk I ca ta start place target k q = I q := by
  intro k
  induction k with
  | zero => rfl
  | succ k ih =>
    rw [show lpk I ca ta start place target (k + 1) = zu (zu (lpk I ca ta start place target k) ca (place + k) ((start + k : Nat) : Int)) ta (place + k) (target : Int) from rfl, zu_r h2, zu_r h1, ih]
theorem lph_r {I : zFi} {ca ta q : Nat} {S d : Nat → Nat} {deg t : Int} (h1 : q ≠ ca) (h2 : q ≠ ta) : ∀ h, lph I ca ta S d deg t h q = I q := by
  intro h
  induction h with
  | zero => rfl
  | succ h ih =>
    rw [show lph I ca ta S d deg t (h + 1) = lpk (lph I ca ta S d deg t h) ca ta (bst S (deg - d h)) (flP S d deg h) (flP S d t h) (bsz S (deg - d h)).toNat from rfl, lpk_r h1 h2, ih]
theorem bT_of {I I' : zFi} {nu st : Nat} {N S : Nat → Nat} (h : bT I nu st N S) (e1 : I' nu = I nu) (e2 : I' st = I st) : bT I' nu st N S := ⟨fun j hj => by rw [e1]; exact h.1 j hj, fun j hj => by rw [e2]; exact h.2.1 j hj, h.2.2⟩
theorem flR_of {F I I' : zFi} {p dg g : Nat} {d : Nat → Nat} (h : flR F I p dg g d) (e : I' dg = I dg) : flR F I' p dg g d := ⟨h.1, h.2.1, fun j hj => by rw [e]; exact h.2.2 j hj⟩
theorem flP_mono (S d : Nat → Nat) (t : Int) : ∀ a b, a ≤ b → flP S d t a ≤ flP S d t b := by
  intro a b h
  induction b with
  | zero => rw [show a = 0 by omega]; exact Nat.le_refl _
  | succ b ih =>
    rcases Nat.lt_or_ge b a with h1 | h1
    · rw [show a = b + 1 by omega]; exact Nat.le_refl _
    · exact Nat.le_trans (ih h1) (Nat.le_add_right _ _)
theorem c_X7_listPlaces (l : Launch) (D : va_G) (sh : Nat → Option zS) {p b sq sp fl kn va so pi ca ta ke nu st lo dg go : Nat} {P : Nat → Nat} (hs : zsTw sh p b sq sp fl kn va so pi ca ta ke P) (hb : zsBas sh b nu st) (hlo : zsFl sh lo b dg go) (hca : ∃ cA, sh ca = some (.inr (.inl (cA, 320)))) (hta : ∃ cA, sh ta = some (.inr (.inl (cA, 320)))) (hne : (dg ≠ ca ∧ dg ≠ ta) ∧ (nu ≠ ca ∧ nu ≠ ta) ∧ st ≠ ca ∧ st ≠ ta)
    (F I : zFi) (J : zJi) {N S : Nat → Nat} (hT : bT I nu st N S) (h30 : ∀ n, 0 ≤ bsz S n ∧ bsz S n ≤ 30) {g : Nat} {d : Nat → Nat} (hf : flR F I lo dg g d) {deg t : Int} (hdeg : 0 ≤ deg ∧ deg ≤ 100) (ht : 0 ≤ t ∧ t ≤ 100) (hfit : flP S d deg g ≤ 320) :
    Cn l D yX7_listPlaces wsX7_listPlaces mX7_listPlaces.2.2.2.2 sh [.inr (.inr (some p)), .inr (.inr (some lo)), .inl deg, .inl t] F I J (fun v F' I' J' => v = none ∧ F' = F ∧ I' = lph I ca ta S d deg t g ∧ J' = J) := by
  obtain ⟨hg1, hg2, hg3⟩ := id hf
  obtain ⟨cA1, hc1⟩ := hca
  obtain ⟨cA2, hc2⟩ := hta
  refine zmet (M := mX7_listPlaces) rfl rfl rfl kX7_listPlaces (Nat.le_of_ble_eq_true rfl) (fun X hX hR hl hD hsh => ?_)
  subst hl hD hsh
  have loop : ∀ r h : Nat, h + r = g → ∀ l7 l8 l9, HW X 9 [some (.inr (.inr (some p))), some (.inr (.inr (some lo))), some (.inl deg), some (.inl t), some (.inl (flP S d deg h : Int)), some (.inl (flP S d t h : Int)), some (.inl (h : Int)), l7, l8, l9] [] F (lph I ca ta S d deg t h) J := by
    intro r
    induction r with
    | zero =>
      intro h hh l7 l8 l9
      refine zgo (fun pc => Nat.beq pc 9) 200 hX hR rfl ?_
      refine qX7_listPlaces_72 hX (c_X3_generators (xl X) (xD X) (xsh X) hlo F (lph I ca ta S d deg t h) J) hlo.1 (fun v F' I' J' hv => ?_)
      obtain ⟨rfl, rfl, hi, rfl⟩ := hv
      refine And.intro (fun c1 => ?_) (fun c1 => by omega)
      exact And.intro rfl ⟨rfl, by rw [hi, show h = g by omega], rfl⟩
    | succ r ih =>
      intro h hh l7 l8 l9
      have hT1 : bT (lph I ca ta S d deg t h) nu st N S := bT_of hT (lph_r hne.2.1.1 hne.2.1.2 h) (lph_r hne.2.2.1 hne.2.2.2 h)
      have hf1 : flR F (lph I ca ta S d deg t h) lo dg g d := flR_of hf (lph_r hne.1.1 hne.1.2 h)
      have hd14 := (hg3 h (by omega)).2
      have hwb := h30 (deg - d h)
      have hwt := h30 (t - d h)
      have hnext := ih (h + 1) (by omega)
      have hPm := flP_mono S d deg (h + 1) g (by omega)
      have eP : flP S d deg (h + 1) = flP S d deg h + (bsz S (deg - d h)).toNat := rfl
      have eT : flP S d t (h + 1) = flP S d t h + (bsz S (t - d h)).toNat := rfl
      have hst := bst_i hT (deg - d h)
      have hTl := flP_le (S := S) (d := d) (t := t) h30 h
      rw [show lph I ca ta S d deg t (h + 1) = lpk (lph I ca ta S d deg t h) ca ta (bst S (deg - d h)) (flP S d deg h) (flP S d t h) (bsz S (deg - d h)).toNat from rfl] at hnext
      have inner : ∀ m k : Nat, k + m = (bsz S (deg - d h)).toNat → HW X 47 [some (.inr (.inr (some p))), some (.inr (.inr (some lo))), some (.inl deg), some (.inl t), some (.inl ((flP S d deg h + k : Nat) : Int)), some (.inl (flP S d t h : Int)), some (.inl (h : Int)), some (.inl (bst S (deg - d h) : Int)), some (.inl (bsz S (deg - d h))), some (.inl (k : Int))] [] F (lpk (lph I ca ta S d deg t h) ca ta (bst S (deg - d h)) (flP S d deg h) (flP S d t h) k) J := by
        intro m
        induction m with
        | zero =>
          intro k hk
          have ek : k = (bsz S (deg - d h)).toNat := by omega
          subst ek
          have h5 := hnext (some (.inl (bst S (deg - d h) : Int))) (some (.inl (bsz S (deg - d h)))) (some (.inl (((bsz S (deg - d h)).toNat : Nat) : Int)))
          rw [eP, show ((flP S d t (h + 1) : Nat) : Int) = (flP S d t h : Int) + bsz S (t - d h) by omega] at h5
          have out : HW X 104 [some (.inr (.inr (some p))), some (.inr (.inr (some lo))), some (.inl deg), some (.inl t), some (.inl ((flP S d deg h + (bsz S (deg - d h)).toNat : Nat) : Int)), some (.inl (flP S d t h : Int)), some (.inl (h : Int)), some (.inl (bst S (deg - d h) : Int)), some (.inl (bsz S (deg - d h))), some (.inl (((bsz S (deg - d h)).toNat : Nat) : Int))] [] F (lpk (lph I ca ta S d deg t h) ca ta (bst S (deg - d h)) (flP S d deg h) (flP S d t h) (bsz S (deg - d h)).toNat) J := by
            have hf2 := flR_of hf1 (lpk_r (start := bst S (deg - d h)) (place := flP S d deg h) (target := flP S d t h) hne.1.1 hne.1.2 (bsz S (deg - d h)).toNat)
            have hT2 := bT_of hT1 (lpk_r (start := bst S (deg - d h)) (place := flP S d deg h) (target := flP S d t h) hne.2.1.1 hne.2.1.2 (bsz S (deg - d h)).toNat) (lpk_r hne.2.2.1 hne.2.2.2 (bsz S (deg - d h)).toNat)
            generalize lpk (lph I ca ta S d deg t h) ca ta (bst S (deg - d h)) (flP S d deg h) (flP S d t h) (bsz S (deg - d h)).toNat = I2 at h5 hf2 hT2 ⊢
            refine zgo (fun pc => Nat.beq pc 9) 200 hX hR rfl ?_
            refine qX7_listPlaces_93 hX (c_X3_width (xl X) (xD X) (xsh X) hlo hb F I2 J hT2 hf2 (j := h) (by omega) ht) hlo.1 (fun v F' I' J' hv => ?_)
            obtain ⟨rfl, rfl, rfl, rfl⟩ := hv
            exact h5
          refine zgo (fun pc => Nat.beq pc 47 || Nat.beq pc 104) 200 hX hR rfl ?_
          refine And.intro (fun c1 => out) (fun c1 => by omega)
        | succ m ih2 =>
          intro k hk
          have h6 := ih2 (k + 1) (by omega)
          rw [show lpk (lph I ca ta S d deg t h) ca ta (bst S (deg - d h)) (flP S d deg h) (flP S d t h) (k + 1) = zu (zu (lpk (lph I ca ta S d deg t h) ca ta (bst S (deg - d h)) (flP S d deg h) (flP S d t h) k) ca (flP S d deg h + k) ((bst S (deg - d h) + k : Nat) : Int)) ta (flP S d deg h + k) (flP S d t h : Int) from rfl] at h6
          refine zgo (fun pc => Nat.beq pc 47 || Nat.beq pc 104) 200 hX hR rfl ?_
          refine And.intro (fun c1 => by omega) (fun c1 => ?_)
          refine Exists.intro _ ⟨hs.1, ?_⟩
          refine Exists.intro _ ⟨hc1, ?_⟩
          refine And.intro (fun c2 => by omega) (fun c2 => ?_)
          refine Exists.intro _ ⟨hs.1, ?_⟩
          refine Exists.intro _ ⟨hc2, ?_⟩
          refine And.intro (fun c3 => by omega) (fun c3 => ?_)
          refine Exists.intro _ ⟨hs.1, ?_⟩
          refine Exists.intro _ ⟨_, flP S d deg h + k, hc1, rfl, by omega, ?_⟩
          refine Exists.intro _ ⟨hs.1, ?_⟩
          refine Exists.intro _ ⟨_, flP S d deg h + k, hc2, rfl, by omega, ?_⟩
          exact h6
      have h7 := inner (bsz S (deg - d h)).toNat 0 (by omega)
      refine zgo (fun pc => Nat.beq pc 9 || Nat.beq pc 47) 200 hX hR rfl ?_
      refine qX7_listPlaces_72 hX (c_X3_generators (xl X) (xD X) (xsh X) hlo F (lph I ca ta S d deg t h) J) hlo.1 (fun v F' I' J' hv => ?_)
      obtain ⟨rfl, rfl, rfl, rfl⟩ := hv
      refine And.intro (fun c1 => by omega) (fun c1 => ?_)
      refine Exists.intro _ ⟨hs.1, ?_⟩
      refine qX7_listPlaces_76 hX (c_X3_degreeOf (xl X) (xD X) (xsh X) hlo F' (lph I ca ta S d deg t h) J' hf1 (j := h) (by omega)) hlo.1 (fun v F' I' J' hv => ?_)
      obtain ⟨rfl, rfl, rfl, rfl⟩ := hv
      refine qX7_listPlaces_141 hX (c_X0_start (xl X) (xD X) (xsh X) hb F' (lph I ca ta S d deg t h) J' hT1 (d := deg - d h) ⟨by omega, by omega⟩) hb.1 (fun v F' I' J' hv => ?_)
      obtain ⟨rfl, rfl, rfl, rfl⟩ := hv
      refine qX7_listPlaces_93 hX (c_X3_width (xl X) (xD X) (xsh X) hlo hb F' (lph I ca ta S d deg t h) J' hT1 hf1 (j := h) (by omega) hdeg) hlo.1 (fun v F' I' J' hv => ?_)
      obtain ⟨rfl, rfl, rfl, rfl⟩ := hv
      exact h7
  refine zgo (fun pc => Nat.beq pc 9) 200 hX hR rfl ?_
  exact loop g 0 (by omega) none none none
