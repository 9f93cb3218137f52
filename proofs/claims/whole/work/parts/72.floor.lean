/-! Floor: generators, goals, degreeOf, width, places, generatorsOf -/
def zsFl (sh : Nat → Option zS) (p b dg go : Nat) : Prop := sh p = some (.inl (3, [some (some b), some (some dg), some (some go), none])) ∧ ∃ cA, sh dg = some (.inr (.inl (cA, 72)))
/-- a floor's memory: how many, of which degrees -/
def flR (F I : zFi) (p dg g : Nat) (d : Nat → Nat) : Prop := F p 3 = (g : Int) ∧ g ≤ 72 ∧ ∀ j, j < 72 → I dg j = (d j : Int) ∧ d j ≤ 14
theorem c_X3_generators (l : Launch) (D : va_G) (sh : Nat → Option zS) {p b dg go : Nat} (hs : zsFl sh p b dg go) (F I : zFi) (J : zJi) :
    Cn l D yX3_generators wsX3_generators mX3_generators.2.2.2.2 sh [.inr (.inr (some p))] F I J (zself F I J (.inl (F p 3))) := by
  refine zmet (M := mX3_generators) rfl rfl rfl kX3_generators (Nat.le_of_ble_eq_true rfl) (fun X hX hR hl hD hsh => ?_)
  subst hl hD hsh
  refine zgo (fun _ => false) 200 hX hR rfl ?_
  refine Exists.intro _ ⟨hs.1, ?_⟩
  exact And.intro rfl ⟨rfl, rfl, rfl⟩
theorem c_X3_degreeOf (l : Launch) (D : va_G) (sh : Nat → Option zS) {p b dg go : Nat} (hs : zsFl sh p b dg go) (F I : zFi) (J : zJi) {g : Nat} {d : Nat → Nat} (hf : flR F I p dg g d) {j : Nat} (hj : j < 72) :
    Cn l D yX3_degreeOf wsX3_degreeOf mX3_degreeOf.2.2.2.2 sh [.inr (.inr (some p)), .inl (j : Int)] F I J (zself F I J (.inl (d j : Int))) := by
  obtain ⟨cA, hc⟩ := hs.2
  refine zmet (M := mX3_degreeOf) rfl rfl rfl kX3_degreeOf (Nat.le_of_ble_eq_true rfl) (fun X hX hR hl hD hsh => ?_)
  subst hl hD hsh
  refine zgo (fun _ => false) 200 hX hR rfl ?_
  refine And.intro (fun c1 => by omega) (fun c1 => ?_)
  refine And.intro (fun c2 => by omega) (fun c2 => ?_)
  refine Exists.intro _ ⟨hs.1, ?_⟩
  refine Exists.intro _ ⟨_, j, hc, rfl, hj, ?_⟩
  exact And.intro (by rw [(hf.2.2 j hj).1]) ⟨rfl, rfl, rfl⟩
theorem c_X3_width (l : Launch) (D : va_G) (sh : Nat → Option zS) {p b dg go nu st : Nat} (hs : zsFl sh p b dg go) (hb : zsBas sh b nu st) (F I : zFi) (J : zJi) {N S : Nat → Nat} (hT : bT I nu st N S) {g : Nat} {d : Nat → Nat} (hf : flR F I p dg g d) {j : Nat} (hj : j < 72) {t : Int} (ht : 0 ≤ t ∧ t ≤ 100) :
    Cn l D yX3_width wsX3_width mX3_width.2.2.2.2 sh [.inr (.inr (some p)), .inl (j : Int), .inl t] F I J (zself F I J (.inl (bsz S (t - d j)))) := by
  have hdj := (hf.2.2 j hj).2
  refine zmet (M := mX3_width) rfl rfl rfl kX3_width (Nat.le_of_ble_eq_true rfl) (fun X hX hR hl hD hsh => ?_)
  subst hl hD hsh
  refine zgo (fun _ => false) 200 hX hR rfl ?_
  refine Exists.intro _ ⟨hs.1, ?_⟩
  refine qX3_width_39 hX (c_X3_degreeOf (xl X) (xD X) (xsh X) hs F I J hf hj) hs.1 (fun v F' I' J' hv => ?_)
  obtain ⟨rfl, rfl, rfl, rfl⟩ := hv
  refine qX3_width_43 hX (c_X0_size (xl X) (xD X) (xsh X) hb F' I' J' hT (d := t - d j) ⟨by omega, by omega⟩) hb.1 (fun v F' I' J' hv => ?_)
  obtain ⟨rfl, rfl, rfl, rfl⟩ := hv
  exact And.intro rfl ⟨rfl, rfl, rfl⟩
/-- how many places in a degree -/
def flP (S d : Nat → Nat) (t : Int) (g : Nat) : Nat := ns g (fun j => (bsz S (t - d j)).toNat)
theorem c_X3_places (l : Launch) (D : va_G) (sh : Nat → Option zS) {p b dg go nu st : Nat} (hs : zsFl sh p b dg go) (hb : zsBas sh b nu st) (F I : zFi) (J : zJi) {N S : Nat → Nat} (hT : bT I nu st N S) (h30 : ∀ n, 0 ≤ bsz S n ∧ bsz S n ≤ 30) {g : Nat} {d : Nat → Nat} (hf : flR F I p dg g d) {t : Int} (ht : 0 ≤ t ∧ t ≤ 100) :
    Cn l D yX3_places wsX3_places mX3_places.2.2.2.2 sh [.inr (.inr (some p)), .inl t] F I J (zself F I J (.inl (flP S d t g : Int))) := by
  obtain ⟨hg1, hg2, hg3⟩ := id hf
  refine zmet (M := mX3_places) rfl rfl rfl kX3_places (Nat.le_of_ble_eq_true rfl) (fun X hX hR hl hD hsh => ?_)
  subst hl hD hsh
  have loop : ∀ k j : Nat, j + k = g → HW X 4 [some (.inr (.inr (some p))), some (.inl t), some (.inl (flP S d t j : Int)), some (.inl (j : Int))] [] F I J := by
    intro k
    induction k with
    | zero =>
      intro j hk
      refine zgo (fun pc => Nat.beq pc 4) 200 hX hR rfl ?_
      refine Exists.intro _ ⟨hs.1, ?_⟩
      refine And.intro (fun c1 => ?_) (fun c1 => by omega)
      exact And.intro (by rw [show j = g by omega]) ⟨rfl, rfl, rfl⟩
    | succ k ih =>
      intro j hk
      have h2 := ih (j + 1) (by omega)
      have h3 := h30 (t - d j)
      rw [show flP S d t (j + 1) = flP S d t j + (bsz S (t - d j)).toNat from rfl, show ((flP S d t j + (bsz S (t - d j)).toNat : Nat) : Int) = (flP S d t j : Int) + bsz S (t - d j) by omega] at h2
      refine zgo (fun pc => Nat.beq pc 4) 200 hX hR rfl ?_
      refine Exists.intro _ ⟨hs.1, ?_⟩
      refine And.intro (fun c1 => by omega) (fun c1 => ?_)
      refine qX3_places_48 hX (c_X3_width (xl X) (xD X) (xsh X) hs hb F I J hT hf (j := j) (by omega) ht) hs.1 (fun v F' I' J' hv => ?_)
      obtain ⟨rfl, rfl, rfl, rfl⟩ := hv
      exact h2
  refine zgo (fun pc => Nat.beq pc 4) 200 hX hR rfl ?_
  exact loop g 0 (by omega)
def flG (d : Nat → Nat) (t : Int) (g : Nat) : Nat := ns g (fun j => if (d j : Int) = t then 1 else 0)
theorem c_X3_generatorsOf (l : Launch) (D : va_G) (sh : Nat → Option zS) {p b dg go : Nat} (hs : zsFl sh p b dg go) (F I : zFi) (J : zJi) {g : Nat} {d : Nat → Nat} (hf : flR F I p dg g d) {t : Int} (ht : zi32 t) :
    Cn l D yX3_generatorsOf wsX3_generatorsOf mX3_generatorsOf.2.2.2.2 sh [.inr (.inr (some p)), .inl t] F I J (zself F I J (.inl (flG d t g : Int))) := by
  unfold zi32 at ht
  obtain ⟨hg1, hg2, hg3⟩ := id hf
  refine zmet (M := mX3_generatorsOf) rfl rfl rfl kX3_generatorsOf (Nat.le_of_ble_eq_true rfl) (fun X hX hR hl hD hsh => ?_)
  subst hl hD hsh
  have loop : ∀ k j : Nat, j + k = g → HW X 4 [some (.inr (.inr (some p))), some (.inl t), some (.inl (flG d t j : Int)), some (.inl (j : Int))] [] F I J := by
    intro k
    induction k with
    | zero =>
      intro j hk
      refine zgo (fun pc => Nat.beq pc 4) 200 hX hR rfl ?_
      refine Exists.intro _ ⟨hs.1, ?_⟩
      refine And.intro (fun c1 => ?_) (fun c1 => by omega)
      exact And.intro (by rw [show j = g by omega]) ⟨rfl, rfl, rfl⟩
    | succ k ih =>
      intro j hk
      have h2 := ih (j + 1) (by omega)
      have h3 := (hg3 j (by omega)).2
      rw [show flG d t (j + 1) = flG d t j + (if (d j : Int) = t then 1 else 0) from rfl] at h2
      refine zgo (fun pc => Nat.beq pc 4) 200 hX hR rfl ?_
      refine Exists.intro _ ⟨hs.1, ?_⟩
      refine And.intro (fun c1 => by omega) (fun c1 => ?_)
      refine qX3_generatorsOf_39 hX (c_X3_degreeOf (xl X) (xD X) (xsh X) hs F I J hf (j := j) (by omega)) hs.1 (fun v F' I' J' hv => ?_)
      obtain ⟨rfl, rfl, rfl, rfl⟩ := hv
      refine And.intro (fun c2 => ?_) (fun c2 => ?_)
      · rw [if_neg (by omega)] at h2
        exact h2
      · rw [if_pos (by omega)] at h2
        exact h2
  refine zgo (fun pc => Nat.beq pc 4) 200 hX hR rfl ?_
  exact loop g 0 (by omega)
