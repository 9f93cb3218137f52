/-! Tower: restart, generatorsAt, turnByTurn, applyChain -/
def zsTw (sh : Nat → Option zS) (p b sq sp fl kn va so pi ca ta ke : Nat) (P : Nat → Nat) : Prop :=
  sh p = some (.inl (7, [some (some b), some (some sq), some (some sp), some (some fl), some (some kn), some (some va), some (some so), some (some pi), some (some ca), some (some ta), some (some ke), none])) ∧
  ∃ (cA : ClassId) (E : String) (f : Nat → Option Nat), sh fl = some (.inr (.inr (.inr (cA, E, 6, f)))) ∧ ∀ s, s < 6 → f s = some (P s)
theorem c_X7_restart (l : Launch) (D : va_G) (sh : Nat → Option zS) {p b sq sp fl kn va so pi ca ta ke : Nat} {P : Nat → Nat} (hs : zsTw sh p b sq sp fl kn va so pi ca ta ke P) (F I : zFi) (J : zJi) :
    Cn l D yX7_restart wsX7_restart mX7_restart.2.2.2.2 sh [.inr (.inr (some p))] F I J (fun v F' I' J' => v = none ∧ F' = zu F p 11 0 ∧ I' = I ∧ J' = J) := by
  refine zmet (M := mX7_restart) rfl rfl rfl kX7_restart (Nat.le_of_ble_eq_true rfl) (fun X hX hR hl hD hsh => ?_)
  subst hl hD hsh
  refine zgo (fun _ => false) 200 hX hR rfl ?_
  refine Exists.intro _ ⟨hs.1, ?_⟩
  exact And.intro rfl ⟨rfl, rfl, rfl⟩
theorem c_X7_generatorsAt (l : Launch) (D : va_G) (sh : Nat → Option zS) {p b sq sp fl kn va so pi ca ta ke : Nat} {P : Nat → Nat} (hs : zsTw sh p b sq sp fl kn va so pi ca ta ke P) (F I : zFi) (J : zJi) {s dg go g : Nat} {d : Nat → Nat} (hs6 : s < 6) (hf : zsFl sh (P s) b dg go) (hr : flR F I (P s) dg g d) {t : Int} (ht : zi32 t) :
    Cn l D yX7_generatorsAt wsX7_generatorsAt mX7_generatorsAt.2.2.2.2 sh [.inr (.inr (some p)), .inl (s : Int), .inl t] F I J (zself F I J (.inl (flG d t g : Int))) := by
  obtain ⟨hp, cA, E, f, hfl, hfs⟩ := hs
  refine zmet (M := mX7_generatorsAt) rfl rfl rfl kX7_generatorsAt (Nat.le_of_ble_eq_true rfl) (fun X hX hR hl hD hsh => ?_)
  subst hl hD hsh
  refine zgo (fun _ => false) 200 hX hR rfl ?_
  refine And.intro (fun c1 => by omega) (fun c1 => ?_)
  refine And.intro (fun c2 => by omega) (fun c2 => ?_)
  refine Exists.intro _ ⟨hp, ?_⟩
  refine Exists.intro _ ⟨_, _, _, s, hfl, rfl, hs6, ?_⟩
  rw [hfs s hs6]
  refine qX7_generatorsAt_65 hX (c_X3_generatorsOf (xl X) (xD X) (xsh X) hf F I J hr ht) hf.1 (fun v F' I' J' hv => ?_)
  obtain ⟨rfl, rfl, rfl, rfl⟩ := hv
  exact And.intro rfl ⟨rfl, rfl, rfl⟩
/-- what a chain makes of a sum of elements -/
def tch (A : Nat → Nat → Nat) (n : Nat) (N : Nat → Nat) (c : Int) (x : Nat) : Nat := sap A n (rbn N c 0) (sap A n (rbn N c 1) (sap A n (rbn N c 2) x))
theorem c_X7_applyChain (l : Launch) (D : va_G) (sh : Nat → Option zS) {p b sq sp fl kn va so pi ca ta ke nu st dg ac fa : Nat} {P : Nat → Nat} (hs : zsTw sh p b sq sp fl kn va so pi ca ta ke P) (hb : zsBas sh b nu st) (hsp : zsSp sh sp dg ac fa) (F I : zFi) (J : zJi) {N S : Nat → Nat} (hT : bT I nu st N S) {n : Nat} (hn : F sp 3 = (n : Int)) (hn2 : n ≤ 12) {A : Nat → Nat → Nat} (hA : spA I ac A) {c : Int} (hc : zi32 c) {x : Nat} (hx : x < 4096) :
    Cn l D yX7_applyChain wsX7_applyChain mX7_applyChain.2.2.2.2 sh [.inr (.inr (some p)), .inl c, .inl (x : Int)] F I J (zself F I J (.inl (tch A n N c x : Int))) := by
  have hN : ∀ j, bnm N c j = (rbn N c j : Int) ∧ rbn N c j < 64 := fun j => by
    have := bnm_i hT c j
    unfold rbn
    omega
  refine zmet (M := mX7_applyChain) rfl rfl rfl kX7_applyChain (Nat.le_of_ble_eq_true rfl) (fun X hX hR hl hD hsh => ?_)
  subst hl hD hsh
  have step : ∀ (j : Int) (y : Nat), 0 ≤ j → j ≤ 2 → y < 4096 → HW X 5 [some (.inr (.inr (some p))), some (.inl c), some (.inl (x : Int)), some (.inl (sap A n (rbn N c j) y : Int)), some (.inl (j + -1))] [] F I J →
      HW X 5 [some (.inr (.inr (some p))), some (.inl c), some (.inl (x : Int)), some (.inl (y : Int)), some (.inl j)] [] F I J := by
    intro j y hj1 hj2 hy h2
    refine zgo (fun pc => Nat.beq pc 5) 200 hX hR rfl ?_
    refine And.intro (fun c1 => by omega) (fun c1 => ?_)
    refine Exists.intro _ ⟨hs.1, ?_⟩
    refine Exists.intro _ ⟨hs.1, ?_⟩
    refine qX7_applyChain_171 hX (c_X0_numberAt (xl X) (xD X) (xsh X) hb F I J hT (t := c) (j := j) hc ⟨by omega, by omega⟩) hb.1 (fun v F' I' J' hv => ?_)
    obtain ⟨rfl, rfl, rfl, rfl⟩ := hv
    have cA := c_X5_apply (xl X) (xD X) (xsh X) hsp F' I' J' hn hn2 hA (i := rbn N c j) (x := y) (hN j).2 hy
    rw [← (hN j).1] at cA
    refine qX7_applyChain_174 hX cA hsp.1 (fun v F' I' J' hv => ?_)
    obtain ⟨rfl, rfl, rfl, rfl⟩ := hv
    exact h2
  have l2 := sap_lt hA (i := rbn N c 2) hn2 hx
  have l1 := sap_lt hA (i := rbn N c 1) hn2 l2
  have last : HW X 5 [some (.inr (.inr (some p))), some (.inl c), some (.inl (x : Int)), some (.inl (tch A n N c x : Int)), some (.inl (-1))] [] F I J := by
    refine zgo (fun pc => Nat.beq pc 5) 200 hX hR rfl ?_
    refine And.intro (fun c1 => ?_) (fun c1 => absurd (by decide) c1)
    exact And.intro rfl ⟨rfl, rfl, rfl⟩
  have s0 := step 0 _ (by decide) (by decide) l1 last
  have s1 := step 1 _ (by decide) (by decide) l2 s0
  have s2 := step 2 _ (by decide) (by decide) hx s1
  refine zgo (fun pc => Nat.beq pc 5) 200 hX hR rfl ?_
  exact s2
