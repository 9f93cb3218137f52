/-! Floor: goals, restart, add -/
theorem c_X3_goals (l : Launch) (D : va_G) (sh : Nat → Option zS) {p b dg go : Nat} (hs : zsFl sh p b dg go) (F I : zFi) (J : zJi) :
    Cn l D yX3_goals wsX3_goals mX3_goals.2.2.2.2 sh [.inr (.inr (some p))] F I J (zself F I J (.inr (.inr (some go)))) := by
  refine zmet (M := mX3_goals) rfl rfl rfl kX3_goals (Nat.le_of_ble_eq_true rfl) (fun X hX hR hl hD hsh => ?_)
  subst hl hD hsh
  refine zgo (fun _ => false) 200 hX hR rfl ?_
  refine Exists.intro _ ⟨hs.1, ?_⟩
  exact And.intro rfl ⟨rfl, rfl, rfl⟩
theorem c_X3_restart (l : Launch) (D : va_G) (sh : Nat → Option zS) {p b dg go c m : Nat} (hs : zsFl sh p b dg go) (hg : zsBits sh go c m) (F I : zFi) (J : zJi) :
    Cn l D yX3_restart wsX3_restart mX3_restart.2.2.2.2 sh [.inr (.inr (some p))] F I J (fun v F' I' J' => v = none ∧ F' = zu (zu (zu F p 3 0) go 1 5) go 2 0 ∧ I' = I ∧ J' = J) := by
  refine zmet (M := mX3_restart) rfl rfl rfl kX3_restart (Nat.le_of_ble_eq_true rfl) (fun X hX hR hl hD hsh => ?_)
  subst hl hD hsh
  refine zgo (fun _ => false) 200 hX hR rfl ?_
  refine Exists.intro _ ⟨hs.1, ?_⟩
  refine Exists.intro _ ⟨hs.1, ?_⟩
  refine qX3_restart_32 hX (c_X1_restart (xl X) (xD X) (xsh X) hg (zu F p 3 0) I J (p := 300) (by decide)) hg.1 (fun v F' I' J' hv => ?_)
  obtain ⟨rfl, rfl, rfl, rfl⟩ := hv
  exact And.intro rfl ⟨rfl, rfl, rfl⟩
theorem c_X3_add (l : Launch) (D : va_G) (sh : Nat → Option zS) {p b dg go c m k2 c2 m2 : Nat} (hs : zsFl sh p b dg go) (hgo : zsBits sh go c m) (hs2 : zsBits sh k2 c2 m2) (hk2 : k2 ≠ go) (hc2 : c2 ≠ c) (F I : zFi) (J : zJi) {g : Nat} (hg1 : F p 3 = (g : Int)) (hg2 : g < 72) {W W2 C2 : Nat} (hb : bR F J go c m W g) (hb2 : bR F J k2 c2 m2 W2 C2) (hroom : (g + 1) * W ≤ m) {row : Int} (h1 : zi32 row) {d : Int} :
    Cn l D yX3_add wsX3_add mX3_add.2.2.2.2 sh [.inr (.inr (some p)), .inl d, .inr (.inr (some k2)), .inl row] F I J (fun v F' I' J' => v = none ∧ F' = zu (zu F go 2 ((g + 1 : Nat) : Int)) p 3 ((g + 1 : Nat) : Int) ∧ I' = zu I dg g d ∧ J' = bcp J c W g c2 W2 C2 row W) := by
  obtain ⟨cA, hc⟩ := hs.2
  have hne : p ≠ go := by
    intro z
    have h2 := hs.1
    rw [z, hgo.1] at h2
    cases h2
  refine zmet (M := mX3_add) rfl rfl rfl kX3_add (Nat.le_of_ble_eq_true rfl) (fun X hX hR hl hD hsh => ?_)
  subst hl hD hsh
  have e3 : zu F go 2 ((g + 1 : Nat) : Int) p 3 = (g : Int) := by rw [zu_n (fun z => hne z.1), hg1]
  refine zgo (fun _ => false) 200 hX hR rfl ?_
  refine Exists.intro _ ⟨hs.1, ?_⟩
  refine And.intro (fun c1 => by omega) (fun c1 => ?_)
  refine Exists.intro _ ⟨hs.1, ?_⟩
  refine qX3_add_35 hX (c_X1_copy (xl X) (xD X) (xsh X) hgo hs2 hk2 hc2 F I J hb hb2 hroom h1) hgo.1 (fun v F' I' J' hv => ?_)
  obtain ⟨rfl, rfl, rfl, rfl⟩ := hv
  refine Exists.intro _ ⟨hs.1, ?_⟩
  refine And.intro (fun c2 => by omega) (fun c2 => ?_)
  refine Exists.intro _ ⟨hs.1, ?_⟩
  refine Exists.intro _ ⟨hs.1, ?_⟩
  refine Exists.intro _ ⟨_, g, hc, e3, by omega, ?_⟩
  refine Exists.intro _ ⟨hs.1, ?_⟩
  refine Exists.intro _ ⟨hs.1, ?_⟩
  exact And.intro rfl ⟨by rw [e3]; rfl, rfl, rfl⟩
