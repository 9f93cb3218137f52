/-! towers of free spaces: lifting, comparison, least ones -/
def InL (dg : Nat → Nat) (In0 : Nat → EE → Prop) (gv : Nat → Nat → Bool) (d : Nat → Nat → Nat) : Nat → Nat → EE → Prop
  | 0 => In0
  | s + 1 => FIn dg (gv s) (d s)
def acL (ca : Nat → Nat → Nat → Bool) (act0 : Nat → EE → EE) : Nat → Nat → EE → EE
  | 0 => act0
  | _ + 1 => fact ca
/-- what floor s goes to -/
def Dm (N : Nat) (ca : Nat → Nat → Nat → Bool) (act0 : Nat → EE → EE) (δ : Nat → Nat → EE) (s : Nat) : EE → EE := fm N (acL ca act0 s) (δ s)
theorem modL {dg : Nat → Nat} {ca : Nat → Nat → Nat → Bool} (hA : IsAlg dg ca) {In0 : Nat → EE → Prop} {act0 : Nat → EE → EE} (hM : IsMod dg ca In0 act0) (gv : Nat → Nat → Bool) (d : Nat → Nat → Nat) (s : Nat) : IsMod dg ca (InL dg In0 gv d s) (acL ca act0 s) := by
  cases s with
  | zero => exact hM
  | succ s => exact free_mod hA _ _
/-- generators, and that twice is nothing: up to floor S, up to degree T -/
def RGen (dg : Nat → Nat) (ca : Nat → Nat → Nat → Bool) (In0 : Nat → EE → Prop) (act0 : Nat → EE → EE) (N S T : Nat) (gv : Nat → Nat → Bool) (d : Nat → Nat → Nat) (δ : Nat → Nat → EE) : Prop :=
  (∀ s, s ≤ S → ∀ g, gv s g = true → g < N ∧ d s g ≤ T ∧ InL dg In0 gv d s (d s g) (δ s g)) ∧ (∀ s, s < S → ∀ g, gv (s + 1) g = true → Dm N ca act0 δ s (δ (s + 1) g) = e0)
/-- what goes to nothing comes from the next floor; onto -/
def RExa (dg : Nat → Nat) (ca : Nat → Nat → Nat → Bool) (In0 : Nat → EE → Prop) (act0 : Nat → EE → EE) (N S T : Nat) (gv : Nat → Nat → Bool) (d : Nat → Nat → Nat) (δ : Nat → Nat → EE) : Prop :=
  (∀ t, t ≤ T → ∀ m, In0 t m → ∃ y, FIn dg (gv 0) (d 0) t y ∧ Dm N ca act0 δ 0 y = m) ∧
  (∀ s, s < S → ∀ t, t ≤ T → ∀ x, FIn dg (gv s) (d s) t x → Dm N ca act0 δ s x = e0 → ∃ y, FIn dg (gv (s + 1)) (d (s + 1)) t y ∧ Dm N ca act0 δ (s + 1) y = x)
def RMin (dg : Nat → Nat) (ca : Nat → Nat → Nat → Bool) (act0 : Nat → EE → EE) (N S T : Nat) (gv : Nat → Nat → Bool) (d : Nat → Nat → Nat) (δ : Nat → Nat → EE) : Prop :=
  ∀ s, s ≤ S → ∀ t, t ≤ T → ∀ x, FIn dg (gv s) (d s) t x → Dm N ca act0 δ s x = e0 → ∀ g, x g 0 = false
/-- a map of towers over the same space: values of generators -/
def CMap (dg : Nat → Nat) (ca : Nat → Nat → Nat → Bool) (act0 : Nat → EE → EE) (N S : Nat) (gv : Nat → Nat → Bool) (d : Nat → Nat → Nat) (δ : Nat → Nat → EE) (gv' : Nat → Nat → Bool) (d' : Nat → Nat → Nat) (δ' : Nat → Nat → EE) (a : Nat → Nat → EE) : Prop :=
  (∀ s, s ≤ S → ∀ g, gv s g = true → FIn dg (gv' s) (d' s) (d s g) (a s g)) ∧ (∀ g, gv 0 g = true → Dm N ca act0 δ' 0 (a 0 g) = δ 0 g) ∧
  (∀ s, s < S → ∀ g, gv (s + 1) g = true → Dm N ca act0 δ' (s + 1) (a (s + 1) g) = fm N (fact ca) (a s) (δ (s + 1) g))
theorem pick {P : Nat → EE → Prop} {gv : Nat → Bool} (h : ∀ g, gv g = true → ∃ y, P g y) : ∃ b : Nat → EE, ∀ g, gv g = true → P g (b g) := by
  refine ⟨fun g => if hg : gv g = true then Classical.choose (h g hg) else e0, fun g hg => ?_⟩
  dsimp only
  rw [dif_pos hg]
  exact Classical.choose_spec (h g hg)
theorem pickS {G : Nat → (Nat → EE) → Prop} {R : Nat → (Nat → EE) → (Nat → EE) → Prop} (S : Nat) (h0 : ∃ b, G 0 b) (hs : ∀ s, s < S → ∀ b, G s b → ∃ b', G (s + 1) b' ∧ R s b b') : ∃ a : Nat → Nat → EE, (∀ s, s ≤ S → G s (a s)) ∧ ∀ s, s < S → R s (a s) (a (s + 1)) := by
  induction S with
  | zero =>
    obtain ⟨b, hb⟩ := h0
    exact ⟨fun _ => b, fun s hs => by rw [show s = 0 by omega]; exact hb, fun s hs => by omega⟩
  | succ S ih =>
    obtain ⟨a, h1, h2⟩ := ih (fun s h => hs s (by omega))
    obtain ⟨b', g1, g2⟩ := hs S (by omega) (a S) (h1 S (Nat.le_refl _))
    refine ⟨fun s => if s = S + 1 then b' else a s, fun s h => ?_, fun s h => ?_⟩
    · dsimp only
      by_cases e : s = S + 1
      · rw [if_pos e, e]; exact g1
      · rw [if_neg e]; exact h1 s (by omega)
    · dsimp only
      rw [if_neg (by omega)]
      by_cases e : s = S
      · subst e
        rw [if_pos rfl]
        exact g2
      · rw [if_neg (by omega)]
        exact h2 s (by omega)
section RES
variable {dg : Nat → Nat} {ca : Nat → Nat → Nat → Bool} {In0 : Nat → EE → Prop} {act0 : Nat → EE → EE} {N S T : Nat} {gv gv' : Nat → Nat → Bool} {d d' : Nat → Nat → Nat} {δ δ' : Nat → Nat → EE}
/-- Dm as a free map, its laws -/
theorem Dm_in (hA : IsAlg dg ca) (hM : IsMod dg ca In0 act0) (hg : RGen dg ca In0 act0 N S T gv d δ) {s t : Nat} (hs : s ≤ S) {x : EE} (hx : FIn dg (gv s) (d s) t x) : InL dg In0 gv d s t (Dm N ca act0 δ s x) :=
  fm_in (modL hA hM gv d s) (fun g h => (hg.1 s hs g h).2.2) hx
theorem Dm_add (N : Nat) (ca : Nat → Nat → Nat → Bool) (act0 : Nat → EE → EE) (δ : Nat → Nat → EE) (s : Nat) (x y : EE) : Dm N ca act0 δ s (ex x y) = ex (Dm N ca act0 δ s x) (Dm N ca act0 δ s y) := fm_add _ _ _ _ _
theorem Dm_0 (N : Nat) (ca : Nat → Nat → Nat → Bool) (act0 : Nat → EE → EE) (δ : Nat → Nat → EE) (s : Nat) : Dm N ca act0 δ s e0 = e0 := fm_0 _ _ _
theorem Dm_gen (hA : IsAlg dg ca) (hM : IsMod dg ca In0 act0) (hg : RGen dg ca In0 act0 N S T gv d δ) {s g : Nat} (hs : s ≤ S) (h : gv s g = true) : Dm N ca act0 δ s (eu g) = δ s g :=
  fm_gen hA (modL hA hM gv d s) (fun g h => (hg.1 s hs g h).2.2) h (hg.1 s hs g h).1
theorem eu_in (hA : IsAlg dg ca) {gv : Nat → Bool} {d : Nat → Nat} {g : Nat} (h : gv g = true) : FIn dg gv d (d g) (eu g) := by
  intro a b hab
  simp only [eu, Bool.and_eq_true, decide_eq_true_eq] at hab
  obtain ⟨rfl, rfl⟩ := hab
  exact ⟨h, by decide, by rw [hA.2.2.2.2.1]; rfl⟩
theorem fm_congr {act : Nat → EE → EE} {gvs : Nat → Bool} {ds : Nat → Nat} {y y' : Nat → EE} {t : Nat} {x : EE} (hx : FIn dg gvs ds t x) (h : ∀ g, gvs g = true → y g = y' g) : fm N act y x = fm N act y' x := by
  funext a b
  unfold fm
  rw [es2_at, es2_at]
  apply xs_congr
  intro g _
  apply xs_congr
  intro u _
  cases hc : x g u
  · rw [Bool.false_and, Bool.false_and]
  · rw [h g (hx g u hc).1]
theorem fm_sum (act : Nat → EE → EE) (hadd : ∀ u x y, act u (ex x y) = ex (act u x) (act u y)) (y y' : Nat → EE) (x : EE) : fm N act (fun g => ex (y g) (y' g)) x = ex (fm N act y x) (fm N act y' x) := by
  funext a b
  unfold fm ex
  rw [es2_at, es2_at, es2_at, ← xs_xor]
  apply xs_congr
  intro g _
  rw [← xs_xor]
  apply xs_congr
  intro u _
  have := congrFun (congrFun (hadd u (y g) (y' g)) a) b
  show (x g u && act u (ex (y g) (y' g)) a b) = _
  rw [this]
  show (x g u && (act u (y g) a b ^^ act u (y' g) a b)) = _
  cases x g u <;> cases act u (y g) a b <;> cases act u (y' g) a b <;> rfl
/-- the free map of the generators themselves -/
theorem fm_id (hA : IsAlg dg ca) {gvs : Nat → Bool} {ds : Nat → Nat} {t : Nat} {x : EE} (hN : ∀ g, gvs g = true → g < N) (hx : FIn dg gvs ds t x) : fm N (fact ca) eu x = x := by
  funext a b
  unfold fm
  rw [es2_at]
  have e : ∀ g u, u < 61 → b < 61 → fact ca u (eu g) a b = (decide (a = g) && decide (u = b)) := by
    intro g u hu hb
    unfold fact eu
    simp only [hb, decide_true, Bool.true_and]
    rw [xs_one (k := 0) (by decide) _ (fun v _ hv => by simp [hv]), hA.2.2.1 u b hu hb]
    simp
  by_cases hb : b < 61
  · by_cases ha : a < N
    · rw [xs_one ha _ (fun g _ hne => xs_zero' (fun u hu => by rw [e g u hu hb]; simp [Ne.symm hne])), xs_one hb _ (fun u hu hne => by rw [e a u hu hb]; simp [hne]), e a b hb hb]
      simp
    · rw [xs_zero' (fun g hg => xs_zero' (fun u hu => by rw [e g u hu hb]; simp [show ¬ a = g by omega]))]
      cases h : x a b
      · rfl
      · exact absurd (hN a (hx a b h).1) ha
  · rw [xs_zero' (fun g hg => xs_zero' (fun u hu => by unfold fact; simp [hb]))]
    cases h : x a b
    · rfl
    · exact absurd (hx a b h).2.1 hb
/-- a map of towers goes with the differentials -/
theorem CMap.comm (hA : IsAlg dg ca) (hM : IsMod dg ca In0 act0) (hg : RGen dg ca In0 act0 N S T gv d δ) (hg' : RGen dg ca In0 act0 N S T gv' d' δ') {a : Nat → Nat → EE} (h : CMap dg ca act0 N S gv d δ gv' d' δ' a) {s t : Nat} (hs : s < S) {x : EE} (hx : FIn dg (gv (s + 1)) (d (s + 1)) t x) :
    Dm N ca act0 δ' (s + 1) (fm N (fact ca) (a (s + 1)) x) = fm N (fact ca) (a s) (Dm N ca act0 δ (s + 1) x) := by
  have e1 := fm_fm (N := N) (N' := N) hA (modL hA hM gv' d' (s + 1)) (fun g h' => (hg'.1 (s + 1) hs g h').2.2) (h.1 (s + 1) hs) hx
  have e2 := fm_fm (N := N) (N' := N) hA (free_mod hA (gv' s) (d' s)) (h.1 s (by omega)) (fun g h' => (hg.1 (s + 1) hs g h').2.2) hx
  refine e1.trans ?_
  refine Eq.trans ?_ e2.symm
  exact fm_congr hx (fun g hgv => h.2.2 s hs g hgv)
theorem CMap.comm0 (hA : IsAlg dg ca) (hM : IsMod dg ca In0 act0) (hg : RGen dg ca In0 act0 N S T gv d δ) (hg' : RGen dg ca In0 act0 N S T gv' d' δ') {a : Nat → Nat → EE} (h : CMap dg ca act0 N S gv d δ gv' d' δ' a) {t : Nat} {x : EE} (hx : FIn dg (gv 0) (d 0) t x) :
    Dm N ca act0 δ' 0 (fm N (fact ca) (a 0) x) = Dm N ca act0 δ 0 x := by
  have e1 := fm_fm (N := N) (N' := N) hA (modL hA hM gv' d' 0) (fun g h' => (hg'.1 0 (Nat.zero_le _) g h').2.2) (h.1 0 (Nat.zero_le _)) hx
  exact e1.trans (fm_congr hx (fun g hgv => h.2.1 g hgv))
/-- maps of towers are there: from free generators into what is exact -/
theorem CMap.ex (hA : IsAlg dg ca) (hM : IsMod dg ca In0 act0) (hg : RGen dg ca In0 act0 N S T gv d δ) (hg' : RGen dg ca In0 act0 N S T gv' d' δ') (he' : RExa dg ca In0 act0 N S T gv' d' δ') : ∃ a, CMap dg ca act0 N S gv d δ gv' d' δ' a := by
  refine Exists.elim (pickS (G := fun s b => (∀ g, gv s g = true → FIn dg (gv' s) (d' s) (d s g) (b g)) ∧ (s = 0 → ∀ g, gv 0 g = true → Dm N ca act0 δ' 0 (b g) = δ 0 g) ∧ ∀ t x, FIn dg (gv s) (d s) t x → Dm N ca act0 δ s x = e0 → Dm N ca act0 δ' s (fm N (fact ca) b x) = e0)
    (R := fun s b b' => ∀ g, gv (s + 1) g = true → Dm N ca act0 δ' (s + 1) (b' g) = fm N (fact ca) b (δ (s + 1) g)) S ?_ ?_) (fun a ha => ⟨a, fun s hs g h => (ha.1 s hs).1 g h, fun g h => (ha.1 0 (Nat.zero_le _)).2.1 rfl g h, fun s hs g h => ha.2 s hs g h⟩)
  · obtain ⟨b, hb⟩ := pick (P := fun g y => FIn dg (gv' 0) (d' 0) (d 0 g) y ∧ Dm N ca act0 δ' 0 y = δ 0 g) (gv := gv 0) (fun g h => he'.1 (d 0 g) (hg.1 0 (Nat.zero_le _) g h).2.1 (δ 0 g) (hg.1 0 (Nat.zero_le _) g h).2.2)
    refine ⟨b, fun g h => (hb g h).1, fun _ g h => (hb g h).2, fun t x hx h0 => ?_⟩
    have e1 := fm_fm (N := N) (N' := N) hA (modL hA hM gv' d' 0) (fun g h' => (hg'.1 0 (Nat.zero_le _) g h').2.2) (fun g h => (hb g h).1) hx
    refine e1.trans ?_
    rw [← h0]
    exact fm_congr hx (fun g hgv => (hb g hgv).2)
  · intro s hs b hb
    obtain ⟨b', hb'⟩ := pick (P := fun g y => FIn dg (gv' (s + 1)) (d' (s + 1)) (d (s + 1) g) y ∧ Dm N ca act0 δ' (s + 1) y = fm N (fact ca) b (δ (s + 1) g)) (gv := gv (s + 1)) (fun g h => by
      obtain ⟨g1, g2, g3⟩ := hg.1 (s + 1) hs g h
      exact he'.2 s hs (d (s + 1) g) g2 _ (fm_in (free_mod hA (gv' s) (d' s)) hb.1 g3) (hb.2.2 _ _ g3 (hg.2 s hs g h)))
    refine ⟨b', ⟨fun g h => (hb' g h).1, fun e => by omega, fun t x hx h0 => ?_⟩, fun g h => (hb' g h).2⟩
    have e1 := fm_fm (N := N) (N' := N) hA (modL hA hM gv' d' (s + 1)) (fun g h' => (hg'.1 (s + 1) hs g h').2.2) (fun g h => (hb' g h).1) hx
    have e2 := fm_fm (N := N) (N' := N) hA (free_mod hA (gv' s) (d' s)) hb.1 (fun g h' => (hg.1 (s + 1) hs g h').2.2) hx
    refine e1.trans ?_
    refine (fm_congr hx (fun g hgv => (hb' g hgv).2)).trans ?_
    refine e2.symm.trans ?_
    rw [show fm N (fact ca) (δ (s + 1)) x = e0 from h0, fm_0]
end RES
