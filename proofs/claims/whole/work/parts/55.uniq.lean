/-! what does not depend on how a least tower is made; bounds by any other tower -/
section UNIQ
variable {dg : Nat → Nat} {ca : Nat → Nat → Nat → Bool} {In0 : Nat → EE → Prop} {act0 : Nat → EE → EE} {N S T : Nat} {gv gv' : Nat → Nat → Bool} {d d' : Nat → Nat → Nat} {δ δ' : Nat → Nat → EE}
/-- generators of a floor, of a degree -/
def gcn (N : Nat) (gv : Nat → Nat → Bool) (d : Nat → Nat → Nat) (s t : Nat) : Nat := cntp (fun g => gv s g && decide (d s g = t)) N
theorem gcn_le (hA : IsAlg dg ca) (hM : IsMod dg ca In0 act0) (hg : RGen dg ca In0 act0 N S T gv d δ) (he : RExa dg ca In0 act0 N S T gv d δ) (hm : RMin dg ca act0 N S T gv d δ) (hg' : RGen dg ca In0 act0 N S T gv' d' δ') (he' : RExa dg ca In0 act0 N S T gv' d' δ') {s : Nat} (hs : s ≤ S) (t : Nat) : gcn N gv d s t ≤ gcn N gv' d' s t := by
  obtain ⟨a, b, ha, hb, hab⟩ := cmp_unit hA hM hg he hm hg' he'
  refine cnt_le (A := fun g p => a s g p 0) (B := fun p g' => b s p g' 0) (fun g _ hgp g' => ?_) (fun g _ hgp p _ h => ?_)
  · simp only [Bool.and_eq_true] at hgp
    exact hab s hs g hgp.1 g'
  · simp only [Bool.and_eq_true, decide_eq_true_eq] at hgp
    obtain ⟨h1, -, h3⟩ := ha.1 s hs g hgp.1 p 0 h
    rw [hA.2.2.2.2.1] at h3
    simp only [Bool.and_eq_true, decide_eq_true_eq]
    exact ⟨h1, by omega⟩
/-- a coefficient that no product of two has -/
theorem fm_w (hA : IsAlg dg ca) {w : Nat} (hw : w < 61) (hi : ∀ u v, u < 61 → v < 61 → u ≠ 0 → v ≠ 0 → ca u v w = false) (y : Nat → EE) {x : EE} (hx : ∀ g, x g 0 = false) (g : Nat) : fm N (fact ca) y x g w = xs_ N (fun g' => x g' w && y g' g 0) := by
  unfold fm
  rw [es2_at]
  apply xs_congr
  intro g' _
  have e : ∀ u, u < 61 → u ≠ 0 → fact ca u (y g') g w = (decide (u = w) && y g' g 0) := by
    intro u hu hne
    unfold fact
    simp only [hw, decide_true, Bool.true_and]
    rw [xs_one (k := 0) (by decide) _ (fun v hv hv0 => by rw [hi u v hu hv hne hv0]; exact Bool.and_false _), hA.2.2.1 u w hu hw, Bool.and_comm]
  by_cases hw0 : w = 0
  · subst hw0
    rw [hx g', Bool.false_and]
    apply xs_zero'
    intro u hu
    by_cases hu0 : u = 0
    · subst hu0; rw [hx g', Bool.false_and]
    · rw [e u hu hu0]; simp [hu0]
  · rw [xs_one hw _ (fun u hu hne => by
      by_cases hu0 : u = 0
      · subst hu0; rw [hx g', Bool.false_and]
      · rw [e u hu hu0]; simp [hne]), e w hw hw0]
    simp
theorem joins_eq (hA : IsAlg dg ca) (hM : IsMod dg ca In0 act0) (hg : RGen dg ca In0 act0 N S T gv d δ) (he : RExa dg ca In0 act0 N S T gv d δ) (hm : RMin dg ca act0 N S T gv d δ) (hg' : RGen dg ca In0 act0 N S T gv' d' δ') (he' : RExa dg ca In0 act0 N S T gv' d' δ') (hm' : RMin dg ca act0 N S T gv' d' δ')
    {w : Nat} (hw : w < 61) (hi : ∀ u v, u < 61 → v < 61 → u ≠ 0 → v ≠ 0 → ca u v w = false) {s : Nat} (hs : s < S) :
    ∃ A B : Nat → Nat → Bool, (∀ f, gv (s + 1) f = true → ∀ g, δ (s + 1) f g w = xs_ N (fun p => A f p && xs_ N (fun p' => δ' (s + 1) p p' w && B p' g))) ∧ (∀ f, gv (s + 1) f = true → ∀ p, A f p = true → gv' (s + 1) p = true ∧ d' (s + 1) p = d (s + 1) f) ∧ ∀ p', gv' s p' = true → ∀ g, B p' g = true → gv s g = true ∧ d s g = d' s p' := by
  obtain ⟨a, b, ha, hb, hab⟩ := cmp_unit hA hM hg he hm hg' he'
  have hdeg0 := hA.2.2.2.2.1
  refine ⟨fun f p => a (s + 1) f p 0, fun p' g => b s p' g 0, fun f hf g => ?_, fun f hf p h => ?_, fun p' hp' g h => ?_⟩
  · have hx : FIn dg (gv s) (d s) (d (s + 1) f) (δ (s + 1) f) := (hg.1 (s + 1) hs f hf).2.2
    have hT := (hg.1 (s + 1) hs f hf).2.1
    have hx0 : ∀ g, δ (s + 1) f g 0 = false := hm s (by omega) _ hT _ hx (hg.2 s hs f hf)
    have hyin : FIn dg (gv' s) (d' s) (d (s + 1) f) (fm N (fact ca) (a s) (δ (s + 1) f)) := fm_in (free_mod hA (gv' s) (d' s)) (ha.1 s (by omega)) hx
    have hyker : Dm N ca act0 δ' s (fm N (fact ca) (a s) (δ (s + 1) f)) = e0 := by
      cases s with
      | zero => exact (ha.comm0 hA hM hg hg' hx).trans (hg.2 0 hs f hf)
      | succ s =>
        refine (ha.comm hA hM hg hg' (by omega) hx).trans ?_
        rw [hg.2 (s + 1) hs f hf, fm_0]
    have hy0 := hm' s (by omega) _ hT _ hyin hyker
    -- there and back
    have e1 : fm N (fact ca) (b s) (fm N (fact ca) (a s) (δ (s + 1) f)) g w = δ (s + 1) f g w := by
      rw [fm_fm (N := N) (N' := N) hA (free_mod hA (gv s) (d s)) (hb.1 s (by omega)) (ha.1 s (by omega)) hx, fm_w hA hw hi _ hx0]
      have e2 : ∀ g', gv s g' = true → fm N (fact ca) (b s) (a s g') g 0 = decide (g = g') := fun g' h => by
        rw [fm_unit hA]
        exact hab s (by omega) g' h g
      by_cases hgN : g < N
      · rw [xs_one hgN _ (fun g' _ hne => by
          cases hc : δ (s + 1) f g' w
          · rw [Bool.false_and]
          · rw [e2 g' (hx g' w hc).1]; simp [Ne.symm hne])]
        cases hc : δ (s + 1) f g w
        · rw [Bool.false_and]
        · rw [e2 g (hx g w hc).1]; simp
      · rw [xs_zero' (fun g' hg'N => by
          cases hc : δ (s + 1) f g' w
          · rw [Bool.false_and]
          · rw [e2 g' (hx g' w hc).1]; simp [show ¬ g = g' by omega])]
        cases hc : δ (s + 1) f g w
        · rfl
        · exact absurd (hg.1 s (by omega) g (hx g w hc).1).1 hgN
    rw [← e1, fm_w hA hw hi _ hy0]
    -- the middle
    have e3 : ∀ p', fm N (fact ca) (a s) (δ (s + 1) f) p' w = xs_ N (fun p => a (s + 1) f p 0 && δ' (s + 1) p p' w) := by
      intro p'
      rw [← ha.2.2 s hs f hf]
      show fm N (fact ca) (δ' (s + 1)) (a (s + 1) f) p' w = _
      unfold fm
      rw [es2_at]
      apply xs_congr
      intro p _
      have hz := ha.1 (s + 1) hs f hf
      rw [xs_one (k := 0) (by decide) _ (fun u hu hne => by
        cases hc : a (s + 1) f p u
        · rw [Bool.false_and]
        · have hv := (hz p u hc).1
          have h0 := hm' s (by omega) _ (hg'.1 (s + 1) hs p hv).2.1 _ (hg'.1 (s + 1) hs p hv).2.2 (hg'.2 s hs p hv) p'
          rw [Bool.true_and]
          unfold fact
          rw [xs_zero' (fun v hv' => by
            by_cases hv0 : v = 0
            · subst hv0; rw [h0, Bool.false_and]
            · rw [hi u v hu hv' hne hv0, Bool.and_false]), Bool.and_false])]
      cases hc : a (s + 1) f p 0
      · rw [Bool.false_and, Bool.false_and]
      · have hv := (hz p 0 hc).1
        rw [(free_mod hA (gv' s) (d' s)).2.2.2.2.2.1 _ _ (hg'.1 (s + 1) hs p hv).2.2]
    rw [xs_congr (g := fun p' => xs_ N (fun p => a (s + 1) f p 0 && (δ' (s + 1) p p' w && b s p' g 0))) (fun p' _ => by
      rw [e3 p', ← xs_and']
      apply xs_congr
      intro p _
      exact Bool.and_assoc _ _ _), xs_comm]
    apply xs_congr
    intro p _
    exact xs_and N _ _
  · obtain ⟨h1, -, h3⟩ := ha.1 (s + 1) hs f hf p 0 h
    exact ⟨h1, by omega⟩
  · obtain ⟨h1, -, h3⟩ := hb.1 s (by omega) p' hp' g 0 h
    exact ⟨h1, by omega⟩
/-- a map that is the identity on units loses nothing -/
theorem unit_inj (hA : IsAlg dg ca) {gvs : Nat → Bool} {ds : Nat → Nat} {κ : Nat → EE} (hN : ∀ g, gvs g = true → g < N) (hin : ∀ g, gvs g = true → FIn dg gvs ds (ds g) (κ g)) (hu : ∀ g, gvs g = true → ∀ g', κ g g' 0 = decide (g' = g)) {t : Nat} {x : EE} (hx : FIn dg gvs ds t x) (h0 : fm N (fact ca) κ x = e0) : x = e0 := by
  -- by the degrees of generators, from the greatest down: coefficients of degree k are nothing
  have key : ∀ k g u, x g u = true → dg u = k → False := by
    intro k
    induction k using Nat.strongRecOn with
    | _ k ih =>
      intro g u hgu hk
      obtain ⟨g1, g2, g3⟩ := hx g u hgu
      have h1 : fm N (fact ca) κ x g u = false := by rw [h0]; rfl
      unfold fm at h1
      rw [es2_at] at h1
      have e : ∀ g' v, v < 61 → x g' v = true → fact ca v (κ g') g u = (decide (g' = g) && decide (v = u)) := by
        intro g' v hv hgv
        obtain ⟨q1, q2, q3⟩ := hx g' v hgv
        have hkv : ¬ dg v < k := fun z => ih (dg v) z g' v hgv rfl
        unfold fact
        simp only [g2, decide_true, Bool.true_and]
        rw [xs_one (k := 0) (by decide) _ (fun v' hv' hne => by
          cases hc : κ g' g v'
          · rw [Bool.false_and]
          · cases hca : ca v v' u
            · rw [Bool.and_false]
            · have a1 := hA.2.2.2.1 v v' u hv hv' g2 hca
              have a2 := hA.2.2.2.2.2 v' hv' hne
              omega), hu g' q1 g, hA.2.2.1 v u hv g2]
        by_cases hgg : g' = g
        · simp [hgg]
        · simp [hgg, Ne.symm hgg]
      rw [xs_one (hN g g1) _ (fun g' _ hne => xs_zero' (fun v hv => by
        cases hc : x g' v
        · rw [Bool.false_and]
        · rw [e g' v hv hc]; simp [hne])), xs_one g2 _ (fun v hv hne => by
        cases hc : x g v
        · rw [Bool.false_and]
        · rw [e g v hv hc]; simp [hne]), hgu, e g u g2 hgu] at h1
      simp at h1
  funext g u
  cases h : x g u
  · rfl
  · exact (key (dg u) g u h rfl).elim
def unc (x : EE) : Nat × Nat → Bool := fun q => x q.1 q.2
/-- what goes to nothing is spanned by M elements -/
def KSpan (dg : Nat → Nat) (ca : Nat → Nat → Nat → Bool) (act0 : Nat → EE → EE) (N : Nat) (gv : Nat → Nat → Bool) (d : Nat → Nat → Nat) (δ : Nat → Nat → EE) (s t M : Nat) : Prop := ∃ w : Nat → EE, ∀ x, FIn dg (gv s) (d s) t x → Dm N ca act0 δ s x = e0 → ∃ c, x = es M c w
/-- there are no more independent ones that go to nothing than in any other tower -/
theorem ker_le (hA : IsAlg dg ca) (hM : IsMod dg ca In0 act0) (hg : RGen dg ca In0 act0 N S T gv d δ) (he : RExa dg ca In0 act0 N S T gv d δ) (hm : RMin dg ca act0 N S T gv d δ) (hg' : RGen dg ca In0 act0 N S T gv' d' δ') (he' : RExa dg ca In0 act0 N S T gv' d' δ') {s t M : Nat} (hs : s ≤ S) (hk : KSpan dg ca act0 N gv' d' δ' s t M)
    {n : Nat} {v : Nat → EE} (hv : ∀ i, i < n → FIn dg (gv s) (d s) t (v i) ∧ Dm N ca act0 δ s (v i) = e0) (hI : ∀ c, es n c v = e0 → ∀ i, i < n → c i = false) : n ≤ M := by
  obtain ⟨a, b, ha, hb, hab⟩ := cmp_unit hA hM hg he hm hg' he'
  obtain ⟨w, hw⟩ := hk
  refine ind_le (ι := Nat × Nat) M n (fun i => unc (fm N (fact ca) (a s) (v i))) (fun i => unc (w i)) ?_ ?_
  · intro c hc
    refine hI c ?_
    have hin : FIn dg (gv s) (d s) t (es n c v) := in_es (free_mod hA (gv s) (d s)).1 (free_mod hA (gv s) (d s)).2.1 (fun i hi _ => (hv i hi).1)
    have h1 : fm N (fact ca) (a s) (es n c v) = e0 := by
      rw [add_es (fm_add N (fact ca) (a s)) (fm_0 N (fact ca) (a s))]
      funext p q
      exact congrFun hc (p, q)
    refine unit_inj (N := N) hA (fun g h => (hg.1 s hs g h).1) (κ := fun g => fm N (fact ca) (b s) (a s g)) (fun g h => fm_in (free_mod hA (gv s) (d s)) (hb.1 s hs) (ha.1 s hs g h)) (fun g h g' => ?_) hin ?_
    · rw [fm_unit hA]
      exact hab s hs g h g'
    · rw [← fm_fm (N := N) (N' := N) hA (free_mod hA (gv s) (d s)) (hb.1 s hs) (ha.1 s hs) hin, h1, fm_0]
  · intro i hi
    obtain ⟨h1, h2⟩ := hv i hi
    have h3 : Dm N ca act0 δ' s (fm N (fact ca) (a s) (v i)) = e0 := by
      cases s with
      | zero => exact (ha.comm0 hA hM hg hg' h1).trans h2
      | succ s =>
        refine (ha.comm hA hM hg hg' (by omega) h1).trans ?_
        rw [h2, fm_0]
    obtain ⟨c, hc⟩ := hw _ (fm_in (free_mod hA (gv' s) (d' s)) (ha.1 s hs) h1) h3
    refine ⟨c, ?_⟩
    rw [hc]
    rfl
end UNIQ
