/-! least towers: a map of one into itself is the identity on units; comparison of two towers on units -/
section CMP
variable {dg : Nat → Nat} {ca : Nat → Nat → Nat → Bool} {In0 : Nat → EE → Prop} {act0 : Nat → EE → EE} {N S T : Nat} {gv gv' : Nat → Nat → Bool} {d d' : Nat → Nat → Nat} {δ δ' : Nat → Nat → EE}
theorem act_unit (hA : IsAlg dg ca) {u : Nat} (hu : u < 61) (hne : u ≠ 0) (y : EE) (g : Nat) : fact ca u y g 0 = false := by
  unfold fact
  rw [xs_zero' (fun v hv => ?_)]
  · rfl
  · cases h : ca u v 0
    · rw [Bool.and_false]
    · have h1 := hA.2.2.2.1 u v 0 hu hv (by decide) h
      have h2 := hA.2.2.2.2.2 u hu hne
      have h3 := hA.2.2.2.2.1
      omega
theorem act_unit0 (hA : IsAlg dg ca) (y : EE) (g : Nat) : fact ca 0 y g 0 = y g 0 := by
  unfold fact
  rw [xs_one (k := 0) (by decide) _ (fun v hv hne => by rw [hA.2.1 v 0 hv (by decide)]; simp [hne]), hA.2.1 0 0 (by decide) (by decide)]
  simp
theorem fm_unit (hA : IsAlg dg ca) (y : Nat → EE) (x : EE) (g' : Nat) : fm N (fact ca) y x g' 0 = xs_ N (fun g => x g 0 && y g g' 0) := by
  unfold fm
  rw [es2_at]
  apply xs_congr
  intro g _
  rw [xs_one (k := 0) (by decide) _ (fun u hu hne => by rw [act_unit hA hu hne]; exact Bool.and_false _), act_unit0 hA]
theorem fm_unit0 (hA : IsAlg dg ca) (y : Nat → EE) {x : EE} (h : ∀ g, x g 0 = false) (g' : Nat) : fm N (fact ca) y x g' 0 = false := by
  rw [fm_unit hA]
  exact xs_zero' (fun g _ => by rw [h g, Bool.false_and])
def zt (N : Nat) (ca : Nat → Nat → Nat → Bool) (δ : Nat → Nat → EE) (p : Nat → EE) : Nat → Nat → EE
  | 0, _ => e0
  | s + 1, g => fm N (fact ca) p (δ (s + 1) g)
theorem ex4 (a b c : EE) : ex (ex (ex a b) c) (ex (ex a b) e0) = c := by
  funext i j
  unfold ex e0
  cases a i j <;> cases b i j <;> cases c i j <;> rfl
theorem self_unit (hA : IsAlg dg ca) (hM : IsMod dg ca In0 act0) (hg : RGen dg ca In0 act0 N S T gv d δ) (he : RExa dg ca In0 act0 N S T gv d δ) (hm : RMin dg ca act0 N S T gv d δ) {κ : Nat → Nat → EE} (hκ : CMap dg ca act0 N S gv d δ gv d δ κ) :
    ∀ s, s ≤ S → ∀ g, gv s g = true → ∀ g', κ s g g' 0 = decide (g' = g) := by
  have hin : ∀ s, s ≤ S → ∀ (p : Nat → EE), (∀ s', s = s' + 1 → ∀ g, gv s' g = true → FIn dg (gv s) (d s) (d s' g) (p g)) → ∀ g, gv s g = true → FIn dg (gv s) (d s) (d s g) (zt N ca δ p s g) := by
    intro s hs p hp g hgv
    cases s with
    | zero => exact (free_mod hA (gv 0) (d 0)).2.1 _
    | succ s => exact fm_in (free_mod hA (gv (s + 1)) (d (s + 1))) (hp s rfl) (hg.1 (s + 1) hs g hgv).2.2
  refine Exists.elim (pickS (G := fun s p => (∀ s', s = s' + 1 → ∀ g, gv s' g = true → FIn dg (gv s) (d s) (d s' g) (p g)) ∧ ∀ g, gv s g = true → Dm N ca act0 δ s (ex (ex (κ s g) (eu g)) (zt N ca δ p s g)) = e0) (R := fun _ _ _ => True) S ?_ ?_) (fun p hp => ?_)
  · refine ⟨fun _ => e0, fun s' e => by omega, fun g hgv => ?_⟩
    rw [Dm_add, Dm_add, hκ.2.1 g hgv, Dm_gen hA hM hg (Nat.zero_le _) hgv]
    show ex (ex (δ 0 g) (δ 0 g)) (Dm N ca act0 δ 0 e0) = e0
    rw [Dm_0, ex_0, ex_self]
  · intro s hs p hp
    have hz : ∀ g, gv s g = true → FIn dg (gv s) (d s) (d s g) (ex (ex (κ s g) (eu g)) (zt N ca δ p s g)) := fun g hgv =>
      (free_mod hA (gv s) (d s)).1 _ _ _ ((free_mod hA (gv s) (d s)).1 _ _ _ (hκ.1 s (by omega) g hgv) (eu_in hA hgv)) (hin s (by omega) p hp.1 g hgv)
    obtain ⟨p', hp'⟩ := pick (P := fun g y => FIn dg (gv (s + 1)) (d (s + 1)) (d s g) y ∧ Dm N ca act0 δ (s + 1) y = ex (ex (κ s g) (eu g)) (zt N ca δ p s g)) (gv := gv s) (fun g h =>
      he.2 s hs (d s g) (hg.1 s (by omega) g h).2.1 _ (hz g h) (hp.2 g h))
    refine ⟨p', ⟨fun s' e g hgv => ?_, fun g hgv => ?_⟩, trivial⟩
    · have : s' = s := by omega
      subst this
      exact (hp' g hgv).1
    · have hx := (hg.1 (s + 1) hs g hgv).2.2
      have hx' : FIn dg (gv s) (d s) (d (s + 1) g) (δ (s + 1) g) := hx
      have e1 : Dm N ca act0 δ (s + 1) (zt N ca δ p' (s + 1) g) = ex (ex (fm N (fact ca) (κ s) (δ (s + 1) g)) (δ (s + 1) g)) e0 := by
        have f1 := fm_fm (N := N) (N' := N) hA (modL hA hM gv d (s + 1)) (fun g h' => (hg.1 (s + 1) hs g h').2.2) (fun g h => (hp' g h).1) hx'
        refine f1.trans ?_
        refine (fm_congr (N := N) hx' (fun g h => (hp' g h).2)).trans ?_
        rw [show acL ca act0 (s + 1) = fact ca from rfl]
        rw [fm_sum (N := N) (fact ca) (free_mod hA (gv s) (d s)).2.2.1 (fun g => ex (κ s g) (eu g)) (fun g => zt N ca δ p s g), fm_sum (N := N) (fact ca) (free_mod hA (gv s) (d s)).2.2.1 (κ s) eu, fm_id hA (fun g h => (hg.1 s (by omega) g h).1) hx']
        refine congrArg (ex (ex (fm N (fact ca) (κ s) (δ (s + 1) g)) (δ (s + 1) g))) ?_
        cases s with
        | zero =>
          funext a b
          unfold fm e0
          rw [es2_at]
          refine xs_zero' (fun g _ => xs_zero' (fun u hu => ?_))
          have := congrFun (congrFun ((free_mod hA (gv 0) (d 0)).2.2.2.1 u) a) b
          show (δ 1 _ _ _ && fact ca u e0 a b) = false
          rw [this]
          exact Bool.and_false _
        | succ s =>
          have f2 := fm_fm (N := N) (N' := N) hA (free_mod hA (gv (s + 1)) (d (s + 1))) (hp.1 s rfl) (fun g h => (hg.1 (s + 1) (by omega) g h).2.2) hx'
          refine f2.symm.trans ?_
          rw [show fm N (fact ca) (δ (s + 1)) (δ (s + 1 + 1) g) = e0 from hg.2 (s + 1) hs g hgv, fm_0]
      rw [Dm_add, Dm_add, hκ.2.2 s hs g hgv, Dm_gen hA hM hg hs hgv, e1, ex_0, ex_self]
  · intro s hs g hgv g'
    obtain ⟨hp1, hp2⟩ := hp.1 s hs
    have hz : FIn dg (gv s) (d s) (d s g) (ex (ex (κ s g) (eu g)) (zt N ca δ (p s) s g)) :=
      (free_mod hA (gv s) (d s)).1 _ _ _ ((free_mod hA (gv s) (d s)).1 _ _ _ (hκ.1 s hs g hgv) (eu_in hA hgv)) (hin s hs (p s) hp1 g hgv)
    have h1 := hm s hs (d s g) (hg.1 s hs g hgv).2.1 _ hz (hp2 g hgv) g'
    have h2 : zt N ca δ (p s) s g g' 0 = false := by
      cases s with
      | zero => rfl
      | succ s => exact fm_unit0 hA (p (s + 1)) (hm s (by omega) _ (hg.1 (s + 1) hs g hgv).2.1 _ (hg.1 (s + 1) hs g hgv).2.2 (hg.2 s (by omega) g hgv)) g'
    have h3 : (κ s g g' 0 ^^ eu g g' 0 ^^ zt N ca δ (p s) s g g' 0) = false := h1
    rw [h2] at h3
    have h4 : eu g g' 0 = decide (g' = g) := by unfold eu; simp
    rw [h4] at h3
    cases hk : κ s g g' 0 <;> rw [hk] at h3 <;> cases hd : decide (g' = g) <;> rw [hd] at h3 <;> first | rfl | cases h3
/-- a least tower beside any other: maps there and back, on units the identity -/
theorem cmp_unit (hA : IsAlg dg ca) (hM : IsMod dg ca In0 act0) (hg : RGen dg ca In0 act0 N S T gv d δ) (he : RExa dg ca In0 act0 N S T gv d δ) (hm : RMin dg ca act0 N S T gv d δ) (hg' : RGen dg ca In0 act0 N S T gv' d' δ') (he' : RExa dg ca In0 act0 N S T gv' d' δ') :
    ∃ a b, CMap dg ca act0 N S gv d δ gv' d' δ' a ∧ CMap dg ca act0 N S gv' d' δ' gv d δ b ∧ ∀ s, s ≤ S → ∀ g, gv s g = true → ∀ g', xs_ N (fun p => a s g p 0 && b s p g' 0) = decide (g' = g) := by
  obtain ⟨a, ha⟩ := CMap.ex hA hM hg hg' he'
  obtain ⟨b, hb⟩ := CMap.ex hA hM hg' hg he
  refine ⟨a, b, ha, hb, fun s hs g hgv g' => ?_⟩
  have hκ : CMap dg ca act0 N S gv d δ gv d δ (fun s g => fm N (fact ca) (b s) (a s g)) := by
    refine ⟨fun s hs g h => fm_in (free_mod hA (gv s) (d s)) (hb.1 s hs) (ha.1 s hs g h), fun g h => ?_, fun s hs g h => ?_⟩
    · exact (hb.comm0 hA hM hg' hg (ha.1 0 (Nat.zero_le _) g h)).trans (ha.2.1 g h)
    · refine (hb.comm hA hM hg' hg hs (ha.1 (s + 1) hs g h)).trans ?_
      rw [ha.2.2 s hs g h]
      exact fm_fm (N := N) (N' := N) hA (free_mod hA (gv s) (d s)) (hb.1 s (by omega)) (ha.1 s (by omega)) (hg.1 (s + 1) hs g h).2.2
  have := self_unit hA hM hg he hm hκ s hs g hgv g'
  rw [← this]
  exact (fm_unit hA (b s) (a s g) g').symm
end CMP
