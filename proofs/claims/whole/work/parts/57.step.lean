/-! one element more: the tower -/
theorem pt_mod {dg : Nat → Nat} {ca : Nat → Nat → Nat → Bool} (hA : IsAlg dg ca) : IsMod dg ca pIn pAct := by
  refine ⟨fun t x y hx hy a b h => ?_, fun t a b h => (by cases h), fun u x y => ?_, fun u => ?_, fun u t x hu hx => ?_, fun t x _ => rfl, fun u v t x hu hv hx => ?_⟩
  · rcases bxor_false h with h | h
    · exact hx a b h
    · exact hy a b h
  · unfold pAct
    split
    · rfl
    · rfl
  · unfold pAct
    split <;> rfl
  · unfold pAct
    split
    · rename_i h
      subst h
      rw [hA.2.2.2.2.1]
      exact hx
    · intro a b h
      cases h
  · funext a b
    rw [xs_one (k := 0) (by decide) _ (fun w _ hne => by unfold pAct; rw [if_neg hne]; exact Bool.and_false _)]
    show pAct u (pAct v x) a b = (ca u v 0 && x a b)
    by_cases hu0 : u = 0
    · subst hu0
      rw [hA.2.1 v 0 hv (by decide)]
      by_cases hv0 : v = 0
      · subst hv0; simp [pAct]
      · simp [pAct, hv0, e0]
    · have : ca u v 0 = false := by
        cases h : ca u v 0
        · rfl
        · have h1 := hA.2.2.2.1 u v 0 hu hv (by decide) h
          have h2 := hA.2.2.2.2.2 u hu hu0
          have h3 := hA.2.2.2.2.1
          omega
      rw [this]
      simp [pAct, hu0, e0]
section STEP
variable {dg : Nat → Nat} {ca : Nat → Nat → Nat → Bool} {de : Nat → Nat} {am : Nat → Nat → Nat → Bool} {S S' : Nat → Bool} {e : Nat} {pv : Nat → Nat → Bool} {pd : Nat → Nat → Nat} {pδ : Nat → Nat → EE}
theorem fm_zero {N : Nat} {act : Nat → EE → EE} (h0 : ∀ u, act u e0 = e0) (x : EE) : fm N act (fun _ => e0) x = e0 := by
  funext a b
  unfold fm
  rw [es2_at]
  refine xs_zero' (fun g _ => xs_zero' (fun u _ => ?_))
  rw [h0 u]
  exact Bool.and_false _
theorem io_inj (hlt : ∀ s p, pv s p = true → p < 8) {s t : Nat} {v : EE} (hv : InL dg pIn pv pd s t v) (h : io e s v = e0) : v = e0 := by
  funext a c
  cases s with
  | zero =>
    cases hc : v a c
    · rfl
    · have h1 := (hv a c hc).1
      subst h1
      have h2 : (decide (e = e) && v 0 c) = false := congrFun (congrFun h e) c
      rw [hc] at h2
      simp at h2
  | succ s =>
    cases hc : v a c
    · rfl
    · have h1 := hlt s a (hv a c hc).1
      have h2 : (decide ((8 * e + a) / 8 = e) && v ((8 * e + a) % 8) c) = false := congrFun (congrFun h (8 * e + a)) c
      rw [show (8 * e + a) / 8 = e by omega, show (8 * e + a) % 8 = a by omega, hc] at h2
      simp at h2
theorem io_0 (e s : Nat) : io e s e0 = e0 := by
  funext a b
  cases s with
  | zero => show (decide (a = e) && false) = false; exact Bool.and_false _
  | succ s => show (decide (a / 8 = e) && false) = false; exact Bool.and_false _
theorem sub_in (hH : HStep dg ca de am S S' e) {s t : Nat} {x : EE} (hx : FIn dg (gvE de pv pd S s) (dE de pd s) t x) : FIn dg (gvE de pv pd S' s) (dE de pd s) t x := by
  intro g u h
  obtain ⟨h1, h2, h3⟩ := hx g u h
  refine ⟨?_, h2, h3⟩
  unfold gvE at h1 ⊢
  simp only [Bool.and_eq_true] at h1 ⊢
  exact ⟨by rw [hH.2.2.2.2.2.1, h1.1]; rfl, h1.2⟩
theorem ro_id (hH : HStep dg ca de am S S' e) {s t : Nat} {x : EE} (hx : FIn dg (gvE de pv pd S s) (dE de pd s) t x) : ro e (s + 1) x = x := by
  funext g u
  show (x g u && !decide (g / 8 = e)) = x g u
  cases h : x g u
  · rfl
  · have h1 := (hx g u h).1
    unfold gvE at h1
    simp only [Bool.and_eq_true] at h1
    have : ¬ g / 8 = e := fun z => by rw [z, hH.2.2.2.2.1] at h1; exact absurd h1.1 (by decide)
    simp [this]
theorem ro_in (hH : HStep dg ca de am S S' e) {s t : Nat} {x : EE} (hx : FIn dg (gvE de pv pd S' s) (dE de pd s) t x) : FIn dg (gvE de pv pd S s) (dE de pd s) t (ro e (s + 1) x) := by
  intro g u h
  have h' : (x g u && !decide (g / 8 = e)) = true := h
  simp only [Bool.and_eq_true, Bool.not_eq_true', decide_eq_false_iff_not] at h'
  obtain ⟨h1, h2, h3⟩ := hx g u h'.1
  refine ⟨?_, h2, h3⟩
  unfold gvE at h1 ⊢
  simp only [Bool.and_eq_true] at h1 ⊢
  refine ⟨?_, h1.2⟩
  have := h1.1
  rw [hH.2.2.2.2.2.1] at this
  simpa [h'.2] using this
/-- what is of the new element alone goes to such -/
theorem on_fm (hH : HStep dg ca de am S S' e) (hP : RGen dg ca pIn pAct 8 5 14 pv pd pδ) {s t : Nat} (hs : s ≤ 5) {b : Nat → EE} (hb : ∀ p, p < 8 → b (8 * e + p) = io e s (pδ s p)) {x : EE} (hx : FIn dg (gvE de pv pd S' s) (dE de pd s) t x) (ho : onE e (s + 1) x) : onE e s (fm 96 (acL ca (sAct am S') s) b x) := by
  rcases Nat.lt_or_ge t (de e) with h | h
  · rw [on_low h hx ho, fm_0]
    intro a b hab
    cases hab
  · obtain ⟨τ, rfl⟩ := Nat.exists_eq_add_of_le h
    rw [← io_po ho, fm_io hH hP hs hb (po_in hx)]
    exact io_on s _
/-- exact on the new part -/
theorem on_exact (hH : HStep dg ca de am S S' e) (hP : RGen dg ca pIn pAct 8 5 14 pv pd pδ) (hPe : RExa dg ca pIn pAct 8 5 14 pv pd pδ) (hlt : ∀ s p, pv s p = true → p < 8) {s t : Nat} (hs : s < 5) (ht : t ≤ 14) {b b' : Nat → EE} (hb : ∀ p, p < 8 → b (8 * e + p) = io e s (pδ s p)) (hb' : ∀ p, p < 8 → b' (8 * e + p) = io e (s + 1) (pδ (s + 1) p))
    {x : EE} (hx : FIn dg (gvE de pv pd S' s) (dE de pd s) t x) (ho : onE e (s + 1) x) (h0 : fm 96 (acL ca (sAct am S') s) b x = e0) : ∃ y, FIn dg (gvE de pv pd S' (s + 1)) (dE de pd (s + 1)) t y ∧ onE e (s + 1 + 1) y ∧ fm 96 (acL ca (sAct am S') (s + 1)) b' y = x := by
  rcases Nat.lt_or_ge t (de e) with h | h
  · refine ⟨e0, fun _ _ h => (by cases h), fun _ _ h => (by cases h), ?_⟩
    rw [on_low h hx ho, fm_0]
  · obtain ⟨τ, rfl⟩ := Nat.exists_eq_add_of_le h
    have hz := po_in hx
    have h1 : Dm 8 ca pAct pδ s (po e x) = e0 := by
      refine io_inj (e := e) hlt (fm_in (modL hH.1 (pt_mod hH.1) pv pd s) (fun g h => (hP.1 s (by omega) g h).2.2) hz) ?_
      rw [← fm_io hH hP (by omega) hb hz, io_po ho]
      exact h0
    obtain ⟨y0, hy0, hy1⟩ := hPe.2 s hs τ (by omega) _ hz h1
    refine ⟨io e (s + 1 + 1) y0, io_in hH hlt ht hy0, io_on _ _, ?_⟩
    rw [fm_io hH hP (by omega) hb' hy0, hy1, io_po ho]
/-- onto, on the new part -/
theorem on_onto (hH : HStep dg ca de am S S' e) (hP : RGen dg ca pIn pAct 8 5 14 pv pd pδ) (hPe : RExa dg ca pIn pAct 8 5 14 pv pd pδ) (hlt : ∀ s p, pv s p = true → p < 8) {t : Nat} (ht : t ≤ 14) {b : Nat → EE} (hb : ∀ p, p < 8 → b (8 * e + p) = io e 0 (pδ 0 p))
    {x : EE} (hx : sIn de S' t x) (ho : onE e 0 x) : ∃ y, FIn dg (gvE de pv pd S' 0) (dE de pd 0) t y ∧ onE e 1 y ∧ fm 96 (sAct am S') b y = x := by
  by_cases hE : x e 0 = true
  · have hte := (hx e 0 hE).2.2
    have hz : pIn 0 (fun a c => decide (a = 0) && x e c) := by
      intro a c h
      simp only [Bool.and_eq_true, decide_eq_true_eq] at h
      exact ⟨h.1, (hx e c h.2).1, rfl⟩
    obtain ⟨y0, hy0, hy1⟩ := hPe.1 0 (by decide) _ hz
    refine ⟨io e 1 y0, ?_, io_on _ _, ?_⟩
    · have := io_in (s := 0) hH hlt (t := 0) (by omega) hy0
      rw [show de e + 0 = t by omega] at this
      exact this
    · have h1 := fm_io (s := 0) hH hP (by decide) hb hy0
      rw [hy1] at h1
      refine h1.trans ?_
      funext a c
      show (decide (a = e) && (decide (0 = 0) && x e c)) = x a c
      cases hc : x a c
      · by_cases ha : a = e
        · subst ha; rw [hc]; simp
        · simp [ha]
      · have ha : a = e := ho a c hc
        subst ha
        rw [hc]
        simp
  · refine ⟨e0, fun _ _ h => (by cases h), fun _ _ h => (by cases h), ?_⟩
    rw [fm_0]
    funext a c
    cases hc : x a c
    · rfl
    · have ha : a = e := ho a c hc
      subst ha
      have := (hx a c hc).1
      subst this
      exact absurd hc hE
/-- what of the new part goes to nothing -/
theorem on_ker (hH : HStep dg ca de am S S' e) (hP : RGen dg ca pIn pAct 8 5 14 pv pd pδ) (hlt : ∀ s p, pv s p = true → p < 8) {K : Nat → Nat → Nat} (hPk : ∀ s t, s ≤ 5 → t ≤ 14 → KSp dg ca pAct 8 pv pd pδ s t (K s t)) {s t : Nat} (hs : s ≤ 5) (ht : t ≤ 14) {b : Nat → EE} (hb : ∀ p, p < 8 → b (8 * e + p) = io e s (pδ s p)) :
    ∃ V : Nat → EE, (∀ i, i < (if de e ≤ t then K s (t - de e) else 0) → FIn dg (gvE de pv pd S' s) (dE de pd s) t (V i) ∧ fm 96 (acL ca (sAct am S') s) b (V i) = e0) ∧ ∀ x, FIn dg (gvE de pv pd S' s) (dE de pd s) t x → onE e (s + 1) x → fm 96 (acL ca (sAct am S') s) b x = e0 → ∃ c, x = es (if de e ≤ t then K s (t - de e) else 0) c V := by
  by_cases h : de e ≤ t
  · obtain ⟨τ, rfl⟩ := Nat.exists_eq_add_of_le h
    rw [if_pos h, show de e + τ - de e = τ by omega]
    obtain ⟨v, v1, v2⟩ := hPk s τ hs (by omega)
    refine ⟨fun i => io e (s + 1) (v i), fun i hi => ⟨io_in hH hlt ht (v1 i hi).1, ?_⟩, fun x hx ho h0 => ?_⟩
    · rw [fm_io hH hP hs hb (v1 i hi).1, (v1 i hi).2, io_0]
    · have hz := po_in hx
      have h1 : Dm 8 ca pAct pδ s (po e x) = e0 := by
        refine io_inj (e := e) hlt (fm_in (modL hH.1 (pt_mod hH.1) pv pd s) (fun g h => (hP.1 s hs g h).2.2) hz) ?_
        rw [← fm_io hH hP hs hb hz, io_po ho]
        exact h0
      obtain ⟨c, hc⟩ := v2 _ hz h1
      exact ⟨c, by rw [← io_xs, ← hc, io_po ho]⟩
  · rw [if_neg h]
    refine ⟨fun _ => e0, fun i hi => by omega, fun x hx ho _ => ⟨fun _ => false, ?_⟩⟩
    rw [on_low (by omega) hx ho]
    rfl
/-- two families one behind the other -/
theorem es_two (m k : Nat) (c c' : Nat → Bool) (w v : Nat → EE) : es (m + k) (fun i => if i < m then c i else c' (i - m)) (fun i => if i < m then w i else v (i - m)) = ex (es m c w) (es k c' v) := by
  funext a b
  unfold es ex
  rw [xs_add]
  have e1 : xs_ m (fun i => (if i < m then c i else c' (i - m)) && (if i < m then w i else v (i - m)) a b) = xs_ m (fun i => c i && w i a b) := by
    apply xs_congr
    intro i hi
    rw [if_pos hi, if_pos hi]
  have e2 : xs_ k (fun j => (if m + j < m then c (m + j) else c' (m + j - m)) && (if m + j < m then w (m + j) else v (m + j - m)) a b) = xs_ k (fun i => c' i && v i a b) := by
    apply xs_congr
    intro j _
    rw [if_neg (by omega), if_neg (by omega), show m + j - m = j by omega]
  rw [e1, e2]
theorem ex_swap (x y : EE) : ex (ex x y) y = x := by rw [ex_assoc, ex_self, ex_0]
theorem horse_step (hH : HStep dg ca de am S S' e) (hP : RGen dg ca pIn pAct 8 5 14 pv pd pδ) (hPe : RExa dg ca pIn pAct 8 5 14 pv pd pδ) (hlt : ∀ s p, pv s p = true → p < 8) {K : Nat → Nat → Nat} (hPk : ∀ s t, s ≤ 5 → t ≤ 14 → KSp dg ca pAct 8 pv pd pδ s t (K s t))
    {δ : Nat → Nat → EE} {M : Nat → Nat → Nat} (hg : RGen dg ca (sIn de S) (sAct am S) 96 5 14 (gvE de pv pd S) (dE de pd) δ) (he : RExa dg ca (sIn de S) (sAct am S) 96 5 14 (gvE de pv pd S) (dE de pd) δ) (hk : ∀ s t, s ≤ 5 → t ≤ 14 → KSp dg ca (sAct am S) 96 (gvE de pv pd S) (dE de pd) δ s t (M s t)) :
    ∃ δ', RGen dg ca (sIn de S') (sAct am S') 96 5 14 (gvE de pv pd S') (dE de pd) δ' ∧ RExa dg ca (sIn de S') (sAct am S') 96 5 14 (gvE de pv pd S') (dE de pd) δ' ∧ ∀ s t, s ≤ 5 → t ≤ 14 → KSp dg ca (sAct am S') 96 (gvE de pv pd S') (dE de pd) δ' s t (M s t + if de e ≤ t then K s (t - de e) else 0) := by
  have hA := hH.1
  have hM' := hH.2.2.1
  have hSe := hH.2.2.2.2.1
  have hS' := hH.2.2.2.2.2.1
  have hmF : ∀ s, IsMod dg ca (FIn dg (gvE de pv pd S' s) (dE de pd s)) (fact ca) := fun s => free_mod hA _ _
  have hmL : ∀ s, IsMod dg ca (InL dg (sIn de S') (gvE de pv pd S') (dE de pd) s) (acL ca (sAct am S') s) := fun s => modL hA hM' _ _ s
  -- valid in S' is valid in S or of the new element
  have hsplit : ∀ s g, gvE de pv pd S' s g = true → ¬ g / 8 = e → gvE de pv pd S s g = true := by
    intro s g h hne
    unfold gvE at h ⊢
    simp only [Bool.and_eq_true] at h ⊢
    refine ⟨?_, h.2⟩
    have := h.1
    rw [hS'] at this
    simpa [hne] using this
  refine Exists.elim (pickS (G := fun s b => (∀ g, gvE de pv pd S' s g = true → InL dg (sIn de S') (gvE de pv pd S') (dE de pd) s (dE de pd s g) (b g)) ∧ (∀ p, p < 8 → b (8 * e + p) = io e s (pδ s p)) ∧ (∀ g, gvE de pv pd S s g = true → ro e s (b g) = δ s g) ∧
      ∀ t, t ≤ 14 → ∀ r, FIn dg (gvE de pv pd S s) (dE de pd s) t r → Dm 96 ca (sAct am S) δ s r = e0 → ∃ p, FIn dg (gvE de pv pd S' s) (dE de pd s) t p ∧ onE e (s + 1) p ∧ fm 96 (acL ca (sAct am S') s) b (ex r p) = e0)
    (R := fun s b b' => ∀ g, gvE de pv pd S' (s + 1) g = true → fm 96 (acL ca (sAct am S') s) b (b' g) = e0) 5 ?_ ?_) (fun a ha => ?_)
  · -- the ground floor
    have g1 : ∀ g, gvE de pv pd S' 0 g = true → InL dg (sIn de S') (gvE de pv pd S') (dE de pd) 0 (dE de pd 0 g) (if g / 8 = e then io e 0 (pδ 0 (g % 8)) else δ 0 g) := by
      intro g h
      by_cases hge : g / 8 = e
      · rw [if_pos hge]
        intro a c hac
        have h' : (decide (a = e) && pδ 0 (g % 8) 0 c) = true := hac
        simp only [Bool.and_eq_true, decide_eq_true_eq] at h'
        unfold gvE at h
        simp only [Bool.and_eq_true] at h
        have h2 := (hP.1 0 (by decide) (g % 8) h.2.1).2.2 0 c h'.2
        refine ⟨h2.2.1, by rw [hS', h'.1]; simp, ?_⟩
        unfold dE
        rw [hge, h'.1, h2.2.2]
        rfl
      · rw [if_neg hge]
        intro a c hac
        have h2 := (hg.1 0 (by decide) g (hsplit 0 g h hge)).2.2 a c hac
        exact ⟨h2.1, by rw [hS', h2.2.1]; rfl, h2.2.2⟩
    have g2 : ∀ p, p < 8 → (fun g => if g / 8 = e then io e 0 (pδ 0 (g % 8)) else δ 0 g) (8 * e + p) = io e 0 (pδ 0 p) := by
      intro p hp
      show (if (8 * e + p) / 8 = e then _ else _) = _
      rw [if_pos (by omega), show (8 * e + p) % 8 = p by omega]
    have g3 : ∀ g, gvE de pv pd S 0 g = true → ro e 0 ((fun g => if g / 8 = e then io e 0 (pδ 0 (g % 8)) else δ 0 g) g) = δ 0 g := by
      intro g h
      have hne : ¬ g / 8 = e := by
        intro z
        unfold gvE at h
        simp only [Bool.and_eq_true] at h
        rw [z, hSe] at h
        exact absurd h.1 (by decide)
      show ro e 0 (if g / 8 = e then _ else _) = _
      rw [if_neg hne]
      funext a c
      show (δ 0 g a c && !decide (a = e)) = δ 0 g a c
      cases hc : δ 0 g a c
      · rfl
      · have h2 := (hg.1 0 (by decide) g h).2.2 a c hc
        have : ¬ a = e := fun z => by rw [z, hSe] at h2; exact absurd h2.2.1 (by decide)
        simp [this]
    refine ⟨fun g => if g / 8 = e then io e 0 (pδ 0 (g % 8)) else δ 0 g, g1, g2, g3, fun t ht r hr h0 => ?_⟩
    have hq : sIn de S' t (fm 96 (sAct am S') (fun g => if g / 8 = e then io e 0 (pδ 0 (g % 8)) else δ 0 g) r) := fm_in hM' g1 (sub_in hH hr)
    have ho : onE e 0 (fm 96 (sAct am S') (fun g => if g / 8 = e then io e 0 (pδ 0 (g % 8)) else δ 0 g) r) := onE_ro ((ro_fm (s := 0) hH g3 hr).trans h0)
    obtain ⟨y, hy1, hy2, hy3⟩ := on_onto (b := fun g => if g / 8 = e then io e 0 (pδ 0 (g % 8)) else δ 0 g) hH hP hPe hlt ht g2 hq ho
    refine ⟨y, hy1, hy2, ?_⟩
    show fm 96 (sAct am S') _ (ex r y) = e0
    rw [fm_add, hy3, ex_self]
  · -- the next floor
    intro s hs b hb
    obtain ⟨b1, b2, b3, b4⟩ := hb
    obtain ⟨q, hq⟩ := pick (P := fun g y => FIn dg (gvE de pv pd S' s) (dE de pd s) (dE de pd (s + 1) g) y ∧ onE e (s + 1) y ∧ fm 96 (acL ca (sAct am S') s) b (ex (δ (s + 1) g) y) = e0) (gv := gvE de pv pd S (s + 1)) (fun g h => by
      obtain ⟨c1, c2, c3⟩ := hg.1 (s + 1) (by omega) g h
      exact b4 _ c2 _ c3 (hg.2 s hs g h))
    have g1 : ∀ g, gvE de pv pd S' (s + 1) g = true → FIn dg (gvE de pv pd S' s) (dE de pd s) (dE de pd (s + 1) g) (if g / 8 = e then io e (s + 1) (pδ (s + 1) (g % 8)) else ex (δ (s + 1) g) (q g)) := by
      intro g h
      by_cases hge : g / 8 = e
      · rw [if_pos hge]
        unfold gvE at h
        simp only [Bool.and_eq_true, decide_eq_true_eq] at h
        have h2 := (hP.1 (s + 1) (by omega) (g % 8) h.2.1).2.2
        have h3 := io_in (de := de) hH hlt (t := pd (s + 1) (g % 8)) (by rw [← hge]; exact h.2.2) h2
        unfold dE
        rw [hge]
        exact h3
      · rw [if_neg hge]
        have hv := hsplit (s + 1) g h hge
        exact (hmF s).1 _ _ _ (sub_in hH (hg.1 (s + 1) (by omega) g hv).2.2) (hq g hv).1
    have g2 : ∀ p, p < 8 → (fun g => if g / 8 = e then io e (s + 1) (pδ (s + 1) (g % 8)) else ex (δ (s + 1) g) (q g)) (8 * e + p) = io e (s + 1) (pδ (s + 1) p) := by
      intro p hp
      show (if (8 * e + p) / 8 = e then _ else _) = _
      rw [if_pos (by omega), show (8 * e + p) % 8 = p by omega]
    have g3 : ∀ g, gvE de pv pd S (s + 1) g = true → ro e (s + 1) ((fun g => if g / 8 = e then io e (s + 1) (pδ (s + 1) (g % 8)) else ex (δ (s + 1) g) (q g)) g) = δ (s + 1) g := by
      intro g h
      have hne : ¬ g / 8 = e := by
        intro z
        unfold gvE at h
        simp only [Bool.and_eq_true] at h
        rw [z, hSe] at h
        exact absurd h.1 (by decide)
      show ro e (s + 1) (if g / 8 = e then _ else _) = _
      rw [if_neg hne, ro_ex, ro_id hH (hg.1 (s + 1) (by omega) g h).2.2, ro_on (hq g h).2.1, ex_0]
    have hR : ∀ g, gvE de pv pd S' (s + 1) g = true → fm 96 (acL ca (sAct am S') s) b ((fun g => if g / 8 = e then io e (s + 1) (pδ (s + 1) (g % 8)) else ex (δ (s + 1) g) (q g)) g) = e0 := by
      intro g h
      show fm 96 (acL ca (sAct am S') s) b (if g / 8 = e then _ else _) = e0
      by_cases hge : g / 8 = e
      · rw [if_pos hge]
        unfold gvE at h
        simp only [Bool.and_eq_true, decide_eq_true_eq] at h
        rw [fm_io hH hP (by omega) b2 (hP.1 (s + 1) (by omega) (g % 8) h.2.1).2.2, hP.2 s hs (g % 8) h.2.1, io_0]
      · rw [if_neg hge]
        exact (hq g (hsplit (s + 1) g h hge)).2.2
    refine ⟨_, ⟨g1, g2, g3, fun t ht r hr h0 => ?_⟩, hR⟩
    have hqi : FIn dg (gvE de pv pd S' s) (dE de pd s) t (fm 96 (fact ca) (fun g => if g / 8 = e then io e (s + 1) (pδ (s + 1) (g % 8)) else ex (δ (s + 1) g) (q g)) r) := fm_in (hmF s) g1 (sub_in hH hr)
    have ho : onE e (s + 1) (fm 96 (fact ca) (fun g => if g / 8 = e then io e (s + 1) (pδ (s + 1) (g % 8)) else ex (δ (s + 1) g) (q g)) r) := onE_ro ((ro_fm (s := s + 1) hH g3 hr).trans h0)
    have hz : fm 96 (acL ca (sAct am S') s) b (fm 96 (fact ca) (fun g => if g / 8 = e then io e (s + 1) (pδ (s + 1) (g % 8)) else ex (δ (s + 1) g) (q g)) r) = e0 := by
      refine (fm_fm (N := 96) (N' := 96) hA (hmL s) b1 g1 (sub_in hH hr)).trans ?_
      refine (fm_congr (N := 96) (sub_in hH hr) (y' := fun _ => e0) (fun g h => hR g h)).trans ?_
      exact fm_zero (hmL s).2.2.2.1 r
    obtain ⟨y, hy1, hy2, hy3⟩ := on_exact (b' := fun g => if g / 8 = e then io e (s + 1) (pδ (s + 1) (g % 8)) else ex (δ (s + 1) g) (q g)) hH hP hPe hlt hs ht b2 g2 hqi ho hz
    refine ⟨y, hy1, hy2, ?_⟩
    show fm 96 (fact ca) _ (ex r y) = e0
    have hy3' : fm 96 (fact ca) (fun g => if g / 8 = e then io e (s + 1) (pδ (s + 1) (g % 8)) else ex (δ (s + 1) g) (q g)) y = fm 96 (fact ca) (fun g => if g / 8 = e then io e (s + 1) (pδ (s + 1) (g % 8)) else ex (δ (s + 1) g) (q g)) r := hy3
    rw [fm_add, hy3', ex_self]
  · -- the whole
    obtain ⟨h1, h2⟩ := ha
    have hro : ∀ s, s ≤ 5 → ∀ t x, FIn dg (gvE de pv pd S' s) (dE de pd s) t x → Dm 96 ca (sAct am S') a s x = e0 → Dm 96 ca (sAct am S) δ s (ro e (s + 1) x) = e0 := by
      intro s hs t x hx h0
      have hp : FIn dg (gvE de pv pd S' s) (dE de pd s) t (ex x (ro e (s + 1) x)) := (hmF s).1 _ _ _ hx (sub_in hH (ro_in hH hx))
      have hpo : onE e (s + 1) (ex x (ro e (s + 1) x)) := onE_ro (by rw [ro_ex, ro_id hH (ro_in hH hx), ex_self])
      have e1 := ro_fm (s := s) hH (h1 s hs).2.2.1 (ro_in hH hx)
      have e2 : fm 96 (acL ca (sAct am S') s) (a s) (ro e (s + 1) x) = fm 96 (acL ca (sAct am S') s) (a s) (ex x (ro e (s + 1) x)) := by
        rw [fm_add, show fm 96 (acL ca (sAct am S') s) (a s) x = e0 from h0, e0_ex]
      rw [e2, ro_on (on_fm hH hP hs (h1 s hs).2.1 hp hpo)] at e1
      exact e1.symm
    refine ⟨a, ⟨fun s hs g h => ⟨?_, ?_, (h1 s hs).1 g h⟩, fun s hs g h => h2 s hs g h⟩, ⟨fun t ht m hm => ?_, fun s hs t ht x hx h0 => ?_⟩, fun s t hs ht => ?_⟩
    · unfold gvE at h
      simp only [Bool.and_eq_true] at h
      have := hH.2.2.2.2.2.2.1 _ h.1
      omega
    · unfold gvE at h
      simp only [Bool.and_eq_true, decide_eq_true_eq] at h
      exact h.2.2
    · -- onto
      have hrm : sIn de S t (ro e 0 m) := by
        intro a' c hac
        have h' : (m a' c && !decide (a' = e)) = true := hac
        simp only [Bool.and_eq_true, Bool.not_eq_true', decide_eq_false_iff_not] at h'
        obtain ⟨c1, c2, c3⟩ := hm a' c h'.1
        refine ⟨c1, ?_, c3⟩
        rw [hS'] at c2
        simpa [h'.2] using c2
      obtain ⟨r, hr, hr0⟩ := he.1 t ht _ hrm
      have hq : sIn de S' t (ex (fm 96 (sAct am S') (a 0) r) m) := hM'.1 _ _ _ (fm_in hM' (h1 0 (by decide)).1 (sub_in hH hr)) hm
      have hqo : onE e 0 (ex (fm 96 (sAct am S') (a 0) r) m) := onE_ro (by
        rw [ro_ex]
        have := ro_fm (s := 0) hH (h1 0 (by decide)).2.2.1 hr
        rw [show ro e 0 (fm 96 (sAct am S') (a 0) r) = ro e 0 m from this.trans hr0, ex_self])
      obtain ⟨y, hy1, hy2, hy3⟩ := on_onto hH hP hPe hlt ht (h1 0 (by decide)).2.1 hq hqo
      refine ⟨ex r y, (hmF 0).1 _ _ _ (sub_in hH hr) hy1, ?_⟩
      show fm 96 (sAct am S') (a 0) (ex r y) = m
      rw [fm_add, hy3, ← ex_assoc, ex_self, e0_ex]
    · -- exact
      obtain ⟨r, hr, hr0⟩ := he.2 s hs t ht _ (ro_in hH hx) (hro s (by omega) t x hx h0)
      have hq : FIn dg (gvE de pv pd S' s) (dE de pd s) t (ex (fm 96 (fact ca) (a (s + 1)) r) x) := (hmF s).1 _ _ _ (fm_in (hmF s) (h1 (s + 1) (by omega)).1 (sub_in hH hr)) hx
      have hqo : onE e (s + 1) (ex (fm 96 (fact ca) (a (s + 1)) r) x) := onE_ro (by
        rw [ro_ex]
        have := ro_fm (s := s + 1) hH (h1 (s + 1) (by omega)).2.2.1 hr
        rw [show ro e (s + 1) (fm 96 (fact ca) (a (s + 1)) r) = ro e (s + 1) x from this.trans hr0, ex_self])
      have hz : fm 96 (acL ca (sAct am S') s) (a s) (ex (fm 96 (fact ca) (a (s + 1)) r) x) = e0 := by
        rw [fm_add, show fm 96 (acL ca (sAct am S') s) (a s) x = e0 from h0, ex_0]
        refine (fm_fm (N := 96) (N' := 96) hA (hmL s) (h1 s (by omega)).1 (h1 (s + 1) (by omega)).1 (sub_in hH hr)).trans ?_
        refine (fm_congr (N := 96) (sub_in hH hr) (y' := fun _ => e0) (fun g h => h2 s hs g h)).trans ?_
        exact fm_zero (hmL s).2.2.2.1 r
      obtain ⟨y, hy1, hy2, hy3⟩ := on_exact hH hP hPe hlt hs ht (h1 s (by omega)).2.1 (h1 (s + 1) (by omega)).2.1 hq hqo hz
      refine ⟨ex r y, (hmF (s + 1)).1 _ _ _ (sub_in hH hr) hy1, ?_⟩
      show fm 96 (fact ca) (a (s + 1)) (ex r y) = x
      have hy3' : fm 96 (fact ca) (a (s + 1)) y = ex (fm 96 (fact ca) (a (s + 1)) r) x := hy3
      rw [fm_add, hy3', ← ex_assoc, ex_self, e0_ex]
    · -- what goes to nothing
      obtain ⟨w, w1, w2⟩ := hk s t hs ht
      obtain ⟨V, V1, V2⟩ := on_ker hH hP hlt hPk hs ht (h1 s hs).2.1
      obtain ⟨q, hq⟩ := pick (P := fun i y => FIn dg (gvE de pv pd S' s) (dE de pd s) t y ∧ onE e (s + 1) y ∧ fm 96 (acL ca (sAct am S') s) (a s) (ex (w i) y) = e0) (gv := fun i => decide (i < M s t)) (fun i h =>
        (h1 s hs).2.2.2 t ht (w i) (w1 i (of_decide_eq_true h)).1 (w1 i (of_decide_eq_true h)).2)
      refine ⟨fun i => if i < M s t then ex (w i) (q i) else V (i - M s t), fun i hi => ?_, fun x hx h0 => ?_⟩
      · dsimp only
        by_cases him : i < M s t
        · rw [if_pos him]
          have hqi := hq i (decide_eq_true him)
          exact ⟨(hmF s).1 _ _ _ (sub_in hH (w1 i him).1) hqi.1, hqi.2.2⟩
        · rw [if_neg him]
          exact V1 (i - M s t) (by omega)
      · obtain ⟨c, hc⟩ := w2 _ (ro_in hH hx) (hro s hs t x hx h0)
        have hWin : FIn dg (gvE de pv pd S' s) (dE de pd s) t (es (M s t) c (fun i => ex (w i) (q i))) := in_es (hmF s).1 (hmF s).2.1 (fun i hi _ => (hmF s).1 _ _ _ (sub_in hH (w1 i hi).1) (hq i (decide_eq_true hi)).1)
        have hWker : fm 96 (acL ca (sAct am S') s) (a s) (es (M s t) c (fun i => ex (w i) (q i))) = e0 := by
          rw [add_es (fm_add 96 (acL ca (sAct am S') s) (a s)) (fm_0 96 (acL ca (sAct am S') s) (a s))]
          funext a' b'
          unfold es
          refine xs_zero' (fun i hi => ?_)
          show (c i && fm 96 (acL ca (sAct am S') s) (a s) (ex (w i) (q i)) a' b') = false
          rw [(hq i (decide_eq_true hi)).2.2]
          exact Bool.and_false _
        have hWro : ro e (s + 1) (es (M s t) c (fun i => ex (w i) (q i))) = ro e (s + 1) x := by
          rw [add_es (ro_ex e (s + 1)) (ro_on (fun _ _ h => (by cases h)))]
          rw [hc]
          funext a' b'
          unfold es
          apply xs_congr
          intro i hi
          show (c i && ro e (s + 1) (ex (w i) (q i)) a' b') = (c i && w i a' b')
          rw [ro_ex, ro_id hH (w1 i hi).1, ro_on (hq i (decide_eq_true hi)).2.1, ex_0]
        have hxi : FIn dg (gvE de pv pd S' s) (dE de pd s) t (ex x (es (M s t) c (fun i => ex (w i) (q i)))) := (hmF s).1 _ _ _ hx hWin
        obtain ⟨c', hc'⟩ := V2 _ hxi (onE_ro (by rw [ro_ex, hWro, ex_self])) (by rw [fm_add, hWker, show fm 96 (acL ca (sAct am S') s) (a s) x = e0 from h0, ex_0])
        refine ⟨fun i => if i < M s t then c i else c' (i - M s t), ?_⟩
        rw [es_two, ← hc', ex_comm x, ← ex_assoc, ex_self, e0_ex]
end STEP
