/-! one floor in one degree: the tower goes on -/
def WFg (de : Nat → Nat) (n : Nat) (G : Nat → Nat) (d : Nat → Nat → Nat) (gb : Nat → Nat → Nat → Bool) : Prop :=
  (∀ a, a < G 0 → ∀ q, gb 0 a q = true → q < n ∧ de q = d 0 a) ∧ ∀ s, s < 5 → ∀ a, a < G (s + 1) → ∀ q, flP aS (d s) (d (s + 1) a) (G s) ≤ q → gb (s + 1) a q = false
theorem isK_spn {de : Nat → Nat} {am : Nat → Nat → Nat → Bool} {n : Nat} {G : Nat → Nat} {d : Nat → Nat → Nat} {gb : Nat → Nat → Nat → Bool} {t s m : Nat} {z : Nat → Nat → Bool} {f : Nat → Bool} (hf : Spn m z f) (h : ∀ i, i < m → isK de am n G d gb t s (z i)) : isK de am n G d gb t s f := by
  obtain ⟨c, rfl⟩ := hf
  exact isK_vc h
theorem wd_self (t : Nat) : wd t t = 1 ∧ bs t t = 0 := by
  unfold wd bs
  rw [show (t : Int) - (t : Int) = 0 by omega]
  exact ⟨by decide, by decide⟩
theorem isK_in {de : Nat → Nat} {am : Nat → Nat → Nat → Bool} {n : Nat} {G : Nat → Nat} {d : Nat → Nat → Nat} {gb : Nat → Nat → Nat → Bool} {t s : Nat} {f : Nat → Bool} (h : isK de am n G d gb t s f) : InL dgA (sIn de (sA n)) (gvG G) d s t (lcE G d t s f) := by
  cases s with
  | zero =>
    intro a b hab
    have hab' : (decide (b = 0) && f a) = true := hab
    simp only [Bool.and_eq_true, decide_eq_true_eq] at hab'
    obtain ⟨h1, h2⟩ := h a hab'.2
    exact ⟨hab'.1, decide_eq_true h1, h2⟩
  | succ s => exact tE_fin _ _ _ _
theorem isK_sup {de : Nat → Nat} {am : Nat → Nat → Nat → Bool} {n : Nat} {G : Nat → Nat} {d : Nat → Nat → Nat} {gb : Nat → Nat → Nat → Bool} {t s : Nat} {f : Nat → Bool} (hn : n ≤ 12) (h : isK de am n G d gb t s f) : ∀ q, gpl aS G d t s ≤ q → f q = false := by
  cases s with
  | zero =>
    intro q hq
    have hq' : 12 ≤ q := hq
    cases hb : f q
    · rfl
    · have := (h q hb).1
      omega
  | succ s => exact h.1
section STEP
variable {A : Nat → Nat → Nat} {n : Nat} {de : Nat → Nat} {t s : Nat} {G0 G G' : Nat → Nat} {d0 d d' : Nat → Nat → Nat} {gb0 gb gb' : Nat → Nat → Nat → Bool}
/-- what floor s starts from -/
def Pre (A : Nat → Nat → Nat) (n : Nat) (de : Nat → Nat) (t s : Nat) (G0 : Nat → Nat) (d0 : Nat → Nat → Nat) (gb0 : Nat → Nat → Nat → Bool) (G : Nat → Nat) (d : Nat → Nat → Nat) (gb : Nat → Nat → Nat → Bool) : Prop :=
  Tow de (amC A n) n 6 t G0 d0 gb0 ∧ (∀ s', s' < 6 → ExtR t G0 d0 gb0 G d gb s') ∧ (∀ s', s ≤ s' → s' < 6 → G s' = G0 s') ∧ WFg de n G d gb ∧ Tow de (amC A n) n s (t + 1) G d gb
theorem old_goal (hs : s + 1 < 6) (h : Pre A n de t (s + 1) G0 d0 gb0 G d gb) {a : Nat} (ha : a < G (s + 1)) : DmG (amC A n) n G d gb s (dlt G d gb (s + 1) a) = e0 := by
  obtain ⟨h1, h2, h3, h4, h5⟩ := h
  have ha0 : a < G0 (s + 1) := by rw [← h3 (s + 1) (Nat.le_refl _) hs]; exact ha
  rw [ext_dlt (fun s' hs' => h2 s' (by omega)) ha0]
  have hin := (h1.1 (s + 1) hs a ha0).2.2
  rw [ext_dm (fun s' hs' => h2 s' (by omega)) hin]
  exact h1.2.1 s hs a ha0
theorem dv_isK (hA : SpOK A n de) (hR : RuleOn A n) (ht : t ≤ 14) (hs : s < 6) (h : Pre A n de t s G0 d0 gb0 G d gb) {p : Nat} (hp : p < flP aS (d s) t (G s)) : isK de (amC A n) n G d gb t s (dvS aS aN aGP A n G d gb t s p) := by
  have hM := sp_mod_all (sound_sp hA hR)
  obtain ⟨a, k, ha, hk, rfl⟩ := pl_dec (d s) t (G s) p hp
  obtain ⟨c1, c2⟩ := dv_code (gb := gb) (s := s) hA ht h.2.2.2.1.1 ha hk
  have h61 := bs_61 t (d s a)
  have hc : bs t (d s a) + k < 61 := by omega
  have hcd := (bs_iff (t := t) (d := d s a) hc).mpr ⟨by omega, by omega⟩
  cases s with
  | zero =>
    intro q hq
    have hin : sIn de (sA n) (d 0 a + dgA (bs t (d 0 a) + k)) (sAct (amC A n) (sA n) (bs t (d 0 a) + k) (elE (gb 0 a))) := hM.2.2.2.2.1 _ _ _ hc (fun a' b' hab => by
      have hab' : (decide (b' = 0) && gb 0 a a') = true := hab
      simp only [Bool.and_eq_true, decide_eq_true_eq] at hab'
      obtain ⟨h1, h2⟩ := h.2.2.2.1.1 a ha a' hab'.2
      exact ⟨hab'.1, decide_eq_true h1, h2⟩)
    rw [show sAct (amC A n) (sA n) (bs t (d 0 a) + k) (elE (gb 0 a)) = elE (dvS aS aN aGP A n G d gb t 0 (flP aS (d 0) t a + k)) from c1.symm, hcd] at hin
    obtain ⟨-, g2, g3⟩ := hin q 0 (show (decide (0 = 0) && _) = true by rw [hq]; rfl)
    exact ⟨of_decide_eq_true g2, g3⟩
  | succ s =>
    refine ⟨c2, ?_⟩
    rw [show tE (d s) (G s) t (dvS aS aN aGP A n G d gb t (s + 1) (flP aS (d (s + 1)) t a + k)) = fact caA (bs t (d (s + 1) a) + k) (dlt G d gb (s + 1) a) from c1]
    have hmod := modL algA hM (gvG G) d s
    have hin : FIn dgA (gvG G s) (d s) (d (s + 1) a) (dlt G d gb (s + 1) a) := tE_fin _ _ _ _
    have h0 := old_goal hs h ha
    unfold DmG Dm at h0 ⊢
    rw [fm_act (dg := dgA) (gv := gvG G s) (d := d s) hmod (fun g hg => (h.2.2.2.2.1 s (Nat.lt_succ_self s) g (of_decide_eq_true hg)).2.2) hc hin, h0]
    exact hmod.2.2.2.1 _
/-- floor s, done -/
theorem tow_step (hA : SpOK A n de) (hR : RuleOn A n) (ht : t ≤ 14) (hs : s < 6) (h : Pre A n de t s G0 d0 gb0 G d gb) {B : Nat} {bl : Nat → Nat → Bool} (hb1 : ∀ j, j < B → isK de (amC A n) n G d gb t s (bl j)) (hb2 : ∀ f, isK de (amC A n) n G d gb t s f → Spn B bl f)
    {C K m : Nat} {v sr nb w : Nat → Nat → Bool} (hF : FlR (dvS aS aN aGP A n G d gb t s) (flP aS (d s) t (G s)) C K v sr nb) (hI : Ind (C + m) w) (hw : ∀ i, i < C → w i = v i) (hn1 : ∀ i, i < m → Spn (C + B) (vap C v bl) (w (C + i))) (hn2 : ∀ j, j < B → Spn (C + m) w (bl j)) (hN : G s + m ≤ 300)
    (hG' : G' = fup G s (G s + m)) (hd' : d' = fup d s (fun j => if G s ≤ j ∧ j < G s + m then t else d s j)) (hg1 : ∀ s', s' ≠ s → gb' s' = gb s') (hg2 : ∀ a, a < G s → gb' s a = gb s a) (hg3 : ∀ i, i < m → gb' s (G s + i) = w (C + i)) :
    Pre A n de t (s + 1) G0 d0 gb0 G' d' gb' ∧ (∀ j, j < K → isK de (amC A n) n G' d' gb' t (s + 1) (nb j)) ∧ (∀ f, isK de (amC A n) n G' d' gb' t (s + 1) f → Spn K nb f) ∧ (∀ i, i < C + m → isK de (amC A n) n G d gb t s (w i)) := by
  have hM := sp_mod_all (sound_sp hA hR)
  have hn12 := hA.1
  obtain ⟨h1, h2, h3, h4, h5⟩ := id h
  -- the new data
  have eGs : G' s = G s + m := by rw [hG']; unfold fup; rw [if_pos rfl]
  have eGn : ∀ s', s' ≠ s → G' s' = G s' := fun s' hne => by rw [hG']; unfold fup; rw [if_neg hne]
  have eds : ∀ j, d' s j = if G s ≤ j ∧ j < G s + m then t else d s j := fun j => by rw [hd']; unfold fup; rw [if_pos rfl]
  have edn : ∀ s', s' ≠ s → d' s' = d s' := fun s' hne => by rw [hd']; unfold fup; rw [if_neg hne]
  have ed1 : ∀ j, j < G s → d' s j = d s j := fun j hj => by rw [eds, if_neg (by omega)]
  have ed2 : ∀ i, i < m → d' s (G s + i) = t := fun i hi => by rw [eds, if_pos (by omega)]
  have eP1 : ∀ a, a ≤ G s → flP aS (d' s) t a = flP aS (d s) t a := fun a ha => ns_congr fun i hi => by rw [ed1 i (by omega)]
  have eP2 : ∀ i, i ≤ m → flP aS (d' s) t (G s + i) = flP aS (d s) t (G s) + i := by
    intro i
    induction i with
    | zero => intro _; exact eP1 (G s) (Nat.le_refl _)
    | succ i ih =>
      intro hi
      rw [show G s + (i + 1) = G s + i + 1 from rfl, flP_succ, ih (by omega), ed2 i (by omega), (wd_self t).1]
      rfl
  have eP : flP aS (d' s) t (G' s) = flP aS (d s) t (G s) + m := by rw [eGs]; exact eP2 m (Nat.le_refl m)
  have hsame : ∀ s', s' < s → dlt G' d' gb' s' = dlt G d gb s' := fun s' hs' => by
    funext a
    cases s' with
    | zero =>
      show elE (gb' 0 a) = elE (gb 0 a)
      rw [hg1 0 (by omega)]
    | succ s' =>
      show tE (d' s') (G' s') (d' (s' + 1) a) (gb' (s' + 1) a) = tE (d s') (G s') (d (s' + 1) a) (gb (s' + 1) a)
      rw [edn s' (by omega), eGn s' (by omega), edn (s' + 1) (by omega), hg1 (s' + 1) (by omega)]
  have hDm : ∀ s', s' < s → DmG (amC A n) n G' d' gb' s' = DmG (amC A n) n G d gb s' := fun s' hs' => by
    unfold DmG Dm
    rw [hsame s' hs']
  have hFn : ∀ s', s' ≠ s → ∀ t' x, FIn dgA (gvG G' s') (d' s') t' x = FIn dgA (gvG G s') (d s') t' x := fun s' hne t' x => by
    unfold gvG
    rw [eGn s' hne, edn s' hne]
  have hIn : ∀ s', s' ≤ s → ∀ t' x, InL dgA (sIn de (sA n)) (gvG G') d' s' t' x = InL dgA (sIn de (sA n)) (gvG G) d s' t' x := fun s' hs' t' x => by
    cases s' with
    | zero => rfl
    | succ s' => exact hFn s' (by omega) t' x
  have hlc : ∀ t' f, lcE G' d' t' s f = lcE G d t' s f := fun t' f => by
    cases s with
    | zero => rfl
    | succ s =>
      show tE (d' s) (G' s) t' f = tE (d s) (G s) t' f
      rw [edn s (by omega), eGn s (by omega)]
  have dl1 : ∀ a, a < G s → dlt G' d' gb' s a = dlt G d gb s a := fun a ha => by
    cases s with
    | zero =>
      show elE (gb' 0 a) = elE (gb 0 a)
      rw [hg2 a ha]
    | succ s =>
      show tE (d' s) (G' s) (d' (s + 1) a) (gb' (s + 1) a) = tE (d s) (G s) (d (s + 1) a) (gb (s + 1) a)
      rw [edn s (by omega), eGn s (by omega), ed1 a ha, hg2 a ha]
  have dl2 : ∀ i, i < m → dlt G' d' gb' s (G s + i) = lcE G d t s (w (C + i)) := fun i hi => by
    cases s with
    | zero =>
      show elE (gb' 0 (G 0 + i)) = elE (w (C + i))
      rw [hg3 i hi]
    | succ s =>
      show tE (d' s) (G' s) (d' (s + 1) (G (s + 1) + i)) (gb' (s + 1) (G (s + 1) + i)) = tE (d s) (G s) t (w (C + i))
      rw [edn s (by omega), eGn s (by omega), ed2 i hi, hg3 i hi]
  -- what is reached goes to nothing below
  have hdv : ∀ p, p < flP aS (d s) t (G s) → isK de (amC A n) n G d gb t s (dvS aS aN aGP A n G d gb t s p) := fun p hp => dv_isK hA hR ht hs h hp
  have hvK : ∀ i, i < C → isK de (amC A n) n G d gb t s (v i) := fun i hi => by
    rw [hF.2.1 i hi]
    exact isK_vc hdv
  have hwK : ∀ i, i < m → isK de (amC A n) n G d gb t s (w (C + i)) := fun i hi => isK_spn (hn1 i hi) (fun j hj => by
    rcases Nat.lt_or_ge j C with g | g
    · rw [vap_l g]; exact hvK j g
    · have := hb1 (j - C) (by omega)
      rw [← vap_r (C := C) (j - C) v bl, show C + (j - C) = j by omega] at this
      exact this)
  have hwA : ∀ i, i < C + m → isK de (amC A n) n G d gb t s (w i) := fun i hi => by
    rcases Nat.lt_or_ge i C with g | g
    · rw [hw i g]; exact hvK i g
    · have := hwK (i - C) (by omega)
      rw [show C + (i - C) = i by omega] at this
      exact this
  -- the map by places
  have hD : ∀ f, DmG (amC A n) n G' d' gb' s (tE (d' s) (G' s) t f) = lcE G d t s (vc (flP aS (d s) t (G s) + m) f (dvN (dvS aS aN aGP A n G d gb t s) (flP aS (d s) t (G s)) C w)) := fun f => by
    rw [lcE_vc, ← eP]
    unfold DmG Dm
    refine fm_tE (by rw [eGs]; exact hN) (d' s) _ _ f (fun p => lcE G d t s (dvN (dvS aS aN aGP A n G d gb t s) (flP aS (d s) t (G s)) C w p)) (fun a k ha hk => ?_)
    rw [eGs] at ha
    rcases Nat.lt_or_ge a (G s) with g | g
    · rw [ed1 a g] at hk ⊢
      rw [eP1 a (by omega), dl1 a g, ← (dv_code (gb := gb) hA ht h4.1 g hk).1]
      unfold dvN
      rw [vap_l (pl_lt g hk)]
    · have e2 := ed2 (a - G s) (by omega)
      have e3 := eP2 (a - G s) (by omega)
      have e4 := dl2 (a - G s) (by omega)
      rw [show G s + (a - G s) = a by omega] at e2 e3 e4
      rw [e2, (wd_self t).1] at hk
      rw [e2, e3, e4, (wd_self t).2, show k = 0 by omega, Nat.add_zero, Nat.add_zero]
      unfold dvN
      rw [vap_r]
      exact ((modL algA hM (gvG G) d s).2.2.2.2.2.1 t _ (isK_in (hwK _ (by omega)))).symm
  have hsup : ∀ f q, gpl aS G d t s ≤ q → vc (flP aS (d s) t (G s) + m) f (dvN (dvS aS aN aGP A n G d gb t s) (flP aS (d s) t (G s)) C w) q = false := fun f q hq => xs_zero' fun p hp => by
    have : dvN (dvS aS aN aGP A n G d gb t s) (flP aS (d s) t (G s)) C w p q = false := by
      unfold dvN
      rcases Nat.lt_or_ge p (flP aS (d s) t (G s)) with g | g
      · rw [vap_l g]
        exact isK_sup hn12 (hdv p g) q hq
      · rw [show p = flP aS (d s) t (G s) + (p - flP aS (d s) t (G s)) by omega, vap_r]
        exact isK_sup hn12 (hwK _ (by omega)) q hq
    rw [this, Bool.and_false]
  have hker : ∀ f, (∀ p, flP aS (d s) t (G s) + m ≤ p → f p = false) → DmG (amC A n) n G' d' gb' s (tE (d' s) (G' s) t f) = e0 → (∀ i, i < m → f (flP aS (d s) t (G s) + i) = false) ∧ Spn K nb f := fun f hf h0 => by
    rw [hD f] at h0
    exact flr_ker hF hI hw hf (lcE_inj (de := de) (am := amC A n) (gb := gb) (n := n) (hsup f) h0)
  have himg : ∀ f, isK de (amC A n) n G d gb t s f → ∃ f', (∀ p, flP aS (d s) t (G s) + m ≤ p → f' p = false) ∧ DmG (amC A n) n G' d' gb' s (tE (d' s) (G' s) t f') = lcE G d t s f := fun f hf => by
    obtain ⟨f', e1, e2⟩ := flr_img hF hw (spn_trans (hb2 f hf) hn2)
    exact ⟨f', e1, by rw [hD, e2]⟩
  have hfin : ∀ f, FIn dgA (gvG G' s) (d' s) t (tE (d' s) (G' s) t f) := fun f => tE_fin _ _ _ _
  have hext : ∀ s', s' < 6 → ExtR t G0 d0 gb0 G' d' gb' s' := fun s' hs' => by
    by_cases e : s' = s
    · subst e
      obtain ⟨x1, x2, x3⟩ := h2 s' hs'
      have x4 := h3 s' (Nat.le_refl _) hs'
      refine ⟨by rw [eGs]; omega, fun a ha => ?_, fun a ha1 ha2 => ?_⟩
      · rw [ed1 a (by omega), hg2 a (by omega)]
        exact x2 a ha
      · rw [eGs] at ha2
        rw [eds, if_pos (by omega)]
    · unfold ExtR
      rw [eGn s' e, edn s' e, hg1 s' e]
      exact h2 s' hs'
  have hTow : Tow de (amC A n) n (s + 1) (t + 1) G' d' gb' := by
    refine ⟨fun s' hs' a ha => ?_, fun s' hs' a ha => ?_, fun _ t' ht' x hx => ?_, fun s' hs' t' ht' x hx h0 => ?_, fun s' hs' t' ht' x hx h0 => ?_⟩
    · by_cases e : s' = s
      · subst e
        rw [eGs] at ha
        refine ⟨by omega, ?_, ?_⟩
        · rcases Nat.lt_or_ge a (G s') with g | g
          · have := h3 s' (Nat.le_refl _) hs
            have := (h2 s' hs).2.1 a (by omega)
            rw [ed1 a g]
            omega
          · have := ed2 (a - G s') (by omega)
            rw [show G s' + (a - G s') = a by omega] at this
            omega
        · rw [hIn s' (Nat.le_refl _)]
          rcases Nat.lt_or_ge a (G s') with g | g
          · rw [ed1 a g, dl1 a g]
            have x4 := h3 s' (Nat.le_refl _) hs
            cases s' with
            | zero =>
              intro a' b' hab
              have hab' : (decide (b' = 0) && gb 0 a a') = true := hab
              simp only [Bool.and_eq_true, decide_eq_true_eq] at hab'
              obtain ⟨y1, y2⟩ := h4.1 a g a' hab'.2
              exact ⟨hab'.1, decide_eq_true y1, y2⟩
            | succ s' => exact tE_fin _ _ _ _
          · have e2 := ed2 (a - G s') (by omega)
            have e4 := dl2 (a - G s') (by omega)
            rw [show G s' + (a - G s') = a by omega] at e2 e4
            rw [e2, e4]
            exact isK_in (hwK _ (by omega))
      · have hs2 : s' < s := by omega
        rw [eGn s' e] at ha
        rw [hIn s' (by omega), edn s' e, hsame s' hs2]
        exact h5.1 s' hs2 a ha
    · by_cases e : s' + 1 = s
      · subst e
        rw [hDm s' (by omega)]
        rw [eGs] at ha
        rcases Nat.lt_or_ge a (G (s' + 1)) with g | g
        · rw [dl1 a g]
          exact old_goal hs h g
        · have e4 := dl2 (a - G (s' + 1)) (by omega)
          rw [show G (s' + 1) + (a - G (s' + 1)) = a by omega] at e4
          rw [e4]
          exact (hwK _ (by omega)).2
      · rw [hDm s' (by omega), hsame (s' + 1) (by omega)]
        rw [eGn (s' + 1) e] at ha
        exact h5.2.1 s' (by omega) a ha
    · by_cases e : s = 0
      · subst e
        by_cases e2 : t' = t
        · subst e2
          have hx0 : x = elE (fun q => x q 0) := by
            funext a b
            show x a b = (decide (b = 0) && x a 0)
            by_cases hb : b = 0
            · rw [hb, decide_eq_true rfl, Bool.true_and]
            · rw [decide_eq_false hb, Bool.false_and]
              cases hz : x a b
              · rfl
              · exact absurd (hx a b hz).1 hb
          obtain ⟨f', k1, k2⟩ := himg (fun q => x q 0) (fun q hq => ⟨of_decide_eq_true (hx q 0 hq).2.1, (hx q 0 hq).2.2⟩)
          exact ⟨_, hfin f', k2.trans hx0.symm⟩
        · obtain ⟨y, y1, y2⟩ := h1.2.2.1 (by decide) t' (by omega) x hx
          exact ⟨y, ext_fin (hext 0 (by decide)) y1, by rw [ext_dm (fun s' hs' => hext s' (by omega)) y1]; exact y2⟩
      · obtain ⟨y, y1, y2⟩ := h5.2.2.1 (by omega) t' ht' x hx
        exact ⟨y, by rw [hFn 0 (by omega)]; exact y1, by rw [hDm 0 (by omega)]; exact y2⟩
    · rw [hFn s' (by omega)] at hx
      rw [hDm s' (by omega)] at h0
      by_cases e : s' + 1 = s
      · subst e
        by_cases e2 : t' = t
        · subst e2
          obtain ⟨f, k1, k2⟩ := tE_sur hx
          rw [← k2] at h0
          obtain ⟨f', k3, k4⟩ := himg f ⟨k1, h0⟩
          exact ⟨_, hfin f', k4.trans k2⟩
        · have hxo := ext_fin' (h2 s' (by omega)) (by omega) hx
          rw [ext_dm (fun s'' hs'' => h2 s'' (by omega)) hxo] at h0
          obtain ⟨y, y1, y2⟩ := h1.2.2.2.1 s' (by omega) t' (by omega) x hxo h0
          exact ⟨y, ext_fin (hext (s' + 1) hs) y1, by rw [ext_dm (fun s'' hs'' => hext s'' (by omega)) y1]; exact y2⟩
      · obtain ⟨y, y1, y2⟩ := h5.2.2.2.1 s' (by omega) t' ht' x hx h0
        exact ⟨y, by rw [hFn (s' + 1) (by omega)]; exact y1, by rw [hDm (s' + 1) (by omega)]; exact y2⟩
    · by_cases e : s' = s
      · subst e
        by_cases e2 : t' = t
        · subst e2
          obtain ⟨f, k1, k2⟩ := tE_sur hx
          rw [← k2] at h0
          have hz := (hker f (fun p hp => k1 p (by rw [eP]; exact hp)) h0).1
          intro g
          rw [← k2]
          cases hb : tE (d' s') (G' s') t' f g 0
          · rfl
          · obtain ⟨g1, g2, g3, g4⟩ := tE_in hb
            have g3' : d' s' g = t' := by rw [show dgA 0 = 0 from rfl, Nat.add_zero] at g3; exact g3
            rw [eGs] at g1
            rcases Nat.lt_or_ge g (G s') with z | z
            · have := h3 s' (Nat.le_refl _) hs
              have := (h2 s' hs).2.1 g (by omega)
              rw [ed1 g z] at g3'
              omega
            · have e3 := eP2 (g - G s') (by omega)
              rw [show G s' + (g - G s') = g by omega] at e3
              rw [g3', (wd_self t').2, e3, Nat.sub_zero, Nat.add_zero, hz _ (by omega)] at g4
              cases g4
        · have hxo := ext_fin' (hext s' hs) (by omega) hx
          rw [ext_dm (fun s'' hs'' => hext s'' (by omega)) hxo] at h0
          exact h1.2.2.2.2 s' hs t' (by omega) x hxo h0
      · rw [hFn s' e] at hx
        rw [hDm s' (by omega)] at h0
        exact h5.2.2.2.2 s' (by omega) t' ht' x hx h0
  have hWF : WFg de n G' d' gb' := by
    refine ⟨fun a ha q hq => ?_, fun s' hs' a ha q hq => ?_⟩
    · by_cases e : s = 0
      · subst e
        rw [eGs] at ha
        rcases Nat.lt_or_ge a (G 0) with g | g
        · rw [hg2 a g] at hq
          rw [ed1 a g]
          exact h4.1 a g q hq
        · have e2 := ed2 (a - G 0) (by omega)
          have e4 := hg3 (a - G 0) (by omega)
          rw [show G 0 + (a - G 0) = a by omega] at e2 e4
          rw [e4] at hq
          rw [e2]
          exact hwK _ (by omega) q hq
      · rw [eGn 0 (fun z => e z.symm)] at ha
        rw [hg1 0 (fun z => e z.symm)] at hq
        rw [edn 0 (fun z => e z.symm)]
        exact h4.1 a ha q hq
    · by_cases e : s' + 1 = s
      · subst e
        rw [eGs] at ha
        rw [edn s' (by omega), eGn s' (by omega)] at hq
        rcases Nat.lt_or_ge a (G (s' + 1)) with g | g
        · rw [hg2 a g]
          rw [ed1 a g] at hq
          exact h4.2 s' hs' a g q hq
        · have e2 := ed2 (a - G (s' + 1)) (by omega)
          have e4 := hg3 (a - G (s' + 1)) (by omega)
          rw [show G (s' + 1) + (a - G (s' + 1)) = a by omega] at e2 e4
          rw [e4]
          rw [e2] at hq
          exact (hwK _ (by omega)).1 q hq
      · rw [hg1 (s' + 1) e]
        rw [eGn (s' + 1) e] at ha
        rw [edn (s' + 1) e] at hq
        refine h4.2 s' hs' a ha q (Nat.le_trans ?_ hq)
        by_cases e2 : s' = s
        · subst e2
          rw [eGs]
          refine Nat.le_trans (Nat.le_of_eq (ns_congr fun i hi => ?_)) (flP_mono aS (d' s') _ (G s') (G s' + m) (by omega))
          rw [ed1 i hi]
        · rw [edn s' e2, eGn s' e2]
          exact Nat.le_refl _
  refine ⟨⟨h1, hext, fun s' g1 g2 => by rw [eGn s' (by omega)]; exact h3 s' (by omega) g2, hWF, hTow⟩, fun j hj => ?_, fun f hf => ?_, hwA⟩
  · obtain ⟨k1, k2⟩ := flr_ker' (m := m) (w := w) hF (spn_mem hj nb)
    refine ⟨fun q hq => k2 q (by rw [eP] at hq; omega), ?_⟩
    rw [hD, k1]
    exact lcE_v0 _ _ _ _
  · obtain ⟨f1, f2⟩ := hf
    exact (hker f (fun p hp => f1 p (by rw [eP]; exact hp)) f2).2
end STEP
