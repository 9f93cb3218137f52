/-! the tower, degree by degree: all bounds hold -/
theorem sod_bit (f : Nat → Int) (x : Int) : ∀ n e, (sod f x n).testBit e = (decide (e < n) && decide (f e = x)) := by
  intro n
  induction n with
  | zero => intro e; rw [show sod f x 0 = 0 from rfl, Nat.zero_testBit, decide_eq_false (by omega), Bool.false_and]
  | succ n ih =>
    intro e
    have hlt := sod_lt f x n
    rw [sod_succ]
    by_cases h : f n = x
    · rw [if_pos h]
      have h2 := Nat.two_pow_add_eq_or_of_lt hlt 1
      rw [Nat.mul_one] at h2
      rw [Nat.add_comm, h2, Nat.testBit_or, Nat.testBit_two_pow, ih e]
      by_cases e1 : e = n
      · rw [e1, decide_eq_true rfl, decide_eq_true (Nat.lt_succ_self n), decide_eq_true h]
        rfl
      · rw [decide_eq_false (fun z => e1 z.symm), Bool.false_or]
        congr 1
        exact decide_eq_decide.mpr ⟨fun z => by omega, fun z => by omega⟩
    · rw [if_neg h, Nat.add_zero, ih e]
      by_cases e1 : e = n
      · rw [e1, decide_eq_false h, Bool.and_false, Bool.and_false]
      · congr 1
        exact decide_eq_decide.mpr ⟨fun z => by omega, fun z => by omega⟩
theorem Tow.less {de : Nat → Nat} {am : Nat → Nat → Nat → Bool} {n Sn Sn' T0 : Nat} {G : Nat → Nat} {d : Nat → Nat → Nat} {gb : Nat → Nat → Nat → Bool} (h : Tow de am n Sn T0 G d gb) (hS : Sn' ≤ Sn) : Tow de am n Sn' T0 G d gb :=
  ⟨fun s hs => h.1 s (by omega), fun s hs => h.2.1 s (by omega), fun h0 => h.2.2.1 (by omega), fun s hs => h.2.2.2.1 s (by omega), fun s hs => h.2.2.2.2 s (by omega)⟩
theorem spn_v0 {ι : Type} (n : Nat) (w : Nat → ι → Bool) : Spn n w v0 := ⟨fun _ => false, (vc_0 n w).symm⟩
section TI
variable {A : Nat → Nat → Nat} {n : Nat} {de : Nat → Nat} {t : Nat}
def TIc (A : Nat → Nat → Nat) (n : Nat) (de : Nat → Nat) : TIx := fun t G d gb => Tow de (amC A n) n 6 t G d gb ∧ WFg de n G d gb ∧ ∀ s, s < 6 → G s ≤ 72
def DIc (A : Nat → Nat → Nat) (n : Nat) (de : Nat → Nat) (t : Nat) : DIx := fun s G d gb B bl => ∃ G0 d0 gb0, Pre A n de t s G0 d0 gb0 G d gb ∧ (∀ s', s' < 6 → G s' ≤ 72) ∧ (∀ j, j < B → isK de (amC A n) n G d gb t s (bl j)) ∧ (∀ f, isK de (amC A n) n G d gb t s f → Spn B bl f) ∧ B ≤ 180
theorem ti_init (hA : SpOK A n de) {dI : Nat → Int} (hd : ∀ e, e < n → dI e = (de e : Int)) {G : Nat → Nat} {d : Nat → Nat → Nat} {gb : Nat → Nat → Nat → Bool} (h : TIc A n de t G d gb) {B : Nat} {bl : Nat → Nat → Bool} (hB : B ≤ 12) (hl : elL (sod dI t n) B bl) : DIc A n de t 0 G d gb B bl := by
  obtain ⟨h1, h2, h3⟩ := h
  refine ⟨G, d, gb, ⟨h1, fun s' hs' => ⟨Nat.le_refl _, fun a ha => ⟨rfl, rfl, (h1.1 s' hs' a ha).2.1⟩, fun a g1 g2 => by omega⟩, fun _ _ _ => rfl, h2, ⟨fun s hs => by omega, fun s hs => by omega, fun h => by omega, fun s hs => by omega, fun s hs => by omega⟩⟩, h3, fun j hj => ?_, fun f hf => ?_, by omega⟩
  · obtain ⟨e, e1, e2, e3⟩ := hl.1 j hj
    rw [sod_bit] at e2
    simp only [Bool.and_eq_true, decide_eq_true_eq] at e2
    intro q hq
    rw [e3] at hq
    have hq' : q = e := of_decide_eq_true hq
    rw [hq']
    refine ⟨e2.1, ?_⟩
    have := hd e e2.1
    omega
  · have e1 : f = vc 12 f (fun e => if f e then (fun q => decide (q = e)) else v0) := by
      funext q
      unfold vc
      by_cases hq : q < 12
      · rw [xs_one hq]
        · cases hb : f q
          · rfl
          · dsimp only
            rw [hb, if_pos rfl]
            show true = (true && decide (q = q))
            rw [decide_eq_true rfl]
            rfl
        · intro i hi hne
          cases hb : f i
          · rfl
          · dsimp only
            rw [hb, if_pos rfl]
            show (true && decide (q = i)) = false
            rw [decide_eq_false (fun z => hne z.symm)]
            rfl
      · cases hb : f q
        · refine (xs_zero' fun i hi => ?_).symm
          cases hc : f i
          · rfl
          · dsimp only
            rw [hc, if_pos rfl]
            show (true && decide (q = i)) = false
            rw [decide_eq_false (by omega)]
            rfl
        · have := (hf q hb).1
          have := hA.1
          omega
    refine spn_trans ⟨f, e1⟩ (fun e he => ?_)
    cases hb : f e
    · rw [if_neg (by decide)]
      exact spn_v0 B bl
    · rw [if_pos rfl]
      obtain ⟨g1, g2⟩ := hf e hb
      obtain ⟨j, j1, j2⟩ := hl.2 e he (by
        rw [sod_bit, decide_eq_true g1, Bool.true_and]
        exact decide_eq_true (by rw [hd e g1, g2]))
      rw [← j2]
      exact spn_mem j1 bl
variable {s : Nat} {G : Nat → Nat} {d : Nat → Nat → Nat} {gb : Nat → Nat → Nat → Bool} {B : Nat} {bl : Nat → Nat → Bool}
theorem dm_code (hA : SpOK A n de) (ht : t ≤ 14) (hg : WFg de n G d gb) (hG : G s ≤ 300) (f : Nat → Bool) : DmG (amC A n) n G d gb s (tE (d s) (G s) t f) = lcE G d t s (vc (flP aS (d s) t (G s)) f (dvS aS aN aGP A n G d gb t s)) := by
  rw [lcE_vc]
  unfold DmG Dm
  exact fm_tE hG (d s) _ _ f (fun p => lcE G d t s (dvS aS aN aGP A n G d gb t s p)) (fun a k ha hk => (dv_code (gb := gb) hA ht hg.1 ha hk).1)
theorem ti_ok (hA : SpOK A n de) (hR : RuleOn A n) (ht : t ≤ 14) (hs : s < 6) (h : DIc A n de t s G d gb B bl) : OKs aS aN aGP A n t s G d gb B bl := by
  have hsp := sound_sp hA hR
  have hn12 := hA.1
  obtain ⟨G0, d0, gb0, hP, hG72, hb1, hb2, hB⟩ := h
  obtain ⟨p1, p2, p3, p4, p5⟩ := id hP
  obtain ⟨x1, x2, x3⟩ := p2 s hs
  have eG := p3 s (Nat.le_refl s) hs
  have eP0 : flP aS (d s) t (G s) = flP aS (d0 s) t (G0 s) := by
    rw [eG]
    exact ns_congr fun i hi => by rw [(x2 i hi).1]
  have hP300 : flP aS (d s) t (G s) ≤ 300 := by
    rw [eP0]
    rcases Nat.eq_zero_or_pos t with z | z
    · have : G0 s = 0 := by
        rcases Nat.eq_zero_or_pos (G0 s) with y | y
        · exact y
        · have := (p1.1 s hs 0 y).2.1
          omega
      rw [this]
      exact Nat.zero_le _
    · obtain ⟨T, rfl⟩ := Nat.exists_eq_succ_of_ne_zero (show t ≠ 0 by omega)
      exact bnd_places hsp hA.2.1 (by omega) (by omega) (p1.less (show s + 1 ≤ 6 by omega)) ht
  have hgpl : ∀ t', t' ≤ 14 → gpl aS G d t' s ≤ 300 := fun t' ht' => by
    cases s with
    | zero => show 12 ≤ 300; decide
    | succ s => exact bnd_places hsp hA.2.1 (by omega) ht p5 ht'
  have hdv := fun p hp => dv_isK hA hR ht hs hP (p := p) hp
  have hK : ∀ (w : Nat → Bool), (∃ c, w = vc (flP aS (d s) t (G s)) c (dvS aS aN aGP A n G d gb t s)) → isK de (amC A n) n G d gb t s w := fun w hw => by
    obtain ⟨c, rfl⟩ := hw
    exact isK_vc hdv
  have limv : limV (dvS aS aN aGP A n G d gb t s) (flP aS (d s) t (G s)) := fun k w hI hw => Nat.le_trans (ind_le B k w bl hI (fun i hi => hb2 _ (hK _ (hw i hi)))) hB
  have limk : limK (dvS aS aN aGP A n G d gb t s) (flP aS (d s) t (G s)) := fun k w hI hw => by
    rcases Nat.eq_zero_or_pos t with z | z
    · have : G0 s = 0 := by
        rcases Nat.eq_zero_or_pos (G0 s) with y | y
        · exact y
        · have := (p1.1 s hs 0 y).2.1
          omega
      have hP0 : flP aS (d s) t (G s) = 0 := by
        rw [eP0, this]
        rfl
      have := ind_bits (m := 0) hI (fun i hi q _ => (hw i hi).1 q (by omega))
      omega
    · obtain ⟨T, rfl⟩ := Nat.exists_eq_succ_of_ne_zero (show t ≠ 0 by omega)
      obtain ⟨δ, g1, g2, g3⟩ := twT hsp (T := T) (by omega)
      obtain ⟨t1, t2, t3⟩ := Tow.gen p1
      have etE : ∀ f, tE (d s) (G s) (T + 1) f = tE (d0 s) (G0 s) (T + 1) f := fun f => tE_ext f (by omega) (fun a ha => (x2 a ha).1) (fun a g1 g2 => by omega)
      refine Nat.le_trans (ker_le algA (sp_mod_all hsp) t1 t2 t3 g1 g2 (show s ≤ 5 by omega) (g3 s (T + 1) (by omega) ht) (v := fun i => tE (d0 s) (G0 s) (T + 1) (w i)) (fun i hi => ⟨tE_fin _ _ _ _, ?_⟩) (fun c hc => ?_)) (kA_le hn12 (by omega) ht)
      · have e1 := dm_code (G := G) (d := d) (gb := gb) (s := s) hA ht p4 (by have := hG72 s hs; omega) (w i)
        rw [(hw i hi).2, lcE_v0, etE, ext_dm (fun s' hs' => p2 s' (by omega)) (tE_fin _ _ _ _)] at e1
        exact e1
      · rw [← tE_vc] at hc
        refine hI c (tE_inj (d := d0 s) (G := G0 s) (t := T + 1) (fun p hp => xs_zero' fun i hi => ?_) (fun _ _ => rfl) (hc.trans (tE_v0 _ _ _).symm))
        rw [(hw i hi).1 p (by rw [eP0]; exact hp), Bool.and_false]
  refine ⟨⟨hP300, hgpl t ht, hG72 s hs⟩, fun p hp q hq => isK_sup hn12 (hdv p hp) q hq, limv, limk, fun j hj q hq => isK_sup hn12 (hb1 j hj) q hq, fun g hg x hx => ?_, fun g hg => ?_, fun C K v sr nb hF m w hI hw hn1 => ?_⟩
  · cases s with
    | zero =>
      have hx' : 12 ≤ x := hx
      cases hb : gb 0 g x
      · rfl
      · have := (p4.1 g hg x hb).1
        omega
    | succ s => exact p4.2 s (by omega) g hg x hx
  · have := (x2 g (by omega))
    exact hgpl _ (by omega)
  · have hvK : ∀ i, i < C → isK de (amC A n) n G d gb t s (v i) := fun i hi => hK _ ⟨_, hF.2.1 i hi⟩
    have hwK : ∀ i, i < C + m → isK de (amC A n) n G d gb t s (w i) := fun i hi => by
      rcases Nat.lt_or_ge i C with g | g
      · rw [hw i g]; exact hvK i g
      · have := hn1 (i - C) (by omega)
        rw [show C + (i - C) = i by omega] at this
        refine isK_spn this (fun j hj => ?_)
        rcases Nat.lt_or_ge j C with g2 | g2
        · rw [vap_l g2]; exact hvK j g2
        · have := hb1 (j - C) (by omega)
          rw [← vap_r (C := C) (j - C) v bl, show C + (j - C) = j by omega] at this
          exact this
    have hCm := ind_le B (C + m) w bl hI (fun i hi => hb2 _ (hwK i hi))
    obtain ⟨m', w', c1, c2, c3, c4⟩ := complete (B := B) (bl := bl) B (Nat.le_refl B) (C + m) w hI
    have hbl : ∀ f, Spn B bl f → Spn (C + B) (vap C v bl) f := fun f hf => spn_trans hf (fun j hj => by
      rw [← vap_r (C := C) j v bl]
      exact spn_mem (by omega) _)
    have hCm' := ind_le B (C + m + m') w' bl c1 (fun i hi => by
      rcases Nat.lt_or_ge i (C + m) with g | g
      · rw [c2 i g]; exact hb2 _ (hwK i g)
      · have := c3 (i - (C + m)) (by omega)
        rw [show C + m + (i - (C + m)) = i by omega] at this
        exact this)
    have h72 := hG72 s hs
    have hst := tow_step (G' := fup G s (G s + (m + m'))) (d' := fup d s (fun j => if G s ≤ j ∧ j < G s + (m + m') then t else d s j)) (gb' := fun s' a => if s' = s then (if a < G s then gb s a else w' (C + (a - G s))) else gb s' a) hA hR ht hs hP hb1 hb2 (m := m + m') (w := w') hF (by rw [← Nat.add_assoc]; exact c1) (fun i hi => by rw [c2 i (by omega)]; exact hw i hi) (fun i hi => by
      rcases Nat.lt_or_ge i m with g | g
      · rw [c2 (C + i) (by omega)]; exact hn1 i g
      · have := hbl _ (c3 (i - m) (by omega))
        rw [show C + m + (i - m) = C + i by omega] at this
        exact this) (fun j hj => by rw [← Nat.add_assoc]; exact c4 j hj) (by omega) rfl rfl (fun s' e => by funext a; exact if_neg e) (fun a ha => by rw [if_pos rfl, if_pos ha]) (fun i hi => by rw [if_pos rfl, if_neg (by omega), show G s + i - G s = i by omega])
    have hb := bnd_gens hsp hA.2.1 (s := s) (T := t) (by omega) ht hst.1.2.2.2.2
    unfold fup at hb
    rw [if_pos rfl] at hb
    exact ⟨by omega, by omega⟩
theorem ti_step (hA : SpOK A n de) (hR : RuleOn A n) (ht : t ≤ 14) : DIstep aS aN aGP A n t (DIc A n de t) := by
  intro s G d gb B bl hs hDI C K v sr nb hF m w hI hw hn1 hn2 gb' hg1 hg2 hg3
  obtain ⟨o1, o2, o3, o4, o5, o6, o7, o8⟩ := ti_ok hA hR ht hs hDI
  obtain ⟨b1, b2⟩ := o8 C K v sr nb hF m w hI hw hn1
  obtain ⟨G0, d0, gb0, hP, hG72, hb1, hb2, hB⟩ := hDI
  have hst := tow_step (G' := fup G s (G s + m)) (d' := fup d s (fun j => if G s ≤ j ∧ j < G s + m then t else d s j)) (gb' := gb') hA hR ht hs hP hb1 hb2 (m := m) (w := w) hF hI hw hn1 hn2 (by omega) rfl rfl hg1 hg2 hg3
  refine ⟨G0, d0, gb0, hst.1, fun s' hs' => ?_, hst.2.1, hst.2.2.1, o4 K nb hF.2.2.2.2.2.1 (fun i hi => ⟨fun p hp => hF.2.2.2.1.2 i hi p hp, hF.2.2.1 i hi⟩)⟩
  unfold fup
  split
  · exact b2
  · exact hG72 s' hs'
/-- the class's tower may be built -/
theorem ti_all (hA : SpOK A n de) (hR : RuleOn A n) {dI : Nat → Int} (hd : ∀ e, e < n → dI e = (de e : Int)) : TIstep aS aN aGP A n dI (TIc A n de) := by
  refine ⟨fun d gb => ⟨⟨fun s _ a ha => absurd ha (Nat.not_lt_zero a), fun s _ a ha => absurd ha (Nat.not_lt_zero a), fun _ t ht => absurd ht (Nat.not_lt_zero t), fun s _ t ht => absurd ht (Nat.not_lt_zero t), fun s _ t ht => absurd ht (Nat.not_lt_zero t)⟩, ⟨fun a ha => absurd ha (Nat.not_lt_zero a), fun s _ a ha => absurd ha (Nat.not_lt_zero a)⟩, fun _ _ => Nat.zero_le _⟩, fun t ht G d gb h => ⟨DIc A n de t, fun B bl hB hl => ti_init hA hd h hB hl, fun s G d gb B bl hs h => ti_ok hA hR ht hs h, ti_step hA hR ht, fun G' d' gb' B bl h => ?_⟩⟩
  obtain ⟨G0, d0, gb0, hP, hG72, -⟩ := h
  exact ⟨hP.2.2.2.2, hP.2.2.2.1, hG72⟩
end TI
