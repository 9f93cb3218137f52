/-! one step of the law: both sides answer alike, and stay alike -/
def BS (F I : zFi) (J : zJi) : Prop := ∃ ℓ c n A de K T0 G d gb, CS F I J F I J ℓ c n A de K T0 G d gb ∧ RSt F I J F I J ℓ c n A de K
def StepP (l : Launch) (D : va_G) (sh : Nat → Option zS) (yA : MethodName) (wsA : List Cond) (rA : Room) (yB : MethodName) (wsB : List Cond) (rB : Room) (as : List zV) (F I : zFi) (J : zJi) : Prop :=
  ∃ P1, Cn l D yA wsA rA sh (.inr (.inr (some 0)) :: as) F I J P1 ∧ ∀ v F1 I1 J1, P1 v F1 I1 J1 → ∃ a : Int, v = some (.inl a) ∧ ∃ P2, Cn l D yB wsB rB sh (.inr (.inr (some 60)) :: as) F1 I1 J1 P2 ∧ ∀ v' F2 I2 J2, P2 v' F2 I2 J2 → v' = some (.inl a) ∧ BS F2 I2 J2
section STEP
variable {F I F1 I1 F2 I2 Fo Io : zFi} {J J1 J2 Jo : zJi} {ℓ : Nat} {c : Nat → Nat} {n : Nat} {A : Nat → Nat → Nat} {de : Nat → Nat} {K : Nat → Int} {T0 : Nat} {G : Nat → Nat} {d : Nat → Nat → Nat} {gb : Nat → Nat → Nat → Bool} {ℓ' : Nat} {c' : Nat → Nat} {n' : Nat} {A' : Nat → Nat → Nat} {de' : Nat → Nat} {K' : Nat → Int}
theorem bs_mid (h : CS F I J F1 I1 J1 ℓ' c' n' A' de' K' T0 G d gb) (h2 : RSt F I J F I J ℓ c n A de K) : RSt F1 I1 J1 F1 I1 J1 ℓ c n A de K :=
  h2.out (fun a ha => (h.1.2 a (by omega)).1) (fun a ha => (h.1.2 a (by omega)).2.1) (fun a ha => (h.1.2 a (by omega)).2.2)
theorem bs_fin (h : CS Fo Io Jo F1 I1 J1 ℓ c n A de K T0 G d gb) (h2 : RSt F1 I1 J1 F2 I2 J2 ℓ c n A de K) : BS F2 I2 J2 :=
  ⟨ℓ, c, n, A, de, K, T0, G, d, gb, h.out (fun a ha => (h2.1.2 a (by omega)).1) (fun a ha => (h2.1.2 a (by omega)).2.1) (fun a ha => (h2.1.2 a (by omega)).2.2), h2.out (fun _ _ => rfl) (fun _ _ => rfl) (fun _ _ => rfl)⟩
theorem cs_K (h : CS Fo Io Jo F1 I1 J1 ℓ c n A de (Kz K) T0 G d gb) (h2 : RSt F1 I1 J1 F2 I2 J2 ℓ c n A de K0) : RSt F1 I1 J1 F2 I2 J2 ℓ c n A de (Kz K) :=
  rs_K h2 (fun j hj => by unfold Kz K0; rw [if_pos hj]) h.2.2.2.2.2
theorem cs_same (h : CS F I J F I J ℓ c n A de K T0 G d gb) : CS F I J F I J ℓ c n A de K T0 G d gb := h
variable {l : Launch} {D : va_G} {sh : Nat → Option zS}
theorem st_square (hs : zWS sh) (hm : zWM sh) (h : BS F I J) {i : Int} (hi : zi32 i) : StepP l D sh yX8_square wsX8_square mX8_square.2.2.2.2 yX9_square wsX9_square mX9_square.2.2.2.2 [.inl i] F I J := by
  obtain ⟨ℓ, c, n, A, de, K, T0, G, d, gb, hC, hR⟩ := h
  refine ⟨_, c_X8_square l D sh hs F I J hC.2.1 hi, fun v F1 I1 J1 hv => ?_⟩
  obtain ⟨rfl, eJ, ⟨ok, eF, eI⟩ | ⟨ok, eF, eI⟩⟩ := hv
  · subst eJ eF eI
    have hC1 := cs_square hC ok
    have hR1 := bs_mid hC1 hR
    refine ⟨_, rfl, _, c_X9_square l D sh hm _ _ _ hR1.2.1 hi, fun v' F2 I2 J2 hv => ?_⟩
    obtain ⟨rfl, eJ, ⟨ok2, eF, eI⟩ | ⟨ok2, -, -⟩⟩ := hv
    · subst eJ eF eI
      exact ⟨rfl, bs_fin hC1 (rs_square hR1 ok2)⟩
    · exact absurd ok ok2
  · subst eJ eF eI
    refine ⟨_, rfl, _, c_X9_square l D sh hm _ _ _ hR.2.1 hi, fun v' F2 I2 J2 hv => ?_⟩
    obtain ⟨rfl, eJ, ⟨ok2, -, -⟩ | ⟨ok2, eF, eI⟩⟩ := hv
    · exact absurd ok2 ok
    · subst eJ eF eI
      exact ⟨rfl, bs_fin hC hR⟩
theorem st_clear (hs : zWS sh) (hm : zWM sh) (h : BS F I J) : StepP l D sh yX8_clear wsX8_clear mX8_clear.2.2.2.2 yX9_clear wsX9_clear mX9_clear.2.2.2.2 [] F I J := by
  obtain ⟨ℓ, c, n, A, de, K, T0, G, d, gb, hC, hR⟩ := h
  refine ⟨_, c_X8_clear l D sh hs F I J, fun v F1 I1 J1 hv => ?_⟩
  obtain ⟨rfl, eF, eI, eJ⟩ := hv
  subst eJ eF eI
  have hC1 := cs_clear hC
  have hR1 := bs_mid hC1 hR
  refine ⟨_, rfl, _, c_X9_clear l D sh hm _ _ _, fun v' F2 I2 J2 hv => ?_⟩
  obtain ⟨rfl, eF, eI, eJ⟩ := hv
  subst eJ eF eI
  exact ⟨by rw [hR1.2.1.1, hC.2.1.1], bs_fin hC1 (rs_clear hR1)⟩
/-- both only look -/
theorem st_look {yA : MethodName} {wsA : List Cond} {rA : Room} {yB : MethodName} {wsB : List Cond} {rB : Room} {as : List zV} {x : Int} (h : BS F I J) (h1 : Cn l D yA wsA rA sh (.inr (.inr (some 0)) :: as) F I J (zself F I J (.inl x))) (h2 : Cn l D yB wsB rB sh (.inr (.inr (some 60)) :: as) F I J (zself F I J (.inl x))) : StepP l D sh yA wsA rA yB wsB rB as F I J := by
  refine ⟨_, h1, fun v F1 I1 J1 hv => ?_⟩
  obtain ⟨rfl, eF, eI, eJ⟩ := hv
  subst eJ eF eI
  refine ⟨x, rfl, _, h2, fun v' F2 I2 J2 hv => ?_⟩
  obtain ⟨rfl, eF, eI, eJ⟩ := hv
  subst eJ eF eI
  exact ⟨rfl, h⟩
theorem st_sum (hs : zWS sh) (hm : zWM sh) (h : BS F I J) {w : Int} (hw : zi32 w) : StepP l D sh yX8_sum wsX8_sum mX8_sum.2.2.2.2 yX9_sum wsX9_sum mX9_sum.2.2.2.2 [.inl w] F I J := by
  obtain ⟨ℓ, c, n, A, de, K, T0, G, d, gb, hC, hR⟩ := id h
  exact st_look h (c_X8_sum l D sh hs F I J hC.1.1 hC.2.1 hw) (c_X9_sum l D sh hm F I J hR.1.1.1 hR.1.1.2.2.2.1 hR.1.1.2.2.2.2.1 hR.2.1 hw)
theorem st_term (hs : zWS sh) (hm : zWM sh) (h : BS F I J) {w i j : Int} (h1 : zi32 w) (h2 : zi32 i) (h3 : zi32 j) : StepP l D sh yX8_term wsX8_term mX8_term.2.2.2.2 yX9_term wsX9_term mX9_term.2.2.2.2 [.inl w, .inl i, .inl j] F I J := by
  obtain ⟨ℓ, c, n, A, de, K, T0, G, d, gb, hC, hR⟩ := id h
  exact st_look h (c_X8_term l D sh hs F I J hC.1.1 hC.2.1 h1 h2 h3) (c_X9_term l D sh hm F I J hR.1.1.1 hR.1.1.2.2.2.1 hR.1.1.2.2.2.2.1 hR.1.1.2.2.1 hR.1.1.2.2.2.2.2 hR.2.1 h1 h2 h3)
theorem st_many (hs : zWS sh) (hm : zWM sh) (h : BS F I J) {w : Int} (hw : zi32 w) : StepP l D sh yX8_many wsX8_many mX8_many.2.2.2.2 yX9_many wsX9_many mX9_many.2.2.2.2 [.inl w] F I J := by
  obtain ⟨ℓ, c, n, A, de, K, T0, G, d, gb, hC, hR⟩ := id h
  exact st_look h (c_X8_many l D sh hs F I J hC.1.1 hw) (c_X9_many l D sh hm F I J hR.1.1.1 hw)
theorem st_does (hs : zWS sh) (hm : zWM sh) (h : BS F I J) {w : Int} (hw : zi32 w) : StepP l D sh yX8_does wsX8_does mX8_does.2.2.2.2 yX9_does wsX9_does mX9_does.2.2.2.2 [.inl w] F I J := by
  obtain ⟨ℓ, c, n, A, de, K, T0, G, d, gb, hC, hR⟩ := id h
  exact st_look h (c_X8_does l D sh hs F I J hC.2.1 hC.2.2.1 hw) (c_X9_does l D sh hm F I J hR.2.1 hR.2.2.1.1 hR.2.2.1.2.1 hw)
theorem st_about (hs : zWS sh) (hm : zWM sh) (h : BS F I J) {w i : Int} (hw : zi32 w) (hi : zi32 i) : StepP l D sh yX8_about wsX8_about mX8_about.2.2.2.2 yX9_about wsX9_about mX9_about.2.2.2.2 [.inl w, .inl i] F I J := by
  obtain ⟨ℓ, c, n, A, de, K, T0, G, d, gb, hC, hR⟩ := id h
  exact st_look h (c_X8_about l D sh hs F I J hC.2.2.1 hw hi) (c_X9_about l D sh hm F I J hR.2.2.1.1 hw hi)
theorem st_count (hs : zWS sh) (hm : zWM sh) (h : BS F I J) {w : Int} (hw : zi32 w) : StepP l D sh yX8_count wsX8_count mX8_count.2.2.2.2 yX9_count wsX9_count mX9_count.2.2.2.2 [.inl w] F I J := by
  obtain ⟨ℓ, c, n, A, de, K, T0, G, d, gb, hC, hR⟩ := id h
  exact st_look h (c_X8_count l D sh hs hC hw) (c_X9_count l D sh hm hR hw)
theorem st_empty (hs : zWS sh) (hm : zWM sh) (h : BS F I J) : StepP l D sh yX8_empty wsX8_empty mX8_empty.2.2.2.2 yX9_empty wsX9_empty mX9_empty.2.2.2.2 [] F I J := by
  obtain ⟨ℓ, c, n, A, de, K, T0, G, d, gb, hC, hR⟩ := h
  refine ⟨_, c_X8_empty l D sh hs F I J, fun v F1 I1 J1 hv => ?_⟩
  obtain ⟨rfl, eF, eI, eJ⟩ := hv
  subst eJ eF eI
  have hC1 := cs_empty hC
  have hR1 := bs_mid hC1 hR
  refine ⟨_, rfl, _, c_X9_empty l D sh hm _ _ _, fun v' F2 I2 J2 hv => ?_⟩
  obtain ⟨rfl, eF, eI, eJ⟩ := hv
  subst eJ eF eI
  exact ⟨by rw [hR1.2.2.1.1.1, hC.2.2.1.1], bs_fin hC1 (cs_K hC1 (rs_none hR1 (fun _ _ => 0) de))⟩
theorem st_element (hs : zWS sh) (hm : zWM sh) (h : BS F I J) {x : Int} (hx : zi32 x) : StepP l D sh yX8_element wsX8_element mX8_element.2.2.2.2 yX9_element wsX9_element mX9_element.2.2.2.2 [.inl x] F I J := by
  obtain ⟨ℓ, c, n, A, de, K, T0, G, d, gb, hC, hR⟩ := h
  have hn := hR.2.2.1.1.2.1
  refine ⟨_, c_X8_element l D sh hs F I J hC.2.2.1.1 hn hx, fun v F1 I1 J1 hv => ?_⟩
  obtain ⟨eJ, ⟨ok, rfl, eF, eI⟩ | ⟨ok, ok', rfl, eF, eI⟩ | ⟨ok, ok', rfl, eF, eI⟩⟩ := hv
  · subst eJ eF eI
    refine ⟨_, rfl, _, c_X9_element l D sh hm _ _ _ hR.2.2.1.1.1 hn hx, fun v' F2 I2 J2 hv => ?_⟩
    obtain ⟨eJ, ⟨o, rfl, eF, eI⟩ | ⟨o, o', rfl, eF, eI⟩ | ⟨o, o', rfl, eF, eI⟩⟩ := hv
    · subst eJ eF eI
      exact ⟨rfl, bs_fin hC hR⟩
    · exfalso; omega
    · exfalso; omega
  · subst eJ eF eI
    refine ⟨_, rfl, _, c_X9_element l D sh hm _ _ _ hR.2.2.1.1.1 hn hx, fun v' F2 I2 J2 hv => ?_⟩
    obtain ⟨eJ, ⟨o, rfl, eF, eI⟩ | ⟨o, o', rfl, eF, eI⟩ | ⟨o, o', rfl, eF, eI⟩⟩ := hv
    · exfalso; omega
    · subst eJ eF eI
      exact ⟨rfl, bs_fin hC hR⟩
    · exfalso; omega
  · subst eJ eF eI
    have hC1 := cs_element hC ok' ok
    have hR1 := bs_mid hC1 hR
    refine ⟨_, rfl, _, c_X9_element l D sh hm _ _ _ hR1.2.2.1.1.1 hn hx, fun v' F2 I2 J2 hv => ?_⟩
    obtain ⟨eJ, ⟨o, rfl, eF, eI⟩ | ⟨o, o', rfl, eF, eI⟩ | ⟨o, o', rfl, eF, eI⟩⟩ := hv
    · exfalso; omega
    · exfalso; omega
    · subst eJ eF eI
      exact ⟨rfl, bs_fin hC1 (cs_K hC1 (rs_element hR1 ok' ok))⟩
theorem st_act (hs : zWS sh) (hm : zWM sh) (h : BS F I J) {i e b : Int} (h1 : zi32 i) (h2 : zi32 e) (h3 : zi32 b) : StepP l D sh yX8_act wsX8_act mX8_act.2.2.2.2 yX9_act wsX9_act mX9_act.2.2.2.2 [.inl i, .inl e, .inl b] F I J := by
  obtain ⟨ℓ, c, n, A, de, K, T0, G, d, gb, hC, hR⟩ := h
  refine ⟨_, c_X8_act l D sh hs F I J hC.2.2.1 h1 h2 h3, fun v F1 I1 J1 hv => ?_⟩
  obtain ⟨eJ, ⟨ok, rfl, eF, eI⟩ | ⟨ok, rfl, eF, eI⟩⟩ := hv
  · subst eJ eF eI
    refine ⟨_, rfl, _, c_X9_act l D sh hm _ _ _ hR.2.2.1.1 h1 h2 h3, fun v' F2 I2 J2 hv => ?_⟩
    obtain ⟨eJ, ⟨o, rfl, eF, eI⟩ | ⟨o, rfl, eF, eI⟩⟩ := hv
    · subst eJ eF eI
      exact ⟨rfl, bs_fin hC hR⟩
    · exact absurd o ok
  · subst eJ eF eI
    have hC1 := cs_act hC ok
    have hR1 := bs_mid hC1 hR
    refine ⟨_, rfl, _, c_X9_act l D sh hm _ _ _ hR1.2.2.1.1 h1 h2 h3, fun v' F2 I2 J2 hv => ?_⟩
    obtain ⟨eJ, ⟨o, rfl, eF, eI⟩ | ⟨o, rfl, eF, eI⟩⟩ := hv
    · exact absurd ok o
    · subst eJ eF eI
      exact ⟨rfl, bs_fin hC1 (cs_K hC1 (rs_act hR1 ok))⟩
theorem st_space (hs : zWS sh) (hm : zWM sh) (h : BS F I J) {i e b : Int} (h1 : zi32 i) (h2 : zi32 e) (h3 : zi32 b) : StepP l D sh yX8_space wsX8_space mX8_space.2.2.2.2 yX9_space wsX9_space mX9_space.2.2.2.2 [.inl i, .inl e, .inl b] F I J := by
  obtain ⟨ℓ, c, n, A, de, K, T0, G, d, gb, hC, hR⟩ := h
  refine ⟨_, c_X8_space l D sh hs F I J h1 h2 h3, fun v F1 I1 J1 hv => ?_⟩
  obtain ⟨eJ, ⟨ok, rfl, eF, eI⟩ | ⟨ok, rfl, eF, eI⟩⟩ := hv
  · subst eJ eF eI
    refine ⟨_, rfl, _, c_X9_space l D sh hm hR h1 h2 h3, fun v' F2 I2 J2 hv => ?_⟩
    obtain ⟨o, rfl, eF, eI, eJ⟩ | ⟨o, rfl, hR2⟩ := hv
    · subst eJ eF eI
      exact ⟨rfl, bs_fin hC hR⟩
    · exact absurd o ok
  · subst eJ eF eI
    have hC1 := cs_space hC (B := spB i e b) (m := b.toNat) (T := spT i) (by unfold spT; split <;> simp) (by unfold spB; split <;> omega) (by omega) (by unfold spB; split <;> omega) (by unfold spT; split <;> omega)
    have hR1 := bs_mid hC1 hR
    refine ⟨_, rfl, _, c_X9_space l D sh hm hR1 h1 h2 h3, fun v' F2 I2 J2 hv => ?_⟩
    obtain ⟨o, rfl, eF, eI, eJ⟩ | ⟨o, rfl, hR2⟩ := hv
    · exact absurd ok o
    · exact ⟨rfl, bs_fin hC1 (cs_K hC1 hR2)⟩
theorem st_fault (hs : zWS sh) (hm : zWM sh) (h : BS F I J) {w : Int} (hw : zi32 w) : StepP l D sh yX8_fault wsX8_fault mX8_fault.2.2.2.2 yX9_fault wsX9_fault mX9_fault.2.2.2.2 [.inl w] F I J := by
  obtain ⟨ℓ, c, n, A, de, K, T0, G, d, gb, hC, hR⟩ := h
  refine ⟨_, c_X8_fault l D sh hs F I J hC.2.2.1 hw, fun v F1 I1 J1 hv => ?_⟩
  obtain ⟨rfl, eJ, hFI⟩ := hv
  have hC1 : CS F I J F1 I1 J1 ℓ c n A de K T0 G d gb := by
    rcases hFI with ⟨eF, eI⟩ | ⟨eF, eI⟩
    · subst eJ eF eI
      exact hC
    · subst eJ eF eI
      exact hC.sound
  have hR1 := bs_mid hC1 hR
  refine ⟨_, rfl, _, c_X9_fault l D sh hm F1 I1 J1 hR1.2.2.1.1 hR1.2.2.1.2.1 hw, fun v' F2 I2 J2 hv => ?_⟩
  obtain ⟨rfl, hF2, eI, eJ⟩ := hv
  subst eI eJ
  rcases hF2 with eF | eF
  · subst eF
    exact ⟨rfl, bs_fin hC1 hR1⟩
  · subst eF
    exact ⟨rfl, bs_fin hC1 (rs_fault hR1 _)⟩
theorem st_live (hs : zWS sh) (hm : zWM sh) (h : BS F I J) {s t : Int} (h1 : zi32 s) (h2 : zi32 t) : StepP l D sh yX8_live wsX8_live mX8_live.2.2.2.2 yX9_live wsX9_live mX9_live.2.2.2.2 [.inl s, .inl t] F I J := by
  obtain ⟨ℓ, c, n, A, de, K, T0, G, d, gb, hC, hR⟩ := h
  refine ⟨_, c_X8_live l D sh hs hC h1 h2, fun v F1 I1 J1 hv => ?_⟩
  obtain ⟨T1, G', d', gb', hC1, hv1⟩ := hv
  have hR1 := bs_mid hC1 hR
  have hx : ∃ a, v = some (.inl a) := by
    rcases hv1 with ⟨-, z⟩ | ⟨-, -, z⟩ | ⟨-, -, -, -, z⟩ <;> exact ⟨_, z⟩
  obtain ⟨a, ha⟩ := hx
  refine ⟨a, ha, _, c_X9_live l D sh hm hR1 h1 h2, fun v' F2 I2 J2 hv => ?_⟩
  obtain ⟨hR2, hv2⟩ := hv
  have e := agr_live hC1.2.2.1.2.2.2.2.1 hv1 hv2
  exact ⟨e ▸ ha, bs_fin hC1 hR2⟩
theorem st_joins (hs : zWS sh) (hm : zWM sh) (h : BS F I J) {i s t : Int} (h1 : zi32 i) (h2 : zi32 s) (h3 : zi32 t) : StepP l D sh yX8_joins wsX8_joins mX8_joins.2.2.2.2 yX9_joins wsX9_joins mX9_joins.2.2.2.2 [.inl i, .inl s, .inl t] F I J := by
  obtain ⟨ℓ, c, n, A, de, K, T0, G, d, gb, hC, hR⟩ := h
  refine ⟨_, c_X8_joins l D sh hs hC h1 h2 h3, fun v F1 I1 J1 hv => ?_⟩
  obtain ⟨T1, G', d', gb', hC1, hv1⟩ := hv
  have hR1 := bs_mid hC1 hR
  have hx : ∃ a, v = some (.inl a) := by
    rcases hv1 with ⟨-, z⟩ | ⟨-, -, z⟩ | ⟨-, -, -, -, r, z, -⟩ <;> exact ⟨_, z⟩
  obtain ⟨a, ha⟩ := hx
  refine ⟨a, ha, _, c_X9_joins l D sh hm hR1 h1 h2 h3, fun v' F2 I2 J2 hv => ?_⟩
  obtain ⟨hR2, hv2⟩ := hv
  have e := agr_joins hC1.2.2.1.2.2.2.2.1 hC1.2.2.2.1.1 hv1 hv2
  exact ⟨e ▸ ha, bs_fin hC1 hR2⟩
theorem st_balance (hs : zWS sh) (hm : zWM sh) (h : BS F I J) {t : Int} (h1 : zi32 t) : StepP l D sh yX8_balance wsX8_balance mX8_balance.2.2.2.2 yX9_balance wsX9_balance mX9_balance.2.2.2.2 [.inl t] F I J := by
  obtain ⟨ℓ, c, n, A, de, K, T0, G, d, gb, hC, hR⟩ := h
  refine ⟨_, c_X8_balance l D sh hs hC h1, fun v F1 I1 J1 hv => ?_⟩
  obtain ⟨T1, G', d', gb', hC1, hv1⟩ := hv
  have hR1 := bs_mid hC1 hR
  have hx : ∃ a, v = some (.inl a) := by
    rcases hv1 with ⟨-, z⟩ | ⟨-, -, z⟩ | ⟨-, -, -, -, z⟩ <;> exact ⟨_, z⟩
  obtain ⟨a, ha⟩ := hx
  refine ⟨a, ha, _, c_X9_balance l D sh hm hR1 h1, fun v' F2 I2 J2 hv => ?_⟩
  obtain ⟨hR2, hv2⟩ := hv
  have e := agr_balance hC1.2.2.1.2.2.2.2.1 hv1 hv2
  exact ⟨e ▸ ha, bs_fin hC1 hR2⟩
theorem st_page (hs : zWS sh) (hm : zWM sh) (h : BS F I J) {r s t : Int} (h1 : zi32 r) (h2 : zi32 s) (h3 : zi32 t) : StepP l D sh yX8_page wsX8_page mX8_page.2.2.2.2 yX9_page wsX9_page mX9_page.2.2.2.2 [.inl r, .inl s, .inl t] F I J := by
  obtain ⟨ℓ, c, n, A, de, K, T0, G, d, gb, hC, hR⟩ := h
  refine ⟨_, c_X8_page l D sh hs hC h1 h2 h3, fun v F1 I1 J1 hv => ?_⟩
  obtain ⟨T1, G', d', gb', hC1, hv1⟩ := hv
  have hR1 := bs_mid hC1 hR
  have hx : ∃ a, v = some (.inl a) := by
    rcases hv1 with ⟨-, z⟩ | ⟨-, -, z⟩ | ⟨-, -, -, -, z⟩ <;> exact ⟨_, z⟩
  obtain ⟨a, ha⟩ := hx
  refine ⟨a, ha, _, c_X9_page l D sh hm hR1 h1 h2 h3, fun v' F2 I2 J2 hv => ?_⟩
  obtain ⟨hR2, hv2⟩ := hv
  have e := agr_page hC1.2.2.1.2.2.2.2.1 hv1 hv2
  exact ⟨e ▸ ha, bs_fin hC1 hR2⟩
theorem st_differ (hs : zWS sh) (hm : zWM sh) (h : BS F I J) {r s t x : Int} (h1 : zi32 r) (h2 : zi32 s) (h3 : zi32 t) (h4 : zi32 x) : StepP l D sh yX8_differ wsX8_differ mX8_differ.2.2.2.2 yX9_differ wsX9_differ mX9_differ.2.2.2.2 [.inl r, .inl s, .inl t, .inl x] F I J := by
  obtain ⟨ℓ, c, n, A, de, K, T0, G, d, gb, hC, hR⟩ := h
  refine ⟨_, c_X8_differ l D sh hs hC h1 h2 h3 h4, fun v F1 I1 J1 hv => ?_⟩
  obtain ⟨T1, G', d', gb', K1, hC1, hv1⟩ := hv
  have hR1 := bs_mid hC1 hR
  have hx : ∃ a, v = some (.inl a) := by
    rcases hv1 with ⟨-, z, -⟩ | ⟨-, -, z, -⟩ | ⟨-, -, -, -, ⟨-, z, -⟩ | ⟨-, z, -⟩⟩ <;> exact ⟨_, z⟩
  obtain ⟨a, ha⟩ := hx
  refine ⟨a, ha, _, c_X9_differ l D sh hm hR1 h1 h2 h3 h4, fun v' F2 I2 J2 hv => ?_⟩
  obtain ⟨K2, hR2, hv2⟩ := hv
  obtain ⟨e, eK⟩ := agr_differ hC1.2.2.1.2.2.2.2.1 hv1 hv2
  subst eK
  exact ⟨e ▸ ha, bs_fin hC1 hR2⟩
end STEP
