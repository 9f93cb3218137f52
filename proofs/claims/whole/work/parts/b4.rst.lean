/-! the reference: rows of a floor -/
def Rst (dv : Nat → Nat → Bool) (P C K : Nat) (v s nb : Nat → Nat → Bool) : Prop :=
  (∀ i, i < C → v i = vc P (s i) dv) ∧ (∀ j, j < K → vc P (nb j) dv = v0) ∧ ((∀ i, i < C → ∀ p, P ≤ p → s i p = false) ∧ ∀ j, j < K → ∀ p, P ≤ p → nb j p = false) ∧
  (∀ x : Nat → Bool, (∀ p, P ≤ p → x p = false) → ∃ a b, x = vx (vc C a s) (vc K b nb)) ∧ Ind K nb ∧ C + K = P
theorem Rst.start (dv : Nat → Nat → Bool) (v s nb : Nat → Nat → Bool) : Rst dv 0 0 0 v s nb := by
  refine ⟨fun i hi => absurd hi (Nat.not_lt_zero i), fun i hi => absurd hi (Nat.not_lt_zero i), ⟨fun i hi => absurd hi (Nat.not_lt_zero i), fun i hi => absurd hi (Nat.not_lt_zero i)⟩, fun x hx => ⟨fun _ => false, fun _ => false, ?_⟩, fun c _ i hi => absurd hi (Nat.not_lt_zero i), rfl⟩
  funext q
  exact hx q (Nat.zero_le _)
theorem Rst.flr {dv : Nat → Nat → Bool} {P C K : Nat} {v s nb : Nat → Nat → Bool} (h : Rst dv P C K v s nb) (hI : Ind C v) : FlR dv P C K v s nb := ⟨hI, h⟩
section RST
variable {dv : Nat → Nat → Bool} {P C K : Nat} {v s nb v' s' nb' : Nat → Nat → Bool} {cf u : Nat → Bool}
theorem rst_new (h : Rst dv P C K v s nb) (hu : ∀ p, u p = (decide (p = P) ^^ vc C cf s p)) : vc (P + 1) u dv = vx (dv P) (vc C cf v) ∧ u P = true ∧ ∀ p, P + 1 ≤ p → u p = false := by
  obtain ⟨h2, h3, ⟨h4, h4'⟩, h5, h6, h7⟩ := h
  have z : ∀ p, P ≤ p → vc C cf s p = false := fun p hp => xs_zero' fun i hi => by rw [h4 i hi p hp, Bool.and_false]
  have uP : u P = true := by rw [hu, z P (Nat.le_refl _), decide_eq_true rfl]; rfl
  refine ⟨?_, uP, fun p hp => by rw [hu, z p (by omega), decide_eq_false (by omega)]; rfl⟩
  rw [vc_succ, uP]
  have e1 : vc P u dv = vc C cf v := by
    rw [vc_congr (c' := vc C cf s) (w' := dv) (fun p hp => by rw [hu, decide_eq_false (by omega), Bool.false_xor]) (fun _ _ => rfl), vc_vc]
    exact vc_congr (fun _ _ => rfl) (fun i hi => (h2 i hi).symm)
  rw [e1, vx_comm]
  rfl
theorem Rst.keep (h : Rst dv P C K v s nb) (hv : ∀ i, i < C → v' i = v i) (hs : ∀ i, i < C → s' i = s i) (hn : ∀ j, j < K → nb' j = nb j)
    (hw : v' C = vx (dv P) (vc C cf v)) (hu : ∀ p, s' C p = (decide (p = P) ^^ vc C cf s p)) :
    Rst dv (P + 1) (C + 1) K v' s' nb' := by
  obtain ⟨n1, n2, n3⟩ := rst_new h hu
  obtain ⟨k2, k3, ⟨k4, k4'⟩, k5, k6, k7⟩ := h
  refine ⟨fun i hi => ?_, fun j hj => ?_, ⟨fun i hi p hq => ?_, fun j hj p hq => ?_⟩, fun x hx => ?_, ?_, by omega⟩
  · by_cases e : i = C
    · rw [e, n1, hw]
    · rw [hv i (by omega), hs i (by omega), vc_ext (k4 i (by omega) P (Nat.le_refl _)), k2 i (by omega)]
  · rw [hn j hj, vc_ext (k4' j hj P (Nat.le_refl _)), k3 j hj]
  · by_cases e : i = C
    · rw [e]
      exact n3 p hq
    · rw [hs i (by omega)]
      exact k4 i (by omega) p (by omega)
  · rw [hn j hj]
    exact k4' j hj p (by omega)
  · -- x without P, then the new row if x has P
    have ex0 : ∃ a b, (fun p => decide (p < P) && x p) = vx (vc C a s) (vc K b nb) := k5 _ (fun p hq => by rw [decide_eq_false (by omega), Bool.false_and])
    obtain ⟨a, b, e⟩ := ex0
    refine ⟨fun i => if i = C then x P else (a i ^^ (x P && cf i)), b, ?_⟩
    have eN : vc K b nb' = vc K b nb := vc_congr (fun _ _ => rfl) hn
    rw [eN]
    funext p
    have e0 := congrFun e p
    have e1 : vc (C + 1) (fun i => if i = C then x P else (a i ^^ (x P && cf i))) s' p = ((vc C a s p ^^ (x P && vc C cf s p)) ^^ (x P && s' C p)) := by
      rw [vc_succ]
      unfold vx
      dsimp only
      rw [if_pos rfl]
      congr 1
      rw [show (vc C a s p ^^ (x P && vc C cf s p)) = vx (vc C a s) (vc C (fun i => x P && cf i) s) p from ?_, ← vc_xor]
      · exact congrFun (vc_congr (fun i hi => by rw [if_neg (by omega)]) hs) p
      · unfold vx vc
        rw [← xs_and]
        congr 1
        exact xs_congr fun i _ => (Bool.and_assoc _ _ _).symm
    unfold vx at e0 ⊢
    rw [e1, hu p]
    rw [show vc C a s p = (vc K b nb p ^^ (decide (p < P) && x p)) by rw [e0]; cases vc C a s p <;> cases vc K b nb p <;> rfl]
    rcases Nat.lt_trichotomy p P with g | g | g
    · rw [decide_eq_true g, decide_eq_false (by omega)]
      cases vc K b nb p <;> cases x p <;> cases x P <;> cases vc C cf s p <;> rfl
    · subst g
      rw [decide_eq_false (by omega), decide_eq_true rfl]
      cases vc K b nb p <;> cases x p <;> cases vc C cf s p <;> rfl
    · rw [decide_eq_false (by omega), decide_eq_false (by omega), hx p (by omega)]
      cases vc K b nb p <;> cases x P <;> cases vc C cf s p <;> rfl
  · intro c hc
    exact k6 c (by rw [← hc]; exact (vc_congr (fun _ _ => rfl) hn).symm)
theorem Rst.drop (h : Rst dv P C K v s nb) (hv : ∀ i, i < C → v' i = v i) (hs : ∀ i, i < C → s' i = s i) (hn : ∀ j, j < K → nb' j = nb j)
    (hw : vx (dv P) (vc C cf v) = v0) (hu : ∀ p, nb' K p = (decide (p = P) ^^ vc C cf s p)) :
    Rst dv (P + 1) C (K + 1) v' s' nb' := by
  obtain ⟨n1, n2, n3⟩ := rst_new h hu
  obtain ⟨k2, k3, ⟨k4, k4'⟩, k5, k6, k7⟩ := h
  refine ⟨fun i hi => ?_, fun j hj => ?_, ⟨fun i hi p hq => ?_, fun j hj p hq => ?_⟩, fun x hx => ?_, ?_, by omega⟩
  · rw [hv i hi, hs i hi, vc_ext (k4 i hi P (Nat.le_refl _)), k2 i hi]
  · by_cases e : j = K
    · rw [e, n1, hw]
    · rw [hn j (by omega), vc_ext (k4' j (by omega) P (Nat.le_refl _)), k3 j (by omega)]
  · rw [hs i hi]
    exact k4 i hi p (by omega)
  · by_cases e : j = K
    · rw [e]
      exact n3 p hq
    · rw [hn j (by omega)]
      exact k4' j (by omega) p (by omega)
  · have ex0 : ∃ a b, (fun p => decide (p < P) && x p) = vx (vc C a s) (vc K b nb) := k5 _ (fun p hq => by rw [decide_eq_false (by omega), Bool.false_and])
    obtain ⟨a, b, e⟩ := ex0
    refine ⟨fun i => a i ^^ (x P && cf i), fun j => if j = K then x P else b j, ?_⟩
    have eS : vc C (fun i => a i ^^ (x P && cf i)) s' = vc C (fun i => a i ^^ (x P && cf i)) s := vc_congr (fun _ _ => rfl) hs
    rw [eS, vc_xor]
    funext p
    have e0 := congrFun e p
    have e1 : vc (K + 1) (fun j => if j = K then x P else b j) nb' p = (vc K b nb p ^^ (x P && nb' K p)) := by
      rw [vc_succ]
      unfold vx
      dsimp only
      rw [if_pos rfl]
      congr 1
      exact congrFun (vc_congr (fun i hi => by rw [if_neg (by omega)]) hn) p
    have e2 : vc C (fun i => x P && cf i) s p = (x P && vc C cf s p) := by
      unfold vc
      rw [← xs_and]
      exact xs_congr fun i _ => Bool.and_assoc _ _ _
    unfold vx at e0 ⊢
    rw [e1, hu p, e2]
    rw [show vc C a s p = (vc K b nb p ^^ (decide (p < P) && x p)) by rw [e0]; cases vc C a s p <;> cases vc K b nb p <;> rfl]
    rcases Nat.lt_trichotomy p P with g | g | g
    · rw [decide_eq_true g, decide_eq_false (by omega)]
      cases vc K b nb p <;> cases x p <;> cases x P <;> cases vc C cf s p <;> rfl
    · subst g
      rw [decide_eq_false (by omega), decide_eq_true rfl]
      cases vc K b nb p <;> cases x p <;> cases vc C cf s p <;> rfl
    · rw [decide_eq_false (by omega), decide_eq_false (by omega), hx p (by omega)]
      cases vc K b nb p <;> cases x P <;> cases vc C cf s p <;> rfl
  · intro c hc
    have cK : c K = false := by
      have e := congrFun hc P
      rw [vc_succ] at e
      unfold vx v0 at e
      dsimp only at e
      rw [n2, Bool.and_true, show vc K c nb' P = false from xs_zero' fun j hj => by rw [hn j hj, k4' j hj P (Nat.le_refl _), Bool.and_false], Bool.false_xor] at e
      exact e
    have e2 := k6 c (by
      rw [← hc, vc_ext cK]
      exact (vc_congr (fun _ _ => rfl) hn).symm)
    intro i hi
    by_cases e : i = K
    · rw [e, cK]
    · exact e2 i (by omega)
end RST
/-- goals beside the rows that they were reduced to -/
def GoR (n : Nat) (row w : Nat → Nat → Bool) : Prop := Ind n w ∧ (∀ i, i < n → Spn n w (row i)) ∧ ∀ i, i < n → Spn n row (w i)
theorem GoR.refl {n : Nat} {row : Nat → Nat → Bool} (h : Ind n row) : GoR n row row := ⟨h, fun _ hi => spn_mem hi row, fun _ hi => spn_mem hi row⟩
theorem GoR.add {n : Nat} {row w row' w' : Nat → Nat → Bool} (h : GoR n row w) (hr : ∀ i, i < n → row' i = row i) (hw : ∀ i, i < n → w' i = w i) (hI : Ind (n + 1) row') {cf : Nat → Bool} (hc : row' n = vx (w' n) (vc n cf row)) : GoR (n + 1) row' w' := by
  obtain ⟨h1, h2, h3⟩ := h
  have hc' : w' n = vx (row' n) (vc n cf row) := by rw [hc, vx_assoc, vx_self, vx_0]
  refine ⟨fun c hv => ?_, fun i hi => ?_, fun i hi => ?_⟩
  · cases hn : c n
    · have hz : vc n c w = v0 := by
        rw [← hv, vc_ext hn]
        exact (vc_congr (fun _ _ => rfl) hw).symm
      intro i hi
      by_cases e : i = n
      · rw [e]; exact hn
      · exact h1 c hz i (by omega)
    · exfalso
      -- the new row would be one of the others' sums
      have s1 : Spn n w (w' n) := by
        refine ⟨c, ?_⟩
        rw [vc_succ, vc_congr (c' := c) (w' := w) (fun _ _ => rfl) hw] at hv
        funext q
        have := congrFun hv q
        unfold vx v0 at this
        dsimp only at this
        rw [hn, Bool.true_and] at this
        cases h5 : w' n q <;> cases h6 : vc n c w q <;> rw [h5, h6] at this <;> first | rfl | cases this
      have s2 : Spn n row (row' n) := by
        rw [hc]
        exact spn_add (spn_trans s1 (fun j hj => h3 j hj)) ⟨cf, rfl⟩
      obtain ⟨e, he⟩ := s2
      have := hI (fun i => if i = n then true else e i) (by
        rw [vc_succ, vc_congr (c' := e) (w' := row) (fun i hi => if_neg (by omega)) hr, ← he]
        funext q
        unfold vx v0
        dsimp only
        rw [if_pos rfl, Bool.true_and, Bool.xor_self]) n (by omega)
      rw [if_pos rfl] at this
      cases this
  · by_cases e : i = n
    · rw [e, hc]
      refine spn_add (spn_mem (by omega) w') ?_
      exact spn_trans ⟨cf, rfl⟩ (fun j hj => spn_ext (h2 j hj) (by omega) hw)
    · rw [hr i (by omega)]
      exact spn_ext (h2 i (by omega)) (by omega) hw
  · by_cases e : i = n
    · rw [e, hc']
      exact spn_add (spn_mem (by omega) row') (spn_ext ⟨cf, rfl⟩ (by omega) hr)
    · rw [hw i (by omega)]
      exact spn_ext (h3 i (by omega)) (by omega) hr
