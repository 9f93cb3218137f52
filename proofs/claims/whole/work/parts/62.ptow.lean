/-! the point's tower: it is one, as the theory asks -/
theorem gpA_lt {u v : Nat} (hu : u < 61) (hv : v < 61) : gpA u v < 2 ^ 61 := Nat.le_of_ble_eq_true (range_all (range_all ckGp_ok hu) hv)
theorem gpA_big {u v w : Nat} (hu : u < 61) (hv : v < 61) (hw : 61 ≤ w) : (gpA u v).testBit w = false := Nat.testBit_lt_two_pow (Nat.lt_of_lt_of_le (gpA_lt hu hv) (Nat.pow_le_pow_right (by decide) hw))
theorem eqK_spec {X Y : Nat → Nat} (h : eqK X Y = true) : mk X = mk Y := by
  funext g u
  unfold mk
  by_cases hg : g < 8
  · rw [Nat.eq_of_beq_eq_true (range_all h hg)]
  · simp [hg]
theorem mk_0 : mk (fun _ => 0) = e0 := by
  funext g u
  unfold mk e0
  simp
theorem vK_lt {s t : Nat} {X : Nat → Nat} (h : vK s t X = true) {p : Nat} (hp : p < 8) : X p < 2 ^ 61 := by
  have := range_all h hp
  simp only [Bool.and_eq_true] at this
  exact Nat.le_of_ble_eq_true this.1
theorem vK_in {s t : Nat} {X : Nat → Nat} (h : vK s t X = true) : FIn dgA (pv s) (pd s) t (mk X) := by
  intro p u hpu
  unfold mk at hpu
  simp only [Bool.and_eq_true, decide_eq_true_eq] at hpu
  have h1 := range_all h hpu.1
  simp only [Bool.and_eq_true, Bool.or_eq_true] at h1
  have hu : u < 61 := by
    rcases Nat.lt_or_ge u 61 with q | q
    · exact q
    · rw [Nat.testBit_lt_two_pow (Nat.lt_of_lt_of_le (vK_lt h hpu.1) (Nat.pow_le_pow_right (by decide) q))] at hpu
      exact absurd hpu.2 (by decide)
  rcases h1.2 with h2 | h2
  · rw [Nat.eq_of_beq_eq_true h2, Nat.zero_testBit] at hpu
    exact absurd hpu.2 (by decide)
  · have h3 := range_all h2 hu
    rw [hpu.2] at h3
    simp only [Bool.not_true, Bool.false_or, Bool.and_eq_true] at h3
    exact ⟨h3.1, hu, Nat.eq_of_beq_eq_true h3.2⟩
theorem fact_mk {u : Nat} (hu : u < 61) {Y : Nat → Nat} (hY : ∀ a, a < 8 → Y a < 2 ^ 61) : fact caA u (mk Y) = mk (fun a => xtr61 (Y a) (fun v => gpA u v)) := by
  funext a w
  unfold fact mk
  by_cases ha : a < 8
  · simp only [ha, decide_true, Bool.true_and]
    rw [xtr61_bit (hY a ha)]
    by_cases hw : w < 61
    · simp only [hw, decide_true, Bool.true_and]
      rfl
    · simp only [hw, decide_false, Bool.false_and]
      symm
      exact xs_zero' (fun v hv => by rw [gpA_big hu hv (by omega)]; exact Bool.and_false _)
  · simp [ha, xs_zero]
/-- a linear map of masks -/
theorem es2_mk {X : Nat → Nat} (hX : ∀ p, p < 8 → X p < 2 ^ 61) (Z : Nat → Nat → Nat → Nat) : es2 8 (mk X) (fun p u => mk (Z p u)) = mk (fun q => xorN 8 (fun p => xtr61 (X p) (fun u => Z p u q))) := by
  funext q w
  rw [es2_at]
  unfold mk
  by_cases hq : q < 8
  · simp only [hq, decide_true, Bool.true_and]
    rw [xorN_bit]
    apply xs_congr
    intro p hp
    simp only [hp, decide_true, Bool.true_and]
    exact (xtr61_bit (hX p hp) _ _).symm
  · simp only [hq, decide_false, Bool.false_and]
    exact xs_zero' (fun p _ => xs_zero' (fun u _ => Bool.and_false _))
theorem pv_lt (s p : Nat) (h : pv s p = true) : p < 8 := by
  unfold pv at h
  simp only [Bool.and_eq_true, decide_eq_true_eq] at h
  have h6 : ∀ s, s < 6 → (pDeg.getD s []).length ≤ 8 := by decide
  exact Nat.lt_of_lt_of_le h.2 (h6 s h.1)
theorem ckGen_at {s p : Nat} (hs : s ≤ 5) (h : pv s p = true) : pd s p ≤ 14 ∧ (match (generalizing := false) s with
  | 0 => Nat.beq p 0 && Nat.beq (pd 0 p) 0
  | s + 1 => vK s (pd (s + 1) p) (pM (s + 1) p) && eqK (dK s (pM (s + 1) p)) (fun _ => 0)) = true := by
  have h1 := range_all (range_all ckGen_ok (show s < 6 by omega)) (pv_lt s p h)
  rw [h] at h1
  simp only [Bool.not_true, Bool.false_or, Bool.and_eq_true] at h1
  exact ⟨Nat.le_of_ble_eq_true h1.1, h1.2⟩
theorem pM_lt {s p : Nat} (hs : s + 1 ≤ 5) (h : pv (s + 1) p = true) {a : Nat} (ha : a < 8) : pM (s + 1) p a < 2 ^ 61 := by
  have h1 := (ckGen_at hs h).2
  simp only [Bool.and_eq_true] at h1
  exact vK_lt h1.1 ha
/-- the differential on masks -/
theorem Dm_mk {s t : Nat} (hs : s ≤ 5) {X : Nat → Nat} (hX : vK s t X = true) : Dm 8 caA pAct pδ s (mk X) = mk (dK s X) := by
  cases s with
  | zero =>
    funext a b
    show fm 8 pAct (pδ 0) (mk X) a b = _
    unfold fm
    rw [es2_at, xs_one (k := 0) (by decide) _ (fun p hp hne => xs_zero' (fun u _ => by
      have hz : pδ 0 p = e0 := by
        funext g w
        show (decide (g < 8) && (pM 0 p g).testBit w) = false
        by_cases hg : g < 8
        · rw [pM_0 p hp hne g hg, Nat.zero_testBit]; exact Bool.and_false _
        · simp [hg]
      rw [hz]
      have : pAct u e0 = e0 := by unfold pAct; split <;> rfl
      rw [this]
      exact Bool.and_false _)), xs_one (k := 0) (by decide) _ (fun u _ hne => by
      unfold pAct
      rw [if_neg hne]
      exact Bool.and_false _)]
    show ((decide (0 < 8) && (X 0).testBit 0) && (decide (a < 8) && (pM 0 0 a).testBit b)) = (decide (a < 8) && (if a = 0 then X 0 % 2 else 0).testBit b)
    by_cases ha : a < 8
    · rw [pM_00 a ha]
      by_cases ha0 : a = 0
      · subst ha0
        rw [if_pos rfl, if_pos rfl, Nat.testBit_zero]
        rcases Nat.mod_two_eq_zero_or_one (X 0) with h | h <;> rw [h] <;> simp
      · rw [if_neg ha0, if_neg ha0]
        simp
    · simp [ha]
  | succ s =>
    show fm 8 (fact caA) (pδ (s + 1)) (mk X) = _
    have e : ∀ p u, u < 61 → (mk X) p u = true → fact caA u (pδ (s + 1) p) = mk (fun a => xtr61 (pM (s + 1) p a) (fun v => gpA u v)) := fun p u hu hpu => fact_mk hu (fun a ha => pM_lt hs (vK_in hX p u hpu).1 ha)
    have e2 : fm 8 (fact caA) (pδ (s + 1)) (mk X) = es2 8 (mk X) (fun p u => mk (fun a => xtr61 (pM (s + 1) p a) (fun v => gpA u v))) := by
      funext a b
      unfold fm
      rw [es2_at, es2_at]
      apply xs_congr
      intro p _
      apply xs_congr
      intro u hu
      cases hc : mk X p u
      · rfl
      · rw [e p u hu hc]
    rw [e2, es2_mk (fun p hp => vK_lt hX hp)]
    rfl
theorem pt_gen : RGen dgA caA pIn pAct 8 5 14 pv pd pδ := by
  refine ⟨fun s hs p h => ⟨pv_lt s p h, (ckGen_at hs h).1, ?_⟩, fun s hs p h => ?_⟩
  · have h1 := (ckGen_at hs h).2
    cases s with
    | zero =>
      simp only [Bool.and_eq_true] at h1
      have hp0 := Nat.eq_of_beq_eq_true h1.1
      subst hp0
      intro a b hab
      have h2 : (decide (a < 8) && (pM 0 0 a).testBit b) = true := hab
      simp only [Bool.and_eq_true, decide_eq_true_eq] at h2
      rw [pM_00 a h2.1] at h2
      by_cases ha : a = 0
      · subst ha
        rw [if_pos rfl] at h2
        refine ⟨rfl, ?_, Nat.eq_of_beq_eq_true h1.2⟩
        have h3 := h2.2
        rw [show (1 : Nat) = 2 ^ 0 from rfl, Nat.testBit_two_pow] at h3
        simpa using (of_decide_eq_true h3).symm
      · rw [if_neg ha, Nat.zero_testBit] at h2
        exact absurd h2.2 (by decide)
    | succ s =>
      simp only [Bool.and_eq_true] at h1
      exact vK_in h1.1
  · have h1 := (ckGen_at (s := s + 1) (by omega) h).2
    simp only [Bool.and_eq_true] at h1
    show Dm 8 caA pAct pδ s (mk (pM (s + 1) p)) = e0
    rw [Dm_mk (by omega) h1.1, eqK_spec h1.2, mk_0]
theorem ckSpl_all {s : Nat} (hs : s < 6) : ckSpl s = true := by
  have h : s = 0 ∨ s = 1 ∨ s = 2 ∨ s = 3 ∨ s = 4 ∨ s = 5 := by omega
  rcases h with rfl | rfl | rfl | rfl | rfl | rfl
  · exact ckSpl_0
  · exact ckSpl_1
  · exact ckSpl_2
  · exact ckSpl_3
  · exact ckSpl_4
  · exact ckSpl_5
theorem dK_lt {s t : Nat} (hs : s ≤ 5) {X : Nat → Nat} (hX : vK s t X = true) {h : Nat} (hh : h < 8) : dK s X h < 2 ^ 61 := by
  apply Nat.lt_pow_two_of_testBit
  intro w hw
  have e : mk (dK s X) h w = false := by
    rw [← Dm_mk hs hX]
    have hin := fm_in (y := pδ s) (N := 8) (modL algA (pt_mod algA) pv pd s) (fun g h => (pt_gen.1 s hs g h).2.2) (vK_in hX)
    cases s with
    | zero =>
      cases hc : Dm 8 caA pAct pδ 0 (mk X) h w
      · rfl
      · have := (hin h w hc).2.1
        omega
    | succ s =>
      cases hc : Dm 8 caA pAct pδ (s + 1) (mk X) h w
      · rfl
      · have := (hin h w hc).2.1
        omega
  unfold mk at e
  simpa [hh] using e
/-- every element is the kernel's part and what comes back -/
theorem pt_split {s t : Nat} (hs : s ≤ 5) (ht : t ≤ 14) {x : EE} (hx : FIn dgA (pv s) (pd s) t x) : ∃ c : Nat → Bool, x = ex (es (pK s t) c (fun i => mk (kD s t i))) (es2 8 (Dm 8 caA pAct pδ s x) (fun h v => mk (yD s h v))) := by
  have hb : ∀ p u, x p u = true → vK s t (bas p u) = true ∧ mk (bas p u) = ex (es (pK s t) (fun i => (eD s p u).testBit i) (fun i => mk (kD s t i))) (es2 8 (Dm 8 caA pAct pδ s (mk (bas p u))) (fun h v => mk (yD s h v))) := by
    intro p u hpu
    obtain ⟨h1, h2, h3⟩ := hx p u hpu
    have h4 := range_all (ckSpl_all (show s < 6 by omega)) (pv_lt s p h1)
    rw [h1] at h4
    simp only [Bool.not_true, Bool.false_or] at h4
    have h5 := range_all h4 h2
    rw [h3] at h5
    simp only [Bool.or_eq_true, Bool.and_eq_true] at h5
    rcases h5 with h5 | h5
    · exact absurd (Nat.le_of_ble_eq_true h5) (by omega)
    · refine ⟨h5.1, ?_⟩
      rw [Dm_mk hs h5.1, es2_mk (fun h hh => dK_lt hs h5.1 hh)]
      refine (eqK_spec h5.2).trans ?_
      funext q w
      unfold mk ex es
      by_cases hq : q < 8
      · simp only [hq, decide_true, Bool.true_and]
        rw [Nat.testBit_xor, xorN_bit]
        congr 1
        apply xs_congr
        intro i _
        cases (eD s p u).testBit i <;> simp
      · simp only [hq, decide_false, Bool.false_and]
        rw [xs_zero' (fun i _ => Bool.and_false _)]
        rfl
  have hxs : x = es2 8 x (fun p u => mk (bas p u)) := by
    funext q w
    rw [es2_at]
    have e : ∀ p u, mk (bas p u) q w = (decide (q < 8) && (decide (q = p) && decide (u = w))) := by
      intro p u
      unfold mk bas
      by_cases h : q = p
      · rw [if_pos h, Nat.testBit_two_pow]; simp [h]
      · rw [if_neg h, Nat.zero_testBit]; simp [h]
    by_cases hq : q < 8
    · by_cases hw : w < 61
      · rw [xs_one hq _ (fun p _ hne => xs_zero' (fun u _ => by rw [e]; simp [Ne.symm hne])), xs_one hw _ (fun u _ hne => by rw [e]; simp [hne]), e]
        simp [hq]
      · rw [xs_zero' (fun p _ => xs_zero' (fun u hu => by rw [e]; simp [show ¬ u = w by omega]))]
        cases hc : x q w
        · rfl
        · exact absurd (hx q w hc).2.1 hw
    · rw [xs_zero' (fun p hp => xs_zero' (fun u hu => by rw [e]; simp [hq]))]
      cases hc : x q w
      · rfl
      · exact absurd (pv_lt s q (hx q w hc).1) hq
  refine ⟨fun i => xs_ 8 (fun p => xs_ 61 (fun u => x p u && (eD s p u).testBit i)), ?_⟩
  -- the way back is additive
  have hY : ∀ z z', es2 8 (ex z z') (fun h v => mk (yD s h v)) = ex (es2 8 z (fun h v => mk (yD s h v))) (es2 8 z' (fun h v => mk (yD s h v))) := by
    intro z z'
    funext a b
    unfold ex
    rw [es2_at, es2_at, es2_at, ← xs_xor]
    apply xs_congr
    intro h _
    rw [← xs_xor]
    apply xs_congr
    intro v _
    exact bx1 _ _ _
  have hY0 : es2 8 e0 (fun h v => mk (yD s h v)) = e0 := by
    funext a b
    rw [es2_at]
    exact xs_zero' (fun _ _ => xs_zero' (fun _ _ => rfl))
  have hL : ∀ z z', es2 8 (Dm 8 caA pAct pδ s (ex z z')) (fun h v => mk (yD s h v)) = ex (es2 8 (Dm 8 caA pAct pδ s z) (fun h v => mk (yD s h v))) (es2 8 (Dm 8 caA pAct pδ s z') (fun h v => mk (yD s h v))) := fun z z' => by rw [Dm_add, hY]
  have hL0 : es2 8 (Dm 8 caA pAct pδ s e0) (fun h v => mk (yD s h v)) = e0 := by rw [Dm_0, hY0]
  have hsum : es2 8 (Dm 8 caA pAct pδ s x) (fun h v => mk (yD s h v)) = es2 8 x (fun p u => es2 8 (Dm 8 caA pAct pδ s (mk (bas p u))) (fun h v => mk (yD s h v))) := by
    have h1 := add_es (f := fun z => es2 8 (Dm 8 caA pAct pδ s z) (fun h v => mk (yD s h v))) hL hL0 8 (fun _ => true) (fun p => es 61 (x p) (fun u => mk (bas p u)))
    have h2 : (fun z => es2 8 (Dm 8 caA pAct pδ s z) (fun h v => mk (yD s h v))) x = es2 8 (Dm 8 caA pAct pδ s x) (fun h v => mk (yD s h v)) := rfl
    rw [← h2]
    conv => lhs; rw [hxs]
    refine h1.trans ?_
    unfold es2
    funext a b
    unfold es
    apply xs_congr
    intro p _
    exact congrArg (fun z => true && z) (congrFun (congrFun (add_es (f := fun z => es2 8 (Dm 8 caA pAct pδ s z) (fun h v => mk (yD s h v))) hL hL0 61 (x p) (fun u => mk (bas p u))) a) b)
  rw [hsum]
  refine hxs.trans ?_
  funext a b
  unfold ex es
  rw [es2_at, es2_at]
  have e1 : xs_ (pK s t) (fun i => xs_ 8 (fun p => xs_ 61 (fun u => x p u && (eD s p u).testBit i)) && mk (kD s t i) a b) = xs_ 8 (fun p => xs_ 61 (fun u => x p u && xs_ (pK s t) (fun i => (eD s p u).testBit i && mk (kD s t i) a b))) := by
    rw [xs_congr (g := fun i => xs_ 8 (fun p => xs_ 61 (fun u => x p u && ((eD s p u).testBit i && mk (kD s t i) a b)))) (fun i _ => by
      rw [← xs_and']
      apply xs_congr
      intro p _
      rw [← xs_and']
      apply xs_congr
      intro u _
      exact Bool.and_assoc _ _ _), xs_comm]
    apply xs_congr
    intro p _
    rw [xs_comm]
    apply xs_congr
    intro u _
    exact xs_and _ _ _
  rw [e1, ← xs_xor]
  apply xs_congr
  intro p _
  rw [← xs_xor]
  apply xs_congr
  intro u _
  cases hc : x p u
  · rfl
  · have := congrFun (congrFun (hb p u hc).2 a) b
    rw [this]
    simp only [Bool.true_and]
    exact rfl
theorem ck_ker {s t i : Nat} (hs : s ≤ 5) (ht : t ≤ 14) (hi : i < pK s t) : vK s t (kD s t i) = true ∧ Dm 8 caA pAct pδ s (mk (kD s t i)) = e0 := by
  have h := range_all (range_all (range_all ckKer_ok (show s < 6 by omega)) (show t < 15 by omega)) hi
  simp only [Bool.and_eq_true] at h
  exact ⟨h.1, by rw [Dm_mk hs h.1, eqK_spec h.2, mk_0]⟩
theorem pt_ker (s t : Nat) (hs : s ≤ 5) (ht : t ≤ 14) : KSp dgA caA pAct 8 pv pd pδ s t (pK s t) := by
  refine ⟨fun i => mk (kD s t i), fun i hi => ⟨vK_in (ck_ker hs ht hi).1, (ck_ker hs ht hi).2⟩, fun x hx h0 => ?_⟩
  obtain ⟨c, hc⟩ := pt_split hs ht hx
  refine ⟨c, ?_⟩
  rw [h0] at hc
  rw [hc]
  have : es2 8 e0 (fun h v => mk (yD s h v)) = e0 := by
    funext a b
    rw [es2_at]
    exact xs_zero' (fun _ _ => xs_zero' (fun _ _ => rfl))
  rw [this, ex_0]
theorem pt_exa : RExa dgA caA pIn pAct 8 5 14 pv pd pδ := by
  refine ⟨fun t ht m hm => ?_, fun s hs t ht x hx h0 => ?_⟩
  · cases hc : m 0 0
    · refine ⟨e0, fun _ _ h => (by cases h), ?_⟩
      rw [Dm_0]
      funext a b
      cases hab : m a b
      · rfl
      · obtain ⟨rfl, rfl, -⟩ := hm a b hab
        rw [hc] at hab
        cases hab
    · have ht0 := (hm 0 0 hc).2.2
      subst ht0
      have hv : vK 0 0 (bas 0 0) = true := by decide +kernel
      refine ⟨mk (bas 0 0), vK_in hv, ?_⟩
      rw [Dm_mk (by decide) hv]
      funext a b
      show (decide (a < 8) && (if a = 0 then bas 0 0 0 % 2 else 0).testBit b) = m a b
      by_cases ha : a = 0
      · subst ha
        rw [if_pos rfl]
        by_cases hb : b = 0
        · subst hb; rw [hc]; decide
        · have e1 : (bas 0 0 0 % 2).testBit b = false := by
            rw [show bas 0 0 0 % 2 = 2 ^ 0 from rfl, Nat.testBit_two_pow]
            simp [Ne.symm hb]
          rw [e1]
          cases hab : m 0 b
          · rfl
          · exact absurd (hm 0 b hab).2.1 hb
      · rw [if_neg ha, Nat.zero_testBit, Bool.and_false]
        cases hab : m a b
        · rfl
        · exact absurd (hm a b hab).1 ha
  · obtain ⟨w, w1, w2⟩ := pt_ker s t (by omega) ht
    obtain ⟨c, hc⟩ := pt_split (by omega) ht hx
    have hz : es2 8 e0 (fun h v => mk (yD s h v)) = e0 := by
      funext a b
      rw [es2_at]
      exact xs_zero' (fun _ _ => xs_zero' (fun _ _ => rfl))
    rw [h0, hz, ex_0] at hc
    have hpre : ∀ i, i < pK s t → vK (s + 1) t (aD s t i) = true ∧ Dm 8 caA pAct pδ (s + 1) (mk (aD s t i)) = mk (kD s t i) := by
      intro i hi
      have h := range_all (range_all (range_all ckPre_ok (show s < 5 by omega)) (show t < 15 by omega)) hi
      simp only [Bool.and_eq_true] at h
      exact ⟨h.1, by rw [Dm_mk (by omega) h.1, eqK_spec h.2]⟩
    refine ⟨es (pK s t) c (fun i => mk (aD s t i)), in_es (free_mod algA (pv (s + 1)) (pd (s + 1))).1 (free_mod algA (pv (s + 1)) (pd (s + 1))).2.1 (fun i hi _ => vK_in (hpre i hi).1), ?_⟩
    rw [add_es (Dm_add 8 caA pAct pδ (s + 1)) (Dm_0 8 caA pAct pδ (s + 1)), hc]
    funext a b
    unfold es
    apply xs_congr
    intro i hi
    show (c i && Dm 8 caA pAct pδ (s + 1) (mk (aD s t i)) a b) = _
    rw [(hpre i hi).2]
