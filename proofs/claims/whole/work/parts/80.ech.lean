/-! rows in steps: what is kept, what goes to nothing, of which places each is made -/
theorem vc_congr {ι : Type} {n : Nat} {c c' : Nat → Bool} {w w' : Nat → ι → Bool} (h : ∀ i, i < n → c i = c' i) (h' : ∀ i, i < n → w i = w' i) : vc n c w = vc n c' w' := by
  funext q
  unfold vc
  exact xs_congr fun i hi => by rw [h i hi, h' i hi]
theorem vc_succ {ι : Type} (n : Nat) (c : Nat → Bool) (w : Nat → ι → Bool) : vc (n + 1) c w = vx (vc n c w) (fun q => c n && w n q) := rfl
theorem vc_vc {ι : Type} (P C : Nat) (cf : Nat → Bool) (s : Nat → Nat → Bool) (dv : Nat → ι → Bool) : vc P (vc C cf s) dv = vc C cf (fun i => vc P (s i) dv) := by
  funext q
  unfold vc
  have e : ∀ p, p < P → (xs_ C (fun i => cf i && s i p) && dv p q) = xs_ C (fun i => cf i && (s i p && dv p q)) := fun p _ => by
    rw [← xs_and']
    exact xs_congr fun i _ => Bool.and_assoc _ _ _
  rw [xs_congr e, xs_comm]
  exact xs_congr fun i _ => xs_and _ _ _
theorem vx_self {ι : Type} (x : ι → Bool) : vx x x = v0 := by funext q; unfold vx v0; exact Bool.xor_self _
theorem vx_0 {ι : Type} (x : ι → Bool) : vx x v0 = x := by funext q; unfold vx v0; exact Bool.xor_false _
theorem v0_vx {ι : Type} (x : ι → Bool) : vx v0 x = x := by funext q; unfold vx v0; exact Bool.false_xor _
theorem vx_comm {ι : Type} (x y : ι → Bool) : vx x y = vx y x := by funext q; unfold vx; exact Bool.xor_comm _ _
theorem vx_assoc {ι : Type} (x y z : ι → Bool) : vx (vx x y) z = vx x (vx y z) := by funext q; unfold vx; exact Bool.xor_assoc _ _ _
theorem vc_0 {ι : Type} (n : Nat) (w : Nat → ι → Bool) : vc n (fun _ => false) w = v0 := by
  funext q
  unfold vc v0
  exact xs_zero' fun i _ => Bool.false_and _
theorem vc_one {ι : Type} {n k : Nat} (hk : k < n) (w : Nat → ι → Bool) : vc n (fun i => decide (i = k)) w = w k := by
  funext q
  unfold vc
  exact xs_single hk (fun i => w i q)
/-- where kept rows lead -/
def PvI (gp C : Nat) (v : Nat → Nat → Bool) (pv : Nat → Int) : Prop :=
  (∀ i, i < C → ∃ l, l < gp ∧ pv l = (i : Int)) ∧ (∀ l, l < gp → pv l = -1 ∨ ∃ i, i < C ∧ pv l = (i : Int) ∧ v i l = true ∧ ∀ q, q < l → v i q = false) ∧ ∀ i, i < C → ∀ q, gp ≤ q → v i q = false
theorem PvI.lead {gp C : Nat} {v : Nat → Nat → Bool} {pv : Nat → Int} (h : PvI gp C v pv) {i : Nat} (hi : i < C) : ∃ l, l < gp ∧ pv l = (i : Int) ∧ v i l = true ∧ ∀ q, q < l → v i q = false := by
  obtain ⟨l, h1, h2⟩ := h.1 i hi
  rcases h.2.1 l h1 with h3 | ⟨j, h3, h4, h5, h6⟩
  · omega
  · have : j = i := by omega
    subst this
    exact ⟨l, h1, h2, h5, h6⟩
/-- rows with leads of their own are independent -/
theorem PvI.ind {gp C : Nat} {v : Nat → Nat → Bool} {pv : Nat → Int} (h : PvI gp C v pv) : Ind C v := by
  intro c hc
  have key : ∀ m l, l < gp → l + m = gp → ∀ i, i < C → pv l = (i : Int) → c i = false := by
    have all : ∀ l, l < gp → ∀ i, i < C → pv l = (i : Int) → c i = false := by
      intro l
      induction l using Nat.strongRecOn with
      | ind l ih =>
        intro hl i hi hp
        have e := congrFun hc l
        unfold vc v0 at e
        rw [xs_one hi _ (fun j hj hne => ?_)] at e
        · rcases h.2.1 l hl with h3 | ⟨k, h3, h4, h5, h6⟩
          · omega
          · have : k = i := by omega
            subst this
            rw [h5, Bool.and_true] at e
            exact e
        · obtain ⟨l', h1', h2', h3', h4'⟩ := h.lead hj
          rcases Nat.lt_trichotomy l' l with g | g | g
          · rw [ih l' g h1' j hj h2', Bool.false_and]
          · subst g
            exact absurd (by omega : j = i) hne
          · rw [h4' l g, Bool.and_false]
    exact fun m l hl _ => all l hl
  intro i hi
  obtain ⟨l, h1, h2⟩ := h.1 i hi
  exact key (gp - l) l h1 (by omega) i hi h2
theorem PvI.add {gp C : Nat} {v v' : Nat → Nat → Bool} {pv pv' : Nat → Int} (h : PvI gp C v pv) (hv : ∀ i, i < C → v' i = v i) {l : Nat} (hl : l < gp) (h1 : pv l = -1) (h2 : v' C l = true) (h3 : ∀ q, q < l → v' C q = false) (h4 : ∀ q, gp ≤ q → v' C q = false) (hp : ∀ x, x < gp → pv' x = if x = l then (C : Int) else pv x) : PvI gp (C + 1) v' pv' := by
  refine ⟨fun i hi => ?_, fun x hx => ?_, fun i hi q hq => ?_⟩
  · by_cases e : i = C
    · exact ⟨l, hl, by rw [hp l hl, if_pos rfl, e]⟩
    · obtain ⟨l', g1, g2⟩ := h.1 i (by omega)
      refine ⟨l', g1, ?_⟩
      rw [hp l' g1, if_neg (fun z => by rw [z, h1] at g2; omega)]
      exact g2
  · rw [hp x hx]
    by_cases e : x = l
    · rw [if_pos e]
      subst e
      exact Or.inr ⟨C, by omega, rfl, h2, h3⟩
    · rw [if_neg e]
      rcases h.2.1 x hx with g | ⟨i, g1, g2, g3, g4⟩
      · exact Or.inl g
      · exact Or.inr ⟨i, by omega, g2, by rw [hv i g1]; exact g3, fun q hq => by rw [hv i g1]; exact g4 q hq⟩
  · by_cases e : i = C
    · rw [e]
      exact h4 q hq
    · rw [hv i (by omega)]
      exact h.2.2 i (by omega) q hq
theorem PvI.same {gp C : Nat} {v v' : Nat → Nat → Bool} {pv pv' : Nat → Int} (h : PvI gp C v pv) (hv : ∀ i, i < C → v' i = v i) (hp : ∀ x, x < gp → pv' x = pv x) : PvI gp C v' pv' := by
  refine ⟨fun i hi => ?_, fun x hx => ?_, fun i hi q hq => ?_⟩
  · obtain ⟨l, g1, g2⟩ := h.1 i hi
    exact ⟨l, g1, by rw [hp l g1]; exact g2⟩
  · rw [hp x hx]
    rcases h.2.1 x hx with g | ⟨i, g1, g2, g3, g4⟩
    · exact Or.inl g
    · exact Or.inr ⟨i, g1, g2, by rw [hv i g1]; exact g3, fun q hq => by rw [hv i g1]; exact g4 q hq⟩
  · rw [hv i hi]
    exact h.2.2 i hi q hq
/-- the places 0 .. P-1 are through: C rows kept, K go to nothing -/
def EchI (dv : Nat → Nat → Bool) (gp P C K : Nat) (v s nb : Nat → Nat → Bool) (pv : Nat → Int) : Prop :=
  PvI gp C v pv ∧ (∀ i, i < C → v i = vc P (s i) dv) ∧ (∀ j, j < K → vc P (nb j) dv = v0) ∧ ((∀ i, i < C → ∀ p, P ≤ p → s i p = false) ∧ ∀ j, j < K → ∀ p, P ≤ p → nb j p = false) ∧
  (∀ x : Nat → Bool, (∀ p, P ≤ p → x p = false) → ∃ a b, x = vx (vc C a s) (vc K b nb)) ∧ Ind K nb ∧ C + K = P
theorem vc_ext {ι : Type} {P : Nat} {c : Nat → Bool} {dv : Nat → ι → Bool} (h : c P = false) : vc (P + 1) c dv = vc P c dv := by
  rw [vc_succ, h]
  funext q
  unfold vx
  dsimp only
  rw [Bool.false_and, Bool.xor_false]
theorem EchI.start (dv : Nat → Nat → Bool) (gp : Nat) (v s nb : Nat → Nat → Bool) {pv : Nat → Int} (hp : ∀ l, l < gp → pv l = -1) : EchI dv gp 0 0 0 v s nb pv := by
  refine ⟨⟨fun i hi => by omega, fun l hl => Or.inl (hp l hl), fun i hi => by omega⟩, fun i hi => by omega, fun i hi => by omega, ⟨fun i hi => by omega, fun i hi => by omega⟩, fun x hx => ⟨fun _ => false, fun _ => false, ?_⟩, fun c _ i hi => by omega, rfl⟩
  funext q
  exact hx q (Nat.zero_le _)
section STEP
variable {dv : Nat → Nat → Bool} {gp P C K : Nat} {v s nb v' s' nb' : Nat → Nat → Bool} {pv pv' : Nat → Int} {cf u : Nat → Bool}
theorem src_new (h : EchI dv gp P C K v s nb pv) (hu : ∀ p, u p = (decide (p = P) ^^ vc C cf s p)) : vc (P + 1) u dv = vx (dv P) (vc C cf v) ∧ u P = true ∧ ∀ p, P + 1 ≤ p → u p = false := by
  obtain ⟨h1, h2, h3, ⟨h4, h4'⟩, h5, h6, h7⟩ := h
  have z : ∀ p, P ≤ p → vc C cf s p = false := fun p hp => xs_zero' fun i hi => by rw [h4 i hi p hp, Bool.and_false]
  have uP : u P = true := by rw [hu, z P (Nat.le_refl _), decide_eq_true rfl]; rfl
  refine ⟨?_, uP, fun p hp => by rw [hu, z p (by omega), decide_eq_false (by omega)]; rfl⟩
  rw [vc_succ, uP]
  have e1 : vc P u dv = vc C cf v := by
    rw [vc_congr (c' := vc C cf s) (w' := dv) (fun p hp => by rw [hu, decide_eq_false (by omega), Bool.false_xor]) (fun _ _ => rfl), vc_vc]
    exact vc_congr (fun _ _ => rfl) (fun i hi => (h2 i hi).symm)
  rw [e1, vx_comm]
  rfl
theorem EchI.keep (h : EchI dv gp P C K v s nb pv) (hv : ∀ i, i < C → v' i = v i) (hs : ∀ i, i < C → s' i = s i) (hn : ∀ j, j < K → nb' j = nb j)
    (hw : v' C = vx (dv P) (vc C cf v)) (hu : ∀ p, s' C p = (decide (p = P) ^^ vc C cf s p)) {l : Nat} (hl : l < gp) (h1 : pv l = -1) (h2 : v' C l = true) (h3 : ∀ q, q < l → v' C q = false) (h4 : ∀ q, gp ≤ q → v' C q = false) (hp : ∀ x, x < gp → pv' x = if x = l then (C : Int) else pv x) :
    EchI dv gp (P + 1) (C + 1) K v' s' nb' pv' := by
  obtain ⟨n1, n2, n3⟩ := src_new h hu
  obtain ⟨k1, k2, k3, ⟨k4, k4'⟩, k5, k6, k7⟩ := h
  refine ⟨k1.add hv hl h1 h2 h3 h4 hp, fun i hi => ?_, fun j hj => ?_, ⟨fun i hi p hq => ?_, fun j hj p hq => ?_⟩, fun x hx => ?_, ?_, by omega⟩
  · by_cases e : i = C
    · rw [e, n1, hw]
    · rw [hv i (by omega), hs i (by omega), vc_ext (k4 i (by omega) P (Nat.le_refl _)), k2 i (by omega)]
  · rw [hn j hj, vc_ext (k4' j hj P (Nat.le_refl _)), k3 j hj]
  · by_cases e : i = C
    · rw [e]
      exact n3 p hq
    · rw [hs i (by omega)]
      exact k4 i (by omega) p (by omega)
  · rw [hn j hj]
    exact k4' j hj p (by omega)
  · -- x without P, then the new row if x has P
    have ex0 : ∃ a b, (fun p => decide (p < P) && x p) = vx (vc C a s) (vc K b nb) := k5 _ (fun p hq => by rw [decide_eq_false (by omega), Bool.false_and])
    obtain ⟨a, b, e⟩ := ex0
    refine ⟨fun i => if i = C then x P else (a i ^^ (x P && cf i)), b, ?_⟩
    have eN : vc K b nb' = vc K b nb := vc_congr (fun _ _ => rfl) hn
    rw [eN]
    funext p
    have e0 := congrFun e p
    have e1 : vc (C + 1) (fun i => if i = C then x P else (a i ^^ (x P && cf i))) s' p = ((vc C a s p ^^ (x P && vc C cf s p)) ^^ (x P && s' C p)) := by
      rw [vc_succ]
      unfold vx
      dsimp only
      rw [if_pos rfl]
      congr 1
      rw [show (vc C a s p ^^ (x P && vc C cf s p)) = vx (vc C a s) (vc C (fun i => x P && cf i) s) p from ?_, ← vc_xor]
      · exact congrFun (vc_congr (fun i hi => by rw [if_neg (by omega)]) hs) p
      · unfold vx vc
        rw [← xs_and]
        congr 1
        exact xs_congr fun i _ => (Bool.and_assoc _ _ _).symm
    unfold vx at e0 ⊢
    rw [e1, hu p]
    rw [show vc C a s p = (vc K b nb p ^^ (decide (p < P) && x p)) by rw [e0]; cases vc C a s p <;> cases vc K b nb p <;> rfl]
    rcases Nat.lt_trichotomy p P with g | g | g
    · rw [decide_eq_true g, decide_eq_false (by omega)]
      cases vc K b nb p <;> cases x p <;> cases x P <;> cases vc C cf s p <;> rfl
    · subst g
      rw [decide_eq_false (by omega), decide_eq_true rfl]
      cases vc K b nb p <;> cases x p <;> cases vc C cf s p <;> rfl
    · rw [decide_eq_false (by omega), decide_eq_false (by omega), hx p (by omega)]
      cases vc K b nb p <;> cases x P <;> cases vc C cf s p <;> rfl
  · intro c hc
    exact k6 c (by rw [← hc]; exact (vc_congr (fun _ _ => rfl) hn).symm)
theorem EchI.drop (h : EchI dv gp P C K v s nb pv) (hv : ∀ i, i < C → v' i = v i) (hs : ∀ i, i < C → s' i = s i) (hn : ∀ j, j < K → nb' j = nb j)
    (hw : vx (dv P) (vc C cf v) = v0) (hu : ∀ p, nb' K p = (decide (p = P) ^^ vc C cf s p)) (hp : ∀ x, x < gp → pv' x = pv x) :
    EchI dv gp (P + 1) C (K + 1) v' s' nb' pv' := by
  obtain ⟨n1, n2, n3⟩ := src_new h hu
  obtain ⟨k1, k2, k3, ⟨k4, k4'⟩, k5, k6, k7⟩ := h
  refine ⟨k1.same hv hp, fun i hi => ?_, fun j hj => ?_, ⟨fun i hi p hq => ?_, fun j hj p hq => ?_⟩, fun x hx => ?_, ?_, by omega⟩
  · rw [hv i hi, hs i hi, vc_ext (k4 i hi P (Nat.le_refl _)), k2 i hi]
  · by_cases e : j = K
    · rw [e, n1, hw]
    · rw [hn j (by omega), vc_ext (k4' j (by omega) P (Nat.le_refl _)), k3 j (by omega)]
  · rw [hs i hi]
    exact k4 i hi p (by omega)
  · by_cases e : j = K
    · rw [e]
      exact n3 p hq
    · rw [hn j (by omega)]
      exact k4' j (by omega) p (by omega)
  · have ex0 : ∃ a b, (fun p => decide (p < P) && x p) = vx (vc C a s) (vc K b nb) := k5 _ (fun p hq => by rw [decide_eq_false (by omega), Bool.false_and])
    obtain ⟨a, b, e⟩ := ex0
    refine ⟨fun i => a i ^^ (x P && cf i), fun j => if j = K then x P else b j, ?_⟩
    have eS : vc C (fun i => a i ^^ (x P && cf i)) s' = vc C (fun i => a i ^^ (x P && cf i)) s := vc_congr (fun _ _ => rfl) hs
    rw [eS, vc_xor]
    funext p
    have e0 := congrFun e p
    have e1 : vc (K + 1) (fun j => if j = K then x P else b j) nb' p = (vc K b nb p ^^ (x P && nb' K p)) := by
      rw [vc_succ]
      unfold vx
      dsimp only
      rw [if_pos rfl]
      congr 1
      exact congrFun (vc_congr (fun i hi => by rw [if_neg (by omega)]) hn) p
    have e2 : vc C (fun i => x P && cf i) s p = (x P && vc C cf s p) := by
      unfold vc
      rw [← xs_and]
      exact xs_congr fun i _ => Bool.and_assoc _ _ _
    unfold vx at e0 ⊢
    rw [e1, hu p, e2]
    rw [show vc C a s p = (vc K b nb p ^^ (decide (p < P) && x p)) by rw [e0]; cases vc C a s p <;> cases vc K b nb p <;> rfl]
    rcases Nat.lt_trichotomy p P with g | g | g
    · rw [decide_eq_true g, decide_eq_false (by omega)]
      cases vc K b nb p <;> cases x p <;> cases x P <;> cases vc C cf s p <;> rfl
    · subst g
      rw [decide_eq_false (by omega), decide_eq_true rfl]
      cases vc K b nb p <;> cases x p <;> cases vc C cf s p <;> rfl
    · rw [decide_eq_false (by omega), decide_eq_false (by omega), hx p (by omega)]
      cases vc K b nb p <;> cases x P <;> cases vc C cf s p <;> rfl
  · intro c hc
    have cK : c K = false := by
      have e := congrFun hc P
      rw [vc_succ] at e
      unfold vx v0 at e
      dsimp only at e
      rw [n2, Bool.and_true, show vc K c nb' P = false from xs_zero' fun j hj => by rw [hn j hj, k4' j hj P (Nat.le_refl _), Bool.and_false], Bool.false_xor] at e
      exact e
    have e2 := k6 c (by
      rw [← hc, vc_ext cK]
      exact (vc_congr (fun _ _ => rfl) hn).symm)
    intro i hi
    by_cases e : i = K
    · rw [e, cK]
    · exact e2 i (by omega)
end STEP
