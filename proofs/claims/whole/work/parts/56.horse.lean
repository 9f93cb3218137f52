/-! a tower over a space out of those over its elements, one element more at a time -/
/-- what goes to nothing is spanned by M elements that do -/
def KSp (dg : Nat → Nat) (ca : Nat → Nat → Nat → Bool) (act0 : Nat → EE → EE) (N : Nat) (gv : Nat → Nat → Bool) (d : Nat → Nat → Nat) (δ : Nat → Nat → EE) (s t M : Nat) : Prop := ∃ w : Nat → EE, (∀ i, i < M → FIn dg (gv s) (d s) t (w i) ∧ Dm N ca act0 δ s (w i) = e0) ∧ ∀ x, FIn dg (gv s) (d s) t x → Dm N ca act0 δ s x = e0 → ∃ c, x = es M c w
def sIn (de : Nat → Nat) (S : Nat → Bool) (t : Nat) (x : EE) : Prop := ∀ a b, x a b = true → b = 0 ∧ S a = true ∧ de a = t
def sAct (am : Nat → Nat → Nat → Bool) (S : Nat → Bool) (u : Nat) (x : EE) : EE := fun a b => decide (b = 0) && (S a && xs_ 12 (fun e => x e 0 && am u e a))
def pIn (t : Nat) (x : EE) : Prop := ∀ a b, x a b = true → a = 0 ∧ b = 0 ∧ t = 0
def pAct (u : Nat) (x : EE) : EE := if u = 0 then x else e0
/-- a part of a sum alone -/
theorem xs_block (f : Nat → Bool) {e : Nat} : ∀ n, e < n → (∀ g, g < 8 * n → g / 8 ≠ e → f g = false) → xs_ (8 * n) f = xs_ 8 (fun p => f (8 * e + p)) := by
  intro n
  induction n with
  | zero => intro h; omega
  | succ n ih =>
    intro h hf
    rw [show 8 * (n + 1) = 8 * n + 8 by omega, xs_add]
    by_cases he : e = n
    · subst he
      rw [xs_zero' (fun g hg => hf g (by omega) (by omega))]
      simp
    · rw [ih (by omega) (fun g hg => hf g (by omega)), xs_zero' (n := 8) (fun p hp => hf (8 * n + p) (by omega) (by omega))]
      simp
def io (e : Nat) : Nat → EE → EE
  | 0, x => fun a b => decide (a = e) && x 0 b
  | _ + 1, x => fun g u => decide (g / 8 = e) && x (g % 8) u
def po (e : Nat) (x : EE) : EE := fun p u => decide (p < 8) && x (8 * e + p) u
def kez : Nat → Nat → Nat
  | 0, a => a
  | _ + 1, g => g / 8
/-- without what belongs to e -/
def ro (e s : Nat) (x : EE) : EE := fun a b => x a b && !decide (kez s a = e)
def gvE (de : Nat → Nat) (pv : Nat → Nat → Bool) (pd : Nat → Nat → Nat) (S : Nat → Bool) (s g : Nat) : Bool := S (g / 8) && (pv s (g % 8) && decide (de (g / 8) + pd s (g % 8) ≤ 14))
def dE (de : Nat → Nat) (pd : Nat → Nat → Nat) (s g : Nat) : Nat := de (g / 8) + pd s (g % 8)
/-- it is of e alone -/
def onE (e s : Nat) (x : EE) : Prop := ∀ a b, x a b = true → kez s a = e
theorem onE_ro {e s : Nat} {x : EE} (h : ro e s x = e0) : onE e s x := by
  intro a b hab
  have := congrFun (congrFun h a) b
  unfold ro e0 at this
  rw [hab] at this
  simpa using this
theorem ro_ex (e s : Nat) (x y : EE) : ro e s (ex x y) = ex (ro e s x) (ro e s y) := by
  funext a b
  unfold ro ex
  exact bx1 _ _ _
theorem ro_on {e s : Nat} {x : EE} (h : onE e s x) : ro e s x = e0 := by
  funext a b
  unfold ro e0
  cases hx : x a b
  · rfl
  · simp [h a b hx]
section HORSE
variable {dg : Nat → Nat} {ca : Nat → Nat → Nat → Bool} {de : Nat → Nat} {am : Nat → Nat → Nat → Bool} {S S' : Nat → Bool} {e : Nat} {pv : Nat → Nat → Bool} {pd : Nat → Nat → Nat} {pδ : Nat → Nat → EE}
/-- the step's ground: e is one more, nothing of S is above it -/
def HStep (dg : Nat → Nat) (ca : Nat → Nat → Nat → Bool) (de : Nat → Nat) (am : Nat → Nat → Nat → Bool) (S S' : Nat → Bool) (e : Nat) : Prop :=
  IsAlg dg ca ∧ IsMod dg ca (sIn de S) (sAct am S) ∧ IsMod dg ca (sIn de S') (sAct am S') ∧ e < 12 ∧ S e = false ∧ (∀ a, S' a = (S a || decide (a = e))) ∧ (∀ a, S' a = true → a < 12) ∧
  (∀ u a, u < 61 → u ≠ 0 → S' a = true → am u e a = false) ∧ ∀ a, am 0 e a = decide (a = e)
theorem fact_io (u : Nat) (y : EE) (s : Nat) : fact ca u (io e (s + 1) y) = io e (s + 1) (fact ca u y) := by
  funext g w
  unfold fact io
  by_cases h : g / 8 = e
  · simp [h]
  · simp [h, xs_zero]
theorem act_io (hH : HStep dg ca de am S S' e) {u s t : Nat} (hu : u < 61) {y : EE} (hy : InL dg pIn pv pd s t y) : acL ca (sAct am S') s u (io e s y) = io e s (acL ca pAct s u y) := by
  cases s with
  | succ s => exact fact_io u y s
  | zero =>
    obtain ⟨-, -, -, he12, -, hS', -, htop, hone⟩ := hH
    funext a b
    show (decide (b = 0) && (S' a && xs_ 12 (fun e' => (decide (e' = e) && y 0 0) && am u e' a))) = (decide (a = e) && pAct u y 0 b)
    rw [xs_one he12 _ (fun e' _ hne => by simp [hne])]
    have hy' : ∀ b, y 0 b = true → b = 0 := fun b h => (hy 0 b h).2.1
    by_cases hu0 : u = 0
    · subst hu0
      rw [hone]
      show _ = (decide (a = e) && y 0 b)
      by_cases ha : a = e
      · subst ha
        have hSa : S' a = true := by rw [hS']; simp
        rw [hSa]
        by_cases hb : b = 0
        · subst hb; simp
        · cases h : y 0 b
          · simp [hb]
          · exact absurd (hy' b h) hb
      · simp [ha]
    · have : pAct u y = e0 := by unfold pAct; rw [if_neg hu0]
      rw [this]
      cases hSa : S' a
      · simp [e0]
      · rw [htop u a hu hu0 hSa]
        simp [e0]
theorem io_xs (s : Nat) (n : Nat) (c : Nat → Bool) (z : Nat → EE) : io e s (es n c z) = es n c (fun i => io e s (z i)) := by
  funext a b
  cases s with
  | zero =>
    show (decide (a = e) && xs_ n (fun i => c i && z i 0 b)) = xs_ n (fun i => c i && (decide (a = e) && z i 0 b))
    rw [← xs_and]
    apply xs_congr
    intro i _
    cases decide (a = e) <;> cases c i <;> rfl
  | succ s =>
    show (decide (a / 8 = e) && xs_ n (fun i => c i && z i (a % 8) b)) = xs_ n (fun i => c i && (decide (a / 8 = e) && z i (a % 8) b))
    rw [← xs_and]
    apply xs_congr
    intro i _
    cases decide (a / 8 = e) <;> cases c i <;> rfl
/-- the new part goes as the point's tower does -/
theorem fm_io (hH : HStep dg ca de am S S' e) (hP : RGen dg ca pIn pAct 8 5 14 pv pd pδ) {s t : Nat} (hs : s ≤ 5) {b : Nat → EE} (hb : ∀ p, p < 8 → b (8 * e + p) = io e s (pδ s p)) {z : EE} (hz : FIn dg (pv s) (pd s) t z) : fm 96 (acL ca (sAct am S') s) b (io e (s + 1) z) = io e s (Dm 8 ca pAct pδ s z) := by
  have he12 := hH.2.2.2.1
  unfold Dm fm es2
  rw [io_xs]
  funext a c
  unfold es
  rw [show (96 : Nat) = 8 * 12 from rfl, xs_block (e := e) _ 12 he12 (fun g hg hne => by
    simp only [Bool.true_and]
    exact xs_zero' (fun u _ => by simp [io, hne]))]
  apply xs_congr
  intro p hp
  simp only [Bool.true_and]
  have hE := congrFun (congrFun (io_xs (e := e) s 61 (z p) (fun u => acL ca pAct s u (pδ s p))) a) c
  refine Eq.trans ?_ hE.symm
  unfold es
  apply xs_congr
  intro u hu
  have e1 : io e (s + 1) z (8 * e + p) u = z p u := by
    show (decide ((8 * e + p) / 8 = e) && z ((8 * e + p) % 8) u) = _
    rw [show (8 * e + p) / 8 = e by omega, show (8 * e + p) % 8 = p by omega]
    simp
  rw [e1]
  cases hc : z p u
  · rfl
  · have hv := (hz p u hc).1
    rw [hb p hp, act_io (pv := pv) (pd := pd) hH hu (hP.1 s hs p hv).2.2]
theorem io_po {s : Nat} {x : EE} (h : onE e (s + 1) x) : io e (s + 1) (po e x) = x := by
  funext g u
  show (decide (g / 8 = e) && (decide (g % 8 < 8) && x (8 * e + g % 8) u)) = x g u
  by_cases hg : g / 8 = e
  · rw [show 8 * e + g % 8 = g by omega]
    simp [hg, Nat.mod_lt]
  · cases hx : x g u
    · simp [hg]
    · exact absurd (h g u hx) hg
theorem po_in {s t : Nat} {x : EE} (hx : FIn dg (gvE de pv pd S' s) (dE de pd s) (de e + t) x) : FIn dg (pv s) (pd s) t (po e x) := by
  intro p u hpu
  unfold po at hpu
  simp only [Bool.and_eq_true, decide_eq_true_eq] at hpu
  obtain ⟨h1, h2, h3⟩ := hx (8 * e + p) u hpu.2
  unfold gvE at h1
  unfold dE at h3
  rw [show (8 * e + p) / 8 = e by omega, show (8 * e + p) % 8 = p by omega] at h1 h3
  simp only [Bool.and_eq_true] at h1
  exact ⟨h1.2.1, h2, by omega⟩
theorem io_in (hH : HStep dg ca de am S S' e) (hlt : ∀ s p, pv s p = true → p < 8) {s t : Nat} (ht : de e + t ≤ 14) {z : EE} (hz : FIn dg (pv s) (pd s) t z) : FIn dg (gvE de pv pd S' s) (dE de pd s) (de e + t) (io e (s + 1) z) := by
  intro g u hgu
  have hgu' : (decide (g / 8 = e) && z (g % 8) u) = true := hgu
  simp only [Bool.and_eq_true, decide_eq_true_eq] at hgu'
  obtain ⟨h1, h2, h3⟩ := hz (g % 8) u hgu'.2
  refine ⟨?_, h2, ?_⟩
  · unfold gvE
    rw [hgu'.1, h1, hH.2.2.2.2.2.1]
    have : de e + pd s (g % 8) ≤ 14 := by omega
    simp [this]
  · unfold dE
    rw [hgu'.1]
    omega
theorem io_on (s : Nat) (z : EE) : onE e s (io e s z) := by
  intro a b h
  cases s with
  | zero =>
    have h' : (decide (a = e) && z 0 b) = true := h
    simp only [Bool.and_eq_true, decide_eq_true_eq] at h'
    exact h'.1
  | succ s =>
    have h' : (decide (a / 8 = e) && z (a % 8) b) = true := h
    simp only [Bool.and_eq_true, decide_eq_true_eq] at h'
    exact h'.1
/-- of a degree below the element's there is nothing of it -/
theorem on_low {s t : Nat} {x : EE} (ht : t < de e) (hx : FIn dg (gvE de pv pd S' s) (dE de pd s) t x) (h : onE e (s + 1) x) : x = e0 := by
  funext g u
  cases hc : x g u
  · rfl
  · obtain ⟨-, -, h3⟩ := hx g u hc
    have := h g u hc
    unfold dE at h3
    rw [show g / 8 = e from this] at h3
    omega
/-- the projection goes with the differentials -/
theorem ro_fm (hH : HStep dg ca de am S S' e) {s t : Nat} {b δs : Nat → EE} (hb : ∀ g, gvE de pv pd S s g = true → ro e s (b g) = δs g) {x : EE} (hx : FIn dg (gvE de pv pd S s) (dE de pd s) t x) : ro e s (fm 96 (acL ca (sAct am S') s) b x) = fm 96 (acL ca (sAct am S) s) δs x := by
  obtain ⟨-, -, -, he12, hSe, hS', -, htop, hone⟩ := hH
  have key : ∀ u, u < 61 → ∀ y, ro e s (acL ca (sAct am S') s u y) = acL ca (sAct am S) s u (ro e s y) := by
    intro u hu y
    funext a c
    cases s with
    | succ s =>
      show ((decide (c < 61) && xs_ 61 (fun v => y a v && ca u v c)) && !decide (a / 8 = e)) = (decide (c < 61) && xs_ 61 (fun v => (y a v && !decide (a / 8 = e)) && ca u v c))
      by_cases h : a / 8 = e
      · simp [h, xs_zero]
      · simp [h]
    | zero =>
      show ((decide (c = 0) && (S' a && xs_ 12 (fun e' => y e' 0 && am u e' a))) && !decide (a = e)) = (decide (c = 0) && (S a && xs_ 12 (fun e' => (y e' 0 && !decide (e' = e)) && am u e' a)))
      by_cases ha : a = e
      · subst ha
        rw [hSe]
        simp
      · have e1 : S' a = S a := by rw [hS']; simp [ha]
        rw [e1]
        cases hSa : S a
        · simp
        · have e2 : am u e a = false := by
            by_cases hu0 : u = 0
            · subst hu0; rw [hone]; simp [ha]
            · exact htop u a hu hu0 (by rw [e1]; exact hSa)
          have e3 : xs_ 12 (fun e' => (y e' 0 && !decide (e' = e)) && am u e' a) = xs_ 12 (fun e' => y e' 0 && am u e' a) := by
            apply xs_congr
            intro e' _
            by_cases h : e' = e
            · subst h; rw [e2]; simp
            · simp [h]
          rw [e3]
          simp [ha]
  funext a c
  unfold ro fm
  rw [es2_at, es2_at, ← xs_and']
  apply xs_congr
  intro g _
  rw [← xs_and']
  apply xs_congr
  intro u hu
  cases hc : x g u
  · rfl
  · have h1 := congrFun (congrFun (key u hu (b g)) a) c
    rw [hb g (hx g u hc).1] at h1
    rw [← h1]
    rfl
end HORSE
