/-! modules over an algebra with a base of 61, by twos; elements are tables of bits -/
abbrev EE : Type := Nat → Nat → Bool
def ex (x y : EE) : EE := fun a b => x a b ^^ y a b
def e0 : EE := fun _ _ => false
def eu (g : Nat) : EE := fun a b => decide (a = g) && decide (b = 0)
/-- the algebra: degrees and coefficients; the base has 61, number 0 is the unit -/
def IsAlg (dg : Nat → Nat) (ca : Nat → Nat → Nat → Bool) : Prop :=
  (∀ u v x, u < 61 → v < 61 → ∀ w, w < 61 → x < 61 → xs_ 61 (fun y => ca u v y && ca y w x) = xs_ 61 (fun y => ca v w y && ca u y x)) ∧
  (∀ v w, v < 61 → w < 61 → ca 0 v w = decide (v = w)) ∧ (∀ v w, v < 61 → w < 61 → ca v 0 w = decide (v = w)) ∧
  (∀ u v w, u < 61 → v < 61 → w < 61 → ca u v w = true → dg w = dg u + dg v) ∧ (dg 0 = 0) ∧ (∀ u, u < 61 → u ≠ 0 → 0 < dg u)
/-- a module: which elements are of a degree, how the base acts -/
def IsMod (dg : Nat → Nat) (ca : Nat → Nat → Nat → Bool) (In : Nat → EE → Prop) (act : Nat → EE → EE) : Prop :=
  (∀ t x y, In t x → In t y → In t (ex x y)) ∧ (∀ t, In t e0) ∧ (∀ u x y, act u (ex x y) = ex (act u x) (act u y)) ∧ (∀ u, act u e0 = e0) ∧
  (∀ u t x, u < 61 → In t x → In (t + dg u) (act u x)) ∧ (∀ t x, In t x → act 0 x = x) ∧
  (∀ u v t x, u < 61 → v < 61 → In t x → act u (act v x) = fun a b => xs_ 61 (fun w => ca u v w && act w x a b))
/-- sums of elements -/
def es (n : Nat) (c : Nat → Bool) (z : Nat → EE) : EE := fun a b => xs_ n (fun i => c i && z i a b)
theorem es_succ (n : Nat) (c : Nat → Bool) (z : Nat → EE) : es (n + 1) c z = ex (es n c z) (if c n then z n else e0) := by
  funext a b
  unfold es ex
  rw [show xs_ (n + 1) (fun i => c i && z i a b) = (xs_ n (fun i => c i && z i a b) ^^ (c n && z n a b)) from rfl]
  cases c n <;> rfl
theorem ex_self (x : EE) : ex x x = e0 := by funext a b; unfold ex e0; cases x a b <;> rfl
theorem ex_0 (x : EE) : ex x e0 = x := by funext a b; unfold ex e0; cases x a b <;> rfl
theorem e0_ex (x : EE) : ex e0 x = x := by funext a b; unfold ex e0; cases x a b <;> rfl
theorem ex_comm (x y : EE) : ex x y = ex y x := by funext a b; unfold ex; cases x a b <;> cases y a b <;> rfl
theorem ex_assoc (x y z : EE) : ex (ex x y) z = ex x (ex y z) := by funext a b; unfold ex; cases x a b <;> cases y a b <;> cases z a b <;> rfl
theorem ex_eq {x y : EE} (h : ex x y = e0) : x = y := by
  funext a b
  have := congrFun (congrFun h a) b
  unfold ex e0 at this
  cases hx : x a b <;> cases hy : y a b <;> rw [hx, hy] at this <;> first | rfl | cases this
/-- an additive map goes through sums -/
theorem add_es {f : EE → EE} (h : ∀ x y, f (ex x y) = ex (f x) (f y)) (h0 : f e0 = e0) (n : Nat) (c : Nat → Bool) (z : Nat → EE) : f (es n c z) = es n c (fun i => f (z i)) := by
  induction n with
  | zero => exact h0
  | succ n ih =>
    rw [es_succ, es_succ, h, ih]
    congr 1
    cases c n
    · exact h0
    · rfl
theorem in_es {In : Nat → EE → Prop} (h1 : ∀ t x y, In t x → In t y → In t (ex x y)) (h0 : ∀ t, In t e0) {t n : Nat} {c : Nat → Bool} {z : Nat → EE} (h : ∀ i, i < n → c i = true → In t (z i)) : In t (es n c z) := by
  induction n with
  | zero => exact h0 t
  | succ n ih =>
    rw [es_succ]
    refine h1 _ _ _ (ih (fun i hi => h i (by omega))) ?_
    cases hc : c n
    · exact h0 t
    · exact h n (by omega) hc
/-- a double sum -/
def es2 (N : Nat) (x : EE) (z : Nat → Nat → EE) : EE := es N (fun _ => true) (fun g => es 61 (x g) (z g))
theorem es2_at (N : Nat) (x : EE) (z : Nat → Nat → EE) (a b : Nat) : es2 N x z a b = xs_ N (fun g => xs_ 61 (fun u => x g u && z g u a b)) := by
  unfold es2 es
  apply xs_congr
  intro g _
  simp
/-- the free module on generators gv of degrees d -/
def FIn (dg : Nat → Nat) (gv : Nat → Bool) (d : Nat → Nat) (t : Nat) (x : EE) : Prop := ∀ g u, x g u = true → gv g = true ∧ u < 61 ∧ d g + dg u = t
def fact (ca : Nat → Nat → Nat → Bool) (u : Nat) (x : EE) : EE := fun g w => decide (w < 61) && xs_ 61 (fun v => x g v && ca u v w)
theorem bxor_false {a b : Bool} : (a ^^ b) = true → a = true ∨ b = true := by cases a <;> cases b <;> simp
theorem free_mod {dg : Nat → Nat} {ca : Nat → Nat → Nat → Bool} (hA : IsAlg dg ca) (gv : Nat → Bool) (d : Nat → Nat) : IsMod dg ca (FIn dg gv d) (fact ca) := by
  obtain ⟨a1, a2, a3, a4, a5, a6⟩ := hA
  refine ⟨fun t x y hx hy g u h => ?_, fun t g u h => (by cases h), fun u x y => ?_, fun u => ?_, fun u t x hu hx g w h => ?_, fun t x hx => ?_, fun u v t x hu hv hx => ?_⟩
  · rcases bxor_false h with h | h
    · exact hx g u h
    · exact hy g u h
  · funext g w
    unfold fact ex
    by_cases hw : w < 61
    · simp only [hw, decide_true, Bool.true_and]
      rw [← xs_xor]
      apply xs_congr
      intro v _
      cases x g v <;> cases y g v <;> cases ca u v w <;> rfl
    · simp [hw]
  · funext g w
    unfold fact e0
    simp [xs_zero]
  · unfold fact at h
    simp only [Bool.and_eq_true, decide_eq_true_eq] at h
    obtain ⟨hw, h⟩ := h
    have : ∃ v, v < 61 ∧ x g v = true ∧ ca u v w = true := Classical.byContradiction fun hn => by
      rw [xs_zero' (fun v hv => by
        cases e1 : x g v
        · rfl
        · cases e2 : ca u v w
          · rfl
          · exact absurd ⟨v, hv, e1, e2⟩ hn)] at h
      cases h
    obtain ⟨v, hv, h1, h2⟩ := this
    obtain ⟨g1, g2, g3⟩ := hx g v h1
    have := a4 u v w hu hv hw h2
    exact ⟨g1, hw, by omega⟩
  · funext g w
    unfold fact
    by_cases hw : w < 61
    · simp only [hw, decide_true, Bool.true_and]
      rw [xs_congr (g := fun v => decide (v = w) && x g v) (fun v hv => by rw [a2 v w hv hw, Bool.and_comm]), xs_single hw]
    · simp only [hw, decide_false, Bool.false_and]
      cases e : x g w
      · rfl
      · exact absurd (hx g w e).2.1 hw
  · funext g w
    by_cases hw : w < 61
    · have e1 : fact ca u (fact ca v x) g w = xs_ 61 (fun y => xs_ 61 (fun z => x g z && (ca v z y && ca u y w))) := by
        unfold fact
        simp only [hw, decide_true, Bool.true_and]
        apply xs_congr
        intro y hy
        simp only [hy, decide_true, Bool.true_and]
        rw [← xs_and']
        apply xs_congr
        intro z _
        cases x g z <;> cases ca v z y <;> cases ca u y w <;> rfl
      rw [e1, xs_comm]
      have e2 : xs_ 61 (fun y => ca u v y && fact ca y x g w) = xs_ 61 (fun y => xs_ 61 (fun z => x g z && (ca u v y && ca y z w))) := by
        apply xs_congr
        intro y hy
        unfold fact
        simp only [hw, decide_true, Bool.true_and]
        rw [← xs_and]
        apply xs_congr
        intro z _
        cases x g z <;> cases ca u v y <;> cases ca y z w <;> rfl
      rw [e2, xs_comm 61 61 (fun y z => x g z && (ca u v y && ca y z w))]
      apply xs_congr
      intro z hz
      rw [xs_and, xs_and, a1 u v w hu hv z hz hw]
    · have e1 : fact ca u (fact ca v x) g w = false := by unfold fact; simp [hw]
      rw [e1]
      symm
      apply xs_zero'
      intro y _
      unfold fact
      simp [hw]
/-- the map out of a free module that takes the generators to y -/
def fm (N : Nat) (act : Nat → EE → EE) (y : Nat → EE) (x : EE) : EE := es2 N x (fun g u => act u (y g))
theorem fm_add (N : Nat) (act : Nat → EE → EE) (y : Nat → EE) (x x' : EE) : fm N act y (ex x x') = ex (fm N act y x) (fm N act y x') := by
  funext a b
  unfold fm ex
  rw [es2_at, es2_at, es2_at, ← xs_xor]
  apply xs_congr
  intro g _
  rw [← xs_xor]
  apply xs_congr
  intro u _
  cases x g u <;> cases x' g u <;> cases act u (y g) a b <;> rfl
theorem fm_0 (N : Nat) (act : Nat → EE → EE) (y : Nat → EE) : fm N act y e0 = e0 := by
  funext a b
  unfold fm e0
  rw [es2_at]
  exact xs_zero' (fun g _ => xs_zero' (fun u _ => rfl))
section MODS
variable {dg : Nat → Nat} {ca : Nat → Nat → Nat → Bool} {In : Nat → EE → Prop} {act : Nat → EE → EE} {gv : Nat → Bool} {d : Nat → Nat} {N : Nat} {y : Nat → EE}
theorem fm_in (hM : IsMod dg ca In act) (hy : ∀ g, gv g = true → In (d g) (y g)) {t : Nat} {x : EE} (hx : FIn dg gv d t x) : In t (fm N act y x) := by
  obtain ⟨m1, m2, m3, m4, m5, m6, m7⟩ := hM
  unfold fm es2
  refine in_es m1 m2 (fun g _ _ => in_es m1 m2 (fun u hu hc => ?_))
  obtain ⟨h1, h2, h3⟩ := hx g u hc
  have := m5 u (d g) (y g) hu (hy g h1)
  rw [h3] at this
  exact this
theorem fm_gen (hA : IsAlg dg ca) (hM : IsMod dg ca In act) (hy : ∀ g, gv g = true → In (d g) (y g)) {g : Nat} (hg : gv g = true) (hN : g < N) : fm N act y (eu g) = y g := by
  funext a b
  unfold fm
  rw [es2_at, xs_one hN _ (fun h _ hne => xs_zero' (fun u _ => by simp [eu, hne])), xs_one (k := 0) (by decide) _ (fun u _ hne => by simp [eu, hne])]
  rw [hM.2.2.2.2.2.1 (d g) (y g) (hy g hg)]
  simp [eu]
theorem fm_act (hM : IsMod dg ca In act) (hy : ∀ g, gv g = true → In (d g) (y g)) {t u : Nat} (hu : u < 61) {x : EE} (hx : FIn dg gv d t x) : fm N act y (fact ca u x) = act u (fm N act y x) := by
  obtain ⟨m1, m2, m3, m4, m5, m6, m7⟩ := hM
  have e1 : act u (fm N act y x) = es2 N x (fun g v => act u (act v (y g))) := by
    unfold fm es2
    rw [add_es (m3 u) (m4 u)]
    funext a b
    unfold es
    apply xs_congr
    intro g _
    exact congrArg (fun z => true && z) (congrFun (congrFun (add_es (m3 u) (m4 u) 61 (x g) (fun v => act v (y g))) a) b)
  rw [e1]
  funext a b
  unfold fm
  rw [es2_at, es2_at]
  apply xs_congr
  intro g _
  have e2 : xs_ 61 (fun w => fact ca u x g w && act w (y g) a b) = xs_ 61 (fun w => xs_ 61 (fun v => x g v && (ca u v w && act w (y g) a b))) := by
    apply xs_congr
    intro w hw
    unfold fact
    simp only [hw, decide_true, Bool.true_and]
    rw [← xs_and']
    apply xs_congr
    intro v _
    cases x g v <;> cases ca u v w <;> cases act w (y g) a b <;> rfl
  rw [e2, xs_comm]
  apply xs_congr
  intro v hv
  rw [xs_and]
  cases hx0 : x g v
  · rw [Bool.false_and, Bool.false_and]
  · rw [m7 u v (d g) (y g) hu hv (hy g (hx g v hx0).1)]
/-- two free maps one behind the other -/
theorem fm_fm {gv' : Nat → Bool} {d' : Nat → Nat} {N' : Nat} {y' : Nat → EE} (hA : IsAlg dg ca) (hM : IsMod dg ca In act) (hy' : ∀ g, gv' g = true → In (d' g) (y' g)) (hy : ∀ g, gv g = true → FIn dg gv' d' (d g) (y g)) {t : Nat} {x : EE} (hx : FIn dg gv d t x) : fm N' act y' (fm N (fact ca) y x) = fm N act (fun g => fm N' act y' (y g)) x := by
  unfold fm
  show fm N' act y' (es2 N x (fun g u => fact ca u (y g))) = _
  unfold es2
  rw [add_es (fm_add N' act y') (fm_0 N' act y')]
  funext a b
  unfold es
  apply xs_congr
  intro g _
  refine congrArg (fun z => true && z) ((congrFun (congrFun (add_es (fm_add N' act y') (fm_0 N' act y') 61 (x g) (fun u => fact ca u (y g))) a) b).trans ?_)
  unfold es
  apply xs_congr
  intro u hu
  cases hc : x g u
  · rw [Bool.false_and, Bool.false_and]
  · have h := fm_act (N := N') hM hy' hu (hy g (hx g u hc).1)
    exact congrArg (fun z => true && z) (congrFun (congrFun h a) b)
end MODS
