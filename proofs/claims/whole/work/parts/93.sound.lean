/-! a sound space is one -/
theorem xfold_z (m : Nat) (f : Nat → Nat) : ∀ n, (∀ y, y < n → m.testBit y = true → f y = 0) → xfold n m f = 0 := by
  intro n
  induction n with
  | zero => intro _; rfl
  | succ n ih =>
    intro h
    rw [show xfold (n + 1) m f = xfold n m f ^^^ (if m.testBit n then f n else 0) from rfl, ih (fun y hy => h y (by omega))]
    cases hb : m.testBit n
    · rw [if_neg (by decide)]
      rfl
    · rw [if_pos rfl, h n (by omega) hb]
      rfl
theorem xfold_congr {m m' : Nat} {f f' : Nat → Nat} : ∀ n, (∀ y, y < n → m.testBit y = m'.testBit y) → (∀ y, y < n → m.testBit y = true → f y = f' y) → xfold n m f = xfold n m' f' := by
  intro n
  induction n with
  | zero => intro _ _; rfl
  | succ n ih =>
    intro h h'
    rw [show xfold (n + 1) m f = xfold n m f ^^^ (if m.testBit n then f n else 0) from rfl, show xfold (n + 1) m' f' = xfold n m' f' ^^^ (if m'.testBit n then f' n else 0) from rfl, ih (fun y hy => h y (by omega)) (fun y hy => h' y (by omega)), ← h n (by omega)]
    congr 1
    cases hb : m.testBit n
    · rw [if_neg (by decide), if_neg (by decide)]
    · rw [if_pos rfl, if_pos rfl, h' n (by omega) hb]
theorem xfold_pow {w : Nat} (f : Nat → Nat) {n : Nat} (hw : w < n) : xfold n (2 ^ w) f = f w := by
  apply Nat.eq_of_testBit_eq
  intro q
  rw [xfold_bit, xs_one hw]
  · rw [Nat.testBit_two_pow_self, Bool.true_and]
  · intro i hi hne
    rw [Nat.testBit_two_pow_of_ne (fun z => hne z.symm), Bool.false_and]
/-- additive maps of numbers -/
def LinN (f : Nat → Nat) : Prop := f 0 = 0 ∧ ∀ x y, f (x ^^^ y) = f x ^^^ f y
theorem LinN.fold {f : Nat → Nat} (h : LinN f) (m : Nat) (g : Nat → Nat) : ∀ n, f (xfold n m g) = xfold n m (fun y => f (g y)) := by
  intro n
  induction n with
  | zero => exact h.1
  | succ n ih =>
    rw [show xfold (n + 1) m g = xfold n m g ^^^ (if m.testBit n then g n else 0) from rfl, h.2, ih]
    rw [show xfold (n + 1) m (fun y => f (g y)) = xfold n m (fun y => f (g y)) ^^^ (if m.testBit n then f (g n) else 0) from rfl]
    congr 1
    split
    · rfl
    · exact h.1
theorem LinN.sumN {f : Nat → Nat} (h : LinN f) (g : Nat → Nat) : ∀ n, f (xorN n g) = xorN n (fun y => f (g y)) := by
  intro n
  induction n with
  | zero => exact h.1
  | succ n ih =>
    rw [show ∀ f, xorN (n + 1) f = xorN n f ^^^ f n from fun _ => rfl, h.2, ih]
    rfl
theorem xfold_lin (f : Nat → Nat) (n : Nat) : LinN (fun m => xfold n m f) := by
  refine ⟨xfold_z 0 f n (fun y _ hy => by rw [Nat.zero_testBit] at hy; cases hy), fun x y => ?_⟩
  apply Nat.eq_of_testBit_eq
  intro q
  rw [Nat.testBit_xor, xfold_bit, xfold_bit, xfold_bit, ← xs_xor]
  exact xs_congr fun i _ => by rw [Nat.testBit_xor, bx1]
theorem LinN.comp {f g : Nat → Nat} (h : LinN f) (h' : LinN g) : LinN (fun x => f (g x)) := ⟨by show f (g 0) = 0; rw [h'.1, h.1], fun x y => by show f (g (x ^^^ y)) = f (g x) ^^^ f (g y); rw [h'.2, h.2]⟩
theorem xorN_congr {k : Nat} {f g : Nat → Nat} (h : ∀ j, j < k → f j = g j) : xorN k f = xorN k g := by
  induction k with
  | zero => rfl
  | succ k ih =>
    rw [show ∀ f, xorN (k + 1) f = xorN k f ^^^ f k from fun _ => rfl, show ∀ f, xorN (k + 1) f = xorN k f ^^^ f k from fun _ => rfl, ih (fun j hj => h j (by omega)), h k (by omega)]
theorem num_bits (x n : Nat) (h : ∀ a, x.testBit a = true → a < n) : x = xorN n (fun e => if x.testBit e then 2 ^ e else 0) := by
  apply Nat.eq_of_testBit_eq
  intro q
  rw [xorN_bit]
  by_cases hq : q < n
  · rw [xs_one hq]
    · cases hb : x.testBit q
      · rw [if_neg (by decide), Nat.zero_testBit]
      · rw [if_pos rfl, Nat.testBit_two_pow_self]
    · intro i hi hne
      split
      · exact Nat.testBit_two_pow_of_ne hne
      · exact Nat.zero_testBit q
  · cases hb : x.testBit q
    · refine (xs_zero' fun i hi => ?_).symm
      split
      · exact Nat.testBit_two_pow_of_ne (by omega)
      · exact Nat.zero_testBit q
    · exact absurd (h q hb) hq
theorem LinN.ext {f g : Nat → Nat} (hf : LinN f) (hg : LinN g) {n : Nat} (h : ∀ e, e < n → f (2 ^ e) = g (2 ^ e)) {x : Nat} (hx : ∀ a, x.testBit a = true → a < n) : f x = g x := by
  rw [num_bits x n hx, hf.sumN, hg.sumN]
  have : ∀ k, k ≤ n → xorN k (fun y => f (if x.testBit y then 2 ^ y else 0)) = xorN k (fun y => g (if x.testBit y then 2 ^ y else 0)) := by
    intro k
    induction k with
    | zero => intro _; rfl
    | succ k ih =>
      intro hk
      rw [show ∀ f, xorN (k + 1) f = xorN k f ^^^ f k from fun _ => rfl, show ∀ f, xorN (k + 1) f = xorN k f ^^^ f k from fun _ => rfl, ih (by omega)]
      congr 1
      split
      · exact h k (by omega)
      · rw [hf.1, hg.1]
  exact this n (Nat.le_refl n)
theorem sap_lin (A : Nat → Nat → Nat) (n i : Nat) : LinN (sap A n i) := by
  unfold sap
  by_cases h : i = 0
  · simp only [if_pos h]
    exact ⟨rfl, fun _ _ => rfl⟩
  · simp only [if_neg h]
    refine ⟨?_, fun x y => ?_⟩
    · apply Nat.eq_of_testBit_eq
      intro q
      rw [xorN_bit, Nat.zero_testBit]
      exact xs_zero' fun e _ => by rw [Nat.zero_testBit, if_neg (by decide), Nat.zero_testBit]
    · apply Nat.eq_of_testBit_eq
      intro q
      rw [Nat.testBit_xor, xorN_bit, xorN_bit, xorN_bit, ← xs_xor]
      refine xs_congr fun e _ => ?_
      rw [Nat.testBit_xor]
      cases x.testBit e <;> cases y.testBit e <;> simp
/-- elements and acts that fit -/
def SpOK (A : Nat → Nat → Nat) (n : Nat) (de : Nat → Nat) : Prop := n ≤ 12 ∧ (∀ e, e < n → de e ≤ 12) ∧ ∀ i e, 1 ≤ i → e < n → ∀ a, (A i e).testBit a = true → a < n ∧ de a = de e + i
def Hm (de : Nat → Nat) (n t x : Nat) : Prop := ∀ a, x.testBit a = true → a < n ∧ de a = t
theorem sap_one (A : Nat → Nat → Nat) {n i e : Nat} (hi : i ≠ 0) (he : e < n) : sap A n i (2 ^ e) = A i e := by
  unfold sap
  rw [if_neg hi]
  apply Nat.eq_of_testBit_eq
  intro q
  rw [xorN_bit, xs_one he]
  · rw [Nat.testBit_two_pow_self, if_pos rfl]
  · intro j hj hne
    rw [Nat.testBit_two_pow_of_ne (fun z => hne z.symm), if_neg (by decide), Nat.zero_testBit]
section SOUND
variable {A : Nat → Nat → Nat} {n : Nat} {de : Nat → Nat}
theorem sap_hm (h : SpOK A n de) {i t x : Nat} (hx : Hm de n t x) : Hm de n (t + i) (sap A n i x) := by
  intro a ha
  unfold sap at ha
  by_cases h0 : i = 0
  · rw [if_pos h0] at ha
    rw [h0]
    exact hx a ha
  · rw [if_neg h0, xorN_bit] at ha
    obtain ⟨e, he, hb⟩ := xs_ex ha
    cases hxe : x.testBit e
    · rw [hxe, if_neg (by decide), Nat.zero_testBit] at hb
      cases hb
    · rw [hxe, if_pos rfl] at hb
      have h1 := h.2.2 i e (by omega) he a hb
      have h2 := (hx e hxe).2
      omega
theorem hm_zero (h : SpOK A n de) {t x : Nat} (hx : Hm de n t x) (ht : 12 < t) : x = 0 := by
  apply Nat.eq_of_testBit_eq
  intro q
  rw [Nat.zero_testBit]
  cases hb : x.testBit q
  · rfl
  · obtain ⟨h1, h2⟩ := hx q hb
    have := h.2.1 q h1
    omega
def tc (A : Nat → Nat → Nat) (n u x : Nat) : Nat := sap A n (cn u 0) (sap A n (cn u 1) (sap A n (cn u 2) x))
theorem sap_0 (A : Nat → Nat → Nat) (n x : Nat) : sap A n 0 x = x := by
  unfold sap
  rw [if_pos rfl]
theorem tc_lin (A : Nat → Nat → Nat) (n u : Nat) : LinN (tc A n u) := (sap_lin A n _).comp ((sap_lin A n _).comp (sap_lin A n _))
theorem tc_hm (h : SpOK A n de) {u t x : Nat} (hu : u < 61) (hx : Hm de n t x) : Hm de n (t + dgA u) (tc A n u x) := by
  have := sap_hm h (i := cn u 0) (sap_hm h (i := cn u 1) (sap_hm h (i := cn u 2) hx))
  rw [(cn_rest hu).1, show t + (cn u 0 + cn u 1 + cn u 2) = t + cn u 2 + cn u 1 + cn u 0 by omega]
  exact this
theorem tc_rest {u : Nat} (hu : u < 61) (x : Nat) : tc A n u x = sap A n (cn u 0) (tc A n (aR u) x) := by
  obtain ⟨h1, h2, h3, h4, h5, h6⟩ := cn_rest hu
  unfold tc
  rw [h3, h4, h5, sap_0]
/-- THE RULE holds on all elements -/
def RuleOn (A : Nat → Nat → Nat) (n : Nat) : Prop := ∀ a b e, 1 ≤ a → a < 2 * b → a + b ≤ 12 → e < n → sap A n a (A b e) = spr A n a b e
theorem rule_sum (h : SpOK A n de) (hR : RuleOn A n) {a b t y : Nat} (ha : 1 ≤ a) (hab : a < 2 * b) (hy : Hm de n t y) :
    sap A n a (sap A n b y) = xorN (a / 2 + 1) (fun j => if Nat.beq ((b - 1 - j) &&& (a - 2 * j)) (a - 2 * j) then sap A n (a + b - j) (sap A n j y) else 0) := by
  have hj : ∀ k (f : Nat → Nat), (∀ j, j < k → f j = 0) → xorN k f = 0 := by
    intro k f hf
    apply Nat.eq_of_testBit_eq
    intro q
    rw [xorN_bit, Nat.zero_testBit]
    exact xs_zero' fun j hj => by rw [hf j hj, Nat.zero_testBit]
  by_cases hs : a + b ≤ 12
  · refine LinN.ext (f := fun y => sap A n a (sap A n b y)) (g := fun y => xorN (a / 2 + 1) (fun j => if Nat.beq ((b - 1 - j) &&& (a - 2 * j)) (a - 2 * j) then sap A n (a + b - j) (sap A n j y) else 0)) ((sap_lin A n a).comp (sap_lin A n b)) ?_ (n := n) (fun e he => ?_) (fun q hq => (hy q hq).1)
    · refine ⟨hj _ _ (fun j _ => ?_), fun x z => ?_⟩
      · split
        · rw [(sap_lin A n j).1, (sap_lin A n _).1]
        · rfl
      · apply Nat.eq_of_testBit_eq
        intro q
        rw [Nat.testBit_xor, xorN_bit, xorN_bit, xorN_bit, ← xs_xor]
        refine xs_congr fun j _ => ?_
        split
        · rw [(sap_lin A n j).2, (sap_lin A n _).2, Nat.testBit_xor]
        · rw [Nat.zero_testBit]
          rfl
    · show sap A n a (sap A n b (2 ^ e)) = xorN (a / 2 + 1) (fun j => if Nat.beq ((b - 1 - j) &&& (a - 2 * j)) (a - 2 * j) then sap A n (a + b - j) (sap A n j (2 ^ e)) else 0)
      rw [sap_one A (by omega) he, hR a b e ha hab hs he]
      unfold spr
      congr 1
      funext j
      unfold sprt
      by_cases g : (b - 1 - j) &&& (a - 2 * j) = a - 2 * j
      · rw [if_pos g, g, Nat.beq_refl, if_pos rfl]
      · rw [if_neg g, if_neg (fun z => g (Nat.eq_of_beq_eq_true z))]
  · rw [hm_zero h (sap_hm h (i := a) (sap_hm h (i := b) hy)) (by omega), hj]
    intro j hj2
    split
    · exact hm_zero h (sap_hm h (i := a + b - j) (sap_hm h (i := j) hy)) (by omega)
    · rfl
theorem gp_deg {u v w : Nat} (hu : u < 61) (hv : v < 61) (hw : w < 61) (h : (gpA u v).testBit w = true) : dgA w = dgA u + dgA v := algA.2.2.2.1 u v w hu hv hw h
/-- one square behind a chain -/
theorem single_chain (h : SpOK A n de) (hR : RuleOn A n) {t x : Nat} (hx : Hm de n t x) : ∀ m i v, 15 * (i + dgA v) + (14 - i) = m → v < 61 → 1 ≤ i → i + dgA v ≤ 14 → sap A n i (tc A n v x) = xfold 61 (gpA (sg i) v) (fun w => tc A n w x) := by
  intro m
  induction m using Nat.strongRecOn with
  | ind m ih =>
    intro i v hm hv hi hd
    obtain ⟨r1, r2, r3, r4, r5, r6, r7⟩ := cn_rest hv
    rcases rule_at hv hi hd with ⟨g1, g2, w, w1, w2, w3, w4, w5⟩ | ⟨g1, g2⟩
    · rw [w2, xfold_pow _ w1]
      unfold tc
      rw [w3, w4, w5, g2, sap_0]
    · have hb : 0 < cn v 0 := by omega
      obtain ⟨s1, -⟩ := cn_rest r2
      have hy := tc_hm h r2 hx
      rw [tc_rest hv, rule_sum h hR hi g1 hy, g2]
      unfold rul
      rw [(xfold_lin (fun w => tc A n w x) 61).sumN]
      refine xorN_congr (fun j hj => ?_)
      · split
        · have e1 : sap A n j (tc A n (aR v) x) = xfold 61 (gpA (sg j) (aR v)) (fun w => tc A n w x) := by
            by_cases h0 : j = 0
            · rw [h0, sap_0, show sg 0 = 0 from rfl, show gpA 0 (aR v) = 2 ^ aR v from ?_, xfold_pow _ r2]
              have := range_all aUnit_ok r2
              simp only [Bool.and_eq_true] at this
              exact Nat.eq_of_beq_eq_true this.1
            · exact ih _ (by omega) j (aR v) rfl r2 (by omega) (by omega)
          obtain ⟨k1, k2, k3, k4, k5⟩ := sg_ok (i := j) (by omega)
          rw [e1, (sap_lin A n _).fold]
          have e2 : xfold 61 (gpA (sg j) (aR v)) (fun y => sap A n (i + cn v 0 - j) (tc A n y x)) = xfold 61 (gpA (sg j) (aR v)) (fun y => xfold 61 (gpA (sg (i + cn v 0 - j)) y) (fun w => tc A n w x)) := xfold_congr 61 (fun _ _ => rfl) (fun y hy hb2 => by
            have hdy := gp_deg k1 r2 hy hb2
            exact ih _ (by omega) (i + cn v 0 - j) y rfl hy (by omega) (by omega))
          rw [e2]
          exact ((xfold_lin (fun w => tc A n w x) 61).fold _ _ 61).symm
        · exact ((xfold_lin (fun w => tc A n w x) 61).1).symm
theorem single_chain0 (h : SpOK A n de) (hR : RuleOn A n) {t x : Nat} (hx : Hm de n t x) {i v : Nat} (hv : v < 61) (hi : i ≤ 14) : sap A n i (tc A n v x) = xfold 61 (gpA (sg i) v) (fun w => tc A n w x) := by
  by_cases h0 : i = 0
  · rw [h0, sap_0, show sg 0 = 0 from rfl, show gpA 0 v = 2 ^ v from ?_, xfold_pow _ hv]
    have := range_all aUnit_ok hv
    simp only [Bool.and_eq_true] at this
    exact Nat.eq_of_beq_eq_true this.1
  · by_cases hd : i + dgA v ≤ 14
    · exact single_chain h hR hx _ i v rfl hv (by omega) hd
    · obtain ⟨k1, k2, k3, k4, k5⟩ := sg_ok hi
      rw [hm_zero h (sap_hm h (i := i) (tc_hm h hv hx)) (by omega)]
      refine (xfold_z _ _ 61 (fun y hy hb => ?_)).symm
      have h1 := gp_deg k1 hv hy hb
      have h2 := dgA_le hy
      omega
/-- a chain behind a chain -/
theorem chain_chain (h : SpOK A n de) (hR : RuleOn A n) {t x : Nat} (hx : Hm de n t x) {v : Nat} (hv : v < 61) : ∀ m u, dgA u = m → u < 61 → tc A n u (tc A n v x) = xfold 61 (gpA u v) (fun w => tc A n w x) := by
  intro m
  induction m using Nat.strongRecOn with
  | ind m ih =>
    intro u hm hu
    by_cases h0 : u = 0
    · subst h0
      rw [show gpA 0 v = 2 ^ v from ?_, xfold_pow _ hv]
      · unfold tc
        rw [show cn 0 0 = 0 from rfl, show cn 0 1 = 0 from rfl, show cn 0 2 = 0 from rfl, sap_0, sap_0, sap_0]
      · have := range_all aUnit_ok hv
        simp only [Bool.and_eq_true] at this
        exact Nat.eq_of_beq_eq_true this.1
    · obtain ⟨r1, r2, r3, r4, r5, r6, r7⟩ := cn_rest hu
      obtain ⟨s1, -⟩ := cn_rest r2
      have hp := r7 h0
      have hdu := dgA_le hu
      obtain ⟨k1, k2, k3, k4, k5⟩ := sg_ok (i := cn u 0) (by omega)
      rw [tc_rest hu, ih _ (by omega) (aR u) rfl r2, (sap_lin A n _).fold]
      have e2 : xfold 61 (gpA (aR u) v) (fun y => sap A n (cn u 0) (tc A n y x)) = xfold 61 (gpA (aR u) v) (fun y => xfold 61 (gpA (sg (cn u 0)) y) (fun w => tc A n w x)) := xfold_congr 61 (fun _ _ => rfl) (fun y hy _ => single_chain0 h hR hx hy (by omega))
      rw [e2]
      have e3 := ((xfold_lin (fun w => tc A n w x) 61).fold (gpA (aR u) v) (fun y => gpA (sg (cn u 0)) y) 61).symm
      refine e3.trans (xfold_congr 61 (fun w hw => ?_) (fun _ _ _ => rfl))
      rw [xfold_bit]
      have ha := algA.1 (sg (cn u 0)) (aR u) w k1 r2 v hv hw
      have e4 : xs_ 61 (fun y => caA (sg (cn u 0)) (aR u) y && caA y v w) = caA u v w := by
        rw [xs_one hu]
        · unfold caA
          rw [r6, Nat.testBit_two_pow_self, Bool.true_and]
        · intro i hi hne
          unfold caA
          rw [r6, Nat.testBit_two_pow_of_ne (fun z => hne z.symm), Bool.false_and]
      rw [e4] at ha
      exact ha.symm
/-- what chains make of elements -/
def amC (A : Nat → Nat → Nat) (n u e a : Nat) : Bool := decide (e < n) && (tc A n u (2 ^ e)).testBit a
theorem hm_one {e : Nat} (he : e < n) : Hm de n (de e) (2 ^ e) := fun a ha => by
  rw [Nat.testBit_two_pow] at ha
  have := of_decide_eq_true ha
  subst this
  exact ⟨he, rfl⟩
/-- an additive map by its values on elements -/
theorem LinN.bits {f : Nat → Nat} (hf : LinN f) {x : Nat} (hx : ∀ a, x.testBit a = true → a < 12) (q : Nat) : (f x).testBit q = xs_ 12 (fun e => x.testBit e && (f (2 ^ e)).testBit q) := by
  have e := congrArg f (num_bits x 12 hx)
  rw [hf.sumN] at e
  rw [e, xorN_bit]
  refine xs_congr fun i _ => ?_
  cases x.testBit i
  · rw [if_neg (by decide), hf.1, Nat.zero_testBit]
    rfl
  · rw [if_pos rfl, Bool.true_and]
theorem sound_sp (h : SpOK A n de) (hR : RuleOn A n) : IsSp dgA caA de (amC A n) n := by
  refine ⟨h.1, fun u e a hu hb => ?_, fun e a he => ?_, fun u v e a hu hv he => ?_⟩
  · unfold amC at hb
    simp only [Bool.and_eq_true, decide_eq_true_eq] at hb
    obtain ⟨h1, h2⟩ := tc_hm h hu (hm_one (de := de) hb.1) a hb.2
    exact ⟨hb.1, h1, h2⟩
  · unfold amC tc
    rw [decide_eq_true he, Bool.true_and, show cn 0 0 = 0 from rfl, show cn 0 1 = 0 from rfl, show cn 0 2 = 0 from rfl, sap_0, sap_0, sap_0, Nat.testBit_two_pow]
    exact decide_eq_decide.mpr ⟨fun z => z.symm, fun z => z.symm⟩
  · have hx := hm_one (de := de) he
    have e1 := congrArg (fun z => z.testBit a) (chain_chain h hR hx hv _ u rfl hu)
    rw [(tc_lin A n u).bits (fun q hq => by have := (tc_hm h hv hx q hq).1; have := h.1; omega), xfold_bit] at e1
    refine Eq.trans ?_ (e1.trans ?_)
    · refine xs_congr fun b _ => ?_
      unfold amC
      rw [decide_eq_true he, Bool.true_and]
      by_cases hb : b < n
      · rw [decide_eq_true hb, Bool.true_and]
      · rw [decide_eq_false hb, Bool.false_and, Bool.and_false]
        cases hz : (tc A n v (2 ^ e)).testBit b
        · rfl
        · exact absurd (tc_hm h hv hx b hz).1 hb
    · refine xs_congr fun w _ => ?_
      unfold amC caA
      rw [decide_eq_true he, Bool.true_and]
end SOUND
/-- no fault: THE RULE holds -/
theorem fe_none {P : Nat → Bool} : ∀ {k e : Nat}, fe P k e = none → ∀ i, i < k → P (e + i) = false := by
  intro k
  induction k with
  | zero => intro e _ i hi; omega
  | succ k ih =>
    intro e h i hi
    have h' : (if P e then some e else fe P k (e + 1)) = none := h
    cases hp : P e
    · rw [hp, if_neg (by decide)] at h'
      by_cases z : i = 0
      · rw [z]; exact hp
      · have := ih h' (i - 1) (by omega)
        rw [show e + 1 + (i - 1) = e + i by omega] at this
        exact this
    · rw [hp, if_pos rfl] at h'
      cases h'
theorem fbb_none {n : Nat} {P : Nat → Nat → Bool} : ∀ {k b : Nat}, fbb n P k b = none → ∀ i, i < k → ∀ e, e < n → P (b + i) e = false := by
  intro k
  induction k with
  | zero => intro b _ i hi; omega
  | succ k ih =>
    intro b h i hi e he
    have h' : (match fe (P b) n 0 with
      | some e => some (b, e)
      | none => fbb n P k (b + 1)) = none := h
    cases hf : fe (P b) n 0 with
    | some x => rw [hf] at h'; cases h'
    | none =>
      rw [hf] at h'
      by_cases z : i = 0
      · have := fe_none hf e he
        rw [Nat.zero_add] at this
        rw [z]
        exact this
      · have := ih h' (i - 1) (by omega) e he
        rw [show b + 1 + (i - 1) = b + i by omega] at this
        exact this
theorem faa_none {n : Nat} {P : Nat → Nat → Nat → Bool} : ∀ {k a : Nat}, faa n P k a = none → ∀ i, i < k → fbb n (P (a + i)) (12 - (a + i) - (a + i) / 2) ((a + i) / 2 + 1) = none := by
  intro k
  induction k with
  | zero => intro a _ i hi; omega
  | succ k ih =>
    intro a h i hi
    have h' : (match fbb n (P a) (12 - a - a / 2) (a / 2 + 1) with
      | some (b, e) => some (a, b, e)
      | none => faa n P k (a + 1)) = none := h
    cases hf : fbb n (P a) (12 - a - a / 2) (a / 2 + 1) with
    | some x => rw [hf] at h'; cases h'
    | none =>
      rw [hf] at h'
      by_cases z : i = 0
      · rw [z]; exact hf
      · have := ih h' (i - 1) (by omega)
        rw [show a + 1 + (i - 1) = a + i by omega] at this
        exact this
theorem rule_of {A : Nat → Nat → Nat} {n : Nat} (h : sFault A n = none) : RuleOn A n := by
  intro a b e ha hab hs he
  have h1 := faa_none h (a - 1) (by omega)
  rw [show 1 + (a - 1) = a by omega] at h1
  have h2 := fbb_none h1 (b - (a / 2 + 1)) (by omega) e he
  rw [show a / 2 + 1 + (b - (a / 2 + 1)) = b by omega] at h2
  unfold spBad at h2
  exact Nat.eq_of_beq_eq_true (by simpa using h2)
