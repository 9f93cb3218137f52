/-! Space: apply, byTheRule, findFault, firstFault, isSound -/
/-- the acts of a space's memory, as bits -/
def spA (I : zFi) (ac : Nat) (A : Nat → Nat → Nat) : Prop := ∀ i e : Nat, 1 ≤ i → e < 12 → sac I ac (i : Int) (e : Int) = (A i e : Int) ∧ A i e < 4096
def sap (A : Nat → Nat → Nat) (n i x : Nat) : Nat := if i = 0 then x else xorN n (fun e => if x.testBit e then A i e else 0)
theorem xorN_lt {n : Nat} {f : Nat → Nat} {m : Nat} (h : ∀ i, i < n → f i < 2 ^ m) : xorN n f < 2 ^ m := by
  induction n with
  | zero => exact Nat.two_pow_pos m
  | succ n ih => exact Nat.xor_lt_two_pow (ih (fun i hi => h i (by omega))) (h n (by omega))
theorem sap_lt {I : zFi} {ac : Nat} {A : Nat → Nat → Nat} (hA : spA I ac A) {n i x : Nat} (hn : n ≤ 12) (hx : x < 4096) : sap A n i x < 4096 := by
  unfold sap
  split
  · exact hx
  · refine xorN_lt (m := 12) (fun e he => ?_)
    split
    · exact (hA i e (by omega) (by omega)).2
    · decide
theorem zbit {x e : Nat} (hx : x < 2147483648) (he : e < 31) : zand (zshr (x : Int) (e : Int)) 1 = if x.testBit e then 1 else 0 := by
  have h1 : x / 2 ^ e < 2147483648 := Nat.lt_of_le_of_lt (Nat.div_le_self _ _) hx
  have h2 := zand_eq (a := x / 2 ^ e) (b := 1) h1 (by decide)
  rw [Nat.and_one_is_mod] at h2
  rw [zshr_eq hx (by omega)]
  refine h2.trans ?_
  rw [Nat.testBit_eq_decide_div_mod_eq]
  have h3 : x / 2 ^ e % 2 < 2 := Nat.mod_lt _ (by decide)
  by_cases h : x / 2 ^ e % 2 = 1
  · simp [h]
  · have : x / 2 ^ e % 2 = 0 := by omega
    simp [this]
theorem c_X5_apply (l : Launch) (D : va_G) (sh : Nat → Option zS) {p dg ac fa : Nat} (hs : zsSp sh p dg ac fa) (F I : zFi) (J : zJi) {n : Nat} (hn : F p 3 = (n : Int)) (hn2 : n ≤ 12) {A : Nat → Nat → Nat} (hA : spA I ac A) {i x : Nat} (hi : i < 64) (hx : x < 4096) :
    Cn l D yX5_apply wsX5_apply mX5_apply.2.2.2.2 sh [.inr (.inr (some p)), .inl (i : Int), .inl (x : Int)] F I J (zself F I J (.inl (sap A n i x : Int))) := by
  refine zmet (M := mX5_apply) rfl rfl rfl kX5_apply (Nat.le_of_ble_eq_true rfl) (fun X hX hR hl hD hsh => ?_)
  subst hl hD hsh
  have loop : i ≠ 0 → ∀ k e : Nat, e + k = n → HW X 11 [some (.inr (.inr (some p))), some (.inl (i : Int)), some (.inl (x : Int)), some (.inl (xorN e (fun e => if x.testBit e then A i e else 0) : Int)), some (.inl (e : Int))] [] F I J := by
    intro hi0 k
    induction k with
    | zero =>
      intro e he
      refine zgo (fun pc => Nat.beq pc 11) 200 hX hR rfl ?_
      refine Exists.intro _ ⟨hs.1, ?_⟩
      refine And.intro (fun c1 => ?_) (fun c1 => ?_)
      · exact And.intro (by unfold sap; rw [if_neg hi0, show e = n by omega]) ⟨rfl, rfl, rfl⟩
      · omega
    | succ k ih =>
      intro e he
      have h2 := ih (e + 1) (by omega)
      rw [show ∀ f, xorN (e + 1) f = xorN e f ^^^ f e from fun _ => rfl] at h2
      have hlt : xorN e (fun e => if x.testBit e then A i e else 0) < 4096 := xorN_lt (m := 12) (fun e' he' => by
        split
        · exact (hA i e' (by omega) (by omega)).2
        · decide)
      refine zgo (fun pc => Nat.beq pc 11) 200 hX hR rfl ?_
      refine Exists.intro _ ⟨hs.1, ?_⟩
      refine And.intro (fun c1 => ?_) (fun c1 => ?_)
      · omega
      have hz := zbit (x := x) (e := e) (by omega) (by omega)
      refine And.intro (fun c2 => ?_) (fun c2 => ?_)
      · rw [hz] at c2
        cases hb : x.testBit e
        · rw [hb] at h2
          simp only [Bool.false_eq_true, if_false, Nat.xor_zero] at h2
          exact h2
        · rw [hb] at c2
          exact absurd c2 (by decide)
      · rw [hz] at c2
        cases hb : x.testBit e
        · rw [hb] at c2
          exact absurd rfl c2
        · refine qX5_apply_57 hX (c_X5_acted (xl X) (xD X) (xsh X) hs F I J (i := (i : Int)) (e := (e : Int)) ⟨by omega, by omega⟩ ⟨by omega, by omega⟩) hs.1 (fun v F' I' J' hv => ?_)
          obtain ⟨rfl, rfl, rfl, rfl⟩ := hv
          obtain ⟨e1, e2⟩ := hA i e (by omega) (by omega)
          rw [hb, if_pos rfl, ← zxor_eq (by omega) (by omega), ← e1] at h2
          exact h2
  refine zgo (fun pc => Nat.beq pc 11) 200 hX hR rfl ?_
  refine And.intro (fun c1 => ?_) (fun c1 => ?_)
  · exact loop (by omega) n 0 (by omega)
  · exact And.intro (by unfold sap; rw [if_pos (by omega)]) ⟨rfl, rfl, rfl⟩
/-- what THE RULE asks -/
def sprt (A : Nat → Nat → Nat) (n a b e j : Nat) : Nat := if (b - 1 - j) &&& (a - 2 * j) = a - 2 * j then sap A n (a + b - j) (sap A n j (2 ^ e)) else 0
def spr (A : Nat → Nat → Nat) (n a b e : Nat) : Nat := xorN (a / 2 + 1) (sprt A n a b e)
theorem sprt_lt {I : zFi} {ac : Nat} {A : Nat → Nat → Nat} (hA : spA I ac A) {n a b e j : Nat} (hn : n ≤ 12) (he : e < 12) : sprt A n a b e j < 4096 := by
  unfold sprt
  have : 2 ^ e < 2 ^ 12 := Nat.pow_lt_pow_right (by decide) he
  split
  · exact sap_lt hA hn (sap_lt hA hn this)
  · decide
theorem c_X5_byTheRule (l : Launch) (D : va_G) (sh : Nat → Option zS) {p dg ac fa : Nat} (hs : zsSp sh p dg ac fa) (F I : zFi) (J : zJi) {n : Nat} (hn : F p 3 = (n : Int)) (hn2 : n ≤ 12) {A : Nat → Nat → Nat} (hA : spA I ac A) {a b e : Nat} (ha : 1 ≤ a) (hb : a / 2 + 1 ≤ b) (hab : a + b ≤ 12) (he : e < 12) :
    Cn l D yX5_byTheRule wsX5_byTheRule mX5_byTheRule.2.2.2.2 sh [.inr (.inr (some p)), .inl (a : Int), .inl (b : Int), .inl (e : Int)] F I J (zself F I J (.inl (spr A n a b e : Int))) := by
  refine zmet (M := mX5_byTheRule) rfl rfl rfl kX5_byTheRule (Nat.le_of_ble_eq_true rfl) (fun X hX hR hl hD hsh => ?_)
  subst hl hD hsh
  have hd : zdiv (a : Int) 2 = ((a / 2 : Nat) : Int) := zdiv_eq (d := 2) (by omega) (by decide) (by decide)
  have loop : ∀ k j : Nat, j + k = a / 2 + 1 → HW X 6 [some (.inr (.inr (some p))), some (.inl (a : Int)), some (.inl (b : Int)), some (.inl (e : Int)), some (.inl (xorN j (sprt A n a b e) : Int)), some (.inl (j : Int))] [] F I J := by
    intro k
    induction k with
    | zero =>
      intro j hj
      refine zgo (fun pc => Nat.beq pc 6) 200 hX hR rfl ?_
      refine And.intro (by omega) ?_
      rw [hd]
      refine And.intro (fun c1 => ?_) (fun c1 => ?_)
      · exact And.intro (by unfold spr; rw [show j = a / 2 + 1 by omega]) ⟨rfl, rfl, rfl⟩
      · omega
    | succ k ih =>
      intro j hj
      have h2 := ih (j + 1) (by omega)
      rw [show ∀ f, xorN (j + 1) f = xorN j f ^^^ f j from fun _ => rfl] at h2
      have hlt : xorN j (sprt A n a b e) < 4096 := xorN_lt (m := 12) (fun j' _ => sprt_lt hA hn2 he)
      have hlj : sprt A n a b e j < 4096 := sprt_lt hA hn2 he
      refine zgo (fun pc => Nat.beq pc 6) 200 hX hR rfl ?_
      refine And.intro (by omega) ?_
      rw [hd]
      refine And.intro (fun c1 => ?_) (fun c1 => ?_)
      · omega
      refine qX5_byTheRule_46 hX (c_X8_isOdd (xl X) (xD X) (xsh X) F I J (n := (b : Int) - 1 - j) (k := (a : Int) - 2 * j) ⟨by omega, by omega⟩ ⟨by omega, by omega⟩) (fun v F' I' J' hv => ?_)
      obtain ⟨rfl, rfl, rfl, rfl⟩ := hv
      have ho : zodd ((b : Int) - 1 - j) ((a : Int) - 2 * j) = if (b - 1 - j) &&& (a - 2 * j) = a - 2 * j then 1 else 0 := by
        unfold zodd
        rw [show ((b : Int) - 1 - j).toNat = b - 1 - j by omega, show ((a : Int) - 2 * j).toNat = a - 2 * j by omega]
        by_cases h : (b - 1 - j) &&& (a - 2 * j) = a - 2 * j
        · rw [if_pos h, if_pos ⟨by omega, by omega, h⟩]
        · rw [if_neg h, if_neg (fun z => h z.2.2)]
      rw [ho]
      by_cases h : (b - 1 - j) &&& (a - 2 * j) = a - 2 * j
      · have e3 : sprt A n a b e j = sap A n (a + b - j) (sap A n j (2 ^ e)) := by
          unfold sprt
          rw [if_pos h]
        have h2e : 2 ^ e < 4096 := Nat.pow_lt_pow_right (n := 12) (by decide) he
        rw [if_pos h]
        refine And.intro (fun c2 => absurd c2 (by decide)) (fun c2 => ?_)
        have cA := c_X5_apply (xl X) (xD X) (xsh X) hs F' I' J' hn hn2 hA (i := j) (x := 2 ^ e) (by omega) h2e
        rw [← zshl1 (show e < 31 by omega)] at cA
        refine qX5_byTheRule_67 hX cA hs.1 (fun v F1 I1 J1 hv => ?_)
        obtain ⟨rfl, rfl, rfl, rfl⟩ := hv
        have ei : (a : Int) + b - j = ((a + b - j : Nat) : Int) := by omega
        have cB := c_X5_apply (xl X) (xD X) (xsh X) hs F1 I1 J1 hn hn2 hA (i := a + b - j) (x := sap A n j (2 ^ e)) (by omega) (sap_lt hA hn2 h2e)
        rw [← ei] at cB
        refine qX5_byTheRule_67 hX cB hs.1 (fun v F2 I2 J2 hv => ?_)
        obtain ⟨rfl, rfl, rfl, rfl⟩ := hv
        rw [← zxor_eq (by omega) (by omega), e3] at h2
        exact h2
      · have e3 : sprt A n a b e j = 0 := by
          unfold sprt
          rw [if_neg h]
        rw [if_neg h]
        refine And.intro (fun c2 => ?_) (fun c2 => absurd rfl c2)
        rw [e3, Nat.xor_zero] at h2
        exact h2
  refine zgo (fun pc => Nat.beq pc 6) 200 hX hR rfl ?_
  exact loop (a / 2 + 1) 0 (by omega)
