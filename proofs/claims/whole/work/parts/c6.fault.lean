/-! the reference: findFault, isSound, fault -/
def rfF (F : zFi) : Option (Nat × Nat × Nat) → zFi
  | none => F
  | some (a, b, _) => zu (zu F 60 19 (a : Int)) 60 20 (b : Int)
def rfV : Option (Nat × Nat × Nat) → Int
  | none => -1
  | some (_, _, e) => (e : Int)
theorem sprt_lt12 {A : Nat → Nat → Nat} {n : Nat} (hA : ∀ e i, e < n → 1 ≤ i → A i e < 4096) {a b e : Nat} (he : e < 12) (j : Nat) : sprt A n a b e j < 4096 := by
  unfold sprt
  have : 2 ^ e < 2 ^ 12 := Nat.pow_lt_pow_right (by decide) he
  split
  · exact sap_lt12 hA (sap_lt12 hA this)
  · decide
theorem c_X9_findFault (l : Launch) (D : va_G) (sh : Nat → Option zS) (hs : zWM sh) (F I : zFi) (J : zJi) {n : Nat} {A : Nat → Nat → Nat} {de : Nat → Nat} (hm : RSp F I n A de) (hz : ∀ i e, 12 < i → e < n → A i e = 0) :
    Cn l D yX9_findFault wsX9_findFault mX9_findFault.2.2.2.2 sh [.inr (.inr (some 60))] F I J (fun v F' I' J' => v = some (.inl (rfV (sFault A n))) ∧ F' = rfF F (sFault A n) ∧ I' = I ∧ J' = J) := by
  obtain ⟨m1, m2, m3, m4⟩ := id hm
  have hlA := rsp_lt hm hz
  refine zmet (M := mX9_findFault) rfl rfl rfl kX9_findFault (Nat.le_of_ble_eq_true rfl) (fun X hX hR hl hD hsh => ?_)
  subst hl hD hsh
  have loopJ : ∀ a b e : Nat, 1 ≤ a → a / 2 + 1 ≤ b → a + b ≤ 12 → e < n → ∀ S : Nat, S < 4096 →
      HW X 110 [some (.inr (.inr (some 60))), some (.inl (a : Int)), some (.inl (b : Int)), some (.inl (e : Int)), some (.inl ((S ^^^ spr A n a b e : Nat) : Int)), some (.inl ((a / 2 + 1 : Nat) : Int))] [] F I J →
      ∀ m j : Nat, j + m = a / 2 + 1 → HW X 50 [some (.inr (.inr (some 60))), some (.inl (a : Int)), some (.inl (b : Int)), some (.inl (e : Int)), some (.inl ((S ^^^ xorN j (sprt A n a b e) : Nat) : Int)), some (.inl (j : Int))] [] F I J := by
    intro a b e ha hb hab he S hS hend m
    have hd : zdiv (a : Int) 2 = ((a / 2 : Nat) : Int) := zdiv_eq (d := 2) (by omega) (by decide) (by decide)
    induction m with
    | zero =>
      intro j hj
      have hj' : j = a / 2 + 1 := by omega
      subst hj'
      refine zgo (fun pc => Nat.beq pc 50 || Nat.beq pc 110) 200 hX hR rfl ?_
      refine And.intro (by omega) ?_
      rw [hd]
      refine And.intro (fun c1 => ?_) (fun c1 => by omega)
      exact hend
    | succ m ih =>
      intro j hj
      have h2 := ih (j + 1) (by omega)
      rw [show ∀ f, xorN (j + 1) f = xorN j f ^^^ f j from fun _ => rfl, ← Nat.xor_assoc] at h2
      have hlt : xorN j (sprt A n a b e) < 4096 := xorN_lt (m := 12) (fun j' _ => sprt_lt12 hlA (by omega) j')
      have hlS : S ^^^ xorN j (sprt A n a b e) < 4096 := Nat.xor_lt_two_pow (n := 12) hS hlt
      have hlj : sprt A n a b e j < 4096 := sprt_lt12 hlA (by omega) j
      refine zgo (fun pc => Nat.beq pc 50 || Nat.beq pc 110) 200 hX hR rfl ?_
      refine And.intro (by omega) ?_
      rw [hd]
      refine And.intro (fun c1 => by omega) (fun c1 => ?_)
      refine qX9_findFault_99 hX (c_X9_isOdd (xl X) (xD X) (xsh X) F I J (n := (b : Int) - 1 - j) (k := (a : Int) - 2 * j) ⟨by omega, by omega⟩ ⟨by omega, by omega⟩) (fun v F' I' J' hv => ?_)
      obtain ⟨rfl, rfl, rfl, rfl⟩ := hv
      have ho : zodd ((b : Int) - 1 - j) ((a : Int) - 2 * j) = if (b - 1 - j) &&& (a - 2 * j) = a - 2 * j then 1 else 0 := by
        unfold zodd
        rw [show ((b : Int) - 1 - j).toNat = b - 1 - j by omega, show ((a : Int) - 2 * j).toNat = a - 2 * j by omega]
        by_cases h : (b - 1 - j) &&& (a - 2 * j) = a - 2 * j
        · rw [if_pos h, if_pos ⟨by omega, by omega, h⟩]
        · rw [if_neg h, if_neg (fun z => h z.2.2)]
      rw [ho]
      by_cases h : (b - 1 - j) &&& (a - 2 * j) = a - 2 * j
      · have e3 : sprt A n a b e j = sap A n (a + b - j) (sap A n j (2 ^ e)) := by
          unfold sprt
          rw [if_pos h]
        have h2e : 2 ^ e < 4096 := Nat.pow_lt_pow_right (n := 12) (by decide) (by omega)
        rw [if_pos h]
        refine And.intro (fun c2 => absurd c2 (by decide)) (fun c2 => ?_)
        have cA := c_X9_acted (xl X) (xD X) (xsh X) hs F' I' J' hm hz (i := j) (x := 2 ^ e) (by omega) h2e
        rw [← zshl1 (show e < 31 by omega)] at cA
        refine qX9_findFault_163 hX cA hs.o (fun v F1 I1 J1 hv => ?_)
        obtain ⟨rfl, rfl, rfl, rfl⟩ := hv
        have ei : (a : Int) + b - j = ((a + b - j : Nat) : Int) := by omega
        have cB := c_X9_acted (xl X) (xD X) (xsh X) hs F1 I1 J1 hm hz (i := a + b - j) (x := sap A n j (2 ^ e)) (by omega) (sap_lt12 hlA h2e)
        rw [← ei] at cB
        refine qX9_findFault_163 hX cB hs.o (fun v F2 I2 J2 hv => ?_)
        obtain ⟨rfl, rfl, rfl, rfl⟩ := hv
        rw [← zxor_eq (by omega) (by omega), e3] at h2
        exact h2
      · have e3 : sprt A n a b e j = 0 := by
          unfold sprt
          rw [if_neg h]
        rw [if_neg h]
        refine And.intro (fun c2 => ?_) (fun c2 => absurd rfl c2)
        rw [← zxor_eq (by omega) (by omega), e3] at h2
        exact h2
  have loopE : ∀ a b : Nat, 1 ≤ a → a / 2 + 1 ≤ b → a + b ≤ 12 → (∀ e : Nat, fe (spBad A n a b) n 0 = some e → sFault A n = some (a, b, e)) →
      (fe (spBad A n a b) n 0 = none → ∀ l4 l5, HW X 133 [some (.inr (.inr (some 60))), some (.inl (a : Int)), some (.inl (b : Int)), some (.inl (n : Int)), l4, l5] [] F I J) →
      ∀ k e : Nat, e + k = n → fe (spBad A n a b) k e = fe (spBad A n a b) n 0 → ∀ l4 l5, HW X 24 [some (.inr (.inr (some 60))), some (.inl (a : Int)), some (.inl (b : Int)), some (.inl (e : Int)), l4, l5] [] F I J := by
    intro a b ha hb hab hsome hnone k
    induction k with
    | zero =>
      intro e he hf l4 l5
      have h2 := hnone hf.symm l4 l5
      rw [show n = e by omega] at h2
      refine zgo (fun pc => Nat.beq pc 24 || Nat.beq pc 133) 200 hX hR rfl ?_
      refine Exists.intro _ ⟨hs.o, ?_⟩
      refine And.intro (fun c1 => h2) (fun c1 => by rw [m1] at c1; omega)
    | succ k ih =>
      intro e he hf l4 l5
      have h2e : 2 ^ e < 4096 := Nat.pow_lt_pow_right (n := 12) (by decide) (by omega)
      have c1' := c_X9_acted (xl X) (xD X) (xsh X) hs F I J hm hz (i := b) (x := 2 ^ e) (by omega) h2e
      have hAe := sap_one A (n := n) (i := b) (e := e) (by omega) (by omega)
      rw [hAe, ← zshl1 (show e < 31 by omega)] at c1'
      have hAl := hlA e b (by omega) (by omega)
      have c2' := c_X9_acted (xl X) (xD X) (xsh X) hs F I J hm hz (i := a) (x := A b e) (by omega) hAl
      have b1 : sap A n a (A b e) < 4096 := sap_lt12 hlA hAl
      have b2 : spr A n a b e < 4096 := xorN_lt (m := 12) (fun j _ => sprt_lt12 hlA (by omega) j)
      have b3 : sap A n a (A b e) ^^^ spr A n a b e < 4096 := Nat.xor_lt_two_pow (n := 12) b1 b2
      have hfe : fe (spBad A n a b) (k + 1) e = if spBad A n a b e then some e else fe (spBad A n a b) k (e + 1) := rfl
      rw [hfe] at hf
      have hj := loopJ a b e ha hb hab (by omega) (sap A n a (A b e)) b1 (by
        refine zgo (fun pc => Nat.beq pc 24) 200 hX hR rfl ?_
        refine And.intro (fun c3 => ?_) (fun c3 => ?_)
        · have e0 : sap A n a (A b e) = spr A n a b e := Nat.eq_of_testBit_eq fun q => by
            have z : sap A n a (A b e) ^^^ spr A n a b e = 0 := by omega
            have := congrArg (fun y => y.testBit q) z
            rw [Nat.testBit_xor, Nat.zero_testBit] at this
            revert this
            cases (sap A n a (A b e)).testBit q <;> cases (spr A n a b e).testBit q <;> intro h <;> first | rfl | cases h
          have hb0 : spBad A n a b e = false := by
            unfold spBad
            rw [e0, Nat.beq_refl]
            rfl
          rw [hb0, if_neg (by decide)] at hf
          exact ih (e + 1) (by omega) hf _ _
        · have hb1 : spBad A n a b e = true := by
            unfold spBad
            cases hq : Nat.beq (sap A n a (A b e)) (spr A n a b e)
            · rfl
            · exfalso
              refine c3 ?_
              rw [Nat.eq_of_beq_eq_true hq, Nat.xor_self]
              rfl
          rw [hb1, if_pos rfl] at hf
          refine Exists.intro _ ⟨hs.o, ?_⟩
          refine Exists.intro _ ⟨hs.o, ?_⟩
          exact And.intro (by rw [hsome e hf.symm]; rfl) ⟨by rw [hsome e hf.symm]; rfl, rfl, rfl⟩) (a / 2 + 1) 0 (by omega)
      rw [show xorN 0 (sprt A n a b e) = 0 from rfl, Nat.xor_zero] at hj
      refine zgo (fun pc => Nat.beq pc 24 || Nat.beq pc 133 || Nat.beq pc 50) 200 hX hR rfl ?_
      refine Exists.intro _ ⟨hs.o, ?_⟩
      refine And.intro (fun c1 => by rw [m1] at c1; omega) (fun c1 => ?_)
      refine qX9_findFault_163 hX c1' hs.o (fun v F' I' J' hv => ?_)
      obtain ⟨rfl, rfl, rfl, rfl⟩ := hv
      refine qX9_findFault_163 hX c2' hs.o (fun v F' I' J' hv => ?_)
      obtain ⟨rfl, rfl, rfl, rfl⟩ := hv
      exact hj
  have loopB : ∀ a : Nat, 1 ≤ a → a ≤ 12 → (∀ b e : Nat, fbb n (spBad A n a) (12 - a - a / 2) (a / 2 + 1) = some (b, e) → sFault A n = some (a, b, e)) →
      (fbb n (spBad A n a) (12 - a - a / 2) (a / 2 + 1) = none → ∀ lb le l4 l5, HW X 139 [some (.inr (.inr (some 60))), some (.inl (a : Int)), lb, le, l4, l5] [] F I J) →
      ∀ k b : Nat, a / 2 + 1 ≤ b → b + k = a / 2 + 1 + (12 - a - a / 2) → fbb n (spBad A n a) k b = fbb n (spBad A n a) (12 - a - a / 2) (a / 2 + 1) → ∀ le l4 l5, HW X 14 [some (.inr (.inr (some 60))), some (.inl (a : Int)), some (.inl (b : Int)), le, l4, l5] [] F I J := by
    intro a ha ha2 hsome hnone k
    induction k with
    | zero =>
      intro b hb0 hb hf le l4 l5
      have h2 := hnone hf.symm (some (.inl (b : Int))) le l4 l5
      refine zgo (fun pc => Nat.beq pc 14 || Nat.beq pc 139) 200 hX hR rfl ?_
      refine And.intro (fun c1 => h2) (fun c1 => ?_)
      omega
    | succ k ih =>
      intro b hb0 hb hf le l4 l5
      have hfb : fbb n (spBad A n a) (k + 1) b = match fe (spBad A n a b) n 0 with
        | some e => some (b, e)
        | none => fbb n (spBad A n a) k (b + 1) := rfl
      rw [hfb] at hf
      have hE := loopE a b ha hb0 (by omega) (fun e he => by
        rw [he] at hf
        exact hsome b e hf.symm) (fun he l4 l5 => by
        rw [he] at hf
        have h3 := ih (b + 1) (by omega) (by omega) hf (some (.inl (n : Int))) l4 l5
        refine zgo (fun pc => Nat.beq pc 14 || Nat.beq pc 139) 200 hX hR rfl ?_
        exact h3) n 0 (by omega) rfl l4 l5
      refine zgo (fun pc => Nat.beq pc 14 || Nat.beq pc 139 || Nat.beq pc 24) 200 hX hR rfl ?_
      refine And.intro (fun c1 => by omega) (fun c1 => ?_)
      exact hE
  have loopA : ∀ k a : Nat, 1 ≤ a → a + k = 13 → faa n (spBad A n) k a = sFault A n → ∀ lb le l4 l5, HW X 2 [some (.inr (.inr (some 60))), some (.inl (a : Int)), lb, le, l4, l5] [] F I J := by
    intro k
    induction k with
    | zero =>
      intro a ha1 ha hf lb le l4 l5
      refine zgo (fun pc => Nat.beq pc 2) 200 hX hR rfl ?_
      refine And.intro (fun c1 => ?_) (fun c1 => by omega)
      exact And.intro (by rw [← hf]; rfl) ⟨by rw [← hf]; rfl, rfl, rfl⟩
    | succ k ih =>
      intro a ha1 ha hf lb le l4 l5
      have hfa : faa n (spBad A n) (k + 1) a = match fbb n (spBad A n a) (12 - a - a / 2) (a / 2 + 1) with
        | some (b, e) => some (a, b, e)
        | none => faa n (spBad A n) k (a + 1) := rfl
      rw [hfa] at hf
      have hB := loopB a ha1 (by omega) (fun b e he => by
        rw [he] at hf
        exact hf.symm) (fun he lb le l4 l5 => by
        rw [he] at hf
        have h3 := ih (a + 1) (by omega) (by omega) hf lb le l4 l5
        refine zgo (fun pc => Nat.beq pc 2) 200 hX hR rfl ?_
        exact h3) (12 - a - a / 2) (a / 2 + 1) (Nat.le_refl _) rfl rfl le l4 l5
      have hd : zdiv (a : Int) 2 = ((a / 2 : Nat) : Int) := zdiv_eq (d := 2) (by omega) (by decide) (by decide)
      refine zgo (fun pc => Nat.beq pc 2 || Nat.beq pc 14) 200 hX hR rfl ?_
      refine And.intro (fun c1 => by omega) (fun c1 => ?_)
      refine And.intro (by omega) ?_
      rw [show ((a / 2 + 1 : Nat) : Int) = zdiv (a : Int) 2 + 1 by rw [hd]; rfl] at hB
      exact hB
  refine zgo (fun pc => Nat.beq pc 2) 200 hX hR rfl ?_
  exact loopA 12 1 (by omega) rfl rfl none none none none
theorem c_X9_isSound (l : Launch) (D : va_G) (sh : Nat → Option zS) (hs : zWM sh) (F I : zFi) (J : zJi) {n : Nat} {A : Nat → Nat → Nat} {de : Nat → Nat} (hm : RSp F I n A de) (hz : ∀ i e, 12 < i → e < n → A i e = 0) :
    Cn l D yX9_isSound wsX9_isSound mX9_isSound.2.2.2.2 sh [.inr (.inr (some 60))] F I J (fun v F' I' J' => v = some (.inl (if sFault A n = none then 1 else 0)) ∧ F' = rfF F (sFault A n) ∧ I' = I ∧ J' = J) := by
  refine zmet (M := mX9_isSound) rfl rfl rfl kX9_isSound (Nat.le_of_ble_eq_true rfl) (fun X hX hR hl hD hsh => ?_)
  subst hl hD hsh
  refine zgo (fun _ => false) 200 hX hR rfl ?_
  refine qX9_isSound_172 hX (c_X9_findFault (xl X) (xD X) (xsh X) hs F I J hm hz) hs.o (fun v F2 I2 J2 hv => ?_)
  obtain ⟨rfl, rfl, rfl, rfl⟩ := hv
  have hn2 := hm.2.1
  cases hr : sFault A n with
  | none =>
    refine And.intro (fun c1 => absurd c1 (by decide)) (fun c1 => ?_)
    exact And.intro (Or.inr rfl) ⟨rfl, rfl, rfl, rfl⟩
  | some r =>
    obtain ⟨a, b, e⟩ := r
    have hb := sFault_b hr
    refine And.intro (fun c1 => ?_) (fun c1 => ?_)
    · exact And.intro (Or.inl rfl) ⟨rfl, rfl, rfl, rfl⟩
    · have : ¬ (2147483648 ≤ ((e : Int) + 2147483648) % 4294967296) := c1
      omega
theorem c_X9_fault (l : Launch) (D : va_G) (sh : Nat → Option zS) (hs : zWM sh) (F I : zFi) (J : zJi) {n : Nat} {A : Nat → Nat → Nat} {de : Nat → Nat} (hm : RSp F I n A de) (hz : ∀ i e, 12 < i → e < n → A i e = 0) {w : Int} (hw : zi32 w) :
    Cn l D yX9_fault wsX9_fault mX9_fault.2.2.2.2 sh [.inr (.inr (some 60)), .inl w] F I J (fun v F' I' J' => v = some (.inl (afl n A w)) ∧ (F' = F ∨ F' = rfF F (sFault A n)) ∧ I' = I ∧ J' = J) := by
  refine zmet (M := mX9_fault) rfl rfl rfl kX9_fault (Nat.le_of_ble_eq_true rfl) (fun X hX hR hl hD hsh => ?_)
  subst hl hD hsh
  have g1 := hw
  unfold zi32 at g1
  refine zgo (fun _ => false) 200 hX hR rfl ?_
  unfold afl
  refine qX9_fault_122 hX (c_X9_in (xl X) (xD X) (xsh X) F I J (x := w) (lo := 0) (hi := 2) hw ⟨by omega, by omega⟩ ⟨by omega, by omega⟩) (fun v F' I' J' hv => ?_)
  obtain ⟨rfl, rfl, rfl, rfl⟩ := hv
  refine And.intro (fun c3 => ?_) (fun c3 => ?_)
  · have hw0 : 0 ≤ w ∧ w ≤ 2 := Decidable.byContradiction fun g => by rw [if_neg g] at c3; exact c3 rfl
    refine qX9_fault_172 hX (c_X9_findFault (xl X) (xD X) (xsh X) hs F' I' J' hm hz) hs.o (fun v F2 I2 J2 hv => ?_)
    obtain ⟨rfl, rfl, rfl, rfl⟩ := hv
    have hn2 := hm.2.1
    rw [if_pos (by omega)]
    cases hr : sFault A n with
    | none =>
      refine And.intro (fun c1 => absurd c1 (by decide)) (fun c1 => ?_)
      exact And.intro rfl ⟨Or.inr rfl, rfl, rfl⟩
    | some r =>
      obtain ⟨a, b, e⟩ := r
      have hb := sFault_b hr
      refine And.intro (fun c1 => ?_) (fun c1 => ?_)
      · refine And.intro (fun c2 => ?_) (fun c2 => ?_)
        · refine And.intro (fun c4 => ?_) (fun c4 => ?_)
          · refine And.intro ?_ ⟨Or.inr rfl, rfl, rfl⟩
            refine congrArg (fun z : Int => (some (.inl z) : Option zV)) (show (e : Int) = (if w.toNat = 0 then (a : Int) else if w.toNat = 1 then b else e) from ?_)
            rw [if_neg (by omega), if_neg (by omega)]
          · refine Exists.intro _ ⟨hs.o, ?_⟩
            refine And.intro ?_ ⟨Or.inr rfl, rfl, rfl⟩
            refine congrArg (fun z : Int => (some (.inl z) : Option zV)) (show (zu (zu F' 60 19 (a : Int)) 60 20 (b : Int) 60 20) = (if w.toNat = 0 then (a : Int) else if w.toNat = 1 then b else e) from ?_)
            rw [if_neg (by omega), if_pos (by omega), zu_s]
        · refine Exists.intro _ ⟨hs.o, ?_⟩
          refine And.intro ?_ ⟨Or.inr rfl, rfl, rfl⟩
          refine congrArg (fun z : Int => (some (.inl z) : Option zV)) (show (zu (zu F' 60 19 (a : Int)) 60 20 (b : Int) 60 19) = (if w.toNat = 0 then (a : Int) else if w.toNat = 1 then b else e) from ?_)
          rw [if_pos (by omega), zu_n (by omega), zu_s]
      · have : ¬ (2147483648 ≤ ((e : Int) + 2147483648) % 4294967296) := c1
        omega
  · have hw0 : ¬ (0 ≤ w ∧ w ≤ 2) := fun g => by rw [if_pos g] at c3; exact absurd c3 (by decide)
    exact And.intro (by rw [if_neg (by omega)]) ⟨Or.inl rfl, rfl, rfl⟩
