/-! the reference: space -/
def spAf (B n T : Nat) : Nat → Nat → Nat := fun i e => if i ≤ 12 ∧ spC B n T (n + 1) 1 (e * 13 + i) then 2 ^ (e + i / T) else 0
theorem spAf_ok {B n T : Nat} (hT : T = 1 ∨ T = 2) (hB : B ≤ n) (hn : n ≤ 12) (hnB : n - B < 12) (hTn : T * n ≤ 12) : SpOK (spAf B n T) (n + 1 - B) (fun e => T * (B + e)) := by
  refine ⟨by omega, fun e he => ?_, fun i e hi he a ha => ?_⟩
  · show T * (B + e) ≤ 12
    rcases hT with rfl | rfl <;> omega
  · unfold spAf at ha
    by_cases g : i ≤ 12 ∧ spC B n T (n + 1) 1 (e * 13 + i)
    · rw [if_pos g, Nat.testBit_two_pow] at ha
      have ha' := of_decide_eq_true ha
      obtain ⟨g0, g1, g2, g3, -, -⟩ := g
      rw [show (e * 13 + i) % 13 = i by omega] at g1 g2 g3
      rw [show (e * 13 + i) / 13 = e by omega] at g3
      refine ⟨by omega, ?_⟩
      show T * (B + a) = T * (B + e) + i
      rcases hT with rfl | rfl <;> omega
    · rw [if_neg g, Nat.zero_testBit] at ha
      cases ha
section RS
variable {Fo Io : zFi} {Jo : zJi} {F I : zFi} {J : zJi} {ℓ : Nat} {c : Nat → Nat} {n0 : Nat} {A : Nat → Nat → Nat} {de : Nat → Nat} {K : Nat → Int}
theorem c_X9_space (l : Launch) (D : va_G) (sh : Nat → Option zS) (hs : zWM sh) (h : RSt Fo Io Jo F I J ℓ c n0 A de K) {name m n : Int} (h1 : zi32 name) (h2 : zi32 m) (h3 : zi32 n) :
    Cn l D yX9_space wsX9_space mX9_space.2.2.2.2 sh [.inr (.inr (some 60)), .inl name, .inl m, .inl n] F I J (fun v F' I' J' => (¬ nmOK name m n ∧ v = some (.inl (-1)) ∧ F' = F ∧ I' = I ∧ J' = J) ∨ (nmOK name m n ∧ v = some (.inl ((n.toNat + 1 - spB name m n : Nat) : Int)) ∧ RSt Fo Io Jo F' I' J' ℓ c (n.toNat + 1 - spB name m n) (spAf (spB name m n) n.toNat (spT name)) (fun e => spT name * (spB name m n + e)) K0)) := by
  obtain ⟨cA, h70⟩ := hs.a70
  have g1 := h1
  have g2 := h2
  have g3 := h3
  unfold zi32 at g1 g2 g3
  refine zmet (M := mX9_space) rfl rfl rfl kX9_space (Nat.le_of_ble_eq_true rfl) (fun X hX hR hl hD hsh => ?_)
  subst hl hD hsh
  have bad : ¬ nmOK name m n → HW X 58 [some (.inr (.inr (some 60))), some (.inl name), some (.inl m), some (.inl n), none, none, none, none, none] [] F I J := fun hn => by
    refine zgo (fun _ => false) 200 hX hR rfl ?_
    refine And.intro (fun c1 => absurd rfl c1) (fun c1 => ?_)
    exact Or.inl ⟨hn, rfl, rfl, rfl, rfl⟩
  have good : nmOK name m n → HW X 54 [some (.inr (.inr (some 60))), some (.inl name), some (.inl m), some (.inl n), none, none, none, none, none] [] F I J := fun hok => by
    have hB : spB name m n ≤ n.toNat ∧ n.toNat ≤ 12 ∧ n.toNat - spB name m n < 12 ∧ spT name * n.toNat ≤ 12 ∧ (spT name = 1 ∨ spT name = 2) := by
      unfold spB spT
      split <;> split <;> omega
    have hB0 : name = 0 → spB name m n = n.toNat := fun z => by unfold spB; rw [if_pos z]
    have eT : ((spT name : Nat) : Int) = if name = 2 then 2 else 1 := by unfold spT; split <;> rfl
    have eB : ((spB name m n : Nat) : Int) = if name = 0 then n else m := by unfold spB; split <;> omega
    have hname : 0 ≤ name ∧ name ≤ 2 := by omega
    obtain ⟨n', rfl⟩ := Int.eq_ofNat_of_zero_le (show 0 ≤ n by omega)
    rw [Int.toNat_natCast] at hB hB0
    generalize hBB : spB name m (n' : Int) = B at *
    generalize hTT : spT name = T at *
    obtain ⟨b1, b2, b3, b4, b5⟩ := hB
    obtain ⟨r1, r2, ⟨r3, r3b, r3c⟩, r4, r5, r6⟩ := h
    have hfin : ∀ (F1 I1 : zFi) l7 l8, F1 60 10 = ((n' + 1 - B : Nat) : Int) → ((∀ a, a ≠ 60 → F1 a = F a) ∧ ∀ j, j ≠ 10 → F1 60 j = F 60 j) → (∀ a, a ≠ 69 → a ≠ 70 → I1 a = I a) → (∀ e, e < n' + 1 - B → I1 69 e = ((T * (B + e) : Nat) : Int)) → (∀ e x, e < n' + 1 - B → x < 13 → I1 70 (13 * e + x) = spV B n' T (n' + 1) 1 (e * 13 + x)) →
        HW X 202 [some (.inr (.inr (some 60))), some (.inl name), some (.inl m), some (.inl (n' : Int)), some (.inl 1), some (.inl (T : Int)), some (.inl (B : Int)), l7, l8] [] F1 I1 J := fun F1 I1 l7 l8 k1 k2o k3 k4 k5 => by
      obtain ⟨k2o, k2⟩ := k2o
      have hst := rs_chg (A := spAf B n' T) (de := fun e => T * (B + e)) (n := n' + 1 - B) (Fr_of r1.2 (fun a u => k2o a (by omega)) (fun a u => k3 a (by omega) (by omega)) (fun _ _ => rfl)) (RTb_of r1.1 (fun a u v => k3 a (by omega) (by omega))) (RWd_of r2 (k2 8 (by decide)) (k3 68 (by decide) (by decide))) ⟨k1, by omega, fun e he => ⟨k4 e he, (spAf_ok b5 b1 b2 b3 b4).2.1 e he⟩, fun e i he hi1 hi2 => by
        rw [k5 e i he (by omega)]
        unfold spV spAf
        rw [show (e * 13 + i) / 13 + (e * 13 + i) % 13 / T = e + i / T by rw [show (e * 13 + i) % 13 = i by omega, show (e * 13 + i) / 13 = e by omega]]
        by_cases g : spC B n' T (n' + 1) 1 (e * 13 + i)
        · rw [if_pos g, if_pos ⟨hi2, g⟩]
          refine ⟨rfl, ?_⟩
          have g4 := g.2.2.1
          rw [show (e * 13 + i) % 13 = i by omega, show (e * 13 + i) / 13 = e by omega] at g4
          exact show 2 ^ (e + i / T) < 2 ^ 12 from Nat.pow_lt_pow_right (by decide) (by omega)
        · rw [if_neg g, if_neg (fun z => g z.2)]
          exact ⟨rfl, by decide⟩⟩ (fun i e hi he => by unfold spAf; rw [if_neg (by omega)]) (spAf_ok b5 b1 b2 b3 b4) r4
      refine zgo (fun _ => false) 200 hX hR rfl ?_
      refine qX9_space_149 hX (c_X9_changes (xl X) (xD X) (xsh X) hs F1 I1 J) hs.o (fun v F4 I4 J4 hv => ?_)
      obtain ⟨rfl, rfl, rfl, rfl⟩ := hv
      refine Exists.intro _ ⟨hs.o, ?_⟩
      refine Or.inr ⟨hok, ?_, ?_⟩
      · rw [Int.toNat_natCast]
        unfold chF
        rw [zu_n (by decide), zu_n (by decide), k1]
      · rw [Int.toNat_natCast]
        exact hst
    have loop2 : ∀ (F1 : zFi), F1 60 10 = ((n' + 1 - B : Nat) : Int) → ((∀ a, a ≠ 60 → F1 a = F a) ∧ ∀ j, j ≠ 10 → F1 60 j = F 60 j) → ∀ q k : Nat, k + q = n' + 1 → B ≤ k → ∀ (I1 : zFi) l8, (∀ a, a ≠ 69 → a ≠ 70 → I1 a = I a) → (∀ e, e < n' + 1 - B → I1 69 e = ((T * (B + e) : Nat) : Int)) → (∀ e x, e < n' + 1 - B → x < 13 → I1 70 (13 * e + x) = spV B n' T k 1 (e * 13 + x)) →
        HW X 125 [some (.inr (.inr (some 60))), some (.inl name), some (.inl m), some (.inl (n' : Int)), some (.inl 1), some (.inl (T : Int)), some (.inl (B : Int)), some (.inl (k : Int)), l8] [] F1 I1 J := by
      intro F1 kF1 kF2 q
      induction q with
      | zero =>
        intro k hk hBk I1 l8 k3 k4 k5
        have hk' : k = n' + 1 := by omega
        subst hk'
        have hf := hfin F1 I1 (some (.inl ((n' + 1 : Nat) : Int))) l8 kF1 kF2 k3 k4 k5
        refine zgo (fun pc => Nat.beq pc 125 || Nat.beq pc 202) 200 hX hR rfl ?_
        refine And.intro (fun c1 => ?_) (fun c1 => by omega)
        exact hf
      | succ q ih =>
        intro k hk hBk I1 l8 k3 k4 k5
        refine zgo (fun pc => Nat.beq pc 125 || Nat.beq pc 202 || Nat.beq pc 138) 200 hX hR rfl ?_
        refine And.intro (fun c1 => by omega) (fun c1 => ?_)
        refine And.intro (fun c2 => ?_) (fun c2 => ?_)
        · have hb := hB0 (by omega)
          refine hfin F1 I1 (some (.inl (k : Int))) l8 kF1 kF2 k3 k4 (fun e x he hx => ?_)
          rw [k5 e x he hx]
          unfold spV
          rw [if_neg (fun z => by have z2 := z.2.1; have z3 := z.2.2.1; omega), if_neg (fun z => by have z2 := z.2.1; have z3 := z.2.2.1; omega)]
        · have loop3 : ∀ w i : Nat, k + i + w = n' + 1 → 1 ≤ i → ∀ I2 : zFi, (∀ a, a ≠ 69 → a ≠ 70 → I2 a = I a) → (∀ e, e < n' + 1 - B → I2 69 e = ((T * (B + e) : Nat) : Int)) → (∀ e x, e < n' + 1 - B → x < 13 → I2 70 (13 * e + x) = spV B n' T k i (e * 13 + x)) →
              HW X 138 [some (.inr (.inr (some 60))), some (.inl name), some (.inl m), some (.inl (n' : Int)), some (.inl 1), some (.inl (T : Int)), some (.inl (B : Int)), some (.inl (k : Int)), some (.inl (i : Int))] [] F1 I2 J := by
            intro w
            induction w with
            | zero =>
              intro i hki hi I2 p3 p4 p5
              have hn := ih (k + 1) (by omega) (by omega) I2 (some (.inl (i : Int))) p3 p4 (fun e x he hx => by
                rw [p5 e x he hx]
                unfold spV
                have hiff : spC B n' T k i (e * 13 + x) ↔ spC B n' T (k + 1) 1 (e * 13 + x) := by
                  unfold spC
                  constructor
                  · rintro ⟨a, b, c, d, f⟩
                    exact ⟨a, b, c, d, by omega⟩
                  · rintro ⟨a, b, c, d, f⟩
                    exact ⟨a, b, c, d, by omega⟩
                by_cases g : spC B n' T k i (e * 13 + x)
                · rw [if_pos g, if_pos (hiff.mp g)]
                · rw [if_neg g, if_neg (fun z => g (hiff.mpr z))])
              refine zgo (fun pc => Nat.beq pc 125 || Nat.beq pc 138) 200 hX hR rfl ?_
              refine And.intro (fun c3 => ?_) (fun c3 => by omega)
              exact hn
            | succ w ihw =>
              intro i hki hi I2 p3 p4 p5
              have hTi : T * i ≤ 12 ∧ T * i % T = 0 ∧ T * i / T = i := by rcases b5 with rfl | rfl <;> omega
              have key : ∀ v : Int, v = (if k &&& i = i then ((2 ^ (k + i - B) : Nat) : Int) else 0) → HW X 138 [some (.inr (.inr (some 60))), some (.inl name), some (.inl m), some (.inl (n' : Int)), some (.inl 1), some (.inl (T : Int)), some (.inl (B : Int)), some (.inl (k : Int)), some (.inl ((i + 1 : Nat) : Int))] [] F1 (zu I2 70 (13 * (k - B) + T * i) v) J := fun v hv => by
                refine ihw (i + 1) (by omega) (by omega) _ (fun a u1 u2 => by rw [zu_r u2]; exact p3 a u1 u2) (fun e he => by rw [zu_r (by decide)]; exact p4 e he) (fun e x he hx => ?_)
                by_cases g : e = k - B ∧ x = T * i
                · rw [g.1, g.2, zu_s, hv]
                  unfold spV
                  rw [show ((k - B) * 13 + T * i) / 13 + ((k - B) * 13 + T * i) % 13 / T = k + i - B by rw [show ((k - B) * 13 + T * i) % 13 = T * i by omega, show ((k - B) * 13 + T * i) / 13 = k - B by omega, hTi.2.2]; omega]
                  have hiff : spC B n' T k (i + 1) ((k - B) * 13 + T * i) ↔ k &&& i = i := by
                    unfold spC
                    rw [show ((k - B) * 13 + T * i) % 13 = T * i by omega, show ((k - B) * 13 + T * i) / 13 = k - B by omega, hTi.2.2, hTi.2.1, show k - B + B = k by omega]
                    exact ⟨fun z => z.2.2.2.1, fun z => ⟨rfl, hi, by omega, z, Or.inr ⟨rfl, by omega⟩⟩⟩
                  by_cases g2 : k &&& i = i
                  · rw [if_pos g2, if_pos (hiff.mpr g2)]
                  · rw [if_neg g2, if_neg (fun z => g2 (hiff.mp z))]
                · rw [zu_n (by omega), p5 e x he hx]
                  unfold spV
                  have hiff : spC B n' T k i (e * 13 + x) ↔ spC B n' T k (i + 1) (e * 13 + x) := by
                    unfold spC
                    rw [show (e * 13 + x) % 13 = x by omega, show (e * 13 + x) / 13 = e by omega]
                    constructor
                    · rintro ⟨a, b, c, d, f⟩
                      exact ⟨a, b, c, d, by omega⟩
                    · rintro ⟨a, b, c, d, f⟩
                      refine ⟨a, b, c, d, ?_⟩
                      rcases b5 with rfl | rfl <;> omega
                  by_cases g2 : spC B n' T k i (e * 13 + x)
                  · rw [if_pos g2, if_pos (hiff.mp g2)]
                  · rw [if_neg g2, if_neg (fun z => g2 (hiff.mpr z))]
              have cO := c_X9_isOdd (xl X) (xD X) (xsh X) F1 I2 J (n := (k : Int)) (k := (i : Int)) ⟨by omega, by omega⟩ ⟨by omega, by omega⟩
              have ho : zodd (k : Int) (i : Int) = if k &&& i = i then 1 else 0 := by
                unfold zodd
                rw [Int.toNat_natCast, Int.toNat_natCast]
                by_cases g : k &&& i = i
                · rw [if_pos g, if_pos ⟨by omega, by omega, g⟩]
                · rw [if_neg g, if_neg (fun z => g z.2.2)]
              rw [ho] at cO
              refine zgo (fun pc => Nat.beq pc 138) 200 hX hR rfl ?_
              refine And.intro (fun c3 => by omega) (fun c3 => ?_)
              refine Exists.intro _ ⟨hs.o, ?_⟩
              refine qX9_space_99 hX cO (fun v F6 I6 J6 hv => ?_)
              obtain ⟨rfl, rfl, rfl, rfl⟩ := hv
              have hidx : (13 : Int) * ((k : Int) - (B : Int)) + (T : Int) * (i : Int) = ((13 * (k - B) + T * i : Nat) : Int) := by
                rw [Int.natCast_add, Int.natCast_mul, Int.natCast_mul]
                omega
              by_cases g : k &&& i = i
              · rw [if_pos g]
                rw [if_pos g] at key
                refine And.intro (fun c4 => absurd c4 (by decide)) (fun c4 => ?_)
                refine Exists.intro _ ⟨_, 13 * (k - B) + T * i, h70, hidx, by omega, ?_⟩
                refine key _ ?_
                rw [show (k : Int) + (i : Int) - (B : Int) = ((k + i - B : Nat) : Int) by omega, zshl1 (by omega)]
              · rw [if_neg g]
                rw [if_neg g] at key
                refine And.intro (fun c4 => ?_) (fun c4 => absurd rfl c4)
                refine Exists.intro _ ⟨_, 13 * (k - B) + T * i, h70, hidx, by omega, ?_⟩
                exact key _ rfl
          have l3 := loop3 (n' - k) 1 (by omega) (Nat.le_refl _) I1 k3 k4 k5
          exact l3
    have loop1 : ∀ q k : Nat, k + q = n' + 1 → B ≤ k → ∀ F1 I1 : zFi, F1 60 10 = ((k - B : Nat) : Int) → ((∀ a, a ≠ 60 → F1 a = F a) ∧ ∀ j, j ≠ 10 → F1 60 j = F 60 j) → (∀ a, a ≠ 69 → a ≠ 70 → I1 a = I a) → (∀ e, e < k - B → I1 69 e = ((T * (B + e) : Nat) : Int) ∧ ∀ x, x < 13 → I1 70 (13 * e + x) = 0) →
        HW X 100 [some (.inr (.inr (some 60))), some (.inl name), some (.inl m), some (.inl (n' : Int)), some (.inl 1), some (.inl (T : Int)), some (.inl (B : Int)), some (.inl (k : Int)), none] [] F1 I1 J := by
      intro q
      induction q with
      | zero =>
        intro k hk hBk F1 I1 p1 p2 p3 p4
        have hk' : k = n' + 1 := by omega
        subst hk'
        have l2 := loop2 F1 p1 p2 (n' + 1 - B) B (by omega) (Nat.le_refl _) I1 none p3 (fun e he => (p4 e he).1) (fun e x he hx => by
          rw [(p4 e he).2 x hx]
          unfold spV
          rw [if_neg (fun z => by
            have z5 := z.2.2.2.2
            have z2 := z.2.1
            omega)])
        refine zgo (fun pc => Nat.beq pc 100 || Nat.beq pc 125) 200 hX hR rfl ?_
        refine And.intro (fun c1 => ?_) (fun c1 => by omega)
        exact l2
      | succ q ih =>
        intro k hk hBk F1 I1 p1 p2 p3 p4
        have cC := c_X9_comes (xl X) (xD X) (xsh X) hs F1 I1 J (n := k - B) p1 (by omega) ((T : Int) * (k : Int))
        refine zgo (fun pc => Nat.beq pc 100 || Nat.beq pc 125) 200 hX hR rfl ?_
        refine And.intro (fun c1 => by omega) (fun c1 => ?_)
        refine qX9_space_152 hX cC hs.o (fun v F2 I2 J2 hv => ?_)
        obtain ⟨rfl, rfl, rfl, rfl⟩ := hv
        refine ih (k + 1) (by omega) (by omega) _ _ ?_ ⟨fun a ha => ?_, fun j hj => ?_⟩ (fun a u1 u2 => ?_) (fun e he => ⟨?_, fun x hx => ?_⟩)
        · unfold cmF
          rw [zu_s]
          omega
        · unfold cmF
          rw [zu_r ha]
          exact p2.1 a ha
        · unfold cmF
          rw [zu_n (fun z => hj z.2)]
          exact p2.2 j hj
        · unfold cmI
          rw [zfill_r u2, zu_r u1]
          exact p3 a u1 u2
        · unfold cmI
          rw [zfill_r (by decide)]
          by_cases g : e = k - B
          · rw [g, zu_s, show B + (k - B) = k by omega, Int.natCast_mul]
          · rw [zu_n (fun z => g z.2)]
            exact (p4 e (by omega)).1
        · unfold cmI zfill
          by_cases g : e = k - B
          · rw [if_pos ⟨rfl, by omega, by omega⟩]
          · rw [if_neg (by omega), zu_r (by decide)]
            exact (p4 e (by omega)).2 x hx
    have l1 := loop1 (n' + 1 - B) B (by omega) (Nat.le_refl _) (zu F 60 10 0) I (by rw [zu_s, Nat.sub_self]; rfl) ⟨fun a ha => zu_r ha, fun j hj => zu_n (fun z => hj z.2)⟩ (fun _ _ _ => rfl) (fun e he => by omega)
    rw [eT, eB] at l1
    refine zgo (fun pc => Nat.beq pc 100) 200 hX hR rfl ?_
    refine And.intro (fun c1 => ?_) (fun c1 => absurd c1 (by decide))
    refine Exists.intro _ ⟨hs.o, ?_⟩
    refine And.intro (fun c2 => ?_) (fun c2 => ?_)
    · rw [if_neg (show ¬ name = 2 by omega)] at l1
      refine And.intro (fun c3 => ?_) (fun c3 => ?_)
      · rw [if_neg (show ¬ name = 0 by omega)] at l1
        exact l1
      · rw [if_pos (show name = 0 by omega)] at l1
        exact l1
    · rw [if_pos (show name = 2 by omega)] at l1
      refine And.intro (fun c3 => ?_) (fun c3 => by omega)
      rw [if_neg (show ¬ name = 0 by omega)] at l1
      exact l1
  have h34 : ¬ (name = 0 ∧ 0 ≤ n ∧ n ≤ 12) → ¬ (name = 1 ∧ 1 ≤ m ∧ m ≤ n ∧ n ≤ 12) → HW X 34 [some (.inr (.inr (some 60))), some (.inl name), some (.inl m), some (.inl n), none, none, none, none, none] [] F I J := fun w1 w2 => by
    refine zgo (fun pc => Nat.beq pc 54 || Nat.beq pc 58) 200 hX hR rfl ?_
    refine And.intro (fun c1 => bad (by omega)) (fun c1 => ?_)
    refine qX9_space_122 hX (c_X9_in (xl X) (xD X) (xsh X) F I J (x := m) (lo := 0) (hi := n) h2 ⟨by omega, by omega⟩ h3) (fun v F' I' J' hv => ?_)
    obtain ⟨rfl, rfl, rfl, rfl⟩ := hv
    by_cases g : 0 ≤ m ∧ m ≤ n
    · rw [if_pos g]
      refine And.intro (fun c2 => absurd c2 (by decide)) (fun c2 => ?_)
      exact And.intro (fun c3 => bad (by omega)) (fun c3 => good (by omega))
    · rw [if_neg g]
      exact And.intro (fun c2 => bad (by omega)) (fun c2 => absurd rfl c2)
  have h14 : ¬ (name = 0 ∧ 0 ≤ n ∧ n ≤ 12) → HW X 14 [some (.inr (.inr (some 60))), some (.inl name), some (.inl m), some (.inl n), none, none, none, none, none] [] F I J := fun w1 => by
    refine zgo (fun pc => Nat.beq pc 54 || Nat.beq pc 34) 200 hX hR rfl ?_
    refine And.intro (fun c1 => h34 w1 (by omega)) (fun c1 => ?_)
    refine qX9_space_122 hX (c_X9_in (xl X) (xD X) (xsh X) F I J (x := m) (lo := 1) (hi := n) h2 ⟨by omega, by omega⟩ h3) (fun v F' I' J' hv => ?_)
    obtain ⟨rfl, rfl, rfl, rfl⟩ := hv
    by_cases g : 1 ≤ m ∧ m ≤ n
    · rw [if_pos g]
      refine And.intro (fun c2 => absurd c2 (by decide)) (fun c2 => ?_)
      exact And.intro (fun c3 => good (by omega)) (fun c3 => h34 w1 (by omega))
    · rw [if_neg g]
      exact And.intro (fun c2 => h34 w1 (by omega)) (fun c2 => absurd rfl c2)
  refine zgo (fun pc => Nat.beq pc 54 || Nat.beq pc 14) 200 hX hR rfl ?_
  refine And.intro (fun c1 => h14 (by omega)) (fun c1 => ?_)
  refine qX9_space_122 hX (c_X9_in (xl X) (xD X) (xsh X) F I J (x := n) (lo := 0) (hi := 12) h3 ⟨by omega, by omega⟩ ⟨by omega, by omega⟩) (fun v F' I' J' hv => ?_)
  obtain ⟨rfl, rfl, rfl, rfl⟩ := hv
  by_cases g : 0 ≤ n ∧ n ≤ 12
  · rw [if_pos g]
    exact And.intro (fun c2 => good (by omega)) (fun c2 => absurd c2 (by decide))
  · rw [if_neg g]
    exact And.intro (fun c2 => absurd rfl c2) (fun c2 => h14 (by omega))
end RS
