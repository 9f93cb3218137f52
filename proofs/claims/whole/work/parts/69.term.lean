/-! Squares: timesTerm -/
theorem bbt_nn (S : Nat → Nat) (d t : Int) : bbt S d t = ((bbt S d t).toNat : Int) := by
  unfold bbt
  split
  · rw [Int.toNat_natCast]
  · rfl
def bfi (N S : Nat → Nat) (d a1 a2 a3 : Int) : Int := bfd N a1 a2 a3 (bst S (d + 1) - bst S d) (bst S d)
theorem bfd_r (N : Nat → Nat) (a1 a2 a3 : Int) : ∀ k t : Nat, t + k ≤ 100 → -1 ≤ bfd N a1 a2 a3 k t ∧ bfd N a1 a2 a3 k t ≤ 100 := by
  intro k
  induction k with
  | zero =>
    intro t _
    show -1 ≤ (-1 : Int) ∧ (-1 : Int) ≤ 100
    decide
  | succ k ih =>
    intro t h
    have := ih (t + 1) (by omega)
    unfold bfd
    split
    · omega
    · exact this
/-- one of THE RULE's parts -/
def stp (P : Nat → Nat → Nat) (S : Nat → Nat) (a b : Nat) (rest n : Int) (j : Nat) : Nat := if zodd ((b : Int) - 1 - j) ((a : Int) - 2 * j) = 1 then sqs P S ((a : Int) + b - j) (spd P (sgl S j) rest) (n - ((a : Int) + b - j)) else 0
def stt (P : Nat → Nat → Nat) (N S : Nat → Nat) (a : Nat) (t n : Int) : Nat :=
  if 2 * (bnm N t 0) ≤ a then (bbt S n (bfi N S n a (bnm N t 0) (bnm N t 1))).toNat
  else xorN (a / 2 + 1) (stp P S a (bnm N t 0).toNat (bfi N S (n - a - bnm N t 0) (bnm N t 1) (bnm N t 2) 0) n)
theorem stp_lt {I : zFi} {pr : Nat} {P : Nat → Nat → Nat} (h : sqT I pr P) (S : Nat → Nat) (a b : Nat) (rest n : Int) (j : Nat) : stp P S a b rest n j < 1073741824 := by
  unfold stp
  split
  · exact sqs_lt h _ _ _ _
  · decide
theorem c_X6_timesTerm (l : Launch) (D : va_G) (sh : Nat → Option zS) {q b pr nu st : Nat} (hs : zsSq sh q b pr) (hb : zsBas sh b nu st) (F I : zFi) (J : zJi) {N S : Nat → Nat} (hT : bT I nu st N S) {P : Nat → Nat → Nat} (hP : sqT I pr P) {a : Nat} {t n : Int} (ha : a ≤ 100) (ht : 0 ≤ t ∧ t ≤ 61) (hn : 0 ≤ n ∧ n ≤ 100) (h30 : ∀ d, 0 ≤ bsz S d ∧ bsz S d ≤ 30) :
    Cn l D yX6_timesTerm wsX6_timesTerm mX6_timesTerm.2.2.2.2 sh [.inr (.inr (some q)), .inl (a : Int), .inl t, .inl n] F I J (zself F I J (.inl (stt P N S a t n : Int))) := by
  have hb0 := bnm_i hT t 0
  have hb1 := bnm_i hT t 1
  have hb2 := bnm_i hT t 2
  have hfr : ∀ d x y z, -1 ≤ bfi N S d x y z ∧ bfi N S d x y z ≤ 100 := fun d x y z => by
    have h1 := bst_i hT d
    have h2 := bst_i hT (d + 1)
    exact bfd_r N x y z _ _ (by omega)
  obtain ⟨B, hB⟩ := Int.eq_ofNat_of_zero_le hb0.1
  have hB2 : B ≤ 61 := by omega
  refine zmet (M := mX6_timesTerm) rfl rfl rfl kX6_timesTerm (Nat.le_of_ble_eq_true rfl) (fun X hX hR hl hD hsh => ?_)
  subst hl hD hsh
  have hd : zdiv (a : Int) 2 = ((a / 2 : Nat) : Int) := zdiv_eq (d := 2) (by omega) (by decide) (by decide)
  have hrr := hfr (n - a - bnm N t 0) (bnm N t 1) (bnm N t 2) 0
  have loop : ¬ 2 * (bnm N t 0) ≤ a → ∀ k j : Nat, j + k = a / 2 + 1 → HW X 89 [some (.inr (.inr (some q))), some (.inl (a : Int)), some (.inl t), some (.inl n), some (.inl (B : Int)), some (.inl (bnm N t 1)), some (.inl (bnm N t 2)), some (.inl (bfi N S (n - a - bnm N t 0) (bnm N t 1) (bnm N t 2) 0)), some (.inl (xorN j (stp P S a (bnm N t 0).toNat (bfi N S (n - a - bnm N t 0) (bnm N t 1) (bnm N t 2) 0) n) : Int)), some (.inl (j : Int))] [] F I J := by
    intro hlt2 k
    have eB : (bnm N t 0).toNat = B := by omega
    have hst : stt P N S a t n = xorN (a / 2 + 1) (stp P S a B (bfi N S (n - a - bnm N t 0) (bnm N t 1) (bnm N t 2) 0) n) := by unfold stt; rw [if_neg hlt2, eB]
    rw [eB]
    generalize bfi N S (n - a - bnm N t 0) (bnm N t 1) (bnm N t 2) 0 = rest at hrr hst ⊢
    induction k with
    | zero =>
      intro j hj
      refine zgo (fun pc => Nat.beq pc 89) 200 hX hR rfl ?_
      refine And.intro (by omega) ?_
      rw [hd]
      refine And.intro (fun c1 => ?_) (fun c1 => by omega)
      exact And.intro (by rw [hst, show j = a / 2 + 1 by omega]) ⟨rfl, rfl, rfl⟩
    | succ k ih =>
      intro j hj
      have h2 := ih (j + 1) (by omega)
      rw [show ∀ f, xorN (j + 1) f = xorN j f ^^^ f j from fun _ => rfl] at h2
      have hlt : xorN j (stp P S a B rest n) < 1073741824 := xorN_lt (m := 30) (fun _ _ => stp_lt hP _ _ _ _ _ _)
      have hlk := stp_lt hP S a B rest n j
      refine zgo (fun pc => Nat.beq pc 89) 200 hX hR rfl ?_
      refine And.intro (by omega) ?_
      rw [hd]
      refine And.intro (fun c1 => by omega) (fun c1 => ?_)
      refine qX6_timesTerm_62 hX (c_X8_isOdd (xl X) (xD X) (xsh X) F I J (n := (B : Int) - 1 - j) (k := (a : Int) - 2 * j) ⟨by omega, by omega⟩ ⟨by omega, by omega⟩) (fun v F' I' J' hv => ?_)
      obtain ⟨rfl, rfl, rfl, rfl⟩ := hv
      by_cases ho : zodd ((B : Int) - 1 - j) ((a : Int) - 2 * j) = 1
      · have e3 : stp P S a B rest n j = sqs P S ((a : Int) + B - j) (spd P (sgl S j) rest) (n - ((a : Int) + B - j)) := by unfold stp; rw [if_pos ho]
        rw [ho]
        refine And.intro (fun c2 => absurd c2 (by decide)) (fun c2 => ?_)
        refine qX6_timesTerm_42 hX (c_X6_single (xl X) (xD X) (xsh X) hs hb F' I' J' hT (i := (j : Int)) ⟨by omega, by omega⟩) hs.1 (fun v F1 I1 J1 hv => ?_)
        obtain ⟨rfl, rfl, rfl, rfl⟩ := hv
        have hsj := bst_i hT ((j : Int) + 1)
        refine qX6_timesTerm_56 hX (c_X6_product (xl X) (xD X) (xsh X) hs F1 I1 J1 hP (u := sgl S j) (v := rest) (by unfold sgl zi32; omega) (by unfold zi32; omega)) hs.1 (fun v F2 I2 J2 hv => ?_)
        obtain ⟨rfl, rfl, rfl, rfl⟩ := hv
        have hxl := spd_lt hP (sgl S j) rest
        refine qX6_timesTerm_59 hX (c_X6_timesSum (xl X) (xD X) (xsh X) hs hb F2 I2 J2 hT hP (i := (a : Int) + B - j) (d := n - ((a : Int) + B - j)) (x := spd P (sgl S j) rest) ⟨by omega, by omega⟩ ⟨by omega, by omega⟩ (by omega) (h30 _)) hs.1 (fun v F3 I3 J3 hv => ?_)
        obtain ⟨rfl, rfl, rfl, rfl⟩ := hv
        rw [← zxor_eq (by omega) (by omega), e3] at h2
        exact h2
      · have e3 : stp P S a B rest n j = 0 := by unfold stp; rw [if_neg ho]
        have e4 : zodd ((B : Int) - 1 - j) ((a : Int) - 2 * j) = 0 := by
          unfold zodd at ho ⊢
          split
          · rename_i h
            rw [if_pos h] at ho
            exact absurd rfl ho
          · rfl
        rw [e4]
        refine And.intro (fun c2 => ?_) (fun c2 => absurd rfl c2)
        rw [e3, Nat.xor_zero] at h2
        exact h2
  have mid2 : ¬ 2 * (bnm N t 0) ≤ a → HW X 83 [some (.inr (.inr (some q))), some (.inl (a : Int)), some (.inl t), some (.inl n), some (.inl (bnm N t 0)), some (.inl (bnm N t 1)), some (.inl (bnm N t 2)), some (.inl (bfi N S (n - a - bnm N t 0) (bnm N t 1) (bnm N t 2) 0)), none, none] [] F I J := by
    intro hc
    have h3 := loop hc (a / 2 + 1) 0 (by omega)
    have e0 : ∀ f, xorN 0 f = 0 := fun _ => rfl
    rw [e0, ← hB] at h3
    refine zgo (fun pc => Nat.beq pc 89) 200 hX hR rfl ?_
    exact h3
  clear loop
  have mid1 : HW X 33 [some (.inr (.inr (some q))), some (.inl (a : Int)), some (.inl t), some (.inl n), some (.inl (bnm N t 0)), some (.inl (bnm N t 1)), some (.inl (bnm N t 2)), none, none, none] [] F I J := by
    refine zgo (fun pc => Nat.beq pc 83) 200 hX hR rfl ?_
    refine And.intro (fun c1 => ?_) (fun c1 => ?_)
    · have hc : ¬ 2 * bnm N t 0 ≤ (a : Int) := by omega
      have m2 := mid2 hc
      have cF : Cn (xl X) (xD X) yX0_find wsX0_find mX0_find.2.2.2.2 (xsh X) [.inr (.inr (some b)), .inl (n - a - bnm N t 0), .inl (bnm N t 1), .inl (bnm N t 2), .inl 0] F I J (zself F I J (.inl (bfi N S (n - a - bnm N t 0) (bnm N t 1) (bnm N t 2) 0))) := c_X0_find (xl X) (xD X) (xsh X) hb F I J hT (d := n - a - bnm N t 0) (a1 := bnm N t 1) (a2 := bnm N t 2) (a3 := 0) ⟨by omega, by omega⟩ ⟨by omega, by omega⟩ ⟨by omega, by omega⟩ ⟨by omega, by omega⟩ ⟨by omega, by omega⟩
      refine Exists.intro _ ⟨hs.1, ?_⟩
      refine qX6_timesTerm_52 hX cF hb.1 (fun v F1 I1 J1 hv => ?_)
      obtain ⟨rfl, rfl, rfl, rfl⟩ := hv
      exact m2
    · have hc : 2 * bnm N t 0 ≤ (a : Int) := by omega
      have hf := hfr n a (bnm N t 0) (bnm N t 1)
      have cF : Cn (xl X) (xD X) yX0_find wsX0_find mX0_find.2.2.2.2 (xsh X) [.inr (.inr (some b)), .inl n, .inl (a : Int), .inl (bnm N t 0), .inl (bnm N t 1)] F I J (zself F I J (.inl (bfi N S n a (bnm N t 0) (bnm N t 1)))) := c_X0_find (xl X) (xD X) (xsh X) hb F I J hT (d := n) (a1 := (a : Int)) (a2 := bnm N t 0) (a3 := bnm N t 1) ⟨by omega, by omega⟩ ⟨by omega, by omega⟩ ⟨by omega, by omega⟩ ⟨by omega, by omega⟩ ⟨by omega, by omega⟩
      refine Exists.intro _ ⟨hs.1, ?_⟩
      refine Exists.intro _ ⟨hs.1, ?_⟩
      refine qX6_timesTerm_52 hX cF hb.1 (fun v F1 I1 J1 hv => ?_)
      obtain ⟨rfl, rfl, rfl, rfl⟩ := hv
      refine qX6_timesTerm_34 hX (c_X0_bit (xl X) (xD X) (xsh X) hb F1 I1 J1 hT (d := n) (t := bfi N S n a (bnm N t 0) (bnm N t 1)) ⟨by omega, by omega⟩ ⟨by omega, by omega⟩ (h30 n).2) hb.1 (fun v F2 I2 J2 hv => ?_)
      obtain ⟨rfl, rfl, rfl, rfl⟩ := hv
      exact And.intro (by unfold stt; rw [if_pos hc, ← bbt_nn]) ⟨rfl, rfl, rfl⟩
  refine zgo (fun pc => Nat.beq pc 33) 200 hX hR rfl ?_
  refine Exists.intro _ ⟨hs.1, ?_⟩
  refine qX6_timesTerm_49 hX (c_X0_numberAt (xl X) (xD X) (xsh X) hb F I J hT (t := t) (j := 0) ⟨by omega, by omega⟩ ⟨by omega, by omega⟩) hb.1 (fun v F' I' J' hv => ?_)
  obtain ⟨rfl, rfl, rfl, rfl⟩ := hv
  refine Exists.intro _ ⟨hs.1, ?_⟩
  refine qX6_timesTerm_49 hX (c_X0_numberAt (xl X) (xD X) (xsh X) hb F' I' J' hT (t := t) (j := 1) ⟨by omega, by omega⟩ ⟨by omega, by omega⟩) hb.1 (fun v F' I' J' hv => ?_)
  obtain ⟨rfl, rfl, rfl, rfl⟩ := hv
  refine Exists.intro _ ⟨hs.1, ?_⟩
  refine qX6_timesTerm_49 hX (c_X0_numberAt (xl X) (xD X) (xsh X) hb F' I' J' hT (t := t) (j := 2) ⟨by omega, by omega⟩ ⟨by omega, by omega⟩) hb.1 (fun v F' I' J' hv => ?_)
  obtain ⟨rfl, rfl, rfl, rfl⟩ := hv
  exact mid1
