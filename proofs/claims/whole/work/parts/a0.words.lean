/-! the class: words -/
def mNum : List Nat := [0, 0, 0, 1, 0, 0, 2, 0, 0, 0, 1, 0, 3, 0, 0, 1, 1, 0, 4, 0, 0, 2, 1, 0, 5, 0, 0, 0, 2, 0, 3, 1, 0, 6, 0, 0, 0, 0, 1, 1, 2, 0, 4, 1, 0, 7, 0, 0, 1, 0, 1, 2, 2, 0, 5, 1, 0, 8, 0, 0, 0, 3, 0, 2, 0, 1, 3, 2, 0, 6, 1, 0, 9, 0, 0, 0, 1, 1, 1, 3, 0, 3, 0, 1, 4, 2, 0, 7, 1, 0, 10, 0, 0, 1, 1, 1, 2, 3, 0, 4, 0, 1, 5, 2, 0, 8, 1, 0, 11, 0, 0, 0, 4, 0, 2, 1, 1, 3, 3, 0, 5, 0, 1, 6, 2, 0, 9, 1, 0, 12, 0, 0, 0, 2, 1, 1, 4, 0, 3, 1, 1, 4, 3, 0, 6, 0, 1, 7, 2, 0, 10, 1, 0, 13, 0, 0, 0, 0, 2, 1, 2, 1, 2, 4, 0, 4, 1, 1, 5, 3, 0, 7, 0, 1, 8, 2, 0, 11, 1, 0, 14, 0, 0]
def mN (j : Nat) : Nat := mNum.getD j 0
/-- the world of the class -/
def zWS (sh : Nat → Option zS) : Prop :=
  zWT sh ∧ sh 0 = some (.inl (8, [some (some 2), some (some 8), some (some 10), some (some 5), some (some 11), some (some 15), some (some 30), some (some 1), none, none])) ∧ (∃ cA, sh 1 = some (.inr (.inl (cA, 6)))) ∧ zsBas sh 5 6 7 ∧ zsRp sh 10 5 ∧ zsCh sh 30 31
/-- the tables -/
def zTb (I : zFi) : Prop := bT I 3 4 aN aS ∧ bT I 6 7 mN aS ∧ sqT I 9 aGP
theorem zTb_of {I I' : zFi} (h : zTb I) (e : ∀ a, a < 10 → a ≠ 1 → I' a = I a) : zTb I' := ⟨bT_of h.1 (e 3 (by decide) (by decide)) (e 4 (by decide) (by decide)), bT_of h.2.1 (e 6 (by decide) (by decide)) (e 7 (by decide) (by decide)), sqT_of h.2.2 (e 9 (by decide) (by decide))⟩
/-- the word -/
def WdM (F I : zFi) (ℓ : Nat) (c : Nat → Nat) : Prop := F 0 8 = (ℓ : Int) ∧ F 0 9 = (ns ℓ c : Int) ∧ ℓ ≤ 6 ∧ ns ℓ c ≤ 14 ∧ ∀ k, k < ℓ → I 1 k = (c k : Int)
theorem WdM.of {F F' I I' : zFi} {ℓ : Nat} {c : Nat → Nat} (h : WdM F I ℓ c) (e1 : F' 0 = F 0) (e2 : I' 1 = I 1) : WdM F' I' ℓ c := ⟨by rw [e1]; exact h.1, by rw [e1]; exact h.2.1, h.2.2.1, h.2.2.2.1, fun k hk => by rw [e2]; exact h.2.2.2.2 k hk⟩
theorem ns_term {n k : Nat} (hk : k < n) (f : Nat → Nat) : f k ≤ ns n f := by
  induction n with
  | zero => omega
  | succ n ih =>
    show f k ≤ ns n f + f n
    by_cases e : k = n
    · rw [e]; omega
    · have := ih (by omega); omega
abbrev sqOK (ℓ w : Nat) (i : Int) : Prop := 0 ≤ i ∧ i ≤ 14 ∧ (w : Int) + i ≤ 14 ∧ ℓ < 6
def asq (ℓ w : Nat) (i : Int) : Int := if i < 0 ∨ 14 < i ∨ 14 < (w : Int) + i then -1 else if 6 ≤ ℓ then -3 else (ℓ : Int) + 1
theorem c_X8_square (l : Launch) (D : va_G) (sh : Nat → Option zS) (hs : zWS sh) (F I : zFi) (J : zJi) {ℓ : Nat} {c : Nat → Nat} (hw : WdM F I ℓ c) {i : Int} (hi : zi32 i) :
    Cn l D yX8_square wsX8_square mX8_square.2.2.2.2 sh [.inr (.inr (some 0)), .inl i] F I J (fun v F' I' J' => v = some (.inl (asq ℓ (ns ℓ c) i)) ∧ J' = J ∧ ((sqOK ℓ (ns ℓ c) i ∧ F' = zu (zu F 0 8 ((ℓ : Int) + 1)) 0 9 ((ns ℓ c : Int) + i) ∧ I' = zu I 1 ℓ i) ∨ (¬ sqOK ℓ (ns ℓ c) i ∧ F' = F ∧ I' = I))) := by
  obtain ⟨-, h0, ⟨cA, h1⟩, -⟩ := hs
  obtain ⟨w1, w2, w3, w4, w5⟩ := hw
  unfold zi32 at hi
  refine zmet (M := mX8_square) rfl rfl rfl kX8_square (Nat.le_of_ble_eq_true rfl) (fun X hX hR hl hD hsh => ?_)
  subst hl hD hsh
  refine zgo (fun _ => false) 200 hX hR rfl ?_
  unfold asq
  refine And.intro (fun c1 => ?_) (fun c1 => ?_)
  · exact And.intro (by rw [if_pos (by omega)]) ⟨rfl, Or.inr ⟨by omega, rfl, rfl⟩⟩
  refine And.intro (fun c2 => ?_) (fun c2 => ?_)
  · exact And.intro (by rw [if_pos (by omega)]) ⟨rfl, Or.inr ⟨by omega, rfl, rfl⟩⟩
  refine Exists.intro _ ⟨h0, ?_⟩
  refine And.intro (fun c3 => ?_) (fun c3 => ?_)
  · rw [w2] at c3
    refine Exists.intro _ ⟨h0, ?_⟩
    refine Exists.intro _ ⟨h0, ?_⟩
    refine Exists.intro _ ⟨h1, ?_⟩
    refine And.intro (fun c4 => ?_) (fun c4 => ?_)
    · rw [w1] at c4
      refine Exists.intro _ ⟨h0, ?_⟩
      refine Exists.intro _ ⟨h0, ?_⟩
      refine Exists.intro _ ⟨_, ℓ, h1, w1, by omega, ?_⟩
      refine Exists.intro _ ⟨h0, ?_⟩
      refine Exists.intro _ ⟨h0, ?_⟩
      refine Exists.intro _ ⟨h0, ?_⟩
      refine Exists.intro _ ⟨h0, ?_⟩
      refine Exists.intro _ ⟨h0, ?_⟩
      refine And.intro ?_ ⟨rfl, Or.inl ⟨⟨by omega, by omega, by omega, by omega⟩, ?_, rfl⟩⟩
      · rw [if_neg (by omega), if_neg (by omega), zu_n (by omega), zu_s, w1]
      · rw [w1, zu_n (by omega), w2]
    · rw [w1] at c4
      exact And.intro (by rw [if_neg (by omega), if_pos (by omega)]) ⟨rfl, Or.inr ⟨by omega, rfl, rfl⟩⟩
  · rw [w2] at c3
    exact And.intro (by rw [if_pos (by omega)]) ⟨rfl, Or.inr ⟨by omega, rfl, rfl⟩⟩
theorem c_X8_clear (l : Launch) (D : va_G) (sh : Nat → Option zS) (hs : zWS sh) (F I : zFi) (J : zJi) :
    Cn l D yX8_clear wsX8_clear mX8_clear.2.2.2.2 sh [.inr (.inr (some 0))] F I J (fun v F' I' J' => v = some (.inl (F 0 8)) ∧ F' = zu (zu F 0 8 0) 0 9 0 ∧ I' = I ∧ J' = J) := by
  obtain ⟨-, h0, -⟩ := hs
  refine zmet (M := mX8_clear) rfl rfl rfl kX8_clear (Nat.le_of_ble_eq_true rfl) (fun X hX hR hl hD hsh => ?_)
  subst hl hD hsh
  refine zgo (fun _ => false) 200 hX hR rfl ?_
  refine Exists.intro _ ⟨h0, ?_⟩
  refine Exists.intro _ ⟨h0, ?_⟩
  refine Exists.intro _ ⟨h0, ?_⟩
  exact And.intro rfl ⟨rfl, rfl, rfl⟩
/-- the sum that a word is, from its end: j numbers done -/
def wsA (ℓ : Nat) (c : Nat → Nat) : Nat → Nat × Nat
  | 0 => (1, 0)
  | j + 1 => (sqs aGP aS (c (ℓ - 1 - j) : Int) (wsA ℓ c j).1 ((wsA ℓ c j).2 : Int), (wsA ℓ c j).2 + c (ℓ - 1 - j))
def wsR (ℓ : Nat) (c : Nat → Nat) : Nat → Nat × Nat
  | 0 => (1, 0)
  | j + 1 => (rps mN aS (c (ℓ - 1 - j)) (wsR ℓ c j).1 ((wsR ℓ c j).2 : Int), (wsR ℓ c j).2 + c (ℓ - 1 - j))
theorem ns_split (ℓ : Nat) (c : Nat → Nat) : ∀ j, j ≤ ℓ → ns ℓ c = ns (ℓ - j) c + ns j (fun i => c (ℓ - 1 - i)) := by
  intro j
  induction j with
  | zero => intro _; rfl
  | succ j ih =>
    intro hj
    rw [ih (by omega), show ℓ - j = (ℓ - (j + 1)) + 1 by omega]
    show ns (ℓ - (j + 1)) c + c (ℓ - (j + 1)) + _ = ns (ℓ - (j + 1)) c + (ns j (fun i => c (ℓ - 1 - i)) + c (ℓ - 1 - j))
    rw [show ℓ - (j + 1) = ℓ - 1 - j by omega]
    omega
theorem wsA_2 (ℓ : Nat) (c : Nat → Nat) : ∀ j, (wsA ℓ c j).2 = ns j (fun i => c (ℓ - 1 - i)) := by
  intro j
  induction j with
  | zero => rfl
  | succ j ih => show (wsA ℓ c j).2 + _ = ns j _ + _; rw [ih]
theorem wsR_2 (ℓ : Nat) (c : Nat → Nat) : ∀ j, (wsR ℓ c j).2 = ns j (fun i => c (ℓ - 1 - i)) := by
  intro j
  induction j with
  | zero => rfl
  | succ j ih => show (wsR ℓ c j).2 + _ = ns j _ + _; rw [ih]
theorem wsA_lt {I : zFi} (h : sqT I 9 aGP) (ℓ : Nat) (c : Nat → Nat) (j : Nat) : (wsA ℓ c j).1 < 1073741824 := by
  cases j with
  | zero => exact (show 1 < 1073741824 by decide)
  | succ j => exact sqs_lt h _ _ _ _
theorem rps_lt30 (i x : Nat) (d : Int) : rps mN aS i x d < 1073741824 := by
  refine xorN_lt (m := 30) (fun k _ => ?_)
  unfold rpt
  split
  · unfold rrw
    refine xorN_lt (m := 30) (fun _ _ => xorN_lt (m := 30) (fun _ _ => ?_))
    unfold rcl
    split
    · unfold bbt
      split
      · rename_i h
        have := (aS_fit (d + i)).2.2
        rw [Int.toNat_natCast]
        exact Nat.pow_lt_pow_right (by decide) (by omega)
      · decide
    · decide
  · decide
theorem wsR_lt (ℓ : Nat) (c : Nat → Nat) (j : Nat) : (wsR ℓ c j).1 < 1073741824 := by
  cases j with
  | zero => exact (show 1 < 1073741824 by decide)
  | succ j => exact rps_lt30 _ _ _
theorem aS_30 (n : Int) : 0 ≤ bsz aS n ∧ bsz aS n ≤ 30 := by
  have := aS_fit n
  omega
theorem c_X8_sumOfAllowed (l : Launch) (D : va_G) (sh : Nat → Option zS) (hs : zWS sh) (F I : zFi) (J : zJi) (hT : zTb I) {ℓ : Nat} {c : Nat → Nat} (hw : WdM F I ℓ c) :
    Cn l D yX8_sumOfAllowed wsX8_sumOfAllowed mX8_sumOfAllowed.2.2.2.2 sh [.inr (.inr (some 0))] F I J (zself F I J (.inl ((wsA ℓ c ℓ).1 : Int))) := by
  obtain ⟨⟨-, hb, hsq, -⟩, h0, ⟨cA, h1⟩, -⟩ := hs
  obtain ⟨w1, w2, w3, w4, w5⟩ := hw
  refine zmet (M := mX8_sumOfAllowed) rfl rfl rfl kX8_sumOfAllowed (Nat.le_of_ble_eq_true rfl) (fun X hX hR hl hD hsh => ?_)
  subst hl hD hsh
  have loop : ∀ m j, j + m = ℓ → HW X 19 [some (.inr (.inr (some 0))), some (.inl ((wsA ℓ c j).1 : Int)), some (.inl ((wsA ℓ c j).2 : Int)), some (.inl ((m : Int) - 1))] [] F I J := by
    intro m
    induction m with
    | zero =>
      intro j hj
      refine zgo (fun pc => Nat.beq pc 19) 200 hX hR rfl ?_
      refine And.intro (fun c1 => ?_) (fun c1 => absurd (by decide) c1)
      exact And.intro (by rw [show j = ℓ by omega]) ⟨rfl, rfl, rfl⟩
    | succ m ih =>
      intro j hj
      have h := ih (j + 1) (by omega)
      have hk : ℓ - 1 - j = m := by omega
      have hck := w5 m (by omega)
      have hc14 : c m ≤ 14 := Nat.le_trans (ns_term (n := ℓ) (k := m) (by omega) c) w4
      have hlt := wsA_lt hT.2.2 ℓ c j
      have h2 : (wsA ℓ c j).2 ≤ 14 := by
        rw [wsA_2]
        have := ns_split ℓ c j (by omega)
        omega
      rw [show (wsA ℓ c (j + 1)).1 = sqs aGP aS (c (ℓ - 1 - j) : Int) (wsA ℓ c j).1 ((wsA ℓ c j).2 : Int) from rfl, show (wsA ℓ c (j + 1)).2 = (wsA ℓ c j).2 + c (ℓ - 1 - j) from rfl, hk] at h
      rw [show (((wsA ℓ c j).2 + c m : Nat) : Int) = ((wsA ℓ c j).2 : Int) + (c m : Int) from rfl, ← hck] at h
      rw [show ((m + 1 : Nat) : Int) - 1 = (m : Int) by omega]
      refine zgo (fun pc => Nat.beq pc 19) 200 hX hR rfl ?_
      refine And.intro (fun c1 => by omega) (fun c1 => ?_)
      refine Exists.intro _ ⟨h0, ?_⟩
      refine Exists.intro _ ⟨h0, ?_⟩
      refine Exists.intro _ ⟨_, m, h1, rfl, by omega, ?_⟩
      refine qX8_sumOfAllowed_102 hX (c_X6_timesSum (xl X) (xD X) (xsh X) hsq hb F I J hT.1 hT.2.2 (i := I 1 m) (d := ((wsA ℓ c j).2 : Int)) (x := (wsA ℓ c j).1) ⟨by omega, by omega⟩ ⟨by omega, by omega⟩ (by omega) (aS_30 _)) hsq.1 (fun v F' I' J' hv => ?_)
      obtain ⟨rfl, rfl, rfl, rfl⟩ := hv
      refine Exists.intro _ ⟨h0, ?_⟩
      refine Exists.intro _ ⟨_, m, h1, rfl, by omega, ?_⟩
      exact h
  have hl0 := loop ℓ 0 (by omega)
  refine zgo (fun pc => Nat.beq pc 19) 200 hX hR rfl ?_
  refine Exists.intro _ ⟨h0, ?_⟩
  refine Exists.intro _ ⟨h0, ?_⟩
  refine Exists.intro _ ⟨h1, ?_⟩
  rw [w1]
  refine qX8_sumOfAllowed_97 hX (c_J9_min (xl X) (xD X) (xsh X) F I J (a := (ℓ : Int)) (b := 6) ⟨by omega, by omega⟩ ⟨by omega, by omega⟩) (fun v F' I' J' hv => ?_)
  obtain ⟨rfl, rfl, rfl, rfl⟩ := hv
  rw [if_pos (show (ℓ : Int) ≤ 6 by omega)]
  exact hl0
theorem c_X8_sumOfRows (l : Launch) (D : va_G) (sh : Nat → Option zS) (hs : zWS sh) (F I : zFi) (J : zJi) (hT : zTb I) {ℓ : Nat} {c : Nat → Nat} (hw : WdM F I ℓ c) :
    Cn l D yX8_sumOfRows wsX8_sumOfRows mX8_sumOfRows.2.2.2.2 sh [.inr (.inr (some 0))] F I J (zself F I J (.inl ((wsR ℓ c ℓ).1 : Int))) := by
  obtain ⟨-, h0, ⟨cA, h1⟩, hb, hrp, -⟩ := hs
  have hrp' : sh 10 = some (.inl (4, [some (some 5)])) := hrp
  obtain ⟨w1, w2, w3, w4, w5⟩ := hw
  refine zmet (M := mX8_sumOfRows) rfl rfl rfl kX8_sumOfRows (Nat.le_of_ble_eq_true rfl) (fun X hX hR hl hD hsh => ?_)
  subst hl hD hsh
  have loop : ∀ m j, j + m = ℓ → HW X 19 [some (.inr (.inr (some 0))), some (.inl ((wsR ℓ c j).1 : Int)), some (.inl ((wsR ℓ c j).2 : Int)), some (.inl ((m : Int) - 1))] [] F I J := by
    intro m
    induction m with
    | zero =>
      intro j hj
      refine zgo (fun pc => Nat.beq pc 19) 200 hX hR rfl ?_
      refine And.intro (fun c1 => ?_) (fun c1 => absurd (by decide) c1)
      exact And.intro (by rw [show j = ℓ by omega]) ⟨rfl, rfl, rfl⟩
    | succ m ih =>
      intro j hj
      have h := ih (j + 1) (by omega)
      have hk : ℓ - 1 - j = m := by omega
      have hck := w5 m (by omega)
      have hc14 : c m ≤ 14 := Nat.le_trans (ns_term (n := ℓ) (k := m) (by omega) c) w4
      have hlt := wsR_lt ℓ c j
      have h2 : (wsR ℓ c j).2 ≤ 14 := by
        rw [wsR_2]
        have := ns_split ℓ c j (by omega)
        omega
      have cT := c_X4_timesSum (xl X) (xD X) (xsh X) hrp hb F I J hT.2.1 (i := c m) (x := (wsR ℓ c j).1) (d := ((wsR ℓ c j).2 : Int)) (by omega) (by omega) ⟨by omega, by omega⟩ (fun n => (aS_30 n).2) (aS_30 _).1
      rw [show (wsR ℓ c (j + 1)).1 = rps mN aS (c (ℓ - 1 - j)) (wsR ℓ c j).1 ((wsR ℓ c j).2 : Int) from rfl, show (wsR ℓ c (j + 1)).2 = (wsR ℓ c j).2 + c (ℓ - 1 - j) from rfl, hk] at h
      rw [show (((wsR ℓ c j).2 + c m : Nat) : Int) = ((wsR ℓ c j).2 : Int) + (c m : Int) from rfl, ← hck] at h
      rw [← hck] at cT
      rw [show ((m + 1 : Nat) : Int) - 1 = (m : Int) by omega]
      refine zgo (fun pc => Nat.beq pc 19) 200 hX hR rfl ?_
      refine And.intro (fun c1 => by omega) (fun c1 => ?_)
      refine Exists.intro _ ⟨h0, ?_⟩
      refine Exists.intro _ ⟨h0, ?_⟩
      refine Exists.intro _ ⟨_, m, h1, rfl, by omega, ?_⟩
      refine qX8_sumOfRows_106 hX cT hrp' (fun v F' I' J' hv => ?_)
      obtain ⟨rfl, rfl, rfl, rfl⟩ := hv
      refine Exists.intro _ ⟨h0, ?_⟩
      refine Exists.intro _ ⟨_, m, h1, rfl, by omega, ?_⟩
      exact h
  have hl0 := loop ℓ 0 (by omega)
  refine zgo (fun pc => Nat.beq pc 19) 200 hX hR rfl ?_
  refine Exists.intro _ ⟨h0, ?_⟩
  refine Exists.intro _ ⟨h0, ?_⟩
  refine Exists.intro _ ⟨h1, ?_⟩
  rw [w1]
  refine qX8_sumOfRows_97 hX (c_J9_min (xl X) (xD X) (xsh X) F I J (a := (ℓ : Int)) (b := 6) ⟨by omega, by omega⟩ ⟨by omega, by omega⟩) (fun v F' I' J' hv => ?_)
  obtain ⟨rfl, rfl, rfl, rfl⟩ := hv
  rw [if_pos (show (ℓ : Int) ≤ 6 by omega)]
  exact hl0
/-- the sum asked for -/
def wsm (ℓ : Nat) (c : Nat → Nat) (what : Int) : Nat := if what = 0 then (wsA ℓ c ℓ).1 else (wsR ℓ c ℓ).1
def asm (ℓ : Nat) (c : Nat → Nat) (what : Int) : Int := if what < 0 ∨ 1 < what then -1 else zswi (wsm ℓ c what : Int)
theorem c_X8_sum (l : Launch) (D : va_G) (sh : Nat → Option zS) (hs : zWS sh) (F I : zFi) (J : zJi) (hT : zTb I) {ℓ : Nat} {c : Nat → Nat} (hw : WdM F I ℓ c) {what : Int} (hi : zi32 what) :
    Cn l D yX8_sum wsX8_sum mX8_sum.2.2.2.2 sh [.inr (.inr (some 0)), .inl what] F I J (zself F I J (.inl (asm ℓ c what))) := by
  unfold zi32 at hi
  refine zmet (M := mX8_sum) rfl rfl rfl kX8_sum (Nat.le_of_ble_eq_true rfl) (fun X hX hR hl hD hsh => ?_)
  subst hl hD hsh
  refine zgo (fun _ => false) 200 hX hR rfl ?_
  unfold asm wsm
  refine And.intro (fun c1 => ?_) (fun c1 => ?_)
  · exact And.intro (by rw [if_pos (by omega)]) ⟨rfl, rfl, rfl⟩
  refine And.intro (fun c2 => ?_) (fun c2 => ?_)
  · refine And.intro (fun c3 => ?_) (fun c3 => ?_)
    · refine qX8_sum_75 hX (c_X8_sumOfRows (xl X) (xD X) (xsh X) hs F I J hT hw) hs.2.1 (fun v F' I' J' hv => ?_)
      obtain ⟨rfl, rfl, rfl, rfl⟩ := hv
      refine qX8_sum_78 hX (c_J6_bitCount (xl X) (xD X) (xsh X) F' I' J' _) (fun v F2 I2 J2 hv => ?_)
      obtain ⟨rfl, rfl, rfl, rfl⟩ := hv
      exact And.intro (by rw [if_neg (by omega), if_neg (by omega)]) ⟨rfl, rfl, rfl⟩
    · refine qX8_sum_71 hX (c_X8_sumOfAllowed (xl X) (xD X) (xsh X) hs F I J hT hw) hs.2.1 (fun v F' I' J' hv => ?_)
      obtain ⟨rfl, rfl, rfl, rfl⟩ := hv
      refine qX8_sum_78 hX (c_J6_bitCount (xl X) (xD X) (xsh X) F' I' J' _) (fun v F2 I2 J2 hv => ?_)
      obtain ⟨rfl, rfl, rfl, rfl⟩ := hv
      exact And.intro (by rw [if_neg (by omega), if_pos (by omega)]) ⟨rfl, rfl, rfl⟩
  · exact And.intro (by rw [if_pos (by omega)]) ⟨rfl, rfl, rfl⟩
/-- the place of the i-th bit -/
def pbk (x : Nat) (i : Int) : Nat → Nat → Nat → Int
  | 0, _, _ => -1
  | n + 1, k, seen => if x.testBit k then (if (seen : Int) = i then (k : Int) else pbk x i n (k + 1) (seen + 1)) else pbk x i n (k + 1) seen
theorem c_X8_placeOfBit (l : Launch) (D : va_G) (sh : Nat → Option zS) (F I : zFi) (J : zJi) {x : Nat} (hx : x < 1073741824) {i : Int} (hi : zi32 i) :
    Cn l D yX8_placeOfBit wsX8_placeOfBit mX8_placeOfBit.2.2.2.2 sh [.inl (x : Int), .inl i] F I J (zself F I J (.inl (pbk x i 31 0 0))) := by
  unfold zi32 at hi
  refine zmet (M := mX8_placeOfBit) rfl rfl rfl kX8_placeOfBit (Nat.le_of_ble_eq_true rfl) (fun X hX hR hl hD hsh => ?_)
  subst hl hD hsh
  have loop : ∀ m k seen, k + m = 31 → seen ≤ k → pbk x i m k seen = pbk x i 31 0 0 → HW X 4 [some (.inl (x : Int)), some (.inl i), some (.inl (seen : Int)), some (.inl (k : Int))] [] F I J := by
    intro m
    induction m with
    | zero =>
      intro k seen hk hsn he
      have hk31 : k = 31 := by omega
      subst hk31
      have last : HW X 4 [some (.inl (x : Int)), some (.inl i), some (.inl (seen : Int)), some (.inl (((32 : Nat)) : Int))] [] F I J := by
        refine zgo (fun pc => Nat.beq pc 4) 200 hX hR rfl ?_
        refine And.intro (fun c1 => ?_) (fun c1 => absurd (by decide) c1)
        exact And.intro (by rw [← he]; rfl) ⟨rfl, rfl, rfl⟩
      have hz : zand (zshr (x : Int) 31) 1 = 0 := by
        have h1 := zshr_eq (a := x) (k := 31) (by omega) (by decide)
        rw [show (31 : Int) = ((31 : Nat) : Int) from rfl, h1, show x / 2 ^ 31 = 0 from Nat.div_eq_of_lt (by omega)]
        rfl
      refine zgo (fun pc => Nat.beq pc 4) 200 hX hR rfl ?_
      refine And.intro (fun c1 => by omega) (fun c1 => ?_)
      refine And.intro (fun c2 => last) (fun c2 => ?_)
      exact absurd (by rw [show ((31 : Nat) : Int) = 31 from rfl, hz]; rfl) c2
    | succ m ih =>
      intro k seen hk hsn he
      have hz := zbit (x := x) (e := k) (by omega) (by omega)
      have he' : (if x.testBit k then (if (seen : Int) = i then (k : Int) else pbk x i m (k + 1) (seen + 1)) else pbk x i m (k + 1) seen) = pbk x i 31 0 0 := he
      refine zgo (fun pc => Nat.beq pc 4) 200 hX hR rfl ?_
      refine And.intro (fun c1 => by omega) (fun c1 => ?_)
      cases hb : x.testBit k
      · rw [hb, if_neg (by decide)] at he' hz
        refine And.intro (fun c2 => ?_) (fun c2 => ?_)
        · exact ih (k + 1) seen (by omega) (by omega) he'
        · rw [hz] at c2
          exact absurd rfl c2
      · rw [hb, if_pos rfl] at he' hz
        refine And.intro (fun c2 => ?_) (fun c2 => ?_)
        · rw [hz] at c2
          exact absurd c2 (by decide)
        · refine And.intro (fun c3 => ?_) (fun c3 => ?_)
          · rw [if_neg (by omega)] at he'
            exact ih (k + 1) (seen + 1) (by omega) (by omega) he'
          · rw [if_pos (by omega)] at he'
            exact And.intro (by rw [← he']) ⟨rfl, rfl, rfl⟩
  refine zgo (fun pc => Nat.beq pc 4) 200 hX hR rfl ?_
  exact loop 31 0 0 (by decide) (Nat.le_refl _) rfl
