/-! the reference: its words are found -/
theorem aS_le : ∀ b, b < 16 → ∀ a, a ≤ b → aS a ≤ aS b := by decide
theorem lnC_3 (u : Nat) : lnC u ≤ 3 := by
  unfold lnC
  split
  · decide
  · split
    · decide
    · split <;> decide
theorem wcn_next (n i k : Nat) : wcn n i (k + 1) = wcn n i k + (match wfit i (aS (n - i) + k) with | true => 1 | false => 0) := by
  show aS n + wfa n i + (wfb n i k + _) = aS n + wfa n i + wfb n i k + _
  exact (Nat.add_assoc _ _ _).symm
theorem wcn_i {n i : Nat} (hi : 1 ≤ i) : wcn n (i + 1) 0 = wcn n i (aS (n - i + 1) - aS (n - i)) := by
  obtain ⟨j, rfl⟩ : ∃ j, i = j + 1 := ⟨i - 1, by omega⟩
  show aS n + (wfa n (j + 1) + wfb n (j + 1) _) + 0 = aS n + wfa n (j + 1) + wfb n (j + 1) _
  omega
theorem wcn_1 (n : Nat) : wcn n 1 0 = aS n := by
  show aS n + (0 + 0) + 0 = aS n
  omega
/-- a word is being copied -/
def wcp (I' Ic : zFi) (w i b c : Nat) : Prop := (∀ a, a ≠ 63 → Ic a = I' a) ∧ (∀ u k, u < w → k < 3 → Ic 63 (4 * u + k) = (cn u k : Int)) ∧ Ic 63 (4 * w) = (i : Int) ∧ (∀ k, k < c → Ic 63 (4 * w + 1 + k) = (cn b k : Int)) ∧ ∀ j, 4 * w + 1 + c ≤ j → j < 256 → Ic 63 j = 0
theorem wdI.put {F I F' I' Ic : zFi} {w n i b : Nat} (hw61 : w < 61) (h : wdI F I F' I' w n) (hc : wcp I' Ic w i b (lnC b)) (h0 : cn w 0 = i) (h1 : lnC w = lnC b + 1) (h2 : ∀ j, j < 2 → cn w (j + 1) = if j < lnC b then cn b j else 0) : wdI F I (zu F' 60 7 ((w : Int) + 1)) (zu Ic 62 w ((lnC b : Int) + 1)) (w + 1) n := by
  obtain ⟨⟨g1, g1b⟩, g2, g3, g4, g5, g6⟩ := h
  obtain ⟨c1, c2, c3, c4, c5⟩ := hc
  have hl := lnC_3 w
  refine ⟨⟨by rw [zu_s]; omega, fun a j hj => by rw [zu_n hj]; exact g1b a j hj⟩, fun j hj => by rw [zu_r (by decide), c1 61 (by decide)]; exact g2 j hj, fun u hu => ?_, fun u k hu hk => ?_, fun j hj hj2 => ?_, fun a a1 a2 a3 => by rw [zu_r a2, c1 a a3]; exact g6 a a1 a2 a3⟩
  · by_cases e : u = w
    · subst e
      rw [zu_s, h1]
      omega
    · rw [zu_n (by omega), c1 62 (by decide)]
      exact g3 u (by omega)
  · rw [zu_r (by decide)]
    by_cases e : u = w
    · subst e
      by_cases e0 : k = 0
      · subst e0
        rw [Nat.add_zero, c3, h0]
      · obtain ⟨j, rfl⟩ : ∃ j, k = j + 1 := ⟨k - 1, by omega⟩
        rw [h2 j (by omega), show 4 * u + (j + 1) = 4 * u + 1 + j by omega]
        by_cases hj : j < lnC b
        · rw [if_pos hj]
          exact c4 j hj
        · rw [if_neg hj]
          exact c5 _ (by omega) (by omega)
    · exact c2 u k (by omega) hk
  · rw [zu_r (by decide)]
    exact c5 j (by omega) hj2
set_option maxHeartbeats 2000000 in
theorem c_X9_findWords (l : Launch) (D : va_G) (sh : Nat → Option zS) (hs : zWM sh) (F I : zFi) (J : zJi) (h62 : ∀ j, j < 64 → I 62 j = 0) (h63 : ∀ j, j < 256 → I 63 j = 0) :
    Cn l D yX9_findWords wsX9_findWords mX9_findWords.2.2.2.2 sh [.inr (.inr (some 60))] F I J (fun v F' I' J' => v = none ∧ J' = J ∧ wdI F I F' I' 61 15) := by
  obtain ⟨c61, s61⟩ := hs.a61
  obtain ⟨c62, s62⟩ := hs.a62
  obtain ⟨c63, s63⟩ := hs.a63
  refine zmet (M := mX9_findWords) rfl rfl rfl kX9_findWords (Nat.le_of_ble_eq_true rfl) (fun X hX hR hl hD hsh => ?_)
  subst hl hD hsh
  -- the numbers of a word
  have loopC : ∀ (n i b w : Nat) (F' I' : zFi), b < w → w < 61 → lnC b ≤ 2 → wdI F I F' I' w n → cn w 0 = i → lnC w = lnC b + 1 → (∀ j, j < 2 → cn w (j + 1) = if j < lnC b then cn b j else 0) → (∀ F2 I2, wdI F I F2 I2 (w + 1) n → HW X 186 [some (.inr (.inr (some 60))), some (.inl (n : Int)), some (.inl (i : Int)), some (.inl (b : Int)), none] [] F2 I2 J) → ∀ (m c : Nat) (Ic : zFi), c + m = lnC b → wcp I' Ic w i b c → HW X 115 [some (.inr (.inr (some 60))), some (.inl (n : Int)), some (.inl (i : Int)), some (.inl (b : Int)), some (.inl (c : Int))] [] F' Ic J := by
    intro n i b w F' I' hbw hw hlb hI e0 e1 e2 hk m
    have hF7 := hI.1.1
    have hl62 := hI.2.2.1 b hbw
    induction m with
    | zero =>
      intro c Ic hc hcp
      obtain rfl : c = lnC b := by omega
      have h9 := hk _ _ (wdI.put hw hI hcp e0 e1 e2)
      have hic : Ic 62 b = (lnC b : Int) := by rw [hcp.1 62 (by decide)]; exact hl62
      refine zgo (fun pc => Nat.beq pc 115 || Nat.beq pc 186) 200 hX hR rfl ?_
      refine Exists.intro _ ⟨hs.o, ?_⟩
      refine Exists.intro _ ⟨_, b, s62, rfl, by omega, ?_⟩
      rw [hic]
      refine And.intro (fun g1 => ?_) (fun g1 => by omega)
      refine Exists.intro _ ⟨hs.o, ?_⟩
      refine Exists.intro _ ⟨hs.o, ?_⟩
      refine Exists.intro _ ⟨hs.o, ?_⟩
      refine Exists.intro _ ⟨_, b, s62, rfl, by omega, ?_⟩
      refine Exists.intro _ ⟨_, w, s62, hF7, by omega, ?_⟩
      refine Exists.intro _ ⟨hs.o, ?_⟩
      refine Exists.intro _ ⟨hs.o, ?_⟩
      rw [hic, hF7]
      exact hw_weak (ls' := [some (.inr (.inr (some 60))), some (.inl (n : Int)), some (.inl (i : Int)), some (.inl (b : Int)), none]) ⟨rfl, rfl, rfl, rfl, trivial⟩ h9
    | succ m ih =>
      intro c Ic hc hcp
      have hic : Ic 62 b = (lnC b : Int) := by rw [hcp.1 62 (by decide)]; exact hl62
      have hcb : Ic 63 (4 * b + c) = (cn b c : Int) := hcp.2.1 b c hbw (by omega)
      refine zgo (fun pc => Nat.beq pc 115 || Nat.beq pc 186) 200 hX hR rfl ?_
      refine Exists.intro _ ⟨hs.o, ?_⟩
      refine Exists.intro _ ⟨_, b, s62, rfl, by omega, ?_⟩
      rw [hic]
      refine And.intro (fun g1 => by omega) (fun g1 => ?_)
      refine Exists.intro _ ⟨hs.o, ?_⟩
      refine Exists.intro _ ⟨hs.o, ?_⟩
      refine Exists.intro _ ⟨hs.o, ?_⟩
      refine Exists.intro _ ⟨_, 4 * b + c, s63, by omega, by omega, ?_⟩
      refine Exists.intro _ ⟨_, 4 * w + 1 + c, s63, by rw [hF7]; omega, by omega, ?_⟩
      rw [hcb]
      refine ih (c + 1) _ (by omega) ⟨fun a ha => by rw [zu_r ha]; exact hcp.1 a ha, fun u k hu hk2 => by rw [zu_n (by omega)]; exact hcp.2.1 u k hu hk2, by rw [zu_n (by omega)]; exact hcp.2.2.1, fun k hk2 => ?_, fun j hj hj2 => by rw [zu_n (by omega)]; exact hcp.2.2.2.2 j (by omega) hj2⟩
      by_cases e : k = c
      · subst e
        rw [zu_s]
      · rw [zu_n (by omega)]
        exact hcp.2.2.2.1 k (by omega)
  -- over the rests
  have loopB : ∀ n i : Nat, n ≤ 14 → 1 ≤ i → i ≤ n → ∀ (m k : Nat) (F' I' : zFi), k + m = aS (n - i + 1) - aS (n - i) → wdI F I F' I' (wcn n i k) n → (∀ F2 I2, wdI F I F2 I2 (wcn n (i + 1) 0) n → HW X 39 [some (.inr (.inr (some 60))), some (.inl (n : Int)), some (.inl ((i + 1 : Nat) : Int)), none, none] [] F2 I2 J) →
      HW X 53 [some (.inr (.inr (some 60))), some (.inl (n : Int)), some (.inl (i : Int)), some (.inl ((aS (n - i) + k : Nat) : Int)), none] [] F' I' J := by
    intro n i hn hi hin m
    have hr := dg_range (show n - i ≤ 14 by omega)
    have hmono := aS_le n (by omega) (n - i + 1) (by omega)
    induction m with
    | zero =>
      intro k F' I' hk hI hk'
      rw [wcn_i hi, show aS (n - i + 1) - aS (n - i) = k by omega] at hk'
      have hb := hI.2.1 (n - i + 1) (by omega)
      refine zgo (fun pc => Nat.beq pc 39) 200 hX hR rfl ?_
      refine Exists.intro _ ⟨hs.o, ?_⟩
      refine Exists.intro _ ⟨_, n - i + 1, s61, by omega, by omega, ?_⟩
      rw [hb]
      refine And.intro (fun g1 => ?_) (fun g1 => by omega)
      exact hw_weak (ls' := [some (.inr (.inr (some 60))), some (.inl (n : Int)), some (.inl ((i + 1 : Nat) : Int)), none, none]) ⟨rfl, rfl, rfl, trivial⟩ (hk' F' I' hI)
    | succ m ih =>
      intro k F' I' hk hI hk'
      have hb := hI.2.1 (n - i + 1) (by omega)
      have hbn := hI.2.1 n (by omega)
      have h61n := aS_61 n
      have hnx := wcn_next n i k
      have hbw : aS (n - i) + k < wcn n i k := by
        have : aS n ≤ wcn n i k := by
          show aS n ≤ aS n + wfa n i + wfb n i k
          omega
        omega
      have hl62 := hI.2.2.1 _ hbw
      have hp0 := hI.2.2.2.1 _ 0 hbw (by decide)
      have hF7 := hI.1.1
      have next : ∀ F2 I2, wdI F I F2 I2 (wcn n i (k + 1)) n → HW X 186 [some (.inr (.inr (some 60))), some (.inl (n : Int)), some (.inl (i : Int)), some (.inl ((aS (n - i) + k : Nat) : Int)), none] [] F2 I2 J := by
        intro F2 I2 hI2
        have h9 := ih (k + 1) F2 I2 (by omega) hI2 hk'
        refine zgo (fun pc => Nat.beq pc 53) 200 hX hR rfl ?_
        exact h9
      have yes : wfit i (aS (n - i) + k) = true → HW X 100 [some (.inr (.inr (some 60))), some (.inl (n : Int)), some (.inl (i : Int)), some (.inl ((aS (n - i) + k : Nat) : Int)), none] [] F' I' J := by
        intro hf
        rw [hf] at hnx
        obtain ⟨t1, t2, t3, t4, t5⟩ := ckWd_at hn hi hin (by omega) hf
        have hl3 := lnC_3 (wcn n i k)
        rw [hnx] at next
        have h9 := loopC n i (aS (n - i) + k) (wcn n i k) F' I' t2 t1 (by omega) hI t3 t4 t5 next (lnC (aS (n - i) + k)) 0 (zu I' 63 (4 * wcn n i k) (i : Int)) (by omega) ⟨fun a ha => zu_r ha, fun u j hu hj => by rw [zu_n (by omega)]; exact hI.2.2.2.1 u j hu hj, zu_s _ _ _ _, fun j hj => absurd hj (Nat.not_lt_zero j), fun j hj hj2 => by rw [zu_n (by omega)]; exact hI.2.2.2.2.1 j (by omega) hj2⟩
        refine zgo (fun pc => Nat.beq pc 115) 200 hX hR rfl ?_
        refine Exists.intro _ ⟨hs.o, ?_⟩
        refine Exists.intro _ ⟨hs.o, ?_⟩
        refine Exists.intro _ ⟨_, 4 * wcn n i k, s63, by rw [hF7]; omega, by omega, ?_⟩
        exact h9
      refine zgo (fun pc => Nat.beq pc 100 || Nat.beq pc 186) 200 hX hR rfl ?_
      refine Exists.intro _ ⟨hs.o, ?_⟩
      refine Exists.intro _ ⟨_, n - i + 1, s61, by omega, by omega, ?_⟩
      rw [hb]
      refine And.intro (fun g1 => by omega) (fun g1 => ?_)
      refine Exists.intro _ ⟨hs.o, ?_⟩
      refine Exists.intro _ ⟨_, n, s61, rfl, by omega, ?_⟩
      rw [hbn]
      refine And.intro (fun g2 => by omega) (fun g2 => ?_)
      refine Exists.intro _ ⟨hs.o, ?_⟩
      refine Exists.intro _ ⟨_, aS (n - i) + k, s62, rfl, by omega, ?_⟩
      rw [hl62]
      refine And.intro (fun g3 => ?_) (fun g3 => ?_)
      · refine yes ?_
        unfold wfit
        have := lnC_3 (aS (n - i) + k)
        rw [show lnC (aS (n - i) + k) = 0 by omega]
        rfl
      · refine Exists.intro _ ⟨hs.o, ?_⟩
        refine Exists.intro _ ⟨_, 4 * (aS (n - i) + k), s63, by omega, by omega, ?_⟩
        rw [show I' 63 (4 * (aS (n - i) + k)) = (cn (aS (n - i) + k) 0 : Int) from hp0]
        have hcle := cn_le (aS (n - i) + k) (by omega) 0 (by decide)
        have hl0 : lnC (aS (n - i) + k) ≠ 0 := fun z => by rw [z] at g3; exact g3 rfl
        refine And.intro (fun g4 => ?_) (fun g4 => ?_)
        · have hf : wfit i (aS (n - i) + k) = false := by
            unfold wfit
            rw [show Nat.beq (lnC (aS (n - i) + k)) 0 = false from nbn hl0]
            cases hb9 : Nat.ble (2 * cn (aS (n - i) + k) 0) i with
            | false => rfl
            | true => exact absurd (Nat.le_of_ble_eq_true hb9) (by omega)
          rw [hf] at hnx
          exact next F' I' (by rw [hnx]; exact hI)
        · refine yes ?_
          unfold wfit
          rw [show Nat.ble (2 * cn (aS (n - i) + k) 0) i = true from Nat.ble_eq.mpr (by omega)]
          exact Bool.or_true _
  -- over the first numbers
  have loopI : ∀ n : Nat, 1 ≤ n → n ≤ 14 → ∀ (m i : Nat) (F' I' : zFi), 1 ≤ i → i + m = n + 1 → wdI F I F' I' (wcn n i 0) n → (∀ F2 I2, wdI F I F2 I2 (aS (n + 1)) (n + 1) → HW X 21 [some (.inr (.inr (some 60))), some (.inl ((n + 1 : Nat) : Int)), none, none, none] [] F2 I2 J) →
      HW X 39 [some (.inr (.inr (some 60))), some (.inl (n : Int)), some (.inl (i : Int)), none, none] [] F' I' J := by
    intro n hn1 hn m
    induction m with
    | zero =>
      intro i F' I' hi1 hi hI hk'
      obtain rfl : i = n + 1 := by omega
      have e : wcn n (n + 1) 0 = aS (n + 1) := by
        rw [← wfa_end hn1 hn]
        show aS n + wfa n (n + 1) + 0 = _
        omega
      rw [e] at hI
      obtain ⟨⟨g1, g1b⟩, g2, g3, g4, g5, g6⟩ := hI
      refine zgo (fun pc => Nat.beq pc 21) 200 hX hR rfl ?_
      refine And.intro (fun c1 => ?_) (fun c1 => by omega)
      refine Exists.intro _ ⟨hs.o, ?_⟩
      refine Exists.intro _ ⟨hs.o, ?_⟩
      refine Exists.intro _ ⟨_, n + 1, s61, by omega, by omega, ?_⟩
      rw [g1]
      refine hw_weak (ls' := [some (.inr (.inr (some 60))), some (.inl ((n + 1 : Nat) : Int)), none, none, none]) ⟨rfl, rfl, trivial⟩ (hk' F' _ ⟨⟨g1, g1b⟩, fun j hj => ?_, fun u hu => by rw [zu_r (by decide)]; exact g3 u hu, fun u k hu hk => by rw [zu_r (by decide)]; exact g4 u k hu hk, fun j hj hj2 => by rw [zu_r (by decide)]; exact g5 j hj hj2, fun a a1 a2 a3 => by rw [zu_r a1]; exact g6 a a1 a2 a3⟩)
      by_cases ej : j = n + 1
      · subst ej
        rw [zu_s]
      · rw [zu_n (by omega)]
        exact g2 j (by omega)
    | succ m ih =>
      intro i F' I' hi1 hi hI hk'
      have hb := hI.2.1 (n - i) (by omega)
      have hr := dg_range (show n - i ≤ 14 by omega)
      have h9 := loopB n i hn hi1 (by omega) (aS (n - i + 1) - aS (n - i)) 0 F' I' (by omega) hI (fun F2 I2 hI2 => ih (i + 1) F2 I2 (by omega) (by omega) hI2 hk')
      refine zgo (fun pc => Nat.beq pc 53) 200 hX hR rfl ?_
      refine And.intro (fun c1 => by omega) (fun c1 => ?_)
      refine Exists.intro _ ⟨hs.o, ?_⟩
      refine Exists.intro _ ⟨_, n - i, s61, by omega, by omega, ?_⟩
      rw [hb]
      exact h9
  -- over the degrees
  have loopN : ∀ (m n : Nat) (F' I' : zFi), 1 ≤ n → n + m = 15 → wdI F I F' I' (aS n) n → HW X 21 [some (.inr (.inr (some 60))), some (.inl (n : Int)), none, none, none] [] F' I' J := by
    intro m
    induction m with
    | zero =>
      intro n F' I' h1 hn' hI
      obtain rfl : n = 15 := by omega
      refine zgo (fun _ => false) 200 hX hR rfl ?_
      refine And.intro (fun g1 => ?_) (fun g1 => by omega)
      exact ⟨rfl, rfl, hI⟩
    | succ m ih =>
      intro n F' I' h1 hn' hI
      obtain ⟨⟨g1, g1b⟩, g2, g3, g4, g5, g6⟩ := id hI
      refine zgo (fun pc => Nat.beq pc 39) 200 hX hR rfl ?_
      refine And.intro (fun c1 => by omega) (fun c1 => ?_)
      refine Exists.intro _ ⟨hs.o, ?_⟩
      refine Exists.intro _ ⟨hs.o, ?_⟩
      refine Exists.intro _ ⟨_, n, s61, rfl, by omega, ?_⟩
      rw [g1]
      refine loopI n h1 (by omega) n 1 F' _ (by decide) (by omega) ?_ (fun F2 I2 h9 => ih (n + 1) F2 I2 (by omega) (by omega) h9)
      rw [wcn_1]
      refine ⟨⟨g1, g1b⟩, fun j hj => ?_, fun u hu => by rw [zu_r (by decide)]; exact g3 u hu, fun u k hu hk => by rw [zu_r (by decide)]; exact g4 u k hu hk, fun j hj hj2 => by rw [zu_r (by decide)]; exact g5 j hj hj2, fun a a1 a2 a3 => by rw [zu_r a1]; exact g6 a a1 a2 a3⟩
      by_cases ej : j = n
      · subst ej
        rw [zu_s]
      · rw [zu_n (by omega)]
        exact g2 j hj
  refine zgo (fun pc => Nat.beq pc 21) 200 hX hR rfl ?_
  refine Exists.intro _ ⟨hs.o, ?_⟩
  refine Exists.intro _ ⟨hs.o, ?_⟩
  refine Exists.intro _ ⟨_, 0, s61, rfl, by decide, ?_⟩
  refine Exists.intro _ ⟨hs.o, ?_⟩
  refine Exists.intro _ ⟨_, 1, s61, rfl, by decide, ?_⟩
  refine loopN 14 1 _ _ (by decide) rfl ⟨⟨zu_s _ _ _ _, fun a j hj => zu_n hj⟩, fun j hj => ?_, fun u hu => ?_, fun u k hu hk => ?_, fun j hj hj2 => ?_, fun a a1 a2 a3 => by rw [zu_r a1, zu_r a1]⟩
  · rcases (show j = 0 ∨ j = 1 by omega) with rfl | rfl
    · rw [zu_n (by decide), zu_s]; rfl
    · rw [zu_s]; rfl
  · rw [zu_r (by decide), zu_r (by decide)]
    have hu0 : u = 0 := by
      have : aS 1 = 1 := rfl
      omega
    rw [hu0, h62 0 (by decide)]
    rfl
  · rw [zu_r (by decide), zu_r (by decide)]
    have hu0 : u = 0 := by
      have : aS 1 = 1 := rfl
      omega
    rw [hu0, h63 _ (by omega)]
    have : ∀ k, k < 3 → cn 0 k = 0 := by decide
    rw [this k hk]
    rfl
  · rw [zu_r (by decide), zu_r (by decide)]
    exact h63 j hj2
