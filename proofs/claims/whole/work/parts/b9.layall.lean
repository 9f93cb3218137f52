/-! the reference: layAll -/
theorem ti_init2 {A : Nat → Nat → Nat} {n : Nat} {de : Nat → Nat} {t : Nat} (hA : SpOK A n de) {G : Nat → Nat} {d : Nat → Nat → Nat} {gb : Nat → Nat → Nat → Bool} (h : TIc A n de t G d gb) : DIc A n de t 0 G d gb n (fun c q => decide (q = c) && decide (de c = t)) := by
  obtain ⟨h1, h2, h3⟩ := h
  have hn := hA.1
  refine ⟨G, d, gb, ⟨h1, fun s' hs' => ⟨Nat.le_refl _, fun a ha => ⟨rfl, rfl, (h1.1 s' hs' a ha).2.1⟩, fun a g1 g2 => by omega⟩, fun _ _ _ => rfl, h2, ⟨fun s hs => by omega, fun s hs => by omega, fun h => by omega, fun s hs => by omega, fun s hs => by omega⟩⟩, h3, fun j hj => ?_, fun f hf => ?_, by omega⟩
  · intro q hq
    have hq' : (decide (q = j) && decide (de j = t)) = true := hq
    simp only [Bool.and_eq_true, decide_eq_true_eq] at hq'
    rw [hq'.1]
    exact ⟨hj, hq'.2⟩
  · have e1 : f = vc n f (fun c q => decide (q = c) && decide (de c = t)) := by
      funext q
      unfold vc
      by_cases hq : q < n
      · rw [xs_one hq]
        · cases hb : f q
          · rfl
          · show true = (true && (decide (q = q) && decide (de q = t)))
            rw [decide_eq_true rfl, decide_eq_true (hf q hb).2]
            rfl
        · intro i hi hne
          show (f i && (decide (q = i) && decide (de i = t))) = false
          rw [decide_eq_false (fun z => hne z.symm), Bool.false_and, Bool.and_false]
      · cases hb : f q
        · exact (xs_zero' fun i hi => show (f i && (decide (q = i) && decide (de i = t))) = false by rw [decide_eq_false (by omega), Bool.false_and, Bool.and_false]).symm
        · exact absurd (hf q hb).1 hq
    exact ⟨f, e1⟩
theorem ti_end {A : Nat → Nat → Nat} {n : Nat} {de : Nat → Nat} {t : Nat} {G : Nat → Nat} {d : Nat → Nat → Nat} {gb : Nat → Nat → Nat → Bool} {B : Nat} {bl : Nat → Nat → Bool} (h : DIc A n de t 6 G d gb B bl) : TIc A n de (t + 1) G d gb := by
  obtain ⟨G0, d0, gb0, hP, hG72, -⟩ := h
  exact ⟨hP.2.2.2.2, hP.2.2.2.1, hG72⟩
/-- what laying leaves alone -/
def lyF (F I : zFi) (J : zJi) (F' I' : zFi) (J' : zJi) : Prop := (∀ a, a ≠ 60 → F' a = F a) ∧ (∀ j, j ≠ 13 → j ≠ 22 → j ≠ 26 → j ≠ 28 → F' 60 j = F 60 j) ∧ (∀ a, a ≠ 76 → a ≠ 71 → a ≠ 72 → I' a = I a) ∧ ∀ a, a ≠ 73 → a ≠ 75 → a ≠ 77 → a ≠ 78 → a ≠ 79 → J' a = J a
theorem c_X9_layAll (l : Launch) (D : va_G) (sh : Nat → Option zS) (hs : zWM sh) {F I : zFi} {J : zJi} {n : Nat} {A : Nat → Nat → Nat} {de : Nat → Nat} {G : Nat → Nat} {d : Nat → Nat → Nat} {gb : Nat → Nat → Nat → Bool} (hb : mBg I) (hpr : mPr I) (hwd : mWd I) (hm : RSp F I n A de) (hz : ∀ i e, 12 < i → e < n → A i e = 0) (hA : SpOK A n de) (hR : RuleOn A n) (hJ : RJB J) (hJ73 : ∀ j, J 73 j < 18446744073709551616) (hl : F 60 13 = 0 ∨ (F 60 13 = 1 ∧ TIc A n de 15 G d gb ∧ RTM I J G d gb)) :
    Cn l D yX9_layAll wsX9_layAll mX9_layAll.2.2.2.2 sh [.inr (.inr (some 60))] F I J (fun v F' I' J' => v = none ∧ lyF F I J F' I' J' ∧ RJB J' ∧ (∀ j, J' 73 j < 18446744073709551616) ∧ F' 60 13 = 1 ∧ ∃ G' d' gb', TIc A n de 15 G' d' gb' ∧ RTM I' J' G' d' gb') := by
  obtain ⟨cA, h71⟩ := hs.a71
  refine zmet (M := mX9_layAll) rfl rfl rfl kX9_layAll (Nat.le_of_ble_eq_true rfl) (fun X hX hR' hl0 hD hsh => ?_)
  subst hl0 hD hsh
  have loopT : ∀ r t : Nat, t + r = 15 → ∀ F1 I1 J1 G d gb l2, lyF F I J F1 I1 J1 → RJB J1 → F1 60 13 = 1 → TIc A n de t G d gb → RTM I1 J1 G d gb → HW X 36 [some (.inr (.inr (some 60))), some (.inl (t : Int)), l2] [] F1 I1 J1 := by
    intro r
    induction r with
    | zero =>
      intro t htr F1 I1 J1 G d gb l2 hf hj h13 hti hrt
      have ht15 : t = 15 := by omega
      subst ht15
      refine zgo (fun pc => Nat.beq pc 36) 200 hX hR' rfl ?_
      refine And.intro (fun c1 => ?_) (fun c1 => absurd (by decide) c1)
      exact And.intro rfl ⟨hf, hj, hrt.2, h13, G, d, gb, hti, hrt⟩
    | succ r ih =>
      intro t htr F1 I1 J1 G d gb l2 hf hj h13 hti hrt
      have ht14 : t ≤ 14 := by omega
      have loopS : ∀ q s : Nat, s + q = 6 → ∀ F2 I2 J2 G d gb B bl, lyF F I J F2 I2 J2 → RJB J2 → F2 60 13 = 1 → DIc A n de t s G d gb B bl → RTM I2 J2 G d gb → ((s = 0 ∧ B = n ∧ ∀ c, c < n → bl c = fun q => decide (q = c) && decide (de c = t)) ∨ (s ≠ 0 ∧ F2 60 26 = (B : Int) ∧ B ≤ 400 ∧ ∀ j, j < B → rq J2 78 5 j = bl j)) →
          HW X 49 [some (.inr (.inr (some 60))), some (.inl (t : Int)), some (.inl (s : Int))] [] F2 I2 J2 := by
        intro q
        induction q with
        | zero =>
          intro s hsq F2 I2 J2 G d gb B bl hf hj h13 hdi hrt hB
          have hs6 : s = 6 := by omega
          subst hs6
          have h5 := ih (t + 1) (by omega) F2 I2 J2 G d gb (some (.inl ((6 : Nat) : Int))) hf hj h13 (ti_end hdi) hrt
          refine zgo (fun pc => Nat.beq pc 36) 200 hX hR' rfl ?_
          refine And.intro (fun c1 => ?_) (fun c1 => absurd (by decide) c1)
          exact h5
        | succ q ihq =>
          intro s hsq F2 I2 J2 G d gb B bl hf hj h13 hdi hrt hB
          have hs6 : s < 6 := by omega
          have hok := ti_ok hA hR ht14 hs6 hdi
          obtain ⟨G0, d0, gb0, hP, hG72, hb1, hb2, hB180⟩ := id hdi
          obtain ⟨p1, p2, p3, p4, p5⟩ := hP
          have hd : ∀ a, a < G s → d s a ≤ t := fun a ha => by
            have := p3 s (Nat.le_refl s) hs6
            obtain ⟨k1, k2, k3⟩ := (p2 s hs6).2.1 a (by omega)
            omega
          have hH : LyH F2 I2 J2 n A de G d gb := ⟨fun j hj => by rw [hf.2.2.1 61 (by decide) (by decide) (by decide)]; exact hb j hj, fun u v hu hv hdd => by rw [hf.2.2.1 67 (by decide) (by decide) (by decide)]; exact hpr u v hu hv hdd, fun u hu => by rw [hf.2.2.1 62 (by decide) (by decide) (by decide), hf.2.2.1 63 (by decide) (by decide) (by decide)]; exact hwd u hu, hm.of (hf.2.1 10 (by decide) (by decide) (by decide) (by decide)) (hf.2.2.1 69 (by decide) (by decide) (by decide)) (hf.2.2.1 70 (by decide) (by decide) (by decide)), hz, hA, hrt, p4⟩
          refine zgo (fun pc => Nat.beq pc 49) 200 hX hR' rfl ?_
          refine And.intro (fun c1 => by omega) (fun c1 => ?_)
          refine qX9_layAll_210 hX (c_X9_lays (xl X) (xD X) (xsh X) hs hH hj hs6 ht14 hd hok hB) hs.o (fun v F3 I3 J3 hv => ?_)
          obtain ⟨rfl, ⟨f1, f2, f3, f4⟩, hj3, C, K, v, sr, nb, m, w, gb', w1, w2, w3, w4, w5, w6, w7, w8, w9, w10, w11, w12⟩ := hv
          have hdi2 := ti_step hA hR ht14 s G d gb B bl hs6 hdi C K v sr nb w1 m w w2 w3 w4 w5 gb' w6 w7 w8
          exact ihq (s + 1) (by omega) F3 I3 J3 _ _ gb' K nb ⟨fun a ha => (f1 a ha).trans (hf.1 a ha), fun j k1 k2 k3 k4 => (f2 j k2 k3 k4).trans (hf.2.1 j k1 k2 k3 k4), fun a k1 k2 k3 => (f3 a k1 k2 k3).trans (hf.2.2.1 a k1 k2 k3), fun a k1 k2 k3 k4 k5 => (f4 a k1 k2 k3 k4 k5).trans (hf.2.2.2 a k1 k2 k3 k4 k5)⟩ hj3 (by rw [f2 13 (by decide) (by decide) (by decide)]; exact h13) hdi2 w9 (Or.inr ⟨by omega, w10, w11, w12⟩)
      have h0 := loopS 6 0 (by decide) (zu F1 60 26 0) I1 J1 G d gb n _ ⟨fun a ha => by rw [zu_r ha]; exact hf.1 a ha, fun j k1 k2 k3 k4 => by rw [zu_n (fun z => k3 z.2)]; exact hf.2.1 j k1 k2 k3 k4, hf.2.2.1, hf.2.2.2⟩ hj (by rw [zu_n (by decide)]; exact h13) (ti_init2 hA hti) hrt (Or.inl ⟨rfl, rfl, fun c hc => rfl⟩)
      refine zgo (fun pc => Nat.beq pc 49) 200 hX hR' rfl ?_
      refine And.intro (fun c1 => by omega) (fun c1 => ?_)
      refine Exists.intro _ ⟨hs.o, ?_⟩
      exact h0
  rcases hl with h13 | ⟨h13, hti, hrt⟩
  · -- from the beginning
    have loop15 : ∀ r s : Nat, s + r = 6 → ∀ I1 : zFi, (∀ a, a ≠ 71 → I1 a = I a) → (∀ s', s' < s → I1 71 s' = 0) → HW X 15 [some (.inr (.inr (some 60))), some (.inl (s : Int)), none] [] (zu F 60 13 1) I1 J := by
      intro r
      induction r with
      | zero =>
        intro s hsr I1 hI hz0
        have hs6 : s = 6 := by omega
        subst hs6
        have h0 := loopT 15 0 (by decide) (zu F 60 13 1) I1 J (fun _ => 0) (fun _ _ => 0) (fun _ _ _ => false) none ⟨fun a ha => zu_r ha, fun j k1 _ _ _ => zu_n (fun z => k1 z.2), fun a _ k2 _ => hI a k2, fun _ _ _ _ _ _ => rfl⟩ hJ (zu_s _ _ _ _) ((ti_all hA hR (dI := fun e => (de e : Int)) (fun e _ => rfl)).1 _ _) ⟨fun s hs => ⟨hz0 s hs, Nat.zero_le _, fun a ha => absurd ha (Nat.not_lt_zero a), fun a ha => absurd ha (Nat.not_lt_zero a)⟩, hJ73⟩
        refine zgo (fun pc => Nat.beq pc 15 || Nat.beq pc 36) 200 hX hR' rfl ?_
        refine And.intro (fun c1 => ?_) (fun c1 => absurd (by decide) c1)
        exact h0
      | succ r ih =>
        intro s hsr I1 hI hz0
        have h5 := ih (s + 1) (by omega) (zu I1 71 s 0) (fun a ha => by rw [zu_r ha]; exact hI a ha) (fun s' hs' => by
          by_cases e : s' = s
          · rw [e, zu_s]
          · rw [zu_n (fun z => e z.2)]
            exact hz0 s' (by omega))
        refine zgo (fun pc => Nat.beq pc 15 || Nat.beq pc 36) 200 hX hR' rfl ?_
        refine And.intro (fun c1 => by omega) (fun c1 => ?_)
        refine Exists.intro _ ⟨hs.o, ?_⟩
        refine Exists.intro _ ⟨_, s, h71, rfl, by omega, ?_⟩
        exact h5
    have h0 := loop15 6 0 (by decide) I (fun _ _ => rfl) (fun s' hs' => absurd hs' (Nat.not_lt_zero s'))
    refine zgo (fun pc => Nat.beq pc 15) 200 hX hR' rfl ?_
    refine Exists.intro _ ⟨hs.o, ?_⟩
    rw [show F 60 13 = 0 from h13]
    refine And.intro (fun c1 => ?_) (fun c1 => absurd rfl c1)
    refine Exists.intro _ ⟨hs.o, Or.inr rfl, ?_⟩
    exact h0
  · refine zgo (fun pc => Nat.beq pc 15) 200 hX hR' rfl ?_
    refine Exists.intro _ ⟨hs.o, ?_⟩
    rw [show F 60 13 = 1 from h13]
    refine And.intro (fun c1 => absurd c1 (by decide)) (fun c1 => ?_)
    exact And.intro rfl ⟨⟨fun _ _ => rfl, fun _ _ _ _ _ => rfl, fun _ _ _ _ => rfl, fun _ _ _ _ _ _ => rfl⟩, hJ, hJ73, h13, G, d, gb, hti, hrt⟩
