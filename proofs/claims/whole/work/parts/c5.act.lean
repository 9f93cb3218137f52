/-! the reference: act, does, about -/
theorem c_X9_act (l : Launch) (D : va_G) (sh : Nat → Option zS) (hs : zWM sh) (F I : zFi) (J : zJi) {n : Nat} {A : Nat → Nat → Nat} {de : Nat → Nat} (hm : RSp F I n A de) {i e b : Int} (h1 : zi32 i) (h2 : zi32 e) (h3 : zi32 b) :
    Cn l D yX9_act wsX9_act mX9_act.2.2.2.2 sh [.inr (.inr (some 60)), .inl i, .inl e, .inl b] F I J (fun v F' I' J' => J' = J ∧ ((¬ acOK n de i e b ∧ v = some (.inl (-1)) ∧ F' = F ∧ I' = I) ∨ (acOK n de i e b ∧ v = some (.inl (A i.toNat e.toNat : Int)) ∧ F' = chF F ∧ I' = zfill (zu I 70 (13 * e.toNat + i.toNat) b) 74 0 450 0))) := by
  obtain ⟨cA, h69⟩ := hs.a69
  obtain ⟨cB, h70⟩ := hs.a70
  obtain ⟨m1, m2, m3, m4⟩ := id hm
  refine zmet (M := mX9_act) rfl rfl rfl kX9_act (Nat.le_of_ble_eq_true rfl) (fun X hX hR' hl hD hsh => ?_)
  subst hl hD hsh
  have g1 := h1
  have g2 := h2
  have g3 := h3
  unfold zi32 at g1 g2 g3
  have bad : ¬ acOK n de i e b → HW X 41 [some (.inr (.inr (some 60))), some (.inl i), some (.inl e), some (.inl b), none] [] F I J := fun hc => by
    refine zgo (fun _ => false) 200 hX hR' rfl ?_
    exact And.intro rfl (Or.inl ⟨hc, rfl, rfl, rfl⟩)
  refine zgo (fun pc => Nat.beq pc 41) 200 hX hR' rfl ?_
  refine qX9_act_122 hX (c_X9_in (xl X) (xD X) (xsh X) F I J (x := i) (lo := 1) (hi := 12) h1 ⟨by omega, by omega⟩ ⟨by omega, by omega⟩) (fun v F' I' J' hv => ?_)
  obtain ⟨rfl, rfl, rfl, rfl⟩ := hv
  refine And.intro (fun c1 => bad fun z => ?_) (fun c1 => ?_)
  · have hi0 : ¬ (1 ≤ i ∧ i ≤ 12) := fun g => by rw [if_pos g] at c1; exact absurd c1 (by decide)
    exact hi0 z.1
  have hi0 : 1 ≤ i ∧ i ≤ 12 := Decidable.byContradiction fun g => by rw [if_neg g] at c1; exact c1 rfl
  refine qX9_act_156 hX (c_X9_isElement (xl X) (xD X) (xsh X) hs F' I' J' m1 m2 h2) hs.o (fun v F2 I2 J2 hv => ?_)
  obtain ⟨rfl, rfl, rfl, rfl⟩ := hv
  refine And.intro (fun c2 => bad fun z => ?_) (fun c2 => ?_)
  · have hi0 : ¬ (0 ≤ e ∧ e < n) := fun g => by rw [if_pos g] at c2; exact absurd c2 (by decide)
    exact hi0 z.2.1
  have he0 : 0 ≤ e ∧ e < n := Decidable.byContradiction fun g => by rw [if_neg g] at c2; exact c2 rfl
  refine And.intro (fun c3 => bad fun z => ?_) (fun c3 => ?_)
  · obtain ⟨x, hx, -⟩ := z.2.2
    omega
  obtain ⟨d1, d2⟩ := m3 e.toNat (by omega)
  have cO := c_X9_ofDegree (xl X) (xD X) (xsh X) hs F2 I2 J2 hm (d := (de e.toNat : Int) + i) ⟨by omega, by omega⟩
  rw [← d1] at cO
  have hsl : sod (fun a => (de a : Int)) ((de e.toNat : Int) + i) n < 4096 := Nat.lt_of_lt_of_le (sod_lt _ _ n) (show 2 ^ n ≤ 2 ^ 12 from Nat.pow_le_pow_right (by decide) m2)
  have hsub := zsubm h3 (r := sod (fun a => (de a : Int)) ((de e.toNat : Int) + i) n) (by omega)
  have hzl : zi32 (zand b (zxor (sod (fun a => (de a : Int)) ((de e.toNat : Int) + i) n : Int) (-1))) := zand_32 _ _
  rw [← d1] at hsub hzl
  unfold zi32 at hzl
  refine Exists.intro _ ⟨hs.o, ?_⟩
  refine Exists.intro _ ⟨_, e.toNat, h69, by omega, by omega, ?_⟩
  refine qX9_act_160 hX cO hs.o (fun v F3 I3 J3 hv => ?_)
  obtain ⟨rfl, rfl, rfl, rfl⟩ := hv
  refine And.intro (fun c4 => ?_) (fun c4 => ?_)
  · have hb := hsub.mp (by omega)
    rw [d1] at hb
    refine Exists.intro _ ⟨hs.o, ?_⟩
    refine Exists.intro _ ⟨_, 13 * e.toNat + i.toNat, h70, by omega, by omega, ?_⟩
    refine Exists.intro _ ⟨hs.o, ?_⟩
    refine Exists.intro _ ⟨_, 13 * e.toNat + i.toNat, h70, by omega, by omega, ?_⟩
    refine qX9_act_149 hX (c_X9_changes (xl X) (xD X) (xsh X) hs F3 _ J3) hs.o (fun v F4 I4 J4 hv => ?_)
    obtain ⟨rfl, rfl, rfl, rfl⟩ := hv
    refine And.intro rfl (Or.inr ⟨⟨hi0, he0, hb⟩, ?_, rfl, rfl⟩)
    rw [(m4 e.toNat i.toNat (by omega) (by omega) (by omega)).1]
  · refine bad fun z => c4 ?_
    have hz := z.2.2
    rw [← d1] at hz
    rw [hsub.mpr hz]
    rfl
theorem dso_lt12 {A : Nat → Nat → Nat} {n : Nat} (hA : ∀ e i, e < n → 1 ≤ i → A i e < 4096) (ℓ : Nat) (c : Nat → Nat) {x : Nat} (hx : x < 4096) : ∀ j, dso A n ℓ c x j < 4096 := by
  intro j
  induction j with
  | zero => exact hx
  | succ j ih => exact sap_lt12 hA ih
theorem rsp_lt {F I : zFi} {n : Nat} {A : Nat → Nat → Nat} {de : Nat → Nat} (hm : RSp F I n A de) (hz : ∀ i e, 12 < i → e < n → A i e = 0) : ∀ e i, e < n → 1 ≤ i → A i e < 4096 := fun e i he hi => by
  by_cases h : i ≤ 12
  · exact (hm.2.2.2 e i he hi h).2
  · rw [hz i e (by omega) he]
    decide
theorem c_X9_does (l : Launch) (D : va_G) (sh : Nat → Option zS) (hs : zWM sh) (F I : zFi) (J : zJi) {ℓ : Nat} {c : Nat → Nat} (hw : RWd F I ℓ c) {n : Nat} {A : Nat → Nat → Nat} {de : Nat → Nat} (hm : RSp F I n A de) (hz : ∀ i e, 12 < i → e < n → A i e = 0) {e : Int} (h2 : zi32 e) :
    Cn l D yX9_does wsX9_does mX9_does.2.2.2.2 sh [.inr (.inr (some 60)), .inl e] F I J (zself F I J (.inl (if 0 ≤ e ∧ e < n then (dso A n ℓ c (2 ^ e.toNat) ℓ : Int) else -1))) := by
  obtain ⟨cA, h68⟩ := hs.a68
  obtain ⟨w1, w2, w3, w4⟩ := hw
  obtain ⟨m1, m2, m3, m4⟩ := id hm
  refine zmet (M := mX9_does) rfl rfl rfl kX9_does (Nat.le_of_ble_eq_true rfl) (fun X hX hR' hl hD hsh => ?_)
  subst hl hD hsh
  refine zgo (fun pc => Nat.beq pc 21) 200 hX hR' rfl ?_
  refine qX9_does_156 hX (c_X9_isElement (xl X) (xD X) (xsh X) hs F I J m1 m2 h2) hs.o (fun v F2 I2 J2 hv => ?_)
  obtain ⟨rfl, rfl, rfl, rfl⟩ := hv
  refine And.intro (fun c2 => ?_) (fun c2 => ?_)
  · have he : 0 ≤ e ∧ e < n := Decidable.byContradiction fun g => by rw [if_neg g] at c2; exact c2 rfl
    rw [if_pos he]
    obtain ⟨e', rfl⟩ := Int.eq_ofNat_of_zero_le he.1
    have hx : 2 ^ e' < 4096 := show 2 ^ e' < 2 ^ 12 from Nat.pow_lt_pow_right (by decide) (by omega)
    have loop : ∀ m j, j + m = ℓ → HW X 21 [some (.inr (.inr (some 60))), some (.inl (e' : Int)), some (.inl (dso A n ℓ c (2 ^ e') j : Int)), some (.inl ((m : Int) - 1))] [] F2 I2 J2 := by
      intro m
      induction m with
      | zero =>
        intro j hj
        refine zgo (fun pc => Nat.beq pc 21) 200 hX hR' rfl ?_
        refine And.intro (fun c1 => ?_) (fun c1 => absurd (by decide) c1)
        exact And.intro (by rw [if_pos he, show j = ℓ by omega]; rfl) ⟨rfl, rfl, rfl⟩
      | succ m ih =>
        intro j hj
        have h := ih (j + 1) (by omega)
        have hk : ℓ - 1 - j = m := by omega
        have hck := w4 m (by omega)
        have hc14 : c m ≤ 14 := Nat.le_trans (ns_term (n := ℓ) (k := m) (by omega) c) w3
        have hlt := dso_lt12 (rsp_lt hm hz) ℓ c hx j
        rw [show dso A n ℓ c (2 ^ e') (j + 1) = sap A n (c (ℓ - 1 - j)) (dso A n ℓ c (2 ^ e') j) from rfl, hk] at h
        have cA2 := c_X9_acted (xl X) (xD X) (xsh X) hs F2 I2 J2 hm hz (i := c m) (x := dso A n ℓ c (2 ^ e') j) (by omega) hlt
        rw [← hck] at cA2
        rw [show ((m + 1 : Nat) : Int) - 1 = (m : Int) by omega]
        refine zgo (fun pc => Nat.beq pc 21) 200 hX hR' rfl ?_
        refine And.intro (fun c1 => by omega) (fun c1 => ?_)
        refine Exists.intro _ ⟨hs.o, ?_⟩
        refine Exists.intro _ ⟨_, m, h68, rfl, by omega, ?_⟩
        refine qX9_does_163 hX cA2 hs.o (fun v F3 I3 J3 hv => ?_)
        obtain ⟨rfl, rfl, rfl, rfl⟩ := hv
        exact h
    have hl0 := loop ℓ 0 (by omega)
    rw [show ((dso A n ℓ c (2 ^ e') 0 : Nat) : Int) = ((2 ^ e' : Nat) : Int) from rfl, ← zshl1 (by omega)] at hl0
    refine Exists.intro _ ⟨hs.o, ?_⟩
    rw [w1]
    exact hl0
  · have he : ¬ (0 ≤ e ∧ e < n) := fun g => by rw [if_pos g] at c2; exact absurd c2 (by decide)
    exact And.intro (by rw [if_neg he]) ⟨rfl, rfl, rfl⟩
theorem c_X9_about (l : Launch) (D : va_G) (sh : Nat → Option zS) (hs : zWM sh) (F I : zFi) (J : zJi) {n : Nat} {A : Nat → Nat → Nat} {de : Nat → Nat} (hm : RSp F I n A de) {e what : Int} (h2 : zi32 e) (h3 : zi32 what) :
    Cn l D yX9_about wsX9_about mX9_about.2.2.2.2 sh [.inr (.inr (some 60)), .inl e, .inl what] F I J (zself F I J (.inl (aab n A de e what))) := by
  obtain ⟨cA, h69⟩ := hs.a69
  obtain ⟨cB, h70⟩ := hs.a70
  obtain ⟨m1, m2, m3, m4⟩ := id hm
  refine zmet (M := mX9_about) rfl rfl rfl kX9_about (Nat.le_of_ble_eq_true rfl) (fun X hX hR' hl hD hsh => ?_)
  subst hl hD hsh
  have g2 := h2
  have g3 := h3
  unfold zi32 at g2 g3
  refine zgo (fun _ => false) 200 hX hR' rfl ?_
  unfold aab
  refine qX9_about_156 hX (c_X9_isElement (xl X) (xD X) (xsh X) hs F I J m1 m2 h2) hs.o (fun v F2 I2 J2 hv => ?_)
  obtain ⟨rfl, rfl, rfl, rfl⟩ := hv
  refine And.intro (fun c2 => ?_) (fun c2 => ?_)
  · have he : ¬ (0 ≤ e ∧ e < n) := fun g => by rw [if_pos g] at c2; exact absurd c2 (by decide)
    exact And.intro (by rw [if_pos (Or.inl he)]) ⟨rfl, rfl, rfl⟩
  have he : 0 ≤ e ∧ e < n := Decidable.byContradiction fun g => by rw [if_neg g] at c2; exact c2 rfl
  refine qX9_about_122 hX (c_X9_in (xl X) (xD X) (xsh X) F2 I2 J2 (x := what) (lo := 0) (hi := 12) h3 ⟨by omega, by omega⟩ ⟨by omega, by omega⟩) (fun v F' I' J' hv => ?_)
  obtain ⟨rfl, rfl, rfl, rfl⟩ := hv
  refine And.intro (fun c3 => ?_) (fun c3 => ?_)
  · have hw : 0 ≤ what ∧ what ≤ 12 := Decidable.byContradiction fun g => by rw [if_neg g] at c3; exact c3 rfl
    rw [if_neg (by omega)]
    refine And.intro (fun c4 => ?_) (fun c4 => ?_)
    · refine Exists.intro _ ⟨hs.o, ?_⟩
      refine Exists.intro _ ⟨_, 13 * e.toNat + what.toNat, h70, by omega, by omega, ?_⟩
      refine And.intro ?_ ⟨rfl, rfl, rfl⟩
      rw [if_neg (by omega), (m4 e.toNat what.toNat (by omega) (by omega) (by omega)).1]
    · refine Exists.intro _ ⟨hs.o, ?_⟩
      refine Exists.intro _ ⟨_, e.toNat, h69, by omega, by omega, ?_⟩
      refine And.intro ?_ ⟨rfl, rfl, rfl⟩
      rw [if_pos (by omega), (m3 e.toNat (by omega)).1]
  · have hw : ¬ (0 ≤ what ∧ what ≤ 12) := fun g => by rw [if_pos g] at c3; exact absurd c3 (by decide)
    exact And.intro (by rw [if_pos (by omega)]) ⟨rfl, rfl, rfl⟩
