/-! the class: differences, pages, counts -/
theorem crk_K {I : zFi} {K : Nat → Int} (h : I 31 = K) (r s t : Int) : crk I 31 r s t = crk (fun _ => K) 31 r s t := by
  unfold crk
  rw [h]
theorem csp_K {I : zFi} {K : Nat → Int} (h : I 31 = K) (r s t : Int) : csp I 31 r s t = csp (fun _ => K) 31 r s t := by
  unfold csp
  rw [crk_K h, crk_K h]
/-- what is left on a page -/
def lpg (g : Int) (K : Nat → Int) (s t : Int) : Nat → Int
  | 0 => g
  | k + 1 => lpg g K s t k - csp (fun _ => K) 31 (2 + (k : Int)) s t
theorem crk_99 {K : Nat → Int} (hK : ∀ j, 0 ≤ K j ∧ K j ≤ 99) (r s t : Int) : 0 ≤ crk (fun _ => K) 31 r s t ∧ crk (fun _ => K) 31 r s t ≤ 99 := by
  unfold crk
  split
  · exact hK _
  · decide
theorem csp_198 {K : Nat → Int} (hK : ∀ j, 0 ≤ K j ∧ K j ≤ 99) (r s t : Int) : 0 ≤ csp (fun _ => K) 31 r s t ∧ csp (fun _ => K) 31 r s t ≤ 198 := by
  have h1 := crk_99 hK r s t
  have h2 := crk_99 hK r (s - r) (t - r + 1)
  unfold csp
  omega
theorem lpg_i {g : Int} {K : Nat → Int} (hK : ∀ j, 0 ≤ K j ∧ K j ≤ 99) (s t : Int) : ∀ k : Nat, g - 198 * k ≤ lpg g K s t k ∧ lpg g K s t k ≤ g := by
  intro k
  induction k with
  | zero => show g - 198 * 0 ≤ g ∧ g ≤ g; omega
  | succ k ih =>
    have h := csp_198 hK (2 + (k : Int)) s t
    show g - 198 * ((k + 1 : Nat) : Int) ≤ lpg g K s t k - csp (fun _ => K) 31 (2 + (k : Int)) s t ∧ lpg g K s t k - csp (fun _ => K) 31 (2 + (k : Int)) s t ≤ g
    omega
section DIFF
variable {Fo Io : zFi} {Jo : zJi} {F I : zFi} {J : zJi} {ℓ : Nat} {c : Nat → Nat} {n : Nat} {A : Nat → Nat → Nat} {de : Nat → Nat} {K : Nat → Int} {T0 : Nat} {G : Nat → Nat} {d : Nat → Nat → Nat} {gb : Nat → Nat → Nat → Bool}
theorem flG_le (d : Nat → Nat) (t : Int) (g : Nat) : flG d t g ≤ g := by
  refine Nat.le_trans (ns_le (b := 1) (fun i _ => ?_)) (by omega)
  split <;> omega
theorem c_X8_leftOnPage (l : Launch) (D : va_G) (sh : Nat → Option zS) (hs : zWS sh) (h : CS Fo Io Jo F I J ℓ c n A de K T0 G d gb) {r s t : Nat} (hr : 2 ≤ r ∧ r ≤ 5) (hs5 : s ≤ 5) (ht : t ≤ 14) :
    Cn l D yX8_leftOnPage wsX8_leftOnPage mX8_leftOnPage.2.2.2.2 sh [.inr (.inr (some 0)), .inl (r : Int), .inl (s : Int), .inl (t : Int)] F I J (zself F I J (.inl (lpg (flG (d s) t (G s) : Int) K s t (r - 2)))) := by
  have h0 := hs.2.1
  have hch := hs.2.2.2.2.2
  have hfl := (hs.1.2.2.2.2.2.2.2.2 s (by omega)).1
  have hfr := (h.2.2.2.1.1 s (by omega)).1
  have hK := h.2.2.2.2.2
  have hIK : I 31 = K := funext h.2.2.2.2.1
  refine zmet (M := mX8_leftOnPage) rfl rfl rfl kX8_leftOnPage (Nat.le_of_ble_eq_true rfl) (fun X hX hR hl hD hsh => ?_)
  subst hl hD hsh
  have loop : ∀ m k, k + m = r - 2 → HW X 14 [some (.inr (.inr (some 0))), some (.inl (r : Int)), some (.inl (s : Int)), some (.inl (t : Int)), some (.inl (lpg (flG (d s) t (G s) : Int) K s t k)), some (.inl (2 + (k : Int)))] [] F I J := by
    intro m
    induction m with
    | zero =>
      intro k hk
      refine zgo (fun pc => Nat.beq pc 14) 200 hX hR rfl ?_
      refine And.intro (fun c1 => ?_) (fun c1 => by omega)
      exact And.intro (by rw [show k = r - 2 by omega]) ⟨rfl, rfl, rfl⟩
    | succ m ih =>
      intro k hk
      have h2 := ih (k + 1) (by omega)
      rw [show 2 + ((k + 1 : Nat) : Int) = 2 + (k : Int) + 1 by omega, show lpg (flG (d s) t (G s) : Int) K s t (k + 1) = lpg (flG (d s) t (G s) : Int) K s t k - csp (fun _ => K) 31 (2 + (k : Int)) s t from rfl, ← csp_K hIK] at h2
      refine zgo (fun pc => Nat.beq pc 14) 200 hX hR rfl ?_
      refine And.intro (fun c1 => by omega) (fun c1 => ?_)
      refine Exists.intro _ ⟨h0, ?_⟩
      refine qX8_leftOnPage_195 hX (c_X2_spent (xl X) (xD X) (xsh X) hch F I J (r := 2 + (k : Int)) (s := (s : Int)) (t := (t : Int)) ⟨by omega, by omega⟩ ⟨by omega, by omega⟩ ⟨by omega, by omega⟩) hch.1 (fun v F' I' J' hv => ?_)
      obtain ⟨rfl, rfl, rfl, rfl⟩ := hv
      exact h2
  have l0 := loop (r - 2) 0 (by omega)
  rw [show 2 + ((0 : Nat) : Int) = 2 from rfl] at l0
  refine zgo (fun pc => Nat.beq pc 14) 200 hX hR rfl ?_
  refine Exists.intro _ ⟨h0, ?_⟩
  refine qX8_leftOnPage_164 hX (c_X7_generatorsAt (xl X) (xD X) (xsh X) hs.1.1 F I J (s := s) (by omega) hfl hfr (t := (t : Int)) ⟨by omega, by omega⟩) hs.1.1.1 (fun v F' I' J' hv => ?_)
  obtain ⟨rfl, rfl, rfl, rfl⟩ := hv
  exact l0
/-- whether a difference may be told -/
abbrev mbt (K : Nat → Int) (G : Nat → Nat) (d : Nat → Nat → Nat) (r s t : Nat) (x : Int) : Prop :=
  crk (fun _ => K) 31 r s t = 0 ∧ clo (fun _ => K) 31 r = 0 ∧ csp (fun _ => K) 31 r s t + x ≤ lpg (flG (d s) t (G s) : Int) K s t (r - 2) ∧ csp (fun _ => K) 31 r ((s + r : Nat) : Int) ((t + r - 1 : Nat) : Int) + x ≤ lpg (flG (d (s + r)) ((t + r - 1 : Nat) : Int) (G (s + r)) : Int) K ((s + r : Nat) : Int) ((t + r - 1 : Nat) : Int) (r - 2)
theorem c_X8_mayBeTold (l : Launch) (D : va_G) (sh : Nat → Option zS) (hs : zWS sh) (h : CS Fo Io Jo F I J ℓ c n A de K T0 G d gb) {r s t : Nat} (hr : 2 ≤ r ∧ r ≤ 4) (hs5 : s + r ≤ 5) (ht : t + r - 1 ≤ 14) {x : Int} (hx : 1 ≤ x ∧ x ≤ 99) :
    Cn l D yX8_mayBeTold wsX8_mayBeTold mX8_mayBeTold.2.2.2.2 sh [.inr (.inr (some 0)), .inl (r : Int), .inl (s : Int), .inl (t : Int), .inl x] F I J (zself F I J (.inl (if mbt K G d r s t x then 1 else 0))) := by
  have h0 := hs.2.1
  have hch := hs.2.2.2.2.2
  have hK := h.2.2.2.2.2
  have hIK : I 31 = K := funext h.2.2.2.2.1
  have hI : ∀ j, 0 ≤ I 31 j ∧ I 31 j ≤ 99 := fun j => by rw [hIK]; exact hK j
  have eclo : clo I 31 (r : Int) = clo (fun _ => K) 31 (r : Int) := by unfold clo; rw [hIK]
  have hG : ∀ s, s < 6 → G s ≤ 72 := fun s hs6 => (h.2.2.2.1.1 s hs6).1.2.1
  have b1 := csp_198 hK (r : Int) s t
  have b2 := csp_198 hK (r : Int) ((s + r : Nat) : Int) ((t + r - 1 : Nat) : Int)
  have b3 := lpg_i (g := (flG (d s) t (G s) : Int)) hK s t (r - 2)
  have b4 := lpg_i (g := (flG (d (s + r)) ((t + r - 1 : Nat) : Int) (G (s + r)) : Int)) hK ((s + r : Nat) : Int) ((t + r - 1 : Nat) : Int) (r - 2)
  have b5 := flG_le (d s) t (G s)
  have b6 := flG_le (d (s + r)) ((t + r - 1 : Nat) : Int) (G (s + r))
  have b7 := hG s (by omega)
  have b8 := hG (s + r) (by omega)
  have b9 := crk_99 hK (r : Int) s t
  have b10 : clo (fun _ => K) 31 (r : Int) = 0 ∨ clo (fun _ => K) 31 (r : Int) = 1 := by unfold clo; split <;> omega
  refine zmet (M := mX8_mayBeTold) rfl rfl rfl kX8_mayBeTold (Nat.le_of_ble_eq_true rfl) (fun X hX hR hl hD hsh => ?_)
  subst hl hD hsh
  have no : ¬ mbt K G d r s t x → HW X 86 [some (.inr (.inr (some 0))), some (.inl (r : Int)), some (.inl (s : Int)), some (.inl (t : Int)), some (.inl x)] [] F I J := fun hn => by
    refine zgo (fun _ => false) 200 hX hR rfl ?_
    exact And.intro (Or.inl rfl) ⟨by rw [if_neg hn], rfl, rfl, rfl⟩
  refine zgo (fun pc => Nat.beq pc 86) 200 hX hR rfl ?_
  refine Exists.intro _ ⟨h0, ?_⟩
  refine qX8_mayBeTold_189 hX (c_X2_rankOf (xl X) (xD X) (xsh X) hch F I J (r := (r : Int)) (s := (s : Int)) (t := (t : Int)) ⟨by omega, by omega⟩ ⟨by omega, by omega⟩ ⟨by omega, by omega⟩) hch.1 (fun v F' I' J' hv => ?_)
  obtain ⟨rfl, rfl, rfl, rfl⟩ := hv
  rw [crk_K hIK]
  refine And.intro (fun c1 => no (fun z => ?_)) (fun c1 => ?_)
  · have := z.1
    omega
  refine Exists.intro _ ⟨h0, ?_⟩
  refine qX8_mayBeTold_192 hX (c_X2_isLongerTold (xl X) (xD X) (xsh X) hch F' I' J' hI (r := (r : Int)) ⟨by omega, by omega⟩) hch.1 (fun v F2 I2 J2 hv => ?_)
  obtain ⟨rfl, rfl, rfl, rfl⟩ := hv
  rw [eclo]
  refine And.intro (fun c2 => no (fun z => ?_)) (fun c2 => ?_)
  · have := z.2.1
    omega
  refine Exists.intro _ ⟨h0, ?_⟩
  refine qX8_mayBeTold_195 hX (c_X2_spent (xl X) (xD X) (xsh X) hch F2 I2 J2 (r := (r : Int)) (s := (s : Int)) (t := (t : Int)) ⟨by omega, by omega⟩ ⟨by omega, by omega⟩ ⟨by omega, by omega⟩) hch.1 (fun v F3 I3 J3 hv => ?_)
  obtain ⟨rfl, rfl, rfl, rfl⟩ := hv
  rw [csp_K hIK]
  refine qX8_mayBeTold_183 hX (c_X8_leftOnPage (xl X) (xD X) (xsh X) hs h (r := r) (s := s) (t := t) (by omega) (by omega) (by omega)) hs.2.1 (fun v F4 I4 J4 hv => ?_)
  obtain ⟨rfl, rfl, rfl, rfl⟩ := hv
  refine And.intro (fun c3 => no (fun z => ?_)) (fun c3 => ?_)
  · have := z.2.2.1
    omega
  refine Exists.intro _ ⟨h0, ?_⟩
  have cS := c_X2_spent (xl X) (xD X) (xsh X) hch F4 I4 J4 (r := (r : Int)) (s := ((s + r : Nat) : Int)) (t := ((t + r - 1 : Nat) : Int)) ⟨by omega, by omega⟩ ⟨by omega, by omega⟩ ⟨by omega, by omega⟩
  have cL := c_X8_leftOnPage (xl X) (xD X) (xsh X) hs h (r := r) (s := s + r) (t := t + r - 1) (by omega) (by omega) (by omega)
  have eT : ((t + r - 1 : Nat) : Int) = (t : Int) + (r : Int) - 1 := by omega
  rw [csp_K hIK] at cS
  rw [show Sum.inl ((t + r - 1 : Nat) : Int) = (Sum.inl ((t : Int) + (r : Int) - 1) : zV) by rw [eT]] at cS cL
  rw [show Sum.inl ((s + r : Nat) : Int) = (Sum.inl ((s : Int) + (r : Int)) : zV) from rfl] at cS cL
  refine qX8_mayBeTold_195 hX cS hch.1 (fun v F5 I5 J5 hv => ?_)
  obtain ⟨rfl, rfl, rfl, rfl⟩ := hv
  refine qX8_mayBeTold_183 hX cL hs.2.1 (fun v F6 I6 J6 hv => ?_)
  obtain ⟨rfl, rfl, rfl, rfl⟩ := hv
  refine And.intro (fun c4 => no (fun z => ?_)) (fun c4 => ?_)
  · have := z.2.2.2
    omega
  exact And.intro (Or.inr rfl) ⟨by rw [if_pos ⟨by omega, by omega, by omega, by omega⟩], rfl, rfl, rfl⟩
abbrev icP (s t : Int) : Prop := 0 ≤ s ∧ s ≤ 5 ∧ 0 ≤ t ∧ t ≤ 14
abbrev dfOK (r s t x : Int) : Prop := (2 ≤ r ∧ r ≤ 4 ∧ 1 ≤ x ∧ x ≤ 99) ∧ icP s t ∧ icP (s + r) (t + r - 1)
theorem c_X8_differ (l : Launch) (D : va_G) (sh : Nat → Option zS) (hs : zWS sh) (h : CS Fo Io Jo F I J ℓ c n A de K T0 G d gb) {r s t x : Int} (h1 : zi32 r) (h2 : zi32 s) (h3 : zi32 t) (h4 : zi32 x) :
    Cn l D yX8_differ wsX8_differ mX8_differ.2.2.2.2 sh [.inr (.inr (some 0)), .inl r, .inl s, .inl t, .inl x] F I J (fun v F' I' J' => ∃ T1 G' d' gb' K', CS Fo Io Jo F' I' J' ℓ c n A de K' T1 G' d' gb' ∧ ((¬ dfOK r s t x ∧ v = some (.inl (-1)) ∧ K' = K) ∨ (dfOK r s t x ∧ sFault A n ≠ none ∧ v = some (.inl (-2)) ∧ K' = K) ∨
      (dfOK r s t x ∧ sFault A n = none ∧ t.toNat + r.toNat - 1 < T1 ∧ TIc A n de T1 G' d' gb' ∧ ((mbt K G' d' r.toNat s.toNat t.toNat x ∧ v = some (.inl 1) ∧ K' = fup K (cix r s t).toNat x) ∨ (¬ mbt K G' d' r.toNat s.toNat t.toNat x ∧ v = some (.inl (-2)) ∧ K' = K))))) := by
  have hsp := hs.1.2.2.2.1
  have h0 := hs.2.1
  have hch := hs.2.2.2.2.2
  unfold zi32 at h1 h2 h3 h4
  refine zmet (M := mX8_differ) rfl rfl rfl kX8_differ (Nat.le_of_ble_eq_true rfl) (fun X hX hR hl hD hsh => ?_)
  subst hl hD hsh
  have bad : ∀ pc, (pc = 23 ∨ pc = 47) → ¬ dfOK r s t x → HW X pc [some (.inr (.inr (some 0))), some (.inl r), some (.inl s), some (.inl t), some (.inl x)] [] F I J := fun pc hp hn => by
    rcases hp with rfl | rfl
    · refine zgo (fun _ => false) 200 hX hR rfl ?_
      exact ⟨T0, G, d, gb, K, h, Or.inl ⟨hn, rfl, rfl⟩⟩
    · refine zgo (fun _ => false) 200 hX hR rfl ?_
      exact ⟨T0, G, d, gb, K, h, Or.inl ⟨hn, rfl, rfl⟩⟩
  have go : dfOK r s t x → HW X 49 [some (.inr (.inr (some 0))), some (.inl r), some (.inl s), some (.inl t), some (.inl x)] [] F I J := fun hok => by
    obtain ⟨⟨g1, g2, g3, g4⟩, ⟨g5, g6, g7, g8⟩, g9, g10, g11, g12⟩ := id hok
    obtain ⟨-, -, ⟨s1, s2, s3, s4, s5, s6, s7⟩, -, -⟩ := id h
    refine zgo (fun _ => false) 200 hX hR rfl ?_
    refine Exists.intro _ ⟨h0, ?_⟩
    refine qX8_differ_156 hX (c_X5_isSound (xl X) (xD X) (xsh X) hsp F I J s1 s5.1 s2 s7) hsp.1 (fun v F2 I2 J2 hv => ?_)
    obtain ⟨rfl, rfl, rfl, rfl⟩ := hv
    by_cases hz : sFault A n = none
    · rw [if_pos hz]
      refine And.intro (fun c2 => ?_) (fun c2 => absurd c2 (by decide))
      refine Exists.intro _ ⟨h0, ?_⟩
      have cB := cs_build (xl X) (xD X) (xsh X) hs h.sound hz (top := t.toNat + r.toNat - 1) (by omega)
      rw [show ((t.toNat + r.toNat - 1 : Nat) : Int) = t + r - 1 by omega] at cB
      refine qX8_differ_160 hX cB hs.1.1.1 (fun v F3 I3 J3 hv => ?_)
      obtain ⟨rfl, T1, G', d', gb', k1, k2, k3, k4⟩ := cs_built h.sound (by omega) hv
      have cM := c_X8_mayBeTold (xl X) (xD X) (xsh X) hs k3 (r := r.toNat) (s := s.toNat) (t := t.toNat) (by omega) (by omega) (by omega) (x := x) ⟨by omega, by omega⟩
      rw [show Sum.inl ((r.toNat : Nat) : Int) = (Sum.inl r : zV) by rw [show ((r.toNat : Nat) : Int) = r by omega], show Sum.inl ((s.toNat : Nat) : Int) = (Sum.inl s : zV) by rw [show ((s.toNat : Nat) : Int) = s by omega], show Sum.inl ((t.toNat : Nat) : Int) = (Sum.inl t : zV) by rw [show ((t.toNat : Nat) : Int) = t by omega]] at cM
      refine qX8_differ_175 hX cM hs.2.1 (fun v F4 I4 J4 hv => ?_)
      obtain ⟨rfl, rfl, rfl, rfl⟩ := hv
      by_cases hm : mbt K G' d' r.toNat s.toNat t.toNat x
      · rw [if_pos hm]
        refine And.intro (fun c3 => ?_) (fun c3 => absurd c3 (by decide))
        refine Exists.intro _ ⟨h0, ?_⟩
        have hix : 0 ≤ cix r s t := by
          unfold cix
          rw [if_pos ⟨by omega, by omega, by omega, by omega, by omega, by omega⟩]
          omega
        refine qX8_differ_179 hX (c_X2_tell (xl X) (xD X) (xsh X) hch F4 I4 J4 (r := r) (s := s) (t := t) (x := x) ⟨by omega, by omega⟩ ⟨by omega, by omega⟩ ⟨by omega, by omega⟩ hix) hch.1 (fun v F5 I5 J5 hv => ?_)
        obtain ⟨rfl, rfl, rfl, rfl⟩ := hv
        refine ⟨T1, G', d', gb', fup K (cix r s t).toNat x, ?_, Or.inr (Or.inr ⟨hok, hz, by omega, k4, Or.inl ⟨hm, rfl, rfl⟩⟩)⟩
        obtain ⟨u1, u2, u3, u4, u5⟩ := k3
        refine ⟨⟨zTb_of u1.1 (fun a ha _ => zu_r (by omega)), Fq_of u1.2 (fun _ _ => rfl) (fun a ha => zu_r (by omega)) (fun _ _ => rfl)⟩, u2.of rfl (zu_r (by decide)), u3.of rfl (fun a _ _ => zu_r (by omega)), u4.of rfl (fun _ _ _ => rfl) (fun a _ _ => zu_r (by omega)), fun j => ?_, fun j => ?_⟩
        · unfold fup
          by_cases e : j = (cix r s t).toNat
          · rw [e, zu_s, if_pos rfl]
          · rw [zu_n (fun z => e z.2), if_neg e]
            exact u5.1 j
        · unfold fup
          split
          · omega
          · exact u5.2 j
      · rw [if_neg hm]
        refine And.intro (fun c3 => absurd rfl c3) (fun c3 => ?_)
        exact ⟨T1, G', d', gb', K, k3, Or.inr (Or.inr ⟨hok, hz, by omega, k4, Or.inr ⟨hm, rfl, rfl⟩⟩)⟩
    · rw [if_neg hz]
      refine And.intro (fun c2 => absurd rfl c2) (fun c2 => ?_)
      exact ⟨T0, G, d, gb, K, h.sound, Or.inr (Or.inl ⟨hok, hz, rfl, rfl⟩)⟩
  refine zgo (fun pc => Nat.beq pc 23 || Nat.beq pc 47 || Nat.beq pc 49) 200 hX hR rfl ?_
  refine And.intro (fun c1 => bad 23 (Or.inl rfl) (by omega)) (fun c1 => ?_)
  refine And.intro (fun c2 => bad 23 (Or.inl rfl) (by omega)) (fun c2 => ?_)
  refine And.intro (fun c3 => bad 23 (Or.inl rfl) (by omega)) (fun c3 => ?_)
  refine And.intro (fun c4 => ?_) (fun c4 => bad 23 (Or.inl rfl) (by omega))
  refine qX8_differ_152 hX (c_X8_isInChart (xl X) (xD X) (xsh X) F I J (s := s) (t := t) ⟨by omega, by omega⟩ ⟨by omega, by omega⟩) (fun v F' I' J' hv => ?_)
  obtain ⟨rfl, rfl, rfl, rfl⟩ := hv
  by_cases hic : icP s t
  · rw [show zic s t = 1 from if_pos hic]
    refine And.intro (fun c5 => absurd c5 (by decide)) (fun c5 => ?_)
    refine qX8_differ_152 hX (c_X8_isInChart (xl X) (xD X) (xsh X) F' I' J' (s := s + r) (t := t + r - 1) ⟨by omega, by omega⟩ ⟨by omega, by omega⟩) (fun v F2 I2 J2 hv => ?_)
    obtain ⟨rfl, rfl, rfl, rfl⟩ := hv
    by_cases hic2 : icP (s + r) (t + r - 1)
    · rw [show zic (s + r) (t + r - 1) = 1 from if_pos hic2]
      exact And.intro (fun c6 => go ⟨by omega, hic, hic2⟩) (fun c6 => absurd c6 (by decide))
    · rw [show zic (s + r) (t + r - 1) = 0 from if_neg hic2]
      exact And.intro (fun c6 => absurd rfl c6) (fun c6 => bad 47 (Or.inr rfl) (fun z => hic2 z.2.2))
  · rw [show zic s t = 0 from if_neg hic]
    exact And.intro (fun c5 => bad 47 (Or.inr rfl) (fun z => hic z.2.1)) (fun c5 => absurd rfl c5)
abbrev pgOK (r s t : Int) : Prop := (2 ≤ r ∧ r ≤ 5) ∧ icP s t
theorem c_X8_page (l : Launch) (D : va_G) (sh : Nat → Option zS) (hs : zWS sh) (h : CS Fo Io Jo F I J ℓ c n A de K T0 G d gb) {r s t : Int} (h1 : zi32 r) (h2 : zi32 s) (h3 : zi32 t) :
    Cn l D yX8_page wsX8_page mX8_page.2.2.2.2 sh [.inr (.inr (some 0)), .inl r, .inl s, .inl t] F I J (fun v F' I' J' => ∃ T1 G' d' gb', CS Fo Io Jo F' I' J' ℓ c n A de K T1 G' d' gb' ∧ ((¬ pgOK r s t ∧ v = some (.inl (-1))) ∨ (pgOK r s t ∧ sFault A n ≠ none ∧ v = some (.inl (-2))) ∨
      (pgOK r s t ∧ sFault A n = none ∧ t.toNat < T1 ∧ TIc A n de T1 G' d' gb' ∧ v = some (.inl (lpg (flG (d' s.toNat) t (G' s.toNat) : Int) K s t (r.toNat - 2)))))) := by
  have hsp := hs.1.2.2.2.1
  have h0 := hs.2.1
  unfold zi32 at h1 h2 h3
  refine zmet (M := mX8_page) rfl rfl rfl kX8_page (Nat.le_of_ble_eq_true rfl) (fun X hX hR hl hD hsh => ?_)
  subst hl hD hsh
  have bad : ¬ pgOK r s t → HW X 18 [some (.inr (.inr (some 0))), some (.inl r), some (.inl s), some (.inl t)] [] F I J := fun hn => by
    refine zgo (fun _ => false) 200 hX hR rfl ?_
    exact ⟨T0, G, d, gb, h, Or.inl ⟨hn, rfl⟩⟩
  refine zgo (fun pc => Nat.beq pc 18) 200 hX hR rfl ?_
  refine And.intro (fun c1 => bad (by omega)) (fun c1 => ?_)
  refine And.intro (fun c2 => bad (by omega)) (fun c2 => ?_)
  refine qX8_page_152 hX (c_X8_isInChart (xl X) (xD X) (xsh X) F I J (s := s) (t := t) ⟨by omega, by omega⟩ ⟨by omega, by omega⟩) (fun v F' I' J' hv => ?_)
  obtain ⟨rfl, rfl, rfl, rfl⟩ := hv
  by_cases hic : icP s t
  · rw [show zic s t = 1 from if_pos hic]
    refine And.intro (fun c5 => ?_) (fun c5 => absurd c5 (by decide))
    have hok : pgOK r s t := ⟨by omega, hic⟩
    obtain ⟨-, -, ⟨s1, s2, s3, s4, s5, s6, s7⟩, -, -⟩ := id h
    refine Exists.intro _ ⟨h0, ?_⟩
    refine qX8_page_156 hX (c_X5_isSound (xl X) (xD X) (xsh X) hsp F' I' J' s1 s5.1 s2 s7) hsp.1 (fun v F2 I2 J2 hv => ?_)
    obtain ⟨rfl, rfl, rfl, rfl⟩ := hv
    by_cases hz : sFault A n = none
    · rw [if_pos hz]
      refine And.intro (fun c2 => ?_) (fun c2 => absurd c2 (by decide))
      refine Exists.intro _ ⟨h0, ?_⟩
      have cB := cs_build (xl X) (xD X) (xsh X) hs h.sound hz (top := t.toNat) (by omega)
      rw [show ((t.toNat : Nat) : Int) = t by omega] at cB
      refine qX8_page_160 hX cB hs.1.1.1 (fun v F3 I3 J3 hv => ?_)
      obtain ⟨rfl, T1, G', d', gb', k1, k2, k3, k4⟩ := cs_built h.sound (by omega) hv
      have cL := c_X8_leftOnPage (xl X) (xD X) (xsh X) hs k3 (r := r.toNat) (s := s.toNat) (t := t.toNat) (by omega) (by omega) (by omega)
      rw [show ((r.toNat : Nat) : Int) = r by omega, show ((s.toNat : Nat) : Int) = s by omega, show ((t.toNat : Nat) : Int) = t by omega] at cL
      refine qX8_page_183 hX cL hs.2.1 (fun v F4 I4 J4 hv => ?_)
      obtain ⟨rfl, rfl, rfl, rfl⟩ := hv
      exact ⟨T1, G', d', gb', k3, Or.inr (Or.inr ⟨hok, hz, by omega, k4, rfl⟩)⟩
    · rw [if_neg hz]
      refine And.intro (fun c2 => absurd rfl c2) (fun c2 => ?_)
      exact ⟨T0, G, d, gb, h.sound, Or.inr (Or.inl ⟨hok, hz, rfl⟩)⟩
  · rw [show zic s t = 0 from if_neg hic]
    exact And.intro (fun c5 => absurd rfl c5) (fun c5 => bad (fun z => hic z.2))
def act_ (ℓ : Nat) (c : Nat → Nat) (n : Nat) (K : Nat → Int) (w : Int) : Int := if w = 0 then (ℓ : Int) else if w = 1 then (ns ℓ c : Int) else if w = 2 then (n : Int) else if w = 3 then ccn K 270 0 else -1
theorem c_X8_count (l : Launch) (D : va_G) (sh : Nat → Option zS) (hs : zWS sh) (h : CS Fo Io Jo F I J ℓ c n A de K T0 G d gb) {w : Int} (h1 : zi32 w) :
    Cn l D yX8_count wsX8_count mX8_count.2.2.2.2 sh [.inr (.inr (some 0)), .inl w] F I J (zself F I J (.inl (act_ ℓ c n K w))) := by
  have hsp := hs.1.2.2.2.1
  have h0 := hs.2.1
  have hch := hs.2.2.2.2.2
  obtain ⟨-, ⟨w1, w2, -⟩, ⟨s1, -⟩, -, u5⟩ := h
  unfold zi32 at h1
  refine zmet (M := mX8_count) rfl rfl rfl kX8_count (Nat.le_of_ble_eq_true rfl) (fun X hX hR hl hD hsh => ?_)
  subst hl hD hsh
  refine zgo (fun _ => false) 200 hX hR rfl ?_
  unfold act_
  refine And.intro (fun c1 => ?_) (fun c1 => ?_)
  · refine And.intro (fun c2 => ?_) (fun c2 => ?_)
    · refine And.intro (fun c3 => ?_) (fun c3 => ?_)
      · refine And.intro (fun c4 => ?_) (fun c4 => ?_)
        · exact And.intro (by rw [if_neg (by omega), if_neg (by omega), if_neg (by omega), if_neg (by omega)]) ⟨rfl, rfl, rfl⟩
        · refine Exists.intro _ ⟨h0, ?_⟩
          refine qX8_count_186 hX (c_X2_told (xl X) (xD X) (xsh X) hch F I J (fun j => by rw [u5.1 j]; exact u5.2 j)) hch.1 (fun v F' I' J' hv => ?_)
          obtain ⟨rfl, rfl, rfl, rfl⟩ := hv
          exact And.intro (by rw [if_neg (by omega), if_neg (by omega), if_neg (by omega), if_pos (by omega), show I' 31 = K from funext u5.1]) ⟨rfl, rfl, rfl⟩
      · refine Exists.intro _ ⟨h0, ?_⟩
        refine qX8_count_107 hX (c_X5_size (xl X) (xD X) (xsh X) hsp F I J) hsp.1 (fun v F' I' J' hv => ?_)
        obtain ⟨rfl, rfl, rfl, rfl⟩ := hv
        exact And.intro (by rw [if_neg (by omega), if_neg (by omega), if_pos (by omega), s1]) ⟨rfl, rfl, rfl⟩
    · refine Exists.intro _ ⟨h0, ?_⟩
      exact And.intro (by rw [if_neg (by omega), if_pos (by omega), w2]) ⟨rfl, rfl, rfl⟩
  · refine Exists.intro _ ⟨h0, ?_⟩
    exact And.intro (by rw [if_pos (by omega), w1]) ⟨rfl, rfl, rfl⟩
end DIFF
