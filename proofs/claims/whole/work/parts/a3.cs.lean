/-! the class: its state; live, joins, balance -/
def TwM (F I : zFi) (J : zJi) (n : Nat) (A : Nat → Nat → Nat) (de : Nat → Nat) (T0 : Nat) (G : Nat → Nat) (d : Nat → Nat → Nat) (gb : Nat → Nat → Nat → Bool) : Prop :=
  TM F I J G d gb ∧ JB J ∧ F 15 11 = (T0 : Int) ∧ T0 ≤ 15 ∧ (0 < T0 → TIc A n de T0 G d gb)
def ChM (I : zFi) (K : Nat → Int) : Prop := (∀ j, I 31 j = K j) ∧ ∀ j, 0 ≤ K j ∧ K j ≤ 99
/-- what lies outside -/
def Fq (Fo Io : zFi) (Jo : zJi) (F I : zFi) (J : zJi) : Prop := ∀ a, 56 ≤ a → F a = Fo a ∧ I a = Io a ∧ J a = Jo a
theorem Fq_of {Fo Io : zFi} {Jo : zJi} {F I : zFi} {J : zJi} {F' I' : zFi} {J' : zJi} (h : Fq Fo Io Jo F I J) (e1 : ∀ a, 56 ≤ a → F' a = F a) (e2 : ∀ a, 56 ≤ a → I' a = I a) (e3 : ∀ a, 56 ≤ a → J' a = J a) : Fq Fo Io Jo F' I' J' := fun a ha => ⟨(e1 a ha).trans (h a ha).1, (e2 a ha).trans (h a ha).2.1, (e3 a ha).trans (h a ha).2.2⟩
/-- the class's whole state -/
def CS (Fo Io : zFi) (Jo : zJi) (F I : zFi) (J : zJi) (ℓ : Nat) (c : Nat → Nat) (n : Nat) (A : Nat → Nat → Nat) (de : Nat → Nat) (K : Nat → Int) (T0 : Nat) (G : Nat → Nat) (d : Nat → Nat → Nat) (gb : Nat → Nat → Nat → Bool) : Prop :=
  (zTb I ∧ Fq Fo Io Jo F I J) ∧ WdM F I ℓ c ∧ SpM F I n A de ∧ TwM F I J n A de T0 G d gb ∧ ChM I K
section CS
variable {Fo Io : zFi} {Jo : zJi} {F I : zFi} {J : zJi} {ℓ : Nat} {c : Nat → Nat} {n : Nat} {A : Nat → Nat → Nat} {de : Nat → Nat} {K : Nat → Int} {T0 : Nat} {G : Nat → Nat} {d : Nat → Nat → Nat} {gb : Nat → Nat → Nat → Bool}
theorem sFI_r {F I : zFi} {r : Option (Nat × Nat × Nat)} {a : Nat} (h : a ≠ 14) : sFI F I 11 14 r a = I a := by
  unfold sFI
  split
  · cases r with
    | none => exact zfill_r h
    | some r =>
      obtain ⟨x, y, z⟩ := r
      show zu (zu (zu (zfill I 14 0 3 (-9)) 14 0 x) 14 1 y) 14 2 z a = I a
      rw [zu_r h, zu_r h, zu_r h, zfill_r h]
  · rfl
theorem SpM.of {F' I' : zFi} (h : SpM F I n A de) (e1 : F' 11 = F 11) (e2 : ∀ a, 12 ≤ a → a < 15 → I' a = I a) : SpM F' I' n A de := by
  obtain ⟨h1, h2, h3, h4, h5, h6, h7⟩ := h
  refine ⟨by rw [e1]; exact h1, spA_of h2 (e2 13 (by decide) (by decide)), fun e he => by rw [e2 12 (by decide) (by decide)]; exact h3 e he, fun e he => by rw [e2 12 (by decide) (by decide)]; exact h4 e he, h5, h6, ?_⟩
  unfold spK
  rw [e1, e2 14 (by decide) (by decide)]
  exact h7
theorem TM.of {F' I' : zFi} {J' : zJi} (h : TM F I J G d gb) (e1 : ∀ a, 32 ≤ a → a < 56 → F' a = F a) (e2 : ∀ a, 32 ≤ a → a < 56 → I' a = I a) (e3 : ∀ a, 32 ≤ a → a < 56 → J' a = J a) : TM F' I' J' G d gb := fun s hs => by
  obtain ⟨y1, y2, y3⟩ := h s hs
  refine ⟨y1.frame (e1 _ (by omega) (by omega)) (e2 _ (by omega) (by omega)), y2.frame (e1 _ (by omega) (by omega)) (e3 _ (by omega) (by omega)), fun a ha => ?_⟩
  rw [← y3 a ha]
  funext q
  exact rq_of (e3 _ (by omega) (by omega)) a q
theorem TwM.of {F' I' : zFi} (h : TwM F I J n A de T0 G d gb) (e0 : F' 15 = F 15) (e1 : ∀ a, 32 ≤ a → a < 56 → F' a = F a) (e2 : ∀ a, 32 ≤ a → a < 56 → I' a = I a) : TwM F' I' J n A de T0 G d gb := ⟨h.1.of e1 e2 (fun _ _ _ => rfl), h.2.1, by rw [e0]; exact h.2.2.1, h.2.2.2⟩
theorem CS.sound (h : CS Fo Io Jo F I J ℓ c n A de K T0 G d gb) : CS Fo Io Jo (zu F 11 4 1) (sFI F I 11 14 (sFault A n)) J ℓ c n A de K T0 G d gb := by
  obtain ⟨h1, h2, ⟨s1, s2, s3, s4, s5, s6, s7⟩, h4, h5⟩ := h
  refine ⟨⟨zTb_of h1.1 (fun a ha _ => sFI_r (by omega)), Fq_of h1.2 (fun a ha => zu_r (by omega)) (fun a ha => sFI_r (by omega)) (fun _ _ => rfl)⟩, h2.of (zu_r (by decide)) (sFI_r (by decide)), ⟨by rw [zu_n (by decide)]; exact s1, spA_of s2 (sFI_r (by decide)), fun e he => by rw [sFI_r (by decide)]; exact s3 e he, fun e he => by rw [sFI_r (by decide)]; exact s4 e he, s5, s6, Or.inr ⟨zu_s _ _ _ _, fun j hj => ?_⟩⟩, h4.of (zu_r (by decide)) (fun a ha _ => zu_r (by omega)) (fun a ha _ => sFI_r (by omega)), fun j => by rw [sFI_r (by decide)]; exact h5.1 j, h5.2⟩
  unfold sFI
  split
  · exact sFw_at I 14 _ hj
  · rename_i g
    rcases s7 with z | ⟨-, z⟩
    · exact absurd z g
    · exact z j hj
theorem CS.built (h : CS Fo Io Jo F I J ℓ c n A de K T0 G d gb) {F' I' : zFi} {J' : zJi} {T1 : Nat} {G' : Nat → Nat} {d' : Nat → Nat → Nat} {gb' : Nat → Nat → Nat → Bool} (hb : BF1 F F' ∧ BF I I' ∧ BF J J') (hj : JB J') (h15 : T1 ≤ 15) (hF : F' 15 11 = (T1 : Int)) (hM : TM F' I' J' G' d' gb') (hT : TIc A n de T1 G' d' gb') : CS Fo Io Jo F' I' J' ℓ c n A de K T1 G' d' gb' := by
  obtain ⟨h1, h2, h3, h4, h5⟩ := h
  exact ⟨⟨zTb_of h1.1 (fun a ha _ => (hb.2.1 a (by omega)).symm), Fq_of h1.2 (fun a ha => (hb.1 a (by omega) (by omega)).symm) (fun a ha => (hb.2.1 a (by omega)).symm) (fun a ha => (hb.2.2 a (by omega)).symm)⟩, h2.of (hb.1 0 (by decide) (by omega)).symm (hb.2.1 1 (by omega)).symm, h3.of (hb.1 11 (by decide) (by omega)).symm (fun a _ _ => (hb.2.1 a (by omega)).symm), ⟨hM, hj, hF, h15, fun _ => hT⟩, fun j => by rw [← hb.2.1 31 (by omega)]; exact h5.1 j, h5.2⟩
/-- what building gives -/
def bdP (F I : zFi) (J : zJi) (A : Nat → Nat → Nat) (n : Nat) (de : Nat → Nat) (T0 top : Nat) : zP := fun v F' I' J' => v = none ∧ (BF1 F F' ∧ BF I I' ∧ BF J J') ∧ JB J' ∧ ∃ T1 G' d' gb', T1 = max (top + 1) T0 ∧ F' 15 11 = (T1 : Int) ∧ TM F' I' J' G' d' gb' ∧ TIc A n de T1 G' d' gb'
theorem cs_build (l : Launch) (D : va_G) (sh : Nat → Option zS) (hs : zWS sh) (h : CS Fo Io Jo F I J ℓ c n A de K T0 G d gb) (hz : sFault A n = none) {top : Nat} (htop : top ≤ 14) :
    Cn l D yX7_build wsX7_build mX7_build.2.2.2.2 sh [.inr (.inr (some 15)), .inl (top : Int)] F I J (bdP F I J A n de T0 top) := by
  obtain ⟨⟨h1, -⟩, h2, ⟨s1, s2, s3, s4, s5, s6, s7⟩, ⟨t1, t2, t3, t4, t5⟩, h5⟩ := h
  exact c_X7_build l D sh hs.1 F I J h1.1 aS_30 (fun x => (aS_fit x).1) h1.2.2 s1 s5.1 s2 s4 t1 t2 t3 t4 htop (TIc A n de) (ti_all s5 (rule_of hz) s3) t5
theorem cs_built (h : CS Fo Io Jo F I J ℓ c n A de K T0 G d gb) {top : Nat} (htop : top ≤ 14) {v : Option zV} {F' I' : zFi} {J' : zJi} (hv : bdP F I J A n de T0 top v F' I' J') : v = none ∧ ∃ T1 G' d' gb', top < T1 ∧ T1 ≤ 15 ∧ CS Fo Io Jo F' I' J' ℓ c n A de K T1 G' d' gb' ∧ TIc A n de T1 G' d' gb' := by
  obtain ⟨e0, e1, e2, T1, G', d', gb', e3, e4, e5, e6⟩ := hv
  have h15 := h.2.2.2.1.2.2.2.1
  exact ⟨e0, T1, G', d', gb', by omega, by omega, h.built e1 e2 (by omega) e4 e5 e6, e6⟩
/-- live: what is answered -/
def LvA (n : Nat) (A : Nat → Nat → Nat) (s t : Int) (g : Nat) (v : Int) : Prop := v = if zic s t = 0 then -1 else if sFault A n = none then (g : Int) else -2
theorem c_X8_live (l : Launch) (D : va_G) (sh : Nat → Option zS) (hs : zWS sh) (h : CS Fo Io Jo F I J ℓ c n A de K T0 G d gb) {s t : Int} (h1 : zi32 s) (h2 : zi32 t) :
    Cn l D yX8_live wsX8_live mX8_live.2.2.2.2 sh [.inr (.inr (some 0)), .inl s, .inl t] F I J (fun v F' I' J' => ∃ T1 G' d' gb', CS Fo Io Jo F' I' J' ℓ c n A de K T1 G' d' gb' ∧ ((zic s t = 0 ∧ v = some (.inl (-1))) ∨ (zic s t ≠ 0 ∧ sFault A n ≠ none ∧ v = some (.inl (-2))) ∨ (zic s t ≠ 0 ∧ sFault A n = none ∧ t.toNat < T1 ∧ TIc A n de T1 G' d' gb' ∧ v = some (.inl (flG (d' s.toNat) t (G' s.toNat) : Int))))) := by
  have hsp := hs.1.2.2.2.1
  have h0 := hs.2.1
  refine zmet (M := mX8_live) rfl rfl rfl kX8_live (Nat.le_of_ble_eq_true rfl) (fun X hX hR hl hD hsh => ?_)
  subst hl hD hsh
  refine zgo (fun _ => false) 200 hX hR rfl ?_
  refine qX8_live_152 hX (c_X8_isInChart (xl X) (xD X) (xsh X) F I J h1 h2) (fun v F' I' J' hv => ?_)
  obtain ⟨rfl, rfl, rfl, rfl⟩ := hv
  by_cases hic : 0 ≤ s ∧ s ≤ 5 ∧ 0 ≤ t ∧ t ≤ 14
  · have e1 : zic s t = 1 := if_pos hic
    rw [e1]
    refine And.intro (fun c1 => ?_) (fun c1 => absurd c1 (by decide))
    refine Exists.intro _ ⟨h0, ?_⟩
    obtain ⟨-, -, ⟨s1, s2, s3, s4, s5, s6, s7⟩, -, -⟩ := id h
    refine qX8_live_156 hX (c_X5_isSound (xl X) (xD X) (xsh X) hsp F' I' J' s1 s5.1 s2 s7) hsp.1 (fun v F2 I2 J2 hv => ?_)
    obtain ⟨rfl, rfl, rfl, rfl⟩ := hv
    by_cases hz : sFault A n = none
    · rw [if_pos hz]
      refine And.intro (fun c2 => ?_) (fun c2 => absurd c2 (by decide))
      refine Exists.intro _ ⟨h0, ?_⟩
      have cB := cs_build (xl X) (xD X) (xsh X) hs h.sound hz (top := t.toNat) (by omega)
      rw [show ((t.toNat : Nat) : Int) = t by omega] at cB
      refine qX8_live_160 hX cB hs.1.1.1 (fun v F3 I3 J3 hv => ?_)
      obtain ⟨rfl, T1, G', d', gb', k1, k2, k3, k4⟩ := cs_built h.sound (by omega) hv
      refine Exists.intro _ ⟨h0, ?_⟩
      have hfl := (hs.1.2.2.2.2.2.2.2.2 s.toNat (by omega)).1
      have cG := c_X7_generatorsAt (xl X) (xD X) (xsh X) hs.1.1 F3 I3 J3 (s := s.toNat) (by omega) hfl (k3.2.2.2.1.1 s.toNat (by omega)).1 (t := t) h2
      rw [show ((s.toNat : Nat) : Int) = s by omega] at cG
      refine qX8_live_164 hX cG hs.1.1.1 (fun v F4 I4 J4 hv => ?_)
      obtain ⟨rfl, rfl, rfl, rfl⟩ := hv
      exact ⟨T1, G', d', gb', k3, Or.inr (Or.inr ⟨by decide, hz, by omega, k4, rfl⟩)⟩
    · rw [if_neg hz]
      refine And.intro (fun c2 => absurd rfl c2) (fun c2 => ?_)
      exact ⟨T0, G, d, gb, h.sound, Or.inr (Or.inl ⟨by decide, hz, rfl⟩)⟩
  · have e1 : zic s t = 0 := if_neg hic
    rw [e1]
    refine And.intro (fun c1 => absurd rfl c1) (fun c1 => ?_)
    exact ⟨T0, G, d, gb, h, Or.inl ⟨rfl, rfl⟩⟩
theorem bsz_pow {i : Nat} (h : i ≤ 3) : 1 ≤ bsz aS ((2 ^ i : Nat) : Int) := by
  have : ∀ i, i < 4 → 1 ≤ bsz aS ((2 ^ i : Nat) : Int) := by decide
  exact this i (by omega)
abbrev jnOK (i s t : Int) : Prop := 0 ≤ i ∧ i ≤ 3 ∧ 0 ≤ s ∧ s < 5 ∧ 0 ≤ t ∧ t + ((2 ^ i.toNat : Nat) : Int) ≤ 14
theorem c_X8_joins (l : Launch) (D : va_G) (sh : Nat → Option zS) (hs : zWS sh) (h : CS Fo Io Jo F I J ℓ c n A de K T0 G d gb) {i s t : Int} (h1 : zi32 i) (h2 : zi32 s) (h3 : zi32 t) :
    Cn l D yX8_joins wsX8_joins mX8_joins.2.2.2.2 sh [.inr (.inr (some 0)), .inl i, .inl s, .inl t] F I J (fun v F' I' J' => ∃ T1 G' d' gb', CS Fo Io Jo F' I' J' ℓ c n A de K T1 G' d' gb' ∧ ((¬ jnOK i s t ∧ v = some (.inl (-1))) ∨ (jnOK i s t ∧ sFault A n ≠ none ∧ v = some (.inl (-2))) ∨ (jnOK i s t ∧ sFault A n = none ∧ t.toNat + 2 ^ i.toNat < T1 ∧ TIc A n de T1 G' d' gb' ∧ ∃ r : Nat, v = some (.inl (r : Int)) ∧ IsRk (G' (s.toNat + 1)) (jrw aS G' d' J' s.toNat t.toNat (t.toNat + 2 ^ i.toNat)) r))) := by
  have hsp := hs.1.2.2.2.1
  have h0 := hs.2.1
  unfold zi32 at h1 h2 h3
  refine zmet (M := mX8_joins) rfl rfl rfl kX8_joins (Nat.le_of_ble_eq_true rfl) (fun X hX hR hl hD hsh => ?_)
  subst hl hD hsh
  have bad : ¬ jnOK i s t → HW X 32 [some (.inr (.inr (some 0))), some (.inl i), some (.inl s), some (.inl t)] [] F I J := fun hn => by
    refine zgo (fun _ => false) 200 hX hR rfl ?_
    exact ⟨T0, G, d, gb, h, Or.inl ⟨hn, rfl⟩⟩
  have go : jnOK i s t → HW X 34 [some (.inr (.inr (some 0))), some (.inl i), some (.inl s), some (.inl t)] [] F I J := fun hok => by
    obtain ⟨g1, g2, g3, g4, g5, g6⟩ := id hok
    have hpos := Nat.two_pow_pos i.toNat
    obtain ⟨-, -, ⟨s1, s2, s3, s4, s5, s6, s7⟩, -, -⟩ := id h
    have hsh : zshl 1 i = ((2 ^ i.toNat : Nat) : Int) := by
      have := zshl1 (n := i.toNat) (by omega)
      rw [show ((i.toNat : Nat) : Int) = i by omega] at this
      exact this
    refine zgo (fun _ => false) 200 hX hR rfl ?_
    refine Exists.intro _ ⟨h0, ?_⟩
    refine qX8_joins_156 hX (c_X5_isSound (xl X) (xD X) (xsh X) hsp F I J s1 s5.1 s2 s7) hsp.1 (fun v F2 I2 J2 hv => ?_)
    obtain ⟨rfl, rfl, rfl, rfl⟩ := hv
    by_cases hz : sFault A n = none
    · rw [if_pos hz]
      refine And.intro (fun c2 => ?_) (fun c2 => absurd c2 (by decide))
      refine Exists.intro _ ⟨h0, ?_⟩
      have cB := cs_build (xl X) (xD X) (xsh X) hs h.sound hz (top := t.toNat + 2 ^ i.toNat) (by omega)
      rw [show ((t.toNat + 2 ^ i.toNat : Nat) : Int) = t + zshl 1 i by rw [hsh]; omega] at cB
      refine qX8_joins_160 hX cB hs.1.1.1 (fun v F3 I3 J3 hv => ?_)
      obtain ⟨rfl, T1, G', d', gb', k1, k2, k3, k4⟩ := cs_built h.sound (by omega) hv
      obtain ⟨T, rfl⟩ := Nat.exists_eq_succ_of_ne_zero (show T1 ≠ 0 by omega)
      refine Exists.intro _ ⟨h0, ?_⟩
      have h12 := bnd_one (sound_sp s5 (rule_of hz)) s5.2.1 (s := s.toNat) (T := T) (t := t.toNat) (by omega) (by omega) (k4.1.less (show s.toNat + 1 ≤ 6 by omega)) (by omega)
      have cR := c_X7_rankOfJoins (xl X) (xD X) (xsh X) hs.1 F3 I3 J3 k3.1.1.1 aS_30 k3.2.2.2.1.1 (i := i.toNat) (s := s.toNat) (t := t.toNat) (by omega) (by omega) (by omega) (bsz_pow (by omega)) h12
      rw [show ((i.toNat : Nat) : Int) = i by omega, show ((s.toNat : Nat) : Int) = s by omega, show ((t.toNat : Nat) : Int) = t by omega] at cR
      refine qX8_joins_167 hX cR hs.1.1.1 (fun v F4 I4 J4 hv => ?_)
      obtain ⟨rfl, rfl, hI, r, rfl, hrk⟩ := hv
      refine ⟨T + 1, G', d', gb', ?_, Or.inr (Or.inr ⟨hok, hz, by omega, k4, r, rfl, hrk⟩)⟩
      obtain ⟨u1, u2, u3, u4, u5⟩ := k3
      exact ⟨⟨zTb_of u1.1 (fun a ha _ => hI a (by omega)), Fq_of u1.2 (fun _ _ => rfl) (fun a ha => hI a (by omega)) (fun _ _ => rfl)⟩, u2.of rfl (hI 1 (by decide)), u3.of rfl (fun a _ _ => hI a (by omega)), u4.of rfl (fun _ _ _ => rfl) (fun a _ _ => hI a (by omega)), fun j => by rw [hI 31 (by decide)]; exact u5.1 j, u5.2⟩
    · rw [if_neg hz]
      refine And.intro (fun c2 => absurd rfl c2) (fun c2 => ?_)
      exact ⟨T0, G, d, gb, h.sound, Or.inr (Or.inl ⟨hok, hz, rfl⟩)⟩
  have hp : 0 ≤ i → i ≤ 3 → zshl 1 i = ((2 ^ i.toNat : Nat) : Int) ∧ 2 ^ i.toNat ≤ 8 := fun g1 g2 => by
    have := zshl1 (n := i.toNat) (by omega)
    rw [show ((i.toNat : Nat) : Int) = i by omega] at this
    exact ⟨this, show 2 ^ i.toNat ≤ 2 ^ 3 from Nat.pow_le_pow_right (by decide) (by omega)⟩
  refine zgo (fun pc => Nat.beq pc 32 || Nat.beq pc 34) 200 hX hR rfl ?_
  refine And.intro (fun c1 => bad (by omega)) (fun c1 => ?_)
  refine And.intro (fun c2 => bad (by omega)) (fun c2 => ?_)
  obtain ⟨p1, p2⟩ := hp (by omega) (by omega)
  refine And.intro (fun c3 => bad (by omega)) (fun c3 => ?_)
  refine And.intro (fun c4 => bad (by omega)) (fun c4 => ?_)
  refine And.intro (fun c5 => bad (by omega)) (fun c5 => ?_)
  have hpos := Nat.two_pow_pos i.toNat
  refine And.intro (fun c6 => ?_) (fun c6 => ?_)
  · rw [p1] at c6
    exact go ⟨by omega, by omega, by omega, by omega, by omega, by omega⟩
  · rw [p1] at c6
    refine bad (fun z => ?_)
    have := z.2.2.2.2.2
    omega
theorem c_X8_balance (l : Launch) (D : va_G) (sh : Nat → Option zS) (hs : zWS sh) (h : CS Fo Io Jo F I J ℓ c n A de K T0 G d gb) {t : Int} (h1 : zi32 t) :
    Cn l D yX8_balance wsX8_balance mX8_balance.2.2.2.2 sh [.inr (.inr (some 0)), .inl t] F I J (fun v F' I' J' => ∃ T1 G' d' gb', CS Fo Io Jo F' I' J' ℓ c n A de K T1 G' d' gb' ∧ (((t < 0 ∨ 14 < t) ∧ v = some (.inl (-1000000))) ∨ ((0 ≤ t ∧ t ≤ 14) ∧ sFault A n ≠ none ∧ v = some (.inl (-2000000))) ∨ ((0 ≤ t ∧ t ≤ 14) ∧ sFault A n = none ∧ t.toNat < T1 ∧ TIc A n de T1 G' d' gb' ∧ v = some (.inl (tbt aS d' G' t 6 - zswi (sod (fun e => (de e : Int)) t n : Int)))))) := by
  have hsp := hs.1.2.2.2.1
  have h0 := hs.2.1
  have g1 := h1
  unfold zi32 at g1
  refine zmet (M := mX8_balance) rfl rfl rfl kX8_balance (Nat.le_of_ble_eq_true rfl) (fun X hX hR hl hD hsh => ?_)
  subst hl hD hsh
  refine zgo (fun _ => false) 200 hX hR rfl ?_
  refine And.intro (fun c1 => ?_) (fun c1 => ?_)
  · exact ⟨T0, G, d, gb, h, Or.inl ⟨by omega, rfl⟩⟩
  refine And.intro (fun c2 => ?_) (fun c2 => ?_)
  · refine Exists.intro _ ⟨h0, ?_⟩
    obtain ⟨-, -, ⟨s1, s2, s3, s4, s5, s6, s7⟩, -, -⟩ := id h
    refine qX8_balance_156 hX (c_X5_isSound (xl X) (xD X) (xsh X) hsp F I J s1 s5.1 s2 s7) hsp.1 (fun v F2 I2 J2 hv => ?_)
    obtain ⟨rfl, rfl, rfl, rfl⟩ := hv
    by_cases hz : sFault A n = none
    · rw [if_pos hz]
      refine And.intro (fun c3 => ?_) (fun c3 => absurd c3 (by decide))
      refine Exists.intro _ ⟨h0, ?_⟩
      have cB := cs_build (xl X) (xD X) (xsh X) hs h.sound hz (top := t.toNat) (by omega)
      rw [show ((t.toNat : Nat) : Int) = t by omega] at cB
      refine qX8_balance_160 hX cB hs.1.1.1 (fun v F3 I3 J3 hv => ?_)
      obtain ⟨rfl, T1, G', d', gb', k1, k2, k3, k4⟩ := cs_built h.sound (by omega) hv
      refine Exists.intro _ ⟨h0, ?_⟩
      have cT := c_X7_turnByTurn (xl X) (xD X) (xsh X) (DG := fun s => 33 + 4 * s) (GO := fun s => 34 + 4 * s) hs.1.1 hs.1.2.1 F3 I3 J3 k3.1.1.1 aS_30 (g := G') (d := d') (fun s hs6 => ⟨(hs.1.2.2.2.2.2.2.2.2 s hs6).1, (k3.2.2.2.1.1 s hs6).1⟩) (t := t) ⟨by omega, by omega⟩
      refine qX8_balance_172 hX cT hs.1.1.1 (fun v F4 I4 J4 hv => ?_)
      obtain ⟨rfl, rfl, rfl, rfl⟩ := hv
      refine Exists.intro _ ⟨h0, ?_⟩
      obtain ⟨-, -, ⟨r1, r2, r3, r4, r5, r6, r7⟩, -, -⟩ := id k3
      refine qX8_balance_125 hX (c_X5_ofDegree (xl X) (xD X) (xsh X) hsp F4 I4 J4 r1 r5.1 (d := t) h1 r4) hsp.1 (fun v F5 I5 J5 hv => ?_)
      obtain ⟨rfl, rfl, rfl, rfl⟩ := hv
      rw [sod_congr r3]
      refine qX8_balance_78 hX (c_J6_bitCount (xl X) (xD X) (xsh X) F5 I5 J5 _) (fun v F6 I6 J6 hv => ?_)
      obtain ⟨rfl, rfl, rfl, rfl⟩ := hv
      exact ⟨T1, G', d', gb', k3, Or.inr (Or.inr ⟨⟨by omega, by omega⟩, hz, by omega, k4, rfl⟩)⟩
    · rw [if_neg hz]
      refine And.intro (fun c3 => absurd rfl c3) (fun c3 => ?_)
      exact ⟨T0, G, d, gb, h.sound, Or.inr (Or.inl ⟨⟨by omega, by omega⟩, hz, rfl⟩)⟩
  · exact ⟨T0, G, d, gb, h, Or.inl ⟨by omega, rfl⟩⟩
end CS
