/-! the reference: its state; live -/
def LD (F I : zFi) (J : zJi) (A : Nat → Nat → Nat) (n : Nat) (de : Nat → Nat) (G : Nat → Nat) (d : Nat → Nat → Nat) (gb : Nat → Nat → Nat → Bool) : Prop := F 60 13 = 1 ∧ TIc A n de 15 G d gb ∧ RTM I J G d gb
def RTb (I : zFi) : Prop := mBg I ∧ mPr I ∧ mWd I ∧ mSq I ∧ mSr I ∧ mRw I
/-- what lies outside -/
def Fr (Fo Io : zFi) (Jo : zJi) (F I : zFi) (J : zJi) : Prop := ∀ a, a < 60 → F a = Fo a ∧ I a = Io a ∧ J a = Jo a
theorem Fr_of {Fo Io : zFi} {Jo : zJi} {F I : zFi} {J : zJi} {F' I' : zFi} {J' : zJi} (h : Fr Fo Io Jo F I J) (e1 : ∀ a, a < 60 → F' a = F a) (e2 : ∀ a, a < 60 → I' a = I a) (e3 : ∀ a, a < 60 → J' a = J a) : Fr Fo Io Jo F' I' J' := fun a ha => ⟨(e1 a ha).trans (h a ha).1, (e2 a ha).trans (h a ha).2.1, (e3 a ha).trans (h a ha).2.2⟩
/-- the reference's whole state -/
def RSt (Fo Io : zFi) (Jo : zJi) (F I : zFi) (J : zJi) (ℓ : Nat) (c : Nat → Nat) (n : Nat) (A : Nat → Nat → Nat) (de : Nat → Nat) (K : Nat → Int) : Prop :=
  (RTb I ∧ Fr Fo Io Jo F I J) ∧ RWd F I ℓ c ∧ (RSp F I n A de ∧ (∀ i e, 12 < i → e < n → A i e = 0) ∧ SpOK A n de) ∧ (RJB J ∧ ∀ j, J 73 j < 18446744073709551616) ∧ (F 60 13 = 0 ∨ ∃ G d gb, LD F I J A n de G d gb) ∧ ((∀ j, j < 270 → I 74 (180 + j) = K j) ∧ (∀ j, 0 ≤ K j ∧ K j ≤ 99) ∧ F 60 17 = ccn K 270 0)
section RS
variable {Fo Io : zFi} {Jo : zJi} {F I : zFi} {J : zJi} {ℓ : Nat} {c : Nat → Nat} {n : Nat} {A : Nat → Nat → Nat} {de : Nat → Nat} {K : Nat → Int}
theorem RTb_of {I' : zFi} (h : RTb I) (e : ∀ a, 61 ≤ a → a < 68 → I' a = I a) : RTb I' := by
  obtain ⟨h1, h2, h3, h4, h5, h6⟩ := h
  refine ⟨fun j hj => by rw [e 61 (by decide) (by decide)]; exact h1 j hj, fun u v a b f => by rw [e 67 (by decide) (by decide)]; exact h2 u v a b f, fun u hu => by rw [e 62 (by decide) (by decide), e 63 (by decide) (by decide)]; exact h3 u hu, fun i w a b f g => by rw [e 65 (by decide) (by decide)]; exact h4 i w a b f g, fun i w a b f g => by rw [e 66 (by decide) (by decide)]; exact h5 i w a b f g, fun w k a b => by rw [e 64 (by decide) (by decide)]; exact h6 w k a b⟩
theorem RWd_of {F' I' : zFi} (h : RWd F I ℓ c) (e1 : F' 60 8 = F 60 8) (e2 : I' 68 = I 68) : RWd F' I' ℓ c := ⟨by rw [e1]; exact h.1, h.2.1, h.2.2.1, fun k hk => by rw [e2]; exact h.2.2.2 k hk⟩
theorem RSp_of {F' I' : zFi} (h : RSp F I n A de) (e1 : F' 60 10 = F 60 10) (e2 : I' 69 = I 69) (e3 : I' 70 = I 70) : RSp F' I' n A de := ⟨by rw [e1]; exact h.1, h.2.1, fun e he => by rw [e2]; exact h.2.2.1 e he, fun e i a b f => by rw [e3]; exact h.2.2.2 e i a b f⟩
theorem rs_laid {F' I' : zFi} {J' : zJi} (h : RSt Fo Io Jo F I J ℓ c n A de K) (hf : lyF F I J F' I' J') (hj : RJB J') (h73 : ∀ j, J' 73 j < 18446744073709551616) {G : Nat → Nat} {d : Nat → Nat → Nat} {gb : Nat → Nat → Nat → Bool} (hl : LD F' I' J' A n de G d gb) : RSt Fo Io Jo F' I' J' ℓ c n A de K := by
  obtain ⟨h1, h2, ⟨h3, h3b, h3c⟩, h4, h5, h6, h7, h8⟩ := h
  obtain ⟨f1, f2, f3, f4⟩ := hf
  have e : ∀ a, 61 ≤ a → a < 71 → I' a = I a := fun a g1 g2 => f3 a (by omega) (by omega) (by omega)
  refine ⟨⟨RTb_of h1.1 (fun a g1 g2 => e a g1 (by omega)), Fr_of h1.2 (fun a ha => f1 a (by omega)) (fun a ha => f3 a (by omega) (by omega) (by omega)) (fun a ha => f4 a (by omega) (by omega) (by omega) (by omega) (by omega))⟩, RWd_of h2 (f2 8 (by decide) (by decide) (by decide) (by decide)) (e 68 (by decide) (by decide)), ⟨RSp_of h3 (f2 10 (by decide) (by decide) (by decide) (by decide)) (e 69 (by decide) (by decide)) (e 70 (by decide) (by decide)), h3b, h3c⟩, ⟨hj, h73⟩, Or.inr ⟨G, d, gb, hl⟩, fun j hj => ?_, h7, ?_⟩
  · rw [f3 74 (by decide) (by decide) (by decide)]
    exact h6 j hj
  · rw [f2 17 (by decide) (by decide) (by decide) (by decide)]
    exact h8
theorem rfF_n (r : Option (Nat × Nat × Nat)) {j : Nat} (h1 : j ≠ 19) (h2 : j ≠ 20) : rfF F r 60 j = F 60 j := by
  cases r with
  | none => rfl
  | some r =>
    obtain ⟨a, b, e⟩ := r
    show zu (zu F 60 19 (a : Int)) 60 20 (b : Int) 60 j = F 60 j
    rw [zu_n (fun z => h2 z.2), zu_n (fun z => h1 z.2)]
theorem rfF_r (r : Option (Nat × Nat × Nat)) {a : Nat} (h : a ≠ 60) : rfF F r a = F a := by
  cases r with
  | none => rfl
  | some r =>
    obtain ⟨x, y, z⟩ := r
    show zu (zu F 60 19 (x : Int)) 60 20 (y : Int) a = F a
    rw [zu_r h, zu_r h]
theorem rs_fault (h : RSt Fo Io Jo F I J ℓ c n A de K) (r : Option (Nat × Nat × Nat)) : RSt Fo Io Jo (rfF F r) I J ℓ c n A de K := by
  obtain ⟨h1, h2, ⟨h3, h3b, h3c⟩, h4, h5, h6, h7, h8⟩ := h
  refine ⟨⟨h1.1, Fr_of h1.2 (fun a ha => rfF_r r (by omega)) (fun _ _ => rfl) (fun _ _ => rfl)⟩, RWd_of h2 (rfF_n r (by decide) (by decide)) rfl, ⟨RSp_of h3 (rfF_n r (by decide) (by decide)) rfl rfl, h3b, h3c⟩, h4, ?_, h6, h7, by rw [rfF_n r (by decide) (by decide)]; exact h8⟩
  rcases h5 with h5 | ⟨G, d, gb, h5, h5b⟩
  · exact Or.inl (by rw [rfF_n r (by decide) (by decide)]; exact h5)
  · exact Or.inr ⟨G, d, gb, by rw [rfF_n r (by decide) (by decide)]; exact h5, h5b⟩
/-- what laying gives -/
def LyP (Fo Io : zFi) (Jo : zJi) (F I : zFi) (J : zJi) (ℓ : Nat) (c : Nat → Nat) (n : Nat) (A : Nat → Nat → Nat) (de : Nat → Nat) (K : Nat → Int) (F' I' : zFi) (J' : zJi) : Prop := RSt Fo Io Jo F' I' J' ℓ c n A de K ∧ (∃ G d gb, LD F' I' J' A n de G d gb) ∧ (F 60 13 = 1 → F' = F ∧ I' = I ∧ J' = J)
theorem LyP.trans {F1 I1 : zFi} {J1 : zJi} {F2 I2 : zFi} {J2 : zJi} (h1 : LyP Fo Io Jo F I J ℓ c n A de K F1 I1 J1) (h2 : LyP Fo Io Jo F1 I1 J1 ℓ c n A de K F2 I2 J2) : F2 = F1 ∧ I2 = I1 ∧ J2 = J1 := by
  obtain ⟨-, ⟨G, d, gb, h, -⟩, -⟩ := h1
  exact h2.2.2 h
theorem rs_lay (l : Launch) (D : va_G) (sh : Nat → Option zS) (hs : zWM sh) (h : RSt Fo Io Jo F I J ℓ c n A de K) (hz : sFault A n = none) :
    ∃ post : zP, Cn l D yX9_layAll wsX9_layAll mX9_layAll.2.2.2.2 sh [.inr (.inr (some 60))] F I J post ∧ ∀ v F' I' J', post v F' I' J' → v = none ∧ LyP Fo Io Jo F I J ℓ c n A de K F' I' J' := by
  obtain ⟨⟨⟨t1, t2, t3, t4⟩, -⟩, h2, ⟨h3, h3b, h3c⟩, h4, h5, h6⟩ := id h
  rcases h5 with h0 | ⟨G, d, gb, k1, k2, k3⟩
  · refine ⟨_, c_X9_layAll l D sh hs (G := fun _ => 0) (d := fun _ _ => 0) (gb := fun _ _ _ => false) t1 t2 t3 h3 h3b h3c (rule_of hz) h4.1 h4.2 (Or.inl h0), fun v F' I' J' hv => ?_⟩
    obtain ⟨e1, e2, e3, e4, e5, G', d', gb', e6, e7⟩ := hv
    exact ⟨e1, rs_laid h e2 e3 e4 ⟨e5, e6, e7⟩, ⟨G', d', gb', e5, e6, e7⟩, fun z => by rw [h0] at z; exact absurd z (by decide)⟩
  · refine ⟨fun v F' I' J' => v = none ∧ LyP Fo Io Jo F I J ℓ c n A de K F' I' J', ?_, fun v F' I' J' hv => hv⟩
    refine zmet (M := mX9_layAll) rfl rfl rfl kX9_layAll (Nat.le_of_ble_eq_true rfl) (fun X hX hR' hl0 hD hsh => ?_)
    subst hl0 hD hsh
    refine zgo (fun pc => Nat.beq pc 15) 200 hX hR' rfl ?_
    refine Exists.intro _ ⟨hs.o, ?_⟩
    rw [show F 60 13 = 1 from k1]
    refine And.intro (fun c1 => absurd c1 (by decide)) (fun c1 => ?_)
    exact And.intro rfl ⟨h, ⟨G, d, gb, k1, k2, k3⟩, fun _ => ⟨rfl, rfl, rfl⟩⟩
theorem c_X9_isPlace (l : Launch) (D : va_G) (sh : Nat → Option zS) (F I : zFi) (J : zJi) {s t : Int} (h1 : zi32 s) (h2 : zi32 t) :
    Cn l D yX9_isPlace wsX9_isPlace mX9_isPlace.2.2.2.2 sh [.inl s, .inl t] F I J (zself F I J (.inl (zic s t))) := by
  refine zmet (M := mX9_isPlace) rfl rfl rfl kX9_isPlace (Nat.le_of_ble_eq_true rfl) (fun X hX hR hl hD hsh => ?_)
  subst hl hD hsh
  refine zgo (fun _ => false) 200 hX hR rfl ?_
  unfold zic
  refine qX9_isPlace_122 hX (c_X9_in (xl X) (xD X) (xsh X) F I J (x := s) (lo := 0) (hi := 5) h1 ⟨by omega, by omega⟩ ⟨by omega, by omega⟩) (fun v F' I' J' hv => ?_)
  obtain ⟨rfl, rfl, rfl, rfl⟩ := hv
  refine And.intro (fun c1 => ?_) (fun c1 => ?_)
  · have hi0 : ¬ (0 ≤ s ∧ s ≤ 5) := fun g => by rw [if_pos g] at c1; exact absurd c1 (by decide)
    exact And.intro (Or.inl rfl) ⟨by rw [if_neg (by omega)], rfl, rfl, rfl⟩
  have hi0 : 0 ≤ s ∧ s ≤ 5 := Decidable.byContradiction fun g => by rw [if_neg g] at c1; exact c1 rfl
  refine qX9_isPlace_122 hX (c_X9_in (xl X) (xD X) (xsh X) F' I' J' (x := t) (lo := 0) (hi := 14) h2 ⟨by omega, by omega⟩ ⟨by omega, by omega⟩) (fun v F2 I2 J2 hv => ?_)
  obtain ⟨rfl, rfl, rfl, rfl⟩ := hv
  refine And.intro (fun c2 => ?_) (fun c2 => ?_)
  · have hi1 : ¬ (0 ≤ t ∧ t ≤ 14) := fun g => by rw [if_pos g] at c2; exact absurd c2 (by decide)
    exact And.intro (Or.inl rfl) ⟨by rw [if_neg (by omega)], rfl, rfl, rfl⟩
  have hi1 : 0 ≤ t ∧ t ≤ 14 := Decidable.byContradiction fun g => by rw [if_neg g] at c2; exact c2 rfl
  exact And.intro (Or.inr rfl) ⟨by rw [if_pos (by omega)], rfl, rfl, rfl⟩
theorem flG_more (d : Nat → Nat) (t : Int) (g : Nat) : flG d t (g + 1) = flG d t g + (if (d g : Int) = t then 1 else 0) := rfl
theorem c_X9_liveAt (l : Launch) (D : va_G) (sh : Nat → Option zS) (hs : zWM sh) (h : RSt Fo Io Jo F I J ℓ c n A de K) (hz : sFault A n = none) {s : Nat} {t : Int} (hs6 : s < 6) (ht : zi32 t) :
    Cn l D yX9_liveAt wsX9_liveAt mX9_liveAt.2.2.2.2 sh [.inr (.inr (some 60)), .inl (s : Int), .inl t] F I J (fun v F' I' J' => LyP Fo Io Jo F I J ℓ c n A de K F' I' J' ∧ ∃ G d gb, LD F' I' J' A n de G d gb ∧ v = some (.inl (flG (d s) t (G s) : Int))) := by
  obtain ⟨cA, h71⟩ := hs.a71
  obtain ⟨cB, h72⟩ := hs.a72
  unfold zi32 at ht
  refine zmet (M := mX9_liveAt) rfl rfl rfl kX9_liveAt (Nat.le_of_ble_eq_true rfl) (fun X hX hR hl hD hsh => ?_)
  subst hl hD hsh
  refine zgo (fun pc => Nat.beq pc 9) 200 hX hR rfl ?_
  obtain ⟨post, cL, hp⟩ := rs_lay (xl X) (xD X) (xsh X) hs h hz
  refine qX9_liveAt_213 hX cL hs.o (fun v F' I' J' hv => ?_)
  obtain ⟨rfl, hly⟩ := hp v F' I' J' hv
  obtain ⟨-, ⟨G, d, gb, hld⟩, -⟩ := id hly
  obtain ⟨m1, m2, m3, m4⟩ := hld.2.2.1 s hs6
  have loop : ∀ m k : Nat, k + m = G s → HW X 9 [some (.inr (.inr (some 60))), some (.inl (s : Int)), some (.inl t), some (.inl (flG (d s) t k : Int)), some (.inl (k : Int))] [] F' I' J' := by
    intro m
    induction m with
    | zero =>
      intro k hk
      refine zgo (fun pc => Nat.beq pc 9) 200 hX hR rfl ?_
      refine Exists.intro _ ⟨hs.o, ?_⟩
      refine Exists.intro _ ⟨_, s, h71, rfl, by omega, ?_⟩
      rw [m1]
      refine And.intro (fun c1 => ?_) (fun c1 => by omega)
      exact And.intro hly ⟨G, d, gb, hld, by rw [show k = G s by omega]⟩
    | succ m ih =>
      intro k hk
      have h2 := ih (k + 1) (by omega)
      obtain ⟨d1, d2⟩ := m3 k (by omega)
      have hle := flG_le (d s) t k
      rw [flG_more] at h2
      refine zgo (fun pc => Nat.beq pc 9) 200 hX hR rfl ?_
      refine Exists.intro _ ⟨hs.o, ?_⟩
      refine Exists.intro _ ⟨_, s, h71, rfl, by omega, ?_⟩
      rw [m1]
      refine And.intro (fun c1 => by omega) (fun c1 => ?_)
      refine Exists.intro _ ⟨hs.o, ?_⟩
      refine Exists.intro _ ⟨_, 100 * s + k, h72, by omega, by omega, ?_⟩
      rw [d1]
      refine And.intro (fun c2 => ?_) (fun c2 => ?_)
      · rw [if_neg (by omega)] at h2
        exact h2
      · rw [if_pos (by omega)] at h2
        exact h2
  exact loop (G s) 0 (by omega)
theorem c_X9_live (l : Launch) (D : va_G) (sh : Nat → Option zS) (hs : zWM sh) (h : RSt Fo Io Jo F I J ℓ c n A de K) {s t : Int} (h1 : zi32 s) (h2 : zi32 t) :
    Cn l D yX9_live wsX9_live mX9_live.2.2.2.2 sh [.inr (.inr (some 60)), .inl s, .inl t] F I J (fun v F' I' J' => RSt Fo Io Jo F' I' J' ℓ c n A de K ∧ ((zic s t = 0 ∧ v = some (.inl (-1))) ∨ (zic s t ≠ 0 ∧ sFault A n ≠ none ∧ v = some (.inl (-2))) ∨ (zic s t ≠ 0 ∧ sFault A n = none ∧ ∃ G d gb, TIc A n de 15 G d gb ∧ v = some (.inl (flG (d s.toNat) t (G s.toNat) : Int))))) := by
  refine zmet (M := mX9_live) rfl rfl rfl kX9_live (Nat.le_of_ble_eq_true rfl) (fun X hX hR hl hD hsh => ?_)
  subst hl hD hsh
  refine zgo (fun _ => false) 200 hX hR rfl ?_
  refine qX9_live_216 hX (c_X9_isPlace (xl X) (xD X) (xsh X) F I J h1 h2) (fun v F' I' J' hv => ?_)
  obtain ⟨rfl, rfl, rfl, rfl⟩ := hv
  by_cases hic : 0 ≤ s ∧ s ≤ 5 ∧ 0 ≤ t ∧ t ≤ 14
  · have e1 : zic s t = 1 := if_pos hic
    rw [e1]
    refine And.intro (fun c1 => ?_) (fun c1 => absurd c1 (by decide))
    refine qX9_live_219 hX (c_X9_isSound (xl X) (xD X) (xsh X) hs F' I' J' h.2.2.1.1 h.2.2.1.2.1) hs.o (fun v F2 I2 J2 hv => ?_)
    obtain ⟨rfl, rfl, rfl, rfl⟩ := hv
    have h' := rs_fault h (sFault A n)
    by_cases hz : sFault A n = none
    · rw [if_pos hz]
      refine And.intro (fun c2 => ?_) (fun c2 => absurd c2 (by decide))
      have cL := c_X9_liveAt (xl X) (xD X) (xsh X) hs h' hz (s := s.toNat) (t := t) (by omega) h2
      rw [show ((s.toNat : Nat) : Int) = s by omega] at cL
      refine qX9_live_223 hX cL hs.o (fun v F3 I3 J3 hv => ?_)
      obtain ⟨hly, G, d, gb, hld, rfl⟩ := hv
      exact And.intro hly.1 (Or.inr (Or.inr ⟨by decide, hz, G, d, gb, hld.2.1, rfl⟩))
    · rw [if_neg hz]
      refine And.intro (fun c2 => absurd rfl c2) (fun c2 => ?_)
      exact And.intro h' (Or.inr (Or.inl ⟨by decide, hz, rfl⟩))
  · have e1 : zic s t = 0 := if_neg hic
    rw [e1]
    refine And.intro (fun c1 => absurd rfl c1) (fun c1 => ?_)
    exact And.intro h (Or.inl ⟨rfl, rfl⟩)
end RS
