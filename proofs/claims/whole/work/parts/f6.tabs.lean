/-! the reference: findSquares, findProducts -/
/-- the squares as far as they are found -/
def sqF (I : zFi) (n i v : Nat) : Prop := ∀ i' u, 1 ≤ i' → u < 61 → (i' + dgA u < n ∨ (i' + dgA u = n ∧ (i < i' ∨ (i = i' ∧ u < v)))) → I 65 (64 * i' + u) = (aGP (sg i') u : Int) ∧ I 66 (64 * i' + u) = (rRw i' u : Int)
theorem sqF.put {I : zFi} {n i v : Nat} (h : sqF I n i v) (hv : v < 61) : sqF (zu (zu I 65 (64 * i + v) (aGP (sg i) v : Int)) 66 (64 * i + v) (rRw i v : Int)) n i (v + 1) := by
  intro i' u hi hu hc
  by_cases e : i' = i ∧ u = v
  · obtain ⟨rfl, rfl⟩ := e
    refine ⟨?_, ?_⟩
    · rw [zu_r (by decide), zu_s]
    · rw [zu_s]
  · have h9 := h i' u hi hu (by
      rcases hc with hc | ⟨h1, h2⟩
      · exact Or.inl hc
      · refine Or.inr ⟨h1, ?_⟩
        by_cases e1 : i = i'
        · by_cases e2 : u = v
          · exact absurd ⟨e1.symm, e2⟩ e
          · omega
        · omega)
    refine ⟨?_, ?_⟩
    · rw [zu_r (by decide), zu_n (by omega)]
      exact h9.1
    · rw [zu_n (by omega), zu_r (by decide)]
      exact h9.2
section REF
set_option maxHeartbeats 1000000 in
theorem c_X9_findSquares (l : Launch) (D : va_G) (sh : Nat → Option zS) (hs : zWM sh) (F I : zFi) (J : zJi) (hb : mBg I) (hw : mWd I) (hr : mRw I) :
    Cn l D yX9_findSquares wsX9_findSquares mX9_findSquares.2.2.2.2 sh [.inr (.inr (some 60))] F I J (fun v F' I' J' => v = none ∧ F' = F ∧ J' = J ∧ (∀ a, a ≠ 65 → a ≠ 66 → I' a = I a) ∧ mSq I' ∧ mSr I') := by
  obtain ⟨c61, s61⟩ := hs.a61
  obtain ⟨c65, s65⟩ := hs.a65
  obtain ⟨c66, s66⟩ := hs.a66
  refine zmet (M := mX9_findSquares) rfl rfl rfl kX9_findSquares (Nat.le_of_ble_eq_true rfl) (fun X hX hR hl hD hsh => ?_)
  subst hl hD hsh
  have ab : ∀ I' : zFi, (∀ a, a ≠ 65 → a ≠ 66 → I' a = I a) → mBg I' ∧ mWd I' ∧ mRw I' := fun I' h => ⟨fun j hj => by rw [h 61 (by decide) (by decide)]; exact hb j hj, fun u hu => by rw [h 62 (by decide) (by decide), h 63 (by decide) (by decide)]; exact hw u hu, fun u k hu hk => by rw [h 64 (by decide) (by decide)]; exact hr u k hu hk⟩
  have loopV : ∀ n i, n < 15 → 1 ≤ i → i ≤ n → ∀ (m v : Nat) (I' : zFi), v + m = aS (n - i + 1) → aS (n - i) ≤ v → (∀ a, a ≠ 65 → a ≠ 66 → I' a = I a) → sqF I' n i v → (∀ I2, (∀ a, a ≠ 65 → a ≠ 66 → I2 a = I a) → sqF I2 n (i - 1) (aS (n - (i - 1))) → HW X 10 [some (.inr (.inr (some 60))), some (.inl (n : Int)), some (.inl ((i - 1 : Nat) : Int)), none] [] F I2 J) → HW X 23 [some (.inr (.inr (some 60))), some (.inl (n : Int)), some (.inl (i : Int)), some (.inl (v : Int))] [] F I' J := by
    intro n i hn hi hin m
    have hrg := dg_range (show n - i ≤ 14 by omega)
    induction m with
    | zero =>
      intro v I' hv hv2 hI hP hk
      obtain ⟨hb', hw', hr'⟩ := ab I' hI
      have h61 := aS_61 (n - i + 1)
      refine zgo (fun pc => Nat.beq pc 23 || Nat.beq pc 10) 200 hX hR rfl ?_
      refine Exists.intro _ ⟨hs.o, ?_⟩
      refine Exists.intro _ ⟨_, n - i + 1, s61, by omega, by omega, ?_⟩
      rw [hb' (n - i + 1) (by omega)]
      refine And.intro (fun c1 => ?_) (fun c1 => by omega)
      have h9 := hk I' hI (fun i' u hi' hu hc => hP i' u hi' hu (by
        rcases hc with hc | ⟨h1, h2 | ⟨h2, h3⟩⟩
        · exact Or.inl hc
        · by_cases e : i = i'
          · refine Or.inr ⟨h1, Or.inr ⟨e, ?_⟩⟩
            have := (hrg.2.2.2 u hu).mp (by omega)
            omega
          · exact Or.inr ⟨h1, Or.inl (by omega)⟩
        · have := ((dg_range (show n - (i - 1) ≤ 14 by omega)).2.2.2 u hu).mp (by omega)
          omega))
      rw [show ((i - 1 : Nat) : Int) = (i : Int) + -1 by omega] at h9
      exact hw_weak (ls' := [some (.inr (.inr (some 60))), some (.inl (n : Int)), some (.inl ((i : Int) + -1)), none]) ⟨rfl, rfl, rfl, trivial⟩ h9
    | succ m ih =>
      intro v I' hv hv2 hI hP hk
      obtain ⟨hb', hw', hr'⟩ := ab I' hI
      have hv61 : v < 61 := by omega
      have hdv : dgA v = n - i := (hrg.2.2.2 v hv61).mpr ⟨hv2, by omega⟩
      refine zgo (fun pc => Nat.beq pc 23 || Nat.beq pc 10) 200 hX hR rfl ?_
      refine Exists.intro _ ⟨hs.o, ?_⟩
      refine Exists.intro _ ⟨_, n - i + 1, s61, by omega, by omega, ?_⟩
      rw [hb' (n - i + 1) (by omega)]
      refine And.intro (fun c1 => by omega) (fun c1 => ?_)
      refine Exists.intro _ ⟨hs.o, ?_⟩
      have cS := c_X9_squareOf (xl X) (xD X) (xsh X) hs F I' J hb' hw' (i := i) (w := v) hv61 hi (by omega) (fun i' u hi' hu hc => (hP i' u hi' hu (by
        rcases hc with hc | ⟨h1, h2⟩
        · exact Or.inl (by omega)
        · exact Or.inr ⟨by omega, Or.inl h2⟩)).1)
      rw [show (dgA v : Int) = (n : Int) - (i : Int) by omega] at cS
      refine qX9_findSquares_110 hX cS hs.o (fun w F' I2 J' hv => ?_)
      obtain ⟨rfl, rfl, rfl, rfl⟩ := hv
      refine Exists.intro _ ⟨_, 64 * i + v, s65, by omega, by omega, ?_⟩
      refine Exists.intro _ ⟨hs.o, ?_⟩
      have I3e : ∀ a, a ≠ 65 → a ≠ 66 → zu I2 65 (64 * i + v) (aGP (sg i) v : Int) a = I a := fun a a1 a2 => by rw [zu_r a1]; exact hI a a1 a2
      obtain ⟨hb3, hw3, hr3⟩ := ab _ I3e
      have cR := c_X9_squareOfRow (xl X) (xD X) (xsh X) hs F' (zu I2 65 (64 * i + v) (aGP (sg i) v : Int)) J' hb3 hr3 (i := i) (w := v) hv61 hi (by omega)
      rw [show (dgA v : Int) = (n : Int) - (i : Int) by omega] at cR
      refine qX9_findSquares_113 hX cR hs.o (fun w F4 I4 J4 hv => ?_)
      obtain ⟨rfl, rfl, rfl, rfl⟩ := hv
      refine Exists.intro _ ⟨_, 64 * i + v, s66, by omega, by omega, ?_⟩
      exact ih (v + 1) _ (by omega) (by omega) (fun a a1 a2 => by rw [zu_r a2, zu_r a1]; exact hI a a1 a2) (hP.put hv61) hk
  have loopA : ∀ n, n < 15 → ∀ (i : Nat) (I' : zFi), i ≤ n → (∀ a, a ≠ 65 → a ≠ 66 → I' a = I a) → sqF I' n i (aS (n - i)) → (∀ I2, (∀ a, a ≠ 65 → a ≠ 66 → I2 a = I a) → sqF I2 (n + 1) (n + 1) 0 → HW X 2 [some (.inr (.inr (some 60))), some (.inl ((n + 1 : Nat) : Int)), none, none] [] F I2 J) → HW X 10 [some (.inr (.inr (some 60))), some (.inl (n : Int)), some (.inl (i : Int)), none] [] F I' J := by
    intro n hn i
    induction i with
    | zero =>
      intro I' ha hI hP hk
      refine zgo (fun pc => Nat.beq pc 2) 200 hX hR rfl ?_
      refine And.intro (fun c1 => ?_) (fun c1 => absurd (show (((0 : Nat) : Int) + 2147483648) % 4294967296 ≤ 2147483648 by decide) c1)
      exact hw_weak (ls' := [some (.inr (.inr (some 60))), some (.inl ((n + 1 : Nat) : Int)), none, none]) ⟨rfl, rfl, trivial⟩ (hk I' hI (fun i' u hi' hu hc => hP i' u hi' hu (by omega)))
    | succ i ih =>
      intro I' ha hI hP hk
      obtain ⟨hb', hw', hr'⟩ := ab I' hI
      have hrg := dg_range (show n - (i + 1) ≤ 14 by omega)
      have h9 := loopV n (i + 1) hn (by omega) ha (aS (n - (i + 1) + 1) - aS (n - (i + 1))) (aS (n - (i + 1))) I' (by omega) (Nat.le_refl _) hI hP (fun I3 h1 h2 => ih I3 (by omega) h1 h2 hk)
      refine zgo (fun pc => Nat.beq pc 23) 200 hX hR rfl ?_
      refine And.intro (fun c1 => by omega) (fun c1 => ?_)
      refine Exists.intro _ ⟨hs.o, ?_⟩
      refine Exists.intro _ ⟨_, n - (i + 1), s61, by omega, by omega, ?_⟩
      rw [hb' (n - (i + 1)) (by omega)]
      exact h9
  have loopN : ∀ (m n : Nat) (I' : zFi), n + m = 15 → (∀ a, a ≠ 65 → a ≠ 66 → I' a = I a) → sqF I' n n 0 → HW X 2 [some (.inr (.inr (some 60))), some (.inl (n : Int)), none, none] [] F I' J := by
    intro m
    induction m with
    | zero =>
      intro n I' hn hI hP
      obtain rfl : n = 15 := by omega
      refine zgo (fun pc => Nat.beq pc 10) 200 hX hR rfl ?_
      refine And.intro (fun c1 => ?_) (fun c1 => by omega)
      exact ⟨rfl, rfl, rfl, hI, fun i w h1 h2 h3 h4 => (hP i w h1 h3 (Or.inl (by omega))).1, fun i w h1 h2 h3 h4 => (hP i w h1 h3 (Or.inl (by omega))).2⟩
    | succ m ih =>
      intro n I' hn hI hP
      have h9 := loopA n (by omega) n I' (Nat.le_refl _) hI (by rw [Nat.sub_self]; exact hP) (fun I3 h1 h2 => ih (n + 1) I3 (by omega) h1 h2)
      refine zgo (fun pc => Nat.beq pc 10) 200 hX hR rfl ?_
      refine And.intro (fun c1 => by omega) (fun c1 => ?_)
      exact h9
  refine zgo (fun pc => Nat.beq pc 2) 200 hX hR rfl ?_
  exact loopN 15 0 I rfl (fun _ _ _ => rfl) (fun i' u hi' hu hc => by omega)
/-- the product, number by number -/
def pdw (a b : Nat) : Nat → Nat × Nat
  | 0 => (2 ^ (b - aS (dgA b)), dgA b)
  | t + 1 => (sqs aGP aS (cn a (lnC a - 1 - t) : Int) (pdw a b t).1 ((pdw a b t).2 : Int), (pdw a b t).2 + cn a (lnC a - 1 - t))
def ckPd : Bool := (List.range 61).all fun a => (List.range 61).all fun b => !Nat.ble (dgA a + dgA b) 14 || (Nat.beq (pdw a b (lnC a)).1 (aGP a b) && (List.range 3).all fun t => !Nat.blt t (lnC a) || (Nat.ble ((pdw a b t).2 + cn a (lnC a - 1 - t)) 14 && Nat.ble 1 (cn a (lnC a - 1 - t))))
set_option maxRecDepth 100000 in
theorem ckPd_ok : ckPd = true := by decide +kernel
theorem ckPd_at {a b : Nat} (ha : a < 61) (hb : b < 61) (h : dgA a + dgA b ≤ 14) : (pdw a b (lnC a)).1 = aGP a b ∧ ∀ t, t < lnC a → (pdw a b t).2 + cn a (lnC a - 1 - t) ≤ 14 ∧ 1 ≤ cn a (lnC a - 1 - t) := by
  have h2 := range_all (range_all ckPd_ok ha) hb
  rw [show Nat.ble (dgA a + dgA b) 14 = true from Nat.ble_eq.mpr h] at h2
  simp only [Bool.not_true, Bool.false_or, Bool.and_eq_true, bq_iff] at h2
  refine ⟨h2.1, fun t ht => ?_⟩
  have hl := lnC_3 a
  have h3 := range_all h2.2 (show t < 3 by omega)
  rw [show Nat.blt t (lnC a) = true from bl_iff.mpr ht] at h3
  simp only [Bool.not_true, Bool.false_or, Bool.and_eq_true, Nat.ble_eq] at h3
  exact h3
theorem pdw_lt {a b : Nat} (ha : a < 61) (hb : b < 61) (h : dgA a + dgA b ≤ 14) : ∀ t, t ≤ lnC a → (pdw a b t).1 < 512 ∧ (pdw a b t).2 ≤ 14 := by
  intro t
  induction t with
  | zero =>
    intro _
    have hd := dgA_le hb
    have hr := dg_range hd
    have h1 := (hr.2.2.2 b hb).mp rfl
    exact ⟨(Nat.pow_lt_pow_right (by decide) (show b - aS (dgA b) < 9 by omega) : 2 ^ (b - aS (dgA b)) < 2 ^ 9), hd⟩
  | succ t ih =>
    intro ht
    have h2 := ((ckPd_at ha hb h).2 t (by omega)).1
    have h3 := sqs_ltw (i := cn a (lnC a - 1 - t)) (n := (pdw a b t).2) (x := (pdw a b t).1) (by omega)
    have h4 := pow9 (n := cn a (lnC a - 1 - t) + (pdw a b t).2) (by omega)
    exact ⟨Nat.lt_of_lt_of_le h3 h4, h2⟩
set_option maxHeartbeats 1000000 in
theorem c_X9_findProducts (l : Launch) (D : va_G) (sh : Nat → Option zS) (hs : zWM sh) (F I : zFi) (J : zJi) (hb : mBg I) (hw : mWd I) (hq : mSq I) (h7 : F 60 7 = 61) :
    Cn l D yX9_findProducts wsX9_findProducts mX9_findProducts.2.2.2.2 sh [.inr (.inr (some 60))] F I J (fun v F' I' J' => v = none ∧ F' = F ∧ J' = J ∧ (∀ a, a ≠ 67 → I' a = I a) ∧ mPr I') := by
  obtain ⟨c61, s61⟩ := hs.a61
  obtain ⟨c62, s62⟩ := hs.a62
  obtain ⟨c63, s63⟩ := hs.a63
  obtain ⟨c67, s67⟩ := hs.a67
  refine zmet (M := mX9_findProducts) rfl rfl rfl kX9_findProducts (Nat.le_of_ble_eq_true rfl) (fun X hX hR hl hD hsh => ?_)
  subst hl hD hsh
  have ab : ∀ I' : zFi, (∀ a, a ≠ 67 → I' a = I a) → mBg I' ∧ mWd I' ∧ mSq I' := fun I' h => ⟨fun j hj => by rw [h 61 (by decide)]; exact hb j hj, fun u hu => by rw [h 62 (by decide), h 63 (by decide)]; exact hw u hu, fun i u h1 h2 h3 h4 => by rw [h 65 (by decide)]; exact hq i u h1 h2 h3 h4⟩
  have loopB : ∀ a, a < 61 → ∀ (m b : Nat) (I' : zFi), b + m = 61 → (∀ a, a ≠ 67 → I' a = I a) → (∀ u v, v < 61 → (u < a ∨ (u = a ∧ v < b)) → dgA u + dgA v ≤ 14 → I' 67 (64 * u + v) = (aGP u v : Int)) → (∀ I2, (∀ a, a ≠ 67 → I2 a = I a) → (∀ u v, v < 61 → u < a + 1 → dgA u + dgA v ≤ 14 → I2 67 (64 * u + v) = (aGP u v : Int)) → HW X 2 [some (.inr (.inr (some 60))), some (.inl ((a + 1 : Nat) : Int)), none, none, none, none] [] F I2 J) → HW X 12 [some (.inr (.inr (some 60))), some (.inl (a : Int)), some (.inl (b : Int)), none, none, none] [] F I' J := by
    intro a ha m
    induction m with
    | zero =>
      intro b I' hbm hI hP hk
      refine zgo (fun pc => Nat.beq pc 2) 200 hX hR rfl ?_
      refine Exists.intro _ ⟨hs.o, ?_⟩
      rw [h7]
      refine And.intro (fun c1 => ?_) (fun c1 => by omega)
      exact hw_weak (ls' := [some (.inr (.inr (some 60))), some (.inl ((a + 1 : Nat) : Int)), none, none, none, none]) ⟨rfl, rfl, trivial⟩ (hk I' hI (fun u v hv hu hd => hP u v hv (by omega) hd))
    | succ m ih =>
      intro b I' hbm hI hP hk
      obtain ⟨hb', hw', hq'⟩ := ab I' hI
      have hb61 : b < 61 := by omega
      have hda := dgA_le ha
      have hdb := dgA_le hb61
      refine zgo (fun pc => Nat.beq pc 60 || Nat.beq pc 118) 200 hX hR rfl ?_
      refine Exists.intro _ ⟨hs.o, ?_⟩
      rw [h7]
      refine And.intro (fun c1 => by omega) (fun c1 => ?_)
      refine qX9_findProducts_116 hX (c_X9_degreeOf (xl X) (xD X) (xsh X) hs F I' J hb' hb61) hs.o (fun v F1 I1 J1 hv => ?_)
      obtain ⟨rfl, rfl, rfl, rfl⟩ := hv
      refine qX9_findProducts_116 hX (c_X9_degreeOf (xl X) (xD X) (xsh X) hs F1 I1 J1 hb' ha) hs.o (fun v F2 I2 J2 hv => ?_)
      obtain ⟨rfl, rfl, rfl, rfl⟩ := hv
      refine And.intro (fun c2 => ?_) (fun c2 => ?_)
      · have h9 := ih (b + 1) I2 (by omega) hI (fun u v hv hu hd => hP u v hv (by
          rcases hu with hu | ⟨hu, hvb⟩
          · exact Or.inl hu
          · refine Or.inr ⟨hu, ?_⟩
            by_cases e : v = b
            · subst e
              subst hu
              omega
            · omega) hd) hk
        refine hw_weak (ls' := [some (.inr (.inr (some 60))), some (.inl (a : Int)), some (.inl (b : Int)), none, none, none]) ⟨rfl, rfl, rfl, trivial⟩ ?_
        refine zgo (fun pc => Nat.beq pc 12) 200 hX hR rfl ?_
        exact h9
      · have hd : dgA a + dgA b ≤ 14 := by omega
        obtain ⟨k1, k2⟩ := ckPd_at ha hb61 hd
        have hlt := pdw_lt ha hb61 hd
        have hla := lnC_3 a
        obtain ⟨ea, ea2⟩ := hw' a ha
        have loopK : ∀ m t : Nat, t + m = lnC a → HW X 60 [some (.inr (.inr (some 60))), some (.inl (a : Int)), some (.inl (b : Int)), some (.inl ((pdw a b t).2 : Int)), some (.inl ((pdw a b t).1 : Int)), some (.inl ((lnC a : Int) - 1 - (t : Int)))] [] F2 I2 J2 := by
          intro m
          induction m with
          | zero =>
            intro t ht
            obtain rfl : t = lnC a := by omega
            have h9 := ih (b + 1) (zu I2 67 (64 * a + b) (aGP a b : Int)) (by omega) (fun x hx => by rw [zu_r hx]; exact hI x hx) (fun u v hv hu hd2 => by
              by_cases e : u = a ∧ v = b
              · obtain ⟨rfl, rfl⟩ := e
                rw [zu_s]
              · rw [zu_n (by omega)]
                exact hP u v hv (by omega) hd2) hk
            refine zgo (fun pc => Nat.beq pc 118) 200 hX hR rfl ?_
            refine And.intro (fun c3 => ?_) (fun c3 => by omega)
            refine Exists.intro _ ⟨hs.o, ?_⟩
            refine Exists.intro _ ⟨_, 64 * a + b, s67, by omega, by omega, ?_⟩
            rw [k1]
            refine hw_weak (ls' := [some (.inr (.inr (some 60))), some (.inl (a : Int)), some (.inl (b : Int)), none, none, none]) ⟨rfl, rfl, rfl, trivial⟩ ?_
            refine zgo (fun pc => Nat.beq pc 12) 200 hX hR rfl ?_
            exact h9
          | succ m ihk =>
            intro t ht
            have h9 := ihk (t + 1) (by omega)
            obtain ⟨b1, b2⟩ := k2 t (by omega)
            obtain ⟨l1, l2⟩ := hlt t (by omega)
            have ep := ea2 (lnC a - 1 - t) (by omega)
            have hx : (4 : Int) * (a : Int) + ((lnC a : Int) - 1 - (t : Int)) = ((4 * a + (lnC a - 1 - t) : Nat) : Int) := by omega
            refine zgo (fun pc => Nat.beq pc 60) 200 hX hR rfl ?_
            refine And.intro (fun c3 => by omega) (fun c3 => ?_)
            refine Exists.intro _ ⟨hs.o, ?_⟩
            refine Exists.intro _ ⟨_, 4 * a + (lnC a - 1 - t), s63, hx, by omega, ?_⟩
            rw [ep]
            have cq := c_X9_squares (xl X) (xD X) (xsh X) hs F2 I2 J2 hb' hq' (i := cn a (lnC a - 1 - t)) (x := (pdw a b t).1) (n := (pdw a b t).2) (by omega) (by omega)
            rw [if_neg (by omega)] at cq
            refine qX9_findProducts_103 hX cq hs.o (fun v F3 I3 J3 hv => ?_)
            obtain ⟨rfl, rfl, rfl, rfl⟩ := hv
            refine Exists.intro _ ⟨hs.o, ?_⟩
            refine Exists.intro _ ⟨_, 4 * a + (lnC a - 1 - t), s63, hx, by omega, ?_⟩
            rw [ep]
            rw [show (lnC a : Int) - 1 - ((t + 1 : Nat) : Int) = (lnC a : Int) - 1 - (t : Int) + -1 by omega] at h9
            exact h9
        have l0 := loopK (lnC a) 0 (by omega)
        rw [show (lnC a : Int) - 1 - ((0 : Nat) : Int) = (lnC a : Int) - 1 by omega] at l0
        have hr := dg_range hdb
        have h1 := (hr.2.2.2 b hb61).mp rfl
        have ez : zshl 1 ((b : Int) - (aS (dgA b) : Int)) = ((pdw a b 0).1 : Int) := by
          rw [show (b : Int) - (aS (dgA b) : Int) = ((b - aS (dgA b) : Nat) : Int) by omega]
          exact zshl1 (by omega)
        rw [← ez] at l0
        refine Exists.intro _ ⟨hs.o, ?_⟩
        refine Exists.intro _ ⟨_, dgA b, s61, rfl, by omega, ?_⟩
        rw [hb' (dgA b) (by omega)]
        refine Exists.intro _ ⟨hs.o, ?_⟩
        refine Exists.intro _ ⟨_, a, s62, rfl, by omega, ?_⟩
        rw [ea]
        exact l0
  have loopA : ∀ (m a : Nat) (I' : zFi), a + m = 61 → (∀ a, a ≠ 67 → I' a = I a) → (∀ u v, v < 61 → u < a → dgA u + dgA v ≤ 14 → I' 67 (64 * u + v) = (aGP u v : Int)) → HW X 2 [some (.inr (.inr (some 60))), some (.inl (a : Int)), none, none, none, none] [] F I' J := by
    intro m
    induction m with
    | zero =>
      intro a I' ha hI hP
      refine zgo (fun pc => Nat.beq pc 12) 200 hX hR rfl ?_
      refine Exists.intro _ ⟨hs.o, ?_⟩
      rw [h7]
      refine And.intro (fun c1 => ?_) (fun c1 => by omega)
      exact ⟨rfl, rfl, rfl, hI, fun u v hu hv hd => hP u v hv (by omega) hd⟩
    | succ m ih =>
      intro a I' ha hI hP
      have h9 := loopB a (by omega) 61 0 I' (by omega) hI (fun u v hv hu hd => hP u v hv (by omega) hd) (fun I2 h1 h2 => ih (a + 1) I2 (by omega) h1 h2)
      refine zgo (fun pc => Nat.beq pc 12) 200 hX hR rfl ?_
      refine Exists.intro _ ⟨hs.o, ?_⟩
      rw [h7]
      refine And.intro (fun c1 => by omega) (fun c1 => ?_)
      exact h9
  refine zgo (fun pc => Nat.beq pc 2) 200 hX hR rfl ?_
  exact loopA 61 0 I rfl (fun _ _ => rfl) (fun u v hv hu hd => absurd hu (Nat.not_lt_zero u))
end REF
