/-! the reference: words, on -/
theorem c_X9_squaresRow (l : Launch) (D : va_G) (sh : Nat → Option zS) (hs : zWM sh) (F I : zFi) (J : zJi) (hb : mBg I) (hq : mSr I) {i x n : Nat} (hd : i + n ≤ 14) (hx : x < 2147483648) :
    Cn l D yX9_squaresRow wsX9_squaresRow mX9_squaresRow.2.2.2.2 sh [.inr (.inr (some 60)), .inl (i : Int), .inl (x : Int), .inl (n : Int)] F I J (zself F I J (.inl ((if i = 0 then x else rps mN aS i x (n : Int) : Nat) : Int))) := by
  obtain ⟨cA, h66⟩ := hs.a66
  obtain ⟨cB, h61⟩ := hs.a61
  have hr := dg_range (show n ≤ 14 by omega)
  have hsz : bsz aS (n : Int) = ((aS (n + 1) - aS n : Nat) : Int) := by
    unfold bsz
    rw [if_pos (by omega), Int.toNat_natCast]
    omega
  have hgl : ∀ k, k < aS (n + 1) - aS n → rRw i (aS n + k) < 512 := fun k hk => by
    have e := (hr.2.2.2 (aS n + k) (by omega)).mpr ⟨by omega, by omega⟩
    exact Nat.lt_of_lt_of_le (rRw_lt (by omega) (by rw [e]; exact hd)) (pow9 (by rw [e]; exact hd))
  refine zmet (M := mX9_squaresRow) rfl rfl rfl kX9_squaresRow (Nat.le_of_ble_eq_true rfl) (fun X hX hR' hl hD hsh => ?_)
  subst hl hD hsh
  by_cases h0 : i = 0
  · refine zgo (fun pc => Nat.beq pc 12) 200 hX hR' rfl ?_
    refine And.intro (fun c1 => by omega) (fun c1 => ?_)
    exact And.intro (by rw [if_pos h0]) ⟨rfl, rfl, rfl⟩
  · have hlt : ∀ k, k ≤ aS (n + 1) - aS n → xorN k (fun k => if x.testBit k then rRw i (aS n + k) else 0) < 512 := fun k hk => xorN_lt (m := 9) (fun j hj => by
      split
      · exact hgl _ (by omega)
      · decide)
    have loop : ∀ m k : Nat, k + m = aS (n + 1) - aS n → HW X 12 [some (.inr (.inr (some 60))), some (.inl (i : Int)), some (.inl (x : Int)), some (.inl (n : Int)), some (.inl (xorN k (fun k => if x.testBit k then rRw i (aS n + k) else 0) : Int)), some (.inl (k : Int))] [] F I J := by
      intro m
      induction m with
      | zero =>
        intro k hk
        refine zgo (fun pc => Nat.beq pc 12) 200 hX hR' rfl ?_
        refine qX9_squaresRow_87 hX (c_X9_manyOf (xl X) (xD X) (xsh X) hs F I J hb (x := n) (by omega)) hs.o (fun v F' I' J' hv => ?_)
        obtain ⟨rfl, rfl, rfl, rfl⟩ := hv
        rw [hsz]
        refine And.intro (fun c1 => ?_) (fun c1 => by omega)
        exact And.intro (by rw [if_neg h0, rps_eq (by omega), show k = aS (n + 1) - aS n by omega]) ⟨rfl, rfl, rfl⟩
      | succ m ih =>
        intro k hk
        have h := ih (k + 1) (by omega)
        rw [show ∀ f, xorN (k + 1) f = xorN k f ^^^ f k from fun _ => rfl] at h
        have hl1 := hlt k (by omega)
        have hb2 := zbit (x := x) (e := k) hx (by omega)
        refine zgo (fun pc => Nat.beq pc 12) 200 hX hR' rfl ?_
        refine qX9_squaresRow_87 hX (c_X9_manyOf (xl X) (xD X) (xsh X) hs F I J hb (x := n) (by omega)) hs.o (fun v F' I' J' hv => ?_)
        obtain ⟨rfl, rfl, rfl, rfl⟩ := hv
        rw [hsz]
        refine And.intro (fun c1 => by omega) (fun c1 => ?_)
        cases hxb : x.testBit k
        · rw [hxb, if_neg (by decide)] at h hb2
          rw [← zxor_eq (by omega) (by decide)] at h
          refine And.intro (fun c3 => h) (fun c3 => ?_)
          rw [hb2] at c3
          exact absurd c3 (by decide)
        · rw [hxb, if_pos rfl] at h hb2
          refine And.intro (fun c3 => by rw [hb2] at c3; exact absurd (by decide) c3) (fun c3 => ?_)
          have he := hq i (aS n + k) (by omega) (by omega) (by omega) (by rw [(hr.2.2.2 (aS n + k) (by omega)).mpr ⟨by omega, by omega⟩]; exact hd)
          have hg := hgl k (by omega)
          rw [← zxor_eq (by omega) (by omega), ← he] at h
          refine Exists.intro _ ⟨hs.o, ?_⟩
          refine Exists.intro _ ⟨hs.o, ?_⟩
          refine Exists.intro _ ⟨_, n, h61, rfl, by omega, ?_⟩
          refine Exists.intro _ ⟨_, 64 * i + (aS n + k), h66, (show (64 : Int) * (i : Int) + I' 61 n + (k : Int) = _ by rw [hb n (by omega)]; omega), by omega, ?_⟩
          exact h
    have l0 := loop (aS (n + 1) - aS n) 0 (by omega)
    refine zgo (fun pc => Nat.beq pc 12) 200 hX hR' rfl ?_
    exact And.intro (fun c1 => l0) (fun c1 => by omega)
theorem c_X9_wordDegree (l : Launch) (D : va_G) (sh : Nat → Option zS) (hs : zWM sh) (F I : zFi) (J : zJi) {ℓ : Nat} {c : Nat → Nat} (hw : RWd F I ℓ c) :
    Cn l D yX9_wordDegree wsX9_wordDegree mX9_wordDegree.2.2.2.2 sh [.inr (.inr (some 60))] F I J (zself F I J (.inl (ns ℓ c : Int))) := by
  obtain ⟨cA, h68⟩ := hs.a68
  obtain ⟨w1, w2, w3, w4⟩ := hw
  refine zmet (M := mX9_wordDegree) rfl rfl rfl kX9_wordDegree (Nat.le_of_ble_eq_true rfl) (fun X hX hR' hl hD hsh => ?_)
  subst hl hD hsh
  have loop : ∀ m k : Nat, k + m = ℓ → HW X 4 [some (.inr (.inr (some 60))), some (.inl (ns k c : Int)), some (.inl (k : Int))] [] F I J := by
    intro m
    induction m with
    | zero =>
      intro k hk
      refine zgo (fun pc => Nat.beq pc 4) 200 hX hR' rfl ?_
      refine Exists.intro _ ⟨hs.o, ?_⟩
      refine And.intro (fun c1 => ?_) (fun c1 => by rw [w1] at c1; omega)
      exact And.intro (by rw [show k = ℓ by omega]) ⟨rfl, rfl, rfl⟩
    | succ m ih =>
      intro k hk
      have h := ih (k + 1) (by omega)
      have h3 := ns_more c (k + 1) m
      rw [show k + 1 + m = ℓ by omega] at h3
      rw [show ns (k + 1) c = ns k c + c k from rfl] at h h3
      rw [show ((ns k c + c k : Nat) : Int) = (ns k c : Int) + (c k : Int) from rfl, ← w4 k (by omega)] at h
      have hck := w4 k (by omega)
      refine zgo (fun pc => Nat.beq pc 4) 200 hX hR' rfl ?_
      refine Exists.intro _ ⟨hs.o, ?_⟩
      refine And.intro (fun c1 => by rw [w1] at c1; omega) (fun c1 => ?_)
      refine Exists.intro _ ⟨hs.o, ?_⟩
      refine Exists.intro _ ⟨_, k, h68, rfl, by omega, ?_⟩
      exact h
  refine zgo (fun pc => Nat.beq pc 4) 200 hX hR' rfl ?_
  exact loop ℓ 0 (by omega)
theorem c_X9_square (l : Launch) (D : va_G) (sh : Nat → Option zS) (hs : zWM sh) (F I : zFi) (J : zJi) {ℓ : Nat} {c : Nat → Nat} (hw : RWd F I ℓ c) {i : Int} (hi : zi32 i) :
    Cn l D yX9_square wsX9_square mX9_square.2.2.2.2 sh [.inr (.inr (some 60)), .inl i] F I J (fun v F' I' J' => v = some (.inl (asq ℓ (ns ℓ c) i)) ∧ J' = J ∧ ((sqOK ℓ (ns ℓ c) i ∧ F' = zu F 60 8 ((ℓ : Int) + 1) ∧ I' = zu I 68 ℓ i) ∨ (¬ sqOK ℓ (ns ℓ c) i ∧ F' = F ∧ I' = I))) := by
  obtain ⟨cA, h68⟩ := hs.a68
  obtain ⟨w1, w2, w3, w4⟩ := id hw
  refine zmet (M := mX9_square) rfl rfl rfl kX9_square (Nat.le_of_ble_eq_true rfl) (fun X hX hR' hl hD hsh => ?_)
  subst hl hD hsh
  have g1 := hi
  unfold zi32 at g1
  refine zgo (fun _ => false) 200 hX hR' rfl ?_
  unfold asq
  refine qX9_square_122 hX (c_X9_in (xl X) (xD X) (xsh X) F I J (x := i) (lo := 0) (hi := 14) hi ⟨by omega, by omega⟩ ⟨by omega, by omega⟩) (fun v F' I' J' hv => ?_)
  obtain ⟨rfl, rfl, rfl, rfl⟩ := hv
  refine And.intro (fun c1 => ?_) (fun c1 => ?_)
  · have hi0 : ¬ (0 ≤ i ∧ i ≤ 14) := fun g => by rw [if_pos g] at c1; exact absurd c1 (by decide)
    exact And.intro (by rw [if_pos (by omega)]) ⟨rfl, Or.inr ⟨by omega, rfl, rfl⟩⟩
  have hi0 : 0 ≤ i ∧ i ≤ 14 := Decidable.byContradiction fun g => by rw [if_neg g] at c1; exact c1 rfl
  refine qX9_square_126 hX (c_X9_wordDegree (xl X) (xD X) (xsh X) hs F' I' J' hw) hs.o (fun v F2 I2 J2 hv => ?_)
  obtain ⟨rfl, rfl, rfl, rfl⟩ := hv
  refine And.intro (fun c2 => ?_) (fun c2 => ?_)
  · refine Exists.intro _ ⟨hs.o, ?_⟩
    refine And.intro (fun c3 => ?_) (fun c3 => ?_)
    · rw [w1] at c3
      refine Exists.intro _ ⟨hs.o, ?_⟩
      refine Exists.intro _ ⟨hs.o, ?_⟩
      refine Exists.intro _ ⟨_, ℓ, h68, w1, by omega, ?_⟩
      refine Exists.intro _ ⟨hs.o, ?_⟩
      refine Exists.intro _ ⟨hs.o, ?_⟩
      refine Exists.intro _ ⟨hs.o, ?_⟩
      refine And.intro ?_ ⟨rfl, Or.inl ⟨⟨by omega, by omega, by omega, by omega⟩, by rw [w1], rfl⟩⟩
      rw [if_neg (by omega), if_neg (by omega), zu_s, w1]
    · rw [w1] at c3
      exact And.intro (by rw [if_neg (by omega), if_pos (by omega)]) ⟨rfl, Or.inr ⟨by omega, rfl, rfl⟩⟩
  · exact And.intro (by rw [if_pos (by omega)]) ⟨rfl, Or.inr ⟨by omega, rfl, rfl⟩⟩
theorem c_X9_clear (l : Launch) (D : va_G) (sh : Nat → Option zS) (hs : zWM sh) (F I : zFi) (J : zJi) :
    Cn l D yX9_clear wsX9_clear mX9_clear.2.2.2.2 sh [.inr (.inr (some 60))] F I J (fun v F' I' J' => v = some (.inl (F 60 8)) ∧ F' = zu F 60 8 0 ∧ I' = I ∧ J' = J) := by
  refine zmet (M := mX9_clear) rfl rfl rfl kX9_clear (Nat.le_of_ble_eq_true rfl) (fun X hX hR' hl hD hsh => ?_)
  subst hl hD hsh
  refine zgo (fun _ => false) 200 hX hR' rfl ?_
  refine Exists.intro _ ⟨hs.o, ?_⟩
  refine Exists.intro _ ⟨hs.o, ?_⟩
  exact And.intro rfl ⟨rfl, rfl, rfl⟩
theorem c_X9_sumOf (l : Launch) (D : va_G) (sh : Nat → Option zS) (hs : zWM sh) (F I : zFi) (J : zJi) (hb : mBg I) (hq : mSq I) (hq2 : mSr I) {ℓ : Nat} {c : Nat → Nat} (hw : RWd F I ℓ c) {what : Int} (hi : zi32 what) :
    Cn l D yX9_sumOf wsX9_sumOf mX9_sumOf.2.2.2.2 sh [.inr (.inr (some 60)), .inl what] F I J (zself F I J (.inl (wsm ℓ c what : Int))) := by
  obtain ⟨cA, h68⟩ := hs.a68
  obtain ⟨w1, w2, w3, w4⟩ := id hw
  have g1 := hi
  unfold zi32 at g1
  refine zmet (M := mX9_sumOf) rfl rfl rfl kX9_sumOf (Nat.le_of_ble_eq_true rfl) (fun X hX hR' hl hD hsh => ?_)
  subst hl hD hsh
  by_cases h0 : what = 0
  · have loop : ∀ m j, j + m = ℓ → HW X 12 [some (.inr (.inr (some 60))), some (.inl what), some (.inl ((wsA ℓ c j).1 : Int)), some (.inl ((wsA ℓ c j).2 : Int)), some (.inl ((m : Int) - 1))] [] F I J := by
      intro m
      induction m with
      | zero =>
        intro j hj
        refine zgo (fun pc => Nat.beq pc 12) 200 hX hR' rfl ?_
        refine And.intro (fun c1 => ?_) (fun c1 => absurd (by decide) c1)
        exact And.intro (by unfold wsm; rw [if_pos h0, show j = ℓ by omega]) ⟨rfl, rfl, rfl⟩
      | succ m ih =>
        intro j hj
        have h := ih (j + 1) (by omega)
        have hk : ℓ - 1 - j = m := by omega
        have hck := w4 m (by omega)
        have hlt := wsA_ltw w3 j (by omega)
        have hn14 := ns_c w3 (show j < ℓ by omega)
        rw [← wsA_2, hk] at hn14
        have h9 := pow9 (n := (wsA ℓ c j).2) (by omega)
        have cT := c_X9_squares (xl X) (xD X) (xsh X) hs F I J hb hq (i := c m) (x := (wsA ℓ c j).1) (n := (wsA ℓ c j).2) (by omega) (by omega)
        rw [show (wsA ℓ c (j + 1)).1 = sqs aGP aS (c (ℓ - 1 - j) : Int) (wsA ℓ c j).1 ((wsA ℓ c j).2 : Int) from rfl, show (wsA ℓ c (j + 1)).2 = (wsA ℓ c j).2 + c (ℓ - 1 - j) from rfl, hk] at h
        have e0 : (if c m = 0 then (wsA ℓ c j).1 else sqs aGP aS (c m : Int) (wsA ℓ c j).1 ((wsA ℓ c j).2 : Int)) = sqs aGP aS (c m : Int) (wsA ℓ c j).1 ((wsA ℓ c j).2 : Int) := by
          split
          · rename_i z
            rw [z]
            exact (sqs_0 (by omega) hlt).symm
          · rfl
        rw [e0] at cT
        rw [show (((wsA ℓ c j).2 + c m : Nat) : Int) = ((wsA ℓ c j).2 : Int) + (c m : Int) from rfl] at h
        have h2 : HW X 12 [some (.inr (.inr (some 60))), some (.inl what), some (.inl (sqs aGP aS (c m : Int) (wsA ℓ c j).1 ((wsA ℓ c j).2 : Int) : Int)), some (.inl (((wsA ℓ c j).2 : Int) + I 68 m)), some (.inl ((m : Int) - 1))] [] F I J := by
          rw [hck]
          exact h
        rw [← hck] at cT
        rw [show ((m + 1 : Nat) : Int) - 1 = (m : Int) by omega]
        refine zgo (fun pc => Nat.beq pc 12) 200 hX hR' rfl ?_
        refine And.intro (fun c1 => by omega) (fun c1 => ?_)
        refine And.intro (fun c2 => by omega) (fun c2 => ?_)
        refine Exists.intro _ ⟨hs.o, ?_⟩
        refine Exists.intro _ ⟨_, m, h68, rfl, by omega, ?_⟩
        refine qX9_sumOf_103 hX cT hs.o (fun v F' I' J' hv => ?_)
        obtain ⟨rfl, rfl, rfl, rfl⟩ := hv
        refine Exists.intro _ ⟨hs.o, ?_⟩
        refine Exists.intro _ ⟨_, m, h68, rfl, by omega, ?_⟩
        rw [hck]
        rw [hck] at h2
        exact h2
    have hl0 := loop ℓ 0 (by omega)
    refine zgo (fun pc => Nat.beq pc 12) 200 hX hR' rfl ?_
    refine Exists.intro _ ⟨hs.o, ?_⟩
    rw [w1]
    exact hl0
  · have loop : ∀ m j, j + m = ℓ → HW X 12 [some (.inr (.inr (some 60))), some (.inl what), some (.inl ((wsR ℓ c j).1 : Int)), some (.inl ((wsR ℓ c j).2 : Int)), some (.inl ((m : Int) - 1))] [] F I J := by
      intro m
      induction m with
      | zero =>
        intro j hj
        refine zgo (fun pc => Nat.beq pc 12) 200 hX hR' rfl ?_
        refine And.intro (fun c1 => ?_) (fun c1 => absurd (by decide) c1)
        exact And.intro (by unfold wsm; rw [if_neg h0, show j = ℓ by omega]) ⟨rfl, rfl, rfl⟩
      | succ m ih =>
        intro j hj
        have h := ih (j + 1) (by omega)
        have hk : ℓ - 1 - j = m := by omega
        have hck := w4 m (by omega)
        have hlt := wsR_ltw w3 j (by omega)
        have hn14 := ns_c w3 (show j < ℓ by omega)
        rw [← wsR_2, hk] at hn14
        have h9 := pow9 (n := (wsR ℓ c j).2) (by omega)
        have cT := c_X9_squaresRow (xl X) (xD X) (xsh X) hs F I J hb hq2 (i := c m) (x := (wsR ℓ c j).1) (n := (wsR ℓ c j).2) (by omega) (by omega)
        rw [show (wsR ℓ c (j + 1)).1 = rps mN aS (c (ℓ - 1 - j)) (wsR ℓ c j).1 ((wsR ℓ c j).2 : Int) from rfl, show (wsR ℓ c (j + 1)).2 = (wsR ℓ c j).2 + c (ℓ - 1 - j) from rfl, hk] at h
        have e0 : (if c m = 0 then (wsR ℓ c j).1 else rps mN aS (c m) (wsR ℓ c j).1 ((wsR ℓ c j).2 : Int)) = rps mN aS (c m) (wsR ℓ c j).1 ((wsR ℓ c j).2 : Int) := by
          split
          · rename_i z
            rw [z]
            exact (rps_0 (by omega) hlt).symm
          · rfl
        rw [e0] at cT
        rw [show (((wsR ℓ c j).2 + c m : Nat) : Int) = ((wsR ℓ c j).2 : Int) + (c m : Int) from rfl] at h
        have h2 : HW X 12 [some (.inr (.inr (some 60))), some (.inl what), some (.inl (rps mN aS (c m) (wsR ℓ c j).1 ((wsR ℓ c j).2 : Int) : Int)), some (.inl (((wsR ℓ c j).2 : Int) + I 68 m)), some (.inl ((m : Int) - 1))] [] F I J := by
          rw [hck]
          exact h
        rw [← hck] at cT
        rw [show ((m + 1 : Nat) : Int) - 1 = (m : Int) by omega]
        refine zgo (fun pc => Nat.beq pc 12) 200 hX hR' rfl ?_
        refine And.intro (fun c1 => by omega) (fun c1 => ?_)
        refine And.intro (fun c2 => ?_) (fun c2 => by omega)
        refine Exists.intro _ ⟨hs.o, ?_⟩
        refine Exists.intro _ ⟨_, m, h68, rfl, by omega, ?_⟩
        refine qX9_sumOf_130 hX cT hs.o (fun v F' I' J' hv => ?_)
        obtain ⟨rfl, rfl, rfl, rfl⟩ := hv
        refine Exists.intro _ ⟨hs.o, ?_⟩
        refine Exists.intro _ ⟨_, m, h68, rfl, by omega, ?_⟩
        rw [hck]
        rw [hck] at h2
        exact h2
    have hl0 := loop ℓ 0 (by omega)
    refine zgo (fun pc => Nat.beq pc 12) 200 hX hR' rfl ?_
    refine Exists.intro _ ⟨hs.o, ?_⟩
    rw [w1]
    exact hl0
