/-! the reference: spaces -/
theorem c_X9_isOdd (l : Launch) (D : va_G) (sh : Nat → Option zS) (F I : zFi) (J : zJi) {n k : Int} (h1 : zi32 n) (h2 : zi32 k) :
    Cn l D yX9_isOdd wsX9_isOdd mX9_isOdd.2.2.2.2 sh [.inl n, .inl k] F I J (zself F I J (.inl (zodd n k))) := by
  refine zmet (M := mX9_isOdd) rfl rfl rfl kX9_isOdd (Nat.le_of_ble_eq_true rfl) (fun X hX hR hl hD hsh => ?_)
  subst hl hD hsh
  have g1 := h1
  have g2 := h2
  unfold zi32 at g1 g2
  refine zgo (fun _ => false) 200 hX hR rfl ?_
  unfold zodd
  refine And.intro (fun c1 => ?_) (fun c1 => ?_)
  · exact And.intro (Or.inl rfl) ⟨by rw [if_neg (by omega)], rfl, rfl, rfl⟩
  refine And.intro (fun c2 => ?_) (fun c2 => ?_)
  · refine And.intro (Or.inl rfl) ⟨?_, rfl, rfl, rfl⟩
    rw [if_neg]
    intro h
    have h3 : n.toNat &&& k.toNat ≤ n.toNat := Nat.and_le_left
    have h4 := h.2.2
    omega
  obtain ⟨n', rfl⟩ := Int.eq_ofNat_of_zero_le (show 0 ≤ n by omega)
  have e := zsubm h2 (r := n') (by omega)
  have hz : zi32 (zand k (zxor (n' : Int) (-1))) := zand_32 _ _
  unfold zi32 at hz
  refine And.intro (fun c3 => ?_) (fun c3 => ?_)
  · refine And.intro (Or.inl rfl) ⟨?_, rfl, rfl, rfl⟩
    rw [if_neg]
    intro h
    refine c3 ?_
    rw [e.mpr ⟨k.toNat, by omega, by
      have h4 := h.2.2
      rw [Int.toNat_natCast] at h4
      rw [Nat.and_comm]
      exact h4⟩]
    rfl
  · obtain ⟨x, hx, hx2⟩ := e.mp (by omega)
    subst hx
    refine And.intro (Or.inr rfl) ⟨?_, rfl, rfl, rfl⟩
    rw [if_pos]
    refine ⟨by omega, by omega, ?_⟩
    simp only [Int.toNat_natCast]
    rw [Nat.and_comm]
    exact hx2
def chF (F : zFi) : zFi := zu (zu F 60 13 0) 60 17 0
theorem c_X9_changes (l : Launch) (D : va_G) (sh : Nat → Option zS) (hs : zWM sh) (F I : zFi) (J : zJi) :
    Cn l D yX9_changes wsX9_changes mX9_changes.2.2.2.2 sh [.inr (.inr (some 60))] F I J (fun v F' I' J' => v = none ∧ F' = chF F ∧ I' = zfill I 74 0 450 0 ∧ J' = J) := by
  obtain ⟨cA, h74⟩ := hs.a74
  refine zmet (M := mX9_changes) rfl rfl rfl kX9_changes (Nat.le_of_ble_eq_true rfl) (fun X hX hR' hl hD hsh => ?_)
  subst hl hD hsh
  have loop : ∀ m k : Nat, k + m = 450 → HW X 12 [some (.inr (.inr (some 60))), some (.inl (k : Int))] [] (chF F) (zfill I 74 0 k 0) J := by
    intro m
    induction m with
    | zero =>
      intro k hk
      refine zgo (fun pc => Nat.beq pc 12) 200 hX hR' rfl ?_
      refine And.intro (fun c1 => ?_) (fun c1 => by omega)
      exact And.intro rfl ⟨rfl, by rw [show k = 450 by omega], rfl⟩
    | succ m ih =>
      intro k hk
      have h := ih (k + 1) (by omega)
      rw [← zfill_step I 74 0 k 0 (Nat.zero_le _)] at h
      refine zgo (fun pc => Nat.beq pc 12) 200 hX hR' rfl ?_
      refine And.intro (fun c1 => by omega) (fun c1 => ?_)
      refine Exists.intro _ ⟨hs.o, ?_⟩
      refine Exists.intro _ ⟨_, k, h74, rfl, by omega, ?_⟩
      exact h
  have h0 := loop 450 0 (by decide)
  rw [zfill_0] at h0
  refine zgo (fun pc => Nat.beq pc 12) 200 hX hR' rfl ?_
  refine Exists.intro _ ⟨hs.o, Or.inl rfl, ?_⟩
  refine Exists.intro _ ⟨hs.o, ?_⟩
  exact h0
theorem c_X9_empty (l : Launch) (D : va_G) (sh : Nat → Option zS) (hs : zWM sh) (F I : zFi) (J : zJi) :
    Cn l D yX9_empty wsX9_empty mX9_empty.2.2.2.2 sh [.inr (.inr (some 60))] F I J (fun v F' I' J' => v = some (.inl (F 60 10)) ∧ F' = chF (zu F 60 10 0) ∧ I' = zfill I 74 0 450 0 ∧ J' = J) := by
  refine zmet (M := mX9_empty) rfl rfl rfl kX9_empty (Nat.le_of_ble_eq_true rfl) (fun X hX hR' hl hD hsh => ?_)
  subst hl hD hsh
  refine zgo (fun _ => false) 200 hX hR' rfl ?_
  refine Exists.intro _ ⟨hs.o, ?_⟩
  refine Exists.intro _ ⟨hs.o, ?_⟩
  refine qX9_empty_149 hX (c_X9_changes (xl X) (xD X) (xsh X) hs _ I J) hs.o (fun v F3 I3 J3 hv => ?_)
  obtain ⟨rfl, rfl, rfl, rfl⟩ := hv
  exact And.intro rfl ⟨rfl, rfl, rfl⟩
/-- one element more -/
def cmF (F : zFi) (n : Nat) : zFi := zu F 60 10 ((n + 1 : Nat) : Int)
def cmI (I : zFi) (n : Nat) (d : Int) : zFi := zfill (zu I 69 n d) 70 (13 * n) (13 * n + 13) 0
theorem c_X9_comes (l : Launch) (D : va_G) (sh : Nat → Option zS) (hs : zWM sh) (F I : zFi) (J : zJi) {n : Nat} (hn : F 60 10 = (n : Int)) (hn2 : n < 12) (d : Int) :
    Cn l D yX9_comes wsX9_comes mX9_comes.2.2.2.2 sh [.inr (.inr (some 60)), .inl d] F I J (fun v F' I' J' => v = none ∧ F' = cmF F n ∧ I' = cmI I n d ∧ J' = J) := by
  obtain ⟨cA, h69⟩ := hs.a69
  obtain ⟨cB, h70⟩ := hs.a70
  refine zmet (M := mX9_comes) rfl rfl rfl kX9_comes (Nat.le_of_ble_eq_true rfl) (fun X hX hR' hl hD hsh => ?_)
  subst hl hD hsh
  have loop : ∀ m k : Nat, k + m = 13 → HW X 12 [some (.inr (.inr (some 60))), some (.inl d), some (.inl (k : Int))] [] F (zfill (zu I 69 n d) 70 (13 * n) (13 * n + k) 0) J := by
    intro m
    induction m with
    | zero =>
      intro k hk
      refine zgo (fun pc => Nat.beq pc 12) 200 hX hR' rfl ?_
      refine And.intro (fun c1 => ?_) (fun c1 => by omega)
      refine Exists.intro _ ⟨hs.o, ?_⟩
      refine Exists.intro _ ⟨hs.o, ?_⟩
      refine And.intro rfl ⟨?_, by rw [show k = 13 by omega]; rfl, rfl⟩
      rw [hn]
      rfl
    | succ m ih =>
      intro k hk
      have h := ih (k + 1) (by omega)
      rw [show 13 * n + (k + 1) = 13 * n + k + 1 from rfl, ← zfill_step (zu I 69 n d) 70 (13 * n) (13 * n + k) 0 (by omega)] at h
      refine zgo (fun pc => Nat.beq pc 12) 200 hX hR' rfl ?_
      refine And.intro (fun c1 => by omega) (fun c1 => ?_)
      refine Exists.intro _ ⟨hs.o, ?_⟩
      refine Exists.intro _ ⟨hs.o, ?_⟩
      refine Exists.intro _ ⟨_, 13 * n + k, h70, by rw [hn]; omega, by omega, ?_⟩
      exact h
  have h0 := loop 13 0 (by decide)
  rw [Nat.add_zero, zfill_0] at h0
  refine zgo (fun pc => Nat.beq pc 12) 200 hX hR' rfl ?_
  refine Exists.intro _ ⟨hs.o, ?_⟩
  refine Exists.intro _ ⟨hs.o, ?_⟩
  refine Exists.intro _ ⟨_, n, h69, hn, hn2, ?_⟩
  exact h0
theorem c_X9_element (l : Launch) (D : va_G) (sh : Nat → Option zS) (hs : zWM sh) (F I : zFi) (J : zJi) {n : Nat} (hn : F 60 10 = (n : Int)) (hn2 : n ≤ 12) {d : Int} (hd : zi32 d) :
    Cn l D yX9_element wsX9_element mX9_element.2.2.2.2 sh [.inr (.inr (some 60)), .inl d] F I J (fun v F' I' J' => J' = J ∧ (((d < 0 ∨ 12 < d) ∧ v = some (.inl (-1)) ∧ F' = F ∧ I' = I) ∨ ((0 ≤ d ∧ d ≤ 12) ∧ 12 ≤ n ∧ v = some (.inl (-3)) ∧ F' = F ∧ I' = I) ∨ ((0 ≤ d ∧ d ≤ 12) ∧ n < 12 ∧ v = some (.inl (n : Int)) ∧ F' = chF (cmF F n) ∧ I' = zfill (cmI I n d) 74 0 450 0))) := by
  refine zmet (M := mX9_element) rfl rfl rfl kX9_element (Nat.le_of_ble_eq_true rfl) (fun X hX hR' hl hD hsh => ?_)
  subst hl hD hsh
  have g1 := hd
  unfold zi32 at g1
  refine zgo (fun _ => false) 200 hX hR' rfl ?_
  refine qX9_element_122 hX (c_X9_in (xl X) (xD X) (xsh X) F I J (x := d) (lo := 0) (hi := 12) hd ⟨by omega, by omega⟩ ⟨by omega, by omega⟩) (fun v F' I' J' hv => ?_)
  obtain ⟨rfl, rfl, rfl, rfl⟩ := hv
  refine And.intro (fun c1 => ?_) (fun c1 => ?_)
  · have hi0 : 0 ≤ d ∧ d ≤ 12 := Decidable.byContradiction fun g => by rw [if_neg g] at c1; exact c1 rfl
    refine Exists.intro _ ⟨hs.o, ?_⟩
    refine And.intro (fun c2 => ?_) (fun c2 => ?_)
    · rw [hn] at c2
      refine qX9_element_152 hX (c_X9_comes (xl X) (xD X) (xsh X) hs F' I' J' hn (by omega) d) hs.o (fun v F2 I2 J2 hv => ?_)
      obtain ⟨rfl, rfl, rfl, rfl⟩ := hv
      refine qX9_element_149 hX (c_X9_changes (xl X) (xD X) (xsh X) hs _ _ J2) hs.o (fun v F3 I3 J3 hv => ?_)
      obtain ⟨rfl, rfl, rfl, rfl⟩ := hv
      refine Exists.intro _ ⟨hs.o, ?_⟩
      refine And.intro rfl (Or.inr (Or.inr ⟨hi0, by omega, ?_, rfl, rfl⟩))
      unfold chF cmF
      rw [zu_n (by omega), zu_n (by omega), zu_s]
      congr 2
      omega
    · rw [hn] at c2
      exact And.intro rfl (Or.inr (Or.inl ⟨hi0, by omega, rfl, rfl, rfl⟩))
  · have hi0 : ¬ (0 ≤ d ∧ d ≤ 12) := fun g => by rw [if_pos g] at c1; exact absurd c1 (by decide)
    exact And.intro rfl (Or.inl ⟨by omega, rfl, rfl, rfl⟩)
theorem c_X9_ofDegree (l : Launch) (D : va_G) (sh : Nat → Option zS) (hs : zWM sh) (F I : zFi) (J : zJi) {n : Nat} {A : Nat → Nat → Nat} {de : Nat → Nat} (hm : RSp F I n A de) {d : Int} (hd : zi32 d) :
    Cn l D yX9_ofDegree wsX9_ofDegree mX9_ofDegree.2.2.2.2 sh [.inr (.inr (some 60)), .inl d] F I J (zself F I J (.inl (sod (fun a => (de a : Int)) d n : Int))) := by
  obtain ⟨cA, h69⟩ := hs.a69
  obtain ⟨m1, m2, m3, m4⟩ := hm
  unfold zi32 at hd
  refine zmet (M := mX9_ofDegree) rfl rfl rfl kX9_ofDegree (Nat.le_of_ble_eq_true rfl) (fun X hX hR' hl hD hsh => ?_)
  subst hl hD hsh
  have loop : ∀ k e : Nat, e + k = n → HW X 4 [some (.inr (.inr (some 60))), some (.inl d), some (.inl (sod (fun a => (de a : Int)) d e : Int)), some (.inl (e : Int))] [] F I J := by
    intro k
    induction k with
    | zero =>
      intro e he
      refine zgo (fun pc => Nat.beq pc 4) 200 hX hR' rfl ?_
      refine Exists.intro _ ⟨hs.o, ?_⟩
      refine And.intro (fun c1 => ?_) (fun c1 => by rw [m1] at c1; omega)
      exact And.intro (by rw [show e = n by omega]) ⟨rfl, rfl, rfl⟩
    | succ k ih =>
      intro e he
      have h2 := ih (e + 1) (by omega)
      have hlt := sod_lt (fun a => (de a : Int)) d e
      have hlt2 : 2 ^ e ≤ 2 ^ 12 := Nat.pow_le_pow_right (by decide) (by omega)
      obtain ⟨d1, d2⟩ := m3 e (by omega)
      rw [sod_succ] at h2
      refine zgo (fun pc => Nat.beq pc 4) 200 hX hR' rfl ?_
      refine Exists.intro _ ⟨hs.o, ?_⟩
      refine And.intro (fun c1 => by rw [m1] at c1; omega) (fun c1 => ?_)
      refine Exists.intro _ ⟨hs.o, ?_⟩
      refine Exists.intro _ ⟨_, e, h69, rfl, by omega, ?_⟩
      refine And.intro (fun c2 => ?_) (fun c2 => ?_)
      · rw [d1] at c2
        rw [if_neg (by omega)] at h2
        rw [Nat.add_zero, ← Nat.or_zero (sod (fun a => (de a : Int)) d e), ← zor_eq (by omega) (by decide)] at h2
        exact h2
      · rw [d1] at c2
        rw [if_pos (by omega), ← zor_bit hlt (by omega), ← zshl1 (by omega)] at h2
        exact h2
  refine zgo (fun pc => Nat.beq pc 4) 200 hX hR' rfl ?_
  exact loop n 0 (by omega)
theorem c_X9_isElement (l : Launch) (D : va_G) (sh : Nat → Option zS) (hs : zWM sh) (F I : zFi) (J : zJi) {n : Nat} (hn : F 60 10 = (n : Int)) (hn2 : n ≤ 12) {e : Int} (he : zi32 e) :
    Cn l D yX9_isElement wsX9_isElement mX9_isElement.2.2.2.2 sh [.inr (.inr (some 60)), .inl e] F I J (zself F I J (.inl (if 0 ≤ e ∧ e < n then 1 else 0))) := by
  have cI := c_X9_in l D sh F I J (x := e) (lo := 0) (hi := F 60 10 - 1) he ⟨by omega, by omega⟩ ⟨by omega, by omega⟩
  refine zmet (M := mX9_isElement) rfl rfl rfl kX9_isElement (Nat.le_of_ble_eq_true rfl) (fun X hX hR' hl hD hsh => ?_)
  subst hl hD hsh
  refine zgo (fun _ => false) 200 hX hR' rfl ?_
  refine Exists.intro _ ⟨hs.o, ?_⟩
  refine qX9_isElement_122 hX cI (fun v F' I' J' hv => ?_)
  obtain ⟨rfl, rfl, rfl, rfl⟩ := hv
  rw [hn]
  by_cases h : 0 ≤ e ∧ e < n
  · refine And.intro (Or.inr (if_pos (by omega))) ⟨?_, rfl, rfl, rfl⟩
    rw [if_pos (show 0 ≤ e ∧ e ≤ (n : Int) - 1 by omega), if_pos h]
  · refine And.intro (Or.inl (if_neg (by omega))) ⟨?_, rfl, rfl, rfl⟩
    rw [if_neg (show ¬ (0 ≤ e ∧ e ≤ (n : Int) - 1) by omega), if_neg h]
