/-! Space: spread -/
def spD (I : zFi) (dg m T k : Nat) : zFi := fun q j => if q = dg ∧ j < k - m then ((T * (m + j) : Nat) : Int) else I q j
abbrev spC (m n T k i j : Nat) : Prop := j % 13 % T = 0 ∧ 1 ≤ j % 13 / T ∧ j / 13 + m + j % 13 / T ≤ n ∧ (j / 13 + m) &&& (j % 13 / T) = j % 13 / T ∧ (j / 13 + m < k ∨ (j / 13 + m = k ∧ j % 13 / T < i))
def spV (m n T k i j : Nat) : Int := if spC m n T k i j then ((2 ^ (j / 13 + j % 13 / T) : Nat) : Int) else 0
def spF (I : zFi) (ac m n T k i : Nat) : zFi := fun q j => if q = ac ∧ j < 156 then spV m n T k i j else I q j
theorem spD_step {I : zFi} {dg m T k : Nat} (h : m ≤ k) : zu (spD I dg m T k) dg (k - m) ((T * k : Nat) : Int) = spD I dg m T (k + 1) := by
  funext q j
  unfold zu spD
  by_cases h1 : q = dg ∧ j = k - m
  · rw [if_pos h1, if_pos ⟨h1.1, by omega⟩, show m + j = k by omega]
  · rw [if_neg h1]
    by_cases h2 : q = dg ∧ j < k - m
    · rw [if_pos h2, if_pos ⟨h2.1, by omega⟩]
    · rw [if_neg h2, if_neg (fun z => by
        by_cases hj : j = k - m
        · exact h1 ⟨z.1, hj⟩
        · exact h2 ⟨z.1, by omega⟩)]
theorem spF_congr {I : zFi} {ac m n T k i k' i' : Nat} (h : ∀ j, j < 156 → (spC m n T k i j ↔ spC m n T k' i' j)) : spF I ac m n T k i = spF I ac m n T k' i' := by
  funext q j
  unfold spF
  by_cases hj : q = ac ∧ j < 156
  · rw [if_pos hj, if_pos hj]
    unfold spV
    by_cases hc : spC m n T k i j
    · rw [if_pos hc, if_pos ((h j hj.2).mp hc)]
    · rw [if_neg hc, if_neg (fun z => hc ((h j hj.2).mpr z))]
  · rw [if_neg hj, if_neg hj]
theorem spF_set {I : zFi} {ac m n T k i : Nat} (hT : T = 1 ∨ T = 2) (hm : m ≤ k) (hi : 1 ≤ i) (hk : k + i ≤ n) (hn : n ≤ 12) (hnm : n - m < 12) (hTi : T * i ≤ 12) (ho : k &&& i = i) : zu (spF I ac m n T k i) ac ((k - m) * 13 + T * i) ((2 ^ (k + i - m) : Nat) : Int) = spF I ac m n T k (i + 1) := by
  have hd : T * i % T = 0 ∧ T * i / T = i := by rcases hT with rfl | rfl <;> omega
  funext q j
  unfold zu spF
  by_cases h1 : q = ac ∧ j = (k - m) * 13 + T * i
  · obtain ⟨h1, h2⟩ := h1
    have e1 : j / 13 = k - m := by omega
    have e2 : j % 13 = T * i := by omega
    rw [if_pos ⟨h1, h2⟩, if_pos ⟨h1, by omega⟩]
    unfold spV
    have hc : spC m n T k (i + 1) j := by
      unfold spC
      rw [e1, e2, hd.1, hd.2, show k - m + m = k by omega]
      exact ⟨rfl, hi, hk, ho, Or.inr ⟨rfl, by omega⟩⟩
    rw [if_pos hc, e1, e2, hd.2, show k - m + i = k + i - m by omega]
  · rw [if_neg h1]
    by_cases h2 : q = ac ∧ j < 156
    · rw [if_pos h2, if_pos h2]
      unfold spV
      have hne : j ≠ (k - m) * 13 + T * i := fun z => h1 ⟨h2.1, z⟩
      have hiff : spC m n T k i j ↔ spC m n T k (i + 1) j := by
        unfold spC
        constructor
        · rintro ⟨a, b, c, d, e⟩
          exact ⟨a, b, c, d, by omega⟩
        · rintro ⟨a, b, c, d, e⟩
          refine ⟨a, b, c, d, ?_⟩
          rcases hT with rfl | rfl <;> omega
      by_cases hc : spC m n T k i j
      · rw [if_pos hc, if_pos (hiff.mp hc)]
      · rw [if_neg hc, if_neg (fun z => hc (hiff.mpr z))]
    · rw [if_neg h2, if_neg h2]
theorem spF_skip {I : zFi} {ac m n T k i : Nat} (hT : T = 1 ∨ T = 2) (ho : ¬ k &&& i = i) : spF I ac m n T k i = spF I ac m n T k (i + 1) := by
  apply spF_congr
  intro j hj
  unfold spC
  constructor
  · rintro ⟨a, b, c, d, e⟩
    exact ⟨a, b, c, d, by omega⟩
  · rintro ⟨a, b, c, d, e⟩
    refine ⟨a, b, c, d, ?_⟩
    rcases e with e | ⟨e, f⟩
    · exact Or.inl e
    · refine Or.inr ⟨e, ?_⟩
      rcases Nat.lt_or_ge (j % 13 / T) i with g | g
      · exact g
      · have : j % 13 / T = i := by omega
        rw [e, this] at d
        exact absurd d ho
theorem spF_next {I : zFi} {ac m n T k i : Nat} (hT : T = 1 ∨ T = 2) (h : n < k + i ∨ 12 < T * i) : spF I ac m n T k i = spF I ac m n T (k + 1) 1 := by
  apply spF_congr
  intro j hj
  unfold spC
  constructor
  · rintro ⟨a, b, c, d, e⟩
    exact ⟨a, b, c, d, by omega⟩
  · rintro ⟨a, b, c, d, e⟩
    refine ⟨a, b, c, d, ?_⟩
    rcases hT with rfl | rfl <;> omega
theorem c_X5_spread (l : Launch) (D : va_G) (sh : Nat → Option zS) {p dg ac fa : Nat} (hs : zsSp sh p dg ac fa) (F I : zFi) (J : zJi) {m n T : Nat} (hT : T = 1 ∨ T = 2) (hm : m ≤ n) (hn : n ≤ 12) (hnm : n - m < 12) (hTn : T * n ≤ 12) :
    Cn l D yX5_spread wsX5_spread mX5_spread.2.2.2.2 sh [.inr (.inr (some p)), .inl (m : Int), .inl (n : Int), .inl (T : Int)] F I J (fun v F' I' J' => v = none ∧ F' = zu (zu F p 3 ((n + 1 - m : Nat) : Int)) p 4 0 ∧ I' = spF (spD (zfill I ac 0 156 0) dg m T (n + 1)) ac m n T (n + 1) 1 ∧ J' = J) := by
  have hne : dg ≠ ac := by
    obtain ⟨cA, hA⟩ := hs.2.1
    obtain ⟨cB, hB⟩ := hs.2.2.1
    intro z
    rw [z, hB] at hA
    cases hA
  have hF : ∀ x y : Int, zu (zu (zu (zu F p 3 x) p 4 0) p 3 y) p 4 0 = zu (zu F p 3 y) p 4 0 := by
    intro x y
    funext a b
    unfold zu
    by_cases h1 : a = p ∧ b = 4
    · rw [if_pos h1, if_pos h1]
    · rw [if_neg h1, if_neg h1]
      by_cases h2 : a = p ∧ b = 3
      · rw [if_pos h2, if_pos h2, if_neg h1]
      · rw [if_neg h2, if_neg h2, if_neg h1, if_neg h2]
  refine zmet (M := mX5_spread) rfl rfl rfl kX5_spread (Nat.le_of_ble_eq_true rfl) (fun X hX hR hl hD hsh => ?_)
  subst hl hD hsh
  have inner : ∀ k : Nat, m ≤ k → k ≤ n → (∀ li, HW X 31 [some (.inr (.inr (some p))), some (.inl (m : Int)), some (.inl (n : Int)), some (.inl (T : Int)), some (.inl ((k + 1 : Nat) : Int)), li] [] (zu (zu F p 3 ((n + 1 - m : Nat) : Int)) p 4 0) (spF (spD (zfill I ac 0 156 0) dg m T (n + 1)) ac m n T (k + 1) 1) J) →
      ∀ r i : Nat, 1 ≤ i → k + i + r = n + 1 → HW X 40 [some (.inr (.inr (some p))), some (.inl (m : Int)), some (.inl (n : Int)), some (.inl (T : Int)), some (.inl (k : Int)), some (.inl (i : Int))] [] (zu (zu F p 3 ((n + 1 - m : Nat) : Int)) p 4 0) (spF (spD (zfill I ac 0 156 0) dg m T (n + 1)) ac m n T k i) J := by
    intro k hk1 hk2 hnext r
    induction r with
    | zero =>
      intro i hi hr
      have h3 := hnext (some (.inl (i : Int)))
      rw [← spF_next (i := i) hT (Or.inl (by omega))] at h3
      refine zgo (fun pc => Nat.beq pc 40 || Nat.beq pc 31) 200 hX hR rfl ?_
      refine And.intro (fun c1 => h3) (fun c1 => by omega)
    | succ r ih =>
      intro i hi hr
      have hTi : zi32 ((T : Int) * i) ∧ (T : Int) * i = ((T * i : Nat) : Int) ∧ T * i ≤ 30 := by
        unfold zi32
        rcases hT with rfl | rfl <;> omega
      refine zgo (fun pc => Nat.beq pc 40 || Nat.beq pc 31) 200 hX hR rfl ?_
      refine And.intro (fun c1 => by omega) (fun c1 => ?_)
      refine And.intro (fun c2 => ?_) (fun c2 => ?_)
      · rw [hTi.2.1] at c2
        have h3 := hnext (some (.inl (i : Int)))
        rw [← spF_next (i := i) hT (Or.inr (by omega))] at h3
        exact h3
      rw [hTi.2.1] at c2
      refine qX5_spread_46 hX (c_X8_isOdd (xl X) (xD X) (xsh X) _ _ J (n := (k : Int)) (k := (i : Int)) ⟨by omega, by omega⟩ ⟨by omega, by omega⟩) (fun v F' I' J' hv => ?_)
      obtain ⟨rfl, rfl, rfl, rfl⟩ := hv
      have h4 := ih (i + 1) (by omega) (by omega)
      have hz : zodd (k : Int) (i : Int) = if k &&& i = i then 1 else 0 := by
        unfold zodd
        rw [Int.toNat_natCast, Int.toNat_natCast]
        by_cases h : k &&& i = i
        · rw [if_pos h, if_pos ⟨by omega, by omega, h⟩]
        · rw [if_neg h, if_neg (fun z => h z.2.2)]
      rw [hz]
      by_cases ho : k &&& i = i
      · rw [if_pos ho]
        refine And.intro (fun c3 => absurd c3 (by decide)) (fun c3 => ?_)
        have e1 : (k : Int) + i - m = ((k + i - m : Nat) : Int) := by omega
        have cS := c_X5_setAct (xl X) (xD X) (xsh X) hs (zu (zu F p 3 ((n + 1 - m : Nat) : Int)) p 4 0) (spF (spD (zfill I ac 0 156 0) dg m T (n + 1)) ac m n T k i) J' (n := n + 1 - m) (by rw [zu_n (by omega), zu_s]) (by omega) (i := (T : Int) * i) (e := (k : Int) - m) (x := zshl 1 ((k : Int) + i - m)) (by rw [hTi.2.1]; rcases hT with rfl | rfl <;> omega) (by omega)
        refine qX5_spread_50 hX cS hs.1 (fun v F' I' J' hv => ?_)
        obtain ⟨rfl, rfl, rfl, rfl⟩ := hv
        have e2 : ((k : Int) - m).toNat * 13 + ((T : Int) * i).toNat = (k - m) * 13 + T * i := by
          rw [hTi.2.1]
          omega
        rw [← spF_set hT hk1 hi (by omega) hn hnm (by omega) ho, ← zshl1 (by omega), ← e1, ← e2, ← zu_id (F := zu (zu F p 3 ((n + 1 - m : Nat) : Int)) p 4 0) (zu_s _ p 4 0)] at h4
        exact h4
      · rw [if_neg ho]
        refine And.intro (fun c3 => ?_) (fun c3 => absurd rfl c3)
        rw [← spF_skip hT ho] at h4
        exact h4
  have outer : ∀ r k : Nat, m ≤ k → k + r = n + 1 → ∀ li, HW X 31 [some (.inr (.inr (some p))), some (.inl (m : Int)), some (.inl (n : Int)), some (.inl (T : Int)), some (.inl (k : Int)), li] [] (zu (zu F p 3 ((n + 1 - m : Nat) : Int)) p 4 0) (spF (spD (zfill I ac 0 156 0) dg m T (n + 1)) ac m n T k 1) J := by
    intro r
    induction r with
    | zero =>
      intro k hk hr li
      refine zgo (fun pc => Nat.beq pc 31) 200 hX hR rfl ?_
      refine And.intro (fun c1 => ?_) (fun c1 => by omega)
      exact And.intro rfl ⟨rfl, by rw [show k = n + 1 by omega], rfl⟩
    | succ r ih =>
      intro k hk hr li
      have h3 := inner k hk (by omega) (ih (k + 1) (by omega) (by omega)) (n - k) 1 (by omega) (by omega)
      refine zgo (fun pc => Nat.beq pc 31 || Nat.beq pc 40) 200 hX hR rfl ?_
      refine And.intro (fun c1 => by omega) (fun c1 => ?_)
      exact h3
  have first : ∀ r k : Nat, m ≤ k → k + r = n + 1 → HW X 7 [some (.inr (.inr (some p))), some (.inl (m : Int)), some (.inl (n : Int)), some (.inl (T : Int)), some (.inl (k : Int)), none] [] (zu (zu F p 3 ((k - m : Nat) : Int)) p 4 0) (spD (zfill I ac 0 156 0) dg m T k) J := by
    intro r
    induction r with
    | zero =>
      intro k hk hr
      have h3 := outer (n + 1 - m) m (Nat.le_refl _) (by omega) none
      have e1 : spF (spD (zfill I ac 0 156 0) dg m T (n + 1)) ac m n T m 1 = spD (zfill I ac 0 156 0) dg m T (n + 1) := by
        funext q j
        unfold spF
        by_cases h : q = ac ∧ j < 156
        · rw [if_pos h]
          unfold spV
          rw [if_neg (by unfold spC; rintro ⟨a, b, c, d, e⟩; omega)]
          unfold spD
          rw [if_neg (fun z => hne (z.1.symm.trans h.1))]
          unfold zfill
          rw [if_pos ⟨h.1, by omega, h.2⟩]
        · rw [if_neg h]
      rw [e1] at h3
      have ek : k = n + 1 := by omega
      subst ek
      refine zgo (fun pc => Nat.beq pc 7 || Nat.beq pc 31) 200 hX hR rfl ?_
      refine And.intro (fun c1 => h3) (fun c1 => by omega)
    | succ r ih =>
      intro k hk hr
      have h4 := ih (k + 1) (by omega) (by omega)
      refine zgo (fun pc => Nat.beq pc 7) 200 hX hR rfl ?_
      refine And.intro (fun c1 => by omega) (fun c1 => ?_)
      have hTk : (T : Int) * k = ((T * k : Nat) : Int) := by rcases hT with rfl | rfl <;> omega
      refine qX5_spread_42 hX (c_X5_add (xl X) (xD X) (xsh X) hs _ _ J (n := k - m) (by rw [zu_n (by omega), zu_s]) (by omega) (d := (T : Int) * k)) hs.1 (fun v F' I' J' hv => ?_)
      obtain ⟨rfl, rfl, rfl, rfl⟩ := hv
      rw [← spD_step hk, ← hF ((k - m : Nat) : Int), show k + 1 - m = k - m + 1 by omega, ← hTk] at h4
      exact h4
  refine zgo (fun pc => Nat.beq pc 7) 200 hX hR rfl ?_
  refine qX5_spread_39 hX (c_X5_restart (xl X) (xD X) (xsh X) hs F I J) hs.1 (fun v F' I' J' hv => ?_)
  obtain ⟨rfl, rfl, rfl, rfl⟩ := hv
  have h5 := first (n + 1 - m) m (Nat.le_refl _) (by omega)
  have e1 : spD (zfill I ac 0 156 0) dg m T m = zfill I ac 0 156 0 := by
    funext q j
    unfold spD
    rw [if_neg (by omega)]
  rw [e1, Nat.sub_self] at h5
  exact h5
