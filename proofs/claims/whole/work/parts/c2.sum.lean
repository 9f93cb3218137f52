/-! the reference: sum, many, term -/
/-- the lowest ones taken away -/
def clr (x : Nat) : Nat → Nat
  | 0 => x
  | k + 1 => clr x k &&& (clr x k - 1)
theorem clr_le (x : Nat) : ∀ k, clr x k ≤ x := by
  intro k
  induction k with
  | zero => exact Nat.le_refl _
  | succ k ih => exact Nat.le_trans Nat.and_le_left ih
def ckClr : Bool := (List.range 4096).all fun x => Nat.beq (clr x (zpop x 12)) 0 && (List.range (zpop x 12)).all fun k => !Nat.beq (clr x k) 0
set_option maxRecDepth 100000 in
theorem ckClr_ok : ckClr = true := by decide +kernel
theorem clr_end {x : Nat} (hx : x < 4096) : clr x (zpop x 12) = 0 ∧ ∀ k, k < zpop x 12 → clr x k ≠ 0 := by
  have h := range_all ckClr_ok hx
  simp only [Bool.and_eq_true] at h
  refine ⟨Nat.eq_of_beq_eq_true h.1, fun k hk he => ?_⟩
  have := range_all h.2 hk
  rw [he] at this
  cases this
theorem pbk_cut {x : Nat} {i : Int} : ∀ m n k seen, (∀ j, k + m ≤ j → x.testBit j = false) → pbk x i (m + n) k seen = pbk x i m k seen := by
  intro m
  induction m with
  | zero =>
    intro n
    induction n with
    | zero => intro k seen _; rfl
    | succ n ih =>
      intro k seen h
      show (if x.testBit k then (if (seen : Int) = i then (k : Int) else pbk x i (0 + n) (k + 1) (seen + 1)) else pbk x i (0 + n) (k + 1) seen) = -1
      rw [h k (by omega), if_neg (by decide), ih (k + 1) seen (fun j hj => h j (by omega))]
      rfl
  | succ m ih =>
    intro n k seen h
    rw [show m + 1 + n = (m + n) + 1 by omega]
    show (if x.testBit k then (if (seen : Int) = i then (k : Int) else pbk x i (m + n) (k + 1) (seen + 1)) else pbk x i (m + n) (k + 1) seen) = (if x.testBit k then (if (seen : Int) = i then (k : Int) else pbk x i m (k + 1) (seen + 1)) else pbk x i m (k + 1) seen)
    rw [ih n (k + 1) (seen + 1) (fun j hj => h j (by omega)), ih n (k + 1) seen (fun j hj => h j (by omega))]
theorem pbk_out {x : Nat} {i : Int} : ∀ n k seen : Nat, (i < (seen : Int) ∨ (seen : Int) + n ≤ i) → pbk x i n k seen = -1 := by
  intro n
  induction n with
  | zero => intro k seen _; rfl
  | succ n ih =>
    intro k seen h
    show (if x.testBit k then (if (seen : Int) = i then (k : Int) else pbk x i n (k + 1) (seen + 1)) else pbk x i n (k + 1) seen) = -1
    rw [ih (k + 1) (seen + 1) (by omega), ih (k + 1) seen (by omega), if_neg (show ¬ (seen : Int) = i by omega)]
    split <;> rfl
def ckPb : Bool := (List.range 512).all fun x => (List.range 9).all fun a => match pbk x (a : Int) 9 0 0 with
  | .ofNat q => Nat.blt a (zpop x 12) && Nat.blt q 9 && (clr x a).testBit q && Nat.beq (clr x a % 2 ^ q) 0
  | .negSucc _ => Nat.ble (zpop x 12) a
set_option maxRecDepth 100000 in
theorem ckPb_ok : ckPb = true := by decide +kernel
theorem zpop_le (x : Nat) : ∀ n, zpop x n ≤ n := by
  intro n
  induction n with
  | zero => exact Nat.le_refl _
  | succ n ih =>
    show zpop x n + _ ≤ n + 1
    split <;> omega
theorem zpop_9 {x : Nat} (hx : x < 512) : zpop x 12 ≤ 9 := by
  have h : ∀ j, 9 ≤ j → x.testBit j = false := fun j hj => Nat.testBit_lt_two_pow (Nat.lt_of_lt_of_le hx (show 2 ^ 9 ≤ 2 ^ j from Nat.pow_le_pow_right (by decide) hj))
  show zpop x 9 + (if x.testBit 9 then 1 else 0) + (if x.testBit 10 then 1 else 0) + (if x.testBit 11 then 1 else 0) ≤ 9
  rw [h 9 (by decide), h 10 (by decide), h 11 (by decide)]
  exact zpop_le x 9
/-- the place of a bit, as both find it -/
theorem pbk_at {x : Nat} (hx : x < 512) {i : Int} : (i < 0 ∨ (zpop x 12 : Int) ≤ i) ∧ pbk x i 31 0 0 = -1 ∨ ∃ a q : Nat, i = (a : Int) ∧ a < zpop x 12 ∧ q < 9 ∧ pbk x i 31 0 0 = (q : Int) ∧ (clr x a).testBit q = true ∧ ∀ j, j < q → (clr x a).testBit j = false := by
  have h : ∀ j, 0 + 9 ≤ j → x.testBit j = false := fun j hj => Nat.testBit_lt_two_pow (Nat.lt_of_lt_of_le hx (show 2 ^ 9 ≤ 2 ^ j from Nat.pow_le_pow_right (by decide) (by omega)))
  have hc : pbk x i 31 0 0 = pbk x i 9 0 0 := pbk_cut 9 22 0 0 h
  rw [hc]
  have h9 := zpop_9 hx
  rcases (show i < 0 ∨ 9 ≤ i ∨ (0 ≤ i ∧ i < 9) by omega) with g | g | g
  · exact Or.inl ⟨Or.inl g, pbk_out _ _ _ (Or.inl g)⟩
  · exact Or.inl ⟨Or.inr (by omega), pbk_out _ _ _ (Or.inr (show ((0 : Nat) : Int) + ((9 : Nat) : Int) ≤ i by omega))⟩
  · obtain ⟨a, rfl⟩ := Int.eq_ofNat_of_zero_le g.1
    have hk := range_all (range_all ckPb_ok hx) (show a < 9 by omega)
    have hi := pbk_i x (a : Int) 9 0 0
    cases hp : pbk x (a : Int) 9 0 0 with
    | ofNat q =>
      rw [hp] at hk
      dsimp only at hk
      simp only [Bool.and_eq_true] at hk
      obtain ⟨⟨⟨k1, k2⟩, k3⟩, k4⟩ := hk
      refine Or.inr ⟨a, q, rfl, blt_lt k1, blt_lt k2, rfl, k3, fun j hj => ?_⟩
      have h4 := Nat.eq_of_beq_eq_true k4
      have h5 : (clr x a % 2 ^ q).testBit j = (clr x a).testBit j := by rw [Nat.testBit_mod_two_pow, decide_eq_true hj, Bool.true_and]
      rw [← h5, h4, Nat.zero_testBit]
    | negSucc q =>
      rw [hp] at hk hi
      dsimp only at hk
      have := Nat.le_of_ble_eq_true hk
      refine Or.inl ⟨Or.inr (by omega), ?_⟩
      have : -1 ≤ Int.negSucc q := hi.1
      omega
theorem c_X9_ones (l : Launch) (D : va_G) (sh : Nat → Option zS) (F I : zFi) (J : zJi) {x : Nat} (hx : x < 4096) :
    Cn l D yX9_ones wsX9_ones mX9_ones.2.2.2.2 sh [.inl (x : Int)] F I J (zself F I J (.inl (zpop x 12 : Int))) := by
  obtain ⟨he, hne⟩ := clr_end hx
  refine zmet (M := mX9_ones) rfl rfl rfl kX9_ones (Nat.le_of_ble_eq_true rfl) (fun X hX hR' hl hD hsh => ?_)
  subst hl hD hsh
  have loop : ∀ m k : Nat, k + m = zpop x 12 → HW X 4 [some (.inl (x : Int)), some (.inl (k : Int)), some (.inl (clr x k : Int))] [] F I J := by
    intro m
    induction m with
    | zero =>
      intro k hk
      have hk' : k = zpop x 12 := by omega
      subst hk'
      refine zgo (fun pc => Nat.beq pc 4) 200 hX hR' rfl ?_
      refine And.intro (fun c1 => ?_) (fun c1 => by rw [he] at c1; exact absurd rfl c1)
      exact And.intro rfl ⟨rfl, rfl, rfl⟩
    | succ m ih =>
      intro k hk
      have h := ih (k + 1) (by omega)
      have h1 := clr_le x k
      have h2 := hne k (by omega)
      rw [show clr x (k + 1) = clr x k &&& (clr x k - 1) from rfl, ← zand_eq (by omega) (by omega), show ((clr x k - 1 : Nat) : Int) = (clr x k : Int) - 1 by omega] at h
      refine zgo (fun pc => Nat.beq pc 4) 200 hX hR' rfl ?_
      refine And.intro (fun c1 => by omega) (fun c1 => ?_)
      exact h
  refine zgo (fun pc => Nat.beq pc 4) 200 hX hR' rfl ?_
  exact loop (zpop x 12) 0 (by omega)
theorem wsm_lt {ℓ : Nat} {c : Nat → Nat} (h : ns ℓ c ≤ 14) (what : Int) : wsm ℓ c what < 2 ^ (aS (ns ℓ c + 1) - aS (ns ℓ c)) := by
  have e := ns_split ℓ c ℓ (Nat.le_refl _)
  rw [Nat.sub_self, show ns 0 c = 0 from rfl, Nat.zero_add] at e
  unfold wsm
  split
  · have := wsA_ltw h ℓ (Nat.le_refl _)
    rw [wsA_2, ← e] at this
    exact this
  · have := wsR_ltw h ℓ (Nat.le_refl _)
    rw [wsR_2, ← e] at this
    exact this
theorem c_X9_sum (l : Launch) (D : va_G) (sh : Nat → Option zS) (hs : zWM sh) (F I : zFi) (J : zJi) (hb : mBg I) (hq : mSq I) (hq2 : mSr I) {ℓ : Nat} {c : Nat → Nat} (hw : RWd F I ℓ c) {what : Int} (hi : zi32 what) :
    Cn l D yX9_sum wsX9_sum mX9_sum.2.2.2.2 sh [.inr (.inr (some 60)), .inl what] F I J (zself F I J (.inl (asm ℓ c what))) := by
  have hlt := Nat.lt_of_lt_of_le (wsm_lt hw.2.2.1 what) (pow9 hw.2.2.1)
  refine zmet (M := mX9_sum) rfl rfl rfl kX9_sum (Nat.le_of_ble_eq_true rfl) (fun X hX hR' hl hD hsh => ?_)
  subst hl hD hsh
  have g1 := hi
  unfold zi32 at g1
  refine zgo (fun _ => false) 200 hX hR' rfl ?_
  unfold asm
  refine qX9_sum_122 hX (c_X9_in (xl X) (xD X) (xsh X) F I J (x := what) (lo := 0) (hi := 1) hi ⟨by omega, by omega⟩ ⟨by omega, by omega⟩) (fun v F' I' J' hv => ?_)
  obtain ⟨rfl, rfl, rfl, rfl⟩ := hv
  refine And.intro (fun c1 => ?_) (fun c1 => ?_)
  · have hi0 : ¬ (0 ≤ what ∧ what ≤ 1) := fun g => by rw [if_pos g] at c1; exact absurd c1 (by decide)
    exact And.intro (by rw [if_pos (by omega)]) ⟨rfl, rfl, rfl⟩
  have hi0 : 0 ≤ what ∧ what ≤ 1 := Decidable.byContradiction fun g => by rw [if_neg g] at c1; exact c1 rfl
  refine qX9_sum_133 hX (c_X9_sumOf (xl X) (xD X) (xsh X) hs F' I' J' hb hq hq2 hw hi) hs.o (fun v F2 I2 J2 hv => ?_)
  obtain ⟨rfl, rfl, rfl, rfl⟩ := hv
  refine qX9_sum_136 hX (c_X9_ones (xl X) (xD X) (xsh X) F2 I2 J2 (x := wsm ℓ c what) (by omega)) (fun v F3 I3 J3 hv => ?_)
  obtain ⟨rfl, rfl, rfl, rfl⟩ := hv
  exact And.intro (by rw [if_neg (by omega), zswi_small (by omega)]) ⟨rfl, rfl, rfl⟩
theorem c_X9_many (l : Launch) (D : va_G) (sh : Nat → Option zS) (hs : zWM sh) (F I : zFi) (J : zJi) (hb : mBg I) {d : Int} (hi : zi32 d) :
    Cn l D yX9_many wsX9_many mX9_many.2.2.2.2 sh [.inr (.inr (some 60)), .inl d] F I J (zself F I J (.inl (amy d))) := by
  refine zmet (M := mX9_many) rfl rfl rfl kX9_many (Nat.le_of_ble_eq_true rfl) (fun X hX hR' hl hD hsh => ?_)
  subst hl hD hsh
  have g1 := hi
  unfold zi32 at g1
  refine zgo (fun _ => false) 200 hX hR' rfl ?_
  unfold amy
  refine qX9_many_122 hX (c_X9_in (xl X) (xD X) (xsh X) F I J (x := d) (lo := 0) (hi := 14) hi ⟨by omega, by omega⟩ ⟨by omega, by omega⟩) (fun v F' I' J' hv => ?_)
  obtain ⟨rfl, rfl, rfl, rfl⟩ := hv
  refine And.intro (fun c1 => ?_) (fun c1 => ?_)
  · have hi0 : ¬ (0 ≤ d ∧ d ≤ 14) := fun g => by rw [if_pos g] at c1; exact absurd c1 (by decide)
    exact And.intro (by rw [if_pos (by omega)]) ⟨rfl, rfl, rfl⟩
  have hi0 : 0 ≤ d ∧ d ≤ 14 := Decidable.byContradiction fun g => by rw [if_neg g] at c1; exact c1 rfl
  obtain ⟨x, rfl⟩ := Int.eq_ofNat_of_zero_le hi0.1
  refine qX9_many_87 hX (c_X9_manyOf (xl X) (xD X) (xsh X) hs F' I' J' hb (x := x) (by omega)) hs.o (fun v F2 I2 J2 hv => ?_)
  obtain ⟨rfl, rfl, rfl, rfl⟩ := hv
  exact And.intro (by rw [if_neg (by omega)]) ⟨rfl, rfl, rfl⟩
