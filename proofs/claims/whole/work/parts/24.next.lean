/-! BitRows: next -/
def zsub : List (Option zV) → List (Option zV) → Prop
  | [], _ => True
  | none :: r, _ :: s => zsub r s
  | some v :: r, w :: s => w = some v ∧ zsub r s
  | _ :: _, [] => False
theorem zsub_get : ∀ (a b : List (Option zV)), zsub a b → (∀ (i : Nat) (v : zV), a[i]? = some (some v) → b[i]? = some (some v)) ∧ a.length ≤ b.length := by
  intro a
  induction a with
  | nil => intro b _; exact ⟨fun i v h => by simp at h, Nat.zero_le _⟩
  | cons x r ih =>
    intro b h
    cases b with
    | nil => cases x <;> exact absurd h id
    | cons w s =>
      cases x with
      | none =>
        obtain ⟨h1, h2⟩ := ih s h
        refine ⟨fun i v hi => ?_, by simp; exact h2⟩
        cases i with
        | zero => simp at hi
        | succ i => exact h1 i v (by simpa using hi)
      | some y =>
        obtain ⟨h1, h2⟩ := ih s h.2
        refine ⟨fun i v hi => ?_, by simp; exact h2⟩
        cases i with
        | zero =>
          have : y = v := by simpa using hi
          rw [h.1, this]
          rfl
        | succ i => exact h1 i v (by simpa using hi)
/-- some locals are forgotten -/
theorem hw_weak {X : zX} {pc : Nat} {ls ls' : List (Option zV)} {st : List zV} {F I : zFi} {J : zJi} (h : zsub ls' ls) (k : HW X pc ls' st F I J) : HW X pc ls st F I J := by
  obtain ⟨h1, h2⟩ := zsub_get _ _ h
  intro H locs LS hW hS hL
  exact k H locs LS hW hS ⟨hL.1, Nat.le_trans h2 hL.2.1, hL.2.2.1, fun i v hi => hL.2.2.2 i v (h1 i v hi)⟩
/-- the place of the first bit from a place on -/
def bnx (J : zJi) (c W C : Nat) (row : Int) (p0 : Nat) (v : Int) : Prop := (v = -1 ∧ ∀ q, p0 ≤ q → q < 64 * W → rb J c W C row q = false) ∨ ∃ p : Nat, v = (p : Int) ∧ p0 ≤ p ∧ p < 64 * W ∧ rb J c W C row p = true ∧ ∀ q, p0 ≤ q → q < p → rb J c W C row q = false
theorem zmask {s j : Nat} (hj : j < 64) : (18446744073709551615 * 2 ^ s % 18446744073709551616).testBit j = decide (s ≤ j) := by
  rw [show (18446744073709551616 : Nat) = 2 ^ 64 from rfl, Nat.testBit_mod_two_pow, Nat.mul_comm, Nat.testBit_two_pow_mul, show (18446744073709551615 : Nat) = 2 ^ 64 - 1 from rfl, Nat.testBit_two_pow_sub_one]
  by_cases h : s ≤ j
  · simp [h, hj]; omega
  · simp [h]
theorem c_X1_next (l : Launch) (D : va_G) (sh : Nat → Option zS) {k c m : Nat} (hs : zsBits sh k c m) (F I : zFi) (J : zJi) {W C : Nat} (hb : bR F J k c m W C) {r p0 : Nat} (hr : r < C) (hp : p0 < 2147483648) :
    Cn l D yX1_next wsX1_next mX1_next.2.2.2.2 sh [.inr (.inr (some k)), .inl r, .inl p0] F I J (fun v F' I' J' => (∃ x, v = some (.inl x) ∧ bnx J c W C r p0 x) ∧ F' = F ∧ I' = I ∧ J' = J) := by
  obtain ⟨hk, cA, hc⟩ := hs
  have hC' := hb.C
  obtain ⟨hW, hC, hm, hw1, hw5, hm1, hj⟩ := hb
  refine zmet (M := mX1_next) rfl rfl rfl kX1_next (Nat.le_of_ble_eq_true rfl) (fun X hX hR hl hD hsh => ?_)
  subst hl hD hsh
  have hrb : ∀ w j : Nat, w < W → j < 64 → rb J c W C r (64 * w + j) = (J c (r * W + w)).testBit j := fun w j hw hj => by
    unfold rb bw
    rw [show (64 * w + j) / 64 = w by omega, show (64 * w + j) % 64 = j by omega, if_pos (by omega)]
    simp
  have loop : ∀ n w μ : Nat, w + n = max W (p0 / 64) → p0 / 64 ≤ w → μ < 18446744073709551616 → (∀ j, j < 64 → μ.testBit j = decide (p0 ≤ 64 * w + j)) → (∀ q, p0 ≤ q → q < 64 * w → q < 64 * W → rb J c W C r q = false) →
      HW X 33 [some (.inr (.inr (some k))), some (.inl (r : Int)), some (.inl (p0 : Int)), some (.inr (.inl μ)), none, some (.inl (w : Int)), none, none] [] F I J := by
    intro n
    induction n with
    | zero =>
      intro w μ hw hw0 hμ hbit hq
      refine zgo (fun pc => Nat.beq pc 33) 200 hX hR rfl ?_
      refine Exists.intro _ ⟨hk, ?_⟩
      refine And.intro (fun c1 => ?_) (fun c1 => ?_)
      · exact And.intro ⟨_, rfl, Or.inl ⟨rfl, fun q h1 h2 => hq q h1 (by omega) h2⟩⟩ ⟨rfl, rfl, rfl⟩
      · omega
    | succ n ih =>
      intro w μ hw hw0 hμ hbit hq
      refine zgo (fun pc => Nat.beq pc 33) 200 hX hR rfl ?_
      refine Exists.intro _ ⟨hk, ?_⟩
      refine And.intro (fun c1 => ?_) (fun c1 => ?_)
      · omega
      have hwW : w < W := by omega
      have i1 := Nat.lt_of_lt_of_le (zmul_lt (r := r) (w := w) (C := C) (W := W) hr hwW) hm
      refine Exists.intro _ ⟨hk, ?_⟩
      refine Exists.intro _ ⟨hk, ?_⟩
      refine Exists.intro _ ⟨_, r * W + w, hc, by rw [hW]; simp, i1, ?_⟩
      have hx := hj (r * W + w)
      have hand : zland (J c (r * W + w)) μ = J c (r * W + w) &&& μ := zland_eq hx hμ
      have hlt : zland (J c (r * W + w)) μ < 18446744073709551616 := by rw [hand]; exact Nat.lt_of_le_of_lt Nat.and_le_left hx
      have htb : ∀ j, j < 64 → (zland (J c (r * W + w)) μ).testBit j = (rb J c W C r (64 * w + j) && decide (p0 ≤ 64 * w + j)) := fun j h => by
        rw [hand, Nat.testBit_and, hrb w j hwW h, hbit j h]
      refine And.intro (fun c2 => ?_) (fun c2 => ?_)
      · have h0 : zland (J c (r * W + w)) μ = 0 := (zcmp_eq hlt (by decide)).mp c2
        refine hw_weak (ls' := [some (.inr (.inr (some k))), some (.inl (r : Int)), some (.inl (p0 : Int)), some (.inr (.inl 18446744073709551615)), none, some (.inl ((w + 1 : Nat) : Int)), none, none]) ⟨rfl, rfl, rfl, rfl, rfl, trivial⟩ (ih (w + 1) 18446744073709551615 (by omega) (by omega) (by decide) (fun j h => ?_) (fun q h1 h2 h3 => ?_))
        · rw [show (18446744073709551615 : Nat) = 2 ^ 64 - 1 from rfl, Nat.testBit_two_pow_sub_one]
          simp [h]
          omega
        · by_cases h4 : q < 64 * w
          · exact hq q h1 h4 h3
          · have := htb (q - 64 * w) (by omega)
            rw [h0, Nat.zero_testBit, show 64 * w + (q - 64 * w) = q by omega] at this
            simpa [h1] using this.symm
      · have h0 : 0 < zland (J c (r * W + w)) μ := by
          rcases Nat.eq_zero_or_pos (zland (J c (r * W + w)) μ) with h | h
          · exact absurd ((zcmp_eq hlt (by decide)).mpr h) c2
          · exact h
        obtain ⟨t, t1, t2, t3, t4⟩ := zlow h0 hlt
        refine qX1_next_43 hX (c_J13_bitCount (xl X) (xD X) (xsh X) F I J _) (fun v F' I' J' hv => ?_)
        obtain ⟨rfl, rfl, rfl, rfl⟩ := hv
        refine And.intro ⟨_, rfl, Or.inr ⟨64 * w + t, ?_, ?_, ?_, ?_, fun q h1 h2 => ?_⟩⟩ ⟨rfl, rfl, rfl⟩
        · have e := zsw_low ⟨t, t1⟩
          dsimp only at e
          rw [← t4] at e
          have : ((w : Int) * 64 + zsw (zlsub (zland (zland (J' c (r * W + w)) μ) (zlneg (zland (J' c (r * W + w)) μ))) 1)) = ((64 * w + t : Nat) : Int) := by rw [e]; omega
          exact this
        · have := htb t t1
          rw [t2] at this
          have h5 := this.symm
          simp only [Bool.and_eq_true, decide_eq_true_eq] at h5
          exact h5.2
        · omega
        · have := htb t t1
          rw [t2] at this
          have h5 := this.symm
          simp only [Bool.and_eq_true, decide_eq_true_eq] at h5
          exact h5.1
        · by_cases h4 : q < 64 * w
          · exact hq q h1 h4 (by omega)
          · have := htb (q - 64 * w) (by omega)
            rw [t3 _ (by omega), show 64 * w + (q - 64 * w) = q by omega] at this
            simpa [h1] using this.symm
  refine zgo (fun pc => Nat.beq pc 33) 200 hX hR rfl ?_
  refine And.intro (fun c1 => ?_) (fun c1 => ?_)
  · omega
  refine Exists.intro _ ⟨hk, ?_⟩
  refine And.intro (fun c2 => ?_) (fun c2 => ?_)
  · omega
  refine And.intro (fun c3 => ?_) (fun c3 => ?_)
  · have hm64 : p0 % 64 < 64 := Nat.mod_lt _ (by decide)
    have e1 : zlshl 18446744073709551615 (zand (p0 : Int) 63) = 18446744073709551615 * 2 ^ (p0 % 64) % 18446744073709551616 := by rw [zand63 hp, zlshl_eq hm64]
    have := loop (max W (p0 / 64) - p0 / 64) (p0 / 64) (18446744073709551615 * 2 ^ (p0 % 64) % 18446744073709551616) (by omega) (Nat.le_refl _) (Nat.mod_lt _ (by decide)) (fun j h => by
      rw [zmask h]
      congr 1
      apply propext
      omega) (fun q h1 h2 _ => by omega)
    rw [← e1, ← zshr6 hp] at this
    exact this
  · omega
