/-! BitRows: copy, next; Long.bitCount -/
/-- the words after copy: row C of c is a row of c2, w words on -/
def bcp (J : zJi) (c W C c2 W2 C2 : Nat) (row : Int) (w : Nat) : zJi := fun a b => if a = c ∧ C * W ≤ b ∧ b < C * W + W then (if b < C * W + w then bw J c2 W2 C2 row ((b - C * W : Nat) : Int) else 0) else J a b
theorem bcp_0 (J : zJi) (c W C c2 W2 C2 : Nat) (row : Int) : bcp J c W C c2 W2 C2 row 0 = zz J c (C * W) (C * W + W) := by
  funext a b
  unfold bcp zz
  by_cases h : a = c ∧ C * W ≤ b ∧ b < C * W + W
  · rw [if_pos h, if_pos h, if_neg (by omega)]
  · rw [if_neg h, if_neg h]
theorem bcp_r {J : zJi} {c W C c2 W2 C2 : Nat} {row : Int} {w a : Nat} (h : a ≠ c) : bcp J c W C c2 W2 C2 row w a = J a := by
  funext b
  unfold bcp
  rw [if_neg (fun e => h e.1)]
theorem bw_r {J J' : zJi} {c W C : Nat} {row w : Int} (h : J' c = J c) : bw J' c W C row w = bw J c W C row w := by
  unfold bw
  rw [h]
theorem c_X1_copy (l : Launch) (D : va_G) (sh : Nat → Option zS) {k c m k2 c2 m2 : Nat} (hs : zsBits sh k c m) (hs2 : zsBits sh k2 c2 m2) (hk2 : k2 ≠ k) (hc2 : c2 ≠ c) (F I : zFi) (J : zJi) {W C W2 C2 : Nat} (hb : bR F J k c m W C) (hb2 : bR F J k2 c2 m2 W2 C2) (hroom : (C + 1) * W ≤ m) {row : Int} (h1 : zi32 row) :
    Cn l D yX1_copy wsX1_copy mX1_copy.2.2.2.2 sh [.inr (.inr (some k)), .inr (.inr (some k2)), .inl row] F I J (fun v F' I' J' => v = some (.inl (C : Int)) ∧ F' = zu F k 2 ((C + 1 : Nat) : Int) ∧ I' = I ∧ J' = bcp J c W C c2 W2 C2 row W) := by
  have hC' := hb.C
  have hsucc : (C + 1) * W = C * W + W := Nat.succ_mul C W
  refine zmet (M := mX1_copy) rfl rfl rfl kX1_copy (Nat.le_of_ble_eq_true rfl) (fun X hX hR hl hD hsh => ?_)
  subst hl hD hsh
  have hF1 : zu F k 2 ((C + 1 : Nat) : Int) k 1 = (W : Int) := by rw [zu_n (by omega)]; exact hb.1
  have hbk : ∀ w : Nat, bR (zu F k 2 ((C + 1 : Nat) : Int)) (bcp J c W C c2 W2 C2 row w) k c m W (C + 1) := fun w => by
    refine ⟨hF1, zu_s _ _ _ _, hroom, hb.2.2.2.1, hb.2.2.2.2.1, hb.2.2.2.2.2.1, fun j => ?_⟩
    unfold bcp
    split
    · split
      · exact bw_lt hb2 _ _
      · decide
    · exact hb.2.2.2.2.2.2 j
  have hbt : ∀ w : Nat, bR (zu F k 2 ((C + 1 : Nat) : Int)) (bcp J c W C c2 W2 C2 row w) k2 c2 m2 W2 C2 := fun w => by
    refine ⟨by rw [zu_r hk2]; exact hb2.1, by rw [zu_r hk2]; exact hb2.2.1, hb2.2.2.1, hb2.2.2.2.1, hb2.2.2.2.2.1, hb2.2.2.2.2.2.1, fun j => ?_⟩
    rw [bcp_r hc2]
    exact hb2.2.2.2.2.2.2 j
  have loop : ∀ n w : Nat, w + n = W → HW X 8 [some (.inr (.inr (some k))), some (.inr (.inr (some k2))), some (.inl row), some (.inl (C : Int)), some (.inl (w : Int))] [] (zu F k 2 ((C + 1 : Nat) : Int)) I (bcp J c W C c2 W2 C2 row w) := by
    intro n
    induction n with
    | zero =>
      intro w hw
      refine zgo (fun pc => Nat.beq pc 8) 200 hX hR rfl ?_
      refine Exists.intro _ ⟨hs.1, ?_⟩
      refine And.intro (fun c1 => ?_) (fun c1 => ?_)
      · exact And.intro rfl ⟨rfl, rfl, by rw [show w = W by omega]⟩
      · rw [hF1] at c1; have := hb.2.2.2.2.1; omega
    | succ n ih =>
      intro w hw
      have hw5 := hb.2.2.2.2.1
      refine zgo (fun pc => Nat.beq pc 8) 200 hX hR rfl ?_
      refine Exists.intro _ ⟨hs.1, ?_⟩
      refine And.intro (fun c1 => ?_) (fun c1 => ?_)
      · rw [hF1] at c1; omega
      · refine qX1_copy_31 hX (c_X1_word (xl X) (xD X) (xsh X) hs2 _ I _ (hbt w) (w := (w : Int)) h1 ⟨by omega, by omega⟩) hs2.1 (fun v F' I' J' hv => ?_)
        obtain ⟨rfl, rfl, rfl, rfl⟩ := hv
        have hx := bw_lt (hbt w) row (w : Int)
        refine qX1_copy_37 hX (c_X1_flipWord (xl X) (xD X) (xsh X) hs _ I' _ (hbk w) (row := (C : Int)) (w := (w : Int)) ⟨by omega, by omega⟩ ⟨by omega, by omega⟩ hx) hs.1 (fun v F2 I2 J2 hv => ?_)
        obtain ⟨rfl, rfl, rfl, hJ2⟩ := hv
        have e3 : J2 = bcp J c W C c2 W2 C2 row (w + 1) := by
          rw [hJ2]
          unfold bfw
          rw [if_pos (by omega)]
          have e0 : (C : Int).toNat * W + (w : Int).toNat = C * W + w := by simp
          rw [e0, bw_r (bcp_r hc2)]
          have e1 : bcp J c W C c2 W2 C2 row w c (C * W + w) = 0 := by
            unfold bcp
            rw [if_pos ⟨rfl, by omega, by omega⟩, if_neg (by omega)]
          rw [e1, Nat.zero_xor]
          funext a b
          unfold zw bcp
          by_cases h1 : a = c ∧ b = C * W + w
          · obtain ⟨rfl, rfl⟩ := h1
            rw [if_pos ⟨rfl, rfl⟩, if_pos ⟨rfl, by omega, by omega⟩, if_pos (by omega), show C * W + w - C * W = w by omega]
          · rw [if_neg h1]
            by_cases h2 : a = c ∧ C * W ≤ b ∧ b < C * W + W
            · rw [if_pos h2, if_pos h2]
              by_cases h3 : b < C * W + w
              · rw [if_pos h3, if_pos (by omega)]
              · rw [if_neg h3, if_neg (by omega)]
            · rw [if_neg h2, if_neg h2]
        rw [e3]
        exact ih (w + 1) (by omega)
  refine zgo (fun pc => Nat.beq pc 8) 200 hX hR rfl ?_
  refine qX1_copy_49 hX (c_X1_open (xl X) (xD X) (xsh X) hs F I J hb hroom) hs.1 (fun v F' I' J' hv => ?_)
  obtain ⟨rfl, rfl, rfl, rfl⟩ := hv
  have := loop W 0 (by omega)
  rw [bcp_0] at this
  exact this
/-- the numbers of the twos in a long, as the library counts them -/
def zsw (x : Nat) : Int :=
  let a := zlsub x (zland (zlush x 1) 6148914691236517205)
  let b := zladd (zland a 3689348814741910323) (zland (zlush a 2) 3689348814741910323)
  let c := zland (zladd b (zlush b 4)) 1085102592571150095
  let d := zladd c (zlush c 8)
  let e := zladd d (zlush d 16)
  let f := zladd e (zlush e 32)
  zand (zl2i f) 127
theorem c_J13_bitCount (l : Launch) (D : va_G) (sh : Nat → Option zS) (F I : zFi) (J : zJi) (x : Nat) :
    Cn l D yJ13_bitCount_95d88 wsJ13_bitCount_95d88 mJ13_bitCount_95d88.2.2.2.2 sh [.inr (.inl x)] F I J (zself F I J (.inl (zsw x))) := by
  refine zmet (M := mJ13_bitCount_95d88) rfl rfl rfl kJ13_bitCount_95d88 (Nat.le_of_ble_eq_true rfl) (fun X hX hR hl hD hsh => ?_)
  subst hl hD hsh
  refine zgo (fun _ => false) 200 hX hR rfl ?_
  exact And.intro rfl ⟨rfl, rfl, rfl⟩
theorem zsw_low : ∀ t : Fin 64, zsw (2 ^ t.val - 1) = (t.val : Int) := by decide +kernel
theorem ztwo : ∀ x : Nat, 0 < x → ∃ t m, x = 2 ^ t * (2 * m + 1) := by
  intro x
  induction x using Nat.strongRecOn with
  | _ x ih =>
    intro hx
    by_cases h : x % 2 = 1
    · exact ⟨0, x / 2, by omega⟩
    · obtain ⟨t, m, e⟩ := ih (x / 2) (by omega) (by omega)
      exact ⟨t + 1, m, by rw [Nat.pow_succ, Nat.mul_assoc, Nat.mul_left_comm, ← e]; omega⟩
/-- the least bit of a long -/
theorem zlow {x : Nat} (h0 : 0 < x) (hx : x < 18446744073709551616) : ∃ t, t < 64 ∧ x.testBit t = true ∧ (∀ j, j < t → x.testBit j = false) ∧ zlsub (zland x (zlneg x)) 1 = 2 ^ t - 1 := by
  obtain ⟨t, m, e⟩ := ztwo x h0
  have ht : t < 64 := by
    rcases Nat.lt_or_ge t 64 with h | h
    · exact h
    · have h1 : 2 ^ 64 ≤ 2 ^ t := Nat.pow_le_pow_right (by decide) h
      have h2 : 2 ^ t * 1 ≤ 2 ^ t * (2 * m + 1) := Nat.mul_le_mul_left _ (by omega)
      omega
  have hb : ∀ j, x.testBit j = (decide (t ≤ j) && (2 * m + 1).testBit (j - t)) := fun j => by
    rw [e, Nat.testBit_two_pow_mul]
  have hp : 0 < 2 ^ t := Nat.two_pow_pos t
  have e2 : x - 1 = 2 ^ t * (2 * m) + (2 ^ t - 1) := by
    rw [e, Nat.mul_add, Nat.mul_one]
    omega
  have hb1 : ∀ j, (x - 1).testBit j = if j < t then true else (2 * m).testBit (j - t) := fun j => by
    rw [e2, Nat.testBit_two_pow_mul_add _ (by omega)]
    split
    · rename_i hj
      rw [Nat.testBit_two_pow_sub_one]
      simp [hj]
    · rfl
  have hneg : zlneg x = 18446744073709551616 - x := by
    unfold zlneg zb
    rw [Int64.toBitVec_neg, zbv, BitVec.toNat_neg, BitVec.toNat_ofNat, Nat.mod_eq_of_lt hx]
    exact Nat.mod_eq_of_lt (by omega)
  have hlt : 18446744073709551616 - x < 18446744073709551616 := by omega
  have hand : x &&& (18446744073709551616 - x) = 2 ^ t := by
    apply Nat.eq_of_testBit_eq
    intro j
    rw [Nat.testBit_and, show 18446744073709551616 - x = 2 ^ 64 - ((x - 1) + 1) by omega, Nat.testBit_two_pow_sub_succ (by omega), Nat.testBit_two_pow, hb, hb1]
    by_cases h1 : j < t
    · rw [if_pos h1]
      simp [Nat.not_le.mpr h1, Nat.ne_of_gt h1]
    · rw [if_neg h1]
      by_cases h2 : j = t
      · subst h2
        simp [ht]
      · have h3 : j - t ≠ 0 := by omega
        obtain ⟨i, hi⟩ := Nat.exists_eq_succ_of_ne_zero h3
        rw [hi]
        have h4 : (2 * m + 1).testBit (i + 1) = (2 * m).testBit (i + 1) := by
          rw [Nat.testBit_succ, Nat.testBit_succ]
          congr 1
          omega
        rw [show i.succ = i + 1 from rfl, h4]
        cases (2 * m).testBit (i + 1) <;> simp [Ne.symm h2]
  have h2t : 2 ^ t < 18446744073709551616 := Nat.pow_lt_pow_right (by decide) ht
  refine ⟨t, ht, by rw [hb]; simp, fun j hj => by rw [hb]; simp [Nat.not_le.mpr hj], ?_⟩
  rw [hneg, zland_eq hx hlt, hand]
  unfold zlsub zb
  rw [Int64.toBitVec_sub, zbv, zbv, BitVec.toNat_sub, BitVec.toNat_ofNat, BitVec.toNat_ofNat, Nat.mod_eq_of_lt h2t]
  omega
