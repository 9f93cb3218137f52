/-! rows of bits, however many there are -/
def rq (J : zJi) (c W i p : Nat) : Bool := decide (p < 64 * W) && (J c (i * W + p / 64)).testBit (p % 64)
theorem rq_out {J : zJi} {c W i p : Nat} (h : 64 * W ≤ p) : rq J c W i p = false := by
  unfold rq
  rw [decide_eq_false (by omega), Bool.false_and]
theorem rq_in {J : zJi} {c W i p : Nat} (h : p < 64 * W) : rq J c W i p = (J c (i * W + p / 64)).testBit (p % 64) := by
  unfold rq
  rw [decide_eq_true h, Bool.true_and]
theorem rq_lt {J : zJi} {c W i p : Nat} (h : rq J c W i p = true) : p < 64 * W := by
  rcases Nat.lt_or_ge p (64 * W) with h1 | h1
  · exact h1
  · rw [rq_out h1] at h
    cases h
theorem rq_of {J J' : zJi} {c W : Nat} (h : J' c = J c) (i p : Nat) : rq J' c W i p = rq J c W i p := by
  unfold rq
  rw [h]
theorem rb_rq {J : zJi} {c W C i : Nat} (h : i < C) (p : Nat) : rb J c W C (i : Int) p = rq J c W i p := by
  unfold rb bw rq
  by_cases hp : p < 64 * W
  · rw [if_pos (by omega), decide_eq_true hp, Bool.true_and]
    rfl
  · rw [if_neg (by omega), decide_eq_false hp, Bool.false_and, Nat.zero_testBit]
/-- the words of a row are its own -/
theorem row_sep {W i j w x : Nat} (hw : w < W) (hx : x < W) (h : i ≠ j) : i * W + w ≠ j * W + x := by
  rcases Nat.lt_or_gt_of_ne h with g | g
  · have : (i + 1) * W ≤ j * W := Nat.mul_le_mul_right W g
    rw [Nat.succ_mul] at this
    omega
  · have : (j + 1) * W ≤ i * W := Nat.mul_le_mul_right W g
    rw [Nat.succ_mul] at this
    omega
theorem row_sep2 {W i j w : Nat} (hw : w < W) (h : i ≠ j) : ¬ (j * W ≤ i * W + w ∧ i * W + w < j * W + W) := fun g => row_sep (W := W) (i := i) (j := j) (w := w) (x := i * W + w - j * W) hw (by omega) h (by omega)
theorem rq_zz {J : zJi} {c W C i : Nat} (h : i ≠ C) (p : Nat) : rq (zz J c (C * W) (C * W + W)) c W i p = rq J c W i p := by
  by_cases hp : p < 64 * W
  · rw [rq_in hp, rq_in hp]
    have := row_sep2 (W := W) (i := i) (j := C) (w := p / 64) (by omega) h
    unfold zz
    rw [if_neg (fun g => this g.2)]
  · rw [rq_out (by omega), rq_out (by omega)]
theorem rq_zz0 {J : zJi} {c W C : Nat} (p : Nat) : rq (zz J c (C * W) (C * W + W)) c W C p = false := by
  by_cases hp : p < 64 * W
  · rw [rq_in hp]
    unfold zz
    rw [if_pos ⟨rfl, by omega, by omega⟩, Nat.zero_testBit]
  · rw [rq_out (by omega)]
theorem rq_bad {J : zJi} {c W r o i : Nat} (h : i ≠ r) (p : Nat) : rq (bad J c W r o W) c W i p = rq J c W i p := by
  by_cases hp : p < 64 * W
  · rw [rq_in hp, rq_in hp]
    have := row_sep2 (W := W) (i := i) (j := r) (w := p / 64) (by omega) h
    unfold bad
    rw [if_neg (fun g => this g.2)]
  · rw [rq_out (by omega), rq_out (by omega)]
theorem rq_bad0 {J : zJi} {c W r o : Nat} (p : Nat) : rq (bad J c W r o W) c W r p = (rq J c W r p ^^ rq J c W o p) := by
  by_cases hp : p < 64 * W
  · rw [rq_in hp, rq_in hp, rq_in hp]
    unfold bad
    rw [if_pos ⟨rfl, by omega, by omega⟩, Nat.testBit_xor, show r * W + p / 64 - r * W = p / 64 by omega]
  · rw [rq_out (by omega), rq_out (by omega), rq_out (by omega)]
    rfl
theorem bad_r {J : zJi} {c W r o w a : Nat} (h : a ≠ c) : bad J c W r o w a = J a := by
  funext b
  unfold bad
  rw [if_neg (fun e => h e.1)]
theorem zz_r {J : zJi} {c lo hi a : Nat} (h : a ≠ c) : zz J c lo hi a = J a := by
  funext b
  unfold zz
  rw [if_neg (fun e => h e.1)]
theorem bad_lt {J : zJi} {c W r o w : Nat} (h : ∀ j, J c j < 18446744073709551616) : ∀ j, bad J c W r o w c j < 18446744073709551616 := by
  intro j
  unfold bad
  split
  · exact Nat.xor_lt_two_pow (n := 64) (h _) (h _)
  · exact h j
theorem bcp_lt {F : zFi} {J : zJi} {c W C k2 c2 m2 W2 C2 : Nat} {row : Int} {w : Nat} (h : ∀ j, J c j < 18446744073709551616) (hb2 : bR F J k2 c2 m2 W2 C2) : ∀ j, bcp J c W C c2 W2 C2 row w c j < 18446744073709551616 := by
  intro j
  unfold bcp
  split
  · split
    · exact bw_lt hb2 _ _
    · decide
  · exact h j
theorem rq_bcp {J : zJi} {c W C c2 W2 C2 i : Nat} {row : Int} (h : i ≠ C) (p : Nat) : rq (bcp J c W C c2 W2 C2 row W) c W i p = rq J c W i p := by
  by_cases hp : p < 64 * W
  · rw [rq_in hp, rq_in hp]
    have := row_sep2 (W := W) (i := i) (j := C) (w := p / 64) (by omega) h
    unfold bcp
    rw [if_neg (fun g => this g.2)]
  · rw [rq_out (by omega), rq_out (by omega)]
theorem rq_bcp0 {J : zJi} {c W C c2 W2 C2 r2 : Nat} (h2 : r2 < C2) (p : Nat) : rq (bcp J c W C c2 W2 C2 (r2 : Int) W) c W C p = (decide (p < 64 * W) && rq J c2 W2 r2 p) := by
  by_cases hp : p < 64 * W
  · rw [rq_in hp, decide_eq_true hp, Bool.true_and]
    unfold bcp
    rw [if_pos ⟨rfl, by omega, by omega⟩, if_pos (by omega), show C * W + p / 64 - C * W = p / 64 by omega, ← rb_rq h2]
    rfl
  · rw [rq_out (by omega), decide_eq_false hp, Bool.false_and]
/-- bits put at a place on -/
theorem rq_bfw {J : zJi} {c W C r w x i : Nat} (hr : r < C) (p : Nat) : rq (bfw J c W C (r : Int) (w : Int) x) c W i p = (rq J c W i p ^^ (decide (i = r ∧ p / 64 = w ∧ p < 64 * W) && x.testBit (p % 64))) := by
  by_cases hp : p < 64 * W
  · rw [rq_in hp, rq_in hp]
    unfold bfw
    by_cases hw : w < W
    · rw [if_pos (by omega)]
      unfold zw
      by_cases h1 : i = r ∧ p / 64 = w
      · obtain ⟨rfl, rfl⟩ := h1
        rw [if_pos ⟨rfl, rfl⟩, decide_eq_true ⟨rfl, rfl, hp⟩, Bool.true_and, Nat.testBit_xor]
        rfl
      · rw [if_neg, decide_eq_false (fun g => h1 ⟨g.1, g.2.1⟩), Bool.false_and, Bool.xor_false]
        rintro ⟨-, g⟩
        have g' : i * W + p / 64 = r * W + w := g
        by_cases hi : i = r
        · subst hi
          exact h1 ⟨rfl, by omega⟩
        · exact row_sep (by omega) hw hi g'
    · rw [if_neg (by omega), decide_eq_false (by omega), Bool.false_and, Bool.xor_false]
  · rw [rq_out (by omega), rq_out (by omega), decide_eq_false (by omega)]
    rfl
theorem tb_small {b k j : Nat} (hb : b < 2 ^ k) (hj : k ≤ j) : b.testBit j = false := Nat.testBit_lt_two_pow (Nat.lt_of_lt_of_le hb (Nat.pow_le_pow_right (by decide) hj))
theorem rq_bfl {J : zJi} {c W C r p b i : Nat} (hr : r < C) (hb : b < 2147483648) (q : Nat) : rq (bfl J c W C (r : Int) p b) c W i q = (rq J c W i q ^^ (decide (i = r ∧ p ≤ q ∧ q < 64 * W) && b.testBit (q - p))) := by
  have hb' : b < 2 ^ 31 := hb
  have hmod : (b * 2 ^ (p % 64) % 18446744073709551616).testBit (q % 64) = (decide (p % 64 ≤ q % 64) && b.testBit (q % 64 - p % 64)) := by
    rw [show (18446744073709551616 : Nat) = 2 ^ 64 from rfl, Nat.testBit_mod_two_pow, decide_eq_true (by omega), Bool.true_and, Nat.mul_comm, Nat.testBit_two_pow_mul]
  unfold bfl
  split
  · rename_i h32
    rw [show ((p / 64 : Nat) : Int) + 1 = ((p / 64 + 1 : Nat) : Int) from rfl, rq_bfw hr, rq_bfw hr, hmod, Nat.testBit_div_two_pow, Bool.xor_assoc]
    congr 1
    by_cases hi : i = r
    · by_cases hq : q < 64 * W
      · by_cases h1 : q / 64 = p / 64
        · rw [decide_eq_true ⟨hi, h1, hq⟩, decide_eq_false (p := i = r ∧ q / 64 = p / 64 + 1 ∧ q < 64 * W) (by omega), Bool.false_and, Bool.xor_false, Bool.true_and]
          by_cases h2 : p ≤ q
          · rw [decide_eq_true (by omega), decide_eq_true ⟨hi, h2, hq⟩, show q % 64 - p % 64 = q - p by omega]
          · rw [decide_eq_false (by omega), decide_eq_false (by omega), Bool.false_and, Bool.false_and]
        · rw [decide_eq_false (p := i = r ∧ q / 64 = p / 64 ∧ q < 64 * W) (by omega), Bool.false_and, Bool.false_xor]
          by_cases h2 : q / 64 = p / 64 + 1
          · rw [decide_eq_true ⟨hi, h2, hq⟩, decide_eq_true ⟨hi, by omega, hq⟩, show q % 64 + (64 - p % 64) = q - p by omega]
          · rw [decide_eq_false (by omega), Bool.false_and]
            by_cases h3 : p ≤ q
            · rw [tb_small hb' (by omega), Bool.and_false]
            · rw [decide_eq_false (by omega), Bool.false_and]
      · rw [decide_eq_false (p := i = r ∧ q / 64 = p / 64 ∧ q < 64 * W) (by omega), decide_eq_false (p := i = r ∧ q / 64 = p / 64 + 1 ∧ q < 64 * W) (by omega), decide_eq_false (p := i = r ∧ p ≤ q ∧ q < 64 * W) (by omega), Bool.false_and, Bool.false_and, Bool.false_and]
        rfl
    · rw [decide_eq_false (p := i = r ∧ q / 64 = p / 64 ∧ q < 64 * W) (by omega), decide_eq_false (p := i = r ∧ q / 64 = p / 64 + 1 ∧ q < 64 * W) (by omega), decide_eq_false (p := i = r ∧ p ≤ q ∧ q < 64 * W) (by omega), Bool.false_and, Bool.false_and, Bool.false_and]
      rfl
  · rename_i h32
    rw [rq_bfw hr, hmod]
    congr 1
    by_cases hi : i = r
    · by_cases hq : q < 64 * W
      · by_cases h1 : q / 64 = p / 64
        · rw [decide_eq_true ⟨hi, h1, hq⟩, Bool.true_and]
          by_cases h2 : p ≤ q
          · rw [decide_eq_true (by omega), decide_eq_true ⟨hi, h2, hq⟩, show q % 64 - p % 64 = q - p by omega]
          · rw [decide_eq_false (by omega), decide_eq_false (by omega), Bool.false_and, Bool.false_and]
        · rw [decide_eq_false (by omega), Bool.false_and]
          by_cases h3 : p ≤ q
          · rw [tb_small hb' (by omega), Bool.and_false]
          · rw [decide_eq_false (by omega), Bool.false_and]
      · rw [decide_eq_false (p := i = r ∧ q / 64 = p / 64 ∧ q < 64 * W) (by omega), decide_eq_false (p := i = r ∧ p ≤ q ∧ q < 64 * W) (by omega), Bool.false_and, Bool.false_and]
    · rw [decide_eq_false (p := i = r ∧ q / 64 = p / 64 ∧ q < 64 * W) (by omega), decide_eq_false (p := i = r ∧ p ≤ q ∧ q < 64 * W) (by omega), Bool.false_and, Bool.false_and]
theorem bfw_r {J : zJi} {c W C a : Nat} {row w : Int} {x : Nat} (h : a ≠ c) : bfw J c W C row w x a = J a := by
  unfold bfw
  split
  · funext b
    unfold zw
    rw [if_neg (fun e => h e.1)]
  · rfl
theorem bfl_r {J : zJi} {c W C a : Nat} {row : Int} {p b : Nat} (h : a ≠ c) : bfl J c W C row p b a = J a := by
  unfold bfl
  split
  · rw [bfw_r h, bfw_r h]
  · rw [bfw_r h]
theorem bfl_lt2 {J : zJi} {c W C : Nat} (h : ∀ j, J c j < 18446744073709551616) {row : Int} {p b : Nat} (hb : b < 2147483648) : ∀ j, bfl J c W C row p b c j < 18446744073709551616 := by
  unfold bfl
  split
  · exact bfw_lt (bfw_lt h (Nat.mod_lt _ (by decide))) (Nat.lt_of_le_of_lt (Nat.div_le_self _ _) (by omega))
  · exact bfw_lt h (Nat.mod_lt _ (by decide))
