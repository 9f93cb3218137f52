/-! BitRows: rows of bits in one array of longs -/
def zsBits (sh : Nat → Option zS) (k c m : Nat) : Prop := sh k = some (.inl (1, [some (some c), none, none])) ∧ ∃ cA, sh c = some (.inr (.inr (.inl (cA, m))))
/-- the numbers of a BitRows: W words a row, C rows, room for m words; the words are words -/
def bR (F : zFi) (J : zJi) (k c m W C : Nat) : Prop := F k 1 = (W : Int) ∧ F k 2 = (C : Int) ∧ C * W ≤ m ∧ 1 ≤ W ∧ W ≤ 5 ∧ m ≤ 1000 ∧ ∀ j, J c j < 18446744073709551616
theorem zmul_lt {r w C W : Nat} (h1 : r < C) (h2 : w < W) : r * W + w < C * W := by
  have : (r + 1) * W ≤ C * W := Nat.mul_le_mul_right W h1
  rw [Nat.add_mul] at this
  omega
theorem bR.C {F : zFi} {J : zJi} {k c m W C : Nat} (h : bR F J k c m W C) : C ≤ 1000 := by
  obtain ⟨-, -, h1, h2, -, h3, -⟩ := h
  have : C * 1 ≤ C * W := Nat.mul_le_mul_left C h2
  omega
abbrev zself (F I : zFi) (J : zJi) (r : zV) : zP := fun v F' I' J' => v = some r ∧ F' = F ∧ I' = I ∧ J' = J
/-- word w of a row -/
def bw (J : zJi) (c W C : Nat) (row w : Int) : Nat := if 0 ≤ row ∧ row < C ∧ 0 ≤ w ∧ w < W then J c (row.toNat * W + w.toNat) else 0
theorem c_X1_word (l : Launch) (D : va_G) (sh : Nat → Option zS) {k c m : Nat} (hs : zsBits sh k c m) (F I : zFi) (J : zJi) {W C : Nat} (hb : bR F J k c m W C) {row w : Int} (h1 : zi32 row) (h2 : zi32 w) :
    Cn l D yX1_word wsX1_word mX1_word.2.2.2.2 sh [.inr (.inr (some k)), .inl row, .inl w] F I J (zself F I J (.inr (.inl (bw J c W C row w)))) := by
  obtain ⟨hk, cA, hc⟩ := hs
  have hC' := hb.C
  obtain ⟨hW, hC, hm, hw1, hw5, hm1, hj⟩ := hb
  refine zmet (M := mX1_word) rfl rfl rfl kX1_word (Nat.le_of_ble_eq_true rfl) (fun X hX hR hl hD hsh => ?_)
  subst hl hD hsh
  refine zgo (fun _ => false) 200 hX hR rfl ?_
  unfold bw
  refine And.intro (fun c1 => ?_) (fun c1 => ?_)
  · exact And.intro (by rw [if_neg (by omega)]; rfl) ⟨rfl, rfl, rfl⟩
  refine Exists.intro _ ⟨hk, ?_⟩
  refine And.intro (fun c2 => ?_) (fun c2 => ?_)
  · exact And.intro (by rw [if_neg (by omega)]; rfl) ⟨rfl, rfl, rfl⟩
  refine And.intro (fun c3 => ?_) (fun c3 => ?_)
  · exact And.intro (by rw [if_neg (by omega)]; rfl) ⟨rfl, rfl, rfl⟩
  refine Exists.intro _ ⟨hk, ?_⟩
  refine And.intro (fun c4 => ?_) (fun c4 => ?_)
  · exact And.intro (by rw [if_neg (by omega)]; rfl) ⟨rfl, rfl, rfl⟩
  refine Exists.intro _ ⟨hk, ?_⟩
  refine Exists.intro _ ⟨hk, ?_⟩
  obtain ⟨r, rfl⟩ := Int.eq_ofNat_of_zero_le (show 0 ≤ row by omega)
  obtain ⟨w', rfl⟩ := Int.eq_ofNat_of_zero_le (show 0 ≤ w by omega)
  refine Exists.intro _ ⟨_, r * W + w', hc, by rw [hW]; simp, Nat.lt_of_lt_of_le (zmul_lt (C := C) (W := W) (by omega) (by omega)) hm, ?_⟩
  exact And.intro (by rw [if_pos (by omega)]; rfl) ⟨rfl, rfl, rfl⟩
theorem bw_lt {F : zFi} {J : zJi} {k c m W C : Nat} (hb : bR F J k c m W C) (row w : Int) : bw J c W C row w < 18446744073709551616 := by
  unfold bw
  split
  · exact hb.2.2.2.2.2.2 _
  · decide
theorem c_X1_height (l : Launch) (D : va_G) (sh : Nat → Option zS) {k c m : Nat} (hs : zsBits sh k c m) (F I : zFi) (J : zJi) :
    Cn l D yX1_height wsX1_height mX1_height.2.2.2.2 sh [.inr (.inr (some k))] F I J (zself F I J (.inl (F k 2))) := by
  obtain ⟨hk, cA, hc⟩ := hs
  refine zmet (M := mX1_height) rfl rfl rfl kX1_height (Nat.le_of_ble_eq_true rfl) (fun X hX hR hl hD hsh => ?_)
  subst hl hD hsh
  refine zgo (fun _ => false) 200 hX hR rfl ?_
  refine Exists.intro _ ⟨hk, ?_⟩
  exact And.intro rfl ⟨rfl, rfl, rfl⟩
/-- the words after flipWord -/
def bfw (J : zJi) (c W C : Nat) (row w : Int) (x : Nat) : zJi := if 0 ≤ row ∧ row < C ∧ 0 ≤ w ∧ w < W then zw J c (row.toNat * W + w.toNat) (J c (row.toNat * W + w.toNat) ^^^ x) else J
theorem c_X1_flipWord (l : Launch) (D : va_G) (sh : Nat → Option zS) {k c m : Nat} (hs : zsBits sh k c m) (F I : zFi) (J : zJi) {W C : Nat} (hb : bR F J k c m W C) {row w : Int} {x : Nat} (h1 : zi32 row) (h2 : zi32 w) (hx : x < 18446744073709551616) :
    Cn l D yX1_flipWord wsX1_flipWord mX1_flipWord.2.2.2.2 sh [.inr (.inr (some k)), .inl row, .inl w, .inr (.inl x)] F I J (fun v F' I' J' => v = none ∧ F' = F ∧ I' = I ∧ J' = bfw J c W C row w x) := by
  obtain ⟨hk, cA, hc⟩ := hs
  have hC' := hb.C
  obtain ⟨hW, hC, hm, hw1, hw5, hm1, hj⟩ := hb
  refine zmet (M := mX1_flipWord) rfl rfl rfl kX1_flipWord (Nat.le_of_ble_eq_true rfl) (fun X hX hR hl hD hsh => ?_)
  subst hl hD hsh
  refine zgo (fun _ => false) 200 hX hR rfl ?_
  unfold bfw
  refine And.intro (fun c1 => ?_) (fun c1 => ?_)
  · exact And.intro rfl ⟨rfl, rfl, by rw [if_neg (by omega)]⟩
  refine Exists.intro _ ⟨hk, ?_⟩
  refine And.intro (fun c2 => ?_) (fun c2 => ?_)
  · exact And.intro rfl ⟨rfl, rfl, by rw [if_neg (by omega)]⟩
  refine And.intro (fun c3 => ?_) (fun c3 => ?_)
  · exact And.intro rfl ⟨rfl, rfl, by rw [if_neg (by omega)]⟩
  refine Exists.intro _ ⟨hk, ?_⟩
  refine And.intro (fun c4 => ?_) (fun c4 => ?_)
  · exact And.intro rfl ⟨rfl, rfl, by rw [if_neg (by omega)]⟩
  refine Exists.intro _ ⟨hk, ?_⟩
  refine Exists.intro _ ⟨hk, ?_⟩
  obtain ⟨r, rfl⟩ := Int.eq_ofNat_of_zero_le (show 0 ≤ row by omega)
  obtain ⟨w', rfl⟩ := Int.eq_ofNat_of_zero_le (show 0 ≤ w by omega)
  have hlt := Nat.lt_of_lt_of_le (zmul_lt (r := r) (w := w') (C := C) (W := W) (by omega) (by omega)) hm
  refine Exists.intro _ ⟨_, r * W + w', hc, by rw [hW]; simp, hlt, ?_⟩
  refine Exists.intro _ ⟨_, r * W + w', hc, by rw [hW]; simp, hlt, ?_⟩
  exact And.intro rfl ⟨rfl, rfl, by rw [if_pos (by omega), zlxor_eq (hj _) hx]; rfl⟩
theorem bfw_lt {J : zJi} {c W C : Nat} (hj : ∀ j, J c j < 18446744073709551616) {row w : Int} {x : Nat} (hx : x < 18446744073709551616) : ∀ j, bfw J c W C row w x c j < 18446744073709551616 := by
  intro j
  unfold bfw
  split
  · unfold zw
    split
    · exact Nat.xor_lt_two_pow (n := 64) (hj _) hx
    · exact hj j
  · exact hj j
theorem c_J9_max (l : Launch) (D : va_G) (sh : Nat → Option zS) (F I : zFi) (J : zJi) {a b : Int} (ha : zi32 a) (hb : zi32 b) : zmaxC F I J a b (zself F I J (.inl (if a < b then b else a))) := ⟨ha, hb, rfl, rfl, rfl, rfl⟩
theorem c_J9_min (l : Launch) (D : va_G) (sh : Nat → Option zS) (F I : zFi) (J : zJi) {a b : Int} (ha : zi32 a) (hb : zi32 b) : zminC F I J a b (zself F I J (.inl (if a ≤ b then a else b))) := ⟨ha, hb, rfl, rfl, rfl, rfl⟩
/-- bit p of a row -/
def rb (J : zJi) (c W C : Nat) (row : Int) (p : Nat) : Bool := (bw J c W C row ((p / 64 : Nat) : Int)).testBit (p % 64)
theorem zbit1 {x k : Nat} (hx : x < 18446744073709551616) (hk : k < 64) : zl2i (zland (zlush x (k : Int)) 1) = if x.testBit k then 1 else 0 := by
  have h1 : x / 2 ^ k < 18446744073709551616 := Nat.lt_of_le_of_lt (Nat.div_le_self _ _) hx
  rw [zlush_eq hx hk, zland_eq h1 (by decide), Nat.and_one_is_mod]
  have h2 : x / 2 ^ k % 2 < 2 := Nat.mod_lt _ (by decide)
  rw [zl2i_eq (by omega), Nat.testBit_eq_decide_div_mod_eq]
  by_cases h : x / 2 ^ k % 2 = 1
  · simp [h]
  · have : x / 2 ^ k % 2 = 0 := by omega
    simp [this]
theorem zshr6 {p : Nat} (hp : p < 2147483648) : zshr (p : Int) 6 = ((p / 64 : Nat) : Int) := zshr_eq (k := 6) hp (by decide)
theorem zand63 {p : Nat} (hp : p < 2147483648) : zand (p : Int) 63 = ((p % 64 : Nat) : Int) := by
  have h := zand_eq (b := 63) hp (by decide)
  rw [show p &&& 63 = p % 64 from Nat.and_two_pow_sub_one_eq_mod p 6] at h
  exact h
theorem c_X1_bit (l : Launch) (D : va_G) (sh : Nat → Option zS) {k c m : Nat} (hs : zsBits sh k c m) (F I : zFi) (J : zJi) {W C : Nat} (hb : bR F J k c m W C) {row : Int} {p : Nat} (h1 : zi32 row) (hp : p < 2147483648) :
    Cn l D yX1_bit wsX1_bit mX1_bit.2.2.2.2 sh [.inr (.inr (some k)), .inl row, .inl p] F I J (zself F I J (.inl (if rb J c W C row p then 1 else 0))) := by
  refine zmet (M := mX1_bit) rfl rfl rfl kX1_bit (Nat.le_of_ble_eq_true rfl) (fun X hX hR hl hD hsh => ?_)
  subst hl hD hsh
  refine zgo (fun _ => false) 200 hX hR rfl ?_
  have hp6 : p / 64 ≤ p := Nat.div_le_self _ _
  have hm : p % 64 < 64 := Nat.mod_lt _ (by decide)
  refine qX1_bit_31 hX (c_X1_word (xl X) (xD X) (xsh X) hs F I J hb (w := zshr p 6) h1 (by rw [zshr6 hp]; exact ⟨by omega, by omega⟩)) hs.1 (fun v F' I' J' hv => ?_)
  obtain ⟨rfl, rfl, rfl, rfl⟩ := hv
  refine And.intro ?_ ⟨rfl, rfl, rfl⟩
  have h := zbit1 (bw_lt hb row (zshr p 6)) hm
  rw [zshr6 hp, ← zand63 hp] at h
  unfold rb
  rw [← h, ← zshr6 hp]
  rfl
theorem c_X1_firstBits (l : Launch) (D : va_G) (sh : Nat → Option zS) {k c m : Nat} (hs : zsBits sh k c m) (F I : zFi) (J : zJi) {W C : Nat} (hb : bR F J k c m W C) {row : Int} (h1 : zi32 row) :
    Cn l D yX1_firstBits wsX1_firstBits mX1_firstBits.2.2.2.2 sh [.inr (.inr (some k)), .inl row] F I J (zself F I J (.inl ((bw J c W C row 0 % 2147483648 : Nat) : Int))) := by
  refine zmet (M := mX1_firstBits) rfl rfl rfl kX1_firstBits (Nat.le_of_ble_eq_true rfl) (fun X hX hR hl hD hsh => ?_)
  subst hl hD hsh
  refine zgo (fun _ => false) 200 hX hR rfl ?_
  refine qX1_firstBits_31 hX (c_X1_word (xl X) (xD X) (xsh X) hs F I J hb (w := 0) h1 ⟨by decide, by decide⟩) hs.1 (fun v F' I' J' hv => ?_)
  obtain ⟨rfl, rfl, rfl, rfl⟩ := hv
  refine And.intro ?_ ⟨rfl, rfl, rfl⟩
  have h : zl2i (zland (bw J' c W C row 0) 2147483647) = ((bw J' c W C row 0 % 2147483648 : Nat) : Int) := by
    rw [zland_eq (bw_lt hb row 0) (by decide), show (2147483647 : Nat) = 2 ^ 31 - 1 from rfl, Nat.and_two_pow_sub_one_eq_mod]
    exact zl2i_eq (Nat.mod_lt _ (by decide))
  rw [← h]
/-- the words after flip -/
def bfl (J : zJi) (c W C : Nat) (row : Int) (p b : Nat) : zJi :=
  if 32 < p % 64 then bfw (bfw J c W C row ((p / 64 : Nat) : Int) (b * 2 ^ (p % 64) % 18446744073709551616)) c W C row (((p / 64 : Nat) : Int) + 1) (b / 2 ^ (64 - p % 64)) else bfw J c W C row ((p / 64 : Nat) : Int) (b * 2 ^ (p % 64) % 18446744073709551616)
theorem c_X1_flip (l : Launch) (D : va_G) (sh : Nat → Option zS) {k c m : Nat} (hs : zsBits sh k c m) (F I : zFi) (J : zJi) {W C : Nat} (hb : bR F J k c m W C) {row : Int} {p b : Nat} (h1 : zi32 row) (hp : p < 2147483648) (hbb : b < 2147483648) :
    Cn l D yX1_flip wsX1_flip mX1_flip.2.2.2.2 sh [.inr (.inr (some k)), .inl row, .inl p, .inl b] F I J (fun v F' I' J' => v = none ∧ F' = F ∧ I' = I ∧ J' = bfl J c W C row p b) := by
  refine zmet (M := mX1_flip) rfl rfl rfl kX1_flip (Nat.le_of_ble_eq_true rfl) (fun X hX hR hl hD hsh => ?_)
  subst hl hD hsh
  refine zgo (fun _ => false) 200 hX hR rfl ?_
  have hp6 : p / 64 ≤ p := Nat.div_le_self _ _
  have hm : p % 64 < 64 := Nat.mod_lt _ (by decide)
  have e1 : zlshl (zi2l (b : Int)) (zand (p : Int) 63) = b * 2 ^ (p % 64) % 18446744073709551616 := by rw [zand63 hp, zi2l_eq hbb, zlshl_eq hm]
  refine qX1_flip_37 hX (c_X1_flipWord (xl X) (xD X) (xsh X) hs F I J hb (w := zshr p 6) (x := zlshl (zi2l (b : Int)) (zand (p : Int) 63)) h1 (by rw [zshr6 hp]; exact ⟨by omega, by omega⟩) (by rw [e1]; exact Nat.mod_lt _ (by decide))) hs.1 (fun v F' I' J' hv => ?_)
  obtain ⟨rfl, rfl, rfl, hJ⟩ := hv
  rw [e1, zshr6 hp] at hJ
  unfold bfl
  refine And.intro (fun c1 => ?_) (fun c1 => ?_)
  · exact And.intro rfl ⟨rfl, rfl, by rw [hJ, if_neg (by rw [zand63 hp] at c1; omega)]⟩
  · have h32 : 32 < p % 64 := by rw [zand63 hp] at c1; omega
    have hx0 : b * 2 ^ (p % 64) % 18446744073709551616 < 18446744073709551616 := Nat.mod_lt _ (by decide)
    have e2 : zlush (zi2l (b : Int)) (64 - zand (p : Int) 63) = b / 2 ^ (64 - p % 64) := by
      rw [zand63 hp, zi2l_eq hbb, show (64 : Int) - ((p % 64 : Nat) : Int) = ((64 - p % 64 : Nat) : Int) by omega, zlush_eq (by omega) (by omega)]
    have hb' : bR F' J' k c m W C := by
      obtain ⟨a1, a2, a3, a4, a5, a6, a7⟩ := hb
      exact ⟨a1, a2, a3, a4, a5, a6, by rw [hJ]; exact bfw_lt a7 hx0⟩
    have hdl : b / 2 ^ (64 - p % 64) ≤ b := Nat.div_le_self _ _
    refine qX1_flip_37 hX (c_X1_flipWord (xl X) (xD X) (xsh X) hs F' I' J' hb' (w := zshr p 6 + 1) (x := zlush (zi2l (b : Int)) (64 - zand (p : Int) 63)) h1 (by rw [zshr6 hp]; exact ⟨by omega, by omega⟩) (by rw [e2]; omega)) hs.1 (fun v F2 I2 J2 hv => ?_)
    obtain ⟨rfl, rfl, rfl, hJ2⟩ := hv
    rw [e2, zshr6 hp, hJ] at hJ2
    exact And.intro rfl ⟨rfl, rfl, by rw [hJ2, if_pos h32]⟩
theorem c_X1_restart (l : Launch) (D : va_G) (sh : Nat → Option zS) {k c m : Nat} (hs : zsBits sh k c m) (F I : zFi) (J : zJi) {p : Nat} (hp : p ≤ 320) :
    Cn l D yX1_restart wsX1_restart mX1_restart.2.2.2.2 sh [.inr (.inr (some k)), .inl p] F I J (fun v F' I' J' => v = none ∧ F' = zu (zu F k 1 ((max 1 ((p + 63) / 64) : Nat) : Int)) k 2 0 ∧ I' = I ∧ J' = J) := by
  refine zmet (M := mX1_restart) rfl rfl rfl kX1_restart (Nat.le_of_ble_eq_true rfl) (fun X hX hR hl hD hsh => ?_)
  subst hl hD hsh
  refine zgo (fun _ => false) 200 hX hR rfl ?_
  refine And.intro (by decide) ?_
  have e1 : zdiv ((p : Int) + 63) 64 = (((p + 63) / 64 : Nat) : Int) := zdiv_eq (a := p + 63) (d := 64) (by omega) (by decide) (by decide)
  have hq : (p + 63) / 64 ≤ 5 := by omega
  refine qX1_restart_28 hX (c_J9_min (xl X) (xD X) (xsh X) F I J (a := 5) (b := zdiv ((p : Int) + 63) 64) ⟨by decide, by decide⟩ (by rw [e1]; exact ⟨by omega, by omega⟩)) (fun v F' I' J' hv => ?_)
  obtain ⟨rfl, rfl, rfl, rfl⟩ := hv
  have e2 : (if (5 : Int) ≤ zdiv ((p : Int) + 63) 64 then 5 else zdiv ((p : Int) + 63) 64) = (((p + 63) / 64 : Nat) : Int) := by rw [e1]; split <;> omega
  refine qX1_restart_9 hX (c_J9_max (xl X) (xD X) (xsh X) F' I' J' (a := 1) (b := (if (5 : Int) ≤ zdiv ((p : Int) + 63) 64 then 5 else zdiv ((p : Int) + 63) 64)) ⟨by decide, by decide⟩ (by rw [e2]; exact ⟨by omega, by omega⟩)) (fun v F2 I2 J2 hv => ?_)
  obtain ⟨rfl, rfl, rfl, rfl⟩ := hv
  refine Exists.intro _ ⟨hs.1, ?_⟩
  refine Exists.intro _ ⟨hs.1, ?_⟩
  refine And.intro rfl ⟨?_, rfl, rfl⟩
  rw [e2]
  have e3 : (if (1 : Int) < (((p + 63) / 64 : Nat) : Int) then (((p + 63) / 64 : Nat) : Int) else 1) = ((max 1 ((p + 63) / 64) : Nat) : Int) := by
    split <;> omega
  rw [e3]
theorem c_X1_dropLast (l : Launch) (D : va_G) (sh : Nat → Option zS) {k c m : Nat} (hs : zsBits sh k c m) (F I : zFi) (J : zJi) {W C : Nat} (hb : bR F J k c m W (C + 1)) :
    Cn l D yX1_dropLast wsX1_dropLast mX1_dropLast.2.2.2.2 sh [.inr (.inr (some k))] F I J (fun v F' I' J' => v = none ∧ F' = zu F k 2 C ∧ I' = I ∧ J' = J) := by
  have hC' := hb.C
  obtain ⟨hW, hC, -⟩ := hb
  refine zmet (M := mX1_dropLast) rfl rfl rfl kX1_dropLast (Nat.le_of_ble_eq_true rfl) (fun X hX hR hl hD hsh => ?_)
  subst hl hD hsh
  refine zgo (fun _ => false) 200 hX hR rfl ?_
  refine Exists.intro _ ⟨hs.1, ?_⟩
  refine qX1_dropLast_9 hX (c_J9_max (xl X) (xD X) (xsh X) F I J (a := 0) (b := F k 2 - 1) ⟨by decide, by decide⟩ (by rw [hC]; exact ⟨by omega, by omega⟩)) (fun v F' I' J' hv => ?_)
  obtain ⟨rfl, rfl, rfl, rfl⟩ := hv
  refine Exists.intro _ ⟨hs.1, ?_⟩
  refine And.intro rfl ⟨?_, rfl, rfl⟩
  have e : (if (0 : Int) < F' k 2 - 1 then F' k 2 - 1 else 0) = (C : Int) := by rw [hC]; split <;> omega
  rw [e]
