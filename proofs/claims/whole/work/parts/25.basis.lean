/-! Basis -/
def zsBas (sh : Nat → Option zS) (b nu st : Nat) : Prop := sh b = some (.inl (0, [some (some nu), some (some st)])) ∧ (∃ cA, sh nu = some (.inr (.inl (cA, 183)))) ∧ ∃ cA, sh st = some (.inr (.inl (cA, 16)))
def bT (I : zFi) (nu st : Nat) (N S : Nat → Nat) : Prop := (∀ j, j < 183 → I nu j = (N j : Int)) ∧ (∀ j, j < 16 → I st j = (S j : Int)) ∧ (∀ j, S j ≤ 61) ∧ ∀ j, N j ≤ 61
def bst (S : Nat → Nat) (d : Int) : Nat := S (min d.toNat 15)
def bsz (S : Nat → Nat) (d : Int) : Int := if 0 ≤ d ∧ d ≤ 14 then (S (d.toNat + 1) : Int) - S d.toNat else 0
def bnm (N : Nat → Nat) (t j : Int) : Int := if 0 ≤ t ∧ t < 61 ∧ 0 ≤ j ∧ j < 3 then (N (t.toNat * 3 + j.toNat) : Int) else 0
def bfd (N : Nat → Nat) (a b c : Int) : Nat → Nat → Int
  | 0, _ => -1
  | n + 1, t => if bnm N t 0 = a ∧ bnm N t 1 = b ∧ bnm N t 2 = c then (t : Int) else bfd N a b c n (t + 1)
def bbt (S : Nat → Nat) (d t : Int) : Int := if 0 ≤ t - bst S d ∧ t - bst S d < bsz S d then ((2 ^ (t - bst S d).toNat : Nat) : Int) else 0
theorem c_X0_start (l : Launch) (D : va_G) (sh : Nat → Option zS) {b nu st : Nat} (hs : zsBas sh b nu st) (F I : zFi) (J : zJi) {N S : Nat → Nat} (hT : bT I nu st N S) {d : Int} (hd : zi32 d) :
    Cn l D yX0_start wsX0_start mX0_start.2.2.2.2 sh [.inr (.inr (some b)), .inl d] F I J (zself F I J (.inl (bst S d : Int))) := by
  obtain ⟨hk, -, cA, hc⟩ := hs
  refine zmet (M := mX0_start) rfl rfl rfl kX0_start (Nat.le_of_ble_eq_true rfl) (fun X hX hR hl hD hsh => ?_)
  subst hl hD hsh
  refine zgo (fun _ => false) 200 hX hR rfl ?_
  refine Exists.intro _ ⟨hk, ?_⟩
  refine qX0_start_22 hX (c_J9_min (xl X) (xD X) (xsh X) F I J (a := d) (b := 15) hd ⟨by decide, by decide⟩) (fun v F' I' J' hv => ?_)
  obtain ⟨rfl, rfl, rfl, rfl⟩ := hv
  refine qX0_start_27 hX (c_J9_max (xl X) (xD X) (xsh X) F' I' J' (a := 0) (b := if d ≤ 15 then d else 15) ⟨by decide, by decide⟩ (by unfold zi32 at hd ⊢; split <;> omega)) (fun v F2 I2 J2 hv => ?_)
  obtain ⟨rfl, rfl, rfl, rfl⟩ := hv
  refine Exists.intro _ ⟨_, min d.toNat 15, hc, by split <;> split <;> omega, by omega, ?_⟩
  exact And.intro (by rw [hT.2.1 _ (by omega)]; rfl) ⟨rfl, rfl, rfl⟩
theorem c_X0_size (l : Launch) (D : va_G) (sh : Nat → Option zS) {b nu st : Nat} (hs : zsBas sh b nu st) (F I : zFi) (J : zJi) {N S : Nat → Nat} (hT : bT I nu st N S) {d : Int} (hd : zi32 d) :
    Cn l D yX0_size wsX0_size mX0_size.2.2.2.2 sh [.inr (.inr (some b)), .inl d] F I J (zself F I J (.inl (bsz S d))) := by
  obtain ⟨hk, -, cA, hc⟩ := hs
  refine zmet (M := mX0_size) rfl rfl rfl kX0_size (Nat.le_of_ble_eq_true rfl) (fun X hX hR hl hD hsh => ?_)
  subst hl hD hsh
  refine zgo (fun _ => false) 200 hX hR rfl ?_
  unfold bsz
  refine And.intro (fun c1 => ?_) (fun c1 => ?_)
  · exact And.intro (by rw [if_neg (by omega)]) ⟨rfl, rfl, rfl⟩
  refine And.intro (fun c2 => ?_) (fun c2 => ?_)
  · refine Exists.intro _ ⟨hk, ?_⟩
    refine Exists.intro _ ⟨_, d.toNat + 1, hc, by omega, by omega, ?_⟩
    refine Exists.intro _ ⟨hk, ?_⟩
    refine Exists.intro _ ⟨_, d.toNat, hc, by omega, by omega, ?_⟩
    exact And.intro (by rw [if_pos (by omega), hT.2.1 _ (by omega), hT.2.1 _ (by omega)]) ⟨rfl, rfl, rfl⟩
  · exact And.intro (by rw [if_neg (by omega)]) ⟨rfl, rfl, rfl⟩
theorem c_X0_numberAt (l : Launch) (D : va_G) (sh : Nat → Option zS) {b nu st : Nat} (hs : zsBas sh b nu st) (F I : zFi) (J : zJi) {N S : Nat → Nat} (hT : bT I nu st N S) {t j : Int} (ht : zi32 t) (hj : zi32 j) :
    Cn l D yX0_numberAt wsX0_numberAt mX0_numberAt.2.2.2.2 sh [.inr (.inr (some b)), .inl t, .inl j] F I J (zself F I J (.inl (bnm N t j))) := by
  obtain ⟨hk, ⟨cA, hc⟩, -⟩ := hs
  refine zmet (M := mX0_numberAt) rfl rfl rfl kX0_numberAt (Nat.le_of_ble_eq_true rfl) (fun X hX hR hl hD hsh => ?_)
  subst hl hD hsh
  refine zgo (fun _ => false) 200 hX hR rfl ?_
  unfold bnm
  refine And.intro (fun c1 => ?_) (fun c1 => ?_)
  · exact And.intro (by rw [if_neg (by omega)]) ⟨rfl, rfl, rfl⟩
  refine And.intro (fun c2 => ?_) (fun c2 => ?_)
  · exact And.intro (by rw [if_neg (by omega)]) ⟨rfl, rfl, rfl⟩
  refine And.intro (fun c3 => ?_) (fun c3 => ?_)
  · exact And.intro (by rw [if_neg (by omega)]) ⟨rfl, rfl, rfl⟩
  refine And.intro (fun c4 => ?_) (fun c4 => ?_)
  · exact And.intro (by rw [if_neg (by omega)]) ⟨rfl, rfl, rfl⟩
  refine Exists.intro _ ⟨hk, ?_⟩
  refine Exists.intro _ ⟨_, t.toNat * 3 + j.toNat, hc, by omega, by omega, ?_⟩
  exact And.intro (by rw [if_pos (by omega), hT.1 _ (by omega)]) ⟨rfl, rfl, rfl⟩
theorem bnm_i {I : zFi} {nu st : Nat} {N S : Nat → Nat} (hT : bT I nu st N S) (t j : Int) : 0 ≤ bnm N t j ∧ bnm N t j ≤ 61 := by
  unfold bnm
  split
  · have := hT.2.2.2 (t.toNat * 3 + j.toNat); omega
  · omega
theorem bst_i {I : zFi} {nu st : Nat} {N S : Nat → Nat} (hT : bT I nu st N S) (d : Int) : bst S d ≤ 61 := hT.2.2.1 _
theorem c_X0_find (l : Launch) (D : va_G) (sh : Nat → Option zS) {b nu st : Nat} (hs : zsBas sh b nu st) (F I : zFi) (J : zJi) {N S : Nat → Nat} (hT : bT I nu st N S) {d a1 a2 a3 : Int} (hd : zi32 d) (hd1 : zi32 (d + 1)) (h1 : zi32 a1) (h2 : zi32 a2) (h3 : zi32 a3) :
    Cn l D yX0_find wsX0_find mX0_find.2.2.2.2 sh [.inr (.inr (some b)), .inl d, .inl a1, .inl a2, .inl a3] F I J (zself F I J (.inl (bfd N a1 a2 a3 (bst S (d + 1) - bst S d) (bst S d)))) := by
  refine zmet (M := mX0_find) rfl rfl rfl kX0_find (Nat.le_of_ble_eq_true rfl) (fun X hX hR hl hD hsh => ?_)
  subst hl hD hsh
  have hb1 := bst_i hT d
  have hb2 := bst_i hT (d + 1)
  have loop : ∀ n t : Nat, t ≤ 61 → n = bst S (d + 1) - t → HW X 7 [some (.inr (.inr (some b))), some (.inl d), some (.inl a1), some (.inl a2), some (.inl a3), some (.inl (t : Int))] [] F I J ∨ ¬ bfd N a1 a2 a3 n t = bfd N a1 a2 a3 (bst S (d + 1) - bst S d) (bst S d) := by
    intro n
    induction n with
    | zero =>
      intro t ht hn
      by_cases e : bfd N a1 a2 a3 0 t = bfd N a1 a2 a3 (bst S (d + 1) - bst S d) (bst S d)
      · refine Or.inl ?_
        refine zgo (fun pc => Nat.beq pc 7) 200 hX hR rfl ?_
        refine qX0_find_30 hX (c_X0_start (xl X) (xD X) (xsh X) hs F I J hT hd1) hs.1 (fun v F' I' J' hv => ?_)
        obtain ⟨rfl, rfl, rfl, rfl⟩ := hv
        refine And.intro (fun c1 => ?_) (fun c1 => ?_)
        · exact And.intro (by rw [← e]; rfl) ⟨rfl, rfl, rfl⟩
        · omega
      · exact Or.inr e
    | succ n ih =>
      intro t ht hn
      by_cases e : bfd N a1 a2 a3 (n + 1) t = bfd N a1 a2 a3 (bst S (d + 1) - bst S d) (bst S d)
      · refine Or.inl ?_
        have e' : (if bnm N t 0 = a1 ∧ bnm N t 1 = a2 ∧ bnm N t 2 = a3 then (t : Int) else bfd N a1 a2 a3 n (t + 1)) = bfd N a1 a2 a3 (bst S (d + 1) - bst S d) (bst S d) := e
        have b0 := bnm_i hT t 0
        have b1 := bnm_i hT t 1
        have b2 := bnm_i hT t 2
        have back : ¬ (bnm N t 0 = a1 ∧ bnm N t 1 = a2 ∧ bnm N t 2 = a3) → HW X 7 [some (.inr (.inr (some b))), some (.inl d), some (.inl a1), some (.inl a2), some (.inl a3), some (.inl ((t + 1 : Nat) : Int))] [] F I J := fun hne => by
          rcases ih (t + 1) (by omega) (by omega) with h | h
          · exact h
          · rw [if_neg hne] at e'
            exact absurd e' h
        unfold zi32 at h1 h2 h3
        refine zgo (fun pc => Nat.beq pc 7) 200 hX hR rfl ?_
        refine qX0_find_30 hX (c_X0_start (xl X) (xD X) (xsh X) hs F I J hT hd1) hs.1 (fun v F' I' J' hv => ?_)
        obtain ⟨rfl, rfl, rfl, rfl⟩ := hv
        refine And.intro (fun c1 => ?_) (fun c1 => ?_)
        · omega
        refine qX0_find_34 hX (c_X0_numberAt (xl X) (xD X) (xsh X) hs F' I' J' hT (t := (t : Int)) (j := 0) ⟨by omega, by omega⟩ ⟨by decide, by decide⟩) hs.1 (fun v F2 I2 J2 hv => ?_)
        obtain ⟨rfl, rfl, rfl, rfl⟩ := hv
        refine And.intro (fun c2 => ?_) (fun c2 => ?_)
        · exact back (fun h => c2 (by rw [h.1]))
        refine qX0_find_34 hX (c_X0_numberAt (xl X) (xD X) (xsh X) hs F2 I2 J2 hT (t := (t : Int)) (j := 1) ⟨by omega, by omega⟩ ⟨by decide, by decide⟩) hs.1 (fun v F3 I3 J3 hv => ?_)
        obtain ⟨rfl, rfl, rfl, rfl⟩ := hv
        refine And.intro (fun c3 => ?_) (fun c3 => ?_)
        · exact back (fun h => c3 (by rw [h.2.1]))
        refine qX0_find_34 hX (c_X0_numberAt (xl X) (xD X) (xsh X) hs F3 I3 J3 hT (t := (t : Int)) (j := 2) ⟨by omega, by omega⟩ ⟨by decide, by decide⟩) hs.1 (fun v F4 I4 J4 hv => ?_)
        obtain ⟨rfl, rfl, rfl, rfl⟩ := hv
        refine And.intro (fun c4 => ?_) (fun c4 => ?_)
        · exact back (fun h => c4 (by rw [h.2.2]))
        · rw [if_pos ⟨by omega, by omega, by omega⟩] at e'
          exact And.intro (by rw [← e']) ⟨rfl, rfl, rfl⟩
      · exact Or.inr e
  refine zgo (fun pc => Nat.beq pc 7) 200 hX hR rfl ?_
  refine qX0_find_30 hX (c_X0_start (xl X) (xD X) (xsh X) hs F I J hT hd) hs.1 (fun v F' I' J' hv => ?_)
  obtain ⟨rfl, rfl, rfl, rfl⟩ := hv
  rcases loop (bst S (d + 1) - bst S d) (bst S d) hb1 rfl with h | h
  · exact h
  · exact absurd rfl h
theorem c_X0_bit (l : Launch) (D : va_G) (sh : Nat → Option zS) {b nu st : Nat} (hs : zsBas sh b nu st) (F I : zFi) (J : zJi) {N S : Nat → Nat} (hT : bT I nu st N S) {d t : Int} (hd : zi32 d) (ht : -1 ≤ t ∧ t ≤ 1000) (h30 : bsz S d ≤ 30) :
    Cn l D yX0_bit wsX0_bit mX0_bit.2.2.2.2 sh [.inr (.inr (some b)), .inl d, .inl t] F I J (zself F I J (.inl (bbt S d t))) := by
  refine zmet (M := mX0_bit) rfl rfl rfl kX0_bit (Nat.le_of_ble_eq_true rfl) (fun X hX hR hl hD hsh => ?_)
  subst hl hD hsh
  have hb1 := bst_i hT d
  refine zgo (fun _ => false) 200 hX hR rfl ?_
  refine qX0_bit_30 hX (c_X0_start (xl X) (xD X) (xsh X) hs F I J hT hd) hs.1 (fun v F' I' J' hv => ?_)
  obtain ⟨rfl, rfl, rfl, rfl⟩ := hv
  unfold bbt
  have hz : -61 ≤ bsz S d := by
    unfold bsz
    split
    · have := hT.2.2.1 d.toNat; omega
    · omega
  refine And.intro (fun c1 => ?_) (fun c1 => ?_)
  · exact And.intro (by rw [if_neg (by omega)]) ⟨rfl, rfl, rfl⟩
  refine qX0_bit_37 hX (c_X0_size (xl X) (xD X) (xsh X) hs F' I' J' hT hd) hs.1 (fun v F2 I2 J2 hv => ?_)
  obtain ⟨rfl, rfl, rfl, rfl⟩ := hv
  refine And.intro (fun c2 => ?_) (fun c2 => ?_)
  · exact And.intro (by rw [if_neg (by omega)]) ⟨rfl, rfl, rfl⟩
  · refine And.intro ?_ ⟨rfl, rfl, rfl⟩
    rw [if_pos (by omega)]
    have e : t - (bst S d : Int) = (((t - bst S d).toNat : Nat) : Int) := by omega
    have h2 : 1 * 2 ^ (t - (bst S d : Int)).toNat < 2147483648 := by
      rw [Nat.one_mul]
      exact Nat.pow_lt_pow_right (n := 31) (by decide) (by omega)
    have h3 := zshl_eq (a := 1) (k := (t - (bst S d : Int)).toNat) (by omega) h2
    rw [← e, Nat.one_mul] at h3
    rw [← h3]
    rfl
theorem c_X0_share (l : Launch) (D : va_G) (sh : Nat → Option zS) (F I : zFi) (J : zJi) {r w : Nat} (hr : r < 2147483648) (h0 : 0 < w) (hw : w < 2147483648) :
    Cn l D yX0_share wsX0_share mX0_share.2.2.2.2 sh [.inl r, .inl w] F I J (zself F I J (.inl (if r % w = 0 then ((r / w : Nat) : Int) else -1))) := by
  refine zmet (M := mX0_share) rfl rfl rfl kX0_share (Nat.le_of_ble_eq_true rfl) (fun X hX hR hl hD hsh => ?_)
  subst hl hD hsh
  have e1 : zrem (r : Int) (w : Int) = ((r % w : Nat) : Int) := zrem_eq hr h0 hw
  have hlt : r % w < w := Nat.mod_lt _ h0
  refine zgo (fun _ => false) 200 hX hR rfl ?_
  refine And.intro (fun c1 => ?_) (fun c1 => ?_)
  · omega
  refine And.intro (by omega) ?_
  refine And.intro (fun c2 => ?_) (fun c2 => ?_)
  · rw [e1] at c2
    exact And.intro (by rw [if_neg (by omega)]) ⟨rfl, rfl, rfl⟩
  · rw [e1] at c2
    refine And.intro (by omega) ?_
    exact And.intro (by rw [if_pos (by omega), ← zdiv_eq hr h0 hw]) ⟨rfl, rfl, rfl⟩
