/-! isInChart, isOdd; Chart -/
def zic (s t : Int) : Int := if 0 ≤ s ∧ s ≤ 5 ∧ 0 ≤ t ∧ t ≤ 14 then 1 else 0
theorem c_X8_isInChart (l : Launch) (D : va_G) (sh : Nat → Option zS) (F I : zFi) (J : zJi) {s t : Int} (h1 : zi32 s) (h2 : zi32 t) :
    Cn l D yX8_isInChart wsX8_isInChart mX8_isInChart.2.2.2.2 sh [.inl s, .inl t] F I J (zself F I J (.inl (zic s t))) := by
  unfold zi32 at h1 h2
  refine zmet (M := mX8_isInChart) rfl rfl rfl kX8_isInChart (Nat.le_of_ble_eq_true rfl) (fun X hX hR hl hD hsh => ?_)
  subst hl hD hsh
  refine zgo (fun _ => false) 200 hX hR rfl ?_
  unfold zic
  refine And.intro (fun c1 => ?_) (fun c1 => ?_)
  · exact And.intro (Or.inl rfl) ⟨by rw [if_neg (by omega)], rfl, rfl, rfl⟩
  refine And.intro (fun c2 => ?_) (fun c2 => ?_)
  · exact And.intro (Or.inl rfl) ⟨by rw [if_neg (by omega)], rfl, rfl, rfl⟩
  refine And.intro (fun c3 => ?_) (fun c3 => ?_)
  · exact And.intro (Or.inl rfl) ⟨by rw [if_neg (by omega)], rfl, rfl, rfl⟩
  refine And.intro (fun c4 => ?_) (fun c4 => ?_)
  · exact And.intro (Or.inl rfl) ⟨by rw [if_neg (by omega)], rfl, rfl, rfl⟩
  · exact And.intro (Or.inr rfl) ⟨by rw [if_pos (by omega)], rfl, rfl, rfl⟩
def zodd (n k : Int) : Int := if 0 ≤ k ∧ 0 ≤ n ∧ n.toNat &&& k.toNat = k.toNat then 1 else 0
theorem c_X8_isOdd (l : Launch) (D : va_G) (sh : Nat → Option zS) (F I : zFi) (J : zJi) {n k : Int} (h1 : zi32 n) (h2 : zi32 k) :
    Cn l D yX8_isOdd wsX8_isOdd mX8_isOdd.2.2.2.2 sh [.inl n, .inl k] F I J (zself F I J (.inl (zodd n k))) := by
  unfold zi32 at h1 h2
  refine zmet (M := mX8_isOdd) rfl rfl rfl kX8_isOdd (Nat.le_of_ble_eq_true rfl) (fun X hX hR hl hD hsh => ?_)
  subst hl hD hsh
  refine zgo (fun _ => false) 200 hX hR rfl ?_
  unfold zodd
  refine And.intro (fun c1 => ?_) (fun c1 => ?_)
  · exact And.intro (Or.inl rfl) ⟨by rw [if_neg (by omega)], rfl, rfl, rfl⟩
  refine And.intro (fun c2 => ?_) (fun c2 => ?_)
  · exact And.intro (Or.inl rfl) ⟨by rw [if_neg (by omega)], rfl, rfl, rfl⟩
  obtain ⟨n', rfl⟩ := Int.eq_ofNat_of_zero_le (show 0 ≤ n by omega)
  obtain ⟨k', rfl⟩ := Int.eq_ofNat_of_zero_le (show 0 ≤ k by omega)
  have e := zand_eq (a := n') (b := k') (by omega) (by omega)
  have hle : n' &&& k' ≤ n' := Nat.and_le_left
  refine And.intro (fun c3 => ?_) (fun c3 => ?_)
  · rw [e] at c3
    refine And.intro (Or.inl rfl) ⟨?_, rfl, rfl, rfl⟩
    rw [if_neg]
    intro h
    have h3 := h.2.2
    simp only [Int.toNat_natCast] at h3
    omega
  · rw [e] at c3
    refine And.intro (Or.inr rfl) ⟨?_, rfl, rfl, rfl⟩
    rw [if_pos]
    refine ⟨by omega, by omega, ?_⟩
    simp only [Int.toNat_natCast]
    omega
def zsCh (sh : Nat → Option zS) (h rk : Nat) : Prop := sh h = some (.inl (2, [some (some rk)])) ∧ ∃ cA, sh rk = some (.inr (.inl (cA, 270)))
def cix (r s t : Int) : Int := if 2 ≤ r ∧ r ≤ 4 ∧ 0 ≤ s ∧ s ≤ 5 ∧ 0 ≤ t ∧ t ≤ 14 then ((r - 2) * 6 + s) * 15 + t else -1
theorem cix_i (r s t : Int) : -1 ≤ cix r s t ∧ cix r s t < 270 := by
  unfold cix
  split <;> omega
theorem c_X2_index (l : Launch) (D : va_G) (sh : Nat → Option zS) (F I : zFi) (J : zJi) {r s t : Int} (h0 : zi32 r) (h1 : zi32 s) (h2 : zi32 t) :
    Cn l D yX2_index wsX2_index mX2_index.2.2.2.2 sh [.inl r, .inl s, .inl t] F I J (zself F I J (.inl (cix r s t))) := by
  refine zmet (M := mX2_index) rfl rfl rfl kX2_index (Nat.le_of_ble_eq_true rfl) (fun X hX hR hl hD hsh => ?_)
  subst hl hD hsh
  refine zgo (fun _ => false) 200 hX hR rfl ?_
  have h0' := h0
  unfold zi32 at h0'
  unfold cix
  refine And.intro (fun c1 => ?_) (fun c1 => ?_)
  · exact And.intro (by rw [if_neg (by omega)]) ⟨rfl, rfl, rfl⟩
  refine And.intro (fun c2 => ?_) (fun c2 => ?_)
  · exact And.intro (by rw [if_neg (by omega)]) ⟨rfl, rfl, rfl⟩
  refine qX2_index_15 hX (c_X8_isInChart (xl X) (xD X) (xsh X) F I J h1 h2) (fun v F' I' J' hv => ?_)
  obtain ⟨rfl, rfl, rfl, rfl⟩ := hv
  unfold zic
  refine And.intro (fun c3 => ?_) (fun c3 => ?_)
  · have hin : 0 ≤ s ∧ s ≤ 5 ∧ 0 ≤ t ∧ t ≤ 14 := by
      rcases Decidable.em (0 ≤ s ∧ s ≤ 5 ∧ 0 ≤ t ∧ t ≤ 14) with h | h
      · exact h
      · rw [if_neg h] at c3; exact absurd rfl c3
    exact And.intro (by rw [if_pos (by omega)]) ⟨rfl, rfl, rfl⟩
  · have hin : ¬ (0 ≤ s ∧ s ≤ 5 ∧ 0 ≤ t ∧ t ≤ 14) := fun h => by rw [if_pos h] at c3; exact absurd c3 (by decide)
    exact And.intro (by rw [if_neg (by omega)]) ⟨rfl, rfl, rfl⟩
def crk (I : zFi) (rk : Nat) (r s t : Int) : Int := if 0 ≤ cix r s t then I rk (cix r s t).toNat else 0
theorem c_X2_rankOf (l : Launch) (D : va_G) (sh : Nat → Option zS) {h rk : Nat} (hs : zsCh sh h rk) (F I : zFi) (J : zJi) {r s t : Int} (h0 : zi32 r) (h1 : zi32 s) (h2 : zi32 t) :
    Cn l D yX2_rankOf wsX2_rankOf mX2_rankOf.2.2.2.2 sh [.inr (.inr (some h)), .inl r, .inl s, .inl t] F I J (zself F I J (.inl (crk I rk r s t))) := by
  obtain ⟨hk, cA, hc⟩ := hs
  refine zmet (M := mX2_rankOf) rfl rfl rfl kX2_rankOf (Nat.le_of_ble_eq_true rfl) (fun X hX hR hl hD hsh => ?_)
  subst hl hD hsh
  refine zgo (fun _ => false) 200 hX hR rfl ?_
  refine qX2_rankOf_25 hX (c_X2_index (xl X) (xD X) (xsh X) F I J h0 h1 h2) (fun v F' I' J' hv => ?_)
  obtain ⟨rfl, rfl, rfl, rfl⟩ := hv
  have hi := cix_i r s t
  unfold crk
  refine And.intro (fun c1 => ?_) (fun c1 => ?_)
  · exact And.intro (by rw [if_neg (by omega)]) ⟨rfl, rfl, rfl⟩
  refine Exists.intro _ ⟨hk, ?_⟩
  refine Exists.intro _ ⟨hc, ?_⟩
  refine And.intro (fun c2 => ?_) (fun c2 => ?_)
  · omega
  refine Exists.intro _ ⟨hk, ?_⟩
  refine Exists.intro _ ⟨_, (cix r s t).toNat, hc, by omega, by omega, ?_⟩
  exact And.intro (by rw [if_pos (by omega)]) ⟨rfl, rfl, rfl⟩
theorem c_X2_tell (l : Launch) (D : va_G) (sh : Nat → Option zS) {h rk : Nat} (hs : zsCh sh h rk) (F I : zFi) (J : zJi) {r s t x : Int} (h0 : zi32 r) (h1 : zi32 s) (h2 : zi32 t) (hi0 : 0 ≤ cix r s t) :
    Cn l D yX2_tell wsX2_tell mX2_tell.2.2.2.2 sh [.inr (.inr (some h)), .inl r, .inl s, .inl t, .inl x] F I J (fun v F' I' J' => v = none ∧ F' = F ∧ I' = zu I rk (cix r s t).toNat x ∧ J' = J) := by
  obtain ⟨hk, cA, hc⟩ := hs
  refine zmet (M := mX2_tell) rfl rfl rfl kX2_tell (Nat.le_of_ble_eq_true rfl) (fun X hX hR hl hD hsh => ?_)
  subst hl hD hsh
  refine zgo (fun _ => false) 200 hX hR rfl ?_
  refine qX2_tell_25 hX (c_X2_index (xl X) (xD X) (xsh X) F I J h0 h1 h2) (fun v F' I' J' hv => ?_)
  obtain ⟨rfl, rfl, rfl, rfl⟩ := hv
  have hi := cix_i r s t
  refine And.intro (fun c1 => ?_) (fun c1 => ?_)
  · omega
  refine Exists.intro _ ⟨hk, ?_⟩
  refine Exists.intro _ ⟨hc, ?_⟩
  refine And.intro (fun c2 => ?_) (fun c2 => ?_)
  · omega
  refine Exists.intro _ ⟨hk, ?_⟩
  refine Exists.intro _ ⟨_, (cix r s t).toNat, hc, by omega, by omega, ?_⟩
  exact And.intro rfl ⟨rfl, rfl, rfl⟩
def csp (I : zFi) (rk : Nat) (r s t : Int) : Int := crk I rk r s t + crk I rk r (s - r) (t - r + 1)
theorem c_X2_spent (l : Launch) (D : va_G) (sh : Nat → Option zS) {h rk : Nat} (hs : zsCh sh h rk) (F I : zFi) (J : zJi) {r s t : Int} (h0 : 0 ≤ r ∧ r ≤ 10) (h1 : 0 ≤ s ∧ s ≤ 100) (h2 : 0 ≤ t ∧ t ≤ 100) :
    Cn l D yX2_spent wsX2_spent mX2_spent.2.2.2.2 sh [.inr (.inr (some h)), .inl r, .inl s, .inl t] F I J (zself F I J (.inl (csp I rk r s t))) := by
  refine zmet (M := mX2_spent) rfl rfl rfl kX2_spent (Nat.le_of_ble_eq_true rfl) (fun X hX hR hl hD hsh => ?_)
  subst hl hD hsh
  refine zgo (fun _ => false) 200 hX hR rfl ?_
  refine qX2_spent_29 hX (c_X2_rankOf (xl X) (xD X) (xsh X) hs F I J (r := r) (s := s) (t := t) ⟨by omega, by omega⟩ ⟨by omega, by omega⟩ ⟨by omega, by omega⟩) hs.1 (fun v F' I' J' hv => ?_)
  obtain ⟨rfl, rfl, rfl, rfl⟩ := hv
  refine qX2_spent_29 hX (c_X2_rankOf (xl X) (xD X) (xsh X) hs F' I' J' (r := r) (s := s - r) (t := t - r + 1) ⟨by omega, by omega⟩ ⟨by omega, by omega⟩ ⟨by omega, by omega⟩) hs.1 (fun v F2 I2 J2 hv => ?_)
  obtain ⟨rfl, rfl, rfl, rfl⟩ := hv
  exact And.intro rfl ⟨rfl, rfl, rfl⟩
/-- how many are above 0, from a place on -/
def ccn (f : Nat → Int) : Nat → Nat → Int
  | 0, _ => 0
  | n + 1, k => (if 0 < f k then 1 else 0) + ccn f n (k + 1)
theorem ccn_i (f : Nat → Int) : ∀ n k, 0 ≤ ccn f n k ∧ ccn f n k ≤ n := by
  intro n
  induction n with
  | zero => intro k; simp [ccn]
  | succ n ih => intro k; have := ih (k + 1); unfold ccn; split <;> omega
theorem c_X2_toldFrom (l : Launch) (D : va_G) (sh : Nat → Option zS) {h rk : Nat} (hs : zsCh sh h rk) (F I : zFi) (J : zJi) (hI : ∀ j, 0 ≤ I rk j ∧ I rk j ≤ 99) {i : Nat} (hi : i ≤ 270) :
    Cn l D yX2_toldFrom wsX2_toldFrom mX2_toldFrom.2.2.2.2 sh [.inr (.inr (some h)), .inl i] F I J (zself F I J (.inl (ccn (I rk) (270 - i) i))) := by
  obtain ⟨hk, cA, hc⟩ := hs
  refine zmet (M := mX2_toldFrom) rfl rfl rfl kX2_toldFrom (Nat.le_of_ble_eq_true rfl) (fun X hX hR hl hD hsh => ?_)
  subst hl hD hsh
  have loop : ∀ n k : Nat, ∀ a : Int, k + n = 270 → a + ccn (I rk) n k = ccn (I rk) (270 - i) i → HW X 8 [some (.inr (.inr (some h))), some (.inl (i : Int)), some (.inl a), some (.inl (k : Int))] [] F I J := by
    intro n
    induction n with
    | zero =>
      intro k a hk2 he
      refine zgo (fun pc => Nat.beq pc 8) 200 hX hR rfl ?_
      refine Exists.intro _ ⟨hk, ?_⟩
      refine Exists.intro _ ⟨hc, ?_⟩
      refine And.intro (fun c1 => ?_) (fun c1 => ?_)
      · exact And.intro (by rw [← he]; simp [ccn]) ⟨rfl, rfl, rfl⟩
      · omega
    | succ n ih =>
      intro k a hk2 he
      have he : a + ((if 0 < I rk k then 1 else 0) + ccn (I rk) n (k + 1)) = ccn (I rk) (270 - i) i := he
      have hb := hI k
      refine zgo (fun pc => Nat.beq pc 8) 200 hX hR rfl ?_
      refine Exists.intro _ ⟨hk, ?_⟩
      refine Exists.intro _ ⟨hc, ?_⟩
      refine And.intro (fun c1 => ?_) (fun c1 => ?_)
      · omega
      refine Exists.intro _ ⟨hk, ?_⟩
      refine Exists.intro _ ⟨_, k, hc, rfl, by omega, ?_⟩
      refine And.intro (fun c2 => ?_) (fun c2 => ?_)
      · exact ih (k + 1) a (by omega) (by rw [if_neg (by omega)] at he; omega)
      · exact ih (k + 1) (a + 1) (by omega) (by rw [if_pos (by omega)] at he; omega)
  refine zgo (fun pc => Nat.beq pc 8) 200 hX hR rfl ?_
  refine qX2_toldFrom_36 hX (c_J9_max (xl X) (xD X) (xsh X) F I J (a := 0) (b := (i : Int)) ⟨by decide, by decide⟩ ⟨by omega, by omega⟩) (fun v F' I' J' hv => ?_)
  obtain ⟨rfl, rfl, rfl, rfl⟩ := hv
  have e : (if (0 : Int) < (i : Int) then (i : Int) else 0) = (i : Int) := by split <;> omega
  rw [e]
  exact loop (270 - i) i 0 (by omega) (by omega)
theorem c_X2_told (l : Launch) (D : va_G) (sh : Nat → Option zS) {h rk : Nat} (hs : zsCh sh h rk) (F I : zFi) (J : zJi) (hI : ∀ j, 0 ≤ I rk j ∧ I rk j ≤ 99) :
    Cn l D yX2_told wsX2_told mX2_told.2.2.2.2 sh [.inr (.inr (some h))] F I J (zself F I J (.inl (ccn (I rk) 270 0))) := by
  refine zmet (M := mX2_told) rfl rfl rfl kX2_told (Nat.le_of_ble_eq_true rfl) (fun X hX hR hl hD hsh => ?_)
  subst hl hD hsh
  refine zgo (fun _ => false) 200 hX hR rfl ?_
  refine qX2_told_32 hX (c_X2_toldFrom (xl X) (xD X) (xsh X) hs F I J hI (i := 0) (by decide)) hs.1 (fun v F' I' J' hv => ?_)
  obtain ⟨rfl, rfl, rfl, rfl⟩ := hv
  exact And.intro rfl ⟨rfl, rfl, rfl⟩
def clo (I : zFi) (rk : Nat) (r : Int) : Int := if r < 4 ∧ 0 < ccn (I rk) (270 - (max 0 (cix (r + 1) 0 0)).toNat) (max 0 (cix (r + 1) 0 0)).toNat then 1 else 0
theorem c_X2_isLongerTold (l : Launch) (D : va_G) (sh : Nat → Option zS) {h rk : Nat} (hs : zsCh sh h rk) (F I : zFi) (J : zJi) (hI : ∀ j, 0 ≤ I rk j ∧ I rk j ≤ 99) {r : Int} (hr : 0 ≤ r ∧ r ≤ 10) :
    Cn l D yX2_isLongerTold wsX2_isLongerTold mX2_isLongerTold.2.2.2.2 sh [.inr (.inr (some h)), .inl r] F I J (zself F I J (.inl (clo I rk r))) := by
  refine zmet (M := mX2_isLongerTold) rfl rfl rfl kX2_isLongerTold (Nat.le_of_ble_eq_true rfl) (fun X hX hR hl hD hsh => ?_)
  subst hl hD hsh
  refine zgo (fun _ => false) 200 hX hR rfl ?_
  unfold clo
  refine And.intro (fun c1 => ?_) (fun c1 => ?_)
  · exact And.intro (Or.inl rfl) ⟨by rw [if_neg (by omega)], rfl, rfl, rfl⟩
  have hix := cix_i (r + 1) 0 0
  refine qX2_isLongerTold_25 hX (c_X2_index (xl X) (xD X) (xsh X) F I J (r := r + 1) (s := 0) (t := 0) ⟨by omega, by omega⟩ ⟨by decide, by decide⟩ ⟨by decide, by decide⟩) (fun v F' I' J' hv => ?_)
  obtain ⟨rfl, rfl, rfl, rfl⟩ := hv
  refine qX2_isLongerTold_36 hX (c_J9_max (xl X) (xD X) (xsh X) F' I' J' (a := 0) (b := cix (r + 1) 0 0) ⟨by decide, by decide⟩ ⟨by omega, by omega⟩) (fun v F2 I2 J2 hv => ?_)
  obtain ⟨rfl, rfl, rfl, rfl⟩ := hv
  have e : (if (0 : Int) < cix (r + 1) 0 0 then cix (r + 1) 0 0 else 0) = (((max 0 (cix (r + 1) 0 0)).toNat : Nat) : Int) := by split <;> omega
  rw [e]
  refine qX2_isLongerTold_32 hX (c_X2_toldFrom (xl X) (xD X) (xsh X) hs F2 I2 J2 hI (i := (max 0 (cix (r + 1) 0 0)).toNat) (by omega)) hs.1 (fun v F3 I3 J3 hv => ?_)
  obtain ⟨rfl, rfl, rfl, rfl⟩ := hv
  have hcc := ccn_i (I3 rk) (270 - (max 0 (cix (r + 1) 0 0)).toNat) (max 0 (cix (r + 1) 0 0)).toNat
  refine And.intro (fun c2 => ?_) (fun c2 => ?_)
  · exact And.intro (Or.inl rfl) ⟨by rw [if_neg (by omega)], rfl, rfl, rfl⟩
  · exact And.intro (Or.inr rfl) ⟨by rw [if_pos (by omega)], rfl, rfl, rfl⟩
theorem c_X2_wipe (l : Launch) (D : va_G) (sh : Nat → Option zS) {h rk : Nat} (hs : zsCh sh h rk) (F I : zFi) (J : zJi) :
    Cn l D yX2_wipe wsX2_wipe mX2_wipe.2.2.2.2 sh [.inr (.inr (some h))] F I J (fun v F' I' J' => v = none ∧ F' = F ∧ I' = zfill I rk 0 270 0 ∧ J' = J) := by
  obtain ⟨hk, cA, hc⟩ := hs
  refine zmet (M := mX2_wipe) rfl rfl rfl kX2_wipe (Nat.le_of_ble_eq_true rfl) (fun X hX hR hl hD hsh => ?_)
  subst hl hD hsh
  refine zgo (fun _ => false) 200 hX hR rfl ?_
  refine Exists.intro _ ⟨hk, ?_⟩
  refine qX2_wipe_19 hX (c_J7_fill (xl X) (xD X) (xsh X) hc (by decide) F I J 0) (fun v F' I' J' hv => ?_)
  obtain ⟨rfl, rfl, rfl, rfl⟩ := hv
  exact And.intro rfl ⟨rfl, rfl, rfl⟩
