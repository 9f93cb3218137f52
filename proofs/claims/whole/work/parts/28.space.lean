/-! Space -/
def zsSp (sh : Nat → Option zS) (p dg ac fa : Nat) : Prop := sh p = some (.inl (5, [some (some dg), some (some ac), some (some fa), none, none])) ∧ (∃ cA, sh dg = some (.inr (.inl (cA, 12)))) ∧ (∃ cA, sh ac = some (.inr (.inl (cA, 156)))) ∧ ∃ cA, sh fa = some (.inr (.inl (cA, 3)))
theorem c_X5_size (l : Launch) (D : va_G) (sh : Nat → Option zS) {p dg ac fa : Nat} (hs : zsSp sh p dg ac fa) (F I : zFi) (J : zJi) :
    Cn l D yX5_size wsX5_size mX5_size.2.2.2.2 sh [.inr (.inr (some p))] F I J (zself F I J (.inl (F p 3))) := by
  refine zmet (M := mX5_size) rfl rfl rfl kX5_size (Nat.le_of_ble_eq_true rfl) (fun X hX hR hl hD hsh => ?_)
  subst hl hD hsh
  refine zgo (fun _ => false) 200 hX hR rfl ?_
  refine Exists.intro _ ⟨hs.1, ?_⟩
  exact And.intro rfl ⟨rfl, rfl, rfl⟩
def shas (n : Nat) (e : Int) : Int := if 0 ≤ e ∧ e < n then 1 else 0
theorem c_X5_has (l : Launch) (D : va_G) (sh : Nat → Option zS) {p dg ac fa : Nat} (hs : zsSp sh p dg ac fa) (F I : zFi) (J : zJi) {n : Nat} (hn : F p 3 = (n : Int)) (hn2 : n ≤ 12) {e : Int} (he : zi32 e) :
    Cn l D yX5_has wsX5_has mX5_has.2.2.2.2 sh [.inr (.inr (some p)), .inl e] F I J (zself F I J (.inl (shas n e))) := by
  unfold zi32 at he
  refine zmet (M := mX5_has) rfl rfl rfl kX5_has (Nat.le_of_ble_eq_true rfl) (fun X hX hR hl hD hsh => ?_)
  subst hl hD hsh
  refine zgo (fun _ => false) 200 hX hR rfl ?_
  unfold shas
  refine And.intro (fun c1 => ?_) (fun c1 => ?_)
  · exact And.intro (Or.inl rfl) ⟨by rw [if_neg (by omega)], rfl, rfl, rfl⟩
  refine Exists.intro _ ⟨hs.1, ?_⟩
  refine And.intro (fun c2 => ?_) (fun c2 => ?_)
  · exact And.intro (Or.inl rfl) ⟨by rw [if_neg (by omega)], rfl, rfl, rfl⟩
  refine And.intro (fun c3 => ?_) (fun c3 => ?_)
  · omega
  · exact And.intro (Or.inr rfl) ⟨by rw [if_pos (by omega)], rfl, rfl, rfl⟩
def sdg (I : zFi) (dg n : Nat) (e : Int) : Int := if 0 ≤ e ∧ e < n then I dg e.toNat else 0
theorem c_X5_degreeOf (l : Launch) (D : va_G) (sh : Nat → Option zS) {p dg ac fa : Nat} (hs : zsSp sh p dg ac fa) (F I : zFi) (J : zJi) {n : Nat} (hn : F p 3 = (n : Int)) (hn2 : n ≤ 12) {e : Int} (he : zi32 e) :
    Cn l D yX5_degreeOf wsX5_degreeOf mX5_degreeOf.2.2.2.2 sh [.inr (.inr (some p)), .inl e] F I J (zself F I J (.inl (sdg I dg n e))) := by
  refine zmet (M := mX5_degreeOf) rfl rfl rfl kX5_degreeOf (Nat.le_of_ble_eq_true rfl) (fun X hX hR hl hD hsh => ?_)
  subst hl hD hsh
  refine zgo (fun _ => false) 200 hX hR rfl ?_
  unfold sdg
  refine qX5_degreeOf_25 hX (c_X5_has (xl X) (xD X) (xsh X) hs F I J hn hn2 he) hs.1 (fun v F' I' J' hv => ?_)
  obtain ⟨rfl, rfl, rfl, rfl⟩ := hv
  unfold shas
  refine And.intro (fun c1 => ?_) (fun c1 => ?_)
  · have h : ¬ (0 ≤ e ∧ e < n) := fun h => by rw [if_pos h] at c1; exact absurd c1 (by decide)
    exact And.intro (by rw [if_neg h]) ⟨rfl, rfl, rfl⟩
  · have h : 0 ≤ e ∧ e < n := Decidable.byContradiction fun h => by rw [if_neg h] at c1; exact c1 rfl
    obtain ⟨cA, hc⟩ := hs.2.1
    refine Exists.intro _ ⟨hs.1, ?_⟩
    refine Exists.intro _ ⟨_, e.toNat, hc, by omega, by omega, ?_⟩
    exact And.intro (by rw [if_pos h]) ⟨rfl, rfl, rfl⟩
def sac (I : zFi) (ac : Nat) (i e : Int) : Int := if 0 ≤ e ∧ e < 12 ∧ 1 ≤ i ∧ i ≤ 12 then I ac (e.toNat * 13 + i.toNat) else 0
theorem c_X5_acted (l : Launch) (D : va_G) (sh : Nat → Option zS) {p dg ac fa : Nat} (hs : zsSp sh p dg ac fa) (F I : zFi) (J : zJi) {i e : Int} (hi : zi32 i) (he : zi32 e) :
    Cn l D yX5_acted wsX5_acted mX5_acted.2.2.2.2 sh [.inr (.inr (some p)), .inl i, .inl e] F I J (zself F I J (.inl (sac I ac i e))) := by
  unfold zi32 at hi he
  refine zmet (M := mX5_acted) rfl rfl rfl kX5_acted (Nat.le_of_ble_eq_true rfl) (fun X hX hR hl hD hsh => ?_)
  subst hl hD hsh
  refine zgo (fun _ => false) 200 hX hR rfl ?_
  unfold sac
  refine And.intro (fun c1 => ?_) (fun c1 => ?_)
  · refine And.intro (fun c => ?_) (fun c => absurd rfl c)
    exact And.intro (by rw [if_neg (by omega)]) ⟨rfl, rfl, rfl⟩
  refine And.intro (fun c2 => ?_) (fun c2 => ?_)
  · refine And.intro (fun c => ?_) (fun c => absurd rfl c)
    exact And.intro (by rw [if_neg (by omega)]) ⟨rfl, rfl, rfl⟩
  refine And.intro (fun c3 => ?_) (fun c3 => ?_)
  · refine And.intro (fun c => ?_) (fun c => absurd rfl c)
    exact And.intro (by rw [if_neg (by omega)]) ⟨rfl, rfl, rfl⟩
  refine And.intro (fun c4 => ?_) (fun c4 => ?_)
  · refine And.intro (fun c => ?_) (fun c => absurd rfl c)
    exact And.intro (by rw [if_neg (by omega)]) ⟨rfl, rfl, rfl⟩
  refine And.intro (fun c => absurd c (by decide)) (fun c => ?_)
  obtain ⟨cA, hc⟩ := hs.2.2.1
  refine Exists.intro _ ⟨hs.1, ?_⟩
  refine Exists.intro _ ⟨_, e.toNat * 13 + i.toNat, hc, by omega, by omega, ?_⟩
  exact And.intro (by rw [if_pos (by omega)]) ⟨rfl, rfl, rfl⟩
theorem c_X5_setAct (l : Launch) (D : va_G) (sh : Nat → Option zS) {p dg ac fa : Nat} (hs : zsSp sh p dg ac fa) (F I : zFi) (J : zJi) {n : Nat} (hn : F p 3 = (n : Int)) (hn2 : n ≤ 12) {i e x : Int} (hi : 1 ≤ i ∧ i ≤ 12) (he : 0 ≤ e ∧ e < n) :
    Cn l D yX5_setAct wsX5_setAct mX5_setAct.2.2.2.2 sh [.inr (.inr (some p)), .inl i, .inl e, .inl x] F I J (fun v F' I' J' => v = none ∧ F' = zu F p 4 0 ∧ I' = zu I ac (e.toNat * 13 + i.toNat) x ∧ J' = J) := by
  refine zmet (M := mX5_setAct) rfl rfl rfl kX5_setAct (Nat.le_of_ble_eq_true rfl) (fun X hX hR hl hD hsh => ?_)
  subst hl hD hsh
  refine zgo (fun _ => false) 200 hX hR rfl ?_
  refine qX5_setAct_25 hX (c_X5_has (xl X) (xD X) (xsh X) hs F I J hn hn2 (e := e) ⟨by omega, by omega⟩) hs.1 (fun v F' I' J' hv => ?_)
  obtain ⟨rfl, rfl, rfl, rfl⟩ := hv
  unfold shas
  rw [if_pos he]
  refine And.intro (fun c1 => absurd c1 (by decide)) (fun c1 => ?_)
  refine And.intro (fun c2 => by omega) (fun c2 => ?_)
  refine And.intro (fun c3 => by omega) (fun c3 => ?_)
  obtain ⟨cA, hc⟩ := hs.2.2.1
  refine Exists.intro _ ⟨hs.1, ?_⟩
  refine Exists.intro _ ⟨_, e.toNat * 13 + i.toNat, hc, by omega, by omega, ?_⟩
  refine Exists.intro _ ⟨hs.1, Or.inl rfl, ?_⟩
  exact And.intro rfl ⟨rfl, rfl, rfl⟩
theorem c_X5_restart (l : Launch) (D : va_G) (sh : Nat → Option zS) {p dg ac fa : Nat} (hs : zsSp sh p dg ac fa) (F I : zFi) (J : zJi) :
    Cn l D yX5_restart wsX5_restart mX5_restart.2.2.2.2 sh [.inr (.inr (some p))] F I J (fun v F' I' J' => v = none ∧ F' = zu (zu F p 3 0) p 4 0 ∧ I' = zfill I ac 0 156 0 ∧ J' = J) := by
  obtain ⟨cA, hc⟩ := hs.2.2.1
  refine zmet (M := mX5_restart) rfl rfl rfl kX5_restart (Nat.le_of_ble_eq_true rfl) (fun X hX hR hl hD hsh => ?_)
  subst hl hD hsh
  refine zgo (fun _ => false) 200 hX hR rfl ?_
  refine Exists.intro _ ⟨hs.1, ?_⟩
  refine Exists.intro _ ⟨hs.1, Or.inl rfl, ?_⟩
  refine Exists.intro _ ⟨hs.1, ?_⟩
  refine qX5_restart_33 hX (c_J7_fill (xl X) (xD X) (xsh X) hc (by decide) _ I J 0) (fun v F' I' J' hv => ?_)
  obtain ⟨rfl, rfl, rfl, rfl⟩ := hv
  exact And.intro rfl ⟨rfl, rfl, rfl⟩
theorem c_X5_add (l : Launch) (D : va_G) (sh : Nat → Option zS) {p dg ac fa : Nat} (hs : zsSp sh p dg ac fa) (F I : zFi) (J : zJi) {n : Nat} (hn : F p 3 = (n : Int)) (hn2 : n < 12) {d : Int} :
    Cn l D yX5_add wsX5_add mX5_add.2.2.2.2 sh [.inr (.inr (some p)), .inl d] F I J (fun v F' I' J' => v = some (.inl (n : Int)) ∧ F' = zu (zu F p 3 ((n + 1 : Nat) : Int)) p 4 0 ∧ I' = zu I dg n d ∧ J' = J) := by
  obtain ⟨cA, hc⟩ := hs.2.1
  refine zmet (M := mX5_add) rfl rfl rfl kX5_add (Nat.le_of_ble_eq_true rfl) (fun X hX hR hl hD hsh => ?_)
  subst hl hD hsh
  refine zgo (fun _ => false) 200 hX hR rfl ?_
  refine Exists.intro _ ⟨hs.1, ?_⟩
  refine And.intro (fun c1 => ?_) (fun c1 => by omega)
  refine Exists.intro _ ⟨hs.1, ?_⟩
  refine Exists.intro _ ⟨hs.1, ?_⟩
  refine Exists.intro _ ⟨_, n, hc, hn, by omega, ?_⟩
  refine Exists.intro _ ⟨hs.1, ?_⟩
  refine Exists.intro _ ⟨hs.1, ?_⟩
  refine Exists.intro _ ⟨hs.1, Or.inl rfl, ?_⟩
  refine Exists.intro _ ⟨hs.1, ?_⟩
  refine And.intro ?_ ⟨?_, rfl, rfl⟩
  · have e : zu (zu F p 3 (F p 3 + 1)) p 4 0 p 3 - 1 = (n : Int) := by
      rw [zu_n (by omega), zu_s, hn]
      omega
    exact congrArg (fun z => some (Sum.inl z)) e
  · rw [hn]
    rfl
/-- all ELEMENTS of a degree, as bits, of the first n -/
def sod (f : Nat → Int) (d : Int) : Nat → Nat
  | 0 => 0
  | n + 1 => sod f d n + (if f n = d then 2 ^ n else 0)
theorem sod_succ (f : Nat → Int) (d : Int) (n : Nat) : sod f d (n + 1) = sod f d n + (if f n = d then 2 ^ n else 0) := rfl
theorem sod_lt (f : Nat → Int) (d : Int) : ∀ n, sod f d n < 2 ^ n := by
  intro n
  induction n with
  | zero => simp [sod]
  | succ n ih =>
    rw [sod_succ, Nat.pow_succ]
    split <;> omega
theorem zor_bit {a n : Nat} (h : a < 2 ^ n) (hn : n < 31) : zor (a : Int) ((2 ^ n : Nat) : Int) = ((a + 2 ^ n : Nat) : Int) := by
  have h2 : 2 ^ n < 2147483648 := Nat.pow_lt_pow_right (n := 31) (by decide) hn
  rw [zor_eq (by omega) h2]
  congr 1
  have := Nat.two_pow_add_eq_or_of_lt h 1
  rw [Nat.mul_one] at this
  rw [Nat.or_comm, ← this, Nat.add_comm]
theorem zshl1 {n : Nat} (hn : n < 31) : zshl 1 (n : Int) = ((2 ^ n : Nat) : Int) := by
  have h2 : 1 * 2 ^ n < 2147483648 := by rw [Nat.one_mul]; exact Nat.pow_lt_pow_right (n := 31) (by decide) hn
  have := zshl_eq (a := 1) (k := n) (by omega) h2
  rw [Nat.one_mul] at this
  exact this
theorem c_X5_ofDegree (l : Launch) (D : va_G) (sh : Nat → Option zS) {p dg ac fa : Nat} (hs : zsSp sh p dg ac fa) (F I : zFi) (J : zJi) {n : Nat} (hn : F p 3 = (n : Int)) (hn2 : n ≤ 12) {d : Int} (hd : zi32 d) (hI : ∀ e, e < 12 → zi32 (I dg e)) :
    Cn l D yX5_ofDegree wsX5_ofDegree mX5_ofDegree.2.2.2.2 sh [.inr (.inr (some p)), .inl d] F I J (zself F I J (.inl (sod (I dg) d n : Int))) := by
  refine zmet (M := mX5_ofDegree) rfl rfl rfl kX5_ofDegree (Nat.le_of_ble_eq_true rfl) (fun X hX hR hl hD hsh => ?_)
  subst hl hD hsh
  have loop : ∀ k e : Nat, e + k = n → HW X 4 [some (.inr (.inr (some p))), some (.inl d), some (.inl (sod (I dg) d e : Int)), some (.inl (e : Int))] [] F I J := by
    intro k
    induction k with
    | zero =>
      intro e he
      refine zgo (fun pc => Nat.beq pc 4) 200 hX hR rfl ?_
      refine Exists.intro _ ⟨hs.1, ?_⟩
      refine And.intro (fun c1 => ?_) (fun c1 => ?_)
      · exact And.intro (by rw [show e = n by omega]) ⟨rfl, rfl, rfl⟩
      · omega
    | succ k ih =>
      intro e he
      have hIe := hI e (by omega)
      unfold zi32 at hIe hd
      have hlt := sod_lt (I dg) d e
      refine zgo (fun pc => Nat.beq pc 4) 200 hX hR rfl ?_
      refine Exists.intro _ ⟨hs.1, ?_⟩
      refine And.intro (fun c1 => ?_) (fun c1 => ?_)
      · omega
      refine qX5_ofDegree_54 hX (c_X5_degreeOf (xl X) (xD X) (xsh X) hs F I J hn hn2 (e := (e : Int)) ⟨by omega, by omega⟩) hs.1 (fun v F' I' J' hv => ?_)
      obtain ⟨rfl, rfl, rfl, rfl⟩ := hv
      have e1 : sdg I' dg n (e : Int) = I' dg e := by
        unfold sdg
        rw [if_pos (by omega)]
        rfl
      have h2 := ih (e + 1) (by omega)
      rw [sod_succ] at h2
      refine And.intro (fun c2 => ?_) (fun c2 => ?_)
      · rw [e1] at c2
        rw [if_neg (by omega)] at h2
        exact h2
      · rw [e1] at c2
        rw [if_pos (by omega), ← zor_bit hlt (by omega), ← zshl1 (by omega)] at h2
        exact h2
  refine zgo (fun pc => Nat.beq pc 4) 200 hX hR rfl ?_
  exact loop n 0 (by omega)
