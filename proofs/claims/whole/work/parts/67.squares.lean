/-! Squares: product, put, single, timesSum, timesTerm -/
def zsSq (sh : Nat → Option zS) (q b pr : Nat) : Prop := sh q = some (.inl (6, [some (some b), some (some pr)])) ∧ ∃ cA, sh pr = some (.inr (.inl (cA, 3721)))
def sqT (I : zFi) (pr : Nat) (P : Nat → Nat → Nat) : Prop := ∀ u v : Nat, u < 61 → v < 61 → I pr (u * 61 + v) = (P u v : Int) ∧ P u v < 1073741824
def spd (P : Nat → Nat → Nat) (u v : Int) : Nat := if 0 ≤ u ∧ u < 61 ∧ 0 ≤ v ∧ v < 61 then P u.toNat v.toNat else 0
theorem spd_lt {I : zFi} {pr : Nat} {P : Nat → Nat → Nat} (h : sqT I pr P) (u v : Int) : spd P u v < 1073741824 := by
  unfold spd
  split
  · exact (h u.toNat v.toNat (by omega) (by omega)).2
  · decide
theorem c_X6_product (l : Launch) (D : va_G) (sh : Nat → Option zS) {q b pr : Nat} (hs : zsSq sh q b pr) (F I : zFi) (J : zJi) {P : Nat → Nat → Nat} (hP : sqT I pr P) {u v : Int} (hu : zi32 u) (hv : zi32 v) :
    Cn l D yX6_product wsX6_product mX6_product.2.2.2.2 sh [.inr (.inr (some q)), .inl u, .inl v] F I J (zself F I J (.inl (spd P u v : Int))) := by
  unfold zi32 at hu hv
  obtain ⟨cA, hc⟩ := hs.2
  refine zmet (M := mX6_product) rfl rfl rfl kX6_product (Nat.le_of_ble_eq_true rfl) (fun X hX hR hl hD hsh => ?_)
  subst hl hD hsh
  refine zgo (fun _ => false) 200 hX hR rfl ?_
  unfold spd
  refine And.intro (fun c1 => ?_) (fun c1 => ?_)
  · exact And.intro (by rw [if_neg (by omega)]; rfl) ⟨rfl, rfl, rfl⟩
  refine And.intro (fun c2 => ?_) (fun c2 => ?_)
  · exact And.intro (by rw [if_neg (by omega)]; rfl) ⟨rfl, rfl, rfl⟩
  refine And.intro (fun c3 => ?_) (fun c3 => ?_)
  · exact And.intro (by rw [if_neg (by omega)]; rfl) ⟨rfl, rfl, rfl⟩
  refine And.intro (fun c4 => ?_) (fun c4 => ?_)
  · exact And.intro (by rw [if_neg (by omega)]; rfl) ⟨rfl, rfl, rfl⟩
  refine Exists.intro _ ⟨hs.1, ?_⟩
  refine Exists.intro _ ⟨_, u.toNat * 61 + v.toNat, hc, by omega, by omega, ?_⟩
  exact And.intro (by rw [if_pos (by omega), (hP u.toNat v.toNat (by omega) (by omega)).1]) ⟨rfl, rfl, rfl⟩
theorem c_X6_put (l : Launch) (D : va_G) (sh : Nat → Option zS) {q b pr : Nat} (hs : zsSq sh q b pr) (F I : zFi) (J : zJi) {u v x : Int} (hu : 0 ≤ u ∧ u < 61) (hv : 0 ≤ v ∧ v < 61) :
    Cn l D yX6_put wsX6_put mX6_put.2.2.2.2 sh [.inr (.inr (some q)), .inl u, .inl v, .inl x] F I J (fun w F' I' J' => w = none ∧ F' = F ∧ I' = zu I pr (u.toNat * 61 + v.toNat) x ∧ J' = J) := by
  obtain ⟨cA, hc⟩ := hs.2
  refine zmet (M := mX6_put) rfl rfl rfl kX6_put (Nat.le_of_ble_eq_true rfl) (fun X hX hR hl hD hsh => ?_)
  subst hl hD hsh
  refine zgo (fun _ => false) 200 hX hR rfl ?_
  refine And.intro (fun c1 => by omega) (fun c1 => ?_)
  refine And.intro (fun c2 => by omega) (fun c2 => ?_)
  refine And.intro (fun c3 => by omega) (fun c3 => ?_)
  refine And.intro (fun c4 => by omega) (fun c4 => ?_)
  refine Exists.intro _ ⟨hs.1, ?_⟩
  refine Exists.intro _ ⟨_, u.toNat * 61 + v.toNat, hc, by omega, by omega, ?_⟩
  exact And.intro rfl ⟨rfl, rfl, rfl⟩
def sgl (S : Nat → Nat) (i : Int) : Int := (bst S (i + 1) : Int) - 1
theorem c_X6_single (l : Launch) (D : va_G) (sh : Nat → Option zS) {q b pr nu st : Nat} (hs : zsSq sh q b pr) (hb : zsBas sh b nu st) (F I : zFi) (J : zJi) {N S : Nat → Nat} (hT : bT I nu st N S) {i : Int} (hi : zi32 (i + 1)) :
    Cn l D yX6_single wsX6_single mX6_single.2.2.2.2 sh [.inr (.inr (some q)), .inl i] F I J (zself F I J (.inl (sgl S i))) := by
  refine zmet (M := mX6_single) rfl rfl rfl kX6_single (Nat.le_of_ble_eq_true rfl) (fun X hX hR hl hD hsh => ?_)
  subst hl hD hsh
  refine zgo (fun _ => false) 200 hX hR rfl ?_
  refine Exists.intro _ ⟨hs.1, ?_⟩
  refine qX6_single_28 hX (c_X0_start (xl X) (xD X) (xsh X) hb F I J hT (d := i + 1) hi) hb.1 (fun v F' I' J' hv => ?_)
  obtain ⟨rfl, rfl, rfl, rfl⟩ := hv
  exact And.intro rfl ⟨rfl, rfl, rfl⟩
/-- S(i) times a SUM of a degree -/
def sqt (P : Nat → Nat → Nat) (S : Nat → Nat) (i : Int) (x : Nat) (d : Int) (k : Nat) : Nat := if x.testBit k then spd P (sgl S i) (bst S d + k) else 0
def sqs (P : Nat → Nat → Nat) (S : Nat → Nat) (i : Int) (x : Nat) (d : Int) : Nat := xorN (bsz S d).toNat (sqt P S i x d)
theorem sqt_lt {I : zFi} {pr : Nat} {P : Nat → Nat → Nat} (h : sqT I pr P) (S : Nat → Nat) (i : Int) (x : Nat) (d : Int) (k : Nat) : sqt P S i x d k < 1073741824 := by
  unfold sqt
  split
  · exact spd_lt h _ _
  · decide
theorem sqs_lt {I : zFi} {pr : Nat} {P : Nat → Nat → Nat} (h : sqT I pr P) (S : Nat → Nat) (i : Int) (x : Nat) (d : Int) : sqs P S i x d < 1073741824 := xorN_lt (m := 30) (fun _ _ => sqt_lt h _ _ _ _ _)
theorem c_X6_timesSum (l : Launch) (D : va_G) (sh : Nat → Option zS) {q b pr nu st : Nat} (hs : zsSq sh q b pr) (hb : zsBas sh b nu st) (F I : zFi) (J : zJi) {N S : Nat → Nat} (hT : bT I nu st N S) {P : Nat → Nat → Nat} (hP : sqT I pr P) {i d : Int} {x : Nat} (hi : zi32 (i + 1)) (hd : zi32 d) (hx : x < 2147483648) (h30 : 0 ≤ bsz S d ∧ bsz S d ≤ 30) :
    Cn l D yX6_timesSum wsX6_timesSum mX6_timesSum.2.2.2.2 sh [.inr (.inr (some q)), .inl i, .inl (x : Int), .inl d] F I J (zself F I J (.inl (sqs P S i x d : Int))) := by
  refine zmet (M := mX6_timesSum) rfl rfl rfl kX6_timesSum (Nat.le_of_ble_eq_true rfl) (fun X hX hR hl hD hsh => ?_)
  subst hl hD hsh
  have hsi := bst_i hT (i + 1)
  have hsd := bst_i hT d
  have loop : ∀ n k : Nat, k + n = (bsz S d).toNat → HW X 16 [some (.inr (.inr (some q))), some (.inl i), some (.inl (x : Int)), some (.inl d), some (.inl (xorN k (sqt P S i x d) : Int)), some (.inl (bst S d : Int)), some (.inl (k : Int))] [] F I J := by
    intro n
    induction n with
    | zero =>
      intro k hk
      refine zgo (fun pc => Nat.beq pc 16) 200 hX hR rfl ?_
      refine Exists.intro _ ⟨hs.1, ?_⟩
      refine qX6_timesSum_66 hX (c_X0_size (xl X) (xD X) (xsh X) hb F I J hT hd) hb.1 (fun v F' I' J' hv => ?_)
      obtain ⟨rfl, rfl, rfl, rfl⟩ := hv
      refine And.intro (fun c1 => ?_) (fun c1 => by omega)
      exact And.intro (by unfold sqs; rw [show k = (bsz S d).toNat by omega]) ⟨rfl, rfl, rfl⟩
    | succ n ih =>
      intro k hk
      have h2 := ih (k + 1) (by omega)
      rw [show ∀ f, xorN (k + 1) f = xorN k f ^^^ f k from fun _ => rfl] at h2
      have hlt : xorN k (sqt P S i x d) < 1073741824 := xorN_lt (m := 30) (fun _ _ => sqt_lt hP _ _ _ _ _)
      have hlk := sqt_lt hP S i x d k
      refine zgo (fun pc => Nat.beq pc 16) 200 hX hR rfl ?_
      refine Exists.intro _ ⟨hs.1, ?_⟩
      refine qX6_timesSum_66 hX (c_X0_size (xl X) (xD X) (xsh X) hb F I J hT hd) hb.1 (fun v F' I' J' hv => ?_)
      obtain ⟨rfl, rfl, rfl, rfl⟩ := hv
      refine And.intro (fun c1 => by omega) (fun c1 => ?_)
      have hz := zbit (x := x) (e := k) hx (by omega)
      cases hbt : x.testBit k
      · have e3 : sqt P S i x d k = 0 := by unfold sqt; rw [hbt]; rfl
        rw [hbt] at hz
        rw [e3, Nat.xor_zero] at h2
        refine And.intro (fun c2 => h2) (fun c2 => ?_)
        rw [hz] at c2
        exact absurd rfl c2
      · have e3 : sqt P S i x d k = spd P (sgl S i) (bst S d + k) := by unfold sqt; rw [hbt]; rfl
        rw [hbt] at hz
        refine And.intro (fun c2 => ?_) (fun c2 => ?_)
        · rw [hz] at c2
          exact absurd c2 (by decide)
        · refine qX6_timesSum_42 hX (c_X6_single (xl X) (xD X) (xsh X) hs hb F' I' J' hT hi) hs.1 (fun v F1 I1 J1 hv => ?_)
          obtain ⟨rfl, rfl, rfl, rfl⟩ := hv
          refine qX6_timesSum_56 hX (c_X6_product (xl X) (xD X) (xsh X) hs F1 I1 J1 hP (u := sgl S i) (v := (bst S d : Int) + k) (by unfold sgl zi32; omega) (by unfold zi32; omega)) hs.1 (fun v F2 I2 J2 hv => ?_)
          obtain ⟨rfl, rfl, rfl, rfl⟩ := hv
          rw [← zxor_eq (by omega) (by omega), e3] at h2
          exact h2
  refine zgo (fun pc => Nat.beq pc 16) 200 hX hR rfl ?_
  refine Exists.intro _ ⟨hs.1, ?_⟩
  refine qX6_timesSum_28 hX (c_X0_start (xl X) (xD X) (xsh X) hb F I J hT hd) hb.1 (fun v F' I' J' hv => ?_)
  obtain ⟨rfl, rfl, rfl, rfl⟩ := hv
  exact loop (bsz S d).toNat 0 (by omega)
