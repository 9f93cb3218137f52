/-! RowProduct: timesSum -/
def rpt (N S : Nat → Nat) (i x : Nat) (d : Int) (k : Nat) : Nat := if x.testBit k then rrw N S i (rbn N ((bst S d : Int) + k) 0) (rbn N ((bst S d : Int) + k) 1) (rbn N ((bst S d : Int) + k) 2) (d + i) else 0
def rps (N S : Nat → Nat) (i x : Nat) (d : Int) : Nat := xorN (bsz S d).toNat (rpt N S i x d)
theorem rrw_lt {N S : Nat → Nat} {i s1 s2 s3 : Nat} {n : Int} (h : bsz S n ≤ 30) : rrw N S i s1 s2 s3 n < 1073741824 := xorN_lt (m := 30) (fun _ _ => xorN_lt (m := 30) (fun _ _ => rcl_lt h _ _))
theorem rpt_lt {N S : Nat → Nat} {i x : Nat} {d : Int} (h : ∀ n, bsz S n ≤ 30) (k : Nat) : rpt N S i x d k < 1073741824 := by
  unfold rpt
  split
  · exact rrw_lt (h _)
  · decide
theorem rps_lt {N S : Nat → Nat} {i x : Nat} {d : Int} (h : ∀ n, bsz S n ≤ 30) : rps N S i x d < 1073741824 := xorN_lt (m := 30) (fun _ _ => rpt_lt h _)
theorem c_X4_timesSum (l : Launch) (D : va_G) (sh : Nat → Option zS) {q b nu st : Nat} (hs : zsRp sh q b) (hb : zsBas sh b nu st) (F I : zFi) (J : zJi) {N S : Nat → Nat} (hT : bT I nu st N S) {i x : Nat} {d : Int} (hi : i ≤ 50) (hx : x < 2147483648) (hd : 0 ≤ d ∧ d ≤ 50) (h30 : ∀ n, bsz S n ≤ 30) (h0 : 0 ≤ bsz S d) :
    Cn l D yX4_timesSum wsX4_timesSum mX4_timesSum.2.2.2.2 sh [.inr (.inr (some q)), .inl (i : Int), .inl (x : Int), .inl d] F I J (zself F I J (.inl (rps N S i x d : Int))) := by
  have hs' : sh q = some (.inl (4, [some (some b)])) := hs
  have hsd := bst_i hT d
  have hz30 := h30 d
  refine zmet (M := mX4_timesSum) rfl rfl rfl kX4_timesSum (Nat.le_of_ble_eq_true rfl) (fun X hX hR hl hD hsh => ?_)
  subst hl hD hsh
  have loop : ∀ m k : Nat, k + m = (bsz S d).toNat → HW X 6 [some (.inr (.inr (some q))), some (.inl (i : Int)), some (.inl (x : Int)), some (.inl d), some (.inl (xorN k (rpt N S i x d) : Int)), some (.inl (k : Int))] [] F I J := by
    intro m
    induction m with
    | zero =>
      intro k hk
      refine zgo (fun pc => Nat.beq pc 6) 200 hX hR rfl ?_
      refine Exists.intro _ ⟨hs', ?_⟩
      refine qX4_timesSum_13 hX (c_X0_size (xl X) (xD X) (xsh X) hb F I J hT (d := d) ⟨by omega, by omega⟩) hb.1 (fun v F' I' J' hv => ?_)
      obtain ⟨rfl, rfl, rfl, rfl⟩ := hv
      refine And.intro (fun c1 => ?_) (fun c1 => by omega)
      exact And.intro (by unfold rps; rw [show k = (bsz S d).toNat by omega]) ⟨rfl, rfl, rfl⟩
    | succ m ih =>
      intro k hk
      have h2 := ih (k + 1) (by omega)
      rw [show ∀ f, xorN (k + 1) f = xorN k f ^^^ f k from fun _ => rfl] at h2
      have hlt : xorN k (rpt N S i x d) < 1073741824 := xorN_lt (m := 30) (fun _ _ => rpt_lt h30 _)
      have hlk : rpt N S i x d k < 1073741824 := rpt_lt h30 k
      refine zgo (fun pc => Nat.beq pc 6) 200 hX hR rfl ?_
      refine Exists.intro _ ⟨hs', ?_⟩
      refine qX4_timesSum_13 hX (c_X0_size (xl X) (xD X) (xsh X) hb F I J hT (d := d) ⟨by omega, by omega⟩) hb.1 (fun v F' I' J' hv => ?_)
      obtain ⟨rfl, rfl, rfl, rfl⟩ := hv
      refine And.intro (fun c1 => by omega) (fun c1 => ?_)
      have hz := zbit (x := x) (e := k) hx (by omega)
      cases hbt : x.testBit k
      · have e3 : rpt N S i x d k = 0 := by unfold rpt; rw [hbt]; rfl
        rw [hbt] at hz
        rw [e3, Nat.xor_zero] at h2
        refine And.intro (fun c2 => h2) (fun c2 => ?_)
        rw [hz] at c2
        exact absurd rfl c2
      · have e3 : rpt N S i x d k = rrw N S i (rbn N ((bst S d : Int) + k) 0) (rbn N ((bst S d : Int) + k) 1) (rbn N ((bst S d : Int) + k) 2) (d + i) := by unfold rpt; rw [hbt]; rfl
        rw [hbt] at hz
        refine And.intro (fun c2 => ?_) (fun c2 => ?_)
        · rw [hz] at c2
          exact absurd c2 (by decide)
        · refine Exists.intro _ ⟨hs', ?_⟩
          refine qX4_timesSum_19 hX (c_X0_start (xl X) (xD X) (xsh X) hb F' I' J' hT (d := d) ⟨by omega, by omega⟩) hb.1 (fun v F1 I1 J1 hv => ?_)
          obtain ⟨rfl, rfl, rfl, rfl⟩ := hv
          refine qX4_timesSum_22 hX (c_X4_timesRow (xl X) (xD X) (xsh X) hs hb F1 I1 J1 hT (i := i) (t := (bst S d : Int) + k) (n := d + i) (by omega) ⟨by omega, by omega⟩ ⟨by omega, by omega⟩ (h30 _)) hs' (fun v F2 I2 J2 hv => ?_)
          obtain ⟨rfl, rfl, rfl, rfl⟩ := hv
          rw [← zxor_eq (by omega) (by omega), e3] at h2
          exact h2
  refine zgo (fun pc => Nat.beq pc 6) 200 hX hR rfl ?_
  exact loop (bsz S d).toNat 0 (by omega)
