/-! the reference: words -/
def mSq (I : zFi) : Prop := ∀ i w, 1 ≤ i → i ≤ 14 → w < 61 → i + dgA w ≤ 14 → I 65 (64 * i + w) = (aGP (sg i) w : Int)
/-- S(i) times a row -/
def rRw (i w : Nat) : Nat := rrw mN aS i (rbn mN (w : Int) 0) (rbn mN (w : Int) 1) (rbn mN (w : Int) 2) ((dgA w : Int) + i)
def mSr (I : zFi) : Prop := ∀ i w, 1 ≤ i → i ≤ 14 → w < 61 → i + dgA w ≤ 14 → I 66 (64 * i + w) = (rRw i w : Int)
def ckRw : Bool := (List.range 61).all fun w => Nat.beq (rRw 0 w) (2 ^ (w - aS (dgA w))) && (List.range 15).all fun i => !Nat.ble (i + dgA w) 14 || Nat.blt (rRw i w) (2 ^ (aS (i + dgA w + 1) - aS (i + dgA w)))
set_option maxRecDepth 100000 in
theorem ckRw_ok : ckRw = true := by decide +kernel
theorem rRw_0 {w : Nat} (hw : w < 61) : rRw 0 w = 2 ^ (w - aS (dgA w)) := by
  have h := range_all ckRw_ok hw
  simp only [Bool.and_eq_true] at h
  exact Nat.eq_of_beq_eq_true h.1
theorem rRw_lt {i w : Nat} (hw : w < 61) (hd : i + dgA w ≤ 14) : rRw i w < 2 ^ (aS (i + dgA w + 1) - aS (i + dgA w)) := by
  have h := range_all ckRw_ok hw
  simp only [Bool.and_eq_true] at h
  have h2 := range_all h.2 (show i < 15 by omega)
  simp only [Bool.or_eq_true, Bool.not_eq_true'] at h2
  rcases h2 with h2 | h2
  · exact absurd (Nat.ble_eq_true_of_le hd) (by rw [h2]; decide)
  · exact blt_lt h2
theorem aGP_ltw {u v : Nat} (hu : u < 61) (hv : v < 61) (hd : dgA u + dgA v ≤ 14) : aGP u v < 2 ^ (aS (dgA u + dgA v + 1) - aS (dgA u + dgA v)) := by
  apply Nat.lt_pow_two_of_testBit
  intro k hk
  rw [aGP_bit]
  cases hb : caA u v (aS (dgA u + dgA v) + k)
  · rfl
  · have hw := ca_lt hu hv hb
    have h1 := gp_deg hu hv hw hb
    have h2 := ((dg_range hd).2.2.2 _ hw).mp h1
    omega
theorem aGP_0 {v : Nat} (hv : v < 61) : aGP 0 v = 2 ^ (v - aS (dgA v)) := by
  have h := range_all aUnit_ok hv
  simp only [Bool.and_eq_true] at h
  have hr := ((dg_range (dgA_le hv)).2.2.2 v hv).mp rfl
  unfold aGP
  rw [Nat.eq_of_beq_eq_true h.1, show dgA 0 + dgA v = dgA v from Nat.zero_add _, Nat.pow_div hr.1 (by decide)]
theorem sgl_sg {i : Nat} (hi : i ≤ 14) : sgl aS (i : Int) = (sg i : Int) := by
  unfold sgl sg
  have : bst aS ((i : Int) + 1) = aS (i + 1) := bst_aS (t := i + 1) (by omega)
  rw [this]
  have : ∀ j, j < 15 → 1 ≤ aS (j + 1) := by decide
  have := this i (by omega)
  omega
/-- a sum by S(0) -/
theorem bits_sum {x m : Nat} (hx : x < 2 ^ m) : xorN m (fun k => if x.testBit k then 2 ^ k else 0) = x := (num_bits x m (fun a ha => by
  rcases Nat.lt_or_ge a m with g | g
  · exact g
  · rw [tb_small hx g] at ha
    cases ha)).symm
theorem sqs_eq {i n x : Nat} (hi : i ≤ 14) (hn : n ≤ 14) : sqs aGP aS (i : Int) x (n : Int) = xorN (aS (n + 1) - aS n) (fun k => if x.testBit k then aGP (sg i) (aS n + k) else 0) := by
  have hr := dg_range hn
  have hs := sg_ok hi
  unfold sqs
  have e : (bsz aS (n : Int)).toNat = aS (n + 1) - aS n := by
    unfold bsz
    rw [if_pos (by omega), Int.toNat_natCast]
    omega
  rw [e]
  refine xorN_congr (fun k hk => ?_)
  unfold sqt
  split
  · rw [sgl_sg hi, bst_aS (by omega)]
    unfold spd
    rw [if_pos (by omega), Int.toNat_natCast, show (((aS n : Nat) : Int) + (k : Int)).toNat = aS n + k by omega]
  · rfl
theorem rps_eq {i n x : Nat} (hn : n ≤ 14) : rps mN aS i x (n : Int) = xorN (aS (n + 1) - aS n) (fun k => if x.testBit k then rRw i (aS n + k) else 0) := by
  have hr := dg_range hn
  unfold rps
  have e : (bsz aS (n : Int)).toNat = aS (n + 1) - aS n := by
    unfold bsz
    rw [if_pos (by omega), Int.toNat_natCast]
    omega
  rw [e]
  refine xorN_congr (fun k hk => ?_)
  unfold rpt
  split
  · have hd : dgA (aS n + k) = n := (hr.2.2.2 (aS n + k) (by omega)).mpr ⟨by omega, by omega⟩
    unfold rRw
    rw [hd, bst_aS (by omega)]
    rfl
  · rfl
theorem sqs_0 {n x : Nat} (hn : n ≤ 14) (hx : x < 2 ^ (aS (n + 1) - aS n)) : sqs aGP aS 0 x (n : Int) = x := by
  have hr := dg_range hn
  have h := sqs_eq (i := 0) (n := n) (x := x) (by decide) hn
  refine h.trans (Eq.trans (xorN_congr fun k hk => ?_) (bits_sum hx))
  split
  · rw [show sg 0 = 0 from rfl, aGP_0 (by omega), (hr.2.2.2 (aS n + k) (by omega)).mpr ⟨by omega, by omega⟩, show aS n + k - aS n = k by omega]
  · rfl
theorem rps_0 {n x : Nat} (hn : n ≤ 14) (hx : x < 2 ^ (aS (n + 1) - aS n)) : rps mN aS 0 x (n : Int) = x := by
  have hr := dg_range hn
  refine (rps_eq hn).trans (Eq.trans (xorN_congr fun k hk => ?_) (bits_sum hx))
  split
  · rw [rRw_0 (by omega), (hr.2.2.2 (aS n + k) (by omega)).mpr ⟨by omega, by omega⟩, show aS n + k - aS n = k by omega]
  · rfl
theorem sqs_ltw {i n x : Nat} (hd : i + n ≤ 14) : sqs aGP aS (i : Int) x (n : Int) < 2 ^ (aS (i + n + 1) - aS (i + n)) := by
  have hr := dg_range (show n ≤ 14 by omega)
  have hs := sg_ok (show i ≤ 14 by omega)
  rw [sqs_eq (by omega) (by omega)]
  refine xorN_lt (fun k hk => ?_)
  split
  · have e := (hr.2.2.2 (aS n + k) (by omega)).mpr ⟨by omega, by omega⟩
    have := aGP_ltw (u := sg i) (v := aS n + k) hs.1 (by omega) (by rw [hs.2.2.2.2, e]; exact hd)
    rw [hs.2.2.2.2, e] at this
    exact this
  · exact Nat.two_pow_pos _
theorem rps_ltw {i n x : Nat} (hd : i + n ≤ 14) : rps mN aS i x (n : Int) < 2 ^ (aS (i + n + 1) - aS (i + n)) := by
  have hr := dg_range (show n ≤ 14 by omega)
  rw [rps_eq (by omega)]
  refine xorN_lt (fun k hk => ?_)
  split
  · have e := (hr.2.2.2 (aS n + k) (by omega)).mpr ⟨by omega, by omega⟩
    have := rRw_lt (i := i) (w := aS n + k) (by omega) (by rw [e]; exact hd)
    rw [e] at this
    exact this
  · exact Nat.two_pow_pos _
theorem pow9 {n : Nat} (hn : n ≤ 14) : 2 ^ (aS (n + 1) - aS n) ≤ 512 := show 2 ^ (aS (n + 1) - aS n) ≤ 2 ^ 9 from Nat.pow_le_pow_right (by decide) (dg_range hn).2.1
/-- the reference's word -/
def RWd (F I : zFi) (ℓ : Nat) (c : Nat → Nat) : Prop := F 60 8 = (ℓ : Int) ∧ ℓ ≤ 6 ∧ ns ℓ c ≤ 14 ∧ ∀ k, k < ℓ → I 68 k = (c k : Int)
theorem ns_c {ℓ : Nat} {c : Nat → Nat} (h : ns ℓ c ≤ 14) {j : Nat} (hj : j < ℓ) : ns j (fun i => c (ℓ - 1 - i)) + c (ℓ - 1 - j) ≤ 14 := by
  have h1 := ns_split ℓ c (j + 1) (by omega)
  have h2 : ns (j + 1) (fun i => c (ℓ - 1 - i)) = ns j (fun i => c (ℓ - 1 - i)) + c (ℓ - 1 - j) := rfl
  omega
theorem wsA_ltw {ℓ : Nat} {c : Nat → Nat} (h : ns ℓ c ≤ 14) : ∀ j, j ≤ ℓ → (wsA ℓ c j).1 < 2 ^ (aS ((wsA ℓ c j).2 + 1) - aS (wsA ℓ c j).2) := by
  intro j
  induction j with
  | zero => intro _; exact (show 1 < 2 ^ (aS 1 - aS 0) by decide)
  | succ j ih =>
    intro hj
    have h1 := ns_c h (show j < ℓ by omega)
    rw [← wsA_2] at h1
    have := sqs_ltw (i := c (ℓ - 1 - j)) (n := (wsA ℓ c j).2) (x := (wsA ℓ c j).1) (by omega)
    rw [show (wsA ℓ c (j + 1)).2 = c (ℓ - 1 - j) + (wsA ℓ c j).2 from Nat.add_comm _ _]
    exact this
theorem wsR_ltw {ℓ : Nat} {c : Nat → Nat} (h : ns ℓ c ≤ 14) : ∀ j, j ≤ ℓ → (wsR ℓ c j).1 < 2 ^ (aS ((wsR ℓ c j).2 + 1) - aS (wsR ℓ c j).2) := by
  intro j
  induction j with
  | zero => intro _; exact (show 1 < 2 ^ (aS 1 - aS 0) by decide)
  | succ j ih =>
    intro hj
    have h1 := ns_c h (show j < ℓ by omega)
    rw [← wsR_2] at h1
    have := rps_ltw (i := c (ℓ - 1 - j)) (n := (wsR ℓ c j).2) (x := (wsR ℓ c j).1) (by omega)
    rw [show (wsR ℓ c (j + 1)).2 = c (ℓ - 1 - j) + (wsR ℓ c j).2 from Nat.add_comm _ _]
    exact this
theorem c_X9_squares (l : Launch) (D : va_G) (sh : Nat → Option zS) (hs : zWM sh) (F I : zFi) (J : zJi) (hb : mBg I) (hq : mSq I) {i x n : Nat} (hd : i + n ≤ 14) (hx : x < 2147483648) :
    Cn l D yX9_squares wsX9_squares mX9_squares.2.2.2.2 sh [.inr (.inr (some 60)), .inl (i : Int), .inl (x : Int), .inl (n : Int)] F I J (zself F I J (.inl ((if i = 0 then x else sqs aGP aS (i : Int) x (n : Int) : Nat) : Int))) := by
  obtain ⟨cA, h65⟩ := hs.a65
  obtain ⟨cB, h61⟩ := hs.a61
  have hr := dg_range (show n ≤ 14 by omega)
  have hsz : bsz aS (n : Int) = ((aS (n + 1) - aS n : Nat) : Int) := by
    unfold bsz
    rw [if_pos (by omega), Int.toNat_natCast]
    omega
  refine zmet (M := mX9_squares) rfl rfl rfl kX9_squares (Nat.le_of_ble_eq_true rfl) (fun X hX hR' hl hD hsh => ?_)
  subst hl hD hsh
  by_cases h0 : i = 0
  · refine zgo (fun pc => Nat.beq pc 12) 200 hX hR' rfl ?_
    refine And.intro (fun c1 => by omega) (fun c1 => ?_)
    exact And.intro (by rw [if_pos h0]) ⟨rfl, rfl, rfl⟩
  · have hlt : ∀ k, k ≤ aS (n + 1) - aS n → xorN k (fun k => if x.testBit k then aGP (sg i) (aS n + k) else 0) < 512 := fun k hk => xorN_lt (m := 9) (fun j hj => by
      split
      · exact aGP_lt (sg_ok (by omega)).1 (by omega)
      · decide)
    have loop : ∀ m k : Nat, k + m = aS (n + 1) - aS n → HW X 12 [some (.inr (.inr (some 60))), some (.inl (i : Int)), some (.inl (x : Int)), some (.inl (n : Int)), some (.inl (xorN k (fun k => if x.testBit k then aGP (sg i) (aS n + k) else 0) : Int)), some (.inl (k : Int))] [] F I J := by
      intro m
      induction m with
      | zero =>
        intro k hk
        refine zgo (fun pc => Nat.beq pc 12) 200 hX hR' rfl ?_
        refine qX9_squares_87 hX (c_X9_manyOf (xl X) (xD X) (xsh X) hs F I J hb (x := n) (by omega)) hs.o (fun v F' I' J' hv => ?_)
        obtain ⟨rfl, rfl, rfl, rfl⟩ := hv
        rw [hsz]
        refine And.intro (fun c1 => ?_) (fun c1 => by omega)
        exact And.intro (by rw [if_neg h0, sqs_eq (by omega) (by omega), show k = aS (n + 1) - aS n by omega]) ⟨rfl, rfl, rfl⟩
      | succ m ih =>
        intro k hk
        have h := ih (k + 1) (by omega)
        rw [show ∀ f, xorN (k + 1) f = xorN k f ^^^ f k from fun _ => rfl] at h
        have hl1 := hlt k (by omega)
        have hb2 := zbit (x := x) (e := k) hx (by omega)
        refine zgo (fun pc => Nat.beq pc 12) 200 hX hR' rfl ?_
        refine qX9_squares_87 hX (c_X9_manyOf (xl X) (xD X) (xsh X) hs F I J hb (x := n) (by omega)) hs.o (fun v F' I' J' hv => ?_)
        obtain ⟨rfl, rfl, rfl, rfl⟩ := hv
        rw [hsz]
        refine And.intro (fun c1 => by omega) (fun c1 => ?_)
        cases hxb : x.testBit k
        · rw [hxb, if_neg (by decide)] at h hb2
          rw [← zxor_eq (by omega) (by decide)] at h
          refine And.intro (fun c3 => h) (fun c3 => ?_)
          rw [hb2] at c3
          exact absurd c3 (by decide)
        · rw [hxb, if_pos rfl] at h hb2
          refine And.intro (fun c3 => by rw [hb2] at c3; exact absurd (by decide) c3) (fun c3 => ?_)
          have he := hq i (aS n + k) (by omega) (by omega) (by omega) (by rw [(hr.2.2.2 (aS n + k) (by omega)).mpr ⟨by omega, by omega⟩]; exact hd)
          have hg := aGP_lt (sg_ok (show i ≤ 14 by omega)).1 (show aS n + k < 61 by omega)
          rw [← zxor_eq (by omega) (by omega), ← he] at h
          refine Exists.intro _ ⟨hs.o, ?_⟩
          refine Exists.intro _ ⟨hs.o, ?_⟩
          refine Exists.intro _ ⟨_, n, h61, rfl, by omega, ?_⟩
          refine Exists.intro _ ⟨_, 64 * i + (aS n + k), h65, (show (64 : Int) * (i : Int) + I' 61 n + (k : Int) = _ by rw [hb n (by omega)]; omega), by omega, ?_⟩
          exact h
    have l0 := loop (aS (n + 1) - aS n) 0 (by omega)
    refine zgo (fun pc => Nat.beq pc 12) 200 hX hR' rfl ?_
    exact And.intro (fun c1 => l0) (fun c1 => by omega)
