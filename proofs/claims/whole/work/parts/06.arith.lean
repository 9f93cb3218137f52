/-! ENGINE, part 3: arithmetic, branches, fields, arrays -/
section ZOPT
variable {X : zX} {M : zM} {pc n aux : Nat} {ls : List (Option zV)} {st : List zV} {F I : zFi} {J : zJi}
theorem hw_iadd {a b : Int} (hX : ZF X M) (hr : (pc, .iadd, n, aux) ∈ M.2.1) (k : HW X (pc + n) ls (.inl (a + b) :: st) F I J) : HW X pc ls (.inl b :: .inl a :: st) F I J := by
  obtain ⟨d, h1, h2, h3, -⟩ := zrow hX hr
  cases h1
  cases (beq_iff_eq.mp h3 : n = 1)
  intro H locs LS hW hS hL
  have kk := k H locs LS hW hS hL
  refine lv_iadd hX.1 hX.2.1 h2 ?_
  rw [zi_add]
  exact kk
theorem hw_isub {a b : Int} (hX : ZF X M) (hr : (pc, .isub, n, aux) ∈ M.2.1) (k : HW X (pc + n) ls (.inl (a - b) :: st) F I J) : HW X pc ls (.inl b :: .inl a :: st) F I J := by
  obtain ⟨d, h1, h2, h3, -⟩ := zrow hX hr
  cases h1
  cases (beq_iff_eq.mp h3 : n = 1)
  intro H locs LS hW hS hL
  have kk := k H locs LS hW hS hL
  refine lv_isub hX.1 hX.2.1 h2 ?_
  rw [zi_sub]
  exact kk
theorem hw_imul {a b : Int} (hX : ZF X M) (hr : (pc, .imul, n, aux) ∈ M.2.1) (k : HW X (pc + n) ls (.inl (a * b) :: st) F I J) : HW X pc ls (.inl b :: .inl a :: st) F I J := by
  obtain ⟨d, h1, h2, h3, -⟩ := zrow hX hr
  cases h1
  cases (beq_iff_eq.mp h3 : n = 1)
  intro H locs LS hW hS hL
  have kk := k H locs LS hW hS hL
  refine lv_imul hX.1 hX.2.1 h2 ?_
  rw [zi_mul]
  exact kk
theorem hw_iand {a b : Int} (hX : ZF X M) (hr : (pc, .iand, n, aux) ∈ M.2.1) (k : HW X (pc + n) ls (.inl (zand a b) :: st) F I J) : HW X pc ls (.inl b :: .inl a :: st) F I J := by
  obtain ⟨d, h1, h2, h3, -⟩ := zrow hX hr
  cases h1
  cases (beq_iff_eq.mp h3 : n = 1)
  intro H locs LS hW hS hL
  have kk := k H locs LS hW hS hL
  refine lv_iand hX.1 hX.2.1 h2 ?_
  rw [show List.map (zv (xad X)) (.inl (zand a b) :: st) = .int (Int32.ofInt (zand a b)) :: st.map (zv (xad X)) from rfl, zand, Int32.ofInt_toInt] at kk
  exact kk
theorem hw_ior {a b : Int} (hX : ZF X M) (hr : (pc, .ior, n, aux) ∈ M.2.1) (k : HW X (pc + n) ls (.inl (zor a b) :: st) F I J) : HW X pc ls (.inl b :: .inl a :: st) F I J := by
  obtain ⟨d, h1, h2, h3, -⟩ := zrow hX hr
  cases h1
  cases (beq_iff_eq.mp h3 : n = 1)
  intro H locs LS hW hS hL
  have kk := k H locs LS hW hS hL
  refine lv_ior hX.1 hX.2.1 h2 ?_
  rw [show List.map (zv (xad X)) (.inl (zor a b) :: st) = .int (Int32.ofInt (zor a b)) :: st.map (zv (xad X)) from rfl, zor, Int32.ofInt_toInt] at kk
  exact kk
theorem hw_ixor {a b : Int} (hX : ZF X M) (hr : (pc, .ixor, n, aux) ∈ M.2.1) (k : HW X (pc + n) ls (.inl (zxor a b) :: st) F I J) : HW X pc ls (.inl b :: .inl a :: st) F I J := by
  obtain ⟨d, h1, h2, h3, -⟩ := zrow hX hr
  cases h1
  cases (beq_iff_eq.mp h3 : n = 1)
  intro H locs LS hW hS hL
  have kk := k H locs LS hW hS hL
  refine lv_ixor hX.1 hX.2.1 h2 ?_
  rw [show List.map (zv (xad X)) (.inl (zxor a b) :: st) = .int (Int32.ofInt (zxor a b)) :: st.map (zv (xad X)) from rfl, zxor, Int32.ofInt_toInt] at kk
  exact kk
theorem hw_ishl {a b : Int} (hX : ZF X M) (hr : (pc, .ishl, n, aux) ∈ M.2.1) (k : HW X (pc + n) ls (.inl (zshl a b) :: st) F I J) : HW X pc ls (.inl b :: .inl a :: st) F I J := by
  obtain ⟨d, h1, h2, h3, -⟩ := zrow hX hr
  cases h1
  cases (beq_iff_eq.mp h3 : n = 1)
  intro H locs LS hW hS hL
  have kk := k H locs LS hW hS hL
  refine lv_ishl hX.1 hX.2.1 h2 ?_
  rw [show List.map (zv (xad X)) (.inl (zshl a b) :: st) = .int (Int32.ofInt (zshl a b)) :: st.map (zv (xad X)) from rfl, zshl, Int32.ofInt_toInt] at kk
  exact kk
theorem hw_ishr {a b : Int} (hX : ZF X M) (hr : (pc, .ishr, n, aux) ∈ M.2.1) (k : HW X (pc + n) ls (.inl (zshr a b) :: st) F I J) : HW X pc ls (.inl b :: .inl a :: st) F I J := by
  obtain ⟨d, h1, h2, h3, -⟩ := zrow hX hr
  cases h1
  cases (beq_iff_eq.mp h3 : n = 1)
  intro H locs LS hW hS hL
  have kk := k H locs LS hW hS hL
  refine lv_ishr hX.1 hX.2.1 h2 ?_
  rw [show List.map (zv (xad X)) (.inl (zshr a b) :: st) = .int (Int32.ofInt (zshr a b)) :: st.map (zv (xad X)) from rfl, zshr, Int32.ofInt_toInt] at kk
  exact kk
theorem hw_iushr {a b : Int} (hX : ZF X M) (hr : (pc, .iushr, n, aux) ∈ M.2.1) (k : HW X (pc + n) ls (.inl (zush a b) :: st) F I J) : HW X pc ls (.inl b :: .inl a :: st) F I J := by
  obtain ⟨d, h1, h2, h3, -⟩ := zrow hX hr
  cases h1
  cases (beq_iff_eq.mp h3 : n = 1)
  intro H locs LS hW hS hL
  have kk := k H locs LS hW hS hL
  refine lv_iushr hX.1 hX.2.1 h2 rfl ?_
  rw [show List.map (zv (xad X)) (.inl (zush a b) :: st) = .int (Int32.ofInt (zush a b)) :: st.map (zv (xad X)) from rfl, zush, Int32.ofInt_toInt] at kk
  exact kk
theorem hw_idiv {a b : Int} (hX : ZF X M) (hr : (pc, .idiv, n, aux) ∈ M.2.1) (hne : ¬ b % 4294967296 = 0) (k : HW X (pc + n) ls (.inl (zdiv a b) :: st) F I J) : HW X pc ls (.inl b :: .inl a :: st) F I J := by
  obtain ⟨d, h1, h2, h3, -⟩ := zrow hX hr
  cases h1
  cases (beq_iff_eq.mp h3 : n = 1)
  intro H locs LS hW hS hL
  have kk := k H locs LS hW hS hL
  refine lv_idiv hX.1 hX.2.1 h2 (fun e => hne ((zi_eq b 0).mp e)) ?_
  rw [show List.map (zv (xad X)) (.inl (zdiv a b) :: st) = .int (Int32.ofInt (zdiv a b)) :: st.map (zv (xad X)) from rfl, zdiv, Int32.ofInt_toInt] at kk
  exact kk
theorem hw_irem {a b : Int} (hX : ZF X M) (hr : (pc, .irem, n, aux) ∈ M.2.1) (hne : ¬ b % 4294967296 = 0) (k : HW X (pc + n) ls (.inl (zrem a b) :: st) F I J) : HW X pc ls (.inl b :: .inl a :: st) F I J := by
  obtain ⟨d, h1, h2, h3, -⟩ := zrow hX hr
  cases h1
  cases (beq_iff_eq.mp h3 : n = 1)
  intro H locs LS hW hS hL
  have kk := k H locs LS hW hS hL
  refine lv_irem hX.1 hX.2.1 h2 (fun e => hne ((zi_eq b 0).mp e)) ?_
  rw [show List.map (zv (xad X)) (.inl (zrem a b) :: st) = .int (Int32.ofInt (zrem a b)) :: st.map (zv (xad X)) from rfl, zrem, Int32.ofInt_toInt] at kk
  exact kk
theorem hw_ineg {a : Int} (hX : ZF X M) (hr : (pc, .ineg, n, aux) ∈ M.2.1) (k : HW X (pc + n) ls (.inl (-a) :: st) F I J) : HW X pc ls (.inl a :: st) F I J := by
  obtain ⟨d, h1, h2, h3, -⟩ := zrow hX hr
  cases h1
  cases (beq_iff_eq.mp h3 : n = 1)
  intro H locs LS hW hS hL
  have kk := k H locs LS hW hS hL
  refine lv_ineg hX.1 hX.2.1 h2 ?_
  rw [zi_neg]
  exact kk
theorem hw_ladd {a b : Nat} (hX : ZF X M) (hr : (pc, .ladd, n, aux) ∈ M.2.1) (k : HW X (pc + n) ls (.inr (.inl (zladd a b)) :: st) F I J) : HW X pc ls (.inr (.inl b) :: .inr (.inl a) :: st) F I J := by
  obtain ⟨d, h1, h2, h3, -⟩ := zrow hX hr
  cases h1
  cases (beq_iff_eq.mp h3 : n = 1)
  intro H locs LS hW hS hL
  have kk := k H locs LS hW hS hL
  refine lv_ladd hX.1 hX.2.1 h2 ?_
  rw [show List.map (zv (xad X)) (.inr (.inl (zladd a b)) :: st) = .long (Int64.ofNat (zladd a b)) :: st.map (zv (xad X)) from rfl, zladd, zb_of] at kk
  exact kk
theorem hw_lsub {a b : Nat} (hX : ZF X M) (hr : (pc, .lsub, n, aux) ∈ M.2.1) (k : HW X (pc + n) ls (.inr (.inl (zlsub a b)) :: st) F I J) : HW X pc ls (.inr (.inl b) :: .inr (.inl a) :: st) F I J := by
  obtain ⟨d, h1, h2, h3, -⟩ := zrow hX hr
  cases h1
  cases (beq_iff_eq.mp h3 : n = 1)
  intro H locs LS hW hS hL
  have kk := k H locs LS hW hS hL
  refine lv_lsub hX.1 hX.2.1 h2 ?_
  rw [show List.map (zv (xad X)) (.inr (.inl (zlsub a b)) :: st) = .long (Int64.ofNat (zlsub a b)) :: st.map (zv (xad X)) from rfl, zlsub, zb_of] at kk
  exact kk
theorem hw_land {a b : Nat} (hX : ZF X M) (hr : (pc, .land, n, aux) ∈ M.2.1) (k : HW X (pc + n) ls (.inr (.inl (zland a b)) :: st) F I J) : HW X pc ls (.inr (.inl b) :: .inr (.inl a) :: st) F I J := by
  obtain ⟨d, h1, h2, h3, -⟩ := zrow hX hr
  cases h1
  cases (beq_iff_eq.mp h3 : n = 1)
  intro H locs LS hW hS hL
  have kk := k H locs LS hW hS hL
  refine lv_land hX.1 hX.2.1 h2 ?_
  rw [show List.map (zv (xad X)) (.inr (.inl (zland a b)) :: st) = .long (Int64.ofNat (zland a b)) :: st.map (zv (xad X)) from rfl, zland, zb_of] at kk
  exact kk
theorem hw_lor {a b : Nat} (hX : ZF X M) (hr : (pc, .lor, n, aux) ∈ M.2.1) (k : HW X (pc + n) ls (.inr (.inl (zlor a b)) :: st) F I J) : HW X pc ls (.inr (.inl b) :: .inr (.inl a) :: st) F I J := by
  obtain ⟨d, h1, h2, h3, -⟩ := zrow hX hr
  cases h1
  cases (beq_iff_eq.mp h3 : n = 1)
  intro H locs LS hW hS hL
  have kk := k H locs LS hW hS hL
  refine lv_lor hX.1 hX.2.1 h2 ?_
  rw [show List.map (zv (xad X)) (.inr (.inl (zlor a b)) :: st) = .long (Int64.ofNat (zlor a b)) :: st.map (zv (xad X)) from rfl, zlor, zb_of] at kk
  exact kk
theorem hw_lxor {a b : Nat} (hX : ZF X M) (hr : (pc, .lxor, n, aux) ∈ M.2.1) (k : HW X (pc + n) ls (.inr (.inl (zlxor a b)) :: st) F I J) : HW X pc ls (.inr (.inl b) :: .inr (.inl a) :: st) F I J := by
  obtain ⟨d, h1, h2, h3, -⟩ := zrow hX hr
  cases h1
  cases (beq_iff_eq.mp h3 : n = 1)
  intro H locs LS hW hS hL
  have kk := k H locs LS hW hS hL
  refine lv_lxor hX.1 hX.2.1 h2 ?_
  rw [show List.map (zv (xad X)) (.inr (.inl (zlxor a b)) :: st) = .long (Int64.ofNat (zlxor a b)) :: st.map (zv (xad X)) from rfl, zlxor, zb_of] at kk
  exact kk
theorem hw_lneg {a : Nat} (hX : ZF X M) (hr : (pc, .lneg, n, aux) ∈ M.2.1) (k : HW X (pc + n) ls (.inr (.inl (zlneg a)) :: st) F I J) : HW X pc ls (.inr (.inl a) :: st) F I J := by
  obtain ⟨d, h1, h2, h3, -⟩ := zrow hX hr
  cases h1
  cases (beq_iff_eq.mp h3 : n = 1)
  intro H locs LS hW hS hL
  have kk := k H locs LS hW hS hL
  refine lv_lneg hX.1 hX.2.1 h2 ?_
  rw [show List.map (zv (xad X)) (.inr (.inl (zlneg a)) :: st) = .long (Int64.ofNat (zlneg a)) :: st.map (zv (xad X)) from rfl, zlneg, zb_of] at kk
  exact kk
theorem hw_lshl {a : Nat} {b : Int} (hX : ZF X M) (hr : (pc, .lshl, n, aux) ∈ M.2.1) (k : HW X (pc + n) ls (.inr (.inl (zlshl a b)) :: st) F I J) : HW X pc ls (.inl b :: .inr (.inl a) :: st) F I J := by
  obtain ⟨d, h1, h2, h3, -⟩ := zrow hX hr
  cases h1
  cases (beq_iff_eq.mp h3 : n = 1)
  intro H locs LS hW hS hL
  have kk := k H locs LS hW hS hL
  refine lv_lshl hX.1 hX.2.1 h2 rfl ?_
  rw [show List.map (zv (xad X)) (.inr (.inl (zlshl a b)) :: st) = .long (Int64.ofNat (zlshl a b)) :: st.map (zv (xad X)) from rfl, zlshl, zb_of] at kk
  exact kk
theorem hw_lshr {a : Nat} {b : Int} (hX : ZF X M) (hr : (pc, .lshr, n, aux) ∈ M.2.1) (k : HW X (pc + n) ls (.inr (.inl (zlshr a b)) :: st) F I J) : HW X pc ls (.inl b :: .inr (.inl a) :: st) F I J := by
  obtain ⟨d, h1, h2, h3, -⟩ := zrow hX hr
  cases h1
  cases (beq_iff_eq.mp h3 : n = 1)
  intro H locs LS hW hS hL
  have kk := k H locs LS hW hS hL
  refine lv_lshr hX.1 hX.2.1 h2 rfl ?_
  rw [show List.map (zv (xad X)) (.inr (.inl (zlshr a b)) :: st) = .long (Int64.ofNat (zlshr a b)) :: st.map (zv (xad X)) from rfl, zlshr, zb_of] at kk
  exact kk
theorem hw_lushr {a : Nat} {b : Int} (hX : ZF X M) (hr : (pc, .lushr, n, aux) ∈ M.2.1) (k : HW X (pc + n) ls (.inr (.inl (zlush a b)) :: st) F I J) : HW X pc ls (.inl b :: .inr (.inl a) :: st) F I J := by
  obtain ⟨d, h1, h2, h3, -⟩ := zrow hX hr
  cases h1
  cases (beq_iff_eq.mp h3 : n = 1)
  intro H locs LS hW hS hL
  have kk := k H locs LS hW hS hL
  refine lv_lushr hX.1 hX.2.1 h2 rfl ?_
  rw [show List.map (zv (xad X)) (.inr (.inl (zlush a b)) :: st) = .long (Int64.ofNat (zlush a b)) :: st.map (zv (xad X)) from rfl, zlush, zb_of] at kk
  exact kk
theorem hw_i2l {a : Int} (hX : ZF X M) (hr : (pc, .i2l, n, aux) ∈ M.2.1) (k : HW X (pc + n) ls (.inr (.inl (zi2l a)) :: st) F I J) : HW X pc ls (.inl a :: st) F I J := by
  obtain ⟨d, h1, h2, h3, -⟩ := zrow hX hr
  cases h1
  cases (beq_iff_eq.mp h3 : n = 1)
  intro H locs LS hW hS hL
  have kk := k H locs LS hW hS hL
  refine lv_i2l hX.1 hX.2.1 h2 rfl ?_
  rw [show List.map (zv (xad X)) (.inr (.inl (zi2l a)) :: st) = .long (Int64.ofNat (zi2l a)) :: st.map (zv (xad X)) from rfl, zi2l, zb_of] at kk
  exact kk
theorem hw_l2i {a : Nat} (hX : ZF X M) (hr : (pc, .l2i, n, aux) ∈ M.2.1) (k : HW X (pc + n) ls (.inl (zl2i a) :: st) F I J) : HW X pc ls (.inr (.inl a) :: st) F I J := by
  obtain ⟨d, h1, h2, h3, -⟩ := zrow hX hr
  cases h1
  cases (beq_iff_eq.mp h3 : n = 1)
  intro H locs LS hW hS hL
  have kk := k H locs LS hW hS hL
  refine lv_l2i hX.1 hX.2.1 h2 rfl ?_
  rw [show List.map (zv (xad X)) (.inl (zl2i a) :: st) = .int (Int32.ofInt (zl2i a)) :: st.map (zv (xad X)) from rfl, zl2i, Int32.ofInt_toInt] at kk
  exact kk
theorem hw_lcmp {a b : Nat} (hX : ZF X M) (hr : (pc, .lcmp, n, aux) ∈ M.2.1) (k : HW X (pc + n) ls (.inl (zcmp a b) :: st) F I J) : HW X pc ls (.inr (.inl b) :: .inr (.inl a) :: st) F I J := by
  obtain ⟨d, h1, h2, h3, -⟩ := zrow hX hr
  cases h1
  cases (beq_iff_eq.mp h3 : n = 1)
  intro H locs LS hW hS hL
  have kk := k H locs LS hW hS hL
  refine W.lcmp hX.1 hX.2.1 h2 ?_
  rw [show List.map (zv (xad X)) (.inl (zcmp a b) :: st) = .int (Int32.ofInt (zcmp a b)) :: st.map (zv (xad X)) from rfl, zcmp, Int32.ofInt_toInt] at kk
  exact kk
/-- of one word -/
def z1 : zV → Bool
  | .inr (.inl _) => false
  | _ => true
theorem z1_cat (ad : Nat → Nat) {v : zV} (h : z1 v = true) : (zv ad v).category = 1 := by
  rcases v with a | m | x
  · rfl
  · cases h
  · cases x <;> rfl
theorem hw_dup {v : zV} (hX : ZF X M) (hr : (pc, .dup, n, aux) ∈ M.2.1) (h1v : z1 v = true) (k : HW X (pc + n) ls (v :: v :: st) F I J) : HW X pc ls (v :: st) F I J := by
  obtain ⟨d, h1, h2, h3, -⟩ := zrow hX hr
  cases h1
  cases (beq_iff_eq.mp h3 : n = 1)
  intro H locs LS hW hS hL
  have kk := k H locs LS hW hS hL
  exact lv_dup hX.1 hX.2.1 h2 (z1_cat _ h1v) kk
theorem hw_pop {v : zV} (hX : ZF X M) (hr : (pc, .pop, n, aux) ∈ M.2.1) (h1v : z1 v = true) (k : HW X (pc + n) ls (st) F I J) : HW X pc ls (v :: st) F I J := by
  obtain ⟨d, h1, h2, h3, -⟩ := zrow hX hr
  cases h1
  cases (beq_iff_eq.mp h3 : n = 1)
  intro H locs LS hW hS hL
  have kk := k H locs LS hW hS hL
  exact lv_pop hX.1 hX.2.1 h2 (z1_cat _ h1v) kk
theorem hw_dup2 {v w : zV} (hX : ZF X M) (hr : (pc, .dup2, n, aux) ∈ M.2.1) (h1v : z1 v = true) (h1w : z1 w = true) (k : HW X (pc + n) ls (v :: w :: v :: w :: st) F I J) : HW X pc ls (v :: w :: st) F I J := by
  obtain ⟨d, h1, h2, h3, -⟩ := zrow hX hr
  cases h1
  cases (beq_iff_eq.mp h3 : n = 1)
  intro H locs LS hW hS hL
  have kk := k H locs LS hW hS hL
  exact lv_dup2_11 hX.1 hX.2.1 h2 (z1_cat _ h1v) (z1_cat _ h1w) kk
theorem hw_dup2l {a : Nat} (hX : ZF X M) (hr : (pc, .dup2, n, aux) ∈ M.2.1) (k : HW X (pc + n) ls (.inr (.inl a) :: .inr (.inl a) :: st) F I J) : HW X pc ls (.inr (.inl a) :: st) F I J := by
  obtain ⟨d, h1, h2, h3, -⟩ := zrow hX hr
  cases h1
  cases (beq_iff_eq.mp h3 : n = 1)
  intro H locs LS hW hS hL
  have kk := k H locs LS hW hS hL
  exact lv_dup2_2 hX.1 hX.2.1 h2 rfl kk
theorem hw_null (hX : ZF X M) (hr : (pc, .aconst_null, n, aux) ∈ M.2.1) (k : HW X (pc + n) ls (.inr (.inr none) :: st) F I J) : HW X pc ls (st) F I J := by
  obtain ⟨d, h1, h2, h3, -⟩ := zrow hX hr
  cases h1
  cases (beq_iff_eq.mp h3 : n = 1)
  intro H locs LS hW hS hL
  have kk := k H locs LS hW hS hL
  exact lv_null hX.1 hX.2.1 h2 kk
theorem hw_icmp_eq {a b : Int} {t : Nat} (hX : ZF X M) (hr : (pc, .if_icmp .eq t, n, aux) ∈ M.2.1) (k : (a % 4294967296 = b % 4294967296 → HW X t ls st F I J) ∧ (¬ (a % 4294967296 = b % 4294967296) → HW X (pc + n) ls st F I J)) : HW X pc ls (.inl b :: .inl a :: st) F I J := by
  obtain ⟨d, h1, h2, h3, h4⟩ := zrow hX hr
  cases h1
  cases (beq_iff_eq.mp h3 : n = 3)
  intro H locs LS hW hS hL
  exact lv_icmp_eq (tgt := t) hX.1 hX.2.1 h2 (by omega) (fun c => k.1 ((zi_eq a b).mp c) H locs LS hW hS hL) (fun c => k.2 (fun z => c ((zi_eq a b).mpr z)) H locs LS hW hS hL)
theorem hw_icmp_ne {a b : Int} {t : Nat} (hX : ZF X M) (hr : (pc, .if_icmp .ne t, n, aux) ∈ M.2.1) (k : (¬ a % 4294967296 = b % 4294967296 → HW X t ls st F I J) ∧ (a % 4294967296 = b % 4294967296 → HW X (pc + n) ls st F I J)) : HW X pc ls (.inl b :: .inl a :: st) F I J := by
  obtain ⟨d, h1, h2, h3, h4⟩ := zrow hX hr
  cases h1
  cases (beq_iff_eq.mp h3 : n = 3)
  intro H locs LS hW hS hL
  exact lv_icmp_ne (tgt := t) hX.1 hX.2.1 h2 (by omega) (fun c => k.1 ((not_congr (zi_eq a b)).mp c) H locs LS hW hS hL) (fun c => k.2 ((zi_eq a b).mp c) H locs LS hW hS hL)
theorem hw_icmp_lt {a b : Int} {t : Nat} (hX : ZF X M) (hr : (pc, .if_icmp .lt t, n, aux) ∈ M.2.1) (k : ((a + 2147483648) % 4294967296 < (b + 2147483648) % 4294967296 → HW X t ls st F I J) ∧ (¬ ((a + 2147483648) % 4294967296 < (b + 2147483648) % 4294967296) → HW X (pc + n) ls st F I J)) : HW X pc ls (.inl b :: .inl a :: st) F I J := by
  obtain ⟨d, h1, h2, h3, h4⟩ := zrow hX hr
  cases h1
  cases (beq_iff_eq.mp h3 : n = 3)
  intro H locs LS hW hS hL
  exact lv_icmp_lt (tgt := t) hX.1 hX.2.1 h2 (by omega) (fun c => k.1 ((zi_lt a b).mp c) H locs LS hW hS hL) (fun c => k.2 (fun z => c ((zi_lt a b).mpr z)) H locs LS hW hS hL)
theorem hw_icmp_ge {a b : Int} {t : Nat} (hX : ZF X M) (hr : (pc, .if_icmp .ge t, n, aux) ∈ M.2.1) (k : ((b + 2147483648) % 4294967296 ≤ (a + 2147483648) % 4294967296 → HW X t ls st F I J) ∧ (¬ ((b + 2147483648) % 4294967296 ≤ (a + 2147483648) % 4294967296) → HW X (pc + n) ls st F I J)) : HW X pc ls (.inl b :: .inl a :: st) F I J := by
  obtain ⟨d, h1, h2, h3, h4⟩ := zrow hX hr
  cases h1
  cases (beq_iff_eq.mp h3 : n = 3)
  intro H locs LS hW hS hL
  exact lv_icmp_ge (tgt := t) hX.1 hX.2.1 h2 (by omega) (fun c => k.1 ((zi_le b a).mp c) H locs LS hW hS hL) (fun c => k.2 (fun z => c ((zi_le b a).mpr z)) H locs LS hW hS hL)
theorem hw_icmp_gt {a b : Int} {t : Nat} (hX : ZF X M) (hr : (pc, .if_icmp .gt t, n, aux) ∈ M.2.1) (k : ((b + 2147483648) % 4294967296 < (a + 2147483648) % 4294967296 → HW X t ls st F I J) ∧ (¬ ((b + 2147483648) % 4294967296 < (a + 2147483648) % 4294967296) → HW X (pc + n) ls st F I J)) : HW X pc ls (.inl b :: .inl a :: st) F I J := by
  obtain ⟨d, h1, h2, h3, h4⟩ := zrow hX hr
  cases h1
  cases (beq_iff_eq.mp h3 : n = 3)
  intro H locs LS hW hS hL
  exact lv_icmp_gt (tgt := t) hX.1 hX.2.1 h2 (by omega) (fun c => k.1 ((zi_lt b a).mp c) H locs LS hW hS hL) (fun c => k.2 (fun z => c ((zi_lt b a).mpr z)) H locs LS hW hS hL)
theorem hw_icmp_le {a b : Int} {t : Nat} (hX : ZF X M) (hr : (pc, .if_icmp .le t, n, aux) ∈ M.2.1) (k : ((a + 2147483648) % 4294967296 ≤ (b + 2147483648) % 4294967296 → HW X t ls st F I J) ∧ (¬ ((a + 2147483648) % 4294967296 ≤ (b + 2147483648) % 4294967296) → HW X (pc + n) ls st F I J)) : HW X pc ls (.inl b :: .inl a :: st) F I J := by
  obtain ⟨d, h1, h2, h3, h4⟩ := zrow hX hr
  cases h1
  cases (beq_iff_eq.mp h3 : n = 3)
  intro H locs LS hW hS hL
  exact lv_icmp_le (tgt := t) hX.1 hX.2.1 h2 (by omega) (fun c => k.1 ((zi_le a b).mp c) H locs LS hW hS hL) (fun c => k.2 (fun z => c ((zi_le a b).mpr z)) H locs LS hW hS hL)
theorem hw_if_eq {a : Int} {t : Nat} (hX : ZF X M) (hr : (pc, .ifCond .eq t, n, aux) ∈ M.2.1) (k : (a % 4294967296 = 0 → HW X t ls st F I J) ∧ (¬ (a % 4294967296 = 0) → HW X (pc + n) ls st F I J)) : HW X pc ls (.inl a :: st) F I J := by
  obtain ⟨d, h1, h2, h3, h4⟩ := zrow hX hr
  cases h1
  cases (beq_iff_eq.mp h3 : n = 3)
  intro H locs LS hW hS hL
  exact lv_if_eq (tgt := t) hX.1 hX.2.1 h2 (by omega) (fun c => k.1 ((zi_eq a 0).mp c) H locs LS hW hS hL) (fun c => k.2 (fun z => c ((zi_eq a 0).mpr z)) H locs LS hW hS hL)
theorem hw_if_ne {a : Int} {t : Nat} (hX : ZF X M) (hr : (pc, .ifCond .ne t, n, aux) ∈ M.2.1) (k : (¬ a % 4294967296 = 0 → HW X t ls st F I J) ∧ (a % 4294967296 = 0 → HW X (pc + n) ls st F I J)) : HW X pc ls (.inl a :: st) F I J := by
  obtain ⟨d, h1, h2, h3, h4⟩ := zrow hX hr
  cases h1
  cases (beq_iff_eq.mp h3 : n = 3)
  intro H locs LS hW hS hL
  exact lv_if_ne (tgt := t) hX.1 hX.2.1 h2 (by omega) (fun c => k.1 ((not_congr (zi_eq a 0)).mp c) H locs LS hW hS hL) (fun c => k.2 ((zi_eq a 0).mp c) H locs LS hW hS hL)
theorem hw_if_lt {a : Int} {t : Nat} (hX : ZF X M) (hr : (pc, .ifCond .lt t, n, aux) ∈ M.2.1) (k : ((a + 2147483648) % 4294967296 < 2147483648 → HW X t ls st F I J) ∧ (¬ ((a + 2147483648) % 4294967296 < 2147483648) → HW X (pc + n) ls st F I J)) : HW X pc ls (.inl a :: st) F I J := by
  obtain ⟨d, h1, h2, h3, h4⟩ := zrow hX hr
  cases h1
  cases (beq_iff_eq.mp h3 : n = 3)
  intro H locs LS hW hS hL
  exact lv_if_lt (tgt := t) hX.1 hX.2.1 h2 (by omega) (fun c => k.1 ((zi_lt a 0).mp c) H locs LS hW hS hL) (fun c => k.2 (fun z => c ((zi_lt a 0).mpr z)) H locs LS hW hS hL)
theorem hw_if_ge {a : Int} {t : Nat} (hX : ZF X M) (hr : (pc, .ifCond .ge t, n, aux) ∈ M.2.1) (k : (2147483648 ≤ (a + 2147483648) % 4294967296 → HW X t ls st F I J) ∧ (¬ (2147483648 ≤ (a + 2147483648) % 4294967296) → HW X (pc + n) ls st F I J)) : HW X pc ls (.inl a :: st) F I J := by
  obtain ⟨d, h1, h2, h3, h4⟩ := zrow hX hr
  cases h1
  cases (beq_iff_eq.mp h3 : n = 3)
  intro H locs LS hW hS hL
  exact lv_if_ge (tgt := t) hX.1 hX.2.1 h2 (by omega) (fun c => k.1 ((zi_le 0 a).mp c) H locs LS hW hS hL) (fun c => k.2 (fun z => c ((zi_le 0 a).mpr z)) H locs LS hW hS hL)
theorem hw_if_gt {a : Int} {t : Nat} (hX : ZF X M) (hr : (pc, .ifCond .gt t, n, aux) ∈ M.2.1) (k : (2147483648 < (a + 2147483648) % 4294967296 → HW X t ls st F I J) ∧ (¬ (2147483648 < (a + 2147483648) % 4294967296) → HW X (pc + n) ls st F I J)) : HW X pc ls (.inl a :: st) F I J := by
  obtain ⟨d, h1, h2, h3, h4⟩ := zrow hX hr
  cases h1
  cases (beq_iff_eq.mp h3 : n = 3)
  intro H locs LS hW hS hL
  exact lv_if_gt (tgt := t) hX.1 hX.2.1 h2 (by omega) (fun c => k.1 ((zi_lt 0 a).mp c) H locs LS hW hS hL) (fun c => k.2 (fun z => c ((zi_lt 0 a).mpr z)) H locs LS hW hS hL)
theorem hw_if_le {a : Int} {t : Nat} (hX : ZF X M) (hr : (pc, .ifCond .le t, n, aux) ∈ M.2.1) (k : ((a + 2147483648) % 4294967296 ≤ 2147483648 → HW X t ls st F I J) ∧ (¬ ((a + 2147483648) % 4294967296 ≤ 2147483648) → HW X (pc + n) ls st F I J)) : HW X pc ls (.inl a :: st) F I J := by
  obtain ⟨d, h1, h2, h3, h4⟩ := zrow hX hr
  cases h1
  cases (beq_iff_eq.mp h3 : n = 3)
  intro H locs LS hW hS hL
  exact lv_if_le (tgt := t) hX.1 hX.2.1 h2 (by omega) (fun c => k.1 ((zi_le a 0).mp c) H locs LS hW hS hL) (fun c => k.2 (fun z => c ((zi_le a 0).mpr z)) H locs LS hW hS hL)
theorem hw_goto {t : Nat} (hX : ZF X M) (hr : (pc, .goto t, n, aux) ∈ M.2.1) (k : HW X t ls st F I J) : HW X pc ls st F I J := by
  obtain ⟨d, h1, h2, h3, h4⟩ := zrow hX hr
  cases h1
  cases (beq_iff_eq.mp h3 : n = 3)
  intro H locs LS hW hS hL
  exact lv_goto (tgt := t) hX.1 hX.2.1 h2 (by omega) (k H locs LS hW hS hL)
theorem hw_ifnull_n {t : Nat} (hX : ZF X M) (hr : (pc, .ifnull t, n, aux) ∈ M.2.1) (k : HW X t ls st F I J) : HW X pc ls (.inr (.inr none) :: st) F I J := by
  obtain ⟨d, h1, h2, h3, h4⟩ := zrow hX hr
  cases h1
  cases (beq_iff_eq.mp h3 : n = 3)
  intro H locs LS hW hS hL
  exact lv_ifnullN (tgt := t) hX.1 hX.2.1 h2 (by omega) (k H locs LS hW hS hL)
theorem hw_ifnull_s {t : Nat} {x : Nat} (hX : ZF X M) (hr : (pc, .ifnull t, n, aux) ∈ M.2.1) (k : HW X (pc + n) ls st F I J) : HW X pc ls (.inr (.inr (some x)) :: st) F I J := by
  obtain ⟨d, h1, h2, h3, h4⟩ := zrow hX hr
  cases h1
  cases (beq_iff_eq.mp h3 : n = 3)
  intro H locs LS hW hS hL
  exact lv_ifnull hX.1 hX.2.1 h2 (k H locs LS hW hS hL)
theorem hw_ifnonnull_n {t : Nat} (hX : ZF X M) (hr : (pc, .ifnonnull t, n, aux) ∈ M.2.1) (k : HW X (pc + n) ls st F I J) : HW X pc ls (.inr (.inr none) :: st) F I J := by
  obtain ⟨d, h1, h2, h3, h4⟩ := zrow hX hr
  cases h1
  cases (beq_iff_eq.mp h3 : n = 3)
  intro H locs LS hW hS hL
  exact lv_ifnonnullN hX.1 hX.2.1 h2 (k H locs LS hW hS hL)
theorem hw_ifnonnull_s {t : Nat} {x : Nat} (hX : ZF X M) (hr : (pc, .ifnonnull t, n, aux) ∈ M.2.1) (k : HW X t ls st F I J) : HW X pc ls (.inr (.inr (some x)) :: st) F I J := by
  obtain ⟨d, h1, h2, h3, h4⟩ := zrow hX hr
  cases h1
  cases (beq_iff_eq.mp h3 : n = 3)
  intro H locs LS hW hS hL
  exact lv_ifnonnull (tgt := t) hX.1 hX.2.1 h2 (by omega) (k H locs LS hW hS hL)
end ZOPT
