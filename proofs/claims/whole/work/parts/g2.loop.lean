/-! the law's loop -/
theorem z31 (v : Int32) : ∃ t : Nat, zand v.toInt 31 = (t : Int) ∧ t < 32 := by
  have h31 : (31 : Int) = ((31 : Nat) : Int) := rfl
  refine ⟨(v.toBitVec &&& 31#32).toNat, ?_, ?_⟩
  · unfold zand
    rw [Int32.ofInt_toInt]
    have e : (v &&& Int32.ofInt 31).toBitVec = v.toBitVec &&& 31#32 := rfl
    show (v &&& Int32.ofInt 31).toBitVec.toInt = _
    rw [e, BitVec.toInt_eq_toNat_of_lt]
    have : (v.toBitVec &&& 31#32).toNat ≤ 31 := by
      rw [BitVec.toNat_and]
      exact Nat.and_le_right
    omega
  · rw [BitVec.toNat_and]
    exact Nat.lt_of_le_of_lt Nat.and_le_right (by decide)
theorem i32z (v : Int32) : zi32 v.toInt := by
  have h := zi_toInt v.toInt
  rw [Int32.ofInt_toInt] at h
  unfold zi32
  omega
section LAW
variable {X : zX} {b L : Nat} {xs : Nat → Int32} {F I : zFi} {J : zJi}
set_option maxHeartbeats 4000000 in
theorem law_step (hX : ZF X mLaw) (hl : LX X b L xs) (hL : L ≤ 2560) (hs : zWS (xsh X)) (hm : zWM (xsh X)) {i : Nat} (hi : i + 4 < L) (hB : BS F I J) (next : ∀ F2 I2 J2, BS F2 I2 J2 → HW X 664 (lsL i) [] F2 I2 J2) : HW X 32 (lsL i) [.inl (zand (xs i).toInt 31)] F I J := by
  have h0 := hs.2.1
  have h60 := hm.o
  obtain ⟨t, ht, ht32⟩ := z31 (xs i)
  rw [ht]
  by_cases h18 : 18 ≤ t
  · exact hw_tabOut hX (zat_mem rfl) (by unfold zi32; omega) (Or.inr (by omega)) (t := 664) rfl (next F I J hB)
  have ht18 : t < 18 := by omega
  clear ht h18 ht32
  match t, ht18 with
  | 0, _ => exact hw_tabIn hX (zat_mem rfl) (by decide) (by decide) (by decide) (off := 88) rfl (t := 120) rfl (law_case (js := [1]) (idA := 13) (idB := 17) hX hl hL hi h0 h60 (by decide) (by decide +kernel) (st_square hs hm hB (i32z _)) gL_law_X8_square rfl ⟨rfl, rfl⟩ ⟨rfl, by decide, by decide, by decide +kernel⟩ ⟨Nat.le_of_ble_eq_true rfl, Nat.le_of_ble_eq_true rfl⟩ gL_law_X9_square rfl ⟨rfl, rfl⟩ ⟨rfl, by decide, by decide, by decide +kernel⟩ ⟨Nat.le_of_ble_eq_true rfl, Nat.le_of_ble_eq_true rfl⟩ next)
  | 1, _ => exact hw_tabIn hX (zat_mem rfl) (by decide) (by decide) (by decide) (off := 111) rfl (t := 143) rfl (law_case (js := []) (idA := 18) (idB := 22) hX hl hL hi h0 h60 (by decide) (by decide +kernel) (st_clear hs hm hB ) gL_law_X8_clear rfl ⟨rfl, rfl⟩ ⟨rfl, by decide, by decide, by decide +kernel⟩ ⟨Nat.le_of_ble_eq_true rfl, Nat.le_of_ble_eq_true rfl⟩ gL_law_X9_clear rfl ⟨rfl, rfl⟩ ⟨rfl, by decide, by decide, by decide +kernel⟩ ⟨Nat.le_of_ble_eq_true rfl, Nat.le_of_ble_eq_true rfl⟩ next)
  | 2, _ => exact hw_tabIn hX (zat_mem rfl) (by decide) (by decide) (by decide) (off := 124) rfl (t := 156) rfl (law_case (js := [1]) (idA := 23) (idB := 26) hX hl hL hi h0 h60 (by decide) (by decide +kernel) (st_sum hs hm hB (i32z _)) gL_law_X8_sum rfl ⟨rfl, rfl⟩ ⟨rfl, by decide, by decide, by decide +kernel⟩ ⟨Nat.le_of_ble_eq_true rfl, Nat.le_of_ble_eq_true rfl⟩ gL_law_X9_sum rfl ⟨rfl, rfl⟩ ⟨rfl, by decide, by decide, by decide +kernel⟩ ⟨Nat.le_of_ble_eq_true rfl, Nat.le_of_ble_eq_true rfl⟩ next)
  | 3, _ => exact hw_tabIn hX (zat_mem rfl) (by decide) (by decide) (by decide) (off := 147) rfl (t := 179) rfl (law_case (js := [1, 2, 3]) (idA := 27) (idB := 31) hX hl hL hi h0 h60 (by decide) (by decide +kernel) (st_term hs hm hB (i32z _) (i32z _) (i32z _)) gL_law_X8_term rfl ⟨rfl, rfl⟩ ⟨rfl, by decide, by decide, by decide +kernel⟩ ⟨Nat.le_of_ble_eq_true rfl, Nat.le_of_ble_eq_true rfl⟩ gL_law_X9_term rfl ⟨rfl, rfl⟩ ⟨rfl, by decide, by decide, by decide +kernel⟩ ⟨Nat.le_of_ble_eq_true rfl, Nat.le_of_ble_eq_true rfl⟩ next)
  | 4, _ => exact hw_tabIn hX (zat_mem rfl) (by decide) (by decide) (by decide) (off := 190) rfl (t := 222) rfl (law_case (js := [1]) (idA := 32) (idB := 35) hX hl hL hi h0 h60 (by decide) (by decide +kernel) (st_many hs hm hB (i32z _)) gL_law_X8_many rfl ⟨rfl, rfl⟩ ⟨rfl, by decide, by decide, by decide +kernel⟩ ⟨Nat.le_of_ble_eq_true rfl, Nat.le_of_ble_eq_true rfl⟩ gL_law_X9_many rfl ⟨rfl, rfl⟩ ⟨rfl, by decide, by decide, by decide +kernel⟩ ⟨Nat.le_of_ble_eq_true rfl, Nat.le_of_ble_eq_true rfl⟩ next)
  | 5, _ => exact hw_tabIn hX (zat_mem rfl) (by decide) (by decide) (by decide) (off := 213) rfl (t := 245) rfl (law_case (js := []) (idA := 36) (idB := 39) hX hl hL hi h0 h60 (by decide) (by decide +kernel) (st_empty hs hm hB ) gL_law_X8_empty rfl ⟨rfl, rfl⟩ ⟨rfl, by decide, by decide, by decide +kernel⟩ ⟨Nat.le_of_ble_eq_true rfl, Nat.le_of_ble_eq_true rfl⟩ gL_law_X9_empty rfl ⟨rfl, rfl⟩ ⟨rfl, by decide, by decide, by decide +kernel⟩ ⟨Nat.le_of_ble_eq_true rfl, Nat.le_of_ble_eq_true rfl⟩ next)
  | 6, _ => exact hw_tabIn hX (zat_mem rfl) (by decide) (by decide) (by decide) (off := 226) rfl (t := 258) rfl (law_case (js := [1]) (idA := 40) (idB := 43) hX hl hL hi h0 h60 (by decide) (by decide +kernel) (st_element hs hm hB (i32z _)) gL_law_X8_element rfl ⟨rfl, rfl⟩ ⟨rfl, by decide, by decide, by decide +kernel⟩ ⟨Nat.le_of_ble_eq_true rfl, Nat.le_of_ble_eq_true rfl⟩ gL_law_X9_element rfl ⟨rfl, rfl⟩ ⟨rfl, by decide, by decide, by decide +kernel⟩ ⟨Nat.le_of_ble_eq_true rfl, Nat.le_of_ble_eq_true rfl⟩ next)
  | 7, _ => exact hw_tabIn hX (zat_mem rfl) (by decide) (by decide) (by decide) (off := 249) rfl (t := 281) rfl (law_case (js := [1, 2, 3]) (idA := 44) (idB := 47) hX hl hL hi h0 h60 (by decide) (by decide +kernel) (st_act hs hm hB (i32z _) (i32z _) (i32z _)) gL_law_X8_act rfl ⟨rfl, rfl⟩ ⟨rfl, by decide, by decide, by decide +kernel⟩ ⟨Nat.le_of_ble_eq_true rfl, Nat.le_of_ble_eq_true rfl⟩ gL_law_X9_act rfl ⟨rfl, rfl⟩ ⟨rfl, by decide, by decide, by decide +kernel⟩ ⟨Nat.le_of_ble_eq_true rfl, Nat.le_of_ble_eq_true rfl⟩ next)
  | 8, _ => exact hw_tabIn hX (zat_mem rfl) (by decide) (by decide) (by decide) (off := 292) rfl (t := 324) rfl (law_case (js := [1, 2, 3]) (idA := 48) (idB := 51) hX hl hL hi h0 h60 (by decide) (by decide +kernel) (st_space hs hm hB (i32z _) (i32z _) (i32z _)) gL_law_X8_space rfl ⟨rfl, rfl⟩ ⟨rfl, by decide, by decide, by decide +kernel⟩ ⟨Nat.le_of_ble_eq_true rfl, Nat.le_of_ble_eq_true rfl⟩ gL_law_X9_space rfl ⟨rfl, rfl⟩ ⟨rfl, by decide, by decide, by decide +kernel⟩ ⟨Nat.le_of_ble_eq_true rfl, Nat.le_of_ble_eq_true rfl⟩ next)
  | 9, _ => exact hw_tabIn hX (zat_mem rfl) (by decide) (by decide) (by decide) (off := 335) rfl (t := 367) rfl (law_case (js := [1]) (idA := 52) (idB := 55) hX hl hL hi h0 h60 (by decide) (by decide +kernel) (st_does hs hm hB (i32z _)) gL_law_X8_does rfl ⟨rfl, rfl⟩ ⟨rfl, by decide, by decide, by decide +kernel⟩ ⟨Nat.le_of_ble_eq_true rfl, Nat.le_of_ble_eq_true rfl⟩ gL_law_X9_does rfl ⟨rfl, rfl⟩ ⟨rfl, by decide, by decide, by decide +kernel⟩ ⟨Nat.le_of_ble_eq_true rfl, Nat.le_of_ble_eq_true rfl⟩ next)
  | 10, _ => exact hw_tabIn hX (zat_mem rfl) (by decide) (by decide) (by decide) (off := 358) rfl (t := 390) rfl (law_case (js := [1, 2]) (idA := 56) (idB := 60) hX hl hL hi h0 h60 (by decide) (by decide +kernel) (st_about hs hm hB (i32z _) (i32z _)) gL_law_X8_about rfl ⟨rfl, rfl⟩ ⟨rfl, by decide, by decide, by decide +kernel⟩ ⟨Nat.le_of_ble_eq_true rfl, Nat.le_of_ble_eq_true rfl⟩ gL_law_X9_about rfl ⟨rfl, rfl⟩ ⟨rfl, by decide, by decide, by decide +kernel⟩ ⟨Nat.le_of_ble_eq_true rfl, Nat.le_of_ble_eq_true rfl⟩ next)
  | 11, _ => exact hw_tabIn hX (zat_mem rfl) (by decide) (by decide) (by decide) (off := 391) rfl (t := 423) rfl (law_case (js := [1]) (idA := 61) (idB := 64) hX hl hL hi h0 h60 (by decide) (by decide +kernel) (st_fault hs hm hB (i32z _)) gL_law_X8_fault rfl ⟨rfl, rfl⟩ ⟨rfl, by decide, by decide, by decide +kernel⟩ ⟨Nat.le_of_ble_eq_true rfl, Nat.le_of_ble_eq_true rfl⟩ gL_law_X9_fault rfl ⟨rfl, rfl⟩ ⟨rfl, by decide, by decide, by decide +kernel⟩ ⟨Nat.le_of_ble_eq_true rfl, Nat.le_of_ble_eq_true rfl⟩ next)
  | 12, _ => exact hw_tabIn hX (zat_mem rfl) (by decide) (by decide) (by decide) (off := 414) rfl (t := 446) rfl (law_case (js := [1, 2]) (idA := 65) (idB := 68) hX hl hL hi h0 h60 (by decide) (by decide +kernel) (st_live hs hm hB (i32z _) (i32z _)) gL_law_X8_live rfl ⟨rfl, rfl⟩ ⟨rfl, by decide, by decide, by decide +kernel⟩ ⟨Nat.le_of_ble_eq_true rfl, Nat.le_of_ble_eq_true rfl⟩ gL_law_X9_live rfl ⟨rfl, rfl⟩ ⟨rfl, by decide, by decide, by decide +kernel⟩ ⟨Nat.le_of_ble_eq_true rfl, Nat.le_of_ble_eq_true rfl⟩ next)
  | 13, _ => exact hw_tabIn hX (zat_mem rfl) (by decide) (by decide) (by decide) (off := 447) rfl (t := 479) rfl (law_case (js := [1, 2, 3]) (idA := 69) (idB := 72) hX hl hL hi h0 h60 (by decide) (by decide +kernel) (st_joins hs hm hB (i32z _) (i32z _) (i32z _)) gL_law_X8_joins rfl ⟨rfl, rfl⟩ ⟨rfl, by decide, by decide, by decide +kernel⟩ ⟨Nat.le_of_ble_eq_true rfl, Nat.le_of_ble_eq_true rfl⟩ gL_law_X9_joins rfl ⟨rfl, rfl⟩ ⟨rfl, by decide, by decide, by decide +kernel⟩ ⟨Nat.le_of_ble_eq_true rfl, Nat.le_of_ble_eq_true rfl⟩ next)
  | 14, _ => exact hw_tabIn hX (zat_mem rfl) (by decide) (by decide) (by decide) (off := 490) rfl (t := 522) rfl (law_case (js := [1]) (idA := 73) (idB := 76) hX hl hL hi h0 h60 (by decide) (by decide +kernel) (st_balance hs hm hB (i32z _)) gL_law_X8_balance rfl ⟨rfl, rfl⟩ ⟨rfl, by decide, by decide, by decide +kernel⟩ ⟨Nat.le_of_ble_eq_true rfl, Nat.le_of_ble_eq_true rfl⟩ gL_law_X9_balance rfl ⟨rfl, rfl⟩ ⟨rfl, by decide, by decide, by decide +kernel⟩ ⟨Nat.le_of_ble_eq_true rfl, Nat.le_of_ble_eq_true rfl⟩ next)
  | 15, _ => exact hw_tabIn hX (zat_mem rfl) (by decide) (by decide) (by decide) (off := 513) rfl (t := 545) rfl (law_case (js := [1, 2, 3, 4]) (idA := 77) (idB := 81) hX hl hL hi h0 h60 (by decide) (by decide +kernel) (st_differ hs hm hB (i32z _) (i32z _) (i32z _) (i32z _)) gL_law_X8_differ rfl ⟨rfl, rfl⟩ ⟨rfl, by decide, by decide, by decide +kernel⟩ ⟨Nat.le_of_ble_eq_true rfl, Nat.le_of_ble_eq_true rfl⟩ gL_law_X9_differ rfl ⟨rfl, rfl⟩ ⟨rfl, by decide, by decide, by decide +kernel⟩ ⟨Nat.le_of_ble_eq_true rfl, Nat.le_of_ble_eq_true rfl⟩ next)
  | 16, _ => exact hw_tabIn hX (zat_mem rfl) (by decide) (by decide) (by decide) (off := 566) rfl (t := 598) rfl (law_case (js := [1, 2, 3]) (idA := 82) (idB := 85) hX hl hL hi h0 h60 (by decide) (by decide +kernel) (st_page hs hm hB (i32z _) (i32z _) (i32z _)) gL_law_X8_page rfl ⟨rfl, rfl⟩ ⟨rfl, by decide, by decide, by decide +kernel⟩ ⟨Nat.le_of_ble_eq_true rfl, Nat.le_of_ble_eq_true rfl⟩ gL_law_X9_page rfl ⟨rfl, rfl⟩ ⟨rfl, by decide, by decide, by decide +kernel⟩ ⟨Nat.le_of_ble_eq_true rfl, Nat.le_of_ble_eq_true rfl⟩ next)
  | 17, _ => exact hw_tabIn hX (zat_mem rfl) (by decide) (by decide) (by decide) (off := 609) rfl (t := 641) rfl (law_case (js := [1]) (idA := 86) (idB := 89) hX hl hL hi h0 h60 (by decide) (by decide +kernel) (st_count hs hm hB (i32z _)) gL_law_X8_count rfl ⟨rfl, rfl⟩ ⟨rfl, by decide, by decide, by decide +kernel⟩ ⟨Nat.le_of_ble_eq_true rfl, Nat.le_of_ble_eq_true rfl⟩ gL_law_X9_count rfl ⟨rfl, rfl⟩ ⟨rfl, by decide, by decide, by decide +kernel⟩ ⟨Nat.le_of_ble_eq_true rfl, Nat.le_of_ble_eq_true rfl⟩ next)
  | k + 18, h => exact absurd h (by omega)
set_option maxRecDepth 10000 in
theorem law_loop (hX : ZF X mLaw) (hl : LX X b L xs) (hL : L ≤ 2560) (hs : zWS (xsh X)) (hm : zWM (xsh X)) (fin : ∀ (i : Nat) F I J, HW X 670 (lsL i) [] F I J) : ∀ (m i : Nat) F I J, L ≤ i + m → i ≤ L → BS F I J → HW X 18 (lsL i) [] F I J := by
  intro m
  induction m with
  | zero =>
    intro i F I J h1 h2 hB
    have h9 := fin i F I J
    refine zgo (fun pc => Nat.beq pc 20) 200 hX zr0 rfl ?_
    refine hw_slen hX (zat_mem rfl) hl ?_
    refine zgo (fun pc => Nat.beq pc 670 || Nat.beq pc 28) 200 hX zr0 rfl ?_
    exact And.intro (fun c1 => h9) (fun c1 => by omega)
  | succ m ih =>
    intro i F I J h1 h2 hB
    have h9 := fin i F I J
    refine zgo (fun pc => Nat.beq pc 20) 200 hX zr0 rfl ?_
    refine hw_slen hX (zat_mem rfl) hl ?_
    refine zgo (fun pc => Nat.beq pc 670 || Nat.beq pc 28) 200 hX zr0 rfl ?_
    refine And.intro (fun c1 => h9) (fun c1 => ?_)
    have hi : i + 4 < L := by omega
    refine hw_sload hX (zat_mem rfl) hl (j := i) rfl (by omega) hL ?_
    have next : ∀ F2 I2 J2, BS F2 I2 J2 → HW X 664 (lsL i) [] F2 I2 J2 := fun F2 I2 J2 hB2 => by
      have h8 := ih (i + 5) F2 I2 J2 (by omega) (by omega) hB2
      refine zgo (fun pc => Nat.beq pc 18) 200 hX zr0 rfl ?_
      exact h8
    have h7 := law_step hX hl hL hs hm hi hB next
    refine zgo (fun pc => Nat.beq pc 32) 200 hX zr0 rfl ?_
    exact h7
end LAW
theorem zWS.cg {sh sh' : zSh} (h : zWS sh) (e : ∀ k, k < 56 → sh' k = sh k) : zWS sh' := by
  obtain ⟨⟨⟨t1, c16, E, f, t2, t3⟩, t4, t5, t6, ⟨t7, t8⟩, t9, ⟨u1, u2, u3, u4⟩, ⟨c17, E17, f17, u5, u6⟩, u7⟩, w1, w2, w3, w4, ⟨w5, w6⟩⟩ := h
  exact ⟨⟨⟨(e 15 (by decide)).trans t1, c16, E, f, (e 16 (by decide)).trans t2, t3⟩, t4.cg (e 2 (by decide)) (e 3 (by decide)) (e 4 (by decide)), t5.cg (e 8 (by decide)) (e 9 (by decide)), t6.cg (e 11 (by decide)) (e 12 (by decide)) (e 13 (by decide)) (e 14 (by decide)), ⟨t7.cg (e 18 (by decide)) (e 19 (by decide)), t8.cg (e 20 (by decide)) (e 21 (by decide))⟩, fun i hi => (t9 i hi).cg (e _ (by omega)) (e _ (by omega)),
    ⟨u1.imp fun c x => (e 26 (by decide)).trans x, u2.imp fun c x => (e 27 (by decide)).trans x, u3.imp fun c x => (e 28 (by decide)).trans x, u4.imp fun c x => (e 29 (by decide)).trans x⟩, ⟨c17, E17, f17, (e 17 (by decide)).trans u5, u6⟩, fun s hs => ⟨(u7 s hs).1.cg (e _ (by omega)) (e _ (by omega)), (u7 s hs).2.cg (e _ (by omega)) (e _ (by omega))⟩⟩,
    (e 0 (by decide)).trans w1, w2.imp fun c x => (e 1 (by decide)).trans x, w3.cg (e 5 (by decide)) (e 6 (by decide)) (e 7 (by decide)), (e 10 (by decide)).trans w4, ⟨(e 30 (by decide)).trans w5, w6.imp fun c x => (e 31 (by decide)).trans x⟩⟩
