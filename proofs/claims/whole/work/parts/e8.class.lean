/-! constructors: the class; its state at the start -/
theorem zsBas.cg {sh sh' : zSh} {b nu st : Nat} (h : zsBas sh b nu st) (e1 : sh' b = sh b) (e2 : sh' nu = sh nu) (e3 : sh' st = sh st) : zsBas sh' b nu st := ⟨e1.trans h.1, h.2.1.imp fun c x => e2.trans x, h.2.2.imp fun c x => e3.trans x⟩
theorem zsSq.cg {sh sh' : zSh} {q b pr : Nat} (h : zsSq sh q b pr) (e1 : sh' q = sh q) (e2 : sh' pr = sh pr) : zsSq sh' q b pr := ⟨e1.trans h.1, h.2.imp fun c x => e2.trans x⟩
theorem zsSp.cg {sh sh' : zSh} {p dg ac fa : Nat} (h : zsSp sh p dg ac fa) (e1 : sh' p = sh p) (e2 : sh' dg = sh dg) (e3 : sh' ac = sh ac) (e4 : sh' fa = sh fa) : zsSp sh' p dg ac fa := ⟨e1.trans h.1, h.2.1.imp fun c x => e2.trans x, h.2.2.1.imp fun c x => e3.trans x, h.2.2.2.imp fun c x => e4.trans x⟩
theorem zsBits.cg {sh sh' : zSh} {k c m : Nat} (h : zsBits sh k c m) (e1 : sh' k = sh k) (e2 : sh' c = sh c) : zsBits sh' k c m := ⟨e1.trans h.1, h.2.imp fun c x => e2.trans x⟩
theorem zsFl.cg {sh sh' : zSh} {p b dg go : Nat} (h : zsFl sh p b dg go) (e1 : sh' p = sh p) (e2 : sh' dg = sh dg) : zsFl sh' p b dg go := ⟨e1.trans h.1, h.2.imp fun c x => e2.trans x⟩
theorem z4096 : (0 : Nat) < 4096 := by decide
theorem z072 : (0 : Nat) ≤ 72 := by decide
theorem z360 : (0 : Nat) * 5 ≤ 360 := by decide
theorem z014 : (0 : Nat) ≤ 14 := by decide
theorem z099 : (0 : Int) ≤ 0 ∧ (0 : Int) ≤ 99 := by decide
theorem z0i : zi32 0 := ⟨by decide, by decide⟩
theorem aS_61 (j : Nat) : aS j ≤ 61 := by
  by_cases h : j < 16
  · have : ∀ j, j < 16 → aS j ≤ 61 := by decide
    exact this j h
  · have : aSt.length = 16 := by decide +kernel
    show (aSt[j]?).getD 0 ≤ 61
    rw [List.getElem?_eq_none (by omega)]
    decide
theorem aN_61 (j : Nat) : aN j ≤ 61 := by
  by_cases h : j < 183
  · have : ∀ j, j < 183 → aN j ≤ 61 := by decide +kernel
    exact this j h
  · have : aNum.length = 183 := by decide +kernel
    show (aNum[j]?).getD 0 ≤ 61
    rw [List.getElem?_eq_none (by omega)]
    decide
theorem mN_61 (j : Nat) : mN j ≤ 61 := by
  by_cases h : j < 183
  · have : ∀ j, j < 183 → mN j ≤ 61 := by decide +kernel
    exact this j h
  · have : mNum.length = 183 := by decide +kernel
    show (mNum[j]?).getD 0 ≤ 61
    rw [List.getElem?_eq_none (by omega)]
    decide
/-- the class's state at its start -/
abbrev CS0 (F I : zFi) (J : zJi) (F' I' : zFi) (J' : zJi) : Prop := CS F I J F' I' J' 0 (fun _ => 0) 0 (fun _ _ => 0) (fun _ => 0) (fun _ => 0) 0 (fun _ => 0) (fun _ _ => 0) (fun _ _ _ => false)
def mA8 : zM := (cX8_init, tX8_init, RX8, wsX8_init, { frames := 7, cells := 55, slots := 15107, locals := 162 })
theorem kA8 : mA8.2.1.all (fun r => zok mA8 r && zrt none r.2.1) = true := by decide +kernel
abbrev frC (k : Nat) : Bool := decide (1 ≤ k ∧ k ≤ 55)
theorem inT {ws : List Cond} {w : Cond} (i : Nat) (h : ws[i]? = some w) : w ∈ ws := List.mem_of_getElem? h
set_option maxHeartbeats 4000000 in
theorem c_X8_init (l : Launch) (D : va_G) (sh : zSh) (F I : zFi) (J : zJi) (hq : sh 0 = some (.inl (8, [some none, some none, some none, some none, some none, some none, some none, some none, none, none]))) (hc : ∀ k, frC k = true → sh k = none) (hcl : zCl sh) :
    CnA l D yX8_init wsX8_init mA8.2.2.2.2 sh frC [.inr (.inr (some 0))] F I J 55 15107 (fun sh' F' I' J' => (zWS sh' ∧ ∀ k, 56 ≤ k → sh' k = sh k) ∧ CS0 F I J F' I' J') := by
  have hc' : ∀ k, 1 ≤ k → k ≤ 55 → sh k = none := fun k a b => hc k (decide_eq_true ⟨a, b⟩)
  refine zmetA (M := mA8) rfl rfl rfl rfl kA8 (Nat.le_of_ble_eq_true rfl) hcl (fun X hZ hRA hin hl hD hsh hk hn => ?_)
  subst hl hD
  show HW X 0 [some (.inr (.inr (some 0))), none, none, none, none] [] F I J
  refine zgo (fun pc => Nat.beq pc 1) 200 hZ.1 zr0 rfl ?_
  refine hw_objInit hZ.1 (zat_mem rfl) (by decide +kernel) (by decide +kernel) (by decide +kernel) (Nat.le_of_ble_eq_true rfl) ⟨by decide, by decide⟩ ?_
  -- the chains
  refine hw_new (idx := 9) (q := 2) (ci := 0) (sl := [some none, some none]) hZ (by decide +kernel) rfl (by decide +kernel) (by decide +kernel) (by decide +kernel) (by decide +kernel) (by decide +kernel) (by rw [hsh]; exact hc' 2 (by decide) (by decide)) rfl rfl rfl (by rw [hk]; decide) (by rw [hn]; decide) (fun X1 hZ1 hs1 hk1 hn1 => ?_)
  rw [hsh] at hs1
  refine zgo (fun pc => Nat.beq pc 11) 200 hZ1.1 zr0 rfl ?_
  refine hw_callA (nA := 3) (maxL := 10) (As := [.inl ((1 : Nat) : Int), .inl ((1 : Nat) : Int), .inl (if true = true then 1 else 0)]) (st := [.inr (.inr (some 2))]) hZ1 (zat_mem rfl) (c_X0_init _ _ _ _ _ _ (q := 2) (nu := 3) (st := 4) (w2 := 1) (w3 := 1) (dbl := true) (N := aN) (S := aS) (by rw [hs1]; rfl) (by rw [hs1]; exact hc' 3 (by decide) (by decide)) (by rw [hs1]; exact hc' 4 (by decide) (by decide)) (by decide) hZ1.2.1.1 (by decide) (by decide) bchk_a) gX8_init_X0_init rfl ⟨rfl, rfl⟩ (by decide +kernel) (by decide +kernel) (by decide +kernel) rfl ⟨by decide, by decide, by decide +kernel⟩ rfl ⟨Nat.le_of_ble_eq_true rfl, Nat.le_of_ble_eq_true rfl⟩ (Nat.le_of_ble_eq_true rfl) (fun k hk => by simp at hk ⊢; omega) rfl rfl (by rw [hk1, hk]; decide) (by rw [hn1, hn]; decide) (fun X2 F2 I2 J2 hZ2 hp hk2 hn2 => ?_)
  obtain ⟨⟨o2, b1⟩, eF2, eJ2, i2, n2, s2⟩ := hp
  rw [eF2, eJ2]
  have O2 : ∀ k, (k < 2 ∨ 4 < k) → xsh X2 k = sh k := fun k a => by rw [o2 k (by omega) (by omega) (by omega), hs1, zsu_n (by omega)]
  have kk2 : xk X2 = 3 := by omega
  have nn2 : xn X2 = 201 := by omega
  refine zgo (fun pc => Nat.beq pc 15) 200 hZ2.1 zr0 rfl ?_
  -- the rows
  refine hw_new (idx := 9) (q := 5) (ci := 0) (sl := [some none, some none]) hZ2 (by decide +kernel) rfl (by decide +kernel) (by decide +kernel) (by decide +kernel) (by decide +kernel) (by decide +kernel) ((O2 5 (by omega)).trans (hc' 5 (by decide) (by decide))) rfl rfl rfl (by rw [kk2]; decide) (by rw [nn2]; decide) (fun X3 hZ3 hs3 hk3 hn3 => ?_)
  have O3 : ∀ k, k ≠ 5 → xsh X3 k = xsh X2 k := fun k a => by rw [hs3, zsu_n a]
  refine zgo (fun pc => Nat.beq pc 23) 200 hZ3.1 zr0 rfl ?_
  refine hw_callA (nA := 3) (maxL := 10) (As := [.inl ((3 : Nat) : Int), .inl ((7 : Nat) : Int), .inl (if false = true then 1 else 0)]) (st := [.inr (.inr (some 5))]) hZ3 (zat_mem rfl) (c_X0_init _ _ _ _ _ _ (q := 5) (nu := 6) (st := 7) (w2 := 3) (w3 := 7) (dbl := false) (N := mN) (S := aS) (by rw [hs3]; exact zsu_s _ _ _) ((O3 6 (by decide)).trans ((O2 6 (by omega)).trans (hc' 6 (by decide) (by decide)))) ((O3 7 (by decide)).trans ((O2 7 (by omega)).trans (hc' 7 (by decide) (by decide)))) (by decide) hZ3.2.1.1 (by decide) (by decide) bchk_m) gX8_init_X0_init rfl ⟨rfl, rfl⟩ (by decide +kernel) (by decide +kernel) (by decide +kernel) rfl ⟨by decide, by decide, by decide +kernel⟩ rfl ⟨Nat.le_of_ble_eq_true rfl, Nat.le_of_ble_eq_true rfl⟩ (Nat.le_of_ble_eq_true rfl) (fun k hk => by simp at hk ⊢; omega) rfl rfl (by rw [hk3, kk2]; decide) (by rw [hn3, nn2]; decide) (fun X4 F4 I4 J4 hZ4 hp hk4 hn4 => ?_)
  obtain ⟨⟨o4, b2⟩, eF4, eJ4, i4, n4, s4⟩ := hp
  rw [eF4, eJ4]
  have O4 : ∀ k, (k < 5 ∨ 7 < k) → xsh X4 k = xsh X2 k := fun k a => by rw [o4 k (by omega) (by omega) (by omega), O3 k (by omega)]
  have P4 : ∀ k, (k < 2 ∨ 7 < k) → xsh X4 k = sh k := fun k a => (O4 k (by omega)).trans (O2 k (by omega))
  have kk4 : xk X4 = 6 := by omega
  have nn4 : xn X4 = 402 := by omega
  have B1_4 : zsBas (xsh X4) 2 3 4 := b1.cg (O4 2 (by omega)) (O4 3 (by omega)) (O4 4 (by omega))
  have T1_4 : bT I4 3 4 aN aS := ⟨fun j hj => by rw [i4 3 (by decide) (by decide)]; exact n2 j hj, fun j hj => by rw [i4 4 (by decide) (by decide)]; exact s2 j hj, aS_61, aN_61⟩
  refine zgo (fun pc => Nat.beq pc 27) 200 hZ4.1 zr0 rfl ?_
  -- the products
  refine hw_new (idx := 14) (q := 8) (ci := 6) (sl := [some none, some none]) hZ4 (by decide +kernel) rfl (by decide +kernel) (by decide +kernel) (by decide +kernel) (by decide +kernel) (by decide +kernel) ((P4 8 (by omega)).trans (hc' 8 (by decide) (by decide))) rfl rfl rfl (by rw [kk4]; decide) (by rw [nn4]; decide) (fun X5 hZ5 hs5 hk5 hn5 => ?_)
  have O5 : ∀ k, k ≠ 8 → xsh X5 k = xsh X4 k := fun k a => by rw [hs5, zsu_n a]
  refine zgo (fun pc => Nat.beq pc 32) 200 hZ5.1 zr0 rfl ?_
  refine hw_callA (nA := 1) (maxL := 2) (As := [.inr (.inr (some 2))]) (st := [.inr (.inr (some 8))]) hZ5 (zat_mem rfl) (c_X6_init _ _ _ _ _ _ (by rw [hs5]; exact zsu_s _ _ _) ((O5 9 (by decide)).trans ((P4 9 (by omega)).trans (hc' 9 (by decide) (by decide)))) (B1_4.cg (O5 2 (by decide)) (O5 3 (by decide)) (O5 4 (by decide))) T1_4 hZ5.2.1.1) gX8_init_X6_init rfl ⟨rfl, rfl⟩ (by decide +kernel) (by decide +kernel) (by decide +kernel) rfl ⟨by decide, by decide, by decide +kernel⟩ rfl ⟨Nat.le_of_ble_eq_true rfl, Nat.le_of_ble_eq_true rfl⟩ (Nat.le_of_ble_eq_true rfl) (fun k hk => by simp at hk ⊢; omega) rfl rfl (by rw [hk5, kk4]; decide) (by rw [hn5, nn4]; decide) (fun X6 F6 I6 J6 hZ6 hp hk6 hn6 => ?_)
  obtain ⟨⟨o6, sq6⟩, eF6, eJ6, i6, p6⟩ := hp
  rw [eF6, eJ6]
  have O6 : ∀ k, (k < 8 ∨ 9 < k) → xsh X6 k = xsh X4 k := fun k a => (o6 k (by omega) (by omega)).trans (O5 k (by omega))
  have P6 : ∀ k, (k < 2 ∨ 9 < k) → xsh X6 k = sh k := fun k a => (O6 k (by omega)).trans (P4 k (by omega))
  have kk6 : xk X6 = 8 := by omega
  have nn6 : xn X6 = 4125 := by omega
  refine zgo (fun pc => Nat.beq pc 36) 200 hZ6.1 zr0 rfl ?_
  -- the space
  refine hw_new (idx := 19) (q := 11) (ci := 5) (sl := [some none, some none, some none, none, none]) hZ6 (by decide +kernel) rfl (by decide +kernel) (by decide +kernel) (by decide +kernel) (by decide +kernel) (by decide +kernel) ((P6 11 (by omega)).trans (hc' 11 (by decide) (by decide))) rfl rfl rfl (by rw [kk6]; decide) (by rw [nn6]; decide) (fun X7 hZ7 hs7 hk7 hn7 => ?_)
  have O7 : ∀ k, k ≠ 11 → xsh X7 k = xsh X6 k := fun k a => by rw [hs7, zsu_n a]
  refine zgo (fun pc => Nat.beq pc 40) 200 hZ7.1 zr0 rfl ?_
  refine hw_callAN (nA := 0) (maxL := 1) (host := RX8) (As := []) (st := [.inr (.inr (some 11))]) hZ7 (zat_mem rfl) (c_X5_init _ _ _ _ _ _ (by rw [hs7]; exact zsu_s _ _ _) ⟨(O7 12 (by decide)).trans ((P6 12 (by omega)).trans (hc' 12 (by decide) (by decide))), (O7 13 (by decide)).trans ((P6 13 (by omega)).trans (hc' 13 (by decide) (by decide))), (O7 14 (by decide)).trans ((P6 14 (by omega)).trans (hc' 14 (by decide) (by decide)))⟩ hZ7.2.1.1) gX8_init_X5_init_n21 rfl ⟨rfl, rfl⟩ (by decide +kernel) (inT 0 rfl) (by decide +kernel) rfl ⟨by decide, by decide, by decide +kernel⟩ rfl ⟨Nat.le_of_ble_eq_true rfl, Nat.le_of_ble_eq_true rfl⟩ (Nat.le_of_ble_eq_true rfl) (fun k hk => by simp at hk ⊢; omega) rfl rfl (by rw [hk7, kk6]; decide) (by rw [hn7, nn6]; decide) (fun X8 F8 I8 J8 hZ8 hp hk8 hn8 => ?_)
  obtain ⟨⟨o8, sp8⟩, eF8, eI8, eJ8⟩ := hp
  rw [eF8, eI8, eJ8]
  have O8 : ∀ k, (k < 11 ∨ 14 < k) → xsh X8 k = xsh X6 k := fun k a => (o8 k a).trans (O7 k (by omega))
  have P8 : ∀ k, (k < 2 ∨ k = 10 ∨ 14 < k) → xsh X8 k = sh k := fun k a => (O8 k (by omega)).trans (P6 k (by omega))
  have kk8 : xk X8 = 12 := by omega
  have nn8 : xn X8 = 4301 := by omega
  have h8_0 : xsh X8 0 = some (.inl (8, [some none, some none, some none, some none, some none, some none, some none, some none, none, none])) := (P8 0 (by omega)).trans hq
  have h8_2 : xsh X8 2 ≠ none := sne (((O8 2 (by omega)).trans (O6 2 (by omega))).trans B1_4.1)
  have h8_5 : xsh X8 5 ≠ none := sne (((O8 5 (by omega)).trans (O6 5 (by omega))).trans b2.1)
  have h8_8 : xsh X8 8 ≠ none := sne ((O8 8 (by omega)).trans sq6.1)
  refine zgo (fun pc => Nat.beq pc 47) 200 hZ8.1 zr0 rfl ?_
  refine hw_putref (idx := 22) (ci := 8) (j := 0) (y := none) hZ8 hin (by decide +kernel) (by decide +kernel) h8_0 rfl h8_2 (fun X9 hZ9 hs9 hk9 hn9 => ?_)
  refine zgo (fun pc => Nat.beq pc 52) 200 hZ9.1 zr0 rfl ?_
  refine hw_putref (idx := 26) (ci := 8) (j := 3) (y := none) hZ9 hin (by decide +kernel) (by decide +kernel) (by rw [hs9]; exact zsu_s _ _ _) rfl (by rw [hs9, zsu_n (by decide)]; exact h8_5) (fun Xa hZa hsa hka hna => ?_)
  rw [hs9] at hsa
  refine zgo (fun pc => Nat.beq pc 57) 200 hZa.1 zr0 rfl ?_
  refine hw_putref (idx := 29) (ci := 8) (j := 1) (y := none) hZa hin (by decide +kernel) (by decide +kernel) (by rw [hsa]; exact zsu_s _ _ _) rfl (by rw [hsa]; exact h8_8) (fun Xb hZb hsb hkb hnb => ?_)
  rw [hsa] at hsb
  refine zgo (fun pc => Nat.beq pc 61) 200 hZb.1 zr0 rfl ?_
  have Ob : ∀ k, k ≠ 0 → xsh Xb k = xsh X8 k := fun k a => by rw [hsb, zsu_n a, zsu_n a, zsu_n a]
  have kkb : xk Xb = 12 := by omega
  have nnb : xn Xb = 4301 := by omega
  -- the product of rows
  refine hw_new (idx := 33) (q := 10) (ci := 4) (sl := [some none]) hZb (by decide +kernel) rfl (by decide +kernel) (by decide +kernel) (by decide +kernel) (by decide +kernel) (by decide +kernel) ((Ob 10 (by decide)).trans ((P8 10 (by omega)).trans (hc' 10 (by decide) (by decide)))) rfl rfl rfl (by rw [kkb]; decide) (by rw [nnb]; decide) (fun Xc hZc hsc hkc hnc => ?_)
  refine zgo (fun pc => Nat.beq pc 66) 200 hZc.1 zr0 rfl ?_
  refine hw_callA (nA := 1) (maxL := 2) (As := [.inr (.inr (some 5))]) (st := [.inr (.inr (some 10)), .inr (.inr (some 0))]) hZc (zat_mem rfl) (c_X4_init _ _ _ _ _ _ (by rw [hsc]; exact zsu_s _ _ _) (by rw [hsc, zsu_n (by decide), Ob 5 (by decide)]; exact h8_5) hZc.2.1.1) gX8_init_X4_init rfl ⟨rfl, rfl⟩ (by decide +kernel) (by decide +kernel) (by decide +kernel) rfl ⟨by decide, by decide, by decide +kernel⟩ rfl ⟨Nat.le_of_ble_eq_true rfl, Nat.le_of_ble_eq_true rfl⟩ (Nat.le_of_ble_eq_true rfl) (fun _ _ => rfl) rfl rfl (by rw [hkc, kkb]; decide) (by rw [hnc, nnb]; decide) (fun Xd Fd Id Jd hZd hp hkd hnd => ?_)
  obtain ⟨hsd, eFd, eId, eJd⟩ := hp
  rw [eFd, eId, eJd]
  rw [hsc] at hsd
  refine hw_putref (idx := 36) (ci := 8) (j := 2) (y := none) hZd hin (by decide +kernel) (by decide +kernel) (by rw [hsd, zsu_n (by decide), zsu_n (by decide), hsb]; exact zsu_s _ _ _) rfl (by rw [hsd]; exact sne (zsu_s _ _ _)) (fun Xe hZe hse hke hne => ?_)
  rw [hsd] at hse
  refine zgo (fun pc => Nat.beq pc 75) 200 hZe.1 zr0 rfl ?_
  have Oe : ∀ k, k ≠ 0 → k ≠ 10 → xsh Xe k = xsh X8 k := fun k a b => by rw [hse, zsu_n a, zsu_n b, zsu_n b, Ob k a]
  refine hw_putref (idx := 40) (ci := 8) (j := 4) (y := none) hZe hin (by decide +kernel) (by decide +kernel) (by rw [hse]; exact zsu_s _ _ _) rfl (by rw [Oe 11 (by decide) (by decide)]; exact sne sp8.1) (fun Xf hZf hsf hkf hnf => ?_)
  refine zgo (fun pc => Nat.beq pc 79) 200 hZf.1 zr0 rfl ?_
  have Of : ∀ k, k ≠ 0 → k ≠ 10 → xsh Xf k = xsh X8 k := fun k a b => by rw [hsf, zsu_n a, Oe k a b]
  have kkf : xk Xf = 13 := by omega
  have nnf : xn Xf = 4302 := by omega
  have Pf : ∀ k, (k = 1 ∨ 14 < k) → xsh Xf k = sh k := fun k a => (Of k (by omega) (by omega)).trans (P8 k (by omega))
  -- the tower
  refine hw_new (idx := 44) (q := 15) (ci := 7) (sl := [some none, some none, some none, some none, some none, some none, some none, some none, some none, some none, some none, none]) hZf (by decide +kernel) rfl (by decide +kernel) (by decide +kernel) (by decide +kernel) (by decide +kernel) (by decide +kernel) ((Pf 15 (by omega)).trans (hc' 15 (by decide) (by decide))) rfl rfl rfl (by rw [kkf]; decide) (by rw [nnf]; decide) (fun Xg hZg hsg hkg hng => ?_)
  have Og : ∀ k, k ≠ 15 → xsh Xg k = xsh Xf k := fun k a => by rw [hsg, zsu_n a]
  refine zgo (fun pc => Nat.beq pc 87) 200 hZg.1 zr0 rfl ?_
  refine hw_callA (nA := 3) (maxL := 5) (As := [.inr (.inr (some 2)), .inr (.inr (some 8)), .inr (.inr (some 11))]) (st := [.inr (.inr (some 15)), .inr (.inr (some 0))]) hZg (zat_mem rfl) (c_X7_init _ _ _ _ _ _ (by rw [hsg]; exact zsu_s _ _ _) (fun k h => by
    have h' : 16 ≤ k ∧ k ≤ 55 := by simp at h; omega
    exact (Og k (by omega)).trans ((Pf k (by omega)).trans (hc' k (by omega) h'.2))) (by rw [Og 2 (by decide), Of 2 (by decide) (by decide)]; exact h8_2) (by rw [Og 8 (by decide), Of 8 (by decide) (by decide)]; exact h8_8) (by rw [Og 11 (by decide), Of 11 (by decide) (by decide)]; exact sne sp8.1) hZg.2.1.1) gX8_init_X7_init rfl ⟨rfl, rfl⟩ (by decide +kernel) (by decide +kernel) (by decide +kernel) rfl ⟨by decide, by decide, by decide +kernel⟩ rfl ⟨Nat.le_of_ble_eq_true rfl, Nat.le_of_ble_eq_true rfl⟩ (Nat.le_of_ble_eq_true rfl) (fun k hk => by simp at hk ⊢; omega) rfl rfl (by rw [hkg, kkf]; decide) (by rw [hng, nnf]; decide) (fun Xh Fh Ih Jh hZh hp hkh hnh => ?_)
  obtain ⟨⟨tS, tK, t17⟩, tF, tJ⟩ := hp
  have Oh : ∀ k, outT k → xsh Xh k = xsh Xf k := fun k a => (tS.2.2.2.2.2.2 k a).trans (Og k (by omega))
  have Ph : ∀ k, (k = 1 ∨ k = 30 ∨ k = 31 ∨ 56 ≤ k) → xsh Xh k = sh k := fun k a => (Oh k (by omega)).trans (Pf k (by omega))
  have kkh : xk Xh = 52 := by omega
  have nnh : xn Xh = 14830 := by omega
  have hh0 : xsh Xh 0 = some (.inl (8, [some (some 2), some (some 8), some (some 10), some (some 5), some (some 11), some none, some none, some none, none, none])) := (Oh 0 (by omega)).trans (by rw [hsf]; exact zsu_s _ _ _)
  refine hw_putref (idx := 49) (ci := 8) (j := 5) (y := none) hZh hin (by decide +kernel) (by decide +kernel) hh0 rfl (sne tS.1) (fun Xi hZi hsi hki hni => ?_)
  refine zgo (fun pc => Nat.beq pc 94) 200 hZi.1 zr0 rfl ?_
  have Oi : ∀ k, k ≠ 0 → xsh Xi k = xsh Xh k := fun k a => by rw [hsi, zsu_n a]
  -- the chart
  refine hw_new (idx := 53) (q := 30) (ci := 2) (sl := [some none]) hZi (by decide +kernel) rfl (by decide +kernel) (by decide +kernel) (by decide +kernel) (by decide +kernel) (by decide +kernel) ((Oi 30 (by decide)).trans ((Ph 30 (by omega)).trans (hc' 30 (by decide) (by decide)))) rfl rfl rfl (by rw [hki, kkh]; decide) (by rw [hni, nnh]; decide) (fun Xj hZj hsj hkj hnj => ?_)
  refine zgo (fun pc => Nat.beq pc 98) 200 hZj.1 zr0 rfl ?_
  refine hw_callAN (nA := 0) (maxL := 1) (host := RX8) (As := []) (st := [.inr (.inr (some 30)), .inr (.inr (some 0))]) hZj (zat_mem rfl) (c_X2_init _ _ _ _ _ _ (q := 30) (c := 31) (by rw [hsj]; exact zsu_s _ _ _) (by rw [hsj, zsu_n (by decide)]; exact (Oi 31 (by decide)).trans ((Ph 31 (by omega)).trans (hc' 31 (by decide) (by decide)))) hZj.2.1.1) gX8_init_X2_init_n55 rfl ⟨rfl, rfl⟩ (by decide +kernel) (inT 1 rfl) (by decide +kernel) rfl ⟨by decide, by decide, by decide +kernel⟩ rfl ⟨Nat.le_of_ble_eq_true rfl, Nat.le_of_ble_eq_true rfl⟩ (Nat.le_of_ble_eq_true rfl) (fun k hk => by simp at hk ⊢; omega) rfl rfl (by rw [hkj, hki, kkh]; decide) (by rw [hnj, hni, nnh]; decide) (fun Xk Fk Ik Jk hZk hp hkk hnk => ?_)
  obtain ⟨⟨ck, hsk⟩, eFk, eIk, eJk⟩ := hp
  rw [eFk, eIk, eJk]
  rw [hsj] at hsk
  refine hw_putref (idx := 56) (ci := 8) (j := 6) (y := none) hZk hin (by decide +kernel) (by decide +kernel) (by rw [hsk, zsu_n (by decide), zsu_n (by decide), zsu_n (by decide), hsi]; exact zsu_s _ _ _) rfl (by rw [hsk]; exact sne (zsu_s _ _ _)) (fun Xl hZl hsl hkl hnl => ?_)
  rw [hsk] at hsl
  refine zgo (fun pc => Nat.beq pc 107) 200 hZl.1 zr0 rfl ?_
  have Ol : ∀ k, k ≠ 0 → k ≠ 30 → k ≠ 31 → xsh Xl k = xsh Xh k := fun k a b c => by rw [hsl, zsu_n a, zsu_n b, zsu_n c, zsu_n b, Oi k a]
  -- the chain
  refine hw_newI (q := 1) (N := 6) hZl (by decide +kernel) (by decide +kernel) rfl (by omega) ((Ol 1 (by decide) (by decide) (by decide)).trans ((Ph 1 (by omega)).trans (hc' 1 (by decide) (by decide)))) rfl rfl rfl (by rw [hkl, hkk, hkj, hki, kkh]; decide) (by rw [hnl, hnk, hnj, hni, nnh]; decide) (fun Xm cm hZm hsm hkm hnm => ?_)
  refine hw_putref (idx := 60) (ci := 8) (j := 7) (y := none) hZm hin (by decide +kernel) (by decide +kernel) (by rw [hsm, zsu_n (by decide), hsl]; exact zsu_s _ _ _) rfl (by rw [hsm]; exact sne (zsu_s _ _ _)) (fun Xo hZo hso hko hno => ?_)
  rw [hsm] at hso
  have Oo : ∀ k, k ≠ 0 → k ≠ 1 → k ≠ 30 → k ≠ 31 → xsh Xo k = xsh Xh k := fun k a b c d => by rw [hso, zsu_n a, zsu_n b, Ol k a c d]
  have ho0 : xsh Xo 0 = some (.inl (8, [some (some 2), some (some 8), some (some 10), some (some 5), some (some 11), some (some 15), some (some 30), some (some 1), none, none])) := by rw [hso]; exact zsu_s _ _ _
  refine zgo (fun _ => false) 200 hZo.1 (hRA.zr hZo (by omega) (by omega)) rfl ?_
  refine Exists.intro _ ⟨ho0, ?_⟩
  refine Exists.intro _ ⟨ho0, ?_⟩
  -- what it is
  have Q8 : ∀ k, 2 ≤ k → k ≤ 14 → k ≠ 10 → xsh Xo k = xsh X8 k := fun k a b c => ((Oo k (by omega) (by omega) (by omega) (by omega)).trans (Oh k (by omega))).trans (Of k (by omega) c)
  have Q6 : ∀ k, 2 ≤ k → k ≤ 9 → xsh Xo k = xsh X6 k := fun k a b => (Q8 k a (by omega) (by omega)).trans (O8 k (by omega))
  have Q4 : ∀ k, 2 ≤ k → k ≤ 7 → xsh Xo k = xsh X4 k := fun k a b => (Q6 k a (by omega)).trans (O6 k (by omega))
  obtain ⟨g1, ⟨c16, f16, g2, g2b⟩, g3, -, g5, g6, -⟩ := tS
  obtain ⟨c17, g17⟩ := t17
  have K : ∀ k, 15 ≤ k → k ≤ 55 → k ≠ 30 → k ≠ 31 → xsh Xo k = xsh Xh k := fun k a b c d => Oo k (by omega) (by omega) c d
  have hWT : zWT (xsh Xo) := by
    refine ⟨⟨(K 15 (by decide) (by decide) (by decide) (by decide)).trans g1, c16, _, f16, (K 16 (by decide) (by decide) (by decide) (by decide)).trans g2, g2b⟩, B1_4.cg (Q4 2 (by decide) (by decide)) (Q4 3 (by decide) (by decide)) (Q4 4 (by decide) (by decide)), sq6.cg (Q6 8 (by decide) (by decide)) (Q6 9 (by decide) (by decide)), sp8.cg (Q8 11 (by decide) (by decide) (by decide)) (Q8 12 (by decide) (by decide) (by decide)) (Q8 13 (by decide) (by decide) (by decide)) (Q8 14 (by decide) (by decide) (by decide)),
      ⟨g5.1.cg (K 18 (by decide) (by decide) (by decide) (by decide)) (K 19 (by decide) (by decide) (by decide) (by decide)), g5.2.cg (K 20 (by decide) (by decide) (by decide) (by decide)) (K 21 (by decide) (by decide) (by decide) (by decide))⟩, fun i hi => (tK i hi).cg (K _ (by omega) (by omega) (by omega) (by omega)) (K _ (by omega) (by omega) (by omega) (by omega)),
      ⟨g6.1.imp fun c x => (K 26 (by decide) (by decide) (by decide) (by decide)).trans x, g6.2.1.imp fun c x => (K 27 (by decide) (by decide) (by decide) (by decide)).trans x, g6.2.2.1.imp fun c x => (K 28 (by decide) (by decide) (by decide) (by decide)).trans x, g6.2.2.2.imp fun c x => (K 29 (by decide) (by decide) (by decide) (by decide)).trans x⟩, ⟨c17, _, _, (K 17 (by decide) (by decide) (by decide) (by decide)).trans g17, fun i hi => ?_⟩, fun s hs => ⟨(g3 s hs).1.cg (K _ (by omega) (by omega) (by omega) (by omega)) (K _ (by omega) (by omega) (by omega) (by omega)), (g3 s hs).2.cg (K _ (by omega) (by omega) (by omega) (by omega)) (K _ (by omega) (by omega) (by omega) (by omega))⟩⟩
    match i, hi with
    | 0, _ => rfl
    | 1, _ => rfl
  have hWS : zWS (xsh Xo) := ⟨hWT, ho0, ⟨cm, by rw [hso, zsu_n (by decide)]; exact zsu_s _ _ _⟩, b2.cg (Q4 5 (by decide) (by decide)) (Q4 6 (by decide) (by decide)) (Q4 7 (by decide) (by decide)), (Oo 10 (by decide) (by decide) (by decide) (by decide)).trans ((Oh 10 (by omega)).trans (by rw [hsf, zsu_n (by decide), hse, zsu_n (by decide)]; exact zsu_s _ _ _)), ⟨by rw [hso, zsu_n (by decide), zsu_n (by decide), hsl, zsu_n (by decide)]; exact zsu_s _ _ _, ck, by rw [hso, zsu_n (by decide), zsu_n (by decide), hsl, zsu_n (by decide), zsu_n (by decide)]; exact zsu_s _ _ _⟩⟩
  obtain ⟨m1, m2, m3, m4⟩ := tF
  have iF : ∀ a, a ≠ 0 → a ≠ 30 → zu (zu (zfz Fh 30) 0 8 0) 0 9 0 a = Fh a := fun a h1 h2 => by rw [zu_r h1, zu_r h1, zfz_r h2]
  have iI : ∀ a, a ≠ 1 → a ≠ 31 → zfz (zfz Ih 31) 1 a = Ih a := fun a h1 h2 => by rw [zfz_r h1, zfz_r h2]
  have iI6 : ∀ a, a < 12 → a ≠ 1 → zfz (zfz Ih 31) 1 a = I6 a := fun a h1 h2 => by rw [iI a h2 (by omega), (m4 a (by omega)).2.1, zfz_r (by omega), zfz_r (by omega), zfz_r (by omega)]
  refine ⟨rfl, ⟨hWS, fun k hk9 => (Oo k (by omega) (by omega) (by omega) (by omega)).trans (Ph k (by omega))⟩, ⟨⟨bT_of (I := I4) T1_4 ?_ ?_, ⟨fun j hj => ?_, fun j hj => ?_, aS_61, mN_61⟩, sqT_of p6 (iI6 9 (by decide) (by decide))⟩, fun a ha => ⟨?_, ?_, ?_⟩⟩, ⟨?_, ?_, by decide, by decide, fun k hk => absurd hk (Nat.not_lt_zero k)⟩, ⟨?_, fun i e h1 h2 => ⟨?_, z4096⟩, fun e he => absurd he (Nat.not_lt_zero e), fun e he => ?_, ⟨by decide, fun e he => absurd he (Nat.not_lt_zero e), fun i e _ he => absurd he (Nat.not_lt_zero e)⟩, fun _ _ _ _ _ => rfl, Or.inl ?_⟩, ⟨fun s hs => ⟨⟨?_, z072, fun j hj => ⟨?_, z014⟩⟩, ⟨?_, ?_, z360, by decide, by decide, by decide, fun j => ?_⟩, fun a ha => absurd ha (Nat.not_lt_zero a)⟩, fun j => ?_, ?_, by decide, fun h => absurd h (Nat.lt_irrefl 0)⟩, fun j => ?_, fun j => z099⟩
  · rw [iI6 3 (by decide) (by decide), i6 3 (by decide)]
  · rw [iI6 4 (by decide) (by decide), i6 4 (by decide)]
  · rw [iI6 6 (by decide) (by decide), i6 6 (by decide)]
    exact n4 j hj
  · rw [iI6 7 (by decide) (by decide), i6 7 (by decide)]
    exact s4 j hj
  · rw [iF a (by omega) (by omega), (m4 a (by omega)).1, zfz_r (by omega), zfz_r (by omega), zfz_r (by omega), zfz_r (by omega), zfz_r (by omega), zfz_r (by omega)]
  · rw [iI a (by omega) (by omega), (m4 a (by omega)).2.1, zfz_r (by omega), zfz_r (by omega), zfz_r (by omega), i6 a (by omega), i4 a (by omega) (by omega), i2 a (by omega) (by omega)]
  · exact (m4 a (by omega)).2.2
  · rw [zu_n (by decide), zu_s]; rfl
  · rw [zu_s]; rfl
  · rw [iF 11 (by decide) (by decide), (m4 11 (by omega)).1, zfz_r (by decide), zfz_r (by decide), zfz_s]; rfl
  · unfold sac
    split
    · rw [iI 13 (by decide) (by decide), (m4 13 (by omega)).2.1, zfz_r (by decide), zfz_s]
      rfl
    · rfl
  · rw [iI 12 (by decide) (by decide), (m4 12 (by omega)).2.1, zfz_r (by decide), zfz_r (by decide), zfz_s]
    exact z0i
  · rw [iF 11 (by decide) (by decide), (m4 11 (by omega)).1, zfz_r (by decide), zfz_r (by decide), zfz_s]
  · rw [iF _ (by omega) (by omega), (m1 s hs).1]; rfl
  · rw [iI _ (by omega) (by omega), (m1 s hs).2.2.2.1 j]; rfl
  · rw [iF _ (by omega) (by omega), (m1 s hs).2.1]; rfl
  · rw [iF _ (by omega) (by omega), (m1 s hs).2.2.1]; rfl
  · rw [(m1 s hs).2.2.2.2 j]; decide
  · rw [(m2 j).1, (m2 j).2, (tJ j).1, (tJ j).2]; decide
  · rw [iF 15 (by decide) (by decide), m3, zfz_s]; rfl
  · rw [zfz_r (by decide), zfz_s]
