/-! constructors: the reference; its state at the start -/
def mA9 : zM := (cX9_init, tX9_init, RX9, wsX9_init, { frames := 4, cells := 20, slots := 19285, locals := 98 })
theorem kA9 : mA9.2.1.all (fun r => zok mA9 r && zrt none r.2.1) = true := by decide +kernel
abbrev frR (k : Nat) : Bool := decide (61 ≤ k ∧ k ≤ 80)
def mSl0 : List (Option (Option Nat)) := [some none, some none, some none, some none, some none, some none, some none, none, none, some none, none, some none, some none, none, some none, some none, some none, none, some none, none, none, some none, none, some none, some none, some none, none, some none, none, some none]
/-- the reference's state at its start -/
abbrev RS0 (F I : zFi) (J : zJi) (F' I' : zFi) (J' : zJi) : Prop := RSt F I J F' I' J' 0 (fun _ => 0) 0 (fun _ _ => 0) (fun _ => 0) (fun _ => 0)
set_option maxHeartbeats 4000000 in
set_option maxRecDepth 10000 in
theorem c_X9_init (l : Launch) (D : va_G) (sh : zSh) (F I : zFi) (J : zJi) (hq : sh 60 = some (.inl (9, mSl0))) (hc : ∀ k, frR k = true → sh k = none) (hF : ∀ j, F 60 j = 0) (hcl : zCl sh) :
    CnA l D yX9_init wsX9_init mA9.2.2.2.2 sh frR [.inr (.inr (some 60))] F I J 20 19285 (fun sh' F' I' J' => (zWM sh' ∧ ∀ k, (k < 60 ∨ 80 < k) → sh' k = sh k) ∧ RS0 F I J F' I' J') := by
  refine zmetA (M := mA9) rfl rfl rfl rfl kA9 (Nat.le_of_ble_eq_true rfl) hcl (fun X hZ hRA hin hl hD hsh hk hn => ?_)
  subst hl hD
  show HW X 0 [some (.inr (.inr (some 60)))] [] F I J
  refine zgo (fun pc => Nat.beq pc 1) 200 hZ.1 zr0 rfl ?_
  refine hw_objInit hZ.1 (zat_mem rfl) (by decide +kernel) (by decide +kernel) (by decide +kernel) (Nat.le_of_ble_eq_true rfl) ⟨by decide, by decide⟩ ?_
  refine zgo (fun pc => Nat.beq pc 7) 200 hZ.1 zr0 rfl ?_
  refine hw_newI (q := 61) (N := 17) hZ (by decide +kernel) (by decide +kernel) rfl (by omega) (by rw [hsh]; exact hc 61 rfl) rfl rfl rfl (by rw [hk]; decide) (by rw [hn]; decide) (fun Ya0 c61 hZa0 hsa0 hka0 hna0 => ?_)
  rw [hsh] at hsa0
  refine hw_putref (idx := 7) (ci := 9) (j := 0) (y := none) hZa0 hin (by decide +kernel) (by decide +kernel) (by rw [hsa0]; exact hq) rfl (by rw [hsa0]; exact sne rfl) (fun Yb0 hZb0 hsb0 hkb0 hnb0 => ?_)
  rw [hsa0] at hsb0
  have kkb0 : xk Yb0 = 1 := by rw [hkb0, hka0, hk]
  have nnb0 : xn Yb0 = 17 := by rw [hnb0, hna0, hn]
  refine zgo (fun pc => Nat.beq pc 15) 200 hZb0.1 zr0 rfl ?_
  refine hw_newI (q := 62) (N := 64) hZb0 (by decide +kernel) (by decide +kernel) rfl (by omega) (by rw [hsb0]; exact hc 62 rfl) rfl rfl rfl (by rw [kkb0]; decide) (by rw [nnb0]; decide) (fun Ya1 c62 hZa1 hsa1 hka1 hna1 => ?_)
  rw [hsb0] at hsa1
  refine hw_putref (idx := 13) (ci := 9) (j := 1) (y := none) hZa1 hin (by decide +kernel) (by decide +kernel) (by rw [hsa1]; rfl) rfl (by rw [hsa1]; exact sne rfl) (fun Yb1 hZb1 hsb1 hkb1 hnb1 => ?_)
  rw [hsa1] at hsb1
  have kkb1 : xk Yb1 = 2 := by rw [hkb1, hka1, kkb0]
  have nnb1 : xn Yb1 = 81 := by rw [hnb1, hna1, nnb0]
  refine zgo (fun pc => Nat.beq pc 24) 200 hZb1.1 zr0 rfl ?_
  refine hw_newI (q := 63) (N := 256) hZb1 (by decide +kernel) (by decide +kernel) rfl (by omega) (by rw [hsb1]; exact hc 63 rfl) rfl rfl rfl (by rw [kkb1]; decide) (by rw [nnb1]; decide) (fun Ya2 c63 hZa2 hsa2 hka2 hna2 => ?_)
  rw [hsb1] at hsa2
  refine hw_putref (idx := 16) (ci := 9) (j := 2) (y := none) hZa2 hin (by decide +kernel) (by decide +kernel) (by rw [hsa2]; rfl) rfl (by rw [hsa2]; exact sne rfl) (fun Yb2 hZb2 hsb2 hkb2 hnb2 => ?_)
  rw [hsa2] at hsb2
  have kkb2 : xk Yb2 = 3 := by rw [hkb2, hka2, kkb1]
  have nnb2 : xn Yb2 = 337 := by rw [hnb2, hna2, nnb1]
  refine zgo (fun pc => Nat.beq pc 33) 200 hZb2.1 zr0 rfl ?_
  refine hw_newI (q := 64) (N := 192) hZb2 (by decide +kernel) (by decide +kernel) rfl (by omega) (by rw [hsb2]; exact hc 64 rfl) rfl rfl rfl (by rw [kkb2]; decide) (by rw [nnb2]; decide) (fun Ya3 c64 hZa3 hsa3 hka3 hna3 => ?_)
  rw [hsb2] at hsa3
  refine hw_putref (idx := 19) (ci := 9) (j := 3) (y := none) hZa3 hin (by decide +kernel) (by decide +kernel) (by rw [hsa3]; rfl) rfl (by rw [hsa3]; exact sne rfl) (fun Yb3 hZb3 hsb3 hkb3 hnb3 => ?_)
  rw [hsa3] at hsb3
  have kkb3 : xk Yb3 = 4 := by rw [hkb3, hka3, kkb2]
  have nnb3 : xn Yb3 = 529 := by rw [hnb3, hna3, nnb2]
  refine zgo (fun pc => Nat.beq pc 42) 200 hZb3.1 zr0 rfl ?_
  refine hw_newI (q := 65) (N := 960) hZb3 (by decide +kernel) (by decide +kernel) rfl (by omega) (by rw [hsb3]; exact hc 65 rfl) rfl rfl rfl (by rw [kkb3]; decide) (by rw [nnb3]; decide) (fun Ya4 c65 hZa4 hsa4 hka4 hna4 => ?_)
  rw [hsb3] at hsa4
  refine hw_putref (idx := 22) (ci := 9) (j := 4) (y := none) hZa4 hin (by decide +kernel) (by decide +kernel) (by rw [hsa4]; rfl) rfl (by rw [hsa4]; exact sne rfl) (fun Yb4 hZb4 hsb4 hkb4 hnb4 => ?_)
  rw [hsa4] at hsb4
  have kkb4 : xk Yb4 = 5 := by rw [hkb4, hka4, kkb3]
  have nnb4 : xn Yb4 = 1489 := by rw [hnb4, hna4, nnb3]
  refine zgo (fun pc => Nat.beq pc 51) 200 hZb4.1 zr0 rfl ?_
  refine hw_newI (q := 66) (N := 960) hZb4 (by decide +kernel) (by decide +kernel) rfl (by omega) (by rw [hsb4]; exact hc 66 rfl) rfl rfl rfl (by rw [kkb4]; decide) (by rw [nnb4]; decide) (fun Ya5 c66 hZa5 hsa5 hka5 hna5 => ?_)
  rw [hsb4] at hsa5
  refine hw_putref (idx := 25) (ci := 9) (j := 5) (y := none) hZa5 hin (by decide +kernel) (by decide +kernel) (by rw [hsa5]; rfl) rfl (by rw [hsa5]; exact sne rfl) (fun Yb5 hZb5 hsb5 hkb5 hnb5 => ?_)
  rw [hsa5] at hsb5
  have kkb5 : xk Yb5 = 6 := by rw [hkb5, hka5, kkb4]
  have nnb5 : xn Yb5 = 2449 := by rw [hnb5, hna5, nnb4]
  refine zgo (fun pc => Nat.beq pc 60) 200 hZb5.1 zr0 rfl ?_
  refine hw_newI (q := 67) (N := 4096) hZb5 (by decide +kernel) (by decide +kernel) rfl (by omega) (by rw [hsb5]; exact hc 67 rfl) rfl rfl rfl (by rw [kkb5]; decide) (by rw [nnb5]; decide) (fun Ya6 c67 hZa6 hsa6 hka6 hna6 => ?_)
  rw [hsb5] at hsa6
  refine hw_putref (idx := 28) (ci := 9) (j := 6) (y := none) hZa6 hin (by decide +kernel) (by decide +kernel) (by rw [hsa6]; rfl) rfl (by rw [hsa6]; exact sne rfl) (fun Yb6 hZb6 hsb6 hkb6 hnb6 => ?_)
  rw [hsa6] at hsb6
  have kkb6 : xk Yb6 = 7 := by rw [hkb6, hka6, kkb5]
  have nnb6 : xn Yb6 = 6545 := by rw [hnb6, hna6, nnb5]
  refine zgo (fun pc => Nat.beq pc 68) 200 hZb6.1 zr0 rfl ?_
  refine hw_newI (q := 68) (N := 6) hZb6 (by decide +kernel) (by decide +kernel) rfl (by omega) (by rw [hsb6]; exact hc 68 rfl) rfl rfl rfl (by rw [kkb6]; decide) (by rw [nnb6]; decide) (fun Ya7 c68 hZa7 hsa7 hka7 hna7 => ?_)
  rw [hsb6] at hsa7
  refine hw_putref (idx := 31) (ci := 9) (j := 9) (y := none) hZa7 hin (by decide +kernel) (by decide +kernel) (by rw [hsa7]; rfl) rfl (by rw [hsa7]; exact sne rfl) (fun Yb7 hZb7 hsb7 hkb7 hnb7 => ?_)
  rw [hsa7] at hsb7
  have kkb7 : xk Yb7 = 8 := by rw [hkb7, hka7, kkb6]
  have nnb7 : xn Yb7 = 6551 := by rw [hnb7, hna7, nnb6]
  refine zgo (fun pc => Nat.beq pc 76) 200 hZb7.1 zr0 rfl ?_
  refine hw_newI (q := 69) (N := 12) hZb7 (by decide +kernel) (by decide +kernel) rfl (by omega) (by rw [hsb7]; exact hc 69 rfl) rfl rfl rfl (by rw [kkb7]; decide) (by rw [nnb7]; decide) (fun Ya8 c69 hZa8 hsa8 hka8 hna8 => ?_)
  rw [hsb7] at hsa8
  refine hw_putref (idx := 34) (ci := 9) (j := 11) (y := none) hZa8 hin (by decide +kernel) (by decide +kernel) (by rw [hsa8]; rfl) rfl (by rw [hsa8]; exact sne rfl) (fun Yb8 hZb8 hsb8 hkb8 hnb8 => ?_)
  rw [hsa8] at hsb8
  have kkb8 : xk Yb8 = 9 := by rw [hkb8, hka8, kkb7]
  have nnb8 : xn Yb8 = 6563 := by rw [hnb8, hna8, nnb7]
  refine zgo (fun pc => Nat.beq pc 85) 200 hZb8.1 zr0 rfl ?_
  refine hw_newI (q := 70) (N := 156) hZb8 (by decide +kernel) (by decide +kernel) rfl (by omega) (by rw [hsb8]; exact hc 70 rfl) rfl rfl rfl (by rw [kkb8]; decide) (by rw [nnb8]; decide) (fun Ya9 c70 hZa9 hsa9 hka9 hna9 => ?_)
  rw [hsb8] at hsa9
  refine hw_putref (idx := 37) (ci := 9) (j := 12) (y := none) hZa9 hin (by decide +kernel) (by decide +kernel) (by rw [hsa9]; rfl) rfl (by rw [hsa9]; exact sne rfl) (fun Yb9 hZb9 hsb9 hkb9 hnb9 => ?_)
  rw [hsa9] at hsb9
  have kkb9 : xk Yb9 = 10 := by rw [hkb9, hka9, kkb8]
  have nnb9 : xn Yb9 = 6719 := by rw [hnb9, hna9, nnb8]
  refine zgo (fun pc => Nat.beq pc 93) 200 hZb9.1 zr0 rfl ?_
  refine hw_newI (q := 71) (N := 6) hZb9 (by decide +kernel) (by decide +kernel) rfl (by omega) (by rw [hsb9]; exact hc 71 rfl) rfl rfl rfl (by rw [kkb9]; decide) (by rw [nnb9]; decide) (fun Ya10 c71 hZa10 hsa10 hka10 hna10 => ?_)
  rw [hsb9] at hsa10
  refine hw_putref (idx := 40) (ci := 9) (j := 14) (y := none) hZa10 hin (by decide +kernel) (by decide +kernel) (by rw [hsa10]; rfl) rfl (by rw [hsa10]; exact sne rfl) (fun Yb10 hZb10 hsb10 hkb10 hnb10 => ?_)
  rw [hsa10] at hsb10
  have kkb10 : xk Yb10 = 11 := by rw [hkb10, hka10, kkb9]
  have nnb10 : xn Yb10 = 6725 := by rw [hnb10, hna10, nnb9]
  refine zgo (fun pc => Nat.beq pc 102) 200 hZb10.1 zr0 rfl ?_
  refine hw_newI (q := 72) (N := 600) hZb10 (by decide +kernel) (by decide +kernel) rfl (by omega) (by rw [hsb10]; exact hc 72 rfl) rfl rfl rfl (by rw [kkb10]; decide) (by rw [nnb10]; decide) (fun Ya11 c72 hZa11 hsa11 hka11 hna11 => ?_)
  rw [hsb10] at hsa11
  refine hw_putref (idx := 43) (ci := 9) (j := 15) (y := none) hZa11 hin (by decide +kernel) (by decide +kernel) (by rw [hsa11]; rfl) rfl (by rw [hsa11]; exact sne rfl) (fun Yb11 hZb11 hsb11 hkb11 hnb11 => ?_)
  rw [hsa11] at hsb11
  have kkb11 : xk Yb11 = 12 := by rw [hkb11, hka11, kkb10]
  have nnb11 : xn Yb11 = 7325 := by rw [hnb11, hna11, nnb10]
  refine zgo (fun pc => Nat.beq pc 111) 200 hZb11.1 zr0 rfl ?_
  refine hw_newJ (q := 73) (N := 3000) hZb11 (by decide +kernel) (by decide +kernel) rfl (by omega) (by rw [hsb11]; exact hc 73 rfl) rfl rfl rfl (by rw [kkb11]; decide) (by rw [nnb11]; decide) (fun Ya12 c73 hZa12 hsa12 hka12 hna12 => ?_)
  rw [hsb11] at hsa12
  refine hw_putref (idx := 46) (ci := 9) (j := 16) (y := none) hZa12 hin (by decide +kernel) (by decide +kernel) (by rw [hsa12]; rfl) rfl (by rw [hsa12]; exact sne rfl) (fun Yb12 hZb12 hsb12 hkb12 hnb12 => ?_)
  rw [hsa12] at hsb12
  have kkb12 : xk Yb12 = 13 := by rw [hkb12, hka12, kkb11]
  have nnb12 : xn Yb12 = 10325 := by rw [hnb12, hna12, nnb11]
  refine zgo (fun pc => Nat.beq pc 120) 200 hZb12.1 zr0 rfl ?_
  refine hw_newI (q := 74) (N := 450) hZb12 (by decide +kernel) (by decide +kernel) rfl (by omega) (by rw [hsb12]; exact hc 74 rfl) rfl rfl rfl (by rw [kkb12]; decide) (by rw [nnb12]; decide) (fun Ya13 c74 hZa13 hsa13 hka13 hna13 => ?_)
  rw [hsb12] at hsa13
  refine hw_putref (idx := 50) (ci := 9) (j := 18) (y := none) hZa13 hin (by decide +kernel) (by decide +kernel) (by rw [hsa13]; rfl) rfl (by rw [hsa13]; exact sne rfl) (fun Yb13 hZb13 hsb13 hkb13 hnb13 => ?_)
  rw [hsa13] at hsb13
  have kkb13 : xk Yb13 = 14 := by rw [hkb13, hka13, kkb12]
  have nnb13 : xn Yb13 = 10775 := by rw [hnb13, hna13, nnb12]
  refine zgo (fun pc => Nat.beq pc 129) 200 hZb13.1 zr0 rfl ?_
  refine hw_newJ (q := 75) (N := 4000) hZb13 (by decide +kernel) (by decide +kernel) rfl (by omega) (by rw [hsb13]; exact hc 75 rfl) rfl rfl rfl (by rw [kkb13]; decide) (by rw [nnb13]; decide) (fun Ya14 c75 hZa14 hsa14 hka14 hna14 => ?_)
  rw [hsb13] at hsa14
  refine hw_putref (idx := 53) (ci := 9) (j := 21) (y := none) hZa14 hin (by decide +kernel) (by decide +kernel) (by rw [hsa14]; rfl) rfl (by rw [hsa14]; exact sne rfl) (fun Yb14 hZb14 hsb14 hkb14 hnb14 => ?_)
  rw [hsa14] at hsb14
  have kkb14 : xk Yb14 = 15 := by rw [hkb14, hka14, kkb13]
  have nnb14 : xn Yb14 = 14775 := by rw [hnb14, hna14, nnb13]
  refine zgo (fun pc => Nat.beq pc 138) 200 hZb14.1 zr0 rfl ?_
  refine hw_newI (q := 76) (N := 400) hZb14 (by decide +kernel) (by decide +kernel) rfl (by omega) (by rw [hsb14]; exact hc 76 rfl) rfl rfl rfl (by rw [kkb14]; decide) (by rw [nnb14]; decide) (fun Ya15 c76 hZa15 hsa15 hka15 hna15 => ?_)
  rw [hsb14] at hsa15
  refine hw_putref (idx := 56) (ci := 9) (j := 23) (y := none) hZa15 hin (by decide +kernel) (by decide +kernel) (by rw [hsa15]; rfl) rfl (by rw [hsa15]; exact sne rfl) (fun Yb15 hZb15 hsb15 hkb15 hnb15 => ?_)
  rw [hsa15] at hsb15
  have kkb15 : xk Yb15 = 16 := by rw [hkb15, hka15, kkb14]
  have nnb15 : xn Yb15 = 15175 := by rw [hnb15, hna15, nnb14]
  refine zgo (fun pc => Nat.beq pc 146) 200 hZb15.1 zr0 rfl ?_
  refine hw_newJ (q := 77) (N := 10) hZb15 (by decide +kernel) (by decide +kernel) rfl (by omega) (by rw [hsb15]; exact hc 77 rfl) rfl rfl rfl (by rw [kkb15]; decide) (by rw [nnb15]; decide) (fun Ya16 c77 hZa16 hsa16 hka16 hna16 => ?_)
  rw [hsb15] at hsa16
  refine hw_putref (idx := 59) (ci := 9) (j := 24) (y := none) hZa16 hin (by decide +kernel) (by decide +kernel) (by rw [hsa16]; rfl) rfl (by rw [hsa16]; exact sne rfl) (fun Yb16 hZb16 hsb16 hkb16 hnb16 => ?_)
  rw [hsa16] at hsb16
  have kkb16 : xk Yb16 = 17 := by rw [hkb16, hka16, kkb15]
  have nnb16 : xn Yb16 = 15185 := by rw [hnb16, hna16, nnb15]
  refine zgo (fun pc => Nat.beq pc 155) 200 hZb16.1 zr0 rfl ?_
  refine hw_newJ (q := 78) (N := 2000) hZb16 (by decide +kernel) (by decide +kernel) rfl (by omega) (by rw [hsb16]; exact hc 78 rfl) rfl rfl rfl (by rw [kkb16]; decide) (by rw [nnb16]; decide) (fun Ya17 c78 hZa17 hsa17 hka17 hna17 => ?_)
  rw [hsb16] at hsa17
  refine hw_putref (idx := 62) (ci := 9) (j := 25) (y := none) hZa17 hin (by decide +kernel) (by decide +kernel) (by rw [hsa17]; rfl) rfl (by rw [hsa17]; exact sne rfl) (fun Yb17 hZb17 hsb17 hkb17 hnb17 => ?_)
  rw [hsa17] at hsb17
  have kkb17 : xk Yb17 = 18 := by rw [hkb17, hka17, kkb16]
  have nnb17 : xn Yb17 = 17185 := by rw [hnb17, hna17, nnb16]
  refine zgo (fun pc => Nat.beq pc 164) 200 hZb17.1 zr0 rfl ?_
  refine hw_newJ (q := 79) (N := 2000) hZb17 (by decide +kernel) (by decide +kernel) rfl (by omega) (by rw [hsb17]; exact hc 79 rfl) rfl rfl rfl (by rw [kkb17]; decide) (by rw [nnb17]; decide) (fun Ya18 c79 hZa18 hsa18 hka18 hna18 => ?_)
  rw [hsb17] at hsa18
  refine hw_putref (idx := 65) (ci := 9) (j := 27) (y := none) hZa18 hin (by decide +kernel) (by decide +kernel) (by rw [hsa18]; rfl) rfl (by rw [hsa18]; exact sne rfl) (fun Yb18 hZb18 hsb18 hkb18 hnb18 => ?_)
  rw [hsa18] at hsb18
  have kkb18 : xk Yb18 = 19 := by rw [hkb18, hka18, kkb17]
  have nnb18 : xn Yb18 = 19185 := by rw [hnb18, hna18, nnb17]
  refine zgo (fun pc => Nat.beq pc 172) 200 hZb18.1 zr0 rfl ?_
  refine hw_newI (q := 80) (N := 100) hZb18 (by decide +kernel) (by decide +kernel) rfl (by omega) (by rw [hsb18]; exact hc 80 rfl) rfl rfl rfl (by rw [kkb18]; decide) (by rw [nnb18]; decide) (fun Ya19 c80 hZa19 hsa19 hka19 hna19 => ?_)
  rw [hsb18] at hsa19
  refine hw_putref (idx := 68) (ci := 9) (j := 29) (y := none) hZa19 hin (by decide +kernel) (by decide +kernel) (by rw [hsa19]; rfl) rfl (by rw [hsa19]; exact sne rfl) (fun Yb19 hZb19 hsb19 hkb19 hnb19 => ?_)
  rw [hsa19] at hsb19
  have kkb19 : xk Yb19 = 20 := by rw [hkb19, hka19, kkb18]
  have nnb19 : xn Yb19 = 19285 := by rw [hnb19, hna19, nnb18]
  have hWM : zWM (xsh Yb19) := ⟨by rw [hsb19]; rfl, ⟨c61, by rw [hsb19]; rfl⟩, ⟨c62, by rw [hsb19]; rfl⟩, ⟨c63, by rw [hsb19]; rfl⟩, ⟨c64, by rw [hsb19]; rfl⟩, ⟨c65, by rw [hsb19]; rfl⟩, ⟨c66, by rw [hsb19]; rfl⟩, ⟨c67, by rw [hsb19]; rfl⟩, ⟨c68, by rw [hsb19]; rfl⟩, ⟨c69, by rw [hsb19]; rfl⟩, ⟨c70, by rw [hsb19]; rfl⟩, ⟨c71, by rw [hsb19]; rfl⟩, ⟨c72, by rw [hsb19]; rfl⟩, ⟨c73, by rw [hsb19]; rfl⟩, ⟨c74, by rw [hsb19]; rfl⟩, ⟨c75, by rw [hsb19]; rfl⟩, ⟨c76, by rw [hsb19]; rfl⟩, ⟨c77, by rw [hsb19]; rfl⟩, ⟨c78, by rw [hsb19]; rfl⟩, ⟨c79, by rw [hsb19]; rfl⟩, ⟨c80, by rw [hsb19]; rfl⟩⟩
  have keep : ∀ k, (k < 60 ∨ 80 < k) → xsh Yb19 k = sh k := fun k a => by
    rw [hsb19]
    iterate 40 (rw [zsu_n (by omega)])
  have hX := hZb19.1
  have zI : ∀ a, 61 ≤ a → a ≤ 80 → a ≠ 73 → a ≠ 75 → a ≠ 77 → a ≠ 78 → a ≠ 79 → (zfz (zfz (zfz (zfz (zfz (zfz (zfz (zfz (zfz (zfz (zfz (zfz (zfz (zfz (zfz I 61) 62) 63) 64) 65) 66) 67) 68) 69) 70) 71) 72) 74) 76) 80) a = fun _ => 0 := fun a h1 h2 h3 h4 h5 h6 h7 => by
    rcases (show a = 61 ∨ a = 62 ∨ a = 63 ∨ a = 64 ∨ a = 65 ∨ a = 66 ∨ a = 67 ∨ a = 68 ∨ a = 69 ∨ a = 70 ∨ a = 71 ∨ a = 72 ∨ a = 74 ∨ a = 76 ∨ a = 80 by omega) with rfl | rfl | rfl | rfl | rfl | rfl | rfl | rfl | rfl | rfl | rfl | rfl | rfl | rfl | rfl <;> rfl
  have oI : ∀ a, a < 60 → (zfz (zfz (zfz (zfz (zfz (zfz (zfz (zfz (zfz (zfz (zfz (zfz (zfz (zfz (zfz I 61) 62) 63) 64) 65) 66) 67) 68) 69) 70) 71) 72) 74) 76) 80) a = I a := fun a h => by
    iterate 15 (rw [zfz_r (by omega)])
  have oJ : ∀ a, a < 60 → (zjz (zjz (zjz (zjz (zjz J 73) 75) 77) 78) 79) a = J a := fun a h => by
    iterate 5 (rw [zjz_r (by omega)])
  refine zgo (fun pc => Nat.beq pc 178) 200 hX zr0 rfl ?_
  refine hw_callV (nA := 0) (maxL := 5) (As := []) hX (zat_mem rfl) (c_X9_findWords (xl Yb19) (xD Yb19) (xsh Yb19) hWM F (zfz (zfz (zfz (zfz (zfz (zfz (zfz (zfz (zfz (zfz (zfz (zfz (zfz (zfz (zfz I 61) 62) 63) 64) 65) 66) 67) 68) 69) 70) 71) 72) 74) 76) 80) (zjz (zjz (zjz (zjz (zjz J 73) 75) 77) 78) 79) (fun j _ => by rw [zI 62 (by decide) (by decide) (by decide) (by decide) (by decide) (by decide) (by decide)]) (fun j _ => by rw [zI 63 (by decide) (by decide) (by decide) (by decide) (by decide) (by decide) (by decide)])) gX9_init_X9_findWords rfl ⟨rfl, rfl⟩ ⟨rfl, by decide, by decide, by decide +kernel⟩ rfl ⟨Nat.le_of_ble_eq_true rfl, Nat.le_of_ble_eq_true rfl⟩ hX.2.2.2.2.2.2.1.2 hWM.o rfl (Nat.le_of_ble_eq_true rfl) (fun v F1 I1 J1 hv => ?_)
  obtain ⟨rfl, eJ1, ⟨w1, w2⟩, w3, w4, w5, w6, w7⟩ := hv
  rw [eJ1]
  have hb1 : mBg I1 := fun j hj => w3 j hj
  have hw1 : mWd I1 := fun u hu => ⟨w4 u hu, fun k hk => w5 u k hu hk⟩
  refine zgo (fun pc => Nat.beq pc 182) 200 hX zr0 rfl ?_
  refine hw_callV (nA := 0) (maxL := 5) (As := []) hX (zat_mem rfl) (c_X9_findRows (xl Yb19) (xD Yb19) (xsh Yb19) hWM F1 I1 (zjz (zjz (zjz (zjz (zjz J 73) 75) 77) 78) 79) (fun j _ => by rw [w7 64 (by decide) (by decide) (by decide), zI 64 (by decide) (by decide) (by decide) (by decide) (by decide) (by decide) (by decide)])) gX9_init_X9_findRows rfl ⟨rfl, rfl⟩ ⟨rfl, by decide, by decide, by decide +kernel⟩ rfl ⟨Nat.le_of_ble_eq_true rfl, Nat.le_of_ble_eq_true rfl⟩ hX.2.2.2.2.2.2.1.2 hWM.o rfl (Nat.le_of_ble_eq_true rfl) (fun v F2 I2 J2 hv => ?_)
  obtain ⟨rfl, eF2, eJ2, i2, r2⟩ := hv
  rw [eF2, eJ2]
  have hb2 : mBg I2 := fun j hj => by rw [i2 61 (by decide)]; exact hb1 j hj
  have hw2 : mWd I2 := fun u hu => by rw [i2 62 (by decide), i2 63 (by decide)]; exact hw1 u hu
  refine zgo (fun pc => Nat.beq pc 186) 200 hX zr0 rfl ?_
  refine hw_callV (nA := 0) (maxL := 4) (As := []) hX (zat_mem rfl) (c_X9_findSquares (xl Yb19) (xD Yb19) (xsh Yb19) hWM F1 I2 (zjz (zjz (zjz (zjz (zjz J 73) 75) 77) 78) 79) hb2 hw2 r2) gX9_init_X9_findSquares rfl ⟨rfl, rfl⟩ ⟨rfl, by decide, by decide, by decide +kernel⟩ rfl ⟨Nat.le_of_ble_eq_true rfl, Nat.le_of_ble_eq_true rfl⟩ hX.2.2.2.2.2.2.1.2 hWM.o rfl (Nat.le_of_ble_eq_true rfl) (fun v F3 I3 J3 hv => ?_)
  obtain ⟨rfl, eF3, eJ3, i3, q3, s3⟩ := hv
  rw [eF3, eJ3]
  have hb3 : mBg I3 := fun j hj => by rw [i3 61 (by decide) (by decide)]; exact hb2 j hj
  have hw3 : mWd I3 := fun u hu => by rw [i3 62 (by decide) (by decide), i3 63 (by decide) (by decide)]; exact hw2 u hu
  refine zgo (fun pc => Nat.beq pc 190) 200 hX zr0 rfl ?_
  refine hw_callV (nA := 0) (maxL := 6) (As := []) hX (zat_mem rfl) (c_X9_findProducts (xl Yb19) (xD Yb19) (xsh Yb19) hWM F1 I3 (zjz (zjz (zjz (zjz (zjz J 73) 75) 77) 78) 79) hb3 hw3 q3 w1) gX9_init_X9_findProducts rfl ⟨rfl, rfl⟩ ⟨rfl, by decide, by decide, by decide +kernel⟩ rfl ⟨Nat.le_of_ble_eq_true rfl, Nat.le_of_ble_eq_true rfl⟩ hX.2.2.2.2.2.2.1.2 hWM.o rfl (Nat.le_of_ble_eq_true rfl) (fun v F4 I4 J4 hv => ?_)
  obtain ⟨rfl, eF4, eJ4, i4, p4⟩ := hv
  rw [eF4, eJ4]
  refine zgo (fun _ => false) 200 hX (hRA.zr hZb19 (by rw [kkb19]; decide) (by rw [nnb19]; decide)) rfl ?_
  have iI : ∀ a, a ≠ 61 → a ≠ 62 → a ≠ 63 → a ≠ 64 → a ≠ 65 → a ≠ 66 → a ≠ 67 → I4 a = (zfz (zfz (zfz (zfz (zfz (zfz (zfz (zfz (zfz (zfz (zfz (zfz (zfz (zfz (zfz I 61) 62) 63) 64) 65) 66) 67) 68) 69) 70) 71) 72) 74) 76) 80) a := fun a h1 h2 h3 h4 h5 h6 h7 => (i4 a h7).trans ((i3 a h5 h6).trans ((i2 a h4).trans (w7 a h1 h2 h3)))
  refine ⟨rfl, ⟨hWM, keep⟩, ⟨⟨fun j hj => by rw [i4 61 (by decide)]; exact hb3 j hj, p4, fun u hu => by rw [i4 62 (by decide), i4 63 (by decide)]; exact hw3 u hu, fun i w h1 h2 h3 h4 => by rw [i4 65 (by decide)]; exact q3 i w h1 h2 h3 h4, fun i w h1 h2 h3 h4 => by rw [i4 66 (by decide)]; exact s3 i w h1 h2 h3 h4, fun w k h1 h2 => by rw [i4 64 (by decide), i3 64 (by decide) (by decide)]; exact r2 w k h1 h2⟩, fun a ha => ⟨funext fun j => w2 a j (by omega), (iI a (by omega) (by omega) (by omega) (by omega) (by omega) (by omega) (by omega)).trans (oI a ha), oJ a ha⟩⟩, ⟨?_, by decide, by decide, fun k hk => absurd hk (Nat.not_lt_zero k)⟩, ⟨⟨?_, by decide, fun e he => absurd he (Nat.not_lt_zero e), fun e i he => absurd he (Nat.not_lt_zero e)⟩, fun _ _ _ _ => rfl, ⟨by decide, fun e he => absurd he (Nat.not_lt_zero e), fun i e _ he => absurd he (Nat.not_lt_zero e)⟩⟩, ⟨⟨fun j => ?_, fun j => ?_, fun j => ?_, fun j => ?_⟩, fun j => ?_⟩, Or.inl ?_, fun j hj => ?_, fun j => z099, ?_⟩
  · rw [w2 60 8 (by decide), hF]; rfl
  · rw [w2 60 10 (by decide), hF]; rfl
  · exact (show (0 : Nat) < 18446744073709551616 by decide)
  · exact (show (0 : Nat) < 18446744073709551616 by decide)
  · exact (show (0 : Nat) < 18446744073709551616 by decide)
  · exact (show (0 : Nat) < 18446744073709551616 by decide)
  · exact (show (0 : Nat) < 18446744073709551616 by decide)
  · rw [w2 60 13 (by decide), hF]
  · rw [iI 74 (by decide) (by decide) (by decide) (by decide) (by decide) (by decide) (by decide), zI 74 (by decide) (by decide) (by decide) (by decide) (by decide) (by decide) (by decide)]
  · rw [w2 60 17 (by decide), hF]
    decide +kernel
