/-! constructors: BitRows, Chart, Space, RowProduct, Floor -/
def mA1 : zM := (cX1_init, tX1_init, RX1, wsX1_init, { frames := 1, cells := 1, slots := 905, locals := 21 })
theorem kA1 : mA1.2.1.all (fun r => zok mA1 r && zrt none r.2.1) = true := by decide +kernel
def mA2 : zM := (cX2_init, tX2_init, RX2, wsX2_init, { frames := 1, cells := 1, slots := 270, locals := 20 })
theorem kA2 : mA2.2.1.all (fun r => zok mA2 r && zrt none r.2.1) = true := by decide +kernel
def mA3 : zM := (cX3_init, tX3_init, RX3, wsX3_init, { frames := 2, cells := 3, slots := 980, locals := 42 })
theorem kA3 : mA3.2.1.all (fun r => zok mA3 r && zrt none r.2.1) = true := by decide +kernel
def mA4 : zM := (cX4_init, tX4_init, RX4, wsX4_init, { frames := 1, cells := 0, slots := 0, locals := 20 })
theorem kA4 : mA4.2.1.all (fun r => zok mA4 r && zrt none r.2.1) = true := by decide +kernel
def mA5 : zM := (cX5_init, tX5_init, RX5, wsX5_init, { frames := 1, cells := 3, slots := 171, locals := 20 })
theorem kA5 : mA5.2.1.all (fun r => zok mA5 r && zrt none r.2.1) = true := by decide +kernel
theorem sne {α : Type} {o : Option α} {x : α} (h : o = some x) : o ≠ none := by rw [h]; exact Option.some_ne_none x
theorem c_X1_init (l : Launch) (D : va_G) (sh : zSh) (F I : zFi) (J : zJi) {q c m : Nat} (hq : sh q = some (.inl (1, [some none, none, none]))) (hc : sh c = none) (hcl : zCl sh) (hm : m ≤ 181) :
    CnA l D yX1_init wsX1_init mA1.2.2.2.2 sh (fun k => decide (k = c)) [.inr (.inr (some q)), .inl (m : Int)] F I J 1 905 (fun sh' F' I' J' => (∃ cA, sh' = zsu (zsu sh c (.inr (.inr (.inl (cA, m * 5))))) q (.inl (1, [some (some c), none, none]))) ∧ F' = zu (zu F q 1 5) q 2 0 ∧ I' = I ∧ J' = zjz J c) := by
  have hqc : q ≠ c := fun z => by rw [z, hc] at hq; cases hq
  refine zmetA (M := mA1) rfl rfl rfl rfl kA1 (Nat.le_of_ble_eq_true rfl) hcl (fun X hZ hRA hin hl hD hsh hk hn => ?_)
  subst hl hD
  show HW X 0 [some (.inr (.inr (some q))), some (.inl (m : Int))] [] F I J
  refine zgo (fun pc => Nat.beq pc 1) 200 hZ.1 zr0 rfl ?_
  refine hw_objInit hZ.1 (zat_mem rfl) (by decide +kernel) (by decide +kernel) (by decide +kernel) (Nat.le_of_ble_eq_true rfl) ⟨by decide, by decide⟩ ?_
  refine zgo (fun pc => Nat.beq pc 7) 200 hZ.1 zr0 rfl ?_
  refine hw_max hZ.1 (zat_mem rfl) (by decide +kernel) (by decide +kernel) (by decide +kernel) (by decide +kernel) ⟨by decide, by decide⟩ ⟨by omega, by omega⟩ ⟨by decide, by decide⟩ (Nat.le_of_ble_eq_true rfl) ?_
  refine zgo (fun pc => Nat.beq pc 12) 200 hZ.1 zr0 rfl ?_
  refine hw_newJ (q := c) (N := m * 5) hZ (by decide +kernel) (by decide +kernel) (by split <;> omega) (by omega) (by rw [hsh]; exact hc) (decide_eq_true rfl) (by simp [zlf, zvf, hqc]) (by simp [zvf, hqc]) (by rw [hk]; decide) (by rw [hn]; show 0 + m * 5 ≤ 905; omega) (fun X1 cA hZ1 hs1 hk1 hn1 => ?_)
  have h1q : xsh X1 q = some (.inl (1, [some none, none, none])) := by rw [hs1, zsu_n hqc, hsh]; exact hq
  refine hw_putref (idx := 15) (ci := 1) (j := 0) (y := none) hZ1 hin (by decide +kernel) (by decide +kernel) h1q rfl (by rw [hs1]; exact sne (zsu_s _ _ _)) (fun X2 hZ2 hs2 hk2 hn2 => ?_)
  have h2q : xsh X2 q = some (.inl (1, [some (some c), none, none])) := by rw [hs2]; exact zsu_s _ _ _
  refine zgo (fun _ => false) 200 hZ2.1 (hRA.zr hZ2 (by omega) (by omega)) rfl ?_
  refine Exists.intro _ ⟨h2q, ?_⟩
  refine Exists.intro _ ⟨h2q, ?_⟩
  exact ⟨rfl, ⟨cA, by rw [hs2, hs1, hsh]; rfl⟩, rfl, rfl, rfl⟩
theorem c_X2_init (l : Launch) (D : va_G) (sh : zSh) (F I : zFi) (J : zJi) {q c : Nat} (hq : sh q = some (.inl (2, [some none]))) (hc : sh c = none) (hcl : zCl sh) :
    CnA l D yX2_init wsX2_init mA2.2.2.2.2 sh (fun k => decide (k = c)) [.inr (.inr (some q))] F I J 1 270 (fun sh' F' I' J' => (∃ cA, sh' = zsu (zsu sh c (.inr (.inl (cA, 270)))) q (.inl (2, [some (some c)]))) ∧ F' = F ∧ I' = zfz I c ∧ J' = J) := by
  have hqc : q ≠ c := fun z => by rw [z, hc] at hq; cases hq
  refine zmetA (M := mA2) rfl rfl rfl rfl kA2 (Nat.le_of_ble_eq_true rfl) hcl (fun X hZ hRA hin hl hD hsh hk hn => ?_)
  subst hl hD
  show HW X 0 [some (.inr (.inr (some q)))] [] F I J
  refine zgo (fun pc => Nat.beq pc 1) 200 hZ.1 zr0 rfl ?_
  refine hw_objInit hZ.1 (zat_mem rfl) (by decide +kernel) (by decide +kernel) (by decide +kernel) (Nat.le_of_ble_eq_true rfl) ⟨by decide, by decide⟩ ?_
  refine zgo (fun pc => Nat.beq pc 8) 200 hZ.1 zr0 rfl ?_
  refine hw_newI (q := c) (N := 270) hZ (by decide +kernel) (by decide +kernel) rfl (by omega) (by rw [hsh]; exact hc) (decide_eq_true rfl) (by simp [zlf, zvf, hqc]) (by simp [zvf, hqc]) (by rw [hk]; decide) (by rw [hn]; decide) (fun X1 cA hZ1 hs1 hk1 hn1 => ?_)
  have h1q : xsh X1 q = some (.inl (2, [some none])) := by rw [hs1, zsu_n hqc, hsh]; exact hq
  refine hw_putref (idx := 9) (ci := 2) (j := 0) (y := none) hZ1 hin (by decide +kernel) (by decide +kernel) h1q rfl (by rw [hs1]; exact sne (zsu_s _ _ _)) (fun X2 hZ2 hs2 hk2 hn2 => ?_)
  refine zgo (fun _ => false) 200 hZ2.1 (hRA.zr hZ2 (by omega) (by omega)) rfl ?_
  exact ⟨rfl, ⟨cA, by rw [hs2, hs1, hsh]; rfl⟩, rfl, rfl, rfl⟩
theorem c_X4_init (l : Launch) (D : va_G) (sh : zSh) (F I : zFi) (J : zJi) {q b : Nat} (hq : sh q = some (.inl (4, [some none]))) (hb : sh b ≠ none) (hcl : zCl sh) :
    CnA l D yX4_init wsX4_init mA4.2.2.2.2 sh (fun _ => false) [.inr (.inr (some q)), .inr (.inr (some b))] F I J 0 0 (fun sh' F' I' J' => sh' = zsu sh q (.inl (4, [some (some b)])) ∧ F' = F ∧ I' = I ∧ J' = J) := by
  refine zmetA (M := mA4) rfl rfl rfl rfl kA4 (Nat.le_of_ble_eq_true rfl) hcl (fun X hZ hRA hin hl hD hsh hk hn => ?_)
  subst hl hD
  show HW X 0 [some (.inr (.inr (some q))), some (.inr (.inr (some b)))] [] F I J
  refine zgo (fun pc => Nat.beq pc 1) 200 hZ.1 zr0 rfl ?_
  refine hw_objInit hZ.1 (zat_mem rfl) (by decide +kernel) (by decide +kernel) (by decide +kernel) (Nat.le_of_ble_eq_true rfl) ⟨by decide, by decide⟩ ?_
  refine zgo (fun pc => Nat.beq pc 6) 200 hZ.1 zr0 rfl ?_
  refine hw_putref (idx := 7) (ci := 4) (j := 0) (y := none) hZ hin (by decide +kernel) (by decide +kernel) (by rw [hsh]; exact hq) rfl (by rw [hsh]; exact hb) (fun X2 hZ2 hs2 hk2 hn2 => ?_)
  refine zgo (fun _ => false) 200 hZ2.1 (hRA.zr hZ2 (by omega) (by omega)) rfl ?_
  exact ⟨rfl, by rw [hs2, hsh]; rfl, rfl, rfl, rfl⟩
theorem c_X5_init (l : Launch) (D : va_G) (sh : zSh) (F I : zFi) (J : zJi) (hq : sh 11 = some (.inl (5, [some none, some none, some none, none, none]))) (hc : sh 12 = none ∧ sh 13 = none ∧ sh 14 = none) (hcl : zCl sh) :
    CnA l D yX5_init wsX5_init mA5.2.2.2.2 sh (fun k => decide (k = 12) || decide (k = 13) || decide (k = 14)) [.inr (.inr (some 11))] F I J 3 171 (fun sh' F' I' J' => ((∀ k, (k < 11 ∨ 14 < k) → sh' k = sh k) ∧ zsSp sh' 11 12 13 14) ∧ F' = F ∧ I' = zfz (zfz (zfz I 12) 13) 14 ∧ J' = J) := by
  obtain ⟨hc1, hc2, hc3⟩ := hc
  refine zmetA (M := mA5) rfl rfl rfl rfl kA5 (Nat.le_of_ble_eq_true rfl) hcl (fun X hZ hRA hin hl hD hsh hk hn => ?_)
  subst hl hD
  show HW X 0 [some (.inr (.inr (some 11)))] [] F I J
  refine zgo (fun pc => Nat.beq pc 1) 200 hZ.1 zr0 rfl ?_
  refine hw_objInit hZ.1 (zat_mem rfl) (by decide +kernel) (by decide +kernel) (by decide +kernel) (Nat.le_of_ble_eq_true rfl) ⟨by decide, by decide⟩ ?_
  refine zgo (fun pc => Nat.beq pc 7) 200 hZ.1 zr0 rfl ?_
  refine hw_newI (q := 12) (N := 12) hZ (by decide +kernel) (by decide +kernel) rfl (by omega) (by rw [hsh]; exact hc1) rfl rfl rfl (by rw [hk]; decide) (by rw [hn]; decide) (fun X1 c1 hZ1 hs1 hk1 hn1 => ?_)
  refine hw_putref (idx := 9) (ci := 5) (j := 0) (y := none) hZ1 hin (by decide +kernel) (by decide +kernel) (by rw [hs1, zsu_n (by decide), hsh]; exact hq) rfl (by rw [hs1]; exact sne (zsu_s _ _ _)) (fun X2 hZ2 hs2 hk2 hn2 => ?_)
  refine zgo (fun pc => Nat.beq pc 16) 200 hZ2.1 zr0 rfl ?_
  refine hw_newI (q := 13) (N := 156) hZ2 (by decide +kernel) (by decide +kernel) rfl (by omega) (by rw [hs2, zsu_n (by decide), hs1, zsu_n (by decide), hsh]; exact hc2) rfl rfl rfl (by rw [hk2, hk1, hk]; decide) (by rw [hn2, hn1, hn]; decide) (fun X3 c3 hZ3 hs3 hk3 hn3 => ?_)
  refine hw_putref (idx := 15) (ci := 5) (j := 1) (y := none) hZ3 hin (by decide +kernel) (by decide +kernel) (by rw [hs3, zsu_n (by decide), hs2]; exact zsu_s _ _ _) rfl (by rw [hs3]; exact sne (zsu_s _ _ _)) (fun X4 hZ4 hs4 hk4 hn4 => ?_)
  refine zgo (fun pc => Nat.beq pc 23) 200 hZ4.1 zr0 rfl ?_
  refine hw_newI (q := 14) (N := 3) hZ4 (by decide +kernel) (by decide +kernel) rfl (by omega) (by rw [hs4, zsu_n (by decide), hs3, zsu_n (by decide), hs2, zsu_n (by decide), hs1, zsu_n (by decide), hsh]; exact hc3) rfl rfl rfl (by rw [hk4, hk3, hk2, hk1, hk]; decide) (by rw [hn4, hn3, hn2, hn1, hn]; decide) (fun X5 c5 hZ5 hs5 hk5 hn5 => ?_)
  refine hw_putref (idx := 18) (ci := 5) (j := 2) (y := none) hZ5 hin (by decide +kernel) (by decide +kernel) (by rw [hs5, zsu_n (by decide), hs4]; exact zsu_s _ _ _) rfl (by rw [hs5]; exact sne (zsu_s _ _ _)) (fun X6 hZ6 hs6 hk6 hn6 => ?_)
  refine zgo (fun _ => false) 200 hZ6.1 (hRA.zr hZ6 (by omega) (by omega)) rfl ?_
  refine ⟨rfl, ⟨fun k hk => ?_, ?_, ⟨c1, ?_⟩, ⟨c3, ?_⟩, ⟨c5, ?_⟩⟩, rfl, rfl, rfl⟩
  · rw [hs6, zsu_n (by omega), hs5, zsu_n (by omega), hs4, zsu_n (by omega), hs3, zsu_n (by omega), hs2, zsu_n (by omega), hs1, zsu_n (by omega), hsh]
  · rw [hs6]; exact zsu_s _ _ _
  · rw [hs6, zsu_n (by decide), hs5, zsu_n (by decide), hs4, zsu_n (by decide), hs3, zsu_n (by decide), hs2, zsu_n (by decide), hs1]; exact zsu_s _ _ _
  · rw [hs6, zsu_n (by decide), hs5, zsu_n (by decide), hs4, zsu_n (by decide), hs3]; exact zsu_s _ _ _
  · rw [hs6, zsu_n (by decide), hs5]; exact zsu_s _ _ _
/-- a floor that is made: its shape -/
def FlSh (b q : Nat) (sh sh' : zSh) : Prop := (∀ k, k ≠ q → k ≠ q + 1 → k ≠ q + 2 → k ≠ q + 3 → sh' k = sh k) ∧ zsFl sh' q b (q + 1) (q + 2) ∧ zsBits sh' (q + 2) (q + 3) 360
theorem c_X3_init (l : Launch) (D : va_G) (sh : zSh) (F I : zFi) (J : zJi) {q b : Nat} (hq : sh q = some (.inl (3, [some none, some none, some none, none]))) (hb : sh b ≠ none) (hbq : b ≠ q) (hc : sh (q + 1) = none ∧ sh (q + 2) = none ∧ sh (q + 3) = none) (hcl : zCl sh) :
    CnA l D yX3_init wsX3_init mA3.2.2.2.2 sh (fun k => decide (k = q + 1) || decide (k = q + 2) || decide (k = q + 3)) [.inr (.inr (some q)), .inr (.inr (some b))] F I J 3 980 (fun sh' F' I' J' => FlSh b q sh sh' ∧ F' = zu (zu (zfz F (q + 2)) (q + 2) 1 5) (q + 2) 2 0 ∧ I' = zfz I (q + 1) ∧ J' = zjz J (q + 3)) := by
  obtain ⟨hc1, hc2, hc3⟩ := hc
  have hb1 : b ≠ q + 1 := fun z => hb (by rw [z]; exact hc1)
  have hb2 : b ≠ q + 2 := fun z => hb (by rw [z]; exact hc2)
  have hb3 : b ≠ q + 3 := fun z => hb (by rw [z]; exact hc3)
  refine zmetA (M := mA3) rfl rfl rfl rfl kA3 (Nat.le_of_ble_eq_true rfl) hcl (fun X hZ hRA hin hl hD hsh hk hn => ?_)
  subst hl hD
  show HW X 0 [some (.inr (.inr (some q))), some (.inr (.inr (some b)))] [] F I J
  refine zgo (fun pc => Nat.beq pc 1) 200 hZ.1 zr0 rfl ?_
  refine hw_objInit hZ.1 (zat_mem rfl) (by decide +kernel) (by decide +kernel) (by decide +kernel) (Nat.le_of_ble_eq_true rfl) ⟨by decide, by decide⟩ ?_
  refine zgo (fun pc => Nat.beq pc 7) 200 hZ.1 zr0 rfl ?_
  refine hw_newI (q := q + 1) (N := 72) hZ (by decide +kernel) (by decide +kernel) rfl (by omega) (by rw [hsh]; exact hc1) (by simp) (by simp [zlf, zvf, hb1]) (by simp [zvf]) (by rw [hk]; decide) (by rw [hn]; decide) (fun X1 c1 hZ1 hs1 hk1 hn1 => ?_)
  refine hw_putref (idx := 9) (ci := 3) (j := 1) (y := none) hZ1 hin (by decide +kernel) (by decide +kernel) (by rw [hs1, zsu_n (by omega), hsh]; exact hq) rfl (by rw [hs1]; exact sne (zsu_s _ _ _)) (fun X2 hZ2 hs2 hk2 hn2 => ?_)
  refine zgo (fun pc => Nat.beq pc 13) 200 hZ2.1 zr0 rfl ?_
  refine hw_new (idx := 15) (q := q + 2) (ci := 1) (sl := [some none, none, none]) hZ2 (by decide +kernel) rfl (by decide +kernel) (by decide +kernel) (by decide +kernel) (by decide +kernel) (by decide +kernel) (by rw [hs2, zsu_n (by omega), hs1, zsu_n (by omega), hsh]; exact hc2) (by simp) (by simp [zlf, zvf, hb2]) (by simp [zvf]) (by rw [hk2, hk1, hk]; decide) (by rw [hn2, hn1, hn]; decide) (fun X3 hZ3 hs3 hk3 hn3 => ?_)
  refine zgo (fun pc => Nat.beq pc 19) 200 hZ3.1 zr0 rfl ?_
  have c1i := c_X1_init (xl X3) (xD X3) (xsh X3) (zfz F (q + 2)) (zfz I (q + 1)) J (q := q + 2) (c := q + 3) (m := 72) (by rw [hs3]; exact zsu_s _ _ _) (by rw [hs3, zsu_n (by omega), hs2, zsu_n (by omega), hs1, zsu_n (by omega), hsh]; exact hc3) hZ3.2.1.1 (by decide)
  refine hw_callA (nA := 1) (maxL := 2) (As := [.inl ((72 : Nat) : Int)]) hZ3 (zat_mem rfl) c1i gX3_init_X1_init rfl ⟨rfl, rfl⟩ (by decide +kernel) (by decide +kernel) (by decide +kernel) rfl ⟨by decide, by decide, by decide +kernel⟩ rfl ⟨Nat.le_of_ble_eq_true rfl, Nat.le_of_ble_eq_true rfl⟩ (Nat.le_of_ble_eq_true rfl) (fun k hk => by simp only [Bool.or_eq_false_iff] at hk; exact hk.2) (by simp [zlf, zvf, hb3]) (by simp [zvf]) (by rw [hk3, hk2, hk1, hk]; decide) (by rw [hn3, hn2, hn1, hn]; decide) (fun X4 F4 I4 J4 hZ4 hp hk4 hn4 => ?_)
  obtain ⟨⟨c4, hs4⟩, rfl, rfl, rfl⟩ := hp
  refine hw_putref (idx := 20) (ci := 3) (j := 2) (y := none) hZ4 hin (by decide +kernel) (by decide +kernel) (by rw [hs4, zsu_n (by omega), zsu_n (by omega), hs3, zsu_n (by omega), hs2]; exact zsu_s _ _ _) rfl (by rw [hs4]; exact sne (zsu_s _ _ _)) (fun X5 hZ5 hs5 hk5 hn5 => ?_)
  refine zgo (fun pc => Nat.beq pc 27) 200 hZ5.1 zr0 rfl ?_
  have hb5 : xsh X5 b ≠ none := by rw [hs5, zsu_n hbq, hs4, zsu_n hb2, zsu_n hb3, hs3, zsu_n hb2, hs2, zsu_n hbq, hs1, zsu_n hb1, hsh]; exact hb
  refine hw_putref (idx := 24) (ci := 3) (j := 0) (y := none) hZ5 hin (by decide +kernel) (by decide +kernel) (by rw [hs5]; exact zsu_s _ _ _) rfl hb5 (fun X6 hZ6 hs6 hk6 hn6 => ?_)
  refine zgo (fun _ => false) 200 hZ6.1 (hRA.zr hZ6 (by omega) (by omega)) rfl ?_
  refine ⟨rfl, ⟨fun k g1 g2 g3 g4 => ?_, ⟨?_, ⟨c1, ?_⟩⟩, ?_, ⟨c4, ?_⟩⟩, rfl, rfl, rfl⟩
  · rw [hs6, zsu_n g1, hs5, zsu_n g1, hs4, zsu_n g3, zsu_n g4, hs3, zsu_n g3, hs2, zsu_n g1, hs1, zsu_n g2, hsh]
  · rw [hs6]; exact zsu_s _ _ _
  · rw [hs6, zsu_n (by omega), hs5, zsu_n (by omega), hs4, zsu_n (by omega), zsu_n (by omega), hs3, zsu_n (by omega), hs2, zsu_n (by omega), hs1]; exact zsu_s _ _ _
  · rw [hs6, zsu_n (by omega), hs5, zsu_n (by omega), hs4]; exact zsu_s _ _ _
  · rw [hs6, zsu_n (by omega), hs5, zsu_n (by omega), hs4, zsu_n (by omega)]; exact zsu_s _ _ _
