/-! constructors: Tower -/
def mA7 : zM := (cX7_init, tX7_init, RX7, wsX7_init, { frames := 3, cells := 38, slots := 10516, locals := 63 })
theorem kA7 : mA7.2.1.all (fun r => zok mA7 r && zrt none r.2.1) = true := by decide +kernel
abbrev frT (k : Nat) : Bool := decide (16 ≤ k ∧ k ≤ 29) || decide (32 ≤ k ∧ k ≤ 55)
def slT : List (Option (Option Nat)) := [some (some 2), some (some 8), some (some 11), some (some 16), some (some 17), some (some 18), some (some 20), some (some 26), some (some 27), some (some 28), some (some 29), none]
abbrev outT (k : Nat) : Prop := k < 15 ∨ k = 30 ∨ k = 31 ∨ 56 ≤ k
/-- the tower's shape, with s floors made -/
def TwS (sh sh' : zSh) (s : Nat) : Prop :=
  sh' 15 = some (.inl (7, slT)) ∧ (∃ cA f, sh' 16 = some (.inr (.inr (.inr (cA, "SquareTower$Floor", 6, f)))) ∧ ∀ i, i < s → f i = some (32 + 4 * i)) ∧
  (∀ i, i < s → zsFl sh' (32 + 4 * i) 2 (33 + 4 * i) (34 + 4 * i) ∧ zsBits sh' (34 + 4 * i) (35 + 4 * i) 360) ∧ (∀ k, 32 + 4 * s ≤ k → k < 56 → sh' k = none) ∧
  (zsBits sh' 18 19 905 ∧ zsBits sh' 20 21 905) ∧ ((∃ cA, sh' 26 = some (.inr (.inl (cA, 320)))) ∧ (∃ cA, sh' 27 = some (.inr (.inl (cA, 320)))) ∧ (∃ cA, sh' 28 = some (.inr (.inl (cA, 320)))) ∧ ∃ cA, sh' 29 = some (.inr (.inl (cA, 12)))) ∧
  ∀ k, outT k → sh' k = sh k
/-- the tower's memory, with s floors made -/
def TwF (F I : zFi) (J : zJi) (F' I' : zFi) (J' : zJi) (s : Nat) : Prop :=
  (∀ i, i < s → F' (32 + 4 * i) 3 = 0 ∧ F' (34 + 4 * i) 1 = 5 ∧ F' (34 + 4 * i) 2 = 0 ∧ (∀ j, I' (33 + 4 * i) j = 0) ∧ ∀ j, J' (35 + 4 * i) j = 0) ∧ (∀ j, J' 19 j = 0 ∧ J' 21 j = 0) ∧ F' 15 = F 15 ∧ ∀ k, outT k → F' k = F k ∧ I' k = I k ∧ J' k = J k
theorem TwS.floor {sh sh1 sh2 : zSh} {s : Nat} (hs : s < 6) (h : TwS sh sh1 s) {t : zS} (hf : FlSh 2 (32 + 4 * s) (zsu sh1 (32 + 4 * s) t) sh2) {cA : ClassId} {f : Nat → Option Nat} (h16 : sh2 16 = some (.inr (.inr (.inr (cA, "SquareTower$Floor", 6, f))))) (hf6 : ∀ i, i < s → f i = some (32 + 4 * i)) :
    TwS sh (zsu sh2 16 (.inr (.inr (.inr (cA, "SquareTower$Floor", 6, fun k => match Nat.beq k s with | true => some (32 + 4 * s) | false => f k))))) (s + 1) := by
  obtain ⟨g1, g2, g3, g4, g5, g6, g7⟩ := h
  obtain ⟨f1, f2, f3⟩ := hf
  have keep : ∀ k, k ≠ 16 → (k < 32 + 4 * s ∨ 36 + 4 * s ≤ k) → zsu sh2 16 (.inr (.inr (.inr (cA, "SquareTower$Floor", 6, fun k => match Nat.beq k s with | true => some (32 + 4 * s) | false => f k)))) k = sh1 k := fun k h1 h2 => by
    rw [zsu_n h1, f1 k (by omega) (by omega) (by omega) (by omega), zsu_n (by omega)]
  have new : ∀ k, 32 + 4 * s ≤ k → zsu sh2 16 (.inr (.inr (.inr (cA, "SquareTower$Floor", 6, fun k => match Nat.beq k s with | true => some (32 + 4 * s) | false => f k)))) k = sh2 k := fun k h1 => zsu_n (by omega)
  refine ⟨(keep 15 (by decide) (by omega)).trans g1, ⟨cA, _, zsu_s _ _ _, fun i hi => ?_⟩, fun i hi => ?_, fun k h1 h2 => (keep k (by omega) (by omega)).trans (g4 k (by omega) h2), ⟨⟨(keep 18 (by decide) (by omega)).trans g5.1.1, ?_⟩, ⟨(keep 20 (by decide) (by omega)).trans g5.2.1, ?_⟩⟩, ⟨?_, ?_, ?_, ?_⟩, fun k hk => (keep k (by omega) (by omega)).trans (g7 k hk)⟩
  · by_cases e : i = s
    · subst e
      rw [nbq]
    · rw [nbn e]
      exact hf6 i (by omega)
  · by_cases e : i = s
    · subst e
      refine ⟨⟨(new _ (by omega)).trans (by rw [show 33 + 4 * i = 32 + 4 * i + 1 by omega, show 34 + 4 * i = 32 + 4 * i + 2 by omega]; exact f2.1), ?_⟩, (new _ (by omega)).trans (by rw [show 34 + 4 * i = 32 + 4 * i + 2 by omega, show 35 + 4 * i = 32 + 4 * i + 3 by omega]; exact f3.1), ?_⟩
      · obtain ⟨c, hc⟩ := f2.2
        exact ⟨c, (new _ (by omega)).trans (by rw [show 33 + 4 * i = 32 + 4 * i + 1 by omega]; exact hc)⟩
      · obtain ⟨c, hc⟩ := f3.2
        exact ⟨c, (new _ (by omega)).trans (by rw [show 35 + 4 * i = 32 + 4 * i + 3 by omega]; exact hc)⟩
    · obtain ⟨⟨a1, c1, a2⟩, a3, c2, a4⟩ := g3 i (by omega)
      exact ⟨⟨(keep _ (by omega) (by omega)).trans a1, c1, (keep _ (by omega) (by omega)).trans a2⟩, (keep _ (by omega) (by omega)).trans a3, c2, (keep _ (by omega) (by omega)).trans a4⟩
  · obtain ⟨c, hc⟩ := g5.1.2
    exact ⟨c, (keep _ (by decide) (by omega)).trans hc⟩
  · obtain ⟨c, hc⟩ := g5.2.2
    exact ⟨c, (keep _ (by decide) (by omega)).trans hc⟩
  · obtain ⟨c, hc⟩ := g6.1
    exact ⟨c, (keep _ (by decide) (by omega)).trans hc⟩
  · obtain ⟨c, hc⟩ := g6.2.1
    exact ⟨c, (keep _ (by decide) (by omega)).trans hc⟩
  · obtain ⟨c, hc⟩ := g6.2.2.1
    exact ⟨c, (keep _ (by decide) (by omega)).trans hc⟩
  · obtain ⟨c, hc⟩ := g6.2.2.2
    exact ⟨c, (keep _ (by decide) (by omega)).trans hc⟩
theorem TwF.floor {F I : zFi} {J : zJi} {F1 I1 : zFi} {J1 : zJi} {s q : Nat} (hq : q = 32 + 4 * s) (hs : s < 6) (h : TwF F I J F1 I1 J1 s) : TwF F I J (zu (zu (zfz (zfz F1 q) (q + 2)) (q + 2) 1 5) (q + 2) 2 0) (zfz I1 (q + 1)) (zjz J1 (q + 3)) (s + 1) := by
  obtain ⟨g1, g2, g3, g4⟩ := h
  have kF : ∀ k, k ≠ q → k ≠ q + 2 → zu (zu (zfz (zfz F1 q) (q + 2)) (q + 2) 1 5) (q + 2) 2 0 k = F1 k := fun k h1 h2 => by rw [zu_r h2, zu_r h2, zfz_r h2, zfz_r h1]
  refine ⟨fun i hi => ?_, fun j => ⟨by rw [zjz_r (by omega)]; exact (g2 j).1, by rw [zjz_r (by omega)]; exact (g2 j).2⟩, by rw [kF 15 (by omega) (by omega)]; exact g3, fun k hk => ⟨by rw [kF k (by omega) (by omega)]; exact (g4 k hk).1, by rw [zfz_r (by omega)]; exact (g4 k hk).2.1, by rw [zjz_r (by omega)]; exact (g4 k hk).2.2⟩⟩
  by_cases e : i = s
  · subst e
    subst hq
    refine ⟨?_, ?_, ?_, fun j => ?_, fun j => ?_⟩
    · rw [zu_r (by omega), zu_r (by omega), zfz_r (by omega), zfz_s]
    · rw [show 34 + 4 * i = 32 + 4 * i + 2 by omega, zu_n (by omega), zu_s]
    · rw [show 34 + 4 * i = 32 + 4 * i + 2 by omega, zu_s]
    · rw [show 33 + 4 * i = 32 + 4 * i + 1 by omega, zfz_s]
    · rw [show 35 + 4 * i = 32 + 4 * i + 3 by omega, zjz_s]
  · obtain ⟨a1, a2, a3, a4, a5⟩ := g1 i (by omega)
    refine ⟨?_, ?_, ?_, fun j => ?_, fun j => ?_⟩
    · rw [kF _ (by omega) (by omega)]; exact a1
    · rw [kF _ (by omega) (by omega)]; exact a2
    · rw [kF _ (by omega) (by omega)]; exact a3
    · rw [zfz_r (by omega)]; exact a4 j
    · rw [zjz_r (by omega)]; exact a5 j
/-- the whole tower's shape and memory -/
def TwP (sh : zSh) (F I : zFi) (J : zJi) : zPa := fun sh' F' I' J' => (TwS sh sh' 6 ∧ (∀ i, i < 2 → zsBits sh' (22 + 2 * i) (23 + 2 * i) 900) ∧ ∃ cA, sh' 17 = some (.inr (.inr (.inr (cA, "SquareTower$BitRows", 2, fun k => match Nat.beq k 1 with | true => some 24 | false => match Nat.beq k 0 with | true => some 22 | false => none))))) ∧ TwF F I J F' I' J' 6 ∧ ∀ j, J' 23 j = 0 ∧ J' 25 j = 0
set_option maxHeartbeats 4000000 in
theorem c_X7_init (l : Launch) (D : va_G) (sh : zSh) (F I : zFi) (J : zJi) (hq : sh 15 = some (.inl (7, [some none, some none, some none, some none, some none, some none, some none, some none, some none, some none, some none, none]))) (hc : ∀ k, frT k = true → sh k = none) (h2 : sh 2 ≠ none) (h8 : sh 8 ≠ none) (h11 : sh 11 ≠ none) (hcl : zCl sh) :
    CnA l D yX7_init wsX7_init mA7.2.2.2.2 sh frT [.inr (.inr (some 15)), .inr (.inr (some 2)), .inr (.inr (some 8)), .inr (.inr (some 11))] F I J 38 10516 (TwP sh F I J) := by
  refine zmetA (M := mA7) rfl rfl rfl rfl kA7 (Nat.le_of_ble_eq_true rfl) hcl (fun X hZ hRA hin hl hD hsh hk hn => ?_)
  subst hl hD
  -- behind the floors
  have tail : ∀ (X1 : zX) (F1 I1 : zFi) (J1 : zJi) (x : Int), ZX X mA7 frT X1 → xk X1 = 34 → xn X1 = 8700 → TwS sh (xsh X1) 6 → (∀ k, 22 ≤ k → k < 26 → xsh X1 k = none) → (∃ cA, xsh X1 17 = some (.inr (.inr (.inr (cA, "SquareTower$BitRows", 2, fun _ => none))))) → TwF F I J F1 I1 J1 6 → HW X1 130 [some (.inr (.inr (some 15))), some (.inr (.inr (some 2))), some (.inr (.inr (some 8))), some (.inr (.inr (some 11))), some (.inl x)] [] F1 I1 J1 := by
    intro X1 F1 I1 J1 x hZ1 hk1 hn1 hT hno h17 hM
    obtain ⟨c17, h17⟩ := h17
    refine zgo (fun pc => Nat.beq pc 135) 200 hZ1.1 zr0 rfl ?_
    refine Exists.intro _ ⟨hT.1, ?_⟩
    refine hw_new (idx := 17) (q := 22) (ci := 1) (sl := [some none, none, none]) hZ1 (by decide +kernel) rfl (by decide +kernel) (by decide +kernel) (by decide +kernel) (by decide +kernel) (by decide +kernel) (hno 22 (by decide) (by decide)) rfl rfl rfl (by rw [hk1]; decide) (by rw [hn1]; decide) (fun X2 hZ2 hs2 hk2 hn2 => ?_)
    refine zgo (fun pc => Nat.beq pc 142) 200 hZ2.1 zr0 rfl ?_
    refine hw_callA (nA := 1) (maxL := 2) (As := [.inl ((180 : Nat) : Int)]) hZ2 (zat_mem rfl) (c_X1_init _ _ _ _ _ _ (q := 22) (c := 23) (m := 180) (by rw [hs2]; rfl) (by rw [hs2]; exact hno 23 (by decide) (by decide)) hZ2.2.1.1 (by decide)) gX7_init_X1_init rfl ⟨rfl, rfl⟩ (by decide +kernel) (by decide +kernel) (by decide +kernel) rfl ⟨by decide, by decide, by decide +kernel⟩ rfl ⟨Nat.le_of_ble_eq_true rfl, Nat.le_of_ble_eq_true rfl⟩ (Nat.le_of_ble_eq_true rfl) (fun k hk => by simp at hk ⊢; omega) rfl rfl (by rw [hk2, hk1]; decide) (by rw [hn2, hn1]; decide) (fun X3 F3 I3 J3 hZ3 hp hk3 hn3 => ?_)
    obtain ⟨⟨c3, hs3⟩, rfl, rfl, rfl⟩ := hp
    rw [hs2] at hs3
    refine hw_aastore (ci := 1) (j := 0) hZ3 (by decide +kernel) (by rw [hs3]; exact h17) (by rw [hs3]; rfl) rfl rfl (by decide) (fun X4 hZ4 hs4 hk4 hn4 => ?_)
    rw [hs3] at hs4
    refine zgo (fun pc => Nat.beq pc 151) 200 hZ4.1 zr0 rfl ?_
    refine Exists.intro _ ⟨by rw [hs4]; exact hT.1, ?_⟩
    refine hw_new (idx := 17) (q := 24) (ci := 1) (sl := [some none, none, none]) hZ4 (by decide +kernel) rfl (by decide +kernel) (by decide +kernel) (by decide +kernel) (by decide +kernel) (by decide +kernel) (by rw [hs4]; exact hno 24 (by decide) (by decide)) rfl rfl rfl (by rw [hk4, hk3, hk2, hk1]; decide) (by rw [hn4, hn3, hn2, hn1]; decide) (fun X5 hZ5 hs5 hk5 hn5 => ?_)
    rw [hs4] at hs5
    refine zgo (fun pc => Nat.beq pc 158) 200 hZ5.1 zr0 rfl ?_
    refine hw_callA (nA := 1) (maxL := 2) (As := [.inl ((180 : Nat) : Int)]) hZ5 (zat_mem rfl) (c_X1_init _ _ _ _ _ _ (q := 24) (c := 25) (m := 180) (by rw [hs5]; rfl) (by rw [hs5]; exact hno 25 (by decide) (by decide)) hZ5.2.1.1 (by decide)) gX7_init_X1_init rfl ⟨rfl, rfl⟩ (by decide +kernel) (by decide +kernel) (by decide +kernel) rfl ⟨by decide, by decide, by decide +kernel⟩ rfl ⟨Nat.le_of_ble_eq_true rfl, Nat.le_of_ble_eq_true rfl⟩ (Nat.le_of_ble_eq_true rfl) (fun k hk => by simp at hk ⊢; omega) rfl rfl (by rw [hk5, hk4, hk3, hk2, hk1]; decide) (by rw [hn5, hn4, hn3, hn2, hn1]; decide) (fun X6 F6 I6 J6 hZ6 hp hk6 hn6 => ?_)
    obtain ⟨⟨c6, hs6⟩, rfl, rfl, rfl⟩ := hp
    rw [hs5] at hs6
    refine hw_aastore (ci := 1) (j := 1) hZ6 (by decide +kernel) (by rw [hs6]; rfl) (by rw [hs6]; rfl) rfl rfl (by decide) (fun X7 hZ7 hs7 hk7 hn7 => ?_)
    rw [hs6] at hs7
    refine zgo (fun _ => false) 200 hZ7.1 (hRA.zr hZ7 (by omega) (by omega)) rfl ?_
    have keep : ∀ k, k ≠ 17 → (k < 22 ∨ 26 ≤ k) → xsh X7 k = xsh X1 k := fun k a1 a2 => by
      rw [hs7, zsu_n a1, zsu_n (by omega), zsu_n (by omega), zsu_n (by omega), zsu_n a1, zsu_n (by omega), zsu_n (by omega), zsu_n (by omega)]
    obtain ⟨g1, ⟨cf, f, g2, g2b⟩, g3, g4, g5, g6, g7⟩ := hT
    obtain ⟨m1, m2, m3, m4⟩ := hM
    have kF : ∀ k, k ≠ 22 → k ≠ 24 → zu (zu (zfz (zu (zu (zfz F1 22) 22 1 5) 22 2 0) 24) 24 1 5) 24 2 0 k = F1 k := fun k a1 a2 => by rw [zu_r a2, zu_r a2, zfz_r a2, zu_r a1, zu_r a1, zfz_r a1]
    have kJ : ∀ k, k ≠ 23 → k ≠ 25 → zjz (zjz J1 23) 25 k = J1 k := fun k a1 a2 => by rw [zjz_r a2, zjz_r a1]
    refine ⟨rfl, ⟨⟨(keep 15 (by decide) (by omega)).trans g1, ⟨cf, f, (keep 16 (by decide) (by omega)).trans g2, g2b⟩, fun i hi => ?_, fun k a1 a2 => by omega, ⟨⟨(keep 18 (by decide) (by omega)).trans g5.1.1, g5.1.2.imp fun c hc => (keep 19 (by decide) (by omega)).trans hc⟩, ⟨(keep 20 (by decide) (by omega)).trans g5.2.1, g5.2.2.imp fun c hc => (keep 21 (by decide) (by omega)).trans hc⟩⟩,
      ⟨g6.1.imp fun c hc => (keep 26 (by decide) (by omega)).trans hc, g6.2.1.imp fun c hc => (keep 27 (by decide) (by omega)).trans hc, g6.2.2.1.imp fun c hc => (keep 28 (by decide) (by omega)).trans hc, g6.2.2.2.imp fun c hc => (keep 29 (by decide) (by omega)).trans hc⟩, fun k hk => (keep k (by omega) (by omega)).trans (g7 k hk)⟩, fun i hi => ?_, c17, ?_⟩, ⟨fun i hi => ?_, fun j => ⟨by rw [kJ 19 (by decide) (by decide)]; exact (m2 j).1, by rw [kJ 21 (by decide) (by decide)]; exact (m2 j).2⟩, by rw [kF 15 (by decide) (by decide)]; exact m3, fun k hk => ⟨by rw [kF k (by omega) (by omega)]; exact (m4 k hk).1, (m4 k hk).2.1, by rw [kJ k (by omega) (by omega)]; exact (m4 k hk).2.2⟩⟩, fun j => ⟨rfl, rfl⟩⟩
    · obtain ⟨⟨a1, c1, a2⟩, a3, c2, a4⟩ := g3 i hi
      exact ⟨⟨(keep _ (by omega) (by omega)).trans a1, c1, (keep _ (by omega) (by omega)).trans a2⟩, (keep _ (by omega) (by omega)).trans a3, c2, (keep _ (by omega) (by omega)).trans a4⟩
    · match i, hi with
      | 0, _ => exact ⟨by rw [hs7]; rfl, c3, by rw [hs7]; rfl⟩
      | 1, _ => exact ⟨by rw [hs7]; rfl, c6, by rw [hs7]; rfl⟩
    · rw [hs7]
      exact zsu_s _ _ _
    · obtain ⟨a1, a2, a3, a4, a5⟩ := m1 i hi
      exact ⟨by rw [kF _ (by omega) (by omega)]; exact a1, by rw [kF _ (by omega) (by omega)]; exact a2, by rw [kF _ (by omega) (by omega)]; exact a3, a4, fun j => by rw [kJ _ (by omega) (by omega)]; exact a5 j⟩
  -- the floors
  have loop : ∀ (n s : Nat), s + n = 6 → ∀ (X1 : zX) (F1 I1 : zFi) (J1 : zJi), ZX X mA7 frT X1 → xk X1 = 10 + 4 * s → xn X1 = 2796 + 984 * s → TwS sh (xsh X1) s → (∀ k, 22 ≤ k → k < 26 → xsh X1 k = none) → (∃ cA, xsh X1 17 = some (.inr (.inr (.inr (cA, "SquareTower$BitRows", 2, fun _ => none))))) → TwF F I J F1 I1 J1 s → HW X1 102 [some (.inr (.inr (some 15))), some (.inr (.inr (some 2))), some (.inr (.inr (some 8))), some (.inr (.inr (some 11))), some (.inl (s : Int))] [] F1 I1 J1 := by
    intro n
    induction n with
    | zero =>
      intro s hs X1 F1 I1 J1 hZ1 hk1 hn1 hT hno h17 hM
      obtain rfl : s = 6 := by omega
      refine zgo (fun pc => Nat.beq pc 130) 200 hZ1.1 zr0 rfl ?_
      refine And.intro (fun c1 => ?_) (fun c1 => by omega)
      exact tail X1 F1 I1 J1 _ hZ1 hk1 hn1 hT hno h17 hM
    | succ n ih =>
      intro s hs X1 F1 I1 J1 hZ1 hk1 hn1 hT hno h17 hM
      obtain ⟨c16, f, h16, hf16⟩ := hT.2.1
      refine zgo (fun pc => Nat.beq pc 130 || Nat.beq pc 115) 200 hZ1.1 zr0 rfl ?_
      refine And.intro (fun c1 => by omega) (fun c1 => ?_)
      refine Exists.intro _ ⟨hT.1, ?_⟩
      have hno4 : ∀ k, 32 + 4 * s ≤ k → k < 36 + 4 * s → xsh X1 k = none := fun k a1 a2 => hT.2.2.2.1 k a1 (by omega)
      have hl4 : ∀ x : Int, zlf (fun k => decide (k = 32 + 4 * s)) [some (.inr (.inr (some 15))), some (.inr (.inr (some 2))), some (.inr (.inr (some 8))), some (.inr (.inr (some 11))), some (.inl x)] = true := fun x => by
        simp only [zlf, zvf, List.all_cons, List.all_nil, Bool.and_true, Bool.and_eq_true, Bool.not_eq_true', decide_eq_false_iff_not]
        omega
      refine hw_new (idx := 9) (q := 32 + 4 * s) (ci := 3) (sl := [some none, some none, some none, none]) hZ1 (by decide +kernel) rfl (by decide +kernel) (by decide +kernel) (by decide +kernel) (by decide +kernel) (by decide +kernel) (hno4 _ (by omega) (by omega)) (by simp; omega) (hl4 _) (by simp [zvf]; omega) (by rw [hk1]; show 10 + 4 * s + 1 ≤ 38; omega) (by rw [hn1]; show 2796 + 984 * s + 4 ≤ 10516; omega) (fun X2 hZ2 hs2 hk2 hn2 => ?_)
      refine zgo (fun pc => Nat.beq pc 120) 200 hZ2.1 zr0 rfl ?_
      have h2' : xsh X2 2 = sh 2 := by rw [hs2, zsu_n (by omega)]; exact hT.2.2.2.2.2.2 2 (by omega)
      refine hw_callA (nA := 1) (maxL := 2) (As := [.inr (.inr (some 2))]) hZ2 (zat_mem rfl) (c_X3_init _ _ _ _ _ _ (q := 32 + 4 * s) (b := 2) (by rw [hs2]; exact zsu_s _ _ _) (by rw [h2']; exact h2) (by omega) ⟨by rw [hs2, zsu_n (by omega)]; exact hno4 _ (by omega) (by omega), by rw [hs2, zsu_n (by omega)]; exact hno4 _ (by omega) (by omega), by rw [hs2, zsu_n (by omega)]; exact hno4 _ (by omega) (by omega)⟩ hZ2.2.1.1) gX7_init_X3_init rfl ⟨rfl, rfl⟩ (by decide +kernel) (by decide +kernel) (by decide +kernel) rfl ⟨by decide, by decide, by decide +kernel⟩ rfl ⟨Nat.le_of_ble_eq_true rfl, Nat.le_of_ble_eq_true rfl⟩ (Nat.le_of_ble_eq_true rfl) (fun k hk => by simp at hk ⊢; omega) (by simp [zlf, zvf]; omega) (by simp [zvf]; omega) (by rw [hk2, hk1]; show 10 + 4 * s + 1 + 3 ≤ 38; omega) (by rw [hn2, hn1]; show 2796 + 984 * s + 4 + 980 ≤ 10516; omega) (fun X3 F3 I3 J3 hZ3 hp hk3 hn3 => ?_)
      obtain ⟨hFl, rfl, rfl, rfl⟩ := hp
      rw [hs2] at hFl
      have h16' : xsh X3 16 = some (.inr (.inr (.inr (c16, "SquareTower$Floor", 6, f)))) := by rw [hFl.1 16 (by omega) (by omega) (by omega) (by omega), zsu_n (by omega)]; exact h16
      refine hw_aastore (ci := 3) (j := s) hZ3 (by decide +kernel) h16' hFl.2.1.1 rfl rfl (by omega) (fun X4 hZ4 hs4 hk4 hn4 => ?_)
      refine zgo (fun pc => Nat.beq pc 102) 200 hZ4.1 zr0 rfl ?_
      have keep : ∀ k, k ≠ 16 → k < 32 → xsh X4 k = xsh X1 k := fun k a1 a2 => by rw [hs4, zsu_n a1, hFl.1 k (by omega) (by omega) (by omega) (by omega), zsu_n (by omega)]
      refine ih (s + 1) (by omega) X4 _ _ _ hZ4 (by omega) (by omega) (by rw [hs4]; exact TwS.floor (by omega) hT hFl h16' hf16) (fun k a1 a2 => (keep k (by omega) (by omega)).trans (hno k a1 a2)) (h17.imp fun c hc => (keep 17 (by decide) (by decide)).trans hc) (TwF.floor rfl (by omega) hM)
  -- from the entry
  show HW X 0 [some (.inr (.inr (some 15))), some (.inr (.inr (some 2))), some (.inr (.inr (some 8))), some (.inr (.inr (some 11))), none] [] F I J
  refine zgo (fun pc => Nat.beq pc 1) 200 hZ.1 zr0 rfl ?_
  refine hw_objInit hZ.1 (zat_mem rfl) (by decide +kernel) (by decide +kernel) (by decide +kernel) (Nat.le_of_ble_eq_true rfl) ⟨by decide, by decide⟩ ?_
  refine zgo (fun pc => Nat.beq pc 7) 200 hZ.1 zr0 rfl ?_
  refine hw_newq (idx := 9) (q := 16) (N := 6) (E := "SquareTower$Floor") hZ (by decide +kernel) (by decide +kernel) hZ.2.1.2.1 rfl (by omega) (by rw [hsh]; exact hc 16 rfl) rfl rfl rfl (by rw [hk]; decide) (by rw [hn]; decide) (fun X1 c1 hZ1 hs1 hk1 hn1 => ?_)
  rw [hsh] at hs1
  refine hw_putref (idx := 11) (ci := 7) (j := 3) (y := none) hZ1 hin (by decide +kernel) (by decide +kernel) (by rw [hs1]; exact hq) rfl (by rw [hs1]; exact sne rfl) (fun X2 hZ2 hs2 hk2 hn2 => ?_)
  rw [hs1] at hs2
  refine zgo (fun pc => Nat.beq pc 15) 200 hZ2.1 zr0 rfl ?_
  refine hw_newq (idx := 17) (q := 17) (N := 2) (E := "SquareTower$BitRows") hZ2 (by decide +kernel) (by decide +kernel) hZ2.2.1.2.2 rfl (by omega) (by rw [hs2]; exact hc 17 rfl) rfl rfl rfl (by rw [hk2, hk1, hk]; decide) (by rw [hn2, hn1, hn]; decide) (fun X3 c3 hZ3 hs3 hk3 hn3 => ?_)
  rw [hs2] at hs3
  refine hw_putref (idx := 19) (ci := 7) (j := 4) (y := none) hZ3 hin (by decide +kernel) (by decide +kernel) (by rw [hs3]; rfl) rfl (by rw [hs3]; exact sne rfl) (fun X4 hZ4 hs4 hk4 hn4 => ?_)
  rw [hs3] at hs4
  have k4 : xk X4 = 2 := by omega
  have n4 : xn X4 = 8 := by omega
  refine zgo (fun pc => Nat.beq pc 22) 200 hZ4.1 zr0 rfl ?_
  refine hw_new (idx := 17) (q := 18) (ci := 1) (sl := [some none, none, none]) hZ4 (by decide +kernel) rfl (by decide +kernel) (by decide +kernel) (by decide +kernel) (by decide +kernel) (by decide +kernel) (by rw [hs4]; exact hc 18 rfl) rfl rfl rfl (by rw [k4]; decide) (by rw [n4]; decide) (fun X5 hZ5 hs5 hk5 hn5 => ?_)
  rw [hs4] at hs5
  refine zgo (fun pc => Nat.beq pc 29) 200 hZ5.1 zr0 rfl ?_
  refine hw_callA (nA := 1) (maxL := 2) (As := [.inl ((181 : Nat) : Int)]) hZ5 (zat_mem rfl) (c_X1_init _ _ _ _ _ _ (q := 18) (c := 19) (m := 181) (by rw [hs5]; rfl) (by rw [hs5]; exact hc 19 rfl) hZ5.2.1.1 (by decide)) gX7_init_X1_init rfl ⟨rfl, rfl⟩ (by decide +kernel) (by decide +kernel) (by decide +kernel) rfl ⟨by decide, by decide, by decide +kernel⟩ rfl ⟨Nat.le_of_ble_eq_true rfl, Nat.le_of_ble_eq_true rfl⟩ (Nat.le_of_ble_eq_true rfl) (fun k hk => by simp at hk ⊢; omega) rfl rfl (by rw [hk5, k4]; decide) (by rw [hn5, n4]; decide) (fun X6 F6 I6 J6 hZ6 hp hk6 hn6 => ?_)
  obtain ⟨⟨c6, hs6⟩, rfl, rfl, rfl⟩ := hp
  rw [hs5] at hs6
  refine hw_putref (idx := 26) (ci := 7) (j := 5) (y := none) hZ6 hin (by decide +kernel) (by decide +kernel) (by rw [hs6]; rfl) rfl (by rw [hs6]; exact sne rfl) (fun X7 hZ7 hs7 hk7 hn7 => ?_)
  rw [hs6] at hs7
  have k7 : xk X7 = 4 := by omega
  have n7 : xn X7 = 916 := by omega
  refine zgo (fun pc => Nat.beq pc 36) 200 hZ7.1 zr0 rfl ?_
  refine hw_new (idx := 17) (q := 20) (ci := 1) (sl := [some none, none, none]) hZ7 (by decide +kernel) rfl (by decide +kernel) (by decide +kernel) (by decide +kernel) (by decide +kernel) (by decide +kernel) (by rw [hs7]; exact hc 20 rfl) rfl rfl rfl (by rw [k7]; decide) (by rw [n7]; decide) (fun X8 hZ8 hs8 hk8 hn8 => ?_)
  rw [hs7] at hs8
  refine zgo (fun pc => Nat.beq pc 43) 200 hZ8.1 zr0 rfl ?_
  refine hw_callA (nA := 1) (maxL := 2) (As := [.inl ((181 : Nat) : Int)]) hZ8 (zat_mem rfl) (c_X1_init _ _ _ _ _ _ (q := 20) (c := 21) (m := 181) (by rw [hs8]; rfl) (by rw [hs8]; exact hc 21 rfl) hZ8.2.1.1 (by decide)) gX7_init_X1_init rfl ⟨rfl, rfl⟩ (by decide +kernel) (by decide +kernel) (by decide +kernel) rfl ⟨by decide, by decide, by decide +kernel⟩ rfl ⟨Nat.le_of_ble_eq_true rfl, Nat.le_of_ble_eq_true rfl⟩ (Nat.le_of_ble_eq_true rfl) (fun k hk => by simp at hk ⊢; omega) rfl rfl (by rw [hk8, k7]; decide) (by rw [hn8, n7]; decide) (fun X9 F9 I9 J9 hZ9 hp hk9 hn9 => ?_)
  obtain ⟨⟨c9, hs9⟩, rfl, rfl, rfl⟩ := hp
  rw [hs8] at hs9
  refine hw_putref (idx := 30) (ci := 7) (j := 6) (y := none) hZ9 hin (by decide +kernel) (by decide +kernel) (by rw [hs9]; rfl) rfl (by rw [hs9]; exact sne rfl) (fun Xa hZa hsa hka hna => ?_)
  rw [hs9] at hsa
  have ka : xk Xa = 6 := by omega
  have na : xn Xa = 1824 := by omega
  refine zgo (fun pc => Nat.beq pc 53) 200 hZa.1 zr0 rfl ?_
  refine hw_newI (q := 26) (N := 320) hZa (by decide +kernel) (by decide +kernel) rfl (by omega) (by rw [hsa]; exact hc 26 rfl) rfl rfl rfl (by rw [ka]; decide) (by rw [na]; decide) (fun Xb cb hZb hsb hkb hnb => ?_)
  rw [hsa] at hsb
  refine hw_putref (idx := 33) (ci := 7) (j := 7) (y := none) hZb hin (by decide +kernel) (by decide +kernel) (by rw [hsb]; rfl) rfl (by rw [hsb]; exact sne rfl) (fun Xc hZc hsc hkc hnc => ?_)
  rw [hsb] at hsc
  have kc : xk Xc = 7 := by omega
  have nc : xn Xc = 2144 := by omega
  refine zgo (fun pc => Nat.beq pc 62) 200 hZc.1 zr0 rfl ?_
  refine hw_newI (q := 27) (N := 320) hZc (by decide +kernel) (by decide +kernel) rfl (by omega) (by rw [hsc]; exact hc 27 rfl) rfl rfl rfl (by rw [kc]; decide) (by rw [nc]; decide) (fun Xd cd hZd hsd hkd hnd => ?_)
  rw [hsc] at hsd
  refine hw_putref (idx := 37) (ci := 7) (j := 8) (y := none) hZd hin (by decide +kernel) (by decide +kernel) (by rw [hsd]; rfl) rfl (by rw [hsd]; exact sne rfl) (fun Xe hZe hse hke hne => ?_)
  rw [hsd] at hse
  have ke : xk Xe = 8 := by omega
  have ne : xn Xe = 2464 := by omega
  refine zgo (fun pc => Nat.beq pc 71) 200 hZe.1 zr0 rfl ?_
  refine hw_newI (q := 28) (N := 320) hZe (by decide +kernel) (by decide +kernel) rfl (by omega) (by rw [hse]; exact hc 28 rfl) rfl rfl rfl (by rw [ke]; decide) (by rw [ne]; decide) (fun Xf cf hZf hsf hkf hnf => ?_)
  rw [hse] at hsf
  refine hw_putref (idx := 40) (ci := 7) (j := 9) (y := none) hZf hin (by decide +kernel) (by decide +kernel) (by rw [hsf]; rfl) rfl (by rw [hsf]; exact sne rfl) (fun Xg hZg hsg hkg hng => ?_)
  rw [hsf] at hsg
  have kg : xk Xg = 9 := by omega
  have ng : xn Xg = 2784 := by omega
  refine zgo (fun pc => Nat.beq pc 79) 200 hZg.1 zr0 rfl ?_
  refine hw_newI (q := 29) (N := 12) hZg (by decide +kernel) (by decide +kernel) rfl (by omega) (by rw [hsg]; exact hc 29 rfl) rfl rfl rfl (by rw [kg]; decide) (by rw [ng]; decide) (fun Xh ch hZh hsh' hkh hnh => ?_)
  rw [hsg] at hsh'
  refine hw_putref (idx := 43) (ci := 7) (j := 10) (y := none) hZh hin (by decide +kernel) (by decide +kernel) (by rw [hsh']; rfl) rfl (by rw [hsh']; exact sne rfl) (fun Xi hZi hsi hki hni => ?_)
  rw [hsh'] at hsi
  refine zgo (fun pc => Nat.beq pc 86) 200 hZi.1 zr0 rfl ?_
  refine hw_putref (idx := 46) (ci := 7) (j := 0) (y := none) hZi hin (by decide +kernel) (by decide +kernel) (by rw [hsi]; rfl) rfl (by rw [hsi]; exact h2) (fun Xj hZj hsj hkj hnj => ?_)
  rw [hsi] at hsj
  refine zgo (fun pc => Nat.beq pc 91) 200 hZj.1 zr0 rfl ?_
  refine hw_putref (idx := 50) (ci := 7) (j := 1) (y := none) hZj hin (by decide +kernel) (by decide +kernel) (by rw [hsj]; rfl) rfl (by rw [hsj]; exact h8) (fun Xk hZk hsk hkk hnk => ?_)
  rw [hsj] at hsk
  refine zgo (fun pc => Nat.beq pc 96) 200 hZk.1 zr0 rfl ?_
  refine hw_putref (idx := 54) (ci := 7) (j := 2) (y := none) hZk hin (by decide +kernel) (by decide +kernel) (by rw [hsk]; rfl) rfl (by rw [hsk]; exact h11) (fun Xl hZl hsl hkl hnl => ?_)
  rw [hsk] at hsl
  refine zgo (fun pc => Nat.beq pc 102) 200 hZl.1 zr0 rfl ?_
  have keep : ∀ k, (k < 15 ∨ 21 < k ∧ k < 26 ∨ 29 < k) → xsh Xl k = sh k := fun k a => by
    rw [hsl]
    iterate 30 (first | rw [zsu_n (by omega)] | skip)
  refine loop 6 0 rfl Xl _ _ _ hZl (by omega) (by omega) ⟨by rw [hsl]; rfl, ⟨c1, _, by rw [hsl]; rfl, fun i hi => by omega⟩, fun i hi => by omega, fun k a1 a2 => (keep k (by omega)).trans (hc k (by simp; omega)), ⟨⟨by rw [hsl]; rfl, c6, by rw [hsl]; rfl⟩, by rw [hsl]; rfl, c9, by rw [hsl]; rfl⟩, ⟨⟨cb, by rw [hsl]; rfl⟩, ⟨cd, by rw [hsl]; rfl⟩, ⟨cf, by rw [hsl]; rfl⟩, ch, by rw [hsl]; rfl⟩, fun k hk => keep k (by omega)⟩ (fun k a1 a2 => (keep k (by omega)).trans (hc k (by simp; omega))) ⟨c3, by rw [hsl]; rfl⟩ ⟨fun i hi => by omega, fun j => ⟨rfl, rfl⟩, rfl, fun k hk => ⟨?_, ?_, ?_⟩⟩
  · rw [zu_r (by omega), zu_r (by omega), zfz_r (by omega), zu_r (by omega), zu_r (by omega), zfz_r (by omega)]
  · rw [zfz_r (by omega), zfz_r (by omega), zfz_r (by omega), zfz_r (by omega)]
  · rw [zjz_r (by omega), zjz_r (by omega)]
