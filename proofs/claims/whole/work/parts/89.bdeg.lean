/-! Tower: buildDegree, the walk -/
theorem toN_bit {f : Nat → Bool} (h : ∀ q, 12 ≤ q → f q = false) (q : Nat) : (toN f).testBit q = f q := by
  unfold toN
  rw [xorN_bit]
  by_cases hq : q < 12
  · rw [xs_one hq]
    · cases hf : f q
      · rw [if_neg (by decide), Nat.zero_testBit]
      · rw [if_pos rfl, Nat.testBit_two_pow_self]
    · intro i hi hne
      cases f i
      · rw [if_neg (by decide), Nat.zero_testBit]
      · rw [if_pos rfl, Nat.testBit_two_pow_of_ne hne]
  · rw [h q (by omega)]
    refine xs_zero' fun i hi => ?_
    cases f i
    · rw [if_neg (by decide), Nat.zero_testBit]
    · rw [if_pos rfl, Nat.testBit_two_pow_of_ne (by omega)]
theorem toN_lt (f : Nat → Bool) : toN f < 4096 := xorN_lt (m := 12) (fun e he => by
  split
  · exact Nat.pow_lt_pow_right (by decide) he
  · decide)
/-- the first bits of a row, as a number -/
theorem bw_toN {J : zJi} {c C g : Nat} (hg : g < C) {f : Nat → Bool} (e : rq J c 5 g = f) (h : ∀ q, 12 ≤ q → f q = false) : bw J c 5 C (g : Int) 0 % 2147483648 = toN f := by
  apply Nat.eq_of_testBit_eq
  intro q
  rw [toN_bit h, show (2147483648 : Nat) = 2 ^ 31 from rfl, Nat.testBit_mod_two_pow]
  by_cases hq : q < 31
  · rw [decide_eq_true hq, Bool.true_and, ← e, ← rb_rq hg]
    unfold rb
    rw [show q / 64 = 0 by omega, show q % 64 = q by omega]
    rfl
  · rw [decide_eq_false hq, Bool.false_and, h q (by omega)]
theorem wid_5 {p : Nat} (h : p ≤ 320) : 1 ≤ wid p ∧ wid p ≤ 5 ∧ p ≤ 64 * wid p := by
  unfold wid
  omega
theorem wid_mono {p q : Nat} (h : p ≤ q) : wid p ≤ wid q := by
  unfold wid
  omega
theorem bR.new {F : zFi} {J : zJi} {k c m W : Nat} (h1 : F k 1 = (W : Int)) (h2 : F k 2 = 0) (hW : 1 ≤ W ∧ W ≤ 5) (hm : m ≤ 1000) (hJ : ∀ j, J c j < 18446744073709551616) : bR F J k c m W 0 := ⟨h1, h2, by omega, hW.1, hW.2, hm, hJ⟩
theorem c_X7_buildDegree (l : Launch) (D : va_G) (sh : Nat → Option zS) (hs : zWT sh) (F I : zFi) (J : zJi) {N S : Nat → Nat} (hT : bT I 3 4 N S) (h30 : ∀ n, 0 ≤ bsz S n ∧ bsz S n ≤ 30) (h61 : ∀ n, bst S n + (bsz S n).toNat ≤ 61) {GP : Nat → Nat → Nat} (hsqT : sqT I 9 GP) {A : Nat → Nat → Nat} {n : Nat} (hn : F 11 3 = (n : Int)) (hn2 : n ≤ 12) (hA : spA I 13 A) (hdg : ∀ e, e < 12 → zi32 (I 12 e))
    {G : Nat → Nat} {d : Nat → Nat → Nat} {gb : Nat → Nat → Nat → Bool} (hM : TM F I J G d gb) (hJB : JB J) {t : Nat} (ht : t ≤ 14) (DI : DIx) (hinit : ∀ B bl, B ≤ 12 → elL (sod (I 12) t n) B bl → DI 0 G d gb B bl) (hok : ∀ s G d gb B bl, s < 6 → DI s G d gb B bl → OKs S N GP A n t s G d gb B bl) (hstep : DIstep S N GP A n t DI) :
    Cn l D yX7_buildDegree wsX7_buildDegree mX7_buildDegree.2.2.2.2 sh [.inr (.inr (some 15)), .inl (t : Int)] F I J (fun v F' I' J' => v = none ∧ (BF F F' ∧ BF I I' ∧ BF J J') ∧ JB J' ∧ ∃ G' d' gb' B bl, TM F' I' J' G' d' gb' ∧ DI 6 G' d' gb' B bl) := by
  obtain ⟨hs, hb, hsq, hsp, ⟨hva, hso⟩, hkr, ⟨hpi, hca, hta, hke⟩, ⟨cA, E, fk, hkn, hfk⟩, hfl⟩ := hs
  obtain ⟨hp, cA2, E2, ff, hflo, hfs⟩ := id hs
  have hfs : ∀ s, s < 6 → ff s = some (32 + 4 * s) := hfs
  obtain ⟨cPi, hpi2⟩ := id hpi
  refine zmet (M := mX7_buildDegree) rfl rfl rfl kX7_buildDegree (Nat.le_of_ble_eq_true rfl) (fun X hX hR hl0 hD hsh => ?_)
  subst hl0 hD hsh
  have loop : ∀ m s, s + m = 6 → ∀ F1 I1 J1 G d gb B bl Wb l5 l6 l7 l8, (BF F F1 ∧ BF I I1 ∧ BF J J1) → JB J1 → TM F1 I1 J1 G d gb → DI s G d gb B bl → Wb ≤ wid (gpl S G d t s) → bR F1 J1 (22 + 2 * ((s + 1) % 2)) (23 + 2 * ((s + 1) % 2)) 900 Wb B → (∀ j, j < B → rq J1 (23 + 2 * ((s + 1) % 2)) Wb j = bl j) →
      HW X 24 [some (.inr (.inr (some 15))), some (.inl (t : Int)), some (.inr (.inr (some (22 + 2 * ((s + 1) % 2))))), some (.inr (.inr (loR s))), some (.inl (s : Int)), l5, l6, l7, l8] [] F1 I1 J1 := by
    intro m
    induction m with
    | zero =>
      intro s hsm F1 I1 J1 G d gb B bl Wb l5 l6 l7 l8 hbf hjb hM hDI hWb hB hbl
      refine zgo (fun pc => Nat.beq pc 24) 200 hX hR rfl ?_
      refine And.intro (fun c1 => ?_) (fun c1 => by omega)
      exact And.intro rfl ⟨hbf, hjb, G, d, gb, B, bl, hM, by rw [show s = 6 by omega] at hDI; exact hDI⟩
    | succ m ih =>
      intro s hsm F1 I1 J1 G d gb B bl Wb l5 l6 l7 l8 hbf hjb hM hDI hWb hB hbl
      have hs6 : s < 6 := by omega
      obtain ⟨⟨ok1, ok2, ok3⟩, ok4, ok5, ok6, ok7, ok8, ok9, ok10⟩ := hok s G d gb B bl hs6 hDI
      obtain ⟨f1, f2⟩ := hfl s hs6
      obtain ⟨m1, m2, m3⟩ := hM s hs6
      have hkh := hkr (s % 2) (by omega)
      have hkb := hkr ((s + 1) % 2) (by omega)
      have hz : zrem (s : Int) 2 = ((s % 2 : Nat) : Int) := zrem_eq (d := 2) (by omega) (by decide) (by decide)
      have hT1 : bT I1 3 4 N S := bT_of hT (hbf.2.1 3 (by omega)).symm (hbf.2.1 4 (by omega)).symm
      have hsqT1 : sqT I1 9 GP := sqT_of hsqT (hbf.2.1 9 (by omega)).symm
      have wgp := wid_5 (p := gpl S G d t s) (by omega)
      have wpl := wid_5 (p := flP S (d s) t (G s)) (by omega)
      have hJh : ∀ j, J1 (23 + 2 * (s % 2)) j < 18446744073709551616 := fun j => by
        rcases Nat.mod_two_eq_zero_or_one s with e | e
        · rw [e]; exact (hjb j).2.2.1
        · rw [e]; exact (hjb j).2.2.2
      -- behind carryOver
      have h129 : ∀ F2 I2 : zFi, (BF F1 F2 ∧ BF I1 I2) → (∀ a, 31 < a → F2 a = F1 a) → (∀ a, 31 < a → I2 a = I1 a) → F2 (22 + 2 * ((s + 1) % 2)) = F1 (22 + 2 * ((s + 1) % 2)) → ∀ F3 I3 J3 C K, coR F2 I2 J1 F3 I3 J3 18 20 (22 + 2 * (s % 2)) 26 27 28 19 21 (23 + 2 * (s % 2)) (wid (gpl S G d t s)) (wid (flP S (d s) t (G s))) (gpl S G d t s) C K (flP S (d s) t (G s)) (dvS S N GP A n G d gb t s) →
          HW X 129 [some (.inr (.inr (some 15))), some (.inl (t : Int)), some (.inr (.inr (some (22 + 2 * ((s + 1) % 2))))), some (.inr (.inr (loR s))), some (.inl (s : Int)), some (.inr (.inr (some (32 + 4 * s)))), some (.inr (.inr (some (22 + 2 * (s % 2))))), some (.inl (gpl S G d t s : Int)), some (.inl (flP S (d s) t (G s) : Int))] [] F3 I3 J3 := by
        intro F2 I2 hb2 hF2 hI2 hFb F3 I3 J3 C K hco
        obtain ⟨⟨a1, a2, a3⟩, ⟨b1, b2, b3⟩, ce⟩ := hco
        have hB3 : bR F3 J3 (22 + 2 * ((s + 1) % 2)) (23 + 2 * ((s + 1) % 2)) 900 Wb B := hB.frame ((a1 _ (by omega) (by omega) (by omega)).trans hFb) (a3 _ (by omega) (by omega) (by omega))
        have hG3 : bR F3 J3 (34 + 4 * s) (35 + 4 * s) 360 5 (G s) := m2.frame ((a1 _ (by omega) (by omega) (by omega)).trans (hF2 _ (by omega))) (a3 _ (by omega) (by omega) (by omega))
        have hf3 : F3 (32 + 4 * s) 3 = (G s : Int) := by rw [a1 _ (by omega) (by omega) (by omega), hF2 _ (by omega)]; exact m1.1
        have ebl : ∀ j, j < B → rq J3 (23 + 2 * ((s + 1) % 2)) Wb j = bl j := fun j hj => by
          rw [← hbl j hj]
          funext q
          exact rq_of (a3 _ (by omega) (by omega) (by omega)) j q
        have evap : ∀ i, i < C + B → vap C (rq J3 19 (wid (gpl S G d t s))) (rq J3 (23 + 2 * ((s + 1) % 2)) Wb) i = vap C (rq J3 19 (wid (gpl S G d t s))) bl i := fun i hi => by
          unfold vap
          split
          · rfl
          · exact ebl _ (by omega)
        have hsp : ∀ x, Spn (C + B) (vap C (rq J3 19 (wid (gpl S G d t s))) (rq J3 (23 + 2 * ((s + 1) % 2)) Wb)) x → Spn (C + B) (vap C (rq J3 19 (wid (gpl S G d t s))) bl) x := fun x hx => spn_ext hx (Nat.le_refl _) (fun i hi => (evap i hi).symm)
        refine zgo (fun pc => Nat.beq pc 24) 200 hX hR rfl ?_
        refine qX7_buildDegree_126 hX (c_X7_cover (xl X) (xD X) (xsh X) hs hva hso hpi f1 f2 hkb ⟨by omega, by omega, by omega, by omega, by omega, by omega⟩ ⟨by omega, by omega, by omega, by omega, by omega, by omega⟩ ⟨by omega, by omega, by omega, by omega, by omega⟩ F3 I3 J3 b1 b2 hB3 hWb hG3 hf3 (gp := gpl S G d t s) (by omega) ht ce.1 (fun k hk q hq => by rw [ebl k hk]; exact ok7 k hk q hq)
          (fun m w w1 w2 w3 => ok10 C K _ _ _ ce.flr m w w1 w2 (fun i hi => hsp _ (w3 i hi)))) hs.1 (fun v F4 I4 J4 hv' => ?_)
        obtain ⟨rfl, m', ⟨c1, c2, c3⟩, ⟨c4, c5, c6, c7⟩, c8, c9, c10, ⟨c11, c12⟩, c13, c14⟩ := hv'
        have lim := ok10 C K _ _ _ ce.flr m' (rq J4 19 (wid (gpl S G d t s))) c9.ind c10 (fun i hi => hsp _ (c13 i hi))
        have hDI2 := hstep s G d gb B bl hs6 hDI C K _ _ _ ce.flr m' (rq J4 19 (wid (gpl S G d t s))) c9.ind c10 (fun i hi => hsp _ (c13 i hi)) (fun j hj => by rw [← ebl j hj]; exact c14 j hj)
          (fun s' a => if s' = s then (if a < G s then gb s a else rq J4 19 (wid (gpl S G d t s)) (C + (a - G s))) else gb s' a) (fun s' e => by funext a; exact if_neg e) (fun a ha => by rw [if_pos rfl, if_pos ha]) (fun i hi => by rw [if_pos rfl, if_neg (by omega), show G s + i - G s = i by omega])
        have hup : flP S (fup d s (fun j => if G s ≤ j ∧ j < G s + m' then t else d s j) s) t (fup G s (G s + m') s) = flP S (fun j => if G s ≤ j ∧ j < G s + m' then t else d s j) t (G s + m') := by
          unfold fup
          rw [if_pos rfl, if_pos rfl]
        have hwid : flP S (d s) t (G s) ≤ gpl S (fup G s (G s + m')) (fup d s (fun j => if G s ≤ j ∧ j < G s + m' then t else d s j)) t (s + 1) := by
          rw [show gpl S (fup G s (G s + m')) (fup d s (fun j => if G s ≤ j ∧ j < G s + m' then t else d s j)) t (s + 1) = flP S (fup d s (fun j => if G s ≤ j ∧ j < G s + m' then t else d s j) s) t (fup G s (G s + m') s) from rfl, hup]
          refine Nat.le_trans ?_ (flP_mono S _ t (G s) (G s + m') (by omega))
          refine Nat.le_of_eq (ns_congr fun i hi => ?_)
          dsimp only
          rw [if_neg (fun z => absurd z.1 (Nat.not_le_of_lt hi))]
        have eind : (s + 1 + 1) % 2 = s % 2 := by omega
        have h9 := ih (s + 1) (by omega) F4 I4 J4 _ _ _ K (rq J3 (23 + 2 * (s % 2)) (wid (flP S (d s) t (G s)))) (wid (flP S (d s) t (G s))) (some (.inr (.inr (some (32 + 4 * s))))) (some (.inr (.inr (some (22 + 2 * (s % 2)))))) (some (.inl (gpl S G d t s : Int))) (some (.inl (flP S (d s) t (G s) : Int)))
          ⟨fun a ha => ?_, fun a ha => ?_, fun a ha => ?_⟩ (fun j => ?_) (fun s' hs' => ?_) hDI2 (wid_mono hwid) (by rw [eind]; exact b3.frame (c1 _ (by omega) (by omega) (by omega) (by omega)) (c3 _ (by omega) (by omega) (by omega))) (fun j hj => by
            rw [eind]
            funext q
            exact rq_of (c3 _ (by omega) (by omega) (by omega)) j q)
        · rw [eind] at h9
          exact h9
        · rw [c1 a (by omega) (by omega) (by omega) (by omega), a1 a (by omega) (by omega) (by omega), ← hb2.1 a ha]
          exact hbf.1 a ha
        · rw [c2 a (by omega) (by omega), a2 a (by omega) (by omega) (by omega), ← hb2.2 a ha]
          exact hbf.2.1 a ha
        · rw [c3 a (by omega) (by omega) (by omega), a3 a (by omega) (by omega) (by omega)]
          exact hbf.2.2 a ha
        · have hx : ∀ i, i < 2 → ∀ j, J4 (23 + 2 * i) j < 18446744073709551616 := fun i hi j => by
            rw [c3 _ (by omega) (by omega) (by omega)]
            by_cases e : i = s % 2
            · rw [e]; exact b3.lt j
            · rw [a3 _ (by omega) (by omega) (by omega)]
              rcases (show i = 0 ∨ i = 1 by omega) with e | e
              · rw [e]; exact (hjb j).2.2.1
              · rw [e]; exact (hjb j).2.2.2
          exact ⟨c4.lt j, c5.lt j, hx 0 (by decide) j, hx 1 (by decide) j⟩
        · by_cases e : s' = s
          · subst e
            unfold fup
            rw [if_pos rfl, if_pos rfl]
            refine ⟨⟨c7, lim.2, fun j hj => ?_⟩, c6, fun a ha => ?_⟩
            · rw [c8 j]
              dsimp only
              by_cases g : G s' ≤ j ∧ j < G s' + m'
              · rw [if_pos g, if_pos g]
                exact ⟨rfl, ht⟩
              · rw [if_neg g, if_neg g, a2 _ (by omega) (by omega) (by omega), hI2 _ (by omega)]
                exact m1.2.2 j hj
            · rw [if_pos rfl]
              rcases Nat.lt_or_ge a (G s') with g | g
              · rw [if_pos g, c11 a g, ← m3 a g]
                funext q
                exact rq_of (a3 _ (by omega) (by omega) (by omega)) a q
              · rw [if_neg (by omega), ← c12 (a - G s') (by omega), show G s' + (a - G s') = a by omega]
          · obtain ⟨y1, y2, y3⟩ := hM s' hs'
            unfold fup
            rw [if_neg e, if_neg e]
            refine ⟨y1.frame ?_ ?_, y2.frame ?_ ?_, fun a ha => ?_⟩
            · rw [c1 _ (by omega) (by omega) (by omega) (by omega), a1 _ (by omega) (by omega) (by omega), hF2 _ (by omega)]
            · rw [c2 _ (by omega) (by omega), a2 _ (by omega) (by omega) (by omega), hI2 _ (by omega)]
            · rw [c1 _ (by omega) (by omega) (by omega) (by omega), a1 _ (by omega) (by omega) (by omega), hF2 _ (by omega)]
            · rw [c3 _ (by omega) (by omega) (by omega), a3 _ (by omega) (by omega) (by omega)]
            · rw [if_neg e, ← y3 a ha]
              funext q
              exact rq_of ((c3 _ (by omega) (by omega) (by omega)).trans (a3 _ (by omega) (by omega) (by omega))) a q
      have h65 : HW X 65 [some (.inr (.inr (some 15))), some (.inl (t : Int)), some (.inr (.inr (some (22 + 2 * ((s + 1) % 2))))), some (.inr (.inr (loR s))), some (.inl (s : Int)), some (.inr (.inr (some (32 + 4 * s)))), some (.inr (.inr (some (22 + 2 * (s % 2))))), l7, l8] [.inl (gpl S G d t s : Int)] F1 I1 J1 := by
        refine zgo (fun pc => Nat.beq pc 24 || Nat.beq pc 129) 200 hX hR rfl ?_
        refine qX7_buildDegree_69 hX (c_X3_places (xl X) (xD X) (xsh X) f1 hb F1 I1 J1 hT1 h30 m1 (t := (t : Int)) ⟨by omega, by omega⟩) f1.1 (fun v F2 I2 J2 hv' => ?_)
        obtain ⟨rfl, rfl, rfl, rfl⟩ := hv'
        refine Exists.intro _ ⟨hs.1, ?_⟩
        refine qX7_buildDegree_114 hX (c_X1_restart (xl X) (xD X) (xsh X) hva F2 I2 J2 (p := gpl S G d t s) (by omega)) hva.1 (fun v F3 I3 J3 hv' => ?_)
        obtain ⟨rfl, rfl, rfl, rfl⟩ := hv'
        refine Exists.intro _ ⟨hs.1, ?_⟩
        refine qX7_buildDegree_114 hX (c_X1_restart (xl X) (xD X) (xsh X) hso _ I3 J3 (p := flP S (d s) t (G s)) (by omega)) hso.1 (fun v F4 I4 J4 hv' => ?_)
        obtain ⟨rfl, rfl, rfl, rfl⟩ := hv'
        refine qX7_buildDegree_114 hX (c_X1_restart (xl X) (xD X) (xsh X) hkh _ I4 J4 (p := flP S (d s) t (G s)) (by omega)) hkh.1 (fun v F5 I5 J5 hv' => ?_)
        obtain ⟨rfl, rfl, rfl, rfl⟩ := hv'
        refine Exists.intro _ ⟨hs.1, ?_⟩
        refine Exists.intro _ ⟨hs.1, ?_⟩
        refine Exists.intro _ ⟨hpi2, ?_⟩
        refine qX7_buildDegree_87 hX (c_J9_min (xl X) (xD X) (xsh X) _ I5 J5 (a := (gpl S G d t s : Int)) (b := 320) ⟨by omega, by omega⟩ ⟨by omega, by omega⟩) (fun v F6 I6 J6 hv' => ?_)
        obtain ⟨rfl, rfl, rfl, rfl⟩ := hv'
        rw [if_pos (show (gpl S G d t s : Int) ≤ 320 by omega)]
        refine qX7_buildDegree_116 hX (c_J7_fill4 (xl X) (xD X) (xsh X) hpi2 (by decide) _ I6 J6 (lo := 0) (hi := gpl S G d t s) (-1) (Nat.zero_le _) (by omega)) (fun v F7 I7 J7 hv' => ?_)
        obtain ⟨rfl, rfl, rfl, rfl⟩ := hv'
        have hFa : ∀ a, a ≠ 18 → a ≠ 20 → a ≠ 22 + 2 * (s % 2) → zu (zu (zu (zu (zu (zu F2 18 1 (wid (gpl S G d t s) : Int)) 18 2 0) 20 1 (wid (flP S (d s) t (G s)) : Int)) 20 2 0) (22 + 2 * (s % 2)) 1 (wid (flP S (d s) t (G s)) : Int)) (22 + 2 * (s % 2)) 2 0 a = F2 a := fun a g1 g2 g3 => by rw [zu_r g3, zu_r g3, zu_r g2, zu_r g2, zu_r g1, zu_r g1]
        have hIa : ∀ a, a ≠ 26 → zfill I6 26 0 (gpl S G d t s) (-1) a = I6 a := fun a g => zfill_r g
        have hva2 : bR (zu (zu (zu (zu (zu (zu F2 18 1 (wid (gpl S G d t s) : Int)) 18 2 0) 20 1 (wid (flP S (d s) t (G s)) : Int)) 20 2 0) (22 + 2 * (s % 2)) 1 (wid (flP S (d s) t (G s)) : Int)) (22 + 2 * (s % 2)) 2 0) J7 18 19 905 (wid (gpl S G d t s)) 0 := bR.new (by rw [zu_r (by omega), zu_r (by omega), zu_r (by omega), zu_r (by omega), zu_n (by omega), zu_s]) (by rw [zu_r (by omega), zu_r (by omega), zu_r (by omega), zu_r (by omega), zu_s]) ⟨wgp.1, wgp.2.1⟩ (by decide) (fun j => (hjb j).1)
        have hso2 : bR (zu (zu (zu (zu (zu (zu F2 18 1 (wid (gpl S G d t s) : Int)) 18 2 0) 20 1 (wid (flP S (d s) t (G s)) : Int)) 20 2 0) (22 + 2 * (s % 2)) 1 (wid (flP S (d s) t (G s)) : Int)) (22 + 2 * (s % 2)) 2 0) J7 20 21 905 (wid (flP S (d s) t (G s))) 0 := bR.new (by rw [zu_r (by omega), zu_r (by omega), zu_n (by omega), zu_s]) (by rw [zu_r (by omega), zu_r (by omega), zu_s]) ⟨wpl.1, wpl.2.1⟩ (by decide) (fun j => (hjb j).2.1)
        have hkh2 : bR (zu (zu (zu (zu (zu (zu F2 18 1 (wid (gpl S G d t s) : Int)) 18 2 0) 20 1 (wid (flP S (d s) t (G s)) : Int)) 20 2 0) (22 + 2 * (s % 2)) 1 (wid (flP S (d s) t (G s)) : Int)) (22 + 2 * (s % 2)) 2 0) J7 (22 + 2 * (s % 2)) (23 + 2 * (s % 2)) 900 (wid (flP S (d s) t (G s))) 0 := bR.new (by rw [zu_n (by omega), zu_s]) (by rw [zu_s]) ⟨wpl.1, wpl.2.1⟩ (by decide) hJh
        have hgo2 := m2.frame (J' := J7) (hFa (34 + 4 * s) (by omega) (by omega) (by omega)) rfl
        have hfl2 := m1.frame (hFa (32 + 4 * s) (by omega) (by omega) (by omega)) (hIa (33 + 4 * s) (by omega))
        have hT2 : bT (zfill I6 26 0 (gpl S G d t s) (-1)) 3 4 N S := bT_of hT1 (hIa 3 (by omega)) (hIa 4 (by omega))
        have hpv2 : ∀ l, l < gpl S G d t s → zfill I6 26 0 (gpl S G d t s) (-1) 26 l = -1 := fun l hl => by
          unfold zfill
          rw [if_pos ⟨rfl, Nat.zero_le _, hl⟩]
        have hbf2 : BF F2 (zu (zu (zu (zu (zu (zu F2 18 1 (wid (gpl S G d t s) : Int)) 18 2 0) 20 1 (wid (flP S (d s) t (G s)) : Int)) 20 2 0) (22 + 2 * (s % 2)) 1 (wid (flP S (d s) t (G s)) : Int)) (22 + 2 * (s % 2)) 2 0) ∧ BF I6 (zfill I6 26 0 (gpl S G d t s) (-1)) := ⟨fun a ha => (hFa a (by omega) (by omega) (by omega)).symm, fun a ha => (hIa a (by omega)).symm⟩
        rcases s with _ | s'
        · have hn3 := (hFa 11 (by omega) (by omega) (by omega)).trans (hbf.1 11 (by omega)).symm
          have hgb : ∀ g, g < G 0 → bw J7 (35 + 4 * 0) 5 (G 0) (g : Int) 0 % 2147483648 = toN (gb 0 g) := fun g hg => bw_toN hg (m3 g hg) (fun q hq => ok8 g hg q hq)
          refine qX7_buildDegree_122 hX (c_X7_carryOver0 (xl X) (xD X) (xsh X) hs hva hso hpi hca hta hb f1 f2 hkh hsp ⟨by omega, by omega, by omega, by omega, by omega, by omega⟩ ⟨by omega, by omega, by omega, by omega, by omega, by omega⟩ ⟨by omega, by omega, by omega, by omega, by omega, by omega⟩ ⟨⟨by omega, by omega, by omega⟩, ⟨by omega, by omega, by omega⟩, ⟨by omega, by omega, by omega⟩, ⟨by omega, by omega, by omega⟩, ⟨by omega, by omega, by omega⟩⟩
            _ _ J7 hT2 h30 h61 hfl2 (by rw [hn3]; exact hn) hn2 (spA_of hA ((hIa 13 (by omega)).trans (hbf.2.1 13 (by omega)).symm)) hva2 hso2 hkh2 hgo2 ht hpv2 (by omega) wgp.2.2 wpl.2.2 (by omega) (dv := dvS S N GP A n G d gb t 0) ok4 ok5 ok6 (fun g hg => by rw [hgb g hg]; exact toN_lt _) (fun g hg k hk q => by rw [hgb g hg]; exact dvT_at hk (G 0) hg q)) hs.1 (fun v F8 I8 J8 hv' => ?_)
          obtain ⟨rfl, C, K, hco⟩ := hv'
          exact h129 _ _ hbf2 (fun a ha => hFa a (by omega) (by omega) (by omega)) (fun a ha => hIa a (by omega)) (hFa _ (by omega) (by omega) (by omega)) F8 I8 J8 C K hco
        · obtain ⟨e1, e2⟩ := hfl s' (by omega)
          obtain ⟨y1, y2, y3⟩ := hM s' (by omega)
          refine qX7_buildDegree_122 hX (c_X7_carryOver (xl X) (xD X) (xsh X) hs hva hso hpi hca hta hb hsq f1 f2 hkh e1 ⟨by omega, by omega, by omega, by omega, by omega, by omega⟩ ⟨by omega, by omega, by omega, by omega, by omega, by omega⟩ ⟨by omega, by omega, by omega, by omega, by omega, by omega⟩ ⟨⟨by omega, by omega, by omega⟩, ⟨by omega, by omega, by omega⟩, ⟨by omega, by omega, by omega⟩, ⟨by omega, by omega, by omega⟩, ⟨by omega, by omega, by omega⟩, ⟨by omega, by omega, by omega⟩⟩
            _ _ J7 hT2 h30 h61 (sqT_of hsqT1 (hIa 9 (by omega))) hfl2 (y1.frame (hFa (32 + 4 * s') (by omega) (by omega) (by omega)) (hIa (33 + 4 * s') (by omega))) hva2 hso2 hkh2 hgo2 ht hpv2 (by omega) wgp.2.2 wpl.2.2 (by omega) (dv := dvS S N GP A n G d gb t (s' + 1)) ok4 ok5 ok6 (fun g hg => ok9 g hg) (fun g hg k hk q => by rw [m3 g hg]; exact dvT_at hk (G (s' + 1)) hg q) (fun g hg x hx => by rw [m3 g hg]; exact ok8 g hg x hx)) hs.1 (fun v F8 I8 J8 hv' => ?_)
          obtain ⟨rfl, C, K, hco⟩ := hv'
          exact h129 _ _ hbf2 (fun a ha => hFa a (by omega) (by omega) (by omega)) (fun a ha => hIa a (by omega)) (hFa _ (by omega) (by omega) (by omega)) F8 I8 J8 C K hco
      refine zgo (fun pc => Nat.beq pc 24 || Nat.beq pc 65) 200 hX hR rfl ?_
      refine And.intro (fun c1 => by omega) (fun c1 => ?_)
      refine Exists.intro _ ⟨hs.1, ?_⟩
      refine Exists.intro _ ⟨_, _, _, s, hflo, rfl, hs6, ?_⟩
      rw [hfs s hs6]
      refine Exists.intro _ ⟨hs.1, ?_⟩
      refine And.intro (by omega) ?_
      rw [hz]
      refine Exists.intro _ ⟨_, _, _, s % 2, hkn, rfl, by omega, ?_⟩
      rw [hfk (s % 2) (by omega)]
      rcases s with _ | s'
      · exact h65
      · refine qX7_buildDegree_69 hX (c_X3_places (xl X) (xD X) (xsh X) (hfl s' (by omega)).1 hb F1 I1 J1 hT1 h30 (hM s' (by omega)).1 (t := (t : Int)) ⟨by omega, by omega⟩) (hfl s' (by omega)).1.1 (fun v F2 I2 J2 hv' => ?_)
        obtain ⟨rfl, rfl, rfl, rfl⟩ := hv'
        exact h65
  have hk1 := hkr 1 (by decide)
  have hx12 : sod (I 12) t n < 4096 := Nat.lt_of_lt_of_le (sod_lt (I 12) t n) (Nat.pow_le_pow_right (by decide) hn2)
  obtain ⟨u1, u2⟩ := lel_ok J 25 (sod (I 12) t n) (fun j => (hJB j).2.2.2) 12 (by decide)
  obtain ⟨v1, v2, v3⟩ := lel_rows (J := J) (c := 25) (x := sod (I 12) t n) 12 (by decide)
  have hFa : ∀ a, a ≠ 24 → zu (zu F 24 1 1) 24 2 ((lel J 25 (sod (I 12) t n) 12).2 : Int) a = F a := fun a g => by rw [zu_r g, zu_r g]
  have h0 := loop 6 0 (by decide) (zu (zu F 24 1 1) 24 2 ((lel J 25 (sod (I 12) t n) 12).2 : Int)) I (lel J 25 (sod (I 12) t n) 12).1 G d gb (lel J 25 (sod (I 12) t n) 12).2 (rq (lel J 25 (sod (I 12) t n) 12).1 25 1) 1 none none none none
    ⟨fun a ha => (hFa a (by omega)).symm, fun _ _ => rfl, fun a ha => (v3 a (by omega)).symm⟩ (fun j => ⟨by rw [v3 19 (by decide)]; exact (hJB j).1, by rw [v3 21 (by decide)]; exact (hJB j).2.1, by rw [v3 23 (by decide)]; exact (hJB j).2.2.1, u2 j⟩)
    (fun s hs6 => by
      obtain ⟨y1, y2, y3⟩ := hM s hs6
      refine ⟨y1.frame (hFa _ (by omega)) rfl, y2.frame (hFa _ (by omega)) (v3 _ (by omega)), fun a ha => ?_⟩
      rw [← y3 a ha]
      funext q
      exact rq_of (v3 _ (by omega)) a q)
    (hinit _ _ u1 ⟨v1, v2⟩) (show 1 ≤ wid 12 by decide) ⟨by rw [zu_n (by omega), zu_s]; rfl, zu_s _ _ _ _, by omega, by decide, by decide, by decide, u2⟩ (fun _ _ => rfl)
  refine zgo (fun pc => Nat.beq pc 24) 200 hX hR rfl ?_
  refine Exists.intro _ ⟨hs.1, ?_⟩
  refine Exists.intro _ ⟨_, _, _, 1, hkn, rfl, by decide, ?_⟩
  rw [hfk 1 (by decide)]
  refine Exists.intro _ ⟨hs.1, ?_⟩
  refine qX7_buildDegree_105 hX (c_X5_ofDegree (xl X) (xD X) (xsh X) hsp F I J hn hn2 (d := (t : Int)) ⟨by omega, by omega⟩ hdg) hsp.1 (fun v F1 I1 J1 hv' => ?_)
  obtain ⟨rfl, rfl, rfl, rfl⟩ := hv'
  refine qX7_buildDegree_110 hX (c_X7_listElements (xl X) (xD X) (xsh X) hk1 F1 I1 J1 (by decide) (fun j => (hJB j).2.2.2) (x := sod (I1 12) t n) (by omega)) (fun v F2 I2 J2 hv' => ?_)
  obtain ⟨rfl, rfl, rfl, rfl⟩ := hv'
  exact h0
