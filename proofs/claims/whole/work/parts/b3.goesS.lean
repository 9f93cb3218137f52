/-! the reference: goes, over a lower floor -/
theorem c_X9_goesS (l : Launch) (D : va_G) (sh : Nat → Option zS) (hs : zWM sh) (F I : zFi) (J : zJi) (hb : mBg I) (hpr : mPr I) {G : Nat → Nat} {d : Nat → Nat → Nat} {gb : Nat → Nat → Nat → Bool} (hM : RTM I J G d gb) (hJ : ∀ j, J 77 j < 18446744073709551616) {s g w t : Nat} (hs5 : s < 5) (hg : g < G (s + 1)) (hw : w < 61) (hwd : d (s + 1) g + dgA w = t) (ht : t ≤ 14) (hP1 : flP aS (d s) (d (s + 1) g) (G s) ≤ 300) (hP2 : flP aS (d s) t (G s) ≤ 300) :
    Cn l D yX9_goes wsX9_goes mX9_goes.2.2.2.2 sh [.inr (.inr (some 60)), .inl ((s + 1 : Nat) : Int), .inl (g : Int), .inl (w : Int), .inl (t : Int)] F I J (fun v F' I' J' => v = none ∧ F' = F ∧ I' = I ∧ (∀ a, a ≠ 77 → J' a = J a) ∧ (∀ j, J' 77 j < 18446744073709551616) ∧
      ∀ p, rq J' 77 10 0 p = (rq J 77 10 0 p ^^ pps (gb (s + 1) g) (fun x => aGP w (chf aS (d s) (d (s + 1) g) (G s) x)) (tgf aS (d s) (d (s + 1) g) t (G s)) 640 (flP aS (d s) (d (s + 1) g) (G s)) p)) := by
  obtain ⟨cA, h71⟩ := hs.a71
  obtain ⟨cB, h72⟩ := hs.a72
  obtain ⟨cC, h73⟩ := hs.a73
  obtain ⟨cD, h61⟩ := hs.a61
  obtain ⟨cE, h67⟩ := hs.a67
  obtain ⟨m1, m2, m3, m4⟩ := hM.1 s (by omega)
  obtain ⟨y1, y2, y3, y4⟩ := hM.1 (s + 1) (by omega)
  obtain ⟨dg1, dg2⟩ := y3 g hg
  generalize hfr : d (s + 1) g = fr at hwd hP1 dg1 dg2 ⊢
  have hfr14 : fr ≤ 14 := dg2
  refine zmet (M := mX9_goes) rfl rfl rfl kX9_goes (Nat.le_of_ble_eq_true rfl) (fun X hX hR' hl hD hsh => ?_)
  subst hl hD hsh
  -- what has been put, of the first x places
  let PP : Nat → Nat → Bool := fun x p => pps (gb (s + 1) g) (fun x => aGP w (chf aS (d s) fr (G s) x)) (tgf aS (d s) fr t (G s)) 640 x p
  have loop : ∀ r m, m + r = G s → ∀ J1 l10 l11 l12 l13 l14, (∀ a, a ≠ 77 → J1 a = J a) → (∀ j, J1 77 j < 18446744073709551616) → (∀ p, rq J1 77 10 0 p = (rq J 77 10 0 p ^^ PP (flP aS (d s) fr m) p)) →
      HW X 99 [some (.inr (.inr (some 60))), some (.inl ((s + 1 : Nat) : Int)), some (.inl (g : Int)), some (.inl (w : Int)), some (.inl (t : Int)), some (.inl ((5 * (100 * (s + 1) + g) : Nat) : Int)), some (.inl (fr : Int)), some (.inl (flP aS (d s) fr m : Int)), some (.inl (flP aS (d s) t m : Int)), some (.inl (m : Int)), l10, l11, l12, l13, l14] [] F I J1 := by
    intro r
    induction r with
    | zero =>
      intro m hm J1 l10 l11 l12 l13 l14 x1 x2 x3
      refine zgo (fun pc => Nat.beq pc 99) 200 hX hR' rfl ?_
      refine Exists.intro _ ⟨hs.o, ?_⟩
      refine Exists.intro _ ⟨_, s, h71, by omega, by omega, ?_⟩
      rw [m1]
      refine And.intro (fun c1 => ?_) (fun c1 => by omega)
      exact And.intro rfl ⟨rfl, rfl, x1, x2, by rw [show m = G s by omega] at x3; exact x3⟩
    | succ r ih =>
      intro m hm J1 l10 l11 l12 l13 l14 x1 x2 x3
      obtain ⟨e1, e2⟩ := m3 m (by omega)
      have hszf := aS_30 ((fr : Int) - d s m)
      have hszt := aS_30 ((t : Int) - d s m)
      have hPf : flP aS (d s) fr (m + 1) = flP aS (d s) fr m + wd fr (d s m) := flP_succ _ _ _
      have hPt : flP aS (d s) t (m + 1) = flP aS (d s) t m + wd t (d s m) := flP_succ _ _ _
      have hmf := flP_mono aS (d s) (fr : Int) (m + 1) (G s) (by omega)
      have hmt := flP_mono aS (d s) (t : Int) (m + 1) (G s) (by omega)
      -- behind the places of generator m
      have h248 : ∀ J2 l11 l12 l13 l14, (∀ a, a ≠ 77 → J2 a = J a) → (∀ j, J2 77 j < 18446744073709551616) → (∀ p, rq J2 77 10 0 p = (rq J 77 10 0 p ^^ PP (flP aS (d s) fr (m + 1)) p)) →
          HW X 248 [some (.inr (.inr (some 60))), some (.inl ((s + 1 : Nat) : Int)), some (.inl (g : Int)), some (.inl (w : Int)), some (.inl (t : Int)), some (.inl ((5 * (100 * (s + 1) + g) : Nat) : Int)), some (.inl (fr : Int)), some (.inl (flP aS (d s) fr m : Int)), some (.inl (flP aS (d s) t m : Int)), some (.inl (m : Int)), some (.inl ((fr : Int) - d s m)), l11, l12, l13, l14] [] F I J2 := by
        intro J2 l11 l12 l13 l14 x1 x2 x3
        have h268 : HW X 268 [some (.inr (.inr (some 60))), some (.inl ((s + 1 : Nat) : Int)), some (.inl (g : Int)), some (.inl (w : Int)), some (.inl (t : Int)), some (.inl ((5 * (100 * (s + 1) + g) : Nat) : Int)), some (.inl (fr : Int)), some (.inl (flP aS (d s) fr (m + 1) : Int)), some (.inl (flP aS (d s) t m : Int)), some (.inl (m : Int)), some (.inl ((fr : Int) - d s m)), l11, l12, l13, l14] [] F I J2 := by
          have h5 := ih (m + 1) (by omega) J2 (some (.inl ((fr : Int) - d s m))) (some (.inl ((t : Int) - d s m))) l12 l13 l14 x1 x2 x3
          have eT : ((flP aS (d s) t (m + 1) : Nat) : Int) = (flP aS (d s) t m : Int) + bsz aS ((t : Int) - d s m) := by
            rw [hPt]
            unfold wd
            omega
          rw [eT] at h5
          refine zgo (fun pc => Nat.beq pc 99) 200 hX hR' rfl ?_
          refine Exists.intro _ ⟨hs.o, ?_⟩
          refine Exists.intro _ ⟨_, 100 * s + m, h72, by omega, by omega, ?_⟩
          rw [e1]
          refine And.intro (fun c2 => ?_) (fun c2 => ?_)
          · obtain ⟨x, hx⟩ := Int.eq_ofNat_of_zero_le (show 0 ≤ (t : Int) - d s m by omega)
            have cM := c_X9_manyOf (xl X) (xD X) (xsh X) hs F I J2 hb (x := x) (by omega)
            rw [← hx] at cM
            refine qX9_goes_87 hX cM hs.o (fun v F' I' J' hv => ?_)
            obtain ⟨rfl, rfl, rfl, rfl⟩ := hv
            exact h5
          · have hz : bsz aS ((t : Int) - d s m) = 0 := by
              unfold bsz
              rw [if_neg (by omega)]
            rw [hz] at h5
            exact h5
        have eF : ((flP aS (d s) fr (m + 1) : Nat) : Int) = (flP aS (d s) fr m : Int) + bsz aS ((fr : Int) - d s m) := by
          rw [hPf]
          unfold wd
          omega
        rw [eF] at h268
        refine zgo (fun pc => Nat.beq pc 268) 200 hX hR' rfl ?_
        refine And.intro (fun c2 => ?_) (fun c2 => ?_)
        · obtain ⟨x, hx⟩ := Int.eq_ofNat_of_zero_le (show 0 ≤ (fr : Int) - d s m by omega)
          have cM := c_X9_manyOf (xl X) (xD X) (xsh X) hs F I J2 hb (x := x) (by omega)
          rw [← hx] at cM
          refine qX9_goes_87 hX cM hs.o (fun v F' I' J' hv => ?_)
          obtain ⟨rfl, rfl, rfl, rfl⟩ := hv
          exact h268
        · have hz : bsz aS ((fr : Int) - d s m) = 0 := by
            unfold bsz
            rw [if_neg (by omega)]
          rw [hz] at h268
          exact h268
      -- over the places of generator m
      have inner : ∀ q b, b + q = wd fr (d s m) → ∀ J2 l12 l13 l14, (∀ a, a ≠ 77 → J2 a = J a) → (∀ j, J2 77 j < 18446744073709551616) → (∀ p, rq J2 77 10 0 p = (rq J 77 10 0 p ^^ PP (flP aS (d s) fr m + b) p)) →
          HW X 134 [some (.inr (.inr (some 60))), some (.inl ((s + 1 : Nat) : Int)), some (.inl (g : Int)), some (.inl (w : Int)), some (.inl (t : Int)), some (.inl ((5 * (100 * (s + 1) + g) : Nat) : Int)), some (.inl (fr : Int)), some (.inl (flP aS (d s) fr m : Int)), some (.inl (flP aS (d s) t m : Int)), some (.inl (m : Int)), some (.inl ((fr : Int) - d s m)), some (.inl (b : Int)), l12, l13, l14] [] F I J2 := by
        intro q
        induction q with
        | zero =>
          intro b hbq J2 l12 l13 l14 x1 x2 x3
          have hlast := h248 J2 (some (.inl (b : Int))) l12 l13 l14 x1 x2 (by rw [hPf, ← show b = wd fr (d s m) by omega]; exact x3)
          refine zgo (fun pc => Nat.beq pc 134 || Nat.beq pc 248) 200 hX hR' rfl ?_
          refine And.intro (fun c1 => hlast) (fun c1 => ?_)
          obtain ⟨x, hx⟩ := Int.eq_ofNat_of_zero_le (show 0 ≤ (fr : Int) - d s m by omega)
          have cM := c_X9_manyOf (xl X) (xD X) (xsh X) hs F I J2 hb (x := x) (by omega)
          rw [← hx] at cM
          refine qX9_goes_87 hX cM hs.o (fun v F' I' J' hv => ?_)
          obtain ⟨rfl, rfl, rfl, rfl⟩ := hv
          unfold wd at hbq
          exact And.intro (fun c2 => hlast) (fun c2 => by omega)
        | succ q ihq =>
          intro b hbq J2 l12 l13 l14 x1 x2 x3
          have hbw : b < wd fr (d s m) := by omega
          have hdd : d s m ≤ fr := by
            rcases Nat.lt_or_ge fr (d s m) with z | z
            · exfalso
              unfold wd at hbw
              have hz : bsz aS ((fr : Int) - d s m) = 0 := by
                unfold bsz
                rw [if_neg (by omega)]
              rw [hz] at hbw
              exact absurd hbw (Nat.not_lt_zero b)
            · exact z
          obtain ⟨x, hx⟩ := Int.eq_ofNat_of_zero_le (show 0 ≤ (fr : Int) - d s m by omega)
          have h61' := bs_61 fr (d s m)
          have hvd := (bs_iff (u := bs fr (d s m) + b) (t := fr) (d := d s m) (by omega)).mpr ⟨by omega, by omega⟩
          have ebs : bs fr (d s m) = aS x := by
            unfold bs
            rw [hx]
            exact bst_aS (by omega)
          have hstep : ∀ p, PP (flP aS (d s) fr m + (b + 1)) p = (PP (flP aS (d s) fr m + b) p ^^ (gb (s + 1) g (flP aS (d s) fr m + b) && (decide (flP aS (d s) t m ≤ p ∧ p < 640) && (aGP w (bs fr (d s m) + b)).testBit (p - flP aS (d s) t m)))) := fun p => by
            show (pps _ _ _ _ (flP aS (d s) fr m + b) p ^^ (gb (s + 1) g (flP aS (d s) fr m + b) && (decide (tgf aS (d s) fr t (G s) (flP aS (d s) fr m + b) ≤ p ∧ p < 640) && (aGP w (chf aS (d s) fr (G s) (flP aS (d s) fr m + b))).testBit (p - tgf aS (d s) fr t (G s) (flP aS (d s) fr m + b))))) = _
            rw [chf_at hbw (G s) (by omega), tgf_at hbw (G s) (by omega)]
          -- the next place
          have h242 : ∀ J3 l13 l14, (∀ a, a ≠ 77 → J3 a = J a) → (∀ j, J3 77 j < 18446744073709551616) → (∀ p, rq J3 77 10 0 p = (rq J 77 10 0 p ^^ PP (flP aS (d s) fr m + (b + 1)) p)) →
              HW X 242 [some (.inr (.inr (some 60))), some (.inl ((s + 1 : Nat) : Int)), some (.inl (g : Int)), some (.inl (w : Int)), some (.inl (t : Int)), some (.inl ((5 * (100 * (s + 1) + g) : Nat) : Int)), some (.inl (fr : Int)), some (.inl (flP aS (d s) fr m : Int)), some (.inl (flP aS (d s) t m : Int)), some (.inl (m : Int)), some (.inl ((fr : Int) - d s m)), some (.inl (b : Int)), some (.inl ((flP aS (d s) fr m : Int) + b)), l13, l14] [] F I J3 := by
            intro J3 l13 l14 x1 x2 x3
            have h5 := ihq (b + 1) (by omega) J3 (some (.inl ((flP aS (d s) fr m : Int) + b))) l13 l14 x1 x2 x3
            refine zgo (fun pc => Nat.beq pc 134) 200 hX hR' rfl ?_
            exact h5
          have hbit : flP aS (d s) fr m + b < 300 := by omega
          have eb1 := zshr6 (p := flP aS (d s) fr m + b) (by omega)
          have eb2 := zand63 (p := flP aS (d s) fr m + b) (by omega)
          have J73 : J2 73 = J 73 := x1 73 (by decide)
          have hgq : rq J 73 5 (100 * (s + 1) + g) (flP aS (d s) fr m + b) = gb (s + 1) g (flP aS (d s) fr m + b) := congrFun (y4 g hg) _
          rw [rq_in (by omega)] at hgq
          have hlb := zlbit (x := J2 73 ((100 * (s + 1) + g) * 5 + (flP aS (d s) fr m + b) / 64)) (k := (flP aS (d s) fr m + b) % 64) (by rw [J73]; exact hM.2 _) (Nat.mod_lt _ (by decide))
          rw [J73, hgq, ← J73, ← eb2] at hlb
          have hlb : zland (zlshr (J2 73 ((100 * (s + 1) + g) * 5 + (flP aS (d s) fr m + b) / 64)) (zand ((flP aS (d s) fr m : Int) + (b : Int)) 63)) 1 = if gb (s + 1) g (flP aS (d s) fr m + b) then 1 else 0 := hlb
          refine zgo (fun pc => Nat.beq pc 134 || Nat.beq pc 248 || Nat.beq pc 242 || Nat.beq pc 208) 200 hX hR' rfl ?_
          refine And.intro (fun c1 => by omega) (fun c1 => ?_)
          have cM := c_X9_manyOf (xl X) (xD X) (xsh X) hs F I J2 hb (x := x) (by omega)
          rw [← hx] at cM
          refine qX9_goes_87 hX cM hs.o (fun v F' I' J' hv => ?_)
          obtain ⟨rfl, rfl, rfl, rfl⟩ := hv
          unfold wd at hbw
          refine And.intro (fun c2 => by omega) (fun c2 => ?_)
          refine Exists.intro _ ⟨hs.o, ?_⟩
          refine Exists.intro _ ⟨_, (100 * (s + 1) + g) * 5 + (flP aS (d s) fr m + b) / 64, h73, (show ((5 * (100 * (s + 1) + g) : Nat) : Int) + zshr ((flP aS (d s) fr m + b : Nat) : Int) 6 = _ by rw [eb1]; omega), by omega, ?_⟩
          cases hgb : gb (s + 1) g (flP aS (d s) fr m + b)
          · rw [hgb, if_neg (by decide)] at hlb
            refine And.intro (fun c3 => ?_) (fun c3 => ?_)
            · exact h242 J' _ _ x1 x2 (fun p => by rw [hstep, hgb, Bool.false_and, Bool.xor_false]; exact x3 p)
            · exact absurd ((zcmp_eq (a := 0) (b := 1) (by decide) (by decide)).mp (Eq.mp (congrArg (fun y => zcmp y 1 % 4294967296 = 0) hlb) c3)) (by decide)
          · rw [hgb, if_pos rfl] at hlb
            refine And.intro (fun c3 => ?_) (fun c3 => ?_)
            · exact absurd (Eq.mpr (congrArg (fun y => zcmp y 1 % 4294967296 = 0) hlb) ((zcmp_eq (a := 1) (b := 1) (by decide) (by decide)).mpr rfl)) c3
            · refine Exists.intro _ ⟨hs.o, ?_⟩
              refine Exists.intro _ ⟨hs.o, ?_⟩
              refine Exists.intro _ ⟨_, x, h61, hx, by omega, ?_⟩
              rw [hb x (by omega)]
              refine Exists.intro _ ⟨_, 64 * w + (aS x + b), h67, by omega, by omega, ?_⟩
              rw [hpr w (aS x + b) hw (by omega) (by rw [← ebs]; omega), ← ebs]
              have hx512 := aGP_lt hw (show bs fr (d s m) + b < 61 by omega)
              have hout := fun p => hstep p
              rw [hgb] at hout
              -- the bits of the product, one by one
              have bits : ∀ r2 c : Nat, c + r2 = 10 → ∀ J3, (∀ a, a ≠ 77 → J3 a = J a) → (∀ j, J3 77 j < 18446744073709551616) → (∀ p, rq J3 77 10 0 p = (rq J' 77 10 0 p ^^ (decide (flP aS (d s) t m ≤ p ∧ p < flP aS (d s) t m + c) && (aGP w (bs fr (d s m) + b)).testBit (p - flP aS (d s) t m)))) →
                  HW X 208 [some (.inr (.inr (some 60))), some (.inl ((s + 1 : Nat) : Int)), some (.inl (g : Int)), some (.inl (w : Int)), some (.inl (t : Int)), some (.inl ((5 * (100 * (s + 1) + g) : Nat) : Int)), some (.inl (fr : Int)), some (.inl (flP aS (d s) fr m : Int)), some (.inl (flP aS (d s) t m : Int)), some (.inl (m : Int)), some (.inl ((fr : Int) - d s m)), some (.inl (b : Int)), some (.inl ((flP aS (d s) fr m : Int) + b)), some (.inl (aGP w (bs fr (d s m) + b) : Int)), some (.inl (c : Int))] [] F' I' J3 := by
                intro r2
                have fin : ∀ c J3, aGP w (bs fr (d s m) + b) / 2 ^ c = 0 → (∀ p, rq J3 77 10 0 p = (rq J' 77 10 0 p ^^ (decide (flP aS (d s) t m ≤ p ∧ p < flP aS (d s) t m + c) && (aGP w (bs fr (d s m) + b)).testBit (p - flP aS (d s) t m)))) → ∀ p, rq J3 77 10 0 p = (rq J 77 10 0 p ^^ PP (flP aS (d s) fr m + (b + 1)) p) := fun c J3 hc hp p => by
                  rw [hp p, x3 p, hout p, Bool.true_and, Bool.xor_assoc]
                  congr 2
                  by_cases g1 : flP aS (d s) t m ≤ p
                  · by_cases g2 : p < flP aS (d s) t m + c
                    · rw [decide_eq_true ⟨g1, g2⟩]
                      by_cases g3 : p < 640
                      · rw [decide_eq_true ⟨g1, g3⟩]
                      · rw [decide_eq_false (fun z => g3 z.2), tb_small (k := 9) hx512 (by omega)]
                        rfl
                    · have hz : (aGP w (bs fr (d s m) + b)).testBit (p - flP aS (d s) t m) = false := by
                        have e := congrArg (fun z => z.testBit (p - flP aS (d s) t m - c)) hc
                        rw [Nat.testBit_div_two_pow, Nat.zero_testBit, show p - flP aS (d s) t m - c + c = p - flP aS (d s) t m by omega] at e
                        exact e
                      rw [hz, Bool.and_false, Bool.and_false]
                  · rw [decide_eq_false (fun z => g1 z.1), decide_eq_false (fun z => g1 z.1)]
                induction r2 with
                | zero =>
                  intro c hc J3 z1 z2 z3
                  have h0 : aGP w (bs fr (d s m) + b) / 2 ^ c = 0 := Nat.div_eq_of_lt (by rw [show c = 10 by omega]; exact Nat.lt_of_lt_of_le hx512 (by decide))
                  have hsh := zshr_eq (a := aGP w (bs fr (d s m) + b)) (k := c) (by omega) (by omega)
                  rw [h0] at hsh
                  refine zgo (fun pc => Nat.beq pc 208 || Nat.beq pc 242) 200 hX hR' rfl ?_
                  refine And.intro (fun c4 => ?_) (fun c4 => by rw [hsh] at c4; exact absurd rfl c4)
                  exact h242 J3 _ _ z1 z2 (fin c J3 h0 z3)
                | succ r2 ih2 =>
                  intro c hc J3 z1 z2 z3
                  have hsh := zshr_eq (a := aGP w (bs fr (d s m) + b)) (k := c) (by omega) (by omega)
                  refine zgo (fun pc => Nat.beq pc 208 || Nat.beq pc 242) 200 hX hR' rfl ?_
                  by_cases h0 : aGP w (bs fr (d s m) + b) / 2 ^ c = 0
                  · rw [h0] at hsh
                    refine And.intro (fun c4 => ?_) (fun c4 => by rw [hsh] at c4; exact absurd rfl c4)
                    exact h242 J3 _ _ z1 z2 (fin c J3 h0 z3)
                  · have hdl : aGP w (bs fr (d s m) + b) / 2 ^ c ≤ aGP w (bs fr (d s m) + b) := Nat.div_le_self _ _
                    have hzb := zbit (x := aGP w (bs fr (d s m) + b)) (e := c) (by omega) (by omega)
                    refine And.intro (fun c4 => ?_) (fun c4 => ?_)
                    · rw [hsh] at c4
                      have hy := Nat.lt_of_le_of_lt hdl hx512
                      generalize aGP w (bs fr (d s m) + b) / 2 ^ c = y at c4 hy h0
                      omega
                    cases hbc : (aGP w (bs fr (d s m) + b)).testBit c
                    · rw [hbc, if_neg (by decide)] at hzb
                      refine And.intro (fun c5 => ?_) (fun c5 => by rw [hzb] at c5; exact absurd c5 (by decide))
                      refine ih2 (c + 1) (by omega) J3 z1 z2 (fun p => ?_)
                      rw [z3 p]
                      congr 1
                      by_cases e : p = flP aS (d s) t m + c
                      · rw [e, show flP aS (d s) t m + c - flP aS (d s) t m = c by omega, hbc, Bool.and_false, Bool.and_false]
                      · congr 1
                        exact decide_eq_decide.mpr ⟨fun z => by omega, fun z => by omega⟩
                    · rw [hbc, if_pos rfl] at hzb
                      refine And.intro (fun c5 => by rw [hzb] at c5; exact absurd (by decide) c5) (fun c5 => ?_)
                      refine qX9_goes_178 hX (c_X9_turns (xl X) (xD X) (xsh X) hs F' I' J3 z2 (b := flP aS (d s) t m + c) (by omega)) hs.o (fun v F2 I2 J4 hv => ?_)
                      obtain ⟨rfl, rfl, rfl, rfl⟩ := hv
                      refine ih2 (c + 1) (by omega) _ (fun a ha => (trn_r ha).trans (z1 a ha)) (trn_lt z2) (fun p => ?_)
                      rw [trn_bit (by omega), z3 p, Bool.xor_assoc]
                      congr 1
                      by_cases e : p = flP aS (d s) t m + c
                      · rw [e, show flP aS (d s) t m + c - flP aS (d s) t m = c by omega, hbc, decide_eq_false (by omega), decide_eq_true rfl, decide_eq_true ⟨by omega, by omega⟩]
                        rfl
                      · rw [decide_eq_false e, Bool.xor_false]
                        congr 1
                        exact decide_eq_decide.mpr ⟨fun z => by omega, fun z => by omega⟩
              have hb0 := bits 10 0 (by decide) J' x1 x2 (fun p => by rw [decide_eq_false (by omega), Bool.false_and, Bool.xor_false])
              exact hb0
      have hin := inner (wd fr (d s m)) 0 (by omega) J1 l12 l13 l14 x1 x2 (by rw [Nat.add_zero]; exact x3)
      refine zgo (fun pc => Nat.beq pc 99 || Nat.beq pc 134) 200 hX hR' rfl ?_
      refine Exists.intro _ ⟨hs.o, ?_⟩
      refine Exists.intro _ ⟨_, s, h71, by omega, by omega, ?_⟩
      rw [m1]
      refine And.intro (fun c1 => by omega) (fun c1 => ?_)
      refine Exists.intro _ ⟨hs.o, ?_⟩
      refine Exists.intro _ ⟨_, 100 * s + m, h72, by omega, by omega, ?_⟩
      rw [e1]
      exact hin
  have h0 := loop (G s) 0 (by omega) J none none none none none (fun _ _ => rfl) hJ (fun p => by rw [show PP (flP aS (d s) fr 0) p = false from rfl, Bool.xor_false])
  rw [show ((5 * (100 * (s + 1) + g) : Nat) : Int) = 5 * (100 * ((s + 1 : Nat) : Int) + (g : Int)) by omega] at h0
  refine zgo (fun pc => Nat.beq pc 99) 200 hX hR' rfl ?_
  refine And.intro (fun c1 => ?_) (fun c1 => by omega)
  refine Exists.intro _ ⟨hs.o, ?_⟩
  refine Exists.intro _ ⟨_, 100 * (s + 1) + g, h72, by omega, by omega, ?_⟩
  rw [dg1]
  exact h0
