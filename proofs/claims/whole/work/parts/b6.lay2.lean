/-! the reference: lays, the walk of its first part -/
theorem or_bit {J : zJi} {P : Nat} (hP : P < 320) (p : Nat) : rq (zw J 77 (5 + P / 64) (J 77 (5 + P / 64) ||| 2 ^ (P % 64))) 77 10 0 p = (rq J 77 10 0 p || decide (p = 320 + P)) := by
  by_cases hp : p < 64 * 10
  · rw [rq_in hp, rq_in hp]
    by_cases e : p / 64 = 5 + P / 64
    · rw [show 0 * 10 + p / 64 = 5 + P / 64 by omega, zw_s, Nat.testBit_or]
      congr 1
      by_cases e2 : p % 64 = P % 64
      · rw [e2, Nat.testBit_two_pow_self, decide_eq_true (by omega)]
      · rw [Nat.testBit_two_pow_of_ne (fun z => e2 z.symm), decide_eq_false (by omega)]
    · rw [zw_n (by omega), decide_eq_false (by omega), Bool.or_false]
  · rw [rq_out (by omega), rq_out (by omega), decide_eq_false (by omega)]
    rfl
/-- all that stands while a floor is laid -/
def LyH (F I : zFi) (J : zJi) (n : Nat) (A : Nat → Nat → Nat) (de : Nat → Nat) (G : Nat → Nat) (d : Nat → Nat → Nat) (gb : Nat → Nat → Nat → Bool) : Prop :=
  mBg I ∧ mPr I ∧ mWd I ∧ RSp F I n A de ∧ (∀ i e, 12 < i → e < n → A i e = 0) ∧ SpOK A n de ∧ RTM I J G d gb ∧ WFg de n G d gb
theorem RSp.of {F F' I I' : zFi} {n : Nat} {A : Nat → Nat → Nat} {de : Nat → Nat} (h : RSp F I n A de) (e1 : F' 60 10 = F 60 10) (e2 : I' 69 = I 69) (e3 : I' 70 = I 70) : RSp F' I' n A de := ⟨by rw [e1]; exact h.1, h.2.1, fun e he => by rw [e2]; exact h.2.2.1 e he, fun e i he h1 h2 => by rw [e3]; exact h.2.2.2 e i he h1 h2⟩
theorem LyH.of {F F' I I' : zFi} {J J' : zJi} {n : Nat} {A : Nat → Nat → Nat} {de : Nat → Nat} {G : Nat → Nat} {d : Nat → Nat → Nat} {gb : Nat → Nat → Nat → Bool} (h : LyH F I J n A de G d gb) (e1 : F' 60 10 = F 60 10) (e2 : ∀ a, a ≠ 76 → I' a = I a) (e3 : J' 73 = J 73) : LyH F' I' J' n A de G d gb := by
  obtain ⟨h1, h2, h3, h4, h5, h6, h7, h8⟩ := h
  refine ⟨fun j hj => by rw [e2 61 (by decide)]; exact h1 j hj, fun u v hu hv hd => by rw [e2 67 (by decide)]; exact h2 u v hu hv hd, fun u hu => by rw [e2 62 (by decide), e2 63 (by decide)]; exact h3 u hu, h4.of e1 (e2 69 (by decide)) (e2 70 (by decide)), h5, h6, ⟨fun s hs => ?_, fun j => by rw [e3]; exact h7.2 j⟩, h8⟩
  obtain ⟨y1, y2, y3, y4⟩ := h7.1 s hs
  refine ⟨by rw [e2 71 (by decide)]; exact y1, y2, fun a ha => by rw [e2 72 (by decide)]; exact y3 a ha, fun a ha => ?_⟩
  rw [← y4 a ha]
  funext q
  exact rq_of e3 _ q
theorem lays_1 {X : zX} {post : zP} (hX : ZF X mX9_lays) (hR' : ZR X mX9_lays post) (hs : zWM (xsh X)) {F I : zFi} {J : zJi} {n : Nat} {A : Nat → Nat → Nat} {de : Nat → Nat} {G : Nat → Nat} {d : Nat → Nat → Nat} {gb : Nat → Nat → Nat → Bool} (h : LyH F I J n A de G d gb) (hJ : (∀ j, J 75 j < 18446744073709551616) ∧ (∀ j, J 77 j < 18446744073709551616) ∧ ∀ j, J 79 j < 18446744073709551616)
    {s t B : Nat} {bl : Nat → Nat → Bool} (hs6 : s < 6) (ht : t ≤ 14) (hd : ∀ a, a < G s → d s a ≤ t) (hok : OKs aS aN aGP A n t s G d gb B bl)
    (fin : ∀ F1 I1 J1 C K l5 l6 l7 l8, lyR F I J F1 I1 J1 (flP aS (d s) t (G s)) C K (dvS aS aN aGP A n G d gb t s) → HW X 182 [some (.inr (.inr (some 60))), some (.inl (s : Int)), some (.inl (t : Int)), some (.inl (flP aS (d s) t (G s) : Int)), some (.inl (G s : Int)), l5, l6, l7, l8] [] F1 I1 J1) :
    HW X 15 [some (.inr (.inr (some 60))), some (.inl (s : Int)), some (.inl (t : Int)), some (.inl 0), some (.inl 0), none, none, none, none] [] (zu (zu F 60 22 0) 60 28 0) I J := by
  obtain ⟨⟨o1, o2, o3⟩, o4, -, -, -, o6, o7, -⟩ := hok
  obtain ⟨cA, h71⟩ := hs.a71
  obtain ⟨cB, h72⟩ := hs.a72
  obtain ⟨cC, h61⟩ := hs.a61
  obtain ⟨cD, h77⟩ := hs.a77
  obtain ⟨cE, h79a⟩ := hs.a79
  have hgpl : ∀ q, 320 ≤ q → ∀ p, p < flP aS (d s) t (G s) → dvS aS aN aGP A n G d gb t s p q = false := fun q hq p hp => o4 p hp q (by omega)
  have loop : ∀ r g, g + r = G s → ∀ F1 I1 J1 C K l5 l6 l7 l8, lyR F I J F1 I1 J1 (flP aS (d s) t g) C K (dvS aS aN aGP A n G d gb t s) →
      HW X 15 [some (.inr (.inr (some 60))), some (.inl (s : Int)), some (.inl (t : Int)), some (.inl (flP aS (d s) t g : Int)), some (.inl (g : Int)), l5, l6, l7, l8] [] F1 I1 J1 := by
    intro r
    induction r with
    | zero =>
      intro g hg F1 I1 J1 C K l5 l6 l7 l8 hly
      have hlast := fin F1 I1 J1 C K l5 l6 l7 l8 (by rw [show G s = g by omega]; exact hly)
      rw [show G s = g by omega] at hlast
      have e71 : I1 71 s = (G s : Int) := by rw [hly.1.2.2.1 71 (by decide)]; exact (h.2.2.2.2.2.2.1.1 s hs6).1
      refine zgo (fun pc => Nat.beq pc 15 || Nat.beq pc 182) 200 hX hR' rfl ?_
      refine Exists.intro _ ⟨hs.o, ?_⟩
      refine Exists.intro _ ⟨_, s, h71, rfl, hs6, ?_⟩
      refine And.intro (fun c1 => hlast) (fun c1 => ?_)
      rw [e71] at c1
      omega
    | succ r ih =>
      intro g hg F1 I1 J1 C K l5 l6 l7 l8 hly
      have hgG : g < G s := by omega
      obtain ⟨y1, y2, y3, y4⟩ := h.2.2.2.2.2.2.1.1 s hs6
      obtain ⟨e1, e2⟩ := y3 g hgG
      have hdt := hd g hgG
      have e71 : I1 71 s = (G s : Int) := by rw [hly.1.2.2.1 71 (by decide)]; exact y1
      have e72 : I1 72 (100 * s + g) = (d s g : Int) := by rw [hly.1.2.2.1 72 (by decide)]; exact e1
      obtain ⟨x, hx⟩ : ∃ x : Nat, (t : Int) - d s g = (x : Int) := Int.eq_ofNat_of_zero_le (by omega)
      have hx14 : x ≤ 14 := by omega
      have ebs : bs t (d s g) = aS x := by
        unfold bs
        rw [hx]
        exact bst_aS (by omega)
      have hdr := dg_range hx14
      have ewd : aS x + wd t (d s g) = aS (x + 1) := by
        unfold wd bsz
        rw [hx, if_pos (by omega), Int.toNat_natCast]
        omega
      have hbg : ∀ {I1 : zFi}, (∀ a, a ≠ 76 → I1 a = I a) → ∀ j, j ≤ 15 → I1 61 j = (aS j : Int) := fun hI j hj => by rw [hI 61 (by decide)]; exact h.1 j hj
      have hPs : flP aS (d s) t (g + 1) = flP aS (d s) t g + wd t (d s g) := flP_succ _ _ _
      have hPm := flP_mono aS (d s) (t : Int) (g + 1) (G s) (by omega)
      have inner : ∀ q k, k + q = wd t (d s g) → ∀ F1 I1 J1 C K l7 l8, lyR F I J F1 I1 J1 (flP aS (d s) t g + k) C K (dvS aS aN aGP A n G d gb t s) →
          HW X 51 [some (.inr (.inr (some 60))), some (.inl (s : Int)), some (.inl (t : Int)), some (.inl ((flP aS (d s) t g + k : Nat) : Int)), some (.inl (g : Int)), some (.inl (x : Int)), some (.inl ((aS x + k : Nat) : Int)), l7, l8] [] F1 I1 J1 := by
        intro q
        induction q with
        | zero =>
          intro k hk F1 I1 J1 C K l7 l8 hly
          have h5 := ih (g + 1) (by omega) F1 I1 J1 C K (some (.inl (x : Int))) (some (.inl ((aS x + k : Nat) : Int))) l7 l8 (by rw [hPs, ← show k = wd t (d s g) by omega]; exact hly)
          rw [hPs, ← show k = wd t (d s g) by omega] at h5
          refine zgo (fun pc => Nat.beq pc 15) 200 hX hR' rfl ?_
          refine Exists.intro _ ⟨hs.o, ?_⟩
          refine Exists.intro _ ⟨_, x + 1, h61, rfl, by omega, ?_⟩
          refine And.intro (fun c1 => h5) (fun c1 => ?_)
          rw [hbg hly.1.2.2.1 (x + 1) (by omega)] at c1
          omega
        | succ q ihq =>
          intro k hk F1 I1 J1 C K l7 l8 hly
          have hkw : k < wd t (d s g) := by omega
          have hP320 : flP aS (d s) t g + k < flP aS (d s) t (G s) := by omega
          have hCK : C + K = flP aS (d s) t g + k := hly.2.2.2.2.2.2.2.2.2
          obtain ⟨L, hL⟩ := hly.2.2.1
          have hlyH : LyH F1 I1 J1 n A de G d gb := h.of (hly.1.2.1 10 (by decide) (by decide)) hly.1.2.2.1 (hly.1.2.2.2 73 (by decide) (by decide) (by decide))
          have hu61 : aS x + k < 61 := by omega
          have hcd := (bs_iff (u := aS x + k) (t := t) (d := d s g) hu61).mpr (by rw [ebs]; omega)
          -- behind the place
          have h170 : ∀ F2 I2 J2 C' K' l7 l8, lyR F I J F2 I2 J2 (flP aS (d s) t g + k + 1) C' K' (dvS aS aN aGP A n G d gb t s) →
              HW X 170 [some (.inr (.inr (some 60))), some (.inl (s : Int)), some (.inl (t : Int)), some (.inl (((flP aS (d s) t g + k : Nat) : Int) + 1)), some (.inl (g : Int)), some (.inl (x : Int)), some (.inl ((aS x + k : Nat) : Int)), l7, l8] [] F2 I2 J2 := fun F2 I2 J2 C' K' l7 l8 hl2 => by
            have h5 := ihq (k + 1) (by omega) F2 I2 J2 C' K' l7 l8 hl2
            refine zgo (fun pc => Nat.beq pc 51) 200 hX hR' rfl ?_
            exact h5
          have h79 : ∀ J3 : zJi, (∀ a, a ≠ 77 → J3 a = J1 a) → (∀ j, J3 77 j < 18446744073709551616) → (∀ p, p < 640 → rq J3 77 10 0 p = (decide (p < 320) && dvS aS aN aGP A n G d gb t s (flP aS (d s) t g + k) p)) →
              HW X 79 [some (.inr (.inr (some 60))), some (.inl (s : Int)), some (.inl (t : Int)), some (.inl ((flP aS (d s) t g + k : Nat) : Int)), some (.inl (g : Int)), some (.inl (x : Int)), some (.inl ((aS x + k : Nat) : Int)), l7, l8] [] F1 I1 J3 := fun J3 z1 z2 z3 => by
            generalize hPP : flP aS (d s) t g + k = P at hP320 hCK z3 h170 hly ⊢
            have eb1 := zshr6 (p := P) (by omega)
            have eb2 := zand63 (p := P) (by omega)
            have hp2 : 2 ^ (P % 64) < 18446744073709551616 := show 2 ^ (P % 64) < 2 ^ 64 from Nat.pow_lt_pow_right (by decide) (by omega)
            have eJ4 : zw J3 77 (5 + P / 64) (zlor (J3 77 (5 + P / 64)) (zlshl 1 (zand (P : Int) 63))) = zw J3 77 (5 + P / 64) (J3 77 (5 + P / 64) ||| 2 ^ (P % 64)) := by
              rw [eb2, zlshl_eq (by omega), Nat.one_mul, Nat.mod_eq_of_lt hp2, zlor_eq (z2 _) hp2]
            have hJ4 : ∀ j, zw J3 77 (5 + P / 64) (J3 77 (5 + P / 64) ||| 2 ^ (P % 64)) 77 j < 18446744073709551616 := fun j => by
              unfold zw
              split
              · exact Nat.or_lt_two_pow (n := 64) (z2 _) hp2
              · exact z2 j
            have a4 : ∀ a, a ≠ 77 → zw J3 77 (5 + P / 64) (J3 77 (5 + P / 64) ||| 2 ^ (P % 64)) a = J1 a := fun a ha => (zw_r ha).trans (z1 a ha)
            have hnw : nwR (zw J3 77 (5 + P / 64) (J3 77 (5 + P / 64) ||| 2 ^ (P % 64))) P (dvS aS aN aGP A n G d gb t s) := by
              refine ⟨fun p hp => ?_, fun q hq => ?_⟩
              · rw [or_bit (by omega), z3 p (by omega), decide_eq_true hp, Bool.true_and, decide_eq_false (by omega), Bool.or_false]
              · rw [or_bit (by omega), z3 _ (by omega), decide_eq_false (by omega), Bool.false_and, Bool.false_or]
                exact decide_eq_decide.mpr ⟨fun z => by omega, fun z => by omega⟩
            have hL4 : rwR I1 (zw J3 77 (5 + P / 64) (J3 77 (5 + P / 64) ||| 2 ^ (P % 64))) C L := ⟨fun i hi => by
              obtain ⟨l1, l2, l3, l4⟩ := hL.1 i hi
              exact ⟨l1, l2, by rw [rq_of (a4 75 (by decide))]; exact l3, fun j hj => by rw [rq_of (a4 75 (by decide))]; exact l4 j hj⟩, fun j => by rw [a4 75 (by decide)]; exact hL.2 j⟩
            have cR := c_X9_reduces (xl X) (xD X) (xsh X) hs F1 I1 (zw J3 77 (5 + P / 64) (J3 77 (5 + P / 64) ||| 2 ^ (P % 64))) (C := C) hly.2.1.1 (by omega) hL4 hJ4
            rw [← eJ4] at cR
            refine zgo (fun pc => Nat.beq pc 170 || Nat.beq pc 125) 200 hX hR' rfl ?_
            refine Exists.intro _ ⟨hs.o, ?_⟩
            refine Exists.intro _ ⟨_, 5 + P / 64, h77, (show (5 : Int) + zshr (P : Int) 6 = ((5 + P / 64 : Nat) : Int) by rw [eb1]; omega), by omega, ?_⟩
            refine Exists.intro _ ⟨_, 5 + P / 64, h77, (show (5 : Int) + zshr (P : Int) 6 = ((5 + P / 64 : Nat) : Int) by rw [eb1]; omega), by omega, ?_⟩
            refine qX9_lays_197 hX cR hs.o (fun v F2 I2 J5 hv => ?_)
            obtain ⟨rfl, rfl, cf, y, rfl, hrd, hz, hld⟩ := hv
            rw [eJ4] at hrd
            rcases hld with ⟨rfl, hzero⟩ | ⟨y', y1', rfl, y2', y3'⟩
            · refine And.intro (fun c3 => ?_) (fun c3 => absurd (by decide) c3)
              have hnext := h170 _ _ _ C (K + 1) (some (.inl (-1))) (some (.inl 5)) (hly.drop hL (by omega) (fun q hq => hgpl q hq P hP320) a4 hnw hrd hzero)
              have copy : ∀ r2 c : Nat, c + r2 = 5 → HW X 125 [some (.inr (.inr (some 60))), some (.inl (s : Int)), some (.inl (t : Int)), some (.inl ((P : Int) + 1)), some (.inl (g : Int)), some (.inl (x : Int)), some (.inl ((aS x + k : Nat) : Int)), some (.inl (-1)), some (.inl (c : Int))] [] F2 I2 (cpW J5 79 (5 * K) (fun k => J5 77 (5 + k)) c) := by
                intro r2
                induction r2 with
                | zero =>
                  intro c hc
                  have hc5 : c = 5 := by omega
                  subst hc5
                  refine zgo (fun pc => Nat.beq pc 170 || Nat.beq pc 125) 200 hX hR' rfl ?_
                  refine And.intro (fun c4 => ?_) (fun c4 => by omega)
                  refine Exists.intro _ ⟨hs.o, ?_⟩
                  refine Exists.intro _ ⟨hs.o, ?_⟩
                  rw [← hly.2.1.2] at hnext
                  exact hnext
                | succ r2 ih2 =>
                  intro c hc
                  have h6 := ih2 (c + 1) (by omega)
                  rw [← cpW_step] at h6
                  refine zgo (fun pc => Nat.beq pc 170 || Nat.beq pc 125) 200 hX hR' rfl ?_
                  refine And.intro (fun c4 => by omega) (fun c4 => ?_)
                  refine Exists.intro _ ⟨hs.o, ?_⟩
                  refine Exists.intro _ ⟨hs.o, ?_⟩
                  refine Exists.intro _ ⟨hs.o, ?_⟩
                  refine Exists.intro _ ⟨_, 5 + c, h77, rfl, by omega, ?_⟩
                  refine Exists.intro _ ⟨_, 5 * K + c, h79a, (show (5 : Int) * F2 60 28 + (c : Int) = _ by rw [hly.2.1.2]; omega), by omega, ?_⟩
                  rw [show cpW J5 79 (5 * K) (fun k => J5 77 (5 + k)) c 77 = J5 77 from cpW_r (by decide)]
                  exact h6
              have h0 := copy 5 0 (by decide)
              rw [cpW_0] at h0
              exact h0
            · refine And.intro (fun c3 => by omega) (fun c3 => ?_)
              refine qX9_lays_200 hX (c_X9_keeps (xl X) (xD X) (xsh X) hs F2 I2 J5 (C := C) hly.2.1.1 (by omega) (x := (y' : Int))) hs.o (fun v F3 I3 J6 hv => ?_)
              obtain ⟨rfl, rfl, rfl, rfl⟩ := hv
              exact h170 _ _ _ (C + 1) K _ _ (hly.keep hL (by omega) (by omega) (fun q hq => hgpl q hq P hP320) a4 hnw hrd hz y1' y2')
          refine zgo (fun pc => Nat.beq pc 79) 200 hX hR' rfl ?_
          refine Exists.intro _ ⟨hs.o, ?_⟩
          refine Exists.intro _ ⟨_, x + 1, h61, rfl, by omega, ?_⟩
          refine And.intro (fun c1 => ?_) (fun c1 => ?_)
          · rw [hbg hly.1.2.2.1 (x + 1) (by omega)] at c1
            omega
          refine qX9_lays_190 hX (c_X9_clearNow (xl X) (xD X) (xsh X) hs F1 I1 J1) hs.o (fun v F2 I2 J2 hv => ?_)
          obtain ⟨rfl, rfl, rfl, rfl⟩ := hv
          have z0 : ∀ p, rq (zz J1 77 0 10) 77 10 0 p = false := fun p => rq_zz0 (C := 0) (W := 10) p
          have zJ : ∀ j, zz J1 77 0 10 77 j < 18446744073709551616 := zz_lt hly.2.2.2.1.1
          have hdvT : ∀ p, dvS aS aN aGP A n G d gb t s (flP aS (d s) t g + k) p = imgT aS aN aGP A n G d gb t s g k p := fun p => dvT_at hkw (G s) hgG p
          rcases s with _ | s'
          · have hb12 : ∀ q, 12 ≤ q → gb 0 g q = false := fun q hq => by
              cases hb : gb 0 g q
              · rfl
              · have := (h.2.2.2.2.2.2.2.1 g hgG q hb).1
                have := h.2.2.2.1.2.1
                omega
            have egx : J1 73 (5 * g) = toN (gb 0 g) := by
              apply Nat.eq_of_testBit_eq
              intro q
              rw [toN_bit hb12]
              rw [hly.1.2.2.2 73 (by decide) (by decide) (by decide)]
              by_cases hq : q < 64
              · have := congrFun (y4 g hgG) q
                rw [← this, rq_in (by omega), show (100 * 0 + g) * 5 + q / 64 = 5 * g by omega, Nat.mod_eq_of_lt hq]
              · rw [hb12 q (by omega)]
                exact Nat.testBit_lt_two_pow (Nat.lt_of_lt_of_le (h.2.2.2.2.2.2.1.2 _) (show 2 ^ 64 ≤ 2 ^ q from Nat.pow_le_pow_right (by decide) (by omega)))
            have cG := c_X9_goes0 (xl X) (xD X) (xsh X) hs F2 I2 (zz J1 77 0 10) hlyH.2.2.1 hlyH.2.2.2.1 h.2.2.2.2.1 zJ (g := g) (u := aS x + k) (x := toN (gb 0 g)) (t := (t : Int)) (by omega) hu61 (toN_lt _) (by rw [zz_r (by decide)]; exact egx)
            refine qX9_lays_193 hX cG hs.o (fun v F3 I3 J4 hv => ?_)
            obtain ⟨rfl, rfl, rfl, rfl⟩ := hv
            have hx0 : Hm de n (d 0 g) (toN (gb 0 g)) := fun q hq => by
              rw [toN_bit hb12] at hq
              exact h.2.2.2.2.2.2.2.1 g hgG q hq
            have htl := tc_hm h.2.2.2.2.2.1 hu61 hx0
            have htc12 : ∀ q, 12 ≤ q → (tc A n (aS x + k) (toN (gb 0 g))).testBit q = false := fun q hq => by
              cases hb : (tc A n (aS x + k) (toN (gb 0 g))).testBit q
              · rfl
              · have := (htl q hb).1
                have := h.2.2.2.1.2.1
                omega
            have htcl : tc A n (aS x + k) (toN (gb 0 g)) < 4096 := Nat.lt_pow_two_of_testBit _ (fun i hi => htc12 i hi)
            have ezz : zz J1 77 0 10 77 0 = 0 := if_pos ⟨rfl, Nat.le_refl _, by decide⟩
            refine h79 _ (fun a ha => (zw_r ha).trans (zz_r ha)) (fun j => ?_) (fun p hp => ?_)
            · unfold zw
              split
              · rw [ezz, Nat.zero_xor]
                omega
              · exact zJ j
            · rw [hdvT, rq_in (by omega)]
              rw [show imgT aS aN aGP A n G d gb t 0 g k p = (decide (p < 64 * wid 12) && (tch A n aN ((bs t (d 0 g) + k : Nat) : Int) (toN (gb 0 g))).testBit p) from rfl, ebs, tch_tc hu61]
              have hw1 : wid 12 = 1 := rfl
              by_cases hp64 : p < 64
              · rw [show 0 * 10 + p / 64 = 0 by omega, zw_s, ezz, Nat.zero_xor, Nat.mod_eq_of_lt hp64, decide_eq_true (show p < 320 by omega), decide_eq_true (show p < 64 * wid 12 by omega), Bool.true_and, Bool.true_and]
              · rw [zw_n (by omega), show zz J1 77 0 10 77 (0 * 10 + p / 64) = 0 from if_pos ⟨rfl, by omega, by omega⟩, Nat.zero_testBit, decide_eq_false (show ¬ p < 64 * wid 12 by omega), Bool.false_and, Bool.and_false]
          · have hwp := o7 g hgG
            have hwt : flP aS (d s') t (G s') ≤ 300 := o2
            have cG := c_X9_goesS (xl X) (xD X) (xsh X) hs F2 I2 (zz J1 77 0 10) hlyH.1 hlyH.2.1 (G := G) (d := d) (gb := gb) (by
              obtain ⟨r1, r2⟩ := hlyH.2.2.2.2.2.2.1
              refine ⟨fun s hs => ?_, fun j => by rw [zz_r (by decide)]; exact r2 j⟩
              obtain ⟨y1, y2, y3, y4⟩ := r1 s hs
              refine ⟨y1, y2, y3, fun a ha => ?_⟩
              rw [← y4 a ha]
              funext q
              exact rq_of (zz_r (by decide)) _ q) zJ (s := s') (g := g) (w := aS x + k) (t := t) (by omega) hgG hu61 hcd ht hwp hwt
            refine qX9_lays_193 hX cG hs.o (fun v F3 I3 J4 hv => ?_)
            obtain ⟨rfl, rfl, rfl, z1, z2, z3⟩ := hv
            refine h79 _ (fun a ha => (z1 a ha).trans (zz_r ha)) z2 (fun p hp => ?_)
            rw [z3, z0, Bool.false_xor, hdvT]
            rw [show imgT aS aN aGP A n G d gb t (s' + 1) g k p = pps (gb (s' + 1) g) (fun x => aGP (bs t (d (s' + 1) g) + k) (chf aS (d s') (d (s' + 1) g) (G s') x)) (tgf aS (d s') (d (s' + 1) g) t (G s')) (64 * wid (flP aS (d s') t (G s'))) (flP aS (d s') (d (s' + 1) g) (G s')) p from rfl, ebs]
            rw [pps_lim ht hu61 hcd (show flP aS (d s') t (G s') ≤ 640 by omega) (wid_le _)]
            by_cases hp320 : p < 320
            · rw [decide_eq_true hp320, Bool.true_and]
            · rw [decide_eq_false hp320, Bool.false_and]
              exact pps_out ht hu61 hcd (by omega)
      have hin := inner (wd t (d s g)) 0 (by omega) F1 I1 J1 C K l7 l8 hly
      rw [Nat.add_zero, Nat.add_zero, ← hbg hly.1.2.2.1 x (by omega), ← hx, ← e72] at hin
      refine zgo (fun pc => Nat.beq pc 15 || Nat.beq pc 51) 200 hX hR' rfl ?_
      refine Exists.intro _ ⟨hs.o, ?_⟩
      refine Exists.intro _ ⟨_, s, h71, rfl, hs6, ?_⟩
      refine And.intro (fun c1 => ?_) (fun c1 => ?_)
      · rw [e71] at c1
        omega
      refine Exists.intro _ ⟨hs.o, ?_⟩
      refine Exists.intro _ ⟨_, 100 * s + g, h72, by omega, by omega, ?_⟩
      refine Exists.intro _ ⟨hs.o, ?_⟩
      refine Exists.intro _ ⟨_, x, h61, (show (t : Int) - I1 72 (100 * s + g) = _ by rw [e72, hx]), by omega, ?_⟩
      exact hin
  refine loop (G s) 0 (by omega) (zu (zu F 60 22 0) 60 28 0) I J 0 0 none none none none ⟨⟨fun a ha => by rw [zu_r ha, zu_r ha], fun j h1 h2 => by rw [zu_n (fun z => h2 z.2), zu_n (fun z => h1 z.2)], fun _ _ => rfl, fun _ _ _ _ => rfl⟩, ⟨by rw [zu_n (by decide), zu_s]; rfl, by rw [zu_s]; rfl⟩, ⟨fun _ => 0, fun i hi => absurd hi (Nat.not_lt_zero i), hJ.1⟩, ⟨hJ.2.1, hJ.2.2⟩, Rst.start _ _ _ _⟩
