/-! Tower: carryOver over the SPACE -/
theorem tch_lt {I : zFi} {ac n : Nat} {A : Nat → Nat → Nat} {N : Nat → Nat} (hA : spA I ac A) (hn2 : n ≤ 12) {c : Int} {x : Nat} (hx : x < 4096) : tch A n N c x < 4096 := sap_lt hA hn2 (sap_lt hA hn2 (sap_lt hA hn2 hx))
theorem c_X7_carryOver0 (l : Launch) (D : va_G) (sh : Nat → Option zS) {p b sq sp fl kn va so pi ca ta ke cva cso nu st f dgf gof cgo no cno dgs ac fa : Nat} {Pf : Nat → Nat} (hs : zsTw sh p b sq sp fl kn va so pi ca ta ke Pf) (hva : zsBits sh va cva 905) (hso : zsBits sh so cso 905) (hpi : ∃ cA, sh pi = some (.inr (.inl (cA, 320)))) (hca : ∃ cA, sh ca = some (.inr (.inl (cA, 320)))) (hta : ∃ cA, sh ta = some (.inr (.inl (cA, 320)))) (hb : zsBas sh b nu st) 
    (hf : zsFl sh f b dgf gof) (hgo : zsBits sh gof cgo 360) (hno : zsBits sh no cno 900) (hsp : zsSp sh sp dgs ac fa)
    (hne : cva ≠ cso ∧ cva ≠ cgo ∧ cso ≠ cgo ∧ cno ≠ cva ∧ cno ≠ cso ∧ cno ≠ cgo) (hnn : va ≠ so ∧ no ≠ va ∧ no ≠ so ∧ gof ≠ va ∧ gof ≠ so ∧ gof ≠ no) (hnf : f ≠ va ∧ f ≠ so ∧ f ≠ no ∧ sp ≠ va ∧ sp ≠ so ∧ sp ≠ no)
    (hni : (dgf ≠ pi ∧ dgf ≠ ca ∧ dgf ≠ ta) ∧ (nu ≠ pi ∧ nu ≠ ca ∧ nu ≠ ta) ∧ (st ≠ pi ∧ st ≠ ca ∧ st ≠ ta) ∧ (pi ≠ ca ∧ pi ≠ ta ∧ ca ≠ ta) ∧ (ac ≠ pi ∧ ac ≠ ca ∧ ac ≠ ta))
    (F I : zFi) (J : zJi) {N S : Nat → Nat} (hT : bT I nu st N S) (h30 : ∀ n, 0 ≤ bsz S n ∧ bsz S n ≤ 30) (h61 : ∀ n, bst S n + (bsz S n).toNat ≤ 61) {G W W2 gp t n : Nat} {d : Nat → Nat} {A : Nat → Nat → Nat} (hfR : flR F I f dgf G d) (hn : F sp 3 = (n : Int)) (hn2 : n ≤ 12) (hA : spA I ac A) (hv : bR F J va cva 905 W 0) (hS2 : bR F J so cso 905 W2 0) (hN : bR F J no cno 900 W2 0) (hG : bR F J gof cgo 360 5 G)
    (ht : t ≤ 14) (hpv : ∀ l, l < gp → I pi l = -1) (hgp : gp ≤ 320) (hW : gp ≤ 64 * W) (hW2 : flP S d t G ≤ 64 * W2) (hPt : flP S d t G ≤ 300) {dv : Nat → Nat → Bool} (hdvs : ∀ P, P < flP S d t G → ∀ q, gp ≤ q → dv P q = false) (hV : limV dv (flP S d t G)) (hK : limK dv (flP S d t G))
    (hx0 : ∀ g, g < G → bw J cgo 5 G (g : Int) 0 % 2147483648 < 4096) (hdv : ∀ g, g < G → ∀ k, k < (bsz S ((t : Int) - d g)).toNat → ∀ q, dv (flP S d t g + k) q = (decide (q < 64 * W) && (tch A n N ((bst S ((t : Int) - d g) + k : Nat) : Int) (bw J cgo 5 G (g : Int) 0 % 2147483648)).testBit q)) :
    Cn l D yX7_carryOver wsX7_carryOver mX7_carryOver.2.2.2.2 sh [.inr (.inr (some p)), .inr (.inr (some f)), .inr (.inr none), .inl (t : Int), .inr (.inr (some no))] F I J (fun v F' I' J' => v = none ∧ ∃ C K, coR F I J F' I' J' va so no pi ca ta cva cso cno W W2 gp C K (flP S d t G) dv) := by
  obtain ⟨n1, n2, n3, n4, n5, n6⟩ := hne
  obtain ⟨o1, o2, o3, o4, o5, o6⟩ := hnn
  obtain ⟨q1, q2, q3, q4, q5, q6⟩ := hnf
  obtain ⟨⟨i1, i2, i3⟩, ⟨j1, j2, j3⟩, ⟨k1, k2, k3⟩, ⟨p1, p2, p3⟩, ⟨s1, s2, s3⟩⟩ := hni
  obtain ⟨g1, g2, g3⟩ := id hfR
  have hGC := hG.C
  refine zmet (M := mX7_carryOver) rfl rfl rfl kX7_carryOver (Nat.le_of_ble_eq_true rfl) (fun X hX hR hl0 hD hsh => ?_)
  subst hl0 hD hsh
  have loop : ∀ m g, g + m = G → ∀ F1 I1 J1 C K l8 l9 l10 l11 l12, coR F I J F1 I1 J1 va so no pi ca ta cva cso cno W W2 gp C K (flP S d t g) dv →
      HW X 9 [some (.inr (.inr (some p))), some (.inr (.inr (some f))), some (.inr (.inr none)), some (.inl (t : Int)), some (.inr (.inr (some no))), some (.inl (flP S d t g : Int)), some (.inl (-1)), some (.inl (g : Int)), l8, l9, l10, l11, l12] [] F1 I1 J1 := by
    intro m
    induction m with
    | zero =>
      intro g hg F1 I1 J1 C K l8 l9 l10 l11 l12 hst
      have hg' : F1 f 3 = (G : Int) := by rw [hst.1.1 f q1 q2 q3]; exact g1
      refine zgo (fun pc => Nat.beq pc 9) 200 hX hR rfl ?_
      refine qX7_carryOver_72 hX (c_X3_generators (xl X) (xD X) (xsh X) hf F1 I1 J1) hf.1 (fun v F' I' J' hv' => ?_)
      obtain ⟨rfl, rfl, rfl, rfl⟩ := hv'
      rw [hg']
      refine And.intro (fun c1 => ?_) (fun c1 => by omega)
      exact And.intro rfl ⟨C, K, by rw [show g = G by omega] at hst; exact hst⟩
    | succ m ih =>
      intro g hg F1 I1 J1 C K l8 l9 l10 l11 l12 hst
      have hgG : g < G := by omega
      have hd14 := (g3 g (by omega)).2
      have hw := h30 ((t : Int) - d g)
      have hw61 := h61 ((t : Int) - d g)
      have eP : flP S d t (g + 1) = flP S d t g + (bsz S ((t : Int) - d g)).toNat := rfl
      have hPm := flP_mono S d t (g + 1) G (by omega)
      have inner : ∀ m2 k, k + m2 = (bsz S ((t : Int) - d g)).toNat → ∀ F1 I1 J1 C K l12, coR F I J F1 I1 J1 va so no pi ca ta cva cso cno W W2 gp C K (flP S d t g + k) dv →
          HW X 78 [some (.inr (.inr (some p))), some (.inr (.inr (some f))), some (.inr (.inr none)), some (.inl (t : Int)), some (.inr (.inr (some no))), some (.inl ((flP S d t g + k : Nat) : Int)), some (.inl (-1)), some (.inl (g : Int)), some (.inl (d g : Int)), some (.inl (bst S ((t : Int) - d g) : Int)), some (.inl (bsz S ((t : Int) - d g))), some (.inl (k : Int)), l12] [] F1 I1 J1 := by
        intro m2
        induction m2 with
        | zero =>
          intro k hk F1 I1 J1 C K l12 hst
          refine zgo (fun pc => Nat.beq pc 9) 200 hX hR rfl ?_
          refine And.intro (fun c1 => ?_) (fun c1 => by omega)
          have h5 := ih (g + 1) (by omega) F1 I1 J1 C K (some (.inl (d g : Int))) (some (.inl (bst S ((t : Int) - d g) : Int))) (some (.inl (bsz S ((t : Int) - d g)))) (some (.inl (k : Int))) l12 (by rw [eP, show (bsz S ((t : Int) - d g)).toNat = k by omega]; exact hst)
          rw [eP, show (bsz S ((t : Int) - d g)).toNat = k by omega] at h5
          exact h5
        | succ m2 ih2 =>
          intro k hk F1 I1 J1 C K l12 hst
          have hPP : flP S d t g + k < flP S d t G := by omega
          have hC180 := hst.2.2.limC hV (by omega)
          obtain ⟨⟨a1, a2, a3⟩, ⟨b1, b2, b3⟩, ce⟩ := id hst
          have hW5 := b1.2.2.2.2.1
          have hW25 := b2.2.2.2.2.1
          -- after the rows are opened
          have hv1 : bR (zu F1 va 2 ((C + 1 : Nat) : Int)) (zz J1 cva (C * W) (C * W + W)) va cva 905 W (C + 1) := (b1.count (C' := C + 1) (mul5 (M := 181) (by omega) hW5)).of (zz_lt b1.lt)
          have hs1 : bR (zu F1 va 2 ((C + 1 : Nat) : Int)) (zz J1 cva (C * W) (C * W + W)) so cso 905 W2 C := b2.frame (zu_r o1.symm) (zz_r n1.symm)
          have hs2 : bR (zu (zu F1 va 2 ((C + 1 : Nat) : Int)) so 2 ((C + 1 : Nat) : Int)) (zz (zz J1 cva (C * W) (C * W + W)) cso (C * W2) (C * W2 + W2)) so cso 905 W2 (C + 1) := (hs1.count (C' := C + 1) (mul5 (M := 181) (by omega) hW25)).of (zz_lt hs1.lt)
          have hs3 : bR (zu (zu F1 va 2 ((C + 1 : Nat) : Int)) so 2 ((C + 1 : Nat) : Int)) (bfl (zz (zz J1 cva (C * W) (C * W + W)) cso (C * W2) (C * W2 + W2)) cso W2 (C + 1) (C : Int) (flP S d t g + k) 1) so cso 905 W2 (C + 1) := hs2.of (bfl_lt2 hs2.lt (by decide))
          have hv3 : bR (zu (zu F1 va 2 ((C + 1 : Nat) : Int)) so 2 ((C + 1 : Nat) : Int)) (bfl (zz (zz J1 cva (C * W) (C * W + W)) cso (C * W2) (C * W2 + W2)) cso W2 (C + 1) (C : Int) (flP S d t g + k) 1) va cva 905 W (C + 1) := hv1.frame (zu_r o1) ((bfl_r n1).trans (zz_r n1))
          have hg4 : bR (zu (zu F1 va 2 ((C + 1 : Nat) : Int)) so 2 ((C + 1 : Nat) : Int)) (bfl (zz (zz J1 cva (C * W) (C * W + W)) cso (C * W2) (C * W2 + W2)) cso W2 (C + 1) (C : Int) (flP S d t g + k) 1) gof cgo 360 5 G := hG.frame ((zu_r o5).trans ((zu_r o4).trans (a1 gof o4 o5 o6))) ((bfl_r n3.symm).trans ((zz_r n3.symm).trans ((zz_r n2.symm).trans (a3 cgo n2.symm n3.symm n6.symm))))
          have hT1 : bT I1 nu st N S := bT_of hT (a2 nu j1 j2 j3) (a2 st k1 k2 k3)
          have eg : ∀ q, rq (bfl (zz (zz J1 cva (C * W) (C * W + W)) cso (C * W2) (C * W2 + W2)) cso W2 (C + 1) (C : Int) (flP S d t g + k) 1) cgo 5 g q = rq J cgo 5 g q := fun q => rq_of ((bfl_r n3.symm).trans ((zz_r n3.symm).trans ((zz_r n2.symm).trans (a3 cgo n2.symm n3.symm n6.symm)))) g q
          have egf : rq (bfl (zz (zz J1 cva (C * W) (C * W + W)) cso (C * W2) (C * W2 + W2)) cso W2 (C + 1) (C : Int) (flP S d t g + k) 1) cgo 5 g = rq J cgo 5 g := funext eg
          have esA : spA I1 ac A := spA_of hA (a2 ac s1 s2 s3)
          have ebw : bw (bfl (zz (zz J1 cva (C * W) (C * W + W)) cso (C * W2) (C * W2 + W2)) cso W2 (C + 1) (C : Int) (flP S d t g + k) 1) cgo 5 G (g : Int) 0 = bw J cgo 5 G (g : Int) 0 := bw_r ((bfl_r n3.symm).trans ((zz_r n3.symm).trans ((zz_r n2.symm).trans (a3 cgo n2.symm n3.symm n6.symm))))
          have ev : ∀ i q, rq (bfl (zz (zz J1 cva (C * W) (C * W + W)) cso (C * W2) (C * W2 + W2)) cso W2 (C + 1) (C : Int) (flP S d t g + k) 1) cva W i q = rq (zz J1 cva (C * W) (C * W + W)) cva W i q := fun i q => rq_of ((bfl_r n1).trans (zz_r n1)) i q
          -- what remains when the row is put
          have h163 : ∀ J2 : zJi, (∀ a, a ≠ cva → J2 a = bfl (zz (zz J1 cva (C * W) (C * W + W)) cso (C * W2) (C * W2 + W2)) cso W2 (C + 1) (C : Int) (flP S d t g + k) 1 a) → (∀ j, J2 cva j < 18446744073709551616) → (∀ i, i < C → rq J2 cva W i = rq J1 cva W i) → rq J2 cva W C = dv (flP S d t g + k) →
              HW X 163 [some (.inr (.inr (some p))), some (.inr (.inr (some f))), some (.inr (.inr none)), some (.inl (t : Int)), some (.inr (.inr (some no))), some (.inl ((flP S d t g + k : Nat) : Int)), some (.inl (-1)), some (.inl (g : Int)), some (.inl (d g : Int)), some (.inl (bst S ((t : Int) - d g) : Int)), some (.inl (bsz S ((t : Int) - d g))), some (.inl (k : Int)), some (.inl (C : Int))] [] (zu (zu F1 va 2 ((C + 1 : Nat) : Int)) so 2 ((C + 1 : Nat) : Int)) I1 J2 := by
            intro J2 x1 x2 x3 x4
            have hv5 : bR (zu (zu F1 va 2 ((C + 1 : Nat) : Int)) so 2 ((C + 1 : Nat) : Int)) J2 va cva 905 W (C + 1) := hv3.of x2
            have hs5 : bR (zu (zu F1 va 2 ((C + 1 : Nat) : Int)) so 2 ((C + 1 : Nat) : Int)) J2 so cso 905 W2 (C + 1) := hs3.frame rfl (x1 cso n1.symm)
            have hn5 : bR (zu (zu F1 va 2 ((C + 1 : Nat) : Int)) so 2 ((C + 1 : Nat) : Int)) J2 no cno 900 W2 K := b3.frame ((zu_r o3).trans (zu_r o2)) ((x1 cno n4).trans ((bfl_r n5).trans ((zz_r n5).trans (zz_r n4))))
            have hpv5 : pvR I1 J2 pi cva W C gp := pvR.of ce.1 x3 (fun q hq => by rw [x4]; exact hdvs _ hPP q hq) (fun _ _ => rfl)
            have y3 : ∀ i, i < C → rq J2 cso W2 i = rq J1 cso W2 i := fun i hi => by
              funext q
              rw [rq_of (x1 cso n1.symm), rq_bfl (Nat.lt_succ_self C) (by decide), decide_eq_false (by omega), Bool.false_and, Bool.xor_false, rq_zz (by omega), rq_of (zz_r n1.symm)]
            have y4 : ∀ q, rq J2 cso W2 C q = decide (q = flP S d t g + k) := fun q => by
              rw [rq_of (x1 cso n1.symm), rq_bfl (Nat.lt_succ_self C) (by decide), rq_zz0, Bool.false_xor]
              by_cases e : q = flP S d t g + k
              · rw [decide_eq_true e, decide_eq_true ⟨rfl, by omega, by omega⟩, e, Nat.sub_self]
                rfl
              · rw [decide_eq_false e]
                by_cases z : flP S d t g + k ≤ q
                · rw [tb_small (k := 1) (by decide) (by omega), Bool.and_false]
                · rw [decide_eq_false (by omega), Bool.false_and]
            refine zgo (fun pc => Nat.beq pc 78) 200 hX hR rfl ?_
            refine qX7_carryOver_159 hX (c_X7_keepOrDrop (xl X) (xD X) (xsh X) hs hva hso hno hpi n1 ⟨o2, o3⟩ o1 ⟨n4, n5⟩ _ I1 J2 hv5 hs5 hn5 hgp hpv5 (hst.room x3 x4 hPP hK)) hs.1 (fun v F6 I6 J6 hv' => ?_)
            obtain ⟨rfl, hpost⟩ := hv'
            obtain ⟨C', K', hco⟩ := hst.next n1 ⟨o2, o3⟩ o1 ⟨n4, n5⟩ hW rfl (fun a z1 z2 => (x1 a z1).trans ((bfl_r z2).trans ((zz_r z2).trans (zz_r z1)))) hv5 hs5 x3 x4 y3 y4 (hdvs _ hPP) hPP hK hpost
            have h6 := ih2 (k + 1) (by omega) F6 I6 J6 C' K' (some (.inl (C : Int))) hco
            exact h6
          refine zgo (fun pc => Nat.beq pc 78 || Nat.beq pc 163) 200 hX hR rfl ?_
          refine And.intro (fun c1 => by omega) (fun c1 => ?_)
          refine Exists.intro _ ⟨hs.1, ?_⟩
          refine qX7_carryOver_130 hX (c_X1_open (xl X) (xD X) (xsh X) hva F1 I1 J1 b1 (mul5 (M := 181) (by omega) hW5)) hva.1 (fun v F2 I2 J2 hv' => ?_)
          obtain ⟨rfl, rfl, rfl, rfl⟩ := hv'
          refine Exists.intro _ ⟨hs.1, ?_⟩
          refine Exists.intro _ ⟨hs.1, ?_⟩
          refine qX7_carryOver_130 hX (c_X1_open (xl X) (xD X) (xsh X) hso _ I2 _ hs1 (mul5 (M := 181) (by omega) hW25)) hso.1 (fun v F3 I3 J3 hv' => ?_)
          obtain ⟨rfl, rfl, rfl, rfl⟩ := hv'
          refine qX7_carryOver_133 hX (c_X1_flip (xl X) (xD X) (xsh X) hso _ I3 _ hs2 (row := (C : Int)) (p := flP S d t g + k) (b := 1) ⟨by omega, by omega⟩ (by omega) (by decide)) hso.1 (fun v F4 I4 J4 hv' => ?_)
          obtain ⟨rfl, rfl, rfl, rfl⟩ := hv'
          refine Exists.intro _ ⟨hs.1, ?_⟩
          refine qX7_carryOver_79 hX (c_X3_goals (xl X) (xD X) (xsh X) hf _ I4 _) hf.1 (fun v F5 I5 J5 hv' => ?_)
          obtain ⟨rfl, rfl, rfl, rfl⟩ := hv'
          refine qX7_carryOver_153 hX (c_X1_firstBits (xl X) (xD X) (xsh X) hgo _ I5 _ hg4 (row := (g : Int)) ⟨by omega, by omega⟩) hgo.1 (fun v F6 I6 J6 hv' => ?_)
          obtain ⟨rfl, rfl, rfl, rfl⟩ := hv'
          have hx1 : bw (bfl (zz (zz J1 cva (C * W) (C * W + W)) cso (C * W2) (C * W2 + W2)) cso W2 (C + 1) (C : Int) (flP S d t g + k) 1) cgo 5 G (g : Int) 0 % 2147483648 < 4096 := by
            rw [ebw]
            exact hx0 g hgG
          have hn5 : zu (zu F1 va 2 ((C + 1 : Nat) : Int)) so 2 ((C + 1 : Nat) : Int) sp 3 = (n : Int) := by rw [zu_r q5, zu_r q4, a1 sp q4 q5 q6]; exact hn
          have cP := c_X7_applyChain (xl X) (xD X) (xsh X) hs hb hsp _ I6 (bfl (zz (zz J1 cva (C * W) (C * W + W)) cso (C * W2) (C * W2 + W2)) cso W2 (C + 1) (C : Int) (flP S d t g + k) 1) hT1 hn5 hn2 esA (c := ((bst S ((t : Int) - d g) + k : Nat) : Int)) ⟨by omega, by omega⟩ hx1
          rw [show ((bst S ((t : Int) - d g) + k : Nat) : Int) = (bst S ((t : Int) - d g) : Int) + (k : Int) from rfl] at cP
          refine qX7_carryOver_156 hX cP hs.1 (fun v F7 I7 J7 hv' => ?_)
          obtain ⟨rfl, rfl, rfl, rfl⟩ := hv'
          have htl := tch_lt (N := N) hA hn2 (c := ((bst S ((t : Int) - d g) + k : Nat) : Int)) (hx0 g hgG)
          have cF := c_X1_flip (xl X) (xD X) (xsh X) hva _ I7 _ hv3 (row := (C : Int)) (p := 0) (b := tch A n N ((bst S ((t : Int) - d g) + k : Nat) : Int) (bw J cgo 5 G (g : Int) 0 % 2147483648)) ⟨by omega, by omega⟩ (by decide) (by omega)
          rw [← ebw] at cF
          refine qX7_carryOver_133 hX cF hva.1 (fun v F8 I8 J8 hv' => ?_)
          obtain ⟨rfl, rfl, rfl, rfl⟩ := hv'
          rw [ebw]
          refine h163 _ (fun a ha => bfl_r ha) (bfl_lt2 hv3.lt (by omega)) (fun i hi => ?_) ?_
          · funext q
            rw [rq_bfl (Nat.lt_succ_self C) (by omega), decide_eq_false (by omega), Bool.false_and, Bool.xor_false, ev, rq_zz (by omega)]
          · funext q
            rw [rq_bfl (Nat.lt_succ_self C) (by omega), ev, rq_zz0, Bool.false_xor, hdv g hgG k (by omega), Nat.sub_zero]
            congr 1
            exact decide_eq_decide.mpr ⟨fun z => z.2.2, fun z => ⟨rfl, Nat.zero_le _, z⟩⟩
      have h49 : HW X 49 [some (.inr (.inr (some p))), some (.inr (.inr (some f))), some (.inr (.inr none)), some (.inl (t : Int)), some (.inr (.inr (some no))), some (.inl (flP S d t g : Int)), some (.inl (-1)), some (.inl (g : Int)), some (.inl (d g : Int)), l9, l10, l11, l12] [] F1 I1 J1 := by
        have hT1 : bT I1 nu st N S := bT_of hT (hst.1.2.1 nu j1 j2 j3) (hst.1.2.1 st k1 k2 k3)
        have h7 := inner (bsz S ((t : Int) - d g)).toNat 0 (by omega) F1 I1 J1 C K l12 (by rw [Nat.add_zero]; exact hst)
        rw [Nat.add_zero] at h7
        refine zgo (fun pc => Nat.beq pc 78) 200 hX hR rfl ?_
        refine Exists.intro _ ⟨hs.1, ?_⟩
        refine qX7_carryOver_141 hX (c_X0_start (xl X) (xD X) (xsh X) hb F1 I1 J1 hT1 (d := (t : Int) - d g) ⟨by omega, by omega⟩) hb.1 (fun v F2 I2 J2 hv' => ?_)
        obtain ⟨rfl, rfl, rfl, rfl⟩ := hv'
        refine Exists.intro _ ⟨hs.1, ?_⟩
        refine qX7_carryOver_146 hX (c_X0_size (xl X) (xD X) (xsh X) hb F2 I2 J2 hT1 (d := (t : Int) - d g) ⟨by omega, by omega⟩) hb.1 (fun v F3 I3 J3 hv' => ?_)
        obtain ⟨rfl, rfl, rfl, rfl⟩ := hv'
        exact h7
      have hg' : F1 f 3 = (G : Int) := by rw [hst.1.1 f q1 q2 q3]; exact g1
      have hfR1 : flR F1 I1 f dgf G d := hfR.frame (hst.1.1 f q1 q2 q3) (hst.1.2.1 dgf i1 i2 i3)
      have hT1 : bT I1 nu st N S := bT_of hT (hst.1.2.1 nu j1 j2 j3) (hst.1.2.1 st k1 k2 k3)
      refine zgo (fun pc => Nat.beq pc 49) 200 hX hR rfl ?_
      refine qX7_carryOver_72 hX (c_X3_generators (xl X) (xD X) (xsh X) hf F1 I1 J1) hf.1 (fun v F2 I2 J2 hv' => ?_)
      obtain ⟨rfl, rfl, rfl, rfl⟩ := hv'
      rw [hg']
      refine And.intro (fun c1 => by omega) (fun c1 => ?_)
      refine qX7_carryOver_76 hX (c_X3_degreeOf (xl X) (xD X) (xsh X) hf F2 I2 J2 hfR1 (j := g) (by omega)) hf.1 (fun v F3 I3 J3 hv' => ?_)
      obtain ⟨rfl, rfl, rfl, rfl⟩ := hv'
      exact h49
  refine zgo (fun pc => Nat.beq pc 9) 200 hX hR rfl ?_
  refine loop G 0 (by omega) F I J 0 0 none none none none none ⟨⟨fun _ _ _ _ => rfl, fun _ _ _ _ => rfl, fun _ _ _ _ => rfl⟩, ⟨hv, hS2, hN⟩, EchI.start dv gp _ _ _ hpv⟩
