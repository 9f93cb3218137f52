/-! Tower: cover -/
theorem spn_mem {ι : Type} {n i : Nat} (h : i < n) (w : Nat → ι → Bool) : Spn n w (w i) := ⟨_, (vc_one h w).symm⟩
theorem spn_add {ι : Type} {n : Nat} {w : Nat → ι → Bool} {x y : ι → Bool} (hx : Spn n w x) (hy : Spn n w y) : Spn n w (vx x y) := by
  obtain ⟨c, rfl⟩ := hx
  obtain ⟨d, rfl⟩ := hy
  exact ⟨_, (vc_xor n c d w).symm⟩
theorem spn_ext {ι : Type} {n : Nat} {w w' : Nat → ι → Bool} {x : ι → Bool} (h : Spn n w x) {m : Nat} (hm : n ≤ m) (hw : ∀ i, i < n → w' i = w i) : Spn m w' x :=
  spn_trans h (fun i hi => by rw [← hw i hi]; exact spn_mem (by omega) w')
/-- one family behind another -/
def vap {ι : Type} (C : Nat) (v w : Nat → ι → Bool) (i : Nat) : ι → Bool := if i < C then v i else w (i - C)
theorem vap_l {ι : Type} {C i : Nat} (h : i < C) (v w : Nat → ι → Bool) : vap C v w i = v i := if_pos h
theorem vap_r {ι : Type} {C : Nat} (i : Nat) (v w : Nat → ι → Bool) : vap C v w (C + i) = w i := by
  unfold vap
  rw [if_neg (by omega), show C + i - C = i by omega]
/-- k rows are covered, by n generators -/
def cvR (F I : zFi) (J : zJi) (F' I' : zFi) (J' : zJi) (va so gof f pi dgf cva cso cgo cbl W W2 Wb C B g0 gp t k n : Nat) : Prop :=
  ((∀ a, a ≠ va → a ≠ so → a ≠ gof → a ≠ f → F' a = F a) ∧ (∀ a, a ≠ pi → a ≠ dgf → I' a = I a) ∧ (∀ a, a ≠ cva → a ≠ cso → a ≠ cgo → J' a = J a)) ∧
  (bR F' J' va cva 905 W (C + n) ∧ bR F' J' so cso 905 W2 (C + n) ∧ bR F' J' gof cgo 360 5 (g0 + n) ∧ F' f 3 = ((g0 + n : Nat) : Int)) ∧
  (∀ j, I' dgf j = if g0 ≤ j ∧ j < g0 + n then (t : Int) else I dgf j) ∧
  PvI gp (C + n) (rq J' cva W) (I' pi) ∧ (∀ i, i < C → rq J' cva W i = rq J cva W i) ∧
  ((∀ i, i < g0 → rq J' cgo 5 i = rq J cgo 5 i) ∧ ∀ i, i < n → rq J' cgo 5 (g0 + i) = rq J' cva W (C + i)) ∧
  (∀ i, i < n → Spn (C + B) (vap C (rq J cva W) (rq J cbl Wb)) (rq J' cva W (C + i))) ∧
  ∀ j, j < k → Spn (C + n) (rq J' cva W) (rq J cbl Wb j)
theorem pvR.of {I : zFi} {J : zJi} {pi cva W C gp : Nat} {v : Nat → Nat → Bool} {pv : Nat → Int} (h : PvI gp C v pv) (hv : ∀ i, i < C → rq J cva W i = v i) (hC : ∀ q, gp ≤ q → rq J cva W C q = false) (hp : ∀ l, l < gp → I pi l = pv l) : pvR I J pi cva W C gp := by
  refine ⟨fun l hl => ?_, fun i hi q hq => ?_⟩
  · rcases h.2.1 l hl with e | ⟨i, i1, i2, i3, i4⟩
    · exact Or.inl (by rw [hp l hl]; exact e)
    · exact Or.inr ⟨i, i1, by rw [hp l hl]; exact i2, by rw [hv i i1]; exact i3, fun q hq => by rw [hv i i1]; exact i4 q hq⟩
  · by_cases e : i = C
    · rw [e]
      exact hC q hq
    · rw [hv i (by omega)]
      exact h.2.2 i (by omega) q hq
theorem c_X7_cover (l : Launch) (D : va_G) (sh : Nat → Option zS) {p b sq sp fl kn va so pi ca ta ke cva cso f dgf gof cgo bl cbl : Nat} {P : Nat → Nat} (hs : zsTw sh p b sq sp fl kn va so pi ca ta ke P) (hva : zsBits sh va cva 905) (hso : zsBits sh so cso 905) (hpi : ∃ cA, sh pi = some (.inr (.inl (cA, 320)))) (hf : zsFl sh f b dgf gof) (hgo : zsBits sh gof cgo 360) (hbl : zsBits sh bl cbl 900)
    (hne : cva ≠ cso ∧ cva ≠ cgo ∧ cso ≠ cgo ∧ cbl ≠ cva ∧ cbl ≠ cso ∧ cbl ≠ cgo) (hno : va ≠ so ∧ va ≠ gof ∧ so ≠ gof ∧ bl ≠ va ∧ bl ≠ so ∧ bl ≠ gof) (hnf : f ≠ va ∧ f ≠ so ∧ f ≠ gof ∧ f ≠ bl ∧ dgf ≠ pi)
    (F I : zFi) (J : zJi) {W W2 Wb C B g0 gp t : Nat} (hv : bR F J va cva 905 W C) (hS : bR F J so cso 905 W2 C) (hB : bR F J bl cbl 900 Wb B) (hWb : Wb ≤ W) (hG : bR F J gof cgo 360 5 g0) (hfg : F f 3 = (g0 : Int)) (hgp : gp ≤ 320) (ht : t ≤ 14)
    (hP : PvI gp C (rq J cva W) (I pi)) (hsB : ∀ k, k < B → ∀ q, gp ≤ q → rq J cbl Wb k q = false)
    (hlim : ∀ n (w : Nat → Nat → Bool), Ind (C + n) w → (∀ i, i < C → w i = rq J cva W i) → (∀ i, i < n → Spn (C + B) (vap C (rq J cva W) (rq J cbl Wb)) (w (C + i))) → C + n ≤ 180 ∧ g0 + n ≤ 72) :
    Cn l D yX7_cover wsX7_cover mX7_cover.2.2.2.2 sh [.inr (.inr (some p)), .inr (.inr (some f)), .inr (.inr (some bl)), .inl (t : Int)] F I J (fun v F' I' J' => v = none ∧ ∃ n, cvR F I J F' I' J' va so gof f pi dgf cva cso cgo cbl W W2 Wb C B g0 gp t B n) := by
  obtain ⟨n1, n2, n3, n4, n5, n6⟩ := hne
  obtain ⟨o1, o2, o3, o4, o5, o6⟩ := hno
  obtain ⟨q1, q2, q3, q4, q5⟩ := hnf
  have hBC := hB.C
  have hW5 := hv.2.2.2.2.1
  have hW25 := hS.2.2.2.2.1
  refine zmet (M := mX7_cover) rfl rfl rfl kX7_cover (Nat.le_of_ble_eq_true rfl) (fun X hX hR hl0 hD hsh => ?_)
  subst hl0 hD hsh
  have loop : ∀ m k n F1 I1 J1 l5 l6, k + m = B → cvR F I J F1 I1 J1 va so gof f pi dgf cva cso cgo cbl W W2 Wb C B g0 gp t k n →
      HW X 3 [some (.inr (.inr (some p))), some (.inr (.inr (some f))), some (.inr (.inr (some bl))), some (.inl (t : Int)), some (.inl (k : Int)), l5, l6] [] F1 I1 J1 := by
    intro m
    induction m with
    | zero =>
      intro k n F1 I1 J1 l5 l6 hk hst
      have hB2 : F1 bl 2 = (B : Int) := by rw [hst.1.1 bl o4 o5 o6 q4.symm]; exact hB.2.1
      refine zgo (fun pc => Nat.beq pc 3) 200 hX hR rfl ?_
      refine qX7_cover_187 hX (c_X1_height (xl X) (xD X) (xsh X) hbl F1 I1 J1) hbl.1 (fun v F' I' J' hv' => ?_)
      obtain ⟨rfl, rfl, rfl, rfl⟩ := hv'
      rw [hB2]
      refine And.intro (fun c1 => ?_) (fun c1 => by omega)
      exact And.intro rfl ⟨n, by rw [show k = B by omega] at hst; exact hst⟩
    | succ m ih =>
      intro k n F1 I1 J1 l5 l6 hk hst
      have hB2 : F1 bl 2 = (B : Int) := by rw [hst.1.1 bl o4 o5 o6 q4.symm]; exact hB.2.1
      obtain ⟨⟨a1, a2, a3⟩, ⟨b1, b2, b3, b4⟩, d1, d2, d3, ⟨d4, d5⟩, d6, d7⟩ := hst
      have lim1 := hlim n (rq J1 cva W) d2.ind (fun i hi => d3 i hi) d6
      have hB1 : bR F1 J1 bl cbl 900 Wb B := hB.frame (a1 bl o4 o5 o6 q4.symm) (a3 cbl n4 n5 n6)
      have ebl : ∀ j q, rq J1 cbl Wb j q = rq J cbl Wb j q := fun j q => rq_of (a3 cbl n4 n5 n6) j q
      -- the row as it is put
      have hv2 : bR (zu F1 va 2 ((C + n + 1 : Nat) : Int)) (bcp J1 cva W (C + n) cbl Wb B (k : Int) W) va cva 905 W (C + n + 1) := (b1.count (C' := C + n + 1) (mul5 (M := 181) (by omega) hW5)).of (bcp_lt b1.lt hB1)
      have hS2 : bR (zu F1 va 2 ((C + n + 1 : Nat) : Int)) (bcp J1 cva W (C + n) cbl Wb B (k : Int) W) so cso 905 W2 (C + n) := b2.frame (zu_r o1.symm) (bcp_r n1.symm)
      have hS3 : bR (zu (zu F1 va 2 ((C + n + 1 : Nat) : Int)) so 2 ((C + n + 1 : Nat) : Int)) (zz (bcp J1 cva W (C + n) cbl Wb B (k : Int) W) cso ((C + n) * W2) ((C + n) * W2 + W2)) so cso 905 W2 (C + n + 1) := (hS2.count (C' := C + n + 1) (mul5 (M := 181) (by omega) hW25)).of (zz_lt hS2.lt)
      have hv3 : bR (zu (zu F1 va 2 ((C + n + 1 : Nat) : Int)) so 2 ((C + n + 1 : Nat) : Int)) (zz (bcp J1 cva W (C + n) cbl Wb B (k : Int) W) cso ((C + n) * W2) ((C + n) * W2 + W2)) va cva 905 W (C + n + 1) := hv2.frame (zu_r o1) (zz_r n1)
      have r3 : ∀ i, i < C + n → rq (zz (bcp J1 cva W (C + n) cbl Wb B (k : Int) W) cso ((C + n) * W2) ((C + n) * W2 + W2)) cva W i = rq J1 cva W i := fun i hi => by
        funext q
        rw [rq_of (zz_r n1), rq_bcp (by omega)]
      have rn : ∀ q, rq (zz (bcp J1 cva W (C + n) cbl Wb B (k : Int) W) cso ((C + n) * W2) ((C + n) * W2 + W2)) cva W (C + n) q = rq J cbl Wb k q := fun q => by
        rw [rq_of (zz_r n1), rq_bcp0 (by omega), ebl]
        by_cases hq : q < 64 * W
        · rw [decide_eq_true hq, Bool.true_and]
        · rw [rq_out (by omega), Bool.and_false]
      have hpv : pvR I1 (zz (bcp J1 cva W (C + n) cbl Wb B (k : Int) W) cso ((C + n) * W2) ((C + n) * W2 + W2)) pi cva W (C + n) gp := pvR.of d2 r3 (fun q hq => by rw [rn]; exact hsB k (by omega) q hq) (fun _ _ => rfl)
      refine zgo (fun pc => Nat.beq pc 3) 200 hX hR rfl ?_
      refine qX7_cover_187 hX (c_X1_height (xl X) (xD X) (xsh X) hbl F1 I1 J1) hbl.1 (fun v F' I' J' hv' => ?_)
      obtain ⟨rfl, rfl, rfl, rfl⟩ := hv'
      rw [hB2]
      refine And.intro (fun c1 => by omega) (fun c1 => ?_)
      refine Exists.intro _ ⟨hs.1, ?_⟩
      refine qX7_cover_180 hX (c_X1_copy (xl X) (xD X) (xsh X) hva hbl o4 n4 F' I' J' b1 hB1 (mul5 (M := 181) (by omega) hW5) (row := (k : Int)) ⟨by omega, by omega⟩) hva.1 (fun v F2 I2 J2 hv' => ?_)
      obtain ⟨rfl, rfl, rfl, rfl⟩ := hv'
      refine Exists.intro _ ⟨hs.1, ?_⟩
      refine qX7_cover_130 hX (c_X1_open (xl X) (xD X) (xsh X) hso _ I2 _ hS2 (mul5 (M := 181) (by omega) hW25)) hso.1 (fun v F3 I3 J3 hv' => ?_)
      obtain ⟨rfl, rfl, rfl, rfl⟩ := hv'
      refine qX7_cover_177 hX (c_X7_reduce (xl X) (xD X) (xsh X) hs hva hso hpi n1 _ I3 _ hv3 hS3 (r := C + n) (by omega) hgp hpv) hs.1 (fun v F4 I4 J4 hv' => ?_)
      obtain ⟨rfl, rfl, cf, x, rfl, hrd, hx⟩ := hv'
      obtain ⟨e1, e2, e3, e4, e5, e6, e7⟩ := hrd
      have hv4 := hv3.of e2
      have hS4 := hS3.of e3
      have jg : J4 cgo = J' cgo := by rw [e1 cgo n2.symm n3.symm, zz_r n3.symm, bcp_r n2.symm]
      have ja : ∀ a, a ≠ cva → a ≠ cso → a ≠ cgo → J4 a = J a := fun a g1 g2 g3 => by rw [e1 a g1 g2, zz_r g2, bcp_r g1, a3 a g1 g2 g3]
      have rw4 : ∀ i, i < C + n → rq J4 cva W i = rq J' cva W i := fun i hi => by
        funext q
        rw [e4 i (by omega)]
        exact congrFun (r3 i hi) q
      have rwn : rq J4 cva W (C + n) = vx (rq J cbl Wb k) (vc (C + n) cf (rq J' cva W)) := by
        funext q
        rw [e6 q, rn q]
        unfold vx
        congr 1
        exact congrFun (vc_congr (fun _ _ => rfl) r3) q
      have hsup : ∀ q, gp ≤ q → rq J4 cva W (C + n) q = false := fun q hq => by
        rw [rwn]
        unfold vx
        rw [hsB k (by omega) q hq, Bool.false_xor]
        exact xs_zero' fun i hi => by rw [d2.2.2 i hi q hq, Bool.and_false]
      have hold : ∀ i, i < C + n → Spn (C + B) (vap C (rq J cva W) (rq J cbl Wb)) (rq J' cva W i) := fun i hi => by
        rcases Nat.lt_or_ge i C with g | g
        · rw [d3 i g, ← vap_l g (rq J cva W) (rq J cbl Wb)]
          exact spn_mem (by omega) _
        · have := d6 (i - C) (by omega)
          rw [show C + (i - C) = i by omega] at this
          exact this
      have hnew : Spn (C + B) (vap C (rq J cva W) (rq J cbl Wb)) (rq J4 cva W (C + n)) := by
        rw [rwn]
        refine spn_add ?_ (spn_trans ⟨cf, rfl⟩ hold)
        rw [← vap_r (C := C) k (rq J cva W) (rq J cbl Wb)]
        exact spn_mem (by omega) _
      rcases hx with ⟨rfl, hz⟩ | ⟨t', t1, rfl, t2, t3, t4⟩
      · have hu : rq J cbl Wb k = vc (C + n) cf (rq J' cva W) := by
          funext q
          have := congrFun rwn q
          rw [hz q] at this
          unfold vx at this
          cases h1 : rq J cbl Wb k q <;> cases h2 : vc (C + n) cf (rq J' cva W) q <;> rw [h1, h2] at this <;> first | rfl | cases this
        refine And.intro (fun c2 => ?_) (fun c2 => absurd (by decide) c2)
        refine And.intro (fun c3 => by omega) (fun c3 => ?_)
        refine Exists.intro _ ⟨hs.1, ?_⟩
        refine qX7_cover_184 hX (c_X1_dropLast (xl X) (xD X) (xsh X) hva _ _ _ hv4) hva.1 (fun v F5 I5 J5 hv' => ?_)
        obtain ⟨rfl, rfl, rfl, rfl⟩ := hv'
        have hS5 := hS4.frame (F' := zu (zu (zu F' va 2 ((C + n + 1 : Nat) : Int)) so 2 ((C + n + 1 : Nat) : Int)) va 2 ((C + n : Nat) : Int)) (J' := J5) (zu_r o1.symm) rfl
        refine Exists.intro _ ⟨hs.1, ?_⟩
        refine qX7_cover_184 hX (c_X1_dropLast (xl X) (xD X) (xsh X) hso _ _ _ hS5) hso.1 (fun v F6 I6 J6 hv' => ?_)
        obtain ⟨rfl, rfl, rfl, rfl⟩ := hv'
        refine ih (k + 1) n _ _ _ _ _ (by omega) ⟨⟨fun a g1 g2 g3 g4 => ?_, a2, ja⟩, ⟨?_, ?_, ?_, ?_⟩, d1, d2.same rw4 (fun _ _ => rfl), fun i hi => ?_, ⟨fun i hi => ?_, fun i hi => ?_⟩, fun i hi => ?_, fun j hj => ?_⟩
        · rw [zu_r g2, zu_r g1, zu_r g2, zu_r g1]
          exact a1 a g1 g2 g3 g4
        · exact (hv4.count (C' := C + n) b1.2.2.1).frame (zu_r o1) rfl
        · exact hS5.count (C' := C + n) b2.2.2.1
        · exact b3.frame (by rw [zu_r o3.symm, zu_r o2.symm, zu_r o3.symm, zu_r o2.symm]) jg
        · rw [zu_r q2, zu_r q1, zu_r q2, zu_r q1]
          exact b4
        · rw [rw4 i (by omega)]
          exact d3 i hi
        · funext q
          rw [rq_of jg]
          exact congrFun (d4 i hi) q
        · funext q
          rw [rq_of jg, rw4 (C + i) (by omega)]
          exact congrFun (d5 i hi) q
        · rw [rw4 (C + i) (by omega)]
          exact d6 i hi
        · rcases Nat.lt_or_ge j k with g | g
          · exact spn_ext (d7 j g) (Nat.le_refl _) rw4
          · rw [show j = k by omega, hu]
            exact spn_ext ⟨cf, rfl⟩ (Nat.le_refl _) rw4
      · obtain ⟨cA, hpi⟩ := hpi
        have hpv2 : PvI gp (C + n + 1) (rq J4 cva W) (zu I4 pi t' ((C + n : Nat) : Int) pi) := d2.add rw4 t1 t2 t3 t4 hsup (fun x _ => by
          unfold zu
          by_cases e : x = t'
          · rw [if_pos ⟨rfl, e⟩, if_pos e]
          · rw [if_neg (fun z => e z.2), if_neg e])
        have lim2 := hlim (n + 1) (rq J4 cva W) hpv2.ind (fun i hi => by rw [rw4 i (by omega)]; exact d3 i hi) (fun i hi => by
          rcases Nat.lt_or_ge i n with g | g
          · rw [rw4 (C + i) (by omega)]
            exact d6 i g
          · rw [show i = n by omega]
            exact hnew)
        refine And.intro (fun c2 => by omega) (fun c2 => ?_)
        refine Exists.intro _ ⟨hs.1, ?_⟩
        refine Exists.intro _ ⟨hpi, ?_⟩
        refine And.intro (fun c3 => by omega) (fun c3 => ?_)
        refine Exists.intro _ ⟨hs.1, ?_⟩
        refine Exists.intro _ ⟨_, t', hpi, rfl, by omega, ?_⟩
        refine Exists.intro _ ⟨hs.1, ?_⟩
        have hf3 : zu (zu F' va 2 ((C + n + 1 : Nat) : Int)) so 2 ((C + n + 1 : Nat) : Int) f 3 = ((g0 + n : Nat) : Int) := by rw [zu_r q2, zu_r q1]; exact b4
        have hG4 : bR (zu (zu F' va 2 ((C + n + 1 : Nat) : Int)) so 2 ((C + n + 1 : Nat) : Int)) J4 gof cgo 360 5 (g0 + n) := b3.frame (by rw [zu_r o3.symm, zu_r o2.symm]) jg
        refine qX7_cover_190 hX (c_X3_add (xl X) (xD X) (xsh X) hf hgo hva o2 n2 _ (zu I4 pi t' ((C + n : Nat) : Int)) J4 hf3 (by omega) hG4 hv4 (by omega) (row := ((C + n : Nat) : Int)) ⟨by omega, by omega⟩) hf.1 (fun v F5 I5 J5 hv' => ?_)
        obtain ⟨rfl, rfl, rfl, rfl⟩ := hv'
        have rv : ∀ i, rq (bcp J4 cgo 5 (g0 + n) cva W (C + n + 1) ((C + n : Nat) : Int) 5) cva W i = rq J4 cva W i := fun i => by
          funext q
          exact rq_of (bcp_r n2) i q
        have hnf : g0 + (n + 1) = g0 + n + 1 := rfl
        refine ih (k + 1) (n + 1) _ _ _ _ _ (by omega) ⟨⟨fun a g1 g2 g3 g4 => ?_, fun a g1 g2 => ?_, fun a g1 g2 g3 => ?_⟩, ⟨?_, ?_, ?_, ?_⟩, fun j => ?_, ?_, fun i hi => ?_, ⟨fun i hi => ?_, fun i hi => ?_⟩, fun i hi => ?_, fun j hj => ?_⟩
        · rw [zu_r g4, zu_r g3, zu_r g2, zu_r g1]
          exact a1 a g1 g2 g3 g4
        · rw [zu_r g2, zu_r g1]
          exact a2 a g1 g2
        · rw [bcp_r g3]
          exact ja a g1 g2 g3
        · exact hv4.frame (by rw [zu_r q1.symm, zu_r o2]) (bcp_r n2)
        · exact hS4.frame (by rw [zu_r q2.symm, zu_r o3]) (bcp_r n3)
        · exact ((hG4.count (C' := g0 + n + 1) (by omega)).of (bcp_lt hG4.lt hv4)).frame (zu_r q3.symm) rfl
        · rw [zu_s]
          rfl
        · by_cases e : j = g0 + n
          · rw [e, zu_s, if_pos (by omega)]
          · rw [zu_n (fun z => e z.2), zu_r q5, d1 j]
            by_cases e2 : g0 ≤ j ∧ j < g0 + n
            · rw [if_pos e2, if_pos (by omega)]
            · rw [if_neg e2, if_neg (by omega)]
        · rw [zu_r q5.symm]
          exact hpv2.same (fun i _ => rv i) (fun _ _ => rfl)
        · rw [rv, rw4 i (by omega)]
          exact d3 i hi
        · funext q
          rw [rq_bcp (by omega), rq_of jg]
          exact congrFun (d4 i hi) q
        · funext q
          rcases Nat.lt_or_ge i n with g | g
          · rw [rq_bcp (by omega), rq_of jg, rv, rw4 (C + i) (by omega)]
            exact congrFun (d5 i g) q
          · rw [show i = n by omega, rq_bcp0 (by omega), rv]
            by_cases hq : q < 64 * 5
            · rw [decide_eq_true hq, Bool.true_and]
            · rw [rq_out (by omega), Bool.and_false]
        · rw [rv]
          rcases Nat.lt_or_ge i n with g | g
          · rw [rw4 (C + i) (by omega)]
            exact d6 i g
          · rw [show i = n by omega]
            exact hnew
        · have w1 : ∀ i, i < C + n → rq (bcp J4 cgo 5 (g0 + n) cva W (C + n + 1) ((C + n : Nat) : Int) 5) cva W i = rq J' cva W i := fun i hi => by rw [rv, rw4 i hi]
          rcases Nat.lt_or_ge j k with g | g
          · exact spn_ext (d7 j g) (by omega) w1
          · rw [show j = k by omega]
            have hu : rq J cbl Wb k = vx (rq (bcp J4 cgo 5 (g0 + n) cva W (C + n + 1) ((C + n : Nat) : Int) 5) cva W (C + n)) (vc (C + n) cf (rq J' cva W)) := by
              rw [rv, rwn, vx_assoc, vx_self, vx_0]
            rw [hu]
            exact spn_add (spn_mem (by omega) _) (spn_ext ⟨cf, rfl⟩ (by omega) w1)
  refine zgo (fun pc => Nat.beq pc 3) 200 hX hR rfl ?_
  refine loop B 0 0 F I J none none (by omega) ⟨⟨fun _ _ _ _ _ => rfl, fun _ _ _ => rfl, fun _ _ _ _ => rfl⟩, ⟨hv, hS, hG, hfg⟩, fun j => ?_, hP, fun _ _ => rfl, ⟨fun _ _ => rfl, fun i hi => by omega⟩, fun i hi => by omega, fun j hj => by omega⟩
  rw [if_neg (by omega)]
