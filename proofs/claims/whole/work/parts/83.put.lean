/-! Tower: putProduct -/
/-- what is put: the sum over the bits of a goal -/
def pps (goal : Nat → Bool) (pr TG : Nat → Nat) (lim n q : Nat) : Bool := xs_ n (fun x => goal x && (decide (TG x ≤ q ∧ q < lim) && (pr x).testBit (q - TG x)))
theorem pps_skip {goal : Nat → Bool} {pr TG : Nat → Nat} {lim a : Nat} (q : Nat) : ∀ n, (∀ x, a ≤ x → x < a + n → goal x = false) → pps goal pr TG lim (a + n) q = pps goal pr TG lim a q := by
  intro n h
  unfold pps
  rw [xs_add, xs_zero' (f := fun j => goal (a + j) && (decide (TG (a + j) ≤ q ∧ q < lim) && (pr (a + j)).testBit (q - TG (a + j)))) (fun j hj => by rw [h (a + j) (by omega) (by omega), Bool.false_and]), Bool.xor_false]
theorem c_X7_putProduct (l : Launch) (D : va_G) (sh : Nat → Option zS) {p b sq sp fl kn va so pi ca ta ke cva k c pr : Nat} {P : Nat → Nat} (hs : zsTw sh p b sq sp fl kn va so pi ca ta ke P) (hva : zsBits sh va cva 905) (hk : zsBits sh k c 360) (hca : ∃ cA, sh ca = some (.inr (.inl (cA, 320)))) (hta : ∃ cA, sh ta = some (.inr (.inl (cA, 320)))) (hsq : zsSq sh sq b pr) (hne : c ≠ cva)
    (F I : zFi) (J : zJi) {W C C2 r g ch Pl : Nat} {GP : Nat → Nat → Nat} {CH TG : Nat → Nat} (hv : bR F J va cva 905 W C) (hr : r < C) (hg : bR F J k c 360 5 C2) (hgC : g < C2) (hsqT : sqT I pr GP) (hch : ch < 61) (hPl : Pl ≤ 300)
    (hl : ∀ x, x < Pl → I ca x = (CH x : Int) ∧ CH x < 61 ∧ I ta x = (TG x : Int) ∧ TG x < 10000) (hG : ∀ x, Pl ≤ x → rq J c 5 g x = false) :
    Cn l D yX7_putProduct wsX7_putProduct mX7_putProduct.2.2.2.2 sh [.inr (.inr (some p)), .inl (r : Int), .inl (ch : Int), .inr (.inr (some k)), .inl (g : Int)] F I J (fun v F' I' J' => v = none ∧ F' = F ∧ I' = I ∧ (∀ a, a ≠ cva → J' a = J a) ∧ (∀ j, J' cva j < 18446744073709551616) ∧ (∀ i, i ≠ r → ∀ q, rq J' cva W i q = rq J cva W i q) ∧
      ∀ q, rq J' cva W r q = (rq J cva W r q ^^ pps (rq J c 5 g) (fun x => GP ch (CH x)) TG (64 * W) Pl q)) := by
  obtain ⟨cA1, hca⟩ := hca
  obtain ⟨cA2, hta⟩ := hta
  have hC := hv.C
  have hC2 := hg.C
  refine zmet (M := mX7_putProduct) rfl rfl rfl kX7_putProduct (Nat.le_of_ble_eq_true rfl) (fun X hX hR hl0 hD hsh => ?_)
  subst hl0 hD hsh
  have loop : ∀ (m f T : Nat) (pl : Int) (J1 : zJi), f + m = Pl → T ≤ f → pl + 1 = (f : Int) → (∀ a, a ≠ cva → J1 a = J a) → (∀ j, J1 cva j < 18446744073709551616) → (∀ i, i ≠ r → ∀ q, rq J1 cva W i q = rq J cva W i q) → (∀ q, rq J1 cva W r q = (rq J cva W r q ^^ pps (rq J c 5 g) (fun x => GP ch (CH x)) TG (64 * W) f q)) →
      HW X 6 [some (.inr (.inr (some p))), some (.inl (r : Int)), some (.inl (ch : Int)), some (.inr (.inr (some k))), some (.inl (g : Int)), some (.inl pl), some (.inl (T : Int))] [] F I J1 := by
    intro m
    induction m using Nat.strongRecOn with
    | ind m ih =>
      intro f T pl J1 hm hT hpl h1 h2 h3 h4
      have hg1 : bR F J1 k c 360 5 C2 := hg.frame rfl (h1 c hne)
      have hv1 : bR F J1 va cva 905 W C := hv.of h2
      refine zgo (fun pc => Nat.beq pc 6) 200 hX hR rfl ?_
      refine Exists.intro _ ⟨hs.1, ?_⟩
      refine Exists.intro _ ⟨hca, ?_⟩
      refine And.intro (fun c1 => by omega) (fun c1 => ?_)
      have cN := c_X1_next (xl X) (xD X) (xsh X) hk F I J1 hg1 (r := g) (p0 := f) hgC (by omega)
      rw [← hpl] at cN
      refine qX7_putProduct_163 hX cN hk.1 (fun v F' I' J' hv' => ?_)
      obtain ⟨⟨x, rfl, hx⟩, rfl, rfl, rfl⟩ := hv'
      have eg : ∀ q, rq J' c 5 g q = rq J c 5 g q := fun q => rq_of (h1 c hne) g q
      rcases hx with ⟨rfl, hx⟩ | ⟨t, rfl, t1, t2, t3, t4⟩
      · refine And.intro (fun c3 => ?_) (fun c3 => absurd (by decide) c3)
        refine And.intro rfl ⟨rfl, rfl, h1, h2, h3, fun q => ?_⟩
        rw [h4 q, ← hm, pps_skip q m (fun y g1 g2 => ?_)]
        rw [← eg, ← rb_rq hgC]
        exact hx y g1 (by omega)
      · rw [rb_rq hgC, eg] at t3
        have tP : t < Pl := by
          rcases Nat.lt_or_ge t Pl with z | z
          · exact z
          · rw [hG t z] at t3
            cases t3
        obtain ⟨e1, e2, e3, e4⟩ := hl t tP
        have hsp : spd GP (ch : Int) (CH t : Int) = GP ch (CH t) := by
          unfold spd
          rw [if_pos (by omega)]
          rfl
        refine And.intro (fun c3 => by omega) (fun c3 => ?_)
        refine Exists.intro _ ⟨hs.1, ?_⟩
        refine Exists.intro _ ⟨hca, ?_⟩
        refine And.intro (fun c4 => by omega) (fun c4 => ?_)
        refine Exists.intro _ ⟨hs.1, ?_⟩
        refine Exists.intro _ ⟨hta, ?_⟩
        refine And.intro (fun c5 => ?_) (fun c5 => by omega)
        refine Exists.intro _ ⟨hs.1, ?_⟩
        refine Exists.intro _ ⟨hs.1, ?_⟩
        refine Exists.intro _ ⟨_, t, hta, rfl, by omega, ?_⟩
        refine Exists.intro _ ⟨hs.1, ?_⟩
        refine Exists.intro _ ⟨hs.1, ?_⟩
        refine Exists.intro _ ⟨_, t, hca, rfl, by omega, ?_⟩
        have cP := c_X6_product (xl X) (xD X) (xsh X) hsq F' I' J' hsqT (u := (ch : Int)) (v := (CH t : Int)) ⟨by omega, by omega⟩ ⟨by omega, by omega⟩
        rw [hsp, ← e1] at cP
        refine qX7_putProduct_166 hX cP hsq.1 (fun v F2 I2 J2 hv' => ?_)
        obtain ⟨rfl, rfl, rfl, rfl⟩ := hv'
        have hlt : GP ch (CH t) < 1073741824 := (hsqT ch (CH t) hch e2).2
        have cF := c_X1_flip (xl X) (xD X) (xsh X) hva F2 I2 J2 hv1 (row := (r : Int)) (p := TG t) (b := GP ch (CH t)) ⟨by omega, by omega⟩ (by omega) (by omega)
        rw [← e3] at cF
        refine qX7_putProduct_133 hX cF hva.1 (fun v F3 I3 J3 hv' => ?_)
        obtain ⟨rfl, rfl, rfl, rfl⟩ := hv'
        refine ih (Pl - (t + 1)) (by omega) (t + 1) (T + 1) (t : Int) _ (by omega) (by omega) (by omega) (fun a ha => ?_) (bfl_lt2 h2 (by omega)) (fun i hi q => ?_) (fun q => ?_)
        · rw [bfl_r ha, h1 a ha]
        · rw [rq_bfl hr (by omega), decide_eq_false (by omega), Bool.false_and, Bool.xor_false, h3 i hi]
        · rw [rq_bfl hr (by omega), h4 q]
          have es : pps (rq J c 5 g) (fun x => GP ch (CH x)) TG (64 * W) (t + 1) q = (pps (rq J c 5 g) (fun x => GP ch (CH x)) TG (64 * W) t q ^^ (rq J c 5 g t && (decide (TG t ≤ q ∧ q < 64 * W) && (GP ch (CH t)).testBit (q - TG t)))) := rfl
          have ek : pps (rq J c 5 g) (fun x => GP ch (CH x)) TG (64 * W) t q = pps (rq J c 5 g) (fun x => GP ch (CH x)) TG (64 * W) f q := by
            have := pps_skip (goal := rq J c 5 g) (pr := fun x => GP ch (CH x)) (TG := TG) (lim := 64 * W) (a := f) q (t - f) (fun y g1 g2 => by
              rw [← eg, ← rb_rq hgC]
              exact t4 y g1 (by omega))
            rw [show f + (t - f) = t by omega] at this
            exact this
          rw [es, ek, t3, Bool.true_and, Bool.xor_assoc]
          congr 3
          exact decide_eq_decide.mpr ⟨fun z => z.2, fun z => ⟨rfl, z⟩⟩
  refine zgo (fun pc => Nat.beq pc 6) 200 hX hR rfl ?_
  refine loop Pl 0 0 (-1) J (by omega) (Nat.le_refl 0) (by decide) (fun _ _ => rfl) hv.lt (fun _ _ _ => rfl) (fun q => ?_)
  rw [show pps (rq J c 5 g) (fun x => GP ch (CH x)) TG (64 * W) 0 q = false from rfl, Bool.xor_false]
