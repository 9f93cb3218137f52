/-! Tower: reduce, keepOrDrop -/
theorem bR.of {F : zFi} {J J' : zJi} {k c m W C : Nat} (h : bR F J k c m W C) (hj : ∀ j, J' c j < 18446744073709551616) : bR F J' k c m W C := ⟨h.1, h.2.1, h.2.2.1, h.2.2.2.1, h.2.2.2.2.1, h.2.2.2.2.2.1, hj⟩
theorem bR.lt {F : zFi} {J : zJi} {k c m W C : Nat} (h : bR F J k c m W C) : ∀ j, J c j < 18446744073709551616 := h.2.2.2.2.2.2
/-- rows of those ahead have been added to row r -/
def rdC (cf : Nat → Bool) (J J' : zJi) (cva cso W W2 r : Nat) : Prop :=
  (∀ a, a ≠ cva → a ≠ cso → J' a = J a) ∧ (∀ j, J' cva j < 18446744073709551616) ∧ (∀ j, J' cso j < 18446744073709551616) ∧
  (∀ i, i ≠ r → ∀ q, rq J' cva W i q = rq J cva W i q) ∧ (∀ i, i ≠ r → ∀ q, rq J' cso W2 i q = rq J cso W2 i q) ∧
  (∀ q, rq J' cva W r q = (rq J cva W r q ^^ vc r cf (rq J cva W) q)) ∧ ∀ q, rq J' cso W2 r q = (rq J cso W2 r q ^^ vc r cf (rq J cso W2) q)
theorem rdC.refl {J : zJi} {cva cso W W2 r : Nat} (h1 : ∀ j, J cva j < 18446744073709551616) (h2 : ∀ j, J cso j < 18446744073709551616) : rdC (fun _ => false) J J cva cso W W2 r :=
  ⟨fun _ _ _ => rfl, h1, h2, fun _ _ _ => rfl, fun _ _ _ => rfl, fun q => by rw [vc_0]; unfold v0; rw [Bool.xor_false], fun q => by rw [vc_0]; unfold v0; rw [Bool.xor_false]⟩
theorem vc_flip {ι : Type} {n o : Nat} (ho : o < n) (cf : Nat → Bool) (w : Nat → ι → Bool) (q : ι) : vc n (fun i => cf i ^^ decide (i = o)) w q = (vc n cf w q ^^ w o q) := by
  rw [vc_xor, vc_one ho]
  rfl
theorem rdC.step {cf : Nat → Bool} {J J' : zJi} {cva cso W W2 r o : Nat} (h : rdC cf J J' cva cso W W2 r) (ho : o < r) (hne : cva ≠ cso) : rdC (fun i => cf i ^^ decide (i = o)) J (bad (bad J' cva W r o W) cso W2 r o W2) cva cso W W2 r := by
  obtain ⟨h1, h2, h3, h4, h5, h6, h7⟩ := h
  have e1 : bad (bad J' cva W r o W) cso W2 r o W2 cva = bad J' cva W r o W cva := bad_r hne
  have e2 : bad J' cva W r o W cso = J' cso := bad_r hne.symm
  refine ⟨fun a g1 g2 => ?_, fun j => ?_, ?_, fun i hi q => ?_, fun i hi q => ?_, fun q => ?_, fun q => ?_⟩
  · rw [bad_r g2, bad_r g1, h1 a g1 g2]
  · rw [e1]
    exact bad_lt h2 j
  · exact bad_lt (fun j => by rw [e2]; exact h3 j)
  · rw [rq_of e1, rq_bad hi, h4 i hi]
  · rw [rq_bad hi, rq_of e2, h5 i hi]
  · rw [rq_of e1, rq_bad0, h6, h4 o (by omega), vc_flip ho, Bool.xor_assoc]
  · rw [rq_bad0, rq_of e2, rq_of e2, h7, h5 o (by omega), vc_flip ho, Bool.xor_assoc]
/-- where the row leads then -/
def rdR (I : zFi) (J' : zJi) (pi cva W r gp : Nat) (x : Int) : Prop := (x = -1 ∧ ∀ q, rq J' cva W r q = false) ∨ ∃ l : Nat, l < gp ∧ x = (l : Int) ∧ I pi l = -1 ∧ rq J' cva W r l = true ∧ ∀ q, q < l → rq J' cva W r q = false
def pvR (I : zFi) (J : zJi) (pi cva W r gp : Nat) : Prop := (∀ l, l < gp → I pi l = -1 ∨ ∃ i : Nat, i < r ∧ I pi l = (i : Int) ∧ rq J cva W i l = true ∧ ∀ q, q < l → rq J cva W i q = false) ∧ ∀ i, i ≤ r → ∀ q, gp ≤ q → rq J cva W i q = false
theorem c_X7_reduce (l : Launch) (D : va_G) (sh : Nat → Option zS) {p b sq sp fl kn va so pi ca ta ke cva cso : Nat} {P : Nat → Nat} (hs : zsTw sh p b sq sp fl kn va so pi ca ta ke P) (hva : zsBits sh va cva 905) (hso : zsBits sh so cso 905) (hpi : ∃ cA, sh pi = some (.inr (.inl (cA, 320)))) (hne : cva ≠ cso) (F I : zFi) (J : zJi) {W W2 C r gp : Nat} (hv : bR F J va cva 905 W C) (hS : bR F J so cso 905 W2 C) (hr : r < C) (hgp : gp ≤ 320) (hp : pvR I J pi cva W r gp) :
    Cn l D yX7_reduce wsX7_reduce mX7_reduce.2.2.2.2 sh [.inr (.inr (some p)), .inl (r : Int)] F I J (fun v F' I' J' => F' = F ∧ I' = I ∧ ∃ cf x, v = some (.inl x) ∧ rdC cf J J' cva cso W W2 r ∧ rdR I J' pi cva W r gp x) := by
  obtain ⟨cA, hpi⟩ := hpi
  have hC := hv.C
  have hW5 := hv.2.2.2.2.1
  refine zmet (M := mX7_reduce) rfl rfl rfl kX7_reduce (Nat.le_of_ble_eq_true rfl) (fun X hX hR hl hD hsh => ?_)
  subst hl hD hsh
  have loop : ∀ m k lo z J1 cf l4, k + m = 321 → k ≤ z → lo ≤ z → lo ≤ 320 → (∀ q, q < z → rq J1 cva W r q = false) → rdC cf J J1 cva cso W W2 r → HW X 4 [some (.inr (.inr (some p))), some (.inl (r : Int)), some (.inl (lo : Int)), some (.inl (k : Int)), l4] [] F I J1 := by
    intro m
    induction m with
    | zero =>
      intro k lo z J1 cf l4 hk hz hlo hlo2 hzero hrd
      refine zgo (fun pc => Nat.beq pc 4) 200 hX hR rfl ?_
      refine Exists.intro _ ⟨hs.1, ?_⟩
      refine Exists.intro _ ⟨hpi, ?_⟩
      refine And.intro (fun c1 => ?_) (fun c1 => by omega)
      refine And.intro rfl ⟨rfl, cf, -1, rfl, hrd, Or.inl ⟨rfl, fun q => ?_⟩⟩
      rcases Nat.lt_or_ge q z with g | g
      · exact hzero q g
      · exact rq_out (by omega)
    | succ m ih =>
      intro k lo z J1 cf l4 hk hz hlo hlo2 hzero hrd
      have hb1 : bR F J1 va cva 905 W C := hv.of hrd.2.1
      have hb2 : bR F J1 so cso 905 W2 C := hS.of hrd.2.2.1
      refine zgo (fun pc => Nat.beq pc 4) 200 hX hR rfl ?_
      refine Exists.intro _ ⟨hs.1, ?_⟩
      refine Exists.intro _ ⟨hpi, ?_⟩
      refine And.intro (fun c1 => by omega) (fun c1 => ?_)
      refine Exists.intro _ ⟨hs.1, ?_⟩
      refine qX7_reduce_163 hX (c_X1_next (xl X) (xD X) (xsh X) hva F I J1 hb1 (r := r) (p0 := lo) hr (by omega)) hva.1 (fun v F' I' J' hv => ?_)
      obtain ⟨⟨x, rfl, hx⟩, rfl, rfl, rfl⟩ := hv
      rcases hx with ⟨rfl, hx⟩ | ⟨t, rfl, t1, t2, t3, t4⟩
      · refine And.intro (fun c2 => ?_) (fun c2 => absurd (by decide) c2)
        refine And.intro rfl ⟨rfl, cf, -1, rfl, hrd, Or.inl ⟨rfl, fun q => ?_⟩⟩
        rcases Nat.lt_or_ge q z with g | g
        · exact hzero q g
        · rcases Nat.lt_or_ge q (64 * W) with g2 | g2
          · rw [← rb_rq hr]
            exact hx q (by omega) g2
          · exact rq_out g2
      · rw [rb_rq hr] at t3
        have hzt : z ≤ t := by
          rcases Nat.lt_or_ge t z with g | g
          · rw [hzero t g] at t3
            cases t3
          · exact g
        have hbelow : ∀ q, q < t → rq J' cva W r q = false := fun q hq => by
          rcases Nat.lt_or_ge q lo with g | g
          · exact hzero q (by omega)
          · rw [← rb_rq hr]
            exact t4 q g hq
        have hsr : ∀ q, gp ≤ q → rq J' cva W r q = false := fun q hq => by
          rw [hrd.2.2.2.2.2.1 q, hp.2 r (Nat.le_refl _) q hq, Bool.false_xor]
          exact xs_zero' fun i hi => by rw [hp.2 i (by omega) q hq, Bool.and_false]
        have htg : t < gp := by
          rcases Nat.lt_or_ge t gp with g | g
          · exact g
          · rw [hsr t g] at t3
            cases t3
        refine And.intro (fun c2 => by omega) (fun c2 => ?_)
        refine Exists.intro _ ⟨hs.1, ?_⟩
        refine Exists.intro _ ⟨hpi, ?_⟩
        refine And.intro (fun c3 => ?_) (fun c3 => by omega)
        refine Exists.intro _ ⟨hs.1, ?_⟩
        refine Exists.intro _ ⟨_, t, hpi, rfl, by omega, ?_⟩
        rcases hp.1 t htg with e | ⟨i, i1, i2, i3, i4⟩
        · refine And.intro (fun c4 => ?_) (fun c4 => ?_)
          · rw [e] at c4
            exact absurd c4 (by decide)
          · exact And.intro rfl ⟨rfl, cf, _, rfl, hrd, Or.inr ⟨t, htg, rfl, e, t3, hbelow⟩⟩
        · refine And.intro (fun c4 => ?_) (fun c4 => ?_)
          · have iC : i < C := by omega
            have cB := c_X1_add (xl X) (xD X) (xsh X) hva F' I' J' hb1 (r := r) (o := i) hr iC (by omega)
            rw [← i2] at cB
            refine Exists.intro _ ⟨hs.1, ?_⟩
            refine qX7_reduce_194 hX cB hva.1 (fun v F2 I2 J2 hv => ?_)
            obtain ⟨rfl, rfl, rfl, rfl⟩ := hv
            have hb3 : bR F2 (bad J' cva W r i W) so cso 905 W2 C := hb2.of (fun j => by rw [bad_r hne.symm]; exact hb2.lt j)
            have cC := c_X1_add (xl X) (xD X) (xsh X) hso F2 I2 (bad J' cva W r i W) hb3 (r := r) (o := i) hr iC (by omega)
            rw [← i2] at cC
            refine Exists.intro _ ⟨hs.1, ?_⟩
            refine qX7_reduce_194 hX cC hso.1 (fun v F3 I3 J3 hv => ?_)
            obtain ⟨rfl, rfl, rfl, rfl⟩ := hv
            have hst := hrd.step (o := i) i1 hne
            refine ih (k + 1) t (t + 1) _ _ _ (by omega) (by omega) (by omega) (by omega) (fun q hq => ?_) hst
            have ea : bad (bad J' cva W r i W) cso W2 r i W2 cva = bad J' cva W r i W cva := bad_r hne
            rw [rq_of ea, rq_bad0, hrd.2.2.2.1 i (by omega)]
            rcases Nat.lt_or_ge q t with g | g
            · rw [hbelow q g, i4 q g]
              rfl
            · rw [show q = t by omega, t3, i3]
              rfl
          · rw [i2] at c4
            omega
  refine zgo (fun pc => Nat.beq pc 4) 200 hX hR rfl ?_
  exact loop 321 0 0 0 J _ none (by omega) (by omega) (by omega) (by omega) (fun q hq => by omega) (rdC.refl hv.lt hS.lt)
