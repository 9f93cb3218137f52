/-! Squares: how its table is filled -/
theorem sqT.put {I : zFi} {pr u v x : Nat} {P P' : Nat → Nat → Nat} (h : sqT I pr P) (hu : u < 61) (hv : v < 61) (hx : x < 1073741824) (hP : ∀ a b, a < 61 → b < 61 → P' a b = if a = u ∧ b = v then x else P a b) : sqT (zu I pr (u * 61 + v) (x : Int)) pr P' := by
  intro a b ha hb
  rw [hP a b ha hb]
  by_cases e : a = u ∧ b = v
  · obtain ⟨rfl, rfl⟩ := e
    rw [if_pos ⟨rfl, rfl⟩, zu_s]
    exact ⟨rfl, hx⟩
  · rw [if_neg e, zu_n (fun z => e ⟨by omega, by omega⟩)]
    exact h a b ha hb
theorem sqT.congr {I : zFi} {pr : Nat} {P P' : Nat → Nat → Nat} (h : sqT I pr P) (e : ∀ a b, a < 61 → b < 61 → P' a b = P a b) : sqT I pr P' := fun a b ha hb => by rw [e a b ha hb]; exact h a b ha hb
theorem aGP_30 {u v : Nat} (hu : u < 61) (hv : v < 61) : aGP u v < 1073741824 := Nat.lt_trans (aGP_lt hu hv) (by decide)
theorem bnm_cn {u j : Nat} (hu : u < 61) (hj : j < 3) : bnm aN (u : Int) (j : Int) = (cn u j : Int) := by
  unfold bnm
  rw [if_pos (by omega)]
  rfl
theorem cn_sg1 : ∀ u, u < 61 → cn u 1 = 0 → u = sg (cn u 0) := by decide +kernel
def Pu (v : Nat) : Nat → Nat → Nat := fun u w => if u = 0 ∧ w < v then aGP 0 w else 0
theorem Pu_next (v a b : Nat) : Pu (v + 1) a b = if a = 0 ∧ b = v then aGP 0 v else Pu v a b := by
  unfold Pu
  by_cases e1 : a = 0
  · by_cases e2 : b = v
    · subst e2
      rw [if_pos ⟨e1, by omega⟩, if_pos ⟨e1, rfl⟩]
    · rw [if_neg (show ¬ (a = 0 ∧ b = v) from fun z => e2 z.2)]
      by_cases e3 : b < v
      · rw [if_pos ⟨e1, by omega⟩, if_pos ⟨e1, e3⟩]
      · rw [if_neg (fun z => by omega), if_neg (fun z => by omega)]
  · rw [if_neg (fun z => e1 z.1), if_neg (fun z => e1 z.1), if_neg (fun z => e1 z.1)]
section FILL
variable {q b pr nu st : Nat}
set_option maxHeartbeats 1000000 in
theorem c_X6_fillUnit (l : Launch) (D : va_G) (sh : Nat → Option zS) (hs : zsSq sh q b pr) (hb : zsBas sh b nu st) (F I : zFi) (J : zJi) (hT : bT I nu st aN aS) (hn1 : nu ≠ pr) (hn2 : st ≠ pr) (hP : sqT I pr (fun _ _ => 0)) :
    Cn l D yX6_fillUnit wsX6_fillUnit mX6_fillUnit.2.2.2.2 sh [.inr (.inr (some q))] F I J (fun v F' I' J' => v = none ∧ F' = F ∧ J' = J ∧ (∀ a, a ≠ pr → I' a = I a) ∧ sqT I' pr (Pu 61)) := by
  refine zmet (M := mX6_fillUnit) rfl rfl rfl kX6_fillUnit (Nat.le_of_ble_eq_true rfl) (fun X hX hR hl hD hsh => ?_)
  subst hl hD hsh
  have loopV : ∀ n, n < 15 → ∀ (m v : Nat) (I' : zFi), v + m = aS (n + 1) → aS n ≤ v → (∀ a, a ≠ pr → I' a = I a) → sqT I' pr (Pu v) → (∀ I2, (∀ a, a ≠ pr → I2 a = I a) → sqT I2 pr (Pu (aS (n + 1))) → HW X 2 [some (.inr (.inr (some q))), some (.inl ((n + 1 : Nat) : Int)), none] [] F I2 J) → HW X 17 [some (.inr (.inr (some q))), some (.inl (n : Int)), some (.inl (v : Int))] [] F I' J := by
    intro n hn m
    have hr := dg_range (show n ≤ 14 by omega)
    have e1 : bst aS ((n : Int) + 1) = aS (n + 1) := bst_aS (t := n + 1) (by omega)
    induction m with
    | zero =>
      intro v I' hv hv2 hI hP' hk
      refine zgo (fun pc => Nat.beq pc 17 || Nat.beq pc 2) 200 hX hR rfl ?_
      refine Exists.intro _ ⟨hs.1, ?_⟩
      refine qX6_fillUnit_28 hX (c_X0_start (xl X) (xD X) (xsh X) hb F I' J (bT_of hT (hI nu hn1) (hI st hn2)) (d := (n : Int) + 1) (by unfold zi32; omega)) hb.1 (fun v F' I2 J' hv => ?_)
      obtain ⟨rfl, rfl, rfl, rfl⟩ := hv
      rw [e1]
      refine And.intro (fun c1 => ?_) (fun c1 => by omega)
      refine hw_weak (ls' := [some (.inr (.inr (some q))), some (.inl ((n + 1 : Nat) : Int)), none]) ⟨rfl, rfl, trivial⟩ (hk _ hI (by rw [show aS (n + 1) = _ from hv.symm]; exact hP'))
    | succ m ih =>
      intro v I' hv hv2 hI hP' hk
      have hT' := bT_of hT (hI nu hn1) (hI st hn2)
      refine zgo (fun pc => Nat.beq pc 17 || Nat.beq pc 2) 200 hX hR rfl ?_
      refine Exists.intro _ ⟨hs.1, ?_⟩
      refine qX6_fillUnit_28 hX (c_X0_start (xl X) (xD X) (xsh X) hb F I' J hT' (d := (n : Int) + 1) (by unfold zi32; omega)) hb.1 (fun w F' I2 J' hv => ?_)
      obtain ⟨rfl, rfl, rfl, rfl⟩ := hv
      rw [e1]
      refine And.intro (fun c1 => by omega) (fun c1 => ?_)
      refine Exists.intro _ ⟨hs.1, ?_⟩
      refine qX6_fillUnit_34 hX (c_X0_bit (xl X) (xD X) (xsh X) hb F' I2 J' hT' (d := (n : Int)) (t := (v : Int)) (by unfold zi32; omega) (by omega) (aS_30 _).2) hb.1 (fun w F3 I3 J3 hv => ?_)
      obtain ⟨rfl, rfl, rfl, rfl⟩ := hv
      have e2 : bst aS (n : Int) = aS n := bst_aS (t := n) (by omega)
      have hdv : dgA v = n := (hr.2.2.2 v (by omega)).mpr ⟨hv2, by omega⟩
      have e3 : bbt aS (n : Int) (v : Int) = (aGP 0 v : Int) := by
        rw [aGP_0 (show v < 61 by omega), hdv]
        unfold bbt
        rw [e2]
        have e4 : bsz aS (n : Int) = ((aS (n + 1) : Nat) : Int) - ((aS n : Nat) : Int) := by
          unfold bsz
          rw [if_pos (by omega), Int.toNat_natCast]
        rw [if_pos (by rw [e4]; omega), show ((v : Int) - (aS n : Int)).toNat = v - aS n by omega]
      rw [e3]
      refine qX6_fillUnit_38 hX (c_X6_put (xl X) (xD X) (xsh X) hs F3 I3 J3 (u := 0) (v := (v : Int)) (x := (aGP 0 v : Int)) (by omega) (by omega)) hs.1 (fun w F4 I4 J4 hv => ?_)
      obtain ⟨rfl, rfl, rfl, rfl⟩ := hv
      exact ih (v + 1) _ (by omega) (by omega) (fun a ha => by rw [zu_r ha]; exact hI a ha) (hP'.put (u := 0) (v := v) (by decide) (by omega) (aGP_30 (by decide) (by omega)) (fun a b _ _ => Pu_next v a b)) hk
  have loopN : ∀ (m n : Nat) (I' : zFi), n + m = 15 → (∀ a, a ≠ pr → I' a = I a) → sqT I' pr (Pu (aS n)) → HW X 2 [some (.inr (.inr (some q))), some (.inl (n : Int)), none] [] F I' J := by
    intro m
    induction m with
    | zero =>
      intro n I' hn hI hP'
      obtain rfl : n = 15 := by omega
      refine zgo (fun pc => Nat.beq pc 17) 200 hX hR rfl ?_
      refine And.intro (fun c1 => ?_) (fun c1 => by omega)
      exact ⟨rfl, rfl, rfl, hI, hP'⟩
    | succ m ih =>
      intro n I' hn hI hP'
      refine zgo (fun pc => Nat.beq pc 17) 200 hX hR rfl ?_
      refine And.intro (fun c1 => by omega) (fun c1 => ?_)
      refine Exists.intro _ ⟨hs.1, ?_⟩
      refine qX6_fillUnit_28 hX (c_X0_start (xl X) (xD X) (xsh X) hb F I' J (bT_of hT (hI nu hn1) (hI st hn2)) (d := (n : Int)) (by unfold zi32; omega)) hb.1 (fun w F' I2 J' hv => ?_)
      obtain ⟨rfl, rfl, rfl, rfl⟩ := hv
      rw [show bst aS (n : Int) = aS n from bst_aS (t := n) (by omega)]
      have hr := dg_range (show n ≤ 14 by omega)
      exact loopV n (by omega) (aS (n + 1) - aS n) (aS n) I2 (by omega) (Nat.le_refl _) hI hP' (fun I3 h1 h2 => ih (n + 1) I3 (by omega) h1 h2)
  refine zgo (fun pc => Nat.beq pc 2) 200 hX hR rfl ?_
  exact loopN 15 0 I rfl (fun _ _ => rfl) (hP.congr (fun a b _ _ => by unfold Pu; rw [if_neg (fun z => absurd z.2 (Nat.not_lt_zero b))]))
/-! the singles -/
def isSg (u : Nat) : Bool := Nat.beq (cn u 1) 0
def flS (n a v u w : Nat) : Bool := Nat.beq u 0 || (isSg u && (Nat.blt (cn u 0 + dgA w) n || (Nat.beq (cn u 0 + dgA w) n && (Nat.blt a (cn u 0) || (Nat.beq a (cn u 0) && Nat.blt w v)))))
def pS (n a v : Nat) : Nat → Nat → Nat := fun u w => match flS n a v u w with
  | true => aGP u w
  | false => 0
def ckS : Bool := (List.range 15).all fun n => (List.range 15).all fun a => (List.range 61).all fun v => !(Nat.ble 1 a && Nat.beq (a + dgA v) n) || Nat.beq (stt (pS n a v) aN aS a (v : Int) (n : Int)) (aGP (sg a) v)
set_option maxRecDepth 100000 in
theorem ckS_ok : ckS = true := by decide +kernel
theorem ckS_at {n a v : Nat} (hn : n < 15) (ha : 1 ≤ a) (hv : v < 61) (h : a + dgA v = n) : stt (pS n a v) aN aS a (v : Int) (n : Int) = aGP (sg a) v := by
  have := range_all (range_all (range_all ckS_ok hn) (show a < 15 by omega)) hv
  rw [show Nat.ble 1 a = true from Nat.ble_eq.mpr ha, show Nat.beq (a + dgA v) n = true by rw [h]; exact nbq n] at this
  exact Nat.eq_of_beq_eq_true this
theorem bq_iff {a b : Nat} : Nat.beq a b = true ↔ a = b := ⟨Nat.eq_of_beq_eq_true, fun h => by rw [h]; exact nbq b⟩
theorem bl_iff {a b : Nat} : Nat.blt a b = true ↔ a < b := ⟨blt_lt, fun h => Nat.ble_eq.mpr h⟩
theorem flS_iff {n a v u w : Nat} : flS n a v u w = true ↔ u = 0 ∨ (cn u 1 = 0 ∧ (cn u 0 + dgA w < n ∨ (cn u 0 + dgA w = n ∧ (a < cn u 0 ∨ (a = cn u 0 ∧ w < v))))) := by
  unfold flS isSg
  simp only [Bool.or_eq_true, Bool.and_eq_true, bq_iff, bl_iff]
theorem pS_congr {n a v n' a' v' u w : Nat} (h : flS n a v u w = true ↔ flS n' a' v' u w = true) : pS n a v u w = pS n' a' v' u w := by
  unfold pS
  rw [Bool.eq_iff_iff.mpr h]
theorem pS_v {n a : Nat} (hn : n ≤ 14) (ha : 1 ≤ a) (han : a ≤ n) : ∀ u w, u < 61 → w < 61 → pS n (a - 1) (aS (n - a + 1)) u w = pS n a (aS (n - a + 1)) u w := by
  intro u w hu hw
  refine pS_congr ?_
  rw [flS_iff, flS_iff]
  have h0 := (cn_rest hu).2.2.2.2.2.2
  have hr := (dg_range (show n - a ≤ 14 by omega)).2.2.2 w hw
  by_cases hu0 : u = 0
  · exact ⟨fun _ => Or.inl hu0, fun _ => Or.inl hu0⟩
  have h1 := h0 hu0
  have hc : cn u 0 = a - 1 → cn u 0 + dgA w = n → ¬ w < aS (n - a + 1) := fun e1 e2 => by
    have hr2 := (dg_range (show n - a + 1 ≤ 14 by omega)).2.2.2 w hw
    have := hr2.mp (by omega)
    omega
  have hc2 : cn u 0 = a → cn u 0 + dgA w = n → w < aS (n - a + 1) := fun e1 e2 => (hr.mp (by omega)).2
  refine or_congr Iff.rfl (and_congr Iff.rfl (or_congr Iff.rfl (and_congr_right fun hs => ?_)))
  constructor
  · rintro (h | ⟨h, h9⟩)
    · by_cases e : cn u 0 = a
      · exact Or.inr ⟨e.symm, hc2 e hs⟩
      · exact Or.inl (by omega)
    · exact absurd h9 (hc h.symm hs)
  · rintro (h | ⟨h, h9⟩)
    · exact Or.inl (by omega)
    · exact Or.inl (by omega)
theorem pS_n {n v v' : Nat} : ∀ u w, u < 61 → w < 61 → v' = 0 → pS (n + 1) (n + 1) v' u w = pS n 0 v u w := by
  intro u w hu hw hv'
  refine pS_congr ?_
  rw [flS_iff, flS_iff]
  have h0 := (cn_rest hu).2.2.2.2.2.2
  by_cases hu0 : u = 0
  · exact ⟨fun _ => Or.inl hu0, fun _ => Or.inl hu0⟩
  have h1 := h0 hu0
  refine or_congr Iff.rfl (and_congr Iff.rfl ?_)
  omega
theorem pS_put {n a v : Nat} (hn : n ≤ 14) (ha : 1 ≤ a) (hv : v < 61) (h : a + dgA v = n) : ∀ u w, u < 61 → w < 61 → pS n a (v + 1) u w = if u = sg a ∧ w = v then aGP (sg a) v else pS n a v u w := by
  intro u w hu hw
  have hs := sg_ok (show a ≤ 14 by omega)
  by_cases e : u = sg a ∧ w = v
  · obtain ⟨rfl, rfl⟩ := e
    rw [if_pos ⟨rfl, rfl⟩]
    have : flS n a (w + 1) (sg a) w = true := flS_iff.mpr (Or.inr ⟨hs.2.2.1, Or.inr ⟨by rw [hs.2.1]; exact h, Or.inr ⟨hs.2.1.symm, by omega⟩⟩⟩)
    unfold pS
    rw [this]
  · rw [if_neg e]
    refine pS_congr ?_
    rw [flS_iff, flS_iff]
    refine or_congr Iff.rfl (and_congr_right fun hc1 => or_congr Iff.rfl (and_congr_right fun hs2 => or_congr Iff.rfl (and_congr_right fun hc0 => ?_)))
    have hu' : u = sg a := by rw [hc0]; exact cn_sg1 u hu hc1
    have : w ≠ v := fun z => e ⟨hu', z⟩
    omega
theorem Pu_pS : ∀ u w, u < 61 → w < 61 → pS 1 1 (aS 0) u w = Pu 61 u w := by
  intro u w hu hw
  have h0 := (cn_rest hu).2.2.2.2.2.2
  unfold Pu pS
  by_cases hu0 : u = 0
  · rw [if_pos ⟨hu0, hw⟩, flS_iff.mpr (Or.inl hu0), hu0]
  · rw [if_neg (fun z => hu0 z.1)]
    have h1 := h0 hu0
    have : flS 1 1 (aS 0) u w = false := by
      cases hf : flS 1 1 (aS 0) u w with
      | false => rfl
      | true =>
        have h9 := flS_iff.mp hf
        have : aS 0 = 0 := rfl
        omega
    rw [this]
set_option maxHeartbeats 1000000 in
theorem c_X6_fillSingles (l : Launch) (D : va_G) (sh : Nat → Option zS) (hs : zsSq sh q b pr) (hb : zsBas sh b nu st) (F I : zFi) (J : zJi) (hT : bT I nu st aN aS) (hn1 : nu ≠ pr) (hn2 : st ≠ pr) (hP : sqT I pr (Pu 61)) :
    Cn l D yX6_fillSingles wsX6_fillSingles mX6_fillSingles.2.2.2.2 sh [.inr (.inr (some q))] F I J (fun v F' I' J' => v = none ∧ F' = F ∧ J' = J ∧ (∀ a, a ≠ pr → I' a = I a) ∧ sqT I' pr (pS 15 15 0)) := by
  refine zmet (M := mX6_fillSingles) rfl rfl rfl kX6_fillSingles (Nat.le_of_ble_eq_true rfl) (fun X hX hR hl hD hsh => ?_)
  subst hl hD hsh
  have loopV : ∀ n a, n < 15 → 1 ≤ a → a ≤ n → ∀ (m v : Nat) (I' : zFi), v + m = aS (n - a + 1) → aS (n - a) ≤ v → (∀ a, a ≠ pr → I' a = I a) → sqT I' pr (pS n a v) → (∀ I2, (∀ a, a ≠ pr → I2 a = I a) → sqT I2 pr (pS n (a - 1) (aS (n - (a - 1)))) → HW X 10 [some (.inr (.inr (some q))), some (.inl (n : Int)), some (.inl ((a - 1 : Nat) : Int)), none] [] F I2 J) → HW X 26 [some (.inr (.inr (some q))), some (.inl (n : Int)), some (.inl (a : Int)), some (.inl (v : Int))] [] F I' J := by
    intro n a hn ha han m
    have hr := dg_range (show n - a ≤ 14 by omega)
    have e1 : bst aS ((n : Int) - (a : Int) + 1) = aS (n - a + 1) := by
      rw [show (n : Int) - (a : Int) + 1 = ((n - a + 1 : Nat) : Int) by omega]
      exact bst_aS (by omega)
    induction m with
    | zero =>
      intro v I' hv hv2 hI hP' hk
      refine zgo (fun pc => Nat.beq pc 26 || Nat.beq pc 10) 200 hX hR rfl ?_
      refine Exists.intro _ ⟨hs.1, ?_⟩
      refine qX6_fillSingles_28 hX (c_X0_start (xl X) (xD X) (xsh X) hb F I' J (bT_of hT (hI nu hn1) (hI st hn2)) (d := (n : Int) - (a : Int) + 1) (by unfold zi32; omega)) hb.1 (fun v F' I2 J' hv => ?_)
      obtain ⟨rfl, rfl, rfl, rfl⟩ := hv
      rw [e1]
      refine And.intro (fun c1 => ?_) (fun c1 => by omega)
      have h9 := hk I2 hI (by
        rw [show n - (a - 1) = n - a + 1 by omega]
        refine sqT.congr ?_ (pS_v (by omega) ha han)
        rw [show aS (n - a + 1) = v by omega]
        exact hP')
      rw [show ((a - 1 : Nat) : Int) = (a : Int) + -1 by omega] at h9
      exact hw_weak (ls' := [some (.inr (.inr (some q))), some (.inl (n : Int)), some (.inl ((a : Int) + -1)), none]) ⟨rfl, rfl, rfl, trivial⟩ h9
    | succ m ih =>
      intro v I' hv hv2 hI hP' hk
      have hT' := bT_of hT (hI nu hn1) (hI st hn2)
      have hdv : dgA v = n - a := (hr.2.2.2 v (by omega)).mpr ⟨hv2, by omega⟩
      have hck := ckS_at hn ha (show v < 61 by omega) (by omega)
      refine zgo (fun pc => Nat.beq pc 26 || Nat.beq pc 10) 200 hX hR rfl ?_
      refine Exists.intro _ ⟨hs.1, ?_⟩
      refine qX6_fillSingles_28 hX (c_X0_start (xl X) (xD X) (xsh X) hb F I' J hT' (d := (n : Int) - (a : Int) + 1) (by unfold zi32; omega)) hb.1 (fun w F' I2 J' hv => ?_)
      obtain ⟨rfl, rfl, rfl, rfl⟩ := hv
      rw [e1]
      refine And.intro (fun c1 => by omega) (fun c1 => ?_)
      refine qX6_fillSingles_42 hX (c_X6_single (xl X) (xD X) (xsh X) hs hb F' I2 J' hT' (i := (a : Int)) (by unfold zi32; omega)) hs.1 (fun w F3 I3 J3 hv => ?_)
      obtain ⟨rfl, rfl, rfl, rfl⟩ := hv
      rw [sgl_sg (show a ≤ 14 by omega)]
      refine qX6_fillSingles_45 hX (c_X6_timesTerm (xl X) (xD X) (xsh X) hs hb F3 I3 J3 hT' hP' (a := a) (t := (v : Int)) (n := (n : Int)) (by omega) (by omega) (by omega) aS_30) hs.1 (fun w F4 I4 J4 hv => ?_)
      obtain ⟨rfl, rfl, rfl, rfl⟩ := hv
      rw [hck]
      have hsg := (sg_ok (show a ≤ 14 by omega)).1
      refine qX6_fillSingles_38 hX (c_X6_put (xl X) (xD X) (xsh X) hs F4 I4 J4 (u := (sg a : Int)) (v := (v : Int)) (x := (aGP (sg a) v : Int)) (by omega) (by omega)) hs.1 (fun w F5 I5 J5 hv => ?_)
      obtain ⟨rfl, rfl, rfl, rfl⟩ := hv
      exact ih (v + 1) _ (by omega) (by omega) (fun a ha => by rw [zu_r ha]; exact hI a ha) (hP'.put (u := sg a) (v := v) hsg (by omega) (aGP_30 hsg (by omega)) (pS_put (by omega) ha (by omega) (by omega))) hk
  have loopA : ∀ n, n < 15 → ∀ (a : Nat) (I' : zFi), a ≤ n → (∀ a, a ≠ pr → I' a = I a) → sqT I' pr (pS n a (aS (n - a))) → (∀ I2, (∀ a, a ≠ pr → I2 a = I a) → sqT I2 pr (pS (n + 1) (n + 1) 0) → HW X 2 [some (.inr (.inr (some q))), some (.inl ((n + 1 : Nat) : Int)), none, none] [] F I2 J) → HW X 10 [some (.inr (.inr (some q))), some (.inl (n : Int)), some (.inl (a : Int)), none] [] F I' J := by
    intro n hn a
    induction a with
    | zero =>
      intro I' ha hI hP' hk
      refine zgo (fun pc => Nat.beq pc 2) 200 hX hR rfl ?_
      refine And.intro (fun c1 => ?_) (fun c1 => by omega)
      exact hw_weak (ls' := [some (.inr (.inr (some q))), some (.inl ((n + 1 : Nat) : Int)), none, none]) ⟨rfl, rfl, trivial⟩ (hk I' hI (hP'.congr (fun u w hu hw => pS_n u w hu hw rfl)))
    | succ a ih =>
      intro I' ha hI hP' hk
      refine zgo (fun pc => Nat.beq pc 26) 200 hX hR rfl ?_
      refine And.intro (fun c1 => by omega) (fun c1 => ?_)
      refine Exists.intro _ ⟨hs.1, ?_⟩
      refine qX6_fillSingles_28 hX (c_X0_start (xl X) (xD X) (xsh X) hb F I' J (bT_of hT (hI nu hn1) (hI st hn2)) (d := (n : Int) - ((a + 1 : Nat) : Int)) (by unfold zi32; omega)) hb.1 (fun v F' I2 J' hv => ?_)
      obtain ⟨rfl, rfl, rfl, rfl⟩ := hv
      rw [show bst aS ((n : Int) - ((a + 1 : Nat) : Int)) = aS (n - (a + 1)) by
        rw [show (n : Int) - ((a + 1 : Nat) : Int) = ((n - (a + 1) : Nat) : Int) by omega]
        exact bst_aS (by omega)]
      have hr := dg_range (show n - (a + 1) ≤ 14 by omega)
      exact loopV n (a + 1) hn (by omega) ha (aS (n - (a + 1) + 1) - aS (n - (a + 1))) (aS (n - (a + 1))) I2 (by omega) (Nat.le_refl _) hI hP' (fun I3 h1 h2 => ih I3 (by omega) h1 h2 hk)
  have loopN : ∀ (m n : Nat) (I' : zFi), 1 ≤ n → n + m = 15 → (∀ a, a ≠ pr → I' a = I a) → sqT I' pr (pS n n 0) → HW X 2 [some (.inr (.inr (some q))), some (.inl (n : Int)), none, none] [] F I' J := by
    intro m
    induction m with
    | zero =>
      intro n I' h1 hn hI hP'
      obtain rfl : n = 15 := by omega
      refine zgo (fun pc => Nat.beq pc 10) 200 hX hR rfl ?_
      refine And.intro (fun c1 => ?_) (fun c1 => by omega)
      exact ⟨rfl, rfl, rfl, hI, hP'⟩
    | succ m ih =>
      intro n I' h1 hn hI hP'
      refine zgo (fun pc => Nat.beq pc 10) 200 hX hR rfl ?_
      refine And.intro (fun c1 => by omega) (fun c1 => ?_)
      exact loopA n (by omega) n I' (Nat.le_refl _) hI (by rw [Nat.sub_self]; exact hP') (fun I3 h1 h2 => ih (n + 1) I3 (by omega) (by omega) h1 h2)
  refine zgo (fun pc => Nat.beq pc 2) 200 hX hR rfl ?_
  exact loopN 14 1 I (by decide) rfl (fun _ _ => rfl) (hP.congr Pu_pS)
end FILL
