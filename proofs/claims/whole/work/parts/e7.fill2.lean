/-! Squares: the longer chains; its constructor -/
theorem dgA_lt : ∀ b, b < 61 → ∀ t, t < 15 → (dgA b ≤ t ↔ b < aS (t + 1)) := by decide +kernel
def flL (u v a b : Nat) : Bool := Nat.beq a 0 || (Nat.ble (dgA a + dgA b) 14 && (isSg a || (Nat.blt a u || (Nat.beq a u && Nat.blt b v))))
def pL (u v : Nat) : Nat → Nat → Nat := fun a b => match flL u v a b with
  | true => aGP a b
  | false => 0
def rL (u : Nat) : Int := bfi aN aS ((dgA u : Int) - (cn u 0 : Int)) (cn u 1 : Int) (cn u 2 : Int) 0
def ckL : Bool := (List.range 61).all fun u => (List.range 61).all fun v => isSg u || (!Nat.ble (dgA u + dgA v) 14 || Nat.beq (sqs (pL u v) aS (cn u 0 : Int) (spd (pL u v) (rL u) (v : Int)) ((dgA u : Int) - (cn u 0 : Int) + (dgA v : Int))) (aGP u v))
set_option maxRecDepth 100000 in
theorem ckL_ok : ckL = true := by decide +kernel
def ckZ : Bool := (List.range 61).all fun u => (List.range 61).all fun v => Nat.ble (dgA u + dgA v) 14 || Nat.beq (aGP u v) 0
set_option maxRecDepth 100000 in
theorem ckZ_ok : ckZ = true := by decide +kernel
theorem ckL_at {u v : Nat} (hu : u < 61) (hv : v < 61) (hs : cn u 1 ≠ 0) (h : dgA u + dgA v ≤ 14) : sqs (pL u v) aS (cn u 0 : Int) (spd (pL u v) (rL u) (v : Int)) ((dgA u : Int) - (cn u 0 : Int) + (dgA v : Int)) = aGP u v := by
  have := range_all (range_all ckL_ok hu) hv
  rw [show isSg u = false from nbn hs, show Nat.ble (dgA u + dgA v) 14 = true from Nat.ble_eq.mpr h] at this
  exact Nat.eq_of_beq_eq_true this
theorem aGP_z {u v : Nat} (hu : u < 61) (hv : v < 61) (h : 14 < dgA u + dgA v) : aGP u v = 0 := by
  have := range_all (range_all ckZ_ok hu) hv
  cases hb : Nat.ble (dgA u + dgA v) 14 with
  | true => exact absurd (Nat.le_of_ble_eq_true hb) (by omega)
  | false =>
    rw [hb] at this
    exact Nat.eq_of_beq_eq_true this
theorem flL_iff {u v a b : Nat} : flL u v a b = true ↔ a = 0 ∨ (dgA a + dgA b ≤ 14 ∧ (cn a 1 = 0 ∨ (a < u ∨ (a = u ∧ b < v)))) := by
  unfold flL isSg
  simp only [Bool.or_eq_true, Bool.and_eq_true, bq_iff, bl_iff, Nat.ble_eq]
theorem pL_congr {u v u' v' a b : Nat} (h : flL u v a b = true ↔ flL u' v' a b = true) : pL u v a b = pL u' v' a b := by
  unfold pL
  rw [Bool.eq_iff_iff.mpr h]
theorem pL_put {u v : Nat} (hu : u < 61) (hv : v < 61) (h : dgA u + dgA v ≤ 14) : ∀ a b, a < 61 → b < 61 → pL u (v + 1) a b = if a = u ∧ b = v then aGP u v else pL u v a b := by
  intro a b ha hb
  by_cases e : a = u ∧ b = v
  · obtain ⟨rfl, rfl⟩ := e
    rw [if_pos ⟨rfl, rfl⟩]
    have : flL a (b + 1) a b = true := flL_iff.mpr (Or.inr ⟨h, Or.inr (Or.inr ⟨rfl, by omega⟩)⟩)
    unfold pL
    rw [this]
  · rw [if_neg e]
    refine pL_congr ?_
    rw [flL_iff, flL_iff]
    refine or_congr Iff.rfl (and_congr_right fun _ => or_congr Iff.rfl (or_congr Iff.rfl (and_congr_right fun hau => ?_)))
    have : b ≠ v := fun z => e ⟨hau, z⟩
    omega
theorem pL_u {u m : Nat} (hm : 1 ≤ m) (hm2 : m ≤ 14) (hu : dgA u = m) : ∀ a b, a < 61 → b < 61 → pL (u + 1) 0 a b = pL u (aS (15 - m)) a b := by
  intro a b ha hb
  refine pL_congr ?_
  rw [flL_iff, flL_iff]
  refine or_congr Iff.rfl (and_congr_right fun hd => or_congr Iff.rfl ?_)
  have h1 := dgA_lt b hb (14 - m) (by omega)
  rw [show 14 - m + 1 = 15 - m by omega] at h1
  constructor
  · rintro (h | ⟨-, h⟩)
    · by_cases e : a = u
      · subst e
        exact Or.inr ⟨rfl, h1.mp (by omega)⟩
      · exact Or.inl (by omega)
    · omega
  · rintro (h | ⟨h, -⟩)
    · exact Or.inl (by omega)
    · exact Or.inl (by omega)
theorem pL_sg {m : Nat} (hm : m ≤ 14) : ∀ a b, a < 61 → b < 61 → pL (sg m + 1) 0 a b = pL (sg m) 0 a b := by
  intro a b ha hb
  refine pL_congr ?_
  rw [flL_iff, flL_iff]
  refine or_congr Iff.rfl (and_congr_right fun hd => ?_)
  have hs := (sg_ok hm).2.2.1
  constructor
  · rintro (h | h | ⟨-, h⟩)
    · exact Or.inl h
    · by_cases e : a = sg m
      · exact Or.inl (by rw [e]; exact hs)
      · exact Or.inr (Or.inl (by omega))
    · omega
  · rintro (h | h | ⟨-, h⟩)
    · exact Or.inl h
    · exact Or.inr (Or.inl (by omega))
    · omega
theorem pS_pL : ∀ a b, a < 61 → b < 61 → pL 1 0 a b = pS 15 15 0 a b := by
  intro a b ha hb
  have e : flL 1 0 a b = true ↔ flS 15 15 0 a b = true := by
    rw [flL_iff, flS_iff]
    have hda := dgA_le ha
    have hdb := dgA_le hb
    constructor
    · rintro (h | ⟨h1, h2 | h2⟩)
      · exact Or.inl h
      · have := cn_sg1 a ha h2
        have h3 := (sg_ok (show cn a 0 ≤ 14 from cn_le a ha 0 (by decide))).2.2.2.2
        rw [← this] at h3
        exact Or.inr ⟨h2, Or.inl (by omega)⟩
      · exact Or.inl (by omega)
    · rintro (h | ⟨h2, h1⟩)
      · exact Or.inl h
      · have := cn_sg1 a ha h2
        have h3 := (sg_ok (show cn a 0 ≤ 14 from cn_le a ha 0 (by decide))).2.2.2.2
        rw [← this] at h3
        exact Or.inr ⟨by omega, Or.inl h2⟩
  unfold pL pS
  rw [Bool.eq_iff_iff.mpr e]
  rfl
theorem pL_end : ∀ a b, a < 61 → b < 61 → aGP a b = pL 61 0 a b := by
  intro a b ha hb
  unfold pL
  cases h : flL 61 0 a b with
  | true => rfl
  | false =>
    refine aGP_z ha hb ?_
    rcases Nat.lt_or_ge 14 (dgA a + dgA b) with g | g
    · exact g
    · rw [flL_iff.mpr (Or.inr ⟨g, Or.inr (Or.inl ha)⟩)] at h
      cases h
section FILL
variable {q b pr nu st : Nat}
set_option maxHeartbeats 2000000 in
theorem c_X6_fillLonger (l : Launch) (D : va_G) (sh : Nat → Option zS) (hs : zsSq sh q b pr) (hb : zsBas sh b nu st) (F I : zFi) (J : zJi) (hT : bT I nu st aN aS) (hn1 : nu ≠ pr) (hn2 : st ≠ pr) (hP : sqT I pr (pS 15 15 0)) :
    Cn l D yX6_fillLonger wsX6_fillLonger mX6_fillLonger.2.2.2.2 sh [.inr (.inr (some q))] F I J (fun v F' I' J' => v = none ∧ F' = F ∧ J' = J ∧ (∀ a, a ≠ pr → I' a = I a) ∧ sqT I' pr aGP) := by
  refine zmet (M := mX6_fillLonger) rfl rfl rfl kX6_fillLonger (Nat.le_of_ble_eq_true rfl) (fun X hX hR hl hD hsh => ?_)
  subst hl hD hsh
  have loopV : ∀ m u n, 1 ≤ m → m + n ≤ 14 → u < 61 → dgA u = m → cn u 1 ≠ 0 → ∀ (k v : Nat) (I' : zFi), v + k = aS (n + 1) → aS n ≤ v → (∀ a, a ≠ pr → I' a = I a) → sqT I' pr (pL u v) → (∀ I2, (∀ a, a ≠ pr → I2 a = I a) → sqT I2 pr (pL u (aS (n + 1))) → HW X 70 [some (.inr (.inr (some q))), some (.inl (m : Int)), some (.inl (u : Int)), some (.inl (cn u 0 : Int)), some (.inl (rL u)), some (.inl ((n + 1 : Nat) : Int)), none] [] F I2 J) → HW X 90 [some (.inr (.inr (some q))), some (.inl (m : Int)), some (.inl (u : Int)), some (.inl (cn u 0 : Int)), some (.inl (rL u)), some (.inl (n : Int)), some (.inl (v : Int))] [] F I' J := by
    intro m u n hm hmn hu hdu hs1 k
    have hr := dg_range (show n ≤ 14 by omega)
    have e1 : bst aS ((n : Int) + 1) = aS (n + 1) := bst_aS (t := n + 1) (by omega)
    have hcu := cn_le u hu 0 (by decide)
    have hru := bfd_r aN (cn u 1 : Int) (cn u 2 : Int) 0 (bst aS ((dgA u : Int) - (cn u 0 : Int) + 1) - bst aS ((dgA u : Int) - (cn u 0 : Int))) (bst aS ((dgA u : Int) - (cn u 0 : Int)))
    have hb61 := fun x => (bst_i hT x)
    have hrL : -1 ≤ rL u ∧ rL u ≤ 100 := by
      have h1 := hb61 ((dgA u : Int) - (cn u 0 : Int) + 1)
      have h2 := hb61 ((dgA u : Int) - (cn u 0 : Int))
      exact hru (by omega)
    induction k with
    | zero =>
      intro v I' hv hv2 hI hP' hk
      refine zgo (fun pc => Nat.beq pc 90 || Nat.beq pc 70) 200 hX hR rfl ?_
      refine Exists.intro _ ⟨hs.1, ?_⟩
      refine qX6_fillLonger_28 hX (c_X0_start (xl X) (xD X) (xsh X) hb F I' J (bT_of hT (hI nu hn1) (hI st hn2)) (d := (n : Int) + 1) (by unfold zi32; omega)) hb.1 (fun w F' I2 J' hv => ?_)
      obtain ⟨rfl, rfl, rfl, rfl⟩ := hv
      rw [e1]
      refine And.intro (fun c1 => ?_) (fun c1 => by omega)
      refine hw_weak (ls' := [some (.inr (.inr (some q))), some (.inl (m : Int)), some (.inl (u : Int)), some (.inl (cn u 0 : Int)), some (.inl (rL u)), some (.inl ((n + 1 : Nat) : Int)), none]) ⟨rfl, rfl, rfl, rfl, rfl, rfl, trivial⟩ (hk _ hI (by rw [show aS (n + 1) = v by omega]; exact hP'))
    | succ k ih =>
      intro v I' hv hv2 hI hP' hk
      have hT' := bT_of hT (hI nu hn1) (hI st hn2)
      have hdv : dgA v = n := (hr.2.2.2 v (by omega)).mpr ⟨hv2, by omega⟩
      have hck := ckL_at hu (show v < 61 by omega) hs1 (by omega)
      rw [hdu, hdv] at hck
      refine zgo (fun pc => Nat.beq pc 90 || Nat.beq pc 70) 200 hX hR rfl ?_
      refine Exists.intro _ ⟨hs.1, ?_⟩
      refine qX6_fillLonger_28 hX (c_X0_start (xl X) (xD X) (xsh X) hb F I' J hT' (d := (n : Int) + 1) (by unfold zi32; omega)) hb.1 (fun w F' I2 J' hv => ?_)
      obtain ⟨rfl, rfl, rfl, rfl⟩ := hv
      rw [e1]
      refine And.intro (fun c1 => by omega) (fun c1 => ?_)
      refine qX6_fillLonger_56 hX (c_X6_product (xl X) (xD X) (xsh X) hs F' I2 J' hP' (u := rL u) (v := (v : Int)) (by unfold zi32; omega) (by unfold zi32; omega)) hs.1 (fun w F3 I3 J3 hv => ?_)
      obtain ⟨rfl, rfl, rfl, rfl⟩ := hv
      have hsp := spd_lt hP' (rL u) (v : Int)
      refine qX6_fillLonger_59 hX (c_X6_timesSum (xl X) (xD X) (xsh X) hs hb F3 I3 J3 hT' hP' (i := (cn u 0 : Int)) (d := (m : Int) - (cn u 0 : Int) + (n : Int)) (x := spd (pL u v) (rL u) (v : Int)) (by unfold zi32; omega) (by unfold zi32; omega) (by omega) (aS_30 _)) hs.1 (fun w F4 I4 J4 hv => ?_)
      obtain ⟨rfl, rfl, rfl, rfl⟩ := hv
      rw [hck]
      refine qX6_fillLonger_38 hX (c_X6_put (xl X) (xD X) (xsh X) hs F4 I4 J4 (u := (u : Int)) (v := (v : Int)) (x := (aGP u v : Int)) (by omega) (by omega)) hs.1 (fun w F5 I5 J5 hv => ?_)
      obtain ⟨rfl, rfl, rfl, rfl⟩ := hv
      exact ih (v + 1) _ (by omega) (by omega) (fun a ha => by rw [zu_r ha]; exact hI a ha) (hP'.put (u := u) (v := v) hu (by omega) (aGP_30 hu (by omega)) (pL_put hu (by omega) (by omega))) hk
  have loopN : ∀ m u, 1 ≤ m → m ≤ 14 → u < 61 → dgA u = m → cn u 1 ≠ 0 → ∀ (k n : Nat) (I' : zFi), n + k = 15 - m → (∀ a, a ≠ pr → I' a = I a) → sqT I' pr (pL u (aS n)) → (∀ I2, (∀ a, a ≠ pr → I2 a = I a) → sqT I2 pr (pL (u + 1) 0) → HW X 17 [some (.inr (.inr (some q))), some (.inl (m : Int)), some (.inl ((u + 1 : Nat) : Int)), none, none, none, none] [] F I2 J) → HW X 70 [some (.inr (.inr (some q))), some (.inl (m : Int)), some (.inl (u : Int)), some (.inl (cn u 0 : Int)), some (.inl (rL u)), some (.inl (n : Int)), none] [] F I' J := by
    intro m u hm hm2 hu hdu hs1 k
    induction k with
    | zero =>
      intro n I' hn hI hP' hk
      refine zgo (fun pc => Nat.beq pc 17) 200 hX hR rfl ?_
      refine And.intro (fun c1 => ?_) (fun c1 => by omega)
      refine hw_weak (ls' := [some (.inr (.inr (some q))), some (.inl (m : Int)), some (.inl ((u + 1 : Nat) : Int)), none, none, none, none]) ⟨rfl, rfl, rfl, trivial⟩ (hk _ hI ?_)
      refine sqT.congr ?_ (pL_u hm hm2 hdu)
      rw [show 15 - m = n by omega]
      exact hP'
    | succ k ih =>
      intro n I' hn hI hP' hk
      refine zgo (fun pc => Nat.beq pc 90) 200 hX hR rfl ?_
      refine And.intro (fun c1 => by omega) (fun c1 => ?_)
      refine Exists.intro _ ⟨hs.1, ?_⟩
      refine qX6_fillLonger_28 hX (c_X0_start (xl X) (xD X) (xsh X) hb F I' J (bT_of hT (hI nu hn1) (hI st hn2)) (d := (n : Int)) (by unfold zi32; omega)) hb.1 (fun w F' I2 J' hv => ?_)
      obtain ⟨rfl, rfl, rfl, rfl⟩ := hv
      rw [show bst aS (n : Int) = aS n from bst_aS (t := n) (by omega)]
      have hr := dg_range (show n ≤ 14 by omega)
      exact loopV m u n hm (by omega) hu hdu hs1 (aS (n + 1) - aS n) (aS n) I2 (by omega) (Nat.le_refl _) hI hP' (fun I3 h1 h2 => ih (n + 1) I3 (by omega) h1 h2 hk)
  have loopU : ∀ m, 1 ≤ m → m ≤ 14 → ∀ (k u : Nat) (I' : zFi), u + k = sg m → aS m ≤ u → (∀ a, a ≠ pr → I' a = I a) → sqT I' pr (pL u 0) → (∀ I2, (∀ a, a ≠ pr → I2 a = I a) → sqT I2 pr (pL (sg m + 1) 0) → HW X 2 [some (.inr (.inr (some q))), some (.inl ((m + 1 : Nat) : Int)), none, none, none, none, none] [] F I2 J) → HW X 17 [some (.inr (.inr (some q))), some (.inl (m : Int)), some (.inl (u : Int)), none, none, none, none] [] F I' J := by
    intro m hm hm2 k
    have hsg := sg_ok hm2
    have hr := dg_range hm2
    have hsgr := (hr.2.2.2 _ hsg.1).mp hsg.2.2.2.2
    induction k with
    | zero =>
      intro u I' hu hu2 hI hP' hk
      refine zgo (fun pc => Nat.beq pc 17 || Nat.beq pc 2) 200 hX hR rfl ?_
      refine qX6_fillLonger_42 hX (c_X6_single (xl X) (xD X) (xsh X) hs hb F I' J (bT_of hT (hI nu hn1) (hI st hn2)) (i := (m : Int)) (by unfold zi32; omega)) hs.1 (fun w F3 I3 J3 hv => ?_)
      obtain ⟨rfl, rfl, rfl, rfl⟩ := hv
      rw [sgl_sg hm2]
      refine And.intro (fun c1 => ?_) (fun c1 => by omega)
      refine hw_weak (ls' := [some (.inr (.inr (some q))), some (.inl ((m + 1 : Nat) : Int)), none, none, none, none, none]) ⟨rfl, rfl, trivial⟩ (hk _ hI ?_)
      refine sqT.congr ?_ (pL_sg hm2)
      rw [show sg m = u by omega]
      exact hP'
    | succ k ih =>
      intro u I' hu hu2 hI hP' hk
      have hT' := bT_of hT (hI nu hn1) (hI st hn2)
      have hdu : dgA u = m := (hr.2.2.2 u (by omega)).mpr ⟨hu2, by omega⟩
      have hs1 : cn u 1 ≠ 0 := fun z => by
        have h1 := cn_sg1 u (by omega) z
        have h2 := (sg_ok (show cn u 0 ≤ 14 from cn_le u (by omega) 0 (by decide))).2.2.2.2
        rw [← h1, hdu] at h2
        rw [← h2] at h1
        omega
      have hu61 : u < 61 := by omega
      have hcu := cn_le u hu61 0 (by decide)
      have hcu1 := cn_le u hu61 1 (by decide)
      have hcu2 := cn_le u hu61 2 (by decide)
      refine zgo (fun pc => Nat.beq pc 17 || Nat.beq pc 70) 200 hX hR rfl ?_
      refine qX6_fillLonger_42 hX (c_X6_single (xl X) (xD X) (xsh X) hs hb F I' J hT' (i := (m : Int)) (by unfold zi32; omega)) hs.1 (fun w F3 I3 J3 hv => ?_)
      obtain ⟨rfl, rfl, rfl, rfl⟩ := hv
      rw [sgl_sg hm2]
      refine And.intro (fun c1 => by omega) (fun c1 => ?_)
      refine Exists.intro _ ⟨hs.1, ?_⟩
      refine qX6_fillLonger_49 hX (c_X0_numberAt (xl X) (xD X) (xsh X) hb F3 I3 J3 hT' (t := (u : Int)) (j := ((0 : Nat) : Int)) (by unfold zi32; omega) (by unfold zi32; omega)) hb.1 (fun w F4 I4 J4 hv => ?_)
      obtain ⟨rfl, rfl, rfl, rfl⟩ := hv
      rw [bnm_cn hu61 (by decide)]
      refine Exists.intro _ ⟨hs.1, ?_⟩
      refine Exists.intro _ ⟨hs.1, ?_⟩
      refine qX6_fillLonger_49 hX (c_X0_numberAt (xl X) (xD X) (xsh X) hb F4 I4 J4 hT' (t := (u : Int)) (j := ((1 : Nat) : Int)) (by unfold zi32; omega) (by unfold zi32; omega)) hb.1 (fun w F5 I5 J5 hv => ?_)
      obtain ⟨rfl, rfl, rfl, rfl⟩ := hv
      rw [bnm_cn hu61 (by decide)]
      refine Exists.intro _ ⟨hs.1, ?_⟩
      refine qX6_fillLonger_49 hX (c_X0_numberAt (xl X) (xD X) (xsh X) hb F5 I5 J5 hT' (t := (u : Int)) (j := ((2 : Nat) : Int)) (by unfold zi32; omega) (by unfold zi32; omega)) hb.1 (fun w F6 I6 J6 hv => ?_)
      obtain ⟨rfl, rfl, rfl, rfl⟩ := hv
      rw [bnm_cn hu61 (by decide)]
      have cF := c_X0_find (xl X) (xD X) (xsh X) hb F6 I6 J6 hT' (d := (m : Int) - (cn u 0 : Int)) (a1 := (cn u 1 : Int)) (a2 := (cn u 2 : Int)) (a3 := 0) (by unfold zi32; omega) (by unfold zi32; omega) (by unfold zi32; omega) (by unfold zi32; omega) (by unfold zi32; omega)
      refine qX6_fillLonger_52 hX cF hb.1 (fun w F7 I7 J7 hv => ?_)
      obtain ⟨rfl, rfl, rfl, rfl⟩ := hv
      have hrl : bfd aN (cn u 1 : Int) (cn u 2 : Int) 0 (bst aS ((m : Int) - (cn u 0 : Int) + 1) - bst aS ((m : Int) - (cn u 0 : Int))) (bst aS ((m : Int) - (cn u 0 : Int))) = rL u := by
        unfold rL bfi
        rw [hdu]
      rw [hrl]
      exact loopN m u hm hm2 hu61 hdu hs1 (15 - m) 0 I7 (by omega) hI hP' (fun I8 h1 h2 => ih (u + 1) I8 (by omega) (by omega) h1 h2 hk)
  have loopM : ∀ (k m : Nat) (I' : zFi), 1 ≤ m → m + k = 15 → (∀ a, a ≠ pr → I' a = I a) → sqT I' pr (pL (aS m) 0) → HW X 2 [some (.inr (.inr (some q))), some (.inl (m : Int)), none, none, none, none, none] [] F I' J := by
    intro k
    induction k with
    | zero =>
      intro m I' hm hm2 hI hP'
      obtain rfl : m = 15 := by omega
      refine zgo (fun pc => Nat.beq pc 17) 200 hX hR rfl ?_
      refine And.intro (fun c1 => ?_) (fun c1 => by omega)
      exact ⟨rfl, rfl, rfl, hI, hP'.congr pL_end⟩
    | succ k ih =>
      intro m I' hm hm2 hI hP'
      refine zgo (fun pc => Nat.beq pc 17) 200 hX hR rfl ?_
      refine And.intro (fun c1 => by omega) (fun c1 => ?_)
      refine Exists.intro _ ⟨hs.1, ?_⟩
      refine qX6_fillLonger_28 hX (c_X0_start (xl X) (xD X) (xsh X) hb F I' J (bT_of hT (hI nu hn1) (hI st hn2)) (d := (m : Int)) (by unfold zi32; omega)) hb.1 (fun w F' I2 J' hv => ?_)
      obtain ⟨rfl, rfl, rfl, rfl⟩ := hv
      rw [show bst aS (m : Int) = aS m from bst_aS (t := m) (by omega)]
      have hsg := sg_ok (show m ≤ 14 by omega)
      have hr := dg_range (show m ≤ 14 by omega)
      have hsgr := (hr.2.2.2 _ hsg.1).mp hsg.2.2.2.2
      have hsg1 : sg m + 1 = aS (m + 1) := by
        unfold sg
        unfold sg at hsgr
        omega
      exact loopU m hm (by omega) (sg m - aS m) (aS m) I2 (by omega) (Nat.le_refl _) hI hP' (fun I3 h1 h2 => ih (m + 1) I3 (by omega) (by omega) h1 (by rw [← hsg1]; exact h2))
  refine zgo (fun pc => Nat.beq pc 2) 200 hX hR rfl ?_
  exact loopM 14 1 I (by decide) rfl (fun _ _ => rfl) (hP.congr pS_pL)
end FILL
def mA6 : zM := (cX6_init, tX6_init, RX6, wsX6_init, { frames := 6, cells := 1, slots := 3721, locals := 141 })
theorem kA6 : mA6.2.1.all (fun r => zok mA6 r && zrt none r.2.1) = true := by decide +kernel
theorem c_X6_init (l : Launch) (D : va_G) (sh : zSh) (F I : zFi) (J : zJi) (hq : sh 8 = some (.inl (6, [some none, some none]))) (h9 : sh 9 = none) (hb : zsBas sh 2 3 4) (hT : bT I 3 4 aN aS) (hcl : zCl sh) :
    CnA l D yX6_init wsX6_init mA6.2.2.2.2 sh (fun k => decide (k = 9)) [.inr (.inr (some 8)), .inr (.inr (some 2))] F I J 1 3721 (fun sh' F' I' J' => ((∀ k, k ≠ 8 → k ≠ 9 → sh' k = sh k) ∧ zsSq sh' 8 2 9) ∧ F' = F ∧ J' = J ∧ (∀ a, a ≠ 9 → I' a = I a) ∧ sqT I' 9 aGP) := by
  refine zmetA (M := mA6) rfl rfl rfl rfl kA6 (Nat.le_of_ble_eq_true rfl) hcl (fun X hZ hRA hin hl hD hsh hk hn => ?_)
  subst hl hD
  show HW X 0 [some (.inr (.inr (some 8))), some (.inr (.inr (some 2)))] [] F I J
  refine zgo (fun pc => Nat.beq pc 1) 200 hZ.1 zr0 rfl ?_
  refine hw_objInit hZ.1 (zat_mem rfl) (by decide +kernel) (by decide +kernel) (by decide +kernel) (Nat.le_of_ble_eq_true rfl) ⟨by decide, by decide⟩ ?_
  refine zgo (fun pc => Nat.beq pc 8) 200 hZ.1 zr0 rfl ?_
  refine hw_newI (q := 9) (N := 3721) hZ (by decide +kernel) (by decide +kernel) rfl (by omega) (by rw [hsh]; exact h9) rfl rfl rfl (by rw [hk]; decide) (by rw [hn]; decide) (fun X1 c1 hZ1 hs1 hk1 hn1 => ?_)
  rw [hsh] at hs1
  refine hw_putref (idx := 9) (ci := 6) (j := 1) (y := none) hZ1 hin (by decide +kernel) (by decide +kernel) (by rw [hs1]; exact hq) rfl (by rw [hs1]; exact sne rfl) (fun X2 hZ2 hs2 hk2 hn2 => ?_)
  rw [hs1] at hs2
  refine zgo (fun pc => Nat.beq pc 15) 200 hZ2.1 zr0 rfl ?_
  refine hw_putref (idx := 15) (ci := 6) (j := 0) (y := none) hZ2 hin (by decide +kernel) (by decide +kernel) (by rw [hs2]; rfl) rfl (by rw [hs2]; exact sne hb.1) (fun X3 hZ3 hs3 hk3 hn3 => ?_)
  rw [hs2] at hs3
  have keep : ∀ k, k ≠ 8 → k ≠ 9 → xsh X3 k = sh k := fun k a1 a2 => by rw [hs3, zsu_n a1, zsu_n a1, zsu_n a2]
  have hb3 : zsBas (xsh X3) 2 3 4 := ⟨(keep 2 (by decide) (by decide)).trans hb.1, hb.2.1.imp fun c h => (keep 3 (by decide) (by decide)).trans h, hb.2.2.imp fun c h => (keep 4 (by decide) (by decide)).trans h⟩
  have hq3 : zsSq (xsh X3) 8 2 9 := ⟨by rw [hs3]; rfl, c1, by rw [hs3]; rfl⟩
  have hT3 : bT (zfz I 9) 3 4 aN aS := bT_of hT (zfz_r (by decide)) (zfz_r (by decide))
  have hX3 := hZ3.1
  refine zgo (fun pc => Nat.beq pc 19) 200 hX3 zr0 rfl ?_
  refine hw_callV (nA := 0) (maxL := 3) (As := []) hX3 (zat_mem rfl) (c_X6_fillUnit (xl X3) (xD X3) (xsh X3) hq3 hb3 F (zfz I 9) J hT3 (by decide) (by decide) (fun u v _ _ => ⟨by rw [zfz_s]; rfl, by show 0 < 1073741824; decide⟩)) gX6_init_X6_fillUnit rfl ⟨rfl, rfl⟩ ⟨rfl, by decide, by decide, by decide +kernel⟩ rfl ⟨Nat.le_of_ble_eq_true rfl, Nat.le_of_ble_eq_true rfl⟩ hX3.2.2.2.2.2.2.1.2 hq3.1 rfl (Nat.le_of_ble_eq_true rfl) (fun v F4 I4 J4 hv => ?_)
  obtain ⟨rfl, rfl, rfl, i4, p4⟩ := hv
  have hT4 := bT_of hT3 (i4 3 (by decide)) (i4 4 (by decide))
  refine zgo (fun pc => Nat.beq pc 23) 200 hX3 zr0 rfl ?_
  refine hw_callV (nA := 0) (maxL := 4) (As := []) hX3 (zat_mem rfl) (c_X6_fillSingles (xl X3) (xD X3) (xsh X3) hq3 hb3 F4 I4 J4 hT4 (by decide) (by decide) p4) gX6_init_X6_fillSingles rfl ⟨rfl, rfl⟩ ⟨rfl, by decide, by decide, by decide +kernel⟩ rfl ⟨Nat.le_of_ble_eq_true rfl, Nat.le_of_ble_eq_true rfl⟩ hX3.2.2.2.2.2.2.1.2 hq3.1 rfl (Nat.le_of_ble_eq_true rfl) (fun v F5 I5 J5 hv => ?_)
  obtain ⟨rfl, rfl, rfl, i5, p5⟩ := hv
  have hT5 := bT_of hT4 (i5 3 (by decide)) (i5 4 (by decide))
  refine zgo (fun pc => Nat.beq pc 27) 200 hX3 zr0 rfl ?_
  refine hw_callV (nA := 0) (maxL := 7) (As := []) hX3 (zat_mem rfl) (c_X6_fillLonger (xl X3) (xD X3) (xsh X3) hq3 hb3 F5 I5 J5 hT5 (by decide) (by decide) p5) gX6_init_X6_fillLonger rfl ⟨rfl, rfl⟩ ⟨rfl, by decide, by decide, by decide +kernel⟩ rfl ⟨Nat.le_of_ble_eq_true rfl, Nat.le_of_ble_eq_true rfl⟩ hX3.2.2.2.2.2.2.1.2 hq3.1 rfl (Nat.le_of_ble_eq_true rfl) (fun v F6 I6 J6 hv => ?_)
  obtain ⟨rfl, rfl, rfl, i6, p6⟩ := hv
  refine zgo (fun _ => false) 200 hX3 (hRA.zr hZ3 (by omega) (by omega)) rfl ?_
  exact ⟨rfl, ⟨keep, hq3⟩, rfl, rfl, fun a ha => (i6 a ha).trans ((i5 a ha).trans ((i4 a ha).trans (zfz_r ha))), p6⟩
