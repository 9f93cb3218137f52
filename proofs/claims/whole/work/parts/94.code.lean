/-! places of a floor and elements of a free module -/
theorem bx2 : ∀ a b c : Bool, (a && (b ^^ c)) = ((a && b) ^^ (a && c)) := by decide
def wd (t d : Nat) : Nat := (bsz aS ((t : Int) - d)).toNat
def bs (t d : Nat) : Nat := bst aS ((t : Int) - d)
theorem bs_iff {u t d : Nat} (hu : u < 61) : d + dgA u = t ↔ bs t d ≤ u ∧ u < bs t d + wd t d := by
  have := dg_iff hu ((t : Int) - d)
  unfold bs wd
  rw [← this]
  omega
theorem bs_61 (t d : Nat) : bs t d + wd t d ≤ 61 := (aS_fit _).1
theorem flP_succ (d : Nat → Nat) (t G : Nat) : flP aS d t (G + 1) = flP aS d t G + wd t (d G) := rfl
/-- bits of places as an element -/
def tE (d : Nat → Nat) (G t : Nat) (f : Nat → Bool) : EE := fun a b => decide (a < G ∧ bs t (d a) ≤ b ∧ b < bs t (d a) + wd t (d a)) && f (flP aS d t a + (b - bs t (d a)))
theorem tE_in {d : Nat → Nat} {G t : Nat} {f : Nat → Bool} {a b : Nat} (h : tE d G t f a b = true) : a < G ∧ b < 61 ∧ d a + dgA b = t ∧ f (flP aS d t a + (b - bs t (d a))) = true := by
  unfold tE at h
  simp only [Bool.and_eq_true, decide_eq_true_eq] at h
  obtain ⟨⟨h1, h2⟩, h3⟩ := h
  have h4 := bs_61 t (d a)
  exact ⟨h1, by omega, (bs_iff (by omega)).mpr h2, h3⟩
theorem tE_at {d : Nat → Nat} {G t a b : Nat} (f : Nat → Bool) (ha : a < G) (hb : b < 61) (hd : d a + dgA b = t) : tE d G t f a b = f (flP aS d t a + (b - bs t (d a))) := by
  unfold tE
  rw [decide_eq_true ⟨ha, (bs_iff hb).mp hd⟩, Bool.true_and]
theorem tE_k {d : Nat → Nat} {G t a k : Nat} (f : Nat → Bool) (ha : a < G) (hk : k < wd t (d a)) : tE d G t f a (bs t (d a) + k) = f (flP aS d t a + k) := by
  unfold tE
  rw [decide_eq_true ⟨ha, by omega, by omega⟩, Bool.true_and, show bs t (d a) + k - bs t (d a) = k by omega]
theorem tE_fin (d : Nat → Nat) (G t : Nat) (f : Nat → Bool) : FIn dgA (fun a => decide (a < G)) d t (tE d G t f) := fun a b h => by
  obtain ⟨h1, h2, h3, -⟩ := tE_in h
  exact ⟨decide_eq_true h1, h2, h3⟩
theorem tE_vx (d : Nat → Nat) (G t : Nat) (f g : Nat → Bool) : tE d G t (vx f g) = ex (tE d G t f) (tE d G t g) := by
  funext a b
  unfold tE ex vx
  exact bx2 _ _ _
theorem tE_v0 (d : Nat → Nat) (G t : Nat) : tE d G t v0 = e0 := by
  funext a b
  unfold tE e0 v0
  rw [Bool.and_false]
theorem tE_vc (d : Nat → Nat) (G t n : Nat) (c : Nat → Bool) (w : Nat → Nat → Bool) : tE d G t (vc n c w) = es n c (fun i => tE d G t (w i)) := by
  induction n with
  | zero => exact tE_v0 d G t
  | succ n ih =>
    rw [es_succ, vc_succ, tE_vx, ih]
    congr 1
    cases c n
    · rw [if_neg (by decide)]
      exact tE_v0 d G t
    · rw [if_pos rfl]
      rfl
/-- each place is one of a generator -/
theorem pl_dec (d : Nat → Nat) (t : Nat) : ∀ G p, p < flP aS d t G → ∃ a k, a < G ∧ k < wd t (d a) ∧ p = flP aS d t a + k := by
  intro G
  induction G with
  | zero => intro p hp; exact absurd hp (Nat.not_lt_zero p)
  | succ G ih =>
    intro p hp
    rw [flP_succ] at hp
    rcases Nat.lt_or_ge p (flP aS d t G) with g | g
    · obtain ⟨a, k, h1, h2, h3⟩ := ih p g
      exact ⟨a, k, by omega, h2, h3⟩
    · exact ⟨G, p - flP aS d t G, by omega, by omega, by omega⟩
theorem pl_lt {d : Nat → Nat} {t G a k : Nat} (ha : a < G) (hk : k < wd t (d a)) : flP aS d t a + k < flP aS d t G := by
  have := flP_mono aS d (t : Int) (a + 1) G (by omega)
  rw [flP_succ] at this
  omega
theorem tE_inj {d : Nat → Nat} {G t : Nat} {f g : Nat → Bool} (hf : ∀ p, flP aS d t G ≤ p → f p = false) (hg : ∀ p, flP aS d t G ≤ p → g p = false) (h : tE d G t f = tE d G t g) : f = g := by
  funext p
  rcases Nat.lt_or_ge p (flP aS d t G) with z | z
  · obtain ⟨a, k, h1, h2, rfl⟩ := pl_dec d t G p z
    have := congrFun (congrFun h a) (bs t (d a) + k)
    rw [tE_k f h1 h2, tE_k g h1 h2] at this
    exact this
  · rw [hf p z, hg p z]
theorem tE_sur {d : Nat → Nat} {G t : Nat} {x : EE} (hx : FIn dgA (fun a => decide (a < G)) d t x) : ∃ f : Nat → Bool, (∀ p, flP aS d t G ≤ p → f p = false) ∧ tE d G t f = x := by
  refine ⟨fun p => decide (p < flP aS d t G) && dvT aS d t (fun a k _ => x a (bs t (d a) + k)) G p 0, fun p hp => by dsimp only; rw [decide_eq_false (by omega), Bool.false_and], ?_⟩
  funext a b
  by_cases h : a < G ∧ b < 61 ∧ d a + dgA b = t
  · obtain ⟨h1, h2, h3⟩ := h
    have h4 := (bs_iff h2).mp h3
    have h5 : b - bs t (d a) < wd t (d a) := by omega
    rw [tE_at _ h1 h2 h3, decide_eq_true (pl_lt h1 h5), Bool.true_and, dvT_at h5 G h1, show bs t (d a) + (b - bs t (d a)) = b by omega]
  · cases hb : x a b
    · cases ht : tE d G t (fun p => decide (p < flP aS d t G) && dvT aS d t (fun a k _ => x a (bs t (d a) + k)) G p 0) a b
      · rfl
      · obtain ⟨g1, g2, g3, -⟩ := tE_in ht
        exact absurd ⟨g1, g2, g3⟩ h
    · obtain ⟨g1, g2, g3⟩ := hx a b hb
      exact absurd ⟨of_decide_eq_true g1, g2, g3⟩ h
/-- a sum over a block of 61 -/
theorem xs_blk {B w : Nat} (h : B + w ≤ 61) (g : Nat → Bool) (z : Nat → Bool) : xs_ 61 (fun u => (decide (B ≤ u ∧ u < B + w) && g (u - B)) && z u) = xs_ w (fun k => g k && z (B + k)) := by
  rw [show 61 = B + (w + (61 - B - w)) by omega, xs_add, xs_add, xs_zero' (fun i hi => by rw [decide_eq_false (by omega), Bool.false_and, Bool.false_and]), Bool.false_xor]
  rw [xs_zero' (n := 61 - B - w) (fun i hi => by rw [decide_eq_false (by omega), Bool.false_and, Bool.false_and]), Bool.xor_false]
  exact xs_congr fun i hi => by rw [decide_eq_true ⟨by omega, by omega⟩, Bool.true_and, show B + i - B = i by omega]
theorem sum_tE {d : Nat → Nat} {t : Nat} (f : Nat → Bool) (z : Nat → Nat → Bool) (N : Nat) : ∀ G, G ≤ N → xs_ N (fun g => xs_ 61 (fun u => tE d G t f g u && z g u)) = xs_ (flP aS d t G) (fun p => f p && dvT aS d t (fun a k _ => z a (bs t (d a) + k)) G p 0) := by
  intro G
  have one : ∀ G g, g < G → xs_ 61 (fun u => tE d G t f g u && z g u) = xs_ (wd t (d g)) (fun k => f (flP aS d t g + k) && z g (bs t (d g) + k)) := fun G g hg => by
    rw [← xs_blk (bs_61 t (d g)) (fun k => f (flP aS d t g + k)) (z g)]
    refine xs_congr fun u _ => ?_
    unfold tE
    congr 2
    exact decide_eq_decide.mpr ⟨fun h => h.2, fun h => ⟨hg, h⟩⟩
  have zero : ∀ G g, G ≤ g → xs_ 61 (fun u => tE d G t f g u && z g u) = false := fun G g hg => xs_zero' fun u _ => by
    unfold tE
    rw [decide_eq_false (by omega), Bool.false_and, Bool.false_and]
  have main : ∀ G, xs_ G (fun g => xs_ (wd t (d g)) (fun k => f (flP aS d t g + k) && z g (bs t (d g) + k))) = xs_ (flP aS d t G) (fun p => f p && dvT aS d t (fun a k _ => z a (bs t (d a) + k)) G p 0) := by
    intro G
    induction G with
    | zero => rfl
    | succ G ih =>
      rw [show ∀ f : Nat → Bool, xs_ (G + 1) f = (xs_ G f ^^ f G) from fun _ => rfl, ih, flP_succ, xs_add]
      congr 1
      · refine xs_congr fun p hp => ?_
        obtain ⟨a, k, h1, h2, rfl⟩ := pl_dec d t G p hp
        rw [dvT_at h2 G h1, dvT_at h2 (G + 1) (by omega)]
      · refine xs_congr fun k hk => ?_
        rw [dvT_at hk (G + 1) (Nat.lt_succ_self G)]
  intro hG
  rw [show N = G + (N - G) by omega, xs_add, xs_zero' (n := N - G) (fun j _ => zero G (G + j) (by omega)), Bool.xor_false, ← main G]
  exact xs_congr fun g hg => one G g hg
/-- what a floor's element goes to, by its places -/
theorem fm_tE {N G t : Nat} (hG : G ≤ N) (d : Nat → Nat) (act : Nat → EE → EE) (δ : Nat → EE) (f : Nat → Bool) (Z : Nat → EE) (hZ : ∀ a k, a < G → k < wd t (d a) → Z (flP aS d t a + k) = act (bs t (d a) + k) (δ a)) : fm N act δ (tE d G t f) = es (flP aS d t G) f Z := by
  funext a b
  unfold fm
  rw [es2_at, sum_tE f (fun g u => act u (δ g) a b) N G hG]
  unfold es
  refine xs_congr fun p hp => ?_
  obtain ⟨g, k, h1, h2, rfl⟩ := pl_dec d t G p hp
  rw [dvT_at h2 G h1, hZ g k h1 h2]
/-- products, as bits of their degree -/
def aGP (u v : Nat) : Nat := gpA u v / 2 ^ aS (dgA u + dgA v)
theorem aGP_bit (u v k : Nat) : (aGP u v).testBit k = caA u v (aS (dgA u + dgA v) + k) := by
  unfold aGP caA
  rw [Nat.testBit_div_two_pow, Nat.add_comm]
theorem chf_at {d : Nat → Nat} {deg : Nat} {a k : Nat} (hk : k < wd deg (d a)) : ∀ G, a < G → chf aS d deg G (flP aS d deg a + k) = bs deg (d a) + k := by
  intro G
  induction G with
  | zero => intro h; exact absurd h (Nat.not_lt_zero a)
  | succ G ih =>
    intro h
    rw [show chf aS d deg (G + 1) (flP aS d deg a + k) = if flP aS d deg G ≤ flP aS d deg a + k then bst aS ((deg : Int) - d G) + (flP aS d deg a + k - flP aS d deg G) else chf aS d deg G (flP aS d deg a + k) from rfl]
    by_cases e : a = G
    · subst e
      rw [if_pos (by omega), show flP aS d deg a + k - flP aS d deg a = k by omega]
      rfl
    · have h1 := flP_mono aS d (deg : Int) (a + 1) G (by omega)
      rw [flP_succ] at h1
      rw [if_neg (by omega)]
      exact ih (by omega)
theorem tgf_at {d : Nat → Nat} {deg t : Nat} {a k : Nat} (hk : k < wd deg (d a)) : ∀ G, a < G → tgf aS d deg t G (flP aS d deg a + k) = flP aS d t a := by
  intro G
  induction G with
  | zero => intro h; exact absurd h (Nat.not_lt_zero a)
  | succ G ih =>
    intro h
    rw [show tgf aS d deg t (G + 1) (flP aS d deg a + k) = if flP aS d deg G ≤ flP aS d deg a + k then flP aS d t G else tgf aS d deg t G (flP aS d deg a + k) from rfl]
    by_cases e : a = G
    · subst e
      rw [if_pos (by omega)]
    · have h1 := flP_mono aS d (deg : Int) (a + 1) G (by omega)
      rw [flP_succ] at h1
      rw [if_neg (by omega)]
      exact ih (by omega)
/-- blocks of places are apart -/
theorem blk_sep {d : Nat → Nat} {t a b k q : Nat} (h1 : q < flP aS d t a + wd t (d a)) (h2 : flP aS d t a ≤ q) (h3 : q = flP aS d t b + k) (h4 : k < wd t (d b)) : a = b := by
  rcases Nat.lt_trichotomy a b with g | g | g
  · have := flP_mono aS d (t : Int) (a + 1) b (by omega)
    rw [flP_succ] at this
    omega
  · exact g
  · have := flP_mono aS d (t : Int) (b + 1) a (by omega)
    rw [flP_succ] at this
    omega
def ckW : Bool := (List.range 61).all fun u => (List.range 61).all fun v => Nat.blt (gpA u v) (2 ^ 61)
set_option maxRecDepth 100000 in
theorem ckW_ok : ckW = true := by decide +kernel
theorem ca_lt {u v w : Nat} (hu : u < 61) (hv : v < 61) (h : caA u v w = true) : w < 61 := by
  have h1 := blt_lt (range_all (range_all ckW_ok hu) hv)
  rcases Nat.lt_or_ge w 61 with z | z
  · exact z
  · unfold caA at h
    rw [Nat.testBit_lt_two_pow (Nat.lt_of_lt_of_le h1 (Nat.pow_le_pow_right (by decide) z))] at h
    cases h
theorem aS_bs {t d x : Nat} (ht : t ≤ 14) (h : d + x = t) : aS x = bs t d := by
  unfold bs bst
  congr 1
  omega
section PPS
variable {d : Nat → Nat} {G deg t c lim : Nat} {goal : Nat → Bool}
theorem pps_term (ht : t ≤ 14) (hc : c < 61) (hcd : deg + dgA c = t) {a k q : Nat} (hk : k < wd deg (d a)) (hb : (aGP c (bs deg (d a) + k)).testBit (q - flP aS d t a) = true) (hq : flP aS d t a ≤ q) : q - flP aS d t a < wd t (d a) := by
  have h61 := bs_61 deg (d a)
  have hv := (bs_iff (u := bs deg (d a) + k) (t := deg) (d := d a) (by omega)).mpr ⟨by omega, by omega⟩
  rw [aGP_bit, aS_bs (t := t) (d := d a) ht (by omega)] at hb
  have hw := ca_lt hc (by omega) hb
  have h1 := gp_deg hc (by omega) hw hb
  have h2 := (bs_iff (u := bs t (d a) + (q - flP aS d t a)) (t := t) (d := d a) hw).mp (by omega)
  omega
theorem pps_out (ht : t ≤ 14) (hc : c < 61) (hcd : deg + dgA c = t) {q : Nat} (hq : flP aS d t G ≤ q) : pps goal (fun x => aGP c (chf aS d deg G x)) (tgf aS d deg t G) lim (flP aS d deg G) q = false := by
  refine xs_zero' fun x hx => ?_
  obtain ⟨a, k, h1, h2, rfl⟩ := pl_dec d deg G x hx
  show (goal (flP aS d deg a + k) && (decide (tgf aS d deg t G (flP aS d deg a + k) ≤ q ∧ q < lim) && (aGP c (chf aS d deg G (flP aS d deg a + k))).testBit (q - tgf aS d deg t G (flP aS d deg a + k)))) = false
  rw [chf_at h2 G h1, tgf_at h2 G h1]
  cases hb : (aGP c (bs deg (d a) + k)).testBit (q - flP aS d t a)
  · rw [Bool.and_false, Bool.and_false]
  · have hm := flP_mono aS d (t : Int) (a + 1) G (by omega)
    rw [flP_succ] at hm
    have := pps_term (d := d) ht hc hcd h2 hb (by omega)
    omega
theorem pps_E (ht : t ≤ 14) (hc : c < 61) (hcd : deg + dgA c = t) (hlim : flP aS d t G ≤ lim) :
    tE d G t (pps goal (fun x => aGP c (chf aS d deg G x)) (tgf aS d deg t G) lim (flP aS d deg G)) = fact caA c (tE d G deg goal) := by
  funext h w
  by_cases hin : h < G ∧ w < 61 ∧ d h + dgA w = t
  · obtain ⟨i1, i2, i3⟩ := hin
    have hw := (bs_iff i2).mp i3
    rw [tE_at _ i1 i2 i3]
    unfold fact
    rw [decide_eq_true i2, Bool.true_and]
    have hq : flP aS d t h + (w - bs t (d h)) < flP aS d t G := pl_lt i1 (by omega)
    have e1 : pps goal (fun x => aGP c (chf aS d deg G x)) (tgf aS d deg t G) lim (flP aS d deg G) (flP aS d t h + (w - bs t (d h))) =
        xs_ (flP aS d deg G) (fun x => goal x && dvT aS d deg (fun a k _ => (fun a v => decide (flP aS d t a ≤ flP aS d t h + (w - bs t (d h)) ∧ flP aS d t h + (w - bs t (d h)) < lim) && (aGP c v).testBit (flP aS d t h + (w - bs t (d h)) - flP aS d t a)) a (bs deg (d a) + k)) G x 0) := by
      refine xs_congr fun x hx => ?_
      obtain ⟨a, k, h1, h2, rfl⟩ := pl_dec d deg G x hx
      rw [dvT_at h2 G h1]
      dsimp only
      rw [chf_at h2 G h1, tgf_at h2 G h1]
    refine (e1.trans (sum_tE (d := d) (t := deg) goal (fun a v => decide (flP aS d t a ≤ flP aS d t h + (w - bs t (d h)) ∧ flP aS d t h + (w - bs t (d h)) < lim) && (aGP c v).testBit (flP aS d t h + (w - bs t (d h)) - flP aS d t a)) G G (Nat.le_refl G)).symm).trans ?_
    rw [xs_one i1]
    · refine xs_congr fun u hu => ?_
      cases hb : tE d G deg goal h u
      · rfl
      · obtain ⟨g1, g2, g3, g4⟩ := tE_in hb
        rw [Bool.true_and, Bool.true_and, decide_eq_true ⟨by omega, by omega⟩, Bool.true_and, aGP_bit, aS_bs (t := t) (d := d h) ht (by omega)]
        congr 1
        omega
    · intro g hg hne
      refine xs_zero' fun u hu => ?_
      cases hb : tE d G deg goal g u
      · rfl
      · obtain ⟨g1, g2, g3, g4⟩ := tE_in hb
        have hu2 := (bs_iff g2).mp g3
        rw [Bool.true_and]
        cases hz : decide (flP aS d t g ≤ flP aS d t h + (w - bs t (d h)) ∧ flP aS d t h + (w - bs t (d h)) < lim)
        · rfl
        · have hz2 := of_decide_eq_true hz
          cases hy : (aGP c u).testBit (flP aS d t h + (w - bs t (d h)) - flP aS d t g)
          · rfl
          · exfalso
            have := pps_term (d := d) (deg := deg) (t := t) (a := g) (k := u - bs deg (d g)) ht hc hcd (by omega) (by rw [show bs deg (d g) + (u - bs deg (d g)) = u by omega]; exact hy) hz2.1
            exact hne (blk_sep (d := d) (t := t) (q := flP aS d t h + (w - bs t (d h))) (by omega) hz2.1 rfl (by omega))
  · cases hl : tE d G t (pps goal (fun x => aGP c (chf aS d deg G x)) (tgf aS d deg t G) lim (flP aS d deg G)) h w
    · cases hr : fact caA c (tE d G deg goal) h w
      · rfl
      · exfalso
        unfold fact at hr
        simp only [Bool.and_eq_true, decide_eq_true_eq] at hr
        obtain ⟨h1, h2⟩ := hr
        obtain ⟨u, hu, h3⟩ := xs_ex h2
        simp only [Bool.and_eq_true] at h3
        obtain ⟨g1, g2, g3, g4⟩ := tE_in h3.1
        have := gp_deg hc hu h1 h3.2
        exact hin ⟨g1, h1, by omega⟩
    · obtain ⟨g1, g2, g3, -⟩ := tE_in hl
      exact absurd ⟨g1, g2, g3⟩ hin
end PPS
