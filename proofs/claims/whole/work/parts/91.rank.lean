/-! Tower: rankOfJoins -/
def tbs (x : Nat) : Nat → Bool := fun q => x.testBit q
theorem tbs_xor (a b : Nat) : tbs (a ^^^ b) = vx (tbs a) (tbs b) := by
  funext q
  exact Nat.testBit_xor a b q
theorem top_bit : ∀ n x, 0 < x → x < 2 ^ n → ∃ τ, τ < n ∧ x.testBit τ = true ∧ ∀ q, τ < q → x.testBit q = false := by
  intro n
  induction n with
  | zero => intro x h1 h2; rw [Nat.pow_zero] at h2; omega
  | succ n ih =>
    intro x h1 h2
    cases hb : x.testBit n
    · have h3 : x < 2 ^ n := by
        apply Nat.lt_pow_two_of_testBit
        intro i hi
        by_cases e : i = n
        · rw [e]; exact hb
        · exact Nat.testBit_lt_two_pow (Nat.lt_of_lt_of_le h2 (Nat.pow_le_pow_right (by decide) (by omega)))
      obtain ⟨τ, t1, t2, t3⟩ := ih x h1 h3
      exact ⟨τ, by omega, t2, t3⟩
    · exact ⟨n, by omega, hb, fun q hq => Nat.testBit_lt_two_pow (Nat.lt_of_lt_of_le h2 (Nat.pow_le_pow_right (by decide) (by omega)))⟩
theorem lt_tb {x y : Nat} (i : Nat) (h1 : x.testBit i = false) (h2 : y.testBit i = true) (h3 : ∀ j, i < j → x.testBit j = y.testBit j) : x < y := by
  have ed : x / 2 ^ (i + 1) = y / 2 ^ (i + 1) := by
    apply Nat.eq_of_testBit_eq
    intro j
    rw [Nat.testBit_div_two_pow, Nat.testBit_div_two_pow]
    exact h3 _ (by omega)
  have ex : x % 2 ^ (i + 1) < 2 ^ i := by
    apply Nat.lt_pow_two_of_testBit
    intro j hj
    rw [Nat.testBit_mod_two_pow]
    by_cases e : j = i
    · rw [e, h1, Bool.and_false]
    · rw [decide_eq_false (by omega), Bool.false_and]
  have ey : 2 ^ i ≤ y % 2 ^ (i + 1) := by
    rcases Nat.lt_or_ge (y % 2 ^ (i + 1)) (2 ^ i) with g | g
    · have := Nat.testBit_lt_two_pow g
      rw [Nat.testBit_mod_two_pow, decide_eq_true (Nat.lt_succ_self i), Bool.true_and, h2] at this
      cases this
    · exact g
  have a1 := Nat.div_add_mod x (2 ^ (i + 1))
  have a2 := Nat.div_add_mod y (2 ^ (i + 1))
  rw [← ed] at a2
  omega
theorem min_xor {a b τ : Nat} (h1 : b.testBit τ = true) (h2 : ∀ q, τ < q → b.testBit q = false) : min a (a ^^^ b) = if a.testBit τ then a ^^^ b else a := by
  have hx : ∀ q, τ < q → (a ^^^ b).testBit q = a.testBit q := fun q hq => by rw [Nat.testBit_xor, h2 q hq, Bool.xor_false]
  have hxt : (a ^^^ b).testBit τ = !(a.testBit τ) := by rw [Nat.testBit_xor, h1, Bool.xor_true]
  cases ha : a.testBit τ
  · have : a < a ^^^ b := lt_tb τ ha (by rw [hxt, ha]; rfl) (fun j hj => (hx j hj).symm)
    rw [if_neg (by decide)]
    omega
  · have : a ^^^ b < a := lt_tb τ (by rw [hxt, ha]; rfl) ha (fun j hj => hx j hj)
    rw [if_pos rfl]
    omega
def mb (kept : Nat → Nat) : Nat → Nat → Nat
  | 0, x => x
  | k + 1, x => min (mb kept k x) (mb kept k x ^^^ kept k)
def MBI (R : Nat) (kept τ : Nat → Nat) : Prop := ∀ k, k < R → (kept k).testBit (τ k) = true ∧ (∀ q, τ k < q → (kept k).testBit q = false) ∧ ∀ j, j < k → (kept k).testBit (τ j) = false
theorem mb_ok {R : Nat} {kept τ : Nat → Nat} (h : MBI R kept τ) (x : Nat) : ∀ k, k ≤ R → (∀ j, j < k → (mb kept k x).testBit (τ j) = false) ∧ ∃ c, tbs (mb kept k x) = vx (tbs x) (vc k c (fun i => tbs (kept i))) := by
  intro k
  induction k with
  | zero => intro _; exact ⟨fun j hj => absurd hj (Nat.not_lt_zero j), fun _ => false, by rw [vc_0, vx_0]; rfl⟩
  | succ k ih =>
    intro hk
    obtain ⟨i1, c, i2⟩ := ih (by omega)
    obtain ⟨h1, h2, h3⟩ := h k (by omega)
    rw [show mb kept (k + 1) x = min (mb kept k x) (mb kept k x ^^^ kept k) from rfl, min_xor h1 h2]
    cases hb : (mb kept k x).testBit (τ k)
    · rw [if_neg (by decide)]
      refine ⟨fun j hj => ?_, fun i => if i = k then false else c i, ?_⟩
      · by_cases e : j = k
        · rw [e]; exact hb
        · exact i1 j (by omega)
      · rw [i2]
        congr 1
        rw [vc_ext (if_pos rfl)]
        exact vc_congr (fun i hi => by rw [if_neg (by omega)]) (fun _ _ => rfl)
    · rw [if_pos rfl]
      refine ⟨fun j hj => ?_, fun i => if i = k then true else c i, ?_⟩
      · rw [Nat.testBit_xor]
        by_cases e : j = k
        · rw [e, hb, h1]; rfl
        · rw [i1 j (by omega), h3 j (by omega)]; rfl
      · rw [tbs_xor, i2, vx_assoc]
        congr 1
        rw [vc_succ]
        congr 1
        · exact vc_congr (fun i hi => by rw [if_neg (by omega)]) (fun _ _ => rfl)
        · funext q
          rw [if_pos rfl, Bool.true_and]
theorem MBI.ind {R : Nat} {kept τ : Nat → Nat} (h : MBI R kept τ) : Ind R (fun i => tbs (kept i)) := by
  intro c hc
  have key : ∀ j, j < R → c j = false := by
    intro j
    induction j using Nat.strongRecOn with
    | ind j ih =>
      intro hj
      have e := congrFun hc (τ j)
      unfold vc v0 at e
      rw [xs_one hj _ (fun i hi hne => ?_)] at e
      · have e2 : (c j && tbs (kept j) (τ j)) = false := e
        rw [show tbs (kept j) (τ j) = true from (h j hj).1, Bool.and_true] at e2
        exact e2
      · show (c i && tbs (kept i) (τ j)) = false
        rcases Nat.lt_or_ge i j with g | g
        · rw [ih i g hi, Bool.false_and]
        · rw [show tbs (kept i) (τ j) = false from (h i hi).2.2 j (by omega), Bool.and_false]
  exact key
theorem MBI.add {R : Nat} {kept τ : Nat → Nat} (h : MBI R kept τ) {x : Nat} (hx : 0 < x) (h1 : ∀ j, j < R → x.testBit (τ j) = false) : ∃ t, MBI (R + 1) (fun i => if i = R then x else kept i) (fun i => if i = R then t else τ i) := by
  obtain ⟨t, -, t1, t2⟩ := top_bit x x hx Nat.lt_two_pow_self
  refine ⟨t, fun k hk => ?_⟩
  by_cases e : k = R
  · dsimp only
    rw [if_pos e, if_pos e]
    refine ⟨t1, t2, fun j hj => ?_⟩
    rw [if_neg (by omega)]
    exact h1 j (by omega)
  · dsimp only
    rw [if_neg e, if_neg e]
    obtain ⟨g1, g2, g3⟩ := h k (by omega)
    refine ⟨g1, g2, fun j hj => ?_⟩
    rw [if_neg (by omega)]
    exact g3 j hj
/-- numbers of so many bits: no more are independent -/
theorem ind_bits {R m : Nat} {w : Nat → Nat → Bool} (h : Ind R w) (hw : ∀ i, i < R → ∀ q, m ≤ q → w i q = false) : R ≤ m := by
  refine ind_le m R w (fun i q => decide (q = i)) h (fun i hi => ⟨w i, ?_⟩)
  funext q
  unfold vc
  by_cases hq : q < m
  · rw [xs_one hq]
    · show w i q = (w i q && decide (q = q))
      rw [decide_eq_true rfl, Bool.and_true]
    · intro j hj hne
      show (w i j && decide (q = j)) = false
      rw [decide_eq_false (fun z => hne z.symm), Bool.and_false]
  · rw [hw i hi q (by omega)]
    exact (xs_zero' fun j hj => show (w i j && decide (q = j)) = false by rw [decide_eq_false (by omega), Bool.and_false]).symm
theorem mb_lt {kept : Nat → Nat} {m x : Nat} (hx : x < 2 ^ m) : ∀ k, (∀ j, j < k → kept j < 2 ^ m) → mb kept k x < 2 ^ m := by
  intro k
  induction k with
  | zero => intro _; exact hx
  | succ k ih =>
    intro h
    rw [show mb kept (k + 1) x = min (mb kept k x) (mb kept k x ^^^ kept k) from rfl]
    have := ih (fun j hj => h j (by omega))
    omega
/-- the rows whose rank is asked for -/
def jrw (S : Nat → Nat) (G : Nat → Nat) (d : Nat → Nat → Nat) (J : zJi) (s t top : Nat) (f : Nat) : Nat → Bool := if d (s + 1) f = top then tbs (tjr S (d s) J (35 + 4 * (s + 1)) 5 (G (s + 1)) f t top (G s)) else v0
theorem c_X7_rankOfJoins (l : Launch) (D : va_G) (sh : Nat → Option zS) (hs : zWT sh) (F I : zFi) (J : zJi) {N S : Nat → Nat} (hT : bT I 3 4 N S) (h30 : ∀ n, 0 ≤ bsz S n ∧ bsz S n ≤ 30)
    {G : Nat → Nat} {d : Nat → Nat → Nat} {gb : Nat → Nat → Nat → Bool} (hM : TM F I J G d gb) {i s t : Nat} (hi : i ≤ 3) (hs5 : s < 5) (ht : t + 2 ^ i ≤ 14) (hpos : 1 ≤ bsz S ((2 ^ i : Nat) : Int)) (hsn : flG (d s) t (G s) ≤ 12) :
    Cn l D yX7_rankOfJoins wsX7_rankOfJoins mX7_rankOfJoins.2.2.2.2 sh [.inr (.inr (some 15)), .inl (i : Int), .inl (s : Int), .inl (t : Int)] F I J (fun v F' I' J' => F' = F ∧ J' = J ∧ (∀ a, a ≠ 29 → I' a = I a) ∧ ∃ r : Nat, v = some (.inl (r : Int)) ∧ IsRk (G (s + 1)) (jrw S G d J s t (t + 2 ^ i)) r) := by
  obtain ⟨hs, hb, hsq, hsp, ⟨hva, hso⟩, hkr, ⟨hpi, hca, hta, cK, hke⟩, ⟨cA, E, fk, hkn, hfk⟩, hfl⟩ := hs
  obtain ⟨hp, cA2, E2, ff, hflo, hfs⟩ := id hs
  have hfs : ∀ s, s < 6 → ff s = some (32 + 4 * s) := hfs
  obtain ⟨f1, f2⟩ := hfl s (by omega)
  obtain ⟨e1, e2⟩ := hfl (s + 1) (by omega)
  obtain ⟨m1, m2, m3⟩ := hM s (by omega)
  obtain ⟨y1, y2, y3⟩ := hM (s + 1) (by omega)
  have hsh1 : zshl 1 (i : Int) = ((2 ^ i : Nat) : Int) := zshl1 (by omega)
  generalize hwi : (2 ^ i : Nat) = wi at ht hpos hsh1 ⊢
  refine zmet (M := mX7_rankOfJoins) rfl rfl rfl kX7_rankOfJoins (Nat.le_of_ble_eq_true rfl) (fun X hX hR hl0 hD hsh => ?_)
  subst hl0 hD hsh
  have loop : ∀ m f, f + m = G (s + 1) → ∀ R kept τ I1 l8 l9, (∀ a, a ≠ 29 → I1 a = I a) → MBI R kept τ → (∀ k, k < R → I1 29 k = (kept k : Int) ∧ kept k < 4096) → (∀ k, k < R → Spn (G (s + 1)) (jrw S G d J s t (t + wi)) (tbs (kept k))) → (∀ g, g < f → Spn R (fun k => tbs (kept k)) (jrw S G d J s t (t + wi) g)) →
      HW X 38 [some (.inr (.inr (some 15))), some (.inl (i : Int)), some (.inl (s : Int)), some (.inl (t : Int)), some (.inl ((t + wi : Nat) : Int)), some (.inl (R : Int)), some (.inr (.inr (some (32 + 4 * (s + 1))))), some (.inl (f : Int)), l8, l9] [] F I1 J := by
    intro m
    induction m with
    | zero =>
      intro f hf R kept τ I1 l8 l9 hI hmb hk hsp1 hsp2
      refine zgo (fun pc => Nat.beq pc 38) 200 hX hR rfl ?_
      refine qX7_rankOfJoins_72 hX (c_X3_generators (xl X) (xD X) (xsh X) e1 F I1 J) e1.1 (fun v F2 I2 J2 hv' => ?_)
      obtain ⟨rfl, rfl, rfl, rfl⟩ := hv'
      rw [show F2 (32 + 4 * (s + 1)) 3 = (G (s + 1) : Int) from y1.1]
      refine And.intro (fun c1 => ?_) (fun c1 => by omega)
      refine And.intro rfl ⟨rfl, hI, R, rfl, fun k => tbs (kept k), hmb.ind, hsp1, fun j hj => hsp2 j (by omega)⟩
    | succ m ih =>
      intro f hf R kept τ I1 l8 l9 hI hmb hk hsp1 hsp2
      have hfG : f < G (s + 1) := by omega
      have hG72 := y1.2.1
      have hR12 : R ≤ 12 := ind_bits hmb.ind (fun k hk' q hq => Nat.testBit_lt_two_pow (Nat.lt_of_lt_of_le (hk k hk').2 (show 2 ^ 12 ≤ 2 ^ q from Nat.pow_le_pow_right (by decide) hq)))
      have y1' : flR F I1 (32 + 4 * (s + 1)) (33 + 4 * (s + 1)) (G (s + 1)) (d (s + 1)) := y1.frame rfl (hI _ (by omega))
      have m1' : flR F I1 (32 + 4 * s) (33 + 4 * s) (G s) (d s) := m1.frame rfl (hI _ (by omega))
      have hT1 : bT I1 3 4 N S := bT_of hT (hI 3 (by decide)) (hI 4 (by decide))
      have hd14 := (y1.2.2 f (by omega)).2
      refine zgo (fun pc => Nat.beq pc 38 || Nat.beq pc 84) 200 hX hR rfl ?_
      refine qX7_rankOfJoins_72 hX (c_X3_generators (xl X) (xD X) (xsh X) e1 F I1 J) e1.1 (fun v F2 I2 J2 hv' => ?_)
      obtain ⟨rfl, rfl, rfl, rfl⟩ := hv'
      rw [show F2 (32 + 4 * (s + 1)) 3 = (G (s + 1) : Int) from y1.1]
      refine And.intro (fun c1 => by omega) (fun c1 => ?_)
      refine qX7_rankOfJoins_76 hX (c_X3_degreeOf (xl X) (xD X) (xsh X) e1 F2 I2 J2 y1' (j := f) (by omega)) e1.1 (fun v F3 I3 J3 hv' => ?_)
      obtain ⟨rfl, rfl, rfl, rfl⟩ := hv'
      refine And.intro (fun c2 => ?_) (fun c2 => ?_)
      · have hne : ¬ d (s + 1) f = t + wi := by omega
        refine ih (f + 1) (by omega) R kept τ I3 l8 l9 hI hmb hk hsp1 (fun g hg => ?_)
        by_cases e : g = f
        · rw [e]
          unfold jrw
          rw [if_neg hne]
          exact ⟨fun _ => false, (vc_0 _ _).symm⟩
        · exact hsp2 g (by omega)
      · have heq : d (s + 1) f = t + wi := by omega
        refine Exists.intro _ ⟨hs.1, ?_⟩
        refine Exists.intro _ ⟨_, _, _, s, hflo, rfl, by omega, ?_⟩
        rw [hfs s (by omega)]
        refine qX7_rankOfJoins_79 hX (c_X3_goals (xl X) (xD X) (xsh X) e1 F3 I3 J3) e1.1 (fun v F4 I4 J4 hv' => ?_)
        obtain ⟨rfl, rfl, rfl, rfl⟩ := hv'
        refine qX7_rankOfJoins_83 hX (c_X7_joinsOf (xl X) (xD X) (xsh X) f1 e2 hb F4 I4 J4 hT1 h30 m1' y2 (f := f) (t := t) (top := t + wi) (by omega) ⟨by omega, by omega⟩ (by rw [show ((t + wi : Nat) : Int) - (t : Int) = ((wi : Nat) : Int) by omega]; exact hpos) (by omega)) (fun v F5 I5 J5 hv' => ?_)
        obtain ⟨rfl, rfl, rfl, rfl⟩ := hv'
        have hrow : jrw S G d J5 s t (t + wi) f = tbs (tjr S (d s) J5 (35 + 4 * (s + 1)) 5 (G (s + 1)) f t (t + wi) (G s)) := if_pos heq
        have hx12 : tjr S (d s) J5 (35 + 4 * (s + 1)) 5 (G (s + 1)) f t (t + wi) (G s) < 4096 := Nat.lt_of_lt_of_le (tjr_lt _ _ _ _ _ _ _ _ _ _) (show 2 ^ flG (d s) t (G s) ≤ 2 ^ 12 from Nat.pow_le_pow_right (by decide) hsn)
        generalize hxx : tjr S (d s) J5 (35 + 4 * (s + 1)) 5 (G (s + 1)) f t (t + wi) (G s) = x at hrow hx12 ⊢
        obtain ⟨b1, c, b2⟩ := mb_ok hmb x R (Nat.le_refl R)
        have inner : ∀ m k, k + m = R → HW X 84 [some (.inr (.inr (some 15))), some (.inl (i : Int)), some (.inl (s : Int)), some (.inl (t : Int)), some (.inl ((t + wi : Nat) : Int)), some (.inl (R : Int)), some (.inr (.inr (some (32 + 4 * (s + 1))))), some (.inl (f : Int)), some (.inl (mb kept k x : Int)), some (.inl (k : Int))] [] F5 I5 J5 := by
          intro m2
          induction m2 with
          | zero =>
            intro k hk2
            have hkR : k = R := by omega
            have hmlt := mb_lt (kept := kept) (m := 12) (x := x) hx12 R (fun j hj => (hk j hj).2)
            have hin : Spn (G (s + 1)) (jrw S G d J5 s t (t + wi)) (tbs (mb kept R x)) := by
              rw [b2, ← hrow]
              exact spn_add (spn_mem hfG _) (spn_trans ⟨c, rfl⟩ (fun j hj => hsp1 j hj))
            subst hkR
            refine zgo (fun pc => Nat.beq pc 38) 200 hX hR rfl ?_
            refine And.intro (fun c3 => ?_) (fun c3 => by omega)
            refine And.intro (fun c4 => ?_) (fun c4 => ?_)
            · have hz : mb kept k x = 0 := by omega
              refine ih (f + 1) (by omega) k kept τ I5 _ _ hI hmb hk hsp1 (fun g hg => ?_)
              by_cases e : g = f
              · rw [e, hrow]
                refine ⟨c, ?_⟩
                have hz2 : tbs (mb kept k x) = v0 := by
                  rw [hz]
                  funext q
                  exact Nat.zero_testBit q
                rw [hz2] at b2
                have : vx v0 (vc k c (fun i => tbs (kept i))) = vx (vx (tbs x) (vc k c (fun i => tbs (kept i)))) (vc k c (fun i => tbs (kept i))) := by rw [← b2]
                rw [v0_vx, vx_assoc, vx_self, vx_0] at this
                exact this.symm
              · exact hsp2 g (by omega)
            · have hx0 : 0 < mb kept k x := by omega
              obtain ⟨t', hadd⟩ := hmb.add hx0 b1
              have hbnd : ∀ j, j < k + 1 → (if j = k then mb kept k x else kept j) < 4096 := fun j hj => by
                by_cases e : j = k
                · rw [if_pos e]; exact hmlt
                · rw [if_neg e]; exact (hk j (by omega)).2
              have hk13 : k + 1 ≤ 12 := ind_bits hadd.ind (fun j hj q hq => Nat.testBit_lt_two_pow (Nat.lt_of_lt_of_le (hbnd j hj) (show 2 ^ 12 ≤ 2 ^ q from Nat.pow_le_pow_right (by decide) hq)))
              refine Exists.intro _ ⟨hs.1, ?_⟩
              refine Exists.intro _ ⟨hke, ?_⟩
              refine And.intro (fun c5 => by omega) (fun c5 => ?_)
              refine Exists.intro _ ⟨hs.1, ?_⟩
              refine Exists.intro _ ⟨_, k, hke, rfl, by omega, ?_⟩
              refine ih (f + 1) (by omega) (k + 1) _ _ (zu I5 29 k (mb kept k x : Int)) _ _ (fun a ha => (zu_r ha).trans (hI a ha)) hadd (fun j hj => ⟨?_, hbnd j hj⟩) (fun j hj => ?_) (fun g hg => ?_)
              · by_cases e : j = k
                · rw [e, zu_s, if_pos rfl]
                · rw [zu_n (fun z => e z.2), if_neg e]
                  exact (hk j (by omega)).1
              · by_cases e : j = k
                · rw [if_pos e]; exact hin
                · rw [if_neg e]; exact hsp1 j (by omega)
              · have ext : ∀ j, j < k → (fun j => tbs (if j = k then mb kept k x else kept j)) j = tbs (kept j) := fun j hj => by
                  dsimp only
                  rw [if_neg (by omega)]
                by_cases e : g = f
                · rw [e, hrow]
                  have hxe : tbs x = vx (tbs (mb kept k x)) (vc k c (fun i => tbs (kept i))) := by rw [b2, vx_assoc, vx_self, vx_0]
                  rw [hxe]
                  refine spn_add ?_ (spn_ext ⟨c, rfl⟩ (by omega) ext)
                  rw [← show (fun j => tbs (if j = k then mb kept k x else kept j)) k = tbs (mb kept k x) from congrArg tbs (if_pos rfl)]
                  exact spn_mem (n := k + 1) (by omega) (fun j => tbs (if j = k then mb kept k x else kept j))
                · exact spn_ext (hsp2 g (by omega)) (by omega) ext
          | succ m2 ih2 =>
            intro k hk2
            have h4 := ih2 (k + 1) (by omega)
            obtain ⟨u1, u2⟩ := hk k (by omega)
            have hmlt := mb_lt (kept := kept) (m := 12) (x := x) hx12 k (fun j hj => (hk j (by omega)).2)
            have hxl : mb kept k x ^^^ kept k < 4096 := Nat.xor_lt_two_pow (n := 12) hmlt u2
            have hxe : zxor (mb kept k x : Int) (I5 29 k) = ((mb kept k x ^^^ kept k : Nat) : Int) := by
              rw [u1]
              exact zxor_eq (by omega) (by omega)
            have emin : ((mb kept (k + 1) x : Nat) : Int) = if ((mb kept k x : Nat) : Int) ≤ ((mb kept k x ^^^ kept k : Nat) : Int) then ((mb kept k x : Nat) : Int) else ((mb kept k x ^^^ kept k : Nat) : Int) := by
              rw [show mb kept (k + 1) x = min (mb kept k x) (mb kept k x ^^^ kept k) from rfl]
              split <;> omega
            rw [emin] at h4
            refine zgo (fun pc => Nat.beq pc 84) 200 hX hR rfl ?_
            refine And.intro (fun c3 => by omega) (fun c3 => ?_)
            refine Exists.intro _ ⟨hs.1, ?_⟩
            refine Exists.intro _ ⟨_, k, hke, rfl, by omega, ?_⟩
            have cM := c_J9_min (xl X) (xD X) (xsh X) F5 I5 J5 (a := (mb kept k x : Int)) (b := ((mb kept k x ^^^ kept k : Nat) : Int)) ⟨by omega, by omega⟩ ⟨by omega, by omega⟩
            rw [← hxe] at cM
            rw [← hxe] at h4
            refine qX7_rankOfJoins_87 hX cM (fun v F6 I6 J6 hv' => ?_)
            obtain ⟨rfl, rfl, rfl, rfl⟩ := hv'
            exact h4
        exact inner R 0 (by omega)
  refine zgo (fun pc => Nat.beq pc 38) 200 hX hR rfl ?_
  refine And.intro (fun c1 => by omega) (fun c1 => ?_)
  refine And.intro (fun c2 => ?_) (fun c2 => by omega)
  refine Exists.intro _ ⟨hs.1, ?_⟩
  refine Exists.intro _ ⟨_, _, _, s + 1, hflo, rfl, by omega, ?_⟩
  rw [hfs (s + 1) (by omega)]
  have h0 := loop (G (s + 1)) 0 (by omega) 0 (fun _ => 0) (fun _ => 0) I none none (fun _ _ => rfl) (fun k hk => absurd hk (Nat.not_lt_zero k)) (fun k hk => absurd hk (Nat.not_lt_zero k)) (fun k hk => absurd hk (Nat.not_lt_zero k)) (fun g hg => absurd hg (Nat.not_lt_zero g))
  rw [show ((t + wi : Nat) : Int) = (t : Int) + zshl 1 (i : Int) by rw [hsh1]; rfl] at h0
  exact h0
