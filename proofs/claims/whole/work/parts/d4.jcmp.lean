/-! the towers of both: ranks of joins are equal -/
theorem xs_up {G N : Nat} (h : G ≤ N) {f : Nat → Bool} (h0 : ∀ i, G ≤ i → i < N → f i = false) : xs_ N f = xs_ G f := by
  have := xs_add G (N - G) f
  rw [show G + (N - G) = N by omega] at this
  rw [this, xs_zero' (f := fun j => f (G + j)) (fun j hj => h0 _ (by omega) (by omega)), Bool.xor_false]
def dw (G : Nat → Nat) (d : Nat → Nat → Nat) (gb : Nat → Nat → Nat → Bool) (s t top f g : Nat) : Bool := decide (g < G s) && decide (d s g = t) && gb (s + 1) f (flP aS (d s) top (g + 1) - 1)
theorem dlt_w {G : Nat → Nat} {d : Nat → Nat → Nat} {gb : Nat → Nat → Nat → Bool} {s t wi f : Nat} (hw : wi ≤ 14) (hd : d (s + 1) f = t + wi) (g : Nat) : dlt G d gb (s + 1) f g (sg wi) = dw G d gb s t (t + wi) f g := by
  show tE (d s) (G s) (d (s + 1) f) (gb (s + 1) f) g (sg wi) = _
  rw [hd]
  obtain ⟨s1, -, -, -, s5⟩ := sg_ok hw
  have hbi := bs_iff (u := sg wi) (t := t + wi) (d := d s g) s1
  rw [s5] at hbi
  unfold tE dw
  by_cases h1 : g < G s
  · by_cases h2 : d s g = t
    · obtain ⟨b1, b2⟩ := hbi.mp (by omega)
      rw [decide_eq_true (show g < G s ∧ bs (t + wi) (d s g) ≤ sg wi ∧ sg wi < bs (t + wi) (d s g) + wd (t + wi) (d s g) from ⟨h1, b1, b2⟩), decide_eq_true h1, decide_eq_true h2]
      have e1 : bs (t + wi) (d s g) = aS wi := by
        unfold bs
        rw [show ((t + wi : Nat) : Int) - (d s g : Int) = (wi : Int) by omega]
        exact bst_aS (by omega)
      have e2 : (bsz aS (((t + wi : Nat) : Int) - (d s g : Int))).toNat = aS (wi + 1) - aS wi := by
        rw [show ((t + wi : Nat) : Int) - (d s g : Int) = (wi : Int) by omega]
        unfold bsz
        rw [if_pos (by omega), Int.toNat_natCast]
        omega
      have e3 : flP aS (d s) ((t + wi : Nat) : Int) (g + 1) = flP aS (d s) ((t + wi : Nat) : Int) g + (bsz aS (((t + wi : Nat) : Int) - (d s g : Int))).toNat := rfl
      have e4 : sg wi = aS (wi + 1) - 1 := rfl
      unfold wd at b2
      rw [e1] at b1 b2
      rw [e2] at b2 e3
      rw [e1, e3, show flP aS (d s) ((t + wi : Nat) : Int) g + (sg wi - aS wi) = flP aS (d s) ((t + wi : Nat) : Int) g + (aS (wi + 1) - aS wi) - 1 by omega]
      rfl
    · rw [decide_eq_false (fun z => h2 (by have := hbi.mpr z.2; omega)), decide_eq_false h2, Bool.and_false]
      rfl
  · rw [decide_eq_false (fun z => h1 z.1), decide_eq_false h1]
    rfl
theorem tjg_bit (b : Nat → Bool) (dd : Nat → Nat) (top t q : Nat) : ∀ j, (tjg b dd top t j).testBit q = xs_ j (fun g => decide (dd g = t) && decide (flG dd t g = q) && b (flP aS dd top (g + 1) - 1)) := by
  intro j
  induction j with
  | zero => exact Nat.zero_testBit q
  | succ j ih =>
    show (if dd j = t then tjg b dd top t j + (if b (flP aS dd top (j + 1) - 1) then 2 ^ flG dd t j else 0) else tjg b dd top t j).testBit q = (xs_ j _ ^^ _)
    rw [← ih]
    show _ = ((tjg b dd top t j).testBit q ^^ (decide (dd j = t) && decide (flG dd t j = q) && b (flP aS dd top (j + 1) - 1)))
    by_cases h : dd j = t
    · rw [if_pos h, decide_eq_true h, Bool.true_and]
      cases hb : b (flP aS dd top (j + 1) - 1)
      · rw [if_neg (by decide), Bool.and_false, Bool.xor_false, Nat.add_zero]
      · rw [if_pos rfl, Bool.and_true]
        have hlt := tjg_lt b dd top t j
        have h2 := Nat.two_pow_add_eq_or_of_lt hlt 1
        rw [Nat.mul_one] at h2
        rw [Nat.add_comm, h2, Nat.testBit_or, Nat.testBit_two_pow]
        by_cases e : flG dd t j = q
        · rw [decide_eq_true e, tb_small hlt (by omega)]
          rfl
        · rw [decide_eq_false e, Bool.false_or, Bool.xor_false]
    · rw [if_neg h, decide_eq_false h, Bool.false_and, Bool.false_and, Bool.xor_false]
theorem jw_bit {G : Nat → Nat} {d : Nat → Nat → Nat} {gb : Nat → Nat → Nat → Bool} {s t top f : Nat} (hG : G s ≤ 300) (hd : d (s + 1) f = top) (q : Nat) : jw G d gb s t top f q = xs_ 300 (fun g => decide (flG (d s) t g = q) && dw G d gb s t top f g) := by
  unfold jw
  rw [if_pos hd]
  show (tjg (gb (s + 1) f) (d s) top t (G s)).testBit q = _
  rw [tjg_bit, xs_up hG (fun i a b => by unfold dw; rw [decide_eq_false (show ¬ i < G s by omega)]; simp)]
  refine xs_congr (fun g hg => ?_)
  unfold dw
  rw [decide_eq_true hg, Bool.true_and]
  cases decide (d s g = t) <;> cases decide (flG (d s) (t : Int) g = q) <;> rfl
def ckInd : Bool := (List.range 4).all fun i => (List.range 61).all fun u => (List.range 61).all fun v => Nat.beq u 0 || Nat.beq v 0 || !caA u v (sg (2 ^ i))
set_option maxRecDepth 100000 in
theorem ckInd_ok : ckInd = true := by decide +kernel
theorem ind_w {i : Nat} (hi : i < 4) : ∀ u v, u < 61 → v < 61 → u ≠ 0 → v ≠ 0 → caA u v (sg (2 ^ i)) = false := fun u v hu hv h1 h2 => by
  have h := range_all (range_all (range_all ckInd_ok hi) hu) hv
  cases hc : caA u v (sg (2 ^ i))
  · rfl
  · rw [hc] at h
    simp only [Bool.or_eq_true, Bool.not_true] at h
    rcases h with (h | h) | h
    · exact absurd (Nat.eq_of_beq_eq_true h) h1
    · exact absurd (Nat.eq_of_beq_eq_true h) h2
    · cases h
section CMPT
variable {A : Nat → Nat → Nat} {n : Nat} {de : Nat → Nat} {T1 T2 : Nat} {G G' : Nat → Nat} {d d' : Nat → Nat → Nat} {gb gb' : Nat → Nat → Nat → Bool}
theorem flG_inj {dd : Nat → Nat} {t a b : Nat} (ha : dd a = t) (hb : dd b = t) (h : flG dd t a = flG dd t b) : a = b := by
  rcases Nat.lt_trichotomy a b with g | g | g
  · have h1 := flG_more dd (t : Int) a
    rw [if_pos (by omega)] at h1
    have := flG_mono dd (t : Int) (a + 1) b g
    omega
  · exact g
  · have h1 := flG_more dd (t : Int) b
    rw [if_pos (by omega)] at h1
    have := flG_mono dd (t : Int) (b + 1) a g
    omega
theorem jw_le (hA : SpOK A n de) (hR : RuleOn A n) (h : TIc A n de T1 G d gb) (h' : TIc A n de T2 G' d' gb') {s t i : Nat} (hs : s < 5) (hi : i < 4) (h1 : t + 2 ^ i < T1) (h2 : t + 2 ^ i < T2) (ht : t + 2 ^ i ≤ 14) {r r' : Nat}
    (hk : IsRk (G (s + 1)) (jw G d gb s t (t + 2 ^ i)) r) (hk' : IsRk (G' (s + 1)) (jw G' d' gb' s t (t + 2 ^ i)) r') : r ≤ r' := by
  have hpos := Nat.two_pow_pos i
  obtain ⟨a, rfl⟩ := Nat.exists_eq_succ_of_ne_zero (show T1 ≠ 0 by omega)
  obtain ⟨b, rfl⟩ := Nat.exists_eq_succ_of_ne_zero (show T2 ≠ 0 by omega)
  obtain ⟨t1, t2, t3⟩ := h.1.gen
  obtain ⟨u1, u2, u3⟩ := h'.1.gen
  have q1 := h.2.2 s (by omega)
  have q2 := h'.2.2 s (by omega)
  have q3 := h.2.2 (s + 1) (by omega)
  have q4 := h'.2.2 (s + 1) (by omega)
  have hM := sp_mod_all (sound_sp hA hR)
  have hsg := (sg_ok (show 2 ^ i ≤ 14 by omega)).1
  obtain ⟨AA, BB, e1, e2, e3⟩ := joins_eq algA hM (rgen_tr (T' := t + 2 ^ i) t1) (rexa_tr (T' := t + 2 ^ i) t2 (by omega)) (rmin_tr (T' := t + 2 ^ i) t3 (by omega)) (rgen_tr (T' := t + 2 ^ i) u1) (rexa_tr (T' := t + 2 ^ i) u2 (by omega)) (rmin_tr (T' := t + 2 ^ i) u3 (by omega)) hsg (ind_w hi) (s := s) hs
  generalize hwi : t + 2 ^ i = top at *
  let L : (Nat → Bool) → Nat → Bool := fun ρ q => xs_ 300 (fun p' => (decide (p' < G' s) && decide (d' s p' = t) && ρ (flG (d' s) t p')) && xs_ 300 (fun g => decide (flG (d s) t g = q) && BB p' g))
  refine rk_le hk hk' L (fun m c z => ?_) (fun f hf => ?_)
  · funext q
    show xs_ 300 (fun p' => (decide (p' < G' s) && decide (d' s p' = t) && xs_ m (fun i => c i && z i (flG (d' s) t p'))) && xs_ 300 (fun g => decide (flG (d s) t g = q) && BB p' g)) = xs_ m (fun i => c i && xs_ 300 (fun p' => (decide (p' < G' s) && decide (d' s p' = t) && z i (flG (d' s) t p')) && xs_ 300 (fun g => decide (flG (d s) t g = q) && BB p' g)))
    rw [show (fun i => c i && xs_ 300 (fun p' => (decide (p' < G' s) && decide (d' s p' = t) && z i (flG (d' s) t p')) && xs_ 300 (fun g => decide (flG (d s) t g = q) && BB p' g))) = (fun i => xs_ 300 (fun p' => c i && ((decide (p' < G' s) && decide (d' s p' = t) && z i (flG (d' s) t p')) && xs_ 300 (fun g => decide (flG (d s) t g = q) && BB p' g)))) from funext fun i => (xs_and 300 (c i) _).symm, xs_comm]
    refine xs_congr (fun p' _ => ?_)
    rw [← xs_and m, ← xs_and' m]
    refine xs_congr (fun i _ => ?_)
    cases decide (p' < G' s) <;> cases decide (d' s p' = t) <;> cases c i <;> cases z i (flG (d' s) t p') <;> cases xs_ 300 (fun g => decide (flG (d s) t g = q) && BB p' g) <;> rfl
  · by_cases hd : d (s + 1) f = top
    · have hgv : gvR (gvG G) d top (s + 1) f = true := by
        unfold gvR gvG
        rw [decide_eq_true hf, decide_eq_true (show d (s + 1) f ≤ top by omega)]
        rfl
      have hz : ∀ p, G' (s + 1) ≤ p → AA f p = false := fun p hp => by
        cases hc : AA f p
        · rfl
        · have := (e2 f hgv p hc).1
          unfold gvR gvG at this
          rw [decide_eq_false (by omega)] at this
          cases this
      refine ⟨AA f, ?_⟩
      funext q
      rw [jw_bit (by omega) hd]
      show _ = xs_ (G' (s + 1)) (fun p => AA f p && L (jw G' d' gb' s t top p) q)
      rw [← xs_up (show G' (s + 1) ≤ 300 by omega) (fun p a _ => by rw [hz p a, Bool.false_and])]
      have hδ : ∀ g, dw G d gb s t top f g = xs_ 300 (fun p => AA f p && xs_ 300 (fun p' => dlt G' d' gb' (s + 1) p p' (sg (2 ^ i)) && BB p' g)) := fun g => by
        rw [← e1 f hgv g, ← hwi]
        exact (dlt_w (by omega) (by omega) g).symm
      rw [show (fun g => decide (flG (d s) t g = q) && dw G d gb s t top f g) = (fun g => xs_ 300 (fun p => decide (flG (d s) t g = q) && (AA f p && xs_ 300 (fun p' => dlt G' d' gb' (s + 1) p p' (sg (2 ^ i)) && BB p' g)))) from funext fun g => by rw [hδ, xs_and], xs_comm]
      refine xs_congr (fun p _ => ?_)
      cases hc : AA f p
      · rw [Bool.false_and]
        exact xs_zero' fun g _ => by rw [Bool.false_and, Bool.and_false]
      · obtain ⟨v1, v2⟩ := e2 f hgv p hc
        have hd' : d' (s + 1) p = top := by omega
        rw [Bool.true_and]
        show _ = xs_ 300 (fun p' => (decide (p' < G' s) && decide (d' s p' = t) && jw G' d' gb' s t top p (flG (d' s) t p')) && xs_ 300 (fun g => decide (flG (d s) t g = q) && BB p' g))
        rw [show (fun g => decide (flG (d s) t g = q) && (true && xs_ 300 (fun p' => dlt G' d' gb' (s + 1) p p' (sg (2 ^ i)) && BB p' g))) = (fun g => xs_ 300 (fun p' => decide (flG (d s) t g = q) && (dlt G' d' gb' (s + 1) p p' (sg (2 ^ i)) && BB p' g))) from funext fun g => by rw [Bool.true_and, xs_and], xs_comm]
        refine xs_congr (fun p' hp' => ?_)
        have ew : dlt G' d' gb' (s + 1) p p' (sg (2 ^ i)) = dw G' d' gb' s t top p p' := by
          rw [← hwi]
          exact dlt_w (by omega) (by omega) p'
        have ej : (decide (p' < G' s) && decide (d' s p' = t) && jw G' d' gb' s t top p (flG (d' s) t p')) = dw G' d' gb' s t top p p' := by
          by_cases x1 : p' < G' s
          · by_cases x2 : d' s p' = t
            · rw [decide_eq_true x1, decide_eq_true x2, jw_bit (by omega) hd', xs_one hp' _ (fun k hk hne => by
                cases hdk : dw G' d' gb' s t top p k
                · exact Bool.and_false _
                · have hk2 : d' s k = t := by
                    unfold dw at hdk
                    simp only [Bool.and_eq_true, decide_eq_true_eq] at hdk
                    exact hdk.1.2
                  rw [decide_eq_false (fun z => hne (flG_inj hk2 x2 z)), Bool.false_and])]
              rw [decide_eq_true rfl]
              rfl
            · unfold dw
              rw [decide_eq_false x2, Bool.and_false, Bool.false_and, Bool.false_and]
          · unfold dw
            rw [decide_eq_false x1, Bool.false_and, Bool.false_and, Bool.false_and]
        rw [ej, ew, ← xs_and]
        refine xs_congr (fun g _ => ?_)
        cases decide (flG (d s) (t : Int) g = q) <;> cases dw G' d' gb' s t top p p' <;> cases BB p' g <;> rfl
    · rw [show jw G d gb s t top f = v0 from if_neg hd]
      exact spn_v0 _ _
/-- the ranks of both are equal -/
theorem jw_eq (hA : SpOK A n de) (hR : RuleOn A n) (h : TIc A n de T1 G d gb) (h' : TIc A n de T2 G' d' gb') {s t i : Nat} (hs : s < 5) (hi : i < 4) (h1 : t + 2 ^ i < T1) (h2 : t + 2 ^ i < T2) (ht : t + 2 ^ i ≤ 14) {r r' : Nat}
    (hk : IsRk (G (s + 1)) (jw G d gb s t (t + 2 ^ i)) r) (hk' : IsRk (G' (s + 1)) (jw G' d' gb' s t (t + 2 ^ i)) r') : r = r' :=
  Nat.le_antisymm (jw_le hA hR h h' hs hi h1 h2 ht hk hk') (jw_le hA hR h' h hs hi h2 h1 ht hk' hk)
theorem jrw_jw {F I : zFi} {J : zJi} (hM : TM F I J G d gb) {s t top : Nat} (hs : s < 5) {f : Nat} (hf : f < G (s + 1)) : jrw aS G d J s t top f = jw G d gb s t top f := by
  have y3 := (hM (s + 1) (by omega)).2.2 f hf
  have key : ∀ j, tjr aS (d s) J (35 + 4 * (s + 1)) 5 (G (s + 1)) f t top j = tjg (gb (s + 1) f) (d s) top t j := by
    intro j
    induction j with
    | zero => rfl
    | succ j ih =>
      show (if d s j = t then tjr aS (d s) J (35 + 4 * (s + 1)) 5 (G (s + 1)) f t top j + (if rb J (35 + 4 * (s + 1)) 5 (G (s + 1)) (f : Int) (flP aS (d s) top (j + 1) - 1) then 2 ^ flG (d s) t j else 0) else tjr aS (d s) J (35 + 4 * (s + 1)) 5 (G (s + 1)) f t top j) = (if d s j = t then tjg (gb (s + 1) f) (d s) top t j + (if gb (s + 1) f (flP aS (d s) top (j + 1) - 1) then 2 ^ flG (d s) t j else 0) else tjg (gb (s + 1) f) (d s) top t j)
      rw [ih, rb_rq hf, y3]
  unfold jrw jw
  rw [key]
end CMPT
