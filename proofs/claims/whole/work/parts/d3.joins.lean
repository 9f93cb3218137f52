/-! the reference: joins -/
def tjg (b : Nat → Bool) (dd : Nat → Nat) (top t : Nat) : Nat → Nat
  | 0 => 0
  | j + 1 => if dd j = t then tjg b dd top t j + (if b (flP aS dd top (j + 1) - 1) then 2 ^ flG dd t j else 0) else tjg b dd top t j
theorem tjg_lt (b : Nat → Bool) (dd : Nat → Nat) (top t : Nat) : ∀ j, tjg b dd top t j < 2 ^ flG dd t j := by
  intro j
  induction j with
  | zero => exact Nat.zero_lt_one
  | succ j ih =>
    rw [flG_more]
    show (if dd j = t then tjg b dd top t j + (if b (flP aS dd top (j + 1) - 1) then 2 ^ flG dd t j else 0) else tjg b dd top t j) < _
    by_cases h : dd j = t
    · rw [if_pos h, if_pos (show (dd j : Int) = (t : Int) by omega), Nat.pow_succ]
      split <;> omega
    · rw [if_neg h, if_neg (show ¬ (dd j : Int) = (t : Int) by omega)]
      exact ih
/-- the rows whose rank is asked for -/
def jw (G : Nat → Nat) (d : Nat → Nat → Nat) (gb : Nat → Nat → Nat → Bool) (s t top f : Nat) : Nat → Bool := if d (s + 1) f = top then tbs (tjg (gb (s + 1) f) (d s) top t (G s)) else v0
theorem rk_same {ι : Type} {m m' r : Nat} {w w' : Nat → ι → Bool} (h : IsRk m w r) (h1 : ∀ j, j < m' → Spn m w (w' j)) (h2 : ∀ j, j < m → Spn m' w' (w j)) : IsRk m' w' r := by
  obtain ⟨k, k1, k2, k3⟩ := h
  exact ⟨k, k1, fun i hi => spn_trans (k2 i hi) h2, fun j hj => spn_trans (h1 j hj) k3⟩
section RS
variable {Fo Io : zFi} {Jo : zJi} {F I : zFi} {J : zJi} {ℓ : Nat} {c : Nat → Nat} {n : Nat} {A : Nat → Nat → Nat} {de : Nat → Nat} {K : Nat → Int}
theorem rs_80 (h : RSt Fo Io Jo F I J ℓ c n A de K) {I' : zFi} (e : ∀ a, a ≠ 80 → I' a = I a) : RSt Fo Io Jo F I' J ℓ c n A de K := by
  obtain ⟨h1, h2, ⟨h3, h3b, h3c⟩, h4, h5, h6, h7, h8⟩ := h
  refine ⟨⟨RTb_of h1.1 (fun a g1 g2 => e a (by omega)), Fr_of h1.2 (fun _ _ => rfl) (fun a ha => e a (by omega)) (fun _ _ => rfl)⟩, RWd_of h2 rfl (e 68 (by decide)), ⟨RSp_of h3 rfl (e 69 (by decide)) (e 70 (by decide)), h3b, h3c⟩, h4, ?_, fun j hj => by rw [e 74 (by decide)]; exact h6 j hj, h7, h8⟩
  rcases h5 with h5 | ⟨G, d, gb, h5⟩
  · exact Or.inl h5
  · exact Or.inr ⟨G, d, gb, LD_of h5 rfl (e 71 (by decide)) (e 72 (by decide))⟩
theorem c_X9_joins (l : Launch) (D : va_G) (sh : Nat → Option zS) (hs : zWM sh) (h : RSt Fo Io Jo F I J ℓ c n A de K) {i s t : Int} (h1 : zi32 i) (h2 : zi32 s) (h3 : zi32 t) :
    Cn l D yX9_joins wsX9_joins mX9_joins.2.2.2.2 sh [.inr (.inr (some 60)), .inl i, .inl s, .inl t] F I J (fun v F' I' J' => RSt Fo Io Jo F' I' J' ℓ c n A de K ∧ ((¬ jnOK i s t ∧ v = some (.inl (-1))) ∨ (jnOK i s t ∧ sFault A n ≠ none ∧ v = some (.inl (-2))) ∨ (jnOK i s t ∧ sFault A n = none ∧ ∃ G d gb, TIc A n de 15 G d gb ∧ ∃ r : Nat, v = some (.inl (r : Int)) ∧ IsRk (G (s.toNat + 1)) (jw G d gb s.toNat t.toNat (t.toNat + 2 ^ i.toNat)) r))) := by
  obtain ⟨cA, h80⟩ := hs.a80
  obtain ⟨cB, h71⟩ := hs.a71
  obtain ⟨cC, h72⟩ := hs.a72
  obtain ⟨cD, h73⟩ := hs.a73
  have g1 := h1
  have g2 := h2
  have g3 := h3
  unfold zi32 at g1 g2 g3
  refine zmet (M := mX9_joins) rfl rfl rfl kX9_joins (Nat.le_of_ble_eq_true rfl) (fun X hX hR hl hD hsh => ?_)
  subst hl hD hsh
  have bad : ¬ jnOK i s t → HW X 32 [some (.inr (.inr (some 60))), some (.inl i), some (.inl s), some (.inl t), none, none, none, none, none, none, none, none] [] F I J := fun hn => by
    refine zgo (fun _ => false) 200 hX hR rfl ?_
    exact And.intro h (Or.inl ⟨hn, rfl⟩)
  have go : jnOK i s t → HW X 34 [some (.inr (.inr (some 60))), some (.inl i), some (.inl s), some (.inl t), none, none, none, none, none, none, none, none] [] F I J := fun hok => by
    obtain ⟨k1, k2, k3, k4, k5, k6⟩ := id hok
    have hpos := Nat.two_pow_pos i.toNat
    have hle8 : 2 ^ i.toNat ≤ 8 := show 2 ^ i.toNat ≤ 2 ^ 3 from Nat.pow_le_pow_right (by decide) (by omega)
    have hsz := bsz_pow (i := i.toNat) (by omega)
    have hsh1 : zshl 1 i = ((2 ^ i.toNat : Nat) : Int) := by
      have := zshl1 (n := i.toNat) (by omega)
      rw [show ((i.toNat : Nat) : Int) = i by omega] at this
      exact this
    refine zgo (fun pc => Nat.beq pc 69) 200 hX hR rfl ?_
    refine qX9_joins_219 hX (c_X9_isSound (xl X) (xD X) (xsh X) hs F I J h.2.2.1.1 h.2.2.1.2.1) hs.o (fun v F2 I2 J2 hv => ?_)
    obtain ⟨rfl, rfl, rfl, rfl⟩ := hv
    have h' := rs_fault h (sFault A n)
    by_cases hz : sFault A n = none
    · rw [if_pos hz]
      refine And.intro (fun c3 => ?_) (fun c3 => absurd c3 (by decide))
      obtain ⟨post, cL, hp⟩ := rs_lay (xl X) (xD X) (xsh X) hs h' hz
      refine qX9_joins_213 hX cL hs.o (fun v F3 I3 J3 hv => ?_)
      obtain ⟨rfl, hly⟩ := hp v F3 I3 J3 hv
      obtain ⟨hr, ⟨G, d, gb, hld⟩, -⟩ := id hly
      have hsp := sound_sp hr.2.2.1.2.2 (rule_of hz)
      generalize hwi : (2 ^ i.toNat : Nat) = wi at hpos hle8 hsz hsh1 k6 ⊢
      obtain ⟨s', rfl⟩ := Int.eq_ofNat_of_zero_le k3
      obtain ⟨t', rfl⟩ := Int.eq_ofNat_of_zero_le k5
      have h12 := bnd_one hsp hr.2.2.1.2.2.2.1 (s := s') (T := 14) (t := t') (by omega) (by omega) (hld.2.1.1.less (show s' + 1 ≤ 6 by omega)) (by omega)
      have hpl := bnd_places hsp hr.2.2.1.2.2.2.1 (s := s') (T := 14) (t := t' + wi) (by omega) (by omega) (hld.2.1.1.less (show s' + 1 ≤ 6 by omega)) (by omega)
      obtain ⟨a1, a2, a3, a4⟩ := hld.2.2.1 s' (by omega)
      obtain ⟨b1, b2, b3, b4⟩ := hld.2.2.1 (s' + 1) (by omega)
      have hJ73 := hld.2.2.2
      have cM := c_X9_manyOf (xl X) (xD X) (xsh X) hs F3 I3 J3 hr.1.1.1 (x := wi) (by omega)
      rw [← hsh1] at cM
      refine qX9_joins_87 hX cM hs.o (fun v F4 I4 J4 hv => ?_)
      obtain ⟨rfl, rfl, rfl, rfl⟩ := hv
      have hbz30 := aS_30 (wi : Int)
      have e1 : zshl 1 i = (wi : Int) := hsh1
      have loopF : ∀ q f : Nat, f + q = G (s' + 1) → ∀ (m : Nat) (x : Nat → Nat) (I2 : zFi) l8 l9 l10 l11, m ≤ f → (∀ a, a ≠ 80 → I2 a = I4 a) → (∀ j, j < m → I2 80 j = (x j : Int) ∧ x j < 4096) →
          (∀ j, j < m → ∃ f', f' < f ∧ d (s' + 1) f' = t' + wi ∧ x j = tjg (gb (s' + 1) f') (d s') (t' + wi) t' (G s')) → (∀ f', f' < f → d (s' + 1) f' = t' + wi → ∃ j, j < m ∧ x j = tjg (gb (s' + 1) f') (d s') (t' + wi) t' (G s')) →
          HW X 69 [some (.inr (.inr (some 60))), some (.inl i), some (.inl (s' : Int)), some (.inl (t' : Int)), some (.inl (zshl 1 i)), some (.inl (bsz aS (zshl 1 i) - 1)), some (.inl (m : Int)), some (.inl (f : Int)), l8, l9, l10, l11] [] F4 I2 J4 := by
        intro q
        induction q with
        | zero =>
          intro f hf m x I2 l8 l9 l10 l11 hm hI hx hx1 hx2
          have cR := c_X9_rankOf (xl X) (xD X) (xsh X) hs F4 I2 J4 (n := m) (by omega) (x := x) hx
          refine zgo (fun pc => Nat.beq pc 69) 200 hX hR rfl ?_
          refine Exists.intro _ ⟨hs.o, ?_⟩
          refine Exists.intro _ ⟨_, s' + 1, h71, rfl, by omega, ?_⟩
          rw [show I2 71 (s' + 1) = (G (s' + 1) : Int) by rw [hI 71 (by decide)]; exact b1]
          refine And.intro (fun c1 => ?_) (fun c1 => by omega)
          refine Exists.intro _ ⟨hs.o, ?_⟩
          refine qX9_joins_226 hX cR hs.o (fun v F5 I5 J5 hv => ?_)
          obtain ⟨rfl, rfl, hI5, r, rfl, hrk⟩ := hv
          refine And.intro (rs_80 (rs_80 hr hI) hI5) (Or.inr (Or.inr ⟨hok, hz, G, d, gb, hld.2.1, r, rfl, ?_⟩))
          rw [Int.toNat_natCast, Int.toNat_natCast, hwi]
          refine rk_same hrk (fun f' hf' => ?_) (fun j hj => ?_)
          · unfold jw
            split
            · rename_i hd
              obtain ⟨j, j1, j2⟩ := hx2 f' (by omega) hd
              rw [← j2]
              exact spn_mem j1 (fun i => tbs (x i))
            · exact spn_v0 _ _
          · obtain ⟨f', f1, f2, f3⟩ := hx1 j hj
            have := spn_mem (show f' < G (s' + 1) by omega) (jw G d gb s' t' (t' + wi))
            rw [show jw G d gb s' t' (t' + wi) f' = tbs (x j) by unfold jw; rw [if_pos f2, f3]] at this
            exact this
        | succ q ihF =>
          intro f hf m x I2 l8 l9 l10 l11 hm hI hx hx1 hx2
          obtain ⟨d1, d2⟩ := b3 f (by omega)
          have d1' : I2 72 (100 * (s' + 1) + f) = (d (s' + 1) f : Int) := by rw [hI 72 (by decide)]; exact d1
          by_cases hd : d (s' + 1) f = t' + wi
          · have loopG : ∀ w g : Nat, g + w = G s' → ∀ (I5 : zFi) l11, (∀ a, a ≠ 80 → I5 a = I4 a) → (∀ j, j < m → I5 80 j = (x j : Int)) → I5 80 m = (tjg (gb (s' + 1) f) (d s') (t' + wi) t' g : Int) →
                HW X 121 [some (.inr (.inr (some 60))), some (.inl i), some (.inl (s' : Int)), some (.inl (t' : Int)), some (.inl (zshl 1 i)), some (.inl (bsz aS (zshl 1 i) - 1)), some (.inl (m : Int)), some (.inl (f : Int)), some (.inl ((100 * (s' + 1) + f : Nat) : Int)), some (.inl (flG (d s') (t' : Int) g : Int)), some (.inl (g : Int)), l11] [] F4 I5 J4 := by
              intro w
              induction w with
              | zero =>
                intro g hg I5 l11 hI5 hx5 hm5
                have hg' : g = G s' := by omega
                subst hg'
                have hlt := tjg_lt (gb (s' + 1) f) (d s') (t' + wi) t' (G s')
                have hp12 : 2 ^ flG (d s') (t' : Int) (G s') ≤ 2 ^ 12 := Nat.pow_le_pow_right (by decide) h12
                have hF := ihF (f + 1) (by omega) (m + 1) (fun j => if j = m then tjg (gb (s' + 1) f) (d s') (t' + wi) t' (G s') else x j) I5 (some (.inl ((100 * (s' + 1) + f : Nat) : Int))) (some (.inl (flG (d s') (t' : Int) (G s') : Int))) (some (.inl (G s' : Int))) l11 (by omega) hI5 (fun j hj => by
                  by_cases e : j = m
                  · rw [if_pos e, e]
                    exact ⟨hm5, by omega⟩
                  · rw [if_neg e]
                    exact ⟨hx5 j (by omega), (hx j (by omega)).2⟩) (fun j hj => by
                  by_cases e : j = m
                  · rw [if_pos e]
                    exact ⟨f, by omega, hd, rfl⟩
                  · rw [if_neg e]
                    obtain ⟨f', f1, f2, f3⟩ := hx1 j (by omega)
                    exact ⟨f', by omega, f2, f3⟩) (fun f' hf' hd' => by
                  by_cases e : f' = f
                  · exact ⟨m, by omega, by rw [if_pos rfl, e]⟩
                  · obtain ⟨j, j1, j2⟩ := hx2 f' (by omega) hd'
                    exact ⟨j, by omega, by rw [if_neg (by omega)]; exact j2⟩)
                refine zgo (fun pc => Nat.beq pc 69 || Nat.beq pc 121) 200 hX hR rfl ?_
                refine Exists.intro _ ⟨hs.o, ?_⟩
                refine Exists.intro _ ⟨_, s', h71, rfl, by omega, ?_⟩
                rw [show I5 71 s' = (G s' : Int) by rw [hI5 71 (by decide)]; exact a1]
                refine And.intro (fun c1 => ?_) (fun c1 => by omega)
                exact hF
              | succ w ihG =>
                intro g hg I5 l11 hI5 hx5 hm5
                obtain ⟨y1, y2⟩ := a3 g (by omega)
                have y1' : I5 72 (100 * s' + g) = (d s' g : Int) := by rw [hI5 72 (by decide)]; exact y1
                have hgm := flG_mono (d s') (t' : Int) (g + 1) (G s') (by omega)
                have hmore := flG_more (d s') (t' : Int) g
                have etj : tjg (gb (s' + 1) f) (d s') (t' + wi) t' (g + 1) = if d s' g = t' then tjg (gb (s' + 1) f) (d s') (t' + wi) t' g + (if gb (s' + 1) f (flP aS (d s') ((t' + wi : Nat) : Int) (g + 1) - 1) then 2 ^ flG (d s') (t' : Int) g else 0) else tjg (gb (s' + 1) f) (d s') (t' + wi) t' g := rfl
                have hlt := tjg_lt (gb (s' + 1) f) (d s') (t' + wi) t' g
                by_cases e : d s' g = t'
                · have cO := c_X9_offset (xl X) (xD X) (xsh X) hs F4 I5 J4 (fun j hj => by rw [hI5 61 (by decide)]; exact hr.1.1.1 j hj) (s := s') (g := g) (t := t' + wi) (d := d s') (by omega) (by omega) (by omega) (fun a ha => by rw [hI5 72 (by decide)]; exact a3 a (by omega))
                  rw [show ((t' + wi : Nat) : Int) = (t' : Int) + zshl 1 i by rw [e1]; omega] at cO
                  have hPs : flP aS (d s') ((t' + wi : Nat) : Int) (g + 1) = flP aS (d s') ((t' + wi : Nat) : Int) g + (bsz aS (wi : Int)).toNat := by
                    show flP aS (d s') ((t' + wi : Nat) : Int) g + (bsz aS (((t' + wi : Nat) : Int) - (d s' g : Int))).toNat = _
                    rw [show ((t' + wi : Nat) : Int) - (d s' g : Int) = (wi : Int) by omega]
                  have hPm : flP aS (d s') ((t' + wi : Nat) : Int) (g + 1) ≤ flP aS (d s') ((t' + wi : Nat) : Int) (G s') := by
                    have := ns_more (fun a => (bsz aS (((t' + wi : Nat) : Int) - (d s' a : Int))).toNat) (g + 1) (G s' - (g + 1))
                    rw [show g + 1 + (G s' - (g + 1)) = G s' by omega] at this
                    exact this
                  have hbit : flP aS (d s') ((t' + wi : Nat) : Int) (g + 1) - 1 < 320 := by omega
                  generalize hbg : flP aS (d s') ((t' + wi : Nat) : Int) (g + 1) - 1 = bt at etj hbit
                  have hbt : (flP aS (d s') ((t' : Int) + zshl 1 i) g : Int) + (bsz aS (zshl 1 i) - 1) = (bt : Int) := by
                    rw [show (t' : Int) + zshl 1 i = ((t' + wi : Nat) : Int) by rw [e1]; omega, show bsz aS (zshl 1 i) = bsz aS (wi : Int) by rw [e1]]
                    omega
                  have hgb : gb (s' + 1) f bt = (J4 73 (5 * (100 * (s' + 1) + f) + bt / 64)).testBit (bt % 64) := by
                    rw [← b4 f (by omega), rq_in (by omega), show (100 * (s' + 1) + f) * 5 + bt / 64 = 5 * (100 * (s' + 1) + f) + bt / 64 by omega]
                  have hzl := zlbit (x := J4 73 (5 * (100 * (s' + 1) + f) + bt / 64)) (k := bt % 64) (hJ73 _) (by omega)
                  have z6 := zshr6 (p := bt) (by omega)
                  have z63 := zand63 (p := bt) (by omega)
                  rw [if_pos (show (d s' g : Int) = (t' : Int) by omega)] at hmore
                  rw [if_pos e, hgb] at etj
                  rw [← z63] at hzl
                  have hk := fun (xx : Int) (hxx : xx = (tjg (gb (s' + 1) f) (d s') (t' + wi) t' (g + 1) : Int)) => ihG (g + 1) (by omega) (zu I5 80 m xx) (some (.inl (bt : Int))) (fun a ha => by rw [zu_r ha]; exact hI5 a ha) (fun j hj => by rw [zu_n (by omega)]; exact hx5 j hj) (by rw [zu_s]; exact hxx)
                  rw [hmore] at hk
                  rw [← hbt] at z6 hzl hk
                  refine zgo (fun pc => Nat.beq pc 121) 200 hX hR rfl ?_
                  refine Exists.intro _ ⟨hs.o, ?_⟩
                  refine Exists.intro _ ⟨_, s', h71, rfl, by omega, ?_⟩
                  rw [show I5 71 s' = (G s' : Int) by rw [hI5 71 (by decide)]; exact a1]
                  refine And.intro (fun c1 => by omega) (fun c1 => ?_)
                  refine Exists.intro _ ⟨hs.o, ?_⟩
                  refine Exists.intro _ ⟨_, 100 * s' + g, h72, by omega, by omega, ?_⟩
                  rw [y1']
                  refine And.intro (fun c2 => by omega) (fun c2 => ?_)
                  refine qX9_joins_175 hX cO hs.o (fun v F6 I6 J6 hv => ?_)
                  obtain ⟨rfl, rfl, rfl, rfl⟩ := hv
                  refine Exists.intro _ ⟨hs.o, ?_⟩
                  refine Exists.intro _ ⟨_, m, h80, rfl, by omega, ?_⟩
                  refine Exists.intro _ ⟨hs.o, ?_⟩
                  refine Exists.intro _ ⟨_, 5 * (100 * (s' + 1) + f) + bt / 64, h73, by rw [z6]; omega, by omega, ?_⟩
                  rw [hm5]
                  cases hb : (J6 73 (5 * (100 * (s' + 1) + f) + bt / 64)).testBit (bt % 64)
                  · rw [hb, if_neg (by decide)] at hzl etj
                    refine And.intro (fun c3 => ?_) (fun c3 => ?_)
                    · refine Exists.intro _ ⟨_, m, h80, rfl, by omega, ?_⟩
                      refine hk _ ?_
                      rw [etj]
                      exact zor_0 (by
                        have : 2 ^ flG (d s') (t' : Int) g ≤ 2 ^ 12 := Nat.pow_le_pow_right (by decide) (by omega)
                        omega)
                    · exfalso
                      have := (zcmp_eq (a := 0) (b := 1) (by decide) (by decide)).mp (Eq.mp (congrArg (fun y => zcmp y 1 % 4294967296 = 0) hzl) c3)
                      cases this
                  · rw [hb, if_pos rfl] at hzl etj
                    refine And.intro (fun c3 => ?_) (fun c3 => ?_)
                    · exfalso
                      exact c3 (Eq.mpr (congrArg (fun y => zcmp y 1 % 4294967296 = 0) hzl) ((zcmp_eq (a := 1) (b := 1) (by decide) (by decide)).mpr rfl))
                    · refine Exists.intro _ ⟨_, m, h80, rfl, by omega, ?_⟩
                      refine hk _ ?_
                      rw [etj, zshl1 (by omega)]
                      exact zor_bit hlt (by omega)
                · have hk := ihG (g + 1) (by omega) I5 l11 hI5 hx5 (by rw [etj, if_neg e]; exact hm5)
                  rw [hmore, if_neg (show ¬ (d s' g : Int) = (t' : Int) by omega), Nat.add_zero] at hk
                  refine zgo (fun pc => Nat.beq pc 121) 200 hX hR rfl ?_
                  refine Exists.intro _ ⟨hs.o, ?_⟩
                  refine Exists.intro _ ⟨_, s', h71, rfl, by omega, ?_⟩
                  rw [show I5 71 s' = (G s' : Int) by rw [hI5 71 (by decide)]; exact a1]
                  refine And.intro (fun c1 => by omega) (fun c1 => ?_)
                  refine Exists.intro _ ⟨hs.o, ?_⟩
                  refine Exists.intro _ ⟨_, 100 * s' + g, h72, by omega, by omega, ?_⟩
                  rw [y1']
                  refine And.intro (fun c2 => ?_) (fun c2 => by omega)
                  exact hk
            have hG := loopG (G s') 0 (by omega) (zu I2 80 m 0) l11 (fun a ha => by rw [zu_r ha]; exact hI a ha) (fun j hj => by rw [zu_n (by omega)]; exact (hx j hj).1) (by rw [zu_s]; rfl)
            refine zgo (fun pc => Nat.beq pc 69 || Nat.beq pc 121) 200 hX hR rfl ?_
            refine Exists.intro _ ⟨hs.o, ?_⟩
            refine Exists.intro _ ⟨_, s' + 1, h71, rfl, by omega, ?_⟩
            rw [show I2 71 (s' + 1) = (G (s' + 1) : Int) by rw [hI 71 (by decide)]; exact b1]
            refine And.intro (fun c1 => by omega) (fun c1 => ?_)
            refine Exists.intro _ ⟨hs.o, ?_⟩
            refine Exists.intro _ ⟨_, 100 * (s' + 1) + f, h72, by omega, by omega, ?_⟩
            rw [d1']
            refine And.intro (fun c2 => by omega) (fun c2 => ?_)
            refine Exists.intro _ ⟨hs.o, ?_⟩
            refine Exists.intro _ ⟨_, m, h80, rfl, by omega, ?_⟩
            exact hG
          · have hF := ihF (f + 1) (by omega) m x I2 (some (.inl ((100 * (s' + 1) + f : Nat) : Int))) l9 l10 l11 (by omega) hI hx (fun j hj => by
              obtain ⟨f', f1, f2, f3⟩ := hx1 j hj
              exact ⟨f', by omega, f2, f3⟩) (fun f' hf' hd' => by
              by_cases e : f' = f
              · rw [e] at hd'
                exact absurd hd' hd
              · exact hx2 f' (by omega) hd')
            refine zgo (fun pc => Nat.beq pc 69) 200 hX hR rfl ?_
            refine Exists.intro _ ⟨hs.o, ?_⟩
            refine Exists.intro _ ⟨_, s' + 1, h71, rfl, by omega, ?_⟩
            rw [show I2 71 (s' + 1) = (G (s' + 1) : Int) by rw [hI 71 (by decide)]; exact b1]
            refine And.intro (fun c1 => by omega) (fun c1 => ?_)
            refine Exists.intro _ ⟨hs.o, ?_⟩
            refine Exists.intro _ ⟨_, 100 * (s' + 1) + f, h72, by omega, by omega, ?_⟩
            rw [d1']
            refine And.intro (fun c2 => ?_) (fun c2 => by omega)
            exact hF
      exact loopF (G (s' + 1)) 0 (by omega) 0 (fun _ => 0) I4 none none none none (Nat.le_refl _) (fun _ _ => rfl) (fun j hj => by omega) (fun j hj => by omega) (fun f' hf' => by omega)
    · rw [if_neg hz]
      refine And.intro (fun c3 => absurd rfl c3) (fun c3 => ?_)
      exact And.intro h' (Or.inr (Or.inl ⟨hok, hz, rfl⟩))
  refine zgo (fun pc => Nat.beq pc 32 || Nat.beq pc 34) 200 hX hR rfl ?_
  refine qX9_joins_122 hX (c_X9_in (xl X) (xD X) (xsh X) F I J (x := i) (lo := 0) (hi := 3) h1 ⟨by omega, by omega⟩ ⟨by omega, by omega⟩) (fun v F' I' J' hv => ?_)
  obtain ⟨rfl, rfl, rfl, rfl⟩ := hv
  refine And.intro (fun c1 => bad fun z => ?_) (fun c1 => ?_)
  · rw [if_pos ⟨z.1, z.2.1⟩] at c1
    exact absurd c1 (by decide)
  have hi0 : 0 ≤ i ∧ i ≤ 3 := Decidable.byContradiction fun g => by rw [if_neg g] at c1; exact c1 rfl
  refine qX9_joins_122 hX (c_X9_in (xl X) (xD X) (xsh X) F' I' J' (x := s) (lo := 0) (hi := 4) h2 ⟨by omega, by omega⟩ ⟨by omega, by omega⟩) (fun v F2 I2 J2 hv => ?_)
  obtain ⟨rfl, rfl, rfl, rfl⟩ := hv
  refine And.intro (fun c2 => bad fun z => ?_) (fun c2 => ?_)
  · rw [if_pos ⟨z.2.2.1, by have := z.2.2.2.1; omega⟩] at c2
    exact absurd c2 (by decide)
  have hs0 : 0 ≤ s ∧ s ≤ 4 := Decidable.byContradiction fun g => by rw [if_neg g] at c2; exact c2 rfl
  have hpos := Nat.two_pow_pos i.toNat
  have hle8 : 2 ^ i.toNat ≤ 8 := show 2 ^ i.toNat ≤ 2 ^ 3 from Nat.pow_le_pow_right (by decide) (by omega)
  have hsh1 : zshl 1 i = ((2 ^ i.toNat : Nat) : Int) := by
    have := zshl1 (n := i.toNat) (by omega)
    rw [show ((i.toNat : Nat) : Int) = i by omega] at this
    exact this
  refine qX9_joins_122 hX (c_X9_in (xl X) (xD X) (xsh X) F2 I2 J2 (x := t) (lo := 0) (hi := 14 - zshl 1 i) h3 ⟨by omega, by omega⟩ ⟨by omega, by omega⟩) (fun v F3 I3 J3 hv => ?_)
  obtain ⟨rfl, rfl, rfl, rfl⟩ := hv
  rw [hsh1]
  refine And.intro (fun c3 => ?_) (fun c3 => bad fun z => ?_)
  · have ht0 : 0 ≤ t ∧ t ≤ 14 - ((2 ^ i.toNat : Nat) : Int) := Decidable.byContradiction fun g => by rw [if_neg g] at c3; exact c3 rfl
    exact go ⟨hi0.1, hi0.2, hs0.1, by omega, ht0.1, by omega⟩
  · rw [if_pos ⟨z.2.2.2.2.1, by have := z.2.2.2.2.2; omega⟩] at c3
    exact absurd c3 (by decide)
end RS
