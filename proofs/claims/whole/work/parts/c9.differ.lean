/-! the reference: differ -/
theorem ccn_fup {K : Nat → Int} {x : Int} {i : Nat} (hx : 0 < x) (hK : K i ≤ 0) : ∀ m k : Nat, (k ≤ i → i < k + m → ccn (fup K i x) m k = ccn K m k + 1) ∧ ((i < k ∨ k + m ≤ i) → ccn (fup K i x) m k = ccn K m k) := by
  intro m
  induction m with
  | zero => intro k; exact ⟨fun h1 h2 => by omega, fun _ => rfl⟩
  | succ m ih =>
    intro k
    obtain ⟨i1, i2⟩ := ih (k + 1)
    refine ⟨fun h1 h2 => ?_, fun h => ?_⟩
    · show (if 0 < fup K i x k then 1 else 0) + ccn (fup K i x) m (k + 1) = (if 0 < K k then 1 else 0) + ccn K m (k + 1) + 1
      by_cases e : k = i
      · subst e
        rw [i2 (Or.inl (by omega)), show fup K k x k = x from if_pos rfl, if_pos hx, if_neg (by omega)]
        omega
      · rw [i1 (by omega) (by omega), show fup K i x k = K k from if_neg e]
        omega
    · show (if 0 < fup K i x k then 1 else 0) + ccn (fup K i x) m (k + 1) = (if 0 < K k then 1 else 0) + ccn K m (k + 1)
      rw [i2 (by omega), show fup K i x k = K k from if_neg (by omega)]
theorem flG_mem {I : zFi} {J : zJi} {G G2 : Nat → Nat} {d d2 : Nat → Nat → Nat} {gb gb2 : Nat → Nat → Nat → Bool} (h : RTM I J G d gb) (h2 : RTM I J G2 d2 gb2) {s : Nat} (hs : s < 6) (t : Int) : flG (d2 s) t (G2 s) = flG (d s) t (G s) := by
  obtain ⟨a1, a2, a3, a4⟩ := h.1 s hs
  obtain ⟨b1, b2, b3, b4⟩ := h2.1 s hs
  have e : G2 s = G s := by omega
  rw [e]
  refine ns_congr (fun i hi => ?_)
  obtain ⟨x1, -⟩ := a3 i hi
  obtain ⟨y1, -⟩ := b3 i (by omega)
  rw [show d2 s i = d s i by omega]
section RS
variable {Fo Io : zFi} {Jo : zJi} {F I : zFi} {J : zJi} {ℓ : Nat} {c : Nat → Nat} {n : Nat} {A : Nat → Nat → Nat} {de : Nat → Nat} {K : Nat → Int}
theorem LD_of {F' I' : zFi} {G : Nat → Nat} {d : Nat → Nat → Nat} {gb : Nat → Nat → Nat → Bool} (h : LD F I J A n de G d gb) (e1 : F' 60 13 = F 60 13) (e2 : I' 71 = I 71) (e3 : I' 72 = I 72) : LD F' I' J A n de G d gb := by
  obtain ⟨h1, h2, h3, h4⟩ := h
  refine ⟨by rw [e1]; exact h1, h2, fun s hs => ?_, h4⟩
  rw [e2, e3]
  exact h3 s hs
def dfP (Fo Io : zFi) (Jo : zJi) (ℓ : Nat) (c : Nat → Nat) (n : Nat) (A : Nat → Nat → Nat) (de : Nat → Nat) (K : Nat → Int) (r s t x : Int) : zP := fun v F' I' J' => ∃ K', RSt Fo Io Jo F' I' J' ℓ c n A de K' ∧ ((¬ dfOK r s t x ∧ v = some (.inl (-1)) ∧ K' = K) ∨ (dfOK r s t x ∧ sFault A n ≠ none ∧ v = some (.inl (-2)) ∧ K' = K) ∨ (dfOK r s t x ∧ sFault A n = none ∧ ¬ (crk (fun _ => K) 31 r s t = 0 ∧ clo (fun _ => K) 31 r = 0) ∧ v = some (.inl (-2)) ∧ K' = K) ∨
  (dfOK r s t x ∧ sFault A n = none ∧ ∃ G d gb, TIc A n de 15 G d gb ∧ ((mbt K G d r.toNat s.toNat t.toNat x ∧ v = some (.inl 1) ∧ K' = fup K (cix r s t).toNat x) ∨ (¬ mbt K G d r.toNat s.toNat t.toNat x ∧ v = some (.inl (-2)) ∧ K' = K))))
theorem rs_tell (h : RSt Fo Io Jo F I J ℓ c n A de K) {G : Nat → Nat} {d : Nat → Nat → Nat} {gb : Nat → Nat → Nat → Bool} (hld : LD F I J A n de G d gb) {i : Nat} (hi : i < 270) (hK : K i ≤ 0) {x : Int} (hx : 1 ≤ x ∧ x ≤ 99) : RSt Fo Io Jo (zu F 60 17 (F 60 17 + 1)) (zu I 74 (180 + i) x) J ℓ c n A de (fup K i x) := by
  obtain ⟨h1, h2, ⟨h3, h3b, h3c⟩, h4, h5, h6, h7, h8⟩ := h
  refine ⟨⟨RTb_of h1.1 (fun a g1 g2 => zu_r (by omega)), Fr_of h1.2 (fun a ha => zu_r (by omega)) (fun a ha => zu_r (by omega)) (fun _ _ => rfl)⟩, RWd_of h2 (zu_n (by decide)) (zu_r (by decide)), ⟨RSp_of h3 (zu_n (by decide)) (zu_r (by decide)) (zu_r (by decide)), h3b, h3c⟩, h4, Or.inr ⟨G, d, gb, LD_of hld (zu_n (by decide)) (zu_r (by decide)) (zu_r (by decide))⟩, fun j hj => ?_, fun j => ?_, ?_⟩
  · unfold fup
    by_cases e : j = i
    · rw [e, zu_s, if_pos rfl]
    · rw [zu_n (by omega), if_neg e]
      exact h6 j hj
  · unfold fup
    split
    · omega
    · exact h7 j
  · rw [zu_s, (ccn_fup (x := x) (by omega) hK 270 0).1 (by omega) (by omega), h8]
theorem c_X9_differ (l : Launch) (D : va_G) (sh : Nat → Option zS) (hs : zWM sh) (h : RSt Fo Io Jo F I J ℓ c n A de K) {r s t x : Int} (h1 : zi32 r) (h2 : zi32 s) (h3 : zi32 t) (h4 : zi32 x) :
    Cn l D yX9_differ wsX9_differ mX9_differ.2.2.2.2 sh [.inr (.inr (some 60)), .inl r, .inl s, .inl t, .inl x] F I J (dfP Fo Io Jo ℓ c n A de K r s t x) := by
  obtain ⟨cA, h74⟩ := hs.a74
  have q1 := h1
  have q2 := h2
  have q3 := h3
  have q4 := h4
  unfold zi32 at q1 q2 q3 q4
  refine zmet (M := mX9_differ) rfl rfl rfl kX9_differ (Nat.le_of_ble_eq_true rfl) (fun X hX hR hl hD hsh => ?_)
  subst hl hD hsh
  have bad : ¬ dfOK r s t x → HW X 42 [some (.inr (.inr (some 60))), some (.inl r), some (.inl s), some (.inl t), some (.inl x), none] [] F I J := fun hn => by
    refine zgo (fun _ => false) 200 hX hR rfl ?_
    exact ⟨K, h, Or.inl ⟨hn, rfl, rfl⟩⟩
  have no : ∀ pc, (pc = 61 ∨ pc = 90 ∨ pc = 151) → ∀ F' I' J' l5, dfP Fo Io Jo ℓ c n A de K r s t x (some (.inl (-2))) F' I' J' → HW X pc [some (.inr (.inr (some 60))), some (.inl r), some (.inl s), some (.inl t), some (.inl x), l5] [] F' I' J' := fun pc hp F' I' J' l5 hd => by
    rcases hp with rfl | rfl | rfl
    · refine zgo (fun _ => false) 200 hX hR rfl ?_
      exact hd
    · refine zgo (fun _ => false) 200 hX hR rfl ?_
      exact hd
    · refine zgo (fun _ => false) 200 hX hR rfl ?_
      exact hd
  have go : dfOK r s t x → HW X 44 [some (.inr (.inr (some 60))), some (.inl r), some (.inl s), some (.inl t), some (.inl x), none] [] F I J := fun hok => by
    obtain ⟨⟨g1, g2, g3, g4⟩, ⟨g5, g6, g7, g8⟩, g9, g10, g11, g12⟩ := id hok
    have hK := h.2.2.2.2.2.2.1
    have cS := c_X9_isSound (xl X) (xD X) (xsh X) hs F I J h.2.2.1.1 h.2.2.1.2.1
    by_cases hz : sFault A n = none
    · have h' := rs_fault h (sFault A n)
      have cR := c_X9_rankAt (xl X) (xD X) (xsh X) hs h' (r := r.toNat) (s := s) (t := t) (by omega) h2 h3
      rw [show ((r.toNat : Nat) : Int) = r by omega] at cR
      have h6 := h'.2.2.2.2.2.1
      have h8 := h'.2.2.2.2.2.2.2
      revert cR h' h6 h8 cS
      rw [if_pos hz]
      generalize rfF F (sFault A n) = F1
      intro cS h' cR h6 h8
      by_cases hc : crk (fun _ => K) 31 r s t = 0
      · -- longer ones
        have b0 : crk (fun _ => K) 31 r s t = K (90 * (r.toNat - 2) + 15 * s.toNat + t.toNat) := by
          unfold crk
          have := cix_in (r := r.toNat) (s := s) (t := t) (by omega) ⟨g5, g6, g7, g8⟩
          rw [show ((r.toNat : Nat) : Int) = r by omega] at this
          rw [this, if_pos (by omega), Int.toNat_natCast]
        have ecix : (cix r s t).toNat = 90 * (r.toNat - 2) + 15 * s.toNat + t.toNat := by
          have := cix_in (r := r.toNat) (s := s) (t := t) (by omega) ⟨g5, g6, g7, g8⟩
          rw [show ((r.toNat : Nat) : Int) = r by omega] at this
          rw [this, Int.toNat_natCast]
        have eclo : clo (fun _ => K) 31 r = if 0 < ccn K (450 - 90 * (r.toNat + 1)) (90 * (r.toNat + 1) - 180) then 1 else 0 := by
          unfold clo
          by_cases hr4 : r < 4
          · have hci : cix (r + 1) 0 0 = ((90 * (r.toNat + 1 - 2) + 15 * (0 : Int).toNat + (0 : Int).toNat : Nat) : Int) := by
              have := cix_in (r := r.toNat + 1) (s := 0) (t := 0) (by omega) ⟨by decide, by decide, by decide, by decide⟩
              rw [show ((r.toNat + 1 : Nat) : Int) = r + 1 by omega] at this
              exact this
            rw [hci]
            have e1 : (max 0 ((90 * (r.toNat + 1 - 2) + 15 * (0 : Int).toNat + (0 : Int).toNat : Nat) : Int)).toNat = 90 * (r.toNat + 1) - 180 := by
              rw [show (0 : Int).toNat = 0 from rfl]
              omega
            rw [e1, show 270 - (90 * (r.toNat + 1) - 180) = 450 - 90 * (r.toNat + 1) by omega]
            by_cases h0 : 0 < ccn K (450 - 90 * (r.toNat + 1)) (90 * (r.toNat + 1) - 180)
            · rw [if_pos ⟨hr4, h0⟩, if_pos h0]
            · rw [if_neg (fun z => h0 z.2), if_neg h0]
          · rw [if_neg (fun z => hr4 z.1), show 450 - 90 * (r.toNat + 1) = 0 by omega, if_neg (show ¬ (0 : Int) < ccn K 0 (90 * (r.toNat + 1) - 180) from fun z => absurd (show (0 : Int) < 0 from z) (by decide))]
        have end99 : clo (fun _ => K) 31 r = 0 → HW X 99 [some (.inr (.inr (some 60))), some (.inl r), some (.inl s), some (.inl t), some (.inl x), some (.inl ((450 : Nat) : Int))] [] F1 I J := fun hlo => by
          have cB := c_X9_rankBoth (xl X) (xD X) (xsh X) hs h' (r := r.toNat) (s := s) (t := t) (by omega) (by omega) (by omega)
          rw [show ((r.toNat : Nat) : Int) = r by omega] at cB
          have cP := c_X9_pageAt (xl X) (xD X) (xsh X) hs h' hz (r := r.toNat) (s := s.toNat) (t := t) (by omega) (by omega) (by omega)
          rw [show ((r.toNat : Nat) : Int) = r by omega, show ((s.toNat : Nat) : Int) = s by omega] at cP
          refine zgo (fun pc => Nat.beq pc 151) 200 hX hR rfl ?_
          refine qX9_differ_238 hX cB hs.o (fun v F2 I2 J2 hv => ?_)
          obtain ⟨rfl, rfl, rfl, rfl⟩ := hv
          refine qX9_differ_241 hX cP hs.o (fun v F3 I3 J3 hv => ?_)
          obtain ⟨hly, G, d, gb, hld, rfl⟩ := hv
          have b1 := csp_198 hK r s t
          have b2 := csp_198 hK r (s + r) (t + r - 1)
          have b3 := lpg_i (g := (flG (d s.toNat) t (G s.toNat) : Int)) hK s t (r.toNat - 2)
          have b4 := lpg_i (g := (flG (d (s.toNat + r.toNat)) (t + r - 1) (G (s.toNat + r.toNat)) : Int)) hK (s + r) (t + r - 1) (r.toNat - 2)
          have b5 := flG_le (d s.toNat) t (G s.toNat)
          have b6 := flG_le (d (s.toNat + r.toNat)) (t + r - 1) (G (s.toNat + r.toNat))
          have b7 := (hld.2.2.1 s.toNat (by omega)).2.1
          have b8 := (hld.2.2.1 (s.toNat + r.toNat) (by omega)).2.1
          have emb : mbt K G d r.toNat s.toNat t.toNat x ↔ (csp (fun _ => K) 31 r s t + x ≤ lpg (flG (d s.toNat) t (G s.toNat) : Int) K s t (r.toNat - 2) ∧ csp (fun _ => K) 31 r (s + r) (t + r - 1) + x ≤ lpg (flG (d (s.toNat + r.toNat)) (t + r - 1) (G (s.toNat + r.toNat)) : Int) K (s + r) (t + r - 1) (r.toNat - 2)) := by
            unfold mbt
            rw [show ((r.toNat : Nat) : Int) = r by omega, show ((s.toNat : Nat) : Int) = s by omega, show ((t.toNat : Nat) : Int) = t by omega, show ((s.toNat + r.toNat : Nat) : Int) = s + r by omega, show ((t.toNat + r.toNat - 1 : Nat) : Int) = t + r - 1 by omega]
            exact ⟨fun z => z.2.2, fun z => ⟨hc, hlo, z⟩⟩
          have nope : ¬ mbt K G d r.toNat s.toNat t.toNat x → dfP Fo Io Jo ℓ c n A de K r s t x (some (.inl (-2))) F3 I3 J3 := fun hn => ⟨K, hly.1, Or.inr (Or.inr (Or.inr ⟨hok, hz, G, d, gb, hld.2.1, Or.inr ⟨hn, rfl, rfl⟩⟩))⟩
          refine And.intro (fun c1 => no 151 (Or.inr (Or.inr rfl)) F3 I3 J3 _ (nope fun z => ?_)) (fun c1 => ?_)
          · have := (emb.mp z).1
            omega
          have cB2 := c_X9_rankBoth (xl X) (xD X) (xsh X) hs hly.1 (r := r.toNat) (s := s + r) (t := t + r - 1) (by omega) (by omega) (by omega)
          rw [show ((r.toNat : Nat) : Int) = r by omega] at cB2
          have cP2 := c_X9_pageAt (xl X) (xD X) (xsh X) hs hly.1 hz (r := r.toNat) (s := s.toNat + r.toNat) (t := t + r - 1) (by omega) (by omega) (by omega)
          rw [show ((r.toNat : Nat) : Int) = r by omega, show ((s.toNat + r.toNat : Nat) : Int) = s + r by omega] at cP2
          refine qX9_differ_238 hX cB2 hs.o (fun v F4 I4 J4 hv => ?_)
          obtain ⟨rfl, rfl, rfl, rfl⟩ := hv
          refine qX9_differ_241 hX cP2 hs.o (fun v F5 I5 J5 hv => ?_)
          obtain ⟨hly2, G2, d2, gb2, hld2, rfl⟩ := hv
          obtain ⟨rfl, rfl, rfl⟩ := hly2.2.2 hld.1
          rw [flG_mem hld.2.2 hld2.2.2 (show s.toNat + r.toNat < 6 by omega)]
          refine And.intro (fun c2 => ?_) (fun c2 => no 151 (Or.inr (Or.inr rfl)) _ _ _ _ (nope fun z => ?_))
          · have hm : mbt K G d r.toNat s.toNat t.toNat x := emb.mpr ⟨by omega, by omega⟩
            refine Exists.intro _ ⟨hs.o, ?_⟩
            refine Exists.intro _ ⟨_, 180 + (90 * (r.toNat - 2) + 15 * s.toNat + t.toNat), h74, by omega, by omega, ?_⟩
            refine Exists.intro _ ⟨hs.o, ?_⟩
            refine Exists.intro _ ⟨hs.o, ?_⟩
            have ht := rs_tell hly.1 hld (i := 90 * (r.toNat - 2) + 15 * s.toNat + t.toNat) (by omega) (by omega) (x := x) ⟨by omega, by omega⟩
            exact ⟨_, ht, Or.inr (Or.inr (Or.inr ⟨hok, hz, G, d, gb, hld.2.1, Or.inl ⟨hm, rfl, by rw [ecix]⟩⟩))⟩
          · have := (emb.mp z).2
            omega
        have loop : ∀ m k : Nat, k + m = 450 → 270 ≤ k → (0 < ccn K m (k - 180) → clo (fun _ => K) 31 r ≠ 0) → (ccn K m (k - 180) = 0 → clo (fun _ => K) 31 r = 0) → HW X 72 [some (.inr (.inr (some 60))), some (.inl r), some (.inl s), some (.inl t), some (.inl x), some (.inl (k : Int))] [] F1 I J := by
          intro m
          induction m with
          | zero =>
            intro k hk h270 a1 a2
            have hk' : k = 450 := by omega
            subst hk'
            have hend := end99 (a2 rfl)
            refine zgo (fun pc => Nat.beq pc 72 || Nat.beq pc 99) 200 hX hR rfl ?_
            refine And.intro (fun c1 => ?_) (fun c1 => absurd (by decide) c1)
            exact hend
          | succ m ih =>
            intro k hk h270 a1 a2
            have ec : ccn K (m + 1) (k - 180) = (if 0 < K (k - 180) then 1 else 0) + ccn K m (k - 180 + 1) := rfl
            have hn0 := ccn_i K m (k - 180 + 1)
            have eI := h6 (k - 180) (by omega)
            rw [show 180 + (k - 180) = k by omega] at eI
            have hk99 := hK (k - 180)
            rw [ec] at a1 a2
            refine zgo (fun pc => Nat.beq pc 72 || Nat.beq pc 99 || Nat.beq pc 90) 200 hX hR rfl ?_
            refine And.intro (fun c1 => by omega) (fun c1 => ?_)
            refine Exists.intro _ ⟨hs.o, ?_⟩
            refine Exists.intro _ ⟨_, k, h74, rfl, by omega, ?_⟩
            rw [eI]
            refine And.intro (fun c2 => ?_) (fun c2 => ?_)
            · rw [if_neg (by omega), Int.zero_add] at a1 a2
              exact ih (k + 1) (by omega) (by omega) (by rw [show k + 1 - 180 = k - 180 + 1 by omega]; exact a1) (by rw [show k + 1 - 180 = k - 180 + 1 by omega]; exact a2)
            · rw [if_pos (by omega)] at a1
              exact no 90 (Or.inr (Or.inl rfl)) F1 I J _ ⟨K, h', Or.inr (Or.inr (Or.inl ⟨hok, hz, fun z => a1 (by omega) z.2, rfl, rfl⟩))⟩
        have l0 := loop (450 - 90 * (r.toNat + 1)) (90 * (r.toNat + 1)) (by omega) (by omega) (fun z => by rw [eclo, if_pos z]; decide) (fun z => by rw [eclo, if_neg (by omega)])
        rw [show ((90 * (r.toNat + 1) : Nat) : Int) = 90 * (r + 1) by omega] at l0
        refine zgo (fun pc => Nat.beq pc 72 || Nat.beq pc 61) 200 hX hR rfl ?_
        refine qX9_differ_219 hX cS hs.o (fun v F2 I2 J2 hv => ?_)
        obtain ⟨rfl, rfl, rfl, rfl⟩ := hv
        refine And.intro (fun c1 => absurd c1 (by decide)) (fun c1 => ?_)
        refine qX9_differ_235 hX cR hs.o (fun v F3 I3 J3 hv => ?_)
        obtain ⟨rfl, rfl, rfl, rfl⟩ := hv
        rw [hc]
        exact And.intro (fun c2 => l0) (fun c2 => absurd (by decide) c2)
      · have h99 := crk_99 hK r s t
        refine zgo (fun pc => Nat.beq pc 72 || Nat.beq pc 61) 200 hX hR rfl ?_
        refine qX9_differ_219 hX cS hs.o (fun v F2 I2 J2 hv => ?_)
        obtain ⟨rfl, rfl, rfl, rfl⟩ := hv
        refine And.intro (fun c1 => absurd c1 (by decide)) (fun c1 => ?_)
        refine qX9_differ_235 hX cR hs.o (fun v F3 I3 J3 hv => ?_)
        obtain ⟨rfl, rfl, rfl, rfl⟩ := hv
        refine And.intro (fun c2 => by omega) (fun c2 => ?_)
        exact no 61 (Or.inl rfl) _ _ _ _ ⟨K, h', Or.inr (Or.inr (Or.inl ⟨hok, hz, fun z => hc z.1, rfl, rfl⟩))⟩
    · rw [if_neg hz] at cS
      refine zgo (fun pc => Nat.beq pc 72 || Nat.beq pc 61) 200 hX hR rfl ?_
      refine qX9_differ_219 hX cS hs.o (fun v F2 I2 J2 hv => ?_)
      obtain ⟨rfl, rfl, rfl, rfl⟩ := hv
      refine And.intro (fun c1 => ?_) (fun c1 => absurd rfl c1)
      exact no 61 (Or.inl rfl) _ _ _ _ ⟨K, rs_fault h _, Or.inr (Or.inl ⟨hok, hz, rfl, rfl⟩)⟩
  refine zgo (fun pc => Nat.beq pc 42 || Nat.beq pc 44) 200 hX hR rfl ?_
  refine qX9_differ_122 hX (c_X9_in (xl X) (xD X) (xsh X) F I J (x := r) (lo := 2) (hi := 4) h1 ⟨by omega, by omega⟩ ⟨by omega, by omega⟩) (fun v F' I' J' hv => ?_)
  obtain ⟨rfl, rfl, rfl, rfl⟩ := hv
  refine And.intro (fun c1 => bad fun z => ?_) (fun c1 => ?_)
  · rw [if_pos ⟨z.1.1, z.1.2.1⟩] at c1
    exact absurd c1 (by decide)
  have hr : 2 ≤ r ∧ r ≤ 4 := Decidable.byContradiction fun g => by rw [if_neg g] at c1; exact c1 rfl
  refine qX9_differ_216 hX (c_X9_isPlace (xl X) (xD X) (xsh X) F' I' J' h2 h3) (fun v F2 I2 J2 hv => ?_)
  obtain ⟨rfl, rfl, rfl, rfl⟩ := hv
  by_cases hic : icP s t
  · rw [show zic s t = 1 from if_pos hic]
    refine And.intro (fun c5 => absurd c5 (by decide)) (fun c5 => ?_)
    refine qX9_differ_216 hX (c_X9_isPlace (xl X) (xD X) (xsh X) F2 I2 J2 (s := s + r) (t := t + r - 1) ⟨by omega, by omega⟩ ⟨by omega, by omega⟩) (fun v F3 I3 J3 hv => ?_)
    obtain ⟨rfl, rfl, rfl, rfl⟩ := hv
    by_cases hic2 : icP (s + r) (t + r - 1)
    · rw [show zic (s + r) (t + r - 1) = 1 from if_pos hic2]
      refine And.intro (fun c6 => absurd c6 (by decide)) (fun c6 => ?_)
      refine qX9_differ_122 hX (c_X9_in (xl X) (xD X) (xsh X) F3 I3 J3 (x := x) (lo := 1) (hi := 99) h4 ⟨by omega, by omega⟩ ⟨by omega, by omega⟩) (fun v F4 I4 J4 hv => ?_)
      obtain ⟨rfl, rfl, rfl, rfl⟩ := hv
      refine And.intro (fun c7 => ?_) (fun c7 => bad fun z => ?_)
      · have hx : 1 ≤ x ∧ x ≤ 99 := Decidable.byContradiction fun g => by rw [if_neg g] at c7; exact c7 rfl
        exact go ⟨⟨hr.1, hr.2, hx.1, hx.2⟩, hic, hic2⟩
      · rw [if_pos ⟨z.1.2.2.1, z.1.2.2.2⟩] at c7
        exact absurd c7 (by decide)
    · rw [show zic (s + r) (t + r - 1) = 0 from if_neg hic2]
      exact And.intro (fun c6 => bad fun z => hic2 z.2.2) (fun c6 => absurd rfl c6)
  · rw [show zic s t = 0 from if_neg hic]
    exact And.intro (fun c5 => bad fun z => hic z.2.1) (fun c5 => absurd rfl c5)
end RS
