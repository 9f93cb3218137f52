/-! the reference: lays, its second part: what is not reached yet -/
theorem rwR.zero {I : zFi} {J : zJi} {C : Nat} {L : Nat → Nat} (h : rwR I J C L) {cf : Nat → Bool} (hz : ∀ j, j < C → vc C cf (rq J 75 10) (L j) = false) : ∀ j, j < C → cf j = false := by
  intro j
  induction j using Nat.strongRecOn with
  | ind j ih =>
    intro hj
    obtain ⟨-, h2, h3, h4⟩ := h.1 j hj
    have e := hz j hj
    unfold vc at e
    rw [xs_one hj _ (fun i hi hne => ?_)] at e
    · rw [h3, Bool.and_true] at e
      exact e
    · rcases Nat.lt_or_ge i j with g | g
      · rw [ih i g hi, Bool.false_and]
      · rw [(h.1 i hi).2.2.2 j (by omega), Bool.and_false]
/-- goals behind the kept rows -/
def wfR (J1 J2 : zJi) (b C : Nat) (i : Nat) : Nat → Bool := if i < C then rv J1 i else rq J2 73 5 (b + (i - C))
def ly2 (F I : zFi) (J J1 : zJi) (F2 I2 : zFi) (J2 : zJi) (s t C K B c m Gs : Nat) (bl : Nat → Nat → Bool) : Prop :=
  ((∀ a, a ≠ 60 → F2 a = F a) ∧ (∀ j, j ≠ 22 → j ≠ 28 → F2 60 j = F 60 j) ∧ (∀ a, a ≠ 76 → a ≠ 71 → a ≠ 72 → I2 a = I a) ∧ (∀ a, a ≠ 73 → a ≠ 75 → a ≠ 77 → a ≠ 79 → J2 a = J a) ∧ J2 79 = J1 79) ∧
  (F2 60 22 = ((C + m : Nat) : Int) ∧ F2 60 28 = (K : Int)) ∧ (∃ L, rwR I2 J2 (C + m) L) ∧ ((∀ j, J2 77 j < 18446744073709551616) ∧ ∀ j, J2 73 j < 18446744073709551616) ∧
  ((∀ s', I2 71 s' = if s' = s then ((Gs + m : Nat) : Int) else I 71 s') ∧ ∀ j, I2 72 j = if 100 * s + Gs ≤ j ∧ j < 100 * s + Gs + m then (t : Int) else I 72 j) ∧
  (∀ i, (i < 100 * s + Gs ∨ 100 * s + Gs + m ≤ i) → rq J2 73 5 i = rq J 73 5 i) ∧
  GoR (C + m) (rv J2) (wfR J1 J2 (100 * s + Gs) C) ∧ (∀ i, i < m → ∃ j, j < B ∧ wfR J1 J2 (100 * s + Gs) C (C + i) = bl j) ∧
  ∀ j, j < c → Spn (C + m) (wfR J1 J2 (100 * s + Gs) C) (bl j)
theorem wfR_new (J1 J2 : zJi) (b C i : Nat) : wfR J1 J2 b C (C + i) = rq J2 73 5 (b + i) := by
  unfold wfR
  rw [if_neg (by omega), show C + i - C = i by omega]
/-- a candidate's words -/
def cwd (J : zJi) (de : Nat → Nat) (s t c k : Nat) : Nat := if s = 0 then (if k = 0 then (if de c = t then 2 ^ c else 0) else 0) else J 78 (5 * c + k)
theorem lays_2 {X : zX} {post : zP} (hX : ZF X mX9_lays) (hR' : ZR X mX9_lays post) (hs : zWM (xsh X)) {F I : zFi} {J J1 : zJi} {n : Nat} {de : Nat → Nat} (hn : n ≤ 12) (hde : ∀ e, e < n → I 69 e = (de e : Int) ∧ de e ≤ 12) (hJ78 : ∀ j, J 78 j < 18446744073709551616)
    {s t B C K Gs : Nat} {bl : Nat → Nat → Bool} (hs6 : s < 6) (ht : t ≤ 14) (hB0 : s = 0 → B = n) (hB4 : B ≤ 400) (hcw : ∀ c, c < B → ∀ p, p < 320 → (cwd J de s t c (p / 64)).testBit (p % 64) = bl c p) (hbo : ∀ c, c < B → ∀ p, 320 ≤ p → bl c p = false) {l3 : Option zV}
    (hlim : ∀ m (w : Nat → Nat → Bool), Ind (C + m) w → (∀ i, i < C → w i = rv J1 i) → (∀ i, i < m → ∃ j, j < B ∧ w (C + i) = bl j) → C + m ≤ 180 ∧ Gs + m ≤ 72)
    (fin : ∀ F2 I2 J2 m l6 l7 l8, ly2 F I J J1 F2 I2 J2 s t C K B B m Gs bl → HW X 379 [some (.inr (.inr (some 60))), some (.inl (s : Int)), some (.inl (t : Int)), l3, some (.inl (B : Int)), some (.inl (B : Int)), l6, l7, l8] [] F2 I2 J2) :
    ∀ r c, c + r = B → ∀ F2 I2 J2 m l6 l7 l8, ly2 F I J J1 F2 I2 J2 s t C K B c m Gs bl → HW X 202 [some (.inr (.inr (some 60))), some (.inl (s : Int)), some (.inl (t : Int)), l3, some (.inl (B : Int)), some (.inl (c : Int)), l6, l7, l8] [] F2 I2 J2 := by
  obtain ⟨cA, h71⟩ := hs.a71
  obtain ⟨cB, h69⟩ := hs.a69
  obtain ⟨cC, h78⟩ := hs.a78
  obtain ⟨cD, h77⟩ := hs.a77
  obtain ⟨cE, h73⟩ := hs.a73
  intro r
  induction r with
  | zero =>
    intro c hc F2 I2 J2 m l6 l7 l8 hly
    have hcB : c = B := by omega
    subst hcB
    have hf := fin F2 I2 J2 m l6 l7 l8 hly
    refine zgo (fun pc => Nat.beq pc 379) 200 hX hR' rfl ?_
    exact And.intro (fun c1 => hf) (fun c1 => by omega)
  | succ r ih =>
    intro c hc F2 I2 J2 m l6 l7 l8 hly
    have hcB : c < B := by omega
    obtain ⟨⟨f1, f2, f3, f4, f5⟩, ⟨g1, g2⟩, ⟨L, hL⟩, ⟨j1, j2⟩, ⟨i1, i2⟩, q1, hgo, hnw, hsp⟩ := id hly
    have lim := hlim m (wfR J1 J2 (100 * s + Gs) C) hgo.1 (fun i hi => if_pos hi) hnw
    have J78 : J2 78 = J 78 := f4 78 (by decide) (by decide) (by decide) (by decide)
    have hcl : ∀ k, cwd J de s t c k < 18446744073709551616 := fun k => by
      unfold cwd
      split
      · split
        · split
          · exact Nat.lt_of_lt_of_le (Nat.pow_lt_pow_right (by decide) (show c < 12 by have := hB0 (by assumption); omega)) (by decide)
          · decide
        · decide
      · exact hJ78 _
    -- what a copying step needs
    have hfJ : ∀ p, p < 640 → rq (cpW (zz J2 77 0 10) 77 0 (cwd J de s t c) 5) 77 10 0 p = (decide (p < 320) && bl c p) := fun p hp => by
      rw [rq_in (by omega)]
      by_cases h3 : p < 320
      · rw [show cpW (zz J2 77 0 10) 77 0 (cwd J de s t c) 5 77 (0 * 10 + p / 64) = cwd J de s t c (0 * 10 + p / 64 - 0) from if_pos ⟨rfl, by omega, by omega⟩, show 0 * 10 + p / 64 - 0 = p / 64 by omega, hcw c hcB p h3, decide_eq_true h3, Bool.true_and]
      · rw [show cpW (zz J2 77 0 10) 77 0 (cwd J de s t c) 5 77 (0 * 10 + p / 64) = zz J2 77 0 10 77 (0 * 10 + p / 64) from if_neg (by omega), show zz J2 77 0 10 77 (0 * 10 + p / 64) = 0 from if_pos ⟨rfl, by omega, by omega⟩, Nat.zero_testBit, decide_eq_false h3, Bool.false_and]
    have hfa : ∀ a, a ≠ 77 → cpW (zz J2 77 0 10) 77 0 (cwd J de s t c) 5 a = J2 a := fun a ha => (cpW_r ha).trans (zz_r ha)
    have hfl : ∀ j, cpW (zz J2 77 0 10) 77 0 (cwd J de s t c) 5 77 j < 18446744073709551616 := cpW_lt (zz_lt j1) hcl
    have hLf : rwR I2 (cpW (zz J2 77 0 10) 77 0 (cwd J de s t c) 5) (C + m) L := ⟨fun i hi => by
      obtain ⟨l1, l2, l3, l4⟩ := hL.1 i hi
      exact ⟨l1, l2, by rw [rq_of (hfa 75 (by decide))]; exact l3, fun j hj => by rw [rq_of (hfa 75 (by decide))]; exact l4 j hj⟩, fun j => by rw [hfa 75 (by decide)]; exact hL.2 j⟩
    -- when the row in hand is reduced
    have h278 : ∀ l6 l7 l8, HW X 278 [some (.inr (.inr (some 60))), some (.inl (s : Int)), some (.inl (t : Int)), l3, some (.inl (B : Int)), some (.inl (c : Int)), l6, l7, l8] [] F2 I2 (cpW (zz J2 77 0 10) 77 0 (cwd J de s t c) 5) := by
      intro l6 l7 l8
      refine zgo (fun pc => Nat.beq pc 202 || Nat.beq pc 311) 200 hX hR' rfl ?_
      refine qX9_lays_197 hX (c_X9_reduces (xl X) (xD X) (xsh X) hs F2 I2 _ (C := C + m) g1 (by omega) hLf hfl) hs.o (fun v F3 I3 J5 hv => ?_)
      obtain ⟨rfl, rfl, cf, y, rfl, ⟨r1, r2, r3⟩, hz, hld⟩ := hv
      have J5a : ∀ a, a ≠ 77 → J5 a = J2 a := fun a ha => (r1 a ha).trans (hfa a ha)
      have hnow : ∀ p, p < 640 → rq J5 77 10 0 p = ((decide (p < 320) && bl c p) ^^ vc (C + m) cf (rq J2 75 10) p) := fun p hp => by
        rw [r3 p, hfJ p hp, congrFun (vc_congr (c := cf) (c' := cf) (w' := rq J2 75 10) (fun _ _ => rfl) (fun i _ => funext fun q => rq_of (hfa 75 (by decide)) i q)) p]
      rcases hld with ⟨rfl, hzero⟩ | ⟨y', y1', rfl, y2', y3'⟩
      · refine And.intro (fun c3 => ?_) (fun c3 => absurd (by decide) c3)
        have hbl : bl c = vc (C + m) cf (rv J2) := by
          funext p
          by_cases h3 : p < 320
          · have := hnow p (by omega)
            rw [hzero p h3, decide_eq_true h3, Bool.true_and] at this
            rw [rv_half h3]
            cases h4 : bl c p <;> cases h5 : vc (C + m) cf (rq J2 75 10) p <;> rw [h4, h5] at this <;> first | rfl | cases this
          · rw [hbo c hcB p (by omega), rv_out (by omega)]
        have erv : rv J5 = rv J2 := by
          funext i p
          unfold rv
          rw [rq_of (J5a 75 (by decide))]
        have ewf : wfR J1 J5 (100 * s + Gs) C = wfR J1 J2 (100 * s + Gs) C := by
          funext i
          unfold wfR
          split
          · rfl
          · funext p
            exact rq_of (J5a 73 (by decide)) _ p
        refine ih (c + 1) (by omega) F3 I3 J5 m _ _ _ ⟨⟨f1, f2, f3, fun a a1 a2 a3 a4 => by rw [J5a a a3]; exact f4 a a1 a2 a3 a4, by rw [J5a 79 (by decide)]; exact f5⟩, ⟨g1, g2⟩, ⟨L, fun i hi => ?_, fun j => by rw [J5a 75 (by decide)]; exact hL.2 j⟩, ⟨r2, fun j => by rw [J5a 73 (by decide)]; exact j2 j⟩, ⟨i1, i2⟩, fun i hi => ?_, by rw [erv, ewf]; exact hgo, fun i hi => by rw [ewf]; exact hnw i hi, fun j hj => ?_⟩
        · obtain ⟨l1, l2, l3, l4⟩ := hL.1 i hi
          exact ⟨l1, l2, by rw [rq_of (J5a 75 (by decide))]; exact l3, fun j hj => by rw [rq_of (J5a 75 (by decide))]; exact l4 j hj⟩
        · rw [← q1 i hi]
          funext p
          exact rq_of (J5a 73 (by decide)) i p
        · rw [ewf]
          by_cases e : j = c
          · rw [e, hbl]
            exact spn_trans ⟨cf, rfl⟩ (fun i hi => hgo.2.1 i hi)
          · exact hsp j (by omega)
      · -- the candidate itself is something
        have hc0 : s = 0 → de c = t := fun h0 => by
          by_cases e : de c = t
          · exact e
          · exfalso
            have hb0 : ∀ p, p < 320 → bl c p = false := fun p hp => by
              rw [← hcw c hcB p hp]
              unfold cwd
              rw [if_pos h0]
              split
              · first | exact Nat.zero_testBit _ | rw [if_neg e, Nat.zero_testBit]
              · exact Nat.zero_testBit _
            have hv0 : ∀ j, j < C + m → cf j = false := hL.zero (fun j hj => by
              have l2 := (hL.1 j hj).2.1
              have := hnow (L j) (by omega)
              rw [hz j hj, decide_eq_true l2, Bool.true_and, hb0 _ l2, Bool.false_xor] at this
              exact this.symm)
            have := hnow y' (by omega)
            rw [y2', decide_eq_true y1', Bool.true_and, hb0 _ y1', Bool.false_xor] at this
            rw [show vc (C + m) cf (rq J2 75 10) y' = false from xs_zero' fun i hi => by rw [hv0 i hi, Bool.false_and]] at this
            cases this
        refine And.intro (fun c3 => by omega) (fun c3 => ?_)
        refine qX9_lays_200 hX (c_X9_keeps (xl X) (xD X) (xsh X) hs F3 I3 J5 (C := C + m) g1 (by omega) (x := (y' : Int))) hs.o (fun v F4 I4 J6 hv => ?_)
        obtain ⟨rfl, rfl, rfl, rfl⟩ := hv
        have e71 : zu I3 76 (C + m) (y' : Int) 71 s = ((Gs + m : Nat) : Int) := by rw [zu_r (by decide), i1 s, if_pos rfl]
        refine Exists.intro _ ⟨hs.o, ?_⟩
        refine Exists.intro _ ⟨_, s, h71, rfl, hs6, ?_⟩
        rw [show zu I3 76 (C + m) (y' : Int) 71 s = ((Gs + m : Nat) : Int) from e71]
        have copy : ∀ r2 k : Nat, k + r2 = 5 → HW X 311 [some (.inr (.inr (some 60))), some (.inl (s : Int)), some (.inl (t : Int)), l3, some (.inl (B : Int)), some (.inl (c : Int)), some (.inl (y' : Int)), some (.inl (100 * (s : Int) + ((Gs + m : Nat) : Int))), some (.inl (k : Int))] [] (zu F3 60 22 (((C + m : Nat) : Int) + 1)) (zu I3 76 (C + m) (y' : Int)) (cpW (kpR J5 (C + m) 10) 73 (5 * (100 * s + Gs + m)) (cwd J de s t c) k) := by
          intro r2
          induction r2 with
          | zero =>
            intro k hk
            have hk5 : k = 5 := by omega
            subst hk5
            refine zgo (fun pc => Nat.beq pc 202 || Nat.beq pc 311) 200 hX hR' rfl ?_
            refine And.intro (fun c4 => ?_) (fun c4 => by omega)
            refine qX9_lays_206 hX (c_X9_comesGenerator (xl X) (xD X) (xsh X) hs _ (zu I3 76 (C + m) (y' : Int)) _ (s := s) (g := Gs + m) hs6 e71 (by omega) (t := (t : Int))) hs.o (fun v F5 I5 J7 hv => ?_)
            obtain ⟨rfl, rfl, rfl, rfl⟩ := hv
            -- the new state
            have J7a : ∀ a, a ≠ 73 → a ≠ 75 → a ≠ 77 → cpW (kpR J5 (C + m) 10) 73 (5 * (100 * s + Gs + m)) (cwd J de s t c) 5 a = J2 a := fun a a1 a2 a3 => by rw [cpW_r a1, kpR_r a2, J5a a a3]
            have row7 : ∀ i p, rq (cpW (kpR J5 (C + m) 10) 73 (5 * (100 * s + Gs + m)) (cwd J de s t c) 5) 75 10 i p = rq (kpR J5 (C + m) 10) 75 10 i p := fun i p => rq_of (cpW_r (by decide)) i p
            have old : ∀ i, i < C + m → ∀ p, rq (cpW (kpR J5 (C + m) 10) 73 (5 * (100 * s + Gs + m)) (cwd J de s t c) 5) 75 10 i p = rq J2 75 10 i p := fun i hi p => by rw [row7, kpR_old (by omega), rq_of (J5a 75 (by decide))]
            have new : ∀ p, rq (cpW (kpR J5 (C + m) 10) 73 (5 * (100 * s + Gs + m)) (cwd J de s t c) 5) 75 10 (C + m) p = rq J5 77 10 0 p := fun p => by rw [row7, kpR_new]
            have g73o : ∀ i, i ≠ 100 * s + Gs + m → rq (cpW (kpR J5 (C + m) 10) 73 (5 * (100 * s + Gs + m)) (cwd J de s t c) 5) 73 5 i = rq J2 73 5 i := fun i hi => by
              funext p
              rw [rq_cpW_o hi, rq_of ((kpR_r (by decide)).trans (J5a 73 (by decide)))]
            have g73n : rq (cpW (kpR J5 (C + m) 10) 73 (5 * (100 * s + Gs + m)) (cwd J de s t c) 5) 73 5 (100 * s + Gs + m) = bl c := by
              funext p
              rw [rq_cpW]
              by_cases h3 : p < 320
              · rw [decide_eq_true h3, Bool.true_and, hcw c hcB p h3]
              · rw [decide_eq_false h3, Bool.false_and, hbo c hcB p (by omega)]
            have hrw : rwR (zu (zu (zu I3 76 (C + m) (y' : Int)) 72 (100 * s + (Gs + m)) (t : Int)) 71 s (((Gs + m : Nat) : Int) + 1)) (cpW (kpR J5 (C + m) 10) 73 (5 * (100 * s + Gs + m)) (cwd J de s t c) 5) (C + m + 1) (fun i => if i = C + m then y' else L i) := by
              refine ⟨fun i hi => ?_, fun j => ?_⟩
              · rw [zu_r (by decide), zu_r (by decide)]
                by_cases e : i = C + m
                · subst e
                  dsimp only
                  rw [if_pos rfl]
                  refine ⟨zu_s _ _ _ _, y1', by rw [new]; exact y2', fun j hj => ?_⟩
                  rw [if_neg (by omega), new]
                  exact hz j hj
                · obtain ⟨l1, l2, l3, l4⟩ := hL.1 i (by omega)
                  dsimp only
                  rw [if_neg e]
                  refine ⟨by rw [zu_n (fun z => e z.2)]; exact l1, l2, by rw [old i (by omega)]; exact l3, fun j hj => ?_⟩
                  rw [if_neg (by omega), old i (by omega)]
                  exact l4 j hj
              · rw [cpW_r (by decide)]
                unfold kpR
                split
                · exact r2 _
                · rw [J5a 75 (by decide)]
                  exact hL.2 j
            have hgo2 : GoR (C + m + 1) (rv (cpW (kpR J5 (C + m) 10) 73 (5 * (100 * s + Gs + m)) (cwd J de s t c) 5)) (wfR J1 (cpW (kpR J5 (C + m) 10) 73 (5 * (100 * s + Gs + m)) (cwd J de s t c) 5) (100 * s + Gs) C) := by
              refine hgo.add (cf := cf) (fun i hi => ?_) (fun i hi => ?_) (hrw.ind (fun r _ p hp => by unfold rv; rw [decide_eq_true hp, Bool.true_and])) ?_
              · funext p
                unfold rv
                rw [old i hi]
              · unfold wfR
                split
                · rfl
                · exact g73o _ (by omega)
              · rw [wfR_new, g73n]
                funext p
                unfold vx
                by_cases h3 : p < 320
                · rw [rv_half h3]
                  unfold rv
                  rw [decide_eq_true h3, Bool.true_and, new, hnow p (by omega), decide_eq_true h3, Bool.true_and]
                · rw [rv_out (by omega), hbo c hcB p (by omega)]
                  unfold rv
                  rw [decide_eq_false h3]
                  rfl
            refine ih (c + 1) (by omega) _ _ _ (m + 1) _ _ _ ⟨⟨fun a ha => by rw [zu_r ha]; exact f1 a ha, fun j h1 h2 => by rw [zu_n (fun z => h1 z.2)]; exact f2 j h1 h2, fun a a1 a2 a3 => by rw [zu_r a2, zu_r a3, zu_r a1]; exact f3 a a1 a2 a3, fun a a1 a2 a3 a4 => by rw [J7a a a1 a2 a3]; exact f4 a a1 a2 a3 a4, by rw [J7a 79 (by decide) (by decide) (by decide)]; exact f5⟩, ⟨by rw [zu_s]; rfl, by rw [zu_n (by decide)]; exact g2⟩, ⟨_, hrw⟩, ⟨fun j => ?_, fun j => ?_⟩, ⟨fun s' => ?_, fun j => ?_⟩, fun i hi => ?_, hgo2, fun i hi => ?_, fun j hj => ?_⟩
            · rw [cpW_r (by decide), kpR_r (by decide)]
              exact r2 j
            · exact cpW_lt (fun j => by rw [kpR_r (by decide), J5a 73 (by decide)]; exact j2 j) hcl j
            · by_cases e : s' = s
              · rw [e, zu_s, if_pos rfl]
                omega
              · rw [zu_n (fun z => e z.2), zu_r (by decide), zu_r (by decide), i1 s', if_neg e, if_neg e]
            · rw [zu_r (by decide)]
              by_cases e : j = 100 * s + (Gs + m)
              · rw [e, zu_s, if_pos (by omega)]
              · rw [zu_n (fun z => e z.2), zu_r (by decide), i2 j]
                by_cases e2 : 100 * s + Gs ≤ j ∧ j < 100 * s + Gs + m
                · rw [if_pos e2, if_pos (by omega)]
                · rw [if_neg e2, if_neg (by omega)]
            · rw [g73o i (by omega)]
              exact q1 i (by omega)
            · rw [wfR_new]
              by_cases e : i = m
              · rw [e, g73n]
                exact ⟨c, hcB, rfl⟩
              · rw [g73o _ (by omega), ← wfR_new J1 J2 (100 * s + Gs) C i]
                exact hnw i (by omega)
            · by_cases e : j = c
              · rw [e, ← g73n, ← wfR_new J1 _ (100 * s + Gs) C m]
                exact spn_mem (by omega) _
              · refine spn_ext (hsp j (by omega)) (by omega) (fun i hi => ?_)
                unfold wfR
                split
                · rfl
                · exact g73o _ (by omega)
          | succ r2 ih2 =>
            intro k hk
            have h6 := ih2 (k + 1) (by omega)
            rw [← cpW_step] at h6
            have hix : (5 : Int) * (100 * (s : Int) + ((Gs + m : Nat) : Int)) + (k : Int) = ((5 * (100 * s + Gs + m) + k : Nat) : Int) := by omega
            refine zgo (fun pc => Nat.beq pc 202 || Nat.beq pc 311) 200 hX hR' rfl ?_
            refine And.intro (fun c4 => by omega) (fun c4 => ?_)
            refine Exists.intro _ ⟨hs.o, ?_⟩
            refine And.intro (fun c5 => ?_) (fun c5 => ?_)
            · have hs0 : s ≠ 0 := by omega
              refine Exists.intro _ ⟨hs.o, ?_⟩
              refine Exists.intro _ ⟨_, 5 * c + k, h78, by omega, by omega, ?_⟩
              rw [show cpW (kpR J5 (C + m) 10) 73 (5 * (100 * s + Gs + m)) (cwd J de s t c) k 78 (5 * c + k) = cwd J de s t c k by
                rw [cpW_r (by decide), kpR_r (by decide), J5a 78 (by decide), J78]
                unfold cwd
                rw [if_neg hs0]]
              refine Exists.intro _ ⟨_, 5 * (100 * s + Gs + m) + k, h73, hix, by omega, ?_⟩
              exact h6
            · have hs0 : s = 0 := by omega
              refine And.intro (fun c6 => ?_) (fun c6 => ?_)
              · have ek : cwd J de s t c k = 0 := by
                  unfold cwd
                  rw [if_pos hs0, if_neg (by omega)]
                rw [ek] at h6
                refine Exists.intro _ ⟨_, 5 * (100 * s + Gs + m) + k, h73, hix, by omega, ?_⟩
                exact h6
              · have hB := hB0 hs0
                have ek : cwd J de s t c k = zlshl 1 (c : Int) := by
                  unfold cwd
                  rw [if_pos hs0, if_pos (by omega), if_pos (hc0 hs0), zlshl_eq (by omega), Nat.one_mul, Nat.mod_eq_of_lt (show 2 ^ c < 2 ^ 64 from Nat.pow_lt_pow_right (by decide) (by omega))]
                rw [ek] at h6
                refine Exists.intro _ ⟨_, 5 * (100 * s + Gs + m) + k, h73, hix, by omega, ?_⟩
                exact h6
        have h0 := copy 5 0 (by decide)
        rw [cpW_0] at h0
        exact h0
    -- the candidate is put
    have fill : ∀ r2 k : Nat, k + r2 = 5 → HW X 216 [some (.inr (.inr (some 60))), some (.inl (s : Int)), some (.inl (t : Int)), l3, some (.inl (B : Int)), some (.inl (c : Int)), some (.inl (k : Int)), l7, l8] [] F2 I2 (cpW (zz J2 77 0 10) 77 0 (cwd J de s t c) k) := by
      intro r2
      induction r2 with
      | zero =>
        intro k hk
        have hk5 : k = 5 := by omega
        subst hk5
        refine zgo (fun pc => Nat.beq pc 216 || Nat.beq pc 278) 200 hX hR' rfl ?_
        exact And.intro (fun c4 => h278 _ _ _) (fun c4 => by omega)
      | succ r2 ih2 =>
        intro k hk
        have h6 := ih2 (k + 1) (by omega)
        rw [← cpW_step] at h6
        refine zgo (fun pc => Nat.beq pc 216 || Nat.beq pc 278) 200 hX hR' rfl ?_
        refine And.intro (fun c4 => by omega) (fun c4 => ?_)
        refine Exists.intro _ ⟨hs.o, ?_⟩
        refine And.intro (fun c5 => ?_) (fun c5 => ?_)
        · have hs0 : s ≠ 0 := by omega
          refine Exists.intro _ ⟨hs.o, ?_⟩
          refine Exists.intro _ ⟨_, 5 * c + k, h78, by omega, by omega, ?_⟩
          rw [show cpW (zz J2 77 0 10) 77 0 (cwd J de s t c) k 78 (5 * c + k) = cwd J de s t c k by
            rw [cpW_r (by decide), zz_r (by decide), J78]
            unfold cwd
            rw [if_neg hs0]]
          refine Exists.intro _ ⟨_, 0 + k, h77, by omega, by omega, ?_⟩
          exact h6
        · have hs0 : s = 0 := by omega
          have hB := hB0 hs0
          refine And.intro (fun c6 => ?_) (fun c6 => ?_)
          · have ek : cwd J de s t c k = 0 := by
              unfold cwd
              rw [if_pos hs0, if_neg (by omega)]
            rw [ek] at h6
            refine Exists.intro _ ⟨_, 0 + k, h77, by omega, by omega, ?_⟩
            exact h6
          · have e69 : I2 69 c = (de c : Int) := by rw [f3 69 (by decide) (by decide) (by decide)]; exact (hde c (by omega)).1
            have d12 := (hde c (by omega)).2
            refine Exists.intro _ ⟨hs.o, ?_⟩
            refine Exists.intro _ ⟨_, c, h69, rfl, by omega, ?_⟩
            refine And.intro (fun c7 => ?_) (fun c7 => ?_)
            · rw [e69] at c7
              have ek : cwd J de s t c k = 0 := by
                unfold cwd
                rw [if_pos hs0, if_pos (by omega), if_neg (by omega)]
              rw [ek] at h6
              refine Exists.intro _ ⟨_, 0 + k, h77, by omega, by omega, ?_⟩
              exact h6
            · rw [e69] at c7
              have ek : cwd J de s t c k = zlshl 1 (c : Int) := by
                unfold cwd
                rw [if_pos hs0, if_pos (by omega), if_pos (by omega), zlshl_eq (by omega), Nat.one_mul, Nat.mod_eq_of_lt (show 2 ^ c < 2 ^ 64 from Nat.pow_lt_pow_right (by decide) (by omega))]
              rw [ek] at h6
              refine Exists.intro _ ⟨_, 0 + k, h77, by omega, by omega, ?_⟩
              exact h6
    have h0 := fill 5 0 (by decide)
    rw [cpW_0] at h0
    refine zgo (fun pc => Nat.beq pc 379 || Nat.beq pc 216) 200 hX hR' rfl ?_
    refine And.intro (fun c1 => by omega) (fun c1 => ?_)
    refine qX9_lays_190 hX (c_X9_clearNow (xl X) (xD X) (xsh X) hs F2 I2 J2) hs.o (fun v F3 I3 J3 hv => ?_)
    obtain ⟨rfl, rfl, rfl, rfl⟩ := hv
    exact h0
