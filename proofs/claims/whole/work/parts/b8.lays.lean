/-! the reference: lays -/
theorem GoR.self {n : Nat} {row w : Nat → Nat → Bool} (h : Ind n row) (hw : ∀ i, i < n → w i = row i) : GoR n row w := ⟨fun c hc => h c (by rw [← hc]; exact vc_congr (fun _ _ => rfl) (fun i hi => (hw i hi).symm)), fun i hi => by rw [← hw i hi]; exact spn_mem hi w, fun i hi => by rw [hw i hi]; exact spn_mem hi row⟩
def RJB (J : zJi) : Prop := (∀ j, J 75 j < 18446744073709551616) ∧ (∀ j, J 77 j < 18446744073709551616) ∧ (∀ j, J 78 j < 18446744073709551616) ∧ ∀ j, J 79 j < 18446744073709551616
theorem cpW_row {J : zJi} {f : Nat → Nat} {K : Nat} {j : Nat} (hj : j < K) (p : Nat) : rq (cpW J 78 0 f (5 * K)) 78 5 j p = (decide (p < 320) && (f (5 * j + p / 64)).testBit (p % 64)) := by
  by_cases hp : p < 64 * 5
  · rw [rq_in hp, decide_eq_true (show p < 320 by omega), Bool.true_and]
    unfold cpW
    rw [if_pos ⟨rfl, by omega, by omega⟩, show j * 5 + p / 64 - 0 = 5 * j + p / 64 by omega]
  · rw [rq_out (by omega), decide_eq_false (show ¬ p < 320 by omega), Bool.false_and]
theorem c_X9_lays (l : Launch) (D : va_G) (sh : Nat → Option zS) (hs : zWM sh) {F I : zFi} {J : zJi} {n : Nat} {A : Nat → Nat → Nat} {de : Nat → Nat} {G : Nat → Nat} {d : Nat → Nat → Nat} {gb : Nat → Nat → Nat → Bool} (h : LyH F I J n A de G d gb) (hJ : RJB J)
    {s t B : Nat} {bl : Nat → Nat → Bool} (hs6 : s < 6) (ht : t ≤ 14) (hd : ∀ a, a < G s → d s a ≤ t) (hok : OKs aS aN aGP A n t s G d gb B bl)
    (hB : (s = 0 ∧ B = n ∧ ∀ c, c < n → bl c = fun q => decide (q = c) && decide (de c = t)) ∨ (s ≠ 0 ∧ F 60 26 = (B : Int) ∧ B ≤ 400 ∧ ∀ j, j < B → rq J 78 5 j = bl j)) :
    Cn l D yX9_lays wsX9_lays mX9_lays.2.2.2.2 sh [.inr (.inr (some 60)), .inl (s : Int), .inl (t : Int)] F I J (fun v F' I' J' => v = none ∧ ((∀ a, a ≠ 60 → F' a = F a) ∧ (∀ j, j ≠ 22 → j ≠ 26 → j ≠ 28 → F' 60 j = F 60 j) ∧ (∀ a, a ≠ 76 → a ≠ 71 → a ≠ 72 → I' a = I a) ∧ (∀ a, a ≠ 73 → a ≠ 75 → a ≠ 77 → a ≠ 78 → a ≠ 79 → J' a = J a)) ∧ RJB J' ∧
      ∃ C K v sr nb m w gb', FlR (dvS aS aN aGP A n G d gb t s) (flP aS (d s) t (G s)) C K v sr nb ∧ Ind (C + m) w ∧ (∀ i, i < C → w i = v i) ∧ (∀ i, i < m → Spn (C + B) (vap C v bl) (w (C + i))) ∧ (∀ j, j < B → Spn (C + m) w (bl j)) ∧ (∀ s', s' ≠ s → gb' s' = gb s') ∧ (∀ a, a < G s → gb' s a = gb s a) ∧ (∀ i, i < m → gb' s (G s + i) = w (C + i)) ∧
        RTM I' J' (fup G s (G s + m)) (fup d s (fun j => if G s ≤ j ∧ j < G s + m then t else d s j)) gb' ∧ F' 60 26 = (K : Int) ∧ K ≤ 400 ∧ ∀ j, j < K → rq J' 78 5 j = nb j) := by
  obtain ⟨cA, h78⟩ := hs.a78
  obtain ⟨cB, h79⟩ := hs.a79
  obtain ⟨J75, J77, J78, J79⟩ := hJ
  have hok' := hok
  obtain ⟨⟨o1, o2, o3⟩, o4, o5l, o5k, o5, o6, o7, o8⟩ := hok'
  have hsp := h.2.2.2.1
  have hB0 : s = 0 → B = n := fun h0 => by
    rcases hB with ⟨-, z, -⟩ | ⟨z, -⟩
    · exact z
    · exact absurd h0 z
  have hB4 : B ≤ 400 := by
    rcases hB with ⟨-, z, -⟩ | ⟨-, -, z, -⟩
    · have := hsp.2.1
      omega
    · exact z
  have hcw : ∀ c, c < B → ∀ p, p < 320 → (cwd J de s t c (p / 64)).testBit (p % 64) = bl c p := fun c hc p hp => by
    rcases hB with ⟨z1, z2, z3⟩ | ⟨z1, z2, z3, z4⟩
    · unfold cwd
      rw [if_pos z1, z3 c (by omega)]
      show _ = (decide (p = c) && decide (de c = t))
      have hn := hsp.2.1
      by_cases h64 : p / 64 = 0
      · rw [if_pos h64, show p % 64 = p by omega]
        by_cases e : de c = t
        · rw [if_pos e, decide_eq_true e, Bool.and_true, Nat.testBit_two_pow]
          exact decide_eq_decide.mpr ⟨fun z => z.symm, fun z => z.symm⟩
        · rw [if_neg e, Nat.zero_testBit, decide_eq_false e, Bool.and_false]
      · rw [if_neg h64, Nat.zero_testBit, decide_eq_false (by omega), Bool.false_and]
    · unfold cwd
      rw [if_neg z1, ← z4 c hc, rq_in (by omega), show c * 5 + p / 64 = 5 * c + p / 64 by omega]
  refine zmet (M := mX9_lays) rfl rfl rfl kX9_lays (Nat.le_of_ble_eq_true rfl) (fun X hX hR' hl hD hsh => ?_)
  subst hl hD hsh
  have start := lays_1 hX hR' hs h ⟨J75, J77, J79⟩ hs6 ht hd hok (fun F1 I1 J1 C K l5 l6 l7 l8 hly => by
    obtain ⟨L, hL⟩ := hly.2.2.1
    have hI1 : Ind C (rv J1) := hL.ind (fun r _ p hp => by unfold rv; rw [decide_eq_true hp, Bool.true_and])
    have hflr := hly.2.2.2.2.flr hI1
    have hK300 : C + K = flP aS (d s) t (G s) := hflr.2.2.2.2.2.2
    have hlim : ∀ m (w : Nat → Nat → Bool), Ind (C + m) w → (∀ i, i < C → w i = rv J1 i) → (∀ i, i < m → ∃ j, j < B ∧ w (C + i) = bl j) → C + m ≤ 180 ∧ G s + m ≤ 72 := fun m w w1 w2 w3 => o8 C K _ _ _ hflr m w w1 w2 (fun i hi => by
      obtain ⟨j, k1, k2⟩ := w3 i hi
      rw [k2, ← vap_r (C := C) j (rv J1) bl]
      exact spn_mem (by omega) _)
    have second := lays_2 hX hR' hs (F := F) (I := I) (J := J) (J1 := J1) (n := n) (de := de) hsp.2.1 hsp.2.2.1 J78 (C := C) (K := K) (Gs := G s) hs6 ht hB0 hB4 hcw (fun c hc p hp => o5 c hc p (by omega)) (l3 := some (.inl (flP aS (d s) t (G s) : Int))) hlim (fun F2 I2 J2 m l6 l7 l8 h2 => by
      obtain ⟨⟨f1, f2, f3, f4, f5⟩, ⟨g1, g2⟩, ⟨L2, hL2⟩, ⟨j1, j2⟩, ⟨i1, i2⟩, q1, hgo, hnw, hspn⟩ := h2
      have lim := hlim m _ hgo.1 (fun i hi => if_pos hi) hnw
      have h79' : ∀ j, J2 79 j < 18446744073709551616 := fun j => by rw [f5]; exact hly.2.2.2.1.2 j
      have h78' : ∀ j, J2 78 j < 18446744073709551616 := fun j => by rw [f4 78 (by decide) (by decide) (by decide) (by decide)]; exact J78 j
      have copy : ∀ r k, k + r = 5 * K → HW X 390 [some (.inr (.inr (some 60))), some (.inl (s : Int)), some (.inl (t : Int)), some (.inl (flP aS (d s) t (G s) : Int)), some (.inl (B : Int)), some (.inl (k : Int)), l6, l7, l8] [] (zu F2 60 26 (K : Int)) I2 (cpW J2 78 0 (J2 79) k) := by
        intro r
        induction r with
        | zero =>
          intro k hk
          have hk5 : k = 5 * K := by omega
          subst hk5
          refine zgo (fun pc => Nat.beq pc 390) 200 hX hR' rfl ?_
          refine Exists.intro _ ⟨hs.o, ?_⟩
          rw [show zu F2 60 26 (K : Int) 60 28 = (K : Int) by rw [zu_n (by decide)]; exact g2]
          refine And.intro (fun c1 => ?_) (fun c1 => by omega)
          have eJ : ∀ a, a ≠ 78 → cpW J2 78 0 (J2 79) (5 * K) a = J2 a := fun a ha => cpW_r ha
          refine And.intro rfl ⟨⟨fun a ha => by rw [zu_r ha]; exact f1 a ha, fun j k1 k2 k3 => by rw [zu_n (fun z => k2 z.2)]; exact f2 j k1 k3, f3, fun a a1 a2 a3 a4 a5 => by rw [eJ a a4]; exact f4 a a1 a2 a3 a5⟩, ⟨fun j => by rw [eJ 75 (by decide)]; exact hL2.2 j, fun j => by rw [eJ 77 (by decide)]; exact j1 j, cpW_lt h78' h79', fun j => by rw [eJ 79 (by decide)]; exact h79' j⟩,
            C, K, rv J1, rs J1, (fun j => rq J1 79 5 j), m, wfR J1 J2 (100 * s + G s) C, (fun s' a => if s' = s then (if a < G s then gb s a else rq J2 73 5 (100 * s + a)) else gb s' a), hflr, hgo.1, fun i hi => if_pos hi, fun i hi => ?_, hspn, fun s' e => by funext a; exact if_neg e, fun a ha => by dsimp only; rw [if_pos rfl, if_pos ha], fun i hi => ?_, ⟨fun s' hs' => ?_, fun j => by rw [eJ 73 (by decide)]; exact j2 j⟩, zu_s _ _ _ _, by omega, fun j hj => ?_⟩
          · obtain ⟨j, k1, k2⟩ := hnw i hi
            rw [k2, ← vap_r (C := C) j (rv J1) bl]
            exact spn_mem (by omega) _
          · dsimp only
            rw [if_pos rfl, if_neg (by omega), wfR_new, show 100 * s + (G s + i) = 100 * s + G s + i by omega]
          · obtain ⟨y1, y2, y3, y4⟩ := h.2.2.2.2.2.2.1.1 s' hs'
            unfold fup
            by_cases e : s' = s
            · subst e
              rw [if_pos rfl, if_pos rfl]
              refine ⟨by rw [i1, if_pos rfl], lim.2, fun a ha => ?_, fun a ha => ?_⟩
              · rw [i2]
                by_cases g : G s' ≤ a
                · rw [if_pos (by omega), if_pos ⟨g, ha⟩]
                  exact ⟨rfl, ht⟩
                · rw [if_neg (by omega), if_neg (by omega)]
                  exact y3 a (by omega)
              · dsimp only
                rw [if_pos rfl]
                funext p
                rw [rq_of (eJ 73 (by decide))]
                by_cases g : a < G s'
                · rw [if_pos g, ← y4 a g, q1 _ (Or.inl (by omega))]
                · rw [if_neg g]
            · rw [if_neg e, if_neg e]
              refine ⟨by rw [i1, if_neg e]; exact y1, y2, fun a ha => ?_, fun a ha => ?_⟩
              · rw [i2, if_neg (by
                  rcases Nat.lt_or_gt_of_ne e with z | z <;> omega)]
                exact y3 a ha
              · dsimp only
                rw [if_neg e, ← y4 a ha]
                funext p
                rw [rq_of (eJ 73 (by decide)), q1 _ (by rcases Nat.lt_or_gt_of_ne e with z | z <;> omega)]
          · funext p
            rw [cpW_row hj]
            show _ = rq J1 79 5 j p
            by_cases hp : p < 320
            · rw [decide_eq_true hp, Bool.true_and, ← rq_of (J := J1) (J' := J2) f5 j p, rq_in (by omega), show j * 5 + p / 64 = 5 * j + p / 64 by omega]
            · rw [decide_eq_false hp, Bool.false_and, rq_out (by omega)]
        | succ r ih =>
          intro k hk
          have h6 := ih (k + 1) (by omega)
          rw [← cpW_step] at h6
          refine zgo (fun pc => Nat.beq pc 390) 200 hX hR' rfl ?_
          refine Exists.intro _ ⟨hs.o, ?_⟩
          rw [show zu F2 60 26 (K : Int) 60 28 = (K : Int) by rw [zu_n (by decide)]; exact g2]
          refine And.intro (fun c1 => by omega) (fun c1 => ?_)
          refine Exists.intro _ ⟨hs.o, ?_⟩
          refine Exists.intro _ ⟨hs.o, ?_⟩
          refine Exists.intro _ ⟨_, k, h79, rfl, by omega, ?_⟩
          rw [show cpW J2 78 0 (J2 79) k 79 = J2 79 from cpW_r (by decide)]
          refine Exists.intro _ ⟨_, 0 + k, h78, by omega, by omega, ?_⟩
          exact h6
      have h0 := copy (5 * K) 0 (by omega)
      rw [cpW_0, ← g2] at h0
      refine zgo (fun pc => Nat.beq pc 390) 200 hX hR' rfl ?_
      refine Exists.intro _ ⟨hs.o, ?_⟩
      refine Exists.intro _ ⟨hs.o, ?_⟩
      exact h0) B 0 (by omega) F1 I1 J1 0 l6 l7 l8 ⟨⟨hly.1.1, hly.1.2.1, fun a a1 _ _ => hly.1.2.2.1 a a1, fun a a1 a2 a3 a4 => hly.1.2.2.2 a a2 a3 a4, rfl⟩, ⟨hly.2.1.1, hly.2.1.2⟩, ⟨L, hL⟩, ⟨hly.2.2.2.1.1, fun j => by rw [hly.1.2.2.2 73 (by decide) (by decide) (by decide)]; exact h.2.2.2.2.2.2.1.2 j⟩, ⟨fun s' => ?_, fun j => ?_⟩, fun i _ => ?_, GoR.self hI1 (fun i hi => if_pos hi), fun i hi => absurd hi (Nat.not_lt_zero i), fun j hj => absurd hj (Nat.not_lt_zero j)⟩
    · rcases hB with ⟨z1, z2, -⟩ | ⟨z1, z2, -, -⟩
      · have e10 : F1 60 10 = (B : Int) := by rw [hly.1.2.1 10 (by decide) (by decide), z2]; exact hsp.1
        rw [← e10] at second
        refine zgo (fun pc => Nat.beq pc 202) 200 hX hR' rfl ?_
        refine And.intro (fun c1 => by omega) (fun c1 => ?_)
        refine Exists.intro _ ⟨hs.o, ?_⟩
        exact second
      · have e26 : F1 60 26 = (B : Int) := by rw [hly.1.2.1 26 (by decide) (by decide)]; exact z2
        rw [← e26] at second
        refine zgo (fun pc => Nat.beq pc 202) 200 hX hR' rfl ?_
        refine And.intro (fun c1 => ?_) (fun c1 => by omega)
        refine Exists.intro _ ⟨hs.o, ?_⟩
        exact second
    · rw [hly.1.2.2.1 71 (by decide)]
      by_cases e : s' = s
      · rw [e, if_pos rfl]
        exact (h.2.2.2.2.2.2.1.1 s hs6).1
      · rw [if_neg e]
    · rw [hly.1.2.2.1 72 (by decide), if_neg (by omega)]
    · funext p
      exact rq_of (hly.1.2.2.2 73 (by decide) (by decide) (by decide)) i p)
  refine zgo (fun pc => Nat.beq pc 15) 200 hX hR' rfl ?_
  refine Exists.intro _ ⟨hs.o, ?_⟩
  refine Exists.intro _ ⟨hs.o, ?_⟩
  exact start
