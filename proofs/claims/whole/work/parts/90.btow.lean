/-! Tower: build -/
def TIx : Type := Nat → (Nat → Nat) → (Nat → Nat → Nat) → (Nat → Nat → Nat → Bool) → Prop
/-- what carries from degree to degree -/
def TIstep (S N : Nat → Nat) (GP A : Nat → Nat → Nat) (n : Nat) (de : Nat → Int) (TI : TIx) : Prop :=
  (∀ d gb, TI 0 (fun _ => 0) d gb) ∧ ∀ t, t ≤ 14 → ∀ G d gb, TI t G d gb → ∃ DI : DIx, (∀ B bl, B ≤ 12 → elL (sod de t n) B bl → DI 0 G d gb B bl) ∧ (∀ s G d gb B bl, s < 6 → DI s G d gb B bl → OKs S N GP A n t s G d gb B bl) ∧ DIstep S N GP A n t DI ∧ ∀ G' d' gb' B bl, DI 6 G' d' gb' B bl → TI (t + 1) G' d' gb'
def BF1 (A B : zFi) : Prop := ∀ a, a ≠ 15 → (a < 18 ∨ (29 ≤ a ∧ a < 32) ∨ 56 ≤ a) → A a = B a
theorem c_X7_build (l : Launch) (D : va_G) (sh : Nat → Option zS) (hs : zWT sh) (F I : zFi) (J : zJi) {N S : Nat → Nat} (hT : bT I 3 4 N S) (h30 : ∀ n, 0 ≤ bsz S n ∧ bsz S n ≤ 30) (h61 : ∀ n, bst S n + (bsz S n).toNat ≤ 61) {GP : Nat → Nat → Nat} (hsqT : sqT I 9 GP) {A : Nat → Nat → Nat} {n : Nat} (hn : F 11 3 = (n : Int)) (hn2 : n ≤ 12) (hA : spA I 13 A) (hdg : ∀ e, e < 12 → zi32 (I 12 e))
    {G : Nat → Nat} {d : Nat → Nat → Nat} {gb : Nat → Nat → Nat → Bool} (hM : TM F I J G d gb) (hJB : JB J) {T0 top : Nat} (hT0 : F 15 11 = (T0 : Int)) (hT15 : T0 ≤ 15) (htop : top ≤ 14) (TI : TIx) (hTI : TIstep S N GP A n (I 12) TI) (h0 : 0 < T0 → TI T0 G d gb) :
    Cn l D yX7_build wsX7_build mX7_build.2.2.2.2 sh [.inr (.inr (some 15)), .inl (top : Int)] F I J (fun v F' I' J' => v = none ∧ (BF1 F F' ∧ BF I I' ∧ BF J J') ∧ JB J' ∧ ∃ T1 G' d' gb', T1 = max (top + 1) T0 ∧ F' 15 11 = (T1 : Int) ∧ TM F' I' J' G' d' gb' ∧ TI T1 G' d' gb') := by
  have hs' := hs
  obtain ⟨hs, hb, hsq, hsp, ⟨hva, hso⟩, hkr, ⟨hpi, hca, hta, hke⟩, ⟨cA, E, fk, hkn, hfk⟩, hfl⟩ := hs
  obtain ⟨hp, cA2, E2, ff, hflo, hfs⟩ := id hs
  have hfs : ∀ s, s < 6 → ff s = some (32 + 4 * s) := hfs
  refine zmet (M := mX7_build) rfl rfl rfl kX7_build (Nat.le_of_ble_eq_true rfl) (fun X hX hR hl0 hD hsh => ?_)
  subst hl0 hD hsh
  have loop : ∀ m t, t + m = max (top + 1) T0 → T0 ≤ t → ∀ F1 I1 J1 G d gb, (BF1 F F1 ∧ BF I I1 ∧ BF J J1) → JB J1 → TM F1 I1 J1 G d gb → TI t G d gb → F1 15 11 = (t : Int) → HW X 35 [some (.inr (.inr (some 15))), some (.inl (top : Int)), some (.inl (t : Int))] [] F1 I1 J1 := by
    intro m
    induction m with
    | zero =>
      intro t htm htT F1 I1 J1 G d gb hbf hjb hM hti hbu
      refine zgo (fun pc => Nat.beq pc 35) 200 hX hR rfl ?_
      refine And.intro (fun c1 => ?_) (fun c1 => by omega)
      exact And.intro rfl ⟨hbf, hjb, t, G, d, gb, by omega, hbu, hM, hti⟩
    | succ m ih =>
      intro t htm htT F1 I1 J1 G d gb hbf hjb hM hti hbu
      have ht14 : t ≤ 14 := by omega
      have eI : ∀ a, a < 18 → I1 a = I a := fun a ha => (hbf.2.1 a (by omega)).symm
      obtain ⟨DI, d1, d2, d3, d4⟩ := hTI.2 t ht14 G d gb hti
      have cB := c_X7_buildDegree (xl X) (xD X) (xsh X) hs' F1 I1 J1 (bT_of hT (eI 3 (by decide)) (eI 4 (by decide))) h30 h61 (sqT_of hsqT (eI 9 (by decide))) (A := A) (n := n) (by rw [← hbf.1 11 (by decide) (by omega)]; exact hn) hn2 (spA_of hA (eI 13 (by decide))) (by rw [eI 12 (by decide)]; exact hdg) hM hjb ht14 DI (by rw [eI 12 (by decide)]; exact d1) d2 d3
      refine zgo (fun pc => Nat.beq pc 35) 200 hX hR rfl ?_
      refine And.intro (fun c1 => by omega) (fun c1 => ?_)
      refine And.intro (fun c2 => by omega) (fun c2 => ?_)
      refine qX7_build_102 hX cB hs.1 (fun v F2 I2 J2 hv' => ?_)
      obtain ⟨rfl, ⟨e1, e2, e3⟩, e4, G', d', gb', B, bl, e5, e6⟩ := hv'
      refine Exists.intro _ ⟨hs.1, ?_⟩
      have hz : ∀ a, a ≠ 15 → zu F2 15 11 ((t : Int) + 1) a = F2 a := fun a g => zu_r g
      refine ih (t + 1) (by omega) (by omega) (zu F2 15 11 ((t : Int) + 1)) I2 J2 G' d' gb' ⟨fun a g1 g2 => ?_, fun a g => (hbf.2.1 a g).trans (e2 a g), fun a g => (hbf.2.2 a g).trans (e3 a g)⟩ e4 (fun s hs6 => ?_) (d4 _ _ _ _ _ e6) ?_
      · rw [hz a g1, ← e1 a g2]
        exact hbf.1 a g1 g2
      · obtain ⟨y1, y2, y3⟩ := e5 s hs6
        exact ⟨y1.frame (hz _ (by omega)) rfl, y2.frame (hz _ (by omega)) rfl, y3⟩
      · rw [zu_s]
        rfl
  have h30' : ∀ F1 I1 J1 G d gb l2, (BF1 F F1 ∧ BF I I1 ∧ BF J J1) → JB J1 → TM F1 I1 J1 G d gb → TI T0 G d gb → F1 15 11 = (T0 : Int) → HW X 30 [some (.inr (.inr (some 15))), some (.inl (top : Int)), l2] [] F1 I1 J1 := by
    intro F1 I1 J1 G d gb l2 hbf hjb hM hti hbu
    refine zgo (fun pc => Nat.beq pc 35) 200 hX hR rfl ?_
    refine Exists.intro _ ⟨hs.1, ?_⟩
    have h := loop (max (top + 1) T0 - T0) T0 (by omega) (Nat.le_refl _) F1 I1 J1 G d gb hbf hjb hM hti hbu
    rw [← hbu] at h
    exact h
  refine zgo (fun pc => Nat.beq pc 9 || Nat.beq pc 30) 200 hX hR rfl ?_
  refine Exists.intro _ ⟨hs.1, ?_⟩
  refine And.intro (fun c1 => ?_) (fun c1 => ?_)
  · exact h30' F I J G d gb _ ⟨fun _ _ _ => rfl, fun _ _ => rfl, fun _ _ => rfl⟩ hJB hM (h0 (by omega)) hT0
  · have hT00 : T0 = 0 := by omega
    -- the floors are emptied
    have loop9 : ∀ m s, s + m = 6 → ∀ F1 G, BF1 F F1 → F1 15 11 = (T0 : Int) → TM F1 I J G d gb → (∀ s', s' < s → G s' = 0) → HW X 9 [some (.inr (.inr (some 15))), some (.inl (top : Int)), some (.inl (s : Int))] [] F1 I J := by
      intro m
      induction m with
      | zero =>
        intro s hsm F1 G hbf hbu hM hG
        refine zgo (fun pc => Nat.beq pc 9 || Nat.beq pc 30) 200 hX hR rfl ?_
        refine And.intro (fun c2 => ?_) (fun c2 => by omega)
        refine h30' F1 I J (fun _ => 0) d gb _ ⟨hbf, fun _ _ => rfl, fun _ _ => rfl⟩ hJB (fun s' hs' => ?_) (by rw [hT00]; exact hTI.1 d gb) hbu
        have := hM s' hs'
        rw [hG s' (by omega)] at this
        exact this
      | succ m ih =>
        intro s hsm F1 G hbf hbu hM hG
        have hs6 : s < 6 := by omega
        have h9 := ih (s + 1) (by omega) (zu (zu (zu F1 (32 + 4 * s) 3 0) (34 + 4 * s) 1 5) (34 + 4 * s) 2 0) (fup G s 0) (fun a g1 g2 => by rw [zu_r (by omega), zu_r (by omega), zu_r (by omega)]; exact hbf a g1 g2) (by rw [zu_r (by omega), zu_r (by omega), zu_r (by omega)]; exact hbu) (fun s' hs' => by
          obtain ⟨y1, y2, y3⟩ := hM s' hs'
          unfold fup
          by_cases e : s' = s
          · subst e
            rw [if_pos rfl]
            refine ⟨⟨by rw [zu_r (by omega), zu_r (by omega), zu_s]; rfl, by decide, y1.2.2⟩, ⟨by rw [zu_n (by omega), zu_s]; rfl, zu_s _ _ _ _, by decide, by decide, by decide, by decide, y2.lt⟩, fun a ha => absurd ha (Nat.not_lt_zero a)⟩
          · rw [if_neg e]
            refine ⟨y1.frame ?_ rfl, y2.frame ?_ rfl, y3⟩
            · rw [zu_r (by omega), zu_r (by omega), zu_r (by omega)]
            · rw [zu_r (by omega), zu_r (by omega), zu_r (by omega)]) (fun s' hs' => by
          unfold fup
          by_cases e : s' = s
          · rw [if_pos e]
          · rw [if_neg e]
            exact hG s' (by omega))
        refine zgo (fun pc => Nat.beq pc 9 || Nat.beq pc 30) 200 hX hR rfl ?_
        refine And.intro (fun c2 => by omega) (fun c2 => ?_)
        refine Exists.intro _ ⟨hs.1, ?_⟩
        refine Exists.intro _ ⟨_, _, _, s, hflo, rfl, hs6, ?_⟩
        rw [hfs s hs6]
        refine qX7_build_99 hX (c_X3_restart (xl X) (xD X) (xsh X) (hfl s hs6).1 (hfl s hs6).2 F1 I J) (hfl s hs6).1.1 (fun v F2 I2 J2 hv' => ?_)
        obtain ⟨rfl, rfl, rfl, rfl⟩ := hv'
        exact h9
    exact loop9 6 0 (by decide) F G (fun _ _ _ => rfl) hT0 hM (fun s' h => absurd h (Nat.not_lt_zero s'))
