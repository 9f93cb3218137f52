/-! Tower: turnByTurn -/
def tbt (S : Nat → Nat) (d : Nat → Nat → Nat) (g : Nat → Nat) (t : Int) : Nat → Int
  | 0 => 0
  | s + 1 => if s % 2 = 0 then tbt S d g t s + (flP S (d s) t (g s) : Int) else tbt S d g t s + -(flP S (d s) t (g s) : Int)
theorem c_X7_turnByTurn (l : Launch) (D : va_G) (sh : Nat → Option zS) {p b sq sp fl kn va so pi ca ta ke nu st : Nat} {P DG GO g : Nat → Nat} (hs : zsTw sh p b sq sp fl kn va so pi ca ta ke P) (hb : zsBas sh b nu st) (F I : zFi) (J : zJi) {N S : Nat → Nat} (hT : bT I nu st N S) (h30 : ∀ n, 0 ≤ bsz S n ∧ bsz S n ≤ 30) {d : Nat → Nat → Nat} (hf : ∀ s, s < 6 → zsFl sh (P s) b (DG s) (GO s) ∧ flR F I (P s) (DG s) (g s) (d s)) {t : Int} (ht : 0 ≤ t ∧ t ≤ 100) :
    Cn l D yX7_turnByTurn wsX7_turnByTurn mX7_turnByTurn.2.2.2.2 sh [.inr (.inr (some p)), .inl t] F I J (zself F I J (.inl (tbt S d g t 6))) := by
  obtain ⟨hp, cA, E, f, hfl, hfs⟩ := hs
  refine zmet (M := mX7_turnByTurn) rfl rfl rfl kX7_turnByTurn (Nat.le_of_ble_eq_true rfl) (fun X hX hR hl hD hsh => ?_)
  subst hl hD hsh
  have loop : ∀ k s : Nat, s + k = 6 → HW X 4 [some (.inr (.inr (some p))), some (.inl t), some (.inl (tbt S d g t s)), some (.inl (s : Int))] [] F I J := by
    intro k
    induction k with
    | zero =>
      intro s hk
      refine zgo (fun pc => Nat.beq pc 4) 200 hX hR rfl ?_
      refine And.intro (fun c1 => ?_) (fun c1 => by omega)
      exact And.intro (by rw [show s = 6 by omega]) ⟨rfl, rfl, rfl⟩
    | succ k ih =>
      intro s hk
      have h2 := ih (s + 1) (by omega)
      have hs6 : s < 6 := by omega
      obtain ⟨f1, f2⟩ := hf s hs6
      have hz : zrem (s : Int) 2 = ((s % 2 : Nat) : Int) := zrem_eq (d := 2) (by omega) (by decide) (by decide)
      rw [show tbt S d g t (s + 1) = if s % 2 = 0 then tbt S d g t s + (flP S (d s) t (g s) : Int) else tbt S d g t s + -(flP S (d s) t (g s) : Int) from rfl] at h2
      refine zgo (fun pc => Nat.beq pc 4) 200 hX hR rfl ?_
      refine And.intro (fun c1 => by omega) (fun c1 => ?_)
      refine And.intro (by omega) ?_
      rw [hz]
      refine And.intro (fun c2 => ?_) (fun c2 => ?_)
      · rw [if_neg (by omega)] at h2
        refine Exists.intro _ ⟨hp, ?_⟩
        refine Exists.intro _ ⟨_, _, _, s, hfl, rfl, hs6, ?_⟩
        rw [hfs s hs6]
        refine qX7_turnByTurn_69 hX (c_X3_places (xl X) (xD X) (xsh X) f1 hb F I J hT h30 f2 ht) f1.1 (fun v F' I' J' hv => ?_)
        obtain ⟨rfl, rfl, rfl, rfl⟩ := hv
        exact h2
      · rw [if_pos (by omega)] at h2
        refine Exists.intro _ ⟨hp, ?_⟩
        refine Exists.intro _ ⟨_, _, _, s, hfl, rfl, hs6, ?_⟩
        rw [hfs s hs6]
        refine qX7_turnByTurn_69 hX (c_X3_places (xl X) (xD X) (xsh X) f1 hb F I J hT h30 f2 ht) f1.1 (fun v F' I' J' hv => ?_)
        obtain ⟨rfl, rfl, rfl, rfl⟩ := hv
        exact h2
  refine zgo (fun pc => Nat.beq pc 4) 200 hX hR rfl ?_
  exact loop 6 0 (by omega)
