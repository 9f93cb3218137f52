/-! Tower: joinsOf -/
def tjr (S d : Nat → Nat) (J : zJi) (c W C : Nat) (f t top : Nat) : Nat → Nat
  | 0 => 0
  | j + 1 => if d j = t then tjr S d J c W C f t top j + (if rb J c W C (f : Int) (flP S d top (j + 1) - 1) then 2 ^ flG d t j else 0) else tjr S d J c W C f t top j
theorem tjr_lt (S d : Nat → Nat) (J : zJi) (c W C : Nat) (f t top : Nat) : ∀ j, tjr S d J c W C f t top j < 2 ^ flG d t j := by
  intro j
  induction j with
  | zero => exact Nat.zero_lt_one
  | succ j ih =>
    rw [show flG d t (j + 1) = flG d t j + (if (d j : Int) = t then 1 else 0) from rfl]
    rw [show tjr S d J c W C f t top (j + 1) = if d j = t then tjr S d J c W C f t top j + (if rb J c W C (f : Int) (flP S d top (j + 1) - 1) then 2 ^ flG d t j else 0) else tjr S d J c W C f t top j from rfl]
    by_cases h : d j = t
    · rw [if_pos h, if_pos (show (d j : Int) = (t : Int) by omega), Nat.pow_succ]
      split <;> omega
    · rw [if_neg h, if_neg (show ¬ (d j : Int) = (t : Int) by omega)]
      exact ih
theorem flG_mono (d : Nat → Nat) (t : Int) : ∀ a b, a ≤ b → flG d t a ≤ flG d t b := by
  intro a b h
  induction b with
  | zero => rw [show a = 0 by omega]; exact Nat.le_refl _
  | succ b ih =>
    rcases Nat.lt_or_ge b a with h1 | h1
    · rw [show a = b + 1 by omega]; exact Nat.le_refl _
    · exact Nat.le_trans (ih h1) (Nat.le_add_right _ _)
theorem flP_le {S d : Nat → Nat} {t : Int} (h30 : ∀ n, 0 ≤ bsz S n ∧ bsz S n ≤ 30) (g : Nat) : flP S d t g ≤ g * 30 := ns_le (fun i _ => by have := h30 (t - d i); omega)
theorem zor_0 {a : Nat} (h : a < 2147483648) : zor (a : Int) 0 = (a : Int) := by
  have := zor_eq (a := a) (b := 0) h (by decide)
  rw [Nat.or_zero] at this
  exact this
theorem zshl0 {n : Nat} (hn : n < 31) : zshl 0 (n : Int) = 0 := by
  have := zshl_eq (a := 0) (k := n) (by omega) (by rw [Nat.zero_mul]; decide)
  rw [Nat.zero_mul] at this
  exact this
theorem c_X7_joinsOf (l : Launch) (D : va_G) (sh : Nat → Option zS) {p b dg go k c m nu st : Nat} (hs : zsFl sh p b dg go) (hk : zsBits sh k c m) (hb : zsBas sh b nu st) (F I : zFi) (J : zJi) {N S : Nat → Nat} (hT : bT I nu st N S) (h30 : ∀ n, 0 ≤ bsz S n ∧ bsz S n ≤ 30) {g : Nat} {d : Nat → Nat} (hf : flR F I p dg g d) {W C : Nat} (hR2 : bR F J k c m W C) {f t top : Nat} (hf1 : f < 1000) (htop : t ≤ top ∧ top ≤ 100) (hpos : 1 ≤ bsz S ((top : Int) - t)) (hsn : flG d t g ≤ 30) :
    Cn l D yX7_joinsOf wsX7_joinsOf mX7_joinsOf.2.2.2.2 sh [.inr (.inr (some p)), .inr (.inr (some k)), .inl (f : Int), .inl (t : Int), .inl (top : Int)] F I J (zself F I J (.inl (tjr S d J c W C f t top g : Int))) := by
  obtain ⟨hg1, hg2, hg3⟩ := id hf
  refine zmet (M := mX7_joinsOf) rfl rfl rfl kX7_joinsOf (Nat.le_of_ble_eq_true rfl) (fun X hX hR hl hD hsh => ?_)
  subst hl hD hsh
  have loop : ∀ r j : Nat, j + r = g → HW X 12 [some (.inr (.inr (some p))), some (.inr (.inr (some k))), some (.inl (f : Int)), some (.inl (t : Int)), some (.inl (top : Int)), some (.inl (tjr S d J c W C f t top j : Int)), some (.inl (flP S d top j : Int)), some (.inl (flG d t j : Int)), some (.inl (j : Int))] [] F I J := by
    intro r
    induction r with
    | zero =>
      intro j hj
      refine zgo (fun pc => Nat.beq pc 12) 200 hX hR rfl ?_
      refine qX7_joinsOf_72 hX (c_X3_generators (xl X) (xD X) (xsh X) hs F I J) hs.1 (fun v F' I' J' hv => ?_)
      obtain ⟨rfl, rfl, rfl, rfl⟩ := hv
      refine And.intro (fun c1 => ?_) (fun c1 => by omega)
      exact And.intro (by rw [show j = g by omega]) ⟨rfl, rfl, rfl⟩
    | succ r ih =>
      intro j hj
      have h2 := ih (j + 1) (by omega)
      have h3 := (hg3 j (by omega)).2
      have hw := h30 ((top : Int) - d j)
      have hp1 : flP S d top (j + 1) = flP S d top j + (bsz S ((top : Int) - d j)).toNat := rfl
      have hpl := flP_le (S := S) (d := d) (t := top) h30 j
      have hgl := flG_mono d t (j + 1) g (by omega)
      have hg1' : flG d t (j + 1) = flG d t j + (if (d j : Int) = t then 1 else 0) := rfl
      have hrl := tjr_lt S d J c W C f t top j
      have hPi : ((flP S d top (j + 1) : Nat) : Int) = (flP S d top j : Int) + bsz S ((top : Int) - d j) := by omega
      rw [show tjr S d J c W C f t top (j + 1) = if d j = t then tjr S d J c W C f t top j + (if rb J c W C (f : Int) (flP S d top (j + 1) - 1) then 2 ^ flG d t j else 0) else tjr S d J c W C f t top j from rfl, hPi] at h2
      refine zgo (fun pc => Nat.beq pc 12) 200 hX hR rfl ?_
      refine qX7_joinsOf_72 hX (c_X3_generators (xl X) (xD X) (xsh X) hs F I J) hs.1 (fun v F' I' J' hv => ?_)
      obtain ⟨rfl, rfl, rfl, rfl⟩ := hv
      refine And.intro (fun c1 => by omega) (fun c1 => ?_)
      refine qX7_joinsOf_93 hX (c_X3_width (xl X) (xD X) (xsh X) hs hb F' I' J' hT hf (j := j) (by omega) (t := (top : Int)) ⟨by omega, by omega⟩) hs.1 (fun v F' I' J' hv => ?_)
      obtain ⟨rfl, rfl, rfl, rfl⟩ := hv
      refine qX7_joinsOf_76 hX (c_X3_degreeOf (xl X) (xD X) (xsh X) hs F' I' J' hf (j := j) (by omega)) hs.1 (fun v F' I' J' hv => ?_)
      obtain ⟨rfl, rfl, rfl, rfl⟩ := hv
      refine And.intro (fun c2 => ?_) (fun c2 => ?_)
      · have hne : ¬ d j = t := by omega
        rw [hg1', if_neg hne, if_neg (by omega)] at h2
        exact h2
      · have heq : d j = t := by omega
        rw [if_pos (by omega)] at hg1'
        rw [hg1', if_pos heq] at h2
        rw [heq] at hw hp1
        have hpi : ((flP S d top j : Nat) : Int) + bsz S ((top : Int) - d j) - 1 = ((flP S d top (j + 1) - 1 : Nat) : Int) := by rw [heq]; omega
        have cB := c_X1_bit (xl X) (xD X) (xsh X) hk F' I' J' hR2 (row := (f : Int)) (p := flP S d top (j + 1) - 1) ⟨by omega, by omega⟩ (by rw [hp1]; omega)
        rw [← hpi] at cB
        refine qX7_joinsOf_96 hX cB hk.1 (fun v F' I' J' hv => ?_)
        obtain ⟨rfl, rfl, rfl, rfl⟩ := hv
        have hs31 : flG d t j < 31 := by omega
        have hrl2 : tjr S d J' c W C f t top j < 2147483648 := Nat.lt_trans hrl (Nat.pow_lt_pow_right (n := 31) (by decide) hs31)
        cases hbb : rb J' c W C (f : Int) (flP S d top (j + 1) - 1)
        · rw [hbb, if_neg (by decide), Nat.add_zero, ← zor_0 hrl2, ← zshl0 hs31] at h2
          exact h2
        · rw [hbb, if_pos rfl, ← zor_bit hrl hs31, ← zshl1 hs31] at h2
          exact h2
  refine zgo (fun pc => Nat.beq pc 12) 200 hX hR rfl ?_
  exact loop g 0 (by omega)
