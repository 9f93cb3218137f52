/-! the reference: how its rows and words are found -/
def bRv (I I' : zFi) (t : Nat) : Prop := (∀ j, j < 183 → I' 64 j = if j < 3 * t then (mN j : Int) else 0) ∧ ∀ a, a ≠ 64 → I' a = I a
theorem bRv.put {I I' : zFi} {t a b c : Nat} (h : bRv I I' t) (h1 : mN (3 * t) = a) (h2 : mN (3 * t + 1) = b) (h3 : mN (3 * t + 2) = c) : bRv I (zu (zu (zu I' 64 (3 * t) (a : Int)) 64 (3 * t + 1) (b : Int)) 64 (3 * t + 2) (c : Int)) (t + 1) := by
  obtain ⟨g1, g3⟩ := h
  refine ⟨fun j hj => ?_, fun x hx => ?_⟩
  · by_cases e1 : j = 3 * t + 2
    · subst e1
      rw [zu_s, if_pos (by omega), h3]
    · rw [zu_n (by omega)]
      by_cases e2 : j = 3 * t + 1
      · subst e2
        rw [zu_s, if_pos (by omega), h2]
      · rw [zu_n (by omega)]
        by_cases e3 : j = 3 * t
        · subst e3
          rw [zu_s, if_pos (by omega), h1]
        · rw [zu_n (by omega), g1 j hj]
          by_cases e4 : j < 3 * t
          · rw [if_pos e4, if_pos (by omega)]
          · rw [if_neg e4, if_neg (by omega)]
  · rw [zu_r hx, zu_r hx, zu_r hx]
    exact g3 x hx
set_option maxHeartbeats 2000000 in
theorem c_X9_findRows (l : Launch) (D : va_G) (sh : Nat → Option zS) (hs : zWM sh) (F I : zFi) (J : zJi) (hz : ∀ j, j < 192 → I 64 j = 0) :
    Cn l D yX9_findRows wsX9_findRows mX9_findRows.2.2.2.2 sh [.inr (.inr (some 60))] F I J (fun v F' I' J' => v = none ∧ F' = F ∧ J' = J ∧ (∀ a, a ≠ 64 → I' a = I a) ∧ mRw I') := by
  obtain ⟨cA, h64⟩ := hs.a64
  obtain ⟨k1, k2, k3⟩ := bchk_at bchk_m
  refine zmet (M := mX9_findRows) rfl rfl rfl kX9_findRows (Nat.le_of_ble_eq_true rfl) (fun X hX hR hl hD hsh => ?_)
  subst hl hD hsh
  have loopB : ∀ n a : Nat, n < 15 → a ≤ n → ∀ (m b : Nat) (I' : zFi), b + m = n + 1 → bRv I I' (bcn 3 7 false n a b) → (∀ I2, bRv I I2 (bcn 3 7 false n (a + 1) 0) → HW X 12 [some (.inr (.inr (some 60))), some (.inl (bcn 3 7 false n (a + 1) 0 : Int)), some (.inl (n : Int)), some (.inl ((a + 1 : Nat) : Int)), none] [] F I2 J) →
      HW X 20 [some (.inr (.inr (some 60))), some (.inl (bcn 3 7 false n a b : Int)), some (.inl (n : Int)), some (.inl (a : Int)), some (.inl (b : Int))] [] F I' J := by
    intro n a hn15 han m
    have stop : ∀ (b : Nat) (I' : zFi), b ≤ n + 1 → n < a + 3 * b → bRv I I' (bcn 3 7 false n a b) → (∀ I2, bRv I I2 (bcn 3 7 false n (a + 1) 0) → HW X 12 [some (.inr (.inr (some 60))), some (.inl (bcn 3 7 false n (a + 1) 0 : Int)), some (.inl (n : Int)), some (.inl ((a + 1 : Nat) : Int)), none] [] F I2 J) → HW X 20 [some (.inr (.inr (some 60))), some (.inl (bcn 3 7 false n a b : Int)), some (.inl (n : Int)), some (.inl (a : Int)), some (.inl (b : Int))] [] F I' J := by
      intro b I' hb hgo hI hk'
      have hst' := bfb_stop (w2 := 3) (w3 := 7) (dbl := false) (n := n) (a := a) (b := b) hgo (n + 1 - b)
      have he : bcn 3 7 false n a b = bcn 3 7 false n (a + 1) 0 := by
        show bfn 3 7 false n + bfa 3 7 false n a + bfb 3 7 false n a b = bfn 3 7 false n + (bfa 3 7 false n a + bfb 3 7 false n a (n + 1)) + 0
        rw [show n + 1 = b + (n + 1 - b) by omega, hst']
        omega
      refine zgo (fun pc => Nat.beq pc 12) 200 hX hR rfl ?_
      refine And.intro (fun c1 => ?_) (fun c1 => by omega)
      rw [he] at hI ⊢
      exact hw_weak (ls' := [some (.inr (.inr (some 60))), some (.inl (bcn 3 7 false n (a + 1) 0 : Int)), some (.inl (n : Int)), some (.inl ((a + 1 : Nat) : Int)), none]) ⟨rfl, rfl, rfl, rfl, trivial⟩ (hk' I' hI)
    induction m with
    | zero =>
      intro b I' hb hI hk'
      exact stop b I' (by omega) (by omega) hI hk'
    | succ m ih =>
      intro b I' hb hI hk'
      by_cases hgo : n < a + 3 * b
      · exact stop b I' (by omega) hgo hI hk'
      · have hcb : bcn 3 7 false n a (b + 1) = bcn 3 7 false n a b + (match bfits 3 7 false n a b with | true => 1 | false => 0) := by
          show bfn 3 7 false n + bfa 3 7 false n a + (bfb 3 7 false n a b + _) = bfn 3 7 false n + bfa 3 7 false n a + bfb 3 7 false n a b + _
          exact (Nat.add_assoc _ _ _).symm
        have hff : bfits 3 7 false n a b = Nat.beq ((n - a - 3 * b) % 7) 0 := by
          unfold bfits
          rw [show Nat.ble (a + 3 * b) n = true from Nat.ble_eq.mpr (by omega)]
          simp
        have er : zrem ((n : Int) - (a : Int) - 3 * (b : Int)) 7 = (((n - a - 3 * b) % 7 : Nat) : Int) := by
          rw [show (n : Int) - (a : Int) - 3 * (b : Int) = ((n - a - 3 * b : Nat) : Int) by omega]
          exact zrem_eq (d := 7) (by omega) (by decide) (by decide)
        have ed : zdiv ((n : Int) - (a : Int) - 3 * (b : Int)) 7 = (((n - a - 3 * b) / 7 : Nat) : Int) := by
          rw [show (n : Int) - (a : Int) - 3 * (b : Int) = ((n - a - 3 * b : Nat) : Int) by omega]
          exact zdiv_eq (d := 7) (by omega) (by decide) (by decide)
        have next : ∀ (t : Nat) (I2 : zFi), t = bcn 3 7 false n a (b + 1) → bRv I I2 t → HW X 89 [some (.inr (.inr (some 60))), some (.inl (t : Int)), some (.inl (n : Int)), some (.inl (a : Int)), some (.inl (b : Int))] [] F I2 J := by
          intro t I2 et hI2
          subst et
          refine zgo (fun pc => Nat.beq pc 20) 200 hX hR rfl ?_
          exact ih (b + 1) I2 (by omega) hI2 hk'
        refine zgo (fun pc => Nat.beq pc 89) 200 hX hR rfl ?_
        refine And.intro (fun c1 => by omega) (fun c1 => ?_)
        refine And.intro (by decide) ?_
        rw [er]
        by_cases hm : (n - a - 3 * b) % 7 = 0
        · rw [hm] at hff ⊢
          rw [show bfits 3 7 false n a b = true from hff] at hcb
          obtain ⟨t1, t2, t3, t4⟩ := k1 n a b hn15 han (by omega) (by rw [hff]; rfl)
          rw [Nat.mul_comm] at t2 t3 t4
          refine And.intro (fun c2 => absurd rfl c2) (fun c2 => ?_)
          refine Exists.intro _ ⟨hs.o, ?_⟩
          refine Exists.intro _ ⟨_, 3 * bcn 3 7 false n a b, h64, by omega, by omega, ?_⟩
          refine Exists.intro _ ⟨hs.o, ?_⟩
          refine Exists.intro _ ⟨_, 3 * bcn 3 7 false n a b + 1, h64, by omega, by omega, ?_⟩
          refine Exists.intro _ ⟨hs.o, ?_⟩
          refine And.intro (by decide) ?_
          refine Exists.intro _ ⟨_, 3 * bcn 3 7 false n a b + 2, h64, by omega, by omega, ?_⟩
          rw [ed]
          exact next _ _ hcb.symm (hI.put t2 t3 t4)
        · rw [show bfits 3 7 false n a b = false from hff.trans (nbn hm)] at hcb
          refine And.intro (fun c2 => ?_) (fun c2 => by omega)
          exact next _ I' hcb.symm hI
  have loopA : ∀ n : Nat, n < 15 → ∀ (m a : Nat) (I' : zFi), a + m = n + 1 → bRv I I' (bcn 3 7 false n a 0) → (∀ I2, bRv I I2 (bfn 3 7 false (n + 1)) → HW X 4 [some (.inr (.inr (some 60))), some (.inl (bfn 3 7 false (n + 1) : Int)), some (.inl ((n + 1 : Nat) : Int)), none, none] [] F I2 J) →
      HW X 12 [some (.inr (.inr (some 60))), some (.inl (bcn 3 7 false n a 0 : Int)), some (.inl (n : Int)), some (.inl (a : Int)), none] [] F I' J := by
    intro n hn15 m
    induction m with
    | zero =>
      intro a I' ha hI hk'
      obtain rfl : a = n + 1 := by omega
      refine zgo (fun pc => Nat.beq pc 4) 200 hX hR rfl ?_
      refine And.intro (fun c1 => ?_) (fun c1 => by omega)
      exact hw_weak (ls' := [some (.inr (.inr (some 60))), some (.inl (bfn 3 7 false (n + 1) : Int)), some (.inl ((n + 1 : Nat) : Int)), none, none]) ⟨rfl, rfl, rfl, trivial⟩ (hk' I' hI)
    | succ m ih =>
      intro a I' ha hI hk'
      refine zgo (fun pc => Nat.beq pc 20) 200 hX hR rfl ?_
      refine And.intro (fun c1 => by omega) (fun c1 => ?_)
      exact loopB n a hn15 (by omega) (n + 1) 0 I' (by omega) hI (fun I2 hI2 => ih (a + 1) I2 (by omega) hI2 hk')
  have loopN : ∀ (m n : Nat) (I' : zFi), n + m = 15 → bRv I I' (bfn 3 7 false n) → HW X 4 [some (.inr (.inr (some 60))), some (.inl (bfn 3 7 false n : Int)), some (.inl (n : Int)), none, none] [] F I' J := by
    intro m
    induction m with
    | zero =>
      intro n I' hn' hI
      obtain rfl : n = 15 := by omega
      refine zgo (fun _ => false) 200 hX hR rfl ?_
      refine And.intro (fun g1 => ?_) (fun g1 => by omega)
      refine ⟨rfl, rfl, rfl, hI.2, fun w k hw hk => ?_⟩
      rw [hI.1 (3 * w + k) (by omega), k3, if_pos (by omega)]
    | succ m ih =>
      intro n I' hn' hI
      refine zgo (fun pc => Nat.beq pc 12) 200 hX hR rfl ?_
      refine And.intro (fun c1 => by omega) (fun c1 => ?_)
      exact loopA n (by omega) (n + 1) 0 _ (by omega) hI (fun I2 h9 => ih (n + 1) I2 (by omega) h9)
  refine zgo (fun pc => Nat.beq pc 4) 200 hX hR rfl ?_
  refine loopN 15 0 _ rfl ⟨fun j hj => ?_, fun _ _ => rfl⟩
  have h00 : bfn 3 7 false 0 = 0 := rfl
  rw [hz j (by omega), if_neg (by omega)]
/-! words -/
def wfit (i b : Nat) : Bool := Nat.beq (lnC b) 0 || Nat.ble (2 * cn b 0) i
def wfb (n i : Nat) : Nat → Nat
  | 0 => 0
  | k + 1 => wfb n i k + match wfit i (aS (n - i) + k) with
    | true => 1
    | false => 0
def wfa (n : Nat) : Nat → Nat
  | 0 => 0
  | i + 1 => wfa n i + match i with
    | 0 => 0
    | j + 1 => wfb n (j + 1) (aS (n - (j + 1) + 1) - aS (n - (j + 1)))
def wcn (n i k : Nat) : Nat := aS n + wfa n i + wfb n i k
def ckWd : Bool := ((List.range 15).all fun n => (List.range 15).all fun i => (List.range 9).all fun k => !(Nat.ble 1 i && (Nat.ble i n && (Nat.blt (aS (n - i) + k) (aS (n - i + 1)) && wfit i (aS (n - i) + k)))) || (fun u b => Nat.blt u 61 && (Nat.blt b u && (Nat.beq (cn u 0) i && (Nat.beq (lnC u) (lnC b + 1) && (List.range 2).all fun j => Nat.beq (cn u (j + 1)) (match Nat.blt j (lnC b) with | true => cn b j | false => 0))))) (wcn n i k) (aS (n - i) + k)) && (List.range 15).all fun n => Nat.beq n 0 || Nat.beq (aS n + wfa n (n + 1)) (aS (n + 1))
theorem ckWd_ok : ckWd = true := by decide +kernel
theorem ckWd_at {n i k : Nat} (hn : n ≤ 14) (hi : 1 ≤ i) (hin : i ≤ n) (hk : aS (n - i) + k < aS (n - i + 1)) (hf : wfit i (aS (n - i) + k) = true) : wcn n i k < 61 ∧ aS (n - i) + k < wcn n i k ∧ cn (wcn n i k) 0 = i ∧ lnC (wcn n i k) = lnC (aS (n - i) + k) + 1 ∧ ∀ j, j < 2 → cn (wcn n i k) (j + 1) = if j < lnC (aS (n - i) + k) then cn (aS (n - i) + k) j else 0 := by
  have hr := dg_range (show n - i ≤ 14 by omega)
  have h := ckWd_ok
  unfold ckWd at h
  rw [Bool.and_eq_true] at h
  have h2 := range_all (range_all (range_all h.1 (show n < 15 by omega)) (show i < 15 by omega)) (show k < 9 by omega)
  rw [show Nat.ble 1 i = true from Nat.ble_eq.mpr hi, show Nat.ble i n = true from Nat.ble_eq.mpr hin, show Nat.blt (aS (n - i) + k) (aS (n - i + 1)) = true from bl_iff.mpr hk, hf] at h2
  simp only [Bool.and_self, Bool.not_true, Bool.false_or, Bool.and_eq_true, bl_iff, bq_iff] at h2
  obtain ⟨g1, g2, g3, g4, g5⟩ := h2
  refine ⟨g1, g2, g3, g4, fun j hj => ?_⟩
  have h9 := Nat.eq_of_beq_eq_true (range_all g5 hj)
  rw [h9]
  by_cases hjl : j < lnC (aS (n - i) + k)
  · rw [if_pos hjl, bl_iff.mpr hjl]
  · rw [if_neg hjl]
    cases hb : Nat.blt j (lnC (aS (n - i) + k)) with
    | true => exact absurd (bl_iff.mp hb) hjl
    | false => rfl
theorem wfa_end {n : Nat} (h1 : 1 ≤ n) (h : n ≤ 14) : aS n + wfa n (n + 1) = aS (n + 1) := by
  have h0 := ckWd_ok
  unfold ckWd at h0
  rw [Bool.and_eq_true] at h0
  have := range_all h0.2 (show n < 15 by omega)
  rw [show Nat.beq n 0 = false from nbn (by omega)] at this
  exact Nat.eq_of_beq_eq_true this
/-- the words as far as they are found: w of them, begins of degrees up to n -/
def wdI (F I : zFi) (F' I' : zFi) (w n : Nat) : Prop :=
  (F' 60 7 = (w : Int) ∧ ∀ a j, ¬ (a = 60 ∧ j = 7) → F' a j = F a j) ∧ (∀ j, j ≤ n → I' 61 j = (aS j : Int)) ∧ (∀ u, u < w → I' 62 u = (lnC u : Int)) ∧ (∀ u k, u < w → k < 3 → I' 63 (4 * u + k) = (cn u k : Int)) ∧ (∀ j, 4 * w ≤ j → j < 256 → I' 63 j = 0) ∧ ∀ a, a ≠ 61 → a ≠ 62 → a ≠ 63 → I' a = I a
