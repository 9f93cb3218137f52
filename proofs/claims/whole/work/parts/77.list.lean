/-! Tower: listElements -/
theorem zu_zu (F : zFi) (k j : Nat) (x y : Int) : zu (zu F k j x) k j y = zu F k j y := by
  funext a b
  unfold zu
  split
  · rfl
  · rfl
theorem zz_lt {J : zJi} {c lo hi : Nat} (h : ∀ j, J c j < 18446744073709551616) : ∀ j, zz J c lo hi c j < 18446744073709551616 := by
  intro j
  unfold zz
  split
  · decide
  · exact h j
theorem bfl_lt {J : zJi} {c W C : Nat} (h : ∀ j, J c j < 18446744073709551616) {row : Int} {p : Nat} (hp : p < 32) : ∀ j, bfl J c W C row p 1 c j < 18446744073709551616 := by
  unfold bfl
  rw [if_neg (by omega)]
  exact bfw_lt h (Nat.mod_lt _ (by decide))
/-- after the first e elements: the words, how many rows -/
def lel (J : zJi) (c x : Nat) : Nat → zJi × Nat
  | 0 => (J, 0)
  | e + 1 => if x.testBit e then (bfl (zz (lel J c x e).1 c ((lel J c x e).2 * 1) ((lel J c x e).2 * 1 + 1)) c 1 ((lel J c x e).2 + 1) ((lel J c x e).2 : Int) e 1, (lel J c x e).2 + 1) else lel J c x e
theorem lel_ok (J : zJi) (c x : Nat) (h : ∀ j, J c j < 18446744073709551616) : ∀ e, e ≤ 12 → (lel J c x e).2 ≤ e ∧ ∀ j, (lel J c x e).1 c j < 18446744073709551616 := by
  intro e
  induction e with
  | zero => intro _; exact ⟨Nat.le_refl _, h⟩
  | succ e ih =>
    intro he
    obtain ⟨i1, i2⟩ := ih (by omega)
    rw [show lel J c x (e + 1) = if x.testBit e then (bfl (zz (lel J c x e).1 c ((lel J c x e).2 * 1) ((lel J c x e).2 * 1 + 1)) c 1 ((lel J c x e).2 + 1) ((lel J c x e).2 : Int) e 1, (lel J c x e).2 + 1) else lel J c x e from rfl]
    cases x.testBit e
    · rw [if_neg (by decide)]
      exact ⟨by omega, i2⟩
    · rw [if_pos rfl]
      exact ⟨Nat.succ_le_succ i1, bfl_lt (zz_lt i2) (by omega)⟩
theorem c_X7_listElements (l : Launch) (D : va_G) (sh : Nat → Option zS) {k c m : Nat} (hk : zsBits sh k c m) (F I : zFi) (J : zJi) (hm : 12 ≤ m ∧ m ≤ 1000) (hJ : ∀ j, J c j < 18446744073709551616) {x : Nat} (hx : x < 2147483648) :
    Cn l D yX7_listElements wsX7_listElements mX7_listElements.2.2.2.2 sh [.inr (.inr (some k)), .inl (x : Int)] F I J (fun v F' I' J' => v = none ∧ F' = zu (zu F k 1 1) k 2 ((lel J c x 12).2 : Int) ∧ I' = I ∧ J' = (lel J c x 12).1) := by
  refine zmet (M := mX7_listElements) rfl rfl rfl kX7_listElements (Nat.le_of_ble_eq_true rfl) (fun X hX hR hl hD hsh => ?_)
  subst hl hD hsh
  have loop : ∀ r e : Nat, e + r = 12 → HW X 8 [some (.inr (.inr (some k))), some (.inl (x : Int)), some (.inl (e : Int))] [] (zu (zu F k 1 1) k 2 ((lel J c x e).2 : Int)) I (lel J c x e).1 := by
    intro r
    induction r with
    | zero =>
      intro e he
      refine zgo (fun pc => Nat.beq pc 8) 200 hX hR rfl ?_
      refine And.intro (fun c1 => ?_) (fun c1 => by omega)
      exact And.intro rfl ⟨by rw [show e = 12 by omega], rfl, by rw [show e = 12 by omega]⟩
    | succ r ih =>
      intro e he
      have h2 := ih (e + 1) (by omega)
      obtain ⟨i1, i2⟩ := lel_ok J c x hJ e (by omega)
      rw [show lel J c x (e + 1) = if x.testBit e then (bfl (zz (lel J c x e).1 c ((lel J c x e).2 * 1) ((lel J c x e).2 * 1 + 1)) c 1 ((lel J c x e).2 + 1) ((lel J c x e).2 : Int) e 1, (lel J c x e).2 + 1) else lel J c x e from rfl] at h2
      generalize lel J c x e = s at h2 i1 i2 ⊢
      obtain ⟨J1, C⟩ := s
      have i1' : C ≤ e := i1
      have i2' : ∀ j, J1 c j < 18446744073709551616 := i2
      have hz := zbit (x := x) (e := e) hx (by omega)
      refine zgo (fun pc => Nat.beq pc 8) 200 hX hR rfl ?_
      refine And.intro (fun c1 => by omega) (fun c1 => ?_)
      cases hbt : x.testBit e
      · rw [hbt, if_neg (by decide)] at h2
        rw [hbt] at hz
        refine And.intro (fun c2 => h2) (fun c2 => ?_)
        rw [hz] at c2
        exact absurd rfl c2
      · rw [hbt, if_pos rfl] at h2
        rw [hbt] at hz
        refine And.intro (fun c2 => ?_) (fun c2 => ?_)
        · rw [hz] at c2
          exact absurd c2 (by decide)
        · have b0 : bR (zu (zu F k 1 1) k 2 (C : Int)) J1 k c m 1 C := ⟨by rw [zu_n (by omega), zu_s]; rfl, zu_s _ _ _ _, by omega, by decide, by decide, hm.2, i2'⟩
          refine qX7_listElements_130 hX (c_X1_open (xl X) (xD X) (xsh X) hk _ I J1 b0 (by omega)) hk.1 (fun v F1 I1 J2 hv => ?_)
          obtain ⟨rfl, rfl, rfl, rfl⟩ := hv
          have b1 : bR (zu (zu (zu F k 1 1) k 2 (C : Int)) k 2 ((C + 1 : Nat) : Int)) (zz J1 c (C * 1) (C * 1 + 1)) k c m 1 (C + 1) := ⟨by rw [zu_n (by omega), zu_n (by omega), zu_s]; rfl, zu_s _ _ _ _, by omega, by decide, by decide, hm.2, zz_lt i2'⟩
          refine qX7_listElements_133 hX (c_X1_flip (xl X) (xD X) (xsh X) hk _ _ _ b1 (row := (C : Int)) (p := e) (b := 1) ⟨by omega, by omega⟩ (by omega) (by decide)) hk.1 (fun v F1 I1 J2 hv => ?_)
          obtain ⟨rfl, rfl, rfl, rfl⟩ := hv
          rw [← zu_zu (zu F k 1 1) k 2 (C : Int)] at h2
          exact h2
  refine zgo (fun pc => Nat.beq pc 8) 200 hX hR rfl ?_
  refine qX7_listElements_114 hX (c_X1_restart (xl X) (xD X) (xsh X) hk F I J (p := 12) (by decide)) hk.1 (fun v F1 I1 J1 hv => ?_)
  obtain ⟨rfl, rfl, rfl, rfl⟩ := hv
  exact loop 12 0 (by omega)
