/-! the reference: goes -/
def mPr (I : zFi) : Prop := ∀ u v, u < 61 → v < 61 → dgA u + dgA v ≤ 14 → I 67 (64 * u + v) = (aGP u v : Int)
def ckG9 : Bool := (List.range 61).all fun u => (List.range 61).all fun v => Nat.blt (aGP u v) 512
set_option maxRecDepth 100000 in
theorem ckG9_ok : ckG9 = true := by decide +kernel
theorem aGP_lt {u v : Nat} (hu : u < 61) (hv : v < 61) : aGP u v < 512 := blt_lt (range_all (range_all ckG9_ok hu) hv)
/-- how many numbers a chain has -/
def lnC (u : Nat) : Nat := if cn u 0 = 0 then 0 else if cn u 1 = 0 then 1 else if cn u 2 = 0 then 2 else 3
def mWd (I : zFi) : Prop := ∀ u, u < 61 → I 62 u = (lnC u : Int) ∧ ∀ k, k < 3 → I 63 (4 * u + k) = (cn u k : Int)
theorem lnC_z : ∀ u, u < 61 → lnC u ≤ 3 ∧ ∀ k, k < 3 → lnC u ≤ k → cn u k = 0 := by decide +kernel
theorem cn_le : ∀ u, u < 61 → ∀ k, k < 3 → cn u k ≤ 14 := by decide +kernel
/-- a chain's numbers from number k on, put to work -/
def tck (A : Nat → Nat → Nat) (n u x : Nat) : Nat → Nat
  | 0 => tc A n u x
  | 1 => sap A n (cn u 1) (sap A n (cn u 2) x)
  | 2 => sap A n (cn u 2) x
  | _ + 3 => x
theorem tck_step (A : Nat → Nat → Nat) (n u x : Nat) {k : Nat} (hk : k < 3) : tck A n u x k = sap A n (cn u k) (tck A n u x (k + 1)) := by
  rcases (show k = 0 ∨ k = 1 ∨ k = 2 by omega) with rfl | rfl | rfl <;> rfl
theorem tck_top (A : Nat → Nat → Nat) (n x : Nat) {u : Nat} (hu : u < 61) : tck A n u x (lnC u) = x := by
  obtain ⟨h1, h2⟩ := lnC_z u hu
  have h : ∀ m k : Nat, k + m = 3 → lnC u ≤ k → tck A n u x k = x := by
    intro m
    induction m with
    | zero => intro k hk _; rw [show k = 3 by omega]; rfl
    | succ m ih =>
      intro k hk hl
      rw [tck_step A n u x (by omega), h2 k (by omega) hl, sap_0]
      exact ih (k + 1) (by omega) (by omega)
  exact h (3 - lnC u) (lnC u) (by omega) (Nat.le_refl _)
theorem sap_lt12 {A : Nat → Nat → Nat} {n i x : Nat} (hA : ∀ e i, e < n → 1 ≤ i → A i e < 4096) (hx : x < 4096) : sap A n i x < 4096 := by
  unfold sap
  split
  · exact hx
  · refine xorN_lt (m := 12) (fun e he => ?_)
    split
    · exact hA e i he (by omega)
    · decide
theorem c_X9_goes0 (l : Launch) (D : va_G) (sh : Nat → Option zS) (hs : zWM sh) (F I : zFi) (J : zJi) (hw : mWd I) {n : Nat} {A : Nat → Nat → Nat} {de : Nat → Nat} (hm : RSp F I n A de) (hz : ∀ i e, 12 < i → e < n → A i e = 0) (hJ : ∀ j, J 77 j < 18446744073709551616) {g u x : Nat} {t : Int} (hg : g < 100) (hu : u < 61) (hx : x < 4096) (hgx : J 73 (5 * g) = x) :
    Cn l D yX9_goes wsX9_goes mX9_goes.2.2.2.2 sh [.inr (.inr (some 60)), .inl ((0 : Nat) : Int), .inl (g : Int), .inl (u : Int), .inl t] F I J (fun v F' I' J' => v = none ∧ F' = F ∧ I' = I ∧ J' = zw J 77 0 (J 77 0 ^^^ tc A n u x)) := by
  obtain ⟨cA, h62⟩ := hs.a62
  obtain ⟨cB, h63⟩ := hs.a63
  obtain ⟨cC, h73⟩ := hs.a73
  obtain ⟨cD, h77⟩ := hs.a77
  obtain ⟨w1, w2⟩ := hw u hu
  obtain ⟨l1, l2⟩ := lnC_z u hu
  have hA4 : ∀ e i, e < n → 1 ≤ i → A i e < 4096 := fun e i he hi => by
    by_cases h12 : i ≤ 12
    · exact (hm.2.2.2 e i he hi h12).2
    · rw [hz i e (by omega) he]
      decide
  have tlt : ∀ m k : Nat, k + m = 3 → tck A n u x k < 4096 := by
    intro m
    induction m with
    | zero => intro k hk; rw [show k = 3 by omega]; exact hx
    | succ m ih =>
      intro k hk
      rw [tck_step A n u x (by omega)]
      exact sap_lt12 hA4 (ih (k + 1) (by omega))
  refine zmet (M := mX9_goes) rfl rfl rfl kX9_goes (Nat.le_of_ble_eq_true rfl) (fun X hX hR' hl hD hsh => ?_)
  subst hl hD hsh
  have loop : ∀ k, k ≤ 3 → HW X 34 [some (.inr (.inr (some 60))), some (.inl ((0 : Nat) : Int)), some (.inl (g : Int)), some (.inl (u : Int)), some (.inl t), some (.inl ((5 * g : Nat) : Int)), some (.inl (tck A n u x k : Int)), some (.inl ((k : Int) - 1)), none, none, none, none, none, none, none] [] F I J := by
    intro k
    induction k with
    | zero =>
      intro _
      have ht0 := tlt 3 0 rfl
      refine zgo (fun pc => Nat.beq pc 34) 200 hX hR' rfl ?_
      refine And.intro (fun c1 => ?_) (fun c1 => absurd (by decide) c1)
      refine Exists.intro _ ⟨hs.o, ?_⟩
      refine Exists.intro _ ⟨_, 0, h77, rfl, by decide, ?_⟩
      refine Exists.intro _ ⟨_, 0, h77, rfl, by decide, ?_⟩
      refine And.intro rfl ⟨rfl, rfl, ?_⟩
      show zw J 77 0 (zlxor (J 77 0) (zi2l (tck A n u x 0 : Int))) = _
      rw [zi2l_eq (by omega), zlxor_eq (hJ 0) (by omega)]
      rfl
    | succ k ih =>
      intro hk
      have h := ih (by omega)
      rw [tck_step A n u x (show k < 3 by omega)] at h
      have hp := w2 k (by omega)
      have cA2 := c_X9_acted (xl X) (xD X) (xsh X) hs F I J hm hz (i := cn u k) (x := tck A n u x (k + 1)) (by have := cn_le u hu k (by omega); omega) (tlt (2 - k) (k + 1) (by omega))
      rw [← hp] at cA2
      rw [show ((k + 1 : Nat) : Int) - 1 = (k : Int) by omega]
      refine zgo (fun pc => Nat.beq pc 34) 200 hX hR' rfl ?_
      refine And.intro (fun c1 => by omega) (fun c1 => ?_)
      refine Exists.intro _ ⟨hs.o, ?_⟩
      refine Exists.intro _ ⟨_, 4 * u + k, h63, by omega, by omega, ?_⟩
      refine qX9_goes_163 hX cA2 hs.o (fun v F' I' J' hv => ?_)
      obtain ⟨rfl, rfl, rfl, rfl⟩ := hv
      exact h
  have h0 := loop (lnC u) l1
  rw [tck_top A n x hu, ← w1, ← zl2i_eq (a := x) (by omega)] at h0
  refine zgo (fun pc => Nat.beq pc 34) 200 hX hR' rfl ?_
  refine And.intro (fun c1 => absurd (by decide) c1) (fun c1 => ?_)
  refine Exists.intro _ ⟨hs.o, ?_⟩
  refine Exists.intro _ ⟨_, 5 * g, h73, by omega, by omega, ?_⟩
  rw [hgx]
  refine Exists.intro _ ⟨hs.o, ?_⟩
  refine Exists.intro _ ⟨_, u, h62, rfl, by omega, ?_⟩
  rw [show ((5 * g : Nat) : Int) = 5 * (100 * ((0 : Nat) : Int) + (g : Int)) by omega] at h0
  exact h0
