/-! constructors: Basis -/
def mA0 : zM := (cX0_init, tX0_init, RX0, wsX0_init, { frames := 1, cells := 2, slots := 199, locals := 21 })
theorem kA0 : mA0.2.1.all (fun r => zok mA0 r && zrt none r.2.1) = true := by decide +kernel
def bfits (w2 w3 : Nat) (dbl : Bool) (n a b : Nat) : Bool := Nat.ble (a + w2 * b) n && (Nat.beq ((n - a - w2 * b) % w3) 0 && (!dbl || (Nat.ble (2 * b) a && Nat.ble (2 * ((n - a - w2 * b) / w3)) b)))
def bfb (w2 w3 : Nat) (dbl : Bool) (n a : Nat) : Nat → Nat
  | 0 => 0
  | b + 1 => bfb w2 w3 dbl n a b + match bfits w2 w3 dbl n a b with
    | true => 1
    | false => 0
def bfa (w2 w3 : Nat) (dbl : Bool) (n : Nat) : Nat → Nat
  | 0 => 0
  | a + 1 => bfa w2 w3 dbl n a + bfb w2 w3 dbl n a (n + 1)
def bfn (w2 w3 : Nat) (dbl : Bool) : Nat → Nat
  | 0 => 0
  | n + 1 => bfn w2 w3 dbl n + bfa w2 w3 dbl n (n + 1)
def bcn (w2 w3 : Nat) (dbl : Bool) (n a b : Nat) : Nat := bfn w2 w3 dbl n + bfa w2 w3 dbl n a + bfb w2 w3 dbl n a b
def bchk (w2 w3 : Nat) (dbl : Bool) (N S : Nat → Nat) : Bool := ((List.range 15).all fun n => (List.range (n + 1)).all fun a => (List.range (n + 1)).all fun b => !bfits w2 w3 dbl n a b || (fun t => Nat.blt t 61 && (Nat.beq (N (t * 3)) a && (Nat.beq (N (t * 3 + 1)) b && Nat.beq (N (t * 3 + 2)) ((n - a - w2 * b) / w3)))) (bcn w2 w3 dbl n a b)) && ((List.range 16).all (fun n => Nat.beq (bfn w2 w3 dbl n) (S n)) && Nat.beq (bfn w2 w3 dbl 15) 61)
theorem bchk_a : bchk 1 1 true aN aS = true := by decide +kernel
theorem bchk_m : bchk 3 7 false mN aS = true := by decide +kernel
theorem bfb_stop {w2 w3 : Nat} {dbl : Bool} {n a b : Nat} (h : n < a + w2 * b) : ∀ k, bfb w2 w3 dbl n a (b + k) = bfb w2 w3 dbl n a b := by
  intro k
  induction k with
  | zero => rfl
  | succ k ih =>
    have e : bfits w2 w3 dbl n a (b + k) = false := by
      have : Nat.ble (a + w2 * (b + k)) n = false := by
        have h1 : w2 * b ≤ w2 * (b + k) := Nat.mul_le_mul_left _ (by omega)
        cases hb : Nat.ble (a + w2 * (b + k)) n with
        | false => rfl
        | true => exact absurd (Nat.le_of_ble_eq_true hb) (by omega)
      unfold bfits
      rw [this]
      rfl
    show bfb w2 w3 dbl n a (b + k) + (match bfits w2 w3 dbl n a (b + k) with | true => 1 | false => 0) = _
    rw [e]
    exact ih
theorem bchk_at {w2 w3 : Nat} {dbl : Bool} {N S : Nat → Nat} (h : bchk w2 w3 dbl N S = true) : (∀ n a b, n < 15 → a ≤ n → b ≤ n → bfits w2 w3 dbl n a b = true → bcn w2 w3 dbl n a b < 61 ∧ N (bcn w2 w3 dbl n a b * 3) = a ∧ N (bcn w2 w3 dbl n a b * 3 + 1) = b ∧ N (bcn w2 w3 dbl n a b * 3 + 2) = (n - a - w2 * b) / w3) ∧ (∀ n, n < 16 → bfn w2 w3 dbl n = S n) ∧ bfn w2 w3 dbl 15 = 61 := by
  unfold bchk at h
  simp only [Bool.and_eq_true] at h
  obtain ⟨h1, h2, h3⟩ := h
  refine ⟨fun n a b hn ha hb hf => ?_, fun n hn => Nat.eq_of_beq_eq_true (List.all_eq_true.mp h2 n (List.mem_range.mpr hn)), Nat.eq_of_beq_eq_true h3⟩
  have := List.all_eq_true.mp (List.all_eq_true.mp (List.all_eq_true.mp h1 n (List.mem_range.mpr hn)) a (List.mem_range.mpr (by omega))) b (List.mem_range.mpr (by omega))
  rw [hf] at this
  simp only [Bool.not_true, Bool.false_or, Bool.and_eq_true] at this
  exact ⟨Nat.le_of_ble_eq_true this.1, Nat.eq_of_beq_eq_true this.2.1, Nat.eq_of_beq_eq_true this.2.2.1, Nat.eq_of_beq_eq_true this.2.2.2⟩
/-- the tables as far as they are filled -/
def bIv (I I' : zFi) (nu st : Nat) (N S : Nat → Nat) (t n : Nat) : Prop := (∀ j, j < 183 → I' nu j = if j < t * 3 then (N j : Int) else 0) ∧ (∀ j, j < n → I' st j = (S j : Int)) ∧ ∀ a, a ≠ nu → a ≠ st → I' a = I a
theorem bIv.put {I I' : zFi} {nu st : Nat} {N S : Nat → Nat} {t n a b c : Nat} (hne : nu ≠ st) (h : bIv I I' nu st N S t n) (h1 : N (t * 3) = a) (h2 : N (t * 3 + 1) = b) (h3 : N (t * 3 + 2) = c) : bIv I (zu (zu (zu I' nu (t * 3) (a : Int)) nu (t * 3 + 1) (b : Int)) nu (t * 3 + 2) (c : Int)) nu st N S (t + 1) n := by
  obtain ⟨g1, g2, g3⟩ := h
  refine ⟨fun j hj => ?_, fun j hj => ?_, fun x hx hx2 => ?_⟩
  · by_cases e1 : j = t * 3 + 2
    · subst e1
      rw [zu_s, if_pos (by omega), h3]
    · rw [zu_n (by omega)]
      by_cases e2 : j = t * 3 + 1
      · subst e2
        rw [zu_s, if_pos (by omega), h2]
      · rw [zu_n (by omega)]
        by_cases e3 : j = t * 3
        · subst e3
          rw [zu_s, if_pos (by omega), h1]
        · rw [zu_n (by omega), g1 j hj]
          by_cases e4 : j < t * 3
          · rw [if_pos e4, if_pos (by omega)]
          · rw [if_neg e4, if_neg (by omega)]
  · rw [zu_r hne.symm, zu_r hne.symm, zu_r hne.symm]
    exact g2 j hj
  · rw [zu_r hx, zu_r hx, zu_r hx]
    exact g3 x hx hx2
set_option maxHeartbeats 4000000 in
theorem c_X0_init (l : Launch) (D : va_G) (sh : zSh) (F I : zFi) (J : zJi) {q nu st w2 w3 : Nat} {dbl : Bool} {N S : Nat → Nat} (hq : sh q = some (.inl (0, [some none, some none]))) (hnu : sh nu = none) (hst : sh st = none) (hne : nu ≠ st) (hcl : zCl sh) (h2 : 1 ≤ w2 ∧ w2 ≤ 3) (h3 : 1 ≤ w3 ∧ w3 ≤ 7) (hchk : bchk w2 w3 dbl N S = true) :
    CnA l D yX0_init wsX0_init mA0.2.2.2.2 sh (fun k => decide (k = nu) || decide (k = st)) [.inr (.inr (some q)), .inl (w2 : Int), .inl (w3 : Int), .inl (if dbl = true then 1 else 0)] F I J 2 199 (fun sh' F' I' J' => ((∀ k, k ≠ q → k ≠ nu → k ≠ st → sh' k = sh k) ∧ zsBas sh' q nu st) ∧ F' = F ∧ J' = J ∧ (∀ a, a ≠ nu → a ≠ st → I' a = I a) ∧ (∀ j, j < 183 → I' nu j = (N j : Int)) ∧ ∀ j, j < 16 → I' st j = (S j : Int)) := by
  have hqn : q ≠ nu := fun z => by rw [z, hnu] at hq; cases hq
  have hqs : q ≠ st := fun z => by rw [z, hst] at hq; cases hq
  obtain ⟨k1, k2, k3⟩ := bchk_at hchk
  refine zmetA (M := mA0) rfl rfl rfl rfl kA0 (Nat.le_of_ble_eq_true rfl) hcl (fun X hZ hRA hin hl hD hsh hk hn => ?_)
  subst hl hD
  show HW X 0 [some (.inr (.inr (some q))), some (.inl (w2 : Int)), some (.inl (w3 : Int)), some (.inl (if dbl = true then 1 else 0)), none, none, none, none, none, none] [] F I J
  refine zgo (fun pc => Nat.beq pc 1) 200 hZ.1 zr0 rfl ?_
  refine hw_objInit hZ.1 (zat_mem rfl) (by decide +kernel) (by decide +kernel) (by decide +kernel) (Nat.le_of_ble_eq_true rfl) ⟨by decide, by decide⟩ ?_
  refine zgo (fun pc => Nat.beq pc 8) 200 hZ.1 zr0 rfl ?_
  refine hw_newI (q := nu) (N := 183) hZ (by decide +kernel) (by decide +kernel) rfl (by omega) (by rw [hsh]; exact hnu) (by simp) (by simp [zlf, zvf, hqn]) (by simp [zvf, hqn]) (by rw [hk]; decide) (by rw [hn]; decide) (fun X1 c1 hZ1 hs1 hk1 hn1 => ?_)
  refine hw_putref (idx := 9) (ci := 0) (j := 0) (y := none) hZ1 hin (by decide +kernel) (by decide +kernel) (by rw [hs1, zsu_n hqn, hsh]; exact hq) rfl (by rw [hs1]; exact sne (zsu_s _ _ _)) (fun X2 hZ2 hs2 hk2 hn2 => ?_)
  refine zgo (fun pc => Nat.beq pc 16) 200 hZ2.1 zr0 rfl ?_
  refine hw_newI (q := st) (N := 16) hZ2 (by decide +kernel) (by decide +kernel) rfl (by omega) (by rw [hs2, zsu_n hqs.symm, hs1, zsu_n hne.symm, hsh]; exact hst) (by simp) (by simp [zlf, zvf, hqs]) (by simp [zvf, hqs]) (by rw [hk2, hk1, hk]; decide) (by rw [hn2, hn1, hn]; decide) (fun X3 c3 hZ3 hs3 hk3 hn3 => ?_)
  refine hw_putref (idx := 15) (ci := 0) (j := 1) (y := none) hZ3 hin (by decide +kernel) (by decide +kernel) (by rw [hs3, zsu_n hqs, hs2]; exact zsu_s _ _ _) rfl (by rw [hs3]; exact sne (zsu_s _ _ _)) (fun X4 hZ4 hs4 hk4 hn4 => ?_)
  have h4q : xsh X4 q = some (.inl (0, [some (some nu), some (some st)])) := by rw [hs4]; exact zsu_s _ _ _
  have h4n : xsh X4 nu = some (.inr (.inl (c1, 183))) := by rw [hs4, zsu_n hqn.symm, hs3, zsu_n hne, hs2, zsu_n hqn.symm, hs1]; exact zsu_s _ _ _
  have h4s : xsh X4 st = some (.inr (.inl (c3, 16))) := by rw [hs4, zsu_n hqs.symm, hs3]; exact zsu_s _ _ _
  have hsh4 : ∀ k, k ≠ q → k ≠ nu → k ≠ st → xsh X4 k = sh k := fun k a1 a2 a3 => by rw [hs4, zsu_n a1, hs3, zsu_n a3, hs2, zsu_n a1, hs1, zsu_n a2, hsh]
  have hR := hRA.zr hZ4 (by omega) (by omega)
  have hX4 := hZ4.1
  have hdz : (dbl = true ∧ (if dbl = true then (1 : Int) else 0) = 1) ∨ (dbl = false ∧ (if dbl = true then (1 : Int) else 0) = 0) := by cases dbl <;> simp
  generalize hdzz : (if dbl = true then (1 : Int) else 0) = dz at hdz ⊢
  -- over the second numbers
  have loopB : ∀ n a : Nat, n < 15 → a ≤ n → ∀ (m b : Nat) (I' : zFi), b + m = n + 1 → bIv I I' nu st N S (bcn w2 w3 dbl n a b) (n + 1) → (∀ I2, bIv I I2 nu st N S (bcn w2 w3 dbl n (a + 1) 0) (n + 1) → HW X4 46 [some (.inr (.inr (some q))), some (.inl (w2 : Int)), some (.inl (w3 : Int)), some (.inl dz), some (.inl (bcn w2 w3 dbl n (a + 1) 0 : Int)), some (.inl (n : Int)), some (.inl ((a + 1 : Nat) : Int)), none, none, none] [] F I2 J) →
      HW X4 56 [some (.inr (.inr (some q))), some (.inl (w2 : Int)), some (.inl (w3 : Int)), some (.inl dz), some (.inl (bcn w2 w3 dbl n a b : Int)), some (.inl (n : Int)), some (.inl (a : Int)), some (.inl (b : Int)), none, none] [] F I' J := by
    intro n a hn15 han m
    induction m with
    | zero =>
      intro b I' hb hI hk'
      have hwb : b ≤ w2 * b := Nat.le_mul_of_pos_left b h2.1
      have hwb2 : w2 * b ≤ 3 * 15 := Nat.mul_le_mul h2.2 (by omega)
      have hst' := bfb_stop (w2 := w2) (w3 := w3) (dbl := dbl) (n := n) (a := a) (b := b) (by omega) (n + 1 - b)
      have he : bcn w2 w3 dbl n a b = bcn w2 w3 dbl n (a + 1) 0 := by
        show bfn w2 w3 dbl n + bfa w2 w3 dbl n a + bfb w2 w3 dbl n a b = bfn w2 w3 dbl n + (bfa w2 w3 dbl n a + bfb w2 w3 dbl n a (n + 1)) + 0
        rw [show n + 1 = b + (n + 1 - b) by omega, hst']
        omega
      refine zgo (fun pc => Nat.beq pc 46) 200 hX4 hR rfl ?_
      refine And.intro (fun c1 => ?_) (fun c1 => by omega)
      rw [he] at hI ⊢
      exact hw_weak (ls' := [some (.inr (.inr (some q))), some (.inl (w2 : Int)), some (.inl (w3 : Int)), some (.inl dz), some (.inl (bcn w2 w3 dbl n (a + 1) 0 : Int)), some (.inl (n : Int)), some (.inl ((a + 1 : Nat) : Int)), none, none, none]) ⟨rfl, rfl, rfl, rfl, rfl, rfl, rfl, trivial⟩ (hk' I' hI)
    | succ m ih =>
      intro b I' hb hI hk'
      have hwb : b ≤ w2 * b := Nat.le_mul_of_pos_left b h2.1
      have hwb2 : w2 * b ≤ 3 * 15 := Nat.mul_le_mul h2.2 (by omega)
      by_cases hgo : n < a + w2 * b
      · have hst' := bfb_stop (w2 := w2) (w3 := w3) (dbl := dbl) (n := n) (a := a) (b := b) hgo (n + 1 - b)
        have he : bcn w2 w3 dbl n a b = bcn w2 w3 dbl n (a + 1) 0 := by
          show bfn w2 w3 dbl n + bfa w2 w3 dbl n a + bfb w2 w3 dbl n a b = bfn w2 w3 dbl n + (bfa w2 w3 dbl n a + bfb w2 w3 dbl n a (n + 1)) + 0
          rw [show n + 1 = b + (n + 1 - b) by omega, hst']
          omega
        refine zgo (fun pc => Nat.beq pc 46) 200 hX4 hR rfl ?_
        refine And.intro (fun c1 => ?_) (fun c1 => by omega)
        rw [he] at hI ⊢
        exact hw_weak (ls' := [some (.inr (.inr (some q))), some (.inl (w2 : Int)), some (.inl (w3 : Int)), some (.inl dz), some (.inl (bcn w2 w3 dbl n (a + 1) 0 : Int)), some (.inl (n : Int)), some (.inl ((a + 1 : Nat) : Int)), none, none, none]) ⟨rfl, rfl, rfl, rfl, rfl, rfl, rfl, trivial⟩ (hk' I' hI)
      · have hble : Nat.ble (a + w2 * b) n = true := Nat.ble_eq.mpr (by omega)
        -- the next one
        have next : ∀ (t : Nat) (I2 : zFi), t = bcn w2 w3 dbl n a (b + 1) → bIv I I2 nu st N S t (n + 1) → HW X4 170 [some (.inr (.inr (some q))), some (.inl (w2 : Int)), some (.inl (w3 : Int)), some (.inl dz), some (.inl (t : Int)), some (.inl (n : Int)), some (.inl (a : Int)), some (.inl (b : Int)), none, none] [] F I2 J := by
          intro t I2 et hI2
          subst et
          refine zgo (fun pc => Nat.beq pc 56) 200 hX4 hR rfl ?_
          exact ih (b + 1) I2 (by omega) hI2 hk'
        have hcb : bcn w2 w3 dbl n a (b + 1) = bcn w2 w3 dbl n a b + (match bfits w2 w3 dbl n a b with | true => 1 | false => 0) := by
          show bfn w2 w3 dbl n + bfa w2 w3 dbl n a + (bfb w2 w3 dbl n a b + _) = _
          unfold bcn
          omega
        have no : ∀ x : Int, bfits w2 w3 dbl n a b = false → HW X4 115 [some (.inr (.inr (some q))), some (.inl (w2 : Int)), some (.inl (w3 : Int)), some (.inl dz), some (.inl (bcn w2 w3 dbl n a b : Int)), some (.inl (n : Int)), some (.inl (a : Int)), some (.inl (b : Int)), some (.inl x), none] [] F I' J := by
          intro x hf
          rw [hf] at hcb
          refine zgo (fun pc => Nat.beq pc 170) 200 hX4 hR rfl ?_
          refine And.intro (fun c1 => ?_) (fun c1 => absurd rfl c1)
          exact hw_weak (ls' := [some (.inr (.inr (some q))), some (.inl (w2 : Int)), some (.inl (w3 : Int)), some (.inl dz), some (.inl (bcn w2 w3 dbl n a b : Int)), some (.inl (n : Int)), some (.inl (a : Int)), some (.inl (b : Int)), none, none]) ⟨rfl, rfl, rfl, rfl, rfl, rfl, rfl, rfl, trivial⟩ (next _ I' hcb.symm hI)
        have yes : ∀ x : Int, x = (((n - a - w2 * b) / w3 : Nat) : Int) → bfits w2 w3 dbl n a b = true → HW X4 111 [some (.inr (.inr (some q))), some (.inl (w2 : Int)), some (.inl (w3 : Int)), some (.inl dz), some (.inl (bcn w2 w3 dbl n a b : Int)), some (.inl (n : Int)), some (.inl (a : Int)), some (.inl (b : Int)), some (.inl x), none] [] F I' J := by
          intro x hx hf
          obtain ⟨t1, t2, t3, t4⟩ := k1 n a b hn15 han (by omega) hf
          rw [hf] at hcb
          subst hx
          refine zgo (fun pc => Nat.beq pc 170) 200 hX4 hR rfl ?_
          refine And.intro (fun c1 => absurd c1 (by decide)) (fun c1 => ?_)
          refine And.intro (fun c2 => by omega) (fun c2 => ?_)
          refine Exists.intro _ ⟨h4q, ?_⟩
          refine Exists.intro _ ⟨_, bcn w2 w3 dbl n a b * 3, h4n, by omega, by omega, ?_⟩
          refine Exists.intro _ ⟨h4q, ?_⟩
          refine Exists.intro _ ⟨_, bcn w2 w3 dbl n a b * 3 + 1, h4n, by omega, by omega, ?_⟩
          refine Exists.intro _ ⟨h4q, ?_⟩
          refine Exists.intro _ ⟨_, bcn w2 w3 dbl n a b * 3 + 2, h4n, by omega, by omega, ?_⟩
          have h9 := next _ _ hcb.symm (hI.put hne t2 t3 t4)
          exact hw_weak (ls' := [some (.inr (.inr (some q))), some (.inl (w2 : Int)), some (.inl (w3 : Int)), some (.inl dz), some (.inl ((bcn w2 w3 dbl n a b + 1 : Nat) : Int)), some (.inl (n : Int)), some (.inl (a : Int)), some (.inl (b : Int)), none, none]) ⟨rfl, rfl, rfl, rfl, rfl, rfl, rfl, rfl, trivial⟩ h9
        refine zgo (fun pc => Nat.beq pc 79) 200 hX4 hR rfl ?_
        refine And.intro (fun c1 => by omega) (fun c1 => ?_)
        have cS := c_X0_share (xl X4) (xD X4) (xsh X4) F I' J (r := n - a - w2 * b) (w := w3) (by omega) (by omega) (by omega)
        rw [show ((n - a - w2 * b : Nat) : Int) = (n : Int) - (a : Int) - (w2 : Int) * (b : Int) by omega] at cS
        refine hw_callS (nA := 2) (maxL := 2) (As := [.inl ((n : Int) - (a : Int) - (w2 : Int) * (b : Int)), .inl (w3 : Int)]) (st := []) hX4 (zat_mem rfl) cS gX0_init_X0_share rfl ⟨rfl, rfl⟩ ⟨by decide, by decide, by decide +kernel⟩ rfl ⟨Nat.le_of_ble_eq_true rfl, Nat.le_of_ble_eq_true rfl⟩ hX4.2.2.2.2.2.2.1.2 (Nat.le_of_ble_eq_true rfl) (fun v F' I2 J' hv => ?_)
        obtain ⟨rfl, rfl, rfl, rfl⟩ := hv
        have hff : bfits w2 w3 dbl n a b = (Nat.beq ((n - a - w2 * b) % w3) 0 && (!dbl || (Nat.ble (2 * b) a && Nat.ble (2 * ((n - a - w2 * b) / w3)) b))) := by
          unfold bfits
          rw [hble]
          rfl
        by_cases hm : (n - a - w2 * b) % w3 = 0
        · rw [if_pos hm]
          have hd : (n - a - w2 * b) / w3 ≤ n - a - w2 * b := Nat.div_le_self _ _
          rw [show Nat.beq ((n - a - w2 * b) % w3) 0 = true by rw [hm]; rfl, Bool.true_and] at hff
          obtain ⟨cc, hcc⟩ : ∃ cc, (n - a - w2 * b) / w3 = cc := ⟨_, rfl⟩
          rw [hcc] at hff hd ⊢
          refine zgo (fun pc => Nat.beq pc 115 || Nat.beq pc 111) 200 hX4 hR rfl ?_
          refine And.intro (fun c2 => by omega) (fun c2 => ?_)
          rcases hdz with ⟨hd1, hd2⟩ | ⟨hd1, hd2⟩
          · refine And.intro (fun c3 => by omega) (fun c3 => ?_)
            refine And.intro (fun c4 => ?_) (fun c4 => ?_)
            · refine no _ ?_
              rw [hff, hd1]
              cases hb1 : Nat.ble (2 * b) a with
              | false => rfl
              | true => exact absurd (Nat.le_of_ble_eq_true hb1) (by omega)
            · have hb1 : Nat.ble (2 * b) a = true := Nat.ble_eq.mpr (by omega)
              refine And.intro (fun c5 => ?_) (fun c5 => ?_)
              · refine no _ ?_
                rw [hff, hd1, hb1]
                cases hb2 : Nat.ble (2 * cc) b with
                | false => rfl
                | true => exact absurd (Nat.le_of_ble_eq_true hb2) (by omega)
              · refine yes _ (by rw [hcc]) ?_
                rw [hff, hd1, hb1, Nat.ble_eq.mpr (by omega)]
                rfl
          · refine And.intro (fun c3 => ?_) (fun c3 => by omega)
            exact yes _ (by rw [hcc]) (by rw [hff, hd1]; rfl)
        · rw [if_neg hm]
          refine zgo (fun pc => Nat.beq pc 115 || Nat.beq pc 111) 200 hX4 hR rfl ?_
          refine And.intro (fun c2 => ?_) (fun c2 => by omega)
          refine no _ ?_
          rw [hff, show Nat.beq ((n - a - w2 * b) % w3) 0 = false from nbn hm]
          rfl
  -- over the first numbers
  have loopA : ∀ n : Nat, n < 15 → ∀ (m a : Nat) (I' : zFi), a + m = n + 1 → bIv I I' nu st N S (bcn w2 w3 dbl n a 0) (n + 1) → (∀ I2, bIv I I2 nu st N S (bfn w2 w3 dbl (n + 1)) (n + 1) → HW X4 27 [some (.inr (.inr (some q))), some (.inl (w2 : Int)), some (.inl (w3 : Int)), some (.inl dz), some (.inl (bfn w2 w3 dbl (n + 1) : Int)), some (.inl ((n + 1 : Nat) : Int)), none, none, none, none] [] F I2 J) →
      HW X4 46 [some (.inr (.inr (some q))), some (.inl (w2 : Int)), some (.inl (w3 : Int)), some (.inl dz), some (.inl (bcn w2 w3 dbl n a 0 : Int)), some (.inl (n : Int)), some (.inl (a : Int)), none, none, none] [] F I' J := by
    intro n hn15 m
    induction m with
    | zero =>
      intro a I' ha hI hk'
      obtain rfl : a = n + 1 := by omega
      refine zgo (fun pc => Nat.beq pc 27) 200 hX4 hR rfl ?_
      refine And.intro (fun c1 => ?_) (fun c1 => by omega)
      exact hw_weak (ls' := [some (.inr (.inr (some q))), some (.inl (w2 : Int)), some (.inl (w3 : Int)), some (.inl dz), some (.inl (bfn w2 w3 dbl (n + 1) : Int)), some (.inl ((n + 1 : Nat) : Int)), none, none, none, none]) ⟨rfl, rfl, rfl, rfl, rfl, rfl, trivial⟩ (hk' I' hI)
    | succ m ih =>
      intro a I' ha hI hk'
      refine zgo (fun pc => Nat.beq pc 56) 200 hX4 hR rfl ?_
      refine And.intro (fun c1 => by omega) (fun c1 => ?_)
      exact loopB n a hn15 (by omega) (n + 1) 0 I' (by omega) hI (fun I2 hI2 => ih (a + 1) I2 (by omega) hI2 hk')
  -- over the degrees
  have loopN : ∀ (m n : Nat) (I' : zFi), n + m = 15 → bIv I I' nu st N S (bfn w2 w3 dbl n) n → HW X4 27 [some (.inr (.inr (some q))), some (.inl (w2 : Int)), some (.inl (w3 : Int)), some (.inl dz), some (.inl (bfn w2 w3 dbl n : Int)), some (.inl (n : Int)), none, none, none, none] [] F I' J := by
    intro m
    induction m with
    | zero =>
      intro n I' hn' hI
      obtain rfl : n = 15 := by omega
      refine zgo (fun _ => false) 200 hX4 hR rfl ?_
      refine And.intro (fun g1 => ?_) (fun g1 => by omega)
      refine Exists.intro _ ⟨h4q, ?_⟩
      refine Exists.intro _ ⟨_, 15, h4s, rfl, by decide, ?_⟩
      obtain ⟨i1, i2, i3⟩ := hI
      refine ⟨rfl, ⟨hsh4, h4q, ⟨c1, h4n⟩, ⟨c3, h4s⟩⟩, rfl, rfl, fun a a1 a2 => ?_, fun j hj => ?_, fun j hj => ?_⟩
      · rw [zu_r a2]
        exact i3 a a1 a2
      · rw [zu_r hne, i1 j hj, k3, if_pos (by omega)]
      · by_cases e : j = 15
        · subst e
          rw [zu_s, k2 15 (by decide)]
        · rw [zu_n (by omega)]
          exact i2 j (by omega)
    | succ m ih =>
      intro n I' hn' hI
      refine zgo (fun pc => Nat.beq pc 46) 200 hX4 hR rfl ?_
      refine And.intro (fun c1 => by omega) (fun c1 => ?_)
      refine Exists.intro _ ⟨h4q, ?_⟩
      refine Exists.intro _ ⟨_, n, h4s, rfl, by omega, ?_⟩
      have hI2 : bIv I (zu I' st n (bfn w2 w3 dbl n : Int)) nu st N S (bfn w2 w3 dbl n) (n + 1) := by
        obtain ⟨i1, i2, i3⟩ := hI
        refine ⟨fun j hj => ?_, fun j hj => ?_, fun a a1 a2 => ?_⟩
        · rw [zu_r hne]
          exact i1 j hj
        · by_cases e : j = n
          · subst e
            rw [zu_s, k2 j (by omega)]
          · rw [zu_n (by omega)]
            exact i2 j (by omega)
        · rw [zu_r a2]
          exact i3 a a1 a2
      exact loopA n (by omega) (n + 1) 0 _ (by omega) hI2 (fun I2 h9 => ih (n + 1) I2 (by omega) h9)
  refine zgo (fun pc => Nat.beq pc 27) 200 hX4 hR rfl ?_
  refine loopN 15 0 _ rfl ⟨fun j hj => ?_, fun j hj => by omega, fun a a1 a2 => ?_⟩
  · rw [zfz_r hne, zfz_s]
    have h00 : bfn w2 w3 dbl 0 = 0 := rfl
    rw [if_neg (by omega)]
  · rw [zfz_r a2, zfz_r a1]
