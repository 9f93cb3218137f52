/-! the reference: what its state becomes -/
def K0 : Nat → Int := fun _ => 0
theorem ccn_0 : ∀ m k : Nat, ccn K0 m k = 0 := by
  intro m
  induction m with
  | zero => intro k; rfl
  | succ m ih => intro k; exact (show (if (0 : Int) < 0 then (1 : Int) else 0) + ccn K0 m (k + 1) = 0 by rw [ih, if_neg (by decide)]; rfl)
/-- acts with one told -/
def acA (A : Nat → Nat → Nat) (i e b : Int) : Nat → Nat → Nat := fun i' e' => if i' = i.toNat ∧ e' = e.toNat then b.toNat else A i' e'
/-- acts with one element more -/
def elA (A : Nat → Nat → Nat) (n : Nat) : Nat → Nat → Nat := fun i e => if e = n then 0 else A i e
theorem ac_lt {A : Nat → Nat → Nat} {n : Nat} {de : Nat → Nat} (hA : SpOK A n de) {i e b : Int} (h : acOK n de i e b) : b.toNat < 4096 ∧ 0 ≤ b := by
  obtain ⟨-, -, x, rfl, hx⟩ := h
  refine ⟨?_, by omega⟩
  rw [Int.toNat_natCast, ← hx]
  have h1 : x &&& sod (fun a => (de a : Int)) ((de e.toNat : Int) + i) n ≤ sod (fun a => (de a : Int)) ((de e.toNat : Int) + i) n := Nat.and_le_right
  have h2 := sod_lt (fun a => (de a : Int)) ((de e.toNat : Int) + i) n
  have h3 : 2 ^ n ≤ 2 ^ 12 := Nat.pow_le_pow_right (by decide) hA.1
  omega
theorem ac_sp {A : Nat → Nat → Nat} {n : Nat} {de : Nat → Nat} (hA : SpOK A n de) {i e b : Int} (h : acOK n de i e b) : SpOK (acA A i e b) n de := by
  refine ⟨hA.1, hA.2.1, fun i' e' hi he a ha => ?_⟩
  unfold acA at ha
  by_cases g : i' = i.toNat ∧ e' = e.toNat
  · rw [if_pos g] at ha
    obtain ⟨h1, h2, x, rfl, hx⟩ := h
    rw [Int.toNat_natCast, ← hx, Nat.testBit_and, sod_bit] at ha
    simp only [Bool.and_eq_true, decide_eq_true_eq] at ha
    obtain ⟨-, q1, q2⟩ := ha
    refine ⟨q1, ?_⟩
    rw [g.1, g.2]
    omega
  · rw [if_neg g] at ha
    exact hA.2.2 i' e' hi he a ha
theorem el_sp {A : Nat → Nat → Nat} {n : Nat} {de : Nat → Nat} (hA : SpOK A n de) (hn : n < 12) {d : Nat} (hd : d ≤ 12) : SpOK (elA A n) (n + 1) (fup de n d) := by
  refine ⟨by omega, fun e he => ?_, fun i e hi he a ha => ?_⟩
  · unfold fup
    split
    · exact hd
    · exact hA.2.1 e (by omega)
  · unfold elA at ha
    by_cases g : e = n
    · rw [if_pos g, Nat.zero_testBit] at ha
      cases ha
    · rw [if_neg g] at ha
      obtain ⟨q1, q2⟩ := hA.2.2 i e hi (by omega) a ha
      refine ⟨by omega, ?_⟩
      unfold fup
      rw [if_neg (by omega), if_neg g]
      exact q2
theorem sp_none {A : Nat → Nat → Nat} {n : Nat} {de : Nat → Nat} (hA : SpOK A n de) : SpOK A 0 de := ⟨by omega, fun e he => by omega, fun i e hi he => by omega⟩
section RS
variable {Fo Io : zFi} {Jo : zJi} {F I : zFi} {J : zJi} {ℓ : Nat} {c : Nat → Nat} {n : Nat} {A : Nat → Nat → Nat} {de : Nat → Nat} {K : Nat → Int}
theorem rs_chg (h0 : Fr Fo Io Jo F I J) (h1 : RTb I) (h2 : RWd F I ℓ c) (h3 : RSp F I n A de) (h3b : ∀ i e, 12 < i → e < n → A i e = 0) (h3c : SpOK A n de) (h4 : RJB J ∧ ∀ j, J 73 j < 18446744073709551616) : RSt Fo Io Jo (chF F) (zfill I 74 0 450 0) J ℓ c n A de K0 := by
  refine ⟨⟨RTb_of h1 (fun a g1 g2 => zfill_r (by omega)), Fr_of h0 (fun a ha => by unfold chF; rw [zu_r (by omega), zu_r (by omega)]) (fun a ha => zfill_r (by omega)) (fun _ _ => rfl)⟩, RWd_of h2 (by unfold chF; rw [zu_n (by decide), zu_n (by decide)]) (zfill_r (by decide)), ⟨RSp_of h3 (by unfold chF; rw [zu_n (by decide), zu_n (by decide)]) (zfill_r (by decide)) (zfill_r (by decide)), h3b, h3c⟩, h4, Or.inl ?_, fun j hj => ?_, fun j => ⟨Int.le_refl 0, (show (0 : Int) ≤ 99 by decide)⟩, ?_⟩
  · unfold chF
    rw [zu_n (by decide), zu_s]
  · unfold zfill
    exact if_pos ⟨rfl, by omega, by omega⟩
  · unfold chF
    rw [zu_s, ccn_0]
theorem rs_square (h : RSt Fo Io Jo F I J ℓ c n A de K) {i : Int} (hi : sqOK ℓ (ns ℓ c) i) : RSt Fo Io Jo (zu F 60 8 ((ℓ : Int) + 1)) (zu I 68 ℓ i) J (ℓ + 1) (fup c ℓ i.toNat) n A de K := by
  obtain ⟨h1, h2, ⟨h3, h3b, h3c⟩, h4, h5, h6, h7, h8⟩ := h
  obtain ⟨i1, i2, i3, i4⟩ := hi
  have hns : ns (ℓ + 1) (fup c ℓ i.toNat) = ns ℓ c + i.toNat := by
    show ns ℓ (fup c ℓ i.toNat) + fup c ℓ i.toNat ℓ = _
    rw [ns_congr (f := fup c ℓ i.toNat) (g := c) (fun k hk => if_neg (by omega)), show fup c ℓ i.toNat ℓ = i.toNat from if_pos rfl]
  refine ⟨⟨RTb_of h1.1 (fun a g1 g2 => zu_r (by omega)), Fr_of h1.2 (fun a ha => zu_r (by omega)) (fun a ha => zu_r (by omega)) (fun _ _ => rfl)⟩, ⟨by rw [zu_s]; omega, by omega, by omega, fun k hk => ?_⟩, ⟨RSp_of h3 (zu_n (by decide)) (zu_r (by decide)) (zu_r (by decide)), h3b, h3c⟩, h4, ?_, fun j hj => by rw [zu_r (by decide)]; exact h6 j hj, h7, by rw [zu_n (by decide)]; exact h8⟩
  · unfold fup
    by_cases e : k = ℓ
    · rw [e, zu_s, if_pos rfl]
      omega
    · rw [zu_n (by omega), if_neg e]
      exact h2.2.2.2 k (by omega)
  · rcases h5 with h5 | ⟨G, d, gb, h5⟩
    · exact Or.inl (by rw [zu_n (by decide)]; exact h5)
    · exact Or.inr ⟨G, d, gb, LD_of h5 (zu_n (by decide)) (zu_r (by decide)) (zu_r (by decide))⟩
theorem rs_clear (h : RSt Fo Io Jo F I J ℓ c n A de K) : RSt Fo Io Jo (zu F 60 8 0) I J 0 c n A de K := by
  obtain ⟨h1, h2, ⟨h3, h3b, h3c⟩, h4, h5, h6, h7, h8⟩ := h
  refine ⟨⟨h1.1, Fr_of h1.2 (fun a ha => zu_r (by omega)) (fun _ _ => rfl) (fun _ _ => rfl)⟩, ⟨zu_s _ _ _ _, by decide, Nat.zero_le _, fun k hk => by omega⟩, ⟨RSp_of h3 (zu_n (by decide)) rfl rfl, h3b, h3c⟩, h4, ?_, h6, h7, by rw [zu_n (by decide)]; exact h8⟩
  rcases h5 with h5 | ⟨G, d, gb, h5⟩
  · exact Or.inl (by rw [zu_n (by decide)]; exact h5)
  · exact Or.inr ⟨G, d, gb, LD_of h5 (zu_n (by decide)) rfl rfl⟩
theorem rs_empty (h : RSt Fo Io Jo F I J ℓ c n A de K) : RSt Fo Io Jo (chF (zu F 60 10 0)) (zfill I 74 0 450 0) J ℓ c 0 A de K0 := by
  obtain ⟨h1, h2, ⟨h3, h3b, h3c⟩, h4, h5, h6⟩ := h
  exact rs_chg (Fr_of h1.2 (fun a ha => zu_r (by omega)) (fun _ _ => rfl) (fun _ _ => rfl)) h1.1 (RWd_of h2 (zu_n (by decide)) rfl) ⟨zu_s _ _ _ _, by decide, fun e he => by omega, fun e i he => by omega⟩ (fun i e _ he => by omega) (sp_none h3c) h4
theorem rs_element (h : RSt Fo Io Jo F I J ℓ c n A de K) (hn : n < 12) {d : Int} (hd : 0 ≤ d ∧ d ≤ 12) : RSt Fo Io Jo (chF (cmF F n)) (zfill (cmI I n d) 74 0 450 0) J ℓ c (n + 1) (elA A n) (fup de n d.toNat) K0 := by
  obtain ⟨h1, h2, ⟨h3, h3b, h3c⟩, h4, h5, h6⟩ := h
  have eI : ∀ a, a ≠ 69 → a ≠ 70 → cmI I n d a = I a := fun a g1 g2 => by
    unfold cmI
    rw [zfill_r g2, zu_r g1]
  refine rs_chg (Fr_of h1.2 (fun a ha => by unfold cmF; rw [zu_r (by omega)]) (fun a ha => eI a (by omega) (by omega)) (fun _ _ => rfl)) (RTb_of h1.1 (fun a g1 g2 => eI a (by omega) (by omega))) (RWd_of h2 (by unfold cmF; rw [zu_n (by decide)]) (eI 68 (by decide) (by decide))) ⟨zu_s _ _ _ _, by omega, fun e he => ?_, fun e i he hi1 hi2 => ?_⟩ (fun i e hi he => ?_) (el_sp h3c hn (by omega)) h4
  · unfold cmI fup
    rw [zfill_r (by decide)]
    by_cases g : e = n
    · rw [g, zu_s, if_pos rfl]
      omega
    · rw [zu_n (by omega), if_neg g]
      exact h3.2.2.1 e (by omega)
  · unfold elA
    by_cases g : e = n
    · rw [if_pos g]
      refine ⟨?_, by decide⟩
      unfold cmI zfill
      rw [if_pos ⟨rfl, by omega, by omega⟩]
      rfl
    · rw [if_neg g]
      have := h3.2.2.2 e i (by omega) hi1 hi2
      unfold cmI zfill
      rw [if_neg (by omega), zu_r (by decide)]
      exact this
  · unfold elA
    split
    · rfl
    · exact h3b i e hi (by omega)
theorem rs_act (h : RSt Fo Io Jo F I J ℓ c n A de K) {i e b : Int} (hb : acOK n de i e b) : RSt Fo Io Jo (chF F) (zfill (zu I 70 (13 * e.toNat + i.toNat) b) 74 0 450 0) J ℓ c n (acA A i e b) de K0 := by
  obtain ⟨h1, h2, ⟨h3, h3b, h3c⟩, h4, h5, h6⟩ := h
  have hlt := ac_lt h3c hb
  have hb1 := hb.1
  have hb2 := hb.2.1
  refine rs_chg (Fr_of h1.2 (fun _ _ => rfl) (fun a ha => zu_r (by omega)) (fun _ _ => rfl)) (RTb_of h1.1 (fun a g1 g2 => zu_r (by omega))) (RWd_of h2 rfl (zu_r (by decide))) ⟨h3.1, h3.2.1, fun e' he => ?_, fun e' i' he hi1 hi2 => ?_⟩ (fun i' e' hi he => ?_) (ac_sp h3c hb) h4
  · rw [zu_r (by decide)]
    exact h3.2.2.1 e' he
  · unfold acA
    by_cases g : i' = i.toNat ∧ e' = e.toNat
    · rw [if_pos g, g.1, g.2, zu_s]
      exact ⟨by omega, hlt.1⟩
    · rw [if_neg g, zu_n (by omega)]
      exact h3.2.2.2 e' i' he hi1 hi2
  · unfold acA
    rw [if_neg (by omega)]
    exact h3b i' e' hi he
end RS
