/-! the reference: balance -/
section RS
variable {Fo Io : zFi} {Jo : zJi} {F I : zFi} {J : zJi} {ℓ : Nat} {c : Nat → Nat} {n : Nat} {A : Nat → Nat → Nat} {de : Nat → Nat} {K : Nat → Int}
theorem c_X9_balance (l : Launch) (D : va_G) (sh : Nat → Option zS) (hs : zWM sh) (h : RSt Fo Io Jo F I J ℓ c n A de K) {t : Int} (h1 : zi32 t) :
    Cn l D yX9_balance wsX9_balance mX9_balance.2.2.2.2 sh [.inr (.inr (some 60)), .inl t] F I J (fun v F' I' J' => RSt Fo Io Jo F' I' J' ℓ c n A de K ∧ (((t < 0 ∨ 14 < t) ∧ v = some (.inl (-1000000))) ∨ ((0 ≤ t ∧ t ≤ 14) ∧ sFault A n ≠ none ∧ v = some (.inl (-2000000))) ∨ ((0 ≤ t ∧ t ≤ 14) ∧ sFault A n = none ∧ ∃ G d gb, TIc A n de 15 G d gb ∧ v = some (.inl (tbt aS d G t 6 - zswi (sod (fun e => (de e : Int)) t n : Int)))))) := by
  refine zmet (M := mX9_balance) rfl rfl rfl kX9_balance (Nat.le_of_ble_eq_true rfl) (fun X hX hR hl hD hsh => ?_)
  subst hl hD hsh
  refine zgo (fun pc => Nat.beq pc 39) 200 hX hR rfl ?_
  refine qX9_balance_122 hX (c_X9_in (xl X) (xD X) (xsh X) F I J (x := t) (lo := 0) (hi := 14) h1 ⟨by omega, by omega⟩ ⟨by omega, by omega⟩) (fun v F' I' J' hv => ?_)
  obtain ⟨rfl, rfl, rfl, rfl⟩ := hv
  refine And.intro (fun c1 => ?_) (fun c1 => ?_)
  · have ht : 0 ≤ t ∧ t ≤ 14 := Decidable.byContradiction fun g => by rw [if_neg g] at c1; exact c1 rfl
    refine qX9_balance_219 hX (c_X9_isSound (xl X) (xD X) (xsh X) hs F' I' J' h.2.2.1.1 h.2.2.1.2.1) hs.o (fun v F2 I2 J2 hv => ?_)
    obtain ⟨rfl, rfl, rfl, rfl⟩ := hv
    have h' := rs_fault h (sFault A n)
    by_cases hz : sFault A n = none
    · rw [if_pos hz]
      refine And.intro (fun c3 => ?_) (fun c3 => absurd c3 (by decide))
      obtain ⟨post, cL, hp⟩ := rs_lay (xl X) (xD X) (xsh X) hs h' hz
      refine qX9_balance_213 hX cL hs.o (fun v F3 I3 J3 hv => ?_)
      obtain ⟨rfl, hly⟩ := hp v F3 I3 J3 hv
      obtain ⟨hr, ⟨G, d, gb, hld⟩, -⟩ := id hly
      have hsl : sod (fun a => (de a : Int)) t n < 4096 := Nat.lt_of_lt_of_le (sod_lt _ _ n) (show 2 ^ n ≤ 2 ^ 12 from Nat.pow_le_pow_right (by decide) hr.2.2.1.1.2.1)
      refine qX9_balance_160 hX (c_X9_ofDegree (xl X) (xD X) (xsh X) hs F3 I3 J3 hr.2.2.1.1 (d := t) h1) hs.o (fun v F4 I4 J4 hv => ?_)
      obtain ⟨rfl, rfl, rfl, rfl⟩ := hv
      refine qX9_balance_136 hX (c_X9_ones (xl X) (xD X) (xsh X) F4 I4 J4 hsl) (fun v F5 I5 J5 hv => ?_)
      obtain ⟨rfl, rfl, rfl, rfl⟩ := hv
      obtain ⟨t', rfl⟩ := Int.eq_ofNat_of_zero_le ht.1
      have loop : ∀ m k : Nat, k + m = 6 → HW X 39 [some (.inr (.inr (some 60))), some (.inl (t' : Int)), some (.inl (-(zpop (sod (fun a => (de a : Int)) (t' : Int) n) 12 : Int) + tbt aS d G (t' : Int) k)), some (.inl (k : Int))] [] F5 I5 J5 := by
        intro m
        induction m with
        | zero =>
          intro k hk
          refine zgo (fun pc => Nat.beq pc 39) 200 hX hR rfl ?_
          refine And.intro (fun c1 => ?_) (fun c1 => by omega)
          refine And.intro hr (Or.inr (Or.inr ⟨ht, hz, G, d, gb, hld.2.1, ?_⟩))
          rw [show k = 6 by omega, zswi_small hsl]
          refine congrArg (fun z : Int => (some (.inl z) : Option zV)) ?_
          omega
        | succ m ih =>
          intro k hk
          have h2 := ih (k + 1) (by omega)
          have cW := c_X9_wide (xl X) (xD X) (xsh X) hs F5 I5 J5 hr.1.1.1 hld.2.2 (s := k) (t := t') (by omega) (by omega)
          have hrem : zrem (k : Int) 2 = ((k % 2 : Nat) : Int) := zrem_eq (d := 2) (by omega) (by decide) (by decide)
          rw [show tbt aS d G (t' : Int) (k + 1) = if k % 2 = 0 then tbt aS d G (t' : Int) k + (flP aS (d k) t' (G k) : Int) else tbt aS d G (t' : Int) k + -(flP aS (d k) t' (G k) : Int) from rfl] at h2
          refine zgo (fun pc => Nat.beq pc 39) 200 hX hR rfl ?_
          refine And.intro (fun c1 => by omega) (fun c1 => ?_)
          refine And.intro (by omega) ?_
          rw [hrem]
          by_cases e : k % 2 = 0
          · rw [if_pos e] at h2
            rw [← Int.add_assoc] at h2
            refine And.intro (fun c2 => by omega) (fun c2 => ?_)
            refine qX9_balance_232 hX cW hs.o (fun v F6 I6 J6 hv => ?_)
            obtain ⟨rfl, rfl, rfl, rfl⟩ := hv
            exact h2
          · rw [if_neg e] at h2
            rw [← Int.add_assoc] at h2
            refine And.intro (fun c2 => ?_) (fun c2 => by omega)
            refine qX9_balance_232 hX cW hs.o (fun v F6 I6 J6 hv => ?_)
            obtain ⟨rfl, rfl, rfl, rfl⟩ := hv
            exact h2
      have l0 := loop 6 0 (by decide)
      rw [show tbt aS d G (t' : Int) 0 = 0 from rfl, Int.add_zero] at l0
      exact l0
    · rw [if_neg hz]
      refine And.intro (fun c3 => absurd rfl c3) (fun c3 => ?_)
      exact And.intro h' (Or.inr (Or.inl ⟨ht, hz, rfl⟩))
  · have ht : ¬ (0 ≤ t ∧ t ≤ 14) := fun g => by rw [if_pos g] at c1; exact absurd c1 (by decide)
    exact And.intro h (Or.inl ⟨by omega, rfl⟩)
end RS
