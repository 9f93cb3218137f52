/-! the reference: placeOf, restOf, rowAt, degreeOf; squares over a table that is filled in part -/
def pmt (i b u : Nat) : Bool := Nat.beq (lnC u) (lnC b + 1) && (Nat.beq (cn u 0) i && (List.range 3).all fun k => !Nat.blt k (lnC b) || Nat.beq (cn u (k + 1)) (cn b k))
def plf (n i b : Nat) : Nat → Nat → Nat
  | 0, _ => 0
  | f + 1, u => match pmt i b u with
    | true => u - aS n
    | false => plf n i b f (u + 1)
def plc (n i b : Nat) : Nat := plf n i b (aS (n + 1) - aS n) (aS n)
theorem pmt_iff {i b u : Nat} (hb : lnC b ≤ 3) : pmt i b u = true ↔ lnC u = lnC b + 1 ∧ cn u 0 = i ∧ ∀ k, k < lnC b → cn u (k + 1) = cn b k := by
  unfold pmt
  simp only [Bool.and_eq_true, bq_iff, List.all_eq_true, List.mem_range, Bool.or_eq_true, Bool.not_eq_true']
  refine and_congr Iff.rfl (and_congr Iff.rfl ⟨fun h k hk => ?_, fun h k hk => ?_⟩)
  · rcases h k (by omega) with h9 | h9
    · rw [bl_iff.mpr hk] at h9
      cases h9
    · exact h9
  · by_cases hkl : k < lnC b
    · exact Or.inr (h k hkl)
    · refine Or.inl ?_
      cases hb9 : Nat.blt k (lnC b) with
      | false => rfl
      | true => exact absurd (bl_iff.mp hb9) hkl
section REF
variable {F I : zFi} {J : zJi}
set_option maxHeartbeats 1000000 in
theorem c_X9_placeOf (l : Launch) (D : va_G) (sh : Nat → Option zS) (hs : zWM sh) (F I : zFi) (J : zJi) (hb : mBg I) (hw : mWd I) {n i b : Nat} (hn : n ≤ 14) (hi : i ≤ 100) (hb61 : b < 61) :
    Cn l D yX9_placeOf wsX9_placeOf mX9_placeOf.2.2.2.2 sh [.inr (.inr (some 60)), .inl (n : Int), .inl (i : Int), .inl (b : Int), .inl 0] F I J (zself F I J (.inl (plc n i b : Int))) := by
  obtain ⟨c61, s61⟩ := hs.a61
  obtain ⟨c62, s62⟩ := hs.a62
  obtain ⟨c63, s63⟩ := hs.a63
  have hr := dg_range hn
  have hlb := lnC_3 b
  have e0 := hb n (by omega)
  have e1 := hb (n + 1) (by omega)
  have eb := (hw b hb61).1
  refine zmet (M := mX9_placeOf) rfl rfl rfl kX9_placeOf (Nat.le_of_ble_eq_true rfl) (fun X hX hR hl hD hsh => ?_)
  subst hl hD hsh
  have loopU : ∀ m u : Nat, aS n ≤ u → u + m = aS (n + 1) → HW X 8 [some (.inr (.inr (some 60))), some (.inl (n : Int)), some (.inl (i : Int)), some (.inl (b : Int)), some (.inl 0), some (.inl (u : Int)), none, none] [] F I J ∨ plf n i b m u ≠ plc n i b := by
    intro m
    induction m with
    | zero =>
      intro u hu hum
      by_cases hp : plf n i b 0 u = plc n i b
      · refine Or.inl ?_
        refine zgo (fun pc => Nat.beq pc 66) 200 hX hR rfl ?_
        refine Exists.intro _ ⟨hs.o, ?_⟩
        refine Exists.intro _ ⟨_, n + 1, s61, by omega, by omega, ?_⟩
        rw [e1]
        refine And.intro (fun c1 => ?_) (fun c1 => by omega)
        exact And.intro (by rw [← hp]; rfl) ⟨rfl, rfl, rfl⟩
      · exact Or.inr hp
    | succ m ih =>
      intro u hu hum
      by_cases hp : plf n i b (m + 1) u = plc n i b
      · refine Or.inl ?_
        have hu61 : u < 61 := by omega
        have hlu := lnC_3 u
        obtain ⟨eu, eu2⟩ := hw u hu61
        have hun : plf n i b (m + 1) u = match pmt i b u with | true => u - aS n | false => plf n i b m (u + 1) := rfl
        have no : pmt i b u = false → ∀ k : Nat, HW X 126 [some (.inr (.inr (some 60))), some (.inl (n : Int)), some (.inl (i : Int)), some (.inl (b : Int)), some (.inl 0), some (.inl (u : Int)), some (.inl 0), some (.inl (k : Int))] [] F I J := fun hf k => by
          rw [hf] at hun
          have h9 := (ih (u + 1) (by omega) (by omega)).resolve_right (fun z => z (hun.symm.trans hp))
          refine zgo (fun pc => Nat.beq pc 8) 200 hX hR rfl ?_
          refine And.intro (fun c1 => ?_) (fun c1 => absurd rfl c1)
          exact hw_weak (ls' := [some (.inr (.inr (some 60))), some (.inl (n : Int)), some (.inl (i : Int)), some (.inl (b : Int)), some (.inl 0), some (.inl ((u + 1 : Nat) : Int)), none, none]) ⟨rfl, rfl, rfl, rfl, rfl, rfl, trivial⟩ h9
        have out0 : pmt i b u = false → ∀ k : Nat, k ≤ 3 → HW X 66 [some (.inr (.inr (some 60))), some (.inl (n : Int)), some (.inl (i : Int)), some (.inl (b : Int)), some (.inl 0), some (.inl (u : Int)), some (.inl 0), some (.inl (k : Int))] [] F I J := fun hf k hk => by
          have n9 := no hf k
          refine zgo (fun pc => Nat.beq pc 126) 200 hX hR rfl ?_
          refine Exists.intro _ ⟨hs.o, ?_⟩
          refine Exists.intro _ ⟨_, b, s62, rfl, by omega, ?_⟩
          rw [eb]
          refine And.intro (fun c1 => n9) (fun c1 => ?_)
          refine And.intro (fun c2 => n9) (fun c2 => absurd rfl c2)
        have yes : lnC u = lnC b + 1 → cn u 0 = i → ∀ (f k : Nat), k + f = lnC b → (∀ j, j < k → cn u (j + 1) = cn b j) → HW X 66 [some (.inr (.inr (some 60))), some (.inl (n : Int)), some (.inl (i : Int)), some (.inl (b : Int)), some (.inl 0), some (.inl (u : Int)), some (.inl 1), some (.inl (k : Int))] [] F I J := by
          intro h1 h2 f
          induction f with
          | zero =>
            intro k hk hj
            have ht : pmt i b u = true := (pmt_iff hlb).mpr ⟨h1, h2, fun j hjk => hj j (by omega)⟩
            rw [ht] at hun
            refine zgo (fun pc => Nat.beq pc 66) 200 hX hR rfl ?_
            refine Exists.intro _ ⟨hs.o, ?_⟩
            refine Exists.intro _ ⟨_, b, s62, rfl, by omega, ?_⟩
            rw [eb]
            refine And.intro (fun c1 => ?_) (fun c1 => by omega)
            refine And.intro (fun c2 => absurd c2 (by decide)) (fun c2 => ?_)
            refine Exists.intro _ ⟨hs.o, ?_⟩
            refine Exists.intro _ ⟨_, n, s61, rfl, by omega, ?_⟩
            rw [e0]
            refine And.intro ?_ ⟨rfl, rfl, rfl⟩
            rw [← hp, hun]
            show some (Sum.inl ((u : Int) - (aS n : Int))) = some (Sum.inl ((u - aS n : Nat) : Int))
            rw [show (u : Int) - (aS n : Int) = ((u - aS n : Nat) : Int) by omega]
          | succ f ih2 =>
            intro k hk hj
            have eu3 := eu2 (k + 1) (by omega)
            have eb3 := (hw b hb61).2 k (by omega)
            have hcu := cn_le u hu61 (k + 1) (by omega)
            have hcb := cn_le b hb61 k (by omega)
            refine zgo (fun pc => Nat.beq pc 66) 200 hX hR rfl ?_
            refine Exists.intro _ ⟨hs.o, ?_⟩
            refine Exists.intro _ ⟨_, b, s62, rfl, by omega, ?_⟩
            rw [eb]
            refine And.intro (fun c1 => by omega) (fun c1 => ?_)
            refine And.intro (fun c2 => absurd c2 (by decide)) (fun c2 => ?_)
            refine Exists.intro _ ⟨hs.o, ?_⟩
            refine Exists.intro _ ⟨_, 4 * u + (k + 1), s63, by omega, by omega, ?_⟩
            refine Exists.intro _ ⟨hs.o, ?_⟩
            refine Exists.intro _ ⟨_, 4 * b + k, s63, by omega, by omega, ?_⟩
            rw [eu3, eb3]
            refine And.intro (fun c3 => ?_) (fun c3 => ?_)
            · have hf : pmt i b u = false := by
                cases hb9 : pmt i b u with
                | false => rfl
                | true => exact absurd (((pmt_iff hlb).mp hb9).2.2 k (by omega)) (by omega)
              exact out0 hf (k + 1) (by omega)
            · refine ih2 (k + 1) (by omega) (fun j hj2 => ?_)
              by_cases e : j = k
              · subst e
                omega
              · exact hj j (by omega)
        have hcu0 := cn_le u hu61 0 (by decide)
        have eu0 := eu2 0 (by decide)
        refine zgo (fun pc => Nat.beq pc 66) 200 hX hR rfl ?_
        refine Exists.intro _ ⟨hs.o, ?_⟩
        refine Exists.intro _ ⟨_, n + 1, s61, by omega, by omega, ?_⟩
        rw [e1]
        refine And.intro (fun c1 => by omega) (fun c1 => ?_)
        refine Exists.intro _ ⟨hs.o, ?_⟩
        refine Exists.intro _ ⟨_, u, s62, rfl, by omega, ?_⟩
        refine Exists.intro _ ⟨hs.o, ?_⟩
        refine Exists.intro _ ⟨_, b, s62, rfl, by omega, ?_⟩
        rw [eu, eb]
        refine And.intro (fun c2 => ?_) (fun c2 => ?_)
        · have hf : pmt i b u = false := by
            cases hb9 : pmt i b u with
            | false => rfl
            | true => exact absurd ((pmt_iff hlb).mp hb9).1 (by omega)
          exact out0 hf 0 (by decide)
        · refine Exists.intro _ ⟨hs.o, ?_⟩
          refine Exists.intro _ ⟨_, 4 * u, s63, by omega, by omega, ?_⟩
          rw [show I 63 (4 * u) = (cn u 0 : Int) from eu0]
          refine And.intro (fun c3 => ?_) (fun c3 => ?_)
          · have hf : pmt i b u = false := by
              cases hb9 : pmt i b u with
              | false => rfl
              | true => exact absurd ((pmt_iff hlb).mp hb9).2.1 (by omega)
            exact out0 hf 0 (by decide)
          · exact yes (by omega) (by omega) (lnC b) 0 (by omega) (fun j hj => absurd hj (Nat.not_lt_zero j))
      · exact Or.inr hp
  have l0 := (loopU (aS (n + 1) - aS n) (aS n) (Nat.le_refl _) (by omega)).resolve_right (fun z => z rfl)
  refine zgo (fun pc => Nat.beq pc 8) 200 hX hR rfl ?_
  refine Exists.intro _ ⟨hs.o, ?_⟩
  refine Exists.intro _ ⟨_, n, s61, rfl, by omega, ?_⟩
  rw [e0]
  exact l0
end REF
