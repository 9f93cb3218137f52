/-! counting: generators of a degree, ranks, what goes to nothing -/
def cntp (p : Nat → Bool) : Nat → Nat
  | 0 => 0
  | n + 1 => cntp p n + (if p n then 1 else 0)
theorem enum_ex (p : Nat → Bool) : ∀ N : Nat, ∃ e : Nat → Nat, (∀ i, i < cntp p N → e i < N ∧ p (e i) = true) ∧ (∀ i j, i < cntp p N → j < cntp p N → e i = e j → i = j) ∧ ∀ g, g < N → p g = true → ∃ i, i < cntp p N ∧ e i = g := by
  intro N
  induction N with
  | zero => exact ⟨fun i => i, fun i h => by simp [cntp] at h, fun i j h => by simp [cntp] at h, fun g h => by omega⟩
  | succ N ih =>
    obtain ⟨e, h1, h2, h3⟩ := ih
    by_cases hp : p N = true
    · have hc : cntp p (N + 1) = cntp p N + 1 := by simp [cntp, hp]
      rw [hc]
      refine ⟨fun i => if i = cntp p N then N else e i, fun i hi => ?_, fun i j hi hj hij => ?_, fun g hg hgp => ?_⟩
      · dsimp only
        by_cases hE : i = cntp p N
        · rw [if_pos hE]; exact ⟨by omega, hp⟩
        · rw [if_neg hE]; have := h1 i (by omega); exact ⟨by omega, this.2⟩
      · dsimp only at hij
        by_cases hE : i = cntp p N <;> by_cases hF : j = cntp p N
        · omega
        · rw [if_pos hE, if_neg hF] at hij; have := (h1 j (by omega)).1; omega
        · rw [if_neg hE, if_pos hF] at hij; have := (h1 i (by omega)).1; omega
        · rw [if_neg hE, if_neg hF] at hij; exact h2 i j (by omega) (by omega) hij
      · dsimp only
        by_cases hgN : g = N
        · exact ⟨cntp p N, by omega, by rw [if_pos rfl, hgN]⟩
        · obtain ⟨i, hi, he⟩ := h3 g (by omega) hgp
          exact ⟨i, by omega, by rw [if_neg (by omega)]; exact he⟩
    · have hc : cntp p (N + 1) = cntp p N := by simp [cntp, hp]
      rw [hc]
      refine ⟨e, fun i hi => ⟨by have := (h1 i hi).1; omega, (h1 i hi).2⟩, h2, fun g hg hgp => ?_⟩
      by_cases hgN : g = N
      · subst hgN; exact absurd hgp hp
      · exact h3 g (by omega) hgp
/-- a left inverse on units: no more of the one than of the other -/
theorem cnt_le {N : Nat} {pC pP : Nat → Bool} {A B : Nat → Nat → Bool} (h : ∀ g, g < N → pC g = true → ∀ g', xs_ N (fun p => A g p && B p g') = decide (g' = g)) (hA : ∀ g, g < N → pC g = true → ∀ p, p < N → A g p = true → pP p = true) : cntp pC N ≤ cntp pP N := by
  obtain ⟨e, e1, e2, e3⟩ := enum_ex pC N
  obtain ⟨f, f1, f2, f3⟩ := enum_ex pP N
  refine ind_le (ι := Nat) (cntp pP N) (cntp pC N) (fun i p => decide (p < N) && A (e i) p) (fun k p => decide (p = f k)) ?_ ?_
  · intro c hc i hi
    have h1 : xs_ (cntp pC N) (fun j => c j && xs_ N (fun p => A (e j) p && B p (e i))) = false := by
      have h2 : xs_ N (fun p => vc (cntp pC N) c (fun i p => decide (p < N) && A (e i) p) p && B p (e i)) = false := by
        rw [hc]
        exact xs_zero' (fun p _ => rfl)
      rw [← h2]
      unfold vc
      have h3 : xs_ N (fun p => xs_ (cntp pC N) (fun i => c i && (decide (p < N) && A (e i) p)) && B p (e i)) = xs_ N (fun p => xs_ (cntp pC N) (fun j => c j && (A (e j) p && B p (e i)))) := by
        apply xs_congr
        intro p hp
        rw [← xs_and']
        apply xs_congr
        intro j _
        simp only [hp, decide_true, Bool.true_and]
        exact Bool.and_assoc _ _ _
      rw [h3, xs_comm]
      apply xs_congr
      intro j _
      exact (xs_and N (c j) _).symm
    rw [xs_one hi _ (fun j hj hne => by
      rw [h (e j) (e1 j hj).1 (e1 j hj).2 (e i)]
      have : ¬ e i = e j := fun z => hne (e2 j i hj hi z.symm)
      simp [this]), h (e i) (e1 i hi).1 (e1 i hi).2 (e i)] at h1
    simpa using h1
  · intro i hi
    refine ⟨fun k => A (e i) (f k), ?_⟩
    funext p
    unfold vc
    by_cases hp : p < N
    · cases hAp : A (e i) p
      · symm
        rw [show (decide (p < N) && false) = false by simp]
        apply xs_zero'
        intro k hk
        by_cases hE : p = f k
        · subst hE
          show (A (e i) (f k) && decide (f k = f k)) = false
          rw [hAp]
          rfl
        · simp [hE]
      · obtain ⟨k, hk, hfk⟩ := f3 p hp (hA (e i) (e1 i hi).1 (e1 i hi).2 p hp hAp)
        rw [xs_one hk _ (fun k' hk' hne => by
          have : ¬ p = f k' := fun z => hne (f2 k' k hk' hk (by rw [← z, hfk]))
          simp [this])]
        show (decide (p < N) && true) = (A (e i) (f k) && decide (p = f k))
        rw [hfk, hAp]
        simp [hp]
    · symm
      rw [show (decide (p < N) && A (e i) p) = false by simp [hp]]
      apply xs_zero'
      intro k hk
      have := (f1 k hk).1
      have : ¬ p = f k := by omega
      simp [this]
theorem spn_trans {ι : Type} {n m : Nat} {w z : Nat → ι → Bool} {x : ι → Bool} (h : Spn n w x) (hz : ∀ j, j < n → Spn m z (w j)) : Spn m z x := by
  obtain ⟨c, rfl⟩ := h
  refine ⟨fun k => xs_ n (fun j => c j && (if hj : j < n then Classical.choose (hz j hj) k else false)), ?_⟩
  funext q
  unfold vc
  have e : xs_ n (fun j => c j && w j q) = xs_ n (fun j => xs_ m (fun k => c j && ((if hj : j < n then Classical.choose (hz j hj) k else false) && z k q))) := by
    apply xs_congr
    intro j hj
    rw [xs_and]
    have := congrFun (Classical.choose_spec (hz j hj)) q
    rw [this]
    unfold vc
    congr 1
    apply xs_congr
    intro k _
    rw [dif_pos hj]
  rw [e, xs_comm]
  apply xs_congr
  intro k _
  rw [← xs_and']
  apply xs_congr
  intro j _
  exact (Bool.and_assoc _ _ _).symm
/-- a rank: of n rows -/
def IsRk {ι : Type} (n : Nat) (w : Nat → ι → Bool) (r : Nat) : Prop := ∃ k : Nat → ι → Bool, Ind r k ∧ (∀ i, i < r → Spn n w (k i)) ∧ ∀ j, j < n → Spn r k (w j)
theorem rk_le {ι ι' : Type} {n n' r r' : Nat} {w : Nat → ι → Bool} {w' : Nat → ι' → Bool} (h : IsRk n w r) (h' : IsRk n' w' r') (L : (ι' → Bool) → ι → Bool) (hL : ∀ (m : Nat) (c : Nat → Bool) (z : Nat → ι' → Bool), L (vc m c z) = vc m c (fun i => L (z i))) (hw : ∀ j, j < n → Spn n' (fun p => L (w' p)) (w j)) : r ≤ r' := by
  obtain ⟨k, k1, k2, k3⟩ := h
  obtain ⟨k', k1', k2', k3'⟩ := h'
  refine ind_le r' r k (fun i => L (k' i)) k1 (fun i hi => ?_)
  refine spn_trans (k2 i hi) (fun j hj => ?_)
  refine spn_trans (hw j hj) (fun p hp => ?_)
  obtain ⟨c, hc⟩ := k3' p hp
  exact ⟨c, by rw [hc, hL]⟩
