/-! a floor's rows: what goes to nothing, what is reached; families completed -/
theorem vc_add {ι : Type} (n m : Nat) (c : Nat → Bool) (w : Nat → ι → Bool) : vc (n + m) c w = vx (vc n c w) (vc m (fun i => c (n + i)) (fun i => w (n + i))) := by
  funext q
  unfold vc vx
  rw [xs_add]
theorem vc_l {ι : Type} {n m : Nat} {c : Nat → Bool} {w : Nat → ι → Bool} (h : ∀ p, n ≤ p → p < n + m → c p = false) : vc (n + m) c w = vc n c w := by
  rw [vc_add, vc_congr (c' := fun _ => false) (w' := fun i => w (n + i)) (fun i hi => h (n + i) (by omega) (by omega)) (fun _ _ => rfl), vc_0, vx_0]
section ALIN
variable {dv : Nat → Nat → Bool} {P C K m : Nat} {v s nb w : Nat → Nat → Bool}
/-- the places with the new ones behind -/
def dvN (dv : Nat → Nat → Bool) (P C : Nat) (w : Nat → Nat → Bool) : Nat → Nat → Bool := vap P dv (fun i => w (C + i))
theorem dvN_sum (f : Nat → Bool) : vc (P + m) f (dvN dv P C w) = vx (vc P f dv) (vc m (fun i => f (P + i)) (fun i => w (C + i))) := by
  rw [vc_add]
  congr 1
  · exact vc_congr (fun _ _ => rfl) (fun i hi => vap_l hi _ _)
  · exact vc_congr (fun _ _ => rfl) (fun i hi => vap_r i _ _)
theorem flr_ker (h : FlR dv P C K v s nb) (hI : Ind (C + m) w) (hw : ∀ i, i < C → w i = v i) {f : Nat → Bool} (hf : ∀ p, P + m ≤ p → f p = false) (h0 : vc (P + m) f (dvN dv P C w) = v0) : (∀ i, i < m → f (P + i) = false) ∧ Spn K nb f := by
  obtain ⟨h1, h2, h3, ⟨h4, h4'⟩, h5, h6, h7⟩ := h
  obtain ⟨a, b, hab⟩ := h5 (fun p => decide (p < P) && f p) (fun p hp => by rw [decide_eq_false (by omega), Bool.false_and])
  have e1 : vc P f dv = vc C a v := by
    have : vc P f dv = vc P (fun p => decide (p < P) && f p) dv := vc_congr (fun p hp => by rw [decide_eq_true hp, Bool.true_and]) (fun _ _ => rfl)
    rw [this, hab]
    have e2 : vc P (vx (vc C a s) (vc K b nb)) dv = vx (vc P (vc C a s) dv) (vc P (vc K b nb) dv) := vc_xor P _ _ dv
    rw [e2, vc_vc, vc_vc]
    have e3 : vc K b (fun i => vc P (nb i) dv) = v0 := by
      funext q
      exact xs_zero' fun j hj => by dsimp only; rw [h3 j hj]; exact Bool.and_false _
    rw [e3, vx_0]
    exact vc_congr (fun _ _ => rfl) (fun i hi => (h2 i hi).symm)
  rw [dvN_sum, e1] at h0
  have hz := hI (fun i => if i < C then a i else f (P + (i - C))) (by
    rw [vc_add, ← h0]
    congr 1
    · exact vc_congr (fun i hi => if_pos hi) hw
    · refine vc_congr (fun i hi => ?_) (fun _ _ => rfl)
      rw [if_neg (by omega), show C + i - C = i by omega])
  have fz : ∀ i, i < m → f (P + i) = false := fun i hi => by
    have := hz (C + i) (by omega)
    rw [if_neg (by omega), show C + i - C = i by omega] at this
    exact this
  refine ⟨fz, b, ?_⟩
  have ea : vc C a s = v0 := by
    rw [vc_congr (c' := fun _ => false) (w' := s) (fun i hi => by have := hz i (by omega); rw [if_pos hi] at this; exact this) (fun _ _ => rfl), vc_0]
  rw [ea, v0_vx] at hab
  rw [← hab]
  funext p
  rcases Nat.lt_or_ge p P with g | g
  · rw [decide_eq_true g, Bool.true_and]
  · rw [decide_eq_false (by omega), Bool.false_and]
    rcases Nat.lt_or_ge p (P + m) with g2 | g2
    · have := fz (p - P) (by omega)
      rw [show P + (p - P) = p by omega] at this
      exact this
    · exact hf p g2
theorem flr_ker' (h : FlR dv P C K v s nb) {f : Nat → Bool} (hf : Spn K nb f) : vc (P + m) f (dvN dv P C w) = v0 ∧ ∀ p, P ≤ p → f p = false := by
  obtain ⟨h1, h2, h3, ⟨h4, h4'⟩, h5, h6, h7⟩ := h
  obtain ⟨c, rfl⟩ := hf
  have hs : ∀ p, P ≤ p → vc K c nb p = false := fun p hp => xs_zero' fun j hj => by rw [h4' j hj p hp, Bool.and_false]
  refine ⟨?_, hs⟩
  rw [dvN_sum, vc_vc]
  have e1 : vc K c (fun i => vc P (nb i) dv) = v0 := by
    funext q
    exact xs_zero' fun j hj => by dsimp only; rw [h3 j hj]; exact Bool.and_false _
  rw [e1, v0_vx, vc_congr (c' := fun _ => false) (w' := fun i => w (C + i)) (fun i hi => hs (P + i) (by omega)) (fun _ _ => rfl), vc_0]
theorem flr_img (h : FlR dv P C K v s nb) (hw : ∀ i, i < C → w i = v i) {g : Nat → Bool} (hg : Spn (C + m) w g) : ∃ f : Nat → Bool, (∀ p, P + m ≤ p → f p = false) ∧ vc (P + m) f (dvN dv P C w) = g := by
  obtain ⟨h1, h2, h3, ⟨h4, h4'⟩, h5, h6, h7⟩ := h
  obtain ⟨c, rfl⟩ := hg
  have hs : ∀ p, P ≤ p → vc C c s p = false := fun p hp => xs_zero' fun j hj => by rw [h4 j hj p hp, Bool.and_false]
  refine ⟨fun p => if p < P then vc C c s p else (decide (p < P + m) && c (C + (p - P))), fun p hp => ?_, ?_⟩
  · dsimp only
    rw [if_neg (by omega), decide_eq_false (by omega), Bool.false_and]
  · rw [dvN_sum, vc_add C m c w]
    congr 1
    · rw [vc_congr (c' := vc C c s) (w' := dv) (fun p hp => if_pos hp) (fun _ _ => rfl), vc_vc]
      exact vc_congr (fun _ _ => rfl) (fun i hi => by rw [hw i hi, h2 i hi])
    · refine vc_congr (fun i hi => ?_) (fun _ _ => rfl)
      rw [if_neg (by omega), decide_eq_true (by omega), Bool.true_and, show P + i - P = i by omega]
/-- more rows until all of a family are reached -/
theorem complete {B : Nat} {bl : Nat → Nat → Bool} : ∀ k, k ≤ B → ∀ (n : Nat) (w : Nat → Nat → Bool), Ind n w → ∃ m w', Ind (n + m) w' ∧ (∀ i, i < n → w' i = w i) ∧ (∀ i, i < m → Spn B bl (w' (n + i))) ∧ ∀ j, j < k → Spn (n + m) w' (bl j) := by
  intro k
  induction k with
  | zero => intro _ n w h; exact ⟨0, w, h, fun _ _ => rfl, fun i hi => absurd hi (Nat.not_lt_zero i), fun j hj => absurd hj (Nat.not_lt_zero j)⟩
  | succ k ih =>
    intro hk n w h
    obtain ⟨m, w', h1, h2, h3, h4⟩ := ih (by omega) n w h
    by_cases hs : Spn (n + m) w' (bl k)
    · refine ⟨m, w', h1, h2, h3, fun j hj => ?_⟩
      by_cases e : j = k
      · rw [e]; exact hs
      · exact h4 j (by omega)
    · refine ⟨m + 1, fun i => if i = n + m then bl k else w' i, ?_, fun i hi => ?_, fun i hi => ?_, fun j hj => ?_⟩
      · intro c hc
        rw [show n + (m + 1) = n + m + 1 from rfl, vc_succ] at hc
        have e1 : vc (n + m) c (fun i => if i = n + m then bl k else w' i) = vc (n + m) c w' := vc_congr (fun _ _ => rfl) (fun i hi => if_neg (by omega))
        rw [e1] at hc
        cases hck : c (n + m)
        · have e2 : vc (n + m) c w' = v0 := by
            funext q
            have := congrFun hc q
            unfold vx at this
            dsimp only at this
            rw [hck, Bool.false_and, Bool.xor_false] at this
            exact this
          intro i hi
          by_cases e : i = n + m
          · rw [e]; exact hck
          · exact h1 c e2 i (by omega)
        · exfalso
          refine hs ⟨c, ?_⟩
          funext q
          have := congrFun hc q
          unfold vx v0 at this
          dsimp only at this
          rw [hck, if_pos rfl, Bool.true_and] at this
          cases hb : bl k q <;> cases hv : vc (n + m) c w' q <;> rw [hb, hv] at this <;> first | rfl | cases this
      · dsimp only
        rw [if_neg (by omega)]
        exact h2 i hi
      · dsimp only
        by_cases e : i = m
        · rw [if_pos (by omega)]
          exact spn_mem (by omega) bl
        · rw [if_neg (by omega)]
          exact h3 i (by omega)
      · by_cases e : j = k
        · have := spn_mem (n := n + (m + 1)) (i := n + m) (by omega) (fun i => if i = n + m then bl k else w' i)
          rw [if_pos rfl] at this
          rw [e]
          exact this
        · exact spn_ext (h4 j (by omega)) (by omega) (fun i hi => if_neg (by omega))
end ALIN
