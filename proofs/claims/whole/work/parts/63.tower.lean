/-! a space of n elements with acts that keep the identities: a tower over it, and how big it is -/
def IsSp (dg : Nat → Nat) (ca : Nat → Nat → Nat → Bool) (de : Nat → Nat) (am : Nat → Nat → Nat → Bool) (n : Nat) : Prop :=
  n ≤ 12 ∧ (∀ u e a, u < 61 → am u e a = true → e < n ∧ a < n ∧ de a = de e + dg u) ∧ (∀ e a, e < n → am 0 e a = decide (a = e)) ∧
  (∀ u v e a, u < 61 → v < 61 → e < n → xs_ 12 (fun b => am v e b && am u b a) = xs_ 61 (fun w => ca u v w && am w e a))
theorem xs_ex {n : Nat} {f : Nat → Bool} (h : xs_ n f = true) : ∃ i, i < n ∧ f i = true := Classical.byContradiction fun hn => by
  rw [xs_zero' (fun v hv => by
    cases e1 : f v
    · rfl
    · exact absurd ⟨v, hv, e1⟩ hn)] at h
  cases h
theorem sp_mod {dg : Nat → Nat} {ca : Nat → Nat → Nat → Bool} {de : Nat → Nat} {am : Nat → Nat → Nat → Bool} {n : Nat} (hA : IsAlg dg ca) (h : IsSp dg ca de am n) {S : Nat → Bool} (hS : ∀ a, S a = true → a < n) (hd : ∀ a b, S a = true → b < n → de b < de a → S b = true) : IsMod dg ca (sIn de S) (sAct am S) := by
  obtain ⟨h1, h2, h3, h4⟩ := h
  refine ⟨fun t x y hx hy a b h => ?_, fun t a b h => (by cases h), fun u x y => ?_, fun u => ?_, fun u t x hu hx a b h => ?_, fun t x hx => ?_, fun u v t x hu hv hx => ?_⟩
  · rcases bxor_false h with h | h
    · exact hx a b h
    · exact hy a b h
  · funext a b
    show (decide (b = 0) && (S a && xs_ 12 (fun e => (x e 0 ^^ y e 0) && am u e a))) = ((decide (b = 0) && (S a && xs_ 12 (fun e => x e 0 && am u e a))) ^^ (decide (b = 0) && (S a && xs_ 12 (fun e => y e 0 && am u e a))))
    rw [xs_congr (g := fun e => (x e 0 && am u e a) ^^ (y e 0 && am u e a)) (fun e _ => by cases x e 0 <;> cases y e 0 <;> cases am u e a <;> rfl), xs_xor]
    cases decide (b = 0) <;> cases S a <;> simp
  · funext a b
    show (decide (b = 0) && (S a && xs_ 12 (fun e => false && am u e a))) = false
    rw [xs_zero' (fun e _ => Bool.false_and _)]
    simp
  · have h' : (decide (b = 0) && (S a && xs_ 12 (fun e => x e 0 && am u e a))) = true := h
    simp only [Bool.and_eq_true, decide_eq_true_eq] at h'
    obtain ⟨hb, ha, hs⟩ := h'
    obtain ⟨e, he, hs⟩ := xs_ex hs
    simp only [Bool.and_eq_true] at hs
    have h5 := hx e 0 hs.1
    have h6 := h2 u e a hu hs.2
    exact ⟨hb, ha, by omega⟩
  · funext a b
    show (decide (b = 0) && (S a && xs_ 12 (fun e => x e 0 && am 0 e a))) = x a b
    rw [xs_congr (g := fun e => decide (e = a) && x e 0) (fun e _ => by
      cases hx0 : x e 0
      · simp
      · rw [h3 e a (hS e (hx e 0 hx0).2.1)]
        by_cases hea : e = a
        · simp [hea]
        · simp [hea, Ne.symm hea])]
    cases hab : x a b
    · by_cases hb : b = 0
      · subst hb
        by_cases ha : a < 12
        · rw [xs_single ha, hab]; simp
        · rw [xs_zero' (fun e he => by simp [show ¬ e = a by omega])]; simp
      · simp [hb]
    · obtain ⟨hb, ha, -⟩ := hx a b hab
      subst hb
      rw [xs_single (show a < 12 by have := hS a ha; omega), hab, ha]
      rfl
  · funext a b
    show (decide (b = 0) && (S a && xs_ 12 (fun e => (decide (0 = 0) && (S e && xs_ 12 (fun e' => x e' 0 && am v e' e))) && am u e a))) = xs_ 61 (fun w => ca u v w && (decide (b = 0) && (S a && xs_ 12 (fun e => x e 0 && am w e a))))
    cases hb : decide (b = 0)
    · simp [xs_zero]
    cases ha : S a
    · simp [xs_zero]
    simp only [Bool.true_and, decide_true]
    have e1 : ∀ e, ((S e && xs_ 12 (fun e' => x e' 0 && am v e' e)) && am u e a) = xs_ 12 (fun e' => x e' 0 && (am v e' e && am u e a)) := by
      intro e
      have e2 : xs_ 12 (fun e' => x e' 0 && (am v e' e && am u e a)) = (xs_ 12 (fun e' => x e' 0 && am v e' e) && am u e a) := by
        rw [← xs_and']
        apply xs_congr
        intro i _
        exact (Bool.and_assoc _ _ _).symm
      rw [e2]
      cases hu1 : am u e a
      · simp
      · have h6 := h2 u e a hu hu1
        have hSe : S e = true := by
          by_cases hu0 : u = 0
          · subst hu0
            rw [h3 e a h6.1] at hu1
            rw [← of_decide_eq_true hu1]
            exact ha
          · refine hd a e ha h6.1 ?_
            have := hA.2.2.2.2.2 u hu hu0
            omega
        rw [hSe]
        simp
    rw [xs_congr (fun e _ => e1 e), xs_comm]
    have e3 : ∀ w, (ca u v w && xs_ 12 (fun e => x e 0 && am w e a)) = xs_ 12 (fun e => x e 0 && (ca u v w && am w e a)) := by
      intro w
      rw [← xs_and]
      apply xs_congr
      intro e _
      cases ca u v w <;> cases x e 0 <;> rfl
    rw [xs_congr (fun w _ => e3 w), xs_comm 61 12]
    apply xs_congr
    intro e _
    rw [xs_and, xs_and]
    cases hx0 : x e 0
    · rw [Bool.false_and, Bool.false_and]
    · rw [h4 u v e a hu hv (hS e (hx e 0 hx0).2.1)]
/-- sums of numbers -/
def ns : Nat → (Nat → Nat) → Nat
  | 0, _ => 0
  | n + 1, f => ns n f + f n
theorem ns_congr {n : Nat} {f g : Nat → Nat} (h : ∀ i, i < n → f i = g i) : ns n f = ns n g := by
  induction n with
  | zero => rfl
  | succ n ih => rw [show ns (n + 1) f = ns n f + f n from rfl, show ns (n + 1) g = ns n g + g n from rfl, ih (fun i hi => h i (by omega)), h n (by omega)]
theorem ns_le {n b : Nat} {f : Nat → Nat} (h : ∀ i, i < n → f i ≤ b) : ns n f ≤ n * b := by
  induction n with
  | zero => exact Nat.zero_le _
  | succ n ih =>
    have h1 := ih (fun i hi => h i (by omega))
    have h2 := h n (by omega)
    rw [show ns (n + 1) f = ns n f + f n from rfl, Nat.succ_mul]
    omega
theorem ns_chg {n e v : Nat} (he : e < n) {f g : Nat → Nat} (h : ∀ i, i < n → i ≠ e → g i = f i) (hv : g e = f e + v) : ns n g = ns n f + v := by
  induction n with
  | zero => omega
  | succ n ih =>
    rw [show ns (n + 1) f = ns n f + f n from rfl, show ns (n + 1) g = ns n g + g n from rfl]
    by_cases hen : e = n
    · subst hen
      rw [ns_congr (fun i hi => h i (by omega) (by omega)), hv]
      omega
    · rw [ih (by omega) (fun i hi => h i (by omega)), h n (by omega) (by omega)]
      omega
/-- the elements below k -/
def sB (de : Nat → Nat) (n k a : Nat) : Bool := decide (a < n) && decide (12 * de a + a < k)
/-- how much what goes to nothing needs at most -/
def kB (de : Nat → Nat) (n k s t : Nat) : Nat := ns n (fun e => if 12 * de e + e < k then (if de e ≤ t then pK s (t - de e) else 0) else 0)
section TOWER
variable {de : Nat → Nat} {am : Nat → Nat → Nat → Bool} {n : Nat}
theorem sB_mod (h : IsSp dgA caA de am n) (k : Nat) : IsMod dgA caA (sIn de (sB de n k)) (sAct am (sB de n k)) := by
  have h12 := h.1
  refine sp_mod algA h (fun a ha => ?_) (fun a b ha hb hl => ?_)
  · unfold sB at ha
    simp only [Bool.and_eq_true, decide_eq_true_eq] at ha
    exact ha.1
  · unfold sB at ha ⊢
    simp only [Bool.and_eq_true, decide_eq_true_eq] at ha ⊢
    exact ⟨hb, by omega⟩
def TwK (de : Nat → Nat) (am : Nat → Nat → Nat → Bool) (n : Nat) (S : Nat → Bool) (k : Nat) : Prop :=
  ∃ δ, RGen dgA caA (sIn de S) (sAct am S) 96 5 14 (gvE de pv pd S) (dE de pd) δ ∧ RExa dgA caA (sIn de S) (sAct am S) 96 5 14 (gvE de pv pd S) (dE de pd) δ ∧ ∀ s t, s ≤ 5 → t ≤ 14 → KSp dgA caA (sAct am S) 96 (gvE de pv pd S) (dE de pd) δ s t (kB de n k s t)
theorem tw_0 (S : Nat → Bool) (hS : ∀ a, S a = false) : TwK de am n S 0 := by
  have hg : ∀ s g, gvE de pv pd S s g = false := fun s g => by unfold gvE; rw [hS]; rfl
  have hF : ∀ s t x, FIn dgA (gvE de pv pd S s) (dE de pd s) t x → x = e0 := fun s t x hx => by
    funext a b
    cases h : x a b
    · rfl
    · have := (hx a b h).1
      rw [hg] at this
      cases this
  have h0 : ∀ n s t, kB de n 0 s t = 0 := by
    intro n s t
    unfold kB
    induction n with
    | zero => rfl
    | succ n ih => rw [show ∀ f, ns (n + 1) f = ns n f + f n from fun _ => rfl, ih]; simp
  refine ⟨fun _ _ => e0, ⟨fun s _ g h => ?_, fun s _ g h => ?_⟩, ⟨fun t _ m hm => ⟨e0, fun _ _ h => (by cases h), ?_⟩, fun s _ t _ x hx _ => ⟨e0, fun _ _ h => (by cases h), ?_⟩⟩, fun s t _ _ => ⟨fun _ => e0, fun i hi => ?_, fun x hx _ => ⟨fun _ => false, ?_⟩⟩⟩
  · rw [hg] at h; cases h
  · rw [hg] at h; cases h
  · rw [Dm_0]
    funext a b
    cases h : m a b
    · rfl
    · have := (hm a b h).2.1
      rw [hS] at this
      cases this
  · rw [Dm_0, hF s t x hx]
  · rw [h0] at hi; omega
  · rw [hF s t x hx, h0]
    rfl
theorem tw_all (h : IsSp dgA caA de am n) : ∀ k, TwK de am n (sB de n k) k := by
  intro k
  induction k with
  | zero => exact tw_0 _ (fun a => by unfold sB; simp)
  | succ k ih =>
    have h12 := h.1
    by_cases hk : k % 12 < n ∧ de (k % 12) = k / 12
    · obtain ⟨hk1, hk2⟩ := hk
      have hke : 12 * de (k % 12) + k % 12 = k := by omega
      have hH : HStep dgA caA de am (sB de n k) (sB de n (k + 1)) (k % 12) := by
        refine ⟨algA, sB_mod h k, sB_mod h (k + 1), by omega, ?_, fun a => ?_, fun a ha => ?_, fun u a hu hu0 ha => ?_, fun a => h.2.2.1 _ a hk1⟩
        · unfold sB
          simp [show ¬ (12 * de (k % 12) + k % 12 < k) by omega]
        · unfold sB
          by_cases han : a < n
          · by_cases hae : a = k % 12
            · subst hae
              simp [hk1, show 12 * de (k % 12) + k % 12 < k + 1 by omega]
            · have h1 : 12 * de a + a ≠ k := by
                intro z
                apply hae
                omega
              by_cases h2 : 12 * de a + a < k
              · simp [han, h2, show 12 * de a + a < k + 1 by omega]
              · simp [han, h2, hae, show ¬ 12 * de a + a < k + 1 by omega]
          · have : a ≠ k % 12 := by omega
            simp [han, this]
        · unfold sB at ha
          simp only [Bool.and_eq_true, decide_eq_true_eq] at ha
          omega
        · cases hc : am u (k % 12) a
          · rfl
          · obtain ⟨c1, c2, c3⟩ := h.2.1 u _ a hu hc
            have := algA.2.2.2.2.2 u hu hu0
            unfold sB at ha
            simp only [Bool.and_eq_true, decide_eq_true_eq] at ha
            omega
      obtain ⟨δ, g1, g2, g3⟩ := ih
      obtain ⟨δ', q1, q2, q3⟩ := horse_step hH pt_gen pt_exa pv_lt (K := pK) (fun s t hs ht => pt_ker s t hs ht) g1 g2 g3
      refine ⟨δ', q1, q2, fun s t hs ht => ?_⟩
      have := q3 s t hs ht
      have e1 : kB de n (k + 1) s t = kB de n k s t + (if de (k % 12) ≤ t then pK s (t - de (k % 12)) else 0) := by
        unfold kB
        refine ns_chg hk1 (fun i hi hne => ?_) ?_
        · have h1 : 12 * de i + i ≠ k := by
            intro z
            apply hne
            omega
          by_cases h2 : 12 * de i + i < k
          · rw [if_pos h2, if_pos (by omega)]
          · rw [if_neg h2, if_neg (by omega)]
        · rw [if_pos (show 12 * de (k % 12) + k % 12 < k + 1 by omega), if_neg (show ¬ 12 * de (k % 12) + k % 12 < k by omega)]
          exact (Nat.zero_add _).symm
      rw [e1]
      exact this
    · have hne : ∀ i, i < n → 12 * de i + i ≠ k := by
        intro i hi z
        apply hk
        have : i = k % 12 := by omega
        subst this
        exact ⟨hi, by omega⟩
      have e1 : sB de n (k + 1) = sB de n k := by
        funext a
        unfold sB
        by_cases han : a < n
        · have := hne a han
          by_cases h2 : 12 * de a + a < k
          · simp [h2, show 12 * de a + a < k + 1 by omega]
          · simp [h2, show ¬ 12 * de a + a < k + 1 by omega]
        · simp [han]
      have e2 : ∀ s t, kB de n (k + 1) s t = kB de n k s t := by
        intro s t
        unfold kB
        apply ns_congr
        intro i hi
        have := hne i hi
        by_cases h2 : 12 * de i + i < k
        · rw [if_pos h2, if_pos (by omega)]
        · rw [if_neg h2, if_neg (by omega)]
      rw [e1]
      obtain ⟨δ, g1, g2, g3⟩ := ih
      exact ⟨δ, g1, g2, fun s t hs ht => by rw [e2]; exact g3 s t hs ht⟩
/-- all elements -/
def sA (n a : Nat) : Bool := decide (a < n)
def kA (de : Nat → Nat) (n s t : Nat) : Nat := ns n (fun e => if de e ≤ t then pK s (t - de e) else 0)
theorem de_top (de : Nat → Nat) (n : Nat) : ∃ k, ∀ i, i < n → 12 * de i + i < k := by
  induction n with
  | zero => exact ⟨0, fun i hi => by omega⟩
  | succ n ih =>
    obtain ⟨k, hk⟩ := ih
    refine ⟨k + (12 * de n + n + 1), fun i hi => ?_⟩
    by_cases hin : i = n
    · subst hin; omega
    · have := hk i (by omega); omega
theorem sp_mod_all (h : IsSp dgA caA de am n) : IsMod dgA caA (sIn de (sA n)) (sAct am (sA n)) :=
  sp_mod algA h (fun _ ha => of_decide_eq_true ha) (fun _ _ _ hb _ => decide_eq_true hb)
theorem tw_ex (h : IsSp dgA caA de am n) : ∃ δ, RGen dgA caA (sIn de (sA n)) (sAct am (sA n)) 96 5 14 (gvE de pv pd (sA n)) (dE de pd) δ ∧ RExa dgA caA (sIn de (sA n)) (sAct am (sA n)) 96 5 14 (gvE de pv pd (sA n)) (dE de pd) δ ∧ ∀ s t, s ≤ 5 → t ≤ 14 → KSp dgA caA (sAct am (sA n)) 96 (gvE de pv pd (sA n)) (dE de pd) δ s t (kA de n s t) := by
  obtain ⟨k, hk⟩ := de_top de n
  have e1 : sB de n k = sA n := by
    funext a
    unfold sB sA
    by_cases ha : a < n
    · simp [ha, hk a ha]
    · simp [ha]
  have e2 : ∀ s t, kB de n k s t = kA de n s t := fun s t => ns_congr (fun i hi => by rw [if_pos (hk i hi)])
  obtain ⟨δ, g1, g2, g3⟩ := tw_all h k
  rw [e1] at g1 g2 g3
  exact ⟨δ, g1, g2, fun s t hs ht => by rw [← e2]; exact g3 s t hs ht⟩
theorem pK_le : ∀ s, s < 6 → ∀ t, t < 15 → pK s t ≤ 15 := by decide +kernel
theorem kA_le {s t : Nat} (hn : n ≤ 12) (hs : s ≤ 5) (ht : t ≤ 14) : kA de n s t ≤ 180 := by
  refine Nat.le_trans (ns_le (b := 15) (fun i hi => ?_)) (by omega)
  split
  · exact pK_le s (by omega) _ (by omega)
  · exact Nat.zero_le _
end TOWER
