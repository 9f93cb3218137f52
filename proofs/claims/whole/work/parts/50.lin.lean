/-! sums by twos over ranges of numbers -/
theorem bx1 : ∀ a b c : Bool, ((a ^^ b) && c) = ((a && c) ^^ (b && c)) := by decide
def vx {ι : Type} (x y : ι → Bool) : ι → Bool := fun i => x i ^^ y i
def v0 {ι : Type} : ι → Bool := fun _ => false
/-- the sum by twos of the first n -/
def xs_ : Nat → (Nat → Bool) → Bool
  | 0, _ => false
  | n + 1, f => xs_ n f ^^ f n
theorem xs_congr {n : Nat} {f g : Nat → Bool} (h : ∀ i, i < n → f i = g i) : xs_ n f = xs_ n g := by
  induction n with
  | zero => rfl
  | succ n ih => simp only [xs_]; rw [ih (fun i hi => h i (by omega)), h n (by omega)]
theorem xs_zero (n : Nat) : xs_ n (fun _ => false) = false := by
  induction n with
  | zero => rfl
  | succ n ih => simp only [xs_]; rw [ih]; rfl
theorem xs_zero' {n : Nat} {f : Nat → Bool} (h : ∀ i, i < n → f i = false) : xs_ n f = false := by
  rw [xs_congr h, xs_zero]
theorem xs_xor (n : Nat) (f g : Nat → Bool) : xs_ n (fun i => f i ^^ g i) = (xs_ n f ^^ xs_ n g) := by
  induction n with
  | zero => rfl
  | succ n ih =>
    simp only [xs_]
    rw [ih]
    cases xs_ n f <;> cases xs_ n g <;> cases f n <;> cases g n <;> rfl
theorem xs_and (n : Nat) (b : Bool) (f : Nat → Bool) : xs_ n (fun i => b && f i) = (b && xs_ n f) := by
  cases b
  · simp [xs_zero]
  · simp
theorem xs_and' (n : Nat) (b : Bool) (f : Nat → Bool) : xs_ n (fun i => f i && b) = (xs_ n f && b) := by
  cases b
  · simp [xs_zero]
  · simp
theorem xs_comm (n m : Nat) (f : Nat → Nat → Bool) : xs_ n (fun i => xs_ m (fun j => f i j)) = xs_ m (fun j => xs_ n (fun i => f i j)) := by
  induction n with
  | zero => exact (xs_zero m).symm
  | succ n ih =>
    have : xs_ (n + 1) (fun i => xs_ m (fun j => f i j)) = (xs_ n (fun i => xs_ m (fun j => f i j)) ^^ xs_ m (fun j => f n j)) := rfl
    rw [this, ih, ← xs_xor]
    rfl
theorem xs_single {n k : Nat} (hk : k < n) (f : Nat → Bool) : xs_ n (fun i => decide (i = k) && f i) = f k := by
  induction n with
  | zero => omega
  | succ n ih =>
    simp only [xs_]
    by_cases h : k = n
    · subst h
      rw [xs_zero' (fun i hi => by simp [Nat.ne_of_lt hi])]
      simp
    · rw [ih (by omega)]
      simp [Ne.symm h]
theorem xs_one {n k : Nat} (hk : k < n) (f : Nat → Bool) (h : ∀ i, i < n → i ≠ k → f i = false) : xs_ n f = f k := by
  rw [← xs_single hk f]
  apply xs_congr
  intro i hi
  by_cases e : i = k
  · simp [e]
  · simp [e, h i hi e]
/-- two sums one behind the other -/
theorem xs_add (n m : Nat) (f : Nat → Bool) : xs_ (n + m) f = (xs_ n f ^^ xs_ m (fun j => f (n + j))) := by
  induction m with
  | zero => simp [xs_]
  | succ m ih =>
    rw [show n + (m + 1) = (n + m) + 1 from rfl]
    simp only [xs_]
    rw [ih]
    cases xs_ n f <;> cases xs_ m (fun j => f (n + j)) <;> cases f (n + m) <;> rfl
/-- combinations: the sum of those of w that c has, of the first n -/
def vc {ι : Type} (n : Nat) (c : Nat → Bool) (w : Nat → ι → Bool) : ι → Bool := fun j => xs_ n (fun i => c i && w i j)
theorem vc_xor {ι : Type} (n : Nat) (c d : Nat → Bool) (w : Nat → ι → Bool) : vc n (fun i => c i ^^ d i) w = vx (vc n c w) (vc n d w) := by
  funext j
  unfold vc vx
  rw [← xs_xor]
  apply xs_congr
  intro i _
  exact bx1 _ _ _
/-- independent: no combination is nothing but the empty one -/
def Ind {ι : Type} (n : Nat) (w : Nat → ι → Bool) : Prop := ∀ c : Nat → Bool, (vc n c w = v0) → ∀ i, i < n → c i = false
def Spn {ι : Type} (n : Nat) (w : Nat → ι → Bool) (x : ι → Bool) : Prop := ∃ c : Nat → Bool, x = vc n c w
/-- in a span of m there are no more than m independent ones -/
theorem ind_le {ι : Type} : ∀ (m n : Nat) (v w : Nat → ι → Bool), Ind n v → (∀ i, i < n → Spn m w (v i)) → n ≤ m := by
  intro m
  induction m with
  | zero =>
    intro n v w hI hS
    cases n with
    | zero => exact Nat.le_refl _
    | succ n =>
      exfalso
      obtain ⟨c, hc⟩ := hS n (by omega)
      have := hI (fun i => decide (i = n)) (by
        funext j
        unfold vc
        rw [xs_single (by omega), hc]
        rfl) n (by omega)
      simp at this
  | succ m ih =>
    intro n v w hI hS
    have hch := fun i : Nat => fun hi : i < n => hS i hi
    -- coefficients
    let C : Nat → Nat → Bool := fun i => if h : i < n then Classical.choose (hS i h) else fun _ => false
    have hC : ∀ i, i < n → v i = vc (m + 1) (C i) w := fun i hi => by
      have := Classical.choose_spec (hS i hi)
      show v i = vc (m + 1) (if h : i < n then Classical.choose (hS i h) else fun _ => false) w
      rw [dif_pos hi]
      exact this
    by_cases hp : ∃ p, p < n ∧ C p m = true
    · obtain ⟨p, hpn, hpm⟩ := hp
      -- eliminate w m with v p; the others shift down
      let s : Nat → Nat := fun i => if i < p then i else i + 1
      let v' : Nat → ι → Bool := fun i => fun j => v (s i) j ^^ (C (s i) m && v p j)
      have hs : ∀ i, i < n - 1 → s i < n ∧ s i ≠ p := fun i hi => by
        show (if i < p then i else i + 1) < n ∧ (if i < p then i else i + 1) ≠ p
        split <;> omega
      have hn1 : n - 1 ≤ m := by
        refine ih (n - 1) v' w ?_ ?_
        · intro c hc
          -- c' on n: at s i it is c i, at p the sum
          let inv : Nat → Nat := fun k => if k < p then k else k - 1
          let c' : Nat → Bool := fun k => if k = p then xs_ (n - 1) (fun i => c i && C (s i) m) else c (inv k)
          have key : vc n c' v = v0 := by
            funext j
            have e1 : vc n c' v j = (xs_ (n - 1) (fun i => c i && v (s i) j) ^^ (c' p && v p j)) := by
              unfold vc
              have hsplit : ∀ N q : Nat, ∀ g : Nat → Bool, q ≤ N → xs_ (N + 1) g = (xs_ N (fun i => g (if i < q then i else i + 1)) ^^ g q) := by
                intro N
                induction N with
                | zero => intro q g hq; have : q = 0 := by omega
                          subst this; simp [xs_]
                | succ N ihN =>
                  intro q g hq
                  by_cases hqN : q ≤ N
                  · have e : xs_ (N + 1 + 1) g = (xs_ (N + 1) g ^^ g (N + 1)) := rfl
                    rw [e, ihN q g hqN]
                    have e2 : xs_ (N + 1) (fun i => g (if i < q then i else i + 1)) = (xs_ N (fun i => g (if i < q then i else i + 1)) ^^ g (if N < q then N else N + 1)) := rfl
                    rw [e2, if_neg (by omega)]
                    cases xs_ N (fun i => g (if i < q then i else i + 1)) <;> cases g q <;> cases g (N + 1) <;> rfl
                  · have : q = N + 1 := by omega
                    subst this
                    have e : xs_ (N + 1 + 1) g = (xs_ (N + 1) g ^^ g (N + 1)) := rfl
                    rw [e]
                    congr 1
                    apply xs_congr
                    intro i hi
                    rw [if_pos (by omega)]
              have hn : n = (n - 1) + 1 := by omega
              rw [show xs_ n (fun i => c' i && v i j) = xs_ ((n - 1) + 1) (fun i => c' i && v i j) by rw [← hn], hsplit (n - 1) p _ (by omega)]
              congr 1
              apply xs_congr
              intro i hi
              have e3 : c' (if i < p then i else i + 1) = c i := by
                show (if (if i < p then i else i + 1) = p then _ else c (inv (if i < p then i else i + 1))) = c i
                rw [if_neg (by split <;> omega)]
                show c (if (if i < p then i else i + 1) < p then (if i < p then i else i + 1) else (if i < p then i else i + 1) - 1) = c i
                congr 1
                by_cases hip : i < p
                · rw [if_pos hip, if_pos hip]
                · rw [if_neg hip, if_neg (by omega)]; omega
              rw [e3]
            rw [e1]
            have e2 : c' p = xs_ (n - 1) (fun i => c i && C (s i) m) := by
              show (if p = p then _ else _) = _
              rw [if_pos rfl]
            rw [e2, ← xs_and', ← xs_xor]
            have := congrFun hc j
            unfold vc at this
            rw [← this]
            apply xs_congr
            intro i _
            show _ = (c i && (v (s i) j ^^ (C (s i) m && v p j)))
            cases c i <;> cases v (s i) j <;> cases C (s i) m <;> cases v p j <;> rfl
          have hz := hI c' key
          intro i hi
          have h1 := hz (s i) (hs i hi).1
          have h2 : c' (s i) = c i := by
            show (if s i = p then _ else c (inv (s i))) = c i
            rw [if_neg (hs i hi).2]
            show c (if s i < p then s i else s i - 1) = c i
            congr 1
            show (if (if i < p then i else i + 1) < p then (if i < p then i else i + 1) else (if i < p then i else i + 1) - 1) = i
            by_cases hip : i < p
            · rw [if_pos hip, if_pos hip]
            · rw [if_neg hip, if_neg (by omega)]; omega
          rw [← h2]
          exact h1
        · intro i hi
          refine ⟨fun k => C (s i) k ^^ (C (s i) m && C p k), ?_⟩
          funext j
          show (v (s i) j ^^ (C (s i) m && v p j)) = xs_ m (fun k => (C (s i) k ^^ (C (s i) m && C p k)) && w k j)
          have a1 := congrFun (hC (s i) (hs i hi).1) j
          have a2 := congrFun (hC p hpn) j
          rw [a1, a2]
          unfold vc
          have b1 : xs_ (m + 1) (fun k => C (s i) k && w k j) = (xs_ m (fun k => C (s i) k && w k j) ^^ (C (s i) m && w m j)) := rfl
          have b2 : xs_ (m + 1) (fun k => C p k && w k j) = (xs_ m (fun k => C p k && w k j) ^^ (C p m && w m j)) := rfl
          rw [b1, b2, hpm]
          have b3 : xs_ m (fun k => (C (s i) k ^^ (C (s i) m && C p k)) && w k j) = (xs_ m (fun k => C (s i) k && w k j) ^^ (C (s i) m && xs_ m (fun k => C p k && w k j))) := by
            rw [← xs_and, ← xs_xor]
            apply xs_congr
            intro k _
            cases C (s i) k <;> cases C (s i) m <;> cases C p k <;> cases w k j <;> rfl
          rw [b3]
          cases xs_ m (fun k => C (s i) k && w k j) <;> cases C (s i) m <;> cases xs_ m (fun k => C p k && w k j) <;> cases w m j <;> rfl
      omega
    · have hp' : ∀ i, i < n → C i m = false := fun i hi => by
        cases h : C i m
        · rfl
        · exact absurd ⟨i, hi, h⟩ hp
      have := ih n v w hI (fun i hi => ⟨C i, by
        rw [hC i hi]
        funext j
        show (xs_ m (fun k => C i k && w k j) ^^ (C i m && w m j)) = xs_ m (fun k => C i k && w k j)
        rw [hp' i hi]
        simp⟩)
      omega
