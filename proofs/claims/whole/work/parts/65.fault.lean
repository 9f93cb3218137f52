/-! Space: findFault, firstFault, isSound -/
def fe (P : Nat → Bool) : Nat → Nat → Option Nat
  | 0, _ => none
  | k + 1, e => if P e then some e else fe P k (e + 1)
def fbb (n : Nat) (P : Nat → Nat → Bool) : Nat → Nat → Option (Nat × Nat)
  | 0, _ => none
  | k + 1, b => match fe (P b) n 0 with
    | some e => some (b, e)
    | none => fbb n P k (b + 1)
def faa (n : Nat) (P : Nat → Nat → Nat → Bool) : Nat → Nat → Option (Nat × Nat × Nat)
  | 0, _ => none
  | k + 1, a => match fbb n (P a) (12 - a - a / 2) (a / 2 + 1) with
    | some (b, e) => some (a, b, e)
    | none => faa n P k (a + 1)
def spBad (A : Nat → Nat → Nat) (n a b e : Nat) : Bool := !Nat.beq (sap A n a (A b e)) (spr A n a b e)
/-- where THE RULE fails first -/
def sFault (A : Nat → Nat → Nat) (n : Nat) : Option (Nat × Nat × Nat) := faa n (spBad A n) 12 1
def sFw (I : zFi) (fa : Nat) : Option (Nat × Nat × Nat) → zFi
  | none => zfill I fa 0 3 (-9)
  | some (a, b, e) => zu (zu (zu (zfill I fa 0 3 (-9)) fa 0 a) fa 1 b) fa 2 e
theorem fe_some {P : Nat → Bool} : ∀ {k e r : Nat}, fe P k e = some r → e ≤ r ∧ r < e + k := by
  intro k
  induction k with
  | zero => intro e r h; cases h
  | succ k ih =>
    intro e r h
    have h' : (if P e then some e else fe P k (e + 1)) = some r := h
    cases hp : P e
    · rw [hp, if_neg (by decide)] at h'
      have := ih h'
      omega
    · rw [hp, if_pos rfl] at h'
      cases h'
      omega
theorem spA_of {I I' : zFi} {ac : Nat} {A : Nat → Nat → Nat} (h : spA I ac A) (e : I' ac = I ac) : spA I' ac A := by
  intro i j h1 h2
  have := h i j h1 h2
  unfold sac at this ⊢
  rw [e]
  exact this
theorem spr_lt {I : zFi} {ac : Nat} {A : Nat → Nat → Nat} (hA : spA I ac A) {n a b e : Nat} (hn : n ≤ 12) (he : e < 12) : spr A n a b e < 4096 := xorN_lt (m := 12) (fun _ _ => sprt_lt hA hn he)
theorem c_X5_findFault (l : Launch) (D : va_G) (sh : Nat → Option zS) {p dg ac fa : Nat} (hs : zsSp sh p dg ac fa) (F I : zFi) (J : zJi) {n : Nat} (hn : F p 3 = (n : Int)) (hn2 : n ≤ 12) {A : Nat → Nat → Nat} (hA : spA I ac A) :
    Cn l D yX5_findFault wsX5_findFault mX5_findFault.2.2.2.2 sh [.inr (.inr (some p))] F I J (fun v F' I' J' => v = none ∧ F' = F ∧ I' = sFw I fa (sFault A n) ∧ J' = J) := by
  obtain ⟨cA, hc⟩ := hs.2.2.2
  have hne : ac ≠ fa := by
    obtain ⟨cB, hB⟩ := hs.2.2.1
    intro z
    rw [z, hc] at hB
    cases hB
  refine zmet (M := mX5_findFault) rfl rfl rfl kX5_findFault (Nat.le_of_ble_eq_true rfl) (fun X hX hR hl hD hsh => ?_)
  subst hl hD hsh
  have hA1 : spA (zfill I fa 0 3 (-9)) ac A := spA_of hA (zfill_r hne)
  -- over ELEMENTS
  have loopE : ∀ a b : Nat, 1 ≤ a → a / 2 + 1 ≤ b → a + b ≤ 12 → (∀ e : Nat, fe (spBad A n a b) n 0 = some e → sFault A n = some (a, b, e)) →
      (fe (spBad A n a b) n 0 = none → HW X 90 [some (.inr (.inr (some p))), some (.inl (a : Int)), some (.inl (b : Int)), some (.inl (n : Int))] [] F (zfill I fa 0 3 (-9)) J) →
      ∀ k e : Nat, e + k = n → fe (spBad A n a b) k e = fe (spBad A n a b) n 0 → HW X 33 [some (.inr (.inr (some p))), some (.inl (a : Int)), some (.inl (b : Int)), some (.inl (e : Int))] [] F (zfill I fa 0 3 (-9)) J := by
    intro a b ha hb hab hsome hnone k
    induction k with
    | zero =>
      intro e he hf
      have h2 := hnone hf.symm
      rw [show n = e by omega] at h2
      refine zgo (fun pc => Nat.beq pc 33 || Nat.beq pc 90) 200 hX hR rfl ?_
      refine Exists.intro _ ⟨hs.1, ?_⟩
      refine And.intro (fun c1 => h2) (fun c1 => ?_)
      omega
    | succ k ih =>
      intro e he hf
      refine zgo (fun pc => Nat.beq pc 33 || Nat.beq pc 90) 200 hX hR rfl ?_
      refine Exists.intro _ ⟨hs.1, ?_⟩
      refine And.intro (fun c1 => by omega) (fun c1 => ?_)
      refine qX5_findFault_57 hX (c_X5_acted (xl X) (xD X) (xsh X) hs F _ J (i := (b : Int)) (e := (e : Int)) ⟨by omega, by omega⟩ ⟨by omega, by omega⟩) hs.1 (fun v F' I' J' hv => ?_)
      obtain ⟨rfl, rfl, rfl, rfl⟩ := hv
      obtain ⟨e1, e2⟩ := hA1 b e (by omega) (by omega)
      have cA := c_X5_apply (xl X) (xD X) (xsh X) hs F' (zfill I fa 0 3 (-9)) J' hn hn2 hA1 (i := a) (x := A b e) (by omega) e2
      rw [← e1] at cA
      refine qX5_findFault_67 hX cA hs.1 (fun v F' I' J' hv => ?_)
      obtain ⟨rfl, rfl, rfl, rfl⟩ := hv
      refine qX5_findFault_70 hX (c_X5_byTheRule (xl X) (xD X) (xsh X) hs F' (zfill I fa 0 3 (-9)) J' hn hn2 hA1 (a := a) (b := b) (e := e) ha hb hab (by omega)) hs.1 (fun v F' I' J' hv => ?_)
      obtain ⟨rfl, rfl, rfl, rfl⟩ := hv
      have b1 := sap_lt hA1 (i := a) hn2 e2
      have b2 := spr_lt hA1 (a := a) (b := b) hn2 (show e < 12 by omega)
      have hfe : fe (spBad A n a b) (k + 1) e = if spBad A n a b e then some e else fe (spBad A n a b) k (e + 1) := rfl
      rw [hfe] at hf
      refine And.intro (fun c2 => ?_) (fun c2 => ?_)
      · have hb0 : spBad A n a b e = false := by
          unfold spBad
          rw [show sap A n a (A b e) = spr A n a b e by omega, Nat.beq_refl]
          rfl
        rw [hb0, if_neg (by decide)] at hf
        exact ih (e + 1) (by omega) hf
      · have hb1 : spBad A n a b e = true := by
          unfold spBad
          cases hq : Nat.beq (sap A n a (A b e)) (spr A n a b e)
          · rfl
          · exact absurd (congrArg (fun z : Nat => ((z : Int) + 2147483648) % 4294967296) (Nat.eq_of_beq_eq_true hq)) (by omega)
        rw [hb1, if_pos rfl] at hf
        refine Exists.intro _ ⟨hs.1, ?_⟩
        refine Exists.intro _ ⟨_, 0, hc, rfl, by decide, ?_⟩
        refine Exists.intro _ ⟨hs.1, ?_⟩
        refine Exists.intro _ ⟨_, 1, hc, rfl, by decide, ?_⟩
        refine Exists.intro _ ⟨hs.1, ?_⟩
        refine Exists.intro _ ⟨_, 2, hc, rfl, by decide, ?_⟩
        exact And.intro rfl ⟨rfl, by rw [hsome e hf.symm]; rfl, rfl⟩
  have loopB : ∀ a : Nat, 1 ≤ a → a ≤ 12 → (∀ b e : Nat, fbb n (spBad A n a) (12 - a - a / 2) (a / 2 + 1) = some (b, e) → sFault A n = some (a, b, e)) →
      (fbb n (spBad A n a) (12 - a - a / 2) (a / 2 + 1) = none → ∀ lb le, HW X 96 [some (.inr (.inr (some p))), some (.inl (a : Int)), lb, le] [] F (zfill I fa 0 3 (-9)) J) →
      ∀ k b : Nat, a / 2 + 1 ≤ b → b + k = a / 2 + 1 + (12 - a - a / 2) → fbb n (spBad A n a) k b = fbb n (spBad A n a) (12 - a - a / 2) (a / 2 + 1) → ∀ le, HW X 23 [some (.inr (.inr (some p))), some (.inl (a : Int)), some (.inl (b : Int)), le] [] F (zfill I fa 0 3 (-9)) J := by
    intro a ha ha2 hsome hnone k
    induction k with
    | zero =>
      intro b hb0 hb hf le
      have h2 := hnone hf.symm (some (.inl (b : Int))) le
      refine zgo (fun pc => Nat.beq pc 23 || Nat.beq pc 96) 200 hX hR rfl ?_
      refine And.intro (fun c1 => h2) (fun c1 => ?_)
      omega
    | succ k ih =>
      intro b hb0 hb hf le
      have hfb : fbb n (spBad A n a) (k + 1) b = match fe (spBad A n a b) n 0 with
        | some e => some (b, e)
        | none => fbb n (spBad A n a) k (b + 1) := rfl
      rw [hfb] at hf
      have hE := loopE a b ha hb0 (by omega) (fun e he => by
        rw [he] at hf
        exact hsome b e hf.symm) (fun he => by
        rw [he] at hf
        have h3 := ih (b + 1) (by omega) (by omega) hf (some (.inl (n : Int)))
        refine zgo (fun pc => Nat.beq pc 23 || Nat.beq pc 96) 200 hX hR rfl ?_
        exact h3) n 0 (by omega) rfl
      refine zgo (fun pc => Nat.beq pc 23 || Nat.beq pc 96 || Nat.beq pc 33) 200 hX hR rfl ?_
      refine And.intro (fun c1 => by omega) (fun c1 => ?_)
      exact hE
  have loopA : ∀ k a : Nat, 1 ≤ a → a + k = 13 → faa n (spBad A n) k a = sFault A n → ∀ lb le, HW X 11 [some (.inr (.inr (some p))), some (.inl (a : Int)), lb, le] [] F (zfill I fa 0 3 (-9)) J := by
    intro k
    induction k with
    | zero =>
      intro a ha1 ha hf lb le
      refine zgo (fun pc => Nat.beq pc 11) 200 hX hR rfl ?_
      refine And.intro (fun c1 => ?_) (fun c1 => by omega)
      exact And.intro rfl ⟨rfl, by rw [← hf]; rfl, rfl⟩
    | succ k ih =>
      intro a ha1 ha hf lb le
      have hfa : faa n (spBad A n) (k + 1) a = match fbb n (spBad A n a) (12 - a - a / 2) (a / 2 + 1) with
        | some (b, e) => some (a, b, e)
        | none => faa n (spBad A n) k (a + 1) := rfl
      rw [hfa] at hf
      have hB := loopB a ha1 (by omega) (fun b e he => by
        rw [he] at hf
        exact hf.symm) (fun he lb le => by
        rw [he] at hf
        have h3 := ih (a + 1) (by omega) (by omega) hf lb le
        refine zgo (fun pc => Nat.beq pc 11) 200 hX hR rfl ?_
        exact h3) (12 - a - a / 2) (a / 2 + 1) (Nat.le_refl _) rfl rfl le
      have hd : zdiv (a : Int) 2 = ((a / 2 : Nat) : Int) := zdiv_eq (d := 2) (by omega) (by decide) (by decide)
      refine zgo (fun pc => Nat.beq pc 11 || Nat.beq pc 23) 200 hX hR rfl ?_
      refine And.intro (fun c1 => by omega) (fun c1 => ?_)
      refine And.intro (by omega) ?_
      rw [show ((a / 2 + 1 : Nat) : Int) = zdiv (a : Int) 2 + 1 by rw [hd]; rfl] at hB
      exact hB
  refine zgo (fun pc => Nat.beq pc 11) 200 hX hR rfl ?_
  refine Exists.intro _ ⟨hs.1, ?_⟩
  refine qX5_findFault_33 hX (c_J7_fill (xl X) (xD X) (xsh X) hc (by decide) F I J (-9)) (fun v F' I' J' hv => ?_)
  obtain ⟨rfl, rfl, rfl, rfl⟩ := hv
  exact loopA 12 1 (by omega) rfl rfl none none
theorem fe_some2 {P : Nat → Bool} : ∀ {k e r : Nat}, fe P k e = some r → e ≤ r ∧ r < e + k := fe_some
theorem fbb_some {n : Nat} {P : Nat → Nat → Bool} : ∀ {k b b' e : Nat}, fbb n P k b = some (b', e) → b ≤ b' ∧ b' < b + k ∧ e < n := by
  intro k
  induction k with
  | zero => intro b b' e h; cases h
  | succ k ih =>
    intro b b' e h
    have h' : (match fe (P b) n 0 with
      | some e => some (b, e)
      | none => fbb n P k (b + 1)) = some (b', e) := h
    cases hp : fe (P b) n 0 with
    | none =>
      rw [hp] at h'
      have := ih h'
      omega
    | some r =>
      rw [hp] at h'
      cases h'
      have := fe_some hp
      omega
theorem faa_some {n : Nat} {P : Nat → Nat → Nat → Bool} : ∀ {k a a' b e : Nat}, faa n P k a = some (a', b, e) → a ≤ a' ∧ a' < a + k ∧ e < n ∧ a' / 2 + 1 ≤ b ∧ b < a' / 2 + 1 + (12 - a' - a' / 2) := by
  intro k
  induction k with
  | zero => intro a a' b e h; cases h
  | succ k ih =>
    intro a a' b e h
    have h' : (match fbb n (P a) (12 - a - a / 2) (a / 2 + 1) with
      | some (b, e) => some (a, b, e)
      | none => faa n P k (a + 1)) = some (a', b, e) := h
    cases hp : fbb n (P a) (12 - a - a / 2) (a / 2 + 1) with
    | none =>
      rw [hp] at h'
      have := ih h'
      omega
    | some r =>
      obtain ⟨r1, r2⟩ := r
      rw [hp] at h'
      cases h'
      have := fbb_some hp
      omega
def sFv : Option (Nat × Nat × Nat) → Nat → Int
  | none, _ => -9
  | some (a, b, e), j => if j = 0 then a else if j = 1 then b else e
theorem sFw_at (I : zFi) (fa : Nat) (r : Option (Nat × Nat × Nat)) {j : Nat} (hj : j < 3) : sFw I fa r fa j = sFv r j := by
  cases r with
  | none => show (if fa = fa ∧ 0 ≤ j ∧ j < 3 then (-9 : Int) else _) = -9; rw [if_pos ⟨rfl, by omega, hj⟩]
  | some r =>
    obtain ⟨a, b, e⟩ := r
    show zu (zu (zu (zfill I fa 0 3 (-9)) fa 0 a) fa 1 b) fa 2 e fa j = if j = 0 then (a : Int) else if j = 1 then b else e
    rcases (show j = 0 ∨ j = 1 ∨ j = 2 by omega) with rfl | rfl | rfl
    · rw [zu_n (by omega), zu_n (by omega), zu_s]; rfl
    · rw [zu_n (by omega), zu_s]; rfl
    · rw [zu_s]; rfl
theorem sFw_r {I : zFi} {fa q : Nat} (r : Option (Nat × Nat × Nat)) (h : q ≠ fa) : sFw I fa r q = I q := by
  cases r with
  | none => exact zfill_r h
  | some r =>
    obtain ⟨a, b, e⟩ := r
    show zu (zu (zu (zfill I fa 0 3 (-9)) fa 0 a) fa 1 b) fa 2 e q = I q
    rw [zu_r h, zu_r h, zu_r h, zfill_r h]
theorem sFault_b {A : Nat → Nat → Nat} {n a b e : Nat} (h : sFault A n = some (a, b, e)) : 1 ≤ a ∧ a ≤ 12 ∧ 1 ≤ b ∧ b ≤ 12 ∧ e < n := by
  have := faa_some h
  omega
theorem zu_id {F : zFi} {p j : Nat} {x : Int} (h : F p j = x) : zu F p j x = F := by
  funext a b
  unfold zu
  split
  · rename_i h2
    rw [h2.1, h2.2, h]
  · rfl
/-- what the memory knows of the faults -/
def spK (F I : zFi) (p fa : Nat) (r : Option (Nat × Nat × Nat)) : Prop := F p 4 = 0 ∨ (F p 4 = 1 ∧ ∀ j, j < 3 → I fa j = sFv r j)
def sFI (F I : zFi) (p fa : Nat) (r : Option (Nat × Nat × Nat)) : zFi := if F p 4 = 0 then sFw I fa r else I
theorem c_X5_firstFault (l : Launch) (D : va_G) (sh : Nat → Option zS) {p dg ac fa : Nat} (hs : zsSp sh p dg ac fa) (F I : zFi) (J : zJi) {n : Nat} (hn : F p 3 = (n : Int)) (hn2 : n ≤ 12) {A : Nat → Nat → Nat} (hA : spA I ac A) (hk : spK F I p fa (sFault A n)) {w : Int} (hw : zi32 w) :
    Cn l D yX5_firstFault wsX5_firstFault mX5_firstFault.2.2.2.2 sh [.inr (.inr (some p)), .inl w] F I J (fun v F' I' J' => v = some (.inl (if 0 ≤ w ∧ w < 3 then sFv (sFault A n) w.toNat else -9)) ∧ F' = zu F p 4 1 ∧ I' = sFI F I p fa (sFault A n) ∧ J' = J) := by
  unfold zi32 at hw
  obtain ⟨cA, hc⟩ := hs.2.2.2
  refine zmet (M := mX5_firstFault) rfl rfl rfl kX5_firstFault (Nat.le_of_ble_eq_true rfl) (fun X hX hR hl hD hsh => ?_)
  subst hl hD hsh
  have tail : (∀ j, j < 3 → sFI F I p fa (sFault A n) fa j = sFv (sFault A n) j) → HW X 16 [some (.inr (.inr (some p))), some (.inl w)] [] (zu F p 4 1) (sFI F I p fa (sFault A n)) J := by
    intro hv
    refine zgo (fun _ => false) 200 hX hR rfl ?_
    refine And.intro (fun c1 => ?_) (fun c1 => ?_)
    · exact And.intro (by rw [if_neg (by omega)]) ⟨rfl, rfl, rfl⟩
    refine Exists.intro _ ⟨hs.1, ?_⟩
    refine Exists.intro _ ⟨hc, ?_⟩
    refine And.intro (fun c2 => ?_) (fun c2 => ?_)
    · exact And.intro (by rw [if_neg (by omega)]) ⟨rfl, rfl, rfl⟩
    refine Exists.intro _ ⟨hs.1, ?_⟩
    refine Exists.intro _ ⟨_, w.toNat, hc, by omega, by omega, ?_⟩
    exact And.intro (by rw [if_pos (by omega), hv _ (by omega)]) ⟨rfl, rfl, rfl⟩
  refine zgo (fun pc => Nat.beq pc 16) 200 hX hR rfl ?_
  refine Exists.intro _ ⟨hs.1, ?_⟩
  rcases hk with hk | ⟨hk, hk2⟩
  · have e1 : sFI F I p fa (sFault A n) = sFw I fa (sFault A n) := by unfold sFI; rw [if_pos hk]
    refine And.intro (fun c1 => absurd (congrArg (fun z => z % 4294967296) hk) (by intro z; exact c1 z)) (fun c1 => ?_)
    refine qX5_firstFault_64 hX (c_X5_findFault (xl X) (xD X) (xsh X) hs F I J hn hn2 hA) hs.1 (fun v F' I' J' hv => ?_)
    obtain ⟨rfl, rfl, rfl, rfl⟩ := hv
    refine Exists.intro _ ⟨hs.1, Or.inr rfl, ?_⟩
    have t := tail (fun j hj => by rw [e1]; exact sFw_at _ _ _ hj)
    rw [e1] at t
    exact t
  · have e1 : sFI F I p fa (sFault A n) = I := by unfold sFI; rw [if_neg (by rw [hk]; decide)]
    have t := tail (fun j hj => by rw [e1]; exact hk2 j hj)
    rw [e1, zu_id hk] at t
    refine And.intro (fun c1 => t) (fun c1 => ?_)
    rw [hk] at c1
    exact absurd c1 (by decide)
theorem c_X5_isSound (l : Launch) (D : va_G) (sh : Nat → Option zS) {p dg ac fa : Nat} (hs : zsSp sh p dg ac fa) (F I : zFi) (J : zJi) {n : Nat} (hn : F p 3 = (n : Int)) (hn2 : n ≤ 12) {A : Nat → Nat → Nat} (hA : spA I ac A) (hk : spK F I p fa (sFault A n)) :
    Cn l D yX5_isSound wsX5_isSound mX5_isSound.2.2.2.2 sh [.inr (.inr (some p))] F I J (fun v F' I' J' => v = some (.inl (if sFault A n = none then 1 else 0)) ∧ F' = zu F p 4 1 ∧ I' = sFI F I p fa (sFault A n) ∧ J' = J) := by
  refine zmet (M := mX5_isSound) rfl rfl rfl kX5_isSound (Nat.le_of_ble_eq_true rfl) (fun X hX hR hl hD hsh => ?_)
  subst hl hD hsh
  refine zgo (fun _ => false) 200 hX hR rfl ?_
  refine qX5_isSound_61 hX (c_X5_firstFault (xl X) (xD X) (xsh X) hs F I J hn hn2 hA hk (w := 0) ⟨by decide, by decide⟩) hs.1 (fun v F' I' J' hv => ?_)
  obtain ⟨rfl, rfl, rfl, rfl⟩ := hv
  cases hr : sFault A n with
  | none =>
    refine And.intro (fun c1 => absurd rfl c1) (fun c1 => ?_)
    exact And.intro (Or.inr rfl) ⟨rfl, rfl, rfl, rfl⟩
  | some r =>
    obtain ⟨a, b, e⟩ := r
    have hb := sFault_b hr
    have e1 : (if (0 : Int) ≤ 0 ∧ (0 : Int) < 3 then sFv (some (a, b, e)) (0 : Int).toNat else -9) = (a : Int) := rfl
    refine And.intro (fun c1 => ?_) (fun c1 => ?_)
    · exact And.intro (Or.inl rfl) ⟨rfl, rfl, rfl, rfl⟩
    · rw [e1] at c1
      omega
