/-! Arrays.fill over ints; Integer.bitCount -/
def zfill (I : zFi) (q lo hi : Nat) (x : Int) : zFi := fun a b => if a = q ∧ lo ≤ b ∧ b < hi then x else I a b
theorem zfill_0 (I : zFi) (q lo : Nat) (x : Int) : zfill I q lo lo x = I := by
  funext a b
  unfold zfill
  rw [if_neg (by omega)]
theorem zfill_step (I : zFi) (q lo i : Nat) (x : Int) (h : lo ≤ i) : zu (zfill I q lo i x) q i x = zfill I q lo (i + 1) x := by
  funext a b
  unfold zu zfill
  by_cases h1 : a = q ∧ b = i
  · rw [if_pos h1, if_pos ⟨h1.1, by omega⟩]
  · rw [if_neg h1]
    by_cases h2 : a = q ∧ lo ≤ b ∧ b < i
    · rw [if_pos h2, if_pos ⟨h2.1, by omega⟩]
    · rw [if_neg h2, if_neg (by omega)]
theorem zfill_r {I : zFi} {q lo hi a : Nat} {x : Int} (h : a ≠ q) : zfill I q lo hi x a = I a := by
  funext b
  unfold zfill
  rw [if_neg (fun e => h e.1)]
theorem c_J7_rangeCheck (l : Launch) (D : va_G) (sh : Nat → Option zS) (F I : zFi) (J : zJi) {n lo hi : Nat} (h1 : lo ≤ hi) (h2 : hi ≤ n) (h3 : n < 2147483648) :
    Cn l D yJ7_rangeCheck_23922 wsJ7_rangeCheck_23922 mJ7_rangeCheck_23922.2.2.2.2 sh [.inl n, .inl lo, .inl hi] F I J (fun v F' I' J' => v = none ∧ F' = F ∧ I' = I ∧ J' = J) := by
  refine zmet (M := mJ7_rangeCheck_23922) rfl rfl rfl kJ7_rangeCheck_23922 (Nat.le_of_ble_eq_true rfl) (fun X hX hR hl hD hsh => ?_)
  subst hl hD hsh
  refine zgo (fun _ => false) 200 hX hR rfl ?_
  refine And.intro (fun c1 => ?_) (fun c1 => ?_)
  · refine And.intro (fun c2 => ?_) (fun c2 => ?_)
    · refine And.intro (fun c3 => ?_) (fun c3 => ?_)
      · exact And.intro rfl ⟨rfl, rfl, rfl⟩
      · omega
    · omega
  · omega
theorem c_J7_fill (l : Launch) (D : va_G) (sh : Nat → Option zS) {q n : Nat} {cA : ClassId} (hq : sh q = some (.inr (.inl (cA, n)))) (hn : n < 2147483648) (F I : zFi) (J : zJi) (x : Int) :
    Cn l D yJ7_fill_53178 wsJ7_fill_53178 mJ7_fill_53178.2.2.2.2 sh [.inr (.inr (some q)), .inl x] F I J (fun v F' I' J' => v = none ∧ F' = F ∧ I' = zfill I q 0 n x ∧ J' = J) := by
  refine zmet (M := mJ7_fill_53178) rfl rfl rfl kJ7_fill_53178 (Nat.le_of_ble_eq_true rfl) (fun X hX hR hl hD hsh => ?_)
  subst hl hD hsh
  have loop : ∀ d i : Nat, i + d = n → HW X 5 [some (.inr (.inr (some q))), some (.inl x), some (.inl (i : Int)), some (.inl (n : Int))] [] F (zfill I q 0 i x) J := by
    intro d
    induction d with
    | zero =>
      intro i hi
      refine zgo (fun pc => Nat.beq pc 5) 200 hX hR rfl ?_
      refine And.intro (fun c1 => ?_) (fun c1 => ?_)
      · exact And.intro rfl ⟨rfl, by rw [show i = n by omega], rfl⟩
      · omega
    | succ d ih =>
      intro i hi
      refine zgo (fun pc => Nat.beq pc 5) 200 hX hR rfl ?_
      refine And.intro (fun c1 => ?_) (fun c1 => ?_)
      · omega
      · refine Exists.intro _ ⟨_, i, hq, rfl, by omega, ?_⟩
        rw [zfill_step _ _ _ _ _ (Nat.zero_le _)]
        exact ih (i + 1) (by omega)
  refine zgo (fun pc => Nat.beq pc 5) 200 hX hR rfl ?_
  refine Exists.intro _ ⟨hq, ?_⟩
  have := loop n 0 (by omega)
  rw [zfill_0] at this
  exact this
theorem c_J7_fill4 (l : Launch) (D : va_G) (sh : Nat → Option zS) {q n : Nat} {cA : ClassId} (hq : sh q = some (.inr (.inl (cA, n)))) (hn : n < 2147483648) (F I : zFi) (J : zJi) {lo hi : Nat} (x : Int) (h1 : lo ≤ hi) (h2 : hi ≤ n) :
    Cn l D yJ7_fill_fda19 wsJ7_fill_fda19 mJ7_fill_fda19.2.2.2.2 sh [.inr (.inr (some q)), .inl lo, .inl hi, .inl x] F I J (fun v F' I' J' => v = none ∧ F' = F ∧ I' = zfill I q lo hi x ∧ J' = J) := by
  refine zmet (M := mJ7_fill_fda19) rfl rfl rfl kJ7_fill_fda19 (Nat.le_of_ble_eq_true rfl) (fun X hX hR hl hD hsh => ?_)
  subst hl hD hsh
  have loop : ∀ d i : Nat, i + d = hi → lo ≤ i → HW X 10 [some (.inr (.inr (some q))), some (.inl (lo : Int)), some (.inl (hi : Int)), some (.inl x), some (.inl (i : Int))] [] F (zfill I q lo i x) J := by
    intro d
    induction d with
    | zero =>
      intro i hi' hlo
      refine zgo (fun pc => Nat.beq pc 10) 200 hX hR rfl ?_
      refine And.intro (fun c1 => ?_) (fun c1 => ?_)
      · exact And.intro rfl ⟨rfl, by rw [show i = hi by omega], rfl⟩
      · omega
    | succ d ih =>
      intro i hi' hlo
      refine zgo (fun pc => Nat.beq pc 10) 200 hX hR rfl ?_
      refine And.intro (fun c1 => ?_) (fun c1 => ?_)
      · omega
      · refine Exists.intro _ ⟨_, i, hq, rfl, by omega, ?_⟩
        rw [zfill_step _ _ _ _ _ hlo]
        exact ih (i + 1) (by omega) (by omega)
  refine zgo (fun pc => Nat.beq pc 10) 200 hX hR rfl ?_
  refine Exists.intro _ ⟨hq, ?_⟩
  refine qJ7_fill_fda19_13 hX (c_J7_rangeCheck (xl X) (xD X) (xsh X) F I J h1 h2 hn) (fun v F' I' J' hv => ?_)
  obtain ⟨rfl, rfl, rfl, rfl⟩ := hv
  have := loop (hi - lo) lo (by omega) (Nat.le_refl _)
  rw [zfill_0] at this
  exact this
/-- the twos of an int, as the library counts them -/
def zswi (x : Int) : Int :=
  let a := x - zand (zush x 1) 1431655765
  let b := zand a 858993459 + zand (zush a 2) 858993459
  let c := zand (b + zush b 4) 252645135
  let d := c + zush c 8
  let e := d + zush d 16
  zand e 63
theorem c_J6_bitCount (l : Launch) (D : va_G) (sh : Nat → Option zS) (F I : zFi) (J : zJi) (x : Int) :
    Cn l D yJ6_bitCount_0f7a4 wsJ6_bitCount_0f7a4 mJ6_bitCount_0f7a4.2.2.2.2 sh [.inl x] F I J (zself F I J (.inl (zswi x))) := by
  refine zmet (M := mJ6_bitCount_0f7a4) rfl rfl rfl kJ6_bitCount_0f7a4 (Nat.le_of_ble_eq_true rfl) (fun X hX hR hl hD hsh => ?_)
  subst hl hD hsh
  refine zgo (fun _ => false) 200 hX hR rfl ?_
  exact And.intro rfl ⟨rfl, rfl, rfl⟩
/-- how many bits of the first n -/
def zpop (x : Nat) : Nat → Nat
  | 0 => 0
  | n + 1 => zpop x n + (if x.testBit n then 1 else 0)
theorem zswi_64 : ∀ a : Fin 64, ∀ b : Fin 64, zswi ((64 * a.val + b.val : Nat) : Int) = (zpop (64 * a.val + b.val) 12 : Int) := by decide +kernel
theorem zswi_small {x : Nat} (h : x < 4096) : zswi (x : Int) = (zpop x 12 : Int) := by
  have := zswi_64 ⟨x / 64, by omega⟩ ⟨x % 64, Nat.mod_lt _ (by decide)⟩
  rwa [show 64 * (x / 64) + x % 64 = x by omega] at this
