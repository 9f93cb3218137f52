/-! the point's tower: the data are one -/
def pv (s p : Nat) : Bool := decide (s < 6) && decide (p < (pDeg.getD s []).length)
def pd (s p : Nat) : Nat := (pDeg.getD s []).getD p 0
def pM (s p h : Nat) : Nat := ((pGen.getD s []).getD p []).getD h 0
def mk (X : Nat → Nat) : EE := fun g u => decide (g < 8) && (X g).testBit u
def pδ (s p : Nat) : EE := mk (pM s p)
def pK (s t : Nat) : Nat := ((pKer.getD s []).getD t []).length
def kD (s t i q : Nat) : Nat := (((pKer.getD s []).getD t []).getD i []).getD q 0
def aD (s t i q : Nat) : Nat := (((pPre.getD s []).getD t []).getD i []).getD q 0
def eD (s p u : Nat) : Nat := ((pSpl.getD s []).getD p []).getD u 0
def yD (s h v q : Nat) : Nat := (((pBak.getD s []).getD h []).getD v []).getD q 0
def xorN : Nat → (Nat → Nat) → Nat
  | 0, _ => 0
  | n + 1, f => xorN n f ^^^ f n
theorem xorN_bit (f : Nat → Nat) (x : Nat) : ∀ n, (xorN n f).testBit x = xs_ n (fun i => (f i).testBit x) := by
  intro n
  induction n with
  | zero => exact Nat.zero_testBit x
  | succ n ih => simp only [xorN, xs_, Nat.testBit_xor, ih]
/-- the sum of f over the bits of m, by halves -/
def xtr : Nat → Nat → Nat → (Nat → Nat) → Nat
  | 0, m, i, f => match m % 2 with
    | 0 => 0
    | _ + 1 => f i
  | d + 1, m, i, f => match m with
    | 0 => 0
    | k + 1 => xtr d ((k + 1) % 2 ^ (2 ^ d)) i f ^^^ xtr d ((k + 1) / 2 ^ (2 ^ d)) (i + 2 ^ d) f
theorem xtr_bit (f : Nat → Nat) (x : Nat) : ∀ d m i, (xtr d m i f).testBit x = xs_ (2 ^ d) (fun j => m.testBit j && (f (i + j)).testBit x) := by
  intro d
  induction d with
  | zero =>
    intro m i
    show (match m % 2 with | 0 => 0 | _ + 1 => f i).testBit x = (false ^^ (m.testBit 0 && (f (i + 0)).testBit x))
    rw [Nat.testBit_zero, Bool.false_xor]
    rcases Nat.mod_two_eq_zero_or_one m with h | h <;> rw [h] <;> simp
  | succ d ih =>
    intro m i
    have e : xs_ (2 ^ (d + 1)) (fun j => m.testBit j && (f (i + j)).testBit x) = (xs_ (2 ^ d) (fun j => (m % 2 ^ (2 ^ d)).testBit j && (f (i + j)).testBit x) ^^ xs_ (2 ^ d) (fun j => (m / 2 ^ (2 ^ d)).testBit j && (f (i + 2 ^ d + j)).testBit x)) := by
      rw [Nat.pow_succ, Nat.mul_two, xs_add]
      congr 1
      · apply xs_congr
        intro j hj
        rw [Nat.testBit_mod_two_pow]
        simp [hj]
      · apply xs_congr
        intro j _
        rw [Nat.testBit_div_two_pow, Nat.add_assoc, Nat.add_comm j]
    rw [e, ← ih, ← ih, ← Nat.testBit_xor]
    cases m with
    | zero =>
      show (0 : Nat).testBit x = _
      rw [Nat.zero_mod, Nat.zero_div]
      have z : ∀ d i, xtr d 0 i f = 0 := by
        intro d i
        cases d <;> rfl
      rw [z, z]
      rfl
    | succ k => rfl
def xtr61 (m : Nat) (f : Nat → Nat) : Nat := xtr 6 m 0 f
theorem xtr61_bit {m : Nat} (h : m < 2 ^ 61) (f : Nat → Nat) (x : Nat) : (xtr61 m f).testBit x = xs_ 61 (fun u => m.testBit u && (f u).testBit x) := by
  unfold xtr61
  rw [xtr_bit, show (2 : Nat) ^ 6 = 61 + 3 from rfl, xs_add, xs_zero' (n := 3) (fun j _ => by rw [Nat.testBit_lt_two_pow (Nat.lt_of_lt_of_le h (Nat.pow_le_pow_right (by decide) (by omega)))]; rfl), Bool.xor_false]
  apply xs_congr
  intro j _
  rw [Nat.zero_add]
/-- what a floor makes of masks -/
def dK : Nat → (Nat → Nat) → Nat → Nat
  | 0, X, a => if a = 0 then X 0 % 2 else 0
  | s + 1, X, a => xorN 8 (fun p => xtr61 (X p) (fun u => xtr61 (pM (s + 1) p a) (fun v => gpA u v)))
def bas (p u q : Nat) : Nat := if q = p then 2 ^ u else 0
/-- the way back, of masks -/
def yK (s : Nat) (X : Nat → Nat) (q : Nat) : Nat := xorN 8 (fun h => xtr61 (X h) (fun v => yD s h v q))
def vK (s t : Nat) (X : Nat → Nat) : Bool := (List.range 8).all fun p => Nat.blt (X p) (2 ^ 61) && (Nat.beq (X p) 0 || (List.range 61).all fun u => !(X p).testBit u || (pv s p && Nat.beq (pd s p + dgA u) t))
def eqK (X Y : Nat → Nat) : Bool := (List.range 8).all fun q => Nat.beq (X q) (Y q)
def ckGen : Bool := (List.range 6).all fun s => (List.range 8).all fun p => !pv s p || (Nat.ble (pd s p) 14 && (match s with
  | 0 => Nat.beq p 0 && Nat.beq (pd 0 p) 0
  | s + 1 => vK s (pd (s + 1) p) (pM (s + 1) p) && eqK (dK s (pM (s + 1) p)) (fun _ => 0)))
set_option maxRecDepth 100000 in
theorem ckGen_ok : ckGen = true := by decide +kernel
