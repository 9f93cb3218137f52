/-! the point's tower: checks -/
def ckKer : Bool := (List.range 6).all fun s => (List.range 15).all fun t => (List.range (pK s t)).all fun i => vK s t (kD s t i) && eqK (dK s (kD s t i)) (fun _ => 0)
set_option maxRecDepth 100000 in
theorem ckKer_ok : ckKer = true := by decide +kernel
def ckPre : Bool := (List.range 5).all fun s => (List.range 15).all fun t => (List.range (pK s t)).all fun i => vK (s + 1) t (aD s t i) && eqK (dK (s + 1) (aD s t i)) (kD s t i)
set_option maxRecDepth 100000 in
theorem ckPre_ok : ckPre = true := by decide +kernel
def ckGp : Bool := (List.range 61).all fun u => (List.range 61).all fun v => Nat.blt (gpA u v) (2 ^ 61)
set_option maxRecDepth 100000 in
theorem ckGp_ok : ckGp = true := by decide +kernel
theorem pM_0 : ∀ p, p < 8 → p ≠ 0 → ∀ a, a < 8 → pM 0 p a = 0 := by decide +kernel
theorem pM_00 : ∀ a, a < 8 → pM 0 0 a = if a = 0 then 1 else 0 := by decide +kernel
def ckSpl (s : Nat) : Bool := (List.range 8).all fun p => !pv s p || (List.range 61).all fun u => Nat.blt 14 (pd s p + dgA u) || (vK s (pd s p + dgA u) (bas p u) && eqK (bas p u) (fun q => xorN (pK s (pd s p + dgA u)) (fun i => if (eD s p u).testBit i then kD s (pd s p + dgA u) i q else 0) ^^^ yK s (dK s (bas p u)) q))
set_option maxRecDepth 100000 in
theorem ckSpl_3 : ckSpl 3 = true := by decide +kernel
set_option maxRecDepth 100000 in
theorem ckSpl_0 : ckSpl 0 = true := by decide +kernel
set_option maxRecDepth 100000 in
theorem ckSpl_1 : ckSpl 1 = true := by decide +kernel
set_option maxRecDepth 100000 in
theorem ckSpl_2 : ckSpl 2 = true := by decide +kernel
set_option maxRecDepth 100000 in
theorem ckSpl_4 : ckSpl 4 = true := by decide +kernel
set_option maxRecDepth 100000 in
theorem ckSpl_5 : ckSpl 5 = true := by decide +kernel
