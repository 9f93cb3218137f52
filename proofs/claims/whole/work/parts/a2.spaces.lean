/-! the class: spaces -/
def SpM (F I : zFi) (n : Nat) (A : Nat → Nat → Nat) (de : Nat → Nat) : Prop :=
  F 11 3 = (n : Int) ∧ spA I 13 A ∧ (∀ e, e < n → I 12 e = (de e : Int)) ∧ (∀ e, e < 12 → zi32 (I 12 e)) ∧ SpOK A n de ∧ (∀ i e, n ≤ e → e < 12 → 1 ≤ i → A i e = 0) ∧ spK F I 11 14 (sFault A n)
abbrev nmOK (name m n : Int) : Prop := (name = 0 ∧ 0 ≤ n ∧ n ≤ 12) ∨ (name = 1 ∧ 1 ≤ m ∧ m ≤ n ∧ n ≤ 12) ∨ (name = 2 ∧ 0 ≤ m ∧ m ≤ n ∧ n ≤ 6)
theorem c_X8_isName (l : Launch) (D : va_G) (sh : Nat → Option zS) (F I : zFi) (J : zJi) {name m n : Int} (h1 : zi32 name) (h2 : zi32 m) (h3 : zi32 n) :
    Cn l D yX8_isName wsX8_isName mX8_isName.2.2.2.2 sh [.inl name, .inl m, .inl n] F I J (zself F I J (.inl (if nmOK name m n then 1 else 0))) := by
  unfold zi32 at h1 h2 h3
  refine zmet (M := mX8_isName) rfl rfl rfl kX8_isName (Nat.le_of_ble_eq_true rfl) (fun X hX hR hl hD hsh => ?_)
  subst hl hD hsh
  have no : ∀ pc, (pc = 18 ∨ pc = 45 ∨ pc = 71) → ¬ nmOK name m n → HW X pc [some (.inl name), some (.inl m), some (.inl n)] [] F I J := fun pc hp hn => by
    rcases hp with rfl | rfl | rfl
    · refine zgo (fun _ => false) 200 hX hR rfl ?_
      exact And.intro (Or.inl rfl) ⟨by rw [if_neg hn], rfl, rfl, rfl⟩
    · refine zgo (fun _ => false) 200 hX hR rfl ?_
      exact And.intro (Or.inl rfl) ⟨by rw [if_neg hn], rfl, rfl, rfl⟩
    · refine zgo (fun _ => false) 200 hX hR rfl ?_
      exact And.intro (Or.inl rfl) ⟨by rw [if_neg hn], rfl, rfl, rfl⟩
  refine zgo (fun pc => Nat.beq pc 18 || Nat.beq pc 45 || Nat.beq pc 71) 200 hX hR rfl ?_
  refine And.intro (fun c1 => ?_) (fun c1 => ?_)
  · refine And.intro (fun c2 => ?_) (fun c2 => ?_)
    · refine And.intro (fun c3 => no 71 (by omega) (by omega)) (fun c3 => ?_)
      refine And.intro (fun c4 => no 71 (by omega) (by omega)) (fun c4 => ?_)
      refine And.intro (fun c5 => no 71 (by omega) (by omega)) (fun c5 => ?_)
      refine And.intro (fun c6 => no 71 (by omega) (by omega)) (fun c6 => ?_)
      exact And.intro (Or.inr rfl) ⟨by rw [if_pos (by omega)], rfl, rfl, rfl⟩
    · refine And.intro (fun c3 => no 45 (by omega) (by omega)) (fun c3 => ?_)
      refine And.intro (fun c4 => no 45 (by omega) (by omega)) (fun c4 => ?_)
      refine And.intro (fun c5 => no 45 (by omega) (by omega)) (fun c5 => ?_)
      exact And.intro (Or.inr rfl) ⟨by rw [if_pos (by omega)], rfl, rfl, rfl⟩
  · refine And.intro (fun c3 => no 18 (by omega) (by omega)) (fun c3 => ?_)
    refine And.intro (fun c4 => no 18 (by omega) (by omega)) (fun c4 => ?_)
    exact And.intro (Or.inr rfl) ⟨by rw [if_pos (by omega)], rfl, rfl, rfl⟩
theorem c_X8_shc (l : Launch) (D : va_G) (sh : Nat → Option zS) (hs : zWS sh) (F I : zFi) (J : zJi) :
    Cn l D yX8_spaceHasChanged wsX8_spaceHasChanged mX8_spaceHasChanged.2.2.2.2 sh [.inr (.inr (some 0))] F I J (fun v F' I' J' => v = none ∧ F' = zu F 15 11 0 ∧ I' = zfill I 31 0 270 0 ∧ J' = J) := by
  obtain ⟨ht, h0, -, -, -, hch⟩ := hs
  refine zmet (M := mX8_spaceHasChanged) rfl rfl rfl kX8_spaceHasChanged (Nat.le_of_ble_eq_true rfl) (fun X hX hR hl hD hsh => ?_)
  subst hl hD hsh
  refine zgo (fun _ => false) 200 hX hR rfl ?_
  refine Exists.intro _ ⟨h0, ?_⟩
  refine qX8_spaceHasChanged_148 hX (c_X7_restart (xl X) (xD X) (xsh X) ht.1 F I J) ht.1.1 (fun v F' I' J' hv => ?_)
  obtain ⟨rfl, rfl, rfl, rfl⟩ := hv
  refine Exists.intro _ ⟨h0, ?_⟩
  refine qX8_spaceHasChanged_149 hX (c_X2_wipe (xl X) (xD X) (xsh X) hch _ I' J') hch.1 (fun v F2 I2 J2 hv => ?_)
  obtain ⟨rfl, rfl, rfl, rfl⟩ := hv
  exact And.intro rfl ⟨rfl, rfl, rfl⟩
theorem c_X8_empty (l : Launch) (D : va_G) (sh : Nat → Option zS) (hs : zWS sh) (F I : zFi) (J : zJi) :
    Cn l D yX8_empty wsX8_empty mX8_empty.2.2.2.2 sh [.inr (.inr (some 0))] F I J (fun v F' I' J' => v = some (.inl (F 11 3)) ∧ F' = zu (zu (zu F 11 3 0) 11 4 0) 15 11 0 ∧ I' = zfill (zfill I 13 0 156 0) 31 0 270 0 ∧ J' = J) := by
  have hsp := hs.1.2.2.2.1
  have h0 := hs.2.1
  refine zmet (M := mX8_empty) rfl rfl rfl kX8_empty (Nat.le_of_ble_eq_true rfl) (fun X hX hR hl hD hsh => ?_)
  subst hl hD hsh
  refine zgo (fun _ => false) 200 hX hR rfl ?_
  refine Exists.intro _ ⟨h0, ?_⟩
  refine qX8_empty_107 hX (c_X5_size (xl X) (xD X) (xsh X) hsp F I J) hsp.1 (fun v F' I' J' hv => ?_)
  obtain ⟨rfl, rfl, rfl, rfl⟩ := hv
  refine Exists.intro _ ⟨h0, ?_⟩
  refine qX8_empty_109 hX (c_X5_restart (xl X) (xD X) (xsh X) hsp F' I' J') hsp.1 (fun v F2 I2 J2 hv => ?_)
  obtain ⟨rfl, rfl, rfl, rfl⟩ := hv
  refine qX8_empty_112 hX (c_X8_shc (xl X) (xD X) (xsh X) hs _ _ J2) h0 (fun v F3 I3 J3 hv => ?_)
  obtain ⟨rfl, rfl, rfl, rfl⟩ := hv
  exact And.intro rfl ⟨rfl, rfl, rfl⟩
theorem c_X8_element (l : Launch) (D : va_G) (sh : Nat → Option zS) (hs : zWS sh) (F I : zFi) (J : zJi) {n : Nat} (hn : F 11 3 = (n : Int)) (hn2 : n ≤ 12) {d : Int} (hd : zi32 d) :
    Cn l D yX8_element wsX8_element mX8_element.2.2.2.2 sh [.inr (.inr (some 0)), .inl d] F I J (fun v F' I' J' => J' = J ∧ (((d < 0 ∨ 12 < d) ∧ v = some (.inl (-1)) ∧ F' = F ∧ I' = I) ∨ ((0 ≤ d ∧ d ≤ 12) ∧ 12 ≤ n ∧ v = some (.inl (-3)) ∧ F' = F ∧ I' = I) ∨ ((0 ≤ d ∧ d ≤ 12) ∧ n < 12 ∧ v = some (.inl (n : Int)) ∧ F' = zu (zu (zu F 15 11 0) 11 3 ((n + 1 : Nat) : Int)) 11 4 0 ∧ I' = zu (zfill I 31 0 270 0) 12 n d))) := by
  have hsp := hs.1.2.2.2.1
  have h0 := hs.2.1
  unfold zi32 at hd
  refine zmet (M := mX8_element) rfl rfl rfl kX8_element (Nat.le_of_ble_eq_true rfl) (fun X hX hR hl hD hsh => ?_)
  subst hl hD hsh
  refine zgo (fun _ => false) 200 hX hR rfl ?_
  refine And.intro (fun c1 => ?_) (fun c1 => ?_)
  · exact And.intro rfl (Or.inl ⟨by omega, rfl, rfl, rfl⟩)
  refine And.intro (fun c2 => ?_) (fun c2 => ?_)
  · refine Exists.intro _ ⟨h0, ?_⟩
    refine qX8_element_107 hX (c_X5_size (xl X) (xD X) (xsh X) hsp F I J) hsp.1 (fun v F' I' J' hv => ?_)
    obtain ⟨rfl, rfl, rfl, rfl⟩ := hv
    rw [hn]
    refine And.intro (fun c3 => ?_) (fun c3 => ?_)
    · refine qX8_element_112 hX (c_X8_shc (xl X) (xD X) (xsh X) hs F' I' J') h0 (fun v F2 I2 J2 hv => ?_)
      obtain ⟨rfl, rfl, rfl, rfl⟩ := hv
      refine Exists.intro _ ⟨h0, ?_⟩
      refine qX8_element_115 hX (c_X5_add (xl X) (xD X) (xsh X) hsp _ _ J2 (n := n) (by rw [zu_r (by decide)]; exact hn) (by omega) (d := d)) hsp.1 (fun v F3 I3 J3 hv => ?_)
      obtain ⟨rfl, rfl, rfl, rfl⟩ := hv
      exact And.intro rfl (Or.inr (Or.inr ⟨by omega, by omega, rfl, rfl, rfl⟩))
    · exact And.intro rfl (Or.inr (Or.inl ⟨by omega, by omega, rfl, rfl, rfl⟩))
  · exact And.intro rfl (Or.inl ⟨by omega, rfl, rfl, rfl⟩)
theorem sod_congr {f g : Nat → Int} {x : Int} {n : Nat} (h : ∀ e, e < n → f e = g e) : sod f x n = sod g x n := by
  induction n with
  | zero => rfl
  | succ n ih => rw [sod_succ, sod_succ, ih (fun e he => h e (by omega)), h n (by omega)]
theorem zand_32 (a b : Int) : zi32 (zand a b) := by
  unfold zand zi32
  have h1 := Int32.le_toInt (Int32.ofInt a &&& Int32.ofInt b)
  have h2 := Int32.toInt_lt (Int32.ofInt a &&& Int32.ofInt b)
  omega
/-- the act may be told -/
def acOK (n : Nat) (de : Nat → Nat) (i e b : Int) : Prop := (1 ≤ i ∧ i ≤ 12) ∧ (0 ≤ e ∧ e < n) ∧ ∃ x : Nat, b = (x : Int) ∧ x &&& sod (fun a => (de a : Int)) ((de e.toNat : Int) + i) n = x
theorem c_X8_act (l : Launch) (D : va_G) (sh : Nat → Option zS) (hs : zWS sh) (F I : zFi) (J : zJi) {n : Nat} {A : Nat → Nat → Nat} {de : Nat → Nat} (hm : SpM F I n A de) {i e b : Int} (h1 : zi32 i) (h2 : zi32 e) (h3 : zi32 b) :
    Cn l D yX8_act wsX8_act mX8_act.2.2.2.2 sh [.inr (.inr (some 0)), .inl i, .inl e, .inl b] F I J (fun v F' I' J' => J' = J ∧ ((¬ acOK n de i e b ∧ v = some (.inl (-1)) ∧ F' = F ∧ I' = I) ∨ (acOK n de i e b ∧ v = some (.inl (A i.toNat e.toNat : Int)) ∧ F' = zu (zu F 11 4 0) 15 11 0 ∧ I' = zfill (zu I 13 (e.toNat * 13 + i.toNat) b) 31 0 270 0))) := by
  have hsp := hs.1.2.2.2.1
  have h0 := hs.2.1
  obtain ⟨hn, hA, hde, hdi, hok, hz, hk⟩ := hm
  have hn2 := hok.1
  unfold zi32 at h1 h2
  refine zmet (M := mX8_act) rfl rfl rfl kX8_act (Nat.le_of_ble_eq_true rfl) (fun X hX hR hl hD hsh => ?_)
  subst hl hD hsh
  refine zgo (fun _ => false) 200 hX hR rfl ?_
  refine And.intro (fun c1 => ?_) (fun c1 => ?_)
  · exact And.intro rfl (Or.inl ⟨fun z => by have := z.1; omega, rfl, rfl, rfl⟩)
  refine And.intro (fun c2 => ?_) (fun c2 => ?_)
  · exact And.intro rfl (Or.inl ⟨fun z => by have := z.1; omega, rfl, rfl, rfl⟩)
  refine Exists.intro _ ⟨h0, ?_⟩
  refine qX8_act_118 hX (c_X5_has (xl X) (xD X) (xsh X) hsp F I J hn hn2 (e := e) ⟨by omega, by omega⟩) hsp.1 (fun v F' I' J' hv => ?_)
  obtain ⟨rfl, rfl, rfl, rfl⟩ := hv
  unfold shas
  refine And.intro (fun c3 => ?_) (fun c3 => ?_)
  · have he : 0 ≤ e ∧ e < n := Decidable.byContradiction fun g => by rw [if_neg g] at c3; exact c3 rfl
    refine Exists.intro _ ⟨h0, ?_⟩
    refine Exists.intro _ ⟨h0, ?_⟩
    refine qX8_act_122 hX (c_X5_degreeOf (xl X) (xD X) (xsh X) hsp F' I' J' hn hn2 (e := e) ⟨by omega, by omega⟩) hsp.1 (fun v F2 I2 J2 hv => ?_)
    obtain ⟨rfl, rfl, rfl, rfl⟩ := hv
    have ed : sdg I2 12 n e = (de e.toNat : Int) := by
      unfold sdg
      rw [if_pos he]
      exact hde e.toNat (by omega)
    rw [ed]
    have hd12 := hok.2.1 e.toNat (by omega)
    refine qX8_act_125 hX (c_X5_ofDegree (xl X) (xD X) (xsh X) hsp F2 I2 J2 hn hn2 (d := (de e.toNat : Int) + i) ⟨by omega, by omega⟩ hdi) hsp.1 (fun v F3 I3 J3 hv => ?_)
    obtain ⟨rfl, rfl, rfl, rfl⟩ := hv
    have esod : sod (I3 12) ((de e.toNat : Int) + i) n = sod (fun a => (de a : Int)) ((de e.toNat : Int) + i) n := sod_congr hde
    rw [esod]
    have hsl : sod (fun a => (de a : Int)) ((de e.toNat : Int) + i) n < 4096 := Nat.lt_of_lt_of_le (sod_lt _ _ n) (show 2 ^ n ≤ 2 ^ 12 from Nat.pow_le_pow_right (by decide) hn2)
    have hsub := zsubm h3 (r := sod (fun a => (de a : Int)) ((de e.toNat : Int) + i) n) (by omega)
    have hzl : zi32 (zand b (zxor (sod (fun a => (de a : Int)) ((de e.toNat : Int) + i) n : Int) (-1))) := zand_32 _ _
    unfold zi32 at hzl
    refine And.intro (fun c4 => ?_) (fun c4 => ?_)
    · have hb := hsub.mp (by omega)
      refine Exists.intro _ ⟨h0, ?_⟩
      refine qX8_act_128 hX (c_X5_acted (xl X) (xD X) (xsh X) hsp F3 I3 J3 (i := i) (e := e) ⟨by omega, by omega⟩ ⟨by omega, by omega⟩) hsp.1 (fun v F4 I4 J4 hv => ?_)
      obtain ⟨rfl, rfl, rfl, rfl⟩ := hv
      have eA := (hA i.toNat e.toNat (by omega) (by omega)).1
      rw [show ((i.toNat : Nat) : Int) = i by omega, show ((e.toNat : Nat) : Int) = e by omega] at eA
      rw [eA]
      refine Exists.intro _ ⟨h0, ?_⟩
      refine qX8_act_131 hX (c_X5_setAct (xl X) (xD X) (xsh X) hsp F4 I4 J4 hn hn2 (i := i) (e := e) (x := b) ⟨by omega, by omega⟩ he) hsp.1 (fun v F5 I5 J5 hv => ?_)
      obtain ⟨rfl, rfl, rfl, rfl⟩ := hv
      refine qX8_act_112 hX (c_X8_shc (xl X) (xD X) (xsh X) hs _ _ J5) h0 (fun v F6 I6 J6 hv => ?_)
      obtain ⟨rfl, rfl, rfl, rfl⟩ := hv
      exact And.intro rfl (Or.inr ⟨⟨⟨by omega, by omega⟩, he, hb⟩, rfl, rfl, rfl⟩)
    · refine And.intro rfl (Or.inl ⟨fun z => c4 ?_, rfl, rfl, rfl⟩)
      rw [hsub.mpr z.2.2]
      rfl
  · have he : ¬ (0 ≤ e ∧ e < n) := fun g => by rw [if_pos g] at c3; exact absurd c3 (by decide)
    exact And.intro rfl (Or.inl ⟨fun z => he z.2.1, rfl, rfl, rfl⟩)
def spB (name m n : Int) : Nat := if name = 0 then n.toNat else m.toNat
def spT (name : Int) : Nat := if name = 2 then 2 else 1
theorem c_X8_space (l : Launch) (D : va_G) (sh : Nat → Option zS) (hs : zWS sh) (F I : zFi) (J : zJi) {name m n : Int} (h1 : zi32 name) (h2 : zi32 m) (h3 : zi32 n) :
    Cn l D yX8_space wsX8_space mX8_space.2.2.2.2 sh [.inr (.inr (some 0)), .inl name, .inl m, .inl n] F I J (fun v F' I' J' => J' = J ∧ ((¬ nmOK name m n ∧ v = some (.inl (-1)) ∧ F' = F ∧ I' = I) ∨ (nmOK name m n ∧ v = some (.inl ((n.toNat + 1 - spB name m n : Nat) : Int)) ∧ F' = zu (zu (zu F 11 3 ((n.toNat + 1 - spB name m n : Nat) : Int)) 11 4 0) 15 11 0 ∧ I' = zfill (spF (spD (zfill I 13 0 156 0) 12 (spB name m n) (spT name) (n.toNat + 1)) 13 (spB name m n) n.toNat (spT name) (n.toNat + 1) 1) 31 0 270 0))) := by
  have hsp := hs.1.2.2.2.1
  have h0 := hs.2.1
  have g1 := h1
  have g2 := h2
  have g3 := h3
  unfold zi32 at g1 g2 g3
  refine zmet (M := mX8_space) rfl rfl rfl kX8_space (Nat.le_of_ble_eq_true rfl) (fun X hX hR hl hD hsh => ?_)
  subst hl hD hsh
  have go : nmOK name m n → HW X 35 [some (.inr (.inr (some 0))), some (.inl name), some (.inl m), some (.inl n)] [.inl (spT name : Int), .inl n, .inl (spB name m n : Int), .inr (.inr (some 11))] F I J := fun hok => by
    have hB : spB name m n ≤ n.toNat ∧ n.toNat ≤ 12 ∧ n.toNat - spB name m n < 12 ∧ spT name * n.toNat ≤ 12 ∧ (spT name = 1 ∨ spT name = 2) := by
      unfold spB spT
      split <;> split <;> omega
    have cS := c_X5_spread (xl X) (xD X) (xsh X) hsp F I J (m := spB name m n) (n := n.toNat) (T := spT name) hB.2.2.2.2 hB.1 hB.2.1 hB.2.2.1 hB.2.2.2.1
    rw [show ((n.toNat : Nat) : Int) = n by omega] at cS
    refine zgo (fun _ => false) 200 hX hR rfl ?_
    refine qX8_space_139 hX cS hsp.1 (fun v F' I' J' hv => ?_)
    obtain ⟨rfl, rfl, rfl, rfl⟩ := hv
    refine qX8_space_112 hX (c_X8_shc (xl X) (xD X) (xsh X) hs _ _ J') h0 (fun v F2 I2 J2 hv => ?_)
    obtain ⟨rfl, rfl, rfl, rfl⟩ := hv
    refine Exists.intro _ ⟨h0, ?_⟩
    refine qX8_space_107 hX (c_X5_size (xl X) (xD X) (xsh X) hsp _ _ J2) hsp.1 (fun v F3 I3 J3 hv => ?_)
    obtain ⟨rfl, rfl, rfl, rfl⟩ := hv
    refine And.intro rfl (Or.inr ⟨hok, ?_, rfl, rfl⟩)
    rw [zu_r (by decide), zu_n (by decide), zu_s]
  refine zgo (fun pc => Nat.beq pc 35) 200 hX hR rfl ?_
  refine qX8_space_135 hX (c_X8_isName (xl X) (xD X) (xsh X) F I J h1 h2 h3) (fun v F' I' J' hv => ?_)
  obtain ⟨rfl, rfl, rfl, rfl⟩ := hv
  by_cases hok : nmOK name m n
  · rw [if_pos hok]
    have g := go hok
    refine And.intro (fun c1 => ?_) (fun c1 => absurd c1 (by decide))
    refine Exists.intro _ ⟨h0, ?_⟩
    refine And.intro (fun c2 => ?_) (fun c2 => ?_)
    · rw [show ((spB name m n : Nat) : Int) = m by unfold spB; rw [if_neg (by omega)]; omega] at g
      refine And.intro (fun c3 => ?_) (fun c3 => ?_)
      · rw [show ((spT name : Nat) : Int) = 1 by unfold spT; rw [if_neg (by omega)]; rfl] at g
        exact g
      · rw [show ((spT name : Nat) : Int) = 2 by unfold spT; rw [if_pos (by omega)]; rfl] at g
        exact g
    · rw [show ((spB name m n : Nat) : Int) = n by unfold spB; rw [if_pos (by omega)]; omega] at g
      refine And.intro (fun c3 => ?_) (fun c3 => ?_)
      · rw [show ((spT name : Nat) : Int) = 1 by unfold spT; rw [if_neg (by omega)]; rfl] at g
        exact g
      · rw [show ((spT name : Nat) : Int) = 2 by unfold spT; rw [if_pos (by omega)]; rfl] at g
        exact g
  · rw [if_neg hok]
    refine And.intro (fun c1 => absurd rfl c1) (fun c1 => ?_)
    exact And.intro rfl (Or.inl ⟨hok, rfl, rfl, rfl⟩)
/-- what a word does to a sum of elements -/
def dso (A : Nat → Nat → Nat) (n ℓ : Nat) (c : Nat → Nat) (x : Nat) : Nat → Nat
  | 0 => x
  | j + 1 => sap A n (c (ℓ - 1 - j)) (dso A n ℓ c x j)
theorem dso_lt {I : zFi} {A : Nat → Nat → Nat} (hA : spA I 13 A) {n : Nat} (hn : n ≤ 12) (ℓ : Nat) (c : Nat → Nat) {x : Nat} (hx : x < 4096) : ∀ j, dso A n ℓ c x j < 4096 := by
  intro j
  induction j with
  | zero => exact hx
  | succ j ih => exact sap_lt hA hn ih
theorem c_X8_does (l : Launch) (D : va_G) (sh : Nat → Option zS) (hs : zWS sh) (F I : zFi) (J : zJi) {ℓ : Nat} {c : Nat → Nat} (hw : WdM F I ℓ c) {n : Nat} {A : Nat → Nat → Nat} {de : Nat → Nat} (hm : SpM F I n A de) {e : Int} (h2 : zi32 e) :
    Cn l D yX8_does wsX8_does mX8_does.2.2.2.2 sh [.inr (.inr (some 0)), .inl e] F I J (zself F I J (.inl (if 0 ≤ e ∧ e < n then (dso A n ℓ c (2 ^ e.toNat) ℓ : Int) else -1))) := by
  have hsp := hs.1.2.2.2.1
  obtain ⟨-, h0, ⟨cA, h1⟩, -⟩ := hs
  obtain ⟨w1, w2, w3, w4, w5⟩ := hw
  obtain ⟨hn, hA, hde, hdi, hok, hz, hk⟩ := hm
  have hn2 := hok.1
  refine zmet (M := mX8_does) rfl rfl rfl kX8_does (Nat.le_of_ble_eq_true rfl) (fun X hX hR hl hD hsh => ?_)
  subst hl hD hsh
  refine zgo (fun pc => Nat.beq pc 32) 200 hX hR rfl ?_
  refine Exists.intro _ ⟨h0, ?_⟩
  refine qX8_does_118 hX (c_X5_has (xl X) (xD X) (xsh X) hsp F I J hn hn2 (e := e) h2) hsp.1 (fun v F' I' J' hv => ?_)
  obtain ⟨rfl, rfl, rfl, rfl⟩ := hv
  unfold zi32 at h2
  unfold shas
  refine And.intro (fun c3 => ?_) (fun c3 => ?_)
  · have he : 0 ≤ e ∧ e < n := Decidable.byContradiction fun g => by rw [if_neg g] at c3; exact c3 rfl
    rw [if_pos he]
    obtain ⟨e', rfl⟩ := Int.eq_ofNat_of_zero_le he.1
    have hx : 2 ^ e' < 4096 := show 2 ^ e' < 2 ^ 12 from Nat.pow_lt_pow_right (by decide) (by omega)
    have loop : ∀ m j, j + m = ℓ → HW X 32 [some (.inr (.inr (some 0))), some (.inl (e' : Int)), some (.inl (dso A n ℓ c (2 ^ e') j : Int)), some (.inl ((m : Int) - 1))] [] F' I' J' := by
      intro m
      induction m with
      | zero =>
        intro j hj
        refine zgo (fun pc => Nat.beq pc 32) 200 hX hR rfl ?_
        refine And.intro (fun c1 => ?_) (fun c1 => absurd (by decide) c1)
        exact And.intro (by rw [if_pos he, show j = ℓ by omega]; rfl) ⟨rfl, rfl, rfl⟩
      | succ m ih =>
        intro j hj
        have h := ih (j + 1) (by omega)
        have hk : ℓ - 1 - j = m := by omega
        have hck := w5 m (by omega)
        have hc14 : c m ≤ 14 := Nat.le_trans (ns_term (n := ℓ) (k := m) (by omega) c) w4
        have hlt := dso_lt hA hn2 ℓ c hx j
        rw [show dso A n ℓ c (2 ^ e') (j + 1) = sap A n (c (ℓ - 1 - j)) (dso A n ℓ c (2 ^ e') j) from rfl, hk] at h
        have cA2 := c_X5_apply (xl X) (xD X) (xsh X) hsp F' I' J' hn hn2 hA (i := c m) (x := dso A n ℓ c (2 ^ e') j) (by omega) hlt
        rw [← hck] at cA2
        rw [show ((m + 1 : Nat) : Int) - 1 = (m : Int) by omega]
        refine zgo (fun pc => Nat.beq pc 32) 200 hX hR rfl ?_
        refine And.intro (fun c1 => by omega) (fun c1 => ?_)
        refine Exists.intro _ ⟨h0, ?_⟩
        refine Exists.intro _ ⟨h0, ?_⟩
        refine Exists.intro _ ⟨_, m, h1, rfl, by omega, ?_⟩
        refine qX8_does_142 hX cA2 hsp.1 (fun v F2 I2 J2 hv => ?_)
        obtain ⟨rfl, rfl, rfl, rfl⟩ := hv
        exact h
    have hl0 := loop ℓ 0 (by omega)
    rw [show ((dso A n ℓ c (2 ^ e') 0 : Nat) : Int) = ((2 ^ e' : Nat) : Int) from rfl, ← zshl1 (by omega)] at hl0
    refine Exists.intro _ ⟨h0, ?_⟩
    refine Exists.intro _ ⟨h0, ?_⟩
    refine Exists.intro _ ⟨h1, ?_⟩
    rw [w1]
    refine qX8_does_97 hX (c_J9_min (xl X) (xD X) (xsh X) F' I' J' (a := (ℓ : Int)) (b := 6) ⟨by omega, by omega⟩ ⟨by omega, by omega⟩) (fun v F2 I2 J2 hv => ?_)
    obtain ⟨rfl, rfl, rfl, rfl⟩ := hv
    rw [if_pos (show (ℓ : Int) ≤ 6 by omega)]
    exact hl0
  · have he : ¬ (0 ≤ e ∧ e < n) := fun g => by rw [if_pos g] at c3; exact absurd c3 (by decide)
    exact And.intro (by rw [if_neg he]) ⟨rfl, rfl, rfl⟩
def aab (n : Nat) (A : Nat → Nat → Nat) (de : Nat → Nat) (e what : Int) : Int := if ¬ (0 ≤ e ∧ e < n) ∨ what < 0 ∨ 12 < what then -1 else if what = 0 then (de e.toNat : Int) else (A what.toNat e.toNat : Int)
theorem c_X8_about (l : Launch) (D : va_G) (sh : Nat → Option zS) (hs : zWS sh) (F I : zFi) (J : zJi) {n : Nat} {A : Nat → Nat → Nat} {de : Nat → Nat} (hm : SpM F I n A de) {e what : Int} (h2 : zi32 e) (h3 : zi32 what) :
    Cn l D yX8_about wsX8_about mX8_about.2.2.2.2 sh [.inr (.inr (some 0)), .inl e, .inl what] F I J (zself F I J (.inl (aab n A de e what))) := by
  have hsp := hs.1.2.2.2.1
  have h0 := hs.2.1
  obtain ⟨hn, hA, hde, hdi, hok, hz, hk⟩ := hm
  have hn2 := hok.1
  refine zmet (M := mX8_about) rfl rfl rfl kX8_about (Nat.le_of_ble_eq_true rfl) (fun X hX hR hl hD hsh => ?_)
  subst hl hD hsh
  refine zgo (fun _ => false) 200 hX hR rfl ?_
  refine Exists.intro _ ⟨h0, ?_⟩
  refine qX8_about_118 hX (c_X5_has (xl X) (xD X) (xsh X) hsp F I J hn hn2 (e := e) h2) hsp.1 (fun v F' I' J' hv => ?_)
  obtain ⟨rfl, rfl, rfl, rfl⟩ := hv
  have g2 := h2
  have g3 := h3
  unfold zi32 at g2 g3
  unfold shas aab
  refine And.intro (fun c1 => ?_) (fun c1 => ?_)
  · have he : ¬ (0 ≤ e ∧ e < n) := fun g => by rw [if_pos g] at c1; exact absurd c1 (by decide)
    exact And.intro (by rw [if_pos (Or.inl he)]) ⟨rfl, rfl, rfl⟩
  have he : 0 ≤ e ∧ e < n := Decidable.byContradiction fun g => by rw [if_neg g] at c1; exact c1 rfl
  refine And.intro (fun c2 => ?_) (fun c2 => ?_)
  · exact And.intro (by rw [if_pos (by omega)]) ⟨rfl, rfl, rfl⟩
  refine And.intro (fun c3 => ?_) (fun c3 => ?_)
  · refine And.intro (fun c4 => ?_) (fun c4 => ?_)
    · refine Exists.intro _ ⟨h0, ?_⟩
      refine qX8_about_128 hX (c_X5_acted (xl X) (xD X) (xsh X) hsp F' I' J' (i := what) (e := e) h3 h2) hsp.1 (fun v F4 I4 J4 hv => ?_)
      obtain ⟨rfl, rfl, rfl, rfl⟩ := hv
      have eA := (hA what.toNat e.toNat (by omega) (by omega)).1
      rw [show ((what.toNat : Nat) : Int) = what by omega, show ((e.toNat : Nat) : Int) = e by omega] at eA
      exact And.intro (by rw [if_neg (by omega), if_neg (by omega), eA]) ⟨rfl, rfl, rfl⟩
    · refine Exists.intro _ ⟨h0, ?_⟩
      refine qX8_about_122 hX (c_X5_degreeOf (xl X) (xD X) (xsh X) hsp F' I' J' hn hn2 (e := e) h2) hsp.1 (fun v F4 I4 J4 hv => ?_)
      obtain ⟨rfl, rfl, rfl, rfl⟩ := hv
      refine And.intro ?_ ⟨rfl, rfl, rfl⟩
      rw [if_neg (by omega), if_pos (by omega)]
      unfold sdg
      rw [if_pos he, hde e.toNat (by omega)]
  · exact And.intro (by rw [if_pos (by omega)]) ⟨rfl, rfl, rfl⟩
def afl (n : Nat) (A : Nat → Nat → Nat) (w : Int) : Int := if 0 ≤ w ∧ w < 3 then sFv (sFault A n) w.toNat else -1
theorem c_X8_fault (l : Launch) (D : va_G) (sh : Nat → Option zS) (hs : zWS sh) (F I : zFi) (J : zJi) {n : Nat} {A : Nat → Nat → Nat} {de : Nat → Nat} (hm : SpM F I n A de) {w : Int} (h2 : zi32 w) :
    Cn l D yX8_fault wsX8_fault mX8_fault.2.2.2.2 sh [.inr (.inr (some 0)), .inl w] F I J (fun v F' I' J' => v = some (.inl (afl n A w)) ∧ J' = J ∧ ((F' = F ∧ I' = I) ∨ (F' = zu F 11 4 1 ∧ I' = sFI F I 11 14 (sFault A n)))) := by
  have hsp := hs.1.2.2.2.1
  have h0 := hs.2.1
  obtain ⟨hn, hA, hde, hdi, hok, hz, hk⟩ := hm
  have g2 := h2
  unfold zi32 at g2
  refine zmet (M := mX8_fault) rfl rfl rfl kX8_fault (Nat.le_of_ble_eq_true rfl) (fun X hX hR hl hD hsh => ?_)
  subst hl hD hsh
  refine zgo (fun _ => false) 200 hX hR rfl ?_
  unfold afl
  refine And.intro (fun c1 => ?_) (fun c1 => ?_)
  · exact And.intro (by rw [if_neg (by omega)]) ⟨rfl, Or.inl ⟨rfl, rfl⟩⟩
  refine And.intro (fun c2 => ?_) (fun c2 => ?_)
  · refine Exists.intro _ ⟨h0, ?_⟩
    refine qX8_fault_145 hX (c_X5_firstFault (xl X) (xD X) (xsh X) hsp F I J hn hok.1 hA hk h2) hsp.1 (fun v F4 I4 J4 hv => ?_)
    obtain ⟨rfl, rfl, rfl, rfl⟩ := hv
    refine And.intro ?_ ⟨rfl, Or.inr ⟨rfl, rfl⟩⟩
    rw [if_pos (by omega), if_pos (by omega)]
  · exact And.intro (by rw [if_neg (by omega)]) ⟨rfl, Or.inl ⟨rfl, rfl⟩⟩
