/-! towers as they are built -/
def elE (f : Nat → Bool) : EE := fun a b => decide (b = 0) && f a
def dlt (G : Nat → Nat) (d : Nat → Nat → Nat) (gb : Nat → Nat → Nat → Bool) : Nat → Nat → EE
  | 0, a => elE (gb 0 a)
  | s + 1, a => tE (d s) (G s) (d (s + 1) a) (gb (s + 1) a)
def gvG (G : Nat → Nat) (s a : Nat) : Bool := decide (a < G s)
def DmG (am : Nat → Nat → Nat → Bool) (n : Nat) (G : Nat → Nat) (d : Nat → Nat → Nat) (gb : Nat → Nat → Nat → Bool) (s : Nat) : EE → EE := Dm 300 caA (sAct am (sA n)) (dlt G d gb) s
/-- floors 0 .. Sn-1, degrees 0 .. T0-1 are done -/
def Tow (de : Nat → Nat) (am : Nat → Nat → Nat → Bool) (n Sn T0 : Nat) (G : Nat → Nat) (d : Nat → Nat → Nat) (gb : Nat → Nat → Nat → Bool) : Prop :=
  (∀ s, s < Sn → ∀ a, a < G s → a < 300 ∧ d s a < T0 ∧ InL dgA (sIn de (sA n)) (gvG G) d s (d s a) (dlt G d gb s a)) ∧
  (∀ s, s + 1 < Sn → ∀ a, a < G (s + 1) → DmG am n G d gb s (dlt G d gb (s + 1) a) = e0) ∧
  (0 < Sn → ∀ t, t < T0 → ∀ x, sIn de (sA n) t x → ∃ y, FIn dgA (gvG G 0) (d 0) t y ∧ DmG am n G d gb 0 y = x) ∧
  (∀ s, s + 1 < Sn → ∀ t, t < T0 → ∀ x, FIn dgA (gvG G s) (d s) t x → DmG am n G d gb s x = e0 → ∃ y, FIn dgA (gvG G (s + 1)) (d (s + 1)) t y ∧ DmG am n G d gb (s + 1) y = x) ∧
  ∀ s, s < Sn → ∀ t, t < T0 → ∀ x, FIn dgA (gvG G s) (d s) t x → DmG am n G d gb s x = e0 → ∀ g, x g 0 = false
theorem tE_ext {d d0 : Nat → Nat} {G G0 t : Nat} (f : Nat → Bool) (hG : G0 ≤ G) (hd : ∀ a, a < G0 → d a = d0 a) (hn : ∀ a, G0 ≤ a → a < G → t < d a) : tE d G t f = tE d0 G0 t f := by
  funext a b
  have hP : ∀ a, a ≤ G0 → flP aS d t a = flP aS d0 t a := fun a ha => ns_congr fun i hi => by rw [hd i (by omega)]
  by_cases h : a < G0
  · unfold tE
    rw [hd a h, hP a (by omega)]
    congr 1
    exact decide_eq_decide.mpr ⟨fun z => ⟨h, z.2⟩, fun z => ⟨by omega, z.2⟩⟩
  · cases h1 : tE d G t f a b
    · cases h2 : tE d0 G0 t f a b
      · rfl
      · exact absurd (tE_in h2).1 h
    · obtain ⟨g1, g2, g3, -⟩ := tE_in h1
      have := hn a (by omega) g1
      omega
/-- the later state goes on from the earlier -/
def ExtR (t : Nat) (G0 : Nat → Nat) (d0 : Nat → Nat → Nat) (gb0 : Nat → Nat → Nat → Bool) (G : Nat → Nat) (d : Nat → Nat → Nat) (gb : Nat → Nat → Nat → Bool) (s : Nat) : Prop :=
  G0 s ≤ G s ∧ (∀ a, a < G0 s → d s a = d0 s a ∧ gb s a = gb0 s a ∧ d0 s a < t) ∧ ∀ a, G0 s ≤ a → a < G s → d s a = t
section TRANS
variable {t : Nat} {G0 G : Nat → Nat} {d0 d : Nat → Nat → Nat} {gb0 gb : Nat → Nat → Nat → Bool} {am : Nat → Nat → Nat → Bool} {n : Nat}
theorem ext_dlt {s : Nat} (h : ∀ s', s' ≤ s → ExtR t G0 d0 gb0 G d gb s') {a : Nat} (ha : a < G0 s) : dlt G d gb s a = dlt G0 d0 gb0 s a := by
  obtain ⟨h1, h2, h3⟩ := h s (Nat.le_refl s)
  obtain ⟨e1, e2, e3⟩ := h2 a ha
  cases s with
  | zero =>
    show elE (gb 0 a) = elE (gb0 0 a)
    rw [e2]
  | succ s =>
    show tE (d s) (G s) (d (s + 1) a) (gb (s + 1) a) = tE (d0 s) (G0 s) (d0 (s + 1) a) (gb0 (s + 1) a)
    rw [e1, e2]
    obtain ⟨k1, k2, k3⟩ := h s (by omega)
    exact tE_ext _ k1 (fun a ha => (k2 a ha).1) (fun a g1 g2 => by rw [k3 a g1 g2]; exact e3)
theorem ext_fin {s t' : Nat} (h : ExtR t G0 d0 gb0 G d gb s) {x : EE} (hx : FIn dgA (gvG G0 s) (d0 s) t' x) : FIn dgA (gvG G s) (d s) t' x := fun a b hb => by
  obtain ⟨g1, g2, g3⟩ := hx a b hb
  have ha : a < G0 s := of_decide_eq_true g1
  have := h.1
  exact ⟨decide_eq_true (by omega), g2, by rw [(h.2.1 a ha).1]; exact g3⟩
theorem ext_fin' {s t' : Nat} (h : ExtR t G0 d0 gb0 G d gb s) (ht : t' < t) {x : EE} (hx : FIn dgA (gvG G s) (d s) t' x) : FIn dgA (gvG G0 s) (d0 s) t' x := fun a b hb => by
  obtain ⟨g1, g2, g3⟩ := hx a b hb
  have ha : a < G s := of_decide_eq_true g1
  rcases Nat.lt_or_ge a (G0 s) with z | z
  · exact ⟨decide_eq_true z, g2, by rw [← (h.2.1 a z).1]; exact g3⟩
  · have := h.2.2 a z ha
    omega
theorem ext_dm {s t' : Nat} (h : ∀ s', s' ≤ s → ExtR t G0 d0 gb0 G d gb s') {x : EE} (hx : FIn dgA (gvG G0 s) (d0 s) t' x) : DmG am n G d gb s x = DmG am n G0 d0 gb0 s x := by
  unfold DmG Dm
  exact fm_congr hx (fun a ha => ext_dlt h (of_decide_eq_true ha))
end TRANS
theorem elE_vx (f g : Nat → Bool) : elE (vx f g) = ex (elE f) (elE g) := by
  funext a b
  unfold elE ex vx
  exact bx2 _ _ _
theorem elE_v0 : elE v0 = e0 := by
  funext a b
  unfold elE e0 v0
  exact Bool.and_false _
/-- the lower floor's places, or the elements, as elements of its space -/
def lcE (G : Nat → Nat) (d : Nat → Nat → Nat) (t : Nat) : Nat → (Nat → Bool) → EE
  | 0 => elE
  | s + 1 => tE (d s) (G s) t
theorem lcE_vx (G : Nat → Nat) (d : Nat → Nat → Nat) (t s : Nat) (f g : Nat → Bool) : lcE G d t s (vx f g) = ex (lcE G d t s f) (lcE G d t s g) := by
  cases s with
  | zero => exact elE_vx f g
  | succ s => exact tE_vx _ _ _ f g
theorem lcE_v0 (G : Nat → Nat) (d : Nat → Nat → Nat) (t s : Nat) : lcE G d t s v0 = e0 := by
  cases s with
  | zero => exact elE_v0
  | succ s => exact tE_v0 _ _ _
theorem lcE_vc (G : Nat → Nat) (d : Nat → Nat → Nat) (t s m : Nat) (c : Nat → Bool) (w : Nat → Nat → Bool) : lcE G d t s (vc m c w) = es m c (fun i => lcE G d t s (w i)) := by
  induction m with
  | zero => exact lcE_v0 G d t s
  | succ m ih =>
    rw [es_succ, vc_succ, lcE_vx, ih]
    congr 1
    cases c m
    · rw [if_neg (by decide)]
      exact lcE_v0 G d t s
    · rw [if_pos rfl]
      rfl
/-- what goes to nothing below, as bits -/
def isK (de : Nat → Nat) (am : Nat → Nat → Nat → Bool) (n : Nat) (G : Nat → Nat) (d : Nat → Nat → Nat) (gb : Nat → Nat → Nat → Bool) (t : Nat) : Nat → (Nat → Bool) → Prop
  | 0, f => ∀ q, f q = true → q < n ∧ de q = t
  | s + 1, f => (∀ q, flP aS (d s) t (G s) ≤ q → f q = false) ∧ DmG am n G d gb s (tE (d s) (G s) t f) = e0
theorem isK_vx {de : Nat → Nat} {am : Nat → Nat → Nat → Bool} {n : Nat} {G : Nat → Nat} {d : Nat → Nat → Nat} {gb : Nat → Nat → Nat → Bool} {t s : Nat} {f g : Nat → Bool} (hf : isK de am n G d gb t s f) (hg : isK de am n G d gb t s g) : isK de am n G d gb t s (vx f g) := by
  cases s with
  | zero =>
    intro q hq
    rcases bxor_false hq with h | h
    · exact hf q h
    · exact hg q h
  | succ s =>
    refine ⟨fun q hq => ?_, ?_⟩
    · unfold vx
      rw [hf.1 q hq, hg.1 q hq]
      rfl
    · rw [tE_vx]
      unfold DmG
      rw [Dm_add]
      have h1 := hf.2
      have h2 := hg.2
      unfold DmG at h1 h2
      rw [h1, h2, ex_self]
theorem isK_v0 (de : Nat → Nat) (am : Nat → Nat → Nat → Bool) (n : Nat) (G : Nat → Nat) (d : Nat → Nat → Nat) (gb : Nat → Nat → Nat → Bool) (t s : Nat) : isK de am n G d gb t s v0 := by
  cases s with
  | zero => intro q hq; cases hq
  | succ s =>
    refine ⟨fun _ _ => rfl, ?_⟩
    rw [tE_v0]
    exact Dm_0 _ _ _ _ _
theorem isK_vc {de : Nat → Nat} {am : Nat → Nat → Nat → Bool} {n : Nat} {G : Nat → Nat} {d : Nat → Nat → Nat} {gb : Nat → Nat → Nat → Bool} {t s : Nat} {m : Nat} {c : Nat → Bool} {w : Nat → Nat → Bool} (h : ∀ i, i < m → isK de am n G d gb t s (w i)) : isK de am n G d gb t s (vc m c w) := by
  induction m with
  | zero => exact isK_v0 de am n G d gb t s
  | succ m ih =>
    rw [vc_succ]
    refine isK_vx (ih (fun i hi => h i (by omega))) ?_
    cases c m
    · exact isK_v0 de am n G d gb t s
    · exact h m (by omega)
/-- codes are one to one -/
theorem lcE_inj {de : Nat → Nat} {am : Nat → Nat → Nat → Bool} {n : Nat} {G : Nat → Nat} {d : Nat → Nat → Nat} {gb : Nat → Nat → Nat → Bool} {t s : Nat} {f : Nat → Bool} (hf : ∀ q, gpl aS G d t s ≤ q → f q = false) (h : lcE G d t s f = e0) : f = v0 := by
  cases s with
  | zero =>
    funext q
    have := congrFun (congrFun h q) 0
    have h2 : (decide (0 = 0) && f q) = false := this
    exact h2
  | succ s => exact tE_inj hf (fun _ _ => rfl) (h.trans (tE_v0 _ _ _).symm)
theorem tch_tc {u : Nat} (hu : u < 61) (A : Nat → Nat → Nat) (n x : Nat) : tch A n aN (u : Int) x = tc A n u x := by
  have h : ∀ j : Nat, j < 3 → rbn aN (u : Int) (j : Int) = cn u j := fun j hj => by
    unfold rbn bnm cn
    rw [if_pos (by omega), Int.toNat_natCast, Int.toNat_natCast, Int.toNat_natCast]
  unfold tch tc
  rw [show rbn aN (u : Int) 0 = cn u 0 from h 0 (by decide), show rbn aN (u : Int) 1 = cn u 1 from h 1 (by decide), show rbn aN (u : Int) 2 = cn u 2 from h 2 (by decide)]
theorem wid_le (p : Nat) : p ≤ 64 * wid p := by
  unfold wid
  omega
section DV
variable {A : Nat → Nat → Nat} {n : Nat} {de : Nat → Nat} {G : Nat → Nat} {d : Nat → Nat → Nat} {gb : Nat → Nat → Nat → Bool} {t s : Nat}
/-- what a place goes to is the act of its chain -/
theorem dv_code (hA : SpOK A n de) (ht : t ≤ 14) (hg0 : ∀ a, a < G 0 → ∀ q, gb 0 a q = true → q < n ∧ de q = d 0 a) {a k : Nat} (ha : a < G s) (hk : k < wd t (d s a)) :
    lcE G d t s (dvS aS aN aGP A n G d gb t s (flP aS (d s) t a + k)) = acL caA (sAct (amC A n) (sA n)) s (bs t (d s a) + k) (dlt G d gb s a) ∧ ∀ q, gpl aS G d t s ≤ q → dvS aS aN aGP A n G d gb t s (flP aS (d s) t a + k) q = false := by
  have h61 := bs_61 t (d s a)
  have hc : bs t (d s a) + k < 61 := by omega
  have hcd := (bs_iff (t := t) (d := d s a) hc).mpr ⟨by omega, by omega⟩
  have e : dvS aS aN aGP A n G d gb t s (flP aS (d s) t a + k) = imgT aS aN aGP A n G d gb t s a k := by
    funext q
    exact dvT_at hk (G s) ha q
  rw [e]
  cases s with
  | succ s => exact ⟨pps_E ht hc hcd (wid_le _), fun q hq => pps_out ht hc hcd hq⟩
  | zero =>
    have hb12 : ∀ q, 12 ≤ q → gb 0 a q = false := fun q hq => by
      cases hb : gb 0 a q
      · rfl
      · have := (hg0 a ha q hb).1
        have := hA.1
        omega
    have hx : Hm de n (d 0 a) (toN (gb 0 a)) := fun q hq => by
      rw [toN_bit hb12] at hq
      exact hg0 a ha q hq
    have hh := tc_hm hA hc hx
    have e2 : imgT aS aN aGP A n G d gb t 0 a k = fun q => (tc A n (bs t (d 0 a) + k) (toN (gb 0 a))).testBit q := by
      funext q
      show (decide (q < 64 * wid 12) && (tch A n aN ((bs t (d 0 a) + k : Nat) : Int) (toN (gb 0 a))).testBit q) = _
      rw [tch_tc hc]
      by_cases hq : q < 64 * wid 12
      · rw [decide_eq_true hq, Bool.true_and]
      · rw [decide_eq_false hq, Bool.false_and]
        cases hb : (tc A n (bs t (d 0 a) + k) (toN (gb 0 a))).testBit q
        · rfl
        · have h1 := (hh q hb).1
          have h2 := hA.1
          have h3 : wid 12 = 1 := rfl
          omega
    rw [e2]
    refine ⟨?_, fun q hq => ?_⟩
    · funext a' b'
      show (decide (b' = 0) && (tc A n (bs t (d 0 a) + k) (toN (gb 0 a))).testBit a') = (decide (b' = 0) && (sA n a' && xs_ 12 (fun e => elE (gb 0 a) e 0 && amC A n (bs t (d 0 a) + k) e a')))
      congr 1
      rw [(tc_lin A n _).bits (fun q hq => by have := (hx q hq).1; have := hA.1; omega)]
      have e3 : xs_ 12 (fun e => (toN (gb 0 a)).testBit e && (tc A n (bs t (d 0 a) + k) (2 ^ e)).testBit a') = xs_ 12 (fun e => elE (gb 0 a) e 0 && amC A n (bs t (d 0 a) + k) e a') := xs_congr fun i hi => by
        rw [toN_bit hb12]
        show _ = ((decide (0 = 0) && gb 0 a i) && (decide (i < n) && _))
        rw [decide_eq_true (rfl : 0 = 0), Bool.true_and]
        cases hb : gb 0 a i
        · rfl
        · rw [decide_eq_true (hg0 a ha i hb).1, Bool.true_and, Bool.true_and]
      rw [e3]
      unfold sA
      by_cases h : a' < n
      · rw [decide_eq_true h, Bool.true_and]
      · rw [decide_eq_false h, Bool.false_and, ← e3, ← (tc_lin A n _).bits (fun q hq => by have := (hx q hq).1; have := hA.1; omega)]
        cases hb : (tc A n (bs t (d 0 a) + k) (toN (gb 0 a))).testBit a'
        · rfl
        · exact absurd (hh a' hb).1 h
    · have hq' : 12 ≤ q := hq
      show (tc A n (bs t (d 0 a) + k) (toN (gb 0 a))).testBit q = false
      cases hb : (tc A n (bs t (d 0 a) + k) (toN (gb 0 a))).testBit q
      · rfl
      · have h1 := (hh q hb).1
        have h2 := hA.1
        omega
end DV
