/-! the towers of both: counts are equal -/
section TRU
variable {dg : Nat → Nat} {ca : Nat → Nat → Nat → Bool} {In0 : Nat → EE → Prop} {act0 : Nat → EE → EE} {N S T T' : Nat} {gv : Nat → Nat → Bool} {d : Nat → Nat → Nat} {δ : Nat → Nat → EE}
def gvR (gv : Nat → Nat → Bool) (d : Nat → Nat → Nat) (T : Nat) (s a : Nat) : Bool := gv s a && decide (d s a ≤ T)
theorem fin_tr {s t : Nat} (ht : t ≤ T') {x : EE} : FIn dg (gvR gv d T' s) (d s) t x ↔ FIn dg (gv s) (d s) t x := by
  constructor
  · intro h g u hx
    obtain ⟨h1, h2⟩ := h g u hx
    unfold gvR at h1
    simp only [Bool.and_eq_true] at h1
    exact ⟨h1.1, h2⟩
  · intro h g u hx
    obtain ⟨h1, h2, h3⟩ := h g u hx
    unfold gvR
    rw [h1, decide_eq_true (by omega)]
    exact ⟨rfl, h2, h3⟩
theorem rgen_tr (hg : RGen dg ca In0 act0 N S T gv d δ) : RGen dg ca In0 act0 N S T' (gvR gv d T') d δ := by
  refine ⟨fun s hs g h => ?_, fun s hs g h => ?_⟩
  · unfold gvR at h
    simp only [Bool.and_eq_true, decide_eq_true_eq] at h
    obtain ⟨h1, h2, h3⟩ := hg.1 s hs g h.1
    refine ⟨h1, h.2, ?_⟩
    cases s with
    | zero => exact h3
    | succ s => exact (fin_tr h.2).mpr h3
  · unfold gvR at h
    simp only [Bool.and_eq_true, decide_eq_true_eq] at h
    exact hg.2 s hs g h.1
theorem rexa_tr (he : RExa dg ca In0 act0 N S T gv d δ) (hT : T' ≤ T) : RExa dg ca In0 act0 N S T' (gvR gv d T') d δ := by
  refine ⟨fun t ht m hm => ?_, fun s hs t ht x hx h0 => ?_⟩
  · obtain ⟨y, y1, y2⟩ := he.1 t (by omega) m hm
    exact ⟨y, (fin_tr ht).mpr y1, y2⟩
  · obtain ⟨y, y1, y2⟩ := he.2 s hs t (by omega) x ((fin_tr ht).mp hx) h0
    exact ⟨y, (fin_tr ht).mpr y1, y2⟩
theorem rmin_tr (hm : RMin dg ca act0 N S T gv d δ) (hT : T' ≤ T) : RMin dg ca act0 N S T' (gvR gv d T') d δ := fun s hs t ht x hx h0 => hm s hs t (by omega) x ((fin_tr ht).mp hx) h0
end TRU
theorem gcn_flG {G : Nat → Nat} {d : Nat → Nat → Nat} {s T t : Nat} (hG : G s ≤ 300) (ht : t ≤ T) : gcn 300 (gvR (gvG G) d T) d s t = flG (d s) t (G s) := by
  unfold gcn
  have h1 : ∀ m, m ≤ G s → cntp (fun g => gvR (gvG G) d T s g && decide (d s g = t)) m = flG (d s) t m := by
    intro m
    induction m with
    | zero => intro _; rfl
    | succ m ih =>
      intro hm
      rw [flG_more, ← ih (by omega)]
      show _ + (if (gvR (gvG G) d T s m && decide (d s m = t)) then 1 else 0) = _ + _
      have eb : (gvR (gvG G) d T s m && decide (d s m = t)) = decide (d s m = t) := by
        unfold gvR gvG
        rw [decide_eq_true (show m < G s by omega), Bool.true_and]
        by_cases e : d s m = t
        · rw [decide_eq_true (show d s m ≤ T by omega), Bool.true_and]
        · rw [decide_eq_false e, Bool.and_false]
      rw [eb]
      by_cases e : d s m = t
      · rw [decide_eq_true e, if_pos rfl, if_pos (show (d s m : Int) = (t : Int) by omega)]
      · rw [decide_eq_false e, if_neg (by decide), if_neg (show ¬ (d s m : Int) = (t : Int) by omega)]
  have h2 : ∀ m, cntp (fun g => gvR (gvG G) d T s g && decide (d s g = t)) (G s + m) = cntp (fun g => gvR (gvG G) d T s g && decide (d s g = t)) (G s) := by
    intro m
    induction m with
    | zero => rfl
    | succ m ih =>
      show cntp _ (G s + m) + (if (gvR (gvG G) d T s (G s + m) && decide (d s (G s + m) = t)) then 1 else 0) = _
      rw [ih]
      unfold gvR gvG
      rw [decide_eq_false (show ¬ G s + m < G s by omega)]
      rfl
  have := h2 (300 - G s)
  rw [show G s + (300 - G s) = 300 by omega] at this
  rw [this, h1 _ (Nat.le_refl _)]
section CMPT
variable {A : Nat → Nat → Nat} {n : Nat} {de : Nat → Nat} {T1 T2 : Nat} {G G' : Nat → Nat} {d d' : Nat → Nat → Nat} {gb gb' : Nat → Nat → Nat → Bool}
theorem fl_le (hA : SpOK A n de) (hR : RuleOn A n) (h : TIc A n de T1 G d gb) (h' : TIc A n de T2 G' d' gb') {s t : Nat} (hs : s ≤ 5) (h1 : t < T1) (h2 : t < T2) : flG (d s) t (G s) ≤ flG (d' s) t (G' s) := by
  obtain ⟨a, rfl⟩ := Nat.exists_eq_succ_of_ne_zero (show T1 ≠ 0 by omega)
  obtain ⟨b, rfl⟩ := Nat.exists_eq_succ_of_ne_zero (show T2 ≠ 0 by omega)
  obtain ⟨t1, t2, t3⟩ := h.1.gen
  obtain ⟨u1, u2, u3⟩ := h'.1.gen
  have hg := h.2.2 s (by omega)
  have hg' := h'.2.2 s (by omega)
  have hM := sp_mod_all (sound_sp hA hR)
  have hle := gcn_le algA hM (rgen_tr (T' := t) t1) (rexa_tr (T' := t) t2 (by omega)) (rmin_tr (T' := t) t3 (by omega)) (rgen_tr (T' := t) u1) (rexa_tr (T' := t) u2 (by omega)) (s := s) hs t
  rw [gcn_flG (by omega) (Nat.le_refl t), gcn_flG (by omega) (Nat.le_refl t)] at hle
  exact hle
/-- generators at a place: both towers have as many -/
theorem fl_eq (hA : SpOK A n de) (hR : RuleOn A n) (h : TIc A n de T1 G d gb) (h' : TIc A n de T2 G' d' gb') {s t : Nat} (hs : s ≤ 5) (h1 : t < T1) (h2 : t < T2) : flG (d s) t (G s) = flG (d' s) t (G' s) :=
  Nat.le_antisymm (fl_le hA hR h h' hs h1 h2) (fl_le hA hR h' h hs h2 h1)
theorem ns_fl {f : Nat → Nat} {t : Nat} (hf : ∀ τ, t < τ → f τ = 0) (dd : Nat → Nat) : ∀ g, ns g (fun a => f (dd a)) = ns (t + 1) (fun τ => flG dd τ g * f τ) := by
  intro g
  induction g with
  | zero => exact (ns_0 fun i _ => by rw [show flG dd i 0 = 0 from rfl, Nat.zero_mul]).symm
  | succ g ih =>
    have key : ∀ m, ns m (fun τ => flG dd τ (g + 1) * f τ) = ns m (fun τ => flG dd τ g * f τ) + (if dd g < m then f (dd g) else 0) := by
      intro m
      induction m with
      | zero => rfl
      | succ m ihm =>
        show ns m (fun τ => flG dd τ (g + 1) * f τ) + flG dd (m : Int) (g + 1) * f m = ns m (fun τ => flG dd τ g * f τ) + flG dd (m : Int) g * f m + _
        rw [ihm, flG_more]
        by_cases e : dd g = m
        · rw [if_neg (by omega), if_pos (by omega), if_pos (by omega), Nat.add_mul, Nat.one_mul, e]
          omega
        · rw [if_neg (show ¬ (dd g : Int) = (m : Int) by omega), Nat.add_zero]
          by_cases e2 : dd g < m
          · rw [if_pos e2, if_pos (by omega)]
            omega
          · rw [if_neg e2, if_neg (by omega)]
            omega
    show ns g (fun a => f (dd a)) + f (dd g) = _
    rw [key, ih]
    by_cases e : dd g < t + 1
    · rw [if_pos e]
    · rw [if_neg e, hf _ (by omega)]
theorem flP_eq (hA : SpOK A n de) (hR : RuleOn A n) (h : TIc A n de T1 G d gb) (h' : TIc A n de T2 G' d' gb') {s t : Nat} (hs : s ≤ 5) (h1 : t < T1) (h2 : t < T2) : flP aS (d s) t (G s) = flP aS (d' s) t (G' s) := by
  have hf : ∀ τ, t < τ → (fun τ : Nat => (bsz aS ((t : Int) - τ)).toNat) τ = 0 := fun τ hτ => by
    show (bsz aS ((t : Int) - τ)).toNat = 0
    unfold bsz
    rw [if_neg (by omega)]
    rfl
  have e1 := ns_fl hf (d s) (G s)
  have e2 := ns_fl hf (d' s) (G' s)
  refine Eq.trans e1 (Eq.trans (ns_congr fun τ hτ => ?_) e2.symm)
  rw [fl_eq hA hR h h' hs (by omega) (by omega)]
theorem tbt_eq (hA : SpOK A n de) (hR : RuleOn A n) (h : TIc A n de T1 G d gb) (h' : TIc A n de T2 G' d' gb') {t : Nat} (h1 : t < T1) (h2 : t < T2) : ∀ s, s ≤ 6 → tbt aS d G (t : Int) s = tbt aS d' G' (t : Int) s := by
  intro s
  induction s with
  | zero => intro _; rfl
  | succ s ih =>
    intro hs
    have e := flP_eq hA hR h h' (s := s) (by omega) h1 h2
    have i := ih (by omega)
    unfold tbt
    rw [i, e]
/-- whether a difference may be told: by both towers alike -/
theorem mbt_eq (hA : SpOK A n de) (hR : RuleOn A n) (h : TIc A n de T1 G d gb) (h' : TIc A n de T2 G' d' gb') {K : Nat → Int} {r s t : Nat} {x : Int} (hr : 2 ≤ r) (hs : s + r ≤ 5) (h1 : t + r - 1 < T1) (h2 : t + r - 1 < T2) : mbt K G d r s t x ↔ mbt K G' d' r s t x := by
  unfold mbt
  rw [fl_eq hA hR h h' (s := s) (t := t) (by omega) (by omega) (by omega), fl_eq hA hR h h' (s := s + r) (t := t + r - 1) (by omega) (by omega) (by omega)]
end CMPT
