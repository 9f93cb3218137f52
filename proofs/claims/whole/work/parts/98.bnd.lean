/-! bounds by the tower that every space has -/
theorem cntp_ns (p : Nat → Bool) (N : Nat) : cntp p N = ns N (fun a => if p a then 1 else 0) := by
  induction N with
  | zero => rfl
  | succ N ih =>
    show cntp p N + _ = ns N _ + _
    rw [ih]
theorem fm_N {N1 N2 : Nat} (hN : N1 ≤ N2) (act : Nat → EE → EE) (y : Nat → EE) {x : EE} (hx : ∀ g u, x g u = true → g < N1) : fm N2 act y x = fm N1 act y x := by
  funext a b
  unfold fm
  rw [es2_at, es2_at, show N2 = N1 + (N2 - N1) by omega, xs_add, xs_zero' (n := N2 - N1) (fun j _ => xs_zero' fun u _ => ?_), Bool.xor_false]
  cases hb : x (N1 + j) u
  · rfl
  · have := hx _ _ hb
    omega
theorem ns_le_ns {n : Nat} {f g : Nat → Nat} (h : ∀ i, i < n → f i ≤ g i) : ns n f ≤ ns n g := by
  induction n with
  | zero => exact Nat.le_refl _
  | succ n ih => exact Nat.add_le_add (ih (fun i hi => h i (by omega))) (h n (by omega))
theorem ns_more (f : Nat → Nat) (n : Nat) : ∀ m, ns n f ≤ ns (n + m) f := by
  intro m
  induction m with
  | zero => exact Nat.le_refl _
  | succ m ih => exact Nat.le_trans ih (Nat.le_add_right _ _)
theorem ns_0 {n : Nat} {f : Nat → Nat} (h : ∀ i, i < n → f i = 0) : ns n f = 0 := by
  induction n with
  | zero => rfl
  | succ n ih =>
    show ns n f + f n = 0
    rw [ih (fun i hi => h i (by omega)), h n (by omega)]
theorem ns_8 (f : Nat → Nat) (n : Nat) : ns (8 * n) f = ns n (fun e => ns 8 (fun p => f (8 * e + p))) := by
  induction n with
  | zero => rfl
  | succ n ih =>
    rw [show 8 * (n + 1) = 8 * n + 1 + 1 + 1 + 1 + 1 + 1 + 1 + 1 by omega]
    show ns (8 * n) f + f (8 * n) + f (8 * n + 1) + f (8 * n + 2) + f (8 * n + 3) + f (8 * n + 4) + f (8 * n + 5) + f (8 * n + 6) + f (8 * n + 7) = ns n _ + (0 + f (8 * n + 0) + f (8 * n + 1) + f (8 * n + 2) + f (8 * n + 3) + f (8 * n + 4) + f (8 * n + 5) + f (8 * n + 6) + f (8 * n + 7))
    rw [ih, show 8 * n + 0 = 8 * n from rfl]
    omega
/-- counted by degrees -/
theorem ns_deg (p : Nat → Bool) (d h : Nat → Nat) (T : Nat) : ∀ N, (∀ a, a < N → p a = true → d a ≤ T) → ns N (fun a => if p a then h (d a) else 0) = ns (T + 1) (fun τ => cntp (fun a => p a && decide (d a = τ)) N * h τ) := by
  intro N
  induction N with
  | zero => intro _; exact (ns_0 fun i _ => Nat.zero_mul _).symm
  | succ N ih =>
    intro hd
    have e := ih (fun a ha => hd a (by omega))
    show ns N (fun a => if p a then h (d a) else 0) + (if p N then h (d N) else 0) = _
    have hc : ∀ τ, cntp (fun a => p a && decide (d a = τ)) (N + 1) = cntp (fun a => p a && decide (d a = τ)) N + (if p N && decide (d N = τ) then 1 else 0) := fun τ => by
      rw [cntp_ns, cntp_ns]
      rfl
    cases hp : p N
    · rw [if_neg (by decide), Nat.add_zero, e]
      refine ns_congr fun τ _ => ?_
      rw [hc τ, hp, Bool.false_and, if_neg (by decide), Nat.add_zero]
    · rw [if_pos rfl, e]
      refine (ns_chg (e := d N) (v := h (d N)) (by have := hd N (by omega) hp; omega) (fun τ _ hne => ?_) ?_).symm
      · rw [hc τ, hp, Bool.true_and, decide_eq_false (fun z => hne z.symm), if_neg (by decide), Nat.add_zero]
      · rw [hc (d N), hp, Bool.true_and, decide_eq_true rfl, if_pos rfl, Nat.add_mul, Nat.one_mul]
section BND
variable {de : Nat → Nat} {am : Nat → Nat → Nat → Bool} {n : Nat}
def gvT (de : Nat → Nat) (n T s g : Nat) : Bool := gvE de pv pd (sA n) s g && decide (dE de pd s g ≤ T)
theorem twT (h : IsSp dgA caA de am n) {T : Nat} (hT : T ≤ 14) : ∃ δ, RGen dgA caA (sIn de (sA n)) (sAct am (sA n)) 300 5 T (gvT de n T) (dE de pd) δ ∧ RExa dgA caA (sIn de (sA n)) (sAct am (sA n)) 300 5 T (gvT de n T) (dE de pd) δ ∧ ∀ s t, s ≤ 5 → t ≤ 14 → KSpan dgA caA (sAct am (sA n)) 300 (gvT de n T) (dE de pd) δ s t (kA de n s t) := by
  obtain ⟨δ, g1, g2, g3⟩ := tw_ex h
  have hT1 : ∀ s g, gvT de n T s g = true → gvE de pv pd (sA n) s g = true ∧ dE de pd s g ≤ T := fun s g hg => by
    unfold gvT at hg
    simp only [Bool.and_eq_true, decide_eq_true_eq] at hg
    exact hg
  have hup : ∀ s t x, FIn dgA (gvT de n T s) (dE de pd s) t x → FIn dgA (gvE de pv pd (sA n) s) (dE de pd s) t x := fun s t x hx a b hb => by
    obtain ⟨h1, h2, h3⟩ := hx a b hb
    exact ⟨(hT1 s a h1).1, h2, h3⟩
  have hdn : ∀ s t x, t ≤ T → FIn dgA (gvE de pv pd (sA n) s) (dE de pd s) t x → FIn dgA (gvT de n T s) (dE de pd s) t x := fun s t x ht hx a b hb => by
    obtain ⟨h1, h2, h3⟩ := hx a b hb
    refine ⟨?_, h2, h3⟩
    unfold gvT
    rw [h1, Bool.true_and]
    exact decide_eq_true (by omega)
  have hDm : ∀ s t x, s ≤ 5 → FIn dgA (gvE de pv pd (sA n) s) (dE de pd s) t x → Dm 300 caA (sAct am (sA n)) δ s x = Dm 96 caA (sAct am (sA n)) δ s x := fun s t x hs hx => fm_N (by decide) _ _ (fun g u hb => (g1.1 s hs g (hx g u hb).1).1)
  refine ⟨δ, ⟨fun s hs g hg => ?_, fun s hs g hg => ?_⟩, ⟨fun t ht m hm => ?_, fun s hs t ht x hx h0 => ?_⟩, fun s t hs ht => ?_⟩
  · obtain ⟨k1, k2⟩ := hT1 s g hg
    obtain ⟨e1, e2, e3⟩ := g1.1 s hs g k1
    refine ⟨by omega, k2, ?_⟩
    cases s with
    | zero => exact e3
    | succ s => exact hdn s _ _ k2 e3
  · obtain ⟨k1, k2⟩ := hT1 (s + 1) g hg
    rw [hDm s (dE de pd (s + 1) g) _ (by omega) (g1.1 (s + 1) (by omega) g k1).2.2]
    exact g1.2 s hs g k1
  · obtain ⟨y, y1, y2⟩ := g2.1 t (by omega) m hm
    exact ⟨y, hdn 0 t y ht y1, by rw [hDm 0 t y (by decide) y1]; exact y2⟩
  · have hx' := hup s t x hx
    rw [hDm s t x (by omega) hx'] at h0
    obtain ⟨y, y1, y2⟩ := g2.2 s hs t (by omega) x hx' h0
    exact ⟨y, hdn (s + 1) t y ht y1, by rw [hDm (s + 1) t y (by omega) y1]; exact y2⟩
  · obtain ⟨w, -, w2⟩ := g3 s t hs ht
    refine ⟨w, fun x hx h0 => ?_⟩
    have hx' := hup s t x hx
    rw [hDm s t x hs hx'] at h0
    exact w2 x hx' h0
theorem Tow.gen {G : Nat → Nat} {d : Nat → Nat → Nat} {gb : Nat → Nat → Nat → Bool} {S T : Nat} (h : Tow de am n (S + 1) (T + 1) G d gb) : RGen dgA caA (sIn de (sA n)) (sAct am (sA n)) 300 S T (gvG G) d (dlt G d gb) ∧ RExa dgA caA (sIn de (sA n)) (sAct am (sA n)) 300 S T (gvG G) d (dlt G d gb) ∧ RMin dgA caA (sAct am (sA n)) 300 S T (gvG G) d (dlt G d gb) := by
  obtain ⟨h1, h2, h3, h4, h5⟩ := h
  refine ⟨⟨fun s hs g hg => ?_, fun s hs g hg => h2 s (by omega) g (of_decide_eq_true hg)⟩, ⟨fun t ht m hm => h3 (by omega) t (by omega) m hm, fun s hs t ht x hx h0 => h4 s (by omega) t (by omega) x hx h0⟩, fun s hs t ht x hx h0 => h5 s (by omega) t (by omega) x hx h0⟩
  obtain ⟨e1, e2, e3⟩ := h1 s (by omega) g (of_decide_eq_true hg)
  exact ⟨e1, by omega, e3⟩
theorem RGen.less {In0 : Nat → EE → Prop} {act0 : Nat → EE → EE} {N S S' T : Nat} {gv : Nat → Nat → Bool} {d : Nat → Nat → Nat} {δ : Nat → Nat → EE} (h : RGen dgA caA In0 act0 N S T gv d δ) (hS : S' ≤ S) : RGen dgA caA In0 act0 N S' T gv d δ := ⟨fun s hs => h.1 s (by omega), fun s hs => h.2 s (by omega)⟩
theorem RExa.less {In0 : Nat → EE → Prop} {act0 : Nat → EE → EE} {N S S' T : Nat} {gv : Nat → Nat → Bool} {d : Nat → Nat → Nat} {δ : Nat → Nat → EE} (h : RExa dgA caA In0 act0 N S T gv d δ) (hS : S' ≤ S) : RExa dgA caA In0 act0 N S' T gv d δ := ⟨h.1, fun s hs => h.2 s (by omega)⟩
/-- what is counted over a floor's generators is not more than over the elements' -/
theorem gen_bound (h : IsSp dgA caA de am n) (hde : ∀ e, e < n → de e ≤ 12) {G : Nat → Nat} {d : Nat → Nat → Nat} {gb : Nat → Nat → Nat → Bool} {s T : Nat} (hs : s ≤ 5) (hT : T ≤ 14) (ht : Tow de am n (s + 1) (T + 1) G d gb) (f : Nat → Nat) {M : Nat} (hM : ∀ x, x ≤ 12 → ns 8 (fun p => if pv s p && decide (x + pd s p ≤ 14) then f (x + pd s p) else 0) ≤ M) : ns (G s) (fun a => f (d s a)) ≤ 12 * M := by
  obtain ⟨δ, g1, g2, -⟩ := twT h hT
  obtain ⟨t1, t2, t3⟩ := ht.gen
  have hn := h.1
  have hG : G s ≤ 300 := by
    rcases Nat.lt_or_ge 300 (G s) with z | z
    · have := (ht.1 s (by omega) 300 z).1
      omega
    · exact z
  have hc := fun τ => gcn_le algA (sp_mod_all h) t1 t2 t3 (g1.less hs) (g2.less hs) (Nat.le_refl s) τ
  have e1 : ns (G s) (fun a => f (d s a)) = ns 300 (fun a => if gvG G s a then f (d s a) else 0) := by
    have : ∀ m, ns (G s) (fun a => f (d s a)) = ns (G s + m) (fun a => if gvG G s a then f (d s a) else 0) := by
      intro m
      induction m with
      | zero => exact ns_congr fun i hi => by unfold gvG; rw [decide_eq_true hi, if_pos rfl]
      | succ m ih =>
        rw [ih]
        show _ = ns (G s + m) (fun a => if gvG G s a then f (d s a) else 0) + (if gvG G s (G s + m) then f (d s (G s + m)) else 0)
        unfold gvG
        rw [decide_eq_false (by omega), if_neg (by decide), Nat.add_zero]
    have := this (300 - G s)
    rw [show G s + (300 - G s) = 300 by omega] at this
    exact this
  rw [e1, ns_deg (gvG G s) (d s) f T 300 (fun a _ ha => (t1.1 s (Nat.le_refl s) a ha).2.1)]
  refine Nat.le_trans (ns_le_ns (g := fun τ => cntp (fun g => gvT de n T s g && decide (dE de pd s g = τ)) 300 * f τ) (fun τ _ => Nat.mul_le_mul_right _ (hc τ))) ?_
  rw [← ns_deg (gvT de n T s) (dE de pd s) f T 300 (fun a _ ha => (g1.1 s hs a ha).2.1)]
  refine Nat.le_trans (ns_more _ 300 4) ?_
  rw [show 300 + 4 = 8 * 38 by decide, ns_8, show (38 : Nat) = 12 + 26 by decide]
  have hz : ∀ m, ns (12 + m) (fun e => ns 8 (fun p => if gvT de n T s (8 * e + p) then f (dE de pd s (8 * e + p)) else 0)) ≤ 12 * M := by
    intro m
    induction m with
    | zero =>
      refine ns_le (fun e he => ?_)
      by_cases hen : e < n
      · refine Nat.le_trans (ns_le_ns (fun p hp => ?_)) (hM (de e) (hde e hen))
        have hd8 : (8 * e + p) / 8 = e := by omega
        have hm8 : (8 * e + p) % 8 = p := by omega
        unfold gvT gvE dE
        rw [hd8, hm8]
        cases hb : pv s p && decide (de e + pd s p ≤ 14)
        · rw [Bool.and_false, Bool.false_and, if_neg (by decide)]
          exact Nat.zero_le _
        · rw [if_pos rfl]
          split
          · exact Nat.le_refl _
          · exact Nat.zero_le _
      · refine Nat.le_trans (Nat.le_of_eq (ns_0 (fun p hp => ?_))) (Nat.zero_le _)
        have hd8 : (8 * e + p) / 8 = e := by omega
        unfold gvT gvE sA
        rw [hd8, decide_eq_false hen, Bool.false_and, Bool.false_and, if_neg (by decide)]
    | succ m ih =>
      refine Nat.le_trans (Nat.le_of_eq ?_) ih
      show ns (12 + m) (fun e => ns 8 (fun p => if gvT de n T s (8 * e + p) then f (dE de pd s (8 * e + p)) else 0)) + ns 8 (fun p => if gvT de n T s (8 * (12 + m) + p) then f (dE de pd s (8 * (12 + m) + p)) else 0) = _
      rw [ns_0 (n := 8) (f := fun p => if gvT de n T s (8 * (12 + m) + p) then f (dE de pd s (8 * (12 + m) + p)) else 0) (fun p hp => ?_), Nat.add_zero]
      have hd8 : (8 * (12 + m) + p) / 8 = 12 + m := by omega
      unfold gvT gvE sA
      rw [hd8, decide_eq_false (by omega), Bool.false_and, Bool.false_and, if_neg (by decide)]
  exact hz 26
theorem pt_gens : ∀ s, s < 6 → ∀ x, x < 13 → ns 8 (fun p => if pv s p && decide (x + pd s p ≤ 14) then 1 else 0) ≤ 6 := by decide +kernel
theorem pt_places : ∀ s, s < 6 → ∀ t, t < 15 → ∀ x, x < 13 → ns 8 (fun p => if pv s p && decide (x + pd s p ≤ 14) then wd t (x + pd s p) else 0) ≤ 25 := by decide +kernel
theorem pt_one : ∀ s, s < 6 → ∀ t, t < 15 → ∀ x, x < 13 → ns 8 (fun p => if pv s p && decide (x + pd s p ≤ 14) then (if x + pd s p = t then 1 else 0) else 0) ≤ 1 := by decide +kernel
theorem bnd_gens (h : IsSp dgA caA de am n) (hde : ∀ e, e < n → de e ≤ 12) {G : Nat → Nat} {d : Nat → Nat → Nat} {gb : Nat → Nat → Nat → Bool} {s T : Nat} (hs : s ≤ 5) (hT : T ≤ 14) (ht : Tow de am n (s + 1) (T + 1) G d gb) : G s ≤ 72 := by
  have := gen_bound h hde hs hT ht (fun _ => 1) (M := 6) (fun x hx => pt_gens s (by omega) x (by omega))
  have e : ns (G s) (fun _ => 1) = G s := by
    induction G s with
    | zero => rfl
    | succ k ih => show ns k _ + 1 = k + 1; rw [ih]
  omega
theorem bnd_places (h : IsSp dgA caA de am n) (hde : ∀ e, e < n → de e ≤ 12) {G : Nat → Nat} {d : Nat → Nat → Nat} {gb : Nat → Nat → Nat → Bool} {s T t : Nat} (hs : s ≤ 5) (hT : T ≤ 14) (ht : Tow de am n (s + 1) (T + 1) G d gb) (ht14 : t ≤ 14) : flP aS (d s) t (G s) ≤ 300 := by
  have := gen_bound h hde hs hT ht (fun τ => wd t τ) (M := 25) (fun x hx => pt_places s (by omega) t (by omega) x (by omega))
  exact this
theorem bnd_one (h : IsSp dgA caA de am n) (hde : ∀ e, e < n → de e ≤ 12) {G : Nat → Nat} {d : Nat → Nat → Nat} {gb : Nat → Nat → Nat → Bool} {s T t : Nat} (hs : s ≤ 5) (hT : T ≤ 14) (ht : Tow de am n (s + 1) (T + 1) G d gb) (ht14 : t ≤ 14) : flG (d s) t (G s) ≤ 12 := by
  have := gen_bound h hde hs hT ht (fun τ => if τ = t then 1 else 0) (M := 1) (fun x hx => pt_one s (by omega) t (by omega) x (by omega))
  refine Nat.le_trans (Nat.le_of_eq (ns_congr fun i hi => ?_)) this
  by_cases e : d s i = t
  · rw [if_pos (by omega), if_pos e]
  · rw [if_neg (by omega), if_neg e]
end BND
