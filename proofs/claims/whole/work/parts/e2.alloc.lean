/-! ENGINE, part 7: objects and arrays that are made, references that are stored; contracts of constructors -/
abbrev zSh : Type := Nat → Option zS
def zsu (sh : zSh) (q : Nat) (t : zS) : zSh := fun k => match Nat.beq k q with
  | true => some t
  | false => sh k
def zau (ad : Nat → Nat) (q a : Nat) : Nat → Nat := fun k => match Nat.beq k q with
  | true => a
  | false => ad k
def zfz (F : zFi) (q : Nat) : zFi := fun k => match Nat.beq k q with
  | true => fun _ => 0
  | false => F k
def zjz (J : zJi) (q : Nat) : zJi := fun k => match Nat.beq k q with
  | true => fun _ => 0
  | false => J k
theorem nbq (q : Nat) : Nat.beq q q = true := Nat.beq_refl q
theorem nbn {k q : Nat} (h : k ≠ q) : Nat.beq k q = false := by
  cases e : Nat.beq k q with
  | false => rfl
  | true => exact absurd (Nat.eq_of_beq_eq_true e) h
theorem zsu_s (sh : zSh) (q : Nat) (t : zS) : zsu sh q t q = some t := by unfold zsu; rw [nbq]
theorem zsu_n {sh : zSh} {q k : Nat} {t : zS} (h : k ≠ q) : zsu sh q t k = sh k := by unfold zsu; rw [nbn h]
theorem zau_s (ad : Nat → Nat) (q a : Nat) : zau ad q a q = a := by unfold zau; rw [nbq]
theorem zau_n {ad : Nat → Nat} {q k a : Nat} (h : k ≠ q) : zau ad q a k = ad k := by unfold zau; rw [nbn h]
theorem zfz_s (F : zFi) (q : Nat) : zfz F q q = fun _ => 0 := by unfold zfz; rw [nbq]
theorem zfz_r {F : zFi} {q k : Nat} (h : k ≠ q) : zfz F q k = F k := by unfold zfz; rw [nbn h]
theorem zjz_s (J : zJi) (q : Nat) : zjz J q q = fun _ => 0 := by unfold zjz; rw [nbq]
theorem zjz_r {J : zJi} {q k : Nat} (h : k ≠ q) : zjz J q k = J k := by unfold zjz; rw [nbn h]
/-- a cell of this shape refers to x -/
def zSr (t : zS) (x : Nat) : Prop := match t with
  | .inl (_, sl) => some (some x) ∈ sl
  | .inr (.inr (.inr (_, _, _, r))) => ∃ j, r j = some x
  | _ => False
def zCl (sh : zSh) : Prop := ∀ k t x, sh k = some t → zSr t x → sh x ≠ none
theorem zfs_ad {ad ad' : Nat → Nat} {f : Nat → Int} : ∀ (sl : List (Option (Option Nat))) (j : Nat), (∀ x, some (some x) ∈ sl → ad' x = ad x) → zfs ad' f j sl = zfs ad f j sl := by
  intro sl
  induction sl with
  | nil => intro j h; rfl
  | cons o r ih =>
    intro j h
    have hr := ih (j + 1) (fun x hx => h x (List.mem_cons_of_mem _ hx))
    rcases o with _ | _ | x
    · show _ :: _ = _ :: _
      rw [hr]
    · show _ :: _ = _ :: _
      rw [hr]
      rfl
    · show va_rf (some (ad' x)) :: _ = va_rf (some (ad x)) :: _
      rw [hr, h x List.mem_cons_self]
theorem zent_ad {ad ad' : Nat → Nat} {F I : zFi} {J : zJi} {k : Nat} (t : zS) (h : ∀ x, zSr t x → ad' x = ad x) : zent ad' F I J k t = zent ad F I J k t := by
  rcases t with ⟨ci, sl⟩ | ⟨cA, m⟩ | ⟨cA, m⟩ | ⟨cA, E, m, r⟩
  · show Sum.inr (ci, zfs ad' (F k) 0 sl) = Sum.inr (ci, zfs ad (F k) 0 sl)
    rw [zfs_ad sl 0 h]
  · rfl
  · rfl
  · have e : (fun j => (r j).map ad') = fun j => (r j).map ad := funext fun j => by
      cases hj : r j with
      | none => rfl
      | some x => exact congrArg some (h x ⟨j, hj⟩)
    show Sum.inl (cA, m, Sum.inr (Sum.inr (Sum.inr (Sum.inr fun j => (r j).map ad')))) = Sum.inl (cA, m, Sum.inr (Sum.inr (Sum.inr (Sum.inr fun j => (r j).map ad))))
    rw [e]
/-- a value that refers to none of these -/
def zvf (fr : Nat → Bool) (v : zV) : Bool := match v with
  | .inr (.inr (some k)) => !fr k
  | _ => true
def zlf (fr : Nat → Bool) (ls : List (Option zV)) : Bool := ls.all fun o => match o with
  | some v => zvf fr v
  | none => true
theorem zv_ad {ad ad' : Nat → Nat} {fr : Nat → Bool} (h : ∀ k, fr k = false → ad' k = ad k) {v : zV} (hv : zvf fr v = true) : zv ad' v = zv ad v := by
  rcases v with i | n | _ | k
  · rfl
  · rfl
  · rfl
  · show Value.ref (ad' k) = Value.ref (ad k)
    rw [h k (by simpa [zvf] using hv)]
theorem zvs_ad {ad ad' : Nat → Nat} {fr : Nat → Bool} (h : ∀ k, fr k = false → ad' k = ad k) {st : List zV} (hv : st.all (zvf fr) = true) : st.map (zv ad') = st.map (zv ad) :=
  List.map_congr_left fun v hm => zv_ad h (List.all_eq_true.mp hv v hm)
theorem zL_ad {ad ad' : Nat → Nat} {fr : Nat → Bool} {nL : Nat} {ls : List (Option zV)} {LS : Array Slot} (h : ∀ k, fr k = false → ad' k = ad k) (hl : zlf fr ls = true) (hL : zL ad nL ls LS) : zL ad' nL ls LS := by
  refine ⟨hL.1, hL.2.1, hL.2.2.1, fun i v hv => ?_⟩
  rw [zv_ad h (List.all_eq_true.mp hl (some v) (List.mem_of_getElem? hv))]
  exact hL.2.2.2 i v hv
/-- what an array's shape needs of the state -/
def zAr (U : State) (t : zS) : Prop := match t with
  | .inl _ => True
  | .inr (.inl (cA, n)) => n < 2147483648 ∧ ArrOfT U cA .int ∧ va_RA U cA .int
  | .inr (.inr (.inl (cA, n))) => n < 2147483648 ∧ ArrOfT U cA .long ∧ va_RA U cA .long
  | .inr (.inr (.inr (cA, E, n, _))) => n < 2147483648 ∧ ArrOfT U cA (.object E) ∧ va_RA U cA (.object E)
theorem zG.arr {D : va_G} {sh : zSh} {ad : Nat → Nat} {U : State} (h : zG D sh ad U) {k : Nat} {t : zS} (hk : sh k = some t) : zAr U t := by
  rcases t with ⟨ci, sl⟩ | ⟨cA, m⟩ | ⟨cA, m⟩ | ⟨cA, E, m, r⟩
  · trivial
  · exact h.2.2.1 k cA m hk
  · exact h.2.2.2.1 k cA m hk
  · exact h.2.2.2.2.1 k cA E m r hk
theorem zG.mk' {D : va_G} {sh : zSh} {ad : Nat → Nat} {U : State} (h1 : ∀ i j, sh i ≠ none → sh j ≠ none → ad i = ad j → i = j) (h2 : va_K D vwCl [] U) (h3 : ∀ k t, sh k = some t → zAr U t) (h4 : ∀ w ∈ zNest, va_Nw w U) : zG D sh ad U :=
  ⟨h1, h2, fun k cA n e => h3 k _ e, fun k cA n e => h3 k _ e, fun k cA E n r e => h3 k _ e, h4⟩
/-- arrays of these references can be made -/
def zAO (U : State) : Prop := va_AO "SquareTower$Floor" U ∧ va_AO "SquareTower$BitRows" U
theorem zAO.to {u U : State} (hvm : u.vm.Alike U.vm) (h : zAO u) : zAO U := ⟨h.1.moved hvm, h.2.moved hvm⟩
/-- X2 is X0 with another shape; fr tells which addresses may be others -/
def ZX (X0 : zX) (M : zM) (fr : Nat → Bool) (X : zX) : Prop :=
  ZF X M ∧ (zCl (xsh X) ∧ zAO (xs X)) ∧ (X.1 = X0.1 ∧ xD X = xD X0 ∧ xA X = xA X0 ∧ xQ X = xQ X0) ∧ ∀ k, fr k = false → xad X k = xad X0 k
def zXa (X : zX) (sh : zSh) (ad : Nat → Nat) (dk dn : Nat) : zX := (X.1, (xD X, sh, ad), (xA X, xk X + dk, xn X + dn, xQ X))
theorem ZX.born {X0 X : zX} {M : zM} {fr : Nat → Bool} (hZ : ZX X0 M fr X) {q a : Nat} {t : zS} {dk dn : Nat} (hq : xsh X q = none) (hfr : fr q = true) (ha : xA X a) (hne : ∀ k, xsh X k ≠ none → xad X k ≠ a) (hr : ∀ x, ¬ zSr t x) (hk : xk X + dk ≤ M.2.2.2.2.cells) (hn : xn X + dn ≤ M.2.2.2.2.slots) (hG : zAr (xs X) t) :
    ZX X0 M fr (zXa X (zsu (xsh X) q t) (zau (xad X) q a) dk dn) := by
  obtain ⟨⟨f1, f2, f3, f4, f5, ⟨f6, f6b⟩, ⟨f7, f8⟩, f9⟩, ⟨hcl, hao⟩, ⟨e1, e2, e3, e4⟩, had⟩ := hZ
  have hsome : ∀ k, k ≠ q → zsu (xsh X) q t k = xsh X k := fun k h => zsu_n h
  refine ⟨⟨f1, f2, f3, f4, zG.mk' (fun i j hi hj e => ?_) f5.2.1 (fun k t' hk => ?_) f5.2.2.2.2.2, ⟨fun k hk => ?_, f6b⟩, ⟨f7, ?_⟩, f9⟩, ⟨fun k t' x hk hx => ?_, hao⟩, ⟨e1, e2, e3, e4⟩, fun k hk => ?_⟩
  · have e' : zau (xad X) q a i = zau (xad X) q a j := e
    have hi' : zsu (xsh X) q t i ≠ none := hi
    have hj' : zsu (xsh X) q t j ≠ none := hj
    by_cases c1 : i = q
    · by_cases c2 : j = q
      · rw [c1, c2]
      · subst c1
        rw [zau_s, zau_n c2] at e'
        rw [zsu_n c2] at hj'
        exact absurd e'.symm (hne j hj')
    · by_cases c2 : j = q
      · subst c2
        rw [zau_s, zau_n c1] at e'
        rw [zsu_n c1] at hi'
        exact absurd e' (hne i hi')
      · rw [zau_n c1, zau_n c2] at e'
        rw [zsu_n c1] at hi'
        rw [zsu_n c2] at hj'
        exact f5.1 i j hi' hj' e'
  · have hk' : zsu (xsh X) q t k = some t' := hk
    by_cases c1 : k = q
    · subst c1
      rw [zsu_s] at hk'
      cases hk'
      exact hG
    · rw [zsu_n c1] at hk'
      exact f5.arr hk'
  · have hk' : zsu (xsh X) q t k ≠ none := hk
    show xA X (zau (xad X) q a k)
    by_cases c1 : k = q
    · subst c1
      rw [zau_s]
      exact ha
    · rw [zsu_n c1] at hk'
      rw [zau_n c1]
      exact f6 k hk'
  · show xk X + dk ≤ (xR X).cells ∧ xn X + dn ≤ (xR X).slots
    rw [f7]
    exact ⟨hk, hn⟩
  · have hk' : zsu (xsh X) q t k = some t' := hk
    show zsu (xsh X) q t x ≠ none
    by_cases c1 : k = q
    · subst c1
      rw [zsu_s] at hk'
      cases hk'
      exact absurd hx (hr x)
    · rw [zsu_n c1] at hk'
      have := hcl k t' x hk' hx
      rw [zsu_n (fun z => this (by rw [z]; exact hq))]
      exact this
  · show zau (xad X) q a k = _
    rw [zau_n (fun z => by rw [z, hfr] at hk; cases hk)]
    exact had k hk
theorem zWd.born {D : va_G} {sh : zSh} {ad : Nat → Nat} {F I F' I' : zFi} {J J' : zJi} {H H1 : Heap} {q a : Nat} {t : zS} (hW : zWd D sh ad F I J H) (hcl : zCl sh) (hq : sh q = none) (hr : ∀ x, ¬ zSr t x) (he : va_at D vwCl (a, zent ad F' I' J' q t) H1) (ho : ∀ x : Nat, x < H.size → H1[x]? = H[x]?)
    (h1 : ∀ k, k ≠ q → F' k = F k) (h2 : ∀ k, k ≠ q → I' k = I k) (h3 : ∀ k, k ≠ q → J' k = J k) : zWd D (zsu sh q t) (zau ad q a) F' I' J' H1 := by
  intro k t' hk
  by_cases c1 : k = q
  · subst c1
    rw [zsu_s] at hk
    cases hk
    rw [zau_s, zent_ad t (fun x hx => absurd hx (hr x))]
    exact he
  · rw [zsu_n c1] at hk
    rw [zau_n c1, zent_ad t' (fun x hx => zau_n (fun z => hcl k t' x hk hx (by rw [z]; exact hq))), zent_r (h1 k c1) (h2 k c1) (h3 k c1)]
    exact (hW k t' hk).kept (ho _ (hW k t' hk).lt)
theorem zWd.setS {D : va_G} {sh : zSh} {ad : Nat → Nat} {F I : zFi} {J : zJi} {H H1 : Heap} {q : Nat} {t t' : zS} (hW : zWd D sh ad F I J H) (hinj : ∀ i j, sh i ≠ none → sh j ≠ none → ad i = ad j → i = j) (hq : sh q = some t) (he : va_at D vwCl (ad q, zent ad F I J q t') H1) (oq : ∀ x : Nat, x ≠ ad q → H1[x]? = H[x]?) : zWd D (zsu sh q t') ad F I J H1 := by
  intro k u hk
  by_cases c1 : k = q
  · subst c1
    rw [zsu_s] at hk
    cases hk
    exact he
  · rw [zsu_n c1] at hk
    exact (hW k u hk).kept (oq _ fun z => c1 (hinj k q (by rw [hk]; exact fun h => by cases h) (by rw [hq]; exact fun h => by cases h) z))
/-- a cell's shape is another -/
theorem ZX.setS {X0 X : zX} {M : zM} {fr : Nat → Bool} (hZ : ZX X0 M fr X) {q : Nat} {t t' : zS} (hq : xsh X q = some t) (hr : ∀ x, zSr t' x → xsh X x ≠ none) (hG : zAr (xs X) t') : ZX X0 M fr (zXa X (zsu (xsh X) q t') (xad X) 0 0) := by
  obtain ⟨⟨f1, f2, f3, f4, f5, ⟨f6, f6b⟩, f7, f9⟩, ⟨hcl, hao⟩, ⟨e1, e2, e3, e4⟩, had⟩ := hZ
  have hne : ∀ k, zsu (xsh X) q t' k ≠ none → xsh X k ≠ none := fun k h => by
    by_cases c1 : k = q
    · rw [c1, hq]; exact fun z => by cases z
    · rw [zsu_n c1] at h; exact h
  have hne2 : ∀ k, xsh X k ≠ none → zsu (xsh X) q t' k ≠ none := fun k h => by
    by_cases c1 : k = q
    · rw [c1, zsu_s]; exact fun z => by cases z
    · rw [zsu_n c1]; exact h
  refine ⟨⟨f1, f2, f3, f4, zG.mk' (fun i j hi hj e => f5.1 i j (hne i hi) (hne j hj) e) f5.2.1 (fun k u hk => ?_) f5.2.2.2.2.2, ⟨fun k hk => f6 k (hne k hk), f6b⟩, f7, f9⟩, ⟨fun k u x hk hx => ?_, hao⟩, ⟨e1, e2, e3, e4⟩, had⟩
  · have hk' : zsu (xsh X) q t' k = some u := hk
    by_cases c1 : k = q
    · subst c1
      rw [zsu_s] at hk'
      cases hk'
      exact hG
    · rw [zsu_n c1] at hk'
      exact f5.arr hk'
  · have hk' : zsu (xsh X) q t' k = some u := hk
    refine hne2 x ?_
    by_cases c1 : k = q
    · subst c1
      rw [zsu_s] at hk'
      cases hk'
      exact hr x hx
    · rw [zsu_n c1] at hk'
      exact hcl k u x hk' hx
def zdf (T : u_T) (N : Nat) (sl : List (Option (Option Nat))) : Bool := ((List.range N).all fun j => match parseFieldDescriptor (T j).2.2.1 with
  | some ty => decide (defaultValue ty = vp_V (zfs id (fun _ => 0) 0 sl) j)
  | none => false) && sl.all fun o => match o with
  | some (some _) => false
  | _ => true
theorem zdf_spec {T : u_T} {N : Nat} {sl : List (Option (Option Nat))} (h : zdf T N sl = true) : (∀ x, some (some x) ∉ sl) ∧ ∀ (ty0 : Nat → FieldType), (∀ k, k < N → parseFieldDescriptor (T k).2.2.1 = some (ty0 k)) → ∀ (ad : Nat → Nat) j, j < N → defaultValue (ty0 j) = vp_V (zfs ad (fun _ => 0) 0 sl) j := by
  unfold zdf at h
  rw [Bool.and_eq_true] at h
  have hno : ∀ x, some (some x) ∉ sl := fun x hx => by
    have := List.all_eq_true.mp h.2 _ hx
    cases this
  refine ⟨hno, fun ty0 hty ad j hj => ?_⟩
  have := List.all_eq_true.mp h.1 j (List.mem_range.mpr hj)
  rw [hty j hj] at this
  rw [zfs_ad (ad := id) sl 0 (fun x hx => absurd hx (hno x))]
  exact of_decide_eq_true this
section ZALLOC
variable {X0 X : zX} {M : zM} {fr : Nat → Bool} {pc n aux : Nat} {ls : List (Option zV)} {st : List zV} {F I : zFi} {J : zJi}
theorem zstk {X : zX} {H : Heap} {locs : List Loc} {k n pc : Nat} {LS : Array Slot} {a b : List Value} (e : a = b) (h : W (xp X) (xl X) (xe X) (xR X) (xs X) (xm X) (xa X) (xb X) (xt X) (xc X) H locs k n (xQ X) (F0 (xm X) pc LS a)) : W (xp X) (xl X) (xe X) (xR X) (xs X) (xm X) (xa X) (xb X) (xt X) (xc X) H locs k n (xQ X) (F0 (xm X) pc LS b) := e ▸ h
/-- a new object -/
theorem hw_new {ci idx N q : Nat} {C : String} {T : u_T} {sl : List (Option (Option Nat))} (hZ : ZX X0 M fr X) (hd : decode M.1 pc = .ok (.new idx, 3)) (hci : vwCl[ci]? = some (C, T, N)) (w1 : Cond.classLink M.2.2.1 idx C ∈ M.2.2.2.1) (w2 : Cond.instantiable C N ∈ M.2.2.2.1) (w3 : Cond.initialized C ∈ M.2.2.2.1) (w4 : ∀ w ∈ u_ws C T N, w ∈ M.2.2.2.1) (hsl : zdf T N sl = true)
    (hq : xsh X q = none) (hfr : fr q = true) (hl : zlf (fun k => decide (k = q)) ls = true) (hs : st.all (zvf fun k => decide (k = q)) = true) (hk : xk X + 1 ≤ M.2.2.2.2.cells) (hn : xn X + N ≤ M.2.2.2.2.slots)
    (kk : ∀ X', ZX X0 M fr X' → xsh X' = zsu (xsh X) q (.inl (ci, sl)) → xk X' = xk X + 1 → xn X' = xn X + N → HW X' (pc + 3) ls (.inr (.inr (some q)) :: st) (zfz F q) I J) : HW X pc ls st F I J := by
  obtain ⟨⟨f1, f2, f3, f4, f5, ⟨f6, f6b⟩, ⟨f7, f8⟩, f9⟩, ⟨hcl, hao⟩, -⟩ := id hZ
  obtain ⟨⟨ty0, hty0⟩, -⟩ := zcl_ok _ _ _ _ hci
  obtain ⟨hno, hdf⟩ := zdf_spec hsl
  intro H locs LS hW hS hL
  have hKn := f5.2.1.1 ci _ hci
  refine W.newcK f1 f2 f3 (f4 _ w1) (f4 _ w2) (f4 _ w3) rfl hd (by rw [f7]; exact hk) (by rw [f7]; exact hn) hKn.2.1 rfl fun H1 kC hkC e1 z1 o1 => ?_
  have hr : ∀ x, ¬ zSr (.inl (ci, sl)) x := fun x hx => hno x hx
  have hne : ∀ k, xsh X k ≠ none → xad X k ≠ H.size := fun k hk => by
    cases hs : xsh X k with
    | none => exact absurd hs hk
    | some t => exact Nat.ne_of_lt (hW k t hs).lt
  have hZ' := hZ.born (q := q) (a := H.size) (t := .inl (ci, sl)) (dk := 1) (dn := N) hq hfr (f6b _ hS.1) hne hr hk hn trivial
  have hfa : ∀ k, decide (k = q) = false → zau (xad X) q H.size k = xad X k := fun k hk => zau_n (of_decide_eq_false hk)
  refine zstk (X := X) (a := (Sum.inr (Sum.inr (some q)) :: st).map (zv (zau (xad X) q H.size))) ?_ (kk _ hZ' rfl rfl rfl H1 locs LS (hW.born (a := H.size) hcl hq hr ?_ o1 (fun k hk => zfz_r hk) (fun _ _ => rfl) (fun _ _ => rfl)) ⟨Nat.le_trans hS.1 (by omega), fun x h1 h2 => (o1 x (Nat.lt_of_lt_of_le h1 hS.1)).trans (hS.2.1 x h1 h2), hS.2.2⟩ (zL_ad hfa hl hL))
  · show Value.ref (zau (xad X) q H.size q) :: _ = Value.ref H.size :: _
    rw [zau_s, zvs_ad hfa hs]
  · refine ⟨_, hci, t_OB.to (u_born ty0 f4 w4 hKn hkC e1 hty0) (fun j hj => ?_)⟩
    rw [zfz_s]
    exact hdf ty0 hty0 _ j hj
theorem zlen_i {a : Int} {N : Nat} (ha : a = (N : Int)) (hN : N < 2147483648) : ¬ (Int32.ofInt a < 0) ∧ (Int32.ofInt a).toNatClampNeg = N := by
  subst ha
  refine ⟨?_, ?_⟩
  · rw [zi_0, zi_lt]
    omega
  · rw [Int32.ofInt_eq_ofNat]
    exact nI_clamp hN
/-- a new array of ints -/
theorem hw_newI {q N : Nat} {a : Int} (hZ : ZX X0 M fr X) (hd : decode M.1 pc = .ok (.newarray .int, 2)) (w1 : Cond.arrayClass .int ∈ M.2.2.2.1) (ha : a = (N : Int)) (hN : N * 4 ≤ 536870912)
    (hq : xsh X q = none) (hfr : fr q = true) (hl : zlf (fun k => decide (k = q)) ls = true) (hs : st.all (zvf fun k => decide (k = q)) = true) (hk : xk X + 1 ≤ M.2.2.2.2.cells) (hn : xn X + N ≤ M.2.2.2.2.slots)
    (kk : ∀ X' cA, ZX X0 M fr X' → xsh X' = zsu (xsh X) q (.inr (.inl (cA, N))) → xk X' = xk X + 1 → xn X' = xn X + N → HW X' (pc + 2) ls (.inr (.inr (some q)) :: st) F (zfz I q) J) : HW X pc ls (.inl a :: st) F I J := by
  obtain ⟨⟨f1, f2, f3, f4, f5, ⟨f6, f6b⟩, ⟨f7, f8⟩, f9⟩, ⟨hcl, hao⟩, -⟩ := id hZ
  intro H locs LS hW hS hL
  obtain ⟨c1, c2⟩ := zlen_i ha (by omega)
  refine va_newaK (atype := .int) (N := N) f1 f2 (f4 _ w1) rfl hd rfl c1 c2 hN (by rw [f7]; exact hk) (by rw [f7]; exact hn) rfl fun H1 cA e1 z1 o1 hAr hNm => ?_
  have hr : ∀ x, ¬ zSr (.inr (.inl (cA, N))) x := fun x hx => hx
  have hne : ∀ k, xsh X k ≠ none → xad X k ≠ H.size := fun k hk => by
    cases hs : xsh X k with
    | none => exact absurd hs hk
    | some t => exact Nat.ne_of_lt (hW k t hs).lt
  have hZ' := hZ.born (q := q) (a := H.size) (t := .inr (.inl (cA, N))) (dk := 1) (dn := N) hq hfr (f6b _ hS.1) hne hr hk hn ⟨by omega, hAr, hNm⟩
  have hfa : ∀ k, decide (k = q) = false → zau (xad X) q H.size k = xad X k := fun k hk => zau_n (of_decide_eq_false hk)
  refine zstk (X := X) (a := (Sum.inr (Sum.inr (some q)) :: st).map (zv (zau (xad X) q H.size))) ?_ (kk _ cA hZ' rfl rfl rfl H1 locs LS (hW.born (a := H.size) hcl hq hr ?_ o1 (fun _ _ => rfl) (fun k hk => zfz_r hk) (fun _ _ => rfl)) ⟨Nat.le_trans hS.1 (by omega), fun x h1 h2 => (o1 x (Nat.lt_of_lt_of_le h1 hS.1)).trans (hS.2.1 x h1 h2), hS.2.2⟩ (zL_ad hfa hl hL))
  · show Value.ref (zau (xad X) q H.size q) :: _ = Value.ref H.size :: _
    rw [zau_s, zvs_ad hfa hs]
  · show H1[H.size]? = some (vp_cell cA (N, .inl fun j => Int32.ofInt (zfz I q q j)))
    rw [zfz_s]
    exact e1
/-- a new array of longs -/
theorem hw_newJ {q N : Nat} {a : Int} (hZ : ZX X0 M fr X) (hd : decode M.1 pc = .ok (.newarray .long, 2)) (w1 : Cond.arrayClass .long ∈ M.2.2.2.1) (ha : a = (N : Int)) (hN : N * 8 ≤ 536870912)
    (hq : xsh X q = none) (hfr : fr q = true) (hl : zlf (fun k => decide (k = q)) ls = true) (hs : st.all (zvf fun k => decide (k = q)) = true) (hk : xk X + 1 ≤ M.2.2.2.2.cells) (hn : xn X + N ≤ M.2.2.2.2.slots)
    (kk : ∀ X' cA, ZX X0 M fr X' → xsh X' = zsu (xsh X) q (.inr (.inr (.inl (cA, N)))) → xk X' = xk X + 1 → xn X' = xn X + N → HW X' (pc + 2) ls (.inr (.inr (some q)) :: st) F I (zjz J q)) : HW X pc ls (.inl a :: st) F I J := by
  obtain ⟨⟨f1, f2, f3, f4, f5, ⟨f6, f6b⟩, ⟨f7, f8⟩, f9⟩, ⟨hcl, hao⟩, -⟩ := id hZ
  intro H locs LS hW hS hL
  obtain ⟨c1, c2⟩ := zlen_i ha (by omega)
  refine va_newaK (atype := .long) (N := N) f1 f2 (f4 _ w1) rfl hd rfl c1 c2 hN (by rw [f7]; exact hk) (by rw [f7]; exact hn) rfl fun H1 cA e1 z1 o1 hAr hNm => ?_
  have hr : ∀ x, ¬ zSr (.inr (.inr (.inl (cA, N)))) x := fun x hx => hx
  have hne : ∀ k, xsh X k ≠ none → xad X k ≠ H.size := fun k hk => by
    cases hs : xsh X k with
    | none => exact absurd hs hk
    | some t => exact Nat.ne_of_lt (hW k t hs).lt
  have hZ' := hZ.born (q := q) (a := H.size) (t := .inr (.inr (.inl (cA, N)))) (dk := 1) (dn := N) hq hfr (f6b _ hS.1) hne hr hk hn ⟨by omega, hAr, hNm⟩
  have hfa : ∀ k, decide (k = q) = false → zau (xad X) q H.size k = xad X k := fun k hk => zau_n (of_decide_eq_false hk)
  refine zstk (X := X) (a := (Sum.inr (Sum.inr (some q)) :: st).map (zv (zau (xad X) q H.size))) ?_ (kk _ cA hZ' rfl rfl rfl H1 locs LS (hW.born (a := H.size) hcl hq hr ?_ o1 (fun _ _ => rfl) (fun _ _ => rfl) (fun k hk => zjz_r hk)) ⟨Nat.le_trans hS.1 (by omega), fun x h1 h2 => (o1 x (Nat.lt_of_lt_of_le h1 hS.1)).trans (hS.2.1 x h1 h2), hS.2.2⟩ (zL_ad hfa hl hL))
  · show Value.ref (zau (xad X) q H.size q) :: _ = Value.ref H.size :: _
    rw [zau_s, zvs_ad hfa hs]
  · show H1[H.size]? = some (vp_cell cA (N, .inr (.inl fun j => Int64.ofNat (zjz J q q j))))
    rw [zjz_s]
    exact e1
/-- a new array of references -/
theorem hw_newq {q N idx : Nat} {a : Int} {E : String} (hZ : ZX X0 M fr X) (hd : decode M.1 pc = .ok (.anewarray idx, 3)) (w1 : Cond.classLink M.2.2.1 idx E ∈ M.2.2.2.1) (w2 : va_AO E (xs X)) (ha : a = (N : Int)) (hN : N * 4 ≤ 536870912)
    (hq : xsh X q = none) (hfr : fr q = true) (hl : zlf (fun k => decide (k = q)) ls = true) (hs : st.all (zvf fun k => decide (k = q)) = true) (hk : xk X + 1 ≤ M.2.2.2.2.cells) (hn : xn X + N ≤ M.2.2.2.2.slots)
    (kk : ∀ X' cA, ZX X0 M fr X' → xsh X' = zsu (xsh X) q (.inr (.inr (.inr (cA, E, N, fun _ => none)))) → xk X' = xk X + 1 → xn X' = xn X + N → HW X' (pc + 3) ls (.inr (.inr (some q)) :: st) F I J) : HW X pc ls (.inl a :: st) F I J := by
  obtain ⟨⟨f1, f2, f3, f4, f5, ⟨f6, f6b⟩, ⟨f7, f8⟩, f9⟩, ⟨hcl, hao⟩, -⟩ := id hZ
  intro H locs LS hW hS hL
  obtain ⟨c1, c2⟩ := zlen_i ha (by omega)
  refine W.anew f1 f2 f3 (f4 _ w1) w2.use rfl hd rfl c1 (by rw [c2]; exact hN) (by rw [f7]; exact hk) (by rw [f7, c2]; exact hn) fun cA kA comp g1 g2 g3 g4 => ?_
  rw [c2]
  generalize hH1 : H.push ({ cls := cA, slots := Array.replicate N .null, vm := .none } : Cell) = H1
  have z1 : H1.size = H.size + 1 := by rw [← hH1, Array.size_push]
  have e1 : H1[H.size]? = some (arrV cA N (fun _ => .null)) := by rw [← hH1, Array.getElem?_push_size, ← arrV_new]
  have o1 : ∀ q : Nat, q < H.size → H1[q]? = H[q]? := fun q hq => by rw [← hH1, Array.getElem?_push, if_neg (Nat.ne_of_lt hq)]
  have hAr : ArrOfT (xs X) cA (.object E) := fun N z => ⟨(fun k h => by cases h), kA, g2, comp, g3⟩
  have hNm : va_RA (xs X) cA (.object E) := ⟨kA, comp, g2, g3, g4, g1⟩
  have hr : ∀ x, ¬ zSr (.inr (.inr (.inr (cA, E, N, fun _ => none)))) x := fun x ⟨j, hx⟩ => by cases hx
  have hne : ∀ k, xsh X k ≠ none → xad X k ≠ H.size := fun k hk => by
    cases hs : xsh X k with
    | none => exact absurd hs hk
    | some t => exact Nat.ne_of_lt (hW k t hs).lt
  have hZ' := hZ.born (q := q) (a := H.size) (t := .inr (.inr (.inr (cA, E, N, fun _ => none)))) (dk := 1) (dn := N) hq hfr (f6b _ hS.1) hne hr hk hn ⟨by omega, hAr, hNm⟩
  have hfa : ∀ k, decide (k = q) = false → zau (xad X) q H.size k = xad X k := fun k hk => zau_n (of_decide_eq_false hk)
  refine zstk (X := X) (a := (Sum.inr (Sum.inr (some q)) :: st).map (zv (zau (xad X) q H.size))) ?_ (kk _ cA hZ' rfl rfl rfl H1 locs LS (hW.born (a := H.size) hcl hq hr ?_ o1 (fun _ _ => rfl) (fun _ _ => rfl) (fun _ _ => rfl)) ⟨Nat.le_trans hS.1 (by omega), fun x h1 h2 => (o1 x (Nat.lt_of_lt_of_le h1 hS.1)).trans (hS.2.1 x h1 h2), hS.2.2⟩ (zL_ad hfa hl hL))
  · show Value.ref (zau (xad X) q H.size q) :: _ = Value.ref H.size :: _
    rw [zau_s, zvs_ad hfa hs]
  · exact e1
/-- a field that keeps a reference for good -/
def zfr (own : String) (Ts : List Cond) (ci j idx : Nat) : Bool := zfl own Ts ci j idx 0 && match vwCl[ci]? with
  | some (_, T, _) => (T j).2.2.2 && (decide ((T j).1 = own) && match parseFieldDescriptor (T j).2.2.1 with
    | some (.object _) => true
    | some (.array _) => true
    | _ => false)
  | none => false
theorem zfs_setq (ad : Nat → Nat) (f : Nat → Int) (sl : List (Option (Option Nat))) (i x : Nat) (hs : i < sl.length) : (zfs ad f 0 sl).set i (.ref (ad x)) = zfs ad f 0 (sl.set i (some (some x))) := by
  apply List.ext_getElem?
  intro k
  rw [zfs_get]
  by_cases e : i = k
  · subst e
    rw [List.getElem?_set_self (by rw [zfs_len]; exact hs), List.getElem?_set_self hs]
    rfl
  · rw [List.getElem?_set_ne e, zfs_get, List.getElem?_set_ne e]
theorem hw_putref {ci j q x idx : Nat} {y : Option Nat} {sl : List (Option (Option Nat))} (hZ : ZX X0 M fr X) (hin : (xt X0).name = "<init>") (hd : decode M.1 pc = .ok (.putfield idx, 3)) (hf : zfr M.2.2.1 M.2.2.2.1 ci j idx = true) (hq : xsh X q = some (.inl (ci, sl))) (hs : sl[j]? = some (some y)) (hx : xsh X x ≠ none)
    (kk : ∀ X', ZX X0 M fr X' → xsh X' = zsu (xsh X) q (.inl (ci, sl.set j (some (some x)))) → xk X' = xk X → xn X' = xn X → HW X' (pc + 3) ls st F I J) : HW X pc ls (.inr (.inr (some x)) :: .inr (.inr (some q)) :: st) F I J := by
  unfold zfr at hf
  rw [Bool.and_eq_true] at hf
  obtain ⟨C, T, N, g1, g2, g3, g4, -, -⟩ := zfl_spec hf.1
  have hf2 := hf.2
  rw [g1] at hf2
  simp only [Bool.and_eq_true, decide_eq_true_eq] at hf2
  obtain ⟨hfin, hdecl, hpd⟩ := hf2
  obtain ⟨ty, hty, hnar, hfit⟩ : ∃ ty, parseFieldDescriptor (T j).2.2.1 = some ty ∧ (∀ a : Nat, narrow ty (.ref a) = .ref a) ∧ ∀ a : Nat, fits ty (.ref a) = true := by
    split at hpd
    · rename_i e
      exact ⟨_, e, fun _ => rfl, fun _ => rfl⟩
    · rename_i e
      exact ⟨_, e, fun _ => rfl, fun _ => rfl⟩
    · cases hpd
  obtain ⟨⟨ty0, hty0⟩, hnm⟩ := zcl_ok _ _ _ _ g1
  obtain ⟨⟨f1, f2, f3, f4, f5, ⟨f6, f6b⟩, f7, f9⟩, ⟨hcl, hao⟩, ⟨e1, -⟩, -⟩ := id hZ
  have hin' : (xt X).name = "<init>" := by
    have : X.1.2.2.2.2.2.2.2.2.1 = X0.1.2.2.2.2.2.2.2.2.1 := by rw [e1]
    show X.1.2.2.2.2.2.2.2.2.1.name = "<init>"
    rw [this]
    exact hin
  have hap := va_apart (own := M.2.2.1) f4 g4 ty0 hty0 hnm f5.2.1 g1
  have hlt := (List.getElem?_eq_some_iff.mp hs).1
  intro H locs LS hW hS hL
  obtain ⟨r, h1, cell, q1, q2, q3, q4⟩ := hW q _ hq
  have hr : r = (C, T, N) := Option.some.inj (h1.symm.trans g1)
  subst hr
  obtain ⟨hSl, hfc, kC, hkC, hkind⟩ := f5.2.1.1 _ _ g1
  obtain ⟨cf, kf, fi, f, hi, hsl⟩ := hSl _ g2
  have hlay := f4 _ (g4 _ (u_in_lay g2))
  unfold u_lay at hlay
  rw [if_pos hfin] at hlay
  have hst := (u_facts hfc hkC (u_lays f4 g4 g2) hi).1
  have hcf : (xm X).cls = cf := by
    obtain ⟨_, _, c', _, _, _, -, -, hf', -, -, -, hown2, -⟩ := Cond.laysFinal_spec hlay
    have e1 : c' = cf := by have := hi.symm.trans hf'; simp at this; exact this.1.symm
    rw [hdecl] at hown2
    rw [← e1]; exact Option.some.inj (f3.symm.trans hown2)
  have h6 := u_fits hfc hkC hkind (Or.inr hlay) hi hty (hnar (xad X x)) (hfit (xad X x))
  have hne : xsh X q ≠ none := by rw [hq]; exact fun h => by cases h
  have hZ' := hZ.setS (q := q) (t' := .inl (ci, sl.set j (some (some x)))) hq (fun z hz => ?_) trivial
  · refine W.putFinK f1 f2 f3 (f4 _ g3) hi hst hcf hin' (by rw [q2]; exact h6) q1 q3 (by rw [hsl]; exact k2_hasslot (q4 _ g2)) rfl rfl hd fun H' e1 e2 e3 => ?_
    rw [hsl] at e1 ⊢
    refine kk _ hZ' rfl rfl rfl H' _ LS (hW.setS f5.1 hq ?_ e3) (hS.put e2 e3 (f6 q hne)) hL
    refine ⟨_, g1, t_OB.to (V := updV (vp_V (zfs (xad X) (F q) 0 sl)) j (.ref (xad X x))) ⟨_, e1, q2, q3, t_set q4 hap g2 _⟩ (fun j _ => ?_)⟩
    rw [vp_updV_set (by rw [zfs_len]; exact hlt), zfs_setq _ _ _ _ _ hlt]
  · have hz' : some (some z) ∈ sl.set j (some (some x)) := hz
    rcases List.mem_or_eq_of_mem_set hz' with h | h
    · exact hcl q _ z hq h
    · cases h
      exact hx
/-- an array's element that keeps a reference -/
theorem hw_aastore {q x N j ci : Nat} {i : Int} {cA : ClassId} {E : String} {T : u_T} {M' : Nat} {r : Nat → Option Nat} {sl : List (Option (Option Nat))} (hZ : ZX X0 M fr X) (hd : decode M.1 pc = .ok (.aastore, 1)) (hq : xsh X q = some (.inr (.inr (.inr (cA, E, N, r))))) (hx : xsh X x = some (.inl (ci, sl))) (hci : vwCl[ci]? = some (E, T, M')) (hi : i = (j : Int)) (hj : j < N)
    (kk : ∀ X', ZX X0 M fr X' → xsh X' = zsu (xsh X) q (.inr (.inr (.inr (cA, E, N, fun k => match Nat.beq k j with | true => some x | false => r k)))) → xk X' = xk X → xn X' = xn X → HW X' (pc + 1) ls st F I J) : HW X pc ls (.inr (.inr (some x)) :: .inl i :: .inr (.inr (some q)) :: st) F I J := by
  obtain ⟨⟨f1, f2, f3, f4, f5, ⟨f6, f6b⟩, f7, f9⟩, ⟨hcl, hao⟩, -⟩ := id hZ
  intro H locs LS hW hS hL
  obtain ⟨a1, a2⟩ := f5.2.2.2.2.1 q cA E N r hq
  obtain ⟨b1, b2⟩ := zix hi hj a1
  have hne : xsh X q ≠ none := by rw [hq]; exact fun h => by cases h
  have hxn : xsh X x ≠ none := by rw [hx]; exact fun h => by cases h
  have hZ' := hZ.setS (q := q) (t' := .inr (.inr (.inr (cA, E, N, fun k => match Nat.beq k j with | true => some x | false => r k)))) hq (fun z hz => ?_) ⟨a1, a2⟩
  · obtain ⟨r', hr', cellV, g1, g2, g3, -⟩ := hW x _ hx
    have hcls := (f5.2.1.1 ci _ hci).2
    obtain ⟨kA, comp, k1, k2, k3, -⟩ := a2.2
    have hcomp : comp = (xD X).1 ci := Option.some.inj (k3.symm.trans hcls.1)
    subst hcomp
    obtain ⟨kC, hkC, -⟩ := hcls.2
    have h0 : ¬ Int32.ofInt i < 0 := fun q => b1 (Or.inl q)
    refine W.aast f1 f2 (hW q _ hq) (fun q h => by cases h) (fun h => by cases h) k1 k2 rfl hkC ⟨h0, by show _ < (arrV _ _ _).slots.size; rw [arrV_size, b2]; exact hj⟩ g1 (fun q h => by rw [g3] at h; cases h) (by rw [g2]; exact hkC) (by rw [g2]; exact va_assign hcls) rfl rfl hd fun H1 e z oq => ?_
    refine kk _ hZ' rfl rfl rfl H1 _ LS (hW.setS f5.1 hq ?_ oq) (hS.put z oq (f6 q hne)) hL
    show H1[_]? = some (vp_cell _ _)
    rw [e, b2]
    show some ((vp_cell cA (N, .inr (.inr (.inr (.inr fun k => (r k).map (xad X)))))).setSlot j _) = _
    rw [vp_cell_q, vp_cell_q, arrV_store]
    congr 2
    funext y
    by_cases hy : y = j
    · subst hy
      simp [updV, va_rf, nbq]
    · simp [updV, hy, nbn hy]
  · obtain ⟨k, hk⟩ := hz
    dsimp only at hk
    cases e : Nat.beq k j with
    | true =>
      rw [e] at hk
      cases hk
      exact hxn
    | false =>
      rw [e] at hk
      exact hcl q _ z hq ⟨k, hk⟩
/-- Object's own constructor -/
theorem hw_objInit {idx : Nat} {x : Nat} (hX : ZF X M) (hr : (pc, .invokespecial idx, n, aux) ∈ M.2.1) (w1 : Cond.methodLink M.2.2.1 idx Lib.objectInit ∈ M.2.2.2.1) (w2 : Cond.instanceMethod Lib.objectInit ∈ M.2.2.2.1) (w3 : Cond.code Lib.objectInit ⟨#[0xb1]⟩ 1 none ∈ M.2.2.2.1) (hst : (st.map zc1).sum ≤ 8) (hR : 1 ≤ M.2.2.2.2.frames ∧ 20 ≤ M.2.2.2.2.locals)
    (k : HW X (pc + 3) ls st F I J) : HW X pc ls (.inr (.inr (some x)) :: st) F I J := by
  obtain ⟨d, h1, h2, h3, -⟩ := zrow hX hr
  cases h1
  cases (beq_iff_eq.mp h3 : n = 3)
  intro H locs LS hW hS hL
  have hroom := lv_room (pc := pc) (m := xm X) (ls := LS) (rest := []) (st := st.map (zv (xad X))) (by rw [zc1_cat]; exact hst)
  refine W.objInit hX.1 hX.2.1 hX.2.2.1 (hX.2.2.2.1 _ w1) (hX.2.2.2.1 _ w2) (hX.2.2.2.1 _ w3) rfl hL.1 rfl h2 (by rw [hX.2.2.2.2.2.2.1.1]; exact hR.1) ?_ (k H locs LS hW hS hL)
  rw [hX.2.2.2.2.2.2.1.1]
  have : 2 * (F0 (xm X) pc LS []).monitorRoom + ((st.map (zv (xad X))).map fun v => v.category).sum ≤ 8 := hroom
  show 2 * (F0 (xm X) pc LS []).monitorRoom + ((st.map (zv (xad X))).map fun v => v.category).sum + 12 ≤ _
  omega
end ZALLOC
abbrev zPa : Type := zSh → zFi → zFi → zJi → Prop
/-- a constructor's end -/
def zQa (D : va_G) (sh : zSh) (ad : Nat → Nat) (fr : Nat → Bool) (post : zPa) (sz : Nat) : Array Value → State → Outcome → State → Prop := fun _ st oc t =>
  (∃ (sh' : zSh) (ad' : Nat → Nat) (F' I' : zFi) (J' : zJi), oc = .returned none ∧ post sh' F' I' J' ∧ zWd D sh' ad' F' I' J' t.heap ∧ zG D sh' ad' t ∧ zCl sh' ∧ (∀ k, fr k = false → ad' k = ad k) ∧ ∀ k, sh' k ≠ none → zA sh ad sz (ad' k)) ∧ va_F (zA sh ad sz) st t
/-- a constructor's contract: fr are the indices that it may give to what it makes -/
def CnA (l : Launch) (D : va_G) (y : MethodName) (ws : List Cond) (rm : Room) (sh : zSh) (fr : Nat → Bool) (av : List zV) (F I : zFi) (J : zJi) (mc ms : Nat) (post : zPa) : Prop := ∀ (ad : Nat → Nat) (sz : Nat),
  Met l y ws rm (va_Pc (av.map (zv ad)) (fun U => U.heap.size = sz ∧ zG D sh ad U ∧ zWd D sh ad F I J U.heap ∧ zAO U)) (zQa D sh ad fr post sz) mc ms (zA sh ad sz)
/-- a constructor's return -/
def ZRA (X0 : zX) (M : zM) (fr : Nat → Bool) (mc ms : Nat) (post : zPa) : Prop := ∀ X, ZX X0 M fr X → xk X ≤ mc → xn X ≤ ms → ∀ pc n aux ls F I J, (pc, Instr.return_, n, aux) ∈ M.2.1 → post (xsh X) F I J → HW X pc ls [] F I J
theorem ZRA.zr {X0 X : zX} {M : zM} {fr : Nat → Bool} {mc ms : Nat} {post : zPa} (h : ZRA X0 M fr mc ms post) (hZ : ZX X0 M fr X) (hk : xk X ≤ mc) (hn : xn X ≤ ms) : ZR X M (fun v F I J => v = none ∧ post (xsh X) F I J) :=
  ⟨fun _ _ _ _ _ _ _ _ _ z => (by cases z.1), fun _ _ _ _ _ _ _ _ _ _ z => (by cases z.1), fun _ _ _ _ _ _ _ _ _ z => (by cases z.1), fun _ _ _ _ _ _ _ _ _ z => (by cases z.1), fun pc n aux ls F I J hr z => h X hZ hk hn pc n aux ls F I J hr z.2⟩
theorem zr0 {X : zX} {M : zM} : ZR X M (fun _ _ _ _ => False) :=
  ⟨fun _ _ _ _ _ _ _ _ _ z => z.elim, fun _ _ _ _ _ _ _ _ _ _ z => z.elim, fun _ _ _ _ _ _ _ _ _ z => z.elim, fun _ _ _ _ _ _ _ _ _ z => z.elim, fun _ _ _ _ _ _ _ _ z => z.elim⟩
theorem zmetA {l : Launch} {D : va_G} {y : MethodName} {ws' : List Cond} {M : zM} {sh : zSh} {fr : Nat → Bool} {av : List zV} {F I : zFi} {J : zJi} {mc ms : Nat} {post : zPa} {nL : Nat} (hy : plainName y.cls = true) (hw : M.2.2.2.1 = Cond.code y M.1 nL none :: ws') (hown : M.2.2.1 = y.cls) (hin : y.name = "<init>") (htab : M.2.1.all (fun r => zok M r && zrt none r.2.1) = true) (hlen : (zargs av).length ≤ nL) (hcl : zCl sh)
    (body : ∀ X, ZX X M fr X → ZRA X M fr mc ms post → (xt X).name = "<init>" → xl X = l → xD X = D → xsh X = sh → xk X = 0 → xn X = 0 → HW X 0 (zargs av ++ List.replicate (nL - (zargs av).length) none) [] F I J) : CnA l D y M.2.2.2.1 M.2.2.2.2 sh fr av F I J mc ms post := by
  intro ad sz
  refine Met.ofW (cc := M.1) (maxL := nL) (ret := none) hy hw ?_
  intro p e s m args below meth c s₁ B hml hv
  obtain ⟨ha, hsz, hG, hW, hAO⟩ := hv
  subst ha
  have hts := atoms_spec (ws := M.2.2.2.1) B.pre
  have hown' : s.vm.findClass M.2.2.1 = some m.cls := by rw [hown]; exact findClass_of_methodNamed B.named
  have hin' : meth.name = "<init>" := (name_of_methodNamed B.named B.method).1.trans hin
  subst hsz
  rw [lg_entry_eq]
  have htb := List.all_eq_true.mp htab
  have hX : ZF (zX0 p l e (headSpec M.2.2.2.1 M.2.2.2.2).room s m (av.map (zv ad)).toArray below meth c D sh ad (zA sh ad s.heap.size) (MQ below (zQa D sh ad fr post s.heap.size) (av.map (zv ad)).toArray s mc ms (zA sh ad s.heap.size))) M := ⟨B.exec, B.bytes, hown', hts, hG, ⟨fun k hk => Or.inl ⟨k, hk, rfl⟩, fun q hq => Or.inr hq⟩, ⟨rfl, Nat.zero_le _, Nat.zero_le _⟩, fun r hr => by
    have := htb r hr
    simp only [Bool.and_eq_true] at this
    exact this.1⟩
  have hz := zL_entry ad av hlen
  refine body _ ⟨hX, ⟨hcl, hAO⟩, ⟨rfl, rfl, rfl, rfl⟩, fun _ _ => rfl⟩ ?_ hin' rfl rfl rfl rfl rfl _ [] _ hW va_S.rf (show zL ad c.maxLocals _ _ by rw [hml]; exact hz)
  intro X hZ hk hn pc n aux ls F' I' J' hr hp
  obtain ⟨⟨p', l', e', R', s', m', a', b', t', c'⟩, ⟨D', sh', ad'⟩, ⟨A', k', n', Q'⟩⟩ := X
  obtain ⟨hF, ⟨hcl', -⟩, ⟨e1, e2, e3, e4⟩, had⟩ := hZ
  cases e1
  have e2 : D' = D := e2
  have e3 : A' = zA sh ad s.heap.size := e3
  have e4 : Q' = MQ below (zQa D sh ad fr post s.heap.size) (av.map (zv ad)).toArray s mc ms (zA sh ad s.heap.size) := e4
  subst e2 e3 e4
  intro H locs LS hW2 hS hL
  obtain ⟨d, h1, h2, h3, -⟩ := zrow hF hr
  cases h1
  cases (beq_iff_eq.mp h3 : n = 1)
  refine W.widen (k := mc) (n := ms) hk hn ?_
  exact W.vret (Qc := zQa D' sh ad fr post s.heap.size) B.exec B.bytes B.returns (fun t ht hWm => ⟨⟨sh', ad', F', I', J', rfl, hp, by rw [ht]; exact hW2, hF.2.2.2.2.1.warm hWm, hcl', had, hF.2.2.2.2.2.1.1⟩, hS.F ht⟩) hS.2.2 h2 B.notSynchronized
section ZCALLA
variable {X0 X : zX} {M : zM} {fr fr' : Nat → Bool} {pc n aux : Nat} {ls : List (Option zV)} {st : List zV} {F I : zFi} {J : zJi}
/-- a constructor's run, and where it goes on -/
theorem hw_runA {st0 : List zV} {post : zPa} {H : Heap} {locs : List Loc} {LS : Array Slot} {mc ms : Nat} (a : Array Value) (hZ : ZX X0 M fr X) (hS : va_S (xA X) (xs X).heap H locs) (hL : zL (xad X) (xc X).maxLocals ls LS)
    (run : va_Run (xp X) (xl X) (xe X) (xR X) (xs X) (xm X) (xa X) (xb X) (xt X) (xc X) H locs (xk X) (xn X) mc ms (F0 (xm X) pc LS (st0.map (zv (xad X)))) (st.map (zv (xad X))) (zQa (xD X) (xsh X) (xad X) fr' post H.size a) (zA (xsh X) (xad X) H.size))
    (hfr : ∀ k, fr k = false → fr' k = false) (hl : zlf fr' ls = true) (hs : st.all (zvf fr') = true) (hk : xk X + mc ≤ M.2.2.2.2.cells) (hn : xn X + ms ≤ M.2.2.2.2.slots)
    (kk : ∀ X' F' I' J', ZX X0 M fr X' → post (xsh X') F' I' J' → xk X' = xk X + mc → xn X' = xn X + ms → HW X' (pc + 3) ls st F' I' J') :
    W (xp X) (xl X) (xe X) (xR X) (xs X) (xm X) (xa X) (xb X) (xt X) (xc X) H locs (xk X) (xn X) (xQ X) (F0 (xm X) pc LS (st0.map (zv (xad X)))) := by
  obtain ⟨⟨f1, f2, f3, f4, f5, ⟨f6, f6b⟩, ⟨f7, f8⟩, f9⟩, ⟨hcl, hao⟩, e, had⟩ := id hZ
  have hA' : ∀ q : Nat, zA (xsh X) (xad X) H.size q → xA X q := by
    intro q hq
    rcases hq with ⟨k, hk, rfl⟩ | hq
    · exact f6 k hk
    · exact f6b q (Nat.le_trans hS.1 hq)
  intro T hT X'
  obtain ⟨v, st₀, t, T', L, h0, X'', hL', e1, e2, ⟨⟨sh', ad', F', I', J', hv, hp, hW', hG', hcl', had', hA2⟩, hz, hk'⟩, stp⟩ := run T hT X'
  cases hv
  rw [h0] at hz hk'
  have hal : t.vm.Alike (xs X).vm := by
    have := X''.warmed.alike
    rw [e2] at this
    exact this.symm
  have hZ' : ZX X0 M fr (zXa X sh' ad' mc ms) := ⟨⟨f1, f2, f3, f4, hG'.to hal f5.2.2.2.2.2, ⟨fun k hk => hA' _ (hA2 k hk), f6b⟩, ⟨f7, by show xk X + mc ≤ (xR X).cells ∧ xn X + ms ≤ (xR X).slots; rw [f7]; exact ⟨hk, hn⟩⟩, f9⟩, ⟨hcl', hao⟩, e, fun k hk => (had' k (hfr k hk)).trans (had k hk)⟩
  have hst : st.map (zv ad') = st.map (zv (xad X)) := zvs_ad had' hs
  obtain ⟨t2, a1, b1⟩ := kk _ F' I' J' hZ' hp rfl rfl T'.heap (locs ++ L) LS (by rw [e1]; exact hW')
    ⟨Nat.le_trans hS.1 (by rw [e1]; exact hz), fun q h1 h2 => by rw [e1, hk' q (Nat.lt_of_lt_of_le h1 hS.1) (fun z => h2 (hA' q z))]; exact hS.2.1 q h1 h2, fun q hq => by
      rcases List.mem_append.mp hq with h | h
      · exact hS.2.2 q h
      · exact hA' _ (hL' q h)⟩ (zL_ad had' hl hL) T' rfl X''
  have a1' := a1
  have hstk : (st.map (zv (xad (zXa X sh' ad' mc ms)))) = st.map (zv (xad X)) := hst
  rw [hstk] at a1'
  exact ⟨t2, stp t2 a1', b1⟩
theorem zpreA {av : List zV} {H : Heap} (hZ : ZX X0 M fr X) (hW : zWd (xD X) (xsh X) (xad X) F I J H) : ∀ U : State, U.heap = H → (xs X).WarmedH U.vm → va_Pc (av.map (zv (xad X))) (fun U => U.heap.size = H.size ∧ zG (xD X) (xsh X) (xad X) U ∧ zWd (xD X) (xsh X) (xad X) F I J U.heap ∧ zAO U) (av.map (zv (xad X))).toArray U :=
  fun U hU hWm => ⟨rfl, by rw [hU], hZ.1.2.2.2.2.1.warm hWm, by rw [hU]; exact hW, hZ.2.1.2.to hWm.alike⟩
theorem zblindA {D : va_G} {sh : zSh} {ad : Nat → Nat} {av : List zV} {F I : zFi} {J : zJi} {sz : Nat} : FrameBlind (va_Pc (av.map (zv ad)) (fun U => U.heap.size = sz ∧ zG D sh ad U ∧ zWd D sh ad F I J U.heap ∧ zAO U)) := by
  intro a U g mk h
  obtain ⟨h1, h2, h3, h4, h5⟩ := h
  exact ⟨h1, h2, h3.to (u := U) (U := U.calling g mk a) (Vm.Alike.refl U.vm) (zNest_same (s := U) (U := U.calling g mk a) rfl h3.2.2.2.2.2), h4, h5.to (u := U) (U := U.calling g mk a) (Vm.Alike.refl U.vm)⟩
/-- a constructor is called -/
theorem hw_callA {idx nA maxL mc ms q : Nat} {y : MethodName} {ws ws' : List Cond} {rm : Room} {bytes : ByteArray} {As : List zV} {post : zPa} (hZ : ZX X0 M fr X) (hr : (pc, .invokespecial idx, n, aux) ∈ M.2.1)
    (hC : CnA (xl X) (xD X) y ws rm (xsh X) fr' (.inr (.inr (some q)) :: As) F I J mc ms post) (hG : GoodIn M.2.2.2.1 ws) (hw : ws = Cond.code y bytes maxL none :: ws') (h0 : rm.cells = mc ∧ rm.slots = ms) (w1 : Cond.initialized y.cls ∈ M.2.2.2.1) (w2 : Cond.methodLink M.2.2.1 idx y ∈ M.2.2.2.1) (w3 : Cond.instanceMethod y ∈ M.2.2.2.1) (hy1 : y.name = "<init>")
    (hd : y.cls ≠ "java/lang/invoke/MethodHandle" ∧ y.cls ≠ "java/lang/invoke/VarHandle" ∧ (parseMethodDescriptor y.desc).map (fun d => d.parameters.length) = some nA) (hnA : As.length = nA)
    (hR : rm.frames + 1 ≤ M.2.2.2.2.frames ∧ 8 + (maxL + 11) + rm.locals ≤ M.2.2.2.2.locals) (hst : (st.map zc1).sum ≤ 8)
    (hfr : ∀ k, fr k = false → fr' k = false) (hl : zlf fr' ls = true) (hs : st.all (zvf fr') = true) (hk : xk X + mc ≤ M.2.2.2.2.cells) (hn : xn X + ms ≤ M.2.2.2.2.slots)
    (kk : ∀ X' F' I' J', ZX X0 M fr X' → post (xsh X') F' I' J' → xk X' = xk X + mc → xn X' = xn X + ms → HW X' (pc + 3) ls st F' I' J') : HW X pc ls (As.reverse ++ .inr (.inr (some q)) :: st) F I J := by
  have hX := hZ.1
  obtain ⟨d, h1, h2, h3, -⟩ := zrow hX hr
  cases h1
  cases (beq_iff_eq.mp h3 : n = 3)
  intro H locs LS hW hS hL
  refine hw_runA (Value.ref (xad X q) :: As.map (zv (xad X))).toArray hZ hS hL ?_ hfr hl hs hk hn kk
  exact va_runI (As := As.map (zv (xad X))) (b := xad X q) (rest := st.map (zv (xad X))) (nL := (xc X).maxLocals) ⟨hX.1, hX.2.1, rfl, hX.2.2.1, hX.2.2.2.1⟩ (hC (xad X) H.size) (cwI nA hX.2.2.2.1 hG hw h0.1 h0.2 (hX.2.2.2.1 _ w1) (hX.2.2.2.1 _ w2) (hX.2.2.2.1 _ w3) hy1 hd (by rw [hX.2.2.2.2.2.2.1.1]; exact hR)) ⟨zblindA, zpreA (av := .inr (.inr (some q)) :: As) hZ hW⟩ rfl (by rw [List.length_map]; exact hnA) hL.1 (by simp [F0, zv]) (lv_room (by rw [zc1_cat]; exact hst)) h2 (by rw [hX.2.2.2.2.2.2.1.1]; exact ⟨hk, hn⟩)
/-- a nest mate's own constructor is called -/
theorem hw_callAN {idx nA maxL mc ms q : Nat} {host : String} {y : MethodName} {ws ws' : List Cond} {rm : Room} {bytes : ByteArray} {As : List zV} {post : zPa} (hZ : ZX X0 M fr X) (hr : (pc, .invokespecial idx, n, aux) ∈ M.2.1)
    (hC : CnA (xl X) (xD X) y ws rm (xsh X) fr' (.inr (.inr (some q)) :: As) F I J mc ms post) (hG : GoodIn M.2.2.2.1 ws) (hw : ws = Cond.code y bytes maxL none :: ws') (h0 : rm.cells = mc ∧ rm.slots = ms) (w1 : Cond.initialized y.cls ∈ M.2.2.2.1) (w2 : Cond.methodLinkNest M.2.2.1 idx y host ∈ zNest) (w3 : Cond.instanceMethod y ∈ M.2.2.2.1) (hy1 : y.name = "<init>")
    (hd : y.cls ≠ "java/lang/invoke/MethodHandle" ∧ y.cls ≠ "java/lang/invoke/VarHandle" ∧ (parseMethodDescriptor y.desc).map (fun d => d.parameters.length) = some nA) (hnA : As.length = nA)
    (hR : rm.frames + 1 ≤ M.2.2.2.2.frames ∧ 8 + (maxL + 11) + rm.locals ≤ M.2.2.2.2.locals) (hst : (st.map zc1).sum ≤ 8)
    (hfr : ∀ k, fr k = false → fr' k = false) (hl : zlf fr' ls = true) (hs : st.all (zvf fr') = true) (hk : xk X + mc ≤ M.2.2.2.2.cells) (hn : xn X + ms ≤ M.2.2.2.2.slots)
    (kk : ∀ X' F' I' J', ZX X0 M fr X' → post (xsh X') F' I' J' → xk X' = xk X + mc → xn X' = xn X + ms → HW X' (pc + 3) ls st F' I' J') : HW X pc ls (As.reverse ++ .inr (.inr (some q)) :: st) F I J := by
  have hX := hZ.1
  obtain ⟨d, h1, h2, h3, -⟩ := zrow hX hr
  cases h1
  cases (beq_iff_eq.mp h3 : n = 3)
  intro H locs LS hW hS hL
  refine hw_runA (Value.ref (xad X q) :: As.map (zv (xad X))).toArray hZ hS hL ?_ hfr hl hs hk hn kk
  exact va_runIN (As := As.map (zv (xad X))) (b := xad X q) (rest := st.map (zv (xad X))) (nL := (xc X).maxLocals) ⟨hX.1, hX.2.1, rfl, hX.2.2.1, hX.2.2.2.1⟩ (hC (xad X) H.size) ⟨va_cnB nA hX.2.2.2.1 hG hw h0.1 h0.2 (hX.2.2.2.2.1.2.2.2.2.2 _ w2) (hX.2.2.2.1 _ w1) hd (by rw [hX.2.2.2.2.2.2.1.1]; exact hR), hy1, hX.2.2.2.1 _ w3⟩ ⟨zblindA, zpreA (av := .inr (.inr (some q)) :: As) hZ hW⟩ rfl (by rw [List.length_map]; exact hnA) hL.1 (by simp [F0, zv]) (lv_room (by rw [zc1_cat]; exact hst)) h2 (by rw [hX.2.2.2.2.2.2.1.1]; exact ⟨hk, hn⟩)
end ZCALLA
