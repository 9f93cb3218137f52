/-! ENGINE, part 4: fields and arrays -/
theorem zcl_ok (ci : Nat) (C : String) (T : u_T) (N : Nat) (h : vwCl[ci]? = some (C, T, N)) : (∃ ty0 : Nat → FieldType, ∀ k, k < N → parseFieldDescriptor (T k).2.2.1 = some (ty0 k)) ∧ ∀ a, a < N → ∀ b, b < N → a ≠ b → (T a).2.1 ≠ (T b).2.1 := by
  have key : ∀ q ∈ vwCl, (∃ ty0 : Nat → FieldType, ∀ k, k < q.2.2 → parseFieldDescriptor (q.2.1 k).2.2.1 = some (ty0 k)) ∧ ∀ a, a < q.2.2 → ∀ b, b < q.2.2 → a ≠ b → (q.2.1 a).2.1 ≠ (q.2.1 b).2.1 := by
    refine List.forall_mem_cons.mpr ⟨⟨⟨tyX0, tyX0_ok⟩, nmX0⟩, List.forall_mem_cons.mpr ⟨⟨⟨tyX1, tyX1_ok⟩, nmX1⟩, List.forall_mem_cons.mpr ⟨⟨⟨tyX2, tyX2_ok⟩, nmX2⟩, List.forall_mem_cons.mpr ⟨⟨⟨tyX3, tyX3_ok⟩, nmX3⟩, List.forall_mem_cons.mpr ⟨⟨⟨tyX4, tyX4_ok⟩, nmX4⟩, List.forall_mem_cons.mpr ⟨⟨⟨tyX5, tyX5_ok⟩, nmX5⟩, List.forall_mem_cons.mpr ⟨⟨⟨tyX6, tyX6_ok⟩, nmX6⟩, List.forall_mem_cons.mpr ⟨⟨⟨tyX7, tyX7_ok⟩, nmX7⟩, List.forall_mem_cons.mpr ⟨⟨⟨tyX8, tyX8_ok⟩, nmX8⟩, List.forall_mem_cons.mpr ⟨⟨⟨tyX9, tyX9_ok⟩, nmX9⟩, fun _ h => absurd h List.not_mem_nil⟩⟩⟩⟩⟩⟩⟩⟩⟩⟩
  exact key _ (List.mem_of_getElem? h)
/-- a field, an element, of a cell is changed -/
def zu (F : zFi) (q j : Nat) (x : Int) : zFi := fun a b => if a = q ∧ b = j then x else F a b
def zw (F : zJi) (q j : Nat) (x : Nat) : zJi := fun a b => if a = q ∧ b = j then x else F a b
theorem zu_s (F : zFi) (q j : Nat) (x : Int) : zu F q j x q j = x := by simp [zu]
theorem zu_n {F : zFi} {q j a b : Nat} {x : Int} (h : ¬ (a = q ∧ b = j)) : zu F q j x a b = F a b := by simp only [zu, if_neg h]
theorem zu_r {F : zFi} {q j k : Nat} {x : Int} (h : k ≠ q) : zu F q j x k = F k := funext fun b => zu_n fun e => h e.1
theorem zw_s (F : zJi) (q j : Nat) (x : Nat) : zw F q j x q j = x := by simp [zw]
theorem zw_n {F : zJi} {q j a b : Nat} {x : Nat} (h : ¬ (a = q ∧ b = j)) : zw F q j x a b = F a b := by simp only [zw, if_neg h]
theorem zw_r {F : zJi} {q j k : Nat} {x : Nat} (h : k ≠ q) : zw F q j x k = F k := funext fun b => zw_n fun e => h e.1
def zfv (ad : Nat → Nat) (f : Nat → Int) (j : Nat) : Option (Option Nat) → Value
  | none => .int (Int32.ofInt (f j))
  | some x => va_rf (x.map ad)
theorem zfs_get (ad : Nat → Nat) (f : Nat → Int) (sl : List (Option (Option Nat))) : ∀ (j k : Nat), (zfs ad f j sl)[k]? = (sl[k]?).map (zfv ad f (j + k)) := by
  induction sl with
  | nil => intro j k; rfl
  | cons o r ih =>
    intro j k
    cases k with
    | zero => cases o <;> rfl
    | succ k =>
      have e : j + (k + 1) = j + 1 + k := by omega
      cases o with
      | none => show (zfs ad f (j + 1) r)[k]? = _; rw [ih, e]; rfl
      | some x => show (zfs ad f (j + 1) r)[k]? = _; rw [ih, e]; rfl
theorem zfs_len (ad : Nat → Nat) (f : Nat → Int) (sl : List (Option (Option Nat))) : ∀ (j : Nat), (zfs ad f j sl).length = sl.length := by
  induction sl with
  | nil => intro j; rfl
  | cons o r ih => intro j; cases o with
    | none => simp only [zfs, List.length_cons, ih]
    | some x => simp only [zfs, List.length_cons, ih]
theorem zfs_set (ad : Nat → Nat) (F : zFi) (q : Nat) (sl : List (Option (Option Nat))) (i : Nat) (x : Int) (hs : sl[i]? = some none) : (zfs ad (F q) 0 sl).set i (.int (Int32.ofInt x)) = zfs ad (zu F q i x q) 0 sl := by
  apply List.ext_getElem?
  intro k
  have hl := (List.getElem?_eq_some_iff.mp hs).1
  rw [zfs_get]
  by_cases e : i = k
  · subst e
    rw [List.getElem?_set_self (by rw [zfs_len]; exact hl), hs]
    show _ = some (Value.int (Int32.ofInt (zu F q i x q (0 + i))))
    rw [Nat.zero_add, zu_s]
  · rw [List.getElem?_set_ne e, zfs_get]
    cases h : sl[k]? with
    | none => rfl
    | some o =>
      cases o with
      | none =>
        show some (Value.int (Int32.ofInt (F q (0 + k)))) = some (Value.int (Int32.ofInt (zu F q i x q (0 + k))))
        rw [zu_n (fun z => e (by omega))]
      | some y => rfl
theorem zWd.upd {D : va_G} {sh : Nat → Option zS} {ad : Nat → Nat} {F I F' I' : zFi} {J J' : zJi} {H H1 : Heap} {q : Nat} {t : zS} (hW : zWd D sh ad F I J H) (hinj : ∀ i j, sh i ≠ none → sh j ≠ none → ad i = ad j → i = j) (hq : sh q = some t) (he : va_at D vwCl (ad q, zent ad F' I' J' q t) H1) (oq : ∀ x : Nat, x ≠ ad q → H1[x]? = H[x]?)
    (hF : ∀ k, k ≠ q → ∀ t, zent ad F' I' J' k t = zent ad F I J k t) : zWd D sh ad F' I' J' H1 := by
  intro k t' hk
  by_cases e : k = q
  · subst e
    cases hq.symm.trans hk
    exact he
  · rw [hF k e]
    exact (hW k t' hk).kept (oq _ fun z => e (hinj k q (by rw [hk]; exact fun h => by cases h) (by rw [hq]; exact fun h => by cases h) z))
theorem zent_r {ad : Nat → Nat} {F I F' I' : zFi} {J J' : zJi} {k : Nat} (h1 : F' k = F k) (h2 : I' k = I k) (h3 : J' k = J k) (t : zS) : zent ad F' I' J' k t = zent ad F I J k t := by
  rcases t with ⟨ci, sl⟩ | ⟨cA, m⟩ | ⟨cA, m⟩ | ⟨cA, E, m, r⟩
  · simp only [zent, h1]
  · simp only [zent, h2]
  · simp only [zent, h3]
  · rfl
theorem zP1 {D : va_G} {sh : Nat → Option zS} {ad : Nat → Nat} {F I : zFi} {J : zJi} {H : Heap} {q : Nat} {t : zS} (hW : zWd D sh ad F I J H) (hq : sh q = some t) : va_P D vwCl [(ad q, zent ad F I J q t)] H := by
  intro k x hk
  cases k with
  | zero => cases hk; exact hW q t hq
  | succ k => cases hk
theorem zK1 {D : va_G} {U : State} {cA : ClassId} {ty : FieldType} (hK : va_K D vwCl [] U) (h : ArrOfT U cA ty ∧ va_RA U cA ty) : va_K D vwCl [(cA, ty)] U := by
  refine ⟨hK.1, fun k x hk => ?_⟩
  cases k with
  | zero => cases hk; exact h
  | succ k => cases hk
theorem zix {i : Int} {j m : Nat} (hi : i = (j : Int)) (hj : j < m) (hm : m < 2147483648) : vp_in (Int32.ofInt i) m ∧ (Int32.ofInt i).toNatClampNeg = j := by
  subst hi
  rw [Int32.ofInt_eq_ofNat]
  exact ⟨vp_in_nI hj hm, nI_clamp (Nat.lt_trans hj hm)⟩
theorem zfl_spec {own : String} {Ts : List Cond} {ci j idx mode : Nat} (h : zfl own Ts ci j idx mode = true) : ∃ (C : String) (T : u_T) (N : Nat), vwCl[ci]? = some (C, T, N) ∧ j < N ∧ Cond.fieldLink own idx (T j).1 (T j).2.1 (T j).2.2.1 ∈ Ts ∧ (∀ w ∈ u_ws C T N, w ∈ Ts) ∧
    (mode = 1 → (T j).2.2.2 = false ∧ parseFieldDescriptor (T j).2.2.1 = some .int) ∧ (mode = 2 → (T j).2.2.2 = false ∧ parseFieldDescriptor (T j).2.2.1 = some .boolean) := by
  unfold zfl at h
  split at h
  · rename_i C T N hcl
    simp only [Bool.and_eq_true, decide_eq_true_eq, List.all_eq_true] at h
    obtain ⟨h1, h2, h3, h4⟩ := h
    refine ⟨C, T, N, hcl, h1, h2, h3, fun e => ?_, fun e => ?_⟩
    · subst e
      simpa using h4
    · subst e
      simpa using h4
  · cases h
section ZHEAP
variable {X : zX} {M : zM} {pc n aux : Nat} {ls : List (Option zV)} {st : List zV} {F I : zFi} {J : zJi}
theorem hw_getf {ci j q : Nat} {sl : List (Option (Option Nat))} {o : Option (Option Nat)} (hX : ZF X M) (hr : (pc, .invokeinterface ci j, n, aux) ∈ M.2.1) (hq : xsh X q = some (.inl (ci, sl))) (hs : sl[j]? = some o) (k : ∀ (H : Heap) (locs : List Loc) (LS : Array Slot), zWd (xD X) (xsh X) (xad X) F I J H → va_S (xA X) (xs X).heap H locs → zL (xad X) (xc X).maxLocals ls LS →
    W (xp X) (xl X) (xe X) (xR X) (xs X) (xm X) (xa X) (xb X) (xt X) (xc X) H locs (xk X) (xn X) (xQ X) (F0 (xm X) (pc + n) LS (zfv (xad X) (F q) j o :: st.map (zv (xad X))))) : HW X pc ls (.inr (.inr (some q)) :: st) F I J := by
  obtain ⟨d, h1, h2, h3, h4⟩ := zrow hX hr
  cases h1
  cases (beq_iff_eq.mp h3 : n = 3)
  obtain ⟨C, T, N, g1, g2, g3, g4, -, -⟩ := zfl_spec (own := M.2.2.1) (Ts := M.2.2.2.1) (ci := ci) (j := j) (idx := aux) (mode := 0) h4
  intro H locs LS hW hS hL
  have kk := k H locs LS hW hS hL
  refine va_get (C := C) (T := T) (N := N) (ci := ci) hX.1 hX.2.1 hX.2.2.2.1 g4 hX.2.2.1 hX.2.2.2.2.1.2.1 (zP1 hW hq) 0 rfl g1 j g2 (hX.2.2.2.1 _ g3) (fun _ h9 => h9) ?_ h2 kk
  show (zfs _ _ _ _)[_]? = _
  rw [zfs_get, hs, Nat.zero_add]
  rfl
theorem hw_getfield {ci j q : Nat} {sl : List (Option (Option Nat))} (hX : ZF X M) (hr : (pc, .invokeinterface ci j, n, aux) ∈ M.2.1) (hq : xsh X q = some (.inl (ci, sl))) (hs : sl[j]? = some none) (k : HW X (pc + n) ls (.inl (F q j) :: st) F I J) : HW X pc ls (.inr (.inr (some q)) :: st) F I J := hw_getf hX hr hq hs k
theorem hw_getref {ci j q : Nat} {x : Option Nat} {sl : List (Option (Option Nat))} (hX : ZF X M) (hr : (pc, .invokeinterface ci j, n, aux) ∈ M.2.1) (hq : xsh X q = some (.inl (ci, sl))) (hs : sl[j]? = some (some x)) (k : HW X (pc + n) ls (.inr (.inr x) :: st) F I J) : HW X pc ls (.inr (.inr (some q)) :: st) F I J := by
  refine hw_getf hX hr hq hs fun H locs LS hW hS hL => ?_
  have kk := k H locs LS hW hS hL
  cases x <;> exact kk
theorem hw_put {ci j q mode : Nat} {x : Int} {ty : FieldType} {sl : List (Option (Option Nat))} (hX : ZF X M) (hd : decode M.1 pc = .ok (.putfield aux, 3)) (hf : zfl M.2.2.1 M.2.2.2.1 ci j aux mode = true) (hty : ∀ (T : u_T), (mode = 1 → (T j).2.2.2 = false ∧ parseFieldDescriptor (T j).2.2.1 = some .int) → (mode = 2 → (T j).2.2.2 = false ∧ parseFieldDescriptor (T j).2.2.1 = some .boolean) → (T j).2.2.2 = false ∧ parseFieldDescriptor (T j).2.2.1 = some ty)
    (hn : narrow ty (.int (Int32.ofInt x)) = .int (Int32.ofInt x)) (hfit : fits ty (.int (Int32.ofInt x)) = true) (hq : xsh X q = some (.inl (ci, sl))) (hs : sl[j]? = some none) (k : HW X (pc + 3) ls st (zu F q j x) I J) : HW X pc ls (.inl x :: .inr (.inr (some q)) :: st) F I J := by
  obtain ⟨C, T, N, g1, g2, g3, g4, g5, g6⟩ := zfl_spec hf
  obtain ⟨hfin, hpd⟩ := hty T g5 g6
  obtain ⟨⟨ty0, hty0⟩, hnm⟩ := zcl_ok _ _ _ _ g1
  obtain ⟨hx, hb, hown, hts, hG, ⟨hA, -⟩, -⟩ := hX
  have hap := va_apart (own := M.2.2.1) hts g4 ty0 hty0 hnm hG.2.1 g1
  intro H locs LS hW hS hL
  obtain ⟨r, h1, cell, q1, q2, q3, q4⟩ := hW q _ hq
  have hr : r = (C, T, N) := Option.some.inj (h1.symm.trans g1)
  subst hr
  obtain ⟨hSl, hfc, kC, hkC, hkind⟩ := hG.2.1.1 _ _ g1
  obtain ⟨cf, kf, fi, f, hi, hsl⟩ := hSl _ g2
  have hlay := hts _ (g4 _ (u_in_lay g2))
  unfold u_lay at hlay
  rw [if_neg (by rw [hfin]; decide)] at hlay
  have hst := (u_facts hfc hkC (u_lays hts g4 g2) hi).1
  have h6 := u_store hfc hkC hkind hlay hi hpd hn hfit
  have hne : xsh X q ≠ none := by rw [hq]; exact fun h => by cases h
  refine W.putK hx hb (f := f) ⟨hown, hts _ g3, ⟨_, _, _, hi⟩, hst⟩ (by rw [q2]; exact h6) q1 q3 (by rw [hsl]; exact k2_hasslot (q4 _ g2)) rfl rfl hd fun H' e1 e2 e3 => ?_
  rw [hsl] at e1 ⊢
  refine k H' _ LS (hW.upd hG.1 hq ?_ e3 (fun k hk t => zent_r (zu_r hk) rfl rfl t)) (hS.put e2 e3 (hA q hne)) hL
  refine ⟨_, g1, t_OB.to (V := updV (vp_V (zfs (xad X) (F q) 0 sl)) j (.int (Int32.ofInt x))) ⟨_, e1, q2, q3, t_set q4 hap g2 _⟩ (fun j _ => ?_)⟩
  rw [vp_updV_set (by rw [zfs_len]; exact (List.getElem?_eq_some_iff.mp hs).1), zfs_set _ _ _ _ _ _ hs]
theorem hw_putfield {ci j q : Nat} {x : Int} {sl : List (Option (Option Nat))} (hX : ZF X M) (hr : (pc, .multianewarray ci j, n, aux) ∈ M.2.1) (hq : xsh X q = some (.inl (ci, sl))) (hs : sl[j]? = some none) (k : HW X (pc + n) ls st (zu F q j x) I J) : HW X pc ls (.inl x :: .inr (.inr (some q)) :: st) F I J := by
  obtain ⟨d, h1, h2, h3, h4⟩ := zrow hX hr
  cases h1
  cases (beq_iff_eq.mp h3 : n = 3)
  exact hw_put (mode := 1) hX h2 h4 (fun T a b => a rfl) rfl rfl hq hs k
theorem hw_putbool {e q : Nat} {x : Int} {sl : List (Option (Option Nat))} (hX : ZF X M) (hr : (pc, .putstatic e, n, aux) ∈ M.2.1) (hx : x = 0 ∨ x = 1) (hq : xsh X q = some (.inl (e / 64, sl))) (hs : sl[e % 64]? = some none) (k : HW X (pc + n) ls st (zu F q (e % 64) x) I J) : HW X pc ls (.inl x :: .inr (.inr (some q)) :: st) F I J := by
  obtain ⟨d, h1, h2, h3, h4⟩ := zrow hX hr
  cases h1
  cases (beq_iff_eq.mp h3 : n = 3)
  exact hw_put (mode := 2) hX h2 h4 (fun T a b => b rfl) (by rcases hx with rfl | rfl <;> rfl) (by rcases hx with rfl | rfl <;> rfl) hq hs k
theorem hw_iaload {q j m : Nat} {i : Int} {cA : ClassId} (hX : ZF X M) (hr : (pc, .iaload, n, aux) ∈ M.2.1) (hq : xsh X q = some (.inr (.inl (cA, m)))) (hi : i = (j : Int)) (hj : j < m) (k : HW X (pc + n) ls (.inl (I q j) :: st) F I J) : HW X pc ls (.inl i :: .inr (.inr (some q)) :: st) F I J := by
  obtain ⟨d, h1, h2, h3, -⟩ := zrow hX hr
  cases h1
  cases (beq_iff_eq.mp h3 : n = 1)
  obtain ⟨hx, hb, hown, hts, hG, ⟨hA, -⟩, -⟩ := hX
  intro H locs LS hW hS hL
  have kk := k H locs LS hW hS hL
  obtain ⟨a1, a2⟩ := hG.2.2.1 q cA m hq
  obtain ⟨b1, b2⟩ := zix hi hj a1
  refine va_iald (f := fun j => Int32.ofInt (I q j)) hx hb (zK1 hG.2.1 a2) (zP1 hW hq) 0 0 rfl rfl b1 h2 ?_
  rw [b2]
  exact kk
theorem hw_laload {q j m : Nat} {i : Int} {cA : ClassId} (hX : ZF X M) (hr : (pc, .laload, n, aux) ∈ M.2.1) (hq : xsh X q = some (.inr (.inr (.inl (cA, m))))) (hi : i = (j : Int)) (hj : j < m) (k : HW X (pc + n) ls (.inr (.inl (J q j)) :: st) F I J) : HW X pc ls (.inl i :: .inr (.inr (some q)) :: st) F I J := by
  obtain ⟨d, h1, h2, h3, -⟩ := zrow hX hr
  cases h1
  cases (beq_iff_eq.mp h3 : n = 1)
  obtain ⟨hx, hb, hown, hts, hG, ⟨hA, -⟩, -⟩ := hX
  intro H locs LS hW hS hL
  have kk := k H locs LS hW hS hL
  obtain ⟨a1, a2⟩ := hG.2.2.2.1 q cA m hq
  obtain ⟨b1, b2⟩ := zix hi hj a1
  refine va_lald (f := fun j => Int64.ofNat (J q j)) hx hb (zK1 hG.2.1 a2) (zP1 hW hq) 0 0 rfl rfl b1 h2 ?_
  rw [b2]
  exact kk
theorem hw_aaload {q j m : Nat} {i : Int} {cA : ClassId} {E : String} {r : Nat → Option Nat} (hX : ZF X M) (hr : (pc, .aaload, n, aux) ∈ M.2.1) (hq : xsh X q = some (.inr (.inr (.inr (cA, E, m, r))))) (hi : i = (j : Int)) (hj : j < m) (k : HW X (pc + n) ls (.inr (.inr (r j)) :: st) F I J) : HW X pc ls (.inl i :: .inr (.inr (some q)) :: st) F I J := by
  obtain ⟨d, h1, h2, h3, -⟩ := zrow hX hr
  cases h1
  cases (beq_iff_eq.mp h3 : n = 1)
  obtain ⟨hx, hb, hown, hts, hG, ⟨hA, -⟩, -⟩ := hX
  intro H locs LS hW hS hL
  have kk := k H locs LS hW hS hL
  obtain ⟨a1, a2⟩ := hG.2.2.2.2.1 q cA E m r hq
  obtain ⟨b1, b2⟩ := zix hi hj a1
  refine va_aldq (f := fun j => (r j).map (xad X)) hx hb (zK1 hG.2.1 a2) (zP1 hW hq) 0 0 rfl rfl b1 h2 ?_
  rw [b2]
  cases hrj : r j with
  | none => rw [hrj] at kk; exact kk
  | some z => rw [hrj] at kk; exact kk
theorem hw_ialen {q m : Nat} {cA : ClassId} (hX : ZF X M) (hr : (pc, .arraylength, n, aux) ∈ M.2.1) (hq : xsh X q = some (.inr (.inl (cA, m)))) (k : HW X (pc + n) ls (.inl m :: st) F I J) : HW X pc ls (.inr (.inr (some q)) :: st) F I J := by
  obtain ⟨d, h1, h2, h3, -⟩ := zrow hX hr
  cases h1
  cases (beq_iff_eq.mp h3 : n = 1)
  obtain ⟨hx, hb, hown, hts, hG, ⟨hA, -⟩, -⟩ := hX
  intro H locs LS hW hS hL
  have kk := k H locs LS hW hS hL
  refine va_alen (x := (m, _)) hx hb (zK1 hG.2.1 (hG.2.2.1 q cA m hq).2) (zP1 hW hq) 0 0 rfl rfl (Int32.ofInt_eq_ofNat).symm h2 kk
theorem hw_jalen {q m : Nat} {cA : ClassId} (hX : ZF X M) (hr : (pc, .arraylength, n, aux) ∈ M.2.1) (hq : xsh X q = some (.inr (.inr (.inl (cA, m))))) (k : HW X (pc + n) ls (.inl m :: st) F I J) : HW X pc ls (.inr (.inr (some q)) :: st) F I J := by
  obtain ⟨d, h1, h2, h3, -⟩ := zrow hX hr
  cases h1
  cases (beq_iff_eq.mp h3 : n = 1)
  obtain ⟨hx, hb, hown, hts, hG, ⟨hA, -⟩, -⟩ := hX
  intro H locs LS hW hS hL
  have kk := k H locs LS hW hS hL
  refine va_alen (x := (m, _)) hx hb (zK1 hG.2.1 (hG.2.2.2.1 q cA m hq).2) (zP1 hW hq) 0 0 rfl rfl (Int32.ofInt_eq_ofNat).symm h2 kk
theorem hw_iastore {q j m : Nat} {i x : Int} {cA : ClassId} (hX : ZF X M) (hr : (pc, .iastore, n, aux) ∈ M.2.1) (hq : xsh X q = some (.inr (.inl (cA, m)))) (hi : i = (j : Int)) (hj : j < m) (k : HW X (pc + n) ls st F (zu I q j x) J) : HW X pc ls (.inl x :: .inl i :: .inr (.inr (some q)) :: st) F I J := by
  obtain ⟨d, h1, h2, h3, -⟩ := zrow hX hr
  cases h1
  cases (beq_iff_eq.mp h3 : n = 1)
  obtain ⟨hx, hb, hown, hts, hG, ⟨hA, -⟩, -⟩ := hX
  intro H locs LS hW hS hL
  obtain ⟨a1, a2⟩ := hG.2.2.1 q cA m hq
  obtain ⟨b1, b2⟩ := zix hi hj a1
  have hne : xsh X q ≠ none := by rw [hq]; exact fun h => by cases h
  refine W.iast hx hb (hW q _ hq) (a2.1 m (fun j => .int (Int32.ofInt (I q j)))) (fun q => by cases q) (by show ¬ (_ < 0 ∨ (arrV _ _ _).slots.size ≤ _); rw [arrV_size]; exact b1) rfl rfl h2 fun H1 e z oq => ?_
  refine k H1 _ LS (hW.upd hG.1 hq ?_ oq (fun k hk t => zent_r rfl (zu_r hk) rfl t)) (hS.put z oq (hA q hne)) hL
  show H1[_]? = some (vp_cell _ _)
  rw [e, b2]
  show some ((vp_cell cA (m, .inl fun j => Int32.ofInt (I q j))).setSlot j _) = _
  rw [vp_cell_i, vp_cell_i, arrV_store]
  congr 2
  funext y
  by_cases hy : y = j
  · subst hy
    simp [updV, zu]
  · simp [updV, zu, hy]
theorem hw_lastore {q j m : Nat} {i : Int} {x : Nat} {cA : ClassId} (hX : ZF X M) (hr : (pc, .lastore, n, aux) ∈ M.2.1) (hq : xsh X q = some (.inr (.inr (.inl (cA, m))))) (hi : i = (j : Int)) (hj : j < m) (k : HW X (pc + n) ls st F I (zw J q j x)) : HW X pc ls (.inr (.inl x) :: .inl i :: .inr (.inr (some q)) :: st) F I J := by
  obtain ⟨d, h1, h2, h3, -⟩ := zrow hX hr
  cases h1
  cases (beq_iff_eq.mp h3 : n = 1)
  obtain ⟨hx, hb, hown, hts, hG, ⟨hA, -⟩, -⟩ := hX
  intro H locs LS hW hS hL
  obtain ⟨a1, a2⟩ := hG.2.2.2.1 q cA m hq
  obtain ⟨b1, b2⟩ := zix hi hj a1
  have hne : xsh X q ≠ none := by rw [hq]; exact fun h => by cases h
  refine W.last hx hb (hW q _ hq) (a2.1 m (fun j => .long (Int64.ofNat (J q j)))) (fun q => by cases q) (by show ¬ (_ < 0 ∨ (arrV _ _ _).slots.size ≤ _); rw [arrV_size]; exact b1) rfl rfl h2 fun H1 e z oq => ?_
  refine k H1 _ LS (hW.upd hG.1 hq ?_ oq (fun k hk t => zent_r rfl rfl (zw_r hk) t)) (hS.put z oq (hA q hne)) hL
  show H1[_]? = some (vp_cell _ _)
  rw [e, b2]
  show some ((vp_cell cA (m, .inr (.inl fun j => Int64.ofNat (J q j)))).setSlot j _) = _
  rw [vp_cell_l, vp_cell_l, arrV_store]
  congr 2
  funext y
  by_cases hy : y = j
  · subst hy
    simp [updV, zw]
  · simp [updV, zw, hy]
end ZHEAP
