/-! ENGINE, part 5: contracts of methods that make nothing, their returns and their calls -/
abbrev zP : Type := Option zV → zFi → zFi → zJi → Prop
def Cn (l : Launch) (D : va_G) (y : MethodName) (ws : List Cond) (rm : Room) (sh : Nat → Option zS) (av : List zV) (F I : zFi) (J : zJi) (post : zP) : Prop := ∀ (ad : Nat → Nat) (sz : Nat),
  Met l y ws rm (va_Pc (av.map (zv ad)) (fun U => U.heap.size = sz ∧ zG D sh ad U ∧ zWd D sh ad F I J U.heap))
    (fun _ st oc t => (∃ (v : Option zV) (F' I' : zFi) (J' : zJi), oc = .returned (v.map (zv ad)) ∧ post v F' I' J' ∧ zWd D sh ad F' I' J' t.heap) ∧ va_F (zA sh ad sz) st t) 0 0 (zA sh ad sz)
def zrt (ret : Option FieldType) (i : Instr) : Bool := match i with
  | .ireturn => decide (ret = some .int)
  | .dreturn => decide (ret = some .boolean)
  | .lreturn => decide (ret = some .long)
  | .areturn => match ret with
    | some (.object _) => true
    | _ => false
  | .return_ => decide (ret = none)
  | _ => true
/-- the ends of the method -/
def ZR (X : zX) (M : zM) (RT : zP) : Prop :=
  (∀ pc n aux ls x F I J, (pc, Instr.ireturn, n, aux) ∈ M.2.1 → RT (some (.inl x)) F I J → HW X pc ls [.inl x] F I J) ∧
  (∀ pc n aux ls x F I J, (pc, Instr.dreturn, n, aux) ∈ M.2.1 → (x = 0 ∨ x = 1) → RT (some (.inl x)) F I J → HW X pc ls [.inl x] F I J) ∧
  (∀ pc n aux ls x F I J, (pc, Instr.lreturn, n, aux) ∈ M.2.1 → RT (some (.inr (.inl x))) F I J → HW X pc ls [.inr (.inl x)] F I J) ∧
  (∀ pc n aux ls x F I J, (pc, Instr.areturn, n, aux) ∈ M.2.1 → RT (some (.inr (.inr x))) F I J → HW X pc ls [.inr (.inr x)] F I J) ∧
  (∀ pc n aux ls F I J, (pc, Instr.return_, n, aux) ∈ M.2.1 → RT none F I J → HW X pc ls [] F I J)
def zargs : List zV → List (Option zV)
  | [] => []
  | .inr (.inl x) :: r => some (.inr (.inl x)) :: none :: zargs r
  | .inl x :: r => some (.inl x) :: zargs r
  | .inr (.inr x) :: r => some (.inr (.inr x)) :: zargs r
theorem zcat_i (ad : Nat → Nat) (x : Int) : (zv ad (.inl x)).category = 1 := rfl
theorem zcat_l (ad : Nat → Nat) (x : Nat) : (zv ad (.inr (.inl x))).category = 2 := rfl
theorem zcat_r (ad : Nat → Nat) (x : Option Nat) : (zv ad (.inr (.inr x))).category = 1 := by cases x <;> rfl
theorem zargs_len (ad : Nat → Nat) (av : List zV) : (lg_sl (av.map (zv ad))).length = (zargs av).length := by
  induction av with
  | nil => rfl
  | cons v r ih =>
    have e : lg_sl ((v :: r).map (zv ad)) = (if (zv ad v).category = 2 then [Slot.val (zv ad v), .second] else [.val (zv ad v)]) ++ lg_sl (r.map (zv ad)) := rfl
    rw [e, List.length_append, ih]
    rcases v with x | x | x
    · rw [if_neg (by rw [zcat_i]; decide)]; simp only [List.length_cons, List.length_nil, zargs]; omega
    · rw [if_pos (zcat_l ad x)]; simp only [List.length_cons, List.length_nil, zargs]; omega
    · rw [if_neg (by rw [zcat_r]; decide)]; simp only [List.length_cons, List.length_nil, zargs]; omega
theorem zargs_mem (ad : Nat → Nat) (av : List zV) : ∀ (k i : Nat) (v : zV), (zargs av)[i]? = some (some v) → (k + i, zv ad v) ∈ lv_args k (av.map (zv ad)) := by
  induction av with
  | nil => intro k i v h; cases h
  | cons w r ih =>
    intro k i v h
    have e : lv_args k ((w :: r).map (zv ad)) = (k, zv ad w) :: lv_args (if (zv ad w).category = 2 then k + 2 else k + 1) (r.map (zv ad)) := rfl
    rw [e]
    rcases w with x | x | x
    · rw [zcat_i, if_neg (by decide)]
      cases i with
      | zero => cases h; exact List.mem_cons_self
      | succ i =>
        have := ih (k + 1) i v h
        rw [show k + 1 + i = k + (i + 1) by omega] at this
        exact List.mem_cons_of_mem _ this
    · rw [zcat_l, if_pos rfl]
      cases i with
      | zero => cases h; exact List.mem_cons_self
      | succ i =>
        cases i with
        | zero => cases h
        | succ i =>
          have := ih (k + 2) i v h
          rw [show k + 2 + i = k + (i + 1 + 1) by omega] at this
          exact List.mem_cons_of_mem _ this
    · rw [zcat_r, if_neg (by decide)]
      cases i with
      | zero => cases h; exact List.mem_cons_self
      | succ i =>
        have := ih (k + 1) i v h
        rw [show k + 1 + i = k + (i + 1) by omega] at this
        exact List.mem_cons_of_mem _ this
theorem zL_entry (ad : Nat → Nat) (av : List zV) {nL : Nat} (h : (zargs av).length ≤ nL) : zL ad nL (zargs av ++ List.replicate (nL - (zargs av).length) none) ((lg_sl (av.map (zv ad)) ++ List.replicate (nL - (lg_sl (av.map (zv ad))).length) Slot.unset).toArray) := by
  have h0 := lv_entry (av.map (zv ad)) (n := nL) (by rw [zargs_len]; exact h)
  refine ⟨h0.1, by simp; omega, h0.2.1, fun i v hv => ?_⟩
  by_cases hi : i < (zargs av).length
  · rw [List.getElem?_append_left hi] at hv
    have := h0.2.2 (0 + i, zv ad v) (zargs_mem ad av 0 i v hv)
    simpa using this
  · rw [List.getElem?_append_right (by omega), List.getElem?_replicate] at hv
    split at hv <;> cases hv
theorem zblind {D : va_G} {sh : Nat → Option zS} {ad : Nat → Nat} {av : List zV} {F I : zFi} {J : zJi} {sz : Nat} : FrameBlind (va_Pc (av.map (zv ad)) (fun U => U.heap.size = sz ∧ zG D sh ad U ∧ zWd D sh ad F I J U.heap)) := by
  intro a U g mk h
  obtain ⟨h1, h2, h3, h4⟩ := h
  exact ⟨h1, h2, h3.to (u := U) (U := U.calling g mk a) (Vm.Alike.refl U.vm) (zNest_same (s := U) (U := U.calling g mk a) rfl h3.2.2.2.2.2), h4⟩
abbrev zX0 (p : Program) (l : Launch) (e : Env) (R : Room) (s : State) (m : MethodId) (a : Array Value) (below : List Frame) (meth : Method) (c : Code) (D : va_G) (sh : Nat → Option zS) (ad : Nat → Nat) (A : Nat → Prop) (Q : State → Prop) : zX := ((p, l, e, R, s, m, a, below, meth, c), (D, sh, ad), (A, 0, 0, Q))
abbrev zQc (D : va_G) (sh : Nat → Option zS) (ad : Nat → Nat) (post : zP) (sz : Nat) : Array Value → State → Outcome → State → Prop := fun _ st oc t => (∃ (v : Option zV) (F' I' : zFi) (J' : zJi), oc = .returned (v.map (zv ad)) ∧ post v F' I' J' ∧ zWd D sh ad F' I' J' t.heap) ∧ va_F (zA sh ad sz) st t
theorem zmet {l : Launch} {D : va_G} {y : MethodName} {ws' : List Cond} {M : zM} {sh : Nat → Option zS} {av : List zV} {F I : zFi} {J : zJi} {post : zP} {nL : Nat} {ret : Option FieldType} (hy : plainName y.cls = true) (hw : M.2.2.2.1 = Cond.code y M.1 nL ret :: ws') (hown : M.2.2.1 = y.cls) (htab : M.2.1.all (fun r => zok M r && zrt ret r.2.1) = true) (hlen : (zargs av).length ≤ nL)
    (body : ∀ X, ZF X M → ZR X M post → xl X = l → xD X = D → xsh X = sh → HW X 0 (zargs av ++ List.replicate (nL - (zargs av).length) none) [] F I J) : Cn l D y M.2.2.2.1 M.2.2.2.2 sh av F I J post := by
  intro ad sz
  refine Met.ofW (cc := M.1) (maxL := nL) (ret := ret) hy hw ?_
  intro p e s m args below meth c s₁ B hml hv
  obtain ⟨ha, hsz, hG, hW⟩ := hv
  subst ha
  have hts := atoms_spec (ws := M.2.2.2.1) B.pre
  have hown' : s.vm.findClass M.2.2.1 = some m.cls := by rw [hown]; exact findClass_of_methodNamed B.named
  subst hsz
  rw [lg_entry_eq]
  have htb := List.all_eq_true.mp htab
  have hX : ZF (zX0 p l e (headSpec M.2.2.2.1 M.2.2.2.2).room s m (av.map (zv ad)).toArray below meth c D sh ad (zA sh ad s.heap.size) (MQ below (zQc D sh ad post s.heap.size) (av.map (zv ad)).toArray s 0 0 (zA sh ad s.heap.size))) M := ⟨B.exec, B.bytes, hown', hts, hG, ⟨fun k hk => Or.inl ⟨k, hk, rfl⟩, fun q hq => Or.inr hq⟩, ⟨rfl, Nat.zero_le _, Nat.zero_le _⟩, fun r hr => by
    have := htb r hr
    simp only [Bool.and_eq_true] at this
    exact this.1⟩
  have hrt : ∀ r ∈ M.2.1, zrt ret r.2.1 = true := fun r hr => by
    have := htb r hr
    simp only [Bool.and_eq_true] at this
    exact this.2
  have hz := zL_entry ad av hlen
  refine body _ hX ⟨?_, ?_, ?_, ?_, ?_⟩ rfl rfl rfl _ [] _ hW va_S.rf (show zL ad c.maxLocals _ _ by rw [hml]; exact hz)
  · intro pc n aux ls x F' I' J' hr hp H locs LS hW hS hL
    obtain ⟨d, h1, h2, h3, -⟩ := zrow hX hr
    cases h1
    cases (beq_iff_eq.mp h3 : n = 1)
    have hre : ret = some .int := of_decide_eq_true (hrt _ hr)
    exact W.iret (Qc := zQc D sh ad post s.heap.size) B.exec B.bytes (B.returns.trans hre) (fun t ht hWm => ⟨⟨some (.inl x), F', I', J', rfl, hp, by rw [ht]; exact hW⟩, hS.F ht⟩) hS.2.2 h2 B.notSynchronized
  · intro pc n aux ls x F' I' J' hr hx hp H locs LS hW hS hL
    obtain ⟨d, h1, h2, h3, -⟩ := zrow hX hr
    cases h1
    cases (beq_iff_eq.mp h3 : n = 1)
    have hre : ret = some .boolean := of_decide_eq_true (hrt _ hr)
    exact W.zret (Qc := zQc D sh ad post s.heap.size) B.exec B.bytes (B.returns.trans hre) (by rcases hx with rfl | rfl <;> rfl) (fun t ht hWm => ⟨⟨some (.inl x), F', I', J', rfl, hp, by rw [ht]; exact hW⟩, hS.F ht⟩) hS.2.2 h2 B.notSynchronized
  · intro pc n aux ls x F' I' J' hr hp H locs LS hW hS hL
    obtain ⟨d, h1, h2, h3, -⟩ := zrow hX hr
    cases h1
    cases (beq_iff_eq.mp h3 : n = 1)
    have hre : ret = some .long := of_decide_eq_true (hrt _ hr)
    exact W.lret (Qc := zQc D sh ad post s.heap.size) B.exec B.bytes (B.returns.trans hre) (fun t ht hWm => ⟨⟨some (.inr (.inl x)), F', I', J', rfl, hp, by rw [ht]; exact hW⟩, hS.F ht⟩) hS.2.2 h2 B.notSynchronized
  · intro pc n aux ls x F' I' J' hr hp H locs LS hW hS hL
    obtain ⟨d, h1, h2, h3, -⟩ := zrow hX hr
    cases h1
    cases (beq_iff_eq.mp h3 : n = 1)
    have hre : ∃ C, ret = some (.object C) := by
      have := hrt _ hr
      simp only [zrt] at this
      split at this
      · exact ⟨_, rfl⟩
      · cases this
    obtain ⟨C, hre⟩ := hre
    exact W.aret (Qc := zQc D sh ad post s.heap.size) B.exec B.bytes (B.returns.trans hre) (Or.inl ⟨C, rfl⟩) (by cases x with
      | none => exact Or.inl rfl
      | some x => exact Or.inr ⟨_, rfl⟩) (fun t ht hWm => ⟨⟨some (.inr (.inr x)), F', I', J', rfl, hp, by rw [ht]; exact hW⟩, hS.F ht⟩) hS.2.2 h2 B.notSynchronized
  · intro pc n aux ls F' I' J' hr hp H locs LS hW hS hL
    obtain ⟨d, h1, h2, h3, -⟩ := zrow hX hr
    cases h1
    cases (beq_iff_eq.mp h3 : n = 1)
    have hre : ret = none := of_decide_eq_true (hrt _ hr)
    exact W.vret (Qc := zQc D sh ad post s.heap.size) B.exec B.bytes (B.returns.trans hre) (fun t ht hWm => ⟨⟨none, F', I', J', rfl, hp, by rw [ht]; exact hW⟩, hS.F ht⟩) hS.2.2 h2 B.notSynchronized
def zc1 : zV → Nat
  | .inr (.inl _) => 2
  | _ => 1
theorem zc1_cat (ad : Nat → Nat) (st : List zV) : ((st.map (zv ad)).map fun v => v.category).sum = (st.map zc1).sum := by
  induction st with
  | nil => rfl
  | cons v r ih =>
    simp only [List.map_cons, List.sum_cons, ih]
    rcases v with x | x | x
    · rfl
    · rfl
    · rw [zcat_r]; rfl
section ZCALL
variable {X : zX} {M : zM} {pc n aux : Nat} {ls : List (Option zV)} {st : List zV} {F I : zFi} {J : zJi}
/-- a call's run, and where it goes on -/
theorem hw_run {st0 : List zV} {post : zP} {H : Heap} {locs : List Loc} {LS : Array Slot} (a : Array Value) (hX : ZF X M) (hS : va_S (xA X) (xs X).heap H locs) (hL : zL (xad X) (xc X).maxLocals ls LS)
    (run : va_Run (xp X) (xl X) (xe X) (xR X) (xs X) (xm X) (xa X) (xb X) (xt X) (xc X) H locs (xk X) (xn X) 0 0 (F0 (xm X) pc LS (st0.map (zv (xad X)))) (st.map (zv (xad X))) (zQc (xD X) (xsh X) (xad X) post H.size a) (zA (xsh X) (xad X) H.size))
    (kk : ∀ v F' I' J', post v F' I' J' → HW X (pc + 3) ls (v.toList ++ st) F' I' J') :
    W (xp X) (xl X) (xe X) (xR X) (xs X) (xm X) (xa X) (xb X) (xt X) (xc X) H locs (xk X) (xn X) (xQ X) (F0 (xm X) pc LS (st0.map (zv (xad X)))) := by
  have hA' : ∀ q : Nat, zA (xsh X) (xad X) H.size q → xA X q := by
    intro q hq
    rcases hq with ⟨k, hk, rfl⟩ | hq
    · exact hX.2.2.2.2.2.1.1 k hk
    · exact hX.2.2.2.2.2.1.2 q (Nat.le_trans hS.1 hq)
  intro T hT X'
  obtain ⟨v, st₀, t, T', L, h0, X'', hL', e1, e2, ⟨⟨v', F', I', J', hv, hp, hW'⟩, hz, hk⟩, stp⟩ := run T hT X'
  cases hv
  rw [h0] at hz hk
  have hvl : (v'.map (zv (xad X))).toList ++ st.map (zv (xad X)) = (v'.toList ++ st).map (zv (xad X)) := by cases v' <;> simp
  rw [hvl] at stp
  obtain ⟨t2, a1, b1⟩ := kk v' F' I' J' hp T'.heap (locs ++ L) LS (by rw [e1]; exact hW')
    ⟨Nat.le_trans hS.1 (by rw [e1]; exact hz), fun q h1 h2 => by rw [e1, hk q (Nat.lt_of_lt_of_le h1 hS.1) (fun z => h2 (hA' q z))]; exact hS.2.1 q h1 h2, fun q hq => by
      rcases List.mem_append.mp hq with h | h
      · exact hS.2.2 q h
      · exact hA' _ (hL' q h)⟩ hL T' rfl X''
  exact ⟨t2, stp t2 a1, b1⟩
theorem zrecv {ci q : Nat} {sl : List (Option (Option Nat))} {C : String} {T : u_T} {N : Nat} {H : Heap} (hX : ZF X M) (hW : zWd (xD X) (xsh X) (xad X) F I J H) (hq : xsh X q = some (.inl (ci, sl))) (hci : vwCl[ci]? = some (C, T, N)) : ∃ cell : Cell, H[xad X q]? = some cell ∧ cell.vm.isStatics = false ∧ (xs X).vm.findClass C = some cell.cls :=
  va_recv (q0 := 0) hX.2.2.2.2.1.2.1 (zP1 hW hq) hci rfl
theorem zpre {av : List zV} {H : Heap} (hX : ZF X M) (hW : zWd (xD X) (xsh X) (xad X) F I J H) : ∀ U : State, U.heap = H → (xs X).WarmedH U.vm → va_Pc (av.map (zv (xad X))) (fun U => U.heap.size = H.size ∧ zG (xD X) (xsh X) (xad X) U ∧ zWd (xD X) (xsh X) (xad X) F I J U.heap) (av.map (zv (xad X))).toArray U :=
  fun U hU hWm => ⟨rfl, by rw [hU], hX.2.2.2.2.1.warm hWm, by rw [hU]; exact hW⟩
theorem hw_callV {idx q ci nA maxL : Nat} {sl : List (Option (Option Nat))} {C : String} {T : u_T} {N : Nat} {y : MethodName} {ws ws' : List Cond} {rm : Room} {bytes : ByteArray} {ret : Option FieldType} {As : List zV} {post : zP} (hX : ZF X M) (hr : (pc, .invokevirtual idx, n, aux) ∈ M.2.1)
    (hC : Cn (xl X) (xD X) y ws rm (xsh X) (.inr (.inr (some q)) :: As) F I J post) (hG : GoodIn M.2.2.2.1 (wsV M.2.2.1 idx C y ws)) (hw : ws = Cond.code y bytes maxL ret :: ws') (h0 : rm.cells = 0 ∧ rm.slots = 0)
    (hd : y.cls = C ∧ y.cls ≠ "java/lang/invoke/MethodHandle" ∧ y.cls ≠ "java/lang/invoke/VarHandle" ∧ (parseMethodDescriptor y.desc).map (fun d => d.parameters.length) = some nA) (hnA : As.length = nA)
    (hR : rm.frames + 1 ≤ M.2.2.2.2.frames ∧ 8 + (maxL + 11) + rm.locals ≤ M.2.2.2.2.locals) (hc : xk X ≤ (xR X).cells ∧ xn X ≤ (xR X).slots) (hq : xsh X q = some (.inl (ci, sl))) (hci : vwCl[ci]? = some (C, T, N)) (hst : (st.map zc1).sum ≤ 8)
    (kk : ∀ v F' I' J', post v F' I' J' → HW X (pc + 3) ls (v.toList ++ st) F' I' J') : HW X pc ls (As.reverse ++ .inr (.inr (some q)) :: st) F I J := by
  obtain ⟨d, h1, h2, h3, -⟩ := zrow hX hr
  cases h1
  cases (beq_iff_eq.mp h3 : n = 3)
  intro H locs LS hW hS hL
  refine hw_run (Value.ref (xad X q) :: As.map (zv (xad X))).toArray hX hS hL ?_ kk
  exact va_runV (As := As.map (zv (xad X))) (b := xad X q) (rest := st.map (zv (xad X))) (nL := (xc X).maxLocals) ⟨hX.1, hX.2.1, rfl, hX.2.2.1, hX.2.2.2.1⟩ (hC (xad X) H.size) (cwV nA hX.2.2.2.1 hG hw h0.1 h0.2 hd (by rw [hX.2.2.2.2.2.2.1.1]; exact hR)) ⟨zblind, zrecv hX hW hq hci, zpre hX hW⟩ rfl (by rw [List.length_map]; exact hnA) hL.1 (by simp [F0, zv]) (lv_room (by rw [zc1_cat]; exact hst)) h2 hc
theorem hw_callS {idx nA maxL : Nat} {y : MethodName} {ws ws' : List Cond} {rm : Room} {bytes : ByteArray} {ret : Option FieldType} {As : List zV} {post : zP} (hX : ZF X M) (hr : (pc, .invokestatic idx, n, aux) ∈ M.2.1)
    (hC : Cn (xl X) (xD X) y ws rm (xsh X) As F I J post) (hG : GoodIn M.2.2.2.1 (va_wsS M.2.2.1 idx y ws)) (hw : ws = Cond.code y bytes maxL ret :: ws') (h0 : rm.cells = 0 ∧ rm.slots = 0)
    (hd : y.cls ≠ "java/lang/invoke/MethodHandle" ∧ y.cls ≠ "java/lang/invoke/VarHandle" ∧ (parseMethodDescriptor y.desc).map (fun d => d.parameters.length) = some nA) (hnA : As.length = nA)
    (hR : rm.frames + 1 ≤ M.2.2.2.2.frames ∧ 8 + (maxL + 11) + rm.locals ≤ M.2.2.2.2.locals) (hc : xk X ≤ (xR X).cells ∧ xn X ≤ (xR X).slots) (hst : (st.map zc1).sum ≤ 8)
    (kk : ∀ v F' I' J', post v F' I' J' → HW X (pc + 3) ls (v.toList ++ st) F' I' J') : HW X pc ls (As.reverse ++ st) F I J := by
  obtain ⟨d, h1, h2, h3, -⟩ := zrow hX hr
  cases h1
  cases (beq_iff_eq.mp h3 : n = 3)
  intro H locs LS hW hS hL
  refine hw_run (As.map (zv (xad X))).toArray hX hS hL ?_ kk
  exact va_runS (As := As.map (zv (xad X))) (rest := st.map (zv (xad X))) (nL := (xc X).maxLocals) ⟨hX.1, hX.2.1, rfl, hX.2.2.1, hX.2.2.2.1⟩ (hC (xad X) H.size) (va_cwS nA hX.2.2.2.1 hG hw h0.1 h0.2 hd (by rw [hX.2.2.2.2.2.2.1.1]; exact hR)) ⟨zblind, zpre hX hW⟩ rfl (by rw [List.length_map]; exact hnA) hL.1 (by simp [F0]) (lv_room (by rw [zc1_cat]; exact hst)) h2 hc
theorem hw_callN {idx nA maxL : Nat} {host : String} {y : MethodName} {ws ws' : List Cond} {rm : Room} {bytes : ByteArray} {ret : Option FieldType} {As : List zV} {post : zP} (hX : ZF X M) (hr : (pc, .invokestatic idx, n, aux) ∈ M.2.1)
    (hC : Cn (xl X) (xD X) y ws rm (xsh X) As F I J post) (hG : GoodIn M.2.2.2.1 ws) (hw : ws = Cond.code y bytes maxL ret :: ws') (h0 : rm.cells = 0 ∧ rm.slots = 0) (hnest : Cond.methodLinkNest M.2.2.1 idx y host ∈ zNest) (hini : Cond.initialized y.cls ∈ M.2.2.2.1) (hsta : Cond.static y ∈ M.2.2.2.1)
    (hd : y.cls ≠ "java/lang/invoke/MethodHandle" ∧ y.cls ≠ "java/lang/invoke/VarHandle" ∧ (parseMethodDescriptor y.desc).map (fun d => d.parameters.length) = some nA) (hnA : As.length = nA)
    (hR : rm.frames + 1 ≤ M.2.2.2.2.frames ∧ 8 + (maxL + 11) + rm.locals ≤ M.2.2.2.2.locals) (hc : xk X ≤ (xR X).cells ∧ xn X ≤ (xR X).slots) (hst : (st.map zc1).sum ≤ 8)
    (kk : ∀ v F' I' J', post v F' I' J' → HW X (pc + 3) ls (v.toList ++ st) F' I' J') : HW X pc ls (As.reverse ++ st) F I J := by
  obtain ⟨d, h1, h2, h3, -⟩ := zrow hX hr
  cases h1
  cases (beq_iff_eq.mp h3 : n = 3)
  intro H locs LS hW hS hL
  refine hw_run (As.map (zv (xad X))).toArray hX hS hL ?_ kk
  exact va_runSN (As := As.map (zv (xad X))) (rest := st.map (zv (xad X))) (nL := (xc X).maxLocals) ⟨hX.1, hX.2.1, rfl, hX.2.2.1, hX.2.2.2.1⟩ (hC (xad X) H.size) ⟨va_cnB nA hX.2.2.2.1 hG hw h0.1 h0.2 (hX.2.2.2.2.1.2.2.2.2.2 _ hnest) (hX.2.2.2.1 _ hini) hd (by rw [hX.2.2.2.2.2.2.1.1]; exact hR), hX.2.2.2.1 _ hsta, trivial⟩ ⟨zblind, zpre hX hW⟩ rfl (by rw [List.length_map]; exact hnA) hL.1 (by simp [F0]) (lv_room (by rw [zc1_cat]; exact hst)) h2 hc
end ZCALL
