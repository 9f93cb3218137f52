/-! ENGINE, part 1: values, worlds whose shape stands, the judgement HW -/
abbrev zV : Type := Int ⊕ (Nat ⊕ Option Nat)
abbrev zS : Type := (Nat × List (Option (Option Nat))) ⊕ ((ClassId × Nat) ⊕ ((ClassId × Nat) ⊕ (ClassId × String × Nat × (Nat → Option Nat))))
abbrev zFi : Type := Nat → Nat → Int
abbrev zJi : Type := Nat → Nat → Nat
def zv (ad : Nat → Nat) : zV → Value
  | .inl i => .int (Int32.ofInt i)
  | .inr (.inl n) => .long (Int64.ofNat n)
  | .inr (.inr none) => .null
  | .inr (.inr (some k)) => .ref (ad k)
def zfs (ad : Nat → Nat) (f : Nat → Int) : Nat → List (Option (Option Nat)) → List Value
  | _, [] => []
  | j, none :: r => .int (Int32.ofInt (f j)) :: zfs ad f (j + 1) r
  | j, some x :: r => va_rf (x.map ad) :: zfs ad f (j + 1) r
def zent (ad : Nat → Nat) (F I : zFi) (J : zJi) (k : Nat) : zS → va_E
  | .inl (ci, sl) => .inr (ci, zfs ad (F k) 0 sl)
  | .inr (.inl (cA, n)) => .inl (cA, n, .inl (fun j => Int32.ofInt (I k j)))
  | .inr (.inr (.inl (cA, n))) => .inl (cA, n, .inr (.inl (fun j => Int64.ofNat (J k j))))
  | .inr (.inr (.inr (cA, _, n, r))) => .inl (cA, n, .inr (.inr (.inr (.inr (fun j => (r j).map ad)))))
/-- the heap holds the world -/
def zWd (D : va_G) (sh : Nat → Option zS) (ad : Nat → Nat) (F I : zFi) (J : zJi) (H : Heap) : Prop := ∀ (k : Nat) (t : zS), sh k = some t → va_at D vwCl (ad k, zent ad F I J k t) H
/-- the links between nest mates -/
def zNest : List Cond := [.methodLinkNest RX8 21 yX5_init RX8, .methodLinkNest RX8 55 yX2_init RX8, .methodLinkNest RX2 15 yX8_isInChart RX8, .methodLinkNest RX5 46 yX8_isOdd RX8, .methodLinkNest RX6 62 yX8_isOdd RX8]
/-- what stands of the shape in a state -/
def zG (D : va_G) (sh : Nat → Option zS) (ad : Nat → Nat) (U : State) : Prop :=
  (∀ i j, sh i ≠ none → sh j ≠ none → ad i = ad j → i = j) ∧ va_K D vwCl [] U ∧
  (∀ k cA n, sh k = some (.inr (.inl (cA, n))) → n < 2147483648 ∧ ArrOfT U cA .int ∧ va_RA U cA .int) ∧
  (∀ k cA n, sh k = some (.inr (.inr (.inl (cA, n)))) → n < 2147483648 ∧ ArrOfT U cA .long ∧ va_RA U cA .long) ∧
  (∀ k cA E n r, sh k = some (.inr (.inr (.inr (cA, E, n, r)))) → n < 2147483648 ∧ ArrOfT U cA (.object E) ∧ va_RA U cA (.object E)) ∧ (∀ w ∈ zNest, va_Nw w U)
theorem zG.to {D : va_G} {sh : Nat → Option zS} {ad : Nat → Nat} {u U : State} (hvm : u.vm.Alike U.vm) (hn : ∀ w ∈ zNest, va_Nw w U) (h : zG D sh ad u) : zG D sh ad U :=
  ⟨h.1, h.2.1.moved hvm, fun k cA n e => ⟨(h.2.2.1 k cA n e).1, arrOfT_moved hvm (h.2.2.1 k cA n e).2.1, (h.2.2.1 k cA n e).2.2.moved hvm⟩,
    fun k cA n e => ⟨(h.2.2.2.1 k cA n e).1, arrOfT_moved hvm (h.2.2.2.1 k cA n e).2.1, (h.2.2.2.1 k cA n e).2.2.moved hvm⟩,
    fun k cA E n r e => ⟨(h.2.2.2.2.1 k cA E n r e).1, arrOfT_moved hvm (h.2.2.2.2.1 k cA E n r e).2.1, (h.2.2.2.2.1 k cA E n r e).2.2.moved hvm⟩, hn⟩
theorem zNest_warm {s U : State} (hW : s.WarmedH U.vm) (h : ∀ w ∈ zNest, va_Nw w s) : ∀ w ∈ zNest, va_Nw w U := by
  refine List.forall_mem_cons.mpr ⟨va_Nw.warmM hW (h _ (List.mem_of_getElem? (i := 0) rfl)), List.forall_mem_cons.mpr ⟨va_Nw.warmM hW (h _ (List.mem_of_getElem? (i := 1) rfl)), List.forall_mem_cons.mpr ⟨va_Nw.warmM hW (h _ (List.mem_of_getElem? (i := 2) rfl)), List.forall_mem_cons.mpr ⟨va_Nw.warmM hW (h _ (List.mem_of_getElem? (i := 3) rfl)), List.forall_mem_cons.mpr ⟨va_Nw.warmM hW (h _ (List.mem_of_getElem? (i := 4) rfl)), fun _ h => absurd h List.not_mem_nil⟩⟩⟩⟩⟩
theorem zNest_same {s U : State} (e : s.vm = U.vm) (h : ∀ w ∈ zNest, va_Nw w s) : ∀ w ∈ zNest, va_Nw w U := by
  refine List.forall_mem_cons.mpr ⟨va_Nw.same rfl e (h _ (List.mem_of_getElem? (i := 0) rfl)), List.forall_mem_cons.mpr ⟨va_Nw.same rfl e (h _ (List.mem_of_getElem? (i := 1) rfl)), List.forall_mem_cons.mpr ⟨va_Nw.same rfl e (h _ (List.mem_of_getElem? (i := 2) rfl)), List.forall_mem_cons.mpr ⟨va_Nw.same rfl e (h _ (List.mem_of_getElem? (i := 3) rfl)), List.forall_mem_cons.mpr ⟨va_Nw.same rfl e (h _ (List.mem_of_getElem? (i := 4) rfl)), fun _ h => absurd h List.not_mem_nil⟩⟩⟩⟩⟩
theorem zG.warm {D : va_G} {sh : Nat → Option zS} {ad : Nat → Nat} {u U : State} (hW : u.WarmedH U.vm) (h : zG D sh ad u) : zG D sh ad U := h.to hW.alike (zNest_warm hW h.2.2.2.2.2)
/-- which cells may change: those of the shape, and new ones -/
def zA (sh : Nat → Option zS) (ad : Nat → Nat) (sz : Nat) : Nat → Prop := fun q => (∃ k, sh k ≠ none ∧ q = ad k) ∨ sz ≤ q
abbrev zX : Type := (Program × Launch × Env × Room × State × MethodId × Array Value × List Frame × Method × Code) × (va_G × (Nat → Option zS) × (Nat → Nat)) × ((Nat → Prop) × Nat × Nat × (State → Prop))
abbrev xp (X : zX) : Program := X.1.1
abbrev xl (X : zX) : Launch := X.1.2.1
abbrev xe (X : zX) : Env := X.1.2.2.1
abbrev xR (X : zX) : Room := X.1.2.2.2.1
abbrev xs (X : zX) : State := X.1.2.2.2.2.1
abbrev xm (X : zX) : MethodId := X.1.2.2.2.2.2.1
abbrev xa (X : zX) : Array Value := X.1.2.2.2.2.2.2.1
abbrev xb (X : zX) : List Frame := X.1.2.2.2.2.2.2.2.1
abbrev xt (X : zX) : Method := X.1.2.2.2.2.2.2.2.2.1
abbrev xc (X : zX) : Code := X.1.2.2.2.2.2.2.2.2.2
abbrev xD (X : zX) : va_G := X.2.1.1
abbrev xsh (X : zX) : Nat → Option zS := X.2.1.2.1
abbrev xad (X : zX) : Nat → Nat := X.2.1.2.2
abbrev xA (X : zX) : Nat → Prop := X.2.2.1
abbrev xk (X : zX) : Nat := X.2.2.2.1
abbrev xn (X : zX) : Nat := X.2.2.2.2.1
abbrev xQ (X : zX) : State → Prop := X.2.2.2.2.2
/-- the locals: those that are listed are held -/
def zL (ad : Nat → Nat) (nL : Nat) (ls : List (Option zV)) (LS : Array Slot) : Prop := LS.size = nL ∧ ls.length ≤ nL ∧ lv_wf LS ∧ ∀ (i : Nat) (v : zV), ls[i]? = some (some v) → LS[i]? = some (.val (zv ad v))
def HW (X : zX) (pc : Nat) (ls : List (Option zV)) (st : List zV) (F I : zFi) (J : zJi) : Prop :=
  ∀ (H : Heap) (locs : List Loc) (LS : Array Slot), zWd (xD X) (xsh X) (xad X) F I J H → va_S (xA X) (xs X).heap H locs → zL (xad X) (xc X).maxLocals ls LS →
    W (xp X) (xl X) (xe X) (xR X) (xs X) (xm X) (xa X) (xb X) (xt X) (xc X) H locs (xk X) (xn X) (xQ X) (F0 (xm X) pc LS (st.map (zv (xad X))))
/-- the method: its bytes, its rows (pc, instruction in a plain form, length, pool index), its class, its words -/
abbrev zM : Type := ByteArray × List (Nat × Instr × Nat × Nat) × String × List Cond × Room
/-- the instruction that stands in the bytes for a plain one -/
def zorig (pc : Nat) (i : Instr) (n aux : Nat) : Option Instr := match i with
  | .iconst v => match n, aux with
    | 1, 0 => some (.iconst v)
    | 2, 0 => if -128 ≤ v ∧ v < 128 then some (.bipush v) else none
    | 3, 0 => if -32768 ≤ v ∧ v < 32768 then some (.sipush v) else none
    | 2, a + 1 => some (.ldc (a + 1))
    | 3, a + 1 => some (.ldc_w (a + 1))
    | _, _ => none
  | .ldc2_w _ => some (.ldc2_w aux)
  | .iload j => match n with
    | 1 => if h : j < 4 then some (.iload_n ⟨j, h⟩) else none
    | _ => some (.iload j)
  | .lload j => match n with
    | 1 => if h : j < 4 then some (.lload_n ⟨j, h⟩) else none
    | _ => some (.lload j)
  | .aload j => match n with
    | 1 => if h : j < 4 then some (.aload_n ⟨j, h⟩) else none
    | _ => some (.aload j)
  | .istore j => match n with
    | 1 => if h : j < 4 then some (.istore_n ⟨j, h⟩) else none
    | _ => some (.istore j)
  | .lstore j => match n with
    | 1 => if h : j < 4 then some (.lstore_n ⟨j, h⟩) else none
    | _ => some (.lstore j)
  | .astore j => match n with
    | 1 => if h : j < 4 then some (.astore_n ⟨j, h⟩) else none
    | _ => some (.astore j)
  | .if_icmp c t => some (.if_icmp c (t - pc))
  | .ifCond c t => some (.ifCond c (t - pc))
  | .goto t => some (.goto (t - pc))
  | .ifnull t => some (.ifnull (t - pc))
  | .ifnonnull t => some (.ifnonnull (t - pc))
  | .invokeinterface _ _ => some (.getfield aux)
  | .multianewarray _ _ => some (.putfield aux)
  | .getfield _ => none
  | .putfield _ => none
  | .putstatic _ => some (.putfield aux)
  | .dreturn => some .ireturn
  | i => some i
/-- the length that a plain instruction has, where it is one alone -/
def zlen (i : Instr) (n : Nat) : Bool := match i with
  | .iconst _ => true
  | .iload _ | .lload _ | .aload _ | .istore _ | .lstore _ | .astore _ => n == 1 || n == 2
  | .iinc _ _ | .if_icmp _ _ | .ifCond _ _ | .goto _ | .ifnull _ | .ifnonnull _ | .invokeinterface _ _ | .multianewarray _ _ | .putstatic _ | .ldc2_w _ | .invokevirtual _ | .invokestatic _ | .invokespecial _ => n == 3
  | .tableswitch _ _ _ _ => true
  | _ => n == 1
def zfl (own : String) (Ts : List Cond) (ci j idx mode : Nat) : Bool := match vwCl[ci]? with
  | some (C, T, N) => decide (j < N) && (decide (Cond.fieldLink own idx (T j).1 (T j).2.1 (T j).2.2.1 ∈ Ts) && ((u_ws C T N).all (fun w => decide (w ∈ Ts)) &&
      (match mode with
        | 0 => true
        | 1 => !(T j).2.2.2 && decide (parseFieldDescriptor (T j).2.2.1 = some .int)
        | _ => !(T j).2.2.2 && decide (parseFieldDescriptor (T j).2.2.1 = some .boolean))))
  | none => false
def zside (M : zM) (i : Instr) (n aux : Nat) : Bool := match i with
  | .iconst v => match aux with
    | 0 => true
    | a + 1 => decide (Cond.constant M.2.2.1 (a + 1) (Int32.ofInt v) ∈ M.2.2.2.1)
  | .ldc2_w v => decide (Cond.constantLong M.2.2.1 aux (Int64.ofNat v) ∈ M.2.2.2.1)
  | .if_icmp _ t | .ifCond _ t | .goto t | .ifnull t | .ifnonnull t => decide (0 ≤ t)
  | .invokeinterface ci j => zfl M.2.2.1 M.2.2.2.1 ci j aux 0
  | .multianewarray ci j => zfl M.2.2.1 M.2.2.2.1 ci j aux 1
  | .putstatic e => zfl M.2.2.1 M.2.2.2.1 (e / 64) (e % 64) aux 2
  | _ => true
def zok (M : zM) (r : Nat × Instr × Nat × Nat) : Bool := match zorig r.1 r.2.1 r.2.2.1 r.2.2.2 with
  | some d => decide (decode M.1 r.1 = .ok (d, r.2.2.1)) && (zlen r.2.1 r.2.2.1 && zside M r.2.1 r.2.2.1 r.2.2.2)
  | none => false
/-- the facts that stand all along a method -/
def ZF (X : zX) (M : zM) : Prop :=
  (xp X).tables.exec = Jvm.exec ∧ (xc X).code = M.1 ∧ (xs X).vm.findClass M.2.2.1 = some (xm X).cls ∧ (∀ w ∈ M.2.2.2.1, w.before (xa X) (xs X) = true) ∧
  zG (xD X) (xsh X) (xad X) (xs X) ∧ ((∀ k, xsh X k ≠ none → xA X (xad X k)) ∧ ∀ q : Nat, (xs X).heap.size ≤ q → xA X q) ∧ (xR X = M.2.2.2.2 ∧ xk X ≤ (xR X).cells ∧ xn X ≤ (xR X).slots) ∧ (∀ r ∈ M.2.1, zok M r = true)
theorem zok_spec {M : zM} {pc : Nat} {i : Instr} {n aux : Nat} (h : zok M (pc, i, n, aux) = true) : ∃ d, zorig pc i n aux = some d ∧ decode M.1 pc = .ok (d, n) ∧ zlen i n = true ∧ zside M i n aux = true := by
  unfold zok at h
  dsimp only at h
  split at h
  · rename_i d hd
    simp only [Bool.and_eq_true, decide_eq_true_eq] at h
    exact ⟨d, hd, h.1, h.2.1, h.2.2⟩
  · cases h
