/-! the law: its entry and its end (from the skeleton); the walk -/
/-! THE CLAIM OUT OF ONE WALK OF THE LAW'S BODY. Your part is whole_start (and what it stands on); all else here is the same for every law, but numbers. -/
def R_law : String := "SquareTowerLaw"
def lw_P (b : Addr) (xs : List Int32) (args : Array Value) (s : State) : Prop := args = #[.ref b] ∧ s.IntsAt b xs ∧ xs.length ≤ 2560 ∧ (Jvm.Cond.and given_1 narrow_1).before args s = true
def lw_Q (_ : Array Value) (s : State) (o : Outcome) (t : State) : Prop := o = .returned (some (.int 1)) ∧ Framed s o t [] 600000 7302249
def lw_Z (below : List Frame) (a : Array Value) (s : State) : State → Prop := fun t => ∃ o, t.status = .running ∧ Ended t below o ∧ lw_Q a s o t
/-- the law's own end, with 1 on the stack, nothing written that was there before, its room as the claim has it -/
theorem lw_ret {p : Program} {l : Launch} {e : Env} {s : State} {m : MethodId} {below : List Frame} {meth : Method} {c : Code} {b : Nat} (hx : p.tables.exec = Jvm.exec) (hb : c.code = code) (hr : meth.sig.returnType = ret) (hlocks : meth.locks = false) {pc : Nat} {H : Heap} {ls : Array Slot} (hdg : decode code pc = .ok (.ireturn, 1)) : W p l e room_1 s m #[Value.ref b] below meth c H [] 600000 7302249 (lw_Z below #[Value.ref b] s) (F0 m pc ls [.int 1]) := by
  intro T hT X
  obtain ⟨fs, hret, hrun, hended, hW, hframe⟩ := X.leave (v := some (.int 1)) (hlocks := hlocks) (fun h => by rw [hr] at h; cases h)
  have hmeth' : T.vm.method? m = some meth := X.method'
  refine ⟨T.setFrames fs, ?_, .returned (some (.int 1)), hrun, hended, rfl, ⟨_, rfl⟩, hW, hframe⟩
  jvm_step X.here [X.here.top, hx, hb, hdg, hmeth', hr, ret, narrow_b1]
  (try refine ⟨rfl, ?_⟩); (try refine ⟨rfl, ?_⟩)
  first | (intro acts; rw [hret _ acts rfl rfl rfl]) | rw [hret _ _ rfl rfl rfl]
  exact Steps.refl _
/-- what holds at the law's entry: the machine, the code, the tables' words (any of lw_tbl by 'hts w (by decide +kernel)'), the script of L ints xs at the cell b, what the Statement gives of the start (any of its parts by flat_of_before) -/
def lw_At (p : Program) (s : State) (m : MethodId) (meth : Method) (c : Code) (b L : Nat) (xs : Nat → Int32) : Prop :=
  p.tables.exec = Jvm.exec ∧ c.code = code ∧ meth.sig.returnType = ret ∧ c.maxLocals = 4 ∧ s.vm.findClass R_law = some m.cls ∧ (∀ w ∈ lw_tbl, w.before #[Value.ref b] s = true) ∧ va_X b L xs s s.heap ∧ b < s.heap.size ∧ meth.locks = false ∧ (Jvm.Cond.and given_1 narrow_1).before #[Value.ref b] s = true
abbrev frL (k : Nat) : Bool := decide (k < 90)
theorem frL_0 : ∀ k, frL k = false → frC k = false := fun k hk => by simp at hk ⊢; omega
theorem frL_1 : ∀ k, frL k = false → frR k = false := fun k hk => by simp at hk ⊢; omega
set_option maxRecDepth 20000 in
theorem lwN : ∀ w ∈ zNest, w ∈ lw_tbl := by decide +kernel
set_option maxRecDepth 20000 in
theorem lwA1 : Cond.arrayOver (.object "SquareTower$Floor") ∈ lw_tbl := by decide +kernel
set_option maxRecDepth 20000 in
theorem lwA2 : Cond.arrayOver (.object "SquareTower$BitRows") ∈ lw_tbl := by decide +kernel
set_option maxRecDepth 20000 in
theorem lwI0 : Cond.instantiable RX0 2 ∈ lw_tbl := by decide +kernel
set_option maxRecDepth 20000 in
theorem lwI1 : Cond.instantiable RX1 3 ∈ lw_tbl := by decide +kernel
set_option maxRecDepth 20000 in
theorem lwI2 : Cond.instantiable RX2 1 ∈ lw_tbl := by decide +kernel
set_option maxRecDepth 20000 in
theorem lwI3 : Cond.instantiable RX3 4 ∈ lw_tbl := by decide +kernel
set_option maxRecDepth 20000 in
theorem lwI4 : Cond.instantiable RX4 1 ∈ lw_tbl := by decide +kernel
set_option maxRecDepth 20000 in
theorem lwI5 : Cond.instantiable RX5 5 ∈ lw_tbl := by decide +kernel
set_option maxRecDepth 20000 in
theorem lwI6 : Cond.instantiable RX6 2 ∈ lw_tbl := by decide +kernel
set_option maxRecDepth 20000 in
theorem lwI7 : Cond.instantiable RX7 12 ∈ lw_tbl := by decide +kernel
set_option maxRecDepth 20000 in
theorem lwI8 : Cond.instantiable RX8 10 ∈ lw_tbl := by decide +kernel
set_option maxRecDepth 20000 in
theorem lwI9 : Cond.instantiable RX9 30 ∈ lw_tbl := by decide +kernel
theorem lw_known {s : State} {b : Nat} (hts : ∀ w ∈ lw_tbl, w.before #[Value.ref b] s = true) : ∃ (dC : Nat → ClassId) (dI : Nat → Nat → Nat), ∀ (k : Nat) (q : vw_C), vwCl[k]? = some q → u_Kn s q.1 q.2.1 q.2.2 (dC k) (dI k) := by
  obtain ⟨c0, i0, h0⟩ := u_known (C := RX0) (T := TX0) (N := 2) (n := 2) hts wsX00_inl (hts _ lwI0)
  obtain ⟨c1, i1, h1⟩ := u_known (C := RX1) (T := TX1) (N := 3) (n := 3) hts wsX10_inl (hts _ lwI1)
  obtain ⟨c2, i2, h2⟩ := u_known (C := RX2) (T := TX2) (N := 1) (n := 1) hts wsX20_inl (hts _ lwI2)
  obtain ⟨c3, i3, h3⟩ := u_known (C := RX3) (T := TX3) (N := 4) (n := 4) hts wsX30_inl (hts _ lwI3)
  obtain ⟨c4, i4, h4⟩ := u_known (C := RX4) (T := TX4) (N := 1) (n := 1) hts wsX40_inl (hts _ lwI4)
  obtain ⟨c5, i5, h5⟩ := u_known (C := RX5) (T := TX5) (N := 5) (n := 5) hts wsX50_inl (hts _ lwI5)
  obtain ⟨c6, i6, h6⟩ := u_known (C := RX6) (T := TX6) (N := 2) (n := 2) hts wsX60_inl (hts _ lwI6)
  obtain ⟨c7, i7, h7⟩ := u_known (C := RX7) (T := TX7) (N := 12) (n := 12) hts wsX70_inl (hts _ lwI7)
  obtain ⟨c8, i8, h8⟩ := u_known (C := RX8) (T := TX8) (N := 10) (n := 10) hts wsX80_inl (hts _ lwI8)
  obtain ⟨c9, i9, h9⟩ := u_known (C := RX9) (T := TX9) (N := 30) (n := 30) hts wsX90_inl (hts _ lwI9)
  refine ⟨fun k => match k with | 0 => c0 | 1 => c1 | 2 => c2 | 3 => c3 | 4 => c4 | 5 => c5 | 6 => c6 | 7 => c7 | 8 => c8 | _ => c9, fun k => match k with | 0 => i0 | 1 => i1 | 2 => i2 | 3 => i3 | 4 => i4 | 5 => i5 | 6 => i6 | 7 => i7 | 8 => i8 | _ => i9, ?_⟩
  intro k q hq
  match k, hq with
  | 0, hq => cases hq; exact h0
  | 1, hq => cases hq; exact h1
  | 2, hq => cases hq; exact h2
  | 3, hq => cases hq; exact h3
  | 4, hq => cases hq; exact h4
  | 5, hq => cases hq; exact h5
  | 6, hq => cases hq; exact h6
  | 7, hq => cases hq; exact h7
  | 8, hq => cases hq; exact h8
  | 9, hq => cases hq; exact h9
  | k + 10, hq => cases hq
set_option maxRecDepth 10000 in
/-- the law's end -/
theorem lw_fin {p : Program} {e : Env} {s : State} {m : MethodId} {below : List Frame} {meth : Method} {c : Code} {l : Launch} {b : Nat} {D : va_G} {ad : Nat → Nat} (hx : p.tables.exec = Jvm.exec) (hb : c.code = code) (hr : meth.sig.returnType = ret) (hlocks : meth.locks = false) {X : zX} (hZ : ZX ((p, l, e, room_1, s, m, #[Value.ref b], below, meth, c), (D, fun _ => none, ad), (fun q => s.heap.size ≤ q, 0, 0, lw_Z below #[Value.ref b] s)) mLaw frL X) (i : Nat) (F I : zFi) (J : zJi) : HW X 670 (lsL i) [] F I J := by
  obtain ⟨⟨p', l', e', R', s', m', a', b', t', c'⟩, ⟨D', sh', ad'⟩, ⟨A', k', n', Q'⟩⟩ := X
  obtain ⟨hF, -, ⟨e1, e2, e3, e4⟩, -⟩ := hZ
  cases e1
  have e3 : A' = fun q => s.heap.size ≤ q := e3
  have e4 : Q' = lw_Z below #[Value.ref b] s := e4
  subst e3 e4
  have hk : k' ≤ 600000 ∧ n' ≤ 7302249 := hF.2.2.2.2.2.2.1.2
  refine zgo (fun pc => Nat.beq pc 671) 200 hF zr0 rfl ?_
  intro H locs LS hW hS hL
  refine va_forget (fun q hq => hS.2.2 q hq) ?_
  refine W.widen (k := 600000) (n := 7302249) hk.1 hk.2 ?_
  exact lw_ret hx hb hr hlocks (by decide +kernel)
theorem lw_LX {p : Program} {e : Env} {s : State} {m : MethodId} {below : List Frame} {meth : Method} {c : Code} {l : Launch} {b L : Nat} {xs : Nat → Int32} {D : va_G} {Q : State → Prop} (hX : va_X b L xs s s.heap) (hbl : b < s.heap.size) {X : zX} (hZ : ZX ((p, l, e, room_1, s, m, #[Value.ref b], below, meth, c), (D, fun _ => none, fun k => match Nat.beq k 90 with | true => b | false => 0), (fun q => s.heap.size ≤ q, 0, 0, Q)) mLaw frL X) : LX X b L xs := by
  obtain ⟨⟨p', l', e', R', s', m', a', b', t', c'⟩, ⟨D', sh', ad'⟩, ⟨A', k', n', Q'⟩⟩ := X
  obtain ⟨hF, -, ⟨e1, e2, e3, e4⟩, had⟩ := hZ
  cases e1
  have e3 : A' = fun q => s.heap.size ≤ q := e3
  subst e3
  exact ⟨(had 90 rfl).trans rfl, hX, hbl, Nat.not_le.mpr hbl⟩
