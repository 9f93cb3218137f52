/-! ENGINE, part 6: the walk as one proposition -/
def zI (st : List zV) (K : Int → List zV → Prop) : Prop := match st with
  | .inl a :: r => K a r
  | _ => False
def zI2 (st : List zV) (K : Int → Int → List zV → Prop) : Prop := match st with
  | .inl b :: .inl a :: r => K a b r
  | _ => False
def zL1 (st : List zV) (K : Nat → List zV → Prop) : Prop := match st with
  | .inr (.inl a) :: r => K a r
  | _ => False
def zL2 (st : List zV) (K : Nat → Nat → List zV → Prop) : Prop := match st with
  | .inr (.inl b) :: .inr (.inl a) :: r => K a b r
  | _ => False
def zLI (st : List zV) (K : Nat → Int → List zV → Prop) : Prop := match st with
  | .inl b :: .inr (.inl a) :: r => K a b r
  | _ => False
def zRf (st : List zV) (K : Nat → List zV → Prop) : Prop := match st with
  | .inr (.inr (some q)) :: r => K q r
  | _ => False
def zRI (st : List zV) (K : Nat → Int → List zV → Prop) : Prop := match st with
  | .inl i :: .inr (.inr (some q)) :: r => K q i r
  | _ => False
def zRII (st : List zV) (K : Nat → Int → Int → List zV → Prop) : Prop := match st with
  | .inl x :: .inl i :: .inr (.inr (some q)) :: r => K q i x r
  | _ => False
def zRIL (st : List zV) (K : Nat → Int → Nat → List zV → Prop) : Prop := match st with
  | .inr (.inl x) :: .inl i :: .inr (.inr (some q)) :: r => K q i x r
  | _ => False
def zgI (ls : List (Option zV)) (i : Nat) (K : Int → Prop) : Prop := match ls[i]? with
  | some (some (.inl x)) => K x
  | _ => False
def zgL (ls : List (Option zV)) (i : Nat) (K : Nat → Prop) : Prop := match ls[i]? with
  | some (some (.inr (.inl x))) => K x
  | _ => False
def zgR (ls : List (Option zV)) (i : Nat) (K : Option Nat → Prop) : Prop := match ls[i]? with
  | some (some (.inr (.inr x))) => K x
  | _ => False
def zif (b : Bool) (K : Prop) : Prop := match b with
  | true => K
  | false => False
theorem zI_inv {st : List zV} {K : Int → List zV → Prop} (h : zI st K) : ∃ a r, st = .inl a :: r ∧ K a r := by
  unfold zI at h; split at h
  · exact ⟨_, _, rfl, h⟩
  · cases h
theorem zI2_inv {st : List zV} {K : Int → Int → List zV → Prop} (h : zI2 st K) : ∃ a b r, st = .inl b :: .inl a :: r ∧ K a b r := by
  unfold zI2 at h; split at h
  · exact ⟨_, _, _, rfl, h⟩
  · cases h
theorem zL1_inv {st : List zV} {K : Nat → List zV → Prop} (h : zL1 st K) : ∃ a r, st = .inr (.inl a) :: r ∧ K a r := by
  unfold zL1 at h; split at h
  · exact ⟨_, _, rfl, h⟩
  · cases h
theorem zL2_inv {st : List zV} {K : Nat → Nat → List zV → Prop} (h : zL2 st K) : ∃ a b r, st = .inr (.inl b) :: .inr (.inl a) :: r ∧ K a b r := by
  unfold zL2 at h; split at h
  · exact ⟨_, _, _, rfl, h⟩
  · cases h
theorem zLI_inv {st : List zV} {K : Nat → Int → List zV → Prop} (h : zLI st K) : ∃ a b r, st = .inl b :: .inr (.inl a) :: r ∧ K a b r := by
  unfold zLI at h; split at h
  · exact ⟨_, _, _, rfl, h⟩
  · cases h
theorem zRf_inv {st : List zV} {K : Nat → List zV → Prop} (h : zRf st K) : ∃ q r, st = .inr (.inr (some q)) :: r ∧ K q r := by
  unfold zRf at h; split at h
  · exact ⟨_, _, rfl, h⟩
  · cases h
theorem zRI_inv {st : List zV} {K : Nat → Int → List zV → Prop} (h : zRI st K) : ∃ q i r, st = .inl i :: .inr (.inr (some q)) :: r ∧ K q i r := by
  unfold zRI at h; split at h
  · exact ⟨_, _, _, rfl, h⟩
  · cases h
theorem zRII_inv {st : List zV} {K : Nat → Int → Int → List zV → Prop} (h : zRII st K) : ∃ q i x r, st = .inl x :: .inl i :: .inr (.inr (some q)) :: r ∧ K q i x r := by
  unfold zRII at h; split at h
  · exact ⟨_, _, _, _, rfl, h⟩
  · cases h
theorem zRIL_inv {st : List zV} {K : Nat → Int → Nat → List zV → Prop} (h : zRIL st K) : ∃ q i x r, st = .inr (.inl x) :: .inl i :: .inr (.inr (some q)) :: r ∧ K q i x r := by
  unfold zRIL at h; split at h
  · exact ⟨_, _, _, _, rfl, h⟩
  · cases h
theorem zgI_inv {ls : List (Option zV)} {i : Nat} {K : Int → Prop} (h : zgI ls i K) : ∃ x, ls[i]? = some (some (.inl x)) ∧ K x := by
  unfold zgI at h; split at h
  · rename_i e; exact ⟨_, e, h⟩
  · cases h
theorem zgL_inv {ls : List (Option zV)} {i : Nat} {K : Nat → Prop} (h : zgL ls i K) : ∃ x, ls[i]? = some (some (.inr (.inl x))) ∧ K x := by
  unfold zgL at h; split at h
  · rename_i e; exact ⟨_, e, h⟩
  · cases h
theorem zgR_inv {ls : List (Option zV)} {i : Nat} {K : Option Nat → Prop} (h : zgR ls i K) : ∃ x, ls[i]? = some (some (.inr (.inr x))) ∧ K x := by
  unfold zgR at h; split at h
  · rename_i e; exact ⟨_, e, h⟩
  · cases h
theorem zif_inv {b : Bool} {K : Prop} (h : zif b K) : b = true ∧ K := by
  cases b with
  | true => exact ⟨rfl, h⟩
  | false => cases h
abbrev zK : Type := Nat → List (Option zV) → List zV → zFi → zFi → zJi → Prop
/-- a call: whatever it may come to leads on -/
def zCall (X : zX) (pc : Nat) (st : List zV) (F I : zFi) (J : zJi) (K : List zV → zFi → zFi → zJi → Prop) : Prop := ∀ ls, (∀ st' F' I' J', K st' F' I' J' → HW X (pc + 3) ls st' F' I' J') → HW X pc ls st F I J
def zstep (X : zX) (RT : zP) (i : Instr) (n pc : Nat) (ls : List (Option zV)) (st : List zV) (F I : zFi) (J : zJi) (k : zK) : Prop := match i with
  | .iconst v => k (pc + n) ls (.inl v :: st) F I J
  | .lconst v => k (pc + n) ls (.inr (.inl v.val) :: st) F I J
  | .ldc2_w v => k (pc + n) ls (.inr (.inl v) :: st) F I J
  | .iload i => zgI ls i fun x => k (pc + n) ls (.inl x :: st) F I J
  | .lload i => zgL ls i fun x => k (pc + n) ls (.inr (.inl x) :: st) F I J
  | .aload i => zgR ls i fun x => k (pc + n) ls (.inr (.inr x) :: st) F I J
  | .istore i => zif (Nat.blt i ls.length) (zI st fun a r => k (pc + n) (zst1 ls i (.inl a)) r F I J)
  | .lstore i => zif (Nat.blt (i + 1) ls.length) (zL1 st fun a r => k (pc + n) (zst2 ls i (.inr (.inl a))) r F I J)
  | .astore i => zif (Nat.blt i ls.length) (match st with
    | .inr (.inr x) :: r => k (pc + n) (zst1 ls i (.inr (.inr x))) r F I J
    | _ => False)
  | .iinc i c => zgI ls i fun x => k (pc + n) (zst1 ls i (.inl (x + c))) st F I J
  | .iadd => zI2 st fun a b r => k (pc + n) ls (.inl (a + b) :: r) F I J
  | .isub => zI2 st fun a b r => k (pc + n) ls (.inl (a - b) :: r) F I J
  | .imul => zI2 st fun a b r => k (pc + n) ls (.inl (a * b) :: r) F I J
  | .iand => zI2 st fun a b r => k (pc + n) ls (.inl (zand a b) :: r) F I J
  | .ior => zI2 st fun a b r => k (pc + n) ls (.inl (zor a b) :: r) F I J
  | .ixor => zI2 st fun a b r => k (pc + n) ls (.inl (zxor a b) :: r) F I J
  | .ishl => zI2 st fun a b r => k (pc + n) ls (.inl (zshl a b) :: r) F I J
  | .ishr => zI2 st fun a b r => k (pc + n) ls (.inl (zshr a b) :: r) F I J
  | .iushr => zI2 st fun a b r => k (pc + n) ls (.inl (zush a b) :: r) F I J
  | .idiv => zI2 st fun a b r => (¬ b % 4294967296 = 0) ∧ k (pc + n) ls (.inl (zdiv a b) :: r) F I J
  | .irem => zI2 st fun a b r => (¬ b % 4294967296 = 0) ∧ k (pc + n) ls (.inl (zrem a b) :: r) F I J
  | .ineg => zI st fun a r => k (pc + n) ls (.inl (-a) :: r) F I J
  | .ladd => zL2 st fun a b r => k (pc + n) ls (.inr (.inl (zladd a b)) :: r) F I J
  | .lsub => zL2 st fun a b r => k (pc + n) ls (.inr (.inl (zlsub a b)) :: r) F I J
  | .land => zL2 st fun a b r => k (pc + n) ls (.inr (.inl (zland a b)) :: r) F I J
  | .lor => zL2 st fun a b r => k (pc + n) ls (.inr (.inl (zlor a b)) :: r) F I J
  | .lxor => zL2 st fun a b r => k (pc + n) ls (.inr (.inl (zlxor a b)) :: r) F I J
  | .lneg => zL1 st fun a r => k (pc + n) ls (.inr (.inl (zlneg a)) :: r) F I J
  | .lshl => zLI st fun a b r => k (pc + n) ls (.inr (.inl (zlshl a b)) :: r) F I J
  | .lshr => zLI st fun a b r => k (pc + n) ls (.inr (.inl (zlshr a b)) :: r) F I J
  | .lushr => zLI st fun a b r => k (pc + n) ls (.inr (.inl (zlush a b)) :: r) F I J
  | .i2l => zI st fun a r => k (pc + n) ls (.inr (.inl (zi2l a)) :: r) F I J
  | .l2i => zL1 st fun a r => k (pc + n) ls (.inl (zl2i a) :: r) F I J
  | .lcmp => zL2 st fun a b r => k (pc + n) ls (.inl (zcmp a b) :: r) F I J
  | .dup => match st with
    | v :: r => zif (z1 v) (k (pc + n) ls (v :: v :: r) F I J)
    | _ => False
  | .pop => match st with
    | v :: r => zif (z1 v) (k (pc + n) ls r F I J)
    | _ => False
  | .dup2 => match st with
    | .inr (.inl a) :: r => k (pc + n) ls (.inr (.inl a) :: .inr (.inl a) :: r) F I J
    | v :: w :: r => zif (z1 v && z1 w) (k (pc + n) ls (v :: w :: v :: w :: r) F I J)
    | _ => False
  | .aconst_null => k (pc + n) ls (.inr (.inr none) :: st) F I J
  | .if_icmp .eq (.ofNat t) => zI2 st fun a b r => (a % 4294967296 = b % 4294967296 → k t ls r F I J) ∧ (¬ (a % 4294967296 = b % 4294967296) → k (pc + n) ls r F I J)
  | .if_icmp .ne (.ofNat t) => zI2 st fun a b r => (¬ a % 4294967296 = b % 4294967296 → k t ls r F I J) ∧ (a % 4294967296 = b % 4294967296 → k (pc + n) ls r F I J)
  | .if_icmp .lt (.ofNat t) => zI2 st fun a b r => ((a + 2147483648) % 4294967296 < (b + 2147483648) % 4294967296 → k t ls r F I J) ∧ (¬ ((a + 2147483648) % 4294967296 < (b + 2147483648) % 4294967296) → k (pc + n) ls r F I J)
  | .if_icmp .ge (.ofNat t) => zI2 st fun a b r => ((b + 2147483648) % 4294967296 ≤ (a + 2147483648) % 4294967296 → k t ls r F I J) ∧ (¬ ((b + 2147483648) % 4294967296 ≤ (a + 2147483648) % 4294967296) → k (pc + n) ls r F I J)
  | .if_icmp .gt (.ofNat t) => zI2 st fun a b r => ((b + 2147483648) % 4294967296 < (a + 2147483648) % 4294967296 → k t ls r F I J) ∧ (¬ ((b + 2147483648) % 4294967296 < (a + 2147483648) % 4294967296) → k (pc + n) ls r F I J)
  | .if_icmp .le (.ofNat t) => zI2 st fun a b r => ((a + 2147483648) % 4294967296 ≤ (b + 2147483648) % 4294967296 → k t ls r F I J) ∧ (¬ ((a + 2147483648) % 4294967296 ≤ (b + 2147483648) % 4294967296) → k (pc + n) ls r F I J)
  | .ifCond .eq (.ofNat t) => zI st fun a r => (a % 4294967296 = 0 → k t ls r F I J) ∧ (¬ (a % 4294967296 = 0) → k (pc + n) ls r F I J)
  | .ifCond .ne (.ofNat t) => zI st fun a r => (¬ a % 4294967296 = 0 → k t ls r F I J) ∧ (a % 4294967296 = 0 → k (pc + n) ls r F I J)
  | .ifCond .lt (.ofNat t) => zI st fun a r => ((a + 2147483648) % 4294967296 < 2147483648 → k t ls r F I J) ∧ (¬ ((a + 2147483648) % 4294967296 < 2147483648) → k (pc + n) ls r F I J)
  | .ifCond .ge (.ofNat t) => zI st fun a r => (2147483648 ≤ (a + 2147483648) % 4294967296 → k t ls r F I J) ∧ (¬ (2147483648 ≤ (a + 2147483648) % 4294967296) → k (pc + n) ls r F I J)
  | .ifCond .gt (.ofNat t) => zI st fun a r => (2147483648 < (a + 2147483648) % 4294967296 → k t ls r F I J) ∧ (¬ (2147483648 < (a + 2147483648) % 4294967296) → k (pc + n) ls r F I J)
  | .ifCond .le (.ofNat t) => zI st fun a r => ((a + 2147483648) % 4294967296 ≤ 2147483648 → k t ls r F I J) ∧ (¬ ((a + 2147483648) % 4294967296 ≤ 2147483648) → k (pc + n) ls r F I J)
  | .goto (.ofNat t) => k t ls st F I J
  | .ifnull (.ofNat t) => match st with
    | .inr (.inr none) :: r => k t ls r F I J
    | .inr (.inr (some _)) :: r => k (pc + n) ls r F I J
    | _ => False
  | .ifnonnull (.ofNat t) => match st with
    | .inr (.inr none) :: r => k (pc + n) ls r F I J
    | .inr (.inr (some _)) :: r => k t ls r F I J
    | _ => False
  | .invokeinterface ci j => zRf st fun q r => ∃ sl, xsh X q = some (.inl (ci, sl)) ∧ (match sl[j]? with
    | some none => k (pc + n) ls (.inl (F q j) :: r) F I J
    | some (some x) => k (pc + n) ls (.inr (.inr x) :: r) F I J
    | none => False)
  | .multianewarray ci j => match st with
    | .inl x :: .inr (.inr (some q)) :: r => ∃ sl, xsh X q = some (.inl (ci, sl)) ∧ (match sl[j]? with
      | some none => k (pc + n) ls r (zu F q j x) I J
      | _ => False)
    | _ => False
  | .putstatic e => match st with
    | .inl x :: .inr (.inr (some q)) :: r => ∃ sl, xsh X q = some (.inl (e / 64, sl)) ∧ (x = 0 ∨ x = 1) ∧ (match sl[e % 64]? with
      | some none => k (pc + n) ls r (zu F q (e % 64) x) I J
      | _ => False)
    | _ => False
  | .iaload => zRI st fun q i r => ∃ (cA : ClassId) (m j : Nat), xsh X q = some (.inr (.inl (cA, m))) ∧ i = (j : Int) ∧ j < m ∧ k (pc + n) ls (.inl (I q j) :: r) F I J
  | .laload => zRI st fun q i r => ∃ (cA : ClassId) (m j : Nat), xsh X q = some (.inr (.inr (.inl (cA, m)))) ∧ i = (j : Int) ∧ j < m ∧ k (pc + n) ls (.inr (.inl (J q j)) :: r) F I J
  | .aaload => zRI st fun q i r => ∃ (cA : ClassId) (E : String) (m : Nat) (f : Nat → Option Nat) (j : Nat), xsh X q = some (.inr (.inr (.inr (cA, E, m, f)))) ∧ i = (j : Int) ∧ j < m ∧ k (pc + n) ls (.inr (.inr (f j)) :: r) F I J
  | .arraylength => zRf st fun q r => ∃ t, xsh X q = some (.inr t) ∧ (match t with
    | .inl (_, m) => k (pc + n) ls (.inl (m : Int) :: r) F I J
    | .inr (.inl (_, m)) => k (pc + n) ls (.inl (m : Int) :: r) F I J
    | _ => False)
  | .iastore => zRII st fun q i x r => ∃ (cA : ClassId) (m j : Nat), xsh X q = some (.inr (.inl (cA, m))) ∧ i = (j : Int) ∧ j < m ∧ k (pc + n) ls r F (zu I q j x) J
  | .lastore => zRIL st fun q i x r => ∃ (cA : ClassId) (m j : Nat), xsh X q = some (.inr (.inr (.inl (cA, m)))) ∧ i = (j : Int) ∧ j < m ∧ k (pc + n) ls r F I (zw J q j x)
  | .invokevirtual _ => zCall X pc st F I J (fun st' F' I' J' => k (pc + 3) ls st' F' I' J')
  | .invokestatic _ => zCall X pc st F I J (fun st' F' I' J' => k (pc + 3) ls st' F' I' J')
  | .invokespecial _ => zCall X pc st F I J (fun st' F' I' J' => k (pc + 3) ls st' F' I' J')
  | .ireturn => match st with
    | [.inl x] => RT (some (.inl x)) F I J
    | _ => False
  | .dreturn => match st with
    | [.inl x] => (x = 0 ∨ x = 1) ∧ RT (some (.inl x)) F I J
    | _ => False
  | .lreturn => match st with
    | [.inr (.inl x)] => RT (some (.inr (.inl x))) F I J
    | _ => False
  | .areturn => match st with
    | [.inr (.inr x)] => RT (some (.inr (.inr x))) F I J
    | _ => False
  | .return_ => match st with
    | [] => RT none F I J
    | _ => False
  | _ => False
set_option maxHeartbeats 4000000 in
theorem zstep_ok {X : zX} {M : zM} {RT : zP} {i : Instr} {n aux pc : Nat} {ls : List (Option zV)} {st : List zV} {F I : zFi} {J : zJi} {k : zK} (hX : ZF X M) (hR : ZR X M RT) (hr : (pc, i, n, aux) ∈ M.2.1) (hk : ∀ pc ls st F I J, k pc ls st F I J → HW X pc ls st F I J) (h : zstep X RT i n pc ls st F I J k) : HW X pc ls st F I J := by
  unfold zstep at h
  split at h
  · exact hw_iconst hX hr (hk _ _ _ _ _ _ h)
  · exact hw_lconst hX hr (hk _ _ _ _ _ _ h)
  · exact hw_ldc2 hX hr (hk _ _ _ _ _ _ h)
  · obtain ⟨x, e, h⟩ := zgI_inv h
    exact hw_iload hX hr e (hk _ _ _ _ _ _ h)
  · obtain ⟨x, e, h⟩ := zgL_inv h
    exact hw_lload hX hr e (hk _ _ _ _ _ _ h)
  · obtain ⟨x, e, h⟩ := zgR_inv h
    exact hw_aload hX hr e (hk _ _ _ _ _ _ h)
  · obtain ⟨hb, h⟩ := zif_inv h
    obtain ⟨a, r, rfl, h⟩ := zI_inv h
    exact hw_istore hX hr (Nat.le_of_ble_eq_true hb) (hk _ _ _ _ _ _ h)
  · obtain ⟨hb, h⟩ := zif_inv h
    obtain ⟨a, r, rfl, h⟩ := zL1_inv h
    exact hw_lstore hX hr (Nat.le_of_ble_eq_true hb) (hk _ _ _ _ _ _ h)
  · obtain ⟨hb, h⟩ := zif_inv h
    split at h
    · exact hw_astore hX hr (Nat.le_of_ble_eq_true hb) (hk _ _ _ _ _ _ h)
    · cases h
  · obtain ⟨x, e, h⟩ := zgI_inv h
    exact hw_iinc hX hr e (hk _ _ _ _ _ _ h)
  · obtain ⟨a, b, r, rfl, h⟩ := zI2_inv h
    exact hw_iadd hX hr (hk _ _ _ _ _ _ h)
  · obtain ⟨a, b, r, rfl, h⟩ := zI2_inv h
    exact hw_isub hX hr (hk _ _ _ _ _ _ h)
  · obtain ⟨a, b, r, rfl, h⟩ := zI2_inv h
    exact hw_imul hX hr (hk _ _ _ _ _ _ h)
  · obtain ⟨a, b, r, rfl, h⟩ := zI2_inv h
    exact hw_iand hX hr (hk _ _ _ _ _ _ h)
  · obtain ⟨a, b, r, rfl, h⟩ := zI2_inv h
    exact hw_ior hX hr (hk _ _ _ _ _ _ h)
  · obtain ⟨a, b, r, rfl, h⟩ := zI2_inv h
    exact hw_ixor hX hr (hk _ _ _ _ _ _ h)
  · obtain ⟨a, b, r, rfl, h⟩ := zI2_inv h
    exact hw_ishl hX hr (hk _ _ _ _ _ _ h)
  · obtain ⟨a, b, r, rfl, h⟩ := zI2_inv h
    exact hw_ishr hX hr (hk _ _ _ _ _ _ h)
  · obtain ⟨a, b, r, rfl, h⟩ := zI2_inv h
    exact hw_iushr hX hr (hk _ _ _ _ _ _ h)
  · obtain ⟨a, b, r, rfl, hb, h⟩ := zI2_inv h
    exact hw_idiv hX hr hb (hk _ _ _ _ _ _ h)
  · obtain ⟨a, b, r, rfl, hb, h⟩ := zI2_inv h
    exact hw_irem hX hr hb (hk _ _ _ _ _ _ h)
  · obtain ⟨a, r, rfl, h⟩ := zI_inv h
    exact hw_ineg hX hr (hk _ _ _ _ _ _ h)
  · obtain ⟨a, b, r, rfl, h⟩ := zL2_inv h
    exact hw_ladd hX hr (hk _ _ _ _ _ _ h)
  · obtain ⟨a, b, r, rfl, h⟩ := zL2_inv h
    exact hw_lsub hX hr (hk _ _ _ _ _ _ h)
  · obtain ⟨a, b, r, rfl, h⟩ := zL2_inv h
    exact hw_land hX hr (hk _ _ _ _ _ _ h)
  · obtain ⟨a, b, r, rfl, h⟩ := zL2_inv h
    exact hw_lor hX hr (hk _ _ _ _ _ _ h)
  · obtain ⟨a, b, r, rfl, h⟩ := zL2_inv h
    exact hw_lxor hX hr (hk _ _ _ _ _ _ h)
  · obtain ⟨a, r, rfl, h⟩ := zL1_inv h
    exact hw_lneg hX hr (hk _ _ _ _ _ _ h)
  · obtain ⟨a, b, r, rfl, h⟩ := zLI_inv h
    exact hw_lshl hX hr (hk _ _ _ _ _ _ h)
  · obtain ⟨a, b, r, rfl, h⟩ := zLI_inv h
    exact hw_lshr hX hr (hk _ _ _ _ _ _ h)
  · obtain ⟨a, b, r, rfl, h⟩ := zLI_inv h
    exact hw_lushr hX hr (hk _ _ _ _ _ _ h)
  · obtain ⟨a, r, rfl, h⟩ := zI_inv h
    exact hw_i2l hX hr (hk _ _ _ _ _ _ h)
  · obtain ⟨a, r, rfl, h⟩ := zL1_inv h
    exact hw_l2i hX hr (hk _ _ _ _ _ _ h)
  · obtain ⟨a, b, r, rfl, h⟩ := zL2_inv h
    exact hw_lcmp hX hr (hk _ _ _ _ _ _ h)
  · split at h
    · obtain ⟨hb, h⟩ := zif_inv h
      exact hw_dup hX hr hb (hk _ _ _ _ _ _ h)
    · cases h
  · split at h
    · obtain ⟨hb, h⟩ := zif_inv h
      exact hw_pop hX hr hb (hk _ _ _ _ _ _ h)
    · cases h
  · split at h
    · exact hw_dup2l hX hr (hk _ _ _ _ _ _ h)
    · obtain ⟨hb, h⟩ := zif_inv h
      simp only [Bool.and_eq_true] at hb
      exact hw_dup2 hX hr hb.1 hb.2 (hk _ _ _ _ _ _ h)
    · cases h
  · exact hw_null hX hr (hk _ _ _ _ _ _ h)
  · obtain ⟨a, b, r, rfl, h⟩ := zI2_inv h
    exact hw_icmp_eq hX hr ⟨fun c => hk _ _ _ _ _ _ (h.1 c), fun c => hk _ _ _ _ _ _ (h.2 c)⟩
  · obtain ⟨a, b, r, rfl, h⟩ := zI2_inv h
    exact hw_icmp_ne hX hr ⟨fun c => hk _ _ _ _ _ _ (h.1 c), fun c => hk _ _ _ _ _ _ (h.2 c)⟩
  · obtain ⟨a, b, r, rfl, h⟩ := zI2_inv h
    exact hw_icmp_lt hX hr ⟨fun c => hk _ _ _ _ _ _ (h.1 c), fun c => hk _ _ _ _ _ _ (h.2 c)⟩
  · obtain ⟨a, b, r, rfl, h⟩ := zI2_inv h
    exact hw_icmp_ge hX hr ⟨fun c => hk _ _ _ _ _ _ (h.1 c), fun c => hk _ _ _ _ _ _ (h.2 c)⟩
  · obtain ⟨a, b, r, rfl, h⟩ := zI2_inv h
    exact hw_icmp_gt hX hr ⟨fun c => hk _ _ _ _ _ _ (h.1 c), fun c => hk _ _ _ _ _ _ (h.2 c)⟩
  · obtain ⟨a, b, r, rfl, h⟩ := zI2_inv h
    exact hw_icmp_le hX hr ⟨fun c => hk _ _ _ _ _ _ (h.1 c), fun c => hk _ _ _ _ _ _ (h.2 c)⟩
  · obtain ⟨a, r, rfl, h⟩ := zI_inv h
    exact hw_if_eq hX hr ⟨fun c => hk _ _ _ _ _ _ (h.1 c), fun c => hk _ _ _ _ _ _ (h.2 c)⟩
  · obtain ⟨a, r, rfl, h⟩ := zI_inv h
    exact hw_if_ne hX hr ⟨fun c => hk _ _ _ _ _ _ (h.1 c), fun c => hk _ _ _ _ _ _ (h.2 c)⟩
  · obtain ⟨a, r, rfl, h⟩ := zI_inv h
    exact hw_if_lt hX hr ⟨fun c => hk _ _ _ _ _ _ (h.1 c), fun c => hk _ _ _ _ _ _ (h.2 c)⟩
  · obtain ⟨a, r, rfl, h⟩ := zI_inv h
    exact hw_if_ge hX hr ⟨fun c => hk _ _ _ _ _ _ (h.1 c), fun c => hk _ _ _ _ _ _ (h.2 c)⟩
  · obtain ⟨a, r, rfl, h⟩ := zI_inv h
    exact hw_if_gt hX hr ⟨fun c => hk _ _ _ _ _ _ (h.1 c), fun c => hk _ _ _ _ _ _ (h.2 c)⟩
  · obtain ⟨a, r, rfl, h⟩ := zI_inv h
    exact hw_if_le hX hr ⟨fun c => hk _ _ _ _ _ _ (h.1 c), fun c => hk _ _ _ _ _ _ (h.2 c)⟩
  · exact hw_goto hX hr (hk _ _ _ _ _ _ h)
  · split at h
    · exact hw_ifnull_n hX hr (hk _ _ _ _ _ _ h)
    · exact hw_ifnull_s hX hr (hk _ _ _ _ _ _ h)
    · cases h
  · split at h
    · exact hw_ifnonnull_n hX hr (hk _ _ _ _ _ _ h)
    · exact hw_ifnonnull_s hX hr (hk _ _ _ _ _ _ h)
    · cases h
  · obtain ⟨q, r, rfl, sl, hq, h⟩ := zRf_inv h
    split at h
    · rename_i hs
      exact hw_getfield hX hr hq hs (hk _ _ _ _ _ _ h)
    · rename_i hs
      exact hw_getref hX hr hq hs (hk _ _ _ _ _ _ h)
    · cases h
  · split at h
    · obtain ⟨sl, hq, h⟩ := h
      split at h
      · rename_i hs
        exact hw_putfield hX hr hq hs (hk _ _ _ _ _ _ h)
      · cases h
    · cases h
  · split at h
    · obtain ⟨sl, hq, hx, h⟩ := h
      split at h
      · rename_i hs
        exact hw_putbool hX hr hx hq hs (hk _ _ _ _ _ _ h)
      · cases h
    · cases h
  · obtain ⟨q, i, r, rfl, cA, m, j, hq, hi, hj, h⟩ := zRI_inv h
    exact hw_iaload hX hr hq hi hj (hk _ _ _ _ _ _ h)
  · obtain ⟨q, i, r, rfl, cA, m, j, hq, hi, hj, h⟩ := zRI_inv h
    exact hw_laload hX hr hq hi hj (hk _ _ _ _ _ _ h)
  · obtain ⟨q, i, r, rfl, cA, E, m, f, j, hq, hi, hj, h⟩ := zRI_inv h
    exact hw_aaload hX hr hq hi hj (hk _ _ _ _ _ _ h)
  · obtain ⟨q, r, rfl, t, hq, h⟩ := zRf_inv h
    split at h
    · exact hw_ialen hX hr hq (hk _ _ _ _ _ _ h)
    · exact hw_jalen hX hr hq (hk _ _ _ _ _ _ h)
    · cases h
  · obtain ⟨q, i, x, r, rfl, cA, m, j, hq, hi, hj, h⟩ := zRII_inv h
    exact hw_iastore hX hr hq hi hj (hk _ _ _ _ _ _ h)
  · obtain ⟨q, i, x, r, rfl, cA, m, j, hq, hi, hj, h⟩ := zRIL_inv h
    exact hw_lastore hX hr hq hi hj (hk _ _ _ _ _ _ h)
  · exact h ls (fun st' F' I' J' z => hk _ _ _ _ _ _ z)
  · exact h ls (fun st' F' I' J' z => hk _ _ _ _ _ _ z)
  · exact h ls (fun st' F' I' J' z => hk _ _ _ _ _ _ z)
  · split at h
    · exact hR.1 _ _ _ _ _ _ _ _ hr h
    · cases h
  · split at h
    · exact hR.2.1 _ _ _ _ _ _ _ _ hr h.1 h.2
    · cases h
  · split at h
    · exact hR.2.2.1 _ _ _ _ _ _ _ _ hr h
    · cases h
  · split at h
    · exact hR.2.2.2.1 _ _ _ _ _ _ _ _ hr h
    · cases h
  · split at h
    · exact hR.2.2.2.2 _ _ _ _ _ _ _ hr h
    · cases h
  · cases h
def zat : List (Nat × Instr × Nat × Nat) → Nat → Option (Instr × Nat × Nat)
  | [], _ => none
  | (q, x) :: r, pc => match Nat.beq q pc with
    | true => some x
    | false => zat r pc
theorem zat_mem {tab : List (Nat × Instr × Nat × Nat)} {pc : Nat} {x : Instr × Nat × Nat} (h : zat tab pc = some x) : (pc, x) ∈ tab := by
  induction tab with
  | nil => cases h
  | cons a r ih =>
    obtain ⟨q, y⟩ := a
    unfold zat at h
    split at h
    · rename_i e
      cases h
      rw [Nat.eq_of_beq_eq_true e]
      exact List.mem_cons_self
    · exact List.mem_cons_of_mem _ (ih h)
/-- the walk, up to the stops; m instructions at most -/
def zwp (X : zX) (tab : List (Nat × Instr × Nat × Nat)) (RT : zP) (stop : Nat → Bool) : Nat → zK
  | 0 => HW X
  | m + 1 => fun pc ls st F I J => match stop pc with
    | true => HW X pc ls st F I J
    | false => match zat tab pc with
      | some (i, n, _) => zstep X RT i n pc ls st F I J (zwp X tab RT stop m)
      | none => False
theorem zwp_ok {X : zX} {M : zM} {RT : zP} {stop : Nat → Bool} (hX : ZF X M) (hR : ZR X M RT) : ∀ (m pc : Nat) (ls : List (Option zV)) (st : List zV) (F I : zFi) (J : zJi), zwp X M.2.1 RT stop m pc ls st F I J → HW X pc ls st F I J := by
  intro m
  induction m with
  | zero => intro pc ls st F I J h; exact h
  | succ m ih =>
    intro pc ls st F I J h
    unfold zwp at h
    split at h
    · exact h
    · split at h
      · rename_i i n aux he
        exact zstep_ok hX hR (zat_mem he) ih h
      · cases h
/-- the first step is taken, whether it is a stop or not -/
theorem zgo {X : zX} {M : zM} {RT : zP} (stop : Nat → Bool) (m : Nat) (hX : ZF X M) (hR : ZR X M RT) {pc : Nat} {ls : List (Option zV)} {st : List zV} {F I : zFi} {J : zJi} {i : Instr} {n aux : Nat} (he : zat M.2.1 pc = some (i, n, aux)) (h : zstep X RT i n pc ls st F I J (zwp X M.2.1 RT stop m)) : HW X pc ls st F I J :=
  zstep_ok hX hR (zat_mem he) (zwp_ok hX hR m) h
