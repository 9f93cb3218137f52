/-! the reference: reduces, keeps, comesGenerator, acted -/
/-- its kept rows: each begins at its lead; the later ones have nothing at the leads of those before -/
def rwR (I : zFi) (J : zJi) (C : Nat) (L : Nat → Nat) : Prop := (∀ r, r < C → I 76 r = (L r : Int) ∧ L r < 320 ∧ rq J 75 10 r (L r) = true ∧ ∀ j, j < r → rq J 75 10 r (L j) = false) ∧ ∀ j, J 75 j < 18446744073709551616
theorem rwR.ind {I : zFi} {J : zJi} {C : Nat} {L : Nat → Nat} (h : rwR I J C L) {v : Nat → Nat → Bool} (hv : ∀ r, r < C → ∀ p, p < 320 → v r p = rq J 75 10 r p) : Ind C v := by
  intro c hc
  have key : ∀ j, j < C → c j = false := by
    intro j
    induction j using Nat.strongRecOn with
    | ind j ih =>
      intro hj
      obtain ⟨-, h2, h3, h4⟩ := h.1 j hj
      have e := congrFun hc (L j)
      unfold vc v0 at e
      rw [xs_one hj _ (fun i hi hne => ?_)] at e
      · rw [hv j hj _ h2, h3, Bool.and_true] at e
        exact e
      · rcases Nat.lt_or_ge i j with g | g
        · rw [ih i g hi, Bool.false_and]
        · rw [hv i hi _ h2, (h.1 i hi).2.2.2 j (by omega), Bool.and_false]
  exact key
/-- rows have been added to the one in hand -/
def rdM (cf : Nat → Bool) (J J' : zJi) (C : Nat) : Prop := (∀ a, a ≠ 77 → J' a = J a) ∧ (∀ j, J' 77 j < 18446744073709551616) ∧ ∀ p, rq J' 77 10 0 p = (rq J 77 10 0 p ^^ vc C cf (rq J 75 10) p)
/-- words k .. 9 of a row still to be added -/
def rda (J : zJi) (r k : Nat) : zJi := fun a b => if a = 77 ∧ b < k then J 77 b ^^^ J 75 (10 * r + b) else J a b
theorem rda_10 {J : zJi} {r : Nat} (p : Nat) : rq (rda J r 10) 77 10 0 p = (rq J 77 10 0 p ^^ rq J 75 10 r p) := by
  by_cases hp : p < 64 * 10
  · rw [rq_in hp, rq_in hp, rq_in hp]
    unfold rda
    rw [if_pos ⟨rfl, by omega⟩, Nat.testBit_xor, show 0 * 10 + p / 64 = p / 64 by omega, show 10 * r + p / 64 = r * 10 + p / 64 by omega]
  · rw [rq_out (by omega), rq_out (by omega), rq_out (by omega)]
    rfl
theorem c_X9_reduces (l : Launch) (D : va_G) (sh : Nat → Option zS) (hs : zWM sh) (F I : zFi) (J : zJi) {C : Nat} {L : Nat → Nat} (hC : F 60 22 = (C : Int)) (hC4 : C ≤ 400) (hR : rwR I J C L) (hJ : ∀ j, J 77 j < 18446744073709551616) :
    Cn l D yX9_reduces wsX9_reduces mX9_reduces.2.2.2.2 sh [.inr (.inr (some 60))] F I J (fun v F' I' J' => F' = F ∧ I' = I ∧ ∃ cf x, v = some (.inl x) ∧ rdM cf J J' C ∧ (∀ j, j < C → rq J' 77 10 0 (L j) = false) ∧ ldR J' x) := by
  obtain ⟨cA, h76⟩ := hs.a76
  obtain ⟨cB, h77⟩ := hs.a77
  obtain ⟨cD, h75⟩ := hs.a75
  refine zmet (M := mX9_reduces) rfl rfl rfl kX9_reduces (Nat.le_of_ble_eq_true rfl) (fun X hX hR' hl hD hsh => ?_)
  subst hl hD hsh
  have loop : ∀ m r, r + m = C → ∀ J1 cf l2 l3, (∀ a, a ≠ 77 → J1 a = J a) → (∀ j, J1 77 j < 18446744073709551616) → (∀ p, rq J1 77 10 0 p = (rq J 77 10 0 p ^^ vc r cf (rq J 75 10) p)) → (∀ j, j < r → rq J1 77 10 0 (L j) = false) →
      HW X 2 [some (.inr (.inr (some 60))), some (.inl (r : Int)), l2, l3] [] F I J1 := by
    intro m
    induction m with
    | zero =>
      intro r hr J1 cf l2 l3 h1 h2 h3 h4
      have hrC : r = C := by omega
      refine zgo (fun pc => Nat.beq pc 2) 200 hX hR' rfl ?_
      refine Exists.intro _ ⟨hs.o, ?_⟩
      rw [hC]
      refine And.intro (fun c1 => ?_) (fun c1 => by omega)
      refine qX9_reduces_184 hX (c_X9_lead (xl X) (xD X) (xsh X) hs F I J1 h2) hs.o (fun v F' I' J' hv => ?_)
      obtain ⟨rfl, rfl, rfl, x, rfl, hx⟩ := hv
      exact And.intro rfl ⟨rfl, cf, x, rfl, ⟨h1, h2, by rw [← hrC]; exact h3⟩, by rw [← hrC]; exact h4, hx⟩
    | succ m ih =>
      intro r hr J1 cf l2 l3 h1 h2 h3 h4
      have hrC : r < C := by omega
      obtain ⟨r1, r2, r3, r4⟩ := hR.1 r hrC
      have e1 := zshr6 (p := L r) (by omega)
      have e2 := zand63 (p := L r) (by omega)
      have hb := zlbit (x := J1 77 (L r / 64)) (k := L r % 64) (h2 _) (Nat.mod_lt _ (by decide))
      have hrq : rq J1 77 10 0 (L r) = (J1 77 (L r / 64)).testBit (L r % 64) := by
        rw [rq_in (by omega), show 0 * 10 + L r / 64 = L r / 64 by omega]
      rw [← e2, ← hrq] at hb
      have J75 : J1 75 = J 75 := h1 75 (by decide)
      refine zgo (fun pc => Nat.beq pc 2 || Nat.beq pc 40) 200 hX hR' rfl ?_
      refine Exists.intro _ ⟨hs.o, ?_⟩
      rw [hC]
      refine And.intro (fun c1 => by omega) (fun c1 => ?_)
      refine Exists.intro _ ⟨hs.o, ?_⟩
      refine Exists.intro _ ⟨_, r, h76, rfl, by omega, ?_⟩
      rw [r1]
      refine Exists.intro _ ⟨hs.o, ?_⟩
      refine Exists.intro _ ⟨_, L r / 64, h77, e1, by omega, ?_⟩
      cases hbit : rq J1 77 10 0 (L r)
      · rw [hbit, if_neg (by decide)] at hb
        refine And.intro (fun c2 => ?_) (fun c2 => absurd ((zcmp_eq (a := 0) (b := 1) (by decide) (by decide)).mp (Eq.mp (congrArg (fun y => zcmp y 1 % 4294967296 = 0) hb) c2)) (by decide))
        refine ih (r + 1) (by omega) J1 (fun i => if i = r then false else cf i) _ _ h1 h2 (fun p => ?_) (fun j hj => ?_)
        · rw [h3 p, vc_ext (if_pos rfl)]
          congr 1
          exact congrFun (vc_congr (fun i hi => by rw [if_neg (by omega)]) (fun _ _ => rfl)) p
        · by_cases e : j = r
          · rw [e]; exact hbit
          · exact h4 j (by omega)
      · rw [hbit, if_pos rfl] at hb
        refine And.intro (fun c2 => absurd (Eq.mpr (congrArg (fun y => zcmp y 1 % 4294967296 = 0) hb) ((zcmp_eq (a := 1) (b := 1) (by decide) (by decide)).mpr rfl)) c2) (fun c2 => ?_)
        have inner : ∀ m2 k : Nat, k + m2 = 10 → HW X 40 [some (.inr (.inr (some 60))), some (.inl (r : Int)), some (.inl (L r : Int)), some (.inl (k : Int))] [] F I (rda J1 r k) := by
          intro m2
          induction m2 with
          | zero =>
            intro k hk
            have hk10 : k = 10 := by omega
            subst hk10
            refine zgo (fun pc => Nat.beq pc 2 || Nat.beq pc 40) 200 hX hR' rfl ?_
            refine And.intro (fun c3 => ?_) (fun c3 => by omega)
            refine ih (r + 1) (by omega) (rda J1 r 10) (fun i => if i = r then true else cf i) _ _ (fun a ha => ?_) (fun j => ?_) (fun p => ?_) (fun j hj => ?_)
            · rw [← h1 a ha]
              funext b
              unfold rda
              rw [if_neg (fun z => ha z.1)]
            · unfold rda
              split
              · rw [J75]
                exact Nat.xor_lt_two_pow (n := 64) (h2 _) (hR.2 _)
              · exact h2 j
            · rw [rda_10, h3 p, rq_of J75, Bool.xor_assoc]
              congr 1
              rw [vc_succ]
              unfold vx
              dsimp only
              rw [if_pos rfl, Bool.true_and]
              congr 1
              exact congrFun (vc_congr (fun i hi => by rw [if_neg (by omega)]) (fun _ _ => rfl)) p
            · rw [rda_10, rq_of J75]
              by_cases e : j = r
              · rw [e, hbit, r3]
                rfl
              · rw [h4 j (by omega), r4 j (by omega)]
                rfl
          | succ m2 ih2 =>
            intro k hk
            have h5 := ih2 (k + 1) (by omega)
            refine zgo (fun pc => Nat.beq pc 2 || Nat.beq pc 40) 200 hX hR' rfl ?_
            refine And.intro (fun c3 => by omega) (fun c3 => ?_)
            refine Exists.intro _ ⟨hs.o, ?_⟩
            refine Exists.intro _ ⟨_, k, h77, rfl, by omega, ?_⟩
            refine Exists.intro _ ⟨hs.o, ?_⟩
            refine Exists.intro _ ⟨_, 10 * r + k, h75, by omega, by omega, ?_⟩
            refine Exists.intro _ ⟨_, k, h77, rfl, by omega, ?_⟩
            have e3 : zw (rda J1 r k) 77 k (zlxor (rda J1 r k 77 k) (rda J1 r k 75 (10 * r + k))) = rda J1 r (k + 1) := by
              rw [show rda J1 r k 77 k = J1 77 k from if_neg (by omega), show rda J1 r k 75 (10 * r + k) = J1 75 (10 * r + k) from if_neg (by omega), zlxor_eq (h2 _) (by rw [J75]; exact hR.2 _)]
              funext a b
              unfold zw rda
              by_cases g1 : a = 77 ∧ b = k
              · rw [if_pos g1, if_pos ⟨g1.1, by omega⟩, g1.2]
              · rw [if_neg g1]
                by_cases g2 : a = 77 ∧ b < k
                · rw [if_pos g2, if_pos ⟨g2.1, by omega⟩]
                · rw [if_neg g2, if_neg (by omega)]
            rw [← e3] at h5
            exact h5
        have e0 : rda J1 r 0 = J1 := by
          funext a b
          unfold rda
          rw [if_neg (by omega)]
        have h6 := inner 10 0 (by decide)
        rw [e0] at h6
        exact h6
  refine zgo (fun pc => Nat.beq pc 2) 200 hX hR' rfl ?_
  refine loop C 0 (by omega) J (fun _ => false) none none (fun _ _ => rfl) hJ (fun p => ?_) (fun j hj => by omega)
  rw [show vc 0 (fun _ => false) (rq J 75 10) p = false from rfl, Bool.xor_false]
/-- the row in hand kept as row C -/
def kpR (J : zJi) (C k : Nat) : zJi := fun a b => if a = 75 ∧ 10 * C ≤ b ∧ b < 10 * C + k then J 77 (b - 10 * C) else J a b
theorem c_X9_keeps (l : Launch) (D : va_G) (sh : Nat → Option zS) (hs : zWM sh) (F I : zFi) (J : zJi) {C : Nat} (hC : F 60 22 = (C : Int)) (hC4 : C < 400) {x : Int} :
    Cn l D yX9_keeps wsX9_keeps mX9_keeps.2.2.2.2 sh [.inr (.inr (some 60)), .inl x] F I J (fun v F' I' J' => v = none ∧ F' = zu F 60 22 ((C : Int) + 1) ∧ I' = zu I 76 C x ∧ J' = kpR J C 10) := by
  obtain ⟨cA, h76⟩ := hs.a76
  obtain ⟨cB, h77⟩ := hs.a77
  obtain ⟨cD, h75⟩ := hs.a75
  refine zmet (M := mX9_keeps) rfl rfl rfl kX9_keeps (Nat.le_of_ble_eq_true rfl) (fun X hX hR' hl hD hsh => ?_)
  subst hl hD hsh
  have loop : ∀ m k : Nat, k + m = 10 → HW X 2 [some (.inr (.inr (some 60))), some (.inl x), some (.inl (k : Int))] [] F I (kpR J C k) := by
    intro m
    induction m with
    | zero =>
      intro k hk
      refine zgo (fun pc => Nat.beq pc 2) 200 hX hR' rfl ?_
      refine And.intro (fun c1 => ?_) (fun c1 => by omega)
      refine Exists.intro _ ⟨hs.o, ?_⟩
      refine Exists.intro _ ⟨hs.o, ?_⟩
      refine Exists.intro _ ⟨_, C, h76, hC, by omega, ?_⟩
      refine Exists.intro _ ⟨hs.o, ?_⟩
      refine Exists.intro _ ⟨hs.o, ?_⟩
      exact And.intro rfl ⟨by rw [hC], rfl, by rw [show k = 10 by omega]⟩
    | succ m ih =>
      intro k hk
      have h := ih (k + 1) (by omega)
      refine zgo (fun pc => Nat.beq pc 2) 200 hX hR' rfl ?_
      refine And.intro (fun c1 => by omega) (fun c1 => ?_)
      refine Exists.intro _ ⟨hs.o, ?_⟩
      refine Exists.intro _ ⟨hs.o, ?_⟩
      refine Exists.intro _ ⟨hs.o, ?_⟩
      refine Exists.intro _ ⟨_, k, h77, rfl, by omega, ?_⟩
      refine Exists.intro _ ⟨_, 10 * C + k, h75, by rw [hC]; omega, by omega, ?_⟩
      have e3 : zw (kpR J C k) 75 (10 * C + k) (kpR J C k 77 k) = kpR J C (k + 1) := by
        rw [show kpR J C k 77 k = J 77 k from if_neg (by omega)]
        funext a b
        unfold zw kpR
        by_cases g1 : a = 75 ∧ b = 10 * C + k
        · rw [if_pos g1, if_pos ⟨g1.1, by omega, by omega⟩, g1.2, show 10 * C + k - 10 * C = k by omega]
        · rw [if_neg g1]
          by_cases g2 : a = 75 ∧ 10 * C ≤ b ∧ b < 10 * C + k
          · rw [if_pos g2, if_pos ⟨g2.1, by omega, by omega⟩]
          · rw [if_neg g2, if_neg (by omega)]
      rw [← e3] at h
      exact h
  have h0 := loop 10 0 (by decide)
  rw [show kpR J C 0 = J by funext a b; unfold kpR; rw [if_neg (by omega)]] at h0
  refine zgo (fun pc => Nat.beq pc 2) 200 hX hR' rfl ?_
  exact h0
theorem kpR_new {J : zJi} {C : Nat} (p : Nat) : rq (kpR J C 10) 75 10 C p = rq J 77 10 0 p := by
  by_cases hp : p < 64 * 10
  · rw [rq_in hp, rq_in hp]
    unfold kpR
    rw [if_pos ⟨rfl, by omega, by omega⟩, show C * 10 + p / 64 - 10 * C = 0 * 10 + p / 64 by omega]
  · rw [rq_out (by omega), rq_out (by omega)]
theorem kpR_old {J : zJi} {C i : Nat} (hi : i ≠ C) (p : Nat) : rq (kpR J C 10) 75 10 i p = rq J 75 10 i p := by
  by_cases hp : p < 64 * 10
  · rw [rq_in hp, rq_in hp]
    unfold kpR
    rw [if_neg (by omega)]
  · rw [rq_out (by omega), rq_out (by omega)]
theorem kpR_r {J : zJi} {C k a : Nat} (h : a ≠ 75) : kpR J C k a = J a := by
  funext b
  unfold kpR
  rw [if_neg (fun z => h z.1)]
theorem c_X9_comesGenerator (l : Launch) (D : va_G) (sh : Nat → Option zS) (hs : zWM sh) (F I : zFi) (J : zJi) {s g : Nat} (hs6 : s < 6) (hg : I 71 s = (g : Int)) (hg2 : g < 100) {t : Int} :
    Cn l D yX9_comesGenerator wsX9_comesGenerator mX9_comesGenerator.2.2.2.2 sh [.inr (.inr (some 60)), .inl (s : Int), .inl t] F I J (fun v F' I' J' => v = none ∧ F' = F ∧ I' = zu (zu I 72 (100 * s + g) t) 71 s ((g : Int) + 1) ∧ J' = J) := by
  obtain ⟨cA, h71⟩ := hs.a71
  obtain ⟨cB, h72⟩ := hs.a72
  refine zmet (M := mX9_comesGenerator) rfl rfl rfl kX9_comesGenerator (Nat.le_of_ble_eq_true rfl) (fun X hX hR' hl hD hsh => ?_)
  subst hl hD hsh
  refine zgo (fun _ => false) 200 hX hR' rfl ?_
  refine Exists.intro _ ⟨hs.o, ?_⟩
  refine Exists.intro _ ⟨_, s, h71, rfl, by omega, ?_⟩
  rw [hg]
  refine Exists.intro _ ⟨hs.o, ?_⟩
  refine Exists.intro _ ⟨_, 100 * s + g, h72, by omega, by omega, ?_⟩
  refine Exists.intro _ ⟨hs.o, ?_⟩
  refine Exists.intro _ ⟨_, s, h71, rfl, by omega, ?_⟩
  refine Exists.intro _ ⟨_, s, h71, rfl, by omega, ?_⟩
  exact And.intro rfl ⟨rfl, by rw [zu_r (by decide), hg], rfl⟩
/-- the reference's space in memory -/
def RSp (F I : zFi) (n : Nat) (A : Nat → Nat → Nat) (de : Nat → Nat) : Prop := F 60 10 = (n : Int) ∧ n ≤ 12 ∧ (∀ e, e < n → I 69 e = (de e : Int) ∧ de e ≤ 12) ∧ ∀ e i, e < n → 1 ≤ i → i ≤ 12 → I 70 (13 * e + i) = (A i e : Int) ∧ A i e < 4096
theorem c_X9_acted (l : Launch) (D : va_G) (sh : Nat → Option zS) (hs : zWM sh) (F I : zFi) (J : zJi) {n : Nat} {A : Nat → Nat → Nat} {de : Nat → Nat} (hm : RSp F I n A de) (hz : ∀ i e, 12 < i → e < n → A i e = 0) {i x : Nat} (hi : i ≤ 100) (hx : x < 4096) :
    Cn l D yX9_acted wsX9_acted mX9_acted.2.2.2.2 sh [.inr (.inr (some 60)), .inl (i : Int), .inl (x : Int)] F I J (zself F I J (.inl (sap A n i x : Int))) := by
  obtain ⟨cA, h70⟩ := hs.a70
  obtain ⟨m1, m2, m3, m4⟩ := hm
  refine zmet (M := mX9_acted) rfl rfl rfl kX9_acted (Nat.le_of_ble_eq_true rfl) (fun X hX hR' hl hD hsh => ?_)
  subst hl hD hsh
  have hxl : ∀ k, k ≤ n → xorN k (fun e => if x.testBit e then A i e else 0) < 4096 ∨ i = 0 := fun k hk => by
    by_cases h0 : i = 0
    · exact Or.inr h0
    · refine Or.inl (xorN_lt (m := 12) (fun e he => ?_))
      split
      · by_cases h12 : i ≤ 12
        · exact (m4 e i (by omega) (by omega) h12).2
        · rw [hz i e (by omega) (by omega)]
          decide
      · decide
  have loop : i ≠ 0 → ∀ m k : Nat, k + m = n → HW X 11 [some (.inr (.inr (some 60))), some (.inl (i : Int)), some (.inl (x : Int)), some (.inl (xorN k (fun e => if x.testBit e then A i e else 0) : Int)), some (.inl (k : Int))] [] F I J := by
    intro h0 m
    induction m with
    | zero =>
      intro k hk
      refine zgo (fun pc => Nat.beq pc 11) 200 hX hR' rfl ?_
      refine Exists.intro _ ⟨hs.o, ?_⟩
      rw [show F 60 10 = (n : Int) from m1]
      refine And.intro (fun c1 => ?_) (fun c1 => by omega)
      exact And.intro (by unfold sap; rw [if_neg h0, show k = n by omega]) ⟨rfl, rfl, rfl⟩
    | succ m ih =>
      intro k hk
      have h := ih (k + 1) (by omega)
      rw [show ∀ f, xorN (k + 1) f = xorN k f ^^^ f k from fun _ => rfl] at h
      have hb := zbit (x := x) (e := k) (by omega) (by omega)
      have hlt : xorN k (fun e => if x.testBit e then A i e else 0) < 4096 := (hxl k (by omega)).resolve_right h0
      refine zgo (fun pc => Nat.beq pc 11) 200 hX hR' rfl ?_
      refine Exists.intro _ ⟨hs.o, ?_⟩
      rw [show F 60 10 = (n : Int) from m1]
      refine And.intro (fun c1 => by omega) (fun c1 => ?_)
      refine And.intro (fun c2 => ?_) (fun c2 => ?_)
      · -- nothing beyond 12
        have hzk : ∀ k, k ≤ n → xorN k (fun e => if x.testBit e then A i e else 0) = 0 := fun k hk => by
          apply Nat.eq_of_testBit_eq
          intro q
          rw [xorN_bit, Nat.zero_testBit]
          refine xs_zero' fun e he => ?_
          rw [hz i e (by omega) (by omega)]
          split <;> exact Nat.zero_testBit q
        refine And.intro ?_ ⟨rfl, rfl, rfl⟩
        unfold sap
        rw [if_neg h0, hzk k (by omega), hzk n (Nat.le_refl n)]
      · cases hxb : x.testBit k
        · rw [hxb, if_neg (by decide)] at h hb
          have hx0 := zxor_eq (a := xorN k (fun e => if x.testBit e then A i e else 0)) (b := 0) (by omega) (by decide)
          rw [← hx0] at h
          refine And.intro (fun c3 => ?_) (fun c3 => ?_)
          · exact h
          · rw [hb] at c3
            exact absurd c3 (by decide)
        · rw [hxb, if_pos rfl] at h hb
          refine And.intro (fun c3 => by rw [hb] at c3; exact absurd (by decide) c3) (fun c3 => ?_)
          obtain ⟨a1, a2⟩ := m4 k i (by omega) (by omega) (by omega)
          rw [← zxor_eq (by omega) (by omega), ← a1] at h
          refine Exists.intro _ ⟨hs.o, ?_⟩
          refine Exists.intro _ ⟨_, 13 * k + i, h70, by omega, by omega, ?_⟩
          exact h
  refine zgo (fun pc => Nat.beq pc 11) 200 hX hR' rfl ?_
  refine And.intro (fun c1 => ?_) (fun c1 => ?_)
  · exact loop (by omega) n 0 (by omega)
  · exact And.intro (by unfold sap; rw [if_pos (by omega)]) ⟨rfl, rfl, rfl⟩
