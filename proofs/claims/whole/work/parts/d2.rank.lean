/-! the reference: rankOf -/
def sw (y : Nat → Nat) (r a j : Nat) : Nat := if j = r then y a else if j = a then y r else y j
def gk (y : Nat → Nat) (r a col j : Nat) : Nat := if r < j ∧ (sw y r a j).testBit col = true then sw y r a j ^^^ y a else sw y r a j
/-- rows of numbers, r of them done, columns below col done -/
def GI (x : Nat → Nat) (n col r : Nat) (y : Nat → Nat) : Prop :=
  r ≤ n ∧ (∀ j, j < n → y j < 4096) ∧ (∀ j, j < n → Spn n (fun i => tbs (x i)) (tbs (y j))) ∧ (∀ j, j < n → Spn n (fun i => tbs (y i)) (tbs (x j))) ∧
  (∀ j, r ≤ j → j < n → ∀ q, q < col → (y j).testBit q = false) ∧ ∃ p : Nat → Nat, ∀ i, i < r → (y i).testBit (p i) = true ∧ p i < col ∧ ∀ j, i < j → j < n → (y j).testBit (p i) = false
theorem gi_skip {x : Nat → Nat} {n col r : Nat} {y : Nat → Nat} (h : GI x n col r y) (h0 : ∀ j, r ≤ j → j < n → (y j).testBit col = false) : GI x n (col + 1) r y := by
  obtain ⟨h1, h2, h3, h4, h5, p, h6⟩ := h
  refine ⟨h1, h2, h3, h4, fun j a b q hq => ?_, p, fun i hi => ⟨(h6 i hi).1, by have := (h6 i hi).2.1; omega, (h6 i hi).2.2⟩⟩
  by_cases e : q = col
  · rw [e]; exact h0 j a b
  · exact h5 j a b q (by omega)
theorem sw_cases (y : Nat → Nat) {r a n j : Nat} (ha : a < n) (hr : r ≤ a) (hj : j < n) : ∃ i, i < n ∧ sw y r a j = y i ∧ (r ≤ j → r ≤ i) ∧ (j < r → i = j) := by
  unfold sw
  by_cases e : j = r
  · exact ⟨a, ha, by rw [if_pos e], fun _ => hr, fun z => by omega⟩
  · rw [if_neg e]
    by_cases e2 : j = a
    · exact ⟨r, by omega, by rw [if_pos e2], fun _ => Nat.le_refl _, fun z => by omega⟩
    · exact ⟨j, hj, by rw [if_neg e2], fun z => z, fun _ => rfl⟩
theorem gi_step {x : Nat → Nat} {n col r a : Nat} {y : Nat → Nat} (h : GI x n col r y) (hr : r ≤ a) (ha : a < n) (hb : (y a).testBit col = true) (h0 : ∀ j, r ≤ j → j < a → (y j).testBit col = false) : GI x n (col + 1) (r + 1) (gk y r a col) := by
  obtain ⟨h1, h2, h3, h4, h5, p, h6⟩ := h
  have hg : ∀ j, gk y r a col j = sw y r a j ∨ (r < j ∧ gk y r a col j = sw y r a j ^^^ y a) := fun j => by
    unfold gk
    split
    · rename_i z; exact Or.inr ⟨z.1, rfl⟩
    · exact Or.inl rfl
  have hgr : gk y r a col r = y a := by
    unfold gk
    rw [if_neg (fun z => by omega)]
    unfold sw
    rw [if_pos rfl]
  have hcol : ∀ j, r < j → (gk y r a col j).testBit col = false := fun j hj => by
    unfold gk
    cases hz : (sw y r a j).testBit col
    · rw [if_neg (fun z => by cases z.2)]
      exact hz
    · rw [if_pos ⟨hj, rfl⟩, Nat.testBit_xor, hz, hb]
      rfl
  have hlow : ∀ j, j < n → ∀ q, (y a).testBit q = false → (sw y r a j).testBit q = false → (gk y r a col j).testBit q = false := fun j _ q e1 e2 => by
    rcases hg j with e | ⟨-, e⟩
    · rw [e]; exact e2
    · rw [e, Nat.testBit_xor, e1, e2]; rfl
  refine ⟨by omega, fun j hj => ?_, fun j hj => ?_, fun j hj => ?_, fun j hj1 hj q hq => ?_, fun i => if i = r then col else p i, fun i hi => ?_⟩
  · obtain ⟨i, i1, i2, -⟩ := sw_cases y ha hr hj
    rcases hg j with e | ⟨-, e⟩
    · rw [e, i2]; exact h2 i i1
    · rw [e, i2]; exact Nat.xor_lt_two_pow (n := 12) (h2 i i1) (h2 a ha)
  · obtain ⟨i, i1, i2, -⟩ := sw_cases y ha hr hj
    rcases hg j with e | ⟨-, e⟩
    · rw [e, i2]; exact h3 i i1
    · rw [e, i2, tbs_xor]; exact spn_add (h3 i i1) (h3 a ha)
  · -- the old rows lie in the new ones
    refine spn_trans (h4 j hj) (fun k hk => ?_)
    have hsw : ∀ m, m < n → Spn n (fun i => tbs (gk y r a col i)) (tbs (sw y r a m)) := fun m hm => by
      have hself := spn_mem hm (fun i => tbs (gk y r a col i))
      rcases hg m with e | ⟨-, e⟩
      · rw [← e]; exact hself
      · have hra := spn_mem (show r < n by omega) (fun i => tbs (gk y r a col i))
        have := spn_add hself hra
        rw [show vx (tbs (gk y r a col m)) (tbs (gk y r a col r)) = tbs (sw y r a m) by
          rw [e, hgr, tbs_xor]
          funext q
          show ((tbs (sw y r a m) q ^^ tbs (y a) q) ^^ tbs (y a) q) = tbs (sw y r a m) q
          rw [Bool.xor_assoc, Bool.xor_self, Bool.xor_false]] at this
        exact this
    by_cases e1 : k = a
    · have := hsw r (by omega)
      rw [show sw y r a r = y a from if_pos rfl] at this
      rw [e1]; exact this
    · by_cases e2 : k = r
      · have := hsw a ha
        rw [show sw y r a a = y r by unfold sw; rw [if_neg (by omega), if_pos rfl]] at this
        rw [e2]; exact this
      · have := hsw k hk
        rw [show sw y r a k = y k by unfold sw; rw [if_neg e2, if_neg e1]] at this
        exact this
  · by_cases e : q = col
    · rw [e]; exact hcol j (by omega)
    · obtain ⟨i, i1, i2, i3, -⟩ := sw_cases y ha hr hj
      exact hlow j hj q (h5 a hr ha q (by omega)) (by rw [i2]; exact h5 i (i3 (by omega)) i1 q (by omega))
  · dsimp only
    by_cases e : i = r
    · rw [if_pos e, e, hgr]
      exact ⟨hb, by omega, fun j hj _ => hcol j hj⟩
    · rw [if_neg e]
      obtain ⟨q1, q2, q3⟩ := h6 i (by omega)
      refine ⟨?_, by omega, fun j hj hjn => ?_⟩
      · obtain ⟨i', i1, i2, -, i4⟩ := sw_cases y ha hr (show i < n by omega)
        rcases hg i with e3 | ⟨z, -⟩
        · rw [e3, i2, i4 (by omega)]; exact q1
        · omega
      · obtain ⟨i', i1, i2, i3, i4⟩ := sw_cases y ha hr hjn
        refine hlow j hjn (p i) (q3 a (by omega) ha) (by
          rw [i2]
          rcases Nat.lt_or_ge j r with g | g
          · rw [i4 g]; exact q3 j hj hjn
          · have := i3 g
            exact q3 i' (by omega) i1)
theorem gi_end {x : Nat → Nat} {n r : Nat} {y : Nat → Nat} (h : GI x n 31 r y) : IsRk n (fun i => tbs (x i)) r := by
  obtain ⟨h1, h2, h3, h4, h5, p, h6⟩ := h
  have hz : ∀ j, r ≤ j → j < n → tbs (y j) = v0 := fun j a b => by
    funext q
    show (y j).testBit q = false
    by_cases hq : q < 31
    · exact h5 j a b q hq
    · exact tb_small (b := y j) (k := 12) (h2 j b) (by omega)
  refine ⟨fun i => tbs (y i), fun c hc => ?_, fun i hi => h3 i (by omega), fun j hj => ?_⟩
  · have key : ∀ j, j < r → c j = false := by
      intro j
      induction j using Nat.strongRecOn with
      | ind j ih =>
        intro hj
        have e := congrFun hc (p j)
        unfold vc v0 at e
        rw [xs_one hj _ (fun i hi hne => ?_)] at e
        · have e2 : (c j && tbs (y j) (p j)) = false := e
          rw [show tbs (y j) (p j) = true from (h6 j hj).1, Bool.and_true] at e2
          exact e2
        · show (c i && tbs (y i) (p j)) = false
          rcases Nat.lt_or_ge i j with g | g
          · rw [ih i g hi, Bool.false_and]
          · rw [show tbs (y i) (p j) = false from (h6 j hj).2.2 i (by omega) (by omega), Bool.and_false]
    exact key
  · refine spn_trans (h4 j hj) (fun k hk => ?_)
    rcases Nat.lt_or_ge k r with g | g
    · exact spn_mem g (fun i => tbs (y i))
    · rw [hz k g hk]
      exact spn_v0 _ _
theorem gi_init {x : Nat → Nat} {n : Nat} (hx : ∀ j, j < n → x j < 4096) : GI x n 0 0 x := ⟨Nat.zero_le _, hx, fun j hj => spn_mem hj (fun i => tbs (x i)), fun j hj => spn_mem hj (fun i => tbs (x i)), fun j _ _ q hq => by omega, fun _ => 0, fun i hi => by omega⟩
theorem c_X9_rankOf (l : Launch) (D : va_G) (sh : Nat → Option zS) (hs : zWM sh) (F I : zFi) (J : zJi) {n : Nat} (hn : n ≤ 100) {x : Nat → Nat} (hx : ∀ j, j < n → I 80 j = (x j : Int) ∧ x j < 4096) :
    Cn l D yX9_rankOf wsX9_rankOf mX9_rankOf.2.2.2.2 sh [.inr (.inr (some 60)), .inr (.inr (some 80)), .inl (n : Int)] F I J (fun v F' I' J' => F' = F ∧ J' = J ∧ (∀ a, a ≠ 80 → I' a = I a) ∧ ∃ r : Nat, v = some (.inl (r : Int)) ∧ IsRk n (fun i => tbs (x i)) r) := by
  obtain ⟨cA, h80⟩ := hs.a80
  refine zmet (M := mX9_rankOf) rfl rfl rfl kX9_rankOf (Nat.le_of_ble_eq_true rfl) (fun X hX hR hl hD hsh => ?_)
  subst hl hD hsh
  have loopC : ∀ m col : Nat, col + m = 31 → ∀ (r : Nat) (y : Nat → Nat) (I1 : zFi) l5 l6 l7, GI x n col r y → (∀ a, a ≠ 80 → I1 a = I a) → (∀ j, j < n → I1 80 j = (y j : Int)) → HW X 5 [some (.inr (.inr (some 60))), some (.inr (.inr (some 80))), some (.inl (n : Int)), some (.inl (r : Int)), some (.inl (col : Int)), l5, l6, l7] [] F I1 J := by
    intro m
    induction m with
    | zero =>
      intro col hc r y I1 l5 l6 l7 hg hI hy
      have hc' : col = 31 := by omega
      subst hc'
      refine zgo (fun pc => Nat.beq pc 5) 200 hX hR rfl ?_
      refine And.intro (fun c1 => ?_) (fun c1 => absurd (by decide) c1)
      exact And.intro rfl ⟨rfl, hI, r, rfl, gi_end hg⟩
    | succ m ihC =>
      intro col hc r y I1 l5 l6 l7 hg hI hy
      have hrn := hg.1
      have hyl := hg.2.1
      have loopA : ∀ q a : Nat, a + q = n → r ≤ a → (∀ j, r ≤ j → j < a → (y j).testBit col = false) → HW X 15 [some (.inr (.inr (some 60))), some (.inr (.inr (some 80))), some (.inl (n : Int)), some (.inl (r : Int)), some (.inl (col : Int)), some (.inl (a : Int)), l6, l7] [] F I1 J := by
        intro q
        induction q with
        | zero =>
          intro a ha hra h0
          have hC := ihC (col + 1) (by omega) r y I1 (some (.inl (a : Int))) l6 l7 (gi_skip hg (fun j a1 a2 => h0 j a1 (by omega))) hI hy
          refine zgo (fun pc => Nat.beq pc 5 || Nat.beq pc 15) 200 hX hR rfl ?_
          refine And.intro (fun c1 => ?_) (fun c1 => by omega)
          refine And.intro (fun c2 => ?_) (fun c2 => by omega)
          exact hC
        | succ q ihA =>
          intro a ha hra h0
          have ea := hy a (by omega)
          have hya := hyl a (by omega)
          have hb := zbit (x := y a) (e := col) (by omega) (by omega)
          cases hbit : (y a).testBit col
          · have h2 := ihA (a + 1) (by omega) (by omega) (fun j a1 a2 => by
              by_cases e : j = a
              · rw [e]; exact hbit
              · exact h0 j a1 (by omega))
            rw [hbit, if_neg (by decide)] at hb
            refine zgo (fun pc => Nat.beq pc 5 || Nat.beq pc 15) 200 hX hR rfl ?_
            refine And.intro (fun c1 => by omega) (fun c1 => ?_)
            refine Exists.intro _ ⟨_, a, h80, rfl, by omega, ?_⟩
            rw [ea]
            refine And.intro (fun c2 => by rw [hb] at c2; exact absurd rfl c2) (fun c2 => ?_)
            exact h2
          · rw [hbit, if_pos rfl] at hb
            have loopK : ∀ w k : Nat, k + w = n → r < k → ∀ I2 : zFi, (∀ a, a ≠ 80 → I2 a = I a) → (∀ j, j < n → I2 80 j = ((if j < k then gk y r a col j else sw y r a j : Nat) : Int)) → HW X 68 [some (.inr (.inr (some 60))), some (.inr (.inr (some 80))), some (.inl (n : Int)), some (.inl (r : Int)), some (.inl (col : Int)), some (.inl (a : Int)), some (.inl (y a : Int)), some (.inl (k : Int))] [] F I2 J := by
              intro w
              induction w with
              | zero =>
                intro k hk hrk I2 hI2 hy2
                have hC := ihC (col + 1) (by omega) (r + 1) (gk y r a col) I2 (some (.inl (a : Int))) (some (.inl (y a : Int))) (some (.inl (k : Int))) (gi_step hg hra (by omega) hbit h0) hI2 (fun j hj => by rw [hy2 j hj, if_pos (by omega)])
                refine zgo (fun pc => Nat.beq pc 5 || Nat.beq pc 68) 200 hX hR rfl ?_
                refine And.intro (fun c1 => ?_) (fun c1 => by omega)
                exact hC
              | succ w ihK =>
                intro k hk hrk I2 hI2 hy2
                have ek := hy2 k (by omega)
                rw [if_neg (by omega)] at ek
                obtain ⟨i, i1, i2, -⟩ := sw_cases y (n := n) (show a < n by omega) hra (show k < n by omega)
                have hsl : sw y r a k < 4096 := by rw [i2]; exact hyl i i1
                have hbk := zbit (x := sw y r a k) (e := col) (by omega) (by omega)
                refine zgo (fun pc => Nat.beq pc 68) 200 hX hR rfl ?_
                refine And.intro (fun c1 => by omega) (fun c1 => ?_)
                refine Exists.intro _ ⟨_, k, h80, rfl, by omega, ?_⟩
                refine Exists.intro _ ⟨_, k, h80, rfl, by omega, ?_⟩
                rw [ek]
                cases hbb : (sw y r a k).testBit col
                · rw [hbb, if_neg (by decide)] at hbk
                  refine And.intro (fun c2 => ?_) (fun c2 => by rw [hbk] at c2; exact absurd c2 (by decide))
                  refine Exists.intro _ ⟨_, k, h80, rfl, by omega, ?_⟩
                  refine ihK (k + 1) (by omega) (by omega) _ (fun b hb => by rw [zu_r hb]; exact hI2 b hb) (fun j hj => ?_)
                  by_cases e : j = k
                  · rw [e, zu_s, if_pos (by omega)]
                    have z0 := zxor_eq (a := sw y r a k) (b := 0) (by omega) (by decide)
                    rw [Nat.xor_zero] at z0
                    rw [show gk y r a col k = sw y r a k by unfold gk; rw [if_neg (fun z => by rw [hbb] at z; cases z.2)]]
                    exact z0
                  · rw [zu_n (fun z => e z.2), hy2 j hj]
                    by_cases e2 : j < k
                    · rw [if_pos e2, if_pos (by omega)]
                    · rw [if_neg e2, if_neg (by omega)]
                · rw [hbb, if_pos rfl] at hbk
                  refine And.intro (fun c2 => by rw [hbk] at c2; exact absurd rfl c2) (fun c2 => ?_)
                  refine Exists.intro _ ⟨_, k, h80, rfl, by omega, ?_⟩
                  refine ihK (k + 1) (by omega) (by omega) _ (fun b hb => by rw [zu_r hb]; exact hI2 b hb) (fun j hj => ?_)
                  by_cases e : j = k
                  · rw [e, zu_s, if_pos (by omega)]
                    rw [show gk y r a col k = sw y r a k ^^^ y a by unfold gk; rw [if_pos ⟨hrk, hbb⟩]]
                    exact zxor_eq (by omega) (by omega)
                  · rw [zu_n (fun z => e z.2), hy2 j hj]
                    by_cases e2 : j < k
                    · rw [if_pos e2, if_pos (by omega)]
                    · rw [if_neg e2, if_neg (by omega)]
            have hK := loopK (n - (r + 1)) (r + 1) (by omega) (by omega) (zu (zu I1 80 a (I1 80 r)) 80 r (I1 80 a)) (fun b hb => by rw [zu_r hb, zu_r hb]; exact hI b hb) (fun j hj => by
              have hgr : j < r + 1 → gk y r a col j = sw y r a j := fun z => by
                unfold gk
                rw [if_neg (fun y => by omega)]
              rw [show (if j < r + 1 then gk y r a col j else sw y r a j) = sw y r a j by
                split
                · rename_i z; exact hgr z
                · rfl]
              unfold sw
              by_cases e : j = r
              · rw [e, zu_s, if_pos rfl, ea]
              · rw [zu_n (fun z => e z.2), if_neg e]
                by_cases e2 : j = a
                · rw [e2, zu_s, if_pos rfl, hy r (by omega)]
                · rw [zu_n (fun z => e2 z.2), if_neg e2, hy j hj])
            rw [← ea] at hK
            refine zgo (fun pc => Nat.beq pc 5 || Nat.beq pc 15 || Nat.beq pc 68) 200 hX hR rfl ?_
            refine And.intro (fun c1 => by omega) (fun c1 => ?_)
            refine Exists.intro _ ⟨_, a, h80, rfl, by omega, ?_⟩
            refine And.intro (fun c2 => ?_) (fun c2 => ?_)
            · refine And.intro (fun c3 => by omega) (fun c3 => ?_)
              refine Exists.intro _ ⟨_, a, h80, rfl, by omega, ?_⟩
              refine Exists.intro _ ⟨_, r, h80, rfl, by omega, ?_⟩
              refine Exists.intro _ ⟨_, a, h80, rfl, by omega, ?_⟩
              refine Exists.intro _ ⟨_, r, h80, rfl, by omega, ?_⟩
              exact hK
            · rw [ea, hb] at c2
              exact absurd c2 (by decide)
      have hA := loopA (n - r) r (by omega) (Nat.le_refl _) (fun j a1 a2 => by omega)
      refine zgo (fun pc => Nat.beq pc 5 || Nat.beq pc 15) 200 hX hR rfl ?_
      refine And.intro (fun c1 => by omega) (fun c1 => ?_)
      exact hA
  refine zgo (fun pc => Nat.beq pc 5) 200 hX hR rfl ?_
  exact loopC 31 0 (by decide) 0 x I none none none (gi_init fun j hj => (hx j hj).2) (fun _ _ => rfl) (fun j hj => (hx j hj).1)
