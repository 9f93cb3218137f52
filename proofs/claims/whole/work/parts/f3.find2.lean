/-! the reference: squares over a table that is filled in part; restOf, rowAt, degreeOf -/
theorem c_X9_squaresP (l : Launch) (D : va_G) (sh : Nat → Option zS) (hs : zWM sh) (F I : zFi) (J : zJi) (hb : mBg I) {i x n : Nat} (hq : ∀ w, w < 61 → dgA w = n → 1 ≤ i → I 65 (64 * i + w) = (aGP (sg i) w : Int)) (hd : i + n ≤ 14) (hx : x < 2147483648) :
    Cn l D yX9_squares wsX9_squares mX9_squares.2.2.2.2 sh [.inr (.inr (some 60)), .inl (i : Int), .inl (x : Int), .inl (n : Int)] F I J (zself F I J (.inl ((if i = 0 then x else sqs aGP aS (i : Int) x (n : Int) : Nat) : Int))) := by
  obtain ⟨cA, h65⟩ := hs.a65
  obtain ⟨cB, h61⟩ := hs.a61
  have hr := dg_range (show n ≤ 14 by omega)
  have hsz : bsz aS (n : Int) = ((aS (n + 1) - aS n : Nat) : Int) := by
    unfold bsz
    rw [if_pos (by omega), Int.toNat_natCast]
    omega
  refine zmet (M := mX9_squares) rfl rfl rfl kX9_squares (Nat.le_of_ble_eq_true rfl) (fun X hX hR' hl hD hsh => ?_)
  subst hl hD hsh
  by_cases h0 : i = 0
  · refine zgo (fun pc => Nat.beq pc 12) 200 hX hR' rfl ?_
    refine And.intro (fun c1 => by omega) (fun c1 => ?_)
    exact And.intro (by rw [if_pos h0]) ⟨rfl, rfl, rfl⟩
  · have hlt : ∀ k, k ≤ aS (n + 1) - aS n → xorN k (fun k => if x.testBit k then aGP (sg i) (aS n + k) else 0) < 512 := fun k hk => xorN_lt (m := 9) (fun j hj => by
      split
      · exact aGP_lt (sg_ok (by omega)).1 (by omega)
      · decide)
    have loop : ∀ m k : Nat, k + m = aS (n + 1) - aS n → HW X 12 [some (.inr (.inr (some 60))), some (.inl (i : Int)), some (.inl (x : Int)), some (.inl (n : Int)), some (.inl (xorN k (fun k => if x.testBit k then aGP (sg i) (aS n + k) else 0) : Int)), some (.inl (k : Int))] [] F I J := by
      intro m
      induction m with
      | zero =>
        intro k hk
        refine zgo (fun pc => Nat.beq pc 12) 200 hX hR' rfl ?_
        refine qX9_squares_87 hX (c_X9_manyOf (xl X) (xD X) (xsh X) hs F I J hb (x := n) (by omega)) hs.o (fun v F' I' J' hv => ?_)
        obtain ⟨rfl, rfl, rfl, rfl⟩ := hv
        rw [hsz]
        refine And.intro (fun c1 => ?_) (fun c1 => by omega)
        exact And.intro (by rw [if_neg h0, sqs_eq (by omega) (by omega), show k = aS (n + 1) - aS n by omega]) ⟨rfl, rfl, rfl⟩
      | succ m ih =>
        intro k hk
        have h := ih (k + 1) (by omega)
        rw [show ∀ f, xorN (k + 1) f = xorN k f ^^^ f k from fun _ => rfl] at h
        have hl1 := hlt k (by omega)
        have hb2 := zbit (x := x) (e := k) hx (by omega)
        refine zgo (fun pc => Nat.beq pc 12) 200 hX hR' rfl ?_
        refine qX9_squares_87 hX (c_X9_manyOf (xl X) (xD X) (xsh X) hs F I J hb (x := n) (by omega)) hs.o (fun v F' I' J' hv => ?_)
        obtain ⟨rfl, rfl, rfl, rfl⟩ := hv
        rw [hsz]
        refine And.intro (fun c1 => by omega) (fun c1 => ?_)
        cases hxb : x.testBit k
        · rw [hxb, if_neg (by decide)] at h hb2
          rw [← zxor_eq (by omega) (by decide)] at h
          refine And.intro (fun c3 => h) (fun c3 => ?_)
          rw [hb2] at c3
          exact absurd c3 (by decide)
        · rw [hxb, if_pos rfl] at h hb2
          refine And.intro (fun c3 => by rw [hb2] at c3; exact absurd (by decide) c3) (fun c3 => ?_)
          have he := hq (aS n + k) (by omega) ((hr.2.2.2 (aS n + k) (by omega)).mpr ⟨by omega, by omega⟩) (by omega)
          have hg := aGP_lt (sg_ok (show i ≤ 14 by omega)).1 (show aS n + k < 61 by omega)
          rw [← zxor_eq (by omega) (by omega), ← he] at h
          refine Exists.intro _ ⟨hs.o, ?_⟩
          refine Exists.intro _ ⟨hs.o, ?_⟩
          refine Exists.intro _ ⟨_, n, h61, rfl, by omega, ?_⟩
          refine Exists.intro _ ⟨_, 64 * i + (aS n + k), h65, (show (64 : Int) * (i : Int) + I' 61 n + (k : Int) = _ by rw [hb n (by omega)]; omega), by omega, ?_⟩
          exact h
    have l0 := loop (aS (n + 1) - aS n) 0 (by omega)
    refine zgo (fun pc => Nat.beq pc 12) 200 hX hR' rfl ?_
    exact And.intro (fun c1 => l0) (fun c1 => by omega)

def rmt (w b : Nat) : Bool := Nat.beq (lnC b + 1) (lnC w) && (List.range 3).all fun k => !Nat.blt k (lnC b) || Nat.beq (cn b k) (cn w (k + 1))
def rsf (w : Nat) : Nat → Nat → Nat
  | 0, _ => 0
  | f + 1, b => match rmt w b with
    | true => b
    | false => rsf w f (b + 1)
def rst (w : Nat) : Nat := rsf w (aS (dgA w - cn w 0 + 1) - aS (dgA w - cn w 0)) (aS (dgA w - cn w 0))
theorem rmt_iff {w b : Nat} (hb : lnC b ≤ 3) : rmt w b = true ↔ lnC b + 1 = lnC w ∧ ∀ k, k < lnC b → cn b k = cn w (k + 1) := by
  unfold rmt
  simp only [Bool.and_eq_true, bq_iff, List.all_eq_true, List.mem_range, Bool.or_eq_true, Bool.not_eq_true']
  refine and_congr Iff.rfl ⟨fun h k hk => ?_, fun h k hk => ?_⟩
  · rcases h k (by omega) with h9 | h9
    · rw [bl_iff.mpr hk] at h9
      cases h9
    · exact h9
  · by_cases hkl : k < lnC b
    · exact Or.inr (h k hkl)
    · refine Or.inl ?_
      cases hb9 : Nat.blt k (lnC b) with
      | false => rfl
      | true => exact absurd (bl_iff.mp hb9) hkl
section REF
set_option maxHeartbeats 1000000 in
theorem c_X9_restOf (l : Launch) (D : va_G) (sh : Nat → Option zS) (hs : zWM sh) (F I : zFi) (J : zJi) (hb : mBg I) (hw : mWd I) {w : Nat} (hw61 : w < 61) :
    Cn l D yX9_restOf wsX9_restOf mX9_restOf.2.2.2.2 sh [.inr (.inr (some 60)), .inl (w : Int), .inl (dgA w : Int)] F I J (zself F I J (.inl (rst w : Int))) := by
  obtain ⟨c61, s61⟩ := hs.a61
  obtain ⟨c62, s62⟩ := hs.a62
  obtain ⟨c63, s63⟩ := hs.a63
  have hdw := (cn_rest hw61).1
  have hd14 := dgA_le hw61
  have ew := hw w hw61
  have ew0 := ew.2 0 (by decide)
  have hlw := lnC_3 w
  generalize hL : dgA w - cn w 0 = L
  have hL2 : (dgA w : Int) - (cn w 0 : Int) = (L : Int) := by omega
  have hrst : rst w = rsf w (aS (L + 1) - aS L) (aS L) := by unfold rst; rw [hL]
  have hr := dg_range (show L ≤ 14 by omega)
  have e0 := hb L (by omega)
  have e1 := hb (L + 1) (by omega)
  refine zmet (M := mX9_restOf) rfl rfl rfl kX9_restOf (Nat.le_of_ble_eq_true rfl) (fun X hX hR hl hD hsh => ?_)
  subst hl hD hsh
  have loopU : ∀ m u : Nat, aS L ≤ u → u + m = aS (L + 1) → HW X 19 [some (.inr (.inr (some 60))), some (.inl (w : Int)), some (.inl (dgA w : Int)), some (.inl (L : Int)), some (.inl (u : Int)), none, none] [] F I J ∨ rsf w m u ≠ rst w := by
    intro m
    induction m with
    | zero =>
      intro u hu hum
      by_cases hp : rsf w 0 u = rst w
      · refine Or.inl ?_
        refine zgo (fun pc => Nat.beq pc 60) 200 hX hR rfl ?_
        refine Exists.intro _ ⟨hs.o, ?_⟩
        refine Exists.intro _ ⟨_, L + 1, s61, by omega, by omega, ?_⟩
        rw [e1]
        refine And.intro (fun c1 => ?_) (fun c1 => by omega)
        exact And.intro (by rw [← hp]; rfl) ⟨rfl, rfl, rfl⟩
      · exact Or.inr hp
    | succ m ih =>
      intro u hu hum
      by_cases hp : rsf w (m + 1) u = rst w
      · refine Or.inl ?_
        have hu61 : u < 61 := by omega
        have hlu := lnC_3 u
        obtain ⟨eu, eu2⟩ := hw u hu61
        have hun : rsf w (m + 1) u = match rmt w u with | true => u | false => rsf w m (u + 1) := rfl
        have no : rmt w u = false → ∀ k : Nat, HW X 118 [some (.inr (.inr (some 60))), some (.inl (w : Int)), some (.inl (dgA w : Int)), some (.inl (L : Int)), some (.inl (u : Int)), some (.inl 0), some (.inl (k : Int))] [] F I J := fun hf k => by
          rw [hf] at hun
          have h9 := (ih (u + 1) (by omega) (by omega)).resolve_right (fun z => z (hun.symm.trans hp))
          refine zgo (fun pc => Nat.beq pc 19) 200 hX hR rfl ?_
          refine And.intro (fun c1 => ?_) (fun c1 => absurd rfl c1)
          exact hw_weak (ls' := [some (.inr (.inr (some 60))), some (.inl (w : Int)), some (.inl (dgA w : Int)), some (.inl (L : Int)), some (.inl ((u + 1 : Nat) : Int)), none, none]) ⟨rfl, rfl, rfl, rfl, rfl, trivial⟩ h9
        have out0 : rmt w u = false → ∀ k : Nat, k ≤ 3 → HW X 60 [some (.inr (.inr (some 60))), some (.inl (w : Int)), some (.inl (dgA w : Int)), some (.inl (L : Int)), some (.inl (u : Int)), some (.inl 0), some (.inl (k : Int))] [] F I J := fun hf k hk => by
          have n9 := no hf k
          refine zgo (fun pc => Nat.beq pc 118) 200 hX hR rfl ?_
          refine Exists.intro _ ⟨hs.o, ?_⟩
          refine Exists.intro _ ⟨_, u, s62, rfl, by omega, ?_⟩
          rw [eu]
          refine And.intro (fun c1 => n9) (fun c1 => ?_)
          refine And.intro (fun c2 => n9) (fun c2 => absurd rfl c2)
        have yes : lnC u + 1 = lnC w → ∀ (f k : Nat), k + f = lnC u → (∀ j, j < k → cn u j = cn w (j + 1)) → HW X 60 [some (.inr (.inr (some 60))), some (.inl (w : Int)), some (.inl (dgA w : Int)), some (.inl (L : Int)), some (.inl (u : Int)), some (.inl 1), some (.inl (k : Int))] [] F I J := by
          intro h1 f
          induction f with
          | zero =>
            intro k hk hj
            have ht : rmt w u = true := (rmt_iff hlu).mpr ⟨h1, fun j hjk => hj j (by omega)⟩
            rw [ht] at hun
            refine zgo (fun pc => Nat.beq pc 60) 200 hX hR rfl ?_
            refine Exists.intro _ ⟨hs.o, ?_⟩
            refine Exists.intro _ ⟨_, u, s62, rfl, by omega, ?_⟩
            rw [eu]
            refine And.intro (fun c1 => ?_) (fun c1 => by omega)
            refine And.intro (fun c2 => absurd c2 (by decide)) (fun c2 => ?_)
            exact And.intro (by rw [← hp, hun]) ⟨rfl, rfl, rfl⟩
          | succ f ih2 =>
            intro k hk hj
            have eu3 := eu2 k (by omega)
            have ew3 := ew.2 (k + 1) (by omega)
            have hcu := cn_le u hu61 k (by omega)
            have hcw := cn_le w hw61 (k + 1) (by omega)
            refine zgo (fun pc => Nat.beq pc 60) 200 hX hR rfl ?_
            refine Exists.intro _ ⟨hs.o, ?_⟩
            refine Exists.intro _ ⟨_, u, s62, rfl, by omega, ?_⟩
            rw [eu]
            refine And.intro (fun c1 => by omega) (fun c1 => ?_)
            refine And.intro (fun c2 => absurd c2 (by decide)) (fun c2 => ?_)
            refine Exists.intro _ ⟨hs.o, ?_⟩
            refine Exists.intro _ ⟨_, 4 * u + k, s63, by omega, by omega, ?_⟩
            refine Exists.intro _ ⟨hs.o, ?_⟩
            refine Exists.intro _ ⟨_, 4 * w + (k + 1), s63, by omega, by omega, ?_⟩
            rw [eu3, ew3]
            refine And.intro (fun c3 => ?_) (fun c3 => ?_)
            · have hf : rmt w u = false := by
                cases hb9 : rmt w u with
                | false => rfl
                | true => exact absurd (((rmt_iff hlu).mp hb9).2 k (by omega)) (by omega)
              exact out0 hf (k + 1) (by omega)
            · refine ih2 (k + 1) (by omega) (fun j hj2 => ?_)
              by_cases e : j = k
              · subst e
                omega
              · exact hj j (by omega)
        refine zgo (fun pc => Nat.beq pc 60) 200 hX hR rfl ?_
        refine Exists.intro _ ⟨hs.o, ?_⟩
        refine Exists.intro _ ⟨_, L + 1, s61, by omega, by omega, ?_⟩
        rw [e1]
        refine And.intro (fun c1 => by omega) (fun c1 => ?_)
        refine Exists.intro _ ⟨hs.o, ?_⟩
        refine Exists.intro _ ⟨_, u, s62, rfl, by omega, ?_⟩
        refine Exists.intro _ ⟨hs.o, ?_⟩
        refine Exists.intro _ ⟨_, w, s62, rfl, by omega, ?_⟩
        rw [eu, ew.1]
        refine And.intro (fun c2 => ?_) (fun c2 => ?_)
        · have hf : rmt w u = false := by
            cases hb9 : rmt w u with
            | false => rfl
            | true => exact absurd ((rmt_iff hlu).mp hb9).1 (by omega)
          exact out0 hf 0 (by decide)
        · exact yes (by omega) (lnC u) 0 (by omega) (fun j hj => absurd hj (Nat.not_lt_zero j))
      · exact Or.inr hp
  have l0 := (loopU (aS (L + 1) - aS L) (aS L) (Nat.le_refl _) (by omega)).resolve_right (fun z => z hrst.symm)
  have mid : HW X 11 [some (.inr (.inr (some 60))), some (.inl (w : Int)), some (.inl (dgA w : Int)), some (.inl (L : Int)), none, none, none] [] F I J := by
    refine zgo (fun pc => Nat.beq pc 19) 200 hX hR rfl ?_
    refine Exists.intro _ ⟨hs.o, ?_⟩
    refine Exists.intro _ ⟨_, L, s61, rfl, by omega, ?_⟩
    rw [e0]
    exact l0
  rw [← hL2] at mid
  refine zgo (fun pc => Nat.beq pc 11) 200 hX hR rfl ?_
  refine Exists.intro _ ⟨hs.o, ?_⟩
  refine Exists.intro _ ⟨_, 4 * w, s63, by omega, by omega, ?_⟩
  rw [show I 63 (4 * w) = (cn w 0 : Int) from ew0]
  exact mid
def rmw (a b c k : Nat) : Bool := Nat.beq (mN (3 * k)) a && (Nat.beq (mN (3 * k + 1)) b && Nat.beq (mN (3 * k + 2)) c)
def rwf (n a b c : Nat) : Nat → Nat → Nat
  | 0, _ => 0
  | f + 1, k => match rmw a b c k with
    | true => k - aS n
    | false => rwf n a b c f (k + 1)
def rwa (n a b c : Nat) : Nat := rwf n a b c (aS (n + 1) - aS n) (aS n)
theorem rwf_le {n a b c : Nat} : ∀ f k, rwf n a b c f k ≤ k + f - aS n := by
  intro f
  induction f with
  | zero => intro k; exact Nat.zero_le _
  | succ f ih =>
    intro k
    have := ih (k + 1)
    show (match rmw a b c k with | true => k - aS n | false => rwf n a b c f (k + 1)) ≤ _
    cases rmw a b c k
    · show rwf n a b c f (k + 1) ≤ _
      omega
    · show k - aS n ≤ _
      omega
theorem rwa_9 {n a b c : Nat} (hn : n ≤ 14) : rwa n a b c ≤ 9 := by
  have h1 := rwf_le (n := n) (a := a) (b := b) (c := c) (aS (n + 1) - aS n) (aS n)
  have h2 := dg_range hn
  unfold rwa
  omega
theorem c_X9_rowAt (l : Launch) (D : va_G) (sh : Nat → Option zS) (hs : zWM sh) (F I : zFi) (J : zJi) (hb : mBg I) (hw : mRw I) {n a b c : Nat} (hn : n ≤ 14) (ha : a ≤ 100) (hbb : b ≤ 100) (hcc : c ≤ 100) :
    Cn l D yX9_rowAt wsX9_rowAt mX9_rowAt.2.2.2.2 sh [.inr (.inr (some 60)), .inl (n : Int), .inl (a : Int), .inl (b : Int), .inl (c : Int)] F I J (zself F I J (.inl (rwa n a b c : Int))) := by
  obtain ⟨c61, s61⟩ := hs.a61
  obtain ⟨c64, s64⟩ := hs.a64
  have hr := dg_range hn
  have e0 := hb n (by omega)
  have e1 := hb (n + 1) (by omega)
  refine zmet (M := mX9_rowAt) rfl rfl rfl kX9_rowAt (Nat.le_of_ble_eq_true rfl) (fun X hX hR hl hD hsh => ?_)
  subst hl hD hsh
  have loopU : ∀ m k : Nat, aS n ≤ k → k + m = aS (n + 1) → rwf n a b c m k = rwa n a b c → HW X 8 [some (.inr (.inr (some 60))), some (.inl (n : Int)), some (.inl (a : Int)), some (.inl (b : Int)), some (.inl (c : Int)), some (.inl (k : Int))] [] F I J := by
    intro m
    induction m with
    | zero =>
      intro k hk hkm hp
      refine zgo (fun pc => Nat.beq pc 8) 200 hX hR rfl ?_
      refine Exists.intro _ ⟨hs.o, ?_⟩
      refine Exists.intro _ ⟨_, n + 1, s61, by omega, by omega, ?_⟩
      rw [e1]
      refine And.intro (fun c1 => ?_) (fun c1 => by omega)
      exact And.intro (by rw [← hp]; rfl) ⟨rfl, rfl, rfl⟩
    | succ m ih =>
      intro k hk hkm hp
      have hk61 : k < 61 := by omega
      have hun : rwf n a b c (m + 1) k = match rmw a b c k with | true => k - aS n | false => rwf n a b c m (k + 1) := rfl
      have r0 := hw k 0 hk61 (by decide)
      have r1 := hw k 1 hk61 (by decide)
      have r2 := hw k 2 hk61 (by decide)
      have q0 := mN_61 (3 * k + 0)
      have q1 := mN_61 (3 * k + 1)
      have q2 := mN_61 (3 * k + 2)
      have no : rmw a b c k = false → HW X 75 [some (.inr (.inr (some 60))), some (.inl (n : Int)), some (.inl (a : Int)), some (.inl (b : Int)), some (.inl (c : Int)), some (.inl (k : Int))] [] F I J := fun hf => by
        rw [hf] at hun
        have h9 := ih (k + 1) (by omega) (by omega) (hun.symm.trans hp)
        refine zgo (fun pc => Nat.beq pc 8) 200 hX hR rfl ?_
        exact h9
      refine zgo (fun pc => Nat.beq pc 75) 200 hX hR rfl ?_
      refine Exists.intro _ ⟨hs.o, ?_⟩
      refine Exists.intro _ ⟨_, n + 1, s61, by omega, by omega, ?_⟩
      rw [e1]
      refine And.intro (fun c1 => by omega) (fun c1 => ?_)
      refine Exists.intro _ ⟨hs.o, ?_⟩
      refine Exists.intro _ ⟨_, 3 * k + 0, s64, by omega, by omega, ?_⟩
      rw [r0]
      refine And.intro (fun c2 => ?_) (fun c2 => ?_)
      · refine no ?_
        unfold rmw
        rw [show Nat.beq (mN (3 * k)) a = false from nbn (fun z => c2 (by rw [show 3 * k + 0 = 3 * k from rfl, z]))]
        rfl
      refine Exists.intro _ ⟨hs.o, ?_⟩
      refine Exists.intro _ ⟨_, 3 * k + 1, s64, by omega, by omega, ?_⟩
      rw [r1]
      refine And.intro (fun c3 => ?_) (fun c3 => ?_)
      · refine no ?_
        unfold rmw
        rw [show Nat.beq (mN (3 * k + 1)) b = false from nbn (fun z => c3 (by rw [z]))]
        exact Bool.and_false _
      refine Exists.intro _ ⟨hs.o, ?_⟩
      refine Exists.intro _ ⟨_, 3 * k + 2, s64, by omega, by omega, ?_⟩
      rw [r2]
      refine And.intro (fun c4 => ?_) (fun c4 => ?_)
      · refine no ?_
        unfold rmw
        rw [show Nat.beq (mN (3 * k + 2)) c = false from nbn (fun z => c4 (by rw [z])), Bool.and_false, Bool.and_false]
      · have ht : rmw a b c k = true := by
          unfold rmw
          rw [bq_iff.mpr (show mN (3 * k) = a by have : mN (3 * k + 0) = mN (3 * k) := rfl; omega), bq_iff.mpr (show mN (3 * k + 1) = b by omega), bq_iff.mpr (show mN (3 * k + 2) = c by omega)]
          rfl
        rw [ht] at hun
        refine Exists.intro _ ⟨hs.o, ?_⟩
        refine Exists.intro _ ⟨_, n, s61, rfl, by omega, ?_⟩
        rw [e0]
        refine And.intro ?_ ⟨rfl, rfl, rfl⟩
        rw [← hp, hun]
        show some (Sum.inl ((k : Int) - (aS n : Int))) = some (Sum.inl ((k - aS n : Nat) : Int))
        rw [show (k : Int) - (aS n : Int) = ((k - aS n : Nat) : Int) by omega]
  refine zgo (fun pc => Nat.beq pc 8) 200 hX hR rfl ?_
  refine Exists.intro _ ⟨hs.o, ?_⟩
  refine Exists.intro _ ⟨_, n, s61, rfl, by omega, ?_⟩
  rw [e0]
  exact loopU (aS (n + 1) - aS n) (aS n) (Nat.le_refl _) (by omega) rfl
theorem c_X9_degreeOf (l : Launch) (D : va_G) (sh : Nat → Option zS) (hs : zWM sh) (F I : zFi) (J : zJi) (hb : mBg I) {w : Nat} (hw : w < 61) :
    Cn l D yX9_degreeOf wsX9_degreeOf mX9_degreeOf.2.2.2.2 sh [.inr (.inr (some 60)), .inl (w : Int)] F I J (zself F I J (.inl (dgA w : Int))) := by
  obtain ⟨c61, s61⟩ := hs.a61
  have hd14 := dgA_le hw
  refine zmet (M := mX9_degreeOf) rfl rfl rfl kX9_degreeOf (Nat.le_of_ble_eq_true rfl) (fun X hX hR hl hD hsh => ?_)
  subst hl hD hsh
  have loop : ∀ m n : Nat, n + m = dgA w → HW X 2 [some (.inr (.inr (some 60))), some (.inl (w : Int)), some (.inl (n : Int))] [] F I J := by
    intro m
    induction m with
    | zero =>
      intro n hn
      have h1 := (dgA_lt w hw n (by omega)).mp (by omega)
      have h61 := aS_61 (n + 1)
      refine zgo (fun pc => Nat.beq pc 2) 200 hX hR rfl ?_
      refine Exists.intro _ ⟨hs.o, ?_⟩
      refine Exists.intro _ ⟨_, n + 1, s61, by omega, by omega, ?_⟩
      rw [hb (n + 1) (by omega)]
      refine And.intro (fun c1 => ?_) (fun c1 => by omega)
      exact And.intro (by rw [show n = dgA w by omega]) ⟨rfl, rfl, rfl⟩
    | succ m ih =>
      intro n hn
      have h9 := ih (n + 1) (by omega)
      have h61 := aS_61 (n + 1)
      have h1 : ¬ w < aS (n + 1) := fun z => absurd ((dgA_lt w hw n (by omega)).mpr z) (by omega)
      refine zgo (fun pc => Nat.beq pc 2) 200 hX hR rfl ?_
      refine Exists.intro _ ⟨hs.o, ?_⟩
      refine Exists.intro _ ⟨_, n + 1, s61, by omega, by omega, ?_⟩
      rw [hb (n + 1) (by omega)]
      refine And.intro (fun c1 => by omega) (fun c1 => ?_)
      exact h9
  refine zgo (fun pc => Nat.beq pc 2) 200 hX hR rfl ?_
  exact loop (dgA w) 0 (by omega)
end REF
