/-! Tower: buildDegree -/
/-- the tower's part of the world -/
def zWT (sh : Nat → Option zS) : Prop :=
  zsTw sh 15 2 8 11 16 17 18 20 26 27 28 29 (fun s => 32 + 4 * s) ∧ zsBas sh 2 3 4 ∧ zsSq sh 8 2 9 ∧ zsSp sh 11 12 13 14 ∧ (zsBits sh 18 19 905 ∧ zsBits sh 20 21 905) ∧ (∀ i, i < 2 → zsBits sh (22 + 2 * i) (23 + 2 * i) 900) ∧
  ((∃ cA, sh 26 = some (.inr (.inl (cA, 320)))) ∧ (∃ cA, sh 27 = some (.inr (.inl (cA, 320)))) ∧ (∃ cA, sh 28 = some (.inr (.inl (cA, 320)))) ∧ ∃ cA, sh 29 = some (.inr (.inl (cA, 12)))) ∧
  (∃ (cA : ClassId) (E : String) (f : Nat → Option Nat), sh 17 = some (.inr (.inr (.inr (cA, E, 2, f)))) ∧ ∀ i, i < 2 → f i = some (22 + 2 * i)) ∧
  ∀ s, s < 6 → zsFl sh (32 + 4 * s) 2 (33 + 4 * s) (34 + 4 * s) ∧ zsBits sh (34 + 4 * s) (35 + 4 * s) 360
/-- the floors as they lie in memory -/
def TM (F I : zFi) (J : zJi) (G : Nat → Nat) (d : Nat → Nat → Nat) (gb : Nat → Nat → Nat → Bool) : Prop :=
  ∀ s, s < 6 → flR F I (32 + 4 * s) (33 + 4 * s) (G s) (d s) ∧ bR F J (34 + 4 * s) (35 + 4 * s) 360 5 (G s) ∧ ∀ a, a < G s → rq J (35 + 4 * s) 5 a = gb s a
/-- how many places there are below floor s -/
def gpl (S : Nat → Nat) (G : Nat → Nat) (d : Nat → Nat → Nat) (t : Nat) : Nat → Nat
  | 0 => 12
  | s + 1 => flP S (d s) t (G s)
def wid (p : Nat) : Nat := max 1 ((p + 63) / 64)
def loR : Nat → Option Nat
  | 0 => none
  | s + 1 => some (32 + 4 * s)
/-- a sum of elements as a number -/
def toN (f : Nat → Bool) : Nat := xorN 12 (fun e => if f e then 2 ^ e else 0)
/-- what a place of floor s goes to -/
def imgT (S N : Nat → Nat) (GP A : Nat → Nat → Nat) (n : Nat) (G : Nat → Nat) (d : Nat → Nat → Nat) (gb : Nat → Nat → Nat → Bool) (t : Nat) : Nat → Nat → Nat → Nat → Bool
  | 0, a, k, q => decide (q < 64 * wid 12) && (tch A n N ((bst S ((t : Int) - d 0 a) + k : Nat) : Int) (toN (gb 0 a))).testBit q
  | s + 1, a, k, q => pps (gb (s + 1) a) (fun x => GP (bst S ((t : Int) - d (s + 1) a) + k) (chf S (d s) (d (s + 1) a) (G s) x)) (tgf S (d s) (d (s + 1) a) t (G s)) (64 * wid (flP S (d s) t (G s))) (flP S (d s) (d (s + 1) a) (G s)) q
def dvT (S d : Nat → Nat) (t : Nat) (img : Nat → Nat → Nat → Bool) : Nat → Nat → Nat → Bool
  | 0, _, _ => false
  | a + 1, p, q => if flP S d t a ≤ p then img a (p - flP S d t a) q else dvT S d t img a p q
theorem dvT_at {S d : Nat → Nat} {t : Nat} {img : Nat → Nat → Nat → Bool} {a k : Nat} (hk : k < (bsz S ((t : Int) - d a)).toNat) : ∀ G, a < G → ∀ q, dvT S d t img G (flP S d t a + k) q = img a k q := by
  intro G
  induction G with
  | zero => intro h; exact absurd h (Nat.not_lt_zero a)
  | succ G ih =>
    intro h q
    rw [show dvT S d t img (G + 1) (flP S d t a + k) q = if flP S d t G ≤ flP S d t a + k then img G (flP S d t a + k - flP S d t G) q else dvT S d t img G (flP S d t a + k) q from rfl]
    by_cases e : a = G
    · subst e
      rw [if_pos (by omega), show flP S d t a + k - flP S d t a = k by omega]
    · have h1 := flP_mono S d t (a + 1) G (by omega)
      rw [show flP S d t (a + 1) = flP S d t a + (bsz S ((t : Int) - d a)).toNat from rfl] at h1
      rw [if_neg (by omega)]
      exact ih (by omega) q
def dvS (S N : Nat → Nat) (GP A : Nat → Nat → Nat) (n : Nat) (G : Nat → Nat) (d : Nat → Nat → Nat) (gb : Nat → Nat → Nat → Bool) (t s : Nat) : Nat → Nat → Bool := dvT S (d s) t (imgT S N GP A n G d gb t s) (G s)
/-- what the rows of a floor are, however they were found -/
def FlR (dv : Nat → Nat → Bool) (P C K : Nat) (v s nb : Nat → Nat → Bool) : Prop :=
  Ind C v ∧ (∀ i, i < C → v i = vc P (s i) dv) ∧ (∀ j, j < K → vc P (nb j) dv = v0) ∧ ((∀ i, i < C → ∀ p, P ≤ p → s i p = false) ∧ ∀ j, j < K → ∀ p, P ≤ p → nb j p = false) ∧
  (∀ x : Nat → Bool, (∀ p, P ≤ p → x p = false) → ∃ a b, x = vx (vc C a s) (vc K b nb)) ∧ Ind K nb ∧ C + K = P
theorem EchI.flr {dv : Nat → Nat → Bool} {gp P C K : Nat} {v s nb : Nat → Nat → Bool} {pv : Nat → Int} (h : EchI dv gp P C K v s nb pv) : FlR dv P C K v s nb := ⟨h.1.ind, h.2⟩
/-- what bounds the work on floor s -/
def OKs (S N : Nat → Nat) (GP A : Nat → Nat → Nat) (n t s : Nat) (G : Nat → Nat) (d : Nat → Nat → Nat) (gb : Nat → Nat → Nat → Bool) (B : Nat) (bl : Nat → Nat → Bool) : Prop :=
  (flP S (d s) t (G s) ≤ 300 ∧ gpl S G d t s ≤ 300 ∧ G s ≤ 72) ∧ (∀ p, p < flP S (d s) t (G s) → ∀ q, gpl S G d t s ≤ q → dvS S N GP A n G d gb t s p q = false) ∧
  limV (dvS S N GP A n G d gb t s) (flP S (d s) t (G s)) ∧ limK (dvS S N GP A n G d gb t s) (flP S (d s) t (G s)) ∧ (∀ j, j < B → ∀ q, gpl S G d t s ≤ q → bl j q = false) ∧
  (∀ g, g < G s → ∀ x, gpl S G d (d s g) s ≤ x → gb s g x = false) ∧ (∀ g, g < G s → gpl S G d (d s g) s ≤ 300) ∧
  ∀ C K v sr nb, FlR (dvS S N GP A n G d gb t s) (flP S (d s) t (G s)) C K v sr nb → ∀ m (w : Nat → Nat → Bool), Ind (C + m) w → (∀ i, i < C → w i = v i) → (∀ i, i < m → Spn (C + B) (vap C v bl) (w (C + i))) → C + m ≤ 180 ∧ G s + m ≤ 72
def fup {α : Type} (f : Nat → α) (s : Nat) (x : α) : Nat → α := fun i => if i = s then x else f i
def DIx : Type := Nat → (Nat → Nat) → (Nat → Nat → Nat) → (Nat → Nat → Nat → Bool) → Nat → (Nat → Nat → Bool) → Prop
/-- floor s is done -/
def DIstep (S N : Nat → Nat) (GP A : Nat → Nat → Nat) (n t : Nat) (DI : DIx) : Prop :=
  ∀ s G d gb B bl, s < 6 → DI s G d gb B bl → ∀ C K v sr nb, FlR (dvS S N GP A n G d gb t s) (flP S (d s) t (G s)) C K v sr nb → ∀ m (w : Nat → Nat → Bool), Ind (C + m) w → (∀ i, i < C → w i = v i) → (∀ i, i < m → Spn (C + B) (vap C v bl) (w (C + i))) → (∀ j, j < B → Spn (C + m) w (bl j)) → ∀ gb' : Nat → Nat → Nat → Bool, (∀ s', s' ≠ s → gb' s' = gb s') → (∀ a, a < G s → gb' s a = gb s a) → (∀ i, i < m → gb' s (G s + i) = w (C + i)) →
    DI (s + 1) (fup G s (G s + m)) (fup d s (fun j => if G s ≤ j ∧ j < G s + m then t else d s j)) gb' K nb
def BF {α : Type} (A B : Nat → α) : Prop := ∀ a, (a < 18 ∨ (29 ≤ a ∧ a < 32) ∨ 56 ≤ a) → A a = B a
/-- the elements of a degree, listed -/
def elL (x B : Nat) (bl : Nat → Nat → Bool) : Prop := (∀ j, j < B → ∃ e, e < 12 ∧ x.testBit e = true ∧ bl j = fun q => decide (q = e)) ∧ ∀ e, e < 12 → x.testBit e = true → ∃ j, j < B ∧ bl j = fun q => decide (q = e)
def JB (J : zJi) : Prop := ∀ j, J 19 j < 18446744073709551616 ∧ J 21 j < 18446744073709551616 ∧ J 23 j < 18446744073709551616 ∧ J 25 j < 18446744073709551616
theorem lel_rows {J : zJi} {c x : Nat} : ∀ e, e ≤ 12 → (∀ j, j < (lel J c x e).2 → ∃ y, y < e ∧ x.testBit y = true ∧ rq (lel J c x e).1 c 1 j = fun q => decide (q = y)) ∧ (∀ y, y < e → x.testBit y = true → ∃ j, j < (lel J c x e).2 ∧ rq (lel J c x e).1 c 1 j = fun q => decide (q = y)) ∧ ∀ a, a ≠ c → (lel J c x e).1 a = J a := by
  intro e
  induction e with
  | zero => intro _; exact ⟨fun j hj => absurd hj (Nat.not_lt_zero j), fun y hy => absurd hy (Nat.not_lt_zero y), fun _ _ => rfl⟩
  | succ e ih =>
    intro he
    obtain ⟨i1, i2, i3⟩ := ih (by omega)
    rw [show lel J c x (e + 1) = if x.testBit e then (bfl (zz (lel J c x e).1 c ((lel J c x e).2 * 1) ((lel J c x e).2 * 1 + 1)) c 1 ((lel J c x e).2 + 1) ((lel J c x e).2 : Int) e 1, (lel J c x e).2 + 1) else lel J c x e from rfl]
    generalize lel J c x e = st at i1 i2 i3 ⊢
    obtain ⟨J1, C⟩ := st
    dsimp only at i1 i2 i3 ⊢
    cases hb : x.testBit e
    · rw [if_neg (by decide)]
      refine ⟨fun j hj => ?_, fun y hy h => ?_, i3⟩
      · obtain ⟨y, y1, y2⟩ := i1 j hj
        exact ⟨y, by omega, y2⟩
      · by_cases z : y = e
        · rw [z, hb] at h
          cases h
        · exact i2 y (by omega) h
    · rw [if_pos rfl]
      dsimp only
      have new : rq (bfl (zz J1 c (C * 1) (C * 1 + 1)) c 1 (C + 1) (C : Int) e 1) c 1 C = fun q => decide (q = e) := by
        funext q
        rw [rq_bfl (Nat.lt_succ_self C) (by decide), rq_zz0, Bool.false_xor]
        by_cases z : q = e
        · rw [decide_eq_true z, decide_eq_true ⟨rfl, by omega, by omega⟩, z, Nat.sub_self]
          rfl
        · rw [decide_eq_false z]
          by_cases g : e ≤ q
          · rw [tb_small (k := 1) (by decide) (by omega), Bool.and_false]
          · rw [decide_eq_false (by omega), Bool.false_and]
      have old : ∀ j, j < C → rq (bfl (zz J1 c (C * 1) (C * 1 + 1)) c 1 (C + 1) (C : Int) e 1) c 1 j = rq J1 c 1 j := fun j hj => by
        funext q
        rw [rq_bfl (Nat.lt_succ_self C) (by decide), decide_eq_false (by omega), Bool.false_and, Bool.xor_false, rq_zz (by omega)]
      refine ⟨fun j hj => ?_, fun y hy h => ?_, fun a ha => ?_⟩
      · by_cases z : j = C
        · exact ⟨e, by omega, hb, by rw [z]; exact new⟩
        · obtain ⟨y, y1, y2, y3⟩ := i1 j (by omega)
          exact ⟨y, by omega, y2, by rw [old j (by omega)]; exact y3⟩
      · by_cases z : y = e
        · exact ⟨C, by omega, by rw [z]; exact new⟩
        · obtain ⟨j, j1, j2⟩ := i2 y (by omega) h
          exact ⟨j, by omega, by rw [old j j1]; exact j2⟩
      · rw [bfl_r ha, zz_r ha, i3 a ha]
