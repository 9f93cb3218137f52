/-! the class: what its state becomes -/
def Kz (K : Nat → Int) : Nat → Int := fun j => if j < 270 then 0 else K j
theorem ccn_congr {f g : Nat → Int} : ∀ m k : Nat, (∀ j, k ≤ j → j < k + m → f j = g j) → ccn f m k = ccn g m k := by
  intro m
  induction m with
  | zero => intro k _; rfl
  | succ m ih =>
    intro k h
    show (if 0 < f k then 1 else 0) + ccn f m (k + 1) = (if 0 < g k then 1 else 0) + ccn g m (k + 1)
    rw [h k (by omega) (by omega), ih (k + 1) (fun j a b => h j (by omega) (by omega))]
theorem rs_K {Fo Io : zFi} {Jo : zJi} {F I : zFi} {J : zJi} {ℓ : Nat} {c : Nat → Nat} {n : Nat} {A : Nat → Nat → Nat} {de : Nat → Nat} {K K' : Nat → Int} (h : RSt Fo Io Jo F I J ℓ c n A de K) (e : ∀ j, j < 270 → K' j = K j) (hb : ∀ j, 0 ≤ K' j ∧ K' j ≤ 99) : RSt Fo Io Jo F I J ℓ c n A de K' := by
  obtain ⟨h1, h2, h3, h4, h5, h6, h7, h8⟩ := h
  exact ⟨h1, h2, h3, h4, h5, fun j hj => by rw [e j hj]; exact h6 j hj, hb, by rw [h8]; exact (ccn_congr 270 0 fun j _ hj => e j (by omega)).symm⟩
theorem rs_none {Fo Io : zFi} {Jo : zJi} {F I : zFi} {J : zJi} {ℓ : Nat} {c : Nat → Nat} {n : Nat} {A : Nat → Nat → Nat} {de : Nat → Nat} {K : Nat → Int} (h : RSt Fo Io Jo F I J ℓ c n A de K) (A' : Nat → Nat → Nat) (de' : Nat → Nat) : RSt Fo Io Jo (chF (zu F 60 10 0)) (zfill I 74 0 450 0) J ℓ c 0 A' de' K0 := by
  obtain ⟨h1, h2, ⟨h3, h3b, h3c⟩, h4, h5, h6⟩ := h
  exact rs_chg (Fr_of h1.2 (fun a ha => zu_r (by omega)) (fun _ _ => rfl) (fun _ _ => rfl)) h1.1 (RWd_of h2 (zu_n (by decide)) rfl) ⟨zu_s _ _ _ _, by decide, fun e he => by omega, fun e i he => by omega⟩ (fun i e _ he => by omega) ⟨by omega, fun e he => by omega, fun i e hi he => by omega⟩ h4
section CS
variable {Fo Io : zFi} {Jo : zJi} {F I : zFi} {J : zJi} {ℓ : Nat} {c : Nat → Nat} {n : Nat} {A : Nat → Nat → Nat} {de : Nat → Nat} {K : Nat → Int} {T0 : Nat} {G : Nat → Nat} {d : Nat → Nat → Nat} {gb : Nat → Nat → Nat → Bool}
theorem cs_square (h : CS Fo Io Jo F I J ℓ c n A de K T0 G d gb) {i : Int} (hi : sqOK ℓ (ns ℓ c) i) : CS Fo Io Jo (zu (zu F 0 8 ((ℓ : Int) + 1)) 0 9 ((ns ℓ c : Int) + i)) (zu I 1 ℓ i) J (ℓ + 1) (fup c ℓ i.toNat) n A de K T0 G d gb := by
  obtain ⟨h1, h2, h3, h4, h5⟩ := h
  obtain ⟨i1, i2, i3, i4⟩ := hi
  have hns : ns (ℓ + 1) (fup c ℓ i.toNat) = ns ℓ c + i.toNat := by
    show ns ℓ (fup c ℓ i.toNat) + fup c ℓ i.toNat ℓ = _
    rw [ns_congr (f := fup c ℓ i.toNat) (g := c) (fun k hk => if_neg (by omega)), show fup c ℓ i.toNat ℓ = i.toNat from if_pos rfl]
  refine ⟨⟨zTb_of h1.1 (fun a _ g2 => zu_r g2), Fq_of h1.2 (fun a ha => by rw [zu_r (by omega), zu_r (by omega)]) (fun a ha => zu_r (by omega)) (fun _ _ => rfl)⟩, ⟨by rw [zu_n (by decide), zu_s]; omega, by rw [zu_s, hns]; omega, by omega, by omega, fun k hk => ?_⟩, h3.of (by rw [zu_r (by decide), zu_r (by decide)]) (fun a _ _ => zu_r (by omega)), h4.of (by rw [zu_r (by decide), zu_r (by decide)]) (fun a _ _ => by rw [zu_r (by omega), zu_r (by omega)]) (fun a _ _ => zu_r (by omega)), fun j => by rw [zu_r (by decide)]; exact h5.1 j, h5.2⟩
  unfold fup
  by_cases e : k = ℓ
  · rw [e, zu_s, if_pos rfl]
    omega
  · rw [zu_n (by omega), if_neg e]
    exact h2.2.2.2.2 k (by omega)
theorem cs_clear (h : CS Fo Io Jo F I J ℓ c n A de K T0 G d gb) : CS Fo Io Jo (zu (zu F 0 8 0) 0 9 0) I J 0 c n A de K T0 G d gb := by
  obtain ⟨h1, h2, h3, h4, h5⟩ := h
  exact ⟨⟨h1.1, Fq_of h1.2 (fun a ha => by rw [zu_r (by omega), zu_r (by omega)]) (fun _ _ => rfl) (fun _ _ => rfl)⟩, ⟨by rw [zu_n (by decide), zu_s]; rfl, by rw [zu_s]; rfl, by decide, Nat.zero_le _, fun k hk => by omega⟩, h3.of (by rw [zu_r (by decide), zu_r (by decide)]) (fun _ _ _ => rfl), h4.of (by rw [zu_r (by decide), zu_r (by decide)]) (fun a _ _ => by rw [zu_r (by omega), zu_r (by omega)]) (fun _ _ _ => rfl), h5⟩
theorem cs_chg (h : CS Fo Io Jo F I J ℓ c n A de K T0 G d gb) {F' I' : zFi} {n' : Nat} {A' : Nat → Nat → Nat} {de' : Nat → Nat} (e1 : ∀ a, a ≠ 11 → a ≠ 15 → F' a = F a) (e2 : F' 15 11 = 0) (e3 : ∀ a, a ≠ 12 → a ≠ 13 → a ≠ 31 → I' a = I a) (e4 : ∀ j, I' 31 j = Kz K j) (hs : SpM F' I' n' A' de') : CS Fo Io Jo F' I' J ℓ c n' A' de' (Kz K) 0 G d gb := by
  obtain ⟨h1, h2, h3, ⟨t1, t2, -⟩, h5⟩ := h
  refine ⟨⟨zTb_of h1.1 (fun a _ _ => e3 a (by omega) (by omega) (by omega)), Fq_of h1.2 (fun a ha => e1 a (by omega) (by omega)) (fun a ha => e3 a (by omega) (by omega) (by omega)) (fun _ _ => rfl)⟩, h2.of (e1 0 (by decide) (by decide)) (e3 1 (by decide) (by decide) (by decide)), hs, ⟨t1.of (fun a _ _ => e1 a (by omega) (by omega)) (fun a _ _ => e3 a (by omega) (by omega) (by omega)) (fun _ _ _ => rfl), t2, e2, by decide, fun z => absurd z (by decide)⟩, e4, fun j => ?_⟩
  unfold Kz
  split
  · decide
  · exact h5.2 j
theorem ch_z (h : ChM I K) {I' : zFi} (e : I' 31 = I 31) (j : Nat) : zfill I' 31 0 270 0 31 j = Kz K j := by
  unfold zfill Kz
  by_cases g : j < 270
  · rw [if_pos ⟨rfl, by omega, g⟩, if_pos g]
  · rw [if_neg (fun z => g z.2.2), if_neg g, e]
    exact h.1 j
theorem cs_empty (h : CS Fo Io Jo F I J ℓ c n A de K T0 G d gb) : CS Fo Io Jo (zu (zu (zu F 11 3 0) 11 4 0) 15 11 0) (zfill (zfill I 13 0 156 0) 31 0 270 0) J ℓ c 0 (fun _ _ => 0) de (Kz K) 0 G d gb := by
  have h3 := h.2.2.1
  refine cs_chg h (fun a g1 g2 => by rw [zu_r g2, zu_r g1, zu_r g1]) (zu_s _ _ _ _) (fun a _ g2 g3 => by rw [zfill_r g3, zfill_r g2]) (ch_z h.2.2.2.2 (zfill_r (by decide))) ⟨by rw [zu_r (by decide), zu_n (by decide), zu_s]; rfl, fun i e hi he => ⟨?_, (show (0 : Nat) < 4096 by decide)⟩, fun e he => by omega, fun e he => ?_, ⟨by decide, fun e he => by omega, fun i e hi he => by omega⟩, fun _ _ _ _ _ => rfl, Or.inl (by rw [zu_r (by decide), zu_s])⟩
  · unfold sac
    split
    · rw [zfill_r (by decide)]
      unfold zfill
      rw [if_pos ⟨rfl, by omega, by omega⟩]
      rfl
    · rfl
  · rw [zfill_r (by decide), zfill_r (by decide)]
    exact h3.2.2.2.1 e he
theorem cs_element (h : CS Fo Io Jo F I J ℓ c n A de K T0 G d gb) (hn : n < 12) {x : Int} (hx : 0 ≤ x ∧ x ≤ 12) : CS Fo Io Jo (zu (zu (zu F 15 11 0) 11 3 ((n + 1 : Nat) : Int)) 11 4 0) (zu (zfill I 31 0 270 0) 12 n x) J ℓ c (n + 1) (elA A n) (fup de n x.toNat) (Kz K) 0 G d gb := by
  obtain ⟨s1, s2, s3, s4, s5, s6, s7⟩ := h.2.2.1
  refine cs_chg h (fun a g1 g2 => by rw [zu_r g1, zu_r g1, zu_r g2]) (by rw [zu_r (by decide), zu_r (by decide), zu_s]) (fun a g1 g2 g3 => by rw [zu_r g1, zfill_r g3]) (fun j => by rw [zu_r (by decide)]; exact ch_z h.2.2.2.2 rfl j) ⟨by rw [zu_n (by decide), zu_s], fun i e hi he => ?_, fun e he => ?_, fun e he => ?_, el_sp s5 hn (by omega), fun i e h1 h2 hi => ?_, Or.inl (zu_s _ _ _ _)⟩
  · have hsa := s2 i e hi he
    have es : sac (zu (zfill I 31 0 270 0) 12 n x) 13 (i : Int) (e : Int) = sac I 13 (i : Int) (e : Int) := by
      unfold sac
      rw [zu_r (by decide), zfill_r (by decide)]
    rw [es]
    unfold elA
    by_cases g : e = n
    · rw [if_pos g, hsa.1, s6 i e (by omega) he hi]
      exact ⟨rfl, by decide⟩
    · rw [if_neg g]
      exact hsa
  · unfold fup
    by_cases g : e = n
    · rw [g, zu_s, if_pos rfl]
      omega
    · rw [zu_n (by omega), if_neg g, zfill_r (by decide)]
      exact s3 e (by omega)
  · by_cases g : e = n
    · rw [g, zu_s]
      exact ⟨by omega, by omega⟩
    · rw [zu_n (by omega), zfill_r (by decide)]
      exact s4 e he
  · unfold elA
    rw [if_neg (by omega)]
    exact s6 i e (by omega) h2 hi
theorem cs_act (h : CS Fo Io Jo F I J ℓ c n A de K T0 G d gb) {i e b : Int} (hb : acOK n de i e b) : CS Fo Io Jo (zu (zu F 11 4 0) 15 11 0) (zfill (zu I 13 (e.toNat * 13 + i.toNat) b) 31 0 270 0) J ℓ c n (acA A i e b) de (Kz K) 0 G d gb := by
  obtain ⟨s1, s2, s3, s4, s5, s6, s7⟩ := h.2.2.1
  have hlt := ac_lt s5 hb
  have hb1 := hb.1
  have hb2 := hb.2.1
  have hn := s5.1
  refine cs_chg h (fun a g1 g2 => by rw [zu_r g2, zu_r g1]) (zu_s _ _ _ _) (fun a _ g2 g3 => by rw [zfill_r g3, zu_r g2]) (ch_z h.2.2.2.2 (zu_r (by decide))) ⟨by rw [zu_r (by decide), zu_n (by decide)]; exact s1, fun i' e' hi he => ?_, fun e' he => ?_, fun e' he => ?_, ac_sp s5 hb, fun i' e' h1 h2 hi => ?_, Or.inl (by rw [zu_r (by decide), zu_s])⟩
  · have hsa := s2 i' e' hi he
    unfold sac at hsa ⊢
    rw [zfill_r (by decide)]
    unfold acA
    by_cases g : i' = i.toNat ∧ e' = e.toNat
    · rw [if_pos g, if_pos (by omega), Int.toNat_natCast, Int.toNat_natCast, g.1, g.2, zu_s]
      exact ⟨by omega, hlt.1⟩
    · rw [if_neg g]
      by_cases g2 : 0 ≤ (e' : Int) ∧ (e' : Int) < 12 ∧ 1 ≤ (i' : Int) ∧ (i' : Int) ≤ 12
      · rw [if_pos g2] at hsa ⊢
        rw [Int.toNat_natCast, Int.toNat_natCast] at hsa ⊢
        rw [zu_n (by omega)]
        exact hsa
      · rw [if_neg g2] at hsa ⊢
        exact hsa
  · rw [zfill_r (by decide), zu_r (by decide)]
    exact s3 e' he
  · rw [zfill_r (by decide), zu_r (by decide)]
    exact s4 e' he
  · unfold acA
    rw [if_neg (by omega)]
    exact s6 i' e' h1 h2 hi
theorem cs_space (h : CS Fo Io Jo F I J ℓ c n A de K T0 G d gb) {B m T : Nat} (hT : T = 1 ∨ T = 2) (hB : B ≤ m) (hm : m ≤ 12) (hmB : m - B < 12) (hTm : T * m ≤ 12) : CS Fo Io Jo (zu (zu (zu F 11 3 ((m + 1 - B : Nat) : Int)) 11 4 0) 15 11 0) (zfill (spF (spD (zfill I 13 0 156 0) 12 B T (m + 1)) 13 B m T (m + 1) 1) 31 0 270 0) J ℓ c (m + 1 - B) (spAf B m T) (fun e => T * (B + e)) (Kz K) 0 G d gb := by
  obtain ⟨s1, s2, s3, s4, s5, s6, s7⟩ := h.2.2.1
  have hF : ∀ (I0 : zFi) a, a ≠ 13 → spF I0 13 B m T (m + 1) 1 a = I0 a := fun I0 a g => by
    funext j
    unfold spF
    rw [if_neg (fun z => g z.1)]
  have hD : ∀ (I0 : zFi) a, a ≠ 12 → spD I0 12 B T (m + 1) a = I0 a := fun I0 a g => by
    funext j
    unfold spD
    rw [if_neg (fun z => g z.1)]
  refine cs_chg h (fun a g1 g2 => by rw [zu_r g2, zu_r g1, zu_r g1]) (zu_s _ _ _ _) (fun a g1 g2 g3 => by rw [zfill_r g3, hF _ a g2, hD _ a g1, zfill_r g2]) (ch_z h.2.2.2.2 (by rw [hF _ 31 (by decide), hD _ 31 (by decide), zfill_r (by decide)])) ⟨by rw [zu_r (by decide), zu_n (by decide), zu_s], fun i e hi he => ?_, fun e he => ?_, fun e he => ?_, spAf_ok hT hB hm hmB hTm, fun i e h1 h2 hi => ?_, Or.inl (by rw [zu_r (by decide), zu_s])⟩
  · unfold sac
    rw [zfill_r (by decide)]
    by_cases g2 : i ≤ 12
    · rw [if_pos (by omega), Int.toNat_natCast, Int.toNat_natCast]
      unfold spF
      rw [if_pos ⟨rfl, by omega⟩]
      unfold spV spAf
      rw [show (e * 13 + i) / 13 + (e * 13 + i) % 13 / T = e + i / T by rw [show (e * 13 + i) % 13 = i by omega, show (e * 13 + i) / 13 = e by omega]]
      by_cases g : spC B m T (m + 1) 1 (e * 13 + i)
      · rw [if_pos g, if_pos ⟨g2, g⟩]
        refine ⟨rfl, ?_⟩
        have g4 := g.2.2.1
        rw [show (e * 13 + i) % 13 = i by omega, show (e * 13 + i) / 13 = e by omega] at g4
        exact show 2 ^ (e + i / T) < 2 ^ 12 from Nat.pow_lt_pow_right (by decide) (by
          have g5 := g.2.1
          rw [show (e * 13 + i) % 13 = i by omega] at g5
          omega)
      · rw [if_neg g, if_neg (fun z => g z.2)]
        exact ⟨rfl, by decide⟩
    · rw [if_neg (by omega)]
      unfold spAf
      rw [if_neg (fun z => g2 z.1)]
      exact ⟨rfl, by decide⟩
  · rw [zfill_r (by decide), hF _ 12 (by decide)]
    unfold spD
    rw [if_pos ⟨rfl, by omega⟩]
  · rw [zfill_r (by decide), hF _ 12 (by decide)]
    unfold spD
    by_cases g : e < m + 1 - B
    · rw [if_pos ⟨rfl, g⟩]
      have h1 : T * (B + e) ≤ 12 := by rcases hT with rfl | rfl <;> omega
      exact ⟨by omega, by omega⟩
    · rw [if_neg (fun z => g z.2), zfill_r (by decide)]
      exact s4 e he
  · unfold spAf
    rw [if_neg (fun z => by
      have z2 := z.2.2.1
      have z3 := z.2.2.2.1
      have z1 := z.1
      rw [show (e * 13 + i) % 13 = i by omega] at z2 z3
      rw [show (e * 13 + i) / 13 = e by omega] at z3
      omega)]
end CS
