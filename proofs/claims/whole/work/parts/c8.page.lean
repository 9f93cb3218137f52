/-! the reference: pages, differences, counts -/
theorem zi_ti {x : Int} (hx : zi32 x) : (Int32.ofInt x).toInt = x := by
  unfold zi32 at hx
  show (BitVec.ofInt 32 x).toInt = x
  rw [BitVec.toInt_ofInt, show (2 : Nat) ^ 32 = 4294967296 from rfl, Int.bmod_def]
  omega
section TSW
variable {X : zX} {M : zM} {pc n aux : Nat} {ls : List (Option zV)} {st : List zV} {F I : zFi} {J : zJi}
theorem hw_tabOut {dflt lo hi : Int} {offs : Array Int} {x : Int} {t : Nat} (hX : ZF X M) (hr : (pc, .tableswitch dflt lo hi offs, n, aux) ∈ M.2.1) (hx : zi32 x) (h : x < lo ∨ hi < x) (ht : (pc : Int) + dflt = (t : Int)) (k : HW X t ls st F I J) : HW X pc ls (.inl x :: st) F I J := by
  obtain ⟨d, h1, h2, h3, h4⟩ := zrow hX hr
  cases h1
  intro H locs LS hW hS hL
  exact lv_tableOut hX.1 hX.2.1 h2 (by rw [zi_ti hx]; exact h) ht (k H locs LS hW hS hL)
theorem hw_tabIn {dflt lo hi : Int} {offs : Array Int} {x off : Int} {t : Nat} (hX : ZF X M) (hr : (pc, .tableswitch dflt lo hi offs, n, aux) ∈ M.2.1) (hx : zi32 x) (g1 : ¬ x < lo) (g2 : ¬ hi < x) (ho : offs[(x - lo).toNat]? = some off) (ht : (pc : Int) + off = (t : Int)) (k : HW X t ls st F I J) : HW X pc ls (.inl x :: st) F I J := by
  obtain ⟨d, h1, h2, h3, h4⟩ := zrow hX hr
  cases h1
  intro H locs LS hW hS hL
  exact lv_tableIn hX.1 hX.2.1 h2 (by rw [zi_ti hx]; exact g1) (by rw [zi_ti hx]; exact g2) (by rw [zi_ti hx]; exact ho) ht (k H locs LS hW hS hL)
end TSW
section RS
variable {Fo Io : zFi} {Jo : zJi} {F I : zFi} {J : zJi} {ℓ : Nat} {c : Nat → Nat} {n : Nat} {A : Nat → Nat → Nat} {de : Nat → Nat} {K : Nat → Int}
theorem cix_in {r : Nat} {s t : Int} (hr : 2 ≤ r ∧ r ≤ 4) (hic : icP s t) : cix (r : Int) s t = ((90 * (r - 2) + 15 * s.toNat + t.toNat : Nat) : Int) := by
  unfold cix
  rw [if_pos (by omega)]
  omega
theorem c_X9_rankAt (l : Launch) (D : va_G) (sh : Nat → Option zS) (hs : zWM sh) (h : RSt Fo Io Jo F I J ℓ c n A de K) {r : Nat} {s t : Int} (hr : 2 ≤ r ∧ r ≤ 4) (h1 : zi32 s) (h2 : zi32 t) :
    Cn l D yX9_rankAt wsX9_rankAt mX9_rankAt.2.2.2.2 sh [.inr (.inr (some 60)), .inl (r : Int), .inl s, .inl t] F I J (zself F I J (.inl (crk (fun _ => K) 31 r s t))) := by
  obtain ⟨cA, h74⟩ := hs.a74
  have h6 := h.2.2.2.2.2.1
  refine zmet (M := mX9_rankAt) rfl rfl rfl kX9_rankAt (Nat.le_of_ble_eq_true rfl) (fun X hX hR hl hD hsh => ?_)
  subst hl hD hsh
  refine zgo (fun _ => false) 200 hX hR rfl ?_
  refine qX9_rankAt_216 hX (c_X9_isPlace (xl X) (xD X) (xsh X) F I J h1 h2) (fun v F' I' J' hv => ?_)
  obtain ⟨rfl, rfl, rfl, rfl⟩ := hv
  by_cases hic : icP s t
  · have e1 : zic s t = 1 := if_pos hic
    rw [e1]
    refine And.intro (fun c1 => absurd c1 (by decide)) (fun c1 => ?_)
    refine Exists.intro _ ⟨hs.o, ?_⟩
    refine Exists.intro _ ⟨_, 90 * r + 15 * s.toNat + t.toNat, h74, by omega, by omega, ?_⟩
    refine And.intro ?_ ⟨rfl, rfl, rfl⟩
    rw [show 90 * r + 15 * s.toNat + t.toNat = 180 + (90 * (r - 2) + 15 * s.toNat + t.toNat) by omega, h6 _ (by omega)]
    unfold crk
    rw [cix_in hr hic, if_pos (by omega), Int.toNat_natCast]
  · have e1 : zic s t = 0 := if_neg hic
    rw [e1]
    refine And.intro (fun c1 => ?_) (fun c1 => absurd rfl c1)
    refine And.intro ?_ ⟨rfl, rfl, rfl⟩
    unfold crk cix
    rw [if_neg (show ¬ (2 ≤ (r : Int) ∧ (r : Int) ≤ 4 ∧ 0 ≤ s ∧ s ≤ 5 ∧ 0 ≤ t ∧ t ≤ 14) by omega), if_neg (by decide)]
theorem c_X9_rankBoth (l : Launch) (D : va_G) (sh : Nat → Option zS) (hs : zWM sh) (h : RSt Fo Io Jo F I J ℓ c n A de K) {r : Nat} {s t : Int} (hr : 2 ≤ r ∧ r ≤ 4) (h1 : 0 ≤ s ∧ s ≤ 100) (h2 : 0 ≤ t ∧ t ≤ 100) :
    Cn l D yX9_rankBoth wsX9_rankBoth mX9_rankBoth.2.2.2.2 sh [.inr (.inr (some 60)), .inl (r : Int), .inl s, .inl t] F I J (zself F I J (.inl (csp (fun _ => K) 31 r s t))) := by
  refine zmet (M := mX9_rankBoth) rfl rfl rfl kX9_rankBoth (Nat.le_of_ble_eq_true rfl) (fun X hX hR hl hD hsh => ?_)
  subst hl hD hsh
  refine zgo (fun _ => false) 200 hX hR rfl ?_
  refine qX9_rankBoth_235 hX (c_X9_rankAt (xl X) (xD X) (xsh X) hs h hr (s := s) (t := t) ⟨by omega, by omega⟩ ⟨by omega, by omega⟩) hs.o (fun v F' I' J' hv => ?_)
  obtain ⟨rfl, rfl, rfl, rfl⟩ := hv
  refine qX9_rankBoth_235 hX (c_X9_rankAt (xl X) (xD X) (xsh X) hs h hr (s := s - r) (t := t - r + 1) ⟨by omega, by omega⟩ ⟨by omega, by omega⟩) hs.o (fun v F2 I2 J2 hv => ?_)
  obtain ⟨rfl, rfl, rfl, rfl⟩ := hv
  exact And.intro rfl ⟨rfl, rfl, rfl⟩
theorem c_X9_pageAt (l : Launch) (D : va_G) (sh : Nat → Option zS) (hs : zWM sh) (h : RSt Fo Io Jo F I J ℓ c n A de K) (hz : sFault A n = none) {r s : Nat} {t : Int} (hr : 2 ≤ r ∧ r ≤ 5) (hs6 : s < 6) (ht : 0 ≤ t ∧ t ≤ 14) :
    Cn l D yX9_pageAt wsX9_pageAt mX9_pageAt.2.2.2.2 sh [.inr (.inr (some 60)), .inl (r : Int), .inl (s : Int), .inl t] F I J (fun v F' I' J' => LyP Fo Io Jo F I J ℓ c n A de K F' I' J' ∧ ∃ G d gb, LD F' I' J' A n de G d gb ∧ v = some (.inl (lpg (flG (d s) t (G s) : Int) K s t (r - 2)))) := by
  refine zmet (M := mX9_pageAt) rfl rfl rfl kX9_pageAt (Nat.le_of_ble_eq_true rfl) (fun X hX hR hl hD hsh => ?_)
  subst hl hD hsh
  refine zgo (fun pc => Nat.beq pc 11) 200 hX hR rfl ?_
  refine qX9_pageAt_223 hX (c_X9_liveAt (xl X) (xD X) (xsh X) hs h hz hs6 (t := t) ⟨by omega, by omega⟩) hs.o (fun v F' I' J' hv => ?_)
  obtain ⟨hly, G, d, gb, hld, rfl⟩ := hv
  have h' := hly.1
  have loop : ∀ m k, k + m = r - 2 → HW X 11 [some (.inr (.inr (some 60))), some (.inl (r : Int)), some (.inl (s : Int)), some (.inl t), some (.inl (lpg (flG (d s) t (G s) : Int) K s t k)), some (.inl (2 + (k : Int)))] [] F' I' J' := by
    intro m
    induction m with
    | zero =>
      intro k hk
      refine zgo (fun pc => Nat.beq pc 11) 200 hX hR rfl ?_
      refine And.intro (fun c1 => ?_) (fun c1 => by omega)
      exact And.intro hly ⟨G, d, gb, hld, by rw [show k = r - 2 by omega]⟩
    | succ m ih =>
      intro k hk
      have h2 := ih (k + 1) (by omega)
      rw [show 2 + ((k + 1 : Nat) : Int) = 2 + (k : Int) + 1 by omega, show lpg (flG (d s) t (G s) : Int) K s t (k + 1) = lpg (flG (d s) t (G s) : Int) K s t k - csp (fun _ => K) 31 (2 + (k : Int)) s t from rfl] at h2
      have cB := c_X9_rankBoth (xl X) (xD X) (xsh X) hs h' (r := 2 + k) (s := (s : Int)) (t := t) (by omega) (by omega) (by omega)
      rw [show ((2 + k : Nat) : Int) = 2 + (k : Int) from rfl] at cB
      refine zgo (fun pc => Nat.beq pc 11) 200 hX hR rfl ?_
      refine And.intro (fun c1 => by omega) (fun c1 => ?_)
      refine qX9_pageAt_238 hX cB hs.o (fun v F2 I2 J2 hv => ?_)
      obtain ⟨rfl, rfl, rfl, rfl⟩ := hv
      exact h2
  exact loop (r - 2) 0 (by omega)
theorem c_X9_page (l : Launch) (D : va_G) (sh : Nat → Option zS) (hs : zWM sh) (h : RSt Fo Io Jo F I J ℓ c n A de K) {r s t : Int} (h1 : zi32 r) (h2 : zi32 s) (h3 : zi32 t) :
    Cn l D yX9_page wsX9_page mX9_page.2.2.2.2 sh [.inr (.inr (some 60)), .inl r, .inl s, .inl t] F I J (fun v F' I' J' => RSt Fo Io Jo F' I' J' ℓ c n A de K ∧ ((¬ pgOK r s t ∧ v = some (.inl (-1))) ∨ (pgOK r s t ∧ sFault A n ≠ none ∧ v = some (.inl (-2))) ∨
      (pgOK r s t ∧ sFault A n = none ∧ ∃ G d gb, TIc A n de 15 G d gb ∧ v = some (.inl (lpg (flG (d s.toNat) t (G s.toNat) : Int) K s t (r.toNat - 2)))))) := by
  refine zmet (M := mX9_page) rfl rfl rfl kX9_page (Nat.le_of_ble_eq_true rfl) (fun X hX hR hl hD hsh => ?_)
  subst hl hD hsh
  have bad : ¬ pgOK r s t → HW X 17 [some (.inr (.inr (some 60))), some (.inl r), some (.inl s), some (.inl t)] [] F I J := fun hn => by
    refine zgo (fun _ => false) 200 hX hR rfl ?_
    exact And.intro h (Or.inl ⟨hn, rfl⟩)
  refine zgo (fun pc => Nat.beq pc 17) 200 hX hR rfl ?_
  refine qX9_page_122 hX (c_X9_in (xl X) (xD X) (xsh X) F I J (x := r) (lo := 2) (hi := 5) h1 ⟨by omega, by omega⟩ ⟨by omega, by omega⟩) (fun v F' I' J' hv => ?_)
  obtain ⟨rfl, rfl, rfl, rfl⟩ := hv
  refine And.intro (fun c1 => bad fun z => ?_) (fun c1 => ?_)
  · rw [if_pos z.1] at c1
    exact absurd c1 (by decide)
  have hr : 2 ≤ r ∧ r ≤ 5 := Decidable.byContradiction fun g => by rw [if_neg g] at c1; exact c1 rfl
  refine qX9_page_216 hX (c_X9_isPlace (xl X) (xD X) (xsh X) F' I' J' h2 h3) (fun v F2 I2 J2 hv => ?_)
  obtain ⟨rfl, rfl, rfl, rfl⟩ := hv
  by_cases hic : icP s t
  · have e1 : zic s t = 1 := if_pos hic
    rw [e1]
    refine And.intro (fun c2 => ?_) (fun c2 => absurd c2 (by decide))
    refine qX9_page_219 hX (c_X9_isSound (xl X) (xD X) (xsh X) hs F2 I2 J2 h.2.2.1.1 h.2.2.1.2.1) hs.o (fun v F3 I3 J3 hv => ?_)
    obtain ⟨rfl, rfl, rfl, rfl⟩ := hv
    have h' := rs_fault h (sFault A n)
    by_cases hz : sFault A n = none
    · rw [if_pos hz]
      refine And.intro (fun c3 => ?_) (fun c3 => absurd c3 (by decide))
      have cL := c_X9_pageAt (xl X) (xD X) (xsh X) hs h' hz (r := r.toNat) (s := s.toNat) (t := t) (by omega) (by omega) (by omega)
      rw [show ((r.toNat : Nat) : Int) = r by omega, show ((s.toNat : Nat) : Int) = s by omega] at cL
      refine qX9_page_241 hX cL hs.o (fun v F4 I4 J4 hv => ?_)
      obtain ⟨hly, G, d, gb, hld, rfl⟩ := hv
      exact And.intro hly.1 (Or.inr (Or.inr ⟨⟨hr, hic⟩, hz, G, d, gb, hld.2.1, rfl⟩))
    · rw [if_neg hz]
      refine And.intro (fun c3 => absurd rfl c3) (fun c3 => ?_)
      exact And.intro h' (Or.inr (Or.inl ⟨⟨hr, hic⟩, hz, rfl⟩))
  · have e1 : zic s t = 0 := if_neg hic
    rw [e1]
    refine And.intro (fun c2 => absurd rfl c2) (fun c2 => bad fun z => hic z.2)
theorem c_X9_count (l : Launch) (D : va_G) (sh : Nat → Option zS) (hs : zWM sh) (h : RSt Fo Io Jo F I J ℓ c n A de K) {w : Int} (h1 : zi32 w) :
    Cn l D yX9_count wsX9_count mX9_count.2.2.2.2 sh [.inr (.inr (some 60)), .inl w] F I J (zself F I J (.inl (act_ ℓ c n K w))) := by
  have g1 := h1
  unfold zi32 at g1
  refine zmet (M := mX9_count) rfl rfl rfl kX9_count (Nat.le_of_ble_eq_true rfl) (fun X hX hR hl hD hsh => ?_)
  subst hl hD hsh
  have hr : (1, Instr.tableswitch 51 0 3 #[31, 36, 41, 46], 31, 0) ∈ mX9_count.2.1 := List.Mem.tail _ (List.Mem.head _)
  have tsw : HW X 1 [some (.inr (.inr (some 60))), some (.inl w)] [.inl w] F I J := by
    by_cases ho : w < 0 ∨ 3 < w
    · refine hw_tabOut hX hr h1 ho (t := 52) rfl ?_
      refine zgo (fun _ => false) 200 hX hR rfl ?_
      refine And.intro ?_ ⟨rfl, rfl, rfl⟩
      unfold act_
      rw [if_neg (by omega), if_neg (by omega), if_neg (by omega), if_neg (by omega)]
    · rcases (show w = 0 ∨ w = 1 ∨ w = 2 ∨ w = 3 by omega) with rfl | rfl | rfl | rfl
      · refine hw_tabIn hX hr h1 (by decide) (by decide) (off := 31) rfl (t := 32) rfl ?_
        refine zgo (fun _ => false) 200 hX hR rfl ?_
        refine Exists.intro _ ⟨hs.o, ?_⟩
        exact And.intro (by rw [h.2.1.1]; rfl) ⟨rfl, rfl, rfl⟩
      · refine hw_tabIn hX hr h1 (by decide) (by decide) (off := 36) rfl (t := 37) rfl ?_
        refine zgo (fun _ => false) 200 hX hR rfl ?_
        refine qX9_count_126 hX (c_X9_wordDegree (xl X) (xD X) (xsh X) hs F I J h.2.1) hs.o (fun v F' I' J' hv => ?_)
        obtain ⟨rfl, rfl, rfl, rfl⟩ := hv
        exact And.intro rfl ⟨rfl, rfl, rfl⟩
      · refine hw_tabIn hX hr h1 (by decide) (by decide) (off := 41) rfl (t := 42) rfl ?_
        refine zgo (fun _ => false) 200 hX hR rfl ?_
        refine Exists.intro _ ⟨hs.o, ?_⟩
        exact And.intro (by rw [h.2.2.1.1.1]; rfl) ⟨rfl, rfl, rfl⟩
      · refine hw_tabIn hX hr h1 (by decide) (by decide) (off := 46) rfl (t := 47) rfl ?_
        refine zgo (fun _ => false) 200 hX hR rfl ?_
        refine Exists.intro _ ⟨hs.o, ?_⟩
        exact And.intro (by rw [h.2.2.2.2.2.2.2]; rfl) ⟨rfl, rfl, rfl⟩
  refine zgo (fun pc => Nat.beq pc 1) 200 hX hR rfl ?_
  exact tsw
end RS
