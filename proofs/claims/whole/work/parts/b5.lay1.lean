/-! the reference: lays, its first part: what the generators there reach -/
/-- words copied -/
def cpW (J : zJi) (q lo : Nat) (f : Nat → Nat) (k : Nat) : zJi := fun a b => if a = q ∧ lo ≤ b ∧ b < lo + k then f (b - lo) else J a b
theorem cpW_0 (J : zJi) (q lo : Nat) (f : Nat → Nat) : cpW J q lo f 0 = J := by
  funext a b
  unfold cpW
  rw [if_neg (by omega)]
theorem cpW_step (J : zJi) (q lo : Nat) (f : Nat → Nat) (k : Nat) : zw (cpW J q lo f k) q (lo + k) (f k) = cpW J q lo f (k + 1) := by
  funext a b
  unfold zw cpW
  by_cases h1 : a = q ∧ b = lo + k
  · rw [if_pos h1, if_pos ⟨h1.1, by omega, by omega⟩, h1.2, show lo + k - lo = k by omega]
  · rw [if_neg h1]
    by_cases h2 : a = q ∧ lo ≤ b ∧ b < lo + k
    · rw [if_pos h2, if_pos ⟨h2.1, by omega, by omega⟩]
    · rw [if_neg h2, if_neg (by omega)]
theorem cpW_r {J : zJi} {q lo : Nat} {f : Nat → Nat} {k a : Nat} (h : a ≠ q) : cpW J q lo f k a = J a := by
  funext b
  unfold cpW
  rw [if_neg (fun z => h z.1)]
theorem cpW_lt {J : zJi} {q lo : Nat} {f : Nat → Nat} {k : Nat} (h : ∀ j, J q j < 18446744073709551616) (hf : ∀ j, f j < 18446744073709551616) : ∀ j, cpW J q lo f k q j < 18446744073709551616 := by
  intro j
  unfold cpW
  split
  · exact hf _
  · exact h j
theorem rq_cpW {J : zJi} {q i : Nat} {f : Nat → Nat} (p : Nat) : rq (cpW J q (5 * i) f 5) q 5 i p = (decide (p < 320) && (f (p / 64)).testBit (p % 64)) := by
  by_cases hp : p < 64 * 5
  · rw [rq_in hp, decide_eq_true (show p < 320 by omega), Bool.true_and]
    unfold cpW
    rw [if_pos ⟨rfl, by omega, by omega⟩, show i * 5 + p / 64 - 5 * i = p / 64 by omega]
  · rw [rq_out (by omega), decide_eq_false (show ¬ p < 320 by omega), Bool.false_and]
theorem rq_cpW_o {J : zJi} {q i j : Nat} {f : Nat → Nat} (h : j ≠ i) (p : Nat) : rq (cpW J q (5 * i) f 5) q 5 j p = rq J q 5 j p := by
  by_cases hp : p < 64 * 5
  · rw [rq_in hp, rq_in hp]
    unfold cpW
    rw [if_neg (by omega)]
  · rw [rq_out (by omega), rq_out (by omega)]
/-- kept rows: what they are, of which places -/
def rv (J : zJi) (i p : Nat) : Bool := decide (p < 320) && rq J 75 10 i p
def rs (J : zJi) (i q : Nat) : Bool := decide (q < 320) && rq J 75 10 i (320 + q)
def lyR (F I : zFi) (J : zJi) (F1 I1 : zFi) (J1 : zJi) (P C K : Nat) (dv : Nat → Nat → Bool) : Prop :=
  ((∀ a, a ≠ 60 → F1 a = F a) ∧ (∀ j, j ≠ 22 → j ≠ 28 → F1 60 j = F 60 j) ∧ (∀ a, a ≠ 76 → I1 a = I a) ∧ ∀ a, a ≠ 75 → a ≠ 77 → a ≠ 79 → J1 a = J a) ∧
  (F1 60 22 = (C : Int) ∧ F1 60 28 = (K : Int)) ∧ (∃ L, rwR I1 J1 C L) ∧ ((∀ j, J1 77 j < 18446744073709551616) ∧ ∀ j, J1 79 j < 18446744073709551616) ∧ Rst dv P C K (rv J1) (rs J1) (fun j => rq J1 79 5 j)
/-- the row of a place before it is reduced -/
def nwR (J2 : zJi) (P : Nat) (dv : Nat → Nat → Bool) : Prop := (∀ p, p < 320 → rq J2 77 10 0 p = dv P p) ∧ ∀ q, q < 320 → rq J2 77 10 0 (320 + q) = decide (q = P)
theorem rv_half {J : zJi} {C : Nat} {cf : Nat → Bool} {p : Nat} (hp : p < 320) : vc C cf (rv J) p = vc C cf (rq J 75 10) p := by
  unfold vc rv
  exact xs_congr fun i _ => by rw [decide_eq_true hp, Bool.true_and]
theorem rs_half {J : zJi} {C : Nat} {cf : Nat → Bool} {q : Nat} (hq : q < 320) : vc C cf (rs J) q = vc C cf (rq J 75 10) (320 + q) := by
  unfold vc rs
  exact xs_congr fun i _ => by rw [decide_eq_true hq, Bool.true_and]
theorem rv_out {J : zJi} {C : Nat} {cf : Nat → Bool} {p : Nat} (hp : 320 ≤ p) : vc C cf (rv J) p = false := xs_zero' fun i _ => by
  unfold rv
  rw [decide_eq_false (by omega), Bool.false_and, Bool.and_false]
theorem rs_out {J : zJi} {C : Nat} {cf : Nat → Bool} {p : Nat} (hp : 320 ≤ p) : vc C cf (rs J) p = false := xs_zero' fun i _ => by
  unfold rs
  rw [decide_eq_false (by omega), Bool.false_and, Bool.and_false]
/-- keep: the new rows -/
theorem lyR.keep {F I : zFi} {J : zJi} {F1 I1 : zFi} {J1 J2 J3 : zJi} {P C K : Nat} {dv : Nat → Nat → Bool} (h : lyR F I J F1 I1 J1 P C K dv) {L : Nat → Nat} (hL : rwR I1 J1 C L) (hP : P < 320) (hC : C < 400) (hdv : ∀ q, 320 ≤ q → dv P q = false)
    (a2 : ∀ a, a ≠ 77 → J2 a = J1 a) (hn : nwR J2 P dv) {cf : Nat → Bool} (hr : rdM cf J2 J3 C) (hz : ∀ j, j < C → rq J3 77 10 0 (L j) = false) {x : Nat} (hx : x < 320) (hx1 : rq J3 77 10 0 x = true) :
    lyR F I J (zu F1 60 22 ((C : Int) + 1)) (zu I1 76 C (x : Int)) (kpR J3 C 10) (P + 1) (C + 1) K dv := by
  obtain ⟨⟨f1, f2, f3, f4⟩, ⟨g1, g2⟩, -, ⟨j1, j2⟩, hst⟩ := h
  obtain ⟨r1, r2, r3⟩ := hr
  have J75 : J3 75 = J1 75 := (r1 75 (by decide)).trans (a2 75 (by decide))
  have J75' : J2 75 = J1 75 := a2 75 (by decide)
  have J79 : kpR J3 C 10 79 = J1 79 := (kpR_r (by decide)).trans ((r1 79 (by decide)).trans (a2 79 (by decide)))
  have old : ∀ i, i < C → ∀ p, rq (kpR J3 C 10) 75 10 i p = rq J1 75 10 i p := fun i hi p => by rw [kpR_old (by omega), rq_of J75]
  have new : ∀ p, rq (kpR J3 C 10) 75 10 C p = (rq J2 77 10 0 p ^^ vc C cf (rq J1 75 10) p) := fun p => by
    rw [kpR_new, r3 p]
    congr 1
    exact congrFun (vc_congr (fun _ _ => rfl) (fun i _ => funext fun q => rq_of J75' i q)) p
  refine ⟨⟨fun a ha => by rw [zu_r ha]; exact f1 a ha, fun j h1 h2 => by rw [zu_n (fun z => h1 z.2)]; exact f2 j h1 h2, fun a ha => by rw [zu_r ha]; exact f3 a ha, fun a h1 h2 h3 => by rw [kpR_r h1, r1 a h2, a2 a h2]; exact f4 a h1 h2 h3⟩, ⟨by rw [zu_s]; rfl, by rw [zu_n (by decide)]; exact g2⟩, ⟨fun i => if i = C then x else L i, fun i hi => ?_, fun j => ?_⟩, ⟨fun j => ?_, fun j => by rw [J79]; exact j2 j⟩, ?_⟩
  · by_cases e : i = C
    · subst e
      dsimp only
      rw [if_pos rfl]
      refine ⟨zu_s _ _ _ _, hx, by rw [kpR_new]; exact hx1, fun j hj => ?_⟩
      rw [if_neg (by omega), kpR_new]
      exact hz j hj
    · obtain ⟨l1, l2, l3, l4⟩ := hL.1 i (by omega)
      dsimp only
      rw [if_neg e]
      refine ⟨by rw [zu_n (fun z => e z.2)]; exact l1, l2, by rw [old i (by omega)]; exact l3, fun j hj => ?_⟩
      rw [if_neg (by omega), old i (by omega)]
      exact l4 j hj
  · unfold kpR
    split
    · exact r2 _
    · rw [J75]
      exact hL.2 j
  · rw [kpR_r (by decide)]
    exact r2 j
  · refine hst.keep (cf := cf) (fun i hi => ?_) (fun i hi => ?_) (fun j hj => ?_) ?_ (fun p => ?_)
    · funext p
      unfold rv
      rw [old i hi]
    · funext p
      unfold rs
      rw [old i hi]
    · funext p
      exact rq_of J79 j p
    · funext p
      unfold vx
      by_cases hp : p < 320
      · rw [rv_half hp]
        unfold rv
        rw [decide_eq_true hp, Bool.true_and, new, hn.1 p hp]
      · rw [rv_out (by omega), hdv p (by omega)]
        unfold rv
        rw [decide_eq_false hp]
        rfl
    · by_cases hp : p < 320
      · rw [rs_half hp]
        unfold rs
        rw [decide_eq_true hp, Bool.true_and, new, hn.2 p hp]
      · rw [rs_out (by omega)]
        unfold rs
        rw [decide_eq_false hp, decide_eq_false (by omega)]
        rfl
theorem lyR.drop {F I : zFi} {J : zJi} {F1 I1 : zFi} {J1 J2 J3 : zJi} {P C K : Nat} {dv : Nat → Nat → Bool} (h : lyR F I J F1 I1 J1 P C K dv) {L : Nat → Nat} (hL : rwR I1 J1 C L) (hP : P < 320) (hdv : ∀ q, 320 ≤ q → dv P q = false)
    (a2 : ∀ a, a ≠ 77 → J2 a = J1 a) (hn : nwR J2 P dv) {cf : Nat → Bool} (hr : rdM cf J2 J3 C) (hz : ∀ p, p < 320 → rq J3 77 10 0 p = false) :
    lyR F I J (zu F1 60 28 ((K : Int) + 1)) I1 (cpW J3 79 (5 * K) (fun k => J3 77 (5 + k)) 5) (P + 1) C (K + 1) dv := by
  obtain ⟨⟨f1, f2, f3, f4⟩, ⟨g1, g2⟩, -, ⟨j1, j2⟩, hst⟩ := h
  obtain ⟨r1, r2, r3⟩ := hr
  have J75 : cpW J3 79 (5 * K) (fun k => J3 77 (5 + k)) 5 75 = J1 75 := (cpW_r (by decide)).trans ((r1 75 (by decide)).trans (a2 75 (by decide)))
  have J75' : J2 75 = J1 75 := a2 75 (by decide)
  have J79' : J3 79 = J1 79 := (r1 79 (by decide)).trans (a2 79 (by decide))
  have now : ∀ p, rq J3 77 10 0 p = (rq J2 77 10 0 p ^^ vc C cf (rq J1 75 10) p) := fun p => by
    rw [r3 p]
    congr 1
    exact congrFun (vc_congr (fun _ _ => rfl) (fun i _ => funext fun q => rq_of J75' i q)) p
  have new : ∀ q, rq (cpW J3 79 (5 * K) (fun k => J3 77 (5 + k)) 5) 79 5 K q = (decide (q < 320) && rq J3 77 10 0 (320 + q)) := fun q => by
    rw [rq_cpW]
    by_cases hq : q < 320
    · rw [decide_eq_true hq, Bool.true_and, Bool.true_and, rq_in (by omega), show 0 * 10 + (320 + q) / 64 = 5 + q / 64 by omega, show (320 + q) % 64 = q % 64 by omega]
    · rw [decide_eq_false hq, Bool.false_and, Bool.false_and]
  refine ⟨⟨fun a ha => by rw [zu_r ha]; exact f1 a ha, fun j h1 h2 => by rw [zu_n (fun z => h2 z.2)]; exact f2 j h1 h2, f3, fun a h1 h2 h3 => by rw [cpW_r h3, r1 a h2, a2 a h2]; exact f4 a h1 h2 h3⟩, ⟨by rw [zu_n (by decide)]; exact g1, by rw [zu_s]; rfl⟩, ⟨L, fun i hi => ?_, fun j => by rw [J75]; exact hL.2 j⟩, ⟨fun j => by rw [cpW_r (by decide)]; exact r2 j, cpW_lt (fun j => by rw [J79']; exact j2 j) (fun j => r2 _)⟩, ?_⟩
  · obtain ⟨l1, l2, l3, l4⟩ := hL.1 i hi
    exact ⟨l1, l2, by rw [rq_of J75]; exact l3, fun j hj => by rw [rq_of J75]; exact l4 j hj⟩
  · refine hst.drop (cf := cf) (fun i hi => ?_) (fun i hi => ?_) (fun j hj => ?_) ?_ (fun p => ?_)
    · funext p
      unfold rv
      rw [rq_of J75]
    · funext p
      unfold rs
      rw [rq_of J75]
    · funext p
      rw [rq_cpW_o (by omega)]
      exact rq_of J79' j p
    · funext p
      unfold vx
      by_cases hp : p < 320
      · rw [rv_half hp, ← hn.1 p hp, ← now]
        exact hz p hp
      · rw [rv_out (by omega), hdv p (by omega)]
        rfl
    · rw [new]
      by_cases hp : p < 320
      · rw [rs_half hp, decide_eq_true hp, Bool.true_and, now, hn.2 p hp]
      · rw [rs_out (by omega), decide_eq_false hp, decide_eq_false (by omega)]
        rfl
theorem pps_lim {d : Nat → Nat} {G deg t c lim lim' : Nat} {goal : Nat → Bool} (ht : t ≤ 14) (hc : c < 61) (hcd : deg + dgA c = t) (h1 : flP aS d t G ≤ lim) (h2 : flP aS d t G ≤ lim') (q : Nat) : pps goal (fun x => aGP c (chf aS d deg G x)) (tgf aS d deg t G) lim (flP aS d deg G) q = pps goal (fun x => aGP c (chf aS d deg G x)) (tgf aS d deg t G) lim' (flP aS d deg G) q := by
  rcases Nat.lt_or_ge q (flP aS d t G) with g | g
  · unfold pps
    refine xs_congr fun x _ => ?_
    congr 2
    exact decide_eq_decide.mpr ⟨fun z => ⟨z.1, by omega⟩, fun z => ⟨z.1, by omega⟩⟩
  · rw [pps_out ht hc hcd g, pps_out ht hc hcd g]
