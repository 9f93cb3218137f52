/-! Tower: carryOver, what it keeps -/
theorem vc_le {ι : Type} {P : Nat} {c : Nat → Bool} {dv : Nat → ι → Bool} (h : ∀ p, P ≤ p → c p = false) : ∀ n, vc (P + n) c dv = vc P c dv := by
  intro n
  induction n with
  | zero => rfl
  | succ n ih => rw [show P + (n + 1) = P + n + 1 from rfl, vc_ext (h (P + n) (by omega)), ih]
/-- the chain at a listed place, and where its generator's places begin -/
def chf (S d : Nat → Nat) (deg : Int) : Nat → Nat → Nat
  | 0, _ => 0
  | h + 1, x => if flP S d deg h ≤ x then bst S (deg - d h) + (x - flP S d deg h) else chf S d deg h x
def tgf (S d : Nat → Nat) (deg t : Int) : Nat → Nat → Nat
  | 0, _ => 0
  | h + 1, x => if flP S d deg h ≤ x then flP S d t h else tgf S d deg t h x
theorem lpk_ca {I : zFi} {ca ta start place target : Nat} (hne : ca ≠ ta) : ∀ k x, lpk I ca ta start place target k ca x = if place ≤ x ∧ x < place + k then ((start + (x - place) : Nat) : Int) else I ca x := by
  intro k
  induction k with
  | zero => intro x; rw [if_neg (by omega)]; rfl
  | succ k ih =>
    intro x
    rw [show lpk I ca ta start place target (k + 1) = zu (zu (lpk I ca ta start place target k) ca (place + k) ((start + k : Nat) : Int)) ta (place + k) (target : Int) from rfl, zu_r hne]
    by_cases e : x = place + k
    · rw [e, zu_s, if_pos (by omega), show place + k - place = k by omega]
    · rw [zu_n (fun z => e z.2), ih x]
      by_cases g : place ≤ x ∧ x < place + k
      · rw [if_pos g, if_pos (by omega)]
      · rw [if_neg g, if_neg (by omega)]
theorem lpk_ta {I : zFi} {ca ta start place target : Nat} (hne : ca ≠ ta) : ∀ k x, lpk I ca ta start place target k ta x = if place ≤ x ∧ x < place + k then (target : Int) else I ta x := by
  intro k
  induction k with
  | zero => intro x; rw [if_neg (by omega)]; rfl
  | succ k ih =>
    intro x
    rw [show lpk I ca ta start place target (k + 1) = zu (zu (lpk I ca ta start place target k) ca (place + k) ((start + k : Nat) : Int)) ta (place + k) (target : Int) from rfl]
    by_cases e : x = place + k
    · rw [e, zu_s, if_pos (by omega)]
    · rw [zu_n (fun z => e z.2), zu_r hne.symm, ih x]
      by_cases g : place ≤ x ∧ x < place + k
      · rw [if_pos g, if_pos (by omega)]
      · rw [if_neg g, if_neg (by omega)]
theorem lph_ok {I : zFi} {ca ta : Nat} {S d : Nat → Nat} {deg t : Int} (hne : ca ≠ ta) (h0 : ∀ n, 0 ≤ bsz S n) : ∀ h x, x < flP S d deg h → lph I ca ta S d deg t h ca x = (chf S d deg h x : Int) ∧ lph I ca ta S d deg t h ta x = (tgf S d deg t h x : Int) := by
  intro h
  induction h with
  | zero => intro x hx; exact absurd hx (Nat.not_lt_zero x)
  | succ h ih =>
    intro x hx
    have e : flP S d deg (h + 1) = flP S d deg h + (bsz S (deg - d h)).toNat := rfl
    rw [show lph I ca ta S d deg t (h + 1) = lpk (lph I ca ta S d deg t h) ca ta (bst S (deg - d h)) (flP S d deg h) (flP S d t h) (bsz S (deg - d h)).toNat from rfl, lpk_ca hne, lpk_ta hne]
    rw [show chf S d deg (h + 1) x = if flP S d deg h ≤ x then bst S (deg - d h) + (x - flP S d deg h) else chf S d deg h x from rfl, show tgf S d deg t (h + 1) x = if flP S d deg h ≤ x then flP S d t h else tgf S d deg t h x from rfl]
    by_cases g : flP S d deg h ≤ x
    · rw [if_pos (by omega), if_pos g, if_pos (by omega), if_pos g]
      exact ⟨rfl, rfl⟩
    · rw [if_neg (by omega), if_neg g, if_neg (by omega), if_neg g]
      exact ih x (by omega)
theorem chf_lt {S d : Nat → Nat} {deg : Int} (hS : ∀ n, bst S n + (bsz S n).toNat ≤ 61) : ∀ h x, x < flP S d deg h → chf S d deg h x < 61 := by
  intro h
  induction h with
  | zero => intro x hx; exact absurd hx (Nat.not_lt_zero x)
  | succ h ih =>
    intro x hx
    have e : flP S d deg (h + 1) = flP S d deg h + (bsz S (deg - d h)).toNat := rfl
    have := hS (deg - d h)
    rw [show chf S d deg (h + 1) x = if flP S d deg h ≤ x then bst S (deg - d h) + (x - flP S d deg h) else chf S d deg h x from rfl]
    split
    · omega
    · exact ih x (by omega)
theorem tgf_le {S d : Nat → Nat} {deg t : Int} : ∀ h x, tgf S d deg t h x ≤ flP S d t h := by
  intro h
  induction h with
  | zero => intro x; exact Nat.le_refl _
  | succ h ih =>
    intro x
    have e : flP S d t (h + 1) = flP S d t h + (bsz S (t - d h)).toNat := rfl
    rw [show tgf S d deg t (h + 1) x = if flP S d deg h ≤ x then flP S d t h else tgf S d deg t h x from rfl]
    split
    · omega
    · have := ih x
      omega
/-- P places are through -/
def coR (F I : zFi) (J : zJi) (F1 I1 : zFi) (J1 : zJi) (va so no pi ca ta cva cso cno W W2 gp C K P : Nat) (dv : Nat → Nat → Bool) : Prop :=
  ((∀ a, a ≠ va → a ≠ so → a ≠ no → F1 a = F a) ∧ (∀ a, a ≠ pi → a ≠ ca → a ≠ ta → I1 a = I a) ∧ (∀ a, a ≠ cva → a ≠ cso → a ≠ cno → J1 a = J a)) ∧
  (bR F1 J1 va cva 905 W C ∧ bR F1 J1 so cso 905 W2 C ∧ bR F1 J1 no cno 900 W2 K) ∧ EchI dv gp P C K (rq J1 cva W) (rq J1 cso W2) (rq J1 cno W2) (I1 pi)
theorem coR.list {F I : zFi} {J : zJi} {F1 I1 : zFi} {J1 : zJi} {va so no pi ca ta cva cso cno W W2 gp C K P : Nat} {dv : Nat → Nat → Bool} (h : coR F I J F1 I1 J1 va so no pi ca ta cva cso cno W W2 gp C K P dv) {I2 : zFi} (hI : ∀ a, a ≠ ca → a ≠ ta → I2 a = I1 a) (h1 : pi ≠ ca) (h2 : pi ≠ ta) : coR F I J F1 I2 J1 va so no pi ca ta cva cso cno W W2 gp C K P dv := by
  obtain ⟨⟨a1, a2, a3⟩, b, c⟩ := h
  refine ⟨⟨a1, fun a g1 g2 g3 => by rw [hI a g2 g3, a2 a g1 g2 g3], a3⟩, b, ?_⟩
  rw [hI pi h1 h2]
  exact c
/-- what bounds the rows -/
def limV (dv : Nat → Nat → Bool) (Pt : Nat) : Prop := ∀ n (w : Nat → Nat → Bool), Ind n w → (∀ i, i < n → ∃ c, w i = vc Pt c dv) → n ≤ 180
def limK (dv : Nat → Nat → Bool) (Pt : Nat) : Prop := ∀ n (w : Nat → Nat → Bool), Ind n w → (∀ i, i < n → (∀ p, Pt ≤ p → w i p = false) ∧ vc Pt (w i) dv = v0) → n ≤ 180
theorem EchI.limC {dv : Nat → Nat → Bool} {gp P C K : Nat} {v s nb : Nat → Nat → Bool} {pv : Nat → Int} {Pt : Nat} (h : EchI dv gp P C K v s nb pv) (hV : limV dv Pt) (hP : P ≤ Pt) : C ≤ 180 := by
  refine hV C v h.1.ind (fun i hi => ⟨s i, ?_⟩)
  have := vc_le (dv := dv) (h.2.2.2.1.1 i hi) (Pt - P)
  rw [show P + (Pt - P) = Pt by omega] at this
  rw [this, h.2.1 i hi]
theorem EchI.limN {dv : Nat → Nat → Bool} {gp P C K : Nat} {v s nb : Nat → Nat → Bool} {pv : Nat → Int} {Pt : Nat} (h : EchI dv gp P C K v s nb pv) (hK : limK dv Pt) (hP : P ≤ Pt) : K ≤ 180 := by
  refine hK K nb h.2.2.2.2.2.1 (fun i hi => ⟨fun p hp => h.2.2.2.1.2 i hi p (by omega), ?_⟩)
  have := vc_le (dv := dv) (h.2.2.2.1.2 i hi) (Pt - P)
  rw [show P + (Pt - P) = Pt by omega] at this
  rw [this, h.2.2.1 i hi]
/-- the row of place P, kept or dropped -/
theorem coR.next {F I : zFi} {J : zJi} {F1 I1 : zFi} {J1 : zJi} {va so no pi ca ta cva cso cno W W2 gp C K P Pt : Nat} {dv : Nat → Nat → Bool} (h : coR F I J F1 I1 J1 va so no pi ca ta cva cso cno W W2 gp C K P dv)
    (hne : cva ≠ cso) (hn1 : no ≠ va ∧ no ≠ so) (hvs : va ≠ so) (hn2 : cno ≠ cva ∧ cno ≠ cso) (hW : gp ≤ 64 * W) {F2 : zFi} {J2 : zJi} (hF : F2 = zu (zu F1 va 2 ((C + 1 : Nat) : Int)) so 2 ((C + 1 : Nat) : Int)) (hJ : ∀ a, a ≠ cva → a ≠ cso → J2 a = J1 a)
    (hv : bR F2 J2 va cva 905 W (C + 1)) (hs : bR F2 J2 so cso 905 W2 (C + 1)) (r1 : ∀ i, i < C → rq J2 cva W i = rq J1 cva W i) (r2 : rq J2 cva W C = dv P) (r3 : ∀ i, i < C → rq J2 cso W2 i = rq J1 cso W2 i) (r4 : ∀ q, rq J2 cso W2 C q = decide (q = P)) (hsup : ∀ q, gp ≤ q → dv P q = false) (hP : P < Pt) (hK : limK dv Pt) {F' I' : zFi} {J' : zJi}
    (hpost : ∃ cf J3, rdC cf J2 J3 cva cso W W2 C ∧
      ((∃ t : Nat, t < gp ∧ I1 pi t = -1 ∧ rq J3 cva W C t = true ∧ (∀ q, q < t → rq J3 cva W C q = false) ∧ F' = F2 ∧ I' = zu I1 pi t (C : Int) ∧ J' = J3) ∨
       ((∀ q, rq J3 cva W C q = false) ∧ F' = zu (zu (zu F2 no 2 ((K + 1 : Nat) : Int)) va 2 (C : Int)) so 2 (C : Int) ∧ I' = I1 ∧ J' = bcp J3 cno W2 K cso W2 (C + 1) (C : Int) W2))) :
    ∃ C' K', coR F I J F' I' J' va so no pi ca ta cva cso cno W W2 gp C' K' (P + 1) dv := by
  obtain ⟨⟨a1, a2, a3⟩, ⟨b1, b2, b3⟩, c⟩ := h
  obtain ⟨cf, J3, ⟨e1, e2, e3, e4, e5, e6, e7⟩, hpost⟩ := hpost
  have w1 : ∀ i, i < C → rq J3 cva W i = rq J1 cva W i := fun i hi => by
    funext q
    rw [e4 i (by omega)]
    exact congrFun (r1 i hi) q
  have w2 : ∀ i, i < C → rq J3 cso W2 i = rq J1 cso W2 i := fun i hi => by
    funext q
    rw [e5 i (by omega)]
    exact congrFun (r3 i hi) q
  have w3 : rq J3 cva W C = vx (dv P) (vc C cf (rq J1 cva W)) := by
    funext q
    rw [e6 q, r2]
    unfold vx
    congr 1
    exact congrFun (vc_congr (fun _ _ => rfl) r1) q
  have w4 : ∀ q, rq J3 cso W2 C q = (decide (q = P) ^^ vc C cf (rq J1 cso W2) q) := fun q => by
    rw [e7 q, r4]
    congr 1
    exact congrFun (vc_congr (fun _ _ => rfl) r3) q
  have jn : J3 cno = J1 cno := by rw [e1 cno hn2.1 hn2.2, hJ cno hn2.1 hn2.2]
  have ja : ∀ a, a ≠ cva → a ≠ cso → a ≠ cno → J3 a = J a := fun a g1 g2 g3 => by rw [e1 a g1 g2, hJ a g1 g2, a3 a g1 g2 g3]
  have F2v : ∀ a, a ≠ va → a ≠ so → F2 a = F1 a := fun a g1 g2 => by rw [hF, zu_r g2, zu_r g1]
  rcases hpost with ⟨t, t1, t2, t3, t4, rfl, rfl, rfl⟩ | ⟨hz, rfl, rfl, rfl⟩
  · refine ⟨C + 1, K, ⟨⟨fun a g1 g2 g3 => by rw [F2v a g1 g2, a1 a g1 g2 g3], fun a g1 g2 g3 => by rw [zu_r g1, a2 a g1 g2 g3], ja⟩, ⟨hv.of e2, hs.of e3, b3.frame (F2v no hn1.1 hn1.2) jn⟩, ?_⟩⟩
    refine c.keep w1 w2 (fun j _ => by funext q; exact rq_of jn j q) w3 w4 t1 t2 t3 t4 (fun q hq => ?_) (fun x _ => ?_)
    · rw [w3]
      unfold vx
      rw [hsup q hq, Bool.false_xor]
      exact xs_zero' fun i hi => by rw [c.1.2.2 i hi q hq, Bool.and_false]
    · unfold zu
      by_cases e : x = t
      · rw [if_pos ⟨rfl, e⟩, if_pos e]
      · rw [if_neg (fun z => e z.2), if_neg e]
  · have hz2 : vx (dv P) (vc C cf (rq J1 cva W)) = v0 := by
      rw [← w3]
      funext q
      exact hz q
    have hs3 : bR F2 J3 so cso 905 W2 (C + 1) := hs.of e3
    have n1 : ∀ j, j < K → rq (bcp J3 cno W2 K cso W2 (C + 1) (C : Int) W2) cno W2 j = rq J1 cno W2 j := fun j hj => by
      funext q
      rw [rq_bcp (by omega), rq_of jn]
    have n2 : ∀ q, rq (bcp J3 cno W2 K cso W2 (C + 1) (C : Int) W2) cno W2 K q = (decide (q = P) ^^ vc C cf (rq J1 cso W2) q) := fun q => by
      rw [rq_bcp0 (by omega), ← w4 q]
      by_cases hq : q < 64 * W2
      · rw [decide_eq_true hq, Bool.true_and]
      · rw [rq_out (by omega), Bool.and_false]
    have n3 : ∀ i, i < C → rq (bcp J3 cno W2 K cso W2 (C + 1) (C : Int) W2) cva W i = rq J1 cva W i := fun i hi => by
      rw [← w1 i hi]
      funext q
      exact rq_of (bcp_r hn2.1.symm) i q
    have n4 : ∀ i, i < C → rq (bcp J3 cno W2 K cso W2 (C + 1) (C : Int) W2) cso W2 i = rq J1 cso W2 i := fun i hi => by
      rw [← w2 i hi]
      funext q
      exact rq_of (bcp_r hn2.2.symm) i q
    have cN := c.drop (pv' := I' pi) n3 n4 n1 hz2 n2 (fun _ _ => rfl)
    have hK1 := cN.limN hK (by omega)
    have hW5 := hs.2.2.2.2.1
    have hb3 : bR F2 J3 no cno 900 W2 K := b3.frame (F2v no hn1.1 hn1.2) jn
    refine ⟨C, K + 1, ⟨⟨fun a g1 g2 g3 => ?_, a2, fun a g1 g2 g3 => ?_⟩, ⟨?_, ?_, ?_⟩, cN⟩⟩
    · rw [zu_r g2, zu_r g1, zu_r g3, F2v a g1 g2, a1 a g1 g2 g3]
    · rw [bcp_r g3, ja a g1 g2 g3]
    · exact (((hv.of e2).frame (F' := zu F2 no 2 ((K + 1 : Nat) : Int)) (zu_r hn1.1.symm) (J' := J3) rfl).count (C' := C) b1.2.2.1).frame (zu_r hvs) (bcp_r hn2.1.symm)
    · exact ((hs3.frame (F' := zu (zu F2 no 2 ((K + 1 : Nat) : Int)) va 2 (C : Int)) ((zu_r hvs.symm).trans (zu_r hn1.2.symm)) (J' := J3) rfl).count (C' := C) b2.2.2.1).frame rfl (bcp_r hn2.2.symm)
    · exact ((hb3.count (C' := K + 1) (mul5 (M := 180) hK1 hW5)).of (bcp_lt hb3.lt hs3)).frame (by rw [zu_r hn1.2, zu_r hn1.1]) rfl
theorem coR.room {F I : zFi} {J : zJi} {F1 I1 : zFi} {J1 : zJi} {va so no pi ca ta cva cso cno W W2 gp C K P Pt : Nat} {dv : Nat → Nat → Bool} (h : coR F I J F1 I1 J1 va so no pi ca ta cva cso cno W W2 gp C K P dv) {J2 : zJi} (r1 : ∀ i, i < C → rq J2 cva W i = rq J1 cva W i) (r2 : rq J2 cva W C = dv P) (hP : P < Pt) (hK : limK dv Pt) : ∀ cf, (∀ q, (rq J2 cva W C q ^^ vc C cf (rq J2 cva W) q) = false) → K < 180 := by
  intro cf hz
  obtain ⟨-, -, c⟩ := h
  have hz2 : vx (dv P) (vc C cf (rq J1 cva W)) = v0 := by
    funext q
    have := hz q
    rw [r2, congrFun (vc_congr (w' := rq J1 cva W) (fun _ _ => rfl) r1) q] at this
    exact this
  have cN := c.drop (v' := rq J1 cva W) (s' := rq J1 cso W2) (nb' := fun j => if j = K then (fun q => decide (q = P) ^^ vc C cf (rq J1 cso W2) q) else rq J1 cno W2 j) (pv' := I1 pi) (fun _ _ => rfl) (fun _ _ => rfl) (fun j hj => if_neg (by omega)) hz2 (fun q => by rw [if_pos rfl]) (fun _ _ => rfl)
  have := cN.limN hK (by omega)
  omega
theorem flR.frame {F F' I I' : zFi} {p dg g : Nat} {d : Nat → Nat} (h : flR F I p dg g d) (e1 : F' p = F p) (e2 : I' dg = I dg) : flR F' I' p dg g d := ⟨by rw [e1]; exact h.1, h.2.1, fun j hj => by rw [e2]; exact h.2.2 j hj⟩
theorem sqT_of {I I' : zFi} {pr : Nat} {P : Nat → Nat → Nat} (h : sqT I pr P) (e : I' pr = I pr) : sqT I' pr P := fun u v hu hv => by rw [e]; exact h u v hu hv
