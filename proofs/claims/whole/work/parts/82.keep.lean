/-! Tower: keepOrDrop -/
theorem bR.frame {F F' : zFi} {J J' : zJi} {k c m W C : Nat} (h : bR F J k c m W C) (eF : F' k = F k) (eJ : J' c = J c) : bR F' J' k c m W C :=
  ⟨by rw [eF]; exact h.1, by rw [eF]; exact h.2.1, h.2.2.1, h.2.2.2.1, h.2.2.2.2.1, h.2.2.2.2.2.1, fun j => by rw [eJ]; exact h.lt j⟩
theorem bR.count {F : zFi} {J : zJi} {k c m W C C' : Nat} (h : bR F J k c m W C) (hC : C' * W ≤ m) : bR (zu F k 2 ((C' : Nat) : Int)) J k c m W C' :=
  ⟨by rw [zu_n (by omega)]; exact h.1, zu_s _ _ _ _, hC, h.2.2.2.1, h.2.2.2.2.1, h.2.2.2.2.2.1, h.lt⟩
theorem mul5 {C W M : Nat} (hC : C ≤ M) (hW : W ≤ 5) : C * W ≤ M * 5 := Nat.mul_le_mul hC hW
theorem c_X7_keepOrDrop (l : Launch) (D : va_G) (sh : Nat → Option zS) {p b sq sp fl kn va so pi ca ta ke cva cso no cno : Nat} {P : Nat → Nat} (hs : zsTw sh p b sq sp fl kn va so pi ca ta ke P) (hva : zsBits sh va cva 905) (hso : zsBits sh so cso 905) (hno : zsBits sh no cno 900) (hpi : ∃ cA, sh pi = some (.inr (.inl (cA, 320)))) (hne : cva ≠ cso) (hn1 : no ≠ va ∧ no ≠ so) (hvs : va ≠ so) (hn2 : cno ≠ cva ∧ cno ≠ cso)
    (F I : zFi) (J : zJi) {W W2 r gp K : Nat} (hv : bR F J va cva 905 W (r + 1)) (hS : bR F J so cso 905 W2 (r + 1)) (hN : bR F J no cno 900 W2 K) (hgp : gp ≤ 320) (hp : pvR I J pi cva W r gp) (hroom : ∀ cf, (∀ q, (rq J cva W r q ^^ vc r cf (rq J cva W) q) = false) → K < 180) :
    Cn l D yX7_keepOrDrop wsX7_keepOrDrop mX7_keepOrDrop.2.2.2.2 sh [.inr (.inr (some p)), .inl (r : Int), .inr (.inr (some no))] F I J (fun v F' I' J' => v = none ∧ ∃ cf J1, rdC cf J J1 cva cso W W2 r ∧
      ((∃ t : Nat, t < gp ∧ I pi t = -1 ∧ rq J1 cva W r t = true ∧ (∀ q, q < t → rq J1 cva W r q = false) ∧ F' = F ∧ I' = zu I pi t (r : Int) ∧ J' = J1) ∨
       ((∀ q, rq J1 cva W r q = false) ∧ F' = zu (zu (zu F no 2 ((K + 1 : Nat) : Int)) va 2 (r : Int)) so 2 (r : Int) ∧ I' = I ∧ J' = bcp J1 cno W2 K cso W2 (r + 1) (r : Int) W2))) := by
  have hC := hv.C
  have hW5 := hS.2.2.2.2.1
  refine zmet (M := mX7_keepOrDrop) rfl rfl rfl kX7_keepOrDrop (Nat.le_of_ble_eq_true rfl) (fun X hX hR hl hD hsh => ?_)
  subst hl hD hsh
  refine zgo (fun _ => false) 200 hX hR rfl ?_
  refine qX7_keepOrDrop_177 hX (c_X7_reduce (xl X) (xD X) (xsh X) hs hva hso hpi hne F I J hv hS (r := r) (Nat.lt_succ_self r) hgp hp) hs.1 (fun v F' I' J' hv' => ?_)
  obtain ⟨rfl, rfl, cf, x, rfl, hrd, hx⟩ := hv'
  rcases hx with ⟨rfl, hz⟩ | ⟨t, t1, rfl, t2, t3, t4⟩
  · have hK : K < 180 := hroom cf (fun q => by rw [← hrd.2.2.2.2.2.1 q]; exact hz q)
    have hN1 : bR F' J' no cno 900 W2 K := hN.frame rfl (hrd.1 cno hn2.1 hn2.2)
    have hv1 : bR F' J' va cva 905 W (r + 1) := hv.of hrd.2.1
    have hS1 : bR F' J' so cso 905 W2 (r + 1) := hS.of hrd.2.2.1
    refine And.intro (fun c2 => ?_) (fun c2 => absurd (by decide) c2)
    refine And.intro (fun c3 => by omega) (fun c3 => ?_)
    refine Exists.intro _ ⟨hs.1, ?_⟩
    refine qX7_keepOrDrop_180 hX (c_X1_copy (xl X) (xD X) (xsh X) hno hso (fun e => hn1.2 e.symm) (fun e => hn2.2 e.symm) F' I' J' hN1 hS1 (mul5 (M := 180) (by omega) hW5) (row := (r : Int)) ⟨by omega, by omega⟩) hno.1 (fun v F2 I2 J2 hv' => ?_)
    obtain ⟨rfl, rfl, rfl, rfl⟩ := hv'
    refine Exists.intro _ ⟨hs.1, ?_⟩
    refine qX7_keepOrDrop_184 hX (c_X1_dropLast (xl X) (xD X) (xsh X) hva _ _ _ (hv1.frame (zu_r (fun e => hn1.1 e.symm)) (bcp_r (fun e => hn2.1 e.symm)))) hva.1 (fun v F3 I3 J3 hv' => ?_)
    obtain ⟨rfl, rfl, rfl, rfl⟩ := hv'
    refine Exists.intro _ ⟨hs.1, ?_⟩
    refine qX7_keepOrDrop_184 hX (c_X1_dropLast (xl X) (xD X) (xsh X) hso _ _ _ (hS1.frame ((zu_r (fun e => hvs e.symm)).trans (zu_r (fun e => hn1.2 e.symm))) (bcp_r (fun e => hn2.2 e.symm)))) hso.1 (fun v F4 I4 J4 hv' => ?_)
    obtain ⟨rfl, rfl, rfl, rfl⟩ := hv'
    exact And.intro rfl ⟨cf, _, hrd, Or.inr ⟨hz, rfl, rfl, rfl⟩⟩
  · obtain ⟨cA, hpi⟩ := hpi
    refine And.intro (fun c2 => by omega) (fun c2 => ?_)
    refine Exists.intro _ ⟨hs.1, ?_⟩
    refine Exists.intro _ ⟨hpi, ?_⟩
    refine And.intro (fun c3 => by omega) (fun c3 => ?_)
    refine Exists.intro _ ⟨hs.1, ?_⟩
    refine Exists.intro _ ⟨_, t, hpi, rfl, by omega, ?_⟩
    exact And.intro rfl ⟨cf, _, hrd, Or.inl ⟨t, t1, t2, t3, t4, rfl, rfl, rfl⟩⟩
