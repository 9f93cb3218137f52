/-! the law: from its entry -/
set_option maxHeartbeats 4000000 in
set_option maxRecDepth 10000 in
theorem whole_start {p : Program} {e : Env} {s : State} {m : MethodId} {below : List Frame} {meth : Method} {c : Code} (l : Launch) (hflags : l.flags = flags0) {b L : Nat} {xs : Nat → Int32} (hL : L ≤ 2560) (C0 : lw_At p s m meth c b L xs) : W p l e room_1 s m #[Value.ref b] below meth c s.heap [] 0 0 (lw_Z below #[Value.ref b] s) (entryFrame m ([Value.ref b] : List Value).toArray 4) := by
  obtain ⟨hx, hb, hr, hml, hown, hts, hXs, hbl, hlocks, hgv⟩ := id C0
  have htsL : ∀ w ∈ wsL_law, w.before #[Value.ref b] s = true := fun w hw => hts w (wsL_law_in w hw)
  obtain ⟨dC, dI, hKc⟩ := lw_known hts
  have hK : va_K (dC, dI) vwCl [] s := ⟨hKc, fun k q h => by cases h⟩
  have hNw : ∀ w ∈ zNest, va_Nw w s := List.forall_mem_cons.mpr ⟨va_Nw.of rfl (hts _ (lwN _ (List.mem_of_getElem? (i := 0) rfl))), List.forall_mem_cons.mpr ⟨va_Nw.of rfl (hts _ (lwN _ (List.mem_of_getElem? (i := 1) rfl))), List.forall_mem_cons.mpr ⟨va_Nw.of rfl (hts _ (lwN _ (List.mem_of_getElem? (i := 2) rfl))), List.forall_mem_cons.mpr ⟨va_Nw.of rfl (hts _ (lwN _ (List.mem_of_getElem? (i := 3) rfl))), List.forall_mem_cons.mpr ⟨va_Nw.of rfl (hts _ (lwN _ (List.mem_of_getElem? (i := 4) rfl))), fun _ h => absurd h List.not_mem_nil⟩⟩⟩⟩⟩
  have hAO : zAO s := ⟨va_AO.of (hts _ lwA1), va_AO.of (hts _ lwA2)⟩
  have hG : zG (dC, dI) (fun _ => none) (fun k => match Nat.beq k 90 with | true => b | false => 0) s := zG.mk' (fun i j hi => absurd rfl hi) hK (fun k t h => by cases h) hNw
  generalize hX0 : ((p, l, e, room_1, s, m, #[Value.ref b], below, meth, c), ((dC, dI), (fun _ => none : zSh), fun k => match Nat.beq k 90 with | true => b | false => 0), ((fun q => s.heap.size ≤ q : Nat → Prop), 0, 0, lw_Z below #[Value.ref b] s)) = X0
  have hF : ZF X0 mLaw := by
    subst hX0
    exact ⟨hx, hb, hown, htsL, hG, ⟨fun k hk => absurd rfl hk, fun q hq => hq⟩, ⟨rfl, Nat.zero_le _, Nat.zero_le _⟩, List.all_eq_true.mp kLaw⟩
  have hZ : ZX X0 mLaw frL X0 := by
    refine ⟨hF, ⟨?_, ?_⟩, ⟨rfl, rfl, rfl, rfl⟩, fun _ _ => rfl⟩
    · subst hX0
      exact fun k t x h => by cases h
    · subst hX0
      exact hAO
  have hsh0 : xsh X0 = fun _ => none := by subst hX0; rfl
  have hk0 : xk X0 = 0 := by subst hX0; rfl
  have hn0 : xn X0 = 0 := by subst hX0; rfl
  have fin : ∀ X, ZX X0 mLaw frL X → ∀ (i : Nat) (F I : zFi) (J : zJi), HW X 670 (lsL i) [] F I J := fun X h => by
    subst hX0
    exact lw_fin hx hb hr hlocks h
  have scr : ∀ X, ZX X0 mLaw frL X → LX X b L xs := fun X h => by
    subst hX0
    exact lw_LX hXs hbl h
  have key : HW X0 0 [some (.inr (.inr (some 90))), none, none, none] [] (fun _ _ => 0) (fun _ _ => 0) (fun _ _ => 0) := by
    clear hX0
    refine hw_new (idx := 7) (q := 0) (ci := 8) (sl := [some none, some none, some none, some none, some none, some none, some none, some none, none, none]) hZ (by decide +kernel) rfl (by decide +kernel) (by decide +kernel) (by decide +kernel) (by decide +kernel) (by decide +kernel) (by rw [hsh0]) rfl rfl rfl (by rw [hk0]; exact Nat.le_of_ble_eq_true rfl) (by rw [hn0]; exact Nat.le_of_ble_eq_true rfl) (fun X1 hZ1 hs1 hk1 hn1 => ?_)
    rw [hsh0] at hs1
    refine zgo (fun pc => Nat.beq pc 4) 200 hZ1.1 zr0 rfl ?_
    refine hw_callA (nA := 0) (maxL := 5) (As := []) (st := [.inr (.inr (some 0))]) hZ1 (zat_mem rfl) (c_X8_init _ _ _ _ _ _ (by rw [hs1]; rfl) (fun k hk => by
      have : k ≠ 0 := fun z => by rw [z] at hk; exact absurd hk (by decide)
      rw [hs1, zsu_n this]) hZ1.2.1.1) gL_law_X8_init rfl ⟨rfl, rfl⟩ (by decide +kernel) (by decide +kernel) (by decide +kernel) rfl ⟨by decide, by decide, by decide +kernel⟩ rfl ⟨Nat.le_of_ble_eq_true rfl, Nat.le_of_ble_eq_true rfl⟩ (Nat.le_of_ble_eq_true rfl) frL_0 rfl rfl (by rw [hk1, hk0]; exact Nat.le_of_ble_eq_true rfl) (by rw [hn1, hn0]; exact Nat.le_of_ble_eq_true rfl) (fun X2 F2 I2 J2 hZ2 hp hk2 hn2 => ?_)
    obtain ⟨⟨hWS2, ho2⟩, hC2⟩ := hp
    have kk2 : xk X2 = 56 := by rw [hk2, hk1, hk0]
    have nn2 : xn X2 = 15117 := by rw [hn2, hn1, hn0]
    have hno : ∀ k, 56 ≤ k → xsh X2 k = none := fun k hk => by rw [ho2 k hk, hs1, zsu_n (by omega)]
    refine zgo (fun pc => Nat.beq pc 8) 200 hZ2.1 zr0 rfl ?_
    refine hw_new (idx := 10) (q := 60) (ci := 9) (sl := mSl0) hZ2 (by decide +kernel) rfl (by decide +kernel) (by decide +kernel) (by decide +kernel) (by decide +kernel) (by decide +kernel) (hno 60 (by decide)) rfl rfl rfl (by rw [kk2]; exact Nat.le_of_ble_eq_true rfl) (by rw [nn2]; exact Nat.le_of_ble_eq_true rfl) (fun X3 hZ3 hs3 hk3 hn3 => ?_)
    refine zgo (fun pc => Nat.beq pc 12) 200 hZ3.1 zr0 rfl ?_
    refine hw_callA (nA := 0) (maxL := 1) (As := []) (st := [.inr (.inr (some 60))]) hZ3 (zat_mem rfl) (c_X9_init _ _ _ _ _ _ (by rw [hs3]; exact zsu_s _ _ _) (fun k hk => by
      have h' : 61 ≤ k ∧ k ≤ 80 := of_decide_eq_true hk
      rw [hs3, zsu_n (by omega)]
      exact hno k (by omega)) (fun j => by rw [zfz_s]) hZ3.2.1.1) gL_law_X9_init rfl ⟨rfl, rfl⟩ (by decide +kernel) (by decide +kernel) (by decide +kernel) rfl ⟨by decide, by decide, by decide +kernel⟩ rfl ⟨Nat.le_of_ble_eq_true rfl, Nat.le_of_ble_eq_true rfl⟩ (Nat.le_of_ble_eq_true rfl) frL_1 rfl rfl (by rw [hk3, kk2]; exact Nat.le_of_ble_eq_true rfl) (by rw [hn3, nn2]; exact Nat.le_of_ble_eq_true rfl) (fun X4 F4 I4 J4 hZ4 hp hk4 hn4 => ?_)
    obtain ⟨⟨hWM4, ho4⟩, hR4⟩ := hp
    have hWS4 : zWS (xsh X4) := hWS2.cg (fun k hk => by rw [ho4 k (Or.inl (by omega)), hs3, zsu_n (by omega)])
    have hC4 := hC2.out (F' := F4) (I' := I4) (J' := J4) (fun a ha => ((hR4.1.2 a (by omega)).1).trans (zfz_r (by omega))) (fun a ha => (hR4.1.2 a (by omega)).2.1) (fun a ha => (hR4.1.2 a (by omega)).2.2)
    have hR5 := hR4.out (F' := F4) (I' := I4) (J' := J4) (fun _ _ => rfl) (fun _ _ => rfl) (fun _ _ => rfl)
    have hB : BS F4 I4 J4 := ⟨_, _, _, _, _, _, _, _, _, _, hC4, hR5⟩
    have hlp := law_loop hZ4.1 (scr X4 hZ4) hL hWS4 hWM4 (fin X4 hZ4) L 0 F4 I4 J4 (by omega) (Nat.zero_le _) hB
    refine zgo (fun pc => Nat.beq pc 18) 200 hZ4.1 zr0 rfl ?_
    exact hlp
  subst hX0
  rw [lg_entry_eq]
  have hz := zL_entry (fun k => match Nat.beq k 90 with | true => b | false => 0) [.inr (.inr (some 90))] (nL := 4) (Nat.le_of_ble_eq_true rfl)
  exact key s.heap [] _ (fun k t h => by cases h) va_S.rf (show zL _ c.maxLocals _ _ by rw [hml]; exact hz)
