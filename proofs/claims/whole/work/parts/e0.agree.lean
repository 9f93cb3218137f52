/-! both sides answer alike: live, balance, page, joins -/
section AGR
variable {A : Nat → Nat → Nat} {n : Nat} {de : Nat → Nat} {T1 : Nat} {G : Nat → Nat} {d : Nat → Nat → Nat} {gb : Nat → Nat → Nat → Bool} {v v' : Option zV}
theorem agr_live (hA : SpOK A n de) {s t : Int} (h : (zic s t = 0 ∧ v = some (.inl (-1))) ∨ (zic s t ≠ 0 ∧ sFault A n ≠ none ∧ v = some (.inl (-2))) ∨ (zic s t ≠ 0 ∧ sFault A n = none ∧ t.toNat < T1 ∧ TIc A n de T1 G d gb ∧ v = some (.inl (flG (d s.toNat) t (G s.toNat) : Int))))
    (h' : (zic s t = 0 ∧ v' = some (.inl (-1))) ∨ (zic s t ≠ 0 ∧ sFault A n ≠ none ∧ v' = some (.inl (-2))) ∨ (zic s t ≠ 0 ∧ sFault A n = none ∧ ∃ G d gb, TIc A n de 15 G d gb ∧ v' = some (.inl (flG (d s.toNat) t (G s.toNat) : Int)))) : v = v' := by
  rcases h with ⟨a, rfl⟩ | ⟨a, b, rfl⟩ | ⟨a, b, c, e, rfl⟩ <;> rcases h' with ⟨a', rfl⟩ | ⟨a', b', rfl⟩ | ⟨a', b', G', d', gb', e', rfl⟩ <;> first | rfl | exact absurd a a' | exact absurd a' a | exact absurd b b' | exact absurd b' b | skip
  have hic : 0 ≤ s ∧ s ≤ 5 ∧ 0 ≤ t ∧ t ≤ 14 := Decidable.byContradiction fun g => a (if_neg g)
  have := fl_eq hA (rule_of b) e e' (s := s.toNat) (t := t.toNat) (by omega) c (by omega)
  rw [show ((t.toNat : Nat) : Int) = t by omega] at this
  rw [this]
theorem agr_balance (hA : SpOK A n de) {t : Int} {z : Int} (h : ((t < 0 ∨ 14 < t) ∧ v = some (.inl (-1000000))) ∨ ((0 ≤ t ∧ t ≤ 14) ∧ sFault A n ≠ none ∧ v = some (.inl (-2000000))) ∨ ((0 ≤ t ∧ t ≤ 14) ∧ sFault A n = none ∧ t.toNat < T1 ∧ TIc A n de T1 G d gb ∧ v = some (.inl (tbt aS d G t 6 - z))))
    (h' : ((t < 0 ∨ 14 < t) ∧ v' = some (.inl (-1000000))) ∨ ((0 ≤ t ∧ t ≤ 14) ∧ sFault A n ≠ none ∧ v' = some (.inl (-2000000))) ∨ ((0 ≤ t ∧ t ≤ 14) ∧ sFault A n = none ∧ ∃ G d gb, TIc A n de 15 G d gb ∧ v' = some (.inl (tbt aS d G t 6 - z)))) : v = v' := by
  rcases h with ⟨a, rfl⟩ | ⟨a, b, rfl⟩ | ⟨a, b, c, e, rfl⟩ <;> rcases h' with ⟨a', rfl⟩ | ⟨a', b', rfl⟩ | ⟨a', b', G', d', gb', e', rfl⟩ <;> first | rfl | (exfalso; omega) | exact absurd b b' | exact absurd b' b | skip
  have := tbt_eq hA (rule_of b) e e' (t := t.toNat) c (by omega) 6 (Nat.le_refl _)
  rw [show ((t.toNat : Nat) : Int) = t by omega] at this
  rw [this]
theorem agr_page (hA : SpOK A n de) {K : Nat → Int} {r s t : Int} (h : (¬ pgOK r s t ∧ v = some (.inl (-1))) ∨ (pgOK r s t ∧ sFault A n ≠ none ∧ v = some (.inl (-2))) ∨ (pgOK r s t ∧ sFault A n = none ∧ t.toNat < T1 ∧ TIc A n de T1 G d gb ∧ v = some (.inl (lpg (flG (d s.toNat) t (G s.toNat) : Int) K s t (r.toNat - 2)))))
    (h' : (¬ pgOK r s t ∧ v' = some (.inl (-1))) ∨ (pgOK r s t ∧ sFault A n ≠ none ∧ v' = some (.inl (-2))) ∨ (pgOK r s t ∧ sFault A n = none ∧ ∃ G d gb, TIc A n de 15 G d gb ∧ v' = some (.inl (lpg (flG (d s.toNat) t (G s.toNat) : Int) K s t (r.toNat - 2))))) : v = v' := by
  rcases h with ⟨a, rfl⟩ | ⟨a, b, rfl⟩ | ⟨a, b, c, e, rfl⟩ <;> rcases h' with ⟨a', rfl⟩ | ⟨a', b', rfl⟩ | ⟨a', b', G', d', gb', e', rfl⟩ <;> first | rfl | exact absurd a a' | exact absurd a' a | exact absurd b b' | exact absurd b' b | skip
  obtain ⟨g1, g2, g3, g4, g5⟩ := a
  have := fl_eq hA (rule_of b) e e' (s := s.toNat) (t := t.toNat) (by omega) c (by omega)
  rw [show ((t.toNat : Nat) : Int) = t by omega] at this
  rw [this]
theorem agr_joins (hA : SpOK A n de) {F I : zFi} {J : zJi} {i s t : Int} (hM : TM F I J G d gb) (h : (¬ jnOK i s t ∧ v = some (.inl (-1))) ∨ (jnOK i s t ∧ sFault A n ≠ none ∧ v = some (.inl (-2))) ∨ (jnOK i s t ∧ sFault A n = none ∧ t.toNat + 2 ^ i.toNat < T1 ∧ TIc A n de T1 G d gb ∧ ∃ r : Nat, v = some (.inl (r : Int)) ∧ IsRk (G (s.toNat + 1)) (jrw aS G d J s.toNat t.toNat (t.toNat + 2 ^ i.toNat)) r))
    (h' : (¬ jnOK i s t ∧ v' = some (.inl (-1))) ∨ (jnOK i s t ∧ sFault A n ≠ none ∧ v' = some (.inl (-2))) ∨ (jnOK i s t ∧ sFault A n = none ∧ ∃ G d gb, TIc A n de 15 G d gb ∧ ∃ r : Nat, v' = some (.inl (r : Int)) ∧ IsRk (G (s.toNat + 1)) (jw G d gb s.toNat t.toNat (t.toNat + 2 ^ i.toNat)) r)) : v = v' := by
  rcases h with ⟨a, rfl⟩ | ⟨a, b, rfl⟩ | ⟨a, b, c, e, r, rfl, k⟩ <;> rcases h' with ⟨a', rfl⟩ | ⟨a', b', rfl⟩ | ⟨a', b', G', d', gb', e', r', rfl, k'⟩ <;> first | rfl | exact absurd a a' | exact absurd a' a | exact absurd b b' | exact absurd b' b | skip
  obtain ⟨g1, g2, g3, g4, g5, g6⟩ := a
  have k2 : IsRk (G (s.toNat + 1)) (jw G d gb s.toNat t.toNat (t.toNat + 2 ^ i.toNat)) r := rk_same k (fun j hj => by rw [← jrw_jw hM (by omega) hj]; exact spn_mem hj _) (fun j hj => by rw [jrw_jw hM (by omega) hj]; exact spn_mem hj _)
  rw [jw_eq hA (rule_of b) e e' (s := s.toNat) (t := t.toNat) (i := i.toNat) (by omega) (by omega) c (by omega) (by omega) k2 k']
end AGR
