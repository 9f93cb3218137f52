/-! both sides answer alike: differ -/
section AGR
variable {A : Nat → Nat → Nat} {n : Nat} {de : Nat → Nat} {T1 : Nat} {G : Nat → Nat} {d : Nat → Nat → Nat} {gb : Nat → Nat → Nat → Bool} {v v' : Option zV}
theorem agr_differ (hA : SpOK A n de) {K K1 K2 : Nat → Int} {r s t x : Int} (h : (¬ dfOK r s t x ∧ v = some (.inl (-1)) ∧ K1 = K) ∨ (dfOK r s t x ∧ sFault A n ≠ none ∧ v = some (.inl (-2)) ∧ K1 = K) ∨
      (dfOK r s t x ∧ sFault A n = none ∧ t.toNat + r.toNat - 1 < T1 ∧ TIc A n de T1 G d gb ∧ ((mbt K G d r.toNat s.toNat t.toNat x ∧ v = some (.inl 1) ∧ K1 = fup K (cix r s t).toNat x) ∨ (¬ mbt K G d r.toNat s.toNat t.toNat x ∧ v = some (.inl (-2)) ∧ K1 = K))))
    (h' : (¬ dfOK r s t x ∧ v' = some (.inl (-1)) ∧ K2 = K) ∨ (dfOK r s t x ∧ sFault A n ≠ none ∧ v' = some (.inl (-2)) ∧ K2 = K) ∨ (dfOK r s t x ∧ sFault A n = none ∧ ¬ (crk (fun _ => K) 31 r s t = 0 ∧ clo (fun _ => K) 31 r = 0) ∧ v' = some (.inl (-2)) ∧ K2 = K) ∨
      (dfOK r s t x ∧ sFault A n = none ∧ ∃ G d gb, TIc A n de 15 G d gb ∧ ((mbt K G d r.toNat s.toNat t.toNat x ∧ v' = some (.inl 1) ∧ K2 = fup K (cix r s t).toNat x) ∨ (¬ mbt K G d r.toNat s.toNat t.toNat x ∧ v' = some (.inl (-2)) ∧ K2 = K)))) : v = v' ∧ K1 = K2 := by
  rcases h with ⟨a, rfl, rfl⟩ | ⟨a, b, rfl, rfl⟩ | ⟨a, b, c, e, h⟩
  · rcases h' with ⟨a', rfl, rfl⟩ | ⟨a', b', rfl, rfl⟩ | ⟨a', b', c', rfl, rfl⟩ | ⟨a', b', -⟩
    · exact ⟨rfl, rfl⟩
    · exact absurd a' a
    · exact absurd a' a
    · exact absurd a' a
  · rcases h' with ⟨a', rfl, rfl⟩ | ⟨a', b', rfl, rfl⟩ | ⟨a', b', c', rfl, rfl⟩ | ⟨a', b', -⟩
    · exact absurd a a'
    · exact ⟨rfl, rfl⟩
    · exact absurd b' b
    · exact absurd b' b
  · rcases h' with ⟨a', rfl, rfl⟩ | ⟨a', b', rfl, rfl⟩ | ⟨a', b', c', rfl, rfl⟩ | ⟨a', b', G', d', gb', e', h'⟩
    · exact absurd a a'
    · exact absurd b b'
    · rcases h with ⟨m, -⟩ | ⟨m, rfl, rfl⟩
      · exfalso
        obtain ⟨⟨g1, g2, -, -⟩, ⟨g5, g6, g7, g8⟩, -⟩ := a
        refine c' ?_
        have m1 := m.1
        have m2 := m.2.1
        rw [show ((r.toNat : Nat) : Int) = r by omega, show ((s.toNat : Nat) : Int) = s by omega, show ((t.toNat : Nat) : Int) = t by omega] at m1
        rw [show ((r.toNat : Nat) : Int) = r by omega] at m2
        exact ⟨m1, m2⟩
      · exact ⟨rfl, rfl⟩
    · obtain ⟨⟨g1, g2, -, -⟩, ⟨g5, g6, g7, g8⟩, g9, g10, g11, g12⟩ := a
      have hm := mbt_eq hA (rule_of b) e e' (K := K) (r := r.toNat) (s := s.toNat) (t := t.toNat) (x := x) (by omega) (by omega) (by omega) (by omega)
      rcases h with ⟨m, rfl, rfl⟩ | ⟨m, rfl, rfl⟩ <;> rcases h' with ⟨m', rfl, rfl⟩ | ⟨m', rfl, rfl⟩
      · exact ⟨rfl, rfl⟩
      · exact absurd (hm.mp m) m'
      · exact absurd (hm.mpr m') m
      · exact ⟨rfl, rfl⟩
end AGR
