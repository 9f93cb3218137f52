/-! the class's state where only the reference has worked -/
theorem CS.out {Fo Io : zFi} {Jo : zJi} {F I : zFi} {J : zJi} {ℓ : Nat} {c : Nat → Nat} {n : Nat} {A : Nat → Nat → Nat} {de : Nat → Nat} {K : Nat → Int} {T0 : Nat} {G : Nat → Nat} {d : Nat → Nat → Nat} {gb : Nat → Nat → Nat → Bool} (h : CS Fo Io Jo F I J ℓ c n A de K T0 G d gb) {F' I' : zFi} {J' : zJi} (e1 : ∀ a, a < 56 → F' a = F a) (e2 : ∀ a, a < 56 → I' a = I a) (e3 : ∀ a, a < 56 → J' a = J a) : CS F' I' J' F' I' J' ℓ c n A de K T0 G d gb := by
  obtain ⟨h1, h2, h3, ⟨t1, t2, t3, t4, t5⟩, h5, h6⟩ := h
  refine ⟨⟨zTb_of h1.1 (fun a ha _ => e2 a (by omega)), fun a _ => ⟨rfl, rfl, rfl⟩⟩, h2.of (e1 0 (by decide)) (e2 1 (by decide)), h3.of (e1 11 (by decide)) (fun a _ ha => e2 a (by omega)), ⟨t1.of (fun a _ ha => e1 a ha) (fun a _ ha => e2 a ha) (fun a _ ha => e3 a ha), fun j => ?_, by rw [e1 15 (by decide)]; exact t3, t4, t5⟩, fun j => by rw [e2 31 (by decide)]; exact h5 j, h6⟩
  rw [e3 19 (by decide), e3 21 (by decide), e3 23 (by decide), e3 25 (by decide)]
  exact t2 j
