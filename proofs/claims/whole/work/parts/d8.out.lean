/-! each side's state where only the other side's memory has changed -/
theorem RSt.out {Fo Io : zFi} {Jo : zJi} {F I : zFi} {J : zJi} {ℓ : Nat} {c : Nat → Nat} {n : Nat} {A : Nat → Nat → Nat} {de : Nat → Nat} {K : Nat → Int} (h : RSt Fo Io Jo F I J ℓ c n A de K) {F' I' : zFi} {J' : zJi} (e1 : ∀ a, 60 ≤ a → F' a = F a) (e2 : ∀ a, 60 ≤ a → I' a = I a) (e3 : ∀ a, 60 ≤ a → J' a = J a) : RSt F' I' J' F' I' J' ℓ c n A de K := by
  obtain ⟨h1, h2, ⟨h3, h3b, h3c⟩, ⟨⟨h4, h4b, h4c, h4d⟩, h4e⟩, h5, h6, h7, h8⟩ := h
  have f60 := e1 60 (by decide)
  refine ⟨⟨RTb_of h1.1 (fun a g1 g2 => e2 a (by omega)), fun a _ => ⟨rfl, rfl, rfl⟩⟩, RWd_of h2 (by rw [f60]) (e2 68 (by decide)), ⟨RSp_of h3 (by rw [f60]) (e2 69 (by decide)) (e2 70 (by decide)), h3b, h3c⟩, ⟨⟨fun j => by rw [e3 75 (by decide)]; exact h4 j, fun j => by rw [e3 77 (by decide)]; exact h4b j, fun j => by rw [e3 78 (by decide)]; exact h4c j, fun j => by rw [e3 79 (by decide)]; exact h4d j⟩, fun j => by rw [e3 73 (by decide)]; exact h4e j⟩, ?_, fun j hj => by rw [e2 74 (by decide)]; exact h6 j hj, h7, by rw [f60]; exact h8⟩
  rcases h5 with h5 | ⟨G, d, gb, k1, k2, k3, k4⟩
  · exact Or.inl (by rw [f60]; exact h5)
  · refine Or.inr ⟨G, d, gb, by rw [f60]; exact k1, k2, fun s hs => ?_, fun j => by rw [e3 73 (by decide)]; exact k4 j⟩
    obtain ⟨m1, m2, m3, m4⟩ := k3 s hs
    refine ⟨by rw [e2 71 (by decide)]; exact m1, m2, fun a ha => by rw [e2 72 (by decide)]; exact m3 a ha, fun a ha => ?_⟩
    rw [← m4 a ha]
    funext q
    exact rq_of (e3 73 (by decide)) _ q
