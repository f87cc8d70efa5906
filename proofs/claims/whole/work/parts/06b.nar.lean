/-! answers of boolean methods that are handed on -/
theorem nar01 {v : Int32} (h : v = 0 ∨ v = 1) : narrow .boolean (.int v) = .int v := by rcases h with rfl | rfl <;> rfl
theorem dropOne_n01 (b : Nat) (x1 : Int32) : ∀ (n : Nat) (σ : St) (y : Int32) (v : Int32) (t : St), f_X0_dropOne_n20 b x1 n σ y = some (v, t) → v = 0 ∨ v = 1 := by
  intro n
  induction n with
  | zero => intro σ y v t h; cases (show (none : Option (Int32 × St)) = some (v, t) from h)
  | succ n ih =>
    intro σ y v t h
    have h : f_X0_dropOne_n20_b b x1 (f_X0_dropOne_n20 b x1 n) σ y = some (v, t) := h
    unfold f_X0_dropOne_n20_b at h
    have fin : f_X0_dropOne_n61 b x1 σ = some (v, t) → v = 0 ∨ v = 1 := by
      intro h
      unfold f_X0_dropOne_n61 at h
      obtain ⟨s1, es1, h⟩ := lt_of h
      cases h
      exact Or.inr rfl
    split at h
    · exact fin h
    · split at h
      · exact fin h
      · obtain ⟨hi, h⟩ := inb_of h
        obtain ⟨hi, h⟩ := inb_of h
        obtain ⟨s2, es2, h⟩ := lt_of h
        obtain ⟨v3, ev3, h⟩ := lt_of h
        exact ih _ _ _ _ h
theorem NAR_X6_doKey {σ t : St} {b : Nat} {x v : Int32} (h : f_X0_dropOne σ b x = some (v, t)) : narrow .boolean (.int v) = .int v := by
  refine nar01 ?_
  unfold f_X0_dropOne at h
  obtain ⟨v4, hv4, h⟩ := bind_of h
  split at h
  · cases h; exact Or.inl rfl
  · obtain ⟨v5, hv5, h⟩ := bind_of h
    obtain ⟨v6, ev6, h⟩ := lt_of h
    exact dropOne_n01 _ _ _ _ _ _ _ h
theorem NAR_X6_end {σ t : St} {x v : Int32} (h : f_X5_cutTo σ x = some (v, t)) : narrow .boolean (.int v) = .int v := by
  refine nar01 ?_
  unfold f_X5_cutTo at h
  have fin : ∀ {w : Int32} {σ1 : St}, some (w, σ1) = some (v, t) → (w = 0 ∨ w = 1) → v = 0 ∨ v = 1 := by
    intro w σ1 e q
    cases e
    exact q
  split at h
  · first
      | exact fin h (Or.inl rfl)
      | (obtain ⟨s1, es1, h⟩ := lt_of h; exact fin h (Or.inr rfl))
  · split at h
    · first
        | exact fin h (Or.inl rfl)
        | (obtain ⟨s1, es1, h⟩ := lt_of h; exact fin h (Or.inr rfl))
    · first
        | exact fin h (Or.inl rfl)
        | (obtain ⟨s1, es1, h⟩ := lt_of h; exact fin h (Or.inr rfl))
