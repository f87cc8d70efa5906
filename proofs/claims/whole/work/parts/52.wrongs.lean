/-! wrongs -/
theorem ends_loop {M : St} {K : Nat} {g : Nat → Nat} (h4 : st_i M 4 = nI K) (hK : K ≤ 80) (ht : ∀ i, i < K → st_a M 0 i = nI (g i)) (hg : ∀ i, i < K → g i < 256) : ∀ (d i k : Nat), i + d = K → (∀ j, j < i → g j ≠ 126) → ∃ e, e ≤ K ∧ (∀ j, j < e → g j ≠ 126) ∧ (e = K ∨ g e = 126) ∧ f_X7_endsAtOut_n2 (k + (d + 1)) M (nI i) = some (put_i M 4 (nI e)) := by
  intro d
  induction d with
  | zero =>
    intro i k e hj
    have : i = K := by omega
    subst this
    refine ⟨i, by omega, hj, Or.inl rfl, ?_⟩
    show f_X7_endsAtOut_n2_b (f_X7_endsAtOut_n2 k) M (nI i) = _
    unfold f_X7_endsAtOut_n2_b f_X7_endsAtOut_n27
    rw [h4, if_pos (Le2 i i), lt_q]
  | succ d ih =>
    intro i k e hj
    have hgi := hg i (by omega)
    by_cases c : g i = 126
    · refine ⟨i, by omega, hj, Or.inr c, ?_⟩
      show f_X7_endsAtOut_n2_b (f_X7_endsAtOut_n2 (k + (d + 1))) M (nI i) = _
      unfold f_X7_endsAtOut_n2_b f_X7_endsAtOut_n27
      rw [h4, if_neg (NLe2 K i), if_pos (Inb i 80), Cl i, ht i (by omega), c, if_pos (show nI 126 = 126 from rfl), lt_q]
    · obtain ⟨x, x1, x2, x3, x4⟩ := ih (i + 1) k (by omega) (fun j hj' => by
        by_cases e2 : j = i
        · rw [e2]; exact c
        · exact hj j (by omega))
      refine ⟨x, x1, x2, x3, ?_⟩
      rw [← x4]
      show f_X7_endsAtOut_n2_b (f_X7_endsAtOut_n2 (k + (d + 1))) M (nI i) = _
      unfold f_X7_endsAtOut_n2_b
      rw [h4, if_neg (NLe2 K i), if_pos (Inb i 80), Cl i, ht i (by omega), if_neg (NeR (g i) 126 126), lt_q, nI_1]
theorem ends_M {M : St} {K : Nat} {g : Nat → Nat} (h : MT M K 0 g) (hK : K ≤ 80) (hg : ∀ i, i < K → g i < 256) : ∃ e, e ≤ K ∧ (∀ j, j < e → g j ≠ 126) ∧ (e = K ∨ g e = 126) ∧ f_X7_endsAtOut M = some (put_i M 4 (nI e)) ∧ MT (put_i M 4 (nI e)) e 0 g := by
  obtain ⟨j, hj⟩ := fuel_ge (k := K + 1) (by omega)
  obtain ⟨e, e1, e2, e3, e4⟩ := ends_loop h.1 hK h.2.2 hg K 0 j (by omega) (fun j hj => by omega)
  rw [← hj, nI_0] at e4
  exact ⟨e, e1, e2, e3, e4, by rw [si_pi, if_pos rfl], by rw [si_pi, if_neg (by omega)]; exact h.2.1, fun i hi => by rw [sa_pi]; exact h.2.2 i (by omega)⟩
