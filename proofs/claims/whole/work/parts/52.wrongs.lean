/-! wrongs -/
theorem ends_loop {M : St} {K : Nat} {g : Nat → Nat} (h4 : st_i M 4 = nI K) (hK : K ≤ 80) (ht : ∀ i, i < K → st_a M 0 i = nI (g i)) (hg : ∀ i, i < K → g i < 256) : ∀ (d i k : Nat), i + d = K → (∀ j, j < i → g j ≠ 126) → ∃ e, e ≤ K ∧ (∀ j, j < e → g j ≠ 126) ∧ (e = K ∨ g e = 126) ∧ f_X7_endsAtOut_n2 (k + (d + 1)) M (nI i) = some (put_i M 4 (nI e)) := by
  intro d
  induction d with
  | zero =>
    intro i k e hj
    have : i = K := by omega
    subst this
    refine ⟨i, by omega, hj, Or.inl rfl, ?_⟩
    show f_X7_endsAtOut_n2_b (f_X7_endsAtOut_n2 k) M (nI i) = _
    unfold f_X7_endsAtOut_n2_b f_X7_endsAtOut_n27
    rw [h4, if_pos (Le2 i i), lt_q]
  | succ d ih =>
    intro i k e hj
    have hgi := hg i (by omega)
    by_cases c : g i = 126
    · refine ⟨i, by omega, hj, Or.inr c, ?_⟩
      show f_X7_endsAtOut_n2_b (f_X7_endsAtOut_n2 (k + (d + 1))) M (nI i) = _
      unfold f_X7_endsAtOut_n2_b f_X7_endsAtOut_n27
      rw [h4, if_neg (NLe2 K i), if_pos (Inb i 80), Cl i, ht i (by omega), c, if_pos (show nI 126 = 126 from rfl), lt_q]
    · obtain ⟨x, x1, x2, x3, x4⟩ := ih (i + 1) k (by omega) (fun j hj' => by
        by_cases e2 : j = i
        · rw [e2]; exact c
        · exact hj j (by omega))
      refine ⟨x, x1, x2, x3, ?_⟩
      rw [← x4]
      show f_X7_endsAtOut_n2_b (f_X7_endsAtOut_n2 (k + (d + 1))) M (nI i) = _
      unfold f_X7_endsAtOut_n2_b
      rw [h4, if_neg (NLe2 K i), if_pos (Inb i 80), Cl i, ht i (by omega), if_neg (NeR (g i) 126 126), lt_q, nI_1]
theorem ends_M {M : St} {K : Nat} {g : Nat → Nat} (h : MT M K 0 g) (hK : K ≤ 80) (hg : ∀ i, i < K → g i < 256) : ∃ e, e ≤ K ∧ (∀ j, j < e → g j ≠ 126) ∧ (e = K ∨ g e = 126) ∧ f_X7_endsAtOut M = some (put_i M 4 (nI e)) ∧ MT (put_i M 4 (nI e)) e 0 g := by
  obtain ⟨j, hj⟩ := fuel_ge (k := K + 1) (by omega)
  obtain ⟨e, e1, e2, e3, e4⟩ := ends_loop h.1 hK h.2.2 hg K 0 j (by omega) (fun j hj => by omega)
  rw [← hj, nI_0] at e4
  exact ⟨e, e1, e2, e3, e4, by rw [si_pi, if_pos rfl], by rw [si_pi, if_neg (by omega)]; exact h.2.1, fun i hi => by rw [sa_pi]; exact h.2.2 i (by omega)⟩
/-- told among the keys -/
def tk (key : Nat → Nat) (v : Nat) : Nat → Nat
  | 0 => 0
  | i + 1 => if key i = v then 1 else tk key v i
theorem tk_01 (key : Nat → Nat) (v : Nat) : ∀ c, tk key v c = 0 ∨ tk key v c = 1 := by
  intro c
  induction c with
  | zero => exact Or.inl rfl
  | succ c ih => simp only [tk]; split <;> omega
theorem tk_1 {key : Nat → Nat} {v : Nat} : ∀ {c : Nat}, tk key v c = 1 ↔ ∃ i, i < c ∧ key i = v := by
  intro c
  induction c with
  | zero =>
    constructor
    · intro z; simp only [tk] at z; omega
    · rintro ⟨i, hi, -⟩; omega
  | succ c ih =>
    simp only [tk]
    by_cases q : key c = v
    · rw [if_pos q]; exact ⟨fun _ => ⟨c, by omega, q⟩, fun _ => rfl⟩
    · rw [if_neg q, ih]
      constructor
      · rintro ⟨i, hi, e⟩; exact ⟨i, by omega, e⟩
      · rintro ⟨i, hi, e⟩
        by_cases d : i = c
        · rw [d] at e; exact absurd e q
        · exact ⟨i, by omega, e⟩
theorem told_C {C : St} {c v : Nat} {key out : Nat → Nat} (h : KL C c key out) (hc : c < 80) (hk : ∀ i, i < c → key i < 100000) (hv : v < 100000) : ∀ (d i k : Nat), i + d = c → (∀ j, j < i → key j ≠ v) → f_X1_holds_n2 C (nI v) (k + (d + 1)) (nI i) = some (nI (tk key v c)) := by
  intro d
  induction d with
  | zero =>
    intro i k e hj
    have : tk key v c = 0 := by
      rcases tk_01 key v c with o | o
      · exact o
      · obtain ⟨x, x1, x2⟩ := tk_1.1 o
        exact absurd x2 (hj x (by omega))
    show f_X1_holds_n2_b C (nI v) (f_X1_holds_n2 C (nI v) k) (nI i) = _
    unfold f_X1_holds_n2_b
    rw [h.1, if_pos (Le2 c i), this]
    rfl
  | succ d ih =>
    intro i k e hj
    have hki := hk i (by omega)
    show f_X1_holds_n2_b C (nI v) (f_X1_holds_n2 C (nI v) (k + (d + 1))) (nI i) = _
    unfold f_X1_holds_n2_b f_X1_keyAt
    rw [h.1, if_neg (NLe2 c i), if_neg (Pos i), if_neg (NLeL 80 80 i), if_pos (Inb i 80), Cl i, (h.2 i (by omega)).1, bind_some]
    by_cases q : key i = v
    · rw [q, if_pos rfl, tk_1.2 ⟨i, by omega, q⟩]
      rfl
    · rw [if_neg (Ne2 (key i) v), lt_q, nI_1]
      refine ih (i + 1) k (by omega) (fun j hj' => ?_)
      by_cases e2 : j = i
      · rw [e2]; exact q
      · exact hj j (by omega)
theorem told_M {M : St} {c v : Nat} {key out : Nat → Nat} (h : KM M c key out) (hc : c < 80) (hk : ∀ i, i < c → key i < 100000) (hv : v < 100000) : ∀ (d i k : Nat), i + d = c → (∀ j, j < i → key j ≠ v) → f_X7_isRead_n2 M (nI v) (nI c) (k + (d + 1)) (nI i) = some (nI (tk key v c)) := by
  intro d
  induction d with
  | zero =>
    intro i k e hj
    have : tk key v c = 0 := by
      rcases tk_01 key v c with o | o
      · exact o
      · obtain ⟨x, x1, x2⟩ := tk_1.1 o
        exact absurd x2 (hj x (by omega))
    show f_X7_isRead_n2_b M (nI v) (nI c) (f_X7_isRead_n2 M (nI v) (nI c) k) (nI i) = _
    unfold f_X7_isRead_n2_b
    rw [if_pos (Le2 c i), this]
    rfl
  | succ d ih =>
    intro i k e hj
    have hki := hk i (by omega)
    show f_X7_isRead_n2_b M (nI v) (nI c) (f_X7_isRead_n2 M (nI v) (nI c) (k + (d + 1))) (nI i) = _
    unfold f_X7_isRead_n2_b
    rw [if_neg (NLe2 c i), if_pos (Inb i 80), Cl i, (h i (by omega)).1]
    by_cases q : key i = v
    · rw [q, if_pos rfl, tk_1.2 ⟨i, by omega, q⟩]
      rfl
    · rw [if_neg (Ne2 (key i) v), lt_q, nI_1]
      refine ih (i + 1) k (by omega) (fun j hj' => ?_)
      by_cases e2 : j = i
      · rw [e2]; exact q
      · exact hj j (by omega)
theorem told_C0 {C : St} {c v : Nat} {key out : Nat → Nat} (h : KL C c key out) (hc : c < 80) (hk : ∀ i, i < c → key i < 100000) (hv : v < 100000) : f_X1_holds C (nI v) = some (nI (tk key v c)) := by
  obtain ⟨j, hj⟩ := fuel_ge (k := c + 1) (by omega)
  unfold f_X1_holds
  rw [hj]
  exact told_C h hc hk hv c 0 j (by omega) (fun j hj => by omega)
theorem told_M0 {M : St} {c v : Nat} {key out : Nat → Nat} (h : KM M c key out) (hc : c < 80) (hk : ∀ i, i < c → key i < 100000) (hv : v < 100000) : f_X7_isRead M (nI v) (nI c) = some (nI (tk key v c)) := by
  obtain ⟨j, hj⟩ := fuel_ge (k := c + 1) (by omega)
  unfold f_X7_isRead
  rw [hj]
  exact told_M h hc hk hv c 0 j (by omega) (fun j hj => by omega)
