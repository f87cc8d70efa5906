/-! wrongs -/
theorem ends_loop {M : St} {K : Nat} {g : Nat → Nat} (h4 : st_i M 4 = nI K) (hK : K ≤ 80) (ht : ∀ i, i < K → st_a M 0 i = nI (g i)) (hg : ∀ i, i < K → g i < 256) : ∀ (d i k : Nat), i + d = K → (∀ j, j < i → g j ≠ 126) → ∃ e, e ≤ K ∧ (∀ j, j < e → g j ≠ 126) ∧ (e = K ∨ g e = 126) ∧ f_X7_endsAtOut_n2 (k + (d + 1)) M (nI i) = some (put_i M 4 (nI e)) := by
  intro d
  induction d with
  | zero =>
    intro i k e hj
    have : i = K := by omega
    subst this
    refine ⟨i, by omega, hj, Or.inl rfl, ?_⟩
    show f_X7_endsAtOut_n2_b (f_X7_endsAtOut_n2 k) M (nI i) = _
    unfold f_X7_endsAtOut_n2_b f_X7_endsAtOut_n27
    rw [h4, if_pos (Le2 i i), lt_q]
  | succ d ih =>
    intro i k e hj
    have hgi := hg i (by omega)
    by_cases c : g i = 126
    · refine ⟨i, by omega, hj, Or.inr c, ?_⟩
      show f_X7_endsAtOut_n2_b (f_X7_endsAtOut_n2 (k + (d + 1))) M (nI i) = _
      unfold f_X7_endsAtOut_n2_b f_X7_endsAtOut_n27
      rw [h4, if_neg (NLe2 K i), if_pos (Inb i 80), Cl i, ht i (by omega), c, if_pos (show nI 126 = 126 from rfl), lt_q]
    · obtain ⟨x, x1, x2, x3, x4⟩ := ih (i + 1) k (by omega) (fun j hj' => by
        by_cases e2 : j = i
        · rw [e2]; exact c
        · exact hj j (by omega))
      refine ⟨x, x1, x2, x3, ?_⟩
      rw [← x4]
      show f_X7_endsAtOut_n2_b (f_X7_endsAtOut_n2 (k + (d + 1))) M (nI i) = _
      unfold f_X7_endsAtOut_n2_b
      rw [h4, if_neg (NLe2 K i), if_pos (Inb i 80), Cl i, ht i (by omega), if_neg (NeR (g i) 126 126), lt_q, nI_1]
theorem ends_M {M : St} {K : Nat} {g : Nat → Nat} (h : MT M K 0 g) (hK : K ≤ 80) (hg : ∀ i, i < K → g i < 256) : ∃ e, e ≤ K ∧ (∀ j, j < e → g j ≠ 126) ∧ (e = K ∨ g e = 126) ∧ f_X7_endsAtOut M = some (put_i M 4 (nI e)) ∧ MT (put_i M 4 (nI e)) e 0 g := by
  obtain ⟨j, hj⟩ := fuel_ge (k := K + 1) (by omega)
  obtain ⟨e, e1, e2, e3, e4⟩ := ends_loop h.1 hK h.2.2 hg K 0 j (by omega) (fun j hj => by omega)
  rw [← hj, nI_0] at e4
  exact ⟨e, e1, e2, e3, e4, by rw [si_pi, if_pos rfl], by rw [si_pi, if_neg (by omega)]; exact h.2.1, fun i hi => by rw [sa_pi]; exact h.2.2 i (by omega)⟩
/-- told among the keys -/
def tk (key : Nat → Nat) (v : Nat) : Nat → Nat
  | 0 => 0
  | i + 1 => if key i = v then 1 else tk key v i
theorem tk_01 (key : Nat → Nat) (v : Nat) : ∀ c, tk key v c = 0 ∨ tk key v c = 1 := by
  intro c
  induction c with
  | zero => exact Or.inl rfl
  | succ c ih => simp only [tk]; split <;> omega
theorem tk_1 {key : Nat → Nat} {v : Nat} : ∀ {c : Nat}, tk key v c = 1 ↔ ∃ i, i < c ∧ key i = v := by
  intro c
  induction c with
  | zero =>
    constructor
    · intro z; simp only [tk] at z; omega
    · rintro ⟨i, hi, -⟩; omega
  | succ c ih =>
    simp only [tk]
    by_cases q : key c = v
    · rw [if_pos q]; exact ⟨fun _ => ⟨c, by omega, q⟩, fun _ => rfl⟩
    · rw [if_neg q, ih]
      constructor
      · rintro ⟨i, hi, e⟩; exact ⟨i, by omega, e⟩
      · rintro ⟨i, hi, e⟩
        by_cases d : i = c
        · rw [d] at e; exact absurd e q
        · exact ⟨i, by omega, e⟩
theorem told_C {C : St} {c v : Nat} {key out : Nat → Nat} (h : KL C c key out) (hc : c < 80) (hk : ∀ i, i < c → key i < 100000) (hv : v < 100000) : ∀ (d i k : Nat), i + d = c → (∀ j, j < i → key j ≠ v) → f_X1_holds_n2 C (nI v) (k + (d + 1)) (nI i) = some (nI (tk key v c)) := by
  intro d
  induction d with
  | zero =>
    intro i k e hj
    have : tk key v c = 0 := by
      rcases tk_01 key v c with o | o
      · exact o
      · obtain ⟨x, x1, x2⟩ := tk_1.1 o
        exact absurd x2 (hj x (by omega))
    show f_X1_holds_n2_b C (nI v) (f_X1_holds_n2 C (nI v) k) (nI i) = _
    unfold f_X1_holds_n2_b
    rw [h.1, if_pos (Le2 c i), this]
    rfl
  | succ d ih =>
    intro i k e hj
    have hki := hk i (by omega)
    show f_X1_holds_n2_b C (nI v) (f_X1_holds_n2 C (nI v) (k + (d + 1))) (nI i) = _
    unfold f_X1_holds_n2_b f_X1_keyAt
    rw [h.1, if_neg (NLe2 c i), if_neg (Pos i), if_neg (NLeL 80 80 i), if_pos (Inb i 80), Cl i, (h.2 i (by omega)).1, bind_some]
    by_cases q : key i = v
    · rw [q, if_pos rfl, tk_1.2 ⟨i, by omega, q⟩]
      rfl
    · rw [if_neg (Ne2 (key i) v), lt_q, nI_1]
      refine ih (i + 1) k (by omega) (fun j hj' => ?_)
      by_cases e2 : j = i
      · rw [e2]; exact q
      · exact hj j (by omega)
theorem told_M {M : St} {c v : Nat} {key out : Nat → Nat} (h : KM M c key out) (hc : c < 80) (hk : ∀ i, i < c → key i < 100000) (hv : v < 100000) : ∀ (d i k : Nat), i + d = c → (∀ j, j < i → key j ≠ v) → f_X7_isRead_n2 M (nI v) (nI c) (k + (d + 1)) (nI i) = some (nI (tk key v c)) := by
  intro d
  induction d with
  | zero =>
    intro i k e hj
    have : tk key v c = 0 := by
      rcases tk_01 key v c with o | o
      · exact o
      · obtain ⟨x, x1, x2⟩ := tk_1.1 o
        exact absurd x2 (hj x (by omega))
    show f_X7_isRead_n2_b M (nI v) (nI c) (f_X7_isRead_n2 M (nI v) (nI c) k) (nI i) = _
    unfold f_X7_isRead_n2_b
    rw [if_pos (Le2 c i), this]
    rfl
  | succ d ih =>
    intro i k e hj
    have hki := hk i (by omega)
    show f_X7_isRead_n2_b M (nI v) (nI c) (f_X7_isRead_n2 M (nI v) (nI c) (k + (d + 1))) (nI i) = _
    unfold f_X7_isRead_n2_b
    rw [if_neg (NLe2 c i), if_pos (Inb i 80), Cl i, (h i (by omega)).1]
    by_cases q : key i = v
    · rw [q, if_pos rfl, tk_1.2 ⟨i, by omega, q⟩]
      rfl
    · rw [if_neg (Ne2 (key i) v), lt_q, nI_1]
      refine ih (i + 1) k (by omega) (fun j hj' => ?_)
      by_cases e2 : j = i
      · rw [e2]; exact q
      · exact hj j (by omega)
theorem told_C0 {C : St} {c v : Nat} {key out : Nat → Nat} (h : KL C c key out) (hc : c < 80) (hk : ∀ i, i < c → key i < 100000) (hv : v < 100000) : f_X1_holds C (nI v) = some (nI (tk key v c)) := by
  obtain ⟨j, hj⟩ := fuel_ge (k := c + 1) (by omega)
  unfold f_X1_holds
  rw [hj]
  exact told_C h hc hk hv c 0 j (by omega) (fun j hj => by omega)
theorem told_M0 {M : St} {c v : Nat} {key out : Nat → Nat} (h : KM M c key out) (hc : c < 80) (hk : ∀ i, i < c → key i < 100000) (hv : v < 100000) : f_X7_isRead M (nI v) (nI c) = some (nI (tk key v c)) := by
  obtain ⟨j, hj⟩ := fuel_ge (k := c + 1) (by omega)
  unfold f_X7_isRead
  rw [hj]
  exact told_M h hc hk hv c 0 j (by omega) (fun j hj => by omega)
theorem miss_loop {C M : St} {P L : Nat} {n q : Nat → Nat} {f : Nat → Nat → Nat} {kt : Nat} {gt : Nat → Nat} {F c : Nat} {key out : Nat → Nat} (h : Rf C M P L n q f kt gt) (hF : F < 2) (hL : KL C c key out) (hM : KM M c key out) (hc : c < 80) (y5 y6 : Int32) : ∀ (d i k : Nat) (y : Int32), i + d = c → ∃ w, f_X6_missingOfTold_n4 C F (k + (d + 1)) y (nI i) = some w ∧ f_X7_wrongs_n123 (nI F) (k + (d + 1)) M (nI c) y5 y6 y (nI i) = f_X7_wrongs_n123 (nI F) (k + 1) M (nI c) y5 y6 w (nI c) := by
  obtain ⟨a1, a2, ⟨q1, q2, q3⟩, a4, a5⟩ := h.2.1 F hF
  have hp := h.1.1
  have hv2 := p2P hp.2
  have hn := a1.2.2.1
  intro d
  induction d with
  | zero =>
    intro i k y e
    have : i = c := by omega
    subst this
    refine ⟨y, ?_, rfl⟩
    show f_X6_missingOfTold_n4_b C F (f_X6_missingOfTold_n4 C F k) y (nI i) = _
    unfold f_X6_missingOfTold_n4_b
    rw [hL.1, if_pos (Le2 i i)]
  | succ d ih =>
    intro i k y e
    obtain ⟨v, hv, ev⟩ := printOf_nat h.1 (nI (key i))
    have ev' : f_X7_printOf M (nI (key i)) = nI v := by rw [printOf_eq h.1]; exact ev
    have hcl := cnt_le (f F) (n F) v
    have eC : ∀ r, f_X6_missingOfTold_n4 C F (k + (d + 1 + 1)) y (nI i) = r ↔ (if (if 0 < cnt (f F) (n F) v then (1 : Int32) else 0) = 0 then f_X6_missingOfTold_n4 C F (k + (d + 1)) (y + 1) (nI (i + 1)) else f_X6_missingOfTold_n4 C F (k + (d + 1)) y (nI (i + 1))) = r := by
      intro r
      show f_X6_missingOfTold_n4_b C F (f_X6_missingOfTold_n4 C F (k + (d + 1))) y (nI i) = r ↔ _
      unfold f_X6_missingOfTold_n4_b f_X1_keyAt
      rw [hL.1, if_neg (NLe2 c i), if_neg (Pos i), if_neg (NLeL 80 80 i), if_pos (Inb i 80), Cl i, (hL.2 i (by omega)).1, bind_some, ev, bc_holds a1 (by omega), bind_some, lt_q, lt_q, lt_q, nI_1]
    have eM : f_X7_wrongs_n123 (nI F) (k + (d + 1 + 1)) M (nI c) y5 y6 y (nI i) = if nI (cnt (f F) (n F) v) = 0 then f_X7_wrongs_n123 (nI F) (k + (d + 1)) M (nI c) y5 y6 (y + 1) (nI (i + 1)) else f_X7_wrongs_n123 (nI F) (k + (d + 1)) M (nI c) y5 y6 y (nI (i + 1)) := by
      show f_X7_wrongs_n123_b (nI F) (f_X7_wrongs_n123 (nI F) (k + (d + 1))) M (nI c) y5 y6 y (nI i) = _
      unfold f_X7_wrongs_n123_b f_X7_wrongs_n156
      rw [if_neg (NLe2 c i), if_pos (Inb i 80), Cl i, (hM i (by omega)).1, ev', bm_count a2 hF (by omega), bind_some]
      simp only [lt_q, flag_0, flag_1, nI_1, Int32.add_zero]
    by_cases z : 0 < cnt (f F) (n F) v
    · obtain ⟨w, w1, w2⟩ := ih (i + 1) k y (by omega)
      refine ⟨w, (eC _).2 ?_, ?_⟩
      · rw [if_pos z, if_neg (by decide)]; exact w1
      · rw [eM, if_neg (nI_ne0 z (by omega))]; exact w2
    · obtain ⟨w, w1, w2⟩ := ih (i + 1) k (y + 1) (by omega)
      refine ⟨w, (eC _).2 ?_, ?_⟩
      · rw [if_neg z, if_pos rfl]; exact w1
      · rw [eM, show cnt (f F) (n F) v = 0 by omega, if_pos nI_0]; exact w2
