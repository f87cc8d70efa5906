theorem gq_eq {C M : St} {P L : Nat} (h : Hd C M P L) : f_X6_greatestQ C = nI (min 6 (P - 1)) := by
  have hp := h.1
  unfold f_X6_greatestQ
  rw [h.2.2.1, nI_sub1 (by omega)]
  by_cases c : P - 1 < 6
  · rw [if_pos (show nI (P - 1) < 6 from nI_lt (b := 6) c (by omega)), Nat.min_eq_right (by omega)]
  · rw [if_neg (show ¬ nI (P - 1) < 6 from nI_nlt (b := 6) (by omega) (by omega)), Nat.min_eq_left (by omega)]
    rfl
theorem canD_eq {C M : St} {P L F n q : Nat} {f : Nat → Nat} (h : Hd C M P L) (hb : BM M F n q f) (hF : F < 2) (hq : q ≤ 6) : f_X7_canDouble M (nI F) = some (if q < min 6 (P - 1) then 1 else 0) := by
  have hp := h.1
  unfold f_X7_canDouble
  rw [if_pos (in_b_nI hF (by omega)), nI_clamp (by omega), hb.2.1, h.2.2.2.1, nI_sub1 (by omega)]
  by_cases c : 6 ≤ q
  · rw [if_pos (show (6 : Int32) ≤ nI q from nI_le (a := 6) c (by omega)), if_neg (by omega)]
  · rw [if_neg (show ¬ (6 : Int32) ≤ nI q from nI_ge (b := 6) (by omega) (by omega)), if_pos (in_b_nI hF (by omega))]
    by_cases d : P - 1 ≤ q
    · rw [if_pos (nI_le d (by omega)), if_neg (by omega)]
    · rw [if_neg (nI_ge (by omega) (by omega)), if_pos (by omega)]
/-- only q of a file becomes another one -/
theorem qset {C M : St} {P L F Q : Nat} {n q : Nat → Nat} {f : Nat → Nat → Nat} {kr : Nat} {gr : Nat → Int64} {kt : Nat} {gt : Nat → Nat} (h1 : Hd C M P L) (h2 : ∀ F, F < 2 → Fl C M P F (n F) (q F) (f F)) (h3 : RC C kr gr ∧ RM M kr gr) (h5 : TC C kt gt) (h6 : TM M kt gt) (hF : F < 2) (hQ : 3 ≤ Q ∧ Q ≤ 6 ∧ Q < P) (hn : n F < 2 ^ Q) : Rel (put_i C (4 + 2 * F) (nI Q)) (put_a M 1 F (nI Q)) ∧ Fl (put_i C (4 + 2 * F) (nI Q)) (put_a M 1 F (nI Q)) P F (n F) Q (f F) := by
  obtain ⟨a1, a2, a3, a4, a5⟩ := h2 F hF
  have fc : Fr (fun k => k = 4 + 2 * F) nA C (put_i C (4 + 2 * F) (nI Q)) := fr_i rfl
  have gm : Gr noI (fun k j => k = 1 ∧ j = F) M (put_a M 1 F (nI Q)) := gr_a ⟨rfl, rfl⟩
  have hl : Fl (put_i C (4 + 2 * F) (nI Q)) (put_a M 1 F (nI Q)) P F (n F) Q (f F) := by
    refine ⟨⟨by rw [si_pi, if_neg (by omega)]; exact a1.1, by rw [si_pi, if_pos rfl], a1.2.2⟩, ⟨?_, ?_, a2.2.2.1, fun i hi => ?_, a2.2.2.2.2⟩, hQ, hn, a5⟩
    · rw [sa_pa, if_neg (by omega)]; exact a2.1
    · rw [sa_pa, if_pos rfl, upd_at, if_pos rfl]
    · rw [sa_pa, if_neg (by omega)]; exact a2.2.2.2.1 i hi
  exact ⟨Rel.step h1 h5 h6 fc.s gm.s (fun k z => by omega) (fun k z => z.elim) (fun k z => z.elim) (fun k j z => by omega) (files_upd h2 hl fc.s gm.s (fun G hG hne => ⟨⟨by omega, by omega⟩, fun z => z, by omega, by omega, fun i hi => by omega⟩)) (h3.1.kp fc (by omega)) (h3.2.kp gm (fun z => z)), hl⟩
theorem m_doubles {C M : St} (h : Rel C M) (x1 : Int32) : Ok2 (f_X6_doubles C x1) (f_X7_doubles M x1) := by
  have h' := h.thr 0
  unfold f_X6_doubles f_X7_doubles
  simp only [lt_eq]
  refine guardF h' (fun F hF hx => ?_)
  subst hx
  obtain ⟨P, L, n, q, f, kr, gr, kt, gt, h1, h2, h3, h5, h6⟩ := id h'
  obtain ⟨a1, a2, ⟨q1, q2, q3⟩, a4, a5⟩ := h2 F hF
  have hp := h1.1
  rw [canD_eq h1 a2 hF q2, bind_some, gq_eq h1, a1.2.1]
  by_cases c : q F < min 6 (P - 1)
  · rw [if_pos c, if_pos (nI_lt c (by omega)), if_neg (by decide), if_pos (in_b_nI hF (by omega)), if_pos (in_b_nI hF (by omega)), nI_clamp (by omega), a2.2.1, nI_1]
    have hpw : 2 ^ (q F + 1) = 2 * 2 ^ q F := by rw [Nat.pow_succ]; omega
    obtain ⟨r1, r2⟩ := qset h1 h2 h3 h5 h6 hF (Q := q F + 1) ⟨by omega, by omega, by omega⟩ (by omega)
    rw [bm_slots r2.2.1 hF (by omega), bind_some, bc_slots r2.1 (by omega)]
    exact ⟨_, _, _, rfl, rfl, r1⟩
  · rw [if_neg c, if_neg (nI_nlt (by omega) (by omega)), if_pos rfl]
    exact ⟨_, _, _, rfl, rfl, h'⟩
theorem m_halves {C M : St} (h : Rel C M) (x1 : Int32) : Ok2 (f_X6_halves C x1) (f_X7_halves M x1) := by
  have h' := h.thr 0
  unfold f_X6_halves f_X7_halves
  simp only [lt_eq]
  refine guardF h' (fun F hF hx => ?_)
  subst hx
  obtain ⟨P, L, n, q, f, kr, gr, kt, gt, h1, h2, h3, h5, h6⟩ := id h'
  obtain ⟨a1, a2, ⟨q1, q2, q3⟩, a4, a5⟩ := h2 F hF
  have hp := h1.1
  have hn3 := a1.2.2.1
  have hpb := p2_bound q2
  rw [if_pos (in_b_nI hF (by omega)), nI_clamp (by omega), a1.2.1, a2.2.1]
  by_cases c : q F = 3
  · rw [if_neg (show ¬ (3 : Int32) < nI (q F) from nI_nlt (a := 3) (by omega) (by omega)), if_pos (by rw [c]; rfl)]
    exact ⟨_, _, _, rfl, rfl, h'⟩
  · rw [if_pos (show (3 : Int32) < nI (q F) from nI_lt (a := 3) (by omega) (by omega)), if_neg (show ¬ nI (q F) = 3 from fun z => c (nI_inj (b := 3) (by omega) (by omega) z)), if_pos (in_b_nI hF (by omega)), bm_slots a2 hF (by omega), bind_some, bc_slots a1 (by omega), a1.1, a2.1]
    obtain ⟨Q, hQ⟩ : ∃ Q, q F = Q + 1 := ⟨q F - 1, by omega⟩
    have hpw : 2 ^ (Q + 1) = 2 * 2 ^ Q := by rw [Nat.pow_succ]; omega
    have hpos : 0 < 2 ^ Q := Nat.pow_pos (by omega)
    have hQb : 2 ^ Q ≤ 64 := (p2_bound (q := Q) (by omega)).2
    have e1 : nI (2 ^ q F) / 2 - 1 = nI (2 ^ Q - 1) := by
      rw [show (2 : Int32) = nI 2 from rfl, pk_div (by omega) (by omega) (by omega), hQ, hpw, Nat.mul_div_cancel_left _ (by omega), nI_sub1 hpos]
    rw [e1]
    by_cases d : n F ≤ 2 ^ Q - 1
    · rw [if_pos (nI_le d (by omega)), if_pos (nI_le d (by omega)), if_pos (in_b_nI hF (by omega)), if_pos (in_b_nI hF (by omega)), nI_sub1 (by omega)]
      obtain ⟨r1, r2⟩ := qset h1 h2 h3 h5 h6 hF (Q := q F - 1) ⟨by omega, by omega, by omega⟩ (by rw [show q F - 1 = Q by omega]; omega)
      rw [bm_slots r2.2.1 hF (by omega), bind_some, bc_slots r2.1 (by omega)]
      exact ⟨_, _, _, rfl, rfl, r1⟩
    · rw [if_neg (nI_ge (by omega) (by omega)), if_neg (nI_ge (by omega) (by omega))]
      exact ⟨_, _, _, rfl, rfl, h'⟩
theorem m_clears {C M : St} (h : Rel C M) (x1 : Int32) : Ok2 (f_X6_clears C x1) (f_X7_clears M x1) := by
  have h' := h.thr 0
  unfold f_X6_clears f_X7_clears
  simp only [lt_eq]
  refine guardF h' (fun F hF hx => ?_)
  subst hx
  obtain ⟨P, L, n, q, f, kr, gr, kt, gt, h1, h2, h3, h5, h6⟩ := id h'
  obtain ⟨a1, a2, ⟨q1, q2, q3⟩, a4, a5⟩ := h2 F hF
  have hp := h1.1
  rw [if_pos (in_b_nI hF (by omega)), if_pos (in_b_nI hF (by omega)), if_pos (in_b_nI hF (by omega)), nI_clamp (by omega), a1.1, a2.1]
  obtain ⟨t, e1, g1, g2⟩ := bc_empty C F (q := 3) (f F)
  rw [show (3 : Int32) = nI 3 from rfl, e1, bind_some]
  have gm : Gr noI (fA F) (put_i M 0 0) (put_a (put_a (put_i M 0 0) 2 F 0) 1 F (nI 3)) := (gr_a (Or.inl ⟨Or.inr rfl, rfl⟩)).tr (gr_a (Or.inl ⟨Or.inl rfl, rfl⟩))
  have hm : BM (put_a (put_a (put_i M 0 0) 2 F 0) 1 F (nI 3)) F 0 3 (f F) := by
    refine ⟨?_, ?_, by omega, fun i hi => by omega, fun i hi => by omega, fun i j _ hj => by omega⟩
    · rw [sa_pa, if_neg (by omega), sa_pa, if_pos rfl, upd_at, if_pos rfl]; rfl
    · rw [sa_pa, if_pos rfl, upd_at, if_pos rfl]
  have hl : Fl t (put_a (put_a (put_i M 0 0) 2 F 0) 1 F (nI 3)) P F 0 3 (f F) := ⟨g1, hm, ⟨by omega, by omega, by omega⟩, by decide, fun i hi => by omega⟩
  exact ⟨_, _, _, rfl, rfl, Rel.step h1 h5 h6 g2.s gm.s (fun k z => by omega) (fun k z => by omega) (fun k z => z.elim) (fun k j z => by omega) (files_upd h2 hl g2.s gm.s (fun G hG hne => ⟨⟨by omega, by omega⟩, by omega, by omega, by omega, fun i hi => by omega⟩)) (h3.1.kp g2 (by omega)) (h3.2.kp gm (fun z => z))⟩
theorem m_both {C M : St} (h : Rel C M) (x1 : Int32) : Ok2 (f_X6_both C x1) (f_X7_both M x1) := by
  have h' := h.thr 0
  unfold f_X6_both f_X7_both
  simp only [lt_eq]
  refine guardK h' ?_
  obtain ⟨P, L, n, q, f, kr, gr, kt, gt, h1, h2, h3, h5, h6⟩ := id h'
  obtain ⟨a1, a2, ⟨q1, q2, q3⟩, a4, a5⟩ := h2 0 (by omega)
  obtain ⟨b1, b2, ⟨p1, p2, p3⟩, b4, b5⟩ := h2 1 (by omega)
  obtain ⟨v, hv, ev⟩ := printOf_nat h1 x1
  have hp := h1.1
  have hv2 := p2P hp.2
  have g0 : Gs nI1 nA2 (put_i M 0 0) (put_i (put_i M 0 0) 1 0) := (rm_0 (put_i M 0 0) gr).2
  have hP5 : st_i (put_i (put_i M 0 0) 1 0) 5 = nI P := by rw [g0.1 5 (by omega)]; exact h1.2.2.2.1
  have kM : ∀ {t : St} {F : Nat}, Gs nI1 nA2 (put_i M 0 0) t → BM (put_i M 0 0) F (n F) (q F) (f F) → BM t F (n F) (q F) (f F) := fun s b => b.kp s (fun z => z) (fun z => z) (fun _ _ z => z)
  have c0 : (0 : Int32) = nI 0 := rfl
  have c1 : (1 : Int32) = nI 1 := rfl
  have hcl := lb_le (f 0) (n 0) (v + 1)
  have hcl1 := lb_le (f 1) (n 1) (v + 1)
  have hn0 := a1.2.2.1
  have hn1 := b1.2.2.1
  have e4 : st_i C 4 = nI (q 0) := a1.2.1
  have e6 : st_i C 6 = nI (q 1) := b1.2.1
  have l0 : f_X7_looksFor (put_i (put_i M 0 0) 1 0) 0 (nI v) = some (nI (LK (f 0) (n 0) (P - q 0) v)) := bm_looks (F := 0) (kM g0 a2) (by omega) hP5 (by omega) hp.2 (by omega)
  rw [printOf_eq h1, ev, bc_times a1 (by omega), bind_some, l0, bind_some]
  obtain ⟨t1, e2, r2, s2⟩ := rm_tell1 (put_i M 0 0) (nI (LK (f 0) (n 0) (P - q 0) v)).toInt64
  have hP5' : st_i t1 5 = nI P := by rw [s2.1 5 (by omega)]; exact h1.2.2.2.1
  have k0 : f_X7_countOf t1 0 (nI v) = some (nI (cnt (f 0) (n 0) v)) := bm_count (F := 0) (kM s2 a2) (by omega) (by omega)
  rw [e2, bind_some, k0, bind_some]
  have fin : ∀ w : Int64, Ok2 ((f_X3_tell_ C (nI (LK (f 0) (n 0) (P - q 0) v)).toInt64 w).bind fun s2 => (f_X0_timesOf s2 1 (nI v)).bind fun v3 => some (nI (cnt (f 0) (n 0) v) + v3, s2)) (f_X7_both_n57 x1 t1 (nI v) w) := by
    intro w
    unfold f_X7_both_n57
    obtain ⟨u, e3, r3, s3⟩ := rc_tell2 C (nI (LK (f 0) (n 0) (P - q 0) v)).toInt64 w
    obtain ⟨t2, e4', r4, s4⟩ := rm_more2 r2 w
    have k0' : f_X7_countOf t2 0 (nI v) = some (nI (cnt (f 0) (n 0) v)) := bm_count (F := 0) (kM (s2.tr s4) a2) (by omega) (by omega)
    have k1' : f_X7_countOf t2 1 (nI v) = some (nI (cnt (f 1) (n 1) v)) := bm_count (F := 1) (kM (s2.tr s4) b2) (by omega) (by omega)
    rw [e3, bind_some, e4', bind_some, k0', bind_some, k1', bind_some, bc_times (b1.kp s3 (by omega) (by omega) (fun z => z)) (by omega), bind_some]
    exact ⟨_, _, _, rfl, rfl, Rel.step h1 h5 h6 s3 (s2.tr s4) (fun k z => by omega) (fun k z => z.elim) (fun k z => by omega) (fun k j z => z.elim) (fun F hF => (h2 F hF).kp s3 (s2.tr s4) ⟨by omega, by omega⟩ (fun z => z) ⟨fun z => z, fun z => z, fun _ _ z => z⟩) r3 r4⟩
  have hC0 : ∀ w : Int32, f_X6_both_n48 x1 C (nI v) (nI (cnt (f 0) (n 0) v)) w = (f_X3_tell_ C (nI (LK (f 0) (n 0) (P - q 0) v)).toInt64 w.toInt64).bind fun s2 => (f_X0_timesOf s2 1 (nI v)).bind fun v3 => some (nI (cnt (f 0) (n 0) v) + v3, s2) := by
    intro w
    unfold f_X6_both_n48
    rw [e4, bc_looked a1 h1.2.2.1 (by omega) hp.2 hv, bind_some]
  have hcb : cnt (f 0) (n 0) v ≤ 64 := by unfold cnt; omega
  by_cases c : cnt (f 0) (n 0) v = 0
  · have z0 : nI (cnt (f 0) (n 0) v) ≤ 0 := by rw [c]; decide
    have l1 : f_X7_looksFor t1 1 (nI v) = some (nI (LK (f 1) (n 1) (P - q 1) v)) := bm_looks (F := 1) (kM s2 b2) (by omega) hP5' (by omega) hp.2 (by omega)
    rw [if_pos z0, if_pos z0, e6, bc_looked b1 h1.2.2.1 (by omega) hp.2 hv, bind_some, l1, bind_some, hC0]
    exact fin _
  · have z0 : ¬ nI (cnt (f 0) (n 0) v) ≤ 0 := nI_nle (by omega) (by omega)
    rw [if_neg z0, if_neg z0, hC0]
    exact fin _
theorem twin_loop {C M : St} {P L : Nat} (h : Hd C M P L) {x v : Int32} (hv : f_X6_printOf C x = v) : ∀ (d i k : Nat), i + d = 10000 → ∃ r, f_X6_twin_n17 C x (k + (d + 1)) v (nI i) = some r ∧ f_X7_twin_n16 x (k + (d + 1)) M (nI i) = some (r, M) := by
  intro d
  induction d with
  | zero =>
    intro i k e
    show ∃ r, f_X6_twin_n17_b C x (f_X6_twin_n17 C x k) v (nI i) = some r ∧ f_X7_twin_n16_b x (f_X7_twin_n16 x k) M (nI i) = some (r, M)
    unfold f_X6_twin_n17_b f_X7_twin_n16_b
    have : (10000 : Int32) ≤ nI i := nI_le (a := 10000) (by omega) (by omega)
    rw [if_pos this, if_pos this]
    exact ⟨_, rfl, rfl⟩
  | succ d ih =>
    intro i k e
    show ∃ r, f_X6_twin_n17_b C x (f_X6_twin_n17 C x (k + (d + 1))) v (nI i) = some r ∧ f_X7_twin_n16_b x (f_X7_twin_n16 x (k + (d + 1))) M (nI i) = some (r, M)
    unfold f_X6_twin_n17_b f_X7_twin_n16_b
    have : ¬ (10000 : Int32) ≤ nI i := nI_ge (b := 10000) (by omega) (by omega)
    rw [if_neg this, if_neg this, printOf_eq h, printOf_eq h, hv, lt_eq, lt_eq, nI_1]
    by_cases c : nI i = x
    · rw [if_pos c, if_pos c]
      exact ih (i + 1) k (by omega)
    · rw [if_neg c, if_neg c]
      by_cases c2 : f_X6_printOf C (nI i) = v
      · rw [if_pos c2, if_pos c2]
        exact ⟨_, rfl, rfl⟩
      · rw [if_neg c2, if_neg c2]
        exact ih (i + 1) k (by omega)
theorem m_twin {C M : St} (h : Rel C M) (x : Int32) : ∃ r M', f_X6_twin C x = some r ∧ f_X7_twin M x = some (r, M') ∧ Rel C M' := by
  have h' := h.thr 0
  unfold f_X6_twin f_X7_twin
  simp only [lt_eq]
  rw [isKey_eq _ C]
  by_cases c : f_X6_isKey C x = 0
  · rw [if_pos c, if_pos c]
    exact ⟨_, _, rfl, rfl, h'⟩
  · rw [if_neg c, if_neg c]
    obtain ⟨P, L, n, q, f, kr, gr, kt, gt, h1, h2, h3, h5, h6⟩ := id h'
    obtain ⟨j, hj⟩ := fuel_ge (k := 10000 + 1) (by omega)
    rw [hj]
    obtain ⟨r, e1, e2⟩ := twin_loop h1 (x := x) rfl 10000 0 j (by omega)
    exact ⟨r, _, e1, e2, h'⟩
theorem par_eq (x : Int32) : (x &&& 1) = 0 ↔ (x - x / 2 * 2) = 0 := by
  have h1 : x &&& 1 = nI (x.toBitVec.toNat % 2 ^ 1) := pk_and x 1 (by decide)
  have h2 := rem_toInt x 2
  have h3 : (2 : Int32).toInt = 2 := rfl
  rw [h3] at h2
  have h4 : x.toInt = if 2 * x.toBitVec.toNat < 2 ^ 32 then (x.toBitVec.toNat : Int) else (x.toBitVec.toNat : Int) - 2 ^ 32 := by
    show x.toBitVec.toInt = _
    rw [BitVec.toInt_eq_toNat_cond]
    rfl
  constructor
  · intro e
    rw [h1] at e
    have e0 : x.toBitVec.toNat % 2 ^ 1 = 0 := nI_inj (b := 0) (by omega) (by omega) e
    apply Int32.toInt_inj.mp
    rw [h2]
    have : (2 : Int) ∣ x.toInt := by
      rw [h4]
      split <;> omega
    rw [Int.tmod_eq_zero_of_dvd this]
    rfl
  · intro e
    rw [e] at h2
    have e1 : x.toInt.tmod 2 = 0 := h2.symm
    have : (2 : Int) ∣ x.toInt := Int.dvd_of_tmod_eq_zero e1
    rw [h1]
    have e0 : x.toBitVec.toNat % 2 ^ 1 = 0 := by
      rw [h4] at this
      split at this <;> omega
    rw [e0]
    rfl
