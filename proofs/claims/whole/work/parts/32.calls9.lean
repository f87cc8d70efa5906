/-! merges, spills, parts -/
theorem fitq_loop {C M : St} {L T g : Nat} {x x' : Int32} (hC : st_i C 2 = nI L) (hM : st_i M 7 = nI L) (hL : L ≤ 95) (hT : T < 2 ^ g) (hg : g ≤ 6) : ∀ (d y k : Nat), y + d = g → ∃ r, y ≤ r ∧ r ≤ g ∧ T < 2 ^ r ∧ f_X6_fittingQ_n8 C x (nI T) (k + (d + 1)) (nI g) (nI y) = some (nI r) ∧ f_X7_qOfBoth_n45 M x' (k + (d + 1)) (nI T) (nI g) (nI y) = some (nI r) := by
  have hw := p2_bound hg
  intro d
  induction d with
  | zero =>
    intro y k e
    have : y = g := by omega
    subst this
    refine ⟨y, by omega, by omega, hT, ?_, ?_⟩
    · show f_X6_fittingQ_n8_b C x (nI T) (f_X6_fittingQ_n8 C x (nI T) k) (nI y) (nI y) = _
      unfold f_X6_fittingQ_n8_b
      rw [if_pos (Le2 y y)]
    · show f_X7_qOfBoth_n45_b M x' (f_X7_qOfBoth_n45 M x' k) (nI T) (nI y) (nI y) = _
      unfold f_X7_qOfBoth_n45_b
      rw [if_pos (Le2 y y)]
  | succ d ih =>
    intro y k e
    have hwy := p2_bound (q := y) (by omega)
    have hm : L * 2 ^ y ≤ 95 * 64 := Nat.mul_le_mul hL hwy.2
    obtain ⟨r, r1, r2, r3, r4, r5⟩ := ih (y + 1) k (by omega)
    by_cases c : L * 2 ^ y < 100 * T
    · refine ⟨r, by omega, r2, r3, ?_, ?_⟩
      · show f_X6_fittingQ_n8_b C x (nI T) (f_X6_fittingQ_n8 C x (nI T) (k + (d + 1))) (nI g) (nI y) = _
        unfold f_X6_fittingQ_n8_b
        rw [if_neg (NLe2 g y), hC, shl_r (by omega) (by omega), show (100 : Int32) = nI 100 from rfl, nI_mul, if_pos (Lt2 _ _ c), lt_q, nI_1, r4]
      · show f_X7_qOfBoth_n45_b M x' (f_X7_qOfBoth_n45 M x' (k + (d + 1))) (nI T) (nI g) (nI y) = _
        unfold f_X7_qOfBoth_n45_b
        rw [if_neg (NLe2 g y), hM, shl_r (by omega) (by omega), show (100 : Int32) = nI 100 from rfl, nI_mul, if_neg (NLe2 (100 * T) (L * 2 ^ y)), lt_q, nI_1, r5]
    · have h95 : L * 2 ^ y ≤ 95 * 2 ^ y := Nat.mul_le_mul_right _ hL
      refine ⟨y, by omega, by omega, by omega, ?_, ?_⟩
      · show f_X6_fittingQ_n8_b C x (nI T) (f_X6_fittingQ_n8 C x (nI T) (k + (d + 1))) (nI g) (nI y) = _
        unfold f_X6_fittingQ_n8_b
        rw [if_neg (NLe2 g y), hC, shl_r (by omega) (by omega), show (100 : Int32) = nI 100 from rfl, nI_mul, if_neg (NLt2 (L * 2 ^ y) (100 * T))]
      · show f_X7_qOfBoth_n45_b M x' (f_X7_qOfBoth_n45 M x' (k + (d + 1))) (nI T) (nI g) (nI y) = _
        unfold f_X7_qOfBoth_n45_b
        rw [if_neg (NLe2 g y), hM, shl_r (by omega) (by omega), show (100 : Int32) = nI 100 from rfl, nI_mul, if_pos (Le2 (100 * T) (L * 2 ^ y))]
theorem z0c : (0 : Int32).toNatClampNeg = 0 := by decide
theorem z1c : (1 : Int32).toNatClampNeg = 1 := by decide
theorem b02 : in_b 0 2 = true := by decide
theorem b12 : in_b 1 2 = true := by decide
theorem qBoth_M {C M : St} {P L n0 n1 q : Nat} {G : Nat} (h : Hd C M P L) (hG : G < 2) (e0 : st_a M 2 0 = nI n0) (e1 : st_a M 2 1 = nI n1) (eq : st_a M 1 G = nI q) (h0 : n0 < 64) (h1 : n1 < 64) : f_X7_qOfBoth M (nI G) = if n0 + n1 < 2 ^ min 6 (P - 1) then f_X7_qOfBoth_n45 M (nI G) fuel (nI (n0 + n1)) (nI (min 6 (P - 1))) (nI q) else some (-1) := by
  have hp := h.1
  have hw := p2_bound (q := min 6 (P - 1)) (by omega)
  have hg : (if st_i M 5 - 1 < 6 then st_i M 5 - 1 else 6) = nI (min 6 (P - 1)) := by
    rw [h.2.2.2.1, Sub1 P]
    by_cases c : P - 1 < 6
    · rw [if_pos (LtR (P - 1) 6 6), show min 6 (P - 1) = P - 1 by omega]
    · rw [if_neg (NLtR (P - 1) 6 6), show min 6 (P - 1) = 6 by omega]; rfl
  unfold f_X7_qOfBoth
  rw [if_pos b02, if_pos b12, lt_q, hg, lt_q, z0c, z1c, e0, e1, nI_add, sh_1 _ (by omega), Sub1 (2 ^ min 6 (P - 1)), if_pos (Inb G 2), lt_q, Cl G, eq]
  by_cases c : n0 + n1 < 2 ^ min 6 (P - 1)
  · rw [if_pos (Le2 (n0 + n1) (2 ^ min 6 (P - 1) - 1)), if_pos c]
  · rw [if_neg (NLe2 (n0 + n1) (2 ^ min 6 (P - 1) - 1)), if_neg c]
theorem fit_C {C M : St} {P L n0 n1 : Nat} (h : Hd C M P L) (e0 : st_i C 3 = nI n0) (e1 : st_i C 5 = nI n1) (h0 : n0 < 64) (h1 : n1 < 64) : f_X6_fitTogether C = if n0 + n1 < 2 ^ min 6 (P - 1) then 1 else 0 := by
  have hp := h.1
  have hw := p2_bound (q := min 6 (P - 1)) (by omega)
  unfold f_X6_fitTogether
  rw [gq_eq h, sh_1 _ (by omega), e0, e1, nI_add]
  by_cases c : n0 + n1 < 2 ^ min 6 (P - 1)
  · rw [if_neg (NLe2 (2 ^ min 6 (P - 1)) (n0 + n1)), if_pos c]
  · rw [if_pos (Le2 (2 ^ min 6 (P - 1)) (n0 + n1)), if_neg c]
abbrev bI2 : Nat → Prop := fun k => k = 3 ∨ k = 4 ∨ k = 5 ∨ k = 6
abbrev bA2 : Nat → Prop := fun k => k = 0 ∨ k = 1
abbrev fA2 : Nat → Nat → Prop := fun k _ => k = 1 ∨ k = 2 ∨ k = 3
theorem pour_all {C M : St} {P L b1 b2 n1 n2 q1 q2 : Nat} {f1 f2 : Nat → Nat} (h : Hd C M P L) (hb1 : b1 < 2) (hb2 : b2 < 2) (hne : b1 ≠ b2) (A1 : Fl C M P b1 n1 q1 f1) (A2 : Fl C M P b2 n2 q2 f2) (hs : n1 + n2 < 2 ^ min 6 (P - 1)) : ∃ (r : Nat) (g : Nat → Nat) (t u : St), f_X6_pour C b1 b2 = some t ∧ f_X7_mergesInto M (nI b2) (nI b1) = some u ∧ Fl t u P b1 0 q1 f1 ∧ Fl t u P b2 (n1 + n2) r g ∧ Fr bI2 bA2 C t ∧ Gr noI fA2 M u ∧ (∃ v, f_X7_qOfBoth M (nI b2) = some (nI v) ∧ v ≤ 6) := by
  obtain ⟨a1, a2, ⟨p1, p2, p3⟩, a4, a5⟩ := A1
  obtain ⟨c1, c2, ⟨q1', q2', q3'⟩, c4, c5⟩ := A2
  have hp := h.1
  have hw := p2_bound (q := min 6 (P - 1)) (by omega)
  have hn1 := a1.2.2.1
  have hn2 := c1.2.2.1
  obtain ⟨j, hj⟩ := fuel_ge (k := n1 + 1) (by omega)
  obtain ⟨t1, d1, d2, d3, d4⟩ := pour_C hne n1 0 n2 j f2 C (by omega) a1 c1 (by omega)
  obtain ⟨t2, e1, e2, e3⟩ := bc_cut d1 (k := 0) (by omega)
  have d2' := d2.keep e3 (by omega) (by omega) (by omega)
  have hC2 : st_i t2 2 = nI L := by rw [e3.1 2 (by omega), d3.1 2 (by omega)]; exact h.2.2.2.2.2.1
  obtain ⟨j2, hj2⟩ := fuel_ge (k := min 6 (P - 1) - q2 + 1) (by omega)
  obtain ⟨r, r1, r2, r3, r4, r5⟩ := fitq_loop (C := t2) (M := M) (L := L) (T := n1 + n2) (g := min 6 (P - 1)) (x := nI q2) (x' := nI b2) hC2 h.2.2.2.2.2.2 h.2.1.2 hs (by omega) (min 6 (P - 1) - q2) q2 j2 (by omega)
  rw [← hj2] at r4 r5
  have hp0 : st_i t2 0 = st_i C 0 := by rw [e3.1 0 (by omega), d3.1 0 (by omega)]
  have hgq : f_X6_greatestQ t2 = nI (min 6 (P - 1)) := by
    have := gq_eq h
    unfold f_X6_greatestQ at this ⊢
    rw [hp0]; exact this
  have eC : f_X6_pour C b1 b2 = some (put_i t2 (4 + 2 * b2) (nI r)) := by
    unfold f_X6_pour
    rw [hj, ← nI_0, d4]
    show f_X6_pour_n2_b b1 b2 (f_X6_pour_n2 b1 b2 j) t1 (nI n1) = _
    unfold f_X6_pour_n2_b
    have e1' : f_X0_cutTo t1 b1 0 = some t2 := e1
    rw [d1.1, if_pos (Le2 n1 n1), e1', bind_some]
    unfold f_X6_fittingQ
    rw [hgq, lt_q, d2'.1, d2'.2.1, show n2 + n1 = n1 + n2 by omega, r4, bind_some, lt_q]
  -- the reference
  have eq0 : f_X7_qOfBoth M (nI b2) = some (nI r) := by
    rcases (show (b1 = 0 ∧ b2 = 1) ∨ (b1 = 1 ∧ b2 = 0) by omega) with ⟨rfl, rfl⟩ | ⟨rfl, rfl⟩
    · rw [qBoth_M h hb2 a2.1 c2.1 c2.2.1 hn1 hn2, if_pos hs, r5]
    · rw [qBoth_M h hb2 c2.1 a2.1 c2.2.1 hn2 hn1, show n2 + n1 = n1 + n2 by omega, if_pos hs, r5]
  have k1 : BM (put_a M 1 b2 (nI r)) b2 n2 r f2 := by
    obtain ⟨z1, z2, z3, z4, z5, z6⟩ := c2
    exact ⟨by rw [sa_pa, if_neg (by omega)]; exact z1, by rw [sa_pa, if_pos rfl, upd_at, if_pos rfl], z3, fun i hi => by rw [sa_pa, if_neg (by omega)]; exact z4 i hi, z5, z6⟩
  have k2 : BM (put_a M 1 b2 (nI r)) b1 n1 q1 f1 := by
    obtain ⟨z1, z2, z3, z4, z5, z6⟩ := a2
    exact ⟨by rw [sa_pa, if_neg (by omega)]; exact z1, by rw [sa_pa, if_pos rfl, upd_at, if_neg hne]; exact z2, z3, fun i hi => by rw [sa_pa, if_neg (by omega)]; exact z4 i hi, z5, z6⟩
  obtain ⟨u1, m1, m2, m3, m4⟩ := pour_M hb1 hb2 hne n1 0 n2 j f2 (put_a M 1 b2 (nI r)) (by omega) k2 k1 (by omega)
  have eM : f_X7_mergesInto M (nI b2) (nI b1) = some (put_a u1 2 b1 0) := by
    unfold f_X7_mergesInto
    rw [eq0, bind_some, if_pos (Inb b2 2), lt_q, Cl b2, hj, ← nI_0, m4]
    show f_X7_mergesInto_n13_b (nI b2) (nI b1) (f_X7_mergesInto_n13 (nI b2) (nI b1) j) u1 (nI n1) = _
    unfold f_X7_mergesInto_n13_b
    rw [if_pos (Inb b1 2), Cl b1, m1.1, if_pos (Le2 n1 n1), if_pos (Inb b1 2), lt_q]
    rfl
  refine ⟨r, insAll f1 0 n1 f2 n2, _, _, eC, eM, ?_, ?_, ?_, ?_, r, eq0, by omega⟩
  · refine ⟨⟨?_, ?_, by omega, fun i hi => by omega, fun i hi => by omega, fun i j _ hj => by omega⟩, ⟨?_, ?_, by omega, fun i hi => by omega, fun i hi => by omega, fun i j _ hj => by omega⟩, ⟨p1, p2, p3⟩, by omega, fun i hi => by omega⟩
    · rw [si_pi, if_neg (by omega)]; exact e2.1
    · rw [si_pi, if_neg (by omega)]; exact e2.2.1
    · rw [sa_pa, if_pos rfl, upd_at, if_pos rfl]; rfl
    · rw [sa_pa, if_neg (by omega)]; exact m1.2.1
  · refine ⟨⟨?_, ?_, by omega, fun i hi => ?_, fun i hi => ?_, ?_⟩, ⟨?_, ?_, by omega, fun i hi => ?_, fun i hi => ?_, ?_⟩, ⟨by omega, by omega, by omega⟩, r3, fun i hi => ?_⟩
    · rw [si_pi, if_neg (by omega), show n1 + n2 = n2 + n1 by omega]; exact d2'.1
    · rw [si_pi, if_pos rfl]
    · rw [sa_pi]; exact d2'.2.2.2.1 i (by omega)
    · exact d2'.2.2.2.2.1 i (by omega)
    · rw [show n1 + n2 = n2 + n1 by omega]; exact d2'.2.2.2.2.2
    · rw [sa_pa, if_pos rfl, upd_at, if_neg (by omega), show n1 + n2 = n2 + n1 by omega]; exact m2.1
    · rw [sa_pa, if_neg (by omega)]; exact m2.2.1
    · rw [sa_pa, if_neg (by omega)]; exact m2.2.2.2.1 i (by omega)
    · exact d2'.2.2.2.2.1 i (by omega)
    · rw [show n1 + n2 = n2 + n1 by omega]; exact d2'.2.2.2.2.2
    · exact insAll_bd n1 0 n2 f2 (fun j hj => a5 j (by omega)) c5 i (by omega)
  · exact ((d3.mono (fun k z => by omega) (fun k z => by omega)).tr (e3.mono (fun k z => by omega) (fun k z => by omega))).tr (fr_i (by omega))
  · exact ((gr_a (by omega)).tr (m3.mono (fun k z => z) (fun k j z => by omega))).tr (gr_a (by omega))
theorem m_merges {C M : St} (h : Rel C M) : Ok2 (f_X6_merges C) (f_X7_merges M) := by
  have h' := h.thr 0
  unfold f_X6_merges f_X7_merges
  simp only [lt_q]
  obtain ⟨P, L, n, q, f, kt, gt, hr⟩ := h'.rf
  generalize hM : put_i M 0 0 = M0 at h' hr ⊢
  have A0 := hr.2.1 0 (by omega)
  have A1 := hr.2.1 1 (by omega)
  have hn0 := A0.1.2.2.1
  have hn1 := A1.1.2.2.1
  have e3 : st_i C 3 = nI (n 0) := A0.1.1
  have e5 : st_i C 5 = nI (n 1) := A1.1.1
  rw [e5, if_pos b12, z1c, A1.2.1.1]
  by_cases c : n 1 = 0
  · rw [c, if_pos nI_0, if_pos nI_0]
    exact ⟨_, _, _, rfl, rfl, h'⟩
  · rw [if_neg (nI_ne0 (by omega) (by omega)), if_neg (nI_ne0 (by omega) (by omega)), fit_C hr.1 e3 e5 hn0 hn1]
    have hq0 : f_X7_qOfBoth M0 0 = _ := qBoth_M (G := 0) hr.1 (by omega) A0.2.1.1 A1.2.1.1 A0.2.1.2.1 hn0 hn1
    by_cases d : n 0 + n 1 < 2 ^ min 6 (P - 1)
    · obtain ⟨r, g, t, u, p1, p2, p3, p4, p5, p6, v, p7, p8⟩ := pour_all hr.1 (b1 := 1) (b2 := 0) (by omega) (by omega) (by omega) A1 A0 (by omega)
      have p2' : f_X7_mergesInto M0 0 1 = some u := p2
      have hr6 := p4.2.2.1.2.1
      have p7' : f_X7_qOfBoth M0 0 = some (nI v) := p7
      have hrf : Rf t u P L (fun F => if F = 0 then n 1 + n 0 else 0) (fun F => if F = 0 then r else q 1) (fun F => if F = 0 then g else f 1) kt gt := by
        refine ⟨hr.1.kp p5.s p6.s (fun k z => by omega) (fun k z => z.elim), fun F hF => ?_, hr.2.2.1.kp p5.s (by omega) (by omega), hr.2.2.2.kp p6.s (fun z => z) (fun j z => by omega)⟩
        rcases (show F = 0 ∨ F = 1 by omega) with rfl | rfl
        · exact p4
        · exact p3
      obtain ⟨t2, u1, u2, x1, x2, x3, x4, x5, x6, x7, x8, -⟩ := end2 hrf (nI (2 ^ r)).toInt64 (nI (n 1 + n 0)).toInt64
      have es : f_X7_slots (put_i u 1 0) 0 = some (nI (2 ^ r)) := bm_slots (F := 0) (p4.2.1.kp (rm_0 u (fun _ => 0)).2 (fun z => z) (fun z => z) (fun _ _ z => z)) (by omega) (by omega)
      have em : st_a u1 2 0 = nI (n 1 + n 0) := by rw [x8.2 2 0 (fun z => z)]; exact p4.2.1.1
      have e3t : st_i t 3 = nI (n 1 + n 0) := p4.1.1
      rw [if_pos d, if_neg (by decide), p1, bind_some, bc_slots p4.1 (by omega), e3t, x1, bind_some, p7', bind_some, if_pos (NNeg v), if_pos b12, p2', bind_some, es, bind_some, x2, bind_some, if_pos b02, z0c, em, x3, bind_some]
      exact ⟨_, _, _, rfl, rfl, x4⟩
    · rw [if_neg d] at hq0
      rw [if_neg d, if_pos rfl, hq0, bind_some, if_neg (by decide)]
      exact ⟨_, _, _, rfl, rfl, h'⟩
theorem spill_end {C M : St} {P L : Nat} {n q : Nat → Nat} {f : Nat → Nat → Nat} {kt : Nat} {gt : Nat → Nat} (h : Rf C M P L n q f kt gt) (x : Int32) (y : Int32) (hy : y = 0 ∨ y = 1) (hs : n 0 + 1 < 2 ^ q 0) : Ok2 (f_X6_spills_n66 x C y) (f_X7_spills_n69 x M y) := by
  have A0 := h.2.1 0 (by omega)
  have A1 := h.2.1 1 (by omega)
  obtain ⟨v, hv, ev⟩ := printOf_nat h.1 x
  have hp := h.1.1
  have hv2 := p2P hp.2
  have hw := p2_bound A0.2.2.1.2.1
  obtain ⟨t, e1, g1, g2⟩ := bc_insert A0.1 (by omega) (v := v) (by omega)
  obtain ⟨u, e2, k1, k2⟩ := bm_comes A0.2.1 (by omega) (by omega) (v := v) (by omega)
  have fc : Fs (fun k => k = 3 ∨ k = 4) (fun k => k = 0) C t := g2.s.mono (fun k z => by omega) (fun k z => by omega)
  have gm : Gs noI (fA 0) M u := k2.s
  have hf : ∀ F, F < 2 → Fl t u P F (if F = 0 then n 0 + 1 else n F) (if F = 0 then q 0 else q F) (if F = 0 then ins (f 0) (lb (f 0) (n 0) (v + 1)) v else f F) :=
    files_upd h.2.1 ⟨g1, k1, A0.2.2.1, hs, ins_bd A0.2.2.2.2 hv (lb_le _ _ _)⟩ fc gm (fun F hF hne => ⟨⟨by omega, by omega⟩, by omega, by omega, by omega, fun i hi z => by omega⟩)
  have hrf : Rf t u P L _ _ _ kt gt := ⟨h.1.kp fc gm (fun k z => by omega) (fun k z => z.elim), hf, h.2.2.1.kp fc (by omega) (by omega), h.2.2.2.kp gm (fun z => z) (fun j z => by omega)⟩
  have B1 := hf 1 (by omega)
  obtain ⟨t2, u1, u2, x1, x2, x3, x4, x5, x6, x7, x8, -⟩ := end2 hrf (nI (n 0 + 1)).toInt64 (nI (n 1)).toInt64
  have e3t : st_i t 3 = nI (n 0 + 1) := g1.1
  have e5t : st_i t 5 = nI (n 1) := B1.1.1
  have em0 : st_a (put_i u 1 0) 2 0 = nI (n 0 + 1) := k1.1
  have em1 : st_a u1 2 1 = nI (n 1) := by rw [x8.2 2 1 (fun z => z)]; exact B1.2.1.1
  have ec : f_X7_comes M 0 (nI v) = some u := e2
  unfold f_X6_spills_n66 f_X7_spills_n69
  rw [ev, e1, bind2_some, e3t, e5t, x1, bind_some, printOf_eq h.1, ev, ec, bind_some, lt_q, if_pos b02, z0c, em0, x2, bind_some, if_pos b12, z1c, em1, x3, bind_some]
  rcases hy with rfl | rfl
  · rw [if_pos rfl]; exact ⟨_, _, _, rfl, rfl, x4⟩
  · rw [if_neg (by decide)]; exact ⟨_, _, _, rfl, rfl, x4⟩
theorem m_spills {C M : St} (h : Rel C M) (x : Int32) : Ok2 (f_X6_spills C x) (f_X7_spills M x) := by
  have h' := h.thr 0
  unfold f_X6_spills f_X7_spills
  rw [lt_q]
  obtain ⟨P, L, n, q, f, kt, gt, hr⟩ := h'.rf
  generalize hM : put_i M 0 0 = M0 at h' hr ⊢
  refine guardK h' ?_
  have A0 := hr.2.1 0 (by omega)
  have A1 := hr.2.1 1 (by omega)
  have hn0 := A0.1.2.2.1
  have hn1 := A1.1.2.2.1
  have hq0 := A0.2.2.1.2.1
  have hq3 := A0.2.2.1.1
  have hw := p2_bound hq0
  have h0n := A0.2.2.2.1
  have e3 : st_i C 3 = nI (n 0) := A0.1.1
  have e5 : st_i C 5 = nI (n 1) := A1.1.1
  have big : Ok2 (f_X6_spills_n30 x C) (f_X7_spills_n38 x M0) := by
    unfold f_X6_spills_n30 f_X6_spills_n35 f_X6_spills_n50 f_X7_spills_n38 f_X7_spills_n43 f_X7_spills_n59
    have n10 : ¬ (1 : Int32) = 0 := by decide
    simp only [n10, ↓reduceIte]
    rw [fit_C hr.1 e3 e5 hn0 hn1]
    have hqb : f_X7_qOfBoth M0 1 = _ := qBoth_M (G := 1) hr.1 (by omega) A0.2.1.1 A1.2.1.1 A1.2.1.2.1 hn0 hn1
    by_cases d : n 0 + n 1 < 2 ^ min 6 (P - 1)
    · obtain ⟨r, g, t, u, p1, p2, p3, p4, p5, p6, v, p7, p8⟩ := pour_all hr.1 (b1 := 0) (b2 := 1) (by omega) (by omega) (by omega) A0 A1 (by omega)
      have p2' : f_X7_mergesInto M0 1 0 = some u := p2
      have p7' : f_X7_qOfBoth M0 1 = some (nI v) := p7
      have hrf : Rf t u P L (fun F => if F = 0 then 0 else n 0 + n 1) (fun F => if F = 0 then q 0 else r) (fun F => if F = 0 then f 0 else g) kt gt := by
        refine ⟨hr.1.kp p5.s p6.s (fun k z => by omega) (fun k z => z.elim), fun F hF => ?_, hr.2.2.1.kp p5.s (by omega) (by omega), hr.2.2.2.kp p6.s (fun z => z) (fun j z => by omega)⟩
        rcases (show F = 0 ∨ F = 1 by omega) with rfl | rfl
        · exact p3
        · exact p4
      rw [if_pos d, if_neg n10, p1, bind_some, p7', bind_some, if_pos (NNeg v), p2', bind_some]
      refine spill_end hrf x 1 (Or.inr rfl) ?_
      show 0 + 1 < 2 ^ q 0
      have : 2 ^ 3 ≤ 2 ^ q 0 := Nat.pow_le_pow_right (by omega) hq3
      omega
    · rw [if_neg d] at hqb
      rw [if_neg d, if_pos rfl, hqb, bind_some, if_neg (by decide)]
      exact ⟨_, _, _, rfl, rfl, h'⟩
  have emd : f_X7_wouldDouble M0 0 = _ := must_M (F := 0) hr.1 A0.2.1 (by omega) hq0
  have esl : f_X7_slots M0 0 = some (nI (2 ^ q 0)) := bm_slots (F := 0) A0.2.1 (by omega) (by omega)
  rw [must_C hr.1 A0.1 hq0, emd, bind_some]
  by_cases c : L * 2 ^ q 0 < 100 * (n 0 + 1) ∧ q 0 < min 6 (P - 1)
  · rw [if_pos c, if_neg (by decide), if_neg (by decide)]
    exact big
  · rw [if_neg c, if_pos rfl, if_pos rfl, bc_full A0.1 hq0, if_pos b02, esl, bind_some, z0c, A0.2.1.1, Sub1 (2 ^ q 0)]
    by_cases d : n 0 + 1 < 2 ^ q 0
    · rw [if_pos d, if_pos rfl, if_neg (Ne2 (n 0) (2 ^ q 0 - 1))]
      unfold f_X6_spills_n35 f_X6_spills_n50 f_X7_spills_n43 f_X7_spills_n59
      simp only [↓reduceIte]
      exact spill_end hr x 0 (Or.inl rfl) d
    · rw [if_neg d, if_neg (by decide), show n 0 = 2 ^ q 0 - 1 by omega, if_pos rfl]
      exact big
theorem parts_find {M : St} {n q : Nat} {f : Nat → Nat} (h : BM M 0 n q f) {v : Nat} (hv : v < 2 ^ 30) : ∀ (d i k : Nat), i + d = lb f n v → f_X7_parts_n27 (nI v) (k + (d + 1)) M (nI i) = f_X7_parts_n53 (nI v) M (nI (lb f n v)) := by
  have hn := h.2.2.1
  have hle := lb_le f n v
  have hiff := lb_iff h.2.2.2.2.2 v
  have at0 : ∀ i, i < n → f_X7_at M 0 (nI i) = some (nI (f i)) := fun i hi => bm_at h (by omega) hi
  intro d
  induction d with
  | zero =>
    intro i k e
    have : i = lb f n v := by omega
    rw [← this] at *
    show f_X7_parts_n27_b (nI v) (f_X7_parts_n27 (nI v) k) M (nI i) = _
    unfold f_X7_parts_n27_b
    rw [if_pos b02, z0c, h.1]
    by_cases c : n ≤ i
    · rw [if_pos (Le2 n i)]
    · have := hiff i (by omega)
      have hb := h.2.2.2.2.1 i (by omega)
      rw [if_neg (NLe2 n i), at0 i (by omega), bind_some, if_pos (Le2 v (f i))]
  | succ d ih =>
    intro i k e
    have := hiff i (by omega)
    show f_X7_parts_n27_b (nI v) (f_X7_parts_n27 (nI v) (k + (d + 1))) M (nI i) = _
    unfold f_X7_parts_n27_b
    rw [if_pos b02, z0c, h.1, if_neg (NLe2 n i), at0 i (by omega), bind_some, if_neg (NLe2 v (f i)), lt_q, nI_1]
    exact ih (i + 1) k (by omega)
theorem m_parts {C M : St} (h : Rel C M) (x : Int32) : Ok2 (f_X6_parts C x) (f_X7_parts M x) := by
  have h' := h.thr 0
  unfold f_X6_parts f_X7_parts
  rw [lt_q]
  obtain ⟨P, L, n, q, f, kr, gr, kt, gt, h1, h2, h3, h5, h6⟩ := id h'
  generalize hM : put_i M 0 0 = M0 at h' h1 h2 h3 h6 ⊢
  have hp := h1.1
  have hw : 2 ^ P ≤ 16384 := p2P hp.2
  have hw1 : 0 < 2 ^ P := Nat.pow_pos (by omega)
  rw [h1.2.2.1, h1.2.2.2.1, sh_1 P (by omega), Sub1 (2 ^ P)]
  have hin := in_0 M0 (x := x) (y := 0) (z := nI (2 ^ P - 1)) (y' := 0) (z' := (nI (2 ^ P - 1)).toInt64) rfl rfl
  by_cases a : x < 0
  · rw [if_pos a, if_pos (hin.2 (fun z => i_nlt.2 z.1 a))]
    exact ⟨_, _, _, rfl, rfl, h'⟩
  · obtain ⟨v, hv, rfl⟩ := nI_of a
    rw [if_neg a]
    by_cases b : v < 2 ^ P
    · rw [if_pos (Lt2 v (2 ^ P)), if_neg (fun z => hin.1 z ⟨NNeg v, Le2 v (2 ^ P - 1)⟩)]
      have A0 := h2 0 (by omega)
      have A1 := h2 1 (by omega)
      have hn0 := A0.1.2.2.1
      have hn1 := A1.1.2.2.1
      have e3 : st_i C 3 = nI (n 0) := A0.1.1
      have e5 : st_i C 5 = nI (n 1) := A1.1.1
      have e4 : st_i C 4 = nI (q 0) := A0.1.2.1
      have hle := lb_le (f 0) (n 0) v
      have hq0 := A0.2.2.1
      obtain ⟨j, hj⟩ := fuel_ge (k := lb (f 0) (n 0) v + 1) (by omega)
      have ef := parts_find A0.2.1 (v := v) (by omega) (lb (f 0) (n 0) v) 0 j (by omega)
      rw [← hj, nI_0] at ef
      rw [bc_below A0.1 (by omega), bind_some, e3, lt_q, Sub2 (n 0) (lb (f 0) (n 0) v), ef]
      generalize hpp : lb (f 0) (n 0) v = p at hle
      unfold f_X7_parts_n53
      rw [if_pos b02, z0c, A0.2.1.1, lt_q, Sub2 (n 0) p]
      by_cases c : n 0 - p = 0
      · rw [c, if_pos nI_0, if_pos nI_0]
        exact ⟨_, _, _, rfl, rfl, h'⟩
      · rw [if_neg (nI_ne0 (by omega) (by omega)), if_neg (nI_ne0 (by omega) (by omega)), e5, if_pos b12, z1c, A1.2.1.1]
        by_cases d : n 1 = 0
        · rw [d, if_pos (show nI 0 ≤ 0 by decide), if_pos (show nI 0 ≤ 0 by decide), if_pos b02, if_pos b12, lt_q, A0.2.1.2.1, e4]
          obtain ⟨t1, c1, c2, c3⟩ := bc_empty C 1 (q := q 0) (f 1)
          have c4 := A0.1.keep c3 (by omega) (by omega) (by omega)
          obtain ⟨j2, hj2⟩ := fuel_ge (k := n 0 - p + 1) (by omega)
          obtain ⟨t2, d1, d2, d3, d4⟩ := parts_C (nI v) (nI p) (nI (n 0 - p)) (n 0 - p) p 0 j2 (f 1) t1 (by omega) c4 c2 (by omega)
          rw [← hj2] at d4
          obtain ⟨t3, w1, w2, w3⟩ := bc_cut d1 (k := p) (by omega)
          have f3 : st_i t2 3 = nI (n 0) := d1.1
          have eC : f_X6_parts_n72 (nI v) fuel t1 (nI p) (nI (n 0 - p)) (nI p) = some (nI (n 0 - p), t3) := by
            rw [d4]
            show f_X6_parts_n72_b (nI v) (f_X6_parts_n72 (nI v) j2) t2 _ _ (nI (n 0)) = _
            unfold f_X6_parts_n72_b
            rw [f3, if_pos (Le2 (n 0) (n 0)), w1, bind_some]
          have k1 : BM (put_a M0 1 1 (nI (q 0))) 1 0 (q 0) (f 1) := ⟨by rw [sa_pa, if_neg (by omega), A1.2.1.1, d], by rw [sa_pa, if_pos rfl, upd_at, if_pos rfl], by omega, fun i hi => by omega, fun i hi => by omega, fun i j _ hj => by omega⟩
          have k2 : BM (put_a M0 1 1 (nI (q 0))) 0 (n 0) (q 0) (f 0) := by
            obtain ⟨z1, z2, z3, z4, z5, z6⟩ := A0.2.1
            exact ⟨by rw [sa_pa, if_neg (by omega)]; exact z1, by rw [sa_pa, if_pos rfl, upd_at, if_neg (by omega)]; exact z2, z3, fun i hi => by rw [sa_pa, if_neg (by omega)]; exact z4 i hi, z5, z6⟩
          obtain ⟨u1, m1, m2, m3, m4⟩ := parts_M (nI v) (nI p) (nI (n 0 - p)) (n 0 - p) p 0 j2 (f 1) (put_a M0 1 1 (nI (q 0))) (by omega) k2 k1 (by omega)
          rw [← hj2] at m4
          have eM : f_X7_parts_n96 (nI v) fuel (put_a M0 1 1 (nI (q 0))) (nI p) (nI (n 0 - p)) (nI p) = some (nI (n 0 - p), put_a u1 2 0 (nI p)) := by
            rw [m4]
            show f_X7_parts_n96_b (nI v) (f_X7_parts_n96 (nI v) j2) u1 _ _ (nI (n 0)) = _
            unfold f_X7_parts_n96_b
            rw [if_pos b02, z0c, m1.1, if_pos (Le2 (n 0) (n 0)), if_pos b02, lt_q]
          rw [c1, bind_some, eC, eM]
          have fa : Fr bI2 bA2 C t3 := ((c3.mono (fun k z => by omega) (fun k z => by omega)).tr (d3.mono (fun k z => by omega) (fun k z => by omega))).tr (w3.mono (fun k z => by omega) (fun k z => by omega))
          have ga : Gr noI fA2 M0 (put_a u1 2 0 (nI p)) := ((gr_a (by omega)).tr (m3.mono (fun k z => z) (fun k j z => by omega))).tr (gr_a (by omega))
          refine ⟨_, _, _, rfl, rfl, P, L, fun F => if F = 0 then p else 0 + (n 0 - p), fun F => q 0, fun F => if F = 0 then f 0 else insAll (f 0) p (n 0 - p) (f 1) 0, kr, gr, kt, gt, h1.kp fa.s ga.s (fun k z => by omega) (fun k z => z.elim), fun F hF => ?_, ⟨h3.1.kp fa (by omega), h3.2.kp ga (fun z => z)⟩, h5.kp fa.s (by omega) (by omega), h6.kp ga.s (fun z => z) (fun j z => by omega)⟩
          have hnq := A0.2.2.2.1
          rcases (show F = 0 ∨ F = 1 by omega) with rfl | rfl
          · refine ⟨w2, ⟨by rw [sa_pa, if_pos rfl, upd_at, if_pos rfl]; rfl, by rw [sa_pa, if_neg (by omega)]; exact m1.2.1, w2.2.2.1, fun i hi => ?_, w2.2.2.2.2.1, w2.2.2.2.2.2⟩, hq0, ?_, fun i hi => ?_⟩
            · rw [sa_pa, if_neg (by omega)]; exact m1.2.2.2.1 i (Nat.lt_of_lt_of_le hi hle)
            · show p < 2 ^ q 0
              omega
            · exact A0.2.2.2.2 i (Nat.lt_of_lt_of_le hi hle)
          · refine ⟨d2.keep w3 (by omega) (by omega) (by omega), ⟨by rw [sa_pa, if_pos rfl, upd_at, if_neg (by omega)]; exact m2.1, by rw [sa_pa, if_neg (by omega)]; exact m2.2.1, d2.2.2.1, fun i hi => ?_, d2.2.2.2.2.1, d2.2.2.2.2.2⟩, hq0, ?_, ?_⟩
            · rw [sa_pa, if_neg (by omega)]; exact m2.2.2.2.1 i hi
            · show 0 + (n 0 - p) < 2 ^ q 0
              omega
            · exact insAll_bd (n 0 - p) p 0 (f 1) (fun j hj => A0.2.2.2.2 j (by omega)) (fun j hj => by omega)
        · rw [if_neg (nI_nle (by omega) (by omega)), if_neg (nI_nle (by omega) (by omega))]
          exact ⟨_, _, _, rfl, rfl, h'⟩
    · rw [if_neg (NLt2 v (2 ^ P)), if_pos (hin.2 (fun z => NLe2 v (2 ^ P - 1) (by omega) hv z.2))]
      exact ⟨_, _, _, rfl, rfl, h'⟩
