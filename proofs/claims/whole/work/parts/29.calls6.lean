/-! ends of calls: the files stay, the row is told anew -/
def Rf (C M : St) (P L : Nat) (n q : Nat → Nat) (f : Nat → Nat → Nat) (kt : Nat) (gt : Nat → Nat) : Prop := Hd C M P L ∧ (∀ F, F < 2 → Fl C M P F (n F) (q F) (f F)) ∧ TC C kt gt ∧ TM M kt gt
abbrev oI : Nat → Prop := fun k => 7 ≤ k ∧ k ≠ 17
abbrev oA : Nat → Prop := fun k => 2 ≤ k ∧ k ≠ 12
abbrev pJ : Nat → Prop := fun k => k ≠ 2 ∧ k ≠ 5 ∧ k ≠ 6 ∧ k ≠ 7
abbrev pB : Nat → Nat → Prop := fun k _ => 4 ≤ k
theorem Rf.kp {C M C' M' : St} {P L : Nat} {n q : Nat → Nat} {f : Nat → Nat → Nat} {kt : Nat} {gt : Nat → Nat} (h : Rf C M P L n q f kt gt) (fc : Fs oI oA C C') (gm : Gs pJ pB M M') : Rf C' M' P L n q f kt gt :=
  ⟨h.1.kp fc gm (fun k z => by omega) (fun k z => by omega), fun F hF => (h.2.1 F hF).kp fc gm ⟨by omega, by omega⟩ (by omega) ⟨by omega, by omega, fun i hi z => by omega⟩, h.2.2.1.kp fc (by omega) (by omega), h.2.2.2.kp gm (by omega) (fun j z => by omega)⟩
theorem o16 {C t : St} (h : Fs nI16 nA C t) : Fs oI oA C t := h.mono (fun k z => by omega) (fun k z => z.elim)
theorem p1 {M u : St} (h : Gs nI1 nA2 M u) : Gs pJ pB M u := h.mono (fun k z => by omega) (fun k j z => z.elim)
theorem Rf.rel {C M : St} {P L : Nat} {n q : Nat → Nat} {f : Nat → Nat → Nat} {kt : Nat} {gt : Nat → Nat} (h : Rf C M P L n q f kt gt) {kr : Nat} {gr : Nat → Int64} (h1 : RC C kr gr) (h2 : RM M kr gr) : Rel C M := ⟨P, L, n, q, f, kr, gr, kt, gt, h.1, h.2.1, ⟨h1, h2⟩, h.2.2.1, h.2.2.2⟩
theorem end1 {C M : St} {P L : Nat} {n q : Nat → Nat} {f : Nat → Nat → Nat} {kt : Nat} {gt : Nat → Nat} (h : Rf C M P L n q f kt gt) (a : Int64) : ∃ t u : St, f_X3_tell C a = some t ∧ f_X7_enters (put_i M 1 0) a = some u ∧ Rel t u ∧ Rf t u P L n q f kt gt ∧ Fs nI16 nA C t ∧ Gs nI1 nA2 M u := by
  obtain ⟨t, e1, r1, s1⟩ := rc_tell1 C a
  obtain ⟨u, e2, r2, s2⟩ := rm_tell1 M a
  have h' := h.kp (o16 s1) (p1 s2)
  exact ⟨t, u, e1, e2, h'.rel r1 r2, h', s1, s2⟩
theorem end2 {C M : St} {P L : Nat} {n q : Nat → Nat} {f : Nat → Nat → Nat} {kt : Nat} {gt : Nat → Nat} (h : Rf C M P L n q f kt gt) (a b : Int64) : ∃ t u1 u : St, f_X3_tell_ C a b = some t ∧ f_X7_enters (put_i M 1 0) a = some u1 ∧ f_X7_enters u1 b = some u ∧ Rel t u ∧ Rf t u P L n q f kt gt ∧ Fs nI16 nA C t ∧ Gs nI1 nA2 M u ∧ Gs nI1 nA2 M u1 ∧ RM u1 1 (fun _ => a) := by
  obtain ⟨t, e1, r1, s1⟩ := rc_tell2 C a b
  obtain ⟨u1, e2, r2, s2⟩ := rm_tell1 M a
  obtain ⟨u, e3, r3, s3⟩ := rm_more2 r2 b
  have h' := h.kp (o16 s1) (p1 (s2.tr s3))
  exact ⟨t, u1, u, e1, e2, e3, h'.rel r1 r3, h', s1, s2.tr s3, s2, r2⟩
theorem end3 {C M : St} {P L : Nat} {n q : Nat → Nat} {f : Nat → Nat → Nat} {kt : Nat} {gt : Nat → Nat} (h : Rf C M P L n q f kt gt) (a b c : Int64) : ∃ t u1 u2 u : St, f_X3_tell__ C a b c = some t ∧ f_X7_enters (put_i M 1 0) a = some u1 ∧ f_X7_enters u1 b = some u2 ∧ f_X7_enters u2 c = some u ∧ Rel t u ∧ Rf t u P L n q f kt gt ∧ Fs nI16 nA C t ∧ Gs nI1 nA2 M u ∧ Gs nI1 nA2 M u2 ∧ Gs nI1 nA2 M u1 := by
  obtain ⟨t, e1, r1, s1⟩ := rc_tell3 C a b c
  obtain ⟨u1, e2, r2, s2⟩ := rm_tell1 M a
  obtain ⟨u2, e3, r3, s3⟩ := rm_more2 r2 b
  obtain ⟨u, e4, r4, s4⟩ := rm_more3 r3 c
  have h' := h.kp (o16 s1) (p1 ((s2.tr s3).tr s4))
  exact ⟨t, u1, u2, u, e1, e2, e3, e4, h'.rel r1 r4, h', s1, (s2.tr s3).tr s4, s2.tr s3, s2⟩
theorem Rel.rf {C M : St} (h : Rel C M) : ∃ P L n q f kt gt, Rf C M P L n q f kt gt := by
  obtain ⟨P, L, n, q, f, kr, gr, kt, gt, h1, h2, h3, h5, h6⟩ := h
  exact ⟨P, L, n, q, f, kt, gt, h1, h2, h5, h6⟩
/-- all looked at -/
def AL (f : Nat → Nat) (n r : Nat) : Nat → Nat
  | 0 => 0
  | m + 1 => AL f n r m + LK f n r (f m)
theorem al_C_loop {C : St} {b n q P Q : Nat} {f : Nat → Nat} (h : BC C b n q f) (hP : st_i C 0 = nI P) (hQ : Q ≤ P) (hP2 : P ≤ 14) (hf : ∀ i, i < n → f i < 2 ^ P) : ∀ (d i k : Nat), i + d = n → f_X6_allLookedAt_n5 C b (nI Q) (k + (d + 1)) (nI (AL f n (P - Q) i)) (nI i) = some (nI (AL f n (P - Q) n)) := by
  have h3 := h.2.2.1
  intro d
  induction d with
  | zero =>
    intro i k e
    have : i = n := by omega
    subst this
    show f_X6_allLookedAt_n5_b C b (nI Q) (f_X6_allLookedAt_n5 C b (nI Q) k) _ (nI i) = _
    unfold f_X6_allLookedAt_n5_b
    rw [h.1, if_pos (Le2 i i)]
  | succ d ih =>
    intro i k e
    show f_X6_allLookedAt_n5_b C b (nI Q) (f_X6_allLookedAt_n5 C b (nI Q) (k + (d + 1))) _ (nI i) = _
    unfold f_X6_allLookedAt_n5_b
    rw [h.1, if_neg (NLe2 n i), bc_at h (by omega), bind_some, bc_looked h hP hQ hP2 (hf i (by omega)), bind_some, lt_q, lt_q, nI_add, nI_1]
    exact ih (i + 1) k (by omega)
theorem al_C {C : St} {b n q P Q : Nat} {f : Nat → Nat} (h : BC C b n q f) (hP : st_i C 0 = nI P) (hQ : Q ≤ P) (hP2 : P ≤ 14) (hf : ∀ i, i < n → f i < 2 ^ P) : f_X6_allLookedAt C b (nI Q) = some (nI (AL f n (P - Q) n)) := by
  have h3 := h.2.2.1
  unfold f_X6_allLookedAt
  obtain ⟨j, hj⟩ := fuel_ge (k := n + 1) (by omega)
  rw [hj]
  exact al_C_loop h hP hQ hP2 hf n 0 j (by omega)
theorem al_M_loop {M : St} {F n q P : Nat} {f : Nat → Nat} (h : BM M F n q f) (hF : F < 2) (hP : st_i M 5 = nI P) (hq : q ≤ P) (hP2 : P ≤ 14) : ∀ (d i k : Nat), i + d = n → f_X7_looksAll_n4 M (nI F) (k + (d + 1)) (nI (AL f n (P - q) i)) (nI i) = some (nI (AL f n (P - q) n)) := by
  have h3 := h.2.2.1
  intro d
  induction d with
  | zero =>
    intro i k e
    have : i = n := by omega
    subst this
    show f_X7_looksAll_n4_b M (nI F) (f_X7_looksAll_n4 M (nI F) k) _ (nI i) = _
    unfold f_X7_looksAll_n4_b
    rw [if_pos (Inb F 2), Cl F, h.1, if_pos (Le2 i i)]
  | succ d ih =>
    intro i k e
    have hb := h.2.2.2.2.1 i (by omega)
    show f_X7_looksAll_n4_b M (nI F) (f_X7_looksAll_n4 M (nI F) (k + (d + 1))) _ (nI i) = _
    unfold f_X7_looksAll_n4_b
    rw [if_pos (Inb F 2), Cl F, h.1, if_neg (NLe2 n i), bm_at h hF (by omega), bind_some, bm_looks h hF hP hq hP2 (by omega), bind_some, lt_q, lt_q, nI_add, nI_1]
    exact ih (i + 1) k (by omega)
theorem al_M {M : St} {F n q P : Nat} {f : Nat → Nat} (h : BM M F n q f) (hF : F < 2) (hP : st_i M 5 = nI P) (hq : q ≤ P) (hP2 : P ≤ 14) : f_X7_looksAll M (nI F) = some (nI (AL f n (P - q) n)) := by
  have h3 := h.2.2.1
  unfold f_X7_looksAll
  obtain ⟨j, hj⟩ := fuel_ge (k := n + 1) (by omega)
  rw [hj]
  exact al_M_loop h hF hP hq hP2 n 0 j (by omega)
theorem looks_loop {C M : St} {P L : Nat} {n q : Nat → Nat} {f : Nat → Nat → Nat} {kt : Nat} {gt : Nat → Nat} (h : Rf C M P L n q f kt gt) {F : Nat} (hF : F < 2) (x1 : Int32) : ∀ (d i k : Nat) (y3 y4 : Int32), i + d = n F → Ok2 (f_X6_looks_n20 x1 (k + (d + 1)) C F y3 y4 (nI i)) (f_X7_looks_n21 (nI F) (k + (d + 1)) M y3 y4 (nI i)) := by
  obtain ⟨a1, a2, ⟨q1, q2, q3⟩, a4, a5⟩ := h.2.1 F hF
  have hp := h.1.1
  have hn := a1.2.2.1
  have hP5 := h.1.2.2.2.1
  have hP0 := h.1.2.2.1
  intro d
  induction d with
  | zero =>
    intro i k y3 y4 e
    have : i = n F := by omega
    subst this
    show Ok2 (f_X6_looks_n20_b x1 (f_X6_looks_n20 x1 k) C F y3 y4 (nI (n F))) (f_X7_looks_n21_b (nI F) (f_X7_looks_n21 (nI F) k) M y3 y4 (nI (n F)))
    unfold f_X6_looks_n20_b f_X7_looks_n21_b
    obtain ⟨t, u1, u2, u, e1, e2, e3, e4, hr, hrf, s1, s2, s3, s4⟩ := end3 h y3.toInt64 y4.toInt64 (nI (ul (f F) (n F))).toInt64
    obtain ⟨b1, b2, -⟩ := hrf.2.1 F hF
    have hP0' := hrf.1.2.2.1
    have hP5' := hrf.1.2.2.2.1
    rw [a1.1, if_pos (Le2 (n F) (n F)), bc_unlike a1, bind_some, e1, bind_some, b1.2.1, al_C b1 hP0' (by omega) hp.2 a5, bind_some, if_pos (Inb F 2), Cl F, a2.1, if_pos (Le2 (n F) (n F)), lt_q, e2, bind_some, e3, bind_some, bm_unlike (a2.kp s3 (fun z => z) (fun z => z) (fun _ _ z => z)) hF, bind_some, e4, bind_some, al_M b2 hF hP5' (by omega) hp.2, bind_some]
    exact ⟨_, _, _, rfl, rfl, hr⟩
  | succ d ih =>
    intro i k y3 y4 e
    have hb := a1.2.2.2.2.1 i (by omega)
    show Ok2 (f_X6_looks_n20_b x1 (f_X6_looks_n20 x1 (k + (d + 1))) C F y3 y4 (nI i)) (f_X7_looks_n21_b (nI F) (f_X7_looks_n21 (nI F) (k + (d + 1))) M y3 y4 (nI i))
    unfold f_X6_looks_n20_b f_X7_looks_n21_b f_X6_looks_n63 f_X7_looks_n63
    rw [a1.1, if_neg (NLe2 (n F) i), bc_at a1 (by omega), a1.2.1, if_pos (Inb F 2), Cl F, a2.1, if_neg (NLe2 (n F) i), bm_at a2 hF (by omega)]
    simp only [bind_q, lt_q]
    rw [bc_looked a1 hP0 (by omega) hp.2 (a5 i (by omega)), bm_looks a2 hF hP5 (by omega) hp.2 (by omega)]
    simp only [bind_q, lt_q, nI_1]
    by_cases c : nI (LK (f F) (n F) (P - q F) (f F i)) ≤ y3
    · rw [if_pos c, if_pos c]
      exact ih (i + 1) k _ _ (by omega)
    · rw [if_neg c, if_neg c]
      exact ih (i + 1) k _ _ (by omega)
theorem m_looks {C M : St} (h : Rel C M) (x1 : Int32) : Ok2 (f_X6_looks C x1) (f_X7_looks M x1) := by
  have h' := h.thr 0
  unfold f_X6_looks f_X7_looks
  rw [lt_q, lt_q]
  refine guardF h' (fun F hF hx => ?_)
  subst hx
  obtain ⟨P, L, n, q, f, kt, gt, hr⟩ := h'.rf
  have hn := (hr.2.1 F hF).1.2.2.1
  obtain ⟨j, hj⟩ := fuel_ge (k := n F + 1) (by omega)
  rw [hj]
  exact looks_loop hr hF _ (n F) 0 j _ _ (by omega)
