/-! told slots against the layout -/
def okS (f : Nat → Nat) (n q r : Nat) (mm rm : Nat → Nat) (s : Nat) : Prop := mk (hh f r) (2 ^ q) n n s = mm s ∧ rB f n q r s = rm s
theorem rB_lt (f : Nat → Nat) (n q r s : Nat) : rB f n q r s < 2 ^ r := by
  have : 0 < 2 ^ r := Nat.pow_pos (by omega)
  unfold rB ow
  split
  · exact this
  · exact Nat.mod_lt _ this
theorem lies_loop {σ : St} {P Q n : Nat} {f mm rm : Nat → Nat} (hP : P ≤ 14) (h : RWC σ P Q mm rm) (l : LY σ 1 n Q (P - Q) f) : ∀ (d i k : Nat), i + d = 2 ^ Q → ((∀ s, i ≤ s → s < 2 ^ Q → okS f n Q (P - Q) mm rm s) → f_X4_liesAs_n2 σ 1 (k + (d + 1)) (nI i) = some 1) ∧ ((∃ s, i ≤ s ∧ s < 2 ^ Q ∧ ¬ okS f n Q (P - Q) mm rm s) → f_X4_liesAs_n2 σ 1 (k + (d + 1)) (nI i) = some 0) := by
  have hw := p2_bound h.2.1.2.1
  have hq := h.2.1
  intro d
  induction d with
  | zero =>
    intro i k e
    refine ⟨fun _ => ?_, fun ⟨s, a, b, _⟩ => by omega⟩
    show f_X4_liesAs_n2_b σ 1 (f_X4_liesAs_n2 σ 1 k) (nI i) = _
    unfold f_X4_liesAs_n2_b
    rw [slots_R h, if_pos (Le2 (2 ^ Q) i)]
  | succ d ih =>
    intro i k e
    obtain ⟨i1, i2⟩ := ih (i + 1) k (by omega)
    have hi : i < 2 ^ Q := by omega
    obtain ⟨-, m8, hr⟩ := h.2.2 i hi
    have hP2 := p2P hP
    have hr2 : 2 ^ (P - Q) ≤ 16384 := Nat.le_trans (Nat.pow_le_pow_right (by omega) (Nat.sub_le _ _)) hP2
    have hrb := rB_lt f n Q (P - Q) i
    have a := oB_01 f n (P - Q) i
    have b := cB_01 f n Q (P - Q) i
    have c := sB_01 f n Q (P - Q) i
    have ecl := cl_bits f n Q (P - Q) i
    have emk := mk_bits f n Q (P - Q) i
    have st : f_X4_liesAs_n2 σ 1 (k + (d + 1 + 1)) (nI i) = if nI (mm i + 8 * rm i) = nI (cl (hh f (P - Q)) (2 ^ Q) n (rr f (P - Q)) n i) then f_X4_liesAs_n2 σ 1 (k + (d + 1)) (nI (i + 1)) else some 0 := by
      show f_X4_liesAs_n2_b σ 1 (f_X4_liesAs_n2 σ 1 (k + (d + 1))) (nI i) = _
      unfold f_X4_liesAs_n2_b
      rw [slots_R h, if_neg (NLe2 (2 ^ Q) i), cell_R h hi, bind_some, cellAt_C l hq.2.1 hi, bind_some, lt_q, nI_1]
    rw [st]
    by_cases ok : okS f n Q (P - Q) mm rm i
    · obtain ⟨o1, o2⟩ := id ok
      have e1 : mm i + 8 * rm i = cl (hh f (P - Q)) (2 ^ Q) n (rr f (P - Q)) n i := by omega
      rw [if_pos (by rw [e1])]
      refine ⟨fun z => i1 (fun s h1 h2 => z s (by omega) h2), fun ⟨s, h1, h2, h3⟩ => i2 ⟨s, ?_, h2, h3⟩⟩
      by_cases q : s = i
      · rw [q] at h3; exact absurd ok h3
      · omega
    · have e1 : mm i + 8 * rm i ≠ cl (hh f (P - Q)) (2 ^ Q) n (rr f (P - Q)) n i := by
        intro z
        refine ok ⟨?_, ?_⟩ <;> omega
      rw [if_neg (Ne2 (mm i + 8 * rm i) (cl (hh f (P - Q)) (2 ^ Q) n (rr f (P - Q)) n i))]
      exact ⟨fun z => absurd (z i (by omega) hi) ok, fun _ => rfl⟩
theorem liesAs_C {σ : St} {P Q n : Nat} {f mm rm : Nat → Nat} (hP : P ≤ 14) (h : RWC σ P Q mm rm) (l : LY σ 1 n Q (P - Q) f) : (RQ f n Q (P - Q) mm rm → f_X4_liesAs σ 1 = some 1) ∧ (¬ RQ f n Q (P - Q) mm rm → f_X4_liesAs σ 1 = some 0) := by
  have hw := p2_bound h.2.1.2.1
  obtain ⟨j, hj⟩ := fuel_ge (k := 2 ^ Q + 1) (by omega)
  obtain ⟨a, b⟩ := lies_loop hP h l (2 ^ Q) 0 j (by omega)
  rw [← hj] at a b
  refine ⟨fun z => a (fun s _ hs => z s hs), fun z => b ?_⟩
  refine Classical.byContradiction (fun c => z (fun s hs => ?_))
  exact Classical.byContradiction (fun y => c ⟨s, by omega, hs, y⟩)
theorem as_loop {u : St} {P Q n F : Nat} {f mm rm : Nat → Nat} (hP : P ≤ 14) (hF : F < 2) (h : RWM u P Q mm rm) (hb : BM u F n Q f) (hf : ∀ i, i < n → f i < 2 ^ P) (l : LM u n Q (P - Q) f) : ∀ (d i k : Nat), i + d = 2 ^ Q → ((∀ s, i ≤ s → s < 2 ^ Q → okS f n Q (P - Q) mm rm s) → f_X7_isAsTold_n7 (nI F) (k + (d + 1)) u (nI i) = some (1, u)) ∧ ((∃ s, i ≤ s ∧ s < 2 ^ Q ∧ ¬ okS f n Q (P - Q) mm rm s) → f_X7_isAsTold_n7 (nI F) (k + (d + 1)) u (nI i) = some (0, u)) := by
  have hw := p2_bound h.2.1.2.1
  have hq := h.2.1
  intro d
  induction d with
  | zero =>
    intro i k e
    refine ⟨fun _ => ?_, fun ⟨s, a, b, _⟩ => by omega⟩
    show f_X7_isAsTold_n7_b (nI F) (f_X7_isAsTold_n7 (nI F) k) u (nI i) = _
    unfold f_X7_isAsTold_n7_b
    rw [bm_slots hb hF (by omega), bind_some, if_pos (Le2 (2 ^ Q) i)]
  | succ d ih =>
    intro i k e
    obtain ⟨i1, i2⟩ := ih (i + 1) k (by omega)
    have hi : i < 2 ^ Q := by omega
    obtain ⟨h9, h10, m8, hr⟩ := h.2.2.2 i hi
    have hP2 := p2P hP
    have hr2 : 2 ^ (P - Q) ≤ 16384 := Nat.le_trans (Nat.pow_le_pow_right (by omega) (Nat.sub_le _ _)) hP2
    have hrb := rB_lt f n Q (P - Q) i
    have a := oB_01 f n (P - Q) i
    have b := cB_01 f n Q (P - Q) i
    have c := sB_01 f n Q (P - Q) i
    have emk := mk_bits f n Q (P - Q) i
    have h5 : st_a u 5 i = nI (iB f n Q (P - Q) i) - 1 := l.2.1 i hi
    have st : f_X7_isAsTold_n7 (nI F) (k + (d + 1 + 1)) u (nI i) = f_X7_isAsTold_n45 (nI F) (f_X7_isAsTold_n7 (nI F) (k + (d + 1))) u (nI i) (nI (rB f n Q (P - Q) i)) := by
      show f_X7_isAsTold_n7_b (nI F) (f_X7_isAsTold_n7 (nI F) (k + (d + 1))) u (nI i) = _
      unfold f_X7_isAsTold_n7_b
      rw [bm_slots hb hF (by omega), bind_some, if_neg (NLe2 (2 ^ Q) i), if_pos (Inb i 64), Cl i, h5, if_pos (Inb i 64)]
      rcases ix_cases (f := f) (n := n) (q := Q) (r := P - Q) (s := i) with ⟨x1, x2⟩ | ⟨y, y1, y2, y3, y4⟩
      · rw [x2, if_neg (by decide)]
        have : rB f n Q (P - Q) i = 0 := by
          show ow _ (iB f n Q (P - Q) i) = 0
          rw [x1]
          rfl
        rw [this, nI_0]
      · have hfy := hf y y1
        have : rB f n Q (P - Q) i = f y % 2 ^ (P - Q) := by
          show ow _ (iB f n Q (P - Q) i) = _
          rw [y2]
          unfold ow
          rw [if_neg (by omega), Nat.add_sub_cancel]
        have hn := hb.2.2.1
        rw [y3, if_pos (NNeg y), bm_at hb hF y1, bind_some, bm_rem hb hF h.2.2.1 (by omega) (by omega) (by omega), bind_some, this]
    rw [st]
    unfold f_X7_isAsTold_n45
    rw [if_pos (Inb i 64), if_pos (Inb i 64), Cl i, h9, l.2.2 i hi, if_pos (Inb i 64), h10, lt_q, nI_1]
    by_cases ok : okS f n Q (P - Q) mm rm i
    · obtain ⟨o1, o2⟩ := id ok
      rw [if_pos (by rw [o1]), if_pos (by rw [o2])]
      refine ⟨fun z => i1 (fun s h1 h2 => z s (by omega) h2), fun ⟨s, h1, h2, h3⟩ => i2 ⟨s, ?_, h2, h3⟩⟩
      by_cases q : s = i
      · rw [q] at h3; exact absurd ok h3
      · omega
    · refine ⟨fun z => absurd (z i (by omega) hi) ok, fun _ => ?_⟩
      by_cases c1 : mk (hh f (P - Q)) (2 ^ Q) n n i = mm i
      · rw [if_pos (by rw [c1])]
        have c2 : rB f n Q (P - Q) i ≠ rm i := fun z => ok ⟨c1, z⟩
        rw [if_neg (Ne2 (rB f n Q (P - Q) i) (rm i))]
      · rw [if_neg (Ne2 (mk (hh f (P - Q)) (2 ^ Q) n n i) (mm i))]
/-- the end of the reference: as told or not -/
theorem as_M {M : St} {P Q n F : Nat} {f mm rm : Nat → Nat} (hP : P ≤ 14) (hF : F < 2) (h : RWM M P Q mm rm) (hb : BM M F n Q f) (hn : n < 2 ^ Q) (hf : ∀ i, i < n → f i < 2 ^ P) : ∃ u : St, Gr noI lM M u ∧ (RQ f n Q (P - Q) mm rm → f_X7_isAsTold M (nI F) = some (1, u)) ∧ (¬ RQ f n Q (P - Q) mm rm → f_X7_isAsTold M (nI F) = some (0, u)) := by
  have hw := p2_bound h.2.1.2.1
  have hq := h.2.1
  obtain ⟨u, e1, l1, g1⟩ := lay_M hb hF h.2.2.1 hq.2.1 (by omega) hP hn hf
  obtain ⟨j, hj⟩ := fuel_ge (k := 2 ^ Q + 1) (by omega)
  obtain ⟨a, b⟩ := as_loop hP hF (h.kp g1.s (fun z => z) (fun z => z) (fun j z => by omega) (fun j z => by omega)) (hb.kp g1.s (by omega) (by omega) (fun i hi z => by omega)) hf l1 (2 ^ Q) 0 j (by omega)
  rw [← hj, nI_0] at a b
  have e2 : f_X7_isAsTold M (nI F) = f_X7_isAsTold_n7 (nI F) fuel u 0 := by
    unfold f_X7_isAsTold
    rw [e1, bind_some]
  rw [e2]
  refine ⟨u, g1, fun z => a (fun s _ hs => z s hs), fun z => b ?_⟩
  refine Classical.byContradiction (fun c => z (fun s hs => ?_))
  exact Classical.byContradiction (fun y => c ⟨s, by omega, hs, y⟩)
abbrev tM (F : Nat) : Nat → Nat → Prop := fun k j => fA F k j ∨ (4 ≤ k ∧ k ≤ 6) ∨ k = 11 ∨ k = 12
abbrev tJ : Nat → Prop := fun k => k = 9 ∨ k = 10
theorem takes_M {M : St} {P Q F n0 q0 : Nat} {f0 mm rm : Nat → Nat} (hP : P ≤ 14) (hF : F < 2) (h : RWM M P Q mm rm) (hb : BM M F n0 q0 f0) : (∀ (n : Nat) (f : Nat → Nat), Srt f n → n < 2 ^ Q → (∀ i, i < n → f i < 2 ^ P) → RQ f n Q (P - Q) mm rm → ∃ u : St, f_X7_takesTold M (nI F) = some (nI n, u) ∧ BM u F n Q f ∧ Gr tJ (tM F) M u) ∧ ((∀ (n : Nat) (f : Nat → Nat), Srt f n → n < 2 ^ Q → (∀ i, i < n → f i < 2 ^ P) → ¬ RQ f n Q (P - Q) mm rm) → ∃ u : St, f_X7_takesTold M (nI F) = some (-300, u) ∧ BM u F n0 q0 f0 ∧ Gr tJ (tM F) M u) := by
  have hw := p2_bound h.2.1.2.1
  have hq := h.2.1
  obtain ⟨t1, e1, s9, s10, s11, g1⟩ := sv_M hF hb
  have ga : Gr noI (fA F) t1 (put_a (put_a t1 2 F 0) 1 F (nI Q)) := (gr_a (show fA F 2 F by omega)).tr (gr_a (show fA F 1 F by omega))
  have b0 : BM (put_a (put_a t1 2 F 0) 1 F (nI Q)) F 0 Q (fun _ => 0) := ⟨by rw [sa_pa, if_neg (by omega), sa_pa, if_pos rfl, upd_at, if_pos rfl]; rfl, by rw [sa_pa, if_pos rfl, upd_at, if_pos rfl], by omega, fun i hi => by omega, fun i hi => by omega, fun i j _ hj => by omega⟩
  have h1 : RWM t1 P Q mm rm := h.kp g1.s (by omega) (by omega) (fun j z => by omega) (fun j z => by omega)
  have h2 := h1.kp ga.s (fun z => z) (fun z => z) (fun j z => by omega) (fun j z => by omega)
  have e2 : f_X7_takesTold M (nI F) = f_X7_takesTold_n26 (nI F) fuel (put_a (put_a t1 2 F 0) 1 F (nI Q)) 1 (nI 0) := by
    unfold f_X7_takesTold
    rw [e1, bind_some, if_pos (Inb F 2), Cl F, lt_q, if_pos (Inb F 2), lt_q, si_pa, h1.1, nI_0]
  have gT : Gr tJ (tM F) M t1 := g1.mono (fun k z => z) (fun k j z => by omega)
  have gT2 : Gr tJ (tM F) M (put_a (put_a t1 2 F 0) 1 F (nI Q)) := gT.tr (ga.mono (fun k z => z.elim) (fun k j z => Or.inl z))
  have s9' : st_i (put_a (put_a t1 2 F 0) 1 F (nI Q)) 9 = nI n0 := by rw [si_pa, si_pa]; exact s9
  have s10' : st_i (put_a (put_a t1 2 F 0) 1 F (nI Q)) 10 = nI q0 := by rw [si_pa, si_pa]; exact s10
  have s11' : ∀ j, j < n0 → st_a (put_a (put_a t1 2 F 0) 1 F (nI Q)) 11 j = nI (f0 j) := fun j hj => by rw [ga.2.1 11 j (by omega)]; exact s11 j hj
  rw [e2]
  generalize put_a (put_a t1 2 F 0) 1 F (nI Q) = M2 at b0 h2 gT2 s9' s10' s11' ⊢
  obtain ⟨j, hj⟩ := fuel_ge (k := 2 ^ Q + 1) (by omega)
  rw [hj]
  have cm : ∀ {x y : St}, Gr noI (cM F) x y → Gr tJ (tM F) x y := fun g => g.mono (fun k z => z.elim) (fun k j z => by omega)
  have lm : ∀ {x y : St}, Gr noI lM x y → Gr tJ (tM F) x y := fun g => g.mono (fun k z => z.elim) (fun k j z => by omega)
  refine ⟨fun n f hs hn hf hr => ?_, fun hno => ?_⟩
  · have hl := HL_of hs (show Q ≤ P by omega) hn hf
    obtain ⟨b, k0, B, R, hz, hbB⟩ := base_M hl
    have start : ∃ a, a ≤ n ∧ a = 0 ∧ (∀ m, m < n → po B 0 m = B m → (m < a ↔ b + B m < 0)) ∧ (a = n ∨ po B 0 a = B a) := by
      refine ⟨0, by omega, rfl, fun m _ _ => by omega, ?_⟩
      rcases Nat.eq_zero_or_pos n with z | z
      · exact Or.inl z.symm
      · right; rw [(hz z).2.1, (hz z).2.2]
    obtain ⟨a, a1, rfl, a3, a4⟩ := start
    obtain ⟨t, g', x1, x2, x3, x4⟩ := tt_strong hP hF hl hr R hz hbB (2 ^ Q) 0 j 0 (fun _ => 0) M2 (by omega) h2 a1 a3 a4 b0 (fun v => rfl)
    have hc2 : ∀ v, cnt g' n v = cnt f n v := fun v => by rw [x3 v, ci_rot f v R.hk, ← ci_lb]
    have hsame := same_of_cnt (B := 16384) x2.2.2.2.2.2 hs x2.2.2.2.2.1 (fun i hi => by have := hf i hi; have := p2P hP; omega) hc2
    have xb := BM.cg x2 hsame.2
    have h3 : RWM t P Q mm rm := h2.kp x4.s (fun z => z) (fun z => z) (fun j z => by omega) (fun j z => by omega)
    obtain ⟨u, u1, u2, -⟩ := as_M hP hF h3 xb hn hf
    have xu := xb.kp u1.s (by omega) (by omega) (fun i hi z => by omega)
    rw [x1]
    unfold f_X7_takesTold_n92
    rw [if_neg (by decide), u2 hr, bind2_some, if_neg (by decide), if_pos (Inb F 2), Cl F, xu.1]
    exact ⟨u, rfl, xu, (gT2.tr (cm x4)).tr (lm u1)⟩
  · obtain ⟨y, t, m, g, x1, x2, x3, x4, x5, x6⟩ := tt_weak (mm := mm) (rm := rm) hP hF (2 ^ Q) 0 j 0 1 (fun _ => 0) M2 (by omega) h2 b0 (by omega) (Or.inr rfl) (fun j hj => by omega)
    have h3 : RWM t P Q mm rm := h2.kp x6.s (fun z => z) (fun z => z) (fun j z => by omega) (fun j z => by omega)
    have back : ∀ v : St, Gr tJ (tM F) M v → st_i v 9 = nI n0 → st_i v 10 = nI q0 → (∀ j, j < n0 → st_a v 11 j = nI (f0 j)) → ∃ u : St, f_X7_takesTold_n104 (nI F) v = some (-300, u) ∧ BM u F n0 q0 f0 ∧ Gr tJ (tM F) M u := by
      intro v gv v9 v10 v11
      obtain ⟨u, y1, y2, y3⟩ := back_M (q := q0) (f := f0) hF hb.2.2.1 hb.2.2.2.2.1 hb.2.2.2.2.2 v9 v10 v11
      refine ⟨u, ?_, y2, gv.tr (y3.mono (fun k z => z.elim) (fun k j z => Or.inl z))⟩
      unfold f_X7_takesTold_n104
      rw [y1, bind_some]
    have t9 : st_i t 9 = nI n0 := by rw [x6.1 9 (fun z => z)]; exact s9'
    have t10 : st_i t 10 = nI q0 := by rw [x6.1 10 (fun z => z)]; exact s10'
    have t11 : ∀ j, j < n0 → st_a t 11 j = nI (f0 j) := fun j hj => by rw [x6.2.1 11 j (by omega)]; exact s11' j hj
    rw [x1]
    unfold f_X7_takesTold_n92
    rcases x2 with rfl | rfl
    · rw [if_pos rfl]
      exact back t (gT2.tr (cm x6)) t9 t10 t11
    · obtain ⟨u, u1, -, u3⟩ := as_M hP hF h3 x3 x4 x5
      rw [if_neg (by decide), u3 (hno m g x3.2.2.2.2.2 x4 x5), bind2_some, if_pos rfl]
      exact back u ((gT2.tr (cm x6)).tr (lm u1)) (by rw [u1.1 9 (fun z => z)]; exact t9) (by rw [u1.1 10 (fun z => z)]; exact t10) (fun j hj => by rw [u1.2.1 11 j (by omega)]; exact t11 j hj)
abbrev rI (F : Nat) : Nat → Prop := fun k => k = 7 ∨ k = 8 ∨ (12 ≤ k ∧ k ≤ 14) ∨ bI F k
abbrev rA (F : Nat) : Nat → Prop := fun k => k = 2 ∨ k = 10 ∨ (6 ≤ k ∧ k ≤ 8) ∨ k = F
theorem raw_C {C : St} {P Q F n0 q0 : Nat} {f0 mm rm : Nat → Nat} (hP : P ≤ 14) (hF : F < 2) (h0 : st_i C 0 = nI P) (h : RWC C P Q mm rm) (hb : BC C F n0 q0 f0) : (∀ (n : Nat) (f : Nat → Nat), Srt f n → n < 2 ^ Q → (∀ i, i < n → f i < 2 ^ P) → RQ f n Q (P - Q) mm rm → ∃ t : St, f_X6_becomeRaw C F = some (nI n, t) ∧ BC t F n Q f ∧ Fr (rI F) (rA F) C t) ∧ ((∀ (n : Nat) (f : Nat → Nat), Srt f n → n < 2 ^ Q → (∀ i, i < n → f i < 2 ^ P) → ¬ RQ f n Q (P - Q) mm rm) → ∃ t : St, f_X6_becomeRaw C F = some (-300, t) ∧ BC t F n0 q0 f0 ∧ Fr (rI F) (rA F) C t) := by
  have hq := h.2.1
  have m1 : ∀ {x y : St}, Fr dI dA x y → Fr (rI F) (rA F) x y := fun g => g.mono (fun k z => by omega) (fun k z => by omega)
  have m2 : ∀ {x y : St}, Fr (lI 1) (lA 1) x y → Fr (rI F) (rA F) x y := fun g => g.mono (fun k z => by omega) (fun k z => by omega)
  have m3 : ∀ {x y : St}, Fr (bI F) (bA F) x y → Fr (rI F) (rA F) x y := fun g => g.mono (fun k z => by omega) (fun k z => by omega)
  unfold f_X6_becomeRaw
  rw [h0]
  refine ⟨fun n f hs hn hf hr => ?_, fun hno => ?_⟩
  · obtain ⟨t1, e1, b1, f1⟩ := decode_strong h hP hs hn hf hr
    obtain ⟨t2, e2, l2, f2⟩ := lay_C (c := 1) b1 (by omega) (by omega) hq.2.1 (show Q ≤ P by omega) hP hn hf
    have h2 := (h.kp f1.s (by omega) (by omega)).kp f2.s (by omega) (by omega)
    have b2 := b1.kp f2.s (by omega) (by omega) (by omega)
    obtain ⟨t3, e3, b3, f3⟩ := bc_like (b := F) (b1 := 2) (by omega) b2
    have p1 : st_i t1 0 = nI P := by rw [f1.1 0 (by omega)]; exact h0
    rw [e1, bind2_some, if_neg (by decide), p1, e2, bind_some, (liesAs_C hP h2 l2).1 hr, bind_some, if_neg (by decide), e3, bind_some, b3.1]
    exact ⟨t3, rfl, b3, ((m1 f1).tr (m2 f2)).tr (m3 f3)⟩
  · obtain ⟨r, t1, m, g, e1, r01, b1, a4, a5, f1⟩ := decode_weak h hP
    have kb : BC t1 F n0 q0 f0 := hb.kp f1.s (by omega) (by omega) (by omega)
    rw [e1, bind2_some]
    rcases r01 with rfl | rfl
    · rw [if_pos rfl]
      exact ⟨t1, rfl, kb, m1 f1⟩
    · obtain ⟨t2, e2, l2, f2⟩ := lay_C (c := 1) b1 (by omega) (by omega) hq.2.1 (show Q ≤ P by omega) hP a4 a5
      have h2 := (h.kp f1.s (by omega) (by omega)).kp f2.s (by omega) (by omega)
      have p1 : st_i t1 0 = nI P := by rw [f1.1 0 (by omega)]; exact h0
      rw [if_neg (by decide), p1, e2, bind_some, (liesAs_C hP h2 l2).2 (hno m g b1.2.2.2.2.2 a4 a5), bind_some, if_pos rfl]
      exact ⟨t2, rfl, kb.kp f2.s (by omega) (by omega) (by omega), (m1 f1).tr (m2 f2)⟩
theorem raw2 {C M : St} {P L Q F : Nat} {n q : Nat → Nat} {f : Nat → Nat → Nat} {kt : Nat} {gt : Nat → Nat} {kr : Nat} {gr : Nat → Int64} {mm rm : Nat → Nat} (h : Rf C M P L n q f kt gt) (hF : F < 2) (hC : RWC C P Q mm rm) (hM : RWM M P Q mm rm) (r1 : RC C kr gr) (r2 : RM M kr gr) : Ok2 (f_X6_becomeRaw C F) (f_X7_takesTold M (nI F)) := by
  obtain ⟨a1, a2, a3, a4, a5⟩ := h.2.1 F hF
  have hp := h.1.1
  have hq := hC.2.1
  obtain ⟨c1, c2⟩ := raw_C hp.2 hF h.1.2.2.1 hC a1
  obtain ⟨m1, m2⟩ := takes_M hp.2 hF hM a2
  have fin : ∀ (r : Int32) (t u : St) (n' q' : Nat) (f' : Nat → Nat), f_X6_becomeRaw C F = some (r, t) → f_X7_takesTold M (nI F) = some (r, u) → BC t F n' q' f' → BM u F n' q' f' → (3 ≤ q' ∧ q' ≤ 6 ∧ q' < P) → n' < 2 ^ q' → (∀ i, i < n' → f' i < 2 ^ P) → Fr (rI F) (rA F) C t → Gr tJ (tM F) M u → Ok2 (f_X6_becomeRaw C F) (f_X7_takesTold M (nI F)) := by
    intro r t u n' q' f' e1 e2 b1 b2 hq' hn' hf' f1 g1
    have hff := files_upd h.2.1 (show Fl t u P F n' q' f' from ⟨b1, b2, hq', hn', hf'⟩) f1.s g1.s (fun G hG hne => ⟨⟨by omega, by omega⟩, by omega, by omega, by omega, fun i hi => by omega⟩)
    have hrf : Rf t u P L _ _ _ kt gt := ⟨h.1.kp f1.s g1.s (fun k z => by omega) (fun k z => by omega), hff, h.2.2.1.kp f1.s (by omega) (by omega), h.2.2.2.kp g1.s (by omega) (fun j z => by omega)⟩
    exact ⟨r, t, u, e1, e2, hrf.rel (r1.kp f1 (by omega)) (r2.kp g1 (by omega))⟩
  rcases Classical.em (∃ (n' : Nat) (f' : Nat → Nat), Srt f' n' ∧ n' < 2 ^ Q ∧ (∀ i, i < n' → f' i < 2 ^ P) ∧ RQ f' n' Q (P - Q) mm rm) with ⟨n', f', x1, x2, x3, x4⟩ | hno
  · obtain ⟨t, e1, b1, f1⟩ := c1 n' f' x1 x2 x3 x4
    obtain ⟨u, e2, b2, g1⟩ := m1 n' f' x1 x2 x3 x4
    exact fin _ t u n' Q f' e1 e2 b1 b2 hq x2 x3 f1 g1
  · have hno' : ∀ (n : Nat) (f : Nat → Nat), Srt f n → n < 2 ^ Q → (∀ i, i < n → f i < 2 ^ P) → ¬ RQ f n Q (P - Q) mm rm := fun n' f' x1 x2 x3 x4 => hno ⟨n', f', x1, x2, x3, x4⟩
    obtain ⟨t, e1, b1, f1⟩ := c2 hno'
    obtain ⟨u, e2, b2, g1⟩ := m2 hno'
    exact fin _ t u _ _ _ e1 e2 b1 b2 a3 a4 a5 f1 g1
