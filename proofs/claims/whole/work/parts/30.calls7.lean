/-! best -/
theorem gs_put {I : Nat → Prop} {A : Nat → Nat → Prop} {M M1 : St} {k i : Nat} {v w : Int32} (h : Gs I A (put_a M k i v) M1) : Gs I A (put_a M k i w) (put_a M1 k i w) := by
  refine ⟨fun j hj => by rw [si_pa, si_pa, h.1 j hj, si_pa], fun k' j hj => ?_⟩
  have h2 := h.2 k' j hj
  rw [sa_pa] at h2 ⊢
  rw [sa_pa]
  by_cases c : k' = k
  · rw [if_pos c] at h2
    rw [if_pos c, if_pos c, upd_at, upd_at]
    by_cases d : j = i
    · rw [if_pos d, if_pos d]
    · rw [if_neg d, if_neg d]
      rw [upd_at, if_neg d] at h2
      rw [← c, h2, c]
  · rw [if_neg c] at h2
    rw [if_neg c, if_neg c, h2]
theorem bm_q {M : St} {F n q Y : Nat} {f : Nat → Nat} {v : Int32} (h : BM (put_a M 1 F v) F n q f) : BM (put_a M 1 F (nI Y)) F n Y f := by
  obtain ⟨h1, h2, h3, h4, h5, h6⟩ := h
  refine ⟨?_, by rw [sa_pa, if_pos rfl, upd_at, if_pos rfl], h3, fun i hi => ?_, h5, h6⟩
  · rw [sa_pa, if_neg (by omega)] at h1 ⊢; exact h1
  · have := h4 i hi
    rw [sa_pa, if_neg (by omega)] at this ⊢; exact this
theorem best_loop {P L : Nat} {n q : Nat → Nat} {f : Nat → Nat → Nat} {kt : Nat} {gt : Nat → Nat} {F : Nat} (hF : F < 2) (x1 : Int32) : ∀ (d Y k kr : Nat) (C M : St) (gr : Nat → Int64) (y3 y4 y4' : Int32), Y + d = 7 → kr + 3 = Y → Rf C (put_a M 1 F (nI (q F))) P L n q f kt gt → RC C kr gr → RM M kr gr → (y3 < 0 ∨ y4 = y4') → Ok2 (f_X6_best_n27 x1 (k + (d + 1)) C F y3 y4 (nI Y)) (f_X7_best_n34 (nI F) (k + (d + 1)) M (nI (q F)) y3 y4' (nI Y)) := by
  intro d
  induction d with
  | zero =>
    intro Y k kr C M gr y3 y4 y4' hY hk h hc hm hy
    have : Y = 7 := by omega
    subst this
    show Ok2 (f_X6_best_n27_b x1 (f_X6_best_n27 x1 k) C F y3 y4 (nI 7)) (f_X7_best_n34_b (nI F) (f_X7_best_n34 (nI F) k) M (nI (q F)) y3 y4' (nI 7))
    unfold f_X6_best_n27_b f_X7_best_n34_b
    rw [if_pos (by decide), if_pos (by decide), if_pos (Inb F 2), lt_q, Cl F]
    exact ⟨_, _, _, rfl, rfl, h.rel hc (hm.kp (gr_a (I := noI) (A := fun k j => k = 1) rfl) (fun z => z))⟩
  | succ d ih =>
    intro Y k kr C M gr y3 y4 y4' hY hk h hc hm hy
    obtain ⟨a1, a2, ⟨q1, q2, q3⟩, a4, a5⟩ := h.2.1 F hF
    have hp := h.1.1
    have hn := a1.2.2.1
    have hP5 := h.1.2.2.2.1
    rw [si_pa] at hP5
    have hn2 : st_a M 2 F = nI (n F) := by have := a2.1; rw [sa_pa, if_neg (by omega)] at this; exact this
    have hpw : 2 ^ Y ≤ 64 := Nat.pow_le_pow_right (n := 2) (by omega) (show Y ≤ 6 by omega)
    show Ok2 (f_X6_best_n27_b x1 (f_X6_best_n27 x1 (k + (d + 1))) C F y3 y4 (nI Y)) (f_X7_best_n34_b (nI F) (f_X7_best_n34 (nI F) (k + (d + 1))) M (nI (q F)) y3 y4' (nI Y))
    have step : ∀ (w : Int32) (z4 z4' z3 : Int32), (z3 < 0 ∨ z4 = z4') → Ok2 ((f_X3_add C w.toInt64).bind fun s1 => f_X6_best_n27 x1 (k + (d + 1)) s1 F z3 z4 (nI Y + 1)) ((f_X7_enters (put_a M 1 F (nI Y)) w.toInt64).bind fun s4 => f_X7_best_n34 (nI F) (k + (d + 1)) s4 (nI (q F)) z3 z4' (nI Y + 1)) := by
      intro w z4 z4' z3 hz
      obtain ⟨t, e1, r1, s1⟩ := rc_add hc (by omega) w.toInt64
      have hm' : RM (put_a M 1 F (nI Y)) kr gr := hm.kp (gr_a (I := noI) (A := fun k j => k = 1) rfl) (fun z => z)
      obtain ⟨u, e2, r2, s2⟩ := rm_add hm' (by omega) w.toInt64
      rw [e1, e2, bind_some, bind_some, nI_1]
      exact ih (Y + 1) k (kr + 1) t u _ z3 z4 z4' (by omega) (by omega) (h.kp (o16 s1) (p1 (gs_put s2))) r1 r2 hz
    have no : Ok2 (f_X6_best_n58 x1 (f_X6_best_n27 x1 (k + (d + 1))) C F y3 y4 (nI Y)) (f_X7_best_n67 (nI F) (f_X7_best_n34 (nI F) (k + (d + 1))) M (nI (q F)) y3 y4' (nI Y)) := by
      unfold f_X6_best_n58 f_X6_best_n59 f_X6_best_n77 f_X6_best_n102 f_X7_best_n67 f_X7_best_n68 f_X7_best_n92
      simp only [Inb F 2, Cl F, lt_q, eq_self, ↓reduceIte]
      exact step (-1) y4 y4' y3 hy
    have yes : Ok2 (f_X6_best_n59 x1 (f_X6_best_n27 x1 (k + (d + 1))) C F y3 y4 (nI Y) 1) (f_X7_best_n68 (nI F) (f_X7_best_n34 (nI F) (k + (d + 1))) M (nI (q F)) y3 y4' (nI Y) 1) ∨ P ≤ Y := by
      by_cases hYP : P ≤ Y
      · exact Or.inr hYP
      refine Or.inl ?_
      unfold f_X6_best_n59 f_X6_best_n77 f_X6_best_n95 f_X6_best_n102 f_X7_best_n68 f_X7_best_n92
      have hAM := al_M (bm_q (Y := Y) a2) hF (by rw [si_pa]; exact hP5) (by omega) hp.2
      have n10 : ¬ (1 : Int32) = 0 := by decide
      simp only [n10, Inb F 2, Cl F, lt_q, ↓reduceIte]
      rw [al_C a1 h.1.2.2.1 (show Y ≤ P by omega) hp.2 a5, hAM]
      simp only [bind_q]
      generalize nI (AL (f F) (n F) (P - Y) (n F)) = w
      by_cases c1 : y3 < 0
      · simp only [c1, ↓reduceIte]
        exact step w w w (nI Y) (Or.inr rfl)
      · have hy4 : y4 = y4' := hy.resolve_left c1
        subst hy4
        by_cases c2 : y4 ≤ w
        · simp only [c1, c2, ↓reduceIte]
          exact step w y4 y4 y3 (Or.inr rfl)
        · simp only [c1, c2, ↓reduceIte]
          exact step w w w (nI Y) (Or.inr rfl)
    unfold f_X6_best_n27_b f_X7_best_n34_b
    rw [if_neg (NLtL 6 6 Y), if_neg (NLtL 6 6 Y), gq_eq h.1, hP5, if_pos (Inb F 2), Cl F, hn2, sh_1 Y (by omega), a1.1]
    by_cases c : P ≤ Y
    · rw [if_pos (Lt2 (min 6 (P - 1)) Y), if_pos (Le2 P Y)]
      exact no
    · rw [if_neg (NLt2 (min 6 (P - 1)) Y), if_neg (NLe2 P Y)]
      by_cases c2 : 2 ^ Y ≤ n F
      · rw [if_pos (Le2 (2 ^ Y) (n F)), if_pos (Le2 (2 ^ Y) (n F))]
        exact no
      · rw [if_neg (NLe2 (2 ^ Y) (n F)), if_neg (NLe2 (2 ^ Y) (n F))]
        exact yes.resolve_right c
theorem m_best {C M : St} (h : Rel C M) (x1 : Int32) : Ok2 (f_X6_best C x1) (f_X7_best M x1) := by
  have h' := h.thr 0
  unfold f_X6_best f_X7_best
  rw [lt_q, lt_q]
  refine guardF h' (fun F hF hx => ?_)
  subst hx
  obtain ⟨P, L, n, q, f, kt, gt, hr⟩ := h'.rf
  obtain ⟨t, e, r, s⟩ := rc_restart C (fun _ => 0)
  obtain ⟨r0, s0⟩ := rm_0 (put_i M 0 0) (fun _ => 0)
  obtain ⟨a1, a2, -⟩ := hr.2.1 F hF
  obtain ⟨j, hj⟩ := fuel_ge (k := 5) (by omega)
  rw [e, bind_some, if_pos (Inb F 2), lt_q, lt_q, Cl F, a2.2.1, hj]
  have hr2 := hr.kp (o16 s) (p1 s0)
  have hp : put_a (put_i (put_i M 0 0) 1 0) 1 F (nI (q F)) = put_i (put_i M 0 0) 1 0 ∨ True := Or.inr trivial
  have g : Gs nI1 nA2 (put_i (put_i M 0 0) 1 0) (put_a (put_i (put_i M 0 0) 1 0) 1 F (nI (q F))) := by
    refine ⟨fun k _ => by rw [si_pa], fun k jj _ => ?_⟩
    rw [sa_pa]
    by_cases c : k = 1
    · rw [if_pos c, upd_at]
      by_cases d : jj = F
      · rw [if_pos d, d, c]; exact a2.2.1.symm
      · rw [if_neg d, c]
    · rw [if_neg c]
  exact best_loop hF _ 4 3 j 0 t (put_i (put_i M 0 0) 1 0) _ (-1) (-1) 0 rfl rfl (hr2.kp Fs.rf (p1 g)) r r0 (Or.inl (by decide))
