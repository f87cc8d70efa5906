theorem guardF {C M1 s : St} {x : Int32} {B : Nat → Option (Int32 × St)} {Y : Option (Int32 × St)} (h : Rel C M1) (hb : ∀ F, F < 2 → x = nI F → Ok2 (B F) Y) : Ok2 (on_b (f_X6_bagOf x) (some (-1, C)) B) (if f_X7_isFile s x = 0 then some (-1, M1) else Y) := by
  rw [isFile_eq]
  rcases file_cases x with ⟨e, e2⟩ | ⟨e, e2⟩ | ⟨e2, a, b⟩
  · rw [e2]
    have : ¬ (if x = 0 ∨ x = 1 then (1 : Int32) else 0) = 0 := by rw [if_pos (Or.inl e)]; decide
    rw [if_neg this]
    exact hb 0 (by omega) e
  · rw [e2]
    have : ¬ (if x = 0 ∨ x = 1 then (1 : Int32) else 0) = 0 := by rw [if_pos (Or.inr e)]; decide
    rw [if_neg this]
    exact hb 1 (by omega) e
  · rw [e2]
    have : (if x = 0 ∨ x = 1 then (1 : Int32) else 0) = 0 := by rw [if_neg (fun z => z.elim a b)]
    rw [if_pos this]
    exact ⟨_, _, _, rfl, rfl, h⟩
theorem guardK {C M1 s τ : St} {x : Int32} {A B : Option (Int32 × St)} (h : Rel C M1) (hb : Ok2 A B) : Ok2 (if f_X6_isKey s x = 0 then some (-1, C) else A) (if f_X7_isKey τ x = 0 then some (-1, M1) else B) := by
  rw [isKey_eq τ s]
  by_cases c : f_X6_isKey s x = 0
  · rw [if_pos c, if_pos c]
    exact ⟨_, _, _, rfl, rfl, h⟩
  · rw [if_neg c, if_neg c]
    exact hb
theorem m_print {C M : St} (h : Rel C M) (x1 x2 : Int32) : Ok2 (f_X6_print C x1 x2) (f_X7_print M x1 x2) := by
  have h' := h.thr 0
  unfold f_X6_print f_X7_print
  simp only [lt_eq]
  refine guardF h' (fun F hF hx => guardK h' ?_)
  subst hx
  obtain ⟨P, L, n, q, f, kr, gr, kt, gt, h1, h2, h3, h5, h6⟩ := h'
  obtain ⟨a1, a2, ⟨q1, q2, q3⟩, a4, a5⟩ := h2 F hF
  obtain ⟨v, hv, ev⟩ := printOf_nat h1 x2
  have hp := h1.1
  have hv2 := p2P hp.2
  rw [printOf_eq h1, ev, h1.2.2.1, a1.2.1, pk_sub (by omega), shr_r (by omega) (by omega), mask_r (by omega) (by omega)]
  obtain ⟨t, e1, r1, s1⟩ := rc_tell2 C (nI (v / 2 ^ (P - q F))).toInt64 (nI (v % 2 ^ (P - q F))).toInt64
  rw [e1, bind_some]
  have g0 : Gs nI1 nA2 (put_i M 0 0) (put_i (put_i M 0 0) 1 0) := (rm_0 (put_i M 0 0) gr).2
  have hP5 : st_i (put_i (put_i M 0 0) 1 0) 5 = nI P := by rw [g0.1 5 (by omega)]; exact h1.2.2.2.1
  rw [bm_quot (a2.kp g0 (fun z => z) (fun z => z) (fun _ _ z => z)) hF hP5 (by omega) (by omega) (by omega), bind_some]
  obtain ⟨t1, e2, r2, s2⟩ := rm_tell1 (put_i M 0 0) (nI (v / 2 ^ (P - q F))).toInt64
  rw [e2, bind_some]
  have hP5' : st_i t1 5 = nI P := by rw [s2.1 5 (by omega)]; exact h1.2.2.2.1
  rw [bm_rem (a2.kp s2 (fun z => z) (fun z => z) (fun _ _ z => z)) hF hP5' (by omega) (by omega) (by omega), bind_some]
  obtain ⟨t2, e3, r3, s3⟩ := rm_more2 r2 (nI (v % 2 ^ (P - q F))).toInt64
  rw [e3, bind_some]
  exact ⟨_, _, _, rfl, rfl, Rel.step h1 h5 h6 s1 (s2.tr s3) (fun k z => by omega) (fun k z => z.elim) (fun k z => by omega) (fun k j z => z.elim) (fun F hF => (h2 F hF).kp s1 (s2.tr s3) ⟨by omega, by omega⟩ (fun z => z) ⟨fun z => z, fun z => z, fun _ _ z => z⟩) r1 r3⟩
theorem m_has {C M : St} (h : Rel C M) (x1 x2 : Int32) : Ok2 (f_X6_has C x1 x2) (f_X7_has M x1 x2) := by
  have h' := h.thr 0
  unfold f_X6_has f_X7_has
  simp only [lt_eq]
  refine guardF h' (fun F hF hx => guardK h' ?_)
  subst hx
  obtain ⟨P, L, n, q, f, kr, gr, kt, gt, h1, h2, h3, h5, h6⟩ := h'
  obtain ⟨a1, a2, ⟨q1, q2, q3⟩, a4, a5⟩ := h2 F hF
  obtain ⟨v, hv, ev⟩ := printOf_nat h1 x2
  have hp := h1.1
  have hv2 := p2P hp.2
  have g0 : Gs nI1 nA2 (put_i M 0 0) (put_i (put_i M 0 0) 1 0) := (rm_0 (put_i M 0 0) gr).2
  have hP5 : st_i (put_i (put_i M 0 0) 1 0) 5 = nI P := by rw [g0.1 5 (by omega)]; exact h1.2.2.2.1
  have hh1 : Hd C (put_i (put_i M 0 0) 1 0) P L := h1.kp (Fs.rf (I := nA) (A := nA)) g0 (fun k z => z.elim) (fun k z => by omega)
  rw [printOf_eq hh1, ev, a1.2.1, bc_looked a1 h1.2.2.1 (by omega) hp.2 hv, bind_some, bm_looks (a2.kp g0 (fun z => z) (fun z => z) (fun _ _ z => z)) hF hP5 (by omega) hp.2 (by omega), bind_some]
  obtain ⟨t, e1, r1, s1⟩ := rc_tell1 C (nI (LK (f F) (n F) (P - q F) v)).toInt64
  obtain ⟨t1, e2, r2, s2⟩ := rm_tell1 (put_i M 0 0) (nI (LK (f F) (n F) (P - q F) v)).toInt64
  have hh2 : Hd C t1 P L := h1.kp (Fs.rf (I := nA) (A := nA)) s2 (fun k z => z.elim) (fun k z => by omega)
  rw [e1, bind_some, e2, bind_some, bc_times (a1.kp s1 (by omega) (by omega) (fun z => z)) (by omega), bind_some, printOf_eq hh2, ev, bm_count (a2.kp s2 (fun z => z) (fun z => z) (fun _ _ z => z)) hF (by omega), bind_some]
  exact ⟨_, _, _, rfl, rfl, Rel.step h1 h5 h6 s1 s2 (fun k z => by omega) (fun k z => z.elim) (fun k z => by omega) (fun k j z => z.elim) (fun F hF => (h2 F hF).kp s1 s2 ⟨by omega, by omega⟩ (fun z => z) ⟨fun z => z, fun z => z, fun _ _ z => z⟩) r1 r2⟩
theorem m_takes {C M : St} (h : Rel C M) (x1 x2 : Int32) : Ok2 (f_X6_takes C x1 x2) (f_X7_takes M x1 x2) := by
  have h' := h.thr 0
  unfold f_X6_takes f_X7_takes
  simp only [lt_eq]
  refine guardF h' (fun F hF hx => guardK h' ?_)
  subst hx
  obtain ⟨P, L, n, q, f, kr, gr, kt, gt, h1, h2, h3, h5, h6⟩ := id h'
  obtain ⟨a1, a2, ⟨q1, q2, q3⟩, a4, a5⟩ := h2 F hF
  obtain ⟨v, hv, ev⟩ := printOf_nat h1 x2
  have hp := h1.1
  have hv2 := p2P hp.2
  have hn3 := a1.2.2.1
  rw [printOf_eq h1, ev]
  rcases bc_drop a1 (v := v) (by omega) with ⟨c, e⟩ | ⟨c, t, e, g1, g2⟩
  · rcases bm_goes a2 hF (v := v) (by omega) with ⟨c', e'⟩ | ⟨c', -⟩
    · rw [e, bind2_some, if_pos rfl, e', bind2_some, if_pos rfl]
      exact ⟨_, _, _, rfl, rfl, h'⟩
    · omega
  · rcases bm_goes a2 hF (v := v) (by omega) with ⟨c', e'⟩ | ⟨c', u, e', k1, k2⟩
    · omega
    · rw [e, bind2_some, if_neg (by decide), e', bind2_some, if_neg (by decide), if_pos (in_b_nI hF (by omega)), g1.1]
      have g0 : Gs nI1 nA2 u (put_i u 1 0) := (rm_0 u gr).2
      rw [nI_clamp (by omega), (k1.kp g0 (fun z => z) (fun z => z) (fun _ _ z => z)).1]
      obtain ⟨t1, e1, r1, s1⟩ := rc_tell1 t (nI (n F - 1)).toInt64
      obtain ⟨u1, e2, r2, s2⟩ := rm_tell1 u (nI (n F - 1)).toInt64
      have hh2 : Hd C u1 P L := h1.kp (Fs.rf (I := nA) (A := nA)) ((k2.s.mono (fun k z => z.elim) (fun k j z => z)).tr (s2.mono (J := nI1) (B := fA F) (fun k z => z) (fun k j z => z.elim))) (fun k z => z.elim) (fun k z => by omega)
      rw [e1, bind_some, e2, bind_some, bc_times (g1.kp s1 (by omega) (by omega) (fun z => z)) (by omega), bind_some, printOf_eq hh2, ev, bm_count (k1.kp s2 (fun z => z) (fun z => z) (fun _ _ z => z)) hF (by omega), bind_some]
      have sC : Fs (fun k => bI F k ∨ k = 16) (bA F) C t1 := (g2.s.mono (fun k z => Or.inl z) (fun k z => z)).tr (s1.mono (fun k z => Or.inr z) (fun k z => z.elim))
      have sM : Gs nI1 (fA F) (put_i M 0 0) u1 := (k2.s.mono (fun k z => z.elim) (fun k j z => z)).tr (s2.mono (fun k z => z) (fun k j z => z.elim))
      have hF' : Fl t1 u1 P F (n F - 1) (q F) (del (f F) (lb (f F) (n F) v)) := ⟨g1.kp s1 (by omega) (by omega) (fun z => z), k1.kp s2 (fun z => z) (fun z => z) (fun _ _ z => z), ⟨q1, q2, q3⟩, by omega, fun i hi => by
        simp only [del]
        split
        · exact a5 i (by omega)
        · exact a5 (i + 1) (by omega)⟩
      exact ⟨_, _, _, rfl, rfl, Rel.step h1 h5 h6 sC sM (fun k z => by omega) (fun k z => by omega) (fun k z => by omega) (fun k j z => by omega) (files_upd h2 hF' sC sM (fun G hG hne => ⟨⟨by omega, by omega⟩, by omega, by omega, by omega, fun i hi => by omega⟩)) r1 r2⟩
