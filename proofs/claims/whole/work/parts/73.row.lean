/-! row, word, the first state -/
theorem m_row {C M : St} (h : Rel C M) (x1 : Int32) : ((x1 < 0 ∨ ¬ x1 < st_i C 16) ∧ ∃ r M', f_X7_row M x1 = some (r, M') ∧ st_i M' 0 = 1 ∧ Rel C M') ∨ (∃ v M', f_X6_row C x1 = some v ∧ f_X7_row M x1 = some (v, M') ∧ st_i M' 0 = 0 ∧ Rel C M') := by
  have h0 := h.thr 0
  have h1 := h.thr 1
  obtain ⟨P, L, n, q, f, kr, gr, kt, gt, -, -, ⟨c1, c2⟩, -⟩ := id h
  unfold f_X7_row
  have key : f_X7_in M x1.toInt64 0 (st_i M 1 - 1).toInt64 = 0 ↔ ¬ (0 ≤ x1 ∧ x1 ≤ nI kr - 1) := by
    rw [c2.1]
    exact in_0 M (x := x1) (y := 0) (z := nI kr - 1) rfl rfl
  have thrown : f_X7_row_n22 x1 M 1 = some (0, put_i M 0 1) := by
    unfold f_X7_row_n22
    rw [flag_1, lt_q, si_pi, if_pos rfl, if_pos rfl]
  have hkr := c1.2.1
  by_cases a : x1 < 0
  · left
    refine ⟨Or.inl a, 0, put_i M 0 1, ?_, by rw [si_pi, if_pos rfl], h1⟩
    rw [if_pos (key.2 (fun z => i_nlt.2 z.1 a)), thrown]
  · obtain ⟨v, hv, rfl⟩ := nI_of a
    by_cases b : v < kr
    · right
      have hle : nI v ≤ nI kr - 1 := by rw [Sub1 kr]; exact Le2 v (kr - 1)
      refine ⟨gr v, put_i M 0 0, ?_, ?_, by rw [si_pi, if_pos rfl], h0⟩
      · unfold f_X6_row f_X3_at
        rw [if_neg a, c1.1, if_pos (Lt2 v kr), if_neg a, if_neg (NLeL 64 64 v), if_pos (Inb v 64), bind_some, Cl v, c1.2.2 v b]
      · rw [if_neg (fun z => key.1 z ⟨NNeg v, hle⟩)]
        unfold f_X7_row_n22
        rw [flag_0, lt_q, si_pi, if_pos rfl, if_neg (by decide), if_pos (Inb v 96), Cl v, sl_pi, c2.2.2 v b]
    · left
      have hn : ¬ nI v ≤ nI kr - 1 := by
        rw [Int32.le_iff_toInt_le, nI_toInt hv]
        have e1 : (nI kr - 1).toInt = (kr : Int) - 1 := sub_toInt (a := kr) (b := 1) (by omega) (by omega)
        rw [e1]
        omega
      refine ⟨Or.inr (by rw [c1.1]; exact NLt2 v kr), 0, put_i M 0 1, ?_, by rw [si_pi, if_pos rfl], h1⟩
      rw [if_pos (key.2 (fun z => hn z.2)), thrown]
theorem m_word {C M : St} (h : Rel C M) (x1 x2 : Int32) : ((f_X6_bagOf x1 = none ∨ ∃ b, b < 3 ∧ f_X6_bagOf x1 = some b ∧ f_X6_isWord C b x2 = 0) ∧ ∃ r M', f_X7_word M x1 x2 = some (r, M') ∧ st_i M' 0 = 1 ∧ Rel C M') ∨ (∃ v C' M', f_X6_word C x1 x2 = some (v, C') ∧ f_X7_word M x1 x2 = some (v, M') ∧ st_i M' 0 = 0 ∧ Rel C' M') := by
  have h0 := h.thr 0
  have h1 := h.thr 1
  obtain ⟨P, L, n, q, f, kt, gt, hr⟩ := h.rf
  obtain ⟨P0, L0, n0, q0, f0, kt0, gt0, hr0⟩ := h0.rf
  have hp := hr.1.1
  have thrown : f_X7_word_n15 x1 x2 M 1 = some (0, put_i M 0 1) := by
    unfold f_X7_word_n15
    rw [flag_1, lt_q, si_pi, if_pos rfl, if_pos rfl]
  have main : ∀ F, F < 2 → x1 = nI F → f_X6_bagOf x1 = some F → ((f_X6_bagOf x1 = none ∨ ∃ b, b < 3 ∧ f_X6_bagOf x1 = some b ∧ f_X6_isWord C b x2 = 0) ∧ ∃ r M', f_X7_word M x1 x2 = some (r, M') ∧ st_i M' 0 = 1 ∧ Rel C M') ∨ (∃ v C' M', f_X6_word C x1 x2 = some (v, C') ∧ f_X7_word M x1 x2 = some (v, M') ∧ st_i M' 0 = 0 ∧ Rel C' M') := by
    intro F hF hx hbag
    obtain ⟨a1, a2, ⟨q1, q2, q3⟩, a4, a5⟩ := hr.2.1 F hF
    obtain ⟨z1, z2, -⟩ := sz_le q2 (show P - q F ≤ 11 by omega)
    have hin := in_0 M (x := x2) (y := 0) (z := nI ((sz (q F) (P - q F) - 1) / 64)) (y' := 0) (z' := (nI ((sz (q F) (P - q F) - 1) / 64)).toInt64) rfl rfl
    have eC := isWord_C a1 hr.1.2.2.1 q2 (by omega) hp.2 q1 x2
    have eM := isWord_M hF a2 hr.1.2.2.2.1 q2 (by omega) hp.2 q1 x2
    rw [← hx] at eM
    have no : f_X6_isWord C F x2 = 0 → ¬ (0 ≤ x2 ∧ x2 ≤ nI ((sz (q F) (P - q F) - 1) / 64)) → ((f_X6_bagOf x1 = none ∨ ∃ b, b < 3 ∧ f_X6_bagOf x1 = some b ∧ f_X6_isWord C b x2 = 0) ∧ ∃ r M', f_X7_word M x1 x2 = some (r, M') ∧ st_i M' 0 = 1 ∧ Rel C M') := by
      intro e1 e2
      refine ⟨Or.inr ⟨F, by omega, hbag, e1⟩, 0, put_i M 0 1, ?_, by rw [si_pi, if_pos rfl], h1⟩
      unfold f_X7_word
      rw [eM, if_pos (hin.2 e2), bind_some, if_pos rfl, thrown]
    by_cases a : x2 < 0
    · exact Or.inl (no (by rw [eC, if_pos a]) (fun z => i_nlt.2 z.1 a))
    · obtain ⟨v, hv, rfl⟩ := nI_of a
      by_cases b : (sz (q F) (P - q F) - 1) / 64 < v
      · exact Or.inl (no (by rw [eC, if_neg a, if_pos (Lt2 ((sz (q F) (P - q F) - 1) / 64) v)]) (fun z => NLe2 v ((sz (q F) (P - q F) - 1) / 64) b hv z.2))
      · right
        obtain ⟨t, u, e1, e2, l1, l2, hr2, hl, f1, g1⟩ := lay2 hr0 hF
        obtain ⟨c1, c2, ⟨w1, w2, w3⟩, w4, w5⟩ := hr2.2.1 F hF
        have hp0 := hr2.1.1
        have hb0 : q0 F = q F := by
          have := (hr0.2.1 F hF).1.2.1.symm.trans a1.2.1
          exact nI_inj (by omega) (by omega) this
        have hP0 : P0 = P := nI_inj (by omega) (by omega) (hr0.1.2.2.1.symm.trans hr.1.2.2.1)
        obtain ⟨vw, x1', x2', -⟩ := word2 (w := v) l1 c2 hF hr2.1.2.2.2.1 l2 w2 (by omega) hp0.2 w1 (by omega)
        refine ⟨vw, t, u, ?_, ?_, ?_, Rel.lay h0 hr2 f1 g1⟩
        · unfold f_X6_word
          rw [hbag, lt_q, onb_q, eC, if_neg a, if_neg (NLt2 ((sz (q F) (P - q F) - 1) / 64) v), if_neg (by decide), e1, bind_some, x1', bind_some]
        · unfold f_X7_word f_X7_word_n15
          rw [eM, if_neg (fun z => hin.1 z ⟨NNeg v, Le2 v ((sz (q F) (P - q F) - 1) / 64)⟩), bind_some, if_neg (by decide), flag_0, lt_q, si_pi, if_pos rfl, if_neg (by decide), hx, e2, bind_some, x2', bind_some]
        · rw [g1.1 0 (fun z => z), si_pi, if_pos rfl]
  rcases file_cases x1 with ⟨e, e2⟩ | ⟨e, e2⟩ | ⟨e2, a, b⟩
  · exact main 0 (by omega) e e2
  · exact main 1 (by omega) e e2
  · left
    refine ⟨Or.inl e2, 0, put_i M 0 1, ?_, by rw [si_pi, if_pos rfl], h1⟩
    have hz : (if x1 = 0 ∨ x1 = 1 then (1 : Int32) else 0) = 0 := by rw [if_neg (fun z => z.elim a b)]
    unfold f_X7_word f_X7_isWord
    rw [isFile_eq, if_pos hz, bind_some, if_pos rfl, thrown]
theorem rel0 : Rel s0C s0M := by
  refine ⟨10, 75, fun _ => 0, fun _ => 3, fun _ _ => 0, 0, fun _ => 0, 0, fun _ => 0, ⟨⟨by omega, by omega⟩, ⟨by omega, by omega⟩, rfl, rfl, rfl, rfl, rfl⟩, fun F hF => ?_, ⟨⟨rfl, by omega, fun i hi => by omega⟩, ⟨rfl, by omega, fun i hi => by omega⟩⟩, ⟨rfl, by omega, fun i hi => by omega, fun i hi => by omega⟩, ⟨rfl, by omega, fun i hi => by omega⟩⟩
  show Fl s0C s0M 10 F 0 3 (fun _ => 0)
  rcases (show F = 0 ∨ F = 1 by omega) with rfl | rfl
  · exact ⟨⟨rfl, rfl, by omega, fun i hi => by omega, fun i hi => by omega, fun i j _ hj => by omega⟩, ⟨rfl, rfl, by omega, fun i hi => by omega, fun i hi => by omega, fun i j _ hj => by omega⟩, ⟨by omega, by omega, by omega⟩, by decide, fun i hi => by omega⟩
  · exact ⟨⟨rfl, rfl, by omega, fun i hi => by omega, fun i hi => by omega, fun i j _ hj => by omega⟩, ⟨rfl, rfl, by omega, fun i hi => by omega, fun i hi => by omega, fun i j _ hj => by omega⟩, ⟨by omega, by omega, by omega⟩, by decide, fun i hi => by omega⟩
