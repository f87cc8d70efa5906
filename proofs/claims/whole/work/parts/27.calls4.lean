/-! shape, end, sign -/
theorem shape_M (x m : Int32) (M0 : St) (y : Int32) (j : Nat) : f_X7_shape_n45 x m (j + 3) M0 y 0 = some (y, put_a (put_a (put_a (put_a M0 1 0 (nI 3)) 2 0 0) 1 1 (nI 3)) 2 1 0) := by
  have z0 : (0 : Int32).toNatClampNeg = 0 := by decide
  have z1 : (1 : Int32).toNatClampNeg = 1 := by decide
  have w1 : (0 : Int32) + 1 = 1 := by decide
  have w2 : (1 : Int32) + 1 = 2 := by decide
  have w3 : (3 : Int32) = nI 3 := rfl
  show f_X7_shape_n45_b x m (f_X7_shape_n45 x m (j + 2)) M0 y 0 = _
  unfold f_X7_shape_n45_b
  simp only [lt_eq]
  rw [if_neg (by decide), if_pos (by decide), if_pos (by decide), z0, w1, w3]
  show f_X7_shape_n45_b x m (f_X7_shape_n45 x m (j + 1)) _ y 1 = _
  unfold f_X7_shape_n45_b
  simp only [lt_eq]
  rw [if_neg (by decide), if_pos (by decide), if_pos (by decide), z1, w2, w3]
  show f_X7_shape_n45_b x m (f_X7_shape_n45 x m j) _ y 2 = _
  unfold f_X7_shape_n45_b
  rw [if_pos (by decide)]
theorem shape_B (M0 : St) (f : Nat → Nat) : BM (put_a (put_a (put_a (put_a M0 1 0 (nI 3)) 2 0 0) 1 1 (nI 3)) 2 1 0) 0 0 3 f ∧ BM (put_a (put_a (put_a (put_a M0 1 0 (nI 3)) 2 0 0) 1 1 (nI 3)) 2 1 0) 1 0 3 f := by
  refine ⟨⟨?_, ?_, by omega, fun i hi => by omega, fun i hi => by omega, fun i j _ hj => by omega⟩, ⟨?_, ?_, by omega, fun i hi => by omega, fun i hi => by omega, fun i j _ hj => by omega⟩⟩
  · rw [sa_pa, if_pos rfl, upd_at, if_neg (by omega), sa_pa, if_neg (by omega), sa_pa, if_pos rfl, upd_at, if_pos rfl, nI_0]
  · rw [sa_pa, if_neg (by omega), sa_pa, if_pos rfl, upd_at, if_neg (by omega), sa_pa, if_neg (by omega), sa_pa, if_pos rfl, upd_at, if_pos rfl]
  · rw [sa_pa, if_pos rfl, upd_at, if_pos rfl, nI_0]
  · rw [sa_pa, if_neg (by omega), sa_pa, if_pos rfl, upd_at, if_pos rfl]
theorem lt_q {α β : Type} (x : α) (f : α → β) : lt_ x f = f x := id rfl
theorem shape_MM {M : St} {p m : Int32} (a : ¬ f_X7_in (put_i M 0 0) p.toInt64 6 14 = 0) (c : ¬ (m - m / 2 * 2) = 0) : f_X7_shape M p m = some (st_i M 5, put_a (put_a (put_a (put_a (put_i (put_i (put_i M 0 0) 5 p) 6 m) 1 0 (nI 3)) 2 0 0) 1 1 (nI 3)) 2 1 0) := by
  obtain ⟨j, hj⟩ := fuel_ge (k := 3) (by omega)
  rw [← shape_M p m (put_i (put_i (put_i M 0 0) 5 p) 6 m) (st_i M 5) j, ← hj]
  unfold f_X7_shape
  rw [lt_q, if_neg a, if_neg c, lt_q, lt_q, lt_q, si_pi, if_neg (by omega)]
theorem shape_CC {C : St} {p m : Int32} (a : ¬ p < 6) (b : ¬ 14 < p) (c : ¬ (m &&& 1) = 0) (f : Nat → Nat → Nat) : ∃ t : St, f_X6_shape C p m = some (st_i C 0, t) ∧ st_i t 0 = p ∧ st_i t 1 = m ∧ BC t 0 0 3 (f 0) ∧ BC t 1 0 3 (f 1) ∧ Fr (fun k => k = 0 ∨ k = 1 ∨ k = 3 ∨ k = 4 ∨ k = 5 ∨ k = 6) (fun k => k = 0 ∨ k = 1) C t := by
  obtain ⟨t1, e1, g1, g2⟩ := bc_empty (put_i (put_i C 0 p) 1 m) 0 (q := 3) (f 0)
  obtain ⟨t2, e2, k1, k2⟩ := bc_empty t1 1 (q := 3) (f 1)
  refine ⟨t2, ?_, ?_, ?_, g1.keep k2 (by omega) (by omega) (by omega), k1, ((fr_i (by omega)).tr (fr_i (by omega))).tr ((g2.mono (fun k z => by omega) (fun k z => by omega)).tr (k2.mono (fun k z => by omega) (fun k z => by omega)))⟩
  · unfold f_X6_shape
    rw [if_neg a, if_neg b, if_neg c, lt_q, lt_q, lt_q]
    have w : (3 : Int32) = nI 3 := rfl
    rw [w, e1, bind_some, e2, bind_some]
  · rw [k2.1 0 (by omega), g2.1 0 (by omega), si_pi, if_neg (by omega), si_pi, if_pos rfl]
  · rw [k2.1 1 (by omega), g2.1 1 (by omega), si_pi, if_pos rfl]
theorem m_shape {C M : St} (h : Rel C M) (p m : Int32) : Ok2 (f_X6_shape C p m) (f_X7_shape M p m) := by
  have h' := h.thr 0
  have hin := in_0 (put_i M 0 0) (x := p) (y := 6) (z := 14) (y' := 6) (z' := 14) rfl rfl
  by_cases a : (6 : Int32) ≤ p
  · by_cases b : p ≤ 14
    · by_cases c : (m &&& 1) = 0
      · have e1 : f_X6_shape C p m = some (-1, C) := by
          unfold f_X6_shape
          rw [if_neg (i_nlt.2 a), if_neg (i_nlt.2 b), if_pos c]
        have e2 : f_X7_shape M p m = some (-1, put_i M 0 0) := by
          unfold f_X7_shape
          rw [lt_q, if_neg (fun z => hin.1 z ⟨a, b⟩), if_pos ((par_eq m).1 c)]
        exact ⟨_, _, _, e1, e2, h'⟩
      · obtain ⟨P, L, n, q, f, kr, gr, kt, gt, h1, h2, h3, h5, h6⟩ := id h'
        obtain ⟨t2, e1, i0, i1, b0, b1, fa⟩ := shape_CC (C := C) (i_nlt.2 a) (i_nlt.2 b) c f
        have e2 := shape_MM (M := M) (p := p) (m := m) (fun z => hin.1 z ⟨a, b⟩) (fun z => c ((par_eq m).2 z))
        generalize hM0 : put_i (put_i (put_i M 0 0) 5 p) 6 m = M0 at e2
        have ga0 : Gr (fun k => k = 5 ∨ k = 6) (fun k j => k = 1 ∨ k = 2) (put_i M 0 0) M0 := by rw [← hM0]; exact (gr_i (by omega)).tr (gr_i (by omega))
        have ga : Gr (fun k => k = 5 ∨ k = 6) (fun k j => k = 1 ∨ k = 2) (put_i M 0 0) (put_a (put_a (put_a (put_a M0 1 0 (nI 3)) 2 0 0) 1 1 (nI 3)) 2 1 0) :=
          ((((ga0.tr (gr_a (by omega))).tr (gr_a (by omega))).tr (gr_a (by omega))).tr (gr_a (by omega)))
        have hz0 := (shape_B M0 (f 0)).1
        have hz1 := (shape_B M0 (f 1)).2
        have j5 : st_i (put_a (put_a (put_a (put_a M0 1 0 (nI 3)) 2 0 0) 1 1 (nI 3)) 2 1 0) 5 = p := by
          rw [si_pa, si_pa, si_pa, si_pa, ← hM0, si_pi, if_neg (by omega), si_pi, if_pos rfl]
        have j6 : st_i (put_a (put_a (put_a (put_a M0 1 0 (nI 3)) 2 0 0) 1 1 (nI 3)) 2 1 0) 6 = m := by
          rw [si_pa, si_pa, si_pa, si_pa, ← hM0, si_pi, if_pos rfl]
        generalize (put_a (put_a (put_a (put_a M0 1 0 (nI 3)) 2 0 0) 1 1 (nI 3)) 2 1 0) = M1 at e2 ga hz0 hz1 j5 j6
        have e5 : st_i M 5 = nI P := by
          have := h1.2.2.2.1
          rw [si_pi, if_neg (by omega)] at this
          exact this
        rw [e5] at e2
        rw [h1.2.2.1] at e1
        obtain ⟨x, x1, x2, hx⟩ := i_of_rng (a := 6) (b := 14) rfl rfl (by omega) (by omega) a b
        refine ⟨_, _, _, e1, e2, x, L, fun _ => 0, fun _ => 3, f, kr, gr, kt, gt, ⟨⟨x1, x2⟩, h1.2.1, ?_, ?_, ?_, ?_, ?_⟩, fun F hF => ?_, ⟨h3.1.kp fa (by omega), h3.2.kp ga (by omega)⟩, h5.kp fa.s (by omega) (by omega), h6.kp ga.s (by omega) (fun _ => by omega)⟩
        · rw [i0, hx]
        · rw [j5, hx]
        · rw [i1, j6]
        · rw [fa.1 2 (by omega)]; exact h1.2.2.2.2.2.1
        · rw [ga.1 7 (by omega)]; exact h1.2.2.2.2.2.2
        · rcases (show F = 0 ∨ F = 1 by omega) with rfl | rfl
          · show Fl t2 M1 x 0 0 3 (f 0)
            exact ⟨b0, hz0, ⟨by omega, by omega, by omega⟩, by omega, fun i hi => by omega⟩
          · show Fl t2 M1 x 1 0 3 (f 1)
            exact ⟨b1, hz1, ⟨by omega, by omega, by omega⟩, by omega, fun i hi => by omega⟩
    · have e1 : f_X6_shape C p m = some (-1, C) := by
        unfold f_X6_shape
        rw [if_neg (i_nlt.2 a), if_pos (i_nle.1 b)]
      have e2 : f_X7_shape M p m = some (-1, put_i M 0 0) := by
        unfold f_X7_shape
        rw [lt_q, if_pos (hin.2 (fun z => b z.2))]
      exact ⟨_, _, _, e1, e2, h'⟩
  · have e1 : f_X6_shape C p m = some (-1, C) := by
      unfold f_X6_shape
      rw [if_pos (i_nle.1 a)]
    have e2 : f_X7_shape M p m = some (-1, put_i M 0 0) := by
      unfold f_X7_shape
      rw [lt_q, if_pos (hin.2 (fun z => a z.1))]
    exact ⟨_, _, _, e1, e2, h'⟩
theorem m_end {C M : St} (h : Rel C M) (x : Int32) : Ok2 (f_X6_end C x) (f_X7_end M x) := by
  have h' := h.thr 0
  unfold f_X6_end f_X7_end f_X5_cutTo
  simp only [lt_eq]
  obtain ⟨P, L, n, q, f, kr, gr, kt, gt, h1, h2, h3, h5, h6⟩ := id h'
  have hin := in_0 (put_i M 0 0) (x := x) (y := 0) (z := nI kt) (y' := 0) (z' := (nI kt).toInt64) rfl rfl
  rw [h5.1, h6.1]
  have hkt := h5.2.1
  by_cases a : x < 0
  · rw [if_pos a, if_pos (hin.2 (fun z => i_nlt.2 z.1 a)), bind2_some]
    exact ⟨_, _, _, rfl, rfl, h'⟩
  · rw [if_neg a]
    by_cases b : x ≤ nI kt
    · rw [if_pos b, if_neg (fun z => hin.1 z ⟨i_nlt.1 a, b⟩), bind2_some]
      obtain ⟨j, hj, rfl⟩ := nI_of a
      have hjk := (nI_leI hj (by omega)).1 b
      have fc : Fr (fun k => k = 17) nA C (put_i C 17 (nI j)) := fr_i rfl
      have gm : Gr (fun k => k = 2) nA2 (put_i M 0 0) (put_i (put_i M 0 0) 2 (nI j)) := gr_i rfl
      refine ⟨_, _, _, rfl, rfl, P, L, n, q, f, kr, gr, j, gt, h1.kp fc.s gm.s (fun k z => by omega) (fun k z => by omega), fun F hF => (h2 F hF).kp fc.s gm.s ⟨by omega, by omega⟩ (fun z => z) ⟨fun z => z, fun z => z, fun _ _ z => z⟩, ⟨h3.1.kp fc (by omega), h3.2.kp gm (by omega)⟩, ⟨by rw [si_pi, if_pos rfl], by omega, fun i hi => h5.2.2.1 i (by omega), fun i hi => h5.2.2.2 i (by omega)⟩, ⟨by rw [si_pi, if_pos rfl], by omega, fun i hi => h6.2.2 i (by omega)⟩⟩
    · rw [if_neg b, if_pos (hin.2 (fun z => b z.2)), bind2_some]
      exact ⟨_, _, _, rfl, rfl, h'⟩
/-- byte k (0 the highest) of v -/
def byt (v : Int32) (k : Nat) : Nat := v.toBitVec.toNat / 2 ^ (24 - 8 * k) % 256
theorem s_u24 : ∀ k, k < 4 → (((nI (24 - 8 * k)).toUInt32 &&& Int32.toUInt32 31).toBitVec % 32).toNat = 24 - 8 * k := by decide +kernel
theorem byt_lt (v : Int32) (k : Nat) : byt v k < 256 := Nat.mod_lt _ (by omega)
theorem byt_C (v : Int32) {k : Nat} (hk : k < 4) : vp_nar .char (((((v.toUInt32 >>> ((nI (24 - 8 * k)).toUInt32 &&& Int32.toUInt32 31)).toInt32 &&& 255).toUInt32 % 65536).toInt32)) = nI (byt v k) := by
  have hu := pk_ushr v (nI (24 - 8 * k)) (24 - 8 * k) (s_u24 k hk)
  have ha : (v.toUInt32 >>> ((nI (24 - 8 * k)).toUInt32 &&& Int32.toUInt32 31)).toInt32 &&& 255 = nI (byt v k) := by
    rw [pk_and _ (m := 255) 8 (by decide), hu]
    rfl
  rw [pk_vc, ha, pk_char, pk_tn (by have := byt_lt v k; omega), Nat.mod_eq_of_lt (by have := byt_lt v k; omega)]
theorem byt_M (v : Int32) {k : Nat} (hk : k < 4) : (v >>> (((24 : Int32) - 8 * nI k) &&& 31)) &&& 255 = nI (byt v k) := by
  have e1 : (24 : Int32) - 8 * nI k = nI (24 - 8 * k) := by
    have : ∀ k, k < 4 → (24 : Int32) - 8 * nI k = nI (24 - 8 * k) := by decide +kernel
    exact this k hk
  rw [e1]
  have hs := pk_shr v (nI (24 - 8 * k) &&& 31) (24 - 8 * k) (s_31 _ (by omega))
  rw [pk_and _ (m := 255) 8 (by decide)]
  congr 1
  generalize v >>> (nI (24 - 8 * k) &&& 31) = w at hs
  have hw : w.toInt = if 2 * w.toBitVec.toNat < 2 ^ 32 then (w.toBitVec.toNat : Int) else (w.toBitVec.toNat : Int) - 2 ^ 32 := by
    show w.toBitVec.toInt = _
    rw [BitVec.toInt_eq_toNat_cond]
    rfl
  have hv : v.toInt = if 2 * v.toBitVec.toNat < 2 ^ 32 then (v.toBitVec.toNat : Int) else (v.toBitVec.toNat : Int) - 2 ^ 32 := by
    show v.toBitVec.toInt = _
    rw [BitVec.toInt_eq_toNat_cond]
    rfl
  have hv3 : v.toBitVec.toNat < 2 ^ 32 := v.toBitVec.isLt
  have hw3 : w.toBitVec.toNat < 2 ^ 32 := w.toBitVec.isLt
  unfold byt
  rw [hw, hv, Int.shiftRight_eq_div_pow] at hs
  rcases (show k = 0 ∨ k = 1 ∨ k = 2 ∨ k = 3 by omega) with rfl | rfl | rfl | rfl <;> simp only [Nat.reduceMul, Nat.reduceSub, Nat.reducePow] at hs ⊢ <;> (split at hs <;> split at hs <;> omega)
