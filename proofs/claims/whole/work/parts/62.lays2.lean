/-! lays -/
abbrev yI : Nat → Prop := fun k => k = 3
def okR (C M : St) (P Q j : Nat) : Prop := ∃ m r, m < 8 ∧ r < 2 ^ (P - Q) ∧ st_a C 9 j = nI (m + 8 * r) ∧ st_a M 9 j = nI m ∧ st_a M 10 j = nI r
theorem okR_all {C M : St} {P Q : Nat} (hP : P ≤ 14) (hQ : 3 ≤ Q ∧ Q ≤ 6 ∧ Q < P) (h15 : st_i C 15 = nI Q) (h8 : st_i M 8 = nI Q) (h5 : st_i M 5 = nI P) (h : ∀ j, j < 2 ^ Q → okR C M P Q j) : ∃ mm rm, RWC C P Q mm rm ∧ RWM M P Q mm rm := by
  have hb : 2 ^ (P - Q) ≤ 16384 := Nat.le_trans (Nat.pow_le_pow_right (by omega) (Nat.sub_le _ _)) (p2P hP)
  refine ⟨fun j => (st_a M 9 j).toNatClampNeg, fun j => (st_a M 10 j).toNatClampNeg, ⟨h15, hQ, fun j hj => ?_⟩, ⟨h8, hQ, h5, fun j hj => ?_⟩⟩
  · obtain ⟨m, r, a1, a2, a3, a4, a5⟩ := h j hj
    dsimp only
    rw [a4, a5, Cl m, Cl r]
    exact ⟨a3, a1, a2⟩
  · obtain ⟨m, r, a1, a2, a3, a4, a5⟩ := h j hj
    dsimp only
    rw [a4, a5, Cl m, Cl r]
    exact ⟨rfl, rfl, a1, a2⟩
theorem file2 {K P Q : Nat} {g : Nat → Nat} (hQ : Q ≤ 4) (hQ3 : 3 ≤ Q) (hQP : Q ≤ P) (hP : P ≤ 14) : ∀ (d s kC kM : Nat) (C M : St), s + d = 2 ^ Q → TC C K g → MT M K (1 + 4 * s) g → 1 + 4 * s ≤ K → st_i C 15 = nI Q → st_i M 8 = nI Q → st_i M 5 = nI P → (∀ j, j < s → okR C M P Q j) → (∃ (t u : St), f_X4_readText_n29 (nI P) (kC + (d + 1)) C (nI s) = some (0, t) ∧ f_X7_readsFile_n24 (kM + (d + 1)) M (nI s) = some (1, u) ∧ (∀ j, j < 2 ^ Q → okR t u P Q j) ∧ Fr nA (fun k => k = 9) C t ∧ Gr yI yA M u) ∨ (∃ (e : Nat) (t u : St), e ≤ 80 ∧ f_X4_readText_n29 (nI P) (kC + (d + 1)) C (nI s) = some (-1 - nI e, t) ∧ f_X7_readsFile_n24 (kM + (d + 1)) M (nI s) = some (0, u) ∧ st_i u 3 = nI e ∧ Fr nA (fun k => k = 9) C t ∧ Gr yI yA M u) := by
  have hw : 2 ^ Q ≤ 16 := Nat.pow_le_pow_right (n := 2) (by omega) hQ
  intro d
  induction d with
  | zero =>
    intro s kC kM C M e hC hM hK h15 h8 h5 hok
    have : s = 2 ^ Q := by omega
    subst this
    have hK80 := hC.2.1
    have eC : f_X4_readText_n29 (nI P) (kC + (0 + 1)) C (nI (2 ^ Q)) = if nI K ≤ nI (1 + 4 * 2 ^ Q) then some (0, C) else some (-1 - nI (1 + 4 * 2 ^ Q), C) := by
      show f_X4_readText_n29_b (nI P) (f_X4_readText_n29 (nI P) kC) C (nI (2 ^ Q)) = _
      unfold f_X4_readText_n29_b f_X4_slotCount
      rw [h15, sh_1 Q (by omega), if_pos (Le2 (2 ^ Q) (2 ^ Q)), lt_q, hC.1, show (4 : Int32) = nI 4 from rfl, nI_mul, show (1 : Int32) = nI 1 from rfl, nI_add]
    have eM : f_X7_readsFile_n24 (kM + (0 + 1)) M (nI (2 ^ Q)) = if nI (1 + 4 * 2 ^ Q) = nI K then some (1, M) else some (0, M) := by
      show f_X7_readsFile_n24_b (f_X7_readsFile_n24 kM) M (nI (2 ^ Q)) = _
      unfold f_X7_readsFile_n24_b
      rw [h8, sh_1 Q (by omega), if_pos (Le2 (2 ^ Q) (2 ^ Q)), hM.1, hM.2.1]
    rw [eC, eM]
    by_cases c : 1 + 4 * 2 ^ Q = K
    · left
      rw [if_pos (Le2 K (1 + 4 * 2 ^ Q)), if_pos (by rw [c])]
      exact ⟨C, M, rfl, rfl, hok, Fr.rf, Gr.rf⟩
    · right
      rw [if_neg (NLe2 K (1 + 4 * 2 ^ Q)), if_neg (Ne2 (1 + 4 * 2 ^ Q) K)]
      exact ⟨1 + 4 * 2 ^ Q, C, M, by omega, rfl, rfl, hM.2.1, Fr.rf, Gr.rf⟩
  | succ d ih =>
    intro s kC kM C M e hC hM hK h15 h8 h5 hok
    have hK80 := hC.2.1
    have eC : f_X4_readText_n29 (nI P) (kC + (d + 1 + 1)) C (nI s) = bind2 (f_X4_readCell C (nI s) (nI (P - Q))) fun v4 s3 => if 0 ≤ v4 then f_X4_readText_n29 (nI P) (kC + (d + 1)) s3 (nI (s + 1)) else some (v4, s3) := by
      show f_X4_readText_n29_b (nI P) (f_X4_readText_n29 (nI P) (kC + (d + 1))) C (nI s) = _
      unfold f_X4_readText_n29_b f_X4_slotCount
      rw [h15, sh_1 Q (by omega), if_neg (NLe2 (2 ^ Q) s), Sub2 P Q]
      simp only [lt_q, nI_1]
    have eM : f_X7_readsFile_n24 (kM + (d + 1 + 1)) M (nI s) = bind2 (f_X7_readsSlot M (nI s)) fun v2 s1 => if v2 = 0 then some (0, s1) else f_X7_readsFile_n24 (kM + (d + 1)) s1 (nI (s + 1)) := by
      show f_X7_readsFile_n24_b (f_X7_readsFile_n24 (kM + (d + 1))) M (nI s) = _
      unfold f_X7_readsFile_n24_b
      rw [h8, sh_1 Q (by omega), if_neg (NLe2 (2 ^ Q) s)]
      simp only [lt_q, nI_1]
    rw [eC, eM]
    rcases slot2 hC hM (by omega) h5 h8 hQP hP with ⟨m, r, t, u, ⟨a1, a1'⟩, a2, a3, a4, a5, a6, a7, a8, a9, a10, a11, a12⟩ | ⟨e', t, u, a1, a2, a3, a4, a5, a6⟩
    · rw [a3, a4, bind2_some, bind2_some, if_pos (by decide), if_neg (by decide)]
      have nxt := ih (s + 1) kC kM t u (by omega) (hC.kp a11.s (fun z => z) (by omega)) a10 a1' (by rw [a11.1 15 (fun z => z)]; exact h15) (by rw [a12.1 8 (by omega)]; exact h8) (by rw [a12.1 5 (by omega)]; exact h5) (fun j hj => by
        by_cases q : j = s
        · subst q
          exact ⟨m, r, a1, a2, a5, a7, a8⟩
        · obtain ⟨m', r', b1, b2, b3, b4, b5⟩ := hok j (by omega)
          exact ⟨m', r', b1, b2, by rw [a6 j q]; exact b3, by rw [(a9 j q).1]; exact b4, by rw [(a9 j q).2]; exact b5⟩)
      rcases nxt with ⟨t', u', b1, b2, b3, b4, b5⟩ | ⟨e', t', u', b1, b2, b3, b4, b5, b6⟩
      · exact Or.inl ⟨t', u', b1, b2, b3, a11.tr b4, a12.tr b5⟩
      · exact Or.inr ⟨e', t', u', b1, b2, b3, b4, a11.tr b5, a12.tr b6⟩
    · right
      rw [a2, a3, bind2_some, bind2_some, if_neg (m1_neg e' (by omega)), if_pos rfl]
      exact ⟨e', t, u, a1, rfl, rfl, a4, a5, a6⟩
theorem ch5 : ∀ i, i < 2 → chN 5 i = 51 + i := by decide +kernel
theorem no34 : ∀ v, v < 256 → v ≠ 51 → v ≠ 52 → ¬ nI v - 48 = 3 ∧ ¬ nI v - 48 = 4 := by decide +kernel
abbrev zI : Nat → Prop := fun k => k = 15
abbrev zA : Nat → Prop := fun k => k = 9
abbrev wI : Nat → Prop := fun k => k = 3 ∨ k = 8
theorem text2 {C M : St} {K P : Nat} {g : Nat → Nat} (hC : TC C K g) (hM : MT M K 0 g) (h5 : st_i M 5 = nI P) (hP : P ≤ 14) (hP6 : 6 ≤ P) : (∃ (Q : Nat) (t u : St) (mm rm : Nat → Nat), f_X4_readText C (nI P) = some (0, t) ∧ f_X7_readsFile M = some (1, u) ∧ RWC t P Q mm rm ∧ RWM u P Q mm rm ∧ Fr zI zA C t ∧ Gr wI yA M u) ∨ (∃ (e : Nat) (t u : St), e ≤ 80 ∧ f_X4_readText C (nI P) = some (-1 - nI e, t) ∧ f_X7_readsFile M = some (0, u) ∧ st_i u 3 = nI e ∧ Fr zI zA C t ∧ Gr wI yA M u) := by
  have hK80 := hC.2.1
  have bad : ∀ w : Int32, f_X5_at C 0 = some w → ¬ w - 48 = 3 → ¬ w - 48 = 4 → f_X7_takesOf M 5 = some (-1, M) → (∃ (e : Nat) (t u : St), e ≤ 80 ∧ f_X4_readText C (nI P) = some (-1 - nI e, t) ∧ f_X7_readsFile M = some (0, u) ∧ st_i u 3 = nI e ∧ Fr zI zA C t ∧ Gr wI yA M u) := by
    intro w hw n3 n4 hm
    refine ⟨0, C, put_i M 8 (-1 + 3), by omega, ?_, ?_, ?_, Fr.rf, gr_i (Or.inr rfl)⟩
    · unfold f_X4_readText
      rw [hw, bind_some, lt_q, if_neg n3, if_neg n4]
      rfl
    · unfold f_X7_readsFile
      rw [hm, bind2_some, lt_q, si_pi, if_pos rfl, if_neg (by decide)]
    · rw [si_pi, if_neg (by omega)]; exact hM.2.1
  rcases Nat.eq_zero_or_pos K with q | q
  · right
    refine bad (-1) ?_ (by decide) (by decide) (takes_end (by omega) (by omega) hM.1 hM.2.1 hK80 (by omega) (by omega))
    have := text_out hC (p := 0) (by omega) (by omega)
    rw [nI_0] at this
    exact this
  · have ea := text_at hC q
    rw [nI_0] at ea
    have hg := hC.2.2.2 0 q
    rcases takes_in (z := 5) (by omega) (by omega) hM.1 hM.2.1 hK80 q hg (hM.2.2 0 q) with ⟨i, i1, i2, i3⟩ | ⟨i1, i2⟩
    · have i1' : i < 2 := i1
      have e5 := ch5 i i1'
      have eC : f_X4_readText C (nI P) = f_X4_readText_n29 (nI P) fuel (put_i C 15 (nI (3 + i))) 0 := by
        unfold f_X4_readText f_X4_readText_n21
        rw [ea, bind_some, lt_q, ← i2, e5]
        rcases (show i = 0 ∨ i = 1 by omega) with rfl | rfl
        · rw [if_pos (by decide), lt_q]
          rfl
        · rw [if_neg (by decide), if_pos (by decide), lt_q]
          rfl
      have eM : f_X7_readsFile M = f_X7_readsFile_n24 fuel (put_i (put_i M 3 (nI (0 + 1))) 8 (nI (3 + i))) 0 := by
        unfold f_X7_readsFile
        rw [i3, bind2_some, lt_q, si_pi, if_pos rfl, show (3 : Int32) = nI 3 from rfl, nI_add, if_pos (Le2 3 (i + 3)), Nat.add_comm i 3]
      obtain ⟨jc, hjc⟩ := fuel_ge (k := 2 ^ (3 + i) + 1) (by
        have : 2 ^ (3 + i) ≤ 2 ^ 4 := Nat.pow_le_pow_right (by omega) (by omega)
        omega)
      have fC : Fr zI zA C (put_i C 15 (nI (3 + i))) := fr_i rfl
      have gM : Gr wI yA M (put_i (put_i M 3 (nI (0 + 1))) 8 (nI (3 + i))) := (gr_i (Or.inl rfl)).tr (gr_i (Or.inr rfl))
      have f2 := file2 (K := K) (P := P) (Q := 3 + i) (g := g) (by omega) (by omega) (by omega) hP (2 ^ (3 + i)) 0 jc jc (put_i C 15 (nI (3 + i))) (put_i (put_i M 3 (nI (0 + 1))) 8 (nI (3 + i))) (by omega) (hC.kp fC.s (by omega) (by omega)) ⟨by rw [si_pi, if_neg (by omega), si_pi, if_neg (by omega)]; exact hM.1, by rw [si_pi, if_neg (by omega), si_pi, if_pos rfl], fun j hj => by rw [sa_pi, sa_pi]; exact hM.2.2 j hj⟩ (by omega) (by rw [si_pi, if_pos rfl]) (by rw [si_pi, if_pos rfl]) (by rw [si_pi, if_neg (by omega), si_pi, if_neg (by omega)]; exact h5) (fun j hj => by omega)
      rw [← hjc, nI_0, ← eC, ← eM] at f2
      rcases f2 with ⟨t, u, a1, a2, a3, a4, a5⟩ | ⟨e, t, u, a1, a2, a3, a4, a5, a6⟩
      · left
        obtain ⟨mm, rm, r1, r2⟩ := okR_all (C := t) (M := u) hP (show 3 ≤ 3 + i ∧ 3 + i ≤ 6 ∧ 3 + i < P by omega) (by rw [a4.1 15 (fun z => z), si_pi, if_pos rfl]) (by rw [a5.1 8 (by omega), si_pi, if_pos rfl]) (by rw [a5.1 5 (by omega), si_pi, if_neg (by omega), si_pi, if_neg (by omega)]; exact h5) a3
        exact ⟨3 + i, t, u, mm, rm, a1, a2, r1, r2, fC.tr (a4.mono (fun k z => z.elim) (fun k z => z)), gM.tr (a5.mono (fun k z => Or.inl z) (fun k j z => z))⟩
      · right
        exact ⟨e, t, u, a1, a2, a3, a4, fC.tr (a5.mono (fun k z => z.elim) (fun k z => z)), gM.tr (a6.mono (fun k z => Or.inl z) (fun k j z => z))⟩
    · right
      have n1 : g 0 ≠ 51 := fun z => i1 0 (show 0 < 2 by omega) (by rw [ch5 0 (by omega)]; exact z.symm)
      have n2 : g 0 ≠ 52 := fun z => i1 1 (show 1 < 2 by omega) (by rw [ch5 1 (by omega)]; exact z.symm)
      obtain ⟨x, y⟩ := no34 (g 0) hg n1 n2
      exact bad _ ea x y i2
theorem Ok2.bind {x y : Option (Int32 × St)} (h : Ok2 x y) : Ok2 (bind2 x fun v s => some (v, s)) (bind2 y fun v s => some (v, s)) := by
  obtain ⟨r, C, M, a, b, c⟩ := h
  rw [a, b, bind2_some, bind2_some]
  exact ⟨r, C, M, rfl, rfl, c⟩
theorem m_lays {C M : St} (h : Rel C M) (x1 : Int32) : Ok2 (f_X6_lays C x1) (f_X7_lays M x1) := by
  have h' := h.thr 0
  obtain ⟨P, L, n, q, f, kr, gr, kt, gt, h1, h2, h3, h5, h6⟩ := id h'
  unfold f_X6_lays f_X7_lays
  rw [lt_q, lt_q]
  generalize hM : put_i M 0 0 = M0 at h' h1 h2 h3 h6 ⊢
  obtain ⟨M1, r1, r2, r3, r4⟩ := reads_M h6
  rw [r1, bind_some]
  have hk80 := h5.2.1
  have hp := h1.1
  have m5 : st_i M1 5 = nI P := by rw [r4.1 5 (by omega)]; exact h1.2.2.2.1
  have txt : ∀ tC tM : St, Fr zI zA C tC → Gr wI yA M1 tM → Rf (put_i tC 17 0) tM P L n q f 0 gt ∧ RC (put_i tC 17 0) kr gr ∧ RM tM kr gr := by
    intro tC tM fC gM
    have fa : Fr (fun k => k = 15 ∨ k = 17) zA C (put_i tC 17 0) := (fC.mono (fun k z => Or.inl z) (fun k z => z)).tr (fr_i (Or.inr rfl))
    have ga : Gr (fun k => k = 2 ∨ k = 3 ∨ k = 4 ∨ k = 8) yA M0 tM := (r4.mono (fun k z => by omega) (fun k j z => z.elim)).tr (gM.mono (fun k z => by omega) (fun k j z => z))
    refine ⟨⟨h1.kp fa.s ga.s (fun k z => by omega) (fun k z => by omega), fun F hF => (h2 F hF).kp fa.s ga.s ⟨by omega, by omega⟩ (by omega) ⟨by omega, by omega, fun i hi => by omega⟩, ⟨by rw [si_pi, if_pos rfl]; rfl, by omega, fun i hi => by omega, fun i hi => by omega⟩, ⟨by rw [gM.1 2 (by omega), r3]; rfl, by omega, fun i hi => by omega⟩⟩, h3.1.kp fa (by omega), h3.2.kp ga (by omega)⟩
  have main : ∀ F, F < 2 → x1 = nI F → Ok2 (bind2 (f_X4_readText C (st_i C 0)) fun v9 s8 => f_X6_lays_n29 x1 s8 (some F) v9) (bind2 (f_X7_readsFile M1) fun v4 s3 => if v4 = 0 then some (-1 - st_i s3 3, s3) else bind2 (f_X7_takesTold s3 x1) fun v6 s5 => some (v6, s5)) := by
    intro F hF hx
    subst hx
    rw [h1.2.2.1]
    rcases text2 h5 r2 m5 hp.2 hp.1 with ⟨Q, t, u, mm, rm, a1, a2, a3, a4, a5, a6⟩ | ⟨e, t, u, a1, a2, a3, a4, a5, a6⟩
    · obtain ⟨z1, z2, z3⟩ := txt t u a5 a6
      have e17 : st_i t 17 = nI kt := by rw [a5.1 17 (by omega)]; exact h5.1
      rw [a1, a2, bind2_some, bind2_some, if_neg (by decide)]
      unfold f_X6_lays_n29
      rw [cut0 e17 hk80, bind2_some]
      rw [onb_q, if_pos (by decide)]
      exact (raw2 z1 hF (a3.kp (fr_i (I := fun k => k = 17) (A := nA) rfl).s (by omega) (fun z => z)) a4 z2 z3).bind
    · obtain ⟨z1, z2, z3⟩ := txt t u a5 a6
      have e17 : st_i t 17 = nI kt := by rw [a5.1 17 (by omega)]; exact h5.1
      rw [a2, a3, bind2_some, bind2_some, if_pos rfl, a4]
      unfold f_X6_lays_n29
      rw [cut0 e17 hk80, bind2_some]
      rw [onb_q, if_neg (m1_neg e (by omega))]
      exact ⟨_, _, _, rfl, rfl, z1.rel z2 z3⟩
  rw [isFile_eq]
  rcases file_cases x1 with ⟨e, e2⟩ | ⟨e, e2⟩ | ⟨e2, a, b⟩
  · have : ¬ (if x1 = 0 ∨ x1 = 1 then (1 : Int32) else 0) = 0 := by rw [if_pos (Or.inl e)]; decide
    rw [e2, if_neg this]
    exact main 0 (by omega) e
  · have : ¬ (if x1 = 0 ∨ x1 = 1 then (1 : Int32) else 0) = 0 := by rw [if_pos (Or.inr e)]; decide
    rw [e2, if_neg this]
    exact main 1 (by omega) e
  · have hz : (if x1 = 0 ∨ x1 = 1 then (1 : Int32) else 0) = 0 := by rw [if_neg (fun z => z.elim a b)]
    obtain ⟨z1, z2, z3⟩ := txt C M1 Fr.rf Gr.rf
    rw [e2, if_pos hz]
    show Ok2 (f_X6_lays_n29 x1 C none (-1)) _
    unfold f_X6_lays_n29
    rw [cut0 h5.1 hk80, bind2_some]
    exact ⟨_, _, _, rfl, rfl, z1.rel z2 z3⟩
