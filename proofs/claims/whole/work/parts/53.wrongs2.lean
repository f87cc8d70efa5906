/-! wrongs: the count of the wrong ones, the first of them -/
def nw (w : Nat → Bool) : Nat → Nat
  | 0 => 0
  | i + 1 => if w i = true then nw w i + 1 else nw w i
def fw (w : Nat → Bool) : Nat → Int32
  | 0 => -1
  | i + 1 => if w i = true then (if 0 ≤ fw w i then fw w i else nI i) else fw w i
theorem wr_C {C : St} {F : Nat} {w : Nat → Bool} (x1 : Int32) (h1 : ∀ v, v < 1000 → w v = true → f_X0_holds C F (f_X6_printOf C (nI v)) = some 1 ∧ f_X1_holds C (nI v) = some 0) (h2 : ∀ v, v < 1000 → w v = false → f_X0_holds C F (f_X6_printOf C (nI v)) = some 0 ∨ (f_X0_holds C F (f_X6_printOf C (nI v)) = some 1 ∧ f_X1_holds C (nI v) = some 1)) : ∀ (d i k : Nat), i + d = 1000 → f_X6_wrongs_n55 x1 (k + (d + 1)) C F (nI (nw w i)) (fw w i) (nI i) = (f_X6_missingOfTold C F).bind fun v4 => (f_X3_tell_ C (fw w 1000).toInt64 v4.toInt64).bind fun s5 => some (nI (nw w 1000), s5) := by
  intro d
  induction d with
  | zero =>
    intro i k e
    have : i = 1000 := by omega
    subst this
    show f_X6_wrongs_n55_b x1 (f_X6_wrongs_n55 x1 k) C F (nI (nw w 1000)) (fw w 1000) (nI 1000) = _
    unfold f_X6_wrongs_n55_b
    rw [if_pos (LeL 1000 1000 1000)]
  | succ d ih =>
    intro i k e
    have n10 : ¬ (1 : Int32) = 0 := by decide
    rw [← ih (i + 1) k (by omega)]
    show f_X6_wrongs_n55_b x1 (f_X6_wrongs_n55 x1 (k + (d + 1))) C F (nI (nw w i)) (fw w i) (nI i) = _
    unfold f_X6_wrongs_n55_b
    rw [if_neg (NLeL 1000 1000 i)]
    cases hw : w i with
    | true =>
      obtain ⟨a, b⟩ := h1 i (by omega) hw
      rw [a, bind_some, if_neg n10, b, bind_some, if_pos rfl, lt_q, nI_1, lt_q, lt_q, nI_1]
      simp only [nw, fw, hw, ↓reduceIte]
      by_cases c : 0 ≤ fw w i
      · rw [if_pos c, if_pos c]
      · rw [if_neg c, if_neg c]
    | false =>
      have e1 : nw w (i + 1) = nw w i := by simp only [nw, hw, Bool.false_eq_true, ↓reduceIte]
      have e2 : fw w (i + 1) = fw w i := by simp only [fw, hw, Bool.false_eq_true, ↓reduceIte]
      rcases h2 i (by omega) hw with a | ⟨a, b⟩
      · rw [a, bind_some, if_pos rfl, lt_q, nI_1, e1, e2]
      · rw [a, bind_some, if_neg n10, b, bind_some, if_neg n10, lt_q, nI_1, e1, e2]
theorem wr_M {M : St} {F c : Nat} {w : Nat → Bool} (h1 : ∀ v, v < 1000 → w v = true → (∃ a, 0 < a ∧ a < 100 ∧ f_X7_countOf M (nI F) (f_X7_printOf M (nI v)) = some (nI a)) ∧ f_X7_isRead M (nI v) (nI c) = some 0) (h2 : ∀ v, v < 1000 → w v = false → f_X7_countOf M (nI F) (f_X7_printOf M (nI v)) = some 0 ∨ ((∃ a, 0 < a ∧ a < 100 ∧ f_X7_countOf M (nI F) (f_X7_printOf M (nI v)) = some (nI a)) ∧ f_X7_isRead M (nI v) (nI c) = some 1)) : ∀ (m k : Nat) (y5 y6 : Int32), m ≤ 1000 → f_X7_wrongs_n74 (nI F) (k + (m + 1)) M (nI c) y5 y6 (nI m - 1) = f_X7_wrongs_n123 (nI F) fuel M (nI c) (y5 + nI (nw w m)) (if 0 ≤ fw w m then fw w m else y6) 0 0 := by
  intro m
  induction m with
  | zero =>
    intro k y5 y6 _
    show f_X7_wrongs_n74_b (nI F) (f_X7_wrongs_n74 (nI F) k) M (nI c) y5 y6 (nI 0 - 1) = _
    unfold f_X7_wrongs_n74_b
    rw [if_pos (by decide)]
    show _ = f_X7_wrongs_n123 (nI F) fuel M (nI c) (y5 + nI 0) (if 0 ≤ (-1 : Int32) then (-1 : Int32) else y6) 0 0
    rw [if_neg (by decide), nI_0, Int32.add_zero]
  | succ m ih =>
    intro k y5 y6 hm
    have n10 : ¬ (1 : Int32) ≤ 0 := by decide
    have e1 : nI m + -1 = nI m - 1 := by rw [Int32.sub_eq_add_neg]
    show f_X7_wrongs_n74_b (nI F) (f_X7_wrongs_n74 (nI F) (k + (m + 1))) M (nI c) y5 y6 (nI (m + 1) - 1) = _
    unfold f_X7_wrongs_n74_b
    rw [Sub1 (m + 1), show m + 1 - 1 = m by omega, if_neg (Pos m)]
    cases hw : w m with
    | true =>
      obtain ⟨⟨a, a1, a2, a3⟩, b⟩ := h1 m (by omega) hw
      rw [a3, bind_some, if_neg (NLeR a 0 0), b, bind_some, if_pos rfl, lt_q, lt_q, e1, ih k _ _ (by omega)]
      have ew : nw w (m + 1) = nw w m + 1 := by simp only [nw, hw, ↓reduceIte]
      have ef : fw w (m + 1) = if 0 ≤ fw w m then fw w m else nI m := by simp only [fw, hw, ↓reduceIte]
      have e0 : 0 ≤ fw w (m + 1) := by
        rw [ef]
        by_cases c : 0 ≤ fw w m
        · rw [if_pos c]; exact c
        · rw [if_neg c]; exact NNeg m
      rw [ew, if_pos e0, ef, Int32.add_assoc, show (1 : Int32) + nI (nw w m) = nI (nw w m + 1) by rw [Int32.add_comm, nI_1]]
    | false =>
      have ew : nw w (m + 1) = nw w m := by simp only [nw, hw, Bool.false_eq_true, ↓reduceIte]
      have ef : fw w (m + 1) = fw w m := by simp only [fw, hw, Bool.false_eq_true, ↓reduceIte]
      rcases h2 m (by omega) hw with a | ⟨⟨a, a1, a2, a3⟩, b⟩
      · rw [a, bind_some, if_pos (by decide), lt_q, e1, ih k _ _ (by omega), ew, ef]
      · rw [a3, bind_some, if_neg (NLeR a 0 0), b, bind_some, if_neg (by decide), lt_q, e1, ih k _ _ (by omega), ew, ef]
theorem wrongs_go {C M : St} {P L : Nat} {n q : Nat → Nat} {f : Nat → Nat → Nat} {kt : Nat} {gt : Nat → Nat} {F c : Nat} {key out : Nat → Nat} (h : Rf C M P L n q f kt gt) (hF : F < 2) (hL : KL C c key out) (hM : KM M c key out) (hc : c < 80) (hk : ∀ i, i < c → key i < 100000) : Ok2 (f_X6_wrongs_n55 (nI F) fuel C F 0 (-1) 0) (f_X7_wrongs_n74 (nI F) fuel M (nI c) 0 (-1) 999) := by
  obtain ⟨a1, a2, -⟩ := h.2.1 F hF
  have hp := h.1.1
  have hv2 := p2P hp.2
  have hn := a1.2.2.1
  have main : ∀ v, v < 1000 → ∃ p, p < 2 ^ P ∧ (f_X6_printOf C (nI v)).toNatClampNeg = p ∧ f_X0_holds C F (f_X6_printOf C (nI v)) = some (if 0 < cnt (f F) (n F) p then 1 else 0) ∧ f_X7_countOf M (nI F) (f_X7_printOf M (nI v)) = some (nI (cnt (f F) (n F) p)) ∧ cnt (f F) (n F) p < 100 ∧ f_X1_holds C (nI v) = some (nI (tk key v c)) ∧ f_X7_isRead M (nI v) (nI c) = some (nI (tk key v c)) := by
    intro v hv
    obtain ⟨p, hp1, ep⟩ := printOf_nat h.1 (nI v)
    have hcl := cnt_le (f F) (n F) p
    refine ⟨p, hp1, by rw [ep, Cl p], ?_, ?_, by omega, told_C0 hL hc hk (by omega), told_M0 hM hc hk (by omega)⟩
    · rw [ep, bc_holds a1 (by omega)]
    · rw [printOf_eq h.1, ep, bm_count a2 hF (by omega)]
  let w : Nat → Bool := fun v => decide (0 < cnt (f F) (n F) (f_X6_printOf C (nI v)).toNatClampNeg ∧ tk key v c = 0)
  have hw : ∀ v, w v = decide (0 < cnt (f F) (n F) (f_X6_printOf C (nI v)).toNatClampNeg ∧ tk key v c = 0) := fun v => rfl
  generalize w = w at hw
  have wt : ∀ v, w v = true → 0 < cnt (f F) (n F) (f_X6_printOf C (nI v)).toNatClampNeg ∧ tk key v c = 0 := fun v e => by
    rw [hw v] at e; exact of_decide_eq_true e
  have wf : ∀ v, w v = false → ¬ (0 < cnt (f F) (n F) (f_X6_printOf C (nI v)).toNatClampNeg ∧ tk key v c = 0) := fun v e => by
    rw [hw v] at e; exact of_decide_eq_false e
  obtain ⟨jC, hjC⟩ := fuel_ge (k := 1001) (by omega)
  have eC := wr_C (w := w) (nI F) (C := C) (F := F) (fun v hv e => by
      obtain ⟨p, p1, p2, p3, p4, p5, p6, p7⟩ := main v hv
      obtain ⟨x1, x2⟩ := wt v e
      rw [p2] at x1
      rw [p3, if_pos x1, p6, x2]
      exact ⟨rfl, rfl⟩) (fun v hv e => by
      obtain ⟨p, p1, p2, p3, p4, p5, p6, p7⟩ := main v hv
      have x := wf v e
      rw [p2] at x
      rw [p3, p6]
      by_cases z : 0 < cnt (f F) (n F) p
      · rw [if_pos z]
        have : tk key v c = 1 := by rcases tk_01 key v c with o | o; exact absurd ⟨z, o⟩ x; exact o
        rw [this]
        exact Or.inr ⟨rfl, rfl⟩
      · rw [if_neg z]; exact Or.inl rfl) 1000 0 jC (by omega)
  have eM := wr_M (w := w) (M := M) (F := F) (c := c) (fun v hv e => by
      obtain ⟨p, p1, p2, p3, p4, p5, p6, p7⟩ := main v hv
      obtain ⟨x1, x2⟩ := wt v e
      rw [p2] at x1
      rw [p7, x2]
      exact ⟨⟨_, x1, p5, p4⟩, rfl⟩) (fun v hv e => by
      obtain ⟨p, p1, p2, p3, p4, p5, p6, p7⟩ := main v hv
      have x := wf v e
      rw [p2] at x
      rw [p7]
      by_cases z : 0 < cnt (f F) (n F) p
      · have : tk key v c = 1 := by rcases tk_01 key v c with o | o; exact absurd ⟨z, o⟩ x; exact o
        rw [this]
        exact Or.inr ⟨⟨_, z, p5, p4⟩, rfl⟩
      · left; rw [p4, show cnt (f F) (n F) p = 0 by omega]; rfl) 1000 jC 0 (-1) (by omega)
  rw [← hjC] at eC eM
  have c1 : f_X6_wrongs_n55 (nI F) fuel C F 0 (-1) 0 = f_X6_wrongs_n55 (nI F) fuel C F (nI (nw w 0)) (fw w 0) (nI 0) := by
    simp only [nw, fw, nI_0]
  have c2 : f_X7_wrongs_n74 (nI F) fuel M (nI c) 0 (-1) 999 = f_X7_wrongs_n74 (nI F) fuel M (nI c) 0 (-1) (nI 1000 - 1) := by
    rw [show nI 1000 - 1 = (999 : Int32) by decide]
  have e5 : (if 0 ≤ fw w 1000 then fw w 1000 else -1) = fw w 1000 := by
    have : ∀ m, m ≤ 1000 → 0 ≤ fw w m ∨ fw w m = -1 := by
      intro m
      induction m with
      | zero => intro _; exact Or.inr rfl
      | succ m ih =>
        intro hm
        simp only [fw]
        by_cases z : w m = true
        · rw [if_pos z]
          by_cases y : 0 ≤ fw w m
          · rw [if_pos y]; exact Or.inl y
          · rw [if_neg y]; exact Or.inl (NNeg m)
        · rw [if_neg z]; exact ih (by omega)
    rcases this 1000 (by omega) with o | o
    · rw [if_pos o]
    · rw [o]; rfl
  rw [c1, c2, eC, eM, Int32.zero_add, e5]
  obtain ⟨j, hj⟩ := fuel_ge (k := c + 1) (by omega)
  obtain ⟨z, z1, z2⟩ := miss_loop h hF hL hM hc (nI (nw w 1000)) (fw w 1000) c 0 j 0 (by omega)
  rw [← hj, nI_0] at z1 z2
  have z1' : f_X6_missingOfTold C F = some z := z1
  rw [z1', bind_some, z2]
  show Ok2 _ (f_X7_wrongs_n123_b (nI F) (f_X7_wrongs_n123 (nI F) j) M (nI c) (nI (nw w 1000)) (fw w 1000) z (nI c))
  unfold f_X7_wrongs_n123_b
  obtain ⟨t, u1, u, e1, e2, e3, e4, -⟩ := end2 h (fw w 1000).toInt64 z.toInt64
  rw [if_pos (Le2 c c), lt_q, e1, bind_some, e2, bind_some, e3, bind_some]
  exact ⟨_, _, _, rfl, rfl, e4⟩
theorem m1_neg (e : Nat) (h : e < 100) : ¬ (0 : Int32) ≤ -1 - nI e := by
  rw [Int32.le_iff_toInt_le]
  have : (-1 - nI e : Int32).toInt = -1 - (e : Int) := by
    have em : (-1 : Int32).toInt = -1 := rfl
    have e32 : ((2 ^ 32 : Nat) : Int) = 4294967296 := rfl
    rw [Int32.toInt_sub, nI_toInt (by omega), em, Int.bmod_def, e32]
    split <;> omega
  have e0 : (0 : Int32).toInt = 0 := rfl
  omega
theorem m_wrongs {C M : St} (h : Rel C M) (x1 : Int32) : Ok2 (f_X6_wrongs C x1) (f_X7_wrongs M x1) := by
  have h' := h.thr 0
  obtain ⟨P, L, n, q, f, kr, gr, kt, gt, h1, h2, h3, h5, h6⟩ := id h'
  unfold f_X6_wrongs f_X7_wrongs
  rw [lt_q, lt_q]
  generalize hM : put_i M 0 0 = M0 at h' h1 h2 h3 h6 ⊢
  obtain ⟨M1, r1, r2, r3, r4⟩ := reads_M h6
  rw [r1, bind_some]
  have hk80 := h5.2.1
  obtain ⟨K, k1, k2, k3, k4, k5⟩ := ends_M r2 hk80 h5.2.2.2
  have main : ∀ F, F < 2 → x1 = nI F → Ok2 (bind2 (f_X1_read C 0) fun v16 s15 => f_X6_wrongs_n26 x1 s15 (some F) v16) (lt_ (st_i M1 4) fun v17 => (f_X7_endsAtOut M1).bind fun s18 => if v17 ≤ st_i s18 4 then f_X7_wrongs_n40 x1 s18 0 else f_X7_wrongs_n40 x1 s18 1) := by
    intro F hF hx
    subst hx
    have hC0 : Fr frK faK C (put_i C 18 0) := fr_i rfl
    have hT0 : TC (put_i C 18 0) kt gt := h5.kp hC0.s (by omega) (by omega)
    have hL0 : KL (put_i C 18 0) 0 (fun _ => 0) (fun _ => 0) := ⟨by rw [si_pi, if_pos rfl]; rfl, fun i hi => by omega⟩
    unfold f_X1_read
    rw [lt_q, lt_q, k4, bind_some, k5.1, r2.1]
    have hg2 : Gr (fun k => k = 2 ∨ k = 3 ∨ k = 4) nA2 M0 (put_i M1 4 (nI K)) := r4.tr (gr_i (by omega))
    have h20 : st_i (put_i M1 4 (nI K)) 2 = 0 := by rw [si_pi, if_neg (by omega)]; exact r3
    generalize hM2 : put_i M1 4 (nI K) = M2 at k5 hg2 h20 ⊢
    have done : ∀ (c : Nat) (key out : Nat → Nat) (tC tM : St), c < 80 → (∀ i, i < c → key i < 100000) → KL tC c key out → KM tM c key out → Fr frK faK C tC → Gr gi3 ga7 M2 tM → Ok2 (f_X6_wrongs_n26 (nI F) tC (some F) 0) (f_X7_wrongs_n74 (nI F) fuel tM (nI c) 0 (-1) 999) := by
      intro c key out tC tM hc hk kl km fC gM
      obtain ⟨z1, z2, z3⟩ := txt0 (gt := gt) h1 h2 h3 hg2 h20 fC gM
      have e17 : st_i tC 17 = nI kt := by rw [fC.1 17 (by omega)]; exact h5.1
      unfold f_X6_wrongs_n26
      rw [cut0 e17 hk80, bind2_some]
      rw [onb_q, if_pos (by decide)]
      exact wrongs_go z1 hF (kl.kp (fr_i (I := fun k => k = 17) (A := nA) rfl).s (by omega) (fun z => z) (fun z => z)) km hc hk
    have fail : ∀ (e : Nat) (tC tM : St), e ≤ 80 → st_i tM 3 = nI e → Fr frK faK C tC → Gr gi3 ga7 M2 tM → Ok2 (f_X6_wrongs_n26 (nI F) tC (some F) (-1 - nI e)) (some (-1 - st_i tM 3, tM)) := by
      intro e tC tM he h3' fC gM
      obtain ⟨z1, z2, z3⟩ := txt0 (gt := gt) h1 h2 h3 hg2 h20 fC gM
      have e17 : st_i tC 17 = nI kt := by rw [fC.1 17 (by omega)]; exact h5.1
      unfold f_X6_wrongs_n26
      rw [cut0 e17 hk80, bind2_some]
      rw [onb_q, if_neg (m1_neg e (by omega)), h3']
      exact ⟨_, _, _, rfl, rfl, z1.rel z2 z3⟩
    by_cases k0 : K = 0
    · have eM : f_X7_readsKeys M2 = some (0, M2) := by
        unfold f_X7_readsKeys
        rw [k5.1, k0, if_pos (by decide)]
        obtain ⟨j, hj⟩ := fuel_ge (k := 1) (by omega)
        rw [hj]
        show f_X7_readsKeys_n15_b (f_X7_readsKeys_n15 j) M2 0 0 = _
        unfold f_X7_readsKeys_n15_b
        rw [if_pos rfl, k5.1, k5.2.1, k0, if_pos (by decide)]
      by_cases t0 : kt = 0
      · have e17 : st_i (put_i C 18 0) 17 = nI 0 := by rw [hT0.1, t0]
        have eC : f_X1_read_n16 0 fuel (put_i C 18 0) 0 0 0 0 = some (0, put_i C 18 0) := by
          obtain ⟨j, hj⟩ := fuel_ge (k := 1) (by omega)
          rw [hj]
          show f_X1_read_n16_b 0 (f_X1_read_n16 0 j) (put_i C 18 0) 0 0 0 0 = _
          unfold f_X1_read_n16_b f_X1_read_n156
          rw [e17, if_pos (by decide), if_pos (by decide), if_pos (by decide)]
        rw [if_pos (Le2 kt K), eC]
        unfold f_X7_wrongs_n40
        rw [eM, bind2_some, bind2_some, if_neg (by decide), if_pos rfl]
        exact done 0 (fun _ => 0) (fun _ => 0) (put_i C 18 0) M2 (by omega) (fun i hi => by omega) hL0 (fun i hi => by omega) hC0 Gr.rf
      · have g0 : gt 0 = 126 := by
          rcases k3 with o | o
          · omega
          · rw [← k0]; exact o
        have eC : f_X1_read_n16 0 fuel (put_i C 18 0) 0 0 0 0 = some (-1 - nI 0, put_i C 18 0) := by
          obtain ⟨j, hj⟩ := fuel_ge (k := 1) (by omega)
          rw [hj]
          show f_X1_read_n16_b 0 (f_X1_read_n16 0 j) (put_i C 18 0) 0 0 0 0 = _
          unfold f_X1_read_n16_b f_X1_read_n71 f_X1_read_n97 f_X5_at
          have n1 : ¬ nI 126 < 48 := by decide
          have n2 : (57 : Int32) < nI 126 := by decide
          have n3 : nI 126 = 126 := by decide
          have n4 : ¬ nI 126 = 44 := by decide
          have e0 : (0 : Int32).toNatClampNeg = 0 := rfl
          rw [hT0.1, if_neg (show ¬ nI kt ≤ 0 from NLeR kt 0 0), if_neg (show ¬ (0 : Int32) < 0 by decide), if_neg (show ¬ (80 : Int32) ≤ 0 by decide), if_pos (show in_b 0 80 = true by decide), if_neg (show ¬ nI kt ≤ 0 from NLeR kt 0 0), e0, hT0.2.2.1 0 (by omega), g0, bind_some, if_neg n1, if_pos n2, if_pos n3, if_pos rfl, if_neg n4, nI_0]
        rw [if_neg (NLe2 kt K), eC]
        unfold f_X7_wrongs_n40
        rw [eM, bind2_some, bind2_some, if_neg (by decide), if_neg (by decide)]
        exact fail 0 _ _ (by omega) (by rw [k5.2.1]) hC0 Gr.rf
    · obtain ⟨j, hj⟩ := fuel_ge (k := kt + 1) (by omega)
      obtain ⟨j', hj'⟩ := fuel_ge (k := K + 1) (by omega)
      have ks := keysim (K := K) (KC := kt) (g := gt) (x2 := 0) (by omega) k1 (by rcases k3 with o | o; exact Or.inl o; by_cases o2 : K = kt; exact Or.inl o2; exact Or.inr ⟨by omega, o, rfl⟩) (fun _ => k2) K 0 0 j j' (put_i C 18 0) M2 (fun _ => 0) (fun _ => 0) (by omega) (by omega) hT0 hL0 k5 (fun i hi => by omega) (by omega) (fun i hi => by omega)
      rw [show j + (kt - 0) + 1 = j + (kt + 1) by omega, show j' + (K - 0) + 1 = j' + (K + 1) by omega, ← hj, ← hj', nI_0] at ks
      have eM : f_X7_readsKeys M2 = f_X7_readsKeys_n15 fuel M2 0 1 := by
        unfold f_X7_readsKeys
        rw [k5.1, if_neg (nI_nle (by omega) (by omega))]
      unfold f_X7_wrongs_n40
      rw [eM]
      rcases ks with ⟨c', key', out', tC, tM, a1, a2, a3, a4, a5, a6, a7, a8⟩ | ⟨e, tC, tM, a1, a2, a3, a4, a5, a6⟩
      · rcases a6 with ⟨b1, b2, b3⟩ | ⟨b1, b2⟩
        · rw [if_pos (Le2 kt K), b2, a1, bind2_some, bind2_some, if_neg (Pos c'), if_pos rfl]
          exact done c' key' out' tC tM (by omega) (fun i hi => (a5 i hi).2) b3 a2 (hC0.tr a7) a8
        · rw [if_neg (NLe2 kt K), b2, a1, bind2_some, bind2_some, if_neg (Pos c'), if_neg (by decide)]
          exact fail K tC tM (by omega) a3.2.1 (hC0.tr a7) a8
      · have hh := fail e tC tM (by omega) a3 (hC0.tr a5) a6
        rw [a4, a2, bind2_some]
        simp only [bind2_q, show (-1 : Int32) < 0 from by decide, ↓reduceIte, ite_self]
        exact hh
  rw [isFile_eq]
  rcases file_cases x1 with ⟨e, e2⟩ | ⟨e, e2⟩ | ⟨e2, a, b⟩
  · have : ¬ (if x1 = 0 ∨ x1 = 1 then (1 : Int32) else 0) = 0 := by rw [if_pos (Or.inl e)]; decide
    rw [e2, if_neg this]
    exact main 0 (by omega) e
  · have : ¬ (if x1 = 0 ∨ x1 = 1 then (1 : Int32) else 0) = 0 := by rw [if_pos (Or.inr e)]; decide
    rw [e2, if_neg this]
    exact main 1 (by omega) e
  · have hz : (if x1 = 0 ∨ x1 = 1 then (1 : Int32) else 0) = 0 := by rw [if_neg (fun z => z.elim a b)]
    obtain ⟨z1, z2, z3⟩ := txt0 (gt := gt) h1 h2 h3 r4 r3 Fr.rf Gr.rf
    rw [e2, if_pos hz]
    show Ok2 (f_X6_wrongs_n26 x1 C none (-1)) _
    unfold f_X6_wrongs_n26
    rw [cut0 h5.1 hk80, bind2_some]
    exact ⟨_, _, _, rfl, rfl, z1.rel z2 z3⟩
