/-! keys, whole -/
theorem onb_q {α : Type} (b : Nat) (x : α) (f : Nat → α) : on_b (some b) x f = f b := id rfl
theorem txt0 {C M0 M1 tC tM : St} {P L : Nat} {n q : Nat → Nat} {f : Nat → Nat → Nat} {kr : Nat} {gr : Nat → Int64} {gt : Nat → Nat} (h1 : Hd C M0 P L) (h2 : ∀ F, F < 2 → Fl C M0 P F (n F) (q F) (f F)) (h3 : RC C kr gr ∧ RM M0 kr gr) (g1 : Gr (fun k => k = 2 ∨ k = 3 ∨ k = 4) nA2 M0 M1) (t2 : st_i M1 2 = 0) (fC : Fr frK faK C tC) (gM : Gr gi3 ga7 M1 tM) : Rf (put_i tC 17 0) tM P L n q f 0 gt ∧ RC (put_i tC 17 0) kr gr ∧ RM tM kr gr := by
  have fa : Fr (fun k => k = 17 ∨ k = 18) faK C (put_i tC 17 0) := (fC.mono (fun k z => Or.inr z) (fun k z => z)).tr (fr_i (by omega))
  have ga : Gr (fun k => k = 2 ∨ k = 3 ∨ k = 4) ga7 M0 tM := (g1.mono (fun k z => z) (fun k j z => z.elim)).tr (gM.mono (fun k z => by omega) (fun k j z => z))
  refine ⟨⟨h1.kp fa.s ga.s (fun k z => by omega) (fun k z => by omega), fun F hF => (h2 F hF).kp fa.s ga.s ⟨by omega, by omega⟩ (by omega) ⟨by omega, by omega, fun i hi => by omega⟩, ⟨by rw [si_pi, if_pos rfl]; rfl, by omega, fun i hi => by omega, fun i hi => by omega⟩, ⟨by rw [gM.1 2 (by omega), t2]; rfl, by omega, fun i hi => by omega⟩⟩, h3.1.kp fa (by omega), h3.2.kp ga (by omega)⟩
theorem cut0 {σ : St} {k : Nat} (h : st_i σ 17 = nI k) (hk : k ≤ 80) : f_X5_cutTo σ 0 = some (1, put_i σ 17 0) := by
  unfold f_X5_cutTo
  rw [if_neg (by decide), h, if_pos (NNeg k), lt_q]
theorem reads_M {M0 : St} {kt : Nat} {gt : Nat → Nat} (h : TM M0 kt gt) : ∃ M1 : St, f_X7_reads M0 = some M1 ∧ MT M1 kt 0 gt ∧ st_i M1 2 = 0 ∧ Gr (fun k => k = 2 ∨ k = 3 ∨ k = 4) nA2 M0 M1 := by
  unfold f_X7_reads
  rw [lt_q, lt_q, lt_q, h.1]
  refine ⟨_, rfl, ⟨?_, ?_, fun i hi => ?_⟩, ?_, ((gr_i (by omega)).tr (gr_i (by omega))).tr (gr_i (by omega))⟩
  · rw [si_pi, if_neg (by omega), si_pi, if_neg (by omega), si_pi, if_pos rfl]
  · rw [si_pi, if_pos rfl]; rfl
  · rw [sa_pi, sa_pi, sa_pi]; exact h.2.2 i hi
  · rw [si_pi, if_neg (by omega), si_pi, if_pos rfl]
theorem m_keys {C M : St} (h : Rel C M) (x1 : Int32) : Ok2 (f_X6_keys C x1) (f_X7_keys M x1) := by
  have h' := h.thr 0
  obtain ⟨P, L, n, q, f, kr, gr, kt, gt, h1, h2, h3, h5, h6⟩ := id h'
  unfold f_X6_keys f_X7_keys
  rw [lt_q, lt_q]
  generalize hM : put_i M 0 0 = M0 at h' h1 h2 h3 h6 ⊢
  obtain ⟨M1, r1, r2, r3, r4⟩ := reads_M h6
  rw [r1, bind_some]
  have hk80 := h5.2.1
  have main : ∀ F, F < 2 → x1 = nI F → Ok2 (bind2 (f_X1_read C 1) fun v13 s12 => f_X6_keys_n26 x1 s12 (some F) v13) (bind2 (f_X7_readsKeys M1) fun v12 s11 => if 0 ≤ v12 then f_X7_keys_n39 x1 fuel s11 v12 0 1 else some (-1 - st_i s11 3, s11)) := by
    intro F hF hx
    subst hx
    have hC0 : Fr frK faK C (put_i C 18 0) := fr_i rfl
    have hT0 : TC (put_i C 18 0) kt gt := h5.kp hC0.s (by omega) (by omega)
    have hL0 : KL (put_i C 18 0) 0 (fun _ => 0) (fun _ => 0) := ⟨by rw [si_pi, if_pos rfl]; rfl, fun i hi => by omega⟩
    unfold f_X1_read
    rw [lt_q]
    have done : ∀ (c : Nat) (key out : Nat → Nat) (tC tM : St), c < 80 → (∀ i, i < c → out i = 0 ∨ out i = 1) → KL tC c key out → KM tM c key out → Fr frK faK C tC → Gr gi3 ga7 M1 tM → Ok2 (f_X6_keys_n26 (nI F) tC (some F) 0) (f_X7_keys_n39 (nI F) fuel tM (nI c) 0 1) := by
      intro c key out tC tM hc ho kl km fC gM
      obtain ⟨z1, z2, z3⟩ := txt0 (gt := gt) h1 h2 h3 r4 r3 fC gM
      have e17 : st_i tC 17 = nI kt := by rw [fC.1 17 (by omega)]; exact h5.1
      obtain ⟨j, hj⟩ := fuel_ge (k := c + 2) (by omega)
      unfold f_X6_keys_n26
      rw [cut0 e17 hk80, bind2_some]
      rw [onb_q, if_pos (by decide), hj]
      exact keys_loop hF hc ho (nI F) c 0 j (put_i tC 17 0) tM n q f (by omega) z1 (kl.kp (fr_i (I := fun k => k = 17) (A := nA) rfl).s (by omega) (fun z => z) (fun z => z)) km
    by_cases k0 : kt = 0
    · have e17 : st_i (put_i C 18 0) 17 = nI 0 := by rw [hT0.1, k0]
      have eC : f_X1_read_n16 1 fuel (put_i C 18 0) 0 0 0 0 = some (0, put_i C 18 0) := by
        obtain ⟨j, hj⟩ := fuel_ge (k := 1) (by omega)
        rw [hj]
        show f_X1_read_n16_b 1 (f_X1_read_n16 1 j) (put_i C 18 0) 0 0 0 0 = _
        unfold f_X1_read_n16_b f_X1_read_n156
        rw [e17, if_pos (by decide), if_pos (by decide), if_pos (by decide)]
      have eM : f_X7_readsKeys M1 = some (0, M1) := by
        unfold f_X7_readsKeys
        rw [r2.1, k0, if_pos (by decide)]
        obtain ⟨j, hj⟩ := fuel_ge (k := 1) (by omega)
        rw [hj]
        show f_X7_readsKeys_n15_b (f_X7_readsKeys_n15 j) M1 0 0 = _
        unfold f_X7_readsKeys_n15_b
        rw [if_pos rfl, r2.1, r2.2.1, k0, if_pos (by decide)]
      rw [eC, eM, bind2_some, bind2_some, if_pos (by decide)]
      exact done 0 (fun _ => 0) (fun _ => 0) (put_i C 18 0) M1 (by omega) (fun i hi => by omega) hL0 (fun i hi => by omega) hC0 Gr.rf
    · obtain ⟨j, hj⟩ := fuel_ge (k := kt + 1) (by omega)
      have ks := keysim (K := kt) (KC := kt) (g := gt) (x2 := 1) (by omega) (Nat.le_refl _) (Or.inl rfl) (fun z => absurd z (by decide)) kt 0 0 j j (put_i C 18 0) M1 (fun _ => 0) (fun _ => 0) (by omega) (by omega) hT0 hL0 r2 (fun i hi => by omega) (by omega) (fun i hi => by omega)
      rw [show j + (kt - 0) + 1 = j + (kt + 1) by omega, ← hj, nI_0] at ks
      have eM : f_X7_readsKeys M1 = f_X7_readsKeys_n15 fuel M1 0 1 := by
        unfold f_X7_readsKeys
        rw [r2.1, if_neg (nI_nle (by omega) (by omega))]
      rw [eM]
      rcases ks with ⟨c', key', out', tC, tM, a1, a2, a3, a4, a5, a6, a7, a8⟩ | ⟨e, tC, tM, a1, a2, a3, a4, a5, a6⟩
      · rcases a6 with ⟨-, b2, b3⟩ | ⟨b1, -⟩
        · rw [b2, a1, bind2_some, bind2_some, if_pos (NNeg c')]
          exact done c' key' out' tC tM (by omega) (fun i hi => (a5 i hi).1) b3 a2 (hC0.tr a7) a8
        · omega
      · have fC := hC0.tr a5
        obtain ⟨z1, z2, z3⟩ := txt0 (gt := gt) h1 h2 h3 r4 r3 fC a6
        have e17 : st_i tC 17 = nI kt := by rw [fC.1 17 (by omega)]; exact h5.1
        have en : ¬ (0 : Int32) ≤ -1 - nI e := by
          rw [Int32.le_iff_toInt_le]
          have : (-1 - nI e : Int32).toInt = -1 - (e : Int) := by
            have em : (-1 : Int32).toInt = -1 := rfl
            have e32 : ((2 ^ 32 : Nat) : Int) = 4294967296 := rfl
            rw [Int32.toInt_sub, nI_toInt (by omega), em, Int.bmod_def, e32]
            split <;> omega
          have e0 : (0 : Int32).toInt = 0 := rfl
          omega
        rw [a4, a2, bind2_some, bind2_some, if_neg (by decide), a3]
        unfold f_X6_keys_n26
        rw [cut0 e17 hk80, bind2_some]
        rw [onb_q, if_neg en]
        exact ⟨_, _, _, rfl, rfl, z1.rel z2 z3⟩
  rw [isFile_eq]
  rcases file_cases x1 with ⟨e, e2⟩ | ⟨e, e2⟩ | ⟨e2, a, b⟩
  · have : ¬ (if x1 = 0 ∨ x1 = 1 then (1 : Int32) else 0) = 0 := by rw [if_pos (Or.inl e)]; decide
    rw [e2, if_neg this]
    exact main 0 (by omega) e
  · have : ¬ (if x1 = 0 ∨ x1 = 1 then (1 : Int32) else 0) = 0 := by rw [if_pos (Or.inr e)]; decide
    rw [e2, if_neg this]
    exact main 1 (by omega) e
  · have hz : (if x1 = 0 ∨ x1 = 1 then (1 : Int32) else 0) = 0 := by rw [if_neg (fun z => z.elim a b)]
    obtain ⟨z1, z2, z3⟩ := txt0 (gt := gt) h1 h2 h3 r4 r3 Fr.rf Gr.rf
    rw [e2, if_pos hz]
    show Ok2 (f_X6_keys_n26 x1 C none (-1)) _
    unfold f_X6_keys_n26
    rw [cut0 h5.1 hk80, bind2_some]
    exact ⟨_, _, _, rfl, rfl, z1.rel z2 z3⟩
