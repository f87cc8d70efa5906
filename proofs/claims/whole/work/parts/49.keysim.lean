/-! reading keys: both alike -/
theorem cerr {C : St} {KC p a v o : Nat} {g : Nat → Nat} {x2 : Int32} (h : TC C KC g) (hp : p < KC) (ha : a ≤ 5) (ho : o = 0 ∨ o = 1) (h1 : ¬ (48 ≤ g p ∧ g p ≤ 57) ∨ a = 5) (h2 : g p = 126 → x2 = 0 ∨ a ≠ 0 ∨ o ≠ 0) (h3 : g p = 44 → a = 0) (k : Nat) : f_X1_read_n16 x2 (k + 1) C (nI a) (nI v) (nI o) (nI p) = some (-1 - nI p, C) := by
  have hg := h.2.2.2 p hp
  have hK := h.2.1
  have e97 : f_X1_read_n97 x2 (f_X1_read_n16 x2 k) C (nI a) (nI v) (nI o) (nI p) (nI (g p)) = some (-1 - nI p, C) := by
    unfold f_X1_read_n97
    by_cases c : g p = 44
    · have ha0 := h3 c
      rw [c, if_pos (show nI 44 = 44 from rfl), ha0, if_pos (show nI 0 ≤ 0 by decide)]
    · rw [if_neg (NeR (g p) 44 44)]
  have e71 : f_X1_read_n71 x2 (f_X1_read_n16 x2 k) C (nI a) (nI v) (nI o) (nI p) (nI (g p)) = some (-1 - nI p, C) := by
    unfold f_X1_read_n71
    by_cases c : g p = 126
    · rw [if_pos (show nI (g p) = 126 by rw [c]; rfl)]
      rcases h2 c with q | q | q
      · rw [if_pos q, e97]
      · by_cases x0 : x2 = 0
        · rw [if_pos x0, e97]
        · rw [if_neg x0, if_neg (nI_ne0 (by omega) (by omega)), e97]
      · by_cases x0 : x2 = 0
        · rw [if_pos x0, e97]
        · rw [if_neg x0, if_neg (show ¬ nI o = 0 from nI_ne0 (by omega) (by omega)), e97]
          split <;> rfl
    · rw [if_neg (NeR (g p) 126 126), e97]
  show f_X1_read_n16_b x2 (f_X1_read_n16 x2 k) C _ _ _ _ = _
  unfold f_X1_read_n16_b
  rw [h.1, if_neg (NLe2 KC p), text_at h hp, bind_some, e71]
  by_cases c1 : g p < 48
  · rw [if_pos (LtR (g p) 48 48)]
  · rw [if_neg (NLtR (g p) 48 48)]
    by_cases c2 : 57 < g p
    · rw [if_pos (LtL 57 57 (g p))]
    · rw [if_neg (NLtL 57 57 (g p))]
      have : a = 5 := by omega
      rw [this, if_pos (show (5 : Int32) ≤ nI 5 by decide)]
/-- at its end -/
theorem cend0 {C : St} {KC v o : Nat} {g : Nat → Nat} {x2 : Int32} (h : TC C KC g) (h0 : 0 < KC) (k : Nat) : f_X1_read_n16 x2 (k + 1) C (nI 0) (nI v) (nI o) (nI KC) = some (-1 - nI KC, C) := by
  have hK := h.2.1
  show f_X1_read_n16_b x2 (f_X1_read_n16 x2 k) C _ _ _ _ = _
  unfold f_X1_read_n16_b
  rw [h.1, if_pos (Le2 KC KC), if_neg (nI_nle h0 (by omega)), if_pos nI_0]
theorem cend1 {C : St} {KC v o a c : Nat} {g : Nat → Nat} {x2 : Int32} {key out : Nat → Nat} (h : TC C KC g) (h0 : 0 < KC) (ha : 0 < a) (ha5 : a ≤ 5) (hk : KL C c key out) (hc : c < 80) (ho : o = 0 ∨ o = 1) (k : Nat) : ∃ t : St, f_X1_read_n16 x2 (k + 1) C (nI a) (nI v) (nI o) (nI KC) = some (0, t) ∧ KL t (c + 1) (fun i => if i = c then v else key i) (fun i => if i = c then o else out i) ∧ Fr (fun k => k = 18) (fun k => k = 13 ∨ k = 14) C t := by
  have hK := h.2.1
  obtain ⟨t, e1, e2, e3⟩ := key_add (v := v) hk hc ho
  refine ⟨t, ?_, e2, e3⟩
  show f_X1_read_n16_b x2 (f_X1_read_n16 x2 k) C _ _ _ _ = _
  unfold f_X1_read_n16_b f_X1_read_n156
  rw [h.1, if_pos (Le2 KC KC), if_neg (nI_nle h0 (by omega)), if_neg (nI_ne0 ha (by omega)), if_neg (nI_nle h0 (by omega)), e1, bind_some]
theorem ccom {C : St} {KC p v o a c : Nat} {g : Nat → Nat} {x2 : Int32} {key out : Nat → Nat} (h : TC C KC g) (hp : p < KC) (h44 : g p = 44) (ha : 0 < a) (ha5 : a ≤ 5) (hk : KL C c key out) (hc : c < 80) (ho : o = 0 ∨ o = 1) (k : Nat) : ∃ t : St, f_X1_read_n16 x2 (k + 1) C (nI a) (nI v) (nI o) (nI p) = f_X1_read_n16 x2 k t 0 0 0 (nI (p + 1)) ∧ KL t (c + 1) (fun i => if i = c then v else key i) (fun i => if i = c then o else out i) ∧ Fr (fun k => k = 18) (fun k => k = 13 ∨ k = 14) C t := by
  have hK := h.2.1
  obtain ⟨t, e1, e2, e3⟩ := key_add (v := v) hk hc ho
  refine ⟨t, ?_, e2, e3⟩
  show f_X1_read_n16_b x2 (f_X1_read_n16 x2 k) C _ _ _ _ = _
  unfold f_X1_read_n16_b f_X1_read_n71 f_X1_read_n97
  rw [h.1, if_neg (NLe2 KC p), text_at h hp, bind_some, h44, if_pos (show nI 44 < 48 by decide), if_neg (show ¬ nI 44 = 126 by decide), if_pos (show nI 44 = 44 from rfl), if_neg (nI_nle ha (by omega)), e1, bind_some, lt_q, nI_1]
theorem ctil {C : St} {KC p : Nat} {g : Nat → Nat} {x2 : Int32} (h : TC C KC g) (hp : p < KC) (h126 : g p = 126) (hx : ¬ x2 = 0) (k : Nat) : f_X1_read_n16 x2 (k + 1) C 0 0 0 (nI p) = f_X1_read_n16 x2 k C 0 0 1 (nI (p + 1)) := by
  have hK := h.2.1
  show f_X1_read_n16_b x2 (f_X1_read_n16 x2 k) C _ _ _ _ = _
  unfold f_X1_read_n16_b f_X1_read_n71
  rw [h.1, if_neg (NLe2 KC p), text_at h hp, bind_some, h126, if_neg (show ¬ nI 126 < 48 by decide), if_pos (show (57 : Int32) < nI 126 by decide), if_pos (show nI 126 = 126 from rfl), if_neg hx, if_pos rfl, if_pos rfl, lt_q, nI_1]
theorem cdig {C : St} {KC p o : Nat} {g : Nat → Nat} {x2 : Int32} (h : TC C KC g) (hp : p < KC) (hd : 48 ≤ g p ∧ g p ≤ 57) (k : Nat) : f_X1_read_n16 x2 (k + 1) C (nI 0) (nI 0) (nI o) (nI p) = f_X1_read_n16 x2 k C (nI 1) (nI (g p - 48)) (nI o) (nI (p + 1)) := by
  have hK := h.2.1
  show f_X1_read_n16_b x2 (f_X1_read_n16 x2 k) C _ _ _ _ = _
  unfold f_X1_read_n16_b
  rw [h.1, if_neg (NLe2 KC p), text_at h hp, bind_some, if_neg (NLtR (g p) 48 48), if_neg (NLtL 57 57 (g p)), if_neg (show ¬ (5 : Int32) ≤ nI 0 by decide), lt_q, lt_q, lt_q, show (10 : Int32) = nI 10 from rfl, nI_mul, show (48 : Int32) = nI 48 from rfl, Sub2 (g p) 48, nI_add, nI_1, nI_1, Nat.zero_mul, Nat.zero_add, Nat.zero_add]
abbrev frK : Nat → Prop := fun k => k = 18
abbrev faK : Nat → Prop := fun k => k = 13 ∨ k = 14
abbrev gi3 : Nat → Prop := fun k => k = 3
abbrev ga7 : Nat → Nat → Prop := fun k _ => 7 ≤ k
/-- the start of a key: a sign that it goes out, or none -/
theorem mstart {M : St} {K p c : Nat} {g : Nat → Nat} (hM : MT M K p g) (hp : p ≤ K) (hK : K ≤ 80) (hg : ∀ i, i < K → g i < 256) (hc : c < 80) : ∃ (o p1 : Nat) (M1 : St), (o = 0 ∨ o = 1) ∧ ((o = 1 ∧ p < K ∧ g p = 126 ∧ p1 = p + 1) ∨ (o = 0 ∧ p1 = p ∧ (p = K ∨ g p ≠ 126))) ∧ MT M1 K p1 g ∧ st_a M1 8 c = nI o ∧ (∀ i, i ≠ c → st_a M1 8 i = st_a M 8 i) ∧ (∀ i, st_a M1 7 i = st_a M 7 i) ∧ Gr gi3 ga7 M M1 ∧ f_X7_readsKey M (nI c) = bind2 (f_X7_takesOf M1 3) fun v4 s3 => f_X7_readsKey_n29 (nI c) fuel s3 v4 1 := by
  have n0 : ∀ o : Nat, (o = 0 ∨ o = 1) → ∀ (σ : St), f_X7_readsKey_n19 (nI c) σ (nI c) (nI o) = bind2 (f_X7_takesOf (put_a σ 8 c (nI o)) 3) fun v4 s3 => f_X7_readsKey_n29 (nI c) fuel s3 v4 1 := by
    intro o ho σ
    unfold f_X7_readsKey_n19
    rw [if_pos (Inb c 80), lt_q, Cl c, nar_b ho]
  have mk8 : ∀ (σ : St) (o : Nat), st_a (put_a σ 8 c (nI o)) 8 c = nI o ∧ (∀ i, i ≠ c → st_a (put_a σ 8 c (nI o)) 8 i = st_a σ 8 i) ∧ (∀ i, st_a (put_a σ 8 c (nI o)) 7 i = st_a σ 7 i) := by
    intro σ o
    refine ⟨by rw [sa_pa, if_pos rfl, upd_at, if_pos rfl], fun i hi => by rw [sa_pa, if_pos rfl, upd_at, if_neg hi], fun i => by rw [sa_pa, if_neg (by omega)]⟩
  by_cases ht : p < K ∧ g p = 126
  · have ht2 := takes_til hM.1 hM.2.1 hK ht.1 (hg p ht.1) (hM.2.2 p ht.1)
    rw [if_pos ht.2] at ht2
    obtain ⟨a1, a2, a3⟩ := mk8 (put_i M 3 (nI (p + 1))) 1
    have gg : Gr gi3 ga7 M (put_a (put_i M 3 (nI (p + 1))) 8 c (nI 1)) := Gr.tr (t := put_i M 3 (nI (p + 1))) (gr_i rfl) (gr_a (show 7 ≤ 8 by omega))
    refine ⟨1, p + 1, _, Or.inr rfl, Or.inl ⟨rfl, ht.1, ht.2, rfl⟩, hM.go (by rw [si_pa, si_pi, if_pos rfl]) gg, a1, a2, a3, gg, ?_⟩
    unfold f_X7_readsKey
    rw [ht2, bind2_some, if_pos rfl]
    exact n0 1 (Or.inr rfl) _
  · have ht2 : f_X7_takesOf M 2 = some (-1, M) := by
      by_cases e : p = K
      · exact takes_end (by omega) (by omega) hM.1 hM.2.1 hK (by omega) (by omega)
      · have := takes_til hM.1 hM.2.1 hK (show p < K by omega) (hg p (by omega)) (hM.2.2 p (by omega))
        rw [if_neg (fun q => ht ⟨by omega, q⟩)] at this
        exact this
    obtain ⟨a1, a2, a3⟩ := mk8 M 0
    have gg : Gr gi3 ga7 M (put_a M 8 c (nI 0)) := gr_a (show 7 ≤ 8 by omega)
    refine ⟨0, p, _, Or.inl rfl, Or.inr ⟨rfl, rfl, by omega⟩, hM.go (by rw [si_pa]; exact hM.2.1) gg, a1, a2, a3, gg, ?_⟩
    unfold f_X7_readsKey
    rw [ht2, bind2_some, if_neg (by decide)]
    exact n0 0 (Or.inl rfl) _
theorem mnone {M1 : St} {c : Nat} (hc : c < 80) : f_X7_readsKey_n29 (nI c) fuel M1 (-1) 1 = some (0, put_a M1 7 c (-1)) := by
  obtain ⟨j, hj⟩ := fuel_ge (k := 1) (by omega)
  rw [hj]
  show f_X7_readsKey_n29_b (nI c) (f_X7_readsKey_n29 (nI c) j) M1 _ _ = _
  unfold f_X7_readsKey_n29_b f_X7_readsKey_n89
  rw [if_pos (by decide), if_pos (Inb c 80), lt_q, Cl c, if_pos (by decide)]
theorem mone {M1 : St} {c v : Nat} (hc : c < 80) (hv : v < 100000) : f_X7_readsKey_n89 (nI c) M1 (nI v) = some (1, put_a M1 7 c (nI v)) := by
  unfold f_X7_readsKey_n89
  rw [if_pos (Inb c 80), lt_q, Cl c, if_neg (Pos v)]
def KR (K KC : Nat) (g : Nat → Nat) (C M : St) (rc rm : Option (Int32 × St)) : Prop :=
  (∃ (c' : Nat) (key' out' : Nat → Nat) (tC tM : St), rm = some (nI c', tM) ∧ KM tM c' key' out' ∧ MT tM K K g ∧ 2 * c' ≤ K + 1 ∧ (∀ i, i < c' → (out' i = 0 ∨ out' i = 1) ∧ key' i < 100000) ∧ ((K = KC ∧ rc = some (0, tC) ∧ KL tC c' key' out') ∨ (K < KC ∧ rc = some (-1 - nI K, tC))) ∧ Fr frK faK C tC ∧ Gr gi3 ga7 M tM) ∨
  (∃ (e : Nat) (tC tM : St), e ≤ K ∧ rm = some (-1, tM) ∧ st_i tM 3 = nI e ∧ rc = some (-1 - nI e, tC) ∧ Fr frK faK C tC ∧ Gr gi3 ga7 M tM)
theorem KR.tr {K KC : Nat} {g : Nat → Nat} {C M C1 M1 : St} {rc rm : Option (Int32 × St)} (h : KR K KC g C1 M1 rc rm) (f : Fr frK faK C C1) (q : Gr gi3 ga7 M M1) : KR K KC g C M rc rm := by
  rcases h with ⟨c', key', out', tC, tM, a1, a2, a3, a4, a5, a6, a7, a8⟩ | ⟨e, tC, tM, a1, a2, a3, a4, a5, a6⟩
  · exact Or.inl ⟨c', key', out', tC, tM, a1, a2, a3, a4, a5, a6, f.tr a7, q.tr a8⟩
  · exact Or.inr ⟨e, tC, tM, a1, a2, a3, a4, f.tr a5, q.tr a6⟩
theorem keysim {K KC : Nat} {g : Nat → Nat} {x2 : Int32} (h0 : 0 < K) (hK : K ≤ KC) (hE : K = KC ∨ (K < KC ∧ g K = 126 ∧ x2 = 0)) (hT : x2 = 0 → ∀ i, i < K → g i ≠ 126) : ∀ (m p c kC kM : Nat) (C M : St) (key out : Nat → Nat), K - p = m → p ≤ K → TC C KC g → KL C c key out → MT M K p g → KM M c key out → 2 * c ≤ p → (∀ i, i < c → (out i = 0 ∨ out i = 1) ∧ key i < 100000) → KR K KC g C M (f_X1_read_n16 x2 (kC + (KC - p) + 1) C 0 0 0 (nI p)) (f_X7_readsKeys_n15 (kM + (K - p) + 1) M (nI c) 1) := by
  intro m
  induction m using Nat.strongRecOn with
  | ind m ih =>
  intro p c kC kM C M key out hm hp hC hL hM hKM h2c hout
  have hK80 := hC.2.1
  have hgC := hC.2.2.2
  have hg : ∀ i, i < K → g i < 256 := fun i hi => hgC i (by omega)
  have hc80 : c < 80 := by omega
  obtain ⟨o, p1, M1, ho, hop, hM1, m8, m8', m7, g1, hrk⟩ := mstart hM hp (by omega) hg hc80
  have hp1 : p1 ≤ K ∧ p ≤ p1 := by omega
  -- the class after the sign
  have hC1 : ∃ k1, f_X1_read_n16 x2 (kC + (KC - p) + 1) C 0 0 0 (nI p) = f_X1_read_n16 x2 (k1 + (KC - p1) + 1) C (nI 0) (nI 0) (nI o) (nI p1) := by
    rcases hop with ⟨o1, o2, o3, o4⟩ | ⟨o1, o2, o3⟩
    · have hx : ¬ x2 = 0 := fun q => hT q p o2 o3
      refine ⟨kC, ?_⟩
      rw [show kC + (KC - p) + 1 = (kC + (KC - p1) + 1) + 1 by omega, ctil hC (by omega) o3 hx, o1, o4]
      rfl
    · exact ⟨kC, by rw [o1, o2]; rfl⟩
  obtain ⟨k1, hC1⟩ := hC1
  rw [hC1]
  -- the end of the reference's step where no key was read
  have fail : f_X7_takesOf M1 3 = some (-1, M1) → f_X7_readsKeys_n15 (kM + (K - p) + 1) M (nI c) 1 = some (-1, put_a M1 7 c (-1)) := by
    intro e
    show f_X7_readsKeys_n15_b (f_X7_readsKeys_n15 (kM + (K - p))) M _ _ = _
    unfold f_X7_readsKeys_n15_b
    rw [if_neg (by decide), hrk, e, bind2_some, mnone hc80, bind2_some, if_pos rfl]
  have gfail : Gr gi3 ga7 M (put_a M1 7 c (-1)) := g1.tr (gr_a (by omega))
  have noTil : x2 = 0 ∨ (0 : Nat) ≠ 0 ∨ o ≠ 0 ∨ p1 = K ∨ g p1 ≠ 126 := by
    rcases hop with ⟨o1, o2, o3, o4⟩ | ⟨o1, o2, o3⟩
    · exact Or.inr (Or.inr (Or.inl (by omega)))
    · rw [o2]; exact Or.inr (Or.inr (Or.inr o3))
  by_cases e1 : p1 = K
  · have te : f_X7_takesOf M1 3 = some (-1, M1) := takes_end (by omega) (by omega) hM1.1 hM1.2.1 (by omega) (by omega) (by omega)
    refine Or.inr ⟨K, C, _, by omega, fail te, by rw [si_pa, hM1.2.1, e1], ?_, Fr.rf, gfail⟩
    rcases hE with q | ⟨q1, q2, q3⟩
    · rw [e1, q]; exact cend0 hC (by omega) _
    · rw [e1]; exact cerr hC q1 (by omega) ho (Or.inl (by omega)) (fun _ => Or.inl q3) (fun q => by omega) _
  have hp1K : p1 < K := by omega
  have td := takes_dig hM1.1 hM1.2.1 (by omega) hp1K (hg p1 hp1K) (hM1.2.2 p1 hp1K)
  by_cases dg : 48 ≤ g p1 ∧ g p1 ≤ 57
  · rw [if_pos dg] at td
    have hM2 : MT (put_i M1 3 (nI (p1 + 1))) K (p1 + 1) g := hM1.go (by rw [si_pi, if_pos rfl]) put3
    obtain ⟨j, hj⟩ := fuel_ge (k := (K - (p1 + 1)) + 1) (by omega)
    obtain ⟨p2, v2, c2, t, r1, r2, r3, r4, r5, r6, r7, r8, r9, r10⟩ := digs hK hgC (nI c) x2 (nI o) hC (K - (p1 + 1)) (p1 + 1) (g p1 - 48) 1 (k1 + (KC - K)) j (put_i M1 3 (nI (p1 + 1))) (by omega) (by omega) (by omega) (by omega) hM2
    rw [show j + (K - (p1 + 1)) + 1 = j + (K - (p1 + 1) + 1) by omega, ← hj] at r8
    have eC : f_X1_read_n16 x2 (k1 + (KC - p1) + 1) C (nI 0) (nI 0) (nI o) (nI p1) = f_X1_read_n16 x2 (k1 + (KC - p2) + 1) C (nI c2) (nI v2) (nI o) (nI p2) := by
      rw [cdig hC (by omega) dg, show k1 + (KC - p1) = k1 + (KC - K) + (K - (p1 + 1)) + 1 by omega, r7, show k1 + (KC - K) + (K - p2) + 1 = k1 + (KC - p2) + 1 by omega]
    rw [eC]
    have gt2 : Gr gi3 ga7 M t := (g1.tr put3).tr (r10.mono (fun k z => z) (fun k j z => z.elim))
    have gt3 : Gr gi3 ga7 M (put_a t 7 c (nI v2)) := gt2.tr (gr_a (by omega))
    have hM3 : MT (put_a t 7 c (nI v2)) K p2 g := r9.go (by rw [si_pa]; exact r9.2.1) (gr_a (by omega))
    have t8 : ∀ i, st_a t 8 i = st_a M1 8 i := fun i => by rw [r10.2.1 8 i (fun z => z), sa_pi]
    have t7 : ∀ i, st_a t 7 i = st_a M1 7 i := fun i => by rw [r10.2.1 7 i (fun z => z), sa_pi]
    have km3 : KM (put_a t 7 c (nI v2)) (c + 1) (fun i => if i = c then v2 else key i) (fun i => if i = c then o else out i) := by
      intro i hi
      dsimp only
      have e7 : st_a (put_a t 7 c (nI v2)) 7 i = if i = c then nI v2 else st_a M 7 i := by
        rw [sa_pa, if_pos rfl, upd_at, t7, m7]
      have e8 : st_a (put_a t 7 c (nI v2)) 8 i = st_a M1 8 i := by
        rw [sa_pa, if_neg (show ¬ (8 : Nat) = 7 by omega), t8]
      rw [e7, e8]
      by_cases e : i = c
      · rw [if_pos e, if_pos e, if_pos e, e]; exact ⟨rfl, m8⟩
      · rw [if_neg e, if_neg e, if_neg e, m8' i e]; exact hKM i (by omega)
    have hout3 : ∀ i, i < c + 1 → ((fun i => if i = c then o else out i) i = 0 ∨ (fun i => if i = c then o else out i) i = 1) ∧ (fun i => if i = c then v2 else key i) i < 100000 := by
      intro i hi
      dsimp only
      by_cases e : i = c
      · rw [if_pos e, if_pos e]; exact ⟨ho, r5⟩
      · rw [if_neg e, if_neg e]; exact hout i (by omega)
    have stepM : f_X7_readsKeys_n15 (kM + (K - p) + 1) M (nI c) 1 = bind2 (f_X7_takesOf (put_a t 7 c (nI v2)) 4) fun v5 s4 => if v5 = 0 then f_X7_readsKeys_n15 (kM + (K - p)) s4 (nI (c + 1)) 1 else f_X7_readsKeys_n15 (kM + (K - p)) s4 (nI (c + 1)) 0 := by
      show f_X7_readsKeys_n15_b (f_X7_readsKeys_n15 (kM + (K - p))) M _ _ = _
      unfold f_X7_readsKeys_n15_b
      have r8' : f_X7_readsKey_n29 (nI c) fuel (put_i M1 3 (nI (p1 + 1))) (nI (g p1 - 48)) 1 = _ := r8
      rw [if_neg (by decide), hrk, td, bind2_some, r8', mone hc80 r5, bind2_some, if_neg (by decide), lt_q, nI_1]
    rw [stepM]
    have hfin : f_X7_takesOf (put_a t 7 c (nI v2)) 4 = some (-1, put_a t 7 c (nI v2)) → bind2 (f_X7_takesOf (put_a t 7 c (nI v2)) 4) (fun v5 s4 => if v5 = 0 then f_X7_readsKeys_n15 (kM + (K - p)) s4 (nI (c + 1)) 1 else f_X7_readsKeys_n15 (kM + (K - p)) s4 (nI (c + 1)) 0) = if K ≤ p2 then some (nI (c + 1), put_a t 7 c (nI v2)) else some (-1, put_a t 7 c (nI v2)) := by
      intro e
      rw [e, bind2_some, if_neg (by decide), show kM + (K - p) = kM + (K - p - 1) + 1 by omega]
      show f_X7_readsKeys_n15_b (f_X7_readsKeys_n15 (kM + (K - p - 1))) _ _ _ = _
      unfold f_X7_readsKeys_n15_b
      rw [if_pos rfl, hM3.1, hM3.2.1]
      by_cases q : K ≤ p2
      · rw [if_pos (Le2 K p2), if_pos q]
      · rw [if_neg (NLe2 K p2), if_neg q]
    by_cases e2 : p2 = K
    · have te := takes_end (z := 4) (by omega) (by omega) hM3.1 hM3.2.1 (by omega) (by omega) (by omega)
      rw [hfin te, if_pos (by omega)]
      rcases hE with q | ⟨q1, q2, q3⟩
      · obtain ⟨tC, z1, z2, z3⟩ := cend1 (x2 := x2) (v := v2) (o := o) (a := c2) hC (by omega) (by omega) r4 hL hc80 ho (k1 + (KC - p2))
        refine Or.inl ⟨c + 1, _, _, tC, _, rfl, km3, by rw [← e2]; rw [e2] at hM3 ⊢; exact hM3, by omega, hout3, Or.inl ⟨q, ?_, z2⟩, z3, gt3⟩
        rw [e2, q]
        rw [e2, q] at z1
        exact z1
      · refine Or.inl ⟨c + 1, _, _, C, _, rfl, km3, by rw [e2] at hM3; exact hM3, by omega, hout3, Or.inr ⟨q1, ?_⟩, Fr.rf, gt3⟩
        rw [e2]
        exact cerr hC q1 r4 ho (Or.inl (by omega)) (fun _ => Or.inl q3) (fun q => by omega) _
    · have hp2K : p2 < K := by omega
      have tc := takes_com hM3.1 hM3.2.1 (by omega) hp2K (hg p2 hp2K) (hM3.2.2 p2 hp2K)
      by_cases c44 : g p2 = 44
      · rw [if_pos c44] at tc
        obtain ⟨tC, z1, z2, z3⟩ := ccom (x2 := x2) (v := v2) (o := o) (a := c2) hC (by omega) c44 (by omega) r4 hL hc80 ho (k1 + (KC - p2))
        rw [z1, tc, bind2_some, if_pos rfl, show k1 + (KC - p2) = k1 + (KC - (p2 + 1)) + 1 by omega, show kM + (K - p) = kM + (p2 - p) + (K - (p2 + 1)) + 1 by omega]
        have hC3 : TC tC KC g := hC.kp z3.s (by omega) (by omega)
        have hM4 : MT (put_i (put_a t 7 c (nI v2)) 3 (nI (p2 + 1))) K (p2 + 1) g := hM3.go (by rw [si_pi, if_pos rfl]) put3
        exact (ih (K - (p2 + 1)) (by omega) (p2 + 1) (c + 1) k1 (kM + (p2 - p)) tC _ _ _ rfl (by omega) hC3 z2 hM4 km3 (by omega) hout3).tr z3 (gt3.tr put3)
      · rw [if_neg c44] at tc
        rw [hfin tc, if_neg (by omega)]
        refine Or.inr ⟨p2, C, _, by omega, rfl, hM3.2.1, ?_, Fr.rf, gt3⟩
        refine cerr hC (by omega) r4 ho ?_ (fun _ => Or.inr (Or.inl (by omega))) (fun q => absurd q c44) _
        rcases r6 with q | q | q
        · exact absurd q e2
        · exact Or.inr q
        · exact Or.inl q
  · rw [if_neg dg] at td
    refine Or.inr ⟨p1, C, _, by omega, fail td, by rw [si_pa]; exact hM1.2.1, ?_, Fr.rf, gfail⟩
    refine cerr hC (by omega) (by omega) ho (Or.inl dg) (fun q => ?_) (fun _ => rfl) _
    rcases noTil with w | w | w | w | w
    · exact Or.inl w
    · omega
    · exact Or.inr (Or.inr w)
    · exact absurd w e1
    · exact absurd q w
