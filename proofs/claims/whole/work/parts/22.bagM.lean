/-! ===== the reference's files ===== -/
def Gr (I : Nat → Prop) (A : Nat → Nat → Prop) (σ t : St) : Prop := (∀ k, ¬ I k → st_i t k = st_i σ k) ∧ (∀ k j, ¬ A k j → st_a t k j = st_a σ k j) ∧ (∀ k, st_l t k = st_l σ k)
theorem Gr.rf {I : Nat → Prop} {A : Nat → Nat → Prop} {σ : St} : Gr I A σ σ := ⟨fun _ _ => rfl, fun _ _ _ => rfl, fun _ => rfl⟩
theorem Gr.tr {I : Nat → Prop} {A : Nat → Nat → Prop} {σ t u : St} (h : Gr I A σ t) (g : Gr I A t u) : Gr I A σ u := ⟨fun k q => (g.1 k q).trans (h.1 k q), fun k j q => (g.2.1 k j q).trans (h.2.1 k j q), fun k => (g.2.2 k).trans (h.2.2 k)⟩
theorem Gr.mono {I J : Nat → Prop} {A B : Nat → Nat → Prop} {σ t : St} (h : Gr I A σ t) (hI : ∀ k, I k → J k) (hA : ∀ k j, A k j → B k j) : Gr J B σ t := ⟨fun k q => h.1 k (fun z => q (hI k z)), fun k j q => h.2.1 k j (fun z => q (hA k j z)), h.2.2⟩
theorem gr_i {I : Nat → Prop} {A : Nat → Nat → Prop} {σ : St} {k : Nat} {v : Int32} (h : I k) : Gr I A σ (put_i σ k v) := ⟨fun j q => by rw [si_pi, if_neg (fun e : j = k => q (by rw [e]; exact h))], fun _ _ _ => rfl, fun _ => rfl⟩
theorem gr_a {I : Nat → Prop} {A : Nat → Nat → Prop} {σ : St} {k i : Nat} {v : Int32} (h : A k i) : Gr I A σ (put_a σ k i v) := by
  refine ⟨fun _ _ => rfl, fun k2 j q => ?_, fun _ => rfl⟩
  rw [sa_pa]
  by_cases c : k2 = k
  · rw [if_pos c, upd_at, if_neg (fun e : j = i => q (by rw [c, e]; exact h)), c]
  · rw [if_neg c]
abbrev noI : Nat → Prop := fun _ => False
abbrev fA (F : Nat) : Nat → Nat → Prop := fun k j => ((k = 1 ∨ k = 2) ∧ j = F) ∨ (k = 3 ∧ 64 * F ≤ j ∧ j < 64 * F + 64)
/-- the reference's file F -/
def BM (σ : St) (F n q : Nat) (f : Nat → Nat) : Prop := st_a σ 2 F = nI n ∧ st_a σ 1 F = nI q ∧ n < 64 ∧ (∀ i, i < n → st_a σ 3 (64 * F + i) = nI (f i)) ∧ (∀ i, i < n → f i < 16384) ∧ Srt f n
theorem BM.keep {σ t : St} {F n q : Nat} {f : Nat → Nat} {I : Nat → Prop} {A : Nat → Nat → Prop} (h : BM σ F n q f) (hg : Gr I A σ t) (h1 : ¬ A 1 F) (h2 : ¬ A 2 F) (h3 : ∀ i, i < 64 → ¬ A 3 (64 * F + i)) : BM t F n q f := by
  obtain ⟨a1, a2, a3, a4, a5, a6⟩ := h
  exact ⟨by rw [hg.2.1 _ _ h2]; exact a1, by rw [hg.2.1 _ _ h1]; exact a2, a3, fun i hi => by rw [hg.2.1 _ _ (h3 i (by omega))]; exact a4 i hi, a5, a6⟩
theorem c64 (x y : Nat) : (64 : Int32) * nI x + nI y = nI (64 * x + y) := by
  rw [show (64 : Int32) = nI 64 from rfl, pk_mul, nI_add]
theorem bm_at {σ : St} {F n q : Nat} {f : Nat → Nat} (h : BM σ F n q f) (hF : F < 2) {i : Nat} (hi : i < n) : f_X7_at σ (nI F) (nI i) = some (nI (f i)) := by
  have h3 := h.2.2.1
  unfold f_X7_at
  rw [c64, if_pos (in_b_nI (by omega) (by omega)), nI_clamp (by omega), h.2.2.2.1 i hi]
theorem bm_slots {σ : St} {F n q : Nat} {f : Nat → Nat} (h : BM σ F n q f) (hF : F < 2) (hq : q < 31) : f_X7_slots σ (nI F) = some (nI (2 ^ q)) := by
  unfold f_X7_slots
  rw [if_pos (in_b_nI hF (by omega)), nI_clamp (by omega), h.2.1, sh_1 q hq]
theorem bm_rest {σ : St} {F n q P : Nat} {f : Nat → Nat} (h : BM σ F n q f) (hF : F < 2) (hP : st_i σ 5 = nI P) (hq : q ≤ P) : f_X7_rest σ (nI F) = some (nI (P - q)) := by
  unfold f_X7_rest
  rw [if_pos (in_b_nI hF (by omega)), nI_clamp (by omega), h.2.1, hP, pk_sub hq]
theorem s_31 : ∀ n, n < 32 → ((nI n &&& 31).toBitVec.smod 32).toNat = n := by decide +kernel
theorem shr_r {v r : Nat} (hv : v < 2 ^ 31) (hr : r < 32) : nI v >>> (nI r &&& 31) = nI (v / 2 ^ r) := pk_shrN hv _ r (s_31 r hr)
theorem mask_r {v r : Nat} (hv : v < 2 ^ 31) (hr : r < 31) : nI v &&& (((1 : Int32) <<< (nI r &&& 31)) - 1) = nI (v % 2 ^ r) := by
  have h1 : 0 < 2 ^ r := Nat.pow_pos (by omega)
  have h2 : 2 ^ r < 2 ^ 31 := Nat.pow_lt_pow_right (by omega) hr
  rw [sh_1 r hr, nI_sub1 h1]
  exact pk_andN (by omega) r (pk_tn (by omega))
theorem bm_quot {σ : St} {F n q P : Nat} {f : Nat → Nat} (h : BM σ F n q f) (hF : F < 2) (hP : st_i σ 5 = nI P) (hq : q ≤ P) (hP2 : P < 31) {v : Nat} (hv : v < 2 ^ 31) : f_X7_quotientOf σ (nI F) (nI v) = some (nI (v / 2 ^ (P - q))) := by
  unfold f_X7_quotientOf
  rw [bm_rest h hF hP hq, bind_some, shr_r hv (by omega)]
theorem bm_rem {σ : St} {F n q P : Nat} {f : Nat → Nat} (h : BM σ F n q f) (hF : F < 2) (hP : st_i σ 5 = nI P) (hq : q ≤ P) (hP2 : P < 31) {v : Nat} (hv : v < 2 ^ 31) : f_X7_remainderOf σ (nI F) (nI v) = some (nI (v % 2 ^ (P - q))) := by
  unfold f_X7_remainderOf
  rw [bm_rest h hF hP hq, bind_some, mask_r hv (by omega)]
theorem flag_0 (σ : St) : f_X7_flag σ 0 = 0 := rfl
theorem flag_1 (σ : St) : f_X7_flag σ 1 = 1 := rfl
theorem bm_count_loop {σ : St} {F n q : Nat} {f : Nat → Nat} (h : BM σ F n q f) (hF : F < 2) {v : Nat} (hv : v < 2 ^ 30) : ∀ (d i k : Nat), i + d = n → f_X7_countOf_n5 σ (nI F) (nI v) (k + (d + 1)) (nI (cnt f i v)) (nI i) = some (nI (cnt f n v)) := by
  obtain ⟨h1, h2, h3, h4, h5, h6⟩ := id h
  intro d
  induction d with
  | zero =>
    intro i k e
    have : i = n := by omega
    subst this
    show f_X7_countOf_n5_b σ (nI F) (nI v) (f_X7_countOf_n5 σ (nI F) (nI v) k) (nI (cnt f i v)) (nI i) = _
    unfold f_X7_countOf_n5_b
    rw [if_pos (in_b_nI hF (by omega)), nI_clamp (by omega), h1, if_pos (nI_le (Nat.le_refl _) (by omega))]
  | succ d ih =>
    intro i k e
    show f_X7_countOf_n5_b σ (nI F) (nI v) (f_X7_countOf_n5 σ (nI F) (nI v) (k + (d + 1))) (nI (cnt f i v)) (nI i) = _
    unfold f_X7_countOf_n5_b f_X7_countOf_n33
    rw [if_pos (in_b_nI hF (by omega)), nI_clamp (by omega), h1, if_neg (nI_ge (by omega) (by omega)), bm_at h hF (by omega), bind_some]
    have hb := h5 i (by omega)
    have hst := lb_step (f := f) (n := i) (v := v)
    have e1 : lb f (i + 1) (v + 1) = lb f i (v + 1) + (if f i < v + 1 then 1 else 0) := rfl
    have e2 : lb f (i + 1) v = lb f i v + (if f i < v then 1 else 0) := rfl
    by_cases c : f i = v
    · have e3 : cnt f (i + 1) v = cnt f i v + 1 := by
        unfold cnt
        rw [e1, e2, if_pos (by omega), if_neg (by omega)]
        omega
      rw [c, if_pos rfl, flag_1, lt_eq, lt_eq, nI_1, nI_1, ← e3]
      exact ih (i + 1) k (by omega)
    · have e3 : cnt f (i + 1) v = cnt f i v := by
        unfold cnt
        rw [e1, e2]
        by_cases c2 : f i < v
        · rw [if_pos (by omega), if_pos c2]; omega
        · rw [if_neg (by omega), if_neg c2]; rfl
      rw [if_neg (fun z => c (nI_inj (by omega) (by omega) z)), flag_0, lt_eq, lt_eq, Int32.add_zero, nI_1, ← e3]
      exact ih (i + 1) k (by omega)
theorem bm_count {σ : St} {F n q : Nat} {f : Nat → Nat} (h : BM σ F n q f) (hF : F < 2) {v : Nat} (hv : v < 2 ^ 30) : f_X7_countOf σ (nI F) (nI v) = some (nI (cnt f n v)) := by
  have h3 := h.2.2.1
  unfold f_X7_countOf
  obtain ⟨j, hj⟩ := fuel_ge (k := n + 1) (by omega)
  rw [hj]
  exact bm_count_loop h hF hv n 0 j (by omega)
theorem bm_comes_end {σ : St} {F n p v : Nat} (hF : F < 2) (hp : p < 64) (hn : st_a σ 2 F = nI n) : ∃ t : St, f_X7_comes_n48 (nI F) (nI v) σ (nI p) = some t ∧ st_a t 2 F = nI (n + 1) ∧ st_a t 1 F = st_a σ 1 F ∧ (∀ j, j < 64 → st_a t 3 (64 * F + j) = if j = p then nI v else st_a σ 3 (64 * F + j)) ∧ Gr noI (fA F) σ t := by
  unfold f_X7_comes_n48
  rw [c64, if_pos (in_b_nI (by omega) (by omega)), lt_eq, if_pos (in_b_nI hF (by omega)), if_pos (in_b_nI hF (by omega)), lt_eq, nI_clamp (by omega), nI_clamp (by omega), sa_pa, if_neg (show ¬ 2 = 3 by omega), hn, nI_1]
  refine ⟨_, rfl, ?_, ?_, fun j hj => ?_, (gr_a (Or.inr ⟨rfl, by omega, by omega⟩)).tr (gr_a (Or.inl ⟨Or.inr rfl, rfl⟩))⟩
  · rw [sa_pa, if_pos rfl, upd_at, if_pos rfl]
  · rw [sa_pa, if_neg (by omega), sa_pa, if_neg (by omega)]
  · rw [sa_pa, if_neg (by omega), sa_pa, if_pos rfl, upd_at]
    by_cases c : j = p
    · rw [if_pos (by omega), if_pos c]
    · rw [if_neg (by omega), if_neg c]
theorem bm_comes_loop {F n p v : Nat} {f : Nat → Nat} (hF : F < 2) (hlo : ∀ i, i < n → (f i < v + 1 ↔ i < p)) (hf : ∀ i, i < n → f i < 16384) (hv : v < 16384) : ∀ (d k : Nat) (σ : St), p + d ≤ n → n < 63 → st_a σ 2 F = nI n → (∀ i, i < p + d → st_a σ 3 (64 * F + i) = nI (f i)) → ∃ t : St, f_X7_comes_n7 (nI F) (nI v) (k + (d + 1)) σ (nI (p + d)) = some t ∧ st_a t 2 F = nI (n + 1) ∧ st_a t 1 F = st_a σ 1 F ∧ (∀ j, j < 64 → st_a t 3 (64 * F + j) = if j = p then nI v else if p < j ∧ j ≤ p + d then st_a σ 3 (64 * F + (j - 1)) else st_a σ 3 (64 * F + j)) ∧ Gr noI (fA F) σ t := by
  intro d
  induction d with
  | zero =>
    intro k σ hd hn h2 h4
    show ∃ t, f_X7_comes_n7_b (nI F) (nI v) (f_X7_comes_n7 (nI F) (nI v) k) σ (nI p) = _ ∧ _
    unfold f_X7_comes_n7_b
    obtain ⟨t, g1, g2, g3, g4, g5⟩ := bm_comes_end (v := v) hF (show p < 64 by omega) h2
    have hfin : ∀ j, j < 64 → st_a t 3 (64 * F + j) = if j = p then nI v else if p < j ∧ j ≤ p + 0 then st_a σ 3 (64 * F + (j - 1)) else st_a σ 3 (64 * F + j) := by
      intro j hj
      rw [g4 j hj, if_neg (show ¬ (p < j ∧ j ≤ p + 0) by omega)]
    rcases Nat.eq_zero_or_pos p with c | c
    · rw [if_pos (by rw [c]; decide), g1]
      exact ⟨t, rfl, g2, g3, hfin, g5⟩
    · have ha : f_X7_at σ (nI F) (nI (p - 1)) = some (nI (f (p - 1))) := by
        unfold f_X7_at
        rw [c64, if_pos (in_b_nI (by omega) (by omega)), nI_clamp (by omega), h4 (p - 1) (by omega)]
      have hl := (hlo (p - 1) (by omega)).2 (by omega)
      rw [if_neg (nI_nle c (by omega)), nI_sub1 c, ha, bind_some, if_pos (nI_le (by omega) (by omega)), g1]
      exact ⟨t, rfl, g2, g3, hfin, g5⟩
  | succ d ih =>
    intro k σ hd hn h2 h4
    show ∃ t, f_X7_comes_n7_b (nI F) (nI v) (f_X7_comes_n7 (nI F) (nI v) (k + (d + 1))) σ (nI (p + (d + 1))) = _ ∧ _
    unfold f_X7_comes_n7_b
    have ha : f_X7_at σ (nI F) (nI (p + (d + 1) - 1)) = some (nI (f (p + d))) := by
      unfold f_X7_at
      rw [c64, if_pos (in_b_nI (by omega) (by omega)), nI_clamp (by omega), show p + (d + 1) - 1 = p + d by omega, h4 (p + d) (by omega)]
    have hl := hlo (p + d) (by omega)
    have hb := hf (p + d) (by omega)
    have e1 : nI (p + (d + 1)) + (-1) = nI (p + d) := pk_m1 (p + d)
    rw [if_neg (nI_nle (by omega) (by omega)), nI_sub1 (by omega), ha, bind_some, if_neg (nI_ge (by omega) (by omega)), bind_some, c64, if_pos (in_b_nI (by omega) (by omega)), lt_eq, lt_eq, nI_clamp (by omega), e1]
    have hg : Gr noI (fA F) σ (put_a σ 3 (64 * F + (p + (d + 1))) (nI (f (p + d)))) := gr_a (Or.inr ⟨rfl, by omega, by omega⟩)
    obtain ⟨t, g1, g2, g3, g4, g5⟩ := ih k (put_a σ 3 (64 * F + (p + (d + 1))) (nI (f (p + d)))) (by omega) hn (by rw [sa_pa, if_neg (by omega)]; exact h2) (fun i hi => by
      rw [sa_pa, if_pos rfl, upd_at, if_neg (by omega)]
      exact h4 i (by omega))
    refine ⟨t, g1, g2, by rw [g3, sa_pa, if_neg (by omega)], fun j hj => ?_, hg.tr g5⟩
    rw [g4 j hj]
    simp only [sa_pa, if_true, upd_at]
    by_cases c : j = p
    · rw [if_pos c, if_pos c]
    · rw [if_neg c, if_neg c]
      by_cases c2 : p < j ∧ j ≤ p + d
      · rw [if_pos c2, if_neg (by omega), if_pos (by omega)]
      · rw [if_neg c2]
        by_cases c3 : j = p + (d + 1)
        · rw [if_pos (by omega), if_pos (by omega), c3, show p + (d + 1) - 1 = p + d by omega, h4 (p + d) (by omega)]
        · rw [if_neg (by omega), if_neg (by omega)]
theorem bm_comes {σ : St} {F n q : Nat} {f : Nat → Nat} (h : BM σ F n q f) (hF : F < 2) (hn : n + 1 < 64) {v : Nat} (hv : v < 16384) : ∃ t : St, f_X7_comes σ (nI F) (nI v) = some t ∧ BM t F (n + 1) q (ins f (lb f n (v + 1)) v) ∧ Gr noI (fA F) σ t := by
  obtain ⟨h1, h2, h3, h4, h5, h6⟩ := id h
  have hle := lb_le f n (v + 1)
  unfold f_X7_comes
  rw [if_pos (in_b_nI hF (by omega)), lt_eq, nI_clamp (by omega), h1]
  obtain ⟨j, hj⟩ := fuel_ge (k := (n - lb f n (v + 1)) + 1) (by omega)
  rw [hj]
  obtain ⟨t, g1, g2, g3, g4, g5⟩ := bm_comes_loop (v := v) hF (lb_iff h6 (v + 1)) h5 hv (n - lb f n (v + 1)) j σ (by omega) (by omega) h1 (fun i hi => h4 i (by omega))
  rw [show lb f n (v + 1) + (n - lb f n (v + 1)) = n by omega] at g1 g4
  refine ⟨t, g1, ⟨g2, by rw [g3]; exact h2, hn, fun i hi => ?_, fun i hi => ?_, ins_srt h6⟩, g5⟩
  · rw [g4 i (by omega)]
    simp only [ins]
    by_cases c : i = lb f n (v + 1)
    · rw [if_pos c, if_neg (by omega), if_pos c]
    · rw [if_neg c]
      by_cases c2 : i < lb f n (v + 1)
      · rw [if_neg (by omega), if_pos c2, h4 i (by omega)]
      · rw [if_pos (by omega), if_neg c2, if_neg c, h4 (i - 1) (by omega)]
  · simp only [ins]
    split
    · exact h5 i (by omega)
    · split
      · exact hv
      · exact h5 (i - 1) (by omega)
theorem bm_goes_shift {F m : Nat} {x : Int32} (hF : F < 2) (hm : m < 63) : ∀ (d i k : Nat) (σ : St), i + d = m → st_a σ 2 F = nI m → ∃ t : St, f_X7_goes_n53 (nI F) x (k + (d + 1)) σ (nI i) = some (1, t) ∧ st_a t 2 F = nI m ∧ st_a t 1 F = st_a σ 1 F ∧ (∀ j, j < 64 → st_a t 3 (64 * F + j) = if i ≤ j ∧ j < m then st_a σ 3 (64 * F + (j + 1)) else st_a σ 3 (64 * F + j)) ∧ Gr noI (fA F) σ t := by
  intro d
  induction d with
  | zero =>
    intro i k σ e h2
    show ∃ t, f_X7_goes_n53_b (nI F) x (f_X7_goes_n53 (nI F) x k) σ (nI i) = _ ∧ _
    unfold f_X7_goes_n53_b
    rw [if_pos (in_b_nI hF (by omega)), nI_clamp (by omega), h2, if_pos (nI_le (by omega) (by omega))]
    exact ⟨σ, rfl, h2, rfl, fun j hj => by rw [if_neg (by omega)], Gr.rf⟩
  | succ d ih =>
    intro i k σ e h2
    show ∃ t, f_X7_goes_n53_b (nI F) x (f_X7_goes_n53 (nI F) x (k + (d + 1))) σ (nI i) = _ ∧ _
    unfold f_X7_goes_n53_b f_X7_at
    rw [if_pos (in_b_nI hF (by omega)), nI_clamp (by omega), h2, if_neg (nI_ge (by omega) (by omega)), nI_1, c64, c64, if_pos (in_b_nI (by omega) (by omega)), bind_some, if_pos (in_b_nI (by omega) (by omega)), lt_eq, lt_eq, nI_clamp (by omega), nI_clamp (by omega)]
    have hg : Gr noI (fA F) σ (put_a σ 3 (64 * F + i) (st_a σ 3 (64 * F + (i + 1)))) := gr_a (Or.inr ⟨rfl, by omega, by omega⟩)
    obtain ⟨t, g1, g2, g3, g4, g5⟩ := ih (i + 1) k (put_a σ 3 (64 * F + i) (st_a σ 3 (64 * F + (i + 1)))) (by omega) (by rw [sa_pa, if_neg (by omega)]; exact h2)
    refine ⟨t, g1, g2, by rw [g3, sa_pa, if_neg (by omega)], fun j hj => ?_, hg.tr g5⟩
    rw [g4 j hj]
    simp only [sa_pa, if_true, upd_at]
    by_cases c : i + 1 ≤ j ∧ j < m
    · rw [if_pos c, if_neg (by omega), if_pos (by omega)]
    · rw [if_neg c]
      by_cases c2 : j = i
      · rw [if_pos (by omega), if_pos (by omega), c2]
      · rw [if_neg (by omega), if_neg (by omega)]
theorem bm_goes_find {σ : St} {F n q : Nat} {f : Nat → Nat} (h : BM σ F n q f) (hF : F < 2) {v p : Nat} (hv : v < 2 ^ 30) (hp : p ≤ n) (hno : ∀ i, i < p → f i ≠ v) (hyes : p < n → f p = v) : ∀ (d i k : Nat), i + d = p → f_X7_goes_n2 (nI F) (nI v) (k + (d + 1)) σ (nI i) = f_X7_goes_n28 (nI F) (nI v) σ (nI p) := by
  obtain ⟨h1, h2, h3, h4, h5, h6⟩ := id h
  intro d
  induction d with
  | zero =>
    intro i k e
    have : i = p := by omega
    subst this
    show f_X7_goes_n2_b (nI F) (nI v) (f_X7_goes_n2 (nI F) (nI v) k) σ (nI i) = _
    unfold f_X7_goes_n2_b
    rw [if_pos (in_b_nI hF (by omega)), nI_clamp (by omega), h1]
    by_cases c : n ≤ i
    · rw [if_pos (nI_le c (by omega))]
    · rw [if_neg (nI_ge (by omega) (by omega)), bm_at h hF (by omega), bind_some, hyes (by omega), if_pos rfl]
  | succ d ih =>
    intro i k e
    show f_X7_goes_n2_b (nI F) (nI v) (f_X7_goes_n2 (nI F) (nI v) (k + (d + 1))) σ (nI i) = _
    unfold f_X7_goes_n2_b
    have hb := h5 i (by omega)
    rw [if_pos (in_b_nI hF (by omega)), nI_clamp (by omega), h1, if_neg (nI_ge (by omega) (by omega)), bm_at h hF (by omega), bind_some, if_neg (fun z => hno i (by omega) (nI_inj (by omega) (by omega) z)), lt_eq, nI_1]
    exact ih (i + 1) k (by omega)
theorem bm_goes {σ : St} {F n q : Nat} {f : Nat → Nat} (h : BM σ F n q f) (hF : F < 2) {v : Nat} (hv : v < 2 ^ 30) : (cnt f n v = 0 ∧ f_X7_goes σ (nI F) (nI v) = some (0, σ)) ∨ (0 < cnt f n v ∧ ∃ t : St, f_X7_goes σ (nI F) (nI v) = some (1, t) ∧ BM t F (n - 1) q (del f (lb f n v)) ∧ Gr noI (fA F) σ t) := by
  obtain ⟨h1, h2, h3, h4, h5, h6⟩ := id h
  have hiff := lb_iff h6 v
  have hle := lb_le f n v
  unfold f_X7_goes
  rcases Nat.eq_zero_or_pos (cnt f n v) with c | c
  · left
    refine ⟨c, ?_⟩
    have hno : ∀ i, i < n → f i ≠ v := by
      intro i hi e
      have a := hiff i hi
      have b := lb_iff h6 (v + 1) i hi
      unfold cnt at c
      omega
    obtain ⟨j, hj⟩ := fuel_ge (k := n + 1) (by omega)
    have e0 := bm_goes_find h hF hv (Nat.le_refl n) hno (fun q => absurd q (by omega)) n 0 j (by omega)
    rw [show nI 0 = (0 : Int32) from rfl] at e0
    rw [hj, e0]
    unfold f_X7_goes_n28
    rw [if_pos (in_b_nI hF (by omega)), nI_clamp (by omega), h1, if_pos rfl]
  · right
    refine ⟨c, ?_⟩
    have hc := (cnt_pos h6).1 c
    obtain ⟨j, hj⟩ := fuel_ge (k := lb f n v + 1) (by omega)
    have e0 := bm_goes_find h hF hv hle (fun i hi e => by have := (hiff i (by omega)).2 hi; omega) (fun _ => hc.2) (lb f n v) 0 j (by omega)
    rw [show nI 0 = (0 : Int32) from rfl] at e0
    rw [hj, e0]
    unfold f_X7_goes_n28
    rw [if_pos (in_b_nI hF (by omega)), nI_clamp (by omega), h1, if_neg (fun z => by have := nI_inj (by omega) (by omega) z; omega), if_pos (in_b_nI hF (by omega)), if_pos (in_b_nI hF (by omega)), lt_eq, nI_sub1 (by omega)]
    obtain ⟨j2, hj2⟩ := fuel_ge (k := (n - 1 - lb f n v) + 1) (by omega)
    rw [hj2]
    have hg : Gr noI (fA F) σ (put_a σ 2 F (nI (n - 1))) := gr_a (Or.inl ⟨Or.inr rfl, rfl⟩)
    obtain ⟨t, g1, g2, g3, g4, g5⟩ := bm_goes_shift (m := n - 1) (x := nI v) hF (by omega) (n - 1 - lb f n v) (lb f n v) j2 (put_a σ 2 F (nI (n - 1))) (by omega) (by rw [sa_pa, if_pos rfl, upd_at, if_pos rfl])
    refine ⟨t, g1, ⟨g2, by rw [g3, sa_pa, if_neg (by omega)]; exact h2, by omega, fun i hi => ?_, fun i hi => ?_, del_srt h6⟩, hg.tr g5⟩
    · rw [g4 i (by omega)]
      simp only [del, sa_pa]
      rw [if_neg (show ¬ 3 = 2 by omega)]
      by_cases c2 : i < lb f n v
      · rw [if_neg (by omega), if_pos c2, h4 i (by omega)]
      · rw [if_pos (by omega), if_neg c2, h4 (i + 1) (by omega)]
    · simp only [del]
      split
      · exact h5 i (by omega)
      · exact h5 (i + 1) (by omega)
theorem bm_unlike_loop {σ : St} {F n q : Nat} {f : Nat → Nat} (h : BM σ F n q f) (hF : F < 2) : ∀ (d i k : Nat), i + d = n → f_X7_unlike_n4 σ (nI F) (k + (d + 1)) (nI (ul f i)) (nI i) = some (nI (ul f n)) := by
  obtain ⟨h1, h2, h3, h4, h5, h6⟩ := id h
  intro d
  induction d with
  | zero =>
    intro i k e
    have : i = n := by omega
    subst this
    show f_X7_unlike_n4_b σ (nI F) (f_X7_unlike_n4 σ (nI F) k) (nI (ul f i)) (nI i) = _
    unfold f_X7_unlike_n4_b
    rw [if_pos (in_b_nI hF (by omega)), nI_clamp (by omega), h1, if_pos (nI_le (Nat.le_refl _) (by omega))]
  | succ d ih =>
    intro i k e
    show f_X7_unlike_n4_b σ (nI F) (f_X7_unlike_n4 σ (nI F) (k + (d + 1))) (nI (ul f i)) (nI i) = _
    unfold f_X7_unlike_n4_b f_X7_unlike_n36 f_X7_unlike_n41
    rw [if_pos (in_b_nI hF (by omega)), nI_clamp (by omega), h1, if_neg (nI_ge (by omega) (by omega))]
    have hstep : ul f (i + 1) = ul f i + (if i = 0 ∨ f (i - 1) ≠ f i then 1 else 0) := rfl
    rcases Nat.eq_zero_or_pos i with c | c
    · have e2 : ul f (i + 1) = ul f i + 1 := by rw [hstep, if_pos (Or.inl c)]
      rw [if_pos (show nI i = 0 by rw [c]; rfl), lt_eq, lt_eq, flag_1, nI_1, nI_1, ← e2]
      exact ih (i + 1) k (by omega)
    · have hb1 := h5 i (by omega)
      have hb2 := h5 (i - 1) (by omega)
      rw [if_neg (nI_ne0 c (by omega)), nI_sub1 c, bm_at h hF (by omega), bind_some, bm_at h hF (by omega), bind_some]
      by_cases d2 : f (i - 1) = f i
      · have e2 : ul f (i + 1) = ul f i := by rw [hstep, if_neg (by omega)]; rfl
        rw [d2, if_pos rfl, lt_eq, lt_eq, flag_0, Int32.add_zero, nI_1, ← e2]
        exact ih (i + 1) k (by omega)
      · have e2 : ul f (i + 1) = ul f i + 1 := by rw [hstep, if_pos (Or.inr d2)]
        rw [if_neg (fun z => d2 (nI_inj (by omega) (by omega) z)), lt_eq, lt_eq, flag_1, nI_1, nI_1, ← e2]
        exact ih (i + 1) k (by omega)
theorem bm_unlike {σ : St} {F n q : Nat} {f : Nat → Nat} (h : BM σ F n q f) (hF : F < 2) : f_X7_unlike σ (nI F) = some (nI (ul f n)) := by
  have h3 := h.2.2.1
  unfold f_X7_unlike
  obtain ⟨j, hj⟩ := fuel_ge (k := n + 1) (by omega)
  rw [hj]
  exact bm_unlike_loop h hF n 0 j (by omega)
theorem lg_lt {x y : Int64} : lg_cmp x y < 0 ↔ x < y := by
  unfold lg_cmp
  by_cases c : y < x
  · rw [if_pos c]
    have : ¬ x < y := by
      rw [Int64.lt_iff_toInt_lt] at c ⊢
      omega
    simp [this]
    try decide
  · rw [if_neg c]
    by_cases d : x = y
    · rw [if_pos d]
      simp [d, Int64.lt_irrefl]
    · rw [if_neg d]
      have : x < y := by
        rw [Int64.lt_iff_toInt_lt] at c ⊢
        have : x.toInt ≠ y.toInt := fun e => d (Int64.toInt_inj.mp e)
        omega
      simp [this]
      try decide
theorem lg_gt {x y : Int64} : 0 < lg_cmp x y ↔ y < x := by
  unfold lg_cmp
  by_cases c : y < x
  · rw [if_pos c]
    simp [c]
    try decide
  · rw [if_neg c]
    by_cases d : x = y
    · rw [if_pos d]
      simp [c]
    · rw [if_neg d]
      simp [c]
      try decide
theorem in_eq (σ : St) (x y z : Int32) : f_X7_in σ x.toInt64 y.toInt64 z.toInt64 = if y ≤ x ∧ x ≤ z then 1 else 0 := by
  have w : ∀ a b : Int32, a.toInt64 < b.toInt64 ↔ a < b := by
    intro a b
    rw [Int64.lt_iff_toInt_lt, Int32.lt_iff_toInt_lt, Int32.toInt_toInt64, Int32.toInt_toInt64]
  unfold f_X7_in
  by_cases c : x < y
  · rw [if_pos (lg_lt.2 ((w _ _).2 c)), if_neg]
    rintro ⟨h, -⟩
    rw [Int32.lt_iff_toInt_lt] at c
    rw [Int32.le_iff_toInt_le] at h
    omega
  · rw [if_neg (fun q => c ((w _ _).1 (lg_lt.1 q)))]
    by_cases d : z < x
    · rw [if_pos (lg_gt.2 ((w _ _).2 d)), if_neg]
      rintro ⟨-, h⟩
      rw [Int32.lt_iff_toInt_lt] at d
      rw [Int32.le_iff_toInt_le] at h
      omega
    · rw [if_neg (fun q => d ((w _ _).1 (lg_gt.1 q))), if_pos]
      rw [Int32.lt_iff_toInt_lt] at c d
      rw [Int32.le_iff_toInt_le, Int32.le_iff_toInt_le]
      omega
