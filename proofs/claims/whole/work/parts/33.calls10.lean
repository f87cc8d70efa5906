/-! counts; common -/
theorem lb_ins {g : Nat → Nat} {m v : Nat} (hs : Srt g m) (w : Nat) : lb (ins g (lb g m (v + 1)) v) (m + 1) w = lb g m w + if v < w then 1 else 0 := by
  have h1 := lb_iff hs w
  have h2 := lb_iff hs (v + 1)
  have l1 := lb_le g m w
  have l2 := lb_le g m (v + 1)
  have mono : v < w → lb g m (v + 1) ≤ lb g m w := fun h => lb_mono (by omega)
  have mono2 : ¬ v < w → lb g m w ≤ lb g m (v + 1) := fun h => lb_mono (by omega)
  refine lb_uniq (ins_srt hs) (by split <;> omega) (fun i hi => ?_)
  unfold ins
  generalize lb g m (v + 1) = p at *
  generalize lb g m w = r at *
  by_cases c : v < w
  · rw [if_pos c]
    have := mono c
    by_cases a : i < p
    · rw [if_pos a]; have := h1 i (by omega); omega
    · rw [if_neg a]
      by_cases b : i = p
      · rw [if_pos b]; omega
      · rw [if_neg b]; have := h1 (i - 1) (by omega); omega
  · rw [if_neg c]
    have := mono2 c
    by_cases a : i < p
    · rw [if_pos a]; have := h1 i (by omega); omega
    · rw [if_neg a]
      by_cases b : i = p
      · rw [if_pos b]; omega
      · rw [if_neg b]; have := h1 (i - 1) (by omega); omega
theorem cnt_ins {g : Nat → Nat} {m v : Nat} (hs : Srt g m) (w : Nat) : cnt (ins g (lb g m (v + 1)) v) (m + 1) w = cnt g m w + if w = v then 1 else 0 := by
  have hst := lb_step (f := g) (n := m) (v := w)
  unfold cnt
  rw [lb_ins hs, lb_ins hs]
  by_cases c : w = v
  · rw [if_pos c, if_pos (by omega), if_neg (by omega)]; omega
  · rw [if_neg c]
    by_cases d : v < w
    · rw [if_pos (by omega), if_pos d]; omega
    · rw [if_neg (by omega), if_neg d]; omega
theorem lb_del {f : Nat → Nat} {n v : Nat} (hs : Srt f n) (hc : 0 < cnt f n v) (w : Nat) : lb (del f (lb f n v)) (n - 1) w = lb f n w - if v < w then 1 else 0 := by
  obtain ⟨c1, c2⟩ := (cnt_pos hs).1 hc
  have h1 := lb_iff hs w
  have l1 := lb_le f n w
  have mono : v < w → lb f n v < lb f n w := fun h => (h1 (lb f n v) c1).1 (by omega)
  have mono2 : ¬ v < w → lb f n w ≤ lb f n v := fun h => lb_mono (by omega)
  refine lb_uniq (del_srt hs) (by split <;> omega) (fun i hi => ?_)
  unfold del
  generalize lb f n v = p at *
  generalize lb f n w = r at *
  by_cases c : v < w
  · rw [if_pos c]
    have := mono c
    by_cases a : i < p
    · rw [if_pos a]; have := h1 i (by omega); omega
    · rw [if_neg a]; have := h1 (i + 1) (by omega); omega
  · rw [if_neg c]
    have := mono2 c
    by_cases a : i < p
    · rw [if_pos a]; have := h1 i (by omega); omega
    · rw [if_neg a]; have := h1 (i + 1) (by omega); omega
theorem cnt_del {f : Nat → Nat} {n v : Nat} (hs : Srt f n) (hc : 0 < cnt f n v) (w : Nat) : cnt (del f (lb f n v)) (n - 1) w = cnt f n w - if w = v then 1 else 0 := by
  have hst := lb_step (f := f) (n := n) (v := w)
  have h1 := lb_iff hs w
  obtain ⟨c1, c2⟩ := (cnt_pos hs).1 hc
  have mono : v < w → lb f n v < lb f n w := fun h => (h1 (lb f n v) c1).1 (by omega)
  unfold cnt
  rw [lb_del hs hc, lb_del hs hc]
  by_cases c : w = v
  · rw [if_pos c, if_pos (by omega), if_neg (by omega)]; omega
  · rw [if_neg c]
    by_cases d : v < w
    · have := mono d
      rw [if_pos (by omega), if_pos d]; omega
    · rw [if_neg (by omega), if_neg d]; omega
theorem lb_0 (f : Nat → Nat) : ∀ n, lb f n 0 = 0 := by
  intro n
  induction n with
  | zero => rfl
  | succ n ih => simp only [lb]; rw [ih, if_neg (by omega)]
theorem lb_cnt_eq {f g : Nat → Nat} {n m : Nat} (h : ∀ w, cnt f n w = cnt g m w) : ∀ v, lb f n v = lb g m v := by
  intro v
  induction v with
  | zero => rw [lb_0, lb_0]
  | succ v ih =>
    have := h v
    have a := lb_step (f := f) (n := n) (v := v)
    have b := lb_step (f := g) (n := m) (v := v)
    unfold cnt at this
    omega
theorem lb_top {f : Nat → Nat} {n B : Nat} (h : ∀ i, i < n → f i < B) : lb f n B = n := by
  induction n with
  | zero => rfl
  | succ n ih => simp only [lb]; rw [ih (fun i hi => h i (by omega)), if_pos (h n (by omega))]
theorem same_of_cnt {f g : Nat → Nat} {n m B : Nat} (hf : Srt f n) (hg : Srt g m) (bf : ∀ i, i < n → f i < B) (bg : ∀ i, i < m → g i < B) (h : ∀ w, cnt f n w = cnt g m w) : n = m ∧ ∀ i, i < n → f i = g i := by
  have e := lb_cnt_eq h
  have hn : n = m := by have := e B; rw [lb_top bf, lb_top bg] at this; exact this
  refine ⟨hn, fun i hi => ?_⟩
  have a1 := lb_iff hf (f i + 1) i hi
  have a2 := lb_iff hg (f i + 1) i (by omega)
  have a3 := lb_iff hf (g i + 1) i hi
  have a4 := lb_iff hg (g i + 1) i (by omega)
  rw [e] at a1 a3
  omega
/-- the i-th print of file 0 is shared with file 1 -/
def Sh (f0 : Nat → Nat) (n0 : Nat) (f1 : Nat → Nat) (n1 i : Nat) : Prop := i - lb f0 n0 (f0 i) < cnt f1 n1 (f0 i)
def shb (f0 : Nat → Nat) (n0 : Nat) (f1 : Nat → Nat) (n1 i : Nat) : Nat := if i - lb f0 n0 (f0 i) < cnt f1 n1 (f0 i) then 1 else 0
def SS (f0 : Nat → Nat) (n0 : Nat) (f1 : Nat → Nat) (n1 : Nat) : Nat → Nat
  | 0 => 0
  | i + 1 => SS f0 n0 f1 n1 i + shb f0 n0 f1 n1 i
def DD (f0 : Nat → Nat) (n0 : Nat) (f1 : Nat → Nat) (n1 : Nat) : Nat → Nat
  | 0 => 0
  | i + 1 => DD f0 n0 f1 n1 i + if i - lb f0 n0 (f0 i) = 0 then shb f0 n0 f1 n1 i else 0
theorem shb_01 (f0 : Nat → Nat) (n0 : Nat) (f1 : Nat → Nat) (n1 i : Nat) : shb f0 n0 f1 n1 i = 0 ∨ shb f0 n0 f1 n1 i = 1 := by
  unfold shb; split
  · exact Or.inr rfl
  · exact Or.inl rfl
theorem cnt_le (f : Nat → Nat) (n v : Nat) : cnt f n v ≤ n := by
  have := lb_le f n (v + 1)
  unfold cnt; omega
theorem shared_C {C : St} {n0 q0 n1 q1 : Nat} {f0 f1 : Nat → Nat} (h0 : BC C 0 n0 q0 f0) (h1 : BC C 1 n1 q1 f1) {i : Nat} (hi : i < n0) : f_X6_isShared C (nI i) = some (nI (shb f0 n0 f1 n1 i)) := by
  have hb := h0.2.2.2.2.1 i hi
  have hn := h0.2.2.1
  have hn1 := h1.2.2.1
  have hc := cnt_le f1 n1 (f0 i)
  unfold f_X6_isShared shb
  rw [bc_rank h0 hi, bind_some, bc_at h0 hi, bind_some, bc_times h1 (by omega), bind_some]
  by_cases c : i - lb f0 n0 (f0 i) < cnt f1 n1 (f0 i)
  · rw [if_neg (NLe2 (cnt f1 n1 (f0 i)) (i - lb f0 n0 (f0 i))), if_pos c]; rfl
  · rw [if_pos (Le2 (cnt f1 n1 (f0 i)) (i - lb f0 n0 (f0 i))), if_neg c]; rfl
theorem SS_le (f0 : Nat → Nat) (n0 : Nat) (f1 : Nat → Nat) (n1 : Nat) : ∀ i, SS f0 n0 f1 n1 i ≤ i := by
  intro i
  induction i with
  | zero => exact Nat.le_refl _
  | succ i ih => simp only [SS]; have := shb_01 f0 n0 f1 n1 i; omega
theorem DD_le (f0 : Nat → Nat) (n0 : Nat) (f1 : Nat → Nat) (n1 : Nat) : ∀ i, DD f0 n0 f1 n1 i ≤ i := by
  intro i
  induction i with
  | zero => exact Nat.le_refl _
  | succ i ih => simp only [DD]; have := shb_01 f0 n0 f1 n1 i; split <;> omega
/-- the places of one value -/
theorem blk {f : Nat → Nat} {n v j : Nat} (hs : Srt f n) (h1 : lb f n v ≤ j) (h2 : j < lb f n (v + 1)) : j < n ∧ f j = v := by
  have l := lb_le f n (v + 1)
  have a := lb_iff hs v j (by omega)
  have b := lb_iff hs (v + 1) j (by omega)
  omega
theorem SS_blk {f0 f1 : Nat → Nat} {n0 n1 v : Nat} (hs : Srt f0 n0) : ∀ k, k ≤ cnt f0 n0 v → SS f0 n0 f1 n1 (lb f0 n0 v + k) = SS f0 n0 f1 n1 (lb f0 n0 v) + min k (cnt f1 n1 v) := by
  intro k
  have hst := lb_step (f := f0) (n := n0) (v := v)
  induction k with
  | zero => intro _; rw [Nat.add_zero]; omega
  | succ k ih =>
    intro hk
    have hk' : lb f0 n0 v + k < lb f0 n0 (v + 1) := by unfold cnt at hk; omega
    obtain ⟨-, e⟩ := blk hs (Nat.le_add_right _ _) hk'
    show SS f0 n0 f1 n1 (lb f0 n0 v + k) + shb f0 n0 f1 n1 (lb f0 n0 v + k) = _
    rw [ih (by omega)]
    unfold shb
    rw [e]
    split <;> omega
theorem common_C {C : St} {n0 q0 n1 q1 : Nat} {f0 f1 : Nat → Nat} (h0 : BC C 0 n0 q0 f0) (h1 : BC C 1 n1 q1 f1) : ∀ (d i k : Nat), i + d = n0 → f_X6_common_n6 (k + (d + 1)) C (nI (SS f0 n0 f1 n1 i)) (nI (DD f0 n0 f1 n1 i)) (nI i) = f_X6_common_n6 (k + 1) C (nI (SS f0 n0 f1 n1 n0)) (nI (DD f0 n0 f1 n1 n0)) (nI n0) := by
  have hn := h0.2.2.1
  have e3 : st_i C 3 = nI n0 := h0.1
  intro d
  induction d with
  | zero =>
    intro i k e
    have : i = n0 := by omega
    subst this
    rfl
  | succ d ih =>
    intro i k e
    rw [← ih (i + 1) k (by omega)]
    show f_X6_common_n6_b (f_X6_common_n6 (k + (d + 1))) C _ _ (nI i) = _
    unfold f_X6_common_n6_b
    rw [e3, if_neg (NLe2 n0 i), shared_C h0 h1 (by omega), bind_some, bc_rank h0 (by omega)]
    simp only [lt_q, bind_q, nI_1, SS, DD]
    have hle := lb_own h0.2.2.2.2.2 (show i < n0 by omega)
    rcases shb_01 f0 n0 f1 n1 i with c | c
    · rw [c, if_pos nI_0]
      simp
    · rw [c, if_neg (by decide)]
      by_cases r : i - lb f0 n0 (f0 i) = 0
      · rw [r, if_pos nI_0, if_pos rfl]
      · rw [if_neg (nI_ne0 (by omega) (by omega)), if_neg r, Int32.add_zero]
        rfl
theorem common_M {M : St} {n0 q0 n1 q1 : Nat} {f0 f1 : Nat → Nat} (h0 : BM M 0 n0 q0 f0) (h1 : BM M 1 n1 q1 f1) : ∀ (d i k : Nat), i + d = n0 → f_X7_common_n11 (k + (d + 1)) M (nI (SS f0 n0 f1 n1 (if i = 0 then 0 else lb f0 n0 (f0 (i - 1) + 1)))) (nI (DD f0 n0 f1 n1 i)) (nI i) = f_X7_common_n11 (k + 1) M (nI (SS f0 n0 f1 n1 n0)) (nI (DD f0 n0 f1 n1 n0)) (nI n0) := by
  have hn := h0.2.2.1
  have hn1 := h1.2.2.1
  have hs := h0.2.2.2.2.2
  have at0 : ∀ i, i < n0 → f_X7_at M 0 (nI i) = some (nI (f0 i)) := fun i hi => bm_at h0 (by omega) hi
  intro d
  induction d with
  | zero =>
    intro i k e
    have : i = n0 := by omega
    subst this
    have e2 : (if i = 0 then 0 else lb f0 i (f0 (i - 1) + 1)) = i := by
      by_cases c : i = 0
      · rw [if_pos c]; exact c.symm
      · rw [if_neg c]
        exact lb_top (fun j hj => by have := hs j (i - 1) (by omega) (by omega); omega)
    rw [e2]
  | succ d ih =>
    intro i k e
    have hb := h0.2.2.2.2.1 i (by omega)
    rw [← ih (i + 1) k (by omega)]
    show f_X7_common_n11_b (f_X7_common_n11 (k + (d + 1))) M _ _ (nI i) = _
    unfold f_X7_common_n11_b f_X7_common_n49 f_X7_common_n84
    have hstep := lb_step (f := f0) (n := n0) (v := f0 i)
    have c0 : f_X7_countOf M 0 (nI (f0 i)) = some (nI (cnt f0 n0 (f0 i))) := bm_count (F := 0) h0 (by omega) (by omega)
    have c1 : f_X7_countOf M 1 (nI (f0 i)) = some (nI (cnt f1 n1 (f0 i))) := bm_count (F := 1) h1 (by omega) (by omega)
    have hc0 := cnt_le f0 n0 (f0 i)
    have hc1 := cnt_le f1 n1 (f0 i)
    rw [if_pos b02, z0c, h0.1, if_neg (NLe2 n0 i), at0 i (by omega), bind_some]
    have first : i - lb f0 n0 (f0 i) = 0 → (if i = 0 then 0 else lb f0 n0 (f0 (i - 1) + 1)) = lb f0 n0 (f0 i) → ((f_X7_countOf M 0 (nI (f0 i))).bind fun v7 => (f_X7_countOf M 1 (nI (f0 i))).bind fun v8 => lt_ (if v8 < v7 then v8 else v7) fun v9 => lt_ (nI (SS f0 n0 f1 n1 (if i = 0 then 0 else lb f0 n0 (f0 (i - 1) + 1))) + v9) fun v10 => if v9 ≤ 0 then lt_ (nI (DD f0 n0 f1 n1 i) + f_X7_flag M 0) fun v11 => lt_ (nI i + 1) fun v12 => f_X7_common_n11 (k + (d + 1)) M v10 v11 v12 else lt_ (nI (DD f0 n0 f1 n1 i) + f_X7_flag M 1) fun v11 => lt_ (nI i + 1) fun v12 => f_X7_common_n11 (k + (d + 1)) M v10 v11 v12) = f_X7_common_n11 (k + (d + 1)) M (nI (SS f0 n0 f1 n1 (if i + 1 = 0 then 0 else lb f0 n0 (f0 (i + 1 - 1) + 1)))) (nI (DD f0 n0 f1 n1 (i + 1))) (nI (i + 1)) := by
      intro hr hE
      have hi0 : 0 < cnt f0 n0 (f0 i) := by
        have := lb_iff hs (f0 i + 1) i (by omega)
        have := lb_own hs (show i < n0 by omega)
        unfold cnt
        omega
      have hmin : (if nI (cnt f1 n1 (f0 i)) < nI (cnt f0 n0 (f0 i)) then nI (cnt f1 n1 (f0 i)) else nI (cnt f0 n0 (f0 i))) = nI (min (cnt f0 n0 (f0 i)) (cnt f1 n1 (f0 i))) := by
        by_cases c : cnt f1 n1 (f0 i) < cnt f0 n0 (f0 i)
        · rw [if_pos (Lt2 _ _ c), show min (cnt f0 n0 (f0 i)) (cnt f1 n1 (f0 i)) = cnt f1 n1 (f0 i) by omega]
        · rw [if_neg (NLt2 (cnt f1 n1 (f0 i)) (cnt f0 n0 (f0 i))), show min (cnt f0 n0 (f0 i)) (cnt f1 n1 (f0 i)) = cnt f0 n0 (f0 i) by omega]
      have hSS := SS_blk (f1 := f1) (n1 := n1) (v := f0 i) hs (cnt f0 n0 (f0 i)) (Nat.le_refl _)
      have hEn : lb f0 n0 (f0 i) + cnt f0 n0 (f0 i) = lb f0 n0 (f0 i + 1) := by unfold cnt; omega
      rw [hEn] at hSS
      rw [c0, bind_some, c1, bind_some, lt_q, lt_q, hmin, hE, nI_add, ← hSS, if_neg (show ¬ i + 1 = 0 by omega), show i + 1 - 1 = i by omega]
      have hD : DD f0 n0 f1 n1 (i + 1) = DD f0 n0 f1 n1 i + if min (cnt f0 n0 (f0 i)) (cnt f1 n1 (f0 i)) = 0 then 0 else 1 := by
        show DD f0 n0 f1 n1 i + (if i - lb f0 n0 (f0 i) = 0 then shb f0 n0 f1 n1 i else 0) = _
        rw [if_pos hr]
        unfold shb
        rw [hr]
        by_cases c : min (cnt f0 n0 (f0 i)) (cnt f1 n1 (f0 i)) = 0
        · rw [if_pos c, if_neg (by omega)]
        · rw [if_neg c, if_pos (by omega)]
      rw [hD]
      by_cases c : min (cnt f0 n0 (f0 i)) (cnt f1 n1 (f0 i)) = 0
      · rw [c, if_pos (show nI 0 ≤ 0 by decide), if_pos rfl, lt_q, lt_q, flag_0, Int32.add_zero, nI_1]
        rfl
      · rw [if_neg (nI_nle (by omega) (by omega)), if_neg c, lt_q, lt_q, flag_1, nI_1, nI_1]
    by_cases z : i = 0
    · rw [if_pos (show nI i ≤ 0 by rw [z]; decide)]
      refine first (by omega) ?_
      rw [if_pos z]
      have := lb_own hs (show i < n0 by omega)
      omega
    · have hb1 := h0.2.2.2.2.1 (i - 1) (by omega)
      rw [if_neg (nI_nle (by omega) (by omega)), Sub1 i, at0 (i - 1) (by omega), bind_some]
      by_cases c : f0 (i - 1) = f0 i
      · rw [c, if_pos rfl, lt_q, nI_1, if_neg z, if_neg (show ¬ i + 1 = 0 by omega), show i + 1 - 1 = i by omega]
        have hr : ¬ i - lb f0 n0 (f0 i) = 0 := fun hh => by
          rcases (rank0 hs (show i < n0 by omega)).1 hh with q | q
          · exact z q
          · exact q c
        have hD : DD f0 n0 f1 n1 (i + 1) = DD f0 n0 f1 n1 i := by
          show DD f0 n0 f1 n1 i + (if i - lb f0 n0 (f0 i) = 0 then shb f0 n0 f1 n1 i else 0) = _
          rw [if_neg hr]; rfl
        rw [hD]
      · rw [if_neg (Ne2 (f0 (i - 1)) (f0 i))]
        have hr := (rank0 hs (show i < n0 by omega)).2 (Or.inr c)
        refine first hr ?_
        rw [if_neg z]
        have a1 := lb_iff hs (f0 (i - 1) + 1) (i - 1) (by omega)
        have a2 := lb_iff hs (f0 (i - 1) + 1) i (by omega)
        have a3 := hs (i - 1) i (by omega) (by omega)
        have a4 := lb_own hs (show i < n0 by omega)
        omega
theorem m_common {C M : St} (h : Rel C M) : Ok2 (f_X6_common C) (f_X7_common M) := by
  have h' := h.thr 0
  unfold f_X6_common f_X7_common
  rw [lt_q]
  obtain ⟨P, L, n, q, f, kt, gt, hr⟩ := h'.rf
  generalize hM : put_i M 0 0 = M0 at h' hr ⊢
  have A0 := hr.2.1 0 (by omega)
  have A1 := hr.2.1 1 (by omega)
  have hn0 := A0.1.2.2.1
  have hn1 := A1.1.2.2.1
  have e3 : st_i C 3 = nI (n 0) := A0.1.1
  have e5 : st_i C 5 = nI (n 1) := A1.1.1
  obtain ⟨j, hj⟩ := fuel_ge (k := n 0 + 1) (by omega)
  have eC := common_C A0.1 A1.1 (n 0) 0 j (by omega)
  have eM := common_M A0.2.1 A1.2.1 (n 0) 0 j (by omega)
  rw [← hj] at eC eM
  have hS := SS_le (f 0) (n 0) (f 1) (n 1) (n 0)
  have eC' : f_X6_common_n6 fuel C 0 0 0 = _ := eC
  have eM' : f_X7_common_n11 fuel M0 0 0 0 = _ := eM
  rw [eC', eM']
  generalize SS (f 0) (n 0) (f 1) (n 1) (n 0) = S at hS ⊢
  generalize DD (f 0) (n 0) (f 1) (n 1) (n 0) = D at *
  show Ok2 (f_X6_common_n6_b (f_X6_common_n6 j) C (nI S) (nI D) (nI (n 0))) (f_X7_common_n11_b (f_X7_common_n11 j) M0 (nI S) (nI D) (nI (n 0)))
  unfold f_X6_common_n6_b f_X7_common_n11_b f_X7_common_n122 f_X7_common_n145 f_X6_common_n75 f_X6_common_n91
  rw [e3, e5, if_pos (Le2 (n 0) (n 0)), if_pos b02, z0c, z1c, A0.2.1.1, if_pos (Le2 (n 0) (n 0))]
  simp only [lt_q, b02, b12, ↓reduceIte]
  have fin : ∀ (b0 b1 : Int32), (b0 = 0 ∨ b0 = 1) → (b1 = 0 ∨ b1 = 1) → ((b0 = 1) ↔ S = n 0) → ((b1 = 1) ↔ S = n 1) → ∃ t u1 u2 u : St, f_X3_tell__ C (nI D).toInt64 b0.toInt64 b1.toInt64 = some t ∧ f_X7_enters (put_i M0 1 0) (nI D).toInt64 = some u1 ∧ f_X7_enters u1 b0.toInt64 = some u2 ∧ f_X7_enters u2 b1.toInt64 = some u ∧ Rel t u ∧ st_a u1 2 0 = nI (n 0) ∧ st_a u2 2 1 = nI (n 1) := by
    intro b0 b1 _ _ _ _
    obtain ⟨t, u1, u2, u, x1, x2, x3, x4, x5, x6, x7, x8, x9, x10⟩ := end3 hr (nI D).toInt64 b0.toInt64 b1.toInt64
    exact ⟨t, u1, u2, u, x1, x2, x3, x4, x5, by rw [x10.2 2 0 (fun z => z)]; exact A0.2.1.1, by rw [x9.2 2 1 (fun z => z)]; exact A1.2.1.1⟩
  have l1 : (1 : Int32).toInt64 = 1 := rfl
  have l0 : (0 : Int32).toInt64 = 0 := rfl
  by_cases c0 : S = n 0
  · by_cases c1 : S = n 1
    · obtain ⟨t, u1, u2, u, x1, x2, x3, x4, x5, x6, x7⟩ := fin 1 1 (Or.inr rfl) (Or.inr rfl) ⟨fun _ => c0, fun _ => rfl⟩ ⟨fun _ => c1, fun _ => rfl⟩
      rw [l1] at x1 x3 x4
      rw [x2]
      simp only [bind_q, flag_0, flag_1, l1, x6]
      rw [if_pos (by rw [c0]), if_pos (by rw [c1]), if_pos (by rw [c0]), x1, x3]
      simp only [bind_q, x7]
      rw [if_pos (by rw [c1]), x4]
      exact ⟨_, _, _, rfl, rfl, x5⟩
    · obtain ⟨t, u1, u2, u, x1, x2, x3, x4, x5, x6, x7⟩ := fin 1 0 (Or.inr rfl) (Or.inl rfl) ⟨fun _ => c0, fun _ => rfl⟩ ⟨fun z => absurd z (by decide), fun z => absurd z c1⟩
      rw [l1, l0] at x1
      rw [l1] at x3
      rw [l0] at x4
      rw [x2]
      simp only [bind_q, flag_0, flag_1, l1, l0, x6]
      rw [if_pos (by rw [c0]), if_neg (Ne2 S (n 1)), if_pos (by rw [c0]), x1, x3]
      simp only [bind_q, x7]
      rw [if_neg (Ne2 S (n 1)), x4]
      exact ⟨_, _, _, rfl, rfl, x5⟩
  · by_cases c1 : S = n 1
    · obtain ⟨t, u1, u2, u, x1, x2, x3, x4, x5, x6, x7⟩ := fin 0 1 (Or.inl rfl) (Or.inr rfl) ⟨fun z => absurd z (by decide), fun z => absurd z c0⟩ ⟨fun _ => c1, fun _ => rfl⟩
      rw [l1, l0] at x1
      rw [l0] at x3
      rw [l1] at x4
      rw [x2]
      simp only [bind_q, flag_0, flag_1, l1, l0, x6]
      rw [if_neg (Ne2 S (n 0)), if_pos (by rw [c1]), if_neg (Ne2 S (n 0)), x1, x3]
      simp only [bind_q, x7]
      rw [if_pos (by rw [c1]), x4]
      exact ⟨_, _, _, rfl, rfl, x5⟩
    · obtain ⟨t, u1, u2, u, x1, x2, x3, x4, x5, x6, x7⟩ := fin 0 0 (Or.inl rfl) (Or.inl rfl) ⟨fun z => absurd z (by decide), fun z => absurd z c0⟩ ⟨fun z => absurd z (by decide), fun z => absurd z c1⟩
      rw [l0] at x1 x3 x4
      rw [x2]
      simp only [bind_q, flag_0, flag_1, l0, x6]
      rw [if_neg (Ne2 S (n 0)), if_neg (Ne2 S (n 1)), if_neg (Ne2 S (n 0)), x1, x3]
      simp only [bind_q, x7]
      rw [if_neg (Ne2 S (n 1)), x4]
      exact ⟨_, _, _, rfl, rfl, x5⟩
