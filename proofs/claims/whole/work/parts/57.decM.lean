/-! the reference reads told slots -/
def RWM (σ : St) (P Q : Nat) (mm rm : Nat → Nat) : Prop := st_i σ 8 = nI Q ∧ (3 ≤ Q ∧ Q ≤ 6 ∧ Q < P) ∧ st_i σ 5 = nI P ∧ ∀ s, s < 2 ^ Q → st_a σ 9 s = nI (mm s) ∧ st_a σ 10 s = nI (rm s) ∧ mm s < 8 ∧ rm s < 2 ^ (P - Q)
theorem RWM.kp {σ t : St} {P Q : Nat} {mm rm : Nat → Nat} {I : Nat → Prop} {A : Nat → Nat → Prop} (h : RWM σ P Q mm rm) (hf : Gs I A σ t) (h1 : ¬ I 8) (h0 : ¬ I 5) (h2 : ∀ j, ¬ A 9 j) (h3 : ∀ j, ¬ A 10 j) : RWM t P Q mm rm := ⟨by rw [hf.1 _ h1]; exact h.1, h.2.1, by rw [hf.1 _ h0]; exact h.2.2.1, fun s hs => by rw [hf.2 _ _ (h2 s), hf.2 _ _ (h3 s)]; exact h.2.2.2 s hs⟩
theorem an1 (x : Nat) : nI x &&& 1 = nI (x % 2) := by
  rw [show (1 : Int32) = nI 1 from rfl, nI_and, Nat.and_one_is_mod]
theorem an2 (x : Nat) : nI x &&& 2 = nI (2 * (x / 2 % 2)) := by
  rw [show (2 : Int32) = nI 2 from rfl, nI_and, and_2x]
theorem an4 (x : Nat) : nI x &&& 4 = nI (4 * (x / 4 % 2)) := by
  rw [show (4 : Int32) = nI 4 from rfl, nI_and, and_4x]
abbrev cM (F : Nat) : Nat → Nat → Prop := fun k j => fA F k j ∨ k = 12
/-- one slot of a cluster -/
theorem ch_head {σ : St} {P Q F s0 i : Nat} {mm rm : Nat → Nat} (h : RWM σ P Q mm rm) (h0 : s0 < 2 ^ Q) (hi : i < 2 ^ Q) (y4 y5 y6 : Int32) (k : Nat) : f_X7_takesCluster_n19 (nI F) (nI s0) (k + 1) σ (nI (2 ^ Q)) y4 y5 y6 (nI i) = if 0 < i ∧ mm ((s0 + i) % 2 ^ Q) / 4 % 2 = 0 then some (1, σ) else f_X7_takesCluster_n52 (nI F) (nI s0) (f_X7_takesCluster_n19 (nI F) (nI s0) k) σ (nI (2 ^ Q)) y4 y5 y6 (nI i) (nI ((s0 + i) % 2 ^ Q)) := by
  have hw := p2_bound h.2.1.2.1
  have hs : (s0 + i) % 2 ^ Q < 2 ^ Q := Nat.mod_lt _ (by omega)
  show f_X7_takesCluster_n19_b (nI F) (nI s0) (f_X7_takesCluster_n19 (nI F) (nI s0) k) σ (nI (2 ^ Q)) y4 y5 y6 (nI i) = _
  unfold f_X7_takesCluster_n19_b
  rw [if_neg (NLe2 (2 ^ Q) i), if_neg (nI_ne0 (by omega) (by omega)), lt_q, nI_add, pk_rem (by omega) (by omega) (by omega), if_pos (Inb ((s0 + i) % 2 ^ Q) 64), Cl ((s0 + i) % 2 ^ Q), (h.2.2.2 _ hs).1, an4]
  by_cases c : i = 0
  · rw [if_pos (LeR i 0 0), if_neg (by omega)]
  · rw [if_neg (NLeR i 0 0)]
    by_cases c2 : mm ((s0 + i) % 2 ^ Q) / 4 % 2 = 0
    · rw [if_pos (by rw [c2]; rfl), if_pos ⟨by omega, c2⟩]
    · rw [if_neg (NeR (4 * (mm ((s0 + i) % 2 ^ Q) / 4 % 2)) 0 0), if_neg (fun z => c2 z.2)]
theorem ch_52 {σ : St} {P Q F s y5 : Nat} {mm rm : Nat → Nat} (h : RWM σ P Q mm rm) (hs : s < 2 ^ Q) (h5 : y5 < 64) (x2 y3 y4 y6 y7 : Int32) (k19 : St → Int32 → Int32 → Int32 → Int32 → Int32 → Option (Int32 × St)) : f_X7_takesCluster_n52 (nI F) x2 k19 σ y3 y4 (nI y5) y6 y7 (nI s) = if mm s % 2 = 0 then f_X7_takesCluster_n76 (nI F) x2 k19 σ y3 y4 (nI y5) y6 y7 (nI s) else f_X7_takesCluster_n76 (nI F) x2 k19 (put_a σ 12 y5 (nI s)) y3 y4 (nI (y5 + 1)) y6 y7 (nI s) := by
  have hw := p2_bound h.2.1.2.1
  unfold f_X7_takesCluster_n52
  rw [if_pos (Inb s 64), Cl s, (h.2.2.2 _ hs).1, an1, if_pos (Inb y5 64), Cl y5, lt_q, lt_q, nI_1]
  by_cases c : mm s % 2 = 0
  · rw [if_pos c, c, if_pos nI_0]
  · rw [if_neg c, if_neg (NeR (mm s % 2) 0 0)]
theorem ch_76 {σ : St} {P Q F s y4 y5 : Nat} {mm rm : Nat → Nat} (h : RWM σ P Q mm rm) (hs : s < 2 ^ Q) (h4 : y4 ≤ y5) (h5 : y5 ≤ 64) (x2 y3 y6 y7 : Int32) (k19 : St → Int32 → Int32 → Int32 → Int32 → Int32 → Option (Int32 × St)) : f_X7_takesCluster_n76 (nI F) x2 k19 σ y3 (nI y4) (nI y5) y6 y7 (nI s) = if mm s / 2 % 2 = 0 then (if y4 = y5 then some (0, σ) else f_X7_takesCluster_n109 (nI F) x2 k19 σ y3 (nI (y4 + 1)) (nI y5) (st_a σ 12 y4) y7 (nI s)) else f_X7_takesCluster_n109 (nI F) x2 k19 σ y3 (nI y4) (nI y5) y6 y7 (nI s) := by
  have hw := p2_bound h.2.1.2.1
  unfold f_X7_takesCluster_n76
  rw [if_pos (Inb s 64), Cl s, (h.2.2.2 _ hs).1, an2]
  by_cases c : mm s / 2 % 2 = 0
  · rw [if_pos c, c, if_pos (show nI (2 * 0) = 0 from rfl)]
    by_cases c2 : y4 = y5
    · rw [if_pos c2, if_pos (by rw [c2])]
    · rw [if_neg c2, if_neg (Ne2 y4 y5), if_pos (Inb y4 64), Cl y4, lt_q, lt_q, nI_1]
  · rw [if_neg c, if_neg (NeR (2 * (mm s / 2 % 2)) 0 0)]
theorem ch_109 {σ : St} {P Q F s x m i : Nat} {g mm rm : Nat → Nat} (hP : P ≤ 14) (h : RWM σ P Q mm rm) (hF : F < 2) (hb : BM σ F m Q g) (hm : m < 2 ^ Q) (hs : s < 2 ^ Q) (hx : x < 2 ^ Q) (x2 y4 y5 : Int32) (k19 : St → Int32 → Int32 → Int32 → Int32 → Int32 → Option (Int32 × St)) : (m + 1 = 2 ^ Q ∧ f_X7_takesCluster_n109 (nI F) x2 k19 σ (nI (2 ^ Q)) y4 y5 (nI x) (nI i) (nI s) = some (0, σ)) ∨ (m + 1 < 2 ^ Q ∧ ∃ t, f_X7_takesCluster_n109 (nI F) x2 k19 σ (nI (2 ^ Q)) y4 y5 (nI x) (nI i) (nI s) = k19 t (nI (2 ^ Q)) y4 y5 (nI x) (nI (i + 1)) ∧ BM t F (m + 1) Q (ins g (lb g m (x * 2 ^ (P - Q) + rm s + 1)) (x * 2 ^ (P - Q) + rm s)) ∧ Gr noI (fA F) σ t ∧ x * 2 ^ (P - Q) + rm s < 2 ^ P) := by
  have hP2 := p2P hP
  have hw := p2_bound h.2.1.2.1
  have hq := h.2.1
  obtain ⟨-, h10, -, hrm⟩ := h.2.2.2 s hs
  have hv := pr_lt hq.2.2 hx hrm
  unfold f_X7_takesCluster_n109
  rw [if_neg (Pos x), if_pos (Inb F 2), Cl F, hb.1, Sub1 (2 ^ Q)]
  by_cases c : m + 1 = 2 ^ Q
  · left
    exact ⟨c, by rw [if_pos (by congr 1; omega)]⟩
  · right
    refine ⟨by omega, ?_⟩
    obtain ⟨t, e1, b1, g1⟩ := bm_comes hb hF (by omega) (v := x * 2 ^ (P - Q) + rm s) (by omega)
    refine ⟨t, ?_, b1, g1, hv⟩
    rw [if_neg (Ne2 m (2 ^ Q - 1)), if_pos (Inb s 64), Cl s, h10, h.2.2.1, h.1, Sub2 P Q, mkp (by omega) hrm (by omega), e1, bind_some, lt_q, nI_1]
theorem ch_weak {P Q F s0 : Nat} {mm rm : Nat → Nat} (hP : P ≤ 14) (hF : F < 2) (h0 : s0 < 2 ^ Q) : ∀ (d i k y4 y5 m : Nat) (y6 : Int32) (g : Nat → Nat) (σ : St), i + d = 2 ^ Q → RWM σ P Q mm rm → BM σ F m Q g → m < 2 ^ Q → y4 ≤ y5 → y5 ≤ i → (y6 = -1 ∨ ∃ x, x < 2 ^ Q ∧ y6 = nI x) → (∀ j, j < m → g j < 2 ^ P) → (∀ j, j < y5 → ∃ x, x < 2 ^ Q ∧ st_a σ 12 j = nI x) → ∃ (r : Int32) (t : St) (m' : Nat) (g' : Nat → Nat), f_X7_takesCluster_n19 (nI F) (nI s0) (k + (d + 1)) σ (nI (2 ^ Q)) (nI y4) (nI y5) y6 (nI i) = some (r, t) ∧ (r = 0 ∨ r = 1) ∧ BM t F m' Q g' ∧ m' < 2 ^ Q ∧ (∀ j, j < m' → g' j < 2 ^ P) ∧ Gr noI (cM F) σ t := by
  intro d
  induction d with
  | zero =>
    intro i k y4 y5 m y6 g σ ei h hb hm h4 h5 h6 hg ha
    have hw := p2_bound h.2.1.2.1
    refine ⟨1, σ, m, g, ?_, Or.inr rfl, hb, by omega, hg, Gr.rf⟩
    show f_X7_takesCluster_n19_b (nI F) (nI s0) (f_X7_takesCluster_n19 (nI F) (nI s0) k) σ (nI (2 ^ Q)) (nI y4) (nI y5) y6 (nI i) = _
    unfold f_X7_takesCluster_n19_b
    rw [if_pos (Le2 (2 ^ Q) i)]
  | succ d ih =>
    intro i k y4 y5 m y6 g σ ei h hb hm h4 h5 h6 hg ha
    have hw := p2_bound h.2.1.2.1
    have hs : (s0 + i) % 2 ^ Q < 2 ^ Q := Nat.mod_lt _ (by omega)
    rw [show k + (d + 1 + 1) = k + (d + 1) + 1 from rfl, ch_head h h0 (by omega)]
    by_cases c : 0 < i ∧ mm ((s0 + i) % 2 ^ Q) / 4 % 2 = 0
    · rw [if_pos c]
      exact ⟨1, σ, m, g, rfl, Or.inr rfl, hb, hm, hg, Gr.rf⟩
    · rw [if_neg c, ch_52 h hs (by omega)]
      have tail2 : ∀ (y4' y5' : Nat) (y6' : Int32) (σ' : St), RWM σ' P Q mm rm → BM σ' F m Q g → y4' ≤ y5' → y5' ≤ i + 1 → (y6' = -1 ∨ ∃ x, x < 2 ^ Q ∧ y6' = nI x) → (∀ j, j < y5' → ∃ x, x < 2 ^ Q ∧ st_a σ' 12 j = nI x) → ∃ (r : Int32) (t : St) (m' : Nat) (g' : Nat → Nat), f_X7_takesCluster_n109 (nI F) (nI s0) (f_X7_takesCluster_n19 (nI F) (nI s0) (k + (d + 1))) σ' (nI (2 ^ Q)) (nI y4') (nI y5') y6' (nI i) (nI ((s0 + i) % 2 ^ Q)) = some (r, t) ∧ (r = 0 ∨ r = 1) ∧ BM t F m' Q g' ∧ m' < 2 ^ Q ∧ (∀ j, j < m' → g' j < 2 ^ P) ∧ Gr noI (cM F) σ' t := by
        intro y4' y5' y6' σ' h' hb' h4' h5' h6' ha'
        rcases h6' with rfl | ⟨x, hx, rfl⟩
        · unfold f_X7_takesCluster_n109
          rw [if_pos (by decide)]
          exact ⟨0, σ', m, g, rfl, Or.inl rfl, hb', hm, hg, Gr.rf⟩
        · rcases ch_109 (i := i) hP h' hF hb' hm hs hx (nI s0) (nI y4') (nI y5') (f_X7_takesCluster_n19 (nI F) (nI s0) (k + (d + 1))) with ⟨-, e1⟩ | ⟨hm1, t1, e1, b1, g1, hv⟩
          · exact ⟨0, σ', m, g, e1, Or.inl rfl, hb', hm, hg, Gr.rf⟩
          · rw [e1]
            have g1' : Gr noI (cM F) σ' t1 := g1.mono (fun k z => z) (fun k j z => Or.inl z)
            obtain ⟨r, t, m', g', a1, a2, a3, a4, a5, a6⟩ := ih (i + 1) k y4' y5' (m + 1) (nI x) _ t1 (by omega) (h'.kp g1.s (fun z => z) (fun z => z) (fun j z => by omega) (fun j z => by omega)) b1 hm1 h4' h5' (Or.inr ⟨x, hx, rfl⟩) (ins_bd hg hv (lb_le _ _ _)) (fun j hj => by rw [g1.2.1 12 j (by omega)]; exact ha' j hj)
            exact ⟨r, t, m', g', a1, a2, a3, a4, a5, g1'.tr a6⟩
      have tail : ∀ (y5' : Nat) (σ' : St), RWM σ' P Q mm rm → BM σ' F m Q g → y4 ≤ y5' → y5' ≤ i + 1 → (∀ j, j < y5' → ∃ x, x < 2 ^ Q ∧ st_a σ' 12 j = nI x) → ∃ (r : Int32) (t : St) (m' : Nat) (g' : Nat → Nat), f_X7_takesCluster_n76 (nI F) (nI s0) (f_X7_takesCluster_n19 (nI F) (nI s0) (k + (d + 1))) σ' (nI (2 ^ Q)) (nI y4) (nI y5') y6 (nI i) (nI ((s0 + i) % 2 ^ Q)) = some (r, t) ∧ (r = 0 ∨ r = 1) ∧ BM t F m' Q g' ∧ m' < 2 ^ Q ∧ (∀ j, j < m' → g' j < 2 ^ P) ∧ Gr noI (cM F) σ' t := by
        intro y5' σ' h' hb' h4' h5' ha'
        rw [ch_76 h' hs h4' (by omega)]
        by_cases c3 : mm ((s0 + i) % 2 ^ Q) / 2 % 2 = 0
        · rw [if_pos c3]
          by_cases c4 : y4 = y5'
          · rw [if_pos c4]
            exact ⟨0, σ', m, g, rfl, Or.inl rfl, hb', hm, hg, Gr.rf⟩
          · rw [if_neg c4]
            exact tail2 (y4 + 1) y5' _ σ' h' hb' (by omega) h5' (Or.inr (ha' y4 (by omega))) ha'
        · rw [if_neg c3]
          exact tail2 y4 y5' _ σ' h' hb' h4' h5' h6 ha'
      by_cases c2 : mm ((s0 + i) % 2 ^ Q) % 2 = 0
      · rw [if_pos c2]
        exact tail y5 σ h hb h4 (by omega) ha
      · rw [if_neg c2]
        have f1 : Gr noI (cM F) σ (put_a σ 12 y5 (nI ((s0 + i) % 2 ^ Q))) := gr_a (Or.inr rfl)
        have f1n : Gr noI (fun k _ => k = 12) σ (put_a σ 12 y5 (nI ((s0 + i) % 2 ^ Q))) := gr_a (show 12 = 12 from rfl)
        obtain ⟨r, t, m', g', a1, a2, a3, a4, a5, a6⟩ := tail (y5 + 1) _ (h.kp f1n.s (fun z => z) (fun z => z) (fun j z => by omega) (fun j z => by omega)) (hb.kp f1n.s (by omega) (by omega) (fun i hi z => by omega)) (by omega) (by omega) (fun j hj => by
          rw [sa_pa, if_pos rfl, upd_at]
          by_cases e2 : j = y5
          · exact ⟨_, hs, by rw [if_pos e2]⟩
          · rw [if_neg e2]; exact ha j (by omega))
        exact ⟨r, t, m', g', a1, a2, a3, a4, a5, f1.tr a6⟩
theorem cluster_eq {σ : St} {P Q F s0 : Nat} {mm rm : Nat → Nat} (h : RWM σ P Q mm rm) : ∃ j, f_X7_takesCluster σ (nI F) (nI s0) = f_X7_takesCluster_n19 (nI F) (nI s0) (j + (2 ^ Q + 1)) σ (nI (2 ^ Q)) (nI 0) (nI 0) (-1) (nI 0) := by
  have hw := p2_bound h.2.1.2.1
  obtain ⟨j, hj⟩ := fuel_ge (k := 2 ^ Q + 1) (by omega)
  refine ⟨j, ?_⟩
  unfold f_X7_takesCluster
  rw [h.1, sh_1 Q (by have := h.2.1; omega), lt_q, ← hj, nI_0]
