/-! all told slots -/
theorem tt_weak {P Q F : Nat} {mm rm : Nat → Nat} (hP : P ≤ 14) (hF : F < 2) : ∀ (d s k m : Nat) (y2 : Int32) (g : Nat → Nat) (σ : St), s + d = 2 ^ Q → RWM σ P Q mm rm → BM σ F m Q g → m < 2 ^ Q → (y2 = 0 ∨ y2 = 1) → (∀ j, j < m → g j < 2 ^ P) → ∃ (y2' : Int32) (t : St) (m' : Nat) (g' : Nat → Nat), f_X7_takesTold_n26 (nI F) (k + (d + 1)) σ y2 (nI s) = f_X7_takesTold_n92 (nI F) t y2' ∧ (y2' = 0 ∨ y2' = 1) ∧ BM t F m' Q g' ∧ m' < 2 ^ Q ∧ (∀ j, j < m' → g' j < 2 ^ P) ∧ Gr noI (cM F) σ t := by
  intro d
  induction d with
  | zero =>
    intro s k m y2 g σ ei h hb hm hy hg
    have hw := p2_bound h.2.1.2.1
    refine ⟨y2, σ, m, g, ?_, hy, hb, hm, hg, Gr.rf⟩
    show f_X7_takesTold_n26_b (nI F) (f_X7_takesTold_n26 (nI F) k) σ y2 (nI s) = _
    unfold f_X7_takesTold_n26_b
    rw [bm_slots hb hF (by have := h.2.1; omega), bind_some, if_pos (Le2 (2 ^ Q) s)]
  | succ d ih =>
    intro s k m y2 g σ ei h hb hm hy hg
    have hw := p2_bound h.2.1.2.1
    show ∃ (y2' : Int32) (t : St) (m' : Nat) (g' : Nat → Nat), f_X7_takesTold_n26_b (nI F) (f_X7_takesTold_n26 (nI F) (k + (d + 1))) σ y2 (nI s) = _ ∧ _
    unfold f_X7_takesTold_n26_b
    rw [bm_slots hb hF (by have := h.2.1; omega), bind_some, if_neg (NLe2 (2 ^ Q) s)]
    rcases hy with rfl | rfl
    · rw [if_pos rfl]
      exact ⟨0, σ, m, g, rfl, Or.inl rfl, hb, hm, hg, Gr.rf⟩
    · rw [if_neg (by decide), if_pos (Inb s 64), Cl s, (h.2.2.2 s (by omega)).1, if_pos (Inb s 64), an4]
      have skip : ∃ (y2' : Int32) (t : St) (m' : Nat) (g' : Nat → Nat), f_X7_takesTold_n63 (nI F) (f_X7_takesTold_n26 (nI F) (k + (d + 1))) σ (nI s) = f_X7_takesTold_n92 (nI F) t y2' ∧ (y2' = 0 ∨ y2' = 1) ∧ BM t F m' Q g' ∧ m' < 2 ^ Q ∧ (∀ j, j < m' → g' j < 2 ^ P) ∧ Gr noI (cM F) σ t := by
        unfold f_X7_takesTold_n63 f_X7_takesTold_n64
        rw [if_pos rfl, lt_q, nI_1]
        exact ih (s + 1) k m 1 g σ (by omega) h hb hm (Or.inr rfl) hg
      by_cases c : mm s = 0
      · rw [if_pos (by rw [c]; rfl)]
        exact skip
      · have hm8 := (h.2.2.2 s (by omega)).2.2.1
        rw [if_neg (NeR (mm s) 0 0)]
        by_cases c2 : mm s / 4 % 2 = 0
        · rw [if_pos (by rw [c2]; rfl)]
          obtain ⟨j, ej⟩ := cluster_eq (F := F) (s0 := s) h
          obtain ⟨r, t1, m1, g1, a1, a2, a3, a4, a5, a6⟩ := ch_weak (mm := mm) (rm := rm) hP hF (show s < 2 ^ Q by omega) (2 ^ Q) 0 j 0 0 m (-1) g σ (by omega) h hb hm (by omega) (by omega) (Or.inl rfl) hg (fun j hj => by omega)
          have h1 : RWM t1 P Q mm rm := h.kp a6.s (fun z => z) (fun z => z) (fun j z => by omega) (fun j z => by omega)
          unfold f_X7_takesTold_n64
          rw [if_neg (by decide), ej, a1, bind2_some, lt_q, lt_q, nI_1]
          rcases a2 with rfl | rfl
          · rw [if_pos rfl]
            obtain ⟨y, t, m', g', b1, b2, b3, b4, b5, b6⟩ := ih (s + 1) k m1 0 g1 t1 (by omega) h1 a3 a4 (Or.inl rfl) a5
            exact ⟨y, t, m', g', b1, b2, b3, b4, b5, a6.tr b6⟩
          · rw [if_neg (by decide)]
            obtain ⟨y, t, m', g', b1, b2, b3, b4, b5, b6⟩ := ih (s + 1) k m1 1 g1 t1 (by omega) h1 a3 a4 (Or.inr rfl) a5
            exact ⟨y, t, m', g', b1, b2, b3, b4, b5, a6.tr b6⟩
        · rw [if_neg (NeR (4 * (mm s / 4 % 2)) 0 0)]
          exact skip
theorem tt_strong {P Q F b k0 n : Nat} {f B mm rm : Nat → Nat} (hP : P ≤ 14) (hF : F < 2) (hl : HL (hh f (P - Q)) (2 ^ Q) n) (hq : RQ f n Q (P - Q) mm rm) (R : Rotd (hh f (P - Q)) (2 ^ Q) n b k0 B) (hz : 0 < n → b < 2 ^ Q ∧ po B 0 0 = 0 ∧ B 0 = 0) (hbB : ∀ m, m < n → po B 0 m = B m → b + B m < 2 ^ Q) : ∀ (d s k a : Nat) (g : Nat → Nat) (σ : St), s + d = 2 ^ Q → RWM σ P Q mm rm → a ≤ n → (∀ m, m < n → po B 0 m = B m → (m < a ↔ b + B m < s)) → (a = n ∨ po B 0 a = B a) → BM σ F a Q g → (∀ v, cnt g a v = ci (fun m => f (rot k0 n m)) v a) → ∃ (t : St) (g' : Nat → Nat), f_X7_takesTold_n26 (nI F) (k + (d + 1)) σ 1 (nI s) = f_X7_takesTold_n92 (nI F) t 1 ∧ BM t F n Q g' ∧ (∀ v, cnt g' n v = ci (fun m => f (rot k0 n m)) v n) ∧ Gr noI (cM F) σ t := by
  have hst : ∀ i j, i < j → j < n → po B 0 i < po B 0 j := fun i j h1 _ => po_lt h1
  intro d
  induction d with
  | zero =>
    intro s k a g σ ei h ha hu hae hb hc
    have hw := p2_bound h.2.1.2.1
    have ea : a = n := by
      rcases hae with e | e
      · exact e
      · rcases Nat.lt_or_ge a n with q | q
        · have := (hu a q e).2 (by have := hbB a q e; omega)
          omega
        · omega
    subst ea
    refine ⟨σ, g, ?_, hb, hc, Gr.rf⟩
    show f_X7_takesTold_n26_b (nI F) (f_X7_takesTold_n26 (nI F) k) σ 1 (nI s) = _
    unfold f_X7_takesTold_n26_b
    rw [bm_slots hb hF (by have := h.2.1; omega), bind_some, if_pos (Le2 (2 ^ Q) s)]
  | succ d ih =>
    intro s k a g σ ei h ha hu hae hb hc
    have hw := p2_bound h.2.1.2.1
    have hm8 := (h.2.2.2 s (by omega)).2.2.1
    show ∃ (t : St) (g' : Nat → Nat), f_X7_takesTold_n26_b (nI F) (f_X7_takesTold_n26 (nI F) (k + (d + 1))) σ 1 (nI s) = _ ∧ _
    unfold f_X7_takesTold_n26_b
    rw [bm_slots hb hF (by have := h.2.1; omega), bind_some, if_neg (NLe2 (2 ^ Q) s), if_neg (by decide), if_pos (Inb s 64), Cl s, (h.2.2.2 s (by omega)).1, if_pos (Inb s 64), an4]
    rcases Classical.em (∃ m, m < n ∧ po B 0 m = B m ∧ b + B m = s) with ⟨m, hm, eA, es⟩ | hno
    · -- a cluster begins
      have eam : a = m := by
        have h1 : ¬ m < a := fun z => by have := (hu m hm eA).1 z; omega
        rcases hae with e | e
        · omega
        · rcases Nat.lt_or_ge a m with q | q
          · exfalso
            have x := hst a m q hm
            have y : ¬ b + B a < s := fun z => by have := (hu a (by omega) e).2 z; omega
            omega
          · omega
      subst eam
      obtain ⟨r1, r2, r3, r4⟩ := rs_elem hl hq R hm
      rw [eA, es, Nat.mod_eq_of_lt (show s < 2 ^ Q by omega)] at r1 r2 r3 r4
      rw [if_pos rfl] at r2
      rw [if_neg (NeR (mm s) 0 0), if_pos (by rw [r2]; rfl)]
      obtain ⟨hb0, hz0⟩ := hz (by omega)
      obtain ⟨ltB, lbB, ctB⟩ := st_a_lt R.srt hm eA
      have el : lb (po B 0) n (B a + 0) = a := by
        rw [Nat.add_zero, ← eA]; exact (lb_next hst hm rfl).1
      obtain ⟨j, ej⟩ := cluster_eq (F := F) (s0 := s) h
      obtain ⟨t1, a', g1, a1, a2, a3, a4, a5, a6, a7, a8⟩ := ch_strong hP hF hl hq R hm eA hz0 (by omega) (2 ^ Q) 0 j g (-1) σ (by omega) (by have := R.lt a hm; omega) h (by rw [el]; exact hb) (by rw [el]; exact hc) (by
        rw [Nat.add_zero, lbB]
        intro m h1 h2
        omega) (by rw [el]; intro j h1 h2; omega) (fun z => by omega)
      rw [el, show B a + 0 = B a from rfl, lbB, Nat.sub_self, es] at a1
      have h1 : RWM t1 P Q mm rm := h.kp a8.s (fun z => z) (fun z => z) (fun j z => by omega) (fun j z => by omega)
      unfold f_X7_takesTold_n64
      rw [if_neg (by decide), ej, a1, bind2_some, if_neg (by decide), lt_q, nI_1]
      obtain ⟨t, g', b1, b2, b3, b4⟩ := ih (s + 1) k a' g1 t1 (by omega) h1 a3 (fun j hj e => by
        have u := hu j hj e
        constructor
        · intro z
          rcases Nat.lt_trichotomy j a with q | q | q
          · have := u.1 q; omega
          · rw [q]; omega
          · exact absurd e (a4 j q z)
        · intro z
          by_cases q : b + B j < s
          · have := u.2 q; omega
          · have e3 : B j = B a := by omega
            rcases Nat.lt_trichotomy j a with q2 | q2 | q2
            · omega
            · omega
            · have := hst a j q2 hj; omega) a5 a6 a7
      exact ⟨t, g', b1, b2, b3, a8.tr b4⟩
    · -- none begins here
      have hu' : ∀ m, m < n → po B 0 m = B m → (m < a ↔ b + B m < s + 1) := by
        intro j hj e
        have u := hu j hj e
        have : b + B j ≠ s := fun z => hno ⟨j, hj, e, z⟩
        omega
      have skip : ∃ (t : St) (g' : Nat → Nat), f_X7_takesTold_n63 (nI F) (f_X7_takesTold_n26 (nI F) (k + (d + 1))) σ (nI s) = f_X7_takesTold_n92 (nI F) t 1 ∧ BM t F n Q g' ∧ (∀ v, cnt g' n v = ci (fun m => f (rot k0 n m)) v n) ∧ Gr noI (cM F) σ t := by
        unfold f_X7_takesTold_n63 f_X7_takesTold_n64
        rw [if_pos rfl, lt_q, nI_1]
        exact ih (s + 1) k a g σ (by omega) h ha hu' hae hb hc
      by_cases c : mm s = 0
      · rw [if_pos (by rw [c]; rfl)]
        exact skip
      · rw [if_neg (NeR (mm s) 0 0)]
        have ex : (b + (s + (2 ^ Q - b)) % 2 ^ Q) % 2 ^ Q = s := by
          have := R.hb
          rw [Nat.add_mod, Nat.mod_mod, ← Nat.add_mod, show b + (s + (2 ^ Q - b)) = s + 2 ^ Q by omega, Nat.add_mod_right, Nat.mod_eq_of_lt (by omega)]
        rcases Classical.em (∃ m, m < n ∧ po B 0 m = (s + (2 ^ Q - b)) % 2 ^ Q) with ⟨m, hm, em⟩ | hno2
        · obtain ⟨r1, r2, r3, r4⟩ := rs_elem hl hq R hm
          rw [em, ex] at r2
          have hne : ¬ (s + (2 ^ Q - b)) % 2 ^ Q = B m := by
            intro z
            have eA : po B 0 m = B m := by rw [em]; exact z
            have x := hbB m hm eA
            refine hno ⟨m, hm, eA, ?_⟩
            rw [← z]
            rw [← z] at x
            rw [Nat.mod_eq_of_lt x] at ex
            exact ex
          rw [if_neg hne] at r2
          rw [if_neg (by rw [r2]; decide)]
          exact skip
        · exfalso
          have := rs_empty hq R (Nat.mod_lt (s + (2 ^ Q - b)) (show 0 < 2 ^ Q by omega)) (fun m hm e => hno2 ⟨m, hm, e⟩)
          rw [ex] at this
          exact c this
/-! what was is kept, and comes back -/
theorem sv_loop {F n q : Nat} {f : Nat → Nat} (hF : F < 2) : ∀ (d i k : Nat) (σ : St), i + d = n → BM σ F n q f → st_i σ 9 = nI n → (∀ j, j < i → st_a σ 11 j = nI (f j)) → ∃ t : St, f_X7_saves_n22 (nI F) (k + (d + 1)) σ (nI i) = some t ∧ (∀ j, j < n → st_a t 11 j = nI (f j)) ∧ Gr noI (fun k _ => k = 11) σ t := by
  intro d
  induction d with
  | zero =>
    intro i k σ e hb h9 hj
    have hn := hb.2.2.1
    have : i = n := by omega
    subst this
    refine ⟨σ, ?_, hj, Gr.rf⟩
    show f_X7_saves_n22_b (nI F) (f_X7_saves_n22 (nI F) k) σ (nI i) = _
    unfold f_X7_saves_n22_b
    rw [h9, if_pos (Le2 i i)]
  | succ d ih =>
    intro i k σ e hb h9 hj
    have hn := hb.2.2.1
    have g1 : Gr noI (fun k _ => k = 11) σ (put_a σ 11 i (nI (f i))) := gr_a (show 11 = 11 from rfl)
    obtain ⟨t, a1, a2, a3⟩ := ih (i + 1) k (put_a σ 11 i (nI (f i))) (by omega) (hb.kp g1.s (by omega) (by omega) (fun i hi z => by omega)) h9 (fun j hj' => by
      rw [sa_pa, if_pos rfl, upd_at]
      by_cases c : j = i
      · rw [if_pos c, c]
      · rw [if_neg c]; exact hj j (by omega))
    refine ⟨t, ?_, a2, g1.tr a3⟩
    show f_X7_saves_n22_b (nI F) (f_X7_saves_n22 (nI F) (k + (d + 1))) σ (nI i) = _
    unfold f_X7_saves_n22_b
    rw [h9, if_neg (NLe2 n i), bm_at hb hF (by omega), bind_some, if_pos (Inb i 64), lt_q, lt_q, Cl i, nI_1]
    exact a1
theorem sv_M {M : St} {F n q : Nat} {f : Nat → Nat} (hF : F < 2) (hb : BM M F n q f) : ∃ t : St, f_X7_saves M (nI F) = some t ∧ st_i t 9 = nI n ∧ st_i t 10 = nI q ∧ (∀ j, j < n → st_a t 11 j = nI (f j)) ∧ Gr (fun k => k = 9 ∨ k = 10) (fun k _ => k = 11) M t := by
  have hn := hb.2.2.1
  obtain ⟨j, hj⟩ := fuel_ge (k := n + 1) (by omega)
  have g1 : Gr (fun k => k = 9 ∨ k = 10) (fun k _ => k = 11) M (put_i (put_i M 9 (nI n)) 10 (nI q)) := (gr_i (Or.inl rfl)).tr (gr_i (Or.inr rfl))
  obtain ⟨t, a1, a2, a3⟩ := sv_loop (n := n) (q := q) (f := f) hF n 0 j (put_i (put_i M 9 (nI n)) 10 (nI q)) (by omega) (hb.kp g1.s (by omega) (by omega) (fun i hi z => by omega)) (by rw [si_pi, if_neg (by omega), si_pi, if_pos rfl]) (fun j hj => by omega)
  refine ⟨t, ?_, by rw [a3.1 9 (fun z => z), si_pi, if_neg (by omega), si_pi, if_pos rfl], by rw [a3.1 10 (fun z => z), si_pi, if_pos rfl], a2, g1.tr (a3.mono (fun k z => z.elim) (fun k j z => z))⟩
  unfold f_X7_saves
  rw [if_pos (Inb F 2), Cl F, lt_q, hb.1, if_pos (Inb F 2), lt_q, sa_pi, hb.2.1, hj, ← nI_0]
  exact a1
theorem back_loop {F n : Nat} {f : Nat → Nat} (hF : F < 2) (hn : n < 64) : ∀ (d i k : Nat) (σ : St), i + d = n → st_i σ 9 = nI n → (∀ j, j < n → st_a σ 11 j = nI (f j)) → (∀ j, j < i → st_a σ 3 (64 * F + j) = nI (f j)) → ∃ t : St, f_X7_comesBack_n22 (nI F) (k + (d + 1)) σ (nI i) = some t ∧ (∀ j, j < n → st_a t 3 (64 * F + j) = nI (f j)) ∧ Gr noI (fun k j => k = 3 ∧ 64 * F ≤ j ∧ j < 64 * F + 64) σ t := by
  intro d
  induction d with
  | zero =>
    intro i k σ e h9 h11 hj
    have : i = n := by omega
    subst this
    refine ⟨σ, ?_, hj, Gr.rf⟩
    show f_X7_comesBack_n22_b (nI F) (f_X7_comesBack_n22 (nI F) k) σ (nI i) = _
    unfold f_X7_comesBack_n22_b
    rw [h9, if_pos (Le2 i i)]
  | succ d ih =>
    intro i k σ e h9 h11 hj
    have g1 : Gr noI (fun k j => k = 3 ∧ 64 * F ≤ j ∧ j < 64 * F + 64) σ (put_a σ 3 (64 * F + i) (nI (f i))) := gr_a (show 3 = 3 ∧ 64 * F ≤ 64 * F + i ∧ 64 * F + i < 64 * F + 64 by omega)
    obtain ⟨t, a1, a2, a3⟩ := ih (i + 1) k (put_a σ 3 (64 * F + i) (nI (f i))) (by omega) h9 (fun j hj => by rw [sa_pa, if_neg (by omega)]; exact h11 j hj) (fun j hj' => by
      rw [sa_pa, if_pos rfl, upd_at]
      by_cases c : j = i
      · rw [if_pos (by omega), c]
      · rw [if_neg (by omega)]; exact hj j (by omega))
    refine ⟨t, ?_, a2, g1.tr a3⟩
    show f_X7_comesBack_n22_b (nI F) (f_X7_comesBack_n22 (nI F) (k + (d + 1))) σ (nI i) = _
    unfold f_X7_comesBack_n22_b
    rw [h9, if_neg (NLe2 n i), if_pos (Inb i 64), c64, if_pos (Inb (64 * F + i) 128), lt_q, lt_q, Cl i, Cl (64 * F + i), h11 i (by omega), nI_1]
    exact a1
theorem back_M {M : St} {F n q : Nat} {f : Nat → Nat} (hF : F < 2) (hn : n < 64) (hf : ∀ i, i < n → f i < 16384) (hs : Srt f n) (h9 : st_i M 9 = nI n) (h10 : st_i M 10 = nI q) (h11 : ∀ j, j < n → st_a M 11 j = nI (f j)) : ∃ t : St, f_X7_comesBack M (nI F) = some t ∧ BM t F n q f ∧ Gr noI (fA F) M t := by
  obtain ⟨j, hj⟩ := fuel_ge (k := n + 1) (by omega)
  have g1 : Gr noI (fA F) M (put_a (put_a M 2 F (nI n)) 1 F (nI q)) := (gr_a (show fA F 2 F by omega)).tr (gr_a (show fA F 1 F by omega))
  obtain ⟨t, a1, a2, a3⟩ := back_loop (n := n) (f := f) hF hn n 0 j (put_a (put_a M 2 F (nI n)) 1 F (nI q)) (by omega) (by rw [si_pa, si_pa]; exact h9) (fun j hj => by rw [sa_pa, if_neg (by omega), sa_pa, if_neg (by omega)]; exact h11 j hj) (fun j hj => by omega)
  refine ⟨t, ?_, ⟨?_, ?_, hn, a2, hf, hs⟩, g1.tr (a3.mono (fun k z => z) (fun k j z => Or.inr z))⟩
  · unfold f_X7_comesBack
    rw [if_pos (Inb F 2), Cl F, lt_q, h9, if_pos (Inb F 2), lt_q, si_pa, h10, hj, ← nI_0]
    exact a1
  · rw [a3.2.1 2 F (by omega), sa_pa, if_neg (by omega), sa_pa, if_pos rfl, upd_at, if_pos rfl]
  · rw [a3.2.1 1 F (by omega), sa_pa, if_pos rfl, upd_at, if_pos rfl]
