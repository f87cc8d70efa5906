/-! keeps -/
theorem subMax {a b : Nat} (ha : a < 2 ^ 30) (hb : b < 2 ^ 30) : (if (0 : Int32) < nI a - nI b then nI a - nI b else 0) = nI (a - b) := by
  by_cases c : b ≤ a
  · rw [pk_sub c]
    by_cases d : a - b = 0
    · rw [d, if_neg (by decide)]; rfl
    · rw [if_pos (LtL 0 0 (a - b))]
  · have : ¬ (0 : Int32) < nI a - nI b := by
      rw [Int32.lt_iff_toInt_lt, Int32.toInt_sub, nI_toInt (by omega), nI_toInt (by omega)]
      have e0 : (0 : Int32).toInt = 0 := rfl
      have e32 : ((2 ^ 32 : Nat) : Int) = 4294967296 := rfl
      rw [e0, Int.bmod_def, e32]
      split <;> omega
    rw [if_neg this, show a - b = 0 by omega]; rfl
def kept (x c0 c1 : Nat) : Nat := if x = 0 then c0 - c1 else min c0 c1
theorem kept_le (x c0 c1 : Nat) : kept x c0 c1 ≤ c0 := by unfold kept; split <;> omega
def KC (f0 : Nat → Nat) (n0 : Nat) (f1 : Nat → Nat) (n1 x : Nat) (w : Nat) : Nat → Nat
  | 0 => 0
  | i + 1 => KC f0 n0 f1 n1 x w i + if f0 i = w ∧ shb f0 n0 f1 n1 i = x then 1 else 0
theorem KC_end {f0 f1 : Nat → Nat} {n0 n1 x w : Nat} (hs : Srt f0 n0) (hx : x = 0 ∨ x = 1) : KC f0 n0 f1 n1 x w n0 = kept x (cnt f0 n0 w) (cnt f1 n1 w) := by
  have hiff := lb_iff hs w
  have hiff2 := lb_iff hs (w + 1)
  have hst := lb_step (f := f0) (n := n0) (v := w)
  have l2 := lb_le f0 n0 (w + 1)
  have p1 : ∀ i, i ≤ lb f0 n0 w → KC f0 n0 f1 n1 x w i = 0 := by
    intro i
    induction i with
    | zero => intro _; rfl
    | succ i ih =>
      intro hi
      have := hiff i (by omega)
      show KC f0 n0 f1 n1 x w i + (if f0 i = w ∧ shb f0 n0 f1 n1 i = x then 1 else 0) = 0
      rw [ih (by omega), if_neg (fun z => by omega)]
  have p2 : ∀ k, k ≤ cnt f0 n0 w → KC f0 n0 f1 n1 x w (lb f0 n0 w + k) = kept x k (cnt f1 n1 w) := by
    intro k
    induction k with
    | zero => intro _; rw [Nat.add_zero, p1 _ (Nat.le_refl _)]; unfold kept; split <;> omega
    | succ k ih =>
      intro hk
      have hk' : lb f0 n0 w + k < lb f0 n0 (w + 1) := by unfold cnt at hk; omega
      obtain ⟨-, e⟩ := blk hs (Nat.le_add_right _ _) hk'
      show KC f0 n0 f1 n1 x w (lb f0 n0 w + k) + (if f0 (lb f0 n0 w + k) = w ∧ shb f0 n0 f1 n1 (lb f0 n0 w + k) = x then 1 else 0) = _
      rw [ih (by omega)]
      have hb : shb f0 n0 f1 n1 (lb f0 n0 w + k) = if k < cnt f1 n1 w then 1 else 0 := by
        unfold shb
        rw [e, show lb f0 n0 w + k - lb f0 n0 w = k by omega]
      rw [hb, e]
      unfold kept
      by_cases c : k < cnt f1 n1 w
      · rw [if_pos c]
        rcases hx with rfl | rfl
        · simp only [↓reduceIte]
          rw [if_neg (fun z => by omega)]; omega
        · simp only [↓reduceIte, and_self]
          rw [if_neg (show ¬ (1 : Nat) = 0 by omega), if_neg (show ¬ (1 : Nat) = 0 by omega)]; omega
      · rw [if_neg c]
        rcases hx with rfl | rfl
        · simp only [↓reduceIte, and_self]; omega
        · rw [if_neg (show ¬ (1 : Nat) = 0 by omega), if_neg (show ¬ (1 : Nat) = 0 by omega), if_neg (fun z => by omega)]; omega
  have p3 : ∀ d i, i + d = n0 → lb f0 n0 (w + 1) ≤ i → KC f0 n0 f1 n1 x w n0 = KC f0 n0 f1 n1 x w i := by
    intro d
    induction d with
    | zero => intro i e _; rw [show i = n0 by omega]
    | succ d ih =>
      intro i e hi
      rw [ih (i + 1) (by omega) (by omega)]
      have := hiff2 i (by omega)
      show KC f0 n0 f1 n1 x w i + (if f0 i = w ∧ shb f0 n0 f1 n1 i = x then 1 else 0) = _
      rw [if_neg (fun z => by omega)]; rfl
  rw [p3 (n0 - lb f0 n0 (w + 1)) (lb f0 n0 (w + 1)) (by omega) (Nat.le_refl _)]
  have := p2 (cnt f0 n0 w) (Nat.le_refl _)
  rw [show lb f0 n0 w + cnt f0 n0 w = lb f0 n0 (w + 1) by unfold cnt; omega] at this
  exact this
theorem keeps_C {n0 q0 n1 q1 P x : Nat} {f0 f1 : Nat → Nat} (hx : x = 0 ∨ x = 1) (hP : ∀ i, i < n0 → f0 i < 2 ^ P) : ∀ (d i m k : Nat) (g : Nat → Nat) (σ : St), i + d = n0 → BC σ 0 n0 q0 f0 → BC σ 1 n1 q1 f1 → BC σ 2 m q0 g → m ≤ i → (∀ w, cnt g m w = KC f0 n0 f1 n1 x w i) → (∀ j, j < m → g j < 2 ^ P) → ∃ (m' : Nat) (g' : Nat → Nat) (t : St), BC t 0 n0 q0 f0 ∧ BC t 2 m' q0 g' ∧ m' ≤ n0 ∧ (∀ w, cnt g' m' w = KC f0 n0 f1 n1 x w n0) ∧ (∀ j, j < m' → g' j < 2 ^ P) ∧ Fr (bI 2) (bA 2) σ t ∧ f_X6_keeps_n16 (nI x) (k + (d + 1)) σ (nI i) = f_X6_keeps_n16 (nI x) (k + 1) t (nI n0) := by
  intro d
  induction d with
  | zero =>
    intro i m k g σ e h0 h1 h2 hm hc hb
    have : i = n0 := by omega
    subst this
    exact ⟨m, g, σ, h0, h2, hm, hc, hb, Fr.rf, rfl⟩
  | succ d ih =>
    intro i m k g σ e h0 h1 h2 hm hc hb
    have hn := h0.2.2.1
    have e3 : st_i σ 3 = nI n0 := h0.1
    have hbi := h0.2.2.2.2.1 i (by omega)
    by_cases c : shb f0 n0 f1 n1 i = x
    · obtain ⟨t, e1, g1, g2⟩ := bc_insert h2 (by omega) hbi
      obtain ⟨m', g', t2, k1, k2, k3, k4, k5, k6, k7⟩ := ih (i + 1) (m + 1) k _ t (by omega) (h0.keep g2 (by omega) (by omega) (by omega)) (h1.keep g2 (by omega) (by omega) (by omega)) g1 (by omega) (fun w => by
        rw [cnt_ins h2.2.2.2.2.2, hc w]
        show _ = KC f0 n0 f1 n1 x w i + (if f0 i = w ∧ shb f0 n0 f1 n1 i = x then 1 else 0)
        by_cases z : w = f0 i
        · rw [if_pos z, if_pos ⟨z.symm, c⟩]
        · rw [if_neg z, if_neg (fun y => z y.1.symm)]) (ins_bd hb (hP i (by omega)) (lb_le _ _ _))
      refine ⟨m', g', t2, k1, k2, k3, k4, k5, g2.tr k6, ?_⟩
      rw [← k7]
      show f_X6_keeps_n16_b (nI x) (f_X6_keeps_n16 (nI x) (k + (d + 1))) σ (nI i) = _
      unfold f_X6_keeps_n16_b
      rw [e3, if_neg (NLe2 n0 i), shared_C h0 h1 (by omega), bind_some, c, if_pos rfl, bc_at h0 (by omega), bind_some, e1, bind2_some, lt_q, nI_1]
    · obtain ⟨m', g', t2, k1, k2, k3, k4, k5, k6, k7⟩ := ih (i + 1) m k g σ (by omega) h0 h1 h2 (by omega) (fun w => by
        rw [hc w]
        show _ = KC f0 n0 f1 n1 x w i + (if f0 i = w ∧ shb f0 n0 f1 n1 i = x then 1 else 0)
        rw [if_neg (fun y => c y.2)]; rfl) hb
      refine ⟨m', g', t2, k1, k2, k3, k4, k5, k6, ?_⟩
      rw [← k7]
      have hs01 := shb_01 f0 n0 f1 n1 i
      show f_X6_keeps_n16_b (nI x) (f_X6_keeps_n16 (nI x) (k + (d + 1))) σ (nI i) = _
      unfold f_X6_keeps_n16_b
      rw [e3, if_neg (NLe2 n0 i), shared_C h0 h1 (by omega), bind_some, if_neg (Ne2 (shb f0 n0 f1 n1 i) x), lt_q, nI_1]
/-- saves -/
abbrev svI : Nat → Prop := fun k => k = 9 ∨ k = 10
abbrev svA : Nat → Nat → Prop := fun k _ => k = 11
theorem saves_loop {F n q : Nat} {f : Nat → Nat} (hF : F < 2) : ∀ (d i k : Nat) (σ : St), i + d = n → BM σ F n q f → st_i σ 9 = nI n → (∀ j, j < i → st_a σ 11 j = nI (f j)) → ∃ t : St, f_X7_saves_n22 (nI F) (k + (d + 1)) σ (nI i) = some t ∧ (∀ j, j < n → st_a t 11 j = nI (f j)) ∧ Gr noI svA σ t := by
  intro d
  induction d with
  | zero =>
    intro i k σ e h h9 hj
    have : i = n := by omega
    subst this
    have hn := h.2.2.1
    refine ⟨σ, ?_, hj, Gr.rf⟩
    show f_X7_saves_n22_b (nI F) (f_X7_saves_n22 (nI F) k) σ (nI i) = _
    unfold f_X7_saves_n22_b
    rw [h9, if_pos (Le2 i i)]
  | succ d ih =>
    intro i k σ e h h9 hj
    have hn := h.2.2.1
    have ga : Gr noI svA σ (put_a σ 11 i (nI (f i))) := gr_a rfl
    obtain ⟨t, e1, e2, e3⟩ := ih (i + 1) k (put_a σ 11 i (nI (f i))) (by omega) (h.keep ga (by omega) (by omega) (fun i hi => by omega)) (by rw [si_pa]; exact h9) (fun j hj' => by
      rw [sa_pa, if_pos rfl, upd_at]
      by_cases c : j = i
      · rw [if_pos c, c]
      · rw [if_neg c]; exact hj j (by omega))
    refine ⟨t, ?_, e2, ga.tr e3⟩
    show f_X7_saves_n22_b (nI F) (f_X7_saves_n22 (nI F) (k + (d + 1))) σ (nI i) = _
    unfold f_X7_saves_n22_b
    rw [h9, if_neg (NLe2 n i), bm_at h hF (by omega), bind_some, if_pos (Inb i 64), lt_q, lt_q, Cl i, nI_1, e1]
theorem saves_M {M : St} {F n q : Nat} {f : Nat → Nat} (h : BM M F n q f) (hF : F < 2) : ∃ t : St, f_X7_saves M (nI F) = some t ∧ st_i t 9 = nI n ∧ st_i t 10 = nI q ∧ (∀ j, j < n → st_a t 11 j = nI (f j)) ∧ Gr svI svA M t := by
  have hn := h.2.2.1
  have ga : Gr svI svA M (put_i (put_i M 9 (nI n)) 10 (nI q)) := (gr_i (by omega)).tr (gr_i (by omega))
  obtain ⟨j, hj⟩ := fuel_ge (k := n + 1) (by omega)
  obtain ⟨t, e1, e2, e3⟩ := saves_loop hF n 0 j (put_i (put_i M 9 (nI n)) 10 (nI q)) (by omega) (h.keep ga (by omega) (by omega) (fun i hi => by omega)) (by rw [si_pi, if_neg (by omega), si_pi, if_pos rfl]) (fun j hj => by omega)
  rw [← hj, nI_0] at e1
  refine ⟨t, ?_, ?_, ?_, e2, ga.tr (e3.mono (fun k z => z.elim) (fun k j z => z))⟩
  · unfold f_X7_saves
    rw [if_pos (Inb F 2), lt_q, if_pos (Inb F 2), lt_q, Cl F, h.1, sa_pi, h.2.1, e1]
  · rw [e3.1 9 (fun z => z), si_pi, if_neg (by omega), si_pi, if_pos rfl]
  · rw [e3.1 10 (fun z => z), si_pi, if_pos rfl]
theorem keeps_in {q v i y6 : Nat} {x1 : Int32} {k14 : St → Int32 → Int32 → Option (Int32 × St)} (hv : v < 2 ^ 30) (hi : i < 64) (h6 : y6 < 64) : ∀ (d y7 k n' Y : Nat) (f' : Nat → Nat) (σ : St), y7 + d = y6 → BM σ 0 n' q f' → st_a σ 11 i = nI v → d ≤ cnt f' n' v → ∃ (n'' : Nat) (f'' : Nat → Nat) (t : St), n'' + d = n' ∧ BM t 0 n'' q f'' ∧ (∀ w, cnt f'' n'' w = cnt f' n' w - if w = v then d else 0) ∧ (d = 0 → f'' = f') ∧ Gr noI (fA 0) σ t ∧ f_X7_keeps_n98 x1 k14 (k + (d + 1)) σ (nI Y) (nI i) (nI y6) (nI y7) = k14 t (nI (Y + d)) (nI (i + 1)) := by
  intro d
  induction d with
  | zero =>
    intro y7 k n' Y f' σ e h h11 hd
    refine ⟨n', f', σ, by omega, h, fun w => by split <;> omega, fun _ => rfl, Gr.rf, ?_⟩
    show f_X7_keeps_n98_b x1 k14 (f_X7_keeps_n98 x1 k14 k) σ _ _ _ _ = _
    unfold f_X7_keeps_n98_b
    rw [if_pos (Le2 y6 y7), lt_q, nI_1]
    rfl
  | succ d ih =>
    intro y7 k n' Y f' σ e h h11 hd
    rcases bm_goes h (F := 0) (by omega) (v := v) hv with ⟨z, -⟩ | ⟨z, t, e1, g1, g2⟩
    · omega
    · have hc := cnt_del h.2.2.2.2.2 z
      obtain ⟨n'', f'', t2, k1, k2, k3, k4, k5, k6⟩ := ih (y7 + 1) k (n' - 1) (Y + 1) _ t (by omega) g1 (by rw [g2.2.1 11 i (by omega)]; exact h11) (by rw [hc v, if_pos rfl]; omega)
      have hle := cnt_le f' n' v
      refine ⟨n'', f'', t2, by omega, k2, fun w => ?_, fun z => by omega, g2.tr k5, ?_⟩
      · rw [k3 w, hc w]
        split <;> omega
      · rw [show Y + (d + 1) = Y + 1 + d by omega, ← k6]
        have e1' : f_X7_goes σ 0 (nI v) = some (1, t) := e1
        show f_X7_keeps_n98_b x1 k14 (f_X7_keeps_n98 x1 k14 (k + (d + 1))) σ _ _ _ _ = _
        unfold f_X7_keeps_n98_b
        rw [if_neg (NLe2 y6 y7), if_pos (Inb i 64), Cl i, h11, e1', bind2_some, lt_q, lt_q, flag_1, nI_1, nI_1]
theorem kept_M {M : St} {n0 q0 n1 q1 x v : Nat} {f0 f1 : Nat → Nat} (h0 : BM M 0 n0 q0 f0) (h1 : BM M 1 n1 q1 f1) (hv : v < 2 ^ 30) (hx : x = 0 ∨ x = 1) : f_X7_keptOf M (nI v) (nI x) = some (nI (kept x (cnt f0 n0 v) (cnt f1 n1 v))) := by
  have hn0 := h0.2.2.1
  have hn1 := h1.2.2.1
  have c0 : f_X7_countOf M 0 (nI v) = some (nI (cnt f0 n0 v)) := bm_count (F := 0) h0 (by omega) hv
  have c1 : f_X7_countOf M 1 (nI v) = some (nI (cnt f1 n1 v)) := bm_count (F := 1) h1 (by omega) hv
  have l0 := cnt_le f0 n0 v
  have l1 := cnt_le f1 n1 v
  unfold f_X7_keptOf kept
  rw [c0, bind_some, c1, bind_some]
  rcases hx with rfl | rfl
  · rw [if_pos nI_0, if_pos rfl, subMax (by omega) (by omega)]
  · rw [if_neg (show ¬ nI 1 = 0 by decide), if_neg (show ¬ (1 : Nat) = 0 by omega)]
    by_cases c : cnt f1 n1 v < cnt f0 n0 v
    · rw [if_pos (Lt2 _ _ c), show min (cnt f0 n0 v) (cnt f1 n1 v) = cnt f1 n1 v by omega]
    · rw [if_neg (NLt2 (cnt f1 n1 v) (cnt f0 n0 v)), show min (cnt f0 n0 v) (cnt f1 n1 v) = cnt f0 n0 v by omega]
theorem cnt_succ (f : Nat → Nat) (i w : Nat) : cnt f (i + 1) w = cnt f i w + if f i = w then 1 else 0 := by
  have hst := lb_step (f := f) (n := i) (v := w)
  unfold cnt
  simp only [lb]
  by_cases c : f i = w
  · rw [if_pos c, if_pos (by omega), if_neg (by omega)]; omega
  · rw [if_neg c]
    by_cases d : f i < w
    · rw [if_pos (by omega), if_pos d]; omega
    · rw [if_neg (by omega), if_neg d]; omega
theorem keeps_M {n0 q0 n1 q1 x : Nat} {f0 f1 : Nat → Nat} (hx : x = 0 ∨ x = 1) (hs : Srt f0 n0) (hb : ∀ i, i < n0 → f0 i < 16384) (hn0 : n0 < 64) : ∀ (d i k n' : Nat) (f' : Nat → Nat) (σ : St), i + d = n0 → BM σ 0 n' q0 f' → BM σ 1 n1 q1 f1 → st_i σ 9 = nI n0 → (∀ j, j < n0 → st_a σ 11 j = nI (f0 j)) → n' ≤ n0 → (n' = n0 → BM σ 0 n0 q0 f0) → (∀ w, cnt f' n' w = if 0 < cnt f0 i w then kept x (cnt f0 n0 w) (cnt f1 n1 w) else cnt f0 n0 w) → ∃ (m : Nat) (g : Nat → Nat) (t : St), m ≤ n0 ∧ BM t 0 m q0 g ∧ st_i t 9 = nI n0 ∧ (m = n0 → BM t 0 n0 q0 f0) ∧ (∀ w, cnt g m w = kept x (cnt f0 n0 w) (cnt f1 n1 w)) ∧ Gr noI (fA 0) σ t ∧ f_X7_keeps_n14 (nI x) (k + (d + 1)) σ (nI (n0 - n')) (nI i) = f_X7_keeps_n14 (nI x) (k + 1) t (nI (n0 - m)) (nI n0) := by
  intro d
  induction d with
  | zero =>
    intro i k n' f' σ e h0 h1 h9 h11 hle hsame hc
    have : i = n0 := by omega
    subst this
    refine ⟨n', f', σ, hle, h0, h9, hsame, fun w => ?_, Gr.rf, rfl⟩
    rw [hc w]
    by_cases c : 0 < cnt f0 i w
    · rw [if_pos c]
    · rw [if_neg c]
      have := kept_le x (cnt f0 i w) (cnt f1 n1 w)
      omega
  | succ d ih =>
    intro i k n' f' σ e h0 h1 h9 h11 hle hsame hc
    have hbi := hb i (by omega)
    have hsi : Srt f0 i := hs.mono (by omega)
    have first : cnt f0 i (f0 i) = 0 → ∃ (m : Nat) (g : Nat → Nat) (t : St), m ≤ n0 ∧ BM t 0 m q0 g ∧ st_i t 9 = nI n0 ∧ (m = n0 → BM t 0 n0 q0 f0) ∧ (∀ w, cnt g m w = kept x (cnt f0 n0 w) (cnt f1 n1 w)) ∧ Gr noI (fA 0) σ t ∧ f_X7_keeps_n43 (nI x) (f_X7_keeps_n14 (nI x) (k + (d + 1))) σ (nI (n0 - n')) (nI i) = f_X7_keeps_n14 (nI x) (k + 1) t (nI (n0 - m)) (nI n0) := by
      intro h00
      have hcv := hc (f0 i)
      rw [if_neg (by omega)] at hcv
      have hk := kept_le x (cnt f0 n0 (f0 i)) (cnt f1 n1 (f0 i))
      have hcl := cnt_le f0 n0 (f0 i)
      obtain ⟨j, hj⟩ := fuel_ge (k := cnt f0 n0 (f0 i) - kept x (cnt f0 n0 (f0 i)) (cnt f1 n1 (f0 i)) + 1) (by omega)
      obtain ⟨n'', f'', t, k1, k2, k3, k4, k5, k6⟩ := keeps_in (x1 := nI x) (k14 := f_X7_keeps_n14 (nI x) (k + (d + 1))) (v := f0 i) (i := i) (y6 := cnt f0 n0 (f0 i)) (by omega) (by omega) (by omega) (cnt f0 n0 (f0 i) - kept x (cnt f0 n0 (f0 i)) (cnt f1 n1 (f0 i))) (kept x (cnt f0 n0 (f0 i)) (cnt f1 n1 (f0 i))) j n' (n0 - n') f' σ (by omega) h0 (h11 i (by omega)) (by omega)
      rw [← hj] at k6
      have h1' := h1.keep k5 (by omega) (by omega) (fun i hi => by omega)
      obtain ⟨m, g, t2, m1, m2, m3, m4, m5, m6, m7⟩ := ih (i + 1) k n'' f'' t (by omega) k2 h1' (by rw [k5.1 9 (fun z => z)]; exact h9) (fun j hj => by rw [k5.2.1 11 j (by omega)]; exact h11 j hj) (by omega) (fun z => by
          have d0 : cnt f0 n0 (f0 i) - kept x (cnt f0 n0 (f0 i)) (cnt f1 n1 (f0 i)) = 0 := by omega
          have hnn : n' = n0 := by omega
          have b0 := hsame hnn
          have ef := k4 d0
          subst ef
          have e1 := (k2.2.2.2.1)
          have e2 := h0.2.2.2.1
          have e3 := b0.2.2.2.1
          refine ⟨?_, k2.2.1, b0.2.2.1, fun j hj => ?_, b0.2.2.2.2.1, b0.2.2.2.2.2⟩
          · rw [k2.1, z]
          · rw [e1 j (by omega), ← e2 j (by omega), e3 j (by omega)]) (fun w => by
          rw [k3 w, hc w, cnt_succ]
          by_cases z : f0 i = w
          · subst z
            rw [if_neg (by omega), if_pos rfl, if_pos rfl, if_pos (by omega)]; omega
          · rw [if_neg (show ¬ w = f0 i from fun y => z y.symm), if_neg z, Nat.sub_zero, Nat.add_zero])
      refine ⟨m, g, t2, m1, m2, m3, m4, m5, k5.tr m6, ?_⟩
      rw [← m7]
      unfold f_X7_keeps_n43 f_X7_keeps_n48 f_X7_keeps_n70
      have c0 : f_X7_countOf σ 0 (nI (f0 i)) = some (nI (cnt f' n' (f0 i))) := bm_count (F := 0) h0 (by omega) (by omega)
      have ek := kept_M h0 h1 (v := f0 i) (by omega) hx
      rw [hcv] at c0 ek
      have n10 : ¬ (1 : Int32) = 0 := by decide
      rw [if_neg n10, if_pos (Inb i 64), Cl i, h11 i (by omega), ek, bind_some, if_neg n10, if_pos (Inb i 64), c0, bind_some, k6, show n0 - n' + (cnt f0 n0 (f0 i) - kept x (cnt f0 n0 (f0 i)) (cnt f1 n1 (f0 i))) = n0 - n'' by omega]
    show ∃ (m : Nat) (g : Nat → Nat) (t : St), m ≤ n0 ∧ BM t 0 m q0 g ∧ st_i t 9 = nI n0 ∧ (m = n0 → BM t 0 n0 q0 f0) ∧ (∀ w, cnt g m w = kept x (cnt f0 n0 w) (cnt f1 n1 w)) ∧ Gr noI (fA 0) σ t ∧ f_X7_keeps_n14_b (nI x) (f_X7_keeps_n14 (nI x) (k + (d + 1))) σ (nI (n0 - n')) (nI i) = _
    unfold f_X7_keeps_n14_b
    rw [h9, if_neg (NLe2 n0 i)]
    by_cases z : i = 0
    · rw [if_pos (show nI i = 0 by rw [z]; rfl)]
      refine first ?_
      rw [z]
      rfl
    · have hbi1 := hb (i - 1) (by omega)
      rw [if_neg (nI_ne0 (by omega) (by omega)), Sub1 i, if_pos (Inb (i - 1) 64), if_pos (Inb i 64), Cl (i - 1), Cl i, h11 i (by omega), h11 (i - 1) (by omega)]
      by_cases c : f0 (i - 1) = f0 i
      · have hpos : 0 < cnt f0 i (f0 i) := by
          have a1 := lb_iff hsi (f0 i) (i - 1) (by omega)
          have a2 := lb_iff hsi (f0 i + 1) (i - 1) (by omega)
          unfold cnt
          omega
        rw [c, if_pos rfl]
        obtain ⟨m, g, t2, m1, m2, m3, m4, m5, m6, m7⟩ := ih (i + 1) k n' f' σ (by omega) h0 h1 h9 h11 hle hsame (fun w => by
          rw [hc w, cnt_succ]
          by_cases z : f0 i = w
          · subst z
            rw [if_pos hpos, if_pos (by omega)]
          · rw [if_neg z]; rfl)
        refine ⟨m, g, t2, m1, m2, m3, m4, m5, m6, ?_⟩
        rw [← m7]
        unfold f_X7_keeps_n48 f_X7_keeps_n70
        obtain ⟨j, hj⟩ := fuel_ge (k := 1) (by omega)
        simp only [↓reduceIte]
        rw [hj]
        show f_X7_keeps_n98_b (nI x) (f_X7_keeps_n14 (nI x) (k + (d + 1))) (f_X7_keeps_n98 (nI x) (f_X7_keeps_n14 (nI x) (k + (d + 1))) j) σ _ _ 0 0 = _
        unfold f_X7_keeps_n98_b
        rw [if_pos (by decide), lt_q, nI_1]
      · rw [if_neg (Ne2 (f0 (i - 1)) (f0 i))]
        refine first ?_
        by_cases c2 : 0 < cnt f0 i (f0 i)
        · obtain ⟨a1, a2⟩ := (cnt_pos hsi).1 c2
          have a3 := hsi (lb f0 i (f0 i)) (i - 1) (by omega) (by omega)
          have a4 := hs (i - 1) i (by omega) (by omega)
          omega
        · omega
theorem BM.cg {σ : St} {F n q : Nat} {f g : Nat → Nat} (h : BM σ F n q f) (e : ∀ i, i < n → f i = g i) : BM σ F n q g :=
  ⟨h.1, h.2.1, h.2.2.1, fun i hi => by rw [h.2.2.2.1 i hi, e i hi], fun i hi => by rw [← e i hi]; exact h.2.2.2.2.1 i hi, fun i j hij hj => by rw [← e i (by omega), ← e j hj]; exact h.2.2.2.2.2 i j hij hj⟩
theorem m_keeps {C M : St} (h : Rel C M) {x : Nat} (hx : x = 0 ∨ x = 1) : Ok2 (f_X6_keeps C (nI x)) (f_X7_keeps M (nI x)) := by
  have h' := h.thr 0
  unfold f_X6_keeps f_X7_keeps
  rw [lt_q]
  obtain ⟨P, L, n, q, f, kr, gr, kt, gt, h1, h2, h3, h5, h6⟩ := id h'
  generalize hM : put_i M 0 0 = M0 at h' h1 h2 h3 h6 ⊢
  have A0 := h2 0 (by omega)
  have A1 := h2 1 (by omega)
  have hn0 := A0.1.2.2.1
  have hn1 := A1.1.2.2.1
  have e4 : st_i C 4 = nI (q 0) := A0.1.2.1
  have hs := A0.1.2.2.2.2.2
  obtain ⟨t1, c1, c2, c3⟩ := bc_empty C 2 (q := q 0) (f 0)
  obtain ⟨j, hj⟩ := fuel_ge (k := n 0 + 1) (by omega)
  obtain ⟨m', g', t2, d1, d2, d3, d4, d5, d6, d7⟩ := keeps_C hx A0.2.2.2.2 (n 0) 0 0 j (f 0) t1 (by omega) (A0.1.keep c3 (by omega) (by omega) (by omega)) (A1.1.keep c3 (by omega) (by omega) (by omega)) c2 (by omega) (fun w => by unfold cnt; rfl) (fun j hj => by omega)
  rw [← hj, nI_0] at d7
  obtain ⟨u1, s1, s2, s3, s4, s5⟩ := saves_M A0.2.1 (by omega)
  have s1' : f_X7_saves M0 0 = some u1 := s1
  obtain ⟨m, g, u2, m1, m2, m3, m4, m5, m6, m7⟩ := keeps_M (q0 := q 0) (q1 := q 1) hx hs A0.1.2.2.2.2.1 hn0 (n 0) 0 j (n 0) (f 0) u1 (by omega) (A0.2.1.keep s5 (by omega) (by omega) (fun i hi => by omega)) (A1.2.1.keep s5 (by omega) (by omega) (fun i hi => by omega)) s2 s4 (by omega) (fun _ => A0.2.1.keep s5 (by omega) (by omega) (fun i hi => by omega)) (fun w => by rw [if_neg]; show ¬ 0 < cnt (f 0) 0 w; unfold cnt; simp [lb])
  rw [← hj, nI_0, show n 0 - n 0 = 0 by omega, nI_0] at m7
  have same := same_of_cnt (B := 16384) d2.2.2.2.2.2 m2.2.2.2.2.2 d2.2.2.2.2.1 m2.2.2.2.2.1 (fun w => by rw [d4 w, m5 w, KC_end hs hx])
  obtain ⟨em, eg⟩ := same
  subst em
  rw [e4, c1, bind_some, d7, s1', bind_some, m7]
  show Ok2 (f_X6_keeps_n16_b (nI x) (f_X6_keeps_n16 (nI x) j) t2 (nI (n 0))) (f_X7_keeps_n14_b (nI x) (f_X7_keeps_n14 (nI x) j) u2 (nI (n 0 - m')) (nI (n 0)))
  unfold f_X6_keeps_n16_b f_X7_keeps_n14_b
  have e3 : st_i t2 3 = nI (n 0) := d1.1
  have e7 : st_i t2 7 = nI m' := d2.1
  have fa : Fr (bI 2) (bA 2) C t2 := c3.tr d6
  have ga : Gr svI (fun k j => fA 0 k j ∨ k = 11) M0 u2 := (s5.mono (fun k z => z) (fun k j z => Or.inr z)).tr (m6.mono (fun k z => z.elim) (fun k j z => Or.inl z))
  have hH : Hd t2 u2 P L := h1.kp fa.s ga.s (fun k z => by omega) (fun k z => by omega)
  have B1 : Fl t2 u2 P 1 (n 1) (q 1) (f 1) := A1.kp fa.s ga.s ⟨by omega, by omega⟩ (by omega) ⟨by omega, by omega, fun i hi z => by omega⟩
  rw [e3, e7, if_pos (Le2 (n 0) (n 0)), lt_q, Sub2 (n 0) m', m3, if_pos (Le2 (n 0) (n 0))]
  by_cases c : n 0 - m' = 0
  · rw [c, if_pos nI_0, if_pos nI_0]
    have b0 := m4 (by omega)
    refine ⟨_, _, _, rfl, rfl, P, L, n, q, f, kr, gr, kt, gt, hH, fun F hF => ?_, ⟨h3.1.kp fa (by omega), h3.2.kp ga (by omega)⟩, h5.kp fa.s (by omega) (by omega), h6.kp ga.s (by omega) (fun j z => by omega)⟩
    rcases (show F = 0 ∨ F = 1 by omega) with rfl | rfl
    · exact ⟨d1, b0, A0.2.2⟩
    · exact B1
  · obtain ⟨t3, w1, w2, w3⟩ := bc_like (b := 0) (b1 := 2) (by omega) d2
    rw [if_neg (nI_ne0 (by omega) (by omega)), if_neg (nI_ne0 (by omega) (by omega)), w1, bind_some]
    have fa3 : Fr (fun k => k = 3 ∨ k = 4 ∨ k = 7 ∨ k = 8) (fun k => k = 0 ∨ k = 2) C t3 := (fa.mono (fun k z => by omega) (fun k z => by omega)).tr (w3.mono (fun k z => by omega) (fun k z => by omega))
    have hq := A0.2.2.2.1
    refine ⟨_, _, _, rfl, rfl, P, L, fun F => if F = 0 then m' else n F, q, fun F => if F = 0 then g' else f F, kr, gr, kt, gt, h1.kp fa3.s ga.s (fun k z => by omega) (fun k z => by omega), fun F hF => ?_, ⟨h3.1.kp fa3 (by omega), h3.2.kp ga (by omega)⟩, h5.kp fa3.s (by omega) (by omega), h6.kp ga.s (by omega) (fun j z => by omega)⟩
    rcases (show F = 0 ∨ F = 1 by omega) with rfl | rfl
    · exact ⟨w2, m2.cg (fun i hi => (eg i hi).symm), A0.2.2.1, (show m' < 2 ^ q 0 by omega), d5⟩
    · exact ⟨B1.1.keep w3 (by omega) (by omega) (by omega), B1.2⟩
