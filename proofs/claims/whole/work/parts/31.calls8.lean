/-! putting one print in; pouring -/
def WD (P L n q : Nat) : Prop := L * 2 ^ q < 100 * (n + 1) ∧ q < min 6 (P - 1)
def Q1 (P L n q : Nat) : Nat := if L * 2 ^ q < 100 * (n + 1) ∧ q < min 6 (P - 1) then q + 1 else q
theorem nI_mul (a b : Nat) : nI a * nI b = nI (a * b) := (Int32.ofNat_mul a b).symm
theorem must_C {C M : St} {P L b n q : Nat} {f : Nat → Nat} (h : Hd C M P L) (hb : BC C b n q f) (hq : q ≤ 6) : f_X6_mustDouble C b = if L * 2 ^ q < 100 * (n + 1) ∧ q < min 6 (P - 1) then 1 else 0 := by
  have hp := h.1
  have hl := h.2.1
  have hw := p2_bound hq
  have hn := hb.2.2.1
  have hm : L * 2 ^ q ≤ 95 * 64 := Nat.mul_le_mul hl.2 hw.2
  unfold f_X6_mustDouble
  rw [hb.1, hb.2.1, bc_slots hb (by omega), gq_eq h, h.2.2.2.2.2.1, nI_1, nI_mul, show (100 : Int32) = nI 100 from rfl, nI_mul]
  by_cases c : 100 * (n + 1) ≤ L * 2 ^ q
  · rw [if_pos (Le2 _ _ c), if_neg (by omega)]
  · rw [if_neg (NLe2 (100 * (n + 1)) (L * 2 ^ q))]
    by_cases d : min 6 (P - 1) ≤ q
    · rw [if_pos (Le2 (min 6 (P - 1)) q), if_neg (by omega)]
    · rw [if_neg (NLe2 (min 6 (P - 1)) q), if_pos (by omega)]
theorem must_M {C M : St} {P L F n q : Nat} {f : Nat → Nat} (h : Hd C M P L) (hb : BM M F n q f) (hF : F < 2) (hq : q ≤ 6) : f_X7_wouldDouble M (nI F) = some (if L * 2 ^ q < 100 * (n + 1) ∧ q < min 6 (P - 1) then 1 else 0) := by
  have hp := h.1
  have hl := h.2.1
  have hw := p2_bound hq
  have hn := hb.2.2.1
  have hm : L * 2 ^ q ≤ 95 * 64 := Nat.mul_le_mul hl.2 hw.2
  unfold f_X7_wouldDouble
  rw [if_pos (Inb F 2), bm_slots hb hF (by omega), bind_some, Cl F, hb.1, h.2.2.2.2.2.2, canD_eq h hb hF hq, bind_some, nI_1, nI_mul, show (100 : Int32) = nI 100 from rfl, nI_mul]
  by_cases c : 100 * (n + 1) ≤ L * 2 ^ q
  · rw [if_pos (Le2 _ _ c), if_neg (by omega)]
  · rw [if_neg (NLe2 (100 * (n + 1)) (L * 2 ^ q))]
    by_cases d : q < min 6 (P - 1)
    · rw [if_pos d, if_neg (by decide), if_pos (by omega)]
    · rw [if_neg d, if_pos rfl, if_neg (by omega)]
theorem put_C {C M : St} {P L b n q : Nat} {f : Nat → Nat} (h : Hd C M P L) (hb : BC C b n q f) (hq : q ≤ 6) (hn : n < 2 ^ q) {v : Nat} (hv : v < 16384) : (n + 1 < 2 ^ Q1 P L n q ∧ ∃ t : St, f_X6_putIn C b (nI v) = some (nI (lb f n (v + 1)), t) ∧ BC t b (n + 1) (Q1 P L n q) (ins f (lb f n (v + 1)) v) ∧ Fr (bI b) (bA b) C t) ∨ (¬ n + 1 < 2 ^ Q1 P L n q ∧ f_X6_putIn C b (nI v) = some (-1, C)) := by
  have hw := p2_bound hq
  unfold f_X6_putIn f_X6_putIn_n18
  rw [must_C h hb hq]
  unfold Q1
  by_cases c : L * 2 ^ q < 100 * (n + 1) ∧ q < min 6 (P - 1)
  · rw [if_pos c, if_pos c, if_neg (by decide), lt_q, hb.2.1, nI_1]
    have hp : 2 ^ (q + 1) = 2 * 2 ^ q := by rw [Nat.pow_succ]; omega
    have hw2 := p2_bound (q := q + 1) (by omega)
    have hb' : BC (put_i C (4 + 2 * b) (nI (q + 1))) b n (q + 1) f := ⟨by rw [si_pi, if_neg (by omega)]; exact hb.1, by rw [si_pi, if_pos rfl], hb.2.2.1, hb.2.2.2.1, hb.2.2.2.2.1, hb.2.2.2.2.2⟩
    refine Or.inl ⟨by omega, ?_⟩
    obtain ⟨t, e, g1, g2⟩ := bc_insert hb' (by omega) hv
    rw [bc_full hb' (by omega), if_pos (show n + 1 < 2 ^ (q + 1) by omega), if_pos rfl, e, bind2_some]
    exact ⟨t, rfl, g1, fr_b2.tr g2⟩
  · rw [if_neg c, if_neg c, if_pos rfl, bc_full hb hq]
    by_cases d : n + 1 < 2 ^ q
    · refine Or.inl ⟨d, ?_⟩
      obtain ⟨t, e, g1, g2⟩ := bc_insert hb (by omega) hv
      rw [if_pos d, if_pos rfl, e, bind2_some]
      exact ⟨t, rfl, g1, g2⟩
    · refine Or.inr ⟨d, ?_⟩
      rw [if_neg d, if_neg (by decide)]
theorem put_M {C M : St} {P L F n q : Nat} {f : Nat → Nat} (h : Hd C M P L) (hb : BM M F n q f) (hF : F < 2) (hq : q ≤ 6) (hn : n < 2 ^ q) {v : Nat} (hv : v < 16384) {x : Int32} (hx : f_X7_printOf M x = nI v) : (n + 1 < 2 ^ Q1 P L n q ∧ ∃ u : St, f_X7_putsOne M (nI F) x = some (nI (2 ^ Q1 P L n q), u) ∧ BM u F (n + 1) (Q1 P L n q) (ins f (lb f n (v + 1)) v) ∧ Gr noI (fA F) M u) ∨ (¬ n + 1 < 2 ^ Q1 P L n q ∧ f_X7_putsOne M (nI F) x = some (-5, M)) := by
  have hw := p2_bound hq
  unfold f_X7_putsOne f_X7_putsOne_n40
  rw [must_M h hb hF hq, bind_some]
  unfold Q1
  by_cases c : L * 2 ^ q < 100 * (n + 1) ∧ q < min 6 (P - 1)
  · rw [if_pos c, if_pos c, if_neg (by decide), if_pos (Inb F 2), if_pos (Inb F 2), lt_q, Cl F, hb.2.1, nI_1]
    have hp : 2 ^ (q + 1) = 2 * 2 ^ q := by rw [Nat.pow_succ]; omega
    have hw2 := p2_bound (q := q + 1) (by omega)
    have hb' : BM (put_a M 1 F (nI (q + 1))) F n (q + 1) f := by
      obtain ⟨h1, h2, h3, h4, h5, h6⟩ := hb
      exact ⟨by rw [sa_pa, if_neg (by omega)]; exact h1, by rw [sa_pa, if_pos rfl, upd_at, if_pos rfl], h3, fun i hi => by rw [sa_pa, if_neg (by omega)]; exact h4 i hi, h5, h6⟩
    refine Or.inl ⟨by omega, ?_⟩
    have hx' : f_X7_printOf (put_a M 1 F (nI (q + 1))) x = nI v := by
      unfold f_X7_printOf at hx ⊢
      rw [si_pa, si_pa]; exact hx
    obtain ⟨u, e, g1, g2⟩ := bm_comes hb' hF (by omega) hv
    rw [hx', e, bind_some, bm_slots g1 hF (by omega), bind_some]
    exact ⟨u, rfl, g1, (gr_a (by omega)).tr g2⟩
  · rw [if_neg c, if_neg c, if_pos rfl, if_pos (Inb F 2), bm_slots hb hF (by omega), bind_some, Cl F, hb.1, Sub1 (2 ^ q)]
    by_cases d : n + 1 < 2 ^ q
    · refine Or.inl ⟨d, ?_⟩
      obtain ⟨u, e, g1, g2⟩ := bm_comes hb hF (by omega) hv
      rw [if_neg (Ne2 n (2 ^ q - 1)), hx, e, bind_some, bm_slots g1 hF (by omega), bind_some]
      exact ⟨u, rfl, g1, g2⟩
    · refine Or.inr ⟨d, ?_⟩
      rw [show n = 2 ^ q - 1 by omega, if_pos rfl]
/-- the values f i, f (i+1), .. put in, d of them -/
def insAll (f : Nat → Nat) : Nat → Nat → (Nat → Nat) → Nat → (Nat → Nat)
  | _, 0, g, _ => g
  | i, d + 1, g, m => insAll f (i + 1) d (ins g (lb g m (f i + 1)) (f i)) (m + 1)
theorem ins_bd {g : Nat → Nat} {m p v B : Nat} (hg : ∀ i, i < m → g i < B) (hv : v < B) (hp : p ≤ m) : ∀ i, i < m + 1 → ins g p v i < B := by
  intro i hi
  unfold ins
  split
  · exact hg i (by omega)
  · split
    · exact hv
    · exact hg (i - 1) (by omega)
theorem insAll_bd {f : Nat → Nat} {B : Nat} : ∀ (d i m : Nat) (g : Nat → Nat), (∀ j, j < i + d → f j < B) → (∀ j, j < m → g j < B) → ∀ j, j < m + d → insAll f i d g m j < B := by
  intro d
  induction d with
  | zero => intro i m g _ hg j hj; exact hg j (by omega)
  | succ d ih =>
    intro i m g hf hg j hj
    exact ih (i + 1) (m + 1) _ (fun j hj => hf j (by omega)) (ins_bd hg (hf i (by omega)) (lb_le _ _ _)) j (by omega)
theorem pour_C {b1 b2 n1 q1 q2 : Nat} {f : Nat → Nat} (hne : b1 ≠ b2) : ∀ (d i m k : Nat) (g : Nat → Nat) (σ : St), i + d = n1 → BC σ b1 n1 q1 f → BC σ b2 m q2 g → m + d < 64 → ∃ t : St, BC t b1 n1 q1 f ∧ BC t b2 (m + d) q2 (insAll f i d g m) ∧ Fr (bI b2) (bA b2) σ t ∧ f_X6_pour_n2 b1 b2 (k + (d + 1)) σ (nI i) = f_X6_pour_n2 b1 b2 (k + 1) t (nI n1) := by
  intro d
  induction d with
  | zero =>
    intro i m k g σ e h1 h2 _
    have : i = n1 := by omega
    subst this
    exact ⟨σ, h1, h2, Fr.rf, rfl⟩
  | succ d ih =>
    intro i m k g σ e h1 h2 hm
    have hb := h1.2.2.2.2.1 i (by omega)
    have hn := h1.2.2.1
    obtain ⟨t, e1, g1, g2⟩ := bc_insert h2 (by omega) hb
    obtain ⟨t2, k1, k2, k3, k4⟩ := ih (i + 1) (m + 1) k _ t (by omega) (h1.keep g2 (by omega) (by omega) (by omega)) g1 (by omega)
    refine ⟨t2, k1, ?_, g2.tr k3, ?_⟩
    · rw [show m + (d + 1) = m + 1 + d by omega]; exact k2
    · rw [← k4]
      show f_X6_pour_n2_b b1 b2 (f_X6_pour_n2 b1 b2 (k + (d + 1))) σ (nI i) = _
      unfold f_X6_pour_n2_b
      rw [h1.1, if_neg (NLe2 n1 i), bc_at h1 (by omega), bind_some, e1, bind2_some, lt_q, nI_1]
theorem parts_C {n1 q1 q2 : Nat} {f : Nat → Nat} (x y2 y3 : Int32) : ∀ (d i m k : Nat) (g : Nat → Nat) (σ : St), i + d = n1 → BC σ 0 n1 q1 f → BC σ 1 m q2 g → m + d < 64 → ∃ t : St, BC t 0 n1 q1 f ∧ BC t 1 (m + d) q2 (insAll f i d g m) ∧ Fr (bI 1) (bA 1) σ t ∧ f_X6_parts_n72 x (k + (d + 1)) σ y2 y3 (nI i) = f_X6_parts_n72 x (k + 1) t y2 y3 (nI n1) := by
  intro d
  induction d with
  | zero =>
    intro i m k g σ e h1 h2 _
    have : i = n1 := by omega
    subst this
    exact ⟨σ, h1, h2, Fr.rf, rfl⟩
  | succ d ih =>
    intro i m k g σ e h1 h2 hm
    have hb := h1.2.2.2.2.1 i (by omega)
    have hn := h1.2.2.1
    have e3 : st_i σ 3 = nI n1 := h1.1
    obtain ⟨t, e1, g1, g2⟩ := bc_insert h2 (by omega) hb
    obtain ⟨t2, k1, k2, k3, k4⟩ := ih (i + 1) (m + 1) k _ t (by omega) (h1.keep g2 (by omega) (by omega) (by omega)) g1 (by omega)
    refine ⟨t2, k1, ?_, g2.tr k3, ?_⟩
    · rw [show m + (d + 1) = m + 1 + d by omega]; exact k2
    · rw [← k4]
      show f_X6_parts_n72_b x (f_X6_parts_n72 x (k + (d + 1))) σ y2 y3 (nI i) = _
      unfold f_X6_parts_n72_b
      rw [e3, if_neg (NLe2 n1 i), bc_at h1 (by omega), bind_some, e1, bind2_some, lt_q, nI_1]
theorem pour_M {F G n1 q1 q2 : Nat} {f : Nat → Nat} (hF : F < 2) (hG : G < 2) (hne : F ≠ G) : ∀ (d i m k : Nat) (g : Nat → Nat) (σ : St), i + d = n1 → BM σ F n1 q1 f → BM σ G m q2 g → m + d < 64 → ∃ t : St, BM t F n1 q1 f ∧ BM t G (m + d) q2 (insAll f i d g m) ∧ Gr noI (fA G) σ t ∧ f_X7_mergesInto_n13 (nI G) (nI F) (k + (d + 1)) σ (nI i) = f_X7_mergesInto_n13 (nI G) (nI F) (k + 1) t (nI n1) := by
  intro d
  induction d with
  | zero =>
    intro i m k g σ e h1 h2 _
    have : i = n1 := by omega
    subst this
    exact ⟨σ, h1, h2, Gr.rf, rfl⟩
  | succ d ih =>
    intro i m k g σ e h1 h2 hm
    have hb := h1.2.2.2.2.1 i (by omega)
    have hn := h1.2.2.1
    obtain ⟨t, e1, g1, g2⟩ := bm_comes h2 hG (by omega) hb
    obtain ⟨t2, k1, k2, k3, k4⟩ := ih (i + 1) (m + 1) k _ t (by omega) (h1.keep g2 (by omega) (by omega) (fun i hi => by omega)) g1 (by omega)
    refine ⟨t2, k1, ?_, g2.tr k3, ?_⟩
    · rw [show m + (d + 1) = m + 1 + d by omega]; exact k2
    · rw [← k4]
      show f_X7_mergesInto_n13_b (nI G) (nI F) (f_X7_mergesInto_n13 (nI G) (nI F) (k + (d + 1))) σ (nI i) = _
      unfold f_X7_mergesInto_n13_b
      rw [if_pos (Inb F 2), Cl F, h1.1, if_neg (NLe2 n1 i), bm_at h1 hF (by omega), bind_some, e1, bind_some, lt_q, nI_1]
theorem parts_M {n1 q1 q2 : Nat} {f : Nat → Nat} (x y2 y3 : Int32) : ∀ (d i m k : Nat) (g : Nat → Nat) (σ : St), i + d = n1 → BM σ 0 n1 q1 f → BM σ 1 m q2 g → m + d < 64 → ∃ t : St, BM t 0 n1 q1 f ∧ BM t 1 (m + d) q2 (insAll f i d g m) ∧ Gr noI (fA 1) σ t ∧ f_X7_parts_n96 x (k + (d + 1)) σ y2 y3 (nI i) = f_X7_parts_n96 x (k + 1) t y2 y3 (nI n1) := by
  intro d
  induction d with
  | zero =>
    intro i m k g σ e h1 h2 _
    have : i = n1 := by omega
    subst this
    exact ⟨σ, h1, h2, Gr.rf, rfl⟩
  | succ d ih =>
    intro i m k g σ e h1 h2 hm
    have hb := h1.2.2.2.2.1 i (by omega)
    have hn := h1.2.2.1
    have c0 : (0 : Int32) = nI 0 := rfl
    have c1 : (1 : Int32) = nI 1 := rfl
    obtain ⟨t, e1, g1, g2⟩ := bm_comes h2 (by omega) (by omega) hb
    obtain ⟨t2, k1, k2, k3, k4⟩ := ih (i + 1) (m + 1) k _ t (by omega) (h1.keep g2 (by omega) (by omega) (fun i hi => by omega)) g1 (by omega)
    refine ⟨t2, k1, ?_, g2.tr k3, ?_⟩
    · rw [show m + (d + 1) = m + 1 + d by omega]; exact k2
    · rw [← k4]
      show f_X7_parts_n96_b x (f_X7_parts_n96 x (k + (d + 1))) σ y2 y3 (nI i) = _
      unfold f_X7_parts_n96_b
      have ea : f_X7_at σ 0 (nI i) = some (nI (f i)) := bm_at h1 (by omega) (by omega)
      have ec : f_X7_comes σ 1 (nI (f i)) = some t := e1
      have z0 : (0 : Int32).toNatClampNeg = 0 := by decide
      have b0 : in_b 0 2 = true := by decide
      rw [if_pos b0, z0, h1.1, if_neg (NLe2 n1 i), ea, bind_some, ec, bind_some, lt_q, nI_1]
