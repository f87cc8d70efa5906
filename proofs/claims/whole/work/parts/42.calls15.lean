/-! puts, would -/
theorem lastSlot_loop {M : St} {F n q v p : Nat} {f : Nat → Nat} {z : Int32} (h : BM M F n q f) (hF : F < 2) (hv : v < 16384) (hp : p < n) (hpv : f p = v) (hlast : ∀ i, p < i → i < n → f i ≠ v) (hz : st_a M 4 p = z) : ∀ (d i k : Nat) (y : Int32), i + d = n → (p < i → y = z) → f_X7_lastSlot_n5 M (nI F) (nI v) (k + (d + 1)) y (nI i) = some z := by
  have hn := h.2.2.1
  intro d
  induction d with
  | zero =>
    intro i k y e hy
    show f_X7_lastSlot_n5_b M (nI F) (nI v) (f_X7_lastSlot_n5 M (nI F) (nI v) k) y (nI i) = _
    unfold f_X7_lastSlot_n5_b
    rw [if_pos (Inb F 2), Cl F, h.1, if_pos (Le2 n i), hy (by omega)]
  | succ d ih =>
    intro i k y e hy
    have hfi := h.2.2.2.2.1 i (by omega)
    show f_X7_lastSlot_n5_b M (nI F) (nI v) (f_X7_lastSlot_n5 M (nI F) (nI v) (k + (d + 1))) y (nI i) = _
    unfold f_X7_lastSlot_n5_b
    rw [if_pos (Inb F 2), Cl F, h.1, if_neg (NLe2 n i), bm_at h hF (by omega), bind_some]
    by_cases c : f i = v
    · rw [c, if_pos rfl, if_pos (Inb i 64), Cl i, lt_q, lt_q, nI_1]
      refine ih (i + 1) k _ (by omega) (fun hi => ?_)
      by_cases e2 : i = p
      · rw [e2]; exact hz
      · exact absurd c (hlast i (by omega) (by omega))
    · rw [if_neg (Ne2 (f i) v), lt_q, nI_1]
      refine ih (i + 1) k y (by omega) (fun hi => ?_)
      by_cases e2 : i = p
      · rw [e2] at c; exact absurd hpv c
      · exact hy (by omega)
theorem ins_at (f : Nat → Nat) (p v : Nat) : ins f p v p = v := by
  unfold ins
  rw [if_neg (by omega), if_pos rfl]
theorem ins_last {f : Nat → Nat} {n v : Nat} (hs : Srt f n) : ∀ i, lb f n (v + 1) < i → i < n + 1 → ins f (lb f n (v + 1)) v i ≠ v := by
  intro i h1 h2
  unfold ins
  rw [if_neg (by omega), if_neg (by omega)]
  have := lb_iff hs (v + 1) (i - 1) (by omega)
  omega
theorem m_puts {C M : St} (h : Rel C M) (x1 x2 : Int32) : Ok2 (f_X6_puts C x1 x2) (f_X7_puts M x1 x2) := by
  have h' := h.thr 0
  unfold f_X6_puts f_X7_puts
  rw [lt_q, lt_q]
  obtain ⟨P, L, n, q, f, kr, gr, kt, gt, h1, h2, h3, h5, h6⟩ := id h'
  generalize hM : put_i M 0 0 = M0 at h' h1 h2 h3 h6 ⊢
  refine guardF h' (fun F hF hx => guardK h' ?_)
  subst hx
  obtain ⟨a1, a2, ⟨q1, q2, q3⟩, a4, a5⟩ := h2 F hF
  obtain ⟨v, hv, ev⟩ := printOf_nat h1 x2
  have hp := h1.1
  have hv2 := p2P hp.2
  have hn := a1.2.2.1
  have ev' : f_X7_printOf M0 x2 = nI v := by rw [printOf_eq h1]; exact ev
  rw [ev]
  rcases put_C h1 a1 q2 a4 (v := v) (by omega) with ⟨c, t, e1, b1, fr1⟩ | ⟨c, e1⟩
  · rcases put_M h1 a2 hF q2 a4 (v := v) (by omega) ev' with ⟨c', u, e2, b2, gr2⟩ | ⟨c', -⟩
    · have hQ : Q1 P L (n F) (q F) = q F ∨ (Q1 P L (n F) (q F) = q F + 1 ∧ q F < min 6 (P - 1)) := by
        unfold Q1; split
        · exact Or.inr ⟨rfl, by omega⟩
        · exact Or.inl rfl
      have hle := lb_le (f F) (n F) (v + 1)
      have hsrt := a1.2.2.2.2.2
      have fc : Fs (bI F) (bA F) C t := fr1.s
      have gm : Gs noI (fA F) M0 u := gr2.s
      have hb := b1.2.2.1
      have hff : ∀ G, G < 2 → Fl t u P G (if G = F then n F + 1 else n G) (if G = F then Q1 P L (n F) (q F) else q G) (if G = F then ins (f F) (lb (f F) (n F) (v + 1)) v else f G) :=
        files_upd h2 ⟨b1, b2, ⟨by omega, by omega, by omega⟩, c, ins_bd a5 hv hle⟩ fc gm (fun G hG hne => ⟨⟨by omega, by omega⟩, by omega, by omega, by omega, fun i hi => by omega⟩)
      have hrf : Rf t u P L _ _ _ kt gt := ⟨h1.kp fc gm (fun k z => by omega) (fun k z => z.elim), hff, h5.kp fc (by omega) (by omega), h6.kp gm (fun z => z) (fun j z => by omega)⟩
      obtain ⟨t2, u2, c1, d1, l1, l2, hr2, hl, f1, f2⟩ := lay2 hrf hF
      rw [if_pos rfl, if_pos rfl, if_pos rfl] at l1 l2 hl
      obtain ⟨t3, u3, u4, m1, m2, m3, m4, m5, m6, m7, m8, -⟩ := end2 hr2 (nI (sl (hh (ins (f F) (lb (f F) (n F) (v + 1)) v) (P - Q1 P L (n F) (q F))) (2 ^ Q1 P L (n F) (q F)) (n F + 1) (lb (f F) (n F) (v + 1)))).toInt64 (nI (n F + 1)).toInt64
      obtain ⟨g1, g2, -⟩ := hr2.2.1 F hF
      obtain ⟨k1, k2, -⟩ := m5.2.1 F hF
      simp only [↓reduceIte] at g1 g2 k1 k2
      have s0 := (rm_0 u2 (fun _ => 0)).2
      have g2' := g2.kp s0 (fun z => z) (fun z => z) (fun _ _ z => z)
      have ev2 : f_X7_printOf (put_i u2 1 0) x2 = nI v := by
        rw [printOf_eq (hr2.1.kp (Fs.rf (I := nA) (A := nA)) s0 (fun k z => z.elim) (fun k z => by omega))]
        have e : f_X6_printOf t2 x2 = f_X6_printOf C x2 := by
          unfold f_X6_printOf
          rw [f1.1 0 (by omega), f1.1 1 (by omega), fr1.1 0 (by omega), fr1.1 1 (by omega)]
        rw [e]; exact ev
      obtain ⟨j, hj⟩ := fuel_ge (k := n F + 1 + 1) (by omega)
      have hls : f_X7_lastSlot (put_i u2 1 0) (nI F) (nI v) = some (nI (sl (hh (ins (f F) (lb (f F) (n F) (v + 1)) v) (P - Q1 P L (n F) (q F))) (2 ^ Q1 P L (n F) (q F)) (n F + 1) (lb (f F) (n F) (v + 1)))) := by
        unfold f_X7_lastSlot
        rw [hj]
        exact lastSlot_loop (p := lb (f F) (n F) (v + 1)) g2' hF (by omega) (by omega) (ins_at _ _ _) (ins_last hsrt) ((l2.k1 s0).1 _ (by omega)) (n F + 1) 0 j _ (by omega) (fun z => by omega)
      have e3c : st_i t2 (3 + 2 * F) = nI (n F + 1) := g1.1
      have e3m : st_a u3 2 F = nI (n F + 1) := by rw [m8.2 2 F (fun z => z)]; exact g2.1
      have hwQ := p2_bound (q := Q1 P L (n F) (q F)) (by omega)
      rw [e1, bind2_some, if_pos (NNeg (lb (f F) (n F) (v + 1))), c1, bind_some, slotOf_C l1 hb (by omega), bind_some, e3c, m1, bind_some, bc_slots k1 (by omega), e2, bind2_some, if_neg (Pos (2 ^ Q1 P L (n F) (q F))), d1, bind_some, lt_q, ev2, hls, bind_some, m2, bind_some, if_pos (Inb F 2), Cl F, e3m, m3, bind_some]
      exact ⟨_, _, _, rfl, rfl, m4⟩
    · exact absurd c c'
  · rcases put_M h1 a2 hF q2 a4 (v := v) (by omega) ev' with ⟨c', -⟩ | ⟨c', e2⟩
    · exact absurd c' c
    · rw [e1, bind2_some, if_neg (by decide), e2, bind2_some, if_pos (by decide)]
      exact ⟨_, _, _, rfl, rfl, h'⟩
theorem would_copy {n : Nat} {x1 x2 y3 : Int32} {w : Nat → Int32} (hn : n < 64) : ∀ (d i k : Nat) (σ : St), i + d = n → (∀ j, j < n → st_a σ 4 j = w j) → (∀ j, j < i → st_a σ 13 j = w j) → ∃ t : St, f_X7_would_n73 x1 x2 (k + (d + 1)) σ y3 (nI n) (nI i) = f_X7_would_n103 x1 x2 fuel t y3 (nI n) 0 ∧ (∀ j, j < n → st_a t 13 j = w j) ∧ Gr noI (fun k _ => k = 13) σ t := by
  intro d
  induction d with
  | zero =>
    intro i k σ e h4 h13
    have : i = n := by omega
    subst this
    refine ⟨σ, ?_, h13, Gr.rf⟩
    show f_X7_would_n73_b x1 x2 (f_X7_would_n73 x1 x2 k) σ _ _ _ = _
    unfold f_X7_would_n73_b
    rw [if_pos (Le2 i i)]
  | succ d ih =>
    intro i k σ e h4 h13
    have ga : Gr noI (fun k _ => k = 13) σ (put_a σ 13 i (w i)) := gr_a rfl
    obtain ⟨t, e1, e2, e3⟩ := ih (i + 1) k (put_a σ 13 i (w i)) (by omega) (fun j hj => by rw [sa_pa, if_neg (by omega)]; exact h4 j hj) (fun j hj => by
      rw [sa_pa, if_pos rfl, upd_at]
      by_cases c : j = i
      · rw [if_pos c, c]
      · rw [if_neg c]; exact h13 j (by omega))
    refine ⟨t, ?_, e2, ga.tr e3⟩
    show f_X7_would_n73_b x1 x2 (f_X7_would_n73 x1 x2 (k + (d + 1))) σ _ _ _ = _
    unfold f_X7_would_n73_b
    rw [if_neg (NLe2 n i), if_pos (Inb i 64), if_pos (Inb i 64), lt_q, lt_q, Cl i, h4 i (by omega), nI_1]
    exact e1
theorem would_find {M : St} {F n q : Nat} {f : Nat → Nat} {x2 : Int32} (hF : F < 2) (h : BM M F n q f) {v : Nat} (hv : v < 2 ^ 30) : ∀ (d i k : Nat), i + d = lb f n (v + 1) → f_X7_would_n103 (nI F) x2 (k + (d + 1)) M (nI v) (nI n) (nI i) = f_X7_would_n127 (nI F) x2 M (nI v) (nI n) (nI (lb f n (v + 1))) := by
  have hn := h.2.2.1
  have hle := lb_le f n (v + 1)
  have hiff := lb_iff h.2.2.2.2.2 (v + 1)
  intro d
  induction d with
  | zero =>
    intro i k e
    have : i = lb f n (v + 1) := by omega
    rw [← this] at *
    show f_X7_would_n103_b (nI F) x2 (f_X7_would_n103 (nI F) x2 k) M _ _ (nI i) = _
    unfold f_X7_would_n103_b
    by_cases c : n ≤ i
    · rw [if_pos (Le2 n i)]
    · have := hiff i (by omega)
      have hb := h.2.2.2.2.1 i (by omega)
      rw [if_neg (NLe2 n i), bm_at h hF (by omega), bind_some, if_pos (Lt2 v (f i))]
  | succ d ih =>
    intro i k e
    have := hiff i (by omega)
    show f_X7_would_n103_b (nI F) x2 (f_X7_would_n103 (nI F) x2 (k + (d + 1))) M _ _ (nI i) = _
    unfold f_X7_would_n103_b
    rw [if_neg (NLe2 n i), bm_at h hF (by omega), bind_some, if_neg (NLt2 v (f i)), lt_q, nI_1]
    exact ih (i + 1) k (by omega)
theorem would_cmp {t u : St} {F n p : Nat} {a b : Nat → Nat} {x1 x2 y3 y6 : Int32} (hn : n + 1 < 64) (ha : ∀ i, i < n → a i < 64) (hb : ∀ i, i < n + 1 → b i < 64) (h3 : st_i t (3 + 2 * F) = nI n) (c0 : ∀ i, i < n → f_X2_slotOf t 0 (nI i) = some (nI (a i))) (c1 : ∀ i, i < n + 1 → f_X2_slotOf t 1 (nI i) = some (nI (b i))) (m13 : ∀ i, i < n → st_a u 13 i = nI (a i)) (m4 : ∀ i, i < n + 1 → st_a u 4 i = nI (b i)) (hp : p ≤ n) : ∀ (d i k : Nat) (y : Int32), i + d = n → ∃ z, f_X6_would_n95 x1 x2 (k + (d + 1)) t F (nI p) y (nI i) = f_X6_would_n95 x1 x2 (k + 1) t F (nI p) z (nI n) ∧ f_X7_would_n153 (nI F) x2 (k + (d + 1)) u y3 (nI n) (nI p) y6 y (nI i) = f_X7_would_n153 (nI F) x2 (k + 1) u y3 (nI n) (nI p) y6 z (nI n) := by
  intro d
  induction d with
  | zero =>
    intro i k y e
    have : i = n := by omega
    subst this
    exact ⟨y, rfl, rfl⟩
  | succ d ih =>
    intro i k y e
    have step : ∀ w, w < n + 1 → ∃ z, f_X6_would_n120 x1 x2 (f_X6_would_n95 x1 x2 (k + (d + 1))) t F (nI p) y (nI i) (nI w) = f_X6_would_n95 x1 x2 (k + 1) t F (nI p) z (nI n) ∧ f_X7_would_n189 (nI F) x2 (f_X7_would_n153 (nI F) x2 (k + (d + 1))) u y3 (nI n) (nI p) y6 (nI i) y (nI (a i)) (nI w) = f_X7_would_n153 (nI F) x2 (k + 1) u y3 (nI n) (nI p) y6 z (nI n) := by
      intro w hw
      have hai := ha i (by omega)
      have hbw := hb w hw
      unfold f_X6_would_n120 f_X7_would_n189 f_X7_would_n198
      rw [c0 i (by omega), bind_some, c1 w hw, bind_some, if_pos (Inb w 64), Cl w, m4 w hw]
      by_cases c : a i = b w
      · obtain ⟨z, z1, z2⟩ := ih (i + 1) k y (by omega)
        refine ⟨z, ?_, ?_⟩
        · rw [c, if_pos rfl, lt_q, nI_1, z1]
        · rw [c, if_pos rfl, lt_q, lt_q, flag_0, Int32.add_zero, nI_1, z2]
      · obtain ⟨z, z1, z2⟩ := ih (i + 1) k (y + 1) (by omega)
        refine ⟨z, ?_, ?_⟩
        · rw [if_neg (Ne2 (a i) (b w)), lt_q, lt_q, nI_1, z1]
        · rw [if_neg (Ne2 (a i) (b w)), lt_q, lt_q, flag_1, nI_1, z2]
    by_cases c : p ≤ i
    · obtain ⟨z, z1, z2⟩ := step (i + 1) (by omega)
      refine ⟨z, ?_, ?_⟩
      · rw [← z1]
        show f_X6_would_n95_b x1 x2 (f_X6_would_n95 x1 x2 (k + (d + 1))) t F _ _ _ = _
        unfold f_X6_would_n95_b
        rw [h3, if_neg (NLe2 n i), if_pos (Le2 p i), nI_1]
      · rw [← z2]
        show f_X7_would_n153_b (nI F) x2 (f_X7_would_n153 (nI F) x2 (k + (d + 1))) u _ _ _ _ _ _ = _
        unfold f_X7_would_n153_b
        rw [if_neg (NLe2 n i), if_pos (Inb i 64), if_pos (Le2 p i), Cl i, m13 i (by omega), nI_1]
    · obtain ⟨z, z1, z2⟩ := step i (by omega)
      refine ⟨z, ?_, ?_⟩
      · rw [← z1]
        show f_X6_would_n95_b x1 x2 (f_X6_would_n95 x1 x2 (k + (d + 1))) t F _ _ _ = _
        unfold f_X6_would_n95_b
        rw [h3, if_neg (NLe2 n i), if_neg (NLe2 p i)]
      · rw [← z2]
        show f_X7_would_n153_b (nI F) x2 (f_X7_would_n153 (nI F) x2 (k + (d + 1))) u _ _ _ _ _ _ = _
        unfold f_X7_would_n153_b
        rw [if_neg (NLe2 n i), if_pos (Inb i 64), if_neg (NLe2 p i), Cl i, m13 i (by omega)]
theorem m_would {C M : St} (h : Rel C M) (x1 x2 : Int32) : Ok2 (f_X6_would C x1 x2) (f_X7_would M x1 x2) := by
  have h' := h.thr 0
  unfold f_X6_would f_X7_would
  rw [lt_q, lt_q]
  obtain ⟨P, L, n, q, f, kt, gt, hr⟩ := h'.rf
  generalize hM : put_i M 0 0 = M0 at h' hr ⊢
  refine guardF h' (fun F hF hx => guardK h' ?_)
  subst hx
  obtain ⟨a1, a2, ⟨q1, q2, q3⟩, a4, a5⟩ := hr.2.1 F hF
  have hw := p2_bound q2
  have hn := a1.2.2.1
  have hp := hr.1.1
  rw [must_C hr.1 a1 q2, must_M hr.1 a2 hF q2, bind_some]
  by_cases c : L * 2 ^ q F < 100 * (n F + 1) ∧ q F < min 6 (P - 1)
  · rw [if_pos c, if_neg (by decide), if_neg (by decide)]
    exact ⟨_, _, _, rfl, rfl, h'⟩
  rw [if_neg c, if_pos rfl, if_pos rfl, bc_full a1 q2, if_pos (Inb F 2), bm_slots a2 hF (by omega), bind_some, Cl F, a2.1, Sub1 (2 ^ q F)]
  by_cases d : n F + 1 < 2 ^ q F
  · rw [if_pos d, if_pos rfl, if_neg (Ne2 (n F) (2 ^ q F - 1))]
    obtain ⟨v, hv, ev⟩ := printOf_nat hr.1 x2
    have hv2 := p2P hp.2
    have hle := lb_le (f F) (n F) (v + 1)
    have hsrt := a1.2.2.2.2.2
    -- the class
    obtain ⟨t1, w1, w2, w3⟩ := bc_like (b := 2) (b1 := F) (by omega) a1
    have evt : f_X6_printOf t1 x2 = nI v := by
      unfold f_X6_printOf at ev ⊢
      rw [w3.1 0 (by omega), w3.1 1 (by omega)]; exact ev
    obtain ⟨t2, i1, i2, i3⟩ := bc_insert w2 (by omega) (v := v) (by omega)
    have fa2 : Fr (bI 2) (bA 2) C t2 := w3.tr i3
    have hr2 := hr.kp (fa2.s.mono (fun k z => by omega) (fun k z => by omega)) (Gs.rf (I := pJ) (A := pB) (σ := M0))
    obtain ⟨t3, u1, e1, e2, l1, l2, hr3, hl, f1, f2⟩ := lay2 hr2 hF
    have i2' := i2.keep f1 (by omega) (by omega) (by omega)
    have hbd : ∀ i, i < n F + 1 → ins (f F) (lb (f F) (n F) (v + 1)) v i < 2 ^ P := ins_bd a5 hv hle
    obtain ⟨t4, e3, l3, f3⟩ := lay_C (c := 1) (P := P) i2' (by omega) (by omega) q2 (by omega) hp.2 d hbd
    have l1' := l1.kp f3.s (fun k h1 h2 => by omega) (fun k h1 h2 => by omega)
    have hr4 := hr3.kp (f3.s.mono (fun k z => by omega) (fun k z => by omega)) (Gs.rf (I := pJ) (A := pB) (σ := u1))
    obtain ⟨b1, b2, -⟩ := hr4.2.1 F hF
    -- the reference
    obtain ⟨j, hj⟩ := fuel_ge (k := n F + 1) (by omega)
    obtain ⟨u2, o1, o2, o3⟩ := would_copy (x1 := nI F) (x2 := x2) (y3 := nI v) (w := fun i => nI (sl (hh (f F) (P - q F)) (2 ^ q F) (n F) i)) hn (n F) 0 j u1 (by omega) l2.1 (fun j hj => by omega)
    rw [← hj, nI_0] at o1
    have g2 : Gr noI (fun k _ => k = 4 ∨ k = 5 ∨ k = 6 ∨ k = 13) M0 u2 := (f2.mono (fun k z => z) (fun k j z => by omega)).tr (o3.mono (fun k z => z) (fun k j z => by omega))
    have b2u := a2.keep g2 (by omega) (by omega) (fun i hi => by omega)
    obtain ⟨j2, hj2⟩ := fuel_ge (k := lb (f F) (n F) (v + 1) + 1) (by omega)
    have o4 := would_find (x2 := x2) hF b2u (v := v) (by omega) (lb (f F) (n F) (v + 1)) 0 j2 (by omega)
    rw [← hj2, nI_0] at o4
    obtain ⟨u3, n1, n2, n3⟩ := bm_comes b2u hF (by omega) (v := v) (by omega)
    have g3 : Gr noI (fun k j => fA F k j ∨ 4 ≤ k) M0 u3 := (g2.mono (fun k z => z) (fun k j z => by omega)).tr (n3.mono (fun k z => z) (fun k j z => Or.inl z))
    obtain ⟨u4, p1', p2', p3'⟩ := lay_M n2 hF (by rw [g3.1 5 (fun z => z)]; exact hr.1.2.2.2.1) q2 (by omega) hp.2 d hbd
    have g4 : Gr noI (fun k j => fA F k j ∨ 4 ≤ k) M0 u4 := g3.tr (p3'.mono (fun k z => z) (fun k j z => by omega))
    have n2' := n2.keep p3' (by omega) (by omega) (fun i hi => by omega)
    have m13 : ∀ i, i < n F → st_a u4 13 i = nI (sl (hh (f F) (P - q F)) (2 ^ q F) (n F) i) := fun i hi => by
      rw [p3'.2.1 13 i (by omega), n3.2.1 13 i (by omega)]; exact o2 i hi
    have hl' := HL_of (ins_srt hsrt (v := v)) (show q F ≤ P by omega) d hbd
    have slb : ∀ i, sl (hh (f F) (P - q F)) (2 ^ q F) (n F) i < 64 := fun i => Nat.lt_of_lt_of_le (sl_lt hl) hw.2
    have slb' : ∀ i, sl (hh (ins (f F) (lb (f F) (n F) (v + 1)) v) (P - q F)) (2 ^ q F) (n F + 1) i < 64 := fun i => Nat.lt_of_lt_of_le (sl_lt hl') hw.2
    obtain ⟨z, z1, z2⟩ := would_cmp (t := t4) (u := u4) (F := F) (p := lb (f F) (n F) (v + 1)) (x1 := nI F) (x2 := x2) (y3 := nI v) (y6 := nI (sl (hh (ins (f F) (lb (f F) (n F) (v + 1)) v) (P - q F)) (2 ^ q F) (n F + 1) (lb (f F) (n F) (v + 1)))) (show n F + 1 < 64 by omega) (fun i _ => slb i) (fun i _ => slb' i) b1.1 (fun i hi => slotOf_C l1' hn hi) (fun i hi => slotOf_C l3 (show n F + 1 < 64 by omega) hi) m13 (fun i hi => p2'.1 i hi) hle (n F) 0 j 0 (by omega)
    rw [← hj, nI_0] at z1 z2
    -- taking it out again
    have hcp : 0 < cnt (ins (f F) (lb (f F) (n F) (v + 1)) v) (n F + 1) v := by rw [cnt_ins hsrt, if_pos rfl]; omega
    rcases bm_goes n2' hF (v := v) (by omega) with ⟨zz, -⟩ | ⟨-, u5, y1, y2, y3⟩
    · omega
    rw [Nat.add_sub_cancel] at y2
    have same := same_of_cnt (B := 16384) (f := del (ins (f F) (lb (f F) (n F) (v + 1)) v) (lb (ins (f F) (lb (f F) (n F) (v + 1)) v) (n F + 1) v)) (g := f F) y2.2.2.2.2.2 hsrt y2.2.2.2.2.1 a1.2.2.2.2.1 (fun w => by
      have := cnt_del (f := ins (f F) (lb (f F) (n F) (v + 1)) v) (n := n F + 1) (v := v) (ins_srt hsrt) hcp w
      rw [Nat.add_sub_cancel] at this
      rw [this, cnt_ins hsrt]
      omega)
    have y4 := y2.cg same.2
    have g5 : Gr noI (fun k j => fA F k j ∨ 4 ≤ k) M0 u5 := g4.tr (y3.mono (fun k z => z) (fun k j z => Or.inl z))
    have fa4 : Fr oI oA C t4 := ((fa2.mono (fun k z => by omega) (fun k z => by omega)).tr (f1.mono (fun k z => by omega) (fun k z => by omega))).tr (f3.mono (fun k z => by omega) (fun k z => by omega))
    have hrf : Rf t4 u5 P L n q f kt gt := by
      refine ⟨hr.1.kp fa4.s g5.s (fun k z => by omega) (fun k z => z.elim), fun G hG => ?_, hr.2.2.1.kp fa4.s (by omega) (by omega), hr.2.2.2.kp g5.s (fun z => z) (fun j z => by omega)⟩
      by_cases e : G = F
      · subst e
        exact ⟨b1, y4, ⟨q1, q2, q3⟩, a4, a5⟩
      · exact (hr.2.1 G hG).kp fa4.s g5.s ⟨by omega, by omega⟩ (by omega) ⟨by omega, by omega, fun i hi z => by omega⟩
    obtain ⟨t5, u6, x1', x2', x3', -⟩ := end1 hrf (nI (sl (hh (ins (f F) (lb (f F) (n F) (v + 1)) v) (P - q F)) (2 ^ q F) (n F + 1) (lb (f F) (n F) (v + 1)))).toInt64
    have st0 : st_i t2 0 = st_i C 0 := fa2.1 0 (by omega)
    have st1 : st_i t3 0 = nI P := by rw [f1.1 0 (by omega), st0]; exact hr.1.2.2.1
    have e2m : st_a u1 2 F = nI (n F) := by rw [f2.2.1 2 F (by omega)]; exact a2.1
    rw [w1, bind_some, evt, i1, bind2_some, e1, bind_some, st1, e3, bind_some, z1, lt_q, printOf_eq hr.1, ev, e2, bind_some, if_pos (Inb F 2), lt_q, e2m, o1, o4]
    unfold f_X7_would_n127
    rw [n1, bind_some, p1', bind_some, if_pos (Inb (lb (f F) (n F) (v + 1)) 64), lt_q, Cl (lb (f F) (n F) (v + 1)), p2'.1 _ (by omega), z2]
    show Ok2 (f_X6_would_n95_b (nI F) x2 (f_X6_would_n95 (nI F) x2 j) t4 F (nI (lb (f F) (n F) (v + 1))) z (nI (n F))) (f_X7_would_n153_b (nI F) x2 (f_X7_would_n153 (nI F) x2 j) u4 (nI v) (nI (n F)) (nI (lb (f F) (n F) (v + 1))) _ z (nI (n F)))
    unfold f_X6_would_n95_b f_X7_would_n153_b
    rw [b1.1, if_pos (Le2 (n F) (n F)), slotOf_C l3 (show n F + 1 < 64 by omega) (show lb (f F) (n F) (v + 1) < n F + 1 by omega), bind_some, x1', bind_some, if_pos (Le2 (n F) (n F)), y1, bind2_some, lt_q, x2', bind_some]
    exact ⟨_, _, _, rfl, rfl, x3'⟩
  · rw [if_neg d, if_neg (by decide), show n F = 2 ^ q F - 1 by omega, if_pos rfl]
    exact ⟨_, _, _, rfl, rfl, h'⟩
