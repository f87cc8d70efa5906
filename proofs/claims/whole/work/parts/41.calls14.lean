/-! run, count, puts -/
theorem quot_iff2 {x s r : Nat} : x / 2 ^ r = s ↔ (s * 2 ^ r ≤ x ∧ x < (s + 1) * 2 ^ r) := by
  have hp : 0 < 2 ^ r := Nat.pow_pos (by omega)
  rw [Nat.div_eq_iff hp]
  rw [Nat.add_mul, Nat.one_mul]
  constructor
  · rintro ⟨a, b⟩; exact ⟨a, by omega⟩
  · rintro ⟨a, b⟩; exact ⟨a, by omega⟩
theorem run_rng {f : Nat → Nat} {n r s i : Nat} (hs : Srt f n) (hi : i < n) : hh f r i = s ↔ (lb f n (s * 2 ^ r) ≤ i ∧ i < lb f n ((s + 1) * 2 ^ r)) := by
  have a := lb_iff hs (s * 2 ^ r) i hi
  have b := lb_iff hs ((s + 1) * 2 ^ r) i hi
  have c := quot_iff2 (x := f i) (s := s) (r := r)
  show f i / 2 ^ r = s ↔ _
  omega
theorem run_skip {M : St} {F n q P s : Nat} {f : Nat → Nat} (h : BM M F n q f) (hF : F < 2) (h5 : st_i M 5 = nI P) (hq : q ≤ P) (hP : P ≤ 14) (hs : s < 64) : ∀ (d i k : Nat) (y : Int32), i + d ≤ n → (∀ j, i ≤ j → j < i + d → hh f (P - q) j ≠ s) → f_X7_run_n45 (nI F) (nI s) (k + d) M y (nI i) = f_X7_run_n45 (nI F) (nI s) k M y (nI (i + d)) := by
  have hn := h.2.2.1
  intro d
  induction d with
  | zero => intro i k y _ _; rfl
  | succ d ih =>
    intro i k y hd hne
    have hfi := h.2.2.2.2.1 i (by omega)
    have hdv : f i / 2 ^ (P - q) ≤ f i := Nat.div_le_self _ _
    have hz : f i / 2 ^ (P - q) ≠ s := hne i (by omega) (by omega)
    have := ih (i + 1) k y (by omega) (fun j h1 h2 => hne j (by omega) (by omega))
    rw [show i + (d + 1) = i + 1 + d by omega, ← this]
    show f_X7_run_n45_b (nI F) (nI s) (f_X7_run_n45 (nI F) (nI s) (k + d)) M y (nI i) = _
    unfold f_X7_run_n45_b
    rw [if_pos (Inb F 2), Cl F, h.1, if_neg (NLe2 n i), bm_at h hF (by omega), bind_some, bm_quot h hF h5 hq (by omega) (by omega), bind_some, if_neg (Ne2 (f i / 2 ^ (P - q)) s), lt_q, nI_1]
theorem run_loop {P L : Nat} {n q : Nat → Nat} {f : Nat → Nat → Nat} {kt : Nat} {gt : Nat → Nat} {F s lo hi : Nat} (hF : F < 2) (hs : s < 64) (hhn : hi ≤ n F) (hlo : ∀ i, i < n F → (hh (f F) (P - q F) i = s ↔ (lo ≤ i ∧ i < hi))) (x1 x2 : Int32) : ∀ (d i k k' : Nat) (C M : St) (g : Nat → Int64), i + (d + 1) = hi → lo ≤ i → Rf C M P L n q f kt gt → RC C (1 + (i - lo)) g → RM M (1 + (i - lo)) g → ∃ (t u : St) (g' : Nat → Int64), f_X6_run_n100 x1 x2 (k + (d + 2)) C F (nI (P - q F)) (nI lo) (nI hi) (nI i) = some (nI (hi - lo), t) ∧ f_X7_run_n91 (nI F) (nI s) (f_X7_run_n45 (nI F) (nI s) (k' + d)) M (nI (i - lo)) (nI i) = f_X7_run_n45 (nI F) (nI s) k' u (nI (hi - lo)) (nI hi) ∧ Rf t u P L n q f kt gt ∧ RC t (1 + (hi - lo)) g' ∧ RM u (1 + (hi - lo)) g' := by
  intro d
  induction d with
  | zero =>
    intro i k k' C M g e hli hr h1 h2
    obtain ⟨a1, a2, ⟨q1, q2, q3⟩, a4, a5⟩ := hr.2.1 F hF
    have hn := a1.2.2.1
    have hp := hr.1.1
    have hfi := a1.2.2.2.2.1 i (by omega)
    obtain ⟨t, u, g', c1, d1, r1, r1', s1, s1'⟩ := adds h1 h2 (by omega) (nI (f F i % 2 ^ (P - q F))).toInt64
    rw [show 1 + (i - lo) + 1 = 1 + (hi - lo) by omega] at r1 r1'
    refine ⟨t, u, g', ?_, ?_, hr.kp (o16 s1) (p1 s1'), r1, r1'⟩
    · show f_X6_run_n100_b x1 x2 (f_X6_run_n100 x1 x2 (k + 1)) C F _ _ _ _ = _
      unfold f_X6_run_n100_b
      rw [if_neg (NLe2 hi i), bc_at a1 (by omega), bind_some, mask_r (by omega) (by omega), c1, bind_some, lt_q, nI_1]
      show f_X6_run_n100_b x1 x2 (f_X6_run_n100 x1 x2 k) t F _ _ _ _ = _
      unfold f_X6_run_n100_b
      rw [show i + 1 = hi by omega, if_pos (Le2 hi hi), Sub2 hi lo]
    · unfold f_X7_run_n91
      rw [bm_at a2 hF (by omega), bind_some, bm_rem a2 hF hr.1.2.2.2.1 (by omega) (by omega) (by omega), bind_some, d1, bind_some, lt_q, lt_q, nI_1, nI_1, show i - lo + 1 = hi - lo by omega, show i + 1 = hi by omega]
      rfl
  | succ d ih =>
    intro i k k' C M g e hli hr h1 h2
    obtain ⟨a1, a2, ⟨q1, q2, q3⟩, a4, a5⟩ := hr.2.1 F hF
    have hn := a1.2.2.1
    have hp := hr.1.1
    have hfi := a1.2.2.2.2.1 i (by omega)
    have hfi1 := a1.2.2.2.2.1 (i + 1) (by omega)
    obtain ⟨t, u, g', c1, d1, r1, r1', s1, s1'⟩ := adds h1 h2 (by omega) (nI (f F i % 2 ^ (P - q F))).toInt64
    have hr' := hr.kp (o16 s1) (p1 s1')
    obtain ⟨t2, u2, g2, k1, k2, k3, k4, k5⟩ := ih (i + 1) k k' t u g' (by omega) (by omega) hr' (by rw [show 1 + (i + 1 - lo) = 1 + (i - lo) + 1 by omega]; exact r1) (by rw [show 1 + (i + 1 - lo) = 1 + (i - lo) + 1 by omega]; exact r1')
    refine ⟨t2, u2, g2, ?_, ?_, k3, k4, k5⟩
    · rw [← k1]
      show f_X6_run_n100_b x1 x2 (f_X6_run_n100 x1 x2 (k + (d + 2))) C F _ _ _ _ = _
      unfold f_X6_run_n100_b
      rw [if_neg (NLe2 hi i), bc_at a1 (by omega), bind_some, mask_r (by omega) (by omega), c1, bind_some, lt_q, nI_1]
    · rw [← k2]
      unfold f_X7_run_n91
      rw [bm_at a2 hF (by omega), bind_some, bm_rem a2 hF hr.1.2.2.2.1 (by omega) (by omega) (by omega), bind_some, d1, bind_some, lt_q, lt_q, nI_1, nI_1]
      obtain ⟨b1, b2, -⟩ := hr'.2.1 F hF
      have hz : f F (i + 1) / 2 ^ (P - q F) = s := (hlo (i + 1) (by omega)).2 ⟨by omega, by omega⟩
      show f_X7_run_n45_b (nI F) (nI s) (f_X7_run_n45 (nI F) (nI s) (k' + d)) u (nI (i - lo + 1)) (nI (i + 1)) = _
      unfold f_X7_run_n45_b f_X7_run_n91
      rw [if_pos (Inb F 2), Cl F, b2.1, if_neg (NLe2 (n F) (i + 1)), bm_at b2 hF (by omega), bind_some, bm_quot b2 hF hr'.1.2.2.2.1 (by omega) (by omega) (by omega), bind_some, hz, if_pos rfl, if_neg (nI_ne0 (by omega) (by omega)), show i - lo + 1 = i + 1 - lo by omega, bind_some]
theorem m_run {C M : St} (h : Rel C M) (x1 x2 : Int32) : Ok2 (f_X6_run C x1 x2) (f_X7_run M x1 x2) := by
  have h' := h.thr 0
  unfold f_X6_run f_X7_run
  rw [lt_q, lt_q]
  obtain ⟨P, L, n, q, f, kt, gt, hr⟩ := h'.rf
  generalize hM : put_i M 0 0 = M0 at h' hr ⊢
  refine guardS h' hr (fun F hF hx s hs hy => ?_)
  subst hx hy
  obtain ⟨t, u, e1, e2, l1, l2, hr2, hl, f1, f2⟩ := lay2 hr hF
  obtain ⟨a1, a2, ⟨q1, q2, q3⟩, a4, a5⟩ := hr.2.1 F hF
  have hw := p2_bound q2
  have hp := hr.1.1
  have hn := a1.2.2.1
  have hsrt := a1.2.2.2.2.2
  have hle2 := lb_le (f F) (n F) ((s + 1) * 2 ^ (P - q F))
  have hmono : lb (f F) (n F) (s * 2 ^ (P - q F)) ≤ lb (f F) (n F) ((s + 1) * 2 ^ (P - q F)) := lb_mono (Nat.mul_le_mul_right _ (by omega))
  have hb1 : (s + 1) * 2 ^ (P - q F) ≤ 2 ^ P := by
    have : (s + 1) * 2 ^ (P - q F) ≤ 2 ^ q F * 2 ^ (P - q F) := Nat.mul_le_mul_right _ (by omega)
    rw [← Nat.pow_add, show q F + (P - q F) = P by omega] at this
    exact this
  have hb0 : s * 2 ^ (P - q F) ≤ (s + 1) * 2 ^ (P - q F) := Nat.mul_le_mul_right _ (by omega)
  have hPP := p2P hp.2
  have hrng : ∀ i, i < n F → (hh (f F) (P - q F) i = s ↔ (lb (f F) (n F) (s * 2 ^ (P - q F)) ≤ i ∧ i < lb (f F) (n F) ((s + 1) * 2 ^ (P - q F)))) := fun i hi => run_rng hsrt hi
  rw [hr.1.2.2.1, a1.2.1, Sub2 P (q F), lt_q, shl_r (by omega) (by omega), bc_below a1 (by omega), bind_some, nI_1, shl_r (by omega) (by omega), bc_below a1 (by omega), bind_some, e2, bind_some, if_pos (Inb s 64), Cl s, mark1_M l2 hs]
  generalize lb (f F) (n F) (s * 2 ^ (P - q F)) = lo at hmono hrng ⊢
  generalize lb (f F) (n F) ((s + 1) * 2 ^ (P - q F)) = hi at hle2 hmono hrng ⊢
  by_cases c : lo = hi
  · have ho : oB (f F) (n F) (P - q F) s = 0 := by
      rcases oB_01 (f F) (n F) (P - q F) s with o | o
      · exact o
      · obtain ⟨i, hi1, hi2⟩ := oc_1.1 o
        have := (hrng i hi1).1 hi2
        omega
    rw [c, if_pos rfl, ho, if_pos nI_0]
    exact ⟨_, _, _, rfl, rfl, h'.lay (hr.kp Fs.rf (f2.s.mono (fun k z => z.elim) (fun k j z => by omega))) Fr.rf f2⟩
  · have ho : oB (f F) (n F) (P - q F) s = 1 := oc_1.2 ⟨lo, by omega, (hrng lo (by omega)).2 ⟨by omega, by omega⟩⟩
    rw [if_neg (Ne2 lo hi), ho, if_neg (by decide)]
    have e1' := e1
    rw [hr.1.2.2.1] at e1'
    obtain ⟨t1, c1, r1, s1⟩ := rc_tell1 t (nI (sl (hh (f F) (P - q F)) (2 ^ q F) (n F) lo)).toInt64
    obtain ⟨u1, d1, r1', s1'⟩ := rm_tell1 u (nI (sl (hh (f F) (P - q F)) (2 ^ q F) (n F) lo)).toInt64
    have hr3 := hr2.kp (o16 s1) (p1 s1')
    obtain ⟨b1, b2, -⟩ := hr2.2.1 F hF
    have s0 := (rm_0 u (fun _ => 0)).2
    have b2' := b2.kp s0 (fun z => z) (fun z => z) (fun _ _ z => z)
    have h50 : st_i (put_i u 1 0) 5 = nI P := by rw [s0.1 5 (by omega)]; exact hr2.1.2.2.2.1
    have l20 := (l2.k1 s0).1 lo (by omega)
    obtain ⟨j, hj⟩ := fuel_ge (k := hi - lo + 1) (by omega)
    obtain ⟨j', hj'⟩ := fuel_ge (k := n F + 1) (by omega)
    obtain ⟨t2, u2, g2, k1, k2, k3, k4, k5⟩ := run_loop hF (by omega) hle2 hrng (nI F) (nI s) (hi - lo - 1) lo j (j' + 1 + (n F - hi)) t1 u1 _ (by omega) (by omega) hr3 (by rw [show 1 + (lo - lo) = 1 by omega]; exact r1) (by rw [show 1 + (lo - lo) = 1 by omega]; exact r1')
    rw [show j + (hi - lo - 1 + 2) = j + (hi - lo + 1) by omega, ← hj] at k1
    rw [e1', bind_some, slotOf_C l1 hn (by omega), bind_some, c1, bind_some, k1, lt_q, hj', ← nI_0]
    have sk := run_skip b2' hF h50 (by omega) hp.2 (by omega : s < 64) lo 0 (j' + 1 + (n F - hi) + (hi - lo - 1) + 1) (nI 0) (by omega) (fun j h1 h2 z => by have := (hrng j (by omega)).1 z; omega)
    rw [show j' + 1 + (n F - hi) + (hi - lo - 1) + 1 + lo = j' + (n F + 1) by omega, Nat.zero_add] at sk
    have sk' : f_X7_run_n45 (nI F) (nI s) (j' + (n F + 1)) (put_i u 1 (nI 0)) (nI 0) (nI 0) = f_X7_run_n45 (nI F) (nI s) (j' + 1 + (n F - hi) + (hi - lo - 1) + 1) (put_i u 1 0) (nI 0) (nI lo) := sk
    rw [sk']
    have hflo := a1.2.2.2.2.1 lo (by omega)
    have hz : f F lo / 2 ^ (P - q F) = s := (hrng lo (by omega)).2 ⟨by omega, by omega⟩
    have stepM : f_X7_run_n45 (nI F) (nI s) (j' + 1 + (n F - hi) + (hi - lo - 1) + 1) (put_i u 1 0) (nI 0) (nI lo) = f_X7_run_n91 (nI F) (nI s) (f_X7_run_n45 (nI F) (nI s) (j' + 1 + (n F - hi) + (hi - lo - 1))) u1 (nI (lo - lo)) (nI lo) := by
      show f_X7_run_n45_b (nI F) (nI s) (f_X7_run_n45 (nI F) (nI s) (j' + 1 + (n F - hi) + (hi - lo - 1))) (put_i u 1 0) (nI 0) (nI lo) = _
      unfold f_X7_run_n45_b
      rw [if_pos (Inb F 2), Cl F, b2'.1, if_neg (NLe2 (n F) lo), bm_at b2' hF (by omega), bind_some, bm_quot b2' hF h50 (by omega) (by omega) (by omega), bind_some, hz, if_pos rfl, if_pos nI_0, if_pos (Inb lo 64), Cl lo, l20, d1, bind_some, show lo - lo = 0 by omega]
    rw [stepM, k2]
    obtain ⟨g1, g2', -⟩ := k3.2.1 F hF
    have sk2 := run_skip g2' hF k3.1.2.2.2.1 (by omega) hp.2 (by omega : s < 64) (n F - hi) hi (j' + 1) (nI (hi - lo)) (by omega) (fun j h1 h2 z => by have := (hrng j (by omega)).1 z; omega)
    rw [sk2, show hi + (n F - hi) = n F by omega]
    show Ok2 _ (f_X7_run_n45_b (nI F) (nI s) (f_X7_run_n45 (nI F) (nI s) j') u2 (nI (hi - lo)) (nI (n F)))
    unfold f_X7_run_n45_b
    rw [if_pos (Inb F 2), Cl F, g2'.1, if_pos (Le2 (n F) (n F))]
    exact ⟨_, _, _, rfl, rfl, k3.rel k4 k5⟩
theorem marks_loop {t u : St} {F n q r : Nat} {f : Nat → Nat} {m : Int32} {b : Nat → Nat} {b1 : Nat} (l1 : LY t 0 n q r f) (hq : q ≤ 6) (hs : f_X7_slots u (nI F) = some (nI (2 ^ q))) (hb : ∀ s, s < 2 ^ q → f_X2_isMarked t 0 (nI s) m = some (nI (b s)) ∧ (st_a u 6 s &&& m = 0 ↔ b s = 0) ∧ (b s = 0 ∨ b s = 1)) : ∀ (d i k : Nat) (y : Int32), i + d = 2 ^ q → ∃ z, f_X6_countMarked_n17 b1 m (k + (d + 1)) t y (nI i) = some (z, t) ∧ f_X7_marked_n10 (nI F) m (k + (d + 1)) u y (nI i) = some (z, u) := by
  have hw := p2_bound hq
  have e10 : st_i t 10 = nI (2 ^ q) := l1.2.1
  intro d
  induction d with
  | zero =>
    intro i k y e
    have : i = 2 ^ q := by omega
    subst this
    refine ⟨y, ?_, ?_⟩
    · show f_X6_countMarked_n17_b b1 m (f_X6_countMarked_n17 b1 m k) t y _ = _
      unfold f_X6_countMarked_n17_b
      rw [e10, if_pos (Le2 (2 ^ q) (2 ^ q))]
    · show f_X7_marked_n10_b (nI F) m (f_X7_marked_n10 (nI F) m k) u y _ = _
      unfold f_X7_marked_n10_b
      rw [hs, bind_some, if_pos (Le2 (2 ^ q) (2 ^ q))]
  | succ d ih =>
    intro i k y e
    obtain ⟨h1, h2, h3⟩ := hb i (by omega)
    rcases h3 with h3 | h3
    · obtain ⟨z, z1, z2⟩ := ih (i + 1) k y (by omega)
      refine ⟨z, ?_, ?_⟩
      · show f_X6_countMarked_n17_b b1 m (f_X6_countMarked_n17 b1 m (k + (d + 1))) t y _ = _
        unfold f_X6_countMarked_n17_b
        rw [e10, if_neg (NLe2 (2 ^ q) i), h1, bind_some, h3, if_pos nI_0, lt_q, nI_1, z1]
      · show f_X7_marked_n10_b (nI F) m (f_X7_marked_n10 (nI F) m (k + (d + 1))) u y _ = _
        unfold f_X7_marked_n10_b f_X7_marked_n38
        rw [hs, bind_some, if_neg (NLe2 (2 ^ q) i), if_pos (Inb i 64), Cl i, if_pos (h2.2 h3), lt_q, lt_q, flag_0, Int32.add_zero, nI_1, z2]
    · obtain ⟨z, z1, z2⟩ := ih (i + 1) k (y + 1) (by omega)
      refine ⟨z, ?_, ?_⟩
      · show f_X6_countMarked_n17_b b1 m (f_X6_countMarked_n17 b1 m (k + (d + 1))) t y _ = _
        unfold f_X6_countMarked_n17_b
        rw [e10, if_neg (NLe2 (2 ^ q) i), h1, bind_some, h3, if_neg (by decide), lt_q, lt_q, nI_1, z1]
      · show f_X7_marked_n10_b (nI F) m (f_X7_marked_n10 (nI F) m (k + (d + 1))) u y _ = _
        unfold f_X7_marked_n10_b f_X7_marked_n38
        rw [hs, bind_some, if_neg (NLe2 (2 ^ q) i), if_pos (Inb i 64), Cl i, if_neg (fun x => by have := h2.1 x; omega), lt_q, lt_q, flag_1, nI_1, z2]
theorem count_marks {C M : St} (h : Rel C M) {F : Nat} (hF : F < 2) {m : Int32} (hm : m = 1 ∨ m = 2 ∨ m = 4) : Ok2 (f_X6_countMarked C F m) (f_X7_marked M (nI F) m) := by
  obtain ⟨P, L, n, q, f, kt, gt, hr⟩ := h.rf
  obtain ⟨t, u, e1, e2, l1, l2, hr2, hl, f1, f2⟩ := lay2 hr hF
  have hrel := h.lay hr2 f1 f2
  obtain ⟨a1, a2, ⟨q1, q2, q3⟩, a4, a5⟩ := hr2.2.1 F hF
  have hw := p2_bound q2
  unfold f_X6_countMarked f_X7_marked
  rw [e1, bind_some, e2, bind_some]
  obtain ⟨j, hj⟩ := fuel_ge (k := 2 ^ q F + 1) (by omega)
  have go : ∀ b : Nat → Nat, (∀ s, s < 2 ^ q F → f_X2_isMarked t 0 (nI s) m = some (nI (b s)) ∧ (st_a u 6 s &&& m = 0 ↔ b s = 0) ∧ (b s = 0 ∨ b s = 1)) → Ok2 (f_X6_countMarked_n17 F m fuel t 0 0) (f_X7_marked_n10 (nI F) m fuel u 0 0) := by
    intro b hb
    obtain ⟨z, z1, z2⟩ := marks_loop (b1 := F) l1 q2 (bm_slots a2 hF (by omega)) hb (2 ^ q F) 0 j 0 (by omega)
    rw [← hj, nI_0] at z1 z2
    rw [z1, z2]
    exact ⟨_, _, _, rfl, rfl, hrel⟩
  rcases hm with rfl | rfl | rfl
  · refine go (fun s => oB (f F) (n F) (P - q F) s) (fun s hs => ⟨mark1_C l1 q2 hs, ?_, oB_01 _ _ _ _⟩)
    rw [mark1_M l2 hs]
    rcases oB_01 (f F) (n F) (P - q F) s with e | e <;> rw [e] <;> decide
  · refine go (fun s => cB (f F) (n F) (q F) (P - q F) s) (fun s hs => ⟨mark2_C l1 q2 hs, ?_, cB_01 _ _ _ _ _⟩)
    rw [mark2_M l2 hs]
    rcases cB_01 (f F) (n F) (q F) (P - q F) s with e | e <;> rw [e] <;> decide
  · refine go (fun s => sB (f F) (n F) (q F) (P - q F) s) (fun s hs => ⟨mark4_C l1 q2 hs, ?_, sB_01 _ _ _ _ _⟩)
    rw [mark4_M l2 hs]
    rcases sB_01 (f F) (n F) (q F) (P - q F) s with e | e <;> rw [e] <;> decide
theorem bind2_id (x : Option (Int32 × St)) : (bind2 x fun v s => some (v, s)) = x := by
  cases x with
  | none => rfl
  | some p => rfl
theorem m_count {C M : St} (h : Rel C M) (x1 x2 : Int32) : Ok2 (f_X6_count C x1 x2) (f_X7_count M x1 x2) := by
  have h' := h.thr 0
  obtain ⟨P, L, n, q, f, kr, gr, kt, gt, h1, h2, h3, h5, h6⟩ := id h'
  unfold f_X6_count f_X7_count
  simp only [lt_q]
  generalize hM : put_i M 0 0 = M0 at h' h1 h2 h3 h6 ⊢
  by_cases c6 : x2 = 6
  · subst c6
    rw [if_pos rfl, if_pos (by decide)]
    unfold f_X7_count_n20
    rw [if_neg (by decide), if_neg (by decide), if_neg (by decide), if_neg (by decide), if_neg (by decide), if_neg (by decide), if_pos rfl, h1.2.2.1, h1.2.2.2.1]
    exact ⟨_, _, _, rfl, rfl, h'⟩
  by_cases c7 : x2 = 7
  · subst c7
    rw [if_neg c6, if_pos rfl, if_pos (by decide)]
    unfold f_X7_count_n20
    rw [if_neg (by decide), if_neg (by decide), if_neg (by decide), if_neg (by decide), if_neg (by decide), if_neg (by decide), if_neg (by decide), if_pos rfl, h1.2.2.2.2.1]
    exact ⟨_, _, _, rfl, rfl, h'⟩
  by_cases c8 : x2 = 8
  · subst c8
    rw [if_neg c6, if_neg c7, if_pos rfl, if_pos (by decide)]
    unfold f_X7_count_n20
    rw [if_neg (by decide), if_neg (by decide), if_neg (by decide), if_neg (by decide), if_neg (by decide), if_neg (by decide), if_neg (by decide), if_neg (by decide), if_pos rfl, h1.2.2.2.2.2.1, h1.2.2.2.2.2.2]
    exact ⟨_, _, _, rfl, rfl, h'⟩
  by_cases c9 : x2 = 9
  · subst c9
    rw [if_neg c6, if_neg c7, if_neg c8, if_pos rfl, if_pos (by decide)]
    unfold f_X7_count_n20
    rw [if_neg (by decide), if_neg (by decide), if_neg (by decide), if_neg (by decide), if_neg (by decide), if_neg (by decide), if_neg (by decide), if_neg (by decide), if_neg (by decide), if_pos rfl, h3.1.1, h3.2.1]
    exact ⟨_, _, _, rfl, rfl, h'⟩
  by_cases c10 : x2 = 10
  · subst c10
    rw [if_neg c6, if_neg c7, if_neg c8, if_neg c9, if_pos rfl, if_pos (by decide)]
    unfold f_X7_count_n20
    rw [if_neg (by decide), if_neg (by decide), if_neg (by decide), if_neg (by decide), if_neg (by decide), if_neg (by decide), if_neg (by decide), if_neg (by decide), if_neg (by decide), if_neg (by decide), if_pos rfl, h5.1, h6.1]
    exact ⟨_, _, _, rfl, rfl, h'⟩
  rw [if_neg c6, if_neg c7, if_neg c8, if_neg c9, if_neg c10]
  by_cases big : (6 : Int32) ≤ x2
  · have d0 : ∀ y : Int32, y < 6 → ¬ x2 = y := fun y hy e => by rw [e] at big; exact i_nlt.2 big hy
    have e0 := d0 0 (by decide)
    have e1 := d0 1 (by decide)
    have e2 := d0 2 (by decide)
    have e3 := d0 3 (by decide)
    have e4 := d0 4 (by decide)
    have e5 := d0 5 (by decide)
    rw [if_pos big]
    have eM : f_X7_count_n20 x1 x2 M0 = some (-1, M0) := by
      unfold f_X7_count_n20
      rw [if_neg e0, if_neg e1, if_neg e2, if_neg e3, if_neg e4, if_neg e5, if_neg c6, if_neg c7, if_neg c8, if_neg c9, if_neg c10]
    have eC : ∀ b, f_X6_countOf C b x2 = some (-1, C) := by
      intro b
      unfold f_X6_countOf
      rw [if_neg e0, if_neg e1, if_neg e2, if_neg e3, if_neg e4, if_neg e5]
    rw [eM]
    simp only [eC, bind2_q]
    rcases file_cases x1 with ⟨e, e2⟩ | ⟨e, e2⟩ | ⟨e2, a, b⟩ <;> rw [e2] <;> exact ⟨_, _, _, rfl, rfl, h'⟩
  · rw [if_neg big]
    refine guardF h' (fun F hF hx => ?_)
    subst hx
    obtain ⟨a1, a2, ⟨q1, q2, q3⟩, a4, a5⟩ := h2 F hF
    rw [bind2_id]
    unfold f_X6_countOf f_X7_count_n20
    simp only [bind2_id]
    by_cases c0 : x2 = 0
    · rw [if_pos c0, if_pos c0, if_pos (Inb F 2), Cl F, a1.1, a2.1]
      exact ⟨_, _, _, rfl, rfl, h'⟩
    by_cases c1 : x2 = 1
    · rw [if_neg c0, if_neg c0, if_pos c1, if_pos c1, bc_slots a1 (by omega), bm_slots a2 hF (by omega), bind_some]
      exact ⟨_, _, _, rfl, rfl, h'⟩
    by_cases c2 : x2 = 2
    · rw [if_neg c0, if_neg c0, if_neg c1, if_neg c1, if_pos c2, if_pos c2, if_pos (Inb F 2), Cl F, a1.2.1, a2.2.1]
      exact ⟨_, _, _, rfl, rfl, h'⟩
    by_cases c3 : x2 = 3
    · rw [if_neg c0, if_neg c0, if_neg c1, if_neg c1, if_neg c2, if_neg c2, if_pos c3, if_pos c3]
      exact count_marks h' hF (Or.inl rfl)
    by_cases c4 : x2 = 4
    · rw [if_neg c0, if_neg c0, if_neg c1, if_neg c1, if_neg c2, if_neg c2, if_neg c3, if_neg c3, if_pos c4, if_pos c4]
      exact count_marks h' hF (Or.inr (Or.inl rfl))
    by_cases c5 : x2 = 5
    · rw [if_neg c0, if_neg c0, if_neg c1, if_neg c1, if_neg c2, if_neg c2, if_neg c3, if_neg c3, if_neg c4, if_neg c4, if_pos c5, if_pos c5]
      exact count_marks h' hF (Or.inr (Or.inr rfl))
    rw [if_neg c0, if_neg c0, if_neg c1, if_neg c1, if_neg c2, if_neg c2, if_neg c3, if_neg c3, if_neg c4, if_neg c4, if_neg c5, if_neg c5, if_neg c6, if_neg c7, if_neg c8, if_neg c9, if_neg c10]
    exact ⟨_, _, _, rfl, rfl, h'⟩
