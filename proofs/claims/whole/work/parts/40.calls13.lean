/-! slot, nth, after, run, count -/
theorem cell_r {f : Nat → Nat} {n q r s i : Nat} (hi : iB f n q r s = i + 1) : rB f n q r s = f i % 2 ^ r := by
  unfold rB ow
  unfold iB at hi
  rw [hi, if_neg (by omega)]
  rfl
theorem m_slot {C M : St} (h : Rel C M) (x1 x2 : Int32) : Ok2 (f_X6_slot C x1 x2) (f_X7_slot M x1 x2) := by
  have h' := h.thr 0
  unfold f_X6_slot f_X7_slot
  rw [lt_q, lt_q]
  obtain ⟨P, L, n, q, f, kt, gt, hr⟩ := h'.rf
  generalize hM : put_i M 0 0 = M0 at h' hr ⊢
  refine guardS h' hr (fun F hF hx s hs hy => ?_)
  subst hx hy
  obtain ⟨t, u, e1, e2, l1, l2, hr2, hl, f1, f2⟩ := lay2 hr hF
  have hrel := h'.lay hr2 f1 f2
  obtain ⟨a1, a2, ⟨q1, q2, q3⟩, a4, a5⟩ := hr2.2.1 F hF
  have hw := p2_bound q2
  have hp := hr.1.1
  have hn := a1.2.2.1
  rw [e1, bind_some, indexAt_C l1 q2 hs, bind_some, e2, bind_some, if_pos (Inb s 64), Cl s, l2.2.1 s hs]
  rcases ix_cases (f := f F) (n := n F) (q := q F) (r := P - q F) (s := s) with ⟨z1, z2⟩ | ⟨i, hi, z1, z2, z3⟩
  · unfold iB at z2
    rw [z2, if_neg (by decide), if_neg (by decide)]
    exact ⟨_, _, _, rfl, rfl, hrel⟩
  · have z1' := z1
    unfold iB at z2
    have hfi := a1.2.2.2.2.1 i hi
    rw [z2, if_pos (NNeg i), if_pos (NNeg i), if_pos (Inb s 64), bm_at a2 hF hi, bind_some, lt_q, if_pos (Inb s 64)]
    obtain ⟨t1, c1, r1, s1⟩ := rc_restart t (fun _ => 0)
    obtain ⟨r1', s1'⟩ := rm_0 u (fun _ => 0)
    generalize hu1 : put_i u 1 0 = u1 at r1' s1' ⊢
    obtain ⟨t2, u2, g2, c2, d2, r2, r2', s2, s2'⟩ := adds r1 r1' (by omega) (nI (oB (f F) (n F) (P - q F) s)).toInt64
    obtain ⟨t3, u3, g3, c3, d3, r3, r3', s3, s3'⟩ := adds r2 r2' (by omega) (nI (cB (f F) (n F) (q F) (P - q F) s)).toInt64
    obtain ⟨t4, u4, g4, c4, d4, r4, r4', s4, s4'⟩ := adds r3 r3' (by omega) (nI (sB (f F) (n F) (q F) (P - q F) s)).toInt64
    obtain ⟨t5, u5, g5, c5, d5, r5, r5', s5, s5'⟩ := adds r4 r4' (by omega) (nI (f F i)).toInt64
    have l1a := l1.k16 (by omega) s1
    have l1b := l1a.k16 (by omega) s2
    have l1c := l1b.k16 (by omega) s3
    have sC : Fs nI16 nA t t5 := (((s1.tr s2).tr s3).tr s4).tr s5
    have sM : Gs nI1 nA2 u u5 := (((s1'.tr s2').tr s3').tr s4').tr s5'
    have l1e := l1.k16 (by omega) sC
    have a1d := a1.kp (((s1.tr s2).tr s3).tr s4) (by omega) (by omega) (fun z => z)
    have hr5 := hr2.kp (o16 sC) (p1 sM)
    obtain ⟨b1, b2, -⟩ := hr5.2.1 F hF
    have m1 := mark1_M (l2.k1 s1') hs
    have m2 := mark2_M ((l2.k1 s1').k1 s2') hs
    have m4 := mark4_M (((l2.k1 s1').k1 s2').k1 s3') hs
    have v2 : nI (2 * cB (f F) (n F) (q F) (P - q F) s) / 2 = nI (cB (f F) (n F) (q F) (P - q F) s) := by
      rcases cB_01 (f F) (n F) (q F) (P - q F) s with e | e <;> rw [e] <;> rfl
    have v4 : nI (4 * sB (f F) (n F) (q F) (P - q F) s) / 4 = nI (sB (f F) (n F) (q F) (P - q F) s) := by
      rcases sB_01 (f F) (n F) (q F) (P - q F) s with e | e <;> rw [e] <;> rfl
    rw [m1, d2, bind_some, if_pos (Inb s 64), m2, v2, d3, bind_some, if_pos (Inb s 64), m4, v4, d4, bind_some, d5, bind_some, bm_rem b2 hF hr5.1.2.2.2.1 (by omega) (by omega) (by omega), bind_some]
    have eC : f_X6_slot_n130 (nI F) (nI s) t3 F (nI i) (nI (sB (f F) (n F) (q F) (P - q F) s)).toInt64 = some (nI (f F i % 2 ^ (P - q F)), t5) := by
      unfold f_X6_slot_n130
      have hrb : rB (f F) (n F) (q F) (P - q F) s = f F i % 2 ^ (P - q F) := cell_r z1'
      have hle : f F i % 2 ^ (P - q F) ≤ f F i := Nat.mod_le _ _
      rw [c4, bind_some, bc_at a1d hi, bind_some, c5, bind_some, cellAt_C l1e q2 hs, bind_some, cl_bits, hrb, show ((3 : Int32) &&& 31) = nI 3 &&& 31 from rfl]
      have o1 := oB_01 (f F) (n F) (P - q F) s
      have o2 := cB_01 (f F) (n F) (q F) (P - q F) s
      have o3 := sB_01 (f F) (n F) (q F) (P - q F) s
      rw [shr_r (by omega) (by omega), show 2 ^ 3 = 8 from rfl]
      congr 3
      omega
    have eC2 : f_X6_slot_n106 (nI F) (nI s) t2 F (nI i) (nI (cB (f F) (n F) (q F) (P - q F) s)).toInt64 = some (nI (f F i % 2 ^ (P - q F)), t5) := by
      unfold f_X6_slot_n106
      rw [c3, bind_some, mark4_C l1c q2 hs, bind_some, ← eC]
      rcases sB_01 (f F) (n F) (q F) (P - q F) s with e | e
      · rw [e, if_pos nI_0]; rfl
      · rw [e, if_neg (by decide)]; rfl
    have eC3 : f_X6_slot_n82 (nI F) (nI s) t1 F (nI i) (nI (oB (f F) (n F) (P - q F) s)).toInt64 = some (nI (f F i % 2 ^ (P - q F)), t5) := by
      unfold f_X6_slot_n82
      rw [c2, bind_some, mark2_C l1b q2 hs, bind_some, ← eC2]
      rcases cB_01 (f F) (n F) (q F) (P - q F) s with e | e
      · rw [e, if_pos nI_0]; rfl
      · rw [e, if_neg (by decide)]; rfl
    rw [c1, bind_some, mark1_C l1a q2 hs, bind_some]
    have fin : Ok2 (some (nI (f F i % 2 ^ (P - q F)), t5)) (some (nI (f F i % 2 ^ (P - q F)), u5)) := ⟨_, _, _, rfl, rfl, hr5.rel r5 r5'⟩
    rw [← eC3] at fin
    rcases oB_01 (f F) (n F) (P - q F) s with e | e
    · rw [e, if_pos nI_0]; rw [e] at fin; exact fin
    · rw [e, if_neg (by decide)]; rw [e] at fin; exact fin
theorem m_nth {C M : St} (h : Rel C M) (x1 x2 : Int32) : Ok2 (f_X6_nth C x1 x2) (f_X7_nth M x1 x2) := by
  have h' := h.thr 0
  unfold f_X6_nth f_X7_nth
  rw [lt_q, lt_q]
  obtain ⟨P, L, n, q, f, kt, gt, hr⟩ := h'.rf
  generalize hM : put_i M 0 0 = M0 at h' hr ⊢
  refine guardF h' (fun F hF hx => ?_)
  subst hx
  obtain ⟨a1, a2, ⟨q1, q2, q3⟩, a4, a5⟩ := hr.2.1 F hF
  have hn := a1.2.2.1
  rw [if_pos (Inb F 2), Cl F, a2.1, a1.1]
  have no : x2 < 0 ∨ nI (n F) ≤ x2 → Ok2 (if x2 < 0 then some (-1, C) else if x2 < nI (n F) then (f_X2_lay C 0 F (st_i C 0)).bind fun s3 => (f_X2_slotOf s3 0 x2).bind fun v4 => (f_X3_tell s3 v4.toInt64).bind fun s5 => (f_X0_at s5 F x2).bind fun v6 => some (v6, s5) else some (-1, C)) (some (-1, M0)) := by
    intro z
    by_cases a : x2 < 0
    · rw [if_pos a]; exact ⟨_, _, _, rfl, rfl, h'⟩
    · rw [if_neg a, if_neg (i_nlt.2 (z.resolve_left a))]; exact ⟨_, _, _, rfl, rfl, h'⟩
  have key : ∀ i, i < n F → x2 = nI i → Ok2 (if x2 < 0 then some (-1, C) else if x2 < nI (n F) then (f_X2_lay C 0 F (st_i C 0)).bind fun s3 => (f_X2_slotOf s3 0 x2).bind fun v4 => (f_X3_tell s3 v4.toInt64).bind fun s5 => (f_X0_at s5 F x2).bind fun v6 => some (v6, s5) else some (-1, C)) ((f_X7_lies M0 (nI F)).bind fun s2 => lt_ (put_i s2 1 0) fun s3 => if in_b x2 64 = true then (f_X7_enters s3 (st_a s3 4 x2.toNatClampNeg).toInt64).bind fun s4 => (f_X7_at s4 (nI F) x2).bind fun v5 => some (v5, s4) else none) := by
    intro i hi e
    subst e
    obtain ⟨t, u, e1, e2, l1, l2, hr2, hl, f1, f2⟩ := lay2 hr hF
    obtain ⟨t1, u1, c1, c2, c3, c4, c5, c6⟩ := end1 hr2 (nI (sl (hh (f F) (P - q F)) (2 ^ q F) (n F) i)).toInt64
    obtain ⟨b1, b2, -⟩ := c4.2.1 F hF
    have l2' := (l2.k1 (rm_0 u (fun _ => 0)).2).1 i hi
    rw [if_neg (Pos i), if_pos (Lt2 i (n F)), e1, bind_some, slotOf_C l1 hn hi, bind_some, c1, bind_some, bc_at b1 hi, bind_some, e2, bind_some, lt_q, if_pos (Inb i 64), Cl i, l2', c2, bind_some, bm_at b2 hF hi, bind_some]
    exact ⟨_, _, _, rfl, rfl, c3⟩
  by_cases hz : n F = 0
  · have hin := in_0 M0 (x := x2) (y := 0) (z := nI (n F) - 1) (y' := 0) (z' := (nI (n F) - 1).toInt64) rfl rfl
    have bad : ¬ ((0 : Int32) ≤ x2 ∧ x2 ≤ nI (n F) - 1) := by
      rw [hz, show nI 0 - 1 = (-1 : Int32) from rfl]
      rintro ⟨p1, p2⟩
      rw [Int32.le_iff_toInt_le] at p1 p2
      have e0 : (0 : Int32).toInt = 0 := rfl
      have e1 : (-1 : Int32).toInt = -1 := rfl
      omega
    rw [if_pos (hin.2 bad)]
    refine no ?_
    by_cases a : x2 < 0
    · exact Or.inl a
    · right
      rw [hz, nI_0]
      exact i_nlt.1 a
  · rw [Sub1 (n F)]
    have hin := in_0 M0 (x := x2) (y := 0) (z := nI (n F - 1)) (y' := 0) (z' := (nI (n F - 1)).toInt64) rfl rfl
    by_cases a : x2 < 0
    · rw [if_pos (hin.2 (fun z => i_nlt.2 z.1 a))]
      exact no (Or.inl a)
    · obtain ⟨v, hv, rfl⟩ := nI_of a
      by_cases b : v < n F
      · rw [if_neg (fun z => hin.1 z ⟨NNeg v, Le2 v (n F - 1)⟩)]
        exact key v b rfl
      · rw [if_pos (hin.2 (fun z => NLe2 v (n F - 1) (by omega) hv z.2))]
        exact no (Or.inr (Le2 (n F) v))
theorem after_find {M : St} {F n q : Nat} {f : Nat → Nat} (hF : F < 2) (h : BM M F n q f) {v : Nat} (hv : v < 2 ^ 31) : ∀ (d i k : Nat), i + d = lb f n v → f_X7_after_n20 (nI F) (nI v) (k + (d + 1)) M (nI i) = f_X7_after_n46 (nI F) (nI v) M (nI (lb f n v)) := by
  have hn := h.2.2.1
  have hle := lb_le f n v
  have hiff := lb_iff h.2.2.2.2.2 v
  intro d
  induction d with
  | zero =>
    intro i k e
    have : i = lb f n v := by omega
    rw [← this] at *
    show f_X7_after_n20_b (nI F) (nI v) (f_X7_after_n20 (nI F) (nI v) k) M (nI i) = _
    unfold f_X7_after_n20_b
    rw [if_pos (Inb F 2), Cl F, h.1]
    by_cases c : n ≤ i
    · rw [if_pos (Le2 n i)]
    · have := hiff i (by omega)
      have hb := h.2.2.2.2.1 i (by omega)
      rw [if_neg (NLe2 n i), bm_at h hF (by omega), bind_some, if_pos (Le2 v (f i))]
  | succ d ih =>
    intro i k e
    have := hiff i (by omega)
    show f_X7_after_n20_b (nI F) (nI v) (f_X7_after_n20 (nI F) (nI v) (k + (d + 1))) M (nI i) = _
    unfold f_X7_after_n20_b
    rw [if_pos (Inb F 2), Cl F, h.1, if_neg (NLe2 n i), bm_at h hF (by omega), bind_some, if_neg (NLe2 v (f i)), lt_q, nI_1]
    exact ih (i + 1) k (by omega)
theorem m_after {C M : St} (h : Rel C M) (x1 x2 : Int32) : Ok2 (f_X6_after C x1 x2) (f_X7_after M x1 x2) := by
  have h' := h.thr 0
  unfold f_X6_after f_X7_after
  rw [lt_q, lt_q]
  obtain ⟨P, L, n, q, f, kt, gt, hr⟩ := h'.rf
  generalize hM : put_i M 0 0 = M0 at h' hr ⊢
  refine guardF h' (fun F hF hx => ?_)
  subst hx
  obtain ⟨a1, a2, ⟨q1, q2, q3⟩, a4, a5⟩ := hr.2.1 F hF
  have hn := a1.2.2.1
  by_cases a : x2 < 0
  · rw [if_neg (i_nle.2 a), if_neg (i_nle.2 a)]
    exact ⟨_, _, _, rfl, rfl, h'⟩
  · obtain ⟨v, hv, rfl⟩ := nI_of a
    have hle := lb_le (f F) (n F) v
    obtain ⟨j, hj⟩ := fuel_ge (k := lb (f F) (n F) v + 1) (by omega)
    have ef := after_find hF a2 (v := v) hv (lb (f F) (n F) v) 0 j (by omega)
    rw [← hj, nI_0] at ef
    rw [if_pos (NNeg v), if_pos (NNeg v), bc_below a1 hv, bind_some, a1.1, ef]
    unfold f_X7_after_n46
    rw [if_pos (Inb F 2), Cl F, a2.1]
    by_cases c : lb (f F) (n F) v < n F
    · obtain ⟨t, u, e1, e2, l1, l2, hr2, hl, f1, f2⟩ := lay2 hr hF
      obtain ⟨b1, b2, -⟩ := hr2.2.1 F hF
      have hb := a1.2.2.2.2.1 _ c
      obtain ⟨t1, u1, u2, c1, c2, c3, c4, c5, c6, c7, c8, -⟩ := end2 hr2 (nI (cnt (f F) (n F) (f F (lb (f F) (n F) v)))).toInt64 (nI (sl (hh (f F) (P - q F)) (2 ^ q F) (n F) (lb (f F) (n F) v))).toInt64
      obtain ⟨d1, d2, -⟩ := c5.2.1 F hF
      have b2' := b2.kp (rm_0 u (fun _ => 0)).2 (fun z => z) (fun z => z) (fun _ _ z => z)
      have l2' := (l2.k1 c8).1 _ c
      rw [if_pos (Lt2 (lb (f F) (n F) v) (n F)), bc_at a1 c, bind_some, e1, bind_some, bc_times b1 (by omega), bind_some, slotOf_C l1 hn c, bind_some, c1, bind_some, if_neg (Ne2 (lb (f F) (n F) v) (n F)), e2, bind_some, lt_q, bm_at b2' hF c, bind_some, bm_count b2' hF (by omega), bind_some, c2, bind_some, if_pos (Inb (lb (f F) (n F) v) 64), Cl (lb (f F) (n F) v), l2', c3, bind_some, bm_at d2 hF c, bind_some]
      exact ⟨_, _, _, rfl, rfl, c4⟩
    · rw [if_neg (NLt2 (lb (f F) (n F) v) (n F)), show lb (f F) (n F) v = n F by omega, if_pos rfl]
      exact ⟨_, _, _, rfl, rfl, h'⟩
