/-! the reference reads slots that lie as a bag does -/
theorem st_a_lt {B : Nat → Nat} {n a : Nat} (hs : Srt B n) (ha : a < n) (hA : po B 0 a = B a) : (∀ j, j < a → B j < B a) ∧ lb B n (B a) = a ∧ ct B a = 0 := by
  have lt : ∀ j, j < a → B j < B a := by
    intro j hj
    have := po_lt (h := B) (c := 0) hj
    have := po_ge B 0 j
    omega
  refine ⟨lt, lb_uniq hs (by omega) (fun i hi => ?_), ?_⟩
  · rcases Nat.lt_or_ge i a with q | q
    · have := lt i q; omega
    · have := hs a i q hi; omega
  · unfold ct
    rw [if_neg]
    rintro ⟨z, e⟩
    have := lt (a - 1) (by omega)
    omega
theorem ch_strong {P Q F b k0 n a : Nat} {f B mm rm : Nat → Nat} (hP : P ≤ 14) (hF : F < 2) (hl : HL (hh f (P - Q)) (2 ^ Q) n) (hq : RQ f n Q (P - Q) mm rm) (R : Rotd (hh f (P - Q)) (2 ^ Q) n b k0 B) (ha : a < n) (hA : po B 0 a = B a) (hz : po B 0 0 = 0 ∧ B 0 = 0) (hbA : b + B a < 2 ^ Q) : ∀ (d i k : Nat) (g : Nat → Nat) (y6 : Int32) (σ : St), i + d = 2 ^ Q → B a + i ≤ 2 ^ Q → RWM σ P Q mm rm → BM σ F (lb (po B 0) n (B a + i)) Q g → (∀ v, cnt g (lb (po B 0) n (B a + i)) v = ci (fun m => f (rot k0 n m)) v (lb (po B 0) n (B a + i))) → QU B (fun t => (b + t) % 2 ^ Q) a (lb B n (B a + i)) (st_a σ 12) → (∀ j, a < j → j < lb (po B 0) n (B a + i) → po B 0 j ≠ B j) → (0 < i → y6 = nI ((b + B (lb (po B 0) n (B a + i) - 1)) % 2 ^ Q)) → ∃ (t : St) (a' : Nat) (g' : Nat → Nat), f_X7_takesCluster_n19 (nI F) (nI (b + B a)) (k + (d + 1)) σ (nI (2 ^ Q)) (nI (dn B (lb (po B 0) n (B a + i)) - dn B a)) (nI (dn B (lb B n (B a + i)) - dn B a)) y6 (nI i) = some (1, t) ∧ a < a' ∧ a' ≤ n ∧ (∀ j, a < j → j < a' → po B 0 j ≠ B j) ∧ (a' = n ∨ po B 0 a' = B a') ∧ BM t F a' Q g' ∧ (∀ v, cnt g' a' v = ci (fun m => f (rot k0 n m)) v a') ∧ Gr noI (cM F) σ t := by
  have hP2 := p2P hP
  have hst : ∀ i j, i < j → j < n → po B 0 i < po B 0 j := fun i j h1 _ => po_lt h1
  have hps := po_srt B 0 n
  obtain ⟨ltB, lbB, ctB⟩ := st_a_lt R.srt ha hA
  have hn := hl.2.2
  intro d
  induction d with
  | zero =>
    intro i k g y6 σ ei hi h hb hc hQ hsh hy
    have hw := p2_bound h.2.1.2.1
    have en : lb (po B 0) n (B a + i) = n := lb_uniq hps (Nat.le_refl _) (fun j hj => by have := R.lt j hj; omega)
    rw [en] at hb hc hsh ⊢
    refine ⟨σ, n, g, ?_, ha, Nat.le_refl _, hsh, Or.inl rfl, hb, hc, Gr.rf⟩
    show f_X7_takesCluster_n19_b (nI F) (nI (b + B a)) (f_X7_takesCluster_n19 (nI F) (nI (b + B a)) k) σ (nI (2 ^ Q)) _ _ y6 (nI i) = _
    unfold f_X7_takesCluster_n19_b
    rw [if_pos (Le2 (2 ^ Q) i)]
  | succ d ih =>
    intro i k g y6 σ ei hi h hb hc hQ hsh hy
    have hw := p2_bound h.2.1.2.1
    have hq3 := h.2.1
    have hs : (b + B a + i) % 2 ^ Q < 2 ^ Q := Nat.mod_lt _ (by omega)
    have hlm := lb_le (po B 0) n (B a + i)
    have gt : 0 < i → a < lb (po B 0) n (B a + i) := fun z => (lb_iff hps (B a + i) a ha).1 (by omega)
    rw [show k + (d + 1 + 1) = k + (d + 1) + 1 from rfl, ch_head h (by omega) (by omega)]
    have stop : 0 < i → (lb (po B 0) n (B a + i) = n ∨ po B 0 (lb (po B 0) n (B a + i)) = B (lb (po B 0) n (B a + i))) → ∃ (t : St) (a' : Nat) (g' : Nat → Nat), (some ((1 : Int32), σ)) = some (1, t) ∧ a < a' ∧ a' ≤ n ∧ (∀ j, a < j → j < a' → po B 0 j ≠ B j) ∧ (a' = n ∨ po B 0 a' = B a') ∧ BM t F a' Q g' ∧ (∀ v, cnt g' a' v = ci (fun m => f (rot k0 n m)) v a') ∧ Gr noI (cM F) σ t := by
      intro z o
      exact ⟨σ, _, g, rfl, gt z, hlm, hsh, o, hb, hc, Gr.rf⟩
    rcases Nat.lt_or_ge (B a + i) (2 ^ Q) with hlt | hge
    · rcases Classical.em (∃ m, m < n ∧ po B 0 m = B a + i) with ⟨m, hm, em⟩ | hno
      · obtain ⟨r1, r2, r3, r4⟩ := rs_elem hl hq R hm
        rw [em, ← Nat.add_assoc] at r1 r2 r3 r4
        obtain ⟨l1, l2⟩ := lb_next hst hm em
        by_cases c : 0 < i ∧ mm ((b + B a + i) % 2 ^ Q) / 4 % 2 = 0
        · rw [if_pos c]
          refine stop c.1 (Or.inr ?_)
          rw [l1]
          by_cases z : B a + i = B m
          · rw [em]; exact z
          · rw [if_neg z] at r2; omega
        · rw [if_neg c]
          rw [l1] at hb hc hsh hy ⊢
          have ham : a ≤ m := by
            rcases Nat.eq_zero_or_pos i with z | z
            · rw [z, Nat.add_zero, ← hA] at l1
              have := (lb_next hst ha rfl).1
              omega
            · have := gt z; omega
          have hsh' : ∀ j, a < j → j < m + 1 → po B 0 j ≠ B j := by
            intro j h1 h2
            by_cases e : j = m
            · subst e
              intro z2
              rcases Nat.eq_zero_or_pos i with z | z
              · rw [z, Nat.add_zero, ← hA] at em
                have := hst a j h1 hm
                omega
              · refine c ⟨z, ?_⟩
                rw [r2, if_pos (by omega)]
            · exact hsh j h1 (by omega)
          have hBm := po_ge B 0 m
          have laB : a ≤ lb B n (B a + i) := by
            have := lb_mono (f := B) (n := n) (show B a ≤ B a + i by omega)
            omega
          have lB : m < lb B n (B a + i + 1) := (lb_iff R.srt (B a + i + 1) m hm).1 (by omega)
          have d0 := dn_le2 B ham
          have d1 := dn_le2 B (show m + 1 ≤ lb B n (B a + i + 1) by omega)
          have d2 := dn_le2 B (show a + 1 ≤ m + 1 by omega)
          have d3 : dn B (a + 1) = dn B a + 1 := by show dn B a + (1 - ct B a) = _; omega
          have d4 := dn_le B (lb B n (B a + i + 1))
          have d5 := dn_le B (lb B n (B a + i))
          have d6 := dn_le2 B laB
          have l6 := lb_le B n (B a + i + 1)
          have l7 := lb_le B n (B a + i)
          have lm : lb B n (B a + i) ≤ lb B n (B a + i + 1) := lb_mono (by omega)
          have d7 := dn_le2 B lm
          obtain ⟨-, s2, s3⟩ := rs_home hq R hm
          rw [ch_52 h hs (by omega)]
          have tail : ∀ (σ' : St), RWM σ' P Q mm rm → BM σ' F m Q g → QU B (fun t => (b + t) % 2 ^ Q) a (lb B n (B a + i + 1)) (st_a σ' 12) → ∃ (t : St) (a' : Nat) (g' : Nat → Nat), f_X7_takesCluster_n76 (nI F) (nI (b + B a)) (f_X7_takesCluster_n19 (nI F) (nI (b + B a)) (k + (d + 1))) σ' (nI (2 ^ Q)) (nI (dn B m - dn B a)) (nI (dn B (lb B n (B a + i + 1)) - dn B a)) y6 (nI i) (nI ((b + B a + i) % 2 ^ Q)) = some (1, t) ∧ a < a' ∧ a' ≤ n ∧ (∀ j, a < j → j < a' → po B 0 j ≠ B j) ∧ (a' = n ∨ po B 0 a' = B a') ∧ BM t F a' Q g' ∧ (∀ v, cnt g' a' v = ci (fun m => f (rot k0 n m)) v a') ∧ Gr noI (cM F) σ' t := by
            intro σ' h' hb' hQ'
            have go : ∃ (t : St) (a' : Nat) (g' : Nat → Nat), f_X7_takesCluster_n109 (nI F) (nI (b + B a)) (f_X7_takesCluster_n19 (nI F) (nI (b + B a)) (k + (d + 1))) σ' (nI (2 ^ Q)) (nI (dn B (m + 1) - dn B a)) (nI (dn B (lb B n (B a + i + 1)) - dn B a)) (nI ((b + B m) % 2 ^ Q)) (nI i) (nI ((b + B a + i) % 2 ^ Q)) = some (1, t) ∧ a < a' ∧ a' ≤ n ∧ (∀ j, a < j → j < a' → po B 0 j ≠ B j) ∧ (a' = n ∨ po B 0 a' = B a') ∧ BM t F a' Q g' ∧ (∀ v, cnt g' a' v = ci (fun m => f (rot k0 n m)) v a') ∧ Gr noI (cM F) σ' t := by
              rcases ch_109 (i := i) hP h' hF hb' (by omega) hs s3 (nI (b + B a)) (nI (dn B (m + 1) - dn B a)) (nI (dn B (lb B n (B a + i + 1)) - dn B a)) (f_X7_takesCluster_n19 (nI F) (nI (b + B a)) (k + (d + 1))) with ⟨z, -⟩ | ⟨hm1, t1, e1, b1, g1, -⟩
              · omega
              · have ev : (b + B m) % 2 ^ Q * 2 ^ (P - Q) + rm ((b + B a + i) % 2 ^ Q) = f (rot k0 n m) := by
                  rw [s2, r3, Nat.mul_comm, Nat.div_add_mod]
                rw [e1]
                rw [ev] at b1
                have g1' : Gr noI (cM F) σ' t1 := g1.mono (fun k z => z) (fun k j z => Or.inl z)
                have el : lb (po B 0) n (B a + (i + 1)) = m + 1 := l2
                obtain ⟨t, a', g', a1, a2, a3, a4, a5, a6, a7, a8⟩ := ih (i + 1) k _ (nI ((b + B m) % 2 ^ Q)) t1 (by omega) (by omega) (h'.kp g1.s (fun z => z) (fun z => z) (fun j z => by omega) (fun j z => by omega)) (by rw [el]; exact b1) (by
                  intro v
                  rw [el, cnt_ins hb'.2.2.2.2.2, hc v]
                  rfl) (by
                  intro j h1 h2
                  rw [g1.2.1 12 _ (by omega)]
                  exact hQ' j h1 h2) (by rw [el]; exact hsh') (fun _ => by rw [el, Nat.add_sub_cancel])
                rw [el] at a1
                exact ⟨t, a', g', a1, a2, a3, a4, a5, a6, a7, g1'.tr a8⟩
            have e8 : dn B (m + 1) = dn B m + (1 - ct B m) := rfl
            rw [ch_76 h' hs (by omega) (by omega), r1]
            rcases ct_01 B m with c1 | c1
            · have ex : st_a σ' 12 (dn B m - dn B a) = nI ((b + B m) % 2 ^ Q) := by
                have z := hQ' m ham lB
                rw [show dn B (m + 1) - 1 - dn B a = dn B m - dn B a by omega] at z
                exact z
              rw [if_pos c1, if_neg (by omega), ex, show dn B m - dn B a + 1 = dn B (m + 1) - dn B a by omega]
              exact go
            · have hne : m ≠ a := fun z => by rw [z] at c1; omega
              have hi0 : 0 < i := by
                rcases Nat.eq_zero_or_pos i with z | z
                · exfalso
                  rw [z, Nat.add_zero, ← hA] at em
                  have := hst a m (by omega) hm
                  omega
                · exact z
              have e9 : B (m - 1) = B m := by
                unfold ct at c1
                by_cases z : 0 < m ∧ B (m - 1) = B m
                · exact z.2
                · rw [if_neg z] at c1; omega
              rw [if_neg (by omega), hy hi0, e9, show dn B m - dn B a = dn B (m + 1) - dn B a by omega]
              exact go
          rcases Classical.em (∃ j, j < n ∧ B j = B a + i) with ⟨j, hj, ej⟩ | hnoB
          · obtain ⟨q1, -, -⟩ := rs_home hq R hj
            rw [ej, ← Nat.add_assoc] at q1
            rw [if_neg (by omega)]
            obtain ⟨p1, p2⟩ := qu_push (S := fun t => (b + t) % 2 ^ Q) R.srt laB ctB hQ hj ej
            have f1 : Gr noI (cM F) σ (put_a σ 12 (dn B (lb B n (B a + i)) - dn B a) (nI ((b + B a + i) % 2 ^ Q))) := gr_a (Or.inr rfl)
            have f1n : Gr noI (fun k _ => k = 12) σ (put_a σ 12 (dn B (lb B n (B a + i)) - dn B a) (nI ((b + B a + i) % 2 ^ Q))) := gr_a (show 12 = 12 from rfl)
            obtain ⟨t, a', g', a1, a2, a3, a4, a5, a6, a7, a8⟩ := tail _ (h.kp f1n.s (fun z => z) (fun z => z) (fun j z => by omega) (fun j z => by omega)) (hb.kp f1n.s (by omega) (by omega) (fun i hi z => by omega)) (by
              rw [sa_pa, if_pos rfl, Nat.add_assoc b]
              exact p2)
            rw [p1, show dn B (lb B n (B a + i)) + 1 - dn B a = dn B (lb B n (B a + i)) - dn B a + 1 by omega] at a1
            exact ⟨t, a', g', a1, a2, a3, a4, a5, a6, a7, f1.tr a8⟩
          · have hno' : ∀ m, m < n → B m ≠ B a + i := fun m hm e => hnoB ⟨m, hm, e⟩
            have z := rs_none hq R hlt hno'
            rw [← Nat.add_assoc] at z
            have l3 := qu_stay R.srt hno'
            rw [if_pos z]
            rw [← l3] at hQ ⊢
            exact tail σ h hb hQ
      · have hno' : ∀ m, m < n → po B 0 m ≠ B a + i := fun m hm e => hno ⟨m, hm, e⟩
        have z := rs_empty hq R hlt hno'
        rw [← Nat.add_assoc] at z
        have hi0 : 0 < i := by
          rcases Nat.eq_zero_or_pos i with y | y
          · exact absurd (by rw [y]; exact hA) (hno' a ha)
          · exact y
        rw [if_pos ⟨hi0, by rw [z]⟩]
        refine stop hi0 ?_
        rcases Nat.lt_or_ge (lb (po B 0) n (B a + i)) n with q | q
        · right
          have g1 := gt hi0
          have x1 : ¬ po B 0 (lb (po B 0) n (B a + i)) < B a + i := fun y => by have := (lb_iff hps (B a + i) _ q).1 y; omega
          have x2 := hno' _ q
          have x3 := (lb_iff hps (B a + i) (lb (po B 0) n (B a + i) - 1) (by omega)).2 (by omega)
          have x4 : po B 0 (lb (po B 0) n (B a + i) - 1 + 1) = max (B (lb (po B 0) n (B a + i) - 1 + 1)) (po B 0 (lb (po B 0) n (B a + i) - 1) + 1) := rfl
          rw [show lb (po B 0) n (B a + i) - 1 + 1 = lb (po B 0) n (B a + i) by omega] at x4
          omega
        · left; omega
    · have e0 : B a + i = 2 ^ Q := by omega
      have hi0 : 0 < i := by omega
      obtain ⟨-, r2, -, -⟩ := rs_elem hl hq R (show 0 < n by omega)
      rw [hz.1, hz.2, if_pos rfl, Nat.add_zero] at r2
      rw [if_pos ⟨hi0, by rw [Nat.add_assoc, e0, Nat.add_mod_right]; exact r2⟩]
      refine stop hi0 (Or.inl ?_)
      exact lb_uniq hps (Nat.le_refl _) (fun j hj => by have := R.lt j hj; omega)
