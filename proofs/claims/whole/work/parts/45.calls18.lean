/-! gaps -/
theorem gaps_C {t : St} {F n q r : Nat} {f : Nat → Nat} {x1 : Int32} (l1 : LY t 0 n q r f) (hn : n < 64) (hq : q ≤ 6) : ∀ (d i k : Nat), i + d = 2 ^ q → f_X6_gaps_n32 x1 (k + (d + 1)) t F (nI (gst (fun s => gp (iB f n q r) (2 ^ q) s (2 ^ q) 0) (fun _ => 1) i).1) (gst (fun s => gp (iB f n q r) (2 ^ q) s (2 ^ q) 0) (fun _ => 1) i).2 (nI i) = f_X6_gaps_n32 x1 (k + 1) t F (nI (gst (fun s => gp (iB f n q r) (2 ^ q) s (2 ^ q) 0) (fun _ => 1) (2 ^ q)).1) (gst (fun s => gp (iB f n q r) (2 ^ q) s (2 ^ q) 0) (fun _ => 1) (2 ^ q)).2 (nI (2 ^ q)) := by
  have hw := p2_bound hq
  have e10 : st_i t 10 = nI (2 ^ q) := l1.2.1
  intro d
  induction d with
  | zero =>
    intro i k e
    have : i = 2 ^ q := by omega
    subst this
    rfl
  | succ d ih =>
    intro i k e
    have hi : i < 2 ^ q := by omega
    obtain ⟨j, hj⟩ := fuel_ge (k := 2 ^ q + 1) (by omega)
    have hg := gap_C l1 hn hq hi (2 ^ q) 0 j (by omega)
    rw [← hj, nI_0] at hg
    have hg' : f_X2_gapLength t 0 (nI i) = _ := hg
    have hsp := gp_spec (iB f n q r) (2 ^ q) i (2 ^ q) 0 (by omega)
    have hle := gst_le (G := fun s => gp (iB f n q r) (2 ^ q) s (2 ^ q) 0) (P := fun _ => 1) (fun s => (gp_spec (iB f n q r) (2 ^ q) s (2 ^ q) 0 (by omega)).2.1) i
    rw [← ih (i + 1) k (by omega)]
    show f_X6_gaps_n32_b x1 (f_X6_gaps_n32 x1 (k + (d + 1))) t F _ _ (nI i) = _
    unfold f_X6_gaps_n32_b f_X6_gaps_n68
    rw [e10, if_neg (NLe2 (2 ^ q) i), hg', bind_some]
    simp only [lt_q, nI_1, gst]
    generalize hA : (gst (fun s => gp (iB f n q r) (2 ^ q) s (2 ^ q) 0) (fun _ => 1) i).1 = A at hle
    generalize hB : gp (iB f n q r) (2 ^ q) i (2 ^ q) 0 = B at hsp
    by_cases c : A < B
    · have z : True ∧ A < B := ⟨trivial, c⟩
      simp only [c, and_self, ↓reduceIte]
      rw [if_neg (NLe2 B A), if_pos (Lt2 A B)]
    · simp only [c, and_false, ↓reduceIte]
      rw [if_pos (Le2 B A), if_neg (NLt2 A B), hA]
theorem gaps_M {u : St} {F n q r : Nat} {f : Nat → Nat} (l2 : LM u n q r f) (hF : F < 2) (h2 : st_a u 2 F = nI n) (hn : n < 64) (hq : q ≤ 6) : ∀ (d i k : Nat), i + d = 2 ^ q → f_X7_gaps_n33 (nI F) (k + (d + 1)) u (nI (2 ^ q)) (nI (gst (fun s => gp (iB f n q r) (2 ^ q) s (2 ^ q) 0) (fun s => if n = 0 ∨ 0 < iB f n q r ((s + 2 ^ q - 1) % 2 ^ q) then 1 else 0) i).1) (gst (fun s => gp (iB f n q r) (2 ^ q) s (2 ^ q) 0) (fun s => if n = 0 ∨ 0 < iB f n q r ((s + 2 ^ q - 1) % 2 ^ q) then 1 else 0) i).2 (nI i) = f_X7_gaps_n33 (nI F) (k + 1) u (nI (2 ^ q)) (nI (gst (fun s => gp (iB f n q r) (2 ^ q) s (2 ^ q) 0) (fun s => if n = 0 ∨ 0 < iB f n q r ((s + 2 ^ q - 1) % 2 ^ q) then 1 else 0) (2 ^ q)).1) (gst (fun s => gp (iB f n q r) (2 ^ q) s (2 ^ q) 0) (fun s => if n = 0 ∨ 0 < iB f n q r ((s + 2 ^ q - 1) % 2 ^ q) then 1 else 0) (2 ^ q)).2 (nI (2 ^ q)) := by
  have hw := p2_bound hq
  intro d
  induction d with
  | zero =>
    intro i k e
    have : i = 2 ^ q := by omega
    subst this
    rfl
  | succ d ih =>
    intro i k e
    have hi : i < 2 ^ q := by omega
    obtain ⟨j, hj⟩ := fuel_ge (k := 2 ^ q + 1) (by omega)
    have hsp := gp_spec (iB f n q r) (2 ^ q) i (2 ^ q) 0 (by omega)
    have hle := gst_le (G := fun s => gp (iB f n q r) (2 ^ q) s (2 ^ q) 0) (P := fun s => if n = 0 ∨ 0 < iB f n q r ((s + 2 ^ q - 1) % 2 ^ q) then 1 else 0) (fun s => (gp_spec (iB f n q r) (2 ^ q) s (2 ^ q) 0 (by omega)).2.1) i
    have hm : (i + 2 ^ q - 1) % 2 ^ q < 2 ^ q := Nat.mod_lt _ (by omega)
    have hh := (hold_M l2 hn hm).1
    rw [← ih (i + 1) k (by omega)]
    show f_X7_gaps_n33_b (nI F) (f_X7_gaps_n33 (nI F) (k + (d + 1))) u _ _ _ (nI i) = _
    unfold f_X7_gaps_n33_b
    generalize hk : f_X7_gaps_n33 (nI F) (k + (d + 1)) = k33
    have hg := gap_M (F := F) (k33 := k33) (y3 := nI (gst (fun s => gp (iB f n q r) (2 ^ q) s (2 ^ q) 0) (fun s => if n = 0 ∨ 0 < iB f n q r ((s + 2 ^ q - 1) % 2 ^ q) then 1 else 0) i).1) (y4 := (gst (fun s => gp (iB f n q r) (2 ^ q) s (2 ^ q) 0) (fun s => if n = 0 ∨ 0 < iB f n q r ((s + 2 ^ q - 1) % 2 ^ q) then 1 else 0) i).2) l2 hn hq hi (2 ^ q) 0 j (by omega)
    rw [← hj, nI_0] at hg
    rw [if_neg (NLe2 (2 ^ q) i), hg]
    unfold f_X7_gaps_n69 f_X7_gaps_n94 f_X7_gaps_n99 f_X7_gaps_n117 f_X7_gaps_n119 f_X7_gaps_n133
    have n10 : ¬ (1 : Int32) = 0 := by decide
    have nN : ¬ nI (2 ^ q) = 0 := nI_ne0 (by omega) (by omega)
    rw [nI_add, Sub1 (i + 2 ^ q), pk_rem (by omega) (by omega) (by omega)]
    simp only [lt_q, nI_1, gst, n10, nN, Inb F 2, Cl F, h2, Inb ((i + 2 ^ q - 1) % 2 ^ q) 64, Cl ((i + 2 ^ q - 1) % 2 ^ q), ↓reduceIte]
    generalize hA : gst (fun s => gp (iB f n q r) (2 ^ q) s (2 ^ q) 0) (fun s => if n = 0 ∨ 0 < iB f n q r ((s + 2 ^ q - 1) % 2 ^ q) then 1 else 0) i = A at hle
    generalize hB : gp (iB f n q r) (2 ^ q) i (2 ^ q) 0 = B at hsp
    have yes : (if nI B ≤ nI A.1 then k33 u (nI (2 ^ q)) (if nI A.1 < nI B then nI B else nI A.1) A.2 (nI (i + 1)) else k33 u (nI (2 ^ q)) (if nI A.1 < nI B then nI B else nI A.1) (nI i) (nI (i + 1))) = k33 u (nI (2 ^ q)) (nI (if A.1 < B then (B, nI i) else A).1) (if A.1 < B then (B, nI i) else A).2 (nI (i + 1)) := by
      by_cases c : A.1 < B
      · rw [if_neg (NLe2 B A.1), if_pos (Lt2 A.1 B), if_pos c]
      · rw [if_pos (Le2 B A.1), if_neg (NLt2 A.1 B), if_neg c]
    by_cases cn : n = 0
    · have c0 : nI n = 0 := by rw [cn]; rfl
      have cP : n = 0 ∨ 0 < iB f n q r ((i + 2 ^ q - 1) % 2 ^ q) := Or.inl cn
      simp only [c0, cP, ↓reduceIte, true_and]
      exact yes
    · have c0 : ¬ nI n = 0 := nI_ne0 (by omega) (by omega)
      by_cases cp : iB f n q r ((i + 2 ^ q - 1) % 2 ^ q) = 0
      · have cP : ¬ (n = 0 ∨ 0 < iB f n q r ((i + 2 ^ q - 1) % 2 ^ q)) := by omega
        have ch : st_a u 5 ((i + 2 ^ q - 1) % 2 ^ q) < 0 := hh.2 cp
        have z01 : ¬ (0 : Nat) = 1 := by omega
        have cA : ¬ nI A.1 < 0 := Pos A.1
        simp only [c0, cP, ch, z01, cA, ↓reduceIte, false_and]
      · have cP : n = 0 ∨ 0 < iB f n q r ((i + 2 ^ q - 1) % 2 ^ q) := by omega
        have ch : ¬ st_a u 5 ((i + 2 ^ q - 1) % 2 ^ q) < 0 := fun z => cp (hh.1 z)
        simp only [c0, cP, ch, ↓reduceIte, true_and]
        exact yes
theorem gp_pred {f : Nat → Nat} {n q r s : Nat} (hl : HL (hh f r) (2 ^ q) n) (hn : 0 < n) (hs : s < 2 ^ q) (hp : iB f n q r ((s + 2 ^ q - 1) % 2 ^ q) = 0) : gp (iB f n q r) (2 ^ q) s (2 ^ q) 0 < gp (iB f n q r) (2 ^ q) ((s + 2 ^ q - 1) % 2 ^ q) (2 ^ q) 0 := by
  have a := gp_spec (iB f n q r) (2 ^ q) s (2 ^ q) 0 (by omega)
  have b := gp_spec (iB f n q r) (2 ^ q) ((s + 2 ^ q - 1) % 2 ^ q) (2 ^ q) 0 (by omega)
  -- a full place
  have hfull : ∃ x, x < 2 ^ q ∧ 0 < iB f n q r x := ⟨sl (hh f r) (2 ^ q) n 0, sl_lt hl, by unfold iB; rw [ix_sl hl hn]; omega⟩
  obtain ⟨x, hx, hxf⟩ := hfull
  have shift : ∀ z, z < 2 ^ q → (((s + 2 ^ q - 1) % 2 ^ q) + (z + 1)) % 2 ^ q = (s + z) % 2 ^ q := by
    intro z hz
    rw [Nat.mod_add_mod, show s + 2 ^ q - 1 + (z + 1) = s + z + 2 ^ q by omega, Nat.add_mod_right]
  have hmd : (s + 2 ^ q - 1) % 2 ^ q < 2 ^ q := Nat.mod_lt _ (by omega)
  generalize gp (iB f n q r) (2 ^ q) s (2 ^ q) 0 = A at *
  generalize gp (iB f n q r) (2 ^ q) ((s + 2 ^ q - 1) % 2 ^ q) (2 ^ q) 0 = B at *
  rcases Nat.lt_or_ge A B with c | c
  · exact c
  · exfalso
    rcases Nat.lt_or_ge B (2 ^ q) with d | d
    · have h1 := b.2.2.2 d
      rcases Nat.eq_zero_or_pos B with z | z
      · rw [z, Nat.add_zero, Nat.mod_eq_of_lt hmd] at h1; exact h1 hp
      · have h2 := a.2.2.1 (B - 1) (by omega) (by omega)
        rw [← shift (B - 1) (by omega), show B - 1 + 1 = B by omega] at h2
        exact h1 h2
    · -- every place is empty
      have hz : ∃ z, z < 2 ^ q ∧ (s + z) % 2 ^ q = x := by
        by_cases c2 : s ≤ x
        · exact ⟨x - s, by omega, by rw [show s + (x - s) = x by omega, Nat.mod_eq_of_lt hx]⟩
        · exact ⟨x + 2 ^ q - s, by omega, by rw [show s + (x + 2 ^ q - s) = x + 2 ^ q by omega, Nat.add_mod_right, Nat.mod_eq_of_lt hx]⟩
      obtain ⟨z, hz1, hz2⟩ := hz
      have := a.2.2.1 z (by omega) (by omega)
      rw [hz2] at this
      omega
theorem m_gaps {C M : St} (h : Rel C M) (x1 : Int32) : Ok2 (f_X6_gaps C x1) (f_X7_gaps M x1) := by
  have h' := h.thr 0
  unfold f_X6_gaps f_X7_gaps
  rw [lt_q, lt_q]
  obtain ⟨P, L, n, q, f, kt, gt, hr⟩ := h'.rf
  generalize hM : put_i M 0 0 = M0 at h' hr ⊢
  refine guardF h' (fun F hF hx => ?_)
  subst hx
  obtain ⟨t, u, e1, e2, l1, l2, hr2, hl, f1, f2⟩ := lay2 hr hF
  obtain ⟨a1, a2, ⟨q1, q2, q3⟩, a4, a5⟩ := hr2.2.1 F hF
  have hw := p2_bound q2
  have hn := a1.2.2.1
  have hsl := bm_slots a2 hF (show q F < 31 by omega)
  obtain ⟨j, hj⟩ := fuel_ge (k := 2 ^ q F + 1) (by omega)
  have gC := gaps_C (F := F) (x1 := nI F) l1 hn q2 (2 ^ q F) 0 j (by omega)
  have gM := gaps_M l2 hF a2.1 hn q2 (2 ^ q F) 0 j (by omega)
  rw [← hj] at gC gM
  have gC' : f_X6_gaps_n32 (nI F) fuel t F 0 (-1) 0 = _ := gC
  have gM' : f_X7_gaps_n33 (nI F) fuel u (nI (2 ^ q F)) 0 (-1) 0 = _ := gM
  have same : gst (fun s => gp (iB (f F) (n F) (q F) (P - q F)) (2 ^ q F) s (2 ^ q F) 0) (fun s => if n F = 0 ∨ 0 < iB (f F) (n F) (q F) (P - q F) ((s + 2 ^ q F - 1) % 2 ^ q F) then 1 else 0) (2 ^ q F) = gst (fun s => gp (iB (f F) (n F) (q F) (P - q F)) (2 ^ q F) s (2 ^ q F) 0) (fun _ => 1) (2 ^ q F) := by
    refine gst_same ?_ (fun s hs hg hP => ?_)
    · obtain ⟨x, hx, hx0⟩ := free_slot hl
      refine ⟨x, hx, ?_⟩
      have sp := gp_spec (iB (f F) (n F) (q F) (P - q F)) (2 ^ q F) x (2 ^ q F) 0 (by omega)
      show 0 < gp (iB (f F) (n F) (q F) (P - q F)) (2 ^ q F) x (2 ^ q F) 0
      rcases Nat.eq_zero_or_pos (gp (iB (f F) (n F) (q F) (P - q F)) (2 ^ q F) x (2 ^ q F) 0) with z | z
      · have := sp.2.2.2 (by omega)
        rw [z, Nat.add_zero, Nat.mod_eq_of_lt hx] at this
        exact absurd hx0 this
      · exact z
    · have hc : ¬ (n F = 0 ∨ 0 < iB (f F) (n F) (q F) (P - q F) ((s + 2 ^ q F - 1) % 2 ^ q F)) := fun z => hP (by show (if _ then _ else _) = _; rw [if_pos z])
      refine ⟨(s + 2 ^ q F - 1) % 2 ^ q F, Nat.mod_lt _ (by omega), ?_⟩
      exact gp_pred hl (by omega) hs (by omega)
  rw [same] at gM'
  rw [e1, bind_some, e2, bind_some, hsl, bind_some, gC', gM']
  generalize gst (fun s => gp (iB (f F) (n F) (q F) (P - q F)) (2 ^ q F) s (2 ^ q F) 0) (fun _ => 1) (2 ^ q F) = A
  have e10 : st_i t 10 = nI (2 ^ q F) := l1.2.1
  obtain ⟨t1, u1, u2, c1, c2, c3, c4, c5, -⟩ := end2 hr2 (nI A.1).toInt64 A.2.toInt64
  obtain ⟨b1, b2, -⟩ := c5.2.1 F hF
  show Ok2 (f_X6_gaps_n32_b (nI F) (f_X6_gaps_n32 (nI F) j) t F _ _ _) (f_X7_gaps_n33_b (nI F) (f_X7_gaps_n33 (nI F) j) u _ _ _ _)
  unfold f_X6_gaps_n32_b f_X7_gaps_n33_b
  rw [e10, if_pos (Le2 (2 ^ q F) (2 ^ q F)), c1, bind_some, if_pos (Le2 (2 ^ q F) (2 ^ q F)), lt_q, c2, bind_some, c3, bind_some, if_pos (Inb F 2), Cl F, b1.1, b2.1, bc_slots b1 (by omega)]
  exact ⟨_, _, _, rfl, rfl, c4⟩
