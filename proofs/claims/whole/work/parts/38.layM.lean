/-! how prints lie: the reference's -/
def LM (σ : St) (n q r : Nat) (f : Nat → Nat) : Prop := (∀ i, i < n → st_a σ 4 i = nI (sl (hh f r) (2 ^ q) n i)) ∧ (∀ s, s < 2 ^ q → st_a σ 5 s = nI (ix (sl (hh f r) (2 ^ q) n) n s) - 1) ∧ (∀ s, s < 2 ^ q → st_a σ 6 s = nI (mk (hh f r) (2 ^ q) n n s))
abbrev lM : Nat → Nat → Prop := fun k _ => k = 4 ∨ k = 5 ∨ k = 6
theorem mclear_loop {x : Int32} {q : Nat} (hq : q ≤ 6) : ∀ (d i k : Nat) (σ : St), i + d = 2 ^ q → ∃ t : St, f_X7_lies_n8 x (k + (d + 1)) σ (nI (2 ^ q)) (nI i) = f_X7_lies_n38 x fuel t (nI (2 ^ q)) 0 0 ∧ (∀ s, s < 2 ^ q → i ≤ s → st_a t 5 s = -1 ∧ st_a t 6 s = 0) ∧ (∀ s, s < i → st_a t 5 s = st_a σ 5 s ∧ st_a t 6 s = st_a σ 6 s) ∧ Gr noI lM σ t := by
  have hw := p2_bound hq
  intro d
  induction d with
  | zero =>
    intro i k σ e
    have : i = 2 ^ q := by omega
    subst this
    refine ⟨σ, ?_, fun s _ _ => by omega, fun _ _ => ⟨rfl, rfl⟩, Gr.rf⟩
    show f_X7_lies_n8_b x (f_X7_lies_n8 x k) σ _ _ = _
    unfold f_X7_lies_n8_b
    rw [if_pos (Le2 (2 ^ q) (2 ^ q))]
  | succ d ih =>
    intro i k σ e
    have ga : Gr noI lM σ (put_a (put_a σ 5 i (-1)) 6 i 0) := (gr_a (by omega)).tr (gr_a (by omega))
    obtain ⟨t, e1, e2, e3, e4⟩ := ih (i + 1) k (put_a (put_a σ 5 i (-1)) 6 i 0) (by omega)
    refine ⟨t, ?_, fun s hs his => ?_, fun s hs => ?_, ga.tr e4⟩
    · show f_X7_lies_n8_b x (f_X7_lies_n8 x (k + (d + 1))) σ _ _ = _
      unfold f_X7_lies_n8_b
      rw [if_neg (NLe2 (2 ^ q) i), if_pos (Inb i 64), lt_q, if_pos (Inb i 64), lt_q, lt_q, Cl i, nI_1]
      exact e1
    · by_cases z : s = i
      · obtain ⟨a1, a2⟩ := e3 s (by omega)
        rw [a1, a2, sa_pa, if_neg (by omega), sa_pa, if_pos rfl, upd_at, if_pos z, sa_pa, if_pos rfl, upd_at, if_pos z]
        exact ⟨rfl, rfl⟩
      · exact e2 s hs (by omega)
    · obtain ⟨a1, a2⟩ := e3 s (by omega)
      rw [a1, a2, sa_pa, if_neg (by omega), sa_pa, if_pos rfl, upd_at, if_neg (by omega), sa_pa, if_pos rfl, upd_at, if_neg (by omega), sa_pa, if_neg (by omega)]
      exact ⟨rfl, rfl⟩
theorem mplace_loop {F n q P : Nat} {f : Nat → Nat} {k38 : St → Int32 → Int32 → Int32 → Option St} {y4 : Int32} (cr : Nat) (hF : F < 2) (hl : HL (hh f (P - q)) (2 ^ q) n) (hq : q ≤ 6) (hqP : q ≤ P) (hP : P ≤ 14) (hcr : cr ≤ 128) : ∀ (d i k : Nat) (σ : St), i + d = n → BM σ F n q f → st_i σ 5 = nI P → ∃ t : St, f_X7_lies_n55 (nI F) k38 (k + (d + 1)) σ (nI (2 ^ q)) (nI (nx (hh f (P - q)) cr i)) y4 (nI i) = k38 t (nI (2 ^ q)) (nI (nx (hh f (P - q)) cr n)) (y4 + 1) ∧ (∀ j, j < n → i ≤ j → st_a t 4 j = nI (po (hh f (P - q)) cr j % 2 ^ q)) ∧ (∀ j, j < i → st_a t 4 j = st_a σ 4 j) ∧ Gr noI (fun k _ => k = 4) σ t := by
  have hw := p2_bound hq
  intro d
  induction d with
  | zero =>
    intro i k σ e h h5
    have : i = n := by omega
    subst this
    have hn := h.2.2.1
    refine ⟨σ, ?_, fun j hj hij => by omega, fun _ _ => rfl, Gr.rf⟩
    show f_X7_lies_n55_b (nI F) k38 (f_X7_lies_n55 (nI F) k38 k) σ _ _ _ _ = _
    unfold f_X7_lies_n55_b
    rw [if_pos (Inb F 2), Cl F, h.1, if_pos (Le2 i i), lt_q]
  | succ d ih =>
    intro i k σ e h h5
    have hn := h.2.2.1
    have hb := nx_le hl cr i (by omega)
    have hfi := h.2.2.2.2.1 i (by omega)
    have hhi := hl.1 i (by omega)
    have hpo : po (hh f (P - q)) cr i = max (hh f (P - q) i) (nx (hh f (P - q)) cr i) := rfl
    have hdv : f i / 2 ^ (P - q) ≤ f i := Nat.div_le_self _ _
    have hdh : hh f (P - q) i = f i / 2 ^ (P - q) := rfl
    have ga : Gr noI (fun k _ => k = 4) σ (put_a σ 4 i (nI (po (hh f (P - q)) cr i % 2 ^ q))) := gr_a rfl
    obtain ⟨t, e1, e2, e3, e4⟩ := ih (i + 1) k (put_a σ 4 i (nI (po (hh f (P - q)) cr i % 2 ^ q))) (by omega) (h.keep ga (by omega) (by omega) (fun i hi => by omega)) (by rw [si_pa]; exact h5)
    refine ⟨t, ?_, fun j hj hij => ?_, fun j hj => ?_, ga.tr e4⟩
    · show f_X7_lies_n55_b (nI F) k38 (f_X7_lies_n55 (nI F) k38 (k + (d + 1))) σ _ _ _ _ = _
      unfold f_X7_lies_n55_b
      have em : (if nI (nx (hh f (P - q)) cr i) < nI (f i / 2 ^ (P - q)) then nI (f i / 2 ^ (P - q)) else nI (nx (hh f (P - q)) cr i)) = nI (po (hh f (P - q)) cr i) := by
        rw [nI_max (by omega) (by omega), hpo, hdh, Nat.max_comm]
      rw [if_pos (Inb F 2), Cl F, h.1, if_neg (NLe2 n i), bm_at h hF (by omega), bind_some, bm_quot h hF h5 hqP (by omega) (by omega), bind_some, em, lt_q, if_neg (nI_ne0 (by omega) (by omega)), if_pos (Inb i 64), lt_q, lt_q, lt_q, pk_rem (by omega) (by omega) (by omega), Cl i, nI_1, nI_1]
      exact e1
    · by_cases z : j = i
      · rw [z, e3 i (by omega), sa_pa, if_pos rfl, upd_at, if_pos rfl]
      · exact e2 j hj (by omega)
    · rw [e3 j (by omega), sa_pa, if_pos rfl, upd_at, if_neg (by omega)]
theorem mfill_loop {F n q P : Nat} {f : Nat → Nat} (hF : F < 2) (hl : HL (hh f (P - q)) (2 ^ q) n) (hq : q ≤ 6) (hqP : q ≤ P) (hP : P ≤ 14) : ∀ (d i k : Nat) (σ : St), i + d = n → BM σ F n q f → st_i σ 5 = nI P → (∀ i, i < n → st_a σ 4 i = nI (sl (hh f (P - q)) (2 ^ q) n i)) → (∀ s, s < 2 ^ q → st_a σ 5 s = nI (ix (sl (hh f (P - q)) (2 ^ q) n) i s) - 1) → (∀ s, s < 2 ^ q → st_a σ 6 s = nI (mk (hh f (P - q)) (2 ^ q) n i s)) → ∃ t : St, f_X7_lies_n115 (nI F) (k + (d + 1)) σ (nI i) = some t ∧ (∀ s, s < 2 ^ q → st_a t 5 s = nI (ix (sl (hh f (P - q)) (2 ^ q) n) n s) - 1) ∧ (∀ s, s < 2 ^ q → st_a t 6 s = nI (mk (hh f (P - q)) (2 ^ q) n n s)) ∧ Gr noI (fun k _ => k = 5 ∨ k = 6) σ t := by
  have hw := p2_bound hq
  intro d
  induction d with
  | zero =>
    intro i k σ e h hp5 hp h4 h5
    have : i = n := by omega
    subst this
    have hn := h.2.2.1
    refine ⟨σ, ?_, h4, h5, Gr.rf⟩
    show f_X7_lies_n115_b (nI F) (f_X7_lies_n115 (nI F) k) σ _ = _
    unfold f_X7_lies_n115_b
    rw [if_pos (Inb F 2), Cl F, h.1, if_pos (Le2 i i)]
  | succ d ih =>
    intro i k σ e h hp5 hp h4 h5
    have hn := h.2.2.1
    have hi : i < n := by omega
    have hfi := h.2.2.2.2.1 i hi
    have hhi := hl.1 i hi
    have hsl := sl_lt (i := i) hl
    have hi1 : 0 < i → f (i - 1) < 16384 := fun z => h.2.2.2.2.1 (i - 1) (by omega)
    have key : ∀ w0 : Int32, w0 = nI (ct (hh f (P - q)) i) → ∃ t : St, f_X7_lies_n169 (nI F) (f_X7_lies_n115 (nI F) (k + (d + 1))) σ (nI i) (nI (hh f (P - q) i)) w0 = some t ∧ (∀ s, s < 2 ^ q → st_a t 5 s = nI (ix (sl (hh f (P - q)) (2 ^ q) n) n s) - 1) ∧ (∀ s, s < 2 ^ q → st_a t 6 s = nI (mk (hh f (P - q)) (2 ^ q) n n s)) ∧ Gr noI (fun k _ => k = 5 ∨ k = 6) σ t := by
      intro w0 hw0
      unfold f_X7_lies_n169
      rw [if_pos (Inb i 64), Cl i, hp i hi, if_pos (Inb (sl (hh f (P - q)) (2 ^ q) n i) 64), lt_q, if_pos (Inb (hh f (P - q) i) 64), if_pos (Inb (hh f (P - q) i) 64), lt_q, if_pos (Inb i 64), Cl (sl (hh f (P - q)) (2 ^ q) n i), Cl (hh f (P - q) i)]
      generalize hσ3 : put_a (put_a σ 5 (sl (hh f (P - q)) (2 ^ q) n i) (nI i)) 6 (hh f (P - q) i) (st_a (put_a σ 5 (sl (hh f (P - q)) (2 ^ q) n i) (nI i)) 6 (hh f (P - q) i) ||| 1) = σ3
      have c3 : ∀ s, s < 2 ^ q → st_a σ3 6 s = nI (if s = hh f (P - q) i then mk (hh f (P - q)) (2 ^ q) n i s ||| 1 else mk (hh f (P - q)) (2 ^ q) n i s) := by
        intro s hs
        rw [← hσ3, sa_pa, if_pos rfl, upd_at]
        by_cases z : s = hh f (P - q) i
        · rw [if_pos z, if_pos z, sa_pa, if_neg (by omega), ← z, h5 s hs, show (1 : Int32) = nI 1 from rfl, nI_or]
        · rw [if_neg z, if_neg z, sa_pa, if_neg (by omega), h5 s hs]
      have f3 : Gr noI (fun k _ => k = 5 ∨ k = 6) σ σ3 := by rw [← hσ3]; exact (gr_a (by omega)).tr (gr_a (by omega))
      have i3 : ∀ s, s < 2 ^ q → st_a σ3 5 s = nI (ix (sl (hh f (P - q)) (2 ^ q) n) (i + 1) s) - 1 := by
        intro s hs
        rw [← hσ3, sa_pa, if_neg (by omega), sa_pa, if_pos rfl, upd_at]
        show _ = nI (if sl (hh f (P - q)) (2 ^ q) n i = s then i + 1 else ix (sl (hh f (P - q)) (2 ^ q) n) i s) - 1
        by_cases z : s = sl (hh f (P - q)) (2 ^ q) n i
        · rw [if_pos z, if_pos z.symm, nI_pred]
        · rw [if_neg z, if_neg (fun y => z y.symm)]; exact h4 s hs
      have w4 : st_a σ3 4 i = nI (sl (hh f (P - q)) (2 ^ q) n i) := by rw [f3.2.1 4 i (by omega)]; exact hp i hi
      have fin : ∀ (w3 w4 : Nat), w3 = 2 * ct (hh f (P - q)) i → w4 = 4 * sf (hh f (P - q)) (2 ^ q) n i → ∃ t : St, f_X7_lies_n115 (nI F) (k + (d + 1)) (put_a σ3 6 (sl (hh f (P - q)) (2 ^ q) n i) (st_a σ3 6 (sl (hh f (P - q)) (2 ^ q) n i) ||| (nI w3 ||| nI w4))) (nI (i + 1)) = some t ∧ (∀ s, s < 2 ^ q → st_a t 5 s = nI (ix (sl (hh f (P - q)) (2 ^ q) n) n s) - 1) ∧ (∀ s, s < 2 ^ q → st_a t 6 s = nI (mk (hh f (P - q)) (2 ^ q) n n s)) ∧ Gr noI (fun k _ => k = 5 ∨ k = 6) σ t := by
        intro w3 w4 hw3 hw4
        have g4 : Gr noI (fun k _ => k = 5 ∨ k = 6) σ (put_a σ3 6 (sl (hh f (P - q)) (2 ^ q) n i) (st_a σ3 6 (sl (hh f (P - q)) (2 ^ q) n i) ||| (nI w3 ||| nI w4))) := f3.tr (gr_a (by omega))
        obtain ⟨t, e1, e2, e3, e4⟩ := ih (i + 1) k _ (by omega) (h.keep g4 (by omega) (by omega) (fun i hi => by omega)) (by rw [g4.1 5 (fun z => z)]; exact hp5) (fun j hj => by rw [g4.2.1 4 j (by omega)]; exact hp j hj) (fun s hs => by rw [sa_pa, if_neg (by omega)]; exact i3 s hs) (fun s hs => by
          have hfl := or_fl (r := 0) (ct_01 (hh f (P - q)) i) (sf_01 (hh f (P - q)) (2 ^ q) n i)
          rw [Nat.mul_zero, Nat.or_zero] at hfl
          rw [nI_or, hw3, hw4, hfl, c3 _ hsl, nI_or, sa_pa, if_pos rfl, upd_at]
          unfold mk at c3 ⊢
          rw [cl_step hl (fun _ => 0) hi s]
          by_cases z : s = sl (hh f (P - q)) (2 ^ q) n i
          · rw [if_pos z, if_pos z, ← z]
          · rw [if_neg z, if_neg z]; exact c3 s hs)
        exact ⟨t, e1, e2, e3, g4.tr e4⟩
      rw [w4]
      unfold f_X7_lies_n219 f_X7_lies_n236
      simp only [lt_q, w4, Inb i 64, Cl i, Inb (sl (hh f (P - q)) (2 ^ q) n i) 64, Cl (sl (hh f (P - q)) (2 ^ q) n i), nI_1, ↓reduceIte]
      rcases ct_01 (hh f (P - q)) i with y | y
      · rw [hw0, y, if_pos nI_0]
        by_cases z : sl (hh f (P - q)) (2 ^ q) n i = hh f (P - q) i
        · rw [z, if_pos rfl, ← z]
          exact fin 0 0 (by rw [y]) (by unfold sf; rw [if_pos z])
        · rw [if_neg (Ne2 (sl (hh f (P - q)) (2 ^ q) n i) (hh f (P - q) i))]
          exact fin 0 4 (by rw [y]) (by unfold sf; rw [if_neg z])
      · rw [hw0, y, if_neg (by decide)]
        by_cases z : sl (hh f (P - q)) (2 ^ q) n i = hh f (P - q) i
        · rw [z, if_pos rfl, ← z]
          exact fin 2 0 (by rw [y]) (by unfold sf; rw [if_pos z])
        · rw [if_neg (Ne2 (sl (hh f (P - q)) (2 ^ q) n i) (hh f (P - q) i))]
          exact fin 2 4 (by rw [y]) (by unfold sf; rw [if_neg z])
    show ∃ t : St, f_X7_lies_n115_b (nI F) (f_X7_lies_n115 (nI F) (k + (d + 1))) σ (nI i) = some t ∧ _
    unfold f_X7_lies_n115_b f_X7_lies_n168
    rw [if_pos (Inb F 2), Cl F, h.1, if_neg (NLe2 n i), bm_at h hF hi, bind_some, bm_quot h hF hp5 hqP (by omega) (by omega), bind_some]
    by_cases z : i = 0
    · rw [if_pos (show nI i ≤ 0 by rw [z]; decide)]
      exact key 0 (by unfold ct; rw [if_neg (by omega)]; rfl)
    · have hf1 := hi1 (by omega)
      have hh1 : f (i - 1) / 2 ^ (P - q) ≤ f (i - 1) := Nat.div_le_self _ _
      have hh2 : f i / 2 ^ (P - q) ≤ f i := Nat.div_le_self _ _
      rw [if_neg (nI_nle (by omega) (by omega)), Sub1 i, bm_at h hF (show i - 1 < n by omega), bind_some, bm_quot h hF hp5 hqP (by omega) (by omega), bind_some]
      by_cases y : f (i - 1) / 2 ^ (P - q) = f i / 2 ^ (P - q)
      · rw [y, if_pos rfl]
        exact key 1 (by unfold ct; rw [if_pos ⟨by omega, y⟩]; rfl)
      · rw [if_neg (Ne2 (f (i - 1) / 2 ^ (P - q)) (f i / 2 ^ (P - q)))]
        exact key 0 (by unfold ct; rw [if_neg (fun x => y x.2)]; rfl)
theorem lay_M {M : St} {F n q P : Nat} {f : Nat → Nat} (h : BM M F n q f) (hF : F < 2) (h5 : st_i M 5 = nI P) (hq : q ≤ 6) (hqP : q ≤ P) (hP : P ≤ 14) (hn : n < 2 ^ q) (hf : ∀ i, i < n → f i < 2 ^ P) : ∃ t : St, f_X7_lies M (nI F) = some t ∧ LM t n q (P - q) f ∧ Gr noI lM M t := by
  have hl := HL_of h.2.2.2.2.2 hqP hn hf
  have hw := p2_bound hq
  have hov := nx_le hl 0 n (Nat.le_refl _)
  have kp : ∀ {σ t : St} {A : Nat → Nat → Prop}, Gr noI A σ t → (∀ k j, A k j → lM k j) → Gr noI lM σ t := fun x y => x.mono (fun k z => z) y
  have bk : ∀ {t : St}, Gr noI lM M t → BM t F n q f ∧ st_i t 5 = nI P := fun g => ⟨h.keep g (by omega) (by omega) (fun i hi => by omega), by rw [g.1 5 (fun z => z)]; exact h5⟩
  obtain ⟨j2, hj2⟩ := fuel_ge (k := 2 ^ q + 1) (by omega)
  obtain ⟨t1, c1, c2, c3, c4⟩ := mclear_loop (x := nI F) hq (2 ^ q) 0 j2 M (by omega)
  obtain ⟨b1, i1⟩ := bk c4
  obtain ⟨j, hj⟩ := fuel_ge (k := n + 1) (by have := h.2.2.1; omega)
  obtain ⟨j3, hj3⟩ := fuel_ge (k := 3) (by omega)
  obtain ⟨t2, p1, p2, p3, p4⟩ := mplace_loop (k38 := f_X7_lies_n38 (nI F) (j3 + 2)) (y4 := 0) 0 hF hl hq hqP hP (by omega) n 0 j t1 (by omega) b1 i1
  have g2 : Gr noI lM M t2 := c4.tr (kp p4 (fun k j z => by omega))
  obtain ⟨b2, i2⟩ := bk g2
  obtain ⟨t3, r1, r2, r3, r4⟩ := mplace_loop (k38 := f_X7_lies_n38 (nI F) (j3 + 1)) (y4 := 1) (ov (hh f (P - q)) (2 ^ q) n) hF hl hq hqP hP (by unfold ov; omega) n 0 j t2 (by omega) b2 i2
  have g3 : Gr noI lM M t3 := g2.tr (kp r4 (fun k j z => by omega))
  obtain ⟨b3, i3⟩ := bk g3
  have hcl : ∀ s, s < 2 ^ q → st_a t3 5 s = -1 ∧ st_a t3 6 s = 0 := fun s hs => by
    rw [r4.2.1 5 s (by omega), r4.2.1 6 s (by omega), p4.2.1 5 s (by omega), p4.2.1 6 s (by omega)]
    exact c2 s hs (by omega)
  have hpl : ∀ i, i < n → st_a t3 4 i = nI (sl (hh f (P - q)) (2 ^ q) n i) := fun i hi => r2 i hi (by omega)
  obtain ⟨t4, m1, m2, m3, m4⟩ := mfill_loop hF hl hq hqP hP n 0 j t3 (by omega) b3 i3 hpl (fun s hs => by rw [(hcl s hs).1]; rfl) (fun s hs => by rw [(hcl s hs).2]; rfl)
  rw [← hj] at p1 r1 m1
  rw [← hj2] at c1
  refine ⟨t4, ?_, ⟨fun i hi => by rw [m4.2.1 4 i (by omega)]; exact hpl i hi, m2, m3⟩, g3.tr (kp m4 (fun k j z => by omega))⟩
  have c1' : f_X7_lies_n8 (nI F) fuel M (nI (2 ^ q)) 0 = f_X7_lies_n38 (nI F) fuel t1 (nI (2 ^ q)) 0 0 := c1
  have p1' : f_X7_lies_n55 (nI F) (f_X7_lies_n38 (nI F) (j3 + 2)) fuel t1 (nI (2 ^ q)) (nI 0) 0 0 = f_X7_lies_n38 (nI F) (j3 + 2) t2 (nI (2 ^ q)) (nI (nx (hh f (P - q)) 0 n)) 1 := p1
  have r1' : f_X7_lies_n55 (nI F) (f_X7_lies_n38 (nI F) (j3 + 1)) fuel t2 (nI (2 ^ q)) (nI (ov (hh f (P - q)) (2 ^ q) n)) 1 0 = f_X7_lies_n38 (nI F) (j3 + 1) t3 (nI (2 ^ q)) (nI (nx (hh f (P - q)) (ov (hh f (P - q)) (2 ^ q) n) n)) 2 := r1
  have m1' : f_X7_lies_n115 (nI F) fuel t3 0 = some t4 := m1
  unfold f_X7_lies
  rw [bm_slots h hF (by omega), bind_some, c1', hj3]
  show f_X7_lies_n38_b (nI F) (f_X7_lies_n38 (nI F) (j3 + 2)) t1 (nI (2 ^ q)) 0 0 = _
  unfold f_X7_lies_n38_b
  have s0 : (if (0 : Int32) < 0 - nI (2 ^ q) then 0 - nI (2 ^ q) else 0) = nI 0 := by
    have := subMax (a := 0) (b := 2 ^ q) (by omega) (by omega)
    rw [nI_0, show 0 - 2 ^ q = 0 by omega] at this
    exact this
  rw [if_neg (by decide), s0, lt_q, p1']
  show f_X7_lies_n38_b (nI F) (f_X7_lies_n38 (nI F) (j3 + 1)) t2 (nI (2 ^ q)) (nI (nx (hh f (P - q)) 0 n)) 1 = _
  unfold f_X7_lies_n38_b
  rw [if_neg (by decide), subMax (by omega) (by omega), lt_q]
  show f_X7_lies_n55 (nI F) (f_X7_lies_n38 (nI F) (j3 + 1)) fuel t2 (nI (2 ^ q)) (nI (ov (hh f (P - q)) (2 ^ q) n)) 1 0 = _
  rw [r1']
  show f_X7_lies_n38_b (nI F) (f_X7_lies_n38 (nI F) j3) t3 (nI (2 ^ q)) _ 2 = _
  unfold f_X7_lies_n38_b
  rw [if_pos (by decide), m1']
