/-! comparisons with a literal -/
theorem bind_q {α β : Type} (x : α) (f : α → Option β) : (some x).bind f = f x := id rfl
theorem bind2_q {α β γ : Type} (x : α) (y : β) (f : α → β → Option γ) : bind2 (some (x, y)) f = f x y := id rfl
theorem LeR (k : Nat) (y : Int32) (b : Nat) (h : k ≤ b := by omega) (hy : y = nI b := by rfl) (hb : b < 2 ^ 31 := by omega) : nI k ≤ y := by rw [hy]; exact nI_le h hb
theorem NLeR (k : Nat) (y : Int32) (b : Nat) (h : b < k := by omega) (hy : y = nI b := by rfl) (hk : k < 2 ^ 31 := by omega) : ¬ nI k ≤ y := by rw [hy]; exact nI_ge h hk
theorem LtR (k : Nat) (y : Int32) (b : Nat) (h : k < b := by omega) (hy : y = nI b := by rfl) (hb : b < 2 ^ 31 := by omega) : nI k < y := by rw [hy]; exact nI_lt h hb
theorem NLtR (k : Nat) (y : Int32) (b : Nat) (h : b ≤ k := by omega) (hy : y = nI b := by rfl) (hk : k < 2 ^ 31 := by omega) : ¬ nI k < y := by rw [hy]; exact nI_nlt h hk
theorem LeL (y : Int32) (b k : Nat) (h : b ≤ k := by omega) (hy : y = nI b := by rfl) (hk : k < 2 ^ 31 := by omega) : y ≤ nI k := by rw [hy]; exact nI_le h hk
theorem NLeL (y : Int32) (b k : Nat) (h : k < b := by omega) (hy : y = nI b := by rfl) (hb : b < 2 ^ 31 := by omega) : ¬ y ≤ nI k := by rw [hy]; exact nI_ge h hb
theorem LtL (y : Int32) (b k : Nat) (h : b < k := by omega) (hy : y = nI b := by rfl) (hk : k < 2 ^ 31 := by omega) : y < nI k := by rw [hy]; exact nI_lt h hk
theorem NLtL (y : Int32) (b k : Nat) (h : k ≤ b := by omega) (hy : y = nI b := by rfl) (hb : b < 2 ^ 31 := by omega) : ¬ y < nI k := by rw [hy]; exact nI_nlt h hb
theorem Le2 (a b : Nat) (h : a ≤ b := by omega) (hb : b < 2 ^ 31 := by omega) : nI a ≤ nI b := nI_le h hb
theorem NLe2 (a b : Nat) (h : b < a := by omega) (ha : a < 2 ^ 31 := by omega) : ¬ nI a ≤ nI b := nI_ge h ha
theorem Lt2 (a b : Nat) (h : a < b := by omega) (hb : b < 2 ^ 31 := by omega) : nI a < nI b := nI_lt h hb
theorem NLt2 (a b : Nat) (h : b ≤ a := by omega) (ha : a < 2 ^ 31 := by omega) : ¬ nI a < nI b := nI_nlt h ha
theorem Ne2 (a b : Nat) (h : a ≠ b := by omega) (ha : a < 2 ^ 31 := by omega) (hb : b < 2 ^ 31 := by omega) : ¬ nI a = nI b := fun e => h (nI_inj ha hb e)
theorem NeR (k : Nat) (y : Int32) (b : Nat) (h : k ≠ b := by omega) (hy : y = nI b := by rfl) (hk : k < 2 ^ 31 := by omega) (hb : b < 2 ^ 31 := by omega) : ¬ nI k = y := by rw [hy]; exact Ne2 k b
theorem Pos (k : Nat) (h : k < 2 ^ 31 := by omega) : ¬ nI k < 0 := nI_pos h
theorem NNeg (k : Nat) (h : k < 2 ^ 31 := by omega) : 0 ≤ nI k := LeL 0 0 k
theorem Inb (k n : Nat) (h : k < n := by omega) (hn : n < 2 ^ 31 := by omega) : in_b (nI k) n = true := in_b_nI h hn
theorem Cl (k : Nat) (h : k < 2 ^ 31 := by omega) : (nI k).toNatClampNeg = k := nI_clamp h
theorem Sub2 (a b : Nat) (h : b ≤ a := by omega) : nI a - nI b = nI (a - b) := pk_sub h
theorem Sub1 (a : Nat) (h : 0 < a := by omega) : nI a - 1 = nI (a - 1) := nI_sub1 h
/-! sign, count without marks -/
theorem sign_C_loop (x : Int32) : ∀ (d : Nat) (j kt : Nat) (g : Nat → Nat) (σ : St), d ≤ 4 → TC σ kt g → kt + d ≤ 80 → ∃ t : St, f_X5_addFour_n26 x (j + (d + 1)) σ (nI (8 * d) - 8) = some (1, t) ∧ TC t (kt + d) (fun i => if i < kt then g i else byt x (4 - d + (i - kt))) ∧ Fr (fun k => k = 17) (fun k => k = 12) σ t := by
  intro d
  induction d with
  | zero =>
    intro j kt g σ _ h _
    show ∃ t : St, f_X5_addFour_n26_b x (f_X5_addFour_n26 x j) σ (nI (8 * 0) - 8) = some (1, t) ∧ _
    unfold f_X5_addFour_n26_b
    rw [if_pos (by decide)]
    refine ⟨σ, rfl, ⟨h.1, h.2.1, fun i hi => ?_, fun i hi => ?_⟩, Fr.rf⟩
    · rw [h.2.2.1 i hi]; dsimp only; rw [if_pos (show i < kt from hi)]
    · dsimp only; rw [if_pos (show i < kt from hi)]; exact h.2.2.2 i hi
  | succ d ih =>
    intro j kt g σ hd h hk
    obtain ⟨h1, h2, h3, h4⟩ := id h
    show ∃ t : St, f_X5_addFour_n26_b x (f_X5_addFour_n26 x (j + (d + 1))) σ (nI (8 * (d + 1)) - 8) = some (1, t) ∧ _
    unfold f_X5_addFour_n26_b
    have e8 : nI (8 * (d + 1)) - 8 = nI (8 * d) := by
      rw [show (8 : Int32) = nI 8 from rfl, pk_sub (by omega)]
      congr 1
    have e24 : 8 * d = 24 - 8 * (3 - d) := by omega
    have hb := byt_C x (k := 3 - d) (by omega)
    rw [← e24] at hb
    rw [e8, if_neg (nI_pos (by omega)), h1, if_pos (in_b_nI (by omega) (by omega)), lt_q, lt_q, lt_q, hb, nI_clamp (by omega), si_pa, h1, nI_1]
    have hT : TC (put_i (put_a σ 12 kt (nI (byt x (3 - d)))) 17 (nI (kt + 1))) (kt + 1) (fun i => if i < kt then g i else byt x (3 - d)) := by
      refine ⟨by rw [si_pi, if_pos rfl], by omega, fun i hi => ?_, fun i hi => ?_⟩
      · rw [sa_pi, sa_pa, if_pos rfl, upd_at]
        dsimp only
        by_cases c : i = kt
        · rw [if_pos c, if_neg (by omega)]
        · rw [if_neg c, if_pos (by omega)]; exact h3 i (by omega)
      · dsimp only
        by_cases c : i = kt
        · rw [if_neg (by omega)]; exact byt_lt _ _
        · rw [if_pos (by omega)]; exact h4 i (by omega)
    obtain ⟨t, e, f1, f2⟩ := ih j (kt + 1) _ _ (by omega) hT (by omega)
    have e9 : nI (8 * d) + -8 = nI (8 * d) - 8 := by
      rw [Int32.sub_eq_add_neg]
    rw [e9, e]
    refine ⟨t, rfl, ⟨by rw [f1.1]; congr 1; omega, by omega, fun i hi => ?_, fun i hi => ?_⟩, ?_⟩
    · rw [f1.2.2.1 i (by omega)]
      congr 1
      dsimp only
      by_cases c : i < kt
      · rw [if_pos c, if_pos (by omega), if_pos c]
      · by_cases c2 : i = kt
        · rw [if_pos (by omega), if_neg c, if_neg c]; congr 1; omega
        · rw [if_neg (by omega), if_neg c]; congr 1; omega
    · dsimp only
      by_cases c : i < kt
      · rw [if_pos c]; exact h4 i c
      · rw [if_neg c]; exact byt_lt _ _
    · exact ((fr_a (by omega)).tr (fr_i (by omega))).tr f2
theorem sign_M_loop (x : Int32) (kt : Nat) (hk : kt ≤ 76) : ∀ (d i j : Nat) (σ : St), i + d = 4 → st_i σ 2 = nI kt → ∃ t : St, f_X7_sign_n18 x (j + (d + 1)) σ (nI i) = some (nI (kt + 4), t) ∧ st_i t 2 = nI (kt + 4) ∧ (∀ j, st_a t 0 j = if kt + i ≤ j ∧ j < kt + 4 then nI (byt x (j - kt)) else st_a σ 0 j) ∧ Gr (fun k => k = 2) (fun k _ => k = 0) σ t := by
  intro d
  induction d with
  | zero =>
    intro i j σ hi h
    have : i = 4 := by omega
    subst this
    show ∃ t : St, f_X7_sign_n18_b x (f_X7_sign_n18 x j) σ (nI 4) = _ ∧ _
    unfold f_X7_sign_n18_b
    rw [if_pos (by decide), lt_q, si_pi, if_pos rfl, h, show (4 : Int32) = nI 4 from rfl, nI_add]
    refine ⟨_, rfl, by rw [si_pi, if_pos rfl], fun j => ?_, gr_i rfl⟩
    rw [if_neg (by omega), sa_pi]
  | succ d ih =>
    intro i j σ hi h
    show ∃ t : St, f_X7_sign_n18_b x (f_X7_sign_n18 x (j + (d + 1))) σ (nI i) = _ ∧ _
    unfold f_X7_sign_n18_b
    rw [if_neg (show ¬ (4 : Int32) ≤ nI i from nI_ge (b := 4) (by omega) (by omega)), h, nI_add, if_pos (in_b_nI (by omega) (by omega)), lt_q, lt_q, byt_M x (by omega), nI_clamp (by omega), nI_1]
    obtain ⟨t, e, f1, f2, f3⟩ := ih (i + 1) j (put_a σ 0 (kt + i) (nI (byt x i))) (by omega) (by rw [si_pa]; exact h)
    refine ⟨t, e, f1, fun j => ?_, (gr_a (by omega)).tr f3⟩
    rw [f2 j, sa_pa, if_pos rfl, upd_at]
    by_cases c : j = kt + i
    · rw [if_neg (by omega), if_pos c, if_pos (by omega), c, show kt + i - kt = i by omega]
    · by_cases c2 : kt + i ≤ j ∧ j < kt + 4
      · rw [if_pos (by omega), if_pos c2]
      · rw [if_neg (by omega), if_neg c, if_neg c2]
theorem m_sign {C M : St} (h : Rel C M) (x : Int32) : Ok2 (f_X6_sign C x) (f_X7_sign M x) := by
  have h' := h.thr 0
  obtain ⟨P, L, n, q, f, kr, gr, kt, gt, h1, h2, h3, h5, h6⟩ := id h'
  unfold f_X6_sign f_X7_sign f_X5_addFour
  rw [lt_q, h5.1, h6.1, if_neg (nI_pos (by have := h5.2.1; omega)), show (4 : Int32) = nI 4 from rfl, nI_add]
  by_cases a : kt ≤ 76
  · rw [if_pos (LeR (kt + 4) 80 80), if_pos (LeR kt 76 76)]
    obtain ⟨j, hj⟩ := fuel_ge (k := 5) (by omega)
    obtain ⟨t, e, f1, f2⟩ := sign_C_loop x 4 j kt gt C (by omega) h5 (by omega)
    obtain ⟨u, e', g0, g1, g2⟩ := sign_M_loop x kt a 4 0 j (put_i M 0 0) rfl h6.1
    rw [show nI (8 * 4) - 8 = (24 : Int32) by decide, ← hj] at e
    rw [← hj, nI_0] at e'
    rw [e, e', bind2_some, if_neg (by decide), f1.1]
    refine ⟨_, _, _, rfl, rfl, P, L, n, q, f, kr, gr, kt + 4, _, h1.kp f2.s g2.s (fun k z => by omega) (fun k z => by omega), fun F hF => (h2 F hF).kp f2.s g2.s ⟨by omega, by omega⟩ (by omega) ⟨by omega, by omega, fun _ _ z => by omega⟩, ⟨h3.1.kp f2 (by omega), h3.2.kp g2 (by omega)⟩, f1, ⟨g0, by omega, fun i hi => ?_⟩⟩
    rw [g1 i]
    dsimp only
    by_cases c : i < kt
    · rw [if_neg (by omega), if_pos c]; exact h6.2.2 i c
    · rw [if_pos (by omega), if_neg c]; congr 2; omega
  · have := h5.2.1
    rw [if_neg (NLeR (kt + 4) 80 80), if_neg (NLeR kt 76 76), bind2_some, if_pos rfl]
    exact ⟨_, _, _, rfl, rfl, h'⟩
