/-! lays: the text of a file is read -/
theorem text_out {σ : St} {K p : Nat} {g : Nat → Nat} (h : TC σ K g) (hp : K ≤ p) (hp2 : p < 2 ^ 31) : f_X5_at σ (nI p) = some (-1) := by
  have hK := h.2.1
  unfold f_X5_at
  rw [if_neg (Pos p), h.1, if_pos (Le2 K p)]
theorem neg_lt (k : Nat) (h : k < 2 ^ 31) : (-1 : Int32) < nI k := by
  rw [Int32.lt_iff_toInt_lt, nI_toInt h]
  have : (-1 : Int32).toInt = -1 := rfl
  omega
theorem hex_in (σ : St) {v : Nat} (hv : v < 256) : f_X4_hexOf σ (nI v) = if 48 ≤ v ∧ v ≤ 57 then nI (v - 48) else if 97 ≤ v ∧ v ≤ 102 then nI (v - 87) else -1 := by
  unfold f_X4_hexOf f_X4_hexOf_n17
  by_cases a : v < 48
  · rw [if_pos (LtR v 48 48), if_pos (LtR v 97 97), if_neg (by omega), if_neg (by omega)]
  · rw [if_neg (NLtR v 48 48)]
    by_cases b : v ≤ 57
    · rw [if_neg (NLtL 57 57 v), if_pos (by omega), show (48 : Int32) = nI 48 from rfl, Sub2 v 48]
    · rw [if_pos (LtL 57 57 v), if_neg (show ¬ (48 ≤ v ∧ v ≤ 57) by omega)]
      by_cases c : v < 97
      · rw [if_pos (LtR v 97 97), if_neg (by omega)]
      · rw [if_neg (NLtR v 97 97)]
        by_cases d : v ≤ 102
        · rw [if_neg (NLtL 102 102 v), if_pos (by omega), show (97 : Int32) = nI 97 from rfl, Sub2 v 97, show (10 : Int32) = nI 10 from rfl, nI_add]
          congr 1
          omega
        · rw [if_pos (LtL 102 102 v), if_neg (by omega)]
theorem hex_7 : ∀ i, i < 16 → chN 7 i = if i < 10 then 48 + i else 87 + i := by decide +kernel
theorem hex_6 : ∀ i, i < 8 → chN 6 i = 48 + i := by decide +kernel
theorem hex2 {C M : St} {K p : Nat} {g : Nat → Nat} (hC : TC C K g) (hM : MT M K p g) (hp : p ≤ 80) : (∃ h, h < 16 ∧ p < K ∧ (∃ w, f_X5_at C (nI p) = some w ∧ f_X4_hexOf C w = nI h) ∧ f_X7_takesOf M 7 = some (nI h, put_i M 3 (nI (p + 1))) ∧ (h ≤ 7 → f_X7_takesOf M 6 = some (nI h, put_i M 3 (nI (p + 1)))) ∧ (7 < h → f_X7_takesOf M 6 = some (-1, M))) ∨ ((∃ w, f_X5_at C (nI p) = some w ∧ f_X4_hexOf C w = -1) ∧ f_X7_takesOf M 7 = some (-1, M) ∧ f_X7_takesOf M 6 = some (-1, M)) := by
  have hK := hC.2.1
  rcases Nat.lt_or_ge p K with q | q
  · have hg := hC.2.2.2 p q
    have t7 := takes_in (z := 7) (by omega) (by omega) hM.1 hM.2.1 hK q hg (hM.2.2 p q)
    have t6 := takes_in (z := 6) (by omega) (by omega) hM.1 hM.2.1 hK q hg (hM.2.2 p q)
    have ea := text_at hC q
    have eh := hex_in C hg
    rcases t7 with ⟨i, i1, i2, i3⟩ | ⟨i1, i2⟩
    · have i1' : i < 16 := i1
      have e7 := hex_7 i i1'
      left
      refine ⟨i, i1', q, ⟨_, ea, ?_⟩, i3, fun h7 => ?_, fun h7 => ?_⟩
      · rw [eh]
        by_cases z : i < 10
        · rw [if_pos z] at e7
          rw [if_pos (by omega), show g p - 48 = i by omega]
        · rw [if_neg z] at e7
          rw [if_neg (by omega), if_pos (by omega), show g p - 87 = i by omega]
      · rcases t6 with ⟨j, j1, j2, j3⟩ | ⟨j1, j2⟩
        · have j1' : j < 8 := j1
          have e6 := hex_6 j j1'
          rw [if_pos (by omega)] at e7
          rw [j3, show j = i by omega]
        · exfalso
          rw [if_pos (by omega)] at e7
          exact j1 i (show i < 8 by omega) (by rw [hex_6 i (by omega)]; omega)
      · rcases t6 with ⟨j, j1, j2, j3⟩ | ⟨j1, j2⟩
        · exfalso
          have j1' : j < 8 := j1
          have e6 := hex_6 j j1'
          by_cases z : i < 10
          · rw [if_pos z] at e7; omega
          · rw [if_neg z] at e7; omega
        · exact j2
    · right
      have nd : ¬ (48 ≤ g p ∧ g p ≤ 57) := fun z => i1 (g p - 48) (show g p - 48 < 16 by omega) (by rw [hex_7 _ (by omega), if_pos (by omega)]; omega)
      have nl : ¬ (97 ≤ g p ∧ g p ≤ 102) := fun z => i1 (g p - 87) (show g p - 87 < 16 by omega) (by rw [hex_7 _ (by omega), if_neg (by omega)]; omega)
      refine ⟨⟨_, ea, by rw [eh, if_neg nd, if_neg nl]⟩, i2, ?_⟩
      rcases t6 with ⟨j, j1, j2, j3⟩ | ⟨j1, j2⟩
      · exfalso
        have j1' : j < 8 := j1
        have e6 := hex_6 j j1'
        omega
      · exact j2
  · right
    exact ⟨⟨_, text_out hC q (by omega), rfl⟩, takes_end (by omega) (by omega) hM.1 hM.2.1 hK q hp, takes_end (by omega) (by omega) hM.1 hM.2.1 hK q hp⟩
theorem MT.go3 {σ : St} {K p : Nat} {g : Nat → Nat} (h : MT σ K p g) (p' : Nat) : MT (put_i σ 3 (nI p')) K p' g := ⟨by rw [si_pi, if_neg (by omega)]; exact h.1, by rw [si_pi, if_pos rfl], fun i hi => by rw [sa_pi]; exact h.2.2 i hi⟩
theorem neg_n29 (x1 : Int32) (k i : Nat) (M : St) (hi : i ≤ 3) : f_X7_readsSlot_n29 x1 (k + 1) M (-1) (nI i) = f_X7_readsSlot_n69 x1 M (-1) := by
  show f_X7_readsSlot_n29_b x1 (f_X7_readsSlot_n29 x1 k) M (-1) (nI i) = _
  unfold f_X7_readsSlot_n29_b
  rw [if_pos (show (-1 : Int32) < 0 by decide)]
  split <;> rfl
/-- the three digits of a remainder -/
theorem dig3 {C : St} {K p0 : Nat} {g : Nat → Nat} (hC : TC C K g) (hp : p0 ≤ 70) (x1 x2 x3 y5 : Int32) : ∀ (d i acc kC kM : Nat) (M : St), i + d = 3 → acc < 16 ^ i → p0 + 1 + i ≤ K → MT M K (p0 + 1 + i) g → (∃ (acc' : Nat) (t : St), (acc' < 4096 ∧ p0 + 4 ≤ K) ∧ f_X4_readCell_n44 x2 x3 (kC + (d + 1)) C (nI p0) y5 (nI acc) (nI (p0 + 1 + i)) = f_X4_readCell_n44 x2 x3 (kC + 1) C (nI p0) y5 (nI acc') (nI (p0 + 4)) ∧ f_X7_readsSlot_n29 x1 (kM + (d + 1)) M (nI acc) (nI i) = f_X7_readsSlot_n69 x1 t (nI acc') ∧ MT t K (p0 + 4) g ∧ Gr (fun k => k = 3) nA2 M t) ∨ (∃ (e : Nat) (t : St), e ≤ 80 ∧ f_X4_readCell_n44 x2 x3 (kC + (d + 1)) C (nI p0) y5 (nI acc) (nI (p0 + 1 + i)) = some (-1 - nI e, C) ∧ f_X7_readsSlot_n29 x1 (kM + (d + 1)) M (nI acc) (nI i) = f_X7_readsSlot_n69 x1 t (-1) ∧ st_i t 3 = nI e ∧ Gr (fun k => k = 3) nA2 M t) := by
  intro d
  induction d with
  | zero =>
    intro i acc kC kM M e ha hpK hM
    have : i = 3 := by omega
    subst this
    left
    refine ⟨acc, M, ⟨by omega, by omega⟩, rfl, ?_, hM, Gr.rf⟩
    show f_X7_readsSlot_n29_b x1 (f_X7_readsSlot_n29 x1 kM) M (nI acc) (nI 3) = _
    unfold f_X7_readsSlot_n29_b
    rw [if_pos (by decide)]
  | succ d ih =>
    intro i acc kC kM M e ha hpK hM
    have h16 : 16 ^ i ≤ 256 := Nat.pow_le_pow_right (n := 16) (by omega) (show i ≤ 2 by omega)
    have e16 : 16 ^ (i + 1) = 16 ^ i * 16 := Nat.pow_succ ..
    have cs : ∀ w : Int32, f_X5_at C (nI (p0 + 1 + i)) = some w → f_X4_readCell_n44 x2 x3 (kC + (d + 1 + 1)) C (nI p0) y5 (nI acc) (nI (p0 + 1 + i)) = if 0 ≤ f_X4_hexOf C w then f_X4_readCell_n44 x2 x3 (kC + (d + 1)) C (nI p0) y5 (nI acc * 16 + f_X4_hexOf C w) (nI (p0 + 1 + (i + 1))) else some (-1 - nI (p0 + 1 + i), C) := by
      intro w hw
      show f_X4_readCell_n44_b x2 x3 (f_X4_readCell_n44 x2 x3 (kC + (d + 1))) C (nI p0) y5 (nI acc) (nI (p0 + 1 + i)) = _
      unfold f_X4_readCell_n44_b
      rw [show (4 : Int32) = nI 4 from rfl, nI_add, if_neg (NLe2 (p0 + 4) (p0 + 1 + i)), hw, bind_some, lt_q, lt_q, lt_q, nI_1]
      rfl
    have ms : ∀ (w : Int32) (M' : St), f_X7_takesOf M 7 = some (w, M') → f_X7_readsSlot_n29 x1 (kM + (d + 1 + 1)) M (nI acc) (nI i) = if 0 ≤ w then f_X7_readsSlot_n29 x1 (kM + (d + 1)) M' (16 * nI acc + w) (nI (i + 1)) else f_X7_readsSlot_n29 x1 (kM + (d + 1)) M' (-1) (nI (i + 1)) := by
      intro w M' hw
      show f_X7_readsSlot_n29_b x1 (f_X7_readsSlot_n29 x1 (kM + (d + 1))) M (nI acc) (nI i) = _
      unfold f_X7_readsSlot_n29_b
      rw [if_neg (NLeL 3 3 i), if_neg (Pos acc), hw, bind2_some, lt_q, lt_q, lt_q, nI_1]
    rcases hex2 hC hM (by omega) with ⟨h, h1, h2, ⟨w, w1, w2⟩, h3, -, -⟩ | ⟨⟨w, w1, w2⟩, h3, -⟩
    · have ec : nI acc * 16 + nI h = nI (acc * 16 + h) := by rw [show (16 : Int32) = nI 16 from rfl, nI_mul, nI_add]
      have em : 16 * nI acc + nI h = nI (acc * 16 + h) := by rw [show (16 : Int32) = nI 16 from rfl, nI_mul, nI_add, Nat.mul_comm]
      rw [cs w w1, w2, if_pos (NNeg h), ec, ms _ _ h3, if_pos (NNeg h), em]
      have g1 : Gr (fun k => k = 3) nA2 M (put_i M 3 (nI (p0 + 1 + (i + 1)))) := gr_i rfl
      rcases ih (i + 1) (acc * 16 + h) kC kM (put_i M 3 (nI (p0 + 1 + (i + 1)))) (by omega) (by omega) (by omega) (hM.go3 _) with ⟨acc', t, a1, a2, a3, a4, a5⟩ | ⟨e', t, a1, a2, a3, a4, a5⟩
      · exact Or.inl ⟨acc', t, a1, a2, a3, a4, g1.tr a5⟩
      · exact Or.inr ⟨e', t, a1, a2, a3, a4, g1.tr a5⟩
    · right
      refine ⟨p0 + 1 + i, M, by omega, ?_, ?_, hM.2.1, Gr.rf⟩
      · rw [cs w w1, w2, if_neg (by decide)]
      · rw [ms _ _ h3, if_neg (by decide)]
        exact neg_n29 x1 (kM + d) (i + 1) M (by omega)
abbrev yA : Nat → Nat → Prop := fun k _ => k = 9 ∨ k = 10
theorem n69_neg {M : St} {s R P Q : Nat} (h5 : st_i M 5 = nI P) (h8 : st_i M 8 = nI Q) (hQ : Q ≤ P) (hR : R = P - Q) (hP : P ≤ 14) (hs : s < 64) : ∃ t : St, f_X7_readsSlot_n69 (nI s) M (-1) = some (0, t) ∧ st_i t 3 = st_i M 3 ∧ Gr noI yA M t := by
  have hb : 2 ^ (P - Q) ≤ 16384 := Nat.le_trans (Nat.pow_le_pow_right (by omega) (Nat.sub_le _ _)) (p2P hP)
  unfold f_X7_readsSlot_n69
  rw [h5, h8, Sub2 P Q, sh_1 (P - Q) (by omega), if_pos (neg_lt _ (by omega)), if_pos (Inb s 64), lt_q, if_pos (by decide), Cl s]
  exact ⟨_, rfl, by rw [si_pa], gr_a (Or.inr rfl)⟩
theorem slot2 {C M : St} {K s P Q : Nat} {g : Nat → Nat} (hC : TC C K g) (hM : MT M K (1 + 4 * s) g) (hs : s < 16) (h5 : st_i M 5 = nI P) (h8 : st_i M 8 = nI Q) (hQ : Q ≤ P) (hP : P ≤ 14) : (∃ (m r : Nat) (t u : St), (m < 8 ∧ 1 + 4 * (s + 1) ≤ K) ∧ r < 2 ^ (P - Q) ∧ f_X4_readCell C (nI s) (nI (P - Q)) = some (0, t) ∧ f_X7_readsSlot M (nI s) = some (1, u) ∧ st_a t 9 s = nI (m + 8 * r) ∧ (∀ j, j ≠ s → st_a t 9 j = st_a C 9 j) ∧ st_a u 9 s = nI m ∧ st_a u 10 s = nI r ∧ (∀ j, j ≠ s → st_a u 9 j = st_a M 9 j ∧ st_a u 10 j = st_a M 10 j) ∧ MT u K (1 + 4 * (s + 1)) g ∧ Fr nA (fun k => k = 9) C t ∧ Gr (fun k => k = 3) yA M u) ∨ (∃ (e : Nat) (t u : St), e ≤ 80 ∧ f_X4_readCell C (nI s) (nI (P - Q)) = some (-1 - nI e, t) ∧ f_X7_readsSlot M (nI s) = some (0, u) ∧ st_i u 3 = nI e ∧ Fr nA (fun k => k = 9) C t ∧ Gr (fun k => k = 3) yA M u) := by
  have hb : 2 ^ (P - Q) ≤ 16384 := Nat.le_trans (Nat.pow_le_pow_right (by omega) (Nat.sub_le _ _)) (p2P hP)
  have ep : (1 : Int32) + 4 * nI s = nI (1 + 4 * s) := by rw [show (4 : Int32) = nI 4 from rfl, nI_mul, show (1 : Int32) = nI 1 from rfl, nI_add]
  unfold f_X4_readCell f_X7_readsSlot
  rw [ep, lt_q]
  have neg : ∀ M' : St, st_i M' 5 = nI P → st_i M' 8 = nI Q → st_i M' 3 = nI (1 + 4 * s) → Gr (fun k => k = 3) yA M M' → ∃ u : St, (if in_b (nI s) 64 = true then lt_ (put_a M' 9 (nI s).toNatClampNeg (-1)) fun s10 => if in_b (nI s) 64 = true then (if 0 ≤ st_a s10 9 (nI s).toNatClampNeg then f_X7_readsSlot_n29 (nI s) fuel s10 0 0 else f_X7_readsSlot_n29 (nI s) fuel s10 (-1) 0) else none else none) = some (0, u) ∧ st_i u 3 = nI (1 + 4 * s) ∧ Gr (fun k => k = 3) yA M u := by
    intro M' m5 m8 m3 gm
    obtain ⟨j, hj⟩ := fuel_ge (k := 1) (by omega)
    have g1 : Gr (fun k => k = 3) yA M' (put_a M' 9 s (-1)) := gr_a (Or.inl rfl)
    obtain ⟨u, u1, u2, u3⟩ := n69_neg (M := put_a M' 9 s (-1)) (s := s) (R := P - Q) (P := P) (Q := Q) (by rw [si_pa]; exact m5) (by rw [si_pa]; exact m8) hQ rfl hP (by omega)
    refine ⟨u, ?_, by rw [u2, si_pa]; exact m3, (gm.tr g1).tr (u3.mono (fun k z => z.elim) (fun k j z => z))⟩
    rw [if_pos (Inb s 64), Cl s, lt_q, if_pos (Inb s 64), sa_pa, if_pos rfl, upd_at, if_pos rfl, if_neg (by decide), hj, ← nI_0, neg_n29 _ _ _ _ (by omega)]
    exact u1
  rcases hex2 hC hM (by omega) with ⟨h, h1, h2, ⟨w, w1, w2⟩, -, h4, h6⟩ | ⟨⟨w, w1, w2⟩, -, h3⟩
  · rw [w1, bind_some, lt_q, w2, if_neg (Pos h)]
    by_cases c : h ≤ 7
    · rw [if_pos (LeR h 7 7), lt_q, nI_1, h4 c, bind2_some, if_pos (Inb s 64), Cl s, lt_q, if_pos (Inb s 64), sa_pa, if_pos rfl, upd_at, if_pos rfl, if_pos (NNeg h)]
      have hM2 : MT (put_a (put_i M 3 (nI (1 + 4 * s + 1))) 9 s (nI h)) K (1 + 4 * s + 1 + 0) g := by
        have := hM.go3 (1 + 4 * s + 1)
        exact ⟨by rw [si_pa]; exact this.1, by rw [si_pa]; exact this.2.1, fun i hi => by rw [sa_pa, if_neg (by omega)]; exact this.2.2 i hi⟩
      have g1 : Gr (fun k => k = 3) yA M (put_a (put_i M 3 (nI (1 + 4 * s + 1))) 9 s (nI h)) := (gr_i (by omega)).tr (gr_a (Or.inl rfl))
      have n9 : ∀ j, st_a (put_a (put_i M 3 (nI (1 + 4 * s + 1))) 9 s (nI h)) 9 j = if j = s then nI h else st_a M 9 j := fun j => by rw [sa_pa, if_pos rfl, upd_at, sa_pi]
      have n10 : ∀ j, st_a (put_a (put_i M 3 (nI (1 + 4 * s + 1))) 9 s (nI h)) 10 j = st_a M 10 j := fun j => by rw [sa_pa, if_neg (by omega), sa_pi]
      have m5 : st_i (put_a (put_i M 3 (nI (1 + 4 * s + 1))) 9 s (nI h)) 5 = nI P := by rw [si_pa, si_pi, if_neg (by omega)]; exact h5
      have m8 : st_i (put_a (put_i M 3 (nI (1 + 4 * s + 1))) 9 s (nI h)) 8 = nI Q := by rw [si_pa, si_pi, if_neg (by omega)]; exact h8
      generalize put_a (put_i M 3 (nI (1 + 4 * s + 1))) 9 s (nI h) = M2 at hM2 g1 n9 n10 m5 m8 ⊢
      obtain ⟨j, hj⟩ := fuel_ge (k := 4) (by omega)
      have dd := dig3 hC (p0 := 1 + 4 * s) (by omega) (nI s) (nI s) (nI (P - Q)) (nI h) 3 0 0 j j M2 (by omega) (by omega) (by omega) hM2
      rw [← hj, nI_0, show 1 + 4 * s + 1 + 0 = 1 + 4 * s + 1 from rfl] at dd
      rcases dd with ⟨acc, t, a1, a2, a3, a4, a5⟩ | ⟨e, t, a1, a2, a3, a4, a5⟩
      · have t5 : st_i t 5 = nI P := by rw [a5.1 5 (by omega)]; exact m5
        have t8 : st_i t 8 = nI Q := by rw [a5.1 8 (by omega)]; exact m8
        rw [a2, a3]
        have cE : f_X4_readCell_n44 (nI s) (nI (P - Q)) (j + 1) C (nI (1 + 4 * s)) (nI h) (nI acc) (nI (1 + 4 * s + 4)) = if acc < 2 ^ (P - Q) then some (0, put_a C 9 s (nI (h + 8 * acc))) else some (-1 - nI (1 + 4 * s + 3), C) := by
          show f_X4_readCell_n44_b (nI s) (nI (P - Q)) (f_X4_readCell_n44 (nI s) (nI (P - Q)) j) C (nI (1 + 4 * s)) (nI h) (nI acc) (nI (1 + 4 * s + 4)) = _
          unfold f_X4_readCell_n44_b f_X4_setCell
          have e3 := mkp (h := acc) (r := 3) (x := h) (by omega) (by omega) (by omega)
          rw [show nI 3 = (3 : Int32) from rfl] at e3
          rw [show (4 : Int32) = nI 4 from rfl, nI_add, if_pos (Le2 (1 + 4 * s + 4) (1 + 4 * s + 4)), sh_1 (P - Q) (by omega), e3, show acc * 2 ^ 3 + h = h + 8 * acc by omega]
          by_cases z : acc < 2 ^ (P - Q)
          · rw [if_pos z, if_pos (Lt2 acc (2 ^ (P - Q))), if_neg (Pos s), if_neg (NLeL 64 64 s), if_pos (Inb s 64), lt_q, bind_some, Cl s]
          · rw [if_neg z, if_neg (NLt2 acc (2 ^ (P - Q))), show (3 : Int32) = nI 3 from rfl, nI_add]
        rw [cE]
        unfold f_X7_readsSlot_n69
        rw [t5, t8, Sub2 P Q, sh_1 (P - Q) (by omega)]
        by_cases z : acc < 2 ^ (P - Q)
        · left
          rw [if_pos z, if_pos (Lt2 acc (2 ^ (P - Q))), if_pos (Inb s 64), Cl s, lt_q, if_neg (Pos acc)]
          refine ⟨h, acc, _, _, ⟨by omega, by omega⟩, z, rfl, rfl, by rw [sa_pa, if_pos rfl, upd_at, if_pos rfl], fun j hj => by rw [sa_pa, if_pos rfl, upd_at, if_neg hj], ?_, by rw [sa_pa, if_pos rfl, upd_at, if_pos rfl], fun j hj => ⟨?_, ?_⟩, ?_, fr_a rfl, (g1.tr (a5.mono (fun k z => z) (fun k j z => z.elim))).tr (gr_a (Or.inr rfl))⟩
          · rw [sa_pa, if_neg (by omega), a5.2.1 9 s (fun z => z), n9 s, if_pos rfl]
          · rw [sa_pa, if_neg (by omega), a5.2.1 9 j (fun z => z), n9 j, if_neg hj]
          · rw [sa_pa, if_pos rfl, upd_at, if_neg hj, a5.2.1 10 j (fun z => z), n10 j]
          · exact ⟨by rw [si_pa]; exact a4.1, by rw [si_pa, show 1 + 4 * (s + 1) = 1 + 4 * s + 4 by omega]; exact a4.2.1, fun i hi => by rw [sa_pa, if_neg (by omega)]; exact a4.2.2 i hi⟩
        · right
          rw [if_neg z, if_neg (NLt2 acc (2 ^ (P - Q))), lt_q, a4.2.1, Sub1 (1 + 4 * s + 4)]
          exact ⟨1 + 4 * s + 3, _, _, by omega, rfl, rfl, by rw [si_pi, if_pos rfl, show 1 + 4 * s + 4 - 1 = 1 + 4 * s + 3 by omega], Fr.rf, (g1.tr (a5.mono (fun k z => z) (fun k j z => z.elim))).tr (gr_i rfl)⟩
      · have t5 : st_i t 5 = nI P := by rw [a5.1 5 (by omega)]; exact m5
        have t8 : st_i t 8 = nI Q := by rw [a5.1 8 (by omega)]; exact m8
        obtain ⟨u, u1, u2, u3⟩ := n69_neg (s := s) t5 t8 hQ rfl hP (by omega)
        right
        rw [a2, a3, u1]
        exact ⟨e, _, _, a1, rfl, rfl, by rw [u2]; exact a4, Fr.rf, (g1.tr (a5.mono (fun k z => z) (fun k j z => z.elim))).tr (u3.mono (fun k z => z.elim) (fun k j z => z))⟩
    · right
      obtain ⟨u, u1, u2, u3⟩ := neg M h5 h8 hM.2.1 Gr.rf
      rw [if_neg (NLeR h 7 7), h6 (by omega), bind2_some, u1]
      exact ⟨1 + 4 * s, _, _, by omega, rfl, rfl, u2, Fr.rf, u3⟩
  · right
    obtain ⟨u, u1, u2, u3⟩ := neg M h5 h8 hM.2.1 Gr.rf
    rw [w1, bind_some, lt_q, w2, if_pos (by decide), h3, bind2_some, u1]
    exact ⟨1 + 4 * s, _, _, by omega, rfl, rfl, u2, Fr.rf, u3⟩
