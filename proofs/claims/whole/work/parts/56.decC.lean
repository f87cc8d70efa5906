/-! the class reads told slots -/
def RWC (σ : St) (P Q : Nat) (mm rm : Nat → Nat) : Prop := st_i σ 15 = nI Q ∧ (3 ≤ Q ∧ Q ≤ 6 ∧ Q < P) ∧ ∀ s, s < 2 ^ Q → st_a σ 9 s = nI (mm s + 8 * rm s) ∧ mm s < 8 ∧ rm s < 2 ^ (P - Q)
theorem RWC.kp {σ t : St} {P Q : Nat} {mm rm : Nat → Nat} {I A : Nat → Prop} (h : RWC σ P Q mm rm) (hf : Fs I A σ t) (h1 : ¬ I 15) (h2 : ¬ A 9) : RWC t P Q mm rm := ⟨by rw [hf.1 _ h1]; exact h.1, h.2.1, fun s hs => by rw [hf.2 _ h2]; exact h.2.2 s hs⟩
theorem slots_R {σ : St} {P Q : Nat} {mm rm : Nat → Nat} (h : RWC σ P Q mm rm) : f_X4_slotCount σ = nI (2 ^ Q) := by
  have := h.2.1
  unfold f_X4_slotCount
  rw [h.1, sh_1 Q (by omega)]
theorem cell_R {σ : St} {P Q s : Nat} {mm rm : Nat → Nat} (h : RWC σ P Q mm rm) (hs : s < 2 ^ Q) : f_X4_cellAt σ (nI s) = some (nI (mm s + 8 * rm s)) := by
  have hw := p2_bound h.2.1.2.1
  unfold f_X4_cellAt
  rw [if_neg (Pos s), if_neg (NLeL 64 64 s), if_pos (Inb s 64), Cl s, (h.2.2 s hs).1]
theorem marks_R (σ : St) {m r : Nat} (hm : m < 8) : f_X4_marksOf σ (nI (m + 8 * r)) = nI m := by
  unfold f_X4_marksOf
  rw [show (7 : Int32) = nI 7 from rfl, nI_and, show (7 : Nat) = 2 ^ 3 - 1 from rfl, Nat.and_two_pow_sub_one_eq_mod]
  congr 1
  omega
theorem and1_R {m r : Nat} : nI (m + 8 * r) &&& 1 = nI (m % 2) := by
  rw [show (1 : Int32) = nI 1 from rfl, nI_and, Nat.and_one_is_mod]
  congr 1
  omega
theorem and2_R {m r : Nat} : nI (m + 8 * r) &&& 2 = nI (2 * (m / 2 % 2)) := by
  rw [show (2 : Int32) = nI 2 from rfl, nI_and, and_2x]
  congr 1
  omega
theorem sh3_R {m r : Nat} (hm : m < 8) (hr : r < 20000) : nI (m + 8 * r) >>> ((3 : Int32) &&& 31) = nI r := by
  have := shr_r (v := m + 8 * r) (r := 3) (by omega) (by omega)
  rw [show nI 3 = (3 : Int32) from rfl] at this
  rw [this, show 2 ^ 3 = 8 from rfl]
  congr 1
  omega
theorem mkp {h r x : Nat} (hr : r < 32) (hx : x < 2 ^ r) (hh1 : h * 2 ^ r < 2 ^ 32) : (nI h <<< (nI r &&& 31)) ||| nI x = nI (h * 2 ^ r + x) := by
  rw [shl_r hr hh1, nI_or]
  congr 1
  rw [Nat.mul_comm, ← Nat.two_pow_add_eq_or_of_lt hx]
theorem pr_lt {h x P Q : Nat} (hQ : Q < P) (hh1 : h < 2 ^ Q) (hx : x < 2 ^ (P - Q)) : h * 2 ^ (P - Q) + x < 2 ^ P := by
  have e : 2 ^ P = 2 ^ Q * 2 ^ (P - Q) := by rw [← Nat.pow_add, show Q + (P - Q) = P by omega]
  have : (h + 1) * 2 ^ (P - Q) ≤ 2 ^ Q * 2 ^ (P - Q) := Nat.mul_le_mul_right _ hh1
  rw [Nat.add_mul] at this
  omega
theorem empty_R {σ : St} {P Q : Nat} {mm rm : Nat → Nat} (h : RWC σ P Q mm rm) : ∀ (d i k : Nat), i + d = 2 ^ Q → (∀ j, j < i → mm j ≠ 0) → (∃ e, e < 2 ^ Q ∧ mm e = 0 ∧ f_X4_emptySlot_n2 σ (k + (d + 1)) (nI i) = some (nI e)) ∨ ((∀ j, j < 2 ^ Q → mm j ≠ 0) ∧ f_X4_emptySlot_n2 σ (k + (d + 1)) (nI i) = some (-1)) := by
  have hw := p2_bound h.2.1.2.1
  intro d
  induction d with
  | zero =>
    intro i k e hj
    right
    have : i = 2 ^ Q := by omega
    subst this
    refine ⟨hj, ?_⟩
    show f_X4_emptySlot_n2_b σ (f_X4_emptySlot_n2 σ k) (nI (2 ^ Q)) = _
    unfold f_X4_emptySlot_n2_b
    rw [slots_R h, if_pos (Le2 (2 ^ Q) (2 ^ Q))]
  | succ d ih =>
    intro i k e hj
    have hm := (h.2.2 i (by omega)).2.1
    have e1 : f_X4_emptySlot_n2 σ (k + (d + 1 + 1)) (nI i) = if nI (mm i) = 0 then some (nI i) else f_X4_emptySlot_n2 σ (k + (d + 1)) (nI (i + 1)) := by
      show f_X4_emptySlot_n2_b σ (f_X4_emptySlot_n2 σ (k + (d + 1))) (nI i) = _
      unfold f_X4_emptySlot_n2_b
      rw [slots_R h, if_neg (NLe2 (2 ^ Q) i), cell_R h (by omega), bind_some, marks_R σ hm, lt_q, nI_1]
    rw [e1]
    by_cases c : mm i = 0
    · left
      exact ⟨i, by omega, c, by rw [c, if_pos nI_0]⟩
    · rw [if_neg (NeR (mm i) 0 0)]
      refine ih (i + 1) k (by omega) (fun j hj' => ?_)
      by_cases e2 : j = i
      · rw [e2]; exact c
      · exact hj j (by omega)
theorem emptySlot_R {σ : St} {P Q : Nat} {mm rm : Nat → Nat} (h : RWC σ P Q mm rm) : (∃ e, e < 2 ^ Q ∧ mm e = 0 ∧ f_X4_emptySlot σ = some (nI e)) ∨ ((∀ j, j < 2 ^ Q → mm j ≠ 0) ∧ f_X4_emptySlot σ = some (-1)) := by
  have hw := p2_bound h.2.1.2.1
  unfold f_X4_emptySlot
  obtain ⟨j, hj⟩ := fuel_ge (k := 2 ^ Q + 1) (by omega)
  rw [hj]
  exact empty_R h (2 ^ Q) 0 j (by omega) (fun j hj => by omega)
abbrev dI : Nat → Prop := fun k => k = 7 ∨ k = 8
abbrev dA : Nat → Prop := fun k => k = 2 ∨ k = 10
/-- one slot: the home waits, if one lives there -/
theorem dec_head {σ : St} {P Q e i y5 : Nat} {mm rm : Nat → Nat} (h : RWC σ P Q mm rm) (he : e < 2 ^ Q) (hi : i + 1 < 2 ^ Q) (h5 : y5 < 64) (x2 y4 y6 : Int32) (k : Nat) : f_X4_decode_n36 2 x2 (k + 1) σ (nI e) y4 (nI y5) y6 (nI (i + 1)) = if mm ((e + 1 + i) % 2 ^ Q) % 2 = 0 then f_X4_decode_n95 2 x2 (f_X4_decode_n36 2 x2 k) σ (nI e) y4 (nI y5) y6 (nI (i + 1)) (nI (mm ((e + 1 + i) % 2 ^ Q) + 8 * rm ((e + 1 + i) % 2 ^ Q))) else f_X4_decode_n95 2 x2 (f_X4_decode_n36 2 x2 k) (put_a σ 10 y5 (nI ((e + 1 + i) % 2 ^ Q))) (nI e) y4 (nI (y5 + 1)) y6 (nI (i + 1)) (nI (mm ((e + 1 + i) % 2 ^ Q) + 8 * rm ((e + 1 + i) % 2 ^ Q))) := by
  have hw := p2_bound h.2.1.2.1
  have hq := h.2.1
  have hs : (e + 1 + i) % 2 ^ Q < 2 ^ Q := Nat.mod_lt _ (by omega)
  show f_X4_decode_n36_b 2 x2 (f_X4_decode_n36 2 x2 k) σ (nI e) y4 (nI y5) y6 (nI (i + 1)) = _
  unfold f_X4_decode_n36_b
  rw [slots_R h, if_neg (NLe2 (2 ^ Q) (i + 1)), lt_q, nI_add, mask_N (by omega) (by omega), show e + (i + 1) = e + 1 + i by omega, cell_R h hs, bind_some, and1_R, if_neg (NLeL 64 64 y5), if_pos (Inb y5 64), Cl y5, lt_q, lt_q, nI_1]
  by_cases c : mm ((e + 1 + i) % 2 ^ Q) % 2 = 0
  · rw [if_pos c, c, if_pos nI_0]
  · rw [if_neg c, if_neg (NeR (mm ((e + 1 + i) % 2 ^ Q) % 2) 0 0)]
theorem dec_weak {P Q e : Nat} {mm rm : Nat → Nat} (hP : P ≤ 14) (he : e < 2 ^ Q) (x2 : Int32) : ∀ (d i k y5 y6 m : Nat) (g : Nat → Nat) (σ : St), i + 1 + d = 2 ^ Q → RWC σ P Q mm rm → BC σ 2 m Q g → m ≤ i → y5 ≤ i → y6 ≤ i → (∀ j, j < m → g j < 2 ^ P) → (∀ j, j < y5 → ∃ x, x < 2 ^ Q ∧ st_a σ 10 j = nI x) → ∃ (r : Int32) (t : St) (m' : Nat) (g' : Nat → Nat), f_X4_decode_n36 2 x2 (k + (d + 1)) σ (nI e) (nI (P - Q)) (nI y5) (nI y6) (nI (i + 1)) = some (r, t) ∧ (r = 0 ∨ r = 1) ∧ BC t 2 m' Q g' ∧ m' < 2 ^ Q ∧ (∀ j, j < m' → g' j < 2 ^ P) ∧ Fr dI dA σ t := by
  have hP2 := p2P hP
  intro d
  induction d with
  | zero =>
    intro i k y5 y6 m g σ ei h hb hm h5 h6 hg ha
    have hw := p2_bound h.2.1.2.1
    refine ⟨1, σ, m, g, ?_, Or.inr rfl, hb, by omega, hg, Fr.rf⟩
    show f_X4_decode_n36_b 2 x2 (f_X4_decode_n36 2 x2 k) σ (nI e) (nI (P - Q)) (nI y5) (nI y6) (nI (i + 1)) = _
    unfold f_X4_decode_n36_b
    rw [slots_R h, if_pos (Le2 (2 ^ Q) (i + 1))]
  | succ d ih =>
    intro i k y5 y6 m g σ ei h hb hm h5 h6 hg ha
    have hw := p2_bound h.2.1.2.1
    have hq := h.2.1
    have hs : (e + 1 + i) % 2 ^ Q < 2 ^ Q := Nat.mod_lt _ (by omega)
    obtain ⟨-, hm8, hrm⟩ := h.2.2 _ hs
    have hr2 : 2 ^ (P - Q) ≤ 16384 := Nat.le_trans (Nat.pow_le_pow_right (by omega) (Nat.sub_le _ _)) hP2
    have tail : ∀ (y5' : Nat) (σ' : St), RWC σ' P Q mm rm → BC σ' 2 m Q g → y5' ≤ i + 1 → (∀ j, j < y5' → ∃ x, x < 2 ^ Q ∧ st_a σ' 10 j = nI x) → ∃ (r : Int32) (t : St) (m' : Nat) (g' : Nat → Nat), f_X4_decode_n95 2 x2 (f_X4_decode_n36 2 x2 (k + (d + 1))) σ' (nI e) (nI (P - Q)) (nI y5') (nI y6) (nI (i + 1)) (nI (mm ((e + 1 + i) % 2 ^ Q) + 8 * rm ((e + 1 + i) % 2 ^ Q))) = some (r, t) ∧ (r = 0 ∨ r = 1) ∧ BC t 2 m' Q g' ∧ m' < 2 ^ Q ∧ (∀ j, j < m' → g' j < 2 ^ P) ∧ Fr dI dA σ' t := by
      intro y5' σ' h' hb' h5' ha'
      unfold f_X4_decode_n95
      rw [marks_R _ hm8]
      by_cases c : mm ((e + 1 + i) % 2 ^ Q) = 0
      · rw [if_pos (by rw [c]; rfl), lt_q, nI_1]
        exact ih (i + 1) k y5' y6 m g σ' (by omega) h' hb' (by omega) h5' (by omega) hg ha'
      · rw [if_neg (NeR (mm ((e + 1 + i) % 2 ^ Q)) 0 0), and2_R]
        have go : ∀ y6' : Nat, y6' ≤ i + 1 → ∀ w1 : Int32, nI y6 + w1 = nI y6' → ∃ (r : Int32) (t : St) (m' : Nat) (g' : Nat → Nat), f_X4_decode_n117 2 x2 (f_X4_decode_n36 2 x2 (k + (d + 1))) σ' (nI e) (nI (P - Q)) (nI y5') (nI (i + 1)) (nI (mm ((e + 1 + i) % 2 ^ Q) + 8 * rm ((e + 1 + i) % 2 ^ Q))) (nI y6) w1 = some (r, t) ∧ (r = 0 ∨ r = 1) ∧ BC t 2 m' Q g' ∧ m' < 2 ^ Q ∧ (∀ j, j < m' → g' j < 2 ^ P) ∧ Fr dI dA σ' t := by
          intro y6' h6' w1 hw1
          unfold f_X4_decode_n117
          rw [hw1, lt_q]
          by_cases c1 : y6' < 1
          · rw [if_pos (LtR y6' 1 1)]
            exact ⟨0, σ', m, g, rfl, Or.inl rfl, hb', by omega, hg, Fr.rf⟩
          · rw [if_neg (NLtR y6' 1 1)]
            by_cases c2 : y6' ≤ y5'
            · obtain ⟨x, hx, ex⟩ := ha' (y6' - 1) (by omega)
              have hv := pr_lt hq.2.2 hx hrm
              rw [if_pos (Le2 y6' y5'), Sub1 y6', if_pos (Inb (y6' - 1) 64), Cl (y6' - 1), ex, sh3_R hm8 (by omega), mkp (by omega) hrm (by omega)]
              obtain ⟨t1, e1, b1, f1⟩ := bc_insert hb' (by omega) (v := x * 2 ^ (P - Q) + rm ((e + 1 + i) % 2 ^ Q)) (by omega)
              rw [e1, bind2_some, lt_q, nI_1]
              have f1' : Fr dI dA σ' t1 := f1.mono (fun k z => by omega) (fun k z => by omega)
              obtain ⟨r, t, m', g', a1, a2, a3, a4, a5, a6⟩ := ih (i + 1) k y5' y6' (m + 1) _ t1 (by omega) (h'.kp f1.s (by omega) (by omega)) b1 (by omega) h5' h6' (ins_bd hg hv (lb_le _ _ _)) (fun j hj => by rw [f1.2.1 10 (by omega)]; exact ha' j hj)
              exact ⟨r, t, m', g', a1, a2, a3, a4, a5, f1'.tr a6⟩
            · rw [if_neg (NLe2 y6' y5')]
              exact ⟨0, σ', m, g, rfl, Or.inl rfl, hb', by omega, hg, Fr.rf⟩
        by_cases c3 : mm ((e + 1 + i) % 2 ^ Q) / 2 % 2 = 0
        · rw [if_pos (by rw [c3]; rfl)]
          exact go (y6 + 1) (by omega) 1 (nI_1 _)
        · rw [if_neg (NeR (2 * (mm ((e + 1 + i) % 2 ^ Q) / 2 % 2)) 0 0)]
          exact go y6 (by omega) 0 (Int32.add_zero _)
    rw [show k + (d + 1 + 1) = k + (d + 1) + 1 from rfl, dec_head h he (by omega) (by omega)]
    by_cases c : mm ((e + 1 + i) % 2 ^ Q) % 2 = 0
    · rw [if_pos c]
      exact tail y5 σ h hb (by omega) ha
    · rw [if_neg c]
      have f1 : Fr dI dA σ (put_a σ 10 y5 (nI ((e + 1 + i) % 2 ^ Q))) := fr_a (Or.inr rfl)
      have f1n : Fr nA (fun k => k = 10) σ (put_a σ 10 y5 (nI ((e + 1 + i) % 2 ^ Q))) := fr_a rfl
      obtain ⟨r, t, m', g', a1, a2, a3, a4, a5, a6⟩ := tail (y5 + 1) _ (h.kp f1n.s (fun z => z) (by omega)) (hb.kp f1n.s (fun z => z) (fun z => z) (by omega)) (by omega) (fun j hj => by
        rw [sa_pa, if_pos rfl, upd_at]
        by_cases e2 : j = y5
        · exact ⟨_, hs, by rw [if_pos e2]⟩
        · rw [if_neg e2]; exact ha j (by omega))
      exact ⟨r, t, m', g', a1, a2, a3, a4, a5, f1.tr a6⟩
theorem decode_weak {σ : St} {P Q : Nat} {mm rm : Nat → Nat} (h : RWC σ P Q mm rm) (hP : P ≤ 14) : ∃ (r : Int32) (t : St) (m' : Nat) (g' : Nat → Nat), f_X4_decode σ 2 (nI P) = some (r, t) ∧ (r = 0 ∨ r = 1) ∧ BC t 2 m' Q g' ∧ m' < 2 ^ Q ∧ (∀ j, j < m' → g' j < 2 ^ P) ∧ Fr dI dA σ t := by
  have hw := p2_bound h.2.1.2.1
  have hq := h.2.1
  unfold f_X4_decode
  obtain ⟨t1, e1, b1, f1⟩ := bc_empty σ 2 (q := Q) (fun _ => 0)
  have h1 := h.kp f1.s (by omega) (by omega)
  have f1' : Fr dI dA σ t1 := f1.mono (fun k z => by omega) (fun k z => by omega)
  rw [h.1, e1, bind_some]
  rcases emptySlot_R h1 with ⟨e, he, -, ee⟩ | ⟨-, ee⟩
  · rw [ee, bind_some, if_pos (NNeg e), h1.1, Sub2 P Q, lt_q]
    obtain ⟨j, hj⟩ := fuel_ge (k := 2 ^ Q - 1 + 1) (by omega)
    rw [hj]
    obtain ⟨r, t, m', g', a1, a2, a3, a4, a5, a6⟩ := dec_weak (mm := mm) (rm := rm) hP he (nI P) (2 ^ Q - 1) 0 j 0 0 0 (fun _ => 0) t1 (by omega) h1 b1 (by omega) (by omega) (by omega) (fun j hj => by omega) (fun j hj => by omega)
    exact ⟨r, t, m', g', a1, a2, a3, a4, a5, f1'.tr a6⟩
  · rw [ee, bind_some, if_neg (by decide)]
    exact ⟨0, t1, 0, _, rfl, Or.inl rfl, b1, by omega, fun j hj => by omega, f1'⟩
theorem lb_next {A : Nat → Nat} {n t m : Nat} (hs : ∀ i j, i < j → j < n → A i < A j) (hm : m < n) (e : A m = t) : lb A n t = m ∧ lb A n (t + 1) = m + 1 := by
  have hS : Srt A n := fun i j h1 h2 => by
    rcases Nat.lt_or_ge i j with q | q
    · exact Nat.le_of_lt (hs i j q h2)
    · rw [show i = j by omega]; exact Nat.le_refl _
  constructor
  · refine lb_uniq hS (by omega) (fun i hi => ?_)
    rcases Nat.lt_trichotomy i m with q | q | q
    · have := hs i m q hm; omega
    · rw [q]; omega
    · have := hs m i q hi; omega
  · refine lb_uniq hS (by omega) (fun i hi => ?_)
    rcases Nat.lt_trichotomy i m with q | q | q
    · have := hs i m q hm; omega
    · rw [q]; omega
    · have := hs m i q hi; omega
theorem dec_strong {P Q e k0 n : Nat} {f B mm rm : Nat → Nat} (hP : P ≤ 14) (he : e < 2 ^ Q) (hl : HL (hh f (P - Q)) (2 ^ Q) n) (hq : RQ f n Q (P - Q) mm rm) (R : Rotd (hh f (P - Q)) (2 ^ Q) n (e + 1) k0 B) (hf : ∀ i, i < n → f i < 2 ^ P) (hlast : ∀ m, m < n → po B 0 m < 2 ^ Q - 1) (x2 : Int32) : ∀ (d i k : Nat) (g : Nat → Nat) (σ : St), i + 1 + d = 2 ^ Q → RWC σ P Q mm rm → BC σ 2 (lb (po B 0) n i) Q g → (∀ v, cnt g (lb (po B 0) n i) v = ci (fun m => f (rot k0 n m)) v (lb (po B 0) n i)) → QU B (fun t => (e + 1 + t) % 2 ^ Q) 0 (lb B n i) (st_a σ 10) → ∃ (t : St) (g' : Nat → Nat), f_X4_decode_n36 2 x2 (k + (d + 1)) σ (nI e) (nI (P - Q)) (nI (dn B (lb B n i))) (nI (dn B (lb (po B 0) n i))) (nI (i + 1)) = some (1, t) ∧ BC t 2 n Q g' ∧ (∀ v, cnt g' n v = ci (fun m => f (rot k0 n m)) v n) ∧ Fr dI dA σ t := by
  have hP2 := p2P hP
  have hst : ∀ i j, i < j → j < n → po B 0 i < po B 0 j := fun i j h1 _ => po_lt h1
  have hps := po_srt B 0 n
  intro d
  induction d with
  | zero =>
    intro i k g σ ei h hb hc hQ
    have hw := p2_bound h.2.1.2.1
    have en : lb (po B 0) n i = n := lb_uniq hps (Nat.le_refl _) (fun j hj => by have := hlast j hj; omega)
    rw [en] at hb hc ⊢
    refine ⟨σ, g, ?_, hb, hc, Fr.rf⟩
    show f_X4_decode_n36_b 2 x2 (f_X4_decode_n36 2 x2 k) σ (nI e) (nI (P - Q)) _ _ (nI (i + 1)) = _
    unfold f_X4_decode_n36_b
    rw [slots_R h, if_pos (Le2 (2 ^ Q) (i + 1))]
  | succ d ih =>
    intro i k g σ ei h hb hc hQ
    have hw := p2_bound h.2.1.2.1
    have hq3 := h.2.1
    have hn := hl.2.2
    have hs : (e + 1 + i) % 2 ^ Q < 2 ^ Q := Nat.mod_lt _ (by omega)
    obtain ⟨-, hm8, hrm⟩ := h.2.2 _ hs
    have hr2 : 2 ^ (P - Q) ≤ 16384 := Nat.le_trans (Nat.pow_le_pow_right (by omega) (Nat.sub_le _ _)) hP2
    have d5 := dn_le B (lb B n i)
    have l5 := lb_le B n i
    have tail : ∀ (σ' : St), RWC σ' P Q mm rm → BC σ' 2 (lb (po B 0) n i) Q g → QU B (fun t => (e + 1 + t) % 2 ^ Q) 0 (lb B n (i + 1)) (st_a σ' 10) → ∃ (t : St) (g' : Nat → Nat), f_X4_decode_n95 2 x2 (f_X4_decode_n36 2 x2 (k + (d + 1))) σ' (nI e) (nI (P - Q)) (nI (dn B (lb B n (i + 1)))) (nI (dn B (lb (po B 0) n i))) (nI (i + 1)) (nI (mm ((e + 1 + i) % 2 ^ Q) + 8 * rm ((e + 1 + i) % 2 ^ Q))) = some (1, t) ∧ BC t 2 n Q g' ∧ (∀ v, cnt g' n v = ci (fun m => f (rot k0 n m)) v n) ∧ Fr dI dA σ' t := by
      intro σ' h' hb' hQ'
      unfold f_X4_decode_n95
      rw [marks_R _ hm8]
      rcases Classical.em (∃ m, m < n ∧ po B 0 m = i) with ⟨m, hm, em⟩ | hno
      · obtain ⟨r1, r2, r3, r4⟩ := rs_elem hl hq R hm
        rw [em] at r1 r2 r3 r4
        obtain ⟨l1, l2⟩ := lb_next hst hm em
        rw [l1] at hb' hc ⊢
        have hBm := po_ge B 0 m
        have lB : m < lb B n (i + 1) := (lb_iff R.srt (i + 1) m hm).1 (by omega)
        have d1 := dn_le2 B (show m + 1 ≤ lb B n (i + 1) by omega)
        have d2 := dn_le2 B (show 0 + 1 ≤ m + 1 by omega)
        have d3 : dn B (0 + 1) = 1 := by show dn B 0 + (1 - ct B 0) = 1; rw [ct_0]; rfl
        have d4 := dn_le B (lb B n (i + 1))
        have l6 := lb_le B n (i + 1)
        have ex : st_a σ' 10 (dn B (m + 1) - 1) = nI ((e + 1 + B m) % 2 ^ Q) := by
          have z := hQ' m (by omega) lB
          rw [show dn B 0 = 0 from rfl, Nat.sub_zero] at z
          exact z
        obtain ⟨-, s2, s3⟩ := rs_home hq R hm
        have hv := hf _ (rot_lt R.hk hm)
        have ev : f (rot k0 n m) = (e + 1 + B m) % 2 ^ Q * 2 ^ (P - Q) + rm ((e + 1 + i) % 2 ^ Q) := by
          rw [s2, r3, Nat.mul_comm, Nat.div_add_mod]
        have ev2 : (e + 1 + B m) % 2 ^ Q * 2 ^ (P - Q) ≤ f (rot k0 n m) := by rw [ev]; exact Nat.le_add_right _ _
        rw [if_neg (NeR (mm ((e + 1 + i) % 2 ^ Q)) 0 0), and2_R, r1]
        have go : ∀ w1 : Int32, nI (dn B m) + w1 = nI (dn B (m + 1)) → ∃ (t : St) (g' : Nat → Nat), f_X4_decode_n117 2 x2 (f_X4_decode_n36 2 x2 (k + (d + 1))) σ' (nI e) (nI (P - Q)) (nI (dn B (lb B n (i + 1)))) (nI (i + 1)) (nI (mm ((e + 1 + i) % 2 ^ Q) + 8 * rm ((e + 1 + i) % 2 ^ Q))) (nI (dn B m)) w1 = some (1, t) ∧ BC t 2 n Q g' ∧ (∀ v, cnt g' n v = ci (fun m => f (rot k0 n m)) v n) ∧ Fr dI dA σ' t := by
          intro w1 hw1
          unfold f_X4_decode_n117
          rw [hw1, lt_q, if_neg (NLtR (dn B (m + 1)) 1 1), if_pos (Le2 (dn B (m + 1)) (dn B (lb B n (i + 1)))), Sub1 (dn B (m + 1)), if_pos (Inb (dn B (m + 1) - 1) 64), Cl (dn B (m + 1) - 1), ex, sh3_R hm8 (by omega), mkp (by omega) hrm (by omega), ← ev]
          obtain ⟨t1, e1, b1, f1⟩ := bc_insert hb' (by omega) (v := f (rot k0 n m)) (by omega)
          rw [e1, bind2_some, lt_q, nI_1]
          have f1' : Fr dI dA σ' t1 := f1.mono (fun k z => by omega) (fun k z => by omega)
          obtain ⟨t, g', a1, a2, a3, a4⟩ := ih (i + 1) k _ t1 (by omega) (h'.kp f1.s (by omega) (by omega)) (by rw [l2]; exact b1) (by
            intro v
            rw [l2, cnt_ins hb'.2.2.2.2.2, hc v]
            rfl) (by rw [f1.2.1 10 (by omega)]; exact hQ')
          rw [l2] at a1
          exact ⟨t, g', a1, a2, a3, f1'.tr a4⟩
        rcases ct_01 B m with c | c
        · rw [c, if_pos (show nI (2 * 0) = 0 from rfl)]
          refine go 1 ?_
          rw [nI_1]
          show nI (dn B m + 1) = nI (dn B m + (1 - ct B m))
          rw [c]
        · rw [c, if_neg (show ¬ nI (2 * 1) = 0 by decide)]
          refine go 0 ?_
          rw [Int32.add_zero]
          show nI (dn B m) = nI (dn B m + (1 - ct B m))
          rw [c]
          rfl
      · have hno' : ∀ m, m < n → po B 0 m ≠ i := fun m hm e => hno ⟨m, hm, e⟩
        have z := rs_empty hq R (show i < 2 ^ Q by omega) hno'
        have l2 := qu_stay hps hno'
        rw [if_pos (by rw [z]; rfl), lt_q, nI_1]
        obtain ⟨t, g', a1, a2, a3, a4⟩ := ih (i + 1) k g σ' (by omega) h' (by rw [l2]; exact hb') (by rw [l2]; exact hc) hQ'
        rw [l2] at a1
        exact ⟨t, g', a1, a2, a3, a4⟩
    rw [show k + (d + 1 + 1) = k + (d + 1) + 1 from rfl, dec_head h he (by omega) (by omega)]
    rcases Classical.em (∃ m, m < n ∧ B m = i) with ⟨m, hm, em⟩ | hno
    · obtain ⟨s1, -, -⟩ := rs_home hq R hm
      rw [em] at s1
      rw [if_neg (by omega)]
      obtain ⟨p1, p2⟩ := qu_push (S := fun t => (e + 1 + t) % 2 ^ Q) R.srt (Nat.zero_le _) (ct_0 B) hQ hm em
      rw [show dn B 0 = 0 from rfl, Nat.sub_zero] at p2
      have f1 : Fr dI dA σ (put_a σ 10 (dn B (lb B n i)) (nI ((e + 1 + i) % 2 ^ Q))) := fr_a (Or.inr rfl)
      have f1n : Fr nA (fun k => k = 10) σ (put_a σ 10 (dn B (lb B n i)) (nI ((e + 1 + i) % 2 ^ Q))) := fr_a rfl
      obtain ⟨t, g', a1, a2, a3, a4⟩ := tail _ (h.kp f1n.s (fun z => z) (by omega)) (hb.kp f1n.s (fun z => z) (fun z => z) (by omega)) (by rw [sa_pa, if_pos rfl]; exact p2)
      rw [p1] at a1
      exact ⟨t, g', a1, a2, a3, f1.tr a4⟩
    · have hno' : ∀ m, m < n → B m ≠ i := fun m hm e => hno ⟨m, hm, e⟩
      have z := rs_none hq R (show i < 2 ^ Q by omega) hno'
      have l2 := qu_stay R.srt hno'
      rw [if_pos z]
      rw [← l2] at hQ
      obtain ⟨t, g', a1, a2, a3, a4⟩ := tail σ h hb hQ
      rw [l2] at a1
      exact ⟨t, g', a1, a2, a3, a4⟩
theorem decode_strong {σ : St} {P Q n : Nat} {f mm rm : Nat → Nat} (h : RWC σ P Q mm rm) (hP : P ≤ 14) (hs : Srt f n) (hn : n < 2 ^ Q) (hf : ∀ i, i < n → f i < 2 ^ P) (hq : RQ f n Q (P - Q) mm rm) : ∃ (t : St), f_X4_decode σ 2 (nI P) = some (1, t) ∧ BC t 2 n Q f ∧ Fr dI dA σ t := by
  have hw := p2_bound h.2.1.2.1
  have hq3 := h.2.1
  have hl := HL_of hs (show Q ≤ P by omega) hn hf
  unfold f_X4_decode
  obtain ⟨t1, e1, b1, f1⟩ := bc_empty σ 2 (q := Q) (fun _ => 0)
  have h1 := h.kp f1.s (by omega) (by omega)
  have f1' : Fr dI dA σ t1 := f1.mono (fun k z => by omega) (fun k z => by omega)
  rw [h.1, e1, bind_some]
  obtain ⟨b0, k0', B0, R0, -⟩ := base_M hl
  have full : ∀ k, k < n → mm (sl (hh f (P - Q)) (2 ^ Q) n k) ≠ 0 := by
    intro k hk
    obtain ⟨m, hm, rfl⟩ := rot_sur R0.hk hk
    rw [← R0.slot m hm]
    exact (rs_elem hl hq R0 hm).2.2.2
  have emp : ∀ x, x < 2 ^ Q → (∀ k, k < n → sl (hh f (P - Q)) (2 ^ Q) n k ≠ x) → mm x = 0 := by
    intro x hx hn'
    have ex : (b0 + (x + (2 ^ Q - b0)) % 2 ^ Q) % 2 ^ Q = x := by
      have := R0.hb
      rw [Nat.add_mod, Nat.mod_mod, ← Nat.add_mod, show b0 + (x + (2 ^ Q - b0)) = x + 2 ^ Q by omega, Nat.add_mod_right, Nat.mod_eq_of_lt hx]
    rw [← ex]
    refine rs_empty hq R0 (Nat.mod_lt _ (by omega)) (fun m hm em => ?_)
    have := R0.slot m hm
    rw [em, ex] at this
    exact hn' _ (rot_lt R0.hk hm) this.symm
  rcases emptySlot_R h1 with ⟨e, he, hz, ee⟩ | ⟨ha, ee⟩
  · have hfree : ∀ k, k < n → sl (hh f (P - Q)) (2 ^ Q) n k ≠ e := fun k hk z => full k hk (by rw [z]; exact hz)
    obtain ⟨k0, B, R⟩ := base_C hl he hfree
    have hlast : ∀ m, m < n → po B 0 m < 2 ^ Q - 1 := by
      intro m hm
      have := R.lt m hm
      rcases Nat.lt_or_ge (po B 0 m) (2 ^ Q - 1) with q | q
      · exact q
      · exfalso
        have := R.slot m hm
        rw [show e + 1 + po B 0 m = e + 2 ^ Q by omega, Nat.add_mod_right, Nat.mod_eq_of_lt he] at this
        exact hfree _ (rot_lt R.hk hm) this.symm
    rw [ee, bind_some, if_pos (NNeg e), h1.1, Sub2 P Q, lt_q]
    obtain ⟨j, hj⟩ := fuel_ge (k := 2 ^ Q - 1 + 1) (by omega)
    rw [hj]
    have l0 : ∀ (A : Nat → Nat), lb A n 0 = 0 := by
      intro A
      have : ∀ m, lb A m 0 = 0 := by
        intro m
        induction m with
        | zero => rfl
        | succ m ih => simp only [lb]; rw [ih, if_neg (by omega)]
      exact this n
    obtain ⟨t, g', a1, a2, a3, a4⟩ := dec_strong (mm := mm) (rm := rm) hP he hl hq R hf hlast (nI P) (2 ^ Q - 1) 0 j (fun _ => 0) t1 (by omega) h1 (by rw [l0]; exact b1) (by intro v; rw [l0]; rfl) (by rw [l0]; intro m _ hm; omega)
    rw [l0, l0] at a1
    have hc2 : ∀ v, cnt g' n v = cnt f n v := fun v => by rw [a3 v, ci_rot f v R.hk, ← ci_lb]
    have hsame := same_of_cnt (B := 16384) a2.2.2.2.2.2 hs a2.2.2.2.2.1 (fun i hi => by have := hf i hi; have := p2P hP; omega) hc2
    refine ⟨t, a1, ⟨a2.1, a2.2.1, a2.2.2.1, fun i hi => by rw [← hsame.2 i hi]; exact a2.2.2.2.1 i hi, fun i hi => by rw [← hsame.2 i hi]; exact a2.2.2.2.2.1 i hi, hs⟩, f1'.tr a4⟩
  · exfalso
    obtain ⟨x, hx, hxf⟩ := free_ex (sl (hh f (P - Q)) (2 ^ Q) n) (2 ^ Q) n hn
    exact ha x hx (emp x hx hxf)
