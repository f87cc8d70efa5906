/-! ===== calls: load, shape, doubles, halves, clears, print, takes, has, twin, both ===== -/
theorem Rel.step {C M C' M' : St} {P L : Nat} {n q : Nat → Nat} {f : Nat → Nat → Nat} {kr : Nat} {gr : Nat → Int64} {kt : Nat} {gt : Nat → Nat} {I A J : Nat → Prop} {B : Nat → Nat → Prop} (hH : Hd C M P L) (hT : TC C kt gt) (hU : TM M kt gt) (fc : Fs I A C C') (gm : Gs J B M M') (hI : ∀ k, I k → 3 ≤ k ∧ k ≠ 17) (hA : ∀ k, A k → k ≠ 12) (hJ : ∀ k, J k → k ≠ 2 ∧ k ≠ 5 ∧ k ≠ 6 ∧ k ≠ 7) (hB : ∀ k j, B k j → k ≠ 0) (hF : ∀ F, F < 2 → Fl C' M' P F (n F) (q F) (f F)) (h1 : RC C' kr gr) (h2 : RM M' kr gr) : Rel C' M' :=
  ⟨P, L, n, q, f, kr, gr, kt, gt, hH.kp fc gm (fun k z => (hI k z).1) (fun k z => (hJ k z).2), hF, ⟨h1, h2⟩, hT.kp fc (fun z => (hI _ z).2 rfl) (fun z => hA _ z rfl), hU.kp gm (fun z => (hJ _ z).1 rfl) (fun j z => hB _ j z rfl)⟩
theorem Fl.kp {C M C' M' : St} {P F n q : Nat} {f : Nat → Nat} {I A J : Nat → Prop} {B : Nat → Nat → Prop} (h : Fl C M P F n q f) (fc : Fs I A C C') (gm : Gs J B M M') (hI : ¬ I (3 + 2 * F) ∧ ¬ I (4 + 2 * F)) (hA : ¬ A F) (hB : ¬ B 1 F ∧ ¬ B 2 F ∧ ∀ i, i < 64 → ¬ B 3 (64 * F + i)) : Fl C' M' P F n q f :=
  ⟨h.1.kp fc hI.1 hI.2 hA, h.2.1.kp gm hB.1 hB.2.1 hB.2.2, h.2.2⟩
theorem files_upd {C M C' M' : St} {P F0 n' q' : Nat} {f' : Nat → Nat} {n q : Nat → Nat} {f : Nat → Nat → Nat} {I A J : Nat → Prop} {B : Nat → Nat → Prop} (h : ∀ F, F < 2 → Fl C M P F (n F) (q F) (f F)) (hn : Fl C' M' P F0 n' q' f') (fc : Fs I A C C') (gm : Gs J B M M') (hk : ∀ F, F < 2 → F ≠ F0 → (¬ I (3 + 2 * F) ∧ ¬ I (4 + 2 * F)) ∧ ¬ A F ∧ (¬ B 1 F ∧ ¬ B 2 F ∧ ∀ i, i < 64 → ¬ B 3 (64 * F + i))) :
    ∀ F, F < 2 → Fl C' M' P F (if F = F0 then n' else n F) (if F = F0 then q' else q F) (if F = F0 then f' else f F) := by
  intro F hF
  by_cases c : F = F0
  · rw [if_pos c, if_pos c, if_pos c, c]; exact hn
  · rw [if_neg c, if_neg c, if_neg c]
    obtain ⟨k1, k2, k3⟩ := hk F hF c
    exact (h F hF).kp fc gm k1 k2 k3
abbrev tI : Nat → Prop := fun k => k = 0
abbrev tnI : Nat → Prop := fun k => k = 0 ∨ k = 1
theorem thr_g (M : St) (v : Int32) : Gr tI nA2 M (put_i M 0 v) := gr_i rfl
theorem in_lit (σ : St) (x y z : Int32) (y' z' : Int64) (hy : y.toInt64 = y') (hz : z.toInt64 = z') : f_X7_in σ x.toInt64 y' z' = if y ≤ x ∧ x ≤ z then 1 else 0 := by
  rw [← hy, ← hz]
  exact in_eq σ x y z
theorem in_0 (σ : St) {x y z : Int32} {y' z' : Int64} (hy : y.toInt64 = y') (hz : z.toInt64 = z') : f_X7_in σ x.toInt64 y' z' = 0 ↔ ¬ (y ≤ x ∧ x ≤ z) := by
  rw [in_lit σ x y z y' z' hy hz]
  by_cases c : y ≤ x ∧ x ≤ z
  · rw [if_pos c]
    exact ⟨fun h => absurd h (by decide), fun h => absurd c h⟩
  · rw [if_neg c]
    exact ⟨fun _ => c, fun _ => rfl⟩
theorem i_nle {a b : Int32} : ¬ a ≤ b ↔ b < a := by
  rw [Int32.le_iff_toInt_le, Int32.lt_iff_toInt_lt]; omega
theorem i_nlt {a b : Int32} : ¬ a < b ↔ b ≤ a := by
  rw [Int32.le_iff_toInt_le, Int32.lt_iff_toInt_lt]; omega
theorem i_of_rng {x y z : Int32} {a b : Nat} (hy : y = nI a) (hz : z = nI b) (ha : a < 2 ^ 31) (hb : b < 2 ^ 31) (h1 : y ≤ x) (h2 : x ≤ z) : ∃ v, a ≤ v ∧ v ≤ b ∧ x = nI v := by
  subst hy hz
  have h0 : ¬ x < 0 := by
    intro c
    rw [Int32.lt_iff_toInt_lt] at c
    rw [Int32.le_iff_toInt_le, nI_toInt ha] at h1
    have : (0 : Int32).toInt = 0 := rfl
    omega
  obtain ⟨j, hj, rfl⟩ := nI_of h0
  exact ⟨j, (nI_leI ha hj).1 h1, (nI_leI hj hb).1 h2, rfl⟩
theorem m_load {C M : St} (h : Rel C M) (v : Int32) : Ok2 (f_X6_load C v) (f_X7_load M v) := by
  have h' := h.thr 0
  unfold f_X6_load f_X7_load
  simp only [lt_eq]
  have hin := in_0 (put_i M 0 0) (x := v) (y := 50) (z := 95) (y' := 50) (z' := 95) rfl rfl
  by_cases a : (50 : Int32) ≤ v
  · by_cases b : v ≤ 95
    · rw [if_neg (i_nlt.2 a), if_pos b, if_neg (fun z => hin.1 z ⟨a, b⟩)]
      obtain ⟨P, L, n, q, f, kr, gr, kt, gt, h1, h2, h3, h5, h6⟩ := h'
      obtain ⟨x, x1, x2, rfl⟩ := i_of_rng (a := 50) (b := 95) rfl rfl (by omega) (by omega) a b
      obtain ⟨l1, l2⟩ := h1.2.1
      rw [h1.2.2.2.2.2.1, h1.2.2.2.2.2.2]
      by_cases c : x = L
      · subst c
        rw [if_pos rfl, if_pos rfl]
        exact ⟨_, _, _, rfl, rfl, ⟨P, x, n, q, f, kr, gr, kt, gt, h1, h2, h3, h5, h6⟩⟩
      · rw [if_neg (fun z => c (nI_inj (by omega) (by omega) z)), if_neg (fun z => c (nI_inj (by omega) (by omega) z).symm)]
        refine ⟨_, _, _, rfl, rfl, ?_⟩
        have fc : Fr (fun k => k = 2) nA C (put_i C 2 (nI x)) := fr_i rfl
        have gm : Gr (fun k => k = 7) nA2 (put_i M 0 0) (put_i (put_i M 0 0) 7 (nI x)) := gr_i rfl
        refine ⟨P, x, n, q, f, kr, gr, kt, gt, ⟨h1.1, ⟨x1, x2⟩, ?_, ?_, ?_, ?_, ?_⟩, fun F hF => (h2 F hF).kp fc.s gm.s ⟨by omega, by omega⟩ (fun z => z) ⟨fun z => z, fun z => z, fun _ _ z => z⟩, ⟨h3.1.kp fc (by omega), h3.2.kp gm (by omega)⟩, h5.kp fc.s (by omega) (fun z => z), h6.kp gm.s (by omega) (fun _ z => z)⟩
        · rw [si_pi, if_neg (by omega)]; exact h1.2.2.1
        · rw [si_pi, if_neg (by omega)]; exact h1.2.2.2.1
        · rw [si_pi, if_neg (by omega), si_pi, if_neg (by omega)]; exact h1.2.2.2.2.1
        · rw [si_pi, if_pos rfl]
        · rw [si_pi, if_pos rfl]
    · rw [if_neg (i_nlt.2 a), if_neg b, if_pos (hin.2 (fun z => b z.2))]
      exact ⟨_, _, _, rfl, rfl, h'⟩
  · rw [if_pos (i_nle.1 a), if_pos (hin.2 (fun z => a z.1))]
    exact ⟨_, _, _, rfl, rfl, h'⟩
/-- how many slots are looked at for v, with r bits of remainder -/
def LK (f : Nat → Nat) (n r v : Nat) : Nat :=
  if lb f n ((v / 2 ^ r + 1) * 2 ^ r) ≤ lb f n (v + 1) then lb f n (v + 1) - lb f n (v / 2 ^ r * 2 ^ r) else lb f n (v + 1) - lb f n (v / 2 ^ r * 2 ^ r) + 1
theorem lk_facts {v r : Nat} : v / 2 ^ r * 2 ^ r ≤ v ∧ v + 1 ≤ (v / 2 ^ r + 1) * 2 ^ r := by
  have h0 : 0 < 2 ^ r := Nat.pow_pos (by omega)
  refine ⟨Nat.div_mul_le_self v _, ?_⟩
  have := Nat.lt_mul_div_succ v h0
  rw [Nat.mul_comm] at this
  exact this
theorem shl_r {v r : Nat} (hr : r < 32) (hv : v * 2 ^ r < 2 ^ 32) : nI v <<< (nI r &&& 31) = nI (v * 2 ^ r) := pk_shlN _ r (s_31 r hr) hv
theorem lk_le {f : Nat → Nat} {n r v : Nat} : LK f n r v ≤ n + 1 := by
  unfold LK
  have := lb_le f n (v + 1)
  split <;> omega
theorem bc_looked {C : St} {b n q P Q : Nat} {f : Nat → Nat} (h : BC C b n q f) (hP : st_i C 0 = nI P) (hQ : Q ≤ P) (hP2 : P ≤ 14) {v : Nat} (hv : v < 2 ^ P) : f_X6_lookedAt C b (nI Q) (nI v) = some (nI (LK f n (P - Q) v)) := by
  have hv2 := p2P hP2
  obtain ⟨k1, k2⟩ := lk_facts (v := v) (r := P - Q)
  have k3 : (v / 2 ^ (P - Q) + 1) * 2 ^ (P - Q) ≤ 2 * 16384 := by
    have e : (v / 2 ^ (P - Q) + 1) * 2 ^ (P - Q) = v / 2 ^ (P - Q) * 2 ^ (P - Q) + 2 ^ (P - Q) := by rw [Nat.add_mul, Nat.one_mul]
    have : 2 ^ (P - Q) ≤ 16384 := p2P (by omega)
    omega
  have m1 := lb_mono (f := f) (n := n) (show v / 2 ^ (P - Q) * 2 ^ (P - Q) ≤ v + 1 by omega)
  have l1 := lb_le f n (v + 1)
  have l2 := lb_le f n ((v / 2 ^ (P - Q) + 1) * 2 ^ (P - Q))
  have h3 := h.2.2.1
  unfold f_X6_lookedAt LK
  rw [hP, pk_sub hQ, lt_eq, lt_eq, shr_r (by omega) (by omega), shl_r (by omega) (by omega), bc_below h (by omega), bind_some, nI_1, shl_r (by omega) (by omega), bc_below h (by omega), bind_some, nI_1, bc_below h (by omega), bind_some]
  by_cases c : lb f n ((v / 2 ^ (P - Q) + 1) * 2 ^ (P - Q)) ≤ lb f n (v + 1)
  · rw [if_pos (nI_le c (by omega)), if_pos c, pk_sub m1]
  · rw [if_neg (nI_ge (by omega) (by omega)), if_neg c, pk_sub m1, nI_1]
theorem quot_iff {x v r : Nat} : x / 2 ^ r = v / 2 ^ r ↔ (v / 2 ^ r * 2 ^ r ≤ x ∧ x < (v / 2 ^ r + 1) * 2 ^ r) := by
  have h0 : 0 < 2 ^ r := Nat.pow_pos (by omega)
  constructor
  · intro e
    have a := Nat.div_mul_le_self x (2 ^ r)
    have b := (lk_facts (v := x) (r := r)).2
    rw [e] at a b
    omega
  · rintro ⟨a, b⟩
    have h1 : v / 2 ^ r ≤ x / 2 ^ r := (Nat.le_div_iff_mul_le h0).2 a
    have h2 : x / 2 ^ r < v / 2 ^ r + 1 := (Nat.div_lt_iff_lt_mul h0).2 b
    omega
theorem bm_looks_loop {M : St} {F n q P : Nat} {f : Nat → Nat} (h : BM M F n q f) (hF : F < 2) (hP : st_i M 5 = nI P) (hq : q ≤ P) (hP2 : P ≤ 14) {v : Nat} (hv : v < 2 ^ 30) : ∀ (d i y k : Nat), i + d = n → ((i ≤ lb f n (v + 1) ∧ y = i - lb f n (v / 2 ^ (P - q) * 2 ^ (P - q))) ∨ (lb f n (v + 1) < i ∧ lb f n ((v / 2 ^ (P - q) + 1) * 2 ^ (P - q)) ≤ lb f n (v + 1) ∧ y = LK f n (P - q) v)) → f_X7_looksFor_n5 M (nI F) (nI v) (k + (d + 1)) (nI y) (nI i) = some (nI (LK f n (P - q) v)) := by
  obtain ⟨h1, h2, h3, h4, h5, h6⟩ := id h
  obtain ⟨k1, k2⟩ := lk_facts (v := v) (r := P - q)
  have m1 := lb_mono (f := f) (n := n) (show v / 2 ^ (P - q) * 2 ^ (P - q) ≤ v + 1 by omega)
  have m2 := lb_mono (f := f) (n := n) k2
  have l1 := lb_le f n (v + 1)
  have l2 := lb_le f n ((v / 2 ^ (P - q) + 1) * 2 ^ (P - q))
  have iA := lb_iff h6 (v / 2 ^ (P - q) * 2 ^ (P - q))
  have iB := lb_iff h6 ((v / 2 ^ (P - q) + 1) * 2 ^ (P - q))
  have iC := lb_iff h6 (v + 1)
  intro d
  induction d with
  | zero =>
    intro i y k e hy
    have hi : i = n := by omega
    show f_X7_looksFor_n5_b M (nI F) (nI v) (f_X7_looksFor_n5 M (nI F) (nI v) k) (nI y) (nI i) = _
    unfold f_X7_looksFor_n5_b
    rw [if_pos (in_b_nI hF (by omega)), nI_clamp (by omega), h1, if_pos (nI_le (by omega) (by omega))]
    rcases hy with ⟨a, b⟩ | ⟨a, b, c⟩
    · have : LK f n (P - q) v = y := by
        unfold LK
        rw [if_pos (by omega)]
        omega
      rw [this]
    · rw [c]
  | succ d ih =>
    intro i y k e hy
    show f_X7_looksFor_n5_b M (nI F) (nI v) (f_X7_looksFor_n5 M (nI F) (nI v) (k + (d + 1))) (nI y) (nI i) = _
    unfold f_X7_looksFor_n5_b
    have hb := h5 i (by omega)
    rw [if_pos (in_b_nI hF (by omega)), nI_clamp (by omega), h1, if_neg (nI_ge (by omega) (by omega)), bm_at h hF (by omega), bind_some, bm_quot h hF hP hq (by omega) (by omega), bind_some, bm_quot h hF hP hq (by omega) (by omega), bind_some]
    have qi := quot_iff (x := f i) (v := v) (r := P - q)
    have jA := iA i (by omega)
    have jB := iB i (by omega)
    have jC := iC i (by omega)
    have hdv : f i / 2 ^ (P - q) ≤ f i := Nat.div_le_self _ _
    have hdv2 : v / 2 ^ (P - q) ≤ v := Nat.div_le_self _ _
    by_cases c : f i / 2 ^ (P - q) = v / 2 ^ (P - q)
    · have c' := qi.1 c
      rw [c, if_pos rfl, lt_eq, nI_1, bind_some]
      rcases hy with ⟨a, b⟩ | ⟨a, b, c2⟩
      · by_cases c3 : f i ≤ v
        · rw [if_pos (nI_le c3 (by omega)), lt_eq, nI_1]
          exact ih (i + 1) (y + 1) k (by omega) (Or.inl ⟨by omega, by omega⟩)
        · rw [if_neg (nI_ge (by omega) (by omega))]
          have : LK f n (P - q) v = y + 1 := by
            unfold LK
            rw [if_neg (by omega)]
            omega
          rw [this, nI_1]
      · omega
    · rw [if_neg (fun z => c (nI_inj (by omega) (by omega) z)), lt_eq, nI_1]
      have c' : ¬ (v / 2 ^ (P - q) * 2 ^ (P - q) ≤ f i ∧ f i < (v / 2 ^ (P - q) + 1) * 2 ^ (P - q)) := fun z => c (qi.2 z)
      rcases hy with ⟨a, b⟩ | ⟨a, b, c2⟩
      · by_cases c3 : i < lb f n (v / 2 ^ (P - q) * 2 ^ (P - q))
        · exact ih (i + 1) y k (by omega) (Or.inl ⟨by omega, by omega⟩)
        · have c4 : ¬ f i < (v / 2 ^ (P - q) + 1) * 2 ^ (P - q) := by omega
          refine ih (i + 1) y k (by omega) (Or.inr ⟨by omega, by omega, ?_⟩)
          unfold LK
          rw [if_pos (by omega)]
          omega
      · exact ih (i + 1) y k (by omega) (Or.inr ⟨by omega, b, c2⟩)
theorem bm_looks {M : St} {F n q P : Nat} {f : Nat → Nat} (h : BM M F n q f) (hF : F < 2) (hP : st_i M 5 = nI P) (hq : q ≤ P) (hP2 : P ≤ 14) {v : Nat} (hv : v < 2 ^ 30) : f_X7_looksFor M (nI F) (nI v) = some (nI (LK f n (P - q) v)) := by
  have h3 := h.2.2.1
  unfold f_X7_looksFor
  obtain ⟨j, hj⟩ := fuel_ge (k := n + 1) (by omega)
  rw [hj]
  exact bm_looks_loop h hF hP hq hP2 hv n 0 0 j (by omega) (Or.inl ⟨by omega, by omega⟩)
