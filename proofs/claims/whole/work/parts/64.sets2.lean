/-! sets: the class -/
def oldb (f : Nat → Nat) (n q r : Nat) : Nat → Bool := bitf (cl (hh f r) (2 ^ q) n (rr f r) n) (2 ^ q) (r + 3)
theorem ob_cell (f : Nat → Nat) (n q r : Nat) {s k : Nat} (hs : s < 2 ^ q) (hk : k < r + 3) : oldb f n q r (s * (r + 3) + k) = (cl (hh f r) (2 ^ q) n (rr f r) n s).testBit k := by
  unfold oldb bitf
  have h1 : (s * (r + 3) + k) / (r + 3) = s := by
    rw [Nat.mul_comm, Nat.mul_add_div (by omega), Nat.div_eq_of_lt hk, Nat.add_zero]
  have h2 : (s * (r + 3) + k) % (r + 3) = k := by
    rw [Nat.mul_comm, Nat.mul_add_mod, Nat.mod_eq_of_lt hk]
  have h3 : s * (r + 3) + k < 2 ^ q * (r + 3) := by
    have : (s + 1) * (r + 3) ≤ 2 ^ q * (r + 3) := Nat.mul_le_mul_right _ hs
    rw [Nat.add_mul] at this
    omega
  rw [h1, h2]
  simp [h3]
def sz (q r : Nat) : Nat := 2 ^ q * (r + 3)
theorem sz_le {q r : Nat} (hq : q ≤ 6) (hr : r ≤ 11) : sz q r ≤ 896 ∧ 1 ≤ sz q r ∧ ∀ s, s < 2 ^ q → s * (r + 3) + (r + 3) ≤ sz q r := by
  have hw := p2_bound hq
  refine ⟨Nat.le_trans (Nat.mul_le_mul hw.2 (show r + 3 ≤ 14 by omega)) (by omega), Nat.mul_pos (by omega) (by omega), fun s hs => ?_⟩
  have : (s + 1) * (r + 3) ≤ 2 ^ q * (r + 3) := Nat.mul_le_mul_right _ hs
  rw [Nat.add_mul] at this
  have e : sz q r = 2 ^ q * (r + 3) := rfl
  omega
theorem word_loop_C {n q r w : Nat} {f : Nat → Nat} (v : Int64) (hq : q ≤ 6) (hr : r ≤ 11) (hw : w ≤ 16) : ∀ (d s k : Nat) (C : St), s + d = 2 ^ q → LY C 0 n q r f → (∀ j, j < s → st_a C 9 j = nI (bs (fun k => nb (oldb f n q r) w v (j * (r + 3) + k)) (r + 3))) → ∃ t : St, f_X4_readWord_n49 0 (nI w) v (k + (d + 1)) C (nI (r + 3)) (nI s) = some (1, t) ∧ (∀ j, j < 2 ^ q → st_a t 9 j = nI (bs (fun k => nb (oldb f n q r) w v (j * (r + 3) + k)) (r + 3))) ∧ Fr nA (fun k => k = 9) C t := by
  have hp := p2_bound hq
  obtain ⟨z1, z2, z3⟩ := sz_le hq hr
  intro d
  induction d with
  | zero =>
    intro s k C e l hj
    have : s = 2 ^ q := by omega
    subst this
    refine ⟨C, ?_, hj, Fr.rf⟩
    show f_X4_readWord_n49_b 0 (nI w) v (f_X4_readWord_n49 0 (nI w) v k) C (nI (r + 3)) (nI (2 ^ q)) = _
    unfold f_X4_readWord_n49_b
    rw [l.2.1, if_pos (Le2 (2 ^ q) (2 ^ q))]
  | succ d ih =>
    intro s k C e l hj
    have hs : s < 2 ^ q := by omega
    have hz := z3 s hs
    have hcl := cl_lt f n q r s
    obtain ⟨jj, hjj⟩ := fuel_ge (k := r + 3 + 1) (by omega)
    have eo := over_C C (x0 := nI (cl (hh f r) (2 ^ q) n (rr f r) n s)) (wd := r + 3) (a := s * (r + 3)) (w := w) v (by omega) (by omega) hw (old := oldb f n q r) (r + 3) 0 jj (nI (cl (hh f r) (2 ^ q) n (rr f r) n s)) (by omega) (fun k hk => by
      rw [ib_nI _ _ hk, if_neg (by omega)]
      by_cases c : k < r + 3
      · rw [ob_cell f n q r hs c]; simp [c]
      · rw [big_bit hcl (by omega)]; simp [c])
    rw [← hjj, nI_0] at eo
    have f1 : Fr nA (fun k => k = 9) C (put_a C 9 s (nI (bs (fun k => nb (oldb f n q r) w v (s * (r + 3) + k)) (r + 3)))) := fr_a rfl
    obtain ⟨t, a1, a2, a3⟩ := ih (s + 1) k _ (by omega) (l.kp f1.s (fun k _ _ z => z) (fun k _ _ z => by omega)) (fun j hj' => by
      rw [sa_pa, if_pos rfl, upd_at]
      by_cases c : j = s
      · rw [if_pos c, c]
      · rw [if_neg c]; exact hj j (by omega))
    refine ⟨t, ?_, a2, f1.tr a3⟩
    show f_X4_readWord_n49_b 0 (nI w) v (f_X4_readWord_n49 0 (nI w) v (k + (d + 1))) C (nI (r + 3)) (nI s) = _
    unfold f_X4_readWord_n49_b f_X4_overlaid f_X4_setCell
    rw [l.2.1, if_neg (NLe2 (2 ^ q) s), cellAt_C l hq hs, bind_some, nI_mul, show (64 : Int32) = nI 64 from rfl, nI_mul, Nat.mul_comm w 64, eo, bind_some, if_neg (Pos s), if_neg (NLeL (nI 64) 64 s), if_pos (Inb s 64), lt_q, bind_some, lt_q, Cl s, nI_1]
    exact a1
def BAD (q r w : Nat) (v : Int64) : Prop := ∃ g, sz q r ≤ g ∧ 64 * w ≤ g ∧ g < 64 * w + 64 ∧ tb v (g - 64 * w) = true
theorem word_C2 {C : St} {n q r w : Nat} {f : Nat → Nat} (v : Int64) (hq : q ≤ 6) (hr : r ≤ 11) (l : LY C 0 n q r f) (hw : 64 * w < sz q r) : (BAD q r w v → ∃ t : St, f_X4_readWord C 0 (nI w) v = some (0, t) ∧ Fr (fun k => k = 15) (fun k => k = 9) C t) ∧ (¬ BAD q r w v → ∃ t : St, f_X4_readWord C 0 (nI w) v = some (1, t) ∧ st_i t 15 = nI q ∧ (∀ j, j < 2 ^ q → st_a t 9 j = nI (bs (fun k => nb (oldb f n q r) w v (j * (r + 3) + k)) (r + 3))) ∧ Fr (fun k => k = 15) (fun k => k = 9) C t) := by
  have hp := p2_bound hq
  obtain ⟨z1, z2, z3⟩ := sz_le hq hr
  have f1 : Fr (fun k => k = 15) (fun k => k = 9) C (put_i C 15 (nI q)) := fr_i rfl
  have l1 : LY (put_i C 15 (nI q)) 0 n q r f := l.kp f1.s (fun k _ _ z => by omega) (fun k _ _ z => by omega)
  obtain ⟨jj, hjj⟩ := fuel_ge (k := 2 ^ q + 1) (by omega)
  obtain ⟨t, a1, a2, a3⟩ := word_loop_C v hq hr (w := w) (by omega) (2 ^ q) 0 jj (put_i C 15 (nI q)) (by omega) l1 (fun j hj => by omega)
  rw [← hjj, nI_0] at a1
  have t15 : st_i t 15 = nI q := by rw [a3.1 15 (fun z => z), si_pi, if_pos rfl]
  have ft : Fr (fun k => k = 15) (fun k => k = 9) C t := f1.tr (a3.mono (fun k z => z.elim) (fun k z => z))
  have e1 : f_X4_readWord C 0 (nI w) v = if (64 : Int32) ≤ nI (sz q r - 64 * w) then f_X4_readWord_n49 0 (nI w) v fuel (put_i C 15 (nI q)) (nI (r + 3)) 0 else if lg_cmp ((v.toUInt64 >>> ((nI (sz q r - 64 * w)).toInt64.toUInt64 &&& Int64.toUInt64 63)).toInt64) 0 = 0 then f_X4_readWord_n49 0 (nI w) v fuel (put_i C 15 (nI q)) (nI (r + 3)) 0 else some (0, put_i C 15 (nI q)) := by
    unfold f_X4_readWord f_X2_cellBits
    rw [l.1, lt_q, lt_q, lt_q, l1.2.1, l1.2.2.1, show (3 : Int32) = nI 3 from rfl, nI_add, nI_mul, show nI w * 64 = nI (64 * w) by rw [show (64 : Int32) = nI 64 from rfl, nI_mul, Nat.mul_comm], show 2 ^ q * (r + 3) = sz q r from rfl, Sub2 (sz q r) (64 * w)]
  by_cases c : 64 ≤ sz q r - 64 * w
  · have nbad : ¬ BAD q r w v := by
      rintro ⟨g, g1, g2, g3, -⟩
      omega
    refine ⟨fun z => absurd z nbad, fun _ => ⟨t, ?_, t15, a2, ft⟩⟩
    rw [e1, if_pos (LeL 64 64 (sz q r - 64 * w))]
    exact a1
  · have eq0 : (v.toUInt64 >>> ((nI (sz q r - 64 * w)).toInt64.toUInt64 &&& Int64.toUInt64 63)).toInt64 = 0 ↔ ¬ BAD q r w v := by
      constructor
      · rintro z ⟨g, g1, g2, g3, g4⟩
        have := tb_ushr v (k := sz q r - 64 * w) (j := g - sz q r) (by omega)
        rw [z, tb_0, show sz q r - 64 * w + (g - sz q r) = g - 64 * w by omega, g4] at this
        exact absurd this (by decide)
      · intro z
        refine tb_ext (fun j hj => ?_)
        rw [tb_ushr v (by omega), tb_0]
        cases hb : tb v (sz q r - 64 * w + j) with
        | false => rfl
        | true =>
          exfalso
          rcases Nat.lt_or_ge (sz q r - 64 * w + j) 64 with y | y
          · exact z ⟨sz q r + j, by omega, by omega, by omega, by rw [show sz q r + j - 64 * w = sz q r - 64 * w + j by omega]; exact hb⟩
          · have : tb v (sz q r - 64 * w + j) = false := BitVec.getLsbD_of_ge _ _ y
            rw [this] at hb
            exact absurd hb (by decide)
    rw [e1, if_neg (NLeL 64 64 (sz q r - 64 * w))]
    refine ⟨fun z => ?_, fun z => ?_⟩
    · rw [if_neg (fun y => (eq0.1 (lg_0.1 y)) z)]
      exact ⟨_, rfl, f1⟩
    · rw [if_pos (lg_0.2 (eq0.2 z)), a1]
      exact ⟨t, rfl, t15, a2, ft⟩
/-! sets: the reference -/
theorem isWord_M {M : St} {P F n q : Nat} {f : Nat → Nat} (hF : F < 2) (hb : BM M F n q f) (h5 : st_i M 5 = nI P) (hq : q ≤ 6) (hqP : q ≤ P) (hP : P ≤ 14) (hq3 : 3 ≤ q) (x : Int32) : f_X7_isWord M (nI F) x = if f_X7_in M x.toInt64 0 (nI ((sz q (P - q) - 1) / 64)).toInt64 = 0 then some 0 else some 1 := by
  obtain ⟨z1, z2, -⟩ := sz_le hq (show P - q ≤ 11 by omega)
  have hf1 : ¬ f_X7_isFile M (nI F) = 0 := by
    rw [isFile_eq]
    rcases (show F = 0 ∨ F = 1 by omega) with rfl | rfl <;> decide
  unfold f_X7_isWord f_X7_wide
  rw [if_neg hf1, bm_rest hb hF h5 hqP, bind_some, bind_some, bm_slots hb hF (by omega), bind_some, show (3 : Int32) = nI 3 from rfl, nI_add, nI_mul, Nat.mul_comm, show 2 ^ q * (P - q + 3) = sz q (P - q) from rfl, Sub1 (sz q (P - q)), show (64 : Int32) = nI 64 from rfl, pk_div (by omega) (by omega) (by omega)]
theorem isWord_C {C : St} {P F n q : Nat} {f : Nat → Nat} (hb : BC C F n q f) (h0 : st_i C 0 = nI P) (hq : q ≤ 6) (hqP : q ≤ P) (hP : P ≤ 14) (hq3 : 3 ≤ q) (x : Int32) : f_X6_isWord C F x = if x < 0 then 0 else if nI ((sz q (P - q) - 1) / 64) < x then 0 else 1 := by
  obtain ⟨z1, z2, -⟩ := sz_le hq (show P - q ≤ 11 by omega)
  unfold f_X6_isWord
  rw [bc_slots hb (by omega), h0, hb.2.1, Sub2 P q, show (3 : Int32) = nI 3 from rfl, nI_add, nI_mul, lt_q, show 2 ^ q * (P - q + 3) = sz q (P - q) from rfl, Sub1 (sz q (P - q)), show (64 : Int32) = nI 64 from rfl, pk_div (by omega) (by omega) (by omega)]
theorem guardW {C M1 : St} {P L : Nat} {n q : Nat → Nat} {f : Nat → Nat → Nat} {kt : Nat} {gt : Nat → Nat} {x y : Int32} {B : Nat → Option (Int32 × St)} {Y : Option (Int32 × St)} (h : Rel C M1) (hr : Rf C M1 P L n q f kt gt) (hb : ∀ F, F < 2 → x = nI F → ∀ w, 64 * w < sz (q F) (P - q F) → y = nI w → Ok2 (B F) Y) : Ok2 (on_b (f_X6_bagOf x) (some (-1, C)) fun b => if f_X6_isWord C b y = 0 then some (-1, C) else B b) ((f_X7_isWord M1 x y).bind fun v => if v = 0 then some (-1, M1) else Y) := by
  have hp := hr.1.1
  have main : ∀ F, F < 2 → x = nI F → Ok2 (if f_X6_isWord C F y = 0 then some (-1, C) else B F) ((f_X7_isWord M1 x y).bind fun v => if v = 0 then some (-1, M1) else Y) := by
    intro F hF hx
    obtain ⟨a1, a2, ⟨q1, q2, q3⟩, a4, a5⟩ := hr.2.1 F hF
    obtain ⟨z1, z2, -⟩ := sz_le q2 (show P - q F ≤ 11 by omega)
    have hin := in_0 M1 (x := y) (y := 0) (z := nI ((sz (q F) (P - q F) - 1) / 64)) (y' := 0) (z' := (nI ((sz (q F) (P - q F) - 1) / 64)).toInt64) rfl rfl
    rw [hx, isWord_M hF a2 hr.1.2.2.2.1 q2 (by omega) hp.2 q1, isWord_C a1 hr.1.2.2.1 q2 (by omega) hp.2 q1]
    by_cases a : y < 0
    · rw [if_pos a, if_pos rfl, if_pos (hin.2 (fun z => i_nlt.2 z.1 a)), bind_some, if_pos rfl]
      exact ⟨_, _, _, rfl, rfl, h⟩
    · obtain ⟨v, hv, rfl⟩ := nI_of a
      rw [if_neg a]
      by_cases b : (sz (q F) (P - q F) - 1) / 64 < v
      · rw [if_pos (Lt2 ((sz (q F) (P - q F) - 1) / 64) v), if_pos rfl, if_pos (hin.2 (fun z => NLe2 v ((sz (q F) (P - q F) - 1) / 64) b hv z.2)), bind_some, if_pos rfl]
        exact ⟨_, _, _, rfl, rfl, h⟩
      · rw [if_neg (NLt2 ((sz (q F) (P - q F) - 1) / 64) v), if_neg (by decide), if_neg (fun z => hin.1 z ⟨NNeg v, Le2 v ((sz (q F) (P - q F) - 1) / 64)⟩), bind_some, if_neg (by decide)]
        exact hb F hF hx v (by omega) rfl
  rcases file_cases x with ⟨e, e2⟩ | ⟨e, e2⟩ | ⟨e2, a, b⟩
  · rw [e2]
    exact main 0 (by omega) e
  · rw [e2]
    exact main 1 (by omega) e
  · rw [e2]
    unfold f_X7_isWord
    have hz : (if x = 0 ∨ x = 1 then (1 : Int32) else 0) = 0 := by rw [if_neg (fun z => z.elim a b)]
    rw [isFile_eq, if_pos hz, bind_some, if_pos rfl]
    exact ⟨_, _, _, rfl, rfl, h⟩
/-- only the words change -/
def Gw (σ t : St) : Prop := (∀ k, st_i t k = st_i σ k) ∧ (∀ k, st_a t k = st_a σ k) ∧ st_l t 0 = st_l σ 0
theorem Gw.gs {σ t : St} (h : Gw σ t) : Gs noI nA2 σ t := ⟨fun k _ => h.1 k, fun k j _ => by rw [h.2.1 k]⟩
theorem Gw.tr {σ t u : St} (h : Gw σ t) (g : Gw t u) : Gw σ u := ⟨fun k => (g.1 k).trans (h.1 k), fun k => (g.2.1 k).trans (h.2.1 k), g.2.2.trans h.2.2⟩
theorem gw_put (σ : St) (i : Nat) (v : Int64) : Gw σ (put_l σ 1 i v) := ⟨fun k => by rw [si_pl], fun k => by rw [sa_pl], by rw [sl_pl, if_neg (by omega)]⟩
theorem words_M {C : St} {P F n q w : Nat} {f : Nat → Nat} (x2 x3 x4 : Int32) (v : Int64) (hF : F < 2) (l1 : LY C 0 n q (P - q) f) (hq : q ≤ 6) (hqP : q ≤ P) (hP : P ≤ 14) (hq3 : 3 ≤ q) (hx : x2 = nI w) (hw : 64 * w < sz q (P - q)) : ∀ (d j k : Nat) (σ : St), j + d = (sz q (P - q) - 1) / 64 + 1 → BM σ F n q f → LM σ n q (P - q) f → st_i σ 5 = nI P → (∀ i, i < j → ∀ b, b < 64 → tb (st_l σ 1 i) b = nb (oldb f n q (P - q)) w v (64 * i + b)) → ∃ t : St, f_X7_sets_n54 (nI F) x2 x3 x4 (k + (d + 1)) σ v (nI j) = (bind2 (f_X7_readsWords t (nI F)) fun v5 s4 => if v5 = 0 then some (-300, s4) else bind2 (f_X7_takesTold s4 (nI F)) fun v7 s6 => some (v7, s6)) ∧ (∀ i, i < (sz q (P - q) - 1) / 64 + 1 → ∀ b, b < 64 → tb (st_l t 1 i) b = nb (oldb f n q (P - q)) w v (64 * i + b)) ∧ Gw σ t := by
  obtain ⟨z1, z2, -⟩ := sz_le hq (show P - q ≤ 11 by omega)
  intro d
  induction d with
  | zero =>
    intro j k σ e hb l2 h5 hj
    have hin := in_0 σ (x := nI j) (y := 0) (z := nI ((sz q (P - q) - 1) / 64)) (y' := 0) (z' := (nI ((sz q (P - q) - 1) / 64)).toInt64) rfl rfl
    refine ⟨σ, ?_, fun i hi => hj i (by omega), ⟨fun _ => rfl, fun _ => rfl, rfl⟩⟩
    show f_X7_sets_n54_b (nI F) x2 x3 x4 (f_X7_sets_n54 (nI F) x2 x3 x4 k) σ v (nI j) = _
    unfold f_X7_sets_n54_b
    rw [isWord_M hF hb h5 hq hqP hP hq3, if_pos (hin.2 (fun z => NLe2 j ((sz q (P - q) - 1) / 64) (by omega) (by omega) z.2)), bind_some, if_pos rfl]
  | succ d ih =>
    intro j k σ e hb l2 h5 hj
    have hin := in_0 σ (x := nI j) (y := 0) (z := nI ((sz q (P - q) - 1) / 64)) (y' := 0) (z' := (nI ((sz q (P - q) - 1) / 64)).toInt64) rfl rfl
    obtain ⟨v', -, w2, w3⟩ := word2 (w := j) l1 hb hF h5 l2 hq hqP hP hq3 (by omega)
    have st : ∀ u : Int64, (∀ b, b < 64 → tb u b = nb (oldb f n q (P - q)) w v (64 * j + b)) → ∃ t : St, f_X7_sets_n88 (nI F) x2 x3 x4 (f_X7_sets_n54 (nI F) x2 x3 x4 (k + (d + 1))) σ v (nI j) (nI j) u = (bind2 (f_X7_readsWords t (nI F)) fun v5 s4 => if v5 = 0 then some (-300, s4) else bind2 (f_X7_takesTold s4 (nI F)) fun v7 s6 => some (v7, s6)) ∧ (∀ i, i < (sz q (P - q) - 1) / 64 + 1 → ∀ b, b < 64 → tb (st_l t 1 i) b = nb (oldb f n q (P - q)) w v (64 * i + b)) ∧ Gw σ t := by
      intro u hu
      have g1 := gw_put σ j u
      obtain ⟨t, a1, a2, a3⟩ := ih (j + 1) k (put_l σ 1 j u) (by omega) (hb.kp g1.gs (fun z => z) (fun z => z) (fun _ _ z => z)) (l2.kp g1.gs (fun k j _ _ z => z)) (by rw [si_pl]; exact h5) (fun i hi b hb' => by
        rw [sl_pl, if_pos rfl, updL_at]
        by_cases c : i = j
        · rw [if_pos c, c]; exact hu b hb'
        · rw [if_neg c]; exact hj i (by omega) b hb')
      refine ⟨t, ?_, a2, g1.tr a3⟩
      unfold f_X7_sets_n88
      rw [if_pos (Inb j 16), lt_q, lt_q, Cl j, nI_1]
      exact a1
    show ∃ t : St, f_X7_sets_n54_b (nI F) x2 x3 x4 (f_X7_sets_n54 (nI F) x2 x3 x4 (k + (d + 1))) σ v (nI j) = _ ∧ _
    unfold f_X7_sets_n54_b
    rw [isWord_M hF hb h5 hq hqP hP hq3, if_neg (fun z => hin.1 z ⟨NNeg j, Le2 j ((sz q (P - q) - 1) / 64)⟩), bind_some, if_neg (by decide)]
    by_cases c : j = w
    · rw [if_pos (by rw [hx, c])]
      refine st v (fun b hb' => ?_)
      unfold nb
      rw [if_pos (by omega), show 64 * j + b - 64 * w = b by omega]
    · rw [if_neg (by rw [hx]; exact Ne2 j w), w2, bind_some]
      refine st v' (fun b hb' => ?_)
      rw [w3 b hb']
      unfold nb
      rw [if_neg (by omega)]
      rfl
theorem clear_M {F n q : Nat} {f : Nat → Nat} (y2 y3 : Int32) (hF : F < 2) (hq : q ≤ 6) : ∀ (d s k : Nat) (σ : St), s + d = 2 ^ q → BM σ F n q f → (∀ j, j < s → st_a σ 9 j = 0 ∧ st_a σ 10 j = 0) → ∃ t : St, f_X7_readsWords_n27 (nI F) (k + (d + 1)) σ y2 y3 (nI s) = f_X7_readsWords_n62 (nI F) fuel t y2 y3 0 ∧ (∀ j, j < 2 ^ q → st_a t 9 j = 0 ∧ st_a t 10 j = 0) ∧ Gr noI yA σ t := by
  have hp := p2_bound hq
  intro d
  induction d with
  | zero =>
    intro s k σ e hb hj
    have : s = 2 ^ q := by omega
    subst this
    refine ⟨σ, ?_, hj, Gr.rf⟩
    show f_X7_readsWords_n27_b (nI F) (f_X7_readsWords_n27 (nI F) k) σ y2 y3 (nI (2 ^ q)) = _
    unfold f_X7_readsWords_n27_b
    rw [bm_slots hb hF (by omega), bind_some, if_pos (Le2 (2 ^ q) (2 ^ q))]
  | succ d ih =>
    intro s k σ e hb hj
    have g1 : Gr noI yA σ (put_a (put_a σ 9 s 0) 10 s 0) := (gr_a (Or.inl rfl)).tr (gr_a (Or.inr rfl))
    obtain ⟨t, a1, a2, a3⟩ := ih (s + 1) k _ (by omega) (hb.kp g1.s (by omega) (by omega) (fun i hi z => by omega)) (fun j hj' => by
      rw [sa_pa, if_neg (by omega), sa_pa, if_pos rfl, upd_at, sa_pa, if_pos rfl, upd_at, sa_pa, if_neg (show ¬ (10 : Nat) = 9 by omega)]
      by_cases c : j = s
      · rw [if_pos c, if_pos c]; exact ⟨rfl, rfl⟩
      · rw [if_neg c, if_neg c]; exact hj j (by omega))
    refine ⟨t, ?_, a2, g1.tr a3⟩
    show f_X7_readsWords_n27_b (nI F) (f_X7_readsWords_n27 (nI F) (k + (d + 1))) σ y2 y3 (nI s) = _
    unfold f_X7_readsWords_n27_b
    rw [bm_slots hb hF (by omega), bind_some, if_neg (NLe2 (2 ^ q) s), if_pos (Inb s 64), lt_q, if_pos (Inb s 64), lt_q, lt_q, Cl s, nI_1]
    exact a1
