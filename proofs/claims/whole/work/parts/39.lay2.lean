/-! both layouts; reading them -/
theorem LY.kp {σ t : St} {c n q r : Nat} {f : Nat → Nat} {I A : Nat → Prop} (h : LY σ c n q r f) (hf : Fs I A σ t) (h1 : ∀ k, 9 + 3 * c ≤ k → k ≤ 11 + 3 * c → ¬ I k) (h2 : ∀ k, 3 + 3 * c ≤ k → k ≤ 5 + 3 * c → ¬ A k) : LY t c n q r f := by
  obtain ⟨a1, a2, a3, a4, a5, a6⟩ := h
  exact ⟨by rw [hf.1 _ (h1 _ (by omega) (by omega))]; exact a1, by rw [hf.1 _ (h1 _ (by omega) (by omega))]; exact a2, by rw [hf.1 _ (h1 _ (by omega) (by omega))]; exact a3, fun i hi => by rw [hf.2 _ (h2 _ (by omega) (by omega))]; exact a4 i hi, fun s hs => by rw [hf.2 _ (h2 _ (by omega) (by omega))]; exact a5 s hs, fun s hs => by rw [hf.2 _ (h2 _ (by omega) (by omega))]; exact a6 s hs⟩
theorem LM.kp {σ t : St} {n q r : Nat} {f : Nat → Nat} {I : Nat → Prop} {A : Nat → Nat → Prop} (h : LM σ n q r f) (hf : Gs I A σ t) (h2 : ∀ k j, 4 ≤ k → k ≤ 6 → ¬ A k j) : LM t n q r f := by
  obtain ⟨a1, a2, a3⟩ := h
  exact ⟨fun i hi => by rw [hf.2 _ _ (h2 4 _ (by omega) (by omega))]; exact a1 i hi, fun s hs => by rw [hf.2 _ _ (h2 5 _ (by omega) (by omega))]; exact a2 s hs, fun s hs => by rw [hf.2 _ _ (h2 6 _ (by omega) (by omega))]; exact a3 s hs⟩
theorem LY.k16 {σ t : St} {c n q r : Nat} {f : Nat → Nat} (h : LY σ c n q r f) (hc : c < 2) (hf : Fs nI16 nA σ t) : LY t c n q r f := h.kp hf (fun k _ _ => by omega) (fun k _ _ z => z)
theorem LM.k1 {σ t : St} {n q r : Nat} {f : Nat → Nat} (h : LM σ n q r f) (hf : Gs nI1 nA2 σ t) : LM t n q r f := h.kp hf (fun k j _ _ z => z)
theorem slotOf_C {σ : St} {c n q r : Nat} {f : Nat → Nat} (h : LY σ c n q r f) (hn : n < 64) {i : Nat} (hi : i < n) : f_X2_slotOf σ c (nI i) = some (nI (sl (hh f r) (2 ^ q) n i)) := by
  unfold f_X2_slotOf
  rw [if_neg (Pos i), if_neg (NLeL 64 64 i), if_pos (Inb i 64), Cl i, h.2.2.2.1 i hi]
theorem indexAt_C {σ : St} {c n q r : Nat} {f : Nat → Nat} (h : LY σ c n q r f) (hq : q ≤ 6) {s : Nat} (hs : s < 2 ^ q) : f_X2_indexAt σ c (nI s) = some (nI (ix (sl (hh f r) (2 ^ q) n) n s) - 1) := by
  have hw := p2_bound hq
  unfold f_X2_indexAt
  rw [if_neg (Pos s), h.2.1, if_neg (NLe2 (2 ^ q) s), if_neg (NLeL 64 64 s), if_pos (Inb s 64), Cl s, h.2.2.2.2.1 s hs]
theorem cellAt_C {σ : St} {c n q r : Nat} {f : Nat → Nat} (h : LY σ c n q r f) (hq : q ≤ 6) {s : Nat} (hs : s < 2 ^ q) : f_X2_cellAt σ c (nI s) = some (nI (cl (hh f r) (2 ^ q) n (rr f r) n s)) := by
  have hw := p2_bound hq
  unfold f_X2_cellAt
  rw [if_neg (Pos s), h.2.1, if_neg (NLe2 (2 ^ q) s), if_neg (NLeL 64 64 s), if_pos (Inb s 64), Cl s, h.2.2.2.2.2 s hs]
theorem around_C {σ : St} {c n q r : Nat} {f : Nat → Nat} (h : LY σ c n q r f) (hq : q ≤ 6) {a : Nat} (ha : a < 2 ^ 31) : f_X2_around σ c (nI a) = nI (a % 2 ^ q) := by
  unfold f_X2_around
  rw [h.2.1, mask_N ha (by omega)]
/-- the bits of a place -/
def cB (f : Nat → Nat) (n q r s : Nat) : Nat := ow (ct (hh f r)) (ix (sl (hh f r) (2 ^ q) n) n s)
def sB (f : Nat → Nat) (n q r s : Nat) : Nat := ow (sf (hh f r) (2 ^ q) n) (ix (sl (hh f r) (2 ^ q) n) n s)
def rB (f : Nat → Nat) (n q r s : Nat) : Nat := ow (rr f r) (ix (sl (hh f r) (2 ^ q) n) n s)
def oB (f : Nat → Nat) (n r s : Nat) : Nat := oc (hh f r) n s
def iB (f : Nat → Nat) (n q r s : Nat) : Nat := ix (sl (hh f r) (2 ^ q) n) n s
theorem ow_01 {b : Nat → Nat} (h : ∀ i, b i = 0 ∨ b i = 1) (j : Nat) : ow b j = 0 ∨ ow b j = 1 := by
  unfold ow
  split
  · exact Or.inl rfl
  · exact h _
theorem cB_01 (f : Nat → Nat) (n q r s : Nat) : cB f n q r s = 0 ∨ cB f n q r s = 1 := ow_01 (ct_01 _) _
theorem sB_01 (f : Nat → Nat) (n q r s : Nat) : sB f n q r s = 0 ∨ sB f n q r s = 1 := ow_01 (sf_01 _ _ _) _
theorem oB_01 (f : Nat → Nat) (n r s : Nat) : oB f n r s = 0 ∨ oB f n r s = 1 := oc_01 _ _ _
theorem cl_bits (f : Nat → Nat) (n q r s : Nat) : cl (hh f r) (2 ^ q) n (rr f r) n s = oB f n r s + 2 * cB f n q r s + 4 * sB f n q r s + 8 * rB f n q r s := by
  unfold cl oB cB sB rB ow
  split
  · rfl
  · show oc _ _ _ + (2 * ct _ _ + 4 * sf _ _ _ _ + 8 * rr f r _) = _
    omega
theorem mk_bits (f : Nat → Nat) (n q r s : Nat) : mk (hh f r) (2 ^ q) n n s = oB f n r s + 2 * cB f n q r s + 4 * sB f n q r s := by
  unfold mk cl oB cB sB ow
  split
  · rfl
  · show oc _ _ _ + (2 * ct _ _ + 4 * sf _ _ _ _ + 8 * 0) = _
    omega
theorem and_1 (o c s r : Nat) (ho : o = 0 ∨ o = 1) : (o + 2 * c + 4 * s + 8 * r) &&& 1 = o := by
  rw [Nat.and_one_is_mod]; omega
theorem and_2x (x : Nat) : x &&& 2 = 2 * (x / 2 % 2) := by
  have h1 : (x &&& 2) / 2 = x / 2 &&& 1 := Nat.and_div_two
  have h2 := Nat.and_mod_two_pow (a := x) (b := 2) (n := 1)
  rw [Nat.and_one_is_mod] at h1
  rw [show 2 ^ 1 = 2 from rfl, show 2 % 2 = 0 from rfl, Nat.and_zero] at h2
  omega
theorem and_4x (x : Nat) : x &&& 4 = 4 * (x / 4 % 2) := by
  have h1 : (x &&& 4) / 2 = x / 2 &&& 2 := Nat.and_div_two
  have h2 := Nat.and_mod_two_pow (a := x) (b := 4) (n := 1)
  rw [and_2x] at h1
  rw [show 2 ^ 1 = 2 from rfl, show 4 % 2 = 0 from rfl, Nat.and_zero] at h2
  omega
theorem and_2 (o c s r : Nat) (ho : o = 0 ∨ o = 1) (hc : c = 0 ∨ c = 1) : (o + 2 * c + 4 * s + 8 * r) &&& 2 = 2 * c := by
  rw [and_2x]; omega
theorem and_4 (o c s r : Nat) (ho : o = 0 ∨ o = 1) (hc : c = 0 ∨ c = 1) (hs : s = 0 ∨ s = 1) : (o + 2 * c + 4 * s + 8 * r) &&& 4 = 4 * s := by
  rw [and_4x]; omega
theorem mark1_C {σ : St} {c n q r : Nat} {f : Nat → Nat} (h : LY σ c n q r f) (hq : q ≤ 6) {s : Nat} (hs : s < 2 ^ q) : f_X2_isMarked σ c (nI s) 1 = some (nI (oB f n r s)) := by
  unfold f_X2_isMarked
  rw [cellAt_C h hq hs, bind_some, show (1 : Int32) = nI 1 from rfl, nI_and, cl_bits, and_1 _ _ _ _ (oB_01 _ _ _ _)]
  rcases oB_01 f n r s with e | e <;> rw [e] <;> rfl
theorem mark2_C {σ : St} {c n q r : Nat} {f : Nat → Nat} (h : LY σ c n q r f) (hq : q ≤ 6) {s : Nat} (hs : s < 2 ^ q) : f_X2_isMarked σ c (nI s) 2 = some (nI (cB f n q r s)) := by
  unfold f_X2_isMarked
  rw [cellAt_C h hq hs, bind_some, show (2 : Int32) = nI 2 from rfl, nI_and, cl_bits, and_2 _ _ _ _ (oB_01 _ _ _ _) (cB_01 _ _ _ _ _)]
  rcases cB_01 f n q r s with e | e <;> rw [e] <;> rfl
theorem mark4_C {σ : St} {c n q r : Nat} {f : Nat → Nat} (h : LY σ c n q r f) (hq : q ≤ 6) {s : Nat} (hs : s < 2 ^ q) : f_X2_isMarked σ c (nI s) 4 = some (nI (sB f n q r s)) := by
  unfold f_X2_isMarked
  rw [cellAt_C h hq hs, bind_some, show (4 : Int32) = nI 4 from rfl, nI_and, cl_bits, and_4 _ _ _ _ (oB_01 _ _ _ _) (cB_01 _ _ _ _ _) (sB_01 _ _ _ _ _)]
  rcases sB_01 f n q r s with e | e <;> rw [e] <;> rfl
theorem mark1_M {σ : St} {n q r : Nat} {f : Nat → Nat} (h : LM σ n q r f) {s : Nat} (hs : s < 2 ^ q) : st_a σ 6 s &&& 1 = nI (oB f n r s) := by
  have := and_1 (oB f n r s) (cB f n q r s) (sB f n q r s) 0 (oB_01 _ _ _ _)
  rw [h.2.2 s hs, show (1 : Int32) = nI 1 from rfl, nI_and, mk_bits]
  rw [Nat.mul_zero, Nat.add_zero] at this
  rw [this]
theorem mark2_M {σ : St} {n q r : Nat} {f : Nat → Nat} (h : LM σ n q r f) {s : Nat} (hs : s < 2 ^ q) : st_a σ 6 s &&& 2 = nI (2 * cB f n q r s) := by
  have := and_2 (oB f n r s) (cB f n q r s) (sB f n q r s) 0 (oB_01 _ _ _ _) (cB_01 _ _ _ _ _)
  rw [h.2.2 s hs, show (2 : Int32) = nI 2 from rfl, nI_and, mk_bits]
  rw [Nat.mul_zero, Nat.add_zero] at this
  rw [this]
theorem mark4_M {σ : St} {n q r : Nat} {f : Nat → Nat} (h : LM σ n q r f) {s : Nat} (hs : s < 2 ^ q) : st_a σ 6 s &&& 4 = nI (4 * sB f n q r s) := by
  have := and_4 (oB f n r s) (cB f n q r s) (sB f n q r s) 0 (oB_01 _ _ _ _) (cB_01 _ _ _ _ _) (sB_01 _ _ _ _ _)
  rw [h.2.2 s hs, show (4 : Int32) = nI 4 from rfl, nI_and, mk_bits]
  rw [Nat.mul_zero, Nat.add_zero] at this
  rw [this]
theorem lay2 {C M : St} {P L : Nat} {n q : Nat → Nat} {f : Nat → Nat → Nat} {kt : Nat} {gt : Nat → Nat} (h : Rf C M P L n q f kt gt) {F : Nat} (hF : F < 2) : ∃ t u : St, f_X2_lay C 0 F (st_i C 0) = some t ∧ f_X7_lies M (nI F) = some u ∧ LY t 0 (n F) (q F) (P - q F) (f F) ∧ LM u (n F) (q F) (P - q F) (f F) ∧ Rf t u P L n q f kt gt ∧ HL (hh (f F) (P - q F)) (2 ^ q F) (n F) ∧ Fr (lI 0) (lA 0) C t ∧ Gr noI lM M u := by
  obtain ⟨a1, a2, ⟨q1, q2, q3⟩, a4, a5⟩ := h.2.1 F hF
  have hp := h.1.1
  obtain ⟨t, e1, l1, f1⟩ := lay_C (c := 0) a1 (by omega) (by omega) q2 (by omega) hp.2 a4 a5
  obtain ⟨u, e2, l2, f2⟩ := lay_M a2 hF h.1.2.2.2.1 q2 (by omega) hp.2 a4 a5
  rw [h.1.2.2.1]
  exact ⟨t, u, e1, e2, l1, l2, h.kp (f1.s.mono (fun k z => by omega) (fun k z => by omega)) (f2.s.mono (fun k z => z.elim) (fun k j z => by omega)), HL_of a1.2.2.2.2.2 (by omega) a4 a5, f1, f2⟩
theorem Rel.lay {C M t u : St} (h : Rel C M) {P L : Nat} {n q : Nat → Nat} {f : Nat → Nat → Nat} {kt : Nat} {gt : Nat → Nat} (hr : Rf t u P L n q f kt gt) (f1 : Fr (lI 0) (lA 0) C t) (f2 : Gr noI lM M u) : Rel t u := by
  obtain ⟨-, -, -, -, -, kr, gr, -, -, -, -, h3, -⟩ := h
  exact hr.rel (h3.1.kp f1 (by omega)) (h3.2.kp f2 (fun z => z))
theorem adds {C M : St} {k : Nat} {g : Nat → Int64} (h1 : RC C k g) (h2 : RM M k g) (hk : k < 64) (v : Int64) : ∃ (t u : St) (g' : Nat → Int64), f_X3_add C v = some t ∧ f_X7_enters M v = some u ∧ RC t (k + 1) g' ∧ RM u (k + 1) g' ∧ Fs nI16 nA C t ∧ Gs nI1 nA2 M u := by
  obtain ⟨t, e1, r1, s1⟩ := rc_add h1 hk v
  obtain ⟨u, e2, r2, s2⟩ := rm_add h2 hk v
  exact ⟨t, u, _, e1, e2, r1, r2, s1, s2⟩
theorem guardS {C M1 : St} {P L : Nat} {n q : Nat → Nat} {f : Nat → Nat → Nat} {kt : Nat} {gt : Nat → Nat} {x y : Int32} {B : Nat → Option (Int32 × St)} {Y : Option (Int32 × St)} (h : Rel C M1) (hr : Rf C M1 P L n q f kt gt) (hb : ∀ F, F < 2 → x = nI F → ∀ s, s < 2 ^ q F → y = nI s → Ok2 (B F) Y) : Ok2 (on_b (f_X6_bagOf x) (some (-1, C)) fun b => if y < 0 then some (-1, C) else if y < f_X0_slotCount C b then B b else some (-1, C)) ((f_X7_isSlot M1 x y).bind fun v => if v = 0 then some (-1, M1) else Y) := by
  have main : ∀ F, F < 2 → x = nI F → Ok2 (if y < 0 then some (-1, C) else if y < f_X0_slotCount C F then B F else some (-1, C)) ((if f_X7_in M1 y.toInt64 0 (nI (2 ^ q F - 1)).toInt64 = 0 then some (0 : Int32) else some 1).bind fun v => if v = 0 then some (-1, M1) else Y) := by
    intro F hF hx
    obtain ⟨a1, a2, ⟨q1, q2, q3⟩, a4, a5⟩ := hr.2.1 F hF
    have hw := p2_bound q2
    have hin := in_0 M1 (x := y) (y := 0) (z := nI (2 ^ q F - 1)) (y' := 0) (z' := (nI (2 ^ q F - 1)).toInt64) rfl rfl
    rw [bc_slots a1 (by omega)]
    by_cases a : y < 0
    · rw [if_pos a, if_pos (hin.2 (fun z => i_nlt.2 z.1 a)), bind_some, if_pos rfl]
      exact ⟨_, _, _, rfl, rfl, h⟩
    · obtain ⟨v, hv, rfl⟩ := nI_of a
      rw [if_neg a]
      by_cases b : v < 2 ^ q F
      · rw [if_pos (Lt2 v (2 ^ q F)), if_neg (fun z => hin.1 z ⟨NNeg v, Le2 v (2 ^ q F - 1)⟩), bind_some, if_neg (by decide)]
        exact hb F hF hx v b rfl
      · rw [if_neg (NLt2 v (2 ^ q F)), if_pos (hin.2 (fun z => NLe2 v (2 ^ q F - 1) (by omega) hv z.2)), bind_some, if_pos rfl]
        exact ⟨_, _, _, rfl, rfl, h⟩
  have mslot : ∀ F, F < 2 → x = nI F → f_X7_isSlot M1 x y = if f_X7_in M1 y.toInt64 0 (nI (2 ^ q F - 1)).toInt64 = 0 then some (0 : Int32) else some 1 := by
    intro F hF hx
    obtain ⟨a1, a2, ⟨q1, q2, q3⟩, a4, a5⟩ := hr.2.1 F hF
    have hw := p2_bound q2
    unfold f_X7_isSlot
    rw [isFile_eq, hx]
    have : ¬ (if nI F = 0 ∨ nI F = 1 then (1 : Int32) else 0) = 0 := by
      rcases (show F = 0 ∨ F = 1 by omega) with rfl | rfl <;> decide
    rw [if_neg this, bm_slots a2 hF (by omega), bind_some, Sub1 (2 ^ q F)]
  rcases file_cases x with ⟨e, e2⟩ | ⟨e, e2⟩ | ⟨e2, a, b⟩
  · rw [e2, mslot 0 (by omega) e]
    exact main 0 (by omega) e
  · rw [e2, mslot 1 (by omega) e]
    exact main 1 (by omega) e
  · rw [e2]
    unfold f_X7_isSlot
    have hz : (if x = 0 ∨ x = 1 then (1 : Int32) else 0) = 0 := by rw [if_neg (fun z => z.elim a b)]
    rw [isFile_eq, if_pos hz, bind_some, if_pos rfl]
    exact ⟨_, _, _, rfl, rfl, h⟩
theorem ix_cases {f : Nat → Nat} {n q r s : Nat} : (iB f n q r s = 0 ∧ nI (iB f n q r s) - 1 = -1) ∨ ∃ i, i < n ∧ iB f n q r s = i + 1 ∧ nI (iB f n q r s) - 1 = nI i ∧ sl (hh f r) (2 ^ q) n i = s := by
  have a := ix_le (sl (hh f r) (2 ^ q) n) s n
  have b := ix_own (sl (hh f r) (2 ^ q) n) s n
  unfold iB
  generalize ix (sl (hh f r) (2 ^ q) n) n s = j at *
  rcases Nat.eq_zero_or_pos j with z | z
  · exact Or.inl ⟨z, by rw [z]; rfl⟩
  · exact Or.inr ⟨j - 1, by omega, by omega, by rw [nI_sub1 z], b z⟩
