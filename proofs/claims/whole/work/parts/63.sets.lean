/-! sets: bits -/
theorem lg_0 {x y : Int64} : lg_cmp x y = 0 ↔ x = y := by
  unfold lg_cmp
  by_cases c : y < x
  · rw [if_pos c]
    have : ¬ x = y := fun e => by
      rw [e] at c
      exact Int64.lt_irrefl c
    simp [this]
  · rw [if_neg c]
    by_cases d : x = y
    · rw [if_pos d]; simp [d]
    · rw [if_neg d]; simp [d]
def ib (x : Int32) (j : Nat) : Bool := x.toBitVec.getLsbD j
theorem ib_nI (c j : Nat) (hj : j < 32) : ib (nI c) j = c.testBit j := by
  unfold ib
  show (BitVec.ofNat 32 c).getLsbD j = _
  rw [BitVec.getLsbD_ofNat]
  simp [hj]
theorem ib_ext {x y : Int32} (h : ∀ j, j < 32 → ib x j = ib y j) : x = y := by
  apply Int32.toBitVec_inj.mp
  exact BitVec.eq_of_getLsbD_eq (fun j hj => h j hj)
theorem ib_or (x y : Int32) (j : Nat) : ib (x ||| y) j = (ib x j || ib y j) := by
  unfold ib
  rw [Int32.toBitVec_or, BitVec.getLsbD_or]
theorem ib_and (x y : Int32) (j : Nat) : ib (x &&& y) j = (ib x j && ib y j) := by
  unfold ib
  rw [Int32.toBitVec_and, BitVec.getLsbD_and]
theorem ib_xor (x y : Int32) (j : Nat) : ib (x ^^^ y) j = (ib x j ^^ ib y j) := by
  unfold ib
  rw [Int32.toBitVec_xor, BitVec.getLsbD_xor]
theorem ib_m1 : ∀ j, j < 32 → ib (-1) j = true := by decide +kernel
/-- the number of the first bits of β -/
def bs (β : Nat → Bool) : Nat → Nat
  | 0 => 0
  | i + 1 => bs β i + if β i = true then 2 ^ i else 0
theorem bs_lt (β : Nat → Bool) : ∀ i, bs β i < 2 ^ i := by
  intro i
  induction i with
  | zero => exact Nat.one_pos
  | succ i ih =>
    show bs β i + _ < _
    rw [Nat.pow_succ]
    split <;> omega
theorem bs_bit (β : Nat → Bool) : ∀ i k, (bs β i).testBit k = (decide (k < i) && β k) := by
  intro i
  induction i with
  | zero => intro k; show (0 : Nat).testBit k = _; simp
  | succ i ih =>
    intro k
    have hl := bs_lt β i
    cases hb : β i with
    | true =>
      have e : bs β (i + 1) = 2 ^ i * 1 + bs β i := by
        show bs β i + (if β i = true then 2 ^ i else 0) = _
        rw [hb, if_pos rfl]; omega
      rw [e, Nat.two_pow_add_eq_or_of_lt hl, Nat.testBit_or, ih k, Nat.mul_one, Nat.testBit_two_pow]
      rcases Nat.lt_trichotomy k i with c | c | c
      · have z1 : k < i + 1 := by omega
        have z2 : ¬ i = k := by omega
        simp [c, z1, z2]
      · subst c
        simp [hb]
      · have z1 : ¬ k < i := by omega
        have z2 : ¬ k < i + 1 := by omega
        have z3 : ¬ i = k := by omega
        simp [z1, z2, z3]
    | false =>
      have e : bs β (i + 1) = bs β i := by
        show bs β i + (if β i = true then 2 ^ i else 0) = _
        rw [hb, if_neg (by decide)]; omega
      rw [e, ih k]
      rcases Nat.lt_trichotomy k i with c | c | c
      · have z1 : k < i + 1 := by omega
        simp [c, z1]
      · subst c
        simp [hb]
      · have z1 : ¬ k < i := by omega
        have z2 : ¬ k < i + 1 := by omega
        simp [z1, z2]
theorem bs_split (β : Nat → Bool) : ∀ R, bs β (3 + R) = bs β 3 + 8 * bs (fun k => β (k + 3)) R := by
  intro R
  induction R with
  | zero => rfl
  | succ R ih =>
    show bs β (3 + R) + (if β (3 + R) = true then 2 ^ (3 + R) else 0) = bs β 3 + 8 * (bs (fun k => β (k + 3)) R + if β (R + 3) = true then 2 ^ R else 0)
    rw [ih, Nat.add_comm R 3, Nat.pow_add]
    split <;> omega
theorem bs_of {β : Nat → Bool} {x : Int32} {wd : Nat} (hw : wd ≤ 30) (h : ∀ k, k < 32 → ib x k = (decide (k < wd) && β k)) : x = nI (bs β wd) := by
  refine ib_ext (fun j hj => ?_)
  rw [h j hj, ib_nI _ _ hj, bs_bit]
/-- one bit of a long, as int -/
theorem lbit (x : Int64) : x.toInt32 &&& 1 = nI (if tb x 0 = true then 1 else 0) := by
  refine ib_ext (fun j hj => ?_)
  rw [ib_and, show (1 : Int32) = nI 1 from rfl, ib_nI _ _ hj, ib_nI _ _ hj]
  have e0 : ib x.toInt32 0 = tb x 0 := by
    unfold ib tb
    rw [Int64.toBitVec_toInt32, BitVec.getLsbD_signExtend]
    simp
  by_cases c : j = 0
  · subst c
    rw [e0]
    cases tb x 0 <;> simp
  · have z : (1 : Nat).testBit j = false := Nat.testBit_lt_two_pow (show 1 < 2 ^ j by
      have : 2 ^ 1 ≤ 2 ^ j := Nat.pow_le_pow_right (by omega) (by omega)
      omega)
    rw [z, Bool.and_false]
    cases tb x 0 with
    | true => simp [z]
    | false => simp
theorem lbit2 (x : Int64) : (x &&& 1).toInt32 = nI (if tb x 0 = true then 1 else 0) := by
  rw [← lbit]
  refine ib_ext (fun j hj => ?_)
  rw [ib_and]
  unfold ib
  rw [Int64.toBitVec_toInt32, Int64.toBitVec_toInt32, BitVec.getLsbD_signExtend, BitVec.getLsbD_signExtend, if_pos (show j < 64 by omega), if_pos (show j < 64 by omega), Int64.toBitVec_and, BitVec.getLsbD_and]
  have e1 : (1 : Int64).toBitVec.getLsbD j = (1 : Int32).toBitVec.getLsbD j := by
    show (BitVec.ofNat 64 1).getLsbD j = (BitVec.ofNat 32 1).getLsbD j
    rw [BitVec.getLsbD_ofNat, BitVec.getLsbD_ofNat]
    have : j < 64 := by omega
    simp [hj, this]
  rw [e1]
  simp [hj]
theorem tb_sshr (x : Int64) {k : Nat} (hk : k < 64) : tb (x >>> ((nI k).toInt64 &&& 63)) 0 = tb x k := by
  unfold tb
  rw [Int64.toBitVec_shiftRight, BitVec.sshiftRight_eq', s_64 k hk, BitVec.getLsbD_sshiftRight]
  simp [hk]
/-- one bit is laid over -/
theorem over1 {y : Int32} {β : Nat → Bool} {i b : Nat} (hi : i < 31) (hb : b = 0 ∨ b = 1) (h : ∀ k, k < 32 → ib y k = β k) : ∀ k, k < 32 → ib ((y &&& (((1 : Int32) <<< (nI i &&& 31)) ^^^ (-1))) ||| (nI b <<< (nI i &&& 31))) k = if k = i then decide (b = 1) else β k := by
  intro k hk
  have h2 : 2 ^ i ≤ 2 ^ 30 := Nat.pow_le_pow_right (by omega) (by omega)
  rw [sh_1 i hi, shl_r (by omega) (by rcases hb with rfl | rfl <;> omega), ib_or, ib_and, ib_xor, h k hk, ib_m1 k hk, ib_nI _ _ hk, ib_nI _ _ hk, Nat.testBit_two_pow]
  by_cases c : k = i
  · subst c
    rcases hb with rfl | rfl
    · simp
    · simp [Nat.testBit_two_pow]
  · have z : ¬ i = k := fun e => c e.symm
    rcases hb with rfl | rfl
    · simp [z, c]
    · simp [z, c, Nat.testBit_two_pow]
/-- the new bit g: of the word w it is that of v -/
def nb (old : Nat → Bool) (w : Nat) (v : Int64) (g : Nat) : Bool := if 64 * w ≤ g ∧ g < 64 * w + 64 then tb v (g - 64 * w) else old g
theorem over_C (σ : St) {x0 : Int32} {wd a w : Nat} (v : Int64) (hwd : wd ≤ 14) (ha : a ≤ 1000) (hw : w ≤ 16) {old : Nat → Bool} : ∀ (d i k : Nat) (y : Int32), i + d = wd → (∀ k, k < 32 → ib y k = (decide (k < wd) && if k < i then nb old w v (a + k) else old (a + k))) → f_X4_overlaid_n6 σ x0 (nI a - nI (64 * w)) (nI wd) v (k + (d + 1)) y (nI i) = some (nI (bs (fun k => nb old w v (a + k)) wd)) := by
  intro d
  induction d with
  | zero =>
    intro i k y e hy
    have : i = wd := by omega
    subst this
    show f_X4_overlaid_n6_b σ x0 (nI a - nI (64 * w)) (nI i) v (f_X4_overlaid_n6 σ x0 (nI a - nI (64 * w)) (nI i) v k) y (nI i) = _
    unfold f_X4_overlaid_n6_b
    rw [if_pos (Le2 i i)]
    congr 1
    refine bs_of (by omega) (fun k hk => ?_)
    rw [hy k hk]
    by_cases c : k < i
    · simp [c]
    · simp [c]
  | succ d ih =>
    intro i k y e hy
    show f_X4_overlaid_n6_b σ x0 (nI a - nI (64 * w)) (nI wd) v (f_X4_overlaid_n6 σ x0 (nI a - nI (64 * w)) (nI wd) v (k + (d + 1))) y (nI i) = _
    unfold f_X4_overlaid_n6_b
    have ev : nI a - nI (64 * w) + nI i = nI (a + i) - nI (64 * w) := by
      rw [Int32.sub_eq_add_neg, Int32.add_assoc, Int32.add_comm (-nI (64 * w)), ← Int32.add_assoc, nI_add, ← Int32.sub_eq_add_neg]
    have ei := sub_toInt (a := a + i) (b := 64 * w) (by omega) (by omega)
    rw [if_neg (NLe2 wd i), lt_q, ev]
    have e0 : (0 : Int32).toInt = 0 := rfl
    have e64 : (64 : Int32).toInt = 64 := rfl
    have l0 : nI (a + i) - nI (64 * w) < 0 ↔ a + i < 64 * w := by
      rw [Int32.lt_iff_toInt_lt, ei, e0]; omega
    have l64 : (64 : Int32) ≤ nI (a + i) - nI (64 * w) ↔ 64 * w + 64 ≤ a + i := by
      rw [Int32.le_iff_toInt_le, ei, e64]; omega
    have keep : ¬ (64 * w ≤ a + i ∧ a + i < 64 * w + 64) → ∀ k, k < 32 → ib y k = (decide (k < wd) && if k < i + 1 then nb old w v (a + k) else old (a + k)) := by
      intro c k hk
      rw [hy k hk]
      rcases Nat.lt_trichotomy k i with q | q | q
      · have : k < i + 1 := by omega
        simp [q, this]
      · subst q
        have : nb old w v (a + k) = old (a + k) := by unfold nb; rw [if_neg c]
        simp [this]
      · have z1 : ¬ k < i := by omega
        have z2 : ¬ k < i + 1 := by omega
        simp [z1, z2]
    by_cases c1 : a + i < 64 * w
    · rw [if_pos (l0.2 c1), lt_q, nI_1]
      exact ih (i + 1) k y (by omega) (keep (by omega))
    · rw [if_neg (fun z => c1 (l0.1 z))]
      by_cases c2 : 64 * w + 64 ≤ a + i
      · rw [if_pos (l64.2 c2), lt_q, nI_1]
        exact ih (i + 1) k y (by omega) (keep (by omega))
      · rw [if_neg (fun z => c2 (l64.1 z)), Sub2 (a + i) (64 * w), lt_q, lt_q, lt_q, nI_1, lbit]
        refine ih (i + 1) k _ (by omega) (fun j hj => ?_)
        have hb : (if tb (v.toUInt64 >>> ((nI (a + i - 64 * w)).toInt64.toUInt64 &&& Int64.toUInt64 63)).toInt64 0 = true then 1 else 0) = 0 ∨ (if tb (v.toUInt64 >>> ((nI (a + i - 64 * w)).toInt64.toUInt64 &&& Int64.toUInt64 63)).toInt64 0 = true then 1 else 0) = 1 := by
          split
          · exact Or.inr rfl
          · exact Or.inl rfl
        rw [over1 (by omega) hb hy j hj, tb_ushr v (by omega), Nat.add_zero]
        have en : nb old w v (a + i) = tb v (a + i - 64 * w) := by unfold nb; rw [if_pos (by omega)]
        rcases Nat.lt_trichotomy j i with q | q | q
        · have z1 : j < i + 1 := by omega
          have z2 : ¬ j = i := by omega
          simp [q, z1, z2]
        · subst q
          have z3 : j < wd := by omega
          simp [en, z3]
        · have z1 : ¬ j < i := by omega
          have z2 : ¬ j < i + 1 := by omega
          have z3 : ¬ j = i := by omega
          simp [z1, z2, z3]
