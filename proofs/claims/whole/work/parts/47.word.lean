/-! words -/
def tb (x : Int64) (j : Nat) : Bool := x.toBitVec.getLsbD j
theorem tb_ext {x y : Int64} (h : ∀ j, j < 64 → tb x j = tb y j) : x = y := by
  apply Int64.toBitVec_inj.mp
  exact BitVec.eq_of_getLsbD_eq (fun j hj => h j hj)
theorem tb_or (x y : Int64) (j : Nat) : tb (x ||| y) j = (tb x j || tb y j) := by
  unfold tb
  rw [Int64.toBitVec_or, BitVec.getLsbD_or]
theorem s_64 : ∀ k, k < 64 → (((nI k).toInt64 &&& 63).toBitVec.smod 64).toNat = k := by decide +kernel
theorem s_64u : ∀ k, k < 64 → (((nI k).toInt64.toUInt64 &&& Int64.toUInt64 63).toBitVec % 64).toNat = k := by decide +kernel
theorem tb_shl (x : Int64) {k j : Nat} (hk : k < 64) (hj : j < 64) : tb (x <<< ((nI k).toInt64 &&& 63)) j = (decide (k ≤ j) && tb x (j - k)) := by
  unfold tb
  rw [Int64.toBitVec_shiftLeft, BitVec.shiftLeft_eq', s_64 k hk, BitVec.getLsbD_shiftLeft]
  by_cases c : k ≤ j
  · have c2 : ¬ j < k := by omega
    simp [c, c2, hj]
  · have c2 : j < k := by omega
    simp [c, c2]
theorem tb_ushr (x : Int64) {k j : Nat} (hk : k < 64) : tb ((x.toUInt64 >>> ((nI k).toInt64.toUInt64 &&& Int64.toUInt64 63)).toInt64) j = tb x (k + j) := by
  unfold tb
  show (x.toUInt64 >>> ((nI k).toInt64.toUInt64 &&& Int64.toUInt64 63)).toBitVec.getLsbD j = _
  rw [UInt64.toBitVec_shiftRight, BitVec.ushiftRight_eq', s_64u k hk, BitVec.getLsbD_ushiftRight]
  rfl
theorem tb_nI {c : Nat} (hc : c < 2 ^ 31) {j : Nat} (hj : j < 64) : tb (nI c).toInt64 j = c.testBit j := by
  rw [nI_l hc]
  unfold tb
  show (BitVec.ofNat 64 c).getLsbD j = _
  rw [BitVec.getLsbD_ofNat]
  simp [hj]
theorem tb_0 (j : Nat) : tb 0 j = false := by
  unfold tb
  show (BitVec.ofNat 64 0).getLsbD j = _
  rw [BitVec.getLsbD_ofNat]
  simp
theorem sub_toInt {a b : Nat} (ha : a < 2 ^ 30) (hb : b < 2 ^ 30) : (nI a - nI b).toInt = (a : Int) - b := by
  rw [Int32.toInt_sub, nI_toInt (by omega), nI_toInt (by omega), Int.bmod_def]
  have e32 : ((2 ^ 32 : Nat) : Int) = 4294967296 := rfl
  rw [e32]
  split <;> omega
theorem neg_toInt {a : Nat} (ha : a < 2 ^ 30) : (-nI a).toInt = -(a : Int) := by
  have : -nI a = nI 0 - nI a := by rw [nI_0, Int32.zero_sub]
  rw [this, sub_toInt (by omega) ha]
  omega
/-- bit g of the cells in a row, each wd wide -/
def bitf (c : Nat → Nat) (N wd g : Nat) : Bool := decide (g < N * wd) && (c (g / wd)).testBit (g % wd)
theorem big_bit {c wd k : Nat} (hc : c < 2 ^ wd) (hk : wd ≤ k) : c.testBit k = false := Nat.testBit_lt_two_pow (Nat.lt_of_lt_of_le hc (Nat.pow_le_pow_right (by omega) hk))
theorem cl_lt (f : Nat → Nat) (n q r s : Nat) : cl (hh f r) (2 ^ q) n (rr f r) n s < 2 ^ (r + 3) := by
  rw [cl_bits]
  have o1 := oB_01 f n r s
  have o2 := cB_01 f n q r s
  have o3 := sB_01 f n q r s
  have o4 : rB f n q r s < 2 ^ r := by
    unfold rB ow
    have hp : 0 < 2 ^ r := Nat.pow_pos (by omega)
    split
    · exact hp
    · exact Nat.mod_lt _ hp
  rw [Nat.pow_add, show 2 ^ 3 = 8 from rfl]
  omega
theorem cell_div {g wd i : Nat} (hwd : 0 < wd) : (g / wd < i + 1 ↔ g < (i + 1) * wd) ∧ (g / wd < i ↔ g < i * wd) := ⟨Nat.div_lt_iff_lt_mul hwd, Nat.div_lt_iff_lt_mul hwd⟩
theorem word_C {t : St} {n q r w : Nat} {f : Nat → Nat} (l1 : LY t 0 n q r f) (hq : q ≤ 6) (hr : r ≤ 11) (hw : w ≤ 16) : ∀ (d i k : Nat) (y : Int64), i + d = 2 ^ q → (∀ j, j < 64 → tb y j = (decide ((64 * w + j) / (r + 3) < i) && bitf (cl (hh f r) (2 ^ q) n (rr f r) n) (2 ^ q) (r + 3) (64 * w + j))) → ∃ v, f_X2_wordAt_n10 t 0 (nI w) (k + (d + 1)) (nI (r + 3)) y (nI i) = some v ∧ ∀ j, j < 64 → tb v j = bitf (cl (hh f r) (2 ^ q) n (rr f r) n) (2 ^ q) (r + 3) (64 * w + j) := by
  have hw2 := p2_bound hq
  have e10 : st_i t 10 = nI (2 ^ q) := l1.2.1
  intro d
  induction d with
  | zero =>
    intro i k y e hy
    have : i = 2 ^ q := by omega
    subst this
    refine ⟨y, ?_, fun j hj => ?_⟩
    · show f_X2_wordAt_n10_b t 0 (nI w) (f_X2_wordAt_n10 t 0 (nI w) k) _ y _ = _
      unfold f_X2_wordAt_n10_b
      rw [e10, if_pos (Le2 (2 ^ q) (2 ^ q))]
    · rw [hy j hj]
      by_cases c : (64 * w + j) / (r + 3) < 2 ^ q
      · simp [c]
      · have : ¬ 64 * w + j < 2 ^ q * (r + 3) := fun z => c ((Nat.div_lt_iff_lt_mul (by omega)).2 z)
        unfold bitf
        simp [c, this]
  | succ d ih =>
    intro i k y e hy
    have hi : i < 2 ^ q := by omega
    have hcl := cl_lt f n q r i
    have hcb : cl (hh f r) (2 ^ q) n (rr f r) n i < 16384 := Nat.lt_of_lt_of_le hcl (Nat.pow_le_pow_right (n := 2) (by omega) (show r + 3 ≤ 14 by omega))
    have him : i * (r + 3) ≤ 64 * 14 := Nat.mul_le_mul (by omega) (by omega)
    have hisucc : (i + 1) * (r + 3) = i * (r + 3) + (r + 3) := by rw [Nat.add_mul, Nat.one_mul]
    have hiN : (i + 1) * (r + 3) ≤ 2 ^ q * (r + 3) := Nat.mul_le_mul_right _ (by omega)
    have ev1 : nI i * nI (r + 3) - nI w * 64 = nI (i * (r + 3)) - nI (w * 64) := by
      rw [nI_mul, show (64 : Int32) = nI 64 from rfl, nI_mul]
    have hti : (nI (i * (r + 3)) - nI (w * 64)).toInt = (i * (r + 3) : Nat) - (w * 64 : Nat) := sub_toInt (by omega) (by omega)
    have e0 : (0 : Int32).toInt = 0 := rfl
    have e64 : (64 : Int32).toInt = 64 := rfl
    -- what a new word must be
    have cont : ∀ y' : Int64, (∀ j, j < 64 → tb y' j = (tb y j || (decide ((64 * w + j) / (r + 3) = i) && (cl (hh f r) (2 ^ q) n (rr f r) n i).testBit ((64 * w + j) % (r + 3))))) → ∃ v, f_X2_wordAt_n10 t 0 (nI w) (k + (d + 1)) (nI (r + 3)) y' (nI (i + 1)) = some v ∧ ∀ j, j < 64 → tb v j = bitf (cl (hh f r) (2 ^ q) n (rr f r) n) (2 ^ q) (r + 3) (64 * w + j) := by
      intro y' hy'
      refine ih (i + 1) k y' (by omega) (fun j hj => ?_)
      rw [hy' j hj, hy j hj]
      by_cases c : (64 * w + j) / (r + 3) = i
      · have hb : 64 * w + j < 2 ^ q * (r + 3) := (Nat.div_lt_iff_lt_mul (by omega)).1 (by omega)
        unfold bitf
        simp [c, hb]
      · by_cases c2 : (64 * w + j) / (r + 3) < i
        · have c3 : (64 * w + j) / (r + 3) < i + 1 := by omega
          simp [c, c2, c3]
        · have c3 : ¬ (64 * w + j) / (r + 3) < i + 1 := by omega
          simp [c, c2, c3]
    have same : (∀ j, j < 64 → (64 * w + j) / (r + 3) ≠ i) → ∃ v, f_X2_wordAt_n10 t 0 (nI w) (k + (d + 1)) (nI (r + 3)) y (nI (i + 1)) = some v ∧ ∀ j, j < 64 → tb v j = bitf (cl (hh f r) (2 ^ q) n (rr f r) n) (2 ^ q) (r + 3) (64 * w + j) := by
      intro hno
      refine cont y (fun j hj => ?_)
      simp [hno j hj]
    have dv : ∀ j, ((64 * w + j) / (r + 3) = i ↔ (i * (r + 3) ≤ 64 * w + j ∧ 64 * w + j < (i + 1) * (r + 3))) := by
      intro j
      have a := (cell_div (g := 64 * w + j) (wd := r + 3) (i := i) (by omega))
      omega
    have mdv : ∀ j, i * (r + 3) ≤ 64 * w + j → 64 * w + j < (i + 1) * (r + 3) → (64 * w + j) % (r + 3) = 64 * w + j - i * (r + 3) := by
      intro j h1 h2
      have e1 := Nat.div_add_mod (64 * w + j) (r + 3)
      rw [(dv j).2 ⟨h1, h2⟩, Nat.mul_comm] at e1
      omega
    show ∃ v, f_X2_wordAt_n10_b t 0 (nI w) (f_X2_wordAt_n10 t 0 (nI w) (k + (d + 1))) _ y _ = some v ∧ _
    unfold f_X2_wordAt_n10_b f_X2_wordAt_n62
    rw [e10, if_neg (NLe2 (2 ^ q) i), cellAt_C l1 hq hi, ev1]
    simp only [bind_q, lt_q, nI_1]
    by_cases c1 : i * (r + 3) < 64 * w
    · have neg : nI (i * (r + 3)) - nI (w * 64) < 0 := by rw [Int32.lt_iff_toInt_lt, hti, e0]; omega
      have nneg : ¬ 0 ≤ nI (i * (r + 3)) - nI (w * 64) := by rw [Int32.le_iff_toInt_le, hti, e0]; omega
      rw [if_pos neg, if_neg nneg]
      by_cases c2 : (i + 1) * (r + 3) ≤ 64 * w
      · have h2 : nI (i * (r + 3)) - nI (w * 64) ≤ -nI (r + 3) := by rw [Int32.le_iff_toInt_le, hti, neg_toInt (by omega)]; omega
        rw [if_pos h2]
        exact same (fun j hj z => by have := (dv j).1 z; omega)
      · have h2 : ¬ nI (i * (r + 3)) - nI (w * 64) ≤ -nI (r + 3) := by rw [Int32.le_iff_toInt_le, hti, neg_toInt (by omega)]; omega
        have en : -(nI (i * (r + 3)) - nI (w * 64)) = nI (w * 64 - i * (r + 3)) := by rw [Int32.neg_sub, pk_sub (by omega)]
        rw [if_neg h2, en]
        refine cont _ (fun j hj => ?_)
        rw [tb_or, tb_ushr _ (by omega)]
        congr 1
        by_cases c3 : (64 * w + j) / (r + 3) = i
        · obtain ⟨d1, d2⟩ := (dv j).1 c3
          rw [mdv j d1 d2, tb_nI (by omega) (by omega), show w * 64 - i * (r + 3) + j = 64 * w + j - i * (r + 3) by omega]
          simp [c3]
        · have d3 := mt (dv j).2 c3
          by_cases c4 : w * 64 - i * (r + 3) + j < 64
          · rw [tb_nI (by omega) c4, big_bit hcl (by omega)]
            simp [c3]
          · have : tb (nI (cl (hh f r) (2 ^ q) n (rr f r) n i)).toInt64 (w * 64 - i * (r + 3) + j) = false := by
              unfold tb
              exact BitVec.getLsbD_of_ge _ _ (by omega)
            rw [this]
            simp [c3]
    · have nneg : ¬ nI (i * (r + 3)) - nI (w * 64) < 0 := by rw [Int32.lt_iff_toInt_lt, hti, e0]; omega
      have pos : 0 ≤ nI (i * (r + 3)) - nI (w * 64) := by rw [Int32.le_iff_toInt_le, hti, e0]; omega
      rw [if_neg nneg]
      by_cases c2 : 64 * w + 64 ≤ i * (r + 3)
      · have h2 : (64 : Int32) ≤ nI (i * (r + 3)) - nI (w * 64) := by rw [Int32.le_iff_toInt_le, hti, e64]; omega
        rw [if_pos h2, if_pos pos]
        exact same (fun j hj z => by have := (dv j).1 z; omega)
      · have h2 : ¬ (64 : Int32) ≤ nI (i * (r + 3)) - nI (w * 64) := by rw [Int32.le_iff_toInt_le, hti, e64]; omega
        rw [if_neg h2, pk_sub (by omega)]
        refine cont _ (fun j hj => ?_)
        rw [tb_or, tb_shl _ (by omega) hj]
        congr 1
        by_cases c3 : (64 * w + j) / (r + 3) = i
        · obtain ⟨d1, d2⟩ := (dv j).1 c3
          have c4 : i * (r + 3) - w * 64 ≤ j := by omega
          rw [mdv j d1 d2, tb_nI (by omega) (by omega), show j - (i * (r + 3) - w * 64) = 64 * w + j - i * (r + 3) by omega]
          simp [c3, c4]
        · have d3 := mt (dv j).2 c3
          by_cases c4 : i * (r + 3) - w * 64 ≤ j
          · rw [tb_nI (by omega) (by omega), big_bit hcl (by omega)]
            simp [c3]
          · simp [c3, c4]
theorem cellv_M {u : St} {F n q P : Nat} {f : Nat → Nat} (h : BM u F n q f) (l2 : LM u n q (P - q) f) (s : Nat) : nI (mk (hh f (P - q)) (2 ^ q) n n s) ||| nI (8 * rB f n q (P - q) s) = nI (cl (hh f (P - q)) (2 ^ q) n (rr f (P - q)) n s) := by
  rw [nI_or, mk_bits, cl_bits]
  congr 1
  have := Nat.two_pow_add_eq_or_of_lt (i := 3) (b := oB f n (P - q) s + 2 * cB f n q (P - q) s + 4 * sB f n q (P - q) s) (by
    have o1 := oB_01 f n (P - q) s
    have o2 := cB_01 f n q (P - q) s
    have o3 := sB_01 f n q (P - q) s
    omega) (rB f n q (P - q) s)
  rw [show 2 ^ 3 = 8 from rfl] at this
  rw [Nat.or_comm, ← this]
  omega
theorem word_M {u : St} {F n q P w : Nat} {f : Nat → Nat} (h : BM u F n q f) (hF : F < 2) (h5 : st_i u 5 = nI P) (l2 : LM u n q (P - q) f) (hq : q ≤ 6) (hqP : q ≤ P) (hP : P ≤ 14) (hq3 : 3 ≤ q) (hw : w ≤ 16) : ∀ (d i k : Nat) (y : Int64), i + d = 64 → (∀ j, j < 64 → tb y j = (decide (j < i) && bitf (cl (hh f (P - q)) (2 ^ q) n (rr f (P - q)) n) (2 ^ q) (P - q + 3) (64 * w + j))) → ∃ v, f_X7_wordOf_n12 u (nI F) (nI w) (k + (d + 1)) (nI (P - q + 3)) y (nI i) = some v ∧ ∀ j, j < 64 → tb v j = bitf (cl (hh f (P - q)) (2 ^ q) n (rr f (P - q)) n) (2 ^ q) (P - q + 3) (64 * w + j) := by
  have hw2 := p2_bound hq
  intro d
  induction d with
  | zero =>
    intro i k y e hy
    have : i = 64 := by omega
    subst this
    refine ⟨y, ?_, fun j hj => by rw [hy j hj]; simp [hj]⟩
    show f_X7_wordOf_n12_b u (nI F) (nI w) (f_X7_wordOf_n12 u (nI F) (nI w) k) _ y _ = _
    unfold f_X7_wordOf_n12_b
    rw [if_pos (by decide)]
  | succ d ih =>
    intro i k y e hy
    have hT : (P - q + 3) * 2 ^ q ≤ 14 * 64 := Nat.mul_le_mul (by omega) hw2.2
    show ∃ v, f_X7_wordOf_n12_b u (nI F) (nI w) (f_X7_wordOf_n12 u (nI F) (nI w) (k + (d + 1))) _ y _ = some v ∧ _
    unfold f_X7_wordOf_n12_b f_X7_wordOf_n87
    rw [if_neg (NLeL 64 64 i), bm_slots h hF (by omega), bind_some, nI_mul, show (64 : Int32) = nI 64 from rfl, nI_mul, nI_add]
    by_cases c : (P - q + 3) * 2 ^ q ≤ 64 * w + i
    · rw [if_pos (Le2 ((P - q + 3) * 2 ^ q) (64 * w + i))]
      refine ⟨y, rfl, fun j hj => ?_⟩
      rw [hy j hj]
      by_cases c2 : j < i
      · simp [c2]
      · have : ¬ 64 * w + j < 2 ^ q * (P - q + 3) := by rw [Nat.mul_comm (2 ^ q)]; omega
        unfold bitf
        simp [c2, this]
    · have hs : (64 * w + i) / (P - q + 3) < 2 ^ q := (Nat.div_lt_iff_lt_mul (by omega)).2 (by rw [Nat.mul_comm (2 ^ q)]; omega)
      have hmd : (64 * w + i) % (P - q + 3) < P - q + 3 := Nat.mod_lt _ (by omega)
      have hcl := cl_lt f n q (P - q) ((64 * w + i) / (P - q + 3))
      have hcb : cl (hh f (P - q)) (2 ^ q) n (rr f (P - q)) n ((64 * w + i) / (P - q + 3)) < 16384 := Nat.lt_of_lt_of_le hcl (Nat.pow_le_pow_right (n := 2) (by omega) (show P - q + 3 ≤ 14 by omega))
      have nN : ¬ nI (P - q + 3) = 0 := nI_ne0 (by omega) (by omega)
      rw [if_neg (NLe2 ((P - q + 3) * 2 ^ q) (64 * w + i)), if_neg nN, pk_rem (by omega) (by omega) (by omega), pk_div (by omega) (by omega) (by omega), lt_q]
      have fin : ∀ w1 : Int32, w1 = nI (8 * rB f n q (P - q) ((64 * w + i) / (P - q + 3))) → ∃ v, (lt_ (st_a u 6 ((64 * w + i) / (P - q + 3)) ||| w1) fun v5 => if nI (P - q + 3) = 0 then none else lt_ (y ||| ((v5 >>> (nI ((64 * w + i) % (P - q + 3)) &&& 31)) &&& 1).toInt64 <<< ((nI i).toInt64 &&& 63)) fun v6 => lt_ (nI i + 1) fun v7 => f_X7_wordOf_n12 u (nI F) (nI w) (k + (d + 1)) (nI (P - q + 3)) v6 v7) = some v ∧ ∀ j, j < 64 → tb v j = bitf (cl (hh f (P - q)) (2 ^ q) n (rr f (P - q)) n) (2 ^ q) (P - q + 3) (64 * w + j) := by
        intro w1 hw1
        rw [lt_q, if_neg nN, lt_q, lt_q, hw1, l2.2.2 _ hs, cellv_M h l2, nI_1, shr_r (by omega) (by omega)]
        have hdv : cl (hh f (P - q)) (2 ^ q) n (rr f (P - q)) n ((64 * w + i) / (P - q + 3)) / 2 ^ ((64 * w + i) % (P - q + 3)) ≤ cl (hh f (P - q)) (2 ^ q) n (rr f (P - q)) n ((64 * w + i) / (P - q + 3)) := Nat.div_le_self _ _
        rw [show (1 : Int32) = nI 1 from rfl, nI_and, Nat.and_one_is_mod]
        refine ih (i + 1) k _ (by omega) (fun j hj => ?_)
        have hb1 : cl (hh f (P - q)) (2 ^ q) n (rr f (P - q)) n ((64 * w + i) / (P - q + 3)) / 2 ^ ((64 * w + i) % (P - q + 3)) % 2 < 2 := Nat.mod_lt _ (by omega)
        have hbit : bitf (cl (hh f (P - q)) (2 ^ q) n (rr f (P - q)) n) (2 ^ q) (P - q + 3) (64 * w + i) = decide (cl (hh f (P - q)) (2 ^ q) n (rr f (P - q)) n ((64 * w + i) / (P - q + 3)) / 2 ^ ((64 * w + i) % (P - q + 3)) % 2 = 1) := by
          unfold bitf
          have : 64 * w + i < 2 ^ q * (P - q + 3) := by rw [Nat.mul_comm (2 ^ q)]; omega
          rw [Nat.testBit_eq_decide_div_mod_eq]
          simp [this]
        rw [tb_or, hy j hj, tb_shl _ (by omega) hj]
        generalize cl (hh f (P - q)) (2 ^ q) n (rr f (P - q)) n ((64 * w + i) / (P - q + 3)) / 2 ^ ((64 * w + i) % (P - q + 3)) % 2 = bt at hb1 hbit ⊢
        rcases Nat.lt_trichotomy j i with c3 | c3 | c3
        · have z1 : j < i + 1 := by omega
          have z2 : ¬ i ≤ j := by omega
          simp [c3, z1, z2]
        · subst c3
          rw [tb_nI (by omega) (by omega), hbit, Nat.sub_self]
          rcases (show bt = 0 ∨ bt = 1 by omega) with rfl | rfl <;> simp
        · have z1 : ¬ j < i := by omega
          have z2 : ¬ j < i + 1 := by omega
          rw [tb_nI (by omega) (by omega), big_bit (wd := 1) (by omega) (by omega)]
          simp [z1, z2]
      have hle : iB f n q (P - q) ((64 * w + i) / (P - q + 3)) ≤ n := ix_le _ _ _
      have hn := h.2.2.1
      have hh2 := (hold_M l2 hn hs).2
      rw [if_pos (Inb ((64 * w + i) / (P - q + 3)) 64), if_pos (Inb ((64 * w + i) / (P - q + 3)) 64), Cl ((64 * w + i) / (P - q + 3))]
      rcases ix_cases (f := f) (n := n) (q := q) (r := P - q) (s := (64 * w + i) / (P - q + 3)) with ⟨z1, z2⟩ | ⟨x, hx, z1, z2, z3⟩
      · rw [if_neg (fun z => by have := hh2.1 z; omega)]
        refine fin 0 ?_
        unfold rB ow
        unfold iB at z1
        rw [z1, if_pos rfl]; rfl
      · have hfx := h.2.2.2.2.1 x hx
        have hmx : f x % 2 ^ (P - q) ≤ f x := Nat.mod_le _ _
        have e5 : st_a u 5 ((64 * w + i) / (P - q + 3)) = nI x := by
          rw [l2.2.1 _ hs]; exact z2
        rw [if_pos (hh2.2 (by omega)), if_pos (Inb ((64 * w + i) / (P - q + 3)) 64), e5, bm_at h hF hx, bind_some, bm_rem h hF h5 hqP (by omega) (by omega), bind_some, show ((3 : Int32) &&& 31) = nI 3 &&& 31 from rfl, shl_r (by omega) (by omega)]
        refine fin _ ?_
        rw [cell_r z1, Nat.mul_comm, show 2 ^ 3 = 8 from rfl]
theorem word2 {t u : St} {F n q P w : Nat} {f : Nat → Nat} (l1 : LY t 0 n q (P - q) f) (h : BM u F n q f) (hF : F < 2) (h5 : st_i u 5 = nI P) (l2 : LM u n q (P - q) f) (hq : q ≤ 6) (hqP : q ≤ P) (hP : P ≤ 14) (hq3 : 3 ≤ q) (hw : w ≤ 16) : ∃ v, f_X2_wordAt t 0 (nI w) = some v ∧ f_X7_wordOf u (nI F) (nI w) = some v ∧ ∀ j, j < 64 → tb v j = bitf (cl (hh f (P - q)) (2 ^ q) n (rr f (P - q)) n) (2 ^ q) (P - q + 3) (64 * w + j) := by
  have hw2 := p2_bound hq
  obtain ⟨j, hj⟩ := fuel_ge (k := 2 ^ q + 1) (by omega)
  obtain ⟨j2, hj2⟩ := fuel_ge (k := 64 + 1) (by omega)
  obtain ⟨v, v1, v2⟩ := word_C l1 hq (by omega) hw (2 ^ q) 0 j 0 (by omega) (fun j hj => by rw [tb_0]; simp)
  obtain ⟨v', v1', v2'⟩ := word_M h hF h5 l2 hq hqP hP hq3 hw 64 0 j2 0 (by omega) (fun j hj => by rw [tb_0]; simp)
  have e : v = v' := tb_ext (fun j hj => by rw [v2 j hj, v2' j hj])
  rw [← hj] at v1
  rw [← hj2] at v1'
  have i11 : st_i t 11 = nI (P - q) := l1.2.2.1
  refine ⟨v, ?_, ?_, v2⟩
  · unfold f_X2_wordAt f_X2_cellBits
    rw [lt_q, show st_i t (11 + 3 * 0) = nI (P - q) from i11, show (3 : Int32) = nI 3 from rfl, nI_add]
    exact v1
  · unfold f_X7_wordOf f_X7_wide
    rw [bm_rest h hF h5 hqP, bind_some, bind_some, show (3 : Int32) = nI 3 from rfl, nI_add, e]
    exact v1'
