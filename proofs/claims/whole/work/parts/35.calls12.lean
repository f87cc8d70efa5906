/-! full -/
theorem hb_loop (σ : St) {x : Nat} (hx : x < 64) (h0 : 0 < x) : ∀ (d y k : Nat), y + d = Nat.log2 x → f_X6_highestBit_n2 σ (nI x) (k + (d + 1)) (nI y) = some (nI (Nat.log2 x)) := by
  have hlt : x < 2 ^ (Nat.log2 x + 1) := Nat.lt_log2_self
  have hle : 2 ^ Nat.log2 x ≤ x := Nat.log2_self_le (by omega)
  have hl5 : Nat.log2 x < 6 := (Nat.log2_lt (by omega)).2 (by omega)
  intro d
  induction d with
  | zero =>
    intro y k e
    have : y = Nat.log2 x := by omega
    subst this
    show f_X6_highestBit_n2_b σ (nI x) (f_X6_highestBit_n2 σ (nI x) k) (nI (Nat.log2 x)) = _
    unfold f_X6_highestBit_n2_b
    rw [if_neg (NLeL 6 6 (Nat.log2 x)), nI_1, shr_r (by omega) (by omega), Nat.div_eq_of_lt hlt, if_pos (by decide)]
  | succ d ih =>
    intro y k e
    have hd : 0 < x / 2 ^ (y + 1) := Nat.div_pos (Nat.le_trans (Nat.pow_le_pow_right (by omega) (by omega)) hle) (Nat.pow_pos (by omega))
    have hd2 : x / 2 ^ (y + 1) ≤ x := Nat.div_le_self _ _
    show f_X6_highestBit_n2_b σ (nI x) (f_X6_highestBit_n2 σ (nI x) (k + (d + 1))) (nI y) = _
    unfold f_X6_highestBit_n2_b
    rw [if_neg (NLeL 6 6 y), nI_1, shr_r (by omega) (by omega), if_neg (nI_nle hd (by omega)), lt_q]
    exact ih (y + 1) k (by omega)
theorem hb_C (σ : St) {x : Nat} (hx : x < 64) (h0 : 0 < x) : f_X6_highestBit σ (nI x) = some (nI (Nat.log2 x)) := by
  have hl5 : Nat.log2 x < 6 := (Nat.log2_lt (by omega)).2 (by omega)
  unfold f_X6_highestBit
  obtain ⟨j, hj⟩ := fuel_ge (k := Nat.log2 x + 1) (by omega)
  rw [hj]
  exact hb_loop σ hx h0 (Nat.log2 x) 0 j (by omega)
def dblC (U P : Nat) : Int64 := if U = 0 then 0 else ((nI (Nat.log2 U) - nI P + 1023).toInt64 <<< ((52 : Int32).toInt64 &&& 63)) ||| ((nI U - (1 : Int32) <<< (nI (Nat.log2 U) &&& 31)).toInt64 <<< (((52 : Int32) - nI (Nat.log2 U)).toInt64 &&& 63))
def fltC (U P : Nat) : Int32 := if U = 0 then 0 else ((nI (Nat.log2 U) - nI P + 127) <<< ((23 : Int32) &&& 31)) ||| ((nI U - (1 : Int32) <<< (nI (Nat.log2 U) &&& 31)) <<< (((23 : Int32) - nI (Nat.log2 U)) &&& 31))
theorem dbl_C (σ : St) {U P : Nat} (hU : U < 64) : f_X6_doubleBits σ (nI U) (nI P) = some (dblC U P) := by
  unfold f_X6_doubleBits dblC
  by_cases c : U = 0
  · rw [c, if_neg (by decide), if_pos rfl]
  · rw [if_pos (LtL 0 0 U), hb_C σ hU (by omega), bind_some, lt_q, if_neg c]
theorem flt_C (σ : St) {U P : Nat} (hU : U < 64) : f_X6_floatBits σ (nI U) (nI P) = some (fltC U P) := by
  unfold f_X6_floatBits fltC
  by_cases c : U = 0
  · rw [c, if_neg (by decide), if_pos rfl]
  · rw [if_pos (LtL 0 0 U), hb_C σ hU (by omega), bind_some, lt_q, if_neg c]
theorem dbl_M : ∀ P, P < 15 → 5 < P → ∀ U, U < 64 → ok64 (FP.ddiv (FP.i2d (nI U)) (FP.i2d (nI (2 ^ P)))) = true ∧ fp_dbits (FP.ddiv (FP.i2d (nI U)) (FP.i2d (nI (2 ^ P)))) = some (dblC U P) := by decide +kernel
theorem flt_M : ∀ q, q < 7 → 2 < q → ∀ U, U < 64 → ok32 (FP.fdiv (FP.i2f (nI U)) (FP.i2f (nI (2 ^ q)))) = true ∧ fp_fbits (FP.fdiv (FP.i2f (nI U)) (FP.i2f (nI (2 ^ q)))) = some (fltC U q) := by decide +kernel
theorem full_loop {C M : St} {P L : Nat} {n q : Nat → Nat} {f : Nat → Nat → Nat} {kt : Nat} {gt : Nat → Nat} (h : Rf C M P L n q f kt gt) {F : Nat} (hF : F < 2) (x1 : Int32) : ∀ (d i k : Nat) (y : Int32), i + d = 1000 → Ok2 (f_X6_full_n17 x1 (k + (d + 1)) C F y (nI i)) (f_X7_full_n18 (nI F) (k + (d + 1)) M y (nI i)) := by
  obtain ⟨a1, a2, ⟨q1, q2, q3⟩, a4, a5⟩ := h.2.1 F hF
  have hp := h.1.1
  have hn := a1.2.2.1
  have hP5 := h.1.2.2.2.1
  have hP0 := h.1.2.2.1
  intro d
  induction d with
  | zero =>
    intro i k y e
    have : i = 1000 := by omega
    subst this
    show Ok2 (f_X6_full_n17_b x1 (f_X6_full_n17 x1 k) C F y (nI 1000)) (f_X7_full_n18_b (nI F) (f_X7_full_n18 (nI F) k) M y (nI 1000))
    unfold f_X6_full_n17_b f_X7_full_n18_b
    have hu := ul_le (f F) (n F)
    obtain ⟨o1, o2⟩ := dbl_M P (by omega) (by omega) (ul (f F) (n F)) (by omega)
    obtain ⟨o3, o4⟩ := flt_M (q F) (by omega) (by omega) (n F) (by omega)
    obtain ⟨t, u1, u, e1, e2, e3, hr, hrf, s1, s2, -⟩ := end2 h (dblC (ul (f F) (n F)) P) y.toInt64
    obtain ⟨b1, b2, -⟩ := hrf.2.1 F hF
    rw [if_pos (by decide), if_pos (by decide), bc_unlike a1, bind_some, hP0, dbl_C C (by omega), bind_some, e1, bind_some, b1.1, b1.2.1, flt_C t (by omega), bind_some, bm_unlike a2 hF, bind_some, hP5, sh_1 P (by omega), if_pos o1, lt_q, lt_q, o2, bind_some, e2, bind_some, e3, bind_some, if_pos (Inb F 2), bm_slots b2 hF (by omega), bind_some, Cl F, b2.1, if_pos o3, lt_q, o4, bind_some]
    exact ⟨_, _, _, rfl, rfl, hr⟩
  | succ d ih =>
    intro i k y e
    show Ok2 (f_X6_full_n17_b x1 (f_X6_full_n17 x1 (k + (d + 1))) C F y (nI i)) (f_X7_full_n18_b (nI F) (f_X7_full_n18 (nI F) (k + (d + 1))) M y (nI i))
    unfold f_X6_full_n17_b f_X7_full_n18_b f_X7_full_n44
    obtain ⟨v, hv, ev⟩ := printOf_nat h.1 (nI i)
    have hv2 := p2P hp.2
    have hcl := cnt_le (f F) (n F) v
    rw [if_neg (NLeL 1000 1000 i), if_neg (NLeL 1000 1000 i), printOf_eq h.1, ev, bc_holds a1 (by omega), bind_some, bm_count a2 hF (by omega), bind_some]
    simp only [lt_q, flag_0, flag_1, nI_1, Int32.add_zero]
    by_cases c : 0 < cnt (f F) (n F) v
    · rw [if_pos c, if_neg (by decide), if_neg (nI_nle c (by omega))]
      exact ih (i + 1) k _ (by omega)
    · rw [if_neg c, if_pos rfl, show cnt (f F) (n F) v = 0 by omega, if_pos (by decide)]
      exact ih (i + 1) k _ (by omega)
theorem m_full {C M : St} (h : Rel C M) (x1 : Int32) : Ok2 (f_X6_full C x1) (f_X7_full M x1) := by
  have h' := h.thr 0
  unfold f_X6_full f_X7_full
  rw [lt_q, lt_q]
  refine guardF h' (fun F hF hx => ?_)
  subst hx
  obtain ⟨P, L, n, q, f, kt, gt, hr⟩ := h'.rf
  obtain ⟨j, hj⟩ := fuel_ge (k := 1001) (by omega)
  rw [hj]
  exact full_loop hr hF _ 1000 0 j _ (by omega)
