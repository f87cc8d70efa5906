abbrev Rm_X7_full : Room := { frames := 2, cells := 0, slots := 0, locals := 46 }
def f_X7_full_n44 (x1 : Int32) (k18 : St → Int32 → Int32 → Option (Int32 × St)) (σ : St) (y3 : Int32) (w0 : Int32) (w1 : Int32) : Option (Int32 × St) :=
  lt_ (w0 + (f_X7_flag σ w1)) fun v11 =>
  lt_ (y3 + (1 : Int32)) fun v12 =>
  k18 σ v11 v12
set_option maxRecDepth 100000 in
set_option maxHeartbeats 4000000 in
theorem t_X7_full_n44 {Γ : St → Nat → List (Nat × Value) → List Value → Prop} {l : Launch} {a : Nat → Nat} {r : Int32} {t' : St} (hC : Cx Γ l cX7_full RX7 6 (some .int) Rm_X7_full wM a (some (.int r)) t') (x1 : Int32) (k18 : St → Int32 → Int32 → Option (Int32 × St)) (hk18 : ∀ (σ : St) (y2 : Int32) (y3 : Int32), k18 σ y2 y3 = some (r, t') → Γ σ 18 [(0, .ref (a 0)), (1, .int x1), (2, .int y2), (3, .int y3)] []) (σ : St) (y3 : Int32) (w0 : Int32) (w1 : Int32) (h : f_X7_full_n44 x1 k18 σ y3 w0 w1 = some (r, t')) : Γ σ 44 [(0, .ref (a 0)), (1, .int x1), (3, .int y3)] [.int w1, .int w0] := by
  unfold f_X7_full_n44 at h
  refine r_callS (As := [.int w1]) (rest := [.int w0]) hC (con_X7_flag l σ w1 rfl) K7_109 rfl rfl rfl ⟨Nat.le_of_ble_eq_true rfl, Nat.le_of_ble_eq_true rfl⟩ (Nat.le_of_ble_eq_true rfl) dX7_full_44 ?_
  refine r_iadd hC dX7_full_47 ?_
  obtain ⟨v11, ev11, h⟩ := lt_of h
  refine r_istore_n (lv' := [(2, .int v11), (0, .ref (a 0)), (1, .int x1), (3, .int y3)]) hC dX7_full_48 rfl (by decide) ev11 rfl ?_
  obtain ⟨v12, ev12, h⟩ := lt_of h
  refine r_iinc (c1 := 1) (lv' := [(3, .int v12), (2, .int v11), (0, .ref (a 0)), (1, .int x1)]) hC dX7_full_49 3 rfl (by decide) (by decide) ev12 rfl ?_
  refine r_goto hC 18 dX7_full_52 (by decide) ?_
  refine r_sub hC [2, 3, 1, 0] rfl ?_
  exact hk18 σ v11 v12 h
def f_X7_full_n18_b (x1 : Int32) (self : St → Int32 → Int32 → Option (Int32 × St)) (σ : St) (y2 : Int32) (y3 : Int32) : Option (Int32 × St) :=
  if (1000 : Int32) ≤ y3 then
    (f_X7_unlike σ x1).bind fun v1 =>
    if ok64 (FP.ddiv (FP.i2d v1) (FP.i2d ((1 : Int32) <<< ((st_i σ 5) &&& 31)))) = true then
      lt_ (FP.ddiv (FP.i2d v1) (FP.i2d ((1 : Int32) <<< ((st_i σ 5) &&& 31)))) fun v2 =>
      lt_ (put_i σ 1 (0 : Int32)) fun s3 =>
      (fp_dbits v2).bind fun v4 =>
      (f_X7_enters s3 v4).bind fun s5 =>
      (f_X7_enters s5 (y2.toInt64)).bind fun s6 =>
      if in_b x1 2 = true then
        (f_X7_slots s6 x1).bind fun v7 =>
        if ok32 (FP.fdiv (FP.i2f (st_a s6 2 x1.toNatClampNeg)) (FP.i2f v7)) = true then
          lt_ (FP.fdiv (FP.i2f (st_a s6 2 x1.toNatClampNeg)) (FP.i2f v7)) fun v8 =>
          (fp_fbits v8).bind fun v9 =>
          some (v9, s6)
        else none
      else none
    else none
  else
  (f_X7_countOf σ x1 (f_X7_printOf σ y3)).bind fun v10 =>
  if v10 ≤ 0 then
    f_X7_full_n44 x1 self σ y3 y2 (0 : Int32)
  else
  f_X7_full_n44 x1 self σ y3 y2 (1 : Int32)
def f_X7_full_n18 (x1 : Int32) : Nat → St → Int32 → Int32 → Option (Int32 × St)
  | 0 => fun _ _ _ => none
  | n + 1 => fun σ y2 y3 => f_X7_full_n18_b x1  (f_X7_full_n18 x1  n) σ y2 y3
set_option maxRecDepth 100000 in
set_option maxHeartbeats 4000000 in
theorem t_X7_full_n18_b {Γ : St → Nat → List (Nat × Value) → List Value → Prop} {l : Launch} {a : Nat → Nat} {r : Int32} {t' : St} (hC : Cx Γ l cX7_full RX7 6 (some .int) Rm_X7_full wM a (some (.int r)) t') (x1 : Int32) (self : St → Int32 → Int32 → Option (Int32 × St)) (hself : ∀ (σ : St) (y2 : Int32) (y3 : Int32), self σ y2 y3 = some (r, t') → Γ σ 18 [(0, .ref (a 0)), (1, .int x1), (2, .int y2), (3, .int y3)] []) (σ : St) (y2 : Int32) (y3 : Int32) (h : f_X7_full_n18_b x1 self σ y2 y3 = some (r, t')) : Γ σ 18 [(0, .ref (a 0)), (1, .int x1), (2, .int y2), (3, .int y3)] [] := by
  unfold f_X7_full_n18_b at h
  refine r_iload_n hC dX7_full_18 rfl 3 rfl ?_
  refine r_sipush (v := 1000) hC dX7_full_19 (by decide) ?_
  refine r_icmp_ge hC 55 dX7_full_22 (by decide) (fun q => ?_) (fun q => ?_)
  · replace h := if_p q h
    refine r_aload_n hC dX7_full_55 rfl 0 rfl ?_
    refine r_iload_n hC dX7_full_56 rfl 1 rfl ?_
    obtain ⟨v1, hv1, h⟩ := bind_of h
    refine r_callV (As := [.int x1]) (rest := []) hC (con_X7_unlike l σ x1 hv1) K7_272 (ob7 a σ) rfl rfl rfl rfl ⟨Nat.le_of_ble_eq_true rfl, Nat.le_of_ble_eq_true rfl⟩ (Nat.le_of_ble_eq_true rfl) dX7_full_57 ?_
    refine r_i2d hC dX7_full_60 ?_
    refine r_iconst (v := 1) hC dX7_full_61 (by decide) ?_
    refine r_aload_n hC dX7_full_62 rfl 0 rfl ?_
    refine G7_47 hC dX7_full_63 ?_
    refine r_ishl hC dX7_full_66 ?_
    refine r_i2d hC dX7_full_67 ?_
    obtain ⟨hz, h⟩ := okd_of h
    refine r_ddiv hC hz dX7_full_68 ?_
    obtain ⟨v2, ev2, h⟩ := lt_of h
    refine r_dstore_n (lv' := [(3, .double v2), (0, .ref (a 0)), (1, .int x1), (2, .int y2)]) hC dX7_full_69 rfl (by decide) ev2 rfl ?_
    refine r_aload_n hC dX7_full_70 rfl 1 rfl ?_
    refine r_iconst (v := 0) hC dX7_full_71 (by decide) ?_
    obtain ⟨s3, es3, h⟩ := lt_of h
    refine P7_11 hC es3 dX7_full_72 ?_
    refine r_aload_n hC dX7_full_75 rfl 1 rfl ?_
    refine r_dload_n hC dX7_full_76 rfl 0 rfl ?_
    obtain ⟨v4, hs, h⟩ := bind_of h
    refine r_callS (As := [.double v2]) (rest := [.ref (a 0)]) hC (con_D_bits l wM s3 v2 v4 hs) kM_291 rfl rfl rfl ⟨Nat.le_of_ble_eq_true rfl, Nat.le_of_ble_eq_true rfl⟩ (Nat.le_of_ble_eq_true rfl) dX7_full_77 ?_
    obtain ⟨s5, hs5, h⟩ := bind_of h
    refine r_callV (As := [.long v4]) (rest := []) hC (con_X7_enters l s3 v4 hs5) K7_145 (ob7 a s3) rfl rfl rfl rfl ⟨Nat.le_of_ble_eq_true rfl, Nat.le_of_ble_eq_true rfl⟩ (Nat.le_of_ble_eq_true rfl) dX7_full_80 ?_
    refine r_aload_n hC dX7_full_83 rfl 1 rfl ?_
    refine r_iload_n hC dX7_full_84 rfl 3 rfl ?_
    refine r_i2l hC dX7_full_85 ?_
    obtain ⟨s6, hs6, h⟩ := bind_of h
    refine r_callV (As := [.long (y2.toInt64)]) (rest := []) hC (con_X7_enters l s5 (y2.toInt64) hs6) K7_145 (ob7 a s5) rfl rfl rfl rfl ⟨Nat.le_of_ble_eq_true rfl, Nat.le_of_ble_eq_true rfl⟩ (Nat.le_of_ble_eq_true rfl) dX7_full_86 ?_
    refine r_aload_n hC dX7_full_89 rfl 1 rfl ?_
    refine G7_60 hC dX7_full_90 ?_
    refine r_iload_n hC dX7_full_93 rfl 2 rfl ?_
    obtain ⟨hi, h⟩ := inb_of h
    refine L_m_many hC hi dX7_full_94 ?_
    refine r_i2f hC dX7_full_95 ?_
    refine r_aload_n hC dX7_full_96 rfl 1 rfl ?_
    refine r_iload_n hC dX7_full_97 rfl 2 rfl ?_
    obtain ⟨v7, hv7, h⟩ := bind_of h
    refine r_callV (As := [.int x1]) (rest := [.float (FP.i2f (st_a s6 2 x1.toNatClampNeg))]) hC (con_X7_slots l s6 x1 hv7) K7_121 (ob7 a s6) rfl rfl rfl rfl ⟨Nat.le_of_ble_eq_true rfl, Nat.le_of_ble_eq_true rfl⟩ (Nat.le_of_ble_eq_true rfl) dX7_full_98 ?_
    refine r_i2f hC dX7_full_101 ?_
    obtain ⟨hz, h⟩ := okd_of h
    refine r_fdiv hC hz dX7_full_102 ?_
    obtain ⟨v8, ev8, h⟩ := lt_of h
    refine r_fstore (lv' := [(5, .float v8), (3, .double v2), (0, .ref (a 0)), (1, .int x1), (2, .int y2)]) hC dX7_full_103 (by decide) ev8 rfl ?_
    refine r_fload hC dX7_full_105 0 rfl ?_
    obtain ⟨v9, hs, h⟩ := bind_of h
    refine r_callS (As := [.float v8]) (rest := []) hC (con_F_bits l wM s6 v8 v9 hs) kM_297 rfl rfl rfl ⟨Nat.le_of_ble_eq_true rfl, Nat.le_of_ble_eq_true rfl⟩ (Nat.le_of_ble_eq_true rfl) dX7_full_107 ?_
    exact r_iretS hC dX7_full_110 h
  · replace h := if_n q h
    refine r_iload_n hC dX7_full_25 rfl 2 rfl ?_
    refine r_aload_n hC dX7_full_26 rfl 0 rfl ?_
    refine r_iload_n hC dX7_full_27 rfl 1 rfl ?_
    refine r_aload_n hC dX7_full_28 rfl 0 rfl ?_
    refine r_iload_n hC dX7_full_29 rfl 3 rfl ?_
    refine r_callV (As := [.int y3]) (rest := [.int x1, .ref (a 0), .int y2]) hC (con_X7_printOf l σ y3 rfl) K7_142 (ob7 a σ) rfl rfl rfl rfl ⟨Nat.le_of_ble_eq_true rfl, Nat.le_of_ble_eq_true rfl⟩ (Nat.le_of_ble_eq_true rfl) dX7_full_30 ?_
    obtain ⟨v10, hv10, h⟩ := bind_of h
    refine r_callV (As := [.int x1, .int (f_X7_printOf σ y3)]) (rest := [.int y2]) hC (con_X7_countOf l σ x1 (f_X7_printOf σ y3) hv10) K7_173 (ob7 a σ) rfl rfl rfl rfl ⟨Nat.le_of_ble_eq_true rfl, Nat.le_of_ble_eq_true rfl⟩ (Nat.le_of_ble_eq_true rfl) dX7_full_33 ?_
    refine r_if_le hC 43 dX7_full_36 (by decide) (fun q => ?_) (fun q => ?_)
    · replace h := if_p q h
      refine r_iconst (v := 0) hC dX7_full_43 (by decide) ?_
      refine r_sub hC [0, 1, 3] rfl ?_
      exact t_X7_full_n44 hC x1 self hself σ y3 y2 (0 : Int32) h
    · replace h := if_n q h
      refine r_iconst (v := 1) hC dX7_full_39 (by decide) ?_
      refine r_goto hC 44 dX7_full_40 (by decide) ?_
      refine r_sub hC [0, 1, 3] rfl ?_
      exact t_X7_full_n44 hC x1 self hself σ y3 y2 (1 : Int32) h
set_option maxRecDepth 100000 in
set_option maxHeartbeats 4000000 in
theorem t_X7_full_n18 {Γ : St → Nat → List (Nat × Value) → List Value → Prop} {l : Launch} {a : Nat → Nat} {r : Int32} {t' : St} (hC : Cx Γ l cX7_full RX7 6 (some .int) Rm_X7_full wM a (some (.int r)) t') (x1 : Int32) (n : Nat) : ∀ (σ : St) (y2 : Int32) (y3 : Int32), f_X7_full_n18 x1 n σ y2 y3 = some (r, t') → Γ σ 18 [(0, .ref (a 0)), (1, .int x1), (2, .int y2), (3, .int y3)] [] := by
  induction n with
  | zero =>
    intro σ y2 y3  h
    have h : (none : Option (Int32 × St)) = some (r, t') := h
    cases h
  | succ n ih =>
    intro σ y2 y3  h
    exact t_X7_full_n18_b hC x1    (f_X7_full_n18 x1  n) ih σ y2 y3  h
def f_X7_full (σ : St) (x1 : Int32) : Option (Int32 × St) :=
  lt_ (put_i σ 0 (0 : Int32)) fun s13 =>
  if (f_X7_isFile s13 x1) = 0 then
    some ((-1 : Int32), s13)
  else
  f_X7_full_n18 x1 fuel s13 (0 : Int32) (0 : Int32)
set_option maxRecDepth 100000 in
set_option maxHeartbeats 4000000 in
theorem con_X7_full (l : Launch) (σ : St) (x1 : Int32) {r : Int32} {t' : St} (h : f_X7_full σ x1 = some (r, t')) : Con l yX7_full cX7_full 6 (some .int) Rm_X7_full wM (fun a => [.ref (a 0), .int x1]) σ (fun _ => some (.int r)) t' := by
  refine con_of (by decide) ⟨rfl, rfl⟩ (fun _ => Nat.le_of_ble_eq_true rfl) (fun Γ a hC => ?_)
  have hC : Cx Γ l cX7_full RX7 6 (some .int) Rm_X7_full wM a (some (.int r)) t' := hC
  show Γ σ 0 [(0, .ref (a 0)), (1, .int x1)] []
  unfold f_X7_full at h
  refine r_aload_n hC dX7_full_0 rfl 0 rfl ?_
  refine r_iconst (v := 0) hC dX7_full_1 (by decide) ?_
  obtain ⟨s13, es13, h⟩ := lt_of h
  refine P7_1 hC es13 dX7_full_2 ?_
  refine r_iload_n hC dX7_full_5 rfl 1 rfl ?_
  refine r_callS (As := [.int x1]) (rest := []) hC (con_X7_isFile l s13 x1 rfl) K7_136 rfl rfl rfl ⟨Nat.le_of_ble_eq_true rfl, Nat.le_of_ble_eq_true rfl⟩ (Nat.le_of_ble_eq_true rfl) dX7_full_6 ?_
  refine r_if_ne hC 14 dX7_full_9 (by decide) (fun q => ?_) (fun q => ?_)
  · replace h := if_n q h
    refine r_iconst (v := 0) hC dX7_full_14 (by decide) ?_
    refine r_istore_n (lv' := [(2, .int (0 : Int32)), (0, .ref (a 0)), (1, .int x1)]) hC dX7_full_15 rfl (by decide) rfl rfl ?_
    refine r_iconst (v := 0) hC dX7_full_16 (by decide) ?_
    refine r_istore_n (lv' := [(3, .int (0 : Int32)), (2, .int (0 : Int32)), (0, .ref (a 0)), (1, .int x1)]) hC dX7_full_17 rfl (by decide) rfl rfl ?_
    refine r_sub hC [2, 3, 1, 0] rfl ?_
    exact t_X7_full_n18 hC x1 fuel s13 (0 : Int32) (0 : Int32) h
  · replace h := if_p q h
    refine r_iconst (v := -1) hC dX7_full_12 (by decide) ?_
    exact r_iretS hC dX7_full_13 h
abbrev Rm_X7_takesOf : Room := { frames := 4, cells := 0, slots := 0, locals := 85 }
def f_X7_takesOf_n2_b (z1 : Nat) (self : St → Int32 → Option (Int32 × St)) (σ : St) (y2 : Int32) : Option (Int32 × St) :=
  if (str_len z1) ≤ y2 then
    some ((-1 : Int32), σ)
  else
  if (st_i σ 4) ≤ (st_i σ 3) then
    some ((-1 : Int32), σ)
  else
  (str_at z1 y2).bind fun v1 =>
  if in_b (st_i σ 3) 80 = true then
    if v1 = (st_a σ 0 (st_i σ 3).toNatClampNeg) then
      lt_ (put_i σ 3 ((st_i σ 3) + (1 : Int32))) fun s3 =>
      some (y2, s3)
    else
    lt_ (y2 + (1 : Int32)) fun v2 =>
    self σ v2
  else none
def f_X7_takesOf_n2 (z1 : Nat) : Nat → St → Int32 → Option (Int32 × St)
  | 0 => fun _ _ => none
  | n + 1 => fun σ y2 => f_X7_takesOf_n2_b z1  (f_X7_takesOf_n2 z1  n) σ y2
set_option maxRecDepth 100000 in
set_option maxHeartbeats 4000000 in
theorem t_X7_takesOf_n2_b {Γ : St → Nat → List (Nat × Value) → List Value → Prop} {l : Launch} {a : Nat → Nat} {r : Int32} {t' : St} (hC : Cx Γ l cX7_takesOf RX7 3 (some .int) Rm_X7_takesOf wM a (some (.int r)) t') (z1 : Nat) (hz1 : z1 < 8) (self : St → Int32 → Option (Int32 × St)) (hself : ∀ (σ : St) (y2 : Int32), self σ y2 = some (r, t') → Γ σ 2 [(0, .ref (a 0)), (1, .ref (a (100 + z1))), (2, .int y2)] []) (σ : St) (y2 : Int32) (h : f_X7_takesOf_n2_b z1 self σ y2 = some (r, t')) : Γ σ 2 [(0, .ref (a 0)), (1, .ref (a (100 + z1))), (2, .int y2)] [] := by
  unfold f_X7_takesOf_n2_b at h
  refine r_iload_n hC dX7_takesOf_2 rfl 2 rfl ?_
  refine r_aload_n hC dX7_takesOf_3 rfl 1 rfl ?_
  refine r_strlen hC z1 hz1 dX7_takesOf_4 (Nat.le_of_ble_eq_true rfl) (Nat.le_of_ble_eq_true rfl) (Nat.le_of_ble_eq_true rfl) ?_
  refine r_icmp_ge hC 56 dX7_takesOf_7 (by decide) (fun q => ?_) (fun q => ?_)
  · replace h := if_p q h
    refine r_iconst (v := -1) hC dX7_takesOf_56 (by decide) ?_
    exact r_iretS hC dX7_takesOf_57 h
  · replace h := if_n q h
    refine r_aload_n hC dX7_takesOf_10 rfl 0 rfl ?_
    refine G7_28 hC dX7_takesOf_11 ?_
    refine r_aload_n hC dX7_takesOf_14 rfl 0 rfl ?_
    refine G7_25 hC dX7_takesOf_15 ?_
    refine r_icmp_ge hC 56 dX7_takesOf_18 (by decide) (fun q => ?_) (fun q => ?_)
    · replace h := if_p q h
      refine r_iconst (v := -1) hC dX7_takesOf_56 (by decide) ?_
      exact r_iretS hC dX7_takesOf_57 h
    · replace h := if_n q h
      refine r_aload_n hC dX7_takesOf_21 rfl 1 rfl ?_
      refine r_iload_n hC dX7_takesOf_22 rfl 2 rfl ?_
      obtain ⟨v1, hs, h⟩ := bind_of h
      refine r_strat hC z1 hz1 hs dX7_takesOf_23 (Nat.le_of_ble_eq_true rfl) (Nat.le_of_ble_eq_true rfl) (Nat.le_of_ble_eq_true rfl) ?_
      refine r_aload_n hC dX7_takesOf_26 rfl 0 rfl ?_
      refine G7_17 hC dX7_takesOf_27 ?_
      refine r_aload_n hC dX7_takesOf_30 rfl 0 rfl ?_
      refine G7_28 hC dX7_takesOf_31 ?_
      obtain ⟨hi, h⟩ := inb_of h
      refine L_m_tape hC hi dX7_takesOf_34 ?_
      refine r_icmp_ne hC 50 dX7_takesOf_35 (by decide) (fun q => ?_) (fun q => ?_)
      · replace h := if_n q h
        obtain ⟨v2, ev2, h⟩ := lt_of h
        refine r_iinc (c1 := 1) (lv' := [(2, .int v2), (0, .ref (a 0)), (1, .ref (a (100 + z1)))]) hC dX7_takesOf_50 2 rfl (by decide) (by decide) ev2 rfl ?_
        refine r_goto hC 2 dX7_takesOf_53 (by decide) ?_
        refine r_sub hC [1, 2, 0] rfl ?_
        exact hself σ v2 h
      · replace h := if_p q h
        refine r_aload_n hC dX7_takesOf_38 rfl 0 rfl ?_
        refine r_dup hC dX7_takesOf_39 rfl ?_
        refine G7_28 hC dX7_takesOf_40 ?_
        refine r_iconst (v := 1) hC dX7_takesOf_43 (by decide) ?_
        refine r_iadd hC dX7_takesOf_44 ?_
        obtain ⟨s3, es3, h⟩ := lt_of h
        refine P7_28 hC es3 dX7_takesOf_45 ?_
        refine r_iload_n hC dX7_takesOf_48 rfl 2 rfl ?_
        exact r_iretS hC dX7_takesOf_49 h
set_option maxRecDepth 100000 in
set_option maxHeartbeats 4000000 in
theorem t_X7_takesOf_n2 {Γ : St → Nat → List (Nat × Value) → List Value → Prop} {l : Launch} {a : Nat → Nat} {r : Int32} {t' : St} (hC : Cx Γ l cX7_takesOf RX7 3 (some .int) Rm_X7_takesOf wM a (some (.int r)) t') (z1 : Nat) (hz1 : z1 < 8) (n : Nat) : ∀ (σ : St) (y2 : Int32), f_X7_takesOf_n2 z1 n σ y2 = some (r, t') → Γ σ 2 [(0, .ref (a 0)), (1, .ref (a (100 + z1))), (2, .int y2)] [] := by
  induction n with
  | zero =>
    intro σ y2  h
    have h : (none : Option (Int32 × St)) = some (r, t') := h
    cases h
  | succ n ih =>
    intro σ y2  h
    exact t_X7_takesOf_n2_b hC z1 hz1   (f_X7_takesOf_n2 z1  n) ih σ y2  h
def f_X7_takesOf (σ : St) (z1 : Nat) : Option (Int32 × St) :=
  f_X7_takesOf_n2 z1 fuel σ (0 : Int32)
set_option maxRecDepth 100000 in
set_option maxHeartbeats 4000000 in
theorem con_X7_takesOf (l : Launch) (σ : St) (z1 : Nat) (hz1 : z1 < 8) {r : Int32} {t' : St} (h : f_X7_takesOf σ z1 = some (r, t')) : Con l yX7_takesOf cX7_takesOf 3 (some .int) Rm_X7_takesOf wM (fun a => [.ref (a 0), .ref (a (100 + z1))]) σ (fun _ => some (.int r)) t' := by
  refine con_of (by decide) ⟨rfl, rfl⟩ (fun _ => Nat.le_of_ble_eq_true rfl) (fun Γ a hC => ?_)
  have hC : Cx Γ l cX7_takesOf RX7 3 (some .int) Rm_X7_takesOf wM a (some (.int r)) t' := hC
  show Γ σ 0 [(0, .ref (a 0)), (1, .ref (a (100 + z1)))] []
  unfold f_X7_takesOf at h
  refine r_iconst (v := 0) hC dX7_takesOf_0 (by decide) ?_
  refine r_istore_n (lv' := [(2, .int (0 : Int32)), (0, .ref (a 0)), (1, .ref (a (100 + z1)))]) hC dX7_takesOf_1 rfl (by decide) rfl rfl ?_
  refine r_sub hC [1, 2, 0] rfl ?_
  exact t_X7_takesOf_n2 hC z1 hz1 fuel σ (0 : Int32) h
abbrev Rm_X7_readsKey : Room := { frames := 5, cells := 0, slots := 0, locals := 107 }
def f_X7_readsKey_n89 (x1 : Int32) (σ : St) (y2 : Int32) : Option (Int32 × St) :=
  if in_b x1 80 = true then
    lt_ (put_a σ 7 x1.toNatClampNeg y2) fun s1 =>
    if y2 < 0 then
      some ((0 : Int32), s1)
    else
    some ((1 : Int32), s1)
  else none
set_option maxRecDepth 100000 in
set_option maxHeartbeats 4000000 in
theorem t_X7_readsKey_n89 {Γ : St → Nat → List (Nat × Value) → List Value → Prop} {l : Launch} {a : Nat → Nat} {r : Int32} {t' : St} (hC : Cx Γ l cX7_readsKey RX7 4 (some .boolean) Rm_X7_readsKey wM a (some (.int r)) t') (x1 : Int32) (σ : St) (y2 : Int32) (h : f_X7_readsKey_n89 x1 σ y2 = some (r, t')) : Γ σ 89 [(0, .ref (a 0)), (1, .int x1), (2, .int y2)] [] := by
  unfold f_X7_readsKey_n89 at h
  refine r_aload_n hC dX7_readsKey_89 rfl 0 rfl ?_
  refine G7_75 hC dX7_readsKey_90 ?_
  refine r_iload_n hC dX7_readsKey_93 rfl 1 rfl ?_
  refine r_iload_n hC dX7_readsKey_94 rfl 2 rfl ?_
  obtain ⟨hi, h⟩ := inb_of h
  obtain ⟨s1, es1, h⟩ := lt_of h
  refine S_m_readKey hC es1 hi dX7_readsKey_95 ?_
  refine r_iload_n hC dX7_readsKey_96 rfl 2 rfl ?_
  refine r_if_lt hC 104 dX7_readsKey_97 (by decide) (fun q => ?_) (fun q => ?_)
  · replace h := if_p q h
    refine r_iconst (v := 0) hC dX7_readsKey_104 (by decide) ?_
    exact r_zretS hC rfl dX7_readsKey_105 h
  · replace h := if_n q h
    refine r_iconst (v := 1) hC dX7_readsKey_100 (by decide) ?_
    refine r_goto hC 105 dX7_readsKey_101 (by decide) ?_
    exact r_zretS hC rfl dX7_readsKey_105 h
def f_X7_readsKey_n29_b (x1 : Int32) (self : St → Int32 → Int32 → Option (Int32 × St)) (σ : St) (y2 : Int32) (y3 : Int32) : Option (Int32 × St) :=
  if y2 < 0 then
    f_X7_readsKey_n89 x1 σ y2
  else
  if (5 : Int32) ≤ y3 then
    f_X7_readsKey_n89 x1 σ y2
  else
  if (st_i σ 4) ≤ (st_i σ 3) then
    f_X7_readsKey_n89 x1 σ y2
  else
  if in_b (st_i σ 3) 80 = true then
    if (f_X7_in σ (((st_a σ 0 (st_i σ 3).toNatClampNeg)).toInt64) (48 : Int64) (57 : Int64)) = 0 then
      f_X7_readsKey_n89 x1 σ y2
    else
    bind2 (f_X7_takesOf σ 3) fun v6 s5 =>
    lt_ (((10 : Int32) * y2) + v6) fun v7 =>
    lt_ (y3 + (1 : Int32)) fun v8 =>
    self s5 v7 v8
  else none
def f_X7_readsKey_n29 (x1 : Int32) : Nat → St → Int32 → Int32 → Option (Int32 × St)
  | 0 => fun _ _ _ => none
  | n + 1 => fun σ y2 y3 => f_X7_readsKey_n29_b x1  (f_X7_readsKey_n29 x1  n) σ y2 y3
set_option maxRecDepth 100000 in
set_option maxHeartbeats 4000000 in
theorem t_X7_readsKey_n29_b {Γ : St → Nat → List (Nat × Value) → List Value → Prop} {l : Launch} {a : Nat → Nat} {r : Int32} {t' : St} (hC : Cx Γ l cX7_readsKey RX7 4 (some .boolean) Rm_X7_readsKey wM a (some (.int r)) t') (x1 : Int32) (self : St → Int32 → Int32 → Option (Int32 × St)) (hself : ∀ (σ : St) (y2 : Int32) (y3 : Int32), self σ y2 y3 = some (r, t') → Γ σ 29 [(0, .ref (a 0)), (1, .int x1), (2, .int y2), (3, .int y3)] []) (σ : St) (y2 : Int32) (y3 : Int32) (h : f_X7_readsKey_n29_b x1 self σ y2 y3 = some (r, t')) : Γ σ 29 [(0, .ref (a 0)), (1, .int x1), (2, .int y2), (3, .int y3)] [] := by
  unfold f_X7_readsKey_n29_b at h
  refine r_iload_n hC dX7_readsKey_29 rfl 2 rfl ?_
  refine r_if_lt hC 89 dX7_readsKey_30 (by decide) (fun q => ?_) (fun q => ?_)
  · replace h := if_p q h
    refine r_sub hC [0, 1, 2] rfl ?_
    exact t_X7_readsKey_n89 hC x1 σ y2 h
  · replace h := if_n q h
    refine r_iload_n hC dX7_readsKey_33 rfl 3 rfl ?_
    refine r_iconst (v := 5) hC dX7_readsKey_34 (by decide) ?_
    refine r_icmp_ge hC 89 dX7_readsKey_35 (by decide) (fun q => ?_) (fun q => ?_)
    · replace h := if_p q h
      refine r_sub hC [0, 1, 2] rfl ?_
      exact t_X7_readsKey_n89 hC x1 σ y2 h
    · replace h := if_n q h
      refine r_aload_n hC dX7_readsKey_38 rfl 0 rfl ?_
      refine G7_28 hC dX7_readsKey_39 ?_
      refine r_aload_n hC dX7_readsKey_42 rfl 0 rfl ?_
      refine G7_25 hC dX7_readsKey_43 ?_
      refine r_icmp_ge hC 89 dX7_readsKey_46 (by decide) (fun q => ?_) (fun q => ?_)
      · replace h := if_p q h
        refine r_sub hC [0, 1, 2] rfl ?_
        exact t_X7_readsKey_n89 hC x1 σ y2 h
      · replace h := if_n q h
        refine r_aload_n hC dX7_readsKey_49 rfl 0 rfl ?_
        refine G7_17 hC dX7_readsKey_50 ?_
        refine r_aload_n hC dX7_readsKey_53 rfl 0 rfl ?_
        refine G7_28 hC dX7_readsKey_54 ?_
        obtain ⟨hi, h⟩ := inb_of h
        refine L_m_tape hC hi dX7_readsKey_57 ?_
        refine r_i2l hC dX7_readsKey_58 ?_
        refine r_ldc2 hC dX7_readsKey_59 kc7_187 ?_
        refine r_ldc2 hC dX7_readsKey_62 kc7_189 ?_
        refine r_callS (As := [.long (((st_a σ 0 (st_i σ 3).toNatClampNeg)).toInt64), .long (48 : Int64), .long (57 : Int64)]) (rest := []) hC (con_X7_in l σ (((st_a σ 0 (st_i σ 3).toNatClampNeg)).toInt64) (48 : Int64) (57 : Int64) rfl) K7_21 rfl rfl rfl ⟨Nat.le_of_ble_eq_true rfl, Nat.le_of_ble_eq_true rfl⟩ (Nat.le_of_ble_eq_true rfl) dX7_readsKey_65 ?_
        refine r_if_eq hC 89 dX7_readsKey_68 (by decide) (fun q => ?_) (fun q => ?_)
        · replace h := if_p q h
          refine r_sub hC [0, 1, 2] rfl ?_
          exact t_X7_readsKey_n89 hC x1 σ y2 h
        · replace h := if_n q h
          refine r_bipush (v := 10) hC dX7_readsKey_71 (by decide) ?_
          refine r_iload_n hC dX7_readsKey_73 rfl 2 rfl ?_
          refine r_imul hC dX7_readsKey_74 ?_
          refine r_aload_n hC dX7_readsKey_75 rfl 0 rfl ?_
          refine r_ldcS hC 3 (by decide) rfl rfl dX7_readsKey_76 ?_
          obtain ⟨v6, s5, hs5, h⟩ := bind2_of h
          refine r_callV (As := [.ref (a (100 + 3))]) (rest := [.int ((10 : Int32) * y2)]) hC (con_X7_takesOf l σ 3 (by decide) hs5) K7_181 (ob7 a σ) rfl rfl rfl rfl ⟨Nat.le_of_ble_eq_true rfl, Nat.le_of_ble_eq_true rfl⟩ (Nat.le_of_ble_eq_true rfl) dX7_readsKey_78 ?_
          refine r_iadd hC dX7_readsKey_81 ?_
          obtain ⟨v7, ev7, h⟩ := lt_of h
          refine r_istore_n (lv' := [(2, .int v7), (0, .ref (a 0)), (1, .int x1), (3, .int y3)]) hC dX7_readsKey_82 rfl (by decide) ev7 rfl ?_
          obtain ⟨v8, ev8, h⟩ := lt_of h
          refine r_iinc (c1 := 1) (lv' := [(3, .int v8), (2, .int v7), (0, .ref (a 0)), (1, .int x1)]) hC dX7_readsKey_83 3 rfl (by decide) (by decide) ev8 rfl ?_
          refine r_goto hC 29 dX7_readsKey_86 (by decide) ?_
          refine r_sub hC [2, 3, 1, 0] rfl ?_
          exact hself s5 v7 v8 h
set_option maxRecDepth 100000 in
set_option maxHeartbeats 4000000 in
theorem t_X7_readsKey_n29 {Γ : St → Nat → List (Nat × Value) → List Value → Prop} {l : Launch} {a : Nat → Nat} {r : Int32} {t' : St} (hC : Cx Γ l cX7_readsKey RX7 4 (some .boolean) Rm_X7_readsKey wM a (some (.int r)) t') (x1 : Int32) (n : Nat) : ∀ (σ : St) (y2 : Int32) (y3 : Int32), f_X7_readsKey_n29 x1 n σ y2 y3 = some (r, t') → Γ σ 29 [(0, .ref (a 0)), (1, .int x1), (2, .int y2), (3, .int y3)] [] := by
  induction n with
  | zero =>
    intro σ y2 y3  h
    have h : (none : Option (Int32 × St)) = some (r, t') := h
    cases h
  | succ n ih =>
    intro σ y2 y3  h
    exact t_X7_readsKey_n29_b hC x1    (f_X7_readsKey_n29 x1  n) ih σ y2 y3  h
def f_X7_readsKey_n19 (x1 : Int32) (σ : St) (w1 : Int32) (w2 : Int32) : Option (Int32 × St) :=
  if in_b w1 80 = true then
    lt_ (put_a σ 8 w1.toNatClampNeg (vp_nar .boolean w2)) fun s2 =>
    bind2 (f_X7_takesOf s2 3) fun v4 s3 =>
    f_X7_readsKey_n29 x1 fuel s3 v4 (1 : Int32)
  else none
set_option maxRecDepth 100000 in
set_option maxHeartbeats 4000000 in
theorem t_X7_readsKey_n19 {Γ : St → Nat → List (Nat × Value) → List Value → Prop} {l : Launch} {a : Nat → Nat} {r : Int32} {t' : St} (hC : Cx Γ l cX7_readsKey RX7 4 (some .boolean) Rm_X7_readsKey wM a (some (.int r)) t') (x1 : Int32) (σ : St) (w1 : Int32) (w2 : Int32) (h : f_X7_readsKey_n19 x1 σ w1 w2 = some (r, t')) : Γ σ 19 [(0, .ref (a 0)), (1, .int x1)] [.int w2, .int w1, .ref (a 10)] := by
  unfold f_X7_readsKey_n19 at h
  obtain ⟨hi, h⟩ := inb_of h
  obtain ⟨s2, es2, h⟩ := lt_of h
  refine S_m_readOut hC es2 hi dX7_readsKey_19 ?_
  refine r_aload_n hC dX7_readsKey_20 rfl 0 rfl ?_
  refine r_ldcS hC 3 (by decide) rfl rfl dX7_readsKey_21 ?_
  obtain ⟨v4, s3, hs3, h⟩ := bind2_of h
  refine r_callV (As := [.ref (a (100 + 3))]) (rest := []) hC (con_X7_takesOf l s2 3 (by decide) hs3) K7_181 (ob7 a s2) rfl rfl rfl rfl ⟨Nat.le_of_ble_eq_true rfl, Nat.le_of_ble_eq_true rfl⟩ (Nat.le_of_ble_eq_true rfl) dX7_readsKey_23 ?_
  refine r_istore_n (lv' := [(2, .int v4), (0, .ref (a 0)), (1, .int x1)]) hC dX7_readsKey_26 rfl (by decide) rfl rfl ?_
  refine r_iconst (v := 1) hC dX7_readsKey_27 (by decide) ?_
  refine r_istore_n (lv' := [(3, .int (1 : Int32)), (2, .int v4), (0, .ref (a 0)), (1, .int x1)]) hC dX7_readsKey_28 rfl (by decide) rfl rfl ?_
  refine r_sub hC [2, 3, 1, 0] rfl ?_
  exact t_X7_readsKey_n29 hC x1 fuel s3 v4 (1 : Int32) h
def f_X7_readsKey (σ : St) (x1 : Int32) : Option (Int32 × St) :=
  bind2 (f_X7_takesOf σ 2) fun v10 s9 =>
  if v10 = 0 then
    f_X7_readsKey_n19 x1 s9 x1 (1 : Int32)
  else
  f_X7_readsKey_n19 x1 s9 x1 (0 : Int32)
set_option maxRecDepth 100000 in
set_option maxHeartbeats 4000000 in
theorem con_X7_readsKey (l : Launch) (σ : St) (x1 : Int32) {r : Int32} {t' : St} (h : f_X7_readsKey σ x1 = some (r, t')) : Con l yX7_readsKey cX7_readsKey 4 (some .boolean) Rm_X7_readsKey wM (fun a => [.ref (a 0), .int x1]) σ (fun _ => some (.int r)) t' := by
  refine con_of (by decide) ⟨rfl, rfl⟩ (fun _ => Nat.le_of_ble_eq_true rfl) (fun Γ a hC => ?_)
  have hC : Cx Γ l cX7_readsKey RX7 4 (some .boolean) Rm_X7_readsKey wM a (some (.int r)) t' := hC
  show Γ σ 0 [(0, .ref (a 0)), (1, .int x1)] []
  unfold f_X7_readsKey at h
  refine r_aload_n hC dX7_readsKey_0 rfl 0 rfl ?_
  refine G7_78 hC dX7_readsKey_1 ?_
  refine r_iload_n hC dX7_readsKey_4 rfl 1 rfl ?_
  refine r_aload_n hC dX7_readsKey_5 rfl 0 rfl ?_
  refine r_ldcS hC 2 (by decide) rfl rfl dX7_readsKey_6 ?_
  obtain ⟨v10, s9, hs9, h⟩ := bind2_of h
  refine r_callV (As := [.ref (a (100 + 2))]) (rest := [.int x1, .ref (a 10)]) hC (con_X7_takesOf l σ 2 (by decide) hs9) K7_181 (ob7 a σ) rfl rfl rfl rfl ⟨Nat.le_of_ble_eq_true rfl, Nat.le_of_ble_eq_true rfl⟩ (Nat.le_of_ble_eq_true rfl) dX7_readsKey_8 ?_
  refine r_if_ne hC 18 dX7_readsKey_11 (by decide) (fun q => ?_) (fun q => ?_)
  · replace h := if_n q h
    refine r_iconst (v := 0) hC dX7_readsKey_18 (by decide) ?_
    exact t_X7_readsKey_n19 hC x1 s9 x1 (0 : Int32) h
  · replace h := if_p q h
    refine r_iconst (v := 1) hC dX7_readsKey_14 (by decide) ?_
    refine r_goto hC 19 dX7_readsKey_15 (by decide) ?_
    exact t_X7_readsKey_n19 hC x1 s9 x1 (1 : Int32) h
abbrev Rm_X7_readsKeys : Room := { frames := 6, cells := 0, slots := 0, locals := 130 }
def f_X7_readsKeys_n15_b (self : St → Int32 → Int32 → Option (Int32 × St)) (σ : St) (y1 : Int32) (y2 : Int32) : Option (Int32 × St) :=
  if y2 = 0 then
    if (st_i σ 4) ≤ (st_i σ 3) then
      some (y1, σ)
    else
    some ((-1 : Int32), σ)
  else
  bind2 (f_X7_readsKey σ y1) fun v2 s1 =>
  if v2 = 0 then
    some ((-1 : Int32), s1)
  else
  lt_ (y1 + (1 : Int32)) fun v3 =>
  bind2 (f_X7_takesOf s1 4) fun v5 s4 =>
  if v5 = 0 then
    self s4 v3 (1 : Int32)
  else
  self s4 v3 (0 : Int32)
def f_X7_readsKeys_n15 : Nat → St → Int32 → Int32 → Option (Int32 × St)
  | 0 => fun _ _ _ => none
  | n + 1 => fun σ y1 y2 => f_X7_readsKeys_n15_b   (f_X7_readsKeys_n15   n) σ y1 y2
set_option maxRecDepth 100000 in
set_option maxHeartbeats 4000000 in
theorem t_X7_readsKeys_n15_b {Γ : St → Nat → List (Nat × Value) → List Value → Prop} {l : Launch} {a : Nat → Nat} {r : Int32} {t' : St} (hC : Cx Γ l cX7_readsKeys RX7 3 (some .int) Rm_X7_readsKeys wM a (some (.int r)) t') (self : St → Int32 → Int32 → Option (Int32 × St)) (hself : ∀ (σ : St) (y1 : Int32) (y2 : Int32), self σ y1 y2 = some (r, t') → Γ σ 15 [(0, .ref (a 0)), (1, .int y1), (2, .int y2)] []) (σ : St) (y1 : Int32) (y2 : Int32) (h : f_X7_readsKeys_n15_b self σ y1 y2 = some (r, t')) : Γ σ 15 [(0, .ref (a 0)), (1, .int y1), (2, .int y2)] [] := by
  unfold f_X7_readsKeys_n15_b at h
  refine r_iload_n hC dX7_readsKeys_15 rfl 2 rfl ?_
  refine r_if_eq hC 50 dX7_readsKeys_16 (by decide) (fun q => ?_) (fun q => ?_)
  · replace h := if_p q h
    refine r_aload_n hC dX7_readsKeys_50 rfl 0 rfl ?_
    refine G7_28 hC dX7_readsKeys_51 ?_
    refine r_aload_n hC dX7_readsKeys_54 rfl 0 rfl ?_
    refine G7_25 hC dX7_readsKeys_55 ?_
    refine r_icmp_ge hC 65 dX7_readsKeys_58 (by decide) (fun q => ?_) (fun q => ?_)
    · replace h := if_p q h
      refine r_iload_n hC dX7_readsKeys_65 rfl 1 rfl ?_
      exact r_iretS hC dX7_readsKeys_66 h
    · replace h := if_n q h
      refine r_iconst (v := -1) hC dX7_readsKeys_61 (by decide) ?_
      refine r_goto hC 66 dX7_readsKeys_62 (by decide) ?_
      exact r_iretS hC dX7_readsKeys_66 h
  · replace h := if_n q h
    refine r_aload_n hC dX7_readsKeys_19 rfl 0 rfl ?_
    refine r_iload_n hC dX7_readsKeys_20 rfl 1 rfl ?_
    obtain ⟨v2, s1, hs1, h⟩ := bind2_of h
    refine r_callV (As := [.int y1]) (rest := []) hC (con_X7_readsKey l σ y1 hs1) K7_191 (ob7 a σ) rfl rfl rfl rfl ⟨Nat.le_of_ble_eq_true rfl, Nat.le_of_ble_eq_true rfl⟩ (Nat.le_of_ble_eq_true rfl) dX7_readsKeys_21 ?_
    refine r_if_ne hC 29 dX7_readsKeys_24 (by decide) (fun q => ?_) (fun q => ?_)
    · replace h := if_n q h
      obtain ⟨v3, ev3, h⟩ := lt_of h
      refine r_iinc (c1 := 1) (lv' := [(1, .int v3), (0, .ref (a 0)), (2, .int y2)]) hC dX7_readsKeys_29 1 rfl (by decide) (by decide) ev3 rfl ?_
      refine r_aload_n hC dX7_readsKeys_32 rfl 1 rfl ?_
      refine r_ldcS hC 4 (by decide) rfl rfl dX7_readsKeys_33 ?_
      obtain ⟨v5, s4, hs4, h⟩ := bind2_of h
      refine r_callV (As := [.ref (a (100 + 4))]) (rest := []) hC (con_X7_takesOf l s1 4 (by decide) hs4) K7_181 (ob7 a s1) rfl rfl rfl rfl ⟨Nat.le_of_ble_eq_true rfl, Nat.le_of_ble_eq_true rfl⟩ (Nat.le_of_ble_eq_true rfl) dX7_readsKeys_35 ?_
      refine r_if_ne hC 45 dX7_readsKeys_38 (by decide) (fun q => ?_) (fun q => ?_)
      · replace h := if_n q h
        refine r_iconst (v := 0) hC dX7_readsKeys_45 (by decide) ?_
        refine r_istore_n (lv' := [(2, .int (0 : Int32)), (1, .int v3), (0, .ref (a 0))]) hC dX7_readsKeys_46 rfl (by decide) rfl rfl ?_
        refine r_goto hC 15 dX7_readsKeys_47 (by decide) ?_
        refine r_sub hC [2, 1, 0] rfl ?_
        exact hself s4 v3 (0 : Int32) h
      · replace h := if_p q h
        refine r_iconst (v := 1) hC dX7_readsKeys_41 (by decide) ?_
        refine r_goto hC 46 dX7_readsKeys_42 (by decide) ?_
        refine r_istore_n (lv' := [(2, .int (1 : Int32)), (1, .int v3), (0, .ref (a 0))]) hC dX7_readsKeys_46 rfl (by decide) rfl rfl ?_
        refine r_goto hC 15 dX7_readsKeys_47 (by decide) ?_
        refine r_sub hC [2, 1, 0] rfl ?_
        exact hself s4 v3 (1 : Int32) h
    · replace h := if_p q h
      refine r_iconst (v := -1) hC dX7_readsKeys_27 (by decide) ?_
      exact r_iretS hC dX7_readsKeys_28 h
set_option maxRecDepth 100000 in
set_option maxHeartbeats 4000000 in
theorem t_X7_readsKeys_n15 {Γ : St → Nat → List (Nat × Value) → List Value → Prop} {l : Launch} {a : Nat → Nat} {r : Int32} {t' : St} (hC : Cx Γ l cX7_readsKeys RX7 3 (some .int) Rm_X7_readsKeys wM a (some (.int r)) t') (n : Nat) : ∀ (σ : St) (y1 : Int32) (y2 : Int32), f_X7_readsKeys_n15 n σ y1 y2 = some (r, t') → Γ σ 15 [(0, .ref (a 0)), (1, .int y1), (2, .int y2)] [] := by
  induction n with
  | zero =>
    intro σ y1 y2  h
    have h : (none : Option (Int32 × St)) = some (r, t') := h
    cases h
  | succ n ih =>
    intro σ y1 y2  h
    exact t_X7_readsKeys_n15_b hC     (f_X7_readsKeys_n15   n) ih σ y1 y2  h
def f_X7_readsKeys (σ : St) : Option (Int32 × St) :=
  if (st_i σ 4) ≤ 0 then
    f_X7_readsKeys_n15 fuel σ (0 : Int32) (0 : Int32)
  else
  f_X7_readsKeys_n15 fuel σ (0 : Int32) (1 : Int32)
set_option maxRecDepth 100000 in
set_option maxHeartbeats 4000000 in
theorem con_X7_readsKeys (l : Launch) (σ : St) {r : Int32} {t' : St} (h : f_X7_readsKeys σ = some (r, t')) : Con l yX7_readsKeys cX7_readsKeys 3 (some .int) Rm_X7_readsKeys wM (fun a => [.ref (a 0)]) σ (fun _ => some (.int r)) t' := by
  refine con_of (by decide) ⟨rfl, rfl⟩ (fun _ => Nat.le_of_ble_eq_true rfl) (fun Γ a hC => ?_)
  have hC : Cx Γ l cX7_readsKeys RX7 3 (some .int) Rm_X7_readsKeys wM a (some (.int r)) t' := hC
  show Γ σ 0 [(0, .ref (a 0))] []
  unfold f_X7_readsKeys at h
  refine r_iconst (v := 0) hC dX7_readsKeys_0 (by decide) ?_
  refine r_istore_n (lv' := [(1, .int (0 : Int32)), (0, .ref (a 0))]) hC dX7_readsKeys_1 rfl (by decide) rfl rfl ?_
  refine r_aload_n hC dX7_readsKeys_2 rfl 1 rfl ?_
  refine G7_25 hC dX7_readsKeys_3 ?_
  refine r_if_le hC 13 dX7_readsKeys_6 (by decide) (fun q => ?_) (fun q => ?_)
  · replace h := if_p q h
    refine r_iconst (v := 0) hC dX7_readsKeys_13 (by decide) ?_
    refine r_istore_n (lv' := [(2, .int (0 : Int32)), (1, .int (0 : Int32)), (0, .ref (a 0))]) hC dX7_readsKeys_14 rfl (by decide) rfl rfl ?_
    refine r_sub hC [2, 1, 0] rfl ?_
    exact t_X7_readsKeys_n15 hC fuel σ (0 : Int32) (0 : Int32) h
  · replace h := if_n q h
    refine r_iconst (v := 1) hC dX7_readsKeys_9 (by decide) ?_
    refine r_goto hC 14 dX7_readsKeys_10 (by decide) ?_
    refine r_istore_n (lv' := [(2, .int (1 : Int32)), (1, .int (0 : Int32)), (0, .ref (a 0))]) hC dX7_readsKeys_14 rfl (by decide) rfl rfl ?_
    refine r_sub hC [2, 1, 0] rfl ?_
    exact t_X7_readsKeys_n15 hC fuel σ (0 : Int32) (1 : Int32) h
abbrev Rm_X7_keys : Room := { frames := 7, cells := 0, slots := 0, locals := 152 }
def f_X7_keys_n95 (x1 : Int32) (k39 : St → Int32 → Int32 → Int32 → Option (Int32 × St)) (σ : St) (y2 : Int32) (y3 : Int32) (w0 : Int32) : Option (Int32 × St) :=
  lt_ (y3 + (f_X7_flag σ w0)) fun v4 =>
  k39 σ y2 v4 w0
set_option maxRecDepth 100000 in
set_option maxHeartbeats 4000000 in
theorem t_X7_keys_n95 {Γ : St → Nat → List (Nat × Value) → List Value → Prop} {l : Launch} {a : Nat → Nat} {r : Int32} {t' : St} (hC : Cx Γ l cX7_keys RX7 5 (some .int) Rm_X7_keys wM a (some (.int r)) t') (x1 : Int32) (k39 : St → Int32 → Int32 → Int32 → Option (Int32 × St)) (hk39 : ∀ (σ : St) (y2 : Int32) (y3 : Int32) (y4 : Int32), k39 σ y2 y3 y4 = some (r, t') → Γ σ 39 [(0, .ref (a 0)), (1, .int x1), (2, .int y2), (3, .int y3), (4, .int y4)] []) (σ : St) (y2 : Int32) (y3 : Int32) (w0 : Int32) (h : f_X7_keys_n95 x1 k39 σ y2 y3 w0 = some (r, t')) : Γ σ 95 [(0, .ref (a 0)), (1, .int x1), (2, .int y2), (3, .int y3)] [.int w0] := by
  unfold f_X7_keys_n95 at h
  refine r_istore (lv' := [(4, .int w0), (0, .ref (a 0)), (1, .int x1), (2, .int y2), (3, .int y3)]) hC dX7_keys_95 (by decide) rfl rfl ?_
  refine r_iload_n hC dX7_keys_97 rfl 4 rfl ?_
  refine r_iload hC dX7_keys_98 0 rfl ?_
  refine r_callS (As := [.int w0]) (rest := [.int y3]) hC (con_X7_flag l σ w0 rfl) K7_109 rfl rfl rfl ⟨Nat.le_of_ble_eq_true rfl, Nat.le_of_ble_eq_true rfl⟩ (Nat.le_of_ble_eq_true rfl) dX7_keys_100 ?_
  refine r_iadd hC dX7_keys_103 ?_
  obtain ⟨v4, ev4, h⟩ := lt_of h
  refine r_istore_n (lv' := [(3, .int v4), (4, .int w0), (0, .ref (a 0)), (1, .int x1), (2, .int y2)]) hC dX7_keys_104 rfl (by decide) ev4 rfl ?_
  refine r_goto hC 39 dX7_keys_105 (by decide) ?_
  refine r_sub hC [2, 3, 4, 0, 1] rfl ?_
  exact hk39 σ y2 v4 w0 h
def f_X7_keys_n124 (x1 : Int32) (σ : St) (y3 : Int32) (w1 : Int32) : Option (Int32 × St) :=
  (f_X7_enters σ (((f_X7_flag σ w1)).toInt64)).bind fun s1 =>
  if in_b x1 2 = true then
    (f_X7_enters s1 (((st_a s1 2 x1.toNatClampNeg)).toInt64)).bind fun s2 =>
    some (y3, s2)
  else none
set_option maxRecDepth 100000 in
set_option maxHeartbeats 4000000 in
theorem t_X7_keys_n124 {Γ : St → Nat → List (Nat × Value) → List Value → Prop} {l : Launch} {a : Nat → Nat} {r : Int32} {t' : St} (hC : Cx Γ l cX7_keys RX7 5 (some .int) Rm_X7_keys wM a (some (.int r)) t') (x1 : Int32) (σ : St) (y3 : Int32) (w1 : Int32) (h : f_X7_keys_n124 x1 σ y3 w1 = some (r, t')) : Γ σ 124 [(0, .ref (a 0)), (1, .int x1), (3, .int y3)] [.int w1, .ref (a 0)] := by
  unfold f_X7_keys_n124 at h
  refine r_callS (As := [.int w1]) (rest := [.ref (a 0)]) hC (con_X7_flag l σ w1 rfl) K7_109 rfl rfl rfl ⟨Nat.le_of_ble_eq_true rfl, Nat.le_of_ble_eq_true rfl⟩ (Nat.le_of_ble_eq_true rfl) dX7_keys_124 ?_
  refine r_i2l hC dX7_keys_127 ?_
  obtain ⟨s1, hs1, h⟩ := bind_of h
  refine r_callV (As := [.long (((f_X7_flag σ w1)).toInt64)]) (rest := []) hC (con_X7_enters l σ (((f_X7_flag σ w1)).toInt64) hs1) K7_145 (ob7 a σ) rfl rfl rfl rfl ⟨Nat.le_of_ble_eq_true rfl, Nat.le_of_ble_eq_true rfl⟩ (Nat.le_of_ble_eq_true rfl) dX7_keys_128 ?_
  refine r_aload_n hC dX7_keys_131 rfl 0 rfl ?_
  refine r_aload_n hC dX7_keys_132 rfl 0 rfl ?_
  refine G7_60 hC dX7_keys_133 ?_
  refine r_iload_n hC dX7_keys_136 rfl 1 rfl ?_
  obtain ⟨hi, h⟩ := inb_of h
  refine L_m_many hC hi dX7_keys_137 ?_
  refine r_i2l hC dX7_keys_138 ?_
  obtain ⟨s2, hs2, h⟩ := bind_of h
  refine r_callV (As := [.long (((st_a s1 2 x1.toNatClampNeg)).toInt64)]) (rest := []) hC (con_X7_enters l s1 (((st_a s1 2 x1.toNatClampNeg)).toInt64) hs2) K7_145 (ob7 a s1) rfl rfl rfl rfl ⟨Nat.le_of_ble_eq_true rfl, Nat.le_of_ble_eq_true rfl⟩ (Nat.le_of_ble_eq_true rfl) dX7_keys_139 ?_
  refine r_iload_n hC dX7_keys_142 rfl 2 rfl ?_
  exact r_iretS hC dX7_keys_143 h
def f_X7_keys_n108 (x1 : Int32) (σ : St) (y2 : Int32) (y3 : Int32) : Option (Int32 × St) :=
  lt_ (put_i σ 1 (0 : Int32)) fun s3 =>
  if y2 ≤ y3 then
    f_X7_keys_n124 x1 s3 y3 (0 : Int32)
  else
  f_X7_keys_n124 x1 s3 y3 (1 : Int32)
set_option maxRecDepth 100000 in
set_option maxHeartbeats 4000000 in
theorem t_X7_keys_n108 {Γ : St → Nat → List (Nat × Value) → List Value → Prop} {l : Launch} {a : Nat → Nat} {r : Int32} {t' : St} (hC : Cx Γ l cX7_keys RX7 5 (some .int) Rm_X7_keys wM a (some (.int r)) t') (x1 : Int32) (σ : St) (y2 : Int32) (y3 : Int32) (h : f_X7_keys_n108 x1 σ y2 y3 = some (r, t')) : Γ σ 108 [(0, .ref (a 0)), (1, .int x1), (2, .int y2), (3, .int y3)] [] := by
  unfold f_X7_keys_n108 at h
  refine r_aload_n hC dX7_keys_108 rfl 0 rfl ?_
  refine r_iconst (v := 0) hC dX7_keys_109 (by decide) ?_
  obtain ⟨s3, es3, h⟩ := lt_of h
  refine P7_11 hC es3 dX7_keys_110 ?_
  refine r_aload_n hC dX7_keys_113 rfl 0 rfl ?_
  refine r_iload_n hC dX7_keys_114 rfl 3 rfl ?_
  refine r_iload_n hC dX7_keys_115 rfl 2 rfl ?_
  refine r_icmp_ge hC 123 dX7_keys_116 (by decide) (fun q => ?_) (fun q => ?_)
  · replace h := if_p q h
    refine r_iconst (v := 0) hC dX7_keys_123 (by decide) ?_
    refine r_sub hC [0, 1, 3] rfl ?_
    exact t_X7_keys_n124 hC x1 s3 y3 (0 : Int32) h
  · replace h := if_n q h
    refine r_iconst (v := 1) hC dX7_keys_119 (by decide) ?_
    refine r_goto hC 124 dX7_keys_120 (by decide) ?_
    refine r_sub hC [0, 1, 3] rfl ?_
    exact t_X7_keys_n124 hC x1 s3 y3 (1 : Int32) h
def f_X7_keys_n39_b (x1 : Int32) (self : St → Int32 → Int32 → Int32 → Option (Int32 × St)) (σ : St) (y2 : Int32) (y3 : Int32) (y4 : Int32) : Option (Int32 × St) :=
  if y2 ≤ y3 then
    f_X7_keys_n108 x1 σ y2 y3
  else
  if y4 = 0 then
    f_X7_keys_n108 x1 σ y2 y3
  else
  if in_b y3 80 = true then
    if (st_a σ 8 y3.toNatClampNeg) = 0 then
      if in_b y3 80 = true then
        bind2 (f_X7_putsOne σ x1 (st_a σ 7 y3.toNatClampNeg)) fun v6 s5 =>
        if v6 < 0 then
          f_X7_keys_n95 x1 self s5 y2 y3 (0 : Int32)
        else
        f_X7_keys_n95 x1 self s5 y2 y3 (1 : Int32)
      else none
    else
    if in_b y3 80 = true then
      bind2 (f_X7_goes σ x1 (f_X7_printOf σ (st_a σ 7 y3.toNatClampNeg))) fun v8 s7 =>
      f_X7_keys_n95 x1 self s7 y2 y3 v8
    else none
  else none
def f_X7_keys_n39 (x1 : Int32) : Nat → St → Int32 → Int32 → Int32 → Option (Int32 × St)
  | 0 => fun _ _ _ _ => none
  | n + 1 => fun σ y2 y3 y4 => f_X7_keys_n39_b x1  (f_X7_keys_n39 x1  n) σ y2 y3 y4
set_option maxRecDepth 100000 in
set_option maxHeartbeats 4000000 in
theorem t_X7_keys_n39_b {Γ : St → Nat → List (Nat × Value) → List Value → Prop} {l : Launch} {a : Nat → Nat} {r : Int32} {t' : St} (hC : Cx Γ l cX7_keys RX7 5 (some .int) Rm_X7_keys wM a (some (.int r)) t') (x1 : Int32) (self : St → Int32 → Int32 → Int32 → Option (Int32 × St)) (hself : ∀ (σ : St) (y2 : Int32) (y3 : Int32) (y4 : Int32), self σ y2 y3 y4 = some (r, t') → Γ σ 39 [(0, .ref (a 0)), (1, .int x1), (2, .int y2), (3, .int y3), (4, .int y4)] []) (σ : St) (y2 : Int32) (y3 : Int32) (y4 : Int32) (h : f_X7_keys_n39_b x1 self σ y2 y3 y4 = some (r, t')) : Γ σ 39 [(0, .ref (a 0)), (1, .int x1), (2, .int y2), (3, .int y3), (4, .int y4)] [] := by
  unfold f_X7_keys_n39_b at h
  refine r_iload_n hC dX7_keys_39 rfl 3 rfl ?_
  refine r_iload_n hC dX7_keys_40 rfl 2 rfl ?_
  refine r_icmp_ge hC 108 dX7_keys_41 (by decide) (fun q => ?_) (fun q => ?_)
  · replace h := if_p q h
    refine r_sub hC [0, 1, 2, 3] rfl ?_
    exact t_X7_keys_n108 hC x1 σ y2 y3 h
  · replace h := if_n q h
    refine r_iload hC dX7_keys_44 4 rfl ?_
    refine r_if_eq hC 108 dX7_keys_46 (by decide) (fun q => ?_) (fun q => ?_)
    · replace h := if_p q h
      refine r_sub hC [0, 1, 2, 3] rfl ?_
      exact t_X7_keys_n108 hC x1 σ y2 y3 h
    · replace h := if_n q h
      refine r_aload_n hC dX7_keys_49 rfl 0 rfl ?_
      refine G7_78 hC dX7_keys_50 ?_
      refine r_iload_n hC dX7_keys_53 rfl 3 rfl ?_
      obtain ⟨hi, h⟩ := inb_of h
      refine L_m_readOut hC hi dX7_keys_54 ?_
      refine r_if_eq hC 76 dX7_keys_55 (by decide) (fun q => ?_) (fun q => ?_)
      · replace h := if_p q h
        refine r_aload_n hC dX7_keys_76 rfl 0 rfl ?_
        refine r_iload_n hC dX7_keys_77 rfl 1 rfl ?_
        refine r_aload_n hC dX7_keys_78 rfl 0 rfl ?_
        refine G7_75 hC dX7_keys_79 ?_
        refine r_iload_n hC dX7_keys_82 rfl 3 rfl ?_
        obtain ⟨hi, h⟩ := inb_of h
        refine L_m_readKey hC hi dX7_keys_83 ?_
        obtain ⟨v6, s5, hs5, h⟩ := bind2_of h
        refine r_callV (As := [.int x1, .int (st_a σ 7 y3.toNatClampNeg)]) (rest := []) hC (con_X7_putsOne l σ x1 (st_a σ 7 y3.toNatClampNeg) hs5) K7_159 (ob7 a σ) rfl rfl rfl rfl ⟨Nat.le_of_ble_eq_true rfl, Nat.le_of_ble_eq_true rfl⟩ (Nat.le_of_ble_eq_true rfl) dX7_keys_84 ?_
        refine r_if_lt hC 94 dX7_keys_87 (by decide) (fun q => ?_) (fun q => ?_)
        · replace h := if_p q h
          refine r_iconst (v := 0) hC dX7_keys_94 (by decide) ?_
          refine r_sub hC [0, 1, 2, 3] rfl ?_
          exact t_X7_keys_n95 hC x1 self hself s5 y2 y3 (0 : Int32) h
        · replace h := if_n q h
          refine r_iconst (v := 1) hC dX7_keys_90 (by decide) ?_
          refine r_goto hC 95 dX7_keys_91 (by decide) ?_
          refine r_sub hC [0, 1, 2, 3] rfl ?_
          exact t_X7_keys_n95 hC x1 self hself s5 y2 y3 (1 : Int32) h
      · replace h := if_n q h
        refine r_aload_n hC dX7_keys_58 rfl 0 rfl ?_
        refine r_iload_n hC dX7_keys_59 rfl 1 rfl ?_
        refine r_aload_n hC dX7_keys_60 rfl 0 rfl ?_
        refine r_aload_n hC dX7_keys_61 rfl 0 rfl ?_
        refine G7_75 hC dX7_keys_62 ?_
        refine r_iload_n hC dX7_keys_65 rfl 3 rfl ?_
        obtain ⟨hi, h⟩ := inb_of h
        refine L_m_readKey hC hi dX7_keys_66 ?_
        refine r_callV (As := [.int (st_a σ 7 y3.toNatClampNeg)]) (rest := [.int x1, .ref (a 0)]) hC (con_X7_printOf l σ (st_a σ 7 y3.toNatClampNeg) rfl) K7_142 (ob7 a σ) rfl rfl rfl rfl ⟨Nat.le_of_ble_eq_true rfl, Nat.le_of_ble_eq_true rfl⟩ (Nat.le_of_ble_eq_true rfl) dX7_keys_67 ?_
        obtain ⟨v8, s7, hs7, h⟩ := bind2_of h
        refine r_callV (As := [.int x1, .int (f_X7_printOf σ (st_a σ 7 y3.toNatClampNeg))]) (rest := []) hC (con_X7_goes l σ x1 (f_X7_printOf σ (st_a σ 7 y3.toNatClampNeg)) hs7) K7_169 (ob7 a σ) rfl rfl rfl rfl ⟨Nat.le_of_ble_eq_true rfl, Nat.le_of_ble_eq_true rfl⟩ (Nat.le_of_ble_eq_true rfl) dX7_keys_70 ?_
        refine r_goto hC 95 dX7_keys_73 (by decide) ?_
        refine r_sub hC [0, 1, 2, 3] rfl ?_
        exact t_X7_keys_n95 hC x1 self hself s7 y2 y3 v8 h
set_option maxRecDepth 100000 in
set_option maxHeartbeats 4000000 in
theorem t_X7_keys_n39 {Γ : St → Nat → List (Nat × Value) → List Value → Prop} {l : Launch} {a : Nat → Nat} {r : Int32} {t' : St} (hC : Cx Γ l cX7_keys RX7 5 (some .int) Rm_X7_keys wM a (some (.int r)) t') (x1 : Int32) (n : Nat) : ∀ (σ : St) (y2 : Int32) (y3 : Int32) (y4 : Int32), f_X7_keys_n39 x1 n σ y2 y3 y4 = some (r, t') → Γ σ 39 [(0, .ref (a 0)), (1, .int x1), (2, .int y2), (3, .int y3), (4, .int y4)] [] := by
  induction n with
  | zero =>
    intro σ y2 y3 y4  h
    have h : (none : Option (Int32 × St)) = some (r, t') := h
    cases h
  | succ n ih =>
    intro σ y2 y3 y4  h
    exact t_X7_keys_n39_b hC x1    (f_X7_keys_n39 x1  n) ih σ y2 y3 y4  h
def f_X7_keys (σ : St) (x1 : Int32) : Option (Int32 × St) :=
  lt_ (put_i σ 0 (0 : Int32)) fun s9 =>
  (f_X7_reads s9).bind fun s10 =>
  if (f_X7_isFile s10 x1) = 0 then
    some ((-1 : Int32), s10)
  else
  bind2 (f_X7_readsKeys s10) fun v12 s11 =>
  if 0 ≤ v12 then
    f_X7_keys_n39 x1 fuel s11 v12 (0 : Int32) (1 : Int32)
  else
  some (((-1 : Int32) - (st_i s11 3)), s11)
set_option maxRecDepth 100000 in
set_option maxHeartbeats 4000000 in
theorem con_X7_keys (l : Launch) (σ : St) (x1 : Int32) {r : Int32} {t' : St} (h : f_X7_keys σ x1 = some (r, t')) : Con l yX7_keys cX7_keys 5 (some .int) Rm_X7_keys wM (fun a => [.ref (a 0), .int x1]) σ (fun _ => some (.int r)) t' := by
  refine con_of (by decide) ⟨rfl, rfl⟩ (fun _ => Nat.le_of_ble_eq_true rfl) (fun Γ a hC => ?_)
  have hC : Cx Γ l cX7_keys RX7 5 (some .int) Rm_X7_keys wM a (some (.int r)) t' := hC
  show Γ σ 0 [(0, .ref (a 0)), (1, .int x1)] []
  unfold f_X7_keys at h
  refine r_aload_n hC dX7_keys_0 rfl 0 rfl ?_
  refine r_iconst (v := 0) hC dX7_keys_1 (by decide) ?_
  obtain ⟨s9, es9, h⟩ := lt_of h
  refine P7_1 hC es9 dX7_keys_2 ?_
  refine r_aload_n hC dX7_keys_5 rfl 0 rfl ?_
  obtain ⟨s10, hs10, h⟩ := bind_of h
  refine r_callV (As := []) (rest := []) hC (con_X7_reads l s9 hs10) K7_196 (ob7 a s9) rfl rfl rfl rfl ⟨Nat.le_of_ble_eq_true rfl, Nat.le_of_ble_eq_true rfl⟩ (Nat.le_of_ble_eq_true rfl) dX7_keys_6 ?_
  refine r_iload_n hC dX7_keys_9 rfl 1 rfl ?_
  refine r_callS (As := [.int x1]) (rest := []) hC (con_X7_isFile l s10 x1 rfl) K7_136 rfl rfl rfl ⟨Nat.le_of_ble_eq_true rfl, Nat.le_of_ble_eq_true rfl⟩ (Nat.le_of_ble_eq_true rfl) dX7_keys_10 ?_
  refine r_if_ne hC 18 dX7_keys_13 (by decide) (fun q => ?_) (fun q => ?_)
  · replace h := if_n q h
    refine r_aload_n hC dX7_keys_18 rfl 0 rfl ?_
    obtain ⟨v12, s11, hs11, h⟩ := bind2_of h
    refine r_callV (As := []) (rest := []) hC (con_X7_readsKeys l s10 hs11) K7_202 (ob7 a s10) rfl rfl rfl rfl ⟨Nat.le_of_ble_eq_true rfl, Nat.le_of_ble_eq_true rfl⟩ (Nat.le_of_ble_eq_true rfl) dX7_keys_19 ?_
    refine r_istore_n (lv' := [(2, .int v12), (0, .ref (a 0)), (1, .int x1)]) hC dX7_keys_22 rfl (by decide) rfl rfl ?_
    refine r_iload_n hC dX7_keys_23 rfl 0 rfl ?_
    refine r_if_ge hC 34 dX7_keys_24 (by decide) (fun q => ?_) (fun q => ?_)
    · replace h := if_p q h
      refine r_iconst (v := 0) hC dX7_keys_34 (by decide) ?_
      refine r_istore_n (lv' := [(3, .int (0 : Int32)), (2, .int v12), (0, .ref (a 0)), (1, .int x1)]) hC dX7_keys_35 rfl (by decide) rfl rfl ?_
      refine r_iconst (v := 1) hC dX7_keys_36 (by decide) ?_
      refine r_istore (lv' := [(4, .int (1 : Int32)), (3, .int (0 : Int32)), (2, .int v12), (0, .ref (a 0)), (1, .int x1)]) hC dX7_keys_37 (by decide) rfl rfl ?_
      refine r_sub hC [3, 4, 2, 1, 0] rfl ?_
      exact t_X7_keys_n39 hC x1 fuel s11 v12 (0 : Int32) (1 : Int32) h
    · replace h := if_n q h
      refine r_iconst (v := -1) hC dX7_keys_27 (by decide) ?_
      refine r_aload_n hC dX7_keys_28 rfl 1 rfl ?_
      refine G7_28 hC dX7_keys_29 ?_
      refine r_isub hC dX7_keys_32 ?_
      exact r_iretS hC dX7_keys_33 h
  · replace h := if_p q h
    refine r_iconst (v := -1) hC dX7_keys_16 (by decide) ?_
    exact r_iretS hC dX7_keys_17 h
abbrev Rm_X7_readsSlot : Room := { frames := 5, cells := 0, slots := 0, locals := 107 }
def f_X7_readsSlot_n69 (x1 : Int32) (σ : St) (y2 : Int32) : Option (Int32 × St) :=
  if y2 < ((1 : Int32) <<< (((st_i σ 5) - (st_i σ 8)) &&& 31)) then
    if in_b x1 64 = true then
      lt_ (put_a σ 10 x1.toNatClampNeg y2) fun s1 =>
      if y2 < 0 then
        some ((0 : Int32), s1)
      else
      some ((1 : Int32), s1)
    else none
  else
  lt_ (put_i σ 3 ((st_i σ 3) - (1 : Int32))) fun s2 =>
  some ((0 : Int32), s2)
set_option maxRecDepth 100000 in
set_option maxHeartbeats 4000000 in
theorem t_X7_readsSlot_n69 {Γ : St → Nat → List (Nat × Value) → List Value → Prop} {l : Launch} {a : Nat → Nat} {r : Int32} {t' : St} (hC : Cx Γ l cX7_readsSlot RX7 5 (some .boolean) Rm_X7_readsSlot wM a (some (.int r)) t') (x1 : Int32) (σ : St) (y2 : Int32) (h : f_X7_readsSlot_n69 x1 σ y2 = some (r, t')) : Γ σ 69 [(0, .ref (a 0)), (1, .int x1), (2, .int y2)] [] := by
  unfold f_X7_readsSlot_n69 at h
  refine r_iload_n hC dX7_readsSlot_69 rfl 2 rfl ?_
  refine r_iconst (v := 1) hC dX7_readsSlot_70 (by decide) ?_
  refine r_aload_n hC dX7_readsSlot_71 rfl 0 rfl ?_
  refine G7_47 hC dX7_readsSlot_72 ?_
  refine r_aload_n hC dX7_readsSlot_75 rfl 0 rfl ?_
  refine G7_221 hC dX7_readsSlot_76 ?_
  refine r_isub hC dX7_readsSlot_79 ?_
  refine r_ishl hC dX7_readsSlot_80 ?_
  refine r_icmp_lt hC 96 dX7_readsSlot_81 (by decide) (fun q => ?_) (fun q => ?_)
  · replace h := if_p q h
    refine r_aload_n hC dX7_readsSlot_96 rfl 0 rfl ?_
    refine G7_88 hC dX7_readsSlot_97 ?_
    refine r_iload_n hC dX7_readsSlot_100 rfl 1 rfl ?_
    refine r_iload_n hC dX7_readsSlot_101 rfl 2 rfl ?_
    obtain ⟨hi, h⟩ := inb_of h
    obtain ⟨s1, es1, h⟩ := lt_of h
    refine S_m_toldRemainder hC es1 hi dX7_readsSlot_102 ?_
    refine r_iload_n hC dX7_readsSlot_103 rfl 2 rfl ?_
    refine r_if_lt hC 111 dX7_readsSlot_104 (by decide) (fun q => ?_) (fun q => ?_)
    · replace h := if_p q h
      refine r_iconst (v := 0) hC dX7_readsSlot_111 (by decide) ?_
      exact r_zretS hC rfl dX7_readsSlot_112 h
    · replace h := if_n q h
      refine r_iconst (v := 1) hC dX7_readsSlot_107 (by decide) ?_
      refine r_goto hC 112 dX7_readsSlot_108 (by decide) ?_
      exact r_zretS hC rfl dX7_readsSlot_112 h
  · replace h := if_n q h
    refine r_aload_n hC dX7_readsSlot_84 rfl 0 rfl ?_
    refine r_dup hC dX7_readsSlot_85 rfl ?_
    refine G7_28 hC dX7_readsSlot_86 ?_
    refine r_iconst (v := 1) hC dX7_readsSlot_89 (by decide) ?_
    refine r_isub hC dX7_readsSlot_90 ?_
    obtain ⟨s2, es2, h⟩ := lt_of h
    refine P7_28 hC es2 dX7_readsSlot_91 ?_
    refine r_iconst (v := 0) hC dX7_readsSlot_94 (by decide) ?_
    exact r_zretS hC rfl dX7_readsSlot_95 h
def f_X7_readsSlot_n29_b (x1 : Int32) (self : St → Int32 → Int32 → Option (Int32 × St)) (σ : St) (y2 : Int32) (y3 : Int32) : Option (Int32 × St) :=
  if (3 : Int32) ≤ y3 then
    f_X7_readsSlot_n69 x1 σ y2
  else
  if y2 < 0 then
    f_X7_readsSlot_n69 x1 σ y2
  else
  bind2 (f_X7_takesOf σ 7) fun v4 s3 =>
  if 0 ≤ v4 then
    lt_ (((16 : Int32) * y2) + v4) fun v5 =>
    lt_ (y3 + (1 : Int32)) fun v6 =>
    self s3 v5 v6
  else
  lt_ (y3 + (1 : Int32)) fun v7 =>
  self s3 (-1 : Int32) v7
def f_X7_readsSlot_n29 (x1 : Int32) : Nat → St → Int32 → Int32 → Option (Int32 × St)
  | 0 => fun _ _ _ => none
  | n + 1 => fun σ y2 y3 => f_X7_readsSlot_n29_b x1  (f_X7_readsSlot_n29 x1  n) σ y2 y3
set_option maxRecDepth 100000 in
set_option maxHeartbeats 4000000 in
theorem t_X7_readsSlot_n29_b {Γ : St → Nat → List (Nat × Value) → List Value → Prop} {l : Launch} {a : Nat → Nat} {r : Int32} {t' : St} (hC : Cx Γ l cX7_readsSlot RX7 5 (some .boolean) Rm_X7_readsSlot wM a (some (.int r)) t') (x1 : Int32) (self : St → Int32 → Int32 → Option (Int32 × St)) (hself : ∀ (σ : St) (y2 : Int32) (y3 : Int32), self σ y2 y3 = some (r, t') → Γ σ 29 [(0, .ref (a 0)), (1, .int x1), (2, .int y2), (3, .int y3)] []) (σ : St) (y2 : Int32) (y3 : Int32) (h : f_X7_readsSlot_n29_b x1 self σ y2 y3 = some (r, t')) : Γ σ 29 [(0, .ref (a 0)), (1, .int x1), (2, .int y2), (3, .int y3)] [] := by
  unfold f_X7_readsSlot_n29_b at h
  refine r_iload_n hC dX7_readsSlot_29 rfl 3 rfl ?_
  refine r_iconst (v := 3) hC dX7_readsSlot_30 (by decide) ?_
  refine r_icmp_ge hC 69 dX7_readsSlot_31 (by decide) (fun q => ?_) (fun q => ?_)
  · replace h := if_p q h
    refine r_sub hC [0, 1, 2] rfl ?_
    exact t_X7_readsSlot_n69 hC x1 σ y2 h
  · replace h := if_n q h
    refine r_iload_n hC dX7_readsSlot_34 rfl 2 rfl ?_
    refine r_if_lt hC 69 dX7_readsSlot_35 (by decide) (fun q => ?_) (fun q => ?_)
    · replace h := if_p q h
      refine r_sub hC [0, 1, 2] rfl ?_
      exact t_X7_readsSlot_n69 hC x1 σ y2 h
    · replace h := if_n q h
      refine r_aload_n hC dX7_readsSlot_38 rfl 0 rfl ?_
      refine r_ldcS hC 7 (by decide) rfl rfl dX7_readsSlot_39 ?_
      obtain ⟨v4, s3, hs3, h⟩ := bind2_of h
      refine r_callV (As := [.ref (a (100 + 7))]) (rest := []) hC (con_X7_takesOf l σ 7 (by decide) hs3) K7_181 (ob7 a σ) rfl rfl rfl rfl ⟨Nat.le_of_ble_eq_true rfl, Nat.le_of_ble_eq_true rfl⟩ (Nat.le_of_ble_eq_true rfl) dX7_readsSlot_41 ?_
      refine r_istore (lv' := [(4, .int v4), (0, .ref (a 0)), (1, .int x1), (2, .int y2), (3, .int y3)]) hC dX7_readsSlot_44 (by decide) rfl rfl ?_
      refine r_iload hC dX7_readsSlot_46 0 rfl ?_
      refine r_if_ge hC 55 dX7_readsSlot_48 (by decide) (fun q => ?_) (fun q => ?_)
      · replace h := if_p q h
        refine r_bipush (v := 16) hC dX7_readsSlot_55 (by decide) ?_
        refine r_iload_n hC dX7_readsSlot_57 rfl 3 rfl ?_
        refine r_imul hC dX7_readsSlot_58 ?_
        refine r_iload hC dX7_readsSlot_59 0 rfl ?_
        refine r_iadd hC dX7_readsSlot_61 ?_
        obtain ⟨v5, ev5, h⟩ := lt_of h
        refine r_istore_n (lv' := [(2, .int v5), (4, .int v4), (0, .ref (a 0)), (1, .int x1), (3, .int y3)]) hC dX7_readsSlot_62 rfl (by decide) ev5 rfl ?_
        obtain ⟨v6, ev6, h⟩ := lt_of h
        refine r_iinc (c1 := 1) (lv' := [(3, .int v6), (2, .int v5), (4, .int v4), (0, .ref (a 0)), (1, .int x1)]) hC dX7_readsSlot_63 4 rfl (by decide) (by decide) ev6 rfl ?_
        refine r_goto hC 29 dX7_readsSlot_66 (by decide) ?_
        refine r_sub hC [3, 4, 1, 0] rfl ?_
        exact hself s3 v5 v6 h
      · replace h := if_n q h
        refine r_iconst (v := -1) hC dX7_readsSlot_51 (by decide) ?_
        refine r_goto hC 62 dX7_readsSlot_52 (by decide) ?_
        refine r_istore_n (lv' := [(2, .int (-1 : Int32)), (4, .int v4), (0, .ref (a 0)), (1, .int x1), (3, .int y3)]) hC dX7_readsSlot_62 rfl (by decide) rfl rfl ?_
        obtain ⟨v7, ev7, h⟩ := lt_of h
        refine r_iinc (c1 := 1) (lv' := [(3, .int v7), (2, .int (-1 : Int32)), (4, .int v4), (0, .ref (a 0)), (1, .int x1)]) hC dX7_readsSlot_63 4 rfl (by decide) (by decide) ev7 rfl ?_
        refine r_goto hC 29 dX7_readsSlot_66 (by decide) ?_
        refine r_sub hC [3, 4, 1, 0] rfl ?_
        exact hself s3 (-1 : Int32) v7 h
set_option maxRecDepth 100000 in
set_option maxHeartbeats 4000000 in
theorem t_X7_readsSlot_n29 {Γ : St → Nat → List (Nat × Value) → List Value → Prop} {l : Launch} {a : Nat → Nat} {r : Int32} {t' : St} (hC : Cx Γ l cX7_readsSlot RX7 5 (some .boolean) Rm_X7_readsSlot wM a (some (.int r)) t') (x1 : Int32) (n : Nat) : ∀ (σ : St) (y2 : Int32) (y3 : Int32), f_X7_readsSlot_n29 x1 n σ y2 y3 = some (r, t') → Γ σ 29 [(0, .ref (a 0)), (1, .int x1), (2, .int y2), (3, .int y3)] [] := by
  induction n with
  | zero =>
    intro σ y2 y3  h
    have h : (none : Option (Int32 × St)) = some (r, t') := h
    cases h
  | succ n ih =>
    intro σ y2 y3  h
    exact t_X7_readsSlot_n29_b hC x1    (f_X7_readsSlot_n29 x1  n) ih σ y2 y3  h
def f_X7_readsSlot (σ : St) (x1 : Int32) : Option (Int32 × St) :=
  bind2 (f_X7_takesOf σ 6) fun v9 s8 =>
  if in_b x1 64 = true then
    lt_ (put_a s8 9 x1.toNatClampNeg v9) fun s10 =>
    if in_b x1 64 = true then
      if 0 ≤ (st_a s10 9 x1.toNatClampNeg) then
        f_X7_readsSlot_n29 x1 fuel s10 (0 : Int32) (0 : Int32)
      else
      f_X7_readsSlot_n29 x1 fuel s10 (-1 : Int32) (0 : Int32)
    else none
  else none
set_option maxRecDepth 100000 in
set_option maxHeartbeats 4000000 in
theorem con_X7_readsSlot (l : Launch) (σ : St) (x1 : Int32) {r : Int32} {t' : St} (h : f_X7_readsSlot σ x1 = some (r, t')) : Con l yX7_readsSlot cX7_readsSlot 5 (some .boolean) Rm_X7_readsSlot wM (fun a => [.ref (a 0), .int x1]) σ (fun _ => some (.int r)) t' := by
  refine con_of (by decide) ⟨rfl, rfl⟩ (fun _ => Nat.le_of_ble_eq_true rfl) (fun Γ a hC => ?_)
  have hC : Cx Γ l cX7_readsSlot RX7 5 (some .boolean) Rm_X7_readsSlot wM a (some (.int r)) t' := hC
  show Γ σ 0 [(0, .ref (a 0)), (1, .int x1)] []
  unfold f_X7_readsSlot at h
  refine r_aload_n hC dX7_readsSlot_0 rfl 0 rfl ?_
  refine G7_85 hC dX7_readsSlot_1 ?_
  refine r_iload_n hC dX7_readsSlot_4 rfl 1 rfl ?_
  refine r_aload_n hC dX7_readsSlot_5 rfl 0 rfl ?_
  refine r_ldcS hC 6 (by decide) rfl rfl dX7_readsSlot_6 ?_
  obtain ⟨v9, s8, hs8, h⟩ := bind2_of h
  refine r_callV (As := [.ref (a (100 + 6))]) (rest := [.int x1, .ref (a 12)]) hC (con_X7_takesOf l σ 6 (by decide) hs8) K7_181 (ob7 a σ) rfl rfl rfl rfl ⟨Nat.le_of_ble_eq_true rfl, Nat.le_of_ble_eq_true rfl⟩ (Nat.le_of_ble_eq_true rfl) dX7_readsSlot_8 ?_
  obtain ⟨hi, h⟩ := inb_of h
  obtain ⟨s10, es10, h⟩ := lt_of h
  refine S_m_toldMarks hC es10 hi dX7_readsSlot_11 ?_
  refine r_aload_n hC dX7_readsSlot_12 rfl 0 rfl ?_
  refine G7_85 hC dX7_readsSlot_13 ?_
  refine r_iload_n hC dX7_readsSlot_16 rfl 1 rfl ?_
  obtain ⟨hi, h⟩ := inb_of h
  refine L_m_toldMarks hC hi dX7_readsSlot_17 ?_
  refine r_if_ge hC 25 dX7_readsSlot_18 (by decide) (fun q => ?_) (fun q => ?_)
  · replace h := if_p q h
    refine r_iconst (v := 0) hC dX7_readsSlot_25 (by decide) ?_
    refine r_istore_n (lv' := [(2, .int (0 : Int32)), (0, .ref (a 0)), (1, .int x1)]) hC dX7_readsSlot_26 rfl (by decide) rfl rfl ?_
    refine r_iconst (v := 0) hC dX7_readsSlot_27 (by decide) ?_
    refine r_istore_n (lv' := [(3, .int (0 : Int32)), (2, .int (0 : Int32)), (0, .ref (a 0)), (1, .int x1)]) hC dX7_readsSlot_28 rfl (by decide) rfl rfl ?_
    refine r_sub hC [2, 3, 1, 0] rfl ?_
    exact t_X7_readsSlot_n29 hC x1 fuel s10 (0 : Int32) (0 : Int32) h
  · replace h := if_n q h
    refine r_iconst (v := -1) hC dX7_readsSlot_21 (by decide) ?_
    refine r_goto hC 26 dX7_readsSlot_22 (by decide) ?_
    refine r_istore_n (lv' := [(2, .int (-1 : Int32)), (0, .ref (a 0)), (1, .int x1)]) hC dX7_readsSlot_26 rfl (by decide) rfl rfl ?_
    refine r_iconst (v := 0) hC dX7_readsSlot_27 (by decide) ?_
    refine r_istore_n (lv' := [(3, .int (0 : Int32)), (2, .int (-1 : Int32)), (0, .ref (a 0)), (1, .int x1)]) hC dX7_readsSlot_28 rfl (by decide) rfl rfl ?_
    refine r_sub hC [2, 3, 1, 0] rfl ?_
    exact t_X7_readsSlot_n29 hC x1 fuel s10 (-1 : Int32) (0 : Int32) h
abbrev Rm_X7_readsFile : Room := { frames := 6, cells := 0, slots := 0, locals := 131 }
def f_X7_readsFile_n24_b (self : St → Int32 → Option (Int32 × St)) (σ : St) (y1 : Int32) : Option (Int32 × St) :=
  if ((1 : Int32) <<< ((st_i σ 8) &&& 31)) ≤ y1 then
    if (st_i σ 3) = (st_i σ 4) then
      some ((1 : Int32), σ)
    else
    some ((0 : Int32), σ)
  else
  bind2 (f_X7_readsSlot σ y1) fun v2 s1 =>
  if v2 = 0 then
    some ((0 : Int32), s1)
  else
  lt_ (y1 + (1 : Int32)) fun v3 =>
  self s1 v3
def f_X7_readsFile_n24 : Nat → St → Int32 → Option (Int32 × St)
  | 0 => fun _ _ => none
  | n + 1 => fun σ y1 => f_X7_readsFile_n24_b   (f_X7_readsFile_n24   n) σ y1
set_option maxRecDepth 100000 in
set_option maxHeartbeats 4000000 in
theorem t_X7_readsFile_n24_b {Γ : St → Nat → List (Nat × Value) → List Value → Prop} {l : Launch} {a : Nat → Nat} {r : Int32} {t' : St} (hC : Cx Γ l cX7_readsFile RX7 2 (some .boolean) Rm_X7_readsFile wM a (some (.int r)) t') (self : St → Int32 → Option (Int32 × St)) (hself : ∀ (σ : St) (y1 : Int32), self σ y1 = some (r, t') → Γ σ 24 [(0, .ref (a 0)), (1, .int y1)] []) (σ : St) (y1 : Int32) (h : f_X7_readsFile_n24_b self σ y1 = some (r, t')) : Γ σ 24 [(0, .ref (a 0)), (1, .int y1)] [] := by
  unfold f_X7_readsFile_n24_b at h
  refine r_iload_n hC dX7_readsFile_24 rfl 1 rfl ?_
  refine r_iconst (v := 1) hC dX7_readsFile_25 (by decide) ?_
  refine r_aload_n hC dX7_readsFile_26 rfl 0 rfl ?_
  refine G7_221 hC dX7_readsFile_27 ?_
  refine r_ishl hC dX7_readsFile_30 ?_
  refine r_icmp_ge hC 50 dX7_readsFile_31 (by decide) (fun q => ?_) (fun q => ?_)
  · replace h := if_p q h
    refine r_aload_n hC dX7_readsFile_50 rfl 0 rfl ?_
    refine G7_28 hC dX7_readsFile_51 ?_
    refine r_aload_n hC dX7_readsFile_54 rfl 0 rfl ?_
    refine G7_25 hC dX7_readsFile_55 ?_
    refine r_icmp_ne hC 65 dX7_readsFile_58 (by decide) (fun q => ?_) (fun q => ?_)
    · replace h := if_n q h
      refine r_iconst (v := 0) hC dX7_readsFile_65 (by decide) ?_
      exact r_zretS hC rfl dX7_readsFile_66 h
    · replace h := if_p q h
      refine r_iconst (v := 1) hC dX7_readsFile_61 (by decide) ?_
      refine r_goto hC 66 dX7_readsFile_62 (by decide) ?_
      exact r_zretS hC rfl dX7_readsFile_66 h
  · replace h := if_n q h
    refine r_aload_n hC dX7_readsFile_34 rfl 0 rfl ?_
    refine r_iload_n hC dX7_readsFile_35 rfl 1 rfl ?_
    obtain ⟨v2, s1, hs1, h⟩ := bind2_of h
    refine r_callV (As := [.int y1]) (rest := []) hC (con_X7_readsSlot l σ y1 hs1) K7_238 (ob7 a σ) rfl rfl rfl rfl ⟨Nat.le_of_ble_eq_true rfl, Nat.le_of_ble_eq_true rfl⟩ (Nat.le_of_ble_eq_true rfl) dX7_readsFile_36 ?_
    refine r_if_ne hC 44 dX7_readsFile_39 (by decide) (fun q => ?_) (fun q => ?_)
    · replace h := if_n q h
      obtain ⟨v3, ev3, h⟩ := lt_of h
      refine r_iinc (c1 := 1) (lv' := [(1, .int v3), (0, .ref (a 0))]) hC dX7_readsFile_44 1 rfl (by decide) (by decide) ev3 rfl ?_
      refine r_goto hC 24 dX7_readsFile_47 (by decide) ?_
      refine r_sub hC [1, 0] rfl ?_
      exact hself s1 v3 h
    · replace h := if_p q h
      refine r_iconst (v := 0) hC dX7_readsFile_42 (by decide) ?_
      exact r_zretS hC rfl dX7_readsFile_43 h
set_option maxRecDepth 100000 in
set_option maxHeartbeats 4000000 in
theorem t_X7_readsFile_n24 {Γ : St → Nat → List (Nat × Value) → List Value → Prop} {l : Launch} {a : Nat → Nat} {r : Int32} {t' : St} (hC : Cx Γ l cX7_readsFile RX7 2 (some .boolean) Rm_X7_readsFile wM a (some (.int r)) t') (n : Nat) : ∀ (σ : St) (y1 : Int32), f_X7_readsFile_n24 n σ y1 = some (r, t') → Γ σ 24 [(0, .ref (a 0)), (1, .int y1)] [] := by
  induction n with
  | zero =>
    intro σ y1  h
    have h : (none : Option (Int32 × St)) = some (r, t') := h
    cases h
  | succ n ih =>
    intro σ y1  h
    exact t_X7_readsFile_n24_b hC     (f_X7_readsFile_n24   n) ih σ y1  h
def f_X7_readsFile (σ : St) : Option (Int32 × St) :=
  bind2 (f_X7_takesOf σ 5) fun v5 s4 =>
  lt_ (put_i s4 8 (v5 + (3 : Int32))) fun s6 =>
  if (3 : Int32) ≤ (st_i s6 8) then
    f_X7_readsFile_n24 fuel s6 (0 : Int32)
  else
  some ((0 : Int32), s6)
set_option maxRecDepth 100000 in
set_option maxHeartbeats 4000000 in
theorem con_X7_readsFile (l : Launch) (σ : St) {r : Int32} {t' : St} (h : f_X7_readsFile σ = some (r, t')) : Con l yX7_readsFile cX7_readsFile 2 (some .boolean) Rm_X7_readsFile wM (fun a => [.ref (a 0)]) σ (fun _ => some (.int r)) t' := by
  refine con_of (by decide) ⟨rfl, rfl⟩ (fun _ => Nat.le_of_ble_eq_true rfl) (fun Γ a hC => ?_)
  have hC : Cx Γ l cX7_readsFile RX7 2 (some .boolean) Rm_X7_readsFile wM a (some (.int r)) t' := hC
  show Γ σ 0 [(0, .ref (a 0))] []
  unfold f_X7_readsFile at h
  refine r_aload_n hC dX7_readsFile_0 rfl 0 rfl ?_
  refine r_aload_n hC dX7_readsFile_1 rfl 0 rfl ?_
  refine r_ldcS hC 5 (by decide) rfl rfl dX7_readsFile_2 ?_
  obtain ⟨v5, s4, hs4, h⟩ := bind2_of h
  refine r_callV (As := [.ref (a (100 + 5))]) (rest := [.ref (a 0)]) hC (con_X7_takesOf l σ 5 (by decide) hs4) K7_181 (ob7 a σ) rfl rfl rfl rfl ⟨Nat.le_of_ble_eq_true rfl, Nat.le_of_ble_eq_true rfl⟩ (Nat.le_of_ble_eq_true rfl) dX7_readsFile_4 ?_
  refine r_iconst (v := 3) hC dX7_readsFile_7 (by decide) ?_
  refine r_iadd hC dX7_readsFile_8 ?_
  obtain ⟨s6, es6, h⟩ := lt_of h
  refine P7_221 hC es6 dX7_readsFile_9 ?_
  refine r_aload_n hC dX7_readsFile_12 rfl 0 rfl ?_
  refine G7_221 hC dX7_readsFile_13 ?_
  refine r_iconst (v := 3) hC dX7_readsFile_16 (by decide) ?_
  refine r_icmp_ge hC 22 dX7_readsFile_17 (by decide) (fun q => ?_) (fun q => ?_)
  · replace h := if_p q h
    refine r_iconst (v := 0) hC dX7_readsFile_22 (by decide) ?_
    refine r_istore_n (lv' := [(1, .int (0 : Int32)), (0, .ref (a 0))]) hC dX7_readsFile_23 rfl (by decide) rfl rfl ?_
    refine r_sub hC [1, 0] rfl ?_
    exact t_X7_readsFile_n24 hC fuel s6 (0 : Int32) h
  · replace h := if_n q h
    refine r_iconst (v := 0) hC dX7_readsFile_20 (by decide) ?_
    exact r_zretS hC rfl dX7_readsFile_21 h
abbrev Rm_X7_lays : Room := { frames := 7, cells := 0, slots := 0, locals := 152 }
def f_X7_lays (σ : St) (x1 : Int32) : Option (Int32 × St) :=
  lt_ (put_i σ 0 (0 : Int32)) fun s1 =>
  (f_X7_reads s1).bind fun s2 =>
  if (f_X7_isFile s2 x1) = 0 then
    some ((-1 : Int32), s2)
  else
  bind2 (f_X7_readsFile s2) fun v4 s3 =>
  if v4 = 0 then
    some (((-1 : Int32) - (st_i s3 3)), s3)
  else
  bind2 (f_X7_takesTold s3 x1) fun v6 s5 =>
  some (v6, s5)
set_option maxRecDepth 100000 in
set_option maxHeartbeats 4000000 in
theorem con_X7_lays (l : Launch) (σ : St) (x1 : Int32) {r : Int32} {t' : St} (h : f_X7_lays σ x1 = some (r, t')) : Con l yX7_lays cX7_lays 2 (some .int) Rm_X7_lays wM (fun a => [.ref (a 0), .int x1]) σ (fun _ => some (.int r)) t' := by
  refine con_of (by decide) ⟨rfl, rfl⟩ (fun _ => Nat.le_of_ble_eq_true rfl) (fun Γ a hC => ?_)
  have hC : Cx Γ l cX7_lays RX7 2 (some .int) Rm_X7_lays wM a (some (.int r)) t' := hC
  show Γ σ 0 [(0, .ref (a 0)), (1, .int x1)] []
  unfold f_X7_lays at h
  refine r_aload_n hC dX7_lays_0 rfl 0 rfl ?_
  refine r_iconst (v := 0) hC dX7_lays_1 (by decide) ?_
  obtain ⟨s1, es1, h⟩ := lt_of h
  refine P7_1 hC es1 dX7_lays_2 ?_
  refine r_aload_n hC dX7_lays_5 rfl 0 rfl ?_
  obtain ⟨s2, hs2, h⟩ := bind_of h
  refine r_callV (As := []) (rest := []) hC (con_X7_reads l s1 hs2) K7_196 (ob7 a s1) rfl rfl rfl rfl ⟨Nat.le_of_ble_eq_true rfl, Nat.le_of_ble_eq_true rfl⟩ (Nat.le_of_ble_eq_true rfl) dX7_lays_6 ?_
  refine r_iload_n hC dX7_lays_9 rfl 1 rfl ?_
  refine r_callS (As := [.int x1]) (rest := []) hC (con_X7_isFile l s2 x1 rfl) K7_136 rfl rfl rfl ⟨Nat.le_of_ble_eq_true rfl, Nat.le_of_ble_eq_true rfl⟩ (Nat.le_of_ble_eq_true rfl) dX7_lays_10 ?_
  refine r_if_ne hC 18 dX7_lays_13 (by decide) (fun q => ?_) (fun q => ?_)
  · replace h := if_n q h
    refine r_aload_n hC dX7_lays_18 rfl 0 rfl ?_
    obtain ⟨v4, s3, hs3, h⟩ := bind2_of h
    refine r_callV (As := []) (rest := []) hC (con_X7_readsFile l s2 hs3) K7_259 (ob7 a s2) rfl rfl rfl rfl ⟨Nat.le_of_ble_eq_true rfl, Nat.le_of_ble_eq_true rfl⟩ (Nat.le_of_ble_eq_true rfl) dX7_lays_19 ?_
    refine r_if_ne hC 32 dX7_lays_22 (by decide) (fun q => ?_) (fun q => ?_)
    · replace h := if_n q h
      refine r_aload_n hC dX7_lays_32 rfl 0 rfl ?_
      refine r_iload_n hC dX7_lays_33 rfl 1 rfl ?_
      obtain ⟨v6, s5, hs5, h⟩ := bind2_of h
      refine r_callV (As := [.int x1]) (rest := []) hC (con_X7_takesTold l s3 x1 hs5) K7_229 (ob7 a s3) rfl rfl rfl rfl ⟨Nat.le_of_ble_eq_true rfl, Nat.le_of_ble_eq_true rfl⟩ (Nat.le_of_ble_eq_true rfl) dX7_lays_34 ?_
      exact r_iretS hC dX7_lays_37 h
    · replace h := if_p q h
      refine r_iconst (v := -1) hC dX7_lays_25 (by decide) ?_
      refine r_aload_n hC dX7_lays_26 rfl 0 rfl ?_
      refine G7_28 hC dX7_lays_27 ?_
      refine r_isub hC dX7_lays_30 ?_
      exact r_iretS hC dX7_lays_31 h
  · replace h := if_p q h
    refine r_iconst (v := -1) hC dX7_lays_16 (by decide) ?_
    exact r_iretS hC dX7_lays_17 h
abbrev Rm_X7_wrongs : Room := { frames := 7, cells := 0, slots := 0, locals := 152 }
def f_X7_wrongs_n156 (x1 : Int32) (k123 : St → Int32 → Int32 → Int32 → Int32 → Int32 → Option (Int32 × St)) (σ : St) (y4 : Int32) (y5 : Int32) (y6 : Int32) (y8 : Int32) (w0 : Int32) (w1 : Int32) : Option (Int32 × St) :=
  lt_ (w0 + (f_X7_flag σ w1)) fun v13 =>
  lt_ (y8 + (1 : Int32)) fun v14 =>
  k123 σ y4 y5 y6 v13 v14
set_option maxRecDepth 100000 in
set_option maxHeartbeats 4000000 in
theorem t_X7_wrongs_n156 {Γ : St → Nat → List (Nat × Value) → List Value → Prop} {l : Launch} {a : Nat → Nat} {r : Int32} {t' : St} (hC : Cx Γ l cX7_wrongs RX7 9 (some .int) Rm_X7_wrongs wM a (some (.int r)) t') (x1 : Int32) (k123 : St → Int32 → Int32 → Int32 → Int32 → Int32 → Option (Int32 × St)) (hk123 : ∀ (σ : St) (y4 : Int32) (y5 : Int32) (y6 : Int32) (y7 : Int32) (y8 : Int32), k123 σ y4 y5 y6 y7 y8 = some (r, t') → Γ σ 123 [(0, .ref (a 0)), (1, .int x1), (4, .int y4), (5, .int y5), (6, .int y6), (7, .int y7), (8, .int y8)] []) (σ : St) (y4 : Int32) (y5 : Int32) (y6 : Int32) (y8 : Int32) (w0 : Int32) (w1 : Int32) (h : f_X7_wrongs_n156 x1 k123 σ y4 y5 y6 y8 w0 w1 = some (r, t')) : Γ σ 156 [(0, .ref (a 0)), (1, .int x1), (4, .int y4), (5, .int y5), (6, .int y6), (8, .int y8)] [.int w1, .int w0] := by
  unfold f_X7_wrongs_n156 at h
  refine r_callS (As := [.int w1]) (rest := [.int w0]) hC (con_X7_flag l σ w1 rfl) K7_109 rfl rfl rfl ⟨Nat.le_of_ble_eq_true rfl, Nat.le_of_ble_eq_true rfl⟩ (Nat.le_of_ble_eq_true rfl) dX7_wrongs_156 ?_
  refine r_iadd hC dX7_wrongs_159 ?_
  obtain ⟨v13, ev13, h⟩ := lt_of h
  refine r_istore (lv' := [(7, .int v13), (0, .ref (a 0)), (1, .int x1), (4, .int y4), (5, .int y5), (6, .int y6), (8, .int y8)]) hC dX7_wrongs_160 (by decide) ev13 rfl ?_
  obtain ⟨v14, ev14, h⟩ := lt_of h
  refine r_iinc (c1 := 1) (lv' := [(8, .int v14), (7, .int v13), (0, .ref (a 0)), (1, .int x1), (4, .int y4), (5, .int y5), (6, .int y6)]) hC dX7_wrongs_162 6 rfl (by decide) (by decide) ev14 rfl ?_
  refine r_goto hC 123 dX7_wrongs_165 (by decide) ?_
  refine r_sub hC [2, 3, 4, 5, 6, 1, 0] rfl ?_
  exact hk123 σ y4 y5 y6 v13 v14 h
def f_X7_wrongs_n123_b (x1 : Int32) (self : St → Int32 → Int32 → Int32 → Int32 → Int32 → Option (Int32 × St)) (σ : St) (y4 : Int32) (y5 : Int32) (y6 : Int32) (y7 : Int32) (y8 : Int32) : Option (Int32 × St) :=
  if y4 ≤ y8 then
    lt_ (put_i σ 1 (0 : Int32)) fun s9 =>
    (f_X7_enters s9 (y6.toInt64)).bind fun s10 =>
    (f_X7_enters s10 (y7.toInt64)).bind fun s11 =>
    some (y5, s11)
  else
  if in_b y8 80 = true then
    (f_X7_countOf σ x1 (f_X7_printOf σ (st_a σ 7 y8.toNatClampNeg))).bind fun v12 =>
    if v12 = 0 then
      f_X7_wrongs_n156 x1 self σ y4 y5 y6 y8 y7 (1 : Int32)
    else
    f_X7_wrongs_n156 x1 self σ y4 y5 y6 y8 y7 (0 : Int32)
  else none
def f_X7_wrongs_n123 (x1 : Int32) : Nat → St → Int32 → Int32 → Int32 → Int32 → Int32 → Option (Int32 × St)
  | 0 => fun _ _ _ _ _ _ => none
  | n + 1 => fun σ y4 y5 y6 y7 y8 => f_X7_wrongs_n123_b x1  (f_X7_wrongs_n123 x1  n) σ y4 y5 y6 y7 y8
set_option maxRecDepth 100000 in
set_option maxHeartbeats 4000000 in
theorem t_X7_wrongs_n123_b {Γ : St → Nat → List (Nat × Value) → List Value → Prop} {l : Launch} {a : Nat → Nat} {r : Int32} {t' : St} (hC : Cx Γ l cX7_wrongs RX7 9 (some .int) Rm_X7_wrongs wM a (some (.int r)) t') (x1 : Int32) (self : St → Int32 → Int32 → Int32 → Int32 → Int32 → Option (Int32 × St)) (hself : ∀ (σ : St) (y4 : Int32) (y5 : Int32) (y6 : Int32) (y7 : Int32) (y8 : Int32), self σ y4 y5 y6 y7 y8 = some (r, t') → Γ σ 123 [(0, .ref (a 0)), (1, .int x1), (4, .int y4), (5, .int y5), (6, .int y6), (7, .int y7), (8, .int y8)] []) (σ : St) (y4 : Int32) (y5 : Int32) (y6 : Int32) (y7 : Int32) (y8 : Int32) (h : f_X7_wrongs_n123_b x1 self σ y4 y5 y6 y7 y8 = some (r, t')) : Γ σ 123 [(0, .ref (a 0)), (1, .int x1), (4, .int y4), (5, .int y5), (6, .int y6), (7, .int y7), (8, .int y8)] [] := by
  unfold f_X7_wrongs_n123_b at h
  refine r_iload hC dX7_wrongs_123 6 rfl ?_
  refine r_iload hC dX7_wrongs_125 2 rfl ?_
  refine r_icmp_ge hC 168 dX7_wrongs_127 (by decide) (fun q => ?_) (fun q => ?_)
  · replace h := if_p q h
    refine r_aload_n hC dX7_wrongs_168 rfl 0 rfl ?_
    refine r_iconst (v := 0) hC dX7_wrongs_169 (by decide) ?_
    obtain ⟨s9, es9, h⟩ := lt_of h
    refine P7_11 hC es9 dX7_wrongs_170 ?_
    refine r_aload_n hC dX7_wrongs_173 rfl 0 rfl ?_
    refine r_iload hC dX7_wrongs_174 4 rfl ?_
    refine r_i2l hC dX7_wrongs_176 ?_
    obtain ⟨s10, hs10, h⟩ := bind_of h
    refine r_callV (As := [.long (y6.toInt64)]) (rest := []) hC (con_X7_enters l s9 (y6.toInt64) hs10) K7_145 (ob7 a s9) rfl rfl rfl rfl ⟨Nat.le_of_ble_eq_true rfl, Nat.le_of_ble_eq_true rfl⟩ (Nat.le_of_ble_eq_true rfl) dX7_wrongs_177 ?_
    refine r_aload_n hC dX7_wrongs_180 rfl 0 rfl ?_
    refine r_iload hC dX7_wrongs_181 5 rfl ?_
    refine r_i2l hC dX7_wrongs_183 ?_
    obtain ⟨s11, hs11, h⟩ := bind_of h
    refine r_callV (As := [.long (y7.toInt64)]) (rest := []) hC (con_X7_enters l s10 (y7.toInt64) hs11) K7_145 (ob7 a s10) rfl rfl rfl rfl ⟨Nat.le_of_ble_eq_true rfl, Nat.le_of_ble_eq_true rfl⟩ (Nat.le_of_ble_eq_true rfl) dX7_wrongs_184 ?_
    refine r_iload hC dX7_wrongs_187 3 rfl ?_
    exact r_iretS hC dX7_wrongs_189 h
  · replace h := if_n q h
    refine r_iload hC dX7_wrongs_130 5 rfl ?_
    refine r_aload_n hC dX7_wrongs_132 rfl 0 rfl ?_
    refine r_iload_n hC dX7_wrongs_133 rfl 1 rfl ?_
    refine r_aload_n hC dX7_wrongs_134 rfl 0 rfl ?_
    refine r_aload_n hC dX7_wrongs_135 rfl 0 rfl ?_
    refine G7_75 hC dX7_wrongs_136 ?_
    refine r_iload hC dX7_wrongs_139 6 rfl ?_
    obtain ⟨hi, h⟩ := inb_of h
    refine L_m_readKey hC hi dX7_wrongs_141 ?_
    refine r_callV (As := [.int (st_a σ 7 y8.toNatClampNeg)]) (rest := [.int x1, .ref (a 0), .int y7]) hC (con_X7_printOf l σ (st_a σ 7 y8.toNatClampNeg) rfl) K7_142 (ob7 a σ) rfl rfl rfl rfl ⟨Nat.le_of_ble_eq_true rfl, Nat.le_of_ble_eq_true rfl⟩ (Nat.le_of_ble_eq_true rfl) dX7_wrongs_142 ?_
    obtain ⟨v12, hv12, h⟩ := bind_of h
    refine r_callV (As := [.int x1, .int (f_X7_printOf σ (st_a σ 7 y8.toNatClampNeg))]) (rest := [.int y7]) hC (con_X7_countOf l σ x1 (f_X7_printOf σ (st_a σ 7 y8.toNatClampNeg)) hv12) K7_173 (ob7 a σ) rfl rfl rfl rfl ⟨Nat.le_of_ble_eq_true rfl, Nat.le_of_ble_eq_true rfl⟩ (Nat.le_of_ble_eq_true rfl) dX7_wrongs_145 ?_
    refine r_if_ne hC 155 dX7_wrongs_148 (by decide) (fun q => ?_) (fun q => ?_)
    · replace h := if_n q h
      refine r_iconst (v := 0) hC dX7_wrongs_155 (by decide) ?_
      refine r_sub hC [0, 1, 2, 3, 4, 6] rfl ?_
      exact t_X7_wrongs_n156 hC x1 self hself σ y4 y5 y6 y8 y7 (0 : Int32) h
    · replace h := if_p q h
      refine r_iconst (v := 1) hC dX7_wrongs_151 (by decide) ?_
      refine r_goto hC 156 dX7_wrongs_152 (by decide) ?_
      refine r_sub hC [0, 1, 2, 3, 4, 6] rfl ?_
      exact t_X7_wrongs_n156 hC x1 self hself σ y4 y5 y6 y8 y7 (1 : Int32) h
set_option maxRecDepth 100000 in
set_option maxHeartbeats 4000000 in
theorem t_X7_wrongs_n123 {Γ : St → Nat → List (Nat × Value) → List Value → Prop} {l : Launch} {a : Nat → Nat} {r : Int32} {t' : St} (hC : Cx Γ l cX7_wrongs RX7 9 (some .int) Rm_X7_wrongs wM a (some (.int r)) t') (x1 : Int32) (n : Nat) : ∀ (σ : St) (y4 : Int32) (y5 : Int32) (y6 : Int32) (y7 : Int32) (y8 : Int32), f_X7_wrongs_n123 x1 n σ y4 y5 y6 y7 y8 = some (r, t') → Γ σ 123 [(0, .ref (a 0)), (1, .int x1), (4, .int y4), (5, .int y5), (6, .int y6), (7, .int y7), (8, .int y8)] [] := by
  induction n with
  | zero =>
    intro σ y4 y5 y6 y7 y8  h
    have h : (none : Option (Int32 × St)) = some (r, t') := h
    cases h
  | succ n ih =>
    intro σ y4 y5 y6 y7 y8  h
    exact t_X7_wrongs_n123_b hC x1    (f_X7_wrongs_n123 x1  n) ih σ y4 y5 y6 y7 y8  h
def f_X7_wrongs_n74_b (x1 : Int32) (self : St → Int32 → Int32 → Int32 → Int32 → Option (Int32 × St)) (σ : St) (y4 : Int32) (y5 : Int32) (y6 : Int32) (y7 : Int32) : Option (Int32 × St) :=
  if y7 < 0 then
    f_X7_wrongs_n123 x1 fuel σ y4 y5 y6 (0 : Int32) (0 : Int32)
  else
  (f_X7_countOf σ x1 (f_X7_printOf σ y7)).bind fun v3 =>
  if v3 ≤ 0 then
    lt_ (y7 + (-1 : Int32)) fun v4 =>
    self σ y4 y5 y6 v4
  else
  (f_X7_isRead σ y7 y4).bind fun v5 =>
  if v5 = 0 then
    lt_ (y5 + (1 : Int32)) fun v7 =>
    lt_ (y7 + (-1 : Int32)) fun v8 =>
    self σ y4 v7 y7 v8
  else
  lt_ (y7 + (-1 : Int32)) fun v6 =>
  self σ y4 y5 y6 v6
def f_X7_wrongs_n74 (x1 : Int32) : Nat → St → Int32 → Int32 → Int32 → Int32 → Option (Int32 × St)
  | 0 => fun _ _ _ _ _ => none
  | n + 1 => fun σ y4 y5 y6 y7 => f_X7_wrongs_n74_b x1  (f_X7_wrongs_n74 x1  n) σ y4 y5 y6 y7
set_option maxRecDepth 100000 in
set_option maxHeartbeats 4000000 in
theorem t_X7_wrongs_n74_b {Γ : St → Nat → List (Nat × Value) → List Value → Prop} {l : Launch} {a : Nat → Nat} {r : Int32} {t' : St} (hC : Cx Γ l cX7_wrongs RX7 9 (some .int) Rm_X7_wrongs wM a (some (.int r)) t') (x1 : Int32) (self : St → Int32 → Int32 → Int32 → Int32 → Option (Int32 × St)) (hself : ∀ (σ : St) (y4 : Int32) (y5 : Int32) (y6 : Int32) (y7 : Int32), self σ y4 y5 y6 y7 = some (r, t') → Γ σ 74 [(0, .ref (a 0)), (1, .int x1), (4, .int y4), (5, .int y5), (6, .int y6), (7, .int y7)] []) (σ : St) (y4 : Int32) (y5 : Int32) (y6 : Int32) (y7 : Int32) (h : f_X7_wrongs_n74_b x1 self σ y4 y5 y6 y7 = some (r, t')) : Γ σ 74 [(0, .ref (a 0)), (1, .int x1), (4, .int y4), (5, .int y5), (6, .int y6), (7, .int y7)] [] := by
  unfold f_X7_wrongs_n74_b at h
  refine r_iload hC dX7_wrongs_74 5 rfl ?_
  refine r_if_lt hC 117 dX7_wrongs_76 (by decide) (fun q => ?_) (fun q => ?_)
  · replace h := if_p q h
    refine r_iconst (v := 0) hC dX7_wrongs_117 (by decide) ?_
    refine r_istore (lv' := [(7, .int (0 : Int32)), (0, .ref (a 0)), (1, .int x1), (4, .int y4), (5, .int y5), (6, .int y6)]) hC dX7_wrongs_118 (by decide) rfl rfl ?_
    refine r_iconst (v := 0) hC dX7_wrongs_120 (by decide) ?_
    refine r_istore (lv' := [(8, .int (0 : Int32)), (7, .int (0 : Int32)), (0, .ref (a 0)), (1, .int x1), (4, .int y4), (5, .int y5), (6, .int y6)]) hC dX7_wrongs_121 (by decide) rfl rfl ?_
    refine r_sub hC [2, 3, 4, 5, 6, 1, 0] rfl ?_
    exact t_X7_wrongs_n123 hC x1 fuel σ y4 y5 y6 (0 : Int32) (0 : Int32) h
  · replace h := if_n q h
    refine r_aload_n hC dX7_wrongs_79 rfl 0 rfl ?_
    refine r_iload_n hC dX7_wrongs_80 rfl 1 rfl ?_
    refine r_aload_n hC dX7_wrongs_81 rfl 0 rfl ?_
    refine r_iload hC dX7_wrongs_82 5 rfl ?_
    refine r_callV (As := [.int y7]) (rest := [.int x1, .ref (a 0)]) hC (con_X7_printOf l σ y7 rfl) K7_142 (ob7 a σ) rfl rfl rfl rfl ⟨Nat.le_of_ble_eq_true rfl, Nat.le_of_ble_eq_true rfl⟩ (Nat.le_of_ble_eq_true rfl) dX7_wrongs_84 ?_
    obtain ⟨v3, hv3, h⟩ := bind_of h
    refine r_callV (As := [.int x1, .int (f_X7_printOf σ y7)]) (rest := []) hC (con_X7_countOf l σ x1 (f_X7_printOf σ y7) hv3) K7_173 (ob7 a σ) rfl rfl rfl rfl ⟨Nat.le_of_ble_eq_true rfl, Nat.le_of_ble_eq_true rfl⟩ (Nat.le_of_ble_eq_true rfl) dX7_wrongs_87 ?_
    refine r_if_le hC 111 dX7_wrongs_90 (by decide) (fun q => ?_) (fun q => ?_)
    · replace h := if_p q h
      obtain ⟨v4, ev4, h⟩ := lt_of h
      refine r_iinc (c1 := (-1)) (lv' := [(7, .int v4), (0, .ref (a 0)), (1, .int x1), (4, .int y4), (5, .int y5), (6, .int y6)]) hC dX7_wrongs_111 5 rfl (by decide) (by decide) ev4 rfl ?_
      refine r_goto hC 74 dX7_wrongs_114 (by decide) ?_
      refine r_sub hC [1, 2, 3, 4, 5, 0] rfl ?_
      exact hself σ y4 y5 y6 v4 h
    · replace h := if_n q h
      refine r_aload_n hC dX7_wrongs_93 rfl 0 rfl ?_
      refine r_iload hC dX7_wrongs_94 5 rfl ?_
      refine r_iload hC dX7_wrongs_96 2 rfl ?_
      obtain ⟨v5, hv5, h⟩ := bind_of h
      refine r_callV (As := [.int y7, .int y4]) (rest := []) hC (con_X7_isRead l σ y7 y4 hv5) K7_205 (ob7 a σ) rfl rfl rfl rfl ⟨Nat.le_of_ble_eq_true rfl, Nat.le_of_ble_eq_true rfl⟩ (Nat.le_of_ble_eq_true rfl) dX7_wrongs_98 ?_
      refine r_if_ne hC 111 dX7_wrongs_101 (by decide) (fun q => ?_) (fun q => ?_)
      · replace h := if_n q h
        obtain ⟨v6, ev6, h⟩ := lt_of h
        refine r_iinc (c1 := (-1)) (lv' := [(7, .int v6), (0, .ref (a 0)), (1, .int x1), (4, .int y4), (5, .int y5), (6, .int y6)]) hC dX7_wrongs_111 5 rfl (by decide) (by decide) ev6 rfl ?_
        refine r_goto hC 74 dX7_wrongs_114 (by decide) ?_
        refine r_sub hC [1, 2, 3, 4, 5, 0] rfl ?_
        exact hself σ y4 y5 y6 v6 h
      · replace h := if_p q h
        obtain ⟨v7, ev7, h⟩ := lt_of h
        refine r_iinc (c1 := 1) (lv' := [(5, .int v7), (0, .ref (a 0)), (1, .int x1), (4, .int y4), (6, .int y6), (7, .int y7)]) hC dX7_wrongs_104 3 rfl (by decide) (by decide) ev7 rfl ?_
        refine r_iload hC dX7_wrongs_107 5 rfl ?_
        refine r_istore (lv' := [(6, .int y7), (5, .int v7), (0, .ref (a 0)), (1, .int x1), (4, .int y4), (7, .int y7)]) hC dX7_wrongs_109 (by decide) rfl rfl ?_
        obtain ⟨v8, ev8, h⟩ := lt_of h
        refine r_iinc (c1 := (-1)) (lv' := [(7, .int v8), (6, .int y7), (5, .int v7), (0, .ref (a 0)), (1, .int x1), (4, .int y4)]) hC dX7_wrongs_111 5 rfl (by decide) (by decide) ev8 rfl ?_
        refine r_goto hC 74 dX7_wrongs_114 (by decide) ?_
        refine r_sub hC [3, 4, 5, 2, 1, 0] rfl ?_
        exact hself σ y4 v7 y7 v8 h
set_option maxRecDepth 100000 in
set_option maxHeartbeats 4000000 in
theorem t_X7_wrongs_n74 {Γ : St → Nat → List (Nat × Value) → List Value → Prop} {l : Launch} {a : Nat → Nat} {r : Int32} {t' : St} (hC : Cx Γ l cX7_wrongs RX7 9 (some .int) Rm_X7_wrongs wM a (some (.int r)) t') (x1 : Int32) (n : Nat) : ∀ (σ : St) (y4 : Int32) (y5 : Int32) (y6 : Int32) (y7 : Int32), f_X7_wrongs_n74 x1 n σ y4 y5 y6 y7 = some (r, t') → Γ σ 74 [(0, .ref (a 0)), (1, .int x1), (4, .int y4), (5, .int y5), (6, .int y6), (7, .int y7)] [] := by
  induction n with
  | zero =>
    intro σ y4 y5 y6 y7  h
    have h : (none : Option (Int32 × St)) = some (r, t') := h
    cases h
  | succ n ih =>
    intro σ y4 y5 y6 y7  h
    exact t_X7_wrongs_n74_b hC x1    (f_X7_wrongs_n74 x1  n) ih σ y4 y5 y6 y7  h
def f_X7_wrongs_n40 (x1 : Int32) (σ : St) (w0 : Int32) : Option (Int32 × St) :=
  bind2 (f_X7_readsKeys σ) fun v2 s1 =>
  if v2 < 0 then
    some (((-1 : Int32) - (st_i s1 3)), s1)
  else
  if w0 = 0 then
    f_X7_wrongs_n74 x1 fuel s1 v2 (0 : Int32) (-1 : Int32) (999 : Int32)
  else
  some (((-1 : Int32) - (st_i s1 3)), s1)
set_option maxRecDepth 100000 in
set_option maxHeartbeats 4000000 in
theorem t_X7_wrongs_n40 {Γ : St → Nat → List (Nat × Value) → List Value → Prop} {l : Launch} {a : Nat → Nat} {r : Int32} {t' : St} (hC : Cx Γ l cX7_wrongs RX7 9 (some .int) Rm_X7_wrongs wM a (some (.int r)) t') (x1 : Int32) (σ : St) (w0 : Int32) (h : f_X7_wrongs_n40 x1 σ w0 = some (r, t')) : Γ σ 40 [(0, .ref (a 0)), (1, .int x1)] [.int w0] := by
  unfold f_X7_wrongs_n40 at h
  refine r_istore_n (lv' := [(3, .int w0), (0, .ref (a 0)), (1, .int x1)]) hC dX7_wrongs_40 rfl (by decide) rfl rfl ?_
  refine r_aload_n hC dX7_wrongs_41 rfl 1 rfl ?_
  obtain ⟨v2, s1, hs1, h⟩ := bind2_of h
  refine r_callV (As := []) (rest := []) hC (con_X7_readsKeys l σ hs1) K7_202 (ob7 a σ) rfl rfl rfl rfl ⟨Nat.le_of_ble_eq_true rfl, Nat.le_of_ble_eq_true rfl⟩ (Nat.le_of_ble_eq_true rfl) dX7_wrongs_42 ?_
  refine r_istore (lv' := [(4, .int v2), (3, .int w0), (0, .ref (a 0)), (1, .int x1)]) hC dX7_wrongs_45 (by decide) rfl rfl ?_
  refine r_iload hC dX7_wrongs_47 0 rfl ?_
  refine r_if_lt hC 56 dX7_wrongs_49 (by decide) (fun q => ?_) (fun q => ?_)
  · replace h := if_p q h
    refine r_iconst (v := -1) hC dX7_wrongs_56 (by decide) ?_
    refine r_aload_n hC dX7_wrongs_57 rfl 2 rfl ?_
    refine G7_28 hC dX7_wrongs_58 ?_
    refine r_isub hC dX7_wrongs_61 ?_
    exact r_iretS hC dX7_wrongs_62 h
  · replace h := if_n q h
    refine r_iload_n hC dX7_wrongs_52 rfl 1 rfl ?_
    refine r_if_eq hC 63 dX7_wrongs_53 (by decide) (fun q => ?_) (fun q => ?_)
    · replace h := if_p q h
      refine r_iconst (v := 0) hC dX7_wrongs_63 (by decide) ?_
      refine r_istore (lv' := [(5, .int (0 : Int32)), (4, .int v2), (3, .int w0), (0, .ref (a 0)), (1, .int x1)]) hC dX7_wrongs_64 (by decide) rfl rfl ?_
      refine r_iconst (v := -1) hC dX7_wrongs_66 (by decide) ?_
      refine r_istore (lv' := [(6, .int (-1 : Int32)), (5, .int (0 : Int32)), (4, .int v2), (3, .int w0), (0, .ref (a 0)), (1, .int x1)]) hC dX7_wrongs_67 (by decide) rfl rfl ?_
      refine r_sipush (v := 999) hC dX7_wrongs_69 (by decide) ?_
      refine r_istore (lv' := [(7, .int (999 : Int32)), (6, .int (-1 : Int32)), (5, .int (0 : Int32)), (4, .int v2), (3, .int w0), (0, .ref (a 0)), (1, .int x1)]) hC dX7_wrongs_72 (by decide) rfl rfl ?_
      refine r_sub hC [5, 6, 3, 2, 1, 0] rfl ?_
      exact t_X7_wrongs_n74 hC x1 fuel s1 v2 (0 : Int32) (-1 : Int32) (999 : Int32) h
    · replace h := if_n q h
      refine r_iconst (v := -1) hC dX7_wrongs_56 (by decide) ?_
      refine r_aload_n hC dX7_wrongs_57 rfl 2 rfl ?_
      refine G7_28 hC dX7_wrongs_58 ?_
      refine r_isub hC dX7_wrongs_61 ?_
      exact r_iretS hC dX7_wrongs_62 h
def f_X7_wrongs (σ : St) (x1 : Int32) : Option (Int32 × St) :=
  lt_ (put_i σ 0 (0 : Int32)) fun s15 =>
  (f_X7_reads s15).bind fun s16 =>
  if (f_X7_isFile s16 x1) = 0 then
    some ((-1 : Int32), s16)
  else
  lt_ (st_i s16 4) fun v17 =>
  (f_X7_endsAtOut s16).bind fun s18 =>
  if v17 ≤ (st_i s18 4) then
    f_X7_wrongs_n40 x1 s18 (0 : Int32)
  else
  f_X7_wrongs_n40 x1 s18 (1 : Int32)
set_option maxRecDepth 100000 in
set_option maxHeartbeats 4000000 in
theorem con_X7_wrongs (l : Launch) (σ : St) (x1 : Int32) {r : Int32} {t' : St} (h : f_X7_wrongs σ x1 = some (r, t')) : Con l yX7_wrongs cX7_wrongs 9 (some .int) Rm_X7_wrongs wM (fun a => [.ref (a 0), .int x1]) σ (fun _ => some (.int r)) t' := by
  refine con_of (by decide) ⟨rfl, rfl⟩ (fun _ => Nat.le_of_ble_eq_true rfl) (fun Γ a hC => ?_)
  have hC : Cx Γ l cX7_wrongs RX7 9 (some .int) Rm_X7_wrongs wM a (some (.int r)) t' := hC
  show Γ σ 0 [(0, .ref (a 0)), (1, .int x1)] []
  unfold f_X7_wrongs at h
  refine r_aload_n hC dX7_wrongs_0 rfl 0 rfl ?_
  refine r_iconst (v := 0) hC dX7_wrongs_1 (by decide) ?_
  obtain ⟨s15, es15, h⟩ := lt_of h
  refine P7_1 hC es15 dX7_wrongs_2 ?_
  refine r_aload_n hC dX7_wrongs_5 rfl 0 rfl ?_
  obtain ⟨s16, hs16, h⟩ := bind_of h
  refine r_callV (As := []) (rest := []) hC (con_X7_reads l s15 hs16) K7_196 (ob7 a s15) rfl rfl rfl rfl ⟨Nat.le_of_ble_eq_true rfl, Nat.le_of_ble_eq_true rfl⟩ (Nat.le_of_ble_eq_true rfl) dX7_wrongs_6 ?_
  refine r_iload_n hC dX7_wrongs_9 rfl 1 rfl ?_
  refine r_callS (As := [.int x1]) (rest := []) hC (con_X7_isFile l s16 x1 rfl) K7_136 rfl rfl rfl ⟨Nat.le_of_ble_eq_true rfl, Nat.le_of_ble_eq_true rfl⟩ (Nat.le_of_ble_eq_true rfl) dX7_wrongs_10 ?_
  refine r_if_ne hC 18 dX7_wrongs_13 (by decide) (fun q => ?_) (fun q => ?_)
  · replace h := if_n q h
    refine r_aload_n hC dX7_wrongs_18 rfl 0 rfl ?_
    refine G7_25 hC dX7_wrongs_19 ?_
    obtain ⟨v17, ev17, h⟩ := lt_of h
    refine r_istore_n (lv' := [(2, .int v17), (0, .ref (a 0)), (1, .int x1)]) hC dX7_wrongs_22 rfl (by decide) ev17 rfl ?_
    refine r_aload_n hC dX7_wrongs_23 rfl 1 rfl ?_
    obtain ⟨s18, hs18, h⟩ := bind_of h
    refine r_callV (As := []) (rest := []) hC (con_X7_endsAtOut l s16 hs18) K7_199 (ob7 a s16) rfl rfl rfl rfl ⟨Nat.le_of_ble_eq_true rfl, Nat.le_of_ble_eq_true rfl⟩ (Nat.le_of_ble_eq_true rfl) dX7_wrongs_24 ?_
    refine r_aload_n hC dX7_wrongs_27 rfl 1 rfl ?_
    refine G7_25 hC dX7_wrongs_28 ?_
    refine r_iload_n hC dX7_wrongs_31 rfl 0 rfl ?_
    refine r_icmp_ge hC 39 dX7_wrongs_32 (by decide) (fun q => ?_) (fun q => ?_)
    · replace h := if_p q h
      refine r_iconst (v := 0) hC dX7_wrongs_39 (by decide) ?_
      refine r_sub hC [1, 2] rfl ?_
      exact t_X7_wrongs_n40 hC x1 s18 (0 : Int32) h
    · replace h := if_n q h
      refine r_iconst (v := 1) hC dX7_wrongs_35 (by decide) ?_
      refine r_goto hC 40 dX7_wrongs_36 (by decide) ?_
      refine r_sub hC [1, 2] rfl ?_
      exact t_X7_wrongs_n40 hC x1 s18 (1 : Int32) h
  · replace h := if_p q h
    refine r_iconst (v := -1) hC dX7_wrongs_16 (by decide) ?_
    exact r_iretS hC dX7_wrongs_17 h
