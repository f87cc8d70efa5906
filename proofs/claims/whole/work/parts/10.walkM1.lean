abbrev Rm_X7_in : Room := { frames := 0, cells := 0, slots := 0, locals := 0 }
def f_X7_in (σ : St) (x0 : Int64) (x2 : Int64) (x4 : Int64) : Int32 :=
  if (lg_cmp x0 x2) < 0 then
    (0 : Int32)
  else
  if 0 < (lg_cmp x0 x4) then
    (0 : Int32)
  else
  (1 : Int32)
set_option maxRecDepth 100000 in
set_option maxHeartbeats 4000000 in
theorem con_X7_in (l : Launch) (σ : St) (x0 : Int64) (x2 : Int64) (x4 : Int64) {r : Int32} (h : f_X7_in σ x0 x2 x4 = r) : Con l yX7_in cX7_in 6 (some .boolean) Rm_X7_in wM (fun a => [.long x0, .long x2, .long x4]) σ (fun _ => some (.int r)) σ := by
  refine con_of (by decide) ⟨rfl, rfl⟩ (fun _ => Nat.le_of_ble_eq_true rfl) (fun Γ a hC => ?_)
  have hC : Cx Γ l cX7_in RX7 6 (some .boolean) Rm_X7_in wM a (some (.int r)) σ := hC
  show Γ σ 0 [(0, .long x0), (2, .long x2), (4, .long x4)] []
  unfold f_X7_in at h
  refine r_lload_n hC dX7_in_0 rfl 0 rfl ?_
  refine r_lload_n hC dX7_in_1 rfl 1 rfl ?_
  refine r_lcmp hC dX7_in_2 ?_
  refine r_if_lt hC 17 dX7_in_3 (by decide) (fun q => ?_) (fun q => ?_)
  · replace h := if_p q h
    refine r_iconst (v := 0) hC dX7_in_17 (by decide) ?_
    exact r_zretT hC rfl dX7_in_18 h
  · replace h := if_n q h
    refine r_lload_n hC dX7_in_6 rfl 0 rfl ?_
    refine r_lload hC dX7_in_7 2 rfl ?_
    refine r_lcmp hC dX7_in_9 ?_
    refine r_if_gt hC 17 dX7_in_10 (by decide) (fun q => ?_) (fun q => ?_)
    · replace h := if_p q h
      refine r_iconst (v := 0) hC dX7_in_17 (by decide) ?_
      exact r_zretT hC rfl dX7_in_18 h
    · replace h := if_n q h
      refine r_iconst (v := 1) hC dX7_in_13 (by decide) ?_
      refine r_goto hC 18 dX7_in_14 (by decide) ?_
      exact r_zretT hC rfl dX7_in_18 h
theorem NAR_in (σ : St) (x y z : Int64) : narrow .boolean (.int (f_X7_in σ x y z)) = .int (f_X7_in σ x y z) := by
  refine nar01 ?_
  unfold f_X7_in
  repeat' split
  all_goals first | exact Or.inl rfl | exact Or.inr rfl
abbrev Rm_X7_isFile : Room := { frames := 1, cells := 0, slots := 0, locals := 25 }
def f_X7_isFile (σ : St) (x0 : Int32) : Int32 :=
  (f_X7_in σ (x0.toInt64) (0 : Int64) (1 : Int64))
set_option maxRecDepth 100000 in
set_option maxHeartbeats 4000000 in
theorem con_X7_isFile (l : Launch) (σ : St) (x0 : Int32) {r : Int32} (h : f_X7_isFile σ x0 = r) : Con l yX7_isFile cX7_isFile 1 (some .boolean) Rm_X7_isFile wM (fun a => [.int x0]) σ (fun _ => some (.int r)) σ := by
  refine con_of (by decide) ⟨rfl, rfl⟩ (fun _ => Nat.le_of_ble_eq_true rfl) (fun Γ a hC => ?_)
  have hC : Cx Γ l cX7_isFile RX7 1 (some .boolean) Rm_X7_isFile wM a (some (.int r)) σ := hC
  show Γ σ 0 [(0, .int x0)] []
  unfold f_X7_isFile at h
  refine r_iload_n hC dX7_isFile_0 rfl 0 rfl ?_
  refine r_i2l hC dX7_isFile_1 ?_
  refine r_lconst (v := 0) hC dX7_isFile_2 (by decide) ?_
  refine r_lconst (v := 1) hC dX7_isFile_3 (by decide) ?_
  refine r_callS (As := [.long (x0.toInt64), .long (0 : Int64), .long (1 : Int64)]) (rest := []) hC (con_X7_in l σ (x0.toInt64) (0 : Int64) (1 : Int64) rfl) K7_21 rfl rfl rfl ⟨Nat.le_of_ble_eq_true rfl, Nat.le_of_ble_eq_true rfl⟩ (Nat.le_of_ble_eq_true rfl) dX7_isFile_4 ?_
  have hzz : narrow .boolean (.int (f_X7_in σ (x0.toInt64) (0 : Int64) (1 : Int64))) = .int (f_X7_in σ (x0.toInt64) (0 : Int64) (1 : Int64)) := NAR_in _ _ _ _
  exact r_zretT hC hzz dX7_isFile_7 h
abbrev Rm_X7_at : Room := { frames := 0, cells := 0, slots := 0, locals := 0 }
def f_X7_at (σ : St) (x1 : Int32) (x2 : Int32) : Option Int32 :=
  if in_b (((64 : Int32) * x1) + x2) 128 = true then
    some (st_a σ 3 (((64 : Int32) * x1) + x2).toNatClampNeg)
  else none
set_option maxRecDepth 100000 in
set_option maxHeartbeats 4000000 in
theorem con_X7_at (l : Launch) (σ : St) (x1 : Int32) (x2 : Int32) {r : Int32} (h : f_X7_at σ x1 x2 = some r) : Con l yX7_at cX7_at 3 (some .int) Rm_X7_at wM (fun a => [.ref (a 0), .int x1, .int x2]) σ (fun _ => some (.int r)) σ := by
  refine con_of (by decide) ⟨rfl, rfl⟩ (fun _ => Nat.le_of_ble_eq_true rfl) (fun Γ a hC => ?_)
  have hC : Cx Γ l cX7_at RX7 3 (some .int) Rm_X7_at wM a (some (.int r)) σ := hC
  show Γ σ 0 [(0, .ref (a 0)), (1, .int x1), (2, .int x2)] []
  unfold f_X7_at at h
  refine r_aload_n hC dX7_at_0 rfl 0 rfl ?_
  refine G7_63 hC dX7_at_1 ?_
  refine r_bipush (v := 64) hC dX7_at_4 (by decide) ?_
  refine r_iload_n hC dX7_at_6 rfl 1 rfl ?_
  refine r_imul hC dX7_at_7 ?_
  refine r_iload_n hC dX7_at_8 rfl 2 rfl ?_
  refine r_iadd hC dX7_at_9 ?_
  obtain ⟨hi, h⟩ := inb_of h
  refine L_m_print hC hi dX7_at_10 ?_
  exact r_iretP hC dX7_at_11 h
abbrev Rm_X7_slots : Room := { frames := 0, cells := 0, slots := 0, locals := 0 }
def f_X7_slots (σ : St) (x1 : Int32) : Option Int32 :=
  if in_b x1 2 = true then
    some ((1 : Int32) <<< ((st_a σ 1 x1.toNatClampNeg) &&& 31))
  else none
set_option maxRecDepth 100000 in
set_option maxHeartbeats 4000000 in
theorem con_X7_slots (l : Launch) (σ : St) (x1 : Int32) {r : Int32} (h : f_X7_slots σ x1 = some r) : Con l yX7_slots cX7_slots 2 (some .int) Rm_X7_slots wM (fun a => [.ref (a 0), .int x1]) σ (fun _ => some (.int r)) σ := by
  refine con_of (by decide) ⟨rfl, rfl⟩ (fun _ => Nat.le_of_ble_eq_true rfl) (fun Γ a hC => ?_)
  have hC : Cx Γ l cX7_slots RX7 2 (some .int) Rm_X7_slots wM a (some (.int r)) σ := hC
  show Γ σ 0 [(0, .ref (a 0)), (1, .int x1)] []
  unfold f_X7_slots at h
  refine r_iconst (v := 1) hC dX7_slots_0 (by decide) ?_
  refine r_aload_n hC dX7_slots_1 rfl 0 rfl ?_
  refine G7_57 hC dX7_slots_2 ?_
  refine r_iload_n hC dX7_slots_5 rfl 1 rfl ?_
  obtain ⟨hi, h⟩ := inb_of h
  refine L_m_q hC hi dX7_slots_6 ?_
  refine r_ishl hC dX7_slots_7 ?_
  exact r_iretP hC dX7_slots_8 h
abbrev Rm_X7_rest : Room := { frames := 0, cells := 0, slots := 0, locals := 0 }
def f_X7_rest (σ : St) (x1 : Int32) : Option Int32 :=
  if in_b x1 2 = true then
    some ((st_i σ 5) - (st_a σ 1 x1.toNatClampNeg))
  else none
set_option maxRecDepth 100000 in
set_option maxHeartbeats 4000000 in
theorem con_X7_rest (l : Launch) (σ : St) (x1 : Int32) {r : Int32} (h : f_X7_rest σ x1 = some r) : Con l yX7_rest cX7_rest 2 (some .int) Rm_X7_rest wM (fun a => [.ref (a 0), .int x1]) σ (fun _ => some (.int r)) σ := by
  refine con_of (by decide) ⟨rfl, rfl⟩ (fun _ => Nat.le_of_ble_eq_true rfl) (fun Γ a hC => ?_)
  have hC : Cx Γ l cX7_rest RX7 2 (some .int) Rm_X7_rest wM a (some (.int r)) σ := hC
  show Γ σ 0 [(0, .ref (a 0)), (1, .int x1)] []
  unfold f_X7_rest at h
  refine r_aload_n hC dX7_rest_0 rfl 0 rfl ?_
  refine G7_47 hC dX7_rest_1 ?_
  refine r_aload_n hC dX7_rest_4 rfl 0 rfl ?_
  refine G7_57 hC dX7_rest_5 ?_
  refine r_iload_n hC dX7_rest_8 rfl 1 rfl ?_
  obtain ⟨hi, h⟩ := inb_of h
  refine L_m_q hC hi dX7_rest_9 ?_
  refine r_isub hC dX7_rest_10 ?_
  exact r_iretP hC dX7_rest_11 h
abbrev Rm_X7_quotientOf : Room := { frames := 1, cells := 0, slots := 0, locals := 21 }
def f_X7_quotientOf (σ : St) (x1 : Int32) (x2 : Int32) : Option Int32 :=
  (f_X7_rest σ x1).bind fun v1 =>
  some (x2 >>> (v1 &&& 31))
set_option maxRecDepth 100000 in
set_option maxHeartbeats 4000000 in
theorem con_X7_quotientOf (l : Launch) (σ : St) (x1 : Int32) (x2 : Int32) {r : Int32} (h : f_X7_quotientOf σ x1 x2 = some r) : Con l yX7_quotientOf cX7_quotientOf 3 (some .int) Rm_X7_quotientOf wM (fun a => [.ref (a 0), .int x1, .int x2]) σ (fun _ => some (.int r)) σ := by
  refine con_of (by decide) ⟨rfl, rfl⟩ (fun _ => Nat.le_of_ble_eq_true rfl) (fun Γ a hC => ?_)
  have hC : Cx Γ l cX7_quotientOf RX7 3 (some .int) Rm_X7_quotientOf wM a (some (.int r)) σ := hC
  show Γ σ 0 [(0, .ref (a 0)), (1, .int x1), (2, .int x2)] []
  unfold f_X7_quotientOf at h
  refine r_iload_n hC dX7_quotientOf_0 rfl 2 rfl ?_
  refine r_aload_n hC dX7_quotientOf_1 rfl 0 rfl ?_
  refine r_iload_n hC dX7_quotientOf_2 rfl 1 rfl ?_
  obtain ⟨v1, hv1, h⟩ := bind_of h
  refine r_callV (As := [.int x1]) (rest := [.int x2]) hC (con_X7_rest l σ x1 hv1) K7_102 (ob7 a σ) rfl rfl rfl rfl ⟨Nat.le_of_ble_eq_true rfl, Nat.le_of_ble_eq_true rfl⟩ (Nat.le_of_ble_eq_true rfl) dX7_quotientOf_3 ?_
  refine r_ishr hC dX7_quotientOf_6 ?_
  exact r_iretP hC dX7_quotientOf_7 h
abbrev Rm_X7_lies : Room := { frames := 2, cells := 0, slots := 0, locals := 43 }
def f_X7_lies_n55_b (x1 : Int32) (k38 : St → Int32 → Int32 → Int32 → Option St) (self : St → Int32 → Int32 → Int32 → Int32 → Option St) (σ : St) (y2 : Int32) (y3 : Int32) (y4 : Int32) (y5 : Int32) : Option St :=
  if in_b x1 2 = true then
    if (st_a σ 2 x1.toNatClampNeg) ≤ y5 then
      lt_ (y4 + (1 : Int32)) fun v13 =>
      k38 σ y2 y3 v13
    else
    (f_X7_at σ x1 y5).bind fun v14 =>
    (f_X7_quotientOf σ x1 v14).bind fun v15 =>
    lt_ (if y3 < v15 then v15 else y3) fun v16 =>
    if y2 = 0 then none else
    if in_b y5 64 = true then
      lt_ (put_a σ 4 y5.toNatClampNeg (v16 - v16 / y2 * y2)) fun s17 =>
      lt_ (v16 + (1 : Int32)) fun v18 =>
      lt_ (y5 + (1 : Int32)) fun v19 =>
      self s17 y2 v18 y4 v19
    else none
  else none
def f_X7_lies_n55 (x1 : Int32) (k38 : St → Int32 → Int32 → Int32 → Option St) : Nat → St → Int32 → Int32 → Int32 → Int32 → Option St
  | 0 => fun _ _ _ _ _ => none
  | n + 1 => fun σ y2 y3 y4 y5 => f_X7_lies_n55_b x1 k38 (f_X7_lies_n55 x1 k38 n) σ y2 y3 y4 y5
set_option maxRecDepth 100000 in
set_option maxHeartbeats 4000000 in
theorem t_X7_lies_n55_b {Γ : St → Nat → List (Nat × Value) → List Value → Prop} {l : Launch} {a : Nat → Nat} {t' : St} (hC : Cx Γ l cX7_lies RX7 7 none Rm_X7_lies wM a (none) t') (x1 : Int32) (k38 : St → Int32 → Int32 → Int32 → Option St) (hk38 : ∀ (σ : St) (y2 : Int32) (y3 : Int32) (y4 : Int32), k38 σ y2 y3 y4 = some t' → Γ σ 38 [(0, .ref (a 0)), (1, .int x1), (2, .int y2), (3, .int y3), (4, .int y4)] []) (self : St → Int32 → Int32 → Int32 → Int32 → Option St) (hself : ∀ (σ : St) (y2 : Int32) (y3 : Int32) (y4 : Int32) (y5 : Int32), self σ y2 y3 y4 y5 = some t' → Γ σ 55 [(0, .ref (a 0)), (1, .int x1), (2, .int y2), (3, .int y3), (4, .int y4), (5, .int y5)] []) (σ : St) (y2 : Int32) (y3 : Int32) (y4 : Int32) (y5 : Int32) (h : f_X7_lies_n55_b x1 k38 self σ y2 y3 y4 y5 = some t') : Γ σ 55 [(0, .ref (a 0)), (1, .int x1), (2, .int y2), (3, .int y3), (4, .int y4), (5, .int y5)] [] := by
  unfold f_X7_lies_n55_b at h
  refine r_iload hC dX7_lies_55 5 rfl ?_
  refine r_aload_n hC dX7_lies_57 rfl 0 rfl ?_
  refine G7_60 hC dX7_lies_58 ?_
  refine r_iload_n hC dX7_lies_61 rfl 1 rfl ?_
  obtain ⟨hi, h⟩ := inb_of h
  refine L_m_many hC hi dX7_lies_62 ?_
  refine r_icmp_ge hC 106 dX7_lies_63 (by decide) (fun q => ?_) (fun q => ?_)
  · replace h := if_p q h
    obtain ⟨v13, ev13, h⟩ := lt_of h
    refine r_iinc (c1 := 1) (lv' := [(4, .int v13), (0, .ref (a 0)), (1, .int x1), (2, .int y2), (3, .int y3), (5, .int y5)]) hC dX7_lies_106 4 rfl (by decide) (by decide) ev13 rfl ?_
    refine r_goto hC 38 dX7_lies_109 (by decide) ?_
    refine r_sub hC [1, 2, 3, 4, 0] rfl ?_
    exact hk38 σ y2 y3 v13 h
  · replace h := if_n q h
    refine r_aload_n hC dX7_lies_66 rfl 0 rfl ?_
    refine r_iload_n hC dX7_lies_67 rfl 1 rfl ?_
    refine r_aload_n hC dX7_lies_68 rfl 0 rfl ?_
    refine r_iload_n hC dX7_lies_69 rfl 1 rfl ?_
    refine r_iload hC dX7_lies_70 5 rfl ?_
    obtain ⟨v14, hv14, h⟩ := bind_of h
    refine r_callV (As := [.int x1, .int y5]) (rest := [.int x1, .ref (a 0)]) hC (con_X7_at l σ x1 y5 hv14) K7_106 (ob7 a σ) rfl rfl rfl rfl ⟨Nat.le_of_ble_eq_true rfl, Nat.le_of_ble_eq_true rfl⟩ (Nat.le_of_ble_eq_true rfl) dX7_lies_72 ?_
    obtain ⟨v15, hv15, h⟩ := bind_of h
    refine r_callV (As := [.int x1, .int v14]) (rest := []) hC (con_X7_quotientOf l σ x1 v14 hv15) K7_129 (ob7 a σ) rfl rfl rfl rfl ⟨Nat.le_of_ble_eq_true rfl, Nat.le_of_ble_eq_true rfl⟩ (Nat.le_of_ble_eq_true rfl) dX7_lies_75 ?_
    refine r_istore (lv' := [(6, .int v15), (0, .ref (a 0)), (1, .int x1), (2, .int y2), (3, .int y3), (4, .int y4), (5, .int y5)]) hC dX7_lies_78 (by decide) rfl rfl ?_
    refine r_iload_n hC dX7_lies_80 rfl 4 rfl ?_
    refine r_iload hC dX7_lies_81 0 rfl ?_
    refine r_mmax hC dX7_lies_83 K7_124 ⟨Nat.le_of_ble_eq_true rfl, Nat.le_of_ble_eq_true rfl⟩ ?_
    obtain ⟨v16, ev16, h⟩ := lt_of h
    refine r_istore_n (lv' := [(3, .int v16), (6, .int v15), (0, .ref (a 0)), (1, .int x1), (2, .int y2), (4, .int y4), (5, .int y5)]) hC dX7_lies_86 rfl (by decide) ev16 rfl ?_
    refine r_aload_n hC dX7_lies_87 rfl 2 rfl ?_
    refine G7_66 hC dX7_lies_88 ?_
    refine r_iload hC dX7_lies_91 6 rfl ?_
    refine r_iload_n hC dX7_lies_93 rfl 0 rfl ?_
    refine r_iload_n hC dX7_lies_94 rfl 4 rfl ?_
    obtain ⟨hz, h⟩ := nz_of h
    refine r_irem hC dX7_lies_95 hz ?_
    obtain ⟨hi, h⟩ := inb_of h
    obtain ⟨s17, es17, h⟩ := lt_of h
    refine S_m_where hC es17 hi dX7_lies_96 ?_
    obtain ⟨v18, ev18, h⟩ := lt_of h
    refine r_iinc (c1 := 1) (lv' := [(3, .int v18), (6, .int v15), (0, .ref (a 0)), (1, .int x1), (2, .int y2), (4, .int y4), (5, .int y5)]) hC dX7_lies_97 0 rfl (by decide) (by decide) ev18 rfl ?_
    obtain ⟨v19, ev19, h⟩ := lt_of h
    refine r_iinc (c1 := 1) (lv' := [(5, .int v19), (3, .int v18), (6, .int v15), (0, .ref (a 0)), (1, .int x1), (2, .int y2), (4, .int y4)]) hC dX7_lies_100 6 rfl (by decide) (by decide) ev19 rfl ?_
    refine r_goto hC 55 dX7_lies_103 (by decide) ?_
    refine r_sub hC [3, 4, 5, 1, 6, 0] rfl ?_
    exact hself s17 y2 v18 y4 v19 h
set_option maxRecDepth 100000 in
set_option maxHeartbeats 4000000 in
theorem t_X7_lies_n55 {Γ : St → Nat → List (Nat × Value) → List Value → Prop} {l : Launch} {a : Nat → Nat} {t' : St} (hC : Cx Γ l cX7_lies RX7 7 none Rm_X7_lies wM a (none) t') (x1 : Int32) (k38 : St → Int32 → Int32 → Int32 → Option St) (hk38 : ∀ (σ : St) (y2 : Int32) (y3 : Int32) (y4 : Int32), k38 σ y2 y3 y4 = some t' → Γ σ 38 [(0, .ref (a 0)), (1, .int x1), (2, .int y2), (3, .int y3), (4, .int y4)] []) (n : Nat) : ∀ (σ : St) (y2 : Int32) (y3 : Int32) (y4 : Int32) (y5 : Int32), f_X7_lies_n55 x1 k38 n σ y2 y3 y4 y5 = some t' → Γ σ 55 [(0, .ref (a 0)), (1, .int x1), (2, .int y2), (3, .int y3), (4, .int y4), (5, .int y5)] [] := by
  induction n with
  | zero =>
    intro σ y2 y3 y4 y5  h
    have h : (none : Option St) = some t' := h
    cases h
  | succ n ih =>
    intro σ y2 y3 y4 y5  h
    exact t_X7_lies_n55_b hC x1  k38 hk38 (f_X7_lies_n55 x1 k38 n) ih σ y2 y3 y4 y5  h
def f_X7_lies_n236 (x1 : Int32) (k115 : St → Int32 → Option St) (σ : St) (y4 : Int32) (w1 : Int32) (w2 : Int32) (w3 : Int32) (w4 : Int32) : Option St :=
  if in_b w1 64 = true then
    lt_ (put_a σ 6 w1.toNatClampNeg (w2 ||| (w3 ||| w4))) fun s7 =>
    lt_ (y4 + (1 : Int32)) fun v8 =>
    k115 s7 v8
  else none
set_option maxRecDepth 100000 in
set_option maxHeartbeats 4000000 in
theorem t_X7_lies_n236 {Γ : St → Nat → List (Nat × Value) → List Value → Prop} {l : Launch} {a : Nat → Nat} {t' : St} (hC : Cx Γ l cX7_lies RX7 7 none Rm_X7_lies wM a (none) t') (x1 : Int32) (k115 : St → Int32 → Option St) (hk115 : ∀ (σ : St) (y4 : Int32), k115 σ y4 = some t' → Γ σ 115 [(0, .ref (a 0)), (1, .int x1), (4, .int y4)] []) (σ : St) (y4 : Int32) (w1 : Int32) (w2 : Int32) (w3 : Int32) (w4 : Int32) (h : f_X7_lies_n236 x1 k115 σ y4 w1 w2 w3 w4 = some t') : Γ σ 236 [(0, .ref (a 0)), (1, .int x1), (4, .int y4)] [.int w4, .int w3, .int w2, .int w1, .ref (a 8)] := by
  unfold f_X7_lies_n236 at h
  refine r_ior hC dX7_lies_236 ?_
  refine r_ior hC dX7_lies_237 ?_
  obtain ⟨hi, h⟩ := inb_of h
  obtain ⟨s7, es7, h⟩ := lt_of h
  refine S_m_marks hC es7 hi dX7_lies_238 ?_
  obtain ⟨v8, ev8, h⟩ := lt_of h
  refine r_iinc (c1 := 1) (lv' := [(4, .int v8), (0, .ref (a 0)), (1, .int x1)]) hC dX7_lies_239 2 rfl (by decide) (by decide) ev8 rfl ?_
  refine r_goto hC 115 dX7_lies_242 (by decide) ?_
  refine r_sub hC [1, 2, 0] rfl ?_
  exact hk115 s7 v8 h
def f_X7_lies_n219 (x1 : Int32) (k115 : St → Int32 → Option St) (σ : St) (y4 : Int32) (y5 : Int32) (w1 : Int32) (w2 : Int32) (w3 : Int32) : Option St :=
  if in_b y4 64 = true then
    if (st_a σ 4 y4.toNatClampNeg) = y5 then
      f_X7_lies_n236 x1 k115 σ y4 w1 w2 w3 (0 : Int32)
    else
    f_X7_lies_n236 x1 k115 σ y4 w1 w2 w3 (4 : Int32)
  else none
set_option maxRecDepth 100000 in
set_option maxHeartbeats 4000000 in
theorem t_X7_lies_n219 {Γ : St → Nat → List (Nat × Value) → List Value → Prop} {l : Launch} {a : Nat → Nat} {t' : St} (hC : Cx Γ l cX7_lies RX7 7 none Rm_X7_lies wM a (none) t') (x1 : Int32) (k115 : St → Int32 → Option St) (hk115 : ∀ (σ : St) (y4 : Int32), k115 σ y4 = some t' → Γ σ 115 [(0, .ref (a 0)), (1, .int x1), (4, .int y4)] []) (σ : St) (y4 : Int32) (y5 : Int32) (w1 : Int32) (w2 : Int32) (w3 : Int32) (h : f_X7_lies_n219 x1 k115 σ y4 y5 w1 w2 w3 = some t') : Γ σ 219 [(0, .ref (a 0)), (1, .int x1), (4, .int y4), (5, .int y5)] [.int w3, .int w2, .int w1, .ref (a 8)] := by
  unfold f_X7_lies_n219 at h
  refine r_aload_n hC dX7_lies_219 rfl 0 rfl ?_
  refine G7_66 hC dX7_lies_220 ?_
  refine r_iload hC dX7_lies_223 2 rfl ?_
  obtain ⟨hi, h⟩ := inb_of h
  refine L_m_where hC hi dX7_lies_225 ?_
  refine r_iload hC dX7_lies_226 3 rfl ?_
  refine r_icmp_ne hC 235 dX7_lies_228 (by decide) (fun q => ?_) (fun q => ?_)
  · replace h := if_n q h
    refine r_iconst (v := 4) hC dX7_lies_235 (by decide) ?_
    refine r_sub hC [0, 1, 2] rfl ?_
    exact t_X7_lies_n236 hC x1 k115 hk115 σ y4 w1 w2 w3 (4 : Int32) h
  · replace h := if_p q h
    refine r_iconst (v := 0) hC dX7_lies_231 (by decide) ?_
    refine r_goto hC 236 dX7_lies_232 (by decide) ?_
    refine r_sub hC [0, 1, 2] rfl ?_
    exact t_X7_lies_n236 hC x1 k115 hk115 σ y4 w1 w2 w3 (0 : Int32) h
def f_X7_lies_n169 (x1 : Int32) (k115 : St → Int32 → Option St) (σ : St) (y4 : Int32) (y5 : Int32) (w0 : Int32) : Option St :=
  if in_b y4 64 = true then
    if in_b (st_a σ 4 y4.toNatClampNeg) 64 = true then
      lt_ (put_a σ 5 (st_a σ 4 y4.toNatClampNeg).toNatClampNeg y4) fun s5 =>
      if in_b y5 64 = true then
        if in_b y5 64 = true then
          lt_ (put_a s5 6 y5.toNatClampNeg ((st_a s5 6 y5.toNatClampNeg) ||| (1 : Int32))) fun s6 =>
          if in_b y4 64 = true then
            if in_b (st_a s6 4 y4.toNatClampNeg) 64 = true then
              if w0 = 0 then
                f_X7_lies_n219 x1 k115 s6 y4 y5 (st_a s6 4 y4.toNatClampNeg) (st_a s6 6 (st_a s6 4 y4.toNatClampNeg).toNatClampNeg) (0 : Int32)
              else
              f_X7_lies_n219 x1 k115 s6 y4 y5 (st_a s6 4 y4.toNatClampNeg) (st_a s6 6 (st_a s6 4 y4.toNatClampNeg).toNatClampNeg) (2 : Int32)
            else none
          else none
        else none
      else none
    else none
  else none
set_option maxRecDepth 100000 in
set_option maxHeartbeats 4000000 in
theorem t_X7_lies_n169 {Γ : St → Nat → List (Nat × Value) → List Value → Prop} {l : Launch} {a : Nat → Nat} {t' : St} (hC : Cx Γ l cX7_lies RX7 7 none Rm_X7_lies wM a (none) t') (x1 : Int32) (k115 : St → Int32 → Option St) (hk115 : ∀ (σ : St) (y4 : Int32), k115 σ y4 = some t' → Γ σ 115 [(0, .ref (a 0)), (1, .int x1), (4, .int y4)] []) (σ : St) (y4 : Int32) (y5 : Int32) (w0 : Int32) (h : f_X7_lies_n169 x1 k115 σ y4 y5 w0 = some t') : Γ σ 169 [(0, .ref (a 0)), (1, .int x1), (4, .int y4), (5, .int y5)] [.int w0] := by
  unfold f_X7_lies_n169 at h
  refine r_istore (lv' := [(6, .int w0), (0, .ref (a 0)), (1, .int x1), (4, .int y4), (5, .int y5)]) hC dX7_lies_169 (by decide) rfl rfl ?_
  refine r_aload_n hC dX7_lies_171 rfl 1 rfl ?_
  refine G7_69 hC dX7_lies_172 ?_
  refine r_aload_n hC dX7_lies_175 rfl 1 rfl ?_
  refine G7_66 hC dX7_lies_176 ?_
  refine r_iload hC dX7_lies_179 3 rfl ?_
  obtain ⟨hi, h⟩ := inb_of h
  refine L_m_where hC hi dX7_lies_181 ?_
  refine r_iload hC dX7_lies_182 3 rfl ?_
  obtain ⟨hi, h⟩ := inb_of h
  obtain ⟨s5, es5, h⟩ := lt_of h
  refine S_m_holds hC es5 hi dX7_lies_184 ?_
  refine r_aload_n hC dX7_lies_185 rfl 1 rfl ?_
  refine G7_72 hC dX7_lies_186 ?_
  refine r_iload hC dX7_lies_189 4 rfl ?_
  refine r_dup2 hC dX7_lies_191 rfl rfl ?_
  obtain ⟨hi, h⟩ := inb_of h
  refine L_m_marks hC hi dX7_lies_192 ?_
  refine r_iconst (v := 1) hC dX7_lies_193 (by decide) ?_
  refine r_ior hC dX7_lies_194 ?_
  obtain ⟨hi, h⟩ := inb_of h
  obtain ⟨s6, es6, h⟩ := lt_of h
  refine S_m_marks hC es6 hi dX7_lies_195 ?_
  refine r_aload_n hC dX7_lies_196 rfl 1 rfl ?_
  refine G7_72 hC dX7_lies_197 ?_
  refine r_aload_n hC dX7_lies_200 rfl 1 rfl ?_
  refine G7_66 hC dX7_lies_201 ?_
  refine r_iload hC dX7_lies_204 3 rfl ?_
  obtain ⟨hi, h⟩ := inb_of h
  refine L_m_where hC hi dX7_lies_206 ?_
  refine r_dup2 hC dX7_lies_207 rfl rfl ?_
  obtain ⟨hi, h⟩ := inb_of h
  refine L_m_marks hC hi dX7_lies_208 ?_
  refine r_iload hC dX7_lies_209 0 rfl ?_
  refine r_if_eq hC 218 dX7_lies_211 (by decide) (fun q => ?_) (fun q => ?_)
  · replace h := if_p q h
    refine r_iconst (v := 0) hC dX7_lies_218 (by decide) ?_
    refine r_sub hC [1, 2, 3, 4] rfl ?_
    exact t_X7_lies_n219 hC x1 k115 hk115 s6 y4 y5 (st_a s6 4 y4.toNatClampNeg) (st_a s6 6 (st_a s6 4 y4.toNatClampNeg).toNatClampNeg) (0 : Int32) h
  · replace h := if_n q h
    refine r_iconst (v := 2) hC dX7_lies_214 (by decide) ?_
    refine r_goto hC 219 dX7_lies_215 (by decide) ?_
    refine r_sub hC [1, 2, 3, 4] rfl ?_
    exact t_X7_lies_n219 hC x1 k115 hk115 s6 y4 y5 (st_a s6 4 y4.toNatClampNeg) (st_a s6 6 (st_a s6 4 y4.toNatClampNeg).toNatClampNeg) (2 : Int32) h
def f_X7_lies_n168 (x1 : Int32) (k115 : St → Int32 → Option St) (σ : St) (y4 : Int32) (y5 : Int32) : Option St :=
  f_X7_lies_n169 x1 k115 σ y4 y5 (0 : Int32)
set_option maxRecDepth 100000 in
set_option maxHeartbeats 4000000 in
theorem t_X7_lies_n168 {Γ : St → Nat → List (Nat × Value) → List Value → Prop} {l : Launch} {a : Nat → Nat} {t' : St} (hC : Cx Γ l cX7_lies RX7 7 none Rm_X7_lies wM a (none) t') (x1 : Int32) (k115 : St → Int32 → Option St) (hk115 : ∀ (σ : St) (y4 : Int32), k115 σ y4 = some t' → Γ σ 115 [(0, .ref (a 0)), (1, .int x1), (4, .int y4)] []) (σ : St) (y4 : Int32) (y5 : Int32) (h : f_X7_lies_n168 x1 k115 σ y4 y5 = some t') : Γ σ 168 [(0, .ref (a 0)), (1, .int x1), (4, .int y4), (5, .int y5)] [] := by
  unfold f_X7_lies_n168 at h
  refine r_iconst (v := 0) hC dX7_lies_168 (by decide) ?_
  exact t_X7_lies_n169 hC x1 k115 hk115 σ y4 y5 (0 : Int32) h
def f_X7_lies_n115_b (x1 : Int32) (self : St → Int32 → Option St) (σ : St) (y4 : Int32) : Option St :=
  if in_b x1 2 = true then
    if (st_a σ 2 x1.toNatClampNeg) ≤ y4 then
      some σ
    else
    (f_X7_at σ x1 y4).bind fun v9 =>
    (f_X7_quotientOf σ x1 v9).bind fun v10 =>
    if y4 ≤ 0 then
      f_X7_lies_n168 x1 self σ y4 v10
    else
    (f_X7_at σ x1 (y4 - (1 : Int32))).bind fun v11 =>
    (f_X7_quotientOf σ x1 v11).bind fun v12 =>
    if v12 = v10 then
      f_X7_lies_n169 x1 self σ y4 v10 (1 : Int32)
    else
    f_X7_lies_n168 x1 self σ y4 v10
  else none
def f_X7_lies_n115 (x1 : Int32) : Nat → St → Int32 → Option St
  | 0 => fun _ _ => none
  | n + 1 => fun σ y4 => f_X7_lies_n115_b x1  (f_X7_lies_n115 x1  n) σ y4
set_option maxRecDepth 100000 in
set_option maxHeartbeats 4000000 in
theorem t_X7_lies_n115_b {Γ : St → Nat → List (Nat × Value) → List Value → Prop} {l : Launch} {a : Nat → Nat} {t' : St} (hC : Cx Γ l cX7_lies RX7 7 none Rm_X7_lies wM a (none) t') (x1 : Int32) (self : St → Int32 → Option St) (hself : ∀ (σ : St) (y4 : Int32), self σ y4 = some t' → Γ σ 115 [(0, .ref (a 0)), (1, .int x1), (4, .int y4)] []) (σ : St) (y4 : Int32) (h : f_X7_lies_n115_b x1 self σ y4 = some t') : Γ σ 115 [(0, .ref (a 0)), (1, .int x1), (4, .int y4)] [] := by
  unfold f_X7_lies_n115_b at h
  refine r_iload hC dX7_lies_115 2 rfl ?_
  refine r_aload_n hC dX7_lies_117 rfl 0 rfl ?_
  refine G7_60 hC dX7_lies_118 ?_
  refine r_iload_n hC dX7_lies_121 rfl 1 rfl ?_
  obtain ⟨hi, h⟩ := inb_of h
  refine L_m_many hC hi dX7_lies_122 ?_
  refine r_icmp_ge hC 245 dX7_lies_123 (by decide) (fun q => ?_) (fun q => ?_)
  · replace h := if_p q h
    exact r_vretS hC dX7_lies_245 h
  · replace h := if_n q h
    refine r_aload_n hC dX7_lies_126 rfl 0 rfl ?_
    refine r_iload_n hC dX7_lies_127 rfl 1 rfl ?_
    refine r_aload_n hC dX7_lies_128 rfl 0 rfl ?_
    refine r_iload_n hC dX7_lies_129 rfl 1 rfl ?_
    refine r_iload hC dX7_lies_130 2 rfl ?_
    obtain ⟨v9, hv9, h⟩ := bind_of h
    refine r_callV (As := [.int x1, .int y4]) (rest := [.int x1, .ref (a 0)]) hC (con_X7_at l σ x1 y4 hv9) K7_106 (ob7 a σ) rfl rfl rfl rfl ⟨Nat.le_of_ble_eq_true rfl, Nat.le_of_ble_eq_true rfl⟩ (Nat.le_of_ble_eq_true rfl) dX7_lies_132 ?_
    obtain ⟨v10, hv10, h⟩ := bind_of h
    refine r_callV (As := [.int x1, .int v9]) (rest := []) hC (con_X7_quotientOf l σ x1 v9 hv10) K7_129 (ob7 a σ) rfl rfl rfl rfl ⟨Nat.le_of_ble_eq_true rfl, Nat.le_of_ble_eq_true rfl⟩ (Nat.le_of_ble_eq_true rfl) dX7_lies_135 ?_
    refine r_istore (lv' := [(5, .int v10), (0, .ref (a 0)), (1, .int x1), (4, .int y4)]) hC dX7_lies_138 (by decide) rfl rfl ?_
    refine r_iload hC dX7_lies_140 3 rfl ?_
    refine r_if_le hC 168 dX7_lies_142 (by decide) (fun q => ?_) (fun q => ?_)
    · replace h := if_p q h
      refine r_sub hC [1, 2, 3, 0] rfl ?_
      exact t_X7_lies_n168 hC x1 self hself σ y4 v10 h
    · replace h := if_n q h
      refine r_aload_n hC dX7_lies_145 rfl 1 rfl ?_
      refine r_iload_n hC dX7_lies_146 rfl 2 rfl ?_
      refine r_aload_n hC dX7_lies_147 rfl 1 rfl ?_
      refine r_iload_n hC dX7_lies_148 rfl 2 rfl ?_
      refine r_iload hC dX7_lies_149 3 rfl ?_
      refine r_iconst (v := 1) hC dX7_lies_151 (by decide) ?_
      refine r_isub hC dX7_lies_152 ?_
      obtain ⟨v11, hv11, h⟩ := bind_of h
      refine r_callV (As := [.int x1, .int (y4 - (1 : Int32))]) (rest := [.int x1, .ref (a 0)]) hC (con_X7_at l σ x1 (y4 - (1 : Int32)) hv11) K7_106 (ob7 a σ) rfl rfl rfl rfl ⟨Nat.le_of_ble_eq_true rfl, Nat.le_of_ble_eq_true rfl⟩ (Nat.le_of_ble_eq_true rfl) dX7_lies_153 ?_
      obtain ⟨v12, hv12, h⟩ := bind_of h
      refine r_callV (As := [.int x1, .int v11]) (rest := []) hC (con_X7_quotientOf l σ x1 v11 hv12) K7_129 (ob7 a σ) rfl rfl rfl rfl ⟨Nat.le_of_ble_eq_true rfl, Nat.le_of_ble_eq_true rfl⟩ (Nat.le_of_ble_eq_true rfl) dX7_lies_156 ?_
      refine r_iload hC dX7_lies_159 0 rfl ?_
      refine r_icmp_ne hC 168 dX7_lies_161 (by decide) (fun q => ?_) (fun q => ?_)
      · replace h := if_n q h
        refine r_sub hC [1, 2, 3, 0] rfl ?_
        exact t_X7_lies_n168 hC x1 self hself σ y4 v10 h
      · replace h := if_p q h
        refine r_iconst (v := 1) hC dX7_lies_164 (by decide) ?_
        refine r_goto hC 169 dX7_lies_165 (by decide) ?_
        refine r_sub hC [1, 2, 3, 0] rfl ?_
        exact t_X7_lies_n169 hC x1 self hself σ y4 v10 (1 : Int32) h
set_option maxRecDepth 100000 in
set_option maxHeartbeats 4000000 in
theorem t_X7_lies_n115 {Γ : St → Nat → List (Nat × Value) → List Value → Prop} {l : Launch} {a : Nat → Nat} {t' : St} (hC : Cx Γ l cX7_lies RX7 7 none Rm_X7_lies wM a (none) t') (x1 : Int32) (n : Nat) : ∀ (σ : St) (y4 : Int32), f_X7_lies_n115 x1 n σ y4 = some t' → Γ σ 115 [(0, .ref (a 0)), (1, .int x1), (4, .int y4)] [] := by
  induction n with
  | zero =>
    intro σ y4  h
    have h : (none : Option St) = some t' := h
    cases h
  | succ n ih =>
    intro σ y4  h
    exact t_X7_lies_n115_b hC x1    (f_X7_lies_n115 x1  n) ih σ y4  h
def f_X7_lies_n38_b (x1 : Int32) (self : St → Int32 → Int32 → Int32 → Option St) (σ : St) (y2 : Int32) (y3 : Int32) (y4 : Int32) : Option St :=
  if (2 : Int32) ≤ y4 then
    f_X7_lies_n115 x1 fuel σ (0 : Int32)
  else
  lt_ (if (0 : Int32) < (y3 - y2) then (y3 - y2) else (0 : Int32)) fun v1 =>
  f_X7_lies_n55 x1 self fuel σ y2 v1 y4 (0 : Int32)
def f_X7_lies_n38 (x1 : Int32) : Nat → St → Int32 → Int32 → Int32 → Option St
  | 0 => fun _ _ _ _ => none
  | n + 1 => fun σ y2 y3 y4 => f_X7_lies_n38_b x1  (f_X7_lies_n38 x1  n) σ y2 y3 y4
set_option maxRecDepth 100000 in
set_option maxHeartbeats 4000000 in
theorem t_X7_lies_n38_b {Γ : St → Nat → List (Nat × Value) → List Value → Prop} {l : Launch} {a : Nat → Nat} {t' : St} (hC : Cx Γ l cX7_lies RX7 7 none Rm_X7_lies wM a (none) t') (x1 : Int32) (self : St → Int32 → Int32 → Int32 → Option St) (hself : ∀ (σ : St) (y2 : Int32) (y3 : Int32) (y4 : Int32), self σ y2 y3 y4 = some t' → Γ σ 38 [(0, .ref (a 0)), (1, .int x1), (2, .int y2), (3, .int y3), (4, .int y4)] []) (σ : St) (y2 : Int32) (y3 : Int32) (y4 : Int32) (h : f_X7_lies_n38_b x1 self σ y2 y3 y4 = some t') : Γ σ 38 [(0, .ref (a 0)), (1, .int x1), (2, .int y2), (3, .int y3), (4, .int y4)] [] := by
  unfold f_X7_lies_n38_b at h
  refine r_iload hC dX7_lies_38 4 rfl ?_
  refine r_iconst (v := 2) hC dX7_lies_40 (by decide) ?_
  refine r_icmp_ge hC 112 dX7_lies_41 (by decide) (fun q => ?_) (fun q => ?_)
  · replace h := if_p q h
    refine r_iconst (v := 0) hC dX7_lies_112 (by decide) ?_
    refine r_istore (lv' := [(4, .int (0 : Int32)), (0, .ref (a 0)), (1, .int x1), (2, .int y2), (3, .int y3)]) hC dX7_lies_113 (by decide) rfl rfl ?_
    refine r_sub hC [1, 2, 0] rfl ?_
    exact t_X7_lies_n115 hC x1 fuel σ (0 : Int32) h
  · replace h := if_n q h
    refine r_iconst (v := 0) hC dX7_lies_44 (by decide) ?_
    refine r_iload_n hC dX7_lies_45 rfl 3 rfl ?_
    refine r_iload_n hC dX7_lies_46 rfl 2 rfl ?_
    refine r_isub hC dX7_lies_47 ?_
    refine r_mmax hC dX7_lies_48 K7_124 ⟨Nat.le_of_ble_eq_true rfl, Nat.le_of_ble_eq_true rfl⟩ ?_
    obtain ⟨v1, ev1, h⟩ := lt_of h
    refine r_istore_n (lv' := [(3, .int v1), (0, .ref (a 0)), (1, .int x1), (2, .int y2), (4, .int y4)]) hC dX7_lies_51 rfl (by decide) ev1 rfl ?_
    refine r_iconst (v := 0) hC dX7_lies_52 (by decide) ?_
    refine r_istore (lv' := [(5, .int (0 : Int32)), (3, .int v1), (0, .ref (a 0)), (1, .int x1), (2, .int y2), (4, .int y4)]) hC dX7_lies_53 (by decide) rfl rfl ?_
    refine r_sub hC [2, 3, 4, 1, 5, 0] rfl ?_
    exact t_X7_lies_n55 hC x1 self hself fuel σ y2 v1 y4 (0 : Int32) h
set_option maxRecDepth 100000 in
set_option maxHeartbeats 4000000 in
theorem t_X7_lies_n38 {Γ : St → Nat → List (Nat × Value) → List Value → Prop} {l : Launch} {a : Nat → Nat} {t' : St} (hC : Cx Γ l cX7_lies RX7 7 none Rm_X7_lies wM a (none) t') (x1 : Int32) (n : Nat) : ∀ (σ : St) (y2 : Int32) (y3 : Int32) (y4 : Int32), f_X7_lies_n38 x1 n σ y2 y3 y4 = some t' → Γ σ 38 [(0, .ref (a 0)), (1, .int x1), (2, .int y2), (3, .int y3), (4, .int y4)] [] := by
  induction n with
  | zero =>
    intro σ y2 y3 y4  h
    have h : (none : Option St) = some t' := h
    cases h
  | succ n ih =>
    intro σ y2 y3 y4  h
    exact t_X7_lies_n38_b hC x1    (f_X7_lies_n38 x1  n) ih σ y2 y3 y4  h
def f_X7_lies_n8_b (x1 : Int32) (self : St → Int32 → Int32 → Option St) (σ : St) (y2 : Int32) (y3 : Int32) : Option St :=
  if y2 ≤ y3 then
    f_X7_lies_n38 x1 fuel σ y2 (0 : Int32) (0 : Int32)
  else
  if in_b y3 64 = true then
    lt_ (put_a σ 5 y3.toNatClampNeg (-1 : Int32)) fun s2 =>
    if in_b y3 64 = true then
      lt_ (put_a s2 6 y3.toNatClampNeg (0 : Int32)) fun s3 =>
      lt_ (y3 + (1 : Int32)) fun v4 =>
      self s3 y2 v4
    else none
  else none
def f_X7_lies_n8 (x1 : Int32) : Nat → St → Int32 → Int32 → Option St
  | 0 => fun _ _ _ => none
  | n + 1 => fun σ y2 y3 => f_X7_lies_n8_b x1  (f_X7_lies_n8 x1  n) σ y2 y3
set_option maxRecDepth 100000 in
set_option maxHeartbeats 4000000 in
theorem t_X7_lies_n8_b {Γ : St → Nat → List (Nat × Value) → List Value → Prop} {l : Launch} {a : Nat → Nat} {t' : St} (hC : Cx Γ l cX7_lies RX7 7 none Rm_X7_lies wM a (none) t') (x1 : Int32) (self : St → Int32 → Int32 → Option St) (hself : ∀ (σ : St) (y2 : Int32) (y3 : Int32), self σ y2 y3 = some t' → Γ σ 8 [(0, .ref (a 0)), (1, .int x1), (2, .int y2), (3, .int y3)] []) (σ : St) (y2 : Int32) (y3 : Int32) (h : f_X7_lies_n8_b x1 self σ y2 y3 = some t') : Γ σ 8 [(0, .ref (a 0)), (1, .int x1), (2, .int y2), (3, .int y3)] [] := by
  unfold f_X7_lies_n8_b at h
  refine r_iload_n hC dX7_lies_8 rfl 3 rfl ?_
  refine r_iload_n hC dX7_lies_9 rfl 2 rfl ?_
  refine r_icmp_ge hC 33 dX7_lies_10 (by decide) (fun q => ?_) (fun q => ?_)
  · replace h := if_p q h
    refine r_iconst (v := 0) hC dX7_lies_33 (by decide) ?_
    refine r_istore_n (lv' := [(3, .int (0 : Int32)), (0, .ref (a 0)), (1, .int x1), (2, .int y2)]) hC dX7_lies_34 rfl (by decide) rfl rfl ?_
    refine r_iconst (v := 0) hC dX7_lies_35 (by decide) ?_
    refine r_istore (lv' := [(4, .int (0 : Int32)), (3, .int (0 : Int32)), (0, .ref (a 0)), (1, .int x1), (2, .int y2)]) hC dX7_lies_36 (by decide) rfl rfl ?_
    refine r_sub hC [2, 3, 4, 1, 0] rfl ?_
    exact t_X7_lies_n38 hC x1 fuel σ y2 (0 : Int32) (0 : Int32) h
  · replace h := if_n q h
    refine r_aload_n hC dX7_lies_13 rfl 0 rfl ?_
    refine G7_69 hC dX7_lies_14 ?_
    refine r_iload_n hC dX7_lies_17 rfl 3 rfl ?_
    refine r_iconst (v := -1) hC dX7_lies_18 (by decide) ?_
    obtain ⟨hi, h⟩ := inb_of h
    obtain ⟨s2, es2, h⟩ := lt_of h
    refine S_m_holds hC es2 hi dX7_lies_19 ?_
    refine r_aload_n hC dX7_lies_20 rfl 0 rfl ?_
    refine G7_72 hC dX7_lies_21 ?_
    refine r_iload_n hC dX7_lies_24 rfl 3 rfl ?_
    refine r_iconst (v := 0) hC dX7_lies_25 (by decide) ?_
    obtain ⟨hi, h⟩ := inb_of h
    obtain ⟨s3, es3, h⟩ := lt_of h
    refine S_m_marks hC es3 hi dX7_lies_26 ?_
    obtain ⟨v4, ev4, h⟩ := lt_of h
    refine r_iinc (c1 := 1) (lv' := [(3, .int v4), (0, .ref (a 0)), (1, .int x1), (2, .int y2)]) hC dX7_lies_27 3 rfl (by decide) (by decide) ev4 rfl ?_
    refine r_goto hC 8 dX7_lies_30 (by decide) ?_
    refine r_sub hC [1, 2, 3, 0] rfl ?_
    exact hself s3 y2 v4 h
set_option maxRecDepth 100000 in
set_option maxHeartbeats 4000000 in
theorem t_X7_lies_n8 {Γ : St → Nat → List (Nat × Value) → List Value → Prop} {l : Launch} {a : Nat → Nat} {t' : St} (hC : Cx Γ l cX7_lies RX7 7 none Rm_X7_lies wM a (none) t') (x1 : Int32) (n : Nat) : ∀ (σ : St) (y2 : Int32) (y3 : Int32), f_X7_lies_n8 x1 n σ y2 y3 = some t' → Γ σ 8 [(0, .ref (a 0)), (1, .int x1), (2, .int y2), (3, .int y3)] [] := by
  induction n with
  | zero =>
    intro σ y2 y3  h
    have h : (none : Option St) = some t' := h
    cases h
  | succ n ih =>
    intro σ y2 y3  h
    exact t_X7_lies_n8_b hC x1    (f_X7_lies_n8 x1  n) ih σ y2 y3  h
def f_X7_lies (σ : St) (x1 : Int32) : Option St :=
  (f_X7_slots σ x1).bind fun v20 =>
  f_X7_lies_n8 x1 fuel σ v20 (0 : Int32)
set_option maxRecDepth 100000 in
set_option maxHeartbeats 4000000 in
theorem con_X7_lies (l : Launch) (σ : St) (x1 : Int32) {t' : St} (h : f_X7_lies σ x1 = some t') : Con l yX7_lies cX7_lies 7 none Rm_X7_lies wM (fun a => [.ref (a 0), .int x1]) σ (fun _ => none) t' := by
  refine con_of (by decide) ⟨rfl, rfl⟩ (fun _ => Nat.le_of_ble_eq_true rfl) (fun Γ a hC => ?_)
  have hC : Cx Γ l cX7_lies RX7 7 none Rm_X7_lies wM a (none) t' := hC
  show Γ σ 0 [(0, .ref (a 0)), (1, .int x1)] []
  unfold f_X7_lies at h
  refine r_aload_n hC dX7_lies_0 rfl 0 rfl ?_
  refine r_iload_n hC dX7_lies_1 rfl 1 rfl ?_
  obtain ⟨v20, hv20, h⟩ := bind_of h
  refine r_callV (As := [.int x1]) (rest := []) hC (con_X7_slots l σ x1 hv20) K7_121 (ob7 a σ) rfl rfl rfl rfl ⟨Nat.le_of_ble_eq_true rfl, Nat.le_of_ble_eq_true rfl⟩ (Nat.le_of_ble_eq_true rfl) dX7_lies_2 ?_
  refine r_istore_n (lv' := [(2, .int v20), (0, .ref (a 0)), (1, .int x1)]) hC dX7_lies_5 rfl (by decide) rfl rfl ?_
  refine r_iconst (v := 0) hC dX7_lies_6 (by decide) ?_
  refine r_istore_n (lv' := [(3, .int (0 : Int32)), (2, .int v20), (0, .ref (a 0)), (1, .int x1)]) hC dX7_lies_7 rfl (by decide) rfl rfl ?_
  refine r_sub hC [2, 3, 1, 0] rfl ?_
  exact t_X7_lies_n8 hC x1 fuel σ v20 (0 : Int32) h
abbrev Rm_X7_flag : Room := { frames := 0, cells := 0, slots := 0, locals := 0 }
def f_X7_flag (σ : St) (x0 : Int32) : Int32 :=
  if x0 = 0 then
    (0 : Int32)
  else
  (1 : Int32)
set_option maxRecDepth 100000 in
set_option maxHeartbeats 4000000 in
theorem con_X7_flag (l : Launch) (σ : St) (x0 : Int32) {r : Int32} (h : f_X7_flag σ x0 = r) : Con l yX7_flag cX7_flag 1 (some .int) Rm_X7_flag wM (fun a => [.int x0]) σ (fun _ => some (.int r)) σ := by
  refine con_of (by decide) ⟨rfl, rfl⟩ (fun _ => Nat.le_of_ble_eq_true rfl) (fun Γ a hC => ?_)
  have hC : Cx Γ l cX7_flag RX7 1 (some .int) Rm_X7_flag wM a (some (.int r)) σ := hC
  show Γ σ 0 [(0, .int x0)] []
  unfold f_X7_flag at h
  refine r_iload_n hC dX7_flag_0 rfl 0 rfl ?_
  refine r_if_eq hC 8 dX7_flag_1 (by decide) (fun q => ?_) (fun q => ?_)
  · replace h := if_p q h
    refine r_iconst (v := 0) hC dX7_flag_8 (by decide) ?_
    exact r_iretT hC dX7_flag_9 h
  · replace h := if_n q h
    refine r_iconst (v := 1) hC dX7_flag_4 (by decide) ?_
    refine r_goto hC 9 dX7_flag_5 (by decide) ?_
    exact r_iretT hC dX7_flag_9 h
abbrev Rm_X7_countOf : Room := { frames := 1, cells := 0, slots := 0, locals := 22 }
def f_X7_countOf_n33 (σ : St) (x1 : Int32) (x2 : Int32) (k5 : Int32 → Int32 → Option Int32) (y4 : Int32) (w0 : Int32) (w1 : Int32) : Option Int32 :=
  lt_ (w0 + (f_X7_flag σ w1)) fun v1 =>
  lt_ (y4 + (1 : Int32)) fun v2 =>
  k5 v1 v2
set_option maxRecDepth 100000 in
set_option maxHeartbeats 4000000 in
theorem t_X7_countOf_n33 {Γ : St → Nat → List (Nat × Value) → List Value → Prop} {l : Launch} {a : Nat → Nat} {r : Int32} {σ : St} (hC : Cx Γ l cX7_countOf RX7 5 (some .int) Rm_X7_countOf wM a (some (.int r)) σ) (x1 : Int32) (x2 : Int32) (k5 : Int32 → Int32 → Option Int32) (hk5 : ∀ (y3 : Int32) (y4 : Int32), k5 y3 y4 = some r → Γ σ 5 [(0, .ref (a 0)), (1, .int x1), (2, .int x2), (3, .int y3), (4, .int y4)] []) (y4 : Int32) (w0 : Int32) (w1 : Int32) (h : f_X7_countOf_n33 σ x1 x2 k5 y4 w0 w1 = some r) : Γ σ 33 [(0, .ref (a 0)), (1, .int x1), (2, .int x2), (4, .int y4)] [.int w1, .int w0] := by
  unfold f_X7_countOf_n33 at h
  refine r_callS (As := [.int w1]) (rest := [.int w0]) hC (con_X7_flag l σ w1 rfl) K7_109 rfl rfl rfl ⟨Nat.le_of_ble_eq_true rfl, Nat.le_of_ble_eq_true rfl⟩ (Nat.le_of_ble_eq_true rfl) dX7_countOf_33 ?_
  refine r_iadd hC dX7_countOf_36 ?_
  obtain ⟨v1, ev1, h⟩ := lt_of h
  refine r_istore_n (lv' := [(3, .int v1), (0, .ref (a 0)), (1, .int x1), (2, .int x2), (4, .int y4)]) hC dX7_countOf_37 rfl (by decide) ev1 rfl ?_
  obtain ⟨v2, ev2, h⟩ := lt_of h
  refine r_iinc (c1 := 1) (lv' := [(4, .int v2), (3, .int v1), (0, .ref (a 0)), (1, .int x1), (2, .int x2)]) hC dX7_countOf_38 4 rfl (by decide) (by decide) ev2 rfl ?_
  refine r_goto hC 5 dX7_countOf_41 (by decide) ?_
  refine r_sub hC [2, 3, 4, 1, 0] rfl ?_
  exact hk5 v1 v2 h
def f_X7_countOf_n5_b (σ : St) (x1 : Int32) (x2 : Int32) (self : Int32 → Int32 → Option Int32) (y3 : Int32) (y4 : Int32) : Option Int32 :=
  if in_b x1 2 = true then
    if (st_a σ 2 x1.toNatClampNeg) ≤ y4 then
      some y3
    else
    (f_X7_at σ x1 y4).bind fun v3 =>
    if v3 = x2 then
      f_X7_countOf_n33 σ x1 x2 self y4 y3 (1 : Int32)
    else
    f_X7_countOf_n33 σ x1 x2 self y4 y3 (0 : Int32)
  else none
def f_X7_countOf_n5 (σ : St) (x1 : Int32) (x2 : Int32) : Nat → Int32 → Int32 → Option Int32
  | 0 => fun _ _ => none
  | n + 1 => fun y3 y4 => f_X7_countOf_n5_b σ x1 x2  (f_X7_countOf_n5 σ x1 x2  n) y3 y4
set_option maxRecDepth 100000 in
set_option maxHeartbeats 4000000 in
theorem t_X7_countOf_n5_b {Γ : St → Nat → List (Nat × Value) → List Value → Prop} {l : Launch} {a : Nat → Nat} {r : Int32} {σ : St} (hC : Cx Γ l cX7_countOf RX7 5 (some .int) Rm_X7_countOf wM a (some (.int r)) σ) (x1 : Int32) (x2 : Int32) (self : Int32 → Int32 → Option Int32) (hself : ∀ (y3 : Int32) (y4 : Int32), self y3 y4 = some r → Γ σ 5 [(0, .ref (a 0)), (1, .int x1), (2, .int x2), (3, .int y3), (4, .int y4)] []) (y3 : Int32) (y4 : Int32) (h : f_X7_countOf_n5_b σ x1 x2 self y3 y4 = some r) : Γ σ 5 [(0, .ref (a 0)), (1, .int x1), (2, .int x2), (3, .int y3), (4, .int y4)] [] := by
  unfold f_X7_countOf_n5_b at h
  refine r_iload hC dX7_countOf_5 4 rfl ?_
  refine r_aload_n hC dX7_countOf_7 rfl 0 rfl ?_
  refine G7_60 hC dX7_countOf_8 ?_
  refine r_iload_n hC dX7_countOf_11 rfl 1 rfl ?_
  obtain ⟨hi, h⟩ := inb_of h
  refine L_m_many hC hi dX7_countOf_12 ?_
  refine r_icmp_ge hC 44 dX7_countOf_13 (by decide) (fun q => ?_) (fun q => ?_)
  · replace h := if_p q h
    refine r_iload_n hC dX7_countOf_44 rfl 3 rfl ?_
    exact r_iretP hC dX7_countOf_45 h
  · replace h := if_n q h
    refine r_iload_n hC dX7_countOf_16 rfl 3 rfl ?_
    refine r_aload_n hC dX7_countOf_17 rfl 0 rfl ?_
    refine r_iload_n hC dX7_countOf_18 rfl 1 rfl ?_
    refine r_iload hC dX7_countOf_19 4 rfl ?_
    obtain ⟨v3, hv3, h⟩ := bind_of h
    refine r_callV (As := [.int x1, .int y4]) (rest := [.int y3]) hC (con_X7_at l σ x1 y4 hv3) K7_106 (ob7 a σ) rfl rfl rfl rfl ⟨Nat.le_of_ble_eq_true rfl, Nat.le_of_ble_eq_true rfl⟩ (Nat.le_of_ble_eq_true rfl) dX7_countOf_21 ?_
    refine r_iload_n hC dX7_countOf_24 rfl 2 rfl ?_
    refine r_icmp_ne hC 32 dX7_countOf_25 (by decide) (fun q => ?_) (fun q => ?_)
    · replace h := if_n q h
      refine r_iconst (v := 0) hC dX7_countOf_32 (by decide) ?_
      refine r_sub hC [0, 1, 2, 4] rfl ?_
      exact t_X7_countOf_n33 hC x1 x2 self hself y4 y3 (0 : Int32) h
    · replace h := if_p q h
      refine r_iconst (v := 1) hC dX7_countOf_28 (by decide) ?_
      refine r_goto hC 33 dX7_countOf_29 (by decide) ?_
      refine r_sub hC [0, 1, 2, 4] rfl ?_
      exact t_X7_countOf_n33 hC x1 x2 self hself y4 y3 (1 : Int32) h
set_option maxRecDepth 100000 in
set_option maxHeartbeats 4000000 in
theorem t_X7_countOf_n5 {Γ : St → Nat → List (Nat × Value) → List Value → Prop} {l : Launch} {a : Nat → Nat} {r : Int32} {σ : St} (hC : Cx Γ l cX7_countOf RX7 5 (some .int) Rm_X7_countOf wM a (some (.int r)) σ) (x1 : Int32) (x2 : Int32) (n : Nat) : ∀ (y3 : Int32) (y4 : Int32), f_X7_countOf_n5 σ x1 x2 n y3 y4 = some r → Γ σ 5 [(0, .ref (a 0)), (1, .int x1), (2, .int x2), (3, .int y3), (4, .int y4)] [] := by
  induction n with
  | zero =>
    intro y3 y4  h
    have h : (none : Option Int32) = some r := h
    cases h
  | succ n ih =>
    intro y3 y4  h
    exact t_X7_countOf_n5_b hC x1 x2    (f_X7_countOf_n5 σ x1 x2  n) ih y3 y4  h
def f_X7_countOf (σ : St) (x1 : Int32) (x2 : Int32) : Option Int32 :=
  f_X7_countOf_n5 σ x1 x2 fuel (0 : Int32) (0 : Int32)
set_option maxRecDepth 100000 in
set_option maxHeartbeats 4000000 in
theorem con_X7_countOf (l : Launch) (σ : St) (x1 : Int32) (x2 : Int32) {r : Int32} (h : f_X7_countOf σ x1 x2 = some r) : Con l yX7_countOf cX7_countOf 5 (some .int) Rm_X7_countOf wM (fun a => [.ref (a 0), .int x1, .int x2]) σ (fun _ => some (.int r)) σ := by
  refine con_of (by decide) ⟨rfl, rfl⟩ (fun _ => Nat.le_of_ble_eq_true rfl) (fun Γ a hC => ?_)
  have hC : Cx Γ l cX7_countOf RX7 5 (some .int) Rm_X7_countOf wM a (some (.int r)) σ := hC
  show Γ σ 0 [(0, .ref (a 0)), (1, .int x1), (2, .int x2)] []
  unfold f_X7_countOf at h
  refine r_iconst (v := 0) hC dX7_countOf_0 (by decide) ?_
  refine r_istore_n (lv' := [(3, .int (0 : Int32)), (0, .ref (a 0)), (1, .int x1), (2, .int x2)]) hC dX7_countOf_1 rfl (by decide) rfl rfl ?_
  refine r_iconst (v := 0) hC dX7_countOf_2 (by decide) ?_
  refine r_istore (lv' := [(4, .int (0 : Int32)), (3, .int (0 : Int32)), (0, .ref (a 0)), (1, .int x1), (2, .int x2)]) hC dX7_countOf_3 (by decide) rfl rfl ?_
  refine r_sub hC [2, 3, 4, 1, 0] rfl ?_
  exact t_X7_countOf_n5 hC x1 x2 fuel (0 : Int32) (0 : Int32) h
abbrev Rm_X7_enters : Room := { frames := 0, cells := 0, slots := 0, locals := 0 }
def f_X7_enters (σ : St) (x1 : Int64) : Option St :=
  if in_b (st_i σ 1) 96 = true then
    lt_ (put_l σ 0 (st_i σ 1).toNatClampNeg x1) fun s1 =>
    lt_ (put_i s1 1 ((st_i s1 1) + (1 : Int32))) fun s2 =>
    some s2
  else none
set_option maxRecDepth 100000 in
set_option maxHeartbeats 4000000 in
theorem con_X7_enters (l : Launch) (σ : St) (x1 : Int64) {t' : St} (h : f_X7_enters σ x1 = some t') : Con l yX7_enters cX7_enters 3 none Rm_X7_enters wM (fun a => [.ref (a 0), .long x1]) σ (fun _ => none) t' := by
  refine con_of (by decide) ⟨rfl, rfl⟩ (fun _ => Nat.le_of_ble_eq_true rfl) (fun Γ a hC => ?_)
  have hC : Cx Γ l cX7_enters RX7 3 none Rm_X7_enters wM a (none) t' := hC
  show Γ σ 0 [(0, .ref (a 0)), (1, .long x1)] []
  unfold f_X7_enters at h
  refine r_aload_n hC dX7_enters_0 rfl 0 rfl ?_
  refine G7_7 hC dX7_enters_1 ?_
  refine r_aload_n hC dX7_enters_4 rfl 0 rfl ?_
  refine G7_11 hC dX7_enters_5 ?_
  refine r_lload_n hC dX7_enters_8 rfl 1 rfl ?_
  obtain ⟨hi, h⟩ := inb_of h
  obtain ⟨s1, es1, h⟩ := lt_of h
  refine S_m_row hC es1 hi dX7_enters_9 ?_
  refine r_aload_n hC dX7_enters_10 rfl 0 rfl ?_
  refine r_dup hC dX7_enters_11 rfl ?_
  refine G7_11 hC dX7_enters_12 ?_
  refine r_iconst (v := 1) hC dX7_enters_15 (by decide) ?_
  refine r_iadd hC dX7_enters_16 ?_
  obtain ⟨s2, es2, h⟩ := lt_of h
  refine P7_11 hC es2 dX7_enters_17 ?_
  exact r_vretS hC dX7_enters_20 h
abbrev Rm_X7_after : Room := { frames := 3, cells := 0, slots := 0, locals := 69 }
def f_X7_after_n46 (x1 : Int32) (x2 : Int32) (σ : St) (y3 : Int32) : Option (Int32 × St) :=
  if in_b x1 2 = true then
    if y3 = (st_a σ 2 x1.toNatClampNeg) then
      some ((-2 : Int32), σ)
    else
    (f_X7_lies σ x1).bind fun s3 =>
    lt_ (put_i s3 1 (0 : Int32)) fun s4 =>
    (f_X7_at s4 x1 y3).bind fun v5 =>
    (f_X7_countOf s4 x1 v5).bind fun v6 =>
    (f_X7_enters s4 (v6.toInt64)).bind fun s7 =>
    if in_b y3 64 = true then
      (f_X7_enters s7 (((st_a s7 4 y3.toNatClampNeg)).toInt64)).bind fun s8 =>
      (f_X7_at s8 x1 y3).bind fun v9 =>
      some (v9, s8)
    else none
  else none
set_option maxRecDepth 100000 in
set_option maxHeartbeats 4000000 in
theorem t_X7_after_n46 {Γ : St → Nat → List (Nat × Value) → List Value → Prop} {l : Launch} {a : Nat → Nat} {r : Int32} {t' : St} (hC : Cx Γ l cX7_after RX7 4 (some .int) Rm_X7_after wM a (some (.int r)) t') (x1 : Int32) (x2 : Int32) (σ : St) (y3 : Int32) (h : f_X7_after_n46 x1 x2 σ y3 = some (r, t')) : Γ σ 46 [(0, .ref (a 0)), (1, .int x1), (3, .int y3)] [] := by
  unfold f_X7_after_n46 at h
  refine r_iload_n hC dX7_after_46 rfl 2 rfl ?_
  refine r_aload_n hC dX7_after_47 rfl 0 rfl ?_
  refine G7_60 hC dX7_after_48 ?_
  refine r_iload_n hC dX7_after_51 rfl 1 rfl ?_
  obtain ⟨hi, h⟩ := inb_of h
  refine L_m_many hC hi dX7_after_52 ?_
  refine r_icmp_ne hC 59 dX7_after_53 (by decide) (fun q => ?_) (fun q => ?_)
  · replace h := if_n q h
    refine r_aload_n hC dX7_after_59 rfl 0 rfl ?_
    refine r_iload_n hC dX7_after_60 rfl 1 rfl ?_
    obtain ⟨s3, hs3, h⟩ := bind_of h
    refine r_callV (As := [.int x1]) (rest := []) hC (con_X7_lies l σ x1 hs3) K7_162 (ob7 a σ) rfl rfl rfl rfl ⟨Nat.le_of_ble_eq_true rfl, Nat.le_of_ble_eq_true rfl⟩ (Nat.le_of_ble_eq_true rfl) dX7_after_61 ?_
    refine r_aload_n hC dX7_after_64 rfl 0 rfl ?_
    refine r_iconst (v := 0) hC dX7_after_65 (by decide) ?_
    obtain ⟨s4, es4, h⟩ := lt_of h
    refine P7_11 hC es4 dX7_after_66 ?_
    refine r_aload_n hC dX7_after_69 rfl 0 rfl ?_
    refine r_aload_n hC dX7_after_70 rfl 0 rfl ?_
    refine r_iload_n hC dX7_after_71 rfl 1 rfl ?_
    refine r_aload_n hC dX7_after_72 rfl 0 rfl ?_
    refine r_iload_n hC dX7_after_73 rfl 1 rfl ?_
    refine r_iload_n hC dX7_after_74 rfl 2 rfl ?_
    obtain ⟨v5, hv5, h⟩ := bind_of h
    refine r_callV (As := [.int x1, .int y3]) (rest := [.int x1, .ref (a 0), .ref (a 0)]) hC (con_X7_at l s4 x1 y3 hv5) K7_106 (ob7 a s4) rfl rfl rfl rfl ⟨Nat.le_of_ble_eq_true rfl, Nat.le_of_ble_eq_true rfl⟩ (Nat.le_of_ble_eq_true rfl) dX7_after_75 ?_
    obtain ⟨v6, hv6, h⟩ := bind_of h
    refine r_callV (As := [.int x1, .int v5]) (rest := [.ref (a 0)]) hC (con_X7_countOf l s4 x1 v5 hv6) K7_173 (ob7 a s4) rfl rfl rfl rfl ⟨Nat.le_of_ble_eq_true rfl, Nat.le_of_ble_eq_true rfl⟩ (Nat.le_of_ble_eq_true rfl) dX7_after_78 ?_
    refine r_i2l hC dX7_after_81 ?_
    obtain ⟨s7, hs7, h⟩ := bind_of h
    refine r_callV (As := [.long (v6.toInt64)]) (rest := []) hC (con_X7_enters l s4 (v6.toInt64) hs7) K7_145 (ob7 a s4) rfl rfl rfl rfl ⟨Nat.le_of_ble_eq_true rfl, Nat.le_of_ble_eq_true rfl⟩ (Nat.le_of_ble_eq_true rfl) dX7_after_82 ?_
    refine r_aload_n hC dX7_after_85 rfl 0 rfl ?_
    refine r_aload_n hC dX7_after_86 rfl 0 rfl ?_
    refine G7_66 hC dX7_after_87 ?_
    refine r_iload_n hC dX7_after_90 rfl 2 rfl ?_
    obtain ⟨hi, h⟩ := inb_of h
    refine L_m_where hC hi dX7_after_91 ?_
    refine r_i2l hC dX7_after_92 ?_
    obtain ⟨s8, hs8, h⟩ := bind_of h
    refine r_callV (As := [.long (((st_a s7 4 y3.toNatClampNeg)).toInt64)]) (rest := []) hC (con_X7_enters l s7 (((st_a s7 4 y3.toNatClampNeg)).toInt64) hs8) K7_145 (ob7 a s7) rfl rfl rfl rfl ⟨Nat.le_of_ble_eq_true rfl, Nat.le_of_ble_eq_true rfl⟩ (Nat.le_of_ble_eq_true rfl) dX7_after_93 ?_
    refine r_aload_n hC dX7_after_96 rfl 0 rfl ?_
    refine r_iload_n hC dX7_after_97 rfl 1 rfl ?_
    refine r_iload_n hC dX7_after_98 rfl 2 rfl ?_
    obtain ⟨v9, hv9, h⟩ := bind_of h
    refine r_callV (As := [.int x1, .int y3]) (rest := []) hC (con_X7_at l s8 x1 y3 hv9) K7_106 (ob7 a s8) rfl rfl rfl rfl ⟨Nat.le_of_ble_eq_true rfl, Nat.le_of_ble_eq_true rfl⟩ (Nat.le_of_ble_eq_true rfl) dX7_after_99 ?_
    exact r_iretS hC dX7_after_102 h
  · replace h := if_p q h
    refine r_bipush (v := -2) hC dX7_after_56 (by decide) ?_
    exact r_iretS hC dX7_after_58 h
def f_X7_after_n20_b (x1 : Int32) (x2 : Int32) (self : St → Int32 → Option (Int32 × St)) (σ : St) (y3 : Int32) : Option (Int32 × St) :=
  if in_b x1 2 = true then
    if (st_a σ 2 x1.toNatClampNeg) ≤ y3 then
      f_X7_after_n46 x1 x2 σ y3
    else
    (f_X7_at σ x1 y3).bind fun v1 =>
    if x2 ≤ v1 then
      f_X7_after_n46 x1 x2 σ y3
    else
    lt_ (y3 + (1 : Int32)) fun v2 =>
    self σ v2
  else none
def f_X7_after_n20 (x1 : Int32) (x2 : Int32) : Nat → St → Int32 → Option (Int32 × St)
  | 0 => fun _ _ => none
  | n + 1 => fun σ y3 => f_X7_after_n20_b x1 x2  (f_X7_after_n20 x1 x2  n) σ y3
set_option maxRecDepth 100000 in
set_option maxHeartbeats 4000000 in
theorem t_X7_after_n20_b {Γ : St → Nat → List (Nat × Value) → List Value → Prop} {l : Launch} {a : Nat → Nat} {r : Int32} {t' : St} (hC : Cx Γ l cX7_after RX7 4 (some .int) Rm_X7_after wM a (some (.int r)) t') (x1 : Int32) (x2 : Int32) (self : St → Int32 → Option (Int32 × St)) (hself : ∀ (σ : St) (y3 : Int32), self σ y3 = some (r, t') → Γ σ 20 [(0, .ref (a 0)), (1, .int x1), (2, .int x2), (3, .int y3)] []) (σ : St) (y3 : Int32) (h : f_X7_after_n20_b x1 x2 self σ y3 = some (r, t')) : Γ σ 20 [(0, .ref (a 0)), (1, .int x1), (2, .int x2), (3, .int y3)] [] := by
  unfold f_X7_after_n20_b at h
  refine r_iload_n hC dX7_after_20 rfl 3 rfl ?_
  refine r_aload_n hC dX7_after_21 rfl 0 rfl ?_
  refine G7_60 hC dX7_after_22 ?_
  refine r_iload_n hC dX7_after_25 rfl 1 rfl ?_
  obtain ⟨hi, h⟩ := inb_of h
  refine L_m_many hC hi dX7_after_26 ?_
  refine r_icmp_ge hC 46 dX7_after_27 (by decide) (fun q => ?_) (fun q => ?_)
  · replace h := if_p q h
    refine r_sub hC [0, 1, 3] rfl ?_
    exact t_X7_after_n46 hC x1 x2 σ y3 h
  · replace h := if_n q h
    refine r_aload_n hC dX7_after_30 rfl 0 rfl ?_
    refine r_iload_n hC dX7_after_31 rfl 1 rfl ?_
    refine r_iload_n hC dX7_after_32 rfl 3 rfl ?_
    obtain ⟨v1, hv1, h⟩ := bind_of h
    refine r_callV (As := [.int x1, .int y3]) (rest := []) hC (con_X7_at l σ x1 y3 hv1) K7_106 (ob7 a σ) rfl rfl rfl rfl ⟨Nat.le_of_ble_eq_true rfl, Nat.le_of_ble_eq_true rfl⟩ (Nat.le_of_ble_eq_true rfl) dX7_after_33 ?_
    refine r_iload_n hC dX7_after_36 rfl 2 rfl ?_
    refine r_icmp_ge hC 46 dX7_after_37 (by decide) (fun q => ?_) (fun q => ?_)
    · replace h := if_p q h
      refine r_sub hC [0, 1, 3] rfl ?_
      exact t_X7_after_n46 hC x1 x2 σ y3 h
    · replace h := if_n q h
      obtain ⟨v2, ev2, h⟩ := lt_of h
      refine r_iinc (c1 := 1) (lv' := [(3, .int v2), (0, .ref (a 0)), (1, .int x1), (2, .int x2)]) hC dX7_after_40 3 rfl (by decide) (by decide) ev2 rfl ?_
      refine r_goto hC 20 dX7_after_43 (by decide) ?_
      refine r_sub hC [1, 2, 3, 0] rfl ?_
      exact hself σ v2 h
set_option maxRecDepth 100000 in
set_option maxHeartbeats 4000000 in
theorem t_X7_after_n20 {Γ : St → Nat → List (Nat × Value) → List Value → Prop} {l : Launch} {a : Nat → Nat} {r : Int32} {t' : St} (hC : Cx Γ l cX7_after RX7 4 (some .int) Rm_X7_after wM a (some (.int r)) t') (x1 : Int32) (x2 : Int32) (n : Nat) : ∀ (σ : St) (y3 : Int32), f_X7_after_n20 x1 x2 n σ y3 = some (r, t') → Γ σ 20 [(0, .ref (a 0)), (1, .int x1), (2, .int x2), (3, .int y3)] [] := by
  induction n with
  | zero =>
    intro σ y3  h
    have h : (none : Option (Int32 × St)) = some (r, t') := h
    cases h
  | succ n ih =>
    intro σ y3  h
    exact t_X7_after_n20_b hC x1 x2    (f_X7_after_n20 x1 x2  n) ih σ y3  h
def f_X7_after (σ : St) (x1 : Int32) (x2 : Int32) : Option (Int32 × St) :=
  lt_ (put_i σ 0 (0 : Int32)) fun s10 =>
  if (f_X7_isFile s10 x1) = 0 then
    some ((-1 : Int32), s10)
  else
  if 0 ≤ x2 then
    f_X7_after_n20 x1 x2 fuel s10 (0 : Int32)
  else
  some ((-1 : Int32), s10)
set_option maxRecDepth 100000 in
set_option maxHeartbeats 4000000 in
theorem con_X7_after (l : Launch) (σ : St) (x1 : Int32) (x2 : Int32) {r : Int32} {t' : St} (h : f_X7_after σ x1 x2 = some (r, t')) : Con l yX7_after cX7_after 4 (some .int) Rm_X7_after wM (fun a => [.ref (a 0), .int x1, .int x2]) σ (fun _ => some (.int r)) t' := by
  refine con_of (by decide) ⟨rfl, rfl⟩ (fun _ => Nat.le_of_ble_eq_true rfl) (fun Γ a hC => ?_)
  have hC : Cx Γ l cX7_after RX7 4 (some .int) Rm_X7_after wM a (some (.int r)) t' := hC
  show Γ σ 0 [(0, .ref (a 0)), (1, .int x1), (2, .int x2)] []
  unfold f_X7_after at h
  refine r_aload_n hC dX7_after_0 rfl 0 rfl ?_
  refine r_iconst (v := 0) hC dX7_after_1 (by decide) ?_
  obtain ⟨s10, es10, h⟩ := lt_of h
  refine P7_1 hC es10 dX7_after_2 ?_
  refine r_iload_n hC dX7_after_5 rfl 1 rfl ?_
  refine r_callS (As := [.int x1]) (rest := []) hC (con_X7_isFile l s10 x1 rfl) K7_136 rfl rfl rfl ⟨Nat.le_of_ble_eq_true rfl, Nat.le_of_ble_eq_true rfl⟩ (Nat.le_of_ble_eq_true rfl) dX7_after_6 ?_
  refine r_if_eq hC 16 dX7_after_9 (by decide) (fun q => ?_) (fun q => ?_)
  · replace h := if_p q h
    refine r_iconst (v := -1) hC dX7_after_16 (by decide) ?_
    exact r_iretS hC dX7_after_17 h
  · replace h := if_n q h
    refine r_iload_n hC dX7_after_12 rfl 2 rfl ?_
    refine r_if_ge hC 18 dX7_after_13 (by decide) (fun q => ?_) (fun q => ?_)
    · replace h := if_p q h
      refine r_iconst (v := 0) hC dX7_after_18 (by decide) ?_
      refine r_istore_n (lv' := [(3, .int (0 : Int32)), (0, .ref (a 0)), (1, .int x1), (2, .int x2)]) hC dX7_after_19 rfl (by decide) rfl rfl ?_
      refine r_sub hC [1, 2, 3, 0] rfl ?_
      exact t_X7_after_n20 hC x1 x2 fuel s10 (0 : Int32) h
    · replace h := if_n q h
      refine r_iconst (v := -1) hC dX7_after_16 (by decide) ?_
      exact r_iretS hC dX7_after_17 h
abbrev Rm_X7_begins : Room := { frames := 0, cells := 0, slots := 0, locals := 0 }
def f_X7_begins (σ : St) (x1 : Int32) : Option Int32 :=
  if in_b x1 64 = true then
    if (st_a σ 5 x1.toNatClampNeg) < 0 then
      some (0 : Int32)
    else
    if in_b x1 64 = true then
      if ((st_a σ 6 x1.toNatClampNeg) &&& (4 : Int32)) = 0 then
        some (1 : Int32)
      else
      some (0 : Int32)
    else none
  else none
set_option maxRecDepth 100000 in
set_option maxHeartbeats 4000000 in
theorem con_X7_begins (l : Launch) (σ : St) (x1 : Int32) {r : Int32} (h : f_X7_begins σ x1 = some r) : Con l yX7_begins cX7_begins 2 (some .boolean) Rm_X7_begins wM (fun a => [.ref (a 0), .int x1]) σ (fun _ => some (.int r)) σ := by
  refine con_of (by decide) ⟨rfl, rfl⟩ (fun _ => Nat.le_of_ble_eq_true rfl) (fun Γ a hC => ?_)
  have hC : Cx Γ l cX7_begins RX7 2 (some .boolean) Rm_X7_begins wM a (some (.int r)) σ := hC
  show Γ σ 0 [(0, .ref (a 0)), (1, .int x1)] []
  unfold f_X7_begins at h
  refine r_aload_n hC dX7_begins_0 rfl 0 rfl ?_
  refine G7_69 hC dX7_begins_1 ?_
  refine r_iload_n hC dX7_begins_4 rfl 1 rfl ?_
  obtain ⟨hi, h⟩ := inb_of h
  refine L_m_holds hC hi dX7_begins_5 ?_
  refine r_if_lt hC 24 dX7_begins_6 (by decide) (fun q => ?_) (fun q => ?_)
  · replace h := if_p q h
    refine r_iconst (v := 0) hC dX7_begins_24 (by decide) ?_
    exact r_zretP hC rfl dX7_begins_25 h
  · replace h := if_n q h
    refine r_aload_n hC dX7_begins_9 rfl 0 rfl ?_
    refine G7_72 hC dX7_begins_10 ?_
    refine r_iload_n hC dX7_begins_13 rfl 1 rfl ?_
    obtain ⟨hi, h⟩ := inb_of h
    refine L_m_marks hC hi dX7_begins_14 ?_
    refine r_iconst (v := 4) hC dX7_begins_15 (by decide) ?_
    refine r_iand hC dX7_begins_16 ?_
    refine r_if_ne hC 24 dX7_begins_17 (by decide) (fun q => ?_) (fun q => ?_)
    · replace h := if_n q h
      refine r_iconst (v := 0) hC dX7_begins_24 (by decide) ?_
      exact r_zretP hC rfl dX7_begins_25 h
    · replace h := if_p q h
      refine r_iconst (v := 1) hC dX7_begins_20 (by decide) ?_
      refine r_goto hC 25 dX7_begins_21 (by decide) ?_
      exact r_zretP hC rfl dX7_begins_25 h
abbrev Rm_X7_looksFor : Room := { frames := 2, cells := 0, slots := 0, locals := 43 }
def f_X7_looksFor_n5_b (σ : St) (x1 : Int32) (x2 : Int32) (self : Int32 → Int32 → Option Int32) (y3 : Int32) (y4 : Int32) : Option Int32 :=
  if in_b x1 2 = true then
    if (st_a σ 2 x1.toNatClampNeg) ≤ y4 then
      some y3
    else
    (f_X7_at σ x1 y4).bind fun v1 =>
    (f_X7_quotientOf σ x1 v1).bind fun v2 =>
    (f_X7_quotientOf σ x1 x2).bind fun v3 =>
    if v2 = v3 then
      lt_ (y3 + (1 : Int32)) fun v4 =>
      (f_X7_at σ x1 y4).bind fun v5 =>
      if v5 ≤ x2 then
        lt_ (y4 + (1 : Int32)) fun v6 =>
        self v4 v6
      else
      some v4
    else
    lt_ (y4 + (1 : Int32)) fun v7 =>
    self y3 v7
  else none
def f_X7_looksFor_n5 (σ : St) (x1 : Int32) (x2 : Int32) : Nat → Int32 → Int32 → Option Int32
  | 0 => fun _ _ => none
  | n + 1 => fun y3 y4 => f_X7_looksFor_n5_b σ x1 x2  (f_X7_looksFor_n5 σ x1 x2  n) y3 y4
set_option maxRecDepth 100000 in
set_option maxHeartbeats 4000000 in
theorem t_X7_looksFor_n5_b {Γ : St → Nat → List (Nat × Value) → List Value → Prop} {l : Launch} {a : Nat → Nat} {r : Int32} {σ : St} (hC : Cx Γ l cX7_looksFor RX7 5 (some .int) Rm_X7_looksFor wM a (some (.int r)) σ) (x1 : Int32) (x2 : Int32) (self : Int32 → Int32 → Option Int32) (hself : ∀ (y3 : Int32) (y4 : Int32), self y3 y4 = some r → Γ σ 5 [(0, .ref (a 0)), (1, .int x1), (2, .int x2), (3, .int y3), (4, .int y4)] []) (y3 : Int32) (y4 : Int32) (h : f_X7_looksFor_n5_b σ x1 x2 self y3 y4 = some r) : Γ σ 5 [(0, .ref (a 0)), (1, .int x1), (2, .int x2), (3, .int y3), (4, .int y4)] [] := by
  unfold f_X7_looksFor_n5_b at h
  refine r_iload hC dX7_looksFor_5 4 rfl ?_
  refine r_aload_n hC dX7_looksFor_7 rfl 0 rfl ?_
  refine G7_60 hC dX7_looksFor_8 ?_
  refine r_iload_n hC dX7_looksFor_11 rfl 1 rfl ?_
  obtain ⟨hi, h⟩ := inb_of h
  refine L_m_many hC hi dX7_looksFor_12 ?_
  refine r_icmp_ge hC 62 dX7_looksFor_13 (by decide) (fun q => ?_) (fun q => ?_)
  · replace h := if_p q h
    refine r_iload_n hC dX7_looksFor_62 rfl 3 rfl ?_
    exact r_iretP hC dX7_looksFor_63 h
  · replace h := if_n q h
    refine r_aload_n hC dX7_looksFor_16 rfl 0 rfl ?_
    refine r_iload_n hC dX7_looksFor_17 rfl 1 rfl ?_
    refine r_aload_n hC dX7_looksFor_18 rfl 0 rfl ?_
    refine r_iload_n hC dX7_looksFor_19 rfl 1 rfl ?_
    refine r_iload hC dX7_looksFor_20 4 rfl ?_
    obtain ⟨v1, hv1, h⟩ := bind_of h
    refine r_callV (As := [.int x1, .int y4]) (rest := [.int x1, .ref (a 0)]) hC (con_X7_at l σ x1 y4 hv1) K7_106 (ob7 a σ) rfl rfl rfl rfl ⟨Nat.le_of_ble_eq_true rfl, Nat.le_of_ble_eq_true rfl⟩ (Nat.le_of_ble_eq_true rfl) dX7_looksFor_22 ?_
    obtain ⟨v2, hv2, h⟩ := bind_of h
    refine r_callV (As := [.int x1, .int v1]) (rest := []) hC (con_X7_quotientOf l σ x1 v1 hv2) K7_129 (ob7 a σ) rfl rfl rfl rfl ⟨Nat.le_of_ble_eq_true rfl, Nat.le_of_ble_eq_true rfl⟩ (Nat.le_of_ble_eq_true rfl) dX7_looksFor_25 ?_
    refine r_aload_n hC dX7_looksFor_28 rfl 0 rfl ?_
    refine r_iload_n hC dX7_looksFor_29 rfl 1 rfl ?_
    refine r_iload_n hC dX7_looksFor_30 rfl 2 rfl ?_
    obtain ⟨v3, hv3, h⟩ := bind_of h
    refine r_callV (As := [.int x1, .int x2]) (rest := [.int v2]) hC (con_X7_quotientOf l σ x1 x2 hv3) K7_129 (ob7 a σ) rfl rfl rfl rfl ⟨Nat.le_of_ble_eq_true rfl, Nat.le_of_ble_eq_true rfl⟩ (Nat.le_of_ble_eq_true rfl) dX7_looksFor_31 ?_
    refine r_icmp_eq hC 40 dX7_looksFor_34 (by decide) (fun q => ?_) (fun q => ?_)
    · replace h := if_p q h
      obtain ⟨v4, ev4, h⟩ := lt_of h
      refine r_iinc (c1 := 1) (lv' := [(3, .int v4), (0, .ref (a 0)), (1, .int x1), (2, .int x2), (4, .int y4)]) hC dX7_looksFor_40 3 rfl (by decide) (by decide) ev4 rfl ?_
      refine r_aload_n hC dX7_looksFor_43 rfl 1 rfl ?_
      refine r_iload_n hC dX7_looksFor_44 rfl 2 rfl ?_
      refine r_iload hC dX7_looksFor_45 4 rfl ?_
      obtain ⟨v5, hv5, h⟩ := bind_of h
      refine r_callV (As := [.int x1, .int y4]) (rest := []) hC (con_X7_at l σ x1 y4 hv5) K7_106 (ob7 a σ) rfl rfl rfl rfl ⟨Nat.le_of_ble_eq_true rfl, Nat.le_of_ble_eq_true rfl⟩ (Nat.le_of_ble_eq_true rfl) dX7_looksFor_47 ?_
      refine r_iload_n hC dX7_looksFor_50 rfl 3 rfl ?_
      refine r_icmp_le hC 56 dX7_looksFor_51 (by decide) (fun q => ?_) (fun q => ?_)
      · replace h := if_p q h
        obtain ⟨v6, ev6, h⟩ := lt_of h
        refine r_iinc (c1 := 1) (lv' := [(4, .int v6), (3, .int v4), (0, .ref (a 0)), (1, .int x1), (2, .int x2)]) hC dX7_looksFor_56 4 rfl (by decide) (by decide) ev6 rfl ?_
        refine r_goto hC 5 dX7_looksFor_59 (by decide) ?_
        refine r_sub hC [2, 3, 4, 1, 0] rfl ?_
        exact hself v4 v6 h
      · replace h := if_n q h
        refine r_iload_n hC dX7_looksFor_54 rfl 0 rfl ?_
        exact r_iretP hC dX7_looksFor_55 h
    · replace h := if_n q h
      refine r_goto hC 56 dX7_looksFor_37 (by decide) ?_
      obtain ⟨v7, ev7, h⟩ := lt_of h
      refine r_iinc (c1 := 1) (lv' := [(4, .int v7), (0, .ref (a 0)), (1, .int x1), (2, .int x2), (3, .int y3)]) hC dX7_looksFor_56 4 rfl (by decide) (by decide) ev7 rfl ?_
      refine r_goto hC 5 dX7_looksFor_59 (by decide) ?_
      refine r_sub hC [1, 2, 3, 4, 0] rfl ?_
      exact hself y3 v7 h
set_option maxRecDepth 100000 in
set_option maxHeartbeats 4000000 in
theorem t_X7_looksFor_n5 {Γ : St → Nat → List (Nat × Value) → List Value → Prop} {l : Launch} {a : Nat → Nat} {r : Int32} {σ : St} (hC : Cx Γ l cX7_looksFor RX7 5 (some .int) Rm_X7_looksFor wM a (some (.int r)) σ) (x1 : Int32) (x2 : Int32) (n : Nat) : ∀ (y3 : Int32) (y4 : Int32), f_X7_looksFor_n5 σ x1 x2 n y3 y4 = some r → Γ σ 5 [(0, .ref (a 0)), (1, .int x1), (2, .int x2), (3, .int y3), (4, .int y4)] [] := by
  induction n with
  | zero =>
    intro y3 y4  h
    have h : (none : Option Int32) = some r := h
    cases h
  | succ n ih =>
    intro y3 y4  h
    exact t_X7_looksFor_n5_b hC x1 x2    (f_X7_looksFor_n5 σ x1 x2  n) ih y3 y4  h
def f_X7_looksFor (σ : St) (x1 : Int32) (x2 : Int32) : Option Int32 :=
  f_X7_looksFor_n5 σ x1 x2 fuel (0 : Int32) (0 : Int32)
set_option maxRecDepth 100000 in
set_option maxHeartbeats 4000000 in
theorem con_X7_looksFor (l : Launch) (σ : St) (x1 : Int32) (x2 : Int32) {r : Int32} (h : f_X7_looksFor σ x1 x2 = some r) : Con l yX7_looksFor cX7_looksFor 5 (some .int) Rm_X7_looksFor wM (fun a => [.ref (a 0), .int x1, .int x2]) σ (fun _ => some (.int r)) σ := by
  refine con_of (by decide) ⟨rfl, rfl⟩ (fun _ => Nat.le_of_ble_eq_true rfl) (fun Γ a hC => ?_)
  have hC : Cx Γ l cX7_looksFor RX7 5 (some .int) Rm_X7_looksFor wM a (some (.int r)) σ := hC
  show Γ σ 0 [(0, .ref (a 0)), (1, .int x1), (2, .int x2)] []
  unfold f_X7_looksFor at h
  refine r_iconst (v := 0) hC dX7_looksFor_0 (by decide) ?_
  refine r_istore_n (lv' := [(3, .int (0 : Int32)), (0, .ref (a 0)), (1, .int x1), (2, .int x2)]) hC dX7_looksFor_1 rfl (by decide) rfl rfl ?_
  refine r_iconst (v := 0) hC dX7_looksFor_2 (by decide) ?_
  refine r_istore (lv' := [(4, .int (0 : Int32)), (3, .int (0 : Int32)), (0, .ref (a 0)), (1, .int x1), (2, .int x2)]) hC dX7_looksFor_3 (by decide) rfl rfl ?_
  refine r_sub hC [2, 3, 4, 1, 0] rfl ?_
  exact t_X7_looksFor_n5 hC x1 x2 fuel (0 : Int32) (0 : Int32) h
abbrev Rm_X7_looksAll : Room := { frames := 3, cells := 0, slots := 0, locals := 67 }
def f_X7_looksAll_n4_b (σ : St) (x1 : Int32) (self : Int32 → Int32 → Option Int32) (y2 : Int32) (y3 : Int32) : Option Int32 :=
  if in_b x1 2 = true then
    if (st_a σ 2 x1.toNatClampNeg) ≤ y3 then
      some y2
    else
    (f_X7_at σ x1 y3).bind fun v1 =>
    (f_X7_looksFor σ x1 v1).bind fun v2 =>
    lt_ (y2 + v2) fun v3 =>
    lt_ (y3 + (1 : Int32)) fun v4 =>
    self v3 v4
  else none
def f_X7_looksAll_n4 (σ : St) (x1 : Int32) : Nat → Int32 → Int32 → Option Int32
  | 0 => fun _ _ => none
  | n + 1 => fun y2 y3 => f_X7_looksAll_n4_b σ x1  (f_X7_looksAll_n4 σ x1  n) y2 y3
set_option maxRecDepth 100000 in
set_option maxHeartbeats 4000000 in
theorem t_X7_looksAll_n4_b {Γ : St → Nat → List (Nat × Value) → List Value → Prop} {l : Launch} {a : Nat → Nat} {r : Int32} {σ : St} (hC : Cx Γ l cX7_looksAll RX7 4 (some .int) Rm_X7_looksAll wM a (some (.int r)) σ) (x1 : Int32) (self : Int32 → Int32 → Option Int32) (hself : ∀ (y2 : Int32) (y3 : Int32), self y2 y3 = some r → Γ σ 4 [(0, .ref (a 0)), (1, .int x1), (2, .int y2), (3, .int y3)] []) (y2 : Int32) (y3 : Int32) (h : f_X7_looksAll_n4_b σ x1 self y2 y3 = some r) : Γ σ 4 [(0, .ref (a 0)), (1, .int x1), (2, .int y2), (3, .int y3)] [] := by
  unfold f_X7_looksAll_n4_b at h
  refine r_iload_n hC dX7_looksAll_4 rfl 3 rfl ?_
  refine r_aload_n hC dX7_looksAll_5 rfl 0 rfl ?_
  refine G7_60 hC dX7_looksAll_6 ?_
  refine r_iload_n hC dX7_looksAll_9 rfl 1 rfl ?_
  obtain ⟨hi, h⟩ := inb_of h
  refine L_m_many hC hi dX7_looksAll_10 ?_
  refine r_icmp_ge hC 34 dX7_looksAll_11 (by decide) (fun q => ?_) (fun q => ?_)
  · replace h := if_p q h
    refine r_iload_n hC dX7_looksAll_34 rfl 2 rfl ?_
    exact r_iretP hC dX7_looksAll_35 h
  · replace h := if_n q h
    refine r_iload_n hC dX7_looksAll_14 rfl 2 rfl ?_
    refine r_aload_n hC dX7_looksAll_15 rfl 0 rfl ?_
    refine r_iload_n hC dX7_looksAll_16 rfl 1 rfl ?_
    refine r_aload_n hC dX7_looksAll_17 rfl 0 rfl ?_
    refine r_iload_n hC dX7_looksAll_18 rfl 1 rfl ?_
    refine r_iload_n hC dX7_looksAll_19 rfl 3 rfl ?_
    obtain ⟨v1, hv1, h⟩ := bind_of h
    refine r_callV (As := [.int x1, .int y3]) (rest := [.int x1, .ref (a 0), .int y2]) hC (con_X7_at l σ x1 y3 hv1) K7_106 (ob7 a σ) rfl rfl rfl rfl ⟨Nat.le_of_ble_eq_true rfl, Nat.le_of_ble_eq_true rfl⟩ (Nat.le_of_ble_eq_true rfl) dX7_looksAll_20 ?_
    obtain ⟨v2, hv2, h⟩ := bind_of h
    refine r_callV (As := [.int x1, .int v1]) (rest := [.int y2]) hC (con_X7_looksFor l σ x1 v1 hv2) K7_176 (ob7 a σ) rfl rfl rfl rfl ⟨Nat.le_of_ble_eq_true rfl, Nat.le_of_ble_eq_true rfl⟩ (Nat.le_of_ble_eq_true rfl) dX7_looksAll_23 ?_
    refine r_iadd hC dX7_looksAll_26 ?_
    obtain ⟨v3, ev3, h⟩ := lt_of h
    refine r_istore_n (lv' := [(2, .int v3), (0, .ref (a 0)), (1, .int x1), (3, .int y3)]) hC dX7_looksAll_27 rfl (by decide) ev3 rfl ?_
    obtain ⟨v4, ev4, h⟩ := lt_of h
    refine r_iinc (c1 := 1) (lv' := [(3, .int v4), (2, .int v3), (0, .ref (a 0)), (1, .int x1)]) hC dX7_looksAll_28 3 rfl (by decide) (by decide) ev4 rfl ?_
    refine r_goto hC 4 dX7_looksAll_31 (by decide) ?_
    refine r_sub hC [2, 3, 1, 0] rfl ?_
    exact hself v3 v4 h
set_option maxRecDepth 100000 in
set_option maxHeartbeats 4000000 in
theorem t_X7_looksAll_n4 {Γ : St → Nat → List (Nat × Value) → List Value → Prop} {l : Launch} {a : Nat → Nat} {r : Int32} {σ : St} (hC : Cx Γ l cX7_looksAll RX7 4 (some .int) Rm_X7_looksAll wM a (some (.int r)) σ) (x1 : Int32) (n : Nat) : ∀ (y2 : Int32) (y3 : Int32), f_X7_looksAll_n4 σ x1 n y2 y3 = some r → Γ σ 4 [(0, .ref (a 0)), (1, .int x1), (2, .int y2), (3, .int y3)] [] := by
  induction n with
  | zero =>
    intro y2 y3  h
    have h : (none : Option Int32) = some r := h
    cases h
  | succ n ih =>
    intro y2 y3  h
    exact t_X7_looksAll_n4_b hC x1    (f_X7_looksAll_n4 σ x1  n) ih y2 y3  h
def f_X7_looksAll (σ : St) (x1 : Int32) : Option Int32 :=
  f_X7_looksAll_n4 σ x1 fuel (0 : Int32) (0 : Int32)
set_option maxRecDepth 100000 in
set_option maxHeartbeats 4000000 in
theorem con_X7_looksAll (l : Launch) (σ : St) (x1 : Int32) {r : Int32} (h : f_X7_looksAll σ x1 = some r) : Con l yX7_looksAll cX7_looksAll 4 (some .int) Rm_X7_looksAll wM (fun a => [.ref (a 0), .int x1]) σ (fun _ => some (.int r)) σ := by
  refine con_of (by decide) ⟨rfl, rfl⟩ (fun _ => Nat.le_of_ble_eq_true rfl) (fun Γ a hC => ?_)
  have hC : Cx Γ l cX7_looksAll RX7 4 (some .int) Rm_X7_looksAll wM a (some (.int r)) σ := hC
  show Γ σ 0 [(0, .ref (a 0)), (1, .int x1)] []
  unfold f_X7_looksAll at h
  refine r_iconst (v := 0) hC dX7_looksAll_0 (by decide) ?_
  refine r_istore_n (lv' := [(2, .int (0 : Int32)), (0, .ref (a 0)), (1, .int x1)]) hC dX7_looksAll_1 rfl (by decide) rfl rfl ?_
  refine r_iconst (v := 0) hC dX7_looksAll_2 (by decide) ?_
  refine r_istore_n (lv' := [(3, .int (0 : Int32)), (2, .int (0 : Int32)), (0, .ref (a 0)), (1, .int x1)]) hC dX7_looksAll_3 rfl (by decide) rfl rfl ?_
  refine r_sub hC [2, 3, 1, 0] rfl ?_
  exact t_X7_looksAll_n4 hC x1 fuel (0 : Int32) (0 : Int32) h
abbrev Rm_X7_best : Room := { frames := 4, cells := 0, slots := 0, locals := 90 }
def f_X7_best_n92 (x1 : Int32) (k34 : St → Int32 → Int32 → Int32 → Int32 → Option (Int32 × St)) (σ : St) (y2 : Int32) (y3 : Int32) (y4 : Int32) (y5 : Int32) (y6 : Int32) (w0 : Int32) : Option (Int32 × St) :=
  (f_X7_enters σ (w0.toInt64)).bind fun s4 =>
  if y6 = 0 then
    lt_ (y5 + (1 : Int32)) fun v5 =>
    k34 s4 y2 y3 y4 v5
  else
  if y3 < 0 then
    lt_ (y5 + (1 : Int32)) fun v6 =>
    k34 s4 y2 y5 w0 v6
  else
  if y4 ≤ w0 then
    lt_ (y5 + (1 : Int32)) fun v7 =>
    k34 s4 y2 y3 y4 v7
  else
  lt_ (y5 + (1 : Int32)) fun v8 =>
  k34 s4 y2 y5 w0 v8
set_option maxRecDepth 100000 in
set_option maxHeartbeats 4000000 in
theorem t_X7_best_n92 {Γ : St → Nat → List (Nat × Value) → List Value → Prop} {l : Launch} {a : Nat → Nat} {r : Int32} {t' : St} (hC : Cx Γ l cX7_best RX7 8 (some .int) Rm_X7_best wM a (some (.int r)) t') (x1 : Int32) (k34 : St → Int32 → Int32 → Int32 → Int32 → Option (Int32 × St)) (hk34 : ∀ (σ : St) (y2 : Int32) (y3 : Int32) (y4 : Int32) (y5 : Int32), k34 σ y2 y3 y4 y5 = some (r, t') → Γ σ 34 [(0, .ref (a 0)), (1, .int x1), (2, .int y2), (3, .int y3), (4, .int y4), (5, .int y5)] []) (σ : St) (y2 : Int32) (y3 : Int32) (y4 : Int32) (y5 : Int32) (y6 : Int32) (w0 : Int32) (h : f_X7_best_n92 x1 k34 σ y2 y3 y4 y5 y6 w0 = some (r, t')) : Γ σ 92 [(0, .ref (a 0)), (1, .int x1), (2, .int y2), (3, .int y3), (4, .int y4), (5, .int y5), (6, .int y6)] [.int w0] := by
  unfold f_X7_best_n92 at h
  refine r_istore (lv' := [(7, .int w0), (0, .ref (a 0)), (1, .int x1), (2, .int y2), (3, .int y3), (4, .int y4), (5, .int y5), (6, .int y6)]) hC dX7_best_92 (by decide) rfl rfl ?_
  refine r_aload_n hC dX7_best_94 rfl 1 rfl ?_
  refine r_iload hC dX7_best_95 0 rfl ?_
  refine r_i2l hC dX7_best_97 ?_
  obtain ⟨s4, hs4, h⟩ := bind_of h
  refine r_callV (As := [.long (w0.toInt64)]) (rest := []) hC (con_X7_enters l σ (w0.toInt64) hs4) K7_145 (ob7 a σ) rfl rfl rfl rfl ⟨Nat.le_of_ble_eq_true rfl, Nat.le_of_ble_eq_true rfl⟩ (Nat.le_of_ble_eq_true rfl) dX7_best_98 ?_
  refine r_iload hC dX7_best_101 7 rfl ?_
  refine r_if_eq hC 124 dX7_best_103 (by decide) (fun q => ?_) (fun q => ?_)
  · replace h := if_p q h
    obtain ⟨v5, ev5, h⟩ := lt_of h
    refine r_iinc (c1 := 1) (lv' := [(5, .int v5), (7, .int w0), (0, .ref (a 0)), (1, .int x1), (2, .int y2), (3, .int y3), (4, .int y4), (6, .int y6)]) hC dX7_best_124 6 rfl (by decide) (by decide) ev5 rfl ?_
    refine r_goto hC 34 dX7_best_127 (by decide) ?_
    refine r_sub hC [2, 3, 4, 5, 6, 0] rfl ?_
    exact hk34 s4 y2 y3 y4 v5 h
  · replace h := if_n q h
    refine r_iload_n hC dX7_best_106 rfl 4 rfl ?_
    refine r_if_lt hC 117 dX7_best_107 (by decide) (fun q => ?_) (fun q => ?_)
    · replace h := if_p q h
      refine r_iload hC dX7_best_117 6 rfl ?_
      refine r_istore_n (lv' := [(3, .int y5), (7, .int w0), (0, .ref (a 0)), (1, .int x1), (2, .int y2), (4, .int y4), (5, .int y5), (6, .int y6)]) hC dX7_best_119 rfl (by decide) rfl rfl ?_
      refine r_iload hC dX7_best_120 1 rfl ?_
      refine r_istore (lv' := [(4, .int w0), (3, .int y5), (7, .int w0), (0, .ref (a 0)), (1, .int x1), (2, .int y2), (5, .int y5), (6, .int y6)]) hC dX7_best_122 (by decide) rfl rfl ?_
      obtain ⟨v6, ev6, h⟩ := lt_of h
      refine r_iinc (c1 := 1) (lv' := [(5, .int v6), (4, .int w0), (3, .int y5), (7, .int w0), (0, .ref (a 0)), (1, .int x1), (2, .int y2), (6, .int y6)]) hC dX7_best_124 6 rfl (by decide) (by decide) ev6 rfl ?_
      refine r_goto hC 34 dX7_best_127 (by decide) ?_
      refine r_sub hC [4, 5, 6, 2, 1, 0] rfl ?_
      exact hk34 s4 y2 y5 w0 v6 h
    · replace h := if_n q h
      refine r_iload hC dX7_best_110 0 rfl ?_
      refine r_iload hC dX7_best_112 5 rfl ?_
      refine r_icmp_ge hC 124 dX7_best_114 (by decide) (fun q => ?_) (fun q => ?_)
      · replace h := if_p q h
        obtain ⟨v7, ev7, h⟩ := lt_of h
        refine r_iinc (c1 := 1) (lv' := [(5, .int v7), (7, .int w0), (0, .ref (a 0)), (1, .int x1), (2, .int y2), (3, .int y3), (4, .int y4), (6, .int y6)]) hC dX7_best_124 6 rfl (by decide) (by decide) ev7 rfl ?_
        refine r_goto hC 34 dX7_best_127 (by decide) ?_
        refine r_sub hC [2, 3, 4, 5, 6, 0] rfl ?_
        exact hk34 s4 y2 y3 y4 v7 h
      · replace h := if_n q h
        refine r_iload hC dX7_best_117 6 rfl ?_
        refine r_istore_n (lv' := [(3, .int y5), (7, .int w0), (0, .ref (a 0)), (1, .int x1), (2, .int y2), (4, .int y4), (5, .int y5), (6, .int y6)]) hC dX7_best_119 rfl (by decide) rfl rfl ?_
        refine r_iload hC dX7_best_120 1 rfl ?_
        refine r_istore (lv' := [(4, .int w0), (3, .int y5), (7, .int w0), (0, .ref (a 0)), (1, .int x1), (2, .int y2), (5, .int y5), (6, .int y6)]) hC dX7_best_122 (by decide) rfl rfl ?_
        obtain ⟨v8, ev8, h⟩ := lt_of h
        refine r_iinc (c1 := 1) (lv' := [(5, .int v8), (4, .int w0), (3, .int y5), (7, .int w0), (0, .ref (a 0)), (1, .int x1), (2, .int y2), (6, .int y6)]) hC dX7_best_124 6 rfl (by decide) (by decide) ev8 rfl ?_
        refine r_goto hC 34 dX7_best_127 (by decide) ?_
        refine r_sub hC [4, 5, 6, 2, 1, 0] rfl ?_
        exact hk34 s4 y2 y5 w0 v8 h
def f_X7_best_n68 (x1 : Int32) (k34 : St → Int32 → Int32 → Int32 → Int32 → Option (Int32 × St)) (σ : St) (y2 : Int32) (y3 : Int32) (y4 : Int32) (y5 : Int32) (w0 : Int32) : Option (Int32 × St) :=
  if in_b x1 2 = true then
    lt_ (put_a σ 1 x1.toNatClampNeg y5) fun s2 =>
    if w0 = 0 then
      f_X7_best_n92 x1 k34 s2 y2 y3 y4 y5 w0 (-1 : Int32)
    else
    (f_X7_looksAll s2 x1).bind fun v3 =>
    f_X7_best_n92 x1 k34 s2 y2 y3 y4 y5 w0 v3
  else none
set_option maxRecDepth 100000 in
set_option maxHeartbeats 4000000 in
theorem t_X7_best_n68 {Γ : St → Nat → List (Nat × Value) → List Value → Prop} {l : Launch} {a : Nat → Nat} {r : Int32} {t' : St} (hC : Cx Γ l cX7_best RX7 8 (some .int) Rm_X7_best wM a (some (.int r)) t') (x1 : Int32) (k34 : St → Int32 → Int32 → Int32 → Int32 → Option (Int32 × St)) (hk34 : ∀ (σ : St) (y2 : Int32) (y3 : Int32) (y4 : Int32) (y5 : Int32), k34 σ y2 y3 y4 y5 = some (r, t') → Γ σ 34 [(0, .ref (a 0)), (1, .int x1), (2, .int y2), (3, .int y3), (4, .int y4), (5, .int y5)] []) (σ : St) (y2 : Int32) (y3 : Int32) (y4 : Int32) (y5 : Int32) (w0 : Int32) (h : f_X7_best_n68 x1 k34 σ y2 y3 y4 y5 w0 = some (r, t')) : Γ σ 68 [(0, .ref (a 0)), (1, .int x1), (2, .int y2), (3, .int y3), (4, .int y4), (5, .int y5)] [.int w0] := by
  unfold f_X7_best_n68 at h
  refine r_istore (lv' := [(6, .int w0), (0, .ref (a 0)), (1, .int x1), (2, .int y2), (3, .int y3), (4, .int y4), (5, .int y5)]) hC dX7_best_68 (by decide) rfl rfl ?_
  refine r_aload_n hC dX7_best_70 rfl 1 rfl ?_
  refine G7_57 hC dX7_best_71 ?_
  refine r_iload_n hC dX7_best_74 rfl 2 rfl ?_
  refine r_iload hC dX7_best_75 6 rfl ?_
  obtain ⟨hi, h⟩ := inb_of h
  obtain ⟨s2, es2, h⟩ := lt_of h
  refine S_m_q hC es2 hi dX7_best_77 ?_
  refine r_iload hC dX7_best_78 0 rfl ?_
  refine r_if_eq hC 91 dX7_best_80 (by decide) (fun q => ?_) (fun q => ?_)
  · replace h := if_p q h
    refine r_iconst (v := -1) hC dX7_best_91 (by decide) ?_
    refine r_sub hC [1, 2, 3, 4, 5, 6, 0] rfl ?_
    exact t_X7_best_n92 hC x1 k34 hk34 s2 y2 y3 y4 y5 w0 (-1 : Int32) h
  · replace h := if_n q h
    refine r_aload_n hC dX7_best_83 rfl 1 rfl ?_
    refine r_iload_n hC dX7_best_84 rfl 2 rfl ?_
    obtain ⟨v3, hv3, h⟩ := bind_of h
    refine r_callV (As := [.int x1]) (rest := []) hC (con_X7_looksAll l s2 x1 hv3) K7_275 (ob7 a s2) rfl rfl rfl rfl ⟨Nat.le_of_ble_eq_true rfl, Nat.le_of_ble_eq_true rfl⟩ (Nat.le_of_ble_eq_true rfl) dX7_best_85 ?_
    refine r_goto hC 92 dX7_best_88 (by decide) ?_
    refine r_sub hC [1, 2, 3, 4, 5, 6, 0] rfl ?_
    exact t_X7_best_n92 hC x1 k34 hk34 s2 y2 y3 y4 y5 w0 v3 h
def f_X7_best_n67 (x1 : Int32) (k34 : St → Int32 → Int32 → Int32 → Int32 → Option (Int32 × St)) (σ : St) (y2 : Int32) (y3 : Int32) (y4 : Int32) (y5 : Int32) : Option (Int32 × St) :=
  f_X7_best_n68 x1 k34 σ y2 y3 y4 y5 (0 : Int32)
set_option maxRecDepth 100000 in
set_option maxHeartbeats 4000000 in
theorem t_X7_best_n67 {Γ : St → Nat → List (Nat × Value) → List Value → Prop} {l : Launch} {a : Nat → Nat} {r : Int32} {t' : St} (hC : Cx Γ l cX7_best RX7 8 (some .int) Rm_X7_best wM a (some (.int r)) t') (x1 : Int32) (k34 : St → Int32 → Int32 → Int32 → Int32 → Option (Int32 × St)) (hk34 : ∀ (σ : St) (y2 : Int32) (y3 : Int32) (y4 : Int32) (y5 : Int32), k34 σ y2 y3 y4 y5 = some (r, t') → Γ σ 34 [(0, .ref (a 0)), (1, .int x1), (2, .int y2), (3, .int y3), (4, .int y4), (5, .int y5)] []) (σ : St) (y2 : Int32) (y3 : Int32) (y4 : Int32) (y5 : Int32) (h : f_X7_best_n67 x1 k34 σ y2 y3 y4 y5 = some (r, t')) : Γ σ 67 [(0, .ref (a 0)), (1, .int x1), (2, .int y2), (3, .int y3), (4, .int y4), (5, .int y5)] [] := by
  unfold f_X7_best_n67 at h
  refine r_iconst (v := 0) hC dX7_best_67 (by decide) ?_
  exact t_X7_best_n68 hC x1 k34 hk34 σ y2 y3 y4 y5 (0 : Int32) h
def f_X7_best_n34_b (x1 : Int32) (self : St → Int32 → Int32 → Int32 → Int32 → Option (Int32 × St)) (σ : St) (y2 : Int32) (y3 : Int32) (y4 : Int32) (y5 : Int32) : Option (Int32 × St) :=
  if (6 : Int32) < y5 then
    if in_b x1 2 = true then
      lt_ (put_a σ 1 x1.toNatClampNeg y2) fun s1 =>
      some (y3, s1)
    else none
  else
  if (st_i σ 5) ≤ y5 then
    f_X7_best_n67 x1 self σ y2 y3 y4 y5
  else
  if in_b x1 2 = true then
    if ((1 : Int32) <<< (y5 &&& 31)) ≤ (st_a σ 2 x1.toNatClampNeg) then
      f_X7_best_n67 x1 self σ y2 y3 y4 y5
    else
    f_X7_best_n68 x1 self σ y2 y3 y4 y5 (1 : Int32)
  else none
def f_X7_best_n34 (x1 : Int32) : Nat → St → Int32 → Int32 → Int32 → Int32 → Option (Int32 × St)
  | 0 => fun _ _ _ _ _ => none
  | n + 1 => fun σ y2 y3 y4 y5 => f_X7_best_n34_b x1  (f_X7_best_n34 x1  n) σ y2 y3 y4 y5
set_option maxRecDepth 100000 in
set_option maxHeartbeats 4000000 in
theorem t_X7_best_n34_b {Γ : St → Nat → List (Nat × Value) → List Value → Prop} {l : Launch} {a : Nat → Nat} {r : Int32} {t' : St} (hC : Cx Γ l cX7_best RX7 8 (some .int) Rm_X7_best wM a (some (.int r)) t') (x1 : Int32) (self : St → Int32 → Int32 → Int32 → Int32 → Option (Int32 × St)) (hself : ∀ (σ : St) (y2 : Int32) (y3 : Int32) (y4 : Int32) (y5 : Int32), self σ y2 y3 y4 y5 = some (r, t') → Γ σ 34 [(0, .ref (a 0)), (1, .int x1), (2, .int y2), (3, .int y3), (4, .int y4), (5, .int y5)] []) (σ : St) (y2 : Int32) (y3 : Int32) (y4 : Int32) (y5 : Int32) (h : f_X7_best_n34_b x1 self σ y2 y3 y4 y5 = some (r, t')) : Γ σ 34 [(0, .ref (a 0)), (1, .int x1), (2, .int y2), (3, .int y3), (4, .int y4), (5, .int y5)] [] := by
  unfold f_X7_best_n34_b at h
  refine r_iload hC dX7_best_34 5 rfl ?_
  refine r_bipush (v := 6) hC dX7_best_36 (by decide) ?_
  refine r_icmp_gt hC 130 dX7_best_38 (by decide) (fun q => ?_) (fun q => ?_)
  · replace h := if_p q h
    refine r_aload_n hC dX7_best_130 rfl 0 rfl ?_
    refine G7_57 hC dX7_best_131 ?_
    refine r_iload_n hC dX7_best_134 rfl 1 rfl ?_
    refine r_iload_n hC dX7_best_135 rfl 2 rfl ?_
    obtain ⟨hi, h⟩ := inb_of h
    obtain ⟨s1, es1, h⟩ := lt_of h
    refine S_m_q hC es1 hi dX7_best_136 ?_
    refine r_iload_n hC dX7_best_137 rfl 3 rfl ?_
    exact r_iretS hC dX7_best_138 h
  · replace h := if_n q h
    refine r_iload hC dX7_best_41 5 rfl ?_
    refine r_aload_n hC dX7_best_43 rfl 0 rfl ?_
    refine G7_47 hC dX7_best_44 ?_
    refine r_icmp_ge hC 67 dX7_best_47 (by decide) (fun q => ?_) (fun q => ?_)
    · replace h := if_p q h
      exact t_X7_best_n67 hC x1 self hself σ y2 y3 y4 y5 h
    · replace h := if_n q h
      refine r_aload_n hC dX7_best_50 rfl 0 rfl ?_
      refine G7_60 hC dX7_best_51 ?_
      refine r_iload_n hC dX7_best_54 rfl 1 rfl ?_
      obtain ⟨hi, h⟩ := inb_of h
      refine L_m_many hC hi dX7_best_55 ?_
      refine r_iconst (v := 1) hC dX7_best_56 (by decide) ?_
      refine r_iload hC dX7_best_57 5 rfl ?_
      refine r_ishl hC dX7_best_59 ?_
      refine r_icmp_ge hC 67 dX7_best_60 (by decide) (fun q => ?_) (fun q => ?_)
      · replace h := if_p q h
        exact t_X7_best_n67 hC x1 self hself σ y2 y3 y4 y5 h
      · replace h := if_n q h
        refine r_iconst (v := 1) hC dX7_best_63 (by decide) ?_
        refine r_goto hC 68 dX7_best_64 (by decide) ?_
        exact t_X7_best_n68 hC x1 self hself σ y2 y3 y4 y5 (1 : Int32) h
set_option maxRecDepth 100000 in
set_option maxHeartbeats 4000000 in
theorem t_X7_best_n34 {Γ : St → Nat → List (Nat × Value) → List Value → Prop} {l : Launch} {a : Nat → Nat} {r : Int32} {t' : St} (hC : Cx Γ l cX7_best RX7 8 (some .int) Rm_X7_best wM a (some (.int r)) t') (x1 : Int32) (n : Nat) : ∀ (σ : St) (y2 : Int32) (y3 : Int32) (y4 : Int32) (y5 : Int32), f_X7_best_n34 x1 n σ y2 y3 y4 y5 = some (r, t') → Γ σ 34 [(0, .ref (a 0)), (1, .int x1), (2, .int y2), (3, .int y3), (4, .int y4), (5, .int y5)] [] := by
  induction n with
  | zero =>
    intro σ y2 y3 y4 y5  h
    have h : (none : Option (Int32 × St)) = some (r, t') := h
    cases h
  | succ n ih =>
    intro σ y2 y3 y4 y5  h
    exact t_X7_best_n34_b hC x1    (f_X7_best_n34 x1  n) ih σ y2 y3 y4 y5  h
def f_X7_best (σ : St) (x1 : Int32) : Option (Int32 × St) :=
  lt_ (put_i σ 0 (0 : Int32)) fun s9 =>
  if (f_X7_isFile s9 x1) = 0 then
    some ((-1 : Int32), s9)
  else
  if in_b x1 2 = true then
    lt_ (st_a s9 1 x1.toNatClampNeg) fun v10 =>
    lt_ (put_i s9 1 (0 : Int32)) fun s11 =>
    f_X7_best_n34 x1 fuel s11 v10 (-1 : Int32) (0 : Int32) (3 : Int32)
  else none
set_option maxRecDepth 100000 in
set_option maxHeartbeats 4000000 in
theorem con_X7_best (l : Launch) (σ : St) (x1 : Int32) {r : Int32} {t' : St} (h : f_X7_best σ x1 = some (r, t')) : Con l yX7_best cX7_best 8 (some .int) Rm_X7_best wM (fun a => [.ref (a 0), .int x1]) σ (fun _ => some (.int r)) t' := by
  refine con_of (by decide) ⟨rfl, rfl⟩ (fun _ => Nat.le_of_ble_eq_true rfl) (fun Γ a hC => ?_)
  have hC : Cx Γ l cX7_best RX7 8 (some .int) Rm_X7_best wM a (some (.int r)) t' := hC
  show Γ σ 0 [(0, .ref (a 0)), (1, .int x1)] []
  unfold f_X7_best at h
  refine r_aload_n hC dX7_best_0 rfl 0 rfl ?_
  refine r_iconst (v := 0) hC dX7_best_1 (by decide) ?_
  obtain ⟨s9, es9, h⟩ := lt_of h
  refine P7_1 hC es9 dX7_best_2 ?_
  refine r_iload_n hC dX7_best_5 rfl 1 rfl ?_
  refine r_callS (As := [.int x1]) (rest := []) hC (con_X7_isFile l s9 x1 rfl) K7_136 rfl rfl rfl ⟨Nat.le_of_ble_eq_true rfl, Nat.le_of_ble_eq_true rfl⟩ (Nat.le_of_ble_eq_true rfl) dX7_best_6 ?_
  refine r_if_ne hC 14 dX7_best_9 (by decide) (fun q => ?_) (fun q => ?_)
  · replace h := if_n q h
    refine r_aload_n hC dX7_best_14 rfl 0 rfl ?_
    refine G7_57 hC dX7_best_15 ?_
    refine r_iload_n hC dX7_best_18 rfl 1 rfl ?_
    obtain ⟨hi, h⟩ := inb_of h
    refine L_m_q hC hi dX7_best_19 ?_
    obtain ⟨v10, ev10, h⟩ := lt_of h
    refine r_istore_n (lv' := [(2, .int v10), (0, .ref (a 0)), (1, .int x1)]) hC dX7_best_20 rfl (by decide) ev10 rfl ?_
    refine r_iconst (v := -1) hC dX7_best_21 (by decide) ?_
    refine r_istore_n (lv' := [(3, .int (-1 : Int32)), (2, .int v10), (0, .ref (a 0)), (1, .int x1)]) hC dX7_best_22 rfl (by decide) rfl rfl ?_
    refine r_iconst (v := 0) hC dX7_best_23 (by decide) ?_
    refine r_istore (lv' := [(4, .int (0 : Int32)), (3, .int (-1 : Int32)), (2, .int v10), (0, .ref (a 0)), (1, .int x1)]) hC dX7_best_24 (by decide) rfl rfl ?_
    refine r_aload_n hC dX7_best_26 rfl 3 rfl ?_
    refine r_iconst (v := 0) hC dX7_best_27 (by decide) ?_
    obtain ⟨s11, es11, h⟩ := lt_of h
    refine P7_11 hC es11 dX7_best_28 ?_
    refine r_iconst (v := 3) hC dX7_best_31 (by decide) ?_
    refine r_istore (lv' := [(5, .int (3 : Int32)), (4, .int (0 : Int32)), (3, .int (-1 : Int32)), (2, .int v10), (0, .ref (a 0)), (1, .int x1)]) hC dX7_best_32 (by decide) rfl rfl ?_
    refine r_sub hC [4, 5, 3, 2, 1, 0] rfl ?_
    exact t_X7_best_n34 hC x1 fuel s11 v10 (-1 : Int32) (0 : Int32) (3 : Int32) h
  · replace h := if_p q h
    refine r_iconst (v := -1) hC dX7_best_12 (by decide) ?_
    exact r_iretS hC dX7_best_13 h
abbrev Rm_X7_isKey : Room := { frames := 1, cells := 0, slots := 0, locals := 25 }
def f_X7_isKey (σ : St) (x0 : Int32) : Int32 :=
  (f_X7_in σ (x0.toInt64) (0 : Int64) (99999 : Int64))
set_option maxRecDepth 100000 in
set_option maxHeartbeats 4000000 in
theorem con_X7_isKey (l : Launch) (σ : St) (x0 : Int32) {r : Int32} (h : f_X7_isKey σ x0 = r) : Con l yX7_isKey cX7_isKey 1 (some .boolean) Rm_X7_isKey wM (fun a => [.int x0]) σ (fun _ => some (.int r)) σ := by
  refine con_of (by decide) ⟨rfl, rfl⟩ (fun _ => Nat.le_of_ble_eq_true rfl) (fun Γ a hC => ?_)
  have hC : Cx Γ l cX7_isKey RX7 1 (some .boolean) Rm_X7_isKey wM a (some (.int r)) σ := hC
  show Γ σ 0 [(0, .int x0)] []
  unfold f_X7_isKey at h
  refine r_iload_n hC dX7_isKey_0 rfl 0 rfl ?_
  refine r_i2l hC dX7_isKey_1 ?_
  refine r_lconst (v := 0) hC dX7_isKey_2 (by decide) ?_
  refine r_ldc2 hC dX7_isKey_3 kc7_100 ?_
  refine r_callS (As := [.long (x0.toInt64), .long (0 : Int64), .long (99999 : Int64)]) (rest := []) hC (con_X7_in l σ (x0.toInt64) (0 : Int64) (99999 : Int64) rfl) K7_21 rfl rfl rfl ⟨Nat.le_of_ble_eq_true rfl, Nat.le_of_ble_eq_true rfl⟩ (Nat.le_of_ble_eq_true rfl) dX7_isKey_6 ?_
  have hzz : narrow .boolean (.int (f_X7_in σ (x0.toInt64) (0 : Int64) (99999 : Int64))) = .int (f_X7_in σ (x0.toInt64) (0 : Int64) (99999 : Int64)) := NAR_in _ _ _ _
  exact r_zretT hC hzz dX7_isKey_9 h
abbrev Rm_X7_printOf : Room := { frames := 0, cells := 0, slots := 0, locals := 0 }
def f_X7_printOf (σ : St) (x1 : Int32) : Int32 :=
  (((x1 * (st_i σ 6)).toUInt32 >>> (((32 : Int32) - (st_i σ 5)).toUInt32 &&& Int32.toUInt32 31)).toInt32)
set_option maxRecDepth 100000 in
set_option maxHeartbeats 4000000 in
theorem con_X7_printOf (l : Launch) (σ : St) (x1 : Int32) {r : Int32} (h : f_X7_printOf σ x1 = r) : Con l yX7_printOf cX7_printOf 2 (some .int) Rm_X7_printOf wM (fun a => [.ref (a 0), .int x1]) σ (fun _ => some (.int r)) σ := by
  refine con_of (by decide) ⟨rfl, rfl⟩ (fun _ => Nat.le_of_ble_eq_true rfl) (fun Γ a hC => ?_)
  have hC : Cx Γ l cX7_printOf RX7 2 (some .int) Rm_X7_printOf wM a (some (.int r)) σ := hC
  show Γ σ 0 [(0, .ref (a 0)), (1, .int x1)] []
  unfold f_X7_printOf at h
  refine r_iload_n hC dX7_printOf_0 rfl 1 rfl ?_
  refine r_aload_n hC dX7_printOf_1 rfl 0 rfl ?_
  refine G7_51 hC dX7_printOf_2 ?_
  refine r_imul hC dX7_printOf_5 ?_
  refine r_bipush (v := 32) hC dX7_printOf_6 (by decide) ?_
  refine r_aload_n hC dX7_printOf_8 rfl 0 rfl ?_
  refine G7_47 hC dX7_printOf_9 ?_
  refine r_isub hC dX7_printOf_12 ?_
  refine r_iushr hC dX7_printOf_13 ?_
  exact r_iretT hC dX7_printOf_14 h
abbrev Rm_X7_both : Room := { frames := 3, cells := 0, slots := 0, locals := 67 }
def f_X7_both_n57 (x1 : Int32) (σ : St) (y2 : Int32) (w1 : Int64) : Option (Int32 × St) :=
  (f_X7_enters σ w1).bind fun s1 =>
  (f_X7_countOf s1 (0 : Int32) y2).bind fun v2 =>
  (f_X7_countOf s1 (1 : Int32) y2).bind fun v3 =>
  some ((v2 + v3), s1)
set_option maxRecDepth 100000 in
set_option maxHeartbeats 4000000 in
theorem t_X7_both_n57 {Γ : St → Nat → List (Nat × Value) → List Value → Prop} {l : Launch} {a : Nat → Nat} {r : Int32} {t' : St} (hC : Cx Γ l cX7_both RX7 3 (some .int) Rm_X7_both wM a (some (.int r)) t') (x1 : Int32) (σ : St) (y2 : Int32) (w1 : Int64) (h : f_X7_both_n57 x1 σ y2 w1 = some (r, t')) : Γ σ 57 [(0, .ref (a 0)), (2, .int y2)] [.long w1, .ref (a 0)] := by
  unfold f_X7_both_n57 at h
  obtain ⟨s1, hs1, h⟩ := bind_of h
  refine r_callV (As := [.long w1]) (rest := []) hC (con_X7_enters l σ w1 hs1) K7_145 (ob7 a σ) rfl rfl rfl rfl ⟨Nat.le_of_ble_eq_true rfl, Nat.le_of_ble_eq_true rfl⟩ (Nat.le_of_ble_eq_true rfl) dX7_both_57 ?_
  refine r_aload_n hC dX7_both_60 rfl 0 rfl ?_
  refine r_iconst (v := 0) hC dX7_both_61 (by decide) ?_
  refine r_iload_n hC dX7_both_62 rfl 1 rfl ?_
  obtain ⟨v2, hv2, h⟩ := bind_of h
  refine r_callV (As := [.int (0 : Int32), .int y2]) (rest := []) hC (con_X7_countOf l s1 (0 : Int32) y2 hv2) K7_173 (ob7 a s1) rfl rfl rfl rfl ⟨Nat.le_of_ble_eq_true rfl, Nat.le_of_ble_eq_true rfl⟩ (Nat.le_of_ble_eq_true rfl) dX7_both_63 ?_
  refine r_aload_n hC dX7_both_66 rfl 0 rfl ?_
  refine r_iconst (v := 1) hC dX7_both_67 (by decide) ?_
  refine r_iload_n hC dX7_both_68 rfl 1 rfl ?_
  obtain ⟨v3, hv3, h⟩ := bind_of h
  refine r_callV (As := [.int (1 : Int32), .int y2]) (rest := [.int v2]) hC (con_X7_countOf l s1 (1 : Int32) y2 hv3) K7_173 (ob7 a s1) rfl rfl rfl rfl ⟨Nat.le_of_ble_eq_true rfl, Nat.le_of_ble_eq_true rfl⟩ (Nat.le_of_ble_eq_true rfl) dX7_both_69 ?_
  refine r_iadd hC dX7_both_72 ?_
  exact r_iretS hC dX7_both_73 h
def f_X7_both (σ : St) (x1 : Int32) : Option (Int32 × St) :=
  lt_ (put_i σ 0 (0 : Int32)) fun s4 =>
  if (f_X7_isKey s4 x1) = 0 then
    some ((-1 : Int32), s4)
  else
  lt_ (f_X7_printOf s4 x1) fun v5 =>
  lt_ (put_i s4 1 (0 : Int32)) fun s6 =>
  (f_X7_looksFor s6 (0 : Int32) v5).bind fun v7 =>
  (f_X7_enters s6 (v7.toInt64)).bind fun s8 =>
  (f_X7_countOf s8 (0 : Int32) v5).bind fun v9 =>
  if v9 ≤ 0 then
    (f_X7_looksFor s8 (1 : Int32) v5).bind fun v10 =>
    f_X7_both_n57 x1 s8 v5 (v10.toInt64)
  else
  f_X7_both_n57 x1 s8 v5 (0 : Int64)
set_option maxRecDepth 100000 in
set_option maxHeartbeats 4000000 in
theorem con_X7_both (l : Launch) (σ : St) (x1 : Int32) {r : Int32} {t' : St} (h : f_X7_both σ x1 = some (r, t')) : Con l yX7_both cX7_both 3 (some .int) Rm_X7_both wM (fun a => [.ref (a 0), .int x1]) σ (fun _ => some (.int r)) t' := by
  refine con_of (by decide) ⟨rfl, rfl⟩ (fun _ => Nat.le_of_ble_eq_true rfl) (fun Γ a hC => ?_)
  have hC : Cx Γ l cX7_both RX7 3 (some .int) Rm_X7_both wM a (some (.int r)) t' := hC
  show Γ σ 0 [(0, .ref (a 0)), (1, .int x1)] []
  unfold f_X7_both at h
  refine r_aload_n hC dX7_both_0 rfl 0 rfl ?_
  refine r_iconst (v := 0) hC dX7_both_1 (by decide) ?_
  obtain ⟨s4, es4, h⟩ := lt_of h
  refine P7_1 hC es4 dX7_both_2 ?_
  refine r_iload_n hC dX7_both_5 rfl 1 rfl ?_
  refine r_callS (As := [.int x1]) (rest := []) hC (con_X7_isKey l s4 x1 rfl) K7_139 rfl rfl rfl ⟨Nat.le_of_ble_eq_true rfl, Nat.le_of_ble_eq_true rfl⟩ (Nat.le_of_ble_eq_true rfl) dX7_both_6 ?_
  refine r_if_ne hC 14 dX7_both_9 (by decide) (fun q => ?_) (fun q => ?_)
  · replace h := if_n q h
    refine r_aload_n hC dX7_both_14 rfl 0 rfl ?_
    refine r_iload_n hC dX7_both_15 rfl 1 rfl ?_
    refine r_callV (As := [.int x1]) (rest := []) hC (con_X7_printOf l s4 x1 rfl) K7_142 (ob7 a s4) rfl rfl rfl rfl ⟨Nat.le_of_ble_eq_true rfl, Nat.le_of_ble_eq_true rfl⟩ (Nat.le_of_ble_eq_true rfl) dX7_both_16 ?_
    obtain ⟨v5, ev5, h⟩ := lt_of h
    refine r_istore_n (lv' := [(2, .int v5), (0, .ref (a 0)), (1, .int x1)]) hC dX7_both_19 rfl (by decide) ev5 rfl ?_
    refine r_aload_n hC dX7_both_20 rfl 1 rfl ?_
    refine r_iconst (v := 0) hC dX7_both_21 (by decide) ?_
    obtain ⟨s6, es6, h⟩ := lt_of h
    refine P7_11 hC es6 dX7_both_22 ?_
    refine r_aload_n hC dX7_both_25 rfl 1 rfl ?_
    refine r_aload_n hC dX7_both_26 rfl 1 rfl ?_
    refine r_iconst (v := 0) hC dX7_both_27 (by decide) ?_
    refine r_iload_n hC dX7_both_28 rfl 0 rfl ?_
    obtain ⟨v7, hv7, h⟩ := bind_of h
    refine r_callV (As := [.int (0 : Int32), .int v5]) (rest := [.ref (a 0)]) hC (con_X7_looksFor l s6 (0 : Int32) v5 hv7) K7_176 (ob7 a s6) rfl rfl rfl rfl ⟨Nat.le_of_ble_eq_true rfl, Nat.le_of_ble_eq_true rfl⟩ (Nat.le_of_ble_eq_true rfl) dX7_both_29 ?_
    refine r_i2l hC dX7_both_32 ?_
    obtain ⟨s8, hs8, h⟩ := bind_of h
    refine r_callV (As := [.long (v7.toInt64)]) (rest := []) hC (con_X7_enters l s6 (v7.toInt64) hs8) K7_145 (ob7 a s6) rfl rfl rfl rfl ⟨Nat.le_of_ble_eq_true rfl, Nat.le_of_ble_eq_true rfl⟩ (Nat.le_of_ble_eq_true rfl) dX7_both_33 ?_
    refine r_aload_n hC dX7_both_36 rfl 1 rfl ?_
    refine r_aload_n hC dX7_both_37 rfl 1 rfl ?_
    refine r_iconst (v := 0) hC dX7_both_38 (by decide) ?_
    refine r_iload_n hC dX7_both_39 rfl 0 rfl ?_
    obtain ⟨v9, hv9, h⟩ := bind_of h
    refine r_callV (As := [.int (0 : Int32), .int v5]) (rest := [.ref (a 0)]) hC (con_X7_countOf l s8 (0 : Int32) v5 hv9) K7_173 (ob7 a s8) rfl rfl rfl rfl ⟨Nat.le_of_ble_eq_true rfl, Nat.le_of_ble_eq_true rfl⟩ (Nat.le_of_ble_eq_true rfl) dX7_both_40 ?_
    refine r_if_le hC 50 dX7_both_43 (by decide) (fun q => ?_) (fun q => ?_)
    · replace h := if_p q h
      refine r_aload_n hC dX7_both_50 rfl 1 rfl ?_
      refine r_iconst (v := 1) hC dX7_both_51 (by decide) ?_
      refine r_iload_n hC dX7_both_52 rfl 0 rfl ?_
      obtain ⟨v10, hv10, h⟩ := bind_of h
      refine r_callV (As := [.int (1 : Int32), .int v5]) (rest := [.ref (a 0)]) hC (con_X7_looksFor l s8 (1 : Int32) v5 hv10) K7_176 (ob7 a s8) rfl rfl rfl rfl ⟨Nat.le_of_ble_eq_true rfl, Nat.le_of_ble_eq_true rfl⟩ (Nat.le_of_ble_eq_true rfl) dX7_both_53 ?_
      refine r_i2l hC dX7_both_56 ?_
      refine r_sub hC [1, 0] rfl ?_
      exact t_X7_both_n57 hC x1 s8 v5 (v10.toInt64) h
    · replace h := if_n q h
      refine r_lconst (v := 0) hC dX7_both_46 (by decide) ?_
      refine r_goto hC 57 dX7_both_47 (by decide) ?_
      refine r_sub hC [1, 0] rfl ?_
      exact t_X7_both_n57 hC x1 s8 v5 (0 : Int64) h
  · replace h := if_p q h
    refine r_iconst (v := -1) hC dX7_both_12 (by decide) ?_
    exact r_iretS hC dX7_both_13 h
abbrev Rm_X7_canDouble : Room := { frames := 0, cells := 0, slots := 0, locals := 0 }
def f_X7_canDouble (σ : St) (x1 : Int32) : Option Int32 :=
  if in_b x1 2 = true then
    if (6 : Int32) ≤ (st_a σ 1 x1.toNatClampNeg) then
      some (0 : Int32)
    else
    if in_b x1 2 = true then
      if ((st_i σ 5) - (1 : Int32)) ≤ (st_a σ 1 x1.toNatClampNeg) then
        some (0 : Int32)
      else
      some (1 : Int32)
    else none
  else none
set_option maxRecDepth 100000 in
set_option maxHeartbeats 4000000 in
theorem con_X7_canDouble (l : Launch) (σ : St) (x1 : Int32) {r : Int32} (h : f_X7_canDouble σ x1 = some r) : Con l yX7_canDouble cX7_canDouble 2 (some .boolean) Rm_X7_canDouble wM (fun a => [.ref (a 0), .int x1]) σ (fun _ => some (.int r)) σ := by
  refine con_of (by decide) ⟨rfl, rfl⟩ (fun _ => Nat.le_of_ble_eq_true rfl) (fun Γ a hC => ?_)
  have hC : Cx Γ l cX7_canDouble RX7 2 (some .boolean) Rm_X7_canDouble wM a (some (.int r)) σ := hC
  show Γ σ 0 [(0, .ref (a 0)), (1, .int x1)] []
  unfold f_X7_canDouble at h
  refine r_aload_n hC dX7_canDouble_0 rfl 0 rfl ?_
  refine G7_57 hC dX7_canDouble_1 ?_
  refine r_iload_n hC dX7_canDouble_4 rfl 1 rfl ?_
  obtain ⟨hi, h⟩ := inb_of h
  refine L_m_q hC hi dX7_canDouble_5 ?_
  refine r_bipush (v := 6) hC dX7_canDouble_6 (by decide) ?_
  refine r_icmp_ge hC 30 dX7_canDouble_8 (by decide) (fun q => ?_) (fun q => ?_)
  · replace h := if_p q h
    refine r_iconst (v := 0) hC dX7_canDouble_30 (by decide) ?_
    exact r_zretP hC rfl dX7_canDouble_31 h
  · replace h := if_n q h
    refine r_aload_n hC dX7_canDouble_11 rfl 0 rfl ?_
    refine G7_57 hC dX7_canDouble_12 ?_
    refine r_iload_n hC dX7_canDouble_15 rfl 1 rfl ?_
    obtain ⟨hi, h⟩ := inb_of h
    refine L_m_q hC hi dX7_canDouble_16 ?_
    refine r_aload_n hC dX7_canDouble_17 rfl 0 rfl ?_
    refine G7_47 hC dX7_canDouble_18 ?_
    refine r_iconst (v := 1) hC dX7_canDouble_21 (by decide) ?_
    refine r_isub hC dX7_canDouble_22 ?_
    refine r_icmp_ge hC 30 dX7_canDouble_23 (by decide) (fun q => ?_) (fun q => ?_)
    · replace h := if_p q h
      refine r_iconst (v := 0) hC dX7_canDouble_30 (by decide) ?_
      exact r_zretP hC rfl dX7_canDouble_31 h
    · replace h := if_n q h
      refine r_iconst (v := 1) hC dX7_canDouble_26 (by decide) ?_
      refine r_goto hC 31 dX7_canDouble_27 (by decide) ?_
      exact r_zretP hC rfl dX7_canDouble_31 h
abbrev Rm_X7_clears : Room := { frames := 2, cells := 0, slots := 0, locals := 45 }
def f_X7_clears (σ : St) (x1 : Int32) : Option (Int32 × St) :=
  lt_ (put_i σ 0 (0 : Int32)) fun s1 =>
  if (f_X7_isFile s1 x1) = 0 then
    some ((-1 : Int32), s1)
  else
  if in_b x1 2 = true then
    lt_ (st_a s1 2 x1.toNatClampNeg) fun v2 =>
    if in_b x1 2 = true then
      lt_ (put_a s1 2 x1.toNatClampNeg (0 : Int32)) fun s3 =>
      if in_b x1 2 = true then
        lt_ (put_a s3 1 x1.toNatClampNeg (3 : Int32)) fun s4 =>
        some (v2, s4)
      else none
    else none
  else none
set_option maxRecDepth 100000 in
set_option maxHeartbeats 4000000 in
theorem con_X7_clears (l : Launch) (σ : St) (x1 : Int32) {r : Int32} {t' : St} (h : f_X7_clears σ x1 = some (r, t')) : Con l yX7_clears cX7_clears 3 (some .int) Rm_X7_clears wM (fun a => [.ref (a 0), .int x1]) σ (fun _ => some (.int r)) t' := by
  refine con_of (by decide) ⟨rfl, rfl⟩ (fun _ => Nat.le_of_ble_eq_true rfl) (fun Γ a hC => ?_)
  have hC : Cx Γ l cX7_clears RX7 3 (some .int) Rm_X7_clears wM a (some (.int r)) t' := hC
  show Γ σ 0 [(0, .ref (a 0)), (1, .int x1)] []
  unfold f_X7_clears at h
  refine r_aload_n hC dX7_clears_0 rfl 0 rfl ?_
  refine r_iconst (v := 0) hC dX7_clears_1 (by decide) ?_
  obtain ⟨s1, es1, h⟩ := lt_of h
  refine P7_1 hC es1 dX7_clears_2 ?_
  refine r_iload_n hC dX7_clears_5 rfl 1 rfl ?_
  refine r_callS (As := [.int x1]) (rest := []) hC (con_X7_isFile l s1 x1 rfl) K7_136 rfl rfl rfl ⟨Nat.le_of_ble_eq_true rfl, Nat.le_of_ble_eq_true rfl⟩ (Nat.le_of_ble_eq_true rfl) dX7_clears_6 ?_
  refine r_if_ne hC 14 dX7_clears_9 (by decide) (fun q => ?_) (fun q => ?_)
  · replace h := if_n q h
    refine r_aload_n hC dX7_clears_14 rfl 0 rfl ?_
    refine G7_60 hC dX7_clears_15 ?_
    refine r_iload_n hC dX7_clears_18 rfl 1 rfl ?_
    obtain ⟨hi, h⟩ := inb_of h
    refine L_m_many hC hi dX7_clears_19 ?_
    obtain ⟨v2, ev2, h⟩ := lt_of h
    refine r_istore_n (lv' := [(2, .int v2), (0, .ref (a 0)), (1, .int x1)]) hC dX7_clears_20 rfl (by decide) ev2 rfl ?_
    refine r_aload_n hC dX7_clears_21 rfl 1 rfl ?_
    refine G7_60 hC dX7_clears_22 ?_
    refine r_iload_n hC dX7_clears_25 rfl 2 rfl ?_
    refine r_iconst (v := 0) hC dX7_clears_26 (by decide) ?_
    obtain ⟨hi, h⟩ := inb_of h
    obtain ⟨s3, es3, h⟩ := lt_of h
    refine S_m_many hC es3 hi dX7_clears_27 ?_
    refine r_aload_n hC dX7_clears_28 rfl 1 rfl ?_
    refine G7_57 hC dX7_clears_29 ?_
    refine r_iload_n hC dX7_clears_32 rfl 2 rfl ?_
    refine r_iconst (v := 3) hC dX7_clears_33 (by decide) ?_
    obtain ⟨hi, h⟩ := inb_of h
    obtain ⟨s4, es4, h⟩ := lt_of h
    refine S_m_q hC es4 hi dX7_clears_34 ?_
    refine r_iload_n hC dX7_clears_35 rfl 0 rfl ?_
    exact r_iretS hC dX7_clears_36 h
  · replace h := if_p q h
    refine r_iconst (v := -1) hC dX7_clears_12 (by decide) ?_
    exact r_iretS hC dX7_clears_13 h
abbrev Rm_X7_isSlot : Room := { frames := 2, cells := 0, slots := 0, locals := 45 }
def f_X7_isSlot (σ : St) (x1 : Int32) (x2 : Int32) : Option Int32 :=
  if (f_X7_isFile σ x1) = 0 then
    some (0 : Int32)
  else
  (f_X7_slots σ x1).bind fun v1 =>
  if (f_X7_in σ (x2.toInt64) (0 : Int64) (((v1 - (1 : Int32))).toInt64)) = 0 then
    some (0 : Int32)
  else
  some (1 : Int32)
set_option maxRecDepth 100000 in
set_option maxHeartbeats 4000000 in
theorem con_X7_isSlot (l : Launch) (σ : St) (x1 : Int32) (x2 : Int32) {r : Int32} (h : f_X7_isSlot σ x1 x2 = some r) : Con l yX7_isSlot cX7_isSlot 3 (some .boolean) Rm_X7_isSlot wM (fun a => [.ref (a 0), .int x1, .int x2]) σ (fun _ => some (.int r)) σ := by
  refine con_of (by decide) ⟨rfl, rfl⟩ (fun _ => Nat.le_of_ble_eq_true rfl) (fun Γ a hC => ?_)
  have hC : Cx Γ l cX7_isSlot RX7 3 (some .boolean) Rm_X7_isSlot wM a (some (.int r)) σ := hC
  show Γ σ 0 [(0, .ref (a 0)), (1, .int x1), (2, .int x2)] []
  unfold f_X7_isSlot at h
  refine r_iload_n hC dX7_isSlot_0 rfl 1 rfl ?_
  refine r_callS (As := [.int x1]) (rest := []) hC (con_X7_isFile l σ x1 rfl) K7_136 rfl rfl rfl ⟨Nat.le_of_ble_eq_true rfl, Nat.le_of_ble_eq_true rfl⟩ (Nat.le_of_ble_eq_true rfl) dX7_isSlot_1 ?_
  refine r_if_eq hC 28 dX7_isSlot_4 (by decide) (fun q => ?_) (fun q => ?_)
  · replace h := if_p q h
    refine r_iconst (v := 0) hC dX7_isSlot_28 (by decide) ?_
    exact r_zretP hC rfl dX7_isSlot_29 h
  · replace h := if_n q h
    refine r_iload_n hC dX7_isSlot_7 rfl 2 rfl ?_
    refine r_i2l hC dX7_isSlot_8 ?_
    refine r_lconst (v := 0) hC dX7_isSlot_9 (by decide) ?_
    refine r_aload_n hC dX7_isSlot_10 rfl 0 rfl ?_
    refine r_iload_n hC dX7_isSlot_11 rfl 1 rfl ?_
    obtain ⟨v1, hv1, h⟩ := bind_of h
    refine r_callV (As := [.int x1]) (rest := [.long (0 : Int64), .long (x2.toInt64)]) hC (con_X7_slots l σ x1 hv1) K7_121 (ob7 a σ) rfl rfl rfl rfl ⟨Nat.le_of_ble_eq_true rfl, Nat.le_of_ble_eq_true rfl⟩ (Nat.le_of_ble_eq_true rfl) dX7_isSlot_12 ?_
    refine r_iconst (v := 1) hC dX7_isSlot_15 (by decide) ?_
    refine r_isub hC dX7_isSlot_16 ?_
    refine r_i2l hC dX7_isSlot_17 ?_
    refine r_callS (As := [.long (x2.toInt64), .long (0 : Int64), .long (((v1 - (1 : Int32))).toInt64)]) (rest := []) hC (con_X7_in l σ (x2.toInt64) (0 : Int64) (((v1 - (1 : Int32))).toInt64) rfl) K7_21 rfl rfl rfl ⟨Nat.le_of_ble_eq_true rfl, Nat.le_of_ble_eq_true rfl⟩ (Nat.le_of_ble_eq_true rfl) dX7_isSlot_18 ?_
    refine r_if_eq hC 28 dX7_isSlot_21 (by decide) (fun q => ?_) (fun q => ?_)
    · replace h := if_p q h
      refine r_iconst (v := 0) hC dX7_isSlot_28 (by decide) ?_
      exact r_zretP hC rfl dX7_isSlot_29 h
    · replace h := if_n q h
      refine r_iconst (v := 1) hC dX7_isSlot_24 (by decide) ?_
      refine r_goto hC 29 dX7_isSlot_25 (by decide) ?_
      exact r_zretP hC rfl dX7_isSlot_29 h
abbrev Rm_X7_firstOf : Room := { frames := 1, cells := 0, slots := 0, locals := 21 }
def f_X7_firstOf_n9_b (σ : St) (x1 : Int32) (x2 : Int32) (self : Int32 → Int32 → Option Int32) (y3 : Int32) (y4 : Int32) : Option Int32 :=
  (f_X7_begins σ y4).bind fun v1 =>
  if v1 = 0 then
    if y3 = 0 then none else
    lt_ (((y4 + y3) - (1 : Int32)) - ((y4 + y3) - (1 : Int32)) / y3 * y3) fun v2 =>
    self y3 v2
  else
  some y4
def f_X7_firstOf_n9 (σ : St) (x1 : Int32) (x2 : Int32) : Nat → Int32 → Int32 → Option Int32
  | 0 => fun _ _ => none
  | n + 1 => fun y3 y4 => f_X7_firstOf_n9_b σ x1 x2  (f_X7_firstOf_n9 σ x1 x2  n) y3 y4
set_option maxRecDepth 100000 in
set_option maxHeartbeats 4000000 in
theorem t_X7_firstOf_n9_b {Γ : St → Nat → List (Nat × Value) → List Value → Prop} {l : Launch} {a : Nat → Nat} {r : Int32} {σ : St} (hC : Cx Γ l cX7_firstOf RX7 5 (some .int) Rm_X7_firstOf wM a (some (.int r)) σ) (x1 : Int32) (x2 : Int32) (self : Int32 → Int32 → Option Int32) (hself : ∀ (y3 : Int32) (y4 : Int32), self y3 y4 = some r → Γ σ 9 [(0, .ref (a 0)), (3, .int y3), (4, .int y4)] []) (y3 : Int32) (y4 : Int32) (h : f_X7_firstOf_n9_b σ x1 x2 self y3 y4 = some r) : Γ σ 9 [(0, .ref (a 0)), (3, .int y3), (4, .int y4)] [] := by
  unfold f_X7_firstOf_n9_b at h
  refine r_aload_n hC dX7_firstOf_9 rfl 0 rfl ?_
  refine r_iload hC dX7_firstOf_10 2 rfl ?_
  obtain ⟨v1, hv1, h⟩ := bind_of h
  refine r_callV (As := [.int y4]) (rest := []) hC (con_X7_begins l σ y4 hv1) K7_269 (ob7 a σ) rfl rfl rfl rfl ⟨Nat.le_of_ble_eq_true rfl, Nat.le_of_ble_eq_true rfl⟩ (Nat.le_of_ble_eq_true rfl) dX7_firstOf_12 ?_
  refine r_if_ne hC 31 dX7_firstOf_15 (by decide) (fun q => ?_) (fun q => ?_)
  · replace h := if_n q h
    refine r_iload hC dX7_firstOf_31 2 rfl ?_
    exact r_iretP hC dX7_firstOf_33 h
  · replace h := if_p q h
    refine r_iload hC dX7_firstOf_18 2 rfl ?_
    refine r_iload_n hC dX7_firstOf_20 rfl 1 rfl ?_
    refine r_iadd hC dX7_firstOf_21 ?_
    refine r_iconst (v := 1) hC dX7_firstOf_22 (by decide) ?_
    refine r_isub hC dX7_firstOf_23 ?_
    refine r_iload_n hC dX7_firstOf_24 rfl 1 rfl ?_
    obtain ⟨hz, h⟩ := nz_of h
    refine r_irem hC dX7_firstOf_25 hz ?_
    obtain ⟨v2, ev2, h⟩ := lt_of h
    refine r_istore (lv' := [(4, .int v2), (0, .ref (a 0)), (3, .int y3)]) hC dX7_firstOf_26 (by decide) ev2 rfl ?_
    refine r_goto hC 9 dX7_firstOf_28 (by decide) ?_
    refine r_sub hC [1, 2, 0] rfl ?_
    exact hself y3 v2 h
set_option maxRecDepth 100000 in
set_option maxHeartbeats 4000000 in
theorem t_X7_firstOf_n9 {Γ : St → Nat → List (Nat × Value) → List Value → Prop} {l : Launch} {a : Nat → Nat} {r : Int32} {σ : St} (hC : Cx Γ l cX7_firstOf RX7 5 (some .int) Rm_X7_firstOf wM a (some (.int r)) σ) (x1 : Int32) (x2 : Int32) (n : Nat) : ∀ (y3 : Int32) (y4 : Int32), f_X7_firstOf_n9 σ x1 x2 n y3 y4 = some r → Γ σ 9 [(0, .ref (a 0)), (3, .int y3), (4, .int y4)] [] := by
  induction n with
  | zero =>
    intro y3 y4  h
    have h : (none : Option Int32) = some r := h
    cases h
  | succ n ih =>
    intro y3 y4  h
    exact t_X7_firstOf_n9_b hC x1 x2    (f_X7_firstOf_n9 σ x1 x2  n) ih y3 y4  h
def f_X7_firstOf (σ : St) (x1 : Int32) (x2 : Int32) : Option Int32 :=
  (f_X7_slots σ x1).bind fun v3 =>
  f_X7_firstOf_n9 σ x1 x2 fuel v3 x2
set_option maxRecDepth 100000 in
set_option maxHeartbeats 4000000 in
theorem con_X7_firstOf (l : Launch) (σ : St) (x1 : Int32) (x2 : Int32) {r : Int32} (h : f_X7_firstOf σ x1 x2 = some r) : Con l yX7_firstOf cX7_firstOf 5 (some .int) Rm_X7_firstOf wM (fun a => [.ref (a 0), .int x1, .int x2]) σ (fun _ => some (.int r)) σ := by
  refine con_of (by decide) ⟨rfl, rfl⟩ (fun _ => Nat.le_of_ble_eq_true rfl) (fun Γ a hC => ?_)
  have hC : Cx Γ l cX7_firstOf RX7 5 (some .int) Rm_X7_firstOf wM a (some (.int r)) σ := hC
  show Γ σ 0 [(0, .ref (a 0)), (1, .int x1), (2, .int x2)] []
  unfold f_X7_firstOf at h
  refine r_aload_n hC dX7_firstOf_0 rfl 0 rfl ?_
  refine r_iload_n hC dX7_firstOf_1 rfl 1 rfl ?_
  obtain ⟨v3, hv3, h⟩ := bind_of h
  refine r_callV (As := [.int x1]) (rest := []) hC (con_X7_slots l σ x1 hv3) K7_121 (ob7 a σ) rfl rfl rfl rfl ⟨Nat.le_of_ble_eq_true rfl, Nat.le_of_ble_eq_true rfl⟩ (Nat.le_of_ble_eq_true rfl) dX7_firstOf_2 ?_
  refine r_istore_n (lv' := [(3, .int v3), (0, .ref (a 0)), (1, .int x1), (2, .int x2)]) hC dX7_firstOf_5 rfl (by decide) rfl rfl ?_
  refine r_iload_n hC dX7_firstOf_6 rfl 3 rfl ?_
  refine r_istore (lv' := [(4, .int x2), (3, .int v3), (0, .ref (a 0)), (1, .int x1), (2, .int x2)]) hC dX7_firstOf_7 (by decide) rfl rfl ?_
  refine r_sub hC [2, 1, 0] rfl ?_
  exact t_X7_firstOf_n9 hC x1 x2 fuel v3 x2 h
abbrev Rm_X7_clusterFrom : Room := { frames := 1, cells := 0, slots := 0, locals := 21 }
def f_X7_clusterFrom_n9_b (σ : St) (x1 : Int32) (x2 : Int32) (self : Int32 → Int32 → Option Int32) (y3 : Int32) (y4 : Int32) : Option Int32 :=
  if y3 ≤ y4 then
    some y4
  else
  if y3 = 0 then none else
  if in_b ((x2 + y4) - (x2 + y4) / y3 * y3) 64 = true then
    if (st_a σ 5 ((x2 + y4) - (x2 + y4) / y3 * y3).toNatClampNeg) < 0 then
      some y4
    else
    if y3 = 0 then none else
    if in_b ((x2 + y4) - (x2 + y4) / y3 * y3) 64 = true then
      if ((st_a σ 6 ((x2 + y4) - (x2 + y4) / y3 * y3).toNatClampNeg) &&& (4 : Int32)) = 0 then
        some y4
      else
      lt_ (y4 + (1 : Int32)) fun v1 =>
      self y3 v1
    else none
  else none
def f_X7_clusterFrom_n9 (σ : St) (x1 : Int32) (x2 : Int32) : Nat → Int32 → Int32 → Option Int32
  | 0 => fun _ _ => none
  | n + 1 => fun y3 y4 => f_X7_clusterFrom_n9_b σ x1 x2  (f_X7_clusterFrom_n9 σ x1 x2  n) y3 y4
set_option maxRecDepth 100000 in
set_option maxHeartbeats 4000000 in
theorem t_X7_clusterFrom_n9_b {Γ : St → Nat → List (Nat × Value) → List Value → Prop} {l : Launch} {a : Nat → Nat} {r : Int32} {σ : St} (hC : Cx Γ l cX7_clusterFrom RX7 5 (some .int) Rm_X7_clusterFrom wM a (some (.int r)) σ) (x1 : Int32) (x2 : Int32) (self : Int32 → Int32 → Option Int32) (hself : ∀ (y3 : Int32) (y4 : Int32), self y3 y4 = some r → Γ σ 9 [(0, .ref (a 0)), (2, .int x2), (3, .int y3), (4, .int y4)] []) (y3 : Int32) (y4 : Int32) (h : f_X7_clusterFrom_n9_b σ x1 x2 self y3 y4 = some r) : Γ σ 9 [(0, .ref (a 0)), (2, .int x2), (3, .int y3), (4, .int y4)] [] := by
  unfold f_X7_clusterFrom_n9_b at h
  refine r_iload hC dX7_clusterFrom_9 3 rfl ?_
  refine r_iload_n hC dX7_clusterFrom_11 rfl 2 rfl ?_
  refine r_icmp_ge hC 51 dX7_clusterFrom_12 (by decide) (fun q => ?_) (fun q => ?_)
  · replace h := if_p q h
    refine r_iload hC dX7_clusterFrom_51 3 rfl ?_
    exact r_iretP hC dX7_clusterFrom_53 h
  · replace h := if_n q h
    refine r_aload_n hC dX7_clusterFrom_15 rfl 0 rfl ?_
    refine G7_69 hC dX7_clusterFrom_16 ?_
    refine r_iload_n hC dX7_clusterFrom_19 rfl 1 rfl ?_
    refine r_iload hC dX7_clusterFrom_20 3 rfl ?_
    refine r_iadd hC dX7_clusterFrom_22 ?_
    refine r_iload_n hC dX7_clusterFrom_23 rfl 2 rfl ?_
    obtain ⟨hz, h⟩ := nz_of h
    refine r_irem hC dX7_clusterFrom_24 hz ?_
    obtain ⟨hi, h⟩ := inb_of h
    refine L_m_holds hC hi dX7_clusterFrom_25 ?_
    refine r_if_lt hC 51 dX7_clusterFrom_26 (by decide) (fun q => ?_) (fun q => ?_)
    · replace h := if_p q h
      refine r_iload hC dX7_clusterFrom_51 3 rfl ?_
      exact r_iretP hC dX7_clusterFrom_53 h
    · replace h := if_n q h
      refine r_aload_n hC dX7_clusterFrom_29 rfl 0 rfl ?_
      refine G7_72 hC dX7_clusterFrom_30 ?_
      refine r_iload_n hC dX7_clusterFrom_33 rfl 1 rfl ?_
      refine r_iload hC dX7_clusterFrom_34 3 rfl ?_
      refine r_iadd hC dX7_clusterFrom_36 ?_
      refine r_iload_n hC dX7_clusterFrom_37 rfl 2 rfl ?_
      obtain ⟨hz, h⟩ := nz_of h
      refine r_irem hC dX7_clusterFrom_38 hz ?_
      obtain ⟨hi, h⟩ := inb_of h
      refine L_m_marks hC hi dX7_clusterFrom_39 ?_
      refine r_iconst (v := 4) hC dX7_clusterFrom_40 (by decide) ?_
      refine r_iand hC dX7_clusterFrom_41 ?_
      refine r_if_eq hC 51 dX7_clusterFrom_42 (by decide) (fun q => ?_) (fun q => ?_)
      · replace h := if_p q h
        refine r_iload hC dX7_clusterFrom_51 3 rfl ?_
        exact r_iretP hC dX7_clusterFrom_53 h
      · replace h := if_n q h
        obtain ⟨v1, ev1, h⟩ := lt_of h
        refine r_iinc (c1 := 1) (lv' := [(4, .int v1), (0, .ref (a 0)), (2, .int x2), (3, .int y3)]) hC dX7_clusterFrom_45 3 rfl (by decide) (by decide) ev1 rfl ?_
        refine r_goto hC 9 dX7_clusterFrom_48 (by decide) ?_
        refine r_sub hC [1, 2, 3, 0] rfl ?_
        exact hself y3 v1 h
set_option maxRecDepth 100000 in
set_option maxHeartbeats 4000000 in
theorem t_X7_clusterFrom_n9 {Γ : St → Nat → List (Nat × Value) → List Value → Prop} {l : Launch} {a : Nat → Nat} {r : Int32} {σ : St} (hC : Cx Γ l cX7_clusterFrom RX7 5 (some .int) Rm_X7_clusterFrom wM a (some (.int r)) σ) (x1 : Int32) (x2 : Int32) (n : Nat) : ∀ (y3 : Int32) (y4 : Int32), f_X7_clusterFrom_n9 σ x1 x2 n y3 y4 = some r → Γ σ 9 [(0, .ref (a 0)), (2, .int x2), (3, .int y3), (4, .int y4)] [] := by
  induction n with
  | zero =>
    intro y3 y4  h
    have h : (none : Option Int32) = some r := h
    cases h
  | succ n ih =>
    intro y3 y4  h
    exact t_X7_clusterFrom_n9_b hC x1 x2    (f_X7_clusterFrom_n9 σ x1 x2  n) ih y3 y4  h
def f_X7_clusterFrom (σ : St) (x1 : Int32) (x2 : Int32) : Option Int32 :=
  (f_X7_slots σ x1).bind fun v2 =>
  f_X7_clusterFrom_n9 σ x1 x2 fuel v2 (1 : Int32)
set_option maxRecDepth 100000 in
set_option maxHeartbeats 4000000 in
theorem con_X7_clusterFrom (l : Launch) (σ : St) (x1 : Int32) (x2 : Int32) {r : Int32} (h : f_X7_clusterFrom σ x1 x2 = some r) : Con l yX7_clusterFrom cX7_clusterFrom 5 (some .int) Rm_X7_clusterFrom wM (fun a => [.ref (a 0), .int x1, .int x2]) σ (fun _ => some (.int r)) σ := by
  refine con_of (by decide) ⟨rfl, rfl⟩ (fun _ => Nat.le_of_ble_eq_true rfl) (fun Γ a hC => ?_)
  have hC : Cx Γ l cX7_clusterFrom RX7 5 (some .int) Rm_X7_clusterFrom wM a (some (.int r)) σ := hC
  show Γ σ 0 [(0, .ref (a 0)), (1, .int x1), (2, .int x2)] []
  unfold f_X7_clusterFrom at h
  refine r_aload_n hC dX7_clusterFrom_0 rfl 0 rfl ?_
  refine r_iload_n hC dX7_clusterFrom_1 rfl 1 rfl ?_
  obtain ⟨v2, hv2, h⟩ := bind_of h
  refine r_callV (As := [.int x1]) (rest := []) hC (con_X7_slots l σ x1 hv2) K7_121 (ob7 a σ) rfl rfl rfl rfl ⟨Nat.le_of_ble_eq_true rfl, Nat.le_of_ble_eq_true rfl⟩ (Nat.le_of_ble_eq_true rfl) dX7_clusterFrom_2 ?_
  refine r_istore_n (lv' := [(3, .int v2), (0, .ref (a 0)), (1, .int x1), (2, .int x2)]) hC dX7_clusterFrom_5 rfl (by decide) rfl rfl ?_
  refine r_iconst (v := 1) hC dX7_clusterFrom_6 (by decide) ?_
  refine r_istore (lv' := [(4, .int (1 : Int32)), (3, .int v2), (0, .ref (a 0)), (1, .int x1), (2, .int x2)]) hC dX7_clusterFrom_7 (by decide) rfl rfl ?_
  refine r_sub hC [2, 4, 1, 0] rfl ?_
  exact t_X7_clusterFrom_n9 hC x1 x2 fuel v2 (1 : Int32) h
abbrev Rm_X7_cluster : Room := { frames := 3, cells := 0, slots := 0, locals := 69 }
def f_X7_cluster_n93 (x1 : Int32) (x2 : Int32) (k62 : St → Int32 → Int32 → Int32 → Int32 → Int32 → Option (Int32 × St)) (σ : St) (y3 : Int32) (y4 : Int32) (y5 : Int32) (y7 : Int32) (w0 : Int32) (w1 : Int32) : Option (Int32 × St) :=
  lt_ (w0 + (f_X7_flag σ w1)) fun v1 =>
  lt_ (y7 + (1 : Int32)) fun v2 =>
  k62 σ y3 y4 y5 v1 v2
set_option maxRecDepth 100000 in
set_option maxHeartbeats 4000000 in
theorem t_X7_cluster_n93 {Γ : St → Nat → List (Nat × Value) → List Value → Prop} {l : Launch} {a : Nat → Nat} {r : Int32} {t' : St} (hC : Cx Γ l cX7_cluster RX7 8 (some .int) Rm_X7_cluster wM a (some (.int r)) t') (x1 : Int32) (x2 : Int32) (k62 : St → Int32 → Int32 → Int32 → Int32 → Int32 → Option (Int32 × St)) (hk62 : ∀ (σ : St) (y3 : Int32) (y4 : Int32) (y5 : Int32) (y6 : Int32) (y7 : Int32), k62 σ y3 y4 y5 y6 y7 = some (r, t') → Γ σ 62 [(0, .ref (a 0)), (3, .int y3), (4, .int y4), (5, .int y5), (6, .int y6), (7, .int y7)] []) (σ : St) (y3 : Int32) (y4 : Int32) (y5 : Int32) (y7 : Int32) (w0 : Int32) (w1 : Int32) (h : f_X7_cluster_n93 x1 x2 k62 σ y3 y4 y5 y7 w0 w1 = some (r, t')) : Γ σ 93 [(0, .ref (a 0)), (3, .int y3), (4, .int y4), (5, .int y5), (7, .int y7)] [.int w1, .int w0] := by
  unfold f_X7_cluster_n93 at h
  refine r_callS (As := [.int w1]) (rest := [.int w0]) hC (con_X7_flag l σ w1 rfl) K7_109 rfl rfl rfl ⟨Nat.le_of_ble_eq_true rfl, Nat.le_of_ble_eq_true rfl⟩ (Nat.le_of_ble_eq_true rfl) dX7_cluster_93 ?_
  refine r_iadd hC dX7_cluster_96 ?_
  obtain ⟨v1, ev1, h⟩ := lt_of h
  refine r_istore (lv' := [(6, .int v1), (0, .ref (a 0)), (3, .int y3), (4, .int y4), (5, .int y5), (7, .int y7)]) hC dX7_cluster_97 (by decide) ev1 rfl ?_
  obtain ⟨v2, ev2, h⟩ := lt_of h
  refine r_iinc (c1 := 1) (lv' := [(7, .int v2), (6, .int v1), (0, .ref (a 0)), (3, .int y3), (4, .int y4), (5, .int y5)]) hC dX7_cluster_99 5 rfl (by decide) (by decide) ev2 rfl ?_
  refine r_goto hC 62 dX7_cluster_102 (by decide) ?_
  refine r_sub hC [2, 3, 4, 5, 1, 0] rfl ?_
  exact hk62 σ y3 y4 y5 v1 v2 h
def f_X7_cluster_n62_b (x1 : Int32) (x2 : Int32) (self : St → Int32 → Int32 → Int32 → Int32 → Int32 → Option (Int32 × St)) (σ : St) (y3 : Int32) (y4 : Int32) (y5 : Int32) (y6 : Int32) (y7 : Int32) : Option (Int32 × St) :=
  if y5 ≤ y7 then
    lt_ (put_i σ 1 (0 : Int32)) fun s3 =>
    (f_X7_enters s3 (y4.toInt64)).bind fun s4 =>
    (f_X7_enters s4 (y6.toInt64)).bind fun s5 =>
    some (y5, s5)
  else
  if y3 = 0 then none else
  if in_b ((y4 + y7) - (y4 + y7) / y3 * y3) 64 = true then
    if ((st_a σ 6 ((y4 + y7) - (y4 + y7) / y3 * y3).toNatClampNeg) &&& (2 : Int32)) = 0 then
      f_X7_cluster_n93 x1 x2 self σ y3 y4 y5 y7 y6 (1 : Int32)
    else
    f_X7_cluster_n93 x1 x2 self σ y3 y4 y5 y7 y6 (0 : Int32)
  else none
def f_X7_cluster_n62 (x1 : Int32) (x2 : Int32) : Nat → St → Int32 → Int32 → Int32 → Int32 → Int32 → Option (Int32 × St)
  | 0 => fun _ _ _ _ _ _ => none
  | n + 1 => fun σ y3 y4 y5 y6 y7 => f_X7_cluster_n62_b x1 x2  (f_X7_cluster_n62 x1 x2  n) σ y3 y4 y5 y6 y7
set_option maxRecDepth 100000 in
set_option maxHeartbeats 4000000 in
theorem t_X7_cluster_n62_b {Γ : St → Nat → List (Nat × Value) → List Value → Prop} {l : Launch} {a : Nat → Nat} {r : Int32} {t' : St} (hC : Cx Γ l cX7_cluster RX7 8 (some .int) Rm_X7_cluster wM a (some (.int r)) t') (x1 : Int32) (x2 : Int32) (self : St → Int32 → Int32 → Int32 → Int32 → Int32 → Option (Int32 × St)) (hself : ∀ (σ : St) (y3 : Int32) (y4 : Int32) (y5 : Int32) (y6 : Int32) (y7 : Int32), self σ y3 y4 y5 y6 y7 = some (r, t') → Γ σ 62 [(0, .ref (a 0)), (3, .int y3), (4, .int y4), (5, .int y5), (6, .int y6), (7, .int y7)] []) (σ : St) (y3 : Int32) (y4 : Int32) (y5 : Int32) (y6 : Int32) (y7 : Int32) (h : f_X7_cluster_n62_b x1 x2 self σ y3 y4 y5 y6 y7 = some (r, t')) : Γ σ 62 [(0, .ref (a 0)), (3, .int y3), (4, .int y4), (5, .int y5), (6, .int y6), (7, .int y7)] [] := by
  unfold f_X7_cluster_n62_b at h
  refine r_iload hC dX7_cluster_62 5 rfl ?_
  refine r_iload hC dX7_cluster_64 3 rfl ?_
  refine r_icmp_ge hC 105 dX7_cluster_66 (by decide) (fun q => ?_) (fun q => ?_)
  · replace h := if_p q h
    refine r_aload_n hC dX7_cluster_105 rfl 0 rfl ?_
    refine r_iconst (v := 0) hC dX7_cluster_106 (by decide) ?_
    obtain ⟨s3, es3, h⟩ := lt_of h
    refine P7_11 hC es3 dX7_cluster_107 ?_
    refine r_aload_n hC dX7_cluster_110 rfl 0 rfl ?_
    refine r_iload hC dX7_cluster_111 2 rfl ?_
    refine r_i2l hC dX7_cluster_113 ?_
    obtain ⟨s4, hs4, h⟩ := bind_of h
    refine r_callV (As := [.long (y4.toInt64)]) (rest := []) hC (con_X7_enters l s3 (y4.toInt64) hs4) K7_145 (ob7 a s3) rfl rfl rfl rfl ⟨Nat.le_of_ble_eq_true rfl, Nat.le_of_ble_eq_true rfl⟩ (Nat.le_of_ble_eq_true rfl) dX7_cluster_114 ?_
    refine r_aload_n hC dX7_cluster_117 rfl 0 rfl ?_
    refine r_iload hC dX7_cluster_118 4 rfl ?_
    refine r_i2l hC dX7_cluster_120 ?_
    obtain ⟨s5, hs5, h⟩ := bind_of h
    refine r_callV (As := [.long (y6.toInt64)]) (rest := []) hC (con_X7_enters l s4 (y6.toInt64) hs5) K7_145 (ob7 a s4) rfl rfl rfl rfl ⟨Nat.le_of_ble_eq_true rfl, Nat.le_of_ble_eq_true rfl⟩ (Nat.le_of_ble_eq_true rfl) dX7_cluster_121 ?_
    refine r_iload hC dX7_cluster_124 3 rfl ?_
    exact r_iretS hC dX7_cluster_126 h
  · replace h := if_n q h
    refine r_iload hC dX7_cluster_69 4 rfl ?_
    refine r_aload_n hC dX7_cluster_71 rfl 0 rfl ?_
    refine G7_72 hC dX7_cluster_72 ?_
    refine r_iload hC dX7_cluster_75 2 rfl ?_
    refine r_iload hC dX7_cluster_77 5 rfl ?_
    refine r_iadd hC dX7_cluster_79 ?_
    refine r_iload_n hC dX7_cluster_80 rfl 1 rfl ?_
    obtain ⟨hz, h⟩ := nz_of h
    refine r_irem hC dX7_cluster_81 hz ?_
    obtain ⟨hi, h⟩ := inb_of h
    refine L_m_marks hC hi dX7_cluster_82 ?_
    refine r_iconst (v := 2) hC dX7_cluster_83 (by decide) ?_
    refine r_iand hC dX7_cluster_84 ?_
    refine r_if_ne hC 92 dX7_cluster_85 (by decide) (fun q => ?_) (fun q => ?_)
    · replace h := if_n q h
      refine r_iconst (v := 0) hC dX7_cluster_92 (by decide) ?_
      refine r_sub hC [0, 1, 2, 3, 5] rfl ?_
      exact t_X7_cluster_n93 hC x1 x2 self hself σ y3 y4 y5 y7 y6 (0 : Int32) h
    · replace h := if_p q h
      refine r_iconst (v := 1) hC dX7_cluster_88 (by decide) ?_
      refine r_goto hC 93 dX7_cluster_89 (by decide) ?_
      refine r_sub hC [0, 1, 2, 3, 5] rfl ?_
      exact t_X7_cluster_n93 hC x1 x2 self hself σ y3 y4 y5 y7 y6 (1 : Int32) h
set_option maxRecDepth 100000 in
set_option maxHeartbeats 4000000 in
theorem t_X7_cluster_n62 {Γ : St → Nat → List (Nat × Value) → List Value → Prop} {l : Launch} {a : Nat → Nat} {r : Int32} {t' : St} (hC : Cx Γ l cX7_cluster RX7 8 (some .int) Rm_X7_cluster wM a (some (.int r)) t') (x1 : Int32) (x2 : Int32) (n : Nat) : ∀ (σ : St) (y3 : Int32) (y4 : Int32) (y5 : Int32) (y6 : Int32) (y7 : Int32), f_X7_cluster_n62 x1 x2 n σ y3 y4 y5 y6 y7 = some (r, t') → Γ σ 62 [(0, .ref (a 0)), (3, .int y3), (4, .int y4), (5, .int y5), (6, .int y6), (7, .int y7)] [] := by
  induction n with
  | zero =>
    intro σ y3 y4 y5 y6 y7  h
    have h : (none : Option (Int32 × St)) = some (r, t') := h
    cases h
  | succ n ih =>
    intro σ y3 y4 y5 y6 y7  h
    exact t_X7_cluster_n62_b hC x1 x2    (f_X7_cluster_n62 x1 x2  n) ih σ y3 y4 y5 y6 y7  h
def f_X7_cluster (σ : St) (x1 : Int32) (x2 : Int32) : Option (Int32 × St) :=
  lt_ (put_i σ 0 (0 : Int32)) fun s6 =>
  (f_X7_isSlot s6 x1 x2).bind fun v7 =>
  if v7 = 0 then
    some ((-1 : Int32), s6)
  else
  (f_X7_lies s6 x1).bind fun s8 =>
  if in_b x2 64 = true then
    if 0 ≤ (st_a s8 5 x2.toNatClampNeg) then
      (f_X7_slots s8 x1).bind fun v9 =>
      (f_X7_firstOf s8 x1 x2).bind fun v10 =>
      (f_X7_clusterFrom s8 x1 v10).bind fun v11 =>
      f_X7_cluster_n62 x1 x2 fuel s8 v9 v10 v11 (0 : Int32) (0 : Int32)
    else
    some ((-2 : Int32), s8)
  else none
set_option maxRecDepth 100000 in
set_option maxHeartbeats 4000000 in
theorem con_X7_cluster (l : Launch) (σ : St) (x1 : Int32) (x2 : Int32) {r : Int32} {t' : St} (h : f_X7_cluster σ x1 x2 = some (r, t')) : Con l yX7_cluster cX7_cluster 8 (some .int) Rm_X7_cluster wM (fun a => [.ref (a 0), .int x1, .int x2]) σ (fun _ => some (.int r)) t' := by
  refine con_of (by decide) ⟨rfl, rfl⟩ (fun _ => Nat.le_of_ble_eq_true rfl) (fun Γ a hC => ?_)
  have hC : Cx Γ l cX7_cluster RX7 8 (some .int) Rm_X7_cluster wM a (some (.int r)) t' := hC
  show Γ σ 0 [(0, .ref (a 0)), (1, .int x1), (2, .int x2)] []
  unfold f_X7_cluster at h
  refine r_aload_n hC dX7_cluster_0 rfl 0 rfl ?_
  refine r_iconst (v := 0) hC dX7_cluster_1 (by decide) ?_
  obtain ⟨s6, es6, h⟩ := lt_of h
  refine P7_1 hC es6 dX7_cluster_2 ?_
  refine r_aload_n hC dX7_cluster_5 rfl 0 rfl ?_
  refine r_iload_n hC dX7_cluster_6 rfl 1 rfl ?_
  refine r_iload_n hC dX7_cluster_7 rfl 2 rfl ?_
  obtain ⟨v7, hv7, h⟩ := bind_of h
  refine r_callV (As := [.int x1, .int x2]) (rest := []) hC (con_X7_isSlot l s6 x1 x2 hv7) K7_208 (ob7 a s6) rfl rfl rfl rfl ⟨Nat.le_of_ble_eq_true rfl, Nat.le_of_ble_eq_true rfl⟩ (Nat.le_of_ble_eq_true rfl) dX7_cluster_8 ?_
  refine r_if_ne hC 16 dX7_cluster_11 (by decide) (fun q => ?_) (fun q => ?_)
  · replace h := if_n q h
    refine r_aload_n hC dX7_cluster_16 rfl 0 rfl ?_
    refine r_iload_n hC dX7_cluster_17 rfl 1 rfl ?_
    obtain ⟨s8, hs8, h⟩ := bind_of h
    refine r_callV (As := [.int x1]) (rest := []) hC (con_X7_lies l s6 x1 hs8) K7_162 (ob7 a s6) rfl rfl rfl rfl ⟨Nat.le_of_ble_eq_true rfl, Nat.le_of_ble_eq_true rfl⟩ (Nat.le_of_ble_eq_true rfl) dX7_cluster_18 ?_
    refine r_aload_n hC dX7_cluster_21 rfl 0 rfl ?_
    refine G7_69 hC dX7_cluster_22 ?_
    refine r_iload_n hC dX7_cluster_25 rfl 2 rfl ?_
    obtain ⟨hi, h⟩ := inb_of h
    refine L_m_holds hC hi dX7_cluster_26 ?_
    refine r_if_ge hC 33 dX7_cluster_27 (by decide) (fun q => ?_) (fun q => ?_)
    · replace h := if_p q h
      refine r_aload_n hC dX7_cluster_33 rfl 0 rfl ?_
      refine r_iload_n hC dX7_cluster_34 rfl 1 rfl ?_
      obtain ⟨v9, hv9, h⟩ := bind_of h
      refine r_callV (As := [.int x1]) (rest := []) hC (con_X7_slots l s8 x1 hv9) K7_121 (ob7 a s8) rfl rfl rfl rfl ⟨Nat.le_of_ble_eq_true rfl, Nat.le_of_ble_eq_true rfl⟩ (Nat.le_of_ble_eq_true rfl) dX7_cluster_35 ?_
      refine r_istore_n (lv' := [(3, .int v9), (0, .ref (a 0)), (1, .int x1), (2, .int x2)]) hC dX7_cluster_38 rfl (by decide) rfl rfl ?_
      refine r_aload_n hC dX7_cluster_39 rfl 1 rfl ?_
      refine r_iload_n hC dX7_cluster_40 rfl 2 rfl ?_
      refine r_iload_n hC dX7_cluster_41 rfl 3 rfl ?_
      obtain ⟨v10, hv10, h⟩ := bind_of h
      refine r_callV (As := [.int x1, .int x2]) (rest := []) hC (con_X7_firstOf l s8 x1 x2 hv10) K7_263 (ob7 a s8) rfl rfl rfl rfl ⟨Nat.le_of_ble_eq_true rfl, Nat.le_of_ble_eq_true rfl⟩ (Nat.le_of_ble_eq_true rfl) dX7_cluster_42 ?_
      refine r_istore (lv' := [(4, .int v10), (3, .int v9), (0, .ref (a 0)), (1, .int x1), (2, .int x2)]) hC dX7_cluster_45 (by decide) rfl rfl ?_
      refine r_aload_n hC dX7_cluster_47 rfl 2 rfl ?_
      refine r_iload_n hC dX7_cluster_48 rfl 3 rfl ?_
      refine r_iload hC dX7_cluster_49 0 rfl ?_
      obtain ⟨v11, hv11, h⟩ := bind_of h
      refine r_callV (As := [.int x1, .int v10]) (rest := []) hC (con_X7_clusterFrom l s8 x1 v10 hv11) K7_266 (ob7 a s8) rfl rfl rfl rfl ⟨Nat.le_of_ble_eq_true rfl, Nat.le_of_ble_eq_true rfl⟩ (Nat.le_of_ble_eq_true rfl) dX7_cluster_51 ?_
      refine r_istore (lv' := [(5, .int v11), (4, .int v10), (3, .int v9), (0, .ref (a 0)), (1, .int x1), (2, .int x2)]) hC dX7_cluster_54 (by decide) rfl rfl ?_
      refine r_iconst (v := 0) hC dX7_cluster_56 (by decide) ?_
      refine r_istore (lv' := [(6, .int (0 : Int32)), (5, .int v11), (4, .int v10), (3, .int v9), (0, .ref (a 0)), (1, .int x1), (2, .int x2)]) hC dX7_cluster_57 (by decide) rfl rfl ?_
      refine r_iconst (v := 0) hC dX7_cluster_59 (by decide) ?_
      refine r_istore (lv' := [(7, .int (0 : Int32)), (6, .int (0 : Int32)), (5, .int v11), (4, .int v10), (3, .int v9), (0, .ref (a 0)), (1, .int x1), (2, .int x2)]) hC dX7_cluster_60 (by decide) rfl rfl ?_
      refine r_sub hC [5, 4, 3, 2, 1, 0] rfl ?_
      exact t_X7_cluster_n62 hC x1 x2 fuel s8 v9 v10 v11 (0 : Int32) (0 : Int32) h
    · replace h := if_n q h
      refine r_bipush (v := -2) hC dX7_cluster_30 (by decide) ?_
      exact r_iretS hC dX7_cluster_32 h
  · replace h := if_p q h
    refine r_iconst (v := -1) hC dX7_cluster_14 (by decide) ?_
    exact r_iretS hC dX7_cluster_15 h
abbrev Rm_X7_clusters : Room := { frames := 3, cells := 0, slots := 0, locals := 69 }
def f_X7_clusters_n76 (x1 : Int32) (k29 : St → Int32 → Int32 → Int32 → Int32 → Option (Int32 × St)) (σ : St) (y2 : Int32) (y3 : Int32) (y5 : Int32) (y6 : Int32) (w0 : Int32) : Option (Int32 × St) :=
  lt_ (if y3 < y6 then y6 else y3) fun v1 =>
  lt_ (y5 + (1 : Int32)) fun v2 =>
  k29 σ y2 v1 w0 v2
set_option maxRecDepth 100000 in
set_option maxHeartbeats 4000000 in
theorem t_X7_clusters_n76 {Γ : St → Nat → List (Nat × Value) → List Value → Prop} {l : Launch} {a : Nat → Nat} {r : Int32} {t' : St} (hC : Cx Γ l cX7_clusters RX7 7 (some .int) Rm_X7_clusters wM a (some (.int r)) t') (x1 : Int32) (k29 : St → Int32 → Int32 → Int32 → Int32 → Option (Int32 × St)) (hk29 : ∀ (σ : St) (y2 : Int32) (y3 : Int32) (y4 : Int32) (y5 : Int32), k29 σ y2 y3 y4 y5 = some (r, t') → Γ σ 29 [(0, .ref (a 0)), (1, .int x1), (2, .int y2), (3, .int y3), (4, .int y4), (5, .int y5)] []) (σ : St) (y2 : Int32) (y3 : Int32) (y5 : Int32) (y6 : Int32) (w0 : Int32) (h : f_X7_clusters_n76 x1 k29 σ y2 y3 y5 y6 w0 = some (r, t')) : Γ σ 76 [(0, .ref (a 0)), (1, .int x1), (2, .int y2), (3, .int y3), (5, .int y5), (6, .int y6)] [.int w0] := by
  unfold f_X7_clusters_n76 at h
  refine r_istore (lv' := [(4, .int w0), (0, .ref (a 0)), (1, .int x1), (2, .int y2), (3, .int y3), (5, .int y5), (6, .int y6)]) hC dX7_clusters_76 (by decide) rfl rfl ?_
  refine r_iload_n hC dX7_clusters_78 rfl 4 rfl ?_
  refine r_iload hC dX7_clusters_79 6 rfl ?_
  refine r_mmax hC dX7_clusters_81 K7_124 ⟨Nat.le_of_ble_eq_true rfl, Nat.le_of_ble_eq_true rfl⟩ ?_
  obtain ⟨v1, ev1, h⟩ := lt_of h
  refine r_istore_n (lv' := [(3, .int v1), (4, .int w0), (0, .ref (a 0)), (1, .int x1), (2, .int y2), (5, .int y5), (6, .int y6)]) hC dX7_clusters_84 rfl (by decide) ev1 rfl ?_
  obtain ⟨v2, ev2, h⟩ := lt_of h
  refine r_iinc (c1 := 1) (lv' := [(5, .int v2), (3, .int v1), (4, .int w0), (0, .ref (a 0)), (1, .int x1), (2, .int y2), (6, .int y6)]) hC dX7_clusters_85 5 rfl (by decide) (by decide) ev2 rfl ?_
  refine r_goto hC 29 dX7_clusters_88 (by decide) ?_
  refine r_sub hC [3, 4, 5, 1, 2, 0] rfl ?_
  exact hk29 σ y2 v1 w0 v2 h
def f_X7_clusters_n29_b (x1 : Int32) (self : St → Int32 → Int32 → Int32 → Int32 → Option (Int32 × St)) (σ : St) (y2 : Int32) (y3 : Int32) (y4 : Int32) (y5 : Int32) : Option (Int32 × St) :=
  (f_X7_slots σ x1).bind fun v3 =>
  if v3 ≤ y5 then
    lt_ (put_i σ 1 (0 : Int32)) fun s4 =>
    (f_X7_enters s4 (y3.toInt64)).bind fun s5 =>
    (f_X7_enters s5 (y4.toInt64)).bind fun s6 =>
    some (y2, s6)
  else
  (f_X7_begins σ y5).bind fun v7 =>
  if v7 = 0 then
    lt_ (y5 + (1 : Int32)) fun v10 =>
    self σ y2 y3 y4 v10
  else
  lt_ (y2 + (1 : Int32)) fun v8 =>
  (f_X7_clusterFrom σ x1 y5).bind fun v9 =>
  if v9 ≤ y3 then
    f_X7_clusters_n76 x1 self σ v8 y3 y5 v9 y4
  else
  f_X7_clusters_n76 x1 self σ v8 y3 y5 v9 y5
def f_X7_clusters_n29 (x1 : Int32) : Nat → St → Int32 → Int32 → Int32 → Int32 → Option (Int32 × St)
  | 0 => fun _ _ _ _ _ => none
  | n + 1 => fun σ y2 y3 y4 y5 => f_X7_clusters_n29_b x1  (f_X7_clusters_n29 x1  n) σ y2 y3 y4 y5
set_option maxRecDepth 100000 in
set_option maxHeartbeats 4000000 in
theorem t_X7_clusters_n29_b {Γ : St → Nat → List (Nat × Value) → List Value → Prop} {l : Launch} {a : Nat → Nat} {r : Int32} {t' : St} (hC : Cx Γ l cX7_clusters RX7 7 (some .int) Rm_X7_clusters wM a (some (.int r)) t') (x1 : Int32) (self : St → Int32 → Int32 → Int32 → Int32 → Option (Int32 × St)) (hself : ∀ (σ : St) (y2 : Int32) (y3 : Int32) (y4 : Int32) (y5 : Int32), self σ y2 y3 y4 y5 = some (r, t') → Γ σ 29 [(0, .ref (a 0)), (1, .int x1), (2, .int y2), (3, .int y3), (4, .int y4), (5, .int y5)] []) (σ : St) (y2 : Int32) (y3 : Int32) (y4 : Int32) (y5 : Int32) (h : f_X7_clusters_n29_b x1 self σ y2 y3 y4 y5 = some (r, t')) : Γ σ 29 [(0, .ref (a 0)), (1, .int x1), (2, .int y2), (3, .int y3), (4, .int y4), (5, .int y5)] [] := by
  unfold f_X7_clusters_n29_b at h
  refine r_iload hC dX7_clusters_29 5 rfl ?_
  refine r_aload_n hC dX7_clusters_31 rfl 0 rfl ?_
  refine r_iload_n hC dX7_clusters_32 rfl 1 rfl ?_
  obtain ⟨v3, hv3, h⟩ := bind_of h
  refine r_callV (As := [.int x1]) (rest := [.int y5]) hC (con_X7_slots l σ x1 hv3) K7_121 (ob7 a σ) rfl rfl rfl rfl ⟨Nat.le_of_ble_eq_true rfl, Nat.le_of_ble_eq_true rfl⟩ (Nat.le_of_ble_eq_true rfl) dX7_clusters_33 ?_
  refine r_icmp_ge hC 91 dX7_clusters_36 (by decide) (fun q => ?_) (fun q => ?_)
  · replace h := if_p q h
    refine r_aload_n hC dX7_clusters_91 rfl 0 rfl ?_
    refine r_iconst (v := 0) hC dX7_clusters_92 (by decide) ?_
    obtain ⟨s4, es4, h⟩ := lt_of h
    refine P7_11 hC es4 dX7_clusters_93 ?_
    refine r_aload_n hC dX7_clusters_96 rfl 0 rfl ?_
    refine r_iload_n hC dX7_clusters_97 rfl 3 rfl ?_
    refine r_i2l hC dX7_clusters_98 ?_
    obtain ⟨s5, hs5, h⟩ := bind_of h
    refine r_callV (As := [.long (y3.toInt64)]) (rest := []) hC (con_X7_enters l s4 (y3.toInt64) hs5) K7_145 (ob7 a s4) rfl rfl rfl rfl ⟨Nat.le_of_ble_eq_true rfl, Nat.le_of_ble_eq_true rfl⟩ (Nat.le_of_ble_eq_true rfl) dX7_clusters_99 ?_
    refine r_aload_n hC dX7_clusters_102 rfl 0 rfl ?_
    refine r_iload hC dX7_clusters_103 4 rfl ?_
    refine r_i2l hC dX7_clusters_105 ?_
    obtain ⟨s6, hs6, h⟩ := bind_of h
    refine r_callV (As := [.long (y4.toInt64)]) (rest := []) hC (con_X7_enters l s5 (y4.toInt64) hs6) K7_145 (ob7 a s5) rfl rfl rfl rfl ⟨Nat.le_of_ble_eq_true rfl, Nat.le_of_ble_eq_true rfl⟩ (Nat.le_of_ble_eq_true rfl) dX7_clusters_106 ?_
    refine r_iload_n hC dX7_clusters_109 rfl 2 rfl ?_
    exact r_iretS hC dX7_clusters_110 h
  · replace h := if_n q h
    refine r_aload_n hC dX7_clusters_39 rfl 0 rfl ?_
    refine r_iload hC dX7_clusters_40 5 rfl ?_
    obtain ⟨v7, hv7, h⟩ := bind_of h
    refine r_callV (As := [.int y5]) (rest := []) hC (con_X7_begins l σ y5 hv7) K7_269 (ob7 a σ) rfl rfl rfl rfl ⟨Nat.le_of_ble_eq_true rfl, Nat.le_of_ble_eq_true rfl⟩ (Nat.le_of_ble_eq_true rfl) dX7_clusters_42 ?_
    refine r_if_ne hC 51 dX7_clusters_45 (by decide) (fun q => ?_) (fun q => ?_)
    · replace h := if_n q h
      obtain ⟨v8, ev8, h⟩ := lt_of h
      refine r_iinc (c1 := 1) (lv' := [(2, .int v8), (0, .ref (a 0)), (1, .int x1), (3, .int y3), (4, .int y4), (5, .int y5)]) hC dX7_clusters_51 2 rfl (by decide) (by decide) ev8 rfl ?_
      refine r_aload_n hC dX7_clusters_54 rfl 1 rfl ?_
      refine r_iload_n hC dX7_clusters_55 rfl 2 rfl ?_
      refine r_iload hC dX7_clusters_56 5 rfl ?_
      obtain ⟨v9, hv9, h⟩ := bind_of h
      refine r_callV (As := [.int x1, .int y5]) (rest := []) hC (con_X7_clusterFrom l σ x1 y5 hv9) K7_266 (ob7 a σ) rfl rfl rfl rfl ⟨Nat.le_of_ble_eq_true rfl, Nat.le_of_ble_eq_true rfl⟩ (Nat.le_of_ble_eq_true rfl) dX7_clusters_58 ?_
      refine r_istore (lv' := [(6, .int v9), (2, .int v8), (0, .ref (a 0)), (1, .int x1), (3, .int y3), (4, .int y4), (5, .int y5)]) hC dX7_clusters_61 (by decide) rfl rfl ?_
      refine r_iload hC dX7_clusters_63 0 rfl ?_
      refine r_iload_n hC dX7_clusters_65 rfl 4 rfl ?_
      refine r_icmp_le hC 74 dX7_clusters_66 (by decide) (fun q => ?_) (fun q => ?_)
      · replace h := if_p q h
        refine r_iload hC dX7_clusters_74 5 rfl ?_
        refine r_sub hC [2, 3, 1, 4, 6, 0] rfl ?_
        exact t_X7_clusters_n76 hC x1 self hself σ v8 y3 y5 v9 y4 h
      · replace h := if_n q h
        refine r_iload hC dX7_clusters_69 6 rfl ?_
        refine r_goto hC 76 dX7_clusters_71 (by decide) ?_
        refine r_sub hC [2, 3, 1, 4, 6, 0] rfl ?_
        exact t_X7_clusters_n76 hC x1 self hself σ v8 y3 y5 v9 y5 h
    · replace h := if_p q h
      refine r_goto hC 85 dX7_clusters_48 (by decide) ?_
      obtain ⟨v10, ev10, h⟩ := lt_of h
      refine r_iinc (c1 := 1) (lv' := [(5, .int v10), (0, .ref (a 0)), (1, .int x1), (2, .int y2), (3, .int y3), (4, .int y4)]) hC dX7_clusters_85 5 rfl (by decide) (by decide) ev10 rfl ?_
      refine r_goto hC 29 dX7_clusters_88 (by decide) ?_
      refine r_sub hC [1, 2, 3, 4, 5, 0] rfl ?_
      exact hself σ y2 y3 y4 v10 h
set_option maxRecDepth 100000 in
set_option maxHeartbeats 4000000 in
theorem t_X7_clusters_n29 {Γ : St → Nat → List (Nat × Value) → List Value → Prop} {l : Launch} {a : Nat → Nat} {r : Int32} {t' : St} (hC : Cx Γ l cX7_clusters RX7 7 (some .int) Rm_X7_clusters wM a (some (.int r)) t') (x1 : Int32) (n : Nat) : ∀ (σ : St) (y2 : Int32) (y3 : Int32) (y4 : Int32) (y5 : Int32), f_X7_clusters_n29 x1 n σ y2 y3 y4 y5 = some (r, t') → Γ σ 29 [(0, .ref (a 0)), (1, .int x1), (2, .int y2), (3, .int y3), (4, .int y4), (5, .int y5)] [] := by
  induction n with
  | zero =>
    intro σ y2 y3 y4 y5  h
    have h : (none : Option (Int32 × St)) = some (r, t') := h
    cases h
  | succ n ih =>
    intro σ y2 y3 y4 y5  h
    exact t_X7_clusters_n29_b hC x1    (f_X7_clusters_n29 x1  n) ih σ y2 y3 y4 y5  h
def f_X7_clusters (σ : St) (x1 : Int32) : Option (Int32 × St) :=
  lt_ (put_i σ 0 (0 : Int32)) fun s11 =>
  if (f_X7_isFile s11 x1) = 0 then
    some ((-1 : Int32), s11)
  else
  (f_X7_lies s11 x1).bind fun s12 =>
  f_X7_clusters_n29 x1 fuel s12 (0 : Int32) (0 : Int32) (-1 : Int32) (0 : Int32)
set_option maxRecDepth 100000 in
set_option maxHeartbeats 4000000 in
theorem con_X7_clusters (l : Launch) (σ : St) (x1 : Int32) {r : Int32} {t' : St} (h : f_X7_clusters σ x1 = some (r, t')) : Con l yX7_clusters cX7_clusters 7 (some .int) Rm_X7_clusters wM (fun a => [.ref (a 0), .int x1]) σ (fun _ => some (.int r)) t' := by
  refine con_of (by decide) ⟨rfl, rfl⟩ (fun _ => Nat.le_of_ble_eq_true rfl) (fun Γ a hC => ?_)
  have hC : Cx Γ l cX7_clusters RX7 7 (some .int) Rm_X7_clusters wM a (some (.int r)) t' := hC
  show Γ σ 0 [(0, .ref (a 0)), (1, .int x1)] []
  unfold f_X7_clusters at h
  refine r_aload_n hC dX7_clusters_0 rfl 0 rfl ?_
  refine r_iconst (v := 0) hC dX7_clusters_1 (by decide) ?_
  obtain ⟨s11, es11, h⟩ := lt_of h
  refine P7_1 hC es11 dX7_clusters_2 ?_
  refine r_iload_n hC dX7_clusters_5 rfl 1 rfl ?_
  refine r_callS (As := [.int x1]) (rest := []) hC (con_X7_isFile l s11 x1 rfl) K7_136 rfl rfl rfl ⟨Nat.le_of_ble_eq_true rfl, Nat.le_of_ble_eq_true rfl⟩ (Nat.le_of_ble_eq_true rfl) dX7_clusters_6 ?_
  refine r_if_ne hC 14 dX7_clusters_9 (by decide) (fun q => ?_) (fun q => ?_)
  · replace h := if_n q h
    refine r_aload_n hC dX7_clusters_14 rfl 0 rfl ?_
    refine r_iload_n hC dX7_clusters_15 rfl 1 rfl ?_
    obtain ⟨s12, hs12, h⟩ := bind_of h
    refine r_callV (As := [.int x1]) (rest := []) hC (con_X7_lies l s11 x1 hs12) K7_162 (ob7 a s11) rfl rfl rfl rfl ⟨Nat.le_of_ble_eq_true rfl, Nat.le_of_ble_eq_true rfl⟩ (Nat.le_of_ble_eq_true rfl) dX7_clusters_16 ?_
    refine r_iconst (v := 0) hC dX7_clusters_19 (by decide) ?_
    refine r_istore_n (lv' := [(2, .int (0 : Int32)), (0, .ref (a 0)), (1, .int x1)]) hC dX7_clusters_20 rfl (by decide) rfl rfl ?_
    refine r_iconst (v := 0) hC dX7_clusters_21 (by decide) ?_
    refine r_istore_n (lv' := [(3, .int (0 : Int32)), (2, .int (0 : Int32)), (0, .ref (a 0)), (1, .int x1)]) hC dX7_clusters_22 rfl (by decide) rfl rfl ?_
    refine r_iconst (v := -1) hC dX7_clusters_23 (by decide) ?_
    refine r_istore (lv' := [(4, .int (-1 : Int32)), (3, .int (0 : Int32)), (2, .int (0 : Int32)), (0, .ref (a 0)), (1, .int x1)]) hC dX7_clusters_24 (by decide) rfl rfl ?_
    refine r_iconst (v := 0) hC dX7_clusters_26 (by decide) ?_
    refine r_istore (lv' := [(5, .int (0 : Int32)), (4, .int (-1 : Int32)), (3, .int (0 : Int32)), (2, .int (0 : Int32)), (0, .ref (a 0)), (1, .int x1)]) hC dX7_clusters_27 (by decide) rfl rfl ?_
    refine r_sub hC [4, 5, 3, 2, 1, 0] rfl ?_
    exact t_X7_clusters_n29 hC x1 fuel s12 (0 : Int32) (0 : Int32) (-1 : Int32) (0 : Int32) h
  · replace h := if_p q h
    refine r_iconst (v := -1) hC dX7_clusters_12 (by decide) ?_
    exact r_iretS hC dX7_clusters_13 h
abbrev Rm_X7_comes : Room := { frames := 1, cells := 0, slots := 0, locals := 22 }
def f_X7_comes_n48 (x1 : Int32) (x2 : Int32) (σ : St) (y3 : Int32) : Option St :=
  if in_b (((64 : Int32) * x1) + y3) 128 = true then
    lt_ (put_a σ 3 (((64 : Int32) * x1) + y3).toNatClampNeg x2) fun s1 =>
    if in_b x1 2 = true then
      if in_b x1 2 = true then
        lt_ (put_a s1 2 x1.toNatClampNeg ((st_a s1 2 x1.toNatClampNeg) + (1 : Int32))) fun s2 =>
        some s2
      else none
    else none
  else none
set_option maxRecDepth 100000 in
set_option maxHeartbeats 4000000 in
theorem t_X7_comes_n48 {Γ : St → Nat → List (Nat × Value) → List Value → Prop} {l : Launch} {a : Nat → Nat} {t' : St} (hC : Cx Γ l cX7_comes RX7 4 none Rm_X7_comes wM a (none) t') (x1 : Int32) (x2 : Int32) (σ : St) (y3 : Int32) (h : f_X7_comes_n48 x1 x2 σ y3 = some t') : Γ σ 48 [(0, .ref (a 0)), (1, .int x1), (2, .int x2), (3, .int y3)] [] := by
  unfold f_X7_comes_n48 at h
  refine r_aload_n hC dX7_comes_48 rfl 0 rfl ?_
  refine G7_63 hC dX7_comes_49 ?_
  refine r_bipush (v := 64) hC dX7_comes_52 (by decide) ?_
  refine r_iload_n hC dX7_comes_54 rfl 1 rfl ?_
  refine r_imul hC dX7_comes_55 ?_
  refine r_iload_n hC dX7_comes_56 rfl 3 rfl ?_
  refine r_iadd hC dX7_comes_57 ?_
  refine r_iload_n hC dX7_comes_58 rfl 2 rfl ?_
  obtain ⟨hi, h⟩ := inb_of h
  obtain ⟨s1, es1, h⟩ := lt_of h
  refine S_m_print hC es1 hi dX7_comes_59 ?_
  refine r_aload_n hC dX7_comes_60 rfl 0 rfl ?_
  refine G7_60 hC dX7_comes_61 ?_
  refine r_iload_n hC dX7_comes_64 rfl 1 rfl ?_
  refine r_dup2 hC dX7_comes_65 rfl rfl ?_
  obtain ⟨hi, h⟩ := inb_of h
  refine L_m_many hC hi dX7_comes_66 ?_
  refine r_iconst (v := 1) hC dX7_comes_67 (by decide) ?_
  refine r_iadd hC dX7_comes_68 ?_
  obtain ⟨hi, h⟩ := inb_of h
  obtain ⟨s2, es2, h⟩ := lt_of h
  refine S_m_many hC es2 hi dX7_comes_69 ?_
  exact r_vretS hC dX7_comes_70 h
def f_X7_comes_n7_b (x1 : Int32) (x2 : Int32) (self : St → Int32 → Option St) (σ : St) (y3 : Int32) : Option St :=
  if y3 ≤ 0 then
    f_X7_comes_n48 x1 x2 σ y3
  else
  (f_X7_at σ x1 (y3 - (1 : Int32))).bind fun v3 =>
  if v3 ≤ x2 then
    f_X7_comes_n48 x1 x2 σ y3
  else
  (f_X7_at σ x1 (y3 - (1 : Int32))).bind fun v4 =>
  if in_b (((64 : Int32) * x1) + y3) 128 = true then
    lt_ (put_a σ 3 (((64 : Int32) * x1) + y3).toNatClampNeg v4) fun s5 =>
    lt_ (y3 + (-1 : Int32)) fun v6 =>
    self s5 v6
  else none
def f_X7_comes_n7 (x1 : Int32) (x2 : Int32) : Nat → St → Int32 → Option St
  | 0 => fun _ _ => none
  | n + 1 => fun σ y3 => f_X7_comes_n7_b x1 x2  (f_X7_comes_n7 x1 x2  n) σ y3
set_option maxRecDepth 100000 in
set_option maxHeartbeats 4000000 in
theorem t_X7_comes_n7_b {Γ : St → Nat → List (Nat × Value) → List Value → Prop} {l : Launch} {a : Nat → Nat} {t' : St} (hC : Cx Γ l cX7_comes RX7 4 none Rm_X7_comes wM a (none) t') (x1 : Int32) (x2 : Int32) (self : St → Int32 → Option St) (hself : ∀ (σ : St) (y3 : Int32), self σ y3 = some t' → Γ σ 7 [(0, .ref (a 0)), (1, .int x1), (2, .int x2), (3, .int y3)] []) (σ : St) (y3 : Int32) (h : f_X7_comes_n7_b x1 x2 self σ y3 = some t') : Γ σ 7 [(0, .ref (a 0)), (1, .int x1), (2, .int x2), (3, .int y3)] [] := by
  unfold f_X7_comes_n7_b at h
  refine r_iload_n hC dX7_comes_7 rfl 3 rfl ?_
  refine r_if_le hC 48 dX7_comes_8 (by decide) (fun q => ?_) (fun q => ?_)
  · replace h := if_p q h
    exact t_X7_comes_n48 hC x1 x2 σ y3 h
  · replace h := if_n q h
    refine r_aload_n hC dX7_comes_11 rfl 0 rfl ?_
    refine r_iload_n hC dX7_comes_12 rfl 1 rfl ?_
    refine r_iload_n hC dX7_comes_13 rfl 3 rfl ?_
    refine r_iconst (v := 1) hC dX7_comes_14 (by decide) ?_
    refine r_isub hC dX7_comes_15 ?_
    obtain ⟨v3, hv3, h⟩ := bind_of h
    refine r_callV (As := [.int x1, .int (y3 - (1 : Int32))]) (rest := []) hC (con_X7_at l σ x1 (y3 - (1 : Int32)) hv3) K7_106 (ob7 a σ) rfl rfl rfl rfl ⟨Nat.le_of_ble_eq_true rfl, Nat.le_of_ble_eq_true rfl⟩ (Nat.le_of_ble_eq_true rfl) dX7_comes_16 ?_
    refine r_iload_n hC dX7_comes_19 rfl 2 rfl ?_
    refine r_icmp_le hC 48 dX7_comes_20 (by decide) (fun q => ?_) (fun q => ?_)
    · replace h := if_p q h
      exact t_X7_comes_n48 hC x1 x2 σ y3 h
    · replace h := if_n q h
      refine r_aload_n hC dX7_comes_23 rfl 0 rfl ?_
      refine G7_63 hC dX7_comes_24 ?_
      refine r_bipush (v := 64) hC dX7_comes_27 (by decide) ?_
      refine r_iload_n hC dX7_comes_29 rfl 1 rfl ?_
      refine r_imul hC dX7_comes_30 ?_
      refine r_iload_n hC dX7_comes_31 rfl 3 rfl ?_
      refine r_iadd hC dX7_comes_32 ?_
      refine r_aload_n hC dX7_comes_33 rfl 0 rfl ?_
      refine r_iload_n hC dX7_comes_34 rfl 1 rfl ?_
      refine r_iload_n hC dX7_comes_35 rfl 3 rfl ?_
      refine r_iconst (v := 1) hC dX7_comes_36 (by decide) ?_
      refine r_isub hC dX7_comes_37 ?_
      obtain ⟨v4, hv4, h⟩ := bind_of h
      refine r_callV (As := [.int x1, .int (y3 - (1 : Int32))]) (rest := [.int (((64 : Int32) * x1) + y3), .ref (a 5)]) hC (con_X7_at l σ x1 (y3 - (1 : Int32)) hv4) K7_106 (ob7 a σ) rfl rfl rfl rfl ⟨Nat.le_of_ble_eq_true rfl, Nat.le_of_ble_eq_true rfl⟩ (Nat.le_of_ble_eq_true rfl) dX7_comes_38 ?_
      obtain ⟨hi, h⟩ := inb_of h
      obtain ⟨s5, es5, h⟩ := lt_of h
      refine S_m_print hC es5 hi dX7_comes_41 ?_
      obtain ⟨v6, ev6, h⟩ := lt_of h
      refine r_iinc (c1 := (-1)) (lv' := [(3, .int v6), (0, .ref (a 0)), (1, .int x1), (2, .int x2)]) hC dX7_comes_42 3 rfl (by decide) (by decide) ev6 rfl ?_
      refine r_goto hC 7 dX7_comes_45 (by decide) ?_
      refine r_sub hC [1, 2, 3, 0] rfl ?_
      exact hself s5 v6 h
set_option maxRecDepth 100000 in
set_option maxHeartbeats 4000000 in
theorem t_X7_comes_n7 {Γ : St → Nat → List (Nat × Value) → List Value → Prop} {l : Launch} {a : Nat → Nat} {t' : St} (hC : Cx Γ l cX7_comes RX7 4 none Rm_X7_comes wM a (none) t') (x1 : Int32) (x2 : Int32) (n : Nat) : ∀ (σ : St) (y3 : Int32), f_X7_comes_n7 x1 x2 n σ y3 = some t' → Γ σ 7 [(0, .ref (a 0)), (1, .int x1), (2, .int x2), (3, .int y3)] [] := by
  induction n with
  | zero =>
    intro σ y3  h
    have h : (none : Option St) = some t' := h
    cases h
  | succ n ih =>
    intro σ y3  h
    exact t_X7_comes_n7_b hC x1 x2    (f_X7_comes_n7 x1 x2  n) ih σ y3  h
def f_X7_comes (σ : St) (x1 : Int32) (x2 : Int32) : Option St :=
  if in_b x1 2 = true then
    lt_ (st_a σ 2 x1.toNatClampNeg) fun v7 =>
    f_X7_comes_n7 x1 x2 fuel σ v7
  else none
set_option maxRecDepth 100000 in
set_option maxHeartbeats 4000000 in
theorem con_X7_comes (l : Launch) (σ : St) (x1 : Int32) (x2 : Int32) {t' : St} (h : f_X7_comes σ x1 x2 = some t') : Con l yX7_comes cX7_comes 4 none Rm_X7_comes wM (fun a => [.ref (a 0), .int x1, .int x2]) σ (fun _ => none) t' := by
  refine con_of (by decide) ⟨rfl, rfl⟩ (fun _ => Nat.le_of_ble_eq_true rfl) (fun Γ a hC => ?_)
  have hC : Cx Γ l cX7_comes RX7 4 none Rm_X7_comes wM a (none) t' := hC
  show Γ σ 0 [(0, .ref (a 0)), (1, .int x1), (2, .int x2)] []
  unfold f_X7_comes at h
  refine r_aload_n hC dX7_comes_0 rfl 0 rfl ?_
  refine G7_60 hC dX7_comes_1 ?_
  refine r_iload_n hC dX7_comes_4 rfl 1 rfl ?_
  obtain ⟨hi, h⟩ := inb_of h
  refine L_m_many hC hi dX7_comes_5 ?_
  obtain ⟨v7, ev7, h⟩ := lt_of h
  refine r_istore_n (lv' := [(3, .int v7), (0, .ref (a 0)), (1, .int x1), (2, .int x2)]) hC dX7_comes_6 rfl (by decide) ev7 rfl ?_
  refine r_sub hC [1, 2, 3, 0] rfl ?_
  exact t_X7_comes_n7 hC x1 x2 fuel σ v7 h
abbrev Rm_X7_comesBack : Room := { frames := 0, cells := 0, slots := 0, locals := 0 }
def f_X7_comesBack_n22_b (x1 : Int32) (self : St → Int32 → Option St) (σ : St) (y2 : Int32) : Option St :=
  if (st_i σ 9) ≤ y2 then
    some σ
  else
  if in_b y2 64 = true then
    if in_b (((64 : Int32) * x1) + y2) 128 = true then
      lt_ (put_a σ 3 (((64 : Int32) * x1) + y2).toNatClampNeg (st_a σ 11 y2.toNatClampNeg)) fun s1 =>
      lt_ (y2 + (1 : Int32)) fun v2 =>
      self s1 v2
    else none
  else none
def f_X7_comesBack_n22 (x1 : Int32) : Nat → St → Int32 → Option St
  | 0 => fun _ _ => none
  | n + 1 => fun σ y2 => f_X7_comesBack_n22_b x1  (f_X7_comesBack_n22 x1  n) σ y2
set_option maxRecDepth 100000 in
set_option maxHeartbeats 4000000 in
theorem t_X7_comesBack_n22_b {Γ : St → Nat → List (Nat × Value) → List Value → Prop} {l : Launch} {a : Nat → Nat} {t' : St} (hC : Cx Γ l cX7_comesBack RX7 3 none Rm_X7_comesBack wM a (none) t') (x1 : Int32) (self : St → Int32 → Option St) (hself : ∀ (σ : St) (y2 : Int32), self σ y2 = some t' → Γ σ 22 [(0, .ref (a 0)), (1, .int x1), (2, .int y2)] []) (σ : St) (y2 : Int32) (h : f_X7_comesBack_n22_b x1 self σ y2 = some t') : Γ σ 22 [(0, .ref (a 0)), (1, .int x1), (2, .int y2)] [] := by
  unfold f_X7_comesBack_n22_b at h
  refine r_iload_n hC dX7_comesBack_22 rfl 2 rfl ?_
  refine r_aload_n hC dX7_comesBack_23 rfl 0 rfl ?_
  refine G7_241 hC dX7_comesBack_24 ?_
  refine r_icmp_ge hC 53 dX7_comesBack_27 (by decide) (fun q => ?_) (fun q => ?_)
  · replace h := if_p q h
    exact r_vretS hC dX7_comesBack_53 h
  · replace h := if_n q h
    refine r_aload_n hC dX7_comesBack_30 rfl 0 rfl ?_
    refine G7_63 hC dX7_comesBack_31 ?_
    refine r_bipush (v := 64) hC dX7_comesBack_34 (by decide) ?_
    refine r_iload_n hC dX7_comesBack_36 rfl 1 rfl ?_
    refine r_imul hC dX7_comesBack_37 ?_
    refine r_iload_n hC dX7_comesBack_38 rfl 2 rfl ?_
    refine r_iadd hC dX7_comesBack_39 ?_
    refine r_aload_n hC dX7_comesBack_40 rfl 0 rfl ?_
    refine G7_91 hC dX7_comesBack_41 ?_
    refine r_iload_n hC dX7_comesBack_44 rfl 2 rfl ?_
    obtain ⟨hi, h⟩ := inb_of h
    refine L_m_was hC hi dX7_comesBack_45 ?_
    obtain ⟨hi, h⟩ := inb_of h
    obtain ⟨s1, es1, h⟩ := lt_of h
    refine S_m_print hC es1 hi dX7_comesBack_46 ?_
    obtain ⟨v2, ev2, h⟩ := lt_of h
    refine r_iinc (c1 := 1) (lv' := [(2, .int v2), (0, .ref (a 0)), (1, .int x1)]) hC dX7_comesBack_47 2 rfl (by decide) (by decide) ev2 rfl ?_
    refine r_goto hC 22 dX7_comesBack_50 (by decide) ?_
    refine r_sub hC [1, 2, 0] rfl ?_
    exact hself s1 v2 h
set_option maxRecDepth 100000 in
set_option maxHeartbeats 4000000 in
theorem t_X7_comesBack_n22 {Γ : St → Nat → List (Nat × Value) → List Value → Prop} {l : Launch} {a : Nat → Nat} {t' : St} (hC : Cx Γ l cX7_comesBack RX7 3 none Rm_X7_comesBack wM a (none) t') (x1 : Int32) (n : Nat) : ∀ (σ : St) (y2 : Int32), f_X7_comesBack_n22 x1 n σ y2 = some t' → Γ σ 22 [(0, .ref (a 0)), (1, .int x1), (2, .int y2)] [] := by
  induction n with
  | zero =>
    intro σ y2  h
    have h : (none : Option St) = some t' := h
    cases h
  | succ n ih =>
    intro σ y2  h
    exact t_X7_comesBack_n22_b hC x1    (f_X7_comesBack_n22 x1  n) ih σ y2  h
def f_X7_comesBack (σ : St) (x1 : Int32) : Option St :=
  if in_b x1 2 = true then
    lt_ (put_a σ 2 x1.toNatClampNeg (st_i σ 9)) fun s3 =>
    if in_b x1 2 = true then
      lt_ (put_a s3 1 x1.toNatClampNeg (st_i s3 10)) fun s4 =>
      f_X7_comesBack_n22 x1 fuel s4 (0 : Int32)
    else none
  else none
set_option maxRecDepth 100000 in
set_option maxHeartbeats 4000000 in
theorem con_X7_comesBack (l : Launch) (σ : St) (x1 : Int32) {t' : St} (h : f_X7_comesBack σ x1 = some t') : Con l yX7_comesBack cX7_comesBack 3 none Rm_X7_comesBack wM (fun a => [.ref (a 0), .int x1]) σ (fun _ => none) t' := by
  refine con_of (by decide) ⟨rfl, rfl⟩ (fun _ => Nat.le_of_ble_eq_true rfl) (fun Γ a hC => ?_)
  have hC : Cx Γ l cX7_comesBack RX7 3 none Rm_X7_comesBack wM a (none) t' := hC
  show Γ σ 0 [(0, .ref (a 0)), (1, .int x1)] []
  unfold f_X7_comesBack at h
  refine r_aload_n hC dX7_comesBack_0 rfl 0 rfl ?_
  refine G7_60 hC dX7_comesBack_1 ?_
  refine r_iload_n hC dX7_comesBack_4 rfl 1 rfl ?_
  refine r_aload_n hC dX7_comesBack_5 rfl 0 rfl ?_
  refine G7_241 hC dX7_comesBack_6 ?_
  obtain ⟨hi, h⟩ := inb_of h
  obtain ⟨s3, es3, h⟩ := lt_of h
  refine S_m_many hC es3 hi dX7_comesBack_9 ?_
  refine r_aload_n hC dX7_comesBack_10 rfl 0 rfl ?_
  refine G7_57 hC dX7_comesBack_11 ?_
  refine r_iload_n hC dX7_comesBack_14 rfl 1 rfl ?_
  refine r_aload_n hC dX7_comesBack_15 rfl 0 rfl ?_
  refine G7_244 hC dX7_comesBack_16 ?_
  obtain ⟨hi, h⟩ := inb_of h
  obtain ⟨s4, es4, h⟩ := lt_of h
  refine S_m_q hC es4 hi dX7_comesBack_19 ?_
  refine r_iconst (v := 0) hC dX7_comesBack_20 (by decide) ?_
  refine r_istore_n (lv' := [(2, .int (0 : Int32)), (0, .ref (a 0)), (1, .int x1)]) hC dX7_comesBack_21 rfl (by decide) rfl rfl ?_
  refine r_sub hC [1, 2, 0] rfl ?_
  exact t_X7_comesBack_n22 hC x1 fuel s4 (0 : Int32) h
abbrev Rm_X7_common : Room := { frames := 2, cells := 0, slots := 0, locals := 46 }
def f_X7_common_n84 (k11 : St → Int32 → Int32 → Int32 → Option (Int32 × St)) (σ : St) (y1 : Int32) (y3 : Int32) (w0 : Int32) (w1 : Int32) : Option (Int32 × St) :=
  lt_ (w0 + (f_X7_flag σ w1)) fun v11 =>
  lt_ (y3 + (1 : Int32)) fun v12 =>
  k11 σ y1 v11 v12
set_option maxRecDepth 100000 in
set_option maxHeartbeats 4000000 in
theorem t_X7_common_n84 {Γ : St → Nat → List (Nat × Value) → List Value → Prop} {l : Launch} {a : Nat → Nat} {r : Int32} {t' : St} (hC : Cx Γ l cX7_common RX7 6 (some .int) Rm_X7_common wM a (some (.int r)) t') (k11 : St → Int32 → Int32 → Int32 → Option (Int32 × St)) (hk11 : ∀ (σ : St) (y1 : Int32) (y2 : Int32) (y3 : Int32), k11 σ y1 y2 y3 = some (r, t') → Γ σ 11 [(0, .ref (a 0)), (1, .int y1), (2, .int y2), (3, .int y3)] []) (σ : St) (y1 : Int32) (y3 : Int32) (w0 : Int32) (w1 : Int32) (h : f_X7_common_n84 k11 σ y1 y3 w0 w1 = some (r, t')) : Γ σ 84 [(0, .ref (a 0)), (1, .int y1), (3, .int y3)] [.int w1, .int w0] := by
  unfold f_X7_common_n84 at h
  refine r_callS (As := [.int w1]) (rest := [.int w0]) hC (con_X7_flag l σ w1 rfl) K7_109 rfl rfl rfl ⟨Nat.le_of_ble_eq_true rfl, Nat.le_of_ble_eq_true rfl⟩ (Nat.le_of_ble_eq_true rfl) dX7_common_84 ?_
  refine r_iadd hC dX7_common_87 ?_
  obtain ⟨v11, ev11, h⟩ := lt_of h
  refine r_istore_n (lv' := [(2, .int v11), (0, .ref (a 0)), (1, .int y1), (3, .int y3)]) hC dX7_common_88 rfl (by decide) ev11 rfl ?_
  obtain ⟨v12, ev12, h⟩ := lt_of h
  refine r_iinc (c1 := 1) (lv' := [(3, .int v12), (2, .int v11), (0, .ref (a 0)), (1, .int y1)]) hC dX7_common_89 3 rfl (by decide) (by decide) ev12 rfl ?_
  refine r_goto hC 11 dX7_common_92 (by decide) ?_
  refine r_sub hC [2, 3, 1, 0] rfl ?_
  exact hk11 σ y1 v11 v12 h
def f_X7_common_n49 (k11 : St → Int32 → Int32 → Int32 → Option (Int32 × St)) (σ : St) (y1 : Int32) (y2 : Int32) (y3 : Int32) (y4 : Int32) : Option (Int32 × St) :=
  (f_X7_countOf σ (0 : Int32) y4).bind fun v7 =>
  (f_X7_countOf σ (1 : Int32) y4).bind fun v8 =>
  lt_ (if v8 < v7 then v8 else v7) fun v9 =>
  lt_ (y1 + v9) fun v10 =>
  if v9 ≤ 0 then
    f_X7_common_n84 k11 σ v10 y3 y2 (0 : Int32)
  else
  f_X7_common_n84 k11 σ v10 y3 y2 (1 : Int32)
set_option maxRecDepth 100000 in
set_option maxHeartbeats 4000000 in
theorem t_X7_common_n49 {Γ : St → Nat → List (Nat × Value) → List Value → Prop} {l : Launch} {a : Nat → Nat} {r : Int32} {t' : St} (hC : Cx Γ l cX7_common RX7 6 (some .int) Rm_X7_common wM a (some (.int r)) t') (k11 : St → Int32 → Int32 → Int32 → Option (Int32 × St)) (hk11 : ∀ (σ : St) (y1 : Int32) (y2 : Int32) (y3 : Int32), k11 σ y1 y2 y3 = some (r, t') → Γ σ 11 [(0, .ref (a 0)), (1, .int y1), (2, .int y2), (3, .int y3)] []) (σ : St) (y1 : Int32) (y2 : Int32) (y3 : Int32) (y4 : Int32) (h : f_X7_common_n49 k11 σ y1 y2 y3 y4 = some (r, t')) : Γ σ 49 [(0, .ref (a 0)), (1, .int y1), (2, .int y2), (3, .int y3), (4, .int y4)] [] := by
  unfold f_X7_common_n49 at h
  refine r_aload_n hC dX7_common_49 rfl 0 rfl ?_
  refine r_iconst (v := 0) hC dX7_common_50 (by decide) ?_
  refine r_iload hC dX7_common_51 4 rfl ?_
  obtain ⟨v7, hv7, h⟩ := bind_of h
  refine r_callV (As := [.int (0 : Int32), .int y4]) (rest := []) hC (con_X7_countOf l σ (0 : Int32) y4 hv7) K7_173 (ob7 a σ) rfl rfl rfl rfl ⟨Nat.le_of_ble_eq_true rfl, Nat.le_of_ble_eq_true rfl⟩ (Nat.le_of_ble_eq_true rfl) dX7_common_53 ?_
  refine r_aload_n hC dX7_common_56 rfl 0 rfl ?_
  refine r_iconst (v := 1) hC dX7_common_57 (by decide) ?_
  refine r_iload hC dX7_common_58 4 rfl ?_
  obtain ⟨v8, hv8, h⟩ := bind_of h
  refine r_callV (As := [.int (1 : Int32), .int y4]) (rest := [.int v7]) hC (con_X7_countOf l σ (1 : Int32) y4 hv8) K7_173 (ob7 a σ) rfl rfl rfl rfl ⟨Nat.le_of_ble_eq_true rfl, Nat.le_of_ble_eq_true rfl⟩ (Nat.le_of_ble_eq_true rfl) dX7_common_60 ?_
  refine r_mmin hC dX7_common_63 K7_278 ⟨Nat.le_of_ble_eq_true rfl, Nat.le_of_ble_eq_true rfl⟩ ?_
  obtain ⟨v9, ev9, h⟩ := lt_of h
  refine r_istore (lv' := [(5, .int v9), (0, .ref (a 0)), (1, .int y1), (2, .int y2), (3, .int y3), (4, .int y4)]) hC dX7_common_66 (by decide) ev9 rfl ?_
  refine r_iload_n hC dX7_common_68 rfl 2 rfl ?_
  refine r_iload hC dX7_common_69 0 rfl ?_
  refine r_iadd hC dX7_common_71 ?_
  obtain ⟨v10, ev10, h⟩ := lt_of h
  refine r_istore_n (lv' := [(1, .int v10), (5, .int v9), (0, .ref (a 0)), (2, .int y2), (3, .int y3), (4, .int y4)]) hC dX7_common_72 rfl (by decide) ev10 rfl ?_
  refine r_iload_n hC dX7_common_73 rfl 3 rfl ?_
  refine r_iload hC dX7_common_74 1 rfl ?_
  refine r_if_le hC 83 dX7_common_76 (by decide) (fun q => ?_) (fun q => ?_)
  · replace h := if_p q h
    refine r_iconst (v := 0) hC dX7_common_83 (by decide) ?_
    refine r_sub hC [2, 0, 4] rfl ?_
    exact t_X7_common_n84 hC k11 hk11 σ v10 y3 y2 (0 : Int32) h
  · replace h := if_n q h
    refine r_iconst (v := 1) hC dX7_common_79 (by decide) ?_
    refine r_goto hC 84 dX7_common_80 (by decide) ?_
    refine r_sub hC [2, 0, 4] rfl ?_
    exact t_X7_common_n84 hC k11 hk11 σ v10 y3 y2 (1 : Int32) h
def f_X7_common_n145 (σ : St) (y1 : Int32) (w1 : Int32) : Option (Int32 × St) :=
  (f_X7_enters σ (((f_X7_flag σ w1)).toInt64)).bind fun s6 =>
  some (y1, s6)
set_option maxRecDepth 100000 in
set_option maxHeartbeats 4000000 in
theorem t_X7_common_n145 {Γ : St → Nat → List (Nat × Value) → List Value → Prop} {l : Launch} {a : Nat → Nat} {r : Int32} {t' : St} (hC : Cx Γ l cX7_common RX7 6 (some .int) Rm_X7_common wM a (some (.int r)) t') (σ : St) (y1 : Int32) (w1 : Int32) (h : f_X7_common_n145 σ y1 w1 = some (r, t')) : Γ σ 145 [(1, .int y1)] [.int w1, .ref (a 0)] := by
  unfold f_X7_common_n145 at h
  refine r_callS (As := [.int w1]) (rest := [.ref (a 0)]) hC (con_X7_flag l σ w1 rfl) K7_109 rfl rfl rfl ⟨Nat.le_of_ble_eq_true rfl, Nat.le_of_ble_eq_true rfl⟩ (Nat.le_of_ble_eq_true rfl) dX7_common_145 ?_
  refine r_i2l hC dX7_common_148 ?_
  obtain ⟨s6, hs6, h⟩ := bind_of h
  refine r_callV (As := [.long (((f_X7_flag σ w1)).toInt64)]) (rest := []) hC (con_X7_enters l σ (((f_X7_flag σ w1)).toInt64) hs6) K7_145 (ob7 a σ) rfl rfl rfl rfl ⟨Nat.le_of_ble_eq_true rfl, Nat.le_of_ble_eq_true rfl⟩ (Nat.le_of_ble_eq_true rfl) dX7_common_149 ?_
  refine r_iload_n hC dX7_common_152 rfl 0 rfl ?_
  exact r_iretS hC dX7_common_153 h
def f_X7_common_n122 (σ : St) (y1 : Int32) (w1 : Int32) : Option (Int32 × St) :=
  (f_X7_enters σ (((f_X7_flag σ w1)).toInt64)).bind fun s13 =>
  if in_b (1 : Int32) 2 = true then
    if y1 = (st_a s13 2 (1 : Int32).toNatClampNeg) then
      f_X7_common_n145 s13 y1 (1 : Int32)
    else
    f_X7_common_n145 s13 y1 (0 : Int32)
  else none
set_option maxRecDepth 100000 in
set_option maxHeartbeats 4000000 in
theorem t_X7_common_n122 {Γ : St → Nat → List (Nat × Value) → List Value → Prop} {l : Launch} {a : Nat → Nat} {r : Int32} {t' : St} (hC : Cx Γ l cX7_common RX7 6 (some .int) Rm_X7_common wM a (some (.int r)) t') (σ : St) (y1 : Int32) (w1 : Int32) (h : f_X7_common_n122 σ y1 w1 = some (r, t')) : Γ σ 122 [(0, .ref (a 0)), (1, .int y1)] [.int w1, .ref (a 0)] := by
  unfold f_X7_common_n122 at h
  refine r_callS (As := [.int w1]) (rest := [.ref (a 0)]) hC (con_X7_flag l σ w1 rfl) K7_109 rfl rfl rfl ⟨Nat.le_of_ble_eq_true rfl, Nat.le_of_ble_eq_true rfl⟩ (Nat.le_of_ble_eq_true rfl) dX7_common_122 ?_
  refine r_i2l hC dX7_common_125 ?_
  obtain ⟨s13, hs13, h⟩ := bind_of h
  refine r_callV (As := [.long (((f_X7_flag σ w1)).toInt64)]) (rest := []) hC (con_X7_enters l σ (((f_X7_flag σ w1)).toInt64) hs13) K7_145 (ob7 a σ) rfl rfl rfl rfl ⟨Nat.le_of_ble_eq_true rfl, Nat.le_of_ble_eq_true rfl⟩ (Nat.le_of_ble_eq_true rfl) dX7_common_126 ?_
  refine r_aload_n hC dX7_common_129 rfl 0 rfl ?_
  refine r_iload_n hC dX7_common_130 rfl 1 rfl ?_
  refine r_aload_n hC dX7_common_131 rfl 0 rfl ?_
  refine G7_60 hC dX7_common_132 ?_
  refine r_iconst (v := 1) hC dX7_common_135 (by decide) ?_
  obtain ⟨hi, h⟩ := inb_of h
  refine L_m_many hC hi dX7_common_136 ?_
  refine r_icmp_ne hC 144 dX7_common_137 (by decide) (fun q => ?_) (fun q => ?_)
  · replace h := if_n q h
    refine r_iconst (v := 0) hC dX7_common_144 (by decide) ?_
    refine r_sub hC [1] rfl ?_
    exact t_X7_common_n145 hC s13 y1 (0 : Int32) h
  · replace h := if_p q h
    refine r_iconst (v := 1) hC dX7_common_140 (by decide) ?_
    refine r_goto hC 145 dX7_common_141 (by decide) ?_
    refine r_sub hC [1] rfl ?_
    exact t_X7_common_n145 hC s13 y1 (1 : Int32) h
def f_X7_common_n11_b (self : St → Int32 → Int32 → Int32 → Option (Int32 × St)) (σ : St) (y1 : Int32) (y2 : Int32) (y3 : Int32) : Option (Int32 × St) :=
  if in_b (0 : Int32) 2 = true then
    if (st_a σ 2 (0 : Int32).toNatClampNeg) ≤ y3 then
      lt_ (put_i σ 1 (0 : Int32)) fun s1 =>
      (f_X7_enters s1 (y2.toInt64)).bind fun s2 =>
      if in_b (0 : Int32) 2 = true then
        if y1 = (st_a s2 2 (0 : Int32).toNatClampNeg) then
          f_X7_common_n122 s2 y1 (1 : Int32)
        else
        f_X7_common_n122 s2 y1 (0 : Int32)
      else none
    else
    (f_X7_at σ (0 : Int32) y3).bind fun v3 =>
    if y3 ≤ 0 then
      f_X7_common_n49 self σ y1 y2 y3 v3
    else
    (f_X7_at σ (0 : Int32) (y3 - (1 : Int32))).bind fun v4 =>
    if v4 = v3 then
      lt_ (y3 + (1 : Int32)) fun v5 =>
      self σ y1 y2 v5
    else
    f_X7_common_n49 self σ y1 y2 y3 v3
  else none
def f_X7_common_n11 : Nat → St → Int32 → Int32 → Int32 → Option (Int32 × St)
  | 0 => fun _ _ _ _ => none
  | n + 1 => fun σ y1 y2 y3 => f_X7_common_n11_b   (f_X7_common_n11   n) σ y1 y2 y3
set_option maxRecDepth 100000 in
set_option maxHeartbeats 4000000 in
theorem t_X7_common_n11_b {Γ : St → Nat → List (Nat × Value) → List Value → Prop} {l : Launch} {a : Nat → Nat} {r : Int32} {t' : St} (hC : Cx Γ l cX7_common RX7 6 (some .int) Rm_X7_common wM a (some (.int r)) t') (self : St → Int32 → Int32 → Int32 → Option (Int32 × St)) (hself : ∀ (σ : St) (y1 : Int32) (y2 : Int32) (y3 : Int32), self σ y1 y2 y3 = some (r, t') → Γ σ 11 [(0, .ref (a 0)), (1, .int y1), (2, .int y2), (3, .int y3)] []) (σ : St) (y1 : Int32) (y2 : Int32) (y3 : Int32) (h : f_X7_common_n11_b self σ y1 y2 y3 = some (r, t')) : Γ σ 11 [(0, .ref (a 0)), (1, .int y1), (2, .int y2), (3, .int y3)] [] := by
  unfold f_X7_common_n11_b at h
  refine r_iload_n hC dX7_common_11 rfl 3 rfl ?_
  refine r_aload_n hC dX7_common_12 rfl 0 rfl ?_
  refine G7_60 hC dX7_common_13 ?_
  refine r_iconst (v := 0) hC dX7_common_16 (by decide) ?_
  obtain ⟨hi, h⟩ := inb_of h
  refine L_m_many hC hi dX7_common_17 ?_
  refine r_icmp_ge hC 95 dX7_common_18 (by decide) (fun q => ?_) (fun q => ?_)
  · replace h := if_p q h
    refine r_aload_n hC dX7_common_95 rfl 0 rfl ?_
    refine r_iconst (v := 0) hC dX7_common_96 (by decide) ?_
    obtain ⟨s1, es1, h⟩ := lt_of h
    refine P7_11 hC es1 dX7_common_97 ?_
    refine r_aload_n hC dX7_common_100 rfl 0 rfl ?_
    refine r_iload_n hC dX7_common_101 rfl 2 rfl ?_
    refine r_i2l hC dX7_common_102 ?_
    obtain ⟨s2, hs2, h⟩ := bind_of h
    refine r_callV (As := [.long (y2.toInt64)]) (rest := []) hC (con_X7_enters l s1 (y2.toInt64) hs2) K7_145 (ob7 a s1) rfl rfl rfl rfl ⟨Nat.le_of_ble_eq_true rfl, Nat.le_of_ble_eq_true rfl⟩ (Nat.le_of_ble_eq_true rfl) dX7_common_103 ?_
    refine r_aload_n hC dX7_common_106 rfl 0 rfl ?_
    refine r_iload_n hC dX7_common_107 rfl 1 rfl ?_
    refine r_aload_n hC dX7_common_108 rfl 0 rfl ?_
    refine G7_60 hC dX7_common_109 ?_
    refine r_iconst (v := 0) hC dX7_common_112 (by decide) ?_
    obtain ⟨hi, h⟩ := inb_of h
    refine L_m_many hC hi dX7_common_113 ?_
    refine r_icmp_ne hC 121 dX7_common_114 (by decide) (fun q => ?_) (fun q => ?_)
    · replace h := if_n q h
      refine r_iconst (v := 0) hC dX7_common_121 (by decide) ?_
      refine r_sub hC [0, 1] rfl ?_
      exact t_X7_common_n122 hC s2 y1 (0 : Int32) h
    · replace h := if_p q h
      refine r_iconst (v := 1) hC dX7_common_117 (by decide) ?_
      refine r_goto hC 122 dX7_common_118 (by decide) ?_
      refine r_sub hC [0, 1] rfl ?_
      exact t_X7_common_n122 hC s2 y1 (1 : Int32) h
  · replace h := if_n q h
    refine r_aload_n hC dX7_common_21 rfl 0 rfl ?_
    refine r_iconst (v := 0) hC dX7_common_22 (by decide) ?_
    refine r_iload_n hC dX7_common_23 rfl 3 rfl ?_
    obtain ⟨v3, hv3, h⟩ := bind_of h
    refine r_callV (As := [.int (0 : Int32), .int y3]) (rest := []) hC (con_X7_at l σ (0 : Int32) y3 hv3) K7_106 (ob7 a σ) rfl rfl rfl rfl ⟨Nat.le_of_ble_eq_true rfl, Nat.le_of_ble_eq_true rfl⟩ (Nat.le_of_ble_eq_true rfl) dX7_common_24 ?_
    refine r_istore (lv' := [(4, .int v3), (0, .ref (a 0)), (1, .int y1), (2, .int y2), (3, .int y3)]) hC dX7_common_27 (by decide) rfl rfl ?_
    refine r_iload_n hC dX7_common_29 rfl 4 rfl ?_
    refine r_if_le hC 49 dX7_common_30 (by decide) (fun q => ?_) (fun q => ?_)
    · replace h := if_p q h
      refine r_sub hC [1, 2, 3, 4, 0] rfl ?_
      exact t_X7_common_n49 hC self hself σ y1 y2 y3 v3 h
    · replace h := if_n q h
      refine r_aload_n hC dX7_common_33 rfl 1 rfl ?_
      refine r_iconst (v := 0) hC dX7_common_34 (by decide) ?_
      refine r_iload_n hC dX7_common_35 rfl 4 rfl ?_
      refine r_iconst (v := 1) hC dX7_common_36 (by decide) ?_
      refine r_isub hC dX7_common_37 ?_
      obtain ⟨v4, hv4, h⟩ := bind_of h
      refine r_callV (As := [.int (0 : Int32), .int (y3 - (1 : Int32))]) (rest := []) hC (con_X7_at l σ (0 : Int32) (y3 - (1 : Int32)) hv4) K7_106 (ob7 a σ) rfl rfl rfl rfl ⟨Nat.le_of_ble_eq_true rfl, Nat.le_of_ble_eq_true rfl⟩ (Nat.le_of_ble_eq_true rfl) dX7_common_38 ?_
      refine r_iload hC dX7_common_41 0 rfl ?_
      refine r_icmp_ne hC 49 dX7_common_43 (by decide) (fun q => ?_) (fun q => ?_)
      · replace h := if_n q h
        refine r_sub hC [1, 2, 3, 4, 0] rfl ?_
        exact t_X7_common_n49 hC self hself σ y1 y2 y3 v3 h
      · replace h := if_p q h
        refine r_goto hC 89 dX7_common_46 (by decide) ?_
        obtain ⟨v5, ev5, h⟩ := lt_of h
        refine r_iinc (c1 := 1) (lv' := [(3, .int v5), (4, .int v3), (0, .ref (a 0)), (1, .int y1), (2, .int y2)]) hC dX7_common_89 4 rfl (by decide) (by decide) ev5 rfl ?_
        refine r_goto hC 11 dX7_common_92 (by decide) ?_
        refine r_sub hC [2, 3, 4, 0] rfl ?_
        exact hself σ y1 y2 v5 h
set_option maxRecDepth 100000 in
set_option maxHeartbeats 4000000 in
theorem t_X7_common_n11 {Γ : St → Nat → List (Nat × Value) → List Value → Prop} {l : Launch} {a : Nat → Nat} {r : Int32} {t' : St} (hC : Cx Γ l cX7_common RX7 6 (some .int) Rm_X7_common wM a (some (.int r)) t') (n : Nat) : ∀ (σ : St) (y1 : Int32) (y2 : Int32) (y3 : Int32), f_X7_common_n11 n σ y1 y2 y3 = some (r, t') → Γ σ 11 [(0, .ref (a 0)), (1, .int y1), (2, .int y2), (3, .int y3)] [] := by
  induction n with
  | zero =>
    intro σ y1 y2 y3  h
    have h : (none : Option (Int32 × St)) = some (r, t') := h
    cases h
  | succ n ih =>
    intro σ y1 y2 y3  h
    exact t_X7_common_n11_b hC     (f_X7_common_n11   n) ih σ y1 y2 y3  h
def f_X7_common (σ : St) : Option (Int32 × St) :=
  lt_ (put_i σ 0 (0 : Int32)) fun s14 =>
  f_X7_common_n11 fuel s14 (0 : Int32) (0 : Int32) (0 : Int32)
set_option maxRecDepth 100000 in
set_option maxHeartbeats 4000000 in
theorem con_X7_common (l : Launch) (σ : St) {r : Int32} {t' : St} (h : f_X7_common σ = some (r, t')) : Con l yX7_common cX7_common 6 (some .int) Rm_X7_common wM (fun a => [.ref (a 0)]) σ (fun _ => some (.int r)) t' := by
  refine con_of (by decide) ⟨rfl, rfl⟩ (fun _ => Nat.le_of_ble_eq_true rfl) (fun Γ a hC => ?_)
  have hC : Cx Γ l cX7_common RX7 6 (some .int) Rm_X7_common wM a (some (.int r)) t' := hC
  show Γ σ 0 [(0, .ref (a 0))] []
  unfold f_X7_common at h
  refine r_aload_n hC dX7_common_0 rfl 0 rfl ?_
  refine r_iconst (v := 0) hC dX7_common_1 (by decide) ?_
  obtain ⟨s14, es14, h⟩ := lt_of h
  refine P7_1 hC es14 dX7_common_2 ?_
  refine r_iconst (v := 0) hC dX7_common_5 (by decide) ?_
  refine r_istore_n (lv' := [(1, .int (0 : Int32)), (0, .ref (a 0))]) hC dX7_common_6 rfl (by decide) rfl rfl ?_
  refine r_iconst (v := 0) hC dX7_common_7 (by decide) ?_
  refine r_istore_n (lv' := [(2, .int (0 : Int32)), (1, .int (0 : Int32)), (0, .ref (a 0))]) hC dX7_common_8 rfl (by decide) rfl rfl ?_
  refine r_iconst (v := 0) hC dX7_common_9 (by decide) ?_
  refine r_istore_n (lv' := [(3, .int (0 : Int32)), (2, .int (0 : Int32)), (1, .int (0 : Int32)), (0, .ref (a 0))]) hC dX7_common_10 rfl (by decide) rfl rfl ?_
  refine r_sub hC [3, 2, 1, 0] rfl ?_
  exact t_X7_common_n11 hC fuel s14 (0 : Int32) (0 : Int32) (0 : Int32) h
abbrev Rm_X7_marked : Room := { frames := 3, cells := 0, slots := 0, locals := 69 }
def f_X7_marked_n38 (x1 : Int32) (x2 : Int32) (k10 : St → Int32 → Int32 → Option (Int32 × St)) (σ : St) (y4 : Int32) (w0 : Int32) (w1 : Int32) : Option (Int32 × St) :=
  lt_ (w0 + (f_X7_flag σ w1)) fun v2 =>
  lt_ (y4 + (1 : Int32)) fun v3 =>
  k10 σ v2 v3
set_option maxRecDepth 100000 in
set_option maxHeartbeats 4000000 in
theorem t_X7_marked_n38 {Γ : St → Nat → List (Nat × Value) → List Value → Prop} {l : Launch} {a : Nat → Nat} {r : Int32} {t' : St} (hC : Cx Γ l cX7_marked RX7 5 (some .int) Rm_X7_marked wM a (some (.int r)) t') (x1 : Int32) (x2 : Int32) (k10 : St → Int32 → Int32 → Option (Int32 × St)) (hk10 : ∀ (σ : St) (y3 : Int32) (y4 : Int32), k10 σ y3 y4 = some (r, t') → Γ σ 10 [(0, .ref (a 0)), (1, .int x1), (2, .int x2), (3, .int y3), (4, .int y4)] []) (σ : St) (y4 : Int32) (w0 : Int32) (w1 : Int32) (h : f_X7_marked_n38 x1 x2 k10 σ y4 w0 w1 = some (r, t')) : Γ σ 38 [(0, .ref (a 0)), (1, .int x1), (2, .int x2), (4, .int y4)] [.int w1, .int w0] := by
  unfold f_X7_marked_n38 at h
  refine r_callS (As := [.int w1]) (rest := [.int w0]) hC (con_X7_flag l σ w1 rfl) K7_109 rfl rfl rfl ⟨Nat.le_of_ble_eq_true rfl, Nat.le_of_ble_eq_true rfl⟩ (Nat.le_of_ble_eq_true rfl) dX7_marked_38 ?_
  refine r_iadd hC dX7_marked_41 ?_
  obtain ⟨v2, ev2, h⟩ := lt_of h
  refine r_istore_n (lv' := [(3, .int v2), (0, .ref (a 0)), (1, .int x1), (2, .int x2), (4, .int y4)]) hC dX7_marked_42 rfl (by decide) ev2 rfl ?_
  obtain ⟨v3, ev3, h⟩ := lt_of h
  refine r_iinc (c1 := 1) (lv' := [(4, .int v3), (3, .int v2), (0, .ref (a 0)), (1, .int x1), (2, .int x2)]) hC dX7_marked_43 4 rfl (by decide) (by decide) ev3 rfl ?_
  refine r_goto hC 10 dX7_marked_46 (by decide) ?_
  refine r_sub hC [2, 3, 4, 1, 0] rfl ?_
  exact hk10 σ v2 v3 h
def f_X7_marked_n10_b (x1 : Int32) (x2 : Int32) (self : St → Int32 → Int32 → Option (Int32 × St)) (σ : St) (y3 : Int32) (y4 : Int32) : Option (Int32 × St) :=
  (f_X7_slots σ x1).bind fun v1 =>
  if v1 ≤ y4 then
    some (y3, σ)
  else
  if in_b y4 64 = true then
    if ((st_a σ 6 y4.toNatClampNeg) &&& x2) = 0 then
      f_X7_marked_n38 x1 x2 self σ y4 y3 (0 : Int32)
    else
    f_X7_marked_n38 x1 x2 self σ y4 y3 (1 : Int32)
  else none
def f_X7_marked_n10 (x1 : Int32) (x2 : Int32) : Nat → St → Int32 → Int32 → Option (Int32 × St)
  | 0 => fun _ _ _ => none
  | n + 1 => fun σ y3 y4 => f_X7_marked_n10_b x1 x2  (f_X7_marked_n10 x1 x2  n) σ y3 y4
set_option maxRecDepth 100000 in
set_option maxHeartbeats 4000000 in
theorem t_X7_marked_n10_b {Γ : St → Nat → List (Nat × Value) → List Value → Prop} {l : Launch} {a : Nat → Nat} {r : Int32} {t' : St} (hC : Cx Γ l cX7_marked RX7 5 (some .int) Rm_X7_marked wM a (some (.int r)) t') (x1 : Int32) (x2 : Int32) (self : St → Int32 → Int32 → Option (Int32 × St)) (hself : ∀ (σ : St) (y3 : Int32) (y4 : Int32), self σ y3 y4 = some (r, t') → Γ σ 10 [(0, .ref (a 0)), (1, .int x1), (2, .int x2), (3, .int y3), (4, .int y4)] []) (σ : St) (y3 : Int32) (y4 : Int32) (h : f_X7_marked_n10_b x1 x2 self σ y3 y4 = some (r, t')) : Γ σ 10 [(0, .ref (a 0)), (1, .int x1), (2, .int x2), (3, .int y3), (4, .int y4)] [] := by
  unfold f_X7_marked_n10_b at h
  refine r_iload hC dX7_marked_10 4 rfl ?_
  refine r_aload_n hC dX7_marked_12 rfl 0 rfl ?_
  refine r_iload_n hC dX7_marked_13 rfl 1 rfl ?_
  obtain ⟨v1, hv1, h⟩ := bind_of h
  refine r_callV (As := [.int x1]) (rest := [.int y4]) hC (con_X7_slots l σ x1 hv1) K7_121 (ob7 a σ) rfl rfl rfl rfl ⟨Nat.le_of_ble_eq_true rfl, Nat.le_of_ble_eq_true rfl⟩ (Nat.le_of_ble_eq_true rfl) dX7_marked_14 ?_
  refine r_icmp_ge hC 49 dX7_marked_17 (by decide) (fun q => ?_) (fun q => ?_)
  · replace h := if_p q h
    refine r_iload_n hC dX7_marked_49 rfl 3 rfl ?_
    exact r_iretS hC dX7_marked_50 h
  · replace h := if_n q h
    refine r_iload_n hC dX7_marked_20 rfl 3 rfl ?_
    refine r_aload_n hC dX7_marked_21 rfl 0 rfl ?_
    refine G7_72 hC dX7_marked_22 ?_
    refine r_iload hC dX7_marked_25 4 rfl ?_
    obtain ⟨hi, h⟩ := inb_of h
    refine L_m_marks hC hi dX7_marked_27 ?_
    refine r_iload_n hC dX7_marked_28 rfl 2 rfl ?_
    refine r_iand hC dX7_marked_29 ?_
    refine r_if_eq hC 37 dX7_marked_30 (by decide) (fun q => ?_) (fun q => ?_)
    · replace h := if_p q h
      refine r_iconst (v := 0) hC dX7_marked_37 (by decide) ?_
      refine r_sub hC [0, 1, 2, 4] rfl ?_
      exact t_X7_marked_n38 hC x1 x2 self hself σ y4 y3 (0 : Int32) h
    · replace h := if_n q h
      refine r_iconst (v := 1) hC dX7_marked_33 (by decide) ?_
      refine r_goto hC 38 dX7_marked_34 (by decide) ?_
      refine r_sub hC [0, 1, 2, 4] rfl ?_
      exact t_X7_marked_n38 hC x1 x2 self hself σ y4 y3 (1 : Int32) h
set_option maxRecDepth 100000 in
set_option maxHeartbeats 4000000 in
theorem t_X7_marked_n10 {Γ : St → Nat → List (Nat × Value) → List Value → Prop} {l : Launch} {a : Nat → Nat} {r : Int32} {t' : St} (hC : Cx Γ l cX7_marked RX7 5 (some .int) Rm_X7_marked wM a (some (.int r)) t') (x1 : Int32) (x2 : Int32) (n : Nat) : ∀ (σ : St) (y3 : Int32) (y4 : Int32), f_X7_marked_n10 x1 x2 n σ y3 y4 = some (r, t') → Γ σ 10 [(0, .ref (a 0)), (1, .int x1), (2, .int x2), (3, .int y3), (4, .int y4)] [] := by
  induction n with
  | zero =>
    intro σ y3 y4  h
    have h : (none : Option (Int32 × St)) = some (r, t') := h
    cases h
  | succ n ih =>
    intro σ y3 y4  h
    exact t_X7_marked_n10_b hC x1 x2    (f_X7_marked_n10 x1 x2  n) ih σ y3 y4  h
def f_X7_marked (σ : St) (x1 : Int32) (x2 : Int32) : Option (Int32 × St) :=
  (f_X7_lies σ x1).bind fun s4 =>
  f_X7_marked_n10 x1 x2 fuel s4 (0 : Int32) (0 : Int32)
set_option maxRecDepth 100000 in
set_option maxHeartbeats 4000000 in
theorem con_X7_marked (l : Launch) (σ : St) (x1 : Int32) (x2 : Int32) {r : Int32} {t' : St} (h : f_X7_marked σ x1 x2 = some (r, t')) : Con l yX7_marked cX7_marked 5 (some .int) Rm_X7_marked wM (fun a => [.ref (a 0), .int x1, .int x2]) σ (fun _ => some (.int r)) t' := by
  refine con_of (by decide) ⟨rfl, rfl⟩ (fun _ => Nat.le_of_ble_eq_true rfl) (fun Γ a hC => ?_)
  have hC : Cx Γ l cX7_marked RX7 5 (some .int) Rm_X7_marked wM a (some (.int r)) t' := hC
  show Γ σ 0 [(0, .ref (a 0)), (1, .int x1), (2, .int x2)] []
  unfold f_X7_marked at h
  refine r_aload_n hC dX7_marked_0 rfl 0 rfl ?_
  refine r_iload_n hC dX7_marked_1 rfl 1 rfl ?_
  obtain ⟨s4, hs4, h⟩ := bind_of h
  refine r_callV (As := [.int x1]) (rest := []) hC (con_X7_lies l σ x1 hs4) K7_162 (ob7 a σ) rfl rfl rfl rfl ⟨Nat.le_of_ble_eq_true rfl, Nat.le_of_ble_eq_true rfl⟩ (Nat.le_of_ble_eq_true rfl) dX7_marked_2 ?_
  refine r_iconst (v := 0) hC dX7_marked_5 (by decide) ?_
  refine r_istore_n (lv' := [(3, .int (0 : Int32)), (0, .ref (a 0)), (1, .int x1), (2, .int x2)]) hC dX7_marked_6 rfl (by decide) rfl rfl ?_
  refine r_iconst (v := 0) hC dX7_marked_7 (by decide) ?_
  refine r_istore (lv' := [(4, .int (0 : Int32)), (3, .int (0 : Int32)), (0, .ref (a 0)), (1, .int x1), (2, .int x2)]) hC dX7_marked_8 (by decide) rfl rfl ?_
  refine r_sub hC [2, 3, 4, 1, 0] rfl ?_
  exact t_X7_marked_n10 hC x1 x2 fuel s4 (0 : Int32) (0 : Int32) h
abbrev Rm_X7_count : Room := { frames := 4, cells := 0, slots := 0, locals := 93 }
def f_X7_count_n20 (x1 : Int32) (x2 : Int32) (σ : St) : Option (Int32 × St) :=
  if x2 = 0 then
    if in_b x1 2 = true then
      some ((st_a σ 2 x1.toNatClampNeg), σ)
    else none
  else
  if x2 = 1 then
    (f_X7_slots σ x1).bind fun v1 =>
    some (v1, σ)
  else
  if x2 = 2 then
    if in_b x1 2 = true then
      some ((st_a σ 1 x1.toNatClampNeg), σ)
    else none
  else
  if x2 = 3 then
    bind2 (f_X7_marked σ x1 (1 : Int32)) fun v3 s2 =>
    some (v3, s2)
  else
  if x2 = 4 then
    bind2 (f_X7_marked σ x1 (2 : Int32)) fun v5 s4 =>
    some (v5, s4)
  else
  if x2 = 5 then
    bind2 (f_X7_marked σ x1 (4 : Int32)) fun v7 s6 =>
    some (v7, s6)
  else
  if x2 = 6 then
    some ((st_i σ 5), σ)
  else
  if x2 = 7 then
    some ((st_i σ 6), σ)
  else
  if x2 = 8 then
    some ((st_i σ 7), σ)
  else
  if x2 = 9 then
    some ((st_i σ 1), σ)
  else
  if x2 = 10 then
    some ((st_i σ 2), σ)
  else
  some ((-1 : Int32), σ)
set_option maxRecDepth 100000 in
set_option maxHeartbeats 4000000 in
theorem t_X7_count_n20 {Γ : St → Nat → List (Nat × Value) → List Value → Prop} {l : Launch} {a : Nat → Nat} {r : Int32} {t' : St} (hC : Cx Γ l cX7_count RX7 3 (some .int) Rm_X7_count wM a (some (.int r)) t') (x1 : Int32) (x2 : Int32) (σ : St) (h : f_X7_count_n20 x1 x2 σ = some (r, t')) : Γ σ 20 [(0, .ref (a 0)), (1, .int x1), (2, .int x2)] [] := by
  unfold f_X7_count_n20 at h
  refine r_iload_n hC dX7_count_20 rfl 2 rfl ?_
  by_cases q0 : x2 = 0
  · replace h := if_p q0 h
    subst q0
    refine r_swIn hC 80 dX7_count_21 (by decide) (by decide) rfl (by decide) ?_
    refine r_aload_n hC dX7_count_80 rfl 0 rfl ?_
    refine G7_60 hC dX7_count_81 ?_
    refine r_iload_n hC dX7_count_84 rfl 1 rfl ?_
    obtain ⟨hi, h⟩ := inb_of h
    refine L_m_many hC hi dX7_count_85 ?_
    exact r_iretS hC dX7_count_86 h
  · replace h := if_n q0 h
    by_cases q1 : x2 = 1
    · replace h := if_p q1 h
      subst q1
      refine r_swIn hC 87 dX7_count_21 (by decide) (by decide) rfl (by decide) ?_
      refine r_aload_n hC dX7_count_87 rfl 0 rfl ?_
      refine r_iload_n hC dX7_count_88 rfl 1 rfl ?_
      obtain ⟨v1, hv1, h⟩ := bind_of h
      refine r_callV (As := [.int x1]) (rest := []) hC (con_X7_slots l σ x1 hv1) K7_121 (ob7 a σ) rfl rfl rfl rfl ⟨Nat.le_of_ble_eq_true rfl, Nat.le_of_ble_eq_true rfl⟩ (Nat.le_of_ble_eq_true rfl) dX7_count_89 ?_
      exact r_iretS hC dX7_count_92 h
    · replace h := if_n q1 h
      by_cases q2 : x2 = 2
      · replace h := if_p q2 h
        subst q2
        refine r_swIn hC 93 dX7_count_21 (by decide) (by decide) rfl (by decide) ?_
        refine r_aload_n hC dX7_count_93 rfl 0 rfl ?_
        refine G7_57 hC dX7_count_94 ?_
        refine r_iload_n hC dX7_count_97 rfl 1 rfl ?_
        obtain ⟨hi, h⟩ := inb_of h
        refine L_m_q hC hi dX7_count_98 ?_
        exact r_iretS hC dX7_count_99 h
      · replace h := if_n q2 h
        by_cases q3 : x2 = 3
        · replace h := if_p q3 h
          subst q3
          refine r_swIn hC 100 dX7_count_21 (by decide) (by decide) rfl (by decide) ?_
          refine r_aload_n hC dX7_count_100 rfl 0 rfl ?_
          refine r_iload_n hC dX7_count_101 rfl 1 rfl ?_
          refine r_iconst (v := 1) hC dX7_count_102 (by decide) ?_
          obtain ⟨v3, s2, hs2, h⟩ := bind2_of h
          refine r_callV (As := [.int x1, .int (1 : Int32)]) (rest := []) hC (con_X7_marked l σ x1 (1 : Int32) hs2) K7_303 (ob7 a σ) rfl rfl rfl rfl ⟨Nat.le_of_ble_eq_true rfl, Nat.le_of_ble_eq_true rfl⟩ (Nat.le_of_ble_eq_true rfl) dX7_count_103 ?_
          exact r_iretS hC dX7_count_106 h
        · replace h := if_n q3 h
          by_cases q4 : x2 = 4
          · replace h := if_p q4 h
            subst q4
            refine r_swIn hC 107 dX7_count_21 (by decide) (by decide) rfl (by decide) ?_
            refine r_aload_n hC dX7_count_107 rfl 0 rfl ?_
            refine r_iload_n hC dX7_count_108 rfl 1 rfl ?_
            refine r_iconst (v := 2) hC dX7_count_109 (by decide) ?_
            obtain ⟨v5, s4, hs4, h⟩ := bind2_of h
            refine r_callV (As := [.int x1, .int (2 : Int32)]) (rest := []) hC (con_X7_marked l σ x1 (2 : Int32) hs4) K7_303 (ob7 a σ) rfl rfl rfl rfl ⟨Nat.le_of_ble_eq_true rfl, Nat.le_of_ble_eq_true rfl⟩ (Nat.le_of_ble_eq_true rfl) dX7_count_110 ?_
            exact r_iretS hC dX7_count_113 h
          · replace h := if_n q4 h
            by_cases q5 : x2 = 5
            · replace h := if_p q5 h
              subst q5
              refine r_swIn hC 114 dX7_count_21 (by decide) (by decide) rfl (by decide) ?_
              refine r_aload_n hC dX7_count_114 rfl 0 rfl ?_
              refine r_iload_n hC dX7_count_115 rfl 1 rfl ?_
              refine r_iconst (v := 4) hC dX7_count_116 (by decide) ?_
              obtain ⟨v7, s6, hs6, h⟩ := bind2_of h
              refine r_callV (As := [.int x1, .int (4 : Int32)]) (rest := []) hC (con_X7_marked l σ x1 (4 : Int32) hs6) K7_303 (ob7 a σ) rfl rfl rfl rfl ⟨Nat.le_of_ble_eq_true rfl, Nat.le_of_ble_eq_true rfl⟩ (Nat.le_of_ble_eq_true rfl) dX7_count_117 ?_
              exact r_iretS hC dX7_count_120 h
            · replace h := if_n q5 h
              by_cases q6 : x2 = 6
              · replace h := if_p q6 h
                subst q6
                refine r_swIn hC 121 dX7_count_21 (by decide) (by decide) rfl (by decide) ?_
                refine r_aload_n hC dX7_count_121 rfl 0 rfl ?_
                refine G7_47 hC dX7_count_122 ?_
                exact r_iretS hC dX7_count_125 h
              · replace h := if_n q6 h
                by_cases q7 : x2 = 7
                · replace h := if_p q7 h
                  subst q7
                  refine r_swIn hC 126 dX7_count_21 (by decide) (by decide) rfl (by decide) ?_
                  refine r_aload_n hC dX7_count_126 rfl 0 rfl ?_
                  refine G7_51 hC dX7_count_127 ?_
                  exact r_iretS hC dX7_count_130 h
                · replace h := if_n q7 h
                  by_cases q8 : x2 = 8
                  · replace h := if_p q8 h
                    subst q8
                    refine r_swIn hC 131 dX7_count_21 (by decide) (by decide) rfl (by decide) ?_
                    refine r_aload_n hC dX7_count_131 rfl 0 rfl ?_
                    refine G7_54 hC dX7_count_132 ?_
                    exact r_iretS hC dX7_count_135 h
                  · replace h := if_n q8 h
                    by_cases q9 : x2 = 9
                    · replace h := if_p q9 h
                      subst q9
                      refine r_swIn hC 136 dX7_count_21 (by decide) (by decide) rfl (by decide) ?_
                      refine r_aload_n hC dX7_count_136 rfl 0 rfl ?_
                      refine G7_11 hC dX7_count_137 ?_
                      exact r_iretS hC dX7_count_140 h
                    · replace h := if_n q9 h
                      by_cases q10 : x2 = 10
                      · replace h := if_p q10 h
                        subst q10
                        refine r_swIn hC 141 dX7_count_21 (by decide) (by decide) rfl (by decide) ?_
                        refine r_aload_n hC dX7_count_141 rfl 0 rfl ?_
                        refine G7_14 hC dX7_count_142 ?_
                        exact r_iretS hC dX7_count_145 h
                      · replace h := if_n q10 h
                        have z0 := lv_neT q0 (a := 0) rfl
                        have z1 := lv_neT q1 (a := 1) rfl
                        have z2 := lv_neT q2 (a := 2) rfl
                        have z3 := lv_neT q3 (a := 3) rfl
                        have z4 := lv_neT q4 (a := 4) rfl
                        have z5 := lv_neT q5 (a := 5) rfl
                        have z6 := lv_neT q6 (a := 6) rfl
                        have z7 := lv_neT q7 (a := 7) rfl
                        have z8 := lv_neT q8 (a := 8) rfl
                        have z9 := lv_neT q9 (a := 9) rfl
                        have z10 := lv_neT q10 (a := 10) rfl
                        refine r_swOut hC 146 dX7_count_21 (by omega) (by decide) ?_
                        refine r_iconst (v := -1) hC dX7_count_146 (by decide) ?_
                        exact r_iretS hC dX7_count_147 h
def f_X7_count (σ : St) (x1 : Int32) (x2 : Int32) : Option (Int32 × St) :=
  lt_ (put_i σ 0 (0 : Int32)) fun s8 =>
  if (6 : Int32) ≤ x2 then
    f_X7_count_n20 x1 x2 s8
  else
  if (f_X7_isFile s8 x1) = 0 then
    some ((-1 : Int32), s8)
  else
  f_X7_count_n20 x1 x2 s8
set_option maxRecDepth 100000 in
set_option maxHeartbeats 4000000 in
theorem con_X7_count (l : Launch) (σ : St) (x1 : Int32) (x2 : Int32) {r : Int32} {t' : St} (h : f_X7_count σ x1 x2 = some (r, t')) : Con l yX7_count cX7_count 3 (some .int) Rm_X7_count wM (fun a => [.ref (a 0), .int x1, .int x2]) σ (fun _ => some (.int r)) t' := by
  refine con_of (by decide) ⟨rfl, rfl⟩ (fun _ => Nat.le_of_ble_eq_true rfl) (fun Γ a hC => ?_)
  have hC : Cx Γ l cX7_count RX7 3 (some .int) Rm_X7_count wM a (some (.int r)) t' := hC
  show Γ σ 0 [(0, .ref (a 0)), (1, .int x1), (2, .int x2)] []
  unfold f_X7_count at h
  refine r_aload_n hC dX7_count_0 rfl 0 rfl ?_
  refine r_iconst (v := 0) hC dX7_count_1 (by decide) ?_
  obtain ⟨s8, es8, h⟩ := lt_of h
  refine P7_1 hC es8 dX7_count_2 ?_
  refine r_iload_n hC dX7_count_5 rfl 2 rfl ?_
  refine r_bipush (v := 6) hC dX7_count_6 (by decide) ?_
  refine r_icmp_ge hC 20 dX7_count_8 (by decide) (fun q => ?_) (fun q => ?_)
  · replace h := if_p q h
    exact t_X7_count_n20 hC x1 x2 s8 h
  · replace h := if_n q h
    refine r_iload_n hC dX7_count_11 rfl 1 rfl ?_
    refine r_callS (As := [.int x1]) (rest := []) hC (con_X7_isFile l s8 x1 rfl) K7_136 rfl rfl rfl ⟨Nat.le_of_ble_eq_true rfl, Nat.le_of_ble_eq_true rfl⟩ (Nat.le_of_ble_eq_true rfl) dX7_count_12 ?_
    refine r_if_ne hC 20 dX7_count_15 (by decide) (fun q => ?_) (fun q => ?_)
    · replace h := if_n q h
      exact t_X7_count_n20 hC x1 x2 s8 h
    · replace h := if_p q h
      refine r_iconst (v := -1) hC dX7_count_18 (by decide) ?_
      exact r_iretS hC dX7_count_19 h
abbrev Rm_X7_doubles : Room := { frames := 2, cells := 0, slots := 0, locals := 45 }
def f_X7_doubles (σ : St) (x1 : Int32) : Option (Int32 × St) :=
  lt_ (put_i σ 0 (0 : Int32)) fun s1 =>
  if (f_X7_isFile s1 x1) = 0 then
    some ((-1 : Int32), s1)
  else
  (f_X7_canDouble s1 x1).bind fun v2 =>
  if v2 = 0 then
    some ((-2 : Int32), s1)
  else
  if in_b x1 2 = true then
    if in_b x1 2 = true then
      lt_ (put_a s1 1 x1.toNatClampNeg ((st_a s1 1 x1.toNatClampNeg) + (1 : Int32))) fun s3 =>
      (f_X7_slots s3 x1).bind fun v4 =>
      some (v4, s3)
    else none
  else none
set_option maxRecDepth 100000 in
set_option maxHeartbeats 4000000 in
theorem con_X7_doubles (l : Launch) (σ : St) (x1 : Int32) {r : Int32} {t' : St} (h : f_X7_doubles σ x1 = some (r, t')) : Con l yX7_doubles cX7_doubles 2 (some .int) Rm_X7_doubles wM (fun a => [.ref (a 0), .int x1]) σ (fun _ => some (.int r)) t' := by
  refine con_of (by decide) ⟨rfl, rfl⟩ (fun _ => Nat.le_of_ble_eq_true rfl) (fun Γ a hC => ?_)
  have hC : Cx Γ l cX7_doubles RX7 2 (some .int) Rm_X7_doubles wM a (some (.int r)) t' := hC
  show Γ σ 0 [(0, .ref (a 0)), (1, .int x1)] []
  unfold f_X7_doubles at h
  refine r_aload_n hC dX7_doubles_0 rfl 0 rfl ?_
  refine r_iconst (v := 0) hC dX7_doubles_1 (by decide) ?_
  obtain ⟨s1, es1, h⟩ := lt_of h
  refine P7_1 hC es1 dX7_doubles_2 ?_
  refine r_iload_n hC dX7_doubles_5 rfl 1 rfl ?_
  refine r_callS (As := [.int x1]) (rest := []) hC (con_X7_isFile l s1 x1 rfl) K7_136 rfl rfl rfl ⟨Nat.le_of_ble_eq_true rfl, Nat.le_of_ble_eq_true rfl⟩ (Nat.le_of_ble_eq_true rfl) dX7_doubles_6 ?_
  refine r_if_ne hC 14 dX7_doubles_9 (by decide) (fun q => ?_) (fun q => ?_)
  · replace h := if_n q h
    refine r_aload_n hC dX7_doubles_14 rfl 0 rfl ?_
    refine r_iload_n hC dX7_doubles_15 rfl 1 rfl ?_
    obtain ⟨v2, hv2, h⟩ := bind_of h
    refine r_callV (As := [.int x1]) (rest := []) hC (con_X7_canDouble l s1 x1 hv2) K7_132 (ob7 a s1) rfl rfl rfl rfl ⟨Nat.le_of_ble_eq_true rfl, Nat.le_of_ble_eq_true rfl⟩ (Nat.le_of_ble_eq_true rfl) dX7_doubles_16 ?_
    refine r_if_ne hC 25 dX7_doubles_19 (by decide) (fun q => ?_) (fun q => ?_)
    · replace h := if_n q h
      refine r_aload_n hC dX7_doubles_25 rfl 0 rfl ?_
      refine G7_57 hC dX7_doubles_26 ?_
      refine r_iload_n hC dX7_doubles_29 rfl 1 rfl ?_
      refine r_dup2 hC dX7_doubles_30 rfl rfl ?_
      obtain ⟨hi, h⟩ := inb_of h
      refine L_m_q hC hi dX7_doubles_31 ?_
      refine r_iconst (v := 1) hC dX7_doubles_32 (by decide) ?_
      refine r_iadd hC dX7_doubles_33 ?_
      obtain ⟨hi, h⟩ := inb_of h
      obtain ⟨s3, es3, h⟩ := lt_of h
      refine S_m_q hC es3 hi dX7_doubles_34 ?_
      refine r_aload_n hC dX7_doubles_35 rfl 0 rfl ?_
      refine r_iload_n hC dX7_doubles_36 rfl 1 rfl ?_
      obtain ⟨v4, hv4, h⟩ := bind_of h
      refine r_callV (As := [.int x1]) (rest := []) hC (con_X7_slots l s3 x1 hv4) K7_121 (ob7 a s3) rfl rfl rfl rfl ⟨Nat.le_of_ble_eq_true rfl, Nat.le_of_ble_eq_true rfl⟩ (Nat.le_of_ble_eq_true rfl) dX7_doubles_37 ?_
      exact r_iretS hC dX7_doubles_40 h
    · replace h := if_p q h
      refine r_bipush (v := -2) hC dX7_doubles_22 (by decide) ?_
      exact r_iretS hC dX7_doubles_24 h
  · replace h := if_p q h
    refine r_iconst (v := -1) hC dX7_doubles_12 (by decide) ?_
    exact r_iretS hC dX7_doubles_13 h
abbrev Rm_X7_end : Room := { frames := 1, cells := 0, slots := 0, locals := 25 }
def f_X7_end (σ : St) (x1 : Int32) : Option (Int32 × St) :=
  lt_ (put_i σ 0 (0 : Int32)) fun s1 =>
  if (f_X7_in s1 (x1.toInt64) (0 : Int64) (((st_i s1 2)).toInt64)) = 0 then
    some ((0 : Int32), s1)
  else
  lt_ (put_i s1 2 x1) fun s2 =>
  some ((1 : Int32), s2)
set_option maxRecDepth 100000 in
set_option maxHeartbeats 4000000 in
theorem con_X7_end (l : Launch) (σ : St) (x1 : Int32) {r : Int32} {t' : St} (h : f_X7_end σ x1 = some (r, t')) : Con l yX7_end cX7_end 2 (some .boolean) Rm_X7_end wM (fun a => [.ref (a 0), .int x1]) σ (fun _ => some (.int r)) t' := by
  refine con_of (by decide) ⟨rfl, rfl⟩ (fun _ => Nat.le_of_ble_eq_true rfl) (fun Γ a hC => ?_)
  have hC : Cx Γ l cX7_end RX7 2 (some .boolean) Rm_X7_end wM a (some (.int r)) t' := hC
  show Γ σ 0 [(0, .ref (a 0)), (1, .int x1)] []
  unfold f_X7_end at h
  refine r_aload_n hC dX7_end_0 rfl 0 rfl ?_
  refine r_iconst (v := 0) hC dX7_end_1 (by decide) ?_
  obtain ⟨s1, es1, h⟩ := lt_of h
  refine P7_1 hC es1 dX7_end_2 ?_
  refine r_iload_n hC dX7_end_5 rfl 1 rfl ?_
  refine r_i2l hC dX7_end_6 ?_
  refine r_lconst (v := 0) hC dX7_end_7 (by decide) ?_
  refine r_aload_n hC dX7_end_8 rfl 0 rfl ?_
  refine G7_14 hC dX7_end_9 ?_
  refine r_i2l hC dX7_end_12 ?_
  refine r_callS (As := [.long (x1.toInt64), .long (0 : Int64), .long (((st_i s1 2)).toInt64)]) (rest := []) hC (con_X7_in l s1 (x1.toInt64) (0 : Int64) (((st_i s1 2)).toInt64) rfl) K7_21 rfl rfl rfl ⟨Nat.le_of_ble_eq_true rfl, Nat.le_of_ble_eq_true rfl⟩ (Nat.le_of_ble_eq_true rfl) dX7_end_13 ?_
  refine r_if_ne hC 21 dX7_end_16 (by decide) (fun q => ?_) (fun q => ?_)
  · replace h := if_n q h
    refine r_aload_n hC dX7_end_21 rfl 0 rfl ?_
    refine r_iload_n hC dX7_end_22 rfl 1 rfl ?_
    obtain ⟨s2, es2, h⟩ := lt_of h
    refine P7_14 hC es2 dX7_end_23 ?_
    refine r_iconst (v := 1) hC dX7_end_26 (by decide) ?_
    exact r_zretS hC rfl dX7_end_27 h
  · replace h := if_p q h
    refine r_iconst (v := 0) hC dX7_end_19 (by decide) ?_
    exact r_zretS hC rfl dX7_end_20 h
abbrev Rm_X7_endsAtOut : Room := { frames := 0, cells := 0, slots := 0, locals := 0 }
def f_X7_endsAtOut_n27 (σ : St) (y1 : Int32) : Option St :=
  lt_ (put_i σ 4 y1) fun s2 =>
  some s2
set_option maxRecDepth 100000 in
set_option maxHeartbeats 4000000 in
theorem t_X7_endsAtOut_n27 {Γ : St → Nat → List (Nat × Value) → List Value → Prop} {l : Launch} {a : Nat → Nat} {t' : St} (hC : Cx Γ l cX7_endsAtOut RX7 2 none Rm_X7_endsAtOut wM a (none) t') (σ : St) (y1 : Int32) (h : f_X7_endsAtOut_n27 σ y1 = some t') : Γ σ 27 [(0, .ref (a 0)), (1, .int y1)] [] := by
  unfold f_X7_endsAtOut_n27 at h
  refine r_aload_n hC dX7_endsAtOut_27 rfl 0 rfl ?_
  refine r_iload_n hC dX7_endsAtOut_28 rfl 1 rfl ?_
  obtain ⟨s2, es2, h⟩ := lt_of h
  refine P7_25 hC es2 dX7_endsAtOut_29 ?_
  exact r_vretS hC dX7_endsAtOut_32 h
def f_X7_endsAtOut_n2_b (self : St → Int32 → Option St) (σ : St) (y1 : Int32) : Option St :=
  if (st_i σ 4) ≤ y1 then
    f_X7_endsAtOut_n27 σ y1
  else
  if in_b y1 80 = true then
    if (st_a σ 0 y1.toNatClampNeg) = (126 : Int32) then
      f_X7_endsAtOut_n27 σ y1
    else
    lt_ (y1 + (1 : Int32)) fun v1 =>
    self σ v1
  else none
def f_X7_endsAtOut_n2 : Nat → St → Int32 → Option St
  | 0 => fun _ _ => none
  | n + 1 => fun σ y1 => f_X7_endsAtOut_n2_b   (f_X7_endsAtOut_n2   n) σ y1
set_option maxRecDepth 100000 in
set_option maxHeartbeats 4000000 in
theorem t_X7_endsAtOut_n2_b {Γ : St → Nat → List (Nat × Value) → List Value → Prop} {l : Launch} {a : Nat → Nat} {t' : St} (hC : Cx Γ l cX7_endsAtOut RX7 2 none Rm_X7_endsAtOut wM a (none) t') (self : St → Int32 → Option St) (hself : ∀ (σ : St) (y1 : Int32), self σ y1 = some t' → Γ σ 2 [(0, .ref (a 0)), (1, .int y1)] []) (σ : St) (y1 : Int32) (h : f_X7_endsAtOut_n2_b self σ y1 = some t') : Γ σ 2 [(0, .ref (a 0)), (1, .int y1)] [] := by
  unfold f_X7_endsAtOut_n2_b at h
  refine r_iload_n hC dX7_endsAtOut_2 rfl 1 rfl ?_
  refine r_aload_n hC dX7_endsAtOut_3 rfl 0 rfl ?_
  refine G7_25 hC dX7_endsAtOut_4 ?_
  refine r_icmp_ge hC 27 dX7_endsAtOut_7 (by decide) (fun q => ?_) (fun q => ?_)
  · replace h := if_p q h
    exact t_X7_endsAtOut_n27 hC σ y1 h
  · replace h := if_n q h
    refine r_aload_n hC dX7_endsAtOut_10 rfl 0 rfl ?_
    refine G7_17 hC dX7_endsAtOut_11 ?_
    refine r_iload_n hC dX7_endsAtOut_14 rfl 1 rfl ?_
    obtain ⟨hi, h⟩ := inb_of h
    refine L_m_tape hC hi dX7_endsAtOut_15 ?_
    refine r_bipush (v := 126) hC dX7_endsAtOut_16 (by decide) ?_
    refine r_icmp_eq hC 27 dX7_endsAtOut_18 (by decide) (fun q => ?_) (fun q => ?_)
    · replace h := if_p q h
      exact t_X7_endsAtOut_n27 hC σ y1 h
    · replace h := if_n q h
      obtain ⟨v1, ev1, h⟩ := lt_of h
      refine r_iinc (c1 := 1) (lv' := [(1, .int v1), (0, .ref (a 0))]) hC dX7_endsAtOut_21 1 rfl (by decide) (by decide) ev1 rfl ?_
      refine r_goto hC 2 dX7_endsAtOut_24 (by decide) ?_
      refine r_sub hC [1, 0] rfl ?_
      exact hself σ v1 h
set_option maxRecDepth 100000 in
set_option maxHeartbeats 4000000 in
theorem t_X7_endsAtOut_n2 {Γ : St → Nat → List (Nat × Value) → List Value → Prop} {l : Launch} {a : Nat → Nat} {t' : St} (hC : Cx Γ l cX7_endsAtOut RX7 2 none Rm_X7_endsAtOut wM a (none) t') (n : Nat) : ∀ (σ : St) (y1 : Int32), f_X7_endsAtOut_n2 n σ y1 = some t' → Γ σ 2 [(0, .ref (a 0)), (1, .int y1)] [] := by
  induction n with
  | zero =>
    intro σ y1  h
    have h : (none : Option St) = some t' := h
    cases h
  | succ n ih =>
    intro σ y1  h
    exact t_X7_endsAtOut_n2_b hC     (f_X7_endsAtOut_n2   n) ih σ y1  h
def f_X7_endsAtOut (σ : St) : Option St :=
  f_X7_endsAtOut_n2 fuel σ (0 : Int32)
set_option maxRecDepth 100000 in
set_option maxHeartbeats 4000000 in
theorem con_X7_endsAtOut (l : Launch) (σ : St) {t' : St} (h : f_X7_endsAtOut σ = some t') : Con l yX7_endsAtOut cX7_endsAtOut 2 none Rm_X7_endsAtOut wM (fun a => [.ref (a 0)]) σ (fun _ => none) t' := by
  refine con_of (by decide) ⟨rfl, rfl⟩ (fun _ => Nat.le_of_ble_eq_true rfl) (fun Γ a hC => ?_)
  have hC : Cx Γ l cX7_endsAtOut RX7 2 none Rm_X7_endsAtOut wM a (none) t' := hC
  show Γ σ 0 [(0, .ref (a 0))] []
  unfold f_X7_endsAtOut at h
  refine r_iconst (v := 0) hC dX7_endsAtOut_0 (by decide) ?_
  refine r_istore_n (lv' := [(1, .int (0 : Int32)), (0, .ref (a 0))]) hC dX7_endsAtOut_1 rfl (by decide) rfl rfl ?_
  refine r_sub hC [1, 0] rfl ?_
  exact t_X7_endsAtOut_n2 hC fuel σ (0 : Int32) h
abbrev Rm_X7_unlike : Room := { frames := 1, cells := 0, slots := 0, locals := 22 }
def f_X7_unlike_n41 (σ : St) (x1 : Int32) (k4 : Int32 → Int32 → Option Int32) (y3 : Int32) (w0 : Int32) (w1 : Int32) : Option Int32 :=
  lt_ (w0 + (f_X7_flag σ w1)) fun v1 =>
  lt_ (y3 + (1 : Int32)) fun v2 =>
  k4 v1 v2
set_option maxRecDepth 100000 in
set_option maxHeartbeats 4000000 in
theorem t_X7_unlike_n41 {Γ : St → Nat → List (Nat × Value) → List Value → Prop} {l : Launch} {a : Nat → Nat} {r : Int32} {σ : St} (hC : Cx Γ l cX7_unlike RX7 4 (some .int) Rm_X7_unlike wM a (some (.int r)) σ) (x1 : Int32) (k4 : Int32 → Int32 → Option Int32) (hk4 : ∀ (y2 : Int32) (y3 : Int32), k4 y2 y3 = some r → Γ σ 4 [(0, .ref (a 0)), (1, .int x1), (2, .int y2), (3, .int y3)] []) (y3 : Int32) (w0 : Int32) (w1 : Int32) (h : f_X7_unlike_n41 σ x1 k4 y3 w0 w1 = some r) : Γ σ 41 [(0, .ref (a 0)), (1, .int x1), (3, .int y3)] [.int w1, .int w0] := by
  unfold f_X7_unlike_n41 at h
  refine r_callS (As := [.int w1]) (rest := [.int w0]) hC (con_X7_flag l σ w1 rfl) K7_109 rfl rfl rfl ⟨Nat.le_of_ble_eq_true rfl, Nat.le_of_ble_eq_true rfl⟩ (Nat.le_of_ble_eq_true rfl) dX7_unlike_41 ?_
  refine r_iadd hC dX7_unlike_44 ?_
  obtain ⟨v1, ev1, h⟩ := lt_of h
  refine r_istore_n (lv' := [(2, .int v1), (0, .ref (a 0)), (1, .int x1), (3, .int y3)]) hC dX7_unlike_45 rfl (by decide) ev1 rfl ?_
  obtain ⟨v2, ev2, h⟩ := lt_of h
  refine r_iinc (c1 := 1) (lv' := [(3, .int v2), (2, .int v1), (0, .ref (a 0)), (1, .int x1)]) hC dX7_unlike_46 3 rfl (by decide) (by decide) ev2 rfl ?_
  refine r_goto hC 4 dX7_unlike_49 (by decide) ?_
  refine r_sub hC [2, 3, 1, 0] rfl ?_
  exact hk4 v1 v2 h
def f_X7_unlike_n36 (σ : St) (x1 : Int32) (k4 : Int32 → Int32 → Option Int32) (y3 : Int32) (w0 : Int32) : Option Int32 :=
  f_X7_unlike_n41 σ x1 k4 y3 w0 (1 : Int32)
set_option maxRecDepth 100000 in
set_option maxHeartbeats 4000000 in
theorem t_X7_unlike_n36 {Γ : St → Nat → List (Nat × Value) → List Value → Prop} {l : Launch} {a : Nat → Nat} {r : Int32} {σ : St} (hC : Cx Γ l cX7_unlike RX7 4 (some .int) Rm_X7_unlike wM a (some (.int r)) σ) (x1 : Int32) (k4 : Int32 → Int32 → Option Int32) (hk4 : ∀ (y2 : Int32) (y3 : Int32), k4 y2 y3 = some r → Γ σ 4 [(0, .ref (a 0)), (1, .int x1), (2, .int y2), (3, .int y3)] []) (y3 : Int32) (w0 : Int32) (h : f_X7_unlike_n36 σ x1 k4 y3 w0 = some r) : Γ σ 36 [(0, .ref (a 0)), (1, .int x1), (3, .int y3)] [.int w0] := by
  unfold f_X7_unlike_n36 at h
  refine r_iconst (v := 1) hC dX7_unlike_36 (by decide) ?_
  refine r_goto hC 41 dX7_unlike_37 (by decide) ?_
  exact t_X7_unlike_n41 hC x1 k4 hk4 y3 w0 (1 : Int32) h
def f_X7_unlike_n4_b (σ : St) (x1 : Int32) (self : Int32 → Int32 → Option Int32) (y2 : Int32) (y3 : Int32) : Option Int32 :=
  if in_b x1 2 = true then
    if (st_a σ 2 x1.toNatClampNeg) ≤ y3 then
      some y2
    else
    if y3 = 0 then
      f_X7_unlike_n36 σ x1 self y3 y2
    else
    (f_X7_at σ x1 (y3 - (1 : Int32))).bind fun v3 =>
    (f_X7_at σ x1 y3).bind fun v4 =>
    if v3 = v4 then
      f_X7_unlike_n41 σ x1 self y3 y2 (0 : Int32)
    else
    f_X7_unlike_n36 σ x1 self y3 y2
  else none
def f_X7_unlike_n4 (σ : St) (x1 : Int32) : Nat → Int32 → Int32 → Option Int32
  | 0 => fun _ _ => none
  | n + 1 => fun y2 y3 => f_X7_unlike_n4_b σ x1  (f_X7_unlike_n4 σ x1  n) y2 y3
set_option maxRecDepth 100000 in
set_option maxHeartbeats 4000000 in
theorem t_X7_unlike_n4_b {Γ : St → Nat → List (Nat × Value) → List Value → Prop} {l : Launch} {a : Nat → Nat} {r : Int32} {σ : St} (hC : Cx Γ l cX7_unlike RX7 4 (some .int) Rm_X7_unlike wM a (some (.int r)) σ) (x1 : Int32) (self : Int32 → Int32 → Option Int32) (hself : ∀ (y2 : Int32) (y3 : Int32), self y2 y3 = some r → Γ σ 4 [(0, .ref (a 0)), (1, .int x1), (2, .int y2), (3, .int y3)] []) (y2 : Int32) (y3 : Int32) (h : f_X7_unlike_n4_b σ x1 self y2 y3 = some r) : Γ σ 4 [(0, .ref (a 0)), (1, .int x1), (2, .int y2), (3, .int y3)] [] := by
  unfold f_X7_unlike_n4_b at h
  refine r_iload_n hC dX7_unlike_4 rfl 3 rfl ?_
  refine r_aload_n hC dX7_unlike_5 rfl 0 rfl ?_
  refine G7_60 hC dX7_unlike_6 ?_
  refine r_iload_n hC dX7_unlike_9 rfl 1 rfl ?_
  obtain ⟨hi, h⟩ := inb_of h
  refine L_m_many hC hi dX7_unlike_10 ?_
  refine r_icmp_ge hC 52 dX7_unlike_11 (by decide) (fun q => ?_) (fun q => ?_)
  · replace h := if_p q h
    refine r_iload_n hC dX7_unlike_52 rfl 2 rfl ?_
    exact r_iretP hC dX7_unlike_53 h
  · replace h := if_n q h
    refine r_iload_n hC dX7_unlike_14 rfl 2 rfl ?_
    refine r_iload_n hC dX7_unlike_15 rfl 3 rfl ?_
    refine r_if_eq hC 36 dX7_unlike_16 (by decide) (fun q => ?_) (fun q => ?_)
    · replace h := if_p q h
      refine r_sub hC [0, 1, 3] rfl ?_
      exact t_X7_unlike_n36 hC x1 self hself y3 y2 h
    · replace h := if_n q h
      refine r_aload_n hC dX7_unlike_19 rfl 0 rfl ?_
      refine r_iload_n hC dX7_unlike_20 rfl 1 rfl ?_
      refine r_iload_n hC dX7_unlike_21 rfl 3 rfl ?_
      refine r_iconst (v := 1) hC dX7_unlike_22 (by decide) ?_
      refine r_isub hC dX7_unlike_23 ?_
      obtain ⟨v3, hv3, h⟩ := bind_of h
      refine r_callV (As := [.int x1, .int (y3 - (1 : Int32))]) (rest := [.int y2]) hC (con_X7_at l σ x1 (y3 - (1 : Int32)) hv3) K7_106 (ob7 a σ) rfl rfl rfl rfl ⟨Nat.le_of_ble_eq_true rfl, Nat.le_of_ble_eq_true rfl⟩ (Nat.le_of_ble_eq_true rfl) dX7_unlike_24 ?_
      refine r_aload_n hC dX7_unlike_27 rfl 0 rfl ?_
      refine r_iload_n hC dX7_unlike_28 rfl 1 rfl ?_
      refine r_iload_n hC dX7_unlike_29 rfl 3 rfl ?_
      obtain ⟨v4, hv4, h⟩ := bind_of h
      refine r_callV (As := [.int x1, .int y3]) (rest := [.int v3, .int y2]) hC (con_X7_at l σ x1 y3 hv4) K7_106 (ob7 a σ) rfl rfl rfl rfl ⟨Nat.le_of_ble_eq_true rfl, Nat.le_of_ble_eq_true rfl⟩ (Nat.le_of_ble_eq_true rfl) dX7_unlike_30 ?_
      refine r_icmp_eq hC 40 dX7_unlike_33 (by decide) (fun q => ?_) (fun q => ?_)
      · replace h := if_p q h
        refine r_iconst (v := 0) hC dX7_unlike_40 (by decide) ?_
        refine r_sub hC [0, 1, 3] rfl ?_
        exact t_X7_unlike_n41 hC x1 self hself y3 y2 (0 : Int32) h
      · replace h := if_n q h
        refine r_sub hC [0, 1, 3] rfl ?_
        exact t_X7_unlike_n36 hC x1 self hself y3 y2 h
set_option maxRecDepth 100000 in
set_option maxHeartbeats 4000000 in
theorem t_X7_unlike_n4 {Γ : St → Nat → List (Nat × Value) → List Value → Prop} {l : Launch} {a : Nat → Nat} {r : Int32} {σ : St} (hC : Cx Γ l cX7_unlike RX7 4 (some .int) Rm_X7_unlike wM a (some (.int r)) σ) (x1 : Int32) (n : Nat) : ∀ (y2 : Int32) (y3 : Int32), f_X7_unlike_n4 σ x1 n y2 y3 = some r → Γ σ 4 [(0, .ref (a 0)), (1, .int x1), (2, .int y2), (3, .int y3)] [] := by
  induction n with
  | zero =>
    intro y2 y3  h
    have h : (none : Option Int32) = some r := h
    cases h
  | succ n ih =>
    intro y2 y3  h
    exact t_X7_unlike_n4_b hC x1    (f_X7_unlike_n4 σ x1  n) ih y2 y3  h
def f_X7_unlike (σ : St) (x1 : Int32) : Option Int32 :=
  f_X7_unlike_n4 σ x1 fuel (0 : Int32) (0 : Int32)
set_option maxRecDepth 100000 in
set_option maxHeartbeats 4000000 in
theorem con_X7_unlike (l : Launch) (σ : St) (x1 : Int32) {r : Int32} (h : f_X7_unlike σ x1 = some r) : Con l yX7_unlike cX7_unlike 4 (some .int) Rm_X7_unlike wM (fun a => [.ref (a 0), .int x1]) σ (fun _ => some (.int r)) σ := by
  refine con_of (by decide) ⟨rfl, rfl⟩ (fun _ => Nat.le_of_ble_eq_true rfl) (fun Γ a hC => ?_)
  have hC : Cx Γ l cX7_unlike RX7 4 (some .int) Rm_X7_unlike wM a (some (.int r)) σ := hC
  show Γ σ 0 [(0, .ref (a 0)), (1, .int x1)] []
  unfold f_X7_unlike at h
  refine r_iconst (v := 0) hC dX7_unlike_0 (by decide) ?_
  refine r_istore_n (lv' := [(2, .int (0 : Int32)), (0, .ref (a 0)), (1, .int x1)]) hC dX7_unlike_1 rfl (by decide) rfl rfl ?_
  refine r_iconst (v := 0) hC dX7_unlike_2 (by decide) ?_
  refine r_istore_n (lv' := [(3, .int (0 : Int32)), (2, .int (0 : Int32)), (0, .ref (a 0)), (1, .int x1)]) hC dX7_unlike_3 rfl (by decide) rfl rfl ?_
  refine r_sub hC [2, 3, 1, 0] rfl ?_
  exact t_X7_unlike_n4 hC x1 fuel (0 : Int32) (0 : Int32) h
abbrev Rm_X7_gaps : Room := { frames := 3, cells := 0, slots := 0, locals := 69 }
def f_X7_gaps_n133 (x1 : Int32) (k33 : St → Int32 → Int32 → Int32 → Int32 → Option (Int32 × St)) (σ : St) (y2 : Int32) (y4 : Int32) (y5 : Int32) (w0 : Int32) (w1 : Int32) : Option (Int32 × St) :=
  lt_ (if w0 < w1 then w1 else w0) fun v4 =>
  lt_ (y5 + (1 : Int32)) fun v5 =>
  k33 σ y2 v4 y4 v5
set_option maxRecDepth 100000 in
set_option maxHeartbeats 4000000 in
theorem t_X7_gaps_n133 {Γ : St → Nat → List (Nat × Value) → List Value → Prop} {l : Launch} {a : Nat → Nat} {r : Int32} {t' : St} (hC : Cx Γ l cX7_gaps RX7 8 (some .int) Rm_X7_gaps wM a (some (.int r)) t') (x1 : Int32) (k33 : St → Int32 → Int32 → Int32 → Int32 → Option (Int32 × St)) (hk33 : ∀ (σ : St) (y2 : Int32) (y3 : Int32) (y4 : Int32) (y5 : Int32), k33 σ y2 y3 y4 y5 = some (r, t') → Γ σ 33 [(0, .ref (a 0)), (1, .int x1), (2, .int y2), (3, .int y3), (4, .int y4), (5, .int y5)] []) (σ : St) (y2 : Int32) (y4 : Int32) (y5 : Int32) (w0 : Int32) (w1 : Int32) (h : f_X7_gaps_n133 x1 k33 σ y2 y4 y5 w0 w1 = some (r, t')) : Γ σ 133 [(0, .ref (a 0)), (1, .int x1), (2, .int y2), (4, .int y4), (5, .int y5)] [.int w1, .int w0] := by
  unfold f_X7_gaps_n133 at h
  refine r_mmax hC dX7_gaps_133 K7_124 ⟨Nat.le_of_ble_eq_true rfl, Nat.le_of_ble_eq_true rfl⟩ ?_
  obtain ⟨v4, ev4, h⟩ := lt_of h
  refine r_istore_n (lv' := [(3, .int v4), (0, .ref (a 0)), (1, .int x1), (2, .int y2), (4, .int y4), (5, .int y5)]) hC dX7_gaps_136 rfl (by decide) ev4 rfl ?_
  obtain ⟨v5, ev5, h⟩ := lt_of h
  refine r_iinc (c1 := 1) (lv' := [(5, .int v5), (3, .int v4), (0, .ref (a 0)), (1, .int x1), (2, .int y2), (4, .int y4)]) hC dX7_gaps_137 5 rfl (by decide) (by decide) ev5 rfl ?_
  refine r_goto hC 33 dX7_gaps_140 (by decide) ?_
  refine r_sub hC [2, 3, 4, 1, 5, 0] rfl ?_
  exact hk33 σ y2 v4 y4 v5 h
def f_X7_gaps_n119 (x1 : Int32) (k33 : St → Int32 → Int32 → Int32 → Int32 → Option (Int32 × St)) (σ : St) (y2 : Int32) (y3 : Int32) (y5 : Int32) (y6 : Int32) (y7 : Int32) (w0 : Int32) : Option (Int32 × St) :=
  if y7 = 0 then
    f_X7_gaps_n133 x1 k33 σ y2 w0 y5 y3 (0 : Int32)
  else
  f_X7_gaps_n133 x1 k33 σ y2 w0 y5 y3 y6
set_option maxRecDepth 100000 in
set_option maxHeartbeats 4000000 in
theorem t_X7_gaps_n119 {Γ : St → Nat → List (Nat × Value) → List Value → Prop} {l : Launch} {a : Nat → Nat} {r : Int32} {t' : St} (hC : Cx Γ l cX7_gaps RX7 8 (some .int) Rm_X7_gaps wM a (some (.int r)) t') (x1 : Int32) (k33 : St → Int32 → Int32 → Int32 → Int32 → Option (Int32 × St)) (hk33 : ∀ (σ : St) (y2 : Int32) (y3 : Int32) (y4 : Int32) (y5 : Int32), k33 σ y2 y3 y4 y5 = some (r, t') → Γ σ 33 [(0, .ref (a 0)), (1, .int x1), (2, .int y2), (3, .int y3), (4, .int y4), (5, .int y5)] []) (σ : St) (y2 : Int32) (y3 : Int32) (y5 : Int32) (y6 : Int32) (y7 : Int32) (w0 : Int32) (h : f_X7_gaps_n119 x1 k33 σ y2 y3 y5 y6 y7 w0 = some (r, t')) : Γ σ 119 [(0, .ref (a 0)), (1, .int x1), (2, .int y2), (3, .int y3), (5, .int y5), (6, .int y6), (7, .int y7)] [.int w0] := by
  unfold f_X7_gaps_n119 at h
  refine r_istore (lv' := [(4, .int w0), (0, .ref (a 0)), (1, .int x1), (2, .int y2), (3, .int y3), (5, .int y5), (6, .int y6), (7, .int y7)]) hC dX7_gaps_119 (by decide) rfl rfl ?_
  refine r_iload_n hC dX7_gaps_121 rfl 4 rfl ?_
  refine r_iload hC dX7_gaps_122 7 rfl ?_
  refine r_if_eq hC 132 dX7_gaps_124 (by decide) (fun q => ?_) (fun q => ?_)
  · replace h := if_p q h
    refine r_iconst (v := 0) hC dX7_gaps_132 (by decide) ?_
    refine r_sub hC [1, 2, 3, 0, 5] rfl ?_
    exact t_X7_gaps_n133 hC x1 k33 hk33 σ y2 w0 y5 y3 (0 : Int32) h
  · replace h := if_n q h
    refine r_iload hC dX7_gaps_127 6 rfl ?_
    refine r_goto hC 133 dX7_gaps_129 (by decide) ?_
    refine r_sub hC [1, 2, 3, 0, 5] rfl ?_
    exact t_X7_gaps_n133 hC x1 k33 hk33 σ y2 w0 y5 y3 y6 h
def f_X7_gaps_n117 (x1 : Int32) (k33 : St → Int32 → Int32 → Int32 → Int32 → Option (Int32 × St)) (σ : St) (y2 : Int32) (y3 : Int32) (y4 : Int32) (y5 : Int32) (y6 : Int32) (y7 : Int32) : Option (Int32 × St) :=
  f_X7_gaps_n119 x1 k33 σ y2 y3 y5 y6 y7 y4
set_option maxRecDepth 100000 in
set_option maxHeartbeats 4000000 in
theorem t_X7_gaps_n117 {Γ : St → Nat → List (Nat × Value) → List Value → Prop} {l : Launch} {a : Nat → Nat} {r : Int32} {t' : St} (hC : Cx Γ l cX7_gaps RX7 8 (some .int) Rm_X7_gaps wM a (some (.int r)) t') (x1 : Int32) (k33 : St → Int32 → Int32 → Int32 → Int32 → Option (Int32 × St)) (hk33 : ∀ (σ : St) (y2 : Int32) (y3 : Int32) (y4 : Int32) (y5 : Int32), k33 σ y2 y3 y4 y5 = some (r, t') → Γ σ 33 [(0, .ref (a 0)), (1, .int x1), (2, .int y2), (3, .int y3), (4, .int y4), (5, .int y5)] []) (σ : St) (y2 : Int32) (y3 : Int32) (y4 : Int32) (y5 : Int32) (y6 : Int32) (y7 : Int32) (h : f_X7_gaps_n117 x1 k33 σ y2 y3 y4 y5 y6 y7 = some (r, t')) : Γ σ 117 [(0, .ref (a 0)), (1, .int x1), (2, .int y2), (3, .int y3), (4, .int y4), (5, .int y5), (6, .int y6), (7, .int y7)] [] := by
  unfold f_X7_gaps_n117 at h
  refine r_iload hC dX7_gaps_117 4 rfl ?_
  refine r_sub hC [0, 1, 2, 3, 5, 6, 7] rfl ?_
  exact t_X7_gaps_n119 hC x1 k33 hk33 σ y2 y3 y5 y6 y7 y4 h
def f_X7_gaps_n99 (x1 : Int32) (k33 : St → Int32 → Int32 → Int32 → Int32 → Option (Int32 × St)) (σ : St) (y2 : Int32) (y3 : Int32) (y4 : Int32) (y5 : Int32) (y6 : Int32) (w0 : Int32) : Option (Int32 × St) :=
  if w0 = 0 then
    f_X7_gaps_n117 x1 k33 σ y2 y3 y4 y5 y6 w0
  else
  if y6 ≤ y3 then
    f_X7_gaps_n117 x1 k33 σ y2 y3 y4 y5 y6 w0
  else
  f_X7_gaps_n119 x1 k33 σ y2 y3 y5 y6 w0 y5
set_option maxRecDepth 100000 in
set_option maxHeartbeats 4000000 in
theorem t_X7_gaps_n99 {Γ : St → Nat → List (Nat × Value) → List Value → Prop} {l : Launch} {a : Nat → Nat} {r : Int32} {t' : St} (hC : Cx Γ l cX7_gaps RX7 8 (some .int) Rm_X7_gaps wM a (some (.int r)) t') (x1 : Int32) (k33 : St → Int32 → Int32 → Int32 → Int32 → Option (Int32 × St)) (hk33 : ∀ (σ : St) (y2 : Int32) (y3 : Int32) (y4 : Int32) (y5 : Int32), k33 σ y2 y3 y4 y5 = some (r, t') → Γ σ 33 [(0, .ref (a 0)), (1, .int x1), (2, .int y2), (3, .int y3), (4, .int y4), (5, .int y5)] []) (σ : St) (y2 : Int32) (y3 : Int32) (y4 : Int32) (y5 : Int32) (y6 : Int32) (w0 : Int32) (h : f_X7_gaps_n99 x1 k33 σ y2 y3 y4 y5 y6 w0 = some (r, t')) : Γ σ 99 [(0, .ref (a 0)), (1, .int x1), (2, .int y2), (3, .int y3), (4, .int y4), (5, .int y5), (6, .int y6)] [.int w0] := by
  unfold f_X7_gaps_n99 at h
  refine r_istore (lv' := [(7, .int w0), (0, .ref (a 0)), (1, .int x1), (2, .int y2), (3, .int y3), (4, .int y4), (5, .int y5), (6, .int y6)]) hC dX7_gaps_99 (by decide) rfl rfl ?_
  refine r_iload hC dX7_gaps_101 0 rfl ?_
  refine r_if_eq hC 117 dX7_gaps_103 (by decide) (fun q => ?_) (fun q => ?_)
  · replace h := if_p q h
    refine r_sub hC [1, 2, 3, 4, 5, 6, 7, 0] rfl ?_
    exact t_X7_gaps_n117 hC x1 k33 hk33 σ y2 y3 y4 y5 y6 w0 h
  · replace h := if_n q h
    refine r_iload hC dX7_gaps_106 7 rfl ?_
    refine r_iload_n hC dX7_gaps_108 rfl 4 rfl ?_
    refine r_icmp_le hC 117 dX7_gaps_109 (by decide) (fun q => ?_) (fun q => ?_)
    · replace h := if_p q h
      refine r_sub hC [1, 2, 3, 4, 5, 6, 7, 0] rfl ?_
      exact t_X7_gaps_n117 hC x1 k33 hk33 σ y2 y3 y4 y5 y6 w0 h
    · replace h := if_n q h
      refine r_iload hC dX7_gaps_112 6 rfl ?_
      refine r_goto hC 119 dX7_gaps_114 (by decide) ?_
      refine r_sub hC [1, 2, 3, 4, 6, 7, 0] rfl ?_
      exact t_X7_gaps_n119 hC x1 k33 hk33 σ y2 y3 y5 y6 w0 y5 h
def f_X7_gaps_n94 (x1 : Int32) (k33 : St → Int32 → Int32 → Int32 → Int32 → Option (Int32 × St)) (σ : St) (y2 : Int32) (y3 : Int32) (y4 : Int32) (y5 : Int32) (y6 : Int32) : Option (Int32 × St) :=
  f_X7_gaps_n99 x1 k33 σ y2 y3 y4 y5 y6 (1 : Int32)
set_option maxRecDepth 100000 in
set_option maxHeartbeats 4000000 in
theorem t_X7_gaps_n94 {Γ : St → Nat → List (Nat × Value) → List Value → Prop} {l : Launch} {a : Nat → Nat} {r : Int32} {t' : St} (hC : Cx Γ l cX7_gaps RX7 8 (some .int) Rm_X7_gaps wM a (some (.int r)) t') (x1 : Int32) (k33 : St → Int32 → Int32 → Int32 → Int32 → Option (Int32 × St)) (hk33 : ∀ (σ : St) (y2 : Int32) (y3 : Int32) (y4 : Int32) (y5 : Int32), k33 σ y2 y3 y4 y5 = some (r, t') → Γ σ 33 [(0, .ref (a 0)), (1, .int x1), (2, .int y2), (3, .int y3), (4, .int y4), (5, .int y5)] []) (σ : St) (y2 : Int32) (y3 : Int32) (y4 : Int32) (y5 : Int32) (y6 : Int32) (h : f_X7_gaps_n94 x1 k33 σ y2 y3 y4 y5 y6 = some (r, t')) : Γ σ 94 [(0, .ref (a 0)), (1, .int x1), (2, .int y2), (3, .int y3), (4, .int y4), (5, .int y5), (6, .int y6)] [] := by
  unfold f_X7_gaps_n94 at h
  refine r_iconst (v := 1) hC dX7_gaps_94 (by decide) ?_
  refine r_goto hC 99 dX7_gaps_95 (by decide) ?_
  exact t_X7_gaps_n99 hC x1 k33 hk33 σ y2 y3 y4 y5 y6 (1 : Int32) h
def f_X7_gaps_n69 (x1 : Int32) (k33 : St → Int32 → Int32 → Int32 → Int32 → Option (Int32 × St)) (σ : St) (y2 : Int32) (y3 : Int32) (y4 : Int32) (y5 : Int32) (y6 : Int32) : Option (Int32 × St) :=
  if in_b x1 2 = true then
    if (st_a σ 2 x1.toNatClampNeg) = 0 then
      f_X7_gaps_n94 x1 k33 σ y2 y3 y4 y5 y6
    else
    if y2 = 0 then none else
    if in_b (((y5 + y2) - (1 : Int32)) - ((y5 + y2) - (1 : Int32)) / y2 * y2) 64 = true then
      if (st_a σ 5 (((y5 + y2) - (1 : Int32)) - ((y5 + y2) - (1 : Int32)) / y2 * y2).toNatClampNeg) < 0 then
        f_X7_gaps_n99 x1 k33 σ y2 y3 y4 y5 y6 (0 : Int32)
      else
      f_X7_gaps_n94 x1 k33 σ y2 y3 y4 y5 y6
    else none
  else none
set_option maxRecDepth 100000 in
set_option maxHeartbeats 4000000 in
theorem t_X7_gaps_n69 {Γ : St → Nat → List (Nat × Value) → List Value → Prop} {l : Launch} {a : Nat → Nat} {r : Int32} {t' : St} (hC : Cx Γ l cX7_gaps RX7 8 (some .int) Rm_X7_gaps wM a (some (.int r)) t') (x1 : Int32) (k33 : St → Int32 → Int32 → Int32 → Int32 → Option (Int32 × St)) (hk33 : ∀ (σ : St) (y2 : Int32) (y3 : Int32) (y4 : Int32) (y5 : Int32), k33 σ y2 y3 y4 y5 = some (r, t') → Γ σ 33 [(0, .ref (a 0)), (1, .int x1), (2, .int y2), (3, .int y3), (4, .int y4), (5, .int y5)] []) (σ : St) (y2 : Int32) (y3 : Int32) (y4 : Int32) (y5 : Int32) (y6 : Int32) (h : f_X7_gaps_n69 x1 k33 σ y2 y3 y4 y5 y6 = some (r, t')) : Γ σ 69 [(0, .ref (a 0)), (1, .int x1), (2, .int y2), (3, .int y3), (4, .int y4), (5, .int y5), (6, .int y6)] [] := by
  unfold f_X7_gaps_n69 at h
  refine r_aload_n hC dX7_gaps_69 rfl 0 rfl ?_
  refine G7_60 hC dX7_gaps_70 ?_
  refine r_iload_n hC dX7_gaps_73 rfl 1 rfl ?_
  obtain ⟨hi, h⟩ := inb_of h
  refine L_m_many hC hi dX7_gaps_74 ?_
  refine r_if_eq hC 94 dX7_gaps_75 (by decide) (fun q => ?_) (fun q => ?_)
  · replace h := if_p q h
    exact t_X7_gaps_n94 hC x1 k33 hk33 σ y2 y3 y4 y5 y6 h
  · replace h := if_n q h
    refine r_aload_n hC dX7_gaps_78 rfl 0 rfl ?_
    refine G7_69 hC dX7_gaps_79 ?_
    refine r_iload hC dX7_gaps_82 5 rfl ?_
    refine r_iload_n hC dX7_gaps_84 rfl 2 rfl ?_
    refine r_iadd hC dX7_gaps_85 ?_
    refine r_iconst (v := 1) hC dX7_gaps_86 (by decide) ?_
    refine r_isub hC dX7_gaps_87 ?_
    refine r_iload_n hC dX7_gaps_88 rfl 2 rfl ?_
    obtain ⟨hz, h⟩ := nz_of h
    refine r_irem hC dX7_gaps_89 hz ?_
    obtain ⟨hi, h⟩ := inb_of h
    refine L_m_holds hC hi dX7_gaps_90 ?_
    refine r_if_lt hC 98 dX7_gaps_91 (by decide) (fun q => ?_) (fun q => ?_)
    · replace h := if_p q h
      refine r_iconst (v := 0) hC dX7_gaps_98 (by decide) ?_
      exact t_X7_gaps_n99 hC x1 k33 hk33 σ y2 y3 y4 y5 y6 (0 : Int32) h
    · replace h := if_n q h
      exact t_X7_gaps_n94 hC x1 k33 hk33 σ y2 y3 y4 y5 y6 h
def f_X7_gaps_n42_b (x1 : Int32) (k33 : St → Int32 → Int32 → Int32 → Int32 → Option (Int32 × St)) (self : St → Int32 → Int32 → Int32 → Int32 → Int32 → Option (Int32 × St)) (σ : St) (y2 : Int32) (y3 : Int32) (y4 : Int32) (y5 : Int32) (y6 : Int32) : Option (Int32 × St) :=
  if y2 ≤ y6 then
    f_X7_gaps_n69 x1 k33 σ y2 y3 y4 y5 y6
  else
  if y2 = 0 then none else
  if in_b ((y5 + y6) - (y5 + y6) / y2 * y2) 64 = true then
    if 0 ≤ (st_a σ 5 ((y5 + y6) - (y5 + y6) / y2 * y2).toNatClampNeg) then
      f_X7_gaps_n69 x1 k33 σ y2 y3 y4 y5 y6
    else
    lt_ (y6 + (1 : Int32)) fun v6 =>
    self σ y2 y3 y4 y5 v6
  else none
def f_X7_gaps_n42 (x1 : Int32) (k33 : St → Int32 → Int32 → Int32 → Int32 → Option (Int32 × St)) : Nat → St → Int32 → Int32 → Int32 → Int32 → Int32 → Option (Int32 × St)
  | 0 => fun _ _ _ _ _ _ => none
  | n + 1 => fun σ y2 y3 y4 y5 y6 => f_X7_gaps_n42_b x1 k33 (f_X7_gaps_n42 x1 k33 n) σ y2 y3 y4 y5 y6
set_option maxRecDepth 100000 in
set_option maxHeartbeats 4000000 in
theorem t_X7_gaps_n42_b {Γ : St → Nat → List (Nat × Value) → List Value → Prop} {l : Launch} {a : Nat → Nat} {r : Int32} {t' : St} (hC : Cx Γ l cX7_gaps RX7 8 (some .int) Rm_X7_gaps wM a (some (.int r)) t') (x1 : Int32) (k33 : St → Int32 → Int32 → Int32 → Int32 → Option (Int32 × St)) (hk33 : ∀ (σ : St) (y2 : Int32) (y3 : Int32) (y4 : Int32) (y5 : Int32), k33 σ y2 y3 y4 y5 = some (r, t') → Γ σ 33 [(0, .ref (a 0)), (1, .int x1), (2, .int y2), (3, .int y3), (4, .int y4), (5, .int y5)] []) (self : St → Int32 → Int32 → Int32 → Int32 → Int32 → Option (Int32 × St)) (hself : ∀ (σ : St) (y2 : Int32) (y3 : Int32) (y4 : Int32) (y5 : Int32) (y6 : Int32), self σ y2 y3 y4 y5 y6 = some (r, t') → Γ σ 42 [(0, .ref (a 0)), (1, .int x1), (2, .int y2), (3, .int y3), (4, .int y4), (5, .int y5), (6, .int y6)] []) (σ : St) (y2 : Int32) (y3 : Int32) (y4 : Int32) (y5 : Int32) (y6 : Int32) (h : f_X7_gaps_n42_b x1 k33 self σ y2 y3 y4 y5 y6 = some (r, t')) : Γ σ 42 [(0, .ref (a 0)), (1, .int x1), (2, .int y2), (3, .int y3), (4, .int y4), (5, .int y5), (6, .int y6)] [] := by
  unfold f_X7_gaps_n42_b at h
  refine r_iload hC dX7_gaps_42 6 rfl ?_
  refine r_iload_n hC dX7_gaps_44 rfl 2 rfl ?_
  refine r_icmp_ge hC 69 dX7_gaps_45 (by decide) (fun q => ?_) (fun q => ?_)
  · replace h := if_p q h
    exact t_X7_gaps_n69 hC x1 k33 hk33 σ y2 y3 y4 y5 y6 h
  · replace h := if_n q h
    refine r_aload_n hC dX7_gaps_48 rfl 0 rfl ?_
    refine G7_69 hC dX7_gaps_49 ?_
    refine r_iload hC dX7_gaps_52 5 rfl ?_
    refine r_iload hC dX7_gaps_54 6 rfl ?_
    refine r_iadd hC dX7_gaps_56 ?_
    refine r_iload_n hC dX7_gaps_57 rfl 2 rfl ?_
    obtain ⟨hz, h⟩ := nz_of h
    refine r_irem hC dX7_gaps_58 hz ?_
    obtain ⟨hi, h⟩ := inb_of h
    refine L_m_holds hC hi dX7_gaps_59 ?_
    refine r_if_ge hC 69 dX7_gaps_60 (by decide) (fun q => ?_) (fun q => ?_)
    · replace h := if_p q h
      exact t_X7_gaps_n69 hC x1 k33 hk33 σ y2 y3 y4 y5 y6 h
    · replace h := if_n q h
      obtain ⟨v6, ev6, h⟩ := lt_of h
      refine r_iinc (c1 := 1) (lv' := [(6, .int v6), (0, .ref (a 0)), (1, .int x1), (2, .int y2), (3, .int y3), (4, .int y4), (5, .int y5)]) hC dX7_gaps_63 6 rfl (by decide) (by decide) ev6 rfl ?_
      refine r_goto hC 42 dX7_gaps_66 (by decide) ?_
      refine r_sub hC [1, 2, 3, 4, 5, 6, 0] rfl ?_
      exact hself σ y2 y3 y4 y5 v6 h
set_option maxRecDepth 100000 in
set_option maxHeartbeats 4000000 in
theorem t_X7_gaps_n42 {Γ : St → Nat → List (Nat × Value) → List Value → Prop} {l : Launch} {a : Nat → Nat} {r : Int32} {t' : St} (hC : Cx Γ l cX7_gaps RX7 8 (some .int) Rm_X7_gaps wM a (some (.int r)) t') (x1 : Int32) (k33 : St → Int32 → Int32 → Int32 → Int32 → Option (Int32 × St)) (hk33 : ∀ (σ : St) (y2 : Int32) (y3 : Int32) (y4 : Int32) (y5 : Int32), k33 σ y2 y3 y4 y5 = some (r, t') → Γ σ 33 [(0, .ref (a 0)), (1, .int x1), (2, .int y2), (3, .int y3), (4, .int y4), (5, .int y5)] []) (n : Nat) : ∀ (σ : St) (y2 : Int32) (y3 : Int32) (y4 : Int32) (y5 : Int32) (y6 : Int32), f_X7_gaps_n42 x1 k33 n σ y2 y3 y4 y5 y6 = some (r, t') → Γ σ 42 [(0, .ref (a 0)), (1, .int x1), (2, .int y2), (3, .int y3), (4, .int y4), (5, .int y5), (6, .int y6)] [] := by
  induction n with
  | zero =>
    intro σ y2 y3 y4 y5 y6  h
    have h : (none : Option (Int32 × St)) = some (r, t') := h
    cases h
  | succ n ih =>
    intro σ y2 y3 y4 y5 y6  h
    exact t_X7_gaps_n42_b hC x1  k33 hk33 (f_X7_gaps_n42 x1 k33 n) ih σ y2 y3 y4 y5 y6  h
def f_X7_gaps_n33_b (x1 : Int32) (self : St → Int32 → Int32 → Int32 → Int32 → Option (Int32 × St)) (σ : St) (y2 : Int32) (y3 : Int32) (y4 : Int32) (y5 : Int32) : Option (Int32 × St) :=
  if y2 ≤ y5 then
    lt_ (put_i σ 1 (0 : Int32)) fun s1 =>
    (f_X7_enters s1 (y3.toInt64)).bind fun s2 =>
    (f_X7_enters s2 (y4.toInt64)).bind fun s3 =>
    if in_b x1 2 = true then
      some ((y2 - (st_a s3 2 x1.toNatClampNeg)), s3)
    else none
  else
  f_X7_gaps_n42 x1 self fuel σ y2 y3 y4 y5 (0 : Int32)
def f_X7_gaps_n33 (x1 : Int32) : Nat → St → Int32 → Int32 → Int32 → Int32 → Option (Int32 × St)
  | 0 => fun _ _ _ _ _ => none
  | n + 1 => fun σ y2 y3 y4 y5 => f_X7_gaps_n33_b x1  (f_X7_gaps_n33 x1  n) σ y2 y3 y4 y5
set_option maxRecDepth 100000 in
set_option maxHeartbeats 4000000 in
theorem t_X7_gaps_n33_b {Γ : St → Nat → List (Nat × Value) → List Value → Prop} {l : Launch} {a : Nat → Nat} {r : Int32} {t' : St} (hC : Cx Γ l cX7_gaps RX7 8 (some .int) Rm_X7_gaps wM a (some (.int r)) t') (x1 : Int32) (self : St → Int32 → Int32 → Int32 → Int32 → Option (Int32 × St)) (hself : ∀ (σ : St) (y2 : Int32) (y3 : Int32) (y4 : Int32) (y5 : Int32), self σ y2 y3 y4 y5 = some (r, t') → Γ σ 33 [(0, .ref (a 0)), (1, .int x1), (2, .int y2), (3, .int y3), (4, .int y4), (5, .int y5)] []) (σ : St) (y2 : Int32) (y3 : Int32) (y4 : Int32) (y5 : Int32) (h : f_X7_gaps_n33_b x1 self σ y2 y3 y4 y5 = some (r, t')) : Γ σ 33 [(0, .ref (a 0)), (1, .int x1), (2, .int y2), (3, .int y3), (4, .int y4), (5, .int y5)] [] := by
  unfold f_X7_gaps_n33_b at h
  refine r_iload hC dX7_gaps_33 5 rfl ?_
  refine r_iload_n hC dX7_gaps_35 rfl 2 rfl ?_
  refine r_icmp_ge hC 143 dX7_gaps_36 (by decide) (fun q => ?_) (fun q => ?_)
  · replace h := if_p q h
    refine r_aload_n hC dX7_gaps_143 rfl 0 rfl ?_
    refine r_iconst (v := 0) hC dX7_gaps_144 (by decide) ?_
    obtain ⟨s1, es1, h⟩ := lt_of h
    refine P7_11 hC es1 dX7_gaps_145 ?_
    refine r_aload_n hC dX7_gaps_148 rfl 0 rfl ?_
    refine r_iload_n hC dX7_gaps_149 rfl 3 rfl ?_
    refine r_i2l hC dX7_gaps_150 ?_
    obtain ⟨s2, hs2, h⟩ := bind_of h
    refine r_callV (As := [.long (y3.toInt64)]) (rest := []) hC (con_X7_enters l s1 (y3.toInt64) hs2) K7_145 (ob7 a s1) rfl rfl rfl rfl ⟨Nat.le_of_ble_eq_true rfl, Nat.le_of_ble_eq_true rfl⟩ (Nat.le_of_ble_eq_true rfl) dX7_gaps_151 ?_
    refine r_aload_n hC dX7_gaps_154 rfl 0 rfl ?_
    refine r_iload hC dX7_gaps_155 4 rfl ?_
    refine r_i2l hC dX7_gaps_157 ?_
    obtain ⟨s3, hs3, h⟩ := bind_of h
    refine r_callV (As := [.long (y4.toInt64)]) (rest := []) hC (con_X7_enters l s2 (y4.toInt64) hs3) K7_145 (ob7 a s2) rfl rfl rfl rfl ⟨Nat.le_of_ble_eq_true rfl, Nat.le_of_ble_eq_true rfl⟩ (Nat.le_of_ble_eq_true rfl) dX7_gaps_158 ?_
    refine r_iload_n hC dX7_gaps_161 rfl 2 rfl ?_
    refine r_aload_n hC dX7_gaps_162 rfl 0 rfl ?_
    refine G7_60 hC dX7_gaps_163 ?_
    refine r_iload_n hC dX7_gaps_166 rfl 1 rfl ?_
    obtain ⟨hi, h⟩ := inb_of h
    refine L_m_many hC hi dX7_gaps_167 ?_
    refine r_isub hC dX7_gaps_168 ?_
    exact r_iretS hC dX7_gaps_169 h
  · replace h := if_n q h
    refine r_iconst (v := 0) hC dX7_gaps_39 (by decide) ?_
    refine r_istore (lv' := [(6, .int (0 : Int32)), (0, .ref (a 0)), (1, .int x1), (2, .int y2), (3, .int y3), (4, .int y4), (5, .int y5)]) hC dX7_gaps_40 (by decide) rfl rfl ?_
    refine r_sub hC [1, 2, 3, 4, 5, 6, 0] rfl ?_
    exact t_X7_gaps_n42 hC x1 self hself fuel σ y2 y3 y4 y5 (0 : Int32) h
set_option maxRecDepth 100000 in
set_option maxHeartbeats 4000000 in
theorem t_X7_gaps_n33 {Γ : St → Nat → List (Nat × Value) → List Value → Prop} {l : Launch} {a : Nat → Nat} {r : Int32} {t' : St} (hC : Cx Γ l cX7_gaps RX7 8 (some .int) Rm_X7_gaps wM a (some (.int r)) t') (x1 : Int32) (n : Nat) : ∀ (σ : St) (y2 : Int32) (y3 : Int32) (y4 : Int32) (y5 : Int32), f_X7_gaps_n33 x1 n σ y2 y3 y4 y5 = some (r, t') → Γ σ 33 [(0, .ref (a 0)), (1, .int x1), (2, .int y2), (3, .int y3), (4, .int y4), (5, .int y5)] [] := by
  induction n with
  | zero =>
    intro σ y2 y3 y4 y5  h
    have h : (none : Option (Int32 × St)) = some (r, t') := h
    cases h
  | succ n ih =>
    intro σ y2 y3 y4 y5  h
    exact t_X7_gaps_n33_b hC x1    (f_X7_gaps_n33 x1  n) ih σ y2 y3 y4 y5  h
def f_X7_gaps (σ : St) (x1 : Int32) : Option (Int32 × St) :=
  lt_ (put_i σ 0 (0 : Int32)) fun s7 =>
  if (f_X7_isFile s7 x1) = 0 then
    some ((-1 : Int32), s7)
  else
  (f_X7_lies s7 x1).bind fun s8 =>
  (f_X7_slots s8 x1).bind fun v9 =>
  f_X7_gaps_n33 x1 fuel s8 v9 (0 : Int32) (-1 : Int32) (0 : Int32)
set_option maxRecDepth 100000 in
set_option maxHeartbeats 4000000 in
theorem con_X7_gaps (l : Launch) (σ : St) (x1 : Int32) {r : Int32} {t' : St} (h : f_X7_gaps σ x1 = some (r, t')) : Con l yX7_gaps cX7_gaps 8 (some .int) Rm_X7_gaps wM (fun a => [.ref (a 0), .int x1]) σ (fun _ => some (.int r)) t' := by
  refine con_of (by decide) ⟨rfl, rfl⟩ (fun _ => Nat.le_of_ble_eq_true rfl) (fun Γ a hC => ?_)
  have hC : Cx Γ l cX7_gaps RX7 8 (some .int) Rm_X7_gaps wM a (some (.int r)) t' := hC
  show Γ σ 0 [(0, .ref (a 0)), (1, .int x1)] []
  unfold f_X7_gaps at h
  refine r_aload_n hC dX7_gaps_0 rfl 0 rfl ?_
  refine r_iconst (v := 0) hC dX7_gaps_1 (by decide) ?_
  obtain ⟨s7, es7, h⟩ := lt_of h
  refine P7_1 hC es7 dX7_gaps_2 ?_
  refine r_iload_n hC dX7_gaps_5 rfl 1 rfl ?_
  refine r_callS (As := [.int x1]) (rest := []) hC (con_X7_isFile l s7 x1 rfl) K7_136 rfl rfl rfl ⟨Nat.le_of_ble_eq_true rfl, Nat.le_of_ble_eq_true rfl⟩ (Nat.le_of_ble_eq_true rfl) dX7_gaps_6 ?_
  refine r_if_ne hC 14 dX7_gaps_9 (by decide) (fun q => ?_) (fun q => ?_)
  · replace h := if_n q h
    refine r_aload_n hC dX7_gaps_14 rfl 0 rfl ?_
    refine r_iload_n hC dX7_gaps_15 rfl 1 rfl ?_
    obtain ⟨s8, hs8, h⟩ := bind_of h
    refine r_callV (As := [.int x1]) (rest := []) hC (con_X7_lies l s7 x1 hs8) K7_162 (ob7 a s7) rfl rfl rfl rfl ⟨Nat.le_of_ble_eq_true rfl, Nat.le_of_ble_eq_true rfl⟩ (Nat.le_of_ble_eq_true rfl) dX7_gaps_16 ?_
    refine r_aload_n hC dX7_gaps_19 rfl 0 rfl ?_
    refine r_iload_n hC dX7_gaps_20 rfl 1 rfl ?_
    obtain ⟨v9, hv9, h⟩ := bind_of h
    refine r_callV (As := [.int x1]) (rest := []) hC (con_X7_slots l s8 x1 hv9) K7_121 (ob7 a s8) rfl rfl rfl rfl ⟨Nat.le_of_ble_eq_true rfl, Nat.le_of_ble_eq_true rfl⟩ (Nat.le_of_ble_eq_true rfl) dX7_gaps_21 ?_
    refine r_istore_n (lv' := [(2, .int v9), (0, .ref (a 0)), (1, .int x1)]) hC dX7_gaps_24 rfl (by decide) rfl rfl ?_
    refine r_iconst (v := 0) hC dX7_gaps_25 (by decide) ?_
    refine r_istore_n (lv' := [(3, .int (0 : Int32)), (2, .int v9), (0, .ref (a 0)), (1, .int x1)]) hC dX7_gaps_26 rfl (by decide) rfl rfl ?_
    refine r_iconst (v := -1) hC dX7_gaps_27 (by decide) ?_
    refine r_istore (lv' := [(4, .int (-1 : Int32)), (3, .int (0 : Int32)), (2, .int v9), (0, .ref (a 0)), (1, .int x1)]) hC dX7_gaps_28 (by decide) rfl rfl ?_
    refine r_iconst (v := 0) hC dX7_gaps_30 (by decide) ?_
    refine r_istore (lv' := [(5, .int (0 : Int32)), (4, .int (-1 : Int32)), (3, .int (0 : Int32)), (2, .int v9), (0, .ref (a 0)), (1, .int x1)]) hC dX7_gaps_31 (by decide) rfl rfl ?_
    refine r_sub hC [4, 5, 3, 2, 1, 0] rfl ?_
    exact t_X7_gaps_n33 hC x1 fuel s8 v9 (0 : Int32) (-1 : Int32) (0 : Int32) h
  · replace h := if_p q h
    refine r_iconst (v := -1) hC dX7_gaps_12 (by decide) ?_
    exact r_iretS hC dX7_gaps_13 h
abbrev Rm_X7_goes : Room := { frames := 1, cells := 0, slots := 0, locals := 22 }
def f_X7_goes_n53_b (x1 : Int32) (x2 : Int32) (self : St → Int32 → Option (Int32 × St)) (σ : St) (y4 : Int32) : Option (Int32 × St) :=
  if in_b x1 2 = true then
    if (st_a σ 2 x1.toNatClampNeg) ≤ y4 then
      some ((1 : Int32), σ)
    else
    (f_X7_at σ x1 (y4 + (1 : Int32))).bind fun v4 =>
    if in_b (((64 : Int32) * x1) + y4) 128 = true then
      lt_ (put_a σ 3 (((64 : Int32) * x1) + y4).toNatClampNeg v4) fun s5 =>
      lt_ (y4 + (1 : Int32)) fun v6 =>
      self s5 v6
    else none
  else none
def f_X7_goes_n53 (x1 : Int32) (x2 : Int32) : Nat → St → Int32 → Option (Int32 × St)
  | 0 => fun _ _ => none
  | n + 1 => fun σ y4 => f_X7_goes_n53_b x1 x2  (f_X7_goes_n53 x1 x2  n) σ y4
set_option maxRecDepth 100000 in
set_option maxHeartbeats 4000000 in
theorem t_X7_goes_n53_b {Γ : St → Nat → List (Nat × Value) → List Value → Prop} {l : Launch} {a : Nat → Nat} {r : Int32} {t' : St} (hC : Cx Γ l cX7_goes RX7 5 (some .boolean) Rm_X7_goes wM a (some (.int r)) t') (x1 : Int32) (x2 : Int32) (self : St → Int32 → Option (Int32 × St)) (hself : ∀ (σ : St) (y4 : Int32), self σ y4 = some (r, t') → Γ σ 53 [(0, .ref (a 0)), (1, .int x1), (4, .int y4)] []) (σ : St) (y4 : Int32) (h : f_X7_goes_n53_b x1 x2 self σ y4 = some (r, t')) : Γ σ 53 [(0, .ref (a 0)), (1, .int x1), (4, .int y4)] [] := by
  unfold f_X7_goes_n53_b at h
  refine r_iload hC dX7_goes_53 2 rfl ?_
  refine r_aload_n hC dX7_goes_55 rfl 0 rfl ?_
  refine G7_60 hC dX7_goes_56 ?_
  refine r_iload_n hC dX7_goes_59 rfl 1 rfl ?_
  obtain ⟨hi, h⟩ := inb_of h
  refine L_m_many hC hi dX7_goes_60 ?_
  refine r_icmp_ge hC 91 dX7_goes_61 (by decide) (fun q => ?_) (fun q => ?_)
  · replace h := if_p q h
    refine r_iconst (v := 1) hC dX7_goes_91 (by decide) ?_
    exact r_zretS hC rfl dX7_goes_92 h
  · replace h := if_n q h
    refine r_aload_n hC dX7_goes_64 rfl 0 rfl ?_
    refine G7_63 hC dX7_goes_65 ?_
    refine r_bipush (v := 64) hC dX7_goes_68 (by decide) ?_
    refine r_iload_n hC dX7_goes_70 rfl 1 rfl ?_
    refine r_imul hC dX7_goes_71 ?_
    refine r_iload hC dX7_goes_72 2 rfl ?_
    refine r_iadd hC dX7_goes_74 ?_
    refine r_aload_n hC dX7_goes_75 rfl 0 rfl ?_
    refine r_iload_n hC dX7_goes_76 rfl 1 rfl ?_
    refine r_iload hC dX7_goes_77 2 rfl ?_
    refine r_iconst (v := 1) hC dX7_goes_79 (by decide) ?_
    refine r_iadd hC dX7_goes_80 ?_
    obtain ⟨v4, hv4, h⟩ := bind_of h
    refine r_callV (As := [.int x1, .int (y4 + (1 : Int32))]) (rest := [.int (((64 : Int32) * x1) + y4), .ref (a 5)]) hC (con_X7_at l σ x1 (y4 + (1 : Int32)) hv4) K7_106 (ob7 a σ) rfl rfl rfl rfl ⟨Nat.le_of_ble_eq_true rfl, Nat.le_of_ble_eq_true rfl⟩ (Nat.le_of_ble_eq_true rfl) dX7_goes_81 ?_
    obtain ⟨hi, h⟩ := inb_of h
    obtain ⟨s5, es5, h⟩ := lt_of h
    refine S_m_print hC es5 hi dX7_goes_84 ?_
    obtain ⟨v6, ev6, h⟩ := lt_of h
    refine r_iinc (c1 := 1) (lv' := [(4, .int v6), (0, .ref (a 0)), (1, .int x1)]) hC dX7_goes_85 2 rfl (by decide) (by decide) ev6 rfl ?_
    refine r_goto hC 53 dX7_goes_88 (by decide) ?_
    refine r_sub hC [1, 2, 0] rfl ?_
    exact hself s5 v6 h
set_option maxRecDepth 100000 in
set_option maxHeartbeats 4000000 in
theorem t_X7_goes_n53 {Γ : St → Nat → List (Nat × Value) → List Value → Prop} {l : Launch} {a : Nat → Nat} {r : Int32} {t' : St} (hC : Cx Γ l cX7_goes RX7 5 (some .boolean) Rm_X7_goes wM a (some (.int r)) t') (x1 : Int32) (x2 : Int32) (n : Nat) : ∀ (σ : St) (y4 : Int32), f_X7_goes_n53 x1 x2 n σ y4 = some (r, t') → Γ σ 53 [(0, .ref (a 0)), (1, .int x1), (4, .int y4)] [] := by
  induction n with
  | zero =>
    intro σ y4  h
    have h : (none : Option (Int32 × St)) = some (r, t') := h
    cases h
  | succ n ih =>
    intro σ y4  h
    exact t_X7_goes_n53_b hC x1 x2    (f_X7_goes_n53 x1 x2  n) ih σ y4  h
def f_X7_goes_n28 (x1 : Int32) (x2 : Int32) (σ : St) (y3 : Int32) : Option (Int32 × St) :=
  if in_b x1 2 = true then
    if y3 = (st_a σ 2 x1.toNatClampNeg) then
      some ((0 : Int32), σ)
    else
    if in_b x1 2 = true then
      if in_b x1 2 = true then
        lt_ (put_a σ 2 x1.toNatClampNeg ((st_a σ 2 x1.toNatClampNeg) - (1 : Int32))) fun s3 =>
        f_X7_goes_n53 x1 x2 fuel s3 y3
      else none
    else none
  else none
set_option maxRecDepth 100000 in
set_option maxHeartbeats 4000000 in
theorem t_X7_goes_n28 {Γ : St → Nat → List (Nat × Value) → List Value → Prop} {l : Launch} {a : Nat → Nat} {r : Int32} {t' : St} (hC : Cx Γ l cX7_goes RX7 5 (some .boolean) Rm_X7_goes wM a (some (.int r)) t') (x1 : Int32) (x2 : Int32) (σ : St) (y3 : Int32) (h : f_X7_goes_n28 x1 x2 σ y3 = some (r, t')) : Γ σ 28 [(0, .ref (a 0)), (1, .int x1), (3, .int y3)] [] := by
  unfold f_X7_goes_n28 at h
  refine r_iload_n hC dX7_goes_28 rfl 2 rfl ?_
  refine r_aload_n hC dX7_goes_29 rfl 0 rfl ?_
  refine G7_60 hC dX7_goes_30 ?_
  refine r_iload_n hC dX7_goes_33 rfl 1 rfl ?_
  obtain ⟨hi, h⟩ := inb_of h
  refine L_m_many hC hi dX7_goes_34 ?_
  refine r_icmp_ne hC 40 dX7_goes_35 (by decide) (fun q => ?_) (fun q => ?_)
  · replace h := if_n q h
    refine r_aload_n hC dX7_goes_40 rfl 0 rfl ?_
    refine G7_60 hC dX7_goes_41 ?_
    refine r_iload_n hC dX7_goes_44 rfl 1 rfl ?_
    refine r_dup2 hC dX7_goes_45 rfl rfl ?_
    obtain ⟨hi, h⟩ := inb_of h
    refine L_m_many hC hi dX7_goes_46 ?_
    refine r_iconst (v := 1) hC dX7_goes_47 (by decide) ?_
    refine r_isub hC dX7_goes_48 ?_
    obtain ⟨hi, h⟩ := inb_of h
    obtain ⟨s3, es3, h⟩ := lt_of h
    refine S_m_many hC es3 hi dX7_goes_49 ?_
    refine r_iload_n hC dX7_goes_50 rfl 2 rfl ?_
    refine r_istore (lv' := [(4, .int y3), (0, .ref (a 0)), (1, .int x1), (3, .int y3)]) hC dX7_goes_51 (by decide) rfl rfl ?_
    refine r_sub hC [1, 2, 0] rfl ?_
    exact t_X7_goes_n53 hC x1 x2 fuel s3 y3 h
  · replace h := if_p q h
    refine r_iconst (v := 0) hC dX7_goes_38 (by decide) ?_
    exact r_zretS hC rfl dX7_goes_39 h
def f_X7_goes_n2_b (x1 : Int32) (x2 : Int32) (self : St → Int32 → Option (Int32 × St)) (σ : St) (y3 : Int32) : Option (Int32 × St) :=
  if in_b x1 2 = true then
    if (st_a σ 2 x1.toNatClampNeg) ≤ y3 then
      f_X7_goes_n28 x1 x2 σ y3
    else
    (f_X7_at σ x1 y3).bind fun v1 =>
    if v1 = x2 then
      f_X7_goes_n28 x1 x2 σ y3
    else
    lt_ (y3 + (1 : Int32)) fun v2 =>
    self σ v2
  else none
def f_X7_goes_n2 (x1 : Int32) (x2 : Int32) : Nat → St → Int32 → Option (Int32 × St)
  | 0 => fun _ _ => none
  | n + 1 => fun σ y3 => f_X7_goes_n2_b x1 x2  (f_X7_goes_n2 x1 x2  n) σ y3
set_option maxRecDepth 100000 in
set_option maxHeartbeats 4000000 in
theorem t_X7_goes_n2_b {Γ : St → Nat → List (Nat × Value) → List Value → Prop} {l : Launch} {a : Nat → Nat} {r : Int32} {t' : St} (hC : Cx Γ l cX7_goes RX7 5 (some .boolean) Rm_X7_goes wM a (some (.int r)) t') (x1 : Int32) (x2 : Int32) (self : St → Int32 → Option (Int32 × St)) (hself : ∀ (σ : St) (y3 : Int32), self σ y3 = some (r, t') → Γ σ 2 [(0, .ref (a 0)), (1, .int x1), (2, .int x2), (3, .int y3)] []) (σ : St) (y3 : Int32) (h : f_X7_goes_n2_b x1 x2 self σ y3 = some (r, t')) : Γ σ 2 [(0, .ref (a 0)), (1, .int x1), (2, .int x2), (3, .int y3)] [] := by
  unfold f_X7_goes_n2_b at h
  refine r_iload_n hC dX7_goes_2 rfl 3 rfl ?_
  refine r_aload_n hC dX7_goes_3 rfl 0 rfl ?_
  refine G7_60 hC dX7_goes_4 ?_
  refine r_iload_n hC dX7_goes_7 rfl 1 rfl ?_
  obtain ⟨hi, h⟩ := inb_of h
  refine L_m_many hC hi dX7_goes_8 ?_
  refine r_icmp_ge hC 28 dX7_goes_9 (by decide) (fun q => ?_) (fun q => ?_)
  · replace h := if_p q h
    refine r_sub hC [0, 1, 3] rfl ?_
    exact t_X7_goes_n28 hC x1 x2 σ y3 h
  · replace h := if_n q h
    refine r_aload_n hC dX7_goes_12 rfl 0 rfl ?_
    refine r_iload_n hC dX7_goes_13 rfl 1 rfl ?_
    refine r_iload_n hC dX7_goes_14 rfl 3 rfl ?_
    obtain ⟨v1, hv1, h⟩ := bind_of h
    refine r_callV (As := [.int x1, .int y3]) (rest := []) hC (con_X7_at l σ x1 y3 hv1) K7_106 (ob7 a σ) rfl rfl rfl rfl ⟨Nat.le_of_ble_eq_true rfl, Nat.le_of_ble_eq_true rfl⟩ (Nat.le_of_ble_eq_true rfl) dX7_goes_15 ?_
    refine r_iload_n hC dX7_goes_18 rfl 2 rfl ?_
    refine r_icmp_eq hC 28 dX7_goes_19 (by decide) (fun q => ?_) (fun q => ?_)
    · replace h := if_p q h
      refine r_sub hC [0, 1, 3] rfl ?_
      exact t_X7_goes_n28 hC x1 x2 σ y3 h
    · replace h := if_n q h
      obtain ⟨v2, ev2, h⟩ := lt_of h
      refine r_iinc (c1 := 1) (lv' := [(3, .int v2), (0, .ref (a 0)), (1, .int x1), (2, .int x2)]) hC dX7_goes_22 3 rfl (by decide) (by decide) ev2 rfl ?_
      refine r_goto hC 2 dX7_goes_25 (by decide) ?_
      refine r_sub hC [1, 2, 3, 0] rfl ?_
      exact hself σ v2 h
set_option maxRecDepth 100000 in
set_option maxHeartbeats 4000000 in
theorem t_X7_goes_n2 {Γ : St → Nat → List (Nat × Value) → List Value → Prop} {l : Launch} {a : Nat → Nat} {r : Int32} {t' : St} (hC : Cx Γ l cX7_goes RX7 5 (some .boolean) Rm_X7_goes wM a (some (.int r)) t') (x1 : Int32) (x2 : Int32) (n : Nat) : ∀ (σ : St) (y3 : Int32), f_X7_goes_n2 x1 x2 n σ y3 = some (r, t') → Γ σ 2 [(0, .ref (a 0)), (1, .int x1), (2, .int x2), (3, .int y3)] [] := by
  induction n with
  | zero =>
    intro σ y3  h
    have h : (none : Option (Int32 × St)) = some (r, t') := h
    cases h
  | succ n ih =>
    intro σ y3  h
    exact t_X7_goes_n2_b hC x1 x2    (f_X7_goes_n2 x1 x2  n) ih σ y3  h
def f_X7_goes (σ : St) (x1 : Int32) (x2 : Int32) : Option (Int32 × St) :=
  f_X7_goes_n2 x1 x2 fuel σ (0 : Int32)
set_option maxRecDepth 100000 in
set_option maxHeartbeats 4000000 in
theorem con_X7_goes (l : Launch) (σ : St) (x1 : Int32) (x2 : Int32) {r : Int32} {t' : St} (h : f_X7_goes σ x1 x2 = some (r, t')) : Con l yX7_goes cX7_goes 5 (some .boolean) Rm_X7_goes wM (fun a => [.ref (a 0), .int x1, .int x2]) σ (fun _ => some (.int r)) t' := by
  refine con_of (by decide) ⟨rfl, rfl⟩ (fun _ => Nat.le_of_ble_eq_true rfl) (fun Γ a hC => ?_)
  have hC : Cx Γ l cX7_goes RX7 5 (some .boolean) Rm_X7_goes wM a (some (.int r)) t' := hC
  show Γ σ 0 [(0, .ref (a 0)), (1, .int x1), (2, .int x2)] []
  unfold f_X7_goes at h
  refine r_iconst (v := 0) hC dX7_goes_0 (by decide) ?_
  refine r_istore_n (lv' := [(3, .int (0 : Int32)), (0, .ref (a 0)), (1, .int x1), (2, .int x2)]) hC dX7_goes_1 rfl (by decide) rfl rfl ?_
  refine r_sub hC [1, 2, 3, 0] rfl ?_
  exact t_X7_goes_n2 hC x1 x2 fuel σ (0 : Int32) h
abbrev Rm_X7_halves : Room := { frames := 2, cells := 0, slots := 0, locals := 45 }
def f_X7_halves (σ : St) (x1 : Int32) : Option (Int32 × St) :=
  lt_ (put_i σ 0 (0 : Int32)) fun s1 =>
  if (f_X7_isFile s1 x1) = 0 then
    some ((-1 : Int32), s1)
  else
  if in_b x1 2 = true then
    if (st_a s1 1 x1.toNatClampNeg) = (3 : Int32) then
      some ((-2 : Int32), s1)
    else
    if in_b x1 2 = true then
      (f_X7_slots s1 x1).bind fun v2 =>
      if (st_a s1 2 x1.toNatClampNeg) ≤ ((v2 / (2 : Int32)) - (1 : Int32)) then
        if in_b x1 2 = true then
          if in_b x1 2 = true then
            lt_ (put_a s1 1 x1.toNatClampNeg ((st_a s1 1 x1.toNatClampNeg) - (1 : Int32))) fun s3 =>
            (f_X7_slots s3 x1).bind fun v4 =>
            some (v4, s3)
          else none
        else none
      else
      some ((-5 : Int32), s1)
    else none
  else none
set_option maxRecDepth 100000 in
set_option maxHeartbeats 4000000 in
theorem con_X7_halves (l : Launch) (σ : St) (x1 : Int32) {r : Int32} {t' : St} (h : f_X7_halves σ x1 = some (r, t')) : Con l yX7_halves cX7_halves 2 (some .int) Rm_X7_halves wM (fun a => [.ref (a 0), .int x1]) σ (fun _ => some (.int r)) t' := by
  refine con_of (by decide) ⟨rfl, rfl⟩ (fun _ => Nat.le_of_ble_eq_true rfl) (fun Γ a hC => ?_)
  have hC : Cx Γ l cX7_halves RX7 2 (some .int) Rm_X7_halves wM a (some (.int r)) t' := hC
  show Γ σ 0 [(0, .ref (a 0)), (1, .int x1)] []
  unfold f_X7_halves at h
  refine r_aload_n hC dX7_halves_0 rfl 0 rfl ?_
  refine r_iconst (v := 0) hC dX7_halves_1 (by decide) ?_
  obtain ⟨s1, es1, h⟩ := lt_of h
  refine P7_1 hC es1 dX7_halves_2 ?_
  refine r_iload_n hC dX7_halves_5 rfl 1 rfl ?_
  refine r_callS (As := [.int x1]) (rest := []) hC (con_X7_isFile l s1 x1 rfl) K7_136 rfl rfl rfl ⟨Nat.le_of_ble_eq_true rfl, Nat.le_of_ble_eq_true rfl⟩ (Nat.le_of_ble_eq_true rfl) dX7_halves_6 ?_
  refine r_if_ne hC 14 dX7_halves_9 (by decide) (fun q => ?_) (fun q => ?_)
  · replace h := if_n q h
    refine r_aload_n hC dX7_halves_14 rfl 0 rfl ?_
    refine G7_57 hC dX7_halves_15 ?_
    refine r_iload_n hC dX7_halves_18 rfl 1 rfl ?_
    obtain ⟨hi, h⟩ := inb_of h
    refine L_m_q hC hi dX7_halves_19 ?_
    refine r_iconst (v := 3) hC dX7_halves_20 (by decide) ?_
    refine r_icmp_ne hC 27 dX7_halves_21 (by decide) (fun q => ?_) (fun q => ?_)
    · replace h := if_n q h
      refine r_aload_n hC dX7_halves_27 rfl 0 rfl ?_
      refine G7_60 hC dX7_halves_28 ?_
      refine r_iload_n hC dX7_halves_31 rfl 1 rfl ?_
      obtain ⟨hi, h⟩ := inb_of h
      refine L_m_many hC hi dX7_halves_32 ?_
      refine r_aload_n hC dX7_halves_33 rfl 0 rfl ?_
      refine r_iload_n hC dX7_halves_34 rfl 1 rfl ?_
      obtain ⟨v2, hv2, h⟩ := bind_of h
      refine r_callV (As := [.int x1]) (rest := [.int (st_a s1 2 x1.toNatClampNeg)]) hC (con_X7_slots l s1 x1 hv2) K7_121 (ob7 a s1) rfl rfl rfl rfl ⟨Nat.le_of_ble_eq_true rfl, Nat.le_of_ble_eq_true rfl⟩ (Nat.le_of_ble_eq_true rfl) dX7_halves_35 ?_
      refine r_iconst (v := 2) hC dX7_halves_38 (by decide) ?_
      refine r_idiv hC dX7_halves_39 (by decide) ?_
      refine r_iconst (v := 1) hC dX7_halves_40 (by decide) ?_
      refine r_isub hC dX7_halves_41 ?_
      refine r_icmp_le hC 48 dX7_halves_42 (by decide) (fun q => ?_) (fun q => ?_)
      · replace h := if_p q h
        refine r_aload_n hC dX7_halves_48 rfl 0 rfl ?_
        refine G7_57 hC dX7_halves_49 ?_
        refine r_iload_n hC dX7_halves_52 rfl 1 rfl ?_
        refine r_dup2 hC dX7_halves_53 rfl rfl ?_
        obtain ⟨hi, h⟩ := inb_of h
        refine L_m_q hC hi dX7_halves_54 ?_
        refine r_iconst (v := 1) hC dX7_halves_55 (by decide) ?_
        refine r_isub hC dX7_halves_56 ?_
        obtain ⟨hi, h⟩ := inb_of h
        obtain ⟨s3, es3, h⟩ := lt_of h
        refine S_m_q hC es3 hi dX7_halves_57 ?_
        refine r_aload_n hC dX7_halves_58 rfl 0 rfl ?_
        refine r_iload_n hC dX7_halves_59 rfl 1 rfl ?_
        obtain ⟨v4, hv4, h⟩ := bind_of h
        refine r_callV (As := [.int x1]) (rest := []) hC (con_X7_slots l s3 x1 hv4) K7_121 (ob7 a s3) rfl rfl rfl rfl ⟨Nat.le_of_ble_eq_true rfl, Nat.le_of_ble_eq_true rfl⟩ (Nat.le_of_ble_eq_true rfl) dX7_halves_60 ?_
        exact r_iretS hC dX7_halves_63 h
      · replace h := if_n q h
        refine r_bipush (v := -5) hC dX7_halves_45 (by decide) ?_
        exact r_iretS hC dX7_halves_47 h
    · replace h := if_p q h
      refine r_bipush (v := -2) hC dX7_halves_24 (by decide) ?_
      exact r_iretS hC dX7_halves_26 h
  · replace h := if_p q h
    refine r_iconst (v := -1) hC dX7_halves_12 (by decide) ?_
    exact r_iretS hC dX7_halves_13 h
abbrev Rm_X7_has : Room := { frames := 3, cells := 0, slots := 0, locals := 67 }
def f_X7_has (σ : St) (x1 : Int32) (x2 : Int32) : Option (Int32 × St) :=
  lt_ (put_i σ 0 (0 : Int32)) fun s1 =>
  if (f_X7_isFile s1 x1) = 0 then
    some ((-1 : Int32), s1)
  else
  if (f_X7_isKey s1 x2) = 0 then
    some ((-1 : Int32), s1)
  else
  lt_ (put_i s1 1 (0 : Int32)) fun s2 =>
  (f_X7_looksFor s2 x1 (f_X7_printOf s2 x2)).bind fun v3 =>
  (f_X7_enters s2 (v3.toInt64)).bind fun s4 =>
  (f_X7_countOf s4 x1 (f_X7_printOf s4 x2)).bind fun v5 =>
  some (v5, s4)
set_option maxRecDepth 100000 in
set_option maxHeartbeats 4000000 in
theorem con_X7_has (l : Launch) (σ : St) (x1 : Int32) (x2 : Int32) {r : Int32} {t' : St} (h : f_X7_has σ x1 x2 = some (r, t')) : Con l yX7_has cX7_has 3 (some .int) Rm_X7_has wM (fun a => [.ref (a 0), .int x1, .int x2]) σ (fun _ => some (.int r)) t' := by
  refine con_of (by decide) ⟨rfl, rfl⟩ (fun _ => Nat.le_of_ble_eq_true rfl) (fun Γ a hC => ?_)
  have hC : Cx Γ l cX7_has RX7 3 (some .int) Rm_X7_has wM a (some (.int r)) t' := hC
  show Γ σ 0 [(0, .ref (a 0)), (1, .int x1), (2, .int x2)] []
  unfold f_X7_has at h
  refine r_aload_n hC dX7_has_0 rfl 0 rfl ?_
  refine r_iconst (v := 0) hC dX7_has_1 (by decide) ?_
  obtain ⟨s1, es1, h⟩ := lt_of h
  refine P7_1 hC es1 dX7_has_2 ?_
  refine r_iload_n hC dX7_has_5 rfl 1 rfl ?_
  refine r_callS (As := [.int x1]) (rest := []) hC (con_X7_isFile l s1 x1 rfl) K7_136 rfl rfl rfl ⟨Nat.le_of_ble_eq_true rfl, Nat.le_of_ble_eq_true rfl⟩ (Nat.le_of_ble_eq_true rfl) dX7_has_6 ?_
  refine r_if_eq hC 19 dX7_has_9 (by decide) (fun q => ?_) (fun q => ?_)
  · replace h := if_p q h
    refine r_iconst (v := -1) hC dX7_has_19 (by decide) ?_
    exact r_iretS hC dX7_has_20 h
  · replace h := if_n q h
    refine r_iload_n hC dX7_has_12 rfl 2 rfl ?_
    refine r_callS (As := [.int x2]) (rest := []) hC (con_X7_isKey l s1 x2 rfl) K7_139 rfl rfl rfl ⟨Nat.le_of_ble_eq_true rfl, Nat.le_of_ble_eq_true rfl⟩ (Nat.le_of_ble_eq_true rfl) dX7_has_13 ?_
    refine r_if_ne hC 21 dX7_has_16 (by decide) (fun q => ?_) (fun q => ?_)
    · replace h := if_n q h
      refine r_aload_n hC dX7_has_21 rfl 0 rfl ?_
      refine r_iconst (v := 0) hC dX7_has_22 (by decide) ?_
      obtain ⟨s2, es2, h⟩ := lt_of h
      refine P7_11 hC es2 dX7_has_23 ?_
      refine r_aload_n hC dX7_has_26 rfl 0 rfl ?_
      refine r_aload_n hC dX7_has_27 rfl 0 rfl ?_
      refine r_iload_n hC dX7_has_28 rfl 1 rfl ?_
      refine r_aload_n hC dX7_has_29 rfl 0 rfl ?_
      refine r_iload_n hC dX7_has_30 rfl 2 rfl ?_
      refine r_callV (As := [.int x2]) (rest := [.int x1, .ref (a 0), .ref (a 0)]) hC (con_X7_printOf l s2 x2 rfl) K7_142 (ob7 a s2) rfl rfl rfl rfl ⟨Nat.le_of_ble_eq_true rfl, Nat.le_of_ble_eq_true rfl⟩ (Nat.le_of_ble_eq_true rfl) dX7_has_31 ?_
      obtain ⟨v3, hv3, h⟩ := bind_of h
      refine r_callV (As := [.int x1, .int (f_X7_printOf s2 x2)]) (rest := [.ref (a 0)]) hC (con_X7_looksFor l s2 x1 (f_X7_printOf s2 x2) hv3) K7_176 (ob7 a s2) rfl rfl rfl rfl ⟨Nat.le_of_ble_eq_true rfl, Nat.le_of_ble_eq_true rfl⟩ (Nat.le_of_ble_eq_true rfl) dX7_has_34 ?_
      refine r_i2l hC dX7_has_37 ?_
      obtain ⟨s4, hs4, h⟩ := bind_of h
      refine r_callV (As := [.long (v3.toInt64)]) (rest := []) hC (con_X7_enters l s2 (v3.toInt64) hs4) K7_145 (ob7 a s2) rfl rfl rfl rfl ⟨Nat.le_of_ble_eq_true rfl, Nat.le_of_ble_eq_true rfl⟩ (Nat.le_of_ble_eq_true rfl) dX7_has_38 ?_
      refine r_aload_n hC dX7_has_41 rfl 0 rfl ?_
      refine r_iload_n hC dX7_has_42 rfl 1 rfl ?_
      refine r_aload_n hC dX7_has_43 rfl 0 rfl ?_
      refine r_iload_n hC dX7_has_44 rfl 2 rfl ?_
      refine r_callV (As := [.int x2]) (rest := [.int x1, .ref (a 0)]) hC (con_X7_printOf l s4 x2 rfl) K7_142 (ob7 a s4) rfl rfl rfl rfl ⟨Nat.le_of_ble_eq_true rfl, Nat.le_of_ble_eq_true rfl⟩ (Nat.le_of_ble_eq_true rfl) dX7_has_45 ?_
      obtain ⟨v5, hv5, h⟩ := bind_of h
      refine r_callV (As := [.int x1, .int (f_X7_printOf s4 x2)]) (rest := []) hC (con_X7_countOf l s4 x1 (f_X7_printOf s4 x2) hv5) K7_173 (ob7 a s4) rfl rfl rfl rfl ⟨Nat.le_of_ble_eq_true rfl, Nat.le_of_ble_eq_true rfl⟩ (Nat.le_of_ble_eq_true rfl) dX7_has_48 ?_
      exact r_iretS hC dX7_has_51 h
    · replace h := if_p q h
      refine r_iconst (v := -1) hC dX7_has_19 (by decide) ?_
      exact r_iretS hC dX7_has_20 h
abbrev Rm_X7_remainderOf : Room := { frames := 1, cells := 0, slots := 0, locals := 21 }
def f_X7_remainderOf (σ : St) (x1 : Int32) (x2 : Int32) : Option Int32 :=
  (f_X7_rest σ x1).bind fun v1 =>
  some (x2 &&& (((1 : Int32) <<< (v1 &&& 31)) - (1 : Int32)))
set_option maxRecDepth 100000 in
set_option maxHeartbeats 4000000 in
theorem con_X7_remainderOf (l : Launch) (σ : St) (x1 : Int32) (x2 : Int32) {r : Int32} (h : f_X7_remainderOf σ x1 x2 = some r) : Con l yX7_remainderOf cX7_remainderOf 3 (some .int) Rm_X7_remainderOf wM (fun a => [.ref (a 0), .int x1, .int x2]) σ (fun _ => some (.int r)) σ := by
  refine con_of (by decide) ⟨rfl, rfl⟩ (fun _ => Nat.le_of_ble_eq_true rfl) (fun Γ a hC => ?_)
  have hC : Cx Γ l cX7_remainderOf RX7 3 (some .int) Rm_X7_remainderOf wM a (some (.int r)) σ := hC
  show Γ σ 0 [(0, .ref (a 0)), (1, .int x1), (2, .int x2)] []
  unfold f_X7_remainderOf at h
  refine r_iload_n hC dX7_remainderOf_0 rfl 2 rfl ?_
  refine r_iconst (v := 1) hC dX7_remainderOf_1 (by decide) ?_
  refine r_aload_n hC dX7_remainderOf_2 rfl 0 rfl ?_
  refine r_iload_n hC dX7_remainderOf_3 rfl 1 rfl ?_
  obtain ⟨v1, hv1, h⟩ := bind_of h
  refine r_callV (As := [.int x1]) (rest := [.int (1 : Int32), .int x2]) hC (con_X7_rest l σ x1 hv1) K7_102 (ob7 a σ) rfl rfl rfl rfl ⟨Nat.le_of_ble_eq_true rfl, Nat.le_of_ble_eq_true rfl⟩ (Nat.le_of_ble_eq_true rfl) dX7_remainderOf_4 ?_
  refine r_ishl hC dX7_remainderOf_7 ?_
  refine r_iconst (v := 1) hC dX7_remainderOf_8 (by decide) ?_
  refine r_isub hC dX7_remainderOf_9 ?_
  refine r_iand hC dX7_remainderOf_10 ?_
  exact r_iretP hC dX7_remainderOf_11 h
abbrev Rm_X7_isAsTold : Room := { frames := 3, cells := 0, slots := 0, locals := 69 }
def f_X7_isAsTold_n45 (x1 : Int32) (k7 : St → Int32 → Option (Int32 × St)) (σ : St) (y2 : Int32) (w0 : Int32) : Option (Int32 × St) :=
  if in_b y2 64 = true then
    if in_b y2 64 = true then
      if (st_a σ 6 y2.toNatClampNeg) = (st_a σ 9 y2.toNatClampNeg) then
        if in_b y2 64 = true then
          if w0 = (st_a σ 10 y2.toNatClampNeg) then
            lt_ (y2 + (1 : Int32)) fun v1 =>
            k7 σ v1
          else
          some ((0 : Int32), σ)
        else none
      else
      some ((0 : Int32), σ)
    else none
  else none
set_option maxRecDepth 100000 in
set_option maxHeartbeats 4000000 in
theorem t_X7_isAsTold_n45 {Γ : St → Nat → List (Nat × Value) → List Value → Prop} {l : Launch} {a : Nat → Nat} {r : Int32} {t' : St} (hC : Cx Γ l cX7_isAsTold RX7 4 (some .boolean) Rm_X7_isAsTold wM a (some (.int r)) t') (x1 : Int32) (k7 : St → Int32 → Option (Int32 × St)) (hk7 : ∀ (σ : St) (y2 : Int32), k7 σ y2 = some (r, t') → Γ σ 7 [(0, .ref (a 0)), (1, .int x1), (2, .int y2)] []) (σ : St) (y2 : Int32) (w0 : Int32) (h : f_X7_isAsTold_n45 x1 k7 σ y2 w0 = some (r, t')) : Γ σ 45 [(0, .ref (a 0)), (1, .int x1), (2, .int y2)] [.int w0] := by
  unfold f_X7_isAsTold_n45 at h
  refine r_istore_n (lv' := [(3, .int w0), (0, .ref (a 0)), (1, .int x1), (2, .int y2)]) hC dX7_isAsTold_45 rfl (by decide) rfl rfl ?_
  refine r_aload_n hC dX7_isAsTold_46 rfl 1 rfl ?_
  refine G7_72 hC dX7_isAsTold_47 ?_
  refine r_iload_n hC dX7_isAsTold_50 rfl 3 rfl ?_
  obtain ⟨hi, h⟩ := inb_of h
  refine L_m_marks hC hi dX7_isAsTold_51 ?_
  refine r_aload_n hC dX7_isAsTold_52 rfl 1 rfl ?_
  refine G7_85 hC dX7_isAsTold_53 ?_
  refine r_iload_n hC dX7_isAsTold_56 rfl 3 rfl ?_
  obtain ⟨hi, h⟩ := inb_of h
  refine L_m_toldMarks hC hi dX7_isAsTold_57 ?_
  refine r_icmp_ne hC 71 dX7_isAsTold_58 (by decide) (fun q => ?_) (fun q => ?_)
  · replace h := if_n q h
    refine r_iconst (v := 0) hC dX7_isAsTold_71 (by decide) ?_
    exact r_zretS hC rfl dX7_isAsTold_72 h
  · replace h := if_p q h
    refine r_iload_n hC dX7_isAsTold_61 rfl 0 rfl ?_
    refine r_aload_n hC dX7_isAsTold_62 rfl 1 rfl ?_
    refine G7_88 hC dX7_isAsTold_63 ?_
    refine r_iload_n hC dX7_isAsTold_66 rfl 3 rfl ?_
    obtain ⟨hi, h⟩ := inb_of h
    refine L_m_toldRemainder hC hi dX7_isAsTold_67 ?_
    refine r_icmp_eq hC 73 dX7_isAsTold_68 (by decide) (fun q => ?_) (fun q => ?_)
    · replace h := if_p q h
      obtain ⟨v1, ev1, h⟩ := lt_of h
      refine r_iinc (c1 := 1) (lv' := [(2, .int v1), (3, .int w0), (0, .ref (a 0)), (1, .int x1)]) hC dX7_isAsTold_73 3 rfl (by decide) (by decide) ev1 rfl ?_
      refine r_goto hC 7 dX7_isAsTold_76 (by decide) ?_
      refine r_sub hC [2, 3, 0] rfl ?_
      exact hk7 σ v1 h
    · replace h := if_n q h
      refine r_iconst (v := 0) hC dX7_isAsTold_71 (by decide) ?_
      exact r_zretS hC rfl dX7_isAsTold_72 h
def f_X7_isAsTold_n7_b (x1 : Int32) (self : St → Int32 → Option (Int32 × St)) (σ : St) (y2 : Int32) : Option (Int32 × St) :=
  (f_X7_slots σ x1).bind fun v2 =>
  if v2 ≤ y2 then
    some ((1 : Int32), σ)
  else
  if in_b y2 64 = true then
    if 0 ≤ (st_a σ 5 y2.toNatClampNeg) then
      if in_b y2 64 = true then
        (f_X7_at σ x1 (st_a σ 5 y2.toNatClampNeg)).bind fun v3 =>
        (f_X7_remainderOf σ x1 v3).bind fun v4 =>
        f_X7_isAsTold_n45 x1 self σ y2 v4
      else none
    else
    f_X7_isAsTold_n45 x1 self σ y2 (0 : Int32)
  else none
def f_X7_isAsTold_n7 (x1 : Int32) : Nat → St → Int32 → Option (Int32 × St)
  | 0 => fun _ _ => none
  | n + 1 => fun σ y2 => f_X7_isAsTold_n7_b x1  (f_X7_isAsTold_n7 x1  n) σ y2
set_option maxRecDepth 100000 in
set_option maxHeartbeats 4000000 in
theorem t_X7_isAsTold_n7_b {Γ : St → Nat → List (Nat × Value) → List Value → Prop} {l : Launch} {a : Nat → Nat} {r : Int32} {t' : St} (hC : Cx Γ l cX7_isAsTold RX7 4 (some .boolean) Rm_X7_isAsTold wM a (some (.int r)) t') (x1 : Int32) (self : St → Int32 → Option (Int32 × St)) (hself : ∀ (σ : St) (y2 : Int32), self σ y2 = some (r, t') → Γ σ 7 [(0, .ref (a 0)), (1, .int x1), (2, .int y2)] []) (σ : St) (y2 : Int32) (h : f_X7_isAsTold_n7_b x1 self σ y2 = some (r, t')) : Γ σ 7 [(0, .ref (a 0)), (1, .int x1), (2, .int y2)] [] := by
  unfold f_X7_isAsTold_n7_b at h
  refine r_iload_n hC dX7_isAsTold_7 rfl 2 rfl ?_
  refine r_aload_n hC dX7_isAsTold_8 rfl 0 rfl ?_
  refine r_iload_n hC dX7_isAsTold_9 rfl 1 rfl ?_
  obtain ⟨v2, hv2, h⟩ := bind_of h
  refine r_callV (As := [.int x1]) (rest := [.int y2]) hC (con_X7_slots l σ x1 hv2) K7_121 (ob7 a σ) rfl rfl rfl rfl ⟨Nat.le_of_ble_eq_true rfl, Nat.le_of_ble_eq_true rfl⟩ (Nat.le_of_ble_eq_true rfl) dX7_isAsTold_10 ?_
  refine r_icmp_ge hC 79 dX7_isAsTold_13 (by decide) (fun q => ?_) (fun q => ?_)
  · replace h := if_p q h
    refine r_iconst (v := 1) hC dX7_isAsTold_79 (by decide) ?_
    exact r_zretS hC rfl dX7_isAsTold_80 h
  · replace h := if_n q h
    refine r_aload_n hC dX7_isAsTold_16 rfl 0 rfl ?_
    refine G7_69 hC dX7_isAsTold_17 ?_
    refine r_iload_n hC dX7_isAsTold_20 rfl 2 rfl ?_
    obtain ⟨hi, h⟩ := inb_of h
    refine L_m_holds hC hi dX7_isAsTold_21 ?_
    refine r_if_ge hC 29 dX7_isAsTold_22 (by decide) (fun q => ?_) (fun q => ?_)
    · replace h := if_p q h
      refine r_aload_n hC dX7_isAsTold_29 rfl 0 rfl ?_
      refine r_iload_n hC dX7_isAsTold_30 rfl 1 rfl ?_
      refine r_aload_n hC dX7_isAsTold_31 rfl 0 rfl ?_
      refine r_iload_n hC dX7_isAsTold_32 rfl 1 rfl ?_
      refine r_aload_n hC dX7_isAsTold_33 rfl 0 rfl ?_
      refine G7_69 hC dX7_isAsTold_34 ?_
      refine r_iload_n hC dX7_isAsTold_37 rfl 2 rfl ?_
      obtain ⟨hi, h⟩ := inb_of h
      refine L_m_holds hC hi dX7_isAsTold_38 ?_
      obtain ⟨v3, hv3, h⟩ := bind_of h
      refine r_callV (As := [.int x1, .int (st_a σ 5 y2.toNatClampNeg)]) (rest := [.int x1, .ref (a 0)]) hC (con_X7_at l σ x1 (st_a σ 5 y2.toNatClampNeg) hv3) K7_106 (ob7 a σ) rfl rfl rfl rfl ⟨Nat.le_of_ble_eq_true rfl, Nat.le_of_ble_eq_true rfl⟩ (Nat.le_of_ble_eq_true rfl) dX7_isAsTold_39 ?_
      obtain ⟨v4, hv4, h⟩ := bind_of h
      refine r_callV (As := [.int x1, .int v3]) (rest := []) hC (con_X7_remainderOf l σ x1 v3 hv4) K7_149 (ob7 a σ) rfl rfl rfl rfl ⟨Nat.le_of_ble_eq_true rfl, Nat.le_of_ble_eq_true rfl⟩ (Nat.le_of_ble_eq_true rfl) dX7_isAsTold_42 ?_
      exact t_X7_isAsTold_n45 hC x1 self hself σ y2 v4 h
    · replace h := if_n q h
      refine r_iconst (v := 0) hC dX7_isAsTold_25 (by decide) ?_
      refine r_goto hC 45 dX7_isAsTold_26 (by decide) ?_
      exact t_X7_isAsTold_n45 hC x1 self hself σ y2 (0 : Int32) h
set_option maxRecDepth 100000 in
set_option maxHeartbeats 4000000 in
theorem t_X7_isAsTold_n7 {Γ : St → Nat → List (Nat × Value) → List Value → Prop} {l : Launch} {a : Nat → Nat} {r : Int32} {t' : St} (hC : Cx Γ l cX7_isAsTold RX7 4 (some .boolean) Rm_X7_isAsTold wM a (some (.int r)) t') (x1 : Int32) (n : Nat) : ∀ (σ : St) (y2 : Int32), f_X7_isAsTold_n7 x1 n σ y2 = some (r, t') → Γ σ 7 [(0, .ref (a 0)), (1, .int x1), (2, .int y2)] [] := by
  induction n with
  | zero =>
    intro σ y2  h
    have h : (none : Option (Int32 × St)) = some (r, t') := h
    cases h
  | succ n ih =>
    intro σ y2  h
    exact t_X7_isAsTold_n7_b hC x1    (f_X7_isAsTold_n7 x1  n) ih σ y2  h
def f_X7_isAsTold (σ : St) (x1 : Int32) : Option (Int32 × St) :=
  (f_X7_lies σ x1).bind fun s5 =>
  f_X7_isAsTold_n7 x1 fuel s5 (0 : Int32)
set_option maxRecDepth 100000 in
set_option maxHeartbeats 4000000 in
theorem con_X7_isAsTold (l : Launch) (σ : St) (x1 : Int32) {r : Int32} {t' : St} (h : f_X7_isAsTold σ x1 = some (r, t')) : Con l yX7_isAsTold cX7_isAsTold 4 (some .boolean) Rm_X7_isAsTold wM (fun a => [.ref (a 0), .int x1]) σ (fun _ => some (.int r)) t' := by
  refine con_of (by decide) ⟨rfl, rfl⟩ (fun _ => Nat.le_of_ble_eq_true rfl) (fun Γ a hC => ?_)
  have hC : Cx Γ l cX7_isAsTold RX7 4 (some .boolean) Rm_X7_isAsTold wM a (some (.int r)) t' := hC
  show Γ σ 0 [(0, .ref (a 0)), (1, .int x1)] []
  unfold f_X7_isAsTold at h
  refine r_aload_n hC dX7_isAsTold_0 rfl 0 rfl ?_
  refine r_iload_n hC dX7_isAsTold_1 rfl 1 rfl ?_
  obtain ⟨s5, hs5, h⟩ := bind_of h
  refine r_callV (As := [.int x1]) (rest := []) hC (con_X7_lies l σ x1 hs5) K7_162 (ob7 a σ) rfl rfl rfl rfl ⟨Nat.le_of_ble_eq_true rfl, Nat.le_of_ble_eq_true rfl⟩ (Nat.le_of_ble_eq_true rfl) dX7_isAsTold_2 ?_
  refine r_iconst (v := 0) hC dX7_isAsTold_5 (by decide) ?_
  refine r_istore_n (lv' := [(2, .int (0 : Int32)), (0, .ref (a 0)), (1, .int x1)]) hC dX7_isAsTold_6 rfl (by decide) rfl rfl ?_
  refine r_sub hC [1, 2, 0] rfl ?_
  exact t_X7_isAsTold_n7 hC x1 fuel s5 (0 : Int32) h
abbrev Rm_X7_isRead : Room := { frames := 0, cells := 0, slots := 0, locals := 0 }
def f_X7_isRead_n2_b (σ : St) (x1 : Int32) (x2 : Int32) (self : Int32 → Option Int32) (y3 : Int32) : Option Int32 :=
  if x2 ≤ y3 then
    some (0 : Int32)
  else
  if in_b y3 80 = true then
    if (st_a σ 7 y3.toNatClampNeg) = x1 then
      some (1 : Int32)
    else
    lt_ (y3 + (1 : Int32)) fun v1 =>
    self v1
  else none
def f_X7_isRead_n2 (σ : St) (x1 : Int32) (x2 : Int32) : Nat → Int32 → Option Int32
  | 0 => fun _ => none
  | n + 1 => fun y3 => f_X7_isRead_n2_b σ x1 x2  (f_X7_isRead_n2 σ x1 x2  n) y3
set_option maxRecDepth 100000 in
set_option maxHeartbeats 4000000 in
theorem t_X7_isRead_n2_b {Γ : St → Nat → List (Nat × Value) → List Value → Prop} {l : Launch} {a : Nat → Nat} {r : Int32} {σ : St} (hC : Cx Γ l cX7_isRead RX7 4 (some .boolean) Rm_X7_isRead wM a (some (.int r)) σ) (x1 : Int32) (x2 : Int32) (self : Int32 → Option Int32) (hself : ∀ (y3 : Int32), self y3 = some r → Γ σ 2 [(0, .ref (a 0)), (1, .int x1), (2, .int x2), (3, .int y3)] []) (y3 : Int32) (h : f_X7_isRead_n2_b σ x1 x2 self y3 = some r) : Γ σ 2 [(0, .ref (a 0)), (1, .int x1), (2, .int x2), (3, .int y3)] [] := by
  unfold f_X7_isRead_n2_b at h
  refine r_iload_n hC dX7_isRead_2 rfl 3 rfl ?_
  refine r_iload_n hC dX7_isRead_3 rfl 2 rfl ?_
  refine r_icmp_ge hC 25 dX7_isRead_4 (by decide) (fun q => ?_) (fun q => ?_)
  · replace h := if_p q h
    refine r_iconst (v := 0) hC dX7_isRead_25 (by decide) ?_
    exact r_zretP hC rfl dX7_isRead_26 h
  · replace h := if_n q h
    refine r_aload_n hC dX7_isRead_7 rfl 0 rfl ?_
    refine G7_75 hC dX7_isRead_8 ?_
    refine r_iload_n hC dX7_isRead_11 rfl 3 rfl ?_
    obtain ⟨hi, h⟩ := inb_of h
    refine L_m_readKey hC hi dX7_isRead_12 ?_
    refine r_iload_n hC dX7_isRead_13 rfl 1 rfl ?_
    refine r_icmp_ne hC 19 dX7_isRead_14 (by decide) (fun q => ?_) (fun q => ?_)
    · replace h := if_n q h
      obtain ⟨v1, ev1, h⟩ := lt_of h
      refine r_iinc (c1 := 1) (lv' := [(3, .int v1), (0, .ref (a 0)), (1, .int x1), (2, .int x2)]) hC dX7_isRead_19 3 rfl (by decide) (by decide) ev1 rfl ?_
      refine r_goto hC 2 dX7_isRead_22 (by decide) ?_
      refine r_sub hC [1, 2, 3, 0] rfl ?_
      exact hself v1 h
    · replace h := if_p q h
      refine r_iconst (v := 1) hC dX7_isRead_17 (by decide) ?_
      exact r_zretP hC rfl dX7_isRead_18 h
set_option maxRecDepth 100000 in
set_option maxHeartbeats 4000000 in
theorem t_X7_isRead_n2 {Γ : St → Nat → List (Nat × Value) → List Value → Prop} {l : Launch} {a : Nat → Nat} {r : Int32} {σ : St} (hC : Cx Γ l cX7_isRead RX7 4 (some .boolean) Rm_X7_isRead wM a (some (.int r)) σ) (x1 : Int32) (x2 : Int32) (n : Nat) : ∀ (y3 : Int32), f_X7_isRead_n2 σ x1 x2 n y3 = some r → Γ σ 2 [(0, .ref (a 0)), (1, .int x1), (2, .int x2), (3, .int y3)] [] := by
  induction n with
  | zero =>
    intro y3  h
    have h : (none : Option Int32) = some r := h
    cases h
  | succ n ih =>
    intro y3  h
    exact t_X7_isRead_n2_b hC x1 x2    (f_X7_isRead_n2 σ x1 x2  n) ih y3  h
def f_X7_isRead (σ : St) (x1 : Int32) (x2 : Int32) : Option Int32 :=
  f_X7_isRead_n2 σ x1 x2 fuel (0 : Int32)
set_option maxRecDepth 100000 in
set_option maxHeartbeats 4000000 in
theorem con_X7_isRead (l : Launch) (σ : St) (x1 : Int32) (x2 : Int32) {r : Int32} (h : f_X7_isRead σ x1 x2 = some r) : Con l yX7_isRead cX7_isRead 4 (some .boolean) Rm_X7_isRead wM (fun a => [.ref (a 0), .int x1, .int x2]) σ (fun _ => some (.int r)) σ := by
  refine con_of (by decide) ⟨rfl, rfl⟩ (fun _ => Nat.le_of_ble_eq_true rfl) (fun Γ a hC => ?_)
  have hC : Cx Γ l cX7_isRead RX7 4 (some .boolean) Rm_X7_isRead wM a (some (.int r)) σ := hC
  show Γ σ 0 [(0, .ref (a 0)), (1, .int x1), (2, .int x2)] []
  unfold f_X7_isRead at h
  refine r_iconst (v := 0) hC dX7_isRead_0 (by decide) ?_
  refine r_istore_n (lv' := [(3, .int (0 : Int32)), (0, .ref (a 0)), (1, .int x1), (2, .int x2)]) hC dX7_isRead_1 rfl (by decide) rfl rfl ?_
  refine r_sub hC [1, 2, 3, 0] rfl ?_
  exact t_X7_isRead_n2 hC x1 x2 fuel (0 : Int32) h
abbrev Rm_X7_wide : Room := { frames := 1, cells := 0, slots := 0, locals := 21 }
def f_X7_wide (σ : St) (x1 : Int32) : Option Int32 :=
  (f_X7_rest σ x1).bind fun v1 =>
  some (v1 + (3 : Int32))
set_option maxRecDepth 100000 in
set_option maxHeartbeats 4000000 in
theorem con_X7_wide (l : Launch) (σ : St) (x1 : Int32) {r : Int32} (h : f_X7_wide σ x1 = some r) : Con l yX7_wide cX7_wide 2 (some .int) Rm_X7_wide wM (fun a => [.ref (a 0), .int x1]) σ (fun _ => some (.int r)) σ := by
  refine con_of (by decide) ⟨rfl, rfl⟩ (fun _ => Nat.le_of_ble_eq_true rfl) (fun Γ a hC => ?_)
  have hC : Cx Γ l cX7_wide RX7 2 (some .int) Rm_X7_wide wM a (some (.int r)) σ := hC
  show Γ σ 0 [(0, .ref (a 0)), (1, .int x1)] []
  unfold f_X7_wide at h
  refine r_aload_n hC dX7_wide_0 rfl 0 rfl ?_
  refine r_iload_n hC dX7_wide_1 rfl 1 rfl ?_
  obtain ⟨v1, hv1, h⟩ := bind_of h
  refine r_callV (As := [.int x1]) (rest := []) hC (con_X7_rest l σ x1 hv1) K7_102 (ob7 a σ) rfl rfl rfl rfl ⟨Nat.le_of_ble_eq_true rfl, Nat.le_of_ble_eq_true rfl⟩ (Nat.le_of_ble_eq_true rfl) dX7_wide_2 ?_
  refine r_iconst (v := 3) hC dX7_wide_5 (by decide) ?_
  refine r_iadd hC dX7_wide_6 ?_
  exact r_iretP hC dX7_wide_7 h
abbrev Rm_X7_isWord : Room := { frames := 2, cells := 0, slots := 0, locals := 45 }
def f_X7_isWord (σ : St) (x1 : Int32) (x2 : Int32) : Option Int32 :=
  if (f_X7_isFile σ x1) = 0 then
    some (0 : Int32)
  else
  (f_X7_wide σ x1).bind fun v1 =>
  (f_X7_slots σ x1).bind fun v2 =>
  if (f_X7_in σ (x2.toInt64) (0 : Int64) (((((v1 * v2) - (1 : Int32)) / (64 : Int32))).toInt64)) = 0 then
    some (0 : Int32)
  else
  some (1 : Int32)
set_option maxRecDepth 100000 in
set_option maxHeartbeats 4000000 in
theorem con_X7_isWord (l : Launch) (σ : St) (x1 : Int32) (x2 : Int32) {r : Int32} (h : f_X7_isWord σ x1 x2 = some r) : Con l yX7_isWord cX7_isWord 3 (some .boolean) Rm_X7_isWord wM (fun a => [.ref (a 0), .int x1, .int x2]) σ (fun _ => some (.int r)) σ := by
  refine con_of (by decide) ⟨rfl, rfl⟩ (fun _ => Nat.le_of_ble_eq_true rfl) (fun Γ a hC => ?_)
  have hC : Cx Γ l cX7_isWord RX7 3 (some .boolean) Rm_X7_isWord wM a (some (.int r)) σ := hC
  show Γ σ 0 [(0, .ref (a 0)), (1, .int x1), (2, .int x2)] []
  unfold f_X7_isWord at h
  refine r_iload_n hC dX7_isWord_0 rfl 1 rfl ?_
  refine r_callS (As := [.int x1]) (rest := []) hC (con_X7_isFile l σ x1 rfl) K7_136 rfl rfl rfl ⟨Nat.le_of_ble_eq_true rfl, Nat.le_of_ble_eq_true rfl⟩ (Nat.le_of_ble_eq_true rfl) dX7_isWord_1 ?_
  refine r_if_eq hC 37 dX7_isWord_4 (by decide) (fun q => ?_) (fun q => ?_)
  · replace h := if_p q h
    refine r_iconst (v := 0) hC dX7_isWord_37 (by decide) ?_
    exact r_zretP hC rfl dX7_isWord_38 h
  · replace h := if_n q h
    refine r_iload_n hC dX7_isWord_7 rfl 2 rfl ?_
    refine r_i2l hC dX7_isWord_8 ?_
    refine r_lconst (v := 0) hC dX7_isWord_9 (by decide) ?_
    refine r_aload_n hC dX7_isWord_10 rfl 0 rfl ?_
    refine r_iload_n hC dX7_isWord_11 rfl 1 rfl ?_
    obtain ⟨v1, hv1, h⟩ := bind_of h
    refine r_callV (As := [.int x1]) (rest := [.long (0 : Int64), .long (x2.toInt64)]) hC (con_X7_wide l σ x1 hv1) K7_211 (ob7 a σ) rfl rfl rfl rfl ⟨Nat.le_of_ble_eq_true rfl, Nat.le_of_ble_eq_true rfl⟩ (Nat.le_of_ble_eq_true rfl) dX7_isWord_12 ?_
    refine r_aload_n hC dX7_isWord_15 rfl 0 rfl ?_
    refine r_iload_n hC dX7_isWord_16 rfl 1 rfl ?_
    obtain ⟨v2, hv2, h⟩ := bind_of h
    refine r_callV (As := [.int x1]) (rest := [.int v1, .long (0 : Int64), .long (x2.toInt64)]) hC (con_X7_slots l σ x1 hv2) K7_121 (ob7 a σ) rfl rfl rfl rfl ⟨Nat.le_of_ble_eq_true rfl, Nat.le_of_ble_eq_true rfl⟩ (Nat.le_of_ble_eq_true rfl) dX7_isWord_17 ?_
    refine r_imul hC dX7_isWord_20 ?_
    refine r_iconst (v := 1) hC dX7_isWord_21 (by decide) ?_
    refine r_isub hC dX7_isWord_22 ?_
    refine r_bipush (v := 64) hC dX7_isWord_23 (by decide) ?_
    refine r_idiv hC dX7_isWord_25 (by decide) ?_
    refine r_i2l hC dX7_isWord_26 ?_
    refine r_callS (As := [.long (x2.toInt64), .long (0 : Int64), .long (((((v1 * v2) - (1 : Int32)) / (64 : Int32))).toInt64)]) (rest := []) hC (con_X7_in l σ (x2.toInt64) (0 : Int64) (((((v1 * v2) - (1 : Int32)) / (64 : Int32))).toInt64) rfl) K7_21 rfl rfl rfl ⟨Nat.le_of_ble_eq_true rfl, Nat.le_of_ble_eq_true rfl⟩ (Nat.le_of_ble_eq_true rfl) dX7_isWord_27 ?_
    refine r_if_eq hC 37 dX7_isWord_30 (by decide) (fun q => ?_) (fun q => ?_)
    · replace h := if_p q h
      refine r_iconst (v := 0) hC dX7_isWord_37 (by decide) ?_
      exact r_zretP hC rfl dX7_isWord_38 h
    · replace h := if_n q h
      refine r_iconst (v := 1) hC dX7_isWord_33 (by decide) ?_
      refine r_goto hC 38 dX7_isWord_34 (by decide) ?_
      exact r_zretP hC rfl dX7_isWord_38 h
abbrev Rm_X7_saves : Room := { frames := 1, cells := 0, slots := 0, locals := 22 }
def f_X7_saves_n22_b (x1 : Int32) (self : St → Int32 → Option St) (σ : St) (y2 : Int32) : Option St :=
  if (st_i σ 9) ≤ y2 then
    some σ
  else
  (f_X7_at σ x1 y2).bind fun v1 =>
  if in_b y2 64 = true then
    lt_ (put_a σ 11 y2.toNatClampNeg v1) fun s2 =>
    lt_ (y2 + (1 : Int32)) fun v3 =>
    self s2 v3
  else none
def f_X7_saves_n22 (x1 : Int32) : Nat → St → Int32 → Option St
  | 0 => fun _ _ => none
  | n + 1 => fun σ y2 => f_X7_saves_n22_b x1  (f_X7_saves_n22 x1  n) σ y2
set_option maxRecDepth 100000 in
set_option maxHeartbeats 4000000 in
theorem t_X7_saves_n22_b {Γ : St → Nat → List (Nat × Value) → List Value → Prop} {l : Launch} {a : Nat → Nat} {t' : St} (hC : Cx Γ l cX7_saves RX7 3 none Rm_X7_saves wM a (none) t') (x1 : Int32) (self : St → Int32 → Option St) (hself : ∀ (σ : St) (y2 : Int32), self σ y2 = some t' → Γ σ 22 [(0, .ref (a 0)), (1, .int x1), (2, .int y2)] []) (σ : St) (y2 : Int32) (h : f_X7_saves_n22_b x1 self σ y2 = some t') : Γ σ 22 [(0, .ref (a 0)), (1, .int x1), (2, .int y2)] [] := by
  unfold f_X7_saves_n22_b at h
  refine r_iload_n hC dX7_saves_22 rfl 2 rfl ?_
  refine r_aload_n hC dX7_saves_23 rfl 0 rfl ?_
  refine G7_241 hC dX7_saves_24 ?_
  refine r_icmp_ge hC 48 dX7_saves_27 (by decide) (fun q => ?_) (fun q => ?_)
  · replace h := if_p q h
    exact r_vretS hC dX7_saves_48 h
  · replace h := if_n q h
    refine r_aload_n hC dX7_saves_30 rfl 0 rfl ?_
    refine G7_91 hC dX7_saves_31 ?_
    refine r_iload_n hC dX7_saves_34 rfl 2 rfl ?_
    refine r_aload_n hC dX7_saves_35 rfl 0 rfl ?_
    refine r_iload_n hC dX7_saves_36 rfl 1 rfl ?_
    refine r_iload_n hC dX7_saves_37 rfl 2 rfl ?_
    obtain ⟨v1, hv1, h⟩ := bind_of h
    refine r_callV (As := [.int x1, .int y2]) (rest := [.int y2, .ref (a 14)]) hC (con_X7_at l σ x1 y2 hv1) K7_106 (ob7 a σ) rfl rfl rfl rfl ⟨Nat.le_of_ble_eq_true rfl, Nat.le_of_ble_eq_true rfl⟩ (Nat.le_of_ble_eq_true rfl) dX7_saves_38 ?_
    obtain ⟨hi, h⟩ := inb_of h
    obtain ⟨s2, es2, h⟩ := lt_of h
    refine S_m_was hC es2 hi dX7_saves_41 ?_
    obtain ⟨v3, ev3, h⟩ := lt_of h
    refine r_iinc (c1 := 1) (lv' := [(2, .int v3), (0, .ref (a 0)), (1, .int x1)]) hC dX7_saves_42 2 rfl (by decide) (by decide) ev3 rfl ?_
    refine r_goto hC 22 dX7_saves_45 (by decide) ?_
    refine r_sub hC [1, 2, 0] rfl ?_
    exact hself s2 v3 h
set_option maxRecDepth 100000 in
set_option maxHeartbeats 4000000 in
theorem t_X7_saves_n22 {Γ : St → Nat → List (Nat × Value) → List Value → Prop} {l : Launch} {a : Nat → Nat} {t' : St} (hC : Cx Γ l cX7_saves RX7 3 none Rm_X7_saves wM a (none) t') (x1 : Int32) (n : Nat) : ∀ (σ : St) (y2 : Int32), f_X7_saves_n22 x1 n σ y2 = some t' → Γ σ 22 [(0, .ref (a 0)), (1, .int x1), (2, .int y2)] [] := by
  induction n with
  | zero =>
    intro σ y2  h
    have h : (none : Option St) = some t' := h
    cases h
  | succ n ih =>
    intro σ y2  h
    exact t_X7_saves_n22_b hC x1    (f_X7_saves_n22 x1  n) ih σ y2  h
def f_X7_saves (σ : St) (x1 : Int32) : Option St :=
  if in_b x1 2 = true then
    lt_ (put_i σ 9 (st_a σ 2 x1.toNatClampNeg)) fun s4 =>
    if in_b x1 2 = true then
      lt_ (put_i s4 10 (st_a s4 1 x1.toNatClampNeg)) fun s5 =>
      f_X7_saves_n22 x1 fuel s5 (0 : Int32)
    else none
  else none
set_option maxRecDepth 100000 in
set_option maxHeartbeats 4000000 in
theorem con_X7_saves (l : Launch) (σ : St) (x1 : Int32) {t' : St} (h : f_X7_saves σ x1 = some t') : Con l yX7_saves cX7_saves 3 none Rm_X7_saves wM (fun a => [.ref (a 0), .int x1]) σ (fun _ => none) t' := by
  refine con_of (by decide) ⟨rfl, rfl⟩ (fun _ => Nat.le_of_ble_eq_true rfl) (fun Γ a hC => ?_)
  have hC : Cx Γ l cX7_saves RX7 3 none Rm_X7_saves wM a (none) t' := hC
  show Γ σ 0 [(0, .ref (a 0)), (1, .int x1)] []
  unfold f_X7_saves at h
  refine r_aload_n hC dX7_saves_0 rfl 0 rfl ?_
  refine r_aload_n hC dX7_saves_1 rfl 0 rfl ?_
  refine G7_60 hC dX7_saves_2 ?_
  refine r_iload_n hC dX7_saves_5 rfl 1 rfl ?_
  obtain ⟨hi, h⟩ := inb_of h
  refine L_m_many hC hi dX7_saves_6 ?_
  obtain ⟨s4, es4, h⟩ := lt_of h
  refine P7_241 hC es4 dX7_saves_7 ?_
  refine r_aload_n hC dX7_saves_10 rfl 0 rfl ?_
  refine r_aload_n hC dX7_saves_11 rfl 0 rfl ?_
  refine G7_57 hC dX7_saves_12 ?_
  refine r_iload_n hC dX7_saves_15 rfl 1 rfl ?_
  obtain ⟨hi, h⟩ := inb_of h
  refine L_m_q hC hi dX7_saves_16 ?_
  obtain ⟨s5, es5, h⟩ := lt_of h
  refine P7_244 hC es5 dX7_saves_17 ?_
  refine r_iconst (v := 0) hC dX7_saves_20 (by decide) ?_
  refine r_istore_n (lv' := [(2, .int (0 : Int32)), (0, .ref (a 0)), (1, .int x1)]) hC dX7_saves_21 rfl (by decide) rfl rfl ?_
  refine r_sub hC [1, 2, 0] rfl ?_
  exact t_X7_saves_n22 hC x1 fuel s5 (0 : Int32) h
abbrev Rm_X7_keptOf : Room := { frames := 2, cells := 0, slots := 0, locals := 46 }
def f_X7_keptOf (σ : St) (x1 : Int32) (x2 : Int32) : Option Int32 :=
  (f_X7_countOf σ (0 : Int32) x1).bind fun v1 =>
  (f_X7_countOf σ (1 : Int32) x1).bind fun v2 =>
  if x2 = 0 then
    some (if (0 : Int32) < (v1 - v2) then (v1 - v2) else (0 : Int32))
  else
  some (if v2 < v1 then v2 else v1)
set_option maxRecDepth 100000 in
set_option maxHeartbeats 4000000 in
theorem con_X7_keptOf (l : Launch) (σ : St) (x1 : Int32) (x2 : Int32) {r : Int32} (h : f_X7_keptOf σ x1 x2 = some r) : Con l yX7_keptOf cX7_keptOf 5 (some .int) Rm_X7_keptOf wM (fun a => [.ref (a 0), .int x1, .int x2]) σ (fun _ => some (.int r)) σ := by
  refine con_of (by decide) ⟨rfl, rfl⟩ (fun _ => Nat.le_of_ble_eq_true rfl) (fun Γ a hC => ?_)
  have hC : Cx Γ l cX7_keptOf RX7 5 (some .int) Rm_X7_keptOf wM a (some (.int r)) σ := hC
  show Γ σ 0 [(0, .ref (a 0)), (1, .int x1), (2, .int x2)] []
  unfold f_X7_keptOf at h
  refine r_aload_n hC dX7_keptOf_0 rfl 0 rfl ?_
  refine r_iconst (v := 0) hC dX7_keptOf_1 (by decide) ?_
  refine r_iload_n hC dX7_keptOf_2 rfl 1 rfl ?_
  obtain ⟨v1, hv1, h⟩ := bind_of h
  refine r_callV (As := [.int (0 : Int32), .int x1]) (rest := []) hC (con_X7_countOf l σ (0 : Int32) x1 hv1) K7_173 (ob7 a σ) rfl rfl rfl rfl ⟨Nat.le_of_ble_eq_true rfl, Nat.le_of_ble_eq_true rfl⟩ (Nat.le_of_ble_eq_true rfl) dX7_keptOf_3 ?_
  refine r_istore_n (lv' := [(3, .int v1), (0, .ref (a 0)), (1, .int x1), (2, .int x2)]) hC dX7_keptOf_6 rfl (by decide) rfl rfl ?_
  refine r_aload_n hC dX7_keptOf_7 rfl 1 rfl ?_
  refine r_iconst (v := 1) hC dX7_keptOf_8 (by decide) ?_
  refine r_iload_n hC dX7_keptOf_9 rfl 2 rfl ?_
  obtain ⟨v2, hv2, h⟩ := bind_of h
  refine r_callV (As := [.int (1 : Int32), .int x1]) (rest := []) hC (con_X7_countOf l σ (1 : Int32) x1 hv2) K7_173 (ob7 a σ) rfl rfl rfl rfl ⟨Nat.le_of_ble_eq_true rfl, Nat.le_of_ble_eq_true rfl⟩ (Nat.le_of_ble_eq_true rfl) dX7_keptOf_10 ?_
  refine r_istore (lv' := [(4, .int v2), (3, .int v1), (0, .ref (a 0)), (1, .int x1), (2, .int x2)]) hC dX7_keptOf_13 (by decide) rfl rfl ?_
  refine r_iload_n hC dX7_keptOf_15 rfl 4 rfl ?_
  refine r_if_eq hC 28 dX7_keptOf_16 (by decide) (fun q => ?_) (fun q => ?_)
  · replace h := if_p q h
    refine r_iconst (v := 0) hC dX7_keptOf_28 (by decide) ?_
    refine r_iload_n hC dX7_keptOf_29 rfl 1 rfl ?_
    refine r_iload hC dX7_keptOf_30 0 rfl ?_
    refine r_isub hC dX7_keptOf_32 ?_
    refine r_mmax hC dX7_keptOf_33 K7_124 ⟨Nat.le_of_ble_eq_true rfl, Nat.le_of_ble_eq_true rfl⟩ ?_
    exact r_iretP hC dX7_keptOf_36 h
  · replace h := if_n q h
    refine r_iload_n hC dX7_keptOf_19 rfl 1 rfl ?_
    refine r_iload hC dX7_keptOf_20 0 rfl ?_
    refine r_mmin hC dX7_keptOf_22 K7_278 ⟨Nat.le_of_ble_eq_true rfl, Nat.le_of_ble_eq_true rfl⟩ ?_
    refine r_goto hC 36 dX7_keptOf_25 (by decide) ?_
    exact r_iretP hC dX7_keptOf_36 h
