abbrev Rm_X7_keeps : Room := { frames := 3, cells := 0, slots := 0, locals := 70 }
def f_X7_keeps_n98_b (x1 : Int32) (k14 : St → Int32 → Int32 → Option (Int32 × St)) (self : St → Int32 → Int32 → Int32 → Int32 → Option (Int32 × St)) (σ : St) (y2 : Int32) (y3 : Int32) (y6 : Int32) (y7 : Int32) : Option (Int32 × St) :=
  if y6 ≤ y7 then
    lt_ (y3 + (1 : Int32)) fun v1 =>
    k14 σ y2 v1
  else
  if in_b y3 64 = true then
    bind2 (f_X7_goes σ (0 : Int32) (st_a σ 11 y3.toNatClampNeg)) fun v3 s2 =>
    lt_ (y2 + (f_X7_flag s2 v3)) fun v4 =>
    lt_ (y7 + (1 : Int32)) fun v5 =>
    self s2 v4 y3 y6 v5
  else none
def f_X7_keeps_n98 (x1 : Int32) (k14 : St → Int32 → Int32 → Option (Int32 × St)) : Nat → St → Int32 → Int32 → Int32 → Int32 → Option (Int32 × St)
  | 0 => fun _ _ _ _ _ => none
  | n + 1 => fun σ y2 y3 y6 y7 => f_X7_keeps_n98_b x1 k14 (f_X7_keeps_n98 x1 k14 n) σ y2 y3 y6 y7
set_option maxRecDepth 100000 in
set_option maxHeartbeats 4000000 in
theorem t_X7_keeps_n98_b {Γ : St → Nat → List (Nat × Value) → List Value → Prop} {l : Launch} {a : Nat → Nat} {r : Int32} {t' : St} (hC : Cx Γ l cX7_keeps RX7 8 (some .int) Rm_X7_keeps wM a (some (.int r)) t') (x1 : Int32) (k14 : St → Int32 → Int32 → Option (Int32 × St)) (hk14 : ∀ (σ : St) (y2 : Int32) (y3 : Int32), k14 σ y2 y3 = some (r, t') → Γ σ 14 [(0, .ref (a 0)), (1, .int x1), (2, .int y2), (3, .int y3)] []) (self : St → Int32 → Int32 → Int32 → Int32 → Option (Int32 × St)) (hself : ∀ (σ : St) (y2 : Int32) (y3 : Int32) (y6 : Int32) (y7 : Int32), self σ y2 y3 y6 y7 = some (r, t') → Γ σ 98 [(0, .ref (a 0)), (1, .int x1), (2, .int y2), (3, .int y3), (6, .int y6), (7, .int y7)] []) (σ : St) (y2 : Int32) (y3 : Int32) (y6 : Int32) (y7 : Int32) (h : f_X7_keeps_n98_b x1 k14 self σ y2 y3 y6 y7 = some (r, t')) : Γ σ 98 [(0, .ref (a 0)), (1, .int x1), (2, .int y2), (3, .int y3), (6, .int y6), (7, .int y7)] [] := by
  unfold f_X7_keeps_n98_b at h
  refine r_iload hC dX7_keeps_98 5 rfl ?_
  refine r_iload hC dX7_keeps_100 4 rfl ?_
  refine r_icmp_ge hC 128 dX7_keeps_102 (by decide) (fun q => ?_) (fun q => ?_)
  · replace h := if_p q h
    obtain ⟨v1, ev1, h⟩ := lt_of h
    refine r_iinc (c1 := 1) (lv' := [(3, .int v1), (0, .ref (a 0)), (1, .int x1), (2, .int y2), (6, .int y6), (7, .int y7)]) hC dX7_keeps_128 3 rfl (by decide) (by decide) ev1 rfl ?_
    refine r_goto hC 14 dX7_keeps_131 (by decide) ?_
    refine r_sub hC [1, 2, 3, 0] rfl ?_
    exact hk14 σ y2 v1 h
  · replace h := if_n q h
    refine r_iload_n hC dX7_keeps_105 rfl 2 rfl ?_
    refine r_aload_n hC dX7_keeps_106 rfl 0 rfl ?_
    refine r_iconst (v := 0) hC dX7_keeps_107 (by decide) ?_
    refine r_aload_n hC dX7_keeps_108 rfl 0 rfl ?_
    refine G7_91 hC dX7_keeps_109 ?_
    refine r_iload_n hC dX7_keeps_112 rfl 3 rfl ?_
    obtain ⟨hi, h⟩ := inb_of h
    refine L_m_was hC hi dX7_keeps_113 ?_
    obtain ⟨v3, s2, hs2, h⟩ := bind2_of h
    refine r_callV (As := [.int (0 : Int32), .int (st_a σ 11 y3.toNatClampNeg)]) (rest := [.int y2]) hC (con_X7_goes l σ (0 : Int32) (st_a σ 11 y3.toNatClampNeg) hs2) K7_169 (ob7 a σ) rfl rfl rfl rfl ⟨Nat.le_of_ble_eq_true rfl, Nat.le_of_ble_eq_true rfl⟩ (Nat.le_of_ble_eq_true rfl) dX7_keeps_114 ?_
    refine r_callS (As := [.int v3]) (rest := [.int y2]) hC (con_X7_flag l s2 v3 rfl) K7_109 rfl rfl rfl ⟨Nat.le_of_ble_eq_true rfl, Nat.le_of_ble_eq_true rfl⟩ (Nat.le_of_ble_eq_true rfl) dX7_keeps_117 ?_
    refine r_iadd hC dX7_keeps_120 ?_
    obtain ⟨v4, ev4, h⟩ := lt_of h
    refine r_istore_n (lv' := [(2, .int v4), (0, .ref (a 0)), (1, .int x1), (3, .int y3), (6, .int y6), (7, .int y7)]) hC dX7_keeps_121 rfl (by decide) ev4 rfl ?_
    obtain ⟨v5, ev5, h⟩ := lt_of h
    refine r_iinc (c1 := 1) (lv' := [(7, .int v5), (2, .int v4), (0, .ref (a 0)), (1, .int x1), (3, .int y3), (6, .int y6)]) hC dX7_keeps_122 5 rfl (by decide) (by decide) ev5 rfl ?_
    refine r_goto hC 98 dX7_keeps_125 (by decide) ?_
    refine r_sub hC [2, 3, 1, 4, 5, 0] rfl ?_
    exact hself s2 v4 y3 y6 v5 h
set_option maxRecDepth 100000 in
set_option maxHeartbeats 4000000 in
theorem t_X7_keeps_n98 {Γ : St → Nat → List (Nat × Value) → List Value → Prop} {l : Launch} {a : Nat → Nat} {r : Int32} {t' : St} (hC : Cx Γ l cX7_keeps RX7 8 (some .int) Rm_X7_keeps wM a (some (.int r)) t') (x1 : Int32) (k14 : St → Int32 → Int32 → Option (Int32 × St)) (hk14 : ∀ (σ : St) (y2 : Int32) (y3 : Int32), k14 σ y2 y3 = some (r, t') → Γ σ 14 [(0, .ref (a 0)), (1, .int x1), (2, .int y2), (3, .int y3)] []) (n : Nat) : ∀ (σ : St) (y2 : Int32) (y3 : Int32) (y6 : Int32) (y7 : Int32), f_X7_keeps_n98 x1 k14 n σ y2 y3 y6 y7 = some (r, t') → Γ σ 98 [(0, .ref (a 0)), (1, .int x1), (2, .int y2), (3, .int y3), (6, .int y6), (7, .int y7)] [] := by
  induction n with
  | zero =>
    intro σ y2 y3 y6 y7  h
    have h : (none : Option (Int32 × St)) = some (r, t') := h
    cases h
  | succ n ih =>
    intro σ y2 y3 y6 y7  h
    exact t_X7_keeps_n98_b hC x1  k14 hk14 (f_X7_keeps_n98 x1 k14 n) ih σ y2 y3 y6 y7  h
def f_X7_keeps_n70 (x1 : Int32) (k14 : St → Int32 → Int32 → Option (Int32 × St)) (σ : St) (y2 : Int32) (y3 : Int32) (y4 : Int32) (w0 : Int32) : Option (Int32 × St) :=
  if y4 = 0 then
    f_X7_keeps_n98 x1 k14 fuel σ y2 y3 (0 : Int32) w0
  else
  if in_b y3 64 = true then
    (f_X7_countOf σ (0 : Int32) (st_a σ 11 y3.toNatClampNeg)).bind fun v6 =>
    f_X7_keeps_n98 x1 k14 fuel σ y2 y3 v6 w0
  else none
set_option maxRecDepth 100000 in
set_option maxHeartbeats 4000000 in
theorem t_X7_keeps_n70 {Γ : St → Nat → List (Nat × Value) → List Value → Prop} {l : Launch} {a : Nat → Nat} {r : Int32} {t' : St} (hC : Cx Γ l cX7_keeps RX7 8 (some .int) Rm_X7_keeps wM a (some (.int r)) t') (x1 : Int32) (k14 : St → Int32 → Int32 → Option (Int32 × St)) (hk14 : ∀ (σ : St) (y2 : Int32) (y3 : Int32), k14 σ y2 y3 = some (r, t') → Γ σ 14 [(0, .ref (a 0)), (1, .int x1), (2, .int y2), (3, .int y3)] []) (σ : St) (y2 : Int32) (y3 : Int32) (y4 : Int32) (w0 : Int32) (h : f_X7_keeps_n70 x1 k14 σ y2 y3 y4 w0 = some (r, t')) : Γ σ 70 [(0, .ref (a 0)), (1, .int x1), (2, .int y2), (3, .int y3), (4, .int y4)] [.int w0] := by
  unfold f_X7_keeps_n70 at h
  refine r_istore (lv' := [(5, .int w0), (0, .ref (a 0)), (1, .int x1), (2, .int y2), (3, .int y3), (4, .int y4)]) hC dX7_keeps_70 (by decide) rfl rfl ?_
  refine r_iload hC dX7_keeps_72 5 rfl ?_
  refine r_if_eq hC 91 dX7_keeps_74 (by decide) (fun q => ?_) (fun q => ?_)
  · replace h := if_p q h
    refine r_iconst (v := 0) hC dX7_keeps_91 (by decide) ?_
    refine r_istore (lv' := [(6, .int (0 : Int32)), (5, .int w0), (0, .ref (a 0)), (1, .int x1), (2, .int y2), (3, .int y3), (4, .int y4)]) hC dX7_keeps_92 (by decide) rfl rfl ?_
    refine r_iload hC dX7_keeps_94 1 rfl ?_
    refine r_istore (lv' := [(7, .int w0), (6, .int (0 : Int32)), (5, .int w0), (0, .ref (a 0)), (1, .int x1), (2, .int y2), (3, .int y3), (4, .int y4)]) hC dX7_keeps_96 (by decide) rfl rfl ?_
    refine r_sub hC [3, 4, 5, 6, 1, 0] rfl ?_
    exact t_X7_keeps_n98 hC x1 k14 hk14 fuel σ y2 y3 (0 : Int32) w0 h
  · replace h := if_n q h
    refine r_aload_n hC dX7_keeps_77 rfl 1 rfl ?_
    refine r_iconst (v := 0) hC dX7_keeps_78 (by decide) ?_
    refine r_aload_n hC dX7_keeps_79 rfl 1 rfl ?_
    refine G7_91 hC dX7_keeps_80 ?_
    refine r_iload_n hC dX7_keeps_83 rfl 4 rfl ?_
    obtain ⟨hi, h⟩ := inb_of h
    refine L_m_was hC hi dX7_keeps_84 ?_
    obtain ⟨v6, hv6, h⟩ := bind_of h
    refine r_callV (As := [.int (0 : Int32), .int (st_a σ 11 y3.toNatClampNeg)]) (rest := []) hC (con_X7_countOf l σ (0 : Int32) (st_a σ 11 y3.toNatClampNeg) hv6) K7_173 (ob7 a σ) rfl rfl rfl rfl ⟨Nat.le_of_ble_eq_true rfl, Nat.le_of_ble_eq_true rfl⟩ (Nat.le_of_ble_eq_true rfl) dX7_keeps_85 ?_
    refine r_goto hC 92 dX7_keeps_88 (by decide) ?_
    refine r_istore (lv' := [(6, .int v6), (5, .int w0), (0, .ref (a 0)), (1, .int x1), (2, .int y2), (3, .int y3), (4, .int y4)]) hC dX7_keeps_92 (by decide) rfl rfl ?_
    refine r_iload hC dX7_keeps_94 1 rfl ?_
    refine r_istore (lv' := [(7, .int w0), (6, .int v6), (5, .int w0), (0, .ref (a 0)), (1, .int x1), (2, .int y2), (3, .int y3), (4, .int y4)]) hC dX7_keeps_96 (by decide) rfl rfl ?_
    refine r_sub hC [3, 4, 5, 6, 1, 0] rfl ?_
    exact t_X7_keeps_n98 hC x1 k14 hk14 fuel σ y2 y3 v6 w0 h
def f_X7_keeps_n48 (x1 : Int32) (k14 : St → Int32 → Int32 → Option (Int32 × St)) (σ : St) (y2 : Int32) (y3 : Int32) (w0 : Int32) : Option (Int32 × St) :=
  if w0 = 0 then
    f_X7_keeps_n70 x1 k14 σ y2 y3 w0 (0 : Int32)
  else
  if in_b y3 64 = true then
    (f_X7_keptOf σ (st_a σ 11 y3.toNatClampNeg) x1).bind fun v7 =>
    f_X7_keeps_n70 x1 k14 σ y2 y3 w0 v7
  else none
set_option maxRecDepth 100000 in
set_option maxHeartbeats 4000000 in
theorem t_X7_keeps_n48 {Γ : St → Nat → List (Nat × Value) → List Value → Prop} {l : Launch} {a : Nat → Nat} {r : Int32} {t' : St} (hC : Cx Γ l cX7_keeps RX7 8 (some .int) Rm_X7_keeps wM a (some (.int r)) t') (x1 : Int32) (k14 : St → Int32 → Int32 → Option (Int32 × St)) (hk14 : ∀ (σ : St) (y2 : Int32) (y3 : Int32), k14 σ y2 y3 = some (r, t') → Γ σ 14 [(0, .ref (a 0)), (1, .int x1), (2, .int y2), (3, .int y3)] []) (σ : St) (y2 : Int32) (y3 : Int32) (w0 : Int32) (h : f_X7_keeps_n48 x1 k14 σ y2 y3 w0 = some (r, t')) : Γ σ 48 [(0, .ref (a 0)), (1, .int x1), (2, .int y2), (3, .int y3)] [.int w0] := by
  unfold f_X7_keeps_n48 at h
  refine r_istore (lv' := [(4, .int w0), (0, .ref (a 0)), (1, .int x1), (2, .int y2), (3, .int y3)]) hC dX7_keeps_48 (by decide) rfl rfl ?_
  refine r_iload hC dX7_keeps_50 0 rfl ?_
  refine r_if_eq hC 69 dX7_keeps_52 (by decide) (fun q => ?_) (fun q => ?_)
  · replace h := if_p q h
    refine r_iconst (v := 0) hC dX7_keeps_69 (by decide) ?_
    refine r_sub hC [1, 2, 3, 4, 0] rfl ?_
    exact t_X7_keeps_n70 hC x1 k14 hk14 σ y2 y3 w0 (0 : Int32) h
  · replace h := if_n q h
    refine r_aload_n hC dX7_keeps_55 rfl 1 rfl ?_
    refine r_aload_n hC dX7_keeps_56 rfl 1 rfl ?_
    refine G7_91 hC dX7_keeps_57 ?_
    refine r_iload_n hC dX7_keeps_60 rfl 4 rfl ?_
    obtain ⟨hi, h⟩ := inb_of h
    refine L_m_was hC hi dX7_keeps_61 ?_
    refine r_iload_n hC dX7_keeps_62 rfl 2 rfl ?_
    obtain ⟨v7, hv7, h⟩ := bind_of h
    refine r_callV (As := [.int (st_a σ 11 y3.toNatClampNeg), .int x1]) (rest := []) hC (con_X7_keptOf l σ (st_a σ 11 y3.toNatClampNeg) x1 hv7) K7_287 (ob7 a σ) rfl rfl rfl rfl ⟨Nat.le_of_ble_eq_true rfl, Nat.le_of_ble_eq_true rfl⟩ (Nat.le_of_ble_eq_true rfl) dX7_keeps_63 ?_
    refine r_goto hC 70 dX7_keeps_66 (by decide) ?_
    refine r_sub hC [1, 2, 3, 4, 0] rfl ?_
    exact t_X7_keeps_n70 hC x1 k14 hk14 σ y2 y3 w0 v7 h
def f_X7_keeps_n43 (x1 : Int32) (k14 : St → Int32 → Int32 → Option (Int32 × St)) (σ : St) (y2 : Int32) (y3 : Int32) : Option (Int32 × St) :=
  f_X7_keeps_n48 x1 k14 σ y2 y3 (1 : Int32)
set_option maxRecDepth 100000 in
set_option maxHeartbeats 4000000 in
theorem t_X7_keeps_n43 {Γ : St → Nat → List (Nat × Value) → List Value → Prop} {l : Launch} {a : Nat → Nat} {r : Int32} {t' : St} (hC : Cx Γ l cX7_keeps RX7 8 (some .int) Rm_X7_keeps wM a (some (.int r)) t') (x1 : Int32) (k14 : St → Int32 → Int32 → Option (Int32 × St)) (hk14 : ∀ (σ : St) (y2 : Int32) (y3 : Int32), k14 σ y2 y3 = some (r, t') → Γ σ 14 [(0, .ref (a 0)), (1, .int x1), (2, .int y2), (3, .int y3)] []) (σ : St) (y2 : Int32) (y3 : Int32) (h : f_X7_keeps_n43 x1 k14 σ y2 y3 = some (r, t')) : Γ σ 43 [(0, .ref (a 0)), (1, .int x1), (2, .int y2), (3, .int y3)] [] := by
  unfold f_X7_keeps_n43 at h
  refine r_iconst (v := 1) hC dX7_keeps_43 (by decide) ?_
  refine r_goto hC 48 dX7_keeps_44 (by decide) ?_
  exact t_X7_keeps_n48 hC x1 k14 hk14 σ y2 y3 (1 : Int32) h
def f_X7_keeps_n14_b (x1 : Int32) (self : St → Int32 → Int32 → Option (Int32 × St)) (σ : St) (y2 : Int32) (y3 : Int32) : Option (Int32 × St) :=
  if (st_i σ 9) ≤ y3 then
    if y2 = 0 then
      some ((-2 : Int32), σ)
    else
    some (y2, σ)
  else
  if y3 = 0 then
    f_X7_keeps_n43 x1 self σ y2 y3
  else
  if in_b (y3 - (1 : Int32)) 64 = true then
    if in_b y3 64 = true then
      if (st_a σ 11 (y3 - (1 : Int32)).toNatClampNeg) = (st_a σ 11 y3.toNatClampNeg) then
        f_X7_keeps_n48 x1 self σ y2 y3 (0 : Int32)
      else
      f_X7_keeps_n43 x1 self σ y2 y3
    else none
  else none
def f_X7_keeps_n14 (x1 : Int32) : Nat → St → Int32 → Int32 → Option (Int32 × St)
  | 0 => fun _ _ _ => none
  | n + 1 => fun σ y2 y3 => f_X7_keeps_n14_b x1  (f_X7_keeps_n14 x1  n) σ y2 y3
set_option maxRecDepth 100000 in
set_option maxHeartbeats 4000000 in
theorem t_X7_keeps_n14_b {Γ : St → Nat → List (Nat × Value) → List Value → Prop} {l : Launch} {a : Nat → Nat} {r : Int32} {t' : St} (hC : Cx Γ l cX7_keeps RX7 8 (some .int) Rm_X7_keeps wM a (some (.int r)) t') (x1 : Int32) (self : St → Int32 → Int32 → Option (Int32 × St)) (hself : ∀ (σ : St) (y2 : Int32) (y3 : Int32), self σ y2 y3 = some (r, t') → Γ σ 14 [(0, .ref (a 0)), (1, .int x1), (2, .int y2), (3, .int y3)] []) (σ : St) (y2 : Int32) (y3 : Int32) (h : f_X7_keeps_n14_b x1 self σ y2 y3 = some (r, t')) : Γ σ 14 [(0, .ref (a 0)), (1, .int x1), (2, .int y2), (3, .int y3)] [] := by
  unfold f_X7_keeps_n14_b at h
  refine r_iload_n hC dX7_keeps_14 rfl 3 rfl ?_
  refine r_aload_n hC dX7_keeps_15 rfl 0 rfl ?_
  refine G7_241 hC dX7_keeps_16 ?_
  refine r_icmp_ge hC 134 dX7_keeps_19 (by decide) (fun q => ?_) (fun q => ?_)
  · replace h := if_p q h
    refine r_iload_n hC dX7_keeps_134 rfl 2 rfl ?_
    refine r_if_ne hC 141 dX7_keeps_135 (by decide) (fun q => ?_) (fun q => ?_)
    · replace h := if_n q h
      refine r_iload_n hC dX7_keeps_141 rfl 2 rfl ?_
      exact r_iretS hC dX7_keeps_142 h
    · replace h := if_p q h
      refine r_bipush (v := -2) hC dX7_keeps_138 (by decide) ?_
      exact r_iretS hC dX7_keeps_140 h
  · replace h := if_n q h
    refine r_iload_n hC dX7_keeps_22 rfl 3 rfl ?_
    refine r_if_eq hC 43 dX7_keeps_23 (by decide) (fun q => ?_) (fun q => ?_)
    · replace h := if_p q h
      exact t_X7_keeps_n43 hC x1 self hself σ y2 y3 h
    · replace h := if_n q h
      refine r_aload_n hC dX7_keeps_26 rfl 0 rfl ?_
      refine G7_91 hC dX7_keeps_27 ?_
      refine r_iload_n hC dX7_keeps_30 rfl 3 rfl ?_
      refine r_iconst (v := 1) hC dX7_keeps_31 (by decide) ?_
      refine r_isub hC dX7_keeps_32 ?_
      obtain ⟨hi, h⟩ := inb_of h
      refine L_m_was hC hi dX7_keeps_33 ?_
      refine r_aload_n hC dX7_keeps_34 rfl 0 rfl ?_
      refine G7_91 hC dX7_keeps_35 ?_
      refine r_iload_n hC dX7_keeps_38 rfl 3 rfl ?_
      obtain ⟨hi, h⟩ := inb_of h
      refine L_m_was hC hi dX7_keeps_39 ?_
      refine r_icmp_eq hC 47 dX7_keeps_40 (by decide) (fun q => ?_) (fun q => ?_)
      · replace h := if_p q h
        refine r_iconst (v := 0) hC dX7_keeps_47 (by decide) ?_
        exact t_X7_keeps_n48 hC x1 self hself σ y2 y3 (0 : Int32) h
      · replace h := if_n q h
        exact t_X7_keeps_n43 hC x1 self hself σ y2 y3 h
set_option maxRecDepth 100000 in
set_option maxHeartbeats 4000000 in
theorem t_X7_keeps_n14 {Γ : St → Nat → List (Nat × Value) → List Value → Prop} {l : Launch} {a : Nat → Nat} {r : Int32} {t' : St} (hC : Cx Γ l cX7_keeps RX7 8 (some .int) Rm_X7_keeps wM a (some (.int r)) t') (x1 : Int32) (n : Nat) : ∀ (σ : St) (y2 : Int32) (y3 : Int32), f_X7_keeps_n14 x1 n σ y2 y3 = some (r, t') → Γ σ 14 [(0, .ref (a 0)), (1, .int x1), (2, .int y2), (3, .int y3)] [] := by
  induction n with
  | zero =>
    intro σ y2 y3  h
    have h : (none : Option (Int32 × St)) = some (r, t') := h
    cases h
  | succ n ih =>
    intro σ y2 y3  h
    exact t_X7_keeps_n14_b hC x1    (f_X7_keeps_n14 x1  n) ih σ y2 y3  h
def f_X7_keeps (σ : St) (x1 : Int32) : Option (Int32 × St) :=
  lt_ (put_i σ 0 (0 : Int32)) fun s8 =>
  (f_X7_saves s8 (0 : Int32)).bind fun s9 =>
  f_X7_keeps_n14 x1 fuel s9 (0 : Int32) (0 : Int32)
set_option maxRecDepth 100000 in
set_option maxHeartbeats 4000000 in
theorem con_X7_keeps (l : Launch) (σ : St) (x1 : Int32) {r : Int32} {t' : St} (h : f_X7_keeps σ x1 = some (r, t')) : Con l yX7_keeps cX7_keeps 8 (some .int) Rm_X7_keeps wM (fun a => [.ref (a 0), .int x1]) σ (fun _ => some (.int r)) t' := by
  refine con_of (by decide) ⟨rfl, rfl⟩ (fun _ => Nat.le_of_ble_eq_true rfl) (fun Γ a hC => ?_)
  have hC : Cx Γ l cX7_keeps RX7 8 (some .int) Rm_X7_keeps wM a (some (.int r)) t' := hC
  show Γ σ 0 [(0, .ref (a 0)), (1, .int x1)] []
  unfold f_X7_keeps at h
  refine r_aload_n hC dX7_keeps_0 rfl 0 rfl ?_
  refine r_iconst (v := 0) hC dX7_keeps_1 (by decide) ?_
  obtain ⟨s8, es8, h⟩ := lt_of h
  refine P7_1 hC es8 dX7_keeps_2 ?_
  refine r_aload_n hC dX7_keeps_5 rfl 0 rfl ?_
  refine r_iconst (v := 0) hC dX7_keeps_6 (by decide) ?_
  obtain ⟨s9, hs9, h⟩ := bind_of h
  refine r_callV (As := [.int (0 : Int32)]) (rest := []) hC (con_X7_saves l s8 (0 : Int32) hs9) K7_247 (ob7 a s8) rfl rfl rfl rfl ⟨Nat.le_of_ble_eq_true rfl, Nat.le_of_ble_eq_true rfl⟩ (Nat.le_of_ble_eq_true rfl) dX7_keeps_7 ?_
  refine r_iconst (v := 0) hC dX7_keeps_10 (by decide) ?_
  refine r_istore_n (lv' := [(2, .int (0 : Int32)), (0, .ref (a 0)), (1, .int x1)]) hC dX7_keeps_11 rfl (by decide) rfl rfl ?_
  refine r_iconst (v := 0) hC dX7_keeps_12 (by decide) ?_
  refine r_istore_n (lv' := [(3, .int (0 : Int32)), (2, .int (0 : Int32)), (0, .ref (a 0)), (1, .int x1)]) hC dX7_keeps_13 rfl (by decide) rfl rfl ?_
  refine r_sub hC [2, 3, 1, 0] rfl ?_
  exact t_X7_keeps_n14 hC x1 fuel s9 (0 : Int32) (0 : Int32) h
abbrev Rm_X7_reads : Room := { frames := 0, cells := 0, slots := 0, locals := 0 }
def f_X7_reads (σ : St) : Option St :=
  lt_ (put_i σ 4 (st_i σ 2)) fun s1 =>
  lt_ (put_i s1 2 (0 : Int32)) fun s2 =>
  lt_ (put_i s2 3 (0 : Int32)) fun s3 =>
  some s3
set_option maxRecDepth 100000 in
set_option maxHeartbeats 4000000 in
theorem con_X7_reads (l : Launch) (σ : St) {t' : St} (h : f_X7_reads σ = some t') : Con l yX7_reads cX7_reads 1 none Rm_X7_reads wM (fun a => [.ref (a 0)]) σ (fun _ => none) t' := by
  refine con_of (by decide) ⟨rfl, rfl⟩ (fun _ => Nat.le_of_ble_eq_true rfl) (fun Γ a hC => ?_)
  have hC : Cx Γ l cX7_reads RX7 1 none Rm_X7_reads wM a (none) t' := hC
  show Γ σ 0 [(0, .ref (a 0))] []
  unfold f_X7_reads at h
  refine r_aload_n hC dX7_reads_0 rfl 0 rfl ?_
  refine r_aload_n hC dX7_reads_1 rfl 0 rfl ?_
  refine G7_14 hC dX7_reads_2 ?_
  obtain ⟨s1, es1, h⟩ := lt_of h
  refine P7_25 hC es1 dX7_reads_5 ?_
  refine r_aload_n hC dX7_reads_8 rfl 0 rfl ?_
  refine r_iconst (v := 0) hC dX7_reads_9 (by decide) ?_
  obtain ⟨s2, es2, h⟩ := lt_of h
  refine P7_14 hC es2 dX7_reads_10 ?_
  refine r_aload_n hC dX7_reads_13 rfl 0 rfl ?_
  refine r_iconst (v := 0) hC dX7_reads_14 (by decide) ?_
  obtain ⟨s3, es3, h⟩ := lt_of h
  refine P7_28 hC es3 dX7_reads_15 ?_
  exact r_vretS hC dX7_reads_18 h
abbrev Rm_X7_wouldDouble : Room := { frames := 1, cells := 0, slots := 0, locals := 21 }
def f_X7_wouldDouble (σ : St) (x1 : Int32) : Option Int32 :=
  if in_b x1 2 = true then
    (f_X7_slots σ x1).bind fun v1 =>
    if ((100 : Int32) * ((st_a σ 2 x1.toNatClampNeg) + (1 : Int32))) ≤ ((st_i σ 7) * v1) then
      some (0 : Int32)
    else
    (f_X7_canDouble σ x1).bind fun v2 =>
    if v2 = 0 then
      some (0 : Int32)
    else
    some (1 : Int32)
  else none
set_option maxRecDepth 100000 in
set_option maxHeartbeats 4000000 in
theorem con_X7_wouldDouble (l : Launch) (σ : St) (x1 : Int32) {r : Int32} (h : f_X7_wouldDouble σ x1 = some r) : Con l yX7_wouldDouble cX7_wouldDouble 2 (some .boolean) Rm_X7_wouldDouble wM (fun a => [.ref (a 0), .int x1]) σ (fun _ => some (.int r)) σ := by
  refine con_of (by decide) ⟨rfl, rfl⟩ (fun _ => Nat.le_of_ble_eq_true rfl) (fun Γ a hC => ?_)
  have hC : Cx Γ l cX7_wouldDouble RX7 2 (some .boolean) Rm_X7_wouldDouble wM a (some (.int r)) σ := hC
  show Γ σ 0 [(0, .ref (a 0)), (1, .int x1)] []
  unfold f_X7_wouldDouble at h
  refine r_bipush (v := 100) hC dX7_wouldDouble_0 (by decide) ?_
  refine r_aload_n hC dX7_wouldDouble_2 rfl 0 rfl ?_
  refine G7_60 hC dX7_wouldDouble_3 ?_
  refine r_iload_n hC dX7_wouldDouble_6 rfl 1 rfl ?_
  obtain ⟨hi, h⟩ := inb_of h
  refine L_m_many hC hi dX7_wouldDouble_7 ?_
  refine r_iconst (v := 1) hC dX7_wouldDouble_8 (by decide) ?_
  refine r_iadd hC dX7_wouldDouble_9 ?_
  refine r_imul hC dX7_wouldDouble_10 ?_
  refine r_aload_n hC dX7_wouldDouble_11 rfl 0 rfl ?_
  refine G7_54 hC dX7_wouldDouble_12 ?_
  refine r_aload_n hC dX7_wouldDouble_15 rfl 0 rfl ?_
  refine r_iload_n hC dX7_wouldDouble_16 rfl 1 rfl ?_
  obtain ⟨v1, hv1, h⟩ := bind_of h
  refine r_callV (As := [.int x1]) (rest := [.int (st_i σ 7), .int ((100 : Int32) * ((st_a σ 2 x1.toNatClampNeg) + (1 : Int32)))]) hC (con_X7_slots l σ x1 hv1) K7_121 (ob7 a σ) rfl rfl rfl rfl ⟨Nat.le_of_ble_eq_true rfl, Nat.le_of_ble_eq_true rfl⟩ (Nat.le_of_ble_eq_true rfl) dX7_wouldDouble_17 ?_
  refine r_imul hC dX7_wouldDouble_20 ?_
  refine r_icmp_le hC 36 dX7_wouldDouble_21 (by decide) (fun q => ?_) (fun q => ?_)
  · replace h := if_p q h
    refine r_iconst (v := 0) hC dX7_wouldDouble_36 (by decide) ?_
    exact r_zretP hC rfl dX7_wouldDouble_37 h
  · replace h := if_n q h
    refine r_aload_n hC dX7_wouldDouble_24 rfl 0 rfl ?_
    refine r_iload_n hC dX7_wouldDouble_25 rfl 1 rfl ?_
    obtain ⟨v2, hv2, h⟩ := bind_of h
    refine r_callV (As := [.int x1]) (rest := []) hC (con_X7_canDouble l σ x1 hv2) K7_132 (ob7 a σ) rfl rfl rfl rfl ⟨Nat.le_of_ble_eq_true rfl, Nat.le_of_ble_eq_true rfl⟩ (Nat.le_of_ble_eq_true rfl) dX7_wouldDouble_26 ?_
    refine r_if_eq hC 36 dX7_wouldDouble_29 (by decide) (fun q => ?_) (fun q => ?_)
    · replace h := if_p q h
      refine r_iconst (v := 0) hC dX7_wouldDouble_36 (by decide) ?_
      exact r_zretP hC rfl dX7_wouldDouble_37 h
    · replace h := if_n q h
      refine r_iconst (v := 1) hC dX7_wouldDouble_32 (by decide) ?_
      refine r_goto hC 37 dX7_wouldDouble_33 (by decide) ?_
      exact r_zretP hC rfl dX7_wouldDouble_37 h
abbrev Rm_X7_putsOne : Room := { frames := 2, cells := 0, slots := 0, locals := 45 }
def f_X7_putsOne_n40 (x1 : Int32) (x2 : Int32) (σ : St) : Option (Int32 × St) :=
  (f_X7_comes σ x1 (f_X7_printOf σ x2)).bind fun s1 =>
  (f_X7_slots s1 x1).bind fun v2 =>
  some (v2, s1)
set_option maxRecDepth 100000 in
set_option maxHeartbeats 4000000 in
theorem t_X7_putsOne_n40 {Γ : St → Nat → List (Nat × Value) → List Value → Prop} {l : Launch} {a : Nat → Nat} {r : Int32} {t' : St} (hC : Cx Γ l cX7_putsOne RX7 3 (some .int) Rm_X7_putsOne wM a (some (.int r)) t') (x1 : Int32) (x2 : Int32) (σ : St) (h : f_X7_putsOne_n40 x1 x2 σ = some (r, t')) : Γ σ 40 [(0, .ref (a 0)), (1, .int x1), (2, .int x2)] [] := by
  unfold f_X7_putsOne_n40 at h
  refine r_aload_n hC dX7_putsOne_40 rfl 0 rfl ?_
  refine r_iload_n hC dX7_putsOne_41 rfl 1 rfl ?_
  refine r_aload_n hC dX7_putsOne_42 rfl 0 rfl ?_
  refine r_iload_n hC dX7_putsOne_43 rfl 2 rfl ?_
  refine r_callV (As := [.int x2]) (rest := [.int x1, .ref (a 0)]) hC (con_X7_printOf l σ x2 rfl) K7_142 (ob7 a σ) rfl rfl rfl rfl ⟨Nat.le_of_ble_eq_true rfl, Nat.le_of_ble_eq_true rfl⟩ (Nat.le_of_ble_eq_true rfl) dX7_putsOne_44 ?_
  obtain ⟨s1, hs1, h⟩ := bind_of h
  refine r_callV (As := [.int x1, .int (f_X7_printOf σ x2)]) (rest := []) hC (con_X7_comes l σ x1 (f_X7_printOf σ x2) hs1) K7_155 (ob7 a σ) rfl rfl rfl rfl ⟨Nat.le_of_ble_eq_true rfl, Nat.le_of_ble_eq_true rfl⟩ (Nat.le_of_ble_eq_true rfl) dX7_putsOne_47 ?_
  refine r_aload_n hC dX7_putsOne_50 rfl 0 rfl ?_
  refine r_iload_n hC dX7_putsOne_51 rfl 1 rfl ?_
  obtain ⟨v2, hv2, h⟩ := bind_of h
  refine r_callV (As := [.int x1]) (rest := []) hC (con_X7_slots l s1 x1 hv2) K7_121 (ob7 a s1) rfl rfl rfl rfl ⟨Nat.le_of_ble_eq_true rfl, Nat.le_of_ble_eq_true rfl⟩ (Nat.le_of_ble_eq_true rfl) dX7_putsOne_52 ?_
  exact r_iretS hC dX7_putsOne_55 h
def f_X7_putsOne (σ : St) (x1 : Int32) (x2 : Int32) : Option (Int32 × St) :=
  (f_X7_wouldDouble σ x1).bind fun v3 =>
  if v3 = 0 then
    if in_b x1 2 = true then
      (f_X7_slots σ x1).bind fun v4 =>
      if (st_a σ 2 x1.toNatClampNeg) = (v4 - (1 : Int32)) then
        some ((-5 : Int32), σ)
      else
      f_X7_putsOne_n40 x1 x2 σ
    else none
  else
  if in_b x1 2 = true then
    if in_b x1 2 = true then
      lt_ (put_a σ 1 x1.toNatClampNeg ((st_a σ 1 x1.toNatClampNeg) + (1 : Int32))) fun s5 =>
      f_X7_putsOne_n40 x1 x2 s5
    else none
  else none
set_option maxRecDepth 100000 in
set_option maxHeartbeats 4000000 in
theorem con_X7_putsOne (l : Launch) (σ : St) (x1 : Int32) (x2 : Int32) {r : Int32} {t' : St} (h : f_X7_putsOne σ x1 x2 = some (r, t')) : Con l yX7_putsOne cX7_putsOne 3 (some .int) Rm_X7_putsOne wM (fun a => [.ref (a 0), .int x1, .int x2]) σ (fun _ => some (.int r)) t' := by
  refine con_of (by decide) ⟨rfl, rfl⟩ (fun _ => Nat.le_of_ble_eq_true rfl) (fun Γ a hC => ?_)
  have hC : Cx Γ l cX7_putsOne RX7 3 (some .int) Rm_X7_putsOne wM a (some (.int r)) t' := hC
  show Γ σ 0 [(0, .ref (a 0)), (1, .int x1), (2, .int x2)] []
  unfold f_X7_putsOne at h
  refine r_aload_n hC dX7_putsOne_0 rfl 0 rfl ?_
  refine r_iload_n hC dX7_putsOne_1 rfl 1 rfl ?_
  obtain ⟨v3, hv3, h⟩ := bind_of h
  refine r_callV (As := [.int x1]) (rest := []) hC (con_X7_wouldDouble l σ x1 hv3) K7_152 (ob7 a σ) rfl rfl rfl rfl ⟨Nat.le_of_ble_eq_true rfl, Nat.le_of_ble_eq_true rfl⟩ (Nat.le_of_ble_eq_true rfl) dX7_putsOne_2 ?_
  refine r_if_eq hC 21 dX7_putsOne_5 (by decide) (fun q => ?_) (fun q => ?_)
  · replace h := if_p q h
    refine r_aload_n hC dX7_putsOne_21 rfl 0 rfl ?_
    refine G7_60 hC dX7_putsOne_22 ?_
    refine r_iload_n hC dX7_putsOne_25 rfl 1 rfl ?_
    obtain ⟨hi, h⟩ := inb_of h
    refine L_m_many hC hi dX7_putsOne_26 ?_
    refine r_aload_n hC dX7_putsOne_27 rfl 0 rfl ?_
    refine r_iload_n hC dX7_putsOne_28 rfl 1 rfl ?_
    obtain ⟨v4, hv4, h⟩ := bind_of h
    refine r_callV (As := [.int x1]) (rest := [.int (st_a σ 2 x1.toNatClampNeg)]) hC (con_X7_slots l σ x1 hv4) K7_121 (ob7 a σ) rfl rfl rfl rfl ⟨Nat.le_of_ble_eq_true rfl, Nat.le_of_ble_eq_true rfl⟩ (Nat.le_of_ble_eq_true rfl) dX7_putsOne_29 ?_
    refine r_iconst (v := 1) hC dX7_putsOne_32 (by decide) ?_
    refine r_isub hC dX7_putsOne_33 ?_
    refine r_icmp_ne hC 40 dX7_putsOne_34 (by decide) (fun q => ?_) (fun q => ?_)
    · replace h := if_n q h
      exact t_X7_putsOne_n40 hC x1 x2 σ h
    · replace h := if_p q h
      refine r_bipush (v := -5) hC dX7_putsOne_37 (by decide) ?_
      exact r_iretS hC dX7_putsOne_39 h
  · replace h := if_n q h
    refine r_aload_n hC dX7_putsOne_8 rfl 0 rfl ?_
    refine G7_57 hC dX7_putsOne_9 ?_
    refine r_iload_n hC dX7_putsOne_12 rfl 1 rfl ?_
    refine r_dup2 hC dX7_putsOne_13 rfl rfl ?_
    obtain ⟨hi, h⟩ := inb_of h
    refine L_m_q hC hi dX7_putsOne_14 ?_
    refine r_iconst (v := 1) hC dX7_putsOne_15 (by decide) ?_
    refine r_iadd hC dX7_putsOne_16 ?_
    obtain ⟨hi, h⟩ := inb_of h
    obtain ⟨s5, es5, h⟩ := lt_of h
    refine S_m_q hC es5 hi dX7_putsOne_17 ?_
    refine r_goto hC 40 dX7_putsOne_18 (by decide) ?_
    exact t_X7_putsOne_n40 hC x1 x2 s5 h
abbrev Rm_X7_lastSlot : Room := { frames := 1, cells := 0, slots := 0, locals := 22 }
def f_X7_lastSlot_n5_b (σ : St) (x1 : Int32) (x2 : Int32) (self : Int32 → Int32 → Option Int32) (y3 : Int32) (y4 : Int32) : Option Int32 :=
  if in_b x1 2 = true then
    if (st_a σ 2 x1.toNatClampNeg) ≤ y4 then
      some y3
    else
    (f_X7_at σ x1 y4).bind fun v1 =>
    if v1 = x2 then
      if in_b y4 64 = true then
        lt_ (st_a σ 4 y4.toNatClampNeg) fun v3 =>
        lt_ (y4 + (1 : Int32)) fun v4 =>
        self v3 v4
      else none
    else
    lt_ (y4 + (1 : Int32)) fun v2 =>
    self y3 v2
  else none
def f_X7_lastSlot_n5 (σ : St) (x1 : Int32) (x2 : Int32) : Nat → Int32 → Int32 → Option Int32
  | 0 => fun _ _ => none
  | n + 1 => fun y3 y4 => f_X7_lastSlot_n5_b σ x1 x2  (f_X7_lastSlot_n5 σ x1 x2  n) y3 y4
set_option maxRecDepth 100000 in
set_option maxHeartbeats 4000000 in
theorem t_X7_lastSlot_n5_b {Γ : St → Nat → List (Nat × Value) → List Value → Prop} {l : Launch} {a : Nat → Nat} {r : Int32} {σ : St} (hC : Cx Γ l cX7_lastSlot RX7 5 (some .int) Rm_X7_lastSlot wM a (some (.int r)) σ) (x1 : Int32) (x2 : Int32) (self : Int32 → Int32 → Option Int32) (hself : ∀ (y3 : Int32) (y4 : Int32), self y3 y4 = some r → Γ σ 5 [(0, .ref (a 0)), (1, .int x1), (2, .int x2), (3, .int y3), (4, .int y4)] []) (y3 : Int32) (y4 : Int32) (h : f_X7_lastSlot_n5_b σ x1 x2 self y3 y4 = some r) : Γ σ 5 [(0, .ref (a 0)), (1, .int x1), (2, .int x2), (3, .int y3), (4, .int y4)] [] := by
  unfold f_X7_lastSlot_n5_b at h
  refine r_iload hC dX7_lastSlot_5 4 rfl ?_
  refine r_aload_n hC dX7_lastSlot_7 rfl 0 rfl ?_
  refine G7_60 hC dX7_lastSlot_8 ?_
  refine r_iload_n hC dX7_lastSlot_11 rfl 1 rfl ?_
  obtain ⟨hi, h⟩ := inb_of h
  refine L_m_many hC hi dX7_lastSlot_12 ?_
  refine r_icmp_ge hC 45 dX7_lastSlot_13 (by decide) (fun q => ?_) (fun q => ?_)
  · replace h := if_p q h
    refine r_iload_n hC dX7_lastSlot_45 rfl 3 rfl ?_
    exact r_iretP hC dX7_lastSlot_46 h
  · replace h := if_n q h
    refine r_aload_n hC dX7_lastSlot_16 rfl 0 rfl ?_
    refine r_iload_n hC dX7_lastSlot_17 rfl 1 rfl ?_
    refine r_iload hC dX7_lastSlot_18 4 rfl ?_
    obtain ⟨v1, hv1, h⟩ := bind_of h
    refine r_callV (As := [.int x1, .int y4]) (rest := []) hC (con_X7_at l σ x1 y4 hv1) K7_106 (ob7 a σ) rfl rfl rfl rfl ⟨Nat.le_of_ble_eq_true rfl, Nat.le_of_ble_eq_true rfl⟩ (Nat.le_of_ble_eq_true rfl) dX7_lastSlot_20 ?_
    refine r_iload_n hC dX7_lastSlot_23 rfl 2 rfl ?_
    refine r_icmp_ne hC 37 dX7_lastSlot_24 (by decide) (fun q => ?_) (fun q => ?_)
    · replace h := if_n q h
      refine r_iload_n hC dX7_lastSlot_37 rfl 3 rfl ?_
      refine r_istore_n (lv' := [(3, .int y3), (0, .ref (a 0)), (1, .int x1), (2, .int x2), (4, .int y4)]) hC dX7_lastSlot_38 rfl (by decide) rfl rfl ?_
      obtain ⟨v2, ev2, h⟩ := lt_of h
      refine r_iinc (c1 := 1) (lv' := [(4, .int v2), (3, .int y3), (0, .ref (a 0)), (1, .int x1), (2, .int x2)]) hC dX7_lastSlot_39 4 rfl (by decide) (by decide) ev2 rfl ?_
      refine r_goto hC 5 dX7_lastSlot_42 (by decide) ?_
      refine r_sub hC [2, 3, 4, 1, 0] rfl ?_
      exact hself y3 v2 h
    · replace h := if_p q h
      refine r_aload_n hC dX7_lastSlot_27 rfl 0 rfl ?_
      refine G7_66 hC dX7_lastSlot_28 ?_
      refine r_iload hC dX7_lastSlot_31 4 rfl ?_
      obtain ⟨hi, h⟩ := inb_of h
      refine L_m_where hC hi dX7_lastSlot_33 ?_
      refine r_goto hC 38 dX7_lastSlot_34 (by decide) ?_
      obtain ⟨v3, ev3, h⟩ := lt_of h
      refine r_istore_n (lv' := [(3, .int v3), (0, .ref (a 0)), (1, .int x1), (2, .int x2), (4, .int y4)]) hC dX7_lastSlot_38 rfl (by decide) ev3 rfl ?_
      obtain ⟨v4, ev4, h⟩ := lt_of h
      refine r_iinc (c1 := 1) (lv' := [(4, .int v4), (3, .int v3), (0, .ref (a 0)), (1, .int x1), (2, .int x2)]) hC dX7_lastSlot_39 4 rfl (by decide) (by decide) ev4 rfl ?_
      refine r_goto hC 5 dX7_lastSlot_42 (by decide) ?_
      refine r_sub hC [2, 3, 4, 1, 0] rfl ?_
      exact hself v3 v4 h
set_option maxRecDepth 100000 in
set_option maxHeartbeats 4000000 in
theorem t_X7_lastSlot_n5 {Γ : St → Nat → List (Nat × Value) → List Value → Prop} {l : Launch} {a : Nat → Nat} {r : Int32} {σ : St} (hC : Cx Γ l cX7_lastSlot RX7 5 (some .int) Rm_X7_lastSlot wM a (some (.int r)) σ) (x1 : Int32) (x2 : Int32) (n : Nat) : ∀ (y3 : Int32) (y4 : Int32), f_X7_lastSlot_n5 σ x1 x2 n y3 y4 = some r → Γ σ 5 [(0, .ref (a 0)), (1, .int x1), (2, .int x2), (3, .int y3), (4, .int y4)] [] := by
  induction n with
  | zero =>
    intro y3 y4  h
    have h : (none : Option Int32) = some r := h
    cases h
  | succ n ih =>
    intro y3 y4  h
    exact t_X7_lastSlot_n5_b hC x1 x2    (f_X7_lastSlot_n5 σ x1 x2  n) ih y3 y4  h
def f_X7_lastSlot (σ : St) (x1 : Int32) (x2 : Int32) : Option Int32 :=
  f_X7_lastSlot_n5 σ x1 x2 fuel (-1 : Int32) (0 : Int32)
set_option maxRecDepth 100000 in
set_option maxHeartbeats 4000000 in
theorem con_X7_lastSlot (l : Launch) (σ : St) (x1 : Int32) (x2 : Int32) {r : Int32} (h : f_X7_lastSlot σ x1 x2 = some r) : Con l yX7_lastSlot cX7_lastSlot 5 (some .int) Rm_X7_lastSlot wM (fun a => [.ref (a 0), .int x1, .int x2]) σ (fun _ => some (.int r)) σ := by
  refine con_of (by decide) ⟨rfl, rfl⟩ (fun _ => Nat.le_of_ble_eq_true rfl) (fun Γ a hC => ?_)
  have hC : Cx Γ l cX7_lastSlot RX7 5 (some .int) Rm_X7_lastSlot wM a (some (.int r)) σ := hC
  show Γ σ 0 [(0, .ref (a 0)), (1, .int x1), (2, .int x2)] []
  unfold f_X7_lastSlot at h
  refine r_iconst (v := -1) hC dX7_lastSlot_0 (by decide) ?_
  refine r_istore_n (lv' := [(3, .int (-1 : Int32)), (0, .ref (a 0)), (1, .int x1), (2, .int x2)]) hC dX7_lastSlot_1 rfl (by decide) rfl rfl ?_
  refine r_iconst (v := 0) hC dX7_lastSlot_2 (by decide) ?_
  refine r_istore (lv' := [(4, .int (0 : Int32)), (3, .int (-1 : Int32)), (0, .ref (a 0)), (1, .int x1), (2, .int x2)]) hC dX7_lastSlot_3 (by decide) rfl rfl ?_
  refine r_sub hC [2, 3, 4, 1, 0] rfl ?_
  exact t_X7_lastSlot_n5 hC x1 x2 fuel (-1 : Int32) (0 : Int32) h
abbrev Rm_X7_takesCluster : Room := { frames := 2, cells := 0, slots := 0, locals := 45 }
def f_X7_takesCluster_n109 (x1 : Int32) (x2 : Int32) (k19 : St → Int32 → Int32 → Int32 → Int32 → Int32 → Option (Int32 × St)) (σ : St) (y3 : Int32) (y4 : Int32) (y5 : Int32) (y6 : Int32) (y7 : Int32) (y8 : Int32) : Option (Int32 × St) :=
  if y6 < 0 then
    some ((0 : Int32), σ)
  else
  if in_b x1 2 = true then
    if (st_a σ 2 x1.toNatClampNeg) = (y3 - (1 : Int32)) then
      some ((0 : Int32), σ)
    else
    if in_b y8 64 = true then
      (f_X7_comes σ x1 ((y6 <<< (((st_i σ 5) - (st_i σ 8)) &&& 31)) ||| (st_a σ 10 y8.toNatClampNeg))).bind fun s4 =>
      lt_ (y7 + (1 : Int32)) fun v5 =>
      k19 s4 y3 y4 y5 y6 v5
    else none
  else none
set_option maxRecDepth 100000 in
set_option maxHeartbeats 4000000 in
theorem t_X7_takesCluster_n109 {Γ : St → Nat → List (Nat × Value) → List Value → Prop} {l : Launch} {a : Nat → Nat} {r : Int32} {t' : St} (hC : Cx Γ l cX7_takesCluster RX7 9 (some .boolean) Rm_X7_takesCluster wM a (some (.int r)) t') (x1 : Int32) (x2 : Int32) (k19 : St → Int32 → Int32 → Int32 → Int32 → Int32 → Option (Int32 × St)) (hk19 : ∀ (σ : St) (y3 : Int32) (y4 : Int32) (y5 : Int32) (y6 : Int32) (y7 : Int32), k19 σ y3 y4 y5 y6 y7 = some (r, t') → Γ σ 19 [(0, .ref (a 0)), (1, .int x1), (2, .int x2), (3, .int y3), (4, .int y4), (5, .int y5), (6, .int y6), (7, .int y7)] []) (σ : St) (y3 : Int32) (y4 : Int32) (y5 : Int32) (y6 : Int32) (y7 : Int32) (y8 : Int32) (h : f_X7_takesCluster_n109 x1 x2 k19 σ y3 y4 y5 y6 y7 y8 = some (r, t')) : Γ σ 109 [(0, .ref (a 0)), (1, .int x1), (2, .int x2), (3, .int y3), (4, .int y4), (5, .int y5), (6, .int y6), (7, .int y7), (8, .int y8)] [] := by
  unfold f_X7_takesCluster_n109 at h
  refine r_iload hC dX7_takesCluster_109 6 rfl ?_
  refine r_if_lt hC 126 dX7_takesCluster_111 (by decide) (fun q => ?_) (fun q => ?_)
  · replace h := if_p q h
    refine r_iconst (v := 0) hC dX7_takesCluster_126 (by decide) ?_
    exact r_zretS hC rfl dX7_takesCluster_127 h
  · replace h := if_n q h
    refine r_aload_n hC dX7_takesCluster_114 rfl 0 rfl ?_
    refine G7_60 hC dX7_takesCluster_115 ?_
    refine r_iload_n hC dX7_takesCluster_118 rfl 1 rfl ?_
    obtain ⟨hi, h⟩ := inb_of h
    refine L_m_many hC hi dX7_takesCluster_119 ?_
    refine r_iload_n hC dX7_takesCluster_120 rfl 3 rfl ?_
    refine r_iconst (v := 1) hC dX7_takesCluster_121 (by decide) ?_
    refine r_isub hC dX7_takesCluster_122 ?_
    refine r_icmp_ne hC 128 dX7_takesCluster_123 (by decide) (fun q => ?_) (fun q => ?_)
    · replace h := if_n q h
      refine r_aload_n hC dX7_takesCluster_128 rfl 0 rfl ?_
      refine r_iload_n hC dX7_takesCluster_129 rfl 1 rfl ?_
      refine r_iload hC dX7_takesCluster_130 6 rfl ?_
      refine r_aload_n hC dX7_takesCluster_132 rfl 0 rfl ?_
      refine G7_47 hC dX7_takesCluster_133 ?_
      refine r_aload_n hC dX7_takesCluster_136 rfl 0 rfl ?_
      refine G7_221 hC dX7_takesCluster_137 ?_
      refine r_isub hC dX7_takesCluster_140 ?_
      refine r_ishl hC dX7_takesCluster_141 ?_
      refine r_aload_n hC dX7_takesCluster_142 rfl 0 rfl ?_
      refine G7_88 hC dX7_takesCluster_143 ?_
      refine r_iload hC dX7_takesCluster_146 8 rfl ?_
      obtain ⟨hi, h⟩ := inb_of h
      refine L_m_toldRemainder hC hi dX7_takesCluster_148 ?_
      refine r_ior hC dX7_takesCluster_149 ?_
      obtain ⟨s4, hs4, h⟩ := bind_of h
      refine r_callV (As := [.int x1, .int ((y6 <<< (((st_i σ 5) - (st_i σ 8)) &&& 31)) ||| (st_a σ 10 y8.toNatClampNeg))]) (rest := []) hC (con_X7_comes l σ x1 ((y6 <<< (((st_i σ 5) - (st_i σ 8)) &&& 31)) ||| (st_a σ 10 y8.toNatClampNeg)) hs4) K7_155 (ob7 a σ) rfl rfl rfl rfl ⟨Nat.le_of_ble_eq_true rfl, Nat.le_of_ble_eq_true rfl⟩ (Nat.le_of_ble_eq_true rfl) dX7_takesCluster_150 ?_
      obtain ⟨v5, ev5, h⟩ := lt_of h
      refine r_iinc (c1 := 1) (lv' := [(7, .int v5), (0, .ref (a 0)), (1, .int x1), (2, .int x2), (3, .int y3), (4, .int y4), (5, .int y5), (6, .int y6), (8, .int y8)]) hC dX7_takesCluster_153 7 rfl (by decide) (by decide) ev5 rfl ?_
      refine r_goto hC 19 dX7_takesCluster_156 (by decide) ?_
      refine r_sub hC [1, 2, 3, 4, 5, 6, 7, 0] rfl ?_
      exact hk19 s4 y3 y4 y5 y6 v5 h
    · replace h := if_p q h
      refine r_iconst (v := 0) hC dX7_takesCluster_126 (by decide) ?_
      exact r_zretS hC rfl dX7_takesCluster_127 h
def f_X7_takesCluster_n76 (x1 : Int32) (x2 : Int32) (k19 : St → Int32 → Int32 → Int32 → Int32 → Int32 → Option (Int32 × St)) (σ : St) (y3 : Int32) (y4 : Int32) (y5 : Int32) (y6 : Int32) (y7 : Int32) (y8 : Int32) : Option (Int32 × St) :=
  if in_b y8 64 = true then
    if ((st_a σ 9 y8.toNatClampNeg) &&& (2 : Int32)) = 0 then
      if y4 = y5 then
        some ((0 : Int32), σ)
      else
      if in_b y4 64 = true then
        lt_ (st_a σ 12 y4.toNatClampNeg) fun v6 =>
        lt_ (y4 + (1 : Int32)) fun v7 =>
        f_X7_takesCluster_n109 x1 x2 k19 σ y3 v7 y5 v6 y7 y8
      else none
    else
    f_X7_takesCluster_n109 x1 x2 k19 σ y3 y4 y5 y6 y7 y8
  else none
set_option maxRecDepth 100000 in
set_option maxHeartbeats 4000000 in
theorem t_X7_takesCluster_n76 {Γ : St → Nat → List (Nat × Value) → List Value → Prop} {l : Launch} {a : Nat → Nat} {r : Int32} {t' : St} (hC : Cx Γ l cX7_takesCluster RX7 9 (some .boolean) Rm_X7_takesCluster wM a (some (.int r)) t') (x1 : Int32) (x2 : Int32) (k19 : St → Int32 → Int32 → Int32 → Int32 → Int32 → Option (Int32 × St)) (hk19 : ∀ (σ : St) (y3 : Int32) (y4 : Int32) (y5 : Int32) (y6 : Int32) (y7 : Int32), k19 σ y3 y4 y5 y6 y7 = some (r, t') → Γ σ 19 [(0, .ref (a 0)), (1, .int x1), (2, .int x2), (3, .int y3), (4, .int y4), (5, .int y5), (6, .int y6), (7, .int y7)] []) (σ : St) (y3 : Int32) (y4 : Int32) (y5 : Int32) (y6 : Int32) (y7 : Int32) (y8 : Int32) (h : f_X7_takesCluster_n76 x1 x2 k19 σ y3 y4 y5 y6 y7 y8 = some (r, t')) : Γ σ 76 [(0, .ref (a 0)), (1, .int x1), (2, .int x2), (3, .int y3), (4, .int y4), (5, .int y5), (6, .int y6), (7, .int y7), (8, .int y8)] [] := by
  unfold f_X7_takesCluster_n76 at h
  refine r_aload_n hC dX7_takesCluster_76 rfl 0 rfl ?_
  refine G7_85 hC dX7_takesCluster_77 ?_
  refine r_iload hC dX7_takesCluster_80 8 rfl ?_
  obtain ⟨hi, h⟩ := inb_of h
  refine L_m_toldMarks hC hi dX7_takesCluster_82 ?_
  refine r_iconst (v := 2) hC dX7_takesCluster_83 (by decide) ?_
  refine r_iand hC dX7_takesCluster_84 ?_
  refine r_if_ne hC 109 dX7_takesCluster_85 (by decide) (fun q => ?_) (fun q => ?_)
  · replace h := if_n q h
    exact t_X7_takesCluster_n109 hC x1 x2 k19 hk19 σ y3 y4 y5 y6 y7 y8 h
  · replace h := if_p q h
    refine r_iload hC dX7_takesCluster_88 4 rfl ?_
    refine r_iload hC dX7_takesCluster_90 5 rfl ?_
    refine r_icmp_ne hC 97 dX7_takesCluster_92 (by decide) (fun q => ?_) (fun q => ?_)
    · replace h := if_n q h
      refine r_aload_n hC dX7_takesCluster_97 rfl 0 rfl ?_
      refine G7_94 hC dX7_takesCluster_98 ?_
      refine r_iload hC dX7_takesCluster_101 4 rfl ?_
      obtain ⟨hi, h⟩ := inb_of h
      refine L_m_waiting hC hi dX7_takesCluster_103 ?_
      obtain ⟨v6, ev6, h⟩ := lt_of h
      refine r_istore (lv' := [(6, .int v6), (0, .ref (a 0)), (1, .int x1), (2, .int x2), (3, .int y3), (4, .int y4), (5, .int y5), (7, .int y7), (8, .int y8)]) hC dX7_takesCluster_104 (by decide) ev6 rfl ?_
      obtain ⟨v7, ev7, h⟩ := lt_of h
      refine r_iinc (c1 := 1) (lv' := [(4, .int v7), (6, .int v6), (0, .ref (a 0)), (1, .int x1), (2, .int x2), (3, .int y3), (5, .int y5), (7, .int y7), (8, .int y8)]) hC dX7_takesCluster_106 5 rfl (by decide) (by decide) ev7 rfl ?_
      refine r_sub hC [2, 3, 4, 5, 0, 6, 1, 7, 8] rfl ?_
      exact t_X7_takesCluster_n109 hC x1 x2 k19 hk19 σ y3 v7 y5 v6 y7 y8 h
    · replace h := if_p q h
      refine r_iconst (v := 0) hC dX7_takesCluster_95 (by decide) ?_
      exact r_zretS hC rfl dX7_takesCluster_96 h
def f_X7_takesCluster_n52 (x1 : Int32) (x2 : Int32) (k19 : St → Int32 → Int32 → Int32 → Int32 → Int32 → Option (Int32 × St)) (σ : St) (y3 : Int32) (y4 : Int32) (y5 : Int32) (y6 : Int32) (y7 : Int32) (y8 : Int32) : Option (Int32 × St) :=
  if in_b y8 64 = true then
    if ((st_a σ 9 y8.toNatClampNeg) &&& (1 : Int32)) = 0 then
      f_X7_takesCluster_n76 x1 x2 k19 σ y3 y4 y5 y6 y7 y8
    else
    if in_b y5 64 = true then
      lt_ (put_a σ 12 y5.toNatClampNeg y8) fun s2 =>
      lt_ (y5 + (1 : Int32)) fun v3 =>
      f_X7_takesCluster_n76 x1 x2 k19 s2 y3 y4 v3 y6 y7 y8
    else none
  else none
set_option maxRecDepth 100000 in
set_option maxHeartbeats 4000000 in
theorem t_X7_takesCluster_n52 {Γ : St → Nat → List (Nat × Value) → List Value → Prop} {l : Launch} {a : Nat → Nat} {r : Int32} {t' : St} (hC : Cx Γ l cX7_takesCluster RX7 9 (some .boolean) Rm_X7_takesCluster wM a (some (.int r)) t') (x1 : Int32) (x2 : Int32) (k19 : St → Int32 → Int32 → Int32 → Int32 → Int32 → Option (Int32 × St)) (hk19 : ∀ (σ : St) (y3 : Int32) (y4 : Int32) (y5 : Int32) (y6 : Int32) (y7 : Int32), k19 σ y3 y4 y5 y6 y7 = some (r, t') → Γ σ 19 [(0, .ref (a 0)), (1, .int x1), (2, .int x2), (3, .int y3), (4, .int y4), (5, .int y5), (6, .int y6), (7, .int y7)] []) (σ : St) (y3 : Int32) (y4 : Int32) (y5 : Int32) (y6 : Int32) (y7 : Int32) (y8 : Int32) (h : f_X7_takesCluster_n52 x1 x2 k19 σ y3 y4 y5 y6 y7 y8 = some (r, t')) : Γ σ 52 [(0, .ref (a 0)), (1, .int x1), (2, .int x2), (3, .int y3), (4, .int y4), (5, .int y5), (6, .int y6), (7, .int y7), (8, .int y8)] [] := by
  unfold f_X7_takesCluster_n52 at h
  refine r_aload_n hC dX7_takesCluster_52 rfl 0 rfl ?_
  refine G7_85 hC dX7_takesCluster_53 ?_
  refine r_iload hC dX7_takesCluster_56 8 rfl ?_
  obtain ⟨hi, h⟩ := inb_of h
  refine L_m_toldMarks hC hi dX7_takesCluster_58 ?_
  refine r_iconst (v := 1) hC dX7_takesCluster_59 (by decide) ?_
  refine r_iand hC dX7_takesCluster_60 ?_
  refine r_if_eq hC 76 dX7_takesCluster_61 (by decide) (fun q => ?_) (fun q => ?_)
  · replace h := if_p q h
    exact t_X7_takesCluster_n76 hC x1 x2 k19 hk19 σ y3 y4 y5 y6 y7 y8 h
  · replace h := if_n q h
    refine r_aload_n hC dX7_takesCluster_64 rfl 0 rfl ?_
    refine G7_94 hC dX7_takesCluster_65 ?_
    refine r_iload hC dX7_takesCluster_68 5 rfl ?_
    refine r_iload hC dX7_takesCluster_70 8 rfl ?_
    obtain ⟨hi, h⟩ := inb_of h
    obtain ⟨s2, es2, h⟩ := lt_of h
    refine S_m_waiting hC es2 hi dX7_takesCluster_72 ?_
    obtain ⟨v3, ev3, h⟩ := lt_of h
    refine r_iinc (c1 := 1) (lv' := [(5, .int v3), (0, .ref (a 0)), (1, .int x1), (2, .int x2), (3, .int y3), (4, .int y4), (6, .int y6), (7, .int y7), (8, .int y8)]) hC dX7_takesCluster_73 5 rfl (by decide) (by decide) ev3 rfl ?_
    refine r_sub hC [1, 2, 3, 4, 5, 0, 6, 7, 8] rfl ?_
    exact t_X7_takesCluster_n76 hC x1 x2 k19 hk19 s2 y3 y4 v3 y6 y7 y8 h
def f_X7_takesCluster_n19_b (x1 : Int32) (x2 : Int32) (self : St → Int32 → Int32 → Int32 → Int32 → Int32 → Option (Int32 × St)) (σ : St) (y3 : Int32) (y4 : Int32) (y5 : Int32) (y6 : Int32) (y7 : Int32) : Option (Int32 × St) :=
  if y3 ≤ y7 then
    some ((1 : Int32), σ)
  else
  if y3 = 0 then none else
  lt_ ((x2 + y7) - (x2 + y7) / y3 * y3) fun v1 =>
  if y7 ≤ 0 then
    f_X7_takesCluster_n52 x1 x2 self σ y3 y4 y5 y6 y7 v1
  else
  if in_b v1 64 = true then
    if ((st_a σ 9 v1.toNatClampNeg) &&& (4 : Int32)) = 0 then
      some ((1 : Int32), σ)
    else
    f_X7_takesCluster_n52 x1 x2 self σ y3 y4 y5 y6 y7 v1
  else none
def f_X7_takesCluster_n19 (x1 : Int32) (x2 : Int32) : Nat → St → Int32 → Int32 → Int32 → Int32 → Int32 → Option (Int32 × St)
  | 0 => fun _ _ _ _ _ _ => none
  | n + 1 => fun σ y3 y4 y5 y6 y7 => f_X7_takesCluster_n19_b x1 x2  (f_X7_takesCluster_n19 x1 x2  n) σ y3 y4 y5 y6 y7
set_option maxRecDepth 100000 in
set_option maxHeartbeats 4000000 in
theorem t_X7_takesCluster_n19_b {Γ : St → Nat → List (Nat × Value) → List Value → Prop} {l : Launch} {a : Nat → Nat} {r : Int32} {t' : St} (hC : Cx Γ l cX7_takesCluster RX7 9 (some .boolean) Rm_X7_takesCluster wM a (some (.int r)) t') (x1 : Int32) (x2 : Int32) (self : St → Int32 → Int32 → Int32 → Int32 → Int32 → Option (Int32 × St)) (hself : ∀ (σ : St) (y3 : Int32) (y4 : Int32) (y5 : Int32) (y6 : Int32) (y7 : Int32), self σ y3 y4 y5 y6 y7 = some (r, t') → Γ σ 19 [(0, .ref (a 0)), (1, .int x1), (2, .int x2), (3, .int y3), (4, .int y4), (5, .int y5), (6, .int y6), (7, .int y7)] []) (σ : St) (y3 : Int32) (y4 : Int32) (y5 : Int32) (y6 : Int32) (y7 : Int32) (h : f_X7_takesCluster_n19_b x1 x2 self σ y3 y4 y5 y6 y7 = some (r, t')) : Γ σ 19 [(0, .ref (a 0)), (1, .int x1), (2, .int x2), (3, .int y3), (4, .int y4), (5, .int y5), (6, .int y6), (7, .int y7)] [] := by
  unfold f_X7_takesCluster_n19_b at h
  refine r_iload hC dX7_takesCluster_19 7 rfl ?_
  refine r_iload_n hC dX7_takesCluster_21 rfl 3 rfl ?_
  refine r_icmp_ge hC 159 dX7_takesCluster_22 (by decide) (fun q => ?_) (fun q => ?_)
  · replace h := if_p q h
    refine r_iconst (v := 1) hC dX7_takesCluster_159 (by decide) ?_
    exact r_zretS hC rfl dX7_takesCluster_160 h
  · replace h := if_n q h
    refine r_iload_n hC dX7_takesCluster_25 rfl 2 rfl ?_
    refine r_iload hC dX7_takesCluster_26 7 rfl ?_
    refine r_iadd hC dX7_takesCluster_28 ?_
    refine r_iload_n hC dX7_takesCluster_29 rfl 3 rfl ?_
    obtain ⟨hz, h⟩ := nz_of h
    refine r_irem hC dX7_takesCluster_30 hz ?_
    obtain ⟨v1, ev1, h⟩ := lt_of h
    refine r_istore (lv' := [(8, .int v1), (0, .ref (a 0)), (1, .int x1), (2, .int x2), (3, .int y3), (4, .int y4), (5, .int y5), (6, .int y6), (7, .int y7)]) hC dX7_takesCluster_31 (by decide) ev1 rfl ?_
    refine r_iload hC dX7_takesCluster_33 8 rfl ?_
    refine r_if_le hC 52 dX7_takesCluster_35 (by decide) (fun q => ?_) (fun q => ?_)
    · replace h := if_p q h
      refine r_sub hC [1, 2, 3, 4, 5, 6, 7, 8, 0] rfl ?_
      exact t_X7_takesCluster_n52 hC x1 x2 self hself σ y3 y4 y5 y6 y7 v1 h
    · replace h := if_n q h
      refine r_aload_n hC dX7_takesCluster_38 rfl 1 rfl ?_
      refine G7_85 hC dX7_takesCluster_39 ?_
      refine r_iload hC dX7_takesCluster_42 0 rfl ?_
      obtain ⟨hi, h⟩ := inb_of h
      refine L_m_toldMarks hC hi dX7_takesCluster_44 ?_
      refine r_iconst (v := 4) hC dX7_takesCluster_45 (by decide) ?_
      refine r_iand hC dX7_takesCluster_46 ?_
      refine r_if_ne hC 52 dX7_takesCluster_47 (by decide) (fun q => ?_) (fun q => ?_)
      · replace h := if_n q h
        refine r_sub hC [1, 2, 3, 4, 5, 6, 7, 8, 0] rfl ?_
        exact t_X7_takesCluster_n52 hC x1 x2 self hself σ y3 y4 y5 y6 y7 v1 h
      · replace h := if_p q h
        refine r_iconst (v := 1) hC dX7_takesCluster_50 (by decide) ?_
        exact r_zretS hC rfl dX7_takesCluster_51 h
set_option maxRecDepth 100000 in
set_option maxHeartbeats 4000000 in
theorem t_X7_takesCluster_n19 {Γ : St → Nat → List (Nat × Value) → List Value → Prop} {l : Launch} {a : Nat → Nat} {r : Int32} {t' : St} (hC : Cx Γ l cX7_takesCluster RX7 9 (some .boolean) Rm_X7_takesCluster wM a (some (.int r)) t') (x1 : Int32) (x2 : Int32) (n : Nat) : ∀ (σ : St) (y3 : Int32) (y4 : Int32) (y5 : Int32) (y6 : Int32) (y7 : Int32), f_X7_takesCluster_n19 x1 x2 n σ y3 y4 y5 y6 y7 = some (r, t') → Γ σ 19 [(0, .ref (a 0)), (1, .int x1), (2, .int x2), (3, .int y3), (4, .int y4), (5, .int y5), (6, .int y6), (7, .int y7)] [] := by
  induction n with
  | zero =>
    intro σ y3 y4 y5 y6 y7  h
    have h : (none : Option (Int32 × St)) = some (r, t') := h
    cases h
  | succ n ih =>
    intro σ y3 y4 y5 y6 y7  h
    exact t_X7_takesCluster_n19_b hC x1 x2    (f_X7_takesCluster_n19 x1 x2  n) ih σ y3 y4 y5 y6 y7  h
def f_X7_takesCluster (σ : St) (x1 : Int32) (x2 : Int32) : Option (Int32 × St) :=
  lt_ ((1 : Int32) <<< ((st_i σ 8) &&& 31)) fun v8 =>
  f_X7_takesCluster_n19 x1 x2 fuel σ v8 (0 : Int32) (0 : Int32) (-1 : Int32) (0 : Int32)
set_option maxRecDepth 100000 in
set_option maxHeartbeats 4000000 in
theorem con_X7_takesCluster (l : Launch) (σ : St) (x1 : Int32) (x2 : Int32) {r : Int32} {t' : St} (h : f_X7_takesCluster σ x1 x2 = some (r, t')) : Con l yX7_takesCluster cX7_takesCluster 9 (some .boolean) Rm_X7_takesCluster wM (fun a => [.ref (a 0), .int x1, .int x2]) σ (fun _ => some (.int r)) t' := by
  refine con_of (by decide) ⟨rfl, rfl⟩ (fun _ => Nat.le_of_ble_eq_true rfl) (fun Γ a hC => ?_)
  have hC : Cx Γ l cX7_takesCluster RX7 9 (some .boolean) Rm_X7_takesCluster wM a (some (.int r)) t' := hC
  show Γ σ 0 [(0, .ref (a 0)), (1, .int x1), (2, .int x2)] []
  unfold f_X7_takesCluster at h
  refine r_iconst (v := 1) hC dX7_takesCluster_0 (by decide) ?_
  refine r_aload_n hC dX7_takesCluster_1 rfl 0 rfl ?_
  refine G7_221 hC dX7_takesCluster_2 ?_
  refine r_ishl hC dX7_takesCluster_5 ?_
  obtain ⟨v8, ev8, h⟩ := lt_of h
  refine r_istore_n (lv' := [(3, .int v8), (0, .ref (a 0)), (1, .int x1), (2, .int x2)]) hC dX7_takesCluster_6 rfl (by decide) ev8 rfl ?_
  refine r_iconst (v := 0) hC dX7_takesCluster_7 (by decide) ?_
  refine r_istore (lv' := [(4, .int (0 : Int32)), (3, .int v8), (0, .ref (a 0)), (1, .int x1), (2, .int x2)]) hC dX7_takesCluster_8 (by decide) rfl rfl ?_
  refine r_iconst (v := 0) hC dX7_takesCluster_10 (by decide) ?_
  refine r_istore (lv' := [(5, .int (0 : Int32)), (4, .int (0 : Int32)), (3, .int v8), (0, .ref (a 0)), (1, .int x1), (2, .int x2)]) hC dX7_takesCluster_11 (by decide) rfl rfl ?_
  refine r_iconst (v := -1) hC dX7_takesCluster_13 (by decide) ?_
  refine r_istore (lv' := [(6, .int (-1 : Int32)), (5, .int (0 : Int32)), (4, .int (0 : Int32)), (3, .int v8), (0, .ref (a 0)), (1, .int x1), (2, .int x2)]) hC dX7_takesCluster_14 (by decide) rfl rfl ?_
  refine r_iconst (v := 0) hC dX7_takesCluster_16 (by decide) ?_
  refine r_istore (lv' := [(7, .int (0 : Int32)), (6, .int (-1 : Int32)), (5, .int (0 : Int32)), (4, .int (0 : Int32)), (3, .int v8), (0, .ref (a 0)), (1, .int x1), (2, .int x2)]) hC dX7_takesCluster_17 (by decide) rfl rfl ?_
  refine r_sub hC [5, 6, 7, 4, 3, 2, 1, 0] rfl ?_
  exact t_X7_takesCluster_n19 hC x1 x2 fuel σ v8 (0 : Int32) (0 : Int32) (-1 : Int32) (0 : Int32) h
abbrev Rm_X7_takesTold : Room := { frames := 4, cells := 0, slots := 0, locals := 92 }
def f_X7_takesTold_n64 (x1 : Int32) (k26 : St → Int32 → Int32 → Option (Int32 × St)) (σ : St) (y3 : Int32) (w0 : Int32) : Option (Int32 × St) :=
  if w0 = 0 then
    lt_ (y3 + (1 : Int32)) fun v1 =>
    k26 σ (1 : Int32) v1
  else
  bind2 (f_X7_takesCluster σ x1 y3) fun v3 s2 =>
  if v3 = 0 then
    lt_ (y3 + (1 : Int32)) fun v4 =>
    k26 s2 (0 : Int32) v4
  else
  lt_ (y3 + (1 : Int32)) fun v5 =>
  k26 s2 (1 : Int32) v5
set_option maxRecDepth 100000 in
set_option maxHeartbeats 4000000 in
theorem t_X7_takesTold_n64 {Γ : St → Nat → List (Nat × Value) → List Value → Prop} {l : Launch} {a : Nat → Nat} {r : Int32} {t' : St} (hC : Cx Γ l cX7_takesTold RX7 5 (some .int) Rm_X7_takesTold wM a (some (.int r)) t') (x1 : Int32) (k26 : St → Int32 → Int32 → Option (Int32 × St)) (hk26 : ∀ (σ : St) (y2 : Int32) (y3 : Int32), k26 σ y2 y3 = some (r, t') → Γ σ 26 [(0, .ref (a 0)), (1, .int x1), (2, .int y2), (3, .int y3)] []) (σ : St) (y3 : Int32) (w0 : Int32) (h : f_X7_takesTold_n64 x1 k26 σ y3 w0 = some (r, t')) : Γ σ 64 [(0, .ref (a 0)), (1, .int x1), (3, .int y3)] [.int w0] := by
  unfold f_X7_takesTold_n64 at h
  refine r_istore (lv' := [(4, .int w0), (0, .ref (a 0)), (1, .int x1), (3, .int y3)]) hC dX7_takesTold_64 (by decide) rfl rfl ?_
  refine r_iload hC dX7_takesTold_66 0 rfl ?_
  refine r_if_eq hC 80 dX7_takesTold_68 (by decide) (fun q => ?_) (fun q => ?_)
  · replace h := if_p q h
    refine r_iconst (v := 1) hC dX7_takesTold_80 (by decide) ?_
    refine r_goto hC 85 dX7_takesTold_81 (by decide) ?_
    refine r_istore_n (lv' := [(2, .int (1 : Int32)), (4, .int w0), (0, .ref (a 0)), (1, .int x1), (3, .int y3)]) hC dX7_takesTold_85 rfl (by decide) rfl rfl ?_
    obtain ⟨v1, ev1, h⟩ := lt_of h
    refine r_iinc (c1 := 1) (lv' := [(3, .int v1), (2, .int (1 : Int32)), (4, .int w0), (0, .ref (a 0)), (1, .int x1)]) hC dX7_takesTold_86 4 rfl (by decide) (by decide) ev1 rfl ?_
    refine r_goto hC 26 dX7_takesTold_89 (by decide) ?_
    refine r_sub hC [3, 4, 1, 0] rfl ?_
    exact hk26 σ (1 : Int32) v1 h
  · replace h := if_n q h
    refine r_aload_n hC dX7_takesTold_71 rfl 1 rfl ?_
    refine r_iload_n hC dX7_takesTold_72 rfl 2 rfl ?_
    refine r_iload_n hC dX7_takesTold_73 rfl 3 rfl ?_
    obtain ⟨v3, s2, hs2, h⟩ := bind2_of h
    refine r_callV (As := [.int x1, .int y3]) (rest := []) hC (con_X7_takesCluster l σ x1 y3 hs2) K7_250 (ob7 a σ) rfl rfl rfl rfl ⟨Nat.le_of_ble_eq_true rfl, Nat.le_of_ble_eq_true rfl⟩ (Nat.le_of_ble_eq_true rfl) dX7_takesTold_74 ?_
    refine r_if_eq hC 84 dX7_takesTold_77 (by decide) (fun q => ?_) (fun q => ?_)
    · replace h := if_p q h
      refine r_iconst (v := 0) hC dX7_takesTold_84 (by decide) ?_
      refine r_istore_n (lv' := [(2, .int (0 : Int32)), (4, .int w0), (0, .ref (a 0)), (1, .int x1), (3, .int y3)]) hC dX7_takesTold_85 rfl (by decide) rfl rfl ?_
      obtain ⟨v4, ev4, h⟩ := lt_of h
      refine r_iinc (c1 := 1) (lv' := [(3, .int v4), (2, .int (0 : Int32)), (4, .int w0), (0, .ref (a 0)), (1, .int x1)]) hC dX7_takesTold_86 4 rfl (by decide) (by decide) ev4 rfl ?_
      refine r_goto hC 26 dX7_takesTold_89 (by decide) ?_
      refine r_sub hC [3, 4, 1, 0] rfl ?_
      exact hk26 s2 (0 : Int32) v4 h
    · replace h := if_n q h
      refine r_iconst (v := 1) hC dX7_takesTold_80 (by decide) ?_
      refine r_goto hC 85 dX7_takesTold_81 (by decide) ?_
      refine r_istore_n (lv' := [(2, .int (1 : Int32)), (4, .int w0), (0, .ref (a 0)), (1, .int x1), (3, .int y3)]) hC dX7_takesTold_85 rfl (by decide) rfl rfl ?_
      obtain ⟨v5, ev5, h⟩ := lt_of h
      refine r_iinc (c1 := 1) (lv' := [(3, .int v5), (2, .int (1 : Int32)), (4, .int w0), (0, .ref (a 0)), (1, .int x1)]) hC dX7_takesTold_86 4 rfl (by decide) (by decide) ev5 rfl ?_
      refine r_goto hC 26 dX7_takesTold_89 (by decide) ?_
      refine r_sub hC [3, 4, 1, 0] rfl ?_
      exact hk26 s2 (1 : Int32) v5 h
def f_X7_takesTold_n63 (x1 : Int32) (k26 : St → Int32 → Int32 → Option (Int32 × St)) (σ : St) (y3 : Int32) : Option (Int32 × St) :=
  f_X7_takesTold_n64 x1 k26 σ y3 (0 : Int32)
set_option maxRecDepth 100000 in
set_option maxHeartbeats 4000000 in
theorem t_X7_takesTold_n63 {Γ : St → Nat → List (Nat × Value) → List Value → Prop} {l : Launch} {a : Nat → Nat} {r : Int32} {t' : St} (hC : Cx Γ l cX7_takesTold RX7 5 (some .int) Rm_X7_takesTold wM a (some (.int r)) t') (x1 : Int32) (k26 : St → Int32 → Int32 → Option (Int32 × St)) (hk26 : ∀ (σ : St) (y2 : Int32) (y3 : Int32), k26 σ y2 y3 = some (r, t') → Γ σ 26 [(0, .ref (a 0)), (1, .int x1), (2, .int y2), (3, .int y3)] []) (σ : St) (y3 : Int32) (h : f_X7_takesTold_n63 x1 k26 σ y3 = some (r, t')) : Γ σ 63 [(0, .ref (a 0)), (1, .int x1), (3, .int y3)] [] := by
  unfold f_X7_takesTold_n63 at h
  refine r_iconst (v := 0) hC dX7_takesTold_63 (by decide) ?_
  exact t_X7_takesTold_n64 hC x1 k26 hk26 σ y3 (0 : Int32) h
def f_X7_takesTold_n104 (x1 : Int32) (σ : St) : Option (Int32 × St) :=
  (f_X7_comesBack σ x1).bind fun s6 =>
  some ((-300 : Int32), s6)
set_option maxRecDepth 100000 in
set_option maxHeartbeats 4000000 in
theorem t_X7_takesTold_n104 {Γ : St → Nat → List (Nat × Value) → List Value → Prop} {l : Launch} {a : Nat → Nat} {r : Int32} {t' : St} (hC : Cx Γ l cX7_takesTold RX7 5 (some .int) Rm_X7_takesTold wM a (some (.int r)) t') (x1 : Int32) (σ : St) (h : f_X7_takesTold_n104 x1 σ = some (r, t')) : Γ σ 104 [(0, .ref (a 0)), (1, .int x1)] [] := by
  unfold f_X7_takesTold_n104 at h
  refine r_aload_n hC dX7_takesTold_104 rfl 0 rfl ?_
  refine r_iload_n hC dX7_takesTold_105 rfl 1 rfl ?_
  obtain ⟨s6, hs6, h⟩ := bind_of h
  refine r_callV (As := [.int x1]) (rest := []) hC (con_X7_comesBack l σ x1 hs6) K7_256 (ob7 a σ) rfl rfl rfl rfl ⟨Nat.le_of_ble_eq_true rfl, Nat.le_of_ble_eq_true rfl⟩ (Nat.le_of_ble_eq_true rfl) dX7_takesTold_106 ?_
  refine r_sipush (v := -300) hC dX7_takesTold_109 (by decide) ?_
  exact r_iretS hC dX7_takesTold_112 h
def f_X7_takesTold_n92 (x1 : Int32) (σ : St) (y2 : Int32) : Option (Int32 × St) :=
  if y2 = 0 then
    f_X7_takesTold_n104 x1 σ
  else
  bind2 (f_X7_isAsTold σ x1) fun v9 s8 =>
  if v9 = 0 then
    f_X7_takesTold_n104 x1 s8
  else
  if in_b x1 2 = true then
    some ((st_a s8 2 x1.toNatClampNeg), s8)
  else none
set_option maxRecDepth 100000 in
set_option maxHeartbeats 4000000 in
theorem t_X7_takesTold_n92 {Γ : St → Nat → List (Nat × Value) → List Value → Prop} {l : Launch} {a : Nat → Nat} {r : Int32} {t' : St} (hC : Cx Γ l cX7_takesTold RX7 5 (some .int) Rm_X7_takesTold wM a (some (.int r)) t') (x1 : Int32) (σ : St) (y2 : Int32) (h : f_X7_takesTold_n92 x1 σ y2 = some (r, t')) : Γ σ 92 [(0, .ref (a 0)), (1, .int x1), (2, .int y2)] [] := by
  unfold f_X7_takesTold_n92 at h
  refine r_iload_n hC dX7_takesTold_92 rfl 2 rfl ?_
  refine r_if_eq hC 104 dX7_takesTold_93 (by decide) (fun q => ?_) (fun q => ?_)
  · replace h := if_p q h
    refine r_sub hC [0, 1] rfl ?_
    exact t_X7_takesTold_n104 hC x1 σ h
  · replace h := if_n q h
    refine r_aload_n hC dX7_takesTold_96 rfl 0 rfl ?_
    refine r_iload_n hC dX7_takesTold_97 rfl 1 rfl ?_
    obtain ⟨v9, s8, hs8, h⟩ := bind2_of h
    refine r_callV (As := [.int x1]) (rest := []) hC (con_X7_isAsTold l σ x1 hs8) K7_253 (ob7 a σ) rfl rfl rfl rfl ⟨Nat.le_of_ble_eq_true rfl, Nat.le_of_ble_eq_true rfl⟩ (Nat.le_of_ble_eq_true rfl) dX7_takesTold_98 ?_
    refine r_if_ne hC 113 dX7_takesTold_101 (by decide) (fun q => ?_) (fun q => ?_)
    · replace h := if_n q h
      refine r_aload_n hC dX7_takesTold_113 rfl 0 rfl ?_
      refine G7_60 hC dX7_takesTold_114 ?_
      refine r_iload_n hC dX7_takesTold_117 rfl 1 rfl ?_
      obtain ⟨hi, h⟩ := inb_of h
      refine L_m_many hC hi dX7_takesTold_118 ?_
      exact r_iretS hC dX7_takesTold_119 h
    · replace h := if_p q h
      refine r_sub hC [0, 1] rfl ?_
      exact t_X7_takesTold_n104 hC x1 s8 h
def f_X7_takesTold_n26_b (x1 : Int32) (self : St → Int32 → Int32 → Option (Int32 × St)) (σ : St) (y2 : Int32) (y3 : Int32) : Option (Int32 × St) :=
  (f_X7_slots σ x1).bind fun v7 =>
  if v7 ≤ y3 then
    f_X7_takesTold_n92 x1 σ y2
  else
  if y2 = 0 then
    f_X7_takesTold_n92 x1 σ y2
  else
  if in_b y3 64 = true then
    if (st_a σ 9 y3.toNatClampNeg) = 0 then
      f_X7_takesTold_n63 x1 self σ y3
    else
    if in_b y3 64 = true then
      if ((st_a σ 9 y3.toNatClampNeg) &&& (4 : Int32)) = 0 then
        f_X7_takesTold_n64 x1 self σ y3 (1 : Int32)
      else
      f_X7_takesTold_n63 x1 self σ y3
    else none
  else none
def f_X7_takesTold_n26 (x1 : Int32) : Nat → St → Int32 → Int32 → Option (Int32 × St)
  | 0 => fun _ _ _ => none
  | n + 1 => fun σ y2 y3 => f_X7_takesTold_n26_b x1  (f_X7_takesTold_n26 x1  n) σ y2 y3
set_option maxRecDepth 100000 in
set_option maxHeartbeats 4000000 in
theorem t_X7_takesTold_n26_b {Γ : St → Nat → List (Nat × Value) → List Value → Prop} {l : Launch} {a : Nat → Nat} {r : Int32} {t' : St} (hC : Cx Γ l cX7_takesTold RX7 5 (some .int) Rm_X7_takesTold wM a (some (.int r)) t') (x1 : Int32) (self : St → Int32 → Int32 → Option (Int32 × St)) (hself : ∀ (σ : St) (y2 : Int32) (y3 : Int32), self σ y2 y3 = some (r, t') → Γ σ 26 [(0, .ref (a 0)), (1, .int x1), (2, .int y2), (3, .int y3)] []) (σ : St) (y2 : Int32) (y3 : Int32) (h : f_X7_takesTold_n26_b x1 self σ y2 y3 = some (r, t')) : Γ σ 26 [(0, .ref (a 0)), (1, .int x1), (2, .int y2), (3, .int y3)] [] := by
  unfold f_X7_takesTold_n26_b at h
  refine r_iload_n hC dX7_takesTold_26 rfl 3 rfl ?_
  refine r_aload_n hC dX7_takesTold_27 rfl 0 rfl ?_
  refine r_iload_n hC dX7_takesTold_28 rfl 1 rfl ?_
  obtain ⟨v7, hv7, h⟩ := bind_of h
  refine r_callV (As := [.int x1]) (rest := [.int y3]) hC (con_X7_slots l σ x1 hv7) K7_121 (ob7 a σ) rfl rfl rfl rfl ⟨Nat.le_of_ble_eq_true rfl, Nat.le_of_ble_eq_true rfl⟩ (Nat.le_of_ble_eq_true rfl) dX7_takesTold_29 ?_
  refine r_icmp_ge hC 92 dX7_takesTold_32 (by decide) (fun q => ?_) (fun q => ?_)
  · replace h := if_p q h
    refine r_sub hC [0, 1, 2] rfl ?_
    exact t_X7_takesTold_n92 hC x1 σ y2 h
  · replace h := if_n q h
    refine r_iload_n hC dX7_takesTold_35 rfl 2 rfl ?_
    refine r_if_eq hC 92 dX7_takesTold_36 (by decide) (fun q => ?_) (fun q => ?_)
    · replace h := if_p q h
      refine r_sub hC [0, 1, 2] rfl ?_
      exact t_X7_takesTold_n92 hC x1 σ y2 h
    · replace h := if_n q h
      refine r_aload_n hC dX7_takesTold_39 rfl 0 rfl ?_
      refine G7_85 hC dX7_takesTold_40 ?_
      refine r_iload_n hC dX7_takesTold_43 rfl 3 rfl ?_
      obtain ⟨hi, h⟩ := inb_of h
      refine L_m_toldMarks hC hi dX7_takesTold_44 ?_
      refine r_if_eq hC 63 dX7_takesTold_45 (by decide) (fun q => ?_) (fun q => ?_)
      · replace h := if_p q h
        refine r_sub hC [0, 1, 3] rfl ?_
        exact t_X7_takesTold_n63 hC x1 self hself σ y3 h
      · replace h := if_n q h
        refine r_aload_n hC dX7_takesTold_48 rfl 0 rfl ?_
        refine G7_85 hC dX7_takesTold_49 ?_
        refine r_iload_n hC dX7_takesTold_52 rfl 3 rfl ?_
        obtain ⟨hi, h⟩ := inb_of h
        refine L_m_toldMarks hC hi dX7_takesTold_53 ?_
        refine r_iconst (v := 4) hC dX7_takesTold_54 (by decide) ?_
        refine r_iand hC dX7_takesTold_55 ?_
        refine r_if_ne hC 63 dX7_takesTold_56 (by decide) (fun q => ?_) (fun q => ?_)
        · replace h := if_n q h
          refine r_sub hC [0, 1, 3] rfl ?_
          exact t_X7_takesTold_n63 hC x1 self hself σ y3 h
        · replace h := if_p q h
          refine r_iconst (v := 1) hC dX7_takesTold_59 (by decide) ?_
          refine r_goto hC 64 dX7_takesTold_60 (by decide) ?_
          refine r_sub hC [0, 1, 3] rfl ?_
          exact t_X7_takesTold_n64 hC x1 self hself σ y3 (1 : Int32) h
set_option maxRecDepth 100000 in
set_option maxHeartbeats 4000000 in
theorem t_X7_takesTold_n26 {Γ : St → Nat → List (Nat × Value) → List Value → Prop} {l : Launch} {a : Nat → Nat} {r : Int32} {t' : St} (hC : Cx Γ l cX7_takesTold RX7 5 (some .int) Rm_X7_takesTold wM a (some (.int r)) t') (x1 : Int32) (n : Nat) : ∀ (σ : St) (y2 : Int32) (y3 : Int32), f_X7_takesTold_n26 x1 n σ y2 y3 = some (r, t') → Γ σ 26 [(0, .ref (a 0)), (1, .int x1), (2, .int y2), (3, .int y3)] [] := by
  induction n with
  | zero =>
    intro σ y2 y3  h
    have h : (none : Option (Int32 × St)) = some (r, t') := h
    cases h
  | succ n ih =>
    intro σ y2 y3  h
    exact t_X7_takesTold_n26_b hC x1    (f_X7_takesTold_n26 x1  n) ih σ y2 y3  h
def f_X7_takesTold (σ : St) (x1 : Int32) : Option (Int32 × St) :=
  (f_X7_saves σ x1).bind fun s10 =>
  if in_b x1 2 = true then
    lt_ (put_a s10 2 x1.toNatClampNeg (0 : Int32)) fun s11 =>
    if in_b x1 2 = true then
      lt_ (put_a s11 1 x1.toNatClampNeg (st_i s11 8)) fun s12 =>
      f_X7_takesTold_n26 x1 fuel s12 (1 : Int32) (0 : Int32)
    else none
  else none
set_option maxRecDepth 100000 in
set_option maxHeartbeats 4000000 in
theorem con_X7_takesTold (l : Launch) (σ : St) (x1 : Int32) {r : Int32} {t' : St} (h : f_X7_takesTold σ x1 = some (r, t')) : Con l yX7_takesTold cX7_takesTold 5 (some .int) Rm_X7_takesTold wM (fun a => [.ref (a 0), .int x1]) σ (fun _ => some (.int r)) t' := by
  refine con_of (by decide) ⟨rfl, rfl⟩ (fun _ => Nat.le_of_ble_eq_true rfl) (fun Γ a hC => ?_)
  have hC : Cx Γ l cX7_takesTold RX7 5 (some .int) Rm_X7_takesTold wM a (some (.int r)) t' := hC
  show Γ σ 0 [(0, .ref (a 0)), (1, .int x1)] []
  unfold f_X7_takesTold at h
  refine r_aload_n hC dX7_takesTold_0 rfl 0 rfl ?_
  refine r_iload_n hC dX7_takesTold_1 rfl 1 rfl ?_
  obtain ⟨s10, hs10, h⟩ := bind_of h
  refine r_callV (As := [.int x1]) (rest := []) hC (con_X7_saves l σ x1 hs10) K7_247 (ob7 a σ) rfl rfl rfl rfl ⟨Nat.le_of_ble_eq_true rfl, Nat.le_of_ble_eq_true rfl⟩ (Nat.le_of_ble_eq_true rfl) dX7_takesTold_2 ?_
  refine r_aload_n hC dX7_takesTold_5 rfl 0 rfl ?_
  refine G7_60 hC dX7_takesTold_6 ?_
  refine r_iload_n hC dX7_takesTold_9 rfl 1 rfl ?_
  refine r_iconst (v := 0) hC dX7_takesTold_10 (by decide) ?_
  obtain ⟨hi, h⟩ := inb_of h
  obtain ⟨s11, es11, h⟩ := lt_of h
  refine S_m_many hC es11 hi dX7_takesTold_11 ?_
  refine r_aload_n hC dX7_takesTold_12 rfl 0 rfl ?_
  refine G7_57 hC dX7_takesTold_13 ?_
  refine r_iload_n hC dX7_takesTold_16 rfl 1 rfl ?_
  refine r_aload_n hC dX7_takesTold_17 rfl 0 rfl ?_
  refine G7_221 hC dX7_takesTold_18 ?_
  obtain ⟨hi, h⟩ := inb_of h
  obtain ⟨s12, es12, h⟩ := lt_of h
  refine S_m_q hC es12 hi dX7_takesTold_21 ?_
  refine r_iconst (v := 1) hC dX7_takesTold_22 (by decide) ?_
  refine r_istore_n (lv' := [(2, .int (1 : Int32)), (0, .ref (a 0)), (1, .int x1)]) hC dX7_takesTold_23 rfl (by decide) rfl rfl ?_
  refine r_iconst (v := 0) hC dX7_takesTold_24 (by decide) ?_
  refine r_istore_n (lv' := [(3, .int (0 : Int32)), (2, .int (1 : Int32)), (0, .ref (a 0)), (1, .int x1)]) hC dX7_takesTold_25 rfl (by decide) rfl rfl ?_
  refine r_sub hC [2, 3, 1, 0] rfl ?_
  exact t_X7_takesTold_n26 hC x1 fuel s12 (1 : Int32) (0 : Int32) h
abbrev Rm_X7_load : Room := { frames := 1, cells := 0, slots := 0, locals := 25 }
def f_X7_load (σ : St) (x1 : Int32) : Option (Int32 × St) :=
  lt_ (put_i σ 0 (0 : Int32)) fun s1 =>
  if (f_X7_in s1 (x1.toInt64) (50 : Int64) (95 : Int64)) = 0 then
    some ((-1 : Int32), s1)
  else
  if (st_i s1 7) = x1 then
    some ((-2 : Int32), s1)
  else
  lt_ (st_i s1 7) fun v2 =>
  lt_ (put_i s1 7 x1) fun s3 =>
  some (v2, s3)
set_option maxRecDepth 100000 in
set_option maxHeartbeats 4000000 in
theorem con_X7_load (l : Launch) (σ : St) (x1 : Int32) {r : Int32} {t' : St} (h : f_X7_load σ x1 = some (r, t')) : Con l yX7_load cX7_load 3 (some .int) Rm_X7_load wM (fun a => [.ref (a 0), .int x1]) σ (fun _ => some (.int r)) t' := by
  refine con_of (by decide) ⟨rfl, rfl⟩ (fun _ => Nat.le_of_ble_eq_true rfl) (fun Γ a hC => ?_)
  have hC : Cx Γ l cX7_load RX7 3 (some .int) Rm_X7_load wM a (some (.int r)) t' := hC
  show Γ σ 0 [(0, .ref (a 0)), (1, .int x1)] []
  unfold f_X7_load at h
  refine r_aload_n hC dX7_load_0 rfl 0 rfl ?_
  refine r_iconst (v := 0) hC dX7_load_1 (by decide) ?_
  obtain ⟨s1, es1, h⟩ := lt_of h
  refine P7_1 hC es1 dX7_load_2 ?_
  refine r_iload_n hC dX7_load_5 rfl 1 rfl ?_
  refine r_i2l hC dX7_load_6 ?_
  refine r_ldc2 hC dX7_load_7 kc7_117 ?_
  refine r_ldc2 hC dX7_load_10 kc7_119 ?_
  refine r_callS (As := [.long (x1.toInt64), .long (50 : Int64), .long (95 : Int64)]) (rest := []) hC (con_X7_in l s1 (x1.toInt64) (50 : Int64) (95 : Int64) rfl) K7_21 rfl rfl rfl ⟨Nat.le_of_ble_eq_true rfl, Nat.le_of_ble_eq_true rfl⟩ (Nat.le_of_ble_eq_true rfl) dX7_load_13 ?_
  refine r_if_ne hC 21 dX7_load_16 (by decide) (fun q => ?_) (fun q => ?_)
  · replace h := if_n q h
    refine r_aload_n hC dX7_load_21 rfl 0 rfl ?_
    refine G7_54 hC dX7_load_22 ?_
    refine r_iload_n hC dX7_load_25 rfl 1 rfl ?_
    refine r_icmp_ne hC 32 dX7_load_26 (by decide) (fun q => ?_) (fun q => ?_)
    · replace h := if_n q h
      refine r_aload_n hC dX7_load_32 rfl 0 rfl ?_
      refine G7_54 hC dX7_load_33 ?_
      obtain ⟨v2, ev2, h⟩ := lt_of h
      refine r_istore_n (lv' := [(2, .int v2), (0, .ref (a 0)), (1, .int x1)]) hC dX7_load_36 rfl (by decide) ev2 rfl ?_
      refine r_aload_n hC dX7_load_37 rfl 1 rfl ?_
      refine r_iload_n hC dX7_load_38 rfl 2 rfl ?_
      obtain ⟨s3, es3, h⟩ := lt_of h
      refine P7_54 hC es3 dX7_load_39 ?_
      refine r_iload_n hC dX7_load_42 rfl 0 rfl ?_
      exact r_iretS hC dX7_load_43 h
    · replace h := if_p q h
      refine r_bipush (v := -2) hC dX7_load_29 (by decide) ?_
      exact r_iretS hC dX7_load_31 h
  · replace h := if_p q h
    refine r_iconst (v := -1) hC dX7_load_19 (by decide) ?_
    exact r_iretS hC dX7_load_20 h
abbrev Rm_X7_looks : Room := { frames := 4, cells := 0, slots := 0, locals := 90 }
def f_X7_looks_n63 (x1 : Int32) (k21 : St → Int32 → Int32 → Int32 → Option (Int32 × St)) (σ : St) (y2 : Int32) (y4 : Int32) (y5 : Int32) (w0 : Int32) : Option (Int32 × St) :=
  lt_ (if y2 < y5 then y5 else y2) fun v10 =>
  lt_ (y4 + (1 : Int32)) fun v11 =>
  k21 σ v10 w0 v11
set_option maxRecDepth 100000 in
set_option maxHeartbeats 4000000 in
theorem t_X7_looks_n63 {Γ : St → Nat → List (Nat × Value) → List Value → Prop} {l : Launch} {a : Nat → Nat} {r : Int32} {t' : St} (hC : Cx Γ l cX7_looks RX7 6 (some .int) Rm_X7_looks wM a (some (.int r)) t') (x1 : Int32) (k21 : St → Int32 → Int32 → Int32 → Option (Int32 × St)) (hk21 : ∀ (σ : St) (y2 : Int32) (y3 : Int32) (y4 : Int32), k21 σ y2 y3 y4 = some (r, t') → Γ σ 21 [(0, .ref (a 0)), (1, .int x1), (2, .int y2), (3, .int y3), (4, .int y4)] []) (σ : St) (y2 : Int32) (y4 : Int32) (y5 : Int32) (w0 : Int32) (h : f_X7_looks_n63 x1 k21 σ y2 y4 y5 w0 = some (r, t')) : Γ σ 63 [(0, .ref (a 0)), (1, .int x1), (2, .int y2), (4, .int y4), (5, .int y5)] [.int w0] := by
  unfold f_X7_looks_n63 at h
  refine r_istore_n (lv' := [(3, .int w0), (0, .ref (a 0)), (1, .int x1), (2, .int y2), (4, .int y4), (5, .int y5)]) hC dX7_looks_63 rfl (by decide) rfl rfl ?_
  refine r_iload_n hC dX7_looks_64 rfl 3 rfl ?_
  refine r_iload hC dX7_looks_65 5 rfl ?_
  refine r_mmax hC dX7_looks_67 K7_124 ⟨Nat.le_of_ble_eq_true rfl, Nat.le_of_ble_eq_true rfl⟩ ?_
  obtain ⟨v10, ev10, h⟩ := lt_of h
  refine r_istore_n (lv' := [(2, .int v10), (3, .int w0), (0, .ref (a 0)), (1, .int x1), (4, .int y4), (5, .int y5)]) hC dX7_looks_70 rfl (by decide) ev10 rfl ?_
  obtain ⟨v11, ev11, h⟩ := lt_of h
  refine r_iinc (c1 := 1) (lv' := [(4, .int v11), (2, .int v10), (3, .int w0), (0, .ref (a 0)), (1, .int x1), (5, .int y5)]) hC dX7_looks_71 4 rfl (by decide) (by decide) ev11 rfl ?_
  refine r_goto hC 21 dX7_looks_74 (by decide) ?_
  refine r_sub hC [3, 4, 1, 2, 0] rfl ?_
  exact hk21 σ v10 w0 v11 h
def f_X7_looks_n21_b (x1 : Int32) (self : St → Int32 → Int32 → Int32 → Option (Int32 × St)) (σ : St) (y2 : Int32) (y3 : Int32) (y4 : Int32) : Option (Int32 × St) :=
  if in_b x1 2 = true then
    if (st_a σ 2 x1.toNatClampNeg) ≤ y4 then
      lt_ (put_i σ 1 (0 : Int32)) fun s1 =>
      (f_X7_enters s1 (y2.toInt64)).bind fun s2 =>
      (f_X7_enters s2 (y3.toInt64)).bind fun s3 =>
      (f_X7_unlike s3 x1).bind fun v4 =>
      (f_X7_enters s3 (v4.toInt64)).bind fun s5 =>
      (f_X7_looksAll s5 x1).bind fun v6 =>
      some (v6, s5)
    else
    (f_X7_at σ x1 y4).bind fun v7 =>
    (f_X7_looksFor σ x1 v7).bind fun v8 =>
    if v8 ≤ y2 then
      f_X7_looks_n63 x1 self σ y2 y4 v8 y3
    else
    (f_X7_at σ x1 y4).bind fun v9 =>
    f_X7_looks_n63 x1 self σ y2 y4 v8 v9
  else none
def f_X7_looks_n21 (x1 : Int32) : Nat → St → Int32 → Int32 → Int32 → Option (Int32 × St)
  | 0 => fun _ _ _ _ => none
  | n + 1 => fun σ y2 y3 y4 => f_X7_looks_n21_b x1  (f_X7_looks_n21 x1  n) σ y2 y3 y4
set_option maxRecDepth 100000 in
set_option maxHeartbeats 4000000 in
theorem t_X7_looks_n21_b {Γ : St → Nat → List (Nat × Value) → List Value → Prop} {l : Launch} {a : Nat → Nat} {r : Int32} {t' : St} (hC : Cx Γ l cX7_looks RX7 6 (some .int) Rm_X7_looks wM a (some (.int r)) t') (x1 : Int32) (self : St → Int32 → Int32 → Int32 → Option (Int32 × St)) (hself : ∀ (σ : St) (y2 : Int32) (y3 : Int32) (y4 : Int32), self σ y2 y3 y4 = some (r, t') → Γ σ 21 [(0, .ref (a 0)), (1, .int x1), (2, .int y2), (3, .int y3), (4, .int y4)] []) (σ : St) (y2 : Int32) (y3 : Int32) (y4 : Int32) (h : f_X7_looks_n21_b x1 self σ y2 y3 y4 = some (r, t')) : Γ σ 21 [(0, .ref (a 0)), (1, .int x1), (2, .int y2), (3, .int y3), (4, .int y4)] [] := by
  unfold f_X7_looks_n21_b at h
  refine r_iload hC dX7_looks_21 4 rfl ?_
  refine r_aload_n hC dX7_looks_23 rfl 0 rfl ?_
  refine G7_60 hC dX7_looks_24 ?_
  refine r_iload_n hC dX7_looks_27 rfl 1 rfl ?_
  obtain ⟨hi, h⟩ := inb_of h
  refine L_m_many hC hi dX7_looks_28 ?_
  refine r_icmp_ge hC 77 dX7_looks_29 (by decide) (fun q => ?_) (fun q => ?_)
  · replace h := if_p q h
    refine r_aload_n hC dX7_looks_77 rfl 0 rfl ?_
    refine r_iconst (v := 0) hC dX7_looks_78 (by decide) ?_
    obtain ⟨s1, es1, h⟩ := lt_of h
    refine P7_11 hC es1 dX7_looks_79 ?_
    refine r_aload_n hC dX7_looks_82 rfl 0 rfl ?_
    refine r_iload_n hC dX7_looks_83 rfl 2 rfl ?_
    refine r_i2l hC dX7_looks_84 ?_
    obtain ⟨s2, hs2, h⟩ := bind_of h
    refine r_callV (As := [.long (y2.toInt64)]) (rest := []) hC (con_X7_enters l s1 (y2.toInt64) hs2) K7_145 (ob7 a s1) rfl rfl rfl rfl ⟨Nat.le_of_ble_eq_true rfl, Nat.le_of_ble_eq_true rfl⟩ (Nat.le_of_ble_eq_true rfl) dX7_looks_85 ?_
    refine r_aload_n hC dX7_looks_88 rfl 0 rfl ?_
    refine r_iload_n hC dX7_looks_89 rfl 3 rfl ?_
    refine r_i2l hC dX7_looks_90 ?_
    obtain ⟨s3, hs3, h⟩ := bind_of h
    refine r_callV (As := [.long (y3.toInt64)]) (rest := []) hC (con_X7_enters l s2 (y3.toInt64) hs3) K7_145 (ob7 a s2) rfl rfl rfl rfl ⟨Nat.le_of_ble_eq_true rfl, Nat.le_of_ble_eq_true rfl⟩ (Nat.le_of_ble_eq_true rfl) dX7_looks_91 ?_
    refine r_aload_n hC dX7_looks_94 rfl 0 rfl ?_
    refine r_aload_n hC dX7_looks_95 rfl 0 rfl ?_
    refine r_iload_n hC dX7_looks_96 rfl 1 rfl ?_
    obtain ⟨v4, hv4, h⟩ := bind_of h
    refine r_callV (As := [.int x1]) (rest := [.ref (a 0)]) hC (con_X7_unlike l s3 x1 hv4) K7_272 (ob7 a s3) rfl rfl rfl rfl ⟨Nat.le_of_ble_eq_true rfl, Nat.le_of_ble_eq_true rfl⟩ (Nat.le_of_ble_eq_true rfl) dX7_looks_97 ?_
    refine r_i2l hC dX7_looks_100 ?_
    obtain ⟨s5, hs5, h⟩ := bind_of h
    refine r_callV (As := [.long (v4.toInt64)]) (rest := []) hC (con_X7_enters l s3 (v4.toInt64) hs5) K7_145 (ob7 a s3) rfl rfl rfl rfl ⟨Nat.le_of_ble_eq_true rfl, Nat.le_of_ble_eq_true rfl⟩ (Nat.le_of_ble_eq_true rfl) dX7_looks_101 ?_
    refine r_aload_n hC dX7_looks_104 rfl 0 rfl ?_
    refine r_iload_n hC dX7_looks_105 rfl 1 rfl ?_
    obtain ⟨v6, hv6, h⟩ := bind_of h
    refine r_callV (As := [.int x1]) (rest := []) hC (con_X7_looksAll l s5 x1 hv6) K7_275 (ob7 a s5) rfl rfl rfl rfl ⟨Nat.le_of_ble_eq_true rfl, Nat.le_of_ble_eq_true rfl⟩ (Nat.le_of_ble_eq_true rfl) dX7_looks_106 ?_
    exact r_iretS hC dX7_looks_109 h
  · replace h := if_n q h
    refine r_aload_n hC dX7_looks_32 rfl 0 rfl ?_
    refine r_iload_n hC dX7_looks_33 rfl 1 rfl ?_
    refine r_aload_n hC dX7_looks_34 rfl 0 rfl ?_
    refine r_iload_n hC dX7_looks_35 rfl 1 rfl ?_
    refine r_iload hC dX7_looks_36 4 rfl ?_
    obtain ⟨v7, hv7, h⟩ := bind_of h
    refine r_callV (As := [.int x1, .int y4]) (rest := [.int x1, .ref (a 0)]) hC (con_X7_at l σ x1 y4 hv7) K7_106 (ob7 a σ) rfl rfl rfl rfl ⟨Nat.le_of_ble_eq_true rfl, Nat.le_of_ble_eq_true rfl⟩ (Nat.le_of_ble_eq_true rfl) dX7_looks_38 ?_
    obtain ⟨v8, hv8, h⟩ := bind_of h
    refine r_callV (As := [.int x1, .int v7]) (rest := []) hC (con_X7_looksFor l σ x1 v7 hv8) K7_176 (ob7 a σ) rfl rfl rfl rfl ⟨Nat.le_of_ble_eq_true rfl, Nat.le_of_ble_eq_true rfl⟩ (Nat.le_of_ble_eq_true rfl) dX7_looks_41 ?_
    refine r_istore (lv' := [(5, .int v8), (0, .ref (a 0)), (1, .int x1), (2, .int y2), (3, .int y3), (4, .int y4)]) hC dX7_looks_44 (by decide) rfl rfl ?_
    refine r_iload hC dX7_looks_46 0 rfl ?_
    refine r_iload_n hC dX7_looks_48 rfl 3 rfl ?_
    refine r_icmp_le hC 62 dX7_looks_49 (by decide) (fun q => ?_) (fun q => ?_)
    · replace h := if_p q h
      refine r_iload_n hC dX7_looks_62 rfl 4 rfl ?_
      refine r_sub hC [1, 2, 3, 5, 0] rfl ?_
      exact t_X7_looks_n63 hC x1 self hself σ y2 y4 v8 y3 h
    · replace h := if_n q h
      refine r_aload_n hC dX7_looks_52 rfl 1 rfl ?_
      refine r_iload_n hC dX7_looks_53 rfl 2 rfl ?_
      refine r_iload hC dX7_looks_54 5 rfl ?_
      obtain ⟨v9, hv9, h⟩ := bind_of h
      refine r_callV (As := [.int x1, .int y4]) (rest := []) hC (con_X7_at l σ x1 y4 hv9) K7_106 (ob7 a σ) rfl rfl rfl rfl ⟨Nat.le_of_ble_eq_true rfl, Nat.le_of_ble_eq_true rfl⟩ (Nat.le_of_ble_eq_true rfl) dX7_looks_56 ?_
      refine r_goto hC 63 dX7_looks_59 (by decide) ?_
      refine r_sub hC [1, 2, 3, 5, 0] rfl ?_
      exact t_X7_looks_n63 hC x1 self hself σ y2 y4 v8 v9 h
set_option maxRecDepth 100000 in
set_option maxHeartbeats 4000000 in
theorem t_X7_looks_n21 {Γ : St → Nat → List (Nat × Value) → List Value → Prop} {l : Launch} {a : Nat → Nat} {r : Int32} {t' : St} (hC : Cx Γ l cX7_looks RX7 6 (some .int) Rm_X7_looks wM a (some (.int r)) t') (x1 : Int32) (n : Nat) : ∀ (σ : St) (y2 : Int32) (y3 : Int32) (y4 : Int32), f_X7_looks_n21 x1 n σ y2 y3 y4 = some (r, t') → Γ σ 21 [(0, .ref (a 0)), (1, .int x1), (2, .int y2), (3, .int y3), (4, .int y4)] [] := by
  induction n with
  | zero =>
    intro σ y2 y3 y4  h
    have h : (none : Option (Int32 × St)) = some (r, t') := h
    cases h
  | succ n ih =>
    intro σ y2 y3 y4  h
    exact t_X7_looks_n21_b hC x1    (f_X7_looks_n21 x1  n) ih σ y2 y3 y4  h
def f_X7_looks (σ : St) (x1 : Int32) : Option (Int32 × St) :=
  lt_ (put_i σ 0 (0 : Int32)) fun s12 =>
  if (f_X7_isFile s12 x1) = 0 then
    some ((-1 : Int32), s12)
  else
  f_X7_looks_n21 x1 fuel s12 (0 : Int32) (-1 : Int32) (0 : Int32)
set_option maxRecDepth 100000 in
set_option maxHeartbeats 4000000 in
theorem con_X7_looks (l : Launch) (σ : St) (x1 : Int32) {r : Int32} {t' : St} (h : f_X7_looks σ x1 = some (r, t')) : Con l yX7_looks cX7_looks 6 (some .int) Rm_X7_looks wM (fun a => [.ref (a 0), .int x1]) σ (fun _ => some (.int r)) t' := by
  refine con_of (by decide) ⟨rfl, rfl⟩ (fun _ => Nat.le_of_ble_eq_true rfl) (fun Γ a hC => ?_)
  have hC : Cx Γ l cX7_looks RX7 6 (some .int) Rm_X7_looks wM a (some (.int r)) t' := hC
  show Γ σ 0 [(0, .ref (a 0)), (1, .int x1)] []
  unfold f_X7_looks at h
  refine r_aload_n hC dX7_looks_0 rfl 0 rfl ?_
  refine r_iconst (v := 0) hC dX7_looks_1 (by decide) ?_
  obtain ⟨s12, es12, h⟩ := lt_of h
  refine P7_1 hC es12 dX7_looks_2 ?_
  refine r_iload_n hC dX7_looks_5 rfl 1 rfl ?_
  refine r_callS (As := [.int x1]) (rest := []) hC (con_X7_isFile l s12 x1 rfl) K7_136 rfl rfl rfl ⟨Nat.le_of_ble_eq_true rfl, Nat.le_of_ble_eq_true rfl⟩ (Nat.le_of_ble_eq_true rfl) dX7_looks_6 ?_
  refine r_if_ne hC 14 dX7_looks_9 (by decide) (fun q => ?_) (fun q => ?_)
  · replace h := if_n q h
    refine r_iconst (v := 0) hC dX7_looks_14 (by decide) ?_
    refine r_istore_n (lv' := [(2, .int (0 : Int32)), (0, .ref (a 0)), (1, .int x1)]) hC dX7_looks_15 rfl (by decide) rfl rfl ?_
    refine r_iconst (v := -1) hC dX7_looks_16 (by decide) ?_
    refine r_istore_n (lv' := [(3, .int (-1 : Int32)), (2, .int (0 : Int32)), (0, .ref (a 0)), (1, .int x1)]) hC dX7_looks_17 rfl (by decide) rfl rfl ?_
    refine r_iconst (v := 0) hC dX7_looks_18 (by decide) ?_
    refine r_istore (lv' := [(4, .int (0 : Int32)), (3, .int (-1 : Int32)), (2, .int (0 : Int32)), (0, .ref (a 0)), (1, .int x1)]) hC dX7_looks_19 (by decide) rfl rfl ?_
    refine r_sub hC [3, 4, 2, 1, 0] rfl ?_
    exact t_X7_looks_n21 hC x1 fuel s12 (0 : Int32) (-1 : Int32) (0 : Int32) h
  · replace h := if_p q h
    refine r_iconst (v := -1) hC dX7_looks_12 (by decide) ?_
    exact r_iretS hC dX7_looks_13 h
abbrev Rm_X7_qOfBoth : Room := { frames := 1, cells := 0, slots := 0, locals := 21 }
def f_X7_qOfBoth_n45_b (σ : St) (x1 : Int32) (self : Int32 → Int32 → Int32 → Option Int32) (y2 : Int32) (y3 : Int32) (y4 : Int32) : Option Int32 :=
  if y3 ≤ y4 then
    some y4
  else
  if ((100 : Int32) * y2) ≤ ((st_i σ 7) <<< (y4 &&& 31)) then
    some y4
  else
  lt_ (y4 + (1 : Int32)) fun v1 =>
  self y2 y3 v1
def f_X7_qOfBoth_n45 (σ : St) (x1 : Int32) : Nat → Int32 → Int32 → Int32 → Option Int32
  | 0 => fun _ _ _ => none
  | n + 1 => fun y2 y3 y4 => f_X7_qOfBoth_n45_b σ x1  (f_X7_qOfBoth_n45 σ x1  n) y2 y3 y4
set_option maxRecDepth 100000 in
set_option maxHeartbeats 4000000 in
theorem t_X7_qOfBoth_n45_b {Γ : St → Nat → List (Nat × Value) → List Value → Prop} {l : Launch} {a : Nat → Nat} {r : Int32} {σ : St} (hC : Cx Γ l cX7_qOfBoth RX7 5 (some .int) Rm_X7_qOfBoth wM a (some (.int r)) σ) (x1 : Int32) (self : Int32 → Int32 → Int32 → Option Int32) (hself : ∀ (y2 : Int32) (y3 : Int32) (y4 : Int32), self y2 y3 y4 = some r → Γ σ 45 [(0, .ref (a 0)), (2, .int y2), (3, .int y3), (4, .int y4)] []) (y2 : Int32) (y3 : Int32) (y4 : Int32) (h : f_X7_qOfBoth_n45_b σ x1 self y2 y3 y4 = some r) : Γ σ 45 [(0, .ref (a 0)), (2, .int y2), (3, .int y3), (4, .int y4)] [] := by
  unfold f_X7_qOfBoth_n45_b at h
  refine r_iload hC dX7_qOfBoth_45 3 rfl ?_
  refine r_iload_n hC dX7_qOfBoth_47 rfl 2 rfl ?_
  refine r_icmp_ge hC 71 dX7_qOfBoth_48 (by decide) (fun q => ?_) (fun q => ?_)
  · replace h := if_p q h
    refine r_iload hC dX7_qOfBoth_71 3 rfl ?_
    exact r_iretP hC dX7_qOfBoth_73 h
  · replace h := if_n q h
    refine r_bipush (v := 100) hC dX7_qOfBoth_51 (by decide) ?_
    refine r_iload_n hC dX7_qOfBoth_53 rfl 1 rfl ?_
    refine r_imul hC dX7_qOfBoth_54 ?_
    refine r_aload_n hC dX7_qOfBoth_55 rfl 0 rfl ?_
    refine G7_54 hC dX7_qOfBoth_56 ?_
    refine r_iload hC dX7_qOfBoth_59 3 rfl ?_
    refine r_ishl hC dX7_qOfBoth_61 ?_
    refine r_icmp_le hC 71 dX7_qOfBoth_62 (by decide) (fun q => ?_) (fun q => ?_)
    · replace h := if_p q h
      refine r_iload hC dX7_qOfBoth_71 3 rfl ?_
      exact r_iretP hC dX7_qOfBoth_73 h
    · replace h := if_n q h
      obtain ⟨v1, ev1, h⟩ := lt_of h
      refine r_iinc (c1 := 1) (lv' := [(4, .int v1), (0, .ref (a 0)), (2, .int y2), (3, .int y3)]) hC dX7_qOfBoth_65 3 rfl (by decide) (by decide) ev1 rfl ?_
      refine r_goto hC 45 dX7_qOfBoth_68 (by decide) ?_
      refine r_sub hC [1, 2, 3, 0] rfl ?_
      exact hself y2 y3 v1 h
set_option maxRecDepth 100000 in
set_option maxHeartbeats 4000000 in
theorem t_X7_qOfBoth_n45 {Γ : St → Nat → List (Nat × Value) → List Value → Prop} {l : Launch} {a : Nat → Nat} {r : Int32} {σ : St} (hC : Cx Γ l cX7_qOfBoth RX7 5 (some .int) Rm_X7_qOfBoth wM a (some (.int r)) σ) (x1 : Int32) (n : Nat) : ∀ (y2 : Int32) (y3 : Int32) (y4 : Int32), f_X7_qOfBoth_n45 σ x1 n y2 y3 y4 = some r → Γ σ 45 [(0, .ref (a 0)), (2, .int y2), (3, .int y3), (4, .int y4)] [] := by
  induction n with
  | zero =>
    intro y2 y3 y4  h
    have h : (none : Option Int32) = some r := h
    cases h
  | succ n ih =>
    intro y2 y3 y4  h
    exact t_X7_qOfBoth_n45_b hC x1    (f_X7_qOfBoth_n45 σ x1  n) ih y2 y3 y4  h
def f_X7_qOfBoth (σ : St) (x1 : Int32) : Option Int32 :=
  if in_b (0 : Int32) 2 = true then
    if in_b (1 : Int32) 2 = true then
      lt_ ((st_a σ 2 (0 : Int32).toNatClampNeg) + (st_a σ 2 (1 : Int32).toNatClampNeg)) fun v2 =>
      lt_ (if ((st_i σ 5) - (1 : Int32)) < (6 : Int32) then ((st_i σ 5) - (1 : Int32)) else (6 : Int32)) fun v3 =>
      if v2 ≤ (((1 : Int32) <<< (v3 &&& 31)) - (1 : Int32)) then
        if in_b x1 2 = true then
          lt_ (st_a σ 1 x1.toNatClampNeg) fun v4 =>
          f_X7_qOfBoth_n45 σ x1 fuel v2 v3 v4
        else none
      else
      some (-1 : Int32)
    else none
  else none
set_option maxRecDepth 100000 in
set_option maxHeartbeats 4000000 in
theorem con_X7_qOfBoth (l : Launch) (σ : St) (x1 : Int32) {r : Int32} (h : f_X7_qOfBoth σ x1 = some r) : Con l yX7_qOfBoth cX7_qOfBoth 5 (some .int) Rm_X7_qOfBoth wM (fun a => [.ref (a 0), .int x1]) σ (fun _ => some (.int r)) σ := by
  refine con_of (by decide) ⟨rfl, rfl⟩ (fun _ => Nat.le_of_ble_eq_true rfl) (fun Γ a hC => ?_)
  have hC : Cx Γ l cX7_qOfBoth RX7 5 (some .int) Rm_X7_qOfBoth wM a (some (.int r)) σ := hC
  show Γ σ 0 [(0, .ref (a 0)), (1, .int x1)] []
  unfold f_X7_qOfBoth at h
  refine r_aload_n hC dX7_qOfBoth_0 rfl 0 rfl ?_
  refine G7_60 hC dX7_qOfBoth_1 ?_
  refine r_iconst (v := 0) hC dX7_qOfBoth_4 (by decide) ?_
  obtain ⟨hi, h⟩ := inb_of h
  refine L_m_many hC hi dX7_qOfBoth_5 ?_
  refine r_aload_n hC dX7_qOfBoth_6 rfl 0 rfl ?_
  refine G7_60 hC dX7_qOfBoth_7 ?_
  refine r_iconst (v := 1) hC dX7_qOfBoth_10 (by decide) ?_
  obtain ⟨hi, h⟩ := inb_of h
  refine L_m_many hC hi dX7_qOfBoth_11 ?_
  refine r_iadd hC dX7_qOfBoth_12 ?_
  obtain ⟨v2, ev2, h⟩ := lt_of h
  refine r_istore_n (lv' := [(2, .int v2), (0, .ref (a 0)), (1, .int x1)]) hC dX7_qOfBoth_13 rfl (by decide) ev2 rfl ?_
  refine r_bipush (v := 6) hC dX7_qOfBoth_14 (by decide) ?_
  refine r_aload_n hC dX7_qOfBoth_16 rfl 1 rfl ?_
  refine G7_47 hC dX7_qOfBoth_17 ?_
  refine r_iconst (v := 1) hC dX7_qOfBoth_20 (by decide) ?_
  refine r_isub hC dX7_qOfBoth_21 ?_
  refine r_mmin hC dX7_qOfBoth_22 K7_278 ⟨Nat.le_of_ble_eq_true rfl, Nat.le_of_ble_eq_true rfl⟩ ?_
  obtain ⟨v3, ev3, h⟩ := lt_of h
  refine r_istore_n (lv' := [(3, .int v3), (2, .int v2), (0, .ref (a 0)), (1, .int x1)]) hC dX7_qOfBoth_25 rfl (by decide) ev3 rfl ?_
  refine r_iload_n hC dX7_qOfBoth_26 rfl 1 rfl ?_
  refine r_iconst (v := 1) hC dX7_qOfBoth_27 (by decide) ?_
  refine r_iload_n hC dX7_qOfBoth_28 rfl 0 rfl ?_
  refine r_ishl hC dX7_qOfBoth_29 ?_
  refine r_iconst (v := 1) hC dX7_qOfBoth_30 (by decide) ?_
  refine r_isub hC dX7_qOfBoth_31 ?_
  refine r_icmp_le hC 37 dX7_qOfBoth_32 (by decide) (fun q => ?_) (fun q => ?_)
  · replace h := if_p q h
    refine r_aload_n hC dX7_qOfBoth_37 rfl 2 rfl ?_
    refine G7_57 hC dX7_qOfBoth_38 ?_
    refine r_iload_n hC dX7_qOfBoth_41 rfl 3 rfl ?_
    obtain ⟨hi, h⟩ := inb_of h
    refine L_m_q hC hi dX7_qOfBoth_42 ?_
    obtain ⟨v4, ev4, h⟩ := lt_of h
    refine r_istore (lv' := [(4, .int v4), (3, .int v3), (2, .int v2), (0, .ref (a 0)), (1, .int x1)]) hC dX7_qOfBoth_43 (by decide) ev4 rfl ?_
    refine r_sub hC [3, 2, 1, 0] rfl ?_
    exact t_X7_qOfBoth_n45 hC x1 fuel v2 v3 v4 h
  · replace h := if_n q h
    refine r_iconst (v := -1) hC dX7_qOfBoth_35 (by decide) ?_
    exact r_iretP hC dX7_qOfBoth_36 h
abbrev Rm_X7_mergesInto : Room := { frames := 2, cells := 0, slots := 0, locals := 45 }
def f_X7_mergesInto_n13_b (x1 : Int32) (x2 : Int32) (self : St → Int32 → Option St) (σ : St) (y3 : Int32) : Option St :=
  if in_b x2 2 = true then
    if (st_a σ 2 x2.toNatClampNeg) ≤ y3 then
      if in_b x2 2 = true then
        lt_ (put_a σ 2 x2.toNatClampNeg (0 : Int32)) fun s1 =>
        some s1
      else none
    else
    (f_X7_at σ x2 y3).bind fun v2 =>
    (f_X7_comes σ x1 v2).bind fun s3 =>
    lt_ (y3 + (1 : Int32)) fun v4 =>
    self s3 v4
  else none
def f_X7_mergesInto_n13 (x1 : Int32) (x2 : Int32) : Nat → St → Int32 → Option St
  | 0 => fun _ _ => none
  | n + 1 => fun σ y3 => f_X7_mergesInto_n13_b x1 x2  (f_X7_mergesInto_n13 x1 x2  n) σ y3
set_option maxRecDepth 100000 in
set_option maxHeartbeats 4000000 in
theorem t_X7_mergesInto_n13_b {Γ : St → Nat → List (Nat × Value) → List Value → Prop} {l : Launch} {a : Nat → Nat} {t' : St} (hC : Cx Γ l cX7_mergesInto RX7 4 none Rm_X7_mergesInto wM a (none) t') (x1 : Int32) (x2 : Int32) (self : St → Int32 → Option St) (hself : ∀ (σ : St) (y3 : Int32), self σ y3 = some t' → Γ σ 13 [(0, .ref (a 0)), (1, .int x1), (2, .int x2), (3, .int y3)] []) (σ : St) (y3 : Int32) (h : f_X7_mergesInto_n13_b x1 x2 self σ y3 = some t') : Γ σ 13 [(0, .ref (a 0)), (1, .int x1), (2, .int x2), (3, .int y3)] [] := by
  unfold f_X7_mergesInto_n13_b at h
  refine r_iload_n hC dX7_mergesInto_13 rfl 3 rfl ?_
  refine r_aload_n hC dX7_mergesInto_14 rfl 0 rfl ?_
  refine G7_60 hC dX7_mergesInto_15 ?_
  refine r_iload_n hC dX7_mergesInto_18 rfl 2 rfl ?_
  obtain ⟨hi, h⟩ := inb_of h
  refine L_m_many hC hi dX7_mergesInto_19 ?_
  refine r_icmp_ge hC 40 dX7_mergesInto_20 (by decide) (fun q => ?_) (fun q => ?_)
  · replace h := if_p q h
    refine r_aload_n hC dX7_mergesInto_40 rfl 0 rfl ?_
    refine G7_60 hC dX7_mergesInto_41 ?_
    refine r_iload_n hC dX7_mergesInto_44 rfl 2 rfl ?_
    refine r_iconst (v := 0) hC dX7_mergesInto_45 (by decide) ?_
    obtain ⟨hi, h⟩ := inb_of h
    obtain ⟨s1, es1, h⟩ := lt_of h
    refine S_m_many hC es1 hi dX7_mergesInto_46 ?_
    exact r_vretS hC dX7_mergesInto_47 h
  · replace h := if_n q h
    refine r_aload_n hC dX7_mergesInto_23 rfl 0 rfl ?_
    refine r_iload_n hC dX7_mergesInto_24 rfl 1 rfl ?_
    refine r_aload_n hC dX7_mergesInto_25 rfl 0 rfl ?_
    refine r_iload_n hC dX7_mergesInto_26 rfl 2 rfl ?_
    refine r_iload_n hC dX7_mergesInto_27 rfl 3 rfl ?_
    obtain ⟨v2, hv2, h⟩ := bind_of h
    refine r_callV (As := [.int x2, .int y3]) (rest := [.int x1, .ref (a 0)]) hC (con_X7_at l σ x2 y3 hv2) K7_106 (ob7 a σ) rfl rfl rfl rfl ⟨Nat.le_of_ble_eq_true rfl, Nat.le_of_ble_eq_true rfl⟩ (Nat.le_of_ble_eq_true rfl) dX7_mergesInto_28 ?_
    obtain ⟨s3, hs3, h⟩ := bind_of h
    refine r_callV (As := [.int x1, .int v2]) (rest := []) hC (con_X7_comes l σ x1 v2 hs3) K7_155 (ob7 a σ) rfl rfl rfl rfl ⟨Nat.le_of_ble_eq_true rfl, Nat.le_of_ble_eq_true rfl⟩ (Nat.le_of_ble_eq_true rfl) dX7_mergesInto_31 ?_
    obtain ⟨v4, ev4, h⟩ := lt_of h
    refine r_iinc (c1 := 1) (lv' := [(3, .int v4), (0, .ref (a 0)), (1, .int x1), (2, .int x2)]) hC dX7_mergesInto_34 3 rfl (by decide) (by decide) ev4 rfl ?_
    refine r_goto hC 13 dX7_mergesInto_37 (by decide) ?_
    refine r_sub hC [1, 2, 3, 0] rfl ?_
    exact hself s3 v4 h
set_option maxRecDepth 100000 in
set_option maxHeartbeats 4000000 in
theorem t_X7_mergesInto_n13 {Γ : St → Nat → List (Nat × Value) → List Value → Prop} {l : Launch} {a : Nat → Nat} {t' : St} (hC : Cx Γ l cX7_mergesInto RX7 4 none Rm_X7_mergesInto wM a (none) t') (x1 : Int32) (x2 : Int32) (n : Nat) : ∀ (σ : St) (y3 : Int32), f_X7_mergesInto_n13 x1 x2 n σ y3 = some t' → Γ σ 13 [(0, .ref (a 0)), (1, .int x1), (2, .int x2), (3, .int y3)] [] := by
  induction n with
  | zero =>
    intro σ y3  h
    have h : (none : Option St) = some t' := h
    cases h
  | succ n ih =>
    intro σ y3  h
    exact t_X7_mergesInto_n13_b hC x1 x2    (f_X7_mergesInto_n13 x1 x2  n) ih σ y3  h
def f_X7_mergesInto (σ : St) (x1 : Int32) (x2 : Int32) : Option St :=
  (f_X7_qOfBoth σ x1).bind fun v5 =>
  if in_b x1 2 = true then
    lt_ (put_a σ 1 x1.toNatClampNeg v5) fun s6 =>
    f_X7_mergesInto_n13 x1 x2 fuel s6 (0 : Int32)
  else none
set_option maxRecDepth 100000 in
set_option maxHeartbeats 4000000 in
theorem con_X7_mergesInto (l : Launch) (σ : St) (x1 : Int32) (x2 : Int32) {t' : St} (h : f_X7_mergesInto σ x1 x2 = some t') : Con l yX7_mergesInto cX7_mergesInto 4 none Rm_X7_mergesInto wM (fun a => [.ref (a 0), .int x1, .int x2]) σ (fun _ => none) t' := by
  refine con_of (by decide) ⟨rfl, rfl⟩ (fun _ => Nat.le_of_ble_eq_true rfl) (fun Γ a hC => ?_)
  have hC : Cx Γ l cX7_mergesInto RX7 4 none Rm_X7_mergesInto wM a (none) t' := hC
  show Γ σ 0 [(0, .ref (a 0)), (1, .int x1), (2, .int x2)] []
  unfold f_X7_mergesInto at h
  refine r_aload_n hC dX7_mergesInto_0 rfl 0 rfl ?_
  refine G7_57 hC dX7_mergesInto_1 ?_
  refine r_iload_n hC dX7_mergesInto_4 rfl 1 rfl ?_
  refine r_aload_n hC dX7_mergesInto_5 rfl 0 rfl ?_
  refine r_iload_n hC dX7_mergesInto_6 rfl 1 rfl ?_
  obtain ⟨v5, hv5, h⟩ := bind_of h
  refine r_callV (As := [.int x1]) (rest := [.int x1, .ref (a 3)]) hC (con_X7_qOfBoth l σ x1 hv5) K7_281 (ob7 a σ) rfl rfl rfl rfl ⟨Nat.le_of_ble_eq_true rfl, Nat.le_of_ble_eq_true rfl⟩ (Nat.le_of_ble_eq_true rfl) dX7_mergesInto_7 ?_
  obtain ⟨hi, h⟩ := inb_of h
  obtain ⟨s6, es6, h⟩ := lt_of h
  refine S_m_q hC es6 hi dX7_mergesInto_10 ?_
  refine r_iconst (v := 0) hC dX7_mergesInto_11 (by decide) ?_
  refine r_istore_n (lv' := [(3, .int (0 : Int32)), (0, .ref (a 0)), (1, .int x1), (2, .int x2)]) hC dX7_mergesInto_12 rfl (by decide) rfl rfl ?_
  refine r_sub hC [1, 2, 3, 0] rfl ?_
  exact t_X7_mergesInto_n13 hC x1 x2 fuel s6 (0 : Int32) h
abbrev Rm_X7_merges : Room := { frames := 3, cells := 0, slots := 0, locals := 68 }
def f_X7_merges (σ : St) : Option (Int32 × St) :=
  lt_ (put_i σ 0 (0 : Int32)) fun s1 =>
  if in_b (1 : Int32) 2 = true then
    if (st_a s1 2 (1 : Int32).toNatClampNeg) = 0 then
      some ((-2 : Int32), s1)
    else
    (f_X7_qOfBoth s1 (0 : Int32)).bind fun v2 =>
    if 0 ≤ v2 then
      if in_b (1 : Int32) 2 = true then
        lt_ (st_a s1 2 (1 : Int32).toNatClampNeg) fun v3 =>
        (f_X7_mergesInto s1 (0 : Int32) (1 : Int32)).bind fun s4 =>
        lt_ (put_i s4 1 (0 : Int32)) fun s5 =>
        (f_X7_slots s5 (0 : Int32)).bind fun v6 =>
        (f_X7_enters s5 (v6.toInt64)).bind fun s7 =>
        if in_b (0 : Int32) 2 = true then
          (f_X7_enters s7 (((st_a s7 2 (0 : Int32).toNatClampNeg)).toInt64)).bind fun s8 =>
          some (v3, s8)
        else none
      else none
    else
    some ((-5 : Int32), s1)
  else none
set_option maxRecDepth 100000 in
set_option maxHeartbeats 4000000 in
theorem con_X7_merges (l : Launch) (σ : St) {r : Int32} {t' : St} (h : f_X7_merges σ = some (r, t')) : Con l yX7_merges cX7_merges 2 (some .int) Rm_X7_merges wM (fun a => [.ref (a 0)]) σ (fun _ => some (.int r)) t' := by
  refine con_of (by decide) ⟨rfl, rfl⟩ (fun _ => Nat.le_of_ble_eq_true rfl) (fun Γ a hC => ?_)
  have hC : Cx Γ l cX7_merges RX7 2 (some .int) Rm_X7_merges wM a (some (.int r)) t' := hC
  show Γ σ 0 [(0, .ref (a 0))] []
  unfold f_X7_merges at h
  refine r_aload_n hC dX7_merges_0 rfl 0 rfl ?_
  refine r_iconst (v := 0) hC dX7_merges_1 (by decide) ?_
  obtain ⟨s1, es1, h⟩ := lt_of h
  refine P7_1 hC es1 dX7_merges_2 ?_
  refine r_aload_n hC dX7_merges_5 rfl 0 rfl ?_
  refine G7_60 hC dX7_merges_6 ?_
  refine r_iconst (v := 1) hC dX7_merges_9 (by decide) ?_
  obtain ⟨hi, h⟩ := inb_of h
  refine L_m_many hC hi dX7_merges_10 ?_
  refine r_if_ne hC 17 dX7_merges_11 (by decide) (fun q => ?_) (fun q => ?_)
  · replace h := if_n q h
    refine r_aload_n hC dX7_merges_17 rfl 0 rfl ?_
    refine r_iconst (v := 0) hC dX7_merges_18 (by decide) ?_
    obtain ⟨v2, hv2, h⟩ := bind_of h
    refine r_callV (As := [.int (0 : Int32)]) (rest := []) hC (con_X7_qOfBoth l s1 (0 : Int32) hv2) K7_281 (ob7 a s1) rfl rfl rfl rfl ⟨Nat.le_of_ble_eq_true rfl, Nat.le_of_ble_eq_true rfl⟩ (Nat.le_of_ble_eq_true rfl) dX7_merges_19 ?_
    refine r_if_ge hC 28 dX7_merges_22 (by decide) (fun q => ?_) (fun q => ?_)
    · replace h := if_p q h
      refine r_aload_n hC dX7_merges_28 rfl 0 rfl ?_
      refine G7_60 hC dX7_merges_29 ?_
      refine r_iconst (v := 1) hC dX7_merges_32 (by decide) ?_
      obtain ⟨hi, h⟩ := inb_of h
      refine L_m_many hC hi dX7_merges_33 ?_
      obtain ⟨v3, ev3, h⟩ := lt_of h
      refine r_istore_n (lv' := [(1, .int v3), (0, .ref (a 0))]) hC dX7_merges_34 rfl (by decide) ev3 rfl ?_
      refine r_aload_n hC dX7_merges_35 rfl 1 rfl ?_
      refine r_iconst (v := 0) hC dX7_merges_36 (by decide) ?_
      refine r_iconst (v := 1) hC dX7_merges_37 (by decide) ?_
      obtain ⟨s4, hs4, h⟩ := bind_of h
      refine r_callV (As := [.int (0 : Int32), .int (1 : Int32)]) (rest := []) hC (con_X7_mergesInto l s1 (0 : Int32) (1 : Int32) hs4) K7_284 (ob7 a s1) rfl rfl rfl rfl ⟨Nat.le_of_ble_eq_true rfl, Nat.le_of_ble_eq_true rfl⟩ (Nat.le_of_ble_eq_true rfl) dX7_merges_38 ?_
      refine r_aload_n hC dX7_merges_41 rfl 1 rfl ?_
      refine r_iconst (v := 0) hC dX7_merges_42 (by decide) ?_
      obtain ⟨s5, es5, h⟩ := lt_of h
      refine P7_11 hC es5 dX7_merges_43 ?_
      refine r_aload_n hC dX7_merges_46 rfl 1 rfl ?_
      refine r_aload_n hC dX7_merges_47 rfl 1 rfl ?_
      refine r_iconst (v := 0) hC dX7_merges_48 (by decide) ?_
      obtain ⟨v6, hv6, h⟩ := bind_of h
      refine r_callV (As := [.int (0 : Int32)]) (rest := [.ref (a 0)]) hC (con_X7_slots l s5 (0 : Int32) hv6) K7_121 (ob7 a s5) rfl rfl rfl rfl ⟨Nat.le_of_ble_eq_true rfl, Nat.le_of_ble_eq_true rfl⟩ (Nat.le_of_ble_eq_true rfl) dX7_merges_49 ?_
      refine r_i2l hC dX7_merges_52 ?_
      obtain ⟨s7, hs7, h⟩ := bind_of h
      refine r_callV (As := [.long (v6.toInt64)]) (rest := []) hC (con_X7_enters l s5 (v6.toInt64) hs7) K7_145 (ob7 a s5) rfl rfl rfl rfl ⟨Nat.le_of_ble_eq_true rfl, Nat.le_of_ble_eq_true rfl⟩ (Nat.le_of_ble_eq_true rfl) dX7_merges_53 ?_
      refine r_aload_n hC dX7_merges_56 rfl 1 rfl ?_
      refine r_aload_n hC dX7_merges_57 rfl 1 rfl ?_
      refine G7_60 hC dX7_merges_58 ?_
      refine r_iconst (v := 0) hC dX7_merges_61 (by decide) ?_
      obtain ⟨hi, h⟩ := inb_of h
      refine L_m_many hC hi dX7_merges_62 ?_
      refine r_i2l hC dX7_merges_63 ?_
      obtain ⟨s8, hs8, h⟩ := bind_of h
      refine r_callV (As := [.long (((st_a s7 2 (0 : Int32).toNatClampNeg)).toInt64)]) (rest := []) hC (con_X7_enters l s7 (((st_a s7 2 (0 : Int32).toNatClampNeg)).toInt64) hs8) K7_145 (ob7 a s7) rfl rfl rfl rfl ⟨Nat.le_of_ble_eq_true rfl, Nat.le_of_ble_eq_true rfl⟩ (Nat.le_of_ble_eq_true rfl) dX7_merges_64 ?_
      refine r_iload_n hC dX7_merges_67 rfl 0 rfl ?_
      exact r_iretS hC dX7_merges_68 h
    · replace h := if_n q h
      refine r_bipush (v := -5) hC dX7_merges_25 (by decide) ?_
      exact r_iretS hC dX7_merges_27 h
  · replace h := if_p q h
    refine r_bipush (v := -2) hC dX7_merges_14 (by decide) ?_
    exact r_iretS hC dX7_merges_16 h
abbrev Rm_X7_nth : Room := { frames := 3, cells := 0, slots := 0, locals := 69 }
def f_X7_nth (σ : St) (x1 : Int32) (x2 : Int32) : Option (Int32 × St) :=
  lt_ (put_i σ 0 (0 : Int32)) fun s1 =>
  if (f_X7_isFile s1 x1) = 0 then
    some ((-1 : Int32), s1)
  else
  if in_b x1 2 = true then
    if (f_X7_in s1 (x2.toInt64) (0 : Int64) ((((st_a s1 2 x1.toNatClampNeg) - (1 : Int32))).toInt64)) = 0 then
      some ((-1 : Int32), s1)
    else
    (f_X7_lies s1 x1).bind fun s2 =>
    lt_ (put_i s2 1 (0 : Int32)) fun s3 =>
    if in_b x2 64 = true then
      (f_X7_enters s3 (((st_a s3 4 x2.toNatClampNeg)).toInt64)).bind fun s4 =>
      (f_X7_at s4 x1 x2).bind fun v5 =>
      some (v5, s4)
    else none
  else none
set_option maxRecDepth 100000 in
set_option maxHeartbeats 4000000 in
theorem con_X7_nth (l : Launch) (σ : St) (x1 : Int32) (x2 : Int32) {r : Int32} {t' : St} (h : f_X7_nth σ x1 x2 = some (r, t')) : Con l yX7_nth cX7_nth 3 (some .int) Rm_X7_nth wM (fun a => [.ref (a 0), .int x1, .int x2]) σ (fun _ => some (.int r)) t' := by
  refine con_of (by decide) ⟨rfl, rfl⟩ (fun _ => Nat.le_of_ble_eq_true rfl) (fun Γ a hC => ?_)
  have hC : Cx Γ l cX7_nth RX7 3 (some .int) Rm_X7_nth wM a (some (.int r)) t' := hC
  show Γ σ 0 [(0, .ref (a 0)), (1, .int x1), (2, .int x2)] []
  unfold f_X7_nth at h
  refine r_aload_n hC dX7_nth_0 rfl 0 rfl ?_
  refine r_iconst (v := 0) hC dX7_nth_1 (by decide) ?_
  obtain ⟨s1, es1, h⟩ := lt_of h
  refine P7_1 hC es1 dX7_nth_2 ?_
  refine r_iload_n hC dX7_nth_5 rfl 1 rfl ?_
  refine r_callS (As := [.int x1]) (rest := []) hC (con_X7_isFile l s1 x1 rfl) K7_136 rfl rfl rfl ⟨Nat.le_of_ble_eq_true rfl, Nat.le_of_ble_eq_true rfl⟩ (Nat.le_of_ble_eq_true rfl) dX7_nth_6 ?_
  refine r_if_eq hC 30 dX7_nth_9 (by decide) (fun q => ?_) (fun q => ?_)
  · replace h := if_p q h
    refine r_iconst (v := -1) hC dX7_nth_30 (by decide) ?_
    exact r_iretS hC dX7_nth_31 h
  · replace h := if_n q h
    refine r_iload_n hC dX7_nth_12 rfl 2 rfl ?_
    refine r_i2l hC dX7_nth_13 ?_
    refine r_lconst (v := 0) hC dX7_nth_14 (by decide) ?_
    refine r_aload_n hC dX7_nth_15 rfl 0 rfl ?_
    refine G7_60 hC dX7_nth_16 ?_
    refine r_iload_n hC dX7_nth_19 rfl 1 rfl ?_
    obtain ⟨hi, h⟩ := inb_of h
    refine L_m_many hC hi dX7_nth_20 ?_
    refine r_iconst (v := 1) hC dX7_nth_21 (by decide) ?_
    refine r_isub hC dX7_nth_22 ?_
    refine r_i2l hC dX7_nth_23 ?_
    refine r_callS (As := [.long (x2.toInt64), .long (0 : Int64), .long ((((st_a s1 2 x1.toNatClampNeg) - (1 : Int32))).toInt64)]) (rest := []) hC (con_X7_in l s1 (x2.toInt64) (0 : Int64) ((((st_a s1 2 x1.toNatClampNeg) - (1 : Int32))).toInt64) rfl) K7_21 rfl rfl rfl ⟨Nat.le_of_ble_eq_true rfl, Nat.le_of_ble_eq_true rfl⟩ (Nat.le_of_ble_eq_true rfl) dX7_nth_24 ?_
    refine r_if_ne hC 32 dX7_nth_27 (by decide) (fun q => ?_) (fun q => ?_)
    · replace h := if_n q h
      refine r_aload_n hC dX7_nth_32 rfl 0 rfl ?_
      refine r_iload_n hC dX7_nth_33 rfl 1 rfl ?_
      obtain ⟨s2, hs2, h⟩ := bind_of h
      refine r_callV (As := [.int x1]) (rest := []) hC (con_X7_lies l s1 x1 hs2) K7_162 (ob7 a s1) rfl rfl rfl rfl ⟨Nat.le_of_ble_eq_true rfl, Nat.le_of_ble_eq_true rfl⟩ (Nat.le_of_ble_eq_true rfl) dX7_nth_34 ?_
      refine r_aload_n hC dX7_nth_37 rfl 0 rfl ?_
      refine r_iconst (v := 0) hC dX7_nth_38 (by decide) ?_
      obtain ⟨s3, es3, h⟩ := lt_of h
      refine P7_11 hC es3 dX7_nth_39 ?_
      refine r_aload_n hC dX7_nth_42 rfl 0 rfl ?_
      refine r_aload_n hC dX7_nth_43 rfl 0 rfl ?_
      refine G7_66 hC dX7_nth_44 ?_
      refine r_iload_n hC dX7_nth_47 rfl 2 rfl ?_
      obtain ⟨hi, h⟩ := inb_of h
      refine L_m_where hC hi dX7_nth_48 ?_
      refine r_i2l hC dX7_nth_49 ?_
      obtain ⟨s4, hs4, h⟩ := bind_of h
      refine r_callV (As := [.long (((st_a s3 4 x2.toNatClampNeg)).toInt64)]) (rest := []) hC (con_X7_enters l s3 (((st_a s3 4 x2.toNatClampNeg)).toInt64) hs4) K7_145 (ob7 a s3) rfl rfl rfl rfl ⟨Nat.le_of_ble_eq_true rfl, Nat.le_of_ble_eq_true rfl⟩ (Nat.le_of_ble_eq_true rfl) dX7_nth_50 ?_
      refine r_aload_n hC dX7_nth_53 rfl 0 rfl ?_
      refine r_iload_n hC dX7_nth_54 rfl 1 rfl ?_
      refine r_iload_n hC dX7_nth_55 rfl 2 rfl ?_
      obtain ⟨v5, hv5, h⟩ := bind_of h
      refine r_callV (As := [.int x1, .int x2]) (rest := []) hC (con_X7_at l s4 x1 x2 hv5) K7_106 (ob7 a s4) rfl rfl rfl rfl ⟨Nat.le_of_ble_eq_true rfl, Nat.le_of_ble_eq_true rfl⟩ (Nat.le_of_ble_eq_true rfl) dX7_nth_56 ?_
      exact r_iretS hC dX7_nth_59 h
    · replace h := if_p q h
      refine r_iconst (v := -1) hC dX7_nth_30 (by decide) ?_
      exact r_iretS hC dX7_nth_31 h
abbrev Rm_X7_parts : Room := { frames := 2, cells := 0, slots := 0, locals := 45 }
def f_X7_parts_n96_b (x1 : Int32) (self : St → Int32 → Int32 → Int32 → Option (Int32 × St)) (σ : St) (y2 : Int32) (y3 : Int32) (y4 : Int32) : Option (Int32 × St) :=
  if in_b (0 : Int32) 2 = true then
    if (st_a σ 2 (0 : Int32).toNatClampNeg) ≤ y4 then
      if in_b (0 : Int32) 2 = true then
        lt_ (put_a σ 2 (0 : Int32).toNatClampNeg y2) fun s1 =>
        some (y3, s1)
      else none
    else
    (f_X7_at σ (0 : Int32) y4).bind fun v2 =>
    (f_X7_comes σ (1 : Int32) v2).bind fun s3 =>
    lt_ (y4 + (1 : Int32)) fun v4 =>
    self s3 y2 y3 v4
  else none
def f_X7_parts_n96 (x1 : Int32) : Nat → St → Int32 → Int32 → Int32 → Option (Int32 × St)
  | 0 => fun _ _ _ _ => none
  | n + 1 => fun σ y2 y3 y4 => f_X7_parts_n96_b x1  (f_X7_parts_n96 x1  n) σ y2 y3 y4
set_option maxRecDepth 100000 in
set_option maxHeartbeats 4000000 in
theorem t_X7_parts_n96_b {Γ : St → Nat → List (Nat × Value) → List Value → Prop} {l : Launch} {a : Nat → Nat} {r : Int32} {t' : St} (hC : Cx Γ l cX7_parts RX7 5 (some .int) Rm_X7_parts wM a (some (.int r)) t') (x1 : Int32) (self : St → Int32 → Int32 → Int32 → Option (Int32 × St)) (hself : ∀ (σ : St) (y2 : Int32) (y3 : Int32) (y4 : Int32), self σ y2 y3 y4 = some (r, t') → Γ σ 96 [(0, .ref (a 0)), (2, .int y2), (3, .int y3), (4, .int y4)] []) (σ : St) (y2 : Int32) (y3 : Int32) (y4 : Int32) (h : f_X7_parts_n96_b x1 self σ y2 y3 y4 = some (r, t')) : Γ σ 96 [(0, .ref (a 0)), (2, .int y2), (3, .int y3), (4, .int y4)] [] := by
  unfold f_X7_parts_n96_b at h
  refine r_iload hC dX7_parts_96 3 rfl ?_
  refine r_aload_n hC dX7_parts_98 rfl 0 rfl ?_
  refine G7_60 hC dX7_parts_99 ?_
  refine r_iconst (v := 0) hC dX7_parts_102 (by decide) ?_
  obtain ⟨hi, h⟩ := inb_of h
  refine L_m_many hC hi dX7_parts_103 ?_
  refine r_icmp_ge hC 125 dX7_parts_104 (by decide) (fun q => ?_) (fun q => ?_)
  · replace h := if_p q h
    refine r_aload_n hC dX7_parts_125 rfl 0 rfl ?_
    refine G7_60 hC dX7_parts_126 ?_
    refine r_iconst (v := 0) hC dX7_parts_129 (by decide) ?_
    refine r_iload_n hC dX7_parts_130 rfl 1 rfl ?_
    obtain ⟨hi, h⟩ := inb_of h
    obtain ⟨s1, es1, h⟩ := lt_of h
    refine S_m_many hC es1 hi dX7_parts_131 ?_
    refine r_iload_n hC dX7_parts_132 rfl 2 rfl ?_
    exact r_iretS hC dX7_parts_133 h
  · replace h := if_n q h
    refine r_aload_n hC dX7_parts_107 rfl 0 rfl ?_
    refine r_iconst (v := 1) hC dX7_parts_108 (by decide) ?_
    refine r_aload_n hC dX7_parts_109 rfl 0 rfl ?_
    refine r_iconst (v := 0) hC dX7_parts_110 (by decide) ?_
    refine r_iload hC dX7_parts_111 3 rfl ?_
    obtain ⟨v2, hv2, h⟩ := bind_of h
    refine r_callV (As := [.int (0 : Int32), .int y4]) (rest := [.int (1 : Int32), .ref (a 0)]) hC (con_X7_at l σ (0 : Int32) y4 hv2) K7_106 (ob7 a σ) rfl rfl rfl rfl ⟨Nat.le_of_ble_eq_true rfl, Nat.le_of_ble_eq_true rfl⟩ (Nat.le_of_ble_eq_true rfl) dX7_parts_113 ?_
    obtain ⟨s3, hs3, h⟩ := bind_of h
    refine r_callV (As := [.int (1 : Int32), .int v2]) (rest := []) hC (con_X7_comes l σ (1 : Int32) v2 hs3) K7_155 (ob7 a σ) rfl rfl rfl rfl ⟨Nat.le_of_ble_eq_true rfl, Nat.le_of_ble_eq_true rfl⟩ (Nat.le_of_ble_eq_true rfl) dX7_parts_116 ?_
    obtain ⟨v4, ev4, h⟩ := lt_of h
    refine r_iinc (c1 := 1) (lv' := [(4, .int v4), (0, .ref (a 0)), (2, .int y2), (3, .int y3)]) hC dX7_parts_119 3 rfl (by decide) (by decide) ev4 rfl ?_
    refine r_goto hC 96 dX7_parts_122 (by decide) ?_
    refine r_sub hC [1, 2, 3, 0] rfl ?_
    exact hself s3 y2 y3 v4 h
set_option maxRecDepth 100000 in
set_option maxHeartbeats 4000000 in
theorem t_X7_parts_n96 {Γ : St → Nat → List (Nat × Value) → List Value → Prop} {l : Launch} {a : Nat → Nat} {r : Int32} {t' : St} (hC : Cx Γ l cX7_parts RX7 5 (some .int) Rm_X7_parts wM a (some (.int r)) t') (x1 : Int32) (n : Nat) : ∀ (σ : St) (y2 : Int32) (y3 : Int32) (y4 : Int32), f_X7_parts_n96 x1 n σ y2 y3 y4 = some (r, t') → Γ σ 96 [(0, .ref (a 0)), (2, .int y2), (3, .int y3), (4, .int y4)] [] := by
  induction n with
  | zero =>
    intro σ y2 y3 y4  h
    have h : (none : Option (Int32 × St)) = some (r, t') := h
    cases h
  | succ n ih =>
    intro σ y2 y3 y4  h
    exact t_X7_parts_n96_b hC x1    (f_X7_parts_n96 x1  n) ih σ y2 y3 y4  h
def f_X7_parts_n53 (x1 : Int32) (σ : St) (y2 : Int32) : Option (Int32 × St) :=
  if in_b (0 : Int32) 2 = true then
    lt_ ((st_a σ 2 (0 : Int32).toNatClampNeg) - y2) fun v7 =>
    if v7 = 0 then
      some ((-2 : Int32), σ)
    else
    if in_b (1 : Int32) 2 = true then
      if (st_a σ 2 (1 : Int32).toNatClampNeg) ≤ 0 then
        if in_b (0 : Int32) 2 = true then
          if in_b (1 : Int32) 2 = true then
            lt_ (put_a σ 1 (1 : Int32).toNatClampNeg (st_a σ 1 (0 : Int32).toNatClampNeg)) fun s8 =>
            f_X7_parts_n96 x1 fuel s8 y2 v7 y2
          else none
        else none
      else
      some ((-3 : Int32), σ)
    else none
  else none
set_option maxRecDepth 100000 in
set_option maxHeartbeats 4000000 in
theorem t_X7_parts_n53 {Γ : St → Nat → List (Nat × Value) → List Value → Prop} {l : Launch} {a : Nat → Nat} {r : Int32} {t' : St} (hC : Cx Γ l cX7_parts RX7 5 (some .int) Rm_X7_parts wM a (some (.int r)) t') (x1 : Int32) (σ : St) (y2 : Int32) (h : f_X7_parts_n53 x1 σ y2 = some (r, t')) : Γ σ 53 [(0, .ref (a 0)), (2, .int y2)] [] := by
  unfold f_X7_parts_n53 at h
  refine r_aload_n hC dX7_parts_53 rfl 0 rfl ?_
  refine G7_60 hC dX7_parts_54 ?_
  refine r_iconst (v := 0) hC dX7_parts_57 (by decide) ?_
  obtain ⟨hi, h⟩ := inb_of h
  refine L_m_many hC hi dX7_parts_58 ?_
  refine r_iload_n hC dX7_parts_59 rfl 1 rfl ?_
  refine r_isub hC dX7_parts_60 ?_
  obtain ⟨v7, ev7, h⟩ := lt_of h
  refine r_istore_n (lv' := [(3, .int v7), (0, .ref (a 0)), (2, .int y2)]) hC dX7_parts_61 rfl (by decide) ev7 rfl ?_
  refine r_iload_n hC dX7_parts_62 rfl 0 rfl ?_
  refine r_if_ne hC 69 dX7_parts_63 (by decide) (fun q => ?_) (fun q => ?_)
  · replace h := if_n q h
    refine r_aload_n hC dX7_parts_69 rfl 1 rfl ?_
    refine G7_60 hC dX7_parts_70 ?_
    refine r_iconst (v := 1) hC dX7_parts_73 (by decide) ?_
    obtain ⟨hi, h⟩ := inb_of h
    refine L_m_many hC hi dX7_parts_74 ?_
    refine r_if_le hC 81 dX7_parts_75 (by decide) (fun q => ?_) (fun q => ?_)
    · replace h := if_p q h
      refine r_aload_n hC dX7_parts_81 rfl 1 rfl ?_
      refine G7_57 hC dX7_parts_82 ?_
      refine r_iconst (v := 1) hC dX7_parts_85 (by decide) ?_
      refine r_aload_n hC dX7_parts_86 rfl 1 rfl ?_
      refine G7_57 hC dX7_parts_87 ?_
      refine r_iconst (v := 0) hC dX7_parts_90 (by decide) ?_
      obtain ⟨hi, h⟩ := inb_of h
      refine L_m_q hC hi dX7_parts_91 ?_
      obtain ⟨hi, h⟩ := inb_of h
      obtain ⟨s8, es8, h⟩ := lt_of h
      refine S_m_q hC es8 hi dX7_parts_92 ?_
      refine r_iload_n hC dX7_parts_93 rfl 2 rfl ?_
      refine r_istore (lv' := [(4, .int y2), (3, .int v7), (0, .ref (a 0)), (2, .int y2)]) hC dX7_parts_94 (by decide) rfl rfl ?_
      refine r_sub hC [2, 3, 1, 0] rfl ?_
      exact t_X7_parts_n96 hC x1 fuel s8 y2 v7 y2 h
    · replace h := if_n q h
      refine r_bipush (v := -3) hC dX7_parts_78 (by decide) ?_
      exact r_iretS hC dX7_parts_80 h
  · replace h := if_p q h
    refine r_bipush (v := -2) hC dX7_parts_66 (by decide) ?_
    exact r_iretS hC dX7_parts_68 h
def f_X7_parts_n27_b (x1 : Int32) (self : St → Int32 → Option (Int32 × St)) (σ : St) (y2 : Int32) : Option (Int32 × St) :=
  if in_b (0 : Int32) 2 = true then
    if (st_a σ 2 (0 : Int32).toNatClampNeg) ≤ y2 then
      f_X7_parts_n53 x1 σ y2
    else
    (f_X7_at σ (0 : Int32) y2).bind fun v5 =>
    if x1 ≤ v5 then
      f_X7_parts_n53 x1 σ y2
    else
    lt_ (y2 + (1 : Int32)) fun v6 =>
    self σ v6
  else none
def f_X7_parts_n27 (x1 : Int32) : Nat → St → Int32 → Option (Int32 × St)
  | 0 => fun _ _ => none
  | n + 1 => fun σ y2 => f_X7_parts_n27_b x1  (f_X7_parts_n27 x1  n) σ y2
set_option maxRecDepth 100000 in
set_option maxHeartbeats 4000000 in
theorem t_X7_parts_n27_b {Γ : St → Nat → List (Nat × Value) → List Value → Prop} {l : Launch} {a : Nat → Nat} {r : Int32} {t' : St} (hC : Cx Γ l cX7_parts RX7 5 (some .int) Rm_X7_parts wM a (some (.int r)) t') (x1 : Int32) (self : St → Int32 → Option (Int32 × St)) (hself : ∀ (σ : St) (y2 : Int32), self σ y2 = some (r, t') → Γ σ 27 [(0, .ref (a 0)), (1, .int x1), (2, .int y2)] []) (σ : St) (y2 : Int32) (h : f_X7_parts_n27_b x1 self σ y2 = some (r, t')) : Γ σ 27 [(0, .ref (a 0)), (1, .int x1), (2, .int y2)] [] := by
  unfold f_X7_parts_n27_b at h
  refine r_iload_n hC dX7_parts_27 rfl 2 rfl ?_
  refine r_aload_n hC dX7_parts_28 rfl 0 rfl ?_
  refine G7_60 hC dX7_parts_29 ?_
  refine r_iconst (v := 0) hC dX7_parts_32 (by decide) ?_
  obtain ⟨hi, h⟩ := inb_of h
  refine L_m_many hC hi dX7_parts_33 ?_
  refine r_icmp_ge hC 53 dX7_parts_34 (by decide) (fun q => ?_) (fun q => ?_)
  · replace h := if_p q h
    refine r_sub hC [0, 2] rfl ?_
    exact t_X7_parts_n53 hC x1 σ y2 h
  · replace h := if_n q h
    refine r_aload_n hC dX7_parts_37 rfl 0 rfl ?_
    refine r_iconst (v := 0) hC dX7_parts_38 (by decide) ?_
    refine r_iload_n hC dX7_parts_39 rfl 2 rfl ?_
    obtain ⟨v5, hv5, h⟩ := bind_of h
    refine r_callV (As := [.int (0 : Int32), .int y2]) (rest := []) hC (con_X7_at l σ (0 : Int32) y2 hv5) K7_106 (ob7 a σ) rfl rfl rfl rfl ⟨Nat.le_of_ble_eq_true rfl, Nat.le_of_ble_eq_true rfl⟩ (Nat.le_of_ble_eq_true rfl) dX7_parts_40 ?_
    refine r_iload_n hC dX7_parts_43 rfl 1 rfl ?_
    refine r_icmp_ge hC 53 dX7_parts_44 (by decide) (fun q => ?_) (fun q => ?_)
    · replace h := if_p q h
      refine r_sub hC [0, 2] rfl ?_
      exact t_X7_parts_n53 hC x1 σ y2 h
    · replace h := if_n q h
      obtain ⟨v6, ev6, h⟩ := lt_of h
      refine r_iinc (c1 := 1) (lv' := [(2, .int v6), (0, .ref (a 0)), (1, .int x1)]) hC dX7_parts_47 2 rfl (by decide) (by decide) ev6 rfl ?_
      refine r_goto hC 27 dX7_parts_50 (by decide) ?_
      refine r_sub hC [1, 2, 0] rfl ?_
      exact hself σ v6 h
set_option maxRecDepth 100000 in
set_option maxHeartbeats 4000000 in
theorem t_X7_parts_n27 {Γ : St → Nat → List (Nat × Value) → List Value → Prop} {l : Launch} {a : Nat → Nat} {r : Int32} {t' : St} (hC : Cx Γ l cX7_parts RX7 5 (some .int) Rm_X7_parts wM a (some (.int r)) t') (x1 : Int32) (n : Nat) : ∀ (σ : St) (y2 : Int32), f_X7_parts_n27 x1 n σ y2 = some (r, t') → Γ σ 27 [(0, .ref (a 0)), (1, .int x1), (2, .int y2)] [] := by
  induction n with
  | zero =>
    intro σ y2  h
    have h : (none : Option (Int32 × St)) = some (r, t') := h
    cases h
  | succ n ih =>
    intro σ y2  h
    exact t_X7_parts_n27_b hC x1    (f_X7_parts_n27 x1  n) ih σ y2  h
def f_X7_parts (σ : St) (x1 : Int32) : Option (Int32 × St) :=
  lt_ (put_i σ 0 (0 : Int32)) fun s9 =>
  if (f_X7_in s9 (x1.toInt64) (0 : Int64) (((((1 : Int32) <<< ((st_i s9 5) &&& 31)) - (1 : Int32))).toInt64)) = 0 then
    some ((-1 : Int32), s9)
  else
  f_X7_parts_n27 x1 fuel s9 (0 : Int32)
set_option maxRecDepth 100000 in
set_option maxHeartbeats 4000000 in
theorem con_X7_parts (l : Launch) (σ : St) (x1 : Int32) {r : Int32} {t' : St} (h : f_X7_parts σ x1 = some (r, t')) : Con l yX7_parts cX7_parts 5 (some .int) Rm_X7_parts wM (fun a => [.ref (a 0), .int x1]) σ (fun _ => some (.int r)) t' := by
  refine con_of (by decide) ⟨rfl, rfl⟩ (fun _ => Nat.le_of_ble_eq_true rfl) (fun Γ a hC => ?_)
  have hC : Cx Γ l cX7_parts RX7 5 (some .int) Rm_X7_parts wM a (some (.int r)) t' := hC
  show Γ σ 0 [(0, .ref (a 0)), (1, .int x1)] []
  unfold f_X7_parts at h
  refine r_aload_n hC dX7_parts_0 rfl 0 rfl ?_
  refine r_iconst (v := 0) hC dX7_parts_1 (by decide) ?_
  obtain ⟨s9, es9, h⟩ := lt_of h
  refine P7_1 hC es9 dX7_parts_2 ?_
  refine r_iload_n hC dX7_parts_5 rfl 1 rfl ?_
  refine r_i2l hC dX7_parts_6 ?_
  refine r_lconst (v := 0) hC dX7_parts_7 (by decide) ?_
  refine r_iconst (v := 1) hC dX7_parts_8 (by decide) ?_
  refine r_aload_n hC dX7_parts_9 rfl 0 rfl ?_
  refine G7_47 hC dX7_parts_10 ?_
  refine r_ishl hC dX7_parts_13 ?_
  refine r_iconst (v := 1) hC dX7_parts_14 (by decide) ?_
  refine r_isub hC dX7_parts_15 ?_
  refine r_i2l hC dX7_parts_16 ?_
  refine r_callS (As := [.long (x1.toInt64), .long (0 : Int64), .long (((((1 : Int32) <<< ((st_i s9 5) &&& 31)) - (1 : Int32))).toInt64)]) (rest := []) hC (con_X7_in l s9 (x1.toInt64) (0 : Int64) (((((1 : Int32) <<< ((st_i s9 5) &&& 31)) - (1 : Int32))).toInt64) rfl) K7_21 rfl rfl rfl ⟨Nat.le_of_ble_eq_true rfl, Nat.le_of_ble_eq_true rfl⟩ (Nat.le_of_ble_eq_true rfl) dX7_parts_17 ?_
  refine r_if_ne hC 25 dX7_parts_20 (by decide) (fun q => ?_) (fun q => ?_)
  · replace h := if_n q h
    refine r_iconst (v := 0) hC dX7_parts_25 (by decide) ?_
    refine r_istore_n (lv' := [(2, .int (0 : Int32)), (0, .ref (a 0)), (1, .int x1)]) hC dX7_parts_26 rfl (by decide) rfl rfl ?_
    refine r_sub hC [1, 2, 0] rfl ?_
    exact t_X7_parts_n27 hC x1 fuel s9 (0 : Int32) h
  · replace h := if_p q h
    refine r_iconst (v := -1) hC dX7_parts_23 (by decide) ?_
    exact r_iretS hC dX7_parts_24 h
abbrev Rm_X7_print : Room := { frames := 2, cells := 0, slots := 0, locals := 45 }
def f_X7_print (σ : St) (x1 : Int32) (x2 : Int32) : Option (Int32 × St) :=
  lt_ (put_i σ 0 (0 : Int32)) fun s1 =>
  if (f_X7_isFile s1 x1) = 0 then
    some ((-1 : Int32), s1)
  else
  if (f_X7_isKey s1 x2) = 0 then
    some ((-1 : Int32), s1)
  else
  lt_ (f_X7_printOf s1 x2) fun v2 =>
  lt_ (put_i s1 1 (0 : Int32)) fun s3 =>
  (f_X7_quotientOf s3 x1 v2).bind fun v4 =>
  (f_X7_enters s3 (v4.toInt64)).bind fun s5 =>
  (f_X7_remainderOf s5 x1 v2).bind fun v6 =>
  (f_X7_enters s5 (v6.toInt64)).bind fun s7 =>
  some (v2, s7)
set_option maxRecDepth 100000 in
set_option maxHeartbeats 4000000 in
theorem con_X7_print (l : Launch) (σ : St) (x1 : Int32) (x2 : Int32) {r : Int32} {t' : St} (h : f_X7_print σ x1 x2 = some (r, t')) : Con l yX7_print cX7_print 4 (some .int) Rm_X7_print wM (fun a => [.ref (a 0), .int x1, .int x2]) σ (fun _ => some (.int r)) t' := by
  refine con_of (by decide) ⟨rfl, rfl⟩ (fun _ => Nat.le_of_ble_eq_true rfl) (fun Γ a hC => ?_)
  have hC : Cx Γ l cX7_print RX7 4 (some .int) Rm_X7_print wM a (some (.int r)) t' := hC
  show Γ σ 0 [(0, .ref (a 0)), (1, .int x1), (2, .int x2)] []
  unfold f_X7_print at h
  refine r_aload_n hC dX7_print_0 rfl 0 rfl ?_
  refine r_iconst (v := 0) hC dX7_print_1 (by decide) ?_
  obtain ⟨s1, es1, h⟩ := lt_of h
  refine P7_1 hC es1 dX7_print_2 ?_
  refine r_iload_n hC dX7_print_5 rfl 1 rfl ?_
  refine r_callS (As := [.int x1]) (rest := []) hC (con_X7_isFile l s1 x1 rfl) K7_136 rfl rfl rfl ⟨Nat.le_of_ble_eq_true rfl, Nat.le_of_ble_eq_true rfl⟩ (Nat.le_of_ble_eq_true rfl) dX7_print_6 ?_
  refine r_if_eq hC 19 dX7_print_9 (by decide) (fun q => ?_) (fun q => ?_)
  · replace h := if_p q h
    refine r_iconst (v := -1) hC dX7_print_19 (by decide) ?_
    exact r_iretS hC dX7_print_20 h
  · replace h := if_n q h
    refine r_iload_n hC dX7_print_12 rfl 2 rfl ?_
    refine r_callS (As := [.int x2]) (rest := []) hC (con_X7_isKey l s1 x2 rfl) K7_139 rfl rfl rfl ⟨Nat.le_of_ble_eq_true rfl, Nat.le_of_ble_eq_true rfl⟩ (Nat.le_of_ble_eq_true rfl) dX7_print_13 ?_
    refine r_if_ne hC 21 dX7_print_16 (by decide) (fun q => ?_) (fun q => ?_)
    · replace h := if_n q h
      refine r_aload_n hC dX7_print_21 rfl 0 rfl ?_
      refine r_iload_n hC dX7_print_22 rfl 2 rfl ?_
      refine r_callV (As := [.int x2]) (rest := []) hC (con_X7_printOf l s1 x2 rfl) K7_142 (ob7 a s1) rfl rfl rfl rfl ⟨Nat.le_of_ble_eq_true rfl, Nat.le_of_ble_eq_true rfl⟩ (Nat.le_of_ble_eq_true rfl) dX7_print_23 ?_
      obtain ⟨v2, ev2, h⟩ := lt_of h
      refine r_istore_n (lv' := [(3, .int v2), (0, .ref (a 0)), (1, .int x1), (2, .int x2)]) hC dX7_print_26 rfl (by decide) ev2 rfl ?_
      refine r_aload_n hC dX7_print_27 rfl 1 rfl ?_
      refine r_iconst (v := 0) hC dX7_print_28 (by decide) ?_
      obtain ⟨s3, es3, h⟩ := lt_of h
      refine P7_11 hC es3 dX7_print_29 ?_
      refine r_aload_n hC dX7_print_32 rfl 1 rfl ?_
      refine r_aload_n hC dX7_print_33 rfl 1 rfl ?_
      refine r_iload_n hC dX7_print_34 rfl 2 rfl ?_
      refine r_iload_n hC dX7_print_35 rfl 0 rfl ?_
      obtain ⟨v4, hv4, h⟩ := bind_of h
      refine r_callV (As := [.int x1, .int v2]) (rest := [.ref (a 0)]) hC (con_X7_quotientOf l s3 x1 v2 hv4) K7_129 (ob7 a s3) rfl rfl rfl rfl ⟨Nat.le_of_ble_eq_true rfl, Nat.le_of_ble_eq_true rfl⟩ (Nat.le_of_ble_eq_true rfl) dX7_print_36 ?_
      refine r_i2l hC dX7_print_39 ?_
      obtain ⟨s5, hs5, h⟩ := bind_of h
      refine r_callV (As := [.long (v4.toInt64)]) (rest := []) hC (con_X7_enters l s3 (v4.toInt64) hs5) K7_145 (ob7 a s3) rfl rfl rfl rfl ⟨Nat.le_of_ble_eq_true rfl, Nat.le_of_ble_eq_true rfl⟩ (Nat.le_of_ble_eq_true rfl) dX7_print_40 ?_
      refine r_aload_n hC dX7_print_43 rfl 1 rfl ?_
      refine r_aload_n hC dX7_print_44 rfl 1 rfl ?_
      refine r_iload_n hC dX7_print_45 rfl 2 rfl ?_
      refine r_iload_n hC dX7_print_46 rfl 0 rfl ?_
      obtain ⟨v6, hv6, h⟩ := bind_of h
      refine r_callV (As := [.int x1, .int v2]) (rest := [.ref (a 0)]) hC (con_X7_remainderOf l s5 x1 v2 hv6) K7_149 (ob7 a s5) rfl rfl rfl rfl ⟨Nat.le_of_ble_eq_true rfl, Nat.le_of_ble_eq_true rfl⟩ (Nat.le_of_ble_eq_true rfl) dX7_print_47 ?_
      refine r_i2l hC dX7_print_50 ?_
      obtain ⟨s7, hs7, h⟩ := bind_of h
      refine r_callV (As := [.long (v6.toInt64)]) (rest := []) hC (con_X7_enters l s5 (v6.toInt64) hs7) K7_145 (ob7 a s5) rfl rfl rfl rfl ⟨Nat.le_of_ble_eq_true rfl, Nat.le_of_ble_eq_true rfl⟩ (Nat.le_of_ble_eq_true rfl) dX7_print_51 ?_
      refine r_iload_n hC dX7_print_54 rfl 0 rfl ?_
      exact r_iretS hC dX7_print_55 h
    · replace h := if_p q h
      refine r_iconst (v := -1) hC dX7_print_19 (by decide) ?_
      exact r_iretS hC dX7_print_20 h
abbrev Rm_X7_puts : Room := { frames := 3, cells := 0, slots := 0, locals := 69 }
def f_X7_puts (σ : St) (x1 : Int32) (x2 : Int32) : Option (Int32 × St) :=
  lt_ (put_i σ 0 (0 : Int32)) fun s1 =>
  if (f_X7_isFile s1 x1) = 0 then
    some ((-1 : Int32), s1)
  else
  if (f_X7_isKey s1 x2) = 0 then
    some ((-1 : Int32), s1)
  else
  bind2 (f_X7_putsOne s1 x1 x2) fun v3 s2 =>
  if v3 < 0 then
    some (v3, s2)
  else
  (f_X7_lies s2 x1).bind fun s4 =>
  lt_ (put_i s4 1 (0 : Int32)) fun s5 =>
  (f_X7_lastSlot s5 x1 (f_X7_printOf s5 x2)).bind fun v6 =>
  (f_X7_enters s5 (v6.toInt64)).bind fun s7 =>
  if in_b x1 2 = true then
    (f_X7_enters s7 (((st_a s7 2 x1.toNatClampNeg)).toInt64)).bind fun s8 =>
    some (v3, s8)
  else none
set_option maxRecDepth 100000 in
set_option maxHeartbeats 4000000 in
theorem con_X7_puts (l : Launch) (σ : St) (x1 : Int32) (x2 : Int32) {r : Int32} {t' : St} (h : f_X7_puts σ x1 x2 = some (r, t')) : Con l yX7_puts cX7_puts 4 (some .int) Rm_X7_puts wM (fun a => [.ref (a 0), .int x1, .int x2]) σ (fun _ => some (.int r)) t' := by
  refine con_of (by decide) ⟨rfl, rfl⟩ (fun _ => Nat.le_of_ble_eq_true rfl) (fun Γ a hC => ?_)
  have hC : Cx Γ l cX7_puts RX7 4 (some .int) Rm_X7_puts wM a (some (.int r)) t' := hC
  show Γ σ 0 [(0, .ref (a 0)), (1, .int x1), (2, .int x2)] []
  unfold f_X7_puts at h
  refine r_aload_n hC dX7_puts_0 rfl 0 rfl ?_
  refine r_iconst (v := 0) hC dX7_puts_1 (by decide) ?_
  obtain ⟨s1, es1, h⟩ := lt_of h
  refine P7_1 hC es1 dX7_puts_2 ?_
  refine r_iload_n hC dX7_puts_5 rfl 1 rfl ?_
  refine r_callS (As := [.int x1]) (rest := []) hC (con_X7_isFile l s1 x1 rfl) K7_136 rfl rfl rfl ⟨Nat.le_of_ble_eq_true rfl, Nat.le_of_ble_eq_true rfl⟩ (Nat.le_of_ble_eq_true rfl) dX7_puts_6 ?_
  refine r_if_eq hC 19 dX7_puts_9 (by decide) (fun q => ?_) (fun q => ?_)
  · replace h := if_p q h
    refine r_iconst (v := -1) hC dX7_puts_19 (by decide) ?_
    exact r_iretS hC dX7_puts_20 h
  · replace h := if_n q h
    refine r_iload_n hC dX7_puts_12 rfl 2 rfl ?_
    refine r_callS (As := [.int x2]) (rest := []) hC (con_X7_isKey l s1 x2 rfl) K7_139 rfl rfl rfl ⟨Nat.le_of_ble_eq_true rfl, Nat.le_of_ble_eq_true rfl⟩ (Nat.le_of_ble_eq_true rfl) dX7_puts_13 ?_
    refine r_if_ne hC 21 dX7_puts_16 (by decide) (fun q => ?_) (fun q => ?_)
    · replace h := if_n q h
      refine r_aload_n hC dX7_puts_21 rfl 0 rfl ?_
      refine r_iload_n hC dX7_puts_22 rfl 1 rfl ?_
      refine r_iload_n hC dX7_puts_23 rfl 2 rfl ?_
      obtain ⟨v3, s2, hs2, h⟩ := bind2_of h
      refine r_callV (As := [.int x1, .int x2]) (rest := []) hC (con_X7_putsOne l s1 x1 x2 hs2) K7_159 (ob7 a s1) rfl rfl rfl rfl ⟨Nat.le_of_ble_eq_true rfl, Nat.le_of_ble_eq_true rfl⟩ (Nat.le_of_ble_eq_true rfl) dX7_puts_24 ?_
      refine r_istore_n (lv' := [(3, .int v3), (0, .ref (a 0)), (1, .int x1), (2, .int x2)]) hC dX7_puts_27 rfl (by decide) rfl rfl ?_
      refine r_iload_n hC dX7_puts_28 rfl 0 rfl ?_
      refine r_if_lt hC 68 dX7_puts_29 (by decide) (fun q => ?_) (fun q => ?_)
      · replace h := if_p q h
        refine r_iload_n hC dX7_puts_68 rfl 0 rfl ?_
        exact r_iretS hC dX7_puts_69 h
      · replace h := if_n q h
        refine r_aload_n hC dX7_puts_32 rfl 1 rfl ?_
        refine r_iload_n hC dX7_puts_33 rfl 2 rfl ?_
        obtain ⟨s4, hs4, h⟩ := bind_of h
        refine r_callV (As := [.int x1]) (rest := []) hC (con_X7_lies l s2 x1 hs4) K7_162 (ob7 a s2) rfl rfl rfl rfl ⟨Nat.le_of_ble_eq_true rfl, Nat.le_of_ble_eq_true rfl⟩ (Nat.le_of_ble_eq_true rfl) dX7_puts_34 ?_
        refine r_aload_n hC dX7_puts_37 rfl 1 rfl ?_
        refine r_iconst (v := 0) hC dX7_puts_38 (by decide) ?_
        obtain ⟨s5, es5, h⟩ := lt_of h
        refine P7_11 hC es5 dX7_puts_39 ?_
        refine r_aload_n hC dX7_puts_42 rfl 1 rfl ?_
        refine r_aload_n hC dX7_puts_43 rfl 1 rfl ?_
        refine r_iload_n hC dX7_puts_44 rfl 2 rfl ?_
        refine r_aload_n hC dX7_puts_45 rfl 1 rfl ?_
        refine r_iload_n hC dX7_puts_46 rfl 3 rfl ?_
        refine r_callV (As := [.int x2]) (rest := [.int x1, .ref (a 0), .ref (a 0)]) hC (con_X7_printOf l s5 x2 rfl) K7_142 (ob7 a s5) rfl rfl rfl rfl ⟨Nat.le_of_ble_eq_true rfl, Nat.le_of_ble_eq_true rfl⟩ (Nat.le_of_ble_eq_true rfl) dX7_puts_47 ?_
        obtain ⟨v6, hv6, h⟩ := bind_of h
        refine r_callV (As := [.int x1, .int (f_X7_printOf s5 x2)]) (rest := [.ref (a 0)]) hC (con_X7_lastSlot l s5 x1 (f_X7_printOf s5 x2) hv6) K7_166 (ob7 a s5) rfl rfl rfl rfl ⟨Nat.le_of_ble_eq_true rfl, Nat.le_of_ble_eq_true rfl⟩ (Nat.le_of_ble_eq_true rfl) dX7_puts_50 ?_
        refine r_i2l hC dX7_puts_53 ?_
        obtain ⟨s7, hs7, h⟩ := bind_of h
        refine r_callV (As := [.long (v6.toInt64)]) (rest := []) hC (con_X7_enters l s5 (v6.toInt64) hs7) K7_145 (ob7 a s5) rfl rfl rfl rfl ⟨Nat.le_of_ble_eq_true rfl, Nat.le_of_ble_eq_true rfl⟩ (Nat.le_of_ble_eq_true rfl) dX7_puts_54 ?_
        refine r_aload_n hC dX7_puts_57 rfl 1 rfl ?_
        refine r_aload_n hC dX7_puts_58 rfl 1 rfl ?_
        refine G7_60 hC dX7_puts_59 ?_
        refine r_iload_n hC dX7_puts_62 rfl 2 rfl ?_
        obtain ⟨hi, h⟩ := inb_of h
        refine L_m_many hC hi dX7_puts_63 ?_
        refine r_i2l hC dX7_puts_64 ?_
        obtain ⟨s8, hs8, h⟩ := bind_of h
        refine r_callV (As := [.long (((st_a s7 2 x1.toNatClampNeg)).toInt64)]) (rest := []) hC (con_X7_enters l s7 (((st_a s7 2 x1.toNatClampNeg)).toInt64) hs8) K7_145 (ob7 a s7) rfl rfl rfl rfl ⟨Nat.le_of_ble_eq_true rfl, Nat.le_of_ble_eq_true rfl⟩ (Nat.le_of_ble_eq_true rfl) dX7_puts_65 ?_
        refine r_iload_n hC dX7_puts_68 rfl 0 rfl ?_
        exact r_iretS hC dX7_puts_69 h
    · replace h := if_p q h
      refine r_iconst (v := -1) hC dX7_puts_19 (by decide) ?_
      exact r_iretS hC dX7_puts_20 h
abbrev Rm_X7_readsWords : Room := { frames := 2, cells := 0, slots := 0, locals := 42 }
def f_X7_readsWords_n183 (x1 : Int32) (k62 : St → Int32 → Int32 → Int32 → Option (Int32 × St)) (σ : St) (y2 : Int32) (y3 : Int32) (y4 : Int32) (w1 : Int32) (w2 : Int32) (w3 : Int32) : Option (Int32 × St) :=
  if in_b w1 64 = true then
    lt_ (put_a σ 10 w1.toNatClampNeg (w2 ||| w3)) fun s3 =>
    lt_ (y4 + (1 : Int32)) fun v4 =>
    k62 s3 y2 y3 v4
  else none
set_option maxRecDepth 100000 in
set_option maxHeartbeats 4000000 in
theorem t_X7_readsWords_n183 {Γ : St → Nat → List (Nat × Value) → List Value → Prop} {l : Launch} {a : Nat → Nat} {r : Int32} {t' : St} (hC : Cx Γ l cX7_readsWords RX7 7 (some .boolean) Rm_X7_readsWords wM a (some (.int r)) t') (x1 : Int32) (k62 : St → Int32 → Int32 → Int32 → Option (Int32 × St)) (hk62 : ∀ (σ : St) (y2 : Int32) (y3 : Int32) (y4 : Int32), k62 σ y2 y3 y4 = some (r, t') → Γ σ 62 [(0, .ref (a 0)), (2, .int y2), (3, .int y3), (4, .int y4)] []) (σ : St) (y2 : Int32) (y3 : Int32) (y4 : Int32) (w1 : Int32) (w2 : Int32) (w3 : Int32) (h : f_X7_readsWords_n183 x1 k62 σ y2 y3 y4 w1 w2 w3 = some (r, t')) : Γ σ 183 [(0, .ref (a 0)), (2, .int y2), (3, .int y3), (4, .int y4)] [.int w3, .int w2, .int w1, .ref (a 13)] := by
  unfold f_X7_readsWords_n183 at h
  refine r_ior hC dX7_readsWords_183 ?_
  obtain ⟨hi, h⟩ := inb_of h
  obtain ⟨s3, es3, h⟩ := lt_of h
  refine S_m_toldRemainder hC es3 hi dX7_readsWords_184 ?_
  obtain ⟨v4, ev4, h⟩ := lt_of h
  refine r_iinc (c1 := 1) (lv' := [(4, .int v4), (0, .ref (a 0)), (2, .int y2), (3, .int y3)]) hC dX7_readsWords_185 3 rfl (by decide) (by decide) ev4 rfl ?_
  refine r_goto hC 62 dX7_readsWords_188 (by decide) ?_
  refine r_sub hC [1, 2, 3, 0] rfl ?_
  exact hk62 s3 y2 y3 v4 h
def f_X7_readsWords_n154 (x1 : Int32) (k62 : St → Int32 → Int32 → Int32 → Option (Int32 × St)) (σ : St) (y2 : Int32) (y3 : Int32) (y4 : Int32) (y5 : Int32) (y6 : Int32) (w1 : Int32) (w2 : Int32) (w3 : Int32) : Option (Int32 × St) :=
  if in_b w1 64 = true then
    lt_ (put_a σ 9 w1.toNatClampNeg (w2 ||| w3)) fun s5 =>
    if y2 = 0 then none else
    if in_b (y4 / y2) 64 = true then
      if (3 : Int32) ≤ y6 then
        f_X7_readsWords_n183 x1 k62 s5 y2 y3 y4 (y4 / y2) (st_a s5 10 (y4 / y2).toNatClampNeg) (y5 <<< ((y6 - (3 : Int32)) &&& 31))
      else
      f_X7_readsWords_n183 x1 k62 s5 y2 y3 y4 (y4 / y2) (st_a s5 10 (y4 / y2).toNatClampNeg) (0 : Int32)
    else none
  else none
set_option maxRecDepth 100000 in
set_option maxHeartbeats 4000000 in
theorem t_X7_readsWords_n154 {Γ : St → Nat → List (Nat × Value) → List Value → Prop} {l : Launch} {a : Nat → Nat} {r : Int32} {t' : St} (hC : Cx Γ l cX7_readsWords RX7 7 (some .boolean) Rm_X7_readsWords wM a (some (.int r)) t') (x1 : Int32) (k62 : St → Int32 → Int32 → Int32 → Option (Int32 × St)) (hk62 : ∀ (σ : St) (y2 : Int32) (y3 : Int32) (y4 : Int32), k62 σ y2 y3 y4 = some (r, t') → Γ σ 62 [(0, .ref (a 0)), (2, .int y2), (3, .int y3), (4, .int y4)] []) (σ : St) (y2 : Int32) (y3 : Int32) (y4 : Int32) (y5 : Int32) (y6 : Int32) (w1 : Int32) (w2 : Int32) (w3 : Int32) (h : f_X7_readsWords_n154 x1 k62 σ y2 y3 y4 y5 y6 w1 w2 w3 = some (r, t')) : Γ σ 154 [(0, .ref (a 0)), (2, .int y2), (3, .int y3), (4, .int y4), (5, .int y5), (6, .int y6)] [.int w3, .int w2, .int w1, .ref (a 12)] := by
  unfold f_X7_readsWords_n154 at h
  refine r_ior hC dX7_readsWords_154 ?_
  obtain ⟨hi, h⟩ := inb_of h
  obtain ⟨s5, es5, h⟩ := lt_of h
  refine S_m_toldMarks hC es5 hi dX7_readsWords_155 ?_
  refine r_aload_n hC dX7_readsWords_156 rfl 0 rfl ?_
  refine G7_88 hC dX7_readsWords_157 ?_
  refine r_iload hC dX7_readsWords_160 3 rfl ?_
  refine r_iload_n hC dX7_readsWords_162 rfl 1 rfl ?_
  obtain ⟨hz, h⟩ := nz_of h
  refine r_idiv hC dX7_readsWords_163 hz ?_
  refine r_dup2 hC dX7_readsWords_164 rfl rfl ?_
  obtain ⟨hi, h⟩ := inb_of h
  refine L_m_toldRemainder hC hi dX7_readsWords_165 ?_
  refine r_iload hC dX7_readsWords_166 5 rfl ?_
  refine r_iconst (v := 3) hC dX7_readsWords_168 (by decide) ?_
  refine r_icmp_ge hC 176 dX7_readsWords_169 (by decide) (fun q => ?_) (fun q => ?_)
  · replace h := if_p q h
    refine r_iload hC dX7_readsWords_176 4 rfl ?_
    refine r_iload hC dX7_readsWords_178 5 rfl ?_
    refine r_iconst (v := 3) hC dX7_readsWords_180 (by decide) ?_
    refine r_isub hC dX7_readsWords_181 ?_
    refine r_ishl hC dX7_readsWords_182 ?_
    refine r_sub hC [0, 1, 2, 3] rfl ?_
    exact t_X7_readsWords_n183 hC x1 k62 hk62 s5 y2 y3 y4 (y4 / y2) (st_a s5 10 (y4 / y2).toNatClampNeg) (y5 <<< ((y6 - (3 : Int32)) &&& 31)) h
  · replace h := if_n q h
    refine r_iconst (v := 0) hC dX7_readsWords_172 (by decide) ?_
    refine r_goto hC 183 dX7_readsWords_173 (by decide) ?_
    refine r_sub hC [0, 1, 2, 3] rfl ?_
    exact t_X7_readsWords_n183 hC x1 k62 hk62 s5 y2 y3 y4 (y4 / y2) (st_a s5 10 (y4 / y2).toNatClampNeg) (0 : Int32) h
def f_X7_readsWords_n114 (x1 : Int32) (k62 : St → Int32 → Int32 → Int32 → Option (Int32 × St)) (σ : St) (y2 : Int32) (y3 : Int32) (y4 : Int32) (y5 : Int32) : Option (Int32 × St) :=
  if y4 < y3 then
    if y2 = 0 then none else
    lt_ (y4 - y4 / y2 * y2) fun v1 =>
    if y2 = 0 then none else
    if in_b (y4 / y2) 64 = true then
      if (3 : Int32) ≤ v1 then
        f_X7_readsWords_n154 x1 k62 σ y2 y3 y4 y5 v1 (y4 / y2) (st_a σ 9 (y4 / y2).toNatClampNeg) (0 : Int32)
      else
      f_X7_readsWords_n154 x1 k62 σ y2 y3 y4 y5 v1 (y4 / y2) (st_a σ 9 (y4 / y2).toNatClampNeg) (y5 <<< (v1 &&& 31))
    else none
  else
  lt_ (y4 + (1 : Int32)) fun v2 =>
  k62 σ y2 y3 v2
set_option maxRecDepth 100000 in
set_option maxHeartbeats 4000000 in
theorem t_X7_readsWords_n114 {Γ : St → Nat → List (Nat × Value) → List Value → Prop} {l : Launch} {a : Nat → Nat} {r : Int32} {t' : St} (hC : Cx Γ l cX7_readsWords RX7 7 (some .boolean) Rm_X7_readsWords wM a (some (.int r)) t') (x1 : Int32) (k62 : St → Int32 → Int32 → Int32 → Option (Int32 × St)) (hk62 : ∀ (σ : St) (y2 : Int32) (y3 : Int32) (y4 : Int32), k62 σ y2 y3 y4 = some (r, t') → Γ σ 62 [(0, .ref (a 0)), (2, .int y2), (3, .int y3), (4, .int y4)] []) (σ : St) (y2 : Int32) (y3 : Int32) (y4 : Int32) (y5 : Int32) (h : f_X7_readsWords_n114 x1 k62 σ y2 y3 y4 y5 = some (r, t')) : Γ σ 114 [(0, .ref (a 0)), (2, .int y2), (3, .int y3), (4, .int y4), (5, .int y5)] [] := by
  unfold f_X7_readsWords_n114 at h
  refine r_iload hC dX7_readsWords_114 3 rfl ?_
  refine r_iload_n hC dX7_readsWords_116 rfl 2 rfl ?_
  refine r_icmp_lt hC 123 dX7_readsWords_117 (by decide) (fun q => ?_) (fun q => ?_)
  · replace h := if_p q h
    refine r_iload hC dX7_readsWords_123 3 rfl ?_
    refine r_iload_n hC dX7_readsWords_125 rfl 1 rfl ?_
    obtain ⟨hz, h⟩ := nz_of h
    refine r_irem hC dX7_readsWords_126 hz ?_
    obtain ⟨v1, ev1, h⟩ := lt_of h
    refine r_istore (lv' := [(6, .int v1), (0, .ref (a 0)), (2, .int y2), (3, .int y3), (4, .int y4), (5, .int y5)]) hC dX7_readsWords_127 (by decide) ev1 rfl ?_
    refine r_aload_n hC dX7_readsWords_129 rfl 1 rfl ?_
    refine G7_85 hC dX7_readsWords_130 ?_
    refine r_iload hC dX7_readsWords_133 4 rfl ?_
    refine r_iload_n hC dX7_readsWords_135 rfl 2 rfl ?_
    obtain ⟨hz, h⟩ := nz_of h
    refine r_idiv hC dX7_readsWords_136 hz ?_
    refine r_dup2 hC dX7_readsWords_137 rfl rfl ?_
    obtain ⟨hi, h⟩ := inb_of h
    refine L_m_toldMarks hC hi dX7_readsWords_138 ?_
    refine r_iload hC dX7_readsWords_139 0 rfl ?_
    refine r_iconst (v := 3) hC dX7_readsWords_141 (by decide) ?_
    refine r_icmp_ge hC 153 dX7_readsWords_142 (by decide) (fun q => ?_) (fun q => ?_)
    · replace h := if_p q h
      refine r_iconst (v := 0) hC dX7_readsWords_153 (by decide) ?_
      refine r_sub hC [1, 2, 3, 4, 5, 0] rfl ?_
      exact t_X7_readsWords_n154 hC x1 k62 hk62 σ y2 y3 y4 y5 v1 (y4 / y2) (st_a σ 9 (y4 / y2).toNatClampNeg) (0 : Int32) h
    · replace h := if_n q h
      refine r_iload hC dX7_readsWords_145 5 rfl ?_
      refine r_iload hC dX7_readsWords_147 0 rfl ?_
      refine r_ishl hC dX7_readsWords_149 ?_
      refine r_goto hC 154 dX7_readsWords_150 (by decide) ?_
      refine r_sub hC [1, 2, 3, 4, 5, 0] rfl ?_
      exact t_X7_readsWords_n154 hC x1 k62 hk62 σ y2 y3 y4 y5 v1 (y4 / y2) (st_a σ 9 (y4 / y2).toNatClampNeg) (y5 <<< (v1 &&& 31)) h
  · replace h := if_n q h
    refine r_goto hC 185 dX7_readsWords_120 (by decide) ?_
    obtain ⟨v2, ev2, h⟩ := lt_of h
    refine r_iinc (c1 := 1) (lv' := [(4, .int v2), (0, .ref (a 0)), (2, .int y2), (3, .int y3), (5, .int y5)]) hC dX7_readsWords_185 3 rfl (by decide) (by decide) ev2 rfl ?_
    refine r_goto hC 62 dX7_readsWords_188 (by decide) ?_
    refine r_sub hC [1, 2, 3, 0] rfl ?_
    exact hk62 σ y2 y3 v2 h
def f_X7_readsWords_n62_b (x1 : Int32) (self : St → Int32 → Int32 → Int32 → Option (Int32 × St)) (σ : St) (y2 : Int32) (y3 : Int32) (y4 : Int32) : Option (Int32 × St) :=
  if ((((y3 - (1 : Int32)) / (64 : Int32)) * (64 : Int32)) + (63 : Int32)) < y4 then
    some ((1 : Int32), σ)
  else
  if in_b (y4 / (64 : Int32)) 16 = true then
    lt_ (((((st_l σ 1 (y4 / (64 : Int32)).toNatClampNeg) >>> ((y4 - y4 / (64 : Int32) * (64 : Int32)).toInt64 &&& 63)) &&& (1 : Int64))).toInt32) fun v10 =>
    if y4 < y3 then
      f_X7_readsWords_n114 x1 self σ y2 y3 y4 v10
    else
    if v10 = (1 : Int32) then
      some ((0 : Int32), σ)
    else
    f_X7_readsWords_n114 x1 self σ y2 y3 y4 v10
  else none
def f_X7_readsWords_n62 (x1 : Int32) : Nat → St → Int32 → Int32 → Int32 → Option (Int32 × St)
  | 0 => fun _ _ _ _ => none
  | n + 1 => fun σ y2 y3 y4 => f_X7_readsWords_n62_b x1  (f_X7_readsWords_n62 x1  n) σ y2 y3 y4
set_option maxRecDepth 100000 in
set_option maxHeartbeats 4000000 in
theorem t_X7_readsWords_n62_b {Γ : St → Nat → List (Nat × Value) → List Value → Prop} {l : Launch} {a : Nat → Nat} {r : Int32} {t' : St} (hC : Cx Γ l cX7_readsWords RX7 7 (some .boolean) Rm_X7_readsWords wM a (some (.int r)) t') (x1 : Int32) (self : St → Int32 → Int32 → Int32 → Option (Int32 × St)) (hself : ∀ (σ : St) (y2 : Int32) (y3 : Int32) (y4 : Int32), self σ y2 y3 y4 = some (r, t') → Γ σ 62 [(0, .ref (a 0)), (2, .int y2), (3, .int y3), (4, .int y4)] []) (σ : St) (y2 : Int32) (y3 : Int32) (y4 : Int32) (h : f_X7_readsWords_n62_b x1 self σ y2 y3 y4 = some (r, t')) : Γ σ 62 [(0, .ref (a 0)), (2, .int y2), (3, .int y3), (4, .int y4)] [] := by
  unfold f_X7_readsWords_n62_b at h
  refine r_iload hC dX7_readsWords_62 3 rfl ?_
  refine r_iload_n hC dX7_readsWords_64 rfl 2 rfl ?_
  refine r_iconst (v := 1) hC dX7_readsWords_65 (by decide) ?_
  refine r_isub hC dX7_readsWords_66 ?_
  refine r_bipush (v := 64) hC dX7_readsWords_67 (by decide) ?_
  refine r_idiv hC dX7_readsWords_69 (by decide) ?_
  refine r_bipush (v := 64) hC dX7_readsWords_70 (by decide) ?_
  refine r_imul hC dX7_readsWords_72 ?_
  refine r_bipush (v := 63) hC dX7_readsWords_73 (by decide) ?_
  refine r_iadd hC dX7_readsWords_75 ?_
  refine r_icmp_gt hC 191 dX7_readsWords_76 (by decide) (fun q => ?_) (fun q => ?_)
  · replace h := if_p q h
    refine r_iconst (v := 1) hC dX7_readsWords_191 (by decide) ?_
    exact r_zretS hC rfl dX7_readsWords_192 h
  · replace h := if_n q h
    refine r_aload_n hC dX7_readsWords_79 rfl 0 rfl ?_
    refine G7_82 hC dX7_readsWords_80 ?_
    refine r_iload hC dX7_readsWords_83 3 rfl ?_
    refine r_bipush (v := 64) hC dX7_readsWords_85 (by decide) ?_
    refine r_idiv hC dX7_readsWords_87 (by decide) ?_
    obtain ⟨hi, h⟩ := inb_of h
    refine L_m_words hC hi dX7_readsWords_88 ?_
    refine r_iload hC dX7_readsWords_89 3 rfl ?_
    refine r_bipush (v := 64) hC dX7_readsWords_91 (by decide) ?_
    refine r_irem hC dX7_readsWords_93 (by decide) ?_
    refine r_lshr hC dX7_readsWords_94 ?_
    refine r_lconst (v := 1) hC dX7_readsWords_95 (by decide) ?_
    refine r_land hC dX7_readsWords_96 ?_
    refine r_l2i hC dX7_readsWords_97 ?_
    obtain ⟨v10, ev10, h⟩ := lt_of h
    refine r_istore (lv' := [(5, .int v10), (0, .ref (a 0)), (2, .int y2), (3, .int y3), (4, .int y4)]) hC dX7_readsWords_98 (by decide) ev10 rfl ?_
    refine r_iload hC dX7_readsWords_100 4 rfl ?_
    refine r_iload_n hC dX7_readsWords_102 rfl 3 rfl ?_
    refine r_icmp_lt hC 114 dX7_readsWords_103 (by decide) (fun q => ?_) (fun q => ?_)
    · replace h := if_p q h
      refine r_sub hC [1, 2, 3, 4, 0] rfl ?_
      exact t_X7_readsWords_n114 hC x1 self hself σ y2 y3 y4 v10 h
    · replace h := if_n q h
      refine r_iload hC dX7_readsWords_106 0 rfl ?_
      refine r_iconst (v := 1) hC dX7_readsWords_108 (by decide) ?_
      refine r_icmp_ne hC 114 dX7_readsWords_109 (by decide) (fun q => ?_) (fun q => ?_)
      · replace h := if_n q h
        refine r_sub hC [1, 2, 3, 4, 0] rfl ?_
        exact t_X7_readsWords_n114 hC x1 self hself σ y2 y3 y4 v10 h
      · replace h := if_p q h
        refine r_iconst (v := 0) hC dX7_readsWords_112 (by decide) ?_
        exact r_zretS hC rfl dX7_readsWords_113 h
set_option maxRecDepth 100000 in
set_option maxHeartbeats 4000000 in
theorem t_X7_readsWords_n62 {Γ : St → Nat → List (Nat × Value) → List Value → Prop} {l : Launch} {a : Nat → Nat} {r : Int32} {t' : St} (hC : Cx Γ l cX7_readsWords RX7 7 (some .boolean) Rm_X7_readsWords wM a (some (.int r)) t') (x1 : Int32) (n : Nat) : ∀ (σ : St) (y2 : Int32) (y3 : Int32) (y4 : Int32), f_X7_readsWords_n62 x1 n σ y2 y3 y4 = some (r, t') → Γ σ 62 [(0, .ref (a 0)), (2, .int y2), (3, .int y3), (4, .int y4)] [] := by
  induction n with
  | zero =>
    intro σ y2 y3 y4  h
    have h : (none : Option (Int32 × St)) = some (r, t') := h
    cases h
  | succ n ih =>
    intro σ y2 y3 y4  h
    exact t_X7_readsWords_n62_b hC x1    (f_X7_readsWords_n62 x1  n) ih σ y2 y3 y4  h
def f_X7_readsWords_n27_b (x1 : Int32) (self : St → Int32 → Int32 → Int32 → Option (Int32 × St)) (σ : St) (y2 : Int32) (y3 : Int32) (y4 : Int32) : Option (Int32 × St) :=
  (f_X7_slots σ x1).bind fun v6 =>
  if v6 ≤ y4 then
    f_X7_readsWords_n62 x1 fuel σ y2 y3 (0 : Int32)
  else
  if in_b y4 64 = true then
    lt_ (put_a σ 9 y4.toNatClampNeg (0 : Int32)) fun s7 =>
    if in_b y4 64 = true then
      lt_ (put_a s7 10 y4.toNatClampNeg (0 : Int32)) fun s8 =>
      lt_ (y4 + (1 : Int32)) fun v9 =>
      self s8 y2 y3 v9
    else none
  else none
def f_X7_readsWords_n27 (x1 : Int32) : Nat → St → Int32 → Int32 → Int32 → Option (Int32 × St)
  | 0 => fun _ _ _ _ => none
  | n + 1 => fun σ y2 y3 y4 => f_X7_readsWords_n27_b x1  (f_X7_readsWords_n27 x1  n) σ y2 y3 y4
set_option maxRecDepth 100000 in
set_option maxHeartbeats 4000000 in
theorem t_X7_readsWords_n27_b {Γ : St → Nat → List (Nat × Value) → List Value → Prop} {l : Launch} {a : Nat → Nat} {r : Int32} {t' : St} (hC : Cx Γ l cX7_readsWords RX7 7 (some .boolean) Rm_X7_readsWords wM a (some (.int r)) t') (x1 : Int32) (self : St → Int32 → Int32 → Int32 → Option (Int32 × St)) (hself : ∀ (σ : St) (y2 : Int32) (y3 : Int32) (y4 : Int32), self σ y2 y3 y4 = some (r, t') → Γ σ 27 [(0, .ref (a 0)), (1, .int x1), (2, .int y2), (3, .int y3), (4, .int y4)] []) (σ : St) (y2 : Int32) (y3 : Int32) (y4 : Int32) (h : f_X7_readsWords_n27_b x1 self σ y2 y3 y4 = some (r, t')) : Γ σ 27 [(0, .ref (a 0)), (1, .int x1), (2, .int y2), (3, .int y3), (4, .int y4)] [] := by
  unfold f_X7_readsWords_n27_b at h
  refine r_iload hC dX7_readsWords_27 4 rfl ?_
  refine r_aload_n hC dX7_readsWords_29 rfl 0 rfl ?_
  refine r_iload_n hC dX7_readsWords_30 rfl 1 rfl ?_
  obtain ⟨v6, hv6, h⟩ := bind_of h
  refine r_callV (As := [.int x1]) (rest := [.int y4]) hC (con_X7_slots l σ x1 hv6) K7_121 (ob7 a σ) rfl rfl rfl rfl ⟨Nat.le_of_ble_eq_true rfl, Nat.le_of_ble_eq_true rfl⟩ (Nat.le_of_ble_eq_true rfl) dX7_readsWords_31 ?_
  refine r_icmp_ge hC 59 dX7_readsWords_34 (by decide) (fun q => ?_) (fun q => ?_)
  · replace h := if_p q h
    refine r_iconst (v := 0) hC dX7_readsWords_59 (by decide) ?_
    refine r_istore (lv' := [(4, .int (0 : Int32)), (0, .ref (a 0)), (1, .int x1), (2, .int y2), (3, .int y3)]) hC dX7_readsWords_60 (by decide) rfl rfl ?_
    refine r_sub hC [1, 3, 4, 0] rfl ?_
    exact t_X7_readsWords_n62 hC x1 fuel σ y2 y3 (0 : Int32) h
  · replace h := if_n q h
    refine r_aload_n hC dX7_readsWords_37 rfl 0 rfl ?_
    refine G7_85 hC dX7_readsWords_38 ?_
    refine r_iload hC dX7_readsWords_41 4 rfl ?_
    refine r_iconst (v := 0) hC dX7_readsWords_43 (by decide) ?_
    obtain ⟨hi, h⟩ := inb_of h
    obtain ⟨s7, es7, h⟩ := lt_of h
    refine S_m_toldMarks hC es7 hi dX7_readsWords_44 ?_
    refine r_aload_n hC dX7_readsWords_45 rfl 0 rfl ?_
    refine G7_88 hC dX7_readsWords_46 ?_
    refine r_iload hC dX7_readsWords_49 4 rfl ?_
    refine r_iconst (v := 0) hC dX7_readsWords_51 (by decide) ?_
    obtain ⟨hi, h⟩ := inb_of h
    obtain ⟨s8, es8, h⟩ := lt_of h
    refine S_m_toldRemainder hC es8 hi dX7_readsWords_52 ?_
    obtain ⟨v9, ev9, h⟩ := lt_of h
    refine r_iinc (c1 := 1) (lv' := [(4, .int v9), (0, .ref (a 0)), (1, .int x1), (2, .int y2), (3, .int y3)]) hC dX7_readsWords_53 4 rfl (by decide) (by decide) ev9 rfl ?_
    refine r_goto hC 27 dX7_readsWords_56 (by decide) ?_
    refine r_sub hC [1, 2, 3, 4, 0] rfl ?_
    exact hself s8 y2 y3 v9 h
set_option maxRecDepth 100000 in
set_option maxHeartbeats 4000000 in
theorem t_X7_readsWords_n27 {Γ : St → Nat → List (Nat × Value) → List Value → Prop} {l : Launch} {a : Nat → Nat} {r : Int32} {t' : St} (hC : Cx Γ l cX7_readsWords RX7 7 (some .boolean) Rm_X7_readsWords wM a (some (.int r)) t') (x1 : Int32) (n : Nat) : ∀ (σ : St) (y2 : Int32) (y3 : Int32) (y4 : Int32), f_X7_readsWords_n27 x1 n σ y2 y3 y4 = some (r, t') → Γ σ 27 [(0, .ref (a 0)), (1, .int x1), (2, .int y2), (3, .int y3), (4, .int y4)] [] := by
  induction n with
  | zero =>
    intro σ y2 y3 y4  h
    have h : (none : Option (Int32 × St)) = some (r, t') := h
    cases h
  | succ n ih =>
    intro σ y2 y3 y4  h
    exact t_X7_readsWords_n27_b hC x1    (f_X7_readsWords_n27 x1  n) ih σ y2 y3 y4  h
def f_X7_readsWords (σ : St) (x1 : Int32) : Option (Int32 × St) :=
  (f_X7_wide σ x1).bind fun v11 =>
  (f_X7_slots σ x1).bind fun v12 =>
  lt_ (v11 * v12) fun v13 =>
  if in_b x1 2 = true then
    lt_ (put_i σ 8 (st_a σ 1 x1.toNatClampNeg)) fun s14 =>
    f_X7_readsWords_n27 x1 fuel s14 v11 v13 (0 : Int32)
  else none
set_option maxRecDepth 100000 in
set_option maxHeartbeats 4000000 in
theorem con_X7_readsWords (l : Launch) (σ : St) (x1 : Int32) {r : Int32} {t' : St} (h : f_X7_readsWords σ x1 = some (r, t')) : Con l yX7_readsWords cX7_readsWords 7 (some .boolean) Rm_X7_readsWords wM (fun a => [.ref (a 0), .int x1]) σ (fun _ => some (.int r)) t' := by
  refine con_of (by decide) ⟨rfl, rfl⟩ (fun _ => Nat.le_of_ble_eq_true rfl) (fun Γ a hC => ?_)
  have hC : Cx Γ l cX7_readsWords RX7 7 (some .boolean) Rm_X7_readsWords wM a (some (.int r)) t' := hC
  show Γ σ 0 [(0, .ref (a 0)), (1, .int x1)] []
  unfold f_X7_readsWords at h
  refine r_aload_n hC dX7_readsWords_0 rfl 0 rfl ?_
  refine r_iload_n hC dX7_readsWords_1 rfl 1 rfl ?_
  obtain ⟨v11, hv11, h⟩ := bind_of h
  refine r_callV (As := [.int x1]) (rest := []) hC (con_X7_wide l σ x1 hv11) K7_211 (ob7 a σ) rfl rfl rfl rfl ⟨Nat.le_of_ble_eq_true rfl, Nat.le_of_ble_eq_true rfl⟩ (Nat.le_of_ble_eq_true rfl) dX7_readsWords_2 ?_
  refine r_istore_n (lv' := [(2, .int v11), (0, .ref (a 0)), (1, .int x1)]) hC dX7_readsWords_5 rfl (by decide) rfl rfl ?_
  refine r_iload_n hC dX7_readsWords_6 rfl 0 rfl ?_
  refine r_aload_n hC dX7_readsWords_7 rfl 1 rfl ?_
  refine r_iload_n hC dX7_readsWords_8 rfl 2 rfl ?_
  obtain ⟨v12, hv12, h⟩ := bind_of h
  refine r_callV (As := [.int x1]) (rest := [.int v11]) hC (con_X7_slots l σ x1 hv12) K7_121 (ob7 a σ) rfl rfl rfl rfl ⟨Nat.le_of_ble_eq_true rfl, Nat.le_of_ble_eq_true rfl⟩ (Nat.le_of_ble_eq_true rfl) dX7_readsWords_9 ?_
  refine r_imul hC dX7_readsWords_12 ?_
  obtain ⟨v13, ev13, h⟩ := lt_of h
  refine r_istore_n (lv' := [(3, .int v13), (2, .int v11), (0, .ref (a 0)), (1, .int x1)]) hC dX7_readsWords_13 rfl (by decide) ev13 rfl ?_
  refine r_aload_n hC dX7_readsWords_14 rfl 2 rfl ?_
  refine r_aload_n hC dX7_readsWords_15 rfl 2 rfl ?_
  refine G7_57 hC dX7_readsWords_16 ?_
  refine r_iload_n hC dX7_readsWords_19 rfl 3 rfl ?_
  obtain ⟨hi, h⟩ := inb_of h
  refine L_m_q hC hi dX7_readsWords_20 ?_
  obtain ⟨s14, es14, h⟩ := lt_of h
  refine P7_221 hC es14 dX7_readsWords_21 ?_
  refine r_iconst (v := 0) hC dX7_readsWords_24 (by decide) ?_
  refine r_istore (lv' := [(4, .int (0 : Int32)), (3, .int v13), (2, .int v11), (0, .ref (a 0)), (1, .int x1)]) hC dX7_readsWords_25 (by decide) rfl rfl ?_
  refine r_sub hC [3, 4, 2, 1, 0] rfl ?_
  exact t_X7_readsWords_n27 hC x1 fuel s14 v11 v13 (0 : Int32) h
abbrev Rm_X7_row : Room := { frames := 1, cells := 0, slots := 0, locals := 25 }
def f_X7_row_n22 (x1 : Int32) (σ : St) (w1 : Int32) : Option (Int64 × St) :=
  lt_ (put_i σ 0 (f_X7_flag σ w1)) fun s1 =>
  if (st_i s1 0) = (1 : Int32) then
    some ((0 : Int64), s1)
  else
  if in_b x1 96 = true then
    some ((st_l s1 0 x1.toNatClampNeg), s1)
  else none
set_option maxRecDepth 100000 in
set_option maxHeartbeats 4000000 in
theorem t_X7_row_n22 {Γ : St → Nat → List (Nat × Value) → List Value → Prop} {l : Launch} {a : Nat → Nat} {r : Int64} {t' : St} (hC : Cx Γ l cX7_row RX7 2 (some .long) Rm_X7_row wM a (some (.long r)) t') (x1 : Int32) (σ : St) (w1 : Int32) (h : f_X7_row_n22 x1 σ w1 = some (r, t')) : Γ σ 22 [(0, .ref (a 0)), (1, .int x1)] [.int w1, .ref (a 0)] := by
  unfold f_X7_row_n22 at h
  refine r_callS (As := [.int w1]) (rest := [.ref (a 0)]) hC (con_X7_flag l σ w1 rfl) K7_109 rfl rfl rfl ⟨Nat.le_of_ble_eq_true rfl, Nat.le_of_ble_eq_true rfl⟩ (Nat.le_of_ble_eq_true rfl) dX7_row_22 ?_
  obtain ⟨s1, es1, h⟩ := lt_of h
  refine P7_1 hC es1 dX7_row_25 ?_
  refine r_aload_n hC dX7_row_28 rfl 0 rfl ?_
  refine G7_1 hC dX7_row_29 ?_
  refine r_iconst (v := 1) hC dX7_row_32 (by decide) ?_
  refine r_icmp_ne hC 40 dX7_row_33 (by decide) (fun q => ?_) (fun q => ?_)
  · replace h := if_n q h
    refine r_aload_n hC dX7_row_40 rfl 0 rfl ?_
    refine G7_7 hC dX7_row_41 ?_
    refine r_iload_n hC dX7_row_44 rfl 1 rfl ?_
    obtain ⟨hi, h⟩ := inb_of h
    refine L_m_row hC hi dX7_row_45 ?_
    exact r_lretS hC dX7_row_46 h
  · replace h := if_p q h
    refine r_lconst (v := 0) hC dX7_row_36 (by decide) ?_
    refine r_goto hC 46 dX7_row_37 (by decide) ?_
    exact r_lretS hC dX7_row_46 h
def f_X7_row (σ : St) (x1 : Int32) : Option (Int64 × St) :=
  if (f_X7_in σ (x1.toInt64) (0 : Int64) ((((st_i σ 1) - (1 : Int32))).toInt64)) = 0 then
    f_X7_row_n22 x1 σ (1 : Int32)
  else
  f_X7_row_n22 x1 σ (0 : Int32)
set_option maxRecDepth 100000 in
set_option maxHeartbeats 4000000 in
theorem con_X7_row (l : Launch) (σ : St) (x1 : Int32) {r : Int64} {t' : St} (h : f_X7_row σ x1 = some (r, t')) : Con l yX7_row cX7_row 2 (some .long) Rm_X7_row wM (fun a => [.ref (a 0), .int x1]) σ (fun _ => some (.long r)) t' := by
  refine con_of (by decide) ⟨rfl, rfl⟩ (fun _ => Nat.le_of_ble_eq_true rfl) (fun Γ a hC => ?_)
  have hC : Cx Γ l cX7_row RX7 2 (some .long) Rm_X7_row wM a (some (.long r)) t' := hC
  show Γ σ 0 [(0, .ref (a 0)), (1, .int x1)] []
  unfold f_X7_row at h
  refine r_aload_n hC dX7_row_0 rfl 0 rfl ?_
  refine r_iload_n hC dX7_row_1 rfl 1 rfl ?_
  refine r_i2l hC dX7_row_2 ?_
  refine r_lconst (v := 0) hC dX7_row_3 (by decide) ?_
  refine r_aload_n hC dX7_row_4 rfl 0 rfl ?_
  refine G7_11 hC dX7_row_5 ?_
  refine r_iconst (v := 1) hC dX7_row_8 (by decide) ?_
  refine r_isub hC dX7_row_9 ?_
  refine r_i2l hC dX7_row_10 ?_
  refine r_callS (As := [.long (x1.toInt64), .long (0 : Int64), .long ((((st_i σ 1) - (1 : Int32))).toInt64)]) (rest := [.ref (a 0)]) hC (con_X7_in l σ (x1.toInt64) (0 : Int64) ((((st_i σ 1) - (1 : Int32))).toInt64) rfl) K7_21 rfl rfl rfl ⟨Nat.le_of_ble_eq_true rfl, Nat.le_of_ble_eq_true rfl⟩ (Nat.le_of_ble_eq_true rfl) dX7_row_11 ?_
  refine r_if_ne hC 21 dX7_row_14 (by decide) (fun q => ?_) (fun q => ?_)
  · replace h := if_n q h
    refine r_iconst (v := 0) hC dX7_row_21 (by decide) ?_
    exact t_X7_row_n22 hC x1 σ (0 : Int32) h
  · replace h := if_p q h
    refine r_iconst (v := 1) hC dX7_row_17 (by decide) ?_
    refine r_goto hC 22 dX7_row_18 (by decide) ?_
    exact t_X7_row_n22 hC x1 σ (1 : Int32) h
abbrev Rm_X7_run : Room := { frames := 3, cells := 0, slots := 0, locals := 69 }
def f_X7_run_n91 (x1 : Int32) (x2 : Int32) (k45 : St → Int32 → Int32 → Option (Int32 × St)) (σ : St) (y3 : Int32) (y4 : Int32) : Option (Int32 × St) :=
  (f_X7_at σ x1 y4).bind fun v1 =>
  (f_X7_remainderOf σ x1 v1).bind fun v2 =>
  (f_X7_enters σ (v2.toInt64)).bind fun s3 =>
  lt_ (y3 + (1 : Int32)) fun v4 =>
  lt_ (y4 + (1 : Int32)) fun v5 =>
  k45 s3 v4 v5
set_option maxRecDepth 100000 in
set_option maxHeartbeats 4000000 in
theorem t_X7_run_n91 {Γ : St → Nat → List (Nat × Value) → List Value → Prop} {l : Launch} {a : Nat → Nat} {r : Int32} {t' : St} (hC : Cx Γ l cX7_run RX7 5 (some .int) Rm_X7_run wM a (some (.int r)) t') (x1 : Int32) (x2 : Int32) (k45 : St → Int32 → Int32 → Option (Int32 × St)) (hk45 : ∀ (σ : St) (y3 : Int32) (y4 : Int32), k45 σ y3 y4 = some (r, t') → Γ σ 45 [(0, .ref (a 0)), (1, .int x1), (2, .int x2), (3, .int y3), (4, .int y4)] []) (σ : St) (y3 : Int32) (y4 : Int32) (h : f_X7_run_n91 x1 x2 k45 σ y3 y4 = some (r, t')) : Γ σ 91 [(0, .ref (a 0)), (1, .int x1), (2, .int x2), (3, .int y3), (4, .int y4)] [] := by
  unfold f_X7_run_n91 at h
  refine r_aload_n hC dX7_run_91 rfl 0 rfl ?_
  refine r_aload_n hC dX7_run_92 rfl 0 rfl ?_
  refine r_iload_n hC dX7_run_93 rfl 1 rfl ?_
  refine r_aload_n hC dX7_run_94 rfl 0 rfl ?_
  refine r_iload_n hC dX7_run_95 rfl 1 rfl ?_
  refine r_iload hC dX7_run_96 4 rfl ?_
  obtain ⟨v1, hv1, h⟩ := bind_of h
  refine r_callV (As := [.int x1, .int y4]) (rest := [.int x1, .ref (a 0), .ref (a 0)]) hC (con_X7_at l σ x1 y4 hv1) K7_106 (ob7 a σ) rfl rfl rfl rfl ⟨Nat.le_of_ble_eq_true rfl, Nat.le_of_ble_eq_true rfl⟩ (Nat.le_of_ble_eq_true rfl) dX7_run_98 ?_
  obtain ⟨v2, hv2, h⟩ := bind_of h
  refine r_callV (As := [.int x1, .int v1]) (rest := [.ref (a 0)]) hC (con_X7_remainderOf l σ x1 v1 hv2) K7_149 (ob7 a σ) rfl rfl rfl rfl ⟨Nat.le_of_ble_eq_true rfl, Nat.le_of_ble_eq_true rfl⟩ (Nat.le_of_ble_eq_true rfl) dX7_run_101 ?_
  refine r_i2l hC dX7_run_104 ?_
  obtain ⟨s3, hs3, h⟩ := bind_of h
  refine r_callV (As := [.long (v2.toInt64)]) (rest := []) hC (con_X7_enters l σ (v2.toInt64) hs3) K7_145 (ob7 a σ) rfl rfl rfl rfl ⟨Nat.le_of_ble_eq_true rfl, Nat.le_of_ble_eq_true rfl⟩ (Nat.le_of_ble_eq_true rfl) dX7_run_105 ?_
  obtain ⟨v4, ev4, h⟩ := lt_of h
  refine r_iinc (c1 := 1) (lv' := [(3, .int v4), (0, .ref (a 0)), (1, .int x1), (2, .int x2), (4, .int y4)]) hC dX7_run_108 3 rfl (by decide) (by decide) ev4 rfl ?_
  obtain ⟨v5, ev5, h⟩ := lt_of h
  refine r_iinc (c1 := 1) (lv' := [(4, .int v5), (3, .int v4), (0, .ref (a 0)), (1, .int x1), (2, .int x2)]) hC dX7_run_111 4 rfl (by decide) (by decide) ev5 rfl ?_
  refine r_goto hC 45 dX7_run_114 (by decide) ?_
  refine r_sub hC [2, 3, 4, 1, 0] rfl ?_
  exact hk45 s3 v4 v5 h
def f_X7_run_n45_b (x1 : Int32) (x2 : Int32) (self : St → Int32 → Int32 → Option (Int32 × St)) (σ : St) (y3 : Int32) (y4 : Int32) : Option (Int32 × St) :=
  if in_b x1 2 = true then
    if (st_a σ 2 x1.toNatClampNeg) ≤ y4 then
      some (y3, σ)
    else
    (f_X7_at σ x1 y4).bind fun v6 =>
    (f_X7_quotientOf σ x1 v6).bind fun v7 =>
    if v7 = x2 then
      if y3 = 0 then
        if in_b y4 64 = true then
          (f_X7_enters σ (((st_a σ 4 y4.toNatClampNeg)).toInt64)).bind fun s8 =>
          f_X7_run_n91 x1 x2 self s8 y3 y4
        else none
      else
      f_X7_run_n91 x1 x2 self σ y3 y4
    else
    lt_ (y4 + (1 : Int32)) fun v9 =>
    self σ y3 v9
  else none
def f_X7_run_n45 (x1 : Int32) (x2 : Int32) : Nat → St → Int32 → Int32 → Option (Int32 × St)
  | 0 => fun _ _ _ => none
  | n + 1 => fun σ y3 y4 => f_X7_run_n45_b x1 x2  (f_X7_run_n45 x1 x2  n) σ y3 y4
set_option maxRecDepth 100000 in
set_option maxHeartbeats 4000000 in
theorem t_X7_run_n45_b {Γ : St → Nat → List (Nat × Value) → List Value → Prop} {l : Launch} {a : Nat → Nat} {r : Int32} {t' : St} (hC : Cx Γ l cX7_run RX7 5 (some .int) Rm_X7_run wM a (some (.int r)) t') (x1 : Int32) (x2 : Int32) (self : St → Int32 → Int32 → Option (Int32 × St)) (hself : ∀ (σ : St) (y3 : Int32) (y4 : Int32), self σ y3 y4 = some (r, t') → Γ σ 45 [(0, .ref (a 0)), (1, .int x1), (2, .int x2), (3, .int y3), (4, .int y4)] []) (σ : St) (y3 : Int32) (y4 : Int32) (h : f_X7_run_n45_b x1 x2 self σ y3 y4 = some (r, t')) : Γ σ 45 [(0, .ref (a 0)), (1, .int x1), (2, .int x2), (3, .int y3), (4, .int y4)] [] := by
  unfold f_X7_run_n45_b at h
  refine r_iload hC dX7_run_45 4 rfl ?_
  refine r_aload_n hC dX7_run_47 rfl 0 rfl ?_
  refine G7_60 hC dX7_run_48 ?_
  refine r_iload_n hC dX7_run_51 rfl 1 rfl ?_
  obtain ⟨hi, h⟩ := inb_of h
  refine L_m_many hC hi dX7_run_52 ?_
  refine r_icmp_ge hC 117 dX7_run_53 (by decide) (fun q => ?_) (fun q => ?_)
  · replace h := if_p q h
    refine r_iload_n hC dX7_run_117 rfl 3 rfl ?_
    exact r_iretS hC dX7_run_118 h
  · replace h := if_n q h
    refine r_aload_n hC dX7_run_56 rfl 0 rfl ?_
    refine r_iload_n hC dX7_run_57 rfl 1 rfl ?_
    refine r_aload_n hC dX7_run_58 rfl 0 rfl ?_
    refine r_iload_n hC dX7_run_59 rfl 1 rfl ?_
    refine r_iload hC dX7_run_60 4 rfl ?_
    obtain ⟨v6, hv6, h⟩ := bind_of h
    refine r_callV (As := [.int x1, .int y4]) (rest := [.int x1, .ref (a 0)]) hC (con_X7_at l σ x1 y4 hv6) K7_106 (ob7 a σ) rfl rfl rfl rfl ⟨Nat.le_of_ble_eq_true rfl, Nat.le_of_ble_eq_true rfl⟩ (Nat.le_of_ble_eq_true rfl) dX7_run_62 ?_
    obtain ⟨v7, hv7, h⟩ := bind_of h
    refine r_callV (As := [.int x1, .int v6]) (rest := []) hC (con_X7_quotientOf l σ x1 v6 hv7) K7_129 (ob7 a σ) rfl rfl rfl rfl ⟨Nat.le_of_ble_eq_true rfl, Nat.le_of_ble_eq_true rfl⟩ (Nat.le_of_ble_eq_true rfl) dX7_run_65 ?_
    refine r_iload_n hC dX7_run_68 rfl 2 rfl ?_
    refine r_icmp_eq hC 75 dX7_run_69 (by decide) (fun q => ?_) (fun q => ?_)
    · replace h := if_p q h
      refine r_iload_n hC dX7_run_75 rfl 3 rfl ?_
      refine r_if_ne hC 91 dX7_run_76 (by decide) (fun q => ?_) (fun q => ?_)
      · replace h := if_n q h
        exact t_X7_run_n91 hC x1 x2 self hself σ y3 y4 h
      · replace h := if_p q h
        refine r_aload_n hC dX7_run_79 rfl 0 rfl ?_
        refine r_aload_n hC dX7_run_80 rfl 0 rfl ?_
        refine G7_66 hC dX7_run_81 ?_
        refine r_iload hC dX7_run_84 4 rfl ?_
        obtain ⟨hi, h⟩ := inb_of h
        refine L_m_where hC hi dX7_run_86 ?_
        refine r_i2l hC dX7_run_87 ?_
        obtain ⟨s8, hs8, h⟩ := bind_of h
        refine r_callV (As := [.long (((st_a σ 4 y4.toNatClampNeg)).toInt64)]) (rest := []) hC (con_X7_enters l σ (((st_a σ 4 y4.toNatClampNeg)).toInt64) hs8) K7_145 (ob7 a σ) rfl rfl rfl rfl ⟨Nat.le_of_ble_eq_true rfl, Nat.le_of_ble_eq_true rfl⟩ (Nat.le_of_ble_eq_true rfl) dX7_run_88 ?_
        exact t_X7_run_n91 hC x1 x2 self hself s8 y3 y4 h
    · replace h := if_n q h
      refine r_goto hC 111 dX7_run_72 (by decide) ?_
      obtain ⟨v9, ev9, h⟩ := lt_of h
      refine r_iinc (c1 := 1) (lv' := [(4, .int v9), (0, .ref (a 0)), (1, .int x1), (2, .int x2), (3, .int y3)]) hC dX7_run_111 4 rfl (by decide) (by decide) ev9 rfl ?_
      refine r_goto hC 45 dX7_run_114 (by decide) ?_
      refine r_sub hC [1, 2, 3, 4, 0] rfl ?_
      exact hself σ y3 v9 h
set_option maxRecDepth 100000 in
set_option maxHeartbeats 4000000 in
theorem t_X7_run_n45 {Γ : St → Nat → List (Nat × Value) → List Value → Prop} {l : Launch} {a : Nat → Nat} {r : Int32} {t' : St} (hC : Cx Γ l cX7_run RX7 5 (some .int) Rm_X7_run wM a (some (.int r)) t') (x1 : Int32) (x2 : Int32) (n : Nat) : ∀ (σ : St) (y3 : Int32) (y4 : Int32), f_X7_run_n45 x1 x2 n σ y3 y4 = some (r, t') → Γ σ 45 [(0, .ref (a 0)), (1, .int x1), (2, .int x2), (3, .int y3), (4, .int y4)] [] := by
  induction n with
  | zero =>
    intro σ y3 y4  h
    have h : (none : Option (Int32 × St)) = some (r, t') := h
    cases h
  | succ n ih =>
    intro σ y3 y4  h
    exact t_X7_run_n45_b hC x1 x2    (f_X7_run_n45 x1 x2  n) ih σ y3 y4  h
def f_X7_run (σ : St) (x1 : Int32) (x2 : Int32) : Option (Int32 × St) :=
  lt_ (put_i σ 0 (0 : Int32)) fun s10 =>
  (f_X7_isSlot s10 x1 x2).bind fun v11 =>
  if v11 = 0 then
    some ((-1 : Int32), s10)
  else
  (f_X7_lies s10 x1).bind fun s12 =>
  if in_b x2 64 = true then
    if ((st_a s12 6 x2.toNatClampNeg) &&& (1 : Int32)) = 0 then
      some ((-2 : Int32), s12)
    else
    lt_ (put_i s12 1 (0 : Int32)) fun s13 =>
    f_X7_run_n45 x1 x2 fuel s13 (0 : Int32) (0 : Int32)
  else none
set_option maxRecDepth 100000 in
set_option maxHeartbeats 4000000 in
theorem con_X7_run (l : Launch) (σ : St) (x1 : Int32) (x2 : Int32) {r : Int32} {t' : St} (h : f_X7_run σ x1 x2 = some (r, t')) : Con l yX7_run cX7_run 5 (some .int) Rm_X7_run wM (fun a => [.ref (a 0), .int x1, .int x2]) σ (fun _ => some (.int r)) t' := by
  refine con_of (by decide) ⟨rfl, rfl⟩ (fun _ => Nat.le_of_ble_eq_true rfl) (fun Γ a hC => ?_)
  have hC : Cx Γ l cX7_run RX7 5 (some .int) Rm_X7_run wM a (some (.int r)) t' := hC
  show Γ σ 0 [(0, .ref (a 0)), (1, .int x1), (2, .int x2)] []
  unfold f_X7_run at h
  refine r_aload_n hC dX7_run_0 rfl 0 rfl ?_
  refine r_iconst (v := 0) hC dX7_run_1 (by decide) ?_
  obtain ⟨s10, es10, h⟩ := lt_of h
  refine P7_1 hC es10 dX7_run_2 ?_
  refine r_aload_n hC dX7_run_5 rfl 0 rfl ?_
  refine r_iload_n hC dX7_run_6 rfl 1 rfl ?_
  refine r_iload_n hC dX7_run_7 rfl 2 rfl ?_
  obtain ⟨v11, hv11, h⟩ := bind_of h
  refine r_callV (As := [.int x1, .int x2]) (rest := []) hC (con_X7_isSlot l s10 x1 x2 hv11) K7_208 (ob7 a s10) rfl rfl rfl rfl ⟨Nat.le_of_ble_eq_true rfl, Nat.le_of_ble_eq_true rfl⟩ (Nat.le_of_ble_eq_true rfl) dX7_run_8 ?_
  refine r_if_ne hC 16 dX7_run_11 (by decide) (fun q => ?_) (fun q => ?_)
  · replace h := if_n q h
    refine r_aload_n hC dX7_run_16 rfl 0 rfl ?_
    refine r_iload_n hC dX7_run_17 rfl 1 rfl ?_
    obtain ⟨s12, hs12, h⟩ := bind_of h
    refine r_callV (As := [.int x1]) (rest := []) hC (con_X7_lies l s10 x1 hs12) K7_162 (ob7 a s10) rfl rfl rfl rfl ⟨Nat.le_of_ble_eq_true rfl, Nat.le_of_ble_eq_true rfl⟩ (Nat.le_of_ble_eq_true rfl) dX7_run_18 ?_
    refine r_aload_n hC dX7_run_21 rfl 0 rfl ?_
    refine G7_72 hC dX7_run_22 ?_
    refine r_iload_n hC dX7_run_25 rfl 2 rfl ?_
    obtain ⟨hi, h⟩ := inb_of h
    refine L_m_marks hC hi dX7_run_26 ?_
    refine r_iconst (v := 1) hC dX7_run_27 (by decide) ?_
    refine r_iand hC dX7_run_28 ?_
    refine r_if_ne hC 35 dX7_run_29 (by decide) (fun q => ?_) (fun q => ?_)
    · replace h := if_n q h
      refine r_aload_n hC dX7_run_35 rfl 0 rfl ?_
      refine r_iconst (v := 0) hC dX7_run_36 (by decide) ?_
      obtain ⟨s13, es13, h⟩ := lt_of h
      refine P7_11 hC es13 dX7_run_37 ?_
      refine r_iconst (v := 0) hC dX7_run_40 (by decide) ?_
      refine r_istore_n (lv' := [(3, .int (0 : Int32)), (0, .ref (a 0)), (1, .int x1), (2, .int x2)]) hC dX7_run_41 rfl (by decide) rfl rfl ?_
      refine r_iconst (v := 0) hC dX7_run_42 (by decide) ?_
      refine r_istore (lv' := [(4, .int (0 : Int32)), (3, .int (0 : Int32)), (0, .ref (a 0)), (1, .int x1), (2, .int x2)]) hC dX7_run_43 (by decide) rfl rfl ?_
      refine r_sub hC [2, 3, 4, 1, 0] rfl ?_
      exact t_X7_run_n45 hC x1 x2 fuel s13 (0 : Int32) (0 : Int32) h
    · replace h := if_p q h
      refine r_bipush (v := -2) hC dX7_run_32 (by decide) ?_
      exact r_iretS hC dX7_run_34 h
  · replace h := if_p q h
    refine r_iconst (v := -1) hC dX7_run_14 (by decide) ?_
    exact r_iretS hC dX7_run_15 h
abbrev Rm_X7_wordOf : Room := { frames := 2, cells := 0, slots := 0, locals := 43 }
def f_X7_wordOf_n87 (σ : St) (x1 : Int32) (x2 : Int32) (k12 : Int32 → Int64 → Int32 → Option Int64) (y3 : Int32) (y4 : Int64) (y6 : Int32) (w0 : Int32) (w1 : Int32) : Option Int64 :=
  lt_ (w0 ||| w1) fun v5 =>
  if y3 = 0 then none else
  lt_ (y4 ||| (((((v5 >>> (((((64 : Int32) * x2) + y6) - (((64 : Int32) * x2) + y6) / y3 * y3) &&& 31)) &&& (1 : Int32))).toInt64) <<< (y6.toInt64 &&& 63))) fun v6 =>
  lt_ (y6 + (1 : Int32)) fun v7 =>
  k12 y3 v6 v7
set_option maxRecDepth 100000 in
set_option maxHeartbeats 4000000 in
theorem t_X7_wordOf_n87 {Γ : St → Nat → List (Nat × Value) → List Value → Prop} {l : Launch} {a : Nat → Nat} {r : Int64} {σ : St} (hC : Cx Γ l cX7_wordOf RX7 9 (some .long) Rm_X7_wordOf wM a (some (.long r)) σ) (x1 : Int32) (x2 : Int32) (k12 : Int32 → Int64 → Int32 → Option Int64) (hk12 : ∀ (y3 : Int32) (y4 : Int64) (y6 : Int32), k12 y3 y4 y6 = some r → Γ σ 12 [(0, .ref (a 0)), (1, .int x1), (2, .int x2), (3, .int y3), (4, .long y4), (6, .int y6)] []) (y3 : Int32) (y4 : Int64) (y6 : Int32) (w0 : Int32) (w1 : Int32) (h : f_X7_wordOf_n87 σ x1 x2 k12 y3 y4 y6 w0 w1 = some r) : Γ σ 87 [(0, .ref (a 0)), (1, .int x1), (2, .int x2), (3, .int y3), (4, .long y4), (6, .int y6)] [.int w1, .int w0] := by
  unfold f_X7_wordOf_n87 at h
  refine r_ior hC dX7_wordOf_87 ?_
  obtain ⟨v5, ev5, h⟩ := lt_of h
  refine r_istore (lv' := [(8, .int v5), (0, .ref (a 0)), (1, .int x1), (2, .int x2), (3, .int y3), (4, .long y4), (6, .int y6)]) hC dX7_wordOf_88 (by decide) ev5 rfl ?_
  refine r_lload hC dX7_wordOf_90 5 rfl ?_
  refine r_iload hC dX7_wordOf_92 0 rfl ?_
  refine r_bipush (v := 64) hC dX7_wordOf_94 (by decide) ?_
  refine r_iload_n hC dX7_wordOf_96 rfl 3 rfl ?_
  refine r_imul hC dX7_wordOf_97 ?_
  refine r_iload hC dX7_wordOf_98 6 rfl ?_
  refine r_iadd hC dX7_wordOf_100 ?_
  refine r_iload_n hC dX7_wordOf_101 rfl 4 rfl ?_
  obtain ⟨hz, h⟩ := nz_of h
  refine r_irem hC dX7_wordOf_102 hz ?_
  refine r_ishr hC dX7_wordOf_103 ?_
  refine r_iconst (v := 1) hC dX7_wordOf_104 (by decide) ?_
  refine r_iand hC dX7_wordOf_105 ?_
  refine r_i2l hC dX7_wordOf_106 ?_
  refine r_iload hC dX7_wordOf_107 6 rfl ?_
  refine r_lshl hC dX7_wordOf_109 ?_
  refine r_lor hC dX7_wordOf_110 ?_
  obtain ⟨v6, ev6, h⟩ := lt_of h
  refine r_lstore (lv' := [(4, .long v6), (8, .int v5), (0, .ref (a 0)), (1, .int x1), (2, .int x2), (3, .int y3), (6, .int y6)]) hC dX7_wordOf_111 (by decide) ev6 rfl ?_
  obtain ⟨v7, ev7, h⟩ := lt_of h
  refine r_iinc (c1 := 1) (lv' := [(6, .int v7), (4, .long v6), (8, .int v5), (0, .ref (a 0)), (1, .int x1), (2, .int x2), (3, .int y3)]) hC dX7_wordOf_113 6 rfl (by decide) (by decide) ev7 rfl ?_
  refine r_goto hC 12 dX7_wordOf_116 (by decide) ?_
  refine r_sub hC [3, 4, 5, 6, 1, 0] rfl ?_
  exact hk12 y3 v6 v7 h
def f_X7_wordOf_n12_b (σ : St) (x1 : Int32) (x2 : Int32) (self : Int32 → Int64 → Int32 → Option Int64) (y3 : Int32) (y4 : Int64) (y6 : Int32) : Option Int64 :=
  if (64 : Int32) ≤ y6 then
    some y4
  else
  (f_X7_slots σ x1).bind fun v1 =>
  if (y3 * v1) ≤ (((64 : Int32) * x2) + y6) then
    some y4
  else
  if y3 = 0 then none else
  lt_ ((((64 : Int32) * x2) + y6) / y3) fun v2 =>
  if in_b v2 64 = true then
    if in_b v2 64 = true then
      if 0 ≤ (st_a σ 5 v2.toNatClampNeg) then
        if in_b v2 64 = true then
          (f_X7_at σ x1 (st_a σ 5 v2.toNatClampNeg)).bind fun v3 =>
          (f_X7_remainderOf σ x1 v3).bind fun v4 =>
          f_X7_wordOf_n87 σ x1 x2 self y3 y4 y6 (st_a σ 6 v2.toNatClampNeg) (v4 <<< ((3 : Int32) &&& 31))
        else none
      else
      f_X7_wordOf_n87 σ x1 x2 self y3 y4 y6 (st_a σ 6 v2.toNatClampNeg) (0 : Int32)
    else none
  else none
def f_X7_wordOf_n12 (σ : St) (x1 : Int32) (x2 : Int32) : Nat → Int32 → Int64 → Int32 → Option Int64
  | 0 => fun _ _ _ => none
  | n + 1 => fun y3 y4 y6 => f_X7_wordOf_n12_b σ x1 x2  (f_X7_wordOf_n12 σ x1 x2  n) y3 y4 y6
set_option maxRecDepth 100000 in
set_option maxHeartbeats 4000000 in
theorem t_X7_wordOf_n12_b {Γ : St → Nat → List (Nat × Value) → List Value → Prop} {l : Launch} {a : Nat → Nat} {r : Int64} {σ : St} (hC : Cx Γ l cX7_wordOf RX7 9 (some .long) Rm_X7_wordOf wM a (some (.long r)) σ) (x1 : Int32) (x2 : Int32) (self : Int32 → Int64 → Int32 → Option Int64) (hself : ∀ (y3 : Int32) (y4 : Int64) (y6 : Int32), self y3 y4 y6 = some r → Γ σ 12 [(0, .ref (a 0)), (1, .int x1), (2, .int x2), (3, .int y3), (4, .long y4), (6, .int y6)] []) (y3 : Int32) (y4 : Int64) (y6 : Int32) (h : f_X7_wordOf_n12_b σ x1 x2 self y3 y4 y6 = some r) : Γ σ 12 [(0, .ref (a 0)), (1, .int x1), (2, .int x2), (3, .int y3), (4, .long y4), (6, .int y6)] [] := by
  unfold f_X7_wordOf_n12_b at h
  refine r_iload hC dX7_wordOf_12 5 rfl ?_
  refine r_bipush (v := 64) hC dX7_wordOf_14 (by decide) ?_
  refine r_icmp_ge hC 119 dX7_wordOf_16 (by decide) (fun q => ?_) (fun q => ?_)
  · replace h := if_p q h
    refine r_lload hC dX7_wordOf_119 4 rfl ?_
    exact r_lretP hC dX7_wordOf_121 h
  · replace h := if_n q h
    refine r_bipush (v := 64) hC dX7_wordOf_19 (by decide) ?_
    refine r_iload_n hC dX7_wordOf_21 rfl 2 rfl ?_
    refine r_imul hC dX7_wordOf_22 ?_
    refine r_iload hC dX7_wordOf_23 5 rfl ?_
    refine r_iadd hC dX7_wordOf_25 ?_
    refine r_iload_n hC dX7_wordOf_26 rfl 3 rfl ?_
    refine r_aload_n hC dX7_wordOf_27 rfl 0 rfl ?_
    refine r_iload_n hC dX7_wordOf_28 rfl 1 rfl ?_
    obtain ⟨v1, hv1, h⟩ := bind_of h
    refine r_callV (As := [.int x1]) (rest := [.int y3, .int (((64 : Int32) * x2) + y6)]) hC (con_X7_slots l σ x1 hv1) K7_121 (ob7 a σ) rfl rfl rfl rfl ⟨Nat.le_of_ble_eq_true rfl, Nat.le_of_ble_eq_true rfl⟩ (Nat.le_of_ble_eq_true rfl) dX7_wordOf_29 ?_
    refine r_imul hC dX7_wordOf_32 ?_
    refine r_icmp_ge hC 119 dX7_wordOf_33 (by decide) (fun q => ?_) (fun q => ?_)
    · replace h := if_p q h
      refine r_lload hC dX7_wordOf_119 4 rfl ?_
      exact r_lretP hC dX7_wordOf_121 h
    · replace h := if_n q h
      refine r_bipush (v := 64) hC dX7_wordOf_36 (by decide) ?_
      refine r_iload_n hC dX7_wordOf_38 rfl 2 rfl ?_
      refine r_imul hC dX7_wordOf_39 ?_
      refine r_iload hC dX7_wordOf_40 5 rfl ?_
      refine r_iadd hC dX7_wordOf_42 ?_
      refine r_iload_n hC dX7_wordOf_43 rfl 3 rfl ?_
      obtain ⟨hz, h⟩ := nz_of h
      refine r_idiv hC dX7_wordOf_44 hz ?_
      obtain ⟨v2, ev2, h⟩ := lt_of h
      refine r_istore (lv' := [(7, .int v2), (0, .ref (a 0)), (1, .int x1), (2, .int x2), (3, .int y3), (4, .long y4), (6, .int y6)]) hC dX7_wordOf_45 (by decide) ev2 rfl ?_
      refine r_aload_n hC dX7_wordOf_47 rfl 1 rfl ?_
      refine G7_72 hC dX7_wordOf_48 ?_
      refine r_iload hC dX7_wordOf_51 0 rfl ?_
      obtain ⟨hi, h⟩ := inb_of h
      refine L_m_marks hC hi dX7_wordOf_53 ?_
      refine r_aload_n hC dX7_wordOf_54 rfl 1 rfl ?_
      refine G7_69 hC dX7_wordOf_55 ?_
      refine r_iload hC dX7_wordOf_58 0 rfl ?_
      obtain ⟨hi, h⟩ := inb_of h
      refine L_m_holds hC hi dX7_wordOf_60 ?_
      refine r_if_ge hC 68 dX7_wordOf_61 (by decide) (fun q => ?_) (fun q => ?_)
      · replace h := if_p q h
        refine r_aload_n hC dX7_wordOf_68 rfl 1 rfl ?_
        refine r_iload_n hC dX7_wordOf_69 rfl 2 rfl ?_
        refine r_aload_n hC dX7_wordOf_70 rfl 1 rfl ?_
        refine r_iload_n hC dX7_wordOf_71 rfl 2 rfl ?_
        refine r_aload_n hC dX7_wordOf_72 rfl 1 rfl ?_
        refine G7_69 hC dX7_wordOf_73 ?_
        refine r_iload hC dX7_wordOf_76 0 rfl ?_
        obtain ⟨hi, h⟩ := inb_of h
        refine L_m_holds hC hi dX7_wordOf_78 ?_
        obtain ⟨v3, hv3, h⟩ := bind_of h
        refine r_callV (As := [.int x1, .int (st_a σ 5 v2.toNatClampNeg)]) (rest := [.int x1, .ref (a 0), .int (st_a σ 6 v2.toNatClampNeg)]) hC (con_X7_at l σ x1 (st_a σ 5 v2.toNatClampNeg) hv3) K7_106 (ob7 a σ) rfl rfl rfl rfl ⟨Nat.le_of_ble_eq_true rfl, Nat.le_of_ble_eq_true rfl⟩ (Nat.le_of_ble_eq_true rfl) dX7_wordOf_79 ?_
        obtain ⟨v4, hv4, h⟩ := bind_of h
        refine r_callV (As := [.int x1, .int v3]) (rest := [.int (st_a σ 6 v2.toNatClampNeg)]) hC (con_X7_remainderOf l σ x1 v3 hv4) K7_149 (ob7 a σ) rfl rfl rfl rfl ⟨Nat.le_of_ble_eq_true rfl, Nat.le_of_ble_eq_true rfl⟩ (Nat.le_of_ble_eq_true rfl) dX7_wordOf_82 ?_
        refine r_iconst (v := 3) hC dX7_wordOf_85 (by decide) ?_
        refine r_ishl hC dX7_wordOf_86 ?_
        refine r_sub hC [1, 2, 3, 4, 5, 6] rfl ?_
        exact t_X7_wordOf_n87 hC x1 x2 self hself y3 y4 y6 (st_a σ 6 v2.toNatClampNeg) (v4 <<< ((3 : Int32) &&& 31)) h
      · replace h := if_n q h
        refine r_iconst (v := 0) hC dX7_wordOf_64 (by decide) ?_
        refine r_goto hC 87 dX7_wordOf_65 (by decide) ?_
        refine r_sub hC [1, 2, 3, 4, 5, 6] rfl ?_
        exact t_X7_wordOf_n87 hC x1 x2 self hself y3 y4 y6 (st_a σ 6 v2.toNatClampNeg) (0 : Int32) h
set_option maxRecDepth 100000 in
set_option maxHeartbeats 4000000 in
theorem t_X7_wordOf_n12 {Γ : St → Nat → List (Nat × Value) → List Value → Prop} {l : Launch} {a : Nat → Nat} {r : Int64} {σ : St} (hC : Cx Γ l cX7_wordOf RX7 9 (some .long) Rm_X7_wordOf wM a (some (.long r)) σ) (x1 : Int32) (x2 : Int32) (n : Nat) : ∀ (y3 : Int32) (y4 : Int64) (y6 : Int32), f_X7_wordOf_n12 σ x1 x2 n y3 y4 y6 = some r → Γ σ 12 [(0, .ref (a 0)), (1, .int x1), (2, .int x2), (3, .int y3), (4, .long y4), (6, .int y6)] [] := by
  induction n with
  | zero =>
    intro y3 y4 y6  h
    have h : (none : Option Int64) = some r := h
    cases h
  | succ n ih =>
    intro y3 y4 y6  h
    exact t_X7_wordOf_n12_b hC x1 x2    (f_X7_wordOf_n12 σ x1 x2  n) ih y3 y4 y6  h
def f_X7_wordOf (σ : St) (x1 : Int32) (x2 : Int32) : Option Int64 :=
  (f_X7_wide σ x1).bind fun v8 =>
  f_X7_wordOf_n12 σ x1 x2 fuel v8 (0 : Int64) (0 : Int32)
set_option maxRecDepth 100000 in
set_option maxHeartbeats 4000000 in
theorem con_X7_wordOf (l : Launch) (σ : St) (x1 : Int32) (x2 : Int32) {r : Int64} (h : f_X7_wordOf σ x1 x2 = some r) : Con l yX7_wordOf cX7_wordOf 9 (some .long) Rm_X7_wordOf wM (fun a => [.ref (a 0), .int x1, .int x2]) σ (fun _ => some (.long r)) σ := by
  refine con_of (by decide) ⟨rfl, rfl⟩ (fun _ => Nat.le_of_ble_eq_true rfl) (fun Γ a hC => ?_)
  have hC : Cx Γ l cX7_wordOf RX7 9 (some .long) Rm_X7_wordOf wM a (some (.long r)) σ := hC
  show Γ σ 0 [(0, .ref (a 0)), (1, .int x1), (2, .int x2)] []
  unfold f_X7_wordOf at h
  refine r_aload_n hC dX7_wordOf_0 rfl 0 rfl ?_
  refine r_iload_n hC dX7_wordOf_1 rfl 1 rfl ?_
  obtain ⟨v8, hv8, h⟩ := bind_of h
  refine r_callV (As := [.int x1]) (rest := []) hC (con_X7_wide l σ x1 hv8) K7_211 (ob7 a σ) rfl rfl rfl rfl ⟨Nat.le_of_ble_eq_true rfl, Nat.le_of_ble_eq_true rfl⟩ (Nat.le_of_ble_eq_true rfl) dX7_wordOf_2 ?_
  refine r_istore_n (lv' := [(3, .int v8), (0, .ref (a 0)), (1, .int x1), (2, .int x2)]) hC dX7_wordOf_5 rfl (by decide) rfl rfl ?_
  refine r_lconst (v := 0) hC dX7_wordOf_6 (by decide) ?_
  refine r_lstore (lv' := [(4, .long (0 : Int64)), (3, .int v8), (0, .ref (a 0)), (1, .int x1), (2, .int x2)]) hC dX7_wordOf_7 (by decide) rfl rfl ?_
  refine r_iconst (v := 0) hC dX7_wordOf_9 (by decide) ?_
  refine r_istore (lv' := [(6, .int (0 : Int32)), (4, .long (0 : Int64)), (3, .int v8), (0, .ref (a 0)), (1, .int x1), (2, .int x2)]) hC dX7_wordOf_10 (by decide) rfl rfl ?_
  refine r_sub hC [3, 4, 5, 2, 1, 0] rfl ?_
  exact t_X7_wordOf_n12 hC x1 x2 fuel v8 (0 : Int64) (0 : Int32) h
abbrev Rm_X7_sets : Room := { frames := 5, cells := 0, slots := 0, locals := 116 }
def f_X7_sets_n88 (x1 : Int32) (x2 : Int32) (x3 : Int32) (x4 : Int32) (k54 : St → Int64 → Int32 → Option (Int32 × St)) (σ : St) (y5 : Int64) (y7 : Int32) (w1 : Int32) (w2 : Int64) : Option (Int32 × St) :=
  if in_b w1 16 = true then
    lt_ (put_l σ 1 w1.toNatClampNeg w2) fun s1 =>
    lt_ (y7 + (1 : Int32)) fun v2 =>
    k54 s1 y5 v2
  else none
set_option maxRecDepth 100000 in
set_option maxHeartbeats 4000000 in
theorem t_X7_sets_n88 {Γ : St → Nat → List (Nat × Value) → List Value → Prop} {l : Launch} {a : Nat → Nat} {r : Int32} {t' : St} (hC : Cx Γ l cX7_sets RX7 8 (some .int) Rm_X7_sets wM a (some (.int r)) t') (x1 : Int32) (x2 : Int32) (x3 : Int32) (x4 : Int32) (k54 : St → Int64 → Int32 → Option (Int32 × St)) (hk54 : ∀ (σ : St) (y5 : Int64) (y7 : Int32), k54 σ y5 y7 = some (r, t') → Γ σ 54 [(0, .ref (a 0)), (1, .int x1), (2, .int x2), (5, .long y5), (7, .int y7)] []) (σ : St) (y5 : Int64) (y7 : Int32) (w1 : Int32) (w2 : Int64) (h : f_X7_sets_n88 x1 x2 x3 x4 k54 σ y5 y7 w1 w2 = some (r, t')) : Γ σ 88 [(0, .ref (a 0)), (1, .int x1), (2, .int x2), (5, .long y5), (7, .int y7)] [.long w2, .int w1, .ref (a 11)] := by
  unfold f_X7_sets_n88 at h
  obtain ⟨hi, h⟩ := inb_of h
  obtain ⟨s1, es1, h⟩ := lt_of h
  refine S_m_words hC es1 hi dX7_sets_88 ?_
  obtain ⟨v2, ev2, h⟩ := lt_of h
  refine r_iinc (c1 := 1) (lv' := [(7, .int v2), (0, .ref (a 0)), (1, .int x1), (2, .int x2), (5, .long y5)]) hC dX7_sets_89 4 rfl (by decide) (by decide) ev2 rfl ?_
  refine r_goto hC 54 dX7_sets_92 (by decide) ?_
  refine r_sub hC [1, 2, 3, 4, 0] rfl ?_
  exact hk54 s1 y5 v2 h
def f_X7_sets_n54_b (x1 : Int32) (x2 : Int32) (x3 : Int32) (x4 : Int32) (self : St → Int64 → Int32 → Option (Int32 × St)) (σ : St) (y5 : Int64) (y7 : Int32) : Option (Int32 × St) :=
  (f_X7_isWord σ x1 y7).bind fun v3 =>
  if v3 = 0 then
    bind2 (f_X7_readsWords σ x1) fun v5 s4 =>
    if v5 = 0 then
      some ((-300 : Int32), s4)
    else
    bind2 (f_X7_takesTold s4 x1) fun v7 s6 =>
    some (v7, s6)
  else
  if y7 = x2 then
    f_X7_sets_n88 x1 x2 x3 x4 self σ y5 y7 y7 y5
  else
  (f_X7_wordOf σ x1 y7).bind fun v8 =>
  f_X7_sets_n88 x1 x2 x3 x4 self σ y5 y7 y7 v8
def f_X7_sets_n54 (x1 : Int32) (x2 : Int32) (x3 : Int32) (x4 : Int32) : Nat → St → Int64 → Int32 → Option (Int32 × St)
  | 0 => fun _ _ _ => none
  | n + 1 => fun σ y5 y7 => f_X7_sets_n54_b x1 x2 x3 x4  (f_X7_sets_n54 x1 x2 x3 x4  n) σ y5 y7
set_option maxRecDepth 100000 in
set_option maxHeartbeats 4000000 in
theorem t_X7_sets_n54_b {Γ : St → Nat → List (Nat × Value) → List Value → Prop} {l : Launch} {a : Nat → Nat} {r : Int32} {t' : St} (hC : Cx Γ l cX7_sets RX7 8 (some .int) Rm_X7_sets wM a (some (.int r)) t') (x1 : Int32) (x2 : Int32) (x3 : Int32) (x4 : Int32) (self : St → Int64 → Int32 → Option (Int32 × St)) (hself : ∀ (σ : St) (y5 : Int64) (y7 : Int32), self σ y5 y7 = some (r, t') → Γ σ 54 [(0, .ref (a 0)), (1, .int x1), (2, .int x2), (5, .long y5), (7, .int y7)] []) (σ : St) (y5 : Int64) (y7 : Int32) (h : f_X7_sets_n54_b x1 x2 x3 x4 self σ y5 y7 = some (r, t')) : Γ σ 54 [(0, .ref (a 0)), (1, .int x1), (2, .int x2), (5, .long y5), (7, .int y7)] [] := by
  unfold f_X7_sets_n54_b at h
  refine r_aload_n hC dX7_sets_54 rfl 0 rfl ?_
  refine r_iload_n hC dX7_sets_55 rfl 1 rfl ?_
  refine r_iload hC dX7_sets_56 4 rfl ?_
  obtain ⟨v3, hv3, h⟩ := bind_of h
  refine r_callV (As := [.int x1, .int y7]) (rest := []) hC (con_X7_isWord l σ x1 y7 hv3) K7_214 (ob7 a σ) rfl rfl rfl rfl ⟨Nat.le_of_ble_eq_true rfl, Nat.le_of_ble_eq_true rfl⟩ (Nat.le_of_ble_eq_true rfl) dX7_sets_58 ?_
  refine r_if_eq hC 95 dX7_sets_61 (by decide) (fun q => ?_) (fun q => ?_)
  · replace h := if_p q h
    refine r_aload_n hC dX7_sets_95 rfl 0 rfl ?_
    refine r_iload_n hC dX7_sets_96 rfl 1 rfl ?_
    obtain ⟨v5, s4, hs4, h⟩ := bind2_of h
    refine r_callV (As := [.int x1]) (rest := []) hC (con_X7_readsWords l σ x1 hs4) K7_226 (ob7 a σ) rfl rfl rfl rfl ⟨Nat.le_of_ble_eq_true rfl, Nat.le_of_ble_eq_true rfl⟩ (Nat.le_of_ble_eq_true rfl) dX7_sets_97 ?_
    refine r_if_eq hC 111 dX7_sets_100 (by decide) (fun q => ?_) (fun q => ?_)
    · replace h := if_p q h
      refine r_sipush (v := -300) hC dX7_sets_111 (by decide) ?_
      exact r_iretS hC dX7_sets_114 h
    · replace h := if_n q h
      refine r_aload_n hC dX7_sets_103 rfl 0 rfl ?_
      refine r_iload_n hC dX7_sets_104 rfl 1 rfl ?_
      obtain ⟨v7, s6, hs6, h⟩ := bind2_of h
      refine r_callV (As := [.int x1]) (rest := []) hC (con_X7_takesTold l s4 x1 hs6) K7_229 (ob7 a s4) rfl rfl rfl rfl ⟨Nat.le_of_ble_eq_true rfl, Nat.le_of_ble_eq_true rfl⟩ (Nat.le_of_ble_eq_true rfl) dX7_sets_105 ?_
      refine r_goto hC 114 dX7_sets_108 (by decide) ?_
      exact r_iretS hC dX7_sets_114 h
  · replace h := if_n q h
    refine r_aload_n hC dX7_sets_64 rfl 0 rfl ?_
    refine G7_82 hC dX7_sets_65 ?_
    refine r_iload hC dX7_sets_68 4 rfl ?_
    refine r_iload hC dX7_sets_70 4 rfl ?_
    refine r_iload_n hC dX7_sets_72 rfl 2 rfl ?_
    refine r_icmp_ne hC 81 dX7_sets_73 (by decide) (fun q => ?_) (fun q => ?_)
    · replace h := if_n q h
      refine r_aload_n hC dX7_sets_81 rfl 0 rfl ?_
      refine r_iload_n hC dX7_sets_82 rfl 1 rfl ?_
      refine r_iload hC dX7_sets_83 4 rfl ?_
      obtain ⟨v8, hv8, h⟩ := bind_of h
      refine r_callV (As := [.int x1, .int y7]) (rest := [.int y7, .ref (a 11)]) hC (con_X7_wordOf l σ x1 y7 hv8) K7_217 (ob7 a σ) rfl rfl rfl rfl ⟨Nat.le_of_ble_eq_true rfl, Nat.le_of_ble_eq_true rfl⟩ (Nat.le_of_ble_eq_true rfl) dX7_sets_85 ?_
      exact t_X7_sets_n88 hC x1 x2 x3 x4 self hself σ y5 y7 y7 v8 h
    · replace h := if_p q h
      refine r_lload hC dX7_sets_76 3 rfl ?_
      refine r_goto hC 88 dX7_sets_78 (by decide) ?_
      exact t_X7_sets_n88 hC x1 x2 x3 x4 self hself σ y5 y7 y7 y5 h
set_option maxRecDepth 100000 in
set_option maxHeartbeats 4000000 in
theorem t_X7_sets_n54 {Γ : St → Nat → List (Nat × Value) → List Value → Prop} {l : Launch} {a : Nat → Nat} {r : Int32} {t' : St} (hC : Cx Γ l cX7_sets RX7 8 (some .int) Rm_X7_sets wM a (some (.int r)) t') (x1 : Int32) (x2 : Int32) (x3 : Int32) (x4 : Int32) (n : Nat) : ∀ (σ : St) (y5 : Int64) (y7 : Int32), f_X7_sets_n54 x1 x2 x3 x4 n σ y5 y7 = some (r, t') → Γ σ 54 [(0, .ref (a 0)), (1, .int x1), (2, .int x2), (5, .long y5), (7, .int y7)] [] := by
  induction n with
  | zero =>
    intro σ y5 y7  h
    have h : (none : Option (Int32 × St)) = some (r, t') := h
    cases h
  | succ n ih =>
    intro σ y5 y7  h
    exact t_X7_sets_n54_b hC x1 x2 x3 x4    (f_X7_sets_n54 x1 x2 x3 x4  n) ih σ y5 y7  h
def f_X7_sets (σ : St) (x1 : Int32) (x2 : Int32) (x3 : Int32) (x4 : Int32) : Option (Int32 × St) :=
  lt_ (put_i σ 0 (0 : Int32)) fun s9 =>
  (f_X7_isWord s9 x1 x2).bind fun v10 =>
  if v10 = 0 then
    some ((-1 : Int32), s9)
  else
  (f_X7_lies s9 x1).bind fun s11 =>
  lt_ (((x3.toInt64) <<< ((32 : Int32).toInt64 &&& 63)) ||| ((x4.toInt64) &&& (4294967295 : Int64))) fun v12 =>
  (f_X7_wordOf s11 x1 x2).bind fun v13 =>
  if (lg_cmp v13 v12) = 0 then
    some ((-2 : Int32), s11)
  else
  f_X7_sets_n54 x1 x2 x3 x4 fuel s11 v12 (0 : Int32)
set_option maxRecDepth 100000 in
set_option maxHeartbeats 4000000 in
theorem con_X7_sets (l : Launch) (σ : St) (x1 : Int32) (x2 : Int32) (x3 : Int32) (x4 : Int32) {r : Int32} {t' : St} (h : f_X7_sets σ x1 x2 x3 x4 = some (r, t')) : Con l yX7_sets cX7_sets 8 (some .int) Rm_X7_sets wM (fun a => [.ref (a 0), .int x1, .int x2, .int x3, .int x4]) σ (fun _ => some (.int r)) t' := by
  refine con_of (by decide) ⟨rfl, rfl⟩ (fun _ => Nat.le_of_ble_eq_true rfl) (fun Γ a hC => ?_)
  have hC : Cx Γ l cX7_sets RX7 8 (some .int) Rm_X7_sets wM a (some (.int r)) t' := hC
  show Γ σ 0 [(0, .ref (a 0)), (1, .int x1), (2, .int x2), (3, .int x3), (4, .int x4)] []
  unfold f_X7_sets at h
  refine r_aload_n hC dX7_sets_0 rfl 0 rfl ?_
  refine r_iconst (v := 0) hC dX7_sets_1 (by decide) ?_
  obtain ⟨s9, es9, h⟩ := lt_of h
  refine P7_1 hC es9 dX7_sets_2 ?_
  refine r_aload_n hC dX7_sets_5 rfl 0 rfl ?_
  refine r_iload_n hC dX7_sets_6 rfl 1 rfl ?_
  refine r_iload_n hC dX7_sets_7 rfl 2 rfl ?_
  obtain ⟨v10, hv10, h⟩ := bind_of h
  refine r_callV (As := [.int x1, .int x2]) (rest := []) hC (con_X7_isWord l s9 x1 x2 hv10) K7_214 (ob7 a s9) rfl rfl rfl rfl ⟨Nat.le_of_ble_eq_true rfl, Nat.le_of_ble_eq_true rfl⟩ (Nat.le_of_ble_eq_true rfl) dX7_sets_8 ?_
  refine r_if_ne hC 16 dX7_sets_11 (by decide) (fun q => ?_) (fun q => ?_)
  · replace h := if_n q h
    refine r_aload_n hC dX7_sets_16 rfl 0 rfl ?_
    refine r_iload_n hC dX7_sets_17 rfl 1 rfl ?_
    obtain ⟨s11, hs11, h⟩ := bind_of h
    refine r_callV (As := [.int x1]) (rest := []) hC (con_X7_lies l s9 x1 hs11) K7_162 (ob7 a s9) rfl rfl rfl rfl ⟨Nat.le_of_ble_eq_true rfl, Nat.le_of_ble_eq_true rfl⟩ (Nat.le_of_ble_eq_true rfl) dX7_sets_18 ?_
    refine r_iload_n hC dX7_sets_21 rfl 3 rfl ?_
    refine r_i2l hC dX7_sets_22 ?_
    refine r_bipush (v := 32) hC dX7_sets_23 (by decide) ?_
    refine r_lshl hC dX7_sets_25 ?_
    refine r_iload hC dX7_sets_26 4 rfl ?_
    refine r_i2l hC dX7_sets_28 ?_
    refine r_ldc2 hC dX7_sets_29 kc7_224 ?_
    refine r_land hC dX7_sets_32 ?_
    refine r_lor hC dX7_sets_33 ?_
    obtain ⟨v12, ev12, h⟩ := lt_of h
    refine r_lstore (lv' := [(5, .long v12), (0, .ref (a 0)), (1, .int x1), (2, .int x2), (3, .int x3), (4, .int x4)]) hC dX7_sets_34 (by decide) ev12 rfl ?_
    refine r_aload_n hC dX7_sets_36 rfl 1 rfl ?_
    refine r_iload_n hC dX7_sets_37 rfl 2 rfl ?_
    refine r_iload_n hC dX7_sets_38 rfl 3 rfl ?_
    obtain ⟨v13, hv13, h⟩ := bind_of h
    refine r_callV (As := [.int x1, .int x2]) (rest := []) hC (con_X7_wordOf l s11 x1 x2 hv13) K7_217 (ob7 a s11) rfl rfl rfl rfl ⟨Nat.le_of_ble_eq_true rfl, Nat.le_of_ble_eq_true rfl⟩ (Nat.le_of_ble_eq_true rfl) dX7_sets_39 ?_
    refine r_lload hC dX7_sets_42 0 rfl ?_
    refine r_lcmp hC dX7_sets_44 ?_
    refine r_if_ne hC 51 dX7_sets_45 (by decide) (fun q => ?_) (fun q => ?_)
    · replace h := if_n q h
      refine r_iconst (v := 0) hC dX7_sets_51 (by decide) ?_
      refine r_istore (lv' := [(7, .int (0 : Int32)), (5, .long v12), (0, .ref (a 0)), (1, .int x1), (2, .int x2), (3, .int x3), (4, .int x4)]) hC dX7_sets_52 (by decide) rfl rfl ?_
      refine r_sub hC [2, 3, 4, 1, 0] rfl ?_
      exact t_X7_sets_n54 hC x1 x2 x3 x4 fuel s11 v12 (0 : Int32) h
    · replace h := if_p q h
      refine r_bipush (v := -2) hC dX7_sets_48 (by decide) ?_
      exact r_iretS hC dX7_sets_50 h
  · replace h := if_p q h
    refine r_iconst (v := -1) hC dX7_sets_14 (by decide) ?_
    exact r_iretS hC dX7_sets_15 h
abbrev Rm_X7_shape : Room := { frames := 1, cells := 0, slots := 0, locals := 25 }
def f_X7_shape_n45_b (x1 : Int32) (x2 : Int32) (self : St → Int32 → Int32 → Option (Int32 × St)) (σ : St) (y3 : Int32) (y4 : Int32) : Option (Int32 × St) :=
  if (2 : Int32) ≤ y4 then
    some (y3, σ)
  else
  if in_b y4 2 = true then
    lt_ (put_a σ 1 y4.toNatClampNeg (3 : Int32)) fun s1 =>
    if in_b y4 2 = true then
      lt_ (put_a s1 2 y4.toNatClampNeg (0 : Int32)) fun s2 =>
      lt_ (y4 + (1 : Int32)) fun v3 =>
      self s2 y3 v3
    else none
  else none
def f_X7_shape_n45 (x1 : Int32) (x2 : Int32) : Nat → St → Int32 → Int32 → Option (Int32 × St)
  | 0 => fun _ _ _ => none
  | n + 1 => fun σ y3 y4 => f_X7_shape_n45_b x1 x2  (f_X7_shape_n45 x1 x2  n) σ y3 y4
set_option maxRecDepth 100000 in
set_option maxHeartbeats 4000000 in
theorem t_X7_shape_n45_b {Γ : St → Nat → List (Nat × Value) → List Value → Prop} {l : Launch} {a : Nat → Nat} {r : Int32} {t' : St} (hC : Cx Γ l cX7_shape RX7 5 (some .int) Rm_X7_shape wM a (some (.int r)) t') (x1 : Int32) (x2 : Int32) (self : St → Int32 → Int32 → Option (Int32 × St)) (hself : ∀ (σ : St) (y3 : Int32) (y4 : Int32), self σ y3 y4 = some (r, t') → Γ σ 45 [(0, .ref (a 0)), (3, .int y3), (4, .int y4)] []) (σ : St) (y3 : Int32) (y4 : Int32) (h : f_X7_shape_n45_b x1 x2 self σ y3 y4 = some (r, t')) : Γ σ 45 [(0, .ref (a 0)), (3, .int y3), (4, .int y4)] [] := by
  unfold f_X7_shape_n45_b at h
  refine r_iload hC dX7_shape_45 2 rfl ?_
  refine r_iconst (v := 2) hC dX7_shape_47 (by decide) ?_
  refine r_icmp_ge hC 73 dX7_shape_48 (by decide) (fun q => ?_) (fun q => ?_)
  · replace h := if_p q h
    refine r_iload_n hC dX7_shape_73 rfl 1 rfl ?_
    exact r_iretS hC dX7_shape_74 h
  · replace h := if_n q h
    refine r_aload_n hC dX7_shape_51 rfl 0 rfl ?_
    refine G7_57 hC dX7_shape_52 ?_
    refine r_iload hC dX7_shape_55 2 rfl ?_
    refine r_iconst (v := 3) hC dX7_shape_57 (by decide) ?_
    obtain ⟨hi, h⟩ := inb_of h
    obtain ⟨s1, es1, h⟩ := lt_of h
    refine S_m_q hC es1 hi dX7_shape_58 ?_
    refine r_aload_n hC dX7_shape_59 rfl 0 rfl ?_
    refine G7_60 hC dX7_shape_60 ?_
    refine r_iload hC dX7_shape_63 2 rfl ?_
    refine r_iconst (v := 0) hC dX7_shape_65 (by decide) ?_
    obtain ⟨hi, h⟩ := inb_of h
    obtain ⟨s2, es2, h⟩ := lt_of h
    refine S_m_many hC es2 hi dX7_shape_66 ?_
    obtain ⟨v3, ev3, h⟩ := lt_of h
    refine r_iinc (c1 := 1) (lv' := [(4, .int v3), (0, .ref (a 0)), (3, .int y3)]) hC dX7_shape_67 2 rfl (by decide) (by decide) ev3 rfl ?_
    refine r_goto hC 45 dX7_shape_70 (by decide) ?_
    refine r_sub hC [1, 2, 0] rfl ?_
    exact hself s2 y3 v3 h
set_option maxRecDepth 100000 in
set_option maxHeartbeats 4000000 in
theorem t_X7_shape_n45 {Γ : St → Nat → List (Nat × Value) → List Value → Prop} {l : Launch} {a : Nat → Nat} {r : Int32} {t' : St} (hC : Cx Γ l cX7_shape RX7 5 (some .int) Rm_X7_shape wM a (some (.int r)) t') (x1 : Int32) (x2 : Int32) (n : Nat) : ∀ (σ : St) (y3 : Int32) (y4 : Int32), f_X7_shape_n45 x1 x2 n σ y3 y4 = some (r, t') → Γ σ 45 [(0, .ref (a 0)), (3, .int y3), (4, .int y4)] [] := by
  induction n with
  | zero =>
    intro σ y3 y4  h
    have h : (none : Option (Int32 × St)) = some (r, t') := h
    cases h
  | succ n ih =>
    intro σ y3 y4  h
    exact t_X7_shape_n45_b hC x1 x2    (f_X7_shape_n45 x1 x2  n) ih σ y3 y4  h
def f_X7_shape (σ : St) (x1 : Int32) (x2 : Int32) : Option (Int32 × St) :=
  lt_ (put_i σ 0 (0 : Int32)) fun s4 =>
  if (f_X7_in s4 (x1.toInt64) (6 : Int64) (14 : Int64)) = 0 then
    some ((-1 : Int32), s4)
  else
  if (x2 - x2 / (2 : Int32) * (2 : Int32)) = 0 then
    some ((-1 : Int32), s4)
  else
  lt_ (st_i s4 5) fun v5 =>
  lt_ (put_i s4 5 x1) fun s6 =>
  lt_ (put_i s6 6 x2) fun s7 =>
  f_X7_shape_n45 x1 x2 fuel s7 v5 (0 : Int32)
set_option maxRecDepth 100000 in
set_option maxHeartbeats 4000000 in
theorem con_X7_shape (l : Launch) (σ : St) (x1 : Int32) (x2 : Int32) {r : Int32} {t' : St} (h : f_X7_shape σ x1 x2 = some (r, t')) : Con l yX7_shape cX7_shape 5 (some .int) Rm_X7_shape wM (fun a => [.ref (a 0), .int x1, .int x2]) σ (fun _ => some (.int r)) t' := by
  refine con_of (by decide) ⟨rfl, rfl⟩ (fun _ => Nat.le_of_ble_eq_true rfl) (fun Γ a hC => ?_)
  have hC : Cx Γ l cX7_shape RX7 5 (some .int) Rm_X7_shape wM a (some (.int r)) t' := hC
  show Γ σ 0 [(0, .ref (a 0)), (1, .int x1), (2, .int x2)] []
  unfold f_X7_shape at h
  refine r_aload_n hC dX7_shape_0 rfl 0 rfl ?_
  refine r_iconst (v := 0) hC dX7_shape_1 (by decide) ?_
  obtain ⟨s4, es4, h⟩ := lt_of h
  refine P7_1 hC es4 dX7_shape_2 ?_
  refine r_iload_n hC dX7_shape_5 rfl 1 rfl ?_
  refine r_i2l hC dX7_shape_6 ?_
  refine r_ldc2 hC dX7_shape_7 kc7_113 ?_
  refine r_ldc2 hC dX7_shape_10 kc7_115 ?_
  refine r_callS (As := [.long (x1.toInt64), .long (6 : Int64), .long (14 : Int64)]) (rest := []) hC (con_X7_in l s4 (x1.toInt64) (6 : Int64) (14 : Int64) rfl) K7_21 rfl rfl rfl ⟨Nat.le_of_ble_eq_true rfl, Nat.le_of_ble_eq_true rfl⟩ (Nat.le_of_ble_eq_true rfl) dX7_shape_13 ?_
  refine r_if_eq hC 25 dX7_shape_16 (by decide) (fun q => ?_) (fun q => ?_)
  · replace h := if_p q h
    refine r_iconst (v := -1) hC dX7_shape_25 (by decide) ?_
    exact r_iretS hC dX7_shape_26 h
  · replace h := if_n q h
    refine r_iload_n hC dX7_shape_19 rfl 2 rfl ?_
    refine r_iconst (v := 2) hC dX7_shape_20 (by decide) ?_
    refine r_irem hC dX7_shape_21 (by decide) ?_
    refine r_if_ne hC 27 dX7_shape_22 (by decide) (fun q => ?_) (fun q => ?_)
    · replace h := if_n q h
      refine r_aload_n hC dX7_shape_27 rfl 0 rfl ?_
      refine G7_47 hC dX7_shape_28 ?_
      obtain ⟨v5, ev5, h⟩ := lt_of h
      refine r_istore_n (lv' := [(3, .int v5), (0, .ref (a 0)), (1, .int x1), (2, .int x2)]) hC dX7_shape_31 rfl (by decide) ev5 rfl ?_
      refine r_aload_n hC dX7_shape_32 rfl 1 rfl ?_
      refine r_iload_n hC dX7_shape_33 rfl 2 rfl ?_
      obtain ⟨s6, es6, h⟩ := lt_of h
      refine P7_47 hC es6 dX7_shape_34 ?_
      refine r_aload_n hC dX7_shape_37 rfl 1 rfl ?_
      refine r_iload_n hC dX7_shape_38 rfl 3 rfl ?_
      obtain ⟨s7, es7, h⟩ := lt_of h
      refine P7_51 hC es7 dX7_shape_39 ?_
      refine r_iconst (v := 0) hC dX7_shape_42 (by decide) ?_
      refine r_istore (lv' := [(4, .int (0 : Int32)), (3, .int v5), (0, .ref (a 0)), (1, .int x1), (2, .int x2)]) hC dX7_shape_43 (by decide) rfl rfl ?_
      refine r_sub hC [2, 1, 0] rfl ?_
      exact t_X7_shape_n45 hC x1 x2 fuel s7 v5 (0 : Int32) h
    · replace h := if_p q h
      refine r_iconst (v := -1) hC dX7_shape_25 (by decide) ?_
      exact r_iretS hC dX7_shape_26 h
abbrev Rm_X7_sign : Room := { frames := 0, cells := 0, slots := 0, locals := 0 }
def f_X7_sign_n18_b (x1 : Int32) (self : St → Int32 → Option (Int32 × St)) (σ : St) (y2 : Int32) : Option (Int32 × St) :=
  if (4 : Int32) ≤ y2 then
    lt_ (put_i σ 2 ((st_i σ 2) + (4 : Int32))) fun s1 =>
    some ((st_i s1 2), s1)
  else
  if in_b ((st_i σ 2) + y2) 80 = true then
    lt_ (put_a σ 0 ((st_i σ 2) + y2).toNatClampNeg ((x1 >>> (((24 : Int32) - ((8 : Int32) * y2)) &&& 31)) &&& (255 : Int32))) fun s2 =>
    lt_ (y2 + (1 : Int32)) fun v3 =>
    self s2 v3
  else none
def f_X7_sign_n18 (x1 : Int32) : Nat → St → Int32 → Option (Int32 × St)
  | 0 => fun _ _ => none
  | n + 1 => fun σ y2 => f_X7_sign_n18_b x1  (f_X7_sign_n18 x1  n) σ y2
set_option maxRecDepth 100000 in
set_option maxHeartbeats 4000000 in
theorem t_X7_sign_n18_b {Γ : St → Nat → List (Nat × Value) → List Value → Prop} {l : Launch} {a : Nat → Nat} {r : Int32} {t' : St} (hC : Cx Γ l cX7_sign RX7 3 (some .int) Rm_X7_sign wM a (some (.int r)) t') (x1 : Int32) (self : St → Int32 → Option (Int32 × St)) (hself : ∀ (σ : St) (y2 : Int32), self σ y2 = some (r, t') → Γ σ 18 [(0, .ref (a 0)), (1, .int x1), (2, .int y2)] []) (σ : St) (y2 : Int32) (h : f_X7_sign_n18_b x1 self σ y2 = some (r, t')) : Γ σ 18 [(0, .ref (a 0)), (1, .int x1), (2, .int y2)] [] := by
  unfold f_X7_sign_n18_b at h
  refine r_iload_n hC dX7_sign_18 rfl 2 rfl ?_
  refine r_iconst (v := 4) hC dX7_sign_19 (by decide) ?_
  refine r_icmp_ge hC 53 dX7_sign_20 (by decide) (fun q => ?_) (fun q => ?_)
  · replace h := if_p q h
    refine r_aload_n hC dX7_sign_53 rfl 0 rfl ?_
    refine r_dup hC dX7_sign_54 rfl ?_
    refine G7_14 hC dX7_sign_55 ?_
    refine r_iconst (v := 4) hC dX7_sign_58 (by decide) ?_
    refine r_iadd hC dX7_sign_59 ?_
    obtain ⟨s1, es1, h⟩ := lt_of h
    refine P7_14 hC es1 dX7_sign_60 ?_
    refine r_aload_n hC dX7_sign_63 rfl 0 rfl ?_
    refine G7_14 hC dX7_sign_64 ?_
    exact r_iretS hC dX7_sign_67 h
  · replace h := if_n q h
    refine r_aload_n hC dX7_sign_23 rfl 0 rfl ?_
    refine G7_17 hC dX7_sign_24 ?_
    refine r_aload_n hC dX7_sign_27 rfl 0 rfl ?_
    refine G7_14 hC dX7_sign_28 ?_
    refine r_iload_n hC dX7_sign_31 rfl 2 rfl ?_
    refine r_iadd hC dX7_sign_32 ?_
    refine r_iload_n hC dX7_sign_33 rfl 1 rfl ?_
    refine r_bipush (v := 24) hC dX7_sign_34 (by decide) ?_
    refine r_bipush (v := 8) hC dX7_sign_36 (by decide) ?_
    refine r_iload_n hC dX7_sign_38 rfl 2 rfl ?_
    refine r_imul hC dX7_sign_39 ?_
    refine r_isub hC dX7_sign_40 ?_
    refine r_ishr hC dX7_sign_41 ?_
    refine r_sipush (v := 255) hC dX7_sign_42 (by decide) ?_
    refine r_iand hC dX7_sign_45 ?_
    obtain ⟨hi, h⟩ := inb_of h
    obtain ⟨s2, es2, h⟩ := lt_of h
    refine S_m_tape hC es2 hi dX7_sign_46 ?_
    obtain ⟨v3, ev3, h⟩ := lt_of h
    refine r_iinc (c1 := 1) (lv' := [(2, .int v3), (0, .ref (a 0)), (1, .int x1)]) hC dX7_sign_47 2 rfl (by decide) (by decide) ev3 rfl ?_
    refine r_goto hC 18 dX7_sign_50 (by decide) ?_
    refine r_sub hC [1, 2, 0] rfl ?_
    exact hself s2 v3 h
set_option maxRecDepth 100000 in
set_option maxHeartbeats 4000000 in
theorem t_X7_sign_n18 {Γ : St → Nat → List (Nat × Value) → List Value → Prop} {l : Launch} {a : Nat → Nat} {r : Int32} {t' : St} (hC : Cx Γ l cX7_sign RX7 3 (some .int) Rm_X7_sign wM a (some (.int r)) t') (x1 : Int32) (n : Nat) : ∀ (σ : St) (y2 : Int32), f_X7_sign_n18 x1 n σ y2 = some (r, t') → Γ σ 18 [(0, .ref (a 0)), (1, .int x1), (2, .int y2)] [] := by
  induction n with
  | zero =>
    intro σ y2  h
    have h : (none : Option (Int32 × St)) = some (r, t') := h
    cases h
  | succ n ih =>
    intro σ y2  h
    exact t_X7_sign_n18_b hC x1    (f_X7_sign_n18 x1  n) ih σ y2  h
def f_X7_sign (σ : St) (x1 : Int32) : Option (Int32 × St) :=
  lt_ (put_i σ 0 (0 : Int32)) fun s4 =>
  if (st_i s4 2) ≤ (76 : Int32) then
    f_X7_sign_n18 x1 fuel s4 (0 : Int32)
  else
  some ((-1 : Int32), s4)
set_option maxRecDepth 100000 in
set_option maxHeartbeats 4000000 in
theorem con_X7_sign (l : Launch) (σ : St) (x1 : Int32) {r : Int32} {t' : St} (h : f_X7_sign σ x1 = some (r, t')) : Con l yX7_sign cX7_sign 3 (some .int) Rm_X7_sign wM (fun a => [.ref (a 0), .int x1]) σ (fun _ => some (.int r)) t' := by
  refine con_of (by decide) ⟨rfl, rfl⟩ (fun _ => Nat.le_of_ble_eq_true rfl) (fun Γ a hC => ?_)
  have hC : Cx Γ l cX7_sign RX7 3 (some .int) Rm_X7_sign wM a (some (.int r)) t' := hC
  show Γ σ 0 [(0, .ref (a 0)), (1, .int x1)] []
  unfold f_X7_sign at h
  refine r_aload_n hC dX7_sign_0 rfl 0 rfl ?_
  refine r_iconst (v := 0) hC dX7_sign_1 (by decide) ?_
  obtain ⟨s4, es4, h⟩ := lt_of h
  refine P7_1 hC es4 dX7_sign_2 ?_
  refine r_aload_n hC dX7_sign_5 rfl 0 rfl ?_
  refine G7_14 hC dX7_sign_6 ?_
  refine r_bipush (v := 76) hC dX7_sign_9 (by decide) ?_
  refine r_icmp_le hC 16 dX7_sign_11 (by decide) (fun q => ?_) (fun q => ?_)
  · replace h := if_p q h
    refine r_iconst (v := 0) hC dX7_sign_16 (by decide) ?_
    refine r_istore_n (lv' := [(2, .int (0 : Int32)), (0, .ref (a 0)), (1, .int x1)]) hC dX7_sign_17 rfl (by decide) rfl rfl ?_
    refine r_sub hC [1, 2, 0] rfl ?_
    exact t_X7_sign_n18 hC x1 fuel s4 (0 : Int32) h
  · replace h := if_n q h
    refine r_iconst (v := -1) hC dX7_sign_14 (by decide) ?_
    exact r_iretS hC dX7_sign_15 h
abbrev Rm_X7_slot : Room := { frames := 3, cells := 0, slots := 0, locals := 69 }
def f_X7_slot (σ : St) (x1 : Int32) (x2 : Int32) : Option (Int32 × St) :=
  lt_ (put_i σ 0 (0 : Int32)) fun s1 =>
  (f_X7_isSlot s1 x1 x2).bind fun v2 =>
  if v2 = 0 then
    some ((-1 : Int32), s1)
  else
  (f_X7_lies s1 x1).bind fun s3 =>
  if in_b x2 64 = true then
    if 0 ≤ (st_a s3 5 x2.toNatClampNeg) then
      if in_b x2 64 = true then
        (f_X7_at s3 x1 (st_a s3 5 x2.toNatClampNeg)).bind fun v4 =>
        lt_ (put_i s3 1 (0 : Int32)) fun s5 =>
        if in_b x2 64 = true then
          (f_X7_enters s5 ((((st_a s5 6 x2.toNatClampNeg) &&& (1 : Int32))).toInt64)).bind fun s6 =>
          if in_b x2 64 = true then
            (f_X7_enters s6 (((((st_a s6 6 x2.toNatClampNeg) &&& (2 : Int32)) / (2 : Int32))).toInt64)).bind fun s7 =>
            if in_b x2 64 = true then
              (f_X7_enters s7 (((((st_a s7 6 x2.toNatClampNeg) &&& (4 : Int32)) / (4 : Int32))).toInt64)).bind fun s8 =>
              (f_X7_enters s8 (v4.toInt64)).bind fun s9 =>
              (f_X7_remainderOf s9 x1 v4).bind fun v10 =>
              some (v10, s9)
            else none
          else none
        else none
      else none
    else
    some ((-2 : Int32), s3)
  else none
set_option maxRecDepth 100000 in
set_option maxHeartbeats 4000000 in
theorem con_X7_slot (l : Launch) (σ : St) (x1 : Int32) (x2 : Int32) {r : Int32} {t' : St} (h : f_X7_slot σ x1 x2 = some (r, t')) : Con l yX7_slot cX7_slot 4 (some .int) Rm_X7_slot wM (fun a => [.ref (a 0), .int x1, .int x2]) σ (fun _ => some (.int r)) t' := by
  refine con_of (by decide) ⟨rfl, rfl⟩ (fun _ => Nat.le_of_ble_eq_true rfl) (fun Γ a hC => ?_)
  have hC : Cx Γ l cX7_slot RX7 4 (some .int) Rm_X7_slot wM a (some (.int r)) t' := hC
  show Γ σ 0 [(0, .ref (a 0)), (1, .int x1), (2, .int x2)] []
  unfold f_X7_slot at h
  refine r_aload_n hC dX7_slot_0 rfl 0 rfl ?_
  refine r_iconst (v := 0) hC dX7_slot_1 (by decide) ?_
  obtain ⟨s1, es1, h⟩ := lt_of h
  refine P7_1 hC es1 dX7_slot_2 ?_
  refine r_aload_n hC dX7_slot_5 rfl 0 rfl ?_
  refine r_iload_n hC dX7_slot_6 rfl 1 rfl ?_
  refine r_iload_n hC dX7_slot_7 rfl 2 rfl ?_
  obtain ⟨v2, hv2, h⟩ := bind_of h
  refine r_callV (As := [.int x1, .int x2]) (rest := []) hC (con_X7_isSlot l s1 x1 x2 hv2) K7_208 (ob7 a s1) rfl rfl rfl rfl ⟨Nat.le_of_ble_eq_true rfl, Nat.le_of_ble_eq_true rfl⟩ (Nat.le_of_ble_eq_true rfl) dX7_slot_8 ?_
  refine r_if_ne hC 16 dX7_slot_11 (by decide) (fun q => ?_) (fun q => ?_)
  · replace h := if_n q h
    refine r_aload_n hC dX7_slot_16 rfl 0 rfl ?_
    refine r_iload_n hC dX7_slot_17 rfl 1 rfl ?_
    obtain ⟨s3, hs3, h⟩ := bind_of h
    refine r_callV (As := [.int x1]) (rest := []) hC (con_X7_lies l s1 x1 hs3) K7_162 (ob7 a s1) rfl rfl rfl rfl ⟨Nat.le_of_ble_eq_true rfl, Nat.le_of_ble_eq_true rfl⟩ (Nat.le_of_ble_eq_true rfl) dX7_slot_18 ?_
    refine r_aload_n hC dX7_slot_21 rfl 0 rfl ?_
    refine G7_69 hC dX7_slot_22 ?_
    refine r_iload_n hC dX7_slot_25 rfl 2 rfl ?_
    obtain ⟨hi, h⟩ := inb_of h
    refine L_m_holds hC hi dX7_slot_26 ?_
    refine r_if_ge hC 33 dX7_slot_27 (by decide) (fun q => ?_) (fun q => ?_)
    · replace h := if_p q h
      refine r_aload_n hC dX7_slot_33 rfl 0 rfl ?_
      refine r_iload_n hC dX7_slot_34 rfl 1 rfl ?_
      refine r_aload_n hC dX7_slot_35 rfl 0 rfl ?_
      refine G7_69 hC dX7_slot_36 ?_
      refine r_iload_n hC dX7_slot_39 rfl 2 rfl ?_
      obtain ⟨hi, h⟩ := inb_of h
      refine L_m_holds hC hi dX7_slot_40 ?_
      obtain ⟨v4, hv4, h⟩ := bind_of h
      refine r_callV (As := [.int x1, .int (st_a s3 5 x2.toNatClampNeg)]) (rest := []) hC (con_X7_at l s3 x1 (st_a s3 5 x2.toNatClampNeg) hv4) K7_106 (ob7 a s3) rfl rfl rfl rfl ⟨Nat.le_of_ble_eq_true rfl, Nat.le_of_ble_eq_true rfl⟩ (Nat.le_of_ble_eq_true rfl) dX7_slot_41 ?_
      refine r_istore_n (lv' := [(3, .int v4), (0, .ref (a 0)), (1, .int x1), (2, .int x2)]) hC dX7_slot_44 rfl (by decide) rfl rfl ?_
      refine r_aload_n hC dX7_slot_45 rfl 1 rfl ?_
      refine r_iconst (v := 0) hC dX7_slot_46 (by decide) ?_
      obtain ⟨s5, es5, h⟩ := lt_of h
      refine P7_11 hC es5 dX7_slot_47 ?_
      refine r_aload_n hC dX7_slot_50 rfl 1 rfl ?_
      refine r_aload_n hC dX7_slot_51 rfl 1 rfl ?_
      refine G7_72 hC dX7_slot_52 ?_
      refine r_iload_n hC dX7_slot_55 rfl 3 rfl ?_
      obtain ⟨hi, h⟩ := inb_of h
      refine L_m_marks hC hi dX7_slot_56 ?_
      refine r_iconst (v := 1) hC dX7_slot_57 (by decide) ?_
      refine r_iand hC dX7_slot_58 ?_
      refine r_i2l hC dX7_slot_59 ?_
      obtain ⟨s6, hs6, h⟩ := bind_of h
      refine r_callV (As := [.long ((((st_a s5 6 x2.toNatClampNeg) &&& (1 : Int32))).toInt64)]) (rest := []) hC (con_X7_enters l s5 ((((st_a s5 6 x2.toNatClampNeg) &&& (1 : Int32))).toInt64) hs6) K7_145 (ob7 a s5) rfl rfl rfl rfl ⟨Nat.le_of_ble_eq_true rfl, Nat.le_of_ble_eq_true rfl⟩ (Nat.le_of_ble_eq_true rfl) dX7_slot_60 ?_
      refine r_aload_n hC dX7_slot_63 rfl 1 rfl ?_
      refine r_aload_n hC dX7_slot_64 rfl 1 rfl ?_
      refine G7_72 hC dX7_slot_65 ?_
      refine r_iload_n hC dX7_slot_68 rfl 3 rfl ?_
      obtain ⟨hi, h⟩ := inb_of h
      refine L_m_marks hC hi dX7_slot_69 ?_
      refine r_iconst (v := 2) hC dX7_slot_70 (by decide) ?_
      refine r_iand hC dX7_slot_71 ?_
      refine r_iconst (v := 2) hC dX7_slot_72 (by decide) ?_
      refine r_idiv hC dX7_slot_73 (by decide) ?_
      refine r_i2l hC dX7_slot_74 ?_
      obtain ⟨s7, hs7, h⟩ := bind_of h
      refine r_callV (As := [.long (((((st_a s6 6 x2.toNatClampNeg) &&& (2 : Int32)) / (2 : Int32))).toInt64)]) (rest := []) hC (con_X7_enters l s6 (((((st_a s6 6 x2.toNatClampNeg) &&& (2 : Int32)) / (2 : Int32))).toInt64) hs7) K7_145 (ob7 a s6) rfl rfl rfl rfl ⟨Nat.le_of_ble_eq_true rfl, Nat.le_of_ble_eq_true rfl⟩ (Nat.le_of_ble_eq_true rfl) dX7_slot_75 ?_
      refine r_aload_n hC dX7_slot_78 rfl 1 rfl ?_
      refine r_aload_n hC dX7_slot_79 rfl 1 rfl ?_
      refine G7_72 hC dX7_slot_80 ?_
      refine r_iload_n hC dX7_slot_83 rfl 3 rfl ?_
      obtain ⟨hi, h⟩ := inb_of h
      refine L_m_marks hC hi dX7_slot_84 ?_
      refine r_iconst (v := 4) hC dX7_slot_85 (by decide) ?_
      refine r_iand hC dX7_slot_86 ?_
      refine r_iconst (v := 4) hC dX7_slot_87 (by decide) ?_
      refine r_idiv hC dX7_slot_88 (by decide) ?_
      refine r_i2l hC dX7_slot_89 ?_
      obtain ⟨s8, hs8, h⟩ := bind_of h
      refine r_callV (As := [.long (((((st_a s7 6 x2.toNatClampNeg) &&& (4 : Int32)) / (4 : Int32))).toInt64)]) (rest := []) hC (con_X7_enters l s7 (((((st_a s7 6 x2.toNatClampNeg) &&& (4 : Int32)) / (4 : Int32))).toInt64) hs8) K7_145 (ob7 a s7) rfl rfl rfl rfl ⟨Nat.le_of_ble_eq_true rfl, Nat.le_of_ble_eq_true rfl⟩ (Nat.le_of_ble_eq_true rfl) dX7_slot_90 ?_
      refine r_aload_n hC dX7_slot_93 rfl 1 rfl ?_
      refine r_iload_n hC dX7_slot_94 rfl 0 rfl ?_
      refine r_i2l hC dX7_slot_95 ?_
      obtain ⟨s9, hs9, h⟩ := bind_of h
      refine r_callV (As := [.long (v4.toInt64)]) (rest := []) hC (con_X7_enters l s8 (v4.toInt64) hs9) K7_145 (ob7 a s8) rfl rfl rfl rfl ⟨Nat.le_of_ble_eq_true rfl, Nat.le_of_ble_eq_true rfl⟩ (Nat.le_of_ble_eq_true rfl) dX7_slot_96 ?_
      refine r_aload_n hC dX7_slot_99 rfl 1 rfl ?_
      refine r_iload_n hC dX7_slot_100 rfl 2 rfl ?_
      refine r_iload_n hC dX7_slot_101 rfl 0 rfl ?_
      obtain ⟨v10, hv10, h⟩ := bind_of h
      refine r_callV (As := [.int x1, .int v4]) (rest := []) hC (con_X7_remainderOf l s9 x1 v4 hv10) K7_149 (ob7 a s9) rfl rfl rfl rfl ⟨Nat.le_of_ble_eq_true rfl, Nat.le_of_ble_eq_true rfl⟩ (Nat.le_of_ble_eq_true rfl) dX7_slot_102 ?_
      exact r_iretS hC dX7_slot_105 h
    · replace h := if_n q h
      refine r_bipush (v := -2) hC dX7_slot_30 (by decide) ?_
      exact r_iretS hC dX7_slot_32 h
  · replace h := if_p q h
    refine r_iconst (v := -1) hC dX7_slot_14 (by decide) ?_
    exact r_iretS hC dX7_slot_15 h
abbrev Rm_X7_span : Room := { frames := 3, cells := 0, slots := 0, locals := 69 }
def f_X7_span_n172 (x1 : Int32) (x2 : Int32) (x3 : Int32) (k77 : St → Int32 → Int32 → Int32 → Int32 → Option (Int32 × St)) (σ : St) (y4 : Int32) (y5 : Int32) (y7 : Int32) (y8 : Int32) (w0 : Int32) (w1 : Int32) : Option (Int32 × St) :=
  lt_ (w0 + w1) fun v4 =>
  if in_b y8 64 = true then
    lt_ (put_a σ 13 y8.toNatClampNeg (1 : Int32)) fun s5 =>
    lt_ (y7 + (1 : Int32)) fun v6 =>
    k77 s5 y4 y5 v4 v6
  else none
set_option maxRecDepth 100000 in
set_option maxHeartbeats 4000000 in
theorem t_X7_span_n172 {Γ : St → Nat → List (Nat × Value) → List Value → Prop} {l : Launch} {a : Nat → Nat} {r : Int32} {t' : St} (hC : Cx Γ l cX7_span RX7 9 (some .int) Rm_X7_span wM a (some (.int r)) t') (x1 : Int32) (x2 : Int32) (x3 : Int32) (k77 : St → Int32 → Int32 → Int32 → Int32 → Option (Int32 × St)) (hk77 : ∀ (σ : St) (y4 : Int32) (y5 : Int32) (y6 : Int32) (y7 : Int32), k77 σ y4 y5 y6 y7 = some (r, t') → Γ σ 77 [(0, .ref (a 0)), (1, .int x1), (2, .int x2), (3, .int x3), (4, .int y4), (5, .int y5), (6, .int y6), (7, .int y7)] []) (σ : St) (y4 : Int32) (y5 : Int32) (y7 : Int32) (y8 : Int32) (w0 : Int32) (w1 : Int32) (h : f_X7_span_n172 x1 x2 x3 k77 σ y4 y5 y7 y8 w0 w1 = some (r, t')) : Γ σ 172 [(0, .ref (a 0)), (1, .int x1), (2, .int x2), (3, .int x3), (4, .int y4), (5, .int y5), (7, .int y7), (8, .int y8)] [.int w1, .int w0] := by
  unfold f_X7_span_n172 at h
  refine r_iadd hC dX7_span_172 ?_
  obtain ⟨v4, ev4, h⟩ := lt_of h
  refine r_istore (lv' := [(6, .int v4), (0, .ref (a 0)), (1, .int x1), (2, .int x2), (3, .int x3), (4, .int y4), (5, .int y5), (7, .int y7), (8, .int y8)]) hC dX7_span_173 (by decide) ev4 rfl ?_
  refine r_aload_n hC dX7_span_175 rfl 1 rfl ?_
  refine G7_97 hC dX7_span_176 ?_
  refine r_iload hC dX7_span_179 8 rfl ?_
  refine r_iconst (v := 1) hC dX7_span_181 (by decide) ?_
  obtain ⟨hi, h⟩ := inb_of h
  obtain ⟨s5, es5, h⟩ := lt_of h
  refine S_m_before hC es5 hi dX7_span_182 ?_
  obtain ⟨v6, ev6, h⟩ := lt_of h
  refine r_iinc (c1 := 1) (lv' := [(7, .int v6), (6, .int v4), (0, .ref (a 0)), (1, .int x1), (2, .int x2), (3, .int x3), (4, .int y4), (5, .int y5), (8, .int y8)]) hC dX7_span_183 7 rfl (by decide) (by decide) ev6 rfl ?_
  refine r_goto hC 77 dX7_span_186 (by decide) ?_
  refine r_sub hC [2, 3, 4, 5, 6, 7, 1, 0] rfl ?_
  exact hk77 s5 y4 y5 v4 v6 h
def f_X7_span_n143 (x1 : Int32) (x2 : Int32) (x3 : Int32) (k77 : St → Int32 → Int32 → Int32 → Int32 → Option (Int32 × St)) (σ : St) (y4 : Int32) (y6 : Int32) (y7 : Int32) (y8 : Int32) (w0 : Int32) (w1 : Int32) : Option (Int32 × St) :=
  lt_ (w0 + (f_X7_flag σ w1)) fun v14 =>
  if in_b y8 64 = true then
    if (st_a σ 13 y8.toNatClampNeg) = 0 then
      (f_X7_clusterFrom σ x1 y8).bind fun v15 =>
      f_X7_span_n172 x1 x2 x3 k77 σ y4 v14 y7 y8 y6 v15
    else
    f_X7_span_n172 x1 x2 x3 k77 σ y4 v14 y7 y8 y6 (0 : Int32)
  else none
set_option maxRecDepth 100000 in
set_option maxHeartbeats 4000000 in
theorem t_X7_span_n143 {Γ : St → Nat → List (Nat × Value) → List Value → Prop} {l : Launch} {a : Nat → Nat} {r : Int32} {t' : St} (hC : Cx Γ l cX7_span RX7 9 (some .int) Rm_X7_span wM a (some (.int r)) t') (x1 : Int32) (x2 : Int32) (x3 : Int32) (k77 : St → Int32 → Int32 → Int32 → Int32 → Option (Int32 × St)) (hk77 : ∀ (σ : St) (y4 : Int32) (y5 : Int32) (y6 : Int32) (y7 : Int32), k77 σ y4 y5 y6 y7 = some (r, t') → Γ σ 77 [(0, .ref (a 0)), (1, .int x1), (2, .int x2), (3, .int x3), (4, .int y4), (5, .int y5), (6, .int y6), (7, .int y7)] []) (σ : St) (y4 : Int32) (y6 : Int32) (y7 : Int32) (y8 : Int32) (w0 : Int32) (w1 : Int32) (h : f_X7_span_n143 x1 x2 x3 k77 σ y4 y6 y7 y8 w0 w1 = some (r, t')) : Γ σ 143 [(0, .ref (a 0)), (1, .int x1), (2, .int x2), (3, .int x3), (4, .int y4), (6, .int y6), (7, .int y7), (8, .int y8)] [.int w1, .int w0] := by
  unfold f_X7_span_n143 at h
  refine r_callS (As := [.int w1]) (rest := [.int w0]) hC (con_X7_flag l σ w1 rfl) K7_109 rfl rfl rfl ⟨Nat.le_of_ble_eq_true rfl, Nat.le_of_ble_eq_true rfl⟩ (Nat.le_of_ble_eq_true rfl) dX7_span_143 ?_
  refine r_iadd hC dX7_span_146 ?_
  obtain ⟨v14, ev14, h⟩ := lt_of h
  refine r_istore (lv' := [(5, .int v14), (0, .ref (a 0)), (1, .int x1), (2, .int x2), (3, .int x3), (4, .int y4), (6, .int y6), (7, .int y7), (8, .int y8)]) hC dX7_span_147 (by decide) ev14 rfl ?_
  refine r_iload hC dX7_span_149 6 rfl ?_
  refine r_aload_n hC dX7_span_151 rfl 1 rfl ?_
  refine G7_97 hC dX7_span_152 ?_
  refine r_iload hC dX7_span_155 8 rfl ?_
  obtain ⟨hi, h⟩ := inb_of h
  refine L_m_before hC hi dX7_span_157 ?_
  refine r_if_ne hC 171 dX7_span_158 (by decide) (fun q => ?_) (fun q => ?_)
  · replace h := if_n q h
    refine r_iconst (v := 0) hC dX7_span_171 (by decide) ?_
    refine r_sub hC [1, 2, 3, 4, 5, 0, 7, 8] rfl ?_
    exact t_X7_span_n172 hC x1 x2 x3 k77 hk77 σ y4 v14 y7 y8 y6 (0 : Int32) h
  · replace h := if_p q h
    refine r_aload_n hC dX7_span_161 rfl 1 rfl ?_
    refine r_iload_n hC dX7_span_162 rfl 2 rfl ?_
    refine r_iload hC dX7_span_163 8 rfl ?_
    obtain ⟨v15, hv15, h⟩ := bind_of h
    refine r_callV (As := [.int x1, .int y8]) (rest := [.int y6]) hC (con_X7_clusterFrom l σ x1 y8 hv15) K7_266 (ob7 a σ) rfl rfl rfl rfl ⟨Nat.le_of_ble_eq_true rfl, Nat.le_of_ble_eq_true rfl⟩ (Nat.le_of_ble_eq_true rfl) dX7_span_165 ?_
    refine r_goto hC 172 dX7_span_168 (by decide) ?_
    refine r_sub hC [1, 2, 3, 4, 5, 0, 7, 8] rfl ?_
    exact t_X7_span_n172 hC x1 x2 x3 k77 hk77 σ y4 v14 y7 y8 y6 v15 h
def f_X7_span_n77_b (x1 : Int32) (x2 : Int32) (x3 : Int32) (self : St → Int32 → Int32 → Int32 → Int32 → Option (Int32 × St)) (σ : St) (y4 : Int32) (y5 : Int32) (y6 : Int32) (y7 : Int32) : Option (Int32 × St) :=
  if in_b x1 2 = true then
    if (st_a σ 2 x1.toNatClampNeg) ≤ y7 then
      lt_ (put_i σ 1 (0 : Int32)) fun s7 =>
      (f_X7_enters s7 (y5.toInt64)).bind fun s8 =>
      (f_X7_enters s8 (y6.toInt64)).bind fun s9 =>
      some (y4, s9)
    else
    (f_X7_at σ x1 y7).bind fun v10 =>
    if (f_X7_in σ (v10.toInt64) (x2.toInt64) (x3.toInt64)) = 0 then
      lt_ (y7 + (1 : Int32)) fun v13 =>
      self σ y4 y5 y6 v13
    else
    lt_ (y4 + (1 : Int32)) fun v11 =>
    if in_b y7 64 = true then
      (f_X7_firstOf σ x1 (st_a σ 4 y7.toNatClampNeg)).bind fun v12 =>
      if in_b v12 64 = true then
        if (st_a σ 13 v12.toNatClampNeg) = 0 then
          f_X7_span_n143 x1 x2 x3 self σ v11 y6 y7 v12 y5 (1 : Int32)
        else
        f_X7_span_n143 x1 x2 x3 self σ v11 y6 y7 v12 y5 (0 : Int32)
      else none
    else none
  else none
def f_X7_span_n77 (x1 : Int32) (x2 : Int32) (x3 : Int32) : Nat → St → Int32 → Int32 → Int32 → Int32 → Option (Int32 × St)
  | 0 => fun _ _ _ _ _ => none
  | n + 1 => fun σ y4 y5 y6 y7 => f_X7_span_n77_b x1 x2 x3  (f_X7_span_n77 x1 x2 x3  n) σ y4 y5 y6 y7
set_option maxRecDepth 100000 in
set_option maxHeartbeats 4000000 in
theorem t_X7_span_n77_b {Γ : St → Nat → List (Nat × Value) → List Value → Prop} {l : Launch} {a : Nat → Nat} {r : Int32} {t' : St} (hC : Cx Γ l cX7_span RX7 9 (some .int) Rm_X7_span wM a (some (.int r)) t') (x1 : Int32) (x2 : Int32) (x3 : Int32) (self : St → Int32 → Int32 → Int32 → Int32 → Option (Int32 × St)) (hself : ∀ (σ : St) (y4 : Int32) (y5 : Int32) (y6 : Int32) (y7 : Int32), self σ y4 y5 y6 y7 = some (r, t') → Γ σ 77 [(0, .ref (a 0)), (1, .int x1), (2, .int x2), (3, .int x3), (4, .int y4), (5, .int y5), (6, .int y6), (7, .int y7)] []) (σ : St) (y4 : Int32) (y5 : Int32) (y6 : Int32) (y7 : Int32) (h : f_X7_span_n77_b x1 x2 x3 self σ y4 y5 y6 y7 = some (r, t')) : Γ σ 77 [(0, .ref (a 0)), (1, .int x1), (2, .int x2), (3, .int x3), (4, .int y4), (5, .int y5), (6, .int y6), (7, .int y7)] [] := by
  unfold f_X7_span_n77_b at h
  refine r_iload hC dX7_span_77 7 rfl ?_
  refine r_aload_n hC dX7_span_79 rfl 0 rfl ?_
  refine G7_60 hC dX7_span_80 ?_
  refine r_iload_n hC dX7_span_83 rfl 1 rfl ?_
  obtain ⟨hi, h⟩ := inb_of h
  refine L_m_many hC hi dX7_span_84 ?_
  refine r_icmp_ge hC 189 dX7_span_85 (by decide) (fun q => ?_) (fun q => ?_)
  · replace h := if_p q h
    refine r_aload_n hC dX7_span_189 rfl 0 rfl ?_
    refine r_iconst (v := 0) hC dX7_span_190 (by decide) ?_
    obtain ⟨s7, es7, h⟩ := lt_of h
    refine P7_11 hC es7 dX7_span_191 ?_
    refine r_aload_n hC dX7_span_194 rfl 0 rfl ?_
    refine r_iload hC dX7_span_195 5 rfl ?_
    refine r_i2l hC dX7_span_197 ?_
    obtain ⟨s8, hs8, h⟩ := bind_of h
    refine r_callV (As := [.long (y5.toInt64)]) (rest := []) hC (con_X7_enters l s7 (y5.toInt64) hs8) K7_145 (ob7 a s7) rfl rfl rfl rfl ⟨Nat.le_of_ble_eq_true rfl, Nat.le_of_ble_eq_true rfl⟩ (Nat.le_of_ble_eq_true rfl) dX7_span_198 ?_
    refine r_aload_n hC dX7_span_201 rfl 0 rfl ?_
    refine r_iload hC dX7_span_202 6 rfl ?_
    refine r_i2l hC dX7_span_204 ?_
    obtain ⟨s9, hs9, h⟩ := bind_of h
    refine r_callV (As := [.long (y6.toInt64)]) (rest := []) hC (con_X7_enters l s8 (y6.toInt64) hs9) K7_145 (ob7 a s8) rfl rfl rfl rfl ⟨Nat.le_of_ble_eq_true rfl, Nat.le_of_ble_eq_true rfl⟩ (Nat.le_of_ble_eq_true rfl) dX7_span_205 ?_
    refine r_iload hC dX7_span_208 4 rfl ?_
    exact r_iretS hC dX7_span_210 h
  · replace h := if_n q h
    refine r_aload_n hC dX7_span_88 rfl 0 rfl ?_
    refine r_iload_n hC dX7_span_89 rfl 1 rfl ?_
    refine r_iload hC dX7_span_90 7 rfl ?_
    obtain ⟨v10, hv10, h⟩ := bind_of h
    refine r_callV (As := [.int x1, .int y7]) (rest := []) hC (con_X7_at l σ x1 y7 hv10) K7_106 (ob7 a σ) rfl rfl rfl rfl ⟨Nat.le_of_ble_eq_true rfl, Nat.le_of_ble_eq_true rfl⟩ (Nat.le_of_ble_eq_true rfl) dX7_span_92 ?_
    refine r_i2l hC dX7_span_95 ?_
    refine r_iload_n hC dX7_span_96 rfl 2 rfl ?_
    refine r_i2l hC dX7_span_97 ?_
    refine r_iload_n hC dX7_span_98 rfl 3 rfl ?_
    refine r_i2l hC dX7_span_99 ?_
    refine r_callS (As := [.long (v10.toInt64), .long (x2.toInt64), .long (x3.toInt64)]) (rest := []) hC (con_X7_in l σ (v10.toInt64) (x2.toInt64) (x3.toInt64) rfl) K7_21 rfl rfl rfl ⟨Nat.le_of_ble_eq_true rfl, Nat.le_of_ble_eq_true rfl⟩ (Nat.le_of_ble_eq_true rfl) dX7_span_100 ?_
    refine r_if_ne hC 109 dX7_span_103 (by decide) (fun q => ?_) (fun q => ?_)
    · replace h := if_n q h
      obtain ⟨v11, ev11, h⟩ := lt_of h
      refine r_iinc (c1 := 1) (lv' := [(4, .int v11), (0, .ref (a 0)), (1, .int x1), (2, .int x2), (3, .int x3), (5, .int y5), (6, .int y6), (7, .int y7)]) hC dX7_span_109 4 rfl (by decide) (by decide) ev11 rfl ?_
      refine r_aload_n hC dX7_span_112 rfl 1 rfl ?_
      refine r_iload_n hC dX7_span_113 rfl 2 rfl ?_
      refine r_aload_n hC dX7_span_114 rfl 1 rfl ?_
      refine G7_66 hC dX7_span_115 ?_
      refine r_iload hC dX7_span_118 7 rfl ?_
      obtain ⟨hi, h⟩ := inb_of h
      refine L_m_where hC hi dX7_span_120 ?_
      obtain ⟨v12, hv12, h⟩ := bind_of h
      refine r_callV (As := [.int x1, .int (st_a σ 4 y7.toNatClampNeg)]) (rest := []) hC (con_X7_firstOf l σ x1 (st_a σ 4 y7.toNatClampNeg) hv12) K7_263 (ob7 a σ) rfl rfl rfl rfl ⟨Nat.le_of_ble_eq_true rfl, Nat.le_of_ble_eq_true rfl⟩ (Nat.le_of_ble_eq_true rfl) dX7_span_121 ?_
      refine r_istore (lv' := [(8, .int v12), (4, .int v11), (0, .ref (a 0)), (1, .int x1), (2, .int x2), (3, .int x3), (5, .int y5), (6, .int y6), (7, .int y7)]) hC dX7_span_124 (by decide) rfl rfl ?_
      refine r_iload hC dX7_span_126 6 rfl ?_
      refine r_aload_n hC dX7_span_128 rfl 2 rfl ?_
      refine G7_97 hC dX7_span_129 ?_
      refine r_iload hC dX7_span_132 0 rfl ?_
      obtain ⟨hi, h⟩ := inb_of h
      refine L_m_before hC hi dX7_span_134 ?_
      refine r_if_ne hC 142 dX7_span_135 (by decide) (fun q => ?_) (fun q => ?_)
      · replace h := if_n q h
        refine r_iconst (v := 0) hC dX7_span_142 (by decide) ?_
        refine r_sub hC [2, 3, 4, 5, 1, 7, 8, 0] rfl ?_
        exact t_X7_span_n143 hC x1 x2 x3 self hself σ v11 y6 y7 v12 y5 (0 : Int32) h
      · replace h := if_p q h
        refine r_iconst (v := 1) hC dX7_span_138 (by decide) ?_
        refine r_goto hC 143 dX7_span_139 (by decide) ?_
        refine r_sub hC [2, 3, 4, 5, 1, 7, 8, 0] rfl ?_
        exact t_X7_span_n143 hC x1 x2 x3 self hself σ v11 y6 y7 v12 y5 (1 : Int32) h
    · replace h := if_p q h
      refine r_goto hC 183 dX7_span_106 (by decide) ?_
      obtain ⟨v13, ev13, h⟩ := lt_of h
      refine r_iinc (c1 := 1) (lv' := [(7, .int v13), (0, .ref (a 0)), (1, .int x1), (2, .int x2), (3, .int x3), (4, .int y4), (5, .int y5), (6, .int y6)]) hC dX7_span_183 7 rfl (by decide) (by decide) ev13 rfl ?_
      refine r_goto hC 77 dX7_span_186 (by decide) ?_
      refine r_sub hC [1, 2, 3, 4, 5, 6, 7, 0] rfl ?_
      exact hself σ y4 y5 y6 v13 h
set_option maxRecDepth 100000 in
set_option maxHeartbeats 4000000 in
theorem t_X7_span_n77 {Γ : St → Nat → List (Nat × Value) → List Value → Prop} {l : Launch} {a : Nat → Nat} {r : Int32} {t' : St} (hC : Cx Γ l cX7_span RX7 9 (some .int) Rm_X7_span wM a (some (.int r)) t') (x1 : Int32) (x2 : Int32) (x3 : Int32) (n : Nat) : ∀ (σ : St) (y4 : Int32) (y5 : Int32) (y6 : Int32) (y7 : Int32), f_X7_span_n77 x1 x2 x3 n σ y4 y5 y6 y7 = some (r, t') → Γ σ 77 [(0, .ref (a 0)), (1, .int x1), (2, .int x2), (3, .int x3), (4, .int y4), (5, .int y5), (6, .int y6), (7, .int y7)] [] := by
  induction n with
  | zero =>
    intro σ y4 y5 y6 y7  h
    have h : (none : Option (Int32 × St)) = some (r, t') := h
    cases h
  | succ n ih =>
    intro σ y4 y5 y6 y7  h
    exact t_X7_span_n77_b hC x1 x2 x3    (f_X7_span_n77 x1 x2 x3  n) ih σ y4 y5 y6 y7  h
def f_X7_span_n41_b (x1 : Int32) (x2 : Int32) (x3 : Int32) (self : St → Int32 → Option (Int32 × St)) (σ : St) (y4 : Int32) : Option (Int32 × St) :=
  (f_X7_slots σ x1).bind fun v1 =>
  if v1 ≤ y4 then
    f_X7_span_n77 x1 x2 x3 fuel σ (0 : Int32) (0 : Int32) (0 : Int32) (0 : Int32)
  else
  if in_b y4 64 = true then
    lt_ (put_a σ 13 y4.toNatClampNeg (0 : Int32)) fun s2 =>
    lt_ (y4 + (1 : Int32)) fun v3 =>
    self s2 v3
  else none
def f_X7_span_n41 (x1 : Int32) (x2 : Int32) (x3 : Int32) : Nat → St → Int32 → Option (Int32 × St)
  | 0 => fun _ _ => none
  | n + 1 => fun σ y4 => f_X7_span_n41_b x1 x2 x3  (f_X7_span_n41 x1 x2 x3  n) σ y4
set_option maxRecDepth 100000 in
set_option maxHeartbeats 4000000 in
theorem t_X7_span_n41_b {Γ : St → Nat → List (Nat × Value) → List Value → Prop} {l : Launch} {a : Nat → Nat} {r : Int32} {t' : St} (hC : Cx Γ l cX7_span RX7 9 (some .int) Rm_X7_span wM a (some (.int r)) t') (x1 : Int32) (x2 : Int32) (x3 : Int32) (self : St → Int32 → Option (Int32 × St)) (hself : ∀ (σ : St) (y4 : Int32), self σ y4 = some (r, t') → Γ σ 41 [(0, .ref (a 0)), (1, .int x1), (2, .int x2), (3, .int x3), (4, .int y4)] []) (σ : St) (y4 : Int32) (h : f_X7_span_n41_b x1 x2 x3 self σ y4 = some (r, t')) : Γ σ 41 [(0, .ref (a 0)), (1, .int x1), (2, .int x2), (3, .int x3), (4, .int y4)] [] := by
  unfold f_X7_span_n41_b at h
  refine r_iload hC dX7_span_41 4 rfl ?_
  refine r_aload_n hC dX7_span_43 rfl 0 rfl ?_
  refine r_iload_n hC dX7_span_44 rfl 1 rfl ?_
  obtain ⟨v1, hv1, h⟩ := bind_of h
  refine r_callV (As := [.int x1]) (rest := [.int y4]) hC (con_X7_slots l σ x1 hv1) K7_121 (ob7 a σ) rfl rfl rfl rfl ⟨Nat.le_of_ble_eq_true rfl, Nat.le_of_ble_eq_true rfl⟩ (Nat.le_of_ble_eq_true rfl) dX7_span_45 ?_
  refine r_icmp_ge hC 65 dX7_span_48 (by decide) (fun q => ?_) (fun q => ?_)
  · replace h := if_p q h
    refine r_iconst (v := 0) hC dX7_span_65 (by decide) ?_
    refine r_istore (lv' := [(4, .int (0 : Int32)), (0, .ref (a 0)), (1, .int x1), (2, .int x2), (3, .int x3)]) hC dX7_span_66 (by decide) rfl rfl ?_
    refine r_iconst (v := 0) hC dX7_span_68 (by decide) ?_
    refine r_istore (lv' := [(5, .int (0 : Int32)), (4, .int (0 : Int32)), (0, .ref (a 0)), (1, .int x1), (2, .int x2), (3, .int x3)]) hC dX7_span_69 (by decide) rfl rfl ?_
    refine r_iconst (v := 0) hC dX7_span_71 (by decide) ?_
    refine r_istore (lv' := [(6, .int (0 : Int32)), (5, .int (0 : Int32)), (4, .int (0 : Int32)), (0, .ref (a 0)), (1, .int x1), (2, .int x2), (3, .int x3)]) hC dX7_span_72 (by decide) rfl rfl ?_
    refine r_iconst (v := 0) hC dX7_span_74 (by decide) ?_
    refine r_istore (lv' := [(7, .int (0 : Int32)), (6, .int (0 : Int32)), (5, .int (0 : Int32)), (4, .int (0 : Int32)), (0, .ref (a 0)), (1, .int x1), (2, .int x2), (3, .int x3)]) hC dX7_span_75 (by decide) rfl rfl ?_
    refine r_sub hC [4, 5, 6, 7, 3, 2, 1, 0] rfl ?_
    exact t_X7_span_n77 hC x1 x2 x3 fuel σ (0 : Int32) (0 : Int32) (0 : Int32) (0 : Int32) h
  · replace h := if_n q h
    refine r_aload_n hC dX7_span_51 rfl 0 rfl ?_
    refine G7_97 hC dX7_span_52 ?_
    refine r_iload hC dX7_span_55 4 rfl ?_
    refine r_iconst (v := 0) hC dX7_span_57 (by decide) ?_
    obtain ⟨hi, h⟩ := inb_of h
    obtain ⟨s2, es2, h⟩ := lt_of h
    refine S_m_before hC es2 hi dX7_span_58 ?_
    obtain ⟨v3, ev3, h⟩ := lt_of h
    refine r_iinc (c1 := 1) (lv' := [(4, .int v3), (0, .ref (a 0)), (1, .int x1), (2, .int x2), (3, .int x3)]) hC dX7_span_59 4 rfl (by decide) (by decide) ev3 rfl ?_
    refine r_goto hC 41 dX7_span_62 (by decide) ?_
    refine r_sub hC [1, 2, 3, 4, 0] rfl ?_
    exact hself s2 v3 h
set_option maxRecDepth 100000 in
set_option maxHeartbeats 4000000 in
theorem t_X7_span_n41 {Γ : St → Nat → List (Nat × Value) → List Value → Prop} {l : Launch} {a : Nat → Nat} {r : Int32} {t' : St} (hC : Cx Γ l cX7_span RX7 9 (some .int) Rm_X7_span wM a (some (.int r)) t') (x1 : Int32) (x2 : Int32) (x3 : Int32) (n : Nat) : ∀ (σ : St) (y4 : Int32), f_X7_span_n41 x1 x2 x3 n σ y4 = some (r, t') → Γ σ 41 [(0, .ref (a 0)), (1, .int x1), (2, .int x2), (3, .int x3), (4, .int y4)] [] := by
  induction n with
  | zero =>
    intro σ y4  h
    have h : (none : Option (Int32 × St)) = some (r, t') := h
    cases h
  | succ n ih =>
    intro σ y4  h
    exact t_X7_span_n41_b hC x1 x2 x3    (f_X7_span_n41 x1 x2 x3  n) ih σ y4  h
def f_X7_span (σ : St) (x1 : Int32) (x2 : Int32) (x3 : Int32) : Option (Int32 × St) :=
  lt_ (put_i σ 0 (0 : Int32)) fun s16 =>
  if (f_X7_isFile s16 x1) = 0 then
    some ((-1 : Int32), s16)
  else
  if x2 < 0 then
    some ((-1 : Int32), s16)
  else
  if x3 < x2 then
    some ((-1 : Int32), s16)
  else
  if x3 < ((1 : Int32) <<< ((st_i s16 5) &&& 31)) then
    (f_X7_lies s16 x1).bind fun s17 =>
    f_X7_span_n41 x1 x2 x3 fuel s17 (0 : Int32)
  else
  some ((-1 : Int32), s16)
set_option maxRecDepth 100000 in
set_option maxHeartbeats 4000000 in
theorem con_X7_span (l : Launch) (σ : St) (x1 : Int32) (x2 : Int32) (x3 : Int32) {r : Int32} {t' : St} (h : f_X7_span σ x1 x2 x3 = some (r, t')) : Con l yX7_span cX7_span 9 (some .int) Rm_X7_span wM (fun a => [.ref (a 0), .int x1, .int x2, .int x3]) σ (fun _ => some (.int r)) t' := by
  refine con_of (by decide) ⟨rfl, rfl⟩ (fun _ => Nat.le_of_ble_eq_true rfl) (fun Γ a hC => ?_)
  have hC : Cx Γ l cX7_span RX7 9 (some .int) Rm_X7_span wM a (some (.int r)) t' := hC
  show Γ σ 0 [(0, .ref (a 0)), (1, .int x1), (2, .int x2), (3, .int x3)] []
  unfold f_X7_span at h
  refine r_aload_n hC dX7_span_0 rfl 0 rfl ?_
  refine r_iconst (v := 0) hC dX7_span_1 (by decide) ?_
  obtain ⟨s16, es16, h⟩ := lt_of h
  refine P7_1 hC es16 dX7_span_2 ?_
  refine r_iload_n hC dX7_span_5 rfl 1 rfl ?_
  refine r_callS (As := [.int x1]) (rest := []) hC (con_X7_isFile l s16 x1 rfl) K7_136 rfl rfl rfl ⟨Nat.le_of_ble_eq_true rfl, Nat.le_of_ble_eq_true rfl⟩ (Nat.le_of_ble_eq_true rfl) dX7_span_6 ?_
  refine r_if_eq hC 31 dX7_span_9 (by decide) (fun q => ?_) (fun q => ?_)
  · replace h := if_p q h
    refine r_iconst (v := -1) hC dX7_span_31 (by decide) ?_
    exact r_iretS hC dX7_span_32 h
  · replace h := if_n q h
    refine r_iload_n hC dX7_span_12 rfl 2 rfl ?_
    refine r_if_lt hC 31 dX7_span_13 (by decide) (fun q => ?_) (fun q => ?_)
    · replace h := if_p q h
      refine r_iconst (v := -1) hC dX7_span_31 (by decide) ?_
      exact r_iretS hC dX7_span_32 h
    · replace h := if_n q h
      refine r_iload_n hC dX7_span_16 rfl 3 rfl ?_
      refine r_iload_n hC dX7_span_17 rfl 2 rfl ?_
      refine r_icmp_lt hC 31 dX7_span_18 (by decide) (fun q => ?_) (fun q => ?_)
      · replace h := if_p q h
        refine r_iconst (v := -1) hC dX7_span_31 (by decide) ?_
        exact r_iretS hC dX7_span_32 h
      · replace h := if_n q h
        refine r_iload_n hC dX7_span_21 rfl 3 rfl ?_
        refine r_iconst (v := 1) hC dX7_span_22 (by decide) ?_
        refine r_aload_n hC dX7_span_23 rfl 0 rfl ?_
        refine G7_47 hC dX7_span_24 ?_
        refine r_ishl hC dX7_span_27 ?_
        refine r_icmp_lt hC 33 dX7_span_28 (by decide) (fun q => ?_) (fun q => ?_)
        · replace h := if_p q h
          refine r_aload_n hC dX7_span_33 rfl 0 rfl ?_
          refine r_iload_n hC dX7_span_34 rfl 1 rfl ?_
          obtain ⟨s17, hs17, h⟩ := bind_of h
          refine r_callV (As := [.int x1]) (rest := []) hC (con_X7_lies l s16 x1 hs17) K7_162 (ob7 a s16) rfl rfl rfl rfl ⟨Nat.le_of_ble_eq_true rfl, Nat.le_of_ble_eq_true rfl⟩ (Nat.le_of_ble_eq_true rfl) dX7_span_35 ?_
          refine r_iconst (v := 0) hC dX7_span_38 (by decide) ?_
          refine r_istore (lv' := [(4, .int (0 : Int32)), (0, .ref (a 0)), (1, .int x1), (2, .int x2), (3, .int x3)]) hC dX7_span_39 (by decide) rfl rfl ?_
          refine r_sub hC [1, 2, 3, 4, 0] rfl ?_
          exact t_X7_span_n41 hC x1 x2 x3 fuel s17 (0 : Int32) h
        · replace h := if_n q h
          refine r_iconst (v := -1) hC dX7_span_31 (by decide) ?_
          exact r_iretS hC dX7_span_32 h
abbrev Rm_X7_spills : Room := { frames := 3, cells := 0, slots := 0, locals := 68 }
def f_X7_spills_n69 (x1 : Int32) (σ : St) (y2 : Int32) : Option (Int32 × St) :=
  (f_X7_comes σ (0 : Int32) (f_X7_printOf σ x1)).bind fun s3 =>
  lt_ (put_i s3 1 (0 : Int32)) fun s4 =>
  if in_b (0 : Int32) 2 = true then
    (f_X7_enters s4 (((st_a s4 2 (0 : Int32).toNatClampNeg)).toInt64)).bind fun s5 =>
    if in_b (1 : Int32) 2 = true then
      (f_X7_enters s5 (((st_a s5 2 (1 : Int32).toNatClampNeg)).toInt64)).bind fun s6 =>
      some ((f_X7_flag s6 y2), s6)
    else none
  else none
set_option maxRecDepth 100000 in
set_option maxHeartbeats 4000000 in
theorem t_X7_spills_n69 {Γ : St → Nat → List (Nat × Value) → List Value → Prop} {l : Launch} {a : Nat → Nat} {r : Int32} {t' : St} (hC : Cx Γ l cX7_spills RX7 3 (some .int) Rm_X7_spills wM a (some (.int r)) t') (x1 : Int32) (σ : St) (y2 : Int32) (h : f_X7_spills_n69 x1 σ y2 = some (r, t')) : Γ σ 69 [(0, .ref (a 0)), (1, .int x1), (2, .int y2)] [] := by
  unfold f_X7_spills_n69 at h
  refine r_aload_n hC dX7_spills_69 rfl 0 rfl ?_
  refine r_iconst (v := 0) hC dX7_spills_70 (by decide) ?_
  refine r_aload_n hC dX7_spills_71 rfl 0 rfl ?_
  refine r_iload_n hC dX7_spills_72 rfl 1 rfl ?_
  refine r_callV (As := [.int x1]) (rest := [.int (0 : Int32), .ref (a 0)]) hC (con_X7_printOf l σ x1 rfl) K7_142 (ob7 a σ) rfl rfl rfl rfl ⟨Nat.le_of_ble_eq_true rfl, Nat.le_of_ble_eq_true rfl⟩ (Nat.le_of_ble_eq_true rfl) dX7_spills_73 ?_
  obtain ⟨s3, hs3, h⟩ := bind_of h
  refine r_callV (As := [.int (0 : Int32), .int (f_X7_printOf σ x1)]) (rest := []) hC (con_X7_comes l σ (0 : Int32) (f_X7_printOf σ x1) hs3) K7_155 (ob7 a σ) rfl rfl rfl rfl ⟨Nat.le_of_ble_eq_true rfl, Nat.le_of_ble_eq_true rfl⟩ (Nat.le_of_ble_eq_true rfl) dX7_spills_76 ?_
  refine r_aload_n hC dX7_spills_79 rfl 0 rfl ?_
  refine r_iconst (v := 0) hC dX7_spills_80 (by decide) ?_
  obtain ⟨s4, es4, h⟩ := lt_of h
  refine P7_11 hC es4 dX7_spills_81 ?_
  refine r_aload_n hC dX7_spills_84 rfl 0 rfl ?_
  refine r_aload_n hC dX7_spills_85 rfl 0 rfl ?_
  refine G7_60 hC dX7_spills_86 ?_
  refine r_iconst (v := 0) hC dX7_spills_89 (by decide) ?_
  obtain ⟨hi, h⟩ := inb_of h
  refine L_m_many hC hi dX7_spills_90 ?_
  refine r_i2l hC dX7_spills_91 ?_
  obtain ⟨s5, hs5, h⟩ := bind_of h
  refine r_callV (As := [.long (((st_a s4 2 (0 : Int32).toNatClampNeg)).toInt64)]) (rest := []) hC (con_X7_enters l s4 (((st_a s4 2 (0 : Int32).toNatClampNeg)).toInt64) hs5) K7_145 (ob7 a s4) rfl rfl rfl rfl ⟨Nat.le_of_ble_eq_true rfl, Nat.le_of_ble_eq_true rfl⟩ (Nat.le_of_ble_eq_true rfl) dX7_spills_92 ?_
  refine r_aload_n hC dX7_spills_95 rfl 0 rfl ?_
  refine r_aload_n hC dX7_spills_96 rfl 0 rfl ?_
  refine G7_60 hC dX7_spills_97 ?_
  refine r_iconst (v := 1) hC dX7_spills_100 (by decide) ?_
  obtain ⟨hi, h⟩ := inb_of h
  refine L_m_many hC hi dX7_spills_101 ?_
  refine r_i2l hC dX7_spills_102 ?_
  obtain ⟨s6, hs6, h⟩ := bind_of h
  refine r_callV (As := [.long (((st_a s5 2 (1 : Int32).toNatClampNeg)).toInt64)]) (rest := []) hC (con_X7_enters l s5 (((st_a s5 2 (1 : Int32).toNatClampNeg)).toInt64) hs6) K7_145 (ob7 a s5) rfl rfl rfl rfl ⟨Nat.le_of_ble_eq_true rfl, Nat.le_of_ble_eq_true rfl⟩ (Nat.le_of_ble_eq_true rfl) dX7_spills_103 ?_
  refine r_iload_n hC dX7_spills_106 rfl 2 rfl ?_
  refine r_callS (As := [.int y2]) (rest := []) hC (con_X7_flag l s6 y2 rfl) K7_109 rfl rfl rfl ⟨Nat.le_of_ble_eq_true rfl, Nat.le_of_ble_eq_true rfl⟩ (Nat.le_of_ble_eq_true rfl) dX7_spills_107 ?_
  exact r_iretS hC dX7_spills_110 h
def f_X7_spills_n59 (x1 : Int32) (σ : St) (y2 : Int32) : Option (Int32 × St) :=
  if y2 = 0 then
    f_X7_spills_n69 x1 σ y2
  else
  (f_X7_mergesInto σ (1 : Int32) (0 : Int32)).bind fun s1 =>
  f_X7_spills_n69 x1 s1 y2
set_option maxRecDepth 100000 in
set_option maxHeartbeats 4000000 in
theorem t_X7_spills_n59 {Γ : St → Nat → List (Nat × Value) → List Value → Prop} {l : Launch} {a : Nat → Nat} {r : Int32} {t' : St} (hC : Cx Γ l cX7_spills RX7 3 (some .int) Rm_X7_spills wM a (some (.int r)) t') (x1 : Int32) (σ : St) (y2 : Int32) (h : f_X7_spills_n59 x1 σ y2 = some (r, t')) : Γ σ 59 [(0, .ref (a 0)), (1, .int x1), (2, .int y2)] [] := by
  unfold f_X7_spills_n59 at h
  refine r_iload_n hC dX7_spills_59 rfl 2 rfl ?_
  refine r_if_eq hC 69 dX7_spills_60 (by decide) (fun q => ?_) (fun q => ?_)
  · replace h := if_p q h
    exact t_X7_spills_n69 hC x1 σ y2 h
  · replace h := if_n q h
    refine r_aload_n hC dX7_spills_63 rfl 0 rfl ?_
    refine r_iconst (v := 1) hC dX7_spills_64 (by decide) ?_
    refine r_iconst (v := 0) hC dX7_spills_65 (by decide) ?_
    obtain ⟨s1, hs1, h⟩ := bind_of h
    refine r_callV (As := [.int (1 : Int32), .int (0 : Int32)]) (rest := []) hC (con_X7_mergesInto l σ (1 : Int32) (0 : Int32) hs1) K7_284 (ob7 a σ) rfl rfl rfl rfl ⟨Nat.le_of_ble_eq_true rfl, Nat.le_of_ble_eq_true rfl⟩ (Nat.le_of_ble_eq_true rfl) dX7_spills_66 ?_
    exact t_X7_spills_n69 hC x1 s1 y2 h
def f_X7_spills_n43 (x1 : Int32) (σ : St) (w0 : Int32) : Option (Int32 × St) :=
  if w0 = 0 then
    f_X7_spills_n59 x1 σ w0
  else
  (f_X7_qOfBoth σ (1 : Int32)).bind fun v2 =>
  if 0 ≤ v2 then
    f_X7_spills_n59 x1 σ w0
  else
  some ((-5 : Int32), σ)
set_option maxRecDepth 100000 in
set_option maxHeartbeats 4000000 in
theorem t_X7_spills_n43 {Γ : St → Nat → List (Nat × Value) → List Value → Prop} {l : Launch} {a : Nat → Nat} {r : Int32} {t' : St} (hC : Cx Γ l cX7_spills RX7 3 (some .int) Rm_X7_spills wM a (some (.int r)) t') (x1 : Int32) (σ : St) (w0 : Int32) (h : f_X7_spills_n43 x1 σ w0 = some (r, t')) : Γ σ 43 [(0, .ref (a 0)), (1, .int x1)] [.int w0] := by
  unfold f_X7_spills_n43 at h
  refine r_istore_n (lv' := [(2, .int w0), (0, .ref (a 0)), (1, .int x1)]) hC dX7_spills_43 rfl (by decide) rfl rfl ?_
  refine r_iload_n hC dX7_spills_44 rfl 0 rfl ?_
  refine r_if_eq hC 59 dX7_spills_45 (by decide) (fun q => ?_) (fun q => ?_)
  · replace h := if_p q h
    refine r_sub hC [1, 2, 0] rfl ?_
    exact t_X7_spills_n59 hC x1 σ w0 h
  · replace h := if_n q h
    refine r_aload_n hC dX7_spills_48 rfl 1 rfl ?_
    refine r_iconst (v := 1) hC dX7_spills_49 (by decide) ?_
    obtain ⟨v2, hv2, h⟩ := bind_of h
    refine r_callV (As := [.int (1 : Int32)]) (rest := []) hC (con_X7_qOfBoth l σ (1 : Int32) hv2) K7_281 (ob7 a σ) rfl rfl rfl rfl ⟨Nat.le_of_ble_eq_true rfl, Nat.le_of_ble_eq_true rfl⟩ (Nat.le_of_ble_eq_true rfl) dX7_spills_50 ?_
    refine r_if_ge hC 59 dX7_spills_53 (by decide) (fun q => ?_) (fun q => ?_)
    · replace h := if_p q h
      refine r_sub hC [1, 2, 0] rfl ?_
      exact t_X7_spills_n59 hC x1 σ w0 h
    · replace h := if_n q h
      refine r_bipush (v := -5) hC dX7_spills_56 (by decide) ?_
      exact r_iretS hC dX7_spills_58 h
def f_X7_spills_n38 (x1 : Int32) (σ : St) : Option (Int32 × St) :=
  f_X7_spills_n43 x1 σ (1 : Int32)
set_option maxRecDepth 100000 in
set_option maxHeartbeats 4000000 in
theorem t_X7_spills_n38 {Γ : St → Nat → List (Nat × Value) → List Value → Prop} {l : Launch} {a : Nat → Nat} {r : Int32} {t' : St} (hC : Cx Γ l cX7_spills RX7 3 (some .int) Rm_X7_spills wM a (some (.int r)) t') (x1 : Int32) (σ : St) (h : f_X7_spills_n38 x1 σ = some (r, t')) : Γ σ 38 [(0, .ref (a 0)), (1, .int x1)] [] := by
  unfold f_X7_spills_n38 at h
  refine r_iconst (v := 1) hC dX7_spills_38 (by decide) ?_
  refine r_goto hC 43 dX7_spills_39 (by decide) ?_
  exact t_X7_spills_n43 hC x1 σ (1 : Int32) h
def f_X7_spills (σ : St) (x1 : Int32) : Option (Int32 × St) :=
  lt_ (put_i σ 0 (0 : Int32)) fun s7 =>
  if (f_X7_isKey s7 x1) = 0 then
    some ((-1 : Int32), s7)
  else
  (f_X7_wouldDouble s7 (0 : Int32)).bind fun v8 =>
  if v8 = 0 then
    if in_b (0 : Int32) 2 = true then
      (f_X7_slots s7 (0 : Int32)).bind fun v9 =>
      if (st_a s7 2 (0 : Int32).toNatClampNeg) = (v9 - (1 : Int32)) then
        f_X7_spills_n38 x1 s7
      else
      f_X7_spills_n43 x1 s7 (0 : Int32)
    else none
  else
  f_X7_spills_n38 x1 s7
set_option maxRecDepth 100000 in
set_option maxHeartbeats 4000000 in
theorem con_X7_spills (l : Launch) (σ : St) (x1 : Int32) {r : Int32} {t' : St} (h : f_X7_spills σ x1 = some (r, t')) : Con l yX7_spills cX7_spills 3 (some .int) Rm_X7_spills wM (fun a => [.ref (a 0), .int x1]) σ (fun _ => some (.int r)) t' := by
  refine con_of (by decide) ⟨rfl, rfl⟩ (fun _ => Nat.le_of_ble_eq_true rfl) (fun Γ a hC => ?_)
  have hC : Cx Γ l cX7_spills RX7 3 (some .int) Rm_X7_spills wM a (some (.int r)) t' := hC
  show Γ σ 0 [(0, .ref (a 0)), (1, .int x1)] []
  unfold f_X7_spills at h
  refine r_aload_n hC dX7_spills_0 rfl 0 rfl ?_
  refine r_iconst (v := 0) hC dX7_spills_1 (by decide) ?_
  obtain ⟨s7, es7, h⟩ := lt_of h
  refine P7_1 hC es7 dX7_spills_2 ?_
  refine r_iload_n hC dX7_spills_5 rfl 1 rfl ?_
  refine r_callS (As := [.int x1]) (rest := []) hC (con_X7_isKey l s7 x1 rfl) K7_139 rfl rfl rfl ⟨Nat.le_of_ble_eq_true rfl, Nat.le_of_ble_eq_true rfl⟩ (Nat.le_of_ble_eq_true rfl) dX7_spills_6 ?_
  refine r_if_ne hC 14 dX7_spills_9 (by decide) (fun q => ?_) (fun q => ?_)
  · replace h := if_n q h
    refine r_aload_n hC dX7_spills_14 rfl 0 rfl ?_
    refine r_iconst (v := 0) hC dX7_spills_15 (by decide) ?_
    obtain ⟨v8, hv8, h⟩ := bind_of h
    refine r_callV (As := [.int (0 : Int32)]) (rest := []) hC (con_X7_wouldDouble l s7 (0 : Int32) hv8) K7_152 (ob7 a s7) rfl rfl rfl rfl ⟨Nat.le_of_ble_eq_true rfl, Nat.le_of_ble_eq_true rfl⟩ (Nat.le_of_ble_eq_true rfl) dX7_spills_16 ?_
    refine r_if_ne hC 38 dX7_spills_19 (by decide) (fun q => ?_) (fun q => ?_)
    · replace h := if_n q h
      exact t_X7_spills_n38 hC x1 s7 h
    · replace h := if_p q h
      refine r_aload_n hC dX7_spills_22 rfl 0 rfl ?_
      refine G7_60 hC dX7_spills_23 ?_
      refine r_iconst (v := 0) hC dX7_spills_26 (by decide) ?_
      obtain ⟨hi, h⟩ := inb_of h
      refine L_m_many hC hi dX7_spills_27 ?_
      refine r_aload_n hC dX7_spills_28 rfl 0 rfl ?_
      refine r_iconst (v := 0) hC dX7_spills_29 (by decide) ?_
      obtain ⟨v9, hv9, h⟩ := bind_of h
      refine r_callV (As := [.int (0 : Int32)]) (rest := [.int (st_a s7 2 (0 : Int32).toNatClampNeg)]) hC (con_X7_slots l s7 (0 : Int32) hv9) K7_121 (ob7 a s7) rfl rfl rfl rfl ⟨Nat.le_of_ble_eq_true rfl, Nat.le_of_ble_eq_true rfl⟩ (Nat.le_of_ble_eq_true rfl) dX7_spills_30 ?_
      refine r_iconst (v := 1) hC dX7_spills_33 (by decide) ?_
      refine r_isub hC dX7_spills_34 ?_
      refine r_icmp_ne hC 42 dX7_spills_35 (by decide) (fun q => ?_) (fun q => ?_)
      · replace h := if_n q h
        refine r_iconst (v := 0) hC dX7_spills_42 (by decide) ?_
        exact t_X7_spills_n43 hC x1 s7 (0 : Int32) h
      · replace h := if_p q h
        exact t_X7_spills_n38 hC x1 s7 h
  · replace h := if_p q h
    refine r_iconst (v := -1) hC dX7_spills_12 (by decide) ?_
    exact r_iretS hC dX7_spills_13 h
abbrev Rm_X7_takes : Room := { frames := 2, cells := 0, slots := 0, locals := 46 }
def f_X7_takes (σ : St) (x1 : Int32) (x2 : Int32) : Option (Int32 × St) :=
  lt_ (put_i σ 0 (0 : Int32)) fun s1 =>
  if (f_X7_isFile s1 x1) = 0 then
    some ((-1 : Int32), s1)
  else
  if (f_X7_isKey s1 x2) = 0 then
    some ((-1 : Int32), s1)
  else
  bind2 (f_X7_goes s1 x1 (f_X7_printOf s1 x2)) fun v3 s2 =>
  if v3 = 0 then
    some ((-2 : Int32), s2)
  else
  lt_ (put_i s2 1 (0 : Int32)) fun s4 =>
  if in_b x1 2 = true then
    (f_X7_enters s4 (((st_a s4 2 x1.toNatClampNeg)).toInt64)).bind fun s5 =>
    (f_X7_countOf s5 x1 (f_X7_printOf s5 x2)).bind fun v6 =>
    some (v6, s5)
  else none
set_option maxRecDepth 100000 in
set_option maxHeartbeats 4000000 in
theorem con_X7_takes (l : Launch) (σ : St) (x1 : Int32) (x2 : Int32) {r : Int32} {t' : St} (h : f_X7_takes σ x1 x2 = some (r, t')) : Con l yX7_takes cX7_takes 3 (some .int) Rm_X7_takes wM (fun a => [.ref (a 0), .int x1, .int x2]) σ (fun _ => some (.int r)) t' := by
  refine con_of (by decide) ⟨rfl, rfl⟩ (fun _ => Nat.le_of_ble_eq_true rfl) (fun Γ a hC => ?_)
  have hC : Cx Γ l cX7_takes RX7 3 (some .int) Rm_X7_takes wM a (some (.int r)) t' := hC
  show Γ σ 0 [(0, .ref (a 0)), (1, .int x1), (2, .int x2)] []
  unfold f_X7_takes at h
  refine r_aload_n hC dX7_takes_0 rfl 0 rfl ?_
  refine r_iconst (v := 0) hC dX7_takes_1 (by decide) ?_
  obtain ⟨s1, es1, h⟩ := lt_of h
  refine P7_1 hC es1 dX7_takes_2 ?_
  refine r_iload_n hC dX7_takes_5 rfl 1 rfl ?_
  refine r_callS (As := [.int x1]) (rest := []) hC (con_X7_isFile l s1 x1 rfl) K7_136 rfl rfl rfl ⟨Nat.le_of_ble_eq_true rfl, Nat.le_of_ble_eq_true rfl⟩ (Nat.le_of_ble_eq_true rfl) dX7_takes_6 ?_
  refine r_if_eq hC 19 dX7_takes_9 (by decide) (fun q => ?_) (fun q => ?_)
  · replace h := if_p q h
    refine r_iconst (v := -1) hC dX7_takes_19 (by decide) ?_
    exact r_iretS hC dX7_takes_20 h
  · replace h := if_n q h
    refine r_iload_n hC dX7_takes_12 rfl 2 rfl ?_
    refine r_callS (As := [.int x2]) (rest := []) hC (con_X7_isKey l s1 x2 rfl) K7_139 rfl rfl rfl ⟨Nat.le_of_ble_eq_true rfl, Nat.le_of_ble_eq_true rfl⟩ (Nat.le_of_ble_eq_true rfl) dX7_takes_13 ?_
    refine r_if_ne hC 21 dX7_takes_16 (by decide) (fun q => ?_) (fun q => ?_)
    · replace h := if_n q h
      refine r_aload_n hC dX7_takes_21 rfl 0 rfl ?_
      refine r_iload_n hC dX7_takes_22 rfl 1 rfl ?_
      refine r_aload_n hC dX7_takes_23 rfl 0 rfl ?_
      refine r_iload_n hC dX7_takes_24 rfl 2 rfl ?_
      refine r_callV (As := [.int x2]) (rest := [.int x1, .ref (a 0)]) hC (con_X7_printOf l s1 x2 rfl) K7_142 (ob7 a s1) rfl rfl rfl rfl ⟨Nat.le_of_ble_eq_true rfl, Nat.le_of_ble_eq_true rfl⟩ (Nat.le_of_ble_eq_true rfl) dX7_takes_25 ?_
      obtain ⟨v3, s2, hs2, h⟩ := bind2_of h
      refine r_callV (As := [.int x1, .int (f_X7_printOf s1 x2)]) (rest := []) hC (con_X7_goes l s1 x1 (f_X7_printOf s1 x2) hs2) K7_169 (ob7 a s1) rfl rfl rfl rfl ⟨Nat.le_of_ble_eq_true rfl, Nat.le_of_ble_eq_true rfl⟩ (Nat.le_of_ble_eq_true rfl) dX7_takes_28 ?_
      refine r_if_ne hC 37 dX7_takes_31 (by decide) (fun q => ?_) (fun q => ?_)
      · replace h := if_n q h
        refine r_aload_n hC dX7_takes_37 rfl 0 rfl ?_
        refine r_iconst (v := 0) hC dX7_takes_38 (by decide) ?_
        obtain ⟨s4, es4, h⟩ := lt_of h
        refine P7_11 hC es4 dX7_takes_39 ?_
        refine r_aload_n hC dX7_takes_42 rfl 0 rfl ?_
        refine r_aload_n hC dX7_takes_43 rfl 0 rfl ?_
        refine G7_60 hC dX7_takes_44 ?_
        refine r_iload_n hC dX7_takes_47 rfl 1 rfl ?_
        obtain ⟨hi, h⟩ := inb_of h
        refine L_m_many hC hi dX7_takes_48 ?_
        refine r_i2l hC dX7_takes_49 ?_
        obtain ⟨s5, hs5, h⟩ := bind_of h
        refine r_callV (As := [.long (((st_a s4 2 x1.toNatClampNeg)).toInt64)]) (rest := []) hC (con_X7_enters l s4 (((st_a s4 2 x1.toNatClampNeg)).toInt64) hs5) K7_145 (ob7 a s4) rfl rfl rfl rfl ⟨Nat.le_of_ble_eq_true rfl, Nat.le_of_ble_eq_true rfl⟩ (Nat.le_of_ble_eq_true rfl) dX7_takes_50 ?_
        refine r_aload_n hC dX7_takes_53 rfl 0 rfl ?_
        refine r_iload_n hC dX7_takes_54 rfl 1 rfl ?_
        refine r_aload_n hC dX7_takes_55 rfl 0 rfl ?_
        refine r_iload_n hC dX7_takes_56 rfl 2 rfl ?_
        refine r_callV (As := [.int x2]) (rest := [.int x1, .ref (a 0)]) hC (con_X7_printOf l s5 x2 rfl) K7_142 (ob7 a s5) rfl rfl rfl rfl ⟨Nat.le_of_ble_eq_true rfl, Nat.le_of_ble_eq_true rfl⟩ (Nat.le_of_ble_eq_true rfl) dX7_takes_57 ?_
        obtain ⟨v6, hv6, h⟩ := bind_of h
        refine r_callV (As := [.int x1, .int (f_X7_printOf s5 x2)]) (rest := []) hC (con_X7_countOf l s5 x1 (f_X7_printOf s5 x2) hv6) K7_173 (ob7 a s5) rfl rfl rfl rfl ⟨Nat.le_of_ble_eq_true rfl, Nat.le_of_ble_eq_true rfl⟩ (Nat.le_of_ble_eq_true rfl) dX7_takes_60 ?_
        exact r_iretS hC dX7_takes_63 h
      · replace h := if_p q h
        refine r_bipush (v := -2) hC dX7_takes_34 (by decide) ?_
        exact r_iretS hC dX7_takes_36 h
    · replace h := if_p q h
      refine r_iconst (v := -1) hC dX7_takes_19 (by decide) ?_
      exact r_iretS hC dX7_takes_20 h
abbrev Rm_X7_thrown : Room := { frames := 0, cells := 0, slots := 0, locals := 0 }
def f_X7_thrown (σ : St) : Int32 :=
  (st_i σ 0)
set_option maxRecDepth 100000 in
set_option maxHeartbeats 4000000 in
theorem con_X7_thrown (l : Launch) (σ : St) {r : Int32} (h : f_X7_thrown σ = r) : Con l yX7_thrown cX7_thrown 1 (some .int) Rm_X7_thrown wM (fun a => [.ref (a 0)]) σ (fun _ => some (.int r)) σ := by
  refine con_of (by decide) ⟨rfl, rfl⟩ (fun _ => Nat.le_of_ble_eq_true rfl) (fun Γ a hC => ?_)
  have hC : Cx Γ l cX7_thrown RX7 1 (some .int) Rm_X7_thrown wM a (some (.int r)) σ := hC
  show Γ σ 0 [(0, .ref (a 0))] []
  unfold f_X7_thrown at h
  refine r_aload_n hC dX7_thrown_0 rfl 0 rfl ?_
  refine G7_1 hC dX7_thrown_1 ?_
  exact r_iretT hC dX7_thrown_4 h
abbrev Rm_X7_twin : Room := { frames := 2, cells := 0, slots := 0, locals := 45 }
def f_X7_twin_n16_b (x1 : Int32) (self : St → Int32 → Option (Int32 × St)) (σ : St) (y2 : Int32) : Option (Int32 × St) :=
  if (10000 : Int32) ≤ y2 then
    some ((-2 : Int32), σ)
  else
  if y2 = x1 then
    lt_ (y2 + (1 : Int32)) fun v1 =>
    self σ v1
  else
  if (f_X7_printOf σ y2) = (f_X7_printOf σ x1) then
    some (y2, σ)
  else
  lt_ (y2 + (1 : Int32)) fun v2 =>
  self σ v2
def f_X7_twin_n16 (x1 : Int32) : Nat → St → Int32 → Option (Int32 × St)
  | 0 => fun _ _ => none
  | n + 1 => fun σ y2 => f_X7_twin_n16_b x1  (f_X7_twin_n16 x1  n) σ y2
set_option maxRecDepth 100000 in
set_option maxHeartbeats 4000000 in
theorem t_X7_twin_n16_b {Γ : St → Nat → List (Nat × Value) → List Value → Prop} {l : Launch} {a : Nat → Nat} {r : Int32} {t' : St} (hC : Cx Γ l cX7_twin RX7 3 (some .int) Rm_X7_twin wM a (some (.int r)) t') (x1 : Int32) (self : St → Int32 → Option (Int32 × St)) (hself : ∀ (σ : St) (y2 : Int32), self σ y2 = some (r, t') → Γ σ 16 [(0, .ref (a 0)), (1, .int x1), (2, .int y2)] []) (σ : St) (y2 : Int32) (h : f_X7_twin_n16_b x1 self σ y2 = some (r, t')) : Γ σ 16 [(0, .ref (a 0)), (1, .int x1), (2, .int y2)] [] := by
  unfold f_X7_twin_n16_b at h
  refine r_iload_n hC dX7_twin_16 rfl 2 rfl ?_
  refine r_sipush (v := 10000) hC dX7_twin_17 (by decide) ?_
  refine r_icmp_ge hC 49 dX7_twin_20 (by decide) (fun q => ?_) (fun q => ?_)
  · replace h := if_p q h
    refine r_bipush (v := -2) hC dX7_twin_49 (by decide) ?_
    exact r_iretS hC dX7_twin_51 h
  · replace h := if_n q h
    refine r_iload_n hC dX7_twin_23 rfl 2 rfl ?_
    refine r_iload_n hC dX7_twin_24 rfl 1 rfl ?_
    refine r_icmp_eq hC 43 dX7_twin_25 (by decide) (fun q => ?_) (fun q => ?_)
    · replace h := if_p q h
      obtain ⟨v1, ev1, h⟩ := lt_of h
      refine r_iinc (c1 := 1) (lv' := [(2, .int v1), (0, .ref (a 0)), (1, .int x1)]) hC dX7_twin_43 2 rfl (by decide) (by decide) ev1 rfl ?_
      refine r_goto hC 16 dX7_twin_46 (by decide) ?_
      refine r_sub hC [1, 2, 0] rfl ?_
      exact hself σ v1 h
    · replace h := if_n q h
      refine r_aload_n hC dX7_twin_28 rfl 0 rfl ?_
      refine r_iload_n hC dX7_twin_29 rfl 2 rfl ?_
      refine r_callV (As := [.int y2]) (rest := []) hC (con_X7_printOf l σ y2 rfl) K7_142 (ob7 a σ) rfl rfl rfl rfl ⟨Nat.le_of_ble_eq_true rfl, Nat.le_of_ble_eq_true rfl⟩ (Nat.le_of_ble_eq_true rfl) dX7_twin_30 ?_
      refine r_aload_n hC dX7_twin_33 rfl 0 rfl ?_
      refine r_iload_n hC dX7_twin_34 rfl 1 rfl ?_
      refine r_callV (As := [.int x1]) (rest := [.int (f_X7_printOf σ y2)]) hC (con_X7_printOf l σ x1 rfl) K7_142 (ob7 a σ) rfl rfl rfl rfl ⟨Nat.le_of_ble_eq_true rfl, Nat.le_of_ble_eq_true rfl⟩ (Nat.le_of_ble_eq_true rfl) dX7_twin_35 ?_
      refine r_icmp_ne hC 43 dX7_twin_38 (by decide) (fun q => ?_) (fun q => ?_)
      · replace h := if_n q h
        obtain ⟨v2, ev2, h⟩ := lt_of h
        refine r_iinc (c1 := 1) (lv' := [(2, .int v2), (0, .ref (a 0)), (1, .int x1)]) hC dX7_twin_43 2 rfl (by decide) (by decide) ev2 rfl ?_
        refine r_goto hC 16 dX7_twin_46 (by decide) ?_
        refine r_sub hC [1, 2, 0] rfl ?_
        exact hself σ v2 h
      · replace h := if_p q h
        refine r_iload_n hC dX7_twin_41 rfl 2 rfl ?_
        exact r_iretS hC dX7_twin_42 h
set_option maxRecDepth 100000 in
set_option maxHeartbeats 4000000 in
theorem t_X7_twin_n16 {Γ : St → Nat → List (Nat × Value) → List Value → Prop} {l : Launch} {a : Nat → Nat} {r : Int32} {t' : St} (hC : Cx Γ l cX7_twin RX7 3 (some .int) Rm_X7_twin wM a (some (.int r)) t') (x1 : Int32) (n : Nat) : ∀ (σ : St) (y2 : Int32), f_X7_twin_n16 x1 n σ y2 = some (r, t') → Γ σ 16 [(0, .ref (a 0)), (1, .int x1), (2, .int y2)] [] := by
  induction n with
  | zero =>
    intro σ y2  h
    have h : (none : Option (Int32 × St)) = some (r, t') := h
    cases h
  | succ n ih =>
    intro σ y2  h
    exact t_X7_twin_n16_b hC x1    (f_X7_twin_n16 x1  n) ih σ y2  h
def f_X7_twin (σ : St) (x1 : Int32) : Option (Int32 × St) :=
  lt_ (put_i σ 0 (0 : Int32)) fun s3 =>
  if (f_X7_isKey s3 x1) = 0 then
    some ((-1 : Int32), s3)
  else
  f_X7_twin_n16 x1 fuel s3 (0 : Int32)
set_option maxRecDepth 100000 in
set_option maxHeartbeats 4000000 in
theorem con_X7_twin (l : Launch) (σ : St) (x1 : Int32) {r : Int32} {t' : St} (h : f_X7_twin σ x1 = some (r, t')) : Con l yX7_twin cX7_twin 3 (some .int) Rm_X7_twin wM (fun a => [.ref (a 0), .int x1]) σ (fun _ => some (.int r)) t' := by
  refine con_of (by decide) ⟨rfl, rfl⟩ (fun _ => Nat.le_of_ble_eq_true rfl) (fun Γ a hC => ?_)
  have hC : Cx Γ l cX7_twin RX7 3 (some .int) Rm_X7_twin wM a (some (.int r)) t' := hC
  show Γ σ 0 [(0, .ref (a 0)), (1, .int x1)] []
  unfold f_X7_twin at h
  refine r_aload_n hC dX7_twin_0 rfl 0 rfl ?_
  refine r_iconst (v := 0) hC dX7_twin_1 (by decide) ?_
  obtain ⟨s3, es3, h⟩ := lt_of h
  refine P7_1 hC es3 dX7_twin_2 ?_
  refine r_iload_n hC dX7_twin_5 rfl 1 rfl ?_
  refine r_callS (As := [.int x1]) (rest := []) hC (con_X7_isKey l s3 x1 rfl) K7_139 rfl rfl rfl ⟨Nat.le_of_ble_eq_true rfl, Nat.le_of_ble_eq_true rfl⟩ (Nat.le_of_ble_eq_true rfl) dX7_twin_6 ?_
  refine r_if_ne hC 14 dX7_twin_9 (by decide) (fun q => ?_) (fun q => ?_)
  · replace h := if_n q h
    refine r_iconst (v := 0) hC dX7_twin_14 (by decide) ?_
    refine r_istore_n (lv' := [(2, .int (0 : Int32)), (0, .ref (a 0)), (1, .int x1)]) hC dX7_twin_15 rfl (by decide) rfl rfl ?_
    refine r_sub hC [1, 2, 0] rfl ?_
    exact t_X7_twin_n16 hC x1 fuel s3 (0 : Int32) h
  · replace h := if_p q h
    refine r_iconst (v := -1) hC dX7_twin_12 (by decide) ?_
    exact r_iretS hC dX7_twin_13 h
abbrev Rm_X7_word : Room := { frames := 3, cells := 0, slots := 0, locals := 71 }
def f_X7_word_n15 (x1 : Int32) (x2 : Int32) (σ : St) (w1 : Int32) : Option (Int64 × St) :=
  lt_ (put_i σ 0 (f_X7_flag σ w1)) fun s1 =>
  if (st_i s1 0) = (1 : Int32) then
    some ((0 : Int64), s1)
  else
  (f_X7_lies s1 x1).bind fun s2 =>
  (f_X7_wordOf s2 x1 x2).bind fun v3 =>
  some (v3, s2)
set_option maxRecDepth 100000 in
set_option maxHeartbeats 4000000 in
theorem t_X7_word_n15 {Γ : St → Nat → List (Nat × Value) → List Value → Prop} {l : Launch} {a : Nat → Nat} {r : Int64} {t' : St} (hC : Cx Γ l cX7_word RX7 3 (some .long) Rm_X7_word wM a (some (.long r)) t') (x1 : Int32) (x2 : Int32) (σ : St) (w1 : Int32) (h : f_X7_word_n15 x1 x2 σ w1 = some (r, t')) : Γ σ 15 [(0, .ref (a 0)), (1, .int x1), (2, .int x2)] [.int w1, .ref (a 0)] := by
  unfold f_X7_word_n15 at h
  refine r_callS (As := [.int w1]) (rest := [.ref (a 0)]) hC (con_X7_flag l σ w1 rfl) K7_109 rfl rfl rfl ⟨Nat.le_of_ble_eq_true rfl, Nat.le_of_ble_eq_true rfl⟩ (Nat.le_of_ble_eq_true rfl) dX7_word_15 ?_
  obtain ⟨s1, es1, h⟩ := lt_of h
  refine P7_1 hC es1 dX7_word_18 ?_
  refine r_aload_n hC dX7_word_21 rfl 0 rfl ?_
  refine G7_1 hC dX7_word_22 ?_
  refine r_iconst (v := 1) hC dX7_word_25 (by decide) ?_
  refine r_icmp_ne hC 31 dX7_word_26 (by decide) (fun q => ?_) (fun q => ?_)
  · replace h := if_n q h
    refine r_aload_n hC dX7_word_31 rfl 0 rfl ?_
    refine r_iload_n hC dX7_word_32 rfl 1 rfl ?_
    obtain ⟨s2, hs2, h⟩ := bind_of h
    refine r_callV (As := [.int x1]) (rest := []) hC (con_X7_lies l s1 x1 hs2) K7_162 (ob7 a s1) rfl rfl rfl rfl ⟨Nat.le_of_ble_eq_true rfl, Nat.le_of_ble_eq_true rfl⟩ (Nat.le_of_ble_eq_true rfl) dX7_word_33 ?_
    refine r_aload_n hC dX7_word_36 rfl 0 rfl ?_
    refine r_iload_n hC dX7_word_37 rfl 1 rfl ?_
    refine r_iload_n hC dX7_word_38 rfl 2 rfl ?_
    obtain ⟨v3, hv3, h⟩ := bind_of h
    refine r_callV (As := [.int x1, .int x2]) (rest := []) hC (con_X7_wordOf l s2 x1 x2 hv3) K7_217 (ob7 a s2) rfl rfl rfl rfl ⟨Nat.le_of_ble_eq_true rfl, Nat.le_of_ble_eq_true rfl⟩ (Nat.le_of_ble_eq_true rfl) dX7_word_39 ?_
    exact r_lretS hC dX7_word_42 h
  · replace h := if_p q h
    refine r_lconst (v := 0) hC dX7_word_29 (by decide) ?_
    exact r_lretS hC dX7_word_30 h
def f_X7_word (σ : St) (x1 : Int32) (x2 : Int32) : Option (Int64 × St) :=
  (f_X7_isWord σ x1 x2).bind fun v4 =>
  if v4 = 0 then
    f_X7_word_n15 x1 x2 σ (1 : Int32)
  else
  f_X7_word_n15 x1 x2 σ (0 : Int32)
set_option maxRecDepth 100000 in
set_option maxHeartbeats 4000000 in
theorem con_X7_word (l : Launch) (σ : St) (x1 : Int32) (x2 : Int32) {r : Int64} {t' : St} (h : f_X7_word σ x1 x2 = some (r, t')) : Con l yX7_word cX7_word 3 (some .long) Rm_X7_word wM (fun a => [.ref (a 0), .int x1, .int x2]) σ (fun _ => some (.long r)) t' := by
  refine con_of (by decide) ⟨rfl, rfl⟩ (fun _ => Nat.le_of_ble_eq_true rfl) (fun Γ a hC => ?_)
  have hC : Cx Γ l cX7_word RX7 3 (some .long) Rm_X7_word wM a (some (.long r)) t' := hC
  show Γ σ 0 [(0, .ref (a 0)), (1, .int x1), (2, .int x2)] []
  unfold f_X7_word at h
  refine r_aload_n hC dX7_word_0 rfl 0 rfl ?_
  refine r_aload_n hC dX7_word_1 rfl 0 rfl ?_
  refine r_iload_n hC dX7_word_2 rfl 1 rfl ?_
  refine r_iload_n hC dX7_word_3 rfl 2 rfl ?_
  obtain ⟨v4, hv4, h⟩ := bind_of h
  refine r_callV (As := [.int x1, .int x2]) (rest := [.ref (a 0)]) hC (con_X7_isWord l σ x1 x2 hv4) K7_214 (ob7 a σ) rfl rfl rfl rfl ⟨Nat.le_of_ble_eq_true rfl, Nat.le_of_ble_eq_true rfl⟩ (Nat.le_of_ble_eq_true rfl) dX7_word_4 ?_
  refine r_if_ne hC 14 dX7_word_7 (by decide) (fun q => ?_) (fun q => ?_)
  · replace h := if_n q h
    refine r_iconst (v := 0) hC dX7_word_14 (by decide) ?_
    exact t_X7_word_n15 hC x1 x2 σ (0 : Int32) h
  · replace h := if_p q h
    refine r_iconst (v := 1) hC dX7_word_10 (by decide) ?_
    refine r_goto hC 15 dX7_word_11 (by decide) ?_
    exact t_X7_word_n15 hC x1 x2 σ (1 : Int32) h
abbrev Rm_X7_would : Room := { frames := 3, cells := 0, slots := 0, locals := 69 }
def f_X7_would_n198 (x1 : Int32) (x2 : Int32) (k153 : St → Int32 → Int32 → Int32 → Int32 → Int32 → Int32 → Option (Int32 × St)) (σ : St) (y3 : Int32) (y4 : Int32) (y5 : Int32) (y6 : Int32) (y8 : Int32) (w0 : Int32) (w1 : Int32) : Option (Int32 × St) :=
  lt_ (w0 + (f_X7_flag σ w1)) fun v1 =>
  lt_ (y8 + (1 : Int32)) fun v2 =>
  k153 σ y3 y4 y5 y6 v1 v2
set_option maxRecDepth 100000 in
set_option maxHeartbeats 4000000 in
theorem t_X7_would_n198 {Γ : St → Nat → List (Nat × Value) → List Value → Prop} {l : Launch} {a : Nat → Nat} {r : Int32} {t' : St} (hC : Cx Γ l cX7_would RX7 9 (some .int) Rm_X7_would wM a (some (.int r)) t') (x1 : Int32) (x2 : Int32) (k153 : St → Int32 → Int32 → Int32 → Int32 → Int32 → Int32 → Option (Int32 × St)) (hk153 : ∀ (σ : St) (y3 : Int32) (y4 : Int32) (y5 : Int32) (y6 : Int32) (y7 : Int32) (y8 : Int32), k153 σ y3 y4 y5 y6 y7 y8 = some (r, t') → Γ σ 153 [(0, .ref (a 0)), (1, .int x1), (3, .int y3), (4, .int y4), (5, .int y5), (6, .int y6), (7, .int y7), (8, .int y8)] []) (σ : St) (y3 : Int32) (y4 : Int32) (y5 : Int32) (y6 : Int32) (y8 : Int32) (w0 : Int32) (w1 : Int32) (h : f_X7_would_n198 x1 x2 k153 σ y3 y4 y5 y6 y8 w0 w1 = some (r, t')) : Γ σ 198 [(0, .ref (a 0)), (1, .int x1), (3, .int y3), (4, .int y4), (5, .int y5), (6, .int y6), (8, .int y8)] [.int w1, .int w0] := by
  unfold f_X7_would_n198 at h
  refine r_callS (As := [.int w1]) (rest := [.int w0]) hC (con_X7_flag l σ w1 rfl) K7_109 rfl rfl rfl ⟨Nat.le_of_ble_eq_true rfl, Nat.le_of_ble_eq_true rfl⟩ (Nat.le_of_ble_eq_true rfl) dX7_would_198 ?_
  refine r_iadd hC dX7_would_201 ?_
  obtain ⟨v1, ev1, h⟩ := lt_of h
  refine r_istore (lv' := [(7, .int v1), (0, .ref (a 0)), (1, .int x1), (3, .int y3), (4, .int y4), (5, .int y5), (6, .int y6), (8, .int y8)]) hC dX7_would_202 (by decide) ev1 rfl ?_
  obtain ⟨v2, ev2, h⟩ := lt_of h
  refine r_iinc (c1 := 1) (lv' := [(8, .int v2), (7, .int v1), (0, .ref (a 0)), (1, .int x1), (3, .int y3), (4, .int y4), (5, .int y5), (6, .int y6)]) hC dX7_would_204 7 rfl (by decide) (by decide) ev2 rfl ?_
  refine r_goto hC 153 dX7_would_207 (by decide) ?_
  refine r_sub hC [2, 3, 4, 5, 6, 7, 1, 0] rfl ?_
  exact hk153 σ y3 y4 y5 y6 v1 v2 h
def f_X7_would_n189 (x1 : Int32) (x2 : Int32) (k153 : St → Int32 → Int32 → Int32 → Int32 → Int32 → Int32 → Option (Int32 × St)) (σ : St) (y3 : Int32) (y4 : Int32) (y5 : Int32) (y6 : Int32) (y8 : Int32) (w0 : Int32) (w1 : Int32) (w3 : Int32) : Option (Int32 × St) :=
  if in_b w3 64 = true then
    if w1 = (st_a σ 4 w3.toNatClampNeg) then
      f_X7_would_n198 x1 x2 k153 σ y3 y4 y5 y6 y8 w0 (0 : Int32)
    else
    f_X7_would_n198 x1 x2 k153 σ y3 y4 y5 y6 y8 w0 (1 : Int32)
  else none
set_option maxRecDepth 100000 in
set_option maxHeartbeats 4000000 in
theorem t_X7_would_n189 {Γ : St → Nat → List (Nat × Value) → List Value → Prop} {l : Launch} {a : Nat → Nat} {r : Int32} {t' : St} (hC : Cx Γ l cX7_would RX7 9 (some .int) Rm_X7_would wM a (some (.int r)) t') (x1 : Int32) (x2 : Int32) (k153 : St → Int32 → Int32 → Int32 → Int32 → Int32 → Int32 → Option (Int32 × St)) (hk153 : ∀ (σ : St) (y3 : Int32) (y4 : Int32) (y5 : Int32) (y6 : Int32) (y7 : Int32) (y8 : Int32), k153 σ y3 y4 y5 y6 y7 y8 = some (r, t') → Γ σ 153 [(0, .ref (a 0)), (1, .int x1), (3, .int y3), (4, .int y4), (5, .int y5), (6, .int y6), (7, .int y7), (8, .int y8)] []) (σ : St) (y3 : Int32) (y4 : Int32) (y5 : Int32) (y6 : Int32) (y8 : Int32) (w0 : Int32) (w1 : Int32) (w3 : Int32) (h : f_X7_would_n189 x1 x2 k153 σ y3 y4 y5 y6 y8 w0 w1 w3 = some (r, t')) : Γ σ 189 [(0, .ref (a 0)), (1, .int x1), (3, .int y3), (4, .int y4), (5, .int y5), (6, .int y6), (8, .int y8)] [.int w3, .ref (a 6), .int w1, .int w0] := by
  unfold f_X7_would_n189 at h
  obtain ⟨hi, h⟩ := inb_of h
  refine L_m_where hC hi dX7_would_189 ?_
  refine r_icmp_eq hC 197 dX7_would_190 (by decide) (fun q => ?_) (fun q => ?_)
  · replace h := if_p q h
    refine r_iconst (v := 0) hC dX7_would_197 (by decide) ?_
    exact t_X7_would_n198 hC x1 x2 k153 hk153 σ y3 y4 y5 y6 y8 w0 (0 : Int32) h
  · replace h := if_n q h
    refine r_iconst (v := 1) hC dX7_would_193 (by decide) ?_
    refine r_goto hC 198 dX7_would_194 (by decide) ?_
    exact t_X7_would_n198 hC x1 x2 k153 hk153 σ y3 y4 y5 y6 y8 w0 (1 : Int32) h
def f_X7_would_n153_b (x1 : Int32) (x2 : Int32) (self : St → Int32 → Int32 → Int32 → Int32 → Int32 → Int32 → Option (Int32 × St)) (σ : St) (y3 : Int32) (y4 : Int32) (y5 : Int32) (y6 : Int32) (y7 : Int32) (y8 : Int32) : Option (Int32 × St) :=
  if y4 ≤ y8 then
    bind2 (f_X7_goes σ x1 y3) fun v8 s7 =>
    lt_ (put_i s7 1 (0 : Int32)) fun s9 =>
    (f_X7_enters s9 (y6.toInt64)).bind fun s10 =>
    some (y7, s10)
  else
  if in_b y8 64 = true then
    if y5 ≤ y8 then
      f_X7_would_n189 x1 x2 self σ y3 y4 y5 y6 y8 y7 (st_a σ 13 y8.toNatClampNeg) (y8 + (1 : Int32))
    else
    f_X7_would_n189 x1 x2 self σ y3 y4 y5 y6 y8 y7 (st_a σ 13 y8.toNatClampNeg) y8
  else none
def f_X7_would_n153 (x1 : Int32) (x2 : Int32) : Nat → St → Int32 → Int32 → Int32 → Int32 → Int32 → Int32 → Option (Int32 × St)
  | 0 => fun _ _ _ _ _ _ _ => none
  | n + 1 => fun σ y3 y4 y5 y6 y7 y8 => f_X7_would_n153_b x1 x2  (f_X7_would_n153 x1 x2  n) σ y3 y4 y5 y6 y7 y8
set_option maxRecDepth 100000 in
set_option maxHeartbeats 4000000 in
theorem t_X7_would_n153_b {Γ : St → Nat → List (Nat × Value) → List Value → Prop} {l : Launch} {a : Nat → Nat} {r : Int32} {t' : St} (hC : Cx Γ l cX7_would RX7 9 (some .int) Rm_X7_would wM a (some (.int r)) t') (x1 : Int32) (x2 : Int32) (self : St → Int32 → Int32 → Int32 → Int32 → Int32 → Int32 → Option (Int32 × St)) (hself : ∀ (σ : St) (y3 : Int32) (y4 : Int32) (y5 : Int32) (y6 : Int32) (y7 : Int32) (y8 : Int32), self σ y3 y4 y5 y6 y7 y8 = some (r, t') → Γ σ 153 [(0, .ref (a 0)), (1, .int x1), (3, .int y3), (4, .int y4), (5, .int y5), (6, .int y6), (7, .int y7), (8, .int y8)] []) (σ : St) (y3 : Int32) (y4 : Int32) (y5 : Int32) (y6 : Int32) (y7 : Int32) (y8 : Int32) (h : f_X7_would_n153_b x1 x2 self σ y3 y4 y5 y6 y7 y8 = some (r, t')) : Γ σ 153 [(0, .ref (a 0)), (1, .int x1), (3, .int y3), (4, .int y4), (5, .int y5), (6, .int y6), (7, .int y7), (8, .int y8)] [] := by
  unfold f_X7_would_n153_b at h
  refine r_iload hC dX7_would_153 7 rfl ?_
  refine r_iload hC dX7_would_155 3 rfl ?_
  refine r_icmp_ge hC 210 dX7_would_157 (by decide) (fun q => ?_) (fun q => ?_)
  · replace h := if_p q h
    refine r_aload_n hC dX7_would_210 rfl 0 rfl ?_
    refine r_iload_n hC dX7_would_211 rfl 1 rfl ?_
    refine r_iload_n hC dX7_would_212 rfl 2 rfl ?_
    obtain ⟨v8, s7, hs7, h⟩ := bind2_of h
    refine r_callV (As := [.int x1, .int y3]) (rest := []) hC (con_X7_goes l σ x1 y3 hs7) K7_169 (ob7 a σ) rfl rfl rfl rfl ⟨Nat.le_of_ble_eq_true rfl, Nat.le_of_ble_eq_true rfl⟩ (Nat.le_of_ble_eq_true rfl) dX7_would_213 ?_
    refine r_istore (lv' := [(8, .int v8), (0, .ref (a 0)), (1, .int x1), (3, .int y3), (4, .int y4), (5, .int y5), (6, .int y6), (7, .int y7)]) hC dX7_would_216 (by decide) rfl rfl ?_
    refine r_aload_n hC dX7_would_218 rfl 1 rfl ?_
    refine r_iconst (v := 0) hC dX7_would_219 (by decide) ?_
    obtain ⟨s9, es9, h⟩ := lt_of h
    refine P7_11 hC es9 dX7_would_220 ?_
    refine r_aload_n hC dX7_would_223 rfl 1 rfl ?_
    refine r_iload hC dX7_would_224 6 rfl ?_
    refine r_i2l hC dX7_would_226 ?_
    obtain ⟨s10, hs10, h⟩ := bind_of h
    refine r_callV (As := [.long (y6.toInt64)]) (rest := []) hC (con_X7_enters l s9 (y6.toInt64) hs10) K7_145 (ob7 a s9) rfl rfl rfl rfl ⟨Nat.le_of_ble_eq_true rfl, Nat.le_of_ble_eq_true rfl⟩ (Nat.le_of_ble_eq_true rfl) dX7_would_227 ?_
    refine r_iload hC dX7_would_230 7 rfl ?_
    exact r_iretS hC dX7_would_232 h
  · replace h := if_n q h
    refine r_iload hC dX7_would_160 6 rfl ?_
    refine r_aload_n hC dX7_would_162 rfl 0 rfl ?_
    refine G7_97 hC dX7_would_163 ?_
    refine r_iload hC dX7_would_166 7 rfl ?_
    obtain ⟨hi, h⟩ := inb_of h
    refine L_m_before hC hi dX7_would_168 ?_
    refine r_aload_n hC dX7_would_169 rfl 0 rfl ?_
    refine G7_66 hC dX7_would_170 ?_
    refine r_iload hC dX7_would_173 7 rfl ?_
    refine r_iload hC dX7_would_175 4 rfl ?_
    refine r_icmp_ge hC 185 dX7_would_177 (by decide) (fun q => ?_) (fun q => ?_)
    · replace h := if_p q h
      refine r_iload hC dX7_would_185 7 rfl ?_
      refine r_iconst (v := 1) hC dX7_would_187 (by decide) ?_
      refine r_iadd hC dX7_would_188 ?_
      refine r_sub hC [0, 1, 2, 3, 4, 5, 7] rfl ?_
      exact t_X7_would_n189 hC x1 x2 self hself σ y3 y4 y5 y6 y8 y7 (st_a σ 13 y8.toNatClampNeg) (y8 + (1 : Int32)) h
    · replace h := if_n q h
      refine r_iload hC dX7_would_180 7 rfl ?_
      refine r_goto hC 189 dX7_would_182 (by decide) ?_
      refine r_sub hC [0, 1, 2, 3, 4, 5, 7] rfl ?_
      exact t_X7_would_n189 hC x1 x2 self hself σ y3 y4 y5 y6 y8 y7 (st_a σ 13 y8.toNatClampNeg) y8 h
set_option maxRecDepth 100000 in
set_option maxHeartbeats 4000000 in
theorem t_X7_would_n153 {Γ : St → Nat → List (Nat × Value) → List Value → Prop} {l : Launch} {a : Nat → Nat} {r : Int32} {t' : St} (hC : Cx Γ l cX7_would RX7 9 (some .int) Rm_X7_would wM a (some (.int r)) t') (x1 : Int32) (x2 : Int32) (n : Nat) : ∀ (σ : St) (y3 : Int32) (y4 : Int32) (y5 : Int32) (y6 : Int32) (y7 : Int32) (y8 : Int32), f_X7_would_n153 x1 x2 n σ y3 y4 y5 y6 y7 y8 = some (r, t') → Γ σ 153 [(0, .ref (a 0)), (1, .int x1), (3, .int y3), (4, .int y4), (5, .int y5), (6, .int y6), (7, .int y7), (8, .int y8)] [] := by
  induction n with
  | zero =>
    intro σ y3 y4 y5 y6 y7 y8  h
    have h : (none : Option (Int32 × St)) = some (r, t') := h
    cases h
  | succ n ih =>
    intro σ y3 y4 y5 y6 y7 y8  h
    exact t_X7_would_n153_b hC x1 x2    (f_X7_would_n153 x1 x2  n) ih σ y3 y4 y5 y6 y7 y8  h
def f_X7_would_n127 (x1 : Int32) (x2 : Int32) (σ : St) (y3 : Int32) (y4 : Int32) (y5 : Int32) : Option (Int32 × St) :=
  (f_X7_comes σ x1 y3).bind fun s11 =>
  (f_X7_lies s11 x1).bind fun s12 =>
  if in_b y5 64 = true then
    lt_ (st_a s12 4 y5.toNatClampNeg) fun v13 =>
    f_X7_would_n153 x1 x2 fuel s12 y3 y4 y5 v13 (0 : Int32) (0 : Int32)
  else none
set_option maxRecDepth 100000 in
set_option maxHeartbeats 4000000 in
theorem t_X7_would_n127 {Γ : St → Nat → List (Nat × Value) → List Value → Prop} {l : Launch} {a : Nat → Nat} {r : Int32} {t' : St} (hC : Cx Γ l cX7_would RX7 9 (some .int) Rm_X7_would wM a (some (.int r)) t') (x1 : Int32) (x2 : Int32) (σ : St) (y3 : Int32) (y4 : Int32) (y5 : Int32) (h : f_X7_would_n127 x1 x2 σ y3 y4 y5 = some (r, t')) : Γ σ 127 [(0, .ref (a 0)), (1, .int x1), (3, .int y3), (4, .int y4), (5, .int y5)] [] := by
  unfold f_X7_would_n127 at h
  refine r_aload_n hC dX7_would_127 rfl 0 rfl ?_
  refine r_iload_n hC dX7_would_128 rfl 1 rfl ?_
  refine r_iload_n hC dX7_would_129 rfl 2 rfl ?_
  obtain ⟨s11, hs11, h⟩ := bind_of h
  refine r_callV (As := [.int x1, .int y3]) (rest := []) hC (con_X7_comes l σ x1 y3 hs11) K7_155 (ob7 a σ) rfl rfl rfl rfl ⟨Nat.le_of_ble_eq_true rfl, Nat.le_of_ble_eq_true rfl⟩ (Nat.le_of_ble_eq_true rfl) dX7_would_130 ?_
  refine r_aload_n hC dX7_would_133 rfl 0 rfl ?_
  refine r_iload_n hC dX7_would_134 rfl 1 rfl ?_
  obtain ⟨s12, hs12, h⟩ := bind_of h
  refine r_callV (As := [.int x1]) (rest := []) hC (con_X7_lies l s11 x1 hs12) K7_162 (ob7 a s11) rfl rfl rfl rfl ⟨Nat.le_of_ble_eq_true rfl, Nat.le_of_ble_eq_true rfl⟩ (Nat.le_of_ble_eq_true rfl) dX7_would_135 ?_
  refine r_aload_n hC dX7_would_138 rfl 0 rfl ?_
  refine G7_66 hC dX7_would_139 ?_
  refine r_iload hC dX7_would_142 4 rfl ?_
  obtain ⟨hi, h⟩ := inb_of h
  refine L_m_where hC hi dX7_would_144 ?_
  obtain ⟨v13, ev13, h⟩ := lt_of h
  refine r_istore (lv' := [(6, .int v13), (0, .ref (a 0)), (1, .int x1), (3, .int y3), (4, .int y4), (5, .int y5)]) hC dX7_would_145 (by decide) ev13 rfl ?_
  refine r_iconst (v := 0) hC dX7_would_147 (by decide) ?_
  refine r_istore (lv' := [(7, .int (0 : Int32)), (6, .int v13), (0, .ref (a 0)), (1, .int x1), (3, .int y3), (4, .int y4), (5, .int y5)]) hC dX7_would_148 (by decide) rfl rfl ?_
  refine r_iconst (v := 0) hC dX7_would_150 (by decide) ?_
  refine r_istore (lv' := [(8, .int (0 : Int32)), (7, .int (0 : Int32)), (6, .int v13), (0, .ref (a 0)), (1, .int x1), (3, .int y3), (4, .int y4), (5, .int y5)]) hC dX7_would_151 (by decide) rfl rfl ?_
  refine r_sub hC [3, 4, 5, 6, 7, 2, 1, 0] rfl ?_
  exact t_X7_would_n153 hC x1 x2 fuel s12 y3 y4 y5 v13 (0 : Int32) (0 : Int32) h
def f_X7_would_n103_b (x1 : Int32) (x2 : Int32) (self : St → Int32 → Int32 → Int32 → Option (Int32 × St)) (σ : St) (y3 : Int32) (y4 : Int32) (y5 : Int32) : Option (Int32 × St) :=
  if y4 ≤ y5 then
    f_X7_would_n127 x1 x2 σ y3 y4 y5
  else
  (f_X7_at σ x1 y5).bind fun v3 =>
  if y3 < v3 then
    f_X7_would_n127 x1 x2 σ y3 y4 y5
  else
  lt_ (y5 + (1 : Int32)) fun v4 =>
  self σ y3 y4 v4
def f_X7_would_n103 (x1 : Int32) (x2 : Int32) : Nat → St → Int32 → Int32 → Int32 → Option (Int32 × St)
  | 0 => fun _ _ _ _ => none
  | n + 1 => fun σ y3 y4 y5 => f_X7_would_n103_b x1 x2  (f_X7_would_n103 x1 x2  n) σ y3 y4 y5
set_option maxRecDepth 100000 in
set_option maxHeartbeats 4000000 in
theorem t_X7_would_n103_b {Γ : St → Nat → List (Nat × Value) → List Value → Prop} {l : Launch} {a : Nat → Nat} {r : Int32} {t' : St} (hC : Cx Γ l cX7_would RX7 9 (some .int) Rm_X7_would wM a (some (.int r)) t') (x1 : Int32) (x2 : Int32) (self : St → Int32 → Int32 → Int32 → Option (Int32 × St)) (hself : ∀ (σ : St) (y3 : Int32) (y4 : Int32) (y5 : Int32), self σ y3 y4 y5 = some (r, t') → Γ σ 103 [(0, .ref (a 0)), (1, .int x1), (3, .int y3), (4, .int y4), (5, .int y5)] []) (σ : St) (y3 : Int32) (y4 : Int32) (y5 : Int32) (h : f_X7_would_n103_b x1 x2 self σ y3 y4 y5 = some (r, t')) : Γ σ 103 [(0, .ref (a 0)), (1, .int x1), (3, .int y3), (4, .int y4), (5, .int y5)] [] := by
  unfold f_X7_would_n103_b at h
  refine r_iload hC dX7_would_103 4 rfl ?_
  refine r_iload hC dX7_would_105 3 rfl ?_
  refine r_icmp_ge hC 127 dX7_would_107 (by decide) (fun q => ?_) (fun q => ?_)
  · replace h := if_p q h
    exact t_X7_would_n127 hC x1 x2 σ y3 y4 y5 h
  · replace h := if_n q h
    refine r_aload_n hC dX7_would_110 rfl 0 rfl ?_
    refine r_iload_n hC dX7_would_111 rfl 1 rfl ?_
    refine r_iload hC dX7_would_112 4 rfl ?_
    obtain ⟨v3, hv3, h⟩ := bind_of h
    refine r_callV (As := [.int x1, .int y5]) (rest := []) hC (con_X7_at l σ x1 y5 hv3) K7_106 (ob7 a σ) rfl rfl rfl rfl ⟨Nat.le_of_ble_eq_true rfl, Nat.le_of_ble_eq_true rfl⟩ (Nat.le_of_ble_eq_true rfl) dX7_would_114 ?_
    refine r_iload_n hC dX7_would_117 rfl 2 rfl ?_
    refine r_icmp_gt hC 127 dX7_would_118 (by decide) (fun q => ?_) (fun q => ?_)
    · replace h := if_p q h
      exact t_X7_would_n127 hC x1 x2 σ y3 y4 y5 h
    · replace h := if_n q h
      obtain ⟨v4, ev4, h⟩ := lt_of h
      refine r_iinc (c1 := 1) (lv' := [(5, .int v4), (0, .ref (a 0)), (1, .int x1), (3, .int y3), (4, .int y4)]) hC dX7_would_121 4 rfl (by decide) (by decide) ev4 rfl ?_
      refine r_goto hC 103 dX7_would_124 (by decide) ?_
      refine r_sub hC [1, 2, 3, 4, 0] rfl ?_
      exact hself σ y3 y4 v4 h
set_option maxRecDepth 100000 in
set_option maxHeartbeats 4000000 in
theorem t_X7_would_n103 {Γ : St → Nat → List (Nat × Value) → List Value → Prop} {l : Launch} {a : Nat → Nat} {r : Int32} {t' : St} (hC : Cx Γ l cX7_would RX7 9 (some .int) Rm_X7_would wM a (some (.int r)) t') (x1 : Int32) (x2 : Int32) (n : Nat) : ∀ (σ : St) (y3 : Int32) (y4 : Int32) (y5 : Int32), f_X7_would_n103 x1 x2 n σ y3 y4 y5 = some (r, t') → Γ σ 103 [(0, .ref (a 0)), (1, .int x1), (3, .int y3), (4, .int y4), (5, .int y5)] [] := by
  induction n with
  | zero =>
    intro σ y3 y4 y5  h
    have h : (none : Option (Int32 × St)) = some (r, t') := h
    cases h
  | succ n ih =>
    intro σ y3 y4 y5  h
    exact t_X7_would_n103_b hC x1 x2    (f_X7_would_n103 x1 x2  n) ih σ y3 y4 y5  h
def f_X7_would_n73_b (x1 : Int32) (x2 : Int32) (self : St → Int32 → Int32 → Int32 → Option (Int32 × St)) (σ : St) (y3 : Int32) (y4 : Int32) (y5 : Int32) : Option (Int32 × St) :=
  if y4 ≤ y5 then
    f_X7_would_n103 x1 x2 fuel σ y3 y4 (0 : Int32)
  else
  if in_b y5 64 = true then
    if in_b y5 64 = true then
      lt_ (put_a σ 13 y5.toNatClampNeg (st_a σ 4 y5.toNatClampNeg)) fun s5 =>
      lt_ (y5 + (1 : Int32)) fun v6 =>
      self s5 y3 y4 v6
    else none
  else none
def f_X7_would_n73 (x1 : Int32) (x2 : Int32) : Nat → St → Int32 → Int32 → Int32 → Option (Int32 × St)
  | 0 => fun _ _ _ _ => none
  | n + 1 => fun σ y3 y4 y5 => f_X7_would_n73_b x1 x2  (f_X7_would_n73 x1 x2  n) σ y3 y4 y5
set_option maxRecDepth 100000 in
set_option maxHeartbeats 4000000 in
theorem t_X7_would_n73_b {Γ : St → Nat → List (Nat × Value) → List Value → Prop} {l : Launch} {a : Nat → Nat} {r : Int32} {t' : St} (hC : Cx Γ l cX7_would RX7 9 (some .int) Rm_X7_would wM a (some (.int r)) t') (x1 : Int32) (x2 : Int32) (self : St → Int32 → Int32 → Int32 → Option (Int32 × St)) (hself : ∀ (σ : St) (y3 : Int32) (y4 : Int32) (y5 : Int32), self σ y3 y4 y5 = some (r, t') → Γ σ 73 [(0, .ref (a 0)), (1, .int x1), (3, .int y3), (4, .int y4), (5, .int y5)] []) (σ : St) (y3 : Int32) (y4 : Int32) (y5 : Int32) (h : f_X7_would_n73_b x1 x2 self σ y3 y4 y5 = some (r, t')) : Γ σ 73 [(0, .ref (a 0)), (1, .int x1), (3, .int y3), (4, .int y4), (5, .int y5)] [] := by
  unfold f_X7_would_n73_b at h
  refine r_iload hC dX7_would_73 4 rfl ?_
  refine r_iload hC dX7_would_75 3 rfl ?_
  refine r_icmp_ge hC 100 dX7_would_77 (by decide) (fun q => ?_) (fun q => ?_)
  · replace h := if_p q h
    refine r_iconst (v := 0) hC dX7_would_100 (by decide) ?_
    refine r_istore (lv' := [(5, .int (0 : Int32)), (0, .ref (a 0)), (1, .int x1), (3, .int y3), (4, .int y4)]) hC dX7_would_101 (by decide) rfl rfl ?_
    refine r_sub hC [1, 2, 3, 4, 0] rfl ?_
    exact t_X7_would_n103 hC x1 x2 fuel σ y3 y4 (0 : Int32) h
  · replace h := if_n q h
    refine r_aload_n hC dX7_would_80 rfl 0 rfl ?_
    refine G7_97 hC dX7_would_81 ?_
    refine r_iload hC dX7_would_84 4 rfl ?_
    refine r_aload_n hC dX7_would_86 rfl 0 rfl ?_
    refine G7_66 hC dX7_would_87 ?_
    refine r_iload hC dX7_would_90 4 rfl ?_
    obtain ⟨hi, h⟩ := inb_of h
    refine L_m_where hC hi dX7_would_92 ?_
    obtain ⟨hi, h⟩ := inb_of h
    obtain ⟨s5, es5, h⟩ := lt_of h
    refine S_m_before hC es5 hi dX7_would_93 ?_
    obtain ⟨v6, ev6, h⟩ := lt_of h
    refine r_iinc (c1 := 1) (lv' := [(5, .int v6), (0, .ref (a 0)), (1, .int x1), (3, .int y3), (4, .int y4)]) hC dX7_would_94 4 rfl (by decide) (by decide) ev6 rfl ?_
    refine r_goto hC 73 dX7_would_97 (by decide) ?_
    refine r_sub hC [1, 2, 3, 4, 0] rfl ?_
    exact hself s5 y3 y4 v6 h
set_option maxRecDepth 100000 in
set_option maxHeartbeats 4000000 in
theorem t_X7_would_n73 {Γ : St → Nat → List (Nat × Value) → List Value → Prop} {l : Launch} {a : Nat → Nat} {r : Int32} {t' : St} (hC : Cx Γ l cX7_would RX7 9 (some .int) Rm_X7_would wM a (some (.int r)) t') (x1 : Int32) (x2 : Int32) (n : Nat) : ∀ (σ : St) (y3 : Int32) (y4 : Int32) (y5 : Int32), f_X7_would_n73 x1 x2 n σ y3 y4 y5 = some (r, t') → Γ σ 73 [(0, .ref (a 0)), (1, .int x1), (3, .int y3), (4, .int y4), (5, .int y5)] [] := by
  induction n with
  | zero =>
    intro σ y3 y4 y5  h
    have h : (none : Option (Int32 × St)) = some (r, t') := h
    cases h
  | succ n ih =>
    intro σ y3 y4 y5  h
    exact t_X7_would_n73_b hC x1 x2    (f_X7_would_n73 x1 x2  n) ih σ y3 y4 y5  h
def f_X7_would (σ : St) (x1 : Int32) (x2 : Int32) : Option (Int32 × St) :=
  lt_ (put_i σ 0 (0 : Int32)) fun s14 =>
  if (f_X7_isFile s14 x1) = 0 then
    some ((-1 : Int32), s14)
  else
  if (f_X7_isKey s14 x2) = 0 then
    some ((-1 : Int32), s14)
  else
  (f_X7_wouldDouble s14 x1).bind fun v15 =>
  if v15 = 0 then
    if in_b x1 2 = true then
      (f_X7_slots s14 x1).bind fun v16 =>
      if (st_a s14 2 x1.toNatClampNeg) = (v16 - (1 : Int32)) then
        some ((-5 : Int32), s14)
      else
      lt_ (f_X7_printOf s14 x2) fun v17 =>
      (f_X7_lies s14 x1).bind fun s18 =>
      if in_b x1 2 = true then
        lt_ (st_a s18 2 x1.toNatClampNeg) fun v19 =>
        f_X7_would_n73 x1 x2 fuel s18 v17 v19 (0 : Int32)
      else none
    else none
  else
  some ((-3 : Int32), s14)
set_option maxRecDepth 100000 in
set_option maxHeartbeats 4000000 in
theorem con_X7_would (l : Launch) (σ : St) (x1 : Int32) (x2 : Int32) {r : Int32} {t' : St} (h : f_X7_would σ x1 x2 = some (r, t')) : Con l yX7_would cX7_would 9 (some .int) Rm_X7_would wM (fun a => [.ref (a 0), .int x1, .int x2]) σ (fun _ => some (.int r)) t' := by
  refine con_of (by decide) ⟨rfl, rfl⟩ (fun _ => Nat.le_of_ble_eq_true rfl) (fun Γ a hC => ?_)
  have hC : Cx Γ l cX7_would RX7 9 (some .int) Rm_X7_would wM a (some (.int r)) t' := hC
  show Γ σ 0 [(0, .ref (a 0)), (1, .int x1), (2, .int x2)] []
  unfold f_X7_would at h
  refine r_aload_n hC dX7_would_0 rfl 0 rfl ?_
  refine r_iconst (v := 0) hC dX7_would_1 (by decide) ?_
  obtain ⟨s14, es14, h⟩ := lt_of h
  refine P7_1 hC es14 dX7_would_2 ?_
  refine r_iload_n hC dX7_would_5 rfl 1 rfl ?_
  refine r_callS (As := [.int x1]) (rest := []) hC (con_X7_isFile l s14 x1 rfl) K7_136 rfl rfl rfl ⟨Nat.le_of_ble_eq_true rfl, Nat.le_of_ble_eq_true rfl⟩ (Nat.le_of_ble_eq_true rfl) dX7_would_6 ?_
  refine r_if_eq hC 19 dX7_would_9 (by decide) (fun q => ?_) (fun q => ?_)
  · replace h := if_p q h
    refine r_iconst (v := -1) hC dX7_would_19 (by decide) ?_
    exact r_iretS hC dX7_would_20 h
  · replace h := if_n q h
    refine r_iload_n hC dX7_would_12 rfl 2 rfl ?_
    refine r_callS (As := [.int x2]) (rest := []) hC (con_X7_isKey l s14 x2 rfl) K7_139 rfl rfl rfl ⟨Nat.le_of_ble_eq_true rfl, Nat.le_of_ble_eq_true rfl⟩ (Nat.le_of_ble_eq_true rfl) dX7_would_13 ?_
    refine r_if_ne hC 21 dX7_would_16 (by decide) (fun q => ?_) (fun q => ?_)
    · replace h := if_n q h
      refine r_aload_n hC dX7_would_21 rfl 0 rfl ?_
      refine r_iload_n hC dX7_would_22 rfl 1 rfl ?_
      obtain ⟨v15, hv15, h⟩ := bind_of h
      refine r_callV (As := [.int x1]) (rest := []) hC (con_X7_wouldDouble l s14 x1 hv15) K7_152 (ob7 a s14) rfl rfl rfl rfl ⟨Nat.le_of_ble_eq_true rfl, Nat.le_of_ble_eq_true rfl⟩ (Nat.le_of_ble_eq_true rfl) dX7_would_23 ?_
      refine r_if_eq hC 32 dX7_would_26 (by decide) (fun q => ?_) (fun q => ?_)
      · replace h := if_p q h
        refine r_aload_n hC dX7_would_32 rfl 0 rfl ?_
        refine G7_60 hC dX7_would_33 ?_
        refine r_iload_n hC dX7_would_36 rfl 1 rfl ?_
        obtain ⟨hi, h⟩ := inb_of h
        refine L_m_many hC hi dX7_would_37 ?_
        refine r_aload_n hC dX7_would_38 rfl 0 rfl ?_
        refine r_iload_n hC dX7_would_39 rfl 1 rfl ?_
        obtain ⟨v16, hv16, h⟩ := bind_of h
        refine r_callV (As := [.int x1]) (rest := [.int (st_a s14 2 x1.toNatClampNeg)]) hC (con_X7_slots l s14 x1 hv16) K7_121 (ob7 a s14) rfl rfl rfl rfl ⟨Nat.le_of_ble_eq_true rfl, Nat.le_of_ble_eq_true rfl⟩ (Nat.le_of_ble_eq_true rfl) dX7_would_40 ?_
        refine r_iconst (v := 1) hC dX7_would_43 (by decide) ?_
        refine r_isub hC dX7_would_44 ?_
        refine r_icmp_ne hC 51 dX7_would_45 (by decide) (fun q => ?_) (fun q => ?_)
        · replace h := if_n q h
          refine r_aload_n hC dX7_would_51 rfl 0 rfl ?_
          refine r_iload_n hC dX7_would_52 rfl 2 rfl ?_
          refine r_callV (As := [.int x2]) (rest := []) hC (con_X7_printOf l s14 x2 rfl) K7_142 (ob7 a s14) rfl rfl rfl rfl ⟨Nat.le_of_ble_eq_true rfl, Nat.le_of_ble_eq_true rfl⟩ (Nat.le_of_ble_eq_true rfl) dX7_would_53 ?_
          obtain ⟨v17, ev17, h⟩ := lt_of h
          refine r_istore_n (lv' := [(3, .int v17), (0, .ref (a 0)), (1, .int x1), (2, .int x2)]) hC dX7_would_56 rfl (by decide) ev17 rfl ?_
          refine r_aload_n hC dX7_would_57 rfl 1 rfl ?_
          refine r_iload_n hC dX7_would_58 rfl 2 rfl ?_
          obtain ⟨s18, hs18, h⟩ := bind_of h
          refine r_callV (As := [.int x1]) (rest := []) hC (con_X7_lies l s14 x1 hs18) K7_162 (ob7 a s14) rfl rfl rfl rfl ⟨Nat.le_of_ble_eq_true rfl, Nat.le_of_ble_eq_true rfl⟩ (Nat.le_of_ble_eq_true rfl) dX7_would_59 ?_
          refine r_aload_n hC dX7_would_62 rfl 1 rfl ?_
          refine G7_60 hC dX7_would_63 ?_
          refine r_iload_n hC dX7_would_66 rfl 2 rfl ?_
          obtain ⟨hi, h⟩ := inb_of h
          refine L_m_many hC hi dX7_would_67 ?_
          obtain ⟨v19, ev19, h⟩ := lt_of h
          refine r_istore (lv' := [(4, .int v19), (3, .int v17), (0, .ref (a 0)), (1, .int x1), (2, .int x2)]) hC dX7_would_68 (by decide) ev19 rfl ?_
          refine r_iconst (v := 0) hC dX7_would_70 (by decide) ?_
          refine r_istore (lv' := [(5, .int (0 : Int32)), (4, .int v19), (3, .int v17), (0, .ref (a 0)), (1, .int x1), (2, .int x2)]) hC dX7_would_71 (by decide) rfl rfl ?_
          refine r_sub hC [3, 4, 2, 1, 0] rfl ?_
          exact t_X7_would_n73 hC x1 x2 fuel s18 v17 v19 (0 : Int32) h
        · replace h := if_p q h
          refine r_bipush (v := -5) hC dX7_would_48 (by decide) ?_
          exact r_iretS hC dX7_would_50 h
      · replace h := if_n q h
        refine r_bipush (v := -3) hC dX7_would_29 (by decide) ?_
        exact r_iretS hC dX7_would_31 h
    · replace h := if_p q h
      refine r_iconst (v := -1) hC dX7_would_19 (by decide) ?_
      exact r_iretS hC dX7_would_20 h
