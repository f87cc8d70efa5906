abbrev Rm_X6_after : Room := { frames := 3, cells := 0, slots := 0, locals := 72 }
def f_X6_after (σ : St) (x1 : Int32) (x2 : Int32) : Option (Int32 × St) :=
  lt_ (f_X6_bagOf x1) fun o1 =>
  on_b o1 (
    some ((-1 : Int32), σ)) fun bb20 =>
  if 0 ≤ x2 then
    (f_X0_below σ bb20 x2).bind fun v3 =>
    if v3 < (st_i σ (3 + 2 * bb20)) then
      (f_X0_at σ bb20 v3).bind fun v4 =>
      (f_X2_lay σ 0 bb20 (st_i σ 0)).bind fun s5 =>
      (f_X0_timesOf s5 bb20 v4).bind fun v6 =>
      (f_X2_slotOf s5 0 v3).bind fun v7 =>
      (f_X3_tell_ s5 (v6.toInt64) (v7.toInt64)).bind fun s8 =>
      some (v4, s8)
    else
    some ((-2 : Int32), σ)
  else
  some ((-1 : Int32), σ)
set_option maxRecDepth 100000 in
set_option maxHeartbeats 4000000 in
theorem con_X6_after (l : Launch) (σ : St) (x1 : Int32) (x2 : Int32) {r : Int32} {t' : St} (h : f_X6_after σ x1 x2 = some (r, t')) : Con l yX6_after cX6_after 6 (some .int) Rm_X6_after wC (fun a => [.ref (a 0), .int x1, .int x2]) σ (fun _ => some (.int r)) t' := by
  refine con_of (by decide) ⟨rfl, rfl⟩ (fun _ => Nat.le_of_ble_eq_true rfl) (fun Γ a hC => ?_)
  have hC : Cx Γ l cX6_after RX6 6 (some .int) Rm_X6_after wC a (some (.int r)) t' := hC
  show Γ σ 0 [(0, .ref (a 0)), (1, .int x1), (2, .int x2)] []
  unfold f_X6_after at h
  refine r_aload_n hC dX6_after_0 rfl 0 rfl ?_
  refine r_iload_n hC dX6_after_1 rfl 1 rfl ?_
  refine r_callV (As := [.int x1]) (rest := []) hC (con_X6_bagOf l σ x1) K6_75 (ob6 a σ) rfl rfl rfl rfl ⟨Nat.le_of_ble_eq_true rfl, Nat.le_of_ble_eq_true rfl⟩ (Nat.le_of_ble_eq_true rfl) dX6_after_2 ?_
  replace h := lt_of h
  obtain ⟨o1, eo1, h⟩ := h
  have ho1 : ∀ z, o1 = some z → z < 3 := fun z q => bagOf_lt (eo1.symm.trans q)
  refine r_astoreO_n (lv' := [(3, rb_ a o1), (0, .ref (a 0)), (1, .int x1), (2, .int x2)]) hC dX6_after_5 rfl (by decide) eo1 rfl ?_
  refine r_aloadO_n hC dX6_after_6 rfl 0 rfl ?_
  replace h := on_b_of h
  rcases h with ⟨rfl, h⟩ | ⟨bb20, rfl, h⟩
  · refine r_ifnullN hC 14 dX6_after_7 (by decide) ?_
    refine r_iconst (v := -1) hC dX6_after_14 (by decide) ?_
    exact r_iretS hC dX6_after_15 h
  · have hbb20 : bb20 < 3 := ho1 bb20 rfl
    refine r_ifnull hC dX6_after_7 ?_
    refine r_iload_n hC dX6_after_10 rfl 3 rfl ?_
    refine r_if_ge hC 16 dX6_after_11 (by decide) (fun q => ?_) (fun q => ?_)
    · replace h := if_p q h
      refine r_aload_n hC dX6_after_16 rfl 0 rfl ?_
      refine r_iload_n hC dX6_after_17 rfl 3 rfl ?_
      replace h := bind_of h
      obtain ⟨v3, hv3, h⟩ := h
      refine r_callV (As := [.int x2]) (rest := []) hC (con_X0_below l σ bb20 x2 hbb20 hv3) K6_198 (ob0 a σ bb20 hbb20) rfl rfl rfl rfl ⟨Nat.le_of_ble_eq_true rfl, Nat.le_of_ble_eq_true rfl⟩ (Nat.le_of_ble_eq_true rfl) dX6_after_18 ?_
      refine r_istore (lv' := [(4, .int v3), (3, .ref (a (1 + bb20))), (0, .ref (a 0)), (1, .int x1), (2, .int x2)]) hC dX6_after_21 (by decide) rfl rfl ?_
      refine r_iload hC dX6_after_23 0 rfl ?_
      refine r_aload_n hC dX6_after_25 rfl 1 rfl ?_
      refine G6_105 hC bb20 hbb20 dX6_after_26 ?_
      refine r_icmp_lt hC 35 dX6_after_29 (by decide) (fun q => ?_) (fun q => ?_)
      · replace h := if_p q h
        refine r_aload_n hC dX6_after_35 rfl 1 rfl ?_
        refine r_iload hC dX6_after_36 0 rfl ?_
        replace h := bind_of h
        obtain ⟨v4, hv4, h⟩ := h
        refine r_callV (As := [.int v3]) (rest := []) hC (con_X0_at l σ bb20 v3 hbb20 hv4) K6_164 (ob0 a σ bb20 hbb20) rfl rfl rfl rfl ⟨Nat.le_of_ble_eq_true rfl, Nat.le_of_ble_eq_true rfl⟩ (Nat.le_of_ble_eq_true rfl) dX6_after_38 ?_
        refine r_istore (lv' := [(5, .int v4), (4, .int v3), (3, .ref (a (1 + bb20))), (0, .ref (a 0)), (1, .int x1), (2, .int x2)]) hC dX6_after_41 (by decide) rfl rfl ?_
        refine r_aload_n hC dX6_after_43 rfl 3 rfl ?_
        refine G6_36 hC dX6_after_44 ?_
        refine r_aload_n hC dX6_after_47 rfl 2 rfl ?_
        refine r_aload_n hC dX6_after_48 rfl 3 rfl ?_
        refine G6_7 hC dX6_after_49 ?_
        replace h := bind_of h
        obtain ⟨s5, hs5, h⟩ := h
        refine r_callV (As := [.ref (a (1 + bb20)), .int (st_i σ 0)]) (rest := []) hC (con_X2_lay l σ 0 bb20 (st_i σ 0) (by decide) hbb20 hs5) K6_98 (ob2 a σ 0 (by decide)) rfl rfl rfl rfl ⟨Nat.le_of_ble_eq_true rfl, Nat.le_of_ble_eq_true rfl⟩ (Nat.le_of_ble_eq_true rfl) dX6_after_52 ?_
        refine r_aload_n hC dX6_after_55 rfl 3 rfl ?_
        refine G6_53 hC dX6_after_56 ?_
        refine r_aload_n hC dX6_after_59 rfl 2 rfl ?_
        refine r_iload hC dX6_after_60 0 rfl ?_
        replace h := bind_of h
        obtain ⟨v6, hv6, h⟩ := h
        refine r_callV (As := [.int v4]) (rest := [.ref (a 7)]) hC (con_X0_timesOf l s5 bb20 v4 hbb20 hv6) K6_118 (ob0 a s5 bb20 hbb20) rfl rfl rfl rfl ⟨Nat.le_of_ble_eq_true rfl, Nat.le_of_ble_eq_true rfl⟩ (Nat.le_of_ble_eq_true rfl) dX6_after_62 ?_
        refine r_i2l hC dX6_after_65 ?_
        refine r_aload_n hC dX6_after_66 rfl 3 rfl ?_
        refine G6_36 hC dX6_after_67 ?_
        refine r_iload hC dX6_after_70 1 rfl ?_
        replace h := bind_of h
        obtain ⟨v7, hv7, h⟩ := h
        refine r_callV (As := [.int v3]) (rest := [.long (v6.toInt64), .ref (a 7)]) hC (con_X2_slotOf l s5 0 v3 (by decide) hv7) K6_102 (ob2 a s5 0 (by decide)) rfl rfl rfl rfl ⟨Nat.le_of_ble_eq_true rfl, Nat.le_of_ble_eq_true rfl⟩ (Nat.le_of_ble_eq_true rfl) dX6_after_72 ?_
        refine r_i2l hC dX6_after_75 ?_
        replace h := bind_of h
        obtain ⟨s8, hs8, h⟩ := h
        refine r_callV (As := [.long (v6.toInt64), .long (v7.toInt64)]) (rest := []) hC (con_X3_tell_ l s5 (v6.toInt64) (v7.toInt64) hs8) K6_90 (ob3 a s5) rfl rfl rfl rfl ⟨Nat.le_of_ble_eq_true rfl, Nat.le_of_ble_eq_true rfl⟩ (Nat.le_of_ble_eq_true rfl) dX6_after_76 ?_
        refine r_iload hC dX6_after_79 0 rfl ?_
        exact r_iretS hC dX6_after_81 h
      · replace h := if_n q h
        refine r_bipush (v := -2) hC dX6_after_32 (by decide) ?_
        exact r_iretS hC dX6_after_34 h
    · replace h := if_n q h
      refine r_iconst (v := -1) hC dX6_after_14 (by decide) ?_
      exact r_iretS hC dX6_after_15 h
abbrev Rm_X6_lookedAt : Room := { frames := 2, cells := 0, slots := 0, locals := 44 }
def f_X6_lookedAt (σ : St) (b1 : Nat) (x2 : Int32) (x3 : Int32) : Option Int32 :=
  lt_ ((st_i σ 0) - x2) fun v1 =>
  lt_ (x3 >>> (v1 &&& 31)) fun v2 =>
  (f_X0_below σ b1 (v2 <<< (v1 &&& 31))).bind fun v3 =>
  (f_X0_below σ b1 ((v2 + (1 : Int32)) <<< (v1 &&& 31))).bind fun v4 =>
  (f_X0_below σ b1 (x3 + (1 : Int32))).bind fun v5 =>
  if v4 ≤ v5 then
    some (v5 - v3)
  else
  some ((v5 - v3) + (1 : Int32))
set_option maxRecDepth 100000 in
set_option maxHeartbeats 4000000 in
theorem con_X6_lookedAt (l : Launch) (σ : St) (b1 : Nat) (x2 : Int32) (x3 : Int32) (hb1 : b1 < 3) {r : Int32} (h : f_X6_lookedAt σ b1 x2 x3 = some r) : Con l yX6_lookedAt cX6_lookedAt 9 (some .int) Rm_X6_lookedAt wC (fun a => [.ref (a 0), .ref (a (1 + b1)), .int x2, .int x3]) σ (fun _ => some (.int r)) σ := by
  refine con_of (by decide) ⟨rfl, rfl⟩ (fun _ => Nat.le_of_ble_eq_true rfl) (fun Γ a hC => ?_)
  have hC : Cx Γ l cX6_lookedAt RX6 9 (some .int) Rm_X6_lookedAt wC a (some (.int r)) σ := hC
  show Γ σ 0 [(0, .ref (a 0)), (1, .ref (a (1 + b1))), (2, .int x2), (3, .int x3)] []
  unfold f_X6_lookedAt at h
  refine r_aload_n hC dX6_lookedAt_0 rfl 0 rfl ?_
  refine G6_7 hC dX6_lookedAt_1 ?_
  refine r_iload_n hC dX6_lookedAt_4 rfl 2 rfl ?_
  refine r_isub hC dX6_lookedAt_5 ?_
  obtain ⟨v1, ev1, h⟩ := lt_of h
  refine r_istore (lv' := [(4, .int v1), (0, .ref (a 0)), (1, .ref (a (1 + b1))), (2, .int x2), (3, .int x3)]) hC dX6_lookedAt_6 (by decide) ev1 rfl ?_
  refine r_iload_n hC dX6_lookedAt_8 rfl 4 rfl ?_
  refine r_iload hC dX6_lookedAt_9 0 rfl ?_
  refine r_ishr hC dX6_lookedAt_11 ?_
  obtain ⟨v2, ev2, h⟩ := lt_of h
  refine r_istore (lv' := [(5, .int v2), (4, .int v1), (0, .ref (a 0)), (1, .ref (a (1 + b1))), (2, .int x2), (3, .int x3)]) hC dX6_lookedAt_12 (by decide) ev2 rfl ?_
  refine r_aload_n hC dX6_lookedAt_14 rfl 3 rfl ?_
  refine r_iload hC dX6_lookedAt_15 0 rfl ?_
  refine r_iload hC dX6_lookedAt_17 1 rfl ?_
  refine r_ishl hC dX6_lookedAt_19 ?_
  obtain ⟨v3, hv3, h⟩ := bind_of h
  refine r_callV (As := [.int (v2 <<< (v1 &&& 31))]) (rest := []) hC (con_X0_below l σ b1 (v2 <<< (v1 &&& 31)) hb1 hv3) K6_198 (ob0 a σ b1 hb1) rfl rfl rfl rfl ⟨Nat.le_of_ble_eq_true rfl, Nat.le_of_ble_eq_true rfl⟩ (Nat.le_of_ble_eq_true rfl) dX6_lookedAt_20 ?_
  refine r_istore (lv' := [(6, .int v3), (5, .int v2), (4, .int v1), (0, .ref (a 0)), (1, .ref (a (1 + b1))), (2, .int x2), (3, .int x3)]) hC dX6_lookedAt_23 (by decide) rfl rfl ?_
  refine r_aload_n hC dX6_lookedAt_25 rfl 4 rfl ?_
  refine r_iload hC dX6_lookedAt_26 1 rfl ?_
  refine r_iconst (v := 1) hC dX6_lookedAt_28 (by decide) ?_
  refine r_iadd hC dX6_lookedAt_29 ?_
  refine r_iload hC dX6_lookedAt_30 2 rfl ?_
  refine r_ishl hC dX6_lookedAt_32 ?_
  obtain ⟨v4, hv4, h⟩ := bind_of h
  refine r_callV (As := [.int ((v2 + (1 : Int32)) <<< (v1 &&& 31))]) (rest := []) hC (con_X0_below l σ b1 ((v2 + (1 : Int32)) <<< (v1 &&& 31)) hb1 hv4) K6_198 (ob0 a σ b1 hb1) rfl rfl rfl rfl ⟨Nat.le_of_ble_eq_true rfl, Nat.le_of_ble_eq_true rfl⟩ (Nat.le_of_ble_eq_true rfl) dX6_lookedAt_33 ?_
  refine r_istore (lv' := [(7, .int v4), (6, .int v3), (5, .int v2), (4, .int v1), (0, .ref (a 0)), (1, .ref (a (1 + b1))), (2, .int x2), (3, .int x3)]) hC dX6_lookedAt_36 (by decide) rfl rfl ?_
  refine r_aload_n hC dX6_lookedAt_38 rfl 5 rfl ?_
  refine r_iload_n hC dX6_lookedAt_39 rfl 7 rfl ?_
  refine r_iconst (v := 1) hC dX6_lookedAt_40 (by decide) ?_
  refine r_iadd hC dX6_lookedAt_41 ?_
  obtain ⟨v5, hv5, h⟩ := bind_of h
  refine r_callV (As := [.int (x3 + (1 : Int32))]) (rest := []) hC (con_X0_below l σ b1 (x3 + (1 : Int32)) hb1 hv5) K6_198 (ob0 a σ b1 hb1) rfl rfl rfl rfl ⟨Nat.le_of_ble_eq_true rfl, Nat.le_of_ble_eq_true rfl⟩ (Nat.le_of_ble_eq_true rfl) dX6_lookedAt_42 ?_
  refine r_istore (lv' := [(8, .int v5), (7, .int v4), (6, .int v3), (5, .int v2), (4, .int v1), (0, .ref (a 0)), (1, .ref (a (1 + b1))), (2, .int x2), (3, .int x3)]) hC dX6_lookedAt_45 (by decide) rfl rfl ?_
  refine r_iload hC dX6_lookedAt_47 0 rfl ?_
  refine r_iload hC dX6_lookedAt_49 1 rfl ?_
  refine r_icmp_ge hC 64 dX6_lookedAt_51 (by decide) (fun q => ?_) (fun q => ?_)
  · replace h := if_p q h
    refine r_iload hC dX6_lookedAt_64 0 rfl ?_
    refine r_iload hC dX6_lookedAt_66 2 rfl ?_
    refine r_isub hC dX6_lookedAt_68 ?_
    exact r_iretP hC dX6_lookedAt_69 h
  · replace h := if_n q h
    refine r_iload hC dX6_lookedAt_54 0 rfl ?_
    refine r_iload hC dX6_lookedAt_56 2 rfl ?_
    refine r_isub hC dX6_lookedAt_58 ?_
    refine r_iconst (v := 1) hC dX6_lookedAt_59 (by decide) ?_
    refine r_iadd hC dX6_lookedAt_60 ?_
    refine r_goto hC 69 dX6_lookedAt_61 (by decide) ?_
    exact r_iretP hC dX6_lookedAt_69 h
abbrev Rm_X6_allLookedAt : Room := { frames := 3, cells := 0, slots := 0, locals := 72 }
def f_X6_allLookedAt_n5_b (σ : St) (b1 : Nat) (x2 : Int32) (self : Int32 → Int32 → Option Int32) (y3 : Int32) (y4 : Int32) : Option Int32 :=
  if (st_i σ (3 + 2 * b1)) ≤ y4 then
    some y3
  else
  (f_X0_at σ b1 y4).bind fun v1 =>
  (f_X6_lookedAt σ b1 x2 v1).bind fun v2 =>
  lt_ (y3 + v2) fun v3 =>
  lt_ (y4 + (1 : Int32)) fun v4 =>
  self v3 v4
def f_X6_allLookedAt_n5 (σ : St) (b1 : Nat) (x2 : Int32) : Nat → Int32 → Int32 → Option Int32
  | 0 => fun _ _ => none
  | n + 1 => fun y3 y4 => f_X6_allLookedAt_n5_b σ b1 x2  (f_X6_allLookedAt_n5 σ b1 x2  n) y3 y4
set_option maxRecDepth 100000 in
set_option maxHeartbeats 4000000 in
theorem t_X6_allLookedAt_n5_b {Γ : St → Nat → List (Nat × Value) → List Value → Prop} {l : Launch} {a : Nat → Nat} {r : Int32} {σ : St} (hC : Cx Γ l cX6_allLookedAt RX6 5 (some .int) Rm_X6_allLookedAt wC a (some (.int r)) σ) (b1 : Nat) (x2 : Int32) (hb1 : b1 < 3) (self : Int32 → Int32 → Option Int32) (hself : ∀ (y3 : Int32) (y4 : Int32), self y3 y4 = some r → Γ σ 5 [(0, .ref (a 0)), (1, .ref (a (1 + b1))), (2, .int x2), (3, .int y3), (4, .int y4)] []) (y3 : Int32) (y4 : Int32) (h : f_X6_allLookedAt_n5_b σ b1 x2 self y3 y4 = some r) : Γ σ 5 [(0, .ref (a 0)), (1, .ref (a (1 + b1))), (2, .int x2), (3, .int y3), (4, .int y4)] [] := by
  unfold f_X6_allLookedAt_n5_b at h
  refine r_iload hC dX6_allLookedAt_5 4 rfl ?_
  refine r_aload_n hC dX6_allLookedAt_7 rfl 1 rfl ?_
  refine G6_105 hC b1 hb1 dX6_allLookedAt_8 ?_
  refine r_icmp_ge hC 35 dX6_allLookedAt_11 (by decide) (fun q => ?_) (fun q => ?_)
  · replace h := if_p q h
    refine r_iload_n hC dX6_allLookedAt_35 rfl 3 rfl ?_
    exact r_iretP hC dX6_allLookedAt_36 h
  · replace h := if_n q h
    refine r_iload_n hC dX6_allLookedAt_14 rfl 3 rfl ?_
    refine r_aload_n hC dX6_allLookedAt_15 rfl 0 rfl ?_
    refine r_aload_n hC dX6_allLookedAt_16 rfl 1 rfl ?_
    refine r_iload_n hC dX6_allLookedAt_17 rfl 2 rfl ?_
    refine r_aload_n hC dX6_allLookedAt_18 rfl 1 rfl ?_
    refine r_iload hC dX6_allLookedAt_19 4 rfl ?_
    obtain ⟨v1, hv1, h⟩ := bind_of h
    refine r_callV (As := [.int y4]) (rest := [.int x2, .ref (a (1 + b1)), .ref (a 0), .int y3]) hC (con_X0_at l σ b1 y4 hb1 hv1) K6_164 (ob0 a σ b1 hb1) rfl rfl rfl rfl ⟨Nat.le_of_ble_eq_true rfl, Nat.le_of_ble_eq_true rfl⟩ (Nat.le_of_ble_eq_true rfl) dX6_allLookedAt_21 ?_
    obtain ⟨v2, hv2, h⟩ := bind_of h
    refine r_callV (As := [.ref (a (1 + b1)), .int x2, .int v1]) (rest := [.int y3]) hC (con_X6_lookedAt l σ b1 x2 v1 hb1 hv2) K6_121 (ob6 a σ) rfl rfl rfl rfl ⟨Nat.le_of_ble_eq_true rfl, Nat.le_of_ble_eq_true rfl⟩ (Nat.le_of_ble_eq_true rfl) dX6_allLookedAt_24 ?_
    refine r_iadd hC dX6_allLookedAt_27 ?_
    obtain ⟨v3, ev3, h⟩ := lt_of h
    refine r_istore_n (lv' := [(3, .int v3), (0, .ref (a 0)), (1, .ref (a (1 + b1))), (2, .int x2), (4, .int y4)]) hC dX6_allLookedAt_28 rfl (by decide) ev3 rfl ?_
    obtain ⟨v4, ev4, h⟩ := lt_of h
    refine r_iinc (c1 := 1) (lv' := [(4, .int v4), (3, .int v3), (0, .ref (a 0)), (1, .ref (a (1 + b1))), (2, .int x2)]) hC dX6_allLookedAt_29 4 rfl (by decide) (by decide) ev4 rfl ?_
    refine r_goto hC 5 dX6_allLookedAt_32 (by decide) ?_
    refine r_sub hC [2, 3, 4, 1, 0] rfl ?_
    exact hself v3 v4 h
set_option maxRecDepth 100000 in
set_option maxHeartbeats 4000000 in
theorem t_X6_allLookedAt_n5 {Γ : St → Nat → List (Nat × Value) → List Value → Prop} {l : Launch} {a : Nat → Nat} {r : Int32} {σ : St} (hC : Cx Γ l cX6_allLookedAt RX6 5 (some .int) Rm_X6_allLookedAt wC a (some (.int r)) σ) (b1 : Nat) (x2 : Int32) (hb1 : b1 < 3) (n : Nat) : ∀ (y3 : Int32) (y4 : Int32), f_X6_allLookedAt_n5 σ b1 x2 n y3 y4 = some r → Γ σ 5 [(0, .ref (a 0)), (1, .ref (a (1 + b1))), (2, .int x2), (3, .int y3), (4, .int y4)] [] := by
  induction n with
  | zero =>
    intro y3 y4  h
    have h : (none : Option Int32) = some r := h
    cases h
  | succ n ih =>
    intro y3 y4  h
    exact t_X6_allLookedAt_n5_b hC b1 x2 hb1   (f_X6_allLookedAt_n5 σ b1 x2  n) ih y3 y4  h
def f_X6_allLookedAt (σ : St) (b1 : Nat) (x2 : Int32) : Option Int32 :=
  f_X6_allLookedAt_n5 σ b1 x2 fuel (0 : Int32) (0 : Int32)
set_option maxRecDepth 100000 in
set_option maxHeartbeats 4000000 in
theorem con_X6_allLookedAt (l : Launch) (σ : St) (b1 : Nat) (x2 : Int32) (hb1 : b1 < 3) {r : Int32} (h : f_X6_allLookedAt σ b1 x2 = some r) : Con l yX6_allLookedAt cX6_allLookedAt 5 (some .int) Rm_X6_allLookedAt wC (fun a => [.ref (a 0), .ref (a (1 + b1)), .int x2]) σ (fun _ => some (.int r)) σ := by
  refine con_of (by decide) ⟨rfl, rfl⟩ (fun _ => Nat.le_of_ble_eq_true rfl) (fun Γ a hC => ?_)
  have hC : Cx Γ l cX6_allLookedAt RX6 5 (some .int) Rm_X6_allLookedAt wC a (some (.int r)) σ := hC
  show Γ σ 0 [(0, .ref (a 0)), (1, .ref (a (1 + b1))), (2, .int x2)] []
  unfold f_X6_allLookedAt at h
  refine r_iconst (v := 0) hC dX6_allLookedAt_0 (by decide) ?_
  refine r_istore_n (lv' := [(3, .int (0 : Int32)), (0, .ref (a 0)), (1, .ref (a (1 + b1))), (2, .int x2)]) hC dX6_allLookedAt_1 rfl (by decide) rfl rfl ?_
  refine r_iconst (v := 0) hC dX6_allLookedAt_2 (by decide) ?_
  refine r_istore (lv' := [(4, .int (0 : Int32)), (3, .int (0 : Int32)), (0, .ref (a 0)), (1, .ref (a (1 + b1))), (2, .int x2)]) hC dX6_allLookedAt_3 (by decide) rfl rfl ?_
  refine r_sub hC [2, 3, 4, 1, 0] rfl ?_
  exact t_X6_allLookedAt_n5 hC b1 x2 hb1 fuel (0 : Int32) (0 : Int32) h
abbrev Rm_X6_becomeRaw : Room := { frames := 4, cells := 0, slots := 0, locals := 96 }
def f_X6_becomeRaw (σ : St) (b1 : Nat) : Option (Int32 × St) :=
  bind2 (f_X4_decode σ 2 (st_i σ 0)) fun v2 s1 =>
  if v2 = 0 then
    some ((-300 : Int32), s1)
  else
  (f_X2_lay s1 1 2 (st_i s1 0)).bind fun s3 =>
  (f_X4_liesAs s3 1).bind fun v4 =>
  if v4 = 0 then
    some ((-300 : Int32), s3)
  else
  (f_X0_becomeLike s3 b1 2).bind fun s5 =>
  some ((st_i s5 (3 + 2 * b1)), s5)
set_option maxRecDepth 100000 in
set_option maxHeartbeats 4000000 in
theorem con_X6_becomeRaw (l : Launch) (σ : St) (b1 : Nat) (hb1 : b1 < 3) {r : Int32} {t' : St} (h : f_X6_becomeRaw σ b1 = some (r, t')) : Con l yX6_becomeRaw cX6_becomeRaw 2 (some .int) Rm_X6_becomeRaw wC (fun a => [.ref (a 0), .ref (a (1 + b1))]) σ (fun _ => some (.int r)) t' := by
  refine con_of (by decide) ⟨rfl, rfl⟩ (fun _ => Nat.le_of_ble_eq_true rfl) (fun Γ a hC => ?_)
  have hC : Cx Γ l cX6_becomeRaw RX6 2 (some .int) Rm_X6_becomeRaw wC a (some (.int r)) t' := hC
  show Γ σ 0 [(0, .ref (a 0)), (1, .ref (a (1 + b1)))] []
  unfold f_X6_becomeRaw at h
  refine r_aload_n hC dX6_becomeRaw_0 rfl 0 rfl ?_
  refine G6_46 hC dX6_becomeRaw_1 ?_
  refine r_aload_n hC dX6_becomeRaw_4 rfl 0 rfl ?_
  refine G6_30 hC dX6_becomeRaw_5 ?_
  refine r_aload_n hC dX6_becomeRaw_8 rfl 0 rfl ?_
  refine G6_7 hC dX6_becomeRaw_9 ?_
  obtain ⟨v2, s1, hs1, h⟩ := bind2_of h
  refine r_callV (As := [.ref (a 3), .int (st_i σ 0)]) (rest := []) hC (con_X4_decode l σ 2 (st_i σ 0) (by decide) hs1) K6_294 (ob4 a σ) rfl rfl rfl rfl ⟨Nat.le_of_ble_eq_true rfl, Nat.le_of_ble_eq_true rfl⟩ (Nat.le_of_ble_eq_true rfl) dX6_becomeRaw_12 ?_
  refine r_if_ne hC 22 dX6_becomeRaw_15 (by decide) (fun q => ?_) (fun q => ?_)
  · replace h := if_n q h
    refine r_aload_n hC dX6_becomeRaw_22 rfl 0 rfl ?_
    refine G6_40 hC dX6_becomeRaw_23 ?_
    refine r_aload_n hC dX6_becomeRaw_26 rfl 0 rfl ?_
    refine G6_30 hC dX6_becomeRaw_27 ?_
    refine r_aload_n hC dX6_becomeRaw_30 rfl 0 rfl ?_
    refine G6_7 hC dX6_becomeRaw_31 ?_
    obtain ⟨s3, hs3, h⟩ := bind_of h
    refine r_callV (As := [.ref (a 3), .int (st_i s1 0)]) (rest := []) hC (con_X2_lay l s1 1 2 (st_i s1 0) (by decide) (by decide) hs3) K6_98 (ob2 a s1 1 (by decide)) rfl rfl rfl rfl ⟨Nat.le_of_ble_eq_true rfl, Nat.le_of_ble_eq_true rfl⟩ (Nat.le_of_ble_eq_true rfl) dX6_becomeRaw_34 ?_
    refine r_aload_n hC dX6_becomeRaw_37 rfl 0 rfl ?_
    refine G6_46 hC dX6_becomeRaw_38 ?_
    refine r_aload_n hC dX6_becomeRaw_41 rfl 0 rfl ?_
    refine G6_40 hC dX6_becomeRaw_42 ?_
    obtain ⟨v4, hv4, h⟩ := bind_of h
    refine r_callV (As := [.ref (a 5)]) (rest := []) hC (con_X4_liesAs l s3 1 (by decide) hv4) K6_297 (ob4 a s3) rfl rfl rfl rfl ⟨Nat.le_of_ble_eq_true rfl, Nat.le_of_ble_eq_true rfl⟩ (Nat.le_of_ble_eq_true rfl) dX6_becomeRaw_45 ?_
    refine r_if_ne hC 55 dX6_becomeRaw_48 (by decide) (fun q => ?_) (fun q => ?_)
    · replace h := if_n q h
      refine r_aload_n hC dX6_becomeRaw_55 rfl 1 rfl ?_
      refine r_aload_n hC dX6_becomeRaw_56 rfl 0 rfl ?_
      refine G6_30 hC dX6_becomeRaw_57 ?_
      obtain ⟨s5, hs5, h⟩ := bind_of h
      refine r_callV (As := [.ref (a 3)]) (rest := []) hC (con_X0_becomeLike l s3 b1 2 hb1 (by decide) hs5) K6_230 (ob0 a s3 b1 hb1) rfl rfl rfl rfl ⟨Nat.le_of_ble_eq_true rfl, Nat.le_of_ble_eq_true rfl⟩ (Nat.le_of_ble_eq_true rfl) dX6_becomeRaw_60 ?_
      refine r_aload_n hC dX6_becomeRaw_63 rfl 1 rfl ?_
      refine G6_105 hC b1 hb1 dX6_becomeRaw_64 ?_
      exact r_iretS hC dX6_becomeRaw_67 h
    · replace h := if_p q h
      refine r_sipush (v := -300) hC dX6_becomeRaw_51 (by decide) ?_
      exact r_iretS hC dX6_becomeRaw_54 h
  · replace h := if_p q h
    refine r_sipush (v := -300) hC dX6_becomeRaw_18 (by decide) ?_
    exact r_iretS hC dX6_becomeRaw_21 h
abbrev Rm_X6_greatestQ : Room := { frames := 1, cells := 0, slots := 0, locals := 21 }
def f_X6_greatestQ (σ : St) : Int32 :=
  (if ((st_i σ 0) - (1 : Int32)) < (6 : Int32) then ((st_i σ 0) - (1 : Int32)) else (6 : Int32))
set_option maxRecDepth 100000 in
set_option maxHeartbeats 4000000 in
theorem con_X6_greatestQ (l : Launch) (σ : St) {r : Int32} (h : f_X6_greatestQ σ = r) : Con l yX6_greatestQ cX6_greatestQ 1 (some .int) Rm_X6_greatestQ wC (fun a => [.ref (a 0)]) σ (fun _ => some (.int r)) σ := by
  refine con_of (by decide) ⟨rfl, rfl⟩ (fun _ => Nat.le_of_ble_eq_true rfl) (fun Γ a hC => ?_)
  have hC : Cx Γ l cX6_greatestQ RX6 1 (some .int) Rm_X6_greatestQ wC a (some (.int r)) σ := hC
  show Γ σ 0 [(0, .ref (a 0))] []
  unfold f_X6_greatestQ at h
  refine r_bipush (v := 6) hC dX6_greatestQ_0 (by decide) ?_
  refine r_aload_n hC dX6_greatestQ_2 rfl 0 rfl ?_
  refine G6_7 hC dX6_greatestQ_3 ?_
  refine r_iconst (v := 1) hC dX6_greatestQ_6 (by decide) ?_
  refine r_isub hC dX6_greatestQ_7 ?_
  refine r_mmin hC dX6_greatestQ_8 K6_291 ⟨Nat.le_of_ble_eq_true rfl, Nat.le_of_ble_eq_true rfl⟩ ?_
  exact r_iretT hC dX6_greatestQ_11 h
abbrev Rm_X6_best : Room := { frames := 4, cells := 0, slots := 0, locals := 96 }
def f_X6_best_n102 (x1 : Int32) (k27 : St → Nat → Int32 → Int32 → Int32 → Option (Int32 × St)) (σ : St) (bb2 : Nat) (y3 : Int32) (y4 : Int32) (y5 : Int32) (y7 : Int32) : Option (Int32 × St) :=
  (f_X3_add σ (y7.toInt64)).bind fun s1 =>
  lt_ (y5 + (1 : Int32)) fun v2 =>
  k27 s1 bb2 y3 y4 v2
set_option maxRecDepth 100000 in
set_option maxHeartbeats 4000000 in
theorem t_X6_best_n102 {Γ : St → Nat → List (Nat × Value) → List Value → Prop} {l : Launch} {a : Nat → Nat} {r : Int32} {t' : St} (hC : Cx Γ l cX6_best RX6 8 (some .int) Rm_X6_best wC a (some (.int r)) t') (x1 : Int32) (k27 : St → Nat → Int32 → Int32 → Int32 → Option (Int32 × St)) (hk27 : ∀ (σ : St) (bb2 : Nat) (y3 : Int32) (y4 : Int32) (y5 : Int32), bb2 < 3 → k27 σ bb2 y3 y4 y5 = some (r, t') → Γ σ 27 [(0, .ref (a 0)), (2, .ref (a (1 + bb2))), (3, .int y3), (4, .int y4), (5, .int y5)] []) (σ : St) (bb2 : Nat) (y3 : Int32) (y4 : Int32) (y5 : Int32) (y7 : Int32) (hbb2 : bb2 < 3) (h : f_X6_best_n102 x1 k27 σ bb2 y3 y4 y5 y7 = some (r, t')) : Γ σ 102 [(0, .ref (a 0)), (2, .ref (a (1 + bb2))), (3, .int y3), (4, .int y4), (5, .int y5), (7, .int y7)] [] := by
  unfold f_X6_best_n102 at h
  refine r_aload_n hC dX6_best_102 rfl 0 rfl ?_
  refine G6_53 hC dX6_best_103 ?_
  refine r_iload hC dX6_best_106 5 rfl ?_
  refine r_i2l hC dX6_best_108 ?_
  replace h := bind_of h
  obtain ⟨s1, hs1, h⟩ := h
  refine r_callV (As := [.long (y7.toInt64)]) (rest := []) hC (con_X3_add l σ (y7.toInt64) hs1) K6_161 (ob3 a σ) rfl rfl rfl rfl ⟨Nat.le_of_ble_eq_true rfl, Nat.le_of_ble_eq_true rfl⟩ (Nat.le_of_ble_eq_true rfl) dX6_best_109 ?_
  replace h := lt_of h
  obtain ⟨v2, ev2, h⟩ := h
  refine r_iinc (c1 := 1) (lv' := [(5, .int v2), (0, .ref (a 0)), (2, .ref (a (1 + bb2))), (3, .int y3), (4, .int y4), (7, .int y7)]) hC dX6_best_112 4 rfl (by decide) (by decide) ev2 rfl ?_
  refine r_goto hC 27 dX6_best_115 (by decide) ?_
  refine r_sub hC [1, 2, 3, 4, 0] rfl ?_
  exact hk27 s1 bb2 y3 y4 v2 hbb2 h
def f_X6_best_n95 (x1 : Int32) (k27 : St → Nat → Int32 → Int32 → Int32 → Option (Int32 × St)) (σ : St) (bb2 : Nat) (y5 : Int32) (y7 : Int32) : Option (Int32 × St) :=
  f_X6_best_n102 x1 k27 σ bb2 y5 y7 y5 y7
set_option maxRecDepth 100000 in
set_option maxHeartbeats 4000000 in
theorem t_X6_best_n95 {Γ : St → Nat → List (Nat × Value) → List Value → Prop} {l : Launch} {a : Nat → Nat} {r : Int32} {t' : St} (hC : Cx Γ l cX6_best RX6 8 (some .int) Rm_X6_best wC a (some (.int r)) t') (x1 : Int32) (k27 : St → Nat → Int32 → Int32 → Int32 → Option (Int32 × St)) (hk27 : ∀ (σ : St) (bb2 : Nat) (y3 : Int32) (y4 : Int32) (y5 : Int32), bb2 < 3 → k27 σ bb2 y3 y4 y5 = some (r, t') → Γ σ 27 [(0, .ref (a 0)), (2, .ref (a (1 + bb2))), (3, .int y3), (4, .int y4), (5, .int y5)] []) (σ : St) (bb2 : Nat) (y5 : Int32) (y7 : Int32) (hbb2 : bb2 < 3) (h : f_X6_best_n95 x1 k27 σ bb2 y5 y7 = some (r, t')) : Γ σ 95 [(0, .ref (a 0)), (2, .ref (a (1 + bb2))), (5, .int y5), (7, .int y7)] [] := by
  unfold f_X6_best_n95 at h
  refine r_iload hC dX6_best_95 2 rfl ?_
  refine r_istore_n (lv' := [(3, .int y5), (0, .ref (a 0)), (2, .ref (a (1 + bb2))), (5, .int y5), (7, .int y7)]) hC dX6_best_97 rfl (by decide) rfl rfl ?_
  refine r_iload hC dX6_best_98 4 rfl ?_
  refine r_istore (lv' := [(4, .int y7), (3, .int y5), (0, .ref (a 0)), (2, .ref (a (1 + bb2))), (5, .int y5), (7, .int y7)]) hC dX6_best_100 (by decide) rfl rfl ?_
  refine r_sub hC [2, 3, 1, 0, 4, 5] rfl ?_
  exact t_X6_best_n102 hC x1 k27 hk27 σ bb2 y5 y7 y5 y7 hbb2 h
def f_X6_best_n77 (x1 : Int32) (k27 : St → Nat → Int32 → Int32 → Int32 → Option (Int32 × St)) (σ : St) (bb2 : Nat) (y3 : Int32) (y4 : Int32) (y5 : Int32) (y6 : Int32) (w0 : Int32) : Option (Int32 × St) :=
  if y6 = 0 then
    f_X6_best_n102 x1 k27 σ bb2 y3 y4 y5 w0
  else
  if y3 < 0 then
    f_X6_best_n95 x1 k27 σ bb2 y5 w0
  else
  if y4 ≤ w0 then
    f_X6_best_n102 x1 k27 σ bb2 y3 y4 y5 w0
  else
  f_X6_best_n95 x1 k27 σ bb2 y5 w0
set_option maxRecDepth 100000 in
set_option maxHeartbeats 4000000 in
theorem t_X6_best_n77 {Γ : St → Nat → List (Nat × Value) → List Value → Prop} {l : Launch} {a : Nat → Nat} {r : Int32} {t' : St} (hC : Cx Γ l cX6_best RX6 8 (some .int) Rm_X6_best wC a (some (.int r)) t') (x1 : Int32) (k27 : St → Nat → Int32 → Int32 → Int32 → Option (Int32 × St)) (hk27 : ∀ (σ : St) (bb2 : Nat) (y3 : Int32) (y4 : Int32) (y5 : Int32), bb2 < 3 → k27 σ bb2 y3 y4 y5 = some (r, t') → Γ σ 27 [(0, .ref (a 0)), (2, .ref (a (1 + bb2))), (3, .int y3), (4, .int y4), (5, .int y5)] []) (σ : St) (bb2 : Nat) (y3 : Int32) (y4 : Int32) (y5 : Int32) (y6 : Int32) (w0 : Int32) (hbb2 : bb2 < 3) (h : f_X6_best_n77 x1 k27 σ bb2 y3 y4 y5 y6 w0 = some (r, t')) : Γ σ 77 [(0, .ref (a 0)), (2, .ref (a (1 + bb2))), (3, .int y3), (4, .int y4), (5, .int y5), (6, .int y6)] [.int w0] := by
  unfold f_X6_best_n77 at h
  refine r_istore (lv' := [(7, .int w0), (0, .ref (a 0)), (2, .ref (a (1 + bb2))), (3, .int y3), (4, .int y4), (5, .int y5), (6, .int y6)]) hC dX6_best_77 (by decide) rfl rfl ?_
  refine r_iload hC dX6_best_79 6 rfl ?_
  refine r_if_eq hC 102 dX6_best_81 (by decide) (fun q => ?_) (fun q => ?_)
  · replace h := if_p q h
    refine r_sub hC [1, 2, 3, 4, 5, 0] rfl ?_
    exact t_X6_best_n102 hC x1 k27 hk27 σ bb2 y3 y4 y5 w0 hbb2 h
  · replace h := if_n q h
    refine r_iload_n hC dX6_best_84 rfl 3 rfl ?_
    refine r_if_lt hC 95 dX6_best_85 (by decide) (fun q => ?_) (fun q => ?_)
    · replace h := if_p q h
      refine r_sub hC [1, 2, 5, 0] rfl ?_
      exact t_X6_best_n95 hC x1 k27 hk27 σ bb2 y5 w0 hbb2 h
    · replace h := if_n q h
      refine r_iload hC dX6_best_88 0 rfl ?_
      refine r_iload hC dX6_best_90 4 rfl ?_
      refine r_icmp_ge hC 102 dX6_best_92 (by decide) (fun q => ?_) (fun q => ?_)
      · replace h := if_p q h
        refine r_sub hC [1, 2, 3, 4, 5, 0] rfl ?_
        exact t_X6_best_n102 hC x1 k27 hk27 σ bb2 y3 y4 y5 w0 hbb2 h
      · replace h := if_n q h
        refine r_sub hC [1, 2, 5, 0] rfl ?_
        exact t_X6_best_n95 hC x1 k27 hk27 σ bb2 y5 w0 hbb2 h
def f_X6_best_n59 (x1 : Int32) (k27 : St → Nat → Int32 → Int32 → Int32 → Option (Int32 × St)) (σ : St) (bb2 : Nat) (y3 : Int32) (y4 : Int32) (y5 : Int32) (w0 : Int32) : Option (Int32 × St) :=
  if w0 = 0 then
    f_X6_best_n77 x1 k27 σ bb2 y3 y4 y5 w0 (-1 : Int32)
  else
  (f_X6_allLookedAt σ bb2 y5).bind fun v3 =>
  f_X6_best_n77 x1 k27 σ bb2 y3 y4 y5 w0 v3
set_option maxRecDepth 100000 in
set_option maxHeartbeats 4000000 in
theorem t_X6_best_n59 {Γ : St → Nat → List (Nat × Value) → List Value → Prop} {l : Launch} {a : Nat → Nat} {r : Int32} {t' : St} (hC : Cx Γ l cX6_best RX6 8 (some .int) Rm_X6_best wC a (some (.int r)) t') (x1 : Int32) (k27 : St → Nat → Int32 → Int32 → Int32 → Option (Int32 × St)) (hk27 : ∀ (σ : St) (bb2 : Nat) (y3 : Int32) (y4 : Int32) (y5 : Int32), bb2 < 3 → k27 σ bb2 y3 y4 y5 = some (r, t') → Γ σ 27 [(0, .ref (a 0)), (2, .ref (a (1 + bb2))), (3, .int y3), (4, .int y4), (5, .int y5)] []) (σ : St) (bb2 : Nat) (y3 : Int32) (y4 : Int32) (y5 : Int32) (w0 : Int32) (hbb2 : bb2 < 3) (h : f_X6_best_n59 x1 k27 σ bb2 y3 y4 y5 w0 = some (r, t')) : Γ σ 59 [(0, .ref (a 0)), (2, .ref (a (1 + bb2))), (3, .int y3), (4, .int y4), (5, .int y5)] [.int w0] := by
  unfold f_X6_best_n59 at h
  refine r_istore (lv' := [(6, .int w0), (0, .ref (a 0)), (2, .ref (a (1 + bb2))), (3, .int y3), (4, .int y4), (5, .int y5)]) hC dX6_best_59 (by decide) rfl rfl ?_
  refine r_iload hC dX6_best_61 0 rfl ?_
  refine r_if_eq hC 76 dX6_best_63 (by decide) (fun q => ?_) (fun q => ?_)
  · replace h := if_p q h
    refine r_iconst (v := -1) hC dX6_best_76 (by decide) ?_
    refine r_sub hC [1, 2, 3, 4, 5, 0] rfl ?_
    exact t_X6_best_n77 hC x1 k27 hk27 σ bb2 y3 y4 y5 w0 (-1 : Int32) hbb2 h
  · replace h := if_n q h
    refine r_aload_n hC dX6_best_66 rfl 1 rfl ?_
    refine r_aload_n hC dX6_best_67 rfl 2 rfl ?_
    refine r_iload hC dX6_best_68 5 rfl ?_
    replace h := bind_of h
    obtain ⟨v3, hv3, h⟩ := h
    refine r_callV (As := [.ref (a (1 + bb2)), .int y5]) (rest := []) hC (con_X6_allLookedAt l σ bb2 y5 hbb2 hv3) K6_243 (ob6 a σ) rfl rfl rfl rfl ⟨Nat.le_of_ble_eq_true rfl, Nat.le_of_ble_eq_true rfl⟩ (Nat.le_of_ble_eq_true rfl) dX6_best_70 ?_
    refine r_goto hC 77 dX6_best_73 (by decide) ?_
    refine r_sub hC [1, 2, 3, 4, 5, 0] rfl ?_
    exact t_X6_best_n77 hC x1 k27 hk27 σ bb2 y3 y4 y5 w0 v3 hbb2 h
def f_X6_best_n58 (x1 : Int32) (k27 : St → Nat → Int32 → Int32 → Int32 → Option (Int32 × St)) (σ : St) (bb2 : Nat) (y3 : Int32) (y4 : Int32) (y5 : Int32) : Option (Int32 × St) :=
  f_X6_best_n59 x1 k27 σ bb2 y3 y4 y5 (0 : Int32)
set_option maxRecDepth 100000 in
set_option maxHeartbeats 4000000 in
theorem t_X6_best_n58 {Γ : St → Nat → List (Nat × Value) → List Value → Prop} {l : Launch} {a : Nat → Nat} {r : Int32} {t' : St} (hC : Cx Γ l cX6_best RX6 8 (some .int) Rm_X6_best wC a (some (.int r)) t') (x1 : Int32) (k27 : St → Nat → Int32 → Int32 → Int32 → Option (Int32 × St)) (hk27 : ∀ (σ : St) (bb2 : Nat) (y3 : Int32) (y4 : Int32) (y5 : Int32), bb2 < 3 → k27 σ bb2 y3 y4 y5 = some (r, t') → Γ σ 27 [(0, .ref (a 0)), (2, .ref (a (1 + bb2))), (3, .int y3), (4, .int y4), (5, .int y5)] []) (σ : St) (bb2 : Nat) (y3 : Int32) (y4 : Int32) (y5 : Int32) (hbb2 : bb2 < 3) (h : f_X6_best_n58 x1 k27 σ bb2 y3 y4 y5 = some (r, t')) : Γ σ 58 [(0, .ref (a 0)), (2, .ref (a (1 + bb2))), (3, .int y3), (4, .int y4), (5, .int y5)] [] := by
  unfold f_X6_best_n58 at h
  refine r_iconst (v := 0) hC dX6_best_58 (by decide) ?_
  exact t_X6_best_n59 hC x1 k27 hk27 σ bb2 y3 y4 y5 (0 : Int32) hbb2 h
def f_X6_best_n27_b (x1 : Int32) (self : St → Nat → Int32 → Int32 → Int32 → Option (Int32 × St)) (σ : St) (bb2 : Nat) (y3 : Int32) (y4 : Int32) (y5 : Int32) : Option (Int32 × St) :=
  if (6 : Int32) < y5 then
    some (y3, σ)
  else
  if (f_X6_greatestQ σ) < y5 then
    f_X6_best_n58 x1 self σ bb2 y3 y4 y5
  else
  if ((1 : Int32) <<< (y5 &&& 31)) ≤ (st_i σ (3 + 2 * bb2)) then
    f_X6_best_n58 x1 self σ bb2 y3 y4 y5
  else
  f_X6_best_n59 x1 self σ bb2 y3 y4 y5 (1 : Int32)
def f_X6_best_n27 (x1 : Int32) : Nat → St → Nat → Int32 → Int32 → Int32 → Option (Int32 × St)
  | 0 => fun _ _ _ _ _ => none
  | n + 1 => fun σ bb2 y3 y4 y5 => f_X6_best_n27_b x1  (f_X6_best_n27 x1  n) σ bb2 y3 y4 y5
set_option maxRecDepth 100000 in
set_option maxHeartbeats 4000000 in
theorem t_X6_best_n27_b {Γ : St → Nat → List (Nat × Value) → List Value → Prop} {l : Launch} {a : Nat → Nat} {r : Int32} {t' : St} (hC : Cx Γ l cX6_best RX6 8 (some .int) Rm_X6_best wC a (some (.int r)) t') (x1 : Int32) (self : St → Nat → Int32 → Int32 → Int32 → Option (Int32 × St)) (hself : ∀ (σ : St) (bb2 : Nat) (y3 : Int32) (y4 : Int32) (y5 : Int32), bb2 < 3 → self σ bb2 y3 y4 y5 = some (r, t') → Γ σ 27 [(0, .ref (a 0)), (2, .ref (a (1 + bb2))), (3, .int y3), (4, .int y4), (5, .int y5)] []) (σ : St) (bb2 : Nat) (y3 : Int32) (y4 : Int32) (y5 : Int32) (hbb2 : bb2 < 3) (h : f_X6_best_n27_b x1 self σ bb2 y3 y4 y5 = some (r, t')) : Γ σ 27 [(0, .ref (a 0)), (2, .ref (a (1 + bb2))), (3, .int y3), (4, .int y4), (5, .int y5)] [] := by
  unfold f_X6_best_n27_b at h
  refine r_iload hC dX6_best_27 4 rfl ?_
  refine r_bipush (v := 6) hC dX6_best_29 (by decide) ?_
  refine r_icmp_gt hC 118 dX6_best_31 (by decide) (fun q => ?_) (fun q => ?_)
  · replace h := if_p q h
    refine r_iload_n hC dX6_best_118 rfl 2 rfl ?_
    exact r_iretS hC dX6_best_119 h
  · replace h := if_n q h
    refine r_iload hC dX6_best_34 4 rfl ?_
    refine r_aload_n hC dX6_best_36 rfl 0 rfl ?_
    refine r_callV (As := []) (rest := [.int y5]) hC (con_X6_greatestQ l σ rfl) K6_246 (ob6 a σ) rfl rfl rfl rfl ⟨Nat.le_of_ble_eq_true rfl, Nat.le_of_ble_eq_true rfl⟩ (Nat.le_of_ble_eq_true rfl) dX6_best_37 ?_
    refine r_icmp_gt hC 58 dX6_best_40 (by decide) (fun q => ?_) (fun q => ?_)
    · replace h := if_p q h
      exact t_X6_best_n58 hC x1 self hself σ bb2 y3 y4 y5 hbb2 h
    · replace h := if_n q h
      refine r_aload_n hC dX6_best_43 rfl 1 rfl ?_
      refine G6_105 hC bb2 hbb2 dX6_best_44 ?_
      refine r_iconst (v := 1) hC dX6_best_47 (by decide) ?_
      refine r_iload hC dX6_best_48 4 rfl ?_
      refine r_ishl hC dX6_best_50 ?_
      refine r_icmp_ge hC 58 dX6_best_51 (by decide) (fun q => ?_) (fun q => ?_)
      · replace h := if_p q h
        exact t_X6_best_n58 hC x1 self hself σ bb2 y3 y4 y5 hbb2 h
      · replace h := if_n q h
        refine r_iconst (v := 1) hC dX6_best_54 (by decide) ?_
        refine r_goto hC 59 dX6_best_55 (by decide) ?_
        exact t_X6_best_n59 hC x1 self hself σ bb2 y3 y4 y5 (1 : Int32) hbb2 h
set_option maxRecDepth 100000 in
set_option maxHeartbeats 4000000 in
theorem t_X6_best_n27 {Γ : St → Nat → List (Nat × Value) → List Value → Prop} {l : Launch} {a : Nat → Nat} {r : Int32} {t' : St} (hC : Cx Γ l cX6_best RX6 8 (some .int) Rm_X6_best wC a (some (.int r)) t') (x1 : Int32) (n : Nat) : ∀ (σ : St) (bb2 : Nat) (y3 : Int32) (y4 : Int32) (y5 : Int32), bb2 < 3 → f_X6_best_n27 x1 n σ bb2 y3 y4 y5 = some (r, t') → Γ σ 27 [(0, .ref (a 0)), (2, .ref (a (1 + bb2))), (3, .int y3), (4, .int y4), (5, .int y5)] [] := by
  induction n with
  | zero =>
    intro σ bb2 y3 y4 y5 hbb2 h
    have h : (none : Option (Int32 × St)) = some (r, t') := h
    cases h
  | succ n ih =>
    intro σ bb2 y3 y4 y5 hbb2 h
    exact t_X6_best_n27_b hC x1    (f_X6_best_n27 x1  n) ih σ bb2 y3 y4 y5 hbb2 h
def f_X6_best (σ : St) (x1 : Int32) : Option (Int32 × St) :=
  lt_ (f_X6_bagOf x1) fun o4 =>
  on_b o4 (
    some ((-1 : Int32), σ)) fun bb50 =>
  (f_X3_restart σ).bind fun s6 =>
  f_X6_best_n27 x1 fuel s6 bb50 (-1 : Int32) (-1 : Int32) (3 : Int32)
set_option maxRecDepth 100000 in
set_option maxHeartbeats 4000000 in
theorem con_X6_best (l : Launch) (σ : St) (x1 : Int32) {r : Int32} {t' : St} (h : f_X6_best σ x1 = some (r, t')) : Con l yX6_best cX6_best 8 (some .int) Rm_X6_best wC (fun a => [.ref (a 0), .int x1]) σ (fun _ => some (.int r)) t' := by
  refine con_of (by decide) ⟨rfl, rfl⟩ (fun _ => Nat.le_of_ble_eq_true rfl) (fun Γ a hC => ?_)
  have hC : Cx Γ l cX6_best RX6 8 (some .int) Rm_X6_best wC a (some (.int r)) t' := hC
  show Γ σ 0 [(0, .ref (a 0)), (1, .int x1)] []
  unfold f_X6_best at h
  refine r_aload_n hC dX6_best_0 rfl 0 rfl ?_
  refine r_iload_n hC dX6_best_1 rfl 1 rfl ?_
  refine r_callV (As := [.int x1]) (rest := []) hC (con_X6_bagOf l σ x1) K6_75 (ob6 a σ) rfl rfl rfl rfl ⟨Nat.le_of_ble_eq_true rfl, Nat.le_of_ble_eq_true rfl⟩ (Nat.le_of_ble_eq_true rfl) dX6_best_2 ?_
  replace h := lt_of h
  obtain ⟨o4, eo4, h⟩ := h
  have ho4 : ∀ z, o4 = some z → z < 3 := fun z q => bagOf_lt (eo4.symm.trans q)
  refine r_astoreO_n (lv' := [(2, rb_ a o4), (0, .ref (a 0)), (1, .int x1)]) hC dX6_best_5 rfl (by decide) eo4 rfl ?_
  refine r_aloadO_n hC dX6_best_6 rfl 0 rfl ?_
  replace h := on_b_of h
  rcases h with ⟨rfl, h⟩ | ⟨bb50, rfl, h⟩
  · refine r_ifnonnullN hC dX6_best_7 ?_
    refine r_iconst (v := -1) hC dX6_best_10 (by decide) ?_
    exact r_iretS hC dX6_best_11 h
  · have hbb50 : bb50 < 3 := ho4 bb50 rfl
    refine r_ifnonnull hC 12 dX6_best_7 (by decide) ?_
    refine r_iconst (v := -1) hC dX6_best_12 (by decide) ?_
    refine r_istore_n (lv' := [(3, .int (-1 : Int32)), (2, .ref (a (1 + bb50))), (0, .ref (a 0)), (1, .int x1)]) hC dX6_best_13 rfl (by decide) rfl rfl ?_
    refine r_iconst (v := -1) hC dX6_best_14 (by decide) ?_
    refine r_istore (lv' := [(4, .int (-1 : Int32)), (3, .int (-1 : Int32)), (2, .ref (a (1 + bb50))), (0, .ref (a 0)), (1, .int x1)]) hC dX6_best_15 (by decide) rfl rfl ?_
    refine r_aload_n hC dX6_best_17 rfl 3 rfl ?_
    refine G6_53 hC dX6_best_18 ?_
    replace h := bind_of h
    obtain ⟨s6, hs6, h⟩ := h
    refine r_callV (As := []) (rest := []) hC (con_X3_restart l σ hs6) K6_154 (ob3 a σ) rfl rfl rfl rfl ⟨Nat.le_of_ble_eq_true rfl, Nat.le_of_ble_eq_true rfl⟩ (Nat.le_of_ble_eq_true rfl) dX6_best_21 ?_
    refine r_iconst (v := 3) hC dX6_best_24 (by decide) ?_
    refine r_istore (lv' := [(5, .int (3 : Int32)), (4, .int (-1 : Int32)), (3, .int (-1 : Int32)), (2, .ref (a (1 + bb50))), (0, .ref (a 0)), (1, .int x1)]) hC dX6_best_25 (by decide) rfl rfl ?_
    refine r_sub hC [4, 3, 2, 1, 0] rfl ?_
    exact t_X6_best_n27 hC x1 fuel s6 bb50 (-1 : Int32) (-1 : Int32) (3 : Int32) hbb50 h
abbrev Rm_X6_isKey : Room := { frames := 0, cells := 0, slots := 0, locals := 0 }
def f_X6_isKey (σ : St) (x0 : Int32) : Int32 :=
  if x0 < 0 then
    (0 : Int32)
  else
  if (99999 : Int32) < x0 then
    (0 : Int32)
  else
  (1 : Int32)
set_option maxRecDepth 100000 in
set_option maxHeartbeats 4000000 in
theorem con_X6_isKey (l : Launch) (σ : St) (x0 : Int32) {r : Int32} (h : f_X6_isKey σ x0 = r) : Con l yX6_isKey cX6_isKey 1 (some .boolean) Rm_X6_isKey wC (fun a => [.int x0]) σ (fun _ => some (.int r)) σ := by
  refine con_of (by decide) ⟨rfl, rfl⟩ (fun _ => Nat.le_of_ble_eq_true rfl) (fun Γ a hC => ?_)
  have hC : Cx Γ l cX6_isKey RX6 1 (some .boolean) Rm_X6_isKey wC a (some (.int r)) σ := hC
  show Γ σ 0 [(0, .int x0)] []
  unfold f_X6_isKey at h
  refine r_iload_n hC dX6_isKey_0 rfl 0 rfl ?_
  refine r_if_lt hC 15 dX6_isKey_1 (by decide) (fun q => ?_) (fun q => ?_)
  · replace h := if_p q h
    refine r_iconst (v := 0) hC dX6_isKey_15 (by decide) ?_
    exact r_zretT hC rfl dX6_isKey_16 h
  · replace h := if_n q h
    refine r_iload_n hC dX6_isKey_4 rfl 0 rfl ?_
    refine r_ldcw hC dX6_isKey_5 kc6_290 ?_
    refine r_icmp_gt hC 15 dX6_isKey_8 (by decide) (fun q => ?_) (fun q => ?_)
    · replace h := if_p q h
      refine r_iconst (v := 0) hC dX6_isKey_15 (by decide) ?_
      exact r_zretT hC rfl dX6_isKey_16 h
    · replace h := if_n q h
      refine r_iconst (v := 1) hC dX6_isKey_11 (by decide) ?_
      refine r_goto hC 16 dX6_isKey_12 (by decide) ?_
      exact r_zretT hC rfl dX6_isKey_16 h
abbrev Rm_X6_printOf : Room := { frames := 0, cells := 0, slots := 0, locals := 0 }
def f_X6_printOf (σ : St) (x1 : Int32) : Int32 :=
  (((x1 * (st_i σ 1)).toUInt32 >>> (((32 : Int32) - (st_i σ 0)).toUInt32 &&& Int32.toUInt32 31)).toInt32)
set_option maxRecDepth 100000 in
set_option maxHeartbeats 4000000 in
theorem con_X6_printOf (l : Launch) (σ : St) (x1 : Int32) {r : Int32} (h : f_X6_printOf σ x1 = r) : Con l yX6_printOf cX6_printOf 2 (some .int) Rm_X6_printOf wC (fun a => [.ref (a 0), .int x1]) σ (fun _ => some (.int r)) σ := by
  refine con_of (by decide) ⟨rfl, rfl⟩ (fun _ => Nat.le_of_ble_eq_true rfl) (fun Γ a hC => ?_)
  have hC : Cx Γ l cX6_printOf RX6 2 (some .int) Rm_X6_printOf wC a (some (.int r)) σ := hC
  show Γ σ 0 [(0, .ref (a 0)), (1, .int x1)] []
  unfold f_X6_printOf at h
  refine r_iload_n hC dX6_printOf_0 rfl 1 rfl ?_
  refine r_aload_n hC dX6_printOf_1 rfl 0 rfl ?_
  refine G6_14 hC dX6_printOf_2 ?_
  refine r_imul hC dX6_printOf_5 ?_
  refine r_bipush (v := 32) hC dX6_printOf_6 (by decide) ?_
  refine r_aload_n hC dX6_printOf_8 rfl 0 rfl ?_
  refine G6_7 hC dX6_printOf_9 ?_
  refine r_isub hC dX6_printOf_12 ?_
  refine r_iushr hC dX6_printOf_13 ?_
  exact r_iretT hC dX6_printOf_14 h
abbrev Rm_X6_both : Room := { frames := 3, cells := 0, slots := 0, locals := 72 }
def f_X6_both_n48 (x1 : Int32) (σ : St) (y2 : Int32) (y3 : Int32) (w0 : Int32) : Option (Int32 × St) :=
  (f_X6_lookedAt σ 0 (st_i σ 4) y2).bind fun v1 =>
  (f_X3_tell_ σ (v1.toInt64) (w0.toInt64)).bind fun s2 =>
  (f_X0_timesOf s2 1 y2).bind fun v3 =>
  some ((y3 + v3), s2)
set_option maxRecDepth 100000 in
set_option maxHeartbeats 4000000 in
theorem t_X6_both_n48 {Γ : St → Nat → List (Nat × Value) → List Value → Prop} {l : Launch} {a : Nat → Nat} {r : Int32} {t' : St} (hC : Cx Γ l cX6_both RX6 5 (some .int) Rm_X6_both wC a (some (.int r)) t') (x1 : Int32) (σ : St) (y2 : Int32) (y3 : Int32) (w0 : Int32) (h : f_X6_both_n48 x1 σ y2 y3 w0 = some (r, t')) : Γ σ 48 [(0, .ref (a 0)), (2, .int y2), (3, .int y3)] [.int w0] := by
  unfold f_X6_both_n48 at h
  refine r_istore (lv' := [(4, .int w0), (0, .ref (a 0)), (2, .int y2), (3, .int y3)]) hC dX6_both_48 (by decide) rfl rfl ?_
  refine r_aload_n hC dX6_both_50 rfl 1 rfl ?_
  refine G6_53 hC dX6_both_51 ?_
  refine r_aload_n hC dX6_both_54 rfl 1 rfl ?_
  refine r_aload_n hC dX6_both_55 rfl 1 rfl ?_
  refine G6_23 hC dX6_both_56 ?_
  refine r_aload_n hC dX6_both_59 rfl 1 rfl ?_
  refine G6_23 hC dX6_both_60 ?_
  refine G6_87 hC 0 (by decide) dX6_both_63 ?_
  refine r_iload_n hC dX6_both_66 rfl 2 rfl ?_
  obtain ⟨v1, hv1, h⟩ := bind_of h
  refine r_callV (As := [.ref (a 1), .int (st_i σ 4), .int y2]) (rest := [.ref (a 7)]) hC (con_X6_lookedAt l σ 0 (st_i σ 4) y2 (by decide) hv1) K6_121 (ob6 a σ) rfl rfl rfl rfl ⟨Nat.le_of_ble_eq_true rfl, Nat.le_of_ble_eq_true rfl⟩ (Nat.le_of_ble_eq_true rfl) dX6_both_67 ?_
  refine r_i2l hC dX6_both_70 ?_
  refine r_iload hC dX6_both_71 0 rfl ?_
  refine r_i2l hC dX6_both_73 ?_
  obtain ⟨s2, hs2, h⟩ := bind_of h
  refine r_callV (As := [.long (v1.toInt64), .long (w0.toInt64)]) (rest := []) hC (con_X3_tell_ l σ (v1.toInt64) (w0.toInt64) hs2) K6_90 (ob3 a σ) rfl rfl rfl rfl ⟨Nat.le_of_ble_eq_true rfl, Nat.le_of_ble_eq_true rfl⟩ (Nat.le_of_ble_eq_true rfl) dX6_both_74 ?_
  refine r_iload_n hC dX6_both_77 rfl 3 rfl ?_
  refine r_aload_n hC dX6_both_78 rfl 1 rfl ?_
  refine G6_27 hC dX6_both_79 ?_
  refine r_iload_n hC dX6_both_82 rfl 2 rfl ?_
  obtain ⟨v3, hv3, h⟩ := bind_of h
  refine r_callV (As := [.int y2]) (rest := [.int y3]) hC (con_X0_timesOf l s2 1 y2 (by decide) hv3) K6_118 (ob0 a s2 1 (by decide)) rfl rfl rfl rfl ⟨Nat.le_of_ble_eq_true rfl, Nat.le_of_ble_eq_true rfl⟩ (Nat.le_of_ble_eq_true rfl) dX6_both_83 ?_
  refine r_iadd hC dX6_both_86 ?_
  exact r_iretS hC dX6_both_87 h
def f_X6_both (σ : St) (x1 : Int32) : Option (Int32 × St) :=
  if (f_X6_isKey σ x1) = 0 then
    some ((-1 : Int32), σ)
  else
  lt_ (f_X6_printOf σ x1) fun v4 =>
  (f_X0_timesOf σ 0 v4).bind fun v5 =>
  if v5 ≤ 0 then
    (f_X6_lookedAt σ 1 (st_i σ 6) v4).bind fun v6 =>
    f_X6_both_n48 x1 σ v4 v5 v6
  else
  f_X6_both_n48 x1 σ v4 v5 (0 : Int32)
set_option maxRecDepth 100000 in
set_option maxHeartbeats 4000000 in
theorem con_X6_both (l : Launch) (σ : St) (x1 : Int32) {r : Int32} {t' : St} (h : f_X6_both σ x1 = some (r, t')) : Con l yX6_both cX6_both 5 (some .int) Rm_X6_both wC (fun a => [.ref (a 0), .int x1]) σ (fun _ => some (.int r)) t' := by
  refine con_of (by decide) ⟨rfl, rfl⟩ (fun _ => Nat.le_of_ble_eq_true rfl) (fun Γ a hC => ?_)
  have hC : Cx Γ l cX6_both RX6 5 (some .int) Rm_X6_both wC a (some (.int r)) t' := hC
  show Γ σ 0 [(0, .ref (a 0)), (1, .int x1)] []
  unfold f_X6_both at h
  refine r_iload_n hC dX6_both_0 rfl 1 rfl ?_
  refine r_callS (As := [.int x1]) (rest := []) hC (con_X6_isKey l σ x1 rfl) K6_79 rfl rfl rfl ⟨Nat.le_of_ble_eq_true rfl, Nat.le_of_ble_eq_true rfl⟩ (Nat.le_of_ble_eq_true rfl) dX6_both_1 ?_
  refine r_if_ne hC 9 dX6_both_4 (by decide) (fun q => ?_) (fun q => ?_)
  · replace h := if_n q h
    refine r_aload_n hC dX6_both_9 rfl 0 rfl ?_
    refine r_iload_n hC dX6_both_10 rfl 1 rfl ?_
    refine r_callV (As := [.int x1]) (rest := []) hC (con_X6_printOf l σ x1 rfl) K6_83 (ob6 a σ) rfl rfl rfl rfl ⟨Nat.le_of_ble_eq_true rfl, Nat.le_of_ble_eq_true rfl⟩ (Nat.le_of_ble_eq_true rfl) dX6_both_11 ?_
    obtain ⟨v4, ev4, h⟩ := lt_of h
    refine r_istore_n (lv' := [(2, .int v4), (0, .ref (a 0)), (1, .int x1)]) hC dX6_both_14 rfl (by decide) ev4 rfl ?_
    refine r_aload_n hC dX6_both_15 rfl 1 rfl ?_
    refine G6_23 hC dX6_both_16 ?_
    refine r_iload_n hC dX6_both_19 rfl 0 rfl ?_
    obtain ⟨v5, hv5, h⟩ := bind_of h
    refine r_callV (As := [.int v4]) (rest := []) hC (con_X0_timesOf l σ 0 v4 (by decide) hv5) K6_118 (ob0 a σ 0 (by decide)) rfl rfl rfl rfl ⟨Nat.le_of_ble_eq_true rfl, Nat.le_of_ble_eq_true rfl⟩ (Nat.le_of_ble_eq_true rfl) dX6_both_20 ?_
    refine r_istore_n (lv' := [(3, .int v5), (2, .int v4), (0, .ref (a 0)), (1, .int x1)]) hC dX6_both_23 rfl (by decide) rfl rfl ?_
    refine r_iload_n hC dX6_both_24 rfl 0 rfl ?_
    refine r_if_le hC 32 dX6_both_25 (by decide) (fun q => ?_) (fun q => ?_)
    · replace h := if_p q h
      refine r_aload_n hC dX6_both_32 rfl 2 rfl ?_
      refine r_aload_n hC dX6_both_33 rfl 2 rfl ?_
      refine G6_27 hC dX6_both_34 ?_
      refine r_aload_n hC dX6_both_37 rfl 2 rfl ?_
      refine G6_27 hC dX6_both_38 ?_
      refine G6_87 hC 1 (by decide) dX6_both_41 ?_
      refine r_iload_n hC dX6_both_44 rfl 1 rfl ?_
      obtain ⟨v6, hv6, h⟩ := bind_of h
      refine r_callV (As := [.ref (a 2), .int (st_i σ 6), .int v4]) (rest := []) hC (con_X6_lookedAt l σ 1 (st_i σ 6) v4 (by decide) hv6) K6_121 (ob6 a σ) rfl rfl rfl rfl ⟨Nat.le_of_ble_eq_true rfl, Nat.le_of_ble_eq_true rfl⟩ (Nat.le_of_ble_eq_true rfl) dX6_both_45 ?_
      refine r_sub hC [2, 1, 0] rfl ?_
      exact t_X6_both_n48 hC x1 σ v4 v5 v6 h
    · replace h := if_n q h
      refine r_iconst (v := 0) hC dX6_both_28 (by decide) ?_
      refine r_goto hC 48 dX6_both_29 (by decide) ?_
      refine r_sub hC [2, 1, 0] rfl ?_
      exact t_X6_both_n48 hC x1 σ v4 v5 (0 : Int32) h
  · replace h := if_p q h
    refine r_iconst (v := -1) hC dX6_both_7 (by decide) ?_
    exact r_iretS hC dX6_both_8 h
abbrev Rm_X6_clears : Room := { frames := 1, cells := 0, slots := 0, locals := 21 }
def f_X6_clears (σ : St) (x1 : Int32) : Option (Int32 × St) :=
  lt_ (f_X6_bagOf x1) fun o1 =>
  on_b o1 (
    some ((-1 : Int32), σ)) fun bb20 =>
  lt_ (st_i σ (3 + 2 * bb20)) fun v3 =>
  (f_X0_emptyTo σ bb20 (3 : Int32)).bind fun s4 =>
  some (v3, s4)
set_option maxRecDepth 100000 in
set_option maxHeartbeats 4000000 in
theorem con_X6_clears (l : Launch) (σ : St) (x1 : Int32) {r : Int32} {t' : St} (h : f_X6_clears σ x1 = some (r, t')) : Con l yX6_clears cX6_clears 4 (some .int) Rm_X6_clears wC (fun a => [.ref (a 0), .int x1]) σ (fun _ => some (.int r)) t' := by
  refine con_of (by decide) ⟨rfl, rfl⟩ (fun _ => Nat.le_of_ble_eq_true rfl) (fun Γ a hC => ?_)
  have hC : Cx Γ l cX6_clears RX6 4 (some .int) Rm_X6_clears wC a (some (.int r)) t' := hC
  show Γ σ 0 [(0, .ref (a 0)), (1, .int x1)] []
  unfold f_X6_clears at h
  refine r_aload_n hC dX6_clears_0 rfl 0 rfl ?_
  refine r_iload_n hC dX6_clears_1 rfl 1 rfl ?_
  refine r_callV (As := [.int x1]) (rest := []) hC (con_X6_bagOf l σ x1) K6_75 (ob6 a σ) rfl rfl rfl rfl ⟨Nat.le_of_ble_eq_true rfl, Nat.le_of_ble_eq_true rfl⟩ (Nat.le_of_ble_eq_true rfl) dX6_clears_2 ?_
  replace h := lt_of h
  obtain ⟨o1, eo1, h⟩ := h
  have ho1 : ∀ z, o1 = some z → z < 3 := fun z q => bagOf_lt (eo1.symm.trans q)
  refine r_astoreO_n (lv' := [(2, rb_ a o1), (0, .ref (a 0)), (1, .int x1)]) hC dX6_clears_5 rfl (by decide) eo1 rfl ?_
  refine r_aloadO_n hC dX6_clears_6 rfl 0 rfl ?_
  replace h := on_b_of h
  rcases h with ⟨rfl, h⟩ | ⟨bb20, rfl, h⟩
  · refine r_ifnonnullN hC dX6_clears_7 ?_
    refine r_iconst (v := -1) hC dX6_clears_10 (by decide) ?_
    exact r_iretS hC dX6_clears_11 h
  · have hbb20 : bb20 < 3 := ho1 bb20 rfl
    refine r_ifnonnull hC 12 dX6_clears_7 (by decide) ?_
    refine r_aload_n hC dX6_clears_12 rfl 0 rfl ?_
    refine G6_105 hC bb20 hbb20 dX6_clears_13 ?_
    replace h := lt_of h
    obtain ⟨v3, ev3, h⟩ := h
    refine r_istore_n (lv' := [(3, .int v3), (2, .ref (a (1 + bb20))), (0, .ref (a 0)), (1, .int x1)]) hC dX6_clears_16 rfl (by decide) ev3 rfl ?_
    refine r_aload_n hC dX6_clears_17 rfl 1 rfl ?_
    refine r_iconst (v := 3) hC dX6_clears_18 (by decide) ?_
    replace h := bind_of h
    obtain ⟨s4, hs4, h⟩ := h
    refine r_callV (As := [.int (3 : Int32)]) (rest := []) hC (con_X0_emptyTo l σ bb20 (3 : Int32) hbb20 hs4) K6_71 (ob0 a σ bb20 hbb20) rfl rfl rfl rfl ⟨Nat.le_of_ble_eq_true rfl, Nat.le_of_ble_eq_true rfl⟩ (Nat.le_of_ble_eq_true rfl) dX6_clears_19 ?_
    refine r_iload_n hC dX6_clears_22 rfl 0 rfl ?_
    exact r_iretS hC dX6_clears_23 h
abbrev Rm_X6_cluster : Room := { frames := 3, cells := 0, slots := 0, locals := 72 }
def f_X6_cluster (σ : St) (x1 : Int32) (x2 : Int32) : Option (Int32 × St) :=
  lt_ (f_X6_bagOf x1) fun o1 =>
  on_b o1 (
    some ((-1 : Int32), σ)) fun bb20 =>
  if x2 < 0 then
    some ((-1 : Int32), σ)
  else
  if x2 < (f_X0_slotCount σ bb20) then
    (f_X2_lay σ 0 bb20 (st_i σ 0)).bind fun s3 =>
    (f_X2_indexAt s3 0 x2).bind fun v4 =>
    if 0 ≤ v4 then
      (f_X2_clusterStart s3 0 x2).bind fun v5 =>
      (f_X2_clusterLength s3 0 v5).bind fun v6 =>
      (f_X2_runsIn s3 0 v5 v6).bind fun v7 =>
      (f_X3_tell_ s3 (v5.toInt64) (v7.toInt64)).bind fun s8 =>
      some (v6, s8)
    else
    some ((-2 : Int32), s3)
  else
  some ((-1 : Int32), σ)
set_option maxRecDepth 100000 in
set_option maxHeartbeats 4000000 in
theorem con_X6_cluster (l : Launch) (σ : St) (x1 : Int32) (x2 : Int32) {r : Int32} {t' : St} (h : f_X6_cluster σ x1 x2 = some (r, t')) : Con l yX6_cluster cX6_cluster 6 (some .int) Rm_X6_cluster wC (fun a => [.ref (a 0), .int x1, .int x2]) σ (fun _ => some (.int r)) t' := by
  refine con_of (by decide) ⟨rfl, rfl⟩ (fun _ => Nat.le_of_ble_eq_true rfl) (fun Γ a hC => ?_)
  have hC : Cx Γ l cX6_cluster RX6 6 (some .int) Rm_X6_cluster wC a (some (.int r)) t' := hC
  show Γ σ 0 [(0, .ref (a 0)), (1, .int x1), (2, .int x2)] []
  unfold f_X6_cluster at h
  refine r_aload_n hC dX6_cluster_0 rfl 0 rfl ?_
  refine r_iload_n hC dX6_cluster_1 rfl 1 rfl ?_
  refine r_callV (As := [.int x1]) (rest := []) hC (con_X6_bagOf l σ x1) K6_75 (ob6 a σ) rfl rfl rfl rfl ⟨Nat.le_of_ble_eq_true rfl, Nat.le_of_ble_eq_true rfl⟩ (Nat.le_of_ble_eq_true rfl) dX6_cluster_2 ?_
  replace h := lt_of h
  obtain ⟨o1, eo1, h⟩ := h
  have ho1 : ∀ z, o1 = some z → z < 3 := fun z q => bagOf_lt (eo1.symm.trans q)
  refine r_astoreO_n (lv' := [(3, rb_ a o1), (0, .ref (a 0)), (1, .int x1), (2, .int x2)]) hC dX6_cluster_5 rfl (by decide) eo1 rfl ?_
  refine r_aloadO_n hC dX6_cluster_6 rfl 0 rfl ?_
  replace h := on_b_of h
  rcases h with ⟨rfl, h⟩ | ⟨bb20, rfl, h⟩
  · refine r_ifnullN hC 22 dX6_cluster_7 (by decide) ?_
    refine r_iconst (v := -1) hC dX6_cluster_22 (by decide) ?_
    exact r_iretS hC dX6_cluster_23 h
  · have hbb20 : bb20 < 3 := ho1 bb20 rfl
    refine r_ifnull hC dX6_cluster_7 ?_
    refine r_iload_n hC dX6_cluster_10 rfl 3 rfl ?_
    refine r_if_lt hC 22 dX6_cluster_11 (by decide) (fun q => ?_) (fun q => ?_)
    · replace h := if_p q h
      refine r_iconst (v := -1) hC dX6_cluster_22 (by decide) ?_
      exact r_iretS hC dX6_cluster_23 h
    · replace h := if_n q h
      refine r_iload_n hC dX6_cluster_14 rfl 3 rfl ?_
      refine r_aload_n hC dX6_cluster_15 rfl 0 rfl ?_
      refine r_callV (As := []) (rest := [.int x2]) hC (con_X0_slotCount l σ bb20 hbb20 rfl) K6_108 (ob0 a σ bb20 hbb20) rfl rfl rfl rfl ⟨Nat.le_of_ble_eq_true rfl, Nat.le_of_ble_eq_true rfl⟩ (Nat.le_of_ble_eq_true rfl) dX6_cluster_16 ?_
      refine r_icmp_lt hC 24 dX6_cluster_19 (by decide) (fun q => ?_) (fun q => ?_)
      · replace h := if_p q h
        refine r_aload_n hC dX6_cluster_24 rfl 1 rfl ?_
        refine G6_36 hC dX6_cluster_25 ?_
        refine r_aload_n hC dX6_cluster_28 rfl 0 rfl ?_
        refine r_aload_n hC dX6_cluster_29 rfl 1 rfl ?_
        refine G6_7 hC dX6_cluster_30 ?_
        replace h := bind_of h
        obtain ⟨s3, hs3, h⟩ := h
        refine r_callV (As := [.ref (a (1 + bb20)), .int (st_i σ 0)]) (rest := []) hC (con_X2_lay l σ 0 bb20 (st_i σ 0) (by decide) hbb20 hs3) K6_98 (ob2 a σ 0 (by decide)) rfl rfl rfl rfl ⟨Nat.le_of_ble_eq_true rfl, Nat.le_of_ble_eq_true rfl⟩ (Nat.le_of_ble_eq_true rfl) dX6_cluster_33 ?_
        refine r_aload_n hC dX6_cluster_36 rfl 1 rfl ?_
        refine G6_36 hC dX6_cluster_37 ?_
        refine r_iload_n hC dX6_cluster_40 rfl 3 rfl ?_
        replace h := bind_of h
        obtain ⟨v4, hv4, h⟩ := h
        refine r_callV (As := [.int x2]) (rest := []) hC (con_X2_indexAt l s3 0 x2 (by decide) hv4) K6_151 (ob2 a s3 0 (by decide)) rfl rfl rfl rfl ⟨Nat.le_of_ble_eq_true rfl, Nat.le_of_ble_eq_true rfl⟩ (Nat.le_of_ble_eq_true rfl) dX6_cluster_41 ?_
        refine r_if_ge hC 50 dX6_cluster_44 (by decide) (fun q => ?_) (fun q => ?_)
        · replace h := if_p q h
          refine r_aload_n hC dX6_cluster_50 rfl 1 rfl ?_
          refine G6_36 hC dX6_cluster_51 ?_
          refine r_iload_n hC dX6_cluster_54 rfl 3 rfl ?_
          replace h := bind_of h
          obtain ⟨v5, hv5, h⟩ := h
          refine r_callV (As := [.int x2]) (rest := []) hC (con_X2_clusterStart l s3 0 x2 (by decide) hv5) K6_201 (ob2 a s3 0 (by decide)) rfl rfl rfl rfl ⟨Nat.le_of_ble_eq_true rfl, Nat.le_of_ble_eq_true rfl⟩ (Nat.le_of_ble_eq_true rfl) dX6_cluster_55 ?_
          refine r_istore (lv' := [(4, .int v5), (3, .ref (a (1 + bb20))), (0, .ref (a 0)), (1, .int x1), (2, .int x2)]) hC dX6_cluster_58 (by decide) rfl rfl ?_
          refine r_aload_n hC dX6_cluster_60 rfl 2 rfl ?_
          refine G6_36 hC dX6_cluster_61 ?_
          refine r_iload hC dX6_cluster_64 0 rfl ?_
          replace h := bind_of h
          obtain ⟨v6, hv6, h⟩ := h
          refine r_callV (As := [.int v5]) (rest := []) hC (con_X2_clusterLength l s3 0 v5 (by decide) hv6) K6_204 (ob2 a s3 0 (by decide)) rfl rfl rfl rfl ⟨Nat.le_of_ble_eq_true rfl, Nat.le_of_ble_eq_true rfl⟩ (Nat.le_of_ble_eq_true rfl) dX6_cluster_66 ?_
          refine r_istore (lv' := [(5, .int v6), (4, .int v5), (3, .ref (a (1 + bb20))), (0, .ref (a 0)), (1, .int x1), (2, .int x2)]) hC dX6_cluster_69 (by decide) rfl rfl ?_
          refine r_aload_n hC dX6_cluster_71 rfl 3 rfl ?_
          refine G6_53 hC dX6_cluster_72 ?_
          refine r_iload hC dX6_cluster_75 1 rfl ?_
          refine r_i2l hC dX6_cluster_77 ?_
          refine r_aload_n hC dX6_cluster_78 rfl 3 rfl ?_
          refine G6_36 hC dX6_cluster_79 ?_
          refine r_iload hC dX6_cluster_82 1 rfl ?_
          refine r_iload hC dX6_cluster_84 0 rfl ?_
          replace h := bind_of h
          obtain ⟨v7, hv7, h⟩ := h
          refine r_callV (As := [.int v5, .int v6]) (rest := [.long (v5.toInt64), .ref (a 7)]) hC (con_X2_runsIn l s3 0 v5 v6 (by decide) hv7) K6_207 (ob2 a s3 0 (by decide)) rfl rfl rfl rfl ⟨Nat.le_of_ble_eq_true rfl, Nat.le_of_ble_eq_true rfl⟩ (Nat.le_of_ble_eq_true rfl) dX6_cluster_86 ?_
          refine r_i2l hC dX6_cluster_89 ?_
          replace h := bind_of h
          obtain ⟨s8, hs8, h⟩ := h
          refine r_callV (As := [.long (v5.toInt64), .long (v7.toInt64)]) (rest := []) hC (con_X3_tell_ l s3 (v5.toInt64) (v7.toInt64) hs8) K6_90 (ob3 a s3) rfl rfl rfl rfl ⟨Nat.le_of_ble_eq_true rfl, Nat.le_of_ble_eq_true rfl⟩ (Nat.le_of_ble_eq_true rfl) dX6_cluster_90 ?_
          refine r_iload hC dX6_cluster_93 0 rfl ?_
          exact r_iretS hC dX6_cluster_95 h
        · replace h := if_n q h
          refine r_bipush (v := -2) hC dX6_cluster_47 (by decide) ?_
          exact r_iretS hC dX6_cluster_49 h
      · replace h := if_n q h
        refine r_iconst (v := -1) hC dX6_cluster_22 (by decide) ?_
        exact r_iretS hC dX6_cluster_23 h
abbrev Rm_X6_clusters : Room := { frames := 3, cells := 0, slots := 0, locals := 72 }
def f_X6_clusters_n87 (x1 : Int32) (k35 : St → Int32 → Int32 → Int32 → Int32 → Option (Int32 × St)) (σ : St) (y3 : Int32) (y4 : Int32) (y6 : Int32) (y7 : Int32) (w0 : Int32) : Option (Int32 × St) :=
  lt_ (if y4 < y7 then y7 else y4) fun v6 =>
  lt_ (y6 + (1 : Int32)) fun v7 =>
  k35 σ y3 v6 w0 v7
set_option maxRecDepth 100000 in
set_option maxHeartbeats 4000000 in
theorem t_X6_clusters_n87 {Γ : St → Nat → List (Nat × Value) → List Value → Prop} {l : Launch} {a : Nat → Nat} {r : Int32} {t' : St} (hC : Cx Γ l cX6_clusters RX6 8 (some .int) Rm_X6_clusters wC a (some (.int r)) t') (x1 : Int32) (k35 : St → Int32 → Int32 → Int32 → Int32 → Option (Int32 × St)) (hk35 : ∀ (σ : St) (y3 : Int32) (y4 : Int32) (y5 : Int32) (y6 : Int32), k35 σ y3 y4 y5 y6 = some (r, t') → Γ σ 35 [(0, .ref (a 0)), (3, .int y3), (4, .int y4), (5, .int y5), (6, .int y6)] []) (σ : St) (y3 : Int32) (y4 : Int32) (y6 : Int32) (y7 : Int32) (w0 : Int32) (h : f_X6_clusters_n87 x1 k35 σ y3 y4 y6 y7 w0 = some (r, t')) : Γ σ 87 [(0, .ref (a 0)), (3, .int y3), (4, .int y4), (6, .int y6), (7, .int y7)] [.int w0] := by
  unfold f_X6_clusters_n87 at h
  refine r_istore (lv' := [(5, .int w0), (0, .ref (a 0)), (3, .int y3), (4, .int y4), (6, .int y6), (7, .int y7)]) hC dX6_clusters_87 (by decide) rfl rfl ?_
  refine r_iload hC dX6_clusters_89 3 rfl ?_
  refine r_iload hC dX6_clusters_91 5 rfl ?_
  refine r_mmax hC dX6_clusters_93 K6_217 ⟨Nat.le_of_ble_eq_true rfl, Nat.le_of_ble_eq_true rfl⟩ ?_
  replace h := lt_of h
  obtain ⟨v6, ev6, h⟩ := h
  refine r_istore (lv' := [(4, .int v6), (5, .int w0), (0, .ref (a 0)), (3, .int y3), (6, .int y6), (7, .int y7)]) hC dX6_clusters_96 (by decide) ev6 rfl ?_
  replace h := lt_of h
  obtain ⟨v7, ev7, h⟩ := h
  refine r_iinc (c1 := 1) (lv' := [(6, .int v7), (4, .int v6), (5, .int w0), (0, .ref (a 0)), (3, .int y3), (7, .int y7)]) hC dX6_clusters_98 4 rfl (by decide) (by decide) ev7 rfl ?_
  refine r_goto hC 35 dX6_clusters_101 (by decide) ?_
  refine r_sub hC [3, 4, 1, 2, 0] rfl ?_
  exact hk35 σ y3 v6 w0 v7 h
def f_X6_clusters_n35_b (x1 : Int32) (self : St → Int32 → Int32 → Int32 → Int32 → Option (Int32 × St)) (σ : St) (y3 : Int32) (y4 : Int32) (y5 : Int32) (y6 : Int32) : Option (Int32 × St) :=
  if (st_i σ 10) ≤ y6 then
    (f_X3_tell_ σ (y4.toInt64) (y5.toInt64)).bind fun s1 =>
    some (y3, s1)
  else
  (f_X2_startsCluster σ 0 y6).bind fun v2 =>
  if v2 = 0 then
    lt_ (y6 + (1 : Int32)) fun v3 =>
    self σ y3 y4 y5 v3
  else
  lt_ (y3 + (1 : Int32)) fun v4 =>
  (f_X2_clusterLength σ 0 y6).bind fun v5 =>
  if v5 ≤ y4 then
    f_X6_clusters_n87 x1 self σ v4 y4 y6 v5 y5
  else
  f_X6_clusters_n87 x1 self σ v4 y4 y6 v5 y6
def f_X6_clusters_n35 (x1 : Int32) : Nat → St → Int32 → Int32 → Int32 → Int32 → Option (Int32 × St)
  | 0 => fun _ _ _ _ _ => none
  | n + 1 => fun σ y3 y4 y5 y6 => f_X6_clusters_n35_b x1  (f_X6_clusters_n35 x1  n) σ y3 y4 y5 y6
set_option maxRecDepth 100000 in
set_option maxHeartbeats 4000000 in
theorem t_X6_clusters_n35_b {Γ : St → Nat → List (Nat × Value) → List Value → Prop} {l : Launch} {a : Nat → Nat} {r : Int32} {t' : St} (hC : Cx Γ l cX6_clusters RX6 8 (some .int) Rm_X6_clusters wC a (some (.int r)) t') (x1 : Int32) (self : St → Int32 → Int32 → Int32 → Int32 → Option (Int32 × St)) (hself : ∀ (σ : St) (y3 : Int32) (y4 : Int32) (y5 : Int32) (y6 : Int32), self σ y3 y4 y5 y6 = some (r, t') → Γ σ 35 [(0, .ref (a 0)), (3, .int y3), (4, .int y4), (5, .int y5), (6, .int y6)] []) (σ : St) (y3 : Int32) (y4 : Int32) (y5 : Int32) (y6 : Int32) (h : f_X6_clusters_n35_b x1 self σ y3 y4 y5 y6 = some (r, t')) : Γ σ 35 [(0, .ref (a 0)), (3, .int y3), (4, .int y4), (5, .int y5), (6, .int y6)] [] := by
  unfold f_X6_clusters_n35_b at h
  refine r_iload hC dX6_clusters_35 4 rfl ?_
  refine r_aload_n hC dX6_clusters_37 rfl 0 rfl ?_
  refine G6_36 hC dX6_clusters_38 ?_
  refine G6_211 hC 0 (by decide) dX6_clusters_41 ?_
  refine r_icmp_ge hC 104 dX6_clusters_44 (by decide) (fun q => ?_) (fun q => ?_)
  · replace h := if_p q h
    refine r_aload_n hC dX6_clusters_104 rfl 0 rfl ?_
    refine G6_53 hC dX6_clusters_105 ?_
    refine r_iload hC dX6_clusters_108 2 rfl ?_
    refine r_i2l hC dX6_clusters_110 ?_
    refine r_iload hC dX6_clusters_111 3 rfl ?_
    refine r_i2l hC dX6_clusters_113 ?_
    replace h := bind_of h
    obtain ⟨s1, hs1, h⟩ := h
    refine r_callV (As := [.long (y4.toInt64), .long (y5.toInt64)]) (rest := []) hC (con_X3_tell_ l σ (y4.toInt64) (y5.toInt64) hs1) K6_90 (ob3 a σ) rfl rfl rfl rfl ⟨Nat.le_of_ble_eq_true rfl, Nat.le_of_ble_eq_true rfl⟩ (Nat.le_of_ble_eq_true rfl) dX6_clusters_114 ?_
    refine r_iload_n hC dX6_clusters_117 rfl 1 rfl ?_
    exact r_iretS hC dX6_clusters_118 h
  · replace h := if_n q h
    refine r_aload_n hC dX6_clusters_47 rfl 0 rfl ?_
    refine G6_36 hC dX6_clusters_48 ?_
    refine r_iload hC dX6_clusters_51 4 rfl ?_
    replace h := bind_of h
    obtain ⟨v2, hv2, h⟩ := h
    refine r_callV (As := [.int y6]) (rest := []) hC (con_X2_startsCluster l σ 0 y6 (by decide) hv2) K6_214 (ob2 a σ 0 (by decide)) rfl rfl rfl rfl ⟨Nat.le_of_ble_eq_true rfl, Nat.le_of_ble_eq_true rfl⟩ (Nat.le_of_ble_eq_true rfl) dX6_clusters_53 ?_
    refine r_if_eq hC 98 dX6_clusters_56 (by decide) (fun q => ?_) (fun q => ?_)
    · replace h := if_p q h
      replace h := lt_of h
      obtain ⟨v3, ev3, h⟩ := h
      refine r_iinc (c1 := 1) (lv' := [(6, .int v3), (0, .ref (a 0)), (3, .int y3), (4, .int y4), (5, .int y5)]) hC dX6_clusters_98 4 rfl (by decide) (by decide) ev3 rfl ?_
      refine r_goto hC 35 dX6_clusters_101 (by decide) ?_
      refine r_sub hC [1, 2, 3, 4, 0] rfl ?_
      exact hself σ y3 y4 y5 v3 h
    · replace h := if_n q h
      replace h := lt_of h
      obtain ⟨v4, ev4, h⟩ := h
      refine r_iinc (c1 := 1) (lv' := [(3, .int v4), (0, .ref (a 0)), (4, .int y4), (5, .int y5), (6, .int y6)]) hC dX6_clusters_59 1 rfl (by decide) (by decide) ev4 rfl ?_
      refine r_aload_n hC dX6_clusters_62 rfl 1 rfl ?_
      refine G6_36 hC dX6_clusters_63 ?_
      refine r_iload hC dX6_clusters_66 4 rfl ?_
      replace h := bind_of h
      obtain ⟨v5, hv5, h⟩ := h
      refine r_callV (As := [.int y6]) (rest := []) hC (con_X2_clusterLength l σ 0 y6 (by decide) hv5) K6_204 (ob2 a σ 0 (by decide)) rfl rfl rfl rfl ⟨Nat.le_of_ble_eq_true rfl, Nat.le_of_ble_eq_true rfl⟩ (Nat.le_of_ble_eq_true rfl) dX6_clusters_68 ?_
      refine r_istore (lv' := [(7, .int v5), (3, .int v4), (0, .ref (a 0)), (4, .int y4), (5, .int y5), (6, .int y6)]) hC dX6_clusters_71 (by decide) rfl rfl ?_
      refine r_iload hC dX6_clusters_73 0 rfl ?_
      refine r_iload hC dX6_clusters_75 3 rfl ?_
      refine r_icmp_le hC 85 dX6_clusters_77 (by decide) (fun q => ?_) (fun q => ?_)
      · replace h := if_p q h
        refine r_iload hC dX6_clusters_85 4 rfl ?_
        refine r_sub hC [2, 1, 3, 5, 0] rfl ?_
        exact t_X6_clusters_n87 hC x1 self hself σ v4 y4 y6 v5 y5 h
      · replace h := if_n q h
        refine r_iload hC dX6_clusters_80 5 rfl ?_
        refine r_goto hC 87 dX6_clusters_82 (by decide) ?_
        refine r_sub hC [2, 1, 3, 5, 0] rfl ?_
        exact t_X6_clusters_n87 hC x1 self hself σ v4 y4 y6 v5 y6 h
set_option maxRecDepth 100000 in
set_option maxHeartbeats 4000000 in
theorem t_X6_clusters_n35 {Γ : St → Nat → List (Nat × Value) → List Value → Prop} {l : Launch} {a : Nat → Nat} {r : Int32} {t' : St} (hC : Cx Γ l cX6_clusters RX6 8 (some .int) Rm_X6_clusters wC a (some (.int r)) t') (x1 : Int32) (n : Nat) : ∀ (σ : St) (y3 : Int32) (y4 : Int32) (y5 : Int32) (y6 : Int32), f_X6_clusters_n35 x1 n σ y3 y4 y5 y6 = some (r, t') → Γ σ 35 [(0, .ref (a 0)), (3, .int y3), (4, .int y4), (5, .int y5), (6, .int y6)] [] := by
  induction n with
  | zero =>
    intro σ y3 y4 y5 y6  h
    have h : (none : Option (Int32 × St)) = some (r, t') := h
    cases h
  | succ n ih =>
    intro σ y3 y4 y5 y6  h
    exact t_X6_clusters_n35_b hC x1    (f_X6_clusters_n35 x1  n) ih σ y3 y4 y5 y6  h
def f_X6_clusters (σ : St) (x1 : Int32) : Option (Int32 × St) :=
  lt_ (f_X6_bagOf x1) fun o8 =>
  on_b o8 (
    some ((-1 : Int32), σ)) fun bb90 =>
  (f_X2_lay σ 0 bb90 (st_i σ 0)).bind fun s10 =>
  f_X6_clusters_n35 x1 fuel s10 (0 : Int32) (0 : Int32) (-1 : Int32) (0 : Int32)
set_option maxRecDepth 100000 in
set_option maxHeartbeats 4000000 in
theorem con_X6_clusters (l : Launch) (σ : St) (x1 : Int32) {r : Int32} {t' : St} (h : f_X6_clusters σ x1 = some (r, t')) : Con l yX6_clusters cX6_clusters 8 (some .int) Rm_X6_clusters wC (fun a => [.ref (a 0), .int x1]) σ (fun _ => some (.int r)) t' := by
  refine con_of (by decide) ⟨rfl, rfl⟩ (fun _ => Nat.le_of_ble_eq_true rfl) (fun Γ a hC => ?_)
  have hC : Cx Γ l cX6_clusters RX6 8 (some .int) Rm_X6_clusters wC a (some (.int r)) t' := hC
  show Γ σ 0 [(0, .ref (a 0)), (1, .int x1)] []
  unfold f_X6_clusters at h
  refine r_aload_n hC dX6_clusters_0 rfl 0 rfl ?_
  refine r_iload_n hC dX6_clusters_1 rfl 1 rfl ?_
  refine r_callV (As := [.int x1]) (rest := []) hC (con_X6_bagOf l σ x1) K6_75 (ob6 a σ) rfl rfl rfl rfl ⟨Nat.le_of_ble_eq_true rfl, Nat.le_of_ble_eq_true rfl⟩ (Nat.le_of_ble_eq_true rfl) dX6_clusters_2 ?_
  replace h := lt_of h
  obtain ⟨o8, eo8, h⟩ := h
  have ho8 : ∀ z, o8 = some z → z < 3 := fun z q => bagOf_lt (eo8.symm.trans q)
  refine r_astoreO_n (lv' := [(2, rb_ a o8), (0, .ref (a 0)), (1, .int x1)]) hC dX6_clusters_5 rfl (by decide) eo8 rfl ?_
  refine r_aloadO_n hC dX6_clusters_6 rfl 0 rfl ?_
  replace h := on_b_of h
  rcases h with ⟨rfl, h⟩ | ⟨bb90, rfl, h⟩
  · refine r_ifnonnullN hC dX6_clusters_7 ?_
    refine r_iconst (v := -1) hC dX6_clusters_10 (by decide) ?_
    exact r_iretS hC dX6_clusters_11 h
  · have hbb90 : bb90 < 3 := ho8 bb90 rfl
    refine r_ifnonnull hC 12 dX6_clusters_7 (by decide) ?_
    refine r_aload_n hC dX6_clusters_12 rfl 1 rfl ?_
    refine G6_36 hC dX6_clusters_13 ?_
    refine r_aload_n hC dX6_clusters_16 rfl 0 rfl ?_
    refine r_aload_n hC dX6_clusters_17 rfl 1 rfl ?_
    refine G6_7 hC dX6_clusters_18 ?_
    replace h := bind_of h
    obtain ⟨s10, hs10, h⟩ := h
    refine r_callV (As := [.ref (a (1 + bb90)), .int (st_i σ 0)]) (rest := []) hC (con_X2_lay l σ 0 bb90 (st_i σ 0) (by decide) hbb90 hs10) K6_98 (ob2 a σ 0 (by decide)) rfl rfl rfl rfl ⟨Nat.le_of_ble_eq_true rfl, Nat.le_of_ble_eq_true rfl⟩ (Nat.le_of_ble_eq_true rfl) dX6_clusters_21 ?_
    refine r_iconst (v := 0) hC dX6_clusters_24 (by decide) ?_
    refine r_istore_n (lv' := [(3, .int (0 : Int32)), (2, .ref (a (1 + bb90))), (0, .ref (a 0)), (1, .int x1)]) hC dX6_clusters_25 rfl (by decide) rfl rfl ?_
    refine r_iconst (v := 0) hC dX6_clusters_26 (by decide) ?_
    refine r_istore (lv' := [(4, .int (0 : Int32)), (3, .int (0 : Int32)), (2, .ref (a (1 + bb90))), (0, .ref (a 0)), (1, .int x1)]) hC dX6_clusters_27 (by decide) rfl rfl ?_
    refine r_iconst (v := -1) hC dX6_clusters_29 (by decide) ?_
    refine r_istore (lv' := [(5, .int (-1 : Int32)), (4, .int (0 : Int32)), (3, .int (0 : Int32)), (2, .ref (a (1 + bb90))), (0, .ref (a 0)), (1, .int x1)]) hC dX6_clusters_30 (by decide) rfl rfl ?_
    refine r_iconst (v := 0) hC dX6_clusters_32 (by decide) ?_
    refine r_istore (lv' := [(6, .int (0 : Int32)), (5, .int (-1 : Int32)), (4, .int (0 : Int32)), (3, .int (0 : Int32)), (2, .ref (a (1 + bb90))), (0, .ref (a 0)), (1, .int x1)]) hC dX6_clusters_33 (by decide) rfl rfl ?_
    refine r_sub hC [5, 3, 2, 1, 0] rfl ?_
    exact t_X6_clusters_n35 hC x1 fuel s10 (0 : Int32) (0 : Int32) (-1 : Int32) (0 : Int32) h
abbrev Rm_X6_isShared : Room := { frames := 3, cells := 0, slots := 0, locals := 65 }
def f_X6_isShared (σ : St) (x1 : Int32) : Option Int32 :=
  (f_X0_rankOf σ 0 x1).bind fun v1 =>
  (f_X0_at σ 0 x1).bind fun v2 =>
  (f_X0_timesOf σ 1 v2).bind fun v3 =>
  if v3 ≤ v1 then
    some (0 : Int32)
  else
  some (1 : Int32)
set_option maxRecDepth 100000 in
set_option maxHeartbeats 4000000 in
theorem con_X6_isShared (l : Launch) (σ : St) (x1 : Int32) {r : Int32} (h : f_X6_isShared σ x1 = some r) : Con l yX6_isShared cX6_isShared 2 (some .boolean) Rm_X6_isShared wC (fun a => [.ref (a 0), .int x1]) σ (fun _ => some (.int r)) σ := by
  refine con_of (by decide) ⟨rfl, rfl⟩ (fun _ => Nat.le_of_ble_eq_true rfl) (fun Γ a hC => ?_)
  have hC : Cx Γ l cX6_isShared RX6 2 (some .boolean) Rm_X6_isShared wC a (some (.int r)) σ := hC
  show Γ σ 0 [(0, .ref (a 0)), (1, .int x1)] []
  unfold f_X6_isShared at h
  refine r_aload_n hC dX6_isShared_0 rfl 0 rfl ?_
  refine G6_23 hC dX6_isShared_1 ?_
  refine r_iload_n hC dX6_isShared_4 rfl 1 rfl ?_
  obtain ⟨v1, hv1, h⟩ := bind_of h
  refine r_callV (As := [.int x1]) (rest := []) hC (con_X0_rankOf l σ 0 x1 (by decide) hv1) K6_268 (ob0 a σ 0 (by decide)) rfl rfl rfl rfl ⟨Nat.le_of_ble_eq_true rfl, Nat.le_of_ble_eq_true rfl⟩ (Nat.le_of_ble_eq_true rfl) dX6_isShared_5 ?_
  refine r_aload_n hC dX6_isShared_8 rfl 0 rfl ?_
  refine G6_27 hC dX6_isShared_9 ?_
  refine r_aload_n hC dX6_isShared_12 rfl 0 rfl ?_
  refine G6_23 hC dX6_isShared_13 ?_
  refine r_iload_n hC dX6_isShared_16 rfl 1 rfl ?_
  obtain ⟨v2, hv2, h⟩ := bind_of h
  refine r_callV (As := [.int x1]) (rest := [.ref (a 2), .int v1]) hC (con_X0_at l σ 0 x1 (by decide) hv2) K6_164 (ob0 a σ 0 (by decide)) rfl rfl rfl rfl ⟨Nat.le_of_ble_eq_true rfl, Nat.le_of_ble_eq_true rfl⟩ (Nat.le_of_ble_eq_true rfl) dX6_isShared_17 ?_
  obtain ⟨v3, hv3, h⟩ := bind_of h
  refine r_callV (As := [.int v2]) (rest := [.int v1]) hC (con_X0_timesOf l σ 1 v2 (by decide) hv3) K6_118 (ob0 a σ 1 (by decide)) rfl rfl rfl rfl ⟨Nat.le_of_ble_eq_true rfl, Nat.le_of_ble_eq_true rfl⟩ (Nat.le_of_ble_eq_true rfl) dX6_isShared_20 ?_
  refine r_icmp_ge hC 30 dX6_isShared_23 (by decide) (fun q => ?_) (fun q => ?_)
  · replace h := if_p q h
    refine r_iconst (v := 0) hC dX6_isShared_30 (by decide) ?_
    exact r_zretP hC rfl dX6_isShared_31 h
  · replace h := if_n q h
    refine r_iconst (v := 1) hC dX6_isShared_26 (by decide) ?_
    refine r_goto hC 31 dX6_isShared_27 (by decide) ?_
    exact r_zretP hC rfl dX6_isShared_31 h
abbrev Rm_X6_common : Room := { frames := 4, cells := 0, slots := 0, locals := 94 }
def f_X6_common_n91 (σ : St) (y1 : Int32) (w1 : Int64) (w2 : Int64) (w3 : Int64) : Option (Int32 × St) :=
  (f_X3_tell__ σ w1 w2 w3).bind fun s1 =>
  some (y1, s1)
set_option maxRecDepth 100000 in
set_option maxHeartbeats 4000000 in
theorem t_X6_common_n91 {Γ : St → Nat → List (Nat × Value) → List Value → Prop} {l : Launch} {a : Nat → Nat} {r : Int32} {t' : St} (hC : Cx Γ l cX6_common RX6 4 (some .int) Rm_X6_common wC a (some (.int r)) t') (σ : St) (y1 : Int32) (w1 : Int64) (w2 : Int64) (w3 : Int64) (h : f_X6_common_n91 σ y1 w1 w2 w3 = some (r, t')) : Γ σ 91 [(1, .int y1)] [.long w3, .long w2, .long w1, .ref (a 7)] := by
  unfold f_X6_common_n91 at h
  obtain ⟨s1, hs1, h⟩ := bind_of h
  refine r_callV (As := [.long w1, .long w2, .long w3]) (rest := []) hC (con_X3_tell__ l σ w1 w2 w3 hs1) K6_240 (ob3 a σ) rfl rfl rfl rfl ⟨Nat.le_of_ble_eq_true rfl, Nat.le_of_ble_eq_true rfl⟩ (Nat.le_of_ble_eq_true rfl) dX6_common_91 ?_
  refine r_iload_n hC dX6_common_94 rfl 0 rfl ?_
  exact r_iretS hC dX6_common_95 h
def f_X6_common_n75 (σ : St) (y1 : Int32) (w1 : Int64) (w2 : Int64) : Option (Int32 × St) :=
  if y1 = (st_i σ 5) then
    f_X6_common_n91 σ y1 w1 w2 (1 : Int64)
  else
  f_X6_common_n91 σ y1 w1 w2 (0 : Int64)
set_option maxRecDepth 100000 in
set_option maxHeartbeats 4000000 in
theorem t_X6_common_n75 {Γ : St → Nat → List (Nat × Value) → List Value → Prop} {l : Launch} {a : Nat → Nat} {r : Int32} {t' : St} (hC : Cx Γ l cX6_common RX6 4 (some .int) Rm_X6_common wC a (some (.int r)) t') (σ : St) (y1 : Int32) (w1 : Int64) (w2 : Int64) (h : f_X6_common_n75 σ y1 w1 w2 = some (r, t')) : Γ σ 75 [(0, .ref (a 0)), (1, .int y1)] [.long w2, .long w1, .ref (a 7)] := by
  unfold f_X6_common_n75 at h
  refine r_iload_n hC dX6_common_75 rfl 1 rfl ?_
  refine r_aload_n hC dX6_common_76 rfl 0 rfl ?_
  refine G6_27 hC dX6_common_77 ?_
  refine G6_105 hC 1 (by decide) dX6_common_80 ?_
  refine r_icmp_ne hC 90 dX6_common_83 (by decide) (fun q => ?_) (fun q => ?_)
  · replace h := if_n q h
    refine r_lconst (v := 0) hC dX6_common_90 (by decide) ?_
    refine r_sub hC [1] rfl ?_
    exact t_X6_common_n91 hC σ y1 w1 w2 (0 : Int64) h
  · replace h := if_p q h
    refine r_lconst (v := 1) hC dX6_common_86 (by decide) ?_
    refine r_goto hC 91 dX6_common_87 (by decide) ?_
    refine r_sub hC [1] rfl ?_
    exact t_X6_common_n91 hC σ y1 w1 w2 (1 : Int64) h
def f_X6_common_n6_b (self : St → Int32 → Int32 → Int32 → Option (Int32 × St)) (σ : St) (y1 : Int32) (y2 : Int32) (y3 : Int32) : Option (Int32 × St) :=
  if (st_i σ 3) ≤ y3 then
    if y1 = (st_i σ 3) then
      f_X6_common_n75 σ y1 (y2.toInt64) (1 : Int64)
    else
    f_X6_common_n75 σ y1 (y2.toInt64) (0 : Int64)
  else
  (f_X6_isShared σ y3).bind fun v2 =>
  if v2 = 0 then
    lt_ (y3 + (1 : Int32)) fun v3 =>
    self σ y1 y2 v3
  else
  lt_ (y1 + (1 : Int32)) fun v4 =>
  (f_X0_rankOf σ 0 y3).bind fun v5 =>
  if v5 = 0 then
    lt_ (y2 + (1 : Int32)) fun v8 =>
    lt_ (y3 + (1 : Int32)) fun v9 =>
    self σ v4 v8 v9
  else
  lt_ (y2 + (0 : Int32)) fun v6 =>
  lt_ (y3 + (1 : Int32)) fun v7 =>
  self σ v4 v6 v7
def f_X6_common_n6 : Nat → St → Int32 → Int32 → Int32 → Option (Int32 × St)
  | 0 => fun _ _ _ _ => none
  | n + 1 => fun σ y1 y2 y3 => f_X6_common_n6_b   (f_X6_common_n6   n) σ y1 y2 y3
set_option maxRecDepth 100000 in
set_option maxHeartbeats 4000000 in
theorem t_X6_common_n6_b {Γ : St → Nat → List (Nat × Value) → List Value → Prop} {l : Launch} {a : Nat → Nat} {r : Int32} {t' : St} (hC : Cx Γ l cX6_common RX6 4 (some .int) Rm_X6_common wC a (some (.int r)) t') (self : St → Int32 → Int32 → Int32 → Option (Int32 × St)) (hself : ∀ (σ : St) (y1 : Int32) (y2 : Int32) (y3 : Int32), self σ y1 y2 y3 = some (r, t') → Γ σ 6 [(0, .ref (a 0)), (1, .int y1), (2, .int y2), (3, .int y3)] []) (σ : St) (y1 : Int32) (y2 : Int32) (y3 : Int32) (h : f_X6_common_n6_b self σ y1 y2 y3 = some (r, t')) : Γ σ 6 [(0, .ref (a 0)), (1, .int y1), (2, .int y2), (3, .int y3)] [] := by
  unfold f_X6_common_n6_b at h
  refine r_iload_n hC dX6_common_6 rfl 3 rfl ?_
  refine r_aload_n hC dX6_common_7 rfl 0 rfl ?_
  refine G6_23 hC dX6_common_8 ?_
  refine G6_105 hC 0 (by decide) dX6_common_11 ?_
  refine r_icmp_ge hC 53 dX6_common_14 (by decide) (fun q => ?_) (fun q => ?_)
  · replace h := if_p q h
    refine r_aload_n hC dX6_common_53 rfl 0 rfl ?_
    refine G6_53 hC dX6_common_54 ?_
    refine r_iload_n hC dX6_common_57 rfl 2 rfl ?_
    refine r_i2l hC dX6_common_58 ?_
    refine r_iload_n hC dX6_common_59 rfl 1 rfl ?_
    refine r_aload_n hC dX6_common_60 rfl 0 rfl ?_
    refine G6_23 hC dX6_common_61 ?_
    refine G6_105 hC 0 (by decide) dX6_common_64 ?_
    refine r_icmp_ne hC 74 dX6_common_67 (by decide) (fun q => ?_) (fun q => ?_)
    · replace h := if_n q h
      refine r_lconst (v := 0) hC dX6_common_74 (by decide) ?_
      refine r_sub hC [0, 1] rfl ?_
      exact t_X6_common_n75 hC σ y1 (y2.toInt64) (0 : Int64) h
    · replace h := if_p q h
      refine r_lconst (v := 1) hC dX6_common_70 (by decide) ?_
      refine r_goto hC 75 dX6_common_71 (by decide) ?_
      refine r_sub hC [0, 1] rfl ?_
      exact t_X6_common_n75 hC σ y1 (y2.toInt64) (1 : Int64) h
  · replace h := if_n q h
    refine r_aload_n hC dX6_common_17 rfl 0 rfl ?_
    refine r_iload_n hC dX6_common_18 rfl 3 rfl ?_
    obtain ⟨v2, hv2, h⟩ := bind_of h
    refine r_callV (As := [.int y3]) (rest := []) hC (con_X6_isShared l σ y3 hv2) K6_265 (ob6 a σ) rfl rfl rfl rfl ⟨Nat.le_of_ble_eq_true rfl, Nat.le_of_ble_eq_true rfl⟩ (Nat.le_of_ble_eq_true rfl) dX6_common_19 ?_
    refine r_if_eq hC 47 dX6_common_22 (by decide) (fun q => ?_) (fun q => ?_)
    · replace h := if_p q h
      obtain ⟨v3, ev3, h⟩ := lt_of h
      refine r_iinc (c1 := 1) (lv' := [(3, .int v3), (0, .ref (a 0)), (1, .int y1), (2, .int y2)]) hC dX6_common_47 3 rfl (by decide) (by decide) ev3 rfl ?_
      refine r_goto hC 6 dX6_common_50 (by decide) ?_
      refine r_sub hC [1, 2, 3, 0] rfl ?_
      exact hself σ y1 y2 v3 h
    · replace h := if_n q h
      obtain ⟨v4, ev4, h⟩ := lt_of h
      refine r_iinc (c1 := 1) (lv' := [(1, .int v4), (0, .ref (a 0)), (2, .int y2), (3, .int y3)]) hC dX6_common_25 1 rfl (by decide) (by decide) ev4 rfl ?_
      refine r_iload_n hC dX6_common_28 rfl 2 rfl ?_
      refine r_aload_n hC dX6_common_29 rfl 1 rfl ?_
      refine G6_23 hC dX6_common_30 ?_
      refine r_iload_n hC dX6_common_33 rfl 3 rfl ?_
      obtain ⟨v5, hv5, h⟩ := bind_of h
      refine r_callV (As := [.int y3]) (rest := [.int y2]) hC (con_X0_rankOf l σ 0 y3 (by decide) hv5) K6_268 (ob0 a σ 0 (by decide)) rfl rfl rfl rfl ⟨Nat.le_of_ble_eq_true rfl, Nat.le_of_ble_eq_true rfl⟩ (Nat.le_of_ble_eq_true rfl) dX6_common_34 ?_
      refine r_if_ne hC 44 dX6_common_37 (by decide) (fun q => ?_) (fun q => ?_)
      · replace h := if_n q h
        refine r_iconst (v := 0) hC dX6_common_44 (by decide) ?_
        refine r_iadd hC dX6_common_45 ?_
        obtain ⟨v6, ev6, h⟩ := lt_of h
        refine r_istore_n (lv' := [(2, .int v6), (1, .int v4), (0, .ref (a 0)), (3, .int y3)]) hC dX6_common_46 rfl (by decide) ev6 rfl ?_
        obtain ⟨v7, ev7, h⟩ := lt_of h
        refine r_iinc (c1 := 1) (lv' := [(3, .int v7), (2, .int v6), (1, .int v4), (0, .ref (a 0))]) hC dX6_common_47 3 rfl (by decide) (by decide) ev7 rfl ?_
        refine r_goto hC 6 dX6_common_50 (by decide) ?_
        refine r_sub hC [3, 2, 1, 0] rfl ?_
        exact hself σ v4 v6 v7 h
      · replace h := if_p q h
        refine r_iconst (v := 1) hC dX6_common_40 (by decide) ?_
        refine r_goto hC 45 dX6_common_41 (by decide) ?_
        refine r_iadd hC dX6_common_45 ?_
        obtain ⟨v8, ev8, h⟩ := lt_of h
        refine r_istore_n (lv' := [(2, .int v8), (1, .int v4), (0, .ref (a 0)), (3, .int y3)]) hC dX6_common_46 rfl (by decide) ev8 rfl ?_
        obtain ⟨v9, ev9, h⟩ := lt_of h
        refine r_iinc (c1 := 1) (lv' := [(3, .int v9), (2, .int v8), (1, .int v4), (0, .ref (a 0))]) hC dX6_common_47 3 rfl (by decide) (by decide) ev9 rfl ?_
        refine r_goto hC 6 dX6_common_50 (by decide) ?_
        refine r_sub hC [3, 2, 1, 0] rfl ?_
        exact hself σ v4 v8 v9 h
set_option maxRecDepth 100000 in
set_option maxHeartbeats 4000000 in
theorem t_X6_common_n6 {Γ : St → Nat → List (Nat × Value) → List Value → Prop} {l : Launch} {a : Nat → Nat} {r : Int32} {t' : St} (hC : Cx Γ l cX6_common RX6 4 (some .int) Rm_X6_common wC a (some (.int r)) t') (n : Nat) : ∀ (σ : St) (y1 : Int32) (y2 : Int32) (y3 : Int32), f_X6_common_n6 n σ y1 y2 y3 = some (r, t') → Γ σ 6 [(0, .ref (a 0)), (1, .int y1), (2, .int y2), (3, .int y3)] [] := by
  induction n with
  | zero =>
    intro σ y1 y2 y3  h
    have h : (none : Option (Int32 × St)) = some (r, t') := h
    cases h
  | succ n ih =>
    intro σ y1 y2 y3  h
    exact t_X6_common_n6_b hC     (f_X6_common_n6   n) ih σ y1 y2 y3  h
def f_X6_common (σ : St) : Option (Int32 × St) :=
  f_X6_common_n6 fuel σ (0 : Int32) (0 : Int32) (0 : Int32)
set_option maxRecDepth 100000 in
set_option maxHeartbeats 4000000 in
theorem con_X6_common (l : Launch) (σ : St) {r : Int32} {t' : St} (h : f_X6_common σ = some (r, t')) : Con l yX6_common cX6_common 4 (some .int) Rm_X6_common wC (fun a => [.ref (a 0)]) σ (fun _ => some (.int r)) t' := by
  refine con_of (by decide) ⟨rfl, rfl⟩ (fun _ => Nat.le_of_ble_eq_true rfl) (fun Γ a hC => ?_)
  have hC : Cx Γ l cX6_common RX6 4 (some .int) Rm_X6_common wC a (some (.int r)) t' := hC
  show Γ σ 0 [(0, .ref (a 0))] []
  unfold f_X6_common at h
  refine r_iconst (v := 0) hC dX6_common_0 (by decide) ?_
  refine r_istore_n (lv' := [(1, .int (0 : Int32)), (0, .ref (a 0))]) hC dX6_common_1 rfl (by decide) rfl rfl ?_
  refine r_iconst (v := 0) hC dX6_common_2 (by decide) ?_
  refine r_istore_n (lv' := [(2, .int (0 : Int32)), (1, .int (0 : Int32)), (0, .ref (a 0))]) hC dX6_common_3 rfl (by decide) rfl rfl ?_
  refine r_iconst (v := 0) hC dX6_common_4 (by decide) ?_
  refine r_istore_n (lv' := [(3, .int (0 : Int32)), (2, .int (0 : Int32)), (1, .int (0 : Int32)), (0, .ref (a 0))]) hC dX6_common_5 rfl (by decide) rfl rfl ?_
  refine r_sub hC [3, 2, 1, 0] rfl ?_
  exact t_X6_common_n6 hC fuel σ (0 : Int32) (0 : Int32) (0 : Int32) h
abbrev Rm_X6_countMarked : Room := { frames := 3, cells := 0, slots := 0, locals := 72 }
def f_X6_countMarked_n17_b (b1 : Nat) (x2 : Int32) (self : St → Int32 → Int32 → Option (Int32 × St)) (σ : St) (y3 : Int32) (y4 : Int32) : Option (Int32 × St) :=
  if (st_i σ 10) ≤ y4 then
    some (y3, σ)
  else
  (f_X2_isMarked σ 0 y4 x2).bind fun v1 =>
  if v1 = 0 then
    lt_ (y4 + (1 : Int32)) fun v2 =>
    self σ y3 v2
  else
  lt_ (y3 + (1 : Int32)) fun v3 =>
  lt_ (y4 + (1 : Int32)) fun v4 =>
  self σ v3 v4
def f_X6_countMarked_n17 (b1 : Nat) (x2 : Int32) : Nat → St → Int32 → Int32 → Option (Int32 × St)
  | 0 => fun _ _ _ => none
  | n + 1 => fun σ y3 y4 => f_X6_countMarked_n17_b b1 x2  (f_X6_countMarked_n17 b1 x2  n) σ y3 y4
set_option maxRecDepth 100000 in
set_option maxHeartbeats 4000000 in
theorem t_X6_countMarked_n17_b {Γ : St → Nat → List (Nat × Value) → List Value → Prop} {l : Launch} {a : Nat → Nat} {r : Int32} {t' : St} (hC : Cx Γ l cX6_countMarked RX6 5 (some .int) Rm_X6_countMarked wC a (some (.int r)) t') (b1 : Nat) (x2 : Int32) (hb1 : b1 < 3) (self : St → Int32 → Int32 → Option (Int32 × St)) (hself : ∀ (σ : St) (y3 : Int32) (y4 : Int32), self σ y3 y4 = some (r, t') → Γ σ 17 [(0, .ref (a 0)), (2, .int x2), (3, .int y3), (4, .int y4)] []) (σ : St) (y3 : Int32) (y4 : Int32) (h : f_X6_countMarked_n17_b b1 x2 self σ y3 y4 = some (r, t')) : Γ σ 17 [(0, .ref (a 0)), (2, .int x2), (3, .int y3), (4, .int y4)] [] := by
  unfold f_X6_countMarked_n17_b at h
  refine r_iload hC dX6_countMarked_17 3 rfl ?_
  refine r_aload_n hC dX6_countMarked_19 rfl 0 rfl ?_
  refine G6_36 hC dX6_countMarked_20 ?_
  refine G6_211 hC 0 (by decide) dX6_countMarked_23 ?_
  refine r_icmp_ge hC 51 dX6_countMarked_26 (by decide) (fun q => ?_) (fun q => ?_)
  · replace h := if_p q h
    refine r_iload_n hC dX6_countMarked_51 rfl 2 rfl ?_
    exact r_iretS hC dX6_countMarked_52 h
  · replace h := if_n q h
    refine r_aload_n hC dX6_countMarked_29 rfl 0 rfl ?_
    refine G6_36 hC dX6_countMarked_30 ?_
    refine r_iload hC dX6_countMarked_33 3 rfl ?_
    refine r_iload_n hC dX6_countMarked_35 rfl 1 rfl ?_
    obtain ⟨v1, hv1, h⟩ := bind_of h
    refine r_callV (As := [.int y4, .int x2]) (rest := []) hC (con_X2_isMarked l σ 0 y4 x2 (by decide) hv1) K6_157 (ob2 a σ 0 (by decide)) rfl rfl rfl rfl ⟨Nat.le_of_ble_eq_true rfl, Nat.le_of_ble_eq_true rfl⟩ (Nat.le_of_ble_eq_true rfl) dX6_countMarked_36 ?_
    refine r_if_eq hC 45 dX6_countMarked_39 (by decide) (fun q => ?_) (fun q => ?_)
    · replace h := if_p q h
      obtain ⟨v2, ev2, h⟩ := lt_of h
      refine r_iinc (c1 := 1) (lv' := [(4, .int v2), (0, .ref (a 0)), (2, .int x2), (3, .int y3)]) hC dX6_countMarked_45 3 rfl (by decide) (by decide) ev2 rfl ?_
      refine r_goto hC 17 dX6_countMarked_48 (by decide) ?_
      refine r_sub hC [1, 2, 3, 0] rfl ?_
      exact hself σ y3 v2 h
    · replace h := if_n q h
      obtain ⟨v3, ev3, h⟩ := lt_of h
      refine r_iinc (c1 := 1) (lv' := [(3, .int v3), (0, .ref (a 0)), (2, .int x2), (4, .int y4)]) hC dX6_countMarked_42 2 rfl (by decide) (by decide) ev3 rfl ?_
      obtain ⟨v4, ev4, h⟩ := lt_of h
      refine r_iinc (c1 := 1) (lv' := [(4, .int v4), (3, .int v3), (0, .ref (a 0)), (2, .int x2)]) hC dX6_countMarked_45 3 rfl (by decide) (by decide) ev4 rfl ?_
      refine r_goto hC 17 dX6_countMarked_48 (by decide) ?_
      refine r_sub hC [2, 3, 1, 0] rfl ?_
      exact hself σ v3 v4 h
set_option maxRecDepth 100000 in
set_option maxHeartbeats 4000000 in
theorem t_X6_countMarked_n17 {Γ : St → Nat → List (Nat × Value) → List Value → Prop} {l : Launch} {a : Nat → Nat} {r : Int32} {t' : St} (hC : Cx Γ l cX6_countMarked RX6 5 (some .int) Rm_X6_countMarked wC a (some (.int r)) t') (b1 : Nat) (x2 : Int32) (hb1 : b1 < 3) (n : Nat) : ∀ (σ : St) (y3 : Int32) (y4 : Int32), f_X6_countMarked_n17 b1 x2 n σ y3 y4 = some (r, t') → Γ σ 17 [(0, .ref (a 0)), (2, .int x2), (3, .int y3), (4, .int y4)] [] := by
  induction n with
  | zero =>
    intro σ y3 y4  h
    have h : (none : Option (Int32 × St)) = some (r, t') := h
    cases h
  | succ n ih =>
    intro σ y3 y4  h
    exact t_X6_countMarked_n17_b hC b1 x2 hb1   (f_X6_countMarked_n17 b1 x2  n) ih σ y3 y4  h
def f_X6_countMarked (σ : St) (b1 : Nat) (x2 : Int32) : Option (Int32 × St) :=
  (f_X2_lay σ 0 b1 (st_i σ 0)).bind fun s5 =>
  f_X6_countMarked_n17 b1 x2 fuel s5 (0 : Int32) (0 : Int32)
set_option maxRecDepth 100000 in
set_option maxHeartbeats 4000000 in
theorem con_X6_countMarked (l : Launch) (σ : St) (b1 : Nat) (x2 : Int32) (hb1 : b1 < 3) {r : Int32} {t' : St} (h : f_X6_countMarked σ b1 x2 = some (r, t')) : Con l yX6_countMarked cX6_countMarked 5 (some .int) Rm_X6_countMarked wC (fun a => [.ref (a 0), .ref (a (1 + b1)), .int x2]) σ (fun _ => some (.int r)) t' := by
  refine con_of (by decide) ⟨rfl, rfl⟩ (fun _ => Nat.le_of_ble_eq_true rfl) (fun Γ a hC => ?_)
  have hC : Cx Γ l cX6_countMarked RX6 5 (some .int) Rm_X6_countMarked wC a (some (.int r)) t' := hC
  show Γ σ 0 [(0, .ref (a 0)), (1, .ref (a (1 + b1))), (2, .int x2)] []
  unfold f_X6_countMarked at h
  refine r_aload_n hC dX6_countMarked_0 rfl 0 rfl ?_
  refine G6_36 hC dX6_countMarked_1 ?_
  refine r_aload_n hC dX6_countMarked_4 rfl 1 rfl ?_
  refine r_aload_n hC dX6_countMarked_5 rfl 0 rfl ?_
  refine G6_7 hC dX6_countMarked_6 ?_
  obtain ⟨s5, hs5, h⟩ := bind_of h
  refine r_callV (As := [.ref (a (1 + b1)), .int (st_i σ 0)]) (rest := []) hC (con_X2_lay l σ 0 b1 (st_i σ 0) (by decide) hb1 hs5) K6_98 (ob2 a σ 0 (by decide)) rfl rfl rfl rfl ⟨Nat.le_of_ble_eq_true rfl, Nat.le_of_ble_eq_true rfl⟩ (Nat.le_of_ble_eq_true rfl) dX6_countMarked_9 ?_
  refine r_iconst (v := 0) hC dX6_countMarked_12 (by decide) ?_
  refine r_istore_n (lv' := [(3, .int (0 : Int32)), (0, .ref (a 0)), (1, .ref (a (1 + b1))), (2, .int x2)]) hC dX6_countMarked_13 rfl (by decide) rfl rfl ?_
  refine r_iconst (v := 0) hC dX6_countMarked_14 (by decide) ?_
  refine r_istore (lv' := [(4, .int (0 : Int32)), (3, .int (0 : Int32)), (0, .ref (a 0)), (1, .ref (a (1 + b1))), (2, .int x2)]) hC dX6_countMarked_15 (by decide) rfl rfl ?_
  refine r_sub hC [2, 4, 1, 0] rfl ?_
  exact t_X6_countMarked_n17 hC b1 x2 hb1 fuel s5 (0 : Int32) (0 : Int32) h
abbrev Rm_X6_countOf : Room := { frames := 4, cells := 0, slots := 0, locals := 96 }
def f_X6_countOf (σ : St) (b1 : Nat) (x2 : Int32) : Option (Int32 × St) :=
  if x2 = 0 then
    some ((st_i σ (3 + 2 * b1)), σ)
  else
  if x2 = 1 then
    some ((f_X0_slotCount σ b1), σ)
  else
  if x2 = 2 then
    some ((st_i σ (4 + 2 * b1)), σ)
  else
  if x2 = 3 then
    bind2 (f_X6_countMarked σ b1 (1 : Int32)) fun v2 s1 =>
    some (v2, s1)
  else
  if x2 = 4 then
    bind2 (f_X6_countMarked σ b1 (2 : Int32)) fun v4 s3 =>
    some (v4, s3)
  else
  if x2 = 5 then
    bind2 (f_X6_countMarked σ b1 (4 : Int32)) fun v6 s5 =>
    some (v6, s5)
  else
  some ((-1 : Int32), σ)
set_option maxRecDepth 100000 in
set_option maxHeartbeats 4000000 in
theorem con_X6_countOf (l : Launch) (σ : St) (b1 : Nat) (x2 : Int32) (hb1 : b1 < 3) {r : Int32} {t' : St} (h : f_X6_countOf σ b1 x2 = some (r, t')) : Con l yX6_countOf cX6_countOf 3 (some .int) Rm_X6_countOf wC (fun a => [.ref (a 0), .ref (a (1 + b1)), .int x2]) σ (fun _ => some (.int r)) t' := by
  refine con_of (by decide) ⟨rfl, rfl⟩ (fun _ => Nat.le_of_ble_eq_true rfl) (fun Γ a hC => ?_)
  have hC : Cx Γ l cX6_countOf RX6 3 (some .int) Rm_X6_countOf wC a (some (.int r)) t' := hC
  show Γ σ 0 [(0, .ref (a 0)), (1, .ref (a (1 + b1))), (2, .int x2)] []
  unfold f_X6_countOf at h
  refine r_iload_n hC dX6_countOf_0 rfl 2 rfl ?_
  by_cases q0 : x2 = 0
  · replace h := if_p q0 h
    subst q0
    refine r_swIn hC 40 dX6_countOf_1 (by decide) (by decide) rfl (by decide) ?_
    refine r_aload_n hC dX6_countOf_40 rfl 1 rfl ?_
    refine G6_105 hC b1 hb1 dX6_countOf_41 ?_
    exact r_iretS hC dX6_countOf_44 h
  · replace h := if_n q0 h
    by_cases q1 : x2 = 1
    · replace h := if_p q1 h
      subst q1
      refine r_swIn hC 45 dX6_countOf_1 (by decide) (by decide) rfl (by decide) ?_
      refine r_aload_n hC dX6_countOf_45 rfl 1 rfl ?_
      refine r_callV (As := []) (rest := []) hC (con_X0_slotCount l σ b1 hb1 rfl) K6_108 (ob0 a σ b1 hb1) rfl rfl rfl rfl ⟨Nat.le_of_ble_eq_true rfl, Nat.le_of_ble_eq_true rfl⟩ (Nat.le_of_ble_eq_true rfl) dX6_countOf_46 ?_
      exact r_iretS hC dX6_countOf_49 h
    · replace h := if_n q1 h
      by_cases q2 : x2 = 2
      · replace h := if_p q2 h
        subst q2
        refine r_swIn hC 50 dX6_countOf_1 (by decide) (by decide) rfl (by decide) ?_
        refine r_aload_n hC dX6_countOf_50 rfl 1 rfl ?_
        refine G6_87 hC b1 hb1 dX6_countOf_51 ?_
        exact r_iretS hC dX6_countOf_54 h
      · replace h := if_n q2 h
        by_cases q3 : x2 = 3
        · replace h := if_p q3 h
          subst q3
          refine r_swIn hC 55 dX6_countOf_1 (by decide) (by decide) rfl (by decide) ?_
          refine r_aload_n hC dX6_countOf_55 rfl 0 rfl ?_
          refine r_aload_n hC dX6_countOf_56 rfl 1 rfl ?_
          refine r_iconst (v := 1) hC dX6_countOf_57 (by decide) ?_
          obtain ⟨v2, s1, hs1, h⟩ := bind2_of h
          refine r_callV (As := [.ref (a (1 + b1)), .int (1 : Int32)]) (rest := []) hC (con_X6_countMarked l σ b1 (1 : Int32) hb1 hs1) K6_304 (ob6 a σ) rfl rfl rfl rfl ⟨Nat.le_of_ble_eq_true rfl, Nat.le_of_ble_eq_true rfl⟩ (Nat.le_of_ble_eq_true rfl) dX6_countOf_58 ?_
          exact r_iretS hC dX6_countOf_61 h
        · replace h := if_n q3 h
          by_cases q4 : x2 = 4
          · replace h := if_p q4 h
            subst q4
            refine r_swIn hC 62 dX6_countOf_1 (by decide) (by decide) rfl (by decide) ?_
            refine r_aload_n hC dX6_countOf_62 rfl 0 rfl ?_
            refine r_aload_n hC dX6_countOf_63 rfl 1 rfl ?_
            refine r_iconst (v := 2) hC dX6_countOf_64 (by decide) ?_
            obtain ⟨v4, s3, hs3, h⟩ := bind2_of h
            refine r_callV (As := [.ref (a (1 + b1)), .int (2 : Int32)]) (rest := []) hC (con_X6_countMarked l σ b1 (2 : Int32) hb1 hs3) K6_304 (ob6 a σ) rfl rfl rfl rfl ⟨Nat.le_of_ble_eq_true rfl, Nat.le_of_ble_eq_true rfl⟩ (Nat.le_of_ble_eq_true rfl) dX6_countOf_65 ?_
            exact r_iretS hC dX6_countOf_68 h
          · replace h := if_n q4 h
            by_cases q5 : x2 = 5
            · replace h := if_p q5 h
              subst q5
              refine r_swIn hC 69 dX6_countOf_1 (by decide) (by decide) rfl (by decide) ?_
              refine r_aload_n hC dX6_countOf_69 rfl 0 rfl ?_
              refine r_aload_n hC dX6_countOf_70 rfl 1 rfl ?_
              refine r_iconst (v := 4) hC dX6_countOf_71 (by decide) ?_
              obtain ⟨v6, s5, hs5, h⟩ := bind2_of h
              refine r_callV (As := [.ref (a (1 + b1)), .int (4 : Int32)]) (rest := []) hC (con_X6_countMarked l σ b1 (4 : Int32) hb1 hs5) K6_304 (ob6 a σ) rfl rfl rfl rfl ⟨Nat.le_of_ble_eq_true rfl, Nat.le_of_ble_eq_true rfl⟩ (Nat.le_of_ble_eq_true rfl) dX6_countOf_72 ?_
              exact r_iretS hC dX6_countOf_75 h
            · replace h := if_n q5 h
              have z0 := lv_neT q0 (a := 0) rfl
              have z1 := lv_neT q1 (a := 1) rfl
              have z2 := lv_neT q2 (a := 2) rfl
              have z3 := lv_neT q3 (a := 3) rfl
              have z4 := lv_neT q4 (a := 4) rfl
              have z5 := lv_neT q5 (a := 5) rfl
              refine r_swOut hC 76 dX6_countOf_1 (by omega) (by decide) ?_
              refine r_iconst (v := -1) hC dX6_countOf_76 (by decide) ?_
              exact r_iretS hC dX6_countOf_77 h
abbrev Rm_X6_count : Room := { frames := 5, cells := 0, slots := 0, locals := 118 }
def f_X6_count (σ : St) (x1 : Int32) (x2 : Int32) : Option (Int32 × St) :=
  if x2 = 6 then
    some ((st_i σ 0), σ)
  else
  if x2 = 7 then
    some ((st_i σ 1), σ)
  else
  if x2 = 8 then
    some ((st_i σ 2), σ)
  else
  if x2 = 9 then
    some ((st_i σ 16), σ)
  else
  if x2 = 10 then
    some ((st_i σ 17), σ)
  else
  lt_ (f_X6_bagOf x1) fun o1 =>
  on_b o1 (
    some ((-1 : Int32), σ)) fun bb20 =>
  bind2 (f_X6_countOf σ bb20 x2) fun v4 s3 =>
  some (v4, s3)
set_option maxRecDepth 100000 in
set_option maxHeartbeats 4000000 in
theorem con_X6_count (l : Launch) (σ : St) (x1 : Int32) (x2 : Int32) {r : Int32} {t' : St} (h : f_X6_count σ x1 x2 = some (r, t')) : Con l yX6_count cX6_count 4 (some .int) Rm_X6_count wC (fun a => [.ref (a 0), .int x1, .int x2]) σ (fun _ => some (.int r)) t' := by
  refine con_of (by decide) ⟨rfl, rfl⟩ (fun _ => Nat.le_of_ble_eq_true rfl) (fun Γ a hC => ?_)
  have hC : Cx Γ l cX6_count RX6 4 (some .int) Rm_X6_count wC a (some (.int r)) t' := hC
  show Γ σ 0 [(0, .ref (a 0)), (1, .int x1), (2, .int x2)] []
  unfold f_X6_count at h
  refine r_iload_n hC dX6_count_0 rfl 2 rfl ?_
  by_cases q6 : x2 = 6
  · replace h := if_p q6 h
    subst q6
    refine r_swIn hC 36 dX6_count_1 (by decide) (by decide) rfl (by decide) ?_
    refine r_aload_n hC dX6_count_36 rfl 0 rfl ?_
    refine G6_7 hC dX6_count_37 ?_
    exact r_iretS hC dX6_count_40 h
  · replace h := if_n q6 h
    by_cases q7 : x2 = 7
    · replace h := if_p q7 h
      subst q7
      refine r_swIn hC 41 dX6_count_1 (by decide) (by decide) rfl (by decide) ?_
      refine r_aload_n hC dX6_count_41 rfl 0 rfl ?_
      refine G6_14 hC dX6_count_42 ?_
      exact r_iretS hC dX6_count_45 h
    · replace h := if_n q7 h
      by_cases q8 : x2 = 8
      · replace h := if_p q8 h
        subst q8
        refine r_swIn hC 46 dX6_count_1 (by decide) (by decide) rfl (by decide) ?_
        refine r_aload_n hC dX6_count_46 rfl 0 rfl ?_
        refine G6_17 hC dX6_count_47 ?_
        exact r_iretS hC dX6_count_50 h
      · replace h := if_n q8 h
        by_cases q9 : x2 = 9
        · replace h := if_p q9 h
          subst q9
          refine r_swIn hC 51 dX6_count_1 (by decide) (by decide) rfl (by decide) ?_
          refine r_aload_n hC dX6_count_51 rfl 0 rfl ?_
          refine G6_53 hC dX6_count_52 ?_
          refine G6_278 hC dX6_count_55 ?_
          exact r_iretS hC dX6_count_58 h
        · replace h := if_n q9 h
          by_cases q10 : x2 = 10
          · replace h := if_p q10 h
            subst q10
            refine r_swIn hC 59 dX6_count_1 (by decide) (by decide) rfl (by decide) ?_
            refine r_aload_n hC dX6_count_59 rfl 0 rfl ?_
            refine G6_60 hC dX6_count_60 ?_
            refine G6_279 hC dX6_count_63 ?_
            exact r_iretS hC dX6_count_66 h
          · replace h := if_n q10 h
            have z6 := lv_neT q6 (a := 6) rfl
            have z7 := lv_neT q7 (a := 7) rfl
            have z8 := lv_neT q8 (a := 8) rfl
            have z9 := lv_neT q9 (a := 9) rfl
            have z10 := lv_neT q10 (a := 10) rfl
            refine r_swOut hC 67 dX6_count_1 (by omega) (by decide) ?_
            refine r_aload_n hC dX6_count_67 rfl 0 rfl ?_
            refine r_iload_n hC dX6_count_68 rfl 1 rfl ?_
            refine r_callV (As := [.int x1]) (rest := []) hC (con_X6_bagOf l σ x1) K6_75 (ob6 a σ) rfl rfl rfl rfl ⟨Nat.le_of_ble_eq_true rfl, Nat.le_of_ble_eq_true rfl⟩ (Nat.le_of_ble_eq_true rfl) dX6_count_69 ?_
            replace h := lt_of h
            obtain ⟨o1, eo1, h⟩ := h
            have ho1 : ∀ z, o1 = some z → z < 3 := fun z q => bagOf_lt (eo1.symm.trans q)
            refine r_astoreO_n (lv' := [(3, rb_ a o1), (0, .ref (a 0)), (1, .int x1), (2, .int x2)]) hC dX6_count_72 rfl (by decide) eo1 rfl ?_
            refine r_aloadO_n hC dX6_count_73 rfl 0 rfl ?_
            replace h := on_b_of h
            rcases h with ⟨rfl, h⟩ | ⟨bb20, rfl, h⟩
            · refine r_ifnonnullN hC dX6_count_74 ?_
              refine r_iconst (v := -1) hC dX6_count_77 (by decide) ?_
              refine r_goto hC 87 dX6_count_78 (by decide) ?_
              exact r_iretS hC dX6_count_87 h
            · have hbb20 : bb20 < 3 := ho1 bb20 rfl
              refine r_ifnonnull hC 81 dX6_count_74 (by decide) ?_
              refine r_aload_n hC dX6_count_81 rfl 1 rfl ?_
              refine r_aload_n hC dX6_count_82 rfl 0 rfl ?_
              refine r_iload_n hC dX6_count_83 rfl 3 rfl ?_
              replace h := bind2_of h
              obtain ⟨v4, s3, hs3, h⟩ := h
              refine r_callV (As := [.ref (a (1 + bb20)), .int x2]) (rest := []) hC (con_X6_countOf l σ bb20 x2 hbb20 hs3) K6_280 (ob6 a σ) rfl rfl rfl rfl ⟨Nat.le_of_ble_eq_true rfl, Nat.le_of_ble_eq_true rfl⟩ (Nat.le_of_ble_eq_true rfl) dX6_count_84 ?_
              exact r_iretS hC dX6_count_87 h
abbrev Rm_X6_mustDouble : Room := { frames := 2, cells := 0, slots := 0, locals := 41 }
def f_X6_mustDouble (σ : St) (b1 : Nat) : Int32 :=
  if ((100 : Int32) * ((st_i σ (3 + 2 * b1)) + (1 : Int32))) ≤ ((st_i σ 2) * (f_X0_slotCount σ b1)) then
    (0 : Int32)
  else
  if (f_X6_greatestQ σ) ≤ (st_i σ (4 + 2 * b1)) then
    (0 : Int32)
  else
  (1 : Int32)
set_option maxRecDepth 100000 in
set_option maxHeartbeats 4000000 in
theorem con_X6_mustDouble (l : Launch) (σ : St) (b1 : Nat) (hb1 : b1 < 3) {r : Int32} (h : f_X6_mustDouble σ b1 = r) : Con l yX6_mustDouble cX6_mustDouble 2 (some .boolean) Rm_X6_mustDouble wC (fun a => [.ref (a 0), .ref (a (1 + b1))]) σ (fun _ => some (.int r)) σ := by
  refine con_of (by decide) ⟨rfl, rfl⟩ (fun _ => Nat.le_of_ble_eq_true rfl) (fun Γ a hC => ?_)
  have hC : Cx Γ l cX6_mustDouble RX6 2 (some .boolean) Rm_X6_mustDouble wC a (some (.int r)) σ := hC
  show Γ σ 0 [(0, .ref (a 0)), (1, .ref (a (1 + b1)))] []
  unfold f_X6_mustDouble at h
  refine r_bipush (v := 100) hC dX6_mustDouble_0 (by decide) ?_
  refine r_aload_n hC dX6_mustDouble_2 rfl 1 rfl ?_
  refine G6_105 hC b1 hb1 dX6_mustDouble_3 ?_
  refine r_iconst (v := 1) hC dX6_mustDouble_6 (by decide) ?_
  refine r_iadd hC dX6_mustDouble_7 ?_
  refine r_imul hC dX6_mustDouble_8 ?_
  refine r_aload_n hC dX6_mustDouble_9 rfl 0 rfl ?_
  refine G6_17 hC dX6_mustDouble_10 ?_
  refine r_aload_n hC dX6_mustDouble_13 rfl 1 rfl ?_
  refine r_callV (As := []) (rest := [.int (st_i σ 2), .int ((100 : Int32) * ((st_i σ (3 + 2 * b1)) + (1 : Int32)))]) hC (con_X0_slotCount l σ b1 hb1 rfl) K6_108 (ob0 a σ b1 hb1) rfl rfl rfl rfl ⟨Nat.le_of_ble_eq_true rfl, Nat.le_of_ble_eq_true rfl⟩ (Nat.le_of_ble_eq_true rfl) dX6_mustDouble_14 ?_
  refine r_imul hC dX6_mustDouble_17 ?_
  refine r_icmp_le hC 36 dX6_mustDouble_18 (by decide) (fun q => ?_) (fun q => ?_)
  · replace h := if_p q h
    refine r_iconst (v := 0) hC dX6_mustDouble_36 (by decide) ?_
    exact r_zretT hC rfl dX6_mustDouble_37 h
  · replace h := if_n q h
    refine r_aload_n hC dX6_mustDouble_21 rfl 1 rfl ?_
    refine G6_87 hC b1 hb1 dX6_mustDouble_22 ?_
    refine r_aload_n hC dX6_mustDouble_25 rfl 0 rfl ?_
    refine r_callV (As := []) (rest := [.int (st_i σ (4 + 2 * b1))]) hC (con_X6_greatestQ l σ rfl) K6_246 (ob6 a σ) rfl rfl rfl rfl ⟨Nat.le_of_ble_eq_true rfl, Nat.le_of_ble_eq_true rfl⟩ (Nat.le_of_ble_eq_true rfl) dX6_mustDouble_26 ?_
    refine r_icmp_ge hC 36 dX6_mustDouble_29 (by decide) (fun q => ?_) (fun q => ?_)
    · replace h := if_p q h
      refine r_iconst (v := 0) hC dX6_mustDouble_36 (by decide) ?_
      exact r_zretT hC rfl dX6_mustDouble_37 h
    · replace h := if_n q h
      refine r_iconst (v := 1) hC dX6_mustDouble_32 (by decide) ?_
      refine r_goto hC 37 dX6_mustDouble_33 (by decide) ?_
      exact r_zretT hC rfl dX6_mustDouble_37 h
abbrev Rm_X6_putIn : Room := { frames := 3, cells := 0, slots := 0, locals := 67 }
def f_X6_putIn_n18 (b1 : Nat) (x2 : Int32) (σ : St) : Option (Int32 × St) :=
  if (f_X0_isFull σ b1) = 0 then
    bind2 (f_X0_insert σ b1 x2) fun v2 s1 =>
    some (v2, s1)
  else
  some ((-1 : Int32), σ)
set_option maxRecDepth 100000 in
set_option maxHeartbeats 4000000 in
theorem t_X6_putIn_n18 {Γ : St → Nat → List (Nat × Value) → List Value → Prop} {l : Launch} {a : Nat → Nat} {r : Int32} {t' : St} (hC : Cx Γ l cX6_putIn RX6 3 (some .int) Rm_X6_putIn wC a (some (.int r)) t') (b1 : Nat) (x2 : Int32) (hb1 : b1 < 3) (σ : St) (h : f_X6_putIn_n18 b1 x2 σ = some (r, t')) : Γ σ 18 [(1, .ref (a (1 + b1))), (2, .int x2)] [] := by
  unfold f_X6_putIn_n18 at h
  refine r_aload_n hC dX6_putIn_18 rfl 0 rfl ?_
  refine r_callV (As := []) (rest := []) hC (con_X0_isFull l σ b1 hb1 rfl) K6_226 (ob0 a σ b1 hb1) rfl rfl rfl rfl ⟨Nat.le_of_ble_eq_true rfl, Nat.le_of_ble_eq_true rfl⟩ (Nat.le_of_ble_eq_true rfl) dX6_putIn_19 ?_
  refine r_if_eq hC 29 dX6_putIn_22 (by decide) (fun q => ?_) (fun q => ?_)
  · replace h := if_p q h
    refine r_aload_n hC dX6_putIn_29 rfl 0 rfl ?_
    refine r_iload_n hC dX6_putIn_30 rfl 1 rfl ?_
    obtain ⟨v2, s1, hs1, h⟩ := bind2_of h
    refine r_callV (As := [.int x2]) (rest := []) hC (con_X0_insert l σ b1 x2 hb1 hs1) K6_234 (ob0 a σ b1 hb1) rfl rfl rfl rfl ⟨Nat.le_of_ble_eq_true rfl, Nat.le_of_ble_eq_true rfl⟩ (Nat.le_of_ble_eq_true rfl) dX6_putIn_31 ?_
    exact r_iretS hC dX6_putIn_34 h
  · replace h := if_n q h
    refine r_iconst (v := -1) hC dX6_putIn_25 (by decide) ?_
    refine r_goto hC 34 dX6_putIn_26 (by decide) ?_
    exact r_iretS hC dX6_putIn_34 h
def f_X6_putIn (σ : St) (b1 : Nat) (x2 : Int32) : Option (Int32 × St) :=
  if (f_X6_mustDouble σ b1) = 0 then
    f_X6_putIn_n18 b1 x2 σ
  else
  lt_ (put_i σ (4 + 2 * b1) ((st_i σ (4 + 2 * b1)) + (1 : Int32))) fun s3 =>
  f_X6_putIn_n18 b1 x2 s3
set_option maxRecDepth 100000 in
set_option maxHeartbeats 4000000 in
theorem con_X6_putIn (l : Launch) (σ : St) (b1 : Nat) (x2 : Int32) (hb1 : b1 < 3) {r : Int32} {t' : St} (h : f_X6_putIn σ b1 x2 = some (r, t')) : Con l yX6_putIn cX6_putIn 3 (some .int) Rm_X6_putIn wC (fun a => [.ref (a 0), .ref (a (1 + b1)), .int x2]) σ (fun _ => some (.int r)) t' := by
  refine con_of (by decide) ⟨rfl, rfl⟩ (fun _ => Nat.le_of_ble_eq_true rfl) (fun Γ a hC => ?_)
  have hC : Cx Γ l cX6_putIn RX6 3 (some .int) Rm_X6_putIn wC a (some (.int r)) t' := hC
  show Γ σ 0 [(0, .ref (a 0)), (1, .ref (a (1 + b1))), (2, .int x2)] []
  unfold f_X6_putIn at h
  refine r_aload_n hC dX6_putIn_0 rfl 0 rfl ?_
  refine r_aload_n hC dX6_putIn_1 rfl 1 rfl ?_
  refine r_callV (As := [.ref (a (1 + b1))]) (rest := []) hC (con_X6_mustDouble l σ b1 hb1 rfl) K6_222 (ob6 a σ) rfl rfl rfl rfl ⟨Nat.le_of_ble_eq_true rfl, Nat.le_of_ble_eq_true rfl⟩ (Nat.le_of_ble_eq_true rfl) dX6_putIn_2 ?_
  refine r_if_eq hC 18 dX6_putIn_5 (by decide) (fun q => ?_) (fun q => ?_)
  · replace h := if_p q h
    refine r_sub hC [1, 2] rfl ?_
    exact t_X6_putIn_n18 hC b1 x2 hb1 σ h
  · replace h := if_n q h
    refine r_aload_n hC dX6_putIn_8 rfl 1 rfl ?_
    refine r_dup hC dX6_putIn_9 rfl ?_
    refine G6_87 hC b1 hb1 dX6_putIn_10 ?_
    refine r_iconst (v := 1) hC dX6_putIn_13 (by decide) ?_
    refine r_iadd hC dX6_putIn_14 ?_
    obtain ⟨s3, es3, h⟩ := lt_of h
    refine P6_87 hC b1 hb1 es3 dX6_putIn_15 ?_
    refine r_sub hC [1, 2] rfl ?_
    exact t_X6_putIn_n18 hC b1 x2 hb1 s3 h
abbrev Rm_X6_doKey : Room := { frames := 4, cells := 0, slots := 0, locals := 89 }
def f_X6_doKey (σ : St) (b1 : Nat) (x2 : Int32) (x3 : Int32) : Option (Int32 × St) :=
  lt_ (f_X6_printOf σ x2) fun v1 =>
  if x3 = 0 then
    bind2 (f_X6_putIn σ b1 v1) fun v3 s2 =>
    if v3 < 0 then
      some ((0 : Int32), s2)
    else
    some ((1 : Int32), s2)
  else
  bind2 (f_X0_dropOne σ b1 v1) fun v5 s4 =>
  some (v5, s4)
set_option maxRecDepth 100000 in
set_option maxHeartbeats 4000000 in
theorem con_X6_doKey (l : Launch) (σ : St) (b1 : Nat) (x2 : Int32) (x3 : Int32) (hb1 : b1 < 3) {r : Int32} {t' : St} (h : f_X6_doKey σ b1 x2 x3 = some (r, t')) : Con l yX6_doKey cX6_doKey 5 (some .boolean) Rm_X6_doKey wC (fun a => [.ref (a 0), .ref (a (1 + b1)), .int x2, .int x3]) σ (fun _ => some (.int r)) t' := by
  refine con_of (by decide) ⟨rfl, rfl⟩ (fun _ => Nat.le_of_ble_eq_true rfl) (fun Γ a hC => ?_)
  have hC : Cx Γ l cX6_doKey RX6 5 (some .boolean) Rm_X6_doKey wC a (some (.int r)) t' := hC
  show Γ σ 0 [(0, .ref (a 0)), (1, .ref (a (1 + b1))), (2, .int x2), (3, .int x3)] []
  unfold f_X6_doKey at h
  refine r_aload_n hC dX6_doKey_0 rfl 0 rfl ?_
  refine r_iload_n hC dX6_doKey_1 rfl 2 rfl ?_
  refine r_callV (As := [.int x2]) (rest := []) hC (con_X6_printOf l σ x2 rfl) K6_83 (ob6 a σ) rfl rfl rfl rfl ⟨Nat.le_of_ble_eq_true rfl, Nat.le_of_ble_eq_true rfl⟩ (Nat.le_of_ble_eq_true rfl) dX6_doKey_2 ?_
  obtain ⟨v1, ev1, h⟩ := lt_of h
  refine r_istore (lv' := [(4, .int v1), (0, .ref (a 0)), (1, .ref (a (1 + b1))), (2, .int x2), (3, .int x3)]) hC dX6_doKey_5 (by decide) ev1 rfl ?_
  refine r_iload_n hC dX6_doKey_7 rfl 4 rfl ?_
  refine r_if_eq hC 20 dX6_doKey_8 (by decide) (fun q => ?_) (fun q => ?_)
  · replace h := if_p q h
    refine r_aload_n hC dX6_doKey_20 rfl 1 rfl ?_
    refine r_aload_n hC dX6_doKey_21 rfl 2 rfl ?_
    refine r_iload hC dX6_doKey_22 0 rfl ?_
    obtain ⟨v3, s2, hs2, h⟩ := bind2_of h
    refine r_callV (As := [.ref (a (1 + b1)), .int v1]) (rest := []) hC (con_X6_putIn l σ b1 v1 hb1 hs2) K6_94 (ob6 a σ) rfl rfl rfl rfl ⟨Nat.le_of_ble_eq_true rfl, Nat.le_of_ble_eq_true rfl⟩ (Nat.le_of_ble_eq_true rfl) dX6_doKey_24 ?_
    refine r_if_lt hC 34 dX6_doKey_27 (by decide) (fun q => ?_) (fun q => ?_)
    · replace h := if_p q h
      refine r_iconst (v := 0) hC dX6_doKey_34 (by decide) ?_
      exact r_zretS hC rfl dX6_doKey_35 h
    · replace h := if_n q h
      refine r_iconst (v := 1) hC dX6_doKey_30 (by decide) ?_
      refine r_goto hC 35 dX6_doKey_31 (by decide) ?_
      exact r_zretS hC rfl dX6_doKey_35 h
  · replace h := if_n q h
    refine r_aload_n hC dX6_doKey_11 rfl 2 rfl ?_
    refine r_iload hC dX6_doKey_12 0 rfl ?_
    obtain ⟨v5, s4, hs4, h⟩ := bind2_of h
    refine r_callV (As := [.int v1]) (rest := []) hC (con_X0_dropOne l σ b1 v1 hb1 hs4) K6_112 (ob0 a σ b1 hb1) rfl rfl rfl rfl ⟨Nat.le_of_ble_eq_true rfl, Nat.le_of_ble_eq_true rfl⟩ (Nat.le_of_ble_eq_true rfl) dX6_doKey_14 ?_
    refine r_goto hC 35 dX6_doKey_17 (by decide) ?_
    have hzz : narrow .boolean (.int v5) = .int v5 := NAR_X6_doKey (by assumption)
    exact r_zretS hC hzz dX6_doKey_35 h
abbrev Rm_X6_highestBit : Room := { frames := 0, cells := 0, slots := 0, locals := 0 }
def f_X6_highestBit_n2_b (σ : St) (x0 : Int32) (self : Int32 → Option Int32) (y1 : Int32) : Option Int32 :=
  if (6 : Int32) ≤ y1 then
    some y1
  else
  if (x0 >>> ((y1 + (1 : Int32)) &&& 31)) ≤ 0 then
    some y1
  else
  lt_ (y1 + (1 : Int32)) fun v1 =>
  self v1
def f_X6_highestBit_n2 (σ : St) (x0 : Int32) : Nat → Int32 → Option Int32
  | 0 => fun _ => none
  | n + 1 => fun y1 => f_X6_highestBit_n2_b σ x0  (f_X6_highestBit_n2 σ x0  n) y1
set_option maxRecDepth 100000 in
set_option maxHeartbeats 4000000 in
theorem t_X6_highestBit_n2_b {Γ : St → Nat → List (Nat × Value) → List Value → Prop} {l : Launch} {a : Nat → Nat} {r : Int32} {σ : St} (hC : Cx Γ l cX6_highestBit RX6 2 (some .int) Rm_X6_highestBit wC a (some (.int r)) σ) (x0 : Int32) (self : Int32 → Option Int32) (hself : ∀ (y1 : Int32), self y1 = some r → Γ σ 2 [(0, .int x0), (1, .int y1)] []) (y1 : Int32) (h : f_X6_highestBit_n2_b σ x0 self y1 = some r) : Γ σ 2 [(0, .int x0), (1, .int y1)] [] := by
  unfold f_X6_highestBit_n2_b at h
  refine r_iload_n hC dX6_highestBit_2 rfl 1 rfl ?_
  refine r_bipush (v := 6) hC dX6_highestBit_3 (by decide) ?_
  refine r_icmp_ge hC 22 dX6_highestBit_5 (by decide) (fun q => ?_) (fun q => ?_)
  · replace h := if_p q h
    refine r_iload_n hC dX6_highestBit_22 rfl 1 rfl ?_
    exact r_iretP hC dX6_highestBit_23 h
  · replace h := if_n q h
    refine r_iload_n hC dX6_highestBit_8 rfl 0 rfl ?_
    refine r_iload_n hC dX6_highestBit_9 rfl 1 rfl ?_
    refine r_iconst (v := 1) hC dX6_highestBit_10 (by decide) ?_
    refine r_iadd hC dX6_highestBit_11 ?_
    refine r_ishr hC dX6_highestBit_12 ?_
    refine r_if_le hC 22 dX6_highestBit_13 (by decide) (fun q => ?_) (fun q => ?_)
    · replace h := if_p q h
      refine r_iload_n hC dX6_highestBit_22 rfl 1 rfl ?_
      exact r_iretP hC dX6_highestBit_23 h
    · replace h := if_n q h
      obtain ⟨v1, ev1, h⟩ := lt_of h
      refine r_iinc (c1 := 1) (lv' := [(1, .int v1), (0, .int x0)]) hC dX6_highestBit_16 1 rfl (by decide) (by decide) ev1 rfl ?_
      refine r_goto hC 2 dX6_highestBit_19 (by decide) ?_
      refine r_sub hC [1, 0] rfl ?_
      exact hself v1 h
set_option maxRecDepth 100000 in
set_option maxHeartbeats 4000000 in
theorem t_X6_highestBit_n2 {Γ : St → Nat → List (Nat × Value) → List Value → Prop} {l : Launch} {a : Nat → Nat} {r : Int32} {σ : St} (hC : Cx Γ l cX6_highestBit RX6 2 (some .int) Rm_X6_highestBit wC a (some (.int r)) σ) (x0 : Int32) (n : Nat) : ∀ (y1 : Int32), f_X6_highestBit_n2 σ x0 n y1 = some r → Γ σ 2 [(0, .int x0), (1, .int y1)] [] := by
  induction n with
  | zero =>
    intro y1  h
    have h : (none : Option Int32) = some r := h
    cases h
  | succ n ih =>
    intro y1  h
    exact t_X6_highestBit_n2_b hC x0    (f_X6_highestBit_n2 σ x0  n) ih y1  h
def f_X6_highestBit (σ : St) (x0 : Int32) : Option Int32 :=
  f_X6_highestBit_n2 σ x0 fuel (0 : Int32)
set_option maxRecDepth 100000 in
set_option maxHeartbeats 4000000 in
theorem con_X6_highestBit (l : Launch) (σ : St) (x0 : Int32) {r : Int32} (h : f_X6_highestBit σ x0 = some r) : Con l yX6_highestBit cX6_highestBit 2 (some .int) Rm_X6_highestBit wC (fun a => [.int x0]) σ (fun _ => some (.int r)) σ := by
  refine con_of (by decide) ⟨rfl, rfl⟩ (fun _ => Nat.le_of_ble_eq_true rfl) (fun Γ a hC => ?_)
  have hC : Cx Γ l cX6_highestBit RX6 2 (some .int) Rm_X6_highestBit wC a (some (.int r)) σ := hC
  show Γ σ 0 [(0, .int x0)] []
  unfold f_X6_highestBit at h
  refine r_iconst (v := 0) hC dX6_highestBit_0 (by decide) ?_
  refine r_istore_n (lv' := [(1, .int (0 : Int32)), (0, .int x0)]) hC dX6_highestBit_1 rfl (by decide) rfl rfl ?_
  refine r_sub hC [1, 0] rfl ?_
  exact t_X6_highestBit_n2 hC x0 fuel (0 : Int32) h
abbrev Rm_X6_doubleBits : Room := { frames := 1, cells := 0, slots := 0, locals := 21 }
def f_X6_doubleBits (σ : St) (x0 : Int32) (x1 : Int32) : Option Int64 :=
  if 0 < x0 then
    (f_X6_highestBit σ x0).bind fun v1 =>
    lt_ ((((v1 - x1) + (1023 : Int32))).toInt64) fun v2 =>
    some ((v2 <<< ((52 : Int32).toInt64 &&& 63)) ||| ((((x0 - ((1 : Int32) <<< (v1 &&& 31)))).toInt64) <<< (((52 : Int32) - v1).toInt64 &&& 63)))
  else
  some (0 : Int64)
set_option maxRecDepth 100000 in
set_option maxHeartbeats 4000000 in
theorem con_X6_doubleBits (l : Launch) (σ : St) (x0 : Int32) (x1 : Int32) {r : Int64} (h : f_X6_doubleBits σ x0 x1 = some r) : Con l yX6_doubleBits cX6_doubleBits 5 (some .long) Rm_X6_doubleBits wC (fun a => [.int x0, .int x1]) σ (fun _ => some (.long r)) σ := by
  refine con_of (by decide) ⟨rfl, rfl⟩ (fun _ => Nat.le_of_ble_eq_true rfl) (fun Γ a hC => ?_)
  have hC : Cx Γ l cX6_doubleBits RX6 5 (some .long) Rm_X6_doubleBits wC a (some (.long r)) σ := hC
  show Γ σ 0 [(0, .int x0), (1, .int x1)] []
  unfold f_X6_doubleBits at h
  refine r_iload_n hC dX6_doubleBits_0 rfl 0 rfl ?_
  refine r_if_gt hC 6 dX6_doubleBits_1 (by decide) (fun q => ?_) (fun q => ?_)
  · replace h := if_p q h
    refine r_iload_n hC dX6_doubleBits_6 rfl 0 rfl ?_
    obtain ⟨v1, hv1, h⟩ := bind_of h
    refine r_callS (As := [.int x0]) (rest := []) hC (con_X6_highestBit l σ x0 hv1) K6_307 rfl rfl rfl ⟨Nat.le_of_ble_eq_true rfl, Nat.le_of_ble_eq_true rfl⟩ (Nat.le_of_ble_eq_true rfl) dX6_doubleBits_7 ?_
    refine r_istore_n (lv' := [(2, .int v1), (0, .int x0), (1, .int x1)]) hC dX6_doubleBits_10 rfl (by decide) rfl rfl ?_
    refine r_iload_n hC dX6_doubleBits_11 rfl 0 rfl ?_
    refine r_iload_n hC dX6_doubleBits_12 rfl 2 rfl ?_
    refine r_isub hC dX6_doubleBits_13 ?_
    refine r_sipush (v := 1023) hC dX6_doubleBits_14 (by decide) ?_
    refine r_iadd hC dX6_doubleBits_17 ?_
    refine r_i2l hC dX6_doubleBits_18 ?_
    obtain ⟨v2, ev2, h⟩ := lt_of h
    refine r_lstore_n (lv' := [(3, .long v2), (2, .int v1), (0, .int x0), (1, .int x1)]) hC dX6_doubleBits_19 rfl (by decide) ev2 rfl ?_
    refine r_lload_n hC dX6_doubleBits_20 rfl 0 rfl ?_
    refine r_bipush (v := 52) hC dX6_doubleBits_21 (by decide) ?_
    refine r_lshl hC dX6_doubleBits_23 ?_
    refine r_iload_n hC dX6_doubleBits_24 rfl 2 rfl ?_
    refine r_iconst (v := 1) hC dX6_doubleBits_25 (by decide) ?_
    refine r_iload_n hC dX6_doubleBits_26 rfl 1 rfl ?_
    refine r_ishl hC dX6_doubleBits_27 ?_
    refine r_isub hC dX6_doubleBits_28 ?_
    refine r_i2l hC dX6_doubleBits_29 ?_
    refine r_bipush (v := 52) hC dX6_doubleBits_30 (by decide) ?_
    refine r_iload_n hC dX6_doubleBits_32 rfl 1 rfl ?_
    refine r_isub hC dX6_doubleBits_33 ?_
    refine r_lshl hC dX6_doubleBits_34 ?_
    refine r_lor hC dX6_doubleBits_35 ?_
    exact r_lretP hC dX6_doubleBits_36 h
  · replace h := if_n q h
    refine r_lconst (v := 0) hC dX6_doubleBits_4 (by decide) ?_
    exact r_lretP hC dX6_doubleBits_5 h
abbrev Rm_X6_doubles : Room := { frames := 2, cells := 0, slots := 0, locals := 41 }
def f_X6_doubles (σ : St) (x1 : Int32) : Option (Int32 × St) :=
  lt_ (f_X6_bagOf x1) fun o1 =>
  on_b o1 (
    some ((-1 : Int32), σ)) fun bb20 =>
  if (st_i σ (4 + 2 * bb20)) < (f_X6_greatestQ σ) then
    lt_ (put_i σ (4 + 2 * bb20) ((st_i σ (4 + 2 * bb20)) + (1 : Int32))) fun s3 =>
    some ((f_X0_slotCount s3 bb20), s3)
  else
  some ((-2 : Int32), σ)
set_option maxRecDepth 100000 in
set_option maxHeartbeats 4000000 in
theorem con_X6_doubles (l : Launch) (σ : St) (x1 : Int32) {r : Int32} {t' : St} (h : f_X6_doubles σ x1 = some (r, t')) : Con l yX6_doubles cX6_doubles 3 (some .int) Rm_X6_doubles wC (fun a => [.ref (a 0), .int x1]) σ (fun _ => some (.int r)) t' := by
  refine con_of (by decide) ⟨rfl, rfl⟩ (fun _ => Nat.le_of_ble_eq_true rfl) (fun Γ a hC => ?_)
  have hC : Cx Γ l cX6_doubles RX6 3 (some .int) Rm_X6_doubles wC a (some (.int r)) t' := hC
  show Γ σ 0 [(0, .ref (a 0)), (1, .int x1)] []
  unfold f_X6_doubles at h
  refine r_aload_n hC dX6_doubles_0 rfl 0 rfl ?_
  refine r_iload_n hC dX6_doubles_1 rfl 1 rfl ?_
  refine r_callV (As := [.int x1]) (rest := []) hC (con_X6_bagOf l σ x1) K6_75 (ob6 a σ) rfl rfl rfl rfl ⟨Nat.le_of_ble_eq_true rfl, Nat.le_of_ble_eq_true rfl⟩ (Nat.le_of_ble_eq_true rfl) dX6_doubles_2 ?_
  replace h := lt_of h
  obtain ⟨o1, eo1, h⟩ := h
  have ho1 : ∀ z, o1 = some z → z < 3 := fun z q => bagOf_lt (eo1.symm.trans q)
  refine r_astoreO_n (lv' := [(2, rb_ a o1), (0, .ref (a 0)), (1, .int x1)]) hC dX6_doubles_5 rfl (by decide) eo1 rfl ?_
  refine r_aloadO_n hC dX6_doubles_6 rfl 0 rfl ?_
  replace h := on_b_of h
  rcases h with ⟨rfl, h⟩ | ⟨bb20, rfl, h⟩
  · refine r_ifnonnullN hC dX6_doubles_7 ?_
    refine r_iconst (v := -1) hC dX6_doubles_10 (by decide) ?_
    exact r_iretS hC dX6_doubles_11 h
  · have hbb20 : bb20 < 3 := ho1 bb20 rfl
    refine r_ifnonnull hC 12 dX6_doubles_7 (by decide) ?_
    refine r_aload_n hC dX6_doubles_12 rfl 0 rfl ?_
    refine G6_87 hC bb20 hbb20 dX6_doubles_13 ?_
    refine r_aload_n hC dX6_doubles_16 rfl 1 rfl ?_
    refine r_callV (As := []) (rest := [.int (st_i σ (4 + 2 * bb20))]) hC (con_X6_greatestQ l σ rfl) K6_246 (ob6 a σ) rfl rfl rfl rfl ⟨Nat.le_of_ble_eq_true rfl, Nat.le_of_ble_eq_true rfl⟩ (Nat.le_of_ble_eq_true rfl) dX6_doubles_17 ?_
    refine r_icmp_lt hC 26 dX6_doubles_20 (by decide) (fun q => ?_) (fun q => ?_)
    · replace h := if_p q h
      refine r_aload_n hC dX6_doubles_26 rfl 0 rfl ?_
      refine r_dup hC dX6_doubles_27 rfl ?_
      refine G6_87 hC bb20 hbb20 dX6_doubles_28 ?_
      refine r_iconst (v := 1) hC dX6_doubles_31 (by decide) ?_
      refine r_iadd hC dX6_doubles_32 ?_
      replace h := lt_of h
      obtain ⟨s3, es3, h⟩ := h
      refine P6_87 hC bb20 hbb20 es3 dX6_doubles_33 ?_
      refine r_aload_n hC dX6_doubles_36 rfl 0 rfl ?_
      refine r_callV (As := []) (rest := []) hC (con_X0_slotCount l s3 bb20 hbb20 rfl) K6_108 (ob0 a s3 bb20 hbb20) rfl rfl rfl rfl ⟨Nat.le_of_ble_eq_true rfl, Nat.le_of_ble_eq_true rfl⟩ (Nat.le_of_ble_eq_true rfl) dX6_doubles_37 ?_
      exact r_iretS hC dX6_doubles_40 h
    · replace h := if_n q h
      refine r_bipush (v := -2) hC dX6_doubles_23 (by decide) ?_
      exact r_iretS hC dX6_doubles_25 h
abbrev Rm_X6_end : Room := { frames := 1, cells := 0, slots := 0, locals := 21 }
def f_X6_end (σ : St) (x1 : Int32) : Option (Int32 × St) :=
  bind2 (f_X5_cutTo σ x1) fun v2 s1 =>
  some (v2, s1)
set_option maxRecDepth 100000 in
set_option maxHeartbeats 4000000 in
theorem con_X6_end (l : Launch) (σ : St) (x1 : Int32) {r : Int32} {t' : St} (h : f_X6_end σ x1 = some (r, t')) : Con l yX6_end cX6_end 2 (some .boolean) Rm_X6_end wC (fun a => [.ref (a 0), .int x1]) σ (fun _ => some (.int r)) t' := by
  refine con_of (by decide) ⟨rfl, rfl⟩ (fun _ => Nat.le_of_ble_eq_true rfl) (fun Γ a hC => ?_)
  have hC : Cx Γ l cX6_end RX6 2 (some .boolean) Rm_X6_end wC a (some (.int r)) t' := hC
  show Γ σ 0 [(0, .ref (a 0)), (1, .int x1)] []
  unfold f_X6_end at h
  refine r_aload_n hC dX6_end_0 rfl 0 rfl ?_
  refine G6_60 hC dX6_end_1 ?_
  refine r_iload_n hC dX6_end_4 rfl 1 rfl ?_
  obtain ⟨v2, s1, hs1, h⟩ := bind2_of h
  refine r_callV (As := [.int x1]) (rest := []) hC (con_X5_cutTo l σ x1 hs1) K6_129 (ob5 a σ) rfl rfl rfl rfl ⟨Nat.le_of_ble_eq_true rfl, Nat.le_of_ble_eq_true rfl⟩ (Nat.le_of_ble_eq_true rfl) dX6_end_5 ?_
  have hzz : narrow .boolean (.int v2) = .int v2 := NAR_X6_end (by assumption)
  exact r_zretS hC hzz dX6_end_8 h
abbrev Rm_X6_fitTogether : Room := { frames := 2, cells := 0, slots := 0, locals := 41 }
def f_X6_fitTogether (σ : St) : Int32 :=
  if ((1 : Int32) <<< ((f_X6_greatestQ σ) &&& 31)) ≤ ((st_i σ 3) + (st_i σ 5)) then
    (0 : Int32)
  else
  (1 : Int32)
set_option maxRecDepth 100000 in
set_option maxHeartbeats 4000000 in
theorem con_X6_fitTogether (l : Launch) (σ : St) {r : Int32} (h : f_X6_fitTogether σ = r) : Con l yX6_fitTogether cX6_fitTogether 1 (some .boolean) Rm_X6_fitTogether wC (fun a => [.ref (a 0)]) σ (fun _ => some (.int r)) σ := by
  refine con_of (by decide) ⟨rfl, rfl⟩ (fun _ => Nat.le_of_ble_eq_true rfl) (fun Γ a hC => ?_)
  have hC : Cx Γ l cX6_fitTogether RX6 1 (some .boolean) Rm_X6_fitTogether wC a (some (.int r)) σ := hC
  show Γ σ 0 [(0, .ref (a 0))] []
  unfold f_X6_fitTogether at h
  refine r_aload_n hC dX6_fitTogether_0 rfl 0 rfl ?_
  refine G6_23 hC dX6_fitTogether_1 ?_
  refine G6_105 hC 0 (by decide) dX6_fitTogether_4 ?_
  refine r_aload_n hC dX6_fitTogether_7 rfl 0 rfl ?_
  refine G6_27 hC dX6_fitTogether_8 ?_
  refine G6_105 hC 1 (by decide) dX6_fitTogether_11 ?_
  refine r_iadd hC dX6_fitTogether_14 ?_
  refine r_iconst (v := 1) hC dX6_fitTogether_15 (by decide) ?_
  refine r_aload_n hC dX6_fitTogether_16 rfl 0 rfl ?_
  refine r_callV (As := []) (rest := [.int (1 : Int32), .int ((st_i σ 3) + (st_i σ 5))]) hC (con_X6_greatestQ l σ rfl) K6_246 (ob6 a σ) rfl rfl rfl rfl ⟨Nat.le_of_ble_eq_true rfl, Nat.le_of_ble_eq_true rfl⟩ (Nat.le_of_ble_eq_true rfl) dX6_fitTogether_17 ?_
  refine r_ishl hC dX6_fitTogether_20 ?_
  refine r_icmp_ge hC 28 dX6_fitTogether_21 (by decide) (fun q => ?_) (fun q => ?_)
  · replace h := if_p q h
    refine r_iconst (v := 0) hC dX6_fitTogether_28 (by decide) ?_
    exact r_zretT hC rfl dX6_fitTogether_29 h
  · replace h := if_n q h
    refine r_iconst (v := 1) hC dX6_fitTogether_24 (by decide) ?_
    refine r_goto hC 29 dX6_fitTogether_25 (by decide) ?_
    exact r_zretT hC rfl dX6_fitTogether_29 h
abbrev Rm_X6_fittingQ : Room := { frames := 2, cells := 0, slots := 0, locals := 41 }
def f_X6_fittingQ_n8_b (σ : St) (x1 : Int32) (x2 : Int32) (self : Int32 → Int32 → Option Int32) (y3 : Int32) (y4 : Int32) : Option Int32 :=
  if y3 ≤ y4 then
    some y3
  else
  if ((st_i σ 2) <<< (y4 &&& 31)) < ((100 : Int32) * x2) then
    lt_ (y4 + (1 : Int32)) fun v1 =>
    self y3 v1
  else
  some y4
def f_X6_fittingQ_n8 (σ : St) (x1 : Int32) (x2 : Int32) : Nat → Int32 → Int32 → Option Int32
  | 0 => fun _ _ => none
  | n + 1 => fun y3 y4 => f_X6_fittingQ_n8_b σ x1 x2  (f_X6_fittingQ_n8 σ x1 x2  n) y3 y4
set_option maxRecDepth 100000 in
set_option maxHeartbeats 4000000 in
theorem t_X6_fittingQ_n8_b {Γ : St → Nat → List (Nat × Value) → List Value → Prop} {l : Launch} {a : Nat → Nat} {r : Int32} {σ : St} (hC : Cx Γ l cX6_fittingQ RX6 5 (some .int) Rm_X6_fittingQ wC a (some (.int r)) σ) (x1 : Int32) (x2 : Int32) (self : Int32 → Int32 → Option Int32) (hself : ∀ (y3 : Int32) (y4 : Int32), self y3 y4 = some r → Γ σ 8 [(0, .ref (a 0)), (2, .int x2), (3, .int y3), (4, .int y4)] []) (y3 : Int32) (y4 : Int32) (h : f_X6_fittingQ_n8_b σ x1 x2 self y3 y4 = some r) : Γ σ 8 [(0, .ref (a 0)), (2, .int x2), (3, .int y3), (4, .int y4)] [] := by
  unfold f_X6_fittingQ_n8_b at h
  refine r_iload hC dX6_fittingQ_8 3 rfl ?_
  refine r_iload_n hC dX6_fittingQ_10 rfl 2 rfl ?_
  refine r_icmp_ge hC 37 dX6_fittingQ_11 (by decide) (fun q => ?_) (fun q => ?_)
  · replace h := if_p q h
    refine r_iload_n hC dX6_fittingQ_37 rfl 2 rfl ?_
    exact r_iretP hC dX6_fittingQ_38 h
  · replace h := if_n q h
    refine r_bipush (v := 100) hC dX6_fittingQ_14 (by decide) ?_
    refine r_iload_n hC dX6_fittingQ_16 rfl 1 rfl ?_
    refine r_imul hC dX6_fittingQ_17 ?_
    refine r_aload_n hC dX6_fittingQ_18 rfl 0 rfl ?_
    refine G6_17 hC dX6_fittingQ_19 ?_
    refine r_iload hC dX6_fittingQ_22 3 rfl ?_
    refine r_ishl hC dX6_fittingQ_24 ?_
    refine r_icmp_gt hC 31 dX6_fittingQ_25 (by decide) (fun q => ?_) (fun q => ?_)
    · replace h := if_p q h
      obtain ⟨v1, ev1, h⟩ := lt_of h
      refine r_iinc (c1 := 1) (lv' := [(4, .int v1), (0, .ref (a 0)), (2, .int x2), (3, .int y3)]) hC dX6_fittingQ_31 3 rfl (by decide) (by decide) ev1 rfl ?_
      refine r_goto hC 8 dX6_fittingQ_34 (by decide) ?_
      refine r_sub hC [1, 2, 3, 0] rfl ?_
      exact hself y3 v1 h
    · replace h := if_n q h
      refine r_iload hC dX6_fittingQ_28 3 rfl ?_
      exact r_iretP hC dX6_fittingQ_30 h
set_option maxRecDepth 100000 in
set_option maxHeartbeats 4000000 in
theorem t_X6_fittingQ_n8 {Γ : St → Nat → List (Nat × Value) → List Value → Prop} {l : Launch} {a : Nat → Nat} {r : Int32} {σ : St} (hC : Cx Γ l cX6_fittingQ RX6 5 (some .int) Rm_X6_fittingQ wC a (some (.int r)) σ) (x1 : Int32) (x2 : Int32) (n : Nat) : ∀ (y3 : Int32) (y4 : Int32), f_X6_fittingQ_n8 σ x1 x2 n y3 y4 = some r → Γ σ 8 [(0, .ref (a 0)), (2, .int x2), (3, .int y3), (4, .int y4)] [] := by
  induction n with
  | zero =>
    intro y3 y4  h
    have h : (none : Option Int32) = some r := h
    cases h
  | succ n ih =>
    intro y3 y4  h
    exact t_X6_fittingQ_n8_b hC x1 x2    (f_X6_fittingQ_n8 σ x1 x2  n) ih y3 y4  h
def f_X6_fittingQ (σ : St) (x1 : Int32) (x2 : Int32) : Option Int32 :=
  lt_ (f_X6_greatestQ σ) fun v2 =>
  f_X6_fittingQ_n8 σ x1 x2 fuel v2 x1
set_option maxRecDepth 100000 in
set_option maxHeartbeats 4000000 in
theorem con_X6_fittingQ (l : Launch) (σ : St) (x1 : Int32) (x2 : Int32) {r : Int32} (h : f_X6_fittingQ σ x1 x2 = some r) : Con l yX6_fittingQ cX6_fittingQ 5 (some .int) Rm_X6_fittingQ wC (fun a => [.ref (a 0), .int x1, .int x2]) σ (fun _ => some (.int r)) σ := by
  refine con_of (by decide) ⟨rfl, rfl⟩ (fun _ => Nat.le_of_ble_eq_true rfl) (fun Γ a hC => ?_)
  have hC : Cx Γ l cX6_fittingQ RX6 5 (some .int) Rm_X6_fittingQ wC a (some (.int r)) σ := hC
  show Γ σ 0 [(0, .ref (a 0)), (1, .int x1), (2, .int x2)] []
  unfold f_X6_fittingQ at h
  refine r_aload_n hC dX6_fittingQ_0 rfl 0 rfl ?_
  refine r_callV (As := []) (rest := []) hC (con_X6_greatestQ l σ rfl) K6_246 (ob6 a σ) rfl rfl rfl rfl ⟨Nat.le_of_ble_eq_true rfl, Nat.le_of_ble_eq_true rfl⟩ (Nat.le_of_ble_eq_true rfl) dX6_fittingQ_1 ?_
  obtain ⟨v2, ev2, h⟩ := lt_of h
  refine r_istore_n (lv' := [(3, .int v2), (0, .ref (a 0)), (1, .int x1), (2, .int x2)]) hC dX6_fittingQ_4 rfl (by decide) ev2 rfl ?_
  refine r_iload_n hC dX6_fittingQ_5 rfl 2 rfl ?_
  refine r_istore (lv' := [(4, .int x1), (3, .int v2), (0, .ref (a 0)), (1, .int x1), (2, .int x2)]) hC dX6_fittingQ_6 (by decide) rfl rfl ?_
  refine r_sub hC [2, 4, 1, 0] rfl ?_
  exact t_X6_fittingQ_n8 hC x1 x2 fuel v2 x1 h
abbrev Rm_X6_floatBits : Room := { frames := 1, cells := 0, slots := 0, locals := 21 }
def f_X6_floatBits (σ : St) (x0 : Int32) (x1 : Int32) : Option Int32 :=
  if 0 < x0 then
    (f_X6_highestBit σ x0).bind fun v1 =>
    lt_ ((v1 - x1) + (127 : Int32)) fun v2 =>
    some ((v2 <<< ((23 : Int32) &&& 31)) ||| ((x0 - ((1 : Int32) <<< (v1 &&& 31))) <<< (((23 : Int32) - v1) &&& 31)))
  else
  some (0 : Int32)
set_option maxRecDepth 100000 in
set_option maxHeartbeats 4000000 in
theorem con_X6_floatBits (l : Launch) (σ : St) (x0 : Int32) (x1 : Int32) {r : Int32} (h : f_X6_floatBits σ x0 x1 = some r) : Con l yX6_floatBits cX6_floatBits 4 (some .int) Rm_X6_floatBits wC (fun a => [.int x0, .int x1]) σ (fun _ => some (.int r)) σ := by
  refine con_of (by decide) ⟨rfl, rfl⟩ (fun _ => Nat.le_of_ble_eq_true rfl) (fun Γ a hC => ?_)
  have hC : Cx Γ l cX6_floatBits RX6 4 (some .int) Rm_X6_floatBits wC a (some (.int r)) σ := hC
  show Γ σ 0 [(0, .int x0), (1, .int x1)] []
  unfold f_X6_floatBits at h
  refine r_iload_n hC dX6_floatBits_0 rfl 0 rfl ?_
  refine r_if_gt hC 6 dX6_floatBits_1 (by decide) (fun q => ?_) (fun q => ?_)
  · replace h := if_p q h
    refine r_iload_n hC dX6_floatBits_6 rfl 0 rfl ?_
    obtain ⟨v1, hv1, h⟩ := bind_of h
    refine r_callS (As := [.int x0]) (rest := []) hC (con_X6_highestBit l σ x0 hv1) K6_307 rfl rfl rfl ⟨Nat.le_of_ble_eq_true rfl, Nat.le_of_ble_eq_true rfl⟩ (Nat.le_of_ble_eq_true rfl) dX6_floatBits_7 ?_
    refine r_istore_n (lv' := [(2, .int v1), (0, .int x0), (1, .int x1)]) hC dX6_floatBits_10 rfl (by decide) rfl rfl ?_
    refine r_iload_n hC dX6_floatBits_11 rfl 0 rfl ?_
    refine r_iload_n hC dX6_floatBits_12 rfl 2 rfl ?_
    refine r_isub hC dX6_floatBits_13 ?_
    refine r_bipush (v := 127) hC dX6_floatBits_14 (by decide) ?_
    refine r_iadd hC dX6_floatBits_16 ?_
    obtain ⟨v2, ev2, h⟩ := lt_of h
    refine r_istore_n (lv' := [(3, .int v2), (2, .int v1), (0, .int x0), (1, .int x1)]) hC dX6_floatBits_17 rfl (by decide) ev2 rfl ?_
    refine r_iload_n hC dX6_floatBits_18 rfl 0 rfl ?_
    refine r_bipush (v := 23) hC dX6_floatBits_19 (by decide) ?_
    refine r_ishl hC dX6_floatBits_21 ?_
    refine r_iload_n hC dX6_floatBits_22 rfl 2 rfl ?_
    refine r_iconst (v := 1) hC dX6_floatBits_23 (by decide) ?_
    refine r_iload_n hC dX6_floatBits_24 rfl 1 rfl ?_
    refine r_ishl hC dX6_floatBits_25 ?_
    refine r_isub hC dX6_floatBits_26 ?_
    refine r_bipush (v := 23) hC dX6_floatBits_27 (by decide) ?_
    refine r_iload_n hC dX6_floatBits_29 rfl 1 rfl ?_
    refine r_isub hC dX6_floatBits_30 ?_
    refine r_ishl hC dX6_floatBits_31 ?_
    refine r_ior hC dX6_floatBits_32 ?_
    exact r_iretP hC dX6_floatBits_33 h
  · replace h := if_n q h
    refine r_iconst (v := 0) hC dX6_floatBits_4 (by decide) ?_
    exact r_iretP hC dX6_floatBits_5 h
abbrev Rm_X6_full : Room := { frames := 4, cells := 0, slots := 0, locals := 87 }
def f_X6_full_n17_b (x1 : Int32) (self : St → Nat → Int32 → Int32 → Option (Int32 × St)) (σ : St) (bb2 : Nat) (y3 : Int32) (y4 : Int32) : Option (Int32 × St) :=
  if (1000 : Int32) ≤ y4 then
    (f_X0_unlike σ bb2).bind fun v1 =>
    (f_X6_doubleBits σ v1 (st_i σ 0)).bind fun v2 =>
    (f_X3_tell_ σ v2 (y3.toInt64)).bind fun s3 =>
    (f_X6_floatBits s3 (st_i s3 (3 + 2 * bb2)) (st_i s3 (4 + 2 * bb2))).bind fun v4 =>
    some (v4, s3)
  else
  (f_X0_holds σ bb2 (f_X6_printOf σ y4)).bind fun v5 =>
  if v5 = 0 then
    lt_ (y4 + (1 : Int32)) fun v6 =>
    self σ bb2 y3 v6
  else
  lt_ (y3 + (1 : Int32)) fun v7 =>
  lt_ (y4 + (1 : Int32)) fun v8 =>
  self σ bb2 v7 v8
def f_X6_full_n17 (x1 : Int32) : Nat → St → Nat → Int32 → Int32 → Option (Int32 × St)
  | 0 => fun _ _ _ _ => none
  | n + 1 => fun σ bb2 y3 y4 => f_X6_full_n17_b x1  (f_X6_full_n17 x1  n) σ bb2 y3 y4
set_option maxRecDepth 100000 in
set_option maxHeartbeats 4000000 in
theorem t_X6_full_n17_b {Γ : St → Nat → List (Nat × Value) → List Value → Prop} {l : Launch} {a : Nat → Nat} {r : Int32} {t' : St} (hC : Cx Γ l cX6_full RX6 5 (some .int) Rm_X6_full wC a (some (.int r)) t') (x1 : Int32) (self : St → Nat → Int32 → Int32 → Option (Int32 × St)) (hself : ∀ (σ : St) (bb2 : Nat) (y3 : Int32) (y4 : Int32), bb2 < 3 → self σ bb2 y3 y4 = some (r, t') → Γ σ 17 [(0, .ref (a 0)), (2, .ref (a (1 + bb2))), (3, .int y3), (4, .int y4)] []) (σ : St) (bb2 : Nat) (y3 : Int32) (y4 : Int32) (hbb2 : bb2 < 3) (h : f_X6_full_n17_b x1 self σ bb2 y3 y4 = some (r, t')) : Γ σ 17 [(0, .ref (a 0)), (2, .ref (a (1 + bb2))), (3, .int y3), (4, .int y4)] [] := by
  unfold f_X6_full_n17_b at h
  refine r_iload hC dX6_full_17 3 rfl ?_
  refine r_sipush (v := 1000) hC dX6_full_19 (by decide) ?_
  refine r_icmp_ge hC 47 dX6_full_22 (by decide) (fun q => ?_) (fun q => ?_)
  · replace h := if_p q h
    refine r_aload_n hC dX6_full_47 rfl 0 rfl ?_
    refine G6_53 hC dX6_full_48 ?_
    refine r_aload_n hC dX6_full_51 rfl 1 rfl ?_
    replace h := bind_of h
    obtain ⟨v1, hv1, h⟩ := h
    refine r_callV (As := []) (rest := [.ref (a 7)]) hC (con_X0_unlike l σ bb2 hbb2 hv1) K6_237 (ob0 a σ bb2 hbb2) rfl rfl rfl rfl ⟨Nat.le_of_ble_eq_true rfl, Nat.le_of_ble_eq_true rfl⟩ (Nat.le_of_ble_eq_true rfl) dX6_full_52 ?_
    refine r_aload_n hC dX6_full_55 rfl 0 rfl ?_
    refine G6_7 hC dX6_full_56 ?_
    replace h := bind_of h
    obtain ⟨v2, hv2, h⟩ := h
    refine r_callS (As := [.int v1, .int (st_i σ 0)]) (rest := [.ref (a 7)]) hC (con_X6_doubleBits l σ v1 (st_i σ 0) hv2) K6_271 rfl rfl rfl ⟨Nat.le_of_ble_eq_true rfl, Nat.le_of_ble_eq_true rfl⟩ (Nat.le_of_ble_eq_true rfl) dX6_full_59 ?_
    refine r_iload_n hC dX6_full_62 rfl 2 rfl ?_
    refine r_i2l hC dX6_full_63 ?_
    replace h := bind_of h
    obtain ⟨s3, hs3, h⟩ := h
    refine r_callV (As := [.long v2, .long (y3.toInt64)]) (rest := []) hC (con_X3_tell_ l σ v2 (y3.toInt64) hs3) K6_90 (ob3 a σ) rfl rfl rfl rfl ⟨Nat.le_of_ble_eq_true rfl, Nat.le_of_ble_eq_true rfl⟩ (Nat.le_of_ble_eq_true rfl) dX6_full_64 ?_
    refine r_aload_n hC dX6_full_67 rfl 1 rfl ?_
    refine G6_105 hC bb2 hbb2 dX6_full_68 ?_
    refine r_aload_n hC dX6_full_71 rfl 1 rfl ?_
    refine G6_87 hC bb2 hbb2 dX6_full_72 ?_
    replace h := bind_of h
    obtain ⟨v4, hv4, h⟩ := h
    refine r_callS (As := [.int (st_i s3 (3 + 2 * bb2)), .int (st_i s3 (4 + 2 * bb2))]) (rest := []) hC (con_X6_floatBits l s3 (st_i s3 (3 + 2 * bb2)) (st_i s3 (4 + 2 * bb2)) hv4) K6_275 rfl rfl rfl ⟨Nat.le_of_ble_eq_true rfl, Nat.le_of_ble_eq_true rfl⟩ (Nat.le_of_ble_eq_true rfl) dX6_full_75 ?_
    exact r_iretS hC dX6_full_78 h
  · replace h := if_n q h
    refine r_aload_n hC dX6_full_25 rfl 1 rfl ?_
    refine r_aload_n hC dX6_full_26 rfl 0 rfl ?_
    refine r_iload hC dX6_full_27 3 rfl ?_
    refine r_callV (As := [.int y4]) (rest := [.ref (a (1 + bb2))]) hC (con_X6_printOf l σ y4 rfl) K6_83 (ob6 a σ) rfl rfl rfl rfl ⟨Nat.le_of_ble_eq_true rfl, Nat.le_of_ble_eq_true rfl⟩ (Nat.le_of_ble_eq_true rfl) dX6_full_29 ?_
    replace h := bind_of h
    obtain ⟨v5, hv5, h⟩ := h
    refine r_callV (As := [.int (f_X6_printOf σ y4)]) (rest := []) hC (con_X0_holds l σ bb2 (f_X6_printOf σ y4) hbb2 hv5) K6_143 (ob0 a σ bb2 hbb2) rfl rfl rfl rfl ⟨Nat.le_of_ble_eq_true rfl, Nat.le_of_ble_eq_true rfl⟩ (Nat.le_of_ble_eq_true rfl) dX6_full_32 ?_
    refine r_if_eq hC 41 dX6_full_35 (by decide) (fun q => ?_) (fun q => ?_)
    · replace h := if_p q h
      replace h := lt_of h
      obtain ⟨v6, ev6, h⟩ := h
      refine r_iinc (c1 := 1) (lv' := [(4, .int v6), (0, .ref (a 0)), (2, .ref (a (1 + bb2))), (3, .int y3)]) hC dX6_full_41 3 rfl (by decide) (by decide) ev6 rfl ?_
      refine r_goto hC 17 dX6_full_44 (by decide) ?_
      refine r_sub hC [1, 2, 3, 0] rfl ?_
      exact hself σ bb2 y3 v6 hbb2 h
    · replace h := if_n q h
      replace h := lt_of h
      obtain ⟨v7, ev7, h⟩ := h
      refine r_iinc (c1 := 1) (lv' := [(3, .int v7), (0, .ref (a 0)), (2, .ref (a (1 + bb2))), (4, .int y4)]) hC dX6_full_38 2 rfl (by decide) (by decide) ev7 rfl ?_
      replace h := lt_of h
      obtain ⟨v8, ev8, h⟩ := h
      refine r_iinc (c1 := 1) (lv' := [(4, .int v8), (3, .int v7), (0, .ref (a 0)), (2, .ref (a (1 + bb2)))]) hC dX6_full_41 3 rfl (by decide) (by decide) ev8 rfl ?_
      refine r_goto hC 17 dX6_full_44 (by decide) ?_
      refine r_sub hC [2, 3, 1, 0] rfl ?_
      exact hself σ bb2 v7 v8 hbb2 h
set_option maxRecDepth 100000 in
set_option maxHeartbeats 4000000 in
theorem t_X6_full_n17 {Γ : St → Nat → List (Nat × Value) → List Value → Prop} {l : Launch} {a : Nat → Nat} {r : Int32} {t' : St} (hC : Cx Γ l cX6_full RX6 5 (some .int) Rm_X6_full wC a (some (.int r)) t') (x1 : Int32) (n : Nat) : ∀ (σ : St) (bb2 : Nat) (y3 : Int32) (y4 : Int32), bb2 < 3 → f_X6_full_n17 x1 n σ bb2 y3 y4 = some (r, t') → Γ σ 17 [(0, .ref (a 0)), (2, .ref (a (1 + bb2))), (3, .int y3), (4, .int y4)] [] := by
  induction n with
  | zero =>
    intro σ bb2 y3 y4 hbb2 h
    have h : (none : Option (Int32 × St)) = some (r, t') := h
    cases h
  | succ n ih =>
    intro σ bb2 y3 y4 hbb2 h
    exact t_X6_full_n17_b hC x1    (f_X6_full_n17 x1  n) ih σ bb2 y3 y4 hbb2 h
def f_X6_full (σ : St) (x1 : Int32) : Option (Int32 × St) :=
  lt_ (f_X6_bagOf x1) fun o9 =>
  on_b o9 (
    some ((-1 : Int32), σ)) fun bb100 =>
  f_X6_full_n17 x1 fuel σ bb100 (0 : Int32) (0 : Int32)
set_option maxRecDepth 100000 in
set_option maxHeartbeats 4000000 in
theorem con_X6_full (l : Launch) (σ : St) (x1 : Int32) {r : Int32} {t' : St} (h : f_X6_full σ x1 = some (r, t')) : Con l yX6_full cX6_full 5 (some .int) Rm_X6_full wC (fun a => [.ref (a 0), .int x1]) σ (fun _ => some (.int r)) t' := by
  refine con_of (by decide) ⟨rfl, rfl⟩ (fun _ => Nat.le_of_ble_eq_true rfl) (fun Γ a hC => ?_)
  have hC : Cx Γ l cX6_full RX6 5 (some .int) Rm_X6_full wC a (some (.int r)) t' := hC
  show Γ σ 0 [(0, .ref (a 0)), (1, .int x1)] []
  unfold f_X6_full at h
  refine r_aload_n hC dX6_full_0 rfl 0 rfl ?_
  refine r_iload_n hC dX6_full_1 rfl 1 rfl ?_
  refine r_callV (As := [.int x1]) (rest := []) hC (con_X6_bagOf l σ x1) K6_75 (ob6 a σ) rfl rfl rfl rfl ⟨Nat.le_of_ble_eq_true rfl, Nat.le_of_ble_eq_true rfl⟩ (Nat.le_of_ble_eq_true rfl) dX6_full_2 ?_
  replace h := lt_of h
  obtain ⟨o9, eo9, h⟩ := h
  have ho9 : ∀ z, o9 = some z → z < 3 := fun z q => bagOf_lt (eo9.symm.trans q)
  refine r_astoreO_n (lv' := [(2, rb_ a o9), (0, .ref (a 0)), (1, .int x1)]) hC dX6_full_5 rfl (by decide) eo9 rfl ?_
  refine r_aloadO_n hC dX6_full_6 rfl 0 rfl ?_
  replace h := on_b_of h
  rcases h with ⟨rfl, h⟩ | ⟨bb100, rfl, h⟩
  · refine r_ifnonnullN hC dX6_full_7 ?_
    refine r_iconst (v := -1) hC dX6_full_10 (by decide) ?_
    exact r_iretS hC dX6_full_11 h
  · have hbb100 : bb100 < 3 := ho9 bb100 rfl
    refine r_ifnonnull hC 12 dX6_full_7 (by decide) ?_
    refine r_iconst (v := 0) hC dX6_full_12 (by decide) ?_
    refine r_istore_n (lv' := [(3, .int (0 : Int32)), (2, .ref (a (1 + bb100))), (0, .ref (a 0)), (1, .int x1)]) hC dX6_full_13 rfl (by decide) rfl rfl ?_
    refine r_iconst (v := 0) hC dX6_full_14 (by decide) ?_
    refine r_istore (lv' := [(4, .int (0 : Int32)), (3, .int (0 : Int32)), (2, .ref (a (1 + bb100))), (0, .ref (a 0)), (1, .int x1)]) hC dX6_full_15 (by decide) rfl rfl ?_
    refine r_sub hC [3, 2, 1, 0] rfl ?_
    exact t_X6_full_n17 hC x1 fuel σ bb100 (0 : Int32) (0 : Int32) hbb100 h
abbrev Rm_X6_gaps : Room := { frames := 3, cells := 0, slots := 0, locals := 72 }
def f_X6_gaps_n68 (x1 : Int32) (k32 : St → Nat → Int32 → Int32 → Int32 → Option (Int32 × St)) (σ : St) (bb2 : Nat) (y3 : Int32) (y5 : Int32) (y6 : Int32) (w0 : Int32) : Option (Int32 × St) :=
  lt_ (if y3 < y6 then y6 else y3) fun v3 =>
  lt_ (y5 + (1 : Int32)) fun v4 =>
  k32 σ bb2 v3 w0 v4
set_option maxRecDepth 100000 in
set_option maxHeartbeats 4000000 in
theorem t_X6_gaps_n68 {Γ : St → Nat → List (Nat × Value) → List Value → Prop} {l : Launch} {a : Nat → Nat} {r : Int32} {t' : St} (hC : Cx Γ l cX6_gaps RX6 7 (some .int) Rm_X6_gaps wC a (some (.int r)) t') (x1 : Int32) (k32 : St → Nat → Int32 → Int32 → Int32 → Option (Int32 × St)) (hk32 : ∀ (σ : St) (bb2 : Nat) (y3 : Int32) (y4 : Int32) (y5 : Int32), bb2 < 3 → k32 σ bb2 y3 y4 y5 = some (r, t') → Γ σ 32 [(0, .ref (a 0)), (2, .ref (a (1 + bb2))), (3, .int y3), (4, .int y4), (5, .int y5)] []) (σ : St) (bb2 : Nat) (y3 : Int32) (y5 : Int32) (y6 : Int32) (w0 : Int32) (hbb2 : bb2 < 3) (h : f_X6_gaps_n68 x1 k32 σ bb2 y3 y5 y6 w0 = some (r, t')) : Γ σ 68 [(0, .ref (a 0)), (2, .ref (a (1 + bb2))), (3, .int y3), (5, .int y5), (6, .int y6)] [.int w0] := by
  unfold f_X6_gaps_n68 at h
  refine r_istore (lv' := [(4, .int w0), (0, .ref (a 0)), (2, .ref (a (1 + bb2))), (3, .int y3), (5, .int y5), (6, .int y6)]) hC dX6_gaps_68 (by decide) rfl rfl ?_
  refine r_iload_n hC dX6_gaps_70 rfl 3 rfl ?_
  refine r_iload hC dX6_gaps_71 5 rfl ?_
  refine r_mmax hC dX6_gaps_73 K6_217 ⟨Nat.le_of_ble_eq_true rfl, Nat.le_of_ble_eq_true rfl⟩ ?_
  replace h := lt_of h
  obtain ⟨v3, ev3, h⟩ := h
  refine r_istore_n (lv' := [(3, .int v3), (4, .int w0), (0, .ref (a 0)), (2, .ref (a (1 + bb2))), (5, .int y5), (6, .int y6)]) hC dX6_gaps_76 rfl (by decide) ev3 rfl ?_
  replace h := lt_of h
  obtain ⟨v4, ev4, h⟩ := h
  refine r_iinc (c1 := 1) (lv' := [(5, .int v4), (3, .int v3), (4, .int w0), (0, .ref (a 0)), (2, .ref (a (1 + bb2))), (6, .int y6)]) hC dX6_gaps_77 4 rfl (by decide) (by decide) ev4 rfl ?_
  refine r_goto hC 32 dX6_gaps_80 (by decide) ?_
  refine r_sub hC [3, 4, 1, 2, 0] rfl ?_
  exact hk32 σ bb2 v3 w0 v4 hbb2 h
def f_X6_gaps_n32_b (x1 : Int32) (self : St → Nat → Int32 → Int32 → Int32 → Option (Int32 × St)) (σ : St) (bb2 : Nat) (y3 : Int32) (y4 : Int32) (y5 : Int32) : Option (Int32 × St) :=
  if (st_i σ 10) ≤ y5 then
    (f_X3_tell_ σ (y3.toInt64) (y4.toInt64)).bind fun s1 =>
    some (((f_X0_slotCount s1 bb2) - (st_i s1 (3 + 2 * bb2))), s1)
  else
  (f_X2_gapLength σ 0 y5).bind fun v2 =>
  if v2 ≤ y3 then
    f_X6_gaps_n68 x1 self σ bb2 y3 y5 v2 y4
  else
  f_X6_gaps_n68 x1 self σ bb2 y3 y5 v2 y5
def f_X6_gaps_n32 (x1 : Int32) : Nat → St → Nat → Int32 → Int32 → Int32 → Option (Int32 × St)
  | 0 => fun _ _ _ _ _ => none
  | n + 1 => fun σ bb2 y3 y4 y5 => f_X6_gaps_n32_b x1  (f_X6_gaps_n32 x1  n) σ bb2 y3 y4 y5
set_option maxRecDepth 100000 in
set_option maxHeartbeats 4000000 in
theorem t_X6_gaps_n32_b {Γ : St → Nat → List (Nat × Value) → List Value → Prop} {l : Launch} {a : Nat → Nat} {r : Int32} {t' : St} (hC : Cx Γ l cX6_gaps RX6 7 (some .int) Rm_X6_gaps wC a (some (.int r)) t') (x1 : Int32) (self : St → Nat → Int32 → Int32 → Int32 → Option (Int32 × St)) (hself : ∀ (σ : St) (bb2 : Nat) (y3 : Int32) (y4 : Int32) (y5 : Int32), bb2 < 3 → self σ bb2 y3 y4 y5 = some (r, t') → Γ σ 32 [(0, .ref (a 0)), (2, .ref (a (1 + bb2))), (3, .int y3), (4, .int y4), (5, .int y5)] []) (σ : St) (bb2 : Nat) (y3 : Int32) (y4 : Int32) (y5 : Int32) (hbb2 : bb2 < 3) (h : f_X6_gaps_n32_b x1 self σ bb2 y3 y4 y5 = some (r, t')) : Γ σ 32 [(0, .ref (a 0)), (2, .ref (a (1 + bb2))), (3, .int y3), (4, .int y4), (5, .int y5)] [] := by
  unfold f_X6_gaps_n32_b at h
  refine r_iload hC dX6_gaps_32 4 rfl ?_
  refine r_aload_n hC dX6_gaps_34 rfl 0 rfl ?_
  refine G6_36 hC dX6_gaps_35 ?_
  refine G6_211 hC 0 (by decide) dX6_gaps_38 ?_
  refine r_icmp_ge hC 83 dX6_gaps_41 (by decide) (fun q => ?_) (fun q => ?_)
  · replace h := if_p q h
    refine r_aload_n hC dX6_gaps_83 rfl 0 rfl ?_
    refine G6_53 hC dX6_gaps_84 ?_
    refine r_iload_n hC dX6_gaps_87 rfl 2 rfl ?_
    refine r_i2l hC dX6_gaps_88 ?_
    refine r_iload hC dX6_gaps_89 3 rfl ?_
    refine r_i2l hC dX6_gaps_91 ?_
    replace h := bind_of h
    obtain ⟨s1, hs1, h⟩ := h
    refine r_callV (As := [.long (y3.toInt64), .long (y4.toInt64)]) (rest := []) hC (con_X3_tell_ l σ (y3.toInt64) (y4.toInt64) hs1) K6_90 (ob3 a σ) rfl rfl rfl rfl ⟨Nat.le_of_ble_eq_true rfl, Nat.le_of_ble_eq_true rfl⟩ (Nat.le_of_ble_eq_true rfl) dX6_gaps_92 ?_
    refine r_aload_n hC dX6_gaps_95 rfl 1 rfl ?_
    refine r_callV (As := []) (rest := []) hC (con_X0_slotCount l s1 bb2 hbb2 rfl) K6_108 (ob0 a s1 bb2 hbb2) rfl rfl rfl rfl ⟨Nat.le_of_ble_eq_true rfl, Nat.le_of_ble_eq_true rfl⟩ (Nat.le_of_ble_eq_true rfl) dX6_gaps_96 ?_
    refine r_aload_n hC dX6_gaps_99 rfl 1 rfl ?_
    refine G6_105 hC bb2 hbb2 dX6_gaps_100 ?_
    refine r_isub hC dX6_gaps_103 ?_
    exact r_iretS hC dX6_gaps_104 h
  · replace h := if_n q h
    refine r_aload_n hC dX6_gaps_44 rfl 0 rfl ?_
    refine G6_36 hC dX6_gaps_45 ?_
    refine r_iload hC dX6_gaps_48 4 rfl ?_
    replace h := bind_of h
    obtain ⟨v2, hv2, h⟩ := h
    refine r_callV (As := [.int y5]) (rest := []) hC (con_X2_gapLength l σ 0 y5 (by decide) hv2) K6_253 (ob2 a σ 0 (by decide)) rfl rfl rfl rfl ⟨Nat.le_of_ble_eq_true rfl, Nat.le_of_ble_eq_true rfl⟩ (Nat.le_of_ble_eq_true rfl) dX6_gaps_50 ?_
    refine r_istore (lv' := [(6, .int v2), (0, .ref (a 0)), (2, .ref (a (1 + bb2))), (3, .int y3), (4, .int y4), (5, .int y5)]) hC dX6_gaps_53 (by decide) rfl rfl ?_
    refine r_iload hC dX6_gaps_55 0 rfl ?_
    refine r_iload_n hC dX6_gaps_57 rfl 3 rfl ?_
    refine r_icmp_le hC 66 dX6_gaps_58 (by decide) (fun q => ?_) (fun q => ?_)
    · replace h := if_p q h
      refine r_iload hC dX6_gaps_66 4 rfl ?_
      refine r_sub hC [1, 2, 3, 5, 0] rfl ?_
      exact t_X6_gaps_n68 hC x1 self hself σ bb2 y3 y5 v2 y4 hbb2 h
    · replace h := if_n q h
      refine r_iload hC dX6_gaps_61 5 rfl ?_
      refine r_goto hC 68 dX6_gaps_63 (by decide) ?_
      refine r_sub hC [1, 2, 3, 5, 0] rfl ?_
      exact t_X6_gaps_n68 hC x1 self hself σ bb2 y3 y5 v2 y5 hbb2 h
set_option maxRecDepth 100000 in
set_option maxHeartbeats 4000000 in
theorem t_X6_gaps_n32 {Γ : St → Nat → List (Nat × Value) → List Value → Prop} {l : Launch} {a : Nat → Nat} {r : Int32} {t' : St} (hC : Cx Γ l cX6_gaps RX6 7 (some .int) Rm_X6_gaps wC a (some (.int r)) t') (x1 : Int32) (n : Nat) : ∀ (σ : St) (bb2 : Nat) (y3 : Int32) (y4 : Int32) (y5 : Int32), bb2 < 3 → f_X6_gaps_n32 x1 n σ bb2 y3 y4 y5 = some (r, t') → Γ σ 32 [(0, .ref (a 0)), (2, .ref (a (1 + bb2))), (3, .int y3), (4, .int y4), (5, .int y5)] [] := by
  induction n with
  | zero =>
    intro σ bb2 y3 y4 y5 hbb2 h
    have h : (none : Option (Int32 × St)) = some (r, t') := h
    cases h
  | succ n ih =>
    intro σ bb2 y3 y4 y5 hbb2 h
    exact t_X6_gaps_n32_b hC x1    (f_X6_gaps_n32 x1  n) ih σ bb2 y3 y4 y5 hbb2 h
def f_X6_gaps (σ : St) (x1 : Int32) : Option (Int32 × St) :=
  lt_ (f_X6_bagOf x1) fun o5 =>
  on_b o5 (
    some ((-1 : Int32), σ)) fun bb60 =>
  (f_X2_lay σ 0 bb60 (st_i σ 0)).bind fun s7 =>
  f_X6_gaps_n32 x1 fuel s7 bb60 (0 : Int32) (-1 : Int32) (0 : Int32)
set_option maxRecDepth 100000 in
set_option maxHeartbeats 4000000 in
theorem con_X6_gaps (l : Launch) (σ : St) (x1 : Int32) {r : Int32} {t' : St} (h : f_X6_gaps σ x1 = some (r, t')) : Con l yX6_gaps cX6_gaps 7 (some .int) Rm_X6_gaps wC (fun a => [.ref (a 0), .int x1]) σ (fun _ => some (.int r)) t' := by
  refine con_of (by decide) ⟨rfl, rfl⟩ (fun _ => Nat.le_of_ble_eq_true rfl) (fun Γ a hC => ?_)
  have hC : Cx Γ l cX6_gaps RX6 7 (some .int) Rm_X6_gaps wC a (some (.int r)) t' := hC
  show Γ σ 0 [(0, .ref (a 0)), (1, .int x1)] []
  unfold f_X6_gaps at h
  refine r_aload_n hC dX6_gaps_0 rfl 0 rfl ?_
  refine r_iload_n hC dX6_gaps_1 rfl 1 rfl ?_
  refine r_callV (As := [.int x1]) (rest := []) hC (con_X6_bagOf l σ x1) K6_75 (ob6 a σ) rfl rfl rfl rfl ⟨Nat.le_of_ble_eq_true rfl, Nat.le_of_ble_eq_true rfl⟩ (Nat.le_of_ble_eq_true rfl) dX6_gaps_2 ?_
  replace h := lt_of h
  obtain ⟨o5, eo5, h⟩ := h
  have ho5 : ∀ z, o5 = some z → z < 3 := fun z q => bagOf_lt (eo5.symm.trans q)
  refine r_astoreO_n (lv' := [(2, rb_ a o5), (0, .ref (a 0)), (1, .int x1)]) hC dX6_gaps_5 rfl (by decide) eo5 rfl ?_
  refine r_aloadO_n hC dX6_gaps_6 rfl 0 rfl ?_
  replace h := on_b_of h
  rcases h with ⟨rfl, h⟩ | ⟨bb60, rfl, h⟩
  · refine r_ifnonnullN hC dX6_gaps_7 ?_
    refine r_iconst (v := -1) hC dX6_gaps_10 (by decide) ?_
    exact r_iretS hC dX6_gaps_11 h
  · have hbb60 : bb60 < 3 := ho5 bb60 rfl
    refine r_ifnonnull hC 12 dX6_gaps_7 (by decide) ?_
    refine r_aload_n hC dX6_gaps_12 rfl 1 rfl ?_
    refine G6_36 hC dX6_gaps_13 ?_
    refine r_aload_n hC dX6_gaps_16 rfl 0 rfl ?_
    refine r_aload_n hC dX6_gaps_17 rfl 1 rfl ?_
    refine G6_7 hC dX6_gaps_18 ?_
    replace h := bind_of h
    obtain ⟨s7, hs7, h⟩ := h
    refine r_callV (As := [.ref (a (1 + bb60)), .int (st_i σ 0)]) (rest := []) hC (con_X2_lay l σ 0 bb60 (st_i σ 0) (by decide) hbb60 hs7) K6_98 (ob2 a σ 0 (by decide)) rfl rfl rfl rfl ⟨Nat.le_of_ble_eq_true rfl, Nat.le_of_ble_eq_true rfl⟩ (Nat.le_of_ble_eq_true rfl) dX6_gaps_21 ?_
    refine r_iconst (v := 0) hC dX6_gaps_24 (by decide) ?_
    refine r_istore_n (lv' := [(3, .int (0 : Int32)), (2, .ref (a (1 + bb60))), (0, .ref (a 0)), (1, .int x1)]) hC dX6_gaps_25 rfl (by decide) rfl rfl ?_
    refine r_iconst (v := -1) hC dX6_gaps_26 (by decide) ?_
    refine r_istore (lv' := [(4, .int (-1 : Int32)), (3, .int (0 : Int32)), (2, .ref (a (1 + bb60))), (0, .ref (a 0)), (1, .int x1)]) hC dX6_gaps_27 (by decide) rfl rfl ?_
    refine r_iconst (v := 0) hC dX6_gaps_29 (by decide) ?_
    refine r_istore (lv' := [(5, .int (0 : Int32)), (4, .int (-1 : Int32)), (3, .int (0 : Int32)), (2, .ref (a (1 + bb60))), (0, .ref (a 0)), (1, .int x1)]) hC dX6_gaps_30 (by decide) rfl rfl ?_
    refine r_sub hC [4, 3, 2, 1, 0] rfl ?_
    exact t_X6_gaps_n32 hC x1 fuel s7 bb60 (0 : Int32) (-1 : Int32) (0 : Int32) hbb60 h
abbrev Rm_X6_halves : Room := { frames := 1, cells := 0, slots := 0, locals := 21 }
def f_X6_halves (σ : St) (x1 : Int32) : Option (Int32 × St) :=
  lt_ (f_X6_bagOf x1) fun o1 =>
  on_b o1 (
    some ((-1 : Int32), σ)) fun bb20 =>
  if (3 : Int32) < (st_i σ (4 + 2 * bb20)) then
    if (st_i σ (3 + 2 * bb20)) ≤ (((f_X0_slotCount σ bb20) / (2 : Int32)) - (1 : Int32)) then
      lt_ (put_i σ (4 + 2 * bb20) ((st_i σ (4 + 2 * bb20)) - (1 : Int32))) fun s3 =>
      some ((f_X0_slotCount s3 bb20), s3)
    else
    some ((-5 : Int32), σ)
  else
  some ((-2 : Int32), σ)
set_option maxRecDepth 100000 in
set_option maxHeartbeats 4000000 in
theorem con_X6_halves (l : Launch) (σ : St) (x1 : Int32) {r : Int32} {t' : St} (h : f_X6_halves σ x1 = some (r, t')) : Con l yX6_halves cX6_halves 3 (some .int) Rm_X6_halves wC (fun a => [.ref (a 0), .int x1]) σ (fun _ => some (.int r)) t' := by
  refine con_of (by decide) ⟨rfl, rfl⟩ (fun _ => Nat.le_of_ble_eq_true rfl) (fun Γ a hC => ?_)
  have hC : Cx Γ l cX6_halves RX6 3 (some .int) Rm_X6_halves wC a (some (.int r)) t' := hC
  show Γ σ 0 [(0, .ref (a 0)), (1, .int x1)] []
  unfold f_X6_halves at h
  refine r_aload_n hC dX6_halves_0 rfl 0 rfl ?_
  refine r_iload_n hC dX6_halves_1 rfl 1 rfl ?_
  refine r_callV (As := [.int x1]) (rest := []) hC (con_X6_bagOf l σ x1) K6_75 (ob6 a σ) rfl rfl rfl rfl ⟨Nat.le_of_ble_eq_true rfl, Nat.le_of_ble_eq_true rfl⟩ (Nat.le_of_ble_eq_true rfl) dX6_halves_2 ?_
  replace h := lt_of h
  obtain ⟨o1, eo1, h⟩ := h
  have ho1 : ∀ z, o1 = some z → z < 3 := fun z q => bagOf_lt (eo1.symm.trans q)
  refine r_astoreO_n (lv' := [(2, rb_ a o1), (0, .ref (a 0)), (1, .int x1)]) hC dX6_halves_5 rfl (by decide) eo1 rfl ?_
  refine r_aloadO_n hC dX6_halves_6 rfl 0 rfl ?_
  replace h := on_b_of h
  rcases h with ⟨rfl, h⟩ | ⟨bb20, rfl, h⟩
  · refine r_ifnonnullN hC dX6_halves_7 ?_
    refine r_iconst (v := -1) hC dX6_halves_10 (by decide) ?_
    exact r_iretS hC dX6_halves_11 h
  · have hbb20 : bb20 < 3 := ho1 bb20 rfl
    refine r_ifnonnull hC 12 dX6_halves_7 (by decide) ?_
    refine r_aload_n hC dX6_halves_12 rfl 0 rfl ?_
    refine G6_87 hC bb20 hbb20 dX6_halves_13 ?_
    refine r_iconst (v := 3) hC dX6_halves_16 (by decide) ?_
    refine r_icmp_gt hC 23 dX6_halves_17 (by decide) (fun q => ?_) (fun q => ?_)
    · replace h := if_p q h
      refine r_aload_n hC dX6_halves_23 rfl 0 rfl ?_
      refine G6_105 hC bb20 hbb20 dX6_halves_24 ?_
      refine r_aload_n hC dX6_halves_27 rfl 0 rfl ?_
      refine r_callV (As := []) (rest := [.int (st_i σ (3 + 2 * bb20))]) hC (con_X0_slotCount l σ bb20 hbb20 rfl) K6_108 (ob0 a σ bb20 hbb20) rfl rfl rfl rfl ⟨Nat.le_of_ble_eq_true rfl, Nat.le_of_ble_eq_true rfl⟩ (Nat.le_of_ble_eq_true rfl) dX6_halves_28 ?_
      refine r_iconst (v := 2) hC dX6_halves_31 (by decide) ?_
      refine r_idiv hC dX6_halves_32 (by decide) ?_
      refine r_iconst (v := 1) hC dX6_halves_33 (by decide) ?_
      refine r_isub hC dX6_halves_34 ?_
      refine r_icmp_le hC 41 dX6_halves_35 (by decide) (fun q => ?_) (fun q => ?_)
      · replace h := if_p q h
        refine r_aload_n hC dX6_halves_41 rfl 0 rfl ?_
        refine r_dup hC dX6_halves_42 rfl ?_
        refine G6_87 hC bb20 hbb20 dX6_halves_43 ?_
        refine r_iconst (v := 1) hC dX6_halves_46 (by decide) ?_
        refine r_isub hC dX6_halves_47 ?_
        replace h := lt_of h
        obtain ⟨s3, es3, h⟩ := h
        refine P6_87 hC bb20 hbb20 es3 dX6_halves_48 ?_
        refine r_aload_n hC dX6_halves_51 rfl 0 rfl ?_
        refine r_callV (As := []) (rest := []) hC (con_X0_slotCount l s3 bb20 hbb20 rfl) K6_108 (ob0 a s3 bb20 hbb20) rfl rfl rfl rfl ⟨Nat.le_of_ble_eq_true rfl, Nat.le_of_ble_eq_true rfl⟩ (Nat.le_of_ble_eq_true rfl) dX6_halves_52 ?_
        exact r_iretS hC dX6_halves_55 h
      · replace h := if_n q h
        refine r_bipush (v := -5) hC dX6_halves_38 (by decide) ?_
        exact r_iretS hC dX6_halves_40 h
    · replace h := if_n q h
      refine r_bipush (v := -2) hC dX6_halves_20 (by decide) ?_
      exact r_iretS hC dX6_halves_22 h
abbrev Rm_X6_has : Room := { frames := 3, cells := 0, slots := 0, locals := 72 }
def f_X6_has (σ : St) (x1 : Int32) (x2 : Int32) : Option (Int32 × St) :=
  lt_ (f_X6_bagOf x1) fun o1 =>
  on_b o1 (
    some ((-1 : Int32), σ)) fun bb20 =>
  if (f_X6_isKey σ x2) = 0 then
    some ((-1 : Int32), σ)
  else
  lt_ (f_X6_printOf σ x2) fun v3 =>
  (f_X6_lookedAt σ bb20 (st_i σ (4 + 2 * bb20)) v3).bind fun v4 =>
  (f_X3_tell σ (v4.toInt64)).bind fun s5 =>
  (f_X0_timesOf s5 bb20 v3).bind fun v6 =>
  some (v6, s5)
set_option maxRecDepth 100000 in
set_option maxHeartbeats 4000000 in
theorem con_X6_has (l : Launch) (σ : St) (x1 : Int32) (x2 : Int32) {r : Int32} {t' : St} (h : f_X6_has σ x1 x2 = some (r, t')) : Con l yX6_has cX6_has 5 (some .int) Rm_X6_has wC (fun a => [.ref (a 0), .int x1, .int x2]) σ (fun _ => some (.int r)) t' := by
  refine con_of (by decide) ⟨rfl, rfl⟩ (fun _ => Nat.le_of_ble_eq_true rfl) (fun Γ a hC => ?_)
  have hC : Cx Γ l cX6_has RX6 5 (some .int) Rm_X6_has wC a (some (.int r)) t' := hC
  show Γ σ 0 [(0, .ref (a 0)), (1, .int x1), (2, .int x2)] []
  unfold f_X6_has at h
  refine r_aload_n hC dX6_has_0 rfl 0 rfl ?_
  refine r_iload_n hC dX6_has_1 rfl 1 rfl ?_
  refine r_callV (As := [.int x1]) (rest := []) hC (con_X6_bagOf l σ x1) K6_75 (ob6 a σ) rfl rfl rfl rfl ⟨Nat.le_of_ble_eq_true rfl, Nat.le_of_ble_eq_true rfl⟩ (Nat.le_of_ble_eq_true rfl) dX6_has_2 ?_
  replace h := lt_of h
  obtain ⟨o1, eo1, h⟩ := h
  have ho1 : ∀ z, o1 = some z → z < 3 := fun z q => bagOf_lt (eo1.symm.trans q)
  refine r_astoreO_n (lv' := [(3, rb_ a o1), (0, .ref (a 0)), (1, .int x1), (2, .int x2)]) hC dX6_has_5 rfl (by decide) eo1 rfl ?_
  refine r_aloadO_n hC dX6_has_6 rfl 0 rfl ?_
  replace h := on_b_of h
  rcases h with ⟨rfl, h⟩ | ⟨bb20, rfl, h⟩
  · refine r_ifnullN hC 17 dX6_has_7 (by decide) ?_
    refine r_iconst (v := -1) hC dX6_has_17 (by decide) ?_
    exact r_iretS hC dX6_has_18 h
  · have hbb20 : bb20 < 3 := ho1 bb20 rfl
    refine r_ifnull hC dX6_has_7 ?_
    refine r_iload_n hC dX6_has_10 rfl 3 rfl ?_
    refine r_callS (As := [.int x2]) (rest := []) hC (con_X6_isKey l σ x2 rfl) K6_79 rfl rfl rfl ⟨Nat.le_of_ble_eq_true rfl, Nat.le_of_ble_eq_true rfl⟩ (Nat.le_of_ble_eq_true rfl) dX6_has_11 ?_
    refine r_if_ne hC 19 dX6_has_14 (by decide) (fun q => ?_) (fun q => ?_)
    · replace h := if_n q h
      refine r_aload_n hC dX6_has_19 rfl 1 rfl ?_
      refine r_iload_n hC dX6_has_20 rfl 3 rfl ?_
      refine r_callV (As := [.int x2]) (rest := []) hC (con_X6_printOf l σ x2 rfl) K6_83 (ob6 a σ) rfl rfl rfl rfl ⟨Nat.le_of_ble_eq_true rfl, Nat.le_of_ble_eq_true rfl⟩ (Nat.le_of_ble_eq_true rfl) dX6_has_21 ?_
      replace h := lt_of h
      obtain ⟨v3, ev3, h⟩ := h
      refine r_istore (lv' := [(4, .int v3), (3, .ref (a (1 + bb20))), (0, .ref (a 0)), (1, .int x1), (2, .int x2)]) hC dX6_has_24 (by decide) ev3 rfl ?_
      refine r_aload_n hC dX6_has_26 rfl 2 rfl ?_
      refine G6_53 hC dX6_has_27 ?_
      refine r_aload_n hC dX6_has_30 rfl 2 rfl ?_
      refine r_aload_n hC dX6_has_31 rfl 1 rfl ?_
      refine r_aload_n hC dX6_has_32 rfl 1 rfl ?_
      refine G6_87 hC bb20 hbb20 dX6_has_33 ?_
      refine r_iload hC dX6_has_36 0 rfl ?_
      replace h := bind_of h
      obtain ⟨v4, hv4, h⟩ := h
      refine r_callV (As := [.ref (a (1 + bb20)), .int (st_i σ (4 + 2 * bb20)), .int v3]) (rest := [.ref (a 7)]) hC (con_X6_lookedAt l σ bb20 (st_i σ (4 + 2 * bb20)) v3 hbb20 hv4) K6_121 (ob6 a σ) rfl rfl rfl rfl ⟨Nat.le_of_ble_eq_true rfl, Nat.le_of_ble_eq_true rfl⟩ (Nat.le_of_ble_eq_true rfl) dX6_has_38 ?_
      refine r_i2l hC dX6_has_41 ?_
      replace h := bind_of h
      obtain ⟨s5, hs5, h⟩ := h
      refine r_callV (As := [.long (v4.toInt64)]) (rest := []) hC (con_X3_tell l σ (v4.toInt64) hs5) K6_115 (ob3 a σ) rfl rfl rfl rfl ⟨Nat.le_of_ble_eq_true rfl, Nat.le_of_ble_eq_true rfl⟩ (Nat.le_of_ble_eq_true rfl) dX6_has_42 ?_
      refine r_aload_n hC dX6_has_45 rfl 1 rfl ?_
      refine r_iload hC dX6_has_46 0 rfl ?_
      replace h := bind_of h
      obtain ⟨v6, hv6, h⟩ := h
      refine r_callV (As := [.int v3]) (rest := []) hC (con_X0_timesOf l s5 bb20 v3 hbb20 hv6) K6_118 (ob0 a s5 bb20 hbb20) rfl rfl rfl rfl ⟨Nat.le_of_ble_eq_true rfl, Nat.le_of_ble_eq_true rfl⟩ (Nat.le_of_ble_eq_true rfl) dX6_has_48 ?_
      exact r_iretS hC dX6_has_51 h
    · replace h := if_p q h
      refine r_iconst (v := -1) hC dX6_has_17 (by decide) ?_
      exact r_iretS hC dX6_has_18 h
abbrev Rm_X6_isWord : Room := { frames := 1, cells := 0, slots := 0, locals := 20 }
def f_X6_isWord (σ : St) (b1 : Nat) (x2 : Int32) : Int32 :=
  lt_ ((f_X0_slotCount σ b1) * (((st_i σ 0) - (st_i σ (4 + 2 * b1))) + (3 : Int32))) fun v1 =>
  if x2 < 0 then
    (0 : Int32)
  else
  if ((v1 - (1 : Int32)) / (64 : Int32)) < x2 then
    (0 : Int32)
  else
  (1 : Int32)
set_option maxRecDepth 100000 in
set_option maxHeartbeats 4000000 in
theorem con_X6_isWord (l : Launch) (σ : St) (b1 : Nat) (x2 : Int32) (hb1 : b1 < 3) {r : Int32} (h : f_X6_isWord σ b1 x2 = r) : Con l yX6_isWord cX6_isWord 4 (some .boolean) Rm_X6_isWord wC (fun a => [.ref (a 0), .ref (a (1 + b1)), .int x2]) σ (fun _ => some (.int r)) σ := by
  refine con_of (by decide) ⟨rfl, rfl⟩ (fun _ => Nat.le_of_ble_eq_true rfl) (fun Γ a hC => ?_)
  have hC : Cx Γ l cX6_isWord RX6 4 (some .boolean) Rm_X6_isWord wC a (some (.int r)) σ := hC
  show Γ σ 0 [(0, .ref (a 0)), (1, .ref (a (1 + b1))), (2, .int x2)] []
  unfold f_X6_isWord at h
  refine r_aload_n hC dX6_isWord_0 rfl 1 rfl ?_
  refine r_callV (As := []) (rest := []) hC (con_X0_slotCount l σ b1 hb1 rfl) K6_108 (ob0 a σ b1 hb1) rfl rfl rfl rfl ⟨Nat.le_of_ble_eq_true rfl, Nat.le_of_ble_eq_true rfl⟩ (Nat.le_of_ble_eq_true rfl) dX6_isWord_1 ?_
  refine r_aload_n hC dX6_isWord_4 rfl 0 rfl ?_
  refine G6_7 hC dX6_isWord_5 ?_
  refine r_aload_n hC dX6_isWord_8 rfl 1 rfl ?_
  refine G6_87 hC b1 hb1 dX6_isWord_9 ?_
  refine r_isub hC dX6_isWord_12 ?_
  refine r_iconst (v := 3) hC dX6_isWord_13 (by decide) ?_
  refine r_iadd hC dX6_isWord_14 ?_
  refine r_imul hC dX6_isWord_15 ?_
  obtain ⟨v1, ev1, h⟩ := lt_of h
  refine r_istore_n (lv' := [(3, .int v1), (0, .ref (a 0)), (1, .ref (a (1 + b1))), (2, .int x2)]) hC dX6_isWord_16 rfl (by decide) ev1 rfl ?_
  refine r_iload_n hC dX6_isWord_17 rfl 3 rfl ?_
  refine r_if_lt hC 35 dX6_isWord_18 (by decide) (fun q => ?_) (fun q => ?_)
  · replace h := if_p q h
    refine r_iconst (v := 0) hC dX6_isWord_35 (by decide) ?_
    exact r_zretT hC rfl dX6_isWord_36 h
  · replace h := if_n q h
    refine r_iload_n hC dX6_isWord_21 rfl 3 rfl ?_
    refine r_iload_n hC dX6_isWord_22 rfl 0 rfl ?_
    refine r_iconst (v := 1) hC dX6_isWord_23 (by decide) ?_
    refine r_isub hC dX6_isWord_24 ?_
    refine r_bipush (v := 64) hC dX6_isWord_25 (by decide) ?_
    refine r_idiv hC dX6_isWord_27 (by decide) ?_
    refine r_icmp_gt hC 35 dX6_isWord_28 (by decide) (fun q => ?_) (fun q => ?_)
    · replace h := if_p q h
      refine r_iconst (v := 0) hC dX6_isWord_35 (by decide) ?_
      exact r_zretT hC rfl dX6_isWord_36 h
    · replace h := if_n q h
      refine r_iconst (v := 1) hC dX6_isWord_31 (by decide) ?_
      refine r_goto hC 36 dX6_isWord_32 (by decide) ?_
      exact r_zretT hC rfl dX6_isWord_36 h
abbrev Rm_X6_keeps : Room := { frames := 4, cells := 0, slots := 0, locals := 86 }
def f_X6_keeps_n16_b (x1 : Int32) (self : St → Int32 → Option (Int32 × St)) (σ : St) (y2 : Int32) : Option (Int32 × St) :=
  if (st_i σ 3) ≤ y2 then
    lt_ ((st_i σ 3) - (st_i σ 7)) fun v1 =>
    if v1 = 0 then
      some ((-2 : Int32), σ)
    else
    (f_X0_becomeLike σ 0 2).bind fun s2 =>
    some (v1, s2)
  else
  (f_X6_isShared σ y2).bind fun v3 =>
  if v3 = x1 then
    (f_X0_at σ 0 y2).bind fun v5 =>
    bind2 (f_X0_insert σ 2 v5) fun v7 s6 =>
    lt_ (y2 + (1 : Int32)) fun v8 =>
    self s6 v8
  else
  lt_ (y2 + (1 : Int32)) fun v4 =>
  self σ v4
def f_X6_keeps_n16 (x1 : Int32) : Nat → St → Int32 → Option (Int32 × St)
  | 0 => fun _ _ => none
  | n + 1 => fun σ y2 => f_X6_keeps_n16_b x1  (f_X6_keeps_n16 x1  n) σ y2
set_option maxRecDepth 100000 in
set_option maxHeartbeats 4000000 in
theorem t_X6_keeps_n16_b {Γ : St → Nat → List (Nat × Value) → List Value → Prop} {l : Launch} {a : Nat → Nat} {r : Int32} {t' : St} (hC : Cx Γ l cX6_keeps RX6 3 (some .int) Rm_X6_keeps wC a (some (.int r)) t') (x1 : Int32) (self : St → Int32 → Option (Int32 × St)) (hself : ∀ (σ : St) (y2 : Int32), self σ y2 = some (r, t') → Γ σ 16 [(0, .ref (a 0)), (1, .int x1), (2, .int y2)] []) (σ : St) (y2 : Int32) (h : f_X6_keeps_n16_b x1 self σ y2 = some (r, t')) : Γ σ 16 [(0, .ref (a 0)), (1, .int x1), (2, .int y2)] [] := by
  unfold f_X6_keeps_n16_b at h
  refine r_iload_n hC dX6_keeps_16 rfl 2 rfl ?_
  refine r_aload_n hC dX6_keeps_17 rfl 0 rfl ?_
  refine G6_23 hC dX6_keeps_18 ?_
  refine G6_105 hC 0 (by decide) dX6_keeps_21 ?_
  refine r_icmp_ge hC 58 dX6_keeps_24 (by decide) (fun q => ?_) (fun q => ?_)
  · replace h := if_p q h
    refine r_aload_n hC dX6_keeps_58 rfl 0 rfl ?_
    refine G6_23 hC dX6_keeps_59 ?_
    refine G6_105 hC 0 (by decide) dX6_keeps_62 ?_
    refine r_aload_n hC dX6_keeps_65 rfl 0 rfl ?_
    refine G6_30 hC dX6_keeps_66 ?_
    refine G6_105 hC 2 (by decide) dX6_keeps_69 ?_
    refine r_isub hC dX6_keeps_72 ?_
    obtain ⟨v1, ev1, h⟩ := lt_of h
    refine r_istore_n (lv' := [(2, .int v1), (0, .ref (a 0)), (1, .int x1)]) hC dX6_keeps_73 rfl (by decide) ev1 rfl ?_
    refine r_iload_n hC dX6_keeps_74 rfl 0 rfl ?_
    refine r_if_ne hC 81 dX6_keeps_75 (by decide) (fun q => ?_) (fun q => ?_)
    · replace h := if_n q h
      refine r_aload_n hC dX6_keeps_81 rfl 1 rfl ?_
      refine G6_23 hC dX6_keeps_82 ?_
      refine r_aload_n hC dX6_keeps_85 rfl 1 rfl ?_
      refine G6_30 hC dX6_keeps_86 ?_
      obtain ⟨s2, hs2, h⟩ := bind_of h
      refine r_callV (As := [.ref (a 3)]) (rest := []) hC (con_X0_becomeLike l σ 0 2 (by decide) (by decide) hs2) K6_230 (ob0 a σ 0 (by decide)) rfl rfl rfl rfl ⟨Nat.le_of_ble_eq_true rfl, Nat.le_of_ble_eq_true rfl⟩ (Nat.le_of_ble_eq_true rfl) dX6_keeps_89 ?_
      refine r_iload_n hC dX6_keeps_92 rfl 0 rfl ?_
      exact r_iretS hC dX6_keeps_93 h
    · replace h := if_p q h
      refine r_bipush (v := -2) hC dX6_keeps_78 (by decide) ?_
      exact r_iretS hC dX6_keeps_80 h
  · replace h := if_n q h
    refine r_aload_n hC dX6_keeps_27 rfl 0 rfl ?_
    refine r_iload_n hC dX6_keeps_28 rfl 2 rfl ?_
    obtain ⟨v3, hv3, h⟩ := bind_of h
    refine r_callV (As := [.int y2]) (rest := []) hC (con_X6_isShared l σ y2 hv3) K6_265 (ob6 a σ) rfl rfl rfl rfl ⟨Nat.le_of_ble_eq_true rfl, Nat.le_of_ble_eq_true rfl⟩ (Nat.le_of_ble_eq_true rfl) dX6_keeps_29 ?_
    refine r_iload_n hC dX6_keeps_32 rfl 1 rfl ?_
    refine r_icmp_ne hC 52 dX6_keeps_33 (by decide) (fun q => ?_) (fun q => ?_)
    · replace h := if_n q h
      obtain ⟨v4, ev4, h⟩ := lt_of h
      refine r_iinc (c1 := 1) (lv' := [(2, .int v4), (0, .ref (a 0)), (1, .int x1)]) hC dX6_keeps_52 2 rfl (by decide) (by decide) ev4 rfl ?_
      refine r_goto hC 16 dX6_keeps_55 (by decide) ?_
      refine r_sub hC [1, 2, 0] rfl ?_
      exact hself σ v4 h
    · replace h := if_p q h
      refine r_aload_n hC dX6_keeps_36 rfl 0 rfl ?_
      refine G6_30 hC dX6_keeps_37 ?_
      refine r_aload_n hC dX6_keeps_40 rfl 0 rfl ?_
      refine G6_23 hC dX6_keeps_41 ?_
      refine r_iload_n hC dX6_keeps_44 rfl 2 rfl ?_
      obtain ⟨v5, hv5, h⟩ := bind_of h
      refine r_callV (As := [.int y2]) (rest := [.ref (a 3)]) hC (con_X0_at l σ 0 y2 (by decide) hv5) K6_164 (ob0 a σ 0 (by decide)) rfl rfl rfl rfl ⟨Nat.le_of_ble_eq_true rfl, Nat.le_of_ble_eq_true rfl⟩ (Nat.le_of_ble_eq_true rfl) dX6_keeps_45 ?_
      obtain ⟨v7, s6, hs6, h⟩ := bind2_of h
      refine r_callV (As := [.int v5]) (rest := []) hC (con_X0_insert l σ 2 v5 (by decide) hs6) K6_234 (ob0 a σ 2 (by decide)) rfl rfl rfl rfl ⟨Nat.le_of_ble_eq_true rfl, Nat.le_of_ble_eq_true rfl⟩ (Nat.le_of_ble_eq_true rfl) dX6_keeps_48 ?_
      refine r_pop hC dX6_keeps_51 rfl ?_
      obtain ⟨v8, ev8, h⟩ := lt_of h
      refine r_iinc (c1 := 1) (lv' := [(2, .int v8), (0, .ref (a 0)), (1, .int x1)]) hC dX6_keeps_52 2 rfl (by decide) (by decide) ev8 rfl ?_
      refine r_goto hC 16 dX6_keeps_55 (by decide) ?_
      refine r_sub hC [1, 2, 0] rfl ?_
      exact hself s6 v8 h
set_option maxRecDepth 100000 in
set_option maxHeartbeats 4000000 in
theorem t_X6_keeps_n16 {Γ : St → Nat → List (Nat × Value) → List Value → Prop} {l : Launch} {a : Nat → Nat} {r : Int32} {t' : St} (hC : Cx Γ l cX6_keeps RX6 3 (some .int) Rm_X6_keeps wC a (some (.int r)) t') (x1 : Int32) (n : Nat) : ∀ (σ : St) (y2 : Int32), f_X6_keeps_n16 x1 n σ y2 = some (r, t') → Γ σ 16 [(0, .ref (a 0)), (1, .int x1), (2, .int y2)] [] := by
  induction n with
  | zero =>
    intro σ y2  h
    have h : (none : Option (Int32 × St)) = some (r, t') := h
    cases h
  | succ n ih =>
    intro σ y2  h
    exact t_X6_keeps_n16_b hC x1    (f_X6_keeps_n16 x1  n) ih σ y2  h
def f_X6_keeps (σ : St) (x1 : Int32) : Option (Int32 × St) :=
  (f_X0_emptyTo σ 2 (st_i σ 4)).bind fun s9 =>
  f_X6_keeps_n16 x1 fuel s9 (0 : Int32)
set_option maxRecDepth 100000 in
set_option maxHeartbeats 4000000 in
theorem con_X6_keeps (l : Launch) (σ : St) (x1 : Int32) {r : Int32} {t' : St} (h : f_X6_keeps σ x1 = some (r, t')) : Con l yX6_keeps cX6_keeps 3 (some .int) Rm_X6_keeps wC (fun a => [.ref (a 0), .int x1]) σ (fun _ => some (.int r)) t' := by
  refine con_of (by decide) ⟨rfl, rfl⟩ (fun _ => Nat.le_of_ble_eq_true rfl) (fun Γ a hC => ?_)
  have hC : Cx Γ l cX6_keeps RX6 3 (some .int) Rm_X6_keeps wC a (some (.int r)) t' := hC
  show Γ σ 0 [(0, .ref (a 0)), (1, .int x1)] []
  unfold f_X6_keeps at h
  refine r_aload_n hC dX6_keeps_0 rfl 0 rfl ?_
  refine G6_30 hC dX6_keeps_1 ?_
  refine r_aload_n hC dX6_keeps_4 rfl 0 rfl ?_
  refine G6_23 hC dX6_keeps_5 ?_
  refine G6_87 hC 0 (by decide) dX6_keeps_8 ?_
  obtain ⟨s9, hs9, h⟩ := bind_of h
  refine r_callV (As := [.int (st_i σ 4)]) (rest := []) hC (con_X0_emptyTo l σ 2 (st_i σ 4) (by decide) hs9) K6_71 (ob0 a σ 2 (by decide)) rfl rfl rfl rfl ⟨Nat.le_of_ble_eq_true rfl, Nat.le_of_ble_eq_true rfl⟩ (Nat.le_of_ble_eq_true rfl) dX6_keeps_11 ?_
  refine r_iconst (v := 0) hC dX6_keeps_14 (by decide) ?_
  refine r_istore_n (lv' := [(2, .int (0 : Int32)), (0, .ref (a 0)), (1, .int x1)]) hC dX6_keeps_15 rfl (by decide) rfl rfl ?_
  refine r_sub hC [1, 2, 0] rfl ?_
  exact t_X6_keeps_n16 hC x1 fuel s9 (0 : Int32) h
abbrev Rm_X6_keys : Room := { frames := 5, cells := 0, slots := 0, locals := 113 }
def f_X6_keys_n114 (x1 : Int32) (σ : St) (bb2 : Nat) (y4 : Int32) (w1 : Int64) : Option (Int32 × St) :=
  (f_X3_tell_ σ w1 (((st_i σ (3 + 2 * bb2))).toInt64)).bind fun s9 =>
  some (y4, s9)
set_option maxRecDepth 100000 in
set_option maxHeartbeats 4000000 in
theorem t_X6_keys_n114 {Γ : St → Nat → List (Nat × Value) → List Value → Prop} {l : Launch} {a : Nat → Nat} {r : Int32} {t' : St} (hC : Cx Γ l cX6_keys RX6 5 (some .int) Rm_X6_keys wC a (some (.int r)) t') (x1 : Int32) (σ : St) (bb2 : Nat) (y4 : Int32) (w1 : Int64) (hbb2 : bb2 < 3) (h : f_X6_keys_n114 x1 σ bb2 y4 w1 = some (r, t')) : Γ σ 114 [(2, .ref (a (1 + bb2))), (4, .int y4)] [.long w1, .ref (a 7)] := by
  unfold f_X6_keys_n114 at h
  refine r_aload_n hC dX6_keys_114 rfl 0 rfl ?_
  refine G6_105 hC bb2 hbb2 dX6_keys_115 ?_
  refine r_i2l hC dX6_keys_118 ?_
  replace h := bind_of h
  obtain ⟨s9, hs9, h⟩ := h
  refine r_callV (As := [.long w1, .long (((st_i σ (3 + 2 * bb2))).toInt64)]) (rest := []) hC (con_X3_tell_ l σ w1 (((st_i σ (3 + 2 * bb2))).toInt64) hs9) K6_90 (ob3 a σ) rfl rfl rfl rfl ⟨Nat.le_of_ble_eq_true rfl, Nat.le_of_ble_eq_true rfl⟩ (Nat.le_of_ble_eq_true rfl) dX6_keys_119 ?_
  refine r_iload hC dX6_keys_122 1 rfl ?_
  exact r_iretS hC dX6_keys_124 h
def f_X6_keys_n93 (x1 : Int32) (σ : St) (bb2 : Nat) (y4 : Int32) : Option (Int32 × St) :=
  if (st_i σ 18) ≤ y4 then
    f_X6_keys_n114 x1 σ bb2 y4 (0 : Int64)
  else
  f_X6_keys_n114 x1 σ bb2 y4 (1 : Int64)
set_option maxRecDepth 100000 in
set_option maxHeartbeats 4000000 in
theorem t_X6_keys_n93 {Γ : St → Nat → List (Nat × Value) → List Value → Prop} {l : Launch} {a : Nat → Nat} {r : Int32} {t' : St} (hC : Cx Γ l cX6_keys RX6 5 (some .int) Rm_X6_keys wC a (some (.int r)) t') (x1 : Int32) (σ : St) (bb2 : Nat) (y4 : Int32) (hbb2 : bb2 < 3) (h : f_X6_keys_n93 x1 σ bb2 y4 = some (r, t')) : Γ σ 93 [(0, .ref (a 0)), (2, .ref (a (1 + bb2))), (4, .int y4)] [] := by
  unfold f_X6_keys_n93 at h
  refine r_aload_n hC dX6_keys_93 rfl 0 rfl ?_
  refine G6_53 hC dX6_keys_94 ?_
  refine r_iload hC dX6_keys_97 2 rfl ?_
  refine r_aload_n hC dX6_keys_99 rfl 0 rfl ?_
  refine G6_67 hC dX6_keys_100 ?_
  refine G6_132 hC dX6_keys_103 ?_
  refine r_icmp_ge hC 113 dX6_keys_106 (by decide) (fun q => ?_) (fun q => ?_)
  · replace h := if_p q h
    refine r_lconst (v := 0) hC dX6_keys_113 (by decide) ?_
    refine r_sub hC [1, 2] rfl ?_
    exact t_X6_keys_n114 hC x1 σ bb2 y4 (0 : Int64) hbb2 h
  · replace h := if_n q h
    refine r_lconst (v := 1) hC dX6_keys_109 (by decide) ?_
    refine r_goto hC 114 dX6_keys_110 (by decide) ?_
    refine r_sub hC [1, 2] rfl ?_
    exact t_X6_keys_n114 hC x1 σ bb2 y4 (1 : Int64) hbb2 h
def f_X6_keys_n49_b (x1 : Int32) (self : St → Nat → Int32 → Option (Int32 × St)) (σ : St) (bb2 : Nat) (y4 : Int32) : Option (Int32 × St) :=
  if (st_i σ 18) ≤ y4 then
    f_X6_keys_n93 x1 σ bb2 y4
  else
  (f_X1_keyAt σ y4).bind fun v1 =>
  (f_X1_goesOut σ y4).bind fun v2 =>
  bind2 (f_X6_doKey σ bb2 v1 v2) fun v4 s3 =>
  if v4 = 0 then
    f_X6_keys_n93 x1 s3 bb2 y4
  else
  lt_ (y4 + (1 : Int32)) fun v5 =>
  self s3 bb2 v5
def f_X6_keys_n49 (x1 : Int32) : Nat → St → Nat → Int32 → Option (Int32 × St)
  | 0 => fun _ _ _ => none
  | n + 1 => fun σ bb2 y4 => f_X6_keys_n49_b x1  (f_X6_keys_n49 x1  n) σ bb2 y4
set_option maxRecDepth 100000 in
set_option maxHeartbeats 4000000 in
theorem t_X6_keys_n49_b {Γ : St → Nat → List (Nat × Value) → List Value → Prop} {l : Launch} {a : Nat → Nat} {r : Int32} {t' : St} (hC : Cx Γ l cX6_keys RX6 5 (some .int) Rm_X6_keys wC a (some (.int r)) t') (x1 : Int32) (self : St → Nat → Int32 → Option (Int32 × St)) (hself : ∀ (σ : St) (bb2 : Nat) (y4 : Int32), bb2 < 3 → self σ bb2 y4 = some (r, t') → Γ σ 49 [(0, .ref (a 0)), (2, .ref (a (1 + bb2))), (4, .int y4)] []) (σ : St) (bb2 : Nat) (y4 : Int32) (hbb2 : bb2 < 3) (h : f_X6_keys_n49_b x1 self σ bb2 y4 = some (r, t')) : Γ σ 49 [(0, .ref (a 0)), (2, .ref (a (1 + bb2))), (4, .int y4)] [] := by
  unfold f_X6_keys_n49_b at h
  refine r_iload hC dX6_keys_49 2 rfl ?_
  refine r_aload_n hC dX6_keys_51 rfl 0 rfl ?_
  refine G6_67 hC dX6_keys_52 ?_
  refine G6_132 hC dX6_keys_55 ?_
  refine r_icmp_ge hC 93 dX6_keys_58 (by decide) (fun q => ?_) (fun q => ?_)
  · replace h := if_p q h
    exact t_X6_keys_n93 hC x1 σ bb2 y4 hbb2 h
  · replace h := if_n q h
    refine r_aload_n hC dX6_keys_61 rfl 0 rfl ?_
    refine r_aload_n hC dX6_keys_62 rfl 1 rfl ?_
    refine r_aload_n hC dX6_keys_63 rfl 0 rfl ?_
    refine G6_67 hC dX6_keys_64 ?_
    refine r_iload hC dX6_keys_67 2 rfl ?_
    replace h := bind_of h
    obtain ⟨v1, hv1, h⟩ := h
    refine r_callV (As := [.int y4]) (rest := [.ref (a (1 + bb2)), .ref (a 0)]) hC (con_X1_keyAt l σ y4 hv1) K6_133 (ob1 a σ) rfl rfl rfl rfl ⟨Nat.le_of_ble_eq_true rfl, Nat.le_of_ble_eq_true rfl⟩ (Nat.le_of_ble_eq_true rfl) dX6_keys_69 ?_
    refine r_aload_n hC dX6_keys_72 rfl 0 rfl ?_
    refine G6_67 hC dX6_keys_73 ?_
    refine r_iload hC dX6_keys_76 2 rfl ?_
    replace h := bind_of h
    obtain ⟨v2, hv2, h⟩ := h
    refine r_callV (As := [.int y4]) (rest := [.int v1, .ref (a (1 + bb2)), .ref (a 0)]) hC (con_X1_goesOut l σ y4 hv2) K6_136 (ob1 a σ) rfl rfl rfl rfl ⟨Nat.le_of_ble_eq_true rfl, Nat.le_of_ble_eq_true rfl⟩ (Nat.le_of_ble_eq_true rfl) dX6_keys_78 ?_
    replace h := bind2_of h
    obtain ⟨v4, s3, hs3, h⟩ := h
    refine r_callV (As := [.ref (a (1 + bb2)), .int v1, .int v2]) (rest := []) hC (con_X6_doKey l σ bb2 v1 v2 hbb2 hs3) K6_139 (ob6 a σ) rfl rfl rfl rfl ⟨Nat.le_of_ble_eq_true rfl, Nat.le_of_ble_eq_true rfl⟩ (Nat.le_of_ble_eq_true rfl) dX6_keys_81 ?_
    refine r_if_eq hC 93 dX6_keys_84 (by decide) (fun q => ?_) (fun q => ?_)
    · replace h := if_p q h
      exact t_X6_keys_n93 hC x1 s3 bb2 y4 hbb2 h
    · replace h := if_n q h
      replace h := lt_of h
      obtain ⟨v5, ev5, h⟩ := h
      refine r_iinc (c1 := 1) (lv' := [(4, .int v5), (0, .ref (a 0)), (2, .ref (a (1 + bb2)))]) hC dX6_keys_87 2 rfl (by decide) (by decide) ev5 rfl ?_
      refine r_goto hC 49 dX6_keys_90 (by decide) ?_
      refine r_sub hC [1, 2, 0] rfl ?_
      exact hself s3 bb2 v5 hbb2 h
set_option maxRecDepth 100000 in
set_option maxHeartbeats 4000000 in
theorem t_X6_keys_n49 {Γ : St → Nat → List (Nat × Value) → List Value → Prop} {l : Launch} {a : Nat → Nat} {r : Int32} {t' : St} (hC : Cx Γ l cX6_keys RX6 5 (some .int) Rm_X6_keys wC a (some (.int r)) t') (x1 : Int32) (n : Nat) : ∀ (σ : St) (bb2 : Nat) (y4 : Int32), bb2 < 3 → f_X6_keys_n49 x1 n σ bb2 y4 = some (r, t') → Γ σ 49 [(0, .ref (a 0)), (2, .ref (a (1 + bb2))), (4, .int y4)] [] := by
  induction n with
  | zero =>
    intro σ bb2 y4 hbb2 h
    have h : (none : Option (Int32 × St)) = some (r, t') := h
    cases h
  | succ n ih =>
    intro σ bb2 y4 hbb2 h
    exact t_X6_keys_n49_b hC x1    (f_X6_keys_n49 x1  n) ih σ bb2 y4 hbb2 h
def f_X6_keys_n26 (x1 : Int32) (σ : St) (o2 : Option Nat) (w0 : Int32) : Option (Int32 × St) :=
  bind2 (f_X5_cutTo σ (0 : Int32)) fun v7 s6 =>
  on_b o2 (
    some (w0, s6)) fun bb80 =>
  if 0 ≤ w0 then
    f_X6_keys_n49 x1 fuel s6 bb80 (0 : Int32)
  else
  some (w0, s6)
set_option maxRecDepth 100000 in
set_option maxHeartbeats 4000000 in
theorem t_X6_keys_n26 {Γ : St → Nat → List (Nat × Value) → List Value → Prop} {l : Launch} {a : Nat → Nat} {r : Int32} {t' : St} (hC : Cx Γ l cX6_keys RX6 5 (some .int) Rm_X6_keys wC a (some (.int r)) t') (x1 : Int32) (σ : St) (o2 : Option Nat) (w0 : Int32) (ho2 : ∀ z, o2 = some z → z < 3) (h : f_X6_keys_n26 x1 σ o2 w0 = some (r, t')) : Γ σ 26 [(0, .ref (a 0)), (2, rb_ a o2)] [.int w0] := by
  unfold f_X6_keys_n26 at h
  refine r_istore_n (lv' := [(3, .int w0), (0, .ref (a 0)), (2, rb_ a o2)]) (i := 3) hC dX6_keys_26 rfl (by decide) rfl (by simp [rb_cat]) ?_
  refine r_aload_n hC dX6_keys_27 rfl 1 rfl ?_
  refine G6_60 hC dX6_keys_28 ?_
  refine r_iconst (v := 0) hC dX6_keys_31 (by decide) ?_
  replace h := bind2_of h
  obtain ⟨v7, s6, hs6, h⟩ := h
  refine r_callV (As := [.int (0 : Int32)]) (rest := []) hC (con_X5_cutTo l σ (0 : Int32) hs6) K6_129 (ob5 a σ) rfl rfl rfl rfl ⟨Nat.le_of_ble_eq_true rfl, Nat.le_of_ble_eq_true rfl⟩ (Nat.le_of_ble_eq_true rfl) dX6_keys_32 ?_
  refine r_pop hC dX6_keys_35 rfl ?_
  refine r_aloadO_n hC dX6_keys_36 rfl 2 rfl ?_
  replace h := on_b_of h
  rcases h with ⟨rfl, h⟩ | ⟨bb80, rfl, h⟩
  · refine r_ifnullN hC 44 dX6_keys_37 (by decide) ?_
    refine r_iload_n hC dX6_keys_44 rfl 0 rfl ?_
    exact r_iretS hC dX6_keys_45 h
  · have hbb80 : bb80 < 3 := ho2 bb80 rfl
    refine r_ifnull hC dX6_keys_37 ?_
    refine r_iload_n hC dX6_keys_40 rfl 0 rfl ?_
    refine r_if_ge hC 46 dX6_keys_41 (by decide) (fun q => ?_) (fun q => ?_)
    · replace h := if_p q h
      refine r_iconst (v := 0) hC dX6_keys_46 (by decide) ?_
      refine r_istore (lv' := [(4, .int (0 : Int32)), (3, .int w0), (0, .ref (a 0)), (2, .ref (a (1 + bb80)))]) hC dX6_keys_47 (by decide) rfl rfl ?_
      refine r_sub hC [2, 3, 0] rfl ?_
      exact t_X6_keys_n49 hC x1 fuel s6 bb80 (0 : Int32) hbb80 h
    · replace h := if_n q h
      refine r_iload_n hC dX6_keys_44 rfl 0 rfl ?_
      exact r_iretS hC dX6_keys_45 h
def f_X6_keys (σ : St) (x1 : Int32) : Option (Int32 × St) :=
  lt_ (f_X6_bagOf x1) fun o10 =>
  on_b o10 (
    f_X6_keys_n26 x1 σ none (-1 : Int32)) fun bb110 =>
  bind2 (f_X1_read σ (1 : Int32)) fun v13 s12 =>
  f_X6_keys_n26 x1 s12 (some bb110) v13
set_option maxRecDepth 100000 in
set_option maxHeartbeats 4000000 in
theorem con_X6_keys (l : Launch) (σ : St) (x1 : Int32) {r : Int32} {t' : St} (h : f_X6_keys σ x1 = some (r, t')) : Con l yX6_keys cX6_keys 5 (some .int) Rm_X6_keys wC (fun a => [.ref (a 0), .int x1]) σ (fun _ => some (.int r)) t' := by
  refine con_of (by decide) ⟨rfl, rfl⟩ (fun _ => Nat.le_of_ble_eq_true rfl) (fun Γ a hC => ?_)
  have hC : Cx Γ l cX6_keys RX6 5 (some .int) Rm_X6_keys wC a (some (.int r)) t' := hC
  show Γ σ 0 [(0, .ref (a 0)), (1, .int x1)] []
  unfold f_X6_keys at h
  refine r_aload_n hC dX6_keys_0 rfl 0 rfl ?_
  refine r_iload_n hC dX6_keys_1 rfl 1 rfl ?_
  refine r_callV (As := [.int x1]) (rest := []) hC (con_X6_bagOf l σ x1) K6_75 (ob6 a σ) rfl rfl rfl rfl ⟨Nat.le_of_ble_eq_true rfl, Nat.le_of_ble_eq_true rfl⟩ (Nat.le_of_ble_eq_true rfl) dX6_keys_2 ?_
  replace h := lt_of h
  obtain ⟨o10, eo10, h⟩ := h
  have ho10 : ∀ z, o10 = some z → z < 3 := fun z q => bagOf_lt (eo10.symm.trans q)
  refine r_astoreO_n (lv' := [(2, rb_ a o10), (0, .ref (a 0)), (1, .int x1)]) hC dX6_keys_5 rfl (by decide) eo10 rfl ?_
  refine r_aloadO_n hC dX6_keys_6 rfl 0 rfl ?_
  replace h := on_b_of h
  rcases h with ⟨rfl, h⟩ | ⟨bb110, rfl, h⟩
  · refine r_ifnonnullN hC dX6_keys_7 ?_
    refine r_iconst (v := -1) hC dX6_keys_10 (by decide) ?_
    refine r_goto hC 26 dX6_keys_11 (by decide) ?_
    refine r_sub hC [1, 0] rfl ?_
    exact t_X6_keys_n26 hC x1 σ none (-1 : Int32) (fun _ q => by cases q) h
  · have hbb110 : bb110 < 3 := ho10 bb110 rfl
    refine r_ifnonnull hC 14 dX6_keys_7 (by decide) ?_
    refine r_aload_n hC dX6_keys_14 rfl 1 rfl ?_
    refine G6_67 hC dX6_keys_15 ?_
    refine r_aload_n hC dX6_keys_18 rfl 1 rfl ?_
    refine G6_60 hC dX6_keys_19 ?_
    refine r_iconst (v := 1) hC dX6_keys_22 (by decide) ?_
    replace h := bind2_of h
    obtain ⟨v13, s12, hs12, h⟩ := h
    refine r_callV (As := [.ref (a 8), .int (1 : Int32)]) (rest := []) hC (con_X1_read l σ (1 : Int32) hs12) K6_125 (ob1 a σ) rfl rfl rfl rfl ⟨Nat.le_of_ble_eq_true rfl, Nat.le_of_ble_eq_true rfl⟩ (Nat.le_of_ble_eq_true rfl) dX6_keys_23 ?_
    refine r_sub hC [1, 0] rfl ?_
    exact t_X6_keys_n26 hC x1 s12 (some bb110) v13 (fun _ q => by cases q; exact hbb110) h
abbrev Rm_X6_lays : Room := { frames := 5, cells := 0, slots := 0, locals := 117 }
def f_X6_lays_n29 (x1 : Int32) (σ : St) (o2 : Option Nat) (w0 : Int32) : Option (Int32 × St) :=
  bind2 (f_X5_cutTo σ (0 : Int32)) fun v2 s1 =>
  on_b o2 (
    some (w0, s1)) fun bb30 =>
  if 0 ≤ w0 then
    bind2 (f_X6_becomeRaw s1 bb30) fun v5 s4 =>
    some (v5, s4)
  else
  some (w0, s1)
set_option maxRecDepth 100000 in
set_option maxHeartbeats 4000000 in
theorem t_X6_lays_n29 {Γ : St → Nat → List (Nat × Value) → List Value → Prop} {l : Launch} {a : Nat → Nat} {r : Int32} {t' : St} (hC : Cx Γ l cX6_lays RX6 4 (some .int) Rm_X6_lays wC a (some (.int r)) t') (x1 : Int32) (σ : St) (o2 : Option Nat) (w0 : Int32) (ho2 : ∀ z, o2 = some z → z < 3) (h : f_X6_lays_n29 x1 σ o2 w0 = some (r, t')) : Γ σ 29 [(0, .ref (a 0)), (2, rb_ a o2)] [.int w0] := by
  unfold f_X6_lays_n29 at h
  refine r_istore_n (lv' := [(3, .int w0), (0, .ref (a 0)), (2, rb_ a o2)]) (i := 3) hC dX6_lays_29 rfl (by decide) rfl (by simp [rb_cat]) ?_
  refine r_aload_n hC dX6_lays_30 rfl 1 rfl ?_
  refine G6_60 hC dX6_lays_31 ?_
  refine r_iconst (v := 0) hC dX6_lays_34 (by decide) ?_
  replace h := bind2_of h
  obtain ⟨v2, s1, hs1, h⟩ := h
  refine r_callV (As := [.int (0 : Int32)]) (rest := []) hC (con_X5_cutTo l σ (0 : Int32) hs1) K6_129 (ob5 a σ) rfl rfl rfl rfl ⟨Nat.le_of_ble_eq_true rfl, Nat.le_of_ble_eq_true rfl⟩ (Nat.le_of_ble_eq_true rfl) dX6_lays_35 ?_
  refine r_pop hC dX6_lays_38 rfl ?_
  refine r_aloadO_n hC dX6_lays_39 rfl 2 rfl ?_
  replace h := on_b_of h
  rcases h with ⟨rfl, h⟩ | ⟨bb30, rfl, h⟩
  · refine r_ifnullN hC 47 dX6_lays_40 (by decide) ?_
    refine r_iload_n hC dX6_lays_47 rfl 0 rfl ?_
    exact r_iretS hC dX6_lays_48 h
  · have hbb30 : bb30 < 3 := ho2 bb30 rfl
    refine r_ifnull hC dX6_lays_40 ?_
    refine r_iload_n hC dX6_lays_43 rfl 0 rfl ?_
    refine r_if_ge hC 49 dX6_lays_44 (by decide) (fun q => ?_) (fun q => ?_)
    · replace h := if_p q h
      refine r_aload_n hC dX6_lays_49 rfl 1 rfl ?_
      refine r_aload_n hC dX6_lays_50 rfl 2 rfl ?_
      replace h := bind2_of h
      obtain ⟨v5, s4, hs4, h⟩ := h
      refine r_callV (As := [.ref (a (1 + bb30))]) (rest := []) hC (con_X6_becomeRaw l s1 bb30 hbb30 hs4) K6_189 (ob6 a s1) rfl rfl rfl rfl ⟨Nat.le_of_ble_eq_true rfl, Nat.le_of_ble_eq_true rfl⟩ (Nat.le_of_ble_eq_true rfl) dX6_lays_51 ?_
      exact r_iretS hC dX6_lays_54 h
    · replace h := if_n q h
      refine r_iload_n hC dX6_lays_47 rfl 0 rfl ?_
      exact r_iretS hC dX6_lays_48 h
def f_X6_lays (σ : St) (x1 : Int32) : Option (Int32 × St) :=
  lt_ (f_X6_bagOf x1) fun o6 =>
  on_b o6 (
    f_X6_lays_n29 x1 σ none (-1 : Int32)) fun bb70 =>
  bind2 (f_X4_readText σ (st_i σ 0)) fun v9 s8 =>
  f_X6_lays_n29 x1 s8 (some bb70) v9
set_option maxRecDepth 100000 in
set_option maxHeartbeats 4000000 in
theorem con_X6_lays (l : Launch) (σ : St) (x1 : Int32) {r : Int32} {t' : St} (h : f_X6_lays σ x1 = some (r, t')) : Con l yX6_lays cX6_lays 4 (some .int) Rm_X6_lays wC (fun a => [.ref (a 0), .int x1]) σ (fun _ => some (.int r)) t' := by
  refine con_of (by decide) ⟨rfl, rfl⟩ (fun _ => Nat.le_of_ble_eq_true rfl) (fun Γ a hC => ?_)
  have hC : Cx Γ l cX6_lays RX6 4 (some .int) Rm_X6_lays wC a (some (.int r)) t' := hC
  show Γ σ 0 [(0, .ref (a 0)), (1, .int x1)] []
  unfold f_X6_lays at h
  refine r_aload_n hC dX6_lays_0 rfl 0 rfl ?_
  refine r_iload_n hC dX6_lays_1 rfl 1 rfl ?_
  refine r_callV (As := [.int x1]) (rest := []) hC (con_X6_bagOf l σ x1) K6_75 (ob6 a σ) rfl rfl rfl rfl ⟨Nat.le_of_ble_eq_true rfl, Nat.le_of_ble_eq_true rfl⟩ (Nat.le_of_ble_eq_true rfl) dX6_lays_2 ?_
  replace h := lt_of h
  obtain ⟨o6, eo6, h⟩ := h
  have ho6 : ∀ z, o6 = some z → z < 3 := fun z q => bagOf_lt (eo6.symm.trans q)
  refine r_astoreO_n (lv' := [(2, rb_ a o6), (0, .ref (a 0)), (1, .int x1)]) hC dX6_lays_5 rfl (by decide) eo6 rfl ?_
  refine r_aloadO_n hC dX6_lays_6 rfl 0 rfl ?_
  replace h := on_b_of h
  rcases h with ⟨rfl, h⟩ | ⟨bb70, rfl, h⟩
  · refine r_ifnonnullN hC dX6_lays_7 ?_
    refine r_iconst (v := -1) hC dX6_lays_10 (by decide) ?_
    refine r_goto hC 29 dX6_lays_11 (by decide) ?_
    refine r_sub hC [1, 0] rfl ?_
    exact t_X6_lays_n29 hC x1 σ none (-1 : Int32) (fun _ q => by cases q) h
  · have hbb70 : bb70 < 3 := ho6 bb70 rfl
    refine r_ifnonnull hC 14 dX6_lays_7 (by decide) ?_
    refine r_aload_n hC dX6_lays_14 rfl 1 rfl ?_
    refine G6_46 hC dX6_lays_15 ?_
    refine r_aload_n hC dX6_lays_18 rfl 1 rfl ?_
    refine G6_60 hC dX6_lays_19 ?_
    refine r_aload_n hC dX6_lays_22 rfl 1 rfl ?_
    refine G6_7 hC dX6_lays_23 ?_
    replace h := bind2_of h
    obtain ⟨v9, s8, hs8, h⟩ := h
    refine r_callV (As := [.ref (a 8), .int (st_i σ 0)]) (rest := []) hC (con_X4_readText l σ (st_i σ 0) hs8) K6_185 (ob4 a σ) rfl rfl rfl rfl ⟨Nat.le_of_ble_eq_true rfl, Nat.le_of_ble_eq_true rfl⟩ (Nat.le_of_ble_eq_true rfl) dX6_lays_26 ?_
    refine r_sub hC [1, 0] rfl ?_
    exact t_X6_lays_n29 hC x1 s8 (some bb70) v9 (fun _ q => by cases q; exact hbb70) h
abbrev Rm_X6_load : Room := { frames := 0, cells := 0, slots := 0, locals := 0 }
def f_X6_load (σ : St) (x1 : Int32) : Option (Int32 × St) :=
  if x1 < (50 : Int32) then
    some ((-1 : Int32), σ)
  else
  if x1 ≤ (95 : Int32) then
    if x1 = (st_i σ 2) then
      some ((-2 : Int32), σ)
    else
    lt_ (st_i σ 2) fun v1 =>
    lt_ (put_i σ 2 x1) fun s2 =>
    some (v1, s2)
  else
  some ((-1 : Int32), σ)
set_option maxRecDepth 100000 in
set_option maxHeartbeats 4000000 in
theorem con_X6_load (l : Launch) (σ : St) (x1 : Int32) {r : Int32} {t' : St} (h : f_X6_load σ x1 = some (r, t')) : Con l yX6_load cX6_load 3 (some .int) Rm_X6_load wC (fun a => [.ref (a 0), .int x1]) σ (fun _ => some (.int r)) t' := by
  refine con_of (by decide) ⟨rfl, rfl⟩ (fun _ => Nat.le_of_ble_eq_true rfl) (fun Γ a hC => ?_)
  have hC : Cx Γ l cX6_load RX6 3 (some .int) Rm_X6_load wC a (some (.int r)) t' := hC
  show Γ σ 0 [(0, .ref (a 0)), (1, .int x1)] []
  unfold f_X6_load at h
  refine r_iload_n hC dX6_load_0 rfl 1 rfl ?_
  refine r_bipush (v := 50) hC dX6_load_1 (by decide) ?_
  refine r_icmp_lt hC 12 dX6_load_3 (by decide) (fun q => ?_) (fun q => ?_)
  · replace h := if_p q h
    refine r_iconst (v := -1) hC dX6_load_12 (by decide) ?_
    exact r_iretS hC dX6_load_13 h
  · replace h := if_n q h
    refine r_iload_n hC dX6_load_6 rfl 1 rfl ?_
    refine r_bipush (v := 95) hC dX6_load_7 (by decide) ?_
    refine r_icmp_le hC 14 dX6_load_9 (by decide) (fun q => ?_) (fun q => ?_)
    · replace h := if_p q h
      refine r_iload_n hC dX6_load_14 rfl 1 rfl ?_
      refine r_aload_n hC dX6_load_15 rfl 0 rfl ?_
      refine G6_17 hC dX6_load_16 ?_
      refine r_icmp_ne hC 25 dX6_load_19 (by decide) (fun q => ?_) (fun q => ?_)
      · replace h := if_n q h
        refine r_aload_n hC dX6_load_25 rfl 0 rfl ?_
        refine G6_17 hC dX6_load_26 ?_
        obtain ⟨v1, ev1, h⟩ := lt_of h
        refine r_istore_n (lv' := [(2, .int v1), (0, .ref (a 0)), (1, .int x1)]) hC dX6_load_29 rfl (by decide) ev1 rfl ?_
        refine r_aload_n hC dX6_load_30 rfl 1 rfl ?_
        refine r_iload_n hC dX6_load_31 rfl 2 rfl ?_
        obtain ⟨s2, es2, h⟩ := lt_of h
        refine P6_17 hC es2 dX6_load_32 ?_
        refine r_iload_n hC dX6_load_35 rfl 0 rfl ?_
        exact r_iretS hC dX6_load_36 h
      · replace h := if_p q h
        refine r_bipush (v := -2) hC dX6_load_22 (by decide) ?_
        exact r_iretS hC dX6_load_24 h
    · replace h := if_n q h
      refine r_iconst (v := -1) hC dX6_load_12 (by decide) ?_
      exact r_iretS hC dX6_load_13 h
abbrev Rm_X6_looks : Room := { frames := 4, cells := 0, slots := 0, locals := 96 }
def f_X6_looks_n63 (x1 : Int32) (k20 : St → Nat → Int32 → Int32 → Int32 → Option (Int32 × St)) (σ : St) (bb2 : Nat) (y3 : Int32) (y5 : Int32) (y6 : Int32) (w0 : Int32) : Option (Int32 × St) :=
  lt_ (if y3 < y6 then y6 else y3) fun v7 =>
  lt_ (y5 + (1 : Int32)) fun v8 =>
  k20 σ bb2 v7 w0 v8
set_option maxRecDepth 100000 in
set_option maxHeartbeats 4000000 in
theorem t_X6_looks_n63 {Γ : St → Nat → List (Nat × Value) → List Value → Prop} {l : Launch} {a : Nat → Nat} {r : Int32} {t' : St} (hC : Cx Γ l cX6_looks RX6 7 (some .int) Rm_X6_looks wC a (some (.int r)) t') (x1 : Int32) (k20 : St → Nat → Int32 → Int32 → Int32 → Option (Int32 × St)) (hk20 : ∀ (σ : St) (bb2 : Nat) (y3 : Int32) (y4 : Int32) (y5 : Int32), bb2 < 3 → k20 σ bb2 y3 y4 y5 = some (r, t') → Γ σ 20 [(0, .ref (a 0)), (2, .ref (a (1 + bb2))), (3, .int y3), (4, .int y4), (5, .int y5)] []) (σ : St) (bb2 : Nat) (y3 : Int32) (y5 : Int32) (y6 : Int32) (w0 : Int32) (hbb2 : bb2 < 3) (h : f_X6_looks_n63 x1 k20 σ bb2 y3 y5 y6 w0 = some (r, t')) : Γ σ 63 [(0, .ref (a 0)), (2, .ref (a (1 + bb2))), (3, .int y3), (5, .int y5), (6, .int y6)] [.int w0] := by
  unfold f_X6_looks_n63 at h
  refine r_istore (lv' := [(4, .int w0), (0, .ref (a 0)), (2, .ref (a (1 + bb2))), (3, .int y3), (5, .int y5), (6, .int y6)]) hC dX6_looks_63 (by decide) rfl rfl ?_
  refine r_iload_n hC dX6_looks_65 rfl 3 rfl ?_
  refine r_iload hC dX6_looks_66 5 rfl ?_
  refine r_mmax hC dX6_looks_68 K6_217 ⟨Nat.le_of_ble_eq_true rfl, Nat.le_of_ble_eq_true rfl⟩ ?_
  replace h := lt_of h
  obtain ⟨v7, ev7, h⟩ := h
  refine r_istore_n (lv' := [(3, .int v7), (4, .int w0), (0, .ref (a 0)), (2, .ref (a (1 + bb2))), (5, .int y5), (6, .int y6)]) hC dX6_looks_71 rfl (by decide) ev7 rfl ?_
  replace h := lt_of h
  obtain ⟨v8, ev8, h⟩ := h
  refine r_iinc (c1 := 1) (lv' := [(5, .int v8), (3, .int v7), (4, .int w0), (0, .ref (a 0)), (2, .ref (a (1 + bb2))), (6, .int y6)]) hC dX6_looks_72 4 rfl (by decide) (by decide) ev8 rfl ?_
  refine r_goto hC 20 dX6_looks_75 (by decide) ?_
  refine r_sub hC [3, 4, 1, 2, 0] rfl ?_
  exact hk20 σ bb2 v7 w0 v8 hbb2 h
def f_X6_looks_n20_b (x1 : Int32) (self : St → Nat → Int32 → Int32 → Int32 → Option (Int32 × St)) (σ : St) (bb2 : Nat) (y3 : Int32) (y4 : Int32) (y5 : Int32) : Option (Int32 × St) :=
  if (st_i σ (3 + 2 * bb2)) ≤ y5 then
    (f_X0_unlike σ bb2).bind fun v1 =>
    (f_X3_tell__ σ (y3.toInt64) (y4.toInt64) (v1.toInt64)).bind fun s2 =>
    (f_X6_allLookedAt s2 bb2 (st_i s2 (4 + 2 * bb2))).bind fun v3 =>
    some (v3, s2)
  else
  (f_X0_at σ bb2 y5).bind fun v4 =>
  (f_X6_lookedAt σ bb2 (st_i σ (4 + 2 * bb2)) v4).bind fun v5 =>
  if v5 ≤ y3 then
    f_X6_looks_n63 x1 self σ bb2 y3 y5 v5 y4
  else
  (f_X0_at σ bb2 y5).bind fun v6 =>
  f_X6_looks_n63 x1 self σ bb2 y3 y5 v5 v6
def f_X6_looks_n20 (x1 : Int32) : Nat → St → Nat → Int32 → Int32 → Int32 → Option (Int32 × St)
  | 0 => fun _ _ _ _ _ => none
  | n + 1 => fun σ bb2 y3 y4 y5 => f_X6_looks_n20_b x1  (f_X6_looks_n20 x1  n) σ bb2 y3 y4 y5
set_option maxRecDepth 100000 in
set_option maxHeartbeats 4000000 in
theorem t_X6_looks_n20_b {Γ : St → Nat → List (Nat × Value) → List Value → Prop} {l : Launch} {a : Nat → Nat} {r : Int32} {t' : St} (hC : Cx Γ l cX6_looks RX6 7 (some .int) Rm_X6_looks wC a (some (.int r)) t') (x1 : Int32) (self : St → Nat → Int32 → Int32 → Int32 → Option (Int32 × St)) (hself : ∀ (σ : St) (bb2 : Nat) (y3 : Int32) (y4 : Int32) (y5 : Int32), bb2 < 3 → self σ bb2 y3 y4 y5 = some (r, t') → Γ σ 20 [(0, .ref (a 0)), (2, .ref (a (1 + bb2))), (3, .int y3), (4, .int y4), (5, .int y5)] []) (σ : St) (bb2 : Nat) (y3 : Int32) (y4 : Int32) (y5 : Int32) (hbb2 : bb2 < 3) (h : f_X6_looks_n20_b x1 self σ bb2 y3 y4 y5 = some (r, t')) : Γ σ 20 [(0, .ref (a 0)), (2, .ref (a (1 + bb2))), (3, .int y3), (4, .int y4), (5, .int y5)] [] := by
  unfold f_X6_looks_n20_b at h
  refine r_iload hC dX6_looks_20 4 rfl ?_
  refine r_aload_n hC dX6_looks_22 rfl 1 rfl ?_
  refine G6_105 hC bb2 hbb2 dX6_looks_23 ?_
  refine r_icmp_ge hC 78 dX6_looks_26 (by decide) (fun q => ?_) (fun q => ?_)
  · replace h := if_p q h
    refine r_aload_n hC dX6_looks_78 rfl 0 rfl ?_
    refine G6_53 hC dX6_looks_79 ?_
    refine r_iload_n hC dX6_looks_82 rfl 2 rfl ?_
    refine r_i2l hC dX6_looks_83 ?_
    refine r_iload hC dX6_looks_84 3 rfl ?_
    refine r_i2l hC dX6_looks_86 ?_
    refine r_aload_n hC dX6_looks_87 rfl 1 rfl ?_
    replace h := bind_of h
    obtain ⟨v1, hv1, h⟩ := h
    refine r_callV (As := []) (rest := [.long (y4.toInt64), .long (y3.toInt64), .ref (a 7)]) hC (con_X0_unlike l σ bb2 hbb2 hv1) K6_237 (ob0 a σ bb2 hbb2) rfl rfl rfl rfl ⟨Nat.le_of_ble_eq_true rfl, Nat.le_of_ble_eq_true rfl⟩ (Nat.le_of_ble_eq_true rfl) dX6_looks_88 ?_
    refine r_i2l hC dX6_looks_91 ?_
    replace h := bind_of h
    obtain ⟨s2, hs2, h⟩ := h
    refine r_callV (As := [.long (y3.toInt64), .long (y4.toInt64), .long (v1.toInt64)]) (rest := []) hC (con_X3_tell__ l σ (y3.toInt64) (y4.toInt64) (v1.toInt64) hs2) K6_240 (ob3 a σ) rfl rfl rfl rfl ⟨Nat.le_of_ble_eq_true rfl, Nat.le_of_ble_eq_true rfl⟩ (Nat.le_of_ble_eq_true rfl) dX6_looks_92 ?_
    refine r_aload_n hC dX6_looks_95 rfl 0 rfl ?_
    refine r_aload_n hC dX6_looks_96 rfl 1 rfl ?_
    refine r_aload_n hC dX6_looks_97 rfl 1 rfl ?_
    refine G6_87 hC bb2 hbb2 dX6_looks_98 ?_
    replace h := bind_of h
    obtain ⟨v3, hv3, h⟩ := h
    refine r_callV (As := [.ref (a (1 + bb2)), .int (st_i s2 (4 + 2 * bb2))]) (rest := []) hC (con_X6_allLookedAt l s2 bb2 (st_i s2 (4 + 2 * bb2)) hbb2 hv3) K6_243 (ob6 a s2) rfl rfl rfl rfl ⟨Nat.le_of_ble_eq_true rfl, Nat.le_of_ble_eq_true rfl⟩ (Nat.le_of_ble_eq_true rfl) dX6_looks_101 ?_
    exact r_iretS hC dX6_looks_104 h
  · replace h := if_n q h
    refine r_aload_n hC dX6_looks_29 rfl 0 rfl ?_
    refine r_aload_n hC dX6_looks_30 rfl 1 rfl ?_
    refine r_aload_n hC dX6_looks_31 rfl 1 rfl ?_
    refine G6_87 hC bb2 hbb2 dX6_looks_32 ?_
    refine r_aload_n hC dX6_looks_35 rfl 1 rfl ?_
    refine r_iload hC dX6_looks_36 4 rfl ?_
    replace h := bind_of h
    obtain ⟨v4, hv4, h⟩ := h
    refine r_callV (As := [.int y5]) (rest := [.int (st_i σ (4 + 2 * bb2)), .ref (a (1 + bb2)), .ref (a 0)]) hC (con_X0_at l σ bb2 y5 hbb2 hv4) K6_164 (ob0 a σ bb2 hbb2) rfl rfl rfl rfl ⟨Nat.le_of_ble_eq_true rfl, Nat.le_of_ble_eq_true rfl⟩ (Nat.le_of_ble_eq_true rfl) dX6_looks_38 ?_
    replace h := bind_of h
    obtain ⟨v5, hv5, h⟩ := h
    refine r_callV (As := [.ref (a (1 + bb2)), .int (st_i σ (4 + 2 * bb2)), .int v4]) (rest := []) hC (con_X6_lookedAt l σ bb2 (st_i σ (4 + 2 * bb2)) v4 hbb2 hv5) K6_121 (ob6 a σ) rfl rfl rfl rfl ⟨Nat.le_of_ble_eq_true rfl, Nat.le_of_ble_eq_true rfl⟩ (Nat.le_of_ble_eq_true rfl) dX6_looks_41 ?_
    refine r_istore (lv' := [(6, .int v5), (0, .ref (a 0)), (2, .ref (a (1 + bb2))), (3, .int y3), (4, .int y4), (5, .int y5)]) hC dX6_looks_44 (by decide) rfl rfl ?_
    refine r_iload hC dX6_looks_46 0 rfl ?_
    refine r_iload_n hC dX6_looks_48 rfl 3 rfl ?_
    refine r_icmp_le hC 61 dX6_looks_49 (by decide) (fun q => ?_) (fun q => ?_)
    · replace h := if_p q h
      refine r_iload hC dX6_looks_61 4 rfl ?_
      refine r_sub hC [1, 2, 3, 5, 0] rfl ?_
      exact t_X6_looks_n63 hC x1 self hself σ bb2 y3 y5 v5 y4 hbb2 h
    · replace h := if_n q h
      refine r_aload_n hC dX6_looks_52 rfl 2 rfl ?_
      refine r_iload hC dX6_looks_53 5 rfl ?_
      replace h := bind_of h
      obtain ⟨v6, hv6, h⟩ := h
      refine r_callV (As := [.int y5]) (rest := []) hC (con_X0_at l σ bb2 y5 hbb2 hv6) K6_164 (ob0 a σ bb2 hbb2) rfl rfl rfl rfl ⟨Nat.le_of_ble_eq_true rfl, Nat.le_of_ble_eq_true rfl⟩ (Nat.le_of_ble_eq_true rfl) dX6_looks_55 ?_
      refine r_goto hC 63 dX6_looks_58 (by decide) ?_
      refine r_sub hC [1, 2, 3, 5, 0] rfl ?_
      exact t_X6_looks_n63 hC x1 self hself σ bb2 y3 y5 v5 v6 hbb2 h
set_option maxRecDepth 100000 in
set_option maxHeartbeats 4000000 in
theorem t_X6_looks_n20 {Γ : St → Nat → List (Nat × Value) → List Value → Prop} {l : Launch} {a : Nat → Nat} {r : Int32} {t' : St} (hC : Cx Γ l cX6_looks RX6 7 (some .int) Rm_X6_looks wC a (some (.int r)) t') (x1 : Int32) (n : Nat) : ∀ (σ : St) (bb2 : Nat) (y3 : Int32) (y4 : Int32) (y5 : Int32), bb2 < 3 → f_X6_looks_n20 x1 n σ bb2 y3 y4 y5 = some (r, t') → Γ σ 20 [(0, .ref (a 0)), (2, .ref (a (1 + bb2))), (3, .int y3), (4, .int y4), (5, .int y5)] [] := by
  induction n with
  | zero =>
    intro σ bb2 y3 y4 y5 hbb2 h
    have h : (none : Option (Int32 × St)) = some (r, t') := h
    cases h
  | succ n ih =>
    intro σ bb2 y3 y4 y5 hbb2 h
    exact t_X6_looks_n20_b hC x1    (f_X6_looks_n20 x1  n) ih σ bb2 y3 y4 y5 hbb2 h
def f_X6_looks (σ : St) (x1 : Int32) : Option (Int32 × St) :=
  lt_ (f_X6_bagOf x1) fun o9 =>
  on_b o9 (
    some ((-1 : Int32), σ)) fun bb100 =>
  f_X6_looks_n20 x1 fuel σ bb100 (0 : Int32) (-1 : Int32) (0 : Int32)
set_option maxRecDepth 100000 in
set_option maxHeartbeats 4000000 in
theorem con_X6_looks (l : Launch) (σ : St) (x1 : Int32) {r : Int32} {t' : St} (h : f_X6_looks σ x1 = some (r, t')) : Con l yX6_looks cX6_looks 7 (some .int) Rm_X6_looks wC (fun a => [.ref (a 0), .int x1]) σ (fun _ => some (.int r)) t' := by
  refine con_of (by decide) ⟨rfl, rfl⟩ (fun _ => Nat.le_of_ble_eq_true rfl) (fun Γ a hC => ?_)
  have hC : Cx Γ l cX6_looks RX6 7 (some .int) Rm_X6_looks wC a (some (.int r)) t' := hC
  show Γ σ 0 [(0, .ref (a 0)), (1, .int x1)] []
  unfold f_X6_looks at h
  refine r_aload_n hC dX6_looks_0 rfl 0 rfl ?_
  refine r_iload_n hC dX6_looks_1 rfl 1 rfl ?_
  refine r_callV (As := [.int x1]) (rest := []) hC (con_X6_bagOf l σ x1) K6_75 (ob6 a σ) rfl rfl rfl rfl ⟨Nat.le_of_ble_eq_true rfl, Nat.le_of_ble_eq_true rfl⟩ (Nat.le_of_ble_eq_true rfl) dX6_looks_2 ?_
  replace h := lt_of h
  obtain ⟨o9, eo9, h⟩ := h
  have ho9 : ∀ z, o9 = some z → z < 3 := fun z q => bagOf_lt (eo9.symm.trans q)
  refine r_astoreO_n (lv' := [(2, rb_ a o9), (0, .ref (a 0)), (1, .int x1)]) hC dX6_looks_5 rfl (by decide) eo9 rfl ?_
  refine r_aloadO_n hC dX6_looks_6 rfl 0 rfl ?_
  replace h := on_b_of h
  rcases h with ⟨rfl, h⟩ | ⟨bb100, rfl, h⟩
  · refine r_ifnonnullN hC dX6_looks_7 ?_
    refine r_iconst (v := -1) hC dX6_looks_10 (by decide) ?_
    exact r_iretS hC dX6_looks_11 h
  · have hbb100 : bb100 < 3 := ho9 bb100 rfl
    refine r_ifnonnull hC 12 dX6_looks_7 (by decide) ?_
    refine r_iconst (v := 0) hC dX6_looks_12 (by decide) ?_
    refine r_istore_n (lv' := [(3, .int (0 : Int32)), (2, .ref (a (1 + bb100))), (0, .ref (a 0)), (1, .int x1)]) hC dX6_looks_13 rfl (by decide) rfl rfl ?_
    refine r_iconst (v := -1) hC dX6_looks_14 (by decide) ?_
    refine r_istore (lv' := [(4, .int (-1 : Int32)), (3, .int (0 : Int32)), (2, .ref (a (1 + bb100))), (0, .ref (a 0)), (1, .int x1)]) hC dX6_looks_15 (by decide) rfl rfl ?_
    refine r_iconst (v := 0) hC dX6_looks_17 (by decide) ?_
    refine r_istore (lv' := [(5, .int (0 : Int32)), (4, .int (-1 : Int32)), (3, .int (0 : Int32)), (2, .ref (a (1 + bb100))), (0, .ref (a 0)), (1, .int x1)]) hC dX6_looks_18 (by decide) rfl rfl ?_
    refine r_sub hC [4, 3, 2, 1, 0] rfl ?_
    exact t_X6_looks_n20 hC x1 fuel σ bb100 (0 : Int32) (-1 : Int32) (0 : Int32) hbb100 h
abbrev Rm_X6_pour : Room := { frames := 3, cells := 0, slots := 0, locals := 67 }
def f_X6_pour_n2_b (b1 : Nat) (b2 : Nat) (self : St → Int32 → Option St) (σ : St) (y3 : Int32) : Option St :=
  if (st_i σ (3 + 2 * b1)) ≤ y3 then
    (f_X0_cutTo σ b1 (0 : Int32)).bind fun s1 =>
    (f_X6_fittingQ s1 (st_i s1 (4 + 2 * b2)) (st_i s1 (3 + 2 * b2))).bind fun v2 =>
    lt_ (put_i s1 (4 + 2 * b2) v2) fun s3 =>
    some s3
  else
  (f_X0_at σ b1 y3).bind fun v4 =>
  bind2 (f_X0_insert σ b2 v4) fun v6 s5 =>
  lt_ (y3 + (1 : Int32)) fun v7 =>
  self s5 v7
def f_X6_pour_n2 (b1 : Nat) (b2 : Nat) : Nat → St → Int32 → Option St
  | 0 => fun _ _ => none
  | n + 1 => fun σ y3 => f_X6_pour_n2_b b1 b2  (f_X6_pour_n2 b1 b2  n) σ y3
set_option maxRecDepth 100000 in
set_option maxHeartbeats 4000000 in
theorem t_X6_pour_n2_b {Γ : St → Nat → List (Nat × Value) → List Value → Prop} {l : Launch} {a : Nat → Nat} {t' : St} (hC : Cx Γ l cX6_pour RX6 4 none Rm_X6_pour wC a (none) t') (b1 : Nat) (b2 : Nat) (hb1 : b1 < 3) (hb2 : b2 < 3) (self : St → Int32 → Option St) (hself : ∀ (σ : St) (y3 : Int32), self σ y3 = some t' → Γ σ 2 [(0, .ref (a 0)), (1, .ref (a (1 + b1))), (2, .ref (a (1 + b2))), (3, .int y3)] []) (σ : St) (y3 : Int32) (h : f_X6_pour_n2_b b1 b2 self σ y3 = some t') : Γ σ 2 [(0, .ref (a 0)), (1, .ref (a (1 + b1))), (2, .ref (a (1 + b2))), (3, .int y3)] [] := by
  unfold f_X6_pour_n2_b at h
  refine r_iload_n hC dX6_pour_2 rfl 3 rfl ?_
  refine r_aload_n hC dX6_pour_3 rfl 1 rfl ?_
  refine G6_105 hC b1 hb1 dX6_pour_4 ?_
  refine r_icmp_ge hC 26 dX6_pour_7 (by decide) (fun q => ?_) (fun q => ?_)
  · replace h := if_p q h
    refine r_aload_n hC dX6_pour_26 rfl 1 rfl ?_
    refine r_iconst (v := 0) hC dX6_pour_27 (by decide) ?_
    obtain ⟨s1, hs1, h⟩ := bind_of h
    refine r_callV (As := [.int (0 : Int32)]) (rest := []) hC (con_X0_cutTo l σ b1 (0 : Int32) hb1 hs1) K6_263 (ob0 a σ b1 hb1) rfl rfl rfl rfl ⟨Nat.le_of_ble_eq_true rfl, Nat.le_of_ble_eq_true rfl⟩ (Nat.le_of_ble_eq_true rfl) dX6_pour_28 ?_
    refine r_aload_n hC dX6_pour_31 rfl 2 rfl ?_
    refine r_aload_n hC dX6_pour_32 rfl 0 rfl ?_
    refine r_aload_n hC dX6_pour_33 rfl 2 rfl ?_
    refine G6_87 hC b2 hb2 dX6_pour_34 ?_
    refine r_aload_n hC dX6_pour_37 rfl 2 rfl ?_
    refine G6_105 hC b2 hb2 dX6_pour_38 ?_
    obtain ⟨v2, hv2, h⟩ := bind_of h
    refine r_callV (As := [.int (st_i s1 (4 + 2 * b2)), .int (st_i s1 (3 + 2 * b2))]) (rest := [.ref (a (1 + b2))]) hC (con_X6_fittingQ l s1 (st_i s1 (4 + 2 * b2)) (st_i s1 (3 + 2 * b2)) hv2) K6_301 (ob6 a s1) rfl rfl rfl rfl ⟨Nat.le_of_ble_eq_true rfl, Nat.le_of_ble_eq_true rfl⟩ (Nat.le_of_ble_eq_true rfl) dX6_pour_41 ?_
    obtain ⟨s3, es3, h⟩ := lt_of h
    refine P6_87 hC b2 hb2 es3 dX6_pour_44 ?_
    exact r_vretS hC dX6_pour_47 h
  · replace h := if_n q h
    refine r_aload_n hC dX6_pour_10 rfl 2 rfl ?_
    refine r_aload_n hC dX6_pour_11 rfl 1 rfl ?_
    refine r_iload_n hC dX6_pour_12 rfl 3 rfl ?_
    obtain ⟨v4, hv4, h⟩ := bind_of h
    refine r_callV (As := [.int y3]) (rest := [.ref (a (1 + b2))]) hC (con_X0_at l σ b1 y3 hb1 hv4) K6_164 (ob0 a σ b1 hb1) rfl rfl rfl rfl ⟨Nat.le_of_ble_eq_true rfl, Nat.le_of_ble_eq_true rfl⟩ (Nat.le_of_ble_eq_true rfl) dX6_pour_13 ?_
    obtain ⟨v6, s5, hs5, h⟩ := bind2_of h
    refine r_callV (As := [.int v4]) (rest := []) hC (con_X0_insert l σ b2 v4 hb2 hs5) K6_234 (ob0 a σ b2 hb2) rfl rfl rfl rfl ⟨Nat.le_of_ble_eq_true rfl, Nat.le_of_ble_eq_true rfl⟩ (Nat.le_of_ble_eq_true rfl) dX6_pour_16 ?_
    refine r_pop hC dX6_pour_19 rfl ?_
    obtain ⟨v7, ev7, h⟩ := lt_of h
    refine r_iinc (c1 := 1) (lv' := [(3, .int v7), (0, .ref (a 0)), (1, .ref (a (1 + b1))), (2, .ref (a (1 + b2)))]) hC dX6_pour_20 3 rfl (by decide) (by decide) ev7 rfl ?_
    refine r_goto hC 2 dX6_pour_23 (by decide) ?_
    refine r_sub hC [1, 2, 3, 0] rfl ?_
    exact hself s5 v7 h
set_option maxRecDepth 100000 in
set_option maxHeartbeats 4000000 in
theorem t_X6_pour_n2 {Γ : St → Nat → List (Nat × Value) → List Value → Prop} {l : Launch} {a : Nat → Nat} {t' : St} (hC : Cx Γ l cX6_pour RX6 4 none Rm_X6_pour wC a (none) t') (b1 : Nat) (b2 : Nat) (hb1 : b1 < 3) (hb2 : b2 < 3) (n : Nat) : ∀ (σ : St) (y3 : Int32), f_X6_pour_n2 b1 b2 n σ y3 = some t' → Γ σ 2 [(0, .ref (a 0)), (1, .ref (a (1 + b1))), (2, .ref (a (1 + b2))), (3, .int y3)] [] := by
  induction n with
  | zero =>
    intro σ y3  h
    have h : (none : Option St) = some t' := h
    cases h
  | succ n ih =>
    intro σ y3  h
    exact t_X6_pour_n2_b hC b1 b2 hb1 hb2   (f_X6_pour_n2 b1 b2  n) ih σ y3  h
def f_X6_pour (σ : St) (b1 : Nat) (b2 : Nat) : Option St :=
  f_X6_pour_n2 b1 b2 fuel σ (0 : Int32)
set_option maxRecDepth 100000 in
set_option maxHeartbeats 4000000 in
theorem con_X6_pour (l : Launch) (σ : St) (b1 : Nat) (b2 : Nat) (hb1 : b1 < 3) (hb2 : b2 < 3) {t' : St} (h : f_X6_pour σ b1 b2 = some t') : Con l yX6_pour cX6_pour 4 none Rm_X6_pour wC (fun a => [.ref (a 0), .ref (a (1 + b1)), .ref (a (1 + b2))]) σ (fun _ => none) t' := by
  refine con_of (by decide) ⟨rfl, rfl⟩ (fun _ => Nat.le_of_ble_eq_true rfl) (fun Γ a hC => ?_)
  have hC : Cx Γ l cX6_pour RX6 4 none Rm_X6_pour wC a (none) t' := hC
  show Γ σ 0 [(0, .ref (a 0)), (1, .ref (a (1 + b1))), (2, .ref (a (1 + b2)))] []
  unfold f_X6_pour at h
  refine r_iconst (v := 0) hC dX6_pour_0 (by decide) ?_
  refine r_istore_n (lv' := [(3, .int (0 : Int32)), (0, .ref (a 0)), (1, .ref (a (1 + b1))), (2, .ref (a (1 + b2)))]) hC dX6_pour_1 rfl (by decide) rfl rfl ?_
  refine r_sub hC [1, 2, 3, 0] rfl ?_
  exact t_X6_pour_n2 hC b1 b2 hb1 hb2 fuel σ (0 : Int32) h
abbrev Rm_X6_merges : Room := { frames := 4, cells := 0, slots := 0, locals := 90 }
def f_X6_merges (σ : St) : Option (Int32 × St) :=
  lt_ (st_i σ 5) fun v1 =>
  if v1 = 0 then
    some ((-2 : Int32), σ)
  else
  if (f_X6_fitTogether σ) = 0 then
    some ((-5 : Int32), σ)
  else
  (f_X6_pour σ 1 0).bind fun s2 =>
  (f_X3_tell_ s2 (((f_X0_slotCount s2 0)).toInt64) (((st_i s2 3)).toInt64)).bind fun s3 =>
  some (v1, s3)
set_option maxRecDepth 100000 in
set_option maxHeartbeats 4000000 in
theorem con_X6_merges (l : Launch) (σ : St) {r : Int32} {t' : St} (h : f_X6_merges σ = some (r, t')) : Con l yX6_merges cX6_merges 2 (some .int) Rm_X6_merges wC (fun a => [.ref (a 0)]) σ (fun _ => some (.int r)) t' := by
  refine con_of (by decide) ⟨rfl, rfl⟩ (fun _ => Nat.le_of_ble_eq_true rfl) (fun Γ a hC => ?_)
  have hC : Cx Γ l cX6_merges RX6 2 (some .int) Rm_X6_merges wC a (some (.int r)) t' := hC
  show Γ σ 0 [(0, .ref (a 0))] []
  unfold f_X6_merges at h
  refine r_aload_n hC dX6_merges_0 rfl 0 rfl ?_
  refine G6_27 hC dX6_merges_1 ?_
  refine G6_105 hC 1 (by decide) dX6_merges_4 ?_
  obtain ⟨v1, ev1, h⟩ := lt_of h
  refine r_istore_n (lv' := [(1, .int v1), (0, .ref (a 0))]) hC dX6_merges_7 rfl (by decide) ev1 rfl ?_
  refine r_iload_n hC dX6_merges_8 rfl 0 rfl ?_
  refine r_if_ne hC 15 dX6_merges_9 (by decide) (fun q => ?_) (fun q => ?_)
  · replace h := if_n q h
    refine r_aload_n hC dX6_merges_15 rfl 1 rfl ?_
    refine r_callV (As := []) (rest := []) hC (con_X6_fitTogether l σ rfl) K6_256 (ob6 a σ) rfl rfl rfl rfl ⟨Nat.le_of_ble_eq_true rfl, Nat.le_of_ble_eq_true rfl⟩ (Nat.le_of_ble_eq_true rfl) dX6_merges_16 ?_
    refine r_if_ne hC 25 dX6_merges_19 (by decide) (fun q => ?_) (fun q => ?_)
    · replace h := if_n q h
      refine r_aload_n hC dX6_merges_25 rfl 1 rfl ?_
      refine r_aload_n hC dX6_merges_26 rfl 1 rfl ?_
      refine G6_27 hC dX6_merges_27 ?_
      refine r_aload_n hC dX6_merges_30 rfl 1 rfl ?_
      refine G6_23 hC dX6_merges_31 ?_
      obtain ⟨s2, hs2, h⟩ := bind_of h
      refine r_callV (As := [.ref (a 2), .ref (a 1)]) (rest := []) hC (con_X6_pour l σ 1 0 (by decide) (by decide) hs2) K6_259 (ob6 a σ) rfl rfl rfl rfl ⟨Nat.le_of_ble_eq_true rfl, Nat.le_of_ble_eq_true rfl⟩ (Nat.le_of_ble_eq_true rfl) dX6_merges_34 ?_
      refine r_aload_n hC dX6_merges_37 rfl 1 rfl ?_
      refine G6_53 hC dX6_merges_38 ?_
      refine r_aload_n hC dX6_merges_41 rfl 1 rfl ?_
      refine G6_23 hC dX6_merges_42 ?_
      refine r_callV (As := []) (rest := [.ref (a 7)]) hC (con_X0_slotCount l s2 0 (by decide) rfl) K6_108 (ob0 a s2 0 (by decide)) rfl rfl rfl rfl ⟨Nat.le_of_ble_eq_true rfl, Nat.le_of_ble_eq_true rfl⟩ (Nat.le_of_ble_eq_true rfl) dX6_merges_45 ?_
      refine r_i2l hC dX6_merges_48 ?_
      refine r_aload_n hC dX6_merges_49 rfl 1 rfl ?_
      refine G6_23 hC dX6_merges_50 ?_
      refine G6_105 hC 0 (by decide) dX6_merges_53 ?_
      refine r_i2l hC dX6_merges_56 ?_
      obtain ⟨s3, hs3, h⟩ := bind_of h
      refine r_callV (As := [.long (((f_X0_slotCount s2 0)).toInt64), .long (((st_i s2 3)).toInt64)]) (rest := []) hC (con_X3_tell_ l s2 (((f_X0_slotCount s2 0)).toInt64) (((st_i s2 3)).toInt64) hs3) K6_90 (ob3 a s2) rfl rfl rfl rfl ⟨Nat.le_of_ble_eq_true rfl, Nat.le_of_ble_eq_true rfl⟩ (Nat.le_of_ble_eq_true rfl) dX6_merges_57 ?_
      refine r_iload_n hC dX6_merges_60 rfl 0 rfl ?_
      exact r_iretS hC dX6_merges_61 h
    · replace h := if_p q h
      refine r_bipush (v := -5) hC dX6_merges_22 (by decide) ?_
      exact r_iretS hC dX6_merges_24 h
  · replace h := if_p q h
    refine r_bipush (v := -2) hC dX6_merges_12 (by decide) ?_
    exact r_iretS hC dX6_merges_14 h
abbrev Rm_X6_missingOfTold : Room := { frames := 3, cells := 0, slots := 0, locals := 66 }
def f_X6_missingOfTold_n4_b (σ : St) (b1 : Nat) (self : Int32 → Int32 → Option Int32) (y2 : Int32) (y3 : Int32) : Option Int32 :=
  if (st_i σ 18) ≤ y3 then
    some y2
  else
  (f_X1_keyAt σ y3).bind fun v1 =>
  (f_X0_holds σ b1 (f_X6_printOf σ v1)).bind fun v2 =>
  if v2 = 0 then
    lt_ (y2 + (1 : Int32)) fun v4 =>
    lt_ (y3 + (1 : Int32)) fun v5 =>
    self v4 v5
  else
  lt_ (y3 + (1 : Int32)) fun v3 =>
  self y2 v3
def f_X6_missingOfTold_n4 (σ : St) (b1 : Nat) : Nat → Int32 → Int32 → Option Int32
  | 0 => fun _ _ => none
  | n + 1 => fun y2 y3 => f_X6_missingOfTold_n4_b σ b1  (f_X6_missingOfTold_n4 σ b1  n) y2 y3
set_option maxRecDepth 100000 in
set_option maxHeartbeats 4000000 in
theorem t_X6_missingOfTold_n4_b {Γ : St → Nat → List (Nat × Value) → List Value → Prop} {l : Launch} {a : Nat → Nat} {r : Int32} {σ : St} (hC : Cx Γ l cX6_missingOfTold RX6 4 (some .int) Rm_X6_missingOfTold wC a (some (.int r)) σ) (b1 : Nat) (hb1 : b1 < 3) (self : Int32 → Int32 → Option Int32) (hself : ∀ (y2 : Int32) (y3 : Int32), self y2 y3 = some r → Γ σ 4 [(0, .ref (a 0)), (1, .ref (a (1 + b1))), (2, .int y2), (3, .int y3)] []) (y2 : Int32) (y3 : Int32) (h : f_X6_missingOfTold_n4_b σ b1 self y2 y3 = some r) : Γ σ 4 [(0, .ref (a 0)), (1, .ref (a (1 + b1))), (2, .int y2), (3, .int y3)] [] := by
  unfold f_X6_missingOfTold_n4_b at h
  refine r_iload_n hC dX6_missingOfTold_4 rfl 3 rfl ?_
  refine r_aload_n hC dX6_missingOfTold_5 rfl 0 rfl ?_
  refine G6_67 hC dX6_missingOfTold_6 ?_
  refine G6_132 hC dX6_missingOfTold_9 ?_
  refine r_icmp_ge hC 43 dX6_missingOfTold_12 (by decide) (fun q => ?_) (fun q => ?_)
  · replace h := if_p q h
    refine r_iload_n hC dX6_missingOfTold_43 rfl 2 rfl ?_
    exact r_iretP hC dX6_missingOfTold_44 h
  · replace h := if_n q h
    refine r_aload_n hC dX6_missingOfTold_15 rfl 1 rfl ?_
    refine r_aload_n hC dX6_missingOfTold_16 rfl 0 rfl ?_
    refine r_aload_n hC dX6_missingOfTold_17 rfl 0 rfl ?_
    refine G6_67 hC dX6_missingOfTold_18 ?_
    refine r_iload_n hC dX6_missingOfTold_21 rfl 3 rfl ?_
    obtain ⟨v1, hv1, h⟩ := bind_of h
    refine r_callV (As := [.int y3]) (rest := [.ref (a 0), .ref (a (1 + b1))]) hC (con_X1_keyAt l σ y3 hv1) K6_133 (ob1 a σ) rfl rfl rfl rfl ⟨Nat.le_of_ble_eq_true rfl, Nat.le_of_ble_eq_true rfl⟩ (Nat.le_of_ble_eq_true rfl) dX6_missingOfTold_22 ?_
    refine r_callV (As := [.int v1]) (rest := [.ref (a (1 + b1))]) hC (con_X6_printOf l σ v1 rfl) K6_83 (ob6 a σ) rfl rfl rfl rfl ⟨Nat.le_of_ble_eq_true rfl, Nat.le_of_ble_eq_true rfl⟩ (Nat.le_of_ble_eq_true rfl) dX6_missingOfTold_25 ?_
    obtain ⟨v2, hv2, h⟩ := bind_of h
    refine r_callV (As := [.int (f_X6_printOf σ v1)]) (rest := []) hC (con_X0_holds l σ b1 (f_X6_printOf σ v1) hb1 hv2) K6_143 (ob0 a σ b1 hb1) rfl rfl rfl rfl ⟨Nat.le_of_ble_eq_true rfl, Nat.le_of_ble_eq_true rfl⟩ (Nat.le_of_ble_eq_true rfl) dX6_missingOfTold_28 ?_
    refine r_if_ne hC 37 dX6_missingOfTold_31 (by decide) (fun q => ?_) (fun q => ?_)
    · replace h := if_n q h
      obtain ⟨v3, ev3, h⟩ := lt_of h
      refine r_iinc (c1 := 1) (lv' := [(3, .int v3), (0, .ref (a 0)), (1, .ref (a (1 + b1))), (2, .int y2)]) hC dX6_missingOfTold_37 3 rfl (by decide) (by decide) ev3 rfl ?_
      refine r_goto hC 4 dX6_missingOfTold_40 (by decide) ?_
      refine r_sub hC [1, 2, 3, 0] rfl ?_
      exact hself y2 v3 h
    · replace h := if_p q h
      obtain ⟨v4, ev4, h⟩ := lt_of h
      refine r_iinc (c1 := 1) (lv' := [(2, .int v4), (0, .ref (a 0)), (1, .ref (a (1 + b1))), (3, .int y3)]) hC dX6_missingOfTold_34 2 rfl (by decide) (by decide) ev4 rfl ?_
      obtain ⟨v5, ev5, h⟩ := lt_of h
      refine r_iinc (c1 := 1) (lv' := [(3, .int v5), (2, .int v4), (0, .ref (a 0)), (1, .ref (a (1 + b1)))]) hC dX6_missingOfTold_37 3 rfl (by decide) (by decide) ev5 rfl ?_
      refine r_goto hC 4 dX6_missingOfTold_40 (by decide) ?_
      refine r_sub hC [2, 3, 1, 0] rfl ?_
      exact hself v4 v5 h
set_option maxRecDepth 100000 in
set_option maxHeartbeats 4000000 in
theorem t_X6_missingOfTold_n4 {Γ : St → Nat → List (Nat × Value) → List Value → Prop} {l : Launch} {a : Nat → Nat} {r : Int32} {σ : St} (hC : Cx Γ l cX6_missingOfTold RX6 4 (some .int) Rm_X6_missingOfTold wC a (some (.int r)) σ) (b1 : Nat) (hb1 : b1 < 3) (n : Nat) : ∀ (y2 : Int32) (y3 : Int32), f_X6_missingOfTold_n4 σ b1 n y2 y3 = some r → Γ σ 4 [(0, .ref (a 0)), (1, .ref (a (1 + b1))), (2, .int y2), (3, .int y3)] [] := by
  induction n with
  | zero =>
    intro y2 y3  h
    have h : (none : Option Int32) = some r := h
    cases h
  | succ n ih =>
    intro y2 y3  h
    exact t_X6_missingOfTold_n4_b hC b1 hb1   (f_X6_missingOfTold_n4 σ b1  n) ih y2 y3  h
def f_X6_missingOfTold (σ : St) (b1 : Nat) : Option Int32 :=
  f_X6_missingOfTold_n4 σ b1 fuel (0 : Int32) (0 : Int32)
set_option maxRecDepth 100000 in
set_option maxHeartbeats 4000000 in
theorem con_X6_missingOfTold (l : Launch) (σ : St) (b1 : Nat) (hb1 : b1 < 3) {r : Int32} (h : f_X6_missingOfTold σ b1 = some r) : Con l yX6_missingOfTold cX6_missingOfTold 4 (some .int) Rm_X6_missingOfTold wC (fun a => [.ref (a 0), .ref (a (1 + b1))]) σ (fun _ => some (.int r)) σ := by
  refine con_of (by decide) ⟨rfl, rfl⟩ (fun _ => Nat.le_of_ble_eq_true rfl) (fun Γ a hC => ?_)
  have hC : Cx Γ l cX6_missingOfTold RX6 4 (some .int) Rm_X6_missingOfTold wC a (some (.int r)) σ := hC
  show Γ σ 0 [(0, .ref (a 0)), (1, .ref (a (1 + b1)))] []
  unfold f_X6_missingOfTold at h
  refine r_iconst (v := 0) hC dX6_missingOfTold_0 (by decide) ?_
  refine r_istore_n (lv' := [(2, .int (0 : Int32)), (0, .ref (a 0)), (1, .ref (a (1 + b1)))]) hC dX6_missingOfTold_1 rfl (by decide) rfl rfl ?_
  refine r_iconst (v := 0) hC dX6_missingOfTold_2 (by decide) ?_
  refine r_istore_n (lv' := [(3, .int (0 : Int32)), (2, .int (0 : Int32)), (0, .ref (a 0)), (1, .ref (a (1 + b1)))]) hC dX6_missingOfTold_3 rfl (by decide) rfl rfl ?_
  refine r_sub hC [2, 3, 1, 0] rfl ?_
  exact t_X6_missingOfTold_n4 hC b1 hb1 fuel (0 : Int32) (0 : Int32) h
abbrev Rm_X6_nth : Room := { frames := 3, cells := 0, slots := 0, locals := 72 }
def f_X6_nth (σ : St) (x1 : Int32) (x2 : Int32) : Option (Int32 × St) :=
  lt_ (f_X6_bagOf x1) fun o1 =>
  on_b o1 (
    some ((-1 : Int32), σ)) fun bb20 =>
  if x2 < 0 then
    some ((-1 : Int32), σ)
  else
  if x2 < (st_i σ (3 + 2 * bb20)) then
    (f_X2_lay σ 0 bb20 (st_i σ 0)).bind fun s3 =>
    (f_X2_slotOf s3 0 x2).bind fun v4 =>
    (f_X3_tell s3 (v4.toInt64)).bind fun s5 =>
    (f_X0_at s5 bb20 x2).bind fun v6 =>
    some (v6, s5)
  else
  some ((-1 : Int32), σ)
set_option maxRecDepth 100000 in
set_option maxHeartbeats 4000000 in
theorem con_X6_nth (l : Launch) (σ : St) (x1 : Int32) (x2 : Int32) {r : Int32} {t' : St} (h : f_X6_nth σ x1 x2 = some (r, t')) : Con l yX6_nth cX6_nth 4 (some .int) Rm_X6_nth wC (fun a => [.ref (a 0), .int x1, .int x2]) σ (fun _ => some (.int r)) t' := by
  refine con_of (by decide) ⟨rfl, rfl⟩ (fun _ => Nat.le_of_ble_eq_true rfl) (fun Γ a hC => ?_)
  have hC : Cx Γ l cX6_nth RX6 4 (some .int) Rm_X6_nth wC a (some (.int r)) t' := hC
  show Γ σ 0 [(0, .ref (a 0)), (1, .int x1), (2, .int x2)] []
  unfold f_X6_nth at h
  refine r_aload_n hC dX6_nth_0 rfl 0 rfl ?_
  refine r_iload_n hC dX6_nth_1 rfl 1 rfl ?_
  refine r_callV (As := [.int x1]) (rest := []) hC (con_X6_bagOf l σ x1) K6_75 (ob6 a σ) rfl rfl rfl rfl ⟨Nat.le_of_ble_eq_true rfl, Nat.le_of_ble_eq_true rfl⟩ (Nat.le_of_ble_eq_true rfl) dX6_nth_2 ?_
  replace h := lt_of h
  obtain ⟨o1, eo1, h⟩ := h
  have ho1 : ∀ z, o1 = some z → z < 3 := fun z q => bagOf_lt (eo1.symm.trans q)
  refine r_astoreO_n (lv' := [(3, rb_ a o1), (0, .ref (a 0)), (1, .int x1), (2, .int x2)]) hC dX6_nth_5 rfl (by decide) eo1 rfl ?_
  refine r_aloadO_n hC dX6_nth_6 rfl 0 rfl ?_
  replace h := on_b_of h
  rcases h with ⟨rfl, h⟩ | ⟨bb20, rfl, h⟩
  · refine r_ifnullN hC 22 dX6_nth_7 (by decide) ?_
    refine r_iconst (v := -1) hC dX6_nth_22 (by decide) ?_
    exact r_iretS hC dX6_nth_23 h
  · have hbb20 : bb20 < 3 := ho1 bb20 rfl
    refine r_ifnull hC dX6_nth_7 ?_
    refine r_iload_n hC dX6_nth_10 rfl 3 rfl ?_
    refine r_if_lt hC 22 dX6_nth_11 (by decide) (fun q => ?_) (fun q => ?_)
    · replace h := if_p q h
      refine r_iconst (v := -1) hC dX6_nth_22 (by decide) ?_
      exact r_iretS hC dX6_nth_23 h
    · replace h := if_n q h
      refine r_iload_n hC dX6_nth_14 rfl 3 rfl ?_
      refine r_aload_n hC dX6_nth_15 rfl 0 rfl ?_
      refine G6_105 hC bb20 hbb20 dX6_nth_16 ?_
      refine r_icmp_lt hC 24 dX6_nth_19 (by decide) (fun q => ?_) (fun q => ?_)
      · replace h := if_p q h
        refine r_aload_n hC dX6_nth_24 rfl 1 rfl ?_
        refine G6_36 hC dX6_nth_25 ?_
        refine r_aload_n hC dX6_nth_28 rfl 0 rfl ?_
        refine r_aload_n hC dX6_nth_29 rfl 1 rfl ?_
        refine G6_7 hC dX6_nth_30 ?_
        replace h := bind_of h
        obtain ⟨s3, hs3, h⟩ := h
        refine r_callV (As := [.ref (a (1 + bb20)), .int (st_i σ 0)]) (rest := []) hC (con_X2_lay l σ 0 bb20 (st_i σ 0) (by decide) hbb20 hs3) K6_98 (ob2 a σ 0 (by decide)) rfl rfl rfl rfl ⟨Nat.le_of_ble_eq_true rfl, Nat.le_of_ble_eq_true rfl⟩ (Nat.le_of_ble_eq_true rfl) dX6_nth_33 ?_
        refine r_aload_n hC dX6_nth_36 rfl 1 rfl ?_
        refine G6_53 hC dX6_nth_37 ?_
        refine r_aload_n hC dX6_nth_40 rfl 1 rfl ?_
        refine G6_36 hC dX6_nth_41 ?_
        refine r_iload_n hC dX6_nth_44 rfl 3 rfl ?_
        replace h := bind_of h
        obtain ⟨v4, hv4, h⟩ := h
        refine r_callV (As := [.int x2]) (rest := [.ref (a 7)]) hC (con_X2_slotOf l s3 0 x2 (by decide) hv4) K6_102 (ob2 a s3 0 (by decide)) rfl rfl rfl rfl ⟨Nat.le_of_ble_eq_true rfl, Nat.le_of_ble_eq_true rfl⟩ (Nat.le_of_ble_eq_true rfl) dX6_nth_45 ?_
        refine r_i2l hC dX6_nth_48 ?_
        replace h := bind_of h
        obtain ⟨s5, hs5, h⟩ := h
        refine r_callV (As := [.long (v4.toInt64)]) (rest := []) hC (con_X3_tell l s3 (v4.toInt64) hs5) K6_115 (ob3 a s3) rfl rfl rfl rfl ⟨Nat.le_of_ble_eq_true rfl, Nat.le_of_ble_eq_true rfl⟩ (Nat.le_of_ble_eq_true rfl) dX6_nth_49 ?_
        refine r_aload_n hC dX6_nth_52 rfl 0 rfl ?_
        refine r_iload_n hC dX6_nth_53 rfl 3 rfl ?_
        replace h := bind_of h
        obtain ⟨v6, hv6, h⟩ := h
        refine r_callV (As := [.int x2]) (rest := []) hC (con_X0_at l s5 bb20 x2 hbb20 hv6) K6_164 (ob0 a s5 bb20 hbb20) rfl rfl rfl rfl ⟨Nat.le_of_ble_eq_true rfl, Nat.le_of_ble_eq_true rfl⟩ (Nat.le_of_ble_eq_true rfl) dX6_nth_54 ?_
        exact r_iretS hC dX6_nth_57 h
      · replace h := if_n q h
        refine r_iconst (v := -1) hC dX6_nth_22 (by decide) ?_
        exact r_iretS hC dX6_nth_23 h
abbrev Rm_X6_parts : Room := { frames := 3, cells := 0, slots := 0, locals := 67 }
def f_X6_parts_n72_b (x1 : Int32) (self : St → Int32 → Int32 → Int32 → Option (Int32 × St)) (σ : St) (y2 : Int32) (y3 : Int32) (y4 : Int32) : Option (Int32 × St) :=
  if (st_i σ 3) ≤ y4 then
    (f_X0_cutTo σ 0 y2).bind fun s1 =>
    some (y3, s1)
  else
  (f_X0_at σ 0 y4).bind fun v2 =>
  bind2 (f_X0_insert σ 1 v2) fun v4 s3 =>
  lt_ (y4 + (1 : Int32)) fun v5 =>
  self s3 y2 y3 v5
def f_X6_parts_n72 (x1 : Int32) : Nat → St → Int32 → Int32 → Int32 → Option (Int32 × St)
  | 0 => fun _ _ _ _ => none
  | n + 1 => fun σ y2 y3 y4 => f_X6_parts_n72_b x1  (f_X6_parts_n72 x1  n) σ y2 y3 y4
set_option maxRecDepth 100000 in
set_option maxHeartbeats 4000000 in
theorem t_X6_parts_n72_b {Γ : St → Nat → List (Nat × Value) → List Value → Prop} {l : Launch} {a : Nat → Nat} {r : Int32} {t' : St} (hC : Cx Γ l cX6_parts RX6 5 (some .int) Rm_X6_parts wC a (some (.int r)) t') (x1 : Int32) (self : St → Int32 → Int32 → Int32 → Option (Int32 × St)) (hself : ∀ (σ : St) (y2 : Int32) (y3 : Int32) (y4 : Int32), self σ y2 y3 y4 = some (r, t') → Γ σ 72 [(0, .ref (a 0)), (2, .int y2), (3, .int y3), (4, .int y4)] []) (σ : St) (y2 : Int32) (y3 : Int32) (y4 : Int32) (h : f_X6_parts_n72_b x1 self σ y2 y3 y4 = some (r, t')) : Γ σ 72 [(0, .ref (a 0)), (2, .int y2), (3, .int y3), (4, .int y4)] [] := by
  unfold f_X6_parts_n72_b at h
  refine r_iload hC dX6_parts_72 3 rfl ?_
  refine r_aload_n hC dX6_parts_74 rfl 0 rfl ?_
  refine G6_23 hC dX6_parts_75 ?_
  refine G6_105 hC 0 (by decide) dX6_parts_78 ?_
  refine r_icmp_ge hC 107 dX6_parts_81 (by decide) (fun q => ?_) (fun q => ?_)
  · replace h := if_p q h
    refine r_aload_n hC dX6_parts_107 rfl 0 rfl ?_
    refine G6_23 hC dX6_parts_108 ?_
    refine r_iload_n hC dX6_parts_111 rfl 1 rfl ?_
    obtain ⟨s1, hs1, h⟩ := bind_of h
    refine r_callV (As := [.int y2]) (rest := []) hC (con_X0_cutTo l σ 0 y2 (by decide) hs1) K6_263 (ob0 a σ 0 (by decide)) rfl rfl rfl rfl ⟨Nat.le_of_ble_eq_true rfl, Nat.le_of_ble_eq_true rfl⟩ (Nat.le_of_ble_eq_true rfl) dX6_parts_112 ?_
    refine r_iload_n hC dX6_parts_115 rfl 2 rfl ?_
    exact r_iretS hC dX6_parts_116 h
  · replace h := if_n q h
    refine r_aload_n hC dX6_parts_84 rfl 0 rfl ?_
    refine G6_27 hC dX6_parts_85 ?_
    refine r_aload_n hC dX6_parts_88 rfl 0 rfl ?_
    refine G6_23 hC dX6_parts_89 ?_
    refine r_iload hC dX6_parts_92 3 rfl ?_
    obtain ⟨v2, hv2, h⟩ := bind_of h
    refine r_callV (As := [.int y4]) (rest := [.ref (a 2)]) hC (con_X0_at l σ 0 y4 (by decide) hv2) K6_164 (ob0 a σ 0 (by decide)) rfl rfl rfl rfl ⟨Nat.le_of_ble_eq_true rfl, Nat.le_of_ble_eq_true rfl⟩ (Nat.le_of_ble_eq_true rfl) dX6_parts_94 ?_
    obtain ⟨v4, s3, hs3, h⟩ := bind2_of h
    refine r_callV (As := [.int v2]) (rest := []) hC (con_X0_insert l σ 1 v2 (by decide) hs3) K6_234 (ob0 a σ 1 (by decide)) rfl rfl rfl rfl ⟨Nat.le_of_ble_eq_true rfl, Nat.le_of_ble_eq_true rfl⟩ (Nat.le_of_ble_eq_true rfl) dX6_parts_97 ?_
    refine r_pop hC dX6_parts_100 rfl ?_
    obtain ⟨v5, ev5, h⟩ := lt_of h
    refine r_iinc (c1 := 1) (lv' := [(4, .int v5), (0, .ref (a 0)), (2, .int y2), (3, .int y3)]) hC dX6_parts_101 3 rfl (by decide) (by decide) ev5 rfl ?_
    refine r_goto hC 72 dX6_parts_104 (by decide) ?_
    refine r_sub hC [1, 2, 3, 0] rfl ?_
    exact hself s3 y2 y3 v5 h
set_option maxRecDepth 100000 in
set_option maxHeartbeats 4000000 in
theorem t_X6_parts_n72 {Γ : St → Nat → List (Nat × Value) → List Value → Prop} {l : Launch} {a : Nat → Nat} {r : Int32} {t' : St} (hC : Cx Γ l cX6_parts RX6 5 (some .int) Rm_X6_parts wC a (some (.int r)) t') (x1 : Int32) (n : Nat) : ∀ (σ : St) (y2 : Int32) (y3 : Int32) (y4 : Int32), f_X6_parts_n72 x1 n σ y2 y3 y4 = some (r, t') → Γ σ 72 [(0, .ref (a 0)), (2, .int y2), (3, .int y3), (4, .int y4)] [] := by
  induction n with
  | zero =>
    intro σ y2 y3 y4  h
    have h : (none : Option (Int32 × St)) = some (r, t') := h
    cases h
  | succ n ih =>
    intro σ y2 y3 y4  h
    exact t_X6_parts_n72_b hC x1    (f_X6_parts_n72 x1  n) ih σ y2 y3 y4  h
def f_X6_parts (σ : St) (x1 : Int32) : Option (Int32 × St) :=
  if x1 < 0 then
    some ((-1 : Int32), σ)
  else
  if x1 < ((1 : Int32) <<< ((st_i σ 0) &&& 31)) then
    (f_X0_below σ 0 x1).bind fun v6 =>
    lt_ ((st_i σ 3) - v6) fun v7 =>
    if v7 = 0 then
      some ((-2 : Int32), σ)
    else
    if (st_i σ 5) ≤ 0 then
      (f_X0_emptyTo σ 1 (st_i σ 4)).bind fun s8 =>
      f_X6_parts_n72 x1 fuel s8 v6 v7 v6
    else
    some ((-3 : Int32), σ)
  else
  some ((-1 : Int32), σ)
set_option maxRecDepth 100000 in
set_option maxHeartbeats 4000000 in
theorem con_X6_parts (l : Launch) (σ : St) (x1 : Int32) {r : Int32} {t' : St} (h : f_X6_parts σ x1 = some (r, t')) : Con l yX6_parts cX6_parts 5 (some .int) Rm_X6_parts wC (fun a => [.ref (a 0), .int x1]) σ (fun _ => some (.int r)) t' := by
  refine con_of (by decide) ⟨rfl, rfl⟩ (fun _ => Nat.le_of_ble_eq_true rfl) (fun Γ a hC => ?_)
  have hC : Cx Γ l cX6_parts RX6 5 (some .int) Rm_X6_parts wC a (some (.int r)) t' := hC
  show Γ σ 0 [(0, .ref (a 0)), (1, .int x1)] []
  unfold f_X6_parts at h
  refine r_iload_n hC dX6_parts_0 rfl 1 rfl ?_
  refine r_if_lt hC 14 dX6_parts_1 (by decide) (fun q => ?_) (fun q => ?_)
  · replace h := if_p q h
    refine r_iconst (v := -1) hC dX6_parts_14 (by decide) ?_
    exact r_iretS hC dX6_parts_15 h
  · replace h := if_n q h
    refine r_iload_n hC dX6_parts_4 rfl 1 rfl ?_
    refine r_iconst (v := 1) hC dX6_parts_5 (by decide) ?_
    refine r_aload_n hC dX6_parts_6 rfl 0 rfl ?_
    refine G6_7 hC dX6_parts_7 ?_
    refine r_ishl hC dX6_parts_10 ?_
    refine r_icmp_lt hC 16 dX6_parts_11 (by decide) (fun q => ?_) (fun q => ?_)
    · replace h := if_p q h
      refine r_aload_n hC dX6_parts_16 rfl 0 rfl ?_
      refine G6_23 hC dX6_parts_17 ?_
      refine r_iload_n hC dX6_parts_20 rfl 1 rfl ?_
      obtain ⟨v6, hv6, h⟩ := bind_of h
      refine r_callV (As := [.int x1]) (rest := []) hC (con_X0_below l σ 0 x1 (by decide) hv6) K6_198 (ob0 a σ 0 (by decide)) rfl rfl rfl rfl ⟨Nat.le_of_ble_eq_true rfl, Nat.le_of_ble_eq_true rfl⟩ (Nat.le_of_ble_eq_true rfl) dX6_parts_21 ?_
      refine r_istore_n (lv' := [(2, .int v6), (0, .ref (a 0)), (1, .int x1)]) hC dX6_parts_24 rfl (by decide) rfl rfl ?_
      refine r_aload_n hC dX6_parts_25 rfl 1 rfl ?_
      refine G6_23 hC dX6_parts_26 ?_
      refine G6_105 hC 0 (by decide) dX6_parts_29 ?_
      refine r_iload_n hC dX6_parts_32 rfl 0 rfl ?_
      refine r_isub hC dX6_parts_33 ?_
      obtain ⟨v7, ev7, h⟩ := lt_of h
      refine r_istore_n (lv' := [(3, .int v7), (2, .int v6), (0, .ref (a 0)), (1, .int x1)]) hC dX6_parts_34 rfl (by decide) ev7 rfl ?_
      refine r_iload_n hC dX6_parts_35 rfl 0 rfl ?_
      refine r_if_ne hC 42 dX6_parts_36 (by decide) (fun q => ?_) (fun q => ?_)
      · replace h := if_n q h
        refine r_aload_n hC dX6_parts_42 rfl 2 rfl ?_
        refine G6_27 hC dX6_parts_43 ?_
        refine G6_105 hC 1 (by decide) dX6_parts_46 ?_
        refine r_if_le hC 55 dX6_parts_49 (by decide) (fun q => ?_) (fun q => ?_)
        · replace h := if_p q h
          refine r_aload_n hC dX6_parts_55 rfl 2 rfl ?_
          refine G6_27 hC dX6_parts_56 ?_
          refine r_aload_n hC dX6_parts_59 rfl 2 rfl ?_
          refine G6_23 hC dX6_parts_60 ?_
          refine G6_87 hC 0 (by decide) dX6_parts_63 ?_
          obtain ⟨s8, hs8, h⟩ := bind_of h
          refine r_callV (As := [.int (st_i σ 4)]) (rest := []) hC (con_X0_emptyTo l σ 1 (st_i σ 4) (by decide) hs8) K6_71 (ob0 a σ 1 (by decide)) rfl rfl rfl rfl ⟨Nat.le_of_ble_eq_true rfl, Nat.le_of_ble_eq_true rfl⟩ (Nat.le_of_ble_eq_true rfl) dX6_parts_66 ?_
          refine r_iload_n hC dX6_parts_69 rfl 1 rfl ?_
          refine r_istore (lv' := [(4, .int v6), (3, .int v7), (2, .int v6), (0, .ref (a 0)), (1, .int x1)]) hC dX6_parts_70 (by decide) rfl rfl ?_
          refine r_sub hC [3, 2, 1, 0] rfl ?_
          exact t_X6_parts_n72 hC x1 fuel s8 v6 v7 v6 h
        · replace h := if_n q h
          refine r_bipush (v := -3) hC dX6_parts_52 (by decide) ?_
          exact r_iretS hC dX6_parts_54 h
      · replace h := if_p q h
        refine r_bipush (v := -2) hC dX6_parts_39 (by decide) ?_
        exact r_iretS hC dX6_parts_41 h
    · replace h := if_n q h
      refine r_iconst (v := -1) hC dX6_parts_14 (by decide) ?_
      exact r_iretS hC dX6_parts_15 h
abbrev Rm_X6_print : Room := { frames := 3, cells := 0, slots := 0, locals := 68 }
def f_X6_print (σ : St) (x1 : Int32) (x2 : Int32) : Option (Int32 × St) :=
  lt_ (f_X6_bagOf x1) fun o1 =>
  on_b o1 (
    some ((-1 : Int32), σ)) fun bb20 =>
  if (f_X6_isKey σ x2) = 0 then
    some ((-1 : Int32), σ)
  else
  lt_ (f_X6_printOf σ x2) fun v3 =>
  lt_ ((st_i σ 0) - (st_i σ (4 + 2 * bb20))) fun v4 =>
  (f_X3_tell_ σ (((v3 >>> (v4 &&& 31))).toInt64) (((v3 &&& (((1 : Int32) <<< (v4 &&& 31)) - (1 : Int32)))).toInt64)).bind fun s5 =>
  some (v3, s5)
set_option maxRecDepth 100000 in
set_option maxHeartbeats 4000000 in
theorem con_X6_print (l : Launch) (σ : St) (x1 : Int32) (x2 : Int32) {r : Int32} {t' : St} (h : f_X6_print σ x1 x2 = some (r, t')) : Con l yX6_print cX6_print 6 (some .int) Rm_X6_print wC (fun a => [.ref (a 0), .int x1, .int x2]) σ (fun _ => some (.int r)) t' := by
  refine con_of (by decide) ⟨rfl, rfl⟩ (fun _ => Nat.le_of_ble_eq_true rfl) (fun Γ a hC => ?_)
  have hC : Cx Γ l cX6_print RX6 6 (some .int) Rm_X6_print wC a (some (.int r)) t' := hC
  show Γ σ 0 [(0, .ref (a 0)), (1, .int x1), (2, .int x2)] []
  unfold f_X6_print at h
  refine r_aload_n hC dX6_print_0 rfl 0 rfl ?_
  refine r_iload_n hC dX6_print_1 rfl 1 rfl ?_
  refine r_callV (As := [.int x1]) (rest := []) hC (con_X6_bagOf l σ x1) K6_75 (ob6 a σ) rfl rfl rfl rfl ⟨Nat.le_of_ble_eq_true rfl, Nat.le_of_ble_eq_true rfl⟩ (Nat.le_of_ble_eq_true rfl) dX6_print_2 ?_
  replace h := lt_of h
  obtain ⟨o1, eo1, h⟩ := h
  have ho1 : ∀ z, o1 = some z → z < 3 := fun z q => bagOf_lt (eo1.symm.trans q)
  refine r_astoreO_n (lv' := [(3, rb_ a o1), (0, .ref (a 0)), (1, .int x1), (2, .int x2)]) hC dX6_print_5 rfl (by decide) eo1 rfl ?_
  refine r_aloadO_n hC dX6_print_6 rfl 0 rfl ?_
  replace h := on_b_of h
  rcases h with ⟨rfl, h⟩ | ⟨bb20, rfl, h⟩
  · refine r_ifnullN hC 17 dX6_print_7 (by decide) ?_
    refine r_iconst (v := -1) hC dX6_print_17 (by decide) ?_
    exact r_iretS hC dX6_print_18 h
  · have hbb20 : bb20 < 3 := ho1 bb20 rfl
    refine r_ifnull hC dX6_print_7 ?_
    refine r_iload_n hC dX6_print_10 rfl 3 rfl ?_
    refine r_callS (As := [.int x2]) (rest := []) hC (con_X6_isKey l σ x2 rfl) K6_79 rfl rfl rfl ⟨Nat.le_of_ble_eq_true rfl, Nat.le_of_ble_eq_true rfl⟩ (Nat.le_of_ble_eq_true rfl) dX6_print_11 ?_
    refine r_if_ne hC 19 dX6_print_14 (by decide) (fun q => ?_) (fun q => ?_)
    · replace h := if_n q h
      refine r_aload_n hC dX6_print_19 rfl 1 rfl ?_
      refine r_iload_n hC dX6_print_20 rfl 3 rfl ?_
      refine r_callV (As := [.int x2]) (rest := []) hC (con_X6_printOf l σ x2 rfl) K6_83 (ob6 a σ) rfl rfl rfl rfl ⟨Nat.le_of_ble_eq_true rfl, Nat.le_of_ble_eq_true rfl⟩ (Nat.le_of_ble_eq_true rfl) dX6_print_21 ?_
      replace h := lt_of h
      obtain ⟨v3, ev3, h⟩ := h
      refine r_istore (lv' := [(4, .int v3), (3, .ref (a (1 + bb20))), (0, .ref (a 0)), (1, .int x1), (2, .int x2)]) hC dX6_print_24 (by decide) ev3 rfl ?_
      refine r_aload_n hC dX6_print_26 rfl 2 rfl ?_
      refine G6_7 hC dX6_print_27 ?_
      refine r_aload_n hC dX6_print_30 rfl 1 rfl ?_
      refine G6_87 hC bb20 hbb20 dX6_print_31 ?_
      refine r_isub hC dX6_print_34 ?_
      replace h := lt_of h
      obtain ⟨v4, ev4, h⟩ := h
      refine r_istore (lv' := [(5, .int v4), (4, .int v3), (3, .ref (a (1 + bb20))), (0, .ref (a 0)), (1, .int x1), (2, .int x2)]) hC dX6_print_35 (by decide) ev4 rfl ?_
      refine r_aload_n hC dX6_print_37 rfl 3 rfl ?_
      refine G6_53 hC dX6_print_38 ?_
      refine r_iload hC dX6_print_41 1 rfl ?_
      refine r_iload hC dX6_print_43 0 rfl ?_
      refine r_ishr hC dX6_print_45 ?_
      refine r_i2l hC dX6_print_46 ?_
      refine r_iload hC dX6_print_47 1 rfl ?_
      refine r_iconst (v := 1) hC dX6_print_49 (by decide) ?_
      refine r_iload hC dX6_print_50 0 rfl ?_
      refine r_ishl hC dX6_print_52 ?_
      refine r_iconst (v := 1) hC dX6_print_53 (by decide) ?_
      refine r_isub hC dX6_print_54 ?_
      refine r_iand hC dX6_print_55 ?_
      refine r_i2l hC dX6_print_56 ?_
      replace h := bind_of h
      obtain ⟨s5, hs5, h⟩ := h
      refine r_callV (As := [.long (((v3 >>> (v4 &&& 31))).toInt64), .long (((v3 &&& (((1 : Int32) <<< (v4 &&& 31)) - (1 : Int32)))).toInt64)]) (rest := []) hC (con_X3_tell_ l σ (((v3 >>> (v4 &&& 31))).toInt64) (((v3 &&& (((1 : Int32) <<< (v4 &&& 31)) - (1 : Int32)))).toInt64) hs5) K6_90 (ob3 a σ) rfl rfl rfl rfl ⟨Nat.le_of_ble_eq_true rfl, Nat.le_of_ble_eq_true rfl⟩ (Nat.le_of_ble_eq_true rfl) dX6_print_57 ?_
      refine r_iload hC dX6_print_60 1 rfl ?_
      exact r_iretS hC dX6_print_62 h
    · replace h := if_p q h
      refine r_iconst (v := -1) hC dX6_print_17 (by decide) ?_
      exact r_iretS hC dX6_print_18 h
abbrev Rm_X6_puts : Room := { frames := 4, cells := 0, slots := 0, locals := 89 }
def f_X6_puts (σ : St) (x1 : Int32) (x2 : Int32) : Option (Int32 × St) :=
  lt_ (f_X6_bagOf x1) fun o1 =>
  on_b o1 (
    some ((-1 : Int32), σ)) fun bb20 =>
  if (f_X6_isKey σ x2) = 0 then
    some ((-1 : Int32), σ)
  else
  bind2 (f_X6_putIn σ bb20 (f_X6_printOf σ x2)) fun v4 s3 =>
  if 0 ≤ v4 then
    (f_X2_lay s3 0 bb20 (st_i s3 0)).bind fun s5 =>
    (f_X2_slotOf s5 0 v4).bind fun v6 =>
    (f_X3_tell_ s5 (v6.toInt64) (((st_i s5 (3 + 2 * bb20))).toInt64)).bind fun s7 =>
    some ((f_X0_slotCount s7 bb20), s7)
  else
  some ((-5 : Int32), s3)
set_option maxRecDepth 100000 in
set_option maxHeartbeats 4000000 in
theorem con_X6_puts (l : Launch) (σ : St) (x1 : Int32) (x2 : Int32) {r : Int32} {t' : St} (h : f_X6_puts σ x1 x2 = some (r, t')) : Con l yX6_puts cX6_puts 5 (some .int) Rm_X6_puts wC (fun a => [.ref (a 0), .int x1, .int x2]) σ (fun _ => some (.int r)) t' := by
  refine con_of (by decide) ⟨rfl, rfl⟩ (fun _ => Nat.le_of_ble_eq_true rfl) (fun Γ a hC => ?_)
  have hC : Cx Γ l cX6_puts RX6 5 (some .int) Rm_X6_puts wC a (some (.int r)) t' := hC
  show Γ σ 0 [(0, .ref (a 0)), (1, .int x1), (2, .int x2)] []
  unfold f_X6_puts at h
  refine r_aload_n hC dX6_puts_0 rfl 0 rfl ?_
  refine r_iload_n hC dX6_puts_1 rfl 1 rfl ?_
  refine r_callV (As := [.int x1]) (rest := []) hC (con_X6_bagOf l σ x1) K6_75 (ob6 a σ) rfl rfl rfl rfl ⟨Nat.le_of_ble_eq_true rfl, Nat.le_of_ble_eq_true rfl⟩ (Nat.le_of_ble_eq_true rfl) dX6_puts_2 ?_
  replace h := lt_of h
  obtain ⟨o1, eo1, h⟩ := h
  have ho1 : ∀ z, o1 = some z → z < 3 := fun z q => bagOf_lt (eo1.symm.trans q)
  refine r_astoreO_n (lv' := [(3, rb_ a o1), (0, .ref (a 0)), (1, .int x1), (2, .int x2)]) hC dX6_puts_5 rfl (by decide) eo1 rfl ?_
  refine r_aloadO_n hC dX6_puts_6 rfl 0 rfl ?_
  replace h := on_b_of h
  rcases h with ⟨rfl, h⟩ | ⟨bb20, rfl, h⟩
  · refine r_ifnullN hC 17 dX6_puts_7 (by decide) ?_
    refine r_iconst (v := -1) hC dX6_puts_17 (by decide) ?_
    exact r_iretS hC dX6_puts_18 h
  · have hbb20 : bb20 < 3 := ho1 bb20 rfl
    refine r_ifnull hC dX6_puts_7 ?_
    refine r_iload_n hC dX6_puts_10 rfl 3 rfl ?_
    refine r_callS (As := [.int x2]) (rest := []) hC (con_X6_isKey l σ x2 rfl) K6_79 rfl rfl rfl ⟨Nat.le_of_ble_eq_true rfl, Nat.le_of_ble_eq_true rfl⟩ (Nat.le_of_ble_eq_true rfl) dX6_puts_11 ?_
    refine r_if_ne hC 19 dX6_puts_14 (by decide) (fun q => ?_) (fun q => ?_)
    · replace h := if_n q h
      refine r_aload_n hC dX6_puts_19 rfl 1 rfl ?_
      refine r_aload_n hC dX6_puts_20 rfl 0 rfl ?_
      refine r_aload_n hC dX6_puts_21 rfl 1 rfl ?_
      refine r_iload_n hC dX6_puts_22 rfl 3 rfl ?_
      refine r_callV (As := [.int x2]) (rest := [.ref (a (1 + bb20)), .ref (a 0)]) hC (con_X6_printOf l σ x2 rfl) K6_83 (ob6 a σ) rfl rfl rfl rfl ⟨Nat.le_of_ble_eq_true rfl, Nat.le_of_ble_eq_true rfl⟩ (Nat.le_of_ble_eq_true rfl) dX6_puts_23 ?_
      replace h := bind2_of h
      obtain ⟨v4, s3, hs3, h⟩ := h
      refine r_callV (As := [.ref (a (1 + bb20)), .int (f_X6_printOf σ x2)]) (rest := []) hC (con_X6_putIn l σ bb20 (f_X6_printOf σ x2) hbb20 hs3) K6_94 (ob6 a σ) rfl rfl rfl rfl ⟨Nat.le_of_ble_eq_true rfl, Nat.le_of_ble_eq_true rfl⟩ (Nat.le_of_ble_eq_true rfl) dX6_puts_26 ?_
      refine r_istore (lv' := [(4, .int v4), (3, .ref (a (1 + bb20))), (0, .ref (a 0)), (1, .int x1), (2, .int x2)]) hC dX6_puts_29 (by decide) rfl rfl ?_
      refine r_iload hC dX6_puts_31 0 rfl ?_
      refine r_if_ge hC 39 dX6_puts_33 (by decide) (fun q => ?_) (fun q => ?_)
      · replace h := if_p q h
        refine r_aload_n hC dX6_puts_39 rfl 2 rfl ?_
        refine G6_36 hC dX6_puts_40 ?_
        refine r_aload_n hC dX6_puts_43 rfl 1 rfl ?_
        refine r_aload_n hC dX6_puts_44 rfl 2 rfl ?_
        refine G6_7 hC dX6_puts_45 ?_
        replace h := bind_of h
        obtain ⟨s5, hs5, h⟩ := h
        refine r_callV (As := [.ref (a (1 + bb20)), .int (st_i s3 0)]) (rest := []) hC (con_X2_lay l s3 0 bb20 (st_i s3 0) (by decide) hbb20 hs5) K6_98 (ob2 a s3 0 (by decide)) rfl rfl rfl rfl ⟨Nat.le_of_ble_eq_true rfl, Nat.le_of_ble_eq_true rfl⟩ (Nat.le_of_ble_eq_true rfl) dX6_puts_48 ?_
        refine r_aload_n hC dX6_puts_51 rfl 2 rfl ?_
        refine G6_53 hC dX6_puts_52 ?_
        refine r_aload_n hC dX6_puts_55 rfl 2 rfl ?_
        refine G6_36 hC dX6_puts_56 ?_
        refine r_iload hC dX6_puts_59 0 rfl ?_
        replace h := bind_of h
        obtain ⟨v6, hv6, h⟩ := h
        refine r_callV (As := [.int v4]) (rest := [.ref (a 7)]) hC (con_X2_slotOf l s5 0 v4 (by decide) hv6) K6_102 (ob2 a s5 0 (by decide)) rfl rfl rfl rfl ⟨Nat.le_of_ble_eq_true rfl, Nat.le_of_ble_eq_true rfl⟩ (Nat.le_of_ble_eq_true rfl) dX6_puts_61 ?_
        refine r_i2l hC dX6_puts_64 ?_
        refine r_aload_n hC dX6_puts_65 rfl 1 rfl ?_
        refine G6_105 hC bb20 hbb20 dX6_puts_66 ?_
        refine r_i2l hC dX6_puts_69 ?_
        replace h := bind_of h
        obtain ⟨s7, hs7, h⟩ := h
        refine r_callV (As := [.long (v6.toInt64), .long (((st_i s5 (3 + 2 * bb20))).toInt64)]) (rest := []) hC (con_X3_tell_ l s5 (v6.toInt64) (((st_i s5 (3 + 2 * bb20))).toInt64) hs7) K6_90 (ob3 a s5) rfl rfl rfl rfl ⟨Nat.le_of_ble_eq_true rfl, Nat.le_of_ble_eq_true rfl⟩ (Nat.le_of_ble_eq_true rfl) dX6_puts_70 ?_
        refine r_aload_n hC dX6_puts_73 rfl 1 rfl ?_
        refine r_callV (As := []) (rest := []) hC (con_X0_slotCount l s7 bb20 hbb20 rfl) K6_108 (ob0 a s7 bb20 hbb20) rfl rfl rfl rfl ⟨Nat.le_of_ble_eq_true rfl, Nat.le_of_ble_eq_true rfl⟩ (Nat.le_of_ble_eq_true rfl) dX6_puts_74 ?_
        exact r_iretS hC dX6_puts_77 h
      · replace h := if_n q h
        refine r_bipush (v := -5) hC dX6_puts_36 (by decide) ?_
        exact r_iretS hC dX6_puts_38 h
    · replace h := if_p q h
      refine r_iconst (v := -1) hC dX6_puts_17 (by decide) ?_
      exact r_iretS hC dX6_puts_18 h
abbrev Rm_X6_run : Room := { frames := 3, cells := 0, slots := 0, locals := 72 }
def f_X6_run_n100_b (x1 : Int32) (x2 : Int32) (self : St → Nat → Int32 → Int32 → Int32 → Int32 → Option (Int32 × St)) (σ : St) (bb3 : Nat) (y4 : Int32) (y5 : Int32) (y6 : Int32) (y7 : Int32) : Option (Int32 × St) :=
  if y6 ≤ y7 then
    some ((y6 - y5), σ)
  else
  (f_X0_at σ bb3 y7).bind fun v1 =>
  (f_X3_add σ (((v1 &&& (((1 : Int32) <<< (y4 &&& 31)) - (1 : Int32)))).toInt64)).bind fun s2 =>
  lt_ (y7 + (1 : Int32)) fun v3 =>
  self s2 bb3 y4 y5 y6 v3
def f_X6_run_n100 (x1 : Int32) (x2 : Int32) : Nat → St → Nat → Int32 → Int32 → Int32 → Int32 → Option (Int32 × St)
  | 0 => fun _ _ _ _ _ _ => none
  | n + 1 => fun σ bb3 y4 y5 y6 y7 => f_X6_run_n100_b x1 x2  (f_X6_run_n100 x1 x2  n) σ bb3 y4 y5 y6 y7
set_option maxRecDepth 100000 in
set_option maxHeartbeats 4000000 in
theorem t_X6_run_n100_b {Γ : St → Nat → List (Nat × Value) → List Value → Prop} {l : Launch} {a : Nat → Nat} {r : Int32} {t' : St} (hC : Cx Γ l cX6_run RX6 8 (some .int) Rm_X6_run wC a (some (.int r)) t') (x1 : Int32) (x2 : Int32) (self : St → Nat → Int32 → Int32 → Int32 → Int32 → Option (Int32 × St)) (hself : ∀ (σ : St) (bb3 : Nat) (y4 : Int32) (y5 : Int32) (y6 : Int32) (y7 : Int32), bb3 < 3 → self σ bb3 y4 y5 y6 y7 = some (r, t') → Γ σ 100 [(0, .ref (a 0)), (3, .ref (a (1 + bb3))), (4, .int y4), (5, .int y5), (6, .int y6), (7, .int y7)] []) (σ : St) (bb3 : Nat) (y4 : Int32) (y5 : Int32) (y6 : Int32) (y7 : Int32) (hbb3 : bb3 < 3) (h : f_X6_run_n100_b x1 x2 self σ bb3 y4 y5 y6 y7 = some (r, t')) : Γ σ 100 [(0, .ref (a 0)), (3, .ref (a (1 + bb3))), (4, .int y4), (5, .int y5), (6, .int y6), (7, .int y7)] [] := by
  unfold f_X6_run_n100_b at h
  refine r_iload hC dX6_run_100 5 rfl ?_
  refine r_iload hC dX6_run_102 4 rfl ?_
  refine r_icmp_ge hC 134 dX6_run_104 (by decide) (fun q => ?_) (fun q => ?_)
  · replace h := if_p q h
    refine r_iload hC dX6_run_134 4 rfl ?_
    refine r_iload hC dX6_run_136 3 rfl ?_
    refine r_isub hC dX6_run_138 ?_
    exact r_iretS hC dX6_run_139 h
  · replace h := if_n q h
    refine r_aload_n hC dX6_run_107 rfl 0 rfl ?_
    refine G6_53 hC dX6_run_108 ?_
    refine r_aload_n hC dX6_run_111 rfl 1 rfl ?_
    refine r_iload hC dX6_run_112 5 rfl ?_
    replace h := bind_of h
    obtain ⟨v1, hv1, h⟩ := h
    refine r_callV (As := [.int y7]) (rest := [.ref (a 7)]) hC (con_X0_at l σ bb3 y7 hbb3 hv1) K6_164 (ob0 a σ bb3 hbb3) rfl rfl rfl rfl ⟨Nat.le_of_ble_eq_true rfl, Nat.le_of_ble_eq_true rfl⟩ (Nat.le_of_ble_eq_true rfl) dX6_run_114 ?_
    refine r_iconst (v := 1) hC dX6_run_117 (by decide) ?_
    refine r_iload hC dX6_run_118 2 rfl ?_
    refine r_ishl hC dX6_run_120 ?_
    refine r_iconst (v := 1) hC dX6_run_121 (by decide) ?_
    refine r_isub hC dX6_run_122 ?_
    refine r_iand hC dX6_run_123 ?_
    refine r_i2l hC dX6_run_124 ?_
    replace h := bind_of h
    obtain ⟨s2, hs2, h⟩ := h
    refine r_callV (As := [.long (((v1 &&& (((1 : Int32) <<< (y4 &&& 31)) - (1 : Int32)))).toInt64)]) (rest := []) hC (con_X3_add l σ (((v1 &&& (((1 : Int32) <<< (y4 &&& 31)) - (1 : Int32)))).toInt64) hs2) K6_161 (ob3 a σ) rfl rfl rfl rfl ⟨Nat.le_of_ble_eq_true rfl, Nat.le_of_ble_eq_true rfl⟩ (Nat.le_of_ble_eq_true rfl) dX6_run_125 ?_
    replace h := lt_of h
    obtain ⟨v3, ev3, h⟩ := h
    refine r_iinc (c1 := 1) (lv' := [(7, .int v3), (0, .ref (a 0)), (3, .ref (a (1 + bb3))), (4, .int y4), (5, .int y5), (6, .int y6)]) hC dX6_run_128 5 rfl (by decide) (by decide) ev3 rfl ?_
    refine r_goto hC 100 dX6_run_131 (by decide) ?_
    refine r_sub hC [1, 2, 3, 4, 5, 0] rfl ?_
    exact hself s2 bb3 y4 y5 y6 v3 hbb3 h
set_option maxRecDepth 100000 in
set_option maxHeartbeats 4000000 in
theorem t_X6_run_n100 {Γ : St → Nat → List (Nat × Value) → List Value → Prop} {l : Launch} {a : Nat → Nat} {r : Int32} {t' : St} (hC : Cx Γ l cX6_run RX6 8 (some .int) Rm_X6_run wC a (some (.int r)) t') (x1 : Int32) (x2 : Int32) (n : Nat) : ∀ (σ : St) (bb3 : Nat) (y4 : Int32) (y5 : Int32) (y6 : Int32) (y7 : Int32), bb3 < 3 → f_X6_run_n100 x1 x2 n σ bb3 y4 y5 y6 y7 = some (r, t') → Γ σ 100 [(0, .ref (a 0)), (3, .ref (a (1 + bb3))), (4, .int y4), (5, .int y5), (6, .int y6), (7, .int y7)] [] := by
  induction n with
  | zero =>
    intro σ bb3 y4 y5 y6 y7 hbb3 h
    have h : (none : Option (Int32 × St)) = some (r, t') := h
    cases h
  | succ n ih =>
    intro σ bb3 y4 y5 y6 y7 hbb3 h
    exact t_X6_run_n100_b hC x1 x2    (f_X6_run_n100 x1 x2  n) ih σ bb3 y4 y5 y6 y7 hbb3 h
def f_X6_run (σ : St) (x1 : Int32) (x2 : Int32) : Option (Int32 × St) :=
  lt_ (f_X6_bagOf x1) fun o4 =>
  on_b o4 (
    some ((-1 : Int32), σ)) fun bb50 =>
  if x2 < 0 then
    some ((-1 : Int32), σ)
  else
  if x2 < (f_X0_slotCount σ bb50) then
    lt_ ((st_i σ 0) - (st_i σ (4 + 2 * bb50))) fun v6 =>
    (f_X0_below σ bb50 (x2 <<< (v6 &&& 31))).bind fun v7 =>
    (f_X0_below σ bb50 ((x2 + (1 : Int32)) <<< (v6 &&& 31))).bind fun v8 =>
    if v7 = v8 then
      some ((-2 : Int32), σ)
    else
    (f_X2_lay σ 0 bb50 (st_i σ 0)).bind fun s9 =>
    (f_X2_slotOf s9 0 v7).bind fun v10 =>
    (f_X3_tell s9 (v10.toInt64)).bind fun s11 =>
    f_X6_run_n100 x1 x2 fuel s11 bb50 v6 v7 v8 v7
  else
  some ((-1 : Int32), σ)
set_option maxRecDepth 100000 in
set_option maxHeartbeats 4000000 in
theorem con_X6_run (l : Launch) (σ : St) (x1 : Int32) (x2 : Int32) {r : Int32} {t' : St} (h : f_X6_run σ x1 x2 = some (r, t')) : Con l yX6_run cX6_run 8 (some .int) Rm_X6_run wC (fun a => [.ref (a 0), .int x1, .int x2]) σ (fun _ => some (.int r)) t' := by
  refine con_of (by decide) ⟨rfl, rfl⟩ (fun _ => Nat.le_of_ble_eq_true rfl) (fun Γ a hC => ?_)
  have hC : Cx Γ l cX6_run RX6 8 (some .int) Rm_X6_run wC a (some (.int r)) t' := hC
  show Γ σ 0 [(0, .ref (a 0)), (1, .int x1), (2, .int x2)] []
  unfold f_X6_run at h
  refine r_aload_n hC dX6_run_0 rfl 0 rfl ?_
  refine r_iload_n hC dX6_run_1 rfl 1 rfl ?_
  refine r_callV (As := [.int x1]) (rest := []) hC (con_X6_bagOf l σ x1) K6_75 (ob6 a σ) rfl rfl rfl rfl ⟨Nat.le_of_ble_eq_true rfl, Nat.le_of_ble_eq_true rfl⟩ (Nat.le_of_ble_eq_true rfl) dX6_run_2 ?_
  replace h := lt_of h
  obtain ⟨o4, eo4, h⟩ := h
  have ho4 : ∀ z, o4 = some z → z < 3 := fun z q => bagOf_lt (eo4.symm.trans q)
  refine r_astoreO_n (lv' := [(3, rb_ a o4), (0, .ref (a 0)), (1, .int x1), (2, .int x2)]) hC dX6_run_5 rfl (by decide) eo4 rfl ?_
  refine r_aloadO_n hC dX6_run_6 rfl 0 rfl ?_
  replace h := on_b_of h
  rcases h with ⟨rfl, h⟩ | ⟨bb50, rfl, h⟩
  · refine r_ifnullN hC 22 dX6_run_7 (by decide) ?_
    refine r_iconst (v := -1) hC dX6_run_22 (by decide) ?_
    exact r_iretS hC dX6_run_23 h
  · have hbb50 : bb50 < 3 := ho4 bb50 rfl
    refine r_ifnull hC dX6_run_7 ?_
    refine r_iload_n hC dX6_run_10 rfl 3 rfl ?_
    refine r_if_lt hC 22 dX6_run_11 (by decide) (fun q => ?_) (fun q => ?_)
    · replace h := if_p q h
      refine r_iconst (v := -1) hC dX6_run_22 (by decide) ?_
      exact r_iretS hC dX6_run_23 h
    · replace h := if_n q h
      refine r_iload_n hC dX6_run_14 rfl 3 rfl ?_
      refine r_aload_n hC dX6_run_15 rfl 0 rfl ?_
      refine r_callV (As := []) (rest := [.int x2]) hC (con_X0_slotCount l σ bb50 hbb50 rfl) K6_108 (ob0 a σ bb50 hbb50) rfl rfl rfl rfl ⟨Nat.le_of_ble_eq_true rfl, Nat.le_of_ble_eq_true rfl⟩ (Nat.le_of_ble_eq_true rfl) dX6_run_16 ?_
      refine r_icmp_lt hC 24 dX6_run_19 (by decide) (fun q => ?_) (fun q => ?_)
      · replace h := if_p q h
        refine r_aload_n hC dX6_run_24 rfl 1 rfl ?_
        refine G6_7 hC dX6_run_25 ?_
        refine r_aload_n hC dX6_run_28 rfl 0 rfl ?_
        refine G6_87 hC bb50 hbb50 dX6_run_29 ?_
        refine r_isub hC dX6_run_32 ?_
        replace h := lt_of h
        obtain ⟨v6, ev6, h⟩ := h
        refine r_istore (lv' := [(4, .int v6), (3, .ref (a (1 + bb50))), (0, .ref (a 0)), (1, .int x1), (2, .int x2)]) hC dX6_run_33 (by decide) ev6 rfl ?_
        refine r_aload_n hC dX6_run_35 rfl 1 rfl ?_
        refine r_iload_n hC dX6_run_36 rfl 4 rfl ?_
        refine r_iload hC dX6_run_37 0 rfl ?_
        refine r_ishl hC dX6_run_39 ?_
        replace h := bind_of h
        obtain ⟨v7, hv7, h⟩ := h
        refine r_callV (As := [.int (x2 <<< (v6 &&& 31))]) (rest := []) hC (con_X0_below l σ bb50 (x2 <<< (v6 &&& 31)) hbb50 hv7) K6_198 (ob0 a σ bb50 hbb50) rfl rfl rfl rfl ⟨Nat.le_of_ble_eq_true rfl, Nat.le_of_ble_eq_true rfl⟩ (Nat.le_of_ble_eq_true rfl) dX6_run_40 ?_
        refine r_istore (lv' := [(5, .int v7), (4, .int v6), (3, .ref (a (1 + bb50))), (0, .ref (a 0)), (1, .int x1), (2, .int x2)]) hC dX6_run_43 (by decide) rfl rfl ?_
        refine r_aload_n hC dX6_run_45 rfl 2 rfl ?_
        refine r_iload_n hC dX6_run_46 rfl 5 rfl ?_
        refine r_iconst (v := 1) hC dX6_run_47 (by decide) ?_
        refine r_iadd hC dX6_run_48 ?_
        refine r_iload hC dX6_run_49 1 rfl ?_
        refine r_ishl hC dX6_run_51 ?_
        replace h := bind_of h
        obtain ⟨v8, hv8, h⟩ := h
        refine r_callV (As := [.int ((x2 + (1 : Int32)) <<< (v6 &&& 31))]) (rest := []) hC (con_X0_below l σ bb50 ((x2 + (1 : Int32)) <<< (v6 &&& 31)) hbb50 hv8) K6_198 (ob0 a σ bb50 hbb50) rfl rfl rfl rfl ⟨Nat.le_of_ble_eq_true rfl, Nat.le_of_ble_eq_true rfl⟩ (Nat.le_of_ble_eq_true rfl) dX6_run_52 ?_
        refine r_istore (lv' := [(6, .int v8), (5, .int v7), (4, .int v6), (3, .ref (a (1 + bb50))), (0, .ref (a 0)), (1, .int x1), (2, .int x2)]) hC dX6_run_55 (by decide) rfl rfl ?_
        refine r_iload hC dX6_run_57 1 rfl ?_
        refine r_iload hC dX6_run_59 0 rfl ?_
        refine r_icmp_ne hC 67 dX6_run_61 (by decide) (fun q => ?_) (fun q => ?_)
        · replace h := if_n q h
          refine r_aload_n hC dX6_run_67 rfl 4 rfl ?_
          refine G6_36 hC dX6_run_68 ?_
          refine r_aload_n hC dX6_run_71 rfl 3 rfl ?_
          refine r_aload_n hC dX6_run_72 rfl 4 rfl ?_
          refine G6_7 hC dX6_run_73 ?_
          replace h := bind_of h
          obtain ⟨s9, hs9, h⟩ := h
          refine r_callV (As := [.ref (a (1 + bb50)), .int (st_i σ 0)]) (rest := []) hC (con_X2_lay l σ 0 bb50 (st_i σ 0) (by decide) hbb50 hs9) K6_98 (ob2 a σ 0 (by decide)) rfl rfl rfl rfl ⟨Nat.le_of_ble_eq_true rfl, Nat.le_of_ble_eq_true rfl⟩ (Nat.le_of_ble_eq_true rfl) dX6_run_76 ?_
          refine r_aload_n hC dX6_run_79 rfl 4 rfl ?_
          refine G6_53 hC dX6_run_80 ?_
          refine r_aload_n hC dX6_run_83 rfl 4 rfl ?_
          refine G6_36 hC dX6_run_84 ?_
          refine r_iload hC dX6_run_87 1 rfl ?_
          replace h := bind_of h
          obtain ⟨v10, hv10, h⟩ := h
          refine r_callV (As := [.int v7]) (rest := [.ref (a 7)]) hC (con_X2_slotOf l s9 0 v7 (by decide) hv10) K6_102 (ob2 a s9 0 (by decide)) rfl rfl rfl rfl ⟨Nat.le_of_ble_eq_true rfl, Nat.le_of_ble_eq_true rfl⟩ (Nat.le_of_ble_eq_true rfl) dX6_run_89 ?_
          refine r_i2l hC dX6_run_92 ?_
          replace h := bind_of h
          obtain ⟨s11, hs11, h⟩ := h
          refine r_callV (As := [.long (v10.toInt64)]) (rest := []) hC (con_X3_tell l s9 (v10.toInt64) hs11) K6_115 (ob3 a s9) rfl rfl rfl rfl ⟨Nat.le_of_ble_eq_true rfl, Nat.le_of_ble_eq_true rfl⟩ (Nat.le_of_ble_eq_true rfl) dX6_run_93 ?_
          refine r_iload hC dX6_run_96 1 rfl ?_
          refine r_istore (lv' := [(7, .int v7), (6, .int v8), (5, .int v7), (4, .int v6), (3, .ref (a (1 + bb50))), (0, .ref (a 0)), (1, .int x1), (2, .int x2)]) hC dX6_run_98 (by decide) rfl rfl ?_
          refine r_sub hC [5, 4, 3, 2, 1, 0] rfl ?_
          exact t_X6_run_n100 hC x1 x2 fuel s11 bb50 v6 v7 v8 v7 hbb50 h
        · replace h := if_p q h
          refine r_bipush (v := -2) hC dX6_run_64 (by decide) ?_
          exact r_iretS hC dX6_run_66 h
      · replace h := if_n q h
        refine r_iconst (v := -1) hC dX6_run_22 (by decide) ?_
        exact r_iretS hC dX6_run_23 h
abbrev Rm_X6_sets : Room := { frames := 5, cells := 0, slots := 0, locals := 117 }
def f_X6_sets (σ : St) (x1 : Int32) (x2 : Int32) (x3 : Int32) (x4 : Int32) : Option (Int32 × St) :=
  lt_ (f_X6_bagOf x1) fun o1 =>
  on_b o1 (
    some ((-1 : Int32), σ)) fun bb20 =>
  if (f_X6_isWord σ bb20 x2) = 0 then
    some ((-1 : Int32), σ)
  else
  lt_ (((x3.toInt64) <<< ((32 : Int32).toInt64 &&& 63)) ||| ((x4.toInt64) &&& (4294967295 : Int64))) fun v3 =>
  (f_X2_lay σ 0 bb20 (st_i σ 0)).bind fun s4 =>
  (f_X2_wordAt s4 0 x2).bind fun v5 =>
  if (lg_cmp v3 v5) = 0 then
    some ((-2 : Int32), s4)
  else
  bind2 (f_X4_readWord s4 0 x2 v3) fun v7 s6 =>
  if v7 = 0 then
    some ((-300 : Int32), s6)
  else
  bind2 (f_X6_becomeRaw s6 bb20) fun v9 s8 =>
  some (v9, s8)
set_option maxRecDepth 100000 in
set_option maxHeartbeats 4000000 in
theorem con_X6_sets (l : Launch) (σ : St) (x1 : Int32) (x2 : Int32) (x3 : Int32) (x4 : Int32) {r : Int32} {t' : St} (h : f_X6_sets σ x1 x2 x3 x4 = some (r, t')) : Con l yX6_sets cX6_sets 8 (some .int) Rm_X6_sets wC (fun a => [.ref (a 0), .int x1, .int x2, .int x3, .int x4]) σ (fun _ => some (.int r)) t' := by
  refine con_of (by decide) ⟨rfl, rfl⟩ (fun _ => Nat.le_of_ble_eq_true rfl) (fun Γ a hC => ?_)
  have hC : Cx Γ l cX6_sets RX6 8 (some .int) Rm_X6_sets wC a (some (.int r)) t' := hC
  show Γ σ 0 [(0, .ref (a 0)), (1, .int x1), (2, .int x2), (3, .int x3), (4, .int x4)] []
  unfold f_X6_sets at h
  refine r_aload_n hC dX6_sets_0 rfl 0 rfl ?_
  refine r_iload_n hC dX6_sets_1 rfl 1 rfl ?_
  refine r_callV (As := [.int x1]) (rest := []) hC (con_X6_bagOf l σ x1) K6_75 (ob6 a σ) rfl rfl rfl rfl ⟨Nat.le_of_ble_eq_true rfl, Nat.le_of_ble_eq_true rfl⟩ (Nat.le_of_ble_eq_true rfl) dX6_sets_2 ?_
  replace h := lt_of h
  obtain ⟨o1, eo1, h⟩ := h
  have ho1 : ∀ z, o1 = some z → z < 3 := fun z q => bagOf_lt (eo1.symm.trans q)
  refine r_astoreO (lv' := [(5, rb_ a o1), (0, .ref (a 0)), (1, .int x1), (2, .int x2), (3, .int x3), (4, .int x4)]) hC dX6_sets_5 (by decide) eo1 rfl ?_
  refine r_aloadO hC dX6_sets_7 0 rfl ?_
  replace h := on_b_of h
  rcases h with ⟨rfl, h⟩ | ⟨bb20, rfl, h⟩
  · refine r_ifnullN hC 22 dX6_sets_9 (by decide) ?_
    refine r_iconst (v := -1) hC dX6_sets_22 (by decide) ?_
    exact r_iretS hC dX6_sets_23 h
  · have hbb20 : bb20 < 3 := ho1 bb20 rfl
    refine r_ifnull hC dX6_sets_9 ?_
    refine r_aload_n hC dX6_sets_12 rfl 1 rfl ?_
    refine r_aload hC dX6_sets_13 0 rfl ?_
    refine r_iload_n hC dX6_sets_15 rfl 3 rfl ?_
    refine r_callV (As := [.ref (a (1 + bb20)), .int x2]) (rest := []) hC (con_X6_isWord l σ bb20 x2 hbb20 rfl) K6_170 (ob6 a σ) rfl rfl rfl rfl ⟨Nat.le_of_ble_eq_true rfl, Nat.le_of_ble_eq_true rfl⟩ (Nat.le_of_ble_eq_true rfl) dX6_sets_16 ?_
    refine r_if_ne hC 24 dX6_sets_19 (by decide) (fun q => ?_) (fun q => ?_)
    · replace h := if_n q h
      refine r_iload_n hC dX6_sets_24 rfl 4 rfl ?_
      refine r_i2l hC dX6_sets_25 ?_
      refine r_bipush (v := 32) hC dX6_sets_26 (by decide) ?_
      refine r_lshl hC dX6_sets_28 ?_
      refine r_iload hC dX6_sets_29 5 rfl ?_
      refine r_i2l hC dX6_sets_31 ?_
      refine r_ldc2 hC dX6_sets_32 kc6_192 ?_
      refine r_land hC dX6_sets_35 ?_
      refine r_lor hC dX6_sets_36 ?_
      replace h := lt_of h
      obtain ⟨v3, ev3, h⟩ := h
      refine r_lstore (lv' := [(6, .long v3), (5, .ref (a (1 + bb20))), (0, .ref (a 0)), (1, .int x1), (2, .int x2), (3, .int x3), (4, .int x4)]) hC dX6_sets_37 (by decide) ev3 rfl ?_
      refine r_aload_n hC dX6_sets_39 rfl 2 rfl ?_
      refine G6_36 hC dX6_sets_40 ?_
      refine r_aload hC dX6_sets_43 1 rfl ?_
      refine r_aload_n hC dX6_sets_45 rfl 2 rfl ?_
      refine G6_7 hC dX6_sets_46 ?_
      replace h := bind_of h
      obtain ⟨s4, hs4, h⟩ := h
      refine r_callV (As := [.ref (a (1 + bb20)), .int (st_i σ 0)]) (rest := []) hC (con_X2_lay l σ 0 bb20 (st_i σ 0) (by decide) hbb20 hs4) K6_98 (ob2 a σ 0 (by decide)) rfl rfl rfl rfl ⟨Nat.le_of_ble_eq_true rfl, Nat.le_of_ble_eq_true rfl⟩ (Nat.le_of_ble_eq_true rfl) dX6_sets_49 ?_
      refine r_lload hC dX6_sets_52 0 rfl ?_
      refine r_aload_n hC dX6_sets_54 rfl 2 rfl ?_
      refine G6_36 hC dX6_sets_55 ?_
      refine r_iload_n hC dX6_sets_58 rfl 4 rfl ?_
      replace h := bind_of h
      obtain ⟨v5, hv5, h⟩ := h
      refine r_callV (As := [.int x2]) (rest := [.long v3]) hC (con_X2_wordAt l s4 0 x2 (by decide) hv5) K6_181 (ob2 a s4 0 (by decide)) rfl rfl rfl rfl ⟨Nat.le_of_ble_eq_true rfl, Nat.le_of_ble_eq_true rfl⟩ (Nat.le_of_ble_eq_true rfl) dX6_sets_59 ?_
      refine r_lcmp hC dX6_sets_62 ?_
      refine r_if_ne hC 69 dX6_sets_63 (by decide) (fun q => ?_) (fun q => ?_)
      · replace h := if_n q h
        refine r_aload_n hC dX6_sets_69 rfl 2 rfl ?_
        refine G6_46 hC dX6_sets_70 ?_
        refine r_aload_n hC dX6_sets_73 rfl 2 rfl ?_
        refine G6_36 hC dX6_sets_74 ?_
        refine r_iload_n hC dX6_sets_77 rfl 4 rfl ?_
        refine r_lload hC dX6_sets_78 0 rfl ?_
        replace h := bind2_of h
        obtain ⟨v7, s6, hs6, h⟩ := h
        refine r_callV (As := [.ref (a 4), .int x2, .long v3]) (rest := []) hC (con_X4_readWord l s4 0 x2 v3 (by decide) hs6) K6_194 (ob4 a s4) rfl rfl rfl rfl ⟨Nat.le_of_ble_eq_true rfl, Nat.le_of_ble_eq_true rfl⟩ (Nat.le_of_ble_eq_true rfl) dX6_sets_80 ?_
        refine r_if_ne hC 90 dX6_sets_83 (by decide) (fun q => ?_) (fun q => ?_)
        · replace h := if_n q h
          refine r_aload_n hC dX6_sets_90 rfl 2 rfl ?_
          refine r_aload hC dX6_sets_91 1 rfl ?_
          replace h := bind2_of h
          obtain ⟨v9, s8, hs8, h⟩ := h
          refine r_callV (As := [.ref (a (1 + bb20))]) (rest := []) hC (con_X6_becomeRaw l s6 bb20 hbb20 hs8) K6_189 (ob6 a s6) rfl rfl rfl rfl ⟨Nat.le_of_ble_eq_true rfl, Nat.le_of_ble_eq_true rfl⟩ (Nat.le_of_ble_eq_true rfl) dX6_sets_93 ?_
          exact r_iretS hC dX6_sets_96 h
        · replace h := if_p q h
          refine r_sipush (v := -300) hC dX6_sets_86 (by decide) ?_
          exact r_iretS hC dX6_sets_89 h
      · replace h := if_p q h
        refine r_bipush (v := -2) hC dX6_sets_66 (by decide) ?_
        exact r_iretS hC dX6_sets_68 h
    · replace h := if_p q h
      refine r_iconst (v := -1) hC dX6_sets_22 (by decide) ?_
      exact r_iretS hC dX6_sets_23 h
abbrev Rm_X6_shape : Room := { frames := 1, cells := 0, slots := 0, locals := 21 }
def f_X6_shape (σ : St) (x1 : Int32) (x2 : Int32) : Option (Int32 × St) :=
  if x1 < (6 : Int32) then
    some ((-1 : Int32), σ)
  else
  if (14 : Int32) < x1 then
    some ((-1 : Int32), σ)
  else
  if (x2 &&& (1 : Int32)) = 0 then
    some ((-1 : Int32), σ)
  else
  lt_ (st_i σ 0) fun v1 =>
  lt_ (put_i σ 0 x1) fun s2 =>
  lt_ (put_i s2 1 x2) fun s3 =>
  (f_X0_emptyTo s3 0 (3 : Int32)).bind fun s4 =>
  (f_X0_emptyTo s4 1 (3 : Int32)).bind fun s5 =>
  some (v1, s5)
set_option maxRecDepth 100000 in
set_option maxHeartbeats 4000000 in
theorem con_X6_shape (l : Launch) (σ : St) (x1 : Int32) (x2 : Int32) {r : Int32} {t' : St} (h : f_X6_shape σ x1 x2 = some (r, t')) : Con l yX6_shape cX6_shape 4 (some .int) Rm_X6_shape wC (fun a => [.ref (a 0), .int x1, .int x2]) σ (fun _ => some (.int r)) t' := by
  refine con_of (by decide) ⟨rfl, rfl⟩ (fun _ => Nat.le_of_ble_eq_true rfl) (fun Γ a hC => ?_)
  have hC : Cx Γ l cX6_shape RX6 4 (some .int) Rm_X6_shape wC a (some (.int r)) t' := hC
  show Γ σ 0 [(0, .ref (a 0)), (1, .int x1), (2, .int x2)] []
  unfold f_X6_shape at h
  refine r_iload_n hC dX6_shape_0 rfl 1 rfl ?_
  refine r_bipush (v := 6) hC dX6_shape_1 (by decide) ?_
  refine r_icmp_lt hC 18 dX6_shape_3 (by decide) (fun q => ?_) (fun q => ?_)
  · replace h := if_p q h
    refine r_iconst (v := -1) hC dX6_shape_18 (by decide) ?_
    exact r_iretS hC dX6_shape_19 h
  · replace h := if_n q h
    refine r_iload_n hC dX6_shape_6 rfl 1 rfl ?_
    refine r_bipush (v := 14) hC dX6_shape_7 (by decide) ?_
    refine r_icmp_gt hC 18 dX6_shape_9 (by decide) (fun q => ?_) (fun q => ?_)
    · replace h := if_p q h
      refine r_iconst (v := -1) hC dX6_shape_18 (by decide) ?_
      exact r_iretS hC dX6_shape_19 h
    · replace h := if_n q h
      refine r_iload_n hC dX6_shape_12 rfl 2 rfl ?_
      refine r_iconst (v := 1) hC dX6_shape_13 (by decide) ?_
      refine r_iand hC dX6_shape_14 ?_
      refine r_if_ne hC 20 dX6_shape_15 (by decide) (fun q => ?_) (fun q => ?_)
      · replace h := if_n q h
        refine r_aload_n hC dX6_shape_20 rfl 0 rfl ?_
        refine G6_7 hC dX6_shape_21 ?_
        obtain ⟨v1, ev1, h⟩ := lt_of h
        refine r_istore_n (lv' := [(3, .int v1), (0, .ref (a 0)), (1, .int x1), (2, .int x2)]) hC dX6_shape_24 rfl (by decide) ev1 rfl ?_
        refine r_aload_n hC dX6_shape_25 rfl 1 rfl ?_
        refine r_iload_n hC dX6_shape_26 rfl 2 rfl ?_
        obtain ⟨s2, es2, h⟩ := lt_of h
        refine P6_7 hC es2 dX6_shape_27 ?_
        refine r_aload_n hC dX6_shape_30 rfl 1 rfl ?_
        refine r_iload_n hC dX6_shape_31 rfl 3 rfl ?_
        obtain ⟨s3, es3, h⟩ := lt_of h
        refine P6_14 hC es3 dX6_shape_32 ?_
        refine r_aload_n hC dX6_shape_35 rfl 1 rfl ?_
        refine G6_23 hC dX6_shape_36 ?_
        refine r_iconst (v := 3) hC dX6_shape_39 (by decide) ?_
        obtain ⟨s4, hs4, h⟩ := bind_of h
        refine r_callV (As := [.int (3 : Int32)]) (rest := []) hC (con_X0_emptyTo l s3 0 (3 : Int32) (by decide) hs4) K6_71 (ob0 a s3 0 (by decide)) rfl rfl rfl rfl ⟨Nat.le_of_ble_eq_true rfl, Nat.le_of_ble_eq_true rfl⟩ (Nat.le_of_ble_eq_true rfl) dX6_shape_40 ?_
        refine r_aload_n hC dX6_shape_43 rfl 1 rfl ?_
        refine G6_27 hC dX6_shape_44 ?_
        refine r_iconst (v := 3) hC dX6_shape_47 (by decide) ?_
        obtain ⟨s5, hs5, h⟩ := bind_of h
        refine r_callV (As := [.int (3 : Int32)]) (rest := []) hC (con_X0_emptyTo l s4 1 (3 : Int32) (by decide) hs5) K6_71 (ob0 a s4 1 (by decide)) rfl rfl rfl rfl ⟨Nat.le_of_ble_eq_true rfl, Nat.le_of_ble_eq_true rfl⟩ (Nat.le_of_ble_eq_true rfl) dX6_shape_48 ?_
        refine r_iload_n hC dX6_shape_51 rfl 0 rfl ?_
        exact r_iretS hC dX6_shape_52 h
      · replace h := if_p q h
        refine r_iconst (v := -1) hC dX6_shape_18 (by decide) ?_
        exact r_iretS hC dX6_shape_19 h
abbrev Rm_X6_sign : Room := { frames := 1, cells := 0, slots := 0, locals := 22 }
def f_X6_sign (σ : St) (x1 : Int32) : Option (Int32 × St) :=
  bind2 (f_X5_addFour σ x1) fun v2 s1 =>
  if v2 = 0 then
    some ((-1 : Int32), s1)
  else
  some ((st_i s1 17), s1)
set_option maxRecDepth 100000 in
set_option maxHeartbeats 4000000 in
theorem con_X6_sign (l : Launch) (σ : St) (x1 : Int32) {r : Int32} {t' : St} (h : f_X6_sign σ x1 = some (r, t')) : Con l yX6_sign cX6_sign 2 (some .int) Rm_X6_sign wC (fun a => [.ref (a 0), .int x1]) σ (fun _ => some (.int r)) t' := by
  refine con_of (by decide) ⟨rfl, rfl⟩ (fun _ => Nat.le_of_ble_eq_true rfl) (fun Γ a hC => ?_)
  have hC : Cx Γ l cX6_sign RX6 2 (some .int) Rm_X6_sign wC a (some (.int r)) t' := hC
  show Γ σ 0 [(0, .ref (a 0)), (1, .int x1)] []
  unfold f_X6_sign at h
  refine r_aload_n hC dX6_sign_0 rfl 0 rfl ?_
  refine G6_60 hC dX6_sign_1 ?_
  refine r_iload_n hC dX6_sign_4 rfl 1 rfl ?_
  obtain ⟨v2, s1, hs1, h⟩ := bind2_of h
  refine r_callV (As := [.int x1]) (rest := []) hC (con_X5_addFour l σ x1 hs1) K6_283 (ob5 a σ) rfl rfl rfl rfl ⟨Nat.le_of_ble_eq_true rfl, Nat.le_of_ble_eq_true rfl⟩ (Nat.le_of_ble_eq_true rfl) dX6_sign_5 ?_
  refine r_if_eq hC 21 dX6_sign_8 (by decide) (fun q => ?_) (fun q => ?_)
  · replace h := if_p q h
    refine r_iconst (v := -1) hC dX6_sign_21 (by decide) ?_
    exact r_iretS hC dX6_sign_22 h
  · replace h := if_n q h
    refine r_aload_n hC dX6_sign_11 rfl 0 rfl ?_
    refine G6_60 hC dX6_sign_12 ?_
    refine G6_279 hC dX6_sign_15 ?_
    refine r_goto hC 22 dX6_sign_18 (by decide) ?_
    exact r_iretS hC dX6_sign_22 h
abbrev Rm_X6_slot : Room := { frames := 3, cells := 0, slots := 0, locals := 72 }
def f_X6_slot_n130 (x1 : Int32) (x2 : Int32) (σ : St) (bb3 : Nat) (y4 : Int32) (w1 : Int64) : Option (Int32 × St) :=
  (f_X3_add σ w1).bind fun s5 =>
  (f_X0_at s5 bb3 y4).bind fun v6 =>
  (f_X3_add s5 (v6.toInt64)).bind fun s7 =>
  (f_X2_cellAt s7 0 x2).bind fun v8 =>
  some ((v8 >>> ((3 : Int32) &&& 31)), s7)
set_option maxRecDepth 100000 in
set_option maxHeartbeats 4000000 in
theorem t_X6_slot_n130 {Γ : St → Nat → List (Nat × Value) → List Value → Prop} {l : Launch} {a : Nat → Nat} {r : Int32} {t' : St} (hC : Cx Γ l cX6_slot RX6 5 (some .int) Rm_X6_slot wC a (some (.int r)) t') (x1 : Int32) (x2 : Int32) (σ : St) (bb3 : Nat) (y4 : Int32) (w1 : Int64) (hbb3 : bb3 < 3) (h : f_X6_slot_n130 x1 x2 σ bb3 y4 w1 = some (r, t')) : Γ σ 130 [(0, .ref (a 0)), (2, .int x2), (3, .ref (a (1 + bb3))), (4, .int y4)] [.long w1, .ref (a 7)] := by
  unfold f_X6_slot_n130 at h
  replace h := bind_of h
  obtain ⟨s5, hs5, h⟩ := h
  refine r_callV (As := [.long w1]) (rest := []) hC (con_X3_add l σ w1 hs5) K6_161 (ob3 a σ) rfl rfl rfl rfl ⟨Nat.le_of_ble_eq_true rfl, Nat.le_of_ble_eq_true rfl⟩ (Nat.le_of_ble_eq_true rfl) dX6_slot_130 ?_
  refine r_aload_n hC dX6_slot_133 rfl 0 rfl ?_
  refine G6_53 hC dX6_slot_134 ?_
  refine r_aload_n hC dX6_slot_137 rfl 2 rfl ?_
  refine r_iload hC dX6_slot_138 3 rfl ?_
  replace h := bind_of h
  obtain ⟨v6, hv6, h⟩ := h
  refine r_callV (As := [.int y4]) (rest := [.ref (a 7)]) hC (con_X0_at l s5 bb3 y4 hbb3 hv6) K6_164 (ob0 a s5 bb3 hbb3) rfl rfl rfl rfl ⟨Nat.le_of_ble_eq_true rfl, Nat.le_of_ble_eq_true rfl⟩ (Nat.le_of_ble_eq_true rfl) dX6_slot_140 ?_
  refine r_i2l hC dX6_slot_143 ?_
  replace h := bind_of h
  obtain ⟨s7, hs7, h⟩ := h
  refine r_callV (As := [.long (v6.toInt64)]) (rest := []) hC (con_X3_add l s5 (v6.toInt64) hs7) K6_161 (ob3 a s5) rfl rfl rfl rfl ⟨Nat.le_of_ble_eq_true rfl, Nat.le_of_ble_eq_true rfl⟩ (Nat.le_of_ble_eq_true rfl) dX6_slot_144 ?_
  refine r_aload_n hC dX6_slot_147 rfl 0 rfl ?_
  refine G6_36 hC dX6_slot_148 ?_
  refine r_iload_n hC dX6_slot_151 rfl 1 rfl ?_
  replace h := bind_of h
  obtain ⟨v8, hv8, h⟩ := h
  refine r_callV (As := [.int x2]) (rest := []) hC (con_X2_cellAt l s7 0 x2 (by decide) hv8) K6_167 (ob2 a s7 0 (by decide)) rfl rfl rfl rfl ⟨Nat.le_of_ble_eq_true rfl, Nat.le_of_ble_eq_true rfl⟩ (Nat.le_of_ble_eq_true rfl) dX6_slot_152 ?_
  refine r_iconst (v := 3) hC dX6_slot_155 (by decide) ?_
  refine r_ishr hC dX6_slot_156 ?_
  exact r_iretS hC dX6_slot_157 h
def f_X6_slot_n106 (x1 : Int32) (x2 : Int32) (σ : St) (bb3 : Nat) (y4 : Int32) (w1 : Int64) : Option (Int32 × St) :=
  (f_X3_add σ w1).bind fun s3 =>
  (f_X2_isMarked s3 0 x2 (4 : Int32)).bind fun v4 =>
  if v4 = 0 then
    f_X6_slot_n130 x1 x2 s3 bb3 y4 (0 : Int64)
  else
  f_X6_slot_n130 x1 x2 s3 bb3 y4 (1 : Int64)
set_option maxRecDepth 100000 in
set_option maxHeartbeats 4000000 in
theorem t_X6_slot_n106 {Γ : St → Nat → List (Nat × Value) → List Value → Prop} {l : Launch} {a : Nat → Nat} {r : Int32} {t' : St} (hC : Cx Γ l cX6_slot RX6 5 (some .int) Rm_X6_slot wC a (some (.int r)) t') (x1 : Int32) (x2 : Int32) (σ : St) (bb3 : Nat) (y4 : Int32) (w1 : Int64) (hbb3 : bb3 < 3) (h : f_X6_slot_n106 x1 x2 σ bb3 y4 w1 = some (r, t')) : Γ σ 106 [(0, .ref (a 0)), (2, .int x2), (3, .ref (a (1 + bb3))), (4, .int y4)] [.long w1, .ref (a 7)] := by
  unfold f_X6_slot_n106 at h
  replace h := bind_of h
  obtain ⟨s3, hs3, h⟩ := h
  refine r_callV (As := [.long w1]) (rest := []) hC (con_X3_add l σ w1 hs3) K6_161 (ob3 a σ) rfl rfl rfl rfl ⟨Nat.le_of_ble_eq_true rfl, Nat.le_of_ble_eq_true rfl⟩ (Nat.le_of_ble_eq_true rfl) dX6_slot_106 ?_
  refine r_aload_n hC dX6_slot_109 rfl 0 rfl ?_
  refine G6_53 hC dX6_slot_110 ?_
  refine r_aload_n hC dX6_slot_113 rfl 0 rfl ?_
  refine G6_36 hC dX6_slot_114 ?_
  refine r_iload_n hC dX6_slot_117 rfl 1 rfl ?_
  refine r_iconst (v := 4) hC dX6_slot_118 (by decide) ?_
  replace h := bind_of h
  obtain ⟨v4, hv4, h⟩ := h
  refine r_callV (As := [.int x2, .int (4 : Int32)]) (rest := [.ref (a 7)]) hC (con_X2_isMarked l s3 0 x2 (4 : Int32) (by decide) hv4) K6_157 (ob2 a s3 0 (by decide)) rfl rfl rfl rfl ⟨Nat.le_of_ble_eq_true rfl, Nat.le_of_ble_eq_true rfl⟩ (Nat.le_of_ble_eq_true rfl) dX6_slot_119 ?_
  refine r_if_eq hC 129 dX6_slot_122 (by decide) (fun q => ?_) (fun q => ?_)
  · replace h := if_p q h
    refine r_lconst (v := 0) hC dX6_slot_129 (by decide) ?_
    exact t_X6_slot_n130 hC x1 x2 s3 bb3 y4 (0 : Int64) hbb3 h
  · replace h := if_n q h
    refine r_lconst (v := 1) hC dX6_slot_125 (by decide) ?_
    refine r_goto hC 130 dX6_slot_126 (by decide) ?_
    exact t_X6_slot_n130 hC x1 x2 s3 bb3 y4 (1 : Int64) hbb3 h
def f_X6_slot_n82 (x1 : Int32) (x2 : Int32) (σ : St) (bb3 : Nat) (y4 : Int32) (w1 : Int64) : Option (Int32 × St) :=
  (f_X3_add σ w1).bind fun s1 =>
  (f_X2_isMarked s1 0 x2 (2 : Int32)).bind fun v2 =>
  if v2 = 0 then
    f_X6_slot_n106 x1 x2 s1 bb3 y4 (0 : Int64)
  else
  f_X6_slot_n106 x1 x2 s1 bb3 y4 (1 : Int64)
set_option maxRecDepth 100000 in
set_option maxHeartbeats 4000000 in
theorem t_X6_slot_n82 {Γ : St → Nat → List (Nat × Value) → List Value → Prop} {l : Launch} {a : Nat → Nat} {r : Int32} {t' : St} (hC : Cx Γ l cX6_slot RX6 5 (some .int) Rm_X6_slot wC a (some (.int r)) t') (x1 : Int32) (x2 : Int32) (σ : St) (bb3 : Nat) (y4 : Int32) (w1 : Int64) (hbb3 : bb3 < 3) (h : f_X6_slot_n82 x1 x2 σ bb3 y4 w1 = some (r, t')) : Γ σ 82 [(0, .ref (a 0)), (2, .int x2), (3, .ref (a (1 + bb3))), (4, .int y4)] [.long w1, .ref (a 7)] := by
  unfold f_X6_slot_n82 at h
  replace h := bind_of h
  obtain ⟨s1, hs1, h⟩ := h
  refine r_callV (As := [.long w1]) (rest := []) hC (con_X3_add l σ w1 hs1) K6_161 (ob3 a σ) rfl rfl rfl rfl ⟨Nat.le_of_ble_eq_true rfl, Nat.le_of_ble_eq_true rfl⟩ (Nat.le_of_ble_eq_true rfl) dX6_slot_82 ?_
  refine r_aload_n hC dX6_slot_85 rfl 0 rfl ?_
  refine G6_53 hC dX6_slot_86 ?_
  refine r_aload_n hC dX6_slot_89 rfl 0 rfl ?_
  refine G6_36 hC dX6_slot_90 ?_
  refine r_iload_n hC dX6_slot_93 rfl 1 rfl ?_
  refine r_iconst (v := 2) hC dX6_slot_94 (by decide) ?_
  replace h := bind_of h
  obtain ⟨v2, hv2, h⟩ := h
  refine r_callV (As := [.int x2, .int (2 : Int32)]) (rest := [.ref (a 7)]) hC (con_X2_isMarked l s1 0 x2 (2 : Int32) (by decide) hv2) K6_157 (ob2 a s1 0 (by decide)) rfl rfl rfl rfl ⟨Nat.le_of_ble_eq_true rfl, Nat.le_of_ble_eq_true rfl⟩ (Nat.le_of_ble_eq_true rfl) dX6_slot_95 ?_
  refine r_if_eq hC 105 dX6_slot_98 (by decide) (fun q => ?_) (fun q => ?_)
  · replace h := if_p q h
    refine r_lconst (v := 0) hC dX6_slot_105 (by decide) ?_
    exact t_X6_slot_n106 hC x1 x2 s1 bb3 y4 (0 : Int64) hbb3 h
  · replace h := if_n q h
    refine r_lconst (v := 1) hC dX6_slot_101 (by decide) ?_
    refine r_goto hC 106 dX6_slot_102 (by decide) ?_
    exact t_X6_slot_n106 hC x1 x2 s1 bb3 y4 (1 : Int64) hbb3 h
def f_X6_slot (σ : St) (x1 : Int32) (x2 : Int32) : Option (Int32 × St) :=
  lt_ (f_X6_bagOf x1) fun o9 =>
  on_b o9 (
    some ((-1 : Int32), σ)) fun bb100 =>
  if x2 < 0 then
    some ((-1 : Int32), σ)
  else
  if x2 < (f_X0_slotCount σ bb100) then
    (f_X2_lay σ 0 bb100 (st_i σ 0)).bind fun s11 =>
    (f_X2_indexAt s11 0 x2).bind fun v12 =>
    if 0 ≤ v12 then
      (f_X3_restart s11).bind fun s13 =>
      (f_X2_isMarked s13 0 x2 (1 : Int32)).bind fun v14 =>
      if v14 = 0 then
        f_X6_slot_n82 x1 x2 s13 bb100 v12 (0 : Int64)
      else
      f_X6_slot_n82 x1 x2 s13 bb100 v12 (1 : Int64)
    else
    some ((-2 : Int32), s11)
  else
  some ((-1 : Int32), σ)
set_option maxRecDepth 100000 in
set_option maxHeartbeats 4000000 in
theorem con_X6_slot (l : Launch) (σ : St) (x1 : Int32) (x2 : Int32) {r : Int32} {t' : St} (h : f_X6_slot σ x1 x2 = some (r, t')) : Con l yX6_slot cX6_slot 5 (some .int) Rm_X6_slot wC (fun a => [.ref (a 0), .int x1, .int x2]) σ (fun _ => some (.int r)) t' := by
  refine con_of (by decide) ⟨rfl, rfl⟩ (fun _ => Nat.le_of_ble_eq_true rfl) (fun Γ a hC => ?_)
  have hC : Cx Γ l cX6_slot RX6 5 (some .int) Rm_X6_slot wC a (some (.int r)) t' := hC
  show Γ σ 0 [(0, .ref (a 0)), (1, .int x1), (2, .int x2)] []
  unfold f_X6_slot at h
  refine r_aload_n hC dX6_slot_0 rfl 0 rfl ?_
  refine r_iload_n hC dX6_slot_1 rfl 1 rfl ?_
  refine r_callV (As := [.int x1]) (rest := []) hC (con_X6_bagOf l σ x1) K6_75 (ob6 a σ) rfl rfl rfl rfl ⟨Nat.le_of_ble_eq_true rfl, Nat.le_of_ble_eq_true rfl⟩ (Nat.le_of_ble_eq_true rfl) dX6_slot_2 ?_
  replace h := lt_of h
  obtain ⟨o9, eo9, h⟩ := h
  have ho9 : ∀ z, o9 = some z → z < 3 := fun z q => bagOf_lt (eo9.symm.trans q)
  refine r_astoreO_n (lv' := [(3, rb_ a o9), (0, .ref (a 0)), (1, .int x1), (2, .int x2)]) hC dX6_slot_5 rfl (by decide) eo9 rfl ?_
  refine r_aloadO_n hC dX6_slot_6 rfl 0 rfl ?_
  replace h := on_b_of h
  rcases h with ⟨rfl, h⟩ | ⟨bb100, rfl, h⟩
  · refine r_ifnullN hC 22 dX6_slot_7 (by decide) ?_
    refine r_iconst (v := -1) hC dX6_slot_22 (by decide) ?_
    exact r_iretS hC dX6_slot_23 h
  · have hbb100 : bb100 < 3 := ho9 bb100 rfl
    refine r_ifnull hC dX6_slot_7 ?_
    refine r_iload_n hC dX6_slot_10 rfl 3 rfl ?_
    refine r_if_lt hC 22 dX6_slot_11 (by decide) (fun q => ?_) (fun q => ?_)
    · replace h := if_p q h
      refine r_iconst (v := -1) hC dX6_slot_22 (by decide) ?_
      exact r_iretS hC dX6_slot_23 h
    · replace h := if_n q h
      refine r_iload_n hC dX6_slot_14 rfl 3 rfl ?_
      refine r_aload_n hC dX6_slot_15 rfl 0 rfl ?_
      refine r_callV (As := []) (rest := [.int x2]) hC (con_X0_slotCount l σ bb100 hbb100 rfl) K6_108 (ob0 a σ bb100 hbb100) rfl rfl rfl rfl ⟨Nat.le_of_ble_eq_true rfl, Nat.le_of_ble_eq_true rfl⟩ (Nat.le_of_ble_eq_true rfl) dX6_slot_16 ?_
      refine r_icmp_lt hC 24 dX6_slot_19 (by decide) (fun q => ?_) (fun q => ?_)
      · replace h := if_p q h
        refine r_aload_n hC dX6_slot_24 rfl 1 rfl ?_
        refine G6_36 hC dX6_slot_25 ?_
        refine r_aload_n hC dX6_slot_28 rfl 0 rfl ?_
        refine r_aload_n hC dX6_slot_29 rfl 1 rfl ?_
        refine G6_7 hC dX6_slot_30 ?_
        replace h := bind_of h
        obtain ⟨s11, hs11, h⟩ := h
        refine r_callV (As := [.ref (a (1 + bb100)), .int (st_i σ 0)]) (rest := []) hC (con_X2_lay l σ 0 bb100 (st_i σ 0) (by decide) hbb100 hs11) K6_98 (ob2 a σ 0 (by decide)) rfl rfl rfl rfl ⟨Nat.le_of_ble_eq_true rfl, Nat.le_of_ble_eq_true rfl⟩ (Nat.le_of_ble_eq_true rfl) dX6_slot_33 ?_
        refine r_aload_n hC dX6_slot_36 rfl 1 rfl ?_
        refine G6_36 hC dX6_slot_37 ?_
        refine r_iload_n hC dX6_slot_40 rfl 3 rfl ?_
        replace h := bind_of h
        obtain ⟨v12, hv12, h⟩ := h
        refine r_callV (As := [.int x2]) (rest := []) hC (con_X2_indexAt l s11 0 x2 (by decide) hv12) K6_151 (ob2 a s11 0 (by decide)) rfl rfl rfl rfl ⟨Nat.le_of_ble_eq_true rfl, Nat.le_of_ble_eq_true rfl⟩ (Nat.le_of_ble_eq_true rfl) dX6_slot_41 ?_
        refine r_istore (lv' := [(4, .int v12), (3, .ref (a (1 + bb100))), (0, .ref (a 0)), (1, .int x1), (2, .int x2)]) hC dX6_slot_44 (by decide) rfl rfl ?_
        refine r_iload hC dX6_slot_46 0 rfl ?_
        refine r_if_ge hC 54 dX6_slot_48 (by decide) (fun q => ?_) (fun q => ?_)
        · replace h := if_p q h
          refine r_aload_n hC dX6_slot_54 rfl 2 rfl ?_
          refine G6_53 hC dX6_slot_55 ?_
          replace h := bind_of h
          obtain ⟨s13, hs13, h⟩ := h
          refine r_callV (As := []) (rest := []) hC (con_X3_restart l s11 hs13) K6_154 (ob3 a s11) rfl rfl rfl rfl ⟨Nat.le_of_ble_eq_true rfl, Nat.le_of_ble_eq_true rfl⟩ (Nat.le_of_ble_eq_true rfl) dX6_slot_58 ?_
          refine r_aload_n hC dX6_slot_61 rfl 2 rfl ?_
          refine G6_53 hC dX6_slot_62 ?_
          refine r_aload_n hC dX6_slot_65 rfl 2 rfl ?_
          refine G6_36 hC dX6_slot_66 ?_
          refine r_iload_n hC dX6_slot_69 rfl 4 rfl ?_
          refine r_iconst (v := 1) hC dX6_slot_70 (by decide) ?_
          replace h := bind_of h
          obtain ⟨v14, hv14, h⟩ := h
          refine r_callV (As := [.int x2, .int (1 : Int32)]) (rest := [.ref (a 7)]) hC (con_X2_isMarked l s13 0 x2 (1 : Int32) (by decide) hv14) K6_157 (ob2 a s13 0 (by decide)) rfl rfl rfl rfl ⟨Nat.le_of_ble_eq_true rfl, Nat.le_of_ble_eq_true rfl⟩ (Nat.le_of_ble_eq_true rfl) dX6_slot_71 ?_
          refine r_if_eq hC 81 dX6_slot_74 (by decide) (fun q => ?_) (fun q => ?_)
          · replace h := if_p q h
            refine r_lconst (v := 0) hC dX6_slot_81 (by decide) ?_
            refine r_sub hC [2, 4, 1, 0] rfl ?_
            exact t_X6_slot_n82 hC x1 x2 s13 bb100 v12 (0 : Int64) hbb100 h
          · replace h := if_n q h
            refine r_lconst (v := 1) hC dX6_slot_77 (by decide) ?_
            refine r_goto hC 82 dX6_slot_78 (by decide) ?_
            refine r_sub hC [2, 4, 1, 0] rfl ?_
            exact t_X6_slot_n82 hC x1 x2 s13 bb100 v12 (1 : Int64) hbb100 h
        · replace h := if_n q h
          refine r_bipush (v := -2) hC dX6_slot_51 (by decide) ?_
          exact r_iretS hC dX6_slot_53 h
      · replace h := if_n q h
        refine r_iconst (v := -1) hC dX6_slot_22 (by decide) ?_
        exact r_iretS hC dX6_slot_23 h
abbrev Rm_X6_span : Room := { frames := 3, cells := 0, slots := 0, locals := 72 }
def f_X6_span_n137 (x1 : Int32) (x2 : Int32) (x3 : Int32) (k73 : St → Int32 → Int32 → Int32 → Int32 → Int32 → Option (Int32 × St)) (σ : St) (y5 : Int32) (y6 : Int32) (y8 : Int32) (y9 : Int32) (y10 : Int32) (y11 : Int32) (w0 : Int32) (w1 : Int32) : Option (Int32 × St) :=
  lt_ (w0 + w1) fun v6 =>
  if y11 = 0 then
    lt_ (y8 + (0 : Int32)) fun v7 =>
    lt_ (y9 + (1 : Int32)) fun v8 =>
    k73 σ y5 y6 v6 v7 v8
  else
  lt_ (y8 + y10) fun v9 =>
  lt_ (y9 + (1 : Int32)) fun v10 =>
  k73 σ y5 y6 v6 v9 v10
set_option maxRecDepth 100000 in
set_option maxHeartbeats 4000000 in
theorem t_X6_span_n137 {Γ : St → Nat → List (Nat × Value) → List Value → Prop} {l : Launch} {a : Nat → Nat} {r : Int32} {t' : St} (hC : Cx Γ l cX6_span RX6 12 (some .int) Rm_X6_span wC a (some (.int r)) t') (x1 : Int32) (x2 : Int32) (x3 : Int32) (k73 : St → Int32 → Int32 → Int32 → Int32 → Int32 → Option (Int32 × St)) (hk73 : ∀ (σ : St) (y5 : Int32) (y6 : Int32) (y7 : Int32) (y8 : Int32) (y9 : Int32), k73 σ y5 y6 y7 y8 y9 = some (r, t') → Γ σ 73 [(0, .ref (a 0)), (5, .int y5), (6, .int y6), (7, .int y7), (8, .int y8), (9, .int y9)] []) (σ : St) (y5 : Int32) (y6 : Int32) (y8 : Int32) (y9 : Int32) (y10 : Int32) (y11 : Int32) (w0 : Int32) (w1 : Int32) (h : f_X6_span_n137 x1 x2 x3 k73 σ y5 y6 y8 y9 y10 y11 w0 w1 = some (r, t')) : Γ σ 137 [(0, .ref (a 0)), (5, .int y5), (6, .int y6), (8, .int y8), (9, .int y9), (10, .int y10), (11, .int y11)] [.int w1, .int w0] := by
  unfold f_X6_span_n137 at h
  refine r_iadd hC dX6_span_137 ?_
  replace h := lt_of h
  obtain ⟨v6, ev6, h⟩ := h
  refine r_istore (lv' := [(7, .int v6), (0, .ref (a 0)), (5, .int y5), (6, .int y6), (8, .int y8), (9, .int y9), (10, .int y10), (11, .int y11)]) hC dX6_span_138 (by decide) ev6 rfl ?_
  refine r_iload hC dX6_span_140 4 rfl ?_
  refine r_iload hC dX6_span_142 7 rfl ?_
  refine r_if_eq hC 152 dX6_span_144 (by decide) (fun q => ?_) (fun q => ?_)
  · replace h := if_p q h
    refine r_iconst (v := 0) hC dX6_span_152 (by decide) ?_
    refine r_iadd hC dX6_span_153 ?_
    replace h := lt_of h
    obtain ⟨v7, ev7, h⟩ := h
    refine r_istore (lv' := [(8, .int v7), (7, .int v6), (0, .ref (a 0)), (5, .int y5), (6, .int y6), (9, .int y9), (10, .int y10), (11, .int y11)]) hC dX6_span_154 (by decide) ev7 rfl ?_
    replace h := lt_of h
    obtain ⟨v8, ev8, h⟩ := h
    refine r_iinc (c1 := 1) (lv' := [(9, .int v8), (8, .int v7), (7, .int v6), (0, .ref (a 0)), (5, .int y5), (6, .int y6), (10, .int y10), (11, .int y11)]) hC dX6_span_156 5 rfl (by decide) (by decide) ev8 rfl ?_
    refine r_goto hC 73 dX6_span_159 (by decide) ?_
    refine r_sub hC [3, 4, 5, 2, 1, 0] rfl ?_
    exact hk73 σ y5 y6 v6 v7 v8 h
  · replace h := if_n q h
    refine r_iload hC dX6_span_147 6 rfl ?_
    refine r_goto hC 153 dX6_span_149 (by decide) ?_
    refine r_iadd hC dX6_span_153 ?_
    replace h := lt_of h
    obtain ⟨v9, ev9, h⟩ := h
    refine r_istore (lv' := [(8, .int v9), (7, .int v6), (0, .ref (a 0)), (5, .int y5), (6, .int y6), (9, .int y9), (10, .int y10), (11, .int y11)]) hC dX6_span_154 (by decide) ev9 rfl ?_
    replace h := lt_of h
    obtain ⟨v10, ev10, h⟩ := h
    refine r_iinc (c1 := 1) (lv' := [(9, .int v10), (8, .int v9), (7, .int v6), (0, .ref (a 0)), (5, .int y5), (6, .int y6), (10, .int y10), (11, .int y11)]) hC dX6_span_156 5 rfl (by decide) (by decide) ev10 rfl ?_
    refine r_goto hC 73 dX6_span_159 (by decide) ?_
    refine r_sub hC [3, 4, 5, 2, 1, 0] rfl ?_
    exact hk73 σ y5 y6 v6 v9 v10 h
def f_X6_span_n73_b (x1 : Int32) (x2 : Int32) (x3 : Int32) (self : St → Int32 → Int32 → Int32 → Int32 → Int32 → Option (Int32 × St)) (σ : St) (y5 : Int32) (y6 : Int32) (y7 : Int32) (y8 : Int32) (y9 : Int32) : Option (Int32 × St) :=
  if (st_i σ 10) ≤ y9 then
    (f_X3_tell_ σ (y7.toInt64) (y8.toInt64)).bind fun s1 =>
    some ((y6 - y5), s1)
  else
  (f_X2_startsCluster σ 0 y9).bind fun v2 =>
  if v2 = 0 then
    lt_ (y9 + (1 : Int32)) fun v3 =>
    self σ y5 y6 y7 y8 v3
  else
  (f_X2_clusterLength σ 0 y9).bind fun v4 =>
  (f_X2_hasIndexOf σ 0 y9 v4 y5 y6).bind fun v5 =>
  if v5 = 0 then
    f_X6_span_n137 x1 x2 x3 self σ y5 y6 y8 y9 v4 v5 y7 (0 : Int32)
  else
  f_X6_span_n137 x1 x2 x3 self σ y5 y6 y8 y9 v4 v5 y7 (1 : Int32)
def f_X6_span_n73 (x1 : Int32) (x2 : Int32) (x3 : Int32) : Nat → St → Int32 → Int32 → Int32 → Int32 → Int32 → Option (Int32 × St)
  | 0 => fun _ _ _ _ _ _ => none
  | n + 1 => fun σ y5 y6 y7 y8 y9 => f_X6_span_n73_b x1 x2 x3  (f_X6_span_n73 x1 x2 x3  n) σ y5 y6 y7 y8 y9
set_option maxRecDepth 100000 in
set_option maxHeartbeats 4000000 in
theorem t_X6_span_n73_b {Γ : St → Nat → List (Nat × Value) → List Value → Prop} {l : Launch} {a : Nat → Nat} {r : Int32} {t' : St} (hC : Cx Γ l cX6_span RX6 12 (some .int) Rm_X6_span wC a (some (.int r)) t') (x1 : Int32) (x2 : Int32) (x3 : Int32) (self : St → Int32 → Int32 → Int32 → Int32 → Int32 → Option (Int32 × St)) (hself : ∀ (σ : St) (y5 : Int32) (y6 : Int32) (y7 : Int32) (y8 : Int32) (y9 : Int32), self σ y5 y6 y7 y8 y9 = some (r, t') → Γ σ 73 [(0, .ref (a 0)), (5, .int y5), (6, .int y6), (7, .int y7), (8, .int y8), (9, .int y9)] []) (σ : St) (y5 : Int32) (y6 : Int32) (y7 : Int32) (y8 : Int32) (y9 : Int32) (h : f_X6_span_n73_b x1 x2 x3 self σ y5 y6 y7 y8 y9 = some (r, t')) : Γ σ 73 [(0, .ref (a 0)), (5, .int y5), (6, .int y6), (7, .int y7), (8, .int y8), (9, .int y9)] [] := by
  unfold f_X6_span_n73_b at h
  refine r_iload hC dX6_span_73 5 rfl ?_
  refine r_aload_n hC dX6_span_75 rfl 0 rfl ?_
  refine G6_36 hC dX6_span_76 ?_
  refine G6_211 hC 0 (by decide) dX6_span_79 ?_
  refine r_icmp_ge hC 162 dX6_span_82 (by decide) (fun q => ?_) (fun q => ?_)
  · replace h := if_p q h
    refine r_aload_n hC dX6_span_162 rfl 0 rfl ?_
    refine G6_53 hC dX6_span_163 ?_
    refine r_iload hC dX6_span_166 3 rfl ?_
    refine r_i2l hC dX6_span_168 ?_
    refine r_iload hC dX6_span_169 4 rfl ?_
    refine r_i2l hC dX6_span_171 ?_
    replace h := bind_of h
    obtain ⟨s1, hs1, h⟩ := h
    refine r_callV (As := [.long (y7.toInt64), .long (y8.toInt64)]) (rest := []) hC (con_X3_tell_ l σ (y7.toInt64) (y8.toInt64) hs1) K6_90 (ob3 a σ) rfl rfl rfl rfl ⟨Nat.le_of_ble_eq_true rfl, Nat.le_of_ble_eq_true rfl⟩ (Nat.le_of_ble_eq_true rfl) dX6_span_172 ?_
    refine r_iload hC dX6_span_175 2 rfl ?_
    refine r_iload hC dX6_span_177 1 rfl ?_
    refine r_isub hC dX6_span_179 ?_
    exact r_iretS hC dX6_span_180 h
  · replace h := if_n q h
    refine r_aload_n hC dX6_span_85 rfl 0 rfl ?_
    refine G6_36 hC dX6_span_86 ?_
    refine r_iload hC dX6_span_89 5 rfl ?_
    replace h := bind_of h
    obtain ⟨v2, hv2, h⟩ := h
    refine r_callV (As := [.int y9]) (rest := []) hC (con_X2_startsCluster l σ 0 y9 (by decide) hv2) K6_214 (ob2 a σ 0 (by decide)) rfl rfl rfl rfl ⟨Nat.le_of_ble_eq_true rfl, Nat.le_of_ble_eq_true rfl⟩ (Nat.le_of_ble_eq_true rfl) dX6_span_91 ?_
    refine r_if_eq hC 156 dX6_span_94 (by decide) (fun q => ?_) (fun q => ?_)
    · replace h := if_p q h
      replace h := lt_of h
      obtain ⟨v3, ev3, h⟩ := h
      refine r_iinc (c1 := 1) (lv' := [(9, .int v3), (0, .ref (a 0)), (5, .int y5), (6, .int y6), (7, .int y7), (8, .int y8)]) hC dX6_span_156 5 rfl (by decide) (by decide) ev3 rfl ?_
      refine r_goto hC 73 dX6_span_159 (by decide) ?_
      refine r_sub hC [1, 2, 3, 4, 5, 0] rfl ?_
      exact hself σ y5 y6 y7 y8 v3 h
    · replace h := if_n q h
      refine r_aload_n hC dX6_span_97 rfl 0 rfl ?_
      refine G6_36 hC dX6_span_98 ?_
      refine r_iload hC dX6_span_101 5 rfl ?_
      replace h := bind_of h
      obtain ⟨v4, hv4, h⟩ := h
      refine r_callV (As := [.int y9]) (rest := []) hC (con_X2_clusterLength l σ 0 y9 (by decide) hv4) K6_204 (ob2 a σ 0 (by decide)) rfl rfl rfl rfl ⟨Nat.le_of_ble_eq_true rfl, Nat.le_of_ble_eq_true rfl⟩ (Nat.le_of_ble_eq_true rfl) dX6_span_103 ?_
      refine r_istore (lv' := [(10, .int v4), (0, .ref (a 0)), (5, .int y5), (6, .int y6), (7, .int y7), (8, .int y8), (9, .int y9)]) hC dX6_span_106 (by decide) rfl rfl ?_
      refine r_aload_n hC dX6_span_108 rfl 1 rfl ?_
      refine G6_36 hC dX6_span_109 ?_
      refine r_iload hC dX6_span_112 6 rfl ?_
      refine r_iload hC dX6_span_114 0 rfl ?_
      refine r_iload hC dX6_span_116 2 rfl ?_
      refine r_iload hC dX6_span_118 3 rfl ?_
      replace h := bind_of h
      obtain ⟨v5, hv5, h⟩ := h
      refine r_callV (As := [.int y9, .int v4, .int y5, .int y6]) (rest := []) hC (con_X2_hasIndexOf l σ 0 y9 v4 y5 y6 (by decide) hv5) K6_249 (ob2 a σ 0 (by decide)) rfl rfl rfl rfl ⟨Nat.le_of_ble_eq_true rfl, Nat.le_of_ble_eq_true rfl⟩ (Nat.le_of_ble_eq_true rfl) dX6_span_120 ?_
      refine r_istore (lv' := [(11, .int v5), (10, .int v4), (0, .ref (a 0)), (5, .int y5), (6, .int y6), (7, .int y7), (8, .int y8), (9, .int y9)]) hC dX6_span_123 (by decide) rfl rfl ?_
      refine r_iload hC dX6_span_125 5 rfl ?_
      refine r_iload hC dX6_span_127 0 rfl ?_
      refine r_if_eq hC 136 dX6_span_129 (by decide) (fun q => ?_) (fun q => ?_)
      · replace h := if_p q h
        refine r_iconst (v := 0) hC dX6_span_136 (by decide) ?_
        refine r_sub hC [2, 3, 4, 6, 7, 1, 0] rfl ?_
        exact t_X6_span_n137 hC x1 x2 x3 self hself σ y5 y6 y8 y9 v4 v5 y7 (0 : Int32) h
      · replace h := if_n q h
        refine r_iconst (v := 1) hC dX6_span_132 (by decide) ?_
        refine r_goto hC 137 dX6_span_133 (by decide) ?_
        refine r_sub hC [2, 3, 4, 6, 7, 1, 0] rfl ?_
        exact t_X6_span_n137 hC x1 x2 x3 self hself σ y5 y6 y8 y9 v4 v5 y7 (1 : Int32) h
set_option maxRecDepth 100000 in
set_option maxHeartbeats 4000000 in
theorem t_X6_span_n73 {Γ : St → Nat → List (Nat × Value) → List Value → Prop} {l : Launch} {a : Nat → Nat} {r : Int32} {t' : St} (hC : Cx Γ l cX6_span RX6 12 (some .int) Rm_X6_span wC a (some (.int r)) t') (x1 : Int32) (x2 : Int32) (x3 : Int32) (n : Nat) : ∀ (σ : St) (y5 : Int32) (y6 : Int32) (y7 : Int32) (y8 : Int32) (y9 : Int32), f_X6_span_n73 x1 x2 x3 n σ y5 y6 y7 y8 y9 = some (r, t') → Γ σ 73 [(0, .ref (a 0)), (5, .int y5), (6, .int y6), (7, .int y7), (8, .int y8), (9, .int y9)] [] := by
  induction n with
  | zero =>
    intro σ y5 y6 y7 y8 y9  h
    have h : (none : Option (Int32 × St)) = some (r, t') := h
    cases h
  | succ n ih =>
    intro σ y5 y6 y7 y8 y9  h
    exact t_X6_span_n73_b hC x1 x2 x3    (f_X6_span_n73 x1 x2 x3  n) ih σ y5 y6 y7 y8 y9  h
def f_X6_span (σ : St) (x1 : Int32) (x2 : Int32) (x3 : Int32) : Option (Int32 × St) :=
  lt_ (f_X6_bagOf x1) fun o11 =>
  on_b o11 (
    some ((-1 : Int32), σ)) fun bb120 =>
  if x2 < 0 then
    some ((-1 : Int32), σ)
  else
  if x3 < x2 then
    some ((-1 : Int32), σ)
  else
  if x3 < ((1 : Int32) <<< ((st_i σ 0) &&& 31)) then
    (f_X0_below σ bb120 x2).bind fun v13 =>
    (f_X0_below σ bb120 (x3 + (1 : Int32))).bind fun v14 =>
    (f_X2_lay σ 0 bb120 (st_i σ 0)).bind fun s15 =>
    f_X6_span_n73 x1 x2 x3 fuel s15 v13 v14 (0 : Int32) (0 : Int32) (0 : Int32)
  else
  some ((-1 : Int32), σ)
set_option maxRecDepth 100000 in
set_option maxHeartbeats 4000000 in
theorem con_X6_span (l : Launch) (σ : St) (x1 : Int32) (x2 : Int32) (x3 : Int32) {r : Int32} {t' : St} (h : f_X6_span σ x1 x2 x3 = some (r, t')) : Con l yX6_span cX6_span 12 (some .int) Rm_X6_span wC (fun a => [.ref (a 0), .int x1, .int x2, .int x3]) σ (fun _ => some (.int r)) t' := by
  refine con_of (by decide) ⟨rfl, rfl⟩ (fun _ => Nat.le_of_ble_eq_true rfl) (fun Γ a hC => ?_)
  have hC : Cx Γ l cX6_span RX6 12 (some .int) Rm_X6_span wC a (some (.int r)) t' := hC
  show Γ σ 0 [(0, .ref (a 0)), (1, .int x1), (2, .int x2), (3, .int x3)] []
  unfold f_X6_span at h
  refine r_aload_n hC dX6_span_0 rfl 0 rfl ?_
  refine r_iload_n hC dX6_span_1 rfl 1 rfl ?_
  refine r_callV (As := [.int x1]) (rest := []) hC (con_X6_bagOf l σ x1) K6_75 (ob6 a σ) rfl rfl rfl rfl ⟨Nat.le_of_ble_eq_true rfl, Nat.le_of_ble_eq_true rfl⟩ (Nat.le_of_ble_eq_true rfl) dX6_span_2 ?_
  replace h := lt_of h
  obtain ⟨o11, eo11, h⟩ := h
  have ho11 : ∀ z, o11 = some z → z < 3 := fun z q => bagOf_lt (eo11.symm.trans q)
  refine r_astoreO (lv' := [(4, rb_ a o11), (0, .ref (a 0)), (1, .int x1), (2, .int x2), (3, .int x3)]) hC dX6_span_5 (by decide) eo11 rfl ?_
  refine r_aloadO hC dX6_span_7 0 rfl ?_
  replace h := on_b_of h
  rcases h with ⟨rfl, h⟩ | ⟨bb120, rfl, h⟩
  · refine r_ifnullN hC 31 dX6_span_9 (by decide) ?_
    refine r_iconst (v := -1) hC dX6_span_31 (by decide) ?_
    exact r_iretS hC dX6_span_32 h
  · have hbb120 : bb120 < 3 := ho11 bb120 rfl
    refine r_ifnull hC dX6_span_9 ?_
    refine r_iload_n hC dX6_span_12 rfl 3 rfl ?_
    refine r_if_lt hC 31 dX6_span_13 (by decide) (fun q => ?_) (fun q => ?_)
    · replace h := if_p q h
      refine r_iconst (v := -1) hC dX6_span_31 (by decide) ?_
      exact r_iretS hC dX6_span_32 h
    · replace h := if_n q h
      refine r_iload_n hC dX6_span_16 rfl 4 rfl ?_
      refine r_iload_n hC dX6_span_17 rfl 3 rfl ?_
      refine r_icmp_lt hC 31 dX6_span_18 (by decide) (fun q => ?_) (fun q => ?_)
      · replace h := if_p q h
        refine r_iconst (v := -1) hC dX6_span_31 (by decide) ?_
        exact r_iretS hC dX6_span_32 h
      · replace h := if_n q h
        refine r_iload_n hC dX6_span_21 rfl 4 rfl ?_
        refine r_iconst (v := 1) hC dX6_span_22 (by decide) ?_
        refine r_aload_n hC dX6_span_23 rfl 1 rfl ?_
        refine G6_7 hC dX6_span_24 ?_
        refine r_ishl hC dX6_span_27 ?_
        refine r_icmp_lt hC 33 dX6_span_28 (by decide) (fun q => ?_) (fun q => ?_)
        · replace h := if_p q h
          refine r_aload hC dX6_span_33 0 rfl ?_
          refine r_iload_n hC dX6_span_35 rfl 3 rfl ?_
          replace h := bind_of h
          obtain ⟨v13, hv13, h⟩ := h
          refine r_callV (As := [.int x2]) (rest := []) hC (con_X0_below l σ bb120 x2 hbb120 hv13) K6_198 (ob0 a σ bb120 hbb120) rfl rfl rfl rfl ⟨Nat.le_of_ble_eq_true rfl, Nat.le_of_ble_eq_true rfl⟩ (Nat.le_of_ble_eq_true rfl) dX6_span_36 ?_
          refine r_istore (lv' := [(5, .int v13), (4, .ref (a (1 + bb120))), (0, .ref (a 0)), (1, .int x1), (2, .int x2), (3, .int x3)]) hC dX6_span_39 (by decide) rfl rfl ?_
          refine r_aload hC dX6_span_41 1 rfl ?_
          refine r_iload_n hC dX6_span_43 rfl 5 rfl ?_
          refine r_iconst (v := 1) hC dX6_span_44 (by decide) ?_
          refine r_iadd hC dX6_span_45 ?_
          replace h := bind_of h
          obtain ⟨v14, hv14, h⟩ := h
          refine r_callV (As := [.int (x3 + (1 : Int32))]) (rest := []) hC (con_X0_below l σ bb120 (x3 + (1 : Int32)) hbb120 hv14) K6_198 (ob0 a σ bb120 hbb120) rfl rfl rfl rfl ⟨Nat.le_of_ble_eq_true rfl, Nat.le_of_ble_eq_true rfl⟩ (Nat.le_of_ble_eq_true rfl) dX6_span_46 ?_
          refine r_istore (lv' := [(6, .int v14), (5, .int v13), (4, .ref (a (1 + bb120))), (0, .ref (a 0)), (1, .int x1), (2, .int x2), (3, .int x3)]) hC dX6_span_49 (by decide) rfl rfl ?_
          refine r_aload_n hC dX6_span_51 rfl 3 rfl ?_
          refine G6_36 hC dX6_span_52 ?_
          refine r_aload hC dX6_span_55 2 rfl ?_
          refine r_aload_n hC dX6_span_57 rfl 3 rfl ?_
          refine G6_7 hC dX6_span_58 ?_
          replace h := bind_of h
          obtain ⟨s15, hs15, h⟩ := h
          refine r_callV (As := [.ref (a (1 + bb120)), .int (st_i σ 0)]) (rest := []) hC (con_X2_lay l σ 0 bb120 (st_i σ 0) (by decide) hbb120 hs15) K6_98 (ob2 a σ 0 (by decide)) rfl rfl rfl rfl ⟨Nat.le_of_ble_eq_true rfl, Nat.le_of_ble_eq_true rfl⟩ (Nat.le_of_ble_eq_true rfl) dX6_span_61 ?_
          refine r_iconst (v := 0) hC dX6_span_64 (by decide) ?_
          refine r_istore (lv' := [(7, .int (0 : Int32)), (6, .int v14), (5, .int v13), (4, .ref (a (1 + bb120))), (0, .ref (a 0)), (1, .int x1), (2, .int x2), (3, .int x3)]) hC dX6_span_65 (by decide) rfl rfl ?_
          refine r_iconst (v := 0) hC dX6_span_67 (by decide) ?_
          refine r_istore (lv' := [(8, .int (0 : Int32)), (7, .int (0 : Int32)), (6, .int v14), (5, .int v13), (4, .ref (a (1 + bb120))), (0, .ref (a 0)), (1, .int x1), (2, .int x2), (3, .int x3)]) hC dX6_span_68 (by decide) rfl rfl ?_
          refine r_iconst (v := 0) hC dX6_span_70 (by decide) ?_
          refine r_istore (lv' := [(9, .int (0 : Int32)), (8, .int (0 : Int32)), (7, .int (0 : Int32)), (6, .int v14), (5, .int v13), (4, .ref (a (1 + bb120))), (0, .ref (a 0)), (1, .int x1), (2, .int x2), (3, .int x3)]) hC dX6_span_71 (by decide) rfl rfl ?_
          refine r_sub hC [6, 4, 3, 2, 1, 0] rfl ?_
          exact t_X6_span_n73 hC x1 x2 x3 fuel s15 v13 v14 (0 : Int32) (0 : Int32) (0 : Int32) h
        · replace h := if_n q h
          refine r_iconst (v := -1) hC dX6_span_31 (by decide) ?_
          exact r_iretS hC dX6_span_32 h
abbrev Rm_X6_spills : Room := { frames := 4, cells := 0, slots := 0, locals := 90 }
def f_X6_spills_n66 (x1 : Int32) (σ : St) (y2 : Int32) : Option (Int32 × St) :=
  bind2 (f_X0_insert σ 0 (f_X6_printOf σ x1)) fun v3 s2 =>
  (f_X3_tell_ s2 (((st_i s2 3)).toInt64) (((st_i s2 5)).toInt64)).bind fun s4 =>
  if y2 = 0 then
    some ((0 : Int32), s4)
  else
  some ((1 : Int32), s4)
set_option maxRecDepth 100000 in
set_option maxHeartbeats 4000000 in
theorem t_X6_spills_n66 {Γ : St → Nat → List (Nat × Value) → List Value → Prop} {l : Launch} {a : Nat → Nat} {r : Int32} {t' : St} (hC : Cx Γ l cX6_spills RX6 3 (some .int) Rm_X6_spills wC a (some (.int r)) t') (x1 : Int32) (σ : St) (y2 : Int32) (h : f_X6_spills_n66 x1 σ y2 = some (r, t')) : Γ σ 66 [(0, .ref (a 0)), (1, .int x1), (2, .int y2)] [] := by
  unfold f_X6_spills_n66 at h
  refine r_aload_n hC dX6_spills_66 rfl 0 rfl ?_
  refine G6_23 hC dX6_spills_67 ?_
  refine r_aload_n hC dX6_spills_70 rfl 0 rfl ?_
  refine r_iload_n hC dX6_spills_71 rfl 1 rfl ?_
  refine r_callV (As := [.int x1]) (rest := [.ref (a 1)]) hC (con_X6_printOf l σ x1 rfl) K6_83 (ob6 a σ) rfl rfl rfl rfl ⟨Nat.le_of_ble_eq_true rfl, Nat.le_of_ble_eq_true rfl⟩ (Nat.le_of_ble_eq_true rfl) dX6_spills_72 ?_
  obtain ⟨v3, s2, hs2, h⟩ := bind2_of h
  refine r_callV (As := [.int (f_X6_printOf σ x1)]) (rest := []) hC (con_X0_insert l σ 0 (f_X6_printOf σ x1) (by decide) hs2) K6_234 (ob0 a σ 0 (by decide)) rfl rfl rfl rfl ⟨Nat.le_of_ble_eq_true rfl, Nat.le_of_ble_eq_true rfl⟩ (Nat.le_of_ble_eq_true rfl) dX6_spills_75 ?_
  refine r_pop hC dX6_spills_78 rfl ?_
  refine r_aload_n hC dX6_spills_79 rfl 0 rfl ?_
  refine G6_53 hC dX6_spills_80 ?_
  refine r_aload_n hC dX6_spills_83 rfl 0 rfl ?_
  refine G6_23 hC dX6_spills_84 ?_
  refine G6_105 hC 0 (by decide) dX6_spills_87 ?_
  refine r_i2l hC dX6_spills_90 ?_
  refine r_aload_n hC dX6_spills_91 rfl 0 rfl ?_
  refine G6_27 hC dX6_spills_92 ?_
  refine G6_105 hC 1 (by decide) dX6_spills_95 ?_
  refine r_i2l hC dX6_spills_98 ?_
  obtain ⟨s4, hs4, h⟩ := bind_of h
  refine r_callV (As := [.long (((st_i s2 3)).toInt64), .long (((st_i s2 5)).toInt64)]) (rest := []) hC (con_X3_tell_ l s2 (((st_i s2 3)).toInt64) (((st_i s2 5)).toInt64) hs4) K6_90 (ob3 a s2) rfl rfl rfl rfl ⟨Nat.le_of_ble_eq_true rfl, Nat.le_of_ble_eq_true rfl⟩ (Nat.le_of_ble_eq_true rfl) dX6_spills_99 ?_
  refine r_iload_n hC dX6_spills_102 rfl 2 rfl ?_
  refine r_if_eq hC 110 dX6_spills_103 (by decide) (fun q => ?_) (fun q => ?_)
  · replace h := if_p q h
    refine r_iconst (v := 0) hC dX6_spills_110 (by decide) ?_
    exact r_iretS hC dX6_spills_111 h
  · replace h := if_n q h
    refine r_iconst (v := 1) hC dX6_spills_106 (by decide) ?_
    refine r_goto hC 111 dX6_spills_107 (by decide) ?_
    exact r_iretS hC dX6_spills_111 h
def f_X6_spills_n50 (x1 : Int32) (σ : St) (y2 : Int32) : Option (Int32 × St) :=
  if y2 = 0 then
    f_X6_spills_n66 x1 σ y2
  else
  (f_X6_pour σ 0 1).bind fun s1 =>
  f_X6_spills_n66 x1 s1 y2
set_option maxRecDepth 100000 in
set_option maxHeartbeats 4000000 in
theorem t_X6_spills_n50 {Γ : St → Nat → List (Nat × Value) → List Value → Prop} {l : Launch} {a : Nat → Nat} {r : Int32} {t' : St} (hC : Cx Γ l cX6_spills RX6 3 (some .int) Rm_X6_spills wC a (some (.int r)) t') (x1 : Int32) (σ : St) (y2 : Int32) (h : f_X6_spills_n50 x1 σ y2 = some (r, t')) : Γ σ 50 [(0, .ref (a 0)), (1, .int x1), (2, .int y2)] [] := by
  unfold f_X6_spills_n50 at h
  refine r_iload_n hC dX6_spills_50 rfl 2 rfl ?_
  refine r_if_eq hC 66 dX6_spills_51 (by decide) (fun q => ?_) (fun q => ?_)
  · replace h := if_p q h
    exact t_X6_spills_n66 hC x1 σ y2 h
  · replace h := if_n q h
    refine r_aload_n hC dX6_spills_54 rfl 0 rfl ?_
    refine r_aload_n hC dX6_spills_55 rfl 0 rfl ?_
    refine G6_23 hC dX6_spills_56 ?_
    refine r_aload_n hC dX6_spills_59 rfl 0 rfl ?_
    refine G6_27 hC dX6_spills_60 ?_
    obtain ⟨s1, hs1, h⟩ := bind_of h
    refine r_callV (As := [.ref (a 1), .ref (a 2)]) (rest := []) hC (con_X6_pour l σ 0 1 (by decide) (by decide) hs1) K6_259 (ob6 a σ) rfl rfl rfl rfl ⟨Nat.le_of_ble_eq_true rfl, Nat.le_of_ble_eq_true rfl⟩ (Nat.le_of_ble_eq_true rfl) dX6_spills_63 ?_
    exact t_X6_spills_n66 hC x1 s1 y2 h
def f_X6_spills_n35 (x1 : Int32) (σ : St) (w0 : Int32) : Option (Int32 × St) :=
  if w0 = 0 then
    f_X6_spills_n50 x1 σ w0
  else
  if (f_X6_fitTogether σ) = 0 then
    some ((-5 : Int32), σ)
  else
  f_X6_spills_n50 x1 σ w0
set_option maxRecDepth 100000 in
set_option maxHeartbeats 4000000 in
theorem t_X6_spills_n35 {Γ : St → Nat → List (Nat × Value) → List Value → Prop} {l : Launch} {a : Nat → Nat} {r : Int32} {t' : St} (hC : Cx Γ l cX6_spills RX6 3 (some .int) Rm_X6_spills wC a (some (.int r)) t') (x1 : Int32) (σ : St) (w0 : Int32) (h : f_X6_spills_n35 x1 σ w0 = some (r, t')) : Γ σ 35 [(0, .ref (a 0)), (1, .int x1)] [.int w0] := by
  unfold f_X6_spills_n35 at h
  refine r_istore_n (lv' := [(2, .int w0), (0, .ref (a 0)), (1, .int x1)]) hC dX6_spills_35 rfl (by decide) rfl rfl ?_
  refine r_iload_n hC dX6_spills_36 rfl 0 rfl ?_
  refine r_if_eq hC 50 dX6_spills_37 (by decide) (fun q => ?_) (fun q => ?_)
  · replace h := if_p q h
    refine r_sub hC [1, 2, 0] rfl ?_
    exact t_X6_spills_n50 hC x1 σ w0 h
  · replace h := if_n q h
    refine r_aload_n hC dX6_spills_40 rfl 1 rfl ?_
    refine r_callV (As := []) (rest := []) hC (con_X6_fitTogether l σ rfl) K6_256 (ob6 a σ) rfl rfl rfl rfl ⟨Nat.le_of_ble_eq_true rfl, Nat.le_of_ble_eq_true rfl⟩ (Nat.le_of_ble_eq_true rfl) dX6_spills_41 ?_
    refine r_if_ne hC 50 dX6_spills_44 (by decide) (fun q => ?_) (fun q => ?_)
    · replace h := if_n q h
      refine r_sub hC [1, 2, 0] rfl ?_
      exact t_X6_spills_n50 hC x1 σ w0 h
    · replace h := if_p q h
      refine r_bipush (v := -5) hC dX6_spills_47 (by decide) ?_
      exact r_iretS hC dX6_spills_49 h
def f_X6_spills_n30 (x1 : Int32) (σ : St) : Option (Int32 × St) :=
  f_X6_spills_n35 x1 σ (1 : Int32)
set_option maxRecDepth 100000 in
set_option maxHeartbeats 4000000 in
theorem t_X6_spills_n30 {Γ : St → Nat → List (Nat × Value) → List Value → Prop} {l : Launch} {a : Nat → Nat} {r : Int32} {t' : St} (hC : Cx Γ l cX6_spills RX6 3 (some .int) Rm_X6_spills wC a (some (.int r)) t') (x1 : Int32) (σ : St) (h : f_X6_spills_n30 x1 σ = some (r, t')) : Γ σ 30 [(0, .ref (a 0)), (1, .int x1)] [] := by
  unfold f_X6_spills_n30 at h
  refine r_iconst (v := 1) hC dX6_spills_30 (by decide) ?_
  refine r_goto hC 35 dX6_spills_31 (by decide) ?_
  exact t_X6_spills_n35 hC x1 σ (1 : Int32) h
def f_X6_spills (σ : St) (x1 : Int32) : Option (Int32 × St) :=
  if (f_X6_isKey σ x1) = 0 then
    some ((-1 : Int32), σ)
  else
  if (f_X6_mustDouble σ 0) = 0 then
    if (f_X0_isFull σ 0) = 0 then
      f_X6_spills_n35 x1 σ (0 : Int32)
    else
    f_X6_spills_n30 x1 σ
  else
  f_X6_spills_n30 x1 σ
set_option maxRecDepth 100000 in
set_option maxHeartbeats 4000000 in
theorem con_X6_spills (l : Launch) (σ : St) (x1 : Int32) {r : Int32} {t' : St} (h : f_X6_spills σ x1 = some (r, t')) : Con l yX6_spills cX6_spills 3 (some .int) Rm_X6_spills wC (fun a => [.ref (a 0), .int x1]) σ (fun _ => some (.int r)) t' := by
  refine con_of (by decide) ⟨rfl, rfl⟩ (fun _ => Nat.le_of_ble_eq_true rfl) (fun Γ a hC => ?_)
  have hC : Cx Γ l cX6_spills RX6 3 (some .int) Rm_X6_spills wC a (some (.int r)) t' := hC
  show Γ σ 0 [(0, .ref (a 0)), (1, .int x1)] []
  unfold f_X6_spills at h
  refine r_iload_n hC dX6_spills_0 rfl 1 rfl ?_
  refine r_callS (As := [.int x1]) (rest := []) hC (con_X6_isKey l σ x1 rfl) K6_79 rfl rfl rfl ⟨Nat.le_of_ble_eq_true rfl, Nat.le_of_ble_eq_true rfl⟩ (Nat.le_of_ble_eq_true rfl) dX6_spills_1 ?_
  refine r_if_ne hC 9 dX6_spills_4 (by decide) (fun q => ?_) (fun q => ?_)
  · replace h := if_n q h
    refine r_aload_n hC dX6_spills_9 rfl 0 rfl ?_
    refine r_aload_n hC dX6_spills_10 rfl 0 rfl ?_
    refine G6_23 hC dX6_spills_11 ?_
    refine r_callV (As := [.ref (a 1)]) (rest := []) hC (con_X6_mustDouble l σ 0 (by decide) rfl) K6_222 (ob6 a σ) rfl rfl rfl rfl ⟨Nat.le_of_ble_eq_true rfl, Nat.le_of_ble_eq_true rfl⟩ (Nat.le_of_ble_eq_true rfl) dX6_spills_14 ?_
    refine r_if_ne hC 30 dX6_spills_17 (by decide) (fun q => ?_) (fun q => ?_)
    · replace h := if_n q h
      exact t_X6_spills_n30 hC x1 σ h
    · replace h := if_p q h
      refine r_aload_n hC dX6_spills_20 rfl 0 rfl ?_
      refine G6_23 hC dX6_spills_21 ?_
      refine r_callV (As := []) (rest := []) hC (con_X0_isFull l σ 0 (by decide) rfl) K6_226 (ob0 a σ 0 (by decide)) rfl rfl rfl rfl ⟨Nat.le_of_ble_eq_true rfl, Nat.le_of_ble_eq_true rfl⟩ (Nat.le_of_ble_eq_true rfl) dX6_spills_24 ?_
      refine r_if_eq hC 34 dX6_spills_27 (by decide) (fun q => ?_) (fun q => ?_)
      · replace h := if_p q h
        refine r_iconst (v := 0) hC dX6_spills_34 (by decide) ?_
        exact t_X6_spills_n35 hC x1 σ (0 : Int32) h
      · replace h := if_n q h
        exact t_X6_spills_n30 hC x1 σ h
  · replace h := if_p q h
    refine r_iconst (v := -1) hC dX6_spills_7 (by decide) ?_
    exact r_iretS hC dX6_spills_8 h
abbrev Rm_X6_takes : Room := { frames := 4, cells := 0, slots := 0, locals := 88 }
def f_X6_takes (σ : St) (x1 : Int32) (x2 : Int32) : Option (Int32 × St) :=
  lt_ (f_X6_bagOf x1) fun o1 =>
  on_b o1 (
    some ((-1 : Int32), σ)) fun bb20 =>
  if (f_X6_isKey σ x2) = 0 then
    some ((-1 : Int32), σ)
  else
  lt_ (f_X6_printOf σ x2) fun v3 =>
  bind2 (f_X0_dropOne σ bb20 v3) fun v5 s4 =>
  if v5 = 0 then
    some ((-2 : Int32), s4)
  else
  (f_X3_tell s4 (((st_i s4 (3 + 2 * bb20))).toInt64)).bind fun s6 =>
  (f_X0_timesOf s6 bb20 v3).bind fun v7 =>
  some (v7, s6)
set_option maxRecDepth 100000 in
set_option maxHeartbeats 4000000 in
theorem con_X6_takes (l : Launch) (σ : St) (x1 : Int32) (x2 : Int32) {r : Int32} {t' : St} (h : f_X6_takes σ x1 x2 = some (r, t')) : Con l yX6_takes cX6_takes 5 (some .int) Rm_X6_takes wC (fun a => [.ref (a 0), .int x1, .int x2]) σ (fun _ => some (.int r)) t' := by
  refine con_of (by decide) ⟨rfl, rfl⟩ (fun _ => Nat.le_of_ble_eq_true rfl) (fun Γ a hC => ?_)
  have hC : Cx Γ l cX6_takes RX6 5 (some .int) Rm_X6_takes wC a (some (.int r)) t' := hC
  show Γ σ 0 [(0, .ref (a 0)), (1, .int x1), (2, .int x2)] []
  unfold f_X6_takes at h
  refine r_aload_n hC dX6_takes_0 rfl 0 rfl ?_
  refine r_iload_n hC dX6_takes_1 rfl 1 rfl ?_
  refine r_callV (As := [.int x1]) (rest := []) hC (con_X6_bagOf l σ x1) K6_75 (ob6 a σ) rfl rfl rfl rfl ⟨Nat.le_of_ble_eq_true rfl, Nat.le_of_ble_eq_true rfl⟩ (Nat.le_of_ble_eq_true rfl) dX6_takes_2 ?_
  replace h := lt_of h
  obtain ⟨o1, eo1, h⟩ := h
  have ho1 : ∀ z, o1 = some z → z < 3 := fun z q => bagOf_lt (eo1.symm.trans q)
  refine r_astoreO_n (lv' := [(3, rb_ a o1), (0, .ref (a 0)), (1, .int x1), (2, .int x2)]) hC dX6_takes_5 rfl (by decide) eo1 rfl ?_
  refine r_aloadO_n hC dX6_takes_6 rfl 0 rfl ?_
  replace h := on_b_of h
  rcases h with ⟨rfl, h⟩ | ⟨bb20, rfl, h⟩
  · refine r_ifnullN hC 17 dX6_takes_7 (by decide) ?_
    refine r_iconst (v := -1) hC dX6_takes_17 (by decide) ?_
    exact r_iretS hC dX6_takes_18 h
  · have hbb20 : bb20 < 3 := ho1 bb20 rfl
    refine r_ifnull hC dX6_takes_7 ?_
    refine r_iload_n hC dX6_takes_10 rfl 3 rfl ?_
    refine r_callS (As := [.int x2]) (rest := []) hC (con_X6_isKey l σ x2 rfl) K6_79 rfl rfl rfl ⟨Nat.le_of_ble_eq_true rfl, Nat.le_of_ble_eq_true rfl⟩ (Nat.le_of_ble_eq_true rfl) dX6_takes_11 ?_
    refine r_if_ne hC 19 dX6_takes_14 (by decide) (fun q => ?_) (fun q => ?_)
    · replace h := if_n q h
      refine r_aload_n hC dX6_takes_19 rfl 1 rfl ?_
      refine r_iload_n hC dX6_takes_20 rfl 3 rfl ?_
      refine r_callV (As := [.int x2]) (rest := []) hC (con_X6_printOf l σ x2 rfl) K6_83 (ob6 a σ) rfl rfl rfl rfl ⟨Nat.le_of_ble_eq_true rfl, Nat.le_of_ble_eq_true rfl⟩ (Nat.le_of_ble_eq_true rfl) dX6_takes_21 ?_
      replace h := lt_of h
      obtain ⟨v3, ev3, h⟩ := h
      refine r_istore (lv' := [(4, .int v3), (3, .ref (a (1 + bb20))), (0, .ref (a 0)), (1, .int x1), (2, .int x2)]) hC dX6_takes_24 (by decide) ev3 rfl ?_
      refine r_aload_n hC dX6_takes_26 rfl 1 rfl ?_
      refine r_iload hC dX6_takes_27 0 rfl ?_
      replace h := bind2_of h
      obtain ⟨v5, s4, hs4, h⟩ := h
      refine r_callV (As := [.int v3]) (rest := []) hC (con_X0_dropOne l σ bb20 v3 hbb20 hs4) K6_112 (ob0 a σ bb20 hbb20) rfl rfl rfl rfl ⟨Nat.le_of_ble_eq_true rfl, Nat.le_of_ble_eq_true rfl⟩ (Nat.le_of_ble_eq_true rfl) dX6_takes_29 ?_
      refine r_if_ne hC 38 dX6_takes_32 (by decide) (fun q => ?_) (fun q => ?_)
      · replace h := if_n q h
        refine r_aload_n hC dX6_takes_38 rfl 2 rfl ?_
        refine G6_53 hC dX6_takes_39 ?_
        refine r_aload_n hC dX6_takes_42 rfl 1 rfl ?_
        refine G6_105 hC bb20 hbb20 dX6_takes_43 ?_
        refine r_i2l hC dX6_takes_46 ?_
        replace h := bind_of h
        obtain ⟨s6, hs6, h⟩ := h
        refine r_callV (As := [.long (((st_i s4 (3 + 2 * bb20))).toInt64)]) (rest := []) hC (con_X3_tell l s4 (((st_i s4 (3 + 2 * bb20))).toInt64) hs6) K6_115 (ob3 a s4) rfl rfl rfl rfl ⟨Nat.le_of_ble_eq_true rfl, Nat.le_of_ble_eq_true rfl⟩ (Nat.le_of_ble_eq_true rfl) dX6_takes_47 ?_
        refine r_aload_n hC dX6_takes_50 rfl 1 rfl ?_
        refine r_iload hC dX6_takes_51 0 rfl ?_
        replace h := bind_of h
        obtain ⟨v7, hv7, h⟩ := h
        refine r_callV (As := [.int v3]) (rest := []) hC (con_X0_timesOf l s6 bb20 v3 hbb20 hv7) K6_118 (ob0 a s6 bb20 hbb20) rfl rfl rfl rfl ⟨Nat.le_of_ble_eq_true rfl, Nat.le_of_ble_eq_true rfl⟩ (Nat.le_of_ble_eq_true rfl) dX6_takes_53 ?_
        exact r_iretS hC dX6_takes_56 h
      · replace h := if_p q h
        refine r_bipush (v := -2) hC dX6_takes_35 (by decide) ?_
        exact r_iretS hC dX6_takes_37 h
    · replace h := if_p q h
      refine r_iconst (v := -1) hC dX6_takes_17 (by decide) ?_
      exact r_iretS hC dX6_takes_18 h
abbrev Rm_X6_twin : Room := { frames := 1, cells := 0, slots := 0, locals := 21 }
def f_X6_twin_n17_b (σ : St) (x1 : Int32) (self : Int32 → Int32 → Option Int32) (y2 : Int32) (y3 : Int32) : Option Int32 :=
  if (10000 : Int32) ≤ y3 then
    some (-2 : Int32)
  else
  if y3 = x1 then
    lt_ (y3 + (1 : Int32)) fun v1 =>
    self y2 v1
  else
  if (f_X6_printOf σ y3) = y2 then
    some y3
  else
  lt_ (y3 + (1 : Int32)) fun v2 =>
  self y2 v2
def f_X6_twin_n17 (σ : St) (x1 : Int32) : Nat → Int32 → Int32 → Option Int32
  | 0 => fun _ _ => none
  | n + 1 => fun y2 y3 => f_X6_twin_n17_b σ x1  (f_X6_twin_n17 σ x1  n) y2 y3
set_option maxRecDepth 100000 in
set_option maxHeartbeats 4000000 in
theorem t_X6_twin_n17_b {Γ : St → Nat → List (Nat × Value) → List Value → Prop} {l : Launch} {a : Nat → Nat} {r : Int32} {σ : St} (hC : Cx Γ l cX6_twin RX6 4 (some .int) Rm_X6_twin wC a (some (.int r)) σ) (x1 : Int32) (self : Int32 → Int32 → Option Int32) (hself : ∀ (y2 : Int32) (y3 : Int32), self y2 y3 = some r → Γ σ 17 [(0, .ref (a 0)), (1, .int x1), (2, .int y2), (3, .int y3)] []) (y2 : Int32) (y3 : Int32) (h : f_X6_twin_n17_b σ x1 self y2 y3 = some r) : Γ σ 17 [(0, .ref (a 0)), (1, .int x1), (2, .int y2), (3, .int y3)] [] := by
  unfold f_X6_twin_n17_b at h
  refine r_iload_n hC dX6_twin_17 rfl 3 rfl ?_
  refine r_sipush (v := 10000) hC dX6_twin_18 (by decide) ?_
  refine r_icmp_ge hC 46 dX6_twin_21 (by decide) (fun q => ?_) (fun q => ?_)
  · replace h := if_p q h
    refine r_bipush (v := -2) hC dX6_twin_46 (by decide) ?_
    exact r_iretP hC dX6_twin_48 h
  · replace h := if_n q h
    refine r_iload_n hC dX6_twin_24 rfl 3 rfl ?_
    refine r_iload_n hC dX6_twin_25 rfl 1 rfl ?_
    refine r_icmp_eq hC 40 dX6_twin_26 (by decide) (fun q => ?_) (fun q => ?_)
    · replace h := if_p q h
      obtain ⟨v1, ev1, h⟩ := lt_of h
      refine r_iinc (c1 := 1) (lv' := [(3, .int v1), (0, .ref (a 0)), (1, .int x1), (2, .int y2)]) hC dX6_twin_40 3 rfl (by decide) (by decide) ev1 rfl ?_
      refine r_goto hC 17 dX6_twin_43 (by decide) ?_
      refine r_sub hC [1, 2, 3, 0] rfl ?_
      exact hself y2 v1 h
    · replace h := if_n q h
      refine r_aload_n hC dX6_twin_29 rfl 0 rfl ?_
      refine r_iload_n hC dX6_twin_30 rfl 3 rfl ?_
      refine r_callV (As := [.int y3]) (rest := []) hC (con_X6_printOf l σ y3 rfl) K6_83 (ob6 a σ) rfl rfl rfl rfl ⟨Nat.le_of_ble_eq_true rfl, Nat.le_of_ble_eq_true rfl⟩ (Nat.le_of_ble_eq_true rfl) dX6_twin_31 ?_
      refine r_iload_n hC dX6_twin_34 rfl 2 rfl ?_
      refine r_icmp_ne hC 40 dX6_twin_35 (by decide) (fun q => ?_) (fun q => ?_)
      · replace h := if_n q h
        obtain ⟨v2, ev2, h⟩ := lt_of h
        refine r_iinc (c1 := 1) (lv' := [(3, .int v2), (0, .ref (a 0)), (1, .int x1), (2, .int y2)]) hC dX6_twin_40 3 rfl (by decide) (by decide) ev2 rfl ?_
        refine r_goto hC 17 dX6_twin_43 (by decide) ?_
        refine r_sub hC [1, 2, 3, 0] rfl ?_
        exact hself y2 v2 h
      · replace h := if_p q h
        refine r_iload_n hC dX6_twin_38 rfl 3 rfl ?_
        exact r_iretP hC dX6_twin_39 h
set_option maxRecDepth 100000 in
set_option maxHeartbeats 4000000 in
theorem t_X6_twin_n17 {Γ : St → Nat → List (Nat × Value) → List Value → Prop} {l : Launch} {a : Nat → Nat} {r : Int32} {σ : St} (hC : Cx Γ l cX6_twin RX6 4 (some .int) Rm_X6_twin wC a (some (.int r)) σ) (x1 : Int32) (n : Nat) : ∀ (y2 : Int32) (y3 : Int32), f_X6_twin_n17 σ x1 n y2 y3 = some r → Γ σ 17 [(0, .ref (a 0)), (1, .int x1), (2, .int y2), (3, .int y3)] [] := by
  induction n with
  | zero =>
    intro y2 y3  h
    have h : (none : Option Int32) = some r := h
    cases h
  | succ n ih =>
    intro y2 y3  h
    exact t_X6_twin_n17_b hC x1    (f_X6_twin_n17 σ x1  n) ih y2 y3  h
def f_X6_twin (σ : St) (x1 : Int32) : Option Int32 :=
  if (f_X6_isKey σ x1) = 0 then
    some (-1 : Int32)
  else
  lt_ (f_X6_printOf σ x1) fun v3 =>
  f_X6_twin_n17 σ x1 fuel v3 (0 : Int32)
set_option maxRecDepth 100000 in
set_option maxHeartbeats 4000000 in
theorem con_X6_twin (l : Launch) (σ : St) (x1 : Int32) {r : Int32} (h : f_X6_twin σ x1 = some r) : Con l yX6_twin cX6_twin 4 (some .int) Rm_X6_twin wC (fun a => [.ref (a 0), .int x1]) σ (fun _ => some (.int r)) σ := by
  refine con_of (by decide) ⟨rfl, rfl⟩ (fun _ => Nat.le_of_ble_eq_true rfl) (fun Γ a hC => ?_)
  have hC : Cx Γ l cX6_twin RX6 4 (some .int) Rm_X6_twin wC a (some (.int r)) σ := hC
  show Γ σ 0 [(0, .ref (a 0)), (1, .int x1)] []
  unfold f_X6_twin at h
  refine r_iload_n hC dX6_twin_0 rfl 1 rfl ?_
  refine r_callS (As := [.int x1]) (rest := []) hC (con_X6_isKey l σ x1 rfl) K6_79 rfl rfl rfl ⟨Nat.le_of_ble_eq_true rfl, Nat.le_of_ble_eq_true rfl⟩ (Nat.le_of_ble_eq_true rfl) dX6_twin_1 ?_
  refine r_if_ne hC 9 dX6_twin_4 (by decide) (fun q => ?_) (fun q => ?_)
  · replace h := if_n q h
    refine r_aload_n hC dX6_twin_9 rfl 0 rfl ?_
    refine r_iload_n hC dX6_twin_10 rfl 1 rfl ?_
    refine r_callV (As := [.int x1]) (rest := []) hC (con_X6_printOf l σ x1 rfl) K6_83 (ob6 a σ) rfl rfl rfl rfl ⟨Nat.le_of_ble_eq_true rfl, Nat.le_of_ble_eq_true rfl⟩ (Nat.le_of_ble_eq_true rfl) dX6_twin_11 ?_
    obtain ⟨v3, ev3, h⟩ := lt_of h
    refine r_istore_n (lv' := [(2, .int v3), (0, .ref (a 0)), (1, .int x1)]) hC dX6_twin_14 rfl (by decide) ev3 rfl ?_
    refine r_iconst (v := 0) hC dX6_twin_15 (by decide) ?_
    refine r_istore_n (lv' := [(3, .int (0 : Int32)), (2, .int v3), (0, .ref (a 0)), (1, .int x1)]) hC dX6_twin_16 rfl (by decide) rfl rfl ?_
    refine r_sub hC [2, 3, 1, 0] rfl ?_
    exact t_X6_twin_n17 hC x1 fuel v3 (0 : Int32) h
  · replace h := if_p q h
    refine r_iconst (v := -1) hC dX6_twin_7 (by decide) ?_
    exact r_iretP hC dX6_twin_8 h
abbrev Rm_X6_would : Room := { frames := 3, cells := 0, slots := 0, locals := 72 }
def f_X6_would_n120 (x1 : Int32) (x2 : Int32) (k95 : St → Nat → Int32 → Int32 → Int32 → Option (Int32 × St)) (σ : St) (bb3 : Nat) (y4 : Int32) (y5 : Int32) (y6 : Int32) (w0 : Int32) : Option (Int32 × St) :=
  (f_X2_slotOf σ 0 y6).bind fun v1 =>
  (f_X2_slotOf σ 1 w0).bind fun v2 =>
  if v1 = v2 then
    lt_ (y6 + (1 : Int32)) fun v3 =>
    k95 σ bb3 y4 y5 v3
  else
  lt_ (y5 + (1 : Int32)) fun v4 =>
  lt_ (y6 + (1 : Int32)) fun v5 =>
  k95 σ bb3 y4 v4 v5
set_option maxRecDepth 100000 in
set_option maxHeartbeats 4000000 in
theorem t_X6_would_n120 {Γ : St → Nat → List (Nat × Value) → List Value → Prop} {l : Launch} {a : Nat → Nat} {r : Int32} {t' : St} (hC : Cx Γ l cX6_would RX6 8 (some .int) Rm_X6_would wC a (some (.int r)) t') (x1 : Int32) (x2 : Int32) (k95 : St → Nat → Int32 → Int32 → Int32 → Option (Int32 × St)) (hk95 : ∀ (σ : St) (bb3 : Nat) (y4 : Int32) (y5 : Int32) (y6 : Int32), bb3 < 3 → k95 σ bb3 y4 y5 y6 = some (r, t') → Γ σ 95 [(0, .ref (a 0)), (3, .ref (a (1 + bb3))), (4, .int y4), (5, .int y5), (6, .int y6)] []) (σ : St) (bb3 : Nat) (y4 : Int32) (y5 : Int32) (y6 : Int32) (w0 : Int32) (hbb3 : bb3 < 3) (h : f_X6_would_n120 x1 x2 k95 σ bb3 y4 y5 y6 w0 = some (r, t')) : Γ σ 120 [(0, .ref (a 0)), (3, .ref (a (1 + bb3))), (4, .int y4), (5, .int y5), (6, .int y6)] [.int w0] := by
  unfold f_X6_would_n120 at h
  refine r_istore (lv' := [(7, .int w0), (0, .ref (a 0)), (3, .ref (a (1 + bb3))), (4, .int y4), (5, .int y5), (6, .int y6)]) hC dX6_would_120 (by decide) rfl rfl ?_
  refine r_aload_n hC dX6_would_122 rfl 1 rfl ?_
  refine G6_36 hC dX6_would_123 ?_
  refine r_iload hC dX6_would_126 5 rfl ?_
  replace h := bind_of h
  obtain ⟨v1, hv1, h⟩ := h
  refine r_callV (As := [.int y6]) (rest := []) hC (con_X2_slotOf l σ 0 y6 (by decide) hv1) K6_102 (ob2 a σ 0 (by decide)) rfl rfl rfl rfl ⟨Nat.le_of_ble_eq_true rfl, Nat.le_of_ble_eq_true rfl⟩ (Nat.le_of_ble_eq_true rfl) dX6_would_128 ?_
  refine r_aload_n hC dX6_would_131 rfl 1 rfl ?_
  refine G6_40 hC dX6_would_132 ?_
  refine r_iload hC dX6_would_135 0 rfl ?_
  replace h := bind_of h
  obtain ⟨v2, hv2, h⟩ := h
  refine r_callV (As := [.int w0]) (rest := [.int v1]) hC (con_X2_slotOf l σ 1 w0 (by decide) hv2) K6_102 (ob2 a σ 1 (by decide)) rfl rfl rfl rfl ⟨Nat.le_of_ble_eq_true rfl, Nat.le_of_ble_eq_true rfl⟩ (Nat.le_of_ble_eq_true rfl) dX6_would_137 ?_
  refine r_icmp_eq hC 146 dX6_would_140 (by decide) (fun q => ?_) (fun q => ?_)
  · replace h := if_p q h
    replace h := lt_of h
    obtain ⟨v3, ev3, h⟩ := h
    refine r_iinc (c1 := 1) (lv' := [(6, .int v3), (7, .int w0), (0, .ref (a 0)), (3, .ref (a (1 + bb3))), (4, .int y4), (5, .int y5)]) hC dX6_would_146 5 rfl (by decide) (by decide) ev3 rfl ?_
    refine r_goto hC 95 dX6_would_149 (by decide) ?_
    refine r_sub hC [2, 3, 4, 5, 0] rfl ?_
    exact hk95 σ bb3 y4 y5 v3 hbb3 h
  · replace h := if_n q h
    replace h := lt_of h
    obtain ⟨v4, ev4, h⟩ := h
    refine r_iinc (c1 := 1) (lv' := [(5, .int v4), (7, .int w0), (0, .ref (a 0)), (3, .ref (a (1 + bb3))), (4, .int y4), (6, .int y6)]) hC dX6_would_143 4 rfl (by decide) (by decide) ev4 rfl ?_
    replace h := lt_of h
    obtain ⟨v5, ev5, h⟩ := h
    refine r_iinc (c1 := 1) (lv' := [(6, .int v5), (5, .int v4), (7, .int w0), (0, .ref (a 0)), (3, .ref (a (1 + bb3))), (4, .int y4)]) hC dX6_would_146 5 rfl (by decide) (by decide) ev5 rfl ?_
    refine r_goto hC 95 dX6_would_149 (by decide) ?_
    refine r_sub hC [3, 4, 5, 1, 0] rfl ?_
    exact hk95 σ bb3 y4 v4 v5 hbb3 h
def f_X6_would_n95_b (x1 : Int32) (x2 : Int32) (self : St → Nat → Int32 → Int32 → Int32 → Option (Int32 × St)) (σ : St) (bb3 : Nat) (y4 : Int32) (y5 : Int32) (y6 : Int32) : Option (Int32 × St) :=
  if (st_i σ (3 + 2 * bb3)) ≤ y6 then
    (f_X2_slotOf σ 1 y4).bind fun v6 =>
    (f_X3_tell σ (v6.toInt64)).bind fun s7 =>
    some (y5, s7)
  else
  if y4 ≤ y6 then
    f_X6_would_n120 x1 x2 self σ bb3 y4 y5 y6 (y6 + (1 : Int32))
  else
  f_X6_would_n120 x1 x2 self σ bb3 y4 y5 y6 y6
def f_X6_would_n95 (x1 : Int32) (x2 : Int32) : Nat → St → Nat → Int32 → Int32 → Int32 → Option (Int32 × St)
  | 0 => fun _ _ _ _ _ => none
  | n + 1 => fun σ bb3 y4 y5 y6 => f_X6_would_n95_b x1 x2  (f_X6_would_n95 x1 x2  n) σ bb3 y4 y5 y6
set_option maxRecDepth 100000 in
set_option maxHeartbeats 4000000 in
theorem t_X6_would_n95_b {Γ : St → Nat → List (Nat × Value) → List Value → Prop} {l : Launch} {a : Nat → Nat} {r : Int32} {t' : St} (hC : Cx Γ l cX6_would RX6 8 (some .int) Rm_X6_would wC a (some (.int r)) t') (x1 : Int32) (x2 : Int32) (self : St → Nat → Int32 → Int32 → Int32 → Option (Int32 × St)) (hself : ∀ (σ : St) (bb3 : Nat) (y4 : Int32) (y5 : Int32) (y6 : Int32), bb3 < 3 → self σ bb3 y4 y5 y6 = some (r, t') → Γ σ 95 [(0, .ref (a 0)), (3, .ref (a (1 + bb3))), (4, .int y4), (5, .int y5), (6, .int y6)] []) (σ : St) (bb3 : Nat) (y4 : Int32) (y5 : Int32) (y6 : Int32) (hbb3 : bb3 < 3) (h : f_X6_would_n95_b x1 x2 self σ bb3 y4 y5 y6 = some (r, t')) : Γ σ 95 [(0, .ref (a 0)), (3, .ref (a (1 + bb3))), (4, .int y4), (5, .int y5), (6, .int y6)] [] := by
  unfold f_X6_would_n95_b at h
  refine r_iload hC dX6_would_95 4 rfl ?_
  refine r_aload_n hC dX6_would_97 rfl 1 rfl ?_
  refine G6_105 hC bb3 hbb3 dX6_would_98 ?_
  refine r_icmp_ge hC 152 dX6_would_101 (by decide) (fun q => ?_) (fun q => ?_)
  · replace h := if_p q h
    refine r_aload_n hC dX6_would_152 rfl 0 rfl ?_
    refine G6_53 hC dX6_would_153 ?_
    refine r_aload_n hC dX6_would_156 rfl 0 rfl ?_
    refine G6_40 hC dX6_would_157 ?_
    refine r_iload hC dX6_would_160 2 rfl ?_
    replace h := bind_of h
    obtain ⟨v6, hv6, h⟩ := h
    refine r_callV (As := [.int y4]) (rest := [.ref (a 7)]) hC (con_X2_slotOf l σ 1 y4 (by decide) hv6) K6_102 (ob2 a σ 1 (by decide)) rfl rfl rfl rfl ⟨Nat.le_of_ble_eq_true rfl, Nat.le_of_ble_eq_true rfl⟩ (Nat.le_of_ble_eq_true rfl) dX6_would_162 ?_
    refine r_i2l hC dX6_would_165 ?_
    replace h := bind_of h
    obtain ⟨s7, hs7, h⟩ := h
    refine r_callV (As := [.long (v6.toInt64)]) (rest := []) hC (con_X3_tell l σ (v6.toInt64) hs7) K6_115 (ob3 a σ) rfl rfl rfl rfl ⟨Nat.le_of_ble_eq_true rfl, Nat.le_of_ble_eq_true rfl⟩ (Nat.le_of_ble_eq_true rfl) dX6_would_166 ?_
    refine r_iload hC dX6_would_169 3 rfl ?_
    exact r_iretS hC dX6_would_171 h
  · replace h := if_n q h
    refine r_iload hC dX6_would_104 4 rfl ?_
    refine r_iload hC dX6_would_106 2 rfl ?_
    refine r_icmp_ge hC 116 dX6_would_108 (by decide) (fun q => ?_) (fun q => ?_)
    · replace h := if_p q h
      refine r_iload hC dX6_would_116 4 rfl ?_
      refine r_iconst (v := 1) hC dX6_would_118 (by decide) ?_
      refine r_iadd hC dX6_would_119 ?_
      exact t_X6_would_n120 hC x1 x2 self hself σ bb3 y4 y5 y6 (y6 + (1 : Int32)) hbb3 h
    · replace h := if_n q h
      refine r_iload hC dX6_would_111 4 rfl ?_
      refine r_goto hC 120 dX6_would_113 (by decide) ?_
      exact t_X6_would_n120 hC x1 x2 self hself σ bb3 y4 y5 y6 y6 hbb3 h
set_option maxRecDepth 100000 in
set_option maxHeartbeats 4000000 in
theorem t_X6_would_n95 {Γ : St → Nat → List (Nat × Value) → List Value → Prop} {l : Launch} {a : Nat → Nat} {r : Int32} {t' : St} (hC : Cx Γ l cX6_would RX6 8 (some .int) Rm_X6_would wC a (some (.int r)) t') (x1 : Int32) (x2 : Int32) (n : Nat) : ∀ (σ : St) (bb3 : Nat) (y4 : Int32) (y5 : Int32) (y6 : Int32), bb3 < 3 → f_X6_would_n95 x1 x2 n σ bb3 y4 y5 y6 = some (r, t') → Γ σ 95 [(0, .ref (a 0)), (3, .ref (a (1 + bb3))), (4, .int y4), (5, .int y5), (6, .int y6)] [] := by
  induction n with
  | zero =>
    intro σ bb3 y4 y5 y6 hbb3 h
    have h : (none : Option (Int32 × St)) = some (r, t') := h
    cases h
  | succ n ih =>
    intro σ bb3 y4 y5 y6 hbb3 h
    exact t_X6_would_n95_b hC x1 x2    (f_X6_would_n95 x1 x2  n) ih σ bb3 y4 y5 y6 hbb3 h
def f_X6_would (σ : St) (x1 : Int32) (x2 : Int32) : Option (Int32 × St) :=
  lt_ (f_X6_bagOf x1) fun o8 =>
  on_b o8 (
    some ((-1 : Int32), σ)) fun bb90 =>
  if (f_X6_isKey σ x2) = 0 then
    some ((-1 : Int32), σ)
  else
  if (f_X6_mustDouble σ bb90) = 0 then
    if (f_X0_isFull σ bb90) = 0 then
      (f_X0_becomeLike σ 2 bb90).bind fun s10 =>
      bind2 (f_X0_insert s10 2 (f_X6_printOf s10 x2)) fun v12 s11 =>
      (f_X2_lay s11 0 bb90 (st_i s11 0)).bind fun s13 =>
      (f_X2_lay s13 1 2 (st_i s13 0)).bind fun s14 =>
      f_X6_would_n95 x1 x2 fuel s14 bb90 v12 (0 : Int32) (0 : Int32)
    else
    some ((-5 : Int32), σ)
  else
  some ((-3 : Int32), σ)
set_option maxRecDepth 100000 in
set_option maxHeartbeats 4000000 in
theorem con_X6_would (l : Launch) (σ : St) (x1 : Int32) (x2 : Int32) {r : Int32} {t' : St} (h : f_X6_would σ x1 x2 = some (r, t')) : Con l yX6_would cX6_would 8 (some .int) Rm_X6_would wC (fun a => [.ref (a 0), .int x1, .int x2]) σ (fun _ => some (.int r)) t' := by
  refine con_of (by decide) ⟨rfl, rfl⟩ (fun _ => Nat.le_of_ble_eq_true rfl) (fun Γ a hC => ?_)
  have hC : Cx Γ l cX6_would RX6 8 (some .int) Rm_X6_would wC a (some (.int r)) t' := hC
  show Γ σ 0 [(0, .ref (a 0)), (1, .int x1), (2, .int x2)] []
  unfold f_X6_would at h
  refine r_aload_n hC dX6_would_0 rfl 0 rfl ?_
  refine r_iload_n hC dX6_would_1 rfl 1 rfl ?_
  refine r_callV (As := [.int x1]) (rest := []) hC (con_X6_bagOf l σ x1) K6_75 (ob6 a σ) rfl rfl rfl rfl ⟨Nat.le_of_ble_eq_true rfl, Nat.le_of_ble_eq_true rfl⟩ (Nat.le_of_ble_eq_true rfl) dX6_would_2 ?_
  replace h := lt_of h
  obtain ⟨o8, eo8, h⟩ := h
  have ho8 : ∀ z, o8 = some z → z < 3 := fun z q => bagOf_lt (eo8.symm.trans q)
  refine r_astoreO_n (lv' := [(3, rb_ a o8), (0, .ref (a 0)), (1, .int x1), (2, .int x2)]) hC dX6_would_5 rfl (by decide) eo8 rfl ?_
  refine r_aloadO_n hC dX6_would_6 rfl 0 rfl ?_
  replace h := on_b_of h
  rcases h with ⟨rfl, h⟩ | ⟨bb90, rfl, h⟩
  · refine r_ifnullN hC 17 dX6_would_7 (by decide) ?_
    refine r_iconst (v := -1) hC dX6_would_17 (by decide) ?_
    exact r_iretS hC dX6_would_18 h
  · have hbb90 : bb90 < 3 := ho8 bb90 rfl
    refine r_ifnull hC dX6_would_7 ?_
    refine r_iload_n hC dX6_would_10 rfl 3 rfl ?_
    refine r_callS (As := [.int x2]) (rest := []) hC (con_X6_isKey l σ x2 rfl) K6_79 rfl rfl rfl ⟨Nat.le_of_ble_eq_true rfl, Nat.le_of_ble_eq_true rfl⟩ (Nat.le_of_ble_eq_true rfl) dX6_would_11 ?_
    refine r_if_ne hC 19 dX6_would_14 (by decide) (fun q => ?_) (fun q => ?_)
    · replace h := if_n q h
      refine r_aload_n hC dX6_would_19 rfl 1 rfl ?_
      refine r_aload_n hC dX6_would_20 rfl 0 rfl ?_
      refine r_callV (As := [.ref (a (1 + bb90))]) (rest := []) hC (con_X6_mustDouble l σ bb90 hbb90 rfl) K6_222 (ob6 a σ) rfl rfl rfl rfl ⟨Nat.le_of_ble_eq_true rfl, Nat.le_of_ble_eq_true rfl⟩ (Nat.le_of_ble_eq_true rfl) dX6_would_21 ?_
      refine r_if_eq hC 30 dX6_would_24 (by decide) (fun q => ?_) (fun q => ?_)
      · replace h := if_p q h
        refine r_aload_n hC dX6_would_30 rfl 0 rfl ?_
        refine r_callV (As := []) (rest := []) hC (con_X0_isFull l σ bb90 hbb90 rfl) K6_226 (ob0 a σ bb90 hbb90) rfl rfl rfl rfl ⟨Nat.le_of_ble_eq_true rfl, Nat.le_of_ble_eq_true rfl⟩ (Nat.le_of_ble_eq_true rfl) dX6_would_31 ?_
        refine r_if_eq hC 40 dX6_would_34 (by decide) (fun q => ?_) (fun q => ?_)
        · replace h := if_p q h
          refine r_aload_n hC dX6_would_40 rfl 1 rfl ?_
          refine G6_30 hC dX6_would_41 ?_
          refine r_aload_n hC dX6_would_44 rfl 0 rfl ?_
          replace h := bind_of h
          obtain ⟨s10, hs10, h⟩ := h
          refine r_callV (As := [.ref (a (1 + bb90))]) (rest := []) hC (con_X0_becomeLike l σ 2 bb90 (by decide) hbb90 hs10) K6_230 (ob0 a σ 2 (by decide)) rfl rfl rfl rfl ⟨Nat.le_of_ble_eq_true rfl, Nat.le_of_ble_eq_true rfl⟩ (Nat.le_of_ble_eq_true rfl) dX6_would_45 ?_
          refine r_aload_n hC dX6_would_48 rfl 1 rfl ?_
          refine G6_30 hC dX6_would_49 ?_
          refine r_aload_n hC dX6_would_52 rfl 1 rfl ?_
          refine r_iload_n hC dX6_would_53 rfl 3 rfl ?_
          refine r_callV (As := [.int x2]) (rest := [.ref (a 3)]) hC (con_X6_printOf l s10 x2 rfl) K6_83 (ob6 a s10) rfl rfl rfl rfl ⟨Nat.le_of_ble_eq_true rfl, Nat.le_of_ble_eq_true rfl⟩ (Nat.le_of_ble_eq_true rfl) dX6_would_54 ?_
          replace h := bind2_of h
          obtain ⟨v12, s11, hs11, h⟩ := h
          refine r_callV (As := [.int (f_X6_printOf s10 x2)]) (rest := []) hC (con_X0_insert l s10 2 (f_X6_printOf s10 x2) (by decide) hs11) K6_234 (ob0 a s10 2 (by decide)) rfl rfl rfl rfl ⟨Nat.le_of_ble_eq_true rfl, Nat.le_of_ble_eq_true rfl⟩ (Nat.le_of_ble_eq_true rfl) dX6_would_57 ?_
          refine r_istore (lv' := [(4, .int v12), (3, .ref (a (1 + bb90))), (0, .ref (a 0)), (1, .int x1), (2, .int x2)]) hC dX6_would_60 (by decide) rfl rfl ?_
          refine r_aload_n hC dX6_would_62 rfl 2 rfl ?_
          refine G6_36 hC dX6_would_63 ?_
          refine r_aload_n hC dX6_would_66 rfl 1 rfl ?_
          refine r_aload_n hC dX6_would_67 rfl 2 rfl ?_
          refine G6_7 hC dX6_would_68 ?_
          replace h := bind_of h
          obtain ⟨s13, hs13, h⟩ := h
          refine r_callV (As := [.ref (a (1 + bb90)), .int (st_i s11 0)]) (rest := []) hC (con_X2_lay l s11 0 bb90 (st_i s11 0) (by decide) hbb90 hs13) K6_98 (ob2 a s11 0 (by decide)) rfl rfl rfl rfl ⟨Nat.le_of_ble_eq_true rfl, Nat.le_of_ble_eq_true rfl⟩ (Nat.le_of_ble_eq_true rfl) dX6_would_71 ?_
          refine r_aload_n hC dX6_would_74 rfl 2 rfl ?_
          refine G6_40 hC dX6_would_75 ?_
          refine r_aload_n hC dX6_would_78 rfl 2 rfl ?_
          refine G6_30 hC dX6_would_79 ?_
          refine r_aload_n hC dX6_would_82 rfl 2 rfl ?_
          refine G6_7 hC dX6_would_83 ?_
          replace h := bind_of h
          obtain ⟨s14, hs14, h⟩ := h
          refine r_callV (As := [.ref (a 3), .int (st_i s13 0)]) (rest := []) hC (con_X2_lay l s13 1 2 (st_i s13 0) (by decide) (by decide) hs14) K6_98 (ob2 a s13 1 (by decide)) rfl rfl rfl rfl ⟨Nat.le_of_ble_eq_true rfl, Nat.le_of_ble_eq_true rfl⟩ (Nat.le_of_ble_eq_true rfl) dX6_would_86 ?_
          refine r_iconst (v := 0) hC dX6_would_89 (by decide) ?_
          refine r_istore (lv' := [(5, .int (0 : Int32)), (4, .int v12), (3, .ref (a (1 + bb90))), (0, .ref (a 0)), (1, .int x1), (2, .int x2)]) hC dX6_would_90 (by decide) rfl rfl ?_
          refine r_iconst (v := 0) hC dX6_would_92 (by decide) ?_
          refine r_istore (lv' := [(6, .int (0 : Int32)), (5, .int (0 : Int32)), (4, .int v12), (3, .ref (a (1 + bb90))), (0, .ref (a 0)), (1, .int x1), (2, .int x2)]) hC dX6_would_93 (by decide) rfl rfl ?_
          refine r_sub hC [4, 3, 2, 1, 0] rfl ?_
          exact t_X6_would_n95 hC x1 x2 fuel s14 bb90 v12 (0 : Int32) (0 : Int32) hbb90 h
        · replace h := if_n q h
          refine r_bipush (v := -5) hC dX6_would_37 (by decide) ?_
          exact r_iretS hC dX6_would_39 h
      · replace h := if_n q h
        refine r_bipush (v := -3) hC dX6_would_27 (by decide) ?_
        exact r_iretS hC dX6_would_29 h
    · replace h := if_p q h
      refine r_iconst (v := -1) hC dX6_would_17 (by decide) ?_
      exact r_iretS hC dX6_would_18 h
abbrev Rm_X6_wrongs : Room := { frames := 4, cells := 0, slots := 0, locals := 89 }
def f_X6_wrongs_n55_b (x1 : Int32) (self : St → Nat → Int32 → Int32 → Int32 → Option (Int32 × St)) (σ : St) (bb2 : Nat) (y4 : Int32) (y5 : Int32) (y6 : Int32) : Option (Int32 × St) :=
  if (1000 : Int32) ≤ y6 then
    (f_X6_missingOfTold σ bb2).bind fun v4 =>
    (f_X3_tell_ σ (y5.toInt64) (v4.toInt64)).bind fun s5 =>
    some (y4, s5)
  else
  (f_X0_holds σ bb2 (f_X6_printOf σ y6)).bind fun v6 =>
  if v6 = 0 then
    lt_ (y6 + (1 : Int32)) fun v7 =>
    self σ bb2 y4 y5 v7
  else
  (f_X1_holds σ y6).bind fun v8 =>
  if v8 = 0 then
    lt_ (y4 + (1 : Int32)) fun v10 =>
    if 0 ≤ y5 then
      lt_ (y6 + (1 : Int32)) fun v11 =>
      self σ bb2 v10 y5 v11
    else
    lt_ (y6 + (1 : Int32)) fun v12 =>
    self σ bb2 v10 y6 v12
  else
  lt_ (y6 + (1 : Int32)) fun v9 =>
  self σ bb2 y4 y5 v9
def f_X6_wrongs_n55 (x1 : Int32) : Nat → St → Nat → Int32 → Int32 → Int32 → Option (Int32 × St)
  | 0 => fun _ _ _ _ _ => none
  | n + 1 => fun σ bb2 y4 y5 y6 => f_X6_wrongs_n55_b x1  (f_X6_wrongs_n55 x1  n) σ bb2 y4 y5 y6
set_option maxRecDepth 100000 in
set_option maxHeartbeats 4000000 in
theorem t_X6_wrongs_n55_b {Γ : St → Nat → List (Nat × Value) → List Value → Prop} {l : Launch} {a : Nat → Nat} {r : Int32} {t' : St} (hC : Cx Γ l cX6_wrongs RX6 7 (some .int) Rm_X6_wrongs wC a (some (.int r)) t') (x1 : Int32) (self : St → Nat → Int32 → Int32 → Int32 → Option (Int32 × St)) (hself : ∀ (σ : St) (bb2 : Nat) (y4 : Int32) (y5 : Int32) (y6 : Int32), bb2 < 3 → self σ bb2 y4 y5 y6 = some (r, t') → Γ σ 55 [(0, .ref (a 0)), (2, .ref (a (1 + bb2))), (4, .int y4), (5, .int y5), (6, .int y6)] []) (σ : St) (bb2 : Nat) (y4 : Int32) (y5 : Int32) (y6 : Int32) (hbb2 : bb2 < 3) (h : f_X6_wrongs_n55_b x1 self σ bb2 y4 y5 y6 = some (r, t')) : Γ σ 55 [(0, .ref (a 0)), (2, .ref (a (1 + bb2))), (4, .int y4), (5, .int y5), (6, .int y6)] [] := by
  unfold f_X6_wrongs_n55_b at h
  refine r_iload hC dX6_wrongs_55 4 rfl ?_
  refine r_sipush (v := 1000) hC dX6_wrongs_57 (by decide) ?_
  refine r_icmp_ge hC 111 dX6_wrongs_60 (by decide) (fun q => ?_) (fun q => ?_)
  · replace h := if_p q h
    refine r_aload_n hC dX6_wrongs_111 rfl 0 rfl ?_
    refine G6_53 hC dX6_wrongs_112 ?_
    refine r_iload hC dX6_wrongs_115 3 rfl ?_
    refine r_i2l hC dX6_wrongs_117 ?_
    refine r_aload_n hC dX6_wrongs_118 rfl 0 rfl ?_
    refine r_aload_n hC dX6_wrongs_119 rfl 1 rfl ?_
    replace h := bind_of h
    obtain ⟨v4, hv4, h⟩ := h
    refine r_callV (As := [.ref (a (1 + bb2))]) (rest := [.long (y5.toInt64), .ref (a 7)]) hC (con_X6_missingOfTold l σ bb2 hbb2 hv4) K6_147 (ob6 a σ) rfl rfl rfl rfl ⟨Nat.le_of_ble_eq_true rfl, Nat.le_of_ble_eq_true rfl⟩ (Nat.le_of_ble_eq_true rfl) dX6_wrongs_120 ?_
    refine r_i2l hC dX6_wrongs_123 ?_
    replace h := bind_of h
    obtain ⟨s5, hs5, h⟩ := h
    refine r_callV (As := [.long (y5.toInt64), .long (v4.toInt64)]) (rest := []) hC (con_X3_tell_ l σ (y5.toInt64) (v4.toInt64) hs5) K6_90 (ob3 a σ) rfl rfl rfl rfl ⟨Nat.le_of_ble_eq_true rfl, Nat.le_of_ble_eq_true rfl⟩ (Nat.le_of_ble_eq_true rfl) dX6_wrongs_124 ?_
    refine r_iload hC dX6_wrongs_127 2 rfl ?_
    exact r_iretS hC dX6_wrongs_129 h
  · replace h := if_n q h
    refine r_aload_n hC dX6_wrongs_63 rfl 1 rfl ?_
    refine r_aload_n hC dX6_wrongs_64 rfl 0 rfl ?_
    refine r_iload hC dX6_wrongs_65 4 rfl ?_
    refine r_callV (As := [.int y6]) (rest := [.ref (a (1 + bb2))]) hC (con_X6_printOf l σ y6 rfl) K6_83 (ob6 a σ) rfl rfl rfl rfl ⟨Nat.le_of_ble_eq_true rfl, Nat.le_of_ble_eq_true rfl⟩ (Nat.le_of_ble_eq_true rfl) dX6_wrongs_67 ?_
    replace h := bind_of h
    obtain ⟨v6, hv6, h⟩ := h
    refine r_callV (As := [.int (f_X6_printOf σ y6)]) (rest := []) hC (con_X0_holds l σ bb2 (f_X6_printOf σ y6) hbb2 hv6) K6_143 (ob0 a σ bb2 hbb2) rfl rfl rfl rfl ⟨Nat.le_of_ble_eq_true rfl, Nat.le_of_ble_eq_true rfl⟩ (Nat.le_of_ble_eq_true rfl) dX6_wrongs_70 ?_
    refine r_if_eq hC 105 dX6_wrongs_73 (by decide) (fun q => ?_) (fun q => ?_)
    · replace h := if_p q h
      replace h := lt_of h
      obtain ⟨v7, ev7, h⟩ := h
      refine r_iinc (c1 := 1) (lv' := [(6, .int v7), (0, .ref (a 0)), (2, .ref (a (1 + bb2))), (4, .int y4), (5, .int y5)]) hC dX6_wrongs_105 4 rfl (by decide) (by decide) ev7 rfl ?_
      refine r_goto hC 55 dX6_wrongs_108 (by decide) ?_
      refine r_sub hC [1, 2, 3, 4, 0] rfl ?_
      exact hself σ bb2 y4 y5 v7 hbb2 h
    · replace h := if_n q h
      refine r_aload_n hC dX6_wrongs_76 rfl 0 rfl ?_
      refine G6_67 hC dX6_wrongs_77 ?_
      refine r_iload hC dX6_wrongs_80 4 rfl ?_
      replace h := bind_of h
      obtain ⟨v8, hv8, h⟩ := h
      refine r_callV (As := [.int y6]) (rest := []) hC (con_X1_holds l σ y6 hv8) K6_146 (ob1 a σ) rfl rfl rfl rfl ⟨Nat.le_of_ble_eq_true rfl, Nat.le_of_ble_eq_true rfl⟩ (Nat.le_of_ble_eq_true rfl) dX6_wrongs_82 ?_
      refine r_if_ne hC 105 dX6_wrongs_85 (by decide) (fun q => ?_) (fun q => ?_)
      · replace h := if_n q h
        replace h := lt_of h
        obtain ⟨v9, ev9, h⟩ := h
        refine r_iinc (c1 := 1) (lv' := [(6, .int v9), (0, .ref (a 0)), (2, .ref (a (1 + bb2))), (4, .int y4), (5, .int y5)]) hC dX6_wrongs_105 4 rfl (by decide) (by decide) ev9 rfl ?_
        refine r_goto hC 55 dX6_wrongs_108 (by decide) ?_
        refine r_sub hC [1, 2, 3, 4, 0] rfl ?_
        exact hself σ bb2 y4 y5 v9 hbb2 h
      · replace h := if_p q h
        replace h := lt_of h
        obtain ⟨v10, ev10, h⟩ := h
        refine r_iinc (c1 := 1) (lv' := [(4, .int v10), (0, .ref (a 0)), (2, .ref (a (1 + bb2))), (5, .int y5), (6, .int y6)]) hC dX6_wrongs_88 2 rfl (by decide) (by decide) ev10 rfl ?_
        refine r_iload hC dX6_wrongs_91 3 rfl ?_
        refine r_if_ge hC 101 dX6_wrongs_93 (by decide) (fun q => ?_) (fun q => ?_)
        · replace h := if_p q h
          refine r_iload hC dX6_wrongs_101 3 rfl ?_
          refine r_istore (lv' := [(5, .int y5), (4, .int v10), (0, .ref (a 0)), (2, .ref (a (1 + bb2))), (6, .int y6)]) hC dX6_wrongs_103 (by decide) rfl rfl ?_
          replace h := lt_of h
          obtain ⟨v11, ev11, h⟩ := h
          refine r_iinc (c1 := 1) (lv' := [(6, .int v11), (5, .int y5), (4, .int v10), (0, .ref (a 0)), (2, .ref (a (1 + bb2)))]) hC dX6_wrongs_105 4 rfl (by decide) (by decide) ev11 rfl ?_
          refine r_goto hC 55 dX6_wrongs_108 (by decide) ?_
          refine r_sub hC [3, 4, 2, 1, 0] rfl ?_
          exact hself σ bb2 v10 y5 v11 hbb2 h
        · replace h := if_n q h
          refine r_iload hC dX6_wrongs_96 4 rfl ?_
          refine r_goto hC 103 dX6_wrongs_98 (by decide) ?_
          refine r_istore (lv' := [(5, .int y6), (4, .int v10), (0, .ref (a 0)), (2, .ref (a (1 + bb2))), (6, .int y6)]) hC dX6_wrongs_103 (by decide) rfl rfl ?_
          replace h := lt_of h
          obtain ⟨v12, ev12, h⟩ := h
          refine r_iinc (c1 := 1) (lv' := [(6, .int v12), (5, .int y6), (4, .int v10), (0, .ref (a 0)), (2, .ref (a (1 + bb2)))]) hC dX6_wrongs_105 4 rfl (by decide) (by decide) ev12 rfl ?_
          refine r_goto hC 55 dX6_wrongs_108 (by decide) ?_
          refine r_sub hC [3, 4, 2, 1, 0] rfl ?_
          exact hself σ bb2 v10 y6 v12 hbb2 h
set_option maxRecDepth 100000 in
set_option maxHeartbeats 4000000 in
theorem t_X6_wrongs_n55 {Γ : St → Nat → List (Nat × Value) → List Value → Prop} {l : Launch} {a : Nat → Nat} {r : Int32} {t' : St} (hC : Cx Γ l cX6_wrongs RX6 7 (some .int) Rm_X6_wrongs wC a (some (.int r)) t') (x1 : Int32) (n : Nat) : ∀ (σ : St) (bb2 : Nat) (y4 : Int32) (y5 : Int32) (y6 : Int32), bb2 < 3 → f_X6_wrongs_n55 x1 n σ bb2 y4 y5 y6 = some (r, t') → Γ σ 55 [(0, .ref (a 0)), (2, .ref (a (1 + bb2))), (4, .int y4), (5, .int y5), (6, .int y6)] [] := by
  induction n with
  | zero =>
    intro σ bb2 y4 y5 y6 hbb2 h
    have h : (none : Option (Int32 × St)) = some (r, t') := h
    cases h
  | succ n ih =>
    intro σ bb2 y4 y5 y6 hbb2 h
    exact t_X6_wrongs_n55_b hC x1    (f_X6_wrongs_n55 x1  n) ih σ bb2 y4 y5 y6 hbb2 h
def f_X6_wrongs_n26 (x1 : Int32) (σ : St) (o2 : Option Nat) (w0 : Int32) : Option (Int32 × St) :=
  bind2 (f_X5_cutTo σ (0 : Int32)) fun v2 s1 =>
  on_b o2 (
    some (w0, s1)) fun bb30 =>
  if 0 ≤ w0 then
    f_X6_wrongs_n55 x1 fuel s1 bb30 (0 : Int32) (-1 : Int32) (0 : Int32)
  else
  some (w0, s1)
set_option maxRecDepth 100000 in
set_option maxHeartbeats 4000000 in
theorem t_X6_wrongs_n26 {Γ : St → Nat → List (Nat × Value) → List Value → Prop} {l : Launch} {a : Nat → Nat} {r : Int32} {t' : St} (hC : Cx Γ l cX6_wrongs RX6 7 (some .int) Rm_X6_wrongs wC a (some (.int r)) t') (x1 : Int32) (σ : St) (o2 : Option Nat) (w0 : Int32) (ho2 : ∀ z, o2 = some z → z < 3) (h : f_X6_wrongs_n26 x1 σ o2 w0 = some (r, t')) : Γ σ 26 [(0, .ref (a 0)), (2, rb_ a o2)] [.int w0] := by
  unfold f_X6_wrongs_n26 at h
  refine r_istore_n (lv' := [(3, .int w0), (0, .ref (a 0)), (2, rb_ a o2)]) (i := 3) hC dX6_wrongs_26 rfl (by decide) rfl (by simp [rb_cat]) ?_
  refine r_aload_n hC dX6_wrongs_27 rfl 1 rfl ?_
  refine G6_60 hC dX6_wrongs_28 ?_
  refine r_iconst (v := 0) hC dX6_wrongs_31 (by decide) ?_
  replace h := bind2_of h
  obtain ⟨v2, s1, hs1, h⟩ := h
  refine r_callV (As := [.int (0 : Int32)]) (rest := []) hC (con_X5_cutTo l σ (0 : Int32) hs1) K6_129 (ob5 a σ) rfl rfl rfl rfl ⟨Nat.le_of_ble_eq_true rfl, Nat.le_of_ble_eq_true rfl⟩ (Nat.le_of_ble_eq_true rfl) dX6_wrongs_32 ?_
  refine r_pop hC dX6_wrongs_35 rfl ?_
  refine r_aloadO_n hC dX6_wrongs_36 rfl 2 rfl ?_
  replace h := on_b_of h
  rcases h with ⟨rfl, h⟩ | ⟨bb30, rfl, h⟩
  · refine r_ifnullN hC 44 dX6_wrongs_37 (by decide) ?_
    refine r_iload_n hC dX6_wrongs_44 rfl 0 rfl ?_
    exact r_iretS hC dX6_wrongs_45 h
  · have hbb30 : bb30 < 3 := ho2 bb30 rfl
    refine r_ifnull hC dX6_wrongs_37 ?_
    refine r_iload_n hC dX6_wrongs_40 rfl 0 rfl ?_
    refine r_if_ge hC 46 dX6_wrongs_41 (by decide) (fun q => ?_) (fun q => ?_)
    · replace h := if_p q h
      refine r_iconst (v := 0) hC dX6_wrongs_46 (by decide) ?_
      refine r_istore (lv' := [(4, .int (0 : Int32)), (3, .int w0), (0, .ref (a 0)), (2, .ref (a (1 + bb30)))]) hC dX6_wrongs_47 (by decide) rfl rfl ?_
      refine r_iconst (v := -1) hC dX6_wrongs_49 (by decide) ?_
      refine r_istore (lv' := [(5, .int (-1 : Int32)), (4, .int (0 : Int32)), (3, .int w0), (0, .ref (a 0)), (2, .ref (a (1 + bb30)))]) hC dX6_wrongs_50 (by decide) rfl rfl ?_
      refine r_iconst (v := 0) hC dX6_wrongs_52 (by decide) ?_
      refine r_istore (lv' := [(6, .int (0 : Int32)), (5, .int (-1 : Int32)), (4, .int (0 : Int32)), (3, .int w0), (0, .ref (a 0)), (2, .ref (a (1 + bb30)))]) hC dX6_wrongs_53 (by decide) rfl rfl ?_
      refine r_sub hC [4, 5, 2, 1, 0] rfl ?_
      exact t_X6_wrongs_n55 hC x1 fuel s1 bb30 (0 : Int32) (-1 : Int32) (0 : Int32) hbb30 h
    · replace h := if_n q h
      refine r_iload_n hC dX6_wrongs_44 rfl 0 rfl ?_
      exact r_iretS hC dX6_wrongs_45 h
def f_X6_wrongs (σ : St) (x1 : Int32) : Option (Int32 × St) :=
  lt_ (f_X6_bagOf x1) fun o13 =>
  on_b o13 (
    f_X6_wrongs_n26 x1 σ none (-1 : Int32)) fun bb140 =>
  bind2 (f_X1_read σ (0 : Int32)) fun v16 s15 =>
  f_X6_wrongs_n26 x1 s15 (some bb140) v16
set_option maxRecDepth 100000 in
set_option maxHeartbeats 4000000 in
theorem con_X6_wrongs (l : Launch) (σ : St) (x1 : Int32) {r : Int32} {t' : St} (h : f_X6_wrongs σ x1 = some (r, t')) : Con l yX6_wrongs cX6_wrongs 7 (some .int) Rm_X6_wrongs wC (fun a => [.ref (a 0), .int x1]) σ (fun _ => some (.int r)) t' := by
  refine con_of (by decide) ⟨rfl, rfl⟩ (fun _ => Nat.le_of_ble_eq_true rfl) (fun Γ a hC => ?_)
  have hC : Cx Γ l cX6_wrongs RX6 7 (some .int) Rm_X6_wrongs wC a (some (.int r)) t' := hC
  show Γ σ 0 [(0, .ref (a 0)), (1, .int x1)] []
  unfold f_X6_wrongs at h
  refine r_aload_n hC dX6_wrongs_0 rfl 0 rfl ?_
  refine r_iload_n hC dX6_wrongs_1 rfl 1 rfl ?_
  refine r_callV (As := [.int x1]) (rest := []) hC (con_X6_bagOf l σ x1) K6_75 (ob6 a σ) rfl rfl rfl rfl ⟨Nat.le_of_ble_eq_true rfl, Nat.le_of_ble_eq_true rfl⟩ (Nat.le_of_ble_eq_true rfl) dX6_wrongs_2 ?_
  replace h := lt_of h
  obtain ⟨o13, eo13, h⟩ := h
  have ho13 : ∀ z, o13 = some z → z < 3 := fun z q => bagOf_lt (eo13.symm.trans q)
  refine r_astoreO_n (lv' := [(2, rb_ a o13), (0, .ref (a 0)), (1, .int x1)]) hC dX6_wrongs_5 rfl (by decide) eo13 rfl ?_
  refine r_aloadO_n hC dX6_wrongs_6 rfl 0 rfl ?_
  replace h := on_b_of h
  rcases h with ⟨rfl, h⟩ | ⟨bb140, rfl, h⟩
  · refine r_ifnonnullN hC dX6_wrongs_7 ?_
    refine r_iconst (v := -1) hC dX6_wrongs_10 (by decide) ?_
    refine r_goto hC 26 dX6_wrongs_11 (by decide) ?_
    refine r_sub hC [1, 0] rfl ?_
    exact t_X6_wrongs_n26 hC x1 σ none (-1 : Int32) (fun _ q => by cases q) h
  · have hbb140 : bb140 < 3 := ho13 bb140 rfl
    refine r_ifnonnull hC 14 dX6_wrongs_7 (by decide) ?_
    refine r_aload_n hC dX6_wrongs_14 rfl 1 rfl ?_
    refine G6_67 hC dX6_wrongs_15 ?_
    refine r_aload_n hC dX6_wrongs_18 rfl 1 rfl ?_
    refine G6_60 hC dX6_wrongs_19 ?_
    refine r_iconst (v := 0) hC dX6_wrongs_22 (by decide) ?_
    replace h := bind2_of h
    obtain ⟨v16, s15, hs15, h⟩ := h
    refine r_callV (As := [.ref (a 8), .int (0 : Int32)]) (rest := []) hC (con_X1_read l σ (0 : Int32) hs15) K6_125 (ob1 a σ) rfl rfl rfl rfl ⟨Nat.le_of_ble_eq_true rfl, Nat.le_of_ble_eq_true rfl⟩ (Nat.le_of_ble_eq_true rfl) dX6_wrongs_23 ?_
    refine r_sub hC [1, 0] rfl ?_
    exact t_X6_wrongs_n26 hC x1 s15 (some bb140) v16 (fun _ q => by cases q; exact hbb140) h
