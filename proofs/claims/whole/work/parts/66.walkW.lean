abbrev Rm_X6_word : Room := { frames := 3, cells := 0, slots := 0, locals := 72 }
def f_X6_word (σ : St) (x1 : Int32) (x2 : Int32) : Option (Int64 × St) :=
  lt_ (f_X6_bagOf x1) fun o1 =>
  on_b o1 (
    none) fun bb20 =>
  if (f_X6_isWord σ bb20 x2) = 0 then
    none
  else
  (f_X2_lay σ 0 bb20 (st_i σ 0)).bind fun s3 =>
  (f_X2_wordAt s3 0 x2).bind fun v4 =>
  some (v4, s3)
set_option maxRecDepth 100000 in
set_option maxHeartbeats 4000000 in
theorem con_X6_word (l : Launch) (σ : St) (x1 : Int32) (x2 : Int32) {r : Int64} {t' : St} (h : f_X6_word σ x1 x2 = some (r, t')) : Con l yX6_word cX6_word 4 (some .long) Rm_X6_word wC (fun a => [.ref (a 0), .int x1, .int x2]) σ (fun _ => some (.long r)) t' := by
  refine con_of (by decide) ⟨rfl, rfl⟩ (fun _ => Nat.le_of_ble_eq_true rfl) (fun Γ a hC => ?_)
  have hC : Cx Γ l cX6_word RX6 4 (some .long) Rm_X6_word wC a (some (.long r)) t' := hC
  show Γ σ 0 [(0, .ref (a 0)), (1, .int x1), (2, .int x2)] []
  unfold f_X6_word at h
  refine r_aload_n hC dX6_word_0 rfl 0 rfl ?_
  refine r_iload_n hC dX6_word_1 rfl 1 rfl ?_
  refine r_callV (As := [.int x1]) (rest := []) hC (con_X6_bagOf l σ x1) K6_75 (ob6 a σ) rfl rfl rfl rfl ⟨Nat.le_of_ble_eq_true rfl, Nat.le_of_ble_eq_true rfl⟩ (Nat.le_of_ble_eq_true rfl) dX6_word_2 ?_
  replace h := lt_of h
  obtain ⟨o1, eo1, h⟩ := h
  have ho1 : ∀ z, o1 = some z → z < 3 := fun z q => bagOf_lt (eo1.symm.trans q)
  refine r_astoreO_n (lv' := [(3, rb_ a o1), (0, .ref (a 0)), (1, .int x1), (2, .int x2)]) hC dX6_word_5 rfl (by decide) eo1 rfl ?_
  refine r_aloadO_n hC dX6_word_6 rfl 0 rfl ?_
  replace h := on_b_of h
  rcases h with ⟨rfl, h⟩ | ⟨bb20, rfl, h⟩
  · refine r_ifnullN hC 19 dX6_word_7 (by decide) ?_
    cases h
  · have hbb20 : bb20 < 3 := ho1 bb20 rfl
    refine r_ifnull hC dX6_word_7 ?_
    refine r_aload_n hC dX6_word_10 rfl 1 rfl ?_
    refine r_aload_n hC dX6_word_11 rfl 0 rfl ?_
    refine r_iload_n hC dX6_word_12 rfl 3 rfl ?_
    refine r_callV (As := [.ref (a (1 + bb20)), .int x2]) (rest := []) hC (con_X6_isWord l σ bb20 x2 hbb20 rfl) K6_170 (ob6 a σ) rfl rfl rfl rfl ⟨Nat.le_of_ble_eq_true rfl, Nat.le_of_ble_eq_true rfl⟩ (Nat.le_of_ble_eq_true rfl) dX6_word_13 ?_
    refine r_if_ne hC 29 dX6_word_16 (by decide) (fun q => ?_) (fun q => ?_)
    · replace h := if_n q h
      refine r_aload_n hC dX6_word_29 rfl 1 rfl ?_
      refine G6_36 hC dX6_word_30 ?_
      refine r_aload_n hC dX6_word_33 rfl 0 rfl ?_
      refine r_aload_n hC dX6_word_34 rfl 1 rfl ?_
      refine G6_7 hC dX6_word_35 ?_
      replace h := bind_of h
      obtain ⟨s3, hs3, h⟩ := h
      refine r_callV (As := [.ref (a (1 + bb20)), .int (st_i σ 0)]) (rest := []) hC (con_X2_lay l σ 0 bb20 (st_i σ 0) (by decide) hbb20 hs3) K6_98 (ob2 a σ 0 (by decide)) rfl rfl rfl rfl ⟨Nat.le_of_ble_eq_true rfl, Nat.le_of_ble_eq_true rfl⟩ (Nat.le_of_ble_eq_true rfl) dX6_word_38 ?_
      refine r_aload_n hC dX6_word_41 rfl 1 rfl ?_
      refine G6_36 hC dX6_word_42 ?_
      refine r_iload_n hC dX6_word_45 rfl 3 rfl ?_
      replace h := bind_of h
      obtain ⟨v4, hv4, h⟩ := h
      refine r_callV (As := [.int x2]) (rest := []) hC (con_X2_wordAt l s3 0 x2 (by decide) hv4) K6_181 (ob2 a s3 0 (by decide)) rfl rfl rfl rfl ⟨Nat.le_of_ble_eq_true rfl, Nat.le_of_ble_eq_true rfl⟩ (Nat.le_of_ble_eq_true rfl) dX6_word_46 ?_
      exact r_lretS hC dX6_word_49 h
    · replace h := if_p q h
      cases h
abbrev Rm_X6_row : Room := { frames := 1, cells := 0, slots := 0, locals := 21 }
def f_X6_row (σ : St) (x1 : Int32) : Option Int64 :=
  if x1 < 0 then
    none
  else
  if x1 < (st_i σ 16) then
    (f_X3_at σ x1).bind fun v1 =>
    some v1
  else
  none
set_option maxRecDepth 100000 in
set_option maxHeartbeats 4000000 in
theorem con_X6_row (l : Launch) (σ : St) (x1 : Int32) {r : Int64} (h : f_X6_row σ x1 = some r) : Con l yX6_row cX6_row 2 (some .long) Rm_X6_row wC (fun a => [.ref (a 0), .int x1]) σ (fun _ => some (.long r)) σ := by
  refine con_of (by decide) ⟨rfl, rfl⟩ (fun _ => Nat.le_of_ble_eq_true rfl) (fun Γ a hC => ?_)
  have hC : Cx Γ l cX6_row RX6 2 (some .long) Rm_X6_row wC a (some (.long r)) σ := hC
  show Γ σ 0 [(0, .ref (a 0)), (1, .int x1)] []
  unfold f_X6_row at h
  refine r_iload_n hC dX6_row_0 rfl 1 rfl ?_
  refine r_if_lt hC 15 dX6_row_1 (by decide) (fun q => ?_) (fun q => ?_)
  · replace h := if_p q h
    cases h
  · replace h := if_n q h
    refine r_iload_n hC dX6_row_4 rfl 1 rfl ?_
    refine r_aload_n hC dX6_row_5 rfl 0 rfl ?_
    refine G6_53 hC dX6_row_6 ?_
    refine G6_278 hC dX6_row_9 ?_
    refine r_icmp_lt hC 26 dX6_row_12 (by decide) (fun q => ?_) (fun q => ?_)
    · replace h := if_p q h
      refine r_aload_n hC dX6_row_26 rfl 0 rfl ?_
      refine G6_53 hC dX6_row_27 ?_
      refine r_iload_n hC dX6_row_30 rfl 1 rfl ?_
      obtain ⟨v1, hv1, h⟩ := bind_of h
      refine r_callV (As := [.int x1]) (rest := []) hC (con_X3_at l σ x1 hv1) K6_288 (ob3 a σ) rfl rfl rfl rfl ⟨Nat.le_of_ble_eq_true rfl, Nat.le_of_ble_eq_true rfl⟩ (Nat.le_of_ble_eq_true rfl) dX6_row_31 ?_
      exact r_lretP hC dX6_row_34 h
    · replace h := if_n q h
      cases h
