abbrev Rm_X0_at : Room := { frames := 0, cells := 0, slots := 0, locals := 0 }
def f_X0_at (σ : St) (b : Nat) (x1 : Int32) : Option Int32 :=
  if x1 < 0 then
    some (0 : Int32)
  else
  if (st_i σ (3 + 2 * b)) ≤ x1 then
    some (0 : Int32)
  else
  if (64 : Int32) ≤ x1 then
    some (0 : Int32)
  else
  if in_b x1 64 = true then
    some (st_a σ b x1.toNatClampNeg)
  else none
set_option maxRecDepth 100000 in
set_option maxHeartbeats 4000000 in
theorem con_X0_at (l : Launch) (σ : St) (b : Nat) (x1 : Int32) (hb : b < 3) {r : Int32} (h : f_X0_at σ b x1 = some r) : Con l yX0_at cX0_at 2 (some .int) Rm_X0_at wC (fun a => [.ref (a (1 + b)), .int x1]) σ (fun _ => some (.int r)) σ := by
  refine con_of (by decide) ⟨rfl, rfl⟩ (fun _ => Nat.le_of_ble_eq_true rfl) (fun Γ a hC => ?_)
  have hC : Cx Γ l cX0_at RX0 2 (some .int) Rm_X0_at wC a (some (.int r)) σ := hC
  show Γ σ 0 [(0, .ref (a (1 + b))), (1, .int x1)] []
  unfold f_X0_at at h
  refine r_iload_n hC dX0_at_0 rfl 1 rfl ?_
  refine r_if_lt hC 30 dX0_at_1 (by decide) (fun q => ?_) (fun q => ?_)
  · replace h := if_p q h
    refine r_iconst (v := 0) hC dX0_at_30 (by decide) ?_
    exact r_iretP hC dX0_at_31 h
  · replace h := if_n q h
    refine r_iload_n hC dX0_at_4 rfl 1 rfl ?_
    refine r_aload_n hC dX0_at_5 rfl 0 rfl ?_
    refine G0_15 hC b hb dX0_at_6 ?_
    refine r_icmp_ge hC 30 dX0_at_9 (by decide) (fun q => ?_) (fun q => ?_)
    · replace h := if_p q h
      refine r_iconst (v := 0) hC dX0_at_30 (by decide) ?_
      exact r_iretP hC dX0_at_31 h
    · replace h := if_n q h
      refine r_iload_n hC dX0_at_12 rfl 1 rfl ?_
      refine r_aload_n hC dX0_at_13 rfl 0 rfl ?_
      refine G0_9 hC b hb dX0_at_14 ?_
      refine N_prints hC b hb dX0_at_17 ?_
      refine r_icmp_ge hC 30 dX0_at_18 (by decide) (fun q => ?_) (fun q => ?_)
      · replace h := if_p q h
        refine r_iconst (v := 0) hC dX0_at_30 (by decide) ?_
        exact r_iretP hC dX0_at_31 h
      · replace h := if_n q h
        refine r_aload_n hC dX0_at_21 rfl 0 rfl ?_
        refine G0_9 hC b hb dX0_at_22 ?_
        refine r_iload_n hC dX0_at_25 rfl 1 rfl ?_
        obtain ⟨hi, h⟩ := inb_of h
        refine L_prints hC b hb hi dX0_at_26 ?_
        refine r_goto hC 31 dX0_at_27 (by decide) ?_
        exact r_iretP hC dX0_at_31 h
abbrev Rm_X0_becomeLike : Room := { frames := 1, cells := 0, slots := 0, locals := 21 }
def f_X0_becomeLike_n36 (b : Nat) (b1 : Nat) (σ : St) : Option St :=
  lt_ (put_i σ (3 + 2 * b) (st_i σ (3 + 2 * b1))) fun s4 =>
  lt_ (put_i s4 (4 + 2 * b) (st_i s4 (4 + 2 * b1))) fun s5 =>
  some s5
set_option maxRecDepth 100000 in
set_option maxHeartbeats 4000000 in
theorem t_X0_becomeLike_n36 {Γ : St → Nat → List (Nat × Value) → List Value → Prop} {l : Launch} {a : Nat → Nat} {t' : St} (hC : Cx Γ l cX0_becomeLike RX0 3 none Rm_X0_becomeLike wC a (none) t') (b : Nat) (b1 : Nat) (hb : b < 3) (hb1 : b1 < 3) (σ : St) (h : f_X0_becomeLike_n36 b b1 σ = some t') : Γ σ 36 [(0, .ref (a (1 + b))), (1, .ref (a (1 + b1)))] [] := by
  unfold f_X0_becomeLike_n36 at h
  refine r_aload_n hC dX0_becomeLike_36 rfl 0 rfl ?_
  refine r_aload_n hC dX0_becomeLike_37 rfl 1 rfl ?_
  refine G0_15 hC b1 hb1 dX0_becomeLike_38 ?_
  obtain ⟨s4, es4, h⟩ := lt_of h
  refine P0_15 hC b hb es4 dX0_becomeLike_41 ?_
  refine r_aload_n hC dX0_becomeLike_44 rfl 0 rfl ?_
  refine r_aload_n hC dX0_becomeLike_45 rfl 1 rfl ?_
  refine G0_19 hC b1 hb1 dX0_becomeLike_46 ?_
  obtain ⟨s5, es5, h⟩ := lt_of h
  refine P0_19 hC b hb es5 dX0_becomeLike_49 ?_
  exact r_vretS hC dX0_becomeLike_52 h
def f_X0_becomeLike_n2_b (b : Nat) (b1 : Nat) (self : St → Int32 → Option St) (σ : St) (y2 : Int32) : Option St :=
  if (st_i σ (3 + 2 * b1)) ≤ y2 then
    f_X0_becomeLike_n36 b b1 σ
  else
  if (64 : Int32) ≤ y2 then
    f_X0_becomeLike_n36 b b1 σ
  else
  (f_X0_at σ b1 y2).bind fun v1 =>
  if in_b y2 64 = true then
    lt_ (put_a σ b y2.toNatClampNeg v1) fun s2 =>
    lt_ (y2 + (1 : Int32)) fun v3 =>
    self s2 v3
  else none
def f_X0_becomeLike_n2 (b : Nat) (b1 : Nat) : Nat → St → Int32 → Option St
  | 0 => fun _ _ => none
  | n + 1 => fun σ y2 => f_X0_becomeLike_n2_b b b1  (f_X0_becomeLike_n2 b b1  n) σ y2
set_option maxRecDepth 100000 in
set_option maxHeartbeats 4000000 in
theorem t_X0_becomeLike_n2_b {Γ : St → Nat → List (Nat × Value) → List Value → Prop} {l : Launch} {a : Nat → Nat} {t' : St} (hC : Cx Γ l cX0_becomeLike RX0 3 none Rm_X0_becomeLike wC a (none) t') (b : Nat) (b1 : Nat) (hb : b < 3) (hb1 : b1 < 3) (self : St → Int32 → Option St) (hself : ∀ (σ : St) (y2 : Int32), self σ y2 = some t' → Γ σ 2 [(0, .ref (a (1 + b))), (1, .ref (a (1 + b1))), (2, .int y2)] []) (σ : St) (y2 : Int32) (h : f_X0_becomeLike_n2_b b b1 self σ y2 = some t') : Γ σ 2 [(0, .ref (a (1 + b))), (1, .ref (a (1 + b1))), (2, .int y2)] [] := by
  unfold f_X0_becomeLike_n2_b at h
  refine r_iload_n hC dX0_becomeLike_2 rfl 2 rfl ?_
  refine r_aload_n hC dX0_becomeLike_3 rfl 1 rfl ?_
  refine G0_15 hC b1 hb1 dX0_becomeLike_4 ?_
  refine r_icmp_ge hC 36 dX0_becomeLike_7 (by decide) (fun q => ?_) (fun q => ?_)
  · replace h := if_p q h
    refine r_sub hC [0, 1] rfl ?_
    exact t_X0_becomeLike_n36 hC b b1 hb hb1 σ h
  · replace h := if_n q h
    refine r_iload_n hC dX0_becomeLike_10 rfl 2 rfl ?_
    refine r_aload_n hC dX0_becomeLike_11 rfl 0 rfl ?_
    refine G0_9 hC b hb dX0_becomeLike_12 ?_
    refine N_prints hC b hb dX0_becomeLike_15 ?_
    refine r_icmp_ge hC 36 dX0_becomeLike_16 (by decide) (fun q => ?_) (fun q => ?_)
    · replace h := if_p q h
      refine r_sub hC [0, 1] rfl ?_
      exact t_X0_becomeLike_n36 hC b b1 hb hb1 σ h
    · replace h := if_n q h
      refine r_aload_n hC dX0_becomeLike_19 rfl 0 rfl ?_
      refine G0_9 hC b hb dX0_becomeLike_20 ?_
      refine r_iload_n hC dX0_becomeLike_23 rfl 2 rfl ?_
      refine r_aload_n hC dX0_becomeLike_24 rfl 1 rfl ?_
      refine r_iload_n hC dX0_becomeLike_25 rfl 2 rfl ?_
      obtain ⟨v1, hv1, h⟩ := bind_of h
      refine r_callV (As := [.int y2]) (rest := [.int y2, .ref (a (10 + b))]) hC (con_X0_at l σ b1 y2 hb1 hv1) K0_26 (ob0 a σ b1 hb1) rfl rfl rfl rfl ⟨Nat.le_of_ble_eq_true rfl, Nat.le_of_ble_eq_true rfl⟩ (Nat.le_of_ble_eq_true rfl) dX0_becomeLike_26 ?_
      obtain ⟨hi, h⟩ := inb_of h
      obtain ⟨s2, es2, h⟩ := lt_of h
      refine S_prints hC b hb es2 hi dX0_becomeLike_29 ?_
      obtain ⟨v3, ev3, h⟩ := lt_of h
      refine r_iinc (c1 := 1) (lv' := [(2, .int v3), (0, .ref (a (1 + b))), (1, .ref (a (1 + b1)))]) hC dX0_becomeLike_30 2 rfl (by decide) (by decide) ev3 rfl ?_
      refine r_goto hC 2 dX0_becomeLike_33 (by decide) ?_
      refine r_sub hC [1, 2, 0] rfl ?_
      exact hself s2 v3 h
set_option maxRecDepth 100000 in
set_option maxHeartbeats 4000000 in
theorem t_X0_becomeLike_n2 {Γ : St → Nat → List (Nat × Value) → List Value → Prop} {l : Launch} {a : Nat → Nat} {t' : St} (hC : Cx Γ l cX0_becomeLike RX0 3 none Rm_X0_becomeLike wC a (none) t') (b : Nat) (b1 : Nat) (hb : b < 3) (hb1 : b1 < 3) (n : Nat) : ∀ (σ : St) (y2 : Int32), f_X0_becomeLike_n2 b b1 n σ y2 = some t' → Γ σ 2 [(0, .ref (a (1 + b))), (1, .ref (a (1 + b1))), (2, .int y2)] [] := by
  induction n with
  | zero =>
    intro σ y2  h
    have h : (none : Option St) = some t' := h
    cases h
  | succ n ih =>
    intro σ y2  h
    exact t_X0_becomeLike_n2_b hC b b1 hb hb1   (f_X0_becomeLike_n2 b b1  n) ih σ y2  h
def f_X0_becomeLike (σ : St) (b : Nat) (b1 : Nat) : Option St :=
  f_X0_becomeLike_n2 b b1 fuel σ (0 : Int32)
set_option maxRecDepth 100000 in
set_option maxHeartbeats 4000000 in
theorem con_X0_becomeLike (l : Launch) (σ : St) (b : Nat) (b1 : Nat) (hb : b < 3) (hb1 : b1 < 3) {t' : St} (h : f_X0_becomeLike σ b b1 = some t') : Con l yX0_becomeLike cX0_becomeLike 3 none Rm_X0_becomeLike wC (fun a => [.ref (a (1 + b)), .ref (a (1 + b1))]) σ (fun _ => none) t' := by
  refine con_of (by decide) ⟨rfl, rfl⟩ (fun _ => Nat.le_of_ble_eq_true rfl) (fun Γ a hC => ?_)
  have hC : Cx Γ l cX0_becomeLike RX0 3 none Rm_X0_becomeLike wC a (none) t' := hC
  show Γ σ 0 [(0, .ref (a (1 + b))), (1, .ref (a (1 + b1)))] []
  unfold f_X0_becomeLike at h
  refine r_iconst (v := 0) hC dX0_becomeLike_0 (by decide) ?_
  refine r_istore_n (lv' := [(2, .int (0 : Int32)), (0, .ref (a (1 + b))), (1, .ref (a (1 + b1)))]) hC dX0_becomeLike_1 rfl (by decide) rfl rfl ?_
  refine r_sub hC [1, 2, 0] rfl ?_
  exact t_X0_becomeLike_n2 hC b b1 hb hb1 fuel σ (0 : Int32) h
abbrev Rm_X0_below : Room := { frames := 1, cells := 0, slots := 0, locals := 21 }
def f_X0_below_n5_b (σ : St) (b : Nat) (x1 : Int32) (self : Int32 → Int32 → Option Int32) (y2 : Int32) (y3 : Int32) : Option Int32 :=
  if y3 ≤ 0 then
    some y2
  else
  if (st_i σ (3 + 2 * b)) < (y2 + y3) then
    lt_ (y3 >>> ((1 : Int32) &&& 31)) fun v1 =>
    self y2 v1
  else
  (f_X0_at σ b ((y2 + y3) - (1 : Int32))).bind fun v2 =>
  if x1 ≤ v2 then
    lt_ (y3 >>> ((1 : Int32) &&& 31)) fun v3 =>
    self y2 v3
  else
  lt_ (y2 + y3) fun v4 =>
  lt_ (y3 >>> ((1 : Int32) &&& 31)) fun v5 =>
  self v4 v5
def f_X0_below_n5 (σ : St) (b : Nat) (x1 : Int32) : Nat → Int32 → Int32 → Option Int32
  | 0 => fun _ _ => none
  | n + 1 => fun y2 y3 => f_X0_below_n5_b σ b x1  (f_X0_below_n5 σ b x1  n) y2 y3
set_option maxRecDepth 100000 in
set_option maxHeartbeats 4000000 in
theorem t_X0_below_n5_b {Γ : St → Nat → List (Nat × Value) → List Value → Prop} {l : Launch} {a : Nat → Nat} {r : Int32} {σ : St} (hC : Cx Γ l cX0_below RX0 4 (some .int) Rm_X0_below wC a (some (.int r)) σ) (b : Nat) (x1 : Int32) (hb : b < 3) (self : Int32 → Int32 → Option Int32) (hself : ∀ (y2 : Int32) (y3 : Int32), self y2 y3 = some r → Γ σ 5 [(0, .ref (a (1 + b))), (1, .int x1), (2, .int y2), (3, .int y3)] []) (y2 : Int32) (y3 : Int32) (h : f_X0_below_n5_b σ b x1 self y2 y3 = some r) : Γ σ 5 [(0, .ref (a (1 + b))), (1, .int x1), (2, .int y2), (3, .int y3)] [] := by
  unfold f_X0_below_n5_b at h
  refine r_iload_n hC dX0_below_5 rfl 3 rfl ?_
  refine r_if_le hC 43 dX0_below_6 (by decide) (fun q => ?_) (fun q => ?_)
  · replace h := if_p q h
    refine r_iload_n hC dX0_below_43 rfl 2 rfl ?_
    exact r_iretP hC dX0_below_44 h
  · replace h := if_n q h
    refine r_iload_n hC dX0_below_9 rfl 2 rfl ?_
    refine r_iload_n hC dX0_below_10 rfl 3 rfl ?_
    refine r_iadd hC dX0_below_11 ?_
    refine r_aload_n hC dX0_below_12 rfl 0 rfl ?_
    refine G0_15 hC b hb dX0_below_13 ?_
    refine r_icmp_gt hC 36 dX0_below_16 (by decide) (fun q => ?_) (fun q => ?_)
    · replace h := if_p q h
      refine r_iload_n hC dX0_below_36 rfl 3 rfl ?_
      refine r_iconst (v := 1) hC dX0_below_37 (by decide) ?_
      refine r_ishr hC dX0_below_38 ?_
      obtain ⟨v1, ev1, h⟩ := lt_of h
      refine r_istore_n (lv' := [(3, .int v1), (0, .ref (a (1 + b))), (1, .int x1), (2, .int y2)]) hC dX0_below_39 rfl (by decide) ev1 rfl ?_
      refine r_goto hC 5 dX0_below_40 (by decide) ?_
      refine r_sub hC [1, 2, 3, 0] rfl ?_
      exact hself y2 v1 h
    · replace h := if_n q h
      refine r_aload_n hC dX0_below_19 rfl 0 rfl ?_
      refine r_iload_n hC dX0_below_20 rfl 2 rfl ?_
      refine r_iload_n hC dX0_below_21 rfl 3 rfl ?_
      refine r_iadd hC dX0_below_22 ?_
      refine r_iconst (v := 1) hC dX0_below_23 (by decide) ?_
      refine r_isub hC dX0_below_24 ?_
      obtain ⟨v2, hv2, h⟩ := bind_of h
      refine r_callV (As := [.int ((y2 + y3) - (1 : Int32))]) (rest := []) hC (con_X0_at l σ b ((y2 + y3) - (1 : Int32)) hb hv2) K0_26 (ob0 a σ b hb) rfl rfl rfl rfl ⟨Nat.le_of_ble_eq_true rfl, Nat.le_of_ble_eq_true rfl⟩ (Nat.le_of_ble_eq_true rfl) dX0_below_25 ?_
      refine r_iload_n hC dX0_below_28 rfl 1 rfl ?_
      refine r_icmp_ge hC 36 dX0_below_29 (by decide) (fun q => ?_) (fun q => ?_)
      · replace h := if_p q h
        refine r_iload_n hC dX0_below_36 rfl 3 rfl ?_
        refine r_iconst (v := 1) hC dX0_below_37 (by decide) ?_
        refine r_ishr hC dX0_below_38 ?_
        obtain ⟨v3, ev3, h⟩ := lt_of h
        refine r_istore_n (lv' := [(3, .int v3), (0, .ref (a (1 + b))), (1, .int x1), (2, .int y2)]) hC dX0_below_39 rfl (by decide) ev3 rfl ?_
        refine r_goto hC 5 dX0_below_40 (by decide) ?_
        refine r_sub hC [1, 2, 3, 0] rfl ?_
        exact hself y2 v3 h
      · replace h := if_n q h
        refine r_iload_n hC dX0_below_32 rfl 2 rfl ?_
        refine r_iload_n hC dX0_below_33 rfl 3 rfl ?_
        refine r_iadd hC dX0_below_34 ?_
        obtain ⟨v4, ev4, h⟩ := lt_of h
        refine r_istore_n (lv' := [(2, .int v4), (0, .ref (a (1 + b))), (1, .int x1), (3, .int y3)]) hC dX0_below_35 rfl (by decide) ev4 rfl ?_
        refine r_iload_n hC dX0_below_36 rfl 3 rfl ?_
        refine r_iconst (v := 1) hC dX0_below_37 (by decide) ?_
        refine r_ishr hC dX0_below_38 ?_
        obtain ⟨v5, ev5, h⟩ := lt_of h
        refine r_istore_n (lv' := [(3, .int v5), (2, .int v4), (0, .ref (a (1 + b))), (1, .int x1)]) hC dX0_below_39 rfl (by decide) ev5 rfl ?_
        refine r_goto hC 5 dX0_below_40 (by decide) ?_
        refine r_sub hC [2, 3, 1, 0] rfl ?_
        exact hself v4 v5 h
set_option maxRecDepth 100000 in
set_option maxHeartbeats 4000000 in
theorem t_X0_below_n5 {Γ : St → Nat → List (Nat × Value) → List Value → Prop} {l : Launch} {a : Nat → Nat} {r : Int32} {σ : St} (hC : Cx Γ l cX0_below RX0 4 (some .int) Rm_X0_below wC a (some (.int r)) σ) (b : Nat) (x1 : Int32) (hb : b < 3) (n : Nat) : ∀ (y2 : Int32) (y3 : Int32), f_X0_below_n5 σ b x1 n y2 y3 = some r → Γ σ 5 [(0, .ref (a (1 + b))), (1, .int x1), (2, .int y2), (3, .int y3)] [] := by
  induction n with
  | zero =>
    intro y2 y3  h
    have h : (none : Option Int32) = some r := h
    cases h
  | succ n ih =>
    intro y2 y3  h
    exact t_X0_below_n5_b hC b x1 hb   (f_X0_below_n5 σ b x1  n) ih y2 y3  h
def f_X0_below (σ : St) (b : Nat) (x1 : Int32) : Option Int32 :=
  f_X0_below_n5 σ b x1 fuel (0 : Int32) (32 : Int32)
set_option maxRecDepth 100000 in
set_option maxHeartbeats 4000000 in
theorem con_X0_below (l : Launch) (σ : St) (b : Nat) (x1 : Int32) (hb : b < 3) {r : Int32} (h : f_X0_below σ b x1 = some r) : Con l yX0_below cX0_below 4 (some .int) Rm_X0_below wC (fun a => [.ref (a (1 + b)), .int x1]) σ (fun _ => some (.int r)) σ := by
  refine con_of (by decide) ⟨rfl, rfl⟩ (fun _ => Nat.le_of_ble_eq_true rfl) (fun Γ a hC => ?_)
  have hC : Cx Γ l cX0_below RX0 4 (some .int) Rm_X0_below wC a (some (.int r)) σ := hC
  show Γ σ 0 [(0, .ref (a (1 + b))), (1, .int x1)] []
  unfold f_X0_below at h
  refine r_iconst (v := 0) hC dX0_below_0 (by decide) ?_
  refine r_istore_n (lv' := [(2, .int (0 : Int32)), (0, .ref (a (1 + b))), (1, .int x1)]) hC dX0_below_1 rfl (by decide) rfl rfl ?_
  refine r_bipush (v := 32) hC dX0_below_2 (by decide) ?_
  refine r_istore_n (lv' := [(3, .int (32 : Int32)), (2, .int (0 : Int32)), (0, .ref (a (1 + b))), (1, .int x1)]) hC dX0_below_4 rfl (by decide) rfl rfl ?_
  refine r_sub hC [2, 3, 1, 0] rfl ?_
  exact t_X0_below_n5 hC b x1 hb fuel (0 : Int32) (32 : Int32) h
abbrev Rm_X0_cutTo : Room := { frames := 0, cells := 0, slots := 0, locals := 0 }
def f_X0_cutTo (σ : St) (b : Nat) (x1 : Int32) : Option St :=
  if x1 < 0 then
    some σ
  else
  if (st_i σ (3 + 2 * b)) ≤ x1 then
    some σ
  else
  lt_ (put_i σ (3 + 2 * b) x1) fun s1 =>
  some s1
set_option maxRecDepth 100000 in
set_option maxHeartbeats 4000000 in
theorem con_X0_cutTo (l : Launch) (σ : St) (b : Nat) (x1 : Int32) (hb : b < 3) {t' : St} (h : f_X0_cutTo σ b x1 = some t') : Con l yX0_cutTo cX0_cutTo 2 none Rm_X0_cutTo wC (fun a => [.ref (a (1 + b)), .int x1]) σ (fun _ => none) t' := by
  refine con_of (by decide) ⟨rfl, rfl⟩ (fun _ => Nat.le_of_ble_eq_true rfl) (fun Γ a hC => ?_)
  have hC : Cx Γ l cX0_cutTo RX0 2 none Rm_X0_cutTo wC a (none) t' := hC
  show Γ σ 0 [(0, .ref (a (1 + b))), (1, .int x1)] []
  unfold f_X0_cutTo at h
  refine r_iload_n hC dX0_cutTo_0 rfl 1 rfl ?_
  refine r_if_lt hC 17 dX0_cutTo_1 (by decide) (fun q => ?_) (fun q => ?_)
  · replace h := if_p q h
    exact r_vretS hC dX0_cutTo_17 h
  · replace h := if_n q h
    refine r_iload_n hC dX0_cutTo_4 rfl 1 rfl ?_
    refine r_aload_n hC dX0_cutTo_5 rfl 0 rfl ?_
    refine G0_15 hC b hb dX0_cutTo_6 ?_
    refine r_icmp_ge hC 17 dX0_cutTo_9 (by decide) (fun q => ?_) (fun q => ?_)
    · replace h := if_p q h
      exact r_vretS hC dX0_cutTo_17 h
    · replace h := if_n q h
      refine r_aload_n hC dX0_cutTo_12 rfl 0 rfl ?_
      refine r_iload_n hC dX0_cutTo_13 rfl 1 rfl ?_
      obtain ⟨s1, es1, h⟩ := lt_of h
      refine P0_15 hC b hb es1 dX0_cutTo_14 ?_
      exact r_vretS hC dX0_cutTo_17 h
abbrev Rm_X0_holds : Room := { frames := 2, cells := 0, slots := 0, locals := 44 }
def f_X0_holds (σ : St) (b : Nat) (x1 : Int32) : Option Int32 :=
  (f_X0_below σ b x1).bind fun v1 =>
  if (st_i σ (3 + 2 * b)) ≤ v1 then
    some (0 : Int32)
  else
  (f_X0_at σ b v1).bind fun v2 =>
  if v2 = x1 then
    some (1 : Int32)
  else
  some (0 : Int32)
set_option maxRecDepth 100000 in
set_option maxHeartbeats 4000000 in
theorem con_X0_holds (l : Launch) (σ : St) (b : Nat) (x1 : Int32) (hb : b < 3) {r : Int32} (h : f_X0_holds σ b x1 = some r) : Con l yX0_holds cX0_holds 3 (some .boolean) Rm_X0_holds wC (fun a => [.ref (a (1 + b)), .int x1]) σ (fun _ => some (.int r)) σ := by
  refine con_of (by decide) ⟨rfl, rfl⟩ (fun _ => Nat.le_of_ble_eq_true rfl) (fun Γ a hC => ?_)
  have hC : Cx Γ l cX0_holds RX0 3 (some .boolean) Rm_X0_holds wC a (some (.int r)) σ := hC
  show Γ σ 0 [(0, .ref (a (1 + b))), (1, .int x1)] []
  unfold f_X0_holds at h
  refine r_aload_n hC dX0_holds_0 rfl 0 rfl ?_
  refine r_iload_n hC dX0_holds_1 rfl 1 rfl ?_
  obtain ⟨v1, hv1, h⟩ := bind_of h
  refine r_callV (As := [.int x1]) (rest := []) hC (con_X0_below l σ b x1 hb hv1) K0_30 (ob0 a σ b hb) rfl rfl rfl rfl ⟨Nat.le_of_ble_eq_true rfl, Nat.le_of_ble_eq_true rfl⟩ (Nat.le_of_ble_eq_true rfl) dX0_holds_2 ?_
  refine r_istore_n (lv' := [(2, .int v1), (0, .ref (a (1 + b))), (1, .int x1)]) hC dX0_holds_5 rfl (by decide) rfl rfl ?_
  refine r_iload_n hC dX0_holds_6 rfl 0 rfl ?_
  refine r_aload_n hC dX0_holds_7 rfl 1 rfl ?_
  refine G0_15 hC b hb dX0_holds_8 ?_
  refine r_icmp_ge hC 27 dX0_holds_11 (by decide) (fun q => ?_) (fun q => ?_)
  · replace h := if_p q h
    refine r_iconst (v := 0) hC dX0_holds_27 (by decide) ?_
    exact r_zretP hC rfl dX0_holds_28 h
  · replace h := if_n q h
    refine r_aload_n hC dX0_holds_14 rfl 1 rfl ?_
    refine r_iload_n hC dX0_holds_15 rfl 0 rfl ?_
    obtain ⟨v2, hv2, h⟩ := bind_of h
    refine r_callV (As := [.int v1]) (rest := []) hC (con_X0_at l σ b v1 hb hv2) K0_26 (ob0 a σ b hb) rfl rfl rfl rfl ⟨Nat.le_of_ble_eq_true rfl, Nat.le_of_ble_eq_true rfl⟩ (Nat.le_of_ble_eq_true rfl) dX0_holds_16 ?_
    refine r_iload_n hC dX0_holds_19 rfl 2 rfl ?_
    refine r_icmp_ne hC 27 dX0_holds_20 (by decide) (fun q => ?_) (fun q => ?_)
    · replace h := if_n q h
      refine r_iconst (v := 0) hC dX0_holds_27 (by decide) ?_
      exact r_zretP hC rfl dX0_holds_28 h
    · replace h := if_p q h
      refine r_iconst (v := 1) hC dX0_holds_23 (by decide) ?_
      refine r_goto hC 28 dX0_holds_24 (by decide) ?_
      exact r_zretP hC rfl dX0_holds_28 h
abbrev Rm_X0_dropOne : Room := { frames := 3, cells := 0, slots := 0, locals := 66 }
def f_X0_dropOne_n61 (b : Nat) (x1 : Int32) (σ : St) : Option (Int32 × St) :=
  lt_ (put_i σ (3 + 2 * b) ((st_i σ (3 + 2 * b)) - (1 : Int32))) fun s3 =>
  some ((1 : Int32), s3)
set_option maxRecDepth 100000 in
set_option maxHeartbeats 4000000 in
theorem t_X0_dropOne_n61 {Γ : St → Nat → List (Nat × Value) → List Value → Prop} {l : Launch} {a : Nat → Nat} {r : Int32} {t' : St} (hC : Cx Γ l cX0_dropOne RX0 3 (some .boolean) Rm_X0_dropOne wC a (some (.int r)) t') (b : Nat) (x1 : Int32) (hb : b < 3) (σ : St) (h : f_X0_dropOne_n61 b x1 σ = some (r, t')) : Γ σ 61 [(0, .ref (a (1 + b)))] [] := by
  unfold f_X0_dropOne_n61 at h
  refine r_aload_n hC dX0_dropOne_61 rfl 0 rfl ?_
  refine r_dup hC dX0_dropOne_62 rfl ?_
  refine G0_15 hC b hb dX0_dropOne_63 ?_
  refine r_iconst (v := 1) hC dX0_dropOne_66 (by decide) ?_
  refine r_isub hC dX0_dropOne_67 ?_
  obtain ⟨s3, es3, h⟩ := lt_of h
  refine P0_15 hC b hb es3 dX0_dropOne_68 ?_
  refine r_iconst (v := 1) hC dX0_dropOne_71 (by decide) ?_
  exact r_zretS hC rfl dX0_dropOne_72 h
def f_X0_dropOne_n20_b (b : Nat) (x1 : Int32) (self : St → Int32 → Option (Int32 × St)) (σ : St) (y2 : Int32) : Option (Int32 × St) :=
  if (st_i σ (3 + 2 * b)) ≤ (y2 + (1 : Int32)) then
    f_X0_dropOne_n61 b x1 σ
  else
  if (64 : Int32) ≤ (y2 + (1 : Int32)) then
    f_X0_dropOne_n61 b x1 σ
  else
  if in_b (y2 + (1 : Int32)) 64 = true then
    if in_b y2 64 = true then
      lt_ (put_a σ b y2.toNatClampNeg (st_a σ b (y2 + (1 : Int32)).toNatClampNeg)) fun s1 =>
      lt_ (y2 + (1 : Int32)) fun v2 =>
      self s1 v2
    else none
  else none
def f_X0_dropOne_n20 (b : Nat) (x1 : Int32) : Nat → St → Int32 → Option (Int32 × St)
  | 0 => fun _ _ => none
  | n + 1 => fun σ y2 => f_X0_dropOne_n20_b b x1  (f_X0_dropOne_n20 b x1  n) σ y2
set_option maxRecDepth 100000 in
set_option maxHeartbeats 4000000 in
theorem t_X0_dropOne_n20_b {Γ : St → Nat → List (Nat × Value) → List Value → Prop} {l : Launch} {a : Nat → Nat} {r : Int32} {t' : St} (hC : Cx Γ l cX0_dropOne RX0 3 (some .boolean) Rm_X0_dropOne wC a (some (.int r)) t') (b : Nat) (x1 : Int32) (hb : b < 3) (self : St → Int32 → Option (Int32 × St)) (hself : ∀ (σ : St) (y2 : Int32), self σ y2 = some (r, t') → Γ σ 20 [(0, .ref (a (1 + b))), (2, .int y2)] []) (σ : St) (y2 : Int32) (h : f_X0_dropOne_n20_b b x1 self σ y2 = some (r, t')) : Γ σ 20 [(0, .ref (a (1 + b))), (2, .int y2)] [] := by
  unfold f_X0_dropOne_n20_b at h
  refine r_iload_n hC dX0_dropOne_20 rfl 1 rfl ?_
  refine r_iconst (v := 1) hC dX0_dropOne_21 (by decide) ?_
  refine r_iadd hC dX0_dropOne_22 ?_
  refine r_aload_n hC dX0_dropOne_23 rfl 0 rfl ?_
  refine G0_15 hC b hb dX0_dropOne_24 ?_
  refine r_icmp_ge hC 61 dX0_dropOne_27 (by decide) (fun q => ?_) (fun q => ?_)
  · replace h := if_p q h
    refine r_sub hC [0] rfl ?_
    exact t_X0_dropOne_n61 hC b x1 hb σ h
  · replace h := if_n q h
    refine r_iload_n hC dX0_dropOne_30 rfl 1 rfl ?_
    refine r_iconst (v := 1) hC dX0_dropOne_31 (by decide) ?_
    refine r_iadd hC dX0_dropOne_32 ?_
    refine r_aload_n hC dX0_dropOne_33 rfl 0 rfl ?_
    refine G0_9 hC b hb dX0_dropOne_34 ?_
    refine N_prints hC b hb dX0_dropOne_37 ?_
    refine r_icmp_ge hC 61 dX0_dropOne_38 (by decide) (fun q => ?_) (fun q => ?_)
    · replace h := if_p q h
      refine r_sub hC [0] rfl ?_
      exact t_X0_dropOne_n61 hC b x1 hb σ h
    · replace h := if_n q h
      refine r_aload_n hC dX0_dropOne_41 rfl 0 rfl ?_
      refine G0_9 hC b hb dX0_dropOne_42 ?_
      refine r_iload_n hC dX0_dropOne_45 rfl 1 rfl ?_
      refine r_aload_n hC dX0_dropOne_46 rfl 0 rfl ?_
      refine G0_9 hC b hb dX0_dropOne_47 ?_
      refine r_iload_n hC dX0_dropOne_50 rfl 1 rfl ?_
      refine r_iconst (v := 1) hC dX0_dropOne_51 (by decide) ?_
      refine r_iadd hC dX0_dropOne_52 ?_
      obtain ⟨hi, h⟩ := inb_of h
      refine L_prints hC b hb hi dX0_dropOne_53 ?_
      obtain ⟨hi, h⟩ := inb_of h
      obtain ⟨s1, es1, h⟩ := lt_of h
      refine S_prints hC b hb es1 hi dX0_dropOne_54 ?_
      obtain ⟨v2, ev2, h⟩ := lt_of h
      refine r_iinc (c1 := 1) (lv' := [(2, .int v2), (0, .ref (a (1 + b)))]) hC dX0_dropOne_55 1 rfl (by decide) (by decide) ev2 rfl ?_
      refine r_goto hC 20 dX0_dropOne_58 (by decide) ?_
      refine r_sub hC [1, 0] rfl ?_
      exact hself s1 v2 h
set_option maxRecDepth 100000 in
set_option maxHeartbeats 4000000 in
theorem t_X0_dropOne_n20 {Γ : St → Nat → List (Nat × Value) → List Value → Prop} {l : Launch} {a : Nat → Nat} {r : Int32} {t' : St} (hC : Cx Γ l cX0_dropOne RX0 3 (some .boolean) Rm_X0_dropOne wC a (some (.int r)) t') (b : Nat) (x1 : Int32) (hb : b < 3) (n : Nat) : ∀ (σ : St) (y2 : Int32), f_X0_dropOne_n20 b x1 n σ y2 = some (r, t') → Γ σ 20 [(0, .ref (a (1 + b))), (2, .int y2)] [] := by
  induction n with
  | zero =>
    intro σ y2  h
    have h : (none : Option (Int32 × St)) = some (r, t') := h
    cases h
  | succ n ih =>
    intro σ y2  h
    exact t_X0_dropOne_n20_b hC b x1 hb   (f_X0_dropOne_n20 b x1  n) ih σ y2  h
def f_X0_dropOne (σ : St) (b : Nat) (x1 : Int32) : Option (Int32 × St) :=
  (f_X0_holds σ b x1).bind fun v4 =>
  if v4 = 0 then
    some ((0 : Int32), σ)
  else
  (f_X0_below σ b x1).bind fun v5 =>
  lt_ (if (0 : Int32) < v5 then v5 else (0 : Int32)) fun v6 =>
  f_X0_dropOne_n20 b x1 fuel σ v6
set_option maxRecDepth 100000 in
set_option maxHeartbeats 4000000 in
theorem con_X0_dropOne (l : Launch) (σ : St) (b : Nat) (x1 : Int32) (hb : b < 3) {r : Int32} {t' : St} (h : f_X0_dropOne σ b x1 = some (r, t')) : Con l yX0_dropOne cX0_dropOne 3 (some .boolean) Rm_X0_dropOne wC (fun a => [.ref (a (1 + b)), .int x1]) σ (fun _ => some (.int r)) t' := by
  refine con_of (by decide) ⟨rfl, rfl⟩ (fun _ => Nat.le_of_ble_eq_true rfl) (fun Γ a hC => ?_)
  have hC : Cx Γ l cX0_dropOne RX0 3 (some .boolean) Rm_X0_dropOne wC a (some (.int r)) t' := hC
  show Γ σ 0 [(0, .ref (a (1 + b))), (1, .int x1)] []
  unfold f_X0_dropOne at h
  refine r_aload_n hC dX0_dropOne_0 rfl 0 rfl ?_
  refine r_iload_n hC dX0_dropOne_1 rfl 1 rfl ?_
  obtain ⟨v4, hv4, h⟩ := bind_of h
  refine r_callV (As := [.int x1]) (rest := []) hC (con_X0_holds l σ b x1 hb hv4) K0_36 (ob0 a σ b hb) rfl rfl rfl rfl ⟨Nat.le_of_ble_eq_true rfl, Nat.le_of_ble_eq_true rfl⟩ (Nat.le_of_ble_eq_true rfl) dX0_dropOne_2 ?_
  refine r_if_ne hC 10 dX0_dropOne_5 (by decide) (fun q => ?_) (fun q => ?_)
  · replace h := if_n q h
    refine r_iconst (v := 0) hC dX0_dropOne_10 (by decide) ?_
    refine r_aload_n hC dX0_dropOne_11 rfl 0 rfl ?_
    refine r_iload_n hC dX0_dropOne_12 rfl 1 rfl ?_
    obtain ⟨v5, hv5, h⟩ := bind_of h
    refine r_callV (As := [.int x1]) (rest := [.int (0 : Int32)]) hC (con_X0_below l σ b x1 hb hv5) K0_30 (ob0 a σ b hb) rfl rfl rfl rfl ⟨Nat.le_of_ble_eq_true rfl, Nat.le_of_ble_eq_true rfl⟩ (Nat.le_of_ble_eq_true rfl) dX0_dropOne_13 ?_
    refine r_mmax hC dX0_dropOne_16 K0_40 ⟨Nat.le_of_ble_eq_true rfl, Nat.le_of_ble_eq_true rfl⟩ ?_
    obtain ⟨v6, ev6, h⟩ := lt_of h
    refine r_istore_n (lv' := [(2, .int v6), (0, .ref (a (1 + b))), (1, .int x1)]) hC dX0_dropOne_19 rfl (by decide) ev6 rfl ?_
    refine r_sub hC [1, 0] rfl ?_
    exact t_X0_dropOne_n20 hC b x1 hb fuel σ v6 h
  · replace h := if_p q h
    refine r_iconst (v := 0) hC dX0_dropOne_8 (by decide) ?_
    exact r_zretS hC rfl dX0_dropOne_9 h
abbrev Rm_X0_emptyTo : Room := { frames := 0, cells := 0, slots := 0, locals := 0 }
def f_X0_emptyTo (σ : St) (b : Nat) (x1 : Int32) : Option St :=
  lt_ (put_i σ (3 + 2 * b) (0 : Int32)) fun s1 =>
  lt_ (put_i s1 (4 + 2 * b) x1) fun s2 =>
  some s2
set_option maxRecDepth 100000 in
set_option maxHeartbeats 4000000 in
theorem con_X0_emptyTo (l : Launch) (σ : St) (b : Nat) (x1 : Int32) (hb : b < 3) {t' : St} (h : f_X0_emptyTo σ b x1 = some t') : Con l yX0_emptyTo cX0_emptyTo 2 none Rm_X0_emptyTo wC (fun a => [.ref (a (1 + b)), .int x1]) σ (fun _ => none) t' := by
  refine con_of (by decide) ⟨rfl, rfl⟩ (fun _ => Nat.le_of_ble_eq_true rfl) (fun Γ a hC => ?_)
  have hC : Cx Γ l cX0_emptyTo RX0 2 none Rm_X0_emptyTo wC a (none) t' := hC
  show Γ σ 0 [(0, .ref (a (1 + b))), (1, .int x1)] []
  unfold f_X0_emptyTo at h
  refine r_aload_n hC dX0_emptyTo_0 rfl 0 rfl ?_
  refine r_iconst (v := 0) hC dX0_emptyTo_1 (by decide) ?_
  obtain ⟨s1, es1, h⟩ := lt_of h
  refine P0_15 hC b hb es1 dX0_emptyTo_2 ?_
  refine r_aload_n hC dX0_emptyTo_5 rfl 0 rfl ?_
  refine r_iload_n hC dX0_emptyTo_6 rfl 1 rfl ?_
  obtain ⟨s2, es2, h⟩ := lt_of h
  refine P0_19 hC b hb es2 dX0_emptyTo_7 ?_
  exact r_vretS hC dX0_emptyTo_10 h
abbrev Rm_X0_insert : Room := { frames := 2, cells := 0, slots := 0, locals := 44 }
def f_X0_insert_n39_b (b : Nat) (x1 : Int32) (self : St → Int32 → Int32 → Option (Int32 × St)) (σ : St) (y2 : Int32) (y3 : Int32) : Option (Int32 × St) :=
  if y3 ≤ y2 then
    if in_b y2 64 = true then
      lt_ (put_a σ b y2.toNatClampNeg x1) fun s1 =>
      lt_ (put_i s1 (3 + 2 * b) ((st_i s1 (3 + 2 * b)) + (1 : Int32))) fun s2 =>
      some (y2, s2)
    else none
  else
  if in_b (y3 - (1 : Int32)) 64 = true then
    if in_b y3 64 = true then
      lt_ (put_a σ b y3.toNatClampNeg (st_a σ b (y3 - (1 : Int32)).toNatClampNeg)) fun s3 =>
      lt_ (y3 + (-1 : Int32)) fun v4 =>
      self s3 y2 v4
    else none
  else none
def f_X0_insert_n39 (b : Nat) (x1 : Int32) : Nat → St → Int32 → Int32 → Option (Int32 × St)
  | 0 => fun _ _ _ => none
  | n + 1 => fun σ y2 y3 => f_X0_insert_n39_b b x1  (f_X0_insert_n39 b x1  n) σ y2 y3
set_option maxRecDepth 100000 in
set_option maxHeartbeats 4000000 in
theorem t_X0_insert_n39_b {Γ : St → Nat → List (Nat × Value) → List Value → Prop} {l : Launch} {a : Nat → Nat} {r : Int32} {t' : St} (hC : Cx Γ l cX0_insert RX0 4 (some .int) Rm_X0_insert wC a (some (.int r)) t') (b : Nat) (x1 : Int32) (hb : b < 3) (self : St → Int32 → Int32 → Option (Int32 × St)) (hself : ∀ (σ : St) (y2 : Int32) (y3 : Int32), self σ y2 y3 = some (r, t') → Γ σ 39 [(0, .ref (a (1 + b))), (1, .int x1), (2, .int y2), (3, .int y3)] []) (σ : St) (y2 : Int32) (y3 : Int32) (h : f_X0_insert_n39_b b x1 self σ y2 y3 = some (r, t')) : Γ σ 39 [(0, .ref (a (1 + b))), (1, .int x1), (2, .int y2), (3, .int y3)] [] := by
  unfold f_X0_insert_n39_b at h
  refine r_iload_n hC dX0_insert_39 rfl 3 rfl ?_
  refine r_iload_n hC dX0_insert_40 rfl 2 rfl ?_
  refine r_icmp_le hC 64 dX0_insert_41 (by decide) (fun q => ?_) (fun q => ?_)
  · replace h := if_p q h
    refine r_aload_n hC dX0_insert_64 rfl 0 rfl ?_
    refine G0_9 hC b hb dX0_insert_65 ?_
    refine r_iload_n hC dX0_insert_68 rfl 2 rfl ?_
    refine r_iload_n hC dX0_insert_69 rfl 1 rfl ?_
    obtain ⟨hi, h⟩ := inb_of h
    obtain ⟨s1, es1, h⟩ := lt_of h
    refine S_prints hC b hb es1 hi dX0_insert_70 ?_
    refine r_aload_n hC dX0_insert_71 rfl 0 rfl ?_
    refine r_dup hC dX0_insert_72 rfl ?_
    refine G0_15 hC b hb dX0_insert_73 ?_
    refine r_iconst (v := 1) hC dX0_insert_76 (by decide) ?_
    refine r_iadd hC dX0_insert_77 ?_
    obtain ⟨s2, es2, h⟩ := lt_of h
    refine P0_15 hC b hb es2 dX0_insert_78 ?_
    refine r_iload_n hC dX0_insert_81 rfl 2 rfl ?_
    exact r_iretS hC dX0_insert_82 h
  · replace h := if_n q h
    refine r_aload_n hC dX0_insert_44 rfl 0 rfl ?_
    refine G0_9 hC b hb dX0_insert_45 ?_
    refine r_iload_n hC dX0_insert_48 rfl 3 rfl ?_
    refine r_aload_n hC dX0_insert_49 rfl 0 rfl ?_
    refine G0_9 hC b hb dX0_insert_50 ?_
    refine r_iload_n hC dX0_insert_53 rfl 3 rfl ?_
    refine r_iconst (v := 1) hC dX0_insert_54 (by decide) ?_
    refine r_isub hC dX0_insert_55 ?_
    obtain ⟨hi, h⟩ := inb_of h
    refine L_prints hC b hb hi dX0_insert_56 ?_
    obtain ⟨hi, h⟩ := inb_of h
    obtain ⟨s3, es3, h⟩ := lt_of h
    refine S_prints hC b hb es3 hi dX0_insert_57 ?_
    obtain ⟨v4, ev4, h⟩ := lt_of h
    refine r_iinc (c1 := (-1)) (lv' := [(3, .int v4), (0, .ref (a (1 + b))), (1, .int x1), (2, .int y2)]) hC dX0_insert_58 3 rfl (by decide) (by decide) ev4 rfl ?_
    refine r_goto hC 39 dX0_insert_61 (by decide) ?_
    refine r_sub hC [1, 2, 3, 0] rfl ?_
    exact hself s3 y2 v4 h
set_option maxRecDepth 100000 in
set_option maxHeartbeats 4000000 in
theorem t_X0_insert_n39 {Γ : St → Nat → List (Nat × Value) → List Value → Prop} {l : Launch} {a : Nat → Nat} {r : Int32} {t' : St} (hC : Cx Γ l cX0_insert RX0 4 (some .int) Rm_X0_insert wC a (some (.int r)) t') (b : Nat) (x1 : Int32) (hb : b < 3) (n : Nat) : ∀ (σ : St) (y2 : Int32) (y3 : Int32), f_X0_insert_n39 b x1 n σ y2 y3 = some (r, t') → Γ σ 39 [(0, .ref (a (1 + b))), (1, .int x1), (2, .int y2), (3, .int y3)] [] := by
  induction n with
  | zero =>
    intro σ y2 y3  h
    have h : (none : Option (Int32 × St)) = some (r, t') := h
    cases h
  | succ n ih =>
    intro σ y2 y3  h
    exact t_X0_insert_n39_b hC b x1 hb   (f_X0_insert_n39 b x1  n) ih σ y2 y3  h
def f_X0_insert (σ : St) (b : Nat) (x1 : Int32) : Option (Int32 × St) :=
  (f_X0_below σ b (x1 + (1 : Int32))).bind fun v5 =>
  if v5 < 0 then
    some ((-1 : Int32), σ)
  else
  if (st_i σ (3 + 2 * b)) < v5 then
    some ((-1 : Int32), σ)
  else
  if (st_i σ (3 + 2 * b)) < (64 : Int32) then
    lt_ (st_i σ (3 + 2 * b)) fun v6 =>
    f_X0_insert_n39 b x1 fuel σ v5 v6
  else
  some ((-1 : Int32), σ)
set_option maxRecDepth 100000 in
set_option maxHeartbeats 4000000 in
theorem con_X0_insert (l : Launch) (σ : St) (b : Nat) (x1 : Int32) (hb : b < 3) {r : Int32} {t' : St} (h : f_X0_insert σ b x1 = some (r, t')) : Con l yX0_insert cX0_insert 4 (some .int) Rm_X0_insert wC (fun a => [.ref (a (1 + b)), .int x1]) σ (fun _ => some (.int r)) t' := by
  refine con_of (by decide) ⟨rfl, rfl⟩ (fun _ => Nat.le_of_ble_eq_true rfl) (fun Γ a hC => ?_)
  have hC : Cx Γ l cX0_insert RX0 4 (some .int) Rm_X0_insert wC a (some (.int r)) t' := hC
  show Γ σ 0 [(0, .ref (a (1 + b))), (1, .int x1)] []
  unfold f_X0_insert at h
  refine r_aload_n hC dX0_insert_0 rfl 0 rfl ?_
  refine r_iload_n hC dX0_insert_1 rfl 1 rfl ?_
  refine r_iconst (v := 1) hC dX0_insert_2 (by decide) ?_
  refine r_iadd hC dX0_insert_3 ?_
  obtain ⟨v5, hv5, h⟩ := bind_of h
  refine r_callV (As := [.int (x1 + (1 : Int32))]) (rest := []) hC (con_X0_below l σ b (x1 + (1 : Int32)) hb hv5) K0_30 (ob0 a σ b hb) rfl rfl rfl rfl ⟨Nat.le_of_ble_eq_true rfl, Nat.le_of_ble_eq_true rfl⟩ (Nat.le_of_ble_eq_true rfl) dX0_insert_4 ?_
  refine r_istore_n (lv' := [(2, .int v5), (0, .ref (a (1 + b))), (1, .int x1)]) hC dX0_insert_7 rfl (by decide) rfl rfl ?_
  refine r_iload_n hC dX0_insert_8 rfl 0 rfl ?_
  refine r_if_lt hC 32 dX0_insert_9 (by decide) (fun q => ?_) (fun q => ?_)
  · replace h := if_p q h
    refine r_iconst (v := -1) hC dX0_insert_32 (by decide) ?_
    exact r_iretS hC dX0_insert_33 h
  · replace h := if_n q h
    refine r_iload_n hC dX0_insert_12 rfl 0 rfl ?_
    refine r_aload_n hC dX0_insert_13 rfl 1 rfl ?_
    refine G0_15 hC b hb dX0_insert_14 ?_
    refine r_icmp_gt hC 32 dX0_insert_17 (by decide) (fun q => ?_) (fun q => ?_)
    · replace h := if_p q h
      refine r_iconst (v := -1) hC dX0_insert_32 (by decide) ?_
      exact r_iretS hC dX0_insert_33 h
    · replace h := if_n q h
      refine r_aload_n hC dX0_insert_20 rfl 1 rfl ?_
      refine G0_15 hC b hb dX0_insert_21 ?_
      refine r_aload_n hC dX0_insert_24 rfl 1 rfl ?_
      refine G0_9 hC b hb dX0_insert_25 ?_
      refine N_prints hC b hb dX0_insert_28 ?_
      refine r_icmp_lt hC 34 dX0_insert_29 (by decide) (fun q => ?_) (fun q => ?_)
      · replace h := if_p q h
        refine r_aload_n hC dX0_insert_34 rfl 1 rfl ?_
        refine G0_15 hC b hb dX0_insert_35 ?_
        obtain ⟨v6, ev6, h⟩ := lt_of h
        refine r_istore_n (lv' := [(3, .int v6), (2, .int v5), (0, .ref (a (1 + b))), (1, .int x1)]) hC dX0_insert_38 rfl (by decide) ev6 rfl ?_
        refine r_sub hC [2, 3, 1, 0] rfl ?_
        exact t_X0_insert_n39 hC b x1 hb fuel σ v5 v6 h
      · replace h := if_n q h
        refine r_iconst (v := -1) hC dX0_insert_32 (by decide) ?_
        exact r_iretS hC dX0_insert_33 h
abbrev Rm_X0_slotCount : Room := { frames := 0, cells := 0, slots := 0, locals := 0 }
def f_X0_slotCount (σ : St) (b : Nat) : Int32 :=
  ((1 : Int32) <<< ((st_i σ (4 + 2 * b)) &&& 31))
set_option maxRecDepth 100000 in
set_option maxHeartbeats 4000000 in
theorem con_X0_slotCount (l : Launch) (σ : St) (b : Nat) (hb : b < 3) {r : Int32} (h : f_X0_slotCount σ b = r) : Con l yX0_slotCount cX0_slotCount 1 (some .int) Rm_X0_slotCount wC (fun a => [.ref (a (1 + b))]) σ (fun _ => some (.int r)) σ := by
  refine con_of (by decide) ⟨rfl, rfl⟩ (fun _ => Nat.le_of_ble_eq_true rfl) (fun Γ a hC => ?_)
  have hC : Cx Γ l cX0_slotCount RX0 1 (some .int) Rm_X0_slotCount wC a (some (.int r)) σ := hC
  show Γ σ 0 [(0, .ref (a (1 + b)))] []
  unfold f_X0_slotCount at h
  refine r_iconst (v := 1) hC dX0_slotCount_0 (by decide) ?_
  refine r_aload_n hC dX0_slotCount_1 rfl 0 rfl ?_
  refine G0_19 hC b hb dX0_slotCount_2 ?_
  refine r_ishl hC dX0_slotCount_5 ?_
  exact r_iretT hC dX0_slotCount_6 h
abbrev Rm_X0_isFull : Room := { frames := 1, cells := 0, slots := 0, locals := 20 }
def f_X0_isFull (σ : St) (b : Nat) : Int32 :=
  if (st_i σ (3 + 2 * b)) < ((f_X0_slotCount σ b) - (1 : Int32)) then
    (0 : Int32)
  else
  (1 : Int32)
set_option maxRecDepth 100000 in
set_option maxHeartbeats 4000000 in
theorem con_X0_isFull (l : Launch) (σ : St) (b : Nat) (hb : b < 3) {r : Int32} (h : f_X0_isFull σ b = r) : Con l yX0_isFull cX0_isFull 1 (some .boolean) Rm_X0_isFull wC (fun a => [.ref (a (1 + b))]) σ (fun _ => some (.int r)) σ := by
  refine con_of (by decide) ⟨rfl, rfl⟩ (fun _ => Nat.le_of_ble_eq_true rfl) (fun Γ a hC => ?_)
  have hC : Cx Γ l cX0_isFull RX0 1 (some .boolean) Rm_X0_isFull wC a (some (.int r)) σ := hC
  show Γ σ 0 [(0, .ref (a (1 + b)))] []
  unfold f_X0_isFull at h
  refine r_aload_n hC dX0_isFull_0 rfl 0 rfl ?_
  refine G0_15 hC b hb dX0_isFull_1 ?_
  refine r_aload_n hC dX0_isFull_4 rfl 0 rfl ?_
  refine r_callV (As := []) (rest := [.int (st_i σ (3 + 2 * b))]) hC (con_X0_slotCount l σ b hb rfl) K0_22 (ob0 a σ b hb) rfl rfl rfl rfl ⟨Nat.le_of_ble_eq_true rfl, Nat.le_of_ble_eq_true rfl⟩ (Nat.le_of_ble_eq_true rfl) dX0_isFull_5 ?_
  refine r_iconst (v := 1) hC dX0_isFull_8 (by decide) ?_
  refine r_isub hC dX0_isFull_9 ?_
  refine r_icmp_lt hC 17 dX0_isFull_10 (by decide) (fun q => ?_) (fun q => ?_)
  · replace h := if_p q h
    refine r_iconst (v := 0) hC dX0_isFull_17 (by decide) ?_
    exact r_zretT hC rfl dX0_isFull_18 h
  · replace h := if_n q h
    refine r_iconst (v := 1) hC dX0_isFull_13 (by decide) ?_
    refine r_goto hC 18 dX0_isFull_14 (by decide) ?_
    exact r_zretT hC rfl dX0_isFull_18 h
abbrev Rm_X0_rankOf : Room := { frames := 2, cells := 0, slots := 0, locals := 44 }
def f_X0_rankOf (σ : St) (b : Nat) (x1 : Int32) : Option Int32 :=
  (f_X0_at σ b x1).bind fun v1 =>
  (f_X0_below σ b v1).bind fun v2 =>
  some (x1 - v2)
set_option maxRecDepth 100000 in
set_option maxHeartbeats 4000000 in
theorem con_X0_rankOf (l : Launch) (σ : St) (b : Nat) (x1 : Int32) (hb : b < 3) {r : Int32} (h : f_X0_rankOf σ b x1 = some r) : Con l yX0_rankOf cX0_rankOf 2 (some .int) Rm_X0_rankOf wC (fun a => [.ref (a (1 + b)), .int x1]) σ (fun _ => some (.int r)) σ := by
  refine con_of (by decide) ⟨rfl, rfl⟩ (fun _ => Nat.le_of_ble_eq_true rfl) (fun Γ a hC => ?_)
  have hC : Cx Γ l cX0_rankOf RX0 2 (some .int) Rm_X0_rankOf wC a (some (.int r)) σ := hC
  show Γ σ 0 [(0, .ref (a (1 + b))), (1, .int x1)] []
  unfold f_X0_rankOf at h
  refine r_iload_n hC dX0_rankOf_0 rfl 1 rfl ?_
  refine r_aload_n hC dX0_rankOf_1 rfl 0 rfl ?_
  refine r_aload_n hC dX0_rankOf_2 rfl 0 rfl ?_
  refine r_iload_n hC dX0_rankOf_3 rfl 1 rfl ?_
  obtain ⟨v1, hv1, h⟩ := bind_of h
  refine r_callV (As := [.int x1]) (rest := [.ref (a (1 + b)), .int x1]) hC (con_X0_at l σ b x1 hb hv1) K0_26 (ob0 a σ b hb) rfl rfl rfl rfl ⟨Nat.le_of_ble_eq_true rfl, Nat.le_of_ble_eq_true rfl⟩ (Nat.le_of_ble_eq_true rfl) dX0_rankOf_4 ?_
  obtain ⟨v2, hv2, h⟩ := bind_of h
  refine r_callV (As := [.int v1]) (rest := [.int x1]) hC (con_X0_below l σ b v1 hb hv2) K0_30 (ob0 a σ b hb) rfl rfl rfl rfl ⟨Nat.le_of_ble_eq_true rfl, Nat.le_of_ble_eq_true rfl⟩ (Nat.le_of_ble_eq_true rfl) dX0_rankOf_7 ?_
  refine r_isub hC dX0_rankOf_10 ?_
  exact r_iretP hC dX0_rankOf_11 h
abbrev Rm_X0_timesOf : Room := { frames := 2, cells := 0, slots := 0, locals := 44 }
def f_X0_timesOf (σ : St) (b : Nat) (x1 : Int32) : Option Int32 :=
  (f_X0_below σ b (x1 + (1 : Int32))).bind fun v1 =>
  (f_X0_below σ b x1).bind fun v2 =>
  some (v1 - v2)
set_option maxRecDepth 100000 in
set_option maxHeartbeats 4000000 in
theorem con_X0_timesOf (l : Launch) (σ : St) (b : Nat) (x1 : Int32) (hb : b < 3) {r : Int32} (h : f_X0_timesOf σ b x1 = some r) : Con l yX0_timesOf cX0_timesOf 2 (some .int) Rm_X0_timesOf wC (fun a => [.ref (a (1 + b)), .int x1]) σ (fun _ => some (.int r)) σ := by
  refine con_of (by decide) ⟨rfl, rfl⟩ (fun _ => Nat.le_of_ble_eq_true rfl) (fun Γ a hC => ?_)
  have hC : Cx Γ l cX0_timesOf RX0 2 (some .int) Rm_X0_timesOf wC a (some (.int r)) σ := hC
  show Γ σ 0 [(0, .ref (a (1 + b))), (1, .int x1)] []
  unfold f_X0_timesOf at h
  refine r_aload_n hC dX0_timesOf_0 rfl 0 rfl ?_
  refine r_iload_n hC dX0_timesOf_1 rfl 1 rfl ?_
  refine r_iconst (v := 1) hC dX0_timesOf_2 (by decide) ?_
  refine r_iadd hC dX0_timesOf_3 ?_
  obtain ⟨v1, hv1, h⟩ := bind_of h
  refine r_callV (As := [.int (x1 + (1 : Int32))]) (rest := []) hC (con_X0_below l σ b (x1 + (1 : Int32)) hb hv1) K0_30 (ob0 a σ b hb) rfl rfl rfl rfl ⟨Nat.le_of_ble_eq_true rfl, Nat.le_of_ble_eq_true rfl⟩ (Nat.le_of_ble_eq_true rfl) dX0_timesOf_4 ?_
  refine r_aload_n hC dX0_timesOf_7 rfl 0 rfl ?_
  refine r_iload_n hC dX0_timesOf_8 rfl 1 rfl ?_
  obtain ⟨v2, hv2, h⟩ := bind_of h
  refine r_callV (As := [.int x1]) (rest := [.int v1]) hC (con_X0_below l σ b x1 hb hv2) K0_30 (ob0 a σ b hb) rfl rfl rfl rfl ⟨Nat.le_of_ble_eq_true rfl, Nat.le_of_ble_eq_true rfl⟩ (Nat.le_of_ble_eq_true rfl) dX0_timesOf_9 ?_
  refine r_isub hC dX0_timesOf_12 ?_
  exact r_iretP hC dX0_timesOf_13 h
abbrev Rm_X0_unlike : Room := { frames := 3, cells := 0, slots := 0, locals := 65 }
def f_X0_unlike_n4_b (σ : St) (b : Nat) (self : Int32 → Int32 → Option Int32) (y1 : Int32) (y2 : Int32) : Option Int32 :=
  if (st_i σ (3 + 2 * b)) ≤ y2 then
    some y1
  else
  (f_X0_rankOf σ b y2).bind fun v1 =>
  if v1 = 0 then
    lt_ (y1 + (1 : Int32)) fun v3 =>
    lt_ (y2 + (1 : Int32)) fun v4 =>
    self v3 v4
  else
  lt_ (y2 + (1 : Int32)) fun v2 =>
  self y1 v2
def f_X0_unlike_n4 (σ : St) (b : Nat) : Nat → Int32 → Int32 → Option Int32
  | 0 => fun _ _ => none
  | n + 1 => fun y1 y2 => f_X0_unlike_n4_b σ b  (f_X0_unlike_n4 σ b  n) y1 y2
set_option maxRecDepth 100000 in
set_option maxHeartbeats 4000000 in
theorem t_X0_unlike_n4_b {Γ : St → Nat → List (Nat × Value) → List Value → Prop} {l : Launch} {a : Nat → Nat} {r : Int32} {σ : St} (hC : Cx Γ l cX0_unlike RX0 3 (some .int) Rm_X0_unlike wC a (some (.int r)) σ) (b : Nat) (hb : b < 3) (self : Int32 → Int32 → Option Int32) (hself : ∀ (y1 : Int32) (y2 : Int32), self y1 y2 = some r → Γ σ 4 [(0, .ref (a (1 + b))), (1, .int y1), (2, .int y2)] []) (y1 : Int32) (y2 : Int32) (h : f_X0_unlike_n4_b σ b self y1 y2 = some r) : Γ σ 4 [(0, .ref (a (1 + b))), (1, .int y1), (2, .int y2)] [] := by
  unfold f_X0_unlike_n4_b at h
  refine r_iload_n hC dX0_unlike_4 rfl 2 rfl ?_
  refine r_aload_n hC dX0_unlike_5 rfl 0 rfl ?_
  refine G0_15 hC b hb dX0_unlike_6 ?_
  refine r_icmp_ge hC 29 dX0_unlike_9 (by decide) (fun q => ?_) (fun q => ?_)
  · replace h := if_p q h
    refine r_iload_n hC dX0_unlike_29 rfl 1 rfl ?_
    exact r_iretP hC dX0_unlike_30 h
  · replace h := if_n q h
    refine r_aload_n hC dX0_unlike_12 rfl 0 rfl ?_
    refine r_iload_n hC dX0_unlike_13 rfl 2 rfl ?_
    obtain ⟨v1, hv1, h⟩ := bind_of h
    refine r_callV (As := [.int y2]) (rest := []) hC (con_X0_rankOf l σ b y2 hb hv1) K0_33 (ob0 a σ b hb) rfl rfl rfl rfl ⟨Nat.le_of_ble_eq_true rfl, Nat.le_of_ble_eq_true rfl⟩ (Nat.le_of_ble_eq_true rfl) dX0_unlike_14 ?_
    refine r_if_ne hC 23 dX0_unlike_17 (by decide) (fun q => ?_) (fun q => ?_)
    · replace h := if_n q h
      obtain ⟨v2, ev2, h⟩ := lt_of h
      refine r_iinc (c1 := 1) (lv' := [(2, .int v2), (0, .ref (a (1 + b))), (1, .int y1)]) hC dX0_unlike_23 2 rfl (by decide) (by decide) ev2 rfl ?_
      refine r_goto hC 4 dX0_unlike_26 (by decide) ?_
      refine r_sub hC [1, 2, 0] rfl ?_
      exact hself y1 v2 h
    · replace h := if_p q h
      obtain ⟨v3, ev3, h⟩ := lt_of h
      refine r_iinc (c1 := 1) (lv' := [(1, .int v3), (0, .ref (a (1 + b))), (2, .int y2)]) hC dX0_unlike_20 1 rfl (by decide) (by decide) ev3 rfl ?_
      obtain ⟨v4, ev4, h⟩ := lt_of h
      refine r_iinc (c1 := 1) (lv' := [(2, .int v4), (1, .int v3), (0, .ref (a (1 + b)))]) hC dX0_unlike_23 2 rfl (by decide) (by decide) ev4 rfl ?_
      refine r_goto hC 4 dX0_unlike_26 (by decide) ?_
      refine r_sub hC [2, 1, 0] rfl ?_
      exact hself v3 v4 h
set_option maxRecDepth 100000 in
set_option maxHeartbeats 4000000 in
theorem t_X0_unlike_n4 {Γ : St → Nat → List (Nat × Value) → List Value → Prop} {l : Launch} {a : Nat → Nat} {r : Int32} {σ : St} (hC : Cx Γ l cX0_unlike RX0 3 (some .int) Rm_X0_unlike wC a (some (.int r)) σ) (b : Nat) (hb : b < 3) (n : Nat) : ∀ (y1 : Int32) (y2 : Int32), f_X0_unlike_n4 σ b n y1 y2 = some r → Γ σ 4 [(0, .ref (a (1 + b))), (1, .int y1), (2, .int y2)] [] := by
  induction n with
  | zero =>
    intro y1 y2  h
    have h : (none : Option Int32) = some r := h
    cases h
  | succ n ih =>
    intro y1 y2  h
    exact t_X0_unlike_n4_b hC b hb   (f_X0_unlike_n4 σ b  n) ih y1 y2  h
def f_X0_unlike (σ : St) (b : Nat) : Option Int32 :=
  f_X0_unlike_n4 σ b fuel (0 : Int32) (0 : Int32)
set_option maxRecDepth 100000 in
set_option maxHeartbeats 4000000 in
theorem con_X0_unlike (l : Launch) (σ : St) (b : Nat) (hb : b < 3) {r : Int32} (h : f_X0_unlike σ b = some r) : Con l yX0_unlike cX0_unlike 3 (some .int) Rm_X0_unlike wC (fun a => [.ref (a (1 + b))]) σ (fun _ => some (.int r)) σ := by
  refine con_of (by decide) ⟨rfl, rfl⟩ (fun _ => Nat.le_of_ble_eq_true rfl) (fun Γ a hC => ?_)
  have hC : Cx Γ l cX0_unlike RX0 3 (some .int) Rm_X0_unlike wC a (some (.int r)) σ := hC
  show Γ σ 0 [(0, .ref (a (1 + b)))] []
  unfold f_X0_unlike at h
  refine r_iconst (v := 0) hC dX0_unlike_0 (by decide) ?_
  refine r_istore_n (lv' := [(1, .int (0 : Int32)), (0, .ref (a (1 + b)))]) hC dX0_unlike_1 rfl (by decide) rfl rfl ?_
  refine r_iconst (v := 0) hC dX0_unlike_2 (by decide) ?_
  refine r_istore_n (lv' := [(2, .int (0 : Int32)), (1, .int (0 : Int32)), (0, .ref (a (1 + b)))]) hC dX0_unlike_3 rfl (by decide) rfl rfl ?_
  refine r_sub hC [2, 1, 0] rfl ?_
  exact t_X0_unlike_n4 hC b hb fuel (0 : Int32) (0 : Int32) h
abbrev Rm_X1_add : Room := { frames := 0, cells := 0, slots := 0, locals := 0 }
def f_X1_add (σ : St) (x1 : Int32) (x2 : Int32) : Option St :=
  if (st_i σ 18) < 0 then
    some σ
  else
  if (80 : Int32) ≤ (st_i σ 18) then
    some σ
  else
  if (80 : Int32) ≤ (st_i σ 18) then
    some σ
  else
  if in_b (st_i σ 18) 80 = true then
    lt_ (put_a σ 13 (st_i σ 18).toNatClampNeg x1) fun s1 =>
    if in_b (st_i s1 18) 80 = true then
      lt_ (put_a s1 14 (st_i s1 18).toNatClampNeg (vp_nar .boolean x2)) fun s2 =>
      lt_ (put_i s2 18 ((st_i s2 18) + (1 : Int32))) fun s3 =>
      some s3
    else none
  else none
set_option maxRecDepth 100000 in
set_option maxHeartbeats 4000000 in
theorem con_X1_add (l : Launch) (σ : St) (x1 : Int32) (x2 : Int32) {t' : St} (h : f_X1_add σ x1 x2 = some t') : Con l yX1_add cX1_add 3 none Rm_X1_add wC (fun a => [.ref (a 9), .int x1, .int x2]) σ (fun _ => none) t' := by
  refine con_of (by decide) ⟨rfl, rfl⟩ (fun _ => Nat.le_of_ble_eq_true rfl) (fun Γ a hC => ?_)
  have hC : Cx Γ l cX1_add RX1 3 none Rm_X1_add wC a (none) t' := hC
  show Γ σ 0 [(0, .ref (a 9)), (1, .int x1), (2, .int x2)] []
  unfold f_X1_add at h
  refine r_aload_n hC dX1_add_0 rfl 0 rfl ?_
  refine G1_19 hC dX1_add_1 ?_
  refine r_if_lt hC 61 dX1_add_4 (by decide) (fun q => ?_) (fun q => ?_)
  · replace h := if_p q h
    exact r_vretS hC dX1_add_61 h
  · replace h := if_n q h
    refine r_aload_n hC dX1_add_7 rfl 0 rfl ?_
    refine G1_19 hC dX1_add_8 ?_
    refine r_aload_n hC dX1_add_11 rfl 0 rfl ?_
    refine G1_9 hC dX1_add_12 ?_
    refine N_kkeys hC dX1_add_15 ?_
    refine r_icmp_ge hC 61 dX1_add_16 (by decide) (fun q => ?_) (fun q => ?_)
    · replace h := if_p q h
      exact r_vretS hC dX1_add_61 h
    · replace h := if_n q h
      refine r_aload_n hC dX1_add_19 rfl 0 rfl ?_
      refine G1_19 hC dX1_add_20 ?_
      refine r_aload_n hC dX1_add_23 rfl 0 rfl ?_
      refine G1_15 hC dX1_add_24 ?_
      refine N_outs hC dX1_add_27 ?_
      refine r_icmp_ge hC 61 dX1_add_28 (by decide) (fun q => ?_) (fun q => ?_)
      · replace h := if_p q h
        exact r_vretS hC dX1_add_61 h
      · replace h := if_n q h
        refine r_aload_n hC dX1_add_31 rfl 0 rfl ?_
        refine G1_9 hC dX1_add_32 ?_
        refine r_aload_n hC dX1_add_35 rfl 0 rfl ?_
        refine G1_19 hC dX1_add_36 ?_
        refine r_iload_n hC dX1_add_39 rfl 1 rfl ?_
        obtain ⟨hi, h⟩ := inb_of h
        obtain ⟨s1, es1, h⟩ := lt_of h
        refine S_kkeys hC es1 hi dX1_add_40 ?_
        refine r_aload_n hC dX1_add_41 rfl 0 rfl ?_
        refine G1_15 hC dX1_add_42 ?_
        refine r_aload_n hC dX1_add_45 rfl 0 rfl ?_
        refine G1_19 hC dX1_add_46 ?_
        refine r_iload_n hC dX1_add_49 rfl 2 rfl ?_
        obtain ⟨hi, h⟩ := inb_of h
        obtain ⟨s2, es2, h⟩ := lt_of h
        refine S_outs hC es2 hi dX1_add_50 ?_
        refine r_aload_n hC dX1_add_51 rfl 0 rfl ?_
        refine r_dup hC dX1_add_52 rfl ?_
        refine G1_19 hC dX1_add_53 ?_
        refine r_iconst (v := 1) hC dX1_add_56 (by decide) ?_
        refine r_iadd hC dX1_add_57 ?_
        obtain ⟨s3, es3, h⟩ := lt_of h
        refine P1_19 hC es3 dX1_add_58 ?_
        exact r_vretS hC dX1_add_61 h
abbrev Rm_X1_goesOut : Room := { frames := 0, cells := 0, slots := 0, locals := 0 }
def f_X1_goesOut (σ : St) (x1 : Int32) : Option Int32 :=
  if x1 < 0 then
    some (0 : Int32)
  else
  if (80 : Int32) ≤ x1 then
    some (0 : Int32)
  else
  if in_b x1 80 = true then
    if (st_a σ 14 x1.toNatClampNeg) = 0 then
      some (0 : Int32)
    else
    some (1 : Int32)
  else none
set_option maxRecDepth 100000 in
set_option maxHeartbeats 4000000 in
theorem con_X1_goesOut (l : Launch) (σ : St) (x1 : Int32) {r : Int32} (h : f_X1_goesOut σ x1 = some r) : Con l yX1_goesOut cX1_goesOut 2 (some .boolean) Rm_X1_goesOut wC (fun a => [.ref (a 9), .int x1]) σ (fun _ => some (.int r)) σ := by
  refine con_of (by decide) ⟨rfl, rfl⟩ (fun _ => Nat.le_of_ble_eq_true rfl) (fun Γ a hC => ?_)
  have hC : Cx Γ l cX1_goesOut RX1 2 (some .boolean) Rm_X1_goesOut wC a (some (.int r)) σ := hC
  show Γ σ 0 [(0, .ref (a 9)), (1, .int x1)] []
  unfold f_X1_goesOut at h
  refine r_iload_n hC dX1_goesOut_0 rfl 1 rfl ?_
  refine r_if_lt hC 26 dX1_goesOut_1 (by decide) (fun q => ?_) (fun q => ?_)
  · replace h := if_p q h
    refine r_iconst (v := 0) hC dX1_goesOut_26 (by decide) ?_
    exact r_zretP hC rfl dX1_goesOut_27 h
  · replace h := if_n q h
    refine r_iload_n hC dX1_goesOut_4 rfl 1 rfl ?_
    refine r_aload_n hC dX1_goesOut_5 rfl 0 rfl ?_
    refine G1_15 hC dX1_goesOut_6 ?_
    refine N_outs hC dX1_goesOut_9 ?_
    refine r_icmp_ge hC 26 dX1_goesOut_10 (by decide) (fun q => ?_) (fun q => ?_)
    · replace h := if_p q h
      refine r_iconst (v := 0) hC dX1_goesOut_26 (by decide) ?_
      exact r_zretP hC rfl dX1_goesOut_27 h
    · replace h := if_n q h
      refine r_aload_n hC dX1_goesOut_13 rfl 0 rfl ?_
      refine G1_15 hC dX1_goesOut_14 ?_
      refine r_iload_n hC dX1_goesOut_17 rfl 1 rfl ?_
      obtain ⟨hi, h⟩ := inb_of h
      refine L_outs hC hi dX1_goesOut_18 ?_
      refine r_if_eq hC 26 dX1_goesOut_19 (by decide) (fun q => ?_) (fun q => ?_)
      · replace h := if_p q h
        refine r_iconst (v := 0) hC dX1_goesOut_26 (by decide) ?_
        exact r_zretP hC rfl dX1_goesOut_27 h
      · replace h := if_n q h
        refine r_iconst (v := 1) hC dX1_goesOut_22 (by decide) ?_
        refine r_goto hC 27 dX1_goesOut_23 (by decide) ?_
        exact r_zretP hC rfl dX1_goesOut_27 h
abbrev Rm_X1_keyAt : Room := { frames := 0, cells := 0, slots := 0, locals := 0 }
def f_X1_keyAt (σ : St) (x1 : Int32) : Option Int32 :=
  if x1 < 0 then
    some (0 : Int32)
  else
  if (80 : Int32) ≤ x1 then
    some (0 : Int32)
  else
  if in_b x1 80 = true then
    some (st_a σ 13 x1.toNatClampNeg)
  else none
set_option maxRecDepth 100000 in
set_option maxHeartbeats 4000000 in
theorem con_X1_keyAt (l : Launch) (σ : St) (x1 : Int32) {r : Int32} (h : f_X1_keyAt σ x1 = some r) : Con l yX1_keyAt cX1_keyAt 2 (some .int) Rm_X1_keyAt wC (fun a => [.ref (a 9), .int x1]) σ (fun _ => some (.int r)) σ := by
  refine con_of (by decide) ⟨rfl, rfl⟩ (fun _ => Nat.le_of_ble_eq_true rfl) (fun Γ a hC => ?_)
  have hC : Cx Γ l cX1_keyAt RX1 2 (some .int) Rm_X1_keyAt wC a (some (.int r)) σ := hC
  show Γ σ 0 [(0, .ref (a 9)), (1, .int x1)] []
  unfold f_X1_keyAt at h
  refine r_iload_n hC dX1_keyAt_0 rfl 1 rfl ?_
  refine r_if_lt hC 22 dX1_keyAt_1 (by decide) (fun q => ?_) (fun q => ?_)
  · replace h := if_p q h
    refine r_iconst (v := 0) hC dX1_keyAt_22 (by decide) ?_
    exact r_iretP hC dX1_keyAt_23 h
  · replace h := if_n q h
    refine r_iload_n hC dX1_keyAt_4 rfl 1 rfl ?_
    refine r_aload_n hC dX1_keyAt_5 rfl 0 rfl ?_
    refine G1_9 hC dX1_keyAt_6 ?_
    refine N_kkeys hC dX1_keyAt_9 ?_
    refine r_icmp_ge hC 22 dX1_keyAt_10 (by decide) (fun q => ?_) (fun q => ?_)
    · replace h := if_p q h
      refine r_iconst (v := 0) hC dX1_keyAt_22 (by decide) ?_
      exact r_iretP hC dX1_keyAt_23 h
    · replace h := if_n q h
      refine r_aload_n hC dX1_keyAt_13 rfl 0 rfl ?_
      refine G1_9 hC dX1_keyAt_14 ?_
      refine r_iload_n hC dX1_keyAt_17 rfl 1 rfl ?_
      obtain ⟨hi, h⟩ := inb_of h
      refine L_kkeys hC hi dX1_keyAt_18 ?_
      refine r_goto hC 23 dX1_keyAt_19 (by decide) ?_
      exact r_iretP hC dX1_keyAt_23 h
abbrev Rm_X1_holds : Room := { frames := 1, cells := 0, slots := 0, locals := 21 }
def f_X1_holds_n2_b (σ : St) (x1 : Int32) (self : Int32 → Option Int32) (y2 : Int32) : Option Int32 :=
  if (st_i σ 18) ≤ y2 then
    some (0 : Int32)
  else
  (f_X1_keyAt σ y2).bind fun v1 =>
  if v1 = x1 then
    some (1 : Int32)
  else
  lt_ (y2 + (1 : Int32)) fun v2 =>
  self v2
def f_X1_holds_n2 (σ : St) (x1 : Int32) : Nat → Int32 → Option Int32
  | 0 => fun _ => none
  | n + 1 => fun y2 => f_X1_holds_n2_b σ x1  (f_X1_holds_n2 σ x1  n) y2
set_option maxRecDepth 100000 in
set_option maxHeartbeats 4000000 in
theorem t_X1_holds_n2_b {Γ : St → Nat → List (Nat × Value) → List Value → Prop} {l : Launch} {a : Nat → Nat} {r : Int32} {σ : St} (hC : Cx Γ l cX1_holds RX1 3 (some .boolean) Rm_X1_holds wC a (some (.int r)) σ) (x1 : Int32) (self : Int32 → Option Int32) (hself : ∀ (y2 : Int32), self y2 = some r → Γ σ 2 [(0, .ref (a 9)), (1, .int x1), (2, .int y2)] []) (y2 : Int32) (h : f_X1_holds_n2_b σ x1 self y2 = some r) : Γ σ 2 [(0, .ref (a 9)), (1, .int x1), (2, .int y2)] [] := by
  unfold f_X1_holds_n2_b at h
  refine r_iload_n hC dX1_holds_2 rfl 2 rfl ?_
  refine r_aload_n hC dX1_holds_3 rfl 0 rfl ?_
  refine G1_19 hC dX1_holds_4 ?_
  refine r_icmp_ge hC 27 dX1_holds_7 (by decide) (fun q => ?_) (fun q => ?_)
  · replace h := if_p q h
    refine r_iconst (v := 0) hC dX1_holds_27 (by decide) ?_
    exact r_zretP hC rfl dX1_holds_28 h
  · replace h := if_n q h
    refine r_aload_n hC dX1_holds_10 rfl 0 rfl ?_
    refine r_iload_n hC dX1_holds_11 rfl 2 rfl ?_
    obtain ⟨v1, hv1, h⟩ := bind_of h
    refine r_callV (As := [.int y2]) (rest := []) hC (con_X1_keyAt l σ y2 hv1) K1_23 (ob1 a σ) rfl rfl rfl rfl ⟨Nat.le_of_ble_eq_true rfl, Nat.le_of_ble_eq_true rfl⟩ (Nat.le_of_ble_eq_true rfl) dX1_holds_12 ?_
    refine r_iload_n hC dX1_holds_15 rfl 1 rfl ?_
    refine r_icmp_ne hC 21 dX1_holds_16 (by decide) (fun q => ?_) (fun q => ?_)
    · replace h := if_n q h
      obtain ⟨v2, ev2, h⟩ := lt_of h
      refine r_iinc (c1 := 1) (lv' := [(2, .int v2), (0, .ref (a 9)), (1, .int x1)]) hC dX1_holds_21 2 rfl (by decide) (by decide) ev2 rfl ?_
      refine r_goto hC 2 dX1_holds_24 (by decide) ?_
      refine r_sub hC [1, 2, 0] rfl ?_
      exact hself v2 h
    · replace h := if_p q h
      refine r_iconst (v := 1) hC dX1_holds_19 (by decide) ?_
      exact r_zretP hC rfl dX1_holds_20 h
set_option maxRecDepth 100000 in
set_option maxHeartbeats 4000000 in
theorem t_X1_holds_n2 {Γ : St → Nat → List (Nat × Value) → List Value → Prop} {l : Launch} {a : Nat → Nat} {r : Int32} {σ : St} (hC : Cx Γ l cX1_holds RX1 3 (some .boolean) Rm_X1_holds wC a (some (.int r)) σ) (x1 : Int32) (n : Nat) : ∀ (y2 : Int32), f_X1_holds_n2 σ x1 n y2 = some r → Γ σ 2 [(0, .ref (a 9)), (1, .int x1), (2, .int y2)] [] := by
  induction n with
  | zero =>
    intro y2  h
    have h : (none : Option Int32) = some r := h
    cases h
  | succ n ih =>
    intro y2  h
    exact t_X1_holds_n2_b hC x1    (f_X1_holds_n2 σ x1  n) ih y2  h
def f_X1_holds (σ : St) (x1 : Int32) : Option Int32 :=
  f_X1_holds_n2 σ x1 fuel (0 : Int32)
set_option maxRecDepth 100000 in
set_option maxHeartbeats 4000000 in
theorem con_X1_holds (l : Launch) (σ : St) (x1 : Int32) {r : Int32} (h : f_X1_holds σ x1 = some r) : Con l yX1_holds cX1_holds 3 (some .boolean) Rm_X1_holds wC (fun a => [.ref (a 9), .int x1]) σ (fun _ => some (.int r)) σ := by
  refine con_of (by decide) ⟨rfl, rfl⟩ (fun _ => Nat.le_of_ble_eq_true rfl) (fun Γ a hC => ?_)
  have hC : Cx Γ l cX1_holds RX1 3 (some .boolean) Rm_X1_holds wC a (some (.int r)) σ := hC
  show Γ σ 0 [(0, .ref (a 9)), (1, .int x1)] []
  unfold f_X1_holds at h
  refine r_iconst (v := 0) hC dX1_holds_0 (by decide) ?_
  refine r_istore_n (lv' := [(2, .int (0 : Int32)), (0, .ref (a 9)), (1, .int x1)]) hC dX1_holds_1 rfl (by decide) rfl rfl ?_
  refine r_sub hC [1, 2, 0] rfl ?_
  exact t_X1_holds_n2 hC x1 fuel (0 : Int32) h
abbrev Rm_X5_at : Room := { frames := 0, cells := 0, slots := 0, locals := 0 }
def f_X5_at (σ : St) (x1 : Int32) : Option Int32 :=
  if x1 < 0 then
    some (-1 : Int32)
  else
  if (st_i σ 17) ≤ x1 then
    some (-1 : Int32)
  else
  if (80 : Int32) ≤ x1 then
    some (-1 : Int32)
  else
  if in_b x1 80 = true then
    some (st_a σ 12 x1.toNatClampNeg)
  else none
set_option maxRecDepth 100000 in
set_option maxHeartbeats 4000000 in
theorem con_X5_at (l : Launch) (σ : St) (x1 : Int32) {r : Int32} (h : f_X5_at σ x1 = some r) : Con l yX5_at cX5_at 2 (some .int) Rm_X5_at wC (fun a => [.ref (a 8), .int x1]) σ (fun _ => some (.int r)) σ := by
  refine con_of (by decide) ⟨rfl, rfl⟩ (fun _ => Nat.le_of_ble_eq_true rfl) (fun Γ a hC => ?_)
  have hC : Cx Γ l cX5_at RX5 2 (some .int) Rm_X5_at wC a (some (.int r)) σ := hC
  show Γ σ 0 [(0, .ref (a 8)), (1, .int x1)] []
  unfold f_X5_at at h
  refine r_iload_n hC dX5_at_0 rfl 1 rfl ?_
  refine r_if_lt hC 30 dX5_at_1 (by decide) (fun q => ?_) (fun q => ?_)
  · replace h := if_p q h
    refine r_iconst (v := -1) hC dX5_at_30 (by decide) ?_
    exact r_iretP hC dX5_at_31 h
  · replace h := if_n q h
    refine r_iload_n hC dX5_at_4 rfl 1 rfl ?_
    refine r_aload_n hC dX5_at_5 rfl 0 rfl ?_
    refine G5_15 hC dX5_at_6 ?_
    refine r_icmp_ge hC 30 dX5_at_9 (by decide) (fun q => ?_) (fun q => ?_)
    · replace h := if_p q h
      refine r_iconst (v := -1) hC dX5_at_30 (by decide) ?_
      exact r_iretP hC dX5_at_31 h
    · replace h := if_n q h
      refine r_iload_n hC dX5_at_12 rfl 1 rfl ?_
      refine r_aload_n hC dX5_at_13 rfl 0 rfl ?_
      refine G5_9 hC dX5_at_14 ?_
      refine N_signs hC dX5_at_17 ?_
      refine r_icmp_ge hC 30 dX5_at_18 (by decide) (fun q => ?_) (fun q => ?_)
      · replace h := if_p q h
        refine r_iconst (v := -1) hC dX5_at_30 (by decide) ?_
        exact r_iretP hC dX5_at_31 h
      · replace h := if_n q h
        refine r_aload_n hC dX5_at_21 rfl 0 rfl ?_
        refine G5_9 hC dX5_at_22 ?_
        refine r_iload_n hC dX5_at_25 rfl 1 rfl ?_
        obtain ⟨hi, h⟩ := inb_of h
        refine L_signs hC hi dX5_at_26 ?_
        refine r_goto hC 31 dX5_at_27 (by decide) ?_
        exact r_iretP hC dX5_at_31 h
abbrev Rm_X1_read : Room := { frames := 1, cells := 0, slots := 0, locals := 22 }
def f_X1_read_n97 (x2 : Int32) (k16 : St → Int32 → Int32 → Int32 → Int32 → Option (Int32 × St)) (σ : St) (y3 : Int32) (y4 : Int32) (y5 : Int32) (y6 : Int32) (y7 : Int32) : Option (Int32 × St) :=
  if y7 = (44 : Int32) then
    if y3 ≤ 0 then
      some (((-1 : Int32) - y6), σ)
    else
    (f_X1_add σ y4 y5).bind fun s5 =>
    lt_ (y6 + (1 : Int32)) fun v6 =>
    k16 s5 (0 : Int32) (0 : Int32) (0 : Int32) v6
  else
  some (((-1 : Int32) - y6), σ)
set_option maxRecDepth 100000 in
set_option maxHeartbeats 4000000 in
theorem t_X1_read_n97 {Γ : St → Nat → List (Nat × Value) → List Value → Prop} {l : Launch} {a : Nat → Nat} {r : Int32} {t' : St} (hC : Cx Γ l cX1_read RX1 8 (some .int) Rm_X1_read wC a (some (.int r)) t') (x2 : Int32) (k16 : St → Int32 → Int32 → Int32 → Int32 → Option (Int32 × St)) (hk16 : ∀ (σ : St) (y3 : Int32) (y4 : Int32) (y5 : Int32) (y6 : Int32), k16 σ y3 y4 y5 y6 = some (r, t') → Γ σ 16 [(0, .ref (a 9)), (1, .ref (a 8)), (2, .int x2), (3, .int y3), (4, .int y4), (5, .int y5), (6, .int y6)] []) (σ : St) (y3 : Int32) (y4 : Int32) (y5 : Int32) (y6 : Int32) (y7 : Int32) (h : f_X1_read_n97 x2 k16 σ y3 y4 y5 y6 y7 = some (r, t')) : Γ σ 97 [(0, .ref (a 9)), (1, .ref (a 8)), (2, .int x2), (3, .int y3), (4, .int y4), (5, .int y5), (6, .int y6), (7, .int y7)] [] := by
  unfold f_X1_read_n97 at h
  refine r_iload hC dX1_read_97 7 rfl ?_
  refine r_bipush (v := 44) hC dX1_read_99 (by decide) ?_
  refine r_icmp_ne hC 127 dX1_read_101 (by decide) (fun q => ?_) (fun q => ?_)
  · replace h := if_n q h
    refine r_iconst (v := -1) hC dX1_read_127 (by decide) ?_
    refine r_iload hC dX1_read_128 6 rfl ?_
    refine r_isub hC dX1_read_130 ?_
    exact r_iretS hC dX1_read_131 h
  · replace h := if_p q h
    refine r_iload_n hC dX1_read_104 rfl 3 rfl ?_
    refine r_if_le hC 127 dX1_read_105 (by decide) (fun q => ?_) (fun q => ?_)
    · replace h := if_p q h
      refine r_iconst (v := -1) hC dX1_read_127 (by decide) ?_
      refine r_iload hC dX1_read_128 6 rfl ?_
      refine r_isub hC dX1_read_130 ?_
      exact r_iretS hC dX1_read_131 h
    · replace h := if_n q h
      refine r_aload_n hC dX1_read_108 rfl 0 rfl ?_
      refine r_iload hC dX1_read_109 4 rfl ?_
      refine r_iload hC dX1_read_111 5 rfl ?_
      obtain ⟨s5, hs5, h⟩ := bind_of h
      refine r_callV (As := [.int y4, .int y5]) (rest := []) hC (con_X1_add l σ y4 y5 hs5) K1_33 (ob1 a σ) rfl rfl rfl rfl ⟨Nat.le_of_ble_eq_true rfl, Nat.le_of_ble_eq_true rfl⟩ (Nat.le_of_ble_eq_true rfl) dX1_read_113 ?_
      refine r_iconst (v := 0) hC dX1_read_116 (by decide) ?_
      refine r_istore_n (lv' := [(3, .int (0 : Int32)), (0, .ref (a 9)), (1, .ref (a 8)), (2, .int x2), (4, .int y4), (5, .int y5), (6, .int y6), (7, .int y7)]) hC dX1_read_117 rfl (by decide) rfl rfl ?_
      refine r_iconst (v := 0) hC dX1_read_118 (by decide) ?_
      refine r_istore (lv' := [(4, .int (0 : Int32)), (3, .int (0 : Int32)), (0, .ref (a 9)), (1, .ref (a 8)), (2, .int x2), (5, .int y5), (6, .int y6), (7, .int y7)]) hC dX1_read_119 (by decide) rfl rfl ?_
      refine r_iconst (v := 0) hC dX1_read_121 (by decide) ?_
      refine r_istore (lv' := [(5, .int (0 : Int32)), (4, .int (0 : Int32)), (3, .int (0 : Int32)), (0, .ref (a 9)), (1, .ref (a 8)), (2, .int x2), (6, .int y6), (7, .int y7)]) hC dX1_read_122 (by decide) rfl rfl ?_
      refine r_goto hC 132 dX1_read_124 (by decide) ?_
      obtain ⟨v6, ev6, h⟩ := lt_of h
      refine r_iinc (c1 := 1) (lv' := [(6, .int v6), (5, .int (0 : Int32)), (4, .int (0 : Int32)), (3, .int (0 : Int32)), (0, .ref (a 9)), (1, .ref (a 8)), (2, .int x2), (7, .int y7)]) hC dX1_read_132 6 rfl (by decide) (by decide) ev6 rfl ?_
      refine r_goto hC 16 dX1_read_135 (by decide) ?_
      refine r_sub hC [4, 5, 6, 3, 2, 1, 0] rfl ?_
      exact hk16 s5 (0 : Int32) (0 : Int32) (0 : Int32) v6 h
def f_X1_read_n71 (x2 : Int32) (k16 : St → Int32 → Int32 → Int32 → Int32 → Option (Int32 × St)) (σ : St) (y3 : Int32) (y4 : Int32) (y5 : Int32) (y6 : Int32) (y7 : Int32) : Option (Int32 × St) :=
  if y7 = (126 : Int32) then
    if x2 = 0 then
      f_X1_read_n97 x2 k16 σ y3 y4 y5 y6 y7
    else
    if y3 = 0 then
      if y5 = 0 then
        lt_ (y6 + (1 : Int32)) fun v8 =>
        k16 σ y3 y4 (1 : Int32) v8
      else
      f_X1_read_n97 x2 k16 σ y3 y4 y5 y6 y7
    else
    f_X1_read_n97 x2 k16 σ y3 y4 y5 y6 y7
  else
  f_X1_read_n97 x2 k16 σ y3 y4 y5 y6 y7
set_option maxRecDepth 100000 in
set_option maxHeartbeats 4000000 in
theorem t_X1_read_n71 {Γ : St → Nat → List (Nat × Value) → List Value → Prop} {l : Launch} {a : Nat → Nat} {r : Int32} {t' : St} (hC : Cx Γ l cX1_read RX1 8 (some .int) Rm_X1_read wC a (some (.int r)) t') (x2 : Int32) (k16 : St → Int32 → Int32 → Int32 → Int32 → Option (Int32 × St)) (hk16 : ∀ (σ : St) (y3 : Int32) (y4 : Int32) (y5 : Int32) (y6 : Int32), k16 σ y3 y4 y5 y6 = some (r, t') → Γ σ 16 [(0, .ref (a 9)), (1, .ref (a 8)), (2, .int x2), (3, .int y3), (4, .int y4), (5, .int y5), (6, .int y6)] []) (σ : St) (y3 : Int32) (y4 : Int32) (y5 : Int32) (y6 : Int32) (y7 : Int32) (h : f_X1_read_n71 x2 k16 σ y3 y4 y5 y6 y7 = some (r, t')) : Γ σ 71 [(0, .ref (a 9)), (1, .ref (a 8)), (2, .int x2), (3, .int y3), (4, .int y4), (5, .int y5), (6, .int y6), (7, .int y7)] [] := by
  unfold f_X1_read_n71 at h
  refine r_iload hC dX1_read_71 7 rfl ?_
  refine r_bipush (v := 126) hC dX1_read_73 (by decide) ?_
  refine r_icmp_ne hC 97 dX1_read_75 (by decide) (fun q => ?_) (fun q => ?_)
  · replace h := if_n q h
    exact t_X1_read_n97 hC x2 k16 hk16 σ y3 y4 y5 y6 y7 h
  · replace h := if_p q h
    refine r_iload_n hC dX1_read_78 rfl 2 rfl ?_
    refine r_if_eq hC 97 dX1_read_79 (by decide) (fun q => ?_) (fun q => ?_)
    · replace h := if_p q h
      exact t_X1_read_n97 hC x2 k16 hk16 σ y3 y4 y5 y6 y7 h
    · replace h := if_n q h
      refine r_iload_n hC dX1_read_82 rfl 3 rfl ?_
      refine r_if_ne hC 97 dX1_read_83 (by decide) (fun q => ?_) (fun q => ?_)
      · replace h := if_n q h
        exact t_X1_read_n97 hC x2 k16 hk16 σ y3 y4 y5 y6 y7 h
      · replace h := if_p q h
        refine r_iload hC dX1_read_86 5 rfl ?_
        refine r_if_ne hC 97 dX1_read_88 (by decide) (fun q => ?_) (fun q => ?_)
        · replace h := if_n q h
          exact t_X1_read_n97 hC x2 k16 hk16 σ y3 y4 y5 y6 y7 h
        · replace h := if_p q h
          refine r_iconst (v := 1) hC dX1_read_91 (by decide) ?_
          refine r_istore (lv' := [(5, .int (1 : Int32)), (0, .ref (a 9)), (1, .ref (a 8)), (2, .int x2), (3, .int y3), (4, .int y4), (6, .int y6), (7, .int y7)]) hC dX1_read_92 (by decide) rfl rfl ?_
          refine r_goto hC 132 dX1_read_94 (by decide) ?_
          obtain ⟨v8, ev8, h⟩ := lt_of h
          refine r_iinc (c1 := 1) (lv' := [(6, .int v8), (5, .int (1 : Int32)), (0, .ref (a 9)), (1, .ref (a 8)), (2, .int x2), (3, .int y3), (4, .int y4), (7, .int y7)]) hC dX1_read_132 6 rfl (by decide) (by decide) ev8 rfl ?_
          refine r_goto hC 16 dX1_read_135 (by decide) ?_
          refine r_sub hC [2, 3, 4, 5, 6, 1, 0] rfl ?_
          exact hk16 σ y3 y4 (1 : Int32) v8 h
def f_X1_read_n156 (x2 : Int32) (σ : St) (y4 : Int32) (y5 : Int32) : Option (Int32 × St) :=
  if (st_i σ 17) ≤ 0 then
    some ((0 : Int32), σ)
  else
  (f_X1_add σ y4 y5).bind fun s7 =>
  some ((0 : Int32), s7)
set_option maxRecDepth 100000 in
set_option maxHeartbeats 4000000 in
theorem t_X1_read_n156 {Γ : St → Nat → List (Nat × Value) → List Value → Prop} {l : Launch} {a : Nat → Nat} {r : Int32} {t' : St} (hC : Cx Γ l cX1_read RX1 8 (some .int) Rm_X1_read wC a (some (.int r)) t') (x2 : Int32) (σ : St) (y4 : Int32) (y5 : Int32) (h : f_X1_read_n156 x2 σ y4 y5 = some (r, t')) : Γ σ 156 [(0, .ref (a 9)), (1, .ref (a 8)), (4, .int y4), (5, .int y5)] [] := by
  unfold f_X1_read_n156 at h
  refine r_aload_n hC dX1_read_156 rfl 1 rfl ?_
  refine G1_27 hC dX1_read_157 ?_
  refine r_if_le hC 171 dX1_read_160 (by decide) (fun q => ?_) (fun q => ?_)
  · replace h := if_p q h
    refine r_iconst (v := 0) hC dX1_read_171 (by decide) ?_
    exact r_iretS hC dX1_read_172 h
  · replace h := if_n q h
    refine r_aload_n hC dX1_read_163 rfl 0 rfl ?_
    refine r_iload hC dX1_read_164 2 rfl ?_
    refine r_iload hC dX1_read_166 3 rfl ?_
    obtain ⟨s7, hs7, h⟩ := bind_of h
    refine r_callV (As := [.int y4, .int y5]) (rest := []) hC (con_X1_add l σ y4 y5 hs7) K1_33 (ob1 a σ) rfl rfl rfl rfl ⟨Nat.le_of_ble_eq_true rfl, Nat.le_of_ble_eq_true rfl⟩ (Nat.le_of_ble_eq_true rfl) dX1_read_168 ?_
    refine r_iconst (v := 0) hC dX1_read_171 (by decide) ?_
    exact r_iretS hC dX1_read_172 h
def f_X1_read_n16_b (x2 : Int32) (self : St → Int32 → Int32 → Int32 → Int32 → Option (Int32 × St)) (σ : St) (y3 : Int32) (y4 : Int32) (y5 : Int32) (y6 : Int32) : Option (Int32 × St) :=
  if (st_i σ 17) ≤ y6 then
    if (st_i σ 17) ≤ 0 then
      f_X1_read_n156 x2 σ y4 y5
    else
    if y3 = 0 then
      some (((-1 : Int32) - (st_i σ 17)), σ)
    else
    f_X1_read_n156 x2 σ y4 y5
  else
  (f_X5_at σ y6).bind fun v1 =>
  if v1 < (48 : Int32) then
    f_X1_read_n71 x2 self σ y3 y4 y5 y6 v1
  else
  if (57 : Int32) < v1 then
    f_X1_read_n71 x2 self σ y3 y4 y5 y6 v1
  else
  if (5 : Int32) ≤ y3 then
    f_X1_read_n71 x2 self σ y3 y4 y5 y6 v1
  else
  lt_ ((y4 * (10 : Int32)) + (v1 - (48 : Int32))) fun v2 =>
  lt_ (y3 + (1 : Int32)) fun v3 =>
  lt_ (y6 + (1 : Int32)) fun v4 =>
  self σ v3 v2 y5 v4
def f_X1_read_n16 (x2 : Int32) : Nat → St → Int32 → Int32 → Int32 → Int32 → Option (Int32 × St)
  | 0 => fun _ _ _ _ _ => none
  | n + 1 => fun σ y3 y4 y5 y6 => f_X1_read_n16_b x2  (f_X1_read_n16 x2  n) σ y3 y4 y5 y6
set_option maxRecDepth 100000 in
set_option maxHeartbeats 4000000 in
theorem t_X1_read_n16_b {Γ : St → Nat → List (Nat × Value) → List Value → Prop} {l : Launch} {a : Nat → Nat} {r : Int32} {t' : St} (hC : Cx Γ l cX1_read RX1 8 (some .int) Rm_X1_read wC a (some (.int r)) t') (x2 : Int32) (self : St → Int32 → Int32 → Int32 → Int32 → Option (Int32 × St)) (hself : ∀ (σ : St) (y3 : Int32) (y4 : Int32) (y5 : Int32) (y6 : Int32), self σ y3 y4 y5 y6 = some (r, t') → Γ σ 16 [(0, .ref (a 9)), (1, .ref (a 8)), (2, .int x2), (3, .int y3), (4, .int y4), (5, .int y5), (6, .int y6)] []) (σ : St) (y3 : Int32) (y4 : Int32) (y5 : Int32) (y6 : Int32) (h : f_X1_read_n16_b x2 self σ y3 y4 y5 y6 = some (r, t')) : Γ σ 16 [(0, .ref (a 9)), (1, .ref (a 8)), (2, .int x2), (3, .int y3), (4, .int y4), (5, .int y5), (6, .int y6)] [] := by
  unfold f_X1_read_n16_b at h
  refine r_iload hC dX1_read_16 6 rfl ?_
  refine r_aload_n hC dX1_read_18 rfl 1 rfl ?_
  refine G1_27 hC dX1_read_19 ?_
  refine r_icmp_ge hC 138 dX1_read_22 (by decide) (fun q => ?_) (fun q => ?_)
  · replace h := if_p q h
    refine r_aload_n hC dX1_read_138 rfl 1 rfl ?_
    refine G1_27 hC dX1_read_139 ?_
    refine r_if_le hC 156 dX1_read_142 (by decide) (fun q => ?_) (fun q => ?_)
    · replace h := if_p q h
      refine r_sub hC [0, 1, 4, 5] rfl ?_
      exact t_X1_read_n156 hC x2 σ y4 y5 h
    · replace h := if_n q h
      refine r_iload_n hC dX1_read_145 rfl 3 rfl ?_
      refine r_if_ne hC 156 dX1_read_146 (by decide) (fun q => ?_) (fun q => ?_)
      · replace h := if_n q h
        refine r_sub hC [0, 1, 4, 5] rfl ?_
        exact t_X1_read_n156 hC x2 σ y4 y5 h
      · replace h := if_p q h
        refine r_iconst (v := -1) hC dX1_read_149 (by decide) ?_
        refine r_aload_n hC dX1_read_150 rfl 1 rfl ?_
        refine G1_27 hC dX1_read_151 ?_
        refine r_isub hC dX1_read_154 ?_
        exact r_iretS hC dX1_read_155 h
  · replace h := if_n q h
    refine r_aload_n hC dX1_read_25 rfl 1 rfl ?_
    refine r_iload hC dX1_read_26 6 rfl ?_
    obtain ⟨v1, hv1, h⟩ := bind_of h
    refine r_callV (As := [.int y6]) (rest := []) hC (con_X5_at l σ y6 hv1) K1_30 (ob5 a σ) rfl rfl rfl rfl ⟨Nat.le_of_ble_eq_true rfl, Nat.le_of_ble_eq_true rfl⟩ (Nat.le_of_ble_eq_true rfl) dX1_read_28 ?_
    refine r_istore (lv' := [(7, .int v1), (0, .ref (a 9)), (1, .ref (a 8)), (2, .int x2), (3, .int y3), (4, .int y4), (5, .int y5), (6, .int y6)]) hC dX1_read_31 (by decide) rfl rfl ?_
    refine r_iload hC dX1_read_33 0 rfl ?_
    refine r_bipush (v := 48) hC dX1_read_35 (by decide) ?_
    refine r_icmp_lt hC 71 dX1_read_37 (by decide) (fun q => ?_) (fun q => ?_)
    · replace h := if_p q h
      refine r_sub hC [1, 2, 3, 4, 5, 6, 7, 0] rfl ?_
      exact t_X1_read_n71 hC x2 self hself σ y3 y4 y5 y6 v1 h
    · replace h := if_n q h
      refine r_iload hC dX1_read_40 0 rfl ?_
      refine r_bipush (v := 57) hC dX1_read_42 (by decide) ?_
      refine r_icmp_gt hC 71 dX1_read_44 (by decide) (fun q => ?_) (fun q => ?_)
      · replace h := if_p q h
        refine r_sub hC [1, 2, 3, 4, 5, 6, 7, 0] rfl ?_
        exact t_X1_read_n71 hC x2 self hself σ y3 y4 y5 y6 v1 h
      · replace h := if_n q h
        refine r_iload_n hC dX1_read_47 rfl 4 rfl ?_
        refine r_iconst (v := 5) hC dX1_read_48 (by decide) ?_
        refine r_icmp_ge hC 71 dX1_read_49 (by decide) (fun q => ?_) (fun q => ?_)
        · replace h := if_p q h
          refine r_sub hC [1, 2, 3, 4, 5, 6, 7, 0] rfl ?_
          exact t_X1_read_n71 hC x2 self hself σ y3 y4 y5 y6 v1 h
        · replace h := if_n q h
          refine r_iload hC dX1_read_52 5 rfl ?_
          refine r_bipush (v := 10) hC dX1_read_54 (by decide) ?_
          refine r_imul hC dX1_read_56 ?_
          refine r_iload hC dX1_read_57 0 rfl ?_
          refine r_bipush (v := 48) hC dX1_read_59 (by decide) ?_
          refine r_isub hC dX1_read_61 ?_
          refine r_iadd hC dX1_read_62 ?_
          obtain ⟨v2, ev2, h⟩ := lt_of h
          refine r_istore (lv' := [(4, .int v2), (7, .int v1), (0, .ref (a 9)), (1, .ref (a 8)), (2, .int x2), (3, .int y3), (5, .int y5), (6, .int y6)]) hC dX1_read_63 (by decide) ev2 rfl ?_
          obtain ⟨v3, ev3, h⟩ := lt_of h
          refine r_iinc (c1 := 1) (lv' := [(3, .int v3), (4, .int v2), (7, .int v1), (0, .ref (a 9)), (1, .ref (a 8)), (2, .int x2), (5, .int y5), (6, .int y6)]) hC dX1_read_65 5 rfl (by decide) (by decide) ev3 rfl ?_
          refine r_goto hC 132 dX1_read_68 (by decide) ?_
          obtain ⟨v4, ev4, h⟩ := lt_of h
          refine r_iinc (c1 := 1) (lv' := [(6, .int v4), (3, .int v3), (4, .int v2), (7, .int v1), (0, .ref (a 9)), (1, .ref (a 8)), (2, .int x2), (5, .int y5)]) hC dX1_read_132 7 rfl (by decide) (by decide) ev4 rfl ?_
          refine r_goto hC 16 dX1_read_135 (by decide) ?_
          refine r_sub hC [4, 5, 6, 1, 2, 7, 0] rfl ?_
          exact hself σ v3 v2 y5 v4 h
set_option maxRecDepth 100000 in
set_option maxHeartbeats 4000000 in
theorem t_X1_read_n16 {Γ : St → Nat → List (Nat × Value) → List Value → Prop} {l : Launch} {a : Nat → Nat} {r : Int32} {t' : St} (hC : Cx Γ l cX1_read RX1 8 (some .int) Rm_X1_read wC a (some (.int r)) t') (x2 : Int32) (n : Nat) : ∀ (σ : St) (y3 : Int32) (y4 : Int32) (y5 : Int32) (y6 : Int32), f_X1_read_n16 x2 n σ y3 y4 y5 y6 = some (r, t') → Γ σ 16 [(0, .ref (a 9)), (1, .ref (a 8)), (2, .int x2), (3, .int y3), (4, .int y4), (5, .int y5), (6, .int y6)] [] := by
  induction n with
  | zero =>
    intro σ y3 y4 y5 y6  h
    have h : (none : Option (Int32 × St)) = some (r, t') := h
    cases h
  | succ n ih =>
    intro σ y3 y4 y5 y6  h
    exact t_X1_read_n16_b hC x2    (f_X1_read_n16 x2  n) ih σ y3 y4 y5 y6  h
def f_X1_read (σ : St) (x2 : Int32) : Option (Int32 × St) :=
  lt_ (put_i σ 18 (0 : Int32)) fun s9 =>
  f_X1_read_n16 x2 fuel s9 (0 : Int32) (0 : Int32) (0 : Int32) (0 : Int32)
set_option maxRecDepth 100000 in
set_option maxHeartbeats 4000000 in
theorem con_X1_read (l : Launch) (σ : St) (x2 : Int32) {r : Int32} {t' : St} (h : f_X1_read σ x2 = some (r, t')) : Con l yX1_read cX1_read 8 (some .int) Rm_X1_read wC (fun a => [.ref (a 9), .ref (a 8), .int x2]) σ (fun _ => some (.int r)) t' := by
  refine con_of (by decide) ⟨rfl, rfl⟩ (fun _ => Nat.le_of_ble_eq_true rfl) (fun Γ a hC => ?_)
  have hC : Cx Γ l cX1_read RX1 8 (some .int) Rm_X1_read wC a (some (.int r)) t' := hC
  show Γ σ 0 [(0, .ref (a 9)), (1, .ref (a 8)), (2, .int x2)] []
  unfold f_X1_read at h
  refine r_aload_n hC dX1_read_0 rfl 0 rfl ?_
  refine r_iconst (v := 0) hC dX1_read_1 (by decide) ?_
  obtain ⟨s9, es9, h⟩ := lt_of h
  refine P1_19 hC es9 dX1_read_2 ?_
  refine r_iconst (v := 0) hC dX1_read_5 (by decide) ?_
  refine r_istore_n (lv' := [(3, .int (0 : Int32)), (0, .ref (a 9)), (1, .ref (a 8)), (2, .int x2)]) hC dX1_read_6 rfl (by decide) rfl rfl ?_
  refine r_iconst (v := 0) hC dX1_read_7 (by decide) ?_
  refine r_istore (lv' := [(4, .int (0 : Int32)), (3, .int (0 : Int32)), (0, .ref (a 9)), (1, .ref (a 8)), (2, .int x2)]) hC dX1_read_8 (by decide) rfl rfl ?_
  refine r_iconst (v := 0) hC dX1_read_10 (by decide) ?_
  refine r_istore (lv' := [(5, .int (0 : Int32)), (4, .int (0 : Int32)), (3, .int (0 : Int32)), (0, .ref (a 9)), (1, .ref (a 8)), (2, .int x2)]) hC dX1_read_11 (by decide) rfl rfl ?_
  refine r_iconst (v := 0) hC dX1_read_13 (by decide) ?_
  refine r_istore (lv' := [(6, .int (0 : Int32)), (5, .int (0 : Int32)), (4, .int (0 : Int32)), (3, .int (0 : Int32)), (0, .ref (a 9)), (1, .ref (a 8)), (2, .int x2)]) hC dX1_read_14 (by decide) rfl rfl ?_
  refine r_sub hC [4, 5, 6, 3, 2, 1, 0] rfl ?_
  exact t_X1_read_n16 hC x2 fuel s9 (0 : Int32) (0 : Int32) (0 : Int32) (0 : Int32) h
abbrev Rm_X3_add : Room := { frames := 0, cells := 0, slots := 0, locals := 0 }
def f_X3_add (σ : St) (x1 : Int64) : Option St :=
  if (st_i σ 16) < 0 then
    some σ
  else
  if (64 : Int32) ≤ (st_i σ 16) then
    some σ
  else
  if in_b (st_i σ 16) 64 = true then
    lt_ (put_l σ 0 (st_i σ 16).toNatClampNeg x1) fun s1 =>
    lt_ (put_i s1 16 ((st_i s1 16) + (1 : Int32))) fun s2 =>
    some s2
  else none
set_option maxRecDepth 100000 in
set_option maxHeartbeats 4000000 in
theorem con_X3_add (l : Launch) (σ : St) (x1 : Int64) {t' : St} (h : f_X3_add σ x1 = some t') : Con l yX3_add cX3_add 3 none Rm_X3_add wC (fun a => [.ref (a 7), .long x1]) σ (fun _ => none) t' := by
  refine con_of (by decide) ⟨rfl, rfl⟩ (fun _ => Nat.le_of_ble_eq_true rfl) (fun Γ a hC => ?_)
  have hC : Cx Γ l cX3_add RX3 3 none Rm_X3_add wC a (none) t' := hC
  show Γ σ 0 [(0, .ref (a 7)), (1, .long x1)] []
  unfold f_X3_add at h
  refine r_aload_n hC dX3_add_0 rfl 0 rfl ?_
  refine G3_15 hC dX3_add_1 ?_
  refine r_if_lt hC 39 dX3_add_4 (by decide) (fun q => ?_) (fun q => ?_)
  · replace h := if_p q h
    exact r_vretS hC dX3_add_39 h
  · replace h := if_n q h
    refine r_aload_n hC dX3_add_7 rfl 0 rfl ?_
    refine G3_15 hC dX3_add_8 ?_
    refine r_aload_n hC dX3_add_11 rfl 0 rfl ?_
    refine G3_9 hC dX3_add_12 ?_
    refine N_ncells hC dX3_add_15 ?_
    refine r_icmp_ge hC 39 dX3_add_16 (by decide) (fun q => ?_) (fun q => ?_)
    · replace h := if_p q h
      exact r_vretS hC dX3_add_39 h
    · replace h := if_n q h
      refine r_aload_n hC dX3_add_19 rfl 0 rfl ?_
      refine G3_9 hC dX3_add_20 ?_
      refine r_aload_n hC dX3_add_23 rfl 0 rfl ?_
      refine G3_15 hC dX3_add_24 ?_
      refine r_lload_n hC dX3_add_27 rfl 1 rfl ?_
      obtain ⟨hi, h⟩ := inb_of h
      obtain ⟨s1, es1, h⟩ := lt_of h
      refine S_ncells hC es1 hi dX3_add_28 ?_
      refine r_aload_n hC dX3_add_29 rfl 0 rfl ?_
      refine r_dup hC dX3_add_30 rfl ?_
      refine G3_15 hC dX3_add_31 ?_
      refine r_iconst (v := 1) hC dX3_add_34 (by decide) ?_
      refine r_iadd hC dX3_add_35 ?_
      obtain ⟨s2, es2, h⟩ := lt_of h
      refine P3_15 hC es2 dX3_add_36 ?_
      exact r_vretS hC dX3_add_39 h
abbrev Rm_X3_at : Room := { frames := 0, cells := 0, slots := 0, locals := 0 }
def f_X3_at (σ : St) (x1 : Int32) : Option Int64 :=
  if x1 < 0 then
    some (0 : Int64)
  else
  if (64 : Int32) ≤ x1 then
    some (0 : Int64)
  else
  if in_b x1 64 = true then
    some (st_l σ 0 x1.toNatClampNeg)
  else none
set_option maxRecDepth 100000 in
set_option maxHeartbeats 4000000 in
theorem con_X3_at (l : Launch) (σ : St) (x1 : Int32) {r : Int64} (h : f_X3_at σ x1 = some r) : Con l yX3_at cX3_at 2 (some .long) Rm_X3_at wC (fun a => [.ref (a 7), .int x1]) σ (fun _ => some (.long r)) σ := by
  refine con_of (by decide) ⟨rfl, rfl⟩ (fun _ => Nat.le_of_ble_eq_true rfl) (fun Γ a hC => ?_)
  have hC : Cx Γ l cX3_at RX3 2 (some .long) Rm_X3_at wC a (some (.long r)) σ := hC
  show Γ σ 0 [(0, .ref (a 7)), (1, .int x1)] []
  unfold f_X3_at at h
  refine r_iload_n hC dX3_at_0 rfl 1 rfl ?_
  refine r_if_lt hC 22 dX3_at_1 (by decide) (fun q => ?_) (fun q => ?_)
  · replace h := if_p q h
    refine r_lconst (v := 0) hC dX3_at_22 (by decide) ?_
    exact r_lretP hC dX3_at_23 h
  · replace h := if_n q h
    refine r_iload_n hC dX3_at_4 rfl 1 rfl ?_
    refine r_aload_n hC dX3_at_5 rfl 0 rfl ?_
    refine G3_9 hC dX3_at_6 ?_
    refine N_ncells hC dX3_at_9 ?_
    refine r_icmp_ge hC 22 dX3_at_10 (by decide) (fun q => ?_) (fun q => ?_)
    · replace h := if_p q h
      refine r_lconst (v := 0) hC dX3_at_22 (by decide) ?_
      exact r_lretP hC dX3_at_23 h
    · replace h := if_n q h
      refine r_aload_n hC dX3_at_13 rfl 0 rfl ?_
      refine G3_9 hC dX3_at_14 ?_
      refine r_iload_n hC dX3_at_17 rfl 1 rfl ?_
      obtain ⟨hi, h⟩ := inb_of h
      refine L_ncells hC hi dX3_at_18 ?_
      refine r_goto hC 23 dX3_at_19 (by decide) ?_
      exact r_lretP hC dX3_at_23 h
abbrev Rm_X3_restart : Room := { frames := 0, cells := 0, slots := 0, locals := 0 }
def f_X3_restart (σ : St) : Option St :=
  lt_ (put_i σ 16 (0 : Int32)) fun s1 =>
  some s1
set_option maxRecDepth 100000 in
set_option maxHeartbeats 4000000 in
theorem con_X3_restart (l : Launch) (σ : St) {t' : St} (h : f_X3_restart σ = some t') : Con l yX3_restart cX3_restart 1 none Rm_X3_restart wC (fun a => [.ref (a 7)]) σ (fun _ => none) t' := by
  refine con_of (by decide) ⟨rfl, rfl⟩ (fun _ => Nat.le_of_ble_eq_true rfl) (fun Γ a hC => ?_)
  have hC : Cx Γ l cX3_restart RX3 1 none Rm_X3_restart wC a (none) t' := hC
  show Γ σ 0 [(0, .ref (a 7))] []
  unfold f_X3_restart at h
  refine r_aload_n hC dX3_restart_0 rfl 0 rfl ?_
  refine r_iconst (v := 0) hC dX3_restart_1 (by decide) ?_
  obtain ⟨s1, es1, h⟩ := lt_of h
  refine P3_15 hC es1 dX3_restart_2 ?_
  exact r_vretS hC dX3_restart_5 h
abbrev Rm_X3_tell : Room := { frames := 1, cells := 0, slots := 0, locals := 22 }
def f_X3_tell (σ : St) (x1 : Int64) : Option St :=
  (f_X3_restart σ).bind fun s1 =>
  (f_X3_add s1 x1).bind fun s2 =>
  some s2
set_option maxRecDepth 100000 in
set_option maxHeartbeats 4000000 in
theorem con_X3_tell (l : Launch) (σ : St) (x1 : Int64) {t' : St} (h : f_X3_tell σ x1 = some t') : Con l yX3_tell cX3_tell 3 none Rm_X3_tell wC (fun a => [.ref (a 7), .long x1]) σ (fun _ => none) t' := by
  refine con_of (by decide) ⟨rfl, rfl⟩ (fun _ => Nat.le_of_ble_eq_true rfl) (fun Γ a hC => ?_)
  have hC : Cx Γ l cX3_tell RX3 3 none Rm_X3_tell wC a (none) t' := hC
  show Γ σ 0 [(0, .ref (a 7)), (1, .long x1)] []
  unfold f_X3_tell at h
  refine r_aload_n hC dX3_tell_0 rfl 0 rfl ?_
  obtain ⟨s1, hs1, h⟩ := bind_of h
  refine r_callV (As := []) (rest := []) hC (con_X3_restart l σ hs1) K3_19 (ob3 a σ) rfl rfl rfl rfl ⟨Nat.le_of_ble_eq_true rfl, Nat.le_of_ble_eq_true rfl⟩ (Nat.le_of_ble_eq_true rfl) dX3_tell_1 ?_
  refine r_aload_n hC dX3_tell_4 rfl 0 rfl ?_
  refine r_lload_n hC dX3_tell_5 rfl 1 rfl ?_
  obtain ⟨s2, hs2, h⟩ := bind_of h
  refine r_callV (As := [.long x1]) (rest := []) hC (con_X3_add l s1 x1 hs2) K3_22 (ob3 a s1) rfl rfl rfl rfl ⟨Nat.le_of_ble_eq_true rfl, Nat.le_of_ble_eq_true rfl⟩ (Nat.le_of_ble_eq_true rfl) dX3_tell_6 ?_
  exact r_vretS hC dX3_tell_9 h
abbrev Rm_X3_tell_ : Room := { frames := 2, cells := 0, slots := 0, locals := 44 }
def f_X3_tell_ (σ : St) (x1 : Int64) (x3 : Int64) : Option St :=
  (f_X3_tell σ x1).bind fun s1 =>
  (f_X3_add s1 x3).bind fun s2 =>
  some s2
set_option maxRecDepth 100000 in
set_option maxHeartbeats 4000000 in
theorem con_X3_tell_ (l : Launch) (σ : St) (x1 : Int64) (x3 : Int64) {t' : St} (h : f_X3_tell_ σ x1 x3 = some t') : Con l yX3_tell_ cX3_tell_ 5 none Rm_X3_tell_ wC (fun a => [.ref (a 7), .long x1, .long x3]) σ (fun _ => none) t' := by
  refine con_of (by decide) ⟨rfl, rfl⟩ (fun _ => Nat.le_of_ble_eq_true rfl) (fun Γ a hC => ?_)
  have hC : Cx Γ l cX3_tell_ RX3 5 none Rm_X3_tell_ wC a (none) t' := hC
  show Γ σ 0 [(0, .ref (a 7)), (1, .long x1), (3, .long x3)] []
  unfold f_X3_tell_ at h
  refine r_aload_n hC dX3_tell__0 rfl 0 rfl ?_
  refine r_lload_n hC dX3_tell__1 rfl 1 rfl ?_
  obtain ⟨s1, hs1, h⟩ := bind_of h
  refine r_callV (As := [.long x1]) (rest := []) hC (con_X3_tell l σ x1 hs1) K3_26 (ob3 a σ) rfl rfl rfl rfl ⟨Nat.le_of_ble_eq_true rfl, Nat.le_of_ble_eq_true rfl⟩ (Nat.le_of_ble_eq_true rfl) dX3_tell__2 ?_
  refine r_aload_n hC dX3_tell__5 rfl 0 rfl ?_
  refine r_lload_n hC dX3_tell__6 rfl 2 rfl ?_
  obtain ⟨s2, hs2, h⟩ := bind_of h
  refine r_callV (As := [.long x3]) (rest := []) hC (con_X3_add l s1 x3 hs2) K3_22 (ob3 a s1) rfl rfl rfl rfl ⟨Nat.le_of_ble_eq_true rfl, Nat.le_of_ble_eq_true rfl⟩ (Nat.le_of_ble_eq_true rfl) dX3_tell__7 ?_
  exact r_vretS hC dX3_tell__10 h
abbrev Rm_X3_tell__ : Room := { frames := 3, cells := 0, slots := 0, locals := 68 }
def f_X3_tell__ (σ : St) (x1 : Int64) (x3 : Int64) (x5 : Int64) : Option St :=
  (f_X3_tell_ σ x1 x3).bind fun s1 =>
  (f_X3_add s1 x5).bind fun s2 =>
  some s2
set_option maxRecDepth 100000 in
set_option maxHeartbeats 4000000 in
theorem con_X3_tell__ (l : Launch) (σ : St) (x1 : Int64) (x3 : Int64) (x5 : Int64) {t' : St} (h : f_X3_tell__ σ x1 x3 x5 = some t') : Con l yX3_tell__ cX3_tell__ 7 none Rm_X3_tell__ wC (fun a => [.ref (a 7), .long x1, .long x3, .long x5]) σ (fun _ => none) t' := by
  refine con_of (by decide) ⟨rfl, rfl⟩ (fun _ => Nat.le_of_ble_eq_true rfl) (fun Γ a hC => ?_)
  have hC : Cx Γ l cX3_tell__ RX3 7 none Rm_X3_tell__ wC a (none) t' := hC
  show Γ σ 0 [(0, .ref (a 7)), (1, .long x1), (3, .long x3), (5, .long x5)] []
  unfold f_X3_tell__ at h
  refine r_aload_n hC dX3_tell___0 rfl 0 rfl ?_
  refine r_lload_n hC dX3_tell___1 rfl 1 rfl ?_
  refine r_lload_n hC dX3_tell___2 rfl 2 rfl ?_
  obtain ⟨s1, hs1, h⟩ := bind_of h
  refine r_callV (As := [.long x1, .long x3]) (rest := []) hC (con_X3_tell_ l σ x1 x3 hs1) K3_29 (ob3 a σ) rfl rfl rfl rfl ⟨Nat.le_of_ble_eq_true rfl, Nat.le_of_ble_eq_true rfl⟩ (Nat.le_of_ble_eq_true rfl) dX3_tell___3 ?_
  refine r_aload_n hC dX3_tell___6 rfl 0 rfl ?_
  refine r_lload hC dX3_tell___7 3 rfl ?_
  obtain ⟨s2, hs2, h⟩ := bind_of h
  refine r_callV (As := [.long x5]) (rest := []) hC (con_X3_add l s1 x5 hs2) K3_22 (ob3 a s1) rfl rfl rfl rfl ⟨Nat.le_of_ble_eq_true rfl, Nat.le_of_ble_eq_true rfl⟩ (Nat.le_of_ble_eq_true rfl) dX3_tell___9 ?_
  exact r_vretS hC dX3_tell___12 h
abbrev Rm_X5_addFour : Room := { frames := 0, cells := 0, slots := 0, locals := 0 }
def f_X5_addFour_n26_b (x1 : Int32) (self : St → Int32 → Option (Int32 × St)) (σ : St) (y2 : Int32) : Option (Int32 × St) :=
  if y2 < 0 then
    some ((1 : Int32), σ)
  else
  if in_b (st_i σ 17) 80 = true then
    lt_ (put_a σ 12 (st_i σ 17).toNatClampNeg (vp_nar .char ((((((x1.toUInt32 >>> (y2.toUInt32 &&& Int32.toUInt32 31)).toInt32) &&& (255 : Int32))).toUInt32 % 65536).toInt32))) fun s1 =>
    lt_ (put_i s1 17 ((st_i s1 17) + (1 : Int32))) fun s2 =>
    lt_ (y2 + (-8 : Int32)) fun v3 =>
    self s2 v3
  else none
def f_X5_addFour_n26 (x1 : Int32) : Nat → St → Int32 → Option (Int32 × St)
  | 0 => fun _ _ => none
  | n + 1 => fun σ y2 => f_X5_addFour_n26_b x1  (f_X5_addFour_n26 x1  n) σ y2
set_option maxRecDepth 100000 in
set_option maxHeartbeats 4000000 in
theorem t_X5_addFour_n26_b {Γ : St → Nat → List (Nat × Value) → List Value → Prop} {l : Launch} {a : Nat → Nat} {r : Int32} {t' : St} (hC : Cx Γ l cX5_addFour RX5 3 (some .boolean) Rm_X5_addFour wC a (some (.int r)) t') (x1 : Int32) (self : St → Int32 → Option (Int32 × St)) (hself : ∀ (σ : St) (y2 : Int32), self σ y2 = some (r, t') → Γ σ 26 [(0, .ref (a 8)), (1, .int x1), (2, .int y2)] []) (σ : St) (y2 : Int32) (h : f_X5_addFour_n26_b x1 self σ y2 = some (r, t')) : Γ σ 26 [(0, .ref (a 8)), (1, .int x1), (2, .int y2)] [] := by
  unfold f_X5_addFour_n26_b at h
  refine r_iload_n hC dX5_addFour_26 rfl 2 rfl ?_
  refine r_if_lt hC 63 dX5_addFour_27 (by decide) (fun q => ?_) (fun q => ?_)
  · replace h := if_p q h
    refine r_iconst (v := 1) hC dX5_addFour_63 (by decide) ?_
    exact r_zretS hC rfl dX5_addFour_64 h
  · replace h := if_n q h
    refine r_aload_n hC dX5_addFour_30 rfl 0 rfl ?_
    refine G5_9 hC dX5_addFour_31 ?_
    refine r_aload_n hC dX5_addFour_34 rfl 0 rfl ?_
    refine G5_15 hC dX5_addFour_35 ?_
    refine r_iload_n hC dX5_addFour_38 rfl 1 rfl ?_
    refine r_iload_n hC dX5_addFour_39 rfl 2 rfl ?_
    refine r_iushr hC dX5_addFour_40 ?_
    refine r_sipush (v := 255) hC dX5_addFour_41 (by decide) ?_
    refine r_iand hC dX5_addFour_44 ?_
    refine r_i2c hC dX5_addFour_45 ?_
    obtain ⟨hi, h⟩ := inb_of h
    obtain ⟨s1, es1, h⟩ := lt_of h
    refine S_signs hC es1 hi dX5_addFour_46 ?_
    refine r_aload_n hC dX5_addFour_47 rfl 0 rfl ?_
    refine r_dup hC dX5_addFour_48 rfl ?_
    refine G5_15 hC dX5_addFour_49 ?_
    refine r_iconst (v := 1) hC dX5_addFour_52 (by decide) ?_
    refine r_iadd hC dX5_addFour_53 ?_
    obtain ⟨s2, es2, h⟩ := lt_of h
    refine P5_15 hC es2 dX5_addFour_54 ?_
    obtain ⟨v3, ev3, h⟩ := lt_of h
    refine r_iinc (c1 := (-8)) (lv' := [(2, .int v3), (0, .ref (a 8)), (1, .int x1)]) hC dX5_addFour_57 2 rfl (by decide) (by decide) ev3 rfl ?_
    refine r_goto hC 26 dX5_addFour_60 (by decide) ?_
    refine r_sub hC [1, 2, 0] rfl ?_
    exact hself s2 v3 h
set_option maxRecDepth 100000 in
set_option maxHeartbeats 4000000 in
theorem t_X5_addFour_n26 {Γ : St → Nat → List (Nat × Value) → List Value → Prop} {l : Launch} {a : Nat → Nat} {r : Int32} {t' : St} (hC : Cx Γ l cX5_addFour RX5 3 (some .boolean) Rm_X5_addFour wC a (some (.int r)) t') (x1 : Int32) (n : Nat) : ∀ (σ : St) (y2 : Int32), f_X5_addFour_n26 x1 n σ y2 = some (r, t') → Γ σ 26 [(0, .ref (a 8)), (1, .int x1), (2, .int y2)] [] := by
  induction n with
  | zero =>
    intro σ y2  h
    have h : (none : Option (Int32 × St)) = some (r, t') := h
    cases h
  | succ n ih =>
    intro σ y2  h
    exact t_X5_addFour_n26_b hC x1    (f_X5_addFour_n26 x1  n) ih σ y2  h
def f_X5_addFour (σ : St) (x1 : Int32) : Option (Int32 × St) :=
  if (st_i σ 17) < 0 then
    some ((0 : Int32), σ)
  else
  if ((st_i σ 17) + (4 : Int32)) ≤ (80 : Int32) then
    f_X5_addFour_n26 x1 fuel σ (24 : Int32)
  else
  some ((0 : Int32), σ)
set_option maxRecDepth 100000 in
set_option maxHeartbeats 4000000 in
theorem con_X5_addFour (l : Launch) (σ : St) (x1 : Int32) {r : Int32} {t' : St} (h : f_X5_addFour σ x1 = some (r, t')) : Con l yX5_addFour cX5_addFour 3 (some .boolean) Rm_X5_addFour wC (fun a => [.ref (a 8), .int x1]) σ (fun _ => some (.int r)) t' := by
  refine con_of (by decide) ⟨rfl, rfl⟩ (fun _ => Nat.le_of_ble_eq_true rfl) (fun Γ a hC => ?_)
  have hC : Cx Γ l cX5_addFour RX5 3 (some .boolean) Rm_X5_addFour wC a (some (.int r)) t' := hC
  show Γ σ 0 [(0, .ref (a 8)), (1, .int x1)] []
  unfold f_X5_addFour at h
  refine r_aload_n hC dX5_addFour_0 rfl 0 rfl ?_
  refine G5_15 hC dX5_addFour_1 ?_
  refine r_if_lt hC 21 dX5_addFour_4 (by decide) (fun q => ?_) (fun q => ?_)
  · replace h := if_p q h
    refine r_iconst (v := 0) hC dX5_addFour_21 (by decide) ?_
    exact r_zretS hC rfl dX5_addFour_22 h
  · replace h := if_n q h
    refine r_aload_n hC dX5_addFour_7 rfl 0 rfl ?_
    refine G5_15 hC dX5_addFour_8 ?_
    refine r_iconst (v := 4) hC dX5_addFour_11 (by decide) ?_
    refine r_iadd hC dX5_addFour_12 ?_
    refine r_aload_n hC dX5_addFour_13 rfl 0 rfl ?_
    refine G5_9 hC dX5_addFour_14 ?_
    refine N_signs hC dX5_addFour_17 ?_
    refine r_icmp_le hC 23 dX5_addFour_18 (by decide) (fun q => ?_) (fun q => ?_)
    · replace h := if_p q h
      refine r_bipush (v := 24) hC dX5_addFour_23 (by decide) ?_
      refine r_istore_n (lv' := [(2, .int (24 : Int32)), (0, .ref (a 8)), (1, .int x1)]) hC dX5_addFour_25 rfl (by decide) rfl rfl ?_
      refine r_sub hC [1, 2, 0] rfl ?_
      exact t_X5_addFour_n26 hC x1 fuel σ (24 : Int32) h
    · replace h := if_n q h
      refine r_iconst (v := 0) hC dX5_addFour_21 (by decide) ?_
      exact r_zretS hC rfl dX5_addFour_22 h
abbrev Rm_X5_cutTo : Room := { frames := 0, cells := 0, slots := 0, locals := 0 }
def f_X5_cutTo (σ : St) (x1 : Int32) : Option (Int32 × St) :=
  if x1 < 0 then
    some ((0 : Int32), σ)
  else
  if x1 ≤ (st_i σ 17) then
    lt_ (put_i σ 17 x1) fun s1 =>
    some ((1 : Int32), s1)
  else
  some ((0 : Int32), σ)
set_option maxRecDepth 100000 in
set_option maxHeartbeats 4000000 in
theorem con_X5_cutTo (l : Launch) (σ : St) (x1 : Int32) {r : Int32} {t' : St} (h : f_X5_cutTo σ x1 = some (r, t')) : Con l yX5_cutTo cX5_cutTo 2 (some .boolean) Rm_X5_cutTo wC (fun a => [.ref (a 8), .int x1]) σ (fun _ => some (.int r)) t' := by
  refine con_of (by decide) ⟨rfl, rfl⟩ (fun _ => Nat.le_of_ble_eq_true rfl) (fun Γ a hC => ?_)
  have hC : Cx Γ l cX5_cutTo RX5 2 (some .boolean) Rm_X5_cutTo wC a (some (.int r)) t' := hC
  show Γ σ 0 [(0, .ref (a 8)), (1, .int x1)] []
  unfold f_X5_cutTo at h
  refine r_iload_n hC dX5_cutTo_0 rfl 1 rfl ?_
  refine r_if_lt hC 12 dX5_cutTo_1 (by decide) (fun q => ?_) (fun q => ?_)
  · replace h := if_p q h
    refine r_iconst (v := 0) hC dX5_cutTo_12 (by decide) ?_
    exact r_zretS hC rfl dX5_cutTo_13 h
  · replace h := if_n q h
    refine r_iload_n hC dX5_cutTo_4 rfl 1 rfl ?_
    refine r_aload_n hC dX5_cutTo_5 rfl 0 rfl ?_
    refine G5_15 hC dX5_cutTo_6 ?_
    refine r_icmp_le hC 14 dX5_cutTo_9 (by decide) (fun q => ?_) (fun q => ?_)
    · replace h := if_p q h
      refine r_aload_n hC dX5_cutTo_14 rfl 0 rfl ?_
      refine r_iload_n hC dX5_cutTo_15 rfl 1 rfl ?_
      obtain ⟨s1, es1, h⟩ := lt_of h
      refine P5_15 hC es1 dX5_cutTo_16 ?_
      refine r_iconst (v := 1) hC dX5_cutTo_19 (by decide) ?_
      exact r_zretS hC rfl dX5_cutTo_20 h
    · replace h := if_n q h
      refine r_iconst (v := 0) hC dX5_cutTo_12 (by decide) ?_
      exact r_zretS hC rfl dX5_cutTo_13 h
