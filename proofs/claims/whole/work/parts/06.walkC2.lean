abbrev Rm_X2_around : Room := { frames := 0, cells := 0, slots := 0, locals := 0 }
def f_X2_around (σ : St) (c : Nat) (x1 : Int32) : Int32 :=
  (x1 &&& ((st_i σ (10 + 3 * c)) - (1 : Int32)))
set_option maxRecDepth 100000 in
set_option maxHeartbeats 4000000 in
theorem con_X2_around (l : Launch) (σ : St) (c : Nat) (x1 : Int32) (hc : c < 2) {r : Int32} (h : f_X2_around σ c x1 = r) : Con l yX2_around cX2_around 2 (some .int) Rm_X2_around wC (fun a => [.ref (a (4 + c)), .int x1]) σ (fun _ => some (.int r)) σ := by
  refine con_of (by decide) ⟨rfl, rfl⟩ (fun _ => Nat.le_of_ble_eq_true rfl) (fun Γ a hC => ?_)
  have hC : Cx Γ l cX2_around RX2 2 (some .int) Rm_X2_around wC a (some (.int r)) σ := hC
  show Γ σ 0 [(0, .ref (a (4 + c))), (1, .int x1)] []
  unfold f_X2_around at h
  refine r_iload_n hC dX2_around_0 rfl 1 rfl ?_
  refine r_aload_n hC dX2_around_1 rfl 0 rfl ?_
  refine G2_25 hC c hc dX2_around_2 ?_
  refine r_iconst (v := 1) hC dX2_around_5 (by decide) ?_
  refine r_isub hC dX2_around_6 ?_
  refine r_iand hC dX2_around_7 ?_
  exact r_iretT hC dX2_around_8 h
abbrev Rm_X2_cellAt : Room := { frames := 0, cells := 0, slots := 0, locals := 0 }
def f_X2_cellAt (σ : St) (c : Nat) (x1 : Int32) : Option Int32 :=
  if x1 < 0 then
    some (0 : Int32)
  else
  if (st_i σ (10 + 3 * c)) ≤ x1 then
    some (0 : Int32)
  else
  if (64 : Int32) ≤ x1 then
    some (0 : Int32)
  else
  if in_b x1 64 = true then
    some (st_a σ (5 + 3 * c) x1.toNatClampNeg)
  else none
set_option maxRecDepth 100000 in
set_option maxHeartbeats 4000000 in
theorem con_X2_cellAt (l : Launch) (σ : St) (c : Nat) (x1 : Int32) (hc : c < 2) {r : Int32} (h : f_X2_cellAt σ c x1 = some r) : Con l yX2_cellAt cX2_cellAt 2 (some .int) Rm_X2_cellAt wC (fun a => [.ref (a (4 + c)), .int x1]) σ (fun _ => some (.int r)) σ := by
  refine con_of (by decide) ⟨rfl, rfl⟩ (fun _ => Nat.le_of_ble_eq_true rfl) (fun Γ a hC => ?_)
  have hC : Cx Γ l cX2_cellAt RX2 2 (some .int) Rm_X2_cellAt wC a (some (.int r)) σ := hC
  show Γ σ 0 [(0, .ref (a (4 + c))), (1, .int x1)] []
  unfold f_X2_cellAt at h
  refine r_iload_n hC dX2_cellAt_0 rfl 1 rfl ?_
  refine r_if_lt hC 30 dX2_cellAt_1 (by decide) (fun q => ?_) (fun q => ?_)
  · replace h := if_p q h
    refine r_iconst (v := 0) hC dX2_cellAt_30 (by decide) ?_
    exact r_iretP hC dX2_cellAt_31 h
  · replace h := if_n q h
    refine r_iload_n hC dX2_cellAt_4 rfl 1 rfl ?_
    refine r_aload_n hC dX2_cellAt_5 rfl 0 rfl ?_
    refine G2_25 hC c hc dX2_cellAt_6 ?_
    refine r_icmp_ge hC 30 dX2_cellAt_9 (by decide) (fun q => ?_) (fun q => ?_)
    · replace h := if_p q h
      refine r_iconst (v := 0) hC dX2_cellAt_30 (by decide) ?_
      exact r_iretP hC dX2_cellAt_31 h
    · replace h := if_n q h
      refine r_iload_n hC dX2_cellAt_12 rfl 1 rfl ?_
      refine r_aload_n hC dX2_cellAt_13 rfl 0 rfl ?_
      refine G2_18 hC c hc dX2_cellAt_14 ?_
      refine N_lcells hC c hc dX2_cellAt_17 ?_
      refine r_icmp_ge hC 30 dX2_cellAt_18 (by decide) (fun q => ?_) (fun q => ?_)
      · replace h := if_p q h
        refine r_iconst (v := 0) hC dX2_cellAt_30 (by decide) ?_
        exact r_iretP hC dX2_cellAt_31 h
      · replace h := if_n q h
        refine r_aload_n hC dX2_cellAt_21 rfl 0 rfl ?_
        refine G2_18 hC c hc dX2_cellAt_22 ?_
        refine r_iload_n hC dX2_cellAt_25 rfl 1 rfl ?_
        obtain ⟨hi, h⟩ := inb_of h
        refine L_lcells hC c hc hi dX2_cellAt_26 ?_
        refine r_goto hC 31 dX2_cellAt_27 (by decide) ?_
        exact r_iretP hC dX2_cellAt_31 h
abbrev Rm_X2_cellBits : Room := { frames := 0, cells := 0, slots := 0, locals := 0 }
def f_X2_cellBits (σ : St) (c : Nat) : Int32 :=
  ((st_i σ (11 + 3 * c)) + (3 : Int32))
set_option maxRecDepth 100000 in
set_option maxHeartbeats 4000000 in
theorem con_X2_cellBits (l : Launch) (σ : St) (c : Nat) (hc : c < 2) {r : Int32} (h : f_X2_cellBits σ c = r) : Con l yX2_cellBits cX2_cellBits 1 (some .int) Rm_X2_cellBits wC (fun a => [.ref (a (4 + c))]) σ (fun _ => some (.int r)) σ := by
  refine con_of (by decide) ⟨rfl, rfl⟩ (fun _ => Nat.le_of_ble_eq_true rfl) (fun Γ a hC => ?_)
  have hC : Cx Γ l cX2_cellBits RX2 1 (some .int) Rm_X2_cellBits wC a (some (.int r)) σ := hC
  show Γ σ 0 [(0, .ref (a (4 + c)))] []
  unfold f_X2_cellBits at h
  refine r_aload_n hC dX2_cellBits_0 rfl 0 rfl ?_
  refine G2_28 hC c hc dX2_cellBits_1 ?_
  refine r_iconst (v := 3) hC dX2_cellBits_4 (by decide) ?_
  refine r_iadd hC dX2_cellBits_5 ?_
  exact r_iretT hC dX2_cellBits_6 h
abbrev Rm_X2_isMarked : Room := { frames := 1, cells := 0, slots := 0, locals := 21 }
def f_X2_isMarked (σ : St) (c : Nat) (x1 : Int32) (x2 : Int32) : Option Int32 :=
  (f_X2_cellAt σ c x1).bind fun v1 =>
  if (v1 &&& x2) = 0 then
    some (0 : Int32)
  else
  some (1 : Int32)
set_option maxRecDepth 100000 in
set_option maxHeartbeats 4000000 in
theorem con_X2_isMarked (l : Launch) (σ : St) (c : Nat) (x1 : Int32) (x2 : Int32) (hc : c < 2) {r : Int32} (h : f_X2_isMarked σ c x1 x2 = some r) : Con l yX2_isMarked cX2_isMarked 3 (some .boolean) Rm_X2_isMarked wC (fun a => [.ref (a (4 + c)), .int x1, .int x2]) σ (fun _ => some (.int r)) σ := by
  refine con_of (by decide) ⟨rfl, rfl⟩ (fun _ => Nat.le_of_ble_eq_true rfl) (fun Γ a hC => ?_)
  have hC : Cx Γ l cX2_isMarked RX2 3 (some .boolean) Rm_X2_isMarked wC a (some (.int r)) σ := hC
  show Γ σ 0 [(0, .ref (a (4 + c))), (1, .int x1), (2, .int x2)] []
  unfold f_X2_isMarked at h
  refine r_aload_n hC dX2_isMarked_0 rfl 0 rfl ?_
  refine r_iload_n hC dX2_isMarked_1 rfl 1 rfl ?_
  obtain ⟨v1, hv1, h⟩ := bind_of h
  refine r_callV (As := [.int x1]) (rest := []) hC (con_X2_cellAt l σ c x1 hc hv1) K2_62 (ob2 a σ c hc) rfl rfl rfl rfl ⟨Nat.le_of_ble_eq_true rfl, Nat.le_of_ble_eq_true rfl⟩ (Nat.le_of_ble_eq_true rfl) dX2_isMarked_2 ?_
  refine r_iload_n hC dX2_isMarked_5 rfl 2 rfl ?_
  refine r_iand hC dX2_isMarked_6 ?_
  refine r_if_eq hC 14 dX2_isMarked_7 (by decide) (fun q => ?_) (fun q => ?_)
  · replace h := if_p q h
    refine r_iconst (v := 0) hC dX2_isMarked_14 (by decide) ?_
    exact r_zretP hC rfl dX2_isMarked_15 h
  · replace h := if_n q h
    refine r_iconst (v := 1) hC dX2_isMarked_10 (by decide) ?_
    refine r_goto hC 15 dX2_isMarked_11 (by decide) ?_
    exact r_zretP hC rfl dX2_isMarked_15 h
abbrev Rm_X2_clusterLength : Room := { frames := 2, cells := 0, slots := 0, locals := 43 }
def f_X2_clusterLength_n2_b (σ : St) (c : Nat) (x1 : Int32) (self : Int32 → Option Int32) (y2 : Int32) : Option Int32 :=
  if (st_i σ (10 + 3 * c)) ≤ y2 then
    some y2
  else
  (f_X2_isMarked σ c (f_X2_around σ c (x1 + y2)) (4 : Int32)).bind fun v1 =>
  if v1 = 0 then
    some y2
  else
  lt_ (y2 + (1 : Int32)) fun v2 =>
  self v2
def f_X2_clusterLength_n2 (σ : St) (c : Nat) (x1 : Int32) : Nat → Int32 → Option Int32
  | 0 => fun _ => none
  | n + 1 => fun y2 => f_X2_clusterLength_n2_b σ c x1  (f_X2_clusterLength_n2 σ c x1  n) y2
set_option maxRecDepth 100000 in
set_option maxHeartbeats 4000000 in
theorem t_X2_clusterLength_n2_b {Γ : St → Nat → List (Nat × Value) → List Value → Prop} {l : Launch} {a : Nat → Nat} {r : Int32} {σ : St} (hC : Cx Γ l cX2_clusterLength RX2 3 (some .int) Rm_X2_clusterLength wC a (some (.int r)) σ) (c : Nat) (x1 : Int32) (hc : c < 2) (self : Int32 → Option Int32) (hself : ∀ (y2 : Int32), self y2 = some r → Γ σ 2 [(0, .ref (a (4 + c))), (1, .int x1), (2, .int y2)] []) (y2 : Int32) (h : f_X2_clusterLength_n2_b σ c x1 self y2 = some r) : Γ σ 2 [(0, .ref (a (4 + c))), (1, .int x1), (2, .int y2)] [] := by
  unfold f_X2_clusterLength_n2_b at h
  refine r_iload_n hC dX2_clusterLength_2 rfl 2 rfl ?_
  refine r_aload_n hC dX2_clusterLength_3 rfl 0 rfl ?_
  refine G2_25 hC c hc dX2_clusterLength_4 ?_
  refine r_icmp_ge hC 31 dX2_clusterLength_7 (by decide) (fun q => ?_) (fun q => ?_)
  · replace h := if_p q h
    refine r_iload_n hC dX2_clusterLength_31 rfl 2 rfl ?_
    exact r_iretP hC dX2_clusterLength_32 h
  · replace h := if_n q h
    refine r_aload_n hC dX2_clusterLength_10 rfl 0 rfl ?_
    refine r_aload_n hC dX2_clusterLength_11 rfl 0 rfl ?_
    refine r_iload_n hC dX2_clusterLength_12 rfl 1 rfl ?_
    refine r_iload_n hC dX2_clusterLength_13 rfl 2 rfl ?_
    refine r_iadd hC dX2_clusterLength_14 ?_
    refine r_callV (As := [.int (x1 + y2)]) (rest := [.ref (a (4 + c))]) hC (con_X2_around l σ c (x1 + y2) hc rfl) K2_75 (ob2 a σ c hc) rfl rfl rfl rfl ⟨Nat.le_of_ble_eq_true rfl, Nat.le_of_ble_eq_true rfl⟩ (Nat.le_of_ble_eq_true rfl) dX2_clusterLength_15 ?_
    refine r_iconst (v := 4) hC dX2_clusterLength_18 (by decide) ?_
    obtain ⟨v1, hv1, h⟩ := bind_of h
    refine r_callV (As := [.int (f_X2_around σ c (x1 + y2)), .int (4 : Int32)]) (rest := []) hC (con_X2_isMarked l σ c (f_X2_around σ c (x1 + y2)) (4 : Int32) hc hv1) K2_71 (ob2 a σ c hc) rfl rfl rfl rfl ⟨Nat.le_of_ble_eq_true rfl, Nat.le_of_ble_eq_true rfl⟩ (Nat.le_of_ble_eq_true rfl) dX2_clusterLength_19 ?_
    refine r_if_eq hC 31 dX2_clusterLength_22 (by decide) (fun q => ?_) (fun q => ?_)
    · replace h := if_p q h
      refine r_iload_n hC dX2_clusterLength_31 rfl 2 rfl ?_
      exact r_iretP hC dX2_clusterLength_32 h
    · replace h := if_n q h
      obtain ⟨v2, ev2, h⟩ := lt_of h
      refine r_iinc (c1 := 1) (lv' := [(2, .int v2), (0, .ref (a (4 + c))), (1, .int x1)]) hC dX2_clusterLength_25 2 rfl (by decide) (by decide) ev2 rfl ?_
      refine r_goto hC 2 dX2_clusterLength_28 (by decide) ?_
      refine r_sub hC [1, 2, 0] rfl ?_
      exact hself v2 h
set_option maxRecDepth 100000 in
set_option maxHeartbeats 4000000 in
theorem t_X2_clusterLength_n2 {Γ : St → Nat → List (Nat × Value) → List Value → Prop} {l : Launch} {a : Nat → Nat} {r : Int32} {σ : St} (hC : Cx Γ l cX2_clusterLength RX2 3 (some .int) Rm_X2_clusterLength wC a (some (.int r)) σ) (c : Nat) (x1 : Int32) (hc : c < 2) (n : Nat) : ∀ (y2 : Int32), f_X2_clusterLength_n2 σ c x1 n y2 = some r → Γ σ 2 [(0, .ref (a (4 + c))), (1, .int x1), (2, .int y2)] [] := by
  induction n with
  | zero =>
    intro y2  h
    have h : (none : Option Int32) = some r := h
    cases h
  | succ n ih =>
    intro y2  h
    exact t_X2_clusterLength_n2_b hC c x1 hc   (f_X2_clusterLength_n2 σ c x1  n) ih y2  h
def f_X2_clusterLength (σ : St) (c : Nat) (x1 : Int32) : Option Int32 :=
  f_X2_clusterLength_n2 σ c x1 fuel (1 : Int32)
set_option maxRecDepth 100000 in
set_option maxHeartbeats 4000000 in
theorem con_X2_clusterLength (l : Launch) (σ : St) (c : Nat) (x1 : Int32) (hc : c < 2) {r : Int32} (h : f_X2_clusterLength σ c x1 = some r) : Con l yX2_clusterLength cX2_clusterLength 3 (some .int) Rm_X2_clusterLength wC (fun a => [.ref (a (4 + c)), .int x1]) σ (fun _ => some (.int r)) σ := by
  refine con_of (by decide) ⟨rfl, rfl⟩ (fun _ => Nat.le_of_ble_eq_true rfl) (fun Γ a hC => ?_)
  have hC : Cx Γ l cX2_clusterLength RX2 3 (some .int) Rm_X2_clusterLength wC a (some (.int r)) σ := hC
  show Γ σ 0 [(0, .ref (a (4 + c))), (1, .int x1)] []
  unfold f_X2_clusterLength at h
  refine r_iconst (v := 1) hC dX2_clusterLength_0 (by decide) ?_
  refine r_istore_n (lv' := [(2, .int (1 : Int32)), (0, .ref (a (4 + c))), (1, .int x1)]) hC dX2_clusterLength_1 rfl (by decide) rfl rfl ?_
  refine r_sub hC [1, 2, 0] rfl ?_
  exact t_X2_clusterLength_n2 hC c x1 hc fuel (1 : Int32) h
abbrev Rm_X2_clusterStart : Room := { frames := 2, cells := 0, slots := 0, locals := 43 }
def f_X2_clusterStart_n31 (σ : St) (c : Nat) (x1 : Int32) (y2 : Int32) : Option Int32 :=
  some (f_X2_around σ c (x1 - y2))
set_option maxRecDepth 100000 in
set_option maxHeartbeats 4000000 in
theorem t_X2_clusterStart_n31 {Γ : St → Nat → List (Nat × Value) → List Value → Prop} {l : Launch} {a : Nat → Nat} {r : Int32} {σ : St} (hC : Cx Γ l cX2_clusterStart RX2 3 (some .int) Rm_X2_clusterStart wC a (some (.int r)) σ) (c : Nat) (x1 : Int32) (hc : c < 2) (y2 : Int32) (h : f_X2_clusterStart_n31 σ c x1 y2 = some r) : Γ σ 31 [(0, .ref (a (4 + c))), (1, .int x1), (2, .int y2)] [] := by
  unfold f_X2_clusterStart_n31 at h
  refine r_aload_n hC dX2_clusterStart_31 rfl 0 rfl ?_
  refine r_iload_n hC dX2_clusterStart_32 rfl 1 rfl ?_
  refine r_iload_n hC dX2_clusterStart_33 rfl 2 rfl ?_
  refine r_isub hC dX2_clusterStart_34 ?_
  refine r_callV (As := [.int (x1 - y2)]) (rest := []) hC (con_X2_around l σ c (x1 - y2) hc rfl) K2_75 (ob2 a σ c hc) rfl rfl rfl rfl ⟨Nat.le_of_ble_eq_true rfl, Nat.le_of_ble_eq_true rfl⟩ (Nat.le_of_ble_eq_true rfl) dX2_clusterStart_35 ?_
  exact r_iretP hC dX2_clusterStart_38 h
def f_X2_clusterStart_n2_b (σ : St) (c : Nat) (x1 : Int32) (self : Int32 → Option Int32) (y2 : Int32) : Option Int32 :=
  if (st_i σ (10 + 3 * c)) ≤ y2 then
    f_X2_clusterStart_n31 σ c x1 y2
  else
  (f_X2_isMarked σ c (f_X2_around σ c (x1 - y2)) (4 : Int32)).bind fun v1 =>
  if v1 = 0 then
    f_X2_clusterStart_n31 σ c x1 y2
  else
  lt_ (y2 + (1 : Int32)) fun v2 =>
  self v2
def f_X2_clusterStart_n2 (σ : St) (c : Nat) (x1 : Int32) : Nat → Int32 → Option Int32
  | 0 => fun _ => none
  | n + 1 => fun y2 => f_X2_clusterStart_n2_b σ c x1  (f_X2_clusterStart_n2 σ c x1  n) y2
set_option maxRecDepth 100000 in
set_option maxHeartbeats 4000000 in
theorem t_X2_clusterStart_n2_b {Γ : St → Nat → List (Nat × Value) → List Value → Prop} {l : Launch} {a : Nat → Nat} {r : Int32} {σ : St} (hC : Cx Γ l cX2_clusterStart RX2 3 (some .int) Rm_X2_clusterStart wC a (some (.int r)) σ) (c : Nat) (x1 : Int32) (hc : c < 2) (self : Int32 → Option Int32) (hself : ∀ (y2 : Int32), self y2 = some r → Γ σ 2 [(0, .ref (a (4 + c))), (1, .int x1), (2, .int y2)] []) (y2 : Int32) (h : f_X2_clusterStart_n2_b σ c x1 self y2 = some r) : Γ σ 2 [(0, .ref (a (4 + c))), (1, .int x1), (2, .int y2)] [] := by
  unfold f_X2_clusterStart_n2_b at h
  refine r_iload_n hC dX2_clusterStart_2 rfl 2 rfl ?_
  refine r_aload_n hC dX2_clusterStart_3 rfl 0 rfl ?_
  refine G2_25 hC c hc dX2_clusterStart_4 ?_
  refine r_icmp_ge hC 31 dX2_clusterStart_7 (by decide) (fun q => ?_) (fun q => ?_)
  · replace h := if_p q h
    exact t_X2_clusterStart_n31 hC c x1 hc y2 h
  · replace h := if_n q h
    refine r_aload_n hC dX2_clusterStart_10 rfl 0 rfl ?_
    refine r_aload_n hC dX2_clusterStart_11 rfl 0 rfl ?_
    refine r_iload_n hC dX2_clusterStart_12 rfl 1 rfl ?_
    refine r_iload_n hC dX2_clusterStart_13 rfl 2 rfl ?_
    refine r_isub hC dX2_clusterStart_14 ?_
    refine r_callV (As := [.int (x1 - y2)]) (rest := [.ref (a (4 + c))]) hC (con_X2_around l σ c (x1 - y2) hc rfl) K2_75 (ob2 a σ c hc) rfl rfl rfl rfl ⟨Nat.le_of_ble_eq_true rfl, Nat.le_of_ble_eq_true rfl⟩ (Nat.le_of_ble_eq_true rfl) dX2_clusterStart_15 ?_
    refine r_iconst (v := 4) hC dX2_clusterStart_18 (by decide) ?_
    obtain ⟨v1, hv1, h⟩ := bind_of h
    refine r_callV (As := [.int (f_X2_around σ c (x1 - y2)), .int (4 : Int32)]) (rest := []) hC (con_X2_isMarked l σ c (f_X2_around σ c (x1 - y2)) (4 : Int32) hc hv1) K2_71 (ob2 a σ c hc) rfl rfl rfl rfl ⟨Nat.le_of_ble_eq_true rfl, Nat.le_of_ble_eq_true rfl⟩ (Nat.le_of_ble_eq_true rfl) dX2_clusterStart_19 ?_
    refine r_if_eq hC 31 dX2_clusterStart_22 (by decide) (fun q => ?_) (fun q => ?_)
    · replace h := if_p q h
      exact t_X2_clusterStart_n31 hC c x1 hc y2 h
    · replace h := if_n q h
      obtain ⟨v2, ev2, h⟩ := lt_of h
      refine r_iinc (c1 := 1) (lv' := [(2, .int v2), (0, .ref (a (4 + c))), (1, .int x1)]) hC dX2_clusterStart_25 2 rfl (by decide) (by decide) ev2 rfl ?_
      refine r_goto hC 2 dX2_clusterStart_28 (by decide) ?_
      refine r_sub hC [1, 2, 0] rfl ?_
      exact hself v2 h
set_option maxRecDepth 100000 in
set_option maxHeartbeats 4000000 in
theorem t_X2_clusterStart_n2 {Γ : St → Nat → List (Nat × Value) → List Value → Prop} {l : Launch} {a : Nat → Nat} {r : Int32} {σ : St} (hC : Cx Γ l cX2_clusterStart RX2 3 (some .int) Rm_X2_clusterStart wC a (some (.int r)) σ) (c : Nat) (x1 : Int32) (hc : c < 2) (n : Nat) : ∀ (y2 : Int32), f_X2_clusterStart_n2 σ c x1 n y2 = some r → Γ σ 2 [(0, .ref (a (4 + c))), (1, .int x1), (2, .int y2)] [] := by
  induction n with
  | zero =>
    intro y2  h
    have h : (none : Option Int32) = some r := h
    cases h
  | succ n ih =>
    intro y2  h
    exact t_X2_clusterStart_n2_b hC c x1 hc   (f_X2_clusterStart_n2 σ c x1  n) ih y2  h
def f_X2_clusterStart (σ : St) (c : Nat) (x1 : Int32) : Option Int32 :=
  f_X2_clusterStart_n2 σ c x1 fuel (0 : Int32)
set_option maxRecDepth 100000 in
set_option maxHeartbeats 4000000 in
theorem con_X2_clusterStart (l : Launch) (σ : St) (c : Nat) (x1 : Int32) (hc : c < 2) {r : Int32} (h : f_X2_clusterStart σ c x1 = some r) : Con l yX2_clusterStart cX2_clusterStart 3 (some .int) Rm_X2_clusterStart wC (fun a => [.ref (a (4 + c)), .int x1]) σ (fun _ => some (.int r)) σ := by
  refine con_of (by decide) ⟨rfl, rfl⟩ (fun _ => Nat.le_of_ble_eq_true rfl) (fun Γ a hC => ?_)
  have hC : Cx Γ l cX2_clusterStart RX2 3 (some .int) Rm_X2_clusterStart wC a (some (.int r)) σ := hC
  show Γ σ 0 [(0, .ref (a (4 + c))), (1, .int x1)] []
  unfold f_X2_clusterStart at h
  refine r_iconst (v := 0) hC dX2_clusterStart_0 (by decide) ?_
  refine r_istore_n (lv' := [(2, .int (0 : Int32)), (0, .ref (a (4 + c))), (1, .int x1)]) hC dX2_clusterStart_1 rfl (by decide) rfl rfl ?_
  refine r_sub hC [1, 2, 0] rfl ?_
  exact t_X2_clusterStart_n2 hC c x1 hc fuel (0 : Int32) h
abbrev Rm_X2_slotOf : Room := { frames := 0, cells := 0, slots := 0, locals := 0 }
def f_X2_slotOf (σ : St) (c : Nat) (x1 : Int32) : Option Int32 :=
  if x1 < 0 then
    some (-1 : Int32)
  else
  if (64 : Int32) ≤ x1 then
    some (-1 : Int32)
  else
  if in_b x1 64 = true then
    some (st_a σ (3 + 3 * c) x1.toNatClampNeg)
  else none
set_option maxRecDepth 100000 in
set_option maxHeartbeats 4000000 in
theorem con_X2_slotOf (l : Launch) (σ : St) (c : Nat) (x1 : Int32) (hc : c < 2) {r : Int32} (h : f_X2_slotOf σ c x1 = some r) : Con l yX2_slotOf cX2_slotOf 2 (some .int) Rm_X2_slotOf wC (fun a => [.ref (a (4 + c)), .int x1]) σ (fun _ => some (.int r)) σ := by
  refine con_of (by decide) ⟨rfl, rfl⟩ (fun _ => Nat.le_of_ble_eq_true rfl) (fun Γ a hC => ?_)
  have hC : Cx Γ l cX2_slotOf RX2 2 (some .int) Rm_X2_slotOf wC a (some (.int r)) σ := hC
  show Γ σ 0 [(0, .ref (a (4 + c))), (1, .int x1)] []
  unfold f_X2_slotOf at h
  refine r_iload_n hC dX2_slotOf_0 rfl 1 rfl ?_
  refine r_if_lt hC 22 dX2_slotOf_1 (by decide) (fun q => ?_) (fun q => ?_)
  · replace h := if_p q h
    refine r_iconst (v := -1) hC dX2_slotOf_22 (by decide) ?_
    exact r_iretP hC dX2_slotOf_23 h
  · replace h := if_n q h
    refine r_iload_n hC dX2_slotOf_4 rfl 1 rfl ?_
    refine r_aload_n hC dX2_slotOf_5 rfl 0 rfl ?_
    refine G2_9 hC c hc dX2_slotOf_6 ?_
    refine N_places hC c hc dX2_slotOf_9 ?_
    refine r_icmp_ge hC 22 dX2_slotOf_10 (by decide) (fun q => ?_) (fun q => ?_)
    · replace h := if_p q h
      refine r_iconst (v := -1) hC dX2_slotOf_22 (by decide) ?_
      exact r_iretP hC dX2_slotOf_23 h
    · replace h := if_n q h
      refine r_aload_n hC dX2_slotOf_13 rfl 0 rfl ?_
      refine G2_9 hC c hc dX2_slotOf_14 ?_
      refine r_iload_n hC dX2_slotOf_17 rfl 1 rfl ?_
      obtain ⟨hi, h⟩ := inb_of h
      refine L_places hC c hc hi dX2_slotOf_18 ?_
      refine r_goto hC 23 dX2_slotOf_19 (by decide) ?_
      exact r_iretP hC dX2_slotOf_23 h
abbrev Rm_X2_fillCell : Room := { frames := 1, cells := 0, slots := 0, locals := 21 }
def f_X2_fillCell_n141 (c : Nat) (b1 : Nat) (x2 : Int32) (σ : St) (y7 : Int32) (w1 : Int32) (w2 : Int32) (w3 : Int32) (w4 : Int32) : Option St :=
  if in_b w1 64 = true then
    lt_ (put_a σ (5 + 3 * c) w1.toNatClampNeg (w2 ||| ((w3 ||| w4) ||| (y7 <<< ((3 : Int32) &&& 31))))) fun s4 =>
    some s4
  else none
set_option maxRecDepth 100000 in
set_option maxHeartbeats 4000000 in
theorem t_X2_fillCell_n141 {Γ : St → Nat → List (Nat × Value) → List Value → Prop} {l : Launch} {a : Nat → Nat} {t' : St} (hC : Cx Γ l cX2_fillCell RX2 8 none Rm_X2_fillCell wC a (none) t') (c : Nat) (b1 : Nat) (x2 : Int32) (hc : c < 2) (hb1 : b1 < 3) (σ : St) (y7 : Int32) (w1 : Int32) (w2 : Int32) (w3 : Int32) (w4 : Int32) (h : f_X2_fillCell_n141 c b1 x2 σ y7 w1 w2 w3 w4 = some t') : Γ σ 141 [(7, .int y7)] [.int w4, .int w3, .int w2, .int w1, .ref (a (15 + 3 * c))] := by
  unfold f_X2_fillCell_n141 at h
  refine r_ior hC dX2_fillCell_141 ?_
  refine r_iload hC dX2_fillCell_142 0 rfl ?_
  refine r_iconst (v := 3) hC dX2_fillCell_144 (by decide) ?_
  refine r_ishl hC dX2_fillCell_145 ?_
  refine r_ior hC dX2_fillCell_146 ?_
  refine r_ior hC dX2_fillCell_147 ?_
  obtain ⟨hi, h⟩ := inb_of h
  obtain ⟨s4, es4, h⟩ := lt_of h
  refine S_lcells hC c hc es4 hi dX2_fillCell_148 ?_
  exact r_vretS hC dX2_fillCell_149 h
def f_X2_fillCell_n129 (c : Nat) (b1 : Nat) (x2 : Int32) (σ : St) (y4 : Int32) (y5 : Int32) (y7 : Int32) (w1 : Int32) (w2 : Int32) (w3 : Int32) : Option St :=
  if y5 = y4 then
    f_X2_fillCell_n141 c b1 x2 σ y7 w1 w2 w3 (0 : Int32)
  else
  f_X2_fillCell_n141 c b1 x2 σ y7 w1 w2 w3 (4 : Int32)
set_option maxRecDepth 100000 in
set_option maxHeartbeats 4000000 in
theorem t_X2_fillCell_n129 {Γ : St → Nat → List (Nat × Value) → List Value → Prop} {l : Launch} {a : Nat → Nat} {t' : St} (hC : Cx Γ l cX2_fillCell RX2 8 none Rm_X2_fillCell wC a (none) t') (c : Nat) (b1 : Nat) (x2 : Int32) (hc : c < 2) (hb1 : b1 < 3) (σ : St) (y4 : Int32) (y5 : Int32) (y7 : Int32) (w1 : Int32) (w2 : Int32) (w3 : Int32) (h : f_X2_fillCell_n129 c b1 x2 σ y4 y5 y7 w1 w2 w3 = some t') : Γ σ 129 [(4, .int y4), (5, .int y5), (7, .int y7)] [.int w3, .int w2, .int w1, .ref (a (15 + 3 * c))] := by
  unfold f_X2_fillCell_n129 at h
  refine r_iload hC dX2_fillCell_129 1 rfl ?_
  refine r_iload hC dX2_fillCell_131 0 rfl ?_
  refine r_icmp_eq hC 140 dX2_fillCell_133 (by decide) (fun q => ?_) (fun q => ?_)
  · replace h := if_p q h
    refine r_iconst (v := 0) hC dX2_fillCell_140 (by decide) ?_
    refine r_sub hC [2] rfl ?_
    exact t_X2_fillCell_n141 hC c b1 x2 hc hb1 σ y7 w1 w2 w3 (0 : Int32) h
  · replace h := if_n q h
    refine r_iconst (v := 4) hC dX2_fillCell_136 (by decide) ?_
    refine r_goto hC 141 dX2_fillCell_137 (by decide) ?_
    refine r_sub hC [2] rfl ?_
    exact t_X2_fillCell_n141 hC c b1 x2 hc hb1 σ y7 w1 w2 w3 (4 : Int32) h
def f_X2_fillCell_n78 (c : Nat) (b1 : Nat) (x2 : Int32) (σ : St) (y3 : Int32) (y4 : Int32) (y5 : Int32) (w0 : Int32) : Option St :=
  lt_ (y3 &&& (((1 : Int32) <<< ((st_i σ (11 + 3 * c)) &&& 31)) - (1 : Int32))) fun v1 =>
  if in_b y5 64 = true then
    lt_ (put_a σ (4 + 3 * c) y5.toNatClampNeg x2) fun s2 =>
    if in_b y4 64 = true then
      if in_b y4 64 = true then
        lt_ (put_a s2 (5 + 3 * c) y4.toNatClampNeg ((st_a s2 (5 + 3 * c) y4.toNatClampNeg) ||| (1 : Int32))) fun s3 =>
        if in_b y5 64 = true then
          if w0 = 0 then
            f_X2_fillCell_n129 c b1 x2 s3 y4 y5 v1 y5 (st_a s3 (5 + 3 * c) y5.toNatClampNeg) (0 : Int32)
          else
          f_X2_fillCell_n129 c b1 x2 s3 y4 y5 v1 y5 (st_a s3 (5 + 3 * c) y5.toNatClampNeg) (2 : Int32)
        else none
      else none
    else none
  else none
set_option maxRecDepth 100000 in
set_option maxHeartbeats 4000000 in
theorem t_X2_fillCell_n78 {Γ : St → Nat → List (Nat × Value) → List Value → Prop} {l : Launch} {a : Nat → Nat} {t' : St} (hC : Cx Γ l cX2_fillCell RX2 8 none Rm_X2_fillCell wC a (none) t') (c : Nat) (b1 : Nat) (x2 : Int32) (hc : c < 2) (hb1 : b1 < 3) (σ : St) (y3 : Int32) (y4 : Int32) (y5 : Int32) (w0 : Int32) (h : f_X2_fillCell_n78 c b1 x2 σ y3 y4 y5 w0 = some t') : Γ σ 78 [(0, .ref (a (4 + c))), (2, .int x2), (3, .int y3), (4, .int y4), (5, .int y5)] [.int w0] := by
  unfold f_X2_fillCell_n78 at h
  refine r_istore (lv' := [(6, .int w0), (0, .ref (a (4 + c))), (2, .int x2), (3, .int y3), (4, .int y4), (5, .int y5)]) hC dX2_fillCell_78 (by decide) rfl rfl ?_
  refine r_iload_n hC dX2_fillCell_80 rfl 3 rfl ?_
  refine r_iconst (v := 1) hC dX2_fillCell_81 (by decide) ?_
  refine r_aload_n hC dX2_fillCell_82 rfl 1 rfl ?_
  refine G2_28 hC c hc dX2_fillCell_83 ?_
  refine r_ishl hC dX2_fillCell_86 ?_
  refine r_iconst (v := 1) hC dX2_fillCell_87 (by decide) ?_
  refine r_isub hC dX2_fillCell_88 ?_
  refine r_iand hC dX2_fillCell_89 ?_
  obtain ⟨v1, ev1, h⟩ := lt_of h
  refine r_istore (lv' := [(7, .int v1), (6, .int w0), (0, .ref (a (4 + c))), (2, .int x2), (3, .int y3), (4, .int y4), (5, .int y5)]) hC dX2_fillCell_90 (by decide) ev1 rfl ?_
  refine r_aload_n hC dX2_fillCell_92 rfl 2 rfl ?_
  refine G2_15 hC c hc dX2_fillCell_93 ?_
  refine r_iload hC dX2_fillCell_96 6 rfl ?_
  refine r_iload_n hC dX2_fillCell_98 rfl 3 rfl ?_
  obtain ⟨hi, h⟩ := inb_of h
  obtain ⟨s2, es2, h⟩ := lt_of h
  refine S_indexes hC c hc es2 hi dX2_fillCell_99 ?_
  refine r_aload_n hC dX2_fillCell_100 rfl 2 rfl ?_
  refine G2_18 hC c hc dX2_fillCell_101 ?_
  refine r_iload hC dX2_fillCell_104 5 rfl ?_
  refine r_dup2 hC dX2_fillCell_106 rfl rfl ?_
  obtain ⟨hi, h⟩ := inb_of h
  refine L_lcells hC c hc hi dX2_fillCell_107 ?_
  refine r_iconst (v := 1) hC dX2_fillCell_108 (by decide) ?_
  refine r_ior hC dX2_fillCell_109 ?_
  obtain ⟨hi, h⟩ := inb_of h
  obtain ⟨s3, es3, h⟩ := lt_of h
  refine S_lcells hC c hc es3 hi dX2_fillCell_110 ?_
  refine r_aload_n hC dX2_fillCell_111 rfl 2 rfl ?_
  refine G2_18 hC c hc dX2_fillCell_112 ?_
  refine r_iload hC dX2_fillCell_115 6 rfl ?_
  refine r_dup2 hC dX2_fillCell_117 rfl rfl ?_
  obtain ⟨hi, h⟩ := inb_of h
  refine L_lcells hC c hc hi dX2_fillCell_118 ?_
  refine r_iload hC dX2_fillCell_119 1 rfl ?_
  refine r_if_eq hC 128 dX2_fillCell_121 (by decide) (fun q => ?_) (fun q => ?_)
  · replace h := if_p q h
    refine r_iconst (v := 0) hC dX2_fillCell_128 (by decide) ?_
    refine r_sub hC [5, 6, 0] rfl ?_
    exact t_X2_fillCell_n129 hC c b1 x2 hc hb1 s3 y4 y5 v1 y5 (st_a s3 (5 + 3 * c) y5.toNatClampNeg) (0 : Int32) h
  · replace h := if_n q h
    refine r_iconst (v := 2) hC dX2_fillCell_124 (by decide) ?_
    refine r_goto hC 129 dX2_fillCell_125 (by decide) ?_
    refine r_sub hC [5, 6, 0] rfl ?_
    exact t_X2_fillCell_n129 hC c b1 x2 hc hb1 s3 y4 y5 v1 y5 (st_a s3 (5 + 3 * c) y5.toNatClampNeg) (2 : Int32) h
def f_X2_fillCell_n77 (c : Nat) (b1 : Nat) (x2 : Int32) (σ : St) (y3 : Int32) (y4 : Int32) (y5 : Int32) : Option St :=
  f_X2_fillCell_n78 c b1 x2 σ y3 y4 y5 (0 : Int32)
set_option maxRecDepth 100000 in
set_option maxHeartbeats 4000000 in
theorem t_X2_fillCell_n77 {Γ : St → Nat → List (Nat × Value) → List Value → Prop} {l : Launch} {a : Nat → Nat} {t' : St} (hC : Cx Γ l cX2_fillCell RX2 8 none Rm_X2_fillCell wC a (none) t') (c : Nat) (b1 : Nat) (x2 : Int32) (hc : c < 2) (hb1 : b1 < 3) (σ : St) (y3 : Int32) (y4 : Int32) (y5 : Int32) (h : f_X2_fillCell_n77 c b1 x2 σ y3 y4 y5 = some t') : Γ σ 77 [(0, .ref (a (4 + c))), (2, .int x2), (3, .int y3), (4, .int y4), (5, .int y5)] [] := by
  unfold f_X2_fillCell_n77 at h
  refine r_iconst (v := 0) hC dX2_fillCell_77 (by decide) ?_
  exact t_X2_fillCell_n78 hC c b1 x2 hc hb1 σ y3 y4 y5 (0 : Int32) h
def f_X2_fillCell (σ : St) (c : Nat) (b1 : Nat) (x2 : Int32) : Option St :=
  (f_X0_at σ b1 x2).bind fun v5 =>
  lt_ (v5 >>> ((st_i σ (11 + 3 * c)) &&& 31)) fun v6 =>
  (f_X2_slotOf σ c x2).bind fun v7 =>
  if v7 < 0 then
    some σ
  else
  if (64 : Int32) ≤ v7 then
    some σ
  else
  if v6 < 0 then
    some σ
  else
  if v6 < (64 : Int32) then
    if x2 ≤ 0 then
      f_X2_fillCell_n77 c b1 x2 σ v5 v6 v7
    else
    (f_X0_at σ b1 (x2 - (1 : Int32))).bind fun v8 =>
    if (v8 >>> ((st_i σ (11 + 3 * c)) &&& 31)) = v6 then
      f_X2_fillCell_n78 c b1 x2 σ v5 v6 v7 (1 : Int32)
    else
    f_X2_fillCell_n77 c b1 x2 σ v5 v6 v7
  else
  some σ
set_option maxRecDepth 100000 in
set_option maxHeartbeats 4000000 in
theorem con_X2_fillCell (l : Launch) (σ : St) (c : Nat) (b1 : Nat) (x2 : Int32) (hc : c < 2) (hb1 : b1 < 3) {t' : St} (h : f_X2_fillCell σ c b1 x2 = some t') : Con l yX2_fillCell cX2_fillCell 8 none Rm_X2_fillCell wC (fun a => [.ref (a (4 + c)), .ref (a (1 + b1)), .int x2]) σ (fun _ => none) t' := by
  refine con_of (by decide) ⟨rfl, rfl⟩ (fun _ => Nat.le_of_ble_eq_true rfl) (fun Γ a hC => ?_)
  have hC : Cx Γ l cX2_fillCell RX2 8 none Rm_X2_fillCell wC a (none) t' := hC
  show Γ σ 0 [(0, .ref (a (4 + c))), (1, .ref (a (1 + b1))), (2, .int x2)] []
  unfold f_X2_fillCell at h
  refine r_aload_n hC dX2_fillCell_0 rfl 1 rfl ?_
  refine r_iload_n hC dX2_fillCell_1 rfl 2 rfl ?_
  obtain ⟨v5, hv5, h⟩ := bind_of h
  refine r_callV (As := [.int x2]) (rest := []) hC (con_X0_at l σ b1 x2 hb1 hv5) K2_49 (ob0 a σ b1 hb1) rfl rfl rfl rfl ⟨Nat.le_of_ble_eq_true rfl, Nat.le_of_ble_eq_true rfl⟩ (Nat.le_of_ble_eq_true rfl) dX2_fillCell_2 ?_
  refine r_istore_n (lv' := [(3, .int v5), (0, .ref (a (4 + c))), (1, .ref (a (1 + b1))), (2, .int x2)]) hC dX2_fillCell_5 rfl (by decide) rfl rfl ?_
  refine r_iload_n hC dX2_fillCell_6 rfl 0 rfl ?_
  refine r_aload_n hC dX2_fillCell_7 rfl 1 rfl ?_
  refine G2_28 hC c hc dX2_fillCell_8 ?_
  refine r_ishr hC dX2_fillCell_11 ?_
  obtain ⟨v6, ev6, h⟩ := lt_of h
  refine r_istore (lv' := [(4, .int v6), (3, .int v5), (0, .ref (a (4 + c))), (1, .ref (a (1 + b1))), (2, .int x2)]) hC dX2_fillCell_12 (by decide) ev6 rfl ?_
  refine r_aload_n hC dX2_fillCell_14 rfl 2 rfl ?_
  refine r_iload_n hC dX2_fillCell_15 rfl 4 rfl ?_
  obtain ⟨v7, hv7, h⟩ := bind_of h
  refine r_callV (As := [.int x2]) (rest := []) hC (con_X2_slotOf l σ c x2 hc hv7) K2_59 (ob2 a σ c hc) rfl rfl rfl rfl ⟨Nat.le_of_ble_eq_true rfl, Nat.le_of_ble_eq_true rfl⟩ (Nat.le_of_ble_eq_true rfl) dX2_fillCell_16 ?_
  refine r_istore (lv' := [(5, .int v7), (4, .int v6), (3, .int v5), (0, .ref (a (4 + c))), (1, .ref (a (1 + b1))), (2, .int x2)]) hC dX2_fillCell_19 (by decide) rfl rfl ?_
  refine r_iload hC dX2_fillCell_21 0 rfl ?_
  refine r_if_lt hC 51 dX2_fillCell_23 (by decide) (fun q => ?_) (fun q => ?_)
  · replace h := if_p q h
    exact r_vretS hC dX2_fillCell_51 h
  · replace h := if_n q h
    refine r_iload hC dX2_fillCell_26 0 rfl ?_
    refine r_aload_n hC dX2_fillCell_28 rfl 3 rfl ?_
    refine G2_18 hC c hc dX2_fillCell_29 ?_
    refine N_lcells hC c hc dX2_fillCell_32 ?_
    refine r_icmp_ge hC 51 dX2_fillCell_33 (by decide) (fun q => ?_) (fun q => ?_)
    · replace h := if_p q h
      exact r_vretS hC dX2_fillCell_51 h
    · replace h := if_n q h
      refine r_iload hC dX2_fillCell_36 1 rfl ?_
      refine r_if_lt hC 51 dX2_fillCell_38 (by decide) (fun q => ?_) (fun q => ?_)
      · replace h := if_p q h
        exact r_vretS hC dX2_fillCell_51 h
      · replace h := if_n q h
        refine r_iload hC dX2_fillCell_41 1 rfl ?_
        refine r_aload_n hC dX2_fillCell_43 rfl 3 rfl ?_
        refine G2_18 hC c hc dX2_fillCell_44 ?_
        refine N_lcells hC c hc dX2_fillCell_47 ?_
        refine r_icmp_lt hC 52 dX2_fillCell_48 (by decide) (fun q => ?_) (fun q => ?_)
        · replace h := if_p q h
          refine r_iload_n hC dX2_fillCell_52 rfl 5 rfl ?_
          refine r_if_le hC 77 dX2_fillCell_53 (by decide) (fun q => ?_) (fun q => ?_)
          · replace h := if_p q h
            refine r_sub hC [3, 5, 2, 1, 0] rfl ?_
            exact t_X2_fillCell_n77 hC c b1 x2 hc hb1 σ v5 v6 v7 h
          · replace h := if_n q h
            refine r_aload_n hC dX2_fillCell_56 rfl 4 rfl ?_
            refine r_iload_n hC dX2_fillCell_57 rfl 5 rfl ?_
            refine r_iconst (v := 1) hC dX2_fillCell_58 (by decide) ?_
            refine r_isub hC dX2_fillCell_59 ?_
            obtain ⟨v8, hv8, h⟩ := bind_of h
            refine r_callV (As := [.int (x2 - (1 : Int32))]) (rest := []) hC (con_X0_at l σ b1 (x2 - (1 : Int32)) hb1 hv8) K2_49 (ob0 a σ b1 hb1) rfl rfl rfl rfl ⟨Nat.le_of_ble_eq_true rfl, Nat.le_of_ble_eq_true rfl⟩ (Nat.le_of_ble_eq_true rfl) dX2_fillCell_60 ?_
            refine r_aload_n hC dX2_fillCell_63 rfl 3 rfl ?_
            refine G2_28 hC c hc dX2_fillCell_64 ?_
            refine r_ishr hC dX2_fillCell_67 ?_
            refine r_iload hC dX2_fillCell_68 1 rfl ?_
            refine r_icmp_ne hC 77 dX2_fillCell_70 (by decide) (fun q => ?_) (fun q => ?_)
            · replace h := if_n q h
              refine r_sub hC [3, 5, 2, 1, 0] rfl ?_
              exact t_X2_fillCell_n77 hC c b1 x2 hc hb1 σ v5 v6 v7 h
            · replace h := if_p q h
              refine r_iconst (v := 1) hC dX2_fillCell_73 (by decide) ?_
              refine r_goto hC 78 dX2_fillCell_74 (by decide) ?_
              refine r_sub hC [3, 5, 2, 1, 0] rfl ?_
              exact t_X2_fillCell_n78 hC c b1 x2 hc hb1 σ v5 v6 v7 (1 : Int32) h
        · replace h := if_n q h
          exact r_vretS hC dX2_fillCell_51 h
abbrev Rm_X2_indexAt : Room := { frames := 0, cells := 0, slots := 0, locals := 0 }
def f_X2_indexAt (σ : St) (c : Nat) (x1 : Int32) : Option Int32 :=
  if x1 < 0 then
    some (-1 : Int32)
  else
  if (st_i σ (10 + 3 * c)) ≤ x1 then
    some (-1 : Int32)
  else
  if (64 : Int32) ≤ x1 then
    some (-1 : Int32)
  else
  if in_b x1 64 = true then
    some (st_a σ (4 + 3 * c) x1.toNatClampNeg)
  else none
set_option maxRecDepth 100000 in
set_option maxHeartbeats 4000000 in
theorem con_X2_indexAt (l : Launch) (σ : St) (c : Nat) (x1 : Int32) (hc : c < 2) {r : Int32} (h : f_X2_indexAt σ c x1 = some r) : Con l yX2_indexAt cX2_indexAt 2 (some .int) Rm_X2_indexAt wC (fun a => [.ref (a (4 + c)), .int x1]) σ (fun _ => some (.int r)) σ := by
  refine con_of (by decide) ⟨rfl, rfl⟩ (fun _ => Nat.le_of_ble_eq_true rfl) (fun Γ a hC => ?_)
  have hC : Cx Γ l cX2_indexAt RX2 2 (some .int) Rm_X2_indexAt wC a (some (.int r)) σ := hC
  show Γ σ 0 [(0, .ref (a (4 + c))), (1, .int x1)] []
  unfold f_X2_indexAt at h
  refine r_iload_n hC dX2_indexAt_0 rfl 1 rfl ?_
  refine r_if_lt hC 30 dX2_indexAt_1 (by decide) (fun q => ?_) (fun q => ?_)
  · replace h := if_p q h
    refine r_iconst (v := -1) hC dX2_indexAt_30 (by decide) ?_
    exact r_iretP hC dX2_indexAt_31 h
  · replace h := if_n q h
    refine r_iload_n hC dX2_indexAt_4 rfl 1 rfl ?_
    refine r_aload_n hC dX2_indexAt_5 rfl 0 rfl ?_
    refine G2_25 hC c hc dX2_indexAt_6 ?_
    refine r_icmp_ge hC 30 dX2_indexAt_9 (by decide) (fun q => ?_) (fun q => ?_)
    · replace h := if_p q h
      refine r_iconst (v := -1) hC dX2_indexAt_30 (by decide) ?_
      exact r_iretP hC dX2_indexAt_31 h
    · replace h := if_n q h
      refine r_iload_n hC dX2_indexAt_12 rfl 1 rfl ?_
      refine r_aload_n hC dX2_indexAt_13 rfl 0 rfl ?_
      refine G2_15 hC c hc dX2_indexAt_14 ?_
      refine N_indexes hC c hc dX2_indexAt_17 ?_
      refine r_icmp_ge hC 30 dX2_indexAt_18 (by decide) (fun q => ?_) (fun q => ?_)
      · replace h := if_p q h
        refine r_iconst (v := -1) hC dX2_indexAt_30 (by decide) ?_
        exact r_iretP hC dX2_indexAt_31 h
      · replace h := if_n q h
        refine r_aload_n hC dX2_indexAt_21 rfl 0 rfl ?_
        refine G2_15 hC c hc dX2_indexAt_22 ?_
        refine r_iload_n hC dX2_indexAt_25 rfl 1 rfl ?_
        obtain ⟨hi, h⟩ := inb_of h
        refine L_indexes hC c hc hi dX2_indexAt_26 ?_
        refine r_goto hC 31 dX2_indexAt_27 (by decide) ?_
        exact r_iretP hC dX2_indexAt_31 h
abbrev Rm_X2_gapLength : Room := { frames := 1, cells := 0, slots := 0, locals := 21 }
def f_X2_gapLength_n2_b (σ : St) (c : Nat) (x1 : Int32) (self : Int32 → Option Int32) (y2 : Int32) : Option Int32 :=
  if (st_i σ (10 + 3 * c)) ≤ y2 then
    some y2
  else
  (f_X2_indexAt σ c (f_X2_around σ c (x1 + y2))).bind fun v1 =>
  if 0 ≤ v1 then
    some y2
  else
  lt_ (y2 + (1 : Int32)) fun v2 =>
  self v2
def f_X2_gapLength_n2 (σ : St) (c : Nat) (x1 : Int32) : Nat → Int32 → Option Int32
  | 0 => fun _ => none
  | n + 1 => fun y2 => f_X2_gapLength_n2_b σ c x1  (f_X2_gapLength_n2 σ c x1  n) y2
set_option maxRecDepth 100000 in
set_option maxHeartbeats 4000000 in
theorem t_X2_gapLength_n2_b {Γ : St → Nat → List (Nat × Value) → List Value → Prop} {l : Launch} {a : Nat → Nat} {r : Int32} {σ : St} (hC : Cx Γ l cX2_gapLength RX2 3 (some .int) Rm_X2_gapLength wC a (some (.int r)) σ) (c : Nat) (x1 : Int32) (hc : c < 2) (self : Int32 → Option Int32) (hself : ∀ (y2 : Int32), self y2 = some r → Γ σ 2 [(0, .ref (a (4 + c))), (1, .int x1), (2, .int y2)] []) (y2 : Int32) (h : f_X2_gapLength_n2_b σ c x1 self y2 = some r) : Γ σ 2 [(0, .ref (a (4 + c))), (1, .int x1), (2, .int y2)] [] := by
  unfold f_X2_gapLength_n2_b at h
  refine r_iload_n hC dX2_gapLength_2 rfl 2 rfl ?_
  refine r_aload_n hC dX2_gapLength_3 rfl 0 rfl ?_
  refine G2_25 hC c hc dX2_gapLength_4 ?_
  refine r_icmp_ge hC 30 dX2_gapLength_7 (by decide) (fun q => ?_) (fun q => ?_)
  · replace h := if_p q h
    refine r_iload_n hC dX2_gapLength_30 rfl 2 rfl ?_
    exact r_iretP hC dX2_gapLength_31 h
  · replace h := if_n q h
    refine r_aload_n hC dX2_gapLength_10 rfl 0 rfl ?_
    refine r_aload_n hC dX2_gapLength_11 rfl 0 rfl ?_
    refine r_iload_n hC dX2_gapLength_12 rfl 1 rfl ?_
    refine r_iload_n hC dX2_gapLength_13 rfl 2 rfl ?_
    refine r_iadd hC dX2_gapLength_14 ?_
    refine r_callV (As := [.int (x1 + y2)]) (rest := [.ref (a (4 + c))]) hC (con_X2_around l σ c (x1 + y2) hc rfl) K2_75 (ob2 a σ c hc) rfl rfl rfl rfl ⟨Nat.le_of_ble_eq_true rfl, Nat.le_of_ble_eq_true rfl⟩ (Nat.le_of_ble_eq_true rfl) dX2_gapLength_15 ?_
    obtain ⟨v1, hv1, h⟩ := bind_of h
    refine r_callV (As := [.int (f_X2_around σ c (x1 + y2))]) (rest := []) hC (con_X2_indexAt l σ c (f_X2_around σ c (x1 + y2)) hc hv1) K2_68 (ob2 a σ c hc) rfl rfl rfl rfl ⟨Nat.le_of_ble_eq_true rfl, Nat.le_of_ble_eq_true rfl⟩ (Nat.le_of_ble_eq_true rfl) dX2_gapLength_18 ?_
    refine r_if_ge hC 30 dX2_gapLength_21 (by decide) (fun q => ?_) (fun q => ?_)
    · replace h := if_p q h
      refine r_iload_n hC dX2_gapLength_30 rfl 2 rfl ?_
      exact r_iretP hC dX2_gapLength_31 h
    · replace h := if_n q h
      obtain ⟨v2, ev2, h⟩ := lt_of h
      refine r_iinc (c1 := 1) (lv' := [(2, .int v2), (0, .ref (a (4 + c))), (1, .int x1)]) hC dX2_gapLength_24 2 rfl (by decide) (by decide) ev2 rfl ?_
      refine r_goto hC 2 dX2_gapLength_27 (by decide) ?_
      refine r_sub hC [1, 2, 0] rfl ?_
      exact hself v2 h
set_option maxRecDepth 100000 in
set_option maxHeartbeats 4000000 in
theorem t_X2_gapLength_n2 {Γ : St → Nat → List (Nat × Value) → List Value → Prop} {l : Launch} {a : Nat → Nat} {r : Int32} {σ : St} (hC : Cx Γ l cX2_gapLength RX2 3 (some .int) Rm_X2_gapLength wC a (some (.int r)) σ) (c : Nat) (x1 : Int32) (hc : c < 2) (n : Nat) : ∀ (y2 : Int32), f_X2_gapLength_n2 σ c x1 n y2 = some r → Γ σ 2 [(0, .ref (a (4 + c))), (1, .int x1), (2, .int y2)] [] := by
  induction n with
  | zero =>
    intro y2  h
    have h : (none : Option Int32) = some r := h
    cases h
  | succ n ih =>
    intro y2  h
    exact t_X2_gapLength_n2_b hC c x1 hc   (f_X2_gapLength_n2 σ c x1  n) ih y2  h
def f_X2_gapLength (σ : St) (c : Nat) (x1 : Int32) : Option Int32 :=
  f_X2_gapLength_n2 σ c x1 fuel (0 : Int32)
set_option maxRecDepth 100000 in
set_option maxHeartbeats 4000000 in
theorem con_X2_gapLength (l : Launch) (σ : St) (c : Nat) (x1 : Int32) (hc : c < 2) {r : Int32} (h : f_X2_gapLength σ c x1 = some r) : Con l yX2_gapLength cX2_gapLength 3 (some .int) Rm_X2_gapLength wC (fun a => [.ref (a (4 + c)), .int x1]) σ (fun _ => some (.int r)) σ := by
  refine con_of (by decide) ⟨rfl, rfl⟩ (fun _ => Nat.le_of_ble_eq_true rfl) (fun Γ a hC => ?_)
  have hC : Cx Γ l cX2_gapLength RX2 3 (some .int) Rm_X2_gapLength wC a (some (.int r)) σ := hC
  show Γ σ 0 [(0, .ref (a (4 + c))), (1, .int x1)] []
  unfold f_X2_gapLength at h
  refine r_iconst (v := 0) hC dX2_gapLength_0 (by decide) ?_
  refine r_istore_n (lv' := [(2, .int (0 : Int32)), (0, .ref (a (4 + c))), (1, .int x1)]) hC dX2_gapLength_1 rfl (by decide) rfl rfl ?_
  refine r_sub hC [1, 2, 0] rfl ?_
  exact t_X2_gapLength_n2 hC c x1 hc fuel (0 : Int32) h
abbrev Rm_X2_hasIndexOf : Room := { frames := 1, cells := 0, slots := 0, locals := 21 }
def f_X2_hasIndexOf_n3_b (σ : St) (c : Nat) (x1 : Int32) (x2 : Int32) (x3 : Int32) (x4 : Int32) (self : Int32 → Option Int32) (y5 : Int32) : Option Int32 :=
  if x2 ≤ y5 then
    some (0 : Int32)
  else
  (f_X2_indexAt σ c (f_X2_around σ c (x1 + y5))).bind fun v1 =>
  if v1 < x3 then
    lt_ (y5 + (1 : Int32)) fun v2 =>
    self v2
  else
  if x4 ≤ v1 then
    lt_ (y5 + (1 : Int32)) fun v3 =>
    self v3
  else
  some (1 : Int32)
def f_X2_hasIndexOf_n3 (σ : St) (c : Nat) (x1 : Int32) (x2 : Int32) (x3 : Int32) (x4 : Int32) : Nat → Int32 → Option Int32
  | 0 => fun _ => none
  | n + 1 => fun y5 => f_X2_hasIndexOf_n3_b σ c x1 x2 x3 x4  (f_X2_hasIndexOf_n3 σ c x1 x2 x3 x4  n) y5
set_option maxRecDepth 100000 in
set_option maxHeartbeats 4000000 in
theorem t_X2_hasIndexOf_n3_b {Γ : St → Nat → List (Nat × Value) → List Value → Prop} {l : Launch} {a : Nat → Nat} {r : Int32} {σ : St} (hC : Cx Γ l cX2_hasIndexOf RX2 7 (some .boolean) Rm_X2_hasIndexOf wC a (some (.int r)) σ) (c : Nat) (x1 : Int32) (x2 : Int32) (x3 : Int32) (x4 : Int32) (hc : c < 2) (self : Int32 → Option Int32) (hself : ∀ (y5 : Int32), self y5 = some r → Γ σ 3 [(0, .ref (a (4 + c))), (1, .int x1), (2, .int x2), (3, .int x3), (4, .int x4), (5, .int y5)] []) (y5 : Int32) (h : f_X2_hasIndexOf_n3_b σ c x1 x2 x3 x4 self y5 = some r) : Γ σ 3 [(0, .ref (a (4 + c))), (1, .int x1), (2, .int x2), (3, .int x3), (4, .int x4), (5, .int y5)] [] := by
  unfold f_X2_hasIndexOf_n3_b at h
  refine r_iload hC dX2_hasIndexOf_3 5 rfl ?_
  refine r_iload_n hC dX2_hasIndexOf_5 rfl 2 rfl ?_
  refine r_icmp_ge hC 44 dX2_hasIndexOf_6 (by decide) (fun q => ?_) (fun q => ?_)
  · replace h := if_p q h
    refine r_iconst (v := 0) hC dX2_hasIndexOf_44 (by decide) ?_
    exact r_zretP hC rfl dX2_hasIndexOf_45 h
  · replace h := if_n q h
    refine r_aload_n hC dX2_hasIndexOf_9 rfl 0 rfl ?_
    refine r_aload_n hC dX2_hasIndexOf_10 rfl 0 rfl ?_
    refine r_iload_n hC dX2_hasIndexOf_11 rfl 1 rfl ?_
    refine r_iload hC dX2_hasIndexOf_12 5 rfl ?_
    refine r_iadd hC dX2_hasIndexOf_14 ?_
    refine r_callV (As := [.int (x1 + y5)]) (rest := [.ref (a (4 + c))]) hC (con_X2_around l σ c (x1 + y5) hc rfl) K2_75 (ob2 a σ c hc) rfl rfl rfl rfl ⟨Nat.le_of_ble_eq_true rfl, Nat.le_of_ble_eq_true rfl⟩ (Nat.le_of_ble_eq_true rfl) dX2_hasIndexOf_15 ?_
    obtain ⟨v1, hv1, h⟩ := bind_of h
    refine r_callV (As := [.int (f_X2_around σ c (x1 + y5))]) (rest := []) hC (con_X2_indexAt l σ c (f_X2_around σ c (x1 + y5)) hc hv1) K2_68 (ob2 a σ c hc) rfl rfl rfl rfl ⟨Nat.le_of_ble_eq_true rfl, Nat.le_of_ble_eq_true rfl⟩ (Nat.le_of_ble_eq_true rfl) dX2_hasIndexOf_18 ?_
    refine r_istore (lv' := [(6, .int v1), (0, .ref (a (4 + c))), (1, .int x1), (2, .int x2), (3, .int x3), (4, .int x4), (5, .int y5)]) hC dX2_hasIndexOf_21 (by decide) rfl rfl ?_
    refine r_iload hC dX2_hasIndexOf_23 0 rfl ?_
    refine r_iload_n hC dX2_hasIndexOf_25 rfl 4 rfl ?_
    refine r_icmp_lt hC 38 dX2_hasIndexOf_26 (by decide) (fun q => ?_) (fun q => ?_)
    · replace h := if_p q h
      obtain ⟨v2, ev2, h⟩ := lt_of h
      refine r_iinc (c1 := 1) (lv' := [(5, .int v2), (6, .int v1), (0, .ref (a (4 + c))), (1, .int x1), (2, .int x2), (3, .int x3), (4, .int x4)]) hC dX2_hasIndexOf_38 6 rfl (by decide) (by decide) ev2 rfl ?_
      refine r_goto hC 3 dX2_hasIndexOf_41 (by decide) ?_
      refine r_sub hC [2, 3, 4, 5, 6, 0] rfl ?_
      exact hself v2 h
    · replace h := if_n q h
      refine r_iload hC dX2_hasIndexOf_29 0 rfl ?_
      refine r_iload hC dX2_hasIndexOf_31 5 rfl ?_
      refine r_icmp_ge hC 38 dX2_hasIndexOf_33 (by decide) (fun q => ?_) (fun q => ?_)
      · replace h := if_p q h
        obtain ⟨v3, ev3, h⟩ := lt_of h
        refine r_iinc (c1 := 1) (lv' := [(5, .int v3), (6, .int v1), (0, .ref (a (4 + c))), (1, .int x1), (2, .int x2), (3, .int x3), (4, .int x4)]) hC dX2_hasIndexOf_38 6 rfl (by decide) (by decide) ev3 rfl ?_
        refine r_goto hC 3 dX2_hasIndexOf_41 (by decide) ?_
        refine r_sub hC [2, 3, 4, 5, 6, 0] rfl ?_
        exact hself v3 h
      · replace h := if_n q h
        refine r_iconst (v := 1) hC dX2_hasIndexOf_36 (by decide) ?_
        exact r_zretP hC rfl dX2_hasIndexOf_37 h
set_option maxRecDepth 100000 in
set_option maxHeartbeats 4000000 in
theorem t_X2_hasIndexOf_n3 {Γ : St → Nat → List (Nat × Value) → List Value → Prop} {l : Launch} {a : Nat → Nat} {r : Int32} {σ : St} (hC : Cx Γ l cX2_hasIndexOf RX2 7 (some .boolean) Rm_X2_hasIndexOf wC a (some (.int r)) σ) (c : Nat) (x1 : Int32) (x2 : Int32) (x3 : Int32) (x4 : Int32) (hc : c < 2) (n : Nat) : ∀ (y5 : Int32), f_X2_hasIndexOf_n3 σ c x1 x2 x3 x4 n y5 = some r → Γ σ 3 [(0, .ref (a (4 + c))), (1, .int x1), (2, .int x2), (3, .int x3), (4, .int x4), (5, .int y5)] [] := by
  induction n with
  | zero =>
    intro y5  h
    have h : (none : Option Int32) = some r := h
    cases h
  | succ n ih =>
    intro y5  h
    exact t_X2_hasIndexOf_n3_b hC c x1 x2 x3 x4 hc   (f_X2_hasIndexOf_n3 σ c x1 x2 x3 x4  n) ih y5  h
def f_X2_hasIndexOf (σ : St) (c : Nat) (x1 : Int32) (x2 : Int32) (x3 : Int32) (x4 : Int32) : Option Int32 :=
  f_X2_hasIndexOf_n3 σ c x1 x2 x3 x4 fuel (0 : Int32)
set_option maxRecDepth 100000 in
set_option maxHeartbeats 4000000 in
theorem con_X2_hasIndexOf (l : Launch) (σ : St) (c : Nat) (x1 : Int32) (x2 : Int32) (x3 : Int32) (x4 : Int32) (hc : c < 2) {r : Int32} (h : f_X2_hasIndexOf σ c x1 x2 x3 x4 = some r) : Con l yX2_hasIndexOf cX2_hasIndexOf 7 (some .boolean) Rm_X2_hasIndexOf wC (fun a => [.ref (a (4 + c)), .int x1, .int x2, .int x3, .int x4]) σ (fun _ => some (.int r)) σ := by
  refine con_of (by decide) ⟨rfl, rfl⟩ (fun _ => Nat.le_of_ble_eq_true rfl) (fun Γ a hC => ?_)
  have hC : Cx Γ l cX2_hasIndexOf RX2 7 (some .boolean) Rm_X2_hasIndexOf wC a (some (.int r)) σ := hC
  show Γ σ 0 [(0, .ref (a (4 + c))), (1, .int x1), (2, .int x2), (3, .int x3), (4, .int x4)] []
  unfold f_X2_hasIndexOf at h
  refine r_iconst (v := 0) hC dX2_hasIndexOf_0 (by decide) ?_
  refine r_istore (lv' := [(5, .int (0 : Int32)), (0, .ref (a (4 + c))), (1, .int x1), (2, .int x2), (3, .int x3), (4, .int x4)]) hC dX2_hasIndexOf_1 (by decide) rfl rfl ?_
  refine r_sub hC [1, 2, 3, 4, 5, 0] rfl ?_
  exact t_X2_hasIndexOf_n3 hC c x1 x2 x3 x4 hc fuel (0 : Int32) h
abbrev Rm_X2_placeAll : Room := { frames := 1, cells := 0, slots := 0, locals := 21 }
def f_X2_placeAll_n68 (c : Nat) (b1 : Nat) (x2 : Int32) (σ : St) (y3 : Int32) : Option (Int32 × St) :=
  some ((if (0 : Int32) < (y3 - (st_i σ (10 + 3 * c))) then (y3 - (st_i σ (10 + 3 * c))) else (0 : Int32)), σ)
set_option maxRecDepth 100000 in
set_option maxHeartbeats 4000000 in
theorem t_X2_placeAll_n68 {Γ : St → Nat → List (Nat × Value) → List Value → Prop} {l : Launch} {a : Nat → Nat} {r : Int32} {t' : St} (hC : Cx Γ l cX2_placeAll RX2 6 (some .int) Rm_X2_placeAll wC a (some (.int r)) t') (c : Nat) (b1 : Nat) (x2 : Int32) (hc : c < 2) (hb1 : b1 < 3) (σ : St) (y3 : Int32) (h : f_X2_placeAll_n68 c b1 x2 σ y3 = some (r, t')) : Γ σ 68 [(0, .ref (a (4 + c))), (3, .int y3)] [] := by
  unfold f_X2_placeAll_n68 at h
  refine r_iconst (v := 0) hC dX2_placeAll_68 (by decide) ?_
  refine r_iload_n hC dX2_placeAll_69 rfl 1 rfl ?_
  refine r_aload_n hC dX2_placeAll_70 rfl 0 rfl ?_
  refine G2_25 hC c hc dX2_placeAll_71 ?_
  refine r_isub hC dX2_placeAll_74 ?_
  refine r_mmax hC dX2_placeAll_75 K2_53 ⟨Nat.le_of_ble_eq_true rfl, Nat.le_of_ble_eq_true rfl⟩ ?_
  exact r_iretS hC dX2_placeAll_78 h
def f_X2_placeAll_n5_b (c : Nat) (b1 : Nat) (x2 : Int32) (self : St → Int32 → Int32 → Option (Int32 × St)) (σ : St) (y3 : Int32) (y4 : Int32) : Option (Int32 × St) :=
  if (st_i σ (3 + 2 * b1)) ≤ y4 then
    f_X2_placeAll_n68 c b1 x2 σ y3
  else
  if (64 : Int32) ≤ y4 then
    f_X2_placeAll_n68 c b1 x2 σ y3
  else
  (f_X0_at σ b1 y4).bind fun v1 =>
  lt_ (if (v1 >>> ((st_i σ (11 + 3 * c)) &&& 31)) < y3 then y3 else (v1 >>> ((st_i σ (11 + 3 * c)) &&& 31))) fun v2 =>
  if in_b y4 64 = true then
    lt_ (put_a σ (3 + 3 * c) y4.toNatClampNeg (v2 &&& ((st_i σ (10 + 3 * c)) - (1 : Int32)))) fun s3 =>
    lt_ (v2 + (1 : Int32)) fun v4 =>
    lt_ (y4 + (1 : Int32)) fun v5 =>
    self s3 v4 v5
  else none
def f_X2_placeAll_n5 (c : Nat) (b1 : Nat) (x2 : Int32) : Nat → St → Int32 → Int32 → Option (Int32 × St)
  | 0 => fun _ _ _ => none
  | n + 1 => fun σ y3 y4 => f_X2_placeAll_n5_b c b1 x2  (f_X2_placeAll_n5 c b1 x2  n) σ y3 y4
set_option maxRecDepth 100000 in
set_option maxHeartbeats 4000000 in
theorem t_X2_placeAll_n5_b {Γ : St → Nat → List (Nat × Value) → List Value → Prop} {l : Launch} {a : Nat → Nat} {r : Int32} {t' : St} (hC : Cx Γ l cX2_placeAll RX2 6 (some .int) Rm_X2_placeAll wC a (some (.int r)) t') (c : Nat) (b1 : Nat) (x2 : Int32) (hc : c < 2) (hb1 : b1 < 3) (self : St → Int32 → Int32 → Option (Int32 × St)) (hself : ∀ (σ : St) (y3 : Int32) (y4 : Int32), self σ y3 y4 = some (r, t') → Γ σ 5 [(0, .ref (a (4 + c))), (1, .ref (a (1 + b1))), (3, .int y3), (4, .int y4)] []) (σ : St) (y3 : Int32) (y4 : Int32) (h : f_X2_placeAll_n5_b c b1 x2 self σ y3 y4 = some (r, t')) : Γ σ 5 [(0, .ref (a (4 + c))), (1, .ref (a (1 + b1))), (3, .int y3), (4, .int y4)] [] := by
  unfold f_X2_placeAll_n5_b at h
  refine r_iload hC dX2_placeAll_5 3 rfl ?_
  refine r_aload_n hC dX2_placeAll_7 rfl 1 rfl ?_
  refine G2_42 hC b1 hb1 dX2_placeAll_8 ?_
  refine r_icmp_ge hC 68 dX2_placeAll_11 (by decide) (fun q => ?_) (fun q => ?_)
  · replace h := if_p q h
    refine r_sub hC [0, 2] rfl ?_
    exact t_X2_placeAll_n68 hC c b1 x2 hc hb1 σ y3 h
  · replace h := if_n q h
    refine r_iload hC dX2_placeAll_14 3 rfl ?_
    refine r_aload_n hC dX2_placeAll_16 rfl 0 rfl ?_
    refine G2_9 hC c hc dX2_placeAll_17 ?_
    refine N_places hC c hc dX2_placeAll_20 ?_
    refine r_icmp_ge hC 68 dX2_placeAll_21 (by decide) (fun q => ?_) (fun q => ?_)
    · replace h := if_p q h
      refine r_sub hC [0, 2] rfl ?_
      exact t_X2_placeAll_n68 hC c b1 x2 hc hb1 σ y3 h
    · replace h := if_n q h
      refine r_aload_n hC dX2_placeAll_24 rfl 1 rfl ?_
      refine r_iload hC dX2_placeAll_25 3 rfl ?_
      obtain ⟨v1, hv1, h⟩ := bind_of h
      refine r_callV (As := [.int y4]) (rest := []) hC (con_X0_at l σ b1 y4 hb1 hv1) K2_49 (ob0 a σ b1 hb1) rfl rfl rfl rfl ⟨Nat.le_of_ble_eq_true rfl, Nat.le_of_ble_eq_true rfl⟩ (Nat.le_of_ble_eq_true rfl) dX2_placeAll_27 ?_
      refine r_aload_n hC dX2_placeAll_30 rfl 0 rfl ?_
      refine G2_28 hC c hc dX2_placeAll_31 ?_
      refine r_ishr hC dX2_placeAll_34 ?_
      refine r_iload_n hC dX2_placeAll_35 rfl 2 rfl ?_
      refine r_mmax hC dX2_placeAll_36 K2_53 ⟨Nat.le_of_ble_eq_true rfl, Nat.le_of_ble_eq_true rfl⟩ ?_
      obtain ⟨v2, ev2, h⟩ := lt_of h
      refine r_istore (lv' := [(5, .int v2), (0, .ref (a (4 + c))), (1, .ref (a (1 + b1))), (3, .int y3), (4, .int y4)]) hC dX2_placeAll_39 (by decide) ev2 rfl ?_
      refine r_aload_n hC dX2_placeAll_41 rfl 1 rfl ?_
      refine G2_9 hC c hc dX2_placeAll_42 ?_
      refine r_iload hC dX2_placeAll_45 4 rfl ?_
      refine r_iload hC dX2_placeAll_47 0 rfl ?_
      refine r_aload_n hC dX2_placeAll_49 rfl 1 rfl ?_
      refine G2_25 hC c hc dX2_placeAll_50 ?_
      refine r_iconst (v := 1) hC dX2_placeAll_53 (by decide) ?_
      refine r_isub hC dX2_placeAll_54 ?_
      refine r_iand hC dX2_placeAll_55 ?_
      obtain ⟨hi, h⟩ := inb_of h
      obtain ⟨s3, es3, h⟩ := lt_of h
      refine S_places hC c hc es3 hi dX2_placeAll_56 ?_
      refine r_iload hC dX2_placeAll_57 0 rfl ?_
      refine r_iconst (v := 1) hC dX2_placeAll_59 (by decide) ?_
      refine r_iadd hC dX2_placeAll_60 ?_
      obtain ⟨v4, ev4, h⟩ := lt_of h
      refine r_istore_n (lv' := [(3, .int v4), (5, .int v2), (0, .ref (a (4 + c))), (1, .ref (a (1 + b1))), (4, .int y4)]) hC dX2_placeAll_61 rfl (by decide) ev4 rfl ?_
      obtain ⟨v5, ev5, h⟩ := lt_of h
      refine r_iinc (c1 := 1) (lv' := [(4, .int v5), (3, .int v4), (5, .int v2), (0, .ref (a (4 + c))), (1, .ref (a (1 + b1)))]) hC dX2_placeAll_62 4 rfl (by decide) (by decide) ev5 rfl ?_
      refine r_goto hC 5 dX2_placeAll_65 (by decide) ?_
      refine r_sub hC [3, 4, 1, 0] rfl ?_
      exact hself s3 v4 v5 h
set_option maxRecDepth 100000 in
set_option maxHeartbeats 4000000 in
theorem t_X2_placeAll_n5 {Γ : St → Nat → List (Nat × Value) → List Value → Prop} {l : Launch} {a : Nat → Nat} {r : Int32} {t' : St} (hC : Cx Γ l cX2_placeAll RX2 6 (some .int) Rm_X2_placeAll wC a (some (.int r)) t') (c : Nat) (b1 : Nat) (x2 : Int32) (hc : c < 2) (hb1 : b1 < 3) (n : Nat) : ∀ (σ : St) (y3 : Int32) (y4 : Int32), f_X2_placeAll_n5 c b1 x2 n σ y3 y4 = some (r, t') → Γ σ 5 [(0, .ref (a (4 + c))), (1, .ref (a (1 + b1))), (3, .int y3), (4, .int y4)] [] := by
  induction n with
  | zero =>
    intro σ y3 y4  h
    have h : (none : Option (Int32 × St)) = some (r, t') := h
    cases h
  | succ n ih =>
    intro σ y3 y4  h
    exact t_X2_placeAll_n5_b hC c b1 x2 hc hb1   (f_X2_placeAll_n5 c b1 x2  n) ih σ y3 y4  h
def f_X2_placeAll (σ : St) (c : Nat) (b1 : Nat) (x2 : Int32) : Option (Int32 × St) :=
  f_X2_placeAll_n5 c b1 x2 fuel σ x2 (0 : Int32)
set_option maxRecDepth 100000 in
set_option maxHeartbeats 4000000 in
theorem con_X2_placeAll (l : Launch) (σ : St) (c : Nat) (b1 : Nat) (x2 : Int32) (hc : c < 2) (hb1 : b1 < 3) {r : Int32} {t' : St} (h : f_X2_placeAll σ c b1 x2 = some (r, t')) : Con l yX2_placeAll cX2_placeAll 6 (some .int) Rm_X2_placeAll wC (fun a => [.ref (a (4 + c)), .ref (a (1 + b1)), .int x2]) σ (fun _ => some (.int r)) t' := by
  refine con_of (by decide) ⟨rfl, rfl⟩ (fun _ => Nat.le_of_ble_eq_true rfl) (fun Γ a hC => ?_)
  have hC : Cx Γ l cX2_placeAll RX2 6 (some .int) Rm_X2_placeAll wC a (some (.int r)) t' := hC
  show Γ σ 0 [(0, .ref (a (4 + c))), (1, .ref (a (1 + b1))), (2, .int x2)] []
  unfold f_X2_placeAll at h
  refine r_iload_n hC dX2_placeAll_0 rfl 2 rfl ?_
  refine r_istore_n (lv' := [(3, .int x2), (0, .ref (a (4 + c))), (1, .ref (a (1 + b1))), (2, .int x2)]) hC dX2_placeAll_1 rfl (by decide) rfl rfl ?_
  refine r_iconst (v := 0) hC dX2_placeAll_2 (by decide) ?_
  refine r_istore (lv' := [(4, .int (0 : Int32)), (3, .int x2), (0, .ref (a (4 + c))), (1, .ref (a (1 + b1))), (2, .int x2)]) hC dX2_placeAll_3 (by decide) rfl rfl ?_
  refine r_sub hC [2, 3, 1, 0] rfl ?_
  exact t_X2_placeAll_n5 hC c b1 x2 hc hb1 fuel σ x2 (0 : Int32) h
abbrev Rm_X2_lay : Room := { frames := 2, cells := 0, slots := 0, locals := 48 }
def f_X2_lay_n87_b (c : Nat) (b1 : Nat) (x2 : Int32) (self : St → Int32 → Option St) (σ : St) (y4 : Int32) : Option St :=
  if (st_i σ (3 + 2 * b1)) ≤ y4 then
    some σ
  else
  (f_X2_fillCell σ c b1 y4).bind fun s4 =>
  lt_ (y4 + (1 : Int32)) fun v5 =>
  self s4 v5
def f_X2_lay_n87 (c : Nat) (b1 : Nat) (x2 : Int32) : Nat → St → Int32 → Option St
  | 0 => fun _ _ => none
  | n + 1 => fun σ y4 => f_X2_lay_n87_b c b1 x2  (f_X2_lay_n87 c b1 x2  n) σ y4
set_option maxRecDepth 100000 in
set_option maxHeartbeats 4000000 in
theorem t_X2_lay_n87_b {Γ : St → Nat → List (Nat × Value) → List Value → Prop} {l : Launch} {a : Nat → Nat} {t' : St} (hC : Cx Γ l cX2_lay RX2 5 none Rm_X2_lay wC a (none) t') (c : Nat) (b1 : Nat) (x2 : Int32) (hc : c < 2) (hb1 : b1 < 3) (self : St → Int32 → Option St) (hself : ∀ (σ : St) (y4 : Int32), self σ y4 = some t' → Γ σ 87 [(0, .ref (a (4 + c))), (1, .ref (a (1 + b1))), (4, .int y4)] []) (σ : St) (y4 : Int32) (h : f_X2_lay_n87_b c b1 x2 self σ y4 = some t') : Γ σ 87 [(0, .ref (a (4 + c))), (1, .ref (a (1 + b1))), (4, .int y4)] [] := by
  unfold f_X2_lay_n87_b at h
  refine r_iload hC dX2_lay_87 2 rfl ?_
  refine r_aload_n hC dX2_lay_89 rfl 1 rfl ?_
  refine G2_42 hC b1 hb1 dX2_lay_90 ?_
  refine r_icmp_ge hC 109 dX2_lay_93 (by decide) (fun q => ?_) (fun q => ?_)
  · replace h := if_p q h
    exact r_vretS hC dX2_lay_109 h
  · replace h := if_n q h
    refine r_aload_n hC dX2_lay_96 rfl 0 rfl ?_
    refine r_aload_n hC dX2_lay_97 rfl 1 rfl ?_
    refine r_iload hC dX2_lay_98 2 rfl ?_
    obtain ⟨s4, hs4, h⟩ := bind_of h
    refine r_callV (As := [.ref (a (1 + b1)), .int y4]) (rest := []) hC (con_X2_fillCell l σ c b1 y4 hc hb1 hs4) K2_45 (ob2 a σ c hc) rfl rfl rfl rfl ⟨Nat.le_of_ble_eq_true rfl, Nat.le_of_ble_eq_true rfl⟩ (Nat.le_of_ble_eq_true rfl) dX2_lay_100 ?_
    obtain ⟨v5, ev5, h⟩ := lt_of h
    refine r_iinc (c1 := 1) (lv' := [(4, .int v5), (0, .ref (a (4 + c))), (1, .ref (a (1 + b1)))]) hC dX2_lay_103 2 rfl (by decide) (by decide) ev5 rfl ?_
    refine r_goto hC 87 dX2_lay_106 (by decide) ?_
    refine r_sub hC [1, 2, 0] rfl ?_
    exact hself s4 v5 h
set_option maxRecDepth 100000 in
set_option maxHeartbeats 4000000 in
theorem t_X2_lay_n87 {Γ : St → Nat → List (Nat × Value) → List Value → Prop} {l : Launch} {a : Nat → Nat} {t' : St} (hC : Cx Γ l cX2_lay RX2 5 none Rm_X2_lay wC a (none) t') (c : Nat) (b1 : Nat) (x2 : Int32) (hc : c < 2) (hb1 : b1 < 3) (n : Nat) : ∀ (σ : St) (y4 : Int32), f_X2_lay_n87 c b1 x2 n σ y4 = some t' → Γ σ 87 [(0, .ref (a (4 + c))), (1, .ref (a (1 + b1))), (4, .int y4)] [] := by
  induction n with
  | zero =>
    intro σ y4  h
    have h : (none : Option St) = some t' := h
    cases h
  | succ n ih =>
    intro σ y4  h
    exact t_X2_lay_n87_b hC c b1 x2 hc hb1   (f_X2_lay_n87 c b1 x2  n) ih σ y4  h
def f_X2_lay_n43_b (c : Nat) (b1 : Nat) (x2 : Int32) (self : St → Int32 → Option St) (σ : St) (y4 : Int32) : Option St :=
  if (st_i σ (10 + 3 * c)) ≤ y4 then
    f_X2_lay_n87 c b1 x2 fuel σ (0 : Int32)
  else
  if (64 : Int32) ≤ y4 then
    f_X2_lay_n87 c b1 x2 fuel σ (0 : Int32)
  else
  if in_b y4 64 = true then
    lt_ (put_a σ (4 + 3 * c) y4.toNatClampNeg (-1 : Int32)) fun s1 =>
    if in_b y4 64 = true then
      lt_ (put_a s1 (5 + 3 * c) y4.toNatClampNeg (0 : Int32)) fun s2 =>
      lt_ (y4 + (1 : Int32)) fun v3 =>
      self s2 v3
    else none
  else none
def f_X2_lay_n43 (c : Nat) (b1 : Nat) (x2 : Int32) : Nat → St → Int32 → Option St
  | 0 => fun _ _ => none
  | n + 1 => fun σ y4 => f_X2_lay_n43_b c b1 x2  (f_X2_lay_n43 c b1 x2  n) σ y4
set_option maxRecDepth 100000 in
set_option maxHeartbeats 4000000 in
theorem t_X2_lay_n43_b {Γ : St → Nat → List (Nat × Value) → List Value → Prop} {l : Launch} {a : Nat → Nat} {t' : St} (hC : Cx Γ l cX2_lay RX2 5 none Rm_X2_lay wC a (none) t') (c : Nat) (b1 : Nat) (x2 : Int32) (hc : c < 2) (hb1 : b1 < 3) (self : St → Int32 → Option St) (hself : ∀ (σ : St) (y4 : Int32), self σ y4 = some t' → Γ σ 43 [(0, .ref (a (4 + c))), (1, .ref (a (1 + b1))), (4, .int y4)] []) (σ : St) (y4 : Int32) (h : f_X2_lay_n43_b c b1 x2 self σ y4 = some t') : Γ σ 43 [(0, .ref (a (4 + c))), (1, .ref (a (1 + b1))), (4, .int y4)] [] := by
  unfold f_X2_lay_n43_b at h
  refine r_iload hC dX2_lay_43 2 rfl ?_
  refine r_aload_n hC dX2_lay_45 rfl 0 rfl ?_
  refine G2_25 hC c hc dX2_lay_46 ?_
  refine r_icmp_ge hC 84 dX2_lay_49 (by decide) (fun q => ?_) (fun q => ?_)
  · replace h := if_p q h
    refine r_iconst (v := 0) hC dX2_lay_84 (by decide) ?_
    refine r_istore (lv' := [(4, .int (0 : Int32)), (0, .ref (a (4 + c))), (1, .ref (a (1 + b1)))]) hC dX2_lay_85 (by decide) rfl rfl ?_
    refine r_sub hC [1, 2, 0] rfl ?_
    exact t_X2_lay_n87 hC c b1 x2 hc hb1 fuel σ (0 : Int32) h
  · replace h := if_n q h
    refine r_iload hC dX2_lay_52 2 rfl ?_
    refine r_aload_n hC dX2_lay_54 rfl 0 rfl ?_
    refine G2_18 hC c hc dX2_lay_55 ?_
    refine N_lcells hC c hc dX2_lay_58 ?_
    refine r_icmp_ge hC 84 dX2_lay_59 (by decide) (fun q => ?_) (fun q => ?_)
    · replace h := if_p q h
      refine r_iconst (v := 0) hC dX2_lay_84 (by decide) ?_
      refine r_istore (lv' := [(4, .int (0 : Int32)), (0, .ref (a (4 + c))), (1, .ref (a (1 + b1)))]) hC dX2_lay_85 (by decide) rfl rfl ?_
      refine r_sub hC [1, 2, 0] rfl ?_
      exact t_X2_lay_n87 hC c b1 x2 hc hb1 fuel σ (0 : Int32) h
    · replace h := if_n q h
      refine r_aload_n hC dX2_lay_62 rfl 0 rfl ?_
      refine G2_15 hC c hc dX2_lay_63 ?_
      refine r_iload hC dX2_lay_66 2 rfl ?_
      refine r_iconst (v := -1) hC dX2_lay_68 (by decide) ?_
      obtain ⟨hi, h⟩ := inb_of h
      obtain ⟨s1, es1, h⟩ := lt_of h
      refine S_indexes hC c hc es1 hi dX2_lay_69 ?_
      refine r_aload_n hC dX2_lay_70 rfl 0 rfl ?_
      refine G2_18 hC c hc dX2_lay_71 ?_
      refine r_iload hC dX2_lay_74 2 rfl ?_
      refine r_iconst (v := 0) hC dX2_lay_76 (by decide) ?_
      obtain ⟨hi, h⟩ := inb_of h
      obtain ⟨s2, es2, h⟩ := lt_of h
      refine S_lcells hC c hc es2 hi dX2_lay_77 ?_
      obtain ⟨v3, ev3, h⟩ := lt_of h
      refine r_iinc (c1 := 1) (lv' := [(4, .int v3), (0, .ref (a (4 + c))), (1, .ref (a (1 + b1)))]) hC dX2_lay_78 2 rfl (by decide) (by decide) ev3 rfl ?_
      refine r_goto hC 43 dX2_lay_81 (by decide) ?_
      refine r_sub hC [1, 2, 0] rfl ?_
      exact hself s2 v3 h
set_option maxRecDepth 100000 in
set_option maxHeartbeats 4000000 in
theorem t_X2_lay_n43 {Γ : St → Nat → List (Nat × Value) → List Value → Prop} {l : Launch} {a : Nat → Nat} {t' : St} (hC : Cx Γ l cX2_lay RX2 5 none Rm_X2_lay wC a (none) t') (c : Nat) (b1 : Nat) (x2 : Int32) (hc : c < 2) (hb1 : b1 < 3) (n : Nat) : ∀ (σ : St) (y4 : Int32), f_X2_lay_n43 c b1 x2 n σ y4 = some t' → Γ σ 43 [(0, .ref (a (4 + c))), (1, .ref (a (1 + b1))), (4, .int y4)] [] := by
  induction n with
  | zero =>
    intro σ y4  h
    have h : (none : Option St) = some t' := h
    cases h
  | succ n ih =>
    intro σ y4  h
    exact t_X2_lay_n43_b hC c b1 x2 hc hb1   (f_X2_lay_n43 c b1 x2  n) ih σ y4  h
def f_X2_lay (σ : St) (c : Nat) (b1 : Nat) (x2 : Int32) : Option St :=
  lt_ (put_i σ (9 + 3 * c) (st_i σ (4 + 2 * b1))) fun s6 =>
  lt_ (put_i s6 (10 + 3 * c) (f_X0_slotCount s6 b1)) fun s7 =>
  lt_ (put_i s7 (11 + 3 * c) (x2 - (st_i s7 (4 + 2 * b1)))) fun s8 =>
  bind2 (f_X2_placeAll s8 c b1 (0 : Int32)) fun v10 s9 =>
  bind2 (f_X2_placeAll s9 c b1 v10) fun v12 s11 =>
  f_X2_lay_n43 c b1 x2 fuel s11 (0 : Int32)
set_option maxRecDepth 100000 in
set_option maxHeartbeats 4000000 in
theorem con_X2_lay (l : Launch) (σ : St) (c : Nat) (b1 : Nat) (x2 : Int32) (hc : c < 2) (hb1 : b1 < 3) {t' : St} (h : f_X2_lay σ c b1 x2 = some t') : Con l yX2_lay cX2_lay 5 none Rm_X2_lay wC (fun a => [.ref (a (4 + c)), .ref (a (1 + b1)), .int x2]) σ (fun _ => none) t' := by
  refine con_of (by decide) ⟨rfl, rfl⟩ (fun _ => Nat.le_of_ble_eq_true rfl) (fun Γ a hC => ?_)
  have hC : Cx Γ l cX2_lay RX2 5 none Rm_X2_lay wC a (none) t' := hC
  show Γ σ 0 [(0, .ref (a (4 + c))), (1, .ref (a (1 + b1))), (2, .int x2)] []
  unfold f_X2_lay at h
  refine r_aload_n hC dX2_lay_0 rfl 0 rfl ?_
  refine r_aload_n hC dX2_lay_1 rfl 1 rfl ?_
  refine G2_31 hC b1 hb1 dX2_lay_2 ?_
  obtain ⟨s6, es6, h⟩ := lt_of h
  refine P2_21 hC c hc es6 dX2_lay_5 ?_
  refine r_aload_n hC dX2_lay_8 rfl 0 rfl ?_
  refine r_aload_n hC dX2_lay_9 rfl 1 rfl ?_
  refine r_callV (As := []) (rest := [.ref (a (4 + c))]) hC (con_X0_slotCount l s6 b1 hb1 rfl) K2_34 (ob0 a s6 b1 hb1) rfl rfl rfl rfl ⟨Nat.le_of_ble_eq_true rfl, Nat.le_of_ble_eq_true rfl⟩ (Nat.le_of_ble_eq_true rfl) dX2_lay_10 ?_
  obtain ⟨s7, es7, h⟩ := lt_of h
  refine P2_25 hC c hc es7 dX2_lay_13 ?_
  refine r_aload_n hC dX2_lay_16 rfl 0 rfl ?_
  refine r_iload_n hC dX2_lay_17 rfl 2 rfl ?_
  refine r_aload_n hC dX2_lay_18 rfl 1 rfl ?_
  refine G2_31 hC b1 hb1 dX2_lay_19 ?_
  refine r_isub hC dX2_lay_22 ?_
  obtain ⟨s8, es8, h⟩ := lt_of h
  refine P2_28 hC c hc es8 dX2_lay_23 ?_
  refine r_aload_n hC dX2_lay_26 rfl 0 rfl ?_
  refine r_aload_n hC dX2_lay_27 rfl 1 rfl ?_
  refine r_iconst (v := 0) hC dX2_lay_28 (by decide) ?_
  obtain ⟨v10, s9, hs9, h⟩ := bind2_of h
  refine r_callV (As := [.ref (a (1 + b1)), .int (0 : Int32)]) (rest := []) hC (con_X2_placeAll l s8 c b1 (0 : Int32) hc hb1 hs9) K2_38 (ob2 a s8 c hc) rfl rfl rfl rfl ⟨Nat.le_of_ble_eq_true rfl, Nat.le_of_ble_eq_true rfl⟩ (Nat.le_of_ble_eq_true rfl) dX2_lay_29 ?_
  refine r_istore_n (lv' := [(3, .int v10), (0, .ref (a (4 + c))), (1, .ref (a (1 + b1))), (2, .int x2)]) hC dX2_lay_32 rfl (by decide) rfl rfl ?_
  refine r_aload_n hC dX2_lay_33 rfl 1 rfl ?_
  refine r_aload_n hC dX2_lay_34 rfl 2 rfl ?_
  refine r_iload_n hC dX2_lay_35 rfl 0 rfl ?_
  obtain ⟨v12, s11, hs11, h⟩ := bind2_of h
  refine r_callV (As := [.ref (a (1 + b1)), .int v10]) (rest := []) hC (con_X2_placeAll l s9 c b1 v10 hc hb1 hs11) K2_38 (ob2 a s9 c hc) rfl rfl rfl rfl ⟨Nat.le_of_ble_eq_true rfl, Nat.le_of_ble_eq_true rfl⟩ (Nat.le_of_ble_eq_true rfl) dX2_lay_36 ?_
  refine r_pop hC dX2_lay_39 rfl ?_
  refine r_iconst (v := 0) hC dX2_lay_40 (by decide) ?_
  refine r_istore (lv' := [(4, .int (0 : Int32)), (3, .int v10), (0, .ref (a (4 + c))), (1, .ref (a (1 + b1))), (2, .int x2)]) hC dX2_lay_41 (by decide) rfl rfl ?_
  refine r_sub hC [2, 3, 0] rfl ?_
  exact t_X2_lay_n43 hC c b1 x2 hc hb1 fuel s11 (0 : Int32) h
abbrev Rm_X2_runsIn : Room := { frames := 2, cells := 0, slots := 0, locals := 43 }
def f_X2_runsIn_n5_b (σ : St) (c : Nat) (x1 : Int32) (x2 : Int32) (self : Int32 → Int32 → Option Int32) (y3 : Int32) (y4 : Int32) : Option Int32 :=
  if x2 ≤ y4 then
    some y3
  else
  (f_X2_isMarked σ c (f_X2_around σ c (x1 + y4)) (2 : Int32)).bind fun v1 =>
  if v1 = 0 then
    lt_ (y3 + (1 : Int32)) fun v3 =>
    lt_ (y4 + (1 : Int32)) fun v4 =>
    self v3 v4
  else
  lt_ (y4 + (1 : Int32)) fun v2 =>
  self y3 v2
def f_X2_runsIn_n5 (σ : St) (c : Nat) (x1 : Int32) (x2 : Int32) : Nat → Int32 → Int32 → Option Int32
  | 0 => fun _ _ => none
  | n + 1 => fun y3 y4 => f_X2_runsIn_n5_b σ c x1 x2  (f_X2_runsIn_n5 σ c x1 x2  n) y3 y4
set_option maxRecDepth 100000 in
set_option maxHeartbeats 4000000 in
theorem t_X2_runsIn_n5_b {Γ : St → Nat → List (Nat × Value) → List Value → Prop} {l : Launch} {a : Nat → Nat} {r : Int32} {σ : St} (hC : Cx Γ l cX2_runsIn RX2 5 (some .int) Rm_X2_runsIn wC a (some (.int r)) σ) (c : Nat) (x1 : Int32) (x2 : Int32) (hc : c < 2) (self : Int32 → Int32 → Option Int32) (hself : ∀ (y3 : Int32) (y4 : Int32), self y3 y4 = some r → Γ σ 5 [(0, .ref (a (4 + c))), (1, .int x1), (2, .int x2), (3, .int y3), (4, .int y4)] []) (y3 : Int32) (y4 : Int32) (h : f_X2_runsIn_n5_b σ c x1 x2 self y3 y4 = some r) : Γ σ 5 [(0, .ref (a (4 + c))), (1, .int x1), (2, .int x2), (3, .int y3), (4, .int y4)] [] := by
  unfold f_X2_runsIn_n5_b at h
  refine r_iload hC dX2_runsIn_5 4 rfl ?_
  refine r_iload_n hC dX2_runsIn_7 rfl 2 rfl ?_
  refine r_icmp_ge hC 36 dX2_runsIn_8 (by decide) (fun q => ?_) (fun q => ?_)
  · replace h := if_p q h
    refine r_iload_n hC dX2_runsIn_36 rfl 3 rfl ?_
    exact r_iretP hC dX2_runsIn_37 h
  · replace h := if_n q h
    refine r_aload_n hC dX2_runsIn_11 rfl 0 rfl ?_
    refine r_aload_n hC dX2_runsIn_12 rfl 0 rfl ?_
    refine r_iload_n hC dX2_runsIn_13 rfl 1 rfl ?_
    refine r_iload hC dX2_runsIn_14 4 rfl ?_
    refine r_iadd hC dX2_runsIn_16 ?_
    refine r_callV (As := [.int (x1 + y4)]) (rest := [.ref (a (4 + c))]) hC (con_X2_around l σ c (x1 + y4) hc rfl) K2_75 (ob2 a σ c hc) rfl rfl rfl rfl ⟨Nat.le_of_ble_eq_true rfl, Nat.le_of_ble_eq_true rfl⟩ (Nat.le_of_ble_eq_true rfl) dX2_runsIn_17 ?_
    refine r_iconst (v := 2) hC dX2_runsIn_20 (by decide) ?_
    obtain ⟨v1, hv1, h⟩ := bind_of h
    refine r_callV (As := [.int (f_X2_around σ c (x1 + y4)), .int (2 : Int32)]) (rest := []) hC (con_X2_isMarked l σ c (f_X2_around σ c (x1 + y4)) (2 : Int32) hc hv1) K2_71 (ob2 a σ c hc) rfl rfl rfl rfl ⟨Nat.le_of_ble_eq_true rfl, Nat.le_of_ble_eq_true rfl⟩ (Nat.le_of_ble_eq_true rfl) dX2_runsIn_21 ?_
    refine r_if_ne hC 30 dX2_runsIn_24 (by decide) (fun q => ?_) (fun q => ?_)
    · replace h := if_n q h
      obtain ⟨v2, ev2, h⟩ := lt_of h
      refine r_iinc (c1 := 1) (lv' := [(4, .int v2), (0, .ref (a (4 + c))), (1, .int x1), (2, .int x2), (3, .int y3)]) hC dX2_runsIn_30 4 rfl (by decide) (by decide) ev2 rfl ?_
      refine r_goto hC 5 dX2_runsIn_33 (by decide) ?_
      refine r_sub hC [1, 2, 3, 4, 0] rfl ?_
      exact hself y3 v2 h
    · replace h := if_p q h
      obtain ⟨v3, ev3, h⟩ := lt_of h
      refine r_iinc (c1 := 1) (lv' := [(3, .int v3), (0, .ref (a (4 + c))), (1, .int x1), (2, .int x2), (4, .int y4)]) hC dX2_runsIn_27 3 rfl (by decide) (by decide) ev3 rfl ?_
      obtain ⟨v4, ev4, h⟩ := lt_of h
      refine r_iinc (c1 := 1) (lv' := [(4, .int v4), (3, .int v3), (0, .ref (a (4 + c))), (1, .int x1), (2, .int x2)]) hC dX2_runsIn_30 4 rfl (by decide) (by decide) ev4 rfl ?_
      refine r_goto hC 5 dX2_runsIn_33 (by decide) ?_
      refine r_sub hC [2, 3, 4, 1, 0] rfl ?_
      exact hself v3 v4 h
set_option maxRecDepth 100000 in
set_option maxHeartbeats 4000000 in
theorem t_X2_runsIn_n5 {Γ : St → Nat → List (Nat × Value) → List Value → Prop} {l : Launch} {a : Nat → Nat} {r : Int32} {σ : St} (hC : Cx Γ l cX2_runsIn RX2 5 (some .int) Rm_X2_runsIn wC a (some (.int r)) σ) (c : Nat) (x1 : Int32) (x2 : Int32) (hc : c < 2) (n : Nat) : ∀ (y3 : Int32) (y4 : Int32), f_X2_runsIn_n5 σ c x1 x2 n y3 y4 = some r → Γ σ 5 [(0, .ref (a (4 + c))), (1, .int x1), (2, .int x2), (3, .int y3), (4, .int y4)] [] := by
  induction n with
  | zero =>
    intro y3 y4  h
    have h : (none : Option Int32) = some r := h
    cases h
  | succ n ih =>
    intro y3 y4  h
    exact t_X2_runsIn_n5_b hC c x1 x2 hc   (f_X2_runsIn_n5 σ c x1 x2  n) ih y3 y4  h
def f_X2_runsIn (σ : St) (c : Nat) (x1 : Int32) (x2 : Int32) : Option Int32 :=
  f_X2_runsIn_n5 σ c x1 x2 fuel (0 : Int32) (0 : Int32)
set_option maxRecDepth 100000 in
set_option maxHeartbeats 4000000 in
theorem con_X2_runsIn (l : Launch) (σ : St) (c : Nat) (x1 : Int32) (x2 : Int32) (hc : c < 2) {r : Int32} (h : f_X2_runsIn σ c x1 x2 = some r) : Con l yX2_runsIn cX2_runsIn 5 (some .int) Rm_X2_runsIn wC (fun a => [.ref (a (4 + c)), .int x1, .int x2]) σ (fun _ => some (.int r)) σ := by
  refine con_of (by decide) ⟨rfl, rfl⟩ (fun _ => Nat.le_of_ble_eq_true rfl) (fun Γ a hC => ?_)
  have hC : Cx Γ l cX2_runsIn RX2 5 (some .int) Rm_X2_runsIn wC a (some (.int r)) σ := hC
  show Γ σ 0 [(0, .ref (a (4 + c))), (1, .int x1), (2, .int x2)] []
  unfold f_X2_runsIn at h
  refine r_iconst (v := 0) hC dX2_runsIn_0 (by decide) ?_
  refine r_istore_n (lv' := [(3, .int (0 : Int32)), (0, .ref (a (4 + c))), (1, .int x1), (2, .int x2)]) hC dX2_runsIn_1 rfl (by decide) rfl rfl ?_
  refine r_iconst (v := 0) hC dX2_runsIn_2 (by decide) ?_
  refine r_istore (lv' := [(4, .int (0 : Int32)), (3, .int (0 : Int32)), (0, .ref (a (4 + c))), (1, .int x1), (2, .int x2)]) hC dX2_runsIn_3 (by decide) rfl rfl ?_
  refine r_sub hC [2, 3, 4, 1, 0] rfl ?_
  exact t_X2_runsIn_n5 hC c x1 x2 hc fuel (0 : Int32) (0 : Int32) h
abbrev Rm_X2_startsCluster : Room := { frames := 2, cells := 0, slots := 0, locals := 43 }
def f_X2_startsCluster (σ : St) (c : Nat) (x1 : Int32) : Option Int32 :=
  (f_X2_indexAt σ c x1).bind fun v1 =>
  if v1 < 0 then
    some (0 : Int32)
  else
  (f_X2_isMarked σ c x1 (4 : Int32)).bind fun v2 =>
  if v2 = 0 then
    some (1 : Int32)
  else
  some (0 : Int32)
set_option maxRecDepth 100000 in
set_option maxHeartbeats 4000000 in
theorem con_X2_startsCluster (l : Launch) (σ : St) (c : Nat) (x1 : Int32) (hc : c < 2) {r : Int32} (h : f_X2_startsCluster σ c x1 = some r) : Con l yX2_startsCluster cX2_startsCluster 2 (some .boolean) Rm_X2_startsCluster wC (fun a => [.ref (a (4 + c)), .int x1]) σ (fun _ => some (.int r)) σ := by
  refine con_of (by decide) ⟨rfl, rfl⟩ (fun _ => Nat.le_of_ble_eq_true rfl) (fun Γ a hC => ?_)
  have hC : Cx Γ l cX2_startsCluster RX2 2 (some .boolean) Rm_X2_startsCluster wC a (some (.int r)) σ := hC
  show Γ σ 0 [(0, .ref (a (4 + c))), (1, .int x1)] []
  unfold f_X2_startsCluster at h
  refine r_aload_n hC dX2_startsCluster_0 rfl 0 rfl ?_
  refine r_iload_n hC dX2_startsCluster_1 rfl 1 rfl ?_
  obtain ⟨v1, hv1, h⟩ := bind_of h
  refine r_callV (As := [.int x1]) (rest := []) hC (con_X2_indexAt l σ c x1 hc hv1) K2_68 (ob2 a σ c hc) rfl rfl rfl rfl ⟨Nat.le_of_ble_eq_true rfl, Nat.le_of_ble_eq_true rfl⟩ (Nat.le_of_ble_eq_true rfl) dX2_startsCluster_2 ?_
  refine r_if_lt hC 21 dX2_startsCluster_5 (by decide) (fun q => ?_) (fun q => ?_)
  · replace h := if_p q h
    refine r_iconst (v := 0) hC dX2_startsCluster_21 (by decide) ?_
    exact r_zretP hC rfl dX2_startsCluster_22 h
  · replace h := if_n q h
    refine r_aload_n hC dX2_startsCluster_8 rfl 0 rfl ?_
    refine r_iload_n hC dX2_startsCluster_9 rfl 1 rfl ?_
    refine r_iconst (v := 4) hC dX2_startsCluster_10 (by decide) ?_
    obtain ⟨v2, hv2, h⟩ := bind_of h
    refine r_callV (As := [.int x1, .int (4 : Int32)]) (rest := []) hC (con_X2_isMarked l σ c x1 (4 : Int32) hc hv2) K2_71 (ob2 a σ c hc) rfl rfl rfl rfl ⟨Nat.le_of_ble_eq_true rfl, Nat.le_of_ble_eq_true rfl⟩ (Nat.le_of_ble_eq_true rfl) dX2_startsCluster_11 ?_
    refine r_if_ne hC 21 dX2_startsCluster_14 (by decide) (fun q => ?_) (fun q => ?_)
    · replace h := if_n q h
      refine r_iconst (v := 0) hC dX2_startsCluster_21 (by decide) ?_
      exact r_zretP hC rfl dX2_startsCluster_22 h
    · replace h := if_p q h
      refine r_iconst (v := 1) hC dX2_startsCluster_17 (by decide) ?_
      refine r_goto hC 22 dX2_startsCluster_18 (by decide) ?_
      exact r_zretP hC rfl dX2_startsCluster_22 h
abbrev Rm_X2_wordAt : Room := { frames := 1, cells := 0, slots := 0, locals := 21 }
def f_X2_wordAt_n62 (σ : St) (c : Nat) (x1 : Int32) (k10 : Int32 → Int64 → Int32 → Option Int64) (y2 : Int32) (y3 : Int64) (y5 : Int32) (y6 : Int32) (y7 : Int64) : Option Int64 :=
  if 0 ≤ y6 then
    lt_ (y5 + (1 : Int32)) fun v6 =>
    k10 y2 y3 v6
  else
  if y6 ≤ (-y2) then
    lt_ (y5 + (1 : Int32)) fun v7 =>
    k10 y2 y3 v7
  else
  lt_ (y3 ||| ((y7.toUInt64 >>> ((-y6).toInt64.toUInt64 &&& Int64.toUInt64 63)).toInt64)) fun v8 =>
  lt_ (y5 + (1 : Int32)) fun v9 =>
  k10 y2 v8 v9
set_option maxRecDepth 100000 in
set_option maxHeartbeats 4000000 in
theorem t_X2_wordAt_n62 {Γ : St → Nat → List (Nat × Value) → List Value → Prop} {l : Launch} {a : Nat → Nat} {r : Int64} {σ : St} (hC : Cx Γ l cX2_wordAt RX2 9 (some .long) Rm_X2_wordAt wC a (some (.long r)) σ) (c : Nat) (x1 : Int32) (hc : c < 2) (k10 : Int32 → Int64 → Int32 → Option Int64) (hk10 : ∀ (y2 : Int32) (y3 : Int64) (y5 : Int32), k10 y2 y3 y5 = some r → Γ σ 10 [(0, .ref (a (4 + c))), (1, .int x1), (2, .int y2), (3, .long y3), (5, .int y5)] []) (y2 : Int32) (y3 : Int64) (y5 : Int32) (y6 : Int32) (y7 : Int64) (h : f_X2_wordAt_n62 σ c x1 k10 y2 y3 y5 y6 y7 = some r) : Γ σ 62 [(0, .ref (a (4 + c))), (1, .int x1), (2, .int y2), (3, .long y3), (5, .int y5), (6, .int y6), (7, .long y7)] [] := by
  unfold f_X2_wordAt_n62 at h
  refine r_iload hC dX2_wordAt_62 5 rfl ?_
  refine r_if_ge hC 83 dX2_wordAt_64 (by decide) (fun q => ?_) (fun q => ?_)
  · replace h := if_p q h
    obtain ⟨v6, ev6, h⟩ := lt_of h
    refine r_iinc (c1 := 1) (lv' := [(5, .int v6), (0, .ref (a (4 + c))), (1, .int x1), (2, .int y2), (3, .long y3), (6, .int y6), (7, .long y7)]) hC dX2_wordAt_83 4 rfl (by decide) (by decide) ev6 rfl ?_
    refine r_goto hC 10 dX2_wordAt_86 (by decide) ?_
    refine r_sub hC [1, 2, 3, 4, 0] rfl ?_
    exact hk10 y2 y3 v6 h
  · replace h := if_n q h
    refine r_iload hC dX2_wordAt_67 5 rfl ?_
    refine r_iload_n hC dX2_wordAt_69 rfl 2 rfl ?_
    refine r_ineg hC dX2_wordAt_70 ?_
    refine r_icmp_le hC 83 dX2_wordAt_71 (by decide) (fun q => ?_) (fun q => ?_)
    · replace h := if_p q h
      obtain ⟨v7, ev7, h⟩ := lt_of h
      refine r_iinc (c1 := 1) (lv' := [(5, .int v7), (0, .ref (a (4 + c))), (1, .int x1), (2, .int y2), (3, .long y3), (6, .int y6), (7, .long y7)]) hC dX2_wordAt_83 4 rfl (by decide) (by decide) ev7 rfl ?_
      refine r_goto hC 10 dX2_wordAt_86 (by decide) ?_
      refine r_sub hC [1, 2, 3, 4, 0] rfl ?_
      exact hk10 y2 y3 v7 h
    · replace h := if_n q h
      refine r_lload_n hC dX2_wordAt_74 rfl 3 rfl ?_
      refine r_lload hC dX2_wordAt_75 6 rfl ?_
      refine r_iload hC dX2_wordAt_77 5 rfl ?_
      refine r_ineg hC dX2_wordAt_79 ?_
      refine r_lushr hC dX2_wordAt_80 ?_
      refine r_lor hC dX2_wordAt_81 ?_
      obtain ⟨v8, ev8, h⟩ := lt_of h
      refine r_lstore_n (lv' := [(3, .long v8), (0, .ref (a (4 + c))), (1, .int x1), (2, .int y2), (5, .int y5), (6, .int y6), (7, .long y7)]) hC dX2_wordAt_82 rfl (by decide) ev8 rfl ?_
      obtain ⟨v9, ev9, h⟩ := lt_of h
      refine r_iinc (c1 := 1) (lv' := [(5, .int v9), (3, .long v8), (0, .ref (a (4 + c))), (1, .int x1), (2, .int y2), (6, .int y6), (7, .long y7)]) hC dX2_wordAt_83 4 rfl (by decide) (by decide) ev9 rfl ?_
      refine r_goto hC 10 dX2_wordAt_86 (by decide) ?_
      refine r_sub hC [2, 3, 4, 1, 0] rfl ?_
      exact hk10 y2 v8 v9 h
def f_X2_wordAt_n10_b (σ : St) (c : Nat) (x1 : Int32) (self : Int32 → Int64 → Int32 → Option Int64) (y2 : Int32) (y3 : Int64) (y5 : Int32) : Option Int64 :=
  if (st_i σ (10 + 3 * c)) ≤ y5 then
    some y3
  else
  lt_ ((y5 * y2) - (x1 * (64 : Int32))) fun v1 =>
  (f_X2_cellAt σ c y5).bind fun v2 =>
  lt_ (v2.toInt64) fun v3 =>
  if v1 < 0 then
    f_X2_wordAt_n62 σ c x1 self y2 y3 y5 v1 v3
  else
  if (64 : Int32) ≤ v1 then
    f_X2_wordAt_n62 σ c x1 self y2 y3 y5 v1 v3
  else
  lt_ (y3 ||| (v3 <<< (v1.toInt64 &&& 63))) fun v4 =>
  lt_ (y5 + (1 : Int32)) fun v5 =>
  self y2 v4 v5
def f_X2_wordAt_n10 (σ : St) (c : Nat) (x1 : Int32) : Nat → Int32 → Int64 → Int32 → Option Int64
  | 0 => fun _ _ _ => none
  | n + 1 => fun y2 y3 y5 => f_X2_wordAt_n10_b σ c x1  (f_X2_wordAt_n10 σ c x1  n) y2 y3 y5
set_option maxRecDepth 100000 in
set_option maxHeartbeats 4000000 in
theorem t_X2_wordAt_n10_b {Γ : St → Nat → List (Nat × Value) → List Value → Prop} {l : Launch} {a : Nat → Nat} {r : Int64} {σ : St} (hC : Cx Γ l cX2_wordAt RX2 9 (some .long) Rm_X2_wordAt wC a (some (.long r)) σ) (c : Nat) (x1 : Int32) (hc : c < 2) (self : Int32 → Int64 → Int32 → Option Int64) (hself : ∀ (y2 : Int32) (y3 : Int64) (y5 : Int32), self y2 y3 y5 = some r → Γ σ 10 [(0, .ref (a (4 + c))), (1, .int x1), (2, .int y2), (3, .long y3), (5, .int y5)] []) (y2 : Int32) (y3 : Int64) (y5 : Int32) (h : f_X2_wordAt_n10_b σ c x1 self y2 y3 y5 = some r) : Γ σ 10 [(0, .ref (a (4 + c))), (1, .int x1), (2, .int y2), (3, .long y3), (5, .int y5)] [] := by
  unfold f_X2_wordAt_n10_b at h
  refine r_iload hC dX2_wordAt_10 4 rfl ?_
  refine r_aload_n hC dX2_wordAt_12 rfl 0 rfl ?_
  refine G2_25 hC c hc dX2_wordAt_13 ?_
  refine r_icmp_ge hC 89 dX2_wordAt_16 (by decide) (fun q => ?_) (fun q => ?_)
  · replace h := if_p q h
    refine r_lload_n hC dX2_wordAt_89 rfl 3 rfl ?_
    exact r_lretP hC dX2_wordAt_90 h
  · replace h := if_n q h
    refine r_iload hC dX2_wordAt_19 4 rfl ?_
    refine r_iload_n hC dX2_wordAt_21 rfl 2 rfl ?_
    refine r_imul hC dX2_wordAt_22 ?_
    refine r_iload_n hC dX2_wordAt_23 rfl 1 rfl ?_
    refine r_bipush (v := 64) hC dX2_wordAt_24 (by decide) ?_
    refine r_imul hC dX2_wordAt_26 ?_
    refine r_isub hC dX2_wordAt_27 ?_
    obtain ⟨v1, ev1, h⟩ := lt_of h
    refine r_istore (lv' := [(6, .int v1), (0, .ref (a (4 + c))), (1, .int x1), (2, .int y2), (3, .long y3), (5, .int y5)]) hC dX2_wordAt_28 (by decide) ev1 rfl ?_
    refine r_aload_n hC dX2_wordAt_30 rfl 1 rfl ?_
    refine r_iload hC dX2_wordAt_31 5 rfl ?_
    obtain ⟨v2, hv2, h⟩ := bind_of h
    refine r_callV (As := [.int y5]) (rest := []) hC (con_X2_cellAt l σ c y5 hc hv2) K2_62 (ob2 a σ c hc) rfl rfl rfl rfl ⟨Nat.le_of_ble_eq_true rfl, Nat.le_of_ble_eq_true rfl⟩ (Nat.le_of_ble_eq_true rfl) dX2_wordAt_33 ?_
    refine r_i2l hC dX2_wordAt_36 ?_
    obtain ⟨v3, ev3, h⟩ := lt_of h
    refine r_lstore (lv' := [(7, .long v3), (6, .int v1), (0, .ref (a (4 + c))), (1, .int x1), (2, .int y2), (3, .long y3), (5, .int y5)]) hC dX2_wordAt_37 (by decide) ev3 rfl ?_
    refine r_iload hC dX2_wordAt_39 1 rfl ?_
    refine r_if_lt hC 62 dX2_wordAt_41 (by decide) (fun q => ?_) (fun q => ?_)
    · replace h := if_p q h
      refine r_sub hC [2, 3, 4, 5, 6, 1, 0] rfl ?_
      exact t_X2_wordAt_n62 hC c x1 hc self hself y2 y3 y5 v1 v3 h
    · replace h := if_n q h
      refine r_iload hC dX2_wordAt_44 1 rfl ?_
      refine r_bipush (v := 64) hC dX2_wordAt_46 (by decide) ?_
      refine r_icmp_ge hC 62 dX2_wordAt_48 (by decide) (fun q => ?_) (fun q => ?_)
      · replace h := if_p q h
        refine r_sub hC [2, 3, 4, 5, 6, 1, 0] rfl ?_
        exact t_X2_wordAt_n62 hC c x1 hc self hself y2 y3 y5 v1 v3 h
      · replace h := if_n q h
        refine r_lload_n hC dX2_wordAt_51 rfl 5 rfl ?_
        refine r_lload hC dX2_wordAt_52 0 rfl ?_
        refine r_iload hC dX2_wordAt_54 1 rfl ?_
        refine r_lshl hC dX2_wordAt_56 ?_
        refine r_lor hC dX2_wordAt_57 ?_
        obtain ⟨v4, ev4, h⟩ := lt_of h
        refine r_lstore_n (lv' := [(3, .long v4), (7, .long v3), (6, .int v1), (0, .ref (a (4 + c))), (1, .int x1), (2, .int y2), (5, .int y5)]) hC dX2_wordAt_58 rfl (by decide) ev4 rfl ?_
        refine r_goto hC 83 dX2_wordAt_59 (by decide) ?_
        obtain ⟨v5, ev5, h⟩ := lt_of h
        refine r_iinc (c1 := 1) (lv' := [(5, .int v5), (3, .long v4), (7, .long v3), (6, .int v1), (0, .ref (a (4 + c))), (1, .int x1), (2, .int y2)]) hC dX2_wordAt_83 6 rfl (by decide) (by decide) ev5 rfl ?_
        refine r_goto hC 10 dX2_wordAt_86 (by decide) ?_
        refine r_sub hC [4, 5, 6, 1, 0] rfl ?_
        exact hself y2 v4 v5 h
set_option maxRecDepth 100000 in
set_option maxHeartbeats 4000000 in
theorem t_X2_wordAt_n10 {Γ : St → Nat → List (Nat × Value) → List Value → Prop} {l : Launch} {a : Nat → Nat} {r : Int64} {σ : St} (hC : Cx Γ l cX2_wordAt RX2 9 (some .long) Rm_X2_wordAt wC a (some (.long r)) σ) (c : Nat) (x1 : Int32) (hc : c < 2) (n : Nat) : ∀ (y2 : Int32) (y3 : Int64) (y5 : Int32), f_X2_wordAt_n10 σ c x1 n y2 y3 y5 = some r → Γ σ 10 [(0, .ref (a (4 + c))), (1, .int x1), (2, .int y2), (3, .long y3), (5, .int y5)] [] := by
  induction n with
  | zero =>
    intro y2 y3 y5  h
    have h : (none : Option Int64) = some r := h
    cases h
  | succ n ih =>
    intro y2 y3 y5  h
    exact t_X2_wordAt_n10_b hC c x1 hc   (f_X2_wordAt_n10 σ c x1  n) ih y2 y3 y5  h
def f_X2_wordAt (σ : St) (c : Nat) (x1 : Int32) : Option Int64 :=
  lt_ (f_X2_cellBits σ c) fun v10 =>
  f_X2_wordAt_n10 σ c x1 fuel v10 (0 : Int64) (0 : Int32)
set_option maxRecDepth 100000 in
set_option maxHeartbeats 4000000 in
theorem con_X2_wordAt (l : Launch) (σ : St) (c : Nat) (x1 : Int32) (hc : c < 2) {r : Int64} (h : f_X2_wordAt σ c x1 = some r) : Con l yX2_wordAt cX2_wordAt 9 (some .long) Rm_X2_wordAt wC (fun a => [.ref (a (4 + c)), .int x1]) σ (fun _ => some (.long r)) σ := by
  refine con_of (by decide) ⟨rfl, rfl⟩ (fun _ => Nat.le_of_ble_eq_true rfl) (fun Γ a hC => ?_)
  have hC : Cx Γ l cX2_wordAt RX2 9 (some .long) Rm_X2_wordAt wC a (some (.long r)) σ := hC
  show Γ σ 0 [(0, .ref (a (4 + c))), (1, .int x1)] []
  unfold f_X2_wordAt at h
  refine r_aload_n hC dX2_wordAt_0 rfl 0 rfl ?_
  refine r_callV (As := []) (rest := []) hC (con_X2_cellBits l σ c hc rfl) K2_65 (ob2 a σ c hc) rfl rfl rfl rfl ⟨Nat.le_of_ble_eq_true rfl, Nat.le_of_ble_eq_true rfl⟩ (Nat.le_of_ble_eq_true rfl) dX2_wordAt_1 ?_
  obtain ⟨v10, ev10, h⟩ := lt_of h
  refine r_istore_n (lv' := [(2, .int v10), (0, .ref (a (4 + c))), (1, .int x1)]) hC dX2_wordAt_4 rfl (by decide) ev10 rfl ?_
  refine r_lconst (v := 0) hC dX2_wordAt_5 (by decide) ?_
  refine r_lstore_n (lv' := [(3, .long (0 : Int64)), (2, .int v10), (0, .ref (a (4 + c))), (1, .int x1)]) hC dX2_wordAt_6 rfl (by decide) rfl rfl ?_
  refine r_iconst (v := 0) hC dX2_wordAt_7 (by decide) ?_
  refine r_istore (lv' := [(5, .int (0 : Int32)), (3, .long (0 : Int64)), (2, .int v10), (0, .ref (a (4 + c))), (1, .int x1)]) hC dX2_wordAt_8 (by decide) rfl rfl ?_
  refine r_sub hC [3, 4, 2, 1, 0] rfl ?_
  exact t_X2_wordAt_n10 hC c x1 hc fuel v10 (0 : Int64) (0 : Int32) h
abbrev Rm_X4_cellAt : Room := { frames := 0, cells := 0, slots := 0, locals := 0 }
def f_X4_cellAt (σ : St) (x1 : Int32) : Option Int32 :=
  if x1 < 0 then
    some (0 : Int32)
  else
  if (64 : Int32) ≤ x1 then
    some (0 : Int32)
  else
  if in_b x1 64 = true then
    some (st_a σ 9 x1.toNatClampNeg)
  else none
set_option maxRecDepth 100000 in
set_option maxHeartbeats 4000000 in
theorem con_X4_cellAt (l : Launch) (σ : St) (x1 : Int32) {r : Int32} (h : f_X4_cellAt σ x1 = some r) : Con l yX4_cellAt cX4_cellAt 2 (some .int) Rm_X4_cellAt wC (fun a => [.ref (a 6), .int x1]) σ (fun _ => some (.int r)) σ := by
  refine con_of (by decide) ⟨rfl, rfl⟩ (fun _ => Nat.le_of_ble_eq_true rfl) (fun Γ a hC => ?_)
  have hC : Cx Γ l cX4_cellAt RX4 2 (some .int) Rm_X4_cellAt wC a (some (.int r)) σ := hC
  show Γ σ 0 [(0, .ref (a 6)), (1, .int x1)] []
  unfold f_X4_cellAt at h
  refine r_iload_n hC dX4_cellAt_0 rfl 1 rfl ?_
  refine r_if_lt hC 22 dX4_cellAt_1 (by decide) (fun q => ?_) (fun q => ?_)
  · replace h := if_p q h
    refine r_iconst (v := 0) hC dX4_cellAt_22 (by decide) ?_
    exact r_iretP hC dX4_cellAt_23 h
  · replace h := if_n q h
    refine r_iload_n hC dX4_cellAt_4 rfl 1 rfl ?_
    refine r_aload_n hC dX4_cellAt_5 rfl 0 rfl ?_
    refine G4_9 hC dX4_cellAt_6 ?_
    refine N_rcells hC dX4_cellAt_9 ?_
    refine r_icmp_ge hC 22 dX4_cellAt_10 (by decide) (fun q => ?_) (fun q => ?_)
    · replace h := if_p q h
      refine r_iconst (v := 0) hC dX4_cellAt_22 (by decide) ?_
      exact r_iretP hC dX4_cellAt_23 h
    · replace h := if_n q h
      refine r_aload_n hC dX4_cellAt_13 rfl 0 rfl ?_
      refine G4_9 hC dX4_cellAt_14 ?_
      refine r_iload_n hC dX4_cellAt_17 rfl 1 rfl ?_
      obtain ⟨hi, h⟩ := inb_of h
      refine L_rcells hC hi dX4_cellAt_18 ?_
      refine r_goto hC 23 dX4_cellAt_19 (by decide) ?_
      exact r_iretP hC dX4_cellAt_23 h
abbrev Rm_X4_slotCount : Room := { frames := 0, cells := 0, slots := 0, locals := 0 }
def f_X4_slotCount (σ : St) : Int32 :=
  ((1 : Int32) <<< ((st_i σ 15) &&& 31))
set_option maxRecDepth 100000 in
set_option maxHeartbeats 4000000 in
theorem con_X4_slotCount (l : Launch) (σ : St) {r : Int32} (h : f_X4_slotCount σ = r) : Con l yX4_slotCount cX4_slotCount 1 (some .int) Rm_X4_slotCount wC (fun a => [.ref (a 6)]) σ (fun _ => some (.int r)) σ := by
  refine con_of (by decide) ⟨rfl, rfl⟩ (fun _ => Nat.le_of_ble_eq_true rfl) (fun Γ a hC => ?_)
  have hC : Cx Γ l cX4_slotCount RX4 1 (some .int) Rm_X4_slotCount wC a (some (.int r)) σ := hC
  show Γ σ 0 [(0, .ref (a 6))] []
  unfold f_X4_slotCount at h
  refine r_iconst (v := 1) hC dX4_slotCount_0 (by decide) ?_
  refine r_aload_n hC dX4_slotCount_1 rfl 0 rfl ?_
  refine G4_18 hC dX4_slotCount_2 ?_
  refine r_ishl hC dX4_slotCount_5 ?_
  exact r_iretT hC dX4_slotCount_6 h
abbrev Rm_X4_marksOf : Room := { frames := 0, cells := 0, slots := 0, locals := 0 }
def f_X4_marksOf (σ : St) (x0 : Int32) : Int32 :=
  (x0 &&& (7 : Int32))
set_option maxRecDepth 100000 in
set_option maxHeartbeats 4000000 in
theorem con_X4_marksOf (l : Launch) (σ : St) (x0 : Int32) {r : Int32} (h : f_X4_marksOf σ x0 = r) : Con l yX4_marksOf cX4_marksOf 1 (some .int) Rm_X4_marksOf wC (fun a => [.int x0]) σ (fun _ => some (.int r)) σ := by
  refine con_of (by decide) ⟨rfl, rfl⟩ (fun _ => Nat.le_of_ble_eq_true rfl) (fun Γ a hC => ?_)
  have hC : Cx Γ l cX4_marksOf RX4 1 (some .int) Rm_X4_marksOf wC a (some (.int r)) σ := hC
  show Γ σ 0 [(0, .int x0)] []
  unfold f_X4_marksOf at h
  refine r_iload_n hC dX4_marksOf_0 rfl 0 rfl ?_
  refine r_bipush (v := 7) hC dX4_marksOf_1 (by decide) ?_
  refine r_iand hC dX4_marksOf_3 ?_
  exact r_iretT hC dX4_marksOf_4 h
abbrev Rm_X4_emptySlot : Room := { frames := 1, cells := 0, slots := 0, locals := 21 }
def f_X4_emptySlot_n2_b (σ : St) (self : Int32 → Option Int32) (y1 : Int32) : Option Int32 :=
  if (f_X4_slotCount σ) ≤ y1 then
    some (-1 : Int32)
  else
  (f_X4_cellAt σ y1).bind fun v1 =>
  if (f_X4_marksOf σ v1) = 0 then
    some y1
  else
  lt_ (y1 + (1 : Int32)) fun v2 =>
  self v2
def f_X4_emptySlot_n2 (σ : St) : Nat → Int32 → Option Int32
  | 0 => fun _ => none
  | n + 1 => fun y1 => f_X4_emptySlot_n2_b σ  (f_X4_emptySlot_n2 σ  n) y1
set_option maxRecDepth 100000 in
set_option maxHeartbeats 4000000 in
theorem t_X4_emptySlot_n2_b {Γ : St → Nat → List (Nat × Value) → List Value → Prop} {l : Launch} {a : Nat → Nat} {r : Int32} {σ : St} (hC : Cx Γ l cX4_emptySlot RX4 2 (some .int) Rm_X4_emptySlot wC a (some (.int r)) σ) (self : Int32 → Option Int32) (hself : ∀ (y1 : Int32), self y1 = some r → Γ σ 2 [(0, .ref (a 6)), (1, .int y1)] []) (y1 : Int32) (h : f_X4_emptySlot_n2_b σ self y1 = some r) : Γ σ 2 [(0, .ref (a 6)), (1, .int y1)] [] := by
  unfold f_X4_emptySlot_n2_b at h
  refine r_iload_n hC dX4_emptySlot_2 rfl 1 rfl ?_
  refine r_aload_n hC dX4_emptySlot_3 rfl 0 rfl ?_
  refine r_callV (As := []) (rest := [.int y1]) hC (con_X4_slotCount l σ rfl) K4_28 (ob4 a σ) rfl rfl rfl rfl ⟨Nat.le_of_ble_eq_true rfl, Nat.le_of_ble_eq_true rfl⟩ (Nat.le_of_ble_eq_true rfl) dX4_emptySlot_4 ?_
  refine r_icmp_ge hC 29 dX4_emptySlot_7 (by decide) (fun q => ?_) (fun q => ?_)
  · replace h := if_p q h
    refine r_iconst (v := -1) hC dX4_emptySlot_29 (by decide) ?_
    exact r_iretP hC dX4_emptySlot_30 h
  · replace h := if_n q h
    refine r_aload_n hC dX4_emptySlot_10 rfl 0 rfl ?_
    refine r_iload_n hC dX4_emptySlot_11 rfl 1 rfl ?_
    obtain ⟨v1, hv1, h⟩ := bind_of h
    refine r_callV (As := [.int y1]) (rest := []) hC (con_X4_cellAt l σ y1 hv1) K4_71 (ob4 a σ) rfl rfl rfl rfl ⟨Nat.le_of_ble_eq_true rfl, Nat.le_of_ble_eq_true rfl⟩ (Nat.le_of_ble_eq_true rfl) dX4_emptySlot_12 ?_
    refine r_callS (As := [.int v1]) (rest := []) hC (con_X4_marksOf l σ v1 rfl) K4_72 rfl rfl rfl ⟨Nat.le_of_ble_eq_true rfl, Nat.le_of_ble_eq_true rfl⟩ (Nat.le_of_ble_eq_true rfl) dX4_emptySlot_15 ?_
    refine r_if_ne hC 23 dX4_emptySlot_18 (by decide) (fun q => ?_) (fun q => ?_)
    · replace h := if_n q h
      obtain ⟨v2, ev2, h⟩ := lt_of h
      refine r_iinc (c1 := 1) (lv' := [(1, .int v2), (0, .ref (a 6))]) hC dX4_emptySlot_23 1 rfl (by decide) (by decide) ev2 rfl ?_
      refine r_goto hC 2 dX4_emptySlot_26 (by decide) ?_
      refine r_sub hC [1, 0] rfl ?_
      exact hself v2 h
    · replace h := if_p q h
      refine r_iload_n hC dX4_emptySlot_21 rfl 1 rfl ?_
      exact r_iretP hC dX4_emptySlot_22 h
set_option maxRecDepth 100000 in
set_option maxHeartbeats 4000000 in
theorem t_X4_emptySlot_n2 {Γ : St → Nat → List (Nat × Value) → List Value → Prop} {l : Launch} {a : Nat → Nat} {r : Int32} {σ : St} (hC : Cx Γ l cX4_emptySlot RX4 2 (some .int) Rm_X4_emptySlot wC a (some (.int r)) σ) (n : Nat) : ∀ (y1 : Int32), f_X4_emptySlot_n2 σ n y1 = some r → Γ σ 2 [(0, .ref (a 6)), (1, .int y1)] [] := by
  induction n with
  | zero =>
    intro y1  h
    have h : (none : Option Int32) = some r := h
    cases h
  | succ n ih =>
    intro y1  h
    exact t_X4_emptySlot_n2_b hC     (f_X4_emptySlot_n2 σ  n) ih y1  h
def f_X4_emptySlot (σ : St) : Option Int32 :=
  f_X4_emptySlot_n2 σ fuel (0 : Int32)
set_option maxRecDepth 100000 in
set_option maxHeartbeats 4000000 in
theorem con_X4_emptySlot (l : Launch) (σ : St) {r : Int32} (h : f_X4_emptySlot σ = some r) : Con l yX4_emptySlot cX4_emptySlot 2 (some .int) Rm_X4_emptySlot wC (fun a => [.ref (a 6)]) σ (fun _ => some (.int r)) σ := by
  refine con_of (by decide) ⟨rfl, rfl⟩ (fun _ => Nat.le_of_ble_eq_true rfl) (fun Γ a hC => ?_)
  have hC : Cx Γ l cX4_emptySlot RX4 2 (some .int) Rm_X4_emptySlot wC a (some (.int r)) σ := hC
  show Γ σ 0 [(0, .ref (a 6))] []
  unfold f_X4_emptySlot at h
  refine r_iconst (v := 0) hC dX4_emptySlot_0 (by decide) ?_
  refine r_istore_n (lv' := [(1, .int (0 : Int32)), (0, .ref (a 6))]) hC dX4_emptySlot_1 rfl (by decide) rfl rfl ?_
  refine r_sub hC [1, 0] rfl ?_
  exact t_X4_emptySlot_n2 hC fuel (0 : Int32) h
abbrev Rm_X4_decode : Room := { frames := 3, cells := 0, slots := 0, locals := 67 }
def f_X4_decode_n117 (b1 : Nat) (x2 : Int32) (k36 : St → Int32 → Int32 → Int32 → Int32 → Int32 → Option (Int32 × St)) (σ : St) (y3 : Int32) (y4 : Int32) (y5 : Int32) (y7 : Int32) (y9 : Int32) (w0 : Int32) (w1 : Int32) : Option (Int32 × St) :=
  lt_ (w0 + w1) fun v5 =>
  if v5 < (1 : Int32) then
    some ((0 : Int32), σ)
  else
  if v5 ≤ y5 then
    if in_b (v5 - (1 : Int32)) 64 = true then
      bind2 (f_X0_insert σ b1 (((st_a σ 10 (v5 - (1 : Int32)).toNatClampNeg) <<< (y4 &&& 31)) ||| (y9 >>> ((3 : Int32) &&& 31)))) fun v7 s6 =>
      lt_ (y7 + (1 : Int32)) fun v8 =>
      k36 s6 y3 y4 y5 v5 v8
    else none
  else
  some ((0 : Int32), σ)
set_option maxRecDepth 100000 in
set_option maxHeartbeats 4000000 in
theorem t_X4_decode_n117 {Γ : St → Nat → List (Nat × Value) → List Value → Prop} {l : Launch} {a : Nat → Nat} {r : Int32} {t' : St} (hC : Cx Γ l cX4_decode RX4 10 (some .boolean) Rm_X4_decode wC a (some (.int r)) t') (b1 : Nat) (x2 : Int32) (hb1 : b1 < 3) (k36 : St → Int32 → Int32 → Int32 → Int32 → Int32 → Option (Int32 × St)) (hk36 : ∀ (σ : St) (y3 : Int32) (y4 : Int32) (y5 : Int32) (y6 : Int32) (y7 : Int32), k36 σ y3 y4 y5 y6 y7 = some (r, t') → Γ σ 36 [(0, .ref (a 6)), (1, .ref (a (1 + b1))), (3, .int y3), (4, .int y4), (5, .int y5), (6, .int y6), (7, .int y7)] []) (σ : St) (y3 : Int32) (y4 : Int32) (y5 : Int32) (y7 : Int32) (y9 : Int32) (w0 : Int32) (w1 : Int32) (h : f_X4_decode_n117 b1 x2 k36 σ y3 y4 y5 y7 y9 w0 w1 = some (r, t')) : Γ σ 117 [(0, .ref (a 6)), (1, .ref (a (1 + b1))), (3, .int y3), (4, .int y4), (5, .int y5), (7, .int y7), (9, .int y9)] [.int w1, .int w0] := by
  unfold f_X4_decode_n117 at h
  refine r_iadd hC dX4_decode_117 ?_
  obtain ⟨v5, ev5, h⟩ := lt_of h
  refine r_istore (lv' := [(6, .int v5), (0, .ref (a 6)), (1, .ref (a (1 + b1))), (3, .int y3), (4, .int y4), (5, .int y5), (7, .int y7), (9, .int y9)]) hC dX4_decode_118 (by decide) ev5 rfl ?_
  refine r_iload hC dX4_decode_120 0 rfl ?_
  refine r_iconst (v := 1) hC dX4_decode_122 (by decide) ?_
  refine r_icmp_lt hC 133 dX4_decode_123 (by decide) (fun q => ?_) (fun q => ?_)
  · replace h := if_p q h
    refine r_iconst (v := 0) hC dX4_decode_133 (by decide) ?_
    exact r_zretS hC rfl dX4_decode_134 h
  · replace h := if_n q h
    refine r_iload hC dX4_decode_126 0 rfl ?_
    refine r_iload hC dX4_decode_128 5 rfl ?_
    refine r_icmp_le hC 135 dX4_decode_130 (by decide) (fun q => ?_) (fun q => ?_)
    · replace h := if_p q h
      refine r_aload_n hC dX4_decode_135 rfl 2 rfl ?_
      refine r_aload_n hC dX4_decode_136 rfl 1 rfl ?_
      refine G4_15 hC dX4_decode_137 ?_
      refine r_iload hC dX4_decode_140 0 rfl ?_
      refine r_iconst (v := 1) hC dX4_decode_142 (by decide) ?_
      refine r_isub hC dX4_decode_143 ?_
      obtain ⟨hi, h⟩ := inb_of h
      refine L_homes hC hi dX4_decode_144 ?_
      refine r_iload hC dX4_decode_145 4 rfl ?_
      refine r_ishl hC dX4_decode_147 ?_
      refine r_iload hC dX4_decode_148 7 rfl ?_
      refine r_iconst (v := 3) hC dX4_decode_150 (by decide) ?_
      refine r_ishr hC dX4_decode_151 ?_
      refine r_ior hC dX4_decode_152 ?_
      obtain ⟨v7, s6, hs6, h⟩ := bind2_of h
      refine r_callV (As := [.int (((st_a σ 10 (v5 - (1 : Int32)).toNatClampNeg) <<< (y4 &&& 31)) ||| (y9 >>> ((3 : Int32) &&& 31)))]) (rest := []) hC (con_X0_insert l σ b1 (((st_a σ 10 (v5 - (1 : Int32)).toNatClampNeg) <<< (y4 &&& 31)) ||| (y9 >>> ((3 : Int32) &&& 31))) hb1 hs6) K4_75 (ob0 a σ b1 hb1) rfl rfl rfl rfl ⟨Nat.le_of_ble_eq_true rfl, Nat.le_of_ble_eq_true rfl⟩ (Nat.le_of_ble_eq_true rfl) dX4_decode_153 ?_
      refine r_pop hC dX4_decode_156 rfl ?_
      obtain ⟨v8, ev8, h⟩ := lt_of h
      refine r_iinc (c1 := 1) (lv' := [(7, .int v8), (6, .int v5), (0, .ref (a 6)), (1, .ref (a (1 + b1))), (3, .int y3), (4, .int y4), (5, .int y5), (9, .int y9)]) hC dX4_decode_157 6 rfl (by decide) (by decide) ev8 rfl ?_
      refine r_goto hC 36 dX4_decode_160 (by decide) ?_
      refine r_sub hC [2, 3, 4, 5, 6, 1, 0] rfl ?_
      exact hk36 s6 y3 y4 y5 v5 v8 h
    · replace h := if_n q h
      refine r_iconst (v := 0) hC dX4_decode_133 (by decide) ?_
      exact r_zretS hC rfl dX4_decode_134 h
def f_X4_decode_n95 (b1 : Nat) (x2 : Int32) (k36 : St → Int32 → Int32 → Int32 → Int32 → Int32 → Option (Int32 × St)) (σ : St) (y3 : Int32) (y4 : Int32) (y5 : Int32) (y6 : Int32) (y7 : Int32) (y9 : Int32) : Option (Int32 × St) :=
  if (f_X4_marksOf σ y9) = 0 then
    lt_ (y7 + (1 : Int32)) fun v9 =>
    k36 σ y3 y4 y5 y6 v9
  else
  if (y9 &&& (2 : Int32)) = 0 then
    f_X4_decode_n117 b1 x2 k36 σ y3 y4 y5 y7 y9 y6 (1 : Int32)
  else
  f_X4_decode_n117 b1 x2 k36 σ y3 y4 y5 y7 y9 y6 (0 : Int32)
set_option maxRecDepth 100000 in
set_option maxHeartbeats 4000000 in
theorem t_X4_decode_n95 {Γ : St → Nat → List (Nat × Value) → List Value → Prop} {l : Launch} {a : Nat → Nat} {r : Int32} {t' : St} (hC : Cx Γ l cX4_decode RX4 10 (some .boolean) Rm_X4_decode wC a (some (.int r)) t') (b1 : Nat) (x2 : Int32) (hb1 : b1 < 3) (k36 : St → Int32 → Int32 → Int32 → Int32 → Int32 → Option (Int32 × St)) (hk36 : ∀ (σ : St) (y3 : Int32) (y4 : Int32) (y5 : Int32) (y6 : Int32) (y7 : Int32), k36 σ y3 y4 y5 y6 y7 = some (r, t') → Γ σ 36 [(0, .ref (a 6)), (1, .ref (a (1 + b1))), (3, .int y3), (4, .int y4), (5, .int y5), (6, .int y6), (7, .int y7)] []) (σ : St) (y3 : Int32) (y4 : Int32) (y5 : Int32) (y6 : Int32) (y7 : Int32) (y9 : Int32) (h : f_X4_decode_n95 b1 x2 k36 σ y3 y4 y5 y6 y7 y9 = some (r, t')) : Γ σ 95 [(0, .ref (a 6)), (1, .ref (a (1 + b1))), (3, .int y3), (4, .int y4), (5, .int y5), (6, .int y6), (7, .int y7), (9, .int y9)] [] := by
  unfold f_X4_decode_n95 at h
  refine r_iload hC dX4_decode_95 7 rfl ?_
  refine r_callS (As := [.int y9]) (rest := []) hC (con_X4_marksOf l σ y9 rfl) K4_72 rfl rfl rfl ⟨Nat.le_of_ble_eq_true rfl, Nat.le_of_ble_eq_true rfl⟩ (Nat.le_of_ble_eq_true rfl) dX4_decode_97 ?_
  refine r_if_eq hC 157 dX4_decode_100 (by decide) (fun q => ?_) (fun q => ?_)
  · replace h := if_p q h
    obtain ⟨v9, ev9, h⟩ := lt_of h
    refine r_iinc (c1 := 1) (lv' := [(7, .int v9), (0, .ref (a 6)), (1, .ref (a (1 + b1))), (3, .int y3), (4, .int y4), (5, .int y5), (6, .int y6), (9, .int y9)]) hC dX4_decode_157 6 rfl (by decide) (by decide) ev9 rfl ?_
    refine r_goto hC 36 dX4_decode_160 (by decide) ?_
    refine r_sub hC [1, 2, 3, 4, 5, 6, 0] rfl ?_
    exact hk36 σ y3 y4 y5 y6 v9 h
  · replace h := if_n q h
    refine r_iload hC dX4_decode_103 5 rfl ?_
    refine r_iload hC dX4_decode_105 7 rfl ?_
    refine r_iconst (v := 2) hC dX4_decode_107 (by decide) ?_
    refine r_iand hC dX4_decode_108 ?_
    refine r_if_ne hC 116 dX4_decode_109 (by decide) (fun q => ?_) (fun q => ?_)
    · replace h := if_n q h
      refine r_iconst (v := 0) hC dX4_decode_116 (by decide) ?_
      refine r_sub hC [0, 1, 2, 3, 4, 6, 7] rfl ?_
      exact t_X4_decode_n117 hC b1 x2 hb1 k36 hk36 σ y3 y4 y5 y7 y9 y6 (0 : Int32) h
    · replace h := if_p q h
      refine r_iconst (v := 1) hC dX4_decode_112 (by decide) ?_
      refine r_goto hC 117 dX4_decode_113 (by decide) ?_
      refine r_sub hC [0, 1, 2, 3, 4, 6, 7] rfl ?_
      exact t_X4_decode_n117 hC b1 x2 hb1 k36 hk36 σ y3 y4 y5 y7 y9 y6 (1 : Int32) h
def f_X4_decode_n36_b (b1 : Nat) (x2 : Int32) (self : St → Int32 → Int32 → Int32 → Int32 → Int32 → Option (Int32 × St)) (σ : St) (y3 : Int32) (y4 : Int32) (y5 : Int32) (y6 : Int32) (y7 : Int32) : Option (Int32 × St) :=
  if (f_X4_slotCount σ) ≤ y7 then
    some ((1 : Int32), σ)
  else
  lt_ ((y3 + y7) &&& ((f_X4_slotCount σ) - (1 : Int32))) fun v1 =>
  (f_X4_cellAt σ v1).bind fun v2 =>
  if (v2 &&& (1 : Int32)) = 0 then
    f_X4_decode_n95 b1 x2 self σ y3 y4 y5 y6 y7 v2
  else
  if (64 : Int32) ≤ y5 then
    f_X4_decode_n95 b1 x2 self σ y3 y4 y5 y6 y7 v2
  else
  if in_b y5 64 = true then
    lt_ (put_a σ 10 y5.toNatClampNeg v1) fun s3 =>
    lt_ (y5 + (1 : Int32)) fun v4 =>
    f_X4_decode_n95 b1 x2 self s3 y3 y4 v4 y6 y7 v2
  else none
def f_X4_decode_n36 (b1 : Nat) (x2 : Int32) : Nat → St → Int32 → Int32 → Int32 → Int32 → Int32 → Option (Int32 × St)
  | 0 => fun _ _ _ _ _ _ => none
  | n + 1 => fun σ y3 y4 y5 y6 y7 => f_X4_decode_n36_b b1 x2  (f_X4_decode_n36 b1 x2  n) σ y3 y4 y5 y6 y7
set_option maxRecDepth 100000 in
set_option maxHeartbeats 4000000 in
theorem t_X4_decode_n36_b {Γ : St → Nat → List (Nat × Value) → List Value → Prop} {l : Launch} {a : Nat → Nat} {r : Int32} {t' : St} (hC : Cx Γ l cX4_decode RX4 10 (some .boolean) Rm_X4_decode wC a (some (.int r)) t') (b1 : Nat) (x2 : Int32) (hb1 : b1 < 3) (self : St → Int32 → Int32 → Int32 → Int32 → Int32 → Option (Int32 × St)) (hself : ∀ (σ : St) (y3 : Int32) (y4 : Int32) (y5 : Int32) (y6 : Int32) (y7 : Int32), self σ y3 y4 y5 y6 y7 = some (r, t') → Γ σ 36 [(0, .ref (a 6)), (1, .ref (a (1 + b1))), (3, .int y3), (4, .int y4), (5, .int y5), (6, .int y6), (7, .int y7)] []) (σ : St) (y3 : Int32) (y4 : Int32) (y5 : Int32) (y6 : Int32) (y7 : Int32) (h : f_X4_decode_n36_b b1 x2 self σ y3 y4 y5 y6 y7 = some (r, t')) : Γ σ 36 [(0, .ref (a 6)), (1, .ref (a (1 + b1))), (3, .int y3), (4, .int y4), (5, .int y5), (6, .int y6), (7, .int y7)] [] := by
  unfold f_X4_decode_n36_b at h
  refine r_iload hC dX4_decode_36 6 rfl ?_
  refine r_aload_n hC dX4_decode_38 rfl 0 rfl ?_
  refine r_callV (As := []) (rest := [.int y7]) hC (con_X4_slotCount l σ rfl) K4_28 (ob4 a σ) rfl rfl rfl rfl ⟨Nat.le_of_ble_eq_true rfl, Nat.le_of_ble_eq_true rfl⟩ (Nat.le_of_ble_eq_true rfl) dX4_decode_39 ?_
  refine r_icmp_ge hC 163 dX4_decode_42 (by decide) (fun q => ?_) (fun q => ?_)
  · replace h := if_p q h
    refine r_iconst (v := 1) hC dX4_decode_163 (by decide) ?_
    exact r_zretS hC rfl dX4_decode_164 h
  · replace h := if_n q h
    refine r_iload_n hC dX4_decode_45 rfl 2 rfl ?_
    refine r_iload hC dX4_decode_46 6 rfl ?_
    refine r_iadd hC dX4_decode_48 ?_
    refine r_aload_n hC dX4_decode_49 rfl 0 rfl ?_
    refine r_callV (As := []) (rest := [.int (y3 + y7)]) hC (con_X4_slotCount l σ rfl) K4_28 (ob4 a σ) rfl rfl rfl rfl ⟨Nat.le_of_ble_eq_true rfl, Nat.le_of_ble_eq_true rfl⟩ (Nat.le_of_ble_eq_true rfl) dX4_decode_50 ?_
    refine r_iconst (v := 1) hC dX4_decode_53 (by decide) ?_
    refine r_isub hC dX4_decode_54 ?_
    refine r_iand hC dX4_decode_55 ?_
    obtain ⟨v1, ev1, h⟩ := lt_of h
    refine r_istore (lv' := [(8, .int v1), (0, .ref (a 6)), (1, .ref (a (1 + b1))), (3, .int y3), (4, .int y4), (5, .int y5), (6, .int y6), (7, .int y7)]) hC dX4_decode_56 (by decide) ev1 rfl ?_
    refine r_aload_n hC dX4_decode_58 rfl 1 rfl ?_
    refine r_iload hC dX4_decode_59 0 rfl ?_
    obtain ⟨v2, hv2, h⟩ := bind_of h
    refine r_callV (As := [.int v1]) (rest := []) hC (con_X4_cellAt l σ v1 hv2) K4_71 (ob4 a σ) rfl rfl rfl rfl ⟨Nat.le_of_ble_eq_true rfl, Nat.le_of_ble_eq_true rfl⟩ (Nat.le_of_ble_eq_true rfl) dX4_decode_61 ?_
    refine r_istore (lv' := [(9, .int v2), (8, .int v1), (0, .ref (a 6)), (1, .ref (a (1 + b1))), (3, .int y3), (4, .int y4), (5, .int y5), (6, .int y6), (7, .int y7)]) hC dX4_decode_64 (by decide) rfl rfl ?_
    refine r_iload hC dX4_decode_66 0 rfl ?_
    refine r_iconst (v := 1) hC dX4_decode_68 (by decide) ?_
    refine r_iand hC dX4_decode_69 ?_
    refine r_if_eq hC 95 dX4_decode_70 (by decide) (fun q => ?_) (fun q => ?_)
    · replace h := if_p q h
      refine r_sub hC [2, 3, 4, 5, 6, 7, 8, 0] rfl ?_
      exact t_X4_decode_n95 hC b1 x2 hb1 self hself σ y3 y4 y5 y6 y7 v2 h
    · replace h := if_n q h
      refine r_iload hC dX4_decode_73 6 rfl ?_
      refine r_aload_n hC dX4_decode_75 rfl 2 rfl ?_
      refine G4_15 hC dX4_decode_76 ?_
      refine N_homes hC dX4_decode_79 ?_
      refine r_icmp_ge hC 95 dX4_decode_80 (by decide) (fun q => ?_) (fun q => ?_)
      · replace h := if_p q h
        refine r_sub hC [2, 3, 4, 5, 6, 7, 8, 0] rfl ?_
        exact t_X4_decode_n95 hC b1 x2 hb1 self hself σ y3 y4 y5 y6 y7 v2 h
      · replace h := if_n q h
        refine r_aload_n hC dX4_decode_83 rfl 2 rfl ?_
        refine G4_15 hC dX4_decode_84 ?_
        refine r_iload hC dX4_decode_87 6 rfl ?_
        refine r_iload hC dX4_decode_89 1 rfl ?_
        obtain ⟨hi, h⟩ := inb_of h
        obtain ⟨s3, es3, h⟩ := lt_of h
        refine S_homes hC es3 hi dX4_decode_91 ?_
        obtain ⟨v4, ev4, h⟩ := lt_of h
        refine r_iinc (c1 := 1) (lv' := [(5, .int v4), (9, .int v2), (8, .int v1), (0, .ref (a 6)), (1, .ref (a (1 + b1))), (3, .int y3), (4, .int y4), (6, .int y6), (7, .int y7)]) hC dX4_decode_92 6 rfl (by decide) (by decide) ev4 rfl ?_
        refine r_sub hC [3, 4, 5, 6, 0, 7, 8, 1] rfl ?_
        exact t_X4_decode_n95 hC b1 x2 hb1 self hself s3 y3 y4 v4 y6 y7 v2 h
set_option maxRecDepth 100000 in
set_option maxHeartbeats 4000000 in
theorem t_X4_decode_n36 {Γ : St → Nat → List (Nat × Value) → List Value → Prop} {l : Launch} {a : Nat → Nat} {r : Int32} {t' : St} (hC : Cx Γ l cX4_decode RX4 10 (some .boolean) Rm_X4_decode wC a (some (.int r)) t') (b1 : Nat) (x2 : Int32) (hb1 : b1 < 3) (n : Nat) : ∀ (σ : St) (y3 : Int32) (y4 : Int32) (y5 : Int32) (y6 : Int32) (y7 : Int32), f_X4_decode_n36 b1 x2 n σ y3 y4 y5 y6 y7 = some (r, t') → Γ σ 36 [(0, .ref (a 6)), (1, .ref (a (1 + b1))), (3, .int y3), (4, .int y4), (5, .int y5), (6, .int y6), (7, .int y7)] [] := by
  induction n with
  | zero =>
    intro σ y3 y4 y5 y6 y7  h
    have h : (none : Option (Int32 × St)) = some (r, t') := h
    cases h
  | succ n ih =>
    intro σ y3 y4 y5 y6 y7  h
    exact t_X4_decode_n36_b hC b1 x2 hb1   (f_X4_decode_n36 b1 x2  n) ih σ y3 y4 y5 y6 y7  h
def f_X4_decode (σ : St) (b1 : Nat) (x2 : Int32) : Option (Int32 × St) :=
  (f_X0_emptyTo σ b1 (st_i σ 15)).bind fun s10 =>
  (f_X4_emptySlot s10).bind fun v11 =>
  if 0 ≤ v11 then
    lt_ (x2 - (st_i s10 15)) fun v12 =>
    f_X4_decode_n36 b1 x2 fuel s10 v11 v12 (0 : Int32) (0 : Int32) (1 : Int32)
  else
  some ((0 : Int32), s10)
set_option maxRecDepth 100000 in
set_option maxHeartbeats 4000000 in
theorem con_X4_decode (l : Launch) (σ : St) (b1 : Nat) (x2 : Int32) (hb1 : b1 < 3) {r : Int32} {t' : St} (h : f_X4_decode σ b1 x2 = some (r, t')) : Con l yX4_decode cX4_decode 10 (some .boolean) Rm_X4_decode wC (fun a => [.ref (a 6), .ref (a (1 + b1)), .int x2]) σ (fun _ => some (.int r)) t' := by
  refine con_of (by decide) ⟨rfl, rfl⟩ (fun _ => Nat.le_of_ble_eq_true rfl) (fun Γ a hC => ?_)
  have hC : Cx Γ l cX4_decode RX4 10 (some .boolean) Rm_X4_decode wC a (some (.int r)) t' := hC
  show Γ σ 0 [(0, .ref (a 6)), (1, .ref (a (1 + b1))), (2, .int x2)] []
  unfold f_X4_decode at h
  refine r_aload_n hC dX4_decode_0 rfl 1 rfl ?_
  refine r_aload_n hC dX4_decode_1 rfl 0 rfl ?_
  refine G4_18 hC dX4_decode_2 ?_
  obtain ⟨s10, hs10, h⟩ := bind_of h
  refine r_callV (As := [.int (st_i σ 15)]) (rest := []) hC (con_X0_emptyTo l σ b1 (st_i σ 15) hb1 hs10) K4_62 (ob0 a σ b1 hb1) rfl rfl rfl rfl ⟨Nat.le_of_ble_eq_true rfl, Nat.le_of_ble_eq_true rfl⟩ (Nat.le_of_ble_eq_true rfl) dX4_decode_5 ?_
  refine r_aload_n hC dX4_decode_8 rfl 0 rfl ?_
  obtain ⟨v11, hv11, h⟩ := bind_of h
  refine r_callV (As := []) (rest := []) hC (con_X4_emptySlot l s10 hv11) K4_68 (ob4 a s10) rfl rfl rfl rfl ⟨Nat.le_of_ble_eq_true rfl, Nat.le_of_ble_eq_true rfl⟩ (Nat.le_of_ble_eq_true rfl) dX4_decode_9 ?_
  refine r_istore_n (lv' := [(3, .int v11), (0, .ref (a 6)), (1, .ref (a (1 + b1))), (2, .int x2)]) hC dX4_decode_12 rfl (by decide) rfl rfl ?_
  refine r_iload_n hC dX4_decode_13 rfl 0 rfl ?_
  refine r_if_ge hC 19 dX4_decode_14 (by decide) (fun q => ?_) (fun q => ?_)
  · replace h := if_p q h
    refine r_iload_n hC dX4_decode_19 rfl 3 rfl ?_
    refine r_aload_n hC dX4_decode_20 rfl 1 rfl ?_
    refine G4_18 hC dX4_decode_21 ?_
    refine r_isub hC dX4_decode_24 ?_
    obtain ⟨v12, ev12, h⟩ := lt_of h
    refine r_istore (lv' := [(4, .int v12), (3, .int v11), (0, .ref (a 6)), (1, .ref (a (1 + b1))), (2, .int x2)]) hC dX4_decode_25 (by decide) ev12 rfl ?_
    refine r_iconst (v := 0) hC dX4_decode_27 (by decide) ?_
    refine r_istore (lv' := [(5, .int (0 : Int32)), (4, .int v12), (3, .int v11), (0, .ref (a 6)), (1, .ref (a (1 + b1))), (2, .int x2)]) hC dX4_decode_28 (by decide) rfl rfl ?_
    refine r_iconst (v := 0) hC dX4_decode_30 (by decide) ?_
    refine r_istore (lv' := [(6, .int (0 : Int32)), (5, .int (0 : Int32)), (4, .int v12), (3, .int v11), (0, .ref (a 6)), (1, .ref (a (1 + b1))), (2, .int x2)]) hC dX4_decode_31 (by decide) rfl rfl ?_
    refine r_iconst (v := 1) hC dX4_decode_33 (by decide) ?_
    refine r_istore (lv' := [(7, .int (1 : Int32)), (6, .int (0 : Int32)), (5, .int (0 : Int32)), (4, .int v12), (3, .int v11), (0, .ref (a 6)), (1, .ref (a (1 + b1))), (2, .int x2)]) hC dX4_decode_34 (by decide) rfl rfl ?_
    refine r_sub hC [5, 6, 4, 3, 2, 1, 0] rfl ?_
    exact t_X4_decode_n36 hC b1 x2 hb1 fuel s10 v11 v12 (0 : Int32) (0 : Int32) (1 : Int32) h
  · replace h := if_n q h
    refine r_iconst (v := 0) hC dX4_decode_17 (by decide) ?_
    exact r_zretS hC rfl dX4_decode_18 h
abbrev Rm_X4_hexOf : Room := { frames := 0, cells := 0, slots := 0, locals := 0 }
def f_X4_hexOf_n17 (σ : St) (x0 : Int32) : Int32 :=
  if x0 < (97 : Int32) then
    (-1 : Int32)
  else
  if (102 : Int32) < x0 then
    (-1 : Int32)
  else
  ((x0 - (97 : Int32)) + (10 : Int32))
set_option maxRecDepth 100000 in
set_option maxHeartbeats 4000000 in
theorem t_X4_hexOf_n17 {Γ : St → Nat → List (Nat × Value) → List Value → Prop} {l : Launch} {a : Nat → Nat} {r : Int32} {σ : St} (hC : Cx Γ l cX4_hexOf RX4 1 (some .int) Rm_X4_hexOf wC a (some (.int r)) σ) (x0 : Int32) (h : f_X4_hexOf_n17 σ x0 = r) : Γ σ 17 [(0, .int x0)] [] := by
  unfold f_X4_hexOf_n17 at h
  refine r_iload_n hC dX4_hexOf_17 rfl 0 rfl ?_
  refine r_bipush (v := 97) hC dX4_hexOf_18 (by decide) ?_
  refine r_icmp_lt hC 39 dX4_hexOf_20 (by decide) (fun q => ?_) (fun q => ?_)
  · replace h := if_p q h
    refine r_iconst (v := -1) hC dX4_hexOf_39 (by decide) ?_
    exact r_iretT hC dX4_hexOf_40 h
  · replace h := if_n q h
    refine r_iload_n hC dX4_hexOf_23 rfl 0 rfl ?_
    refine r_bipush (v := 102) hC dX4_hexOf_24 (by decide) ?_
    refine r_icmp_gt hC 39 dX4_hexOf_26 (by decide) (fun q => ?_) (fun q => ?_)
    · replace h := if_p q h
      refine r_iconst (v := -1) hC dX4_hexOf_39 (by decide) ?_
      exact r_iretT hC dX4_hexOf_40 h
    · replace h := if_n q h
      refine r_iload_n hC dX4_hexOf_29 rfl 0 rfl ?_
      refine r_bipush (v := 97) hC dX4_hexOf_30 (by decide) ?_
      refine r_isub hC dX4_hexOf_32 ?_
      refine r_bipush (v := 10) hC dX4_hexOf_33 (by decide) ?_
      refine r_iadd hC dX4_hexOf_35 ?_
      refine r_goto hC 40 dX4_hexOf_36 (by decide) ?_
      exact r_iretT hC dX4_hexOf_40 h
def f_X4_hexOf (σ : St) (x0 : Int32) : Int32 :=
  if x0 < (48 : Int32) then
    f_X4_hexOf_n17 σ x0
  else
  if (57 : Int32) < x0 then
    f_X4_hexOf_n17 σ x0
  else
  (x0 - (48 : Int32))
set_option maxRecDepth 100000 in
set_option maxHeartbeats 4000000 in
theorem con_X4_hexOf (l : Launch) (σ : St) (x0 : Int32) {r : Int32} (h : f_X4_hexOf σ x0 = r) : Con l yX4_hexOf cX4_hexOf 1 (some .int) Rm_X4_hexOf wC (fun a => [.int x0]) σ (fun _ => some (.int r)) σ := by
  refine con_of (by decide) ⟨rfl, rfl⟩ (fun _ => Nat.le_of_ble_eq_true rfl) (fun Γ a hC => ?_)
  have hC : Cx Γ l cX4_hexOf RX4 1 (some .int) Rm_X4_hexOf wC a (some (.int r)) σ := hC
  show Γ σ 0 [(0, .int x0)] []
  unfold f_X4_hexOf at h
  refine r_iload_n hC dX4_hexOf_0 rfl 0 rfl ?_
  refine r_bipush (v := 48) hC dX4_hexOf_1 (by decide) ?_
  refine r_icmp_lt hC 17 dX4_hexOf_3 (by decide) (fun q => ?_) (fun q => ?_)
  · replace h := if_p q h
    exact t_X4_hexOf_n17 hC x0 h
  · replace h := if_n q h
    refine r_iload_n hC dX4_hexOf_6 rfl 0 rfl ?_
    refine r_bipush (v := 57) hC dX4_hexOf_7 (by decide) ?_
    refine r_icmp_gt hC 17 dX4_hexOf_9 (by decide) (fun q => ?_) (fun q => ?_)
    · replace h := if_p q h
      exact t_X4_hexOf_n17 hC x0 h
    · replace h := if_n q h
      refine r_iload_n hC dX4_hexOf_12 rfl 0 rfl ?_
      refine r_bipush (v := 48) hC dX4_hexOf_13 (by decide) ?_
      refine r_isub hC dX4_hexOf_15 ?_
      exact r_iretT hC dX4_hexOf_16 h
abbrev Rm_X4_liesAs : Room := { frames := 1, cells := 0, slots := 0, locals := 21 }
def f_X4_liesAs_n2_b (σ : St) (c1 : Nat) (self : Int32 → Option Int32) (y2 : Int32) : Option Int32 :=
  if (f_X4_slotCount σ) ≤ y2 then
    some (1 : Int32)
  else
  (f_X4_cellAt σ y2).bind fun v1 =>
  (f_X2_cellAt σ c1 y2).bind fun v2 =>
  if v1 = v2 then
    lt_ (y2 + (1 : Int32)) fun v3 =>
    self v3
  else
  some (0 : Int32)
def f_X4_liesAs_n2 (σ : St) (c1 : Nat) : Nat → Int32 → Option Int32
  | 0 => fun _ => none
  | n + 1 => fun y2 => f_X4_liesAs_n2_b σ c1  (f_X4_liesAs_n2 σ c1  n) y2
set_option maxRecDepth 100000 in
set_option maxHeartbeats 4000000 in
theorem t_X4_liesAs_n2_b {Γ : St → Nat → List (Nat × Value) → List Value → Prop} {l : Launch} {a : Nat → Nat} {r : Int32} {σ : St} (hC : Cx Γ l cX4_liesAs RX4 3 (some .boolean) Rm_X4_liesAs wC a (some (.int r)) σ) (c1 : Nat) (hc1 : c1 < 2) (self : Int32 → Option Int32) (hself : ∀ (y2 : Int32), self y2 = some r → Γ σ 2 [(0, .ref (a 6)), (1, .ref (a (4 + c1))), (2, .int y2)] []) (y2 : Int32) (h : f_X4_liesAs_n2_b σ c1 self y2 = some r) : Γ σ 2 [(0, .ref (a 6)), (1, .ref (a (4 + c1))), (2, .int y2)] [] := by
  unfold f_X4_liesAs_n2_b at h
  refine r_iload_n hC dX4_liesAs_2 rfl 2 rfl ?_
  refine r_aload_n hC dX4_liesAs_3 rfl 0 rfl ?_
  refine r_callV (As := []) (rest := [.int y2]) hC (con_X4_slotCount l σ rfl) K4_28 (ob4 a σ) rfl rfl rfl rfl ⟨Nat.le_of_ble_eq_true rfl, Nat.le_of_ble_eq_true rfl⟩ (Nat.le_of_ble_eq_true rfl) dX4_liesAs_4 ?_
  refine r_icmp_ge hC 31 dX4_liesAs_7 (by decide) (fun q => ?_) (fun q => ?_)
  · replace h := if_p q h
    refine r_iconst (v := 1) hC dX4_liesAs_31 (by decide) ?_
    exact r_zretP hC rfl dX4_liesAs_32 h
  · replace h := if_n q h
    refine r_aload_n hC dX4_liesAs_10 rfl 0 rfl ?_
    refine r_iload_n hC dX4_liesAs_11 rfl 2 rfl ?_
    obtain ⟨v1, hv1, h⟩ := bind_of h
    refine r_callV (As := [.int y2]) (rest := []) hC (con_X4_cellAt l σ y2 hv1) K4_71 (ob4 a σ) rfl rfl rfl rfl ⟨Nat.le_of_ble_eq_true rfl, Nat.le_of_ble_eq_true rfl⟩ (Nat.le_of_ble_eq_true rfl) dX4_liesAs_12 ?_
    refine r_aload_n hC dX4_liesAs_15 rfl 1 rfl ?_
    refine r_iload_n hC dX4_liesAs_16 rfl 2 rfl ?_
    obtain ⟨v2, hv2, h⟩ := bind_of h
    refine r_callV (As := [.int y2]) (rest := [.int v1]) hC (con_X2_cellAt l σ c1 y2 hc1 hv2) K4_55 (ob2 a σ c1 hc1) rfl rfl rfl rfl ⟨Nat.le_of_ble_eq_true rfl, Nat.le_of_ble_eq_true rfl⟩ (Nat.le_of_ble_eq_true rfl) dX4_liesAs_17 ?_
    refine r_icmp_eq hC 25 dX4_liesAs_20 (by decide) (fun q => ?_) (fun q => ?_)
    · replace h := if_p q h
      obtain ⟨v3, ev3, h⟩ := lt_of h
      refine r_iinc (c1 := 1) (lv' := [(2, .int v3), (0, .ref (a 6)), (1, .ref (a (4 + c1)))]) hC dX4_liesAs_25 2 rfl (by decide) (by decide) ev3 rfl ?_
      refine r_goto hC 2 dX4_liesAs_28 (by decide) ?_
      refine r_sub hC [1, 2, 0] rfl ?_
      exact hself v3 h
    · replace h := if_n q h
      refine r_iconst (v := 0) hC dX4_liesAs_23 (by decide) ?_
      exact r_zretP hC rfl dX4_liesAs_24 h
set_option maxRecDepth 100000 in
set_option maxHeartbeats 4000000 in
theorem t_X4_liesAs_n2 {Γ : St → Nat → List (Nat × Value) → List Value → Prop} {l : Launch} {a : Nat → Nat} {r : Int32} {σ : St} (hC : Cx Γ l cX4_liesAs RX4 3 (some .boolean) Rm_X4_liesAs wC a (some (.int r)) σ) (c1 : Nat) (hc1 : c1 < 2) (n : Nat) : ∀ (y2 : Int32), f_X4_liesAs_n2 σ c1 n y2 = some r → Γ σ 2 [(0, .ref (a 6)), (1, .ref (a (4 + c1))), (2, .int y2)] [] := by
  induction n with
  | zero =>
    intro y2  h
    have h : (none : Option Int32) = some r := h
    cases h
  | succ n ih =>
    intro y2  h
    exact t_X4_liesAs_n2_b hC c1 hc1   (f_X4_liesAs_n2 σ c1  n) ih y2  h
def f_X4_liesAs (σ : St) (c1 : Nat) : Option Int32 :=
  f_X4_liesAs_n2 σ c1 fuel (0 : Int32)
set_option maxRecDepth 100000 in
set_option maxHeartbeats 4000000 in
theorem con_X4_liesAs (l : Launch) (σ : St) (c1 : Nat) (hc1 : c1 < 2) {r : Int32} (h : f_X4_liesAs σ c1 = some r) : Con l yX4_liesAs cX4_liesAs 3 (some .boolean) Rm_X4_liesAs wC (fun a => [.ref (a 6), .ref (a (4 + c1))]) σ (fun _ => some (.int r)) σ := by
  refine con_of (by decide) ⟨rfl, rfl⟩ (fun _ => Nat.le_of_ble_eq_true rfl) (fun Γ a hC => ?_)
  have hC : Cx Γ l cX4_liesAs RX4 3 (some .boolean) Rm_X4_liesAs wC a (some (.int r)) σ := hC
  show Γ σ 0 [(0, .ref (a 6)), (1, .ref (a (4 + c1)))] []
  unfold f_X4_liesAs at h
  refine r_iconst (v := 0) hC dX4_liesAs_0 (by decide) ?_
  refine r_istore_n (lv' := [(2, .int (0 : Int32)), (0, .ref (a 6)), (1, .ref (a (4 + c1)))]) hC dX4_liesAs_1 rfl (by decide) rfl rfl ?_
  refine r_sub hC [1, 2, 0] rfl ?_
  exact t_X4_liesAs_n2 hC c1 hc1 fuel (0 : Int32) h
abbrev Rm_X4_overlaid : Room := { frames := 0, cells := 0, slots := 0, locals := 0 }
def f_X4_overlaid_n6_b (σ : St) (x0 : Int32) (x1 : Int32) (x2 : Int32) (x3 : Int64) (self : Int32 → Int32 → Option Int32) (y5 : Int32) (y6 : Int32) : Option Int32 :=
  if x2 ≤ y6 then
    some y5
  else
  lt_ (x1 + y6) fun v1 =>
  if v1 < 0 then
    lt_ (y6 + (1 : Int32)) fun v2 =>
    self y5 v2
  else
  if (64 : Int32) ≤ v1 then
    lt_ (y6 + (1 : Int32)) fun v3 =>
    self y5 v3
  else
  lt_ (((((x3.toUInt64 >>> (v1.toInt64.toUInt64 &&& Int64.toUInt64 63)).toInt64)).toInt32) &&& (1 : Int32)) fun v4 =>
  lt_ ((y5 &&& (((1 : Int32) <<< (y6 &&& 31)) ^^^ (-1 : Int32))) ||| (v4 <<< (y6 &&& 31))) fun v5 =>
  lt_ (y6 + (1 : Int32)) fun v6 =>
  self v5 v6
def f_X4_overlaid_n6 (σ : St) (x0 : Int32) (x1 : Int32) (x2 : Int32) (x3 : Int64) : Nat → Int32 → Int32 → Option Int32
  | 0 => fun _ _ => none
  | n + 1 => fun y5 y6 => f_X4_overlaid_n6_b σ x0 x1 x2 x3  (f_X4_overlaid_n6 σ x0 x1 x2 x3  n) y5 y6
set_option maxRecDepth 100000 in
set_option maxHeartbeats 4000000 in
theorem t_X4_overlaid_n6_b {Γ : St → Nat → List (Nat × Value) → List Value → Prop} {l : Launch} {a : Nat → Nat} {r : Int32} {σ : St} (hC : Cx Γ l cX4_overlaid RX4 9 (some .int) Rm_X4_overlaid wC a (some (.int r)) σ) (x0 : Int32) (x1 : Int32) (x2 : Int32) (x3 : Int64) (self : Int32 → Int32 → Option Int32) (hself : ∀ (y5 : Int32) (y6 : Int32), self y5 y6 = some r → Γ σ 6 [(1, .int x1), (2, .int x2), (3, .long x3), (5, .int y5), (6, .int y6)] []) (y5 : Int32) (y6 : Int32) (h : f_X4_overlaid_n6_b σ x0 x1 x2 x3 self y5 y6 = some r) : Γ σ 6 [(1, .int x1), (2, .int x2), (3, .long x3), (5, .int y5), (6, .int y6)] [] := by
  unfold f_X4_overlaid_n6_b at h
  refine r_iload hC dX4_overlaid_6 4 rfl ?_
  refine r_iload_n hC dX4_overlaid_8 rfl 1 rfl ?_
  refine r_icmp_ge hC 62 dX4_overlaid_9 (by decide) (fun q => ?_) (fun q => ?_)
  · replace h := if_p q h
    refine r_iload hC dX4_overlaid_62 3 rfl ?_
    exact r_iretP hC dX4_overlaid_64 h
  · replace h := if_n q h
    refine r_iload_n hC dX4_overlaid_12 rfl 0 rfl ?_
    refine r_iload hC dX4_overlaid_13 4 rfl ?_
    refine r_iadd hC dX4_overlaid_15 ?_
    obtain ⟨v1, ev1, h⟩ := lt_of h
    refine r_istore (lv' := [(7, .int v1), (1, .int x1), (2, .int x2), (3, .long x3), (5, .int y5), (6, .int y6)]) hC dX4_overlaid_16 (by decide) ev1 rfl ?_
    refine r_iload hC dX4_overlaid_18 0 rfl ?_
    refine r_if_lt hC 56 dX4_overlaid_20 (by decide) (fun q => ?_) (fun q => ?_)
    · replace h := if_p q h
      obtain ⟨v2, ev2, h⟩ := lt_of h
      refine r_iinc (c1 := 1) (lv' := [(6, .int v2), (7, .int v1), (1, .int x1), (2, .int x2), (3, .long x3), (5, .int y5)]) hC dX4_overlaid_56 5 rfl (by decide) (by decide) ev2 rfl ?_
      refine r_goto hC 6 dX4_overlaid_59 (by decide) ?_
      refine r_sub hC [2, 3, 4, 5, 0] rfl ?_
      exact hself y5 v2 h
    · replace h := if_n q h
      refine r_iload hC dX4_overlaid_23 0 rfl ?_
      refine r_bipush (v := 64) hC dX4_overlaid_25 (by decide) ?_
      refine r_icmp_ge hC 56 dX4_overlaid_27 (by decide) (fun q => ?_) (fun q => ?_)
      · replace h := if_p q h
        obtain ⟨v3, ev3, h⟩ := lt_of h
        refine r_iinc (c1 := 1) (lv' := [(6, .int v3), (7, .int v1), (1, .int x1), (2, .int x2), (3, .long x3), (5, .int y5)]) hC dX4_overlaid_56 5 rfl (by decide) (by decide) ev3 rfl ?_
        refine r_goto hC 6 dX4_overlaid_59 (by decide) ?_
        refine r_sub hC [2, 3, 4, 5, 0] rfl ?_
        exact hself y5 v3 h
      · replace h := if_n q h
        refine r_lload_n hC dX4_overlaid_30 rfl 3 rfl ?_
        refine r_iload hC dX4_overlaid_31 0 rfl ?_
        refine r_lushr hC dX4_overlaid_33 ?_
        refine r_l2i hC dX4_overlaid_34 ?_
        refine r_iconst (v := 1) hC dX4_overlaid_35 (by decide) ?_
        refine r_iand hC dX4_overlaid_36 ?_
        obtain ⟨v4, ev4, h⟩ := lt_of h
        refine r_istore (lv' := [(8, .int v4), (7, .int v1), (1, .int x1), (2, .int x2), (3, .long x3), (5, .int y5), (6, .int y6)]) hC dX4_overlaid_37 (by decide) ev4 rfl ?_
        refine r_iload hC dX4_overlaid_39 5 rfl ?_
        refine r_iconst (v := 1) hC dX4_overlaid_41 (by decide) ?_
        refine r_iload hC dX4_overlaid_42 6 rfl ?_
        refine r_ishl hC dX4_overlaid_44 ?_
        refine r_iconst (v := -1) hC dX4_overlaid_45 (by decide) ?_
        refine r_ixor hC dX4_overlaid_46 ?_
        refine r_iand hC dX4_overlaid_47 ?_
        refine r_iload hC dX4_overlaid_48 0 rfl ?_
        refine r_iload hC dX4_overlaid_50 6 rfl ?_
        refine r_ishl hC dX4_overlaid_52 ?_
        refine r_ior hC dX4_overlaid_53 ?_
        obtain ⟨v5, ev5, h⟩ := lt_of h
        refine r_istore (lv' := [(5, .int v5), (8, .int v4), (7, .int v1), (1, .int x1), (2, .int x2), (3, .long x3), (6, .int y6)]) hC dX4_overlaid_54 (by decide) ev5 rfl ?_
        obtain ⟨v6, ev6, h⟩ := lt_of h
        refine r_iinc (c1 := 1) (lv' := [(6, .int v6), (5, .int v5), (8, .int v4), (7, .int v1), (1, .int x1), (2, .int x2), (3, .long x3)]) hC dX4_overlaid_56 6 rfl (by decide) (by decide) ev6 rfl ?_
        refine r_goto hC 6 dX4_overlaid_59 (by decide) ?_
        refine r_sub hC [4, 5, 6, 1, 0] rfl ?_
        exact hself v5 v6 h
set_option maxRecDepth 100000 in
set_option maxHeartbeats 4000000 in
theorem t_X4_overlaid_n6 {Γ : St → Nat → List (Nat × Value) → List Value → Prop} {l : Launch} {a : Nat → Nat} {r : Int32} {σ : St} (hC : Cx Γ l cX4_overlaid RX4 9 (some .int) Rm_X4_overlaid wC a (some (.int r)) σ) (x0 : Int32) (x1 : Int32) (x2 : Int32) (x3 : Int64) (n : Nat) : ∀ (y5 : Int32) (y6 : Int32), f_X4_overlaid_n6 σ x0 x1 x2 x3 n y5 y6 = some r → Γ σ 6 [(1, .int x1), (2, .int x2), (3, .long x3), (5, .int y5), (6, .int y6)] [] := by
  induction n with
  | zero =>
    intro y5 y6  h
    have h : (none : Option Int32) = some r := h
    cases h
  | succ n ih =>
    intro y5 y6  h
    exact t_X4_overlaid_n6_b hC x0 x1 x2 x3    (f_X4_overlaid_n6 σ x0 x1 x2 x3  n) ih y5 y6  h
def f_X4_overlaid (σ : St) (x0 : Int32) (x1 : Int32) (x2 : Int32) (x3 : Int64) : Option Int32 :=
  f_X4_overlaid_n6 σ x0 x1 x2 x3 fuel x0 (0 : Int32)
set_option maxRecDepth 100000 in
set_option maxHeartbeats 4000000 in
theorem con_X4_overlaid (l : Launch) (σ : St) (x0 : Int32) (x1 : Int32) (x2 : Int32) (x3 : Int64) {r : Int32} (h : f_X4_overlaid σ x0 x1 x2 x3 = some r) : Con l yX4_overlaid cX4_overlaid 9 (some .int) Rm_X4_overlaid wC (fun a => [.int x0, .int x1, .int x2, .long x3]) σ (fun _ => some (.int r)) σ := by
  refine con_of (by decide) ⟨rfl, rfl⟩ (fun _ => Nat.le_of_ble_eq_true rfl) (fun Γ a hC => ?_)
  have hC : Cx Γ l cX4_overlaid RX4 9 (some .int) Rm_X4_overlaid wC a (some (.int r)) σ := hC
  show Γ σ 0 [(0, .int x0), (1, .int x1), (2, .int x2), (3, .long x3)] []
  unfold f_X4_overlaid at h
  refine r_iload_n hC dX4_overlaid_0 rfl 0 rfl ?_
  refine r_istore (lv' := [(5, .int x0), (0, .int x0), (1, .int x1), (2, .int x2), (3, .long x3)]) hC dX4_overlaid_1 (by decide) rfl rfl ?_
  refine r_iconst (v := 0) hC dX4_overlaid_3 (by decide) ?_
  refine r_istore (lv' := [(6, .int (0 : Int32)), (5, .int x0), (0, .int x0), (1, .int x1), (2, .int x2), (3, .long x3)]) hC dX4_overlaid_4 (by decide) rfl rfl ?_
  refine r_sub hC [3, 4, 5, 1, 0] rfl ?_
  exact t_X4_overlaid_n6 hC x0 x1 x2 x3 fuel x0 (0 : Int32) h
abbrev Rm_X4_setCell : Room := { frames := 0, cells := 0, slots := 0, locals := 0 }
def f_X4_setCell (σ : St) (x1 : Int32) (x2 : Int32) : Option St :=
  if x1 < 0 then
    some σ
  else
  if (64 : Int32) ≤ x1 then
    some σ
  else
  if in_b x1 64 = true then
    lt_ (put_a σ 9 x1.toNatClampNeg x2) fun s1 =>
    some s1
  else none
set_option maxRecDepth 100000 in
set_option maxHeartbeats 4000000 in
theorem con_X4_setCell (l : Launch) (σ : St) (x1 : Int32) (x2 : Int32) {t' : St} (h : f_X4_setCell σ x1 x2 = some t') : Con l yX4_setCell cX4_setCell 3 none Rm_X4_setCell wC (fun a => [.ref (a 6), .int x1, .int x2]) σ (fun _ => none) t' := by
  refine con_of (by decide) ⟨rfl, rfl⟩ (fun _ => Nat.le_of_ble_eq_true rfl) (fun Γ a hC => ?_)
  have hC : Cx Γ l cX4_setCell RX4 3 none Rm_X4_setCell wC a (none) t' := hC
  show Γ σ 0 [(0, .ref (a 6)), (1, .int x1), (2, .int x2)] []
  unfold f_X4_setCell at h
  refine r_iload_n hC dX4_setCell_0 rfl 1 rfl ?_
  refine r_if_lt hC 20 dX4_setCell_1 (by decide) (fun q => ?_) (fun q => ?_)
  · replace h := if_p q h
    exact r_vretS hC dX4_setCell_20 h
  · replace h := if_n q h
    refine r_iload_n hC dX4_setCell_4 rfl 1 rfl ?_
    refine r_aload_n hC dX4_setCell_5 rfl 0 rfl ?_
    refine G4_9 hC dX4_setCell_6 ?_
    refine N_rcells hC dX4_setCell_9 ?_
    refine r_icmp_ge hC 20 dX4_setCell_10 (by decide) (fun q => ?_) (fun q => ?_)
    · replace h := if_p q h
      exact r_vretS hC dX4_setCell_20 h
    · replace h := if_n q h
      refine r_aload_n hC dX4_setCell_13 rfl 0 rfl ?_
      refine G4_9 hC dX4_setCell_14 ?_
      refine r_iload_n hC dX4_setCell_17 rfl 1 rfl ?_
      refine r_iload_n hC dX4_setCell_18 rfl 2 rfl ?_
      obtain ⟨hi, h⟩ := inb_of h
      obtain ⟨s1, es1, h⟩ := lt_of h
      refine S_rcells hC es1 hi dX4_setCell_19 ?_
      exact r_vretS hC dX4_setCell_20 h
abbrev Rm_X4_readCell : Room := { frames := 1, cells := 0, slots := 0, locals := 22 }
def f_X4_readCell_n44_b (x2 : Int32) (x3 : Int32) (self : St → Int32 → Int32 → Int32 → Int32 → Option (Int32 × St)) (σ : St) (y4 : Int32) (y5 : Int32) (y6 : Int32) (y7 : Int32) : Option (Int32 × St) :=
  if (y4 + (4 : Int32)) ≤ y7 then
    if y6 < ((1 : Int32) <<< (x3 &&& 31)) then
      (f_X4_setCell σ x2 ((y6 <<< ((3 : Int32) &&& 31)) ||| y5)).bind fun s1 =>
      some ((0 : Int32), s1)
    else
    some (((-1 : Int32) - (y4 + (3 : Int32))), σ)
  else
  (f_X5_at σ y7).bind fun v2 =>
  lt_ (f_X4_hexOf σ v2) fun v3 =>
  if 0 ≤ v3 then
    lt_ ((y6 * (16 : Int32)) + v3) fun v4 =>
    lt_ (y7 + (1 : Int32)) fun v5 =>
    self σ y4 y5 v4 v5
  else
  some (((-1 : Int32) - y7), σ)
def f_X4_readCell_n44 (x2 : Int32) (x3 : Int32) : Nat → St → Int32 → Int32 → Int32 → Int32 → Option (Int32 × St)
  | 0 => fun _ _ _ _ _ => none
  | n + 1 => fun σ y4 y5 y6 y7 => f_X4_readCell_n44_b x2 x3  (f_X4_readCell_n44 x2 x3  n) σ y4 y5 y6 y7
set_option maxRecDepth 100000 in
set_option maxHeartbeats 4000000 in
theorem t_X4_readCell_n44_b {Γ : St → Nat → List (Nat × Value) → List Value → Prop} {l : Launch} {a : Nat → Nat} {r : Int32} {t' : St} (hC : Cx Γ l cX4_readCell RX4 9 (some .int) Rm_X4_readCell wC a (some (.int r)) t') (x2 : Int32) (x3 : Int32) (self : St → Int32 → Int32 → Int32 → Int32 → Option (Int32 × St)) (hself : ∀ (σ : St) (y4 : Int32) (y5 : Int32) (y6 : Int32) (y7 : Int32), self σ y4 y5 y6 y7 = some (r, t') → Γ σ 44 [(0, .ref (a 6)), (1, .ref (a 8)), (2, .int x2), (3, .int x3), (4, .int y4), (5, .int y5), (6, .int y6), (7, .int y7)] []) (σ : St) (y4 : Int32) (y5 : Int32) (y6 : Int32) (y7 : Int32) (h : f_X4_readCell_n44_b x2 x3 self σ y4 y5 y6 y7 = some (r, t')) : Γ σ 44 [(0, .ref (a 6)), (1, .ref (a 8)), (2, .int x2), (3, .int x3), (4, .int y4), (5, .int y5), (6, .int y6), (7, .int y7)] [] := by
  unfold f_X4_readCell_n44_b at h
  refine r_iload hC dX4_readCell_44 7 rfl ?_
  refine r_iload hC dX4_readCell_46 4 rfl ?_
  refine r_iconst (v := 4) hC dX4_readCell_48 (by decide) ?_
  refine r_iadd hC dX4_readCell_49 ?_
  refine r_icmp_ge hC 90 dX4_readCell_50 (by decide) (fun q => ?_) (fun q => ?_)
  · replace h := if_p q h
    refine r_iload hC dX4_readCell_90 6 rfl ?_
    refine r_iconst (v := 1) hC dX4_readCell_92 (by decide) ?_
    refine r_iload_n hC dX4_readCell_93 rfl 3 rfl ?_
    refine r_ishl hC dX4_readCell_94 ?_
    refine r_icmp_lt hC 105 dX4_readCell_95 (by decide) (fun q => ?_) (fun q => ?_)
    · replace h := if_p q h
      refine r_aload_n hC dX4_readCell_105 rfl 0 rfl ?_
      refine r_iload_n hC dX4_readCell_106 rfl 2 rfl ?_
      refine r_iload hC dX4_readCell_107 6 rfl ?_
      refine r_iconst (v := 3) hC dX4_readCell_109 (by decide) ?_
      refine r_ishl hC dX4_readCell_110 ?_
      refine r_iload hC dX4_readCell_111 5 rfl ?_
      refine r_ior hC dX4_readCell_113 ?_
      obtain ⟨s1, hs1, h⟩ := bind_of h
      refine r_callV (As := [.int x2, .int ((y6 <<< ((3 : Int32) &&& 31)) ||| y5)]) (rest := []) hC (con_X4_setCell l σ x2 ((y6 <<< ((3 : Int32) &&& 31)) ||| y5) hs1) K4_42 (ob4 a σ) rfl rfl rfl rfl ⟨Nat.le_of_ble_eq_true rfl, Nat.le_of_ble_eq_true rfl⟩ (Nat.le_of_ble_eq_true rfl) dX4_readCell_114 ?_
      refine r_iconst (v := 0) hC dX4_readCell_117 (by decide) ?_
      exact r_iretS hC dX4_readCell_118 h
    · replace h := if_n q h
      refine r_iconst (v := -1) hC dX4_readCell_98 (by decide) ?_
      refine r_iload hC dX4_readCell_99 4 rfl ?_
      refine r_iconst (v := 3) hC dX4_readCell_101 (by decide) ?_
      refine r_iadd hC dX4_readCell_102 ?_
      refine r_isub hC dX4_readCell_103 ?_
      exact r_iretS hC dX4_readCell_104 h
  · replace h := if_n q h
    refine r_aload_n hC dX4_readCell_53 rfl 1 rfl ?_
    refine r_iload hC dX4_readCell_54 7 rfl ?_
    obtain ⟨v2, hv2, h⟩ := bind_of h
    refine r_callV (As := [.int y7]) (rest := []) hC (con_X5_at l σ y7 hv2) K4_22 (ob5 a σ) rfl rfl rfl rfl ⟨Nat.le_of_ble_eq_true rfl, Nat.le_of_ble_eq_true rfl⟩ (Nat.le_of_ble_eq_true rfl) dX4_readCell_56 ?_
    refine r_callS (As := [.int v2]) (rest := []) hC (con_X4_hexOf l σ v2 rfl) K4_39 rfl rfl rfl ⟨Nat.le_of_ble_eq_true rfl, Nat.le_of_ble_eq_true rfl⟩ (Nat.le_of_ble_eq_true rfl) dX4_readCell_59 ?_
    obtain ⟨v3, ev3, h⟩ := lt_of h
    refine r_istore (lv' := [(8, .int v3), (0, .ref (a 6)), (1, .ref (a 8)), (2, .int x2), (3, .int x3), (4, .int y4), (5, .int y5), (6, .int y6), (7, .int y7)]) hC dX4_readCell_62 (by decide) ev3 rfl ?_
    refine r_iload hC dX4_readCell_64 0 rfl ?_
    refine r_if_ge hC 74 dX4_readCell_66 (by decide) (fun q => ?_) (fun q => ?_)
    · replace h := if_p q h
      refine r_iload hC dX4_readCell_74 7 rfl ?_
      refine r_bipush (v := 16) hC dX4_readCell_76 (by decide) ?_
      refine r_imul hC dX4_readCell_78 ?_
      refine r_iload hC dX4_readCell_79 0 rfl ?_
      refine r_iadd hC dX4_readCell_81 ?_
      obtain ⟨v4, ev4, h⟩ := lt_of h
      refine r_istore (lv' := [(6, .int v4), (8, .int v3), (0, .ref (a 6)), (1, .ref (a 8)), (2, .int x2), (3, .int x3), (4, .int y4), (5, .int y5), (7, .int y7)]) hC dX4_readCell_82 (by decide) ev4 rfl ?_
      obtain ⟨v5, ev5, h⟩ := lt_of h
      refine r_iinc (c1 := 1) (lv' := [(7, .int v5), (6, .int v4), (8, .int v3), (0, .ref (a 6)), (1, .ref (a 8)), (2, .int x2), (3, .int x3), (4, .int y4), (5, .int y5)]) hC dX4_readCell_84 8 rfl (by decide) (by decide) ev5 rfl ?_
      refine r_goto hC 44 dX4_readCell_87 (by decide) ?_
      refine r_sub hC [3, 4, 5, 6, 7, 8, 1, 0] rfl ?_
      exact hself σ y4 y5 v4 v5 h
    · replace h := if_n q h
      refine r_iconst (v := -1) hC dX4_readCell_69 (by decide) ?_
      refine r_iload hC dX4_readCell_70 8 rfl ?_
      refine r_isub hC dX4_readCell_72 ?_
      exact r_iretS hC dX4_readCell_73 h
set_option maxRecDepth 100000 in
set_option maxHeartbeats 4000000 in
theorem t_X4_readCell_n44 {Γ : St → Nat → List (Nat × Value) → List Value → Prop} {l : Launch} {a : Nat → Nat} {r : Int32} {t' : St} (hC : Cx Γ l cX4_readCell RX4 9 (some .int) Rm_X4_readCell wC a (some (.int r)) t') (x2 : Int32) (x3 : Int32) (n : Nat) : ∀ (σ : St) (y4 : Int32) (y5 : Int32) (y6 : Int32) (y7 : Int32), f_X4_readCell_n44 x2 x3 n σ y4 y5 y6 y7 = some (r, t') → Γ σ 44 [(0, .ref (a 6)), (1, .ref (a 8)), (2, .int x2), (3, .int x3), (4, .int y4), (5, .int y5), (6, .int y6), (7, .int y7)] [] := by
  induction n with
  | zero =>
    intro σ y4 y5 y6 y7  h
    have h : (none : Option (Int32 × St)) = some (r, t') := h
    cases h
  | succ n ih =>
    intro σ y4 y5 y6 y7  h
    exact t_X4_readCell_n44_b hC x2 x3    (f_X4_readCell_n44 x2 x3  n) ih σ y4 y5 y6 y7  h
def f_X4_readCell (σ : St) (x2 : Int32) (x3 : Int32) : Option (Int32 × St) :=
  lt_ ((1 : Int32) + ((4 : Int32) * x2)) fun v6 =>
  (f_X5_at σ v6).bind fun v7 =>
  lt_ (f_X4_hexOf σ v7) fun v8 =>
  if v8 < 0 then
    some (((-1 : Int32) - v6), σ)
  else
  if v8 ≤ (7 : Int32) then
    lt_ (v6 + (1 : Int32)) fun v9 =>
    f_X4_readCell_n44 x2 x3 fuel σ v6 v8 (0 : Int32) v9
  else
  some (((-1 : Int32) - v6), σ)
set_option maxRecDepth 100000 in
set_option maxHeartbeats 4000000 in
theorem con_X4_readCell (l : Launch) (σ : St) (x2 : Int32) (x3 : Int32) {r : Int32} {t' : St} (h : f_X4_readCell σ x2 x3 = some (r, t')) : Con l yX4_readCell cX4_readCell 9 (some .int) Rm_X4_readCell wC (fun a => [.ref (a 6), .ref (a 8), .int x2, .int x3]) σ (fun _ => some (.int r)) t' := by
  refine con_of (by decide) ⟨rfl, rfl⟩ (fun _ => Nat.le_of_ble_eq_true rfl) (fun Γ a hC => ?_)
  have hC : Cx Γ l cX4_readCell RX4 9 (some .int) Rm_X4_readCell wC a (some (.int r)) t' := hC
  show Γ σ 0 [(0, .ref (a 6)), (1, .ref (a 8)), (2, .int x2), (3, .int x3)] []
  unfold f_X4_readCell at h
  refine r_iconst (v := 1) hC dX4_readCell_0 (by decide) ?_
  refine r_iconst (v := 4) hC dX4_readCell_1 (by decide) ?_
  refine r_iload_n hC dX4_readCell_2 rfl 2 rfl ?_
  refine r_imul hC dX4_readCell_3 ?_
  refine r_iadd hC dX4_readCell_4 ?_
  obtain ⟨v6, ev6, h⟩ := lt_of h
  refine r_istore (lv' := [(4, .int v6), (0, .ref (a 6)), (1, .ref (a 8)), (2, .int x2), (3, .int x3)]) hC dX4_readCell_5 (by decide) ev6 rfl ?_
  refine r_aload_n hC dX4_readCell_7 rfl 2 rfl ?_
  refine r_iload hC dX4_readCell_8 0 rfl ?_
  obtain ⟨v7, hv7, h⟩ := bind_of h
  refine r_callV (As := [.int v6]) (rest := []) hC (con_X5_at l σ v6 hv7) K4_22 (ob5 a σ) rfl rfl rfl rfl ⟨Nat.le_of_ble_eq_true rfl, Nat.le_of_ble_eq_true rfl⟩ (Nat.le_of_ble_eq_true rfl) dX4_readCell_10 ?_
  refine r_callS (As := [.int v7]) (rest := []) hC (con_X4_hexOf l σ v7 rfl) K4_39 rfl rfl rfl ⟨Nat.le_of_ble_eq_true rfl, Nat.le_of_ble_eq_true rfl⟩ (Nat.le_of_ble_eq_true rfl) dX4_readCell_13 ?_
  obtain ⟨v8, ev8, h⟩ := lt_of h
  refine r_istore (lv' := [(5, .int v8), (4, .int v6), (0, .ref (a 6)), (1, .ref (a 8)), (2, .int x2), (3, .int x3)]) hC dX4_readCell_16 (by decide) ev8 rfl ?_
  refine r_iload hC dX4_readCell_18 0 rfl ?_
  refine r_if_lt hC 30 dX4_readCell_20 (by decide) (fun q => ?_) (fun q => ?_)
  · replace h := if_p q h
    refine r_iconst (v := -1) hC dX4_readCell_30 (by decide) ?_
    refine r_iload hC dX4_readCell_31 1 rfl ?_
    refine r_isub hC dX4_readCell_33 ?_
    exact r_iretS hC dX4_readCell_34 h
  · replace h := if_n q h
    refine r_iload hC dX4_readCell_23 0 rfl ?_
    refine r_bipush (v := 7) hC dX4_readCell_25 (by decide) ?_
    refine r_icmp_le hC 35 dX4_readCell_27 (by decide) (fun q => ?_) (fun q => ?_)
    · replace h := if_p q h
      refine r_iconst (v := 0) hC dX4_readCell_35 (by decide) ?_
      refine r_istore (lv' := [(6, .int (0 : Int32)), (5, .int v8), (4, .int v6), (0, .ref (a 6)), (1, .ref (a 8)), (2, .int x2), (3, .int x3)]) hC dX4_readCell_36 (by decide) rfl rfl ?_
      refine r_iload hC dX4_readCell_38 2 rfl ?_
      refine r_iconst (v := 1) hC dX4_readCell_40 (by decide) ?_
      refine r_iadd hC dX4_readCell_41 ?_
      obtain ⟨v9, ev9, h⟩ := lt_of h
      refine r_istore (lv' := [(7, .int v9), (6, .int (0 : Int32)), (5, .int v8), (4, .int v6), (0, .ref (a 6)), (1, .ref (a 8)), (2, .int x2), (3, .int x3)]) hC dX4_readCell_42 (by decide) ev9 rfl ?_
      refine r_sub hC [4, 5, 6, 7, 3, 2, 1, 0] rfl ?_
      exact t_X4_readCell_n44 hC x2 x3 fuel σ v6 v8 (0 : Int32) v9 h
    · replace h := if_n q h
      refine r_iconst (v := -1) hC dX4_readCell_30 (by decide) ?_
      refine r_iload hC dX4_readCell_31 1 rfl ?_
      refine r_isub hC dX4_readCell_33 ?_
      exact r_iretS hC dX4_readCell_34 h
abbrev Rm_X4_readText : Room := { frames := 2, cells := 0, slots := 0, locals := 50 }
def f_X4_readText_n29_b (x2 : Int32) (self : St → Int32 → Option (Int32 × St)) (σ : St) (y4 : Int32) : Option (Int32 × St) :=
  if (f_X4_slotCount σ) ≤ y4 then
    lt_ ((1 : Int32) + ((4 : Int32) * (f_X4_slotCount σ))) fun v2 =>
    if (st_i σ 17) ≤ v2 then
      some ((0 : Int32), σ)
    else
    some (((-1 : Int32) - v2), σ)
  else
  bind2 (f_X4_readCell σ y4 (x2 - (st_i σ 15))) fun v4 s3 =>
  if 0 ≤ v4 then
    lt_ (y4 + (1 : Int32)) fun v5 =>
    self s3 v5
  else
  some (v4, s3)
def f_X4_readText_n29 (x2 : Int32) : Nat → St → Int32 → Option (Int32 × St)
  | 0 => fun _ _ => none
  | n + 1 => fun σ y4 => f_X4_readText_n29_b x2  (f_X4_readText_n29 x2  n) σ y4
set_option maxRecDepth 100000 in
set_option maxHeartbeats 4000000 in
theorem t_X4_readText_n29_b {Γ : St → Nat → List (Nat × Value) → List Value → Prop} {l : Launch} {a : Nat → Nat} {r : Int32} {t' : St} (hC : Cx Γ l cX4_readText RX4 6 (some .int) Rm_X4_readText wC a (some (.int r)) t') (x2 : Int32) (self : St → Int32 → Option (Int32 × St)) (hself : ∀ (σ : St) (y4 : Int32), self σ y4 = some (r, t') → Γ σ 29 [(0, .ref (a 6)), (1, .ref (a 8)), (2, .int x2), (4, .int y4)] []) (σ : St) (y4 : Int32) (h : f_X4_readText_n29_b x2 self σ y4 = some (r, t')) : Γ σ 29 [(0, .ref (a 6)), (1, .ref (a 8)), (2, .int x2), (4, .int y4)] [] := by
  unfold f_X4_readText_n29_b at h
  refine r_iload hC dX4_readText_29 3 rfl ?_
  refine r_aload_n hC dX4_readText_31 rfl 0 rfl ?_
  refine r_callV (As := []) (rest := [.int y4]) hC (con_X4_slotCount l σ rfl) K4_28 (ob4 a σ) rfl rfl rfl rfl ⟨Nat.le_of_ble_eq_true rfl, Nat.le_of_ble_eq_true rfl⟩ (Nat.le_of_ble_eq_true rfl) dX4_readText_32 ?_
  refine r_icmp_ge hC 67 dX4_readText_35 (by decide) (fun q => ?_) (fun q => ?_)
  · replace h := if_p q h
    refine r_iconst (v := 1) hC dX4_readText_67 (by decide) ?_
    refine r_iconst (v := 4) hC dX4_readText_68 (by decide) ?_
    refine r_aload_n hC dX4_readText_69 rfl 0 rfl ?_
    refine r_callV (As := []) (rest := [.int (4 : Int32), .int (1 : Int32)]) hC (con_X4_slotCount l σ rfl) K4_28 (ob4 a σ) rfl rfl rfl rfl ⟨Nat.le_of_ble_eq_true rfl, Nat.le_of_ble_eq_true rfl⟩ (Nat.le_of_ble_eq_true rfl) dX4_readText_70 ?_
    refine r_imul hC dX4_readText_73 ?_
    refine r_iadd hC dX4_readText_74 ?_
    obtain ⟨v2, ev2, h⟩ := lt_of h
    refine r_istore (lv' := [(4, .int v2), (0, .ref (a 6)), (1, .ref (a 8)), (2, .int x2)]) hC dX4_readText_75 (by decide) ev2 rfl ?_
    refine r_aload_n hC dX4_readText_77 rfl 2 rfl ?_
    refine G4_36 hC dX4_readText_78 ?_
    refine r_iload hC dX4_readText_81 0 rfl ?_
    refine r_icmp_le hC 93 dX4_readText_83 (by decide) (fun q => ?_) (fun q => ?_)
    · replace h := if_p q h
      refine r_iconst (v := 0) hC dX4_readText_93 (by decide) ?_
      exact r_iretS hC dX4_readText_94 h
    · replace h := if_n q h
      refine r_iconst (v := -1) hC dX4_readText_86 (by decide) ?_
      refine r_iload hC dX4_readText_87 0 rfl ?_
      refine r_isub hC dX4_readText_89 ?_
      refine r_goto hC 94 dX4_readText_90 (by decide) ?_
      exact r_iretS hC dX4_readText_94 h
  · replace h := if_n q h
    refine r_aload_n hC dX4_readText_38 rfl 0 rfl ?_
    refine r_aload_n hC dX4_readText_39 rfl 1 rfl ?_
    refine r_iload hC dX4_readText_40 3 rfl ?_
    refine r_iload_n hC dX4_readText_42 rfl 2 rfl ?_
    refine r_aload_n hC dX4_readText_43 rfl 0 rfl ?_
    refine G4_18 hC dX4_readText_44 ?_
    refine r_isub hC dX4_readText_47 ?_
    obtain ⟨v4, s3, hs3, h⟩ := bind2_of h
    refine r_callV (As := [.ref (a 8), .int y4, .int (x2 - (st_i σ 15))]) (rest := []) hC (con_X4_readCell l σ y4 (x2 - (st_i σ 15)) hs3) K4_32 (ob4 a σ) rfl rfl rfl rfl ⟨Nat.le_of_ble_eq_true rfl, Nat.le_of_ble_eq_true rfl⟩ (Nat.le_of_ble_eq_true rfl) dX4_readText_48 ?_
    refine r_istore (lv' := [(5, .int v4), (0, .ref (a 6)), (1, .ref (a 8)), (2, .int x2), (4, .int y4)]) hC dX4_readText_51 (by decide) rfl rfl ?_
    refine r_iload hC dX4_readText_53 0 rfl ?_
    refine r_if_ge hC 61 dX4_readText_55 (by decide) (fun q => ?_) (fun q => ?_)
    · replace h := if_p q h
      obtain ⟨v5, ev5, h⟩ := lt_of h
      refine r_iinc (c1 := 1) (lv' := [(4, .int v5), (5, .int v4), (0, .ref (a 6)), (1, .ref (a 8)), (2, .int x2)]) hC dX4_readText_61 4 rfl (by decide) (by decide) ev5 rfl ?_
      refine r_goto hC 29 dX4_readText_64 (by decide) ?_
      refine r_sub hC [2, 3, 4, 0] rfl ?_
      exact hself s3 v5 h
    · replace h := if_n q h
      refine r_iload hC dX4_readText_58 0 rfl ?_
      exact r_iretS hC dX4_readText_60 h
set_option maxRecDepth 100000 in
set_option maxHeartbeats 4000000 in
theorem t_X4_readText_n29 {Γ : St → Nat → List (Nat × Value) → List Value → Prop} {l : Launch} {a : Nat → Nat} {r : Int32} {t' : St} (hC : Cx Γ l cX4_readText RX4 6 (some .int) Rm_X4_readText wC a (some (.int r)) t') (x2 : Int32) (n : Nat) : ∀ (σ : St) (y4 : Int32), f_X4_readText_n29 x2 n σ y4 = some (r, t') → Γ σ 29 [(0, .ref (a 6)), (1, .ref (a 8)), (2, .int x2), (4, .int y4)] [] := by
  induction n with
  | zero =>
    intro σ y4  h
    have h : (none : Option (Int32 × St)) = some (r, t') := h
    cases h
  | succ n ih =>
    intro σ y4  h
    exact t_X4_readText_n29_b hC x2    (f_X4_readText_n29 x2  n) ih σ y4  h
def f_X4_readText_n21 (x2 : Int32) (σ : St) (y3 : Int32) : Option (Int32 × St) :=
  lt_ (put_i σ 15 y3) fun s1 =>
  f_X4_readText_n29 x2 fuel s1 (0 : Int32)
set_option maxRecDepth 100000 in
set_option maxHeartbeats 4000000 in
theorem t_X4_readText_n21 {Γ : St → Nat → List (Nat × Value) → List Value → Prop} {l : Launch} {a : Nat → Nat} {r : Int32} {t' : St} (hC : Cx Γ l cX4_readText RX4 6 (some .int) Rm_X4_readText wC a (some (.int r)) t') (x2 : Int32) (σ : St) (y3 : Int32) (h : f_X4_readText_n21 x2 σ y3 = some (r, t')) : Γ σ 21 [(0, .ref (a 6)), (1, .ref (a 8)), (2, .int x2), (3, .int y3)] [] := by
  unfold f_X4_readText_n21 at h
  refine r_aload_n hC dX4_readText_21 rfl 0 rfl ?_
  refine r_iload_n hC dX4_readText_22 rfl 3 rfl ?_
  obtain ⟨s1, es1, h⟩ := lt_of h
  refine P4_18 hC es1 dX4_readText_23 ?_
  refine r_iconst (v := 0) hC dX4_readText_26 (by decide) ?_
  refine r_istore (lv' := [(4, .int (0 : Int32)), (0, .ref (a 6)), (1, .ref (a 8)), (2, .int x2), (3, .int y3)]) hC dX4_readText_27 (by decide) rfl rfl ?_
  refine r_sub hC [1, 2, 3, 0] rfl ?_
  exact t_X4_readText_n29 hC x2 fuel s1 (0 : Int32) h
def f_X4_readText (σ : St) (x2 : Int32) : Option (Int32 × St) :=
  (f_X5_at σ (0 : Int32)).bind fun v6 =>
  lt_ (v6 - (48 : Int32)) fun v7 =>
  if v7 = (3 : Int32) then
    f_X4_readText_n21 x2 σ v7
  else
  if v7 = (4 : Int32) then
    f_X4_readText_n21 x2 σ v7
  else
  some ((-1 : Int32), σ)
set_option maxRecDepth 100000 in
set_option maxHeartbeats 4000000 in
theorem con_X4_readText (l : Launch) (σ : St) (x2 : Int32) {r : Int32} {t' : St} (h : f_X4_readText σ x2 = some (r, t')) : Con l yX4_readText cX4_readText 6 (some .int) Rm_X4_readText wC (fun a => [.ref (a 6), .ref (a 8), .int x2]) σ (fun _ => some (.int r)) t' := by
  refine con_of (by decide) ⟨rfl, rfl⟩ (fun _ => Nat.le_of_ble_eq_true rfl) (fun Γ a hC => ?_)
  have hC : Cx Γ l cX4_readText RX4 6 (some .int) Rm_X4_readText wC a (some (.int r)) t' := hC
  show Γ σ 0 [(0, .ref (a 6)), (1, .ref (a 8)), (2, .int x2)] []
  unfold f_X4_readText at h
  refine r_aload_n hC dX4_readText_0 rfl 1 rfl ?_
  refine r_iconst (v := 0) hC dX4_readText_1 (by decide) ?_
  obtain ⟨v6, hv6, h⟩ := bind_of h
  refine r_callV (As := [.int (0 : Int32)]) (rest := []) hC (con_X5_at l σ (0 : Int32) hv6) K4_22 (ob5 a σ) rfl rfl rfl rfl ⟨Nat.le_of_ble_eq_true rfl, Nat.le_of_ble_eq_true rfl⟩ (Nat.le_of_ble_eq_true rfl) dX4_readText_2 ?_
  refine r_bipush (v := 48) hC dX4_readText_5 (by decide) ?_
  refine r_isub hC dX4_readText_7 ?_
  obtain ⟨v7, ev7, h⟩ := lt_of h
  refine r_istore_n (lv' := [(3, .int v7), (0, .ref (a 6)), (1, .ref (a 8)), (2, .int x2)]) hC dX4_readText_8 rfl (by decide) ev7 rfl ?_
  refine r_iload_n hC dX4_readText_9 rfl 0 rfl ?_
  refine r_iconst (v := 3) hC dX4_readText_10 (by decide) ?_
  refine r_icmp_eq hC 21 dX4_readText_11 (by decide) (fun q => ?_) (fun q => ?_)
  · replace h := if_p q h
    refine r_sub hC [1, 2, 3, 0] rfl ?_
    exact t_X4_readText_n21 hC x2 σ v7 h
  · replace h := if_n q h
    refine r_iload_n hC dX4_readText_14 rfl 0 rfl ?_
    refine r_iconst (v := 4) hC dX4_readText_15 (by decide) ?_
    refine r_icmp_eq hC 21 dX4_readText_16 (by decide) (fun q => ?_) (fun q => ?_)
    · replace h := if_p q h
      refine r_sub hC [1, 2, 3, 0] rfl ?_
      exact t_X4_readText_n21 hC x2 σ v7 h
    · replace h := if_n q h
      refine r_iconst (v := -1) hC dX4_readText_19 (by decide) ?_
      exact r_iretS hC dX4_readText_20 h
abbrev Rm_X4_readWord : Room := { frames := 1, cells := 0, slots := 0, locals := 28 }
def f_X4_readWord_n49_b (c1 : Nat) (x2 : Int32) (x3 : Int64) (self : St → Int32 → Int32 → Option (Int32 × St)) (σ : St) (y5 : Int32) (y7 : Int32) : Option (Int32 × St) :=
  if (st_i σ (10 + 3 * c1)) ≤ y7 then
    some ((1 : Int32), σ)
  else
  (f_X2_cellAt σ c1 y7).bind fun v1 =>
  (f_X4_overlaid σ v1 ((y7 * y5) - (x2 * (64 : Int32))) y5 x3).bind fun v2 =>
  (f_X4_setCell σ y7 v2).bind fun s3 =>
  lt_ (y7 + (1 : Int32)) fun v4 =>
  self s3 y5 v4
def f_X4_readWord_n49 (c1 : Nat) (x2 : Int32) (x3 : Int64) : Nat → St → Int32 → Int32 → Option (Int32 × St)
  | 0 => fun _ _ _ => none
  | n + 1 => fun σ y5 y7 => f_X4_readWord_n49_b c1 x2 x3  (f_X4_readWord_n49 c1 x2 x3  n) σ y5 y7
set_option maxRecDepth 100000 in
set_option maxHeartbeats 4000000 in
theorem t_X4_readWord_n49_b {Γ : St → Nat → List (Nat × Value) → List Value → Prop} {l : Launch} {a : Nat → Nat} {r : Int32} {t' : St} (hC : Cx Γ l cX4_readWord RX4 8 (some .boolean) Rm_X4_readWord wC a (some (.int r)) t') (c1 : Nat) (x2 : Int32) (x3 : Int64) (hc1 : c1 < 2) (self : St → Int32 → Int32 → Option (Int32 × St)) (hself : ∀ (σ : St) (y5 : Int32) (y7 : Int32), self σ y5 y7 = some (r, t') → Γ σ 49 [(0, .ref (a 6)), (1, .ref (a (4 + c1))), (2, .int x2), (3, .long x3), (5, .int y5), (7, .int y7)] []) (σ : St) (y5 : Int32) (y7 : Int32) (h : f_X4_readWord_n49_b c1 x2 x3 self σ y5 y7 = some (r, t')) : Γ σ 49 [(0, .ref (a 6)), (1, .ref (a (4 + c1))), (2, .int x2), (3, .long x3), (5, .int y5), (7, .int y7)] [] := by
  unfold f_X4_readWord_n49_b at h
  refine r_iload hC dX4_readWord_49 5 rfl ?_
  refine r_aload_n hC dX4_readWord_51 rfl 1 rfl ?_
  refine G4_52 hC c1 hc1 dX4_readWord_52 ?_
  refine r_icmp_ge hC 92 dX4_readWord_55 (by decide) (fun q => ?_) (fun q => ?_)
  · replace h := if_p q h
    refine r_iconst (v := 1) hC dX4_readWord_92 (by decide) ?_
    exact r_zretS hC rfl dX4_readWord_93 h
  · replace h := if_n q h
    refine r_aload_n hC dX4_readWord_58 rfl 0 rfl ?_
    refine r_iload hC dX4_readWord_59 5 rfl ?_
    refine r_aload_n hC dX4_readWord_61 rfl 1 rfl ?_
    refine r_iload hC dX4_readWord_62 5 rfl ?_
    obtain ⟨v1, hv1, h⟩ := bind_of h
    refine r_callV (As := [.int y7]) (rest := [.int y7, .ref (a 6)]) hC (con_X2_cellAt l σ c1 y7 hc1 hv1) K4_55 (ob2 a σ c1 hc1) rfl rfl rfl rfl ⟨Nat.le_of_ble_eq_true rfl, Nat.le_of_ble_eq_true rfl⟩ (Nat.le_of_ble_eq_true rfl) dX4_readWord_64 ?_
    refine r_iload hC dX4_readWord_67 5 rfl ?_
    refine r_iload hC dX4_readWord_69 4 rfl ?_
    refine r_imul hC dX4_readWord_71 ?_
    refine r_iload_n hC dX4_readWord_72 rfl 2 rfl ?_
    refine r_bipush (v := 64) hC dX4_readWord_73 (by decide) ?_
    refine r_imul hC dX4_readWord_75 ?_
    refine r_isub hC dX4_readWord_76 ?_
    refine r_iload hC dX4_readWord_77 4 rfl ?_
    refine r_lload_n hC dX4_readWord_79 rfl 3 rfl ?_
    obtain ⟨v2, hv2, h⟩ := bind_of h
    refine r_callS (As := [.int v1, .int ((y7 * y5) - (x2 * (64 : Int32))), .int y5, .long x3]) (rest := [.int y7, .ref (a 6)]) hC (con_X4_overlaid l σ v1 ((y7 * y5) - (x2 * (64 : Int32))) y5 x3 hv2) K4_58 rfl rfl rfl ⟨Nat.le_of_ble_eq_true rfl, Nat.le_of_ble_eq_true rfl⟩ (Nat.le_of_ble_eq_true rfl) dX4_readWord_80 ?_
    obtain ⟨s3, hs3, h⟩ := bind_of h
    refine r_callV (As := [.int y7, .int v2]) (rest := []) hC (con_X4_setCell l σ y7 v2 hs3) K4_42 (ob4 a σ) rfl rfl rfl rfl ⟨Nat.le_of_ble_eq_true rfl, Nat.le_of_ble_eq_true rfl⟩ (Nat.le_of_ble_eq_true rfl) dX4_readWord_83 ?_
    obtain ⟨v4, ev4, h⟩ := lt_of h
    refine r_iinc (c1 := 1) (lv' := [(7, .int v4), (0, .ref (a 6)), (1, .ref (a (4 + c1))), (2, .int x2), (3, .long x3), (5, .int y5)]) hC dX4_readWord_86 5 rfl (by decide) (by decide) ev4 rfl ?_
    refine r_goto hC 49 dX4_readWord_89 (by decide) ?_
    refine r_sub hC [1, 2, 3, 4, 5, 0] rfl ?_
    exact hself s3 y5 v4 h
set_option maxRecDepth 100000 in
set_option maxHeartbeats 4000000 in
theorem t_X4_readWord_n49 {Γ : St → Nat → List (Nat × Value) → List Value → Prop} {l : Launch} {a : Nat → Nat} {r : Int32} {t' : St} (hC : Cx Γ l cX4_readWord RX4 8 (some .boolean) Rm_X4_readWord wC a (some (.int r)) t') (c1 : Nat) (x2 : Int32) (x3 : Int64) (hc1 : c1 < 2) (n : Nat) : ∀ (σ : St) (y5 : Int32) (y7 : Int32), f_X4_readWord_n49 c1 x2 x3 n σ y5 y7 = some (r, t') → Γ σ 49 [(0, .ref (a 6)), (1, .ref (a (4 + c1))), (2, .int x2), (3, .long x3), (5, .int y5), (7, .int y7)] [] := by
  induction n with
  | zero =>
    intro σ y5 y7  h
    have h : (none : Option (Int32 × St)) = some (r, t') := h
    cases h
  | succ n ih =>
    intro σ y5 y7  h
    exact t_X4_readWord_n49_b hC c1 x2 x3 hc1   (f_X4_readWord_n49 c1 x2 x3  n) ih σ y5 y7  h
def f_X4_readWord (σ : St) (c1 : Nat) (x2 : Int32) (x3 : Int64) : Option (Int32 × St) :=
  lt_ (put_i σ 15 (st_i σ (9 + 3 * c1))) fun s5 =>
  lt_ (f_X2_cellBits s5 c1) fun v6 =>
  lt_ (((st_i s5 (10 + 3 * c1)) * v6) - (x2 * (64 : Int32))) fun v7 =>
  if (64 : Int32) ≤ v7 then
    f_X4_readWord_n49 c1 x2 x3 fuel s5 v6 (0 : Int32)
  else
  if (lg_cmp ((x3.toUInt64 >>> (v7.toInt64.toUInt64 &&& Int64.toUInt64 63)).toInt64) (0 : Int64)) = 0 then
    f_X4_readWord_n49 c1 x2 x3 fuel s5 v6 (0 : Int32)
  else
  some ((0 : Int32), s5)
set_option maxRecDepth 100000 in
set_option maxHeartbeats 4000000 in
theorem con_X4_readWord (l : Launch) (σ : St) (c1 : Nat) (x2 : Int32) (x3 : Int64) (hc1 : c1 < 2) {r : Int32} {t' : St} (h : f_X4_readWord σ c1 x2 x3 = some (r, t')) : Con l yX4_readWord cX4_readWord 8 (some .boolean) Rm_X4_readWord wC (fun a => [.ref (a 6), .ref (a (4 + c1)), .int x2, .long x3]) σ (fun _ => some (.int r)) t' := by
  refine con_of (by decide) ⟨rfl, rfl⟩ (fun _ => Nat.le_of_ble_eq_true rfl) (fun Γ a hC => ?_)
  have hC : Cx Γ l cX4_readWord RX4 8 (some .boolean) Rm_X4_readWord wC a (some (.int r)) t' := hC
  show Γ σ 0 [(0, .ref (a 6)), (1, .ref (a (4 + c1))), (2, .int x2), (3, .long x3)] []
  unfold f_X4_readWord at h
  refine r_aload_n hC dX4_readWord_0 rfl 0 rfl ?_
  refine r_aload_n hC dX4_readWord_1 rfl 1 rfl ?_
  refine G4_46 hC c1 hc1 dX4_readWord_2 ?_
  obtain ⟨s5, es5, h⟩ := lt_of h
  refine P4_18 hC es5 dX4_readWord_5 ?_
  refine r_aload_n hC dX4_readWord_8 rfl 1 rfl ?_
  refine r_callV (As := []) (rest := []) hC (con_X2_cellBits l s5 c1 hc1 rfl) K4_49 (ob2 a s5 c1 hc1) rfl rfl rfl rfl ⟨Nat.le_of_ble_eq_true rfl, Nat.le_of_ble_eq_true rfl⟩ (Nat.le_of_ble_eq_true rfl) dX4_readWord_9 ?_
  obtain ⟨v6, ev6, h⟩ := lt_of h
  refine r_istore (lv' := [(5, .int v6), (0, .ref (a 6)), (1, .ref (a (4 + c1))), (2, .int x2), (3, .long x3)]) hC dX4_readWord_12 (by decide) ev6 rfl ?_
  refine r_aload_n hC dX4_readWord_14 rfl 2 rfl ?_
  refine G4_52 hC c1 hc1 dX4_readWord_15 ?_
  refine r_iload hC dX4_readWord_18 0 rfl ?_
  refine r_imul hC dX4_readWord_20 ?_
  refine r_iload_n hC dX4_readWord_21 rfl 3 rfl ?_
  refine r_bipush (v := 64) hC dX4_readWord_22 (by decide) ?_
  refine r_imul hC dX4_readWord_24 ?_
  refine r_isub hC dX4_readWord_25 ?_
  obtain ⟨v7, ev7, h⟩ := lt_of h
  refine r_istore (lv' := [(6, .int v7), (5, .int v6), (0, .ref (a 6)), (1, .ref (a (4 + c1))), (2, .int x2), (3, .long x3)]) hC dX4_readWord_26 (by decide) ev7 rfl ?_
  refine r_iload hC dX4_readWord_28 0 rfl ?_
  refine r_bipush (v := 64) hC dX4_readWord_30 (by decide) ?_
  refine r_icmp_ge hC 46 dX4_readWord_32 (by decide) (fun q => ?_) (fun q => ?_)
  · replace h := if_p q h
    refine r_iconst (v := 0) hC dX4_readWord_46 (by decide) ?_
    refine r_istore (lv' := [(7, .int (0 : Int32)), (6, .int v7), (5, .int v6), (0, .ref (a 6)), (1, .ref (a (4 + c1))), (2, .int x2), (3, .long x3)]) hC dX4_readWord_47 (by decide) rfl rfl ?_
    refine r_sub hC [3, 4, 5, 6, 2, 0] rfl ?_
    exact t_X4_readWord_n49 hC c1 x2 x3 hc1 fuel s5 v6 (0 : Int32) h
  · replace h := if_n q h
    refine r_lload_n hC dX4_readWord_35 rfl 5 rfl ?_
    refine r_iload hC dX4_readWord_36 0 rfl ?_
    refine r_lushr hC dX4_readWord_38 ?_
    refine r_lconst (v := 0) hC dX4_readWord_39 (by decide) ?_
    refine r_lcmp hC dX4_readWord_40 ?_
    refine r_if_eq hC 46 dX4_readWord_41 (by decide) (fun q => ?_) (fun q => ?_)
    · replace h := if_p q h
      refine r_iconst (v := 0) hC dX4_readWord_46 (by decide) ?_
      refine r_istore (lv' := [(7, .int (0 : Int32)), (6, .int v7), (5, .int v6), (0, .ref (a 6)), (1, .ref (a (4 + c1))), (2, .int x2), (3, .long x3)]) hC dX4_readWord_47 (by decide) rfl rfl ?_
      refine r_sub hC [3, 4, 5, 6, 2, 0] rfl ?_
      exact t_X4_readWord_n49 hC c1 x2 x3 hc1 fuel s5 v6 (0 : Int32) h
    · replace h := if_n q h
      refine r_iconst (v := 0) hC dX4_readWord_44 (by decide) ?_
      exact r_zretS hC rfl dX4_readWord_45 h
