/-! bagOf by hand -/
abbrev Rm_X6_bagOf : Room := { frames := 0, cells := 0, slots := 0, locals := 0 }
def f_X6_bagOf (x : Int32) : Option Nat := if x = 0 then some 0 else if x = 1 then some 1 else none
theorem bagOf_lt {x : Int32} {z : Nat} (h : f_X6_bagOf x = some z) : z < 3 := by
  unfold f_X6_bagOf at h
  split at h
  · cases h; decide
  · split at h
    · cases h; decide
    · cases h
set_option maxRecDepth 100000 in
set_option maxHeartbeats 4000000 in
theorem con_X6_bagOf (l : Launch) (σ : St) (x1 : Int32) : Con l yX6_bagOf cX6_bagOf 2 (some (.object "QuotientFile$Bag")) Rm_X6_bagOf wC (fun a => [.ref (a 0), .int x1]) σ (fun a => some (rb_ a (f_X6_bagOf x1))) σ := by
  refine con_of (by decide) ⟨rfl, rfl⟩ (fun _ => Nat.le_of_ble_eq_true rfl) (fun Γ a hC => ?_)
  have hC : Cx Γ l cX6_bagOf RX6 2 (some (.object "QuotientFile$Bag")) Rm_X6_bagOf wC a (some (rb_ a (f_X6_bagOf x1))) σ := hC
  show Γ σ 0 [(0, .ref (a 0)), (1, .int x1)] []
  refine r_iload_n hC dX6_bagOf_0 rfl 1 rfl ?_
  refine r_if_ne hC 9 dX6_bagOf_1 (by decide) (fun q => ?_) (fun q => ?_)
  · refine r_iload_n hC dX6_bagOf_9 rfl 1 rfl ?_
    refine r_iconst (v := 1) hC dX6_bagOf_10 (by decide) ?_
    refine r_icmp_ne hC 21 dX6_bagOf_11 (by decide) (fun q2 => ?_) (fun q2 => ?_)
    · refine r_null hC dX6_bagOf_21 ?_
      have e : rb_ a (f_X6_bagOf x1) = .null := by simp [f_X6_bagOf, rb_, q, q2]
      rw [e] at hC
      exact r_aret hC (Or.inl rfl) dX6_bagOf_22
    · refine r_aload_n hC dX6_bagOf_14 rfl 0 rfl ?_
      refine G6_27 hC dX6_bagOf_15 ?_
      refine r_goto hC 22 dX6_bagOf_18 (by decide) ?_
      have e : rb_ a (f_X6_bagOf x1) = .ref (a 2) := by rw [q2]; rfl
      rw [e] at hC
      exact r_aret hC (Or.inr ⟨_, rfl⟩) dX6_bagOf_22
  · refine r_aload_n hC dX6_bagOf_4 rfl 0 rfl ?_
    refine G6_23 hC dX6_bagOf_5 ?_
    have e : rb_ a (f_X6_bagOf x1) = .ref (a 1) := by rw [q]; rfl
    rw [e] at hC
    exact r_aret hC (Or.inr ⟨_, rfl⟩) dX6_bagOf_8
