/-! ===== String constants: length, charAt ===== -/
def str_len (i : Nat) : Int32 := nI (sxLen.getD i 0)
def str_at (i : Nat) (k : Int32) : Option Int32 := if in_b k (sxLen.getD i 0) = true then some ((((sxByt.getD i []).getD k.toNatClampNeg 0) &&& 255).toUInt32 % 65536).toInt32 else none
section STRR
variable {Γ : St → Nat → List (Nat × Value) → List Value → Prop} {l : Launch} {cc : ByteArray} {own : String} {nL : Nat} {rt : Option FieldType} {R : Room} {wf : Wd} {a : Nat → Nat} {rv : Option Value} {t' : St} {σ : St} {pc : Nat} {lv lv' : List (Nat × Value)} {st : List Value}
theorem r_ldcS (hC : Cx Γ l cc own nL rt R wf a rv t') (i : Nat) (hi : i < 8) {k : Nat} (ho : sxOwn.getD i "" = own) (hk : sxIdx.getD i 0 = k) (d : decode cc pc = .ok (.ldc k, 2)) (n : Γ σ (pc + 2) lv (.ref (a (100 + i)) :: st)) : Γ σ pc lv st := by
  obtain ⟨p, e, s, m, args, below, meth, c, D, cy, A, rfl, hx, hb, hml, hown, hlk, hr, hts, hK, hA, hX⟩ := hC
  intro ls H locs hl hP hD hS
  have hr2 := hX.2.1 i hi
  rw [ho, hk] at hr2
  exact va_ldcS hx hb hown hr2 d (n ls H locs hl hP hD hS)
theorem r_gets (hC : Cx Γ l cc own nL rt R wf a rv t') {C fn ds : String} {v : Value} {k : Nat} (hz : ∀ (A : Nat → Prop) (U : State) (H : Heap), SX A a U H → va_Z C fn ds v A U H) (hw : Cond.fieldLink own k C fn ds ∈ UU) (d : decode cc pc = .ok (.getstatic k, 3)) (n : Γ σ (pc + 3) lv (v :: st)) : Γ σ pc lv st := by
  obtain ⟨p, e, s, m, args, below, meth, c, D, cy, A, rfl, hx, hb, hml, hown, hlk, hr, hts, hK, hA, hX⟩ := hC
  intro ls H locs hl hP hD hS
  exact va_gets hx hb (hz A s s.heap hX) hS hown (hts _ hw) (fun _ h9 => h9) d (n ls H locs hl hP hD hS)
theorem r_getsQ (hC : Cx Γ l cc own nL rt R wf a rv t') {k : Nat} (hw : Cond.fieldLink own k "jdk/internal/util/Preconditions" "SIOOBE_FORMATTER" "Ljava/util/function/BiFunction;" ∈ UU) (d : decode cc pc = .ok (.getstatic k, 3)) (n : ∀ v : Value, (v = .null ∨ ∃ t, v = .ref t) → Γ σ (pc + 3) lv (v :: st)) : Γ σ pc lv st := by
  obtain ⟨p, e, s, m, args, below, meth, c, D, cy, A, rfl, hx, hb, hml, hown, hlk, hr, hts, hK, hA, hX⟩ := hC
  intro ls H locs hl hP hD hS
  rcases hX.2.2.2.2 with hz | ⟨t, hz⟩
  · exact va_gets hx hb hz hS hown (hts _ hw) (fun _ h9 => h9) d (n .null (Or.inl rfl) ls H locs hl hP hD hS)
  · exact va_gets hx hb hz hS hown (hts _ hw) (fun _ h9 => h9) d (n (.ref t) (Or.inr ⟨t, rfl⟩) ls H locs hl hP hD hS)
theorem r_sval (hC : Cx Γ l cc own nL rt R wf a rv t') (i : Nat) (hi : i < 8) {k : Nat} (hw : Cond.fieldLink own k "java/lang/String" "value" "[B" ∈ UU) (d : decode cc pc = .ok (.getfield k, 3)) (n : Γ σ (pc + 3) lv (.ref (a (200 + i)) :: st)) : Γ σ pc lv (.ref (a (100 + i)) :: st) := by
  obtain ⟨p, e, s, m, args, below, meth, c, D, cy, A, rfl, hx, hb, hml, hown, hlk, hr, hts, hK, hA, hX⟩ := hC
  intro ls H locs hl hP hD hS
  exact vk_getf hx hb (hX.1.1 i hi).2.2.1 hS hown (hts _ hw) (fun _ h9 => h9) d (n ls H locs hl hP hD hS)
theorem r_scod (hC : Cx Γ l cc own nL rt R wf a rv t') (i : Nat) (hi : i < 8) {k : Nat} (hw : Cond.fieldLink own k "java/lang/String" "coder" "B" ∈ UU) (d : decode cc pc = .ok (.getfield k, 3)) (n : Γ σ (pc + 3) lv (.int 0 :: st)) : Γ σ pc lv (.ref (a (100 + i)) :: st) := by
  obtain ⟨p, e, s, m, args, below, meth, c, D, cy, A, rfl, hx, hb, hml, hown, hlk, hr, hts, hK, hA, hX⟩ := hC
  intro ls H locs hl hP hD hS
  exact vk_getf hx hb (hX.1.1 i hi).2.1 hS hown (hts _ hw) (fun _ h9 => h9) d (n ls H locs hl hP hD hS)
theorem r_slen (hC : Cx Γ l cc own nL rt R wf a rv t') (i : Nat) (hi : i < 8) (d : decode cc pc = .ok (.arraylength, 1)) (n : Γ σ (pc + 1) lv (.int (nI (sxLen.getD i 0)) :: st)) : Γ σ pc lv (.ref (a (200 + i)) :: st) := by
  obtain ⟨p, e, s, m, args, below, meth, c, D, cy, A, rfl, hx, hb, hml, hown, hlk, hr, hts, hK, hA, hX⟩ := hC
  intro ls H locs hl hP hD hS
  exact va_tlen hx hb (hX.1.1 i hi).2.2.2 hS rfl d (n ls H locs hl hP hD hS)
theorem r_sbyte (hC : Cx Γ l cc own nL rt R wf a rv t') (i : Nat) (hi : i < 8) {k : Int32} (hk : in_b k (sxLen.getD i 0) = true) (d : decode cc pc = .ok (.baload, 1)) (n : Γ σ (pc + 1) lv (.int ((sxByt.getD i []).getD k.toNatClampNeg 0) :: st)) : Γ σ pc lv (.int k :: .ref (a (200 + i)) :: st) := by
  obtain ⟨p, e, s, m, args, below, meth, c, D, cy, A, rfl, hx, hb, hml, hown, hlk, hr, hts, hK, hA, hX⟩ := hC
  intro ls H locs hl hP hD hS
  exact va_tb hx hb (hX.1.1 i hi).2.2.2 hS (in_b_vp hk) rfl d (n ls H locs hl hP hD hS)
theorem r_nret {ty : FieldType} {v : Int32} (hC : Cx Γ l cc own nL (some ty) R wf a (some (.int v)) σ) (hz : narrow ty (.int v) = .int v) (d : decode cc pc = .ok (.ireturn, 1)) : Γ σ pc lv [.int v] := by
  obtain ⟨p, e, s, m, args, below, meth, c, D, cy, A, rfl, hx, hb, hml, hown, hlk, hr, hts, hK, hA, hX⟩ := hC
  intro ls H locs hl hP hD hS
  exact W.zret hx hb hr hz (fun t ht hW => ⟨⟨rfl, by rw [ht]; exact hP, va_K.moved hW.alike hK, hD⟩, hS.F ht⟩) hS.2.2 d hlk
theorem r_vretP (hC : Cx Γ l cc own nL none R wf a none σ) (d : decode cc pc = .ok (.return_, 1)) : Γ σ pc lv [] := r_vretS hC d rfl
theorem r_callVS (hC : Cx Γ l cc own nL rt R wf a rv t') (i : Nat) (hi : i < 8) {y : MethodName} {cc' : ByteArray} {nL' : Nat} {rt' : Option FieldType} {R' : Room} {av' : (Nat → Nat) → List Value} {rv1 : (Nat → Nat) → Option Value} {σ1 : St} (hc : Con l y cc' nL' rt' R' wf av' σ rv1 σ1) {idx n : Nat} (hw : CallOk own idx y cc' nL' rt' n ∧ Cond.instanceMethod y ∈ UU ∧ Cond.selects y.cls y y ∈ UU) (hy : y.cls = "java/lang/String")
    {As rest : List Value} (hav : av' a = .ref (a (100 + i)) :: As) (hn : As.length = n) (hst : st = As.reverse ++ .ref (a (100 + i)) :: rest) (hR : R'.frames + 1 ≤ R.frames ∧ 8 + (nL' + 11) + R'.locals ≤ R.locals) (hcat : (rest.map fun v => v.category).sum ≤ 8) (d : decode cc pc = .ok (.invokevirtual idx, 3))
    (n1 : Γ σ1 (pc + 3) lv ((rv1 a).toList ++ rest)) : Γ σ pc lv st := by
  obtain ⟨p, e, s, m, args, below, meth, c, D, cy, A, rfl, hx, hb, hml, hown, hlk, hr, hts, hK, hA, hX⟩ := hC
  intro ls H locs hl hP hD hS
  obtain ⟨c1, c2, hM⟩ := hc
  have hM := hM D cy a H.size
  rw [hav] at hM
  have hf := free_G (D := D) (cy := cy) hD hS hA
  have cw : CallW R s args own y.cls idx y cc' nL' rt' (Cond.code y cc' nL' rt' :: UU) R' 0 0 n := ⟨callB_of n hts (uu_good hw.1.1.2.2) rfl c1 c2 (hts _ hw.1.1.2.1) (hts _ hw.1.1.1) hw.1.2 hR, hts _ hw.2.1, hts _ hw.2.2⟩
  exact va_run_G (va_runV (As := As) (rest := rest) ⟨hx, hb, hml, hown, hts⟩ hM cw ⟨PC.blind, by rw [hy]; exact vk_recv (i := i) hX.1 hi hS, fun U hU hW => ⟨rfl, by rw [hU], by rw [hU]; exact hP, va_K.moved hW.alike hK, hD.weaken (fun _ _ _ _ => trivial), by rw [hU]; exact hX.warm hW hS.2.1 hf⟩⟩ rfl hn hl.1 hst (lv_room hcat) d ⟨Nat.zero_le _, Nat.zero_le _⟩) hS hf (fun H1 L1 h1 h2 h3 => n1 ls H1 L1 hl h1 h2 h3)
end STRR
theorem kS_335 : CallOk RJ0 335 yJ0_coder_7d493 cJ0_coder_7d493 1 (some .byte) 0 ∧ Cond.instanceMethod yJ0_coder_7d493 ∈ UU ∧ Cond.selects (yJ0_coder_7d493).cls yJ0_coder_7d493 yJ0_coder_7d493 ∈ UU := ⟨⟨⟨uu_t 972 (by decide +kernel) rfl, uu_t 10 (by decide +kernel) rfl, uu_t 975 (by decide +kernel) rfl⟩, by decide +kernel, by decide +kernel, by decide +kernel⟩, uu_t 973 (by decide +kernel) rfl, uu_t 974 (by decide +kernel) rfl⟩
theorem kS_492 : CallOk RJ0 492 yJ0_isLatin1_aae02 cJ0_isLatin1_aae02 1 (some .boolean) 0 ∧ Cond.instanceMethod yJ0_isLatin1_aae02 ∈ UU ∧ Cond.selects (yJ0_isLatin1_aae02).cls yJ0_isLatin1_aae02 yJ0_isLatin1_aae02 ∈ UU := ⟨⟨⟨uu_t 982 (by decide +kernel) rfl, uu_t 10 (by decide +kernel) rfl, uu_t 985 (by decide +kernel) rfl⟩, by decide +kernel, by decide +kernel, by decide +kernel⟩, uu_t 983 (by decide +kernel) rfl, uu_t 984 (by decide +kernel) rfl⟩
theorem kS_495 : CallOk RJ0 495 yJ1_charAt_3b067 cJ1_charAt_3b067 2 (some .char) 2 ∧ Cond.static yJ1_charAt_3b067 ∈ UU := ⟨⟨⟨uu_t 986 (by decide +kernel) rfl, uu_t 11 (by decide +kernel) rfl, uu_t 988 (by decide +kernel) rfl⟩, by decide +kernel, by decide +kernel, by decide +kernel⟩, uu_t 987 (by decide +kernel) rfl⟩
theorem kL_9 : CallOk RJ1 9 yJ0_checkIndex_df160 cJ0_checkIndex_df160 2 none 2 ∧ Cond.static yJ0_checkIndex_df160 ∈ UU := ⟨⟨⟨uu_t 989 (by decide +kernel) rfl, uu_t 10 (by decide +kernel) rfl, uu_t 991 (by decide +kernel) rfl⟩, by decide +kernel, by decide +kernel, by decide +kernel⟩, uu_t 990 (by decide +kernel) rfl⟩
theorem kS_1059 : CallOk RJ0 1059 yJ3_checkIndex_8e157 cJ3_checkIndex_8e157 3 (some .int) 3 ∧ Cond.static yJ3_checkIndex_8e157 ∈ UU := ⟨⟨⟨uu_t 994 (by decide +kernel) rfl, uu_t 12 (by decide +kernel) rfl, uu_t 996 (by decide +kernel) rfl⟩, by decide +kernel, by decide +kernel, by decide +kernel⟩, uu_t 995 (by decide +kernel) rfl⟩
theorem kM_31 : CallOk RX7 31 yJ0_length_8abf5 cJ0_length_8abf5 1 (some .int) 0 ∧ Cond.instanceMethod yJ0_length_8abf5 ∈ UU ∧ Cond.selects (yJ0_length_8abf5).cls yJ0_length_8abf5 yJ0_length_8abf5 ∈ UU := ⟨⟨⟨uu_t 968 (by decide +kernel) rfl, uu_t 10 (by decide +kernel) rfl, uu_t 971 (by decide +kernel) rfl⟩, by decide +kernel, by decide +kernel, by decide +kernel⟩, uu_t 969 (by decide +kernel) rfl, uu_t 970 (by decide +kernel) rfl⟩
theorem kM_37 : CallOk RX7 37 yJ0_charAt_5068e cJ0_charAt_5068e 2 (some .char) 1 ∧ Cond.instanceMethod yJ0_charAt_5068e ∈ UU ∧ Cond.selects (yJ0_charAt_5068e).cls yJ0_charAt_5068e yJ0_charAt_5068e ∈ UU := ⟨⟨⟨uu_t 978 (by decide +kernel) rfl, uu_t 10 (by decide +kernel) rfl, uu_t 981 (by decide +kernel) rfl⟩, by decide +kernel, by decide +kernel, by decide +kernel⟩, uu_t 979 (by decide +kernel) rfl, uu_t 980 (by decide +kernel) rfl⟩
abbrev Rm_S_coder : Room := { frames := 0, cells := 0, slots := 0, locals := 0 }
set_option maxRecDepth 100000 in
set_option maxHeartbeats 4000000 in
theorem con_S_coder (l : Launch) (wf : Wd) (σ : St) (i : Nat) (hi : i < 8) : Con l yJ0_coder_7d493 cJ0_coder_7d493 1 (some .byte) Rm_S_coder wf (fun a => [.ref (a (100 + i))]) σ (fun _ => some (.int 0)) σ := by
  refine con_of (by decide) ⟨rfl, rfl⟩ (fun _ => Nat.le_of_ble_eq_true rfl) (fun Γ a hC => ?_)
  have hC : Cx Γ l cJ0_coder_7d493 RJ0 1 (some .byte) Rm_S_coder wf a (some (.int 0)) σ := hC
  show Γ σ 0 [(0, .ref (a (100 + i)))] []
  refine r_gets hC (fun _ _ _ h => h.2.2.1) (uu_t 976 (by decide +kernel) rfl) dJ0_coder_7d493_0 ?_
  refine r_if_eq hC 13 dJ0_coder_7d493_3 (by decide) (fun q => absurd q (by decide)) (fun _ => ?_)
  refine r_aload_n hC dJ0_coder_7d493_6 rfl 0 rfl ?_
  refine r_scod hC i hi (uu_t 1254 (by decide +kernel) rfl) dJ0_coder_7d493_7 ?_
  refine r_goto hC 14 dJ0_coder_7d493_10 (by decide) ?_
  exact r_nret hC rfl dJ0_coder_7d493_14
abbrev Rm_S_isLatin1 : Room := { frames := 0, cells := 0, slots := 0, locals := 0 }
set_option maxRecDepth 100000 in
set_option maxHeartbeats 4000000 in
theorem con_S_isLatin1 (l : Launch) (wf : Wd) (σ : St) (i : Nat) (hi : i < 8) : Con l yJ0_isLatin1_aae02 cJ0_isLatin1_aae02 1 (some .boolean) Rm_S_isLatin1 wf (fun a => [.ref (a (100 + i))]) σ (fun _ => some (.int 1)) σ := by
  refine con_of (by decide) ⟨rfl, rfl⟩ (fun _ => Nat.le_of_ble_eq_true rfl) (fun Γ a hC => ?_)
  have hC : Cx Γ l cJ0_isLatin1_aae02 RJ0 1 (some .boolean) Rm_S_isLatin1 wf a (some (.int 1)) σ := hC
  show Γ σ 0 [(0, .ref (a (100 + i)))] []
  refine r_gets hC (fun _ _ _ h => h.2.2.1) (uu_t 976 (by decide +kernel) rfl) dJ0_isLatin1_aae02_0 ?_
  refine r_if_eq hC 17 dJ0_isLatin1_aae02_3 (by decide) (fun q => absurd q (by decide)) (fun _ => ?_)
  refine r_aload_n hC dJ0_isLatin1_aae02_6 rfl 0 rfl ?_
  refine r_scod hC i hi (uu_t 1254 (by decide +kernel) rfl) dJ0_isLatin1_aae02_7 ?_
  refine r_if_ne hC 17 dJ0_isLatin1_aae02_10 (by decide) (fun q => absurd rfl q) (fun _ => ?_)
  refine r_iconst (v := 1) hC dJ0_isLatin1_aae02_13 (by decide) ?_
  refine r_goto hC 18 dJ0_isLatin1_aae02_14 (by decide) ?_
  exact r_nret hC rfl dJ0_isLatin1_aae02_18
abbrev Rm_S_length : Room := { frames := 1, cells := 0, slots := 0, locals := 20 }
set_option maxRecDepth 100000 in
set_option maxHeartbeats 4000000 in
theorem con_S_length (l : Launch) (wf : Wd) (σ : St) (i : Nat) (hi : i < 8) : Con l yJ0_length_8abf5 cJ0_length_8abf5 1 (some .int) Rm_S_length wf (fun a => [.ref (a (100 + i))]) σ (fun _ => some (.int (str_len i))) σ := by
  refine con_of (by decide) ⟨rfl, rfl⟩ (fun _ => Nat.le_of_ble_eq_true rfl) (fun Γ a hC => ?_)
  have hC : Cx Γ l cJ0_length_8abf5 RJ0 1 (some .int) Rm_S_length wf a (some (.int (str_len i))) σ := hC
  show Γ σ 0 [(0, .ref (a (100 + i)))] []
  refine r_aload_n hC dJ0_length_8abf5_0 rfl 0 rfl ?_
  refine r_sval hC i hi (uu_t 1253 (by decide +kernel) rfl) dJ0_length_8abf5_1 ?_
  refine r_slen hC i hi dJ0_length_8abf5_4 ?_
  refine r_aload_n hC dJ0_length_8abf5_5 rfl 0 rfl ?_
  refine r_callVS (As := []) (rest := [.int (nI (sxLen.getD i 0))]) hC i hi (con_S_coder l wf σ i hi) kS_335 rfl rfl rfl rfl ⟨Nat.le_of_ble_eq_true rfl, Nat.le_of_ble_eq_true rfl⟩ (Nat.le_of_ble_eq_true rfl) dJ0_length_8abf5_6 ?_
  refine r_ishr hC dJ0_length_8abf5_9 ?_
  have hb8 : ∀ j, j < 8 → sxLen.getD j 0 < 2 ^ 31 := by decide
  have e : nI (sxLen.getD i 0) >>> ((0 : Int32) &&& 31) = str_len i := sc_shr0 (hb8 i hi)
  rw [← e] at hC
  exact r_nret hC rfl dJ0_length_8abf5_10
abbrev Rm_P_checkIndex : Room := { frames := 0, cells := 0, slots := 0, locals := 0 }
set_option maxRecDepth 100000 in
set_option maxHeartbeats 4000000 in
theorem con_P_checkIndex (l : Launch) (wf : Wd) (σ : St) (k n : Int32) (v : Value) (hv : v = .null ∨ ∃ t, v = .ref t) (h0 : ¬ k < 0) (h1 : k < n) : Con l yJ3_checkIndex_8e157 cJ3_checkIndex_8e157 3 (some .int) Rm_P_checkIndex wf (fun a => [.int k, .int n, v]) σ (fun _ => some (.int k)) σ := by
  refine con_of (by decide) ⟨rfl, rfl⟩ (fun _ => by rcases hv with rfl | ⟨t, rfl⟩ <;> exact Nat.le_of_ble_eq_true rfl) (fun Γ a hC => ?_)
  have hC : Cx Γ l cJ3_checkIndex_8e157 RJ3 3 (some .int) Rm_P_checkIndex wf a (some (.int k)) σ := hC
  show Γ σ 0 [(0, .int k), (1, .int n), (2, v)] []
  refine r_iload_n hC dJ3_checkIndex_8e157_0 rfl 0 rfl ?_
  refine r_if_lt hC 9 dJ3_checkIndex_8e157_1 (by decide) (fun q => absurd q h0) (fun _ => ?_)
  refine r_iload_n hC dJ3_checkIndex_8e157_4 rfl 0 rfl ?_
  refine r_iload_n hC dJ3_checkIndex_8e157_5 rfl 1 rfl ?_
  refine r_icmp_lt hC 16 dJ3_checkIndex_8e157_6 (by decide) (fun _ => ?_) (fun q => absurd h1 q)
  refine r_iload_n hC dJ3_checkIndex_8e157_16 rfl 0 rfl ?_
  exact r_nret hC rfl dJ3_checkIndex_8e157_17
abbrev Rm_S_checkIndex : Room := { frames := 1, cells := 0, slots := 0, locals := 22 }
set_option maxRecDepth 100000 in
set_option maxHeartbeats 4000000 in
theorem con_S_checkIndex (l : Launch) (wf : Wd) (σ : St) (k n : Int32) (h0 : ¬ k < 0) (h1 : k < n) : Con l yJ0_checkIndex_df160 cJ0_checkIndex_df160 2 none Rm_S_checkIndex wf (fun a => [.int k, .int n]) σ (fun _ => none) σ := by
  refine con_of (by decide) ⟨rfl, rfl⟩ (fun _ => Nat.le_of_ble_eq_true rfl) (fun Γ a hC => ?_)
  have hC : Cx Γ l cJ0_checkIndex_df160 RJ0 2 none Rm_S_checkIndex wf a (none) σ := hC
  show Γ σ 0 [(0, .int k), (1, .int n)] []
  refine r_iload_n hC dJ0_checkIndex_df160_0 rfl 0 rfl ?_
  refine r_iload_n hC dJ0_checkIndex_df160_1 rfl 1 rfl ?_
  refine r_getsQ hC (uu_t 992 (by decide +kernel) rfl) dJ0_checkIndex_df160_2 (fun v hv => ?_)
  refine r_callS (As := [.int k, .int n, v]) (rest := []) hC (con_P_checkIndex l wf σ k n v hv h0 h1) kS_1059 rfl rfl rfl ⟨Nat.le_of_ble_eq_true rfl, Nat.le_of_ble_eq_true rfl⟩ (Nat.le_of_ble_eq_true rfl) dJ0_checkIndex_df160_5 ?_
  refine r_pop hC dJ0_checkIndex_df160_8 rfl ?_
  exact r_vretP hC dJ0_checkIndex_df160_9
abbrev Rm_L_charAt : Room := { frames := 2, cells := 0, slots := 0, locals := 43 }
set_option maxRecDepth 100000 in
set_option maxHeartbeats 4000000 in
theorem con_L_charAt (l : Launch) (wf : Wd) (σ : St) (i : Nat) (hi : i < 8) (k r : Int32) (h : str_at i k = some r) : Con l yJ1_charAt_3b067 cJ1_charAt_3b067 2 (some .char) Rm_L_charAt wf (fun a => [.ref (a (200 + i)), .int k]) σ (fun _ => some (.int r)) σ := by
  refine con_of (by decide) ⟨rfl, rfl⟩ (fun _ => Nat.le_of_ble_eq_true rfl) (fun Γ a hC => ?_)
  have hC : Cx Γ l cJ1_charAt_3b067 RJ1 2 (some .char) Rm_L_charAt wf a (some (.int r)) σ := hC
  show Γ σ 0 [(0, .ref (a (200 + i))), (1, .int k)] []
  refine r_iload_n hC dJ1_charAt_3b067_0 rfl 1 rfl ?_
  refine r_aload_n hC dJ1_charAt_3b067_1 rfl 0 rfl ?_
  refine r_slen hC i hi dJ1_charAt_3b067_2 ?_
  obtain ⟨hk, h⟩ := inb_of h
  have hb8 : ∀ j, j < 8 → sxLen.getD j 0 < 2 ^ 31 := by decide
  have hv := in_b_vp hk
  have h0 : ¬ k < 0 := fun q => hv (Or.inl q)
  have h1 : k < nI (sxLen.getD i 0) := by
    obtain ⟨j, hj, rfl⟩ := vp_in_of hv (hb8 i hi)
    exact nI_lt hj (hb8 i hi)
  refine r_callS (As := [.int k, .int (nI (sxLen.getD i 0))]) (rest := []) hC (con_S_checkIndex l wf σ k _ h0 h1) kL_9 rfl rfl rfl ⟨Nat.le_of_ble_eq_true rfl, Nat.le_of_ble_eq_true rfl⟩ (Nat.le_of_ble_eq_true rfl) dJ1_charAt_3b067_3 ?_
  refine r_aload_n hC dJ1_charAt_3b067_6 rfl 0 rfl ?_
  refine r_iload_n hC dJ1_charAt_3b067_7 rfl 1 rfl ?_
  refine r_sbyte hC i hi hk dJ1_charAt_3b067_8 ?_
  refine r_sipush (v := 255) hC dJ1_charAt_3b067_9 (by decide) ?_
  refine r_iand hC dJ1_charAt_3b067_12 ?_
  refine r_i2c hC dJ1_charAt_3b067_13 ?_
  cases h
  exact r_nret hC (pk_nc _) dJ1_charAt_3b067_14
abbrev Rm_S_charAt : Room := { frames := 3, cells := 0, slots := 0, locals := 64 }
set_option maxRecDepth 100000 in
set_option maxHeartbeats 4000000 in
theorem con_S_charAt (l : Launch) (wf : Wd) (σ : St) (i : Nat) (hi : i < 8) (k r : Int32) (h : str_at i k = some r) : Con l yJ0_charAt_5068e cJ0_charAt_5068e 2 (some .char) Rm_S_charAt wf (fun a => [.ref (a (100 + i)), .int k]) σ (fun _ => some (.int r)) σ := by
  refine con_of (by decide) ⟨rfl, rfl⟩ (fun _ => Nat.le_of_ble_eq_true rfl) (fun Γ a hC => ?_)
  have hC : Cx Γ l cJ0_charAt_5068e RJ0 2 (some .char) Rm_S_charAt wf a (some (.int r)) σ := hC
  show Γ σ 0 [(0, .ref (a (100 + i))), (1, .int k)] []
  refine r_aload_n hC dJ0_charAt_5068e_0 rfl 0 rfl ?_
  refine r_callVS (As := []) (rest := []) hC i hi (con_S_isLatin1 l wf σ i hi) kS_492 rfl rfl rfl rfl ⟨Nat.le_of_ble_eq_true rfl, Nat.le_of_ble_eq_true rfl⟩ (Nat.le_of_ble_eq_true rfl) dJ0_charAt_5068e_1 ?_
  refine r_if_eq hC 16 dJ0_charAt_5068e_4 (by decide) (fun q => absurd q (by decide)) (fun _ => ?_)
  refine r_aload_n hC dJ0_charAt_5068e_7 rfl 0 rfl ?_
  refine r_sval hC i hi (uu_t 1253 (by decide +kernel) rfl) dJ0_charAt_5068e_8 ?_
  refine r_iload_n hC dJ0_charAt_5068e_11 rfl 1 rfl ?_
  refine r_callS (As := [.ref (a (200 + i)), .int k]) (rest := []) hC (con_L_charAt l wf σ i hi k r h) kS_495 rfl rfl rfl ⟨Nat.le_of_ble_eq_true rfl, Nat.le_of_ble_eq_true rfl⟩ (Nat.le_of_ble_eq_true rfl) dJ0_charAt_5068e_12 ?_
  have hn : narrow .char (.int r) = .int r := by
    obtain ⟨hk, h⟩ := inb_of h
    cases h
    exact pk_nc _
  exact r_nret hC hn dJ0_charAt_5068e_15
section STRC
variable {Γ : St → Nat → List (Nat × Value) → List Value → Prop} {l : Launch} {cc : ByteArray} {nL : Nat} {rt : Option FieldType} {R : Room} {a : Nat → Nat} {rv : Option Value} {t' : St} {σ : St} {pc : Nat} {lv lv' : List (Nat × Value)} {st : List Value}
theorem r_strlen (hC : Cx Γ l cc RX7 nL rt R wM a rv t') (i : Nat) (hi : i < 8) (d : decode cc pc = .ok (.invokevirtual 31, 3)) (h1 : 2 ≤ R.frames) (h2 : 40 ≤ R.locals) (hcat : (st.map fun v => v.category).sum ≤ 8) (n : Γ σ (pc + 3) lv (.int (str_len i) :: st)) : Γ σ pc lv (.ref (a (100 + i)) :: st) :=
  r_callVS (As := []) (rest := st) hC i hi (con_S_length l wM σ i hi) kM_31 rfl rfl rfl rfl ⟨h1, h2⟩ hcat d n
theorem r_strat (hC : Cx Γ l cc RX7 nL rt R wM a rv t') (i : Nat) (hi : i < 8) {k r : Int32} (h : str_at i k = some r) (d : decode cc pc = .ok (.invokevirtual 37, 3)) (h1 : 4 ≤ R.frames) (h2 : 85 ≤ R.locals) (hcat : (st.map fun v => v.category).sum ≤ 8) (n : Γ σ (pc + 3) lv (.int r :: st)) : Γ σ pc lv (.int k :: .ref (a (100 + i)) :: st) :=
  r_callVS (As := [.int k]) (rest := st) hC i hi (con_S_charAt l wM σ i hi k r h) kM_37 rfl rfl rfl rfl ⟨h1, h2⟩ hcat d n
end STRC
