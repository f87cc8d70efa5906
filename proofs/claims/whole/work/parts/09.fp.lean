/-! ===== doubles and floats: two divisions, their bits ===== -/
def ok64 (r : UInt64) : Bool := decide (r &&& 0x7fffffffffffffff ≤ 0x7ff0000000000000)
def ok32 (r : UInt32) : Bool := decide (r &&& 0x7fffffff ≤ 0x7f800000)
def fp_dbits (b : UInt64) : Option Int64 := if Op.cmpValue (FP.dcmp b b) CmpOp.l = 0 then some b.toInt64 else none
def fp_fbits (b : UInt32) : Option Int32 := if Op.cmpValue (FP.fcmp b b) CmpOp.l = 0 then some b.toInt32 else none
theorem okd_of {β : Type} {b : Bool} {A : Option β} {r : β} (h : (if b = true then A else none) = some r) : b = true ∧ A = some r := by
  cases b with
  | false => cases h
  | true => exact ⟨rfl, h⟩
theorem met_ofWF {l : Launch} {y : MethodName} {ws ws' : List Cond} {rm : Room} {Pc : Array Value → State → Prop} {Qc : Array Value → State → Outcome → State → Prop} {mc ms : Nat} {free : Addr → Prop} {cc : ByteArray} {maxL : Nat} {ret : Option FieldType}
    (hy : plainFor y = true) (hw : ws = Cond.code y cc maxL ret :: ws')
    (body : ∀ p e s m args below meth c s₁, BodyLoose p l y (headSpec ws rm) cc maxL ret e s m args below meth c s₁ → c.maxLocals = maxL → Pc args s →
      W p l e (headSpec ws rm).room s m args below meth c s.heap [] 0 0 (MQ below Qc args s mc ms free) (entryFrame m args maxL)) : Met l y ws rm Pc Qc mc ms free := by
  refine MetFree.of_bodySF (code := cc) (maxLocals := maxL) (ret := ret) hy ?_ ?_
  · intro args s m h hn
    obtain ⟨meth, c, h1, h2, h3, h4, h5, h6, -, -⟩ := Cond.code_spec hn (atoms_spec (ws := ws) h _ (by rw [hw]; exact List.mem_cons_self))
    exact ⟨meth, c, h1, h2, h3, h4, h5, h6⟩
  · intro p e s m args below meth c s₁ B hml hP _
    have hh0 : s₁.heap = s.heap := by rw [B.state]; rfl
    obtain ⟨t, a1, o, b1, b2, b3⟩ := body p e s m args below meth c s₁ B hml hP s₁ hh0 (Stand.of_body B)
    exact ⟨t, o, a1, b1, b2, ⟨b3.1, b3.2⟩⟩
theorem con_ofF {l : Launch} {y : MethodName} {cc : ByteArray} {nL : Nat} {rt : Option FieldType} {R : Room} {wf : Wd} {av : (Nat → Nat) → List Value} {σ : St} {rv : (Nat → Nat) → Option Value} {t' : St} (hy : plainFor y = true) (hR : R.cells = 0 ∧ R.slots = 0) (hlen : ∀ a, (lg_sl (av a)).length ≤ nL)
    (body : ∀ Γ a, Cx Γ l cc y.cls nL rt R wf a (rv a) t' → Γ σ 0 (lv_args 0 (av a)) []) : Con l y cc nL rt R wf av σ rv t' := by
  refine ⟨hR.1, hR.2, fun D cy a sz => ?_⟩
  refine met_ofWF (cc := cc) (maxL := nL) (ret := rt) hy rfl ?_
  intro p e s m args below meth c s₁ B hml hv
  obtain ⟨rfl, hsz, hP, hK, hD0, hX⟩ := hv
  have hts0 := atoms_spec (ws := Cond.code y cc nL rt :: UU) B.pre
  subst hsz
  have hD := hD0.self (sz := s.heap.size)
  have hl := lv_entry (av a) (n := nL) (hlen a)
  rw [lg_entry_eq]
  have hx := body _ a ⟨p, e, s, m, _, below, meth, c, D, cy, va_A (wf cy a σ) s.heap.size, rfl, B.exec, B.bytes, hml, findClass_of_methodNamed B.named, B.notSynchronized, B.returns, fun w h => hts0 w (List.mem_cons_of_mem _ h), hK, fun q h => Or.inr h, hX⟩
  exact hx _ _ _ hl hP hD va_S.rf
section FPR
variable {Γ : St → Nat → List (Nat × Value) → List Value → Prop} {l : Launch} {cc : ByteArray} {own : String} {nL : Nat} {rt : Option FieldType} {R : Room} {wf : Wd} {a : Nat → Nat} {rv : Option Value} {t' : St} {σ : St} {pc : Nat} {lv lv' : List (Nat × Value)} {st : List Value}
theorem r_i2d (hC : Cx Γ l cc own nL rt R wf a rv t') {x : Int32} (d : decode cc pc = .ok (.i2d, 1)) (n : Γ σ (pc + 1) lv (.double (FP.i2d x) :: st)) : Γ σ pc lv (.int x :: st) := by
  obtain ⟨p, e, s, m, args, below, meth, c, D, cy, A, rfl, hx, hb, hml, hown, hlk, hr, hts, hK, hA, hX⟩ := hC
  intro ls H locs hl hP hD hS
  exact lv_i2d hx hb d (n ls H locs hl hP hD hS)
theorem r_i2f (hC : Cx Γ l cc own nL rt R wf a rv t') {x : Int32} (d : decode cc pc = .ok (.i2f, 1)) (n : Γ σ (pc + 1) lv (.float (FP.i2f x) :: st)) : Γ σ pc lv (.int x :: st) := by
  obtain ⟨p, e, s, m, args, below, meth, c, D, cy, A, rfl, hx, hb, hml, hown, hlk, hr, hts, hK, hA, hX⟩ := hC
  intro ls H locs hl hP hD hS
  exact lv_i2f hx hb d (n ls H locs hl hP hD hS)
theorem r_ddiv (hC : Cx Γ l cc own nL rt R wf a rv t') {x y : UInt64} (hz : ok64 (FP.ddiv x y) = true) (d : decode cc pc = .ok (.ddiv, 1)) (n : Γ σ (pc + 1) lv (.double (FP.ddiv x y) :: st)) : Γ σ pc lv (.double y :: .double x :: st) := by
  obtain ⟨p, e, s, m, args, below, meth, c, D, cy, A, rfl, hx, hb, hml, hown, hlk, hr, hts, hK, hA, hX⟩ := hC
  intro ls H locs hl hP hD hS
  exact lv_ddiv hx hb d (by unfold vf_n64; exact of_decide_eq_true hz) (n ls H locs hl hP hD hS)
theorem r_fdiv (hC : Cx Γ l cc own nL rt R wf a rv t') {x y : UInt32} (hz : ok32 (FP.fdiv x y) = true) (d : decode cc pc = .ok (.fdiv, 1)) (n : Γ σ (pc + 1) lv (.float (FP.fdiv x y) :: st)) : Γ σ pc lv (.float y :: .float x :: st) := by
  obtain ⟨p, e, s, m, args, below, meth, c, D, cy, A, rfl, hx, hb, hml, hown, hlk, hr, hts, hK, hA, hX⟩ := hC
  intro ls H locs hl hP hD hS
  exact lv_fdiv hx hb d (by unfold vf_n32; exact of_decide_eq_true hz) (n ls H locs hl hP hD hS)
theorem r_dcmp (hC : Cx Γ l cc own nL rt R wf a rv t') {x y : UInt64} {op : CmpOp} (d : decode cc pc = .ok (.dcmp op, 1)) (n : Γ σ (pc + 1) lv (.int (Op.cmpValue (FP.dcmp x y) op) :: st)) : Γ σ pc lv (.double y :: .double x :: st) := by
  obtain ⟨p, e, s, m, args, below, meth, c, D, cy, A, rfl, hx, hb, hml, hown, hlk, hr, hts, hK, hA, hX⟩ := hC
  intro ls H locs hl hP hD hS
  exact lv_dcmp hx hb d (n ls H locs hl hP hD hS)
theorem r_fcmp (hC : Cx Γ l cc own nL rt R wf a rv t') {x y : UInt32} {op : CmpOp} (d : decode cc pc = .ok (.fcmp op, 1)) (n : Γ σ (pc + 1) lv (.int (Op.cmpValue (FP.fcmp x y) op) :: st)) : Γ σ pc lv (.float y :: .float x :: st) := by
  obtain ⟨p, e, s, m, args, below, meth, c, D, cy, A, rfl, hx, hb, hml, hown, hlk, hr, hts, hK, hA, hX⟩ := hC
  intro ls H locs hl hP hD hS
  exact lv_fcmp hx hb d (n ls H locs hl hP hD hS)
theorem r_fload_n (hC : Cx Γ l cc own nL rt R wf a rv t') {k : Fin 4} {i : Nat} {x : UInt32} (d : decode cc pc = .ok (.fload_n k, 1)) (hi : (k : Nat) = i) (j : Nat) (hj : lv[j]? = some (i, .float x)) (n : Γ σ (pc + 1) lv (.float x :: st)) : Γ σ pc lv st := by
  obtain ⟨p, e, s, m, args, below, meth, c, D, cy, A, rfl, hx, hb, hml, hown, hlk, hr, hts, hK, hA, hX⟩ := hC
  intro ls H locs hl hP hD hS
  exact lv_fload_n hx hb d hi (lv_at hl j hj) (n ls H locs hl hP hD hS)
theorem r_rawd (hC : Cx Γ l cc "java/lang/Double" nL rt R wf a rv t') {b : UInt64} (h1 : 1 ≤ R.frames) (h2 : (st.map fun v => v.category).sum + 15 ≤ R.locals) (d : decode cc pc = .ok (.invokestatic 134, 3)) (n : Γ σ (pc + 3) lv (.long b.toInt64 :: st)) : Γ σ pc lv (.double b :: st) := by
  obtain ⟨p, e, s, m, args, below, meth, c, D, cy, A, rfl, hx, hb, hml, hown, hlk, hr, hts, hK, hA, hX⟩ := hC
  intro ls H locs hl hP hD hS
  exact vn_d2l hx hb (by rw [hml]; exact hl.1.symm) hown (hts _ (uu_t 1215 (by decide +kernel) rfl)) (hts _ (uu_t 1217 (by decide +kernel) rfl)) (hts _ (uu_t 1216 (by decide +kernel) rfl)) (hts _ (uu_t 19 (by decide +kernel) rfl)) h1 h2 d (n ls H locs hl hP hD hS)
theorem r_rawf (hC : Cx Γ l cc "java/lang/Float" nL rt R wf a rv t') {b : UInt32} (h1 : 1 ≤ R.frames) (h2 : (st.map fun v => v.category).sum + 15 ≤ R.locals) (d : decode cc pc = .ok (.invokestatic 74, 3)) (n : Γ σ (pc + 3) lv (.int b.toInt32 :: st)) : Γ σ pc lv (.float b :: st) := by
  obtain ⟨p, e, s, m, args, below, meth, c, D, cy, A, rfl, hx, hb, hml, hown, hlk, hr, hts, hK, hA, hX⟩ := hC
  intro ls H locs hl hP hD hS
  exact vn_f2i hx hb (by rw [hml]; exact hl.1.symm) hown (hts _ (uu_t 1225 (by decide +kernel) rfl)) (hts _ (uu_t 1227 (by decide +kernel) rfl)) (hts _ (uu_t 1226 (by decide +kernel) rfl)) (hts _ (uu_t 20 (by decide +kernel) rfl)) h1 h2 d (n ls H locs hl hP hD hS)
theorem r_iretN {v : Int32} (hC : Cx Γ l cc own nL (some .int) R wf a (some (.int v)) σ) (d : decode cc pc = .ok (.ireturn, 1)) : Γ σ pc lv [.int v] := r_iretT hC d rfl
theorem r_lretN {v : Int64} (hC : Cx Γ l cc own nL (some .long) R wf a (some (.long v)) σ) (d : decode cc pc = .ok (.lreturn, 1)) : Γ σ pc lv [.long v] := r_lretT hC d rfl
end FPR
theorem kD_122 : CallOk RJxe99ae 122 yJxe99ae_isNaN_b9ae7 cJxe99ae_isNaN_b9ae7 2 (some .boolean) 1 ∧ Cond.static yJxe99ae_isNaN_b9ae7 ∈ UU := ⟨⟨⟨uu_t 1212 (by decide +kernel) rfl, uu_t 19 (by decide +kernel) rfl, uu_t 1214 (by decide +kernel) rfl⟩, by decide +kernel, by decide +kernel, by decide +kernel⟩, uu_t 1213 (by decide +kernel) rfl⟩
theorem kF_59 : CallOk RJxf58ca 59 yJxf58ca_isNaN_12338 cJxf58ca_isNaN_12338 1 (some .boolean) 1 ∧ Cond.static yJxf58ca_isNaN_12338 ∈ UU := ⟨⟨⟨uu_t 1222 (by decide +kernel) rfl, uu_t 20 (by decide +kernel) rfl, uu_t 1224 (by decide +kernel) rfl⟩, by decide +kernel, by decide +kernel, by decide +kernel⟩, uu_t 1223 (by decide +kernel) rfl⟩
theorem kM_291 : CallOk RX7 291 yJxe99ae_doubleToLongBits_ccdee cJxe99ae_doubleToLongBits_ccdee 2 (some .long) 1 ∧ Cond.static yJxe99ae_doubleToLongBits_ccdee ∈ UU := ⟨⟨⟨uu_t 1209 (by decide +kernel) rfl, uu_t 19 (by decide +kernel) rfl, uu_t 1211 (by decide +kernel) rfl⟩, by decide +kernel, by decide +kernel, by decide +kernel⟩, uu_t 1210 (by decide +kernel) rfl⟩
theorem kM_297 : CallOk RX7 297 yJxf58ca_floatToIntBits_5c35a cJxf58ca_floatToIntBits_5c35a 1 (some .int) 1 ∧ Cond.static yJxf58ca_floatToIntBits_5c35a ∈ UU := ⟨⟨⟨uu_t 1219 (by decide +kernel) rfl, uu_t 20 (by decide +kernel) rfl, uu_t 1221 (by decide +kernel) rfl⟩, by decide +kernel, by decide +kernel, by decide +kernel⟩, uu_t 1220 (by decide +kernel) rfl⟩
abbrev Rm_D_isNaN : Room := { frames := 0, cells := 0, slots := 0, locals := 0 }
set_option maxRecDepth 100000 in
set_option maxHeartbeats 4000000 in
theorem con_D_isNaN (l : Launch) (wf : Wd) (σ : St) (b : UInt64) (hb : Op.cmpValue (FP.dcmp b b) CmpOp.l = 0) : Con l yJxe99ae_isNaN_b9ae7 cJxe99ae_isNaN_b9ae7 2 (some .boolean) Rm_D_isNaN wf (fun a => [.double b]) σ (fun _ => some (.int 0)) σ := by
  refine con_ofF (by decide +kernel) ⟨rfl, rfl⟩ (fun _ => Nat.le_of_ble_eq_true rfl) (fun Γ a hC => ?_)
  have hC : Cx Γ l cJxe99ae_isNaN_b9ae7 RJxe99ae 2 (some .boolean) Rm_D_isNaN wf a (some (.int 0)) σ := hC
  show Γ σ 0 [(0, .double b)] []
  refine r_dload_n hC dJxe99ae_isNaN_b9ae7_0 rfl 0 rfl ?_
  refine r_dload_n hC dJxe99ae_isNaN_b9ae7_1 rfl 0 rfl ?_
  refine r_dcmp hC dJxe99ae_isNaN_b9ae7_2 ?_
  refine r_if_eq hC 10 dJxe99ae_isNaN_b9ae7_3 (by decide) (fun _ => ?_) (fun q => absurd hb q)
  refine r_iconst (v := 0) hC dJxe99ae_isNaN_b9ae7_10 (by decide) ?_
  exact r_nret hC rfl dJxe99ae_isNaN_b9ae7_11
abbrev Rm_F_isNaN : Room := { frames := 0, cells := 0, slots := 0, locals := 0 }
set_option maxRecDepth 100000 in
set_option maxHeartbeats 4000000 in
theorem con_F_isNaN (l : Launch) (wf : Wd) (σ : St) (b : UInt32) (hb : Op.cmpValue (FP.fcmp b b) CmpOp.l = 0) : Con l yJxf58ca_isNaN_12338 cJxf58ca_isNaN_12338 1 (some .boolean) Rm_F_isNaN wf (fun a => [.float b]) σ (fun _ => some (.int 0)) σ := by
  refine con_ofF (by decide +kernel) ⟨rfl, rfl⟩ (fun _ => Nat.le_of_ble_eq_true rfl) (fun Γ a hC => ?_)
  have hC : Cx Γ l cJxf58ca_isNaN_12338 RJxf58ca 1 (some .boolean) Rm_F_isNaN wf a (some (.int 0)) σ := hC
  show Γ σ 0 [(0, .float b)] []
  refine r_fload_n hC dJxf58ca_isNaN_12338_0 rfl 0 rfl ?_
  refine r_fload_n hC dJxf58ca_isNaN_12338_1 rfl 0 rfl ?_
  refine r_fcmp hC dJxf58ca_isNaN_12338_2 ?_
  refine r_if_eq hC 10 dJxf58ca_isNaN_12338_3 (by decide) (fun _ => ?_) (fun q => absurd hb q)
  refine r_iconst (v := 0) hC dJxf58ca_isNaN_12338_10 (by decide) ?_
  exact r_nret hC rfl dJxf58ca_isNaN_12338_11
abbrev Rm_D_bits : Room := { frames := 1, cells := 0, slots := 0, locals := 23 }
set_option maxRecDepth 100000 in
set_option maxHeartbeats 4000000 in
theorem con_D_bits (l : Launch) (wf : Wd) (σ : St) (b : UInt64) (r : Int64) (h : fp_dbits b = some r) : Con l yJxe99ae_doubleToLongBits_ccdee cJxe99ae_doubleToLongBits_ccdee 2 (some .long) Rm_D_bits wf (fun a => [.double b]) σ (fun _ => some (.long r)) σ := by
  refine con_ofF (by decide +kernel) ⟨rfl, rfl⟩ (fun _ => Nat.le_of_ble_eq_true rfl) (fun Γ a hC => ?_)
  have hC : Cx Γ l cJxe99ae_doubleToLongBits_ccdee RJxe99ae 2 (some .long) Rm_D_bits wf a (some (.long r)) σ := hC
  show Γ σ 0 [(0, .double b)] []
  have hb : Op.cmpValue (FP.dcmp b b) CmpOp.l = 0 ∧ b.toInt64 = r := by
    unfold fp_dbits at h
    split at h
    · rename_i q
      exact ⟨q, Option.some.inj h⟩
    · cases h
  obtain ⟨hb, rfl⟩ := hb
  refine r_dload_n hC dJxe99ae_doubleToLongBits_ccdee_0 rfl 0 rfl ?_
  refine r_callS (As := [.double b]) (rest := []) hC (con_D_isNaN l wf σ b hb) kD_122 rfl rfl rfl ⟨Nat.le_of_ble_eq_true rfl, Nat.le_of_ble_eq_true rfl⟩ (Nat.le_of_ble_eq_true rfl) dJxe99ae_doubleToLongBits_ccdee_1 ?_
  refine r_if_ne hC 12 dJxe99ae_doubleToLongBits_ccdee_4 (by decide) (fun q => absurd rfl q) (fun _ => ?_)
  refine r_dload_n hC dJxe99ae_doubleToLongBits_ccdee_7 rfl 0 rfl ?_
  refine r_rawd hC (Nat.le_of_ble_eq_true rfl) (Nat.le_of_ble_eq_true rfl) dJxe99ae_doubleToLongBits_ccdee_8 ?_
  exact r_lretN hC dJxe99ae_doubleToLongBits_ccdee_11
abbrev Rm_F_bits : Room := { frames := 1, cells := 0, slots := 0, locals := 23 }
set_option maxRecDepth 100000 in
set_option maxHeartbeats 4000000 in
theorem con_F_bits (l : Launch) (wf : Wd) (σ : St) (b : UInt32) (r : Int32) (h : fp_fbits b = some r) : Con l yJxf58ca_floatToIntBits_5c35a cJxf58ca_floatToIntBits_5c35a 1 (some .int) Rm_F_bits wf (fun a => [.float b]) σ (fun _ => some (.int r)) σ := by
  refine con_ofF (by decide +kernel) ⟨rfl, rfl⟩ (fun _ => Nat.le_of_ble_eq_true rfl) (fun Γ a hC => ?_)
  have hC : Cx Γ l cJxf58ca_floatToIntBits_5c35a RJxf58ca 1 (some .int) Rm_F_bits wf a (some (.int r)) σ := hC
  show Γ σ 0 [(0, .float b)] []
  have hb : Op.cmpValue (FP.fcmp b b) CmpOp.l = 0 ∧ b.toInt32 = r := by
    unfold fp_fbits at h
    split at h
    · rename_i q
      exact ⟨q, Option.some.inj h⟩
    · cases h
  obtain ⟨hb, rfl⟩ := hb
  refine r_fload_n hC dJxf58ca_floatToIntBits_5c35a_0 rfl 0 rfl ?_
  refine r_callS (As := [.float b]) (rest := []) hC (con_F_isNaN l wf σ b hb) kF_59 rfl rfl rfl ⟨Nat.le_of_ble_eq_true rfl, Nat.le_of_ble_eq_true rfl⟩ (Nat.le_of_ble_eq_true rfl) dJxf58ca_floatToIntBits_5c35a_1 ?_
  refine r_if_ne hC 12 dJxf58ca_floatToIntBits_5c35a_4 (by decide) (fun q => absurd rfl q) (fun _ => ?_)
  refine r_fload_n hC dJxf58ca_floatToIntBits_5c35a_7 rfl 0 rfl ?_
  refine r_rawf hC (Nat.le_of_ble_eq_true rfl) (Nat.le_of_ble_eq_true rfl) dJxf58ca_floatToIntBits_5c35a_8 ?_
  exact r_iretN hC dJxf58ca_floatToIntBits_5c35a_11
