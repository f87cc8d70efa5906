/-! ===== the law's own word and row: they catch ===== -/
abbrev wO (cy : Nat → ClassId) (a : Nat → Nat) (o : Nat) (σ : St) (g : Nat → Int64) : va_W := wC cy a σ ++ [(o, .inl (cy 1, 1, .inr (.inl g)))]
def PL (D : va_G) (cy : Nat → ClassId) (a : Nat → Nat) (o : Nat) (σ : St) (g : Nat → Int64) (sz : Nat) : State → Prop := fun U => U.heap.size = sz ∧ va_P D vwCl (wO cy a o σ g) U.heap ∧ va_K D vwCl (tyL cy) U ∧ va_D (fun _ => True) (wO cy a o σ g) ∧ SX (va_A (wO cy a o σ g) sz) a U U.heap ∧ EX (va_A (wO cy a o σ g) sz) U U.heap
def QL (D : va_G) (cy : Nat → ClassId) (a : Nat → Nat) (o : Nat) (k : Int32) (σ : St) (g : Nat → Int64) (A : Nat → Prop) : Array Value → State → Outcome → State → Prop := fun _ st oc t => (oc = .returned (some (.int k)) ∧ va_P D vwCl (wO cy a o σ g) t.heap ∧ va_K D vwCl (tyL cy) t ∧ va_D A (wO cy a o σ g)) ∧ va_F A st t
abbrev RmL : Room := { frames := 7, cells := 1, slots := 6, locals := 120 }
theorem PL_blind {D : va_G} {cy : Nat → ClassId} {a : Nat → Nat} {o : Nat} {σ : St} {g : Nat → Int64} {sz : Nat} {av : List Value} : FrameBlind (va_Pc av (PL D cy a o σ g sz)) := by
  intro a' U g mk q
  obtain ⟨q0, q1, qP, qK, qD, qX, qE⟩ := q
  exact ⟨q0, q1, qP, va_K.moved (u := U) (U := U.calling g mk a') (Vm.Alike.refl U.vm) qK, qD, qX.blind, qE.blind⟩
theorem KL_7 : CallOk RL 7 yX6_word cX6_word 4 (some .long) 2 ∧ Cond.instanceMethod yX6_word ∈ UU ∧ Cond.selects (yX6_word).cls yX6_word yX6_word ∈ UU := ⟨⟨⟨uu_t 650 (by decide +kernel) rfl, uu_t 1 (by decide +kernel) rfl, uu_t 653 (by decide +kernel) rfl⟩, by decide +kernel, by decide +kernel, by decide +kernel⟩, uu_t 651 (by decide +kernel) rfl, uu_t 652 (by decide +kernel) rfl⟩
theorem KL_15 : CallOk RL 15 yX6_row cX6_row 2 (some .long) 1 ∧ Cond.instanceMethod yX6_row ∈ UU ∧ Cond.selects (yX6_row).cls yX6_row yX6_row ∈ UU := ⟨⟨⟨uu_t 723 (by decide +kernel) rfl, uu_t 1 (by decide +kernel) rfl, uu_t 726 (by decide +kernel) rfl⟩, by decide +kernel, by decide +kernel, by decide +kernel⟩, uu_t 724 (by decide +kernel) rfl, uu_t 725 (by decide +kernel) rfl⟩
set_option maxHeartbeats 4000000 in
set_option maxRecDepth 100000 in
theorem ret_Lword (l : Launch)  (σ : St) (x1 x2 : Int32) (o : Nat) (g : Nat → Int64) {r : Int64} {t' : St} (h : f_X6_word σ x1 x2 = some (r, t')) (D : va_G) (cy : Nat → ClassId) (a : Nat → Nat) (sz : Nat) : vx_Met l yL_word (Cond.codeWith yL_word cL_word 5 (some .int) [(0, 9, 12, 13)] :: UU) RmL (va_Pc [.ref (a 0), .int x1, .int x2, .ref o] (PL D cy a o σ g sz)) (QL D cy a o 0 t' (vp_updL g 0 r) (va_A (wO cy a o σ g) sz)) (fun _ _ _ => False) 1 6 (va_A (wO cy a o σ g) sz) := by
  refine vx_ofWH (cc := cL_word) (maxL := 5) (ret := some .int) (by decide) rfl ?_
  intro p e s m args below meth c s₁ B hml hv
  obtain ⟨rfl, hsz, hP, hK, hD0, hX, hE⟩ := hv
  have hx := B.exec
  have hb := B.bytes
  have hr := B.returns
  have hts0 := atoms_spec (ws := (Cond.codeWith yL_word cL_word 5 (some .int) [(0, 9, 12, 13)] :: UU)) B.pre
  have hts : ∀ w ∈ UU, w.before #[Value.ref (a 0), .int x1, .int x2, .ref o] s = true := fun w h => hts0 w (List.mem_cons_of_mem _ h)
  have htab := vx_table (x := yL_word) B (hts0 _ List.mem_cons_self)
  have hown : s.vm.findClass RL = some m.cls := findClass_of_methodNamed B.named
  have hlocks := B.notSynchronized
  subst hsz
  have hD := hD0.self (sz := s.heap.size)
  generalize hAe : va_A (wO cy a o σ g) s.heap.size = A at hD hX hE ⊢
  have hA : ∀ q : Nat, s.heap.size ≤ q → A q := fun q h => by rw [← hAe]; exact Or.inr h
  have hl := lv_entry ([.ref (a 0), .int x1, .int x2, .ref o]) (n := 5) (Nat.le_of_ble_eq_true rfl)
  rw [lg_entry_eq]
  generalize (lg_sl ([.ref (a 0), .int x1, .int x2, .ref o]) ++ List.replicate (5 - (lg_sl ([.ref (a 0), .int x1, .int x2, .ref o])).length) Slot.unset).toArray = ls at hl ⊢
  have hl : lv_has ls 5 [(0, .ref (a 0)), (1, .int x1), (2, .int x2), (3, .ref o)] := hl
  have hS : va_S A s.heap s.heap [] := va_S.rf
  refine lv_aload_n hx hb dL_word_0 rfl (lv_at hl 3 rfl) ?_
  refine lv_iconst (v := 0) hx hb dL_word_1 (by decide) ?_
  refine lv_aload_n hx hb dL_word_2 rfl (lv_at hl 0 rfl) ?_
  refine lv_iload_n hx hb dL_word_3 rfl (lv_at hl 1 rfl) ?_
  refine lv_iload_n hx hb dL_word_4 rfl (lv_at hl 2 rfl) ?_
  refine w_callV (As := [.int x1, .int x2]) (rest := [.int 0, .ref o]) (wr := [(o, .inl (cy 1, 1, .inr (.inl g)))]) hx hb hml hown hts hK hA hX hP hD hS hl.1 (con_X6_word l σ x1 x2 h) KL_7 (ob6 a σ cy) rfl rfl rfl rfl ⟨Nat.le_of_ble_eq_true rfl, Nat.le_of_ble_eq_true rfl⟩ (Nat.le_of_ble_eq_true rfl) dL_word_5 ⟨Nat.zero_le _, Nat.zero_le _⟩ (fun H locs hP hD hS => ?_)
  show W p l e RmL s m _ below meth c H locs 0 0 _ (F0 m 8 ls [.long r, .int 0, .ref o])
  refine va_last hx hb hK hP hD hS 25 1 rfl rfl (in_b_vp (by decide)) dL_word_8 (fun H locs hP hD hS => ?_)
  have hP : va_P D vwCl (wO cy a o t' (vp_updL g 0 r)) H := hP
  have hD : va_D A (wO cy a o t' (vp_updL g 0 r)) := hD
  refine lv_goto (tgt := 16) hx hb dL_word_9 (by decide) ?_
  refine lv_iconst (v := 0) hx hb dL_word_16 (by decide) ?_
  refine W.widen (k := 1) (n := 6) (Nat.zero_le _) (Nat.zero_le _) ?_
  exact vx_ret (W.iret hx hb hr (fun t ht hW => ⟨⟨rfl, by rw [ht]; exact hP, va_K.moved hW.alike hK, hD⟩, hS.F ht⟩) hS.2.2 dL_word_17 hlocks)
set_option maxHeartbeats 4000000 in
set_option maxRecDepth 100000 in
theorem thr_Lword (l : Launch) (hst : l.stackTraces = false) (σ : St) (x1 x2 : Int32) (o : Nat) (g : Nat → Int64) (hw : f_X6_bagOf x1 = none ∨ ∃ b, b < 3 ∧ f_X6_bagOf x1 = some b ∧ f_X6_isWord σ b x2 = 0) (D : va_G) (cy : Nat → ClassId) (a : Nat → Nat) (sz : Nat) : vx_Met l yL_word (Cond.codeWith yL_word cL_word 5 (some .int) [(0, 9, 12, 13)] :: UU) RmL (va_Pc [.ref (a 0), .int x1, .int x2, .ref o] (PL D cy a o σ g sz)) (QL D cy a o 1 σ g (va_A (wO cy a o σ g) sz)) (fun _ _ _ => False) 1 6 (va_A (wO cy a o σ g) sz) := by
  refine vx_ofWH (cc := cL_word) (maxL := 5) (ret := some .int) (by decide) rfl ?_
  intro p e s m args below meth c s₁ B hml hv
  obtain ⟨rfl, hsz, hP, hK, hD0, hX, hE⟩ := hv
  have hx := B.exec
  have hb := B.bytes
  have hr := B.returns
  have hts0 := atoms_spec (ws := (Cond.codeWith yL_word cL_word 5 (some .int) [(0, 9, 12, 13)] :: UU)) B.pre
  have hts : ∀ w ∈ UU, w.before #[Value.ref (a 0), .int x1, .int x2, .ref o] s = true := fun w h => hts0 w (List.mem_cons_of_mem _ h)
  have htab := vx_table (x := yL_word) B (hts0 _ List.mem_cons_self)
  have hown : s.vm.findClass RL = some m.cls := findClass_of_methodNamed B.named
  have hlocks := B.notSynchronized
  subst hsz
  have hD := hD0.self (sz := s.heap.size)
  generalize hAe : va_A (wO cy a o σ g) s.heap.size = A at hD hX hE ⊢
  have hA : ∀ q : Nat, s.heap.size ≤ q → A q := fun q h => by rw [← hAe]; exact Or.inr h
  have hl := lv_entry ([.ref (a 0), .int x1, .int x2, .ref o]) (n := 5) (Nat.le_of_ble_eq_true rfl)
  rw [lg_entry_eq]
  generalize (lg_sl ([.ref (a 0), .int x1, .int x2, .ref o]) ++ List.replicate (5 - (lg_sl ([.ref (a 0), .int x1, .int x2, .ref o])).length) Slot.unset).toArray = ls at hl ⊢
  have hl : lv_has ls 5 [(0, .ref (a 0)), (1, .int x1), (2, .int x2), (3, .ref o)] := hl
  have hS : va_S A s.heap s.heap [] := va_S.rf
  refine lv_aload_n hx hb dL_word_0 rfl (lv_at hl 3 rfl) ?_
  refine lv_iconst (v := 0) hx hb dL_word_1 (by decide) ?_
  refine lv_aload_n hx hb dL_word_2 rfl (lv_at hl 0 rfl) ?_
  refine lv_iload_n hx hb dL_word_3 rfl (lv_at hl 1 rfl) ?_
  refine lv_iload_n hx hb dL_word_4 rfl (lv_at hl 2 rfl) ?_
  have hf := fr_l (wc := wC cy a σ) (wr := [(o, .inl (cy 1, 1, .inr (.inl g)))]) hD hS hA
  have hPc := pa_l (w1 := wC cy a σ) (w2 := [(o, .inl (cy 1, 1, .inr (.inl g)))]) hP
  have hDc := da_l (w1 := wC cy a σ) (w2 := [(o, .inl (cy 1, 1, .inr (.inl g)))]) hD
  have cw : CallW RmL s #[Value.ref (a 0), .int x1, .int x2, .ref o] RL yX6_word.cls 7 yX6_word cX6_word 4 (some .long) (Cond.code yX6_word cX6_word 4 (some .long) :: UU) RmT 1 6 2 := ⟨callB_of 2 hts (uu_good KL_7.1.1.2.2) rfl rfl rfl (hts _ KL_7.1.1.2.1) (hts _ KL_7.1.1.1) KL_7.1.2 ⟨Nat.le_of_ble_eq_true rfl, Nat.le_of_ble_eq_true rfl⟩, hts _ KL_7.2.1, hts _ KL_7.2.2⟩
  have hrun := vx_runV (p := p) (e := e) (below := below) (meth := meth) (cells := 0) (slots := 0) (locs := []) (g := F0 m 5 ls [.int x2, .int x1, .ref (a 0), .int 0, .ref o]) (As := [.int x1, .int x2]) (rest := [.int 0, .ref o]) ⟨hx, hb, hml, hown, hts⟩ (thr_word l hst σ x1 x2 hw D cy a s.heap.size) cw ⟨TX_blind, va_recv hK hPc rfl (ob6 a σ cy), fun U hU hW => ⟨rfl, ⟨by rw [hU], by rw [hU]; exact hPc, va_K.moved hW.alike hK, hDc.weaken (fun _ _ _ _ => trivial), by rw [hU]; exact hX.warm hW hS.2.1 hf⟩, by rw [hU]; exact hE.warm hW hS.2.1 hf⟩⟩ rfl rfl hl.1 rfl (lv_room (Nat.le_of_ble_eq_true rfl)) dL_word_5 ⟨Nat.le_of_ble_eq_true rfl, Nat.le_of_ble_eq_true rfl⟩
  intro T hT X
  rcases hrun T hT X with ⟨v, st₀, t, T', L, h0, X', hL, e1, e2, hF, stp⟩ | ⟨q, st₀, t, T', L, E, ce, h0, X', hL, e1, e2, ⟨hEq, hp, hk1, hd1, hz, hk⟩, hce, hcv, hcl, stp⟩
  · exact hF.elim
  · subst hEq
    rw [h0] at hz hk
    obtain ⟨hP1, hD1⟩ := jn (wc := wC cy a σ) (wr := [(o, .inl (cy 1, 1, .inr (.inl g)))]) (w1 := wC cy a σ) (H1 := T'.heap) hP hD (fun q h1 h2 => by rw [e1]; exact hk q h1 h2) hf (by rw [e1]; exact hp) hd1
    have hS1 : va_S A s.heap T'.heap ([] ++ L) := ⟨by rw [e1]; exact hz, fun q h1 h2 => by rw [e1]; exact hk q h1 (fun z => h2 (hf q z)), fun q hq => hf _ (hL q hq)⟩
    obtain ⟨t2, a1, b1⟩ := (vx_catch (l := l) (Q := vx_MQ below (QL D cy a o 1 σ g A) (fun _ _ _ => False) #[Value.ref (a 0), .int x1, .int x2, .ref o] s 1 6 A) (pc := 5) (name := nsX) (rest := [.int 0, .ref o]) hown [] ⟨0, 9, 12, 13⟩ [] htab (fun z hz => nomatch hz) (by decide) (by decide) (hts _ (uu_t 649 (by decide +kernel) rfl)) (va_Nw.use rfl hE.2.2.2) (by rw [e1]; exact hce) hcv hcl (by
      refine lv_astore (i := 4) (lv' := (4, .ref q) :: [(0, .ref (a 0)), (1, .int x1), (2, .int x2), (3, .ref o)]) hx hb dL_word_12 hl (by decide) rfl (fun ls hl => ?_)
      refine lv_iconst (v := 1) hx hb dL_word_14 (by decide) ?_
      exact vx_ret (W.iret hx hb hr (fun t ht hW => ⟨⟨rfl, by rw [ht]; exact hP1, va_K.moved hW.alike hK, hD1⟩, hS1.F ht⟩) hS1.2.2 dL_word_15 hlocks))) T' rfl X'
    exact ⟨t2, stp.trans a1, b1⟩
set_option maxHeartbeats 4000000 in
set_option maxRecDepth 100000 in
theorem ret_Lrow (l : Launch)  (σ : St) (x1 : Int32) (o : Nat) (g : Nat → Int64) {r : Int64} (h : f_X6_row σ x1 = some r) (D : va_G) (cy : Nat → ClassId) (a : Nat → Nat) (sz : Nat) : vx_Met l yL_row (Cond.codeWith yL_row cL_row 4 (some .int) [(0, 8, 11, 13)] :: UU) RmL (va_Pc [.ref (a 0), .int x1, .ref o] (PL D cy a o σ g sz)) (QL D cy a o 0 σ (vp_updL g 0 r) (va_A (wO cy a o σ g) sz)) (fun _ _ _ => False) 1 6 (va_A (wO cy a o σ g) sz) := by
  refine vx_ofWH (cc := cL_row) (maxL := 4) (ret := some .int) (by decide) rfl ?_
  intro p e s m args below meth c s₁ B hml hv
  obtain ⟨rfl, hsz, hP, hK, hD0, hX, hE⟩ := hv
  have hx := B.exec
  have hb := B.bytes
  have hr := B.returns
  have hts0 := atoms_spec (ws := (Cond.codeWith yL_row cL_row 4 (some .int) [(0, 8, 11, 13)] :: UU)) B.pre
  have hts : ∀ w ∈ UU, w.before #[Value.ref (a 0), .int x1, .ref o] s = true := fun w h => hts0 w (List.mem_cons_of_mem _ h)
  have htab := vx_table (x := yL_row) B (hts0 _ List.mem_cons_self)
  have hown : s.vm.findClass RL = some m.cls := findClass_of_methodNamed B.named
  have hlocks := B.notSynchronized
  subst hsz
  have hD := hD0.self (sz := s.heap.size)
  generalize hAe : va_A (wO cy a o σ g) s.heap.size = A at hD hX hE ⊢
  have hA : ∀ q : Nat, s.heap.size ≤ q → A q := fun q h => by rw [← hAe]; exact Or.inr h
  have hl := lv_entry ([.ref (a 0), .int x1, .ref o]) (n := 4) (Nat.le_of_ble_eq_true rfl)
  rw [lg_entry_eq]
  generalize (lg_sl ([.ref (a 0), .int x1, .ref o]) ++ List.replicate (4 - (lg_sl ([.ref (a 0), .int x1, .ref o])).length) Slot.unset).toArray = ls at hl ⊢
  have hl : lv_has ls 4 [(0, .ref (a 0)), (1, .int x1), (2, .ref o)] := hl
  have hS : va_S A s.heap s.heap [] := va_S.rf
  refine lv_aload_n hx hb dL_row_0 rfl (lv_at hl 2 rfl) ?_
  refine lv_iconst (v := 0) hx hb dL_row_1 (by decide) ?_
  refine lv_aload_n hx hb dL_row_2 rfl (lv_at hl 0 rfl) ?_
  refine lv_iload_n hx hb dL_row_3 rfl (lv_at hl 1 rfl) ?_
  refine w_callV (As := [.int x1]) (rest := [.int 0, .ref o]) (wr := [(o, .inl (cy 1, 1, .inr (.inl g)))]) hx hb hml hown hts hK hA hX hP hD hS hl.1 (con_X6_row l σ x1 h) KL_15 (ob6 a σ cy) rfl rfl rfl rfl ⟨Nat.le_of_ble_eq_true rfl, Nat.le_of_ble_eq_true rfl⟩ (Nat.le_of_ble_eq_true rfl) dL_row_4 ⟨Nat.zero_le _, Nat.zero_le _⟩ (fun H locs hP hD hS => ?_)
  show W p l e RmL s m _ below meth c H locs 0 0 _ (F0 m 7 ls [.long r, .int 0, .ref o])
  refine va_last hx hb hK hP hD hS 25 1 rfl rfl (in_b_vp (by decide)) dL_row_7 (fun H locs hP hD hS => ?_)
  have hP : va_P D vwCl (wO cy a o σ (vp_updL g 0 r)) H := hP
  have hD : va_D A (wO cy a o σ (vp_updL g 0 r)) := hD
  refine lv_goto (tgt := 14) hx hb dL_row_8 (by decide) ?_
  refine lv_iconst (v := 0) hx hb dL_row_14 (by decide) ?_
  refine W.widen (k := 1) (n := 6) (Nat.zero_le _) (Nat.zero_le _) ?_
  exact vx_ret (W.iret hx hb hr (fun t ht hW => ⟨⟨rfl, by rw [ht]; exact hP, va_K.moved hW.alike hK, hD⟩, hS.F ht⟩) hS.2.2 dL_row_15 hlocks)
set_option maxHeartbeats 4000000 in
set_option maxRecDepth 100000 in
theorem thr_Lrow (l : Launch) (hst : l.stackTraces = false) (σ : St) (x1 : Int32) (o : Nat) (g : Nat → Int64) (hw : x1 < 0 ∨ ¬ x1 < st_i σ 16) (D : va_G) (cy : Nat → ClassId) (a : Nat → Nat) (sz : Nat) : vx_Met l yL_row (Cond.codeWith yL_row cL_row 4 (some .int) [(0, 8, 11, 13)] :: UU) RmL (va_Pc [.ref (a 0), .int x1, .ref o] (PL D cy a o σ g sz)) (QL D cy a o 1 σ g (va_A (wO cy a o σ g) sz)) (fun _ _ _ => False) 1 6 (va_A (wO cy a o σ g) sz) := by
  refine vx_ofWH (cc := cL_row) (maxL := 4) (ret := some .int) (by decide) rfl ?_
  intro p e s m args below meth c s₁ B hml hv
  obtain ⟨rfl, hsz, hP, hK, hD0, hX, hE⟩ := hv
  have hx := B.exec
  have hb := B.bytes
  have hr := B.returns
  have hts0 := atoms_spec (ws := (Cond.codeWith yL_row cL_row 4 (some .int) [(0, 8, 11, 13)] :: UU)) B.pre
  have hts : ∀ w ∈ UU, w.before #[Value.ref (a 0), .int x1, .ref o] s = true := fun w h => hts0 w (List.mem_cons_of_mem _ h)
  have htab := vx_table (x := yL_row) B (hts0 _ List.mem_cons_self)
  have hown : s.vm.findClass RL = some m.cls := findClass_of_methodNamed B.named
  have hlocks := B.notSynchronized
  subst hsz
  have hD := hD0.self (sz := s.heap.size)
  generalize hAe : va_A (wO cy a o σ g) s.heap.size = A at hD hX hE ⊢
  have hA : ∀ q : Nat, s.heap.size ≤ q → A q := fun q h => by rw [← hAe]; exact Or.inr h
  have hl := lv_entry ([.ref (a 0), .int x1, .ref o]) (n := 4) (Nat.le_of_ble_eq_true rfl)
  rw [lg_entry_eq]
  generalize (lg_sl ([.ref (a 0), .int x1, .ref o]) ++ List.replicate (4 - (lg_sl ([.ref (a 0), .int x1, .ref o])).length) Slot.unset).toArray = ls at hl ⊢
  have hl : lv_has ls 4 [(0, .ref (a 0)), (1, .int x1), (2, .ref o)] := hl
  have hS : va_S A s.heap s.heap [] := va_S.rf
  refine lv_aload_n hx hb dL_row_0 rfl (lv_at hl 2 rfl) ?_
  refine lv_iconst (v := 0) hx hb dL_row_1 (by decide) ?_
  refine lv_aload_n hx hb dL_row_2 rfl (lv_at hl 0 rfl) ?_
  refine lv_iload_n hx hb dL_row_3 rfl (lv_at hl 1 rfl) ?_
  have hf := fr_l (wc := wC cy a σ) (wr := [(o, .inl (cy 1, 1, .inr (.inl g)))]) hD hS hA
  have hPc := pa_l (w1 := wC cy a σ) (w2 := [(o, .inl (cy 1, 1, .inr (.inl g)))]) hP
  have hDc := da_l (w1 := wC cy a σ) (w2 := [(o, .inl (cy 1, 1, .inr (.inl g)))]) hD
  have cw : CallW RmL s #[Value.ref (a 0), .int x1, .ref o] RL yX6_row.cls 15 yX6_row cX6_row 2 (some .long) (Cond.code yX6_row cX6_row 2 (some .long) :: UU) RmT 1 6 1 := ⟨callB_of 1 hts (uu_good KL_15.1.1.2.2) rfl rfl rfl (hts _ KL_15.1.1.2.1) (hts _ KL_15.1.1.1) KL_15.1.2 ⟨Nat.le_of_ble_eq_true rfl, Nat.le_of_ble_eq_true rfl⟩, hts _ KL_15.2.1, hts _ KL_15.2.2⟩
  have hrun := vx_runV (p := p) (e := e) (below := below) (meth := meth) (cells := 0) (slots := 0) (locs := []) (g := F0 m 4 ls [.int x1, .ref (a 0), .int 0, .ref o]) (As := [.int x1]) (rest := [.int 0, .ref o]) ⟨hx, hb, hml, hown, hts⟩ (thr_row l hst σ x1 hw D cy a s.heap.size) cw ⟨TX_blind, va_recv hK hPc rfl (ob6 a σ cy), fun U hU hW => ⟨rfl, ⟨by rw [hU], by rw [hU]; exact hPc, va_K.moved hW.alike hK, hDc.weaken (fun _ _ _ _ => trivial), by rw [hU]; exact hX.warm hW hS.2.1 hf⟩, by rw [hU]; exact hE.warm hW hS.2.1 hf⟩⟩ rfl rfl hl.1 rfl (lv_room (Nat.le_of_ble_eq_true rfl)) dL_row_4 ⟨Nat.le_of_ble_eq_true rfl, Nat.le_of_ble_eq_true rfl⟩
  intro T hT X
  rcases hrun T hT X with ⟨v, st₀, t, T', L, h0, X', hL, e1, e2, hF, stp⟩ | ⟨q, st₀, t, T', L, E, ce, h0, X', hL, e1, e2, ⟨hEq, hp, hk1, hd1, hz, hk⟩, hce, hcv, hcl, stp⟩
  · exact hF.elim
  · subst hEq
    rw [h0] at hz hk
    obtain ⟨hP1, hD1⟩ := jn (wc := wC cy a σ) (wr := [(o, .inl (cy 1, 1, .inr (.inl g)))]) (w1 := wC cy a σ) (H1 := T'.heap) hP hD (fun q h1 h2 => by rw [e1]; exact hk q h1 h2) hf (by rw [e1]; exact hp) hd1
    have hS1 : va_S A s.heap T'.heap ([] ++ L) := ⟨by rw [e1]; exact hz, fun q h1 h2 => by rw [e1]; exact hk q h1 (fun z => h2 (hf q z)), fun q hq => hf _ (hL q hq)⟩
    obtain ⟨t2, a1, b1⟩ := (vx_catch (l := l) (Q := vx_MQ below (QL D cy a o 1 σ g A) (fun _ _ _ => False) #[Value.ref (a 0), .int x1, .ref o] s 1 6 A) (pc := 4) (name := nsX) (rest := [.int 0, .ref o]) hown [] ⟨0, 8, 11, 13⟩ [] htab (fun z hz => nomatch hz) (by decide) (by decide) (hts _ (uu_t 649 (by decide +kernel) rfl)) (va_Nw.use rfl hE.2.2.2) (by rw [e1]; exact hce) hcv hcl (by
      refine lv_astore_n (lv' := (3, .ref q) :: [(0, .ref (a 0)), (1, .int x1), (2, .ref o)]) hx hb dL_row_11 rfl hl (by decide) rfl (fun ls hl => ?_)
      refine lv_iconst (v := 1) hx hb dL_row_12 (by decide) ?_
      exact vx_ret (W.iret hx hb hr (fun t ht hW => ⟨⟨rfl, by rw [ht]; exact hP1, va_K.moved hW.alike hK, hD1⟩, hS1.F ht⟩) hS1.2.2 dL_row_13 hlocks))) T' rfl X'
    exact ⟨t2, stp.trans a1, b1⟩
