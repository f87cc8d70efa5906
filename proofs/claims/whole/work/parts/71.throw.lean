/-! ===== what a throw needs; calls out of a larger world ===== -/
theorem ns_tab : nsAt RX6 178 = [14, 676, 685, 687, 690, 692, 677, 678, 27, 28, 679, 684, 688, 708, 666, 709, 668, 710, 670, 680, 682, 672, 704, 705, 707, 672, 695, 696, 697, 698, 658, 698, 699, 700, 701, 660, 701, 702, 703, 704, 662, 694, 655, 656, 663, 664, 665, 667, 669, 671, 675, 674, 673].filterMap (fun i => tables_1[i]?) := by decide +kernel
def nsD : List MethodName := [Bundle.initS nsY, Bundle.initS "java/lang/Exception", Bundle.initS Bundle.tN]
theorem ns_good : ((nsAt RX6 178).all (fun w => goodWord w || decide (w ∈ (nsD.map Cond.declares ++ [Cond.castable nsX nsX])))) = true := by decide +kernel
theorem ns_ot : ((Cond.classLink RX6 174 nsX :: Cond.initialized nsX :: nsAt RX6 178).all vx_ot) = true := by decide +kernel
def EX (A : Nat → Prop) (U : State) (H : Heap) : Prop := vx_Zq Bundle.tN "UNASSIGNED_STACK" Bundle.steD A U H ∧ vx_Zq Bundle.tN "SUPPRESSED_SENTINEL" Bundle.listD A U H ∧ (∀ x ∈ nsD, va_Nw (.declares x) U) ∧ va_Nw (.castable nsX nsX) U
theorem EX.warm {A B : Nat → Prop} {s U : State} {H0 H : Heap} (h : EX A s H0) (hW : s.WarmedH U.vm) (hq : ∀ q : Nat, q < H0.size → ¬ A q → H[q]? = H0[q]?) (hAB : ∀ q, B q → A q) : EX B U H :=
  ⟨((h.1.moved hW.alike).kept hq).narrow hAB, ((h.2.1.moved hW.alike).kept hq).narrow hAB, fun x hx => va_Nw.warmD hW (h.2.2.1 x hx), va_Nw.warmC hW h.2.2.2⟩
theorem EX.blind {A : Nat → Prop} {U : State} {g : JFrame} {mk : MethodId} {as : Array Value} (h : EX A U U.heap) : EX A (U.calling g mk as) (U.calling g mk as).heap :=
  ⟨h.1.moved (u := U) (U := U.calling g mk as) (Vm.Alike.refl U.vm), h.2.1.moved (u := U) (U := U.calling g mk as) (Vm.Alike.refl U.vm), fun x hx => va_Nw.same (u := U) (U := U.calling g mk as) rfl rfl (h.2.2.1 x hx), va_Nw.same (u := U) (U := U.calling g mk as) rfl rfl h.2.2.2⟩
theorem ns_hat {A : Nat → Prop} {s : State} {H : Heap} {args : Array Value} (hts : ∀ w ∈ UU, w.before args s = true) (hE : EX A s H) : ∀ w ∈ nsAt RX6 178, w.before args s = true := by
  intro w hw
  have g := List.all_eq_true.mp ns_good w hw
  rcases (Bool.or_eq_true _ _).mp g with g | g
  · rw [ns_tab] at hw
    obtain ⟨i, -, hi⟩ := List.mem_filterMap.mp hw
    exact hts w (uu_t i hi g)
  · have hm := of_decide_eq_true g
    rcases List.mem_append.mp hm with q | q
    · obtain ⟨x, hx, rfl⟩ := List.mem_map.mp q
      exact va_Nw.use rfl (hE.2.2.1 x hx)
    · rw [List.mem_singleton.mp q]
      exact va_Nw.use rfl hE.2.2.2
/-- two worlds side by side -/
theorem pa_l {D : va_G} {cl : List vw_C} {w1 w2 : va_W} {H : Heap} (h : va_P D cl (w1 ++ w2) H) : va_P D cl w1 H := fun k q hk => h k q (by rw [List.getElem?_append_left (List.getElem?_eq_some_iff.mp hk).1]; exact hk)
theorem pa_r {D : va_G} {cl : List vw_C} {w1 w2 : va_W} {H : Heap} (h : va_P D cl (w1 ++ w2) H) : va_P D cl w2 H := fun k q hk => h (w1.length + k) q (by rw [List.getElem?_append_right (by omega), show w1.length + k - w1.length = k by omega]; exact hk)
theorem da_l {A : Nat → Prop} {w1 w2 : va_W} (h : va_D A (w1 ++ w2)) : va_D A w1 := by
  have up : ∀ {k : Nat} {q : Nat × va_E}, w1[k]? = some q → (w1 ++ w2)[k]? = some q := fun {k q} hk => by rw [List.getElem?_append_left (List.getElem?_eq_some_iff.mp hk).1]; exact hk
  exact ⟨fun i j p q hi hj e => h.1 i j p q (up hi) (up hj) e, fun k q hk => h.2 k q (up hk)⟩
theorem da_r {A : Nat → Prop} {w1 w2 : va_W} (h : va_D A (w1 ++ w2)) : va_D A w2 := by
  have up : ∀ {k : Nat} {q : Nat × va_E}, w2[k]? = some q → (w1 ++ w2)[w1.length + k]? = some q := fun {k q} hk => by rw [List.getElem?_append_right (by omega), show w1.length + k - w1.length = k by omega]; exact hk
  exact ⟨fun i j p q hi hj e => by have := h.1 _ _ p q (up hi) (up hj) e; omega, fun k q hk => h.2 _ q (up hk)⟩
theorem da_x {A : Nat → Prop} {w1 w2 : va_W} (h : va_D A (w1 ++ w2)) {i j : Nat} {p q : Nat × va_E} (hi : w1[i]? = some p) (hj : w2[j]? = some q) : p.1 ≠ q.1 := by
  intro e
  have li := (List.getElem?_eq_some_iff.mp hi).1
  have := h.1 i (w1.length + j) p q (by rw [List.getElem?_append_left li]; exact hi) (by rw [List.getElem?_append_right (by omega), show w1.length + j - w1.length = j by omega]; exact hj) e
  omega
theorem da_mk {A : Nat → Prop} {w1 w2 : va_W} (h1 : va_D A w1) (h2 : va_D A w2) (hx : ∀ (i j : Nat) (p q : Nat × va_E), w1[i]? = some p → w2[j]? = some q → p.1 ≠ q.1) : va_D A (w1 ++ w2) := by
  have sp : ∀ {k : Nat} {q : Nat × va_E}, (w1 ++ w2)[k]? = some q → (k < w1.length ∧ w1[k]? = some q) ∨ (w1.length ≤ k ∧ w2[k - w1.length]? = some q) := fun {k q} hk => by
    rcases Nat.lt_or_ge k w1.length with z | z
    · rw [List.getElem?_append_left z] at hk; exact Or.inl ⟨z, hk⟩
    · rw [List.getElem?_append_right z] at hk; exact Or.inr ⟨z, hk⟩
  refine ⟨fun i j p q hi hj e => ?_, fun k q hk => ?_⟩
  · rcases sp hi with ⟨a, b⟩ | ⟨a, b⟩ <;> rcases sp hj with ⟨c, d⟩ | ⟨c, d⟩
    · exact h1.1 i j p q b d e
    · exact absurd e (hx _ _ p q b d)
    · exact absurd e.symm (hx _ _ q p d b)
    · have := h2.1 _ _ p q b d e; omega
  · rcases sp hk with ⟨a, b⟩ | ⟨a, b⟩
    · exact h1.2 k q b
    · exact h2.2 _ q b
theorem pa_sw {D : va_G} {cl : List vw_C} {w1 w2 : va_W} {H : Heap} (h : va_P D cl (w1 ++ w2) H) : va_P D cl (w2 ++ w1) H := (pa_r h).app (pa_l h)
theorem da_sw {A : Nat → Prop} {w1 w2 : va_W} (h : va_D A (w1 ++ w2)) : va_D A (w2 ++ w1) := da_mk (da_r h) (da_l h) (fun i j p q hi hj e => da_x h hj hi e.symm)
/-- what a callee leaves, beside the rest that it didn't see -/
theorem jn {A0 : Nat → Prop} {D : va_G} {cl : List vw_C} {wc wr w1 : va_W} {H H1 : Heap} (hP : va_P D cl (wc ++ wr) H) (hD : va_D A0 (wc ++ wr)) (hk : ∀ q : Nat, q < H.size → ¬ va_A wc H.size q → H1[q]? = H[q]?) (hF : ∀ q, va_A wc H.size q → A0 q) (hP1 : va_P D cl w1 H1) (hD1 : va_D (va_A wc H.size) w1) : va_P D cl (w1 ++ wr) H1 ∧ va_D A0 (w1 ++ wr) := by
  have hPr := pa_r hP
  have no : ∀ {j : Nat} {q : Nat × va_E}, wr[j]? = some q → ¬ va_A wc H.size q.1 := fun {j q} hj => by
    rintro (⟨k, e, h⟩ | h)
    · exact da_x hD h hj rfl
    · have := (hPr j q hj).lt; omega
  refine ⟨hP1.app (hPr.kept (fun j q hj => hk q.1 ((hPr j q hj).lt) (no hj))), da_mk (hD1.weaken (fun _ q _ h => hF q.1 h)) (da_r hD) (fun i j p q hi hj e => ?_)⟩
  have h1 := hD1.2 i p hi
  rw [e] at h1
  exact no hj h1
theorem fr_l {A : Nat → Prop} {H0 H : Heap} {locs : List Loc} {wc wr : va_W} (hD : va_D A (wc ++ wr)) (hS : va_S A H0 H locs) (hA : ∀ q, H0.size ≤ q → A q) : ∀ q, va_A wc H.size q → A q := by
  intro q h
  rcases h with ⟨k, e, h⟩ | h
  · exact (da_l hD).2 k (q, e) h
  · exact hA q (Nat.le_trans hS.1 h)
section LC
variable {p : Program} {l : Launch} {e : Env} {R : Room} {s : State} {m : MethodId} {args : Array Value} {below : List Frame} {meth : Method} {c : Code} {cc : ByteArray} {own : String} {nL : Nat} {Q : State → Prop} {D : va_G} {cy : Nat → ClassId} {A : Nat → Prop} {H : Heap} {locs : List Loc} {ls : Array Slot} {pc cells slots : Nat} {st rest As : List Value} {wf : Wd} {a : Nat → Nat} {σ σ1 : St} {wr : va_W}
theorem w_run {st0 : List Value} {arr : Array Value} {rv1 : Option Value} (hr : va_Run p l e R s m args below meth c H locs cells slots 0 0 (F0 m pc ls st0) rest (QC D cy wf a rv1 σ1 (va_A (wf cy a σ) H.size) arr) (va_A (wf cy a σ) H.size)) (hP : va_P D vwCl (wf cy a σ ++ wr) H) (hD : va_D A (wf cy a σ ++ wr)) (hS : va_S A s.heap H locs) (hA : ∀ q, s.heap.size ≤ q → A q)
    (kk : ∀ (H1 : Heap) (L1 : List Loc), va_P D vwCl (wf cy a σ1 ++ wr) H1 → va_D A (wf cy a σ1 ++ wr) → va_S A s.heap H1 L1 → W p l e R s m args below meth c H1 L1 cells slots Q (F0 m (pc + 3) ls (rv1.toList ++ rest))) : W p l e R s m args below meth c H locs cells slots Q (F0 m pc ls st0) := by
  have hf := fr_l hD hS hA
  intro T hT X
  obtain ⟨v, st₀, t, T', L, h0, X', hL, e1, e2, ⟨⟨hv, hp, hk1, hd1⟩, hz, hk⟩, stp⟩ := hr T hT X
  cases hv
  rw [h0] at hz hk
  obtain ⟨hP1, hD1⟩ := jn (H1 := T'.heap) hP hD (fun q h1 h2 => by rw [e1]; exact hk q h1 h2) hf (by rw [e1]; exact hp) hd1
  obtain ⟨t2, a1, b1⟩ := kk T'.heap (locs ++ L) hP1 hD1
    ⟨Nat.le_trans hS.1 (by rw [e1]; exact hz), fun q h1 h2 => by rw [e1, hk q (Nat.lt_of_lt_of_le h1 hS.1) (fun z => h2 (hf q z))]; exact hS.2.1 q h1 h2, fun q hq => by
      rcases List.mem_append.mp hq with h | h
      · exact hS.2.2 q h
      · exact hf _ (hL q h)⟩ T' rfl X'
  exact ⟨t2, stp t2 a1, b1⟩
theorem w_callV (hx : p.tables.exec = Jvm.exec) (hb : c.code = cc) (hml : c.maxLocals = nL) (hown : s.vm.findClass own = some m.cls) (hts : ∀ w ∈ UU, w.before args s = true) (hK : va_K D vwCl (tyL cy) s) (hA : ∀ q, s.heap.size ≤ q → A q) (hX : SX A a s s.heap) (hP : va_P D vwCl (wf cy a σ ++ wr) H) (hD : va_D A (wf cy a σ ++ wr)) (hS : va_S A s.heap H locs) (hsz : ls.size = nL)
    {y : MethodName} {cc' : ByteArray} {nL' : Nat} {rt' : Option FieldType} {R' : Room} {av' : (Nat → Nat) → List Value} {rv1 : (Nat → Nat) → Option Value} (hc : Con l y cc' nL' rt' R' wf av' σ rv1 σ1) {idx n : Nat} (hw : CallOk own idx y cc' nL' rt' n ∧ Cond.instanceMethod y ∈ UU ∧ Cond.selects y.cls y y ∈ UU)
    {q0 ci b N : Nat} {fs : List Value} {T : u_T} (hrec : (wf cy a σ)[q0]? = some (b, .inr (ci, fs))) (hcl : vwCl[ci]? = some (y.cls, T, N)) (hav : av' a = .ref b :: As) (hn : As.length = n) (hst : st = As.reverse ++ .ref b :: rest) (hR : R'.frames + 1 ≤ R.frames ∧ 8 + (nL' + 11) + R'.locals ≤ R.locals) (hcat : (rest.map fun v => v.category).sum ≤ 8) (d : decode cc pc = .ok (.invokevirtual idx, 3)) (hroom : cells ≤ R.cells ∧ slots ≤ R.slots)
    (n1 : ∀ (H1 : Heap) (L1 : List Loc), va_P D vwCl (wf cy a σ1 ++ wr) H1 → va_D A (wf cy a σ1 ++ wr) → va_S A s.heap H1 L1 → W p l e R s m args below meth c H1 L1 cells slots Q (F0 m (pc + 3) ls ((rv1 a).toList ++ rest))) : W p l e R s m args below meth c H locs cells slots Q (F0 m pc ls st) := by
  obtain ⟨c1, c2, hM⟩ := hc
  have hM := hM D cy a H.size
  rw [hav] at hM
  have hf := fr_l hD hS hA
  have hPc := pa_l hP
  have cw : CallW R s args own y.cls idx y cc' nL' rt' (Cond.code y cc' nL' rt' :: UU) R' 0 0 n := ⟨callB_of n hts (uu_good hw.1.1.2.2) rfl c1 c2 (hts _ hw.1.1.2.1) (hts _ hw.1.1.1) hw.1.2 hR, hts _ hw.2.1, hts _ hw.2.2⟩
  exact w_run (va_runV (As := As) (rest := rest) ⟨hx, hb, hml, hown, hts⟩ hM cw ⟨PC.blind, va_recv hK hPc hcl hrec, fun U hU hW => ⟨rfl, by rw [hU], by rw [hU]; exact hPc, va_K.moved hW.alike hK, (da_l hD).weaken (fun _ _ _ _ => trivial), by rw [hU]; exact hX.warm hW hS.2.1 hf⟩⟩ rfl hn hsz hst (lv_room hcat) d hroom) hP hD hS hA n1
end LC
/-! the class throws -/
def XT (D : va_G) (cy : Nat → ClassId) (a : Nat → Nat) (σ : St) (A : Nat → Prop) : String → State → State → Prop := fun E st t => E = nsX ∧ va_P D vwCl (wC cy a σ) t.heap ∧ va_K D vwCl (tyL cy) t ∧ va_D A (wC cy a σ) ∧ va_F A st t
abbrev RmT : Room := { frames := 6, cells := 1, slots := 6, locals := 90 }
theorem TX_blind {D : va_G} {cy : Nat → ClassId} {a : Nat → Nat} {σ : St} {sz : Nat} {av : List Value} {A : Nat → Prop} : FrameBlind (va_Pc av (fun U => PC D cy wC a σ sz U ∧ EX A U U.heap)) := by
  intro a' U g mk q
  obtain ⟨q0, ⟨q1, qP, qK, qD, qX⟩, qE⟩ := q
  exact ⟨q0, ⟨q1, qP, va_K.moved (u := U) (U := U.calling g mk a') (Vm.Alike.refl U.vm) qK, qD, qX.blind⟩, qE.blind⟩
set_option maxHeartbeats 4000000 in
set_option maxRecDepth 100000 in
theorem thr_word (l : Launch) (hst : l.stackTraces = false) (σ : St) (x1 x2 : Int32) (h : f_X6_bagOf x1 = none ∨ ∃ b, b < 3 ∧ f_X6_bagOf x1 = some b ∧ f_X6_isWord σ b x2 = 0) (D : va_G) (cy : Nat → ClassId) (a : Nat → Nat) (sz : Nat) : vx_Met l yX6_word (Cond.code yX6_word cX6_word 4 (some .long) :: UU) RmT (va_Pc [.ref (a 0), .int x1, .int x2] (fun U => PC D cy wC a σ sz U ∧ EX (va_A (wC cy a σ) sz) U U.heap)) (fun _ _ _ _ => False) (XT D cy a σ (va_A (wC cy a σ) sz)) 1 6 (va_A (wC cy a σ) sz) := by
  refine vx_ofW (cc := cX6_word) (maxL := 4) (ret := some .long) (by decide) rfl ?_
  intro p e s m args below meth c s₁ B hml hnt hv
  obtain ⟨rfl, ⟨hsz, hP, hK, hD0, hX⟩, hE⟩ := hv
  have hx := B.exec
  have hb := B.bytes
  have hts0 := atoms_spec (ws := Cond.code yX6_word cX6_word 4 (some .long) :: UU) B.pre
  have hts : ∀ w ∈ UU, w.before #[Value.ref (a 0), .int x1, .int x2] s = true := fun w h => hts0 w (List.mem_cons_of_mem _ h)
  have hown : s.vm.findClass RX6 = some m.cls := findClass_of_methodNamed B.named
  have hlocks := B.notSynchronized
  subst hsz
  have hD := hD0.self (sz := s.heap.size)
  have hA : ∀ q : Nat, s.heap.size ≤ q → va_A (wC cy a σ) s.heap.size q := fun q h => Or.inr h
  have hl := lv_entry ([.ref (a 0), .int x1, .int x2]) (n := 4) (Nat.le_of_ble_eq_true rfl)
  rw [lg_entry_eq]
  generalize (lg_sl ([.ref (a 0), .int x1, .int x2]) ++ List.replicate (4 - (lg_sl ([.ref (a 0), .int x1, .int x2])).length) Slot.unset).toArray = ls at hl ⊢
  have hl : lv_has ls 4 [(0, .ref (a 0)), (1, .int x1), (2, .int x2)] := hl
  have hP0 : va_P D vwCl (wC cy a σ ++ []) s.heap := by rw [List.append_nil]; exact hP
  have hD0 : va_D (va_A (wC cy a σ) s.heap.size) (wC cy a σ ++ []) := by rw [List.append_nil]; exact hD
  -- the throw
  have thr : ∀ (ls : Array Slot) (H : Heap) (locs : List Loc), ls.size = 4 → va_P D vwCl (wC cy a σ ++ []) H → va_S (va_A (wC cy a σ) s.heap.size) s.heap H locs → W p l e RmT s m #[Value.ref (a 0), .int x1, .int x2] below meth c H locs 0 0 (vx_MQ below (fun _ _ _ _ => False) (XT D cy a σ (va_A (wC cy a σ) s.heap.size)) #[Value.ref (a 0), .int x1, .int x2] s 1 6 (va_A (wC cy a σ) s.heap.size)) (F0 m 19 ls []) := by
    intro ls H locs hsz hP1 hS
    rw [List.append_nil] at hP1
    exact throwN (A := va_A (wC cy a σ) s.heap.size) hx hb hst hown (hts _ (uu_t 654 (by decide +kernel) rfl)) (hts _ (uu_t 17 (by decide +kernel) rfl)) (hX.2.1 0 (by decide)) (ns_hat hts hE) (fun w hw => List.all_eq_true.mp ns_ot w hw) hE.1 hE.2.1 hS (by rw [hml]; exact hsz) dX6_word_19 dX6_word_22 dX6_word_23 dX6_word_25 (Nat.le_of_ble_eq_true rfl) (Nat.le_of_ble_eq_true rfl) (Nat.le_of_ble_eq_true rfl) (Nat.le_of_ble_eq_true rfl) dX6_word_28 (fun x hx => (hnt x hx).elim) hlocks
      (fun t hal h1 h2 => ⟨rfl, hP1.kept (fun k q hk => h2 q.1 ((hP1 k q hk).lt)), va_K.moved hal hK, hD, ⟨Nat.le_trans hS.1 h1, fun q h3 h4 => (h2 q (Nat.lt_of_lt_of_le h3 hS.1)).trans (hS.2.1 q h3 h4)⟩⟩) hS.2.2 (Nat.le_of_ble_eq_true rfl) (Nat.le_of_ble_eq_true rfl)
  refine lv_aload_n hx hb dX6_word_0 rfl (lv_at hl 0 rfl) ?_
  refine lv_iload_n hx hb dX6_word_1 rfl (lv_at hl 1 rfl) ?_
  refine w_callV (As := [.int x1]) (rest := []) hx hb hml hown hts hK hA hX hP0 hD0 va_S.rf hl.1 (con_X6_bagOf l σ x1) K6_75 (ob6 a σ cy) rfl rfl rfl rfl ⟨Nat.le_of_ble_eq_true rfl, Nat.le_of_ble_eq_true rfl⟩ (Nat.le_of_ble_eq_true rfl) dX6_word_2 ⟨Nat.zero_le _, Nat.zero_le _⟩ (fun H locs hP hD hS => ?_)
  show W p l e RmT s m _ below meth c H locs 0 0 _ (F0 m 5 ls [rb_ a (f_X6_bagOf x1)])
  rcases h with h | ⟨b, hb3, h, hw0⟩
  · rw [h]
    refine lv_astore_nN (lv' := [(3, .null), (0, .ref (a 0)), (1, .int x1), (2, .int x2)]) hx hb dX6_word_5 rfl hl (by decide) rfl (fun ls hl => ?_)
    refine lv_aload_nN hx hb dX6_word_6 rfl (lv_at hl 0 rfl) ?_
    refine lv_ifnullN (tgt := 19) hx hb dX6_word_7 (by decide) ?_
    exact thr ls H locs hl.1 hP hS
  · rw [h]
    refine lv_astore_n (lv' := [(3, .ref (a (1 + b))), (0, .ref (a 0)), (1, .int x1), (2, .int x2)]) hx hb dX6_word_5 rfl hl (by decide) rfl (fun ls hl => ?_)
    refine lv_aload_n hx hb dX6_word_6 rfl (lv_at hl 0 rfl) ?_
    refine lv_ifnull hx hb dX6_word_7 ?_
    refine lv_aload_n hx hb dX6_word_10 rfl (lv_at hl 1 rfl) ?_
    refine lv_aload_n hx hb dX6_word_11 rfl (lv_at hl 0 rfl) ?_
    refine lv_iload_n hx hb dX6_word_12 rfl (lv_at hl 3 rfl) ?_
    refine w_callV (As := [.ref (a (1 + b)), .int x2]) (rest := []) hx hb hml hown hts hK hA hX hP hD hS hl.1 (con_X6_isWord l σ b x2 hb3 rfl) K6_170 (ob6 a σ cy) rfl rfl rfl rfl ⟨Nat.le_of_ble_eq_true rfl, Nat.le_of_ble_eq_true rfl⟩ (Nat.le_of_ble_eq_true rfl) dX6_word_13 ⟨Nat.zero_le _, Nat.zero_le _⟩ (fun H locs hP hD hS => ?_)
    show W p l e RmT s m _ below meth c H locs 0 0 _ (F0 m 16 ls [.int (f_X6_isWord σ b x2)])
    refine lv_if_ne (tgt := 29) hx hb dX6_word_16 (by decide) (fun q => absurd hw0 q) (fun q => ?_)
    exact thr ls H locs hl.1 hP hS
set_option maxHeartbeats 4000000 in
set_option maxRecDepth 100000 in
theorem thr_row (l : Launch) (hst : l.stackTraces = false) (σ : St) (x1 : Int32) (h : x1 < 0 ∨ ¬ x1 < st_i σ 16) (D : va_G) (cy : Nat → ClassId) (a : Nat → Nat) (sz : Nat) : vx_Met l yX6_row (Cond.code yX6_row cX6_row 2 (some .long) :: UU) RmT (va_Pc [.ref (a 0), .int x1] (fun U => PC D cy wC a σ sz U ∧ EX (va_A (wC cy a σ) sz) U U.heap)) (fun _ _ _ _ => False) (XT D cy a σ (va_A (wC cy a σ) sz)) 1 6 (va_A (wC cy a σ) sz) := by
  refine vx_ofW (cc := cX6_row) (maxL := 2) (ret := some .long) (by decide) rfl ?_
  intro p e s m args below meth c s₁ B hml hnt hv
  obtain ⟨rfl, ⟨hsz, hP, hK, hD0, hX⟩, hE⟩ := hv
  have hx := B.exec
  have hb := B.bytes
  have hts0 := atoms_spec (ws := Cond.code yX6_row cX6_row 2 (some .long) :: UU) B.pre
  have hts : ∀ w ∈ UU, w.before #[Value.ref (a 0), .int x1] s = true := fun w h => hts0 w (List.mem_cons_of_mem _ h)
  have hown : s.vm.findClass RX6 = some m.cls := findClass_of_methodNamed B.named
  have hlocks := B.notSynchronized
  subst hsz
  have hD := hD0.self (sz := s.heap.size)
  have hA : ∀ q : Nat, s.heap.size ≤ q → va_A (wC cy a σ) s.heap.size q := fun q h => Or.inr h
  have hl := lv_entry ([.ref (a 0), .int x1]) (n := 2) (Nat.le_of_ble_eq_true rfl)
  rw [lg_entry_eq]
  generalize (lg_sl ([.ref (a 0), .int x1]) ++ List.replicate (2 - (lg_sl ([.ref (a 0), .int x1])).length) Slot.unset).toArray = ls at hl ⊢
  have hl : lv_has ls 2 [(0, .ref (a 0)), (1, .int x1)] := hl
  have thr : W p l e RmT s m #[Value.ref (a 0), .int x1] below meth c s.heap [] 0 0 (vx_MQ below (fun _ _ _ _ => False) (XT D cy a σ (va_A (wC cy a σ) s.heap.size)) #[Value.ref (a 0), .int x1] s 1 6 (va_A (wC cy a σ) s.heap.size)) (F0 m 15 ls []) :=
    throwNW (A := va_A (wC cy a σ) s.heap.size) hx hb hst hown (hts _ (uu_t 654 (by decide +kernel) rfl)) (hts _ (uu_t 17 (by decide +kernel) rfl)) (hX.2.1 1 (by decide)) (ns_hat hts hE) (fun w hw => List.all_eq_true.mp ns_ot w hw) hE.1 hE.2.1 va_S.rf (by rw [hml]; exact hl.1) dX6_row_15 dX6_row_18 dX6_row_19 dX6_row_22 (Nat.le_of_ble_eq_true rfl) (Nat.le_of_ble_eq_true rfl) (Nat.le_of_ble_eq_true rfl) (Nat.le_of_ble_eq_true rfl) dX6_row_25 (fun x hx => (hnt x hx).elim) hlocks
      (fun t hal h1 h2 => ⟨rfl, hP.kept (fun k q hk => h2 q.1 ((hP k q hk).lt)), va_K.moved hal hK, hD, ⟨h1, fun q h3 h4 => h2 q h3⟩⟩) (fun z hz => nomatch hz) (Nat.le_of_ble_eq_true rfl) (Nat.le_of_ble_eq_true rfl)
  refine lv_iload_n hx hb dX6_row_0 rfl (lv_at hl 1 rfl) ?_
  refine lv_if_lt (tgt := 15) hx hb dX6_row_1 (by decide) (fun _ => thr) (fun q => ?_)
  refine lv_iload_n hx hb dX6_row_4 rfl (lv_at hl 1 rfl) ?_
  refine lv_aload_n hx hb dX6_row_5 rfl (lv_at hl 0 rfl) ?_
  refine va_get (T := TX6) (ci := 6) hx hb hts inU6 hown hK hP 0 (ob6 a σ cy) rfl 9 (by decide) (hts _ (uu_t 154 (by decide +kernel) rfl)) (fun _ h9 => h9) rfl dX6_row_6 ?_
  refine va_getN (T := TX3) (ci := 3) hx hb hts inU3 hown hK hP 7 (ob3 a σ cy) rfl 1 (by decide) (va_Nw.use rfl (hX.2.2.2.1 _ (List.mem_of_getElem? (i := 7) rfl))) (fun _ h9 => h9) rfl dX6_row_9 ?_
  refine lv_icmp_lt (tgt := 26) hx hb dX6_row_12 (by decide) (fun q2 => ?_) (fun _ => thr)
  rcases h with h | h
  · exact absurd h q
  · exact absurd q2 h
