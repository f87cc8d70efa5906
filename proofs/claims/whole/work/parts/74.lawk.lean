/-! THE CLAIM OUT OF ONE WALK OF THE LAW'S BODY. Your part is whole_start (and what it stands on); all else here is the same for every law, but numbers. -/
def R_law : String := "QuotientFileLaw"
def lw_P (b : Addr) (xs : List Int32) (args : Array Value) (s : State) : Prop := args = #[.ref b] ∧ s.IntsAt b xs ∧ xs.length ≤ 2560 ∧ (Jvm.Cond.and given_1 narrow_1).before args s = true
/-- what a walk over the start with the record d0 says of its end, said of the start itself -/
theorem lw_closed {s t : State} {o : Outcome} {d0 : Drawn} {L : List Loc} {k n : Nat} (hd0 : s.drawn.sameBut d0 lw_cs) (hv : ∃ v, o = .returned v) (hW : (s.setDrawn d0).WarmedH t.vm) (hs : (s.setDrawn d0).sameButNew ({ t with vm := s.vm } : State) L k n) : State.butDraws s t lw_cs (fun t1 => Framed s o t1 L k n) := by
  have h2 : t.drawn = d0 := congrArg State.drawn hs.1
  refine ⟨⟨hv, hW, State.sameButNew.setDrawn hs s.drawn⟩, ?_, by decide⟩
  rw [h2]
  exact hd0
def lw_Q (_ : Array Value) (s : State) (o : Outcome) (t : State) : Prop := o = .returned (some (.int 1)) ∧ State.butDraws s t lw_cs (fun t1 => Framed s o t1 [] 1069 10279)
def lw_Z (below : List Frame) (a : Array Value) (s : State) : State → Prop := fun t => ∃ o, t.status = .running ∧ Ended t below o ∧ lw_Q a s o t
/-- the law's own end, with 1 on the stack, nothing written that was there before, its room as the claim has it; d0: the record of draws at this point (at the entry s.drawn: begin with 'refine W.base ?_' and 'have hd0 := Drawn.sameBut.refl s.drawn lw_cs') -/
theorem lw_ret {p : Program} {l : Launch} {e : Env} {s : State} {m : MethodId} {below : List Frame} {meth : Method} {c : Code} {b : Nat} {d0 : Drawn} (hd0 : s.drawn.sameBut d0 lw_cs) (hx : p.tables.exec = Jvm.exec) (hb : c.code = code) (hr : meth.sig.returnType = ret) (hlocks : meth.locks = false) {pc : Nat} {H : Heap} {ls : Array Slot} (hdg : decode code pc = .ok (.ireturn, 1)) : W p l e room_1 (s.setDrawn d0) m #[Value.ref b] below meth c H [] 1069 10279 (lw_Z below #[Value.ref b] s) (F0 m pc ls [.int 1]) := by
  intro T hT X
  obtain ⟨fs, hret, hrun, hended, hW, hframe⟩ := X.leave (v := some (.int 1)) (hlocks := hlocks) (fun h => by rw [hr] at h; cases h)
  have hmeth' : T.vm.method? m = some meth := X.method'
  refine ⟨T.setFrames fs, ?_, .returned (some (.int 1)), hrun, hended, rfl, lw_closed hd0 ⟨_, rfl⟩ hW hframe⟩
  jvm_step X.here [X.here.top, hx, hb, hdg, hmeth', hr, ret, narrow_b1]
  (try refine ⟨rfl, ?_⟩); (try refine ⟨rfl, ?_⟩)
  first | (intro acts; rw [hret _ acts rfl rfl rfl]) | rw [hret _ _ rfl rfl rfl]
  exact Steps.refl _
/-- what holds at the law's entry: the machine, the code, the tables' words (any of lw_tbl by 'hts w (by decide +kernel)'), the script of L ints xs at the cell b, what the Statement gives of the start (any of its parts by flat_of_before) -/
def lw_At (p : Program) (s : State) (m : MethodId) (meth : Method) (c : Code) (b L : Nat) (xs : Nat → Int32) : Prop :=
  p.tables.exec = Jvm.exec ∧ c.code = code ∧ meth.sig.returnType = ret ∧ c.maxLocals = 8 ∧ s.vm.findClass R_law = some m.cls ∧ (∀ w ∈ lw_tbl, w.before #[Value.ref b] s = true) ∧ va_X b L xs s s.heap ∧ b < s.heap.size ∧ meth.locks = false ∧ (Jvm.Cond.and given_1 narrow_1).before #[Value.ref b] s = true
/-! ===== the law's calls ===== -/
abbrev AA (s : State) : Nat → Prop := fun q => s.heap.size ≤ q
abbrev wL (cy : Nat → ClassId) (aC aM : Nat → Nat) (o : Nat) (σ τ : St) (g : Nat → Int64) : va_W := wC cy aC σ ++ (wM cy aM τ ++ [(o, .inl (cy 1, 1, .inr (.inl g)))])
def LX (p : Program) (l : Launch) (s : State) (m : MethodId) (meth : Method) (c : Code) (b L : Nat) (xs : Nat → Int32) (D : va_G) (cy : Nat → ClassId) (aC aM : Nat → Nat) : Prop := lw_At p s m meth c b L xs ∧ L ≤ 2560 ∧ l.stackTraces = false ∧ va_K D vwCl (tyL cy) s ∧ SX (AA s) aC s s.heap ∧ SX (AA s) aM s s.heap ∧ EX (AA s) s s.heap
theorem da_xm {A : Nat → Prop} {w1 w2 : va_W} (h : va_D A (w1 ++ w2)) {p q : Nat × va_E} (hi : p ∈ w1) (hj : q ∈ w2) : p.1 ≠ q.1 := by
  obtain ⟨i, hi⟩ := List.mem_iff_getElem?.mp hi
  obtain ⟨j, hj⟩ := List.mem_iff_getElem?.mp hj
  exact da_x h hi hj
theorem d_in {A : Nat → Prop} {w1 w2 w3 : va_W} (h : va_D A ((w1 ++ w2) ++ w3)) : va_D A ((w2 ++ w1) ++ w3) := da_mk (da_sw (da_l h)) (da_r h) (fun i j p q hi hj => da_xm h (by
  have := List.mem_of_getElem? hi
  rcases List.mem_append.mp this with z | z
  · exact List.mem_append_right _ z
  · exact List.mem_append_left _ z) (List.mem_of_getElem? hj))
theorem p_in {D : va_G} {cl : List vw_C} {w1 w2 w3 : va_W} {H : Heap} (h : va_P D cl ((w1 ++ w2) ++ w3) H) : va_P D cl ((w2 ++ w1) ++ w3) H := (pa_sw (pa_l h)).app (pa_r h)
theorem uu_goodW {y : MethodName} {cc : ByteArray} {n : Nat} {rt : Option FieldType} {hh : List (Nat × Nat × Nat × Nat)} (h : Cond.codeWith y cc n rt hh ∈ UU) : GoodIn UU (Cond.codeWith y cc n rt hh :: UU) := fun w q => by
  have q2 : w ∈ UU := (List.mem_cons.mp q).elim (fun e => e ▸ h) id
  exact ⟨q2, good_of_word (List.mem_filter.mp q2).2⟩
section LW
variable {p : Program} {l : Launch} {e : Env} {s : State} {m : MethodId} {below : List Frame} {meth : Method} {c : Code} {b L : Nat} {xs : Nat → Int32} {D : va_G} {cy : Nat → ClassId} {aC aM : Nat → Nat} {o : Nat} {σ σ1 τ τ1 : St} {g g1 : Nat → Int64} {H : Heap} {locs : List Loc} {ls : Array Slot} {pc cells slots : Nat} {st rest As : List Value} {Q : State → Prop}
theorem lw_callC (hLX : LX p l s m meth c b L xs D cy aC aM) (hP : va_P D vwCl (wL cy aC aM o σ τ g) H) (hD : va_D (AA s) (wL cy aC aM o σ τ g)) (hS : va_S (AA s) s.heap H locs) (hsz : ls.size = 8)
    {y : MethodName} {cc' : ByteArray} {nL' : Nat} {rt' : Option FieldType} {R' : Room} {av' : (Nat → Nat) → List Value} {rv1 : (Nat → Nat) → Option Value} (hc : Con l y cc' nL' rt' R' wC av' σ rv1 σ1) {idx n : Nat} (hw : CallOk RL idx y cc' nL' rt' n ∧ Cond.instanceMethod y ∈ UU ∧ Cond.selects y.cls y y ∈ UU)
    (hcl : vwCl[6]? = some (y.cls, TX6, 12)) (hav : av' aC = .ref (aC 0) :: As) (hn : As.length = n) (hst : st = As.reverse ++ .ref (aC 0) :: rest) (hR : R'.frames + 1 ≤ 11 ∧ 8 + (nL' + 11) + R'.locals ≤ 402) (hcat : (rest.map fun v => v.category).sum ≤ 8) (d : decode cL_law pc = .ok (.invokevirtual idx, 3)) (hroom : cells ≤ 1069 ∧ slots ≤ 10279)
    (n1 : ∀ (H1 : Heap) (L1 : List Loc), va_P D vwCl (wL cy aC aM o σ1 τ g) H1 → va_D (AA s) (wL cy aC aM o σ1 τ g) → va_S (AA s) s.heap H1 L1 → W p l e room_1 s m #[Value.ref b] below meth c H1 L1 cells slots Q (F0 m (pc + 3) ls ((rv1 aC).toList ++ rest))) : W p l e room_1 s m #[Value.ref b] below meth c H locs cells slots Q (F0 m pc ls st) := by
  obtain ⟨⟨hx, hb, hr, hml, hown, hts, hX, hbl, hlocks, hgv⟩, hL, htr, hK, hXC, hXM, hE⟩ := hLX
  exact w_callV (own := RL) hx hb hml hown (fun w hw => hts w (uu_lw hw)) hK (fun q h => h) hXC hP hD hS hsz hc hw (ob6 aC σ cy) hcl hav hn hst hR hcat d hroom n1
theorem lw_callM (hLX : LX p l s m meth c b L xs D cy aC aM) (hP : va_P D vwCl (wL cy aC aM o σ τ g) H) (hD : va_D (AA s) (wL cy aC aM o σ τ g)) (hS : va_S (AA s) s.heap H locs) (hsz : ls.size = 8)
    {y : MethodName} {cc' : ByteArray} {nL' : Nat} {rt' : Option FieldType} {R' : Room} {av' : (Nat → Nat) → List Value} {rv1 : (Nat → Nat) → Option Value} (hc : Con l y cc' nL' rt' R' wM av' τ rv1 τ1) {idx n : Nat} (hw : CallOk RL idx y cc' nL' rt' n ∧ Cond.instanceMethod y ∈ UU ∧ Cond.selects y.cls y y ∈ UU)
    (hcl : vwCl[7]? = some (y.cls, TX7, 27)) (hav : av' aM = .ref (aM 0) :: As) (hn : As.length = n) (hst : st = As.reverse ++ .ref (aM 0) :: rest) (hR : R'.frames + 1 ≤ 11 ∧ 8 + (nL' + 11) + R'.locals ≤ 402) (hcat : (rest.map fun v => v.category).sum ≤ 8) (d : decode cL_law pc = .ok (.invokevirtual idx, 3)) (hroom : cells ≤ 1069 ∧ slots ≤ 10279)
    (n1 : ∀ (H1 : Heap) (L1 : List Loc), va_P D vwCl (wL cy aC aM o σ τ1 g) H1 → va_D (AA s) (wL cy aC aM o σ τ1 g) → va_S (AA s) s.heap H1 L1 → W p l e room_1 s m #[Value.ref b] below meth c H1 L1 cells slots Q (F0 m (pc + 3) ls ((rv1 aM).toList ++ rest))) : W p l e room_1 s m #[Value.ref b] below meth c H locs cells slots Q (F0 m pc ls st) := by
  obtain ⟨⟨hx, hb, hr, hml, hown, hts, hX, hbl, hlocks, hgv⟩, hL, htr, hK, hXC, hXM, hE⟩ := hLX
  have hP' : va_P D vwCl (wM cy aM τ ++ ([(o, .inl (cy 1, 1, .inr (.inl g)))] ++ wC cy aC σ)) H := by rw [← List.append_assoc]; exact pa_sw hP
  have hD' : va_D (AA s) (wM cy aM τ ++ ([(o, .inl (cy 1, 1, .inr (.inl g)))] ++ wC cy aC σ)) := by rw [← List.append_assoc]; exact da_sw hD
  refine w_callV (own := RL) hx hb hml hown (fun w hw => hts w (uu_lw hw)) hK (fun q h => h) hXM hP' hD' hS hsz hc hw (ob7 aM τ cy) hcl hav hn hst hR hcat d hroom (fun H1 L1 h1 h2 h3 => ?_)
  rw [← List.append_assoc] at h1 h2
  exact n1 H1 L1 (pa_sw h1) (da_sw h2) h3
theorem lw_wrap (hLX : LX p l s m meth c b L xs D cy aC aM) (hP : va_P D vwCl (wL cy aC aM o σ τ g) H) (hD : va_D (AA s) (wL cy aC aM o σ τ g)) (hS : va_S (AA s) s.heap H locs) (hsz : ls.size = 8)
    {y : MethodName} {cc' : ByteArray} {nL' : Nat} {hh : List (Nat × Nat × Nat × Nat)} {k : Int32} (hM : ∀ sz, vx_Met l y (Cond.codeWith y cc' nL' (some .int) hh :: UU) RmL (va_Pc As (PL D cy aC o σ g sz)) (QL D cy aC o k σ1 g1 (va_A (wO cy aC o σ g) sz)) (fun _ _ _ => False) 1 6 (va_A (wO cy aC o σ g) sz)) {idx n : Nat}
    (hw : (Cond.methodLink RL idx y ∈ UU ∧ Cond.initialized y.cls ∈ UU ∧ Cond.codeWith y cc' nL' (some .int) hh ∈ UU ∧ Cond.static y ∈ UU) ∧ (y.cls ≠ "java/lang/invoke/MethodHandle" ∧ y.cls ≠ "java/lang/invoke/VarHandle") ∧ (parseMethodDescriptor y.desc).map (fun d => d.parameters.length) = some n) (hn : As.length = n) (hst : st = As.reverse ++ rest) (hnL : 8 + (nL' + 11) + 120 ≤ 402) (hcat : (rest.map fun v => v.category).sum ≤ 8) (d : decode cL_law pc = .ok (.invokestatic idx, 3)) (hroom : cells + 1 ≤ 1069 ∧ slots + 6 ≤ 10279)
    (n1 : ∀ (H1 : Heap) (L1 : List Loc), va_P D vwCl (wL cy aC aM o σ1 τ g1) H1 → va_D (AA s) (wL cy aC aM o σ1 τ g1) → va_S (AA s) s.heap H1 L1 → W p l e room_1 s m #[Value.ref b] below meth c H1 L1 (cells + 1) (slots + 6) Q (F0 m (pc + 3) ls (.int k :: rest))) : W p l e room_1 s m #[Value.ref b] below meth c H locs cells slots Q (F0 m pc ls st) := by
  obtain ⟨⟨hx, hb, hr, hml, hown, hts, hX, hbl, hlocks, hgv⟩, hL, htr, hK, hXC, hXM, hE⟩ := hLX
  have hts : ∀ w ∈ UU, w.before #[Value.ref b] s = true := fun w hw => hts w (uu_lw hw)
  have hA : ∀ q, s.heap.size ≤ q → AA s q := fun q h => h
  have hP' : va_P D vwCl (wO cy aC o σ g ++ wM cy aM τ) H := p_in (w1 := [(o, .inl (cy 1, 1, .inr (.inl g)))]) (pa_sw (by rw [← List.append_assoc]; exact pa_sw hP))
  have hD' : va_D (AA s) (wO cy aC o σ g ++ wM cy aM τ) := d_in (w1 := [(o, .inl (cy 1, 1, .inr (.inl g)))]) (da_sw (by rw [← List.append_assoc]; exact da_sw hD))
  have hf := fr_l hD' hS hA
  have hPc := pa_l hP'
  have cw : vx_CSW room_1 s #[Value.ref b] RL idx y cc' nL' (some .int) hh (Cond.codeWith y cc' nL' (some .int) hh :: UU) RmL 1 6 n := by
    refine ⟨⟨rfl, rfl, Nat.le_of_ble_eq_true rfl, hnL, pay_in hts (uu_goodW hw.1.2.2.1), List.mem_cons_self⟩, hts _ hw.1.2.2.1, hts _ hw.1.2.1, hw.2.1, fun sig h => ?_, hts _ hw.1.1, hts _ hw.1.2.2.2⟩
    have h2 := hw.2.2
    rw [h] at h2
    exact (Option.some.inj h2).symm
  have hrun := vx_runSX (p := p) (e := e) (below := below) (meth := meth) (cells := cells) (slots := slots) (locs := locs) (g := F0 m pc ls st) (As := As) (rest := rest) ⟨hx, hb, hml, hown, hts⟩ (hM H.size) cw ⟨PL_blind, fun U hU hW => ⟨rfl, by rw [hU], by rw [hU]; exact hPc, va_K.moved hW.alike hK, (da_l hD').weaken (fun _ _ _ _ => trivial), by rw [hU]; exact hXC.warm hW hS.2.1 hf, by rw [hU]; exact hE.warm hW hS.2.1 hf⟩⟩ rfl hn hsz hst (lv_room hcat) d hroom
  intro T hT X
  rcases hrun T hT X with ⟨v, st₀, t, T', L, h0, X', hL, e1, e2, ⟨⟨hv, hp, hk1, hd1⟩, hz, hk⟩, stp⟩ | ⟨q, st₀, t, T', L, E, ce, h0, X', hL, e1, e2, hF, -⟩
  · cases hv
    rw [h0] at hz hk
    obtain ⟨hP1, hD1⟩ := jn (H1 := T'.heap) hP' hD' (fun q h1 h2 => by rw [e1]; exact hk q h1 h2) hf (by rw [e1]; exact hp) hd1
    have hP2 : va_P D vwCl (wL cy aC aM o σ1 τ g1) T'.heap := by
      rw [List.append_assoc] at hP1
      exact pa_sw (p_in (pa_sw hP1))
    have hD2 : va_D (AA s) (wL cy aC aM o σ1 τ g1) := by
      rw [List.append_assoc] at hD1
      exact da_sw (d_in (da_sw hD1))
    obtain ⟨t2, a1, b1⟩ := n1 T'.heap (locs ++ L) hP2 hD2
      ⟨Nat.le_trans hS.1 (by rw [e1]; exact hz), fun q h1 h2 => by rw [e1, hk q (Nat.lt_of_lt_of_le h1 hS.1) (fun z => h2 (hf q z))]; exact hS.2.1 q h1 h2, fun q hq => by
        rcases List.mem_append.mp hq with h | h
        · exact hS.2.2 q h
        · exact hf _ (hL q h)⟩ T' rfl X'
    exact ⟨t2, stp t2 a1, b1⟩
  · exact hF.elim
end LW
abbrev LV (b : Nat) (aC aM : Nat → Nat) (o i : Nat) : List (Nat × Value) := [(0, .ref b), (1, .ref (aC 0)), (2, .ref (aM 0)), (3, .ref o), (4, .int (nI i))]
def KK (p : Program) (l : Launch) (e : Env) (s : State) (m : MethodId) (below : List Frame) (meth : Method) (c : Code) (b : Nat) (D : va_G) (cy : Nat → ClassId) (aC aM : Nat → Nat) (o i cells slots : Nat) : Prop :=
  ∀ (σ τ : St) (g : Nat → Int64) (H : Heap) (locs : List Loc) (ls : Array Slot), Rel σ τ → va_P D vwCl (wL cy aC aM o σ τ g) H → va_D (AA s) (wL cy aC aM o σ τ g) → va_S (AA s) s.heap H locs → lv_has ls 8 (LV b aC aM o i) → W p l e room_1 s m #[Value.ref b] below meth c H locs (cells + 1) (slots + 6) (lw_Z below #[Value.ref b] s) (F0 m 1393 ls [])
theorem in_k {i L k : Nat} {v : Int32} (hv : v = nI k) (h : i + k < L) (hL : L ≤ 2560) : vp_in (nI i + v) L := by
  rw [hv, nI_add]
  exact vp_in_nI h (by omega)
