/-! ===== my kit: a state of numbers, a judgement over it, a row an instruction ===== -/
abbrev St : Type := (Nat → Int32) × (Nat → Nat → Int32) × (Nat → Nat → Int64)
def st_i (σ : St) (k : Nat) : Int32 := σ.1 k
def st_a (σ : St) (k : Nat) : Nat → Int32 := σ.2.1 k
def st_l (σ : St) (k : Nat) : Nat → Int64 := σ.2.2 k
def put_i (σ : St) (k : Nat) (v : Int32) : St := (fun j => if j = k then v else σ.1 j, σ.2.1, σ.2.2)
def put_a (σ : St) (k i : Nat) (v : Int32) : St := (σ.1, fun j => if j = k then upd (σ.2.1 k) i v else σ.2.1 j, σ.2.2)
def put_l (σ : St) (k i : Nat) (v : Int64) : St := (σ.1, σ.2.1, fun j => if j = k then vp_updL (σ.2.2 k) i v else σ.2.2 j)
def in_b (i : Int32) (n : Nat) : Bool := !(decide (i < 0)) && decide (i.toNatClampNeg < n)
theorem in_b_vp {i : Int32} {n : Nat} (h : in_b i n = true) : vp_in i n := by
  simp only [in_b, Bool.and_eq_true, Bool.not_eq_true', decide_eq_false_iff_not, decide_eq_true_eq] at h
  rintro (q | q)
  · exact h.1 q
  · omega
def lt_ {α β : Type} (x : α) (f : α → β) : β := f x
theorem lt_of {α β : Type} {x : α} {f : α → β} {r : β} (h : lt_ x f = r) : ∃ y, y = x ∧ f y = r := ⟨x, rfl, h⟩
theorem bind_of {α β : Type} {x : Option α} {f : α → Option β} {r : β} (h : x.bind f = some r) : ∃ y, x = some y ∧ f y = some r := by
  cases x with
  | none => cases h
  | some y => exact ⟨y, rfl, h⟩
theorem inb_of {β : Type} {i : Int32} {n : Nat} {A : Option β} {r : β} (h : (if in_b i n = true then A else none) = some r) : in_b i n = true ∧ A = some r := by
  by_cases q : in_b i n = true
  · rw [if_pos q] at h
    exact ⟨q, h⟩
  · rw [if_neg q] at h
    cases h
theorem nz_of {β : Type} {i : Int32} {A : Option β} {r : β} (h : (if i = 0 then none else A) = some r) : ¬ i = 0 ∧ A = some r := by
  by_cases q : i = 0
  · rw [if_pos q] at h
    cases h
  · rw [if_neg q] at h
    exact ⟨q, h⟩
theorem if_p {c : Prop} [Decidable c] {β : Type} {A B r : β} (q : c) (h : (if c then A else B) = r) : A = r := by rw [if_pos q] at h; exact h
theorem if_n {c : Prop} [Decidable c] {β : Type} {A B r : β} (q : ¬ c) (h : (if c then A else B) = r) : B = r := by rw [if_neg q] at h; exact h
def on_b {β : Type} (r : Option Nat) (A : β) (B : Nat → β) : β := match r with
  | none => A
  | some b => B b
theorem on_b_of {β : Type} {r : Option Nat} {A : β} {B : Nat → β} {x : β} (h : on_b r A B = x) : (r = none ∧ A = x) ∨ ∃ b, r = some b ∧ B b = x := by
  cases r with
  | none => exact Or.inl ⟨rfl, h⟩
  | some b => exact Or.inr ⟨b, rfl, h⟩
def bind2 {α β γ : Type} (x : Option (α × β)) (f : α → β → Option γ) : Option γ := match x with
  | none => none
  | some p => f p.1 p.2
theorem bind2_of {α β γ : Type} {x : Option (α × β)} {f : α → β → Option γ} {r : γ} (h : bind2 x f = some r) : ∃ y z, x = some (y, z) ∧ f y z = some r := by
  cases x with
  | none => cases h
  | some p => exact ⟨p.1, p.2, rfl, h⟩
def fuel : Nat := 20000
abbrev Wd : Type := (Nat → ClassId) → (Nat → Nat) → St → va_W
def tyL (cy : Nat → ClassId) : List (ClassId × FieldType) := [(cy 0, .int), (cy 1, .long), (cy 2, .char), (cy 3, .boolean)]
def UU : List Cond := lw_tbl.filter goodWord
theorem uu_t {w : Cond} (i : Nat) (h : tables_1[i]? = some w) (g : goodWord w = true) : w ∈ UU := List.mem_filter.mpr ⟨List.mem_append_right _ (List.mem_of_getElem? h), g⟩
theorem uu_s {w : Cond} (i : Nat) (h : (k2_sels lw_privs)[i]? = some w) (g : goodWord w = true) : w ∈ UU := List.mem_filter.mpr ⟨List.mem_append_left _ (List.mem_of_getElem? h), g⟩
theorem uu_lw {w : Cond} (h : w ∈ UU) : w ∈ lw_tbl := (List.mem_filter.mp h).1
theorem uu_good {y : MethodName} {cc : ByteArray} {n : Nat} {rt : Option FieldType} (h : Cond.code y cc n rt ∈ UU) : GoodIn UU (Cond.code y cc n rt :: UU) := fun w q => by
  have q2 : w ∈ UU := (List.mem_cons.mp q).elim (fun e => e ▸ h) id
  exact ⟨q2, good_of_word (List.mem_filter.mp q2).2⟩
def QC (D : va_G) (cy : Nat → ClassId) (wf : Wd) (a : Nat → Nat) (rv : Option Value) (t' : St) (A : Nat → Prop) : Array Value → State → Outcome → State → Prop :=
  fun _ st o t => (o = .returned rv ∧ va_P D vwCl (wf cy a t') t.heap ∧ va_K D vwCl (tyL cy) t ∧ va_D A (wf cy a t')) ∧ va_F A st t
def sxOwn : List String := [RX6, RX6, RX7, RX7, RX7, RX7, RX7, RX7]
def sxIdx : List Nat := [176, 286, 179, 185, 194, 236, 232, 234]
def sxTx : List String := ["no such word", "no such number", "~", "0123456789", ",", "34", "01234567", "0123456789abcdef"]
def sxLen : List Nat := [12, 14, 1, 10, 1, 2, 8, 16]
def sxByt : List (List Int32) := [[110, 111, 32, 115, 117, 99, 104, 32, 119, 111, 114, 100], [110, 111, 32, 115, 117, 99, 104, 32, 110, 117, 109, 98, 101, 114], [126], [48, 49, 50, 51, 52, 53, 54, 55, 56, 57], [44], [51, 52], [48, 49, 50, 51, 52, 53, 54, 55], [48, 49, 50, 51, 52, 53, 54, 55, 56, 57, 97, 98, 99, 100, 101, 102]]
def nestF : List (String × Nat × String × String × String) := [("QuotientFile$Layout", 42, "QuotientFile$Bag", "size", "I"), ("QuotientFile", 105, "QuotientFile$Bag", "size", "I"), ("QuotientFile$Layout", 31, "QuotientFile$Bag", "q", "I"), ("QuotientFile", 87, "QuotientFile$Bag", "q", "I"), ("QuotientFile$RawSlots", 46, "QuotientFile$Layout", "q", "I"), ("QuotientFile$RawSlots", 52, "QuotientFile$Layout", "slots", "I"), ("QuotientFile", 211, "QuotientFile$Layout", "slots", "I"), ("QuotientFile", 278, "QuotientFile$Numbers", "size", "I"), ("QuotientFile$RawSlots", 36, "QuotientFile$Text", "size", "I"), ("QuotientFile$KeyList", 27, "QuotientFile$Text", "size", "I"), ("QuotientFile", 279, "QuotientFile$Text", "size", "I"), ("QuotientFile", 132, "QuotientFile$KeyList", "size", "I")]
/-- the String constants and the one static of String's that the class reads, at addresses a (100 + i), a (200 + i) -/
def SX (A : Nat → Prop) (a : Nat → Nat) (U : State) (H : Heap) : Prop := vk_S 8 sxLen sxByt (fun i => a (100 + i)) (fun i => a (200 + i)) A U H ∧ (∀ i : Nat, i < 8 → vk_R (sxOwn.getD i "") (sxIdx.getD i 0) (sxTx.getD i "") (a (100 + i)) U) ∧ va_Z "java/lang/String" "COMPACT_STRINGS" "Z" (.int 1) A U H ∧ (∀ q ∈ nestF, va_Nw (.fieldLinkNest q.1 q.2.1 q.2.2.1 q.2.2.2.1 q.2.2.2.2 "QuotientFile") U) ∧ va_Zq "jdk/internal/util/Preconditions" "SIOOBE_FORMATTER" "Ljava/util/function/BiFunction;" A U H
theorem SX.warm {A B : Nat → Prop} {a : Nat → Nat} {s U : State} {H0 H : Heap} (h : SX A a s H0) (hW : s.WarmedH U.vm) (hq : ∀ q : Nat, q < H0.size → ¬ A q → H[q]? = H0[q]?) (hAB : ∀ q, B q → A q) : SX B a U H :=
  ⟨((h.1.moved hW.alike).kept hq).narrow hAB, fun i hi => (h.2.1 i hi).warm hW, ((h.2.2.1.moved hW.alike).kept hq).narrow hAB, fun q hq => va_Nw.warmF hW (h.2.2.2.1 q hq), ((h.2.2.2.2.moved hW.alike).kept hq).narrow hAB⟩
theorem SX.blind {A : Nat → Prop} {a : Nat → Nat} {U : State} {g : JFrame} {mk : MethodId} {as : Array Value} (h : SX A a U U.heap) : SX A a (U.calling g mk as) (U.calling g mk as).heap :=
  ⟨h.1.moved (u := U) (U := U.calling g mk as) (Vm.Alike.refl U.vm), fun i hi => (h.2.1 i hi).same (u := U) (U := U.calling g mk as) rfl, h.2.2.1.moved (u := U) (U := U.calling g mk as) (Vm.Alike.refl U.vm), fun q hq => va_Nw.same (u := U) (U := U.calling g mk as) rfl rfl (h.2.2.2.1 q hq), h.2.2.2.2.moved (u := U) (U := U.calling g mk as) (Vm.Alike.refl U.vm)⟩
def PC (D : va_G) (cy : Nat → ClassId) (wf : Wd) (a : Nat → Nat) (σ : St) (sz : Nat) : State → Prop := fun U => U.heap.size = sz ∧ va_P D vwCl (wf cy a σ) U.heap ∧ va_K D vwCl (tyL cy) U ∧ va_D (fun _ => True) (wf cy a σ) ∧ SX (va_A (wf cy a σ) sz) a U U.heap
theorem PC.blind {D : va_G} {cy : Nat → ClassId} {wf : Wd} {a : Nat → Nat} {σ : St} {sz : Nat} {av : List Value} : FrameBlind (va_Pc av (PC D cy wf a σ sz)) := by
  intro a' U g mk q
  obtain ⟨q0, q1, qP, qK, qD, qX⟩ := q
  exact ⟨q0, q1, qP, va_K.moved (u := U) (U := U.calling g mk a') (Vm.Alike.refl U.vm) qK, qD, qX.blind⟩
def Con (l : Launch) (y : MethodName) (cc : ByteArray) (nL : Nat) (rt : Option FieldType) (R : Room) (wf : Wd) (av : (Nat → Nat) → List Value) (σ : St) (rv : (Nat → Nat) → Option Value) (t' : St) : Prop :=
  R.cells = 0 ∧ R.slots = 0 ∧ ∀ (D : va_G) (cy : Nat → ClassId) (a : Nat → Nat) (sz : Nat), Met l y (Cond.code y cc nL rt :: UU) R (va_Pc (av a) (PC D cy wf a σ sz)) (QC D cy wf a (rv a) t' (va_A (wf cy a σ) sz)) 0 0 (va_A (wf cy a σ) sz)
def Cx (Γ : St → Nat → List (Nat × Value) → List Value → Prop) (l : Launch) (cc : ByteArray) (own : String) (nL : Nat) (rt : Option FieldType) (R : Room) (wf : Wd) (a : Nat → Nat) (rv : Option Value) (t' : St) : Prop :=
  ∃ (p : Program) (e : Env) (s : State) (m : MethodId) (args : Array Value) (below : List Frame) (meth : Method) (c : Code) (D : va_G) (cy : Nat → ClassId) (A : Nat → Prop),
    Γ = (fun σ pc lv st => ∀ (ls : Array Slot) (H : Heap) (locs : List Loc), lv_has ls nL lv → va_P D vwCl (wf cy a σ) H → va_D A (wf cy a σ) → va_S A s.heap H locs → W p l e R s m args below meth c H locs 0 0 (MQ below (QC D cy wf a rv t' A) args s 0 0 A) (F0 m pc ls st)) ∧
    p.tables.exec = Jvm.exec ∧ c.code = cc ∧ c.maxLocals = nL ∧ s.vm.findClass own = some m.cls ∧ meth.locks = false ∧ meth.sig.returnType = rt ∧ (∀ w ∈ UU, w.before args s = true) ∧ va_K D vwCl (tyL cy) s ∧ (∀ q, s.heap.size ≤ q → A q) ∧ SX A a s s.heap
theorem con_of {l : Launch} {y : MethodName} {cc : ByteArray} {nL : Nat} {rt : Option FieldType} {R : Room} {wf : Wd} {av : (Nat → Nat) → List Value} {σ : St} {rv : (Nat → Nat) → Option Value} {t' : St} (hy : plainName y.cls = true) (hR : R.cells = 0 ∧ R.slots = 0) (hlen : ∀ a, (lg_sl (av a)).length ≤ nL)
    (body : ∀ Γ a, Cx Γ l cc y.cls nL rt R wf a (rv a) t' → Γ σ 0 (lv_args 0 (av a)) []) : Con l y cc nL rt R wf av σ rv t' := by
  refine ⟨hR.1, hR.2, fun D cy a sz => ?_⟩
  refine Met.ofW (cc := cc) (maxL := nL) (ret := rt) hy rfl ?_
  intro p e s m args below meth c s₁ B hml hv
  obtain ⟨rfl, hsz, hP, hK, hD0, hX⟩ := hv
  have hts0 := atoms_spec (ws := Cond.code y cc nL rt :: UU) B.pre
  subst hsz
  have hD := hD0.self (sz := s.heap.size)
  have hl := lv_entry (av a) (n := nL) (hlen a)
  rw [lg_entry_eq]
  have hx := body _ a ⟨p, e, s, m, _, below, meth, c, D, cy, va_A (wf cy a σ) s.heap.size, rfl, B.exec, B.bytes, hml, findClass_of_methodNamed B.named, B.notSynchronized, B.returns, fun w h => hts0 w (List.mem_cons_of_mem _ h), hK, fun q h => Or.inr h, hX⟩
  exact hx _ _ _ hl hP hD va_S.rf
section RW
variable {Γ : St → Nat → List (Nat × Value) → List Value → Prop} {l : Launch} {cc : ByteArray} {own : String} {nL : Nat} {rt : Option FieldType} {R : Room} {wf : Wd} {a : Nat → Nat} {rv : Option Value} {t' : St} {σ : St} {pc : Nat} {lv lv' : List (Nat × Value)} {st : List Value}
theorem r_sub (hC : Cx Γ l cc own nL rt R wf a rv t') (ks : List Nat) (hl' : lv_pick lv ks = lv') (n : Γ σ pc lv' st) : Γ σ pc lv st := by
  obtain ⟨p, e, s, m, args, below, meth, c, D, cy, A, rfl, hx, hb, hml, hown, hlk, hr, hts, hK, hA, hX⟩ := hC
  intro ls H locs hl hP hD hS
  exact n ls H locs (lv_sub hl ks hl') hP hD hS
theorem r_iconst (hC : Cx Γ l cc own nL rt R wf a rv t') {k : Int} {v : Int32} (d : decode cc pc = .ok (.iconst k, 1)) (hv : Int32.ofInt k = v) (n : Γ σ (pc + 1) lv (.int v :: st)) : Γ σ pc lv st := by
  obtain ⟨p, e, s, m, args, below, meth, c, D, cy, A, rfl, hx, hb, hml, hown, hlk, hr, hts, hK, hA, hX⟩ := hC
  intro ls H locs hl hP hD hS
  exact lv_iconst hx hb d hv (n ls H locs hl hP hD hS)
theorem r_bipush (hC : Cx Γ l cc own nL rt R wf a rv t') {k : Int} {v : Int32} (d : decode cc pc = .ok (.bipush k, 2)) (hv : (Int8.ofInt k).toInt32 = v) (n : Γ σ (pc + 2) lv (.int v :: st)) : Γ σ pc lv st := by
  obtain ⟨p, e, s, m, args, below, meth, c, D, cy, A, rfl, hx, hb, hml, hown, hlk, hr, hts, hK, hA, hX⟩ := hC
  intro ls H locs hl hP hD hS
  exact lv_bipush hx hb d hv (n ls H locs hl hP hD hS)
theorem r_sipush (hC : Cx Γ l cc own nL rt R wf a rv t') {k : Int} {v : Int32} (d : decode cc pc = .ok (.sipush k, 3)) (hv : (Int16.ofInt k).toInt32 = v) (n : Γ σ (pc + 3) lv (.int v :: st)) : Γ σ pc lv st := by
  obtain ⟨p, e, s, m, args, below, meth, c, D, cy, A, rfl, hx, hb, hml, hown, hlk, hr, hts, hK, hA, hX⟩ := hC
  intro ls H locs hl hP hD hS
  exact lv_sipush hx hb d hv (n ls H locs hl hP hD hS)
theorem r_lconst (hC : Cx Γ l cc own nL rt R wf a rv t') {k : Fin 2} {v : Int64} (d : decode cc pc = .ok (.lconst k, 1)) (hv : Int64.ofNat (k : Nat) = v) (n : Γ σ (pc + 1) lv (.long v :: st)) : Γ σ pc lv st := by
  obtain ⟨p, e, s, m, args, below, meth, c, D, cy, A, rfl, hx, hb, hml, hown, hlk, hr, hts, hK, hA, hX⟩ := hC
  intro ls H locs hl hP hD hS
  exact lv_lconst hx hb d hv (n ls H locs hl hP hD hS)
theorem r_ldc (hC : Cx Γ l cc own nL rt R wf a rv t') {k : Nat} {v : Int32} (d : decode cc pc = .ok (.ldc k, 2)) (hw : Cond.constant own k v ∈ UU) (n : Γ σ (pc + 2) lv (.int v :: st)) : Γ σ pc lv st := by
  obtain ⟨p, e, s, m, args, below, meth, c, D, cy, A, rfl, hx, hb, hml, hown, hlk, hr, hts, hK, hA, hX⟩ := hC
  intro ls H locs hl hP hD hS
  exact lv_ldc hx hb hown (hts _ hw) d (n ls H locs hl hP hD hS)
theorem r_ldcw (hC : Cx Γ l cc own nL rt R wf a rv t') {k : Nat} {v : Int32} (d : decode cc pc = .ok (.ldc_w k, 3)) (hw : Cond.constant own k v ∈ UU) (n : Γ σ (pc + 3) lv (.int v :: st)) : Γ σ pc lv st := by
  obtain ⟨p, e, s, m, args, below, meth, c, D, cy, A, rfl, hx, hb, hml, hown, hlk, hr, hts, hK, hA, hX⟩ := hC
  intro ls H locs hl hP hD hS
  exact lv_ldcw hx hb hown (hts _ hw) d (n ls H locs hl hP hD hS)
theorem r_ldc2 (hC : Cx Γ l cc own nL rt R wf a rv t') {k : Nat} {v : Int64} (d : decode cc pc = .ok (.ldc2_w k, 3)) (hw : Cond.constantLong own k v ∈ UU) (n : Γ σ (pc + 3) lv (.long v :: st)) : Γ σ pc lv st := by
  obtain ⟨p, e, s, m, args, below, meth, c, D, cy, A, rfl, hx, hb, hml, hown, hlk, hr, hts, hK, hA, hX⟩ := hC
  intro ls H locs hl hP hD hS
  exact lv_ldc2 hx hb hown (hts _ hw) d (n ls H locs hl hP hD hS)
theorem r_null (hC : Cx Γ l cc own nL rt R wf a rv t')  (d : decode cc pc = .ok (.aconst_null, 1)) (n : Γ σ (pc + 1) lv (.null :: st)) : Γ σ pc lv st := by
  obtain ⟨p, e, s, m, args, below, meth, c, D, cy, A, rfl, hx, hb, hml, hown, hlk, hr, hts, hK, hA, hX⟩ := hC
  intro ls H locs hl hP hD hS
  exact lv_null hx hb d (n ls H locs hl hP hD hS)
theorem r_iload_n (hC : Cx Γ l cc own nL rt R wf a rv t') {k : Fin 4} {i : Nat} {x : Int32} (d : decode cc pc = .ok (.iload_n k, 1)) (hi : (k : Nat) = i) (j : Nat) (hj : lv[j]? = some (i, .int x)) (n : Γ σ (pc + 1) lv (.int x :: st)) : Γ σ pc lv st := by
  obtain ⟨p, e, s, m, args, below, meth, c, D, cy, A, rfl, hx, hb, hml, hown, hlk, hr, hts, hK, hA, hX⟩ := hC
  intro ls H locs hl hP hD hS
  exact lv_iload_n hx hb d hi (lv_at hl j hj) (n ls H locs hl hP hD hS)
theorem r_iload (hC : Cx Γ l cc own nL rt R wf a rv t') {i : Nat} {x : Int32} (d : decode cc pc = .ok (.iload i, 2)) (j : Nat) (hj : lv[j]? = some (i, .int x)) (n : Γ σ (pc + 2) lv (.int x :: st)) : Γ σ pc lv st := by
  obtain ⟨p, e, s, m, args, below, meth, c, D, cy, A, rfl, hx, hb, hml, hown, hlk, hr, hts, hK, hA, hX⟩ := hC
  intro ls H locs hl hP hD hS
  exact lv_iload hx hb d (lv_at hl j hj) (n ls H locs hl hP hD hS)
theorem r_istore_n (hC : Cx Γ l cc own nL rt R wf a rv t') {k : Fin 4} {i : Nat} {x y : Int32} (d : decode cc pc = .ok (.istore_n k, 1)) (hi : (k : Nat) = i) (hn : i < nL) (ee : y = x) (hl' : (i, Value.int y) :: lv.filter (fun q => !(q.1 == i) && !(q.1 + 1 == i && q.2.category == 2)) = lv') (n : Γ σ (pc + 1) lv' st) : Γ σ pc lv (.int x :: st) := by
  obtain ⟨p, e, s, m, args, below, meth, c, D, cy, A, rfl, hx, hb, hml, hown, hlk, hr, hts, hK, hA, hX⟩ := hC
  intro ls H locs hl hP hD hS
  exact lv_istore_n hx hb d hi hl hn (by rw [← ee]; exact hl') (fun ls hl => n ls H locs hl hP hD hS)
theorem r_istore (hC : Cx Γ l cc own nL rt R wf a rv t') {i : Nat} {x y : Int32} (d : decode cc pc = .ok (.istore i, 2)) (hn : i < nL) (ee : y = x) (hl' : (i, Value.int y) :: lv.filter (fun q => !(q.1 == i) && !(q.1 + 1 == i && q.2.category == 2)) = lv') (n : Γ σ (pc + 2) lv' st) : Γ σ pc lv (.int x :: st) := by
  obtain ⟨p, e, s, m, args, below, meth, c, D, cy, A, rfl, hx, hb, hml, hown, hlk, hr, hts, hK, hA, hX⟩ := hC
  intro ls H locs hl hP hD hS
  exact lv_istore hx hb d hl hn (by rw [← ee]; exact hl') (fun ls hl => n ls H locs hl hP hD hS)
theorem r_lload_n (hC : Cx Γ l cc own nL rt R wf a rv t') {k : Fin 4} {i : Nat} {x : Int64} (d : decode cc pc = .ok (.lload_n k, 1)) (hi : (k : Nat) = i) (j : Nat) (hj : lv[j]? = some (i, .long x)) (n : Γ σ (pc + 1) lv (.long x :: st)) : Γ σ pc lv st := by
  obtain ⟨p, e, s, m, args, below, meth, c, D, cy, A, rfl, hx, hb, hml, hown, hlk, hr, hts, hK, hA, hX⟩ := hC
  intro ls H locs hl hP hD hS
  exact lv_lload_n hx hb d hi (lv_at hl j hj) (n ls H locs hl hP hD hS)
theorem r_lload (hC : Cx Γ l cc own nL rt R wf a rv t') {i : Nat} {x : Int64} (d : decode cc pc = .ok (.lload i, 2)) (j : Nat) (hj : lv[j]? = some (i, .long x)) (n : Γ σ (pc + 2) lv (.long x :: st)) : Γ σ pc lv st := by
  obtain ⟨p, e, s, m, args, below, meth, c, D, cy, A, rfl, hx, hb, hml, hown, hlk, hr, hts, hK, hA, hX⟩ := hC
  intro ls H locs hl hP hD hS
  exact lv_lload hx hb d (lv_at hl j hj) (n ls H locs hl hP hD hS)
theorem r_lstore_n (hC : Cx Γ l cc own nL rt R wf a rv t') {k : Fin 4} {i : Nat} {x y : Int64} (d : decode cc pc = .ok (.lstore_n k, 1)) (hi : (k : Nat) = i) (hn : i + 1 < nL) (ee : y = x) (hl' : (i, Value.long y) :: lv.filter (fun q => !(q.1 == i) && (!(q.1 == i + 1) && !(q.1 + 1 == i && q.2.category == 2))) = lv') (n : Γ σ (pc + 1) lv' st) : Γ σ pc lv (.long x :: st) := by
  obtain ⟨p, e, s, m, args, below, meth, c, D, cy, A, rfl, hx, hb, hml, hown, hlk, hr, hts, hK, hA, hX⟩ := hC
  intro ls H locs hl hP hD hS
  exact lv_lstore_n hx hb d hi hl hn (by rw [← ee]; exact hl') (fun ls hl => n ls H locs hl hP hD hS)
theorem r_lstore (hC : Cx Γ l cc own nL rt R wf a rv t') {i : Nat} {x y : Int64} (d : decode cc pc = .ok (.lstore i, 2)) (hn : i + 1 < nL) (ee : y = x) (hl' : (i, Value.long y) :: lv.filter (fun q => !(q.1 == i) && (!(q.1 == i + 1) && !(q.1 + 1 == i && q.2.category == 2))) = lv') (n : Γ σ (pc + 2) lv' st) : Γ σ pc lv (.long x :: st) := by
  obtain ⟨p, e, s, m, args, below, meth, c, D, cy, A, rfl, hx, hb, hml, hown, hlk, hr, hts, hK, hA, hX⟩ := hC
  intro ls H locs hl hP hD hS
  exact lv_lstore hx hb d hl hn (by rw [← ee]; exact hl') (fun ls hl => n ls H locs hl hP hD hS)
theorem r_aload_n (hC : Cx Γ l cc own nL rt R wf a rv t') {k : Fin 4} {i : Nat} {x : Nat} (d : decode cc pc = .ok (.aload_n k, 1)) (hi : (k : Nat) = i) (j : Nat) (hj : lv[j]? = some (i, .ref x)) (n : Γ σ (pc + 1) lv (.ref x :: st)) : Γ σ pc lv st := by
  obtain ⟨p, e, s, m, args, below, meth, c, D, cy, A, rfl, hx, hb, hml, hown, hlk, hr, hts, hK, hA, hX⟩ := hC
  intro ls H locs hl hP hD hS
  exact lv_aload_n hx hb d hi (lv_at hl j hj) (n ls H locs hl hP hD hS)
theorem r_aload (hC : Cx Γ l cc own nL rt R wf a rv t') {i : Nat} {x : Nat} (d : decode cc pc = .ok (.aload i, 2)) (j : Nat) (hj : lv[j]? = some (i, .ref x)) (n : Γ σ (pc + 2) lv (.ref x :: st)) : Γ σ pc lv st := by
  obtain ⟨p, e, s, m, args, below, meth, c, D, cy, A, rfl, hx, hb, hml, hown, hlk, hr, hts, hK, hA, hX⟩ := hC
  intro ls H locs hl hP hD hS
  exact lv_aload hx hb d (lv_at hl j hj) (n ls H locs hl hP hD hS)
theorem r_astore_n (hC : Cx Γ l cc own nL rt R wf a rv t') {k : Fin 4} {i : Nat} {x y : Nat} (d : decode cc pc = .ok (.astore_n k, 1)) (hi : (k : Nat) = i) (hn : i < nL) (ee : y = x) (hl' : (i, Value.ref y) :: lv.filter (fun q => !(q.1 == i) && !(q.1 + 1 == i && q.2.category == 2)) = lv') (n : Γ σ (pc + 1) lv' st) : Γ σ pc lv (.ref x :: st) := by
  obtain ⟨p, e, s, m, args, below, meth, c, D, cy, A, rfl, hx, hb, hml, hown, hlk, hr, hts, hK, hA, hX⟩ := hC
  intro ls H locs hl hP hD hS
  exact lv_astore_n hx hb d hi hl hn (by rw [← ee]; exact hl') (fun ls hl => n ls H locs hl hP hD hS)
theorem r_astore (hC : Cx Γ l cc own nL rt R wf a rv t') {i : Nat} {x y : Nat} (d : decode cc pc = .ok (.astore i, 2)) (hn : i < nL) (ee : y = x) (hl' : (i, Value.ref y) :: lv.filter (fun q => !(q.1 == i) && !(q.1 + 1 == i && q.2.category == 2)) = lv') (n : Γ σ (pc + 2) lv' st) : Γ σ pc lv (.ref x :: st) := by
  obtain ⟨p, e, s, m, args, below, meth, c, D, cy, A, rfl, hx, hb, hml, hown, hlk, hr, hts, hK, hA, hX⟩ := hC
  intro ls H locs hl hP hD hS
  exact lv_astore hx hb d hl hn (by rw [← ee]; exact hl') (fun ls hl => n ls H locs hl hP hD hS)
theorem r_fload (hC : Cx Γ l cc own nL rt R wf a rv t') {i : Nat} {x : UInt32} (d : decode cc pc = .ok (.fload i, 2)) (j : Nat) (hj : lv[j]? = some (i, .float x)) (n : Γ σ (pc + 2) lv (.float x :: st)) : Γ σ pc lv st := by
  obtain ⟨p, e, s, m, args, below, meth, c, D, cy, A, rfl, hx, hb, hml, hown, hlk, hr, hts, hK, hA, hX⟩ := hC
  intro ls H locs hl hP hD hS
  exact lv_fload hx hb d (lv_at hl j hj) (n ls H locs hl hP hD hS)
theorem r_fstore (hC : Cx Γ l cc own nL rt R wf a rv t') {i : Nat} {x y : UInt32} (d : decode cc pc = .ok (.fstore i, 2)) (hn : i < nL) (ee : y = x) (hl' : (i, Value.float y) :: lv.filter (fun q => !(q.1 == i) && !(q.1 + 1 == i && q.2.category == 2)) = lv') (n : Γ σ (pc + 2) lv' st) : Γ σ pc lv (.float x :: st) := by
  obtain ⟨p, e, s, m, args, below, meth, c, D, cy, A, rfl, hx, hb, hml, hown, hlk, hr, hts, hK, hA, hX⟩ := hC
  intro ls H locs hl hP hD hS
  exact lv_fstore hx hb d hl hn (by rw [← ee]; exact hl') (fun ls hl => n ls H locs hl hP hD hS)
theorem r_dload_n (hC : Cx Γ l cc own nL rt R wf a rv t') {k : Fin 4} {i : Nat} {x : UInt64} (d : decode cc pc = .ok (.dload_n k, 1)) (hi : (k : Nat) = i) (j : Nat) (hj : lv[j]? = some (i, .double x)) (n : Γ σ (pc + 1) lv (.double x :: st)) : Γ σ pc lv st := by
  obtain ⟨p, e, s, m, args, below, meth, c, D, cy, A, rfl, hx, hb, hml, hown, hlk, hr, hts, hK, hA, hX⟩ := hC
  intro ls H locs hl hP hD hS
  exact lv_dload_n hx hb d hi (lv_at hl j hj) (n ls H locs hl hP hD hS)
theorem r_dload (hC : Cx Γ l cc own nL rt R wf a rv t') {i : Nat} {x : UInt64} (d : decode cc pc = .ok (.dload i, 2)) (j : Nat) (hj : lv[j]? = some (i, .double x)) (n : Γ σ (pc + 2) lv (.double x :: st)) : Γ σ pc lv st := by
  obtain ⟨p, e, s, m, args, below, meth, c, D, cy, A, rfl, hx, hb, hml, hown, hlk, hr, hts, hK, hA, hX⟩ := hC
  intro ls H locs hl hP hD hS
  exact lv_dload hx hb d (lv_at hl j hj) (n ls H locs hl hP hD hS)
theorem r_dstore_n (hC : Cx Γ l cc own nL rt R wf a rv t') {k : Fin 4} {i : Nat} {x y : UInt64} (d : decode cc pc = .ok (.dstore_n k, 1)) (hi : (k : Nat) = i) (hn : i + 1 < nL) (ee : y = x) (hl' : (i, Value.double y) :: lv.filter (fun q => !(q.1 == i) && (!(q.1 == i + 1) && !(q.1 + 1 == i && q.2.category == 2))) = lv') (n : Γ σ (pc + 1) lv' st) : Γ σ pc lv (.double x :: st) := by
  obtain ⟨p, e, s, m, args, below, meth, c, D, cy, A, rfl, hx, hb, hml, hown, hlk, hr, hts, hK, hA, hX⟩ := hC
  intro ls H locs hl hP hD hS
  exact lv_dstore_n hx hb d hi hl hn (by rw [← ee]; exact hl') (fun ls hl => n ls H locs hl hP hD hS)
theorem r_dstore (hC : Cx Γ l cc own nL rt R wf a rv t') {i : Nat} {x y : UInt64} (d : decode cc pc = .ok (.dstore i, 2)) (hn : i + 1 < nL) (ee : y = x) (hl' : (i, Value.double y) :: lv.filter (fun q => !(q.1 == i) && (!(q.1 == i + 1) && !(q.1 + 1 == i && q.2.category == 2))) = lv') (n : Γ σ (pc + 2) lv' st) : Γ σ pc lv (.double x :: st) := by
  obtain ⟨p, e, s, m, args, below, meth, c, D, cy, A, rfl, hx, hb, hml, hown, hlk, hr, hts, hK, hA, hX⟩ := hC
  intro ls H locs hl hP hD hS
  exact lv_dstore hx hb d hl hn (by rw [← ee]; exact hl') (fun ls hl => n ls H locs hl hP hD hS)
theorem r_iinc (hC : Cx Γ l cc own nL rt R wf a rv t') {i : Nat} {c0 : Int} {c1 x v : Int32} (d : decode cc pc = .ok (.iinc i c0, 3)) (k : Nat) (hk : lv[k]? = some (i, .int x)) (hn : i < nL) (hc1 : Int32.ofInt c0 = c1) (ee : v = x + c1) (hl' : (i, Value.int v) :: lv.filter (fun q => !(q.1 == i) && !(q.1 + 1 == i && q.2.category == 2)) = lv') (n : Γ σ (pc + 3) lv' st) : Γ σ pc lv st := by
  obtain ⟨p, e, s, m, args, below, meth, c, D, cy, A, rfl, hx, hb, hml, hown, hlk, hr, hts, hK, hA, hX⟩ := hC
  intro ls H locs hl hP hD hS
  exact lv_iinc hx hb d hl hk (by rw [hc1]; exact ee.symm) hn hl' (fun ls hl => n ls H locs hl hP hD hS)
theorem r_astoreN_n (hC : Cx Γ l cc own nL rt R wf a rv t') {k : Fin 4} {i : Nat} (d : decode cc pc = .ok (.astore_n k, 1)) (hi : (k : Nat) = i) (hn : i < nL) (hl' : (i, Value.null) :: lv.filter (fun q => !(q.1 == i) && !(q.1 + 1 == i && q.2.category == 2)) = lv') (n : Γ σ (pc + 1) lv' st) : Γ σ pc lv (.null :: st) := by
  obtain ⟨p, e, s, m, args, below, meth, c, D, cy, A, rfl, hx, hb, hml, hown, hlk, hr, hts, hK, hA, hX⟩ := hC
  intro ls H locs hl hP hD hS
  exact lv_astore_nN hx hb d hi hl hn hl' (fun ls hl => n ls H locs hl hP hD hS)
theorem r_aloadN_n (hC : Cx Γ l cc own nL rt R wf a rv t') {k : Fin 4} {i : Nat} (d : decode cc pc = .ok (.aload_n k, 1)) (hi : (k : Nat) = i) (j : Nat) (hj : lv[j]? = some (i, .null)) (n : Γ σ (pc + 1) lv (.null :: st)) : Γ σ pc lv st := by
  obtain ⟨p, e, s, m, args, below, meth, c, D, cy, A, rfl, hx, hb, hml, hown, hlk, hr, hts, hK, hA, hX⟩ := hC
  intro ls H locs hl hP hD hS
  exact lv_aload_nN hx hb d hi (lv_at hl j hj) (n ls H locs hl hP hD hS)
def rb_ (a : Nat → Nat) (r : Option Nat) : Value := match r with
  | none => .null
  | some b => .ref (a (1 + b))
theorem rb_cat (a : Nat → Nat) (r : Option Nat) : (rb_ a r).category = 1 := by cases r <;> rfl
theorem r_aloadN (hC : Cx Γ l cc own nL rt R wf a rv t') {i : Nat} (d : decode cc pc = .ok (.aload i, 2)) (j : Nat) (hj : lv[j]? = some (i, .null)) (n : Γ σ (pc + 2) lv (.null :: st)) : Γ σ pc lv st := by
  obtain ⟨p, e, s, m, args, below, meth, c, D, cy, A, rfl, hx, hb, hml, hown, hlk, hr, hts, hK, hA, hX⟩ := hC
  intro ls H locs hl hP hD hS
  exact lv_aloadN hx hb d (lv_at hl j hj) (n ls H locs hl hP hD hS)
theorem r_astoreN (hC : Cx Γ l cc own nL rt R wf a rv t') {i : Nat} (d : decode cc pc = .ok (.astore i, 2)) (hn : i < nL) (hl' : (i, Value.null) :: lv.filter (fun q => !(q.1 == i) && !(q.1 + 1 == i && q.2.category == 2)) = lv') (n : Γ σ (pc + 2) lv' st) : Γ σ pc lv (.null :: st) := by
  obtain ⟨p, e, s, m, args, below, meth, c, D, cy, A, rfl, hx, hb, hml, hown, hlk, hr, hts, hK, hA, hX⟩ := hC
  intro ls H locs hl hP hD hS
  exact lv_astoreN hx hb d hl hn hl' (fun ls hl => n ls H locs hl hP hD hS)
theorem r_aloadO_n (hC : Cx Γ l cc own nL rt R wf a rv t') {k : Fin 4} {i : Nat} {r : Option Nat} (d : decode cc pc = .ok (.aload_n k, 1)) (hi : (k : Nat) = i) (j : Nat) (hj : lv[j]? = some (i, rb_ a r)) (n : Γ σ (pc + 1) lv (rb_ a r :: st)) : Γ σ pc lv st := by
  cases r with
  | none => exact r_aloadN_n hC d hi j hj n
  | some b => exact r_aload_n hC d hi j hj n
theorem r_astoreO_n (hC : Cx Γ l cc own nL rt R wf a rv t') {k : Fin 4} {i : Nat} {r q : Option Nat} (d : decode cc pc = .ok (.astore_n k, 1)) (hi : (k : Nat) = i) (hn : i < nL) (ee : q = r) (hl' : (i, rb_ a q) :: lv.filter (fun q => !(q.1 == i) && !(q.1 + 1 == i && q.2.category == 2)) = lv') (n : Γ σ (pc + 1) lv' st) : Γ σ pc lv (rb_ a r :: st) := by
  subst ee
  cases q with
  | none => exact r_astoreN_n hC d hi hn hl' n
  | some b => exact r_astore_n hC d hi hn rfl hl' n
theorem r_aloadO (hC : Cx Γ l cc own nL rt R wf a rv t') {i : Nat} {r : Option Nat} (d : decode cc pc = .ok (.aload i, 2)) (j : Nat) (hj : lv[j]? = some (i, rb_ a r)) (n : Γ σ (pc + 2) lv (rb_ a r :: st)) : Γ σ pc lv st := by
  cases r with
  | none => exact r_aloadN hC d j hj n
  | some b => exact r_aload hC d j hj n
theorem r_astoreO (hC : Cx Γ l cc own nL rt R wf a rv t') {i : Nat} {r q : Option Nat} (d : decode cc pc = .ok (.astore i, 2)) (hn : i < nL) (ee : q = r) (hl' : (i, rb_ a q) :: lv.filter (fun q => !(q.1 == i) && !(q.1 + 1 == i && q.2.category == 2)) = lv') (n : Γ σ (pc + 2) lv' st) : Γ σ pc lv (rb_ a r :: st) := by
  subst ee
  cases q with
  | none => exact r_astoreN hC d hn hl' n
  | some b => exact r_astore hC d hn rfl hl' n
theorem r_iadd (hC : Cx Γ l cc own nL rt R wf a rv t') {x y : Int32} (d : decode cc pc = .ok (.iadd, 1)) (n : Γ σ (pc + 1) lv (.int (x + y) :: st)) : Γ σ pc lv (.int y :: .int x :: st) := by
  obtain ⟨p, e, s, m, args, below, meth, c, D, cy, A, rfl, hx, hb, hml, hown, hlk, hr, hts, hK, hA, hX⟩ := hC
  intro ls H locs hl hP hD hS
  exact lv_iadd hx hb d (n ls H locs hl hP hD hS)
theorem r_isub (hC : Cx Γ l cc own nL rt R wf a rv t') {x y : Int32} (d : decode cc pc = .ok (.isub, 1)) (n : Γ σ (pc + 1) lv (.int (x - y) :: st)) : Γ σ pc lv (.int y :: .int x :: st) := by
  obtain ⟨p, e, s, m, args, below, meth, c, D, cy, A, rfl, hx, hb, hml, hown, hlk, hr, hts, hK, hA, hX⟩ := hC
  intro ls H locs hl hP hD hS
  exact lv_isub hx hb d (n ls H locs hl hP hD hS)
theorem r_imul (hC : Cx Γ l cc own nL rt R wf a rv t') {x y : Int32} (d : decode cc pc = .ok (.imul, 1)) (n : Γ σ (pc + 1) lv (.int (x * y) :: st)) : Γ σ pc lv (.int y :: .int x :: st) := by
  obtain ⟨p, e, s, m, args, below, meth, c, D, cy, A, rfl, hx, hb, hml, hown, hlk, hr, hts, hK, hA, hX⟩ := hC
  intro ls H locs hl hP hD hS
  exact lv_imul hx hb d (n ls H locs hl hP hD hS)
theorem r_iand (hC : Cx Γ l cc own nL rt R wf a rv t') {x y : Int32} (d : decode cc pc = .ok (.iand, 1)) (n : Γ σ (pc + 1) lv (.int (x &&& y) :: st)) : Γ σ pc lv (.int y :: .int x :: st) := by
  obtain ⟨p, e, s, m, args, below, meth, c, D, cy, A, rfl, hx, hb, hml, hown, hlk, hr, hts, hK, hA, hX⟩ := hC
  intro ls H locs hl hP hD hS
  exact lv_iand hx hb d (n ls H locs hl hP hD hS)
theorem r_ior (hC : Cx Γ l cc own nL rt R wf a rv t') {x y : Int32} (d : decode cc pc = .ok (.ior, 1)) (n : Γ σ (pc + 1) lv (.int (x ||| y) :: st)) : Γ σ pc lv (.int y :: .int x :: st) := by
  obtain ⟨p, e, s, m, args, below, meth, c, D, cy, A, rfl, hx, hb, hml, hown, hlk, hr, hts, hK, hA, hX⟩ := hC
  intro ls H locs hl hP hD hS
  exact lv_ior hx hb d (n ls H locs hl hP hD hS)
theorem r_ixor (hC : Cx Γ l cc own nL rt R wf a rv t') {x y : Int32} (d : decode cc pc = .ok (.ixor, 1)) (n : Γ σ (pc + 1) lv (.int (x ^^^ y) :: st)) : Γ σ pc lv (.int y :: .int x :: st) := by
  obtain ⟨p, e, s, m, args, below, meth, c, D, cy, A, rfl, hx, hb, hml, hown, hlk, hr, hts, hK, hA, hX⟩ := hC
  intro ls H locs hl hP hD hS
  exact lv_ixor hx hb d (n ls H locs hl hP hD hS)
theorem r_ishl (hC : Cx Γ l cc own nL rt R wf a rv t') {x y : Int32} (d : decode cc pc = .ok (.ishl, 1)) (n : Γ σ (pc + 1) lv (.int (x <<< (y &&& 31)) :: st)) : Γ σ pc lv (.int y :: .int x :: st) := by
  obtain ⟨p, e, s, m, args, below, meth, c, D, cy, A, rfl, hx, hb, hml, hown, hlk, hr, hts, hK, hA, hX⟩ := hC
  intro ls H locs hl hP hD hS
  exact lv_ishl hx hb d (n ls H locs hl hP hD hS)
theorem r_ishr (hC : Cx Γ l cc own nL rt R wf a rv t') {x y : Int32} (d : decode cc pc = .ok (.ishr, 1)) (n : Γ σ (pc + 1) lv (.int (x >>> (y &&& 31)) :: st)) : Γ σ pc lv (.int y :: .int x :: st) := by
  obtain ⟨p, e, s, m, args, below, meth, c, D, cy, A, rfl, hx, hb, hml, hown, hlk, hr, hts, hK, hA, hX⟩ := hC
  intro ls H locs hl hP hD hS
  exact lv_ishr hx hb d (n ls H locs hl hP hD hS)
theorem r_iushr (hC : Cx Γ l cc own nL rt R wf a rv t') {x y : Int32} (d : decode cc pc = .ok (.iushr, 1)) (n : Γ σ (pc + 1) lv (.int ((x.toUInt32 >>> (y.toUInt32 &&& Int32.toUInt32 31)).toInt32) :: st)) : Γ σ pc lv (.int y :: .int x :: st) := by
  obtain ⟨p, e, s, m, args, below, meth, c, D, cy, A, rfl, hx, hb, hml, hown, hlk, hr, hts, hK, hA, hX⟩ := hC
  intro ls H locs hl hP hD hS
  exact lv_iushr hx hb d rfl (n ls H locs hl hP hD hS)
theorem r_ineg (hC : Cx Γ l cc own nL rt R wf a rv t') {x : Int32} (d : decode cc pc = .ok (.ineg, 1)) (n : Γ σ (pc + 1) lv (.int (-x) :: st)) : Γ σ pc lv (.int x :: st) := by
  obtain ⟨p, e, s, m, args, below, meth, c, D, cy, A, rfl, hx, hb, hml, hown, hlk, hr, hts, hK, hA, hX⟩ := hC
  intro ls H locs hl hP hD hS
  exact lv_ineg hx hb d (n ls H locs hl hP hD hS)
theorem r_idiv (hC : Cx Γ l cc own nL rt R wf a rv t') {x y : Int32} (d : decode cc pc = .ok (.idiv, 1)) (hz : ¬ y = 0) (n : Γ σ (pc + 1) lv (.int (x / y) :: st)) : Γ σ pc lv (.int y :: .int x :: st) := by
  obtain ⟨p, e, s, m, args, below, meth, c, D, cy, A, rfl, hx, hb, hml, hown, hlk, hr, hts, hK, hA, hX⟩ := hC
  intro ls H locs hl hP hD hS
  exact lv_idiv hx hb d hz (n ls H locs hl hP hD hS)
theorem r_irem (hC : Cx Γ l cc own nL rt R wf a rv t') {x y : Int32} (d : decode cc pc = .ok (.irem, 1)) (hz : ¬ y = 0) (n : Γ σ (pc + 1) lv (.int (x - x / y * y) :: st)) : Γ σ pc lv (.int y :: .int x :: st) := by
  obtain ⟨p, e, s, m, args, below, meth, c, D, cy, A, rfl, hx, hb, hml, hown, hlk, hr, hts, hK, hA, hX⟩ := hC
  intro ls H locs hl hP hD hS
  exact lv_irem hx hb d hz (n ls H locs hl hP hD hS)
theorem r_lor (hC : Cx Γ l cc own nL rt R wf a rv t') {x y : Int64} (d : decode cc pc = .ok (.lor, 1)) (n : Γ σ (pc + 1) lv (.long (x ||| y) :: st)) : Γ σ pc lv (.long y :: .long x :: st) := by
  obtain ⟨p, e, s, m, args, below, meth, c, D, cy, A, rfl, hx, hb, hml, hown, hlk, hr, hts, hK, hA, hX⟩ := hC
  intro ls H locs hl hP hD hS
  exact lv_lor hx hb d (n ls H locs hl hP hD hS)
theorem r_land (hC : Cx Γ l cc own nL rt R wf a rv t') {x y : Int64} (d : decode cc pc = .ok (.land, 1)) (n : Γ σ (pc + 1) lv (.long (x &&& y) :: st)) : Γ σ pc lv (.long y :: .long x :: st) := by
  obtain ⟨p, e, s, m, args, below, meth, c, D, cy, A, rfl, hx, hb, hml, hown, hlk, hr, hts, hK, hA, hX⟩ := hC
  intro ls H locs hl hP hD hS
  exact lv_land hx hb d (n ls H locs hl hP hD hS)
theorem r_lushr (hC : Cx Γ l cc own nL rt R wf a rv t') {x : Int64} {y : Int32} (d : decode cc pc = .ok (.lushr, 1)) (n : Γ σ (pc + 1) lv (.long ((x.toUInt64 >>> (y.toInt64.toUInt64 &&& Int64.toUInt64 63)).toInt64) :: st)) : Γ σ pc lv (.int y :: .long x :: st) := by
  obtain ⟨p, e, s, m, args, below, meth, c, D, cy, A, rfl, hx, hb, hml, hown, hlk, hr, hts, hK, hA, hX⟩ := hC
  intro ls H locs hl hP hD hS
  exact lv_lushr hx hb d rfl (n ls H locs hl hP hD hS)
theorem r_lshl (hC : Cx Γ l cc own nL rt R wf a rv t') {x : Int64} {y : Int32} (d : decode cc pc = .ok (.lshl, 1)) (n : Γ σ (pc + 1) lv (.long (x <<< (y.toInt64 &&& 63)) :: st)) : Γ σ pc lv (.int y :: .long x :: st) := by
  obtain ⟨p, e, s, m, args, below, meth, c, D, cy, A, rfl, hx, hb, hml, hown, hlk, hr, hts, hK, hA, hX⟩ := hC
  intro ls H locs hl hP hD hS
  exact lv_lshl hx hb d rfl (n ls H locs hl hP hD hS)
theorem r_lshr (hC : Cx Γ l cc own nL rt R wf a rv t') {x : Int64} {y : Int32} (d : decode cc pc = .ok (.lshr, 1)) (n : Γ σ (pc + 1) lv (.long (x >>> (y.toInt64 &&& 63)) :: st)) : Γ σ pc lv (.int y :: .long x :: st) := by
  obtain ⟨p, e, s, m, args, below, meth, c, D, cy, A, rfl, hx, hb, hml, hown, hlk, hr, hts, hK, hA, hX⟩ := hC
  intro ls H locs hl hP hD hS
  exact lv_lshr hx hb d rfl (n ls H locs hl hP hD hS)
theorem r_i2l (hC : Cx Γ l cc own nL rt R wf a rv t') {x : Int32} (d : decode cc pc = .ok (.i2l, 1)) (n : Γ σ (pc + 1) lv (.long x.toInt64 :: st)) : Γ σ pc lv (.int x :: st) := by
  obtain ⟨p, e, s, m, args, below, meth, c, D, cy, A, rfl, hx, hb, hml, hown, hlk, hr, hts, hK, hA, hX⟩ := hC
  intro ls H locs hl hP hD hS
  exact lv_i2l hx hb d rfl (n ls H locs hl hP hD hS)
theorem r_l2i (hC : Cx Γ l cc own nL rt R wf a rv t') {x : Int64} (d : decode cc pc = .ok (.l2i, 1)) (n : Γ σ (pc + 1) lv (.int x.toInt32 :: st)) : Γ σ pc lv (.long x :: st) := by
  obtain ⟨p, e, s, m, args, below, meth, c, D, cy, A, rfl, hx, hb, hml, hown, hlk, hr, hts, hK, hA, hX⟩ := hC
  intro ls H locs hl hP hD hS
  exact lv_l2i hx hb d rfl (n ls H locs hl hP hD hS)
theorem r_i2c (hC : Cx Γ l cc own nL rt R wf a rv t') {x : Int32} (d : decode cc pc = .ok (.i2c, 1)) (n : Γ σ (pc + 1) lv (.int (x.toUInt32 % 65536).toInt32 :: st)) : Γ σ pc lv (.int x :: st) := by
  obtain ⟨p, e, s, m, args, below, meth, c, D, cy, A, rfl, hx, hb, hml, hown, hlk, hr, hts, hK, hA, hX⟩ := hC
  intro ls H locs hl hP hD hS
  exact lv_i2c hx hb d rfl (n ls H locs hl hP hD hS)
theorem r_lcmp (hC : Cx Γ l cc own nL rt R wf a rv t') {x y : Int64} (d : decode cc pc = .ok (.lcmp, 1)) (n : Γ σ (pc + 1) lv (.int (lg_cmp x y) :: st)) : Γ σ pc lv (.long y :: .long x :: st) := by
  obtain ⟨p, e, s, m, args, below, meth, c, D, cy, A, rfl, hx, hb, hml, hown, hlk, hr, hts, hK, hA, hX⟩ := hC
  intro ls H locs hl hP hD hS
  exact W.lcmp hx hb d (n ls H locs hl hP hD hS)
theorem r_dup (hC : Cx Γ l cc own nL rt R wf a rv t') {v : Value} (d : decode cc pc = .ok (.dup, 1)) (hv : v.category = 1) (n : Γ σ (pc + 1) lv (v :: v :: st)) : Γ σ pc lv (v :: st) := by
  obtain ⟨p, e, s, m, args, below, meth, c, D, cy, A, rfl, hx, hb, hml, hown, hlk, hr, hts, hK, hA, hX⟩ := hC
  intro ls H locs hl hP hD hS
  exact lv_dup hx hb d hv (n ls H locs hl hP hD hS)
theorem r_pop (hC : Cx Γ l cc own nL rt R wf a rv t') {v : Value} (d : decode cc pc = .ok (.pop, 1)) (hv : v.category = 1) (n : Γ σ (pc + 1) lv st) : Γ σ pc lv (v :: st) := by
  obtain ⟨p, e, s, m, args, below, meth, c, D, cy, A, rfl, hx, hb, hml, hown, hlk, hr, hts, hK, hA, hX⟩ := hC
  intro ls H locs hl hP hD hS
  exact lv_pop hx hb d hv (n ls H locs hl hP hD hS)
theorem r_dup2 (hC : Cx Γ l cc own nL rt R wf a rv t') {v w : Value} (d : decode cc pc = .ok (.dup2, 1)) (hv : v.category = 1) (hw : w.category = 1) (n : Γ σ (pc + 1) lv (v :: w :: v :: w :: st)) : Γ σ pc lv (v :: w :: st) := by
  obtain ⟨p, e, s, m, args, below, meth, c, D, cy, A, rfl, hx, hb, hml, hown, hlk, hr, hts, hK, hA, hX⟩ := hC
  intro ls H locs hl hP hD hS
  exact lv_dup2_11 hx hb d hv hw (n ls H locs hl hP hD hS)
theorem r_if_eq (hC : Cx Γ l cc own nL rt R wf a rv t') {x : Int32} {off : Int} (tgt : Nat) (d : decode cc pc = .ok (.ifCond .eq off, 3)) (ht : (pc : Int) + off = (tgt : Int)) (nt : x = 0 → Γ σ tgt lv st) (nf : ¬ x = 0 → Γ σ (pc + 3) lv st) : Γ σ pc lv (.int x :: st) := by
  obtain ⟨p, e, s, m, args, below, meth, c, D, cy, A, rfl, hx, hb, hml, hown, hlk, hr, hts, hK, hA, hX⟩ := hC
  intro ls H locs hl hP hD hS
  exact lv_if_eq hx hb d ht (fun q => nt q ls H locs hl hP hD hS) (fun q => nf q ls H locs hl hP hD hS)
theorem r_if_ne (hC : Cx Γ l cc own nL rt R wf a rv t') {x : Int32} {off : Int} (tgt : Nat) (d : decode cc pc = .ok (.ifCond .ne off, 3)) (ht : (pc : Int) + off = (tgt : Int)) (nt : ¬ x = 0 → Γ σ tgt lv st) (nf : x = 0 → Γ σ (pc + 3) lv st) : Γ σ pc lv (.int x :: st) := by
  obtain ⟨p, e, s, m, args, below, meth, c, D, cy, A, rfl, hx, hb, hml, hown, hlk, hr, hts, hK, hA, hX⟩ := hC
  intro ls H locs hl hP hD hS
  exact lv_if_ne hx hb d ht (fun q => nt q ls H locs hl hP hD hS) (fun q => nf q ls H locs hl hP hD hS)
theorem r_if_lt (hC : Cx Γ l cc own nL rt R wf a rv t') {x : Int32} {off : Int} (tgt : Nat) (d : decode cc pc = .ok (.ifCond .lt off, 3)) (ht : (pc : Int) + off = (tgt : Int)) (nt : x < 0 → Γ σ tgt lv st) (nf : ¬ x < 0 → Γ σ (pc + 3) lv st) : Γ σ pc lv (.int x :: st) := by
  obtain ⟨p, e, s, m, args, below, meth, c, D, cy, A, rfl, hx, hb, hml, hown, hlk, hr, hts, hK, hA, hX⟩ := hC
  intro ls H locs hl hP hD hS
  exact lv_if_lt hx hb d ht (fun q => nt q ls H locs hl hP hD hS) (fun q => nf q ls H locs hl hP hD hS)
theorem r_if_ge (hC : Cx Γ l cc own nL rt R wf a rv t') {x : Int32} {off : Int} (tgt : Nat) (d : decode cc pc = .ok (.ifCond .ge off, 3)) (ht : (pc : Int) + off = (tgt : Int)) (nt : 0 ≤ x → Γ σ tgt lv st) (nf : ¬ 0 ≤ x → Γ σ (pc + 3) lv st) : Γ σ pc lv (.int x :: st) := by
  obtain ⟨p, e, s, m, args, below, meth, c, D, cy, A, rfl, hx, hb, hml, hown, hlk, hr, hts, hK, hA, hX⟩ := hC
  intro ls H locs hl hP hD hS
  exact lv_if_ge hx hb d ht (fun q => nt q ls H locs hl hP hD hS) (fun q => nf q ls H locs hl hP hD hS)
theorem r_if_gt (hC : Cx Γ l cc own nL rt R wf a rv t') {x : Int32} {off : Int} (tgt : Nat) (d : decode cc pc = .ok (.ifCond .gt off, 3)) (ht : (pc : Int) + off = (tgt : Int)) (nt : 0 < x → Γ σ tgt lv st) (nf : ¬ 0 < x → Γ σ (pc + 3) lv st) : Γ σ pc lv (.int x :: st) := by
  obtain ⟨p, e, s, m, args, below, meth, c, D, cy, A, rfl, hx, hb, hml, hown, hlk, hr, hts, hK, hA, hX⟩ := hC
  intro ls H locs hl hP hD hS
  exact lv_if_gt hx hb d ht (fun q => nt q ls H locs hl hP hD hS) (fun q => nf q ls H locs hl hP hD hS)
theorem r_if_le (hC : Cx Γ l cc own nL rt R wf a rv t') {x : Int32} {off : Int} (tgt : Nat) (d : decode cc pc = .ok (.ifCond .le off, 3)) (ht : (pc : Int) + off = (tgt : Int)) (nt : x ≤ 0 → Γ σ tgt lv st) (nf : ¬ x ≤ 0 → Γ σ (pc + 3) lv st) : Γ σ pc lv (.int x :: st) := by
  obtain ⟨p, e, s, m, args, below, meth, c, D, cy, A, rfl, hx, hb, hml, hown, hlk, hr, hts, hK, hA, hX⟩ := hC
  intro ls H locs hl hP hD hS
  exact lv_if_le hx hb d ht (fun q => nt q ls H locs hl hP hD hS) (fun q => nf q ls H locs hl hP hD hS)
theorem r_icmp_eq (hC : Cx Γ l cc own nL rt R wf a rv t') {x y : Int32} {off : Int} (tgt : Nat) (d : decode cc pc = .ok (.if_icmp .eq off, 3)) (ht : (pc : Int) + off = (tgt : Int)) (nt : x = y → Γ σ tgt lv st) (nf : ¬ x = y → Γ σ (pc + 3) lv st) : Γ σ pc lv (.int y :: .int x :: st) := by
  obtain ⟨p, e, s, m, args, below, meth, c, D, cy, A, rfl, hx, hb, hml, hown, hlk, hr, hts, hK, hA, hX⟩ := hC
  intro ls H locs hl hP hD hS
  exact lv_icmp_eq hx hb d ht (fun q => nt q ls H locs hl hP hD hS) (fun q => nf q ls H locs hl hP hD hS)
theorem r_icmp_ne (hC : Cx Γ l cc own nL rt R wf a rv t') {x y : Int32} {off : Int} (tgt : Nat) (d : decode cc pc = .ok (.if_icmp .ne off, 3)) (ht : (pc : Int) + off = (tgt : Int)) (nt : ¬ x = y → Γ σ tgt lv st) (nf : x = y → Γ σ (pc + 3) lv st) : Γ σ pc lv (.int y :: .int x :: st) := by
  obtain ⟨p, e, s, m, args, below, meth, c, D, cy, A, rfl, hx, hb, hml, hown, hlk, hr, hts, hK, hA, hX⟩ := hC
  intro ls H locs hl hP hD hS
  exact lv_icmp_ne hx hb d ht (fun q => nt q ls H locs hl hP hD hS) (fun q => nf q ls H locs hl hP hD hS)
theorem r_icmp_lt (hC : Cx Γ l cc own nL rt R wf a rv t') {x y : Int32} {off : Int} (tgt : Nat) (d : decode cc pc = .ok (.if_icmp .lt off, 3)) (ht : (pc : Int) + off = (tgt : Int)) (nt : x < y → Γ σ tgt lv st) (nf : ¬ x < y → Γ σ (pc + 3) lv st) : Γ σ pc lv (.int y :: .int x :: st) := by
  obtain ⟨p, e, s, m, args, below, meth, c, D, cy, A, rfl, hx, hb, hml, hown, hlk, hr, hts, hK, hA, hX⟩ := hC
  intro ls H locs hl hP hD hS
  exact lv_icmp_lt hx hb d ht (fun q => nt q ls H locs hl hP hD hS) (fun q => nf q ls H locs hl hP hD hS)
theorem r_icmp_ge (hC : Cx Γ l cc own nL rt R wf a rv t') {x y : Int32} {off : Int} (tgt : Nat) (d : decode cc pc = .ok (.if_icmp .ge off, 3)) (ht : (pc : Int) + off = (tgt : Int)) (nt : y ≤ x → Γ σ tgt lv st) (nf : ¬ y ≤ x → Γ σ (pc + 3) lv st) : Γ σ pc lv (.int y :: .int x :: st) := by
  obtain ⟨p, e, s, m, args, below, meth, c, D, cy, A, rfl, hx, hb, hml, hown, hlk, hr, hts, hK, hA, hX⟩ := hC
  intro ls H locs hl hP hD hS
  exact lv_icmp_ge hx hb d ht (fun q => nt q ls H locs hl hP hD hS) (fun q => nf q ls H locs hl hP hD hS)
theorem r_icmp_gt (hC : Cx Γ l cc own nL rt R wf a rv t') {x y : Int32} {off : Int} (tgt : Nat) (d : decode cc pc = .ok (.if_icmp .gt off, 3)) (ht : (pc : Int) + off = (tgt : Int)) (nt : y < x → Γ σ tgt lv st) (nf : ¬ y < x → Γ σ (pc + 3) lv st) : Γ σ pc lv (.int y :: .int x :: st) := by
  obtain ⟨p, e, s, m, args, below, meth, c, D, cy, A, rfl, hx, hb, hml, hown, hlk, hr, hts, hK, hA, hX⟩ := hC
  intro ls H locs hl hP hD hS
  exact lv_icmp_gt hx hb d ht (fun q => nt q ls H locs hl hP hD hS) (fun q => nf q ls H locs hl hP hD hS)
theorem r_icmp_le (hC : Cx Γ l cc own nL rt R wf a rv t') {x y : Int32} {off : Int} (tgt : Nat) (d : decode cc pc = .ok (.if_icmp .le off, 3)) (ht : (pc : Int) + off = (tgt : Int)) (nt : x ≤ y → Γ σ tgt lv st) (nf : ¬ x ≤ y → Γ σ (pc + 3) lv st) : Γ σ pc lv (.int y :: .int x :: st) := by
  obtain ⟨p, e, s, m, args, below, meth, c, D, cy, A, rfl, hx, hb, hml, hown, hlk, hr, hts, hK, hA, hX⟩ := hC
  intro ls H locs hl hP hD hS
  exact lv_icmp_le hx hb d ht (fun q => nt q ls H locs hl hP hD hS) (fun q => nf q ls H locs hl hP hD hS)
theorem r_goto (hC : Cx Γ l cc own nL rt R wf a rv t') {off : Int} (tgt : Nat) (d : decode cc pc = .ok (.goto off, 3)) (ht : (pc : Int) + off = (tgt : Int)) (n : Γ σ tgt lv st) : Γ σ pc lv st := by
  obtain ⟨p, e, s, m, args, below, meth, c, D, cy, A, rfl, hx, hb, hml, hown, hlk, hr, hts, hK, hA, hX⟩ := hC
  intro ls H locs hl hP hD hS
  exact lv_goto hx hb d ht (n ls H locs hl hP hD hS)
theorem r_ifnull (hC : Cx Γ l cc own nL rt R wf a rv t') {off : Int} {x : Nat} (d : decode cc pc = .ok (.ifnull off, 3)) (n : Γ σ (pc + 3) lv st) : Γ σ pc lv (.ref x :: st) := by
  obtain ⟨p, e, s, m, args, below, meth, c, D, cy, A, rfl, hx, hb, hml, hown, hlk, hr, hts, hK, hA, hX⟩ := hC
  intro ls H locs hl hP hD hS
  exact lv_ifnull hx hb d (n ls H locs hl hP hD hS)
theorem r_ifnullN (hC : Cx Γ l cc own nL rt R wf a rv t') {off : Int} (tgt : Nat) (d : decode cc pc = .ok (.ifnull off, 3)) (ht : (pc : Int) + off = (tgt : Int)) (n : Γ σ tgt lv st) : Γ σ pc lv (.null :: st) := by
  obtain ⟨p, e, s, m, args, below, meth, c, D, cy, A, rfl, hx, hb, hml, hown, hlk, hr, hts, hK, hA, hX⟩ := hC
  intro ls H locs hl hP hD hS
  exact lv_ifnullN hx hb d ht (n ls H locs hl hP hD hS)
theorem r_ifnonnull (hC : Cx Γ l cc own nL rt R wf a rv t') {off : Int} {x : Nat} (tgt : Nat) (d : decode cc pc = .ok (.ifnonnull off, 3)) (ht : (pc : Int) + off = (tgt : Int)) (n : Γ σ tgt lv st) : Γ σ pc lv (.ref x :: st) := by
  obtain ⟨p, e, s, m, args, below, meth, c, D, cy, A, rfl, hx, hb, hml, hown, hlk, hr, hts, hK, hA, hX⟩ := hC
  intro ls H locs hl hP hD hS
  exact lv_ifnonnull hx hb d ht (n ls H locs hl hP hD hS)
theorem r_ifnonnullN (hC : Cx Γ l cc own nL rt R wf a rv t') {off : Int} (d : decode cc pc = .ok (.ifnonnull off, 3)) (n : Γ σ (pc + 3) lv st) : Γ σ pc lv (.null :: st) := by
  obtain ⟨p, e, s, m, args, below, meth, c, D, cy, A, rfl, hx, hb, hml, hown, hlk, hr, hts, hK, hA, hX⟩ := hC
  intro ls H locs hl hP hD hS
  exact lv_ifnonnullN hx hb d (n ls H locs hl hP hD hS)
theorem r_swOut (hC : Cx Γ l cc own nL rt R wf a rv t') {dflt lo hi : Int} {offs : Array Int} {len : Nat} {x : Int32} (tgt : Nat) (d : decode cc pc = .ok (.tableswitch dflt lo hi offs, len)) (h : x.toInt < lo ∨ hi < x.toInt) (ht : (pc : Int) + dflt = (tgt : Int)) (n : Γ σ tgt lv st) : Γ σ pc lv (.int x :: st) := by
  obtain ⟨p, e, s, m, args, below, meth, c, D, cy, A, rfl, hx, hb, hml, hown, hlk, hr, hts, hK, hA, hX⟩ := hC
  intro ls H locs hl hP hD hS
  exact lv_tableOut hx hb d h ht (n ls H locs hl hP hD hS)
theorem r_swIn (hC : Cx Γ l cc own nL rt R wf a rv t') {dflt lo hi : Int} {offs : Array Int} {len : Nat} {x : Int32} {off : Int} (tgt : Nat) (d : decode cc pc = .ok (.tableswitch dflt lo hi offs, len)) (h1 : ¬ x.toInt < lo) (h2 : ¬ hi < x.toInt) (ho : offs[(x.toInt - lo).toNat]? = some off) (ht : (pc : Int) + off = (tgt : Int)) (n : Γ σ tgt lv st) : Γ σ pc lv (.int x :: st) := by
  obtain ⟨p, e, s, m, args, below, meth, c, D, cy, A, rfl, hx, hb, hml, hown, hlk, hr, hts, hK, hA, hX⟩ := hC
  intro ls H locs hl hP hD hS
  exact lv_tableIn hx hb d h1 h2 ho ht (n ls H locs hl hP hD hS)
theorem r_mmax (hC : Cx Γ l cc own nL rt R wf a rv t') {x y : Int32} {k : Nat} (d : decode cc pc = .ok (.invokestatic k, 3)) (hw : Cond.methodLink own k Lib.Math.max.name ∈ UU ∧ Cond.static Lib.Math.max.name ∈ UU ∧ Cond.initialized "java/lang/Math" ∈ UU ∧ Cond.code Lib.Math.max.name Lib.Math.max.code 2 (some .int) ∈ UU) (hR : 1 ≤ R.frames ∧ (st.map fun v => v.category).sum + 13 ≤ R.locals) (n : Γ σ (pc + 3) lv (.int (if x < y then y else x) :: st)) : Γ σ pc lv (.int y :: .int x :: st) := by
  obtain ⟨p, e, s, m, args, below, meth, c, D, cy, A, rfl, hx, hb, hml, hown, hlk, hr, hts, hK, hA, hX⟩ := hC
  intro ls H locs hl hP hD hS
  exact va_mmax hx hb (by rw [hml]; exact hl.1.symm) hown (hts _ hw.1) (hts _ hw.2.1) (hts _ hw.2.2.1) (hts _ hw.2.2.2) hR.1 hR.2 (Nat.zero_le _) (Nat.zero_le _) d (n ls H locs hl hP hD hS)
theorem r_mmin (hC : Cx Γ l cc own nL rt R wf a rv t') {x y : Int32} {k : Nat} (d : decode cc pc = .ok (.invokestatic k, 3)) (hw : Cond.methodLink own k Lib.Math.min.name ∈ UU ∧ Cond.static Lib.Math.min.name ∈ UU ∧ Cond.initialized "java/lang/Math" ∈ UU ∧ Cond.code Lib.Math.min.name Lib.Math.min.code 2 (some .int) ∈ UU) (hR : 1 ≤ R.frames ∧ (st.map fun v => v.category).sum + 13 ≤ R.locals) (n : Γ σ (pc + 3) lv (.int (if y < x then y else x) :: st)) : Γ σ pc lv (.int y :: .int x :: st) := by
  obtain ⟨p, e, s, m, args, below, meth, c, D, cy, A, rfl, hx, hb, hml, hown, hlk, hr, hts, hK, hA, hX⟩ := hC
  intro ls H locs hl hP hD hS
  exact va_mmin hx hb (by rw [hml]; exact hl.1.symm) hown (hts _ hw.1) (hts _ hw.2.1) (hts _ hw.2.2.1) (hts _ hw.2.2.2) hR.1 hR.2 (Nat.zero_le _) (Nat.zero_le _) d (n ls H locs hl hP hD hS)
theorem r_get (hC : Cx Γ l cc own nL rt R wf a rv t') {C : String} {T : u_T} {N ci k q0 x idx : Nat} {fs : List Value} {v : Value} (hin : ∀ w ∈ u_ws C T N, w ∈ UU) (hc : vwCl[ci]? = some (C, T, N)) (hk : k < N) (hw : Cond.fieldLink own idx (T k).1 (T k).2.1 (T k).2.2.1 ∈ UU) (he : ∀ cy, (wf cy a σ)[q0]? = some (x, .inr (ci, fs))) (hv : fs[k]? = some v) (d : decode cc pc = .ok (.getfield idx, 3)) (n : Γ σ (pc + 3) lv (v :: st)) : Γ σ pc lv (.ref x :: st) := by
  obtain ⟨p, e, s, m, args, below, meth, c, D, cy, A, rfl, hx, hb, hml, hown, hlk, hr, hts, hK, hA, hX⟩ := hC
  intro ls H locs hl hP hD hS
  exact va_get hx hb hts hin hown hK hP q0 (he cy) hc k hk (hts _ hw) (fun _ h9 => h9) hv d (n ls H locs hl hP hD hS)
theorem r_getN (hC : Cx Γ l cc own nL rt R wf a rv t') {C : String} {T : u_T} {N ci k q0 x idx : Nat} {fs : List Value} {v : Value} (hin : ∀ w ∈ u_ws C T N, w ∈ UU) (hc : vwCl[ci]? = some (C, T, N)) (hk : k < N) (hw : (own, idx, (T k).1, (T k).2.1, (T k).2.2.1) ∈ nestF) (he : ∀ cy, (wf cy a σ)[q0]? = some (x, .inr (ci, fs))) (hv : fs[k]? = some v) (d : decode cc pc = .ok (.getfield idx, 3)) (n : Γ σ (pc + 3) lv (v :: st)) : Γ σ pc lv (.ref x :: st) := by
  obtain ⟨p, e, s, m, args, below, meth, c, D, cy, A, rfl, hx, hb, hml, hown, hlk, hr, hts, hK, hA, hX⟩ := hC
  intro ls H locs hl hP hD hS
  exact va_getN hx hb hts hin hown hK hP q0 (he cy) hc k hk (va_Nw.use rfl (hX.2.2.2.1 _ hw)) (fun _ h9 => h9) hv d (n ls H locs hl hP hD hS)
theorem r_put (hC : Cx Γ l cc own nL rt R wf a rv t') {C : String} {T : u_T} {N ci k q0 x idx : Nat} {fs : List Value} {v : Value} {ty : FieldType} {σ1 : St} (hin : ∀ w ∈ u_ws C T N, w ∈ UU) (ty0 : Nat → FieldType) (hty : ∀ k, k < N → parseFieldDescriptor (T k).2.2.1 = some (ty0 k)) (hnm : ∀ a, a < N → ∀ b, b < N → a ≠ b → (T a).2.1 ≠ (T b).2.1) (hc : vwCl[ci]? = some (C, T, N)) (hk : k < N) (hw : Cond.fieldLink own idx (T k).1 (T k).2.1 (T k).2.2.1 ∈ UU) (hf : (T k).2.2.2 = false) (hd : parseFieldDescriptor (T k).2.2.1 = some ty) (hn : narrow ty v = v) (hfit : fits ty v = true) (hlen : k < fs.length) (he : ∀ cy, (wf cy a σ)[q0]? = some (x, .inr (ci, fs))) (hs : ∀ cy, (wf cy a σ).set q0 (x, .inr (ci, fs.set k v)) = wf cy a σ1) (d : decode cc pc = .ok (.putfield idx, 3)) (n : Γ σ1 (pc + 3) lv st) : Γ σ pc lv (v :: .ref x :: st) := by
  obtain ⟨p, e, s, m, args, below, meth, c, D, cy, A, rfl, hx, hb, hml, hown, hlk, hr, hts, hK, hA, hX⟩ := hC
  intro ls H locs hl hP hD hS
  exact va_put hx hb hts hin ty0 hty hnm hown hK hP hD hS q0 (he cy) hc k hk (hts _ hw) (fun _ h9 => h9) hf hd hn hfit hlen d (fun H1 L1 h1 h2 h3 => n ls H1 L1 hl (by rw [← hs cy]; exact h1) (by rw [← hs cy]; exact h2) h3)
theorem r_putN (hC : Cx Γ l cc own nL rt R wf a rv t') {C : String} {T : u_T} {N ci k q0 x idx : Nat} {fs : List Value} {v : Value} {ty : FieldType} {σ1 : St} (hin : ∀ w ∈ u_ws C T N, w ∈ UU) (ty0 : Nat → FieldType) (hty : ∀ k, k < N → parseFieldDescriptor (T k).2.2.1 = some (ty0 k)) (hnm : ∀ a, a < N → ∀ b, b < N → a ≠ b → (T a).2.1 ≠ (T b).2.1) (hc : vwCl[ci]? = some (C, T, N)) (hk : k < N) (hw : (own, idx, (T k).1, (T k).2.1, (T k).2.2.1) ∈ nestF) (hf : (T k).2.2.2 = false) (hd : parseFieldDescriptor (T k).2.2.1 = some ty) (hn : narrow ty v = v) (hfit : fits ty v = true) (hlen : k < fs.length) (he : ∀ cy, (wf cy a σ)[q0]? = some (x, .inr (ci, fs))) (hs : ∀ cy, (wf cy a σ).set q0 (x, .inr (ci, fs.set k v)) = wf cy a σ1) (d : decode cc pc = .ok (.putfield idx, 3)) (n : Γ σ1 (pc + 3) lv st) : Γ σ pc lv (v :: .ref x :: st) := by
  obtain ⟨p, e, s, m, args, below, meth, c, D, cy, A, rfl, hx, hb, hml, hown, hlk, hr, hts, hK, hA, hX⟩ := hC
  intro ls H locs hl hP hD hS
  exact va_putN hx hb hts hin ty0 hty hnm hown hK hP hD hS q0 (he cy) hc k hk (va_Nw.use rfl (hX.2.2.2.1 _ hw)) (fun _ h9 => h9) hf hd hn hfit hlen d (fun H1 L1 h1 h2 h3 => n ls H1 L1 hl (by rw [← hs cy]; exact h1) (by rw [← hs cy]; exact h2) h3)
theorem r_iald (hC : Cx Γ l cc own nL rt R wf a rv t') {q0 x n0 : Nat} {f : Nat → Int32} {i : Int32} (he : ∀ cy, (wf cy a σ)[q0]? = some (x, .inl (cy 0, n0, .inl f))) (hi : in_b i n0 = true) (d : decode cc pc = .ok (.iaload, 1)) (n : Γ σ (pc + 1) lv (.int (f i.toNatClampNeg) :: st)) : Γ σ pc lv (.int i :: .ref x :: st) := by
  obtain ⟨p, e, s, m, args, below, meth, c, D, cy, A, rfl, hx, hb, hml, hown, hlk, hr, hts, hK, hA, hX⟩ := hC
  intro ls H locs hl hP hD hS
  exact va_iald hx hb hK hP q0 0 (he cy) rfl (in_b_vp hi) d (n ls H locs hl hP hD hS)
theorem r_cald (hC : Cx Γ l cc own nL rt R wf a rv t') {q0 x n0 : Nat} {f : Nat → Int32} {i : Int32} (he : ∀ cy, (wf cy a σ)[q0]? = some (x, .inl (cy 2, n0, .inl f))) (hi : in_b i n0 = true) (d : decode cc pc = .ok (.caload, 1)) (n : Γ σ (pc + 1) lv (.int (f i.toNatClampNeg) :: st)) : Γ σ pc lv (.int i :: .ref x :: st) := by
  obtain ⟨p, e, s, m, args, below, meth, c, D, cy, A, rfl, hx, hb, hml, hown, hlk, hr, hts, hK, hA, hX⟩ := hC
  intro ls H locs hl hP hD hS
  exact va_cald hx hb hK hP q0 2 (he cy) rfl (in_b_vp hi) d (n ls H locs hl hP hD hS)
theorem r_zald (hC : Cx Γ l cc own nL rt R wf a rv t') {q0 x n0 : Nat} {f : Nat → Int32} {i : Int32} (he : ∀ cy, (wf cy a σ)[q0]? = some (x, .inl (cy 3, n0, .inl f))) (hi : in_b i n0 = true) (d : decode cc pc = .ok (.baload, 1)) (n : Γ σ (pc + 1) lv (.int (f i.toNatClampNeg) :: st)) : Γ σ pc lv (.int i :: .ref x :: st) := by
  obtain ⟨p, e, s, m, args, below, meth, c, D, cy, A, rfl, hx, hb, hml, hown, hlk, hr, hts, hK, hA, hX⟩ := hC
  intro ls H locs hl hP hD hS
  exact va_zald hx hb hK hP q0 3 (he cy) rfl (in_b_vp hi) d (n ls H locs hl hP hD hS)
theorem r_lald (hC : Cx Γ l cc own nL rt R wf a rv t') {q0 x n0 : Nat} {f : Nat → Int64} {i : Int32} (he : ∀ cy, (wf cy a σ)[q0]? = some (x, .inl (cy 1, n0, .inr (.inl f)))) (hi : in_b i n0 = true) (d : decode cc pc = .ok (.laload, 1)) (n : Γ σ (pc + 1) lv (.long (f i.toNatClampNeg) :: st)) : Γ σ pc lv (.int i :: .ref x :: st) := by
  obtain ⟨p, e, s, m, args, below, meth, c, D, cy, A, rfl, hx, hb, hml, hown, hlk, hr, hts, hK, hA, hX⟩ := hC
  intro ls H locs hl hP hD hS
  exact va_lald hx hb hK hP q0 1 (he cy) rfl (in_b_vp hi) d (n ls H locs hl hP hD hS)
theorem r_iast (hC : Cx Γ l cc own nL rt R wf a rv t') {q0 x n0 : Nat} {f : Nat → Int32} {i v : Int32} {σ1 : St} (he : ∀ cy, (wf cy a σ)[q0]? = some (x, .inl (cy 0, n0, .inl f))) (hs : ∀ cy, (wf cy a σ).set q0 (x, .inl (cy 0, n0, .inl (upd f i.toNatClampNeg v))) = wf cy a σ1) (hi : in_b i n0 = true) (d : decode cc pc = .ok (.iastore, 1)) (n : Γ σ1 (pc + 1) lv st) : Γ σ pc lv (.int v :: .int i :: .ref x :: st) := by
  obtain ⟨p, e, s, m, args, below, meth, c, D, cy, A, rfl, hx, hb, hml, hown, hlk, hr, hts, hK, hA, hX⟩ := hC
  intro ls H locs hl hP hD hS
  exact va_iast hx hb hK hP hD hS q0 0 (he cy) rfl (in_b_vp hi) d (fun H1 L1 h1 h2 h3 => n ls H1 L1 hl (by rw [← hs cy]; exact h1) (by rw [← hs cy]; exact h2) h3)
theorem r_cast (hC : Cx Γ l cc own nL rt R wf a rv t') {q0 x n0 : Nat} {f : Nat → Int32} {i v : Int32} {σ1 : St} (he : ∀ cy, (wf cy a σ)[q0]? = some (x, .inl (cy 2, n0, .inl f))) (hs : ∀ cy, (wf cy a σ).set q0 (x, .inl (cy 2, n0, .inl (upd f i.toNatClampNeg (vp_nar .char v)))) = wf cy a σ1) (hi : in_b i n0 = true) (d : decode cc pc = .ok (.castore, 1)) (n : Γ σ1 (pc + 1) lv st) : Γ σ pc lv (.int v :: .int i :: .ref x :: st) := by
  obtain ⟨p, e, s, m, args, below, meth, c, D, cy, A, rfl, hx, hb, hml, hown, hlk, hr, hts, hK, hA, hX⟩ := hC
  intro ls H locs hl hP hD hS
  exact va_cast hx hb hK hP hD hS q0 2 (he cy) rfl (in_b_vp hi) d (fun H1 L1 h1 h2 h3 => n ls H1 L1 hl (by rw [← hs cy]; exact h1) (by rw [← hs cy]; exact h2) h3)
theorem r_zast (hC : Cx Γ l cc own nL rt R wf a rv t') {q0 x n0 : Nat} {f : Nat → Int32} {i v : Int32} {σ1 : St} (he : ∀ cy, (wf cy a σ)[q0]? = some (x, .inl (cy 3, n0, .inl f))) (hs : ∀ cy, (wf cy a σ).set q0 (x, .inl (cy 3, n0, .inl (upd f i.toNatClampNeg (vp_nar .boolean v)))) = wf cy a σ1) (hi : in_b i n0 = true) (d : decode cc pc = .ok (.bastore, 1)) (n : Γ σ1 (pc + 1) lv st) : Γ σ pc lv (.int v :: .int i :: .ref x :: st) := by
  obtain ⟨p, e, s, m, args, below, meth, c, D, cy, A, rfl, hx, hb, hml, hown, hlk, hr, hts, hK, hA, hX⟩ := hC
  intro ls H locs hl hP hD hS
  exact va_zast hx hb hK hP hD hS q0 3 (he cy) rfl (in_b_vp hi) d (fun H1 L1 h1 h2 h3 => n ls H1 L1 hl (by rw [← hs cy]; exact h1) (by rw [← hs cy]; exact h2) h3)
theorem r_last (hC : Cx Γ l cc own nL rt R wf a rv t') {q0 x n0 : Nat} {f : Nat → Int64} {i : Int32} {v : Int64} {σ1 : St} (he : ∀ cy, (wf cy a σ)[q0]? = some (x, .inl (cy 1, n0, .inr (.inl f)))) (hs : ∀ cy, (wf cy a σ).set q0 (x, .inl (cy 1, n0, .inr (.inl (vp_updL f i.toNatClampNeg v)))) = wf cy a σ1) (hi : in_b i n0 = true) (d : decode cc pc = .ok (.lastore, 1)) (n : Γ σ1 (pc + 1) lv st) : Γ σ pc lv (.long v :: .int i :: .ref x :: st) := by
  obtain ⟨p, e, s, m, args, below, meth, c, D, cy, A, rfl, hx, hb, hml, hown, hlk, hr, hts, hK, hA, hX⟩ := hC
  intro ls H locs hl hP hD hS
  exact va_last hx hb hK hP hD hS q0 1 (he cy) rfl (in_b_vp hi) d (fun H1 L1 h1 h2 h3 => n ls H1 L1 hl (by rw [← hs cy]; exact h1) (by rw [← hs cy]; exact h2) h3)
theorem r_alen0 (hC : Cx Γ l cc own nL rt R wf a rv t') {q0 x n0 : Nat} {f : (Nat → Int32) ⊕ (Nat → Int64) ⊕ (Nat → UInt32) ⊕ (Nat → UInt64) ⊕ (Nat → Option Nat)} {v : Int32} (he : ∀ cy, (wf cy a σ)[q0]? = some (x, .inl (cy 0, n0, f))) (hv : Int32.ofNat n0 = v) (d : decode cc pc = .ok (.arraylength, 1)) (n : Γ σ (pc + 1) lv (.int v :: st)) : Γ σ pc lv (.ref x :: st) := by
  obtain ⟨p, e, s, m, args, below, meth, c, D, cy, A, rfl, hx, hb, hml, hown, hlk, hr, hts, hK, hA, hX⟩ := hC
  intro ls H locs hl hP hD hS
  exact va_alen (x := (n0, f)) hx hb hK hP q0 0 (he cy) rfl hv d (n ls H locs hl hP hD hS)
theorem r_alen1 (hC : Cx Γ l cc own nL rt R wf a rv t') {q0 x n0 : Nat} {f : (Nat → Int32) ⊕ (Nat → Int64) ⊕ (Nat → UInt32) ⊕ (Nat → UInt64) ⊕ (Nat → Option Nat)} {v : Int32} (he : ∀ cy, (wf cy a σ)[q0]? = some (x, .inl (cy 1, n0, f))) (hv : Int32.ofNat n0 = v) (d : decode cc pc = .ok (.arraylength, 1)) (n : Γ σ (pc + 1) lv (.int v :: st)) : Γ σ pc lv (.ref x :: st) := by
  obtain ⟨p, e, s, m, args, below, meth, c, D, cy, A, rfl, hx, hb, hml, hown, hlk, hr, hts, hK, hA, hX⟩ := hC
  intro ls H locs hl hP hD hS
  exact va_alen (x := (n0, f)) hx hb hK hP q0 1 (he cy) rfl hv d (n ls H locs hl hP hD hS)
theorem r_alen2 (hC : Cx Γ l cc own nL rt R wf a rv t') {q0 x n0 : Nat} {f : (Nat → Int32) ⊕ (Nat → Int64) ⊕ (Nat → UInt32) ⊕ (Nat → UInt64) ⊕ (Nat → Option Nat)} {v : Int32} (he : ∀ cy, (wf cy a σ)[q0]? = some (x, .inl (cy 2, n0, f))) (hv : Int32.ofNat n0 = v) (d : decode cc pc = .ok (.arraylength, 1)) (n : Γ σ (pc + 1) lv (.int v :: st)) : Γ σ pc lv (.ref x :: st) := by
  obtain ⟨p, e, s, m, args, below, meth, c, D, cy, A, rfl, hx, hb, hml, hown, hlk, hr, hts, hK, hA, hX⟩ := hC
  intro ls H locs hl hP hD hS
  exact va_alen (x := (n0, f)) hx hb hK hP q0 2 (he cy) rfl hv d (n ls H locs hl hP hD hS)
theorem r_alen3 (hC : Cx Γ l cc own nL rt R wf a rv t') {q0 x n0 : Nat} {f : (Nat → Int32) ⊕ (Nat → Int64) ⊕ (Nat → UInt32) ⊕ (Nat → UInt64) ⊕ (Nat → Option Nat)} {v : Int32} (he : ∀ cy, (wf cy a σ)[q0]? = some (x, .inl (cy 3, n0, f))) (hv : Int32.ofNat n0 = v) (d : decode cc pc = .ok (.arraylength, 1)) (n : Γ σ (pc + 1) lv (.int v :: st)) : Γ σ pc lv (.ref x :: st) := by
  obtain ⟨p, e, s, m, args, below, meth, c, D, cy, A, rfl, hx, hb, hml, hown, hlk, hr, hts, hK, hA, hX⟩ := hC
  intro ls H locs hl hP hD hS
  exact va_alen (x := (n0, f)) hx hb hK hP q0 3 (he cy) rfl hv d (n ls H locs hl hP hD hS)
theorem r_iretT {v r : Int32}  (hC : Cx Γ l cc own nL (some .int) R wf a (some (.int r)) σ)  (d : decode cc pc = .ok (.ireturn, 1)) (e : v = r) : Γ σ pc lv [.int v] := by
  subst e
  obtain ⟨p, e, s, m, args, below, meth, c, D, cy, A, rfl, hx, hb, hml, hown, hlk, hr, hts, hK, hA, hX⟩ := hC
  intro ls H locs hl hP hD hS
  exact W.iret hx hb hr (fun t ht hW => ⟨⟨rfl, by rw [ht]; exact hP, va_K.moved hW.alike hK, hD⟩, hS.F ht⟩) hS.2.2 d hlk
theorem r_iretP {v r : Int32}  (hC : Cx Γ l cc own nL (some .int) R wf a (some (.int r)) σ)  (d : decode cc pc = .ok (.ireturn, 1)) (e : some v = some r) : Γ σ pc lv [.int v] := by
  cases e
  obtain ⟨p, e, s, m, args, below, meth, c, D, cy, A, rfl, hx, hb, hml, hown, hlk, hr, hts, hK, hA, hX⟩ := hC
  intro ls H locs hl hP hD hS
  exact W.iret hx hb hr (fun t ht hW => ⟨⟨rfl, by rw [ht]; exact hP, va_K.moved hW.alike hK, hD⟩, hS.F ht⟩) hS.2.2 d hlk
theorem r_iretS {v r : Int32}  (hC : Cx Γ l cc own nL (some .int) R wf a (some (.int r)) t')  (d : decode cc pc = .ok (.ireturn, 1)) (e : some (v, σ) = some (r, t')) : Γ σ pc lv [.int v] := by
  cases e
  obtain ⟨p, e, s, m, args, below, meth, c, D, cy, A, rfl, hx, hb, hml, hown, hlk, hr, hts, hK, hA, hX⟩ := hC
  intro ls H locs hl hP hD hS
  exact W.iret hx hb hr (fun t ht hW => ⟨⟨rfl, by rw [ht]; exact hP, va_K.moved hW.alike hK, hD⟩, hS.F ht⟩) hS.2.2 d hlk
theorem r_lretT {v r : Int64}  (hC : Cx Γ l cc own nL (some .long) R wf a (some (.long r)) σ)  (d : decode cc pc = .ok (.lreturn, 1)) (e : v = r) : Γ σ pc lv [.long v] := by
  subst e
  obtain ⟨p, e, s, m, args, below, meth, c, D, cy, A, rfl, hx, hb, hml, hown, hlk, hr, hts, hK, hA, hX⟩ := hC
  intro ls H locs hl hP hD hS
  exact W.lret hx hb hr (fun t ht hW => ⟨⟨rfl, by rw [ht]; exact hP, va_K.moved hW.alike hK, hD⟩, hS.F ht⟩) hS.2.2 d hlk
theorem r_lretP {v r : Int64}  (hC : Cx Γ l cc own nL (some .long) R wf a (some (.long r)) σ)  (d : decode cc pc = .ok (.lreturn, 1)) (e : some v = some r) : Γ σ pc lv [.long v] := by
  cases e
  obtain ⟨p, e, s, m, args, below, meth, c, D, cy, A, rfl, hx, hb, hml, hown, hlk, hr, hts, hK, hA, hX⟩ := hC
  intro ls H locs hl hP hD hS
  exact W.lret hx hb hr (fun t ht hW => ⟨⟨rfl, by rw [ht]; exact hP, va_K.moved hW.alike hK, hD⟩, hS.F ht⟩) hS.2.2 d hlk
theorem r_lretS {v r : Int64}  (hC : Cx Γ l cc own nL (some .long) R wf a (some (.long r)) t')  (d : decode cc pc = .ok (.lreturn, 1)) (e : some (v, σ) = some (r, t')) : Γ σ pc lv [.long v] := by
  cases e
  obtain ⟨p, e, s, m, args, below, meth, c, D, cy, A, rfl, hx, hb, hml, hown, hlk, hr, hts, hK, hA, hX⟩ := hC
  intro ls H locs hl hP hD hS
  exact W.lret hx hb hr (fun t ht hW => ⟨⟨rfl, by rw [ht]; exact hP, va_K.moved hW.alike hK, hD⟩, hS.F ht⟩) hS.2.2 d hlk
theorem r_zretT {v r : Int32}  (hC : Cx Γ l cc own nL (some .boolean) R wf a (some (.int r)) σ) (hz : narrow .boolean (.int v) = .int v) (d : decode cc pc = .ok (.ireturn, 1)) (e : v = r) : Γ σ pc lv [.int v] := by
  subst e
  obtain ⟨p, e, s, m, args, below, meth, c, D, cy, A, rfl, hx, hb, hml, hown, hlk, hr, hts, hK, hA, hX⟩ := hC
  intro ls H locs hl hP hD hS
  exact W.zret hx hb hr hz (fun t ht hW => ⟨⟨rfl, by rw [ht]; exact hP, va_K.moved hW.alike hK, hD⟩, hS.F ht⟩) hS.2.2 d hlk
theorem r_zretP {v r : Int32}  (hC : Cx Γ l cc own nL (some .boolean) R wf a (some (.int r)) σ) (hz : narrow .boolean (.int v) = .int v) (d : decode cc pc = .ok (.ireturn, 1)) (e : some v = some r) : Γ σ pc lv [.int v] := by
  cases e
  obtain ⟨p, e, s, m, args, below, meth, c, D, cy, A, rfl, hx, hb, hml, hown, hlk, hr, hts, hK, hA, hX⟩ := hC
  intro ls H locs hl hP hD hS
  exact W.zret hx hb hr hz (fun t ht hW => ⟨⟨rfl, by rw [ht]; exact hP, va_K.moved hW.alike hK, hD⟩, hS.F ht⟩) hS.2.2 d hlk
theorem r_zretS {v r : Int32}  (hC : Cx Γ l cc own nL (some .boolean) R wf a (some (.int r)) t') (hz : narrow .boolean (.int v) = .int v) (d : decode cc pc = .ok (.ireturn, 1)) (e : some (v, σ) = some (r, t')) : Γ σ pc lv [.int v] := by
  cases e
  obtain ⟨p, e, s, m, args, below, meth, c, D, cy, A, rfl, hx, hb, hml, hown, hlk, hr, hts, hK, hA, hX⟩ := hC
  intro ls H locs hl hP hD hS
  exact W.zret hx hb hr hz (fun t ht hW => ⟨⟨rfl, by rw [ht]; exact hP, va_K.moved hW.alike hK, hD⟩, hS.F ht⟩) hS.2.2 d hlk
theorem r_vretS (hC : Cx Γ l cc own nL none R wf a none t') (d : decode cc pc = .ok (.return_, 1)) (e : some σ = some t') : Γ σ pc lv [] := by
  cases e
  obtain ⟨p, e, s, m, args, below, meth, c, D, cy, A, rfl, hx, hb, hml, hown, hlk, hr, hts, hK, hA, hX⟩ := hC
  intro ls H locs hl hP hD hS
  exact W.vret hx hb hr (fun t ht hW => ⟨⟨rfl, by rw [ht]; exact hP, va_K.moved hW.alike hK, hD⟩, hS.F ht⟩) hS.2.2 d hlk
theorem r_aret {cn : String} {v : Value} (hC : Cx Γ l cc own nL (some (.object cn)) R wf a (some v) σ) (hv : v = .null ∨ ∃ q, v = .ref q) (d : decode cc pc = .ok (.areturn, 1)) : Γ σ pc lv [v] := by
  obtain ⟨p, e, s, m, args, below, meth, c, D, cy, A, rfl, hx, hb, hml, hown, hlk, hr, hts, hK, hA, hX⟩ := hC
  intro ls H locs hl hP hD hS
  exact W.aret hx hb hr (Or.inl ⟨_, rfl⟩) hv (fun t ht hW => ⟨⟨rfl, by rw [ht]; exact hP, va_K.moved hW.alike hK, hD⟩, hS.F ht⟩) hS.2.2 d hlk
theorem va_run_G {D : va_G} {cy : Nat → ClassId} {A A1 : Nat → Prop} {p : Program} {e : Env} {s : State} {m : MethodId} {args : Array Value} {below : List Frame} {meth : Method} {c : Code} {H : Heap} {locs : List Loc} {ls : Array Slot} {Q : State → Prop} {arr : Array Value} {rv1 : Option Value} {σ1 : St} {st0 rest : List Value}
    (hr : va_Run p l e R s m args below meth c H locs 0 0 0 0 (F0 m pc ls st0) rest (QC D cy wf a rv1 σ1 A1 arr) A1) (hS : va_S A s.heap H locs) (hf : ∀ q, A1 q → A q)
    (kk : ∀ (H1 : Heap) (locs1 : List Loc), va_P D vwCl (wf cy a σ1) H1 → va_D A (wf cy a σ1) → va_S A s.heap H1 locs1 → W p l e R s m args below meth c H1 locs1 0 0 Q (F0 m (pc + 3) ls (rv1.toList ++ rest))) : W p l e R s m args below meth c H locs 0 0 Q (F0 m pc ls st0) := by
  intro T hT X
  obtain ⟨v, st₀, t, T', L, h0, X', hL, e1, e2, ⟨⟨hv, hp, hk1, hd1⟩, hz, hk⟩, st⟩ := hr T hT X
  cases hv
  rw [h0] at hz hk
  obtain ⟨t2, a1, b1⟩ := kk T'.heap (locs ++ L) (by rw [e1]; exact hp) (hd1.weaken (fun _ q _ h => hf q.1 h))
    ⟨Nat.le_trans hS.1 (by rw [e1]; exact hz), fun q h1 h2 => by rw [e1, hk q (Nat.lt_of_lt_of_le h1 hS.1) (fun z => h2 (hf q z))]; exact hS.2.1 q h1 h2, fun q hq => by
      rcases List.mem_append.mp hq with h | h
      · exact hS.2.2 q h
      · exact hf _ (hL q h)⟩ T' rfl X'
  exact ⟨t2, st t2 a1, b1⟩
theorem free_G {D : va_G} {cy : Nat → ClassId} {A : Nat → Prop} {H0 H : Heap} {locs : List Loc} {ws : va_W} (hD : va_D A ws) (hS : va_S A H0 H locs) (hA : ∀ q, H0.size ≤ q → A q) : ∀ q, va_A ws H.size q → A q := by
  intro q h
  rcases h with ⟨k, e, h⟩ | h
  · exact hD.2 k (q, e) h
  · exact hA q (Nat.le_trans hS.1 h)
abbrev CallOk (own : String) (idx : Nat) (y : MethodName) (cc' : ByteArray) (nL' : Nat) (rt' : Option FieldType) (n : Nat) : Prop :=
  (Cond.methodLink own idx y ∈ UU ∧ Cond.initialized y.cls ∈ UU ∧ Cond.code y cc' nL' rt' ∈ UU) ∧ y.cls ≠ "java/lang/invoke/MethodHandle" ∧ y.cls ≠ "java/lang/invoke/VarHandle" ∧ (parseMethodDescriptor y.desc).map (fun d => d.parameters.length) = some n
theorem r_callV (hC : Cx Γ l cc own nL rt R wf a rv t') {y : MethodName} {cc' : ByteArray} {nL' : Nat} {rt' : Option FieldType} {R' : Room} {av' : (Nat → Nat) → List Value} {rv1 : (Nat → Nat) → Option Value} {σ1 : St} (hc : Con l y cc' nL' rt' R' wf av' σ rv1 σ1) {idx n : Nat} (hw : CallOk own idx y cc' nL' rt' n ∧ Cond.instanceMethod y ∈ UU ∧ Cond.selects y.cls y y ∈ UU)
    {q0 ci b N : Nat} {fs : List Value} {T : u_T} (hrec : ∀ cy, (wf cy a σ)[q0]? = some (b, .inr (ci, fs))) (hcl : vwCl[ci]? = some (y.cls, T, N)) {As rest : List Value} (hav : av' a = .ref b :: As) (hn : As.length = n) (hst : st = As.reverse ++ .ref b :: rest) (hR : R'.frames + 1 ≤ R.frames ∧ 8 + (nL' + 11) + R'.locals ≤ R.locals) (hcat : (rest.map fun v => v.category).sum ≤ 8) (d : decode cc pc = .ok (.invokevirtual idx, 3))
    (n1 : Γ σ1 (pc + 3) lv ((rv1 a).toList ++ rest)) : Γ σ pc lv st := by
  obtain ⟨p, e, s, m, args, below, meth, c, D, cy, A, rfl, hx, hb, hml, hown, hlk, hr, hts, hK, hA, hX⟩ := hC
  intro ls H locs hl hP hD hS
  obtain ⟨c1, c2, hM⟩ := hc
  have hM := hM D cy a H.size
  rw [hav] at hM
  have hf := free_G (D := D) (cy := cy) hD hS hA
  have cw : CallW R s args own y.cls idx y cc' nL' rt' (Cond.code y cc' nL' rt' :: UU) R' 0 0 n := ⟨callB_of n hts (uu_good hw.1.1.2.2) rfl c1 c2 (hts _ hw.1.1.2.1) (hts _ hw.1.1.1) hw.1.2 hR, hts _ hw.2.1, hts _ hw.2.2⟩
  exact va_run_G (va_runV (As := As) (rest := rest) ⟨hx, hb, hml, hown, hts⟩ hM cw ⟨PC.blind, va_recv hK hP hcl (hrec cy), fun U hU hW => ⟨rfl, by rw [hU], by rw [hU]; exact hP, va_K.moved hW.alike hK, hD.weaken (fun _ _ _ _ => trivial), by rw [hU]; exact hX.warm hW hS.2.1 hf⟩⟩ rfl hn hl.1 hst (lv_room hcat) d ⟨Nat.zero_le _, Nat.zero_le _⟩) hS hf (fun H1 L1 h1 h2 h3 => n1 ls H1 L1 hl h1 h2 h3)
theorem r_callS (hC : Cx Γ l cc own nL rt R wf a rv t') {y : MethodName} {cc' : ByteArray} {nL' : Nat} {rt' : Option FieldType} {R' : Room} {av' : (Nat → Nat) → List Value} {rv1 : (Nat → Nat) → Option Value} {σ1 : St} (hc : Con l y cc' nL' rt' R' wf av' σ rv1 σ1) {idx n : Nat} (hw : CallOk own idx y cc' nL' rt' n ∧ Cond.static y ∈ UU)
    {As rest : List Value} (hav : av' a = As) (hn : As.length = n) (hst : st = As.reverse ++ rest) (hR : R'.frames + 1 ≤ R.frames ∧ 8 + (nL' + 11) + R'.locals ≤ R.locals) (hcat : (rest.map fun v => v.category).sum ≤ 8) (d : decode cc pc = .ok (.invokestatic idx, 3))
    (n1 : Γ σ1 (pc + 3) lv ((rv1 a).toList ++ rest)) : Γ σ pc lv st := by
  obtain ⟨p, e, s, m, args, below, meth, c, D, cy, A, rfl, hx, hb, hml, hown, hlk, hr, hts, hK, hA, hX⟩ := hC
  intro ls H locs hl hP hD hS
  obtain ⟨c1, c2, hM⟩ := hc
  have hM := hM D cy a H.size
  rw [hav] at hM
  have hf := free_G (D := D) (cy := cy) hD hS hA
  have cw : CallB R s args own idx y cc' nL' rt' (Cond.code y cc' nL' rt' :: UU) R' 0 0 n ∧ (Cond.static y).before args s = true := ⟨callB_of n hts (uu_good hw.1.1.2.2) rfl c1 c2 (hts _ hw.1.1.2.1) (hts _ hw.1.1.1) hw.1.2 hR, hts _ hw.2⟩
  exact va_run_G (va_runS (As := As) (rest := rest) ⟨hx, hb, hml, hown, hts⟩ hM cw ⟨PC.blind, fun U hU hW => ⟨rfl, by rw [hU], by rw [hU]; exact hP, va_K.moved hW.alike hK, hD.weaken (fun _ _ _ _ => trivial), by rw [hU]; exact hX.warm hW hS.2.1 hf⟩⟩ rfl hn hl.1 hst (lv_room hcat) d ⟨Nat.zero_le _, Nat.zero_le _⟩) hS hf (fun H1 L1 h1 h2 h3 => n1 ls H1 L1 hl h1 h2 h3)
end RW
