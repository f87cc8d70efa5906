/-! ===== the law's start ===== -/
theorem lw_t {w : Cond} (i : Nat) (h : tables_1[i]? = some w) : w ∈ lw_tbl := List.mem_append_right _ (List.mem_of_getElem? h)
def sxT (i : Nat) : Term := Term.string (sxOwn.getD i "") (sxIdx.getD i 0)
abbrev gnC : Cond := Jvm.Cond.and given_1 narrow_1
theorem sx_ex : ∀ i, i < 8 → Cond.exactly (sxT i) "java/lang/String" ∈ flatC gnC := by decide +kernel
theorem sx_co : ∀ i, i < 8 → Cond.eq (.field (sxT i) "java/lang/String" "coder" "B") (.int 0) ∈ flatC gnC := by decide +kernel
theorem sx_ar : ∀ i, i < 8 → Cond.arrayOf (.field (sxT i) "java/lang/String" "value" "[B") .byte ∈ flatC gnC := by decide +kernel
theorem sx_le : ∀ i, i < 8 → Cond.eq (.length (.field (sxT i) "java/lang/String" "value" "[B")) (.int (Int32.ofNat (sxLen.getD i 0))) ∈ flatC gnC := by decide +kernel
theorem sx_el : ∀ i, i < 8 → ∀ j, j < sxLen.getD i 0 → Cond.eq (.elem (.field (sxT i) "java/lang/String" "value" "[B") (.int (Int32.ofNat j))) (.int ((sxByt.getD i []).getD j 0)) ∈ flatC gnC := by decide +kernel
theorem sx_ne : ∀ i, i < 8 → ∀ j, j < 8 → i ≠ j → Cond.not (Cond.eq (sxT i) (sxT j)) ∈ flatC gnC ∨ Cond.not (Cond.eq (sxT j) (sxT i)) ∈ flatC gnC := by decide +kernel
theorem sx_ln : ∀ i, i < 8 → sxLen.getD i 0 < 2 ^ 31 := by decide +kernel
theorem sx_sr : ∀ i, i < 8 → tables_1[[693, 727, 963, 1016, 1019, 1089, 1094, 1095].getD i 0]? = some (Cond.stringRef (sxOwn.getD i "") (sxIdx.getD i 0) (sxTx.getD i "")) := by decide +kernel
theorem nf_tab : nestF.map (fun q => Cond.fieldLinkNest q.1 q.2.1 q.2.2.1 q.2.2.2.1 q.2.2.2.2 "QuotientFile") = [38, 39, 41, 42, 61, 63, 64, 103, 118, 119, 120, 136].filterMap (fun i => tables_1[i]?) := by decide +kernel
theorem nm_tab : nestM.map (fun q => Cond.methodLinkNest q.1 q.2.1 q.2.2 "QuotientFile") = [32, 53, 81, 97, 112, 129].filterMap (fun i => tables_1[i]?) := by decide +kernel
def aF (u adK adV : Nat → Nat) : Nat → Nat := fun i => if i < 100 then u i else if i < 200 then adK (i - 100) else adV (i - 200)
theorem aF_K (u adK adV : Nat → Nat) {i : Nat} (h : i < 8) : aF u adK adV (100 + i) = adK i := by
  unfold aF
  rw [if_neg (by omega), if_pos (by omega), show 100 + i - 100 = i by omega]
theorem aF_V (u adK adV : Nat → Nat) {i : Nat} (h : i < 8) : aF u adK adV (200 + i) = adV i := by
  unfold aF
  rw [if_neg (by omega), if_neg (by omega), show 200 + i - 200 = i by omega]
theorem tab_mem {α : Type} {L : List α} {f : α → Cond} {ps : List Nat} (h : L.map f = ps.filterMap (fun i => tables_1[i]?)) {x : α} (hx : x ∈ L) : f x ∈ lw_tbl := by
  have hm : f x ∈ L.map f := List.mem_map.mpr ⟨x, hx, rfl⟩
  rw [h] at hm
  obtain ⟨i, -, hi⟩ := List.mem_filterMap.mp hm
  exact lw_t i hi
theorem start_SX {s : State} {args : Array Value} (hts : ∀ w ∈ lw_tbl, w.before args s = true) (hgv : gnC.before args s = true) : ∃ adK adV : Nat → Nat, ∀ u, SX (AA s) (aF u adK adV) s s.heap := by
  have hs := flat_of_before _ hgv
  have hA : ∀ a : Nat, a < s.heap.size → ¬ AA s a := fun a h => Nat.not_le.mpr h
  obtain ⟨adK, adV, h1, h2⟩ := vk_Sof (args := args) (s := s) (N := 8) (tm := sxT) (len := sxLen) (byt := sxByt) (A := AA s) sx_ln (fun i hi => hs _ (sx_ex i hi)) (fun i hi => hs _ (sx_co i hi)) (fun i hi => hs _ (sx_ar i hi)) (fun i hi => hs _ (sx_le i hi)) (fun i hi j hj => hs _ (sx_el i hi j hj)) (fun i j hi hj hij => (sx_ne i hi j hj hij).elim (fun z => Or.inl (hs _ z)) (fun z => Or.inr (hs _ z))) hA
  refine ⟨adK, adV, fun u => ⟨⟨fun i hi => ?_, fun i j hi hj e => ?_⟩, fun i hi => ?_, ?_, ?_, ?_⟩⟩
  · dsimp only
    rw [aF_K u adK adV hi, aF_V u adK adV hi]
    exact h1.1 i hi
  · dsimp only at e
    rw [aF_K u adK adV hi, aF_K u adK adV hj] at e
    exact h1.2 i j hi hj e
  · rw [aF_K u adK adV hi]
    exact vk_R.of (hts _ (lw_t _ (sx_sr i hi))) (h2 i hi)
  · exact va_Zof (args := args) (hts _ (lw_t 977 (by decide +kernel))) (hts _ (lw_t 10 (by decide +kernel))) (Cond.eq_int (n := 1) (hs (Cond.eq (.static "java/lang/String" "COMPACT_STRINGS" "Z") (.int 1)) (by decide +kernel)) rfl) hA
  · exact fun q hq => va_Nw.of rfl (hts _ (tab_mem nf_tab hq))
  · exact va_Zqof (args := args) (hts _ (lw_t 993 (by decide +kernel))) (hts _ (lw_t 12 (by decide +kernel))) (hs (Cond.isRef (.static "jdk/internal/util/Preconditions" "SIOOBE_FORMATTER" "Ljava/util/function/BiFunction;")) (by decide +kernel)) hA
theorem start_EX {s : State} {args : Array Value} (hts : ∀ w ∈ lw_tbl, w.before args s = true) (hgv : gnC.before args s = true) : EX (AA s) s s.heap := by
  have hs := flat_of_before _ hgv
  have hA : ∀ a : Nat, a < s.heap.size → ¬ AA s a := fun a h => Nat.not_le.mpr h
  refine ⟨vx_Zqof (args := args) (hts _ (lw_t 681 (by decide +kernel))) (hts _ (lw_t 14 (by decide +kernel))) (hs (Cond.isRef (.static Bundle.tN "UNASSIGNED_STACK" Bundle.steD)) (by decide +kernel)) hA, vx_Zqof (args := args) (hts _ (lw_t 683 (by decide +kernel))) (hts _ (lw_t 14 (by decide +kernel))) (hs (Cond.isRef (.static Bundle.tN "SUPPRESSED_SENTINEL" Bundle.listD)) (by decide +kernel)) hA, fun x hx => ?_, va_Nw.of rfl (hts _ (lw_t 656 (by decide +kernel)))⟩
  rcases List.mem_cons.mp hx with rfl | hx
  · exact va_Nw.of rfl (hts _ (lw_t 658 (by decide +kernel)))
  · rcases List.mem_cons.mp hx with rfl | hx
    · exact va_Nw.of rfl (hts _ (lw_t 660 (by decide +kernel)))
    · rcases List.mem_cons.mp hx with rfl | hx
      · exact va_Nw.of rfl (hts _ (lw_t 662 (by decide +kernel)))
      · nomatch hx
theorem arr_K {s : State} {args : Array Value} {ty : FieldType} (h : (Cond.arrayClass ty).before args s = true) : ∃ cA : ClassId, ArrOfT s cA ty ∧ s.vm.findClass ("[" ++ ty.toString) = some cA := by
  obtain ⟨cA, kA, comp, h1, h2, h3⟩ := Cond.arrayClass_spec h
  exact ⟨cA, fun n z => ⟨fun k h => (by cases h), kA, h2, comp, h3⟩, h1⟩
theorem start_K {s : State} {args : Array Value} (hts : ∀ w ∈ lw_tbl, w.before args s = true) : ∃ (D : va_G) (cy : Nat → ClassId), va_K D vwCl (tyL cy) s := by
  have htsU : ∀ w ∈ UU, w.before args s = true := fun w hw => hts w (uu_lw hw)
  obtain ⟨c0, i0, k0⟩ := u_known (C := RX0) (T := TX0) (N := 3) (n := 3) htsU inU0 (hts _ (lw_t 31 (by decide +kernel)))
  obtain ⟨c1, i1, k1⟩ := u_known (C := RX1) (T := TX1) (N := 3) (n := 3) htsU inU1 (hts _ (lw_t 128 (by decide +kernel)))
  obtain ⟨c2, i2, k2⟩ := u_known (C := RX2) (T := TX2) (N := 6) (n := 6) htsU inU2 (hts _ (lw_t 52 (by decide +kernel)))
  obtain ⟨c3, i3, k3⟩ := u_known (C := RX3) (T := TX3) (N := 2) (n := 2) htsU inU3 (hts _ (lw_t 96 (by decide +kernel)))
  obtain ⟨c4, i4, k4⟩ := u_known (C := RX4) (T := TX4) (N := 3) (n := 3) htsU inU4 (hts _ (lw_t 80 (by decide +kernel)))
  obtain ⟨c5, i5, k5⟩ := u_known (C := RX5) (T := TX5) (N := 2) (n := 2) htsU inU5 (hts _ (lw_t 111 (by decide +kernel)))
  obtain ⟨c6, i6, k6⟩ := u_known (C := RX6) (T := TX6) (N := 12) (n := 12) htsU inU6 (hts _ (lw_t 22 (by decide +kernel)))
  obtain ⟨c7, i7, k7⟩ := u_known (C := RX7) (T := TX7) (N := 27) (n := 27) htsU inU7 (hts _ (lw_t 748 (by decide +kernel)))
  obtain ⟨a0, r0, n0⟩ := arr_K (hts (.arrayClass .int) (lw_t 50 (by decide +kernel)))
  obtain ⟨a1, r1, n1⟩ := arr_K (hts (.arrayClass .long) (lw_t 109 (by decide +kernel)))
  obtain ⟨a2, r2, n2⟩ := arr_K (hts (.arrayClass .char) (lw_t 126 (by decide +kernel)))
  obtain ⟨a3, r3, n3⟩ := arr_K (hts (.arrayClass .boolean) (lw_t 144 (by decide +kernel)))
  refine ⟨(fun k => [c0, c1, c2, c3, c4, c5, c6, c7].getD k c0, fun k => [i0, i1, i2, i3, i4, i5, i6, i7].getD k i0), fun k => [a0, a1, a2, a3].getD k a0, fun k q hq => ?_, fun k q hq => ?_⟩
  · match k, hq with
    | 0, hq => cases hq; exact k0
    | 1, hq => cases hq; exact k1
    | 2, hq => cases hq; exact k2
    | 3, hq => cases hq; exact k3
    | 4, hq => cases hq; exact k4
    | 5, hq => cases hq; exact k5
    | 6, hq => cases hq; exact k6
    | 7, hq => cases hq; exact k7
    | k + 8, hq => exact absurd hq (by intro z; cases z)
  · match k, hq with
    | 0, hq => cases hq; exact ⟨r0, n0⟩
    | 1, hq => cases hq; exact ⟨r1, n1⟩
    | 2, hq => cases hq; exact ⟨r2, n2⟩
    | 3, hq => cases hq; exact ⟨r3, n3⟩
    | k + 4, hq => exact absurd hq (by intro z; cases z)
theorem ini6_blind {D : va_G} {cy : Nat → ClassId} {ws : va_W} {sz : Nat} {av : List Value} : FrameBlind (va_Pc av (fun U => U.heap.size = sz ∧ va_P D vwCl ws U.heap ∧ va_K D vwCl (tyL cy) U ∧ va_D (fun _ => True) ws ∧ (∀ q ∈ nestM, va_Nw (.methodLinkNest q.1 q.2.1 q.2.2 "QuotientFile") U))) := by
  intro a' U g mk q
  obtain ⟨q0, q1, qP, qK, qD, qN⟩ := q
  exact ⟨q0, q1, qP, va_K.moved (u := U) (U := U.calling g mk a') (Vm.Alike.refl U.vm) qK, qD, fun q hq => va_Nw.same (u := U) (U := U.calling g mk a') rfl rfl (qN q hq)⟩
set_option maxHeartbeats 4000000 in
set_option maxRecDepth 100000 in
/-- from the entry, for every script of at most 2560 ints, the law comes to its end with true -/
theorem whole_start {p : Program} {e : Env} {s : State} {m : MethodId} {below : List Frame} {meth : Method} {c : Code} (l : Launch) (hflags : l.flags = flags0) {b L : Nat} {xs : Nat → Int32} (hL : L ≤ 2560) (C0 : lw_At p s m meth c b L xs) : W p l e room_1 s m #[Value.ref b] below meth c s.heap [] 0 0 (lw_Z below #[Value.ref b] s) (entryFrame m ([Value.ref b] : List Value).toArray 8) := by
  obtain ⟨hx, hb, hr, hml, hown, hts, hX, hbl, hlocks, hgv⟩ := id C0
  have hown : s.vm.findClass RL = some m.cls := hown
  have htsU : ∀ w ∈ UU, w.before #[Value.ref b] s = true := fun w hw => hts w (uu_lw hw)
  have htr : l.stackTraces = false := by
    unfold Launch.stackTraces
    rw [hflags]
    decide
  obtain ⟨D, cy, hK⟩ := start_K hts
  obtain ⟨adK, adV, hSX⟩ := start_SX hts hgv
  have hEX := start_EX hts hgv
  have hN : ∀ q ∈ nestM, va_Nw (.methodLinkNest q.1 q.2.1 q.2.2 "QuotientFile") s := fun q hq => va_Nw.of rfl (hts _ (tab_mem nm_tab hq))
  have hA : ∀ q : Nat, s.heap.size ≤ q → AA s q := fun _ h => h
  have hS : va_S (AA s) s.heap s.heap [] := va_S.rf
  have hP : va_P D vwCl [] s.heap := fun k q h => by cases h
  have hD : va_D (AA s) [] := ⟨(fun i j p q h => by cases h), (fun k q h => by cases h)⟩
  have hl := lv_entry ([.ref b]) (n := 8) (Nat.le_of_ble_eq_true rfl)
  rw [lg_entry_eq]
  generalize (lg_sl ([.ref b]) ++ List.replicate (8 - (lg_sl ([.ref b])).length) Slot.unset).toArray = ls at hl ⊢
  have hl : lv_has ls 8 [(0, .ref b)] := hl
  refine va_new (ci := 6) (fs := [.int 0, .int 0, .int 0, .null, .null, .null, .null, .null, .null, .null, .null, .null]) (C := RX6) (T := TX6) (N := 12) hx hb htsU inU6 tyX6 tyX6_ok hown (htsU _ (uu_t 21 (by decide +kernel) rfl)) (htsU _ (uu_t 22 (by decide +kernel) rfl)) (htsU _ (uu_t 1 (by decide +kernel) rfl)) hK hP hD hS hA rfl (fun j hj => by rcases (show j = 0 ∨ j = 1 ∨ j = 2 ∨ j = 3 ∨ j = 4 ∨ j = 5 ∨ j = 6 ∨ j = 7 ∨ j = 8 ∨ j = 9 ∨ j = 10 ∨ j = 11 by omega) with rfl | rfl | rfl | rfl | rfl | rfl | rfl | rfl | rfl | rfl | rfl | rfl <;> rfl) (Nat.le_of_ble_eq_true rfl) (Nat.le_of_ble_eq_true rfl) dL_law_0 (fun q0 H hP hD hS => ?_)
  have hP : va_P D vwCl ([(q0, .inr (6, [.int 0, .int 0, .int 0, .null, .null, .null, .null, .null, .null, .null, .null, .null]))] ++ []) H := hP
  have hD : va_D (AA s) ([(q0, .inr (6, [.int 0, .int 0, .int 0, .null, .null, .null, .null, .null, .null, .null, .null, .null]))] ++ []) := hD
  refine W.widen (k := 1) (n := 12) (Nat.le_refl _) (Nat.le_refl _) ?_
  refine lv_dup hx hb dL_law_3 rfl ?_
  have hFc := fr_l hD hS hA
  have hPc := pa_l hP
  have hDc := da_l hD
  refine va_callv (va_runI (As := []) (rest := [.ref q0]) ⟨hx, hb, hml, hown, htsU⟩ (c_X6_init l D cy q0 H.size) ⟨callB_of 0 htsU (uu_good (uu_t 25 (by decide +kernel) rfl)) rfl rfl rfl (htsU _ (uu_t 1 (by decide +kernel) rfl)) (htsU _ (uu_t 23 (by decide +kernel) rfl)) ⟨by decide +kernel, by decide +kernel, by decide +kernel⟩ ⟨Nat.le_of_ble_eq_true rfl, Nat.le_of_ble_eq_true rfl⟩, rfl, htsU _ (uu_t 24 (by decide +kernel) rfl)⟩ ⟨ini6_blind, fun U hU hW => ⟨rfl, by rw [hU], by rw [hU]; exact hPc, va_K.moved hW.alike hK, hDc.weaken (fun _ _ _ _ => trivial), fun q hq => va_Nw.warmM hW (hN q hq)⟩⟩ rfl rfl hl.1 rfl (lv_room (Nat.le_of_ble_eq_true rfl)) dL_law_4 ⟨Nat.le_of_ble_eq_true rfl, Nat.le_of_ble_eq_true rfl⟩) hS (fun q _ h => hFc q h) hFc (fun u t H1 locs ht hvm hu hB hz1 hk1 hS => ?_)
  obtain ⟨hP1, hK1, hD1⟩ := hB
  rw [ht] at hP1
  have h0 := hu.2
  subst h0
  obtain ⟨hP, hD⟩ := jn hP hD hk1 hFc hP1 hD1
  generalize H1 = H at hP hS ⊢
  refine W.widen (k := 25) (n := 1051) (Nat.le_refl _) (Nat.le_refl _) ?_
  refine lv_astore_n (lv' := [(1, .ref (u 0)), (0, .ref b)]) hx hb dL_law_7 rfl hl (by decide) rfl (fun ls hl => ?_)
  rw [List.append_nil] at hP hD
  refine va_new (ci := 7) (fs := [.int 0, .int 0, .null, .null, .int 0, .int 0, .int 0, .int 0, .int 0, .int 0, .null, .null, .null, .null, .null, .null, .null, .null, .null, .null, .null, .int 0, .null, .int 0, .int 0, .null, .null]) (C := RX7) (T := TX7) (N := 27) hx hb htsU inU7 tyX7 tyX7_ok hown (htsU _ (uu_t 747 (by decide +kernel) rfl)) (htsU _ (uu_t 748 (by decide +kernel) rfl)) (htsU _ (uu_t 8 (by decide +kernel) rfl)) hK hP hD hS hA rfl (fun j hj => by rcases (show j = 0 ∨ j = 1 ∨ j = 2 ∨ j = 3 ∨ j = 4 ∨ j = 5 ∨ j = 6 ∨ j = 7 ∨ j = 8 ∨ j = 9 ∨ j = 10 ∨ j = 11 ∨ j = 12 ∨ j = 13 ∨ j = 14 ∨ j = 15 ∨ j = 16 ∨ j = 17 ∨ j = 18 ∨ j = 19 ∨ j = 20 ∨ j = 21 ∨ j = 22 ∨ j = 23 ∨ j = 24 ∨ j = 25 ∨ j = 26 by omega) with rfl | rfl | rfl | rfl | rfl | rfl | rfl | rfl | rfl | rfl | rfl | rfl | rfl | rfl | rfl | rfl | rfl | rfl | rfl | rfl | rfl | rfl | rfl | rfl | rfl | rfl | rfl <;> rfl) (Nat.le_of_ble_eq_true rfl) (Nat.le_of_ble_eq_true rfl) dL_law_8 (fun q1 H hP hD hS => ?_)
  refine W.widen (k := 26) (n := 1078) (Nat.le_refl _) (Nat.le_refl _) ?_
  refine lv_dup hx hb dL_law_11 rfl ?_
  have hP := pa_sw hP
  have hD := da_sw hD
  have hFc := fr_l hD hS hA
  have hPc := pa_l hP
  have hDc := da_l hD
  refine va_callv (va_runI (As := []) (rest := [.ref q1]) ⟨hx, hb, hml, hown, htsU⟩ (c_X7_init l D cy q1 H.size) ⟨callB_of 0 htsU (uu_good (uu_t 751 (by decide +kernel) rfl)) rfl rfl rfl (htsU _ (uu_t 8 (by decide +kernel) rfl)) (htsU _ (uu_t 749 (by decide +kernel) rfl)) ⟨by decide +kernel, by decide +kernel, by decide +kernel⟩ ⟨Nat.le_of_ble_eq_true rfl, Nat.le_of_ble_eq_true rfl⟩, rfl, htsU _ (uu_t 750 (by decide +kernel) rfl)⟩ ⟨ini_blind, fun U hU hW => ⟨rfl, by rw [hU], by rw [hU]; exact hPc, va_K.moved hW.alike hK, hDc.weaken (fun _ _ _ _ => trivial)⟩⟩ rfl rfl hl.1 rfl (lv_room (Nat.le_of_ble_eq_true rfl)) dL_law_12 ⟨Nat.le_of_ble_eq_true rfl, Nat.le_of_ble_eq_true rfl⟩) hS (fun q _ h => hFc q h) hFc (fun v t H1 locs ht hvm hv hB hz1 hk1 hS => ?_)
  obtain ⟨hP1, hK1, hD1⟩ := hB
  rw [ht] at hP1
  have h0 := hv.2
  subst h0
  obtain ⟨hP, hD⟩ := jn hP hD hk1 hFc hP1 hD1
  generalize H1 = H at hP hS ⊢
  have hP := pa_sw hP
  have hD := da_sw hD
  refine W.widen (k := 42) (n := 2074) (Nat.le_refl _) (Nat.le_refl _) ?_
  refine lv_astore_n (lv' := [(2, .ref (v 0)), (1, .ref (u 0)), (0, .ref b)]) hx hb dL_law_15 rfl hl (by decide) rfl (fun ls hl => ?_)
  refine lv_iconst (v := 1) hx hb dL_law_16 (by decide) ?_
  refine nw_arr (atype := .long) (ty := .long) (i := 1) (a0 := (1, .inr (.inl (fun _ => 0)))) hx hb (htsU _ (uu_t 109 (by decide +kernel) rfl)) rfl hK hP hD hS hA rfl (fun _ => rfl) (by decide) rfl (Nat.le_of_ble_eq_true rfl) (Nat.le_of_ble_eq_true rfl) (Nat.le_of_ble_eq_true rfl) dL_law_17 (fun o H hP hD hS => ?_)
  rw [List.append_assoc] at hP hD
  refine lv_astore_n (lv' := [(3, .ref o), (2, .ref (v 0)), (1, .ref (u 0)), (0, .ref b)]) hx hb dL_law_19 rfl hl (by decide) rfl (fun ls hl => ?_)
  refine lv_iconst (v := 0) hx hb dL_law_20 (by decide) ?_
  refine lv_istore (lv' := [(4, .int 0), (3, .ref o), (2, .ref (v 0)), (1, .ref (u 0)), (0, .ref b)]) hx hb dL_law_21 hl (by decide) rfl (fun ls hl => ?_)
  have hP : va_P D vwCl (wL cy (aF u adK adV) (aF v adK adV) o s0C s0M (fun _ => 0)) H := hP
  have hD : va_D (AA s) (wL cy (aF u adK adV) (aF v adK adV) o s0C s0M (fun _ => 0)) := hD
  exact law_loop (aC := aF u adK adV) (aM := aF v adK adV) ⟨C0, hL, htr, hK, hSX u, hSX v, hEX⟩ L 0 s0C s0M (fun _ => 0) H _ ls (by omega) (by omega) rel0 hP hD hS (lv_sub hl [4, 3, 2, 1, 0] rfl)
