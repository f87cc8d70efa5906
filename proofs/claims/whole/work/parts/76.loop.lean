/-! ===== the law's loop ===== -/
theorem and63 (x : Int32) : ∃ k, k < 64 ∧ x &&& 63 = nI k := by
  have hlt : (x &&& 63).toBitVec.toNat < 64 := by
    rw [Int32.toBitVec_and, BitVec.toNat_and]
    have : x.toBitVec.toNat &&& (63 : Int32).toBitVec.toNat ≤ (63 : Int32).toBitVec.toNat := Nat.and_le_right
    have e : (63 : Int32).toBitVec.toNat = 63 := rfl
    omega
  refine ⟨(x &&& 63).toBitVec.toNat, hlt, ?_⟩
  apply Int32.toBitVec_inj.mp
  apply BitVec.eq_of_toNat_eq
  rw [pk_tn (by omega)]
set_option maxHeartbeats 4000000 in
set_option maxRecDepth 100000 in
theorem law_body {p : Program} {l : Launch} {e : Env} {s : State} {m : MethodId} {below : List Frame} {meth : Method} {c : Code} {b L : Nat} {xs : Nat → Int32} {D : va_G} {cy : Nat → ClassId} {aC aM : Nat → Nat} {o i cells slots : Nat} (hLX : LX p l s m meth c b L xs D cy aC aM) (hi : i + 5 ≤ L) (hroom : cells + 1 ≤ 1069 ∧ slots + 6 ≤ 10279) (K : KK p l e s m below meth c b D cy aC aM o i cells slots) {σ τ : St} {g : Nat → Int64} {H : Heap} {locs : List Loc} {ls : Array Slot} (hrel : Rel σ τ) (hP : va_P D vwCl (wL cy aC aM o σ τ g) H) (hD : va_D (AA s) (wL cy aC aM o σ τ g)) (hS : va_S (AA s) s.heap H locs) (hl : lv_has ls 8 (LV b aC aM o i)) (x : Int32) : W p l e room_1 s m #[Value.ref b] below meth c H locs cells slots (lw_Z below #[Value.ref b] s) (F0 m 39 ls [.int (x &&& 63)]) := by
  obtain ⟨⟨hx, hb, hr, hml, hown, hts, hX, hbl, hlocks, hgv⟩, hL, htr, hK, hXC, hXM, hE⟩ := id hLX
  obtain ⟨k, hk, ek⟩ := and63 x
  rw [ek]
  rcases (show k = 0 ∨ k = 1 ∨ k = 2 ∨ k = 3 ∨ k = 4 ∨ k = 5 ∨ k = 6 ∨ k = 7 ∨ k = 8 ∨ k = 9 ∨ k = 10 ∨ k = 11 ∨ k = 12 ∨ k = 13 ∨ k = 14 ∨ k = 15 ∨ k = 16 ∨ k = 17 ∨ k = 18 ∨ k = 19 ∨ k = 20 ∨ k = 21 ∨ k = 22 ∨ k = 23 ∨ k = 24 ∨ k = 25 ∨ k = 26 ∨ k = 27 ∨ k = 28 ∨ k = 29 ∨ k = 30 ∨ k = 31 ∨ k = 32 ∨ k = 33 ∨ k = 34 ∨ k = 35 ∨ k = 36 ∨ 37 ≤ k by omega) with rfl | rfl | rfl | rfl | rfl | rfl | rfl | rfl | rfl | rfl | rfl | rfl | rfl | rfl | rfl | rfl | rfl | rfl | rfl | rfl | rfl | rfl | rfl | rfl | rfl | rfl | rfl | rfl | rfl | rfl | rfl | rfl | rfl | rfl | rfl | rfl | rfl | hk2
  · exact lv_tableIn (tgt := 200) (off := 161) hx hb dL_law_39 (by decide) (by decide) rfl (by decide) (law_c0 hLX hi hroom K hrel hP hD hS hl)
  · exact lv_tableIn (tgt := 237) (off := 198) hx hb dL_law_39 (by decide) (by decide) rfl (by decide) (law_c1 hLX hi hroom K hrel hP hD hS hl)
  · exact lv_tableIn (tgt := 262) (off := 223) hx hb dL_law_39 (by decide) (by decide) rfl (by decide) (law_c2 hLX hi hroom K hrel hP hD hS hl)
  · exact lv_tableIn (tgt := 299) (off := 260) hx hb dL_law_39 (by decide) (by decide) rfl (by decide) (law_c3 hLX hi hroom K hrel hP hD hS hl)
  · exact lv_tableIn (tgt := 336) (off := 297) hx hb dL_law_39 (by decide) (by decide) rfl (by decide) (law_c4 hLX hi hroom K hrel hP hD hS hl)
  · exact lv_tableIn (tgt := 373) (off := 334) hx hb dL_law_39 (by decide) (by decide) rfl (by decide) (law_c5 hLX hi hroom K hrel hP hD hS hl)
  · exact lv_tableIn (tgt := 410) (off := 371) hx hb dL_law_39 (by decide) (by decide) rfl (by decide) (law_c6 hLX hi hroom K hrel hP hD hS hl)
  · exact lv_tableIn (tgt := 435) (off := 396) hx hb dL_law_39 (by decide) (by decide) rfl (by decide) (law_c7 hLX hi hroom K hrel hP hD hS hl)
  · exact lv_tableIn (tgt := 460) (off := 421) hx hb dL_law_39 (by decide) (by decide) rfl (by decide) (law_c8 hLX hi hroom K hrel hP hD hS hl)
  · exact lv_tableIn (tgt := 485) (off := 446) hx hb dL_law_39 (by decide) (by decide) rfl (by decide) (law_c9 hLX hi hroom K hrel hP hD hS hl)
  · exact lv_tableIn (tgt := 522) (off := 483) hx hb dL_law_39 (by decide) (by decide) rfl (by decide) (law_c10 hLX hi hroom K hrel hP hD hS hl)
  · exact lv_tableIn (tgt := 589) (off := 550) hx hb dL_law_39 (by decide) (by decide) rfl (by decide) (law_c11 hLX hi hroom K hrel hP hD hS hl)
  · exact lv_tableIn (tgt := 614) (off := 575) hx hb dL_law_39 (by decide) (by decide) rfl (by decide) (law_c12 hLX hi hroom K hrel hP hD hS hl)
  · exact lv_tableIn (tgt := 675) (off := 636) hx hb dL_law_39 (by decide) (by decide) rfl (by decide) (law_c13 hLX hi hroom K hrel hP hD hS hl)
  · exact lv_tableIn (tgt := 712) (off := 673) hx hb dL_law_39 (by decide) (by decide) rfl (by decide) (law_c14 hLX hi hroom K hrel hP hD hS hl)
  · exact lv_tableIn (tgt := 749) (off := 710) hx hb dL_law_39 (by decide) (by decide) rfl (by decide) (law_c15 hLX hi hroom K hrel hP hD hS hl)
  · exact lv_tableIn (tgt := 774) (off := 735) hx hb dL_law_39 (by decide) (by decide) rfl (by decide) (law_c16 hLX hi hroom K hrel hP hD hS hl)
  · exact lv_tableIn (tgt := 811) (off := 772) hx hb dL_law_39 (by decide) (by decide) rfl (by decide) (law_c17 hLX hi hroom K hrel hP hD hS hl)
  · exact lv_tableIn (tgt := 836) (off := 797) hx hb dL_law_39 (by decide) (by decide) rfl (by decide) (law_c18 hLX hi hroom K hrel hP hD hS hl)
  · exact lv_tableIn (tgt := 873) (off := 834) hx hb dL_law_39 (by decide) (by decide) rfl (by decide) (law_c19 hLX hi hroom K hrel hP hD hS hl)
  · exact lv_tableIn (tgt := 898) (off := 859) hx hb dL_law_39 (by decide) (by decide) rfl (by decide) (law_c20 hLX hi hroom K hrel hP hD hS hl)
  · exact lv_tableIn (tgt := 947) (off := 908) hx hb dL_law_39 (by decide) (by decide) rfl (by decide) (law_c21 hLX hi hroom K hrel hP hD hS hl)
  · exact lv_tableIn (tgt := 984) (off := 945) hx hb dL_law_39 (by decide) (by decide) rfl (by decide) (law_c22 hLX hi hroom K hrel hP hD hS hl)
  · exact lv_tableIn (tgt := 1009) (off := 970) hx hb dL_law_39 (by decide) (by decide) rfl (by decide) (law_c23 hLX hi hroom K hrel hP hD hS hl)
  · exact lv_tableIn (tgt := 1034) (off := 995) hx hb dL_law_39 (by decide) (by decide) rfl (by decide) (law_c24 hLX hi hroom K hrel hP hD hS hl)
  · exact lv_tableIn (tgt := 1059) (off := 1020) hx hb dL_law_39 (by decide) (by decide) rfl (by decide) (law_c25 hLX hi hroom K hrel hP hD hS hl)
  · exact lv_tableIn (tgt := 1072) (off := 1033) hx hb dL_law_39 (by decide) (by decide) rfl (by decide) (law_c26 hLX hi hroom K hrel hP hD hS hl)
  · exact lv_tableIn (tgt := 1097) (off := 1058) hx hb dL_law_39 (by decide) (by decide) rfl (by decide) (law_c27 hLX hi hroom K hrel hP hD hS hl)
  · exact lv_tableIn (tgt := 1122) (off := 1083) hx hb dL_law_39 (by decide) (by decide) rfl (by decide) (law_c28 hLX hi hroom K hrel hP hD hS hl)
  · exact lv_tableIn (tgt := 1147) (off := 1108) hx hb dL_law_39 (by decide) (by decide) rfl (by decide) (law_c29 hLX hi hroom K hrel hP hD hS hl)
  · exact lv_tableIn (tgt := 1188) (off := 1149) hx hb dL_law_39 (by decide) (by decide) rfl (by decide) (law_c30 hLX hi hroom K hrel hP hD hS hl)
  · exact lv_tableIn (tgt := 1213) (off := 1174) hx hb dL_law_39 (by decide) (by decide) rfl (by decide) (law_c31 hLX hi hroom K hrel hP hD hS hl)
  · exact lv_tableIn (tgt := 1226) (off := 1187) hx hb dL_law_39 (by decide) (by decide) rfl (by decide) (law_c32 hLX hi hroom K hrel hP hD hS hl)
  · exact lv_tableIn (tgt := 1251) (off := 1212) hx hb dL_law_39 (by decide) (by decide) rfl (by decide) (law_c33 hLX hi hroom K hrel hP hD hS hl)
  · exact lv_tableIn (tgt := 1288) (off := 1249) hx hb dL_law_39 (by decide) (by decide) rfl (by decide) (law_c34 hLX hi hroom K hrel hP hD hS hl)
  · exact lv_tableIn (tgt := 1313) (off := 1274) hx hb dL_law_39 (by decide) (by decide) rfl (by decide) (law_c35 hLX hi hroom K hrel hP hD hS hl)
  · exact lv_tableIn (tgt := 1338) (off := 1299) hx hb dL_law_39 (by decide) (by decide) rfl (by decide) (law_c36 hLX hi hroom K hrel hP hD hS hl)
  · refine lv_tableOut (tgt := 1393) hx hb dL_law_39 (Or.inr ?_) (by decide) ?_
    · rw [nI_toInt (by omega)]; omega
    · exact W.widen (k := cells + 1) (n := slots + 6) (by omega) (by omega) (K _ _ _ _ _ _ hrel hP hD hS hl)
set_option maxHeartbeats 4000000 in
set_option maxRecDepth 100000 in
theorem law_loop {p : Program} {l : Launch} {e : Env} {s : State} {m : MethodId} {below : List Frame} {meth : Method} {c : Code} {b L : Nat} {xs : Nat → Int32} {D : va_G} {cy : Nat → ClassId} {aC aM : Nat → Nat} {o : Nat} (hLX : LX p l s m meth c b L xs D cy aC aM) : ∀ (n j : Nat) (σ τ : St) (g : Nat → Int64) (H : Heap) (locs : List Loc) (ls : Array Slot), L ≤ 5 * j + n → 5 * j ≤ L + 4 → Rel σ τ → va_P D vwCl (wL cy aC aM o σ τ g) H → va_D (AA s) (wL cy aC aM o σ τ g) → va_S (AA s) s.heap H locs → lv_has ls 8 (LV b aC aM o (5 * j)) → W p l e room_1 s m #[Value.ref b] below meth c H locs (43 + j) (2075 + 6 * j) (lw_Z below #[Value.ref b] s) (F0 m 23 ls []) := by
  obtain ⟨⟨hx, hb, hr, hml, hown, hts, hX, hbl, hlocks, hgv⟩, hL, htr, hK, hXC, hXM, hE⟩ := id hLX
  have hbA : ¬ AA s b := Nat.not_le.mpr hbl
  intro n
  induction n with
  | zero =>
    intro j σ τ g H locs ls hn hj hrel hP hD hS hl
    refine lv_iload hx hb dL_law_23 (lv_at hl 4 rfl) ?_
    refine lv_aload_n hx hb dL_law_25 rfl (lv_at hl 0 rfl) ?_
    refine va_slen hx hb hX hbl hbA hS dL_law_26 ?_
    refine lv_iconst (v := 5) hx hb dL_law_27 (by decide) ?_
    refine lv_isub hx hb dL_law_28 ?_
    refine lv_icmp_gt (tgt := 1399) hx hb dL_law_29 (by decide) (fun _ => ?_) (fun q => ?_)
    · refine lv_iconst (v := 1) hx hb dL_law_1399 (by decide) ?_
      refine va_forget (fun q hq => hS.2.2 q hq) ?_
      refine W.widen (k := 1069) (n := 10279) (by omega) (by omega) ?_
      refine W.base ?_
      exact lw_ret (Drawn.sameBut.refl s.drawn lw_cs) hx hb hr hlocks dL_law_1400
    · exfalso
      refine q ?_
      show nI L - nI 5 < nI (5 * j)
      rw [Int32.lt_iff_toInt_lt, sub_toInt (by omega) (by omega), nI_toInt (by omega)]
      omega
  | succ n ih =>
    intro j σ τ g H locs ls hn hj hrel hP hD hS hl
    refine lv_iload hx hb dL_law_23 (lv_at hl 4 rfl) ?_
    refine lv_aload_n hx hb dL_law_25 rfl (lv_at hl 0 rfl) ?_
    refine va_slen hx hb hX hbl hbA hS dL_law_26 ?_
    refine lv_iconst (v := 5) hx hb dL_law_27 (by decide) ?_
    refine lv_isub hx hb dL_law_28 ?_
    refine lv_icmp_gt (tgt := 1399) hx hb dL_law_29 (by decide) (fun _ => ?_) (fun q => ?_)
    · refine lv_iconst (v := 1) hx hb dL_law_1399 (by decide) ?_
      refine va_forget (fun q hq => hS.2.2 q hq) ?_
      refine W.widen (k := 1069) (n := 10279) (by omega) (by omega) ?_
      refine W.base ?_
      exact lw_ret (Drawn.sameBut.refl s.drawn lw_cs) hx hb hr hlocks dL_law_1400
    · have hlt : 5 * j + 5 ≤ L := by
        rcases Nat.lt_or_ge L (5 * j + 5) with z | z
        · exfalso
          refine q ?_
          show nI L - nI 5 < nI (5 * j)
          rw [Int32.lt_iff_toInt_lt, sub_toInt (by omega) (by omega), nI_toInt (by omega)]
          omega
        · exact z
      refine lv_aload_n hx hb dL_law_32 rfl (lv_at hl 0 rfl) ?_
      refine lv_iload hx hb dL_law_33 (lv_at hl 4 rfl) ?_
      refine va_sld hx hb hX hbl hbA hS (vp_in_nI (by omega) (by omega)) dL_law_35 ?_
      refine lv_bipush (v := 63) hx hb dL_law_36 (by decide) ?_
      refine lv_iand hx hb dL_law_38 ?_
      refine law_body hLX hlt ⟨by omega, by omega⟩ (fun σ' τ' g' H' locs' ls' hrel' hP' hD' hS' hl' => ?_) hrel hP hD hS hl _
      refine lv_iinc (v := nI (5 * (j + 1))) (lv' := (4, .int (nI (5 * (j + 1)))) :: [(0, .ref b), (1, .ref (aC 0)), (2, .ref (aM 0)), (3, .ref o)]) hx hb dL_law_1393 hl' (k := 4) rfl ?_ (by decide) rfl (fun ls hl => ?_)
      · show nI (5 * j) + nI 5 = nI (5 * (j + 1))
        rw [nI_add]
        rfl
      · refine lv_goto (tgt := 23) hx hb dL_law_1396 (by decide) ?_
        exact ih (j + 1) σ' τ' g' H' locs' ls (by omega) (by omega) hrel' hP' hD' hS' (lv_sub hl [1, 2, 3, 4, 0] rfl)
