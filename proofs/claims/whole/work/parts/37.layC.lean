/-! how prints lie: the class's layout -/
theorem nI_or (a b : Nat) : nI a ||| nI b = nI (a ||| b) := by
  apply Int32.toBitVec_inj.mp
  show BitVec.ofNat 32 a ||| BitVec.ofNat 32 b = BitVec.ofNat 32 (a ||| b)
  apply BitVec.eq_of_toNat_eq
  rw [BitVec.toNat_or, BitVec.toNat_ofNat, BitVec.toNat_ofNat, BitVec.toNat_ofNat, Nat.or_mod_two_pow]
theorem nI_and (a b : Nat) : nI a &&& nI b = nI (a &&& b) := by
  apply Int32.toBitVec_inj.mp
  show BitVec.ofNat 32 a &&& BitVec.ofNat 32 b = BitVec.ofNat 32 (a &&& b)
  apply BitVec.eq_of_toNat_eq
  rw [BitVec.toNat_and, BitVec.toNat_ofNat, BitVec.toNat_ofNat, BitVec.toNat_ofNat, Nat.and_mod_two_pow]
theorem or_e (m : Nat) {a : Nat} (h : a < 2) : 2 * m ||| a = 2 * m + a := by
  have := Nat.two_pow_add_eq_or_of_lt (i := 1) (b := a) (by omega) m
  rw [show 2 ^ 1 = 2 from rfl] at this
  exact this.symm
theorem or_1 {a m : Nat} (h : a = 0 ∨ a = 1) : (a + 2 * m) ||| 1 = 1 + 2 * m := by
  rcases h with rfl | rfl
  · rw [Nat.zero_add, or_e m (by omega)]; omega
  · rw [show 1 + 2 * m = 2 * m + 1 by omega, ← or_e m (by omega), Nat.or_assoc, Nat.or_self]
theorem or_b {a m : Nat} (h : a = 0 ∨ a = 1) : a ||| (2 * m) = a + 2 * m := by
  rw [Nat.or_comm, or_e m (by omega)]; omega
theorem or_fl {c s r : Nat} (hc : c = 0 ∨ c = 1) (hs : s = 0 ∨ s = 1) : (2 * c ||| 4 * s) ||| 8 * r = 2 * c + 4 * s + 8 * r := by
  have e1 : 2 * c ||| 4 * s = 2 * c + 4 * s := by rcases hc with rfl | rfl <;> rcases hs with rfl | rfl <;> rfl
  have := Nat.two_pow_add_eq_or_of_lt (i := 3) (b := 2 * c + 4 * s) (by omega) r
  rw [show 2 ^ 3 = 8 from rfl] at this
  rw [e1, Nat.or_comm, ← this]
  omega
theorem ix_new {h : Nat → Nat} {N n i : Nat} (hl : HL h N n) (hi : i < n) : ix (sl h N n) i (sl h N n i) = 0 := by
  rcases Nat.eq_zero_or_pos (ix (sl h N n) i (sl h N n i)) with z | z
  · exact z
  · have a := ix_own _ _ _ z
    have b := ix_le (sl h N n) (sl h N n i) i
    have := sl_inj hl (by omega) hi a
    omega
theorem ow_even (h : Nat → Nat) (N n : Nat) (rm : Nat → Nat) (j : Nat) : ∃ m, ow (fun i => 2 * ct h i + 4 * sf h N n i + 8 * rm i) j = 2 * m := by
  unfold ow
  by_cases c : j = 0
  · rw [if_pos c]; exact ⟨0, rfl⟩
  · rw [if_neg c]
    refine ⟨ct h (j - 1) + 2 * sf h N n (j - 1) + 4 * rm (j - 1), ?_⟩
    show 2 * ct h (j - 1) + 4 * sf h N n (j - 1) + 8 * rm (j - 1) = _
    omega
theorem cl_step {h : Nat → Nat} {N n i : Nat} (hl : HL h N n) (rm : Nat → Nat) (hi : i < n) (s : Nat) : cl h N n rm (i + 1) s = if s = sl h N n i then (if s = h i then cl h N n rm i s ||| 1 else cl h N n rm i s) ||| (2 * ct h i + 4 * sf h N n i + 8 * rm i) else if s = h i then cl h N n rm i s ||| 1 else cl h N n rm i s := by
  have o01 := oc_01 h s i
  have e0 : cl h N n rm (i + 1) s = (if h i = s then 1 else oc h i s) + ow (fun j => 2 * ct h j + 4 * sf h N n j + 8 * rm j) (if sl h N n i = s then i + 1 else ix (sl h N n) i s) := rfl
  have e1 : cl h N n rm i s = oc h i s + ow (fun j => 2 * ct h j + 4 * sf h N n j + 8 * rm j) (ix (sl h N n) i s) := rfl
  obtain ⟨m, em⟩ := ow_even h N n rm (ix (sl h N n) i s)
  have e3 : cl h N n rm i s ||| 1 = 1 + ow (fun j => 2 * ct h j + 4 * sf h N n j + 8 * rm j) (ix (sl h N n) i s) := by
    rw [e1, em, or_1 o01]
  by_cases z : s = sl h N n i
  · have z' : sl h N n i = s := z.symm
    have hz : ix (sl h N n) i s = 0 := by rw [z]; exact ix_new hl hi
    have ez : ow (fun j => 2 * ct h j + 4 * sf h N n j + 8 * rm j) (ix (sl h N n) i s) = 0 := by rw [hz]; rfl
    have ew : ow (fun j => 2 * ct h j + 4 * sf h N n j + 8 * rm j) (i + 1) = 2 * ct h i + 4 * sf h N n i + 8 * rm i := rfl
    rw [if_pos z, e0, if_pos z', ew, e3, e1, ez, show 2 * ct h i + 4 * sf h N n i + 8 * rm i = 2 * (ct h i + 2 * sf h N n i + 4 * rm i) by omega]
    by_cases y : s = h i
    · have y' : h i = s := y.symm
      rw [if_pos y, if_pos y', Nat.add_zero, or_b (Or.inr rfl)]
    · have y' : ¬ h i = s := fun x => y x.symm
      rw [if_neg y, if_neg y', Nat.add_zero, or_b o01]
  · have z' : ¬ sl h N n i = s := fun x => z x.symm
    rw [if_neg z, e0, if_neg z', e3, e1]
    by_cases y : s = h i
    · have y' : h i = s := y.symm
      rw [if_pos y, if_pos y']
    · have y' : ¬ h i = s := fun x => y x.symm
      rw [if_neg y, if_neg y']
theorem mask_N {v q : Nat} (hv : v < 2 ^ 31) (hq : q < 31) : nI v &&& (nI (2 ^ q) - 1) = nI (v % 2 ^ q) := by
  rw [← sh_1 q hq]
  exact mask_r hv hq
theorem nx_le {h : Nat → Nat} {N n : Nat} (hl : HL h N n) (c : Nat) : ∀ i, i ≤ n → nx h c i ≤ max c N + i := by
  intro i
  induction i with
  | zero => intro _; simp only [nx]; omega
  | succ i ih =>
    intro hi
    have := ih (by omega)
    have := hl.1 i (by omega)
    simp only [nx]
    omega
theorem nI_max {a b : Nat} (ha : a < 2 ^ 31) (hb : b < 2 ^ 31) : (if nI a < nI b then nI b else nI a) = nI (max a b) := by
  by_cases c : a < b
  · rw [if_pos (Lt2 a b), show max a b = b by omega]
  · rw [if_neg (NLt2 a b), show max a b = a by omega]
abbrev hh (f : Nat → Nat) (r : Nat) : Nat → Nat := fun i => f i / 2 ^ r
abbrev rr (f : Nat → Nat) (r : Nat) : Nat → Nat := fun i => f i % 2 ^ r
theorem HL_of {f : Nat → Nat} {n q P : Nat} (hs : Srt f n) (hq : q ≤ P) (hn : n < 2 ^ q) (hP : ∀ i, i < n → f i < 2 ^ P) : HL (hh f (P - q)) (2 ^ q) n := by
  refine ⟨fun i hi => ?_, fun i j hij hj => Nat.div_le_div_right (hs i j hij hj), hn⟩
  show f i / 2 ^ (P - q) < 2 ^ q
  rw [Nat.div_lt_iff_lt_mul (Nat.pow_pos (by omega)), ← Nat.pow_add, show q + (P - q) = P by omega]
  exact hP i hi
def LY (σ : St) (c n q r : Nat) (f : Nat → Nat) : Prop := st_i σ (9 + 3 * c) = nI q ∧ st_i σ (10 + 3 * c) = nI (2 ^ q) ∧ st_i σ (11 + 3 * c) = nI r ∧ (∀ i, i < n → st_a σ (3 + 3 * c) i = nI (sl (hh f r) (2 ^ q) n i)) ∧ (∀ s, s < 2 ^ q → st_a σ (4 + 3 * c) s = nI (ix (sl (hh f r) (2 ^ q) n) n s) - 1) ∧ (∀ s, s < 2 ^ q → st_a σ (5 + 3 * c) s = nI (cl (hh f r) (2 ^ q) n (rr f r) n s))
abbrev lI (c : Nat) : Nat → Prop := fun k => k = 9 + 3 * c ∨ k = 10 + 3 * c ∨ k = 11 + 3 * c
abbrev lA (c : Nat) : Nat → Prop := fun k => k = 3 + 3 * c ∨ k = 4 + 3 * c ∨ k = 5 + 3 * c
theorem place_loop {c b n q r : Nat} {f : Nat → Nat} {x2 : Int32} (cr : Nat) (hl : HL (hh f r) (2 ^ q) n) (hq : q ≤ 6) (hr : r < 15) (hcr : cr ≤ 128) : ∀ (d i k : Nat) (σ : St), i + d = n → BC σ b n q f → st_i σ (10 + 3 * c) = nI (2 ^ q) → st_i σ (11 + 3 * c) = nI r → ¬ 3 + 3 * c = b → ∃ t : St, f_X2_placeAll_n5 c b x2 (k + (d + 1)) σ (nI (nx (hh f r) cr i)) (nI i) = some (nI (nx (hh f r) cr n - 2 ^ q), t) ∧ (∀ j, j < n → i ≤ j → st_a t (3 + 3 * c) j = nI (po (hh f r) cr j % 2 ^ q)) ∧ (∀ j, j < i → st_a t (3 + 3 * c) j = st_a σ (3 + 3 * c) j) ∧ Fr nA (fun k => k = 3 + 3 * c) σ t := by
  have hw := p2_bound hq
  intro d
  induction d with
  | zero =>
    intro i k σ e h h10 h11 hne
    have : i = n := by omega
    subst this
    have hn := h.2.2.1
    have hb := nx_le hl cr i (by omega)
    refine ⟨σ, ?_, fun j hj hij => by omega, fun _ _ => rfl, Fr.rf⟩
    show f_X2_placeAll_n5_b c b x2 (f_X2_placeAll_n5 c b x2 k) σ _ _ = _
    unfold f_X2_placeAll_n5_b f_X2_placeAll_n68
    rw [h.1, if_pos (Le2 i i), h10, subMax (by omega) (by omega)]
  | succ d ih =>
    intro i k σ e h h10 h11 hne
    have hn := h.2.2.1
    have hb := nx_le hl cr i (by omega)
    have hfi := h.2.2.2.2.1 i (by omega)
    have hhi := hl.1 i (by omega)
    have hpo : po (hh f r) cr i = max (hh f r i) (nx (hh f r) cr i) := rfl
    have hdv : f i / 2 ^ r ≤ f i := Nat.div_le_self _ _
    have hdh : hh f r i = f i / 2 ^ r := rfl
    have ga : Fr nA (fun k => k = 3 + 3 * c) σ (put_a σ (3 + 3 * c) i (nI (po (hh f r) cr i % 2 ^ q))) := fr_a rfl
    obtain ⟨t, e1, e2, e3, e4⟩ := ih (i + 1) k (put_a σ (3 + 3 * c) i (nI (po (hh f r) cr i % 2 ^ q))) (by omega) (h.keep ga (fun z => z) (fun z => z) (by omega)) (by rw [si_pa]; exact h10) (by rw [si_pa]; exact h11) hne
    refine ⟨t, ?_, fun j hj hij => ?_, fun j hj => ?_, ga.tr e4⟩
    · show f_X2_placeAll_n5_b c b x2 (f_X2_placeAll_n5 c b x2 (k + (d + 1))) σ _ _ = _
      unfold f_X2_placeAll_n5_b
      rw [h.1, if_neg (NLe2 n i), if_neg (NLeL 64 64 i), bc_at h (by omega), bind_some, h11, shr_r (by omega) (by omega), h10]
      have em : (if nI (f i / 2 ^ r) < nI (nx (hh f r) cr i) then nI (nx (hh f r) cr i) else nI (f i / 2 ^ r)) = nI (po (hh f r) cr i) := nI_max (by omega) (by omega)
      rw [em, lt_q, if_pos (Inb i 64), lt_q, lt_q, lt_q, mask_N (by omega) (by omega), Cl i, nI_1, nI_1]
      exact e1
    · by_cases z : j = i
      · rw [z, e3 i (by omega), sa_pa, if_pos rfl, upd_at, if_pos rfl]
      · exact e2 j hj (by omega)
    · rw [e3 j (by omega), sa_pa, if_pos rfl, upd_at, if_neg (by omega)]
theorem clear_loop {c b q : Nat} {x2 : Int32} (hq : q ≤ 6) : ∀ (d i k : Nat) (σ : St), i + d = 2 ^ q → st_i σ (10 + 3 * c) = nI (2 ^ q) → ∃ t : St, f_X2_lay_n43 c b x2 (k + (d + 1)) σ (nI i) = f_X2_lay_n87 c b x2 fuel t 0 ∧ (∀ s, s < 2 ^ q → i ≤ s → st_a t (4 + 3 * c) s = -1 ∧ st_a t (5 + 3 * c) s = 0) ∧ (∀ s, s < i → st_a t (4 + 3 * c) s = st_a σ (4 + 3 * c) s ∧ st_a t (5 + 3 * c) s = st_a σ (5 + 3 * c) s) ∧ Fr nA (fun k => k = 4 + 3 * c ∨ k = 5 + 3 * c) σ t := by
  have hw := p2_bound hq
  intro d
  induction d with
  | zero =>
    intro i k σ e h10
    have : i = 2 ^ q := by omega
    subst this
    refine ⟨σ, ?_, fun s _ _ => by omega, fun _ _ => ⟨rfl, rfl⟩, Fr.rf⟩
    show f_X2_lay_n43_b c b x2 (f_X2_lay_n43 c b x2 k) σ _ = _
    unfold f_X2_lay_n43_b
    rw [h10, if_pos (Le2 (2 ^ q) (2 ^ q))]
  | succ d ih =>
    intro i k σ e h10
    have ga : Fr nA (fun k => k = 4 + 3 * c ∨ k = 5 + 3 * c) σ (put_a (put_a σ (4 + 3 * c) i (-1)) (5 + 3 * c) i 0) := (fr_a (by omega)).tr (fr_a (by omega))
    obtain ⟨t, e1, e2, e3, e4⟩ := ih (i + 1) k (put_a (put_a σ (4 + 3 * c) i (-1)) (5 + 3 * c) i 0) (by omega) (by rw [si_pa, si_pa]; exact h10)
    refine ⟨t, ?_, fun s hs his => ?_, fun s hs => ?_, ga.tr e4⟩
    · show f_X2_lay_n43_b c b x2 (f_X2_lay_n43 c b x2 (k + (d + 1))) σ _ = _
      unfold f_X2_lay_n43_b
      rw [h10, if_neg (NLe2 (2 ^ q) i), if_neg (NLeL 64 64 i), if_pos (Inb i 64), lt_q, if_pos (Inb i 64), lt_q, lt_q, Cl i, nI_1]
      exact e1
    · by_cases z : s = i
      · obtain ⟨a1, a2⟩ := e3 s (by omega)
        rw [a1, a2, sa_pa, if_neg (by omega), sa_pa, if_pos rfl, upd_at, if_pos z, sa_pa, if_pos rfl, upd_at, if_pos z]
        exact ⟨rfl, rfl⟩
      · exact e2 s hs (by omega)
    · obtain ⟨a1, a2⟩ := e3 s (by omega)
      rw [a1, a2, sa_pa, if_neg (by omega), sa_pa, if_pos rfl, upd_at, if_neg (by omega), sa_pa, if_pos rfl, upd_at, if_neg (by omega), sa_pa, if_neg (by omega)]
      exact ⟨rfl, rfl⟩
theorem fill_one {c b n q r : Nat} {f : Nat → Nat} {i : Nat} {σ : St} (hl : HL (hh f r) (2 ^ q) n) (hq : q ≤ 6) (hr : r < 15) (hi : i < n) (h : BC σ b n q f) (h11 : st_i σ (11 + 3 * c) = nI r) (hp : ∀ i, i < n → st_a σ (3 + 3 * c) i = nI (sl (hh f r) (2 ^ q) n i)) (h4 : ∀ s, s < 2 ^ q → st_a σ (4 + 3 * c) s = nI (ix (sl (hh f r) (2 ^ q) n) i s) - 1) (h5 : ∀ s, s < 2 ^ q → st_a σ (5 + 3 * c) s = nI (cl (hh f r) (2 ^ q) n (rr f r) i s)) (hne : ∀ k, 3 + 3 * c ≤ k → k ≠ b) : ∃ t : St, f_X2_fillCell σ c b (nI i) = some t ∧ (∀ s, s < 2 ^ q → st_a t (4 + 3 * c) s = nI (ix (sl (hh f r) (2 ^ q) n) (i + 1) s) - 1) ∧ (∀ s, s < 2 ^ q → st_a t (5 + 3 * c) s = nI (cl (hh f r) (2 ^ q) n (rr f r) (i + 1) s)) ∧ Fr nA (fun k => k = 4 + 3 * c ∨ k = 5 + 3 * c) σ t := by
  have hw := p2_bound hq
  have hn := h.2.2.1
  have hfi := h.2.2.2.2.1 i hi
  have hhi := hl.1 i hi
  have hsl := sl_lt (i := i) hl
  have hi1 : 0 < i → f (i - 1) < 16384 := fun z => h.2.2.2.2.1 (i - 1) (by omega)
  have e3 : (nI (f i % 2 ^ r)) <<< ((3 : Int32) &&& 31) = nI (8 * (f i % 2 ^ r)) := by
    have hm : f i % 2 ^ r ≤ f i := Nat.mod_le _ _
    rw [show ((3 : Int32) &&& 31) = nI 3 &&& 31 from rfl, shl_r (by omega) (by omega)]
    congr 1
    omega
  have key : ∀ w0 : Int32, w0 = nI (ct (hh f r) i) → ∃ t : St, f_X2_fillCell_n78 c b (nI i) σ (nI (f i)) (nI (hh f r i)) (nI (sl (hh f r) (2 ^ q) n i)) w0 = some t ∧ (∀ s, s < 2 ^ q → st_a t (4 + 3 * c) s = nI (ix (sl (hh f r) (2 ^ q) n) (i + 1) s) - 1) ∧ (∀ s, s < 2 ^ q → st_a t (5 + 3 * c) s = nI (cl (hh f r) (2 ^ q) n (rr f r) (i + 1) s)) ∧ Fr nA (fun k => k = 4 + 3 * c ∨ k = 5 + 3 * c) σ t := by
    intro w0 hw0
    unfold f_X2_fillCell_n78
    rw [h11, mask_r (by omega) (by omega), lt_q, if_pos (Inb (sl (hh f r) (2 ^ q) n i) 64), lt_q, if_pos (Inb (hh f r i) 64), if_pos (Inb (hh f r i) 64), lt_q, if_pos (Inb (sl (hh f r) (2 ^ q) n i) 64), Cl (sl (hh f r) (2 ^ q) n i), Cl (hh f r i)]
    generalize hσ3 : put_a (put_a σ (4 + 3 * c) (sl (hh f r) (2 ^ q) n i) (nI i)) (5 + 3 * c) (hh f r i) (st_a (put_a σ (4 + 3 * c) (sl (hh f r) (2 ^ q) n i) (nI i)) (5 + 3 * c) (hh f r i) ||| 1) = σ3
    have c3 : ∀ s, s < 2 ^ q → st_a σ3 (5 + 3 * c) s = nI (if s = hh f r i then cl (hh f r) (2 ^ q) n (rr f r) i s ||| 1 else cl (hh f r) (2 ^ q) n (rr f r) i s) := by
      intro s hs
      rw [← hσ3, sa_pa, if_pos rfl, upd_at]
      by_cases z : s = hh f r i
      · rw [if_pos z, if_pos z, sa_pa, if_neg (by omega), ← z, h5 s hs, show (1 : Int32) = nI 1 from rfl, nI_or]
      · rw [if_neg z, if_neg z, sa_pa, if_neg (by omega), h5 s hs]
    have f3 : Fr nA (fun k => k = 4 + 3 * c ∨ k = 5 + 3 * c) σ σ3 := by rw [← hσ3]; exact (fr_a (by omega)).tr (fr_a (by omega))
    have i3 : ∀ s, s < 2 ^ q → st_a σ3 (4 + 3 * c) s = nI (ix (sl (hh f r) (2 ^ q) n) (i + 1) s) - 1 := by
      intro s hs
      rw [← hσ3, sa_pa, if_neg (by omega), sa_pa, if_pos rfl, upd_at]
      show _ = nI (if sl (hh f r) (2 ^ q) n i = s then i + 1 else ix (sl (hh f r) (2 ^ q) n) i s) - 1
      by_cases z : s = sl (hh f r) (2 ^ q) n i
      · rw [if_pos z, if_pos z.symm, nI_pred]
      · rw [if_neg z, if_neg (fun y => z y.symm)]; exact h4 s hs
    have fin : ∀ (w3 w4 : Nat), w3 = 2 * ct (hh f r) i → w4 = 4 * sf (hh f r) (2 ^ q) n i → ∃ t : St, some (put_a σ3 (5 + 3 * c) (sl (hh f r) (2 ^ q) n i) (st_a σ3 (5 + 3 * c) (sl (hh f r) (2 ^ q) n i) ||| ((nI w3 ||| nI w4) ||| (nI (f i % 2 ^ r)) <<< ((3 : Int32) &&& 31)))) = some t ∧ (∀ s, s < 2 ^ q → st_a t (4 + 3 * c) s = nI (ix (sl (hh f r) (2 ^ q) n) (i + 1) s) - 1) ∧ (∀ s, s < 2 ^ q → st_a t (5 + 3 * c) s = nI (cl (hh f r) (2 ^ q) n (rr f r) (i + 1) s)) ∧ Fr nA (fun k => k = 4 + 3 * c ∨ k = 5 + 3 * c) σ t := by
      intro w3 w4 hw3 hw4
      refine ⟨_, rfl, fun s hs => ?_, fun s hs => ?_, f3.tr (fr_a (by omega))⟩
      · rw [sa_pa, if_neg (by omega)]; exact i3 s hs
      · rw [e3, nI_or, nI_or, hw3, hw4, or_fl (ct_01 _ _) (sf_01 _ _ _ _), c3 _ hsl, nI_or, sa_pa, if_pos rfl, upd_at]
        rw [cl_step hl (rr f r) hi s]
        by_cases z : s = sl (hh f r) (2 ^ q) n i
        · rw [if_pos z, if_pos z, ← z]
        · rw [if_neg z, if_neg z]; exact c3 s hs
    unfold f_X2_fillCell_n129 f_X2_fillCell_n141
    simp only [lt_q, Inb (sl (hh f r) (2 ^ q) n i) 64, Cl (sl (hh f r) (2 ^ q) n i), ↓reduceIte]
    rcases ct_01 (hh f r) i with y | y
    · rw [hw0, y, if_pos nI_0]
      by_cases z : sl (hh f r) (2 ^ q) n i = hh f r i
      · rw [z, if_pos rfl, ← z]
        exact fin 0 0 (by rw [y]) (by unfold sf; rw [if_pos z])
      · rw [if_neg (Ne2 (sl (hh f r) (2 ^ q) n i) (hh f r i))]
        exact fin 0 4 (by rw [y]) (by unfold sf; rw [if_neg z])
    · rw [hw0, y, if_neg (by decide)]
      by_cases z : sl (hh f r) (2 ^ q) n i = hh f r i
      · rw [z, if_pos rfl, ← z]
        exact fin 2 0 (by rw [y]) (by unfold sf; rw [if_pos z])
      · rw [if_neg (Ne2 (sl (hh f r) (2 ^ q) n i) (hh f r i))]
        exact fin 2 4 (by rw [y]) (by unfold sf; rw [if_neg z])
  unfold f_X2_fillCell f_X2_slotOf f_X2_fillCell_n77
  rw [bc_at h hi, bind_some, h11, shr_r (by omega) (by omega), lt_q, if_neg (Pos i), if_neg (NLeL 64 64 i), if_pos (Inb i 64), Cl i, hp i hi, bind_some, if_neg (Pos (sl (hh f r) (2 ^ q) n i)), if_neg (NLeL 64 64 (sl (hh f r) (2 ^ q) n i))]
  have hhi' : f i / 2 ^ r < 2 ^ q := hhi
  rw [if_neg (Pos (f i / 2 ^ r)), if_pos (LtR (f i / 2 ^ r) 64 64)]
  by_cases z : i = 0
  · rw [if_pos (show nI i ≤ 0 by rw [z]; decide)]
    exact key 0 (by unfold ct; rw [if_neg (by omega)]; rfl)
  · have hf1 := hi1 (by omega)
    rw [if_neg (nI_nle (by omega) (by omega)), Sub1 i, bc_at h (show i - 1 < n by omega), bind_some, shr_r (by omega) (by omega)]
    have hh1 : f (i - 1) / 2 ^ r ≤ f (i - 1) := Nat.div_le_self _ _
    by_cases y : f (i - 1) / 2 ^ r = f i / 2 ^ r
    · rw [y, if_pos rfl]
      exact key 1 (by unfold ct; rw [if_pos ⟨by omega, y⟩]; rfl)
    · rw [if_neg (Ne2 (f (i - 1) / 2 ^ r) (f i / 2 ^ r))]
      exact key 0 (by unfold ct; rw [if_neg (fun x => y x.2)]; rfl)
theorem fill_loop {c b n q r : Nat} {f : Nat → Nat} {x2 : Int32} (hl : HL (hh f r) (2 ^ q) n) (hq : q ≤ 6) (hr : r < 15) (hne : ∀ k, 3 + 3 * c ≤ k → k ≠ b) : ∀ (d i k : Nat) (σ : St), i + d = n → BC σ b n q f → st_i σ (11 + 3 * c) = nI r → (∀ i, i < n → st_a σ (3 + 3 * c) i = nI (sl (hh f r) (2 ^ q) n i)) → (∀ s, s < 2 ^ q → st_a σ (4 + 3 * c) s = nI (ix (sl (hh f r) (2 ^ q) n) i s) - 1) → (∀ s, s < 2 ^ q → st_a σ (5 + 3 * c) s = nI (cl (hh f r) (2 ^ q) n (rr f r) i s)) → ∃ t : St, f_X2_lay_n87 c b x2 (k + (d + 1)) σ (nI i) = some t ∧ (∀ s, s < 2 ^ q → st_a t (4 + 3 * c) s = nI (ix (sl (hh f r) (2 ^ q) n) n s) - 1) ∧ (∀ s, s < 2 ^ q → st_a t (5 + 3 * c) s = nI (cl (hh f r) (2 ^ q) n (rr f r) n s)) ∧ Fr nA (fun k => k = 4 + 3 * c ∨ k = 5 + 3 * c) σ t := by
  intro d
  induction d with
  | zero =>
    intro i k σ e h h11 hp h4 h5
    have : i = n := by omega
    subst this
    have hn := h.2.2.1
    refine ⟨σ, ?_, h4, h5, Fr.rf⟩
    show f_X2_lay_n87_b c b x2 (f_X2_lay_n87 c b x2 k) σ _ = _
    unfold f_X2_lay_n87_b
    rw [h.1, if_pos (Le2 i i)]
  | succ d ih =>
    intro i k σ e h h11 hp h4 h5
    have hn := h.2.2.1
    obtain ⟨t, e1, e2, e3, e4⟩ := fill_one hl hq hr (show i < n by omega) h h11 hp h4 h5 hne
    have h' := h.keep e4 (fun z => z) (fun z => z) (fun z => by rcases z with z | z <;> exact hne b (by omega) rfl)
    obtain ⟨t2, k1, k2, k3, k4⟩ := ih (i + 1) k t (by omega) h' (by rw [e4.1 _ (fun z => z)]; exact h11) (fun j hj => by rw [e4.2.1 _ (by omega)]; exact hp j hj) e2 e3
    refine ⟨t2, ?_, k2, k3, e4.tr k4⟩
    show f_X2_lay_n87_b c b x2 (f_X2_lay_n87 c b x2 (k + (d + 1))) σ _ = _
    unfold f_X2_lay_n87_b
    rw [h.1, if_neg (NLe2 n i), e1, bind_some, lt_q, nI_1]
    exact k1
theorem lay_C {C : St} {c b n q P : Nat} {f : Nat → Nat} (h : BC C b n q f) (hc : c < 2) (hb : b < 3) (hq : q ≤ 6) (hqP : q ≤ P) (hP : P ≤ 14) (hn : n < 2 ^ q) (hf : ∀ i, i < n → f i < 2 ^ P) : ∃ t : St, f_X2_lay C c b (nI P) = some t ∧ LY t c n q (P - q) f ∧ Fr (lI c) (lA c) C t := by
  have hl := HL_of h.2.2.2.2.2 hqP hn hf
  have hw := p2_bound hq
  have hov := nx_le hl 0 n (Nat.le_refl _)
  have hne : ∀ k, 3 + 3 * c ≤ k → k ≠ b := fun k hk => by omega
  generalize h6 : put_i C (9 + 3 * c) (nI q) = s6
  have f6 : Fr (lI c) (lA c) C s6 := by rw [← h6]; exact fr_i (by omega)
  have b6 := h.keep f6 (by omega) (by omega) (by omega)
  generalize h7 : put_i s6 (10 + 3 * c) (nI (2 ^ q)) = s7
  have f7 : Fr (lI c) (lA c) s6 s7 := by rw [← h7]; exact fr_i (by omega)
  have b7 := b6.keep f7 (by omega) (by omega) (by omega)
  generalize h8 : put_i s7 (11 + 3 * c) (nI (P - q)) = s8
  have f8 : Fr (lI c) (lA c) s7 s8 := by rw [← h8]; exact fr_i (by omega)
  have b8 := b7.keep f8 (by omega) (by omega) (by omega)
  have i9 : st_i s8 (9 + 3 * c) = nI q := by rw [← h8, si_pi, if_neg (by omega), ← h7, si_pi, if_neg (by omega), ← h6, si_pi, if_pos rfl]
  have i10 : st_i s8 (10 + 3 * c) = nI (2 ^ q) := by rw [← h8, si_pi, if_neg (by omega), ← h7, si_pi, if_pos rfl]
  have i11 : st_i s8 (11 + 3 * c) = nI (P - q) := by rw [← h8, si_pi, if_pos rfl]
  obtain ⟨j, hj⟩ := fuel_ge (k := n + 1) (by have := h.2.2.1; omega)
  obtain ⟨s9, p1, p2, p3, p4⟩ := place_loop (c := c) (x2 := 0) 0 hl hq (by omega) (by omega) n 0 j s8 (by omega) b8 i10 i11 (by omega)
  have b9 := b8.keep p4 (fun z => z) (fun z => z) (by omega)
  have i10' : st_i s9 (10 + 3 * c) = nI (2 ^ q) := by rw [p4.1 _ (fun z => z)]; exact i10
  have i11' : st_i s9 (11 + 3 * c) = nI (P - q) := by rw [p4.1 _ (fun z => z)]; exact i11
  have i9' : st_i s9 (9 + 3 * c) = nI q := by rw [p4.1 _ (fun z => z)]; exact i9
  obtain ⟨s11, r1, r2, r3, r4⟩ := place_loop (c := c) (x2 := nI (ov (hh f (P - q)) (2 ^ q) n)) (ov (hh f (P - q)) (2 ^ q) n) hl hq (by omega) (by unfold ov; omega) n 0 j s9 (by omega) b9 i10' i11' (by omega)
  have b11 := b9.keep r4 (fun z => z) (fun z => z) (by omega)
  have i9b : st_i s11 (9 + 3 * c) = nI q := by rw [r4.1 _ (fun z => z)]; exact i9'
  have i10b : st_i s11 (10 + 3 * c) = nI (2 ^ q) := by rw [r4.1 _ (fun z => z)]; exact i10'
  have i11b : st_i s11 (11 + 3 * c) = nI (P - q) := by rw [r4.1 _ (fun z => z)]; exact i11'
  obtain ⟨j2, hj2⟩ := fuel_ge (k := 2 ^ q + 1) (by omega)
  obtain ⟨t1, c1, c2, c3, c4⟩ := clear_loop (c := c) (b := b) (x2 := nI P) hq (2 ^ q) 0 j2 s11 (by omega) i10b
  have bt := b11.keep c4 (fun z => z) (fun z => z) (by omega)
  have hpl : ∀ i, i < n → st_a t1 (3 + 3 * c) i = nI (sl (hh f (P - q)) (2 ^ q) n i) := fun i hi => by rw [c4.2.1 _ (by omega)]; exact r2 i hi (by omega)
  obtain ⟨t2, m1, m2, m3, m4⟩ := fill_loop (c := c) (x2 := nI P) hl hq (by omega) hne n 0 j t1 (by omega) bt (by rw [c4.1 _ (fun z => z)]; exact i11b) hpl (fun s hs => by rw [(c2 s hs (by omega)).1]; rfl) (fun s hs => by rw [(c2 s hs (by omega)).2]; rfl)
  rw [← hj] at p1 r1 m1
  rw [← hj2] at c1
  refine ⟨t2, ?_, ⟨?_, ?_, ?_, fun i hi => ?_, m2, m3⟩, ?_⟩
  · unfold f_X2_lay f_X2_placeAll
    have p1' : f_X2_placeAll_n5 c b 0 fuel s8 0 0 = _ := p1
    have r1' : f_X2_placeAll_n5 c b (nI (ov (hh f (P - q)) (2 ^ q) n)) fuel s9 (nI (ov (hh f (P - q)) (2 ^ q) n)) 0 = _ := r1
    have c1' : f_X2_lay_n43 c b (nI P) fuel s11 0 = _ := c1
    have m1' : f_X2_lay_n87 c b (nI P) fuel t1 0 = _ := m1
    rw [h.2.1, lt_q, h6, lt_q, bc_slots b6 (by omega), h7, lt_q, b7.2.1, Sub2 P q, h8, p1', bind2_some]
    show bind2 (f_X2_placeAll_n5 c b (nI (ov (hh f (P - q)) (2 ^ q) n)) fuel s9 (nI (ov (hh f (P - q)) (2 ^ q) n)) 0) _ = _
    rw [r1', bind2_some, c1', m1']
  · rw [m4.1 _ (fun z => z), c4.1 _ (fun z => z)]; exact i9b
  · rw [m4.1 _ (fun z => z), c4.1 _ (fun z => z)]; exact i10b
  · rw [m4.1 _ (fun z => z), c4.1 _ (fun z => z)]; exact i11b
  · rw [m4.2.1 _ (by omega)]; exact hpl i hi
  · have w : ∀ {σ t : St} {A : Nat → Prop}, Fr nA A σ t → (∀ k, A k → lA c k) → Fr (lI c) (lA c) σ t := fun x y => x.mono (fun k z => z.elim) y
    exact (((((f6.tr f7).tr f8).tr (w p4 (fun k z => by omega))).tr (w r4 (fun k z => by omega))).tr (w c4 (fun k z => by omega))).tr (w m4 (fun k z => by omega))
