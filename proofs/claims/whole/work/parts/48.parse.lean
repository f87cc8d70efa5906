/-! reading text: signs -/
def sxN : List (List Nat) := [[], [], [126], [48, 49, 50, 51, 52, 53, 54, 55, 56, 57], [44], [51, 52], [48, 49, 50, 51, 52, 53, 54, 55], [48, 49, 50, 51, 52, 53, 54, 55, 56, 57, 97, 98, 99, 100, 101, 102]]
def chN (z k : Nat) : Nat := (sxN.getD z []).getD k 0
def chL (z : Nat) : Nat := (sxN.getD z []).length
theorem str_atN : ∀ z, z < 8 → 1 < z → ∀ k, k < chL z → str_at z (nI k) = some (nI (chN z k)) := by decide +kernel
theorem str_lenN : ∀ z, z < 8 → 1 < z → str_len z = nI (chL z) := by decide +kernel
theorem chN_lt : ∀ z, z < 8 → 1 < z → ∀ k, k < chL z → chN z k < 256 := by decide +kernel
theorem chL_le : ∀ z, z < 8 → chL z ≤ 16 := by decide +kernel
theorem takes_end {σ : St} {z K p : Nat} (hz : z < 8) (hz1 : 1 < z) (h4 : st_i σ 4 = nI K) (h3 : st_i σ 3 = nI p) (hK : K ≤ 80) (hp : K ≤ p) (hp2 : p ≤ 80) : f_X7_takesOf σ z = some (-1, σ) := by
  have hl := chL_le z hz
  unfold f_X7_takesOf
  obtain ⟨j, hj⟩ := fuel_ge (k := 1) (by omega)
  rw [hj]
  show f_X7_takesOf_n2_b z (f_X7_takesOf_n2 z j) σ 0 = _
  unfold f_X7_takesOf_n2_b
  rw [h4, h3, if_pos (Le2 K p)]
  split <;> rfl
theorem takes_loop {σ : St} {z K p v : Nat} (hz : z < 8) (hz1 : 1 < z) (h4 : st_i σ 4 = nI K) (h3 : st_i σ 3 = nI p) (hK : K ≤ 80) (hp : p < K) (hv : v < 256) (ht : st_a σ 0 p = nI v) : ∀ (d k j : Nat), k + d = chL z → (∃ i, k ≤ i ∧ i < chL z ∧ chN z i = v ∧ f_X7_takesOf_n2 z (j + (d + 1)) σ (nI k) = some (nI i, put_i σ 3 (nI (p + 1)))) ∨ ((∀ i, k ≤ i → i < chL z → chN z i ≠ v) ∧ f_X7_takesOf_n2 z (j + (d + 1)) σ (nI k) = some (-1, σ)) := by
  have hl := chL_le z hz
  intro d
  induction d with
  | zero =>
    intro k j e
    refine Or.inr ⟨fun i h1 h2 => by omega, ?_⟩
    show f_X7_takesOf_n2_b z (f_X7_takesOf_n2 z j) σ _ = _
    unfold f_X7_takesOf_n2_b
    rw [str_lenN z hz hz1, if_pos (Le2 (chL z) k)]
  | succ d ih =>
    intro k j e
    have hc := chN_lt z hz hz1 k (by omega)
    have step : f_X7_takesOf_n2 z (j + (d + 1 + 1)) σ (nI k) = if nI (chN z k) = nI v then some (nI k, put_i σ 3 (nI (p + 1))) else f_X7_takesOf_n2 z (j + (d + 1)) σ (nI (k + 1)) := by
      show f_X7_takesOf_n2_b z (f_X7_takesOf_n2 z (j + (d + 1))) σ _ = _
      unfold f_X7_takesOf_n2_b
      rw [str_lenN z hz hz1, if_neg (NLe2 (chL z) k), h4, h3, if_neg (NLe2 K p), str_atN z hz hz1 k (by omega), bind_some, if_pos (Inb p 80), Cl p, ht, lt_q, lt_q, nI_1, nI_1]
    by_cases c : chN z k = v
    · refine Or.inl ⟨k, by omega, by omega, c, ?_⟩
      rw [step, c, if_pos rfl]
    · rw [step, if_neg (Ne2 (chN z k) v)]
      rcases ih (k + 1) j (by omega) with ⟨i, i1, i2, i3, i4⟩ | ⟨i1, i2⟩
      · exact Or.inl ⟨i, by omega, i2, i3, i4⟩
      · refine Or.inr ⟨fun i h1 h2 => ?_, i2⟩
        by_cases e2 : i = k
        · rw [e2]; exact c
        · exact i1 i (by omega) h2
theorem takes_in {σ : St} {z K p v : Nat} (hz : z < 8) (hz1 : 1 < z) (h4 : st_i σ 4 = nI K) (h3 : st_i σ 3 = nI p) (hK : K ≤ 80) (hp : p < K) (hv : v < 256) (ht : st_a σ 0 p = nI v) : (∃ i, i < chL z ∧ chN z i = v ∧ f_X7_takesOf σ z = some (nI i, put_i σ 3 (nI (p + 1)))) ∨ ((∀ i, i < chL z → chN z i ≠ v) ∧ f_X7_takesOf σ z = some (-1, σ)) := by
  have hl := chL_le z hz
  obtain ⟨j, hj⟩ := fuel_ge (k := chL z + 1) (by omega)
  have := takes_loop hz hz1 h4 h3 hK hp hv ht (chL z) 0 j (by omega)
  rw [← hj] at this
  rcases this with ⟨i, i1, i2, i3, i4⟩ | ⟨i1, i2⟩
  · exact Or.inl ⟨i, i2, i3, i4⟩
  · exact Or.inr ⟨fun i hi => i1 i (by omega) hi, i2⟩
/-- one sign of a set that has but one -/
theorem takes_dig {σ : St} {K p v : Nat} (h4 : st_i σ 4 = nI K) (h3 : st_i σ 3 = nI p) (hK : K ≤ 80) (hp : p < K) (hv : v < 256) (ht : st_a σ 0 p = nI v) : f_X7_takesOf σ 3 = if 48 ≤ v ∧ v ≤ 57 then some (nI (v - 48), put_i σ 3 (nI (p + 1))) else some (-1, σ) := by
  have key : ∀ i, i < 10 → chN 3 i = 48 + i := by decide
  rcases takes_in (z := 3) (by omega) (by omega) h4 h3 hK hp hv ht with ⟨i, i1, i2, i3⟩ | ⟨i1, i2⟩
  · have i1' : i < 10 := i1
    have := key i i1'
    rw [i3, if_pos (by omega), show v - 48 = i by omega]
  · rw [i2, if_neg]
    rintro ⟨a, b⟩
    exact i1 (v - 48) (show v - 48 < 10 by omega) (by rw [key _ (by omega)]; omega)
theorem takes_til {σ : St} {K p v : Nat} (h4 : st_i σ 4 = nI K) (h3 : st_i σ 3 = nI p) (hK : K ≤ 80) (hp : p < K) (hv : v < 256) (ht : st_a σ 0 p = nI v) : f_X7_takesOf σ 2 = if v = 126 then some (0, put_i σ 3 (nI (p + 1))) else some (-1, σ) := by
  rcases takes_in (z := 2) (by omega) (by omega) h4 h3 hK hp hv ht with ⟨i, i1, i2, i3⟩ | ⟨i1, i2⟩
  · have i1' : i < 1 := i1
    have : i = 0 := by omega
    subst this
    have e : chN 2 0 = 126 := rfl
    rw [i3, if_pos (by omega)]; rfl
  · rw [i2, if_neg]
    intro a
    exact i1 0 (show 0 < 1 by omega) (by rw [a]; rfl)
theorem takes_com {σ : St} {K p v : Nat} (h4 : st_i σ 4 = nI K) (h3 : st_i σ 3 = nI p) (hK : K ≤ 80) (hp : p < K) (hv : v < 256) (ht : st_a σ 0 p = nI v) : f_X7_takesOf σ 4 = if v = 44 then some (0, put_i σ 3 (nI (p + 1))) else some (-1, σ) := by
  rcases takes_in (z := 4) (by omega) (by omega) h4 h3 hK hp hv ht with ⟨i, i1, i2, i3⟩ | ⟨i1, i2⟩
  · have i1' : i < 1 := i1
    have : i = 0 := by omega
    subst this
    have e : chN 4 0 = 44 := rfl
    rw [i3, if_pos (by omega)]; rfl
  · rw [i2, if_neg]
    intro a
    exact i1 0 (show 0 < 1 by omega) (by rw [a]; rfl)
theorem text_at {σ : St} {K p : Nat} {g : Nat → Nat} (h : TC σ K g) (hp : p < K) : f_X5_at σ (nI p) = some (nI (g p)) := by
  have hK := h.2.1
  unfold f_X5_at
  rw [if_neg (Pos p), h.1, if_neg (NLe2 K p), if_neg (NLeL 80 80 p), if_pos (Inb p 80), Cl p, h.2.2.1 p hp]
/-- the reference's text while it is read: place p of K -/
def MT (σ : St) (K p : Nat) (g : Nat → Nat) : Prop := st_i σ 4 = nI K ∧ st_i σ 3 = nI p ∧ (∀ i, i < K → st_a σ 0 i = nI (g i))
theorem MT.go {σ t : St} {K p p' : Nat} {g : Nat → Nat} (h : MT σ K p g) (h3 : st_i t 3 = nI p') (hg : Gr (fun k => k = 3) (fun k _ => 7 ≤ k) σ t) : MT t K p' g := ⟨by rw [hg.1 4 (by omega)]; exact h.1, h3, fun i hi => by rw [hg.2.1 0 i (by omega)]; exact h.2.2 i hi⟩
theorem put3 {σ : St} {v : Int32} : Gr (fun k => k = 3) (fun k _ => 7 ≤ k) σ (put_i σ 3 v) := gr_i rfl
/-- more digits -/
theorem digs {K KC : Nat} {g : Nat → Nat} (hK : K ≤ KC) (hg : ∀ i, i < KC → g i < 256) (x1 x2 o : Int32) {C : St} (hC : TC C KC g) : ∀ (d p v c k k2 : Nat) (M : St), p + d = K → 1 ≤ c → c ≤ 5 → v < 10 ^ c → MT M K p g → ∃ (p' v' c' : Nat) (t : St), p ≤ p' ∧ p' ≤ K ∧ 1 ≤ c' ∧ c' ≤ 5 ∧ v' < 100000 ∧ (p' = K ∨ c' = 5 ∨ ¬ (48 ≤ g p' ∧ g p' ≤ 57)) ∧ f_X1_read_n16 x2 (k + (K - p) + 1) C (nI c) (nI v) o (nI p) = f_X1_read_n16 x2 (k + (K - p') + 1) C (nI c') (nI v') o (nI p') ∧ f_X7_readsKey_n29 x1 (k2 + d + 1) M (nI v) (nI c) = f_X7_readsKey_n89 x1 t (nI v') ∧ MT t K p' g ∧ Gr (fun k => k = 3) nA2 M t := by
  have hK80 := hC.2.1
  have p5 : ∀ c, c ≤ 5 → 10 ^ c ≤ 100000 := fun c hc => Nat.pow_le_pow_right (n := 10) (by omega) hc
  intro d
  induction d with
  | zero =>
    intro p v c k k2 M e h1 h2 h3 hM
    have hb := p5 c h2
    refine ⟨p, v, c, M, by omega, by omega, h1, h2, by omega, Or.inl (by omega), rfl, ?_, hM, Gr.rf⟩
    show f_X7_readsKey_n29_b x1 (f_X7_readsKey_n29 x1 (k2 + 0)) M _ _ = _
    unfold f_X7_readsKey_n29_b
    rw [if_neg (Pos v), hM.1, hM.2.1, if_pos (Le2 K p)]
    split <;> rfl
  | succ d ih =>
    intro p v c k k2 M e h1 h2 h3 hM
    have hb := p5 c h2
    have hgp := hg p (by omega)
    have hp : p < K := by omega
    have htd := takes_dig hM.1 hM.2.1 (by omega) hp hgp (hM.2.2 p hp)
    have hin := in_0 M (x := nI (g p)) (y := 48) (z := 57) (y' := 48) (z' := 57) rfl rfl
    have eM : f_X7_readsKey_n29 x1 (k2 + (d + 1) + 1) M (nI v) (nI c) = if c = 5 then f_X7_readsKey_n89 x1 M (nI v) else if 48 ≤ g p ∧ g p ≤ 57 then f_X7_readsKey_n29 x1 (k2 + d + 1) (put_i M 3 (nI (p + 1))) (nI (10 * v + (g p - 48))) (nI (c + 1)) else f_X7_readsKey_n89 x1 M (nI v) := by
      show f_X7_readsKey_n29_b x1 (f_X7_readsKey_n29 x1 (k2 + (d + 1))) M _ _ = _
      unfold f_X7_readsKey_n29_b
      rw [if_neg (Pos v), hM.1, hM.2.1, if_neg (NLe2 K p), if_pos (Inb p 80), Cl p, hM.2.2 p hp, htd]
      by_cases c5 : c = 5
      · rw [if_pos (LeL 5 5 c), if_pos c5]
      · rw [if_neg (NLeL 5 5 c), if_neg c5]
        by_cases cd : 48 ≤ g p ∧ g p ≤ 57
        · rw [if_neg (fun z => hin.1 z ⟨LeL 48 48 (g p), LeR (g p) 57 57⟩), if_pos cd, if_pos cd, bind2_some, lt_q, lt_q, show (10 : Int32) = nI 10 from rfl, nI_mul, nI_add, nI_1]
          rfl
        · have nin : f_X7_in M (nI (g p)).toInt64 48 57 = 0 := hin.2 (fun z => cd ⟨(nI_leI (a := 48) (b := g p) (by omega) (by omega)).1 z.1, (nI_leI (a := g p) (b := 57) (by omega) (by omega)).1 z.2⟩)
          rw [if_pos nin, if_neg cd]
    have eC : c < 5 → 48 ≤ g p ∧ g p ≤ 57 → f_X1_read_n16 x2 (k + (K - p) + 1) C (nI c) (nI v) o (nI p) = f_X1_read_n16 x2 (k + (K - (p + 1)) + 1) C (nI (c + 1)) (nI (10 * v + (g p - 48))) o (nI (p + 1)) := by
      intro hc5 cd
      rw [show k + (K - p) + 1 = k + (K - (p + 1)) + 1 + 1 by omega]
      show f_X1_read_n16_b x2 (f_X1_read_n16 x2 (k + (K - (p + 1)) + 1)) C _ _ _ _ = _
      unfold f_X1_read_n16_b
      rw [hC.1, if_neg (NLe2 KC p), text_at hC (by omega), bind_some, if_neg (NLtR (g p) 48 48), if_neg (NLtL 57 57 (g p)), if_neg (NLeL 5 5 c), lt_q, lt_q, lt_q, show (10 : Int32) = nI 10 from rfl, nI_mul, show (48 : Int32) = nI 48 from rfl, Sub2 (g p) 48, nI_add, nI_1, nI_1, Nat.mul_comm v 10]
    by_cases c5 : c = 5
    · refine ⟨p, v, c, M, by omega, by omega, h1, h2, by omega, Or.inr (Or.inl c5), rfl, ?_, hM, Gr.rf⟩
      rw [eM, if_pos c5]
    · by_cases cd : 48 ≤ g p ∧ g p ≤ 57
      · have hpow : 10 ^ (c + 1) = 10 * 10 ^ c := by rw [Nat.pow_succ]; omega
        obtain ⟨p', v', c', t, r1, r2, r3, r4, r5, r6, r7, r8, r9, r10⟩ := ih (p + 1) (10 * v + (g p - 48)) (c + 1) k k2 (put_i M 3 (nI (p + 1))) (by omega) (by omega) (by omega) (by omega) (hM.go (by rw [si_pi, if_pos rfl]) put3)
        refine ⟨p', v', c', t, by omega, r2, r3, r4, r5, r6, ?_, ?_, r9, (gr_i (by omega)).tr r10⟩
        · rw [eC (by omega) cd]; exact r7
        · rw [eM, if_neg c5, if_pos cd]; exact r8
      · refine ⟨p, v, c, M, by omega, by omega, h1, h2, by omega, Or.inr (Or.inr cd), rfl, ?_, hM, Gr.rf⟩
        rw [eM, if_neg c5, if_neg cd]
def KL (σ : St) (c : Nat) (key out : Nat → Nat) : Prop := st_i σ 18 = nI c ∧ ∀ i, i < c → st_a σ 13 i = nI (key i) ∧ st_a σ 14 i = nI (out i)
def KM (σ : St) (c : Nat) (key out : Nat → Nat) : Prop := ∀ i, i < c → st_a σ 7 i = nI (key i) ∧ st_a σ 8 i = nI (out i)
theorem nar_b {o : Nat} (h : o = 0 ∨ o = 1) : vp_nar .boolean (nI o) = nI o := by rcases h with rfl | rfl <;> rfl
theorem key_add {C : St} {c v o : Nat} {key out : Nat → Nat} (h : KL C c key out) (hc : c < 80) (ho : o = 0 ∨ o = 1) : ∃ t : St, f_X1_add C (nI v) (nI o) = some t ∧ KL t (c + 1) (fun i => if i = c then v else key i) (fun i => if i = c then o else out i) ∧ Fr (fun k => k = 18) (fun k => k = 13 ∨ k = 14) C t := by
  unfold f_X1_add
  rw [h.1, if_neg (Pos c), if_neg (NLeL 80 80 c), if_neg (NLeL 80 80 c), if_pos (Inb c 80), lt_q, si_pa, h.1, if_pos (Inb c 80), lt_q, lt_q, Cl c, si_pa, si_pa, h.1, nI_1, nar_b ho]
  refine ⟨_, rfl, ⟨by rw [si_pi, if_pos rfl], fun i hi => ?_⟩, ((fr_a (by omega)).tr (fr_a (by omega))).tr (fr_i (by omega))⟩
  dsimp only
  have e13 : st_a (put_i (put_a (put_a C 13 c (nI v)) 14 c (nI o)) 18 (nI (c + 1))) 13 i = if i = c then nI v else st_a C 13 i := by
    rw [sa_pi, sa_pa, if_neg (by omega), sa_pa, if_pos rfl, upd_at]
  have e14 : st_a (put_i (put_a (put_a C 13 c (nI v)) 14 c (nI o)) 18 (nI (c + 1))) 14 i = if i = c then nI o else st_a C 14 i := by
    rw [sa_pi, sa_pa, if_pos rfl, upd_at, sa_pa, if_neg (show ¬ (14 : Nat) = 13 by omega)]
  rw [e13, e14]
  by_cases e : i = c
  · rw [if_pos e, if_pos e, if_pos e, if_pos e]; exact ⟨rfl, rfl⟩
  · rw [if_neg e, if_neg e, if_neg e, if_neg e]; exact h.2 i (by omega)
