/-! ===== the class's bags ===== -/
def Fr (I A : Nat → Prop) (σ t : St) : Prop := (∀ k, ¬ I k → st_i t k = st_i σ k) ∧ (∀ k, ¬ A k → st_a t k = st_a σ k) ∧ (∀ k, st_l t k = st_l σ k)
theorem Fr.rf {I A : Nat → Prop} {σ : St} : Fr I A σ σ := ⟨fun _ _ => rfl, fun _ _ => rfl, fun _ => rfl⟩
theorem Fr.tr {I A : Nat → Prop} {σ t u : St} (h : Fr I A σ t) (g : Fr I A t u) : Fr I A σ u := ⟨fun k q => (g.1 k q).trans (h.1 k q), fun k q => (g.2.1 k q).trans (h.2.1 k q), fun k => (g.2.2 k).trans (h.2.2 k)⟩
theorem Fr.mono {I A J B : Nat → Prop} {σ t : St} (h : Fr I A σ t) (hI : ∀ k, I k → J k) (hA : ∀ k, A k → B k) : Fr J B σ t := ⟨fun k q => h.1 k (fun z => q (hI k z)), fun k q => h.2.1 k (fun z => q (hA k z)), h.2.2⟩
theorem fr_i {I A : Nat → Prop} {σ : St} {k : Nat} {v : Int32} (h : I k) : Fr I A σ (put_i σ k v) := ⟨fun j q => by rw [si_pi, if_neg (fun e : j = k => q (by rw [e]; exact h))], fun _ _ => rfl, fun _ => rfl⟩
theorem fr_a {I A : Nat → Prop} {σ : St} {k i : Nat} {v : Int32} (h : A k) : Fr I A σ (put_a σ k i v) := ⟨fun _ _ => rfl, fun j q => by rw [sa_pa, if_neg (fun e : j = k => q (by rw [e]; exact h))], fun _ => rfl⟩
abbrev bI (b : Nat) : Nat → Prop := fun k => k = 3 + 2 * b ∨ k = 4 + 2 * b
abbrev bA (b : Nat) : Nat → Prop := fun k => k = b
theorem fr_b1 {σ : St} {b : Nat} {v : Int32} : Fr (bI b) (bA b) σ (put_i σ (3 + 2 * b) v) := fr_i (Or.inl rfl)
theorem fr_b2 {σ : St} {b : Nat} {v : Int32} : Fr (bI b) (bA b) σ (put_i σ (4 + 2 * b) v) := fr_i (Or.inr rfl)
theorem fr_b3 {σ : St} {b i : Nat} {v : Int32} : Fr (bI b) (bA b) σ (put_a σ b i v) := fr_a rfl
theorem BC.keep {σ t : St} {b n q : Nat} {f : Nat → Nat} {I A : Nat → Prop} (h : BC σ b n q f) (hf : Fr I A σ t) (h1 : ¬ I (3 + 2 * b)) (h2 : ¬ I (4 + 2 * b)) (h3 : ¬ A b) : BC t b n q f := by
  obtain ⟨a1, a2, a3, a4, a5, a6⟩ := h
  exact ⟨by rw [hf.1 _ h1]; exact a1, by rw [hf.1 _ h2]; exact a2, a3, fun i hi => by rw [hf.2.1 _ h3]; exact a4 i hi, a5, a6⟩
def cnt (f : Nat → Nat) (n v : Nat) : Nat := lb f n (v + 1) - lb f n v
theorem lb_step {f : Nat → Nat} {n v : Nat} : lb f n v ≤ lb f n (v + 1) := lb_mono (by omega)
theorem cnt_pos {f : Nat → Nat} {n v : Nat} (hs : Srt f n) : 0 < cnt f n v ↔ lb f n v < n ∧ f (lb f n v) = v := by
  have h1 := lb_iff hs v
  have h2 := lb_iff hs (v + 1)
  have h3 := lb_le f n (v + 1)
  have h4 := lb_step (f := f) (n := n) (v := v)
  have h5 := lb_le f n v
  unfold cnt
  constructor
  · intro h
    have a := h1 (lb f n v) (by omega)
    have b := h2 (lb f n v) (by omega)
    omega
  · rintro ⟨h, e⟩
    have b := h2 (lb f n v) h
    omega
theorem bc_size {σ : St} {b n q : Nat} {f : Nat → Nat} (h : BC σ b n q f) : st_i σ (3 + 2 * b) = nI n := h.1
theorem bc_holds {σ : St} {b n q : Nat} {f : Nat → Nat} (h : BC σ b n q f) {v : Nat} (hv : v < 2 ^ 30) : f_X0_holds σ b (nI v) = some (if 0 < cnt f n v then 1 else 0) := by
  obtain ⟨h1, h2, h3, h4, h5, h6⟩ := id h
  unfold f_X0_holds
  have hle := lb_le f n v
  have hc := cnt_pos (v := v) h6
  rw [bc_below h (by omega), bind_some, h1]
  by_cases c : n ≤ lb f n v
  · rw [if_pos (nI_le c (by omega)), if_neg (fun q => by have := hc.1 q; omega)]
  · rw [if_neg (nI_ge (by omega) (by omega)), bc_at h (by omega), bind_some]
    have := h5 (lb f n v) (by omega)
    by_cases d : f (lb f n v) = v
    · rw [d, if_pos rfl, if_pos (hc.2 ⟨by omega, d⟩)]
    · rw [if_neg (fun e => d (nI_inj (by omega) (by omega) e)), if_neg (fun q => d (hc.1 q).2)]
theorem bc_times {σ : St} {b n q : Nat} {f : Nat → Nat} (h : BC σ b n q f) {v : Nat} (hv : v < 2 ^ 30) : f_X0_timesOf σ b (nI v) = some (nI (cnt f n v)) := by
  unfold f_X0_timesOf
  rw [nI_1, bc_below h (by omega), bind_some, bc_below h (by omega), bind_some, pk_sub lb_step]
  rfl
theorem bc_rank {σ : St} {b n q : Nat} {f : Nat → Nat} (h : BC σ b n q f) {i : Nat} (hi : i < n) : f_X0_rankOf σ b (nI i) = some (nI (i - lb f n (f i))) := by
  have h5 := h.2.2.2.2.1 i hi
  have := lb_iff h.2.2.2.2.2 (f i) i hi
  unfold f_X0_rankOf
  rw [bc_at h hi, bind_some, bc_below h (by omega), bind_some, pk_sub (by omega)]
/-- the number of unlike values -/
def ul (f : Nat → Nat) : Nat → Nat
  | 0 => 0
  | n + 1 => ul f n + (if n = 0 ∨ f (n - 1) ≠ f n then 1 else 0)
theorem ul_le (f : Nat → Nat) (n : Nat) : ul f n ≤ n := by
  induction n with
  | zero => exact Nat.le_refl _
  | succ n ih => simp only [ul]; split <;> omega
theorem lb_own {f : Nat → Nat} {n i : Nat} (hs : Srt f n) (hi : i < n) : lb f n (f i) ≤ i := by
  have := lb_iff hs (f i) i hi
  omega
theorem rank0 {f : Nat → Nat} {n i : Nat} (hs : Srt f n) (hi : i < n) : i - lb f n (f i) = 0 ↔ (i = 0 ∨ f (i - 1) ≠ f i) := by
  have h1 := lb_own hs hi
  have h2 := lb_iff hs (f i)
  constructor
  · intro h
    rcases Nat.eq_zero_or_pos i with q | q
    · exact Or.inl q
    · have a := h2 (i - 1) (by omega)
      exact Or.inr (by omega)
  · rintro (h | h)
    · omega
    · rcases Nat.eq_zero_or_pos i with q | q
      · omega
      · have a := h2 (i - 1) (by omega)
        have b := hs (i - 1) i (by omega) hi
        omega
theorem bc_unlike_loop {σ : St} {b n q : Nat} {f : Nat → Nat} (h : BC σ b n q f) : ∀ (d i k : Nat), i + d = n → f_X0_unlike_n4 σ b (k + (d + 1)) (nI (ul f i)) (nI i) = some (nI (ul f n)) := by
  obtain ⟨h1, h2, h3, h4, h5, h6⟩ := id h
  intro d
  induction d with
  | zero =>
    intro i k e
    have : i = n := by omega
    subst this
    show f_X0_unlike_n4_b σ b (f_X0_unlike_n4 σ b k) (nI (ul f i)) (nI i) = _
    unfold f_X0_unlike_n4_b
    rw [h1, if_pos (nI_le (Nat.le_refl _) (by omega))]
  | succ d ih =>
    intro i k e
    show f_X0_unlike_n4_b σ b (f_X0_unlike_n4 σ b (k + (d + 1))) (nI (ul f i)) (nI i) = _
    unfold f_X0_unlike_n4_b
    rw [h1, if_neg (nI_ge (by omega) (by omega)), bc_rank h (by omega), bind_some]
    have hr := rank0 h6 (i := i) (by omega)
    have hstep : ul f (i + 1) = ul f i + (if i = 0 ∨ f (i - 1) ≠ f i then 1 else 0) := rfl
    by_cases c : i - lb f n (f i) = 0
    · rw [c, if_pos (show nI 0 = 0 from rfl), lt_eq, lt_eq, nI_1, nI_1]
      rw [if_pos (hr.1 c)] at hstep
      rw [← hstep]
      exact ih (i + 1) k (by omega)
    · rw [if_neg (nI_ne0 (by omega) (by omega)), lt_eq, nI_1]
      have e2 : ul f (i + 1) = ul f i := by rw [hstep, if_neg (fun z => c (hr.2 z))]; rfl
      rw [← e2]
      exact ih (i + 1) k (by omega)
theorem bc_unlike {σ : St} {b n q : Nat} {f : Nat → Nat} (h : BC σ b n q f) : f_X0_unlike σ b = some (nI (ul f n)) := by
  unfold f_X0_unlike
  have h3 := h.2.2.1
  obtain ⟨j, hj⟩ := fuel_ge (k := n + 1) (by omega)
  rw [hj]
  exact bc_unlike_loop h n 0 j (by omega)
/-- what the loop of insert does: places place+1 .. i take their lower neighbours -/
theorem bc_insert_loop {b p v n0 : Nat} (hp : p < 64) : ∀ (d k : Nat) (σ : St), p + d < 64 → st_i σ (3 + 2 * b) = nI n0 → ∃ t : St, f_X0_insert_n39 b (nI v) (k + (d + 1)) σ (nI p) (nI (p + d)) = some (nI p, t) ∧ st_i t (3 + 2 * b) = nI (n0 + 1) ∧ st_i t (4 + 2 * b) = st_i σ (4 + 2 * b) ∧ (∀ j, st_a t b j = if j = p then nI v else if p < j ∧ j ≤ p + d then st_a σ b (j - 1) else st_a σ b j) ∧ Fr (bI b) (bA b) σ t := by
  intro d
  induction d with
  | zero =>
    intro k σ _ hn
    show ∃ t, f_X0_insert_n39_b b (nI v) (f_X0_insert_n39 b (nI v) k) σ (nI p) (nI p) = _ ∧ _
    unfold f_X0_insert_n39_b
    rw [if_pos (nI_le (Nat.le_refl _) (by omega)), if_pos (in_b_nI hp (by omega)), lt_eq, lt_eq, nI_clamp (by omega), si_pa, hn, nI_1]
    refine ⟨_, rfl, by rw [si_pi, if_pos rfl], by rw [si_pi, if_neg (by omega), si_pa], fun j => ?_, fr_b3.tr fr_b1⟩
    rw [sa_pi, sa_pa, if_pos rfl, upd_at]
    by_cases c : j = p
    · rw [if_pos c, if_pos c]
    · rw [if_neg c, if_neg c, if_neg (by omega)]
  | succ d ih =>
    intro k σ hd hn
    show ∃ t, f_X0_insert_n39_b b (nI v) (f_X0_insert_n39 b (nI v) (k + (d + 1))) σ (nI p) (nI (p + (d + 1))) = _ ∧ _
    unfold f_X0_insert_n39_b
    rw [if_neg (nI_ge (by omega) (by omega)), nI_sub1 (by omega), if_pos (in_b_nI (by omega) (by omega)), if_pos (in_b_nI hd (by omega)), lt_eq, lt_eq, nI_clamp (by omega), nI_clamp (by omega)]
    have e1 : nI (p + (d + 1)) + (-1) = nI (p + d) := pk_m1 (p + d)
    rw [e1]
    obtain ⟨t, g1, g2, g3, g4, g5⟩ := ih k (put_a σ b (p + (d + 1)) (st_a σ b (p + (d + 1) - 1))) (by omega) (by rw [si_pa]; exact hn)
    refine ⟨t, g1, g2, g3, fun j => ?_, fr_b3.tr g5⟩
    rw [g4 j]
    simp only [sa_pa, if_true, upd_at]
    by_cases c : j = p
    · rw [if_pos c, if_pos c]
    · rw [if_neg c, if_neg c]
      by_cases c2 : p < j ∧ j ≤ p + d
      · rw [if_pos c2, if_neg (by omega), if_pos (by omega)]
      · rw [if_neg c2]
        by_cases c3 : j = p + (d + 1)
        · rw [if_pos c3, if_pos (by omega), c3]
        · rw [if_neg c3, if_neg (by omega)]
theorem bc_insert {σ : St} {b n q : Nat} {f : Nat → Nat} (h : BC σ b n q f) (hn : n + 1 < 64) {v : Nat} (hv : v < 16384) : ∃ t : St, f_X0_insert σ b (nI v) = some (nI (lb f n (v + 1)), t) ∧ BC t b (n + 1) q (ins f (lb f n (v + 1)) v) ∧ Fr (bI b) (bA b) σ t := by
  obtain ⟨h1, h2, h3, h4, h5, h6⟩ := id h
  unfold f_X0_insert
  have hle := lb_le f n (v + 1)
  rw [nI_1, bc_below h (by omega), bind_some, if_neg (nI_pos (by omega)), h1, if_neg (nI_nlt hle (by omega)), if_pos (show nI n < (64 : Int32) from nI_lt (b := 64) (by omega) (by omega)), lt_eq]
  obtain ⟨j, hj⟩ := fuel_ge (k := (n - lb f n (v + 1)) + 1) (by omega)
  rw [hj]
  obtain ⟨t, g1, g2, g3, g4, g5⟩ := bc_insert_loop (b := b) (p := lb f n (v + 1)) (v := v) (n0 := n) (by omega) (n - lb f n (v + 1)) j σ (by omega) h1
  rw [show lb f n (v + 1) + (n - lb f n (v + 1)) = n by omega] at g1 g4
  refine ⟨t, g1, ⟨g2, by rw [g3]; exact h2, hn, fun i hi => ?_, fun i hi => ?_, ins_srt h6⟩, g5⟩
  · rw [g4 i]
    simp only [ins]
    by_cases c : i = lb f n (v + 1)
    · rw [if_pos c, if_neg (by omega), if_pos c]
    · rw [if_neg c]
      by_cases c2 : i < lb f n (v + 1)
      · rw [if_neg (by omega), if_pos c2, h4 i (by omega)]
      · rw [if_pos (by omega), if_neg c2, if_neg c, h4 (i - 1) (by omega)]
  · simp only [ins]
    split
    · exact h5 i (by omega)
    · split
      · exact hv
      · exact h5 (i - 1) (by omega)
theorem bc_mx0 {x : Nat} (h : x < 2 ^ 31) : (if (0 : Int32) < nI x then nI x else (0 : Int32)) = nI x := by
  by_cases c : 0 < x
  · rw [if_pos (show (0 : Int32) < nI x from nI_lt (a := 0) c h)]
  · have e : x = 0 := by omega
    subst e
    rfl
theorem bc_drop_loop {b n : Nat} {x : Int32} (hn : n < 64) : ∀ (d i k : Nat) (σ : St), i + d + 1 = n → st_i σ (3 + 2 * b) = nI n → ∃ t : St, f_X0_dropOne_n20 b x (k + (d + 1)) σ (nI i) = some (1, t) ∧ st_i t (3 + 2 * b) = nI (n - 1) ∧ st_i t (4 + 2 * b) = st_i σ (4 + 2 * b) ∧ (∀ j, st_a t b j = if i ≤ j ∧ j + 1 < n then st_a σ b (j + 1) else st_a σ b j) ∧ Fr (bI b) (bA b) σ t := by
  intro d
  induction d with
  | zero =>
    intro i k σ e hs
    show ∃ t, f_X0_dropOne_n20_b b x (f_X0_dropOne_n20 b x k) σ (nI i) = _ ∧ _
    unfold f_X0_dropOne_n20_b f_X0_dropOne_n61
    rw [hs, nI_1, if_pos (nI_le (by omega) (by omega)), lt_eq, nI_sub1 (by omega)]
    refine ⟨_, rfl, by rw [si_pi, if_pos rfl], by rw [si_pi, if_neg (by omega)], fun j => ?_, fr_b1⟩
    rw [sa_pi, if_neg (by omega)]
  | succ d ih =>
    intro i k σ e hs
    show ∃ t, f_X0_dropOne_n20_b b x (f_X0_dropOne_n20 b x (k + (d + 1))) σ (nI i) = _ ∧ _
    unfold f_X0_dropOne_n20_b
    rw [hs, nI_1, if_neg (nI_ge (by omega) (by omega)), if_neg (show ¬ (64 : Int32) ≤ nI (i + 1) from nI_ge (b := 64) (by omega) (by omega)), if_pos (in_b_nI (by omega) (by omega)), if_pos (in_b_nI (by omega) (by omega)), lt_eq, lt_eq, nI_clamp (by omega), nI_clamp (by omega)]
    obtain ⟨t, g1, g2, g3, g4, g5⟩ := ih (i + 1) k (put_a σ b i (st_a σ b (i + 1))) (by omega) (by rw [si_pa]; exact hs)
    refine ⟨t, g1, g2, g3, fun j => ?_, fr_b3.tr g5⟩
    rw [g4 j]
    simp only [sa_pa, if_true, upd_at]
    by_cases c : i + 1 ≤ j ∧ j + 1 < n
    · rw [if_pos c, if_neg (by omega), if_pos (by omega)]
    · rw [if_neg c]
      by_cases c2 : j = i
      · rw [if_pos c2, if_pos (by omega), c2]
      · rw [if_neg c2, if_neg (by omega)]
theorem bc_drop {σ : St} {b n q : Nat} {f : Nat → Nat} (h : BC σ b n q f) {v : Nat} (hv : v < 2 ^ 30) : (cnt f n v = 0 ∧ f_X0_dropOne σ b (nI v) = some (0, σ)) ∨ (0 < cnt f n v ∧ ∃ t : St, f_X0_dropOne σ b (nI v) = some (1, t) ∧ BC t b (n - 1) q (del f (lb f n v)) ∧ Fr (bI b) (bA b) σ t) := by
  obtain ⟨h1, h2, h3, h4, h5, h6⟩ := id h
  unfold f_X0_dropOne
  rw [bc_holds h hv, bind_some]
  rcases Nat.eq_zero_or_pos (cnt f n v) with c | c
  · left
    have e : ¬ 0 < cnt f n v := by omega
    rw [if_neg e, if_pos rfl]
    exact ⟨c, rfl⟩
  · right
    refine ⟨c, ?_⟩
    have hc := (cnt_pos h6).1 c
    rw [if_pos c, if_neg (show ¬ (1 : Int32) = 0 by decide), bc_below h (by omega), bind_some, bc_mx0 (by omega), lt_eq]
    obtain ⟨j, hj⟩ := fuel_ge (k := (n - 1 - lb f n v) + 1) (by omega)
    rw [hj]
    obtain ⟨t, g1, g2, g3, g4, g5⟩ := bc_drop_loop (b := b) (n := n) (x := nI v) h3 (n - 1 - lb f n v) (lb f n v) j σ (by omega) h1
    refine ⟨t, g1, ⟨g2, by rw [g3]; exact h2, by omega, fun i hi => ?_, fun i hi => ?_, del_srt h6⟩, g5⟩
    · rw [g4 i]
      simp only [del]
      by_cases c2 : i < lb f n v
      · rw [if_neg (by omega), if_pos c2, h4 i (by omega)]
      · rw [if_pos (by omega), if_neg c2, h4 (i + 1) (by omega)]
    · simp only [del]
      split
      · exact h5 i (by omega)
      · exact h5 (i + 1) (by omega)
theorem bc_empty (σ : St) (b : Nat) {q : Nat} (f : Nat → Nat) : ∃ t : St, f_X0_emptyTo σ b (nI q) = some t ∧ BC t b 0 q f ∧ Fr (bI b) (bA b) σ t := by
  unfold f_X0_emptyTo
  rw [lt_eq, lt_eq]
  refine ⟨_, rfl, ⟨by rw [si_pi, if_neg (by omega), si_pi, if_pos rfl]; rfl, by rw [si_pi, if_pos rfl], by omega, fun i hi => by omega, fun i hi => by omega, fun i j _ hj => by omega⟩, fr_b1.tr fr_b2⟩
theorem bc_cut {σ : St} {b n q : Nat} {f : Nat → Nat} (h : BC σ b n q f) {k : Nat} (hk : k ≤ n) : ∃ t : St, f_X0_cutTo σ b (nI k) = some t ∧ BC t b k q f ∧ Fr (bI b) (bA b) σ t := by
  obtain ⟨h1, h2, h3, h4, h5, h6⟩ := id h
  unfold f_X0_cutTo
  rw [if_neg (nI_pos (by omega)), h1]
  by_cases c : n ≤ k
  · have : k = n := by omega
    subst this
    rw [if_pos (nI_le c (by omega))]
    exact ⟨σ, rfl, h, Fr.rf⟩
  · rw [if_neg (nI_ge (by omega) (by omega)), lt_eq]
    exact ⟨_, rfl, ⟨by rw [si_pi, if_pos rfl], by rw [si_pi, if_neg (by omega)]; exact h2, by omega, fun i hi => by rw [sa_pi]; exact h4 i (by omega), fun i hi => h5 i (by omega), h6.mono hk⟩, fr_b1⟩
theorem bc_like_loop {b b1 n q : Nat} {f : Nat → Nat} (hne : b ≠ b1) : ∀ (d i k : Nat) (σ : St), i + d = n → BC σ b1 n q f → (∀ j, j < i → st_a σ b j = nI (f j)) → ∃ t : St, f_X0_becomeLike_n2 b b1 (k + (d + 1)) σ (nI i) = some t ∧ BC t b n q f ∧ Fr (bI b) (bA b) σ t := by
  intro d
  induction d with
  | zero =>
    intro i k σ e h hc
    obtain ⟨h1, h2, h3, h4, h5, h6⟩ := id h
    show ∃ t, f_X0_becomeLike_n2_b b b1 (f_X0_becomeLike_n2 b b1 k) σ (nI i) = _ ∧ _
    unfold f_X0_becomeLike_n2_b f_X0_becomeLike_n36
    rw [h1, if_pos (nI_le (by omega) (by omega)), lt_eq, lt_eq, si_pi, if_neg (by omega), h2]
    refine ⟨_, rfl, ⟨by rw [si_pi, if_neg (by omega), si_pi, if_pos rfl], by rw [si_pi, if_pos rfl], h3, fun j hj => ?_, h5, h6⟩, fr_b1.tr fr_b2⟩
    rw [sa_pi, sa_pi]
    exact hc j (by omega)
  | succ d ih =>
    intro i k σ e h hc
    obtain ⟨h1, h2, h3, h4, h5, h6⟩ := id h
    show ∃ t, f_X0_becomeLike_n2_b b b1 (f_X0_becomeLike_n2 b b1 (k + (d + 1))) σ (nI i) = _ ∧ _
    unfold f_X0_becomeLike_n2_b
    rw [h1, if_neg (nI_ge (by omega) (by omega)), if_neg (show ¬ (64 : Int32) ≤ nI i from nI_ge (b := 64) (by omega) (by omega)), bc_at h (by omega), bind_some, if_pos (in_b_nI (by omega) (by omega)), lt_eq, lt_eq, nI_clamp (by omega), nI_1]
    have hfr : Fr (bI b) (bA b) σ (put_a σ b i (nI (f i))) := fr_b3
    obtain ⟨t, g1, g2, g3⟩ := ih (i + 1) k (put_a σ b i (nI (f i))) (by omega) (h.keep hfr (by omega) (by omega) (by omega)) (fun j hj => by
      simp only [sa_pa, if_true, upd_at]
      by_cases c : j = i
      · rw [if_pos c, c]
      · rw [if_neg c]; exact hc j (by omega))
    exact ⟨t, g1, g2, hfr.tr g3⟩
theorem bc_like {σ : St} {b b1 n q : Nat} {f : Nat → Nat} (hne : b ≠ b1) (h : BC σ b1 n q f) : ∃ t : St, f_X0_becomeLike σ b b1 = some t ∧ BC t b n q f ∧ Fr (bI b) (bA b) σ t := by
  unfold f_X0_becomeLike
  have h3 := h.2.2.1
  obtain ⟨j, hj⟩ := fuel_ge (k := n + 1) (by omega)
  rw [hj]
  exact bc_like_loop hne n 0 j σ (by omega) h (fun j hj => by omega)
theorem sh_1 : ∀ q, q < 31 → (1 : Int32) <<< (nI q &&& 31) = nI (2 ^ q) := by decide +kernel
theorem bc_slots {σ : St} {b n q : Nat} {f : Nat → Nat} (h : BC σ b n q f) (hq : q < 31) : f_X0_slotCount σ b = nI (2 ^ q) := by
  unfold f_X0_slotCount
  rw [h.2.1]
  exact sh_1 q hq
theorem p2_bound {q : Nat} (h : q ≤ 6) : 1 ≤ 2 ^ q ∧ 2 ^ q ≤ 64 := ⟨Nat.pow_pos (by omega), Nat.pow_le_pow_right (n := 2) (by omega) h⟩
theorem bc_full {σ : St} {b n q : Nat} {f : Nat → Nat} (h : BC σ b n q f) (hq : q ≤ 6) : f_X0_isFull σ b = if n + 1 < 2 ^ q then 0 else 1 := by
  have hp := p2_bound hq
  have h3 := h.2.2.1
  unfold f_X0_isFull
  rw [bc_slots h (by omega), h.1, nI_sub1 (by omega)]
  by_cases c : n + 1 < 2 ^ q
  · rw [if_pos (nI_lt (by omega) (by omega)), if_pos c]
  · rw [if_neg (nI_nlt (by omega) (by omega)), if_neg c]
