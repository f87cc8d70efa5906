/-! ===== pure rows: states, numbers, sorted rows ===== -/
theorem si_pi (σ : St) (k j : Nat) (v : Int32) : st_i (put_i σ k v) j = if j = k then v else st_i σ j := rfl
theorem si_pa (σ : St) (k i j : Nat) (v : Int32) : st_i (put_a σ k i v) j = st_i σ j := rfl
theorem si_pl (σ : St) (k i j : Nat) (v : Int64) : st_i (put_l σ k i v) j = st_i σ j := rfl
theorem sa_pi (σ : St) (k j : Nat) (v : Int32) : st_a (put_i σ k v) j = st_a σ j := rfl
theorem sa_pl (σ : St) (k i j : Nat) (v : Int64) : st_a (put_l σ k i v) j = st_a σ j := rfl
theorem sa_pa (σ : St) (k i j : Nat) (v : Int32) : st_a (put_a σ k i v) j = if j = k then upd (st_a σ k) i v else st_a σ j := rfl
theorem sl_pi (σ : St) (k j : Nat) (v : Int32) : st_l (put_i σ k v) j = st_l σ j := rfl
theorem sl_pa (σ : St) (k i j : Nat) (v : Int32) : st_l (put_a σ k i v) j = st_l σ j := rfl
theorem sl_pl (σ : St) (k i j : Nat) (v : Int64) : st_l (put_l σ k i v) j = if j = k then vp_updL (st_l σ k) i v else st_l σ j := rfl
theorem upd_at (f : Nat → Int32) (i j : Nat) (v : Int32) : upd f i v j = if j = i then v else f j := rfl
theorem updL_at (f : Nat → Int64) (i j : Nat) (v : Int64) : vp_updL f i v j = if j = i then v else f j := rfl
theorem upd_twice (f : Nat → Int32) (i : Nat) (x y : Int32) : upd (upd f i x) i y = upd f i y := by
  funext j
  simp only [upd_at]
  split <;> rfl
theorem in_b_nI {k n : Nat} (h : k < n) (hn : n < 2 ^ 31) : in_b (nI k) n = true := by
  simp only [in_b, Bool.and_eq_true, Bool.not_eq_true', decide_eq_false_iff_not, decide_eq_true_eq]
  exact ⟨nI_pos (by omega), by rw [nI_clamp (by omega)]; exact h⟩
theorem bind_some {α β : Type} (x : α) (f : α → Option β) : (some x).bind f = f x := rfl
theorem bind2_some {α β γ : Type} (x : α) (y : β) (f : α → β → Option γ) : bind2 (some (x, y)) f = f x y := rfl
theorem lt_eq {α β : Type} (x : α) (f : α → β) : lt_ x f = f x := rfl
theorem nI_sub1 {k : Nat} (h : 0 < k) : nI k - 1 = nI (k - 1) := by
  obtain ⟨j, rfl⟩ : ∃ j, k = j + 1 := ⟨k - 1, by omega⟩
  exact nI_pred j
theorem nI_inj {a b : Nat} (ha : a < 2 ^ 31) (hb : b < 2 ^ 31) (h : nI a = nI b) : a = b := (nI_eq ha hb).1 h
theorem fuel_ge {k : Nat} (h : k ≤ 20000) : ∃ j, fuel = j + k := ⟨20000 - k, by unfold fuel; omega⟩
/-- the number of places below n whose value is below v -/
def lb (f : Nat → Nat) : Nat → Nat → Nat
  | 0, _ => 0
  | n + 1, v => lb f n v + (if f n < v then 1 else 0)
def Srt (f : Nat → Nat) (n : Nat) : Prop := ∀ i j, i ≤ j → j < n → f i ≤ f j
theorem Srt.mono {f : Nat → Nat} {n m : Nat} (h : Srt f n) (hm : m ≤ n) : Srt f m := fun i j h1 h2 => h i j h1 (by omega)
theorem lb_le (f : Nat → Nat) (n v : Nat) : lb f n v ≤ n := by
  induction n with
  | zero => exact Nat.le_refl _
  | succ n ih =>
    simp only [lb]
    split <;> omega
theorem lb_iff {f : Nat → Nat} {n : Nat} (hs : Srt f n) (v : Nat) : ∀ i, i < n → (f i < v ↔ i < lb f n v) := by
  induction n with
  | zero => intro i h; omega
  | succ n ih =>
    intro i hi
    have ih' := ih (hs.mono (by omega))
    have hle := lb_le f n v
    simp only [lb]
    by_cases hq : f n < v
    · rw [if_pos hq]
      have hall : lb f n v = n := by
        rcases Nat.lt_or_ge (lb f n v) n with q | q
        · have h1 := ih' (lb f n v) q
          have h2 := hs (lb f n v) n (by omega) (by omega)
          omega
        · omega
      rw [hall]
      refine ⟨fun _ => by omega, fun _ => ?_⟩
      have := hs i n (by omega) (by omega)
      omega
    · rw [if_neg hq]
      rcases Nat.lt_or_ge i n with q | q
      · exact ih' i q
      · have : i = n := by omega
        subst this
        omega
theorem lb_uniq {f : Nat → Nat} {n v k : Nat} (hs : Srt f n) (hk : k ≤ n) (h : ∀ i, i < n → (f i < v ↔ i < k)) : lb f n v = k := by
  have h1 := lb_iff hs v
  have h2 := lb_le f n v
  rcases Nat.lt_trichotomy (lb f n v) k with q | q | q
  · have a := h (lb f n v) (by omega)
    have b := h1 (lb f n v) (by omega)
    omega
  · exact q
  · have a := h k (by omega)
    have b := h1 k (by omega)
    omega
theorem lb_mono {f : Nat → Nat} {n v w : Nat} (h : v ≤ w) : lb f n v ≤ lb f n w := by
  induction n with
  | zero => exact Nat.le_refl _
  | succ n ih =>
    simp only [lb]
    split <;> split <;> omega
/-- a row with v put at place p -/
def ins (f : Nat → Nat) (p v : Nat) : Nat → Nat := fun j => if j < p then f j else if j = p then v else f (j - 1)
/-- a row without its place p -/
def del (f : Nat → Nat) (p : Nat) : Nat → Nat := fun j => if j < p then f j else f (j + 1)
theorem ins_srt {f : Nat → Nat} {n v : Nat} (hs : Srt f n) : Srt (ins f (lb f n (v + 1)) v) (n + 1) := by
  have h1 := lb_iff hs (v + 1)
  have h2 := lb_le f n (v + 1)
  intro i j hij hj
  simp only [ins]
  generalize lb f n (v + 1) = p at h1 h2
  by_cases a : i < p
  · rw [if_pos a]
    by_cases b : j < p
    · rw [if_pos b]; exact hs i j hij (by omega)
    · rw [if_neg b]
      by_cases c : j = p
      · rw [if_pos c]
        have := (h1 i (by omega)).2 a
        omega
      · rw [if_neg c]; exact hs i (j - 1) (by omega) (by omega)
  · rw [if_neg a]
    have b : ¬ j < p := by omega
    rw [if_neg b]
    by_cases c : i = p
    · rw [if_pos c]
      by_cases d : j = p
      · rw [if_pos d]; exact Nat.le_refl _
      · rw [if_neg d]
        have := (h1 (j - 1) (by omega))
        omega
    · rw [if_neg c, if_neg (by omega)]
      exact hs (i - 1) (j - 1) (by omega) (by omega)
theorem del_srt {f : Nat → Nat} {n p : Nat} (hs : Srt f n) : Srt (del f p) (n - 1) := by
  intro i j hij hj
  simp only [del]
  split <;> split
  · exact hs i j hij (by omega)
  · exact hs i (j + 1) (by omega) (by omega)
  · omega
  · exact hs (i + 1) (j + 1) (by omega) (by omega)
/-- the class's bag b: its size, q, prints -/
def BC (σ : St) (b n q : Nat) (f : Nat → Nat) : Prop := st_i σ (3 + 2 * b) = nI n ∧ st_i σ (4 + 2 * b) = nI q ∧ n < 64 ∧ (∀ i, i < n → st_a σ b i = nI (f i)) ∧ (∀ i, i < n → f i < 16384) ∧ Srt f n
theorem bc_at {σ : St} {b n q : Nat} {f : Nat → Nat} (h : BC σ b n q f) {i : Nat} (hi : i < n) : f_X0_at σ b (nI i) = some (nI (f i)) := by
  obtain ⟨h1, h2, h3, h4, h5, h6⟩ := h
  unfold f_X0_at
  rw [h1, if_neg (nI_pos (by omega)), if_neg (nI_ge hi (by omega)), if_neg (show ¬ (64 : Int32) ≤ nI i from nI_ge (b := 64) (by omega) (by omega)), if_pos (in_b_nI (by omega) (by omega)), nI_clamp (by omega), h4 i hi]
theorem bc_below_loop {σ : St} {b n q : Nat} {f : Nat → Nat} (h : BC σ b n q f) {v : Nat} (hv : v < 2 ^ 31) : ∀ (m low k : Nat), m ≤ 5 → low ≤ lb f n v → lb f n v < low + 2 ^ (m + 1) → f_X0_below_n5 σ b (nI v) (k + (m + 2)) (nI low) (nI (2 ^ m)) = some (nI (lb f n v)) := by
  obtain ⟨h1, h2, h3, h4, h5, h6⟩ := id h
  have hle := lb_le f n v
  have hiff := lb_iff h6 v
  intro m
  induction m with
  | zero =>
    intro low k _ hl hu
    show f_X0_below_n5_b σ b (nI v) (f_X0_below_n5 σ b (nI v) (k + 1)) (nI low) (nI 1) = _
    unfold f_X0_below_n5_b
    rw [if_neg (show ¬ nI 1 ≤ 0 by decide), h1]
    have sh : nI 1 >>> ((1 : Int32) &&& 31) = nI 0 := by decide
    have fin : ∀ x : Nat, f_X0_below_n5 σ b (nI v) (k + 1) (nI x) (nI 0) = some (nI x) := by
      intro x
      show f_X0_below_n5_b σ b (nI v) (f_X0_below_n5 σ b (nI v) k) (nI x) (nI 0) = _
      unfold f_X0_below_n5_b
      rw [if_pos (by decide)]
    rw [nI_add]
    by_cases c : n < low + 1
    · rw [if_pos (nI_lt c (by omega)), lt_eq, sh, fin]
      have : low = lb f n v := by omega
      rw [this]
    · rw [if_neg (nI_nlt (by omega) (by omega)), nI_sub1 (by omega), bc_at h (by omega), bind_some]
      have e : low + 1 - 1 = low := by omega
      rw [e]
      have hb := h5 low (by omega)
      by_cases d : v ≤ f low
      · rw [if_pos (nI_le d (by omega)), lt_eq, sh, fin]
        have := hiff low (by omega)
        have : low = lb f n v := by omega
        rw [this]
      · rw [if_neg (nI_ge (by omega) (by omega)), lt_eq, lt_eq, sh, fin]
        have := (hiff low (by omega)).1 (by omega)
        have : low + 1 = lb f n v := by omega
        rw [this]
  | succ m ih =>
    intro low k hm hl hu
    show f_X0_below_n5_b σ b (nI v) (f_X0_below_n5 σ b (nI v) (k + (m + 2))) (nI low) (nI (2 ^ (m + 1))) = _
    unfold f_X0_below_n5_b
    have hp : 2 ^ (m + 1) = 2 * 2 ^ m := by rw [Nat.pow_succ]; omega
    have hp2 : 2 ^ (m + 1 + 1) = 2 * 2 ^ (m + 1) := by rw [Nat.pow_succ]; omega
    have hpos : 0 < 2 ^ m := Nat.pow_pos (by omega)
    have hb32 : 2 ^ m ≤ 32 := Nat.pow_le_pow_right (n := 2) (by omega) (show m ≤ 5 by omega)
    have sh : nI (2 ^ (m + 1)) >>> ((1 : Int32) &&& 31) = nI (2 ^ m) := by
      rw [pk_shrN (by omega) _ 1 (by decide), hp]
      congr 1
      omega
    rw [if_neg (nI_nle (by omega) (by omega)), h1, nI_add]
    by_cases c : n < low + 2 ^ (m + 1)
    · rw [if_pos (nI_lt c (by omega)), lt_eq, sh]
      exact ih low k (by omega) hl (by omega)
    · rw [if_neg (nI_nlt (by omega) (by omega)), nI_sub1 (by omega), bc_at h (by omega), bind_some]
      have hb := h5 (low + 2 ^ (m + 1) - 1) (by omega)
      have hq := hiff (low + 2 ^ (m + 1) - 1) (by omega)
      by_cases d : v ≤ f (low + 2 ^ (m + 1) - 1)
      · rw [if_pos (nI_le d (by omega)), lt_eq, sh]
        exact ih low k (by omega) hl (by omega)
      · rw [if_neg (nI_ge (by omega) (by omega)), lt_eq, lt_eq, sh]
        exact ih (low + 2 ^ (m + 1)) k (by omega) (by omega) (by omega)
theorem bc_below {σ : St} {b n q : Nat} {f : Nat → Nat} (h : BC σ b n q f) {v : Nat} (hv : v < 2 ^ 31) : f_X0_below σ b (nI v) = some (nI (lb f n v)) := by
  unfold f_X0_below
  obtain ⟨j, hj⟩ := fuel_ge (k := 7) (by omega)
  rw [hj]
  have h3 := h.2.2.1
  have hle := lb_le f n v
  exact bc_below_loop h hv 5 0 j (by omega) (by omega) (by omega)
