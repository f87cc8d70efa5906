/-! ===== how prints lie: the theory ===== -/
def nx (h : Nat → Nat) (c : Nat) : Nat → Nat
  | 0 => c
  | i + 1 => max (h i) (nx h c i) + 1
def po (h : Nat → Nat) (c i : Nat) : Nat := max (h i) (nx h c i)
def ov (h : Nat → Nat) (N n : Nat) : Nat := nx h 0 n - N
def sl (h : Nat → Nat) (N n i : Nat) : Nat := po h (ov h N n) i % N
def ix (s : Nat → Nat) : Nat → Nat → Nat
  | 0, _ => 0
  | k + 1, x => if s k = x then k + 1 else ix s k x
def oc (h : Nat → Nat) : Nat → Nat → Nat
  | 0, _ => 0
  | k + 1, x => if h k = x then 1 else oc h k x
def ct (h : Nat → Nat) (i : Nat) : Nat := if 0 < i ∧ h (i - 1) = h i then 1 else 0
def sf (h : Nat → Nat) (N n i : Nat) : Nat := if sl h N n i = h i then 0 else 1
/-- what the owner of a place adds to its cell: nothing where no one lies -/
def ow (b : Nat → Nat) (j : Nat) : Nat := if j = 0 then 0 else b (j - 1)
def cl (h : Nat → Nat) (N n : Nat) (rm : Nat → Nat) (k s : Nat) : Nat := oc h k s + ow (fun i => 2 * ct h i + 4 * sf h N n i + 8 * rm i) (ix (sl h N n) k s)
def mk (h : Nat → Nat) (N n k s : Nat) : Nat := cl h N n (fun _ => 0) k s
def HL (h : Nat → Nat) (N n : Nat) : Prop := (∀ i, i < n → h i < N) ∧ (∀ i j, i ≤ j → j < n → h i ≤ h j) ∧ n < N
theorem nx_max (h : Nat → Nat) (c : Nat) : ∀ i, nx h c i = max (c + i) (nx h 0 i) := by
  intro i
  induction i with
  | zero => simp only [nx]; omega
  | succ i ih => simp only [nx]; rw [ih]; omega
theorem po_nx (h : Nat → Nat) (c i : Nat) : nx h c (i + 1) = po h c i + 1 := rfl
theorem nx_mono (h : Nat → Nat) (c : Nat) : ∀ d i, nx h c i + d ≤ nx h c (i + d) := by
  intro d
  induction d with
  | zero => intro i; exact Nat.le_refl _
  | succ d ih =>
    intro i
    have := ih i
    show _ ≤ max (h (i + d)) (nx h c (i + d)) + 1
    omega
theorem po_lt {h : Nat → Nat} {c i j : Nat} (hij : i < j) : po h c i < po h c j := by
  have a := nx_mono h c (j - (i + 1)) (i + 1)
  rw [show i + 1 + (j - (i + 1)) = j by omega, po_nx] at a
  have b : nx h c j ≤ po h c j := Nat.le_max_right _ _
  omega
theorem nx_top {h : Nat → Nat} {N n : Nat} (hl : HL h N n) : nx h (ov h N n) n ≤ ov h N n + N ∧ (0 < ov h N n → nx h (ov h N n) n = ov h N n + N) := by
  have h3 := hl.2.2
  have a := nx_max h (ov h N n) n
  unfold ov at *
  omega
theorem po_rng {h : Nat → Nat} {N n i : Nat} (hl : HL h N n) (hi : i < n) : ov h N n + i ≤ po h (ov h N n) i ∧ po h (ov h N n) i < ov h N n + N := by
  have a := nx_max h (ov h N n) i
  have b : nx h (ov h N n) i ≤ po h (ov h N n) i := Nat.le_max_right _ _
  have c := nx_mono h (ov h N n) (n - (i + 1)) (i + 1)
  rw [show i + 1 + (n - (i + 1)) = n by omega, po_nx] at c
  have d := (nx_top hl).1
  omega
theorem mod_ne {a b N : Nat} (h1 : a < b) (h2 : b < a + N) : a % N ≠ b % N := by
  intro e
  have h0 : 0 < N := by omega
  have e1 := Nat.div_add_mod a N
  have e2 := Nat.div_add_mod b N
  have h3 : a / N ≤ b / N := Nat.div_le_div_right (by omega)
  rcases Nat.lt_or_ge (a / N) (b / N) with q | q
  · have : N * (a / N + 1) ≤ N * (b / N) := Nat.mul_le_mul_left _ q
    rw [Nat.mul_add] at this
    omega
  · have : a / N = b / N := by omega
    rw [this, e] at e1
    omega
theorem sl_lt {h : Nat → Nat} {N n i : Nat} (hl : HL h N n) : sl h N n i < N := Nat.mod_lt _ (by have := hl.2.2; omega)
theorem sl_inj {h : Nat → Nat} {N n i j : Nat} (hl : HL h N n) (hi : i < n) (hj : j < n) (e : sl h N n i = sl h N n j) : i = j := by
  have r1 := po_rng hl hi
  have r2 := po_rng hl hj
  rcases Nat.lt_trichotomy i j with q | q | q
  · have := po_lt (h := h) (c := ov h N n) q
    exact absurd e (mod_ne this (by omega))
  · exact q
  · have := po_lt (h := h) (c := ov h N n) q
    exact absurd e.symm (mod_ne this (by omega))
theorem ix_le (s : Nat → Nat) (x : Nat) : ∀ k, ix s k x ≤ k := by
  intro k
  induction k with
  | zero => exact Nat.le_refl _
  | succ k ih => simp only [ix]; split <;> omega
theorem ix_own (s : Nat → Nat) (x : Nat) : ∀ k, 0 < ix s k x → s (ix s k x - 1) = x := by
  intro k
  induction k with
  | zero => intro h; simp only [ix] at h; omega
  | succ k ih =>
    intro h
    simp only [ix] at h ⊢
    by_cases c : s k = x
    · rw [if_pos c]; exact c
    · rw [if_neg c] at h ⊢; exact ih h
theorem ix_no {s : Nat → Nat} {x : Nat} : ∀ {k : Nat}, ix s k x = 0 → ∀ i, i < k → s i ≠ x := by
  intro k
  induction k with
  | zero => intro _ i hi; omega
  | succ k ih =>
    intro h i hi
    simp only [ix] at h
    by_cases c : s k = x
    · rw [if_pos c] at h; omega
    · rw [if_neg c] at h
      by_cases d : i = k
      · rw [d]; exact c
      · exact ih h i (by omega)
theorem ix_at {s : Nat → Nat} {k i : Nat} (hinj : ∀ i j, i < k → j < k → s i = s j → i = j) (hi : i < k) : ix s k (s i) = i + 1 := by
  have a := ix_le s (s i) k
  rcases Nat.eq_zero_or_pos (ix s k (s i)) with q | q
  · exact absurd rfl (ix_no q i hi)
  · have b := ix_own s (s i) k q
    have := hinj (ix s k (s i) - 1) i (by omega) hi b
    omega
theorem ix_sl {h : Nat → Nat} {N n i : Nat} (hl : HL h N n) (hi : i < n) : ix (sl h N n) n (sl h N n i) = i + 1 := ix_at (fun i j hi hj e => sl_inj hl hi hj e) hi
theorem oc_01 (h : Nat → Nat) (x : Nat) : ∀ k, oc h k x = 0 ∨ oc h k x = 1 := by
  intro k
  induction k with
  | zero => exact Or.inl rfl
  | succ k ih =>
    simp only [oc]
    split
    · exact Or.inr rfl
    · exact ih
theorem oc_1 {h : Nat → Nat} {x : Nat} : ∀ {k : Nat}, oc h k x = 1 ↔ ∃ i, i < k ∧ h i = x := by
  intro k
  induction k with
  | zero =>
    constructor
    · intro z; simp only [oc] at z; omega
    · rintro ⟨i, hi, -⟩; omega
  | succ k ih =>
    simp only [oc]
    by_cases c : h k = x
    · rw [if_pos c]; exact ⟨fun _ => ⟨k, by omega, c⟩, fun _ => rfl⟩
    · rw [if_neg c, ih]
      constructor
      · rintro ⟨i, hi, e⟩; exact ⟨i, by omega, e⟩
      · rintro ⟨i, hi, e⟩
        by_cases d : i = k
        · rw [d] at e; exact absurd e c
        · exact ⟨i, by omega, e⟩
theorem ct_01 (h : Nat → Nat) (i : Nat) : ct h i = 0 ∨ ct h i = 1 := by unfold ct; split <;> omega
theorem sf_01 (h : Nat → Nat) (N n i : Nat) : sf h N n i = 0 ∨ sf h N n i = 1 := by unfold sf; split <;> omega
theorem nx_own {h : Nat → Nat} {N n : Nat} (hl : HL h N n) : ∀ i, i < n → nx h 0 i ≤ h i + i := by
  intro i
  induction i with
  | zero => intro _; simp only [nx]; omega
  | succ i ih =>
    intro hi
    have := ih (by omega)
    have := hl.2.1 i (i + 1) (by omega) hi
    simp only [nx]
    omega
theorem nx_far {h : Nat → Nat} {N n : Nat} (hl : HL h N n) (i : Nat) : ∀ d, i + d ≤ n → nx h 0 (i + d) ≤ max (nx h 0 i) (N - 1) + d := by
  intro d
  induction d with
  | zero => intro _; exact Nat.le_trans (Nat.le_max_left _ _) (Nat.le_refl _)
  | succ d ih =>
    intro hd
    have := ih (by omega)
    have := hl.1 (i + d) (by omega)
    show max (h (i + d)) (nx h 0 (i + d)) + 1 ≤ _
    omega
/-- in its own place iff it was not pushed on -/
theorem sl_home {h : Nat → Nat} {N n i : Nat} (hl : HL h N n) (hi : i < n) : sl h N n i = h i ↔ po h (ov h N n) i = h i := by
  have hN := hl.2.2
  have hhi := hl.1 i hi
  have hge : h i ≤ po h (ov h N n) i := Nat.le_max_left _ _
  constructor
  · intro e
    rcases Nat.lt_or_ge (po h (ov h N n) i) (h i + N) with q | q
    · unfold sl at e
      rcases Nat.lt_or_ge (po h (ov h N n) i) N with p | p
      · rw [Nat.mod_eq_of_lt p] at e; exact e
      · rw [Nat.mod_eq_sub_mod p] at e
        have := Nat.mod_le (po h (ov h N n) i - N) N
        omega
    · exfalso
      have a := nx_max h (ov h N n) i
      have b := nx_own hl i hi
      have c := nx_far hl i (n - i) (by omega)
      rw [show i + (n - i) = n by omega] at c
      have d : po h (ov h N n) i = max (h i) (nx h (ov h N n) i) := rfl
      have e2 : ov h N n = nx h 0 n - N := rfl
      omega
  · intro e
    unfold sl
    rw [e, Nat.mod_eq_of_lt hhi]
/-- before a pushed one the place is taken -/
theorem sl_pred {h : Nat → Nat} {N n i : Nat} (hl : HL h N n) (hi : i < n) (hs : sl h N n i ≠ h i) : ∃ j, j < n ∧ sl h N n j = (sl h N n i + N - 1) % N := by
  have hN := hl.2.2
  have hne : po h (ov h N n) i ≠ h i := fun e => hs ((sl_home hl hi).2 e)
  have d : po h (ov h N n) i = max (h i) (nx h (ov h N n) i) := rfl
  have pm : ∀ a, 0 < a → (a - 1) % N = (a % N + N - 1) % N := by
    intro a ha
    have e1 := Nat.div_add_mod a N
    have hm := Nat.mod_lt a (show 0 < N by omega)
    rcases Nat.eq_zero_or_pos (a % N) with q | q
    · rw [q] at e1
      have hq : 0 < a / N := by
        rcases Nat.eq_zero_or_pos (a / N) with z | z
        · rw [z] at e1; omega
        · exact z
      obtain ⟨k, hk⟩ : ∃ k, a / N = k + 1 := ⟨a / N - 1, by omega⟩
      have e3 : a - 1 = N - 1 + N * k := by
        rw [hk, Nat.mul_add] at e1
        omega
      rw [q, e3, Nat.add_mul_mod_self_left, Nat.zero_add]
    · have e3 : a - 1 = (a % N - 1) + N * (a / N) := by omega
      rw [e3, Nat.add_mul_mod_self_left, show a % N + N - 1 = (a % N - 1) + N by omega, Nat.add_mod_right]
  rcases Nat.eq_zero_or_pos i with z | z
  · subst z
    have h0 : nx h (ov h N n) 0 = ov h N n := rfl
    have hw : po h (ov h N n) 0 = ov h N n := by omega
    have hpos : 0 < ov h N n := by omega
    have ht := (nx_top hl).2 hpos
    have hn1 := po_nx h (ov h N n) (n - 1)
    rw [show n - 1 + 1 = n by omega, ht] at hn1
    refine ⟨n - 1, by omega, ?_⟩
    show po h (ov h N n) (n - 1) % N = (po h (ov h N n) 0 % N + N - 1) % N
    rw [← pm _ (by omega), hw, show po h (ov h N n) (n - 1) = ov h N n - 1 + N by omega, Nat.add_mod_right]
  · have h1 := po_nx h (ov h N n) (i - 1)
    rw [show i - 1 + 1 = i by omega] at h1
    have hw : po h (ov h N n) i = po h (ov h N n) (i - 1) + 1 := by omega
    refine ⟨i - 1, by omega, ?_⟩
    show po h (ov h N n) (i - 1) % N = (po h (ov h N n) i % N + N - 1) % N
    rw [← pm _ (by omega), hw, Nat.add_sub_cancel]
/-- some place is empty -/
theorem free_ex (s : Nat → Nat) : ∀ (N n : Nat), n < N → ∃ x, x < N ∧ ∀ i, i < n → s i ≠ x := by
  intro N n
  induction n generalizing s N with
  | zero => intro h; exact ⟨0, h, fun i hi => by omega⟩
  | succ n ih =>
    intro h
    -- places below N - 1, with s n moved to the last
    obtain ⟨x, hx, hf⟩ := ih (fun i => if s i = N - 1 then s n else s i) (N - 1) (by omega)
    by_cases c : s n = x
    · refine ⟨N - 1, by omega, fun i hi => ?_⟩
      intro e
      by_cases d : i = n
      · rw [d] at e; omega
      · have := hf i (by omega)
        rw [if_pos e] at this
        exact this c
    · refine ⟨x, by omega, fun i hi => ?_⟩
      intro e
      by_cases d : i = n
      · rw [d] at e; exact c e
      · have := hf i (by omega)
        rw [if_neg (by omega)] at this
        exact this e
