/-! ===== told slots: the theory of their reading ===== -/
theorem taken {h : Nat → Nat} {n c : Nat} (hs : Srt h n) : ∀ k, k < n → ∀ x, h k ≤ x → x ≤ po h c k → c ≤ x → ∃ k', k' ≤ k ∧ po h c k' = x := by
  intro k
  induction k with
  | zero =>
    intro _ x h1 h2 h3
    refine ⟨0, Nat.le_refl _, ?_⟩
    have : po h c 0 = max (h 0) c := rfl
    omega
  | succ k ih =>
    intro hk x h1 h2 h3
    have e : po h c (k + 1) = max (h (k + 1)) (po h c k + 1) := rfl
    have m := hs k (k + 1) (by omega) hk
    by_cases q : x = po h c (k + 1)
    · exact ⟨k + 1, Nat.le_refl _, q.symm⟩
    · obtain ⟨k', a, b⟩ := ih (by omega) x (by omega) (by omega) h3
      exact ⟨k', by omega, b⟩
theorem po_srt (h : Nat → Nat) (c n : Nat) : Srt (po h c) n := by
  intro i j hij _
  rcases Nat.lt_or_ge i j with q | q
  · exact Nat.le_of_lt (po_lt q)
  · rw [show i = j by omega]; exact Nat.le_refl _
def RT (B : Nat → Nat) (N n : Nat) : Prop := Srt B n ∧ ∀ m, m < n → po B 0 m < N
def rot (k0 n m : Nat) : Nat := if k0 + m < n then k0 + m else k0 + m - n
def rB0 (h : Nat → Nat) (N n b k0 m : Nat) : Nat := if k0 + m < n then h (k0 + m) - b else h (k0 + m - n) + N - b
theorem rot_po {h : Nat → Nat} {N n b k0 : Nat} (hl : HL h N n) (hb : b ≤ N) (hk : k0 ≤ n) (hw : ov h N n ≤ b) (h1 : ∀ k, k < k0 → po h (ov h N n) k < b) (h2 : ∀ k, k0 ≤ k → k < n → b ≤ h k) : ∀ m, m < n → po (rB0 h N n b k0) 0 m = if k0 + m < n then po h (ov h N n) (k0 + m) - b else po h (ov h N n) (k0 + m - n) + N - b := by
  have top := nx_top hl
  have hp0 : po h (ov h N n) 0 = max (h 0) (ov h N n) := rfl
  have last : 0 < n → nx h (ov h N n) n = po h (ov h N n) (n - 1) + 1 := by
    intro z
    have := po_nx h (ov h N n) (n - 1)
    rw [show n - 1 + 1 = n by omega] at this
    exact this
  have stp : ∀ k, po h (ov h N n) (k + 1) = max (h (k + 1)) (po h (ov h N n) k + 1) := fun k => rfl
  intro m
  induction m with
  | zero =>
    intro hm
    have e : po (rB0 h N n b k0) 0 0 = rB0 h N n b k0 0 := by
      show max (rB0 h N n b k0 0) 0 = _
      omega
    rw [e]
    unfold rB0
    rw [Nat.add_zero]
    by_cases c : k0 < n
    · rw [if_pos c, if_pos c]
      have a2 := h2 k0 (by omega) c
      rcases Nat.eq_zero_or_pos k0 with z | z
      · rw [z] at a2 ⊢
        omega
      · have a1 := h1 (k0 - 1) (by omega)
        have s := stp (k0 - 1)
        rw [show k0 - 1 + 1 = k0 by omega] at s
        omega
    · rw [if_neg c, if_neg c]
      have : k0 = n := by omega
      subst this
      have a1 := h1 (k0 - 1) (by omega)
      have l := last (by omega)
      rw [Nat.sub_self]
      have : ov h N k0 = 0 := by
        rcases Nat.eq_zero_or_pos (ov h N k0) with z | z
        · exact z
        · have := top.2 z; omega
      omega
  | succ m ih =>
    intro hm
    have i := ih (by omega)
    have e : po (rB0 h N n b k0) 0 (m + 1) = max (rB0 h N n b k0 (m + 1)) (po (rB0 h N n b k0) 0 m + 1) := rfl
    rw [e, i]
    unfold rB0
    by_cases c : k0 + (m + 1) < n
    · rw [if_pos c, if_pos c, if_pos (by omega)]
      have s := stp (k0 + m)
      have a2 := h2 (k0 + m) (by omega) (by omega)
      have a3 := h2 (k0 + (m + 1)) (by omega) (by omega)
      have g : h (k0 + m) ≤ po h (ov h N n) (k0 + m) := Nat.le_max_left _ _
      rw [show k0 + m + 1 = k0 + (m + 1) by omega] at s
      omega
    · rw [if_neg c, if_neg c]
      by_cases c2 : k0 + m < n
      · rw [if_pos c2, show k0 + (m + 1) - n = 0 by omega]
        have l := last (by omega)
        have : k0 + m = n - 1 := by omega
        rw [this]
        have a2 := h2 (n - 1) (by omega) (by omega)
        have g : h (n - 1) ≤ po h (ov h N n) (n - 1) := Nat.le_max_left _ _
        rcases Nat.eq_zero_or_pos (ov h N n) with z | z
        · omega
        · have := top.2 z; omega
      · rw [if_neg c2]
        have s := stp (k0 + m - n)
        rw [show k0 + m - n + 1 = k0 + (m + 1) - n by omega] at s
        omega
theorem rot_lt {k0 n m : Nat} (hk : k0 ≤ n) (hm : m < n) : rot k0 n m < n := by unfold rot; split <;> omega
theorem rot_sur {k0 n k : Nat} (hk : k0 ≤ n) (h : k < n) : ∃ m, m < n ∧ rot k0 n m = k := by
  by_cases c : k0 ≤ k
  · exact ⟨k - k0, by omega, by unfold rot; rw [if_pos (by omega)]; omega⟩
  · exact ⟨k + n - k0, by omega, by unfold rot; rw [if_neg (by omega)]; omega⟩
/-- turned so that no one is pushed over the end -/
def Rotd (h : Nat → Nat) (N n b k0 : Nat) (B : Nat → Nat) : Prop := (b ≤ N) ∧ (k0 ≤ n) ∧ (Srt B n) ∧ (∀ m, m < n → po B 0 m < N) ∧ (∀ m, m < n → (b + B m) % N = h (rot k0 n m)) ∧ (∀ m, m < n → (b + po B 0 m) % N = sl h N n (rot k0 n m)) ∧ (∀ m, m < n → ct B m = ct h (rot k0 n m)) ∧ (∀ m, m < n → (po B 0 m = B m ↔ sl h N n (rot k0 n m) = h (rot k0 n m))) ∧ (∀ m, m < n → po B 0 m = if k0 + m < n then po h (ov h N n) (k0 + m) - b else po h (ov h N n) (k0 + m - n) + N - b)
theorem Rotd.hb {h : Nat → Nat} {N n b k0 : Nat} {B : Nat → Nat} (z : Rotd h N n b k0 B) : b ≤ N := z.1
theorem Rotd.hk {h : Nat → Nat} {N n b k0 : Nat} {B : Nat → Nat} (z : Rotd h N n b k0 B) : k0 ≤ n := z.2.1
theorem Rotd.srt {h : Nat → Nat} {N n b k0 : Nat} {B : Nat → Nat} (z : Rotd h N n b k0 B) : Srt B n := z.2.2.1
theorem Rotd.lt {h : Nat → Nat} {N n b k0 : Nat} {B : Nat → Nat} (z : Rotd h N n b k0 B) : ∀ m, m < n → po B 0 m < N := z.2.2.2.1
theorem Rotd.home {h : Nat → Nat} {N n b k0 : Nat} {B : Nat → Nat} (z : Rotd h N n b k0 B) : ∀ m, m < n → (b + B m) % N = h (rot k0 n m) := z.2.2.2.2.1
theorem Rotd.slot {h : Nat → Nat} {N n b k0 : Nat} {B : Nat → Nat} (z : Rotd h N n b k0 B) : ∀ m, m < n → (b + po B 0 m) % N = sl h N n (rot k0 n m) := z.2.2.2.2.2.1
theorem Rotd.same {h : Nat → Nat} {N n b k0 : Nat} {B : Nat → Nat} (z : Rotd h N n b k0 B) : ∀ m, m < n → ct B m = ct h (rot k0 n m) := z.2.2.2.2.2.2.1
theorem Rotd.own {h : Nat → Nat} {N n b k0 : Nat} {B : Nat → Nat} (z : Rotd h N n b k0 B) : ∀ m, m < n → (po B 0 m = B m ↔ sl h N n (rot k0 n m) = h (rot k0 n m)) := z.2.2.2.2.2.2.2.1
theorem Rotd.val {h : Nat → Nat} {N n b k0 : Nat} {B : Nat → Nat} (z : Rotd h N n b k0 B) : ∀ m, m < n → po B 0 m = if k0 + m < n then po h (ov h N n) (k0 + m) - b else po h (ov h N n) (k0 + m - n) + N - b := z.2.2.2.2.2.2.2.2
theorem rotd {h : Nat → Nat} {N n b k0 : Nat} (hl : HL h N n) (hb : b ≤ N) (hk : k0 ≤ n) (hw : ov h N n ≤ b) (h1 : ∀ k, k < k0 → po h (ov h N n) k < b) (h2 : ∀ k, k0 ≤ k → k < n → b ≤ h k) : Rotd h N n b k0 (rB0 h N n b k0) := by
  have val := rot_po hl hb hk hw h1 h2
  have ge : ∀ k, h k ≤ po h (ov h N n) k := fun k => Nat.le_max_left _ _
  refine ⟨hb, hk, ?_, ?_, ?_, ?_, ?_, ?_, val⟩
  · intro i j hij hj
    unfold rB0
    by_cases c : k0 + j < n
    · rw [if_pos c, if_pos (by omega)]
      have := hl.2.1 (k0 + i) (k0 + j) (by omega) c
      omega
    · rw [if_neg c]
      by_cases c2 : k0 + i < n
      · rw [if_pos c2]
        have := hl.1 (k0 + i) c2
        omega
      · rw [if_neg c2]
        have := hl.2.1 (k0 + i - n) (k0 + j - n) (by omega) (by omega)
        omega
  · intro m hm
    rw [val m hm]
    by_cases c : k0 + m < n
    · rw [if_pos c]
      have := (po_rng hl c).2
      have := h2 _ (by omega) c
      have := ge (k0 + m)
      omega
    · rw [if_neg c]
      have := h1 (k0 + m - n) (by omega)
      omega
  · intro m hm
    unfold rB0 rot
    by_cases c : k0 + m < n
    · rw [if_pos c, if_pos c]
      have := h2 _ (by omega) c
      have := hl.1 _ c
      rw [show b + (h (k0 + m) - b) = h (k0 + m) by omega, Nat.mod_eq_of_lt this]
    · rw [if_neg c, if_neg c]
      have := hl.1 (k0 + m - n) (by omega)
      rw [show b + (h (k0 + m - n) + N - b) = h (k0 + m - n) + N by omega, Nat.add_mod_right, Nat.mod_eq_of_lt this]
  · intro m hm
    rw [val m hm]
    unfold rot sl
    by_cases c : k0 + m < n
    · rw [if_pos c, if_pos c]
      have := h2 _ (by omega) c
      have := ge (k0 + m)
      rw [show b + (po h (ov h N n) (k0 + m) - b) = po h (ov h N n) (k0 + m) by omega]
    · rw [if_neg c, if_neg c, show b + (po h (ov h N n) (k0 + m - n) + N - b) = po h (ov h N n) (k0 + m - n) + N by omega, Nat.add_mod_right]
  · intro m hm
    unfold ct rB0 rot
    by_cases c : k0 + m < n
    · rw [if_pos c, if_pos c]
      rcases Nat.eq_zero_or_pos m with z | z
      · subst z
        rw [if_neg (by omega), Nat.add_zero]
        rw [Nat.add_zero] at c
        rw [if_neg]
        rintro ⟨a, e⟩
        have := h1 (k0 - 1) (by omega)
        have := ge (k0 - 1)
        have := h2 k0 (by omega) c
        omega
      · rw [if_pos (show k0 + (m - 1) < n by omega)]
        have a := h2 (k0 + (m - 1)) (by omega) (by omega)
        have a' := h2 (k0 + m) (by omega) (by omega)
        rw [show k0 + m - 1 = k0 + (m - 1) by omega]
        by_cases e : h (k0 + (m - 1)) = h (k0 + m)
        · rw [if_pos (by omega), if_pos (by omega)]
        · rw [if_neg (by omega), if_neg (by omega)]
    · rw [if_neg c, if_neg c]
      by_cases c2 : k0 + m = n
      · rw [show k0 + m - n = 0 by omega]
        rw [if_neg (show ¬ (0 < 0 ∧ _) by omega), if_neg]
        rintro ⟨a, e⟩
        rw [if_pos (show k0 + (m - 1) < n by omega)] at e
        have := hl.1 (k0 + (m - 1)) (by omega)
        have := h2 (k0 + (m - 1)) (by omega) (by omega)
        omega
      · rw [if_neg (show ¬ k0 + (m - 1) < n by omega)]
        rw [show k0 + m - n - 1 = k0 + (m - 1) - n by omega]
        by_cases e : h (k0 + (m - 1) - n) = h (k0 + m - n)
        · rw [if_pos (by omega), if_pos (by omega)]
        · rw [if_neg (by omega), if_neg (by omega)]
  · intro m hm
    rw [sl_home hl (rot_lt hk hm), val m hm]
    unfold rB0 rot
    by_cases c : k0 + m < n
    · rw [if_pos c, if_pos c, if_pos c]
      have := h2 _ (by omega) c
      have := ge (k0 + m)
      omega
    · rw [if_neg c, if_neg c, if_neg c]
      have := ge (k0 + m - n)
      omega
/-- behind an empty place -/
theorem base_C {h : Nat → Nat} {N n e : Nat} (hl : HL h N n) (he : e < N) (hf : ∀ k, k < n → sl h N n k ≠ e) : ∃ k0 B, Rotd h N n (e + 1) k0 B := by
  have hs : Srt h n := fun i j a b => hl.2.1 i j a b
  have hne : ∀ k, k < n → po h (ov h N n) k ≠ e ∧ po h (ov h N n) k ≠ N + e := by
    intro k hk
    refine ⟨fun z => hf k hk ?_, fun z => hf k hk ?_⟩
    · unfold sl; rw [z, Nat.mod_eq_of_lt he]
    · unfold sl; rw [z, Nat.add_mod_left, Nat.mod_eq_of_lt he]
  have hw : ov h N n ≤ e := by
    rcases Nat.lt_or_ge e (ov h N n) with q | q
    · exfalso
      have t := (nx_top hl).2 (by omega)
      have hn : 0 < n := by
        rcases Nat.eq_zero_or_pos n with z | z
        · exfalso
          rw [z] at q
          unfold ov at q
          simp only [nx] at q
          omega
        · exact z
      have l := po_nx h (ov h N n) (n - 1)
      rw [show n - 1 + 1 = n by omega] at l
      have hw2 : ov h N n ≤ N := by
        have := nx_far hl 0 n (by omega)
        rw [Nat.zero_add] at this
        simp only [nx] at this
        unfold ov
        have := hl.2.2
        omega
      have hh1 := hl.1 (n - 1) (by omega)
      obtain ⟨k', a, b⟩ := taken (c := ov h N n) hs (n - 1) (by omega) (N + e) (by omega) (by omega) (by omega)
      exact (hne k' (by omega)).2 b
    · exact q
  have hps := po_srt h (ov h N n) n
  have li := lb_iff hps (e + 1)
  refine ⟨lb (po h (ov h N n)) n (e + 1), _, rotd hl (by omega) (lb_le _ _ _) (by omega) (fun k hk => (li k (by have := lb_le (po h (ov h N n)) n (e + 1); omega)).2 hk) (fun k h1 h2 => ?_)⟩
  have a : ¬ po h (ov h N n) k < e + 1 := fun z => by have := (li k h2).1 z; omega
  rcases Nat.lt_or_ge e (h k) with q | q
  · exact q
  · exfalso
    obtain ⟨k', x, y⟩ := taken (c := ov h N n) hs k h2 e q (by omega) hw
    exact (hne k' (by omega)).1 y
theorem least (Q : Nat → Prop) : ∀ m, (∃ k, k < m ∧ Q k ∧ ∀ j, j < k → ¬ Q j) ∨ ∀ k, k < m → ¬ Q k := by
  intro m
  induction m with
  | zero => exact Or.inr (fun k hk => by omega)
  | succ m ih =>
    rcases ih with ⟨k, a, b, c⟩ | a
    · exact Or.inl ⟨k, by omega, b, c⟩
    · rcases Classical.em (Q m) with q | q
      · exact Or.inl ⟨m, by omega, q, a⟩
      · refine Or.inr (fun k hk => ?_)
        by_cases e : k = m
        · rw [e]; exact q
        · exact a k (by omega)
/-- from the first who lies at home -/
theorem base_M {h : Nat → Nat} {N n : Nat} (hl : HL h N n) : ∃ b k0 B, Rotd h N n b k0 B ∧ (0 < n → b < N ∧ po B 0 0 = 0 ∧ B 0 = 0) ∧ (∀ m, m < n → po B 0 m = B m → b + B m < N) := by
  have hs : Srt h n := fun i j a b => hl.2.1 i j a b
  have stp : ∀ k, po h (ov h N n) (k + 1) = max (h (k + 1)) (po h (ov h N n) k + 1) := fun k => rfl
  have hp0 : po h (ov h N n) 0 = max (h 0) (ov h N n) := rfl
  rcases Nat.eq_zero_or_pos n with z | z
  · subst z
    have : ov h N 0 = 0 := by unfold ov; simp only [nx]; omega
    exact ⟨0, 0, _, rotd hl (by omega) (by omega) (by omega) (fun k hk => by omega) (fun k _ hk => by omega), fun z => by omega, fun m hm => by omega⟩
  · rcases least (fun k => po h (ov h N n) k = h k) n with ⟨k, a, b, c⟩ | a
    · have hh1 := hl.1 k a
      have hr := (po_rng hl a).1
      have R := rotd hl (b := h k) (k0 := k) (by omega) (by omega) (by omega) (fun j hj => by have := po_lt (h := h) (c := ov h N n) hj; omega) (fun j h1 h2 => hs k j h1 h2)
      have hB0 : rB0 h N n (h k) k 0 = 0 := by
        unfold rB0
        rw [Nat.add_zero, if_pos a, Nat.sub_self]
      refine ⟨h k, k, _, R, fun _ => ⟨hh1, ?_, hB0⟩, fun m hm e => ?_⟩
      · show max (rB0 h N n (h k) k 0) 0 = 0
        rw [hB0]; rfl
      · have o := (sl_home hl (rot_lt R.hk hm)).1 ((R.own m hm).1 e)
        unfold rot at o
        unfold rB0
        by_cases q : k + m < n
        · rw [if_pos q] at o ⊢
          have := hl.1 _ q
          have := hs k (k + m) (by omega) q
          omega
        · rw [if_neg q] at o
          exact absurd o (c _ (by omega))
    · exfalso
      have e : ∀ k, k < n → po h (ov h N n) k = ov h N n + k := by
        intro k
        induction k with
        | zero => intro hk; have := a 0 hk; omega
        | succ k ih =>
          intro hk
          have := ih (by omega)
          have := a (k + 1) hk
          have := stp k
          omega
      have e0 := e 0 z
      have a0 := a 0 z
      have t := (nx_top hl).2 (by omega)
      have l := po_nx h (ov h N n) (n - 1)
      rw [show n - 1 + 1 = n by omega] at l
      have := e (n - 1) (by omega)
      have := hl.2.2
      omega
