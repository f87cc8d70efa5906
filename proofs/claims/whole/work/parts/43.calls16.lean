/-! clusters -/
theorem md {a N : Nat} (h : a < N + N) : a % N = if a < N then a else a - N := by
  by_cases c : a < N
  · rw [if_pos c, Nat.mod_eq_of_lt c]
  · rw [if_neg c, Nat.mod_eq_sub_mod (by omega), Nat.mod_eq_of_lt (by omega)]
theorem sB_full {f : Nat → Nat} {n q r s : Nat} (h : sB f n q r s = 1) : 0 < iB f n q r s := by
  unfold sB ow at h
  unfold iB
  by_cases c : ix (sl (hh f r) (2 ^ q) n) n s = 0
  · rw [if_pos c] at h; omega
  · omega
theorem sB_pred {f : Nat → Nat} {n q r s : Nat} (hl : HL (hh f r) (2 ^ q) n) (h : sB f n q r s = 1) : 0 < iB f n q r ((s + 2 ^ q - 1) % 2 ^ q) := by
  have hf := sB_full h
  rcases ix_cases (f := f) (n := n) (q := q) (r := r) (s := s) with ⟨z, -⟩ | ⟨i, hi, z1, z2, z3⟩
  · omega
  · have hs : sl (hh f r) (2 ^ q) n i ≠ hh f r i := by
      intro e
      unfold sB ow at h
      unfold iB at z1
      rw [z1, if_neg (by omega), Nat.add_sub_cancel] at h
      unfold sf at h
      rw [if_pos e] at h
      omega
    obtain ⟨j, hj, ej⟩ := sl_pred hl hi hs
    rw [z3] at ej
    unfold iB
    rw [← ej, ix_sl hl hj]
    omega
theorem free_slot {f : Nat → Nat} {n q r : Nat} (hl : HL (hh f r) (2 ^ q) n) : ∃ x, x < 2 ^ q ∧ iB f n q r x = 0 := by
  obtain ⟨x, hx, hf⟩ := free_ex (sl (hh f r) (2 ^ q) n) (2 ^ q) n hl.2.2
  refine ⟨x, hx, ?_⟩
  rcases ix_cases (f := f) (n := n) (q := q) (r := r) (s := x) with ⟨z, -⟩ | ⟨i, hi, z1, z2, z3⟩
  · exact z
  · exact absurd z3 (hf i hi)
theorem hold_M {u : St} {n q r : Nat} {f : Nat → Nat} (l2 : LM u n q r f) (hn : n < 64) {s : Nat} (hs : s < 2 ^ q) : (st_a u 5 s < 0 ↔ iB f n q r s = 0) ∧ (0 ≤ st_a u 5 s ↔ 0 < iB f n q r s) := by
  rw [l2.2.1 s hs]
  have hle : iB f n q r s ≤ n := ix_le _ _ _
  show (nI (iB f n q r s) - 1 < 0 ↔ _) ∧ (0 ≤ nI (iB f n q r s) - 1 ↔ _)
  generalize iB f n q r s = j at *
  by_cases c : j = 0
  · subst c
    exact ⟨⟨fun _ => rfl, fun _ => by decide⟩, ⟨fun z => absurd z (by decide), fun z => by omega⟩⟩
  · rw [Sub1 j]
    exact ⟨⟨fun z => absurd z (Pos (j - 1)), fun z => absurd z c⟩, ⟨fun _ => by omega, fun _ => NNeg (j - 1)⟩⟩
theorem idx_C {t : St} {c n q r : Nat} {f : Nat → Nat} (l1 : LY t c n q r f) (hq : q ≤ 6) (hn : n < 64) {s : Nat} (hs : s < 2 ^ q) : ∃ v, f_X2_indexAt t c (nI s) = some v ∧ (v < 0 ↔ iB f n q r s = 0) ∧ (0 ≤ v ↔ 0 < iB f n q r s) ∧ v = nI (iB f n q r s) - 1 := by
  have hle : iB f n q r s ≤ n := ix_le _ _ _
  refine ⟨_, indexAt_C l1 hq hs, ?_, ?_, rfl⟩
  · show nI (iB f n q r s) - 1 < 0 ↔ _
    generalize iB f n q r s = j at *
    by_cases c : j = 0
    · subst c; exact ⟨fun _ => rfl, fun _ => by decide⟩
    · rw [Sub1 j]; exact ⟨fun z => absurd z (Pos (j - 1)), fun z => absurd z c⟩
  · show 0 ≤ nI (iB f n q r s) - 1 ↔ _
    generalize iB f n q r s = j at *
    by_cases c : j = 0
    · subst c; exact ⟨fun z => absurd z (by decide), fun z => by omega⟩
    · rw [Sub1 j]; exact ⟨fun _ => by omega, fun _ => NNeg (j - 1)⟩
theorem begins_M {u : St} {n q r : Nat} {f : Nat → Nat} (l2 : LM u n q r f) (hn : n < 64) (hq : q ≤ 6) {s : Nat} (hs : s < 2 ^ q) : f_X7_begins u (nI s) = some (if 0 < iB f n q r s ∧ sB f n q r s = 0 then 1 else 0) := by
  have hw := p2_bound hq
  have hh := (hold_M l2 hn hs).1
  unfold f_X7_begins
  rw [if_pos (Inb s 64), if_pos (Inb s 64), Cl s, mark4_M l2 hs]
  by_cases c : iB f n q r s = 0
  · rw [if_pos (hh.2 c), if_neg (fun z => by omega)]
  · rw [if_neg (fun z => c (hh.1 z))]
    rcases sB_01 f n q r s with e | e
    · rw [e, if_pos (by decide), if_pos ⟨by omega, rfl⟩]
    · rw [e, if_neg (by decide), if_neg (fun z => by omega)]
theorem starts_C {t : St} {c n q r : Nat} {f : Nat → Nat} (l1 : LY t c n q r f) (hn : n < 64) (hq : q ≤ 6) {s : Nat} (hs : s < 2 ^ q) : f_X2_startsCluster t c (nI s) = some (if 0 < iB f n q r s ∧ sB f n q r s = 0 then 1 else 0) := by
  obtain ⟨v, e1, e2, -, -⟩ := idx_C l1 hq hn hs
  unfold f_X2_startsCluster
  rw [e1, bind_some, mark4_C l1 hq hs, bind_some]
  by_cases c : iB f n q r s = 0
  · rw [if_pos (e2.2 c), if_neg (fun z => by omega)]
  · rw [if_neg (fun z => c (e2.1 z))]
    rcases sB_01 f n q r s with e | e
    · rw [e, if_pos (by decide), if_pos ⟨by omega, rfl⟩]
    · rw [e, if_neg (by decide), if_neg (fun z => by omega)]
/-- the length of the cluster that starts at s -/
theorem clen_loop {t u : St} {F n q r s : Nat} {f : Nat → Nat} (l1 : LY t 0 n q r f) (l2 : LM u n q r f) (hn : n < 64) (hq : q ≤ 6) (hs : s < 2 ^ q) : ∀ (d y k : Nat), y + d = 2 ^ q → ∃ L, y ≤ L ∧ L ≤ 2 ^ q ∧ (∀ z, y ≤ z → z < L → sB f n q r ((s + z) % 2 ^ q) = 1) ∧ (L < 2 ^ q → sB f n q r ((s + L) % 2 ^ q) = 0) ∧ f_X2_clusterLength_n2 t 0 (nI s) (k + (d + 1)) (nI y) = some (nI L) ∧ f_X7_clusterFrom_n9 u (nI F) (nI s) (k + (d + 1)) (nI (2 ^ q)) (nI y) = some (nI L) := by
  have hw := p2_bound hq
  have e10 : st_i t 10 = nI (2 ^ q) := l1.2.1
  intro d
  induction d with
  | zero =>
    intro y k e
    have : y = 2 ^ q := by omega
    subst this
    refine ⟨2 ^ q, by omega, by omega, fun z h1 h2 => by omega, fun z => by omega, ?_, ?_⟩
    · show f_X2_clusterLength_n2_b t 0 (nI s) (f_X2_clusterLength_n2 t 0 (nI s) k) _ = _
      unfold f_X2_clusterLength_n2_b
      rw [e10, if_pos (Le2 (2 ^ q) (2 ^ q))]
    · show f_X7_clusterFrom_n9_b u (nI F) (nI s) (f_X7_clusterFrom_n9 u (nI F) (nI s) k) _ _ = _
      unfold f_X7_clusterFrom_n9_b
      rw [if_pos (Le2 (2 ^ q) (2 ^ q))]
  | succ d ih =>
    intro y k e
    have hm : (s + y) % 2 ^ q < 2 ^ q := Nat.mod_lt _ (by omega)
    obtain ⟨L, i1, i2, i3, i4, i5, i6⟩ := ih (y + 1) k (by omega)
    have hC : f_X2_clusterLength_n2 t 0 (nI s) (k + (d + 1 + 1)) (nI y) = if nI (sB f n q r ((s + y) % 2 ^ q)) = 0 then some (nI y) else f_X2_clusterLength_n2 t 0 (nI s) (k + (d + 1)) (nI (y + 1)) := by
      show f_X2_clusterLength_n2_b t 0 (nI s) (f_X2_clusterLength_n2 t 0 (nI s) (k + (d + 1))) _ = _
      unfold f_X2_clusterLength_n2_b
      rw [e10, if_neg (NLe2 (2 ^ q) y), nI_add, around_C l1 hq (by omega), mark4_C l1 hq hm, bind_some, lt_q, nI_1]
    have hM : f_X7_clusterFrom_n9 u (nI F) (nI s) (k + (d + 1 + 1)) (nI (2 ^ q)) (nI y) = if nI (sB f n q r ((s + y) % 2 ^ q)) = 0 then some (nI y) else f_X7_clusterFrom_n9 u (nI F) (nI s) (k + (d + 1)) (nI (2 ^ q)) (nI (y + 1)) := by
      show f_X7_clusterFrom_n9_b u (nI F) (nI s) (f_X7_clusterFrom_n9 u (nI F) (nI s) (k + (d + 1))) _ _ = _
      unfold f_X7_clusterFrom_n9_b
      have hd := (hold_M l2 hn hm).1
      rw [if_neg (NLe2 (2 ^ q) y), if_neg (nI_ne0 (by omega) (by omega)), if_neg (nI_ne0 (by omega) (by omega)), nI_add, pk_rem (by omega) (by omega) (by omega), if_pos (Inb ((s + y) % 2 ^ q) 64), if_pos (Inb ((s + y) % 2 ^ q) 64), Cl ((s + y) % 2 ^ q), mark4_M l2 hm, lt_q, nI_1]
      rcases sB_01 f n q r ((s + y) % 2 ^ q) with o | o
      · rw [o, Nat.mul_zero, if_pos nI_0]
        split <;> rfl
      · have := sB_full o
        rw [o, if_neg (show ¬ nI 1 = 0 by decide), if_neg (fun z => by have := hd.1 z; omega), if_neg (show ¬ nI (4 * 1) = 0 by decide)]
    rcases sB_01 f n q r ((s + y) % 2 ^ q) with o | o
    · refine ⟨y, by omega, by omega, fun z h1 h2 => by omega, fun _ => o, ?_, ?_⟩
      · rw [hC, o, if_pos nI_0]
      · rw [hM, o, if_pos nI_0]
    · refine ⟨L, by omega, i2, fun z h1 h2 => ?_, i4, ?_, ?_⟩
      · by_cases c : z = y
        · rw [c]; exact o
        · exact i3 z (by omega) h2
      · rw [hC, o, if_neg (by decide)]; exact i5
      · rw [hM, o, if_neg (by decide)]; exact i6
theorem clen {t u : St} {F n q r s : Nat} {f : Nat → Nat} (l1 : LY t 0 n q r f) (l2 : LM u n q r f) (hsl : f_X7_slots u (nI F) = some (nI (2 ^ q))) (hn : n < 64) (hq : q ≤ 6) (hs : s < 2 ^ q) : ∃ L, 1 ≤ L ∧ L ≤ 2 ^ q ∧ (∀ z, 1 ≤ z → z < L → sB f n q r ((s + z) % 2 ^ q) = 1) ∧ (L < 2 ^ q → sB f n q r ((s + L) % 2 ^ q) = 0) ∧ f_X2_clusterLength t 0 (nI s) = some (nI L) ∧ f_X7_clusterFrom u (nI F) (nI s) = some (nI L) := by
  have hw := p2_bound hq
  obtain ⟨j, hj⟩ := fuel_ge (k := 2 ^ q - 1 + 1) (by omega)
  obtain ⟨L, i1, i2, i3, i4, i5, i6⟩ := clen_loop (F := F) l1 l2 hn hq hs (2 ^ q - 1) 1 j (by omega)
  rw [← hj] at i5 i6
  refine ⟨L, i1, i2, i3, i4, i5, ?_⟩
  unfold f_X7_clusterFrom
  rw [hsl, bind_some]
  exact i6
/-- p is the first of the cluster in which x lies -/
def FO (f : Nat → Nat) (n q r x p : Nat) : Prop := ∃ y, y < 2 ^ q ∧ p = (x + 2 ^ q - y) % 2 ^ q ∧ sB f n q r p = 0 ∧ 0 < iB f n q r p ∧ ∀ y', y' < y → sB f n q r ((x + 2 ^ q - y') % 2 ^ q) = 1
theorem FO_uniq {f : Nat → Nat} {n q r x p p' : Nat} (h : FO f n q r x p) (h' : FO f n q r x p') : p = p' := by
  obtain ⟨y, a1, a2, a3, a4, a5⟩ := h
  obtain ⟨y', b1, b2, b3, b4, b5⟩ := h'
  rcases Nat.lt_trichotomy y y' with c | c | c
  · have := b5 y c; rw [← a2] at this; omega
  · rw [a2, b2, c]
  · have := a5 y' c; rw [← b2] at this; omega
theorem sub_mask {a b q : Nat} (hq : q ≤ 6) (ha : a < 2 ^ q) (hb : b ≤ 2 ^ q) : (nI a - nI b) &&& (nI (2 ^ q) - 1) = nI ((a + 2 ^ q - b) % 2 ^ q) := by
  have hw := p2_bound hq
  by_cases c : b ≤ a
  · rw [pk_sub c, mask_N (by omega) (by omega), show a + 2 ^ q - b = (a - b) + 2 ^ q by omega, Nat.add_mod_right]
  · have hm : (nI (2 ^ q) - 1).toBitVec.toNat = 2 ^ q - 1 := by
      rw [Sub1 (2 ^ q), pk_tn (by omega)]
    rw [pk_and _ q hm]
    have e : (nI a - nI b).toBitVec.toNat = (2 ^ 32 - b + a) % 2 ^ 32 := by
      show ((nI a).toBitVec - (nI b).toBitVec).toNat = _
      rw [BitVec.toNat_sub, pk_tn (by omega), pk_tn (by omega)]
    rw [e, Nat.mod_eq_of_lt (a := 2 ^ 32 - b + a) (by omega)]
    have hd : 2 ^ 32 = 2 ^ q * 2 ^ (32 - q) := by rw [← Nat.pow_add, show q + (32 - q) = 32 by omega]
    have hp : 1 ≤ 2 ^ (32 - q) := Nat.pow_pos (by omega)
    have e2 : 2 ^ 32 - b + a = (a + 2 ^ q - b) + 2 ^ q * (2 ^ (32 - q) - 1) := by
      rw [Nat.mul_sub_one, ← hd]
      have : 2 ^ q ≤ 2 ^ 32 := Nat.pow_le_pow_right (by omega) (by omega)
      omega
    rw [e2, Nat.add_mul_mod_self_left]
theorem bk_succ {N x y : Nat} (hx : x < N) (hy : y + 1 ≤ N) : ((x + N - y) % N + N - 1) % N = (x + N - (y + 1)) % N := by
  rw [md (a := x + N - y) (by omega), md (a := x + N - (y + 1)) (by omega)]
  by_cases c : x + N - y < N
  · rw [if_pos c, md (by omega)]; split <;> split <;> omega
  · rw [if_neg c, md (by omega)]; split <;> split <;> omega
theorem first_loop {t u : St} {F n q r x e : Nat} {f : Nat → Nat} {x2 : Int32} (l1 : LY t 0 n q r f) (l2 : LM u n q r f) (hl : HL (hh f r) (2 ^ q) n) (hn : n < 64) (hq : q ≤ 6) (hx : x < 2 ^ q) (he : e < 2 ^ q) (hfree : iB f n q r ((x + 2 ^ q - e) % 2 ^ q) = 0) : ∀ (d y k : Nat), y + d = e → 0 < iB f n q r ((x + 2 ^ q - y) % 2 ^ q) → (∀ y', y' < y → sB f n q r ((x + 2 ^ q - y') % 2 ^ q) = 1) → ∃ p, p < 2 ^ q ∧ FO f n q r x p ∧ f_X2_clusterStart_n2 t 0 (nI x) (k + (d + 1)) (nI y) = some (nI p) ∧ f_X7_firstOf_n9 u (nI F) x2 (k + (d + 1)) (nI (2 ^ q)) (nI ((x + 2 ^ q - y) % 2 ^ q)) = some (nI p) := by
  have hw := p2_bound hq
  have e10 : st_i t 10 = nI (2 ^ q) := l1.2.1
  intro d
  induction d with
  | zero =>
    intro y k e1 h1 h2
    have : y = e := by omega
    rw [this] at h1
    omega
  | succ d ih =>
    intro y k e1 h1 h2
    have hm : (x + 2 ^ q - y) % 2 ^ q < 2 ^ q := Nat.mod_lt _ (by omega)
    have har : f_X2_around t 0 (nI x - nI y) = nI ((x + 2 ^ q - y) % 2 ^ q) := by
      unfold f_X2_around
      rw [show st_i t (10 + 3 * 0) = nI (2 ^ q) from e10]
      exact sub_mask hq hx (by omega)
    have hC : f_X2_clusterStart_n2 t 0 (nI x) (k + (d + 1 + 1)) (nI y) = if nI (sB f n q r ((x + 2 ^ q - y) % 2 ^ q)) = 0 then some (nI ((x + 2 ^ q - y) % 2 ^ q)) else f_X2_clusterStart_n2 t 0 (nI x) (k + (d + 1)) (nI (y + 1)) := by
      show f_X2_clusterStart_n2_b t 0 (nI x) (f_X2_clusterStart_n2 t 0 (nI x) (k + (d + 1))) _ = _
      unfold f_X2_clusterStart_n2_b f_X2_clusterStart_n31
      rw [e10, if_neg (NLe2 (2 ^ q) y), har, mark4_C l1 hq hm, bind_some, lt_q, nI_1]
    have hM : f_X7_firstOf_n9 u (nI F) x2 (k + (d + 1 + 1)) (nI (2 ^ q)) (nI ((x + 2 ^ q - y) % 2 ^ q)) = if sB f n q r ((x + 2 ^ q - y) % 2 ^ q) = 0 then some (nI ((x + 2 ^ q - y) % 2 ^ q)) else f_X7_firstOf_n9 u (nI F) x2 (k + (d + 1)) (nI (2 ^ q)) (nI ((x + 2 ^ q - (y + 1)) % 2 ^ q)) := by
      show f_X7_firstOf_n9_b u (nI F) x2 (f_X7_firstOf_n9 u (nI F) x2 (k + (d + 1))) _ _ = _
      unfold f_X7_firstOf_n9_b
      rw [begins_M l2 hn hq hm, bind_some, nI_add, Sub1 ((x + 2 ^ q - y) % 2 ^ q + 2 ^ q), if_neg (show ¬ nI (2 ^ q) = 0 from nI_ne0 (by omega) (by omega)), pk_rem (by omega) (by omega) (by omega), bk_succ hx (by omega), lt_q]
      by_cases c : sB f n q r ((x + 2 ^ q - y) % 2 ^ q) = 0
      · have z : 0 < iB f n q r ((x + 2 ^ q - y) % 2 ^ q) ∧ sB f n q r ((x + 2 ^ q - y) % 2 ^ q) = 0 := ⟨h1, c⟩
        rw [if_pos z, if_neg (show ¬ (1 : Int32) = 0 by decide), if_pos c]
      · have z : ¬ (0 < iB f n q r ((x + 2 ^ q - y) % 2 ^ q) ∧ sB f n q r ((x + 2 ^ q - y) % 2 ^ q) = 0) := fun z => c z.2
        rw [if_neg z, if_pos (show (0 : Int32) = 0 from rfl), if_neg c]
    rcases sB_01 f n q r ((x + 2 ^ q - y) % 2 ^ q) with o | o
    · refine ⟨(x + 2 ^ q - y) % 2 ^ q, hm, ⟨y, by omega, rfl, o, h1, h2⟩, ?_, ?_⟩
      · rw [hC, o, if_pos nI_0]
      · rw [hM, if_pos o]
    · have hp := sB_pred hl o
      rw [bk_succ hx (by omega)] at hp
      obtain ⟨p, p1, p2, p3, p4⟩ := ih (y + 1) k (by omega) hp (fun y' hy' => by
        by_cases c : y' = y
        · rw [c]; exact o
        · exact h2 y' (by omega))
      refine ⟨p, p1, p2, ?_, ?_⟩
      · rw [hC, o, if_neg (by decide)]; exact p3
      · rw [hM, if_neg (by omega)]; exact p4
theorem first {t u : St} {F n q r x : Nat} {f : Nat → Nat} (l1 : LY t 0 n q r f) (l2 : LM u n q r f) (hsl : f_X7_slots u (nI F) = some (nI (2 ^ q))) (hl : HL (hh f r) (2 ^ q) n) (hn : n < 64) (hq : q ≤ 6) (hx : x < 2 ^ q) (hfull : 0 < iB f n q r x) : ∃ p, p < 2 ^ q ∧ FO f n q r x p ∧ f_X2_clusterStart t 0 (nI x) = some (nI p) ∧ f_X7_firstOf u (nI F) (nI x) = some (nI p) := by
  have hw := p2_bound hq
  obtain ⟨z, hz, hz0⟩ := free_slot hl
  have hx0 : (x + 2 ^ q - 0) % 2 ^ q = x := by rw [Nat.sub_zero, Nat.add_mod_right, Nat.mod_eq_of_lt hx]
  have he : ∃ e, e < 2 ^ q ∧ (x + 2 ^ q - e) % 2 ^ q = z := by
    by_cases c : z ≤ x
    · refine ⟨x - z, by omega, ?_⟩
      rw [show x + 2 ^ q - (x - z) = z + 2 ^ q by omega, Nat.add_mod_right, Nat.mod_eq_of_lt hz]
    · refine ⟨x + 2 ^ q - z, by omega, ?_⟩
      rw [show x + 2 ^ q - (x + 2 ^ q - z) = z by omega, Nat.mod_eq_of_lt hz]
  obtain ⟨e, he, hez⟩ := he
  obtain ⟨j, hj⟩ := fuel_ge (k := e + 1) (by omega)
  obtain ⟨p, p1, p2, p3, p4⟩ := first_loop (F := F) (x2 := nI x) l1 l2 hl hn hq hx he (by rw [hez]; exact hz0) e 0 j (by omega) (by rw [hx0]; exact hfull) (fun y' hy' => by omega)
  rw [← hj] at p3 p4
  rw [hx0] at p4
  refine ⟨p, p1, p2, p3, ?_⟩
  unfold f_X7_firstOf
  rw [hsl, bind_some]
  exact p4
