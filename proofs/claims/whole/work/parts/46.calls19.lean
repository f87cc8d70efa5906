/-! span -/
def ln (f : Nat → Nat) (n q r s : Nat) : Nat := gp (fun x => 1 - sB f n q r x) (2 ^ q) s (2 ^ q - 1) 1
theorem ln_spec {t u : St} {F n q r s : Nat} {f : Nat → Nat} (l1 : LY t 0 n q r f) (l2 : LM u n q r f) (hsl : f_X7_slots u (nI F) = some (nI (2 ^ q))) (hn : n < 64) (hq : q ≤ 6) (hs : s < 2 ^ q) : 1 ≤ ln f n q r s ∧ ln f n q r s ≤ 2 ^ q ∧ (∀ z, 1 ≤ z → z < ln f n q r s → sB f n q r ((s + z) % 2 ^ q) = 1) ∧ (ln f n q r s < 2 ^ q → sB f n q r ((s + ln f n q r s) % 2 ^ q) = 0) ∧ f_X2_clusterLength t 0 (nI s) = some (nI (ln f n q r s)) ∧ f_X7_clusterFrom u (nI F) (nI s) = some (nI (ln f n q r s)) := by
  have hw := p2_bound hq
  obtain ⟨L, i1, i2, i3, i4, i5, i6⟩ := clen (F := F) l1 l2 hsl hn hq hs
  obtain ⟨g1, g2, g3, g4⟩ := gp_spec (fun x => 1 - sB f n q r x) (2 ^ q) s (2 ^ q - 1) 1 (by omega)
  have e : L = ln f n q r s := by
    unfold ln
    generalize gp (fun x => 1 - sB f n q r x) (2 ^ q) s (2 ^ q - 1) 1 = G at *
    rcases Nat.lt_trichotomy L G with c | c | c
    · have a := g3 L (by omega) c
      have b := i4 (by omega)
      have a' : 1 - sB f n q r ((s + L) % 2 ^ q) = 0 := a
      omega
    · exact c
    · have a := g4 (by omega)
      have b := i3 G (by omega) c
      have a' : 1 - sB f n q r ((s + G) % 2 ^ q) ≠ 0 := a
      omega
  rw [← e]
  exact ⟨i1, i2, i3, i4, i5, i6⟩
def hb (I : Nat → Nat) (N s lo hi : Nat) : Nat → Nat → Nat
  | 0, _ => 0
  | d + 1, y => if lo < I ((s + y) % N) ∧ I ((s + y) % N) ≤ hi then 1 else hb I N s lo hi d (y + 1)
theorem hb_spec (I : Nat → Nat) (N s lo hi : Nat) : ∀ d y, (hb I N s lo hi d y = 0 ∨ hb I N s lo hi d y = 1) ∧ (hb I N s lo hi d y = 1 ↔ ∃ z, y ≤ z ∧ z < y + d ∧ lo < I ((s + z) % N) ∧ I ((s + z) % N) ≤ hi) := by
  intro d
  induction d with
  | zero =>
    intro y
    refine ⟨Or.inl rfl, fun h => ?_, ?_⟩
    · have : (0 : Nat) = 1 := h
      omega
    · rintro ⟨z, h1, h2, -⟩; omega
  | succ d ih =>
    intro y
    simp only [hb]
    by_cases c : lo < I ((s + y) % N) ∧ I ((s + y) % N) ≤ hi
    · rw [if_pos c]
      exact ⟨Or.inr rfl, fun _ => ⟨y, by omega, by omega, c⟩, fun _ => rfl⟩
    · rw [if_neg c]
      obtain ⟨a1, a2⟩ := ih (y + 1)
      refine ⟨a1, fun h => ?_, ?_⟩
      · obtain ⟨z, z1, z2, z3⟩ := a2.1 h
        exact ⟨z, by omega, by omega, z3⟩
      · rintro ⟨z, z1, z2, z3⟩
        refine a2.2 ⟨z, ?_, by omega, z3⟩
        by_cases e : z = y
        · rw [e] at z3; exact absurd z3 c
        · omega
theorem has_C {t : St} {n q r s L lo hi : Nat} {f : Nat → Nat} (l1 : LY t 0 n q r f) (hn : n < 64) (hq : q ≤ 6) (hs : s < 2 ^ q) (hL : L ≤ 2 ^ q) (hlo : lo ≤ n) (hhi : hi ≤ n) : ∀ (d y k : Nat), y + d = L → f_X2_hasIndexOf_n3 t 0 (nI s) (nI L) (nI lo) (nI hi) (k + (d + 1)) (nI y) = some (nI (hb (iB f n q r) (2 ^ q) s lo hi d y)) := by
  have hw := p2_bound hq
  intro d
  induction d with
  | zero =>
    intro y k e
    show f_X2_hasIndexOf_n3_b t 0 (nI s) (nI L) (nI lo) (nI hi) (f_X2_hasIndexOf_n3 t 0 (nI s) (nI L) (nI lo) (nI hi) k) (nI y) = _
    unfold f_X2_hasIndexOf_n3_b
    rw [if_pos (Le2 L y)]
    rfl
  | succ d ih =>
    intro y k e
    have hm : (s + y) % 2 ^ q < 2 ^ q := Nat.mod_lt _ (by omega)
    obtain ⟨v, v1, v2, v3, v4⟩ := idx_C l1 hq hn hm
    have hle : iB f n q r ((s + y) % 2 ^ q) ≤ n := ix_le _ _ _
    show f_X2_hasIndexOf_n3_b t 0 (nI s) (nI L) (nI lo) (nI hi) (f_X2_hasIndexOf_n3 t 0 (nI s) (nI L) (nI lo) (nI hi) (k + (d + 1))) (nI y) = _
    unfold f_X2_hasIndexOf_n3_b
    rw [if_neg (NLe2 L y), nI_add, around_C l1 hq (by omega), v1, bind_some, lt_q, nI_1]
    simp only [hb]
    have := ih (y + 1) k (by omega)
    by_cases c : iB f n q r ((s + y) % 2 ^ q) = 0
    · have hv : v < nI lo := by
        have h1 := v2.2 c
        have h2 := NNeg lo
        rw [Int32.lt_iff_toInt_lt] at h1 ⊢
        rw [Int32.le_iff_toInt_le] at h2
        omega
      rw [if_pos hv, if_neg (fun z => by omega)]
      exact this
    · rw [v4, Sub1 (iB f n q r ((s + y) % 2 ^ q))]
      by_cases c1 : iB f n q r ((s + y) % 2 ^ q) - 1 < lo
      · rw [if_pos (Lt2 _ _ c1), if_neg (fun z => by omega)]
        exact this
      · rw [if_neg (NLt2 (iB f n q r ((s + y) % 2 ^ q) - 1) lo)]
        by_cases c2 : hi ≤ iB f n q r ((s + y) % 2 ^ q) - 1
        · rw [if_pos (Le2 hi (iB f n q r ((s + y) % 2 ^ q) - 1)), if_neg (fun z => by omega)]
          exact this
        · rw [if_neg (NLe2 hi (iB f n q r ((s + y) % 2 ^ q) - 1)), if_pos ⟨by omega, by omega⟩]
          rfl
def SM (b : Nat → Nat) : Nat → Nat
  | 0 => 0
  | k + 1 => SM b k + b k
theorem SM_cg {b c : Nat → Nat} : ∀ k, (∀ s, s < k → b s = c s) → SM b k = SM c k := by
  intro k
  induction k with
  | zero => intro _; rfl
  | succ k ih => intro h; simp only [SM]; rw [ih (fun s hs => h s (by omega)), h k (by omega)]
theorem SM_upd {b c : Nat → Nat} {p v : Nat} : ∀ k, p < k → (∀ s, s < k → s ≠ p → c s = b s) → c p = b p + v → SM c k = SM b k + v := by
  intro k
  induction k with
  | zero => intro h; omega
  | succ k ih =>
    intro hp h1 h2
    simp only [SM]
    by_cases e : p = k
    · subst e
      rw [SM_cg (b := c) (c := b) p (fun s hs => h1 s (by omega) (by omega)), h2]; omega
    · rw [ih (by omega) (fun s hs hne => h1 s (by omega) hne) h2, h1 k (by omega) (by omega)]; omega
def cS (f : Nat → Nat) (n q r lo hi s : Nat) : Nat := if 0 < iB f n q r s ∧ sB f n q r s = 0 then hb (iB f n q r) (2 ^ q) s lo hi (ln f n q r s) 0 else 0
theorem span_C {t u : St} {F n q r lo hi : Nat} {f : Nat → Nat} {x1 x2 x3 : Int32} (l1 : LY t 0 n q r f) (l2 : LM u n q r f) (hsl : f_X7_slots u (nI F) = some (nI (2 ^ q))) (hn : n < 64) (hq : q ≤ 6) (hlo : lo ≤ n) (hhi : hi ≤ n) : ∀ (d i k : Nat), i + d = 2 ^ q → f_X6_span_n73 x1 x2 x3 (k + (d + 1)) t (nI lo) (nI hi) (nI (SM (cS f n q r lo hi) i)) (nI (SM (fun s => cS f n q r lo hi s * ln f n q r s) i)) (nI i) = f_X6_span_n73 x1 x2 x3 (k + 1) t (nI lo) (nI hi) (nI (SM (cS f n q r lo hi) (2 ^ q))) (nI (SM (fun s => cS f n q r lo hi s * ln f n q r s) (2 ^ q))) (nI (2 ^ q)) := by
  have hw := p2_bound hq
  have e10 : st_i t 10 = nI (2 ^ q) := l1.2.1
  intro d
  induction d with
  | zero =>
    intro i k e
    have : i = 2 ^ q := by omega
    subst this
    rfl
  | succ d ih =>
    intro i k e
    have hi' : i < 2 ^ q := by omega
    obtain ⟨n1, n2, n3, n4, n5, n6⟩ := ln_spec (F := F) l1 l2 hsl hn hq hi'
    obtain ⟨j, hj⟩ := fuel_ge (k := ln f n q r i + 1) (by omega)
    have hh := has_C l1 hn hq hi' n2 hlo hhi (ln f n q r i) 0 j (by omega)
    rw [← hj, nI_0] at hh
    have hh' : f_X2_hasIndexOf t 0 (nI i) (nI (ln f n q r i)) (nI lo) (nI hi) = _ := hh
    rw [← ih (i + 1) k (by omega)]
    show f_X6_span_n73_b x1 x2 x3 (f_X6_span_n73 x1 x2 x3 (k + (d + 1))) t _ _ _ _ (nI i) = _
    unfold f_X6_span_n73_b f_X6_span_n137
    rw [e10, if_neg (NLe2 (2 ^ q) i), starts_C l1 hn hq hi', bind_some, n5]
    simp only [lt_q, bind_q, nI_1, SM]
    rw [hh']
    simp only [bind_q]
    have eS : cS f n q r lo hi i = if 0 < iB f n q r i ∧ sB f n q r i = 0 then hb (iB f n q r) (2 ^ q) i lo hi (ln f n q r i) 0 else 0 := rfl
    have n10 : ¬ (1 : Int32) = 0 := by decide
    have n00 : (0 : Int32) = 0 := rfl
    by_cases c : 0 < iB f n q r i ∧ sB f n q r i = 0
    · rw [if_pos c] at eS
      rw [eS, if_pos c, if_neg n10]
      rcases (hb_spec (iB f n q r) (2 ^ q) i lo hi (ln f n q r i) 0).1 with o | o
      · have nz : nI 0 = 0 := nI_0
        simp only [o, nz, ↓reduceIte, Int32.add_zero, Nat.add_zero, Nat.zero_mul]
      · have n1' : ¬ nI 1 = 0 := by decide
        simp only [o, n1', ↓reduceIte, nI_1, nI_add, Nat.one_mul]
    · rw [if_neg c] at eS
      rw [if_neg c, if_pos n00]
      simp only [eS, Nat.zero_mul, Nat.add_zero]
/-- clusters seen by the prints before k -/
def Sn (f : Nat → Nat) (n q r lo hi k s : Nat) : Prop := ∃ i, i < k ∧ lo ≤ i ∧ i < hi ∧ FO f n q r (sl (hh f r) (2 ^ q) n i) s
theorem span_M {t : St} {F n q P a b : Nat} {f : Nat → Nat} (l1 : LY t 0 n q (P - q) f) (hF : F < 2) (hl : HL (hh f (P - q)) (2 ^ q) n) (hn : n < 64) (hq : q ≤ 6) (ha : a < 2 ^ 30) (hb : b < 2 ^ 30) : ∀ (d i k : Nat) (u : St) (c : Nat → Nat), i + d = n → BM u F n q f → LM u n q (P - q) f → (∀ s, s < 2 ^ q → st_a u 13 s = nI (c s) ∧ (c s = 0 ∨ c s = 1) ∧ (c s = 1 ↔ Sn f n q (P - q) (lb f n a) (lb f n (b + 1)) i s)) → ∃ (u' : St) (c' : Nat → Nat), (∀ s, s < 2 ^ q → (c' s = 0 ∨ c' s = 1) ∧ (c' s = 1 ↔ Sn f n q (P - q) (lb f n a) (lb f n (b + 1)) n s)) ∧ Gr noI (fun k _ => k = 13) u u' ∧ f_X7_span_n77 (nI F) (nI a) (nI b) (k + (d + 1)) u (nI (min i (lb f n (b + 1)) - lb f n a)) (nI (SM c (2 ^ q))) (nI (SM (fun s => c s * ln f n q (P - q) s) (2 ^ q))) (nI i) = f_X7_span_n77 (nI F) (nI a) (nI b) (k + 1) u' (nI (lb f n (b + 1) - lb f n a)) (nI (SM c' (2 ^ q))) (nI (SM (fun s => c' s * ln f n q (P - q) s) (2 ^ q))) (nI n) := by
  have hw := p2_bound hq
  intro d
  induction d with
  | zero =>
    intro i k u c e h l2 hc
    have : i = n := by omega
    subst this
    have := lb_le f i (b + 1)
    exact ⟨u, c, fun s hs => (hc s hs).2, Gr.rf, by rw [show min i (lb f i (b + 1)) = lb f i (b + 1) by omega]⟩
  | succ d ih =>
    intro i k u c e h l2 hc
    have hi : i < n := by omega
    have hs := h.2.2.2.2.2
    have hfi := h.2.2.2.2.1 i hi
    have ja := lb_iff hs a i hi
    have jb := lb_iff hs (b + 1) i hi
    have hin := in_0 u (x := nI (f i)) (y := nI a) (z := nI b) (y' := (nI a).toInt64) (z' := (nI b).toInt64) rfl rfl
    have hsl := bm_slots h hF (show q < 31 by omega)
    have hlb := lb_le f n (b + 1)
    by_cases cr : lb f n a ≤ i ∧ i < lb f n (b + 1)
    · have hfull : 0 < iB f n q (P - q) (sl (hh f (P - q)) (2 ^ q) n i) := by unfold iB; rw [ix_sl hl hi]; omega
      obtain ⟨p, p1, p2, p3, p4⟩ := first (F := F) l1 l2 hsl hl hn hq (sl_lt hl) hfull
      obtain ⟨n1, n2, n3, n4, n5, n6⟩ := ln_spec (F := F) l1 l2 hsl hn hq p1
      have ga : Gr noI (fun k _ => k = 13) u (put_a u 13 p 1) := gr_a rfl
      obtain ⟨hc1, hc2, hc3⟩ := hc p p1
      have hstep : ∀ s, Sn f n q (P - q) (lb f n a) (lb f n (b + 1)) (i + 1) s ↔ (Sn f n q (P - q) (lb f n a) (lb f n (b + 1)) i s ∨ s = p) := by
        intro s
        constructor
        · rintro ⟨j, j1, j2, j3, j4⟩
          by_cases ej : j = i
          · rw [ej] at j4; exact Or.inr (FO_uniq j4 p2)
          · exact Or.inl ⟨j, by omega, j2, j3, j4⟩
        · rintro (⟨j, j1, j2, j3, j4⟩ | rfl)
          · exact ⟨j, by omega, j2, j3, j4⟩
          · exact ⟨i, by omega, cr.1, cr.2, p2⟩
      obtain ⟨u', c', r1, r2, r3⟩ := ih (i + 1) k (put_a u 13 p 1) (fun s => if s = p then 1 else c s) (by omega) (h.keep ga (by omega) (by omega) (fun i hi => by omega)) (l2.kp ga.s (fun k j h1 h2 => by omega)) (fun s hs' => by
        show st_a (put_a u 13 p 1) 13 s = nI (if s = p then 1 else c s) ∧ ((if s = p then 1 else c s) = 0 ∨ (if s = p then 1 else c s) = 1) ∧ ((if s = p then 1 else c s) = 1 ↔ _)
        rw [sa_pa, if_pos rfl, upd_at, hstep s]
        obtain ⟨z1, z2, z3⟩ := hc s hs'
        by_cases es : s = p
        · rw [if_pos es, if_pos es]; exact ⟨rfl, Or.inr rfl, fun _ => Or.inr es, fun _ => rfl⟩
        · rw [if_neg es, if_neg es]; exact ⟨z1, z2, fun z => Or.inl (z3.1 z), fun z => z3.2 (z.resolve_right es)⟩)
      refine ⟨u', c', r1, ga.tr r2, ?_⟩
      rw [← r3]
      show f_X7_span_n77_b (nI F) (nI a) (nI b) (f_X7_span_n77 (nI F) (nI a) (nI b) (k + (d + 1))) u _ _ _ (nI i) = _
      unfold f_X7_span_n77_b f_X7_span_n143 f_X7_span_n172
      have nin : ¬ f_X7_in u (nI (f i)).toInt64 (nI a).toInt64 (nI b).toInt64 = 0 := fun z => hin.1 z ⟨Le2 a (f i), Le2 (f i) b⟩
      rw [if_pos (Inb F 2), Cl F, h.1, if_neg (NLe2 n i), bm_at h hF hi, bind_some, if_neg nin, lt_q, if_pos (Inb i 64), Cl i, l2.1 i hi, p4, bind_some, if_pos (Inb p 64), Cl p, hc1, n6]
      simp only [lt_q, bind_q, nI_1, flag_0, flag_1, Inb p 64, hc1, Cl p, Int32.add_zero, ↓reduceIte]
      have emin : min (i + 1) (lb f n (b + 1)) - lb f n a = min i (lb f n (b + 1)) - lb f n a + 1 := by omega
      rw [emin]
      rcases hc2 with o | o
      · have s1 : SM (fun s => if s = p then 1 else c s) (2 ^ q) = SM c (2 ^ q) + 1 := SM_upd (p := p) _ p1 (fun s _ hne => by show (if s = p then 1 else c s) = _; rw [if_neg hne]) (by show (if p = p then 1 else c p) = _; rw [if_pos rfl, o])
        have s2 : SM (fun s => (if s = p then 1 else c s) * ln f n q (P - q) s) (2 ^ q) = SM (fun s => c s * ln f n q (P - q) s) (2 ^ q) + ln f n q (P - q) p := SM_upd (p := p) _ p1 (fun s _ hne => by show (if s = p then 1 else c s) * _ = _; rw [if_neg hne]) (by show (if p = p then 1 else c p) * _ = c p * _ + _; rw [if_pos rfl, o]; omega)
        rw [s1, s2, o, nI_0]
        simp only [↓reduceIte, nI_add]
      · have s1 : SM (fun s => if s = p then 1 else c s) (2 ^ q) = SM c (2 ^ q) := SM_cg _ (fun s _ => by
          show (if s = p then 1 else c s) = _
          by_cases es : s = p
          · rw [if_pos es, es, o]
          · rw [if_neg es])
        have s2 : SM (fun s => (if s = p then 1 else c s) * ln f n q (P - q) s) (2 ^ q) = SM (fun s => c s * ln f n q (P - q) s) (2 ^ q) := SM_cg _ (fun s _ => by
          show (if s = p then 1 else c s) * _ = c s * _
          by_cases es : s = p
          · rw [if_pos es, es, o]
          · rw [if_neg es])
        have n1' : ¬ nI 1 = 0 := by decide
        rw [s1, s2, o]
        simp only [n1', ↓reduceIte]
    · have hstep : ∀ s, Sn f n q (P - q) (lb f n a) (lb f n (b + 1)) (i + 1) s ↔ Sn f n q (P - q) (lb f n a) (lb f n (b + 1)) i s := by
        intro s
        constructor
        · rintro ⟨j, j1, j2, j3, j4⟩
          by_cases ej : j = i
          · exact absurd ⟨by omega, by omega⟩ cr
          · exact ⟨j, by omega, j2, j3, j4⟩
        · rintro ⟨j, j1, j2, j3, j4⟩
          exact ⟨j, by omega, j2, j3, j4⟩
      obtain ⟨u', c', r1, r2, r3⟩ := ih (i + 1) k u c (by omega) h l2 (fun s hs' => by rw [hstep s]; exact hc s hs')
      refine ⟨u', c', r1, r2, ?_⟩
      rw [← r3]
      show f_X7_span_n77_b (nI F) (nI a) (nI b) (f_X7_span_n77 (nI F) (nI a) (nI b) (k + (d + 1))) u _ _ _ (nI i) = _
      unfold f_X7_span_n77_b
      have nin : f_X7_in u (nI (f i)).toInt64 (nI a).toInt64 (nI b).toInt64 = 0 := hin.2 (fun z => by
        have z1 := (nI_leI (by omega) (by omega)).1 z.1
        have z2 := (nI_leI (by omega) (by omega)).1 z.2
        omega)
      rw [if_pos (Inb F 2), Cl F, h.1, if_neg (NLe2 n i), bm_at h hF hi, bind_some, if_pos nin, lt_q, nI_1, show min (i + 1) (lb f n (b + 1)) - lb f n a = min i (lb f n (b + 1)) - lb f n a by omega]
theorem span_zero {F q : Nat} {x2 x3 : Int32} (hq : q ≤ 6) : ∀ (d i k : Nat) (u : St), i + d = 2 ^ q → f_X7_slots u (nI F) = some (nI (2 ^ q)) → (∀ s, s < i → st_a u 13 s = 0) → ∃ u' : St, f_X7_span_n41 (nI F) x2 x3 (k + (d + 1)) u (nI i) = f_X7_span_n77 (nI F) x2 x3 fuel u' 0 0 0 0 ∧ (∀ s, s < 2 ^ q → st_a u' 13 s = 0) ∧ Gr noI (fun k _ => k = 13) u u' := by
  have hw := p2_bound hq
  intro d
  induction d with
  | zero =>
    intro i k u e hsl hz
    have : i = 2 ^ q := by omega
    subst this
    refine ⟨u, ?_, hz, Gr.rf⟩
    show f_X7_span_n41_b (nI F) x2 x3 (f_X7_span_n41 (nI F) x2 x3 k) u _ = _
    unfold f_X7_span_n41_b
    rw [hsl, bind_some, if_pos (Le2 (2 ^ q) (2 ^ q))]
  | succ d ih =>
    intro i k u e hsl hz
    have ga : Gr noI (fun k _ => k = 13) u (put_a u 13 i 0) := gr_a rfl
    obtain ⟨u', e1, e2, e3⟩ := ih (i + 1) k (put_a u 13 i 0) (by omega) (by
      unfold f_X7_slots at hsl ⊢
      rw [sa_pa, if_neg (show ¬ (1 : Nat) = 13 by omega)]; exact hsl) (fun s hs => by
      rw [sa_pa, if_pos rfl, upd_at]
      by_cases c : s = i
      · rw [if_pos c]
      · rw [if_neg c]; exact hz s (by omega))
    refine ⟨u', ?_, e2, ga.tr e3⟩
    show f_X7_span_n41_b (nI F) x2 x3 (f_X7_span_n41 (nI F) x2 x3 (k + (d + 1))) u _ = _
    unfold f_X7_span_n41_b
    rw [hsl, bind_some, if_neg (NLe2 (2 ^ q) i), if_pos (Inb i 64), lt_q, lt_q, Cl i, nI_1]
    exact e1
theorem fb {N s y y' : Nat} (hs : s < N) (hy : y < N) (h : y' ≤ y) : ((s + y) % N + N - y') % N = (s + (y - y')) % N := by
  rw [md (a := s + y) (by omega), md (a := s + (y - y')) (by omega)]
  by_cases c : s + y < N
  · rw [if_pos c, md (by omega)]; split <;> split <;> omega
  · rw [if_neg c, md (by omega)]; split <;> split <;> omega
theorem SM_0 : ∀ (b : Nat → Nat) (k : Nat), (∀ s, s < k → b s = 0) → SM b k = 0 := by
  intro b k
  induction k with
  | zero => intro _; rfl
  | succ k ih => intro h; simp only [SM]; rw [ih (fun s hs => h s (by omega)), h k (by omega)]
theorem m_span {C M : St} (h : Rel C M) (x1 x2 x3 : Int32) : Ok2 (f_X6_span C x1 x2 x3) (f_X7_span M x1 x2 x3) := by
  have h' := h.thr 0
  unfold f_X6_span f_X7_span
  rw [lt_q, lt_q]
  obtain ⟨P, L, n, q, f, kt, gt, hr⟩ := h'.rf
  generalize hM : put_i M 0 0 = M0 at h' hr ⊢
  refine guardF h' (fun F hF hx => ?_)
  subst hx
  have hp := hr.1.1
  have hPP := p2P hp.2
  rw [hr.1.2.2.1, hr.1.2.2.2.1, sh_1 P (by omega)]
  by_cases c1 : x2 < 0
  · rw [if_pos c1, if_pos c1]; exact ⟨_, _, _, rfl, rfl, h'⟩
  by_cases c2 : x3 < x2
  · rw [if_neg c1, if_neg c1, if_pos c2, if_pos c2]; exact ⟨_, _, _, rfl, rfl, h'⟩
  by_cases c3 : x3 < nI (2 ^ P)
  · rw [if_neg c1, if_neg c1, if_neg c2, if_neg c2, if_pos c3, if_pos c3]
    obtain ⟨a, ha, rfl⟩ := nI_of c1
    have h3 : ¬ x3 < 0 := by
      intro z
      have hz := i_nlt.1 c2
      have hz2 := NNeg a
      rw [Int32.lt_iff_toInt_lt] at z
      rw [Int32.le_iff_toInt_le] at hz hz2
      omega
    obtain ⟨b, hb', rfl⟩ := nI_of h3
    have hbP : b < 2 ^ P := (nI_ltI hb' (by omega)).1 c3
    have hab : a ≤ b := by
      have := i_nlt.1 c2
      exact (nI_leI ha hb').1 this
    obtain ⟨t, u, e1, e2, l1, l2, hr2, hl, f1, f2⟩ := lay2 hr hF
    obtain ⟨a1, a2, ⟨q1, q2, q3⟩, a4, a5⟩ := hr2.2.1 F hF
    obtain ⟨a1C, -⟩ := hr.2.1 F hF
    have hw := p2_bound q2
    have hn := a1.2.2.1
    have hsl := bm_slots a2 hF (show q F < 31 by omega)
    have hlo := lb_le (f F) (n F) a
    have hhi := lb_le (f F) (n F) (b + 1)
    have hmono : lb (f F) (n F) a ≤ lb (f F) (n F) (b + 1) := lb_mono (by omega)
    rw [hr.1.2.2.1] at e1
    obtain ⟨j, hj⟩ := fuel_ge (k := 2 ^ q F + 1) (by omega)
    have sC := span_C (F := F) (x1 := nI F) (x2 := nI a) (x3 := nI b) l1 l2 hsl hn q2 hlo hhi (2 ^ q F) 0 j (by omega)
    rw [← hj] at sC
    have sC' : f_X6_span_n73 (nI F) (nI a) (nI b) fuel t (nI (lb (f F) (n F) a)) (nI (lb (f F) (n F) (b + 1))) 0 0 0 = _ := sC
    obtain ⟨u1, z1, z2, z3⟩ := span_zero (F := F) (x2 := nI a) (x3 := nI b) q2 (2 ^ q F) 0 j u (by omega) hsl (fun s hs => by omega)
    rw [← hj, nI_0] at z1
    obtain ⟨j2, hj2⟩ := fuel_ge (k := n F + 1) (by omega)
    obtain ⟨u2, c', r1, r2, r3⟩ := span_M (P := P) (a := a) (b := b) l1 hF hl hn q2 (by omega) (by omega) (n F) 0 j2 u1 (fun _ => 0) (by omega) (a2.keep z3 (by omega) (by omega) (fun i hi => by omega)) (l2.kp z3.s (fun k j h1 h2 => by omega)) (fun s hs => ⟨z2 s hs, Or.inl rfl, fun z => absurd z (by decide), fun z => by obtain ⟨i, hi, -⟩ := z; omega⟩)
    rw [← hj2, SM_0 _ _ (fun s _ => rfl), SM_0 _ _ (fun s _ => by show 0 * _ = 0; omega), show min 0 (lb (f F) (n F) (b + 1)) - lb (f F) (n F) a = 0 by omega, nI_0] at r3
    have cc : ∀ s, s < 2 ^ q F → c' s = cS (f F) (n F) (q F) (P - q F) (lb (f F) (n F) a) (lb (f F) (n F) (b + 1)) s := by
      intro s hs
      obtain ⟨k1, k2⟩ := r1 s hs
      obtain ⟨m1, m2, m3, m4, m5, m6⟩ := ln_spec (F := F) l1 l2 hsl hn q2 hs
      obtain ⟨g1, g2⟩ := hb_spec (iB (f F) (n F) (q F) (P - q F)) (2 ^ q F) s (lb (f F) (n F) a) (lb (f F) (n F) (b + 1)) (ln (f F) (n F) (q F) (P - q F) s) 0
      have iff : c' s = 1 ↔ cS (f F) (n F) (q F) (P - q F) (lb (f F) (n F) a) (lb (f F) (n F) (b + 1)) s = 1 := by
        rw [k2]
        unfold cS
        constructor
        · rintro ⟨i, i1, i2, i3, y, y1, y2, y3, y4, y5⟩
          have hxl : sl (hh (f F) (P - q F)) (2 ^ q F) (n F) i < 2 ^ q F := sl_lt hl
          have hix : iB (f F) (n F) (q F) (P - q F) (sl (hh (f F) (P - q F)) (2 ^ q F) (n F) i) = i + 1 := ix_sl hl i1
          generalize sl (hh (f F) (P - q F)) (2 ^ q F) (n F) i = x at *
          have ex : x = (s + y) % 2 ^ q F := by
            rw [y2, Nat.mod_add_mod, show x + 2 ^ q F - y + y = x + 2 ^ q F by omega, Nat.add_mod_right, Nat.mod_eq_of_lt hxl]
          rw [if_pos ⟨y4, y3⟩, g2]
          refine ⟨y, by omega, ?_, ?_, ?_⟩
          · rw [Nat.zero_add]
            rcases Nat.lt_or_ge y (ln (f F) (n F) (q F) (P - q F) s) with z | z
            · exact z
            · have w1 := m4 (by omega)
              have w2 := y5 (y - ln (f F) (n F) (q F) (P - q F) s) (by omega)
              rw [ex, fb hs y1 (by omega), show y - (y - ln (f F) (n F) (q F) (P - q F) s) = ln (f F) (n F) (q F) (P - q F) s by omega] at w2
              omega
          · rw [← ex, hix]; omega
          · rw [← ex, hix]; omega
        · intro z
          by_cases c : 0 < iB (f F) (n F) (q F) (P - q F) s ∧ sB (f F) (n F) (q F) (P - q F) s = 0
          · rw [if_pos c, g2] at z
            obtain ⟨y, y1, y2, y3, y4⟩ := z
            rcases ix_cases (f := f F) (n := n F) (q := q F) (r := P - q F) (s := (s + y) % 2 ^ q F) with ⟨w, -⟩ | ⟨i, w1, w2, w3, w4⟩
            · omega
            · refine ⟨i, w1, by omega, by omega, y, by omega, ?_, c.2, c.1, fun y' hy' => ?_⟩
              · rw [w4, fb hs (by omega) (Nat.le_refl _), Nat.sub_self, Nat.add_zero, Nat.mod_eq_of_lt hs]
              · rw [w4, fb hs (by omega) (by omega)]
                exact m3 (y - y') (by omega) (by omega)
          · rw [if_neg c] at z; omega
      have o2 : cS (f F) (n F) (q F) (P - q F) (lb (f F) (n F) a) (lb (f F) (n F) (b + 1)) s = 0 ∨ cS (f F) (n F) (q F) (P - q F) (lb (f F) (n F) a) (lb (f F) (n F) (b + 1)) s = 1 := by
        unfold cS
        split
        · exact g1
        · exact Or.inl rfl
      omega
    have cc2 : SM (fun s => c' s * ln (f F) (n F) (q F) (P - q F) s) (2 ^ q F) = SM (fun s => cS (f F) (n F) (q F) (P - q F) (lb (f F) (n F) a) (lb (f F) (n F) (b + 1)) s * ln (f F) (n F) (q F) (P - q F) s) (2 ^ q F) := SM_cg _ (fun s hs => by
      show c' s * ln (f F) (n F) (q F) (P - q F) s = cS (f F) (n F) (q F) (P - q F) (lb (f F) (n F) a) (lb (f F) (n F) (b + 1)) s * ln (f F) (n F) (q F) (P - q F) s
      rw [cc s hs])
    rw [SM_cg _ cc, cc2] at r3
    rw [bc_below a1C (by omega), bind_some, nI_1, bc_below a1C (by omega), bind_some, e1, bind_some, sC', e2, bind_some, z1, r3]
    have hr3 := hr2.kp (Fs.rf (σ := t)) ((z3.tr r2).s.mono (fun k z => z.elim) (fun k j z => by omega))
    generalize SM (cS (f F) (n F) (q F) (P - q F) (lb (f F) (n F) a) (lb (f F) (n F) (b + 1))) (2 ^ q F) = A
    generalize SM (fun s => cS (f F) (n F) (q F) (P - q F) (lb (f F) (n F) a) (lb (f F) (n F) (b + 1)) s * ln (f F) (n F) (q F) (P - q F) s) (2 ^ q F) = B
    have e10 : st_i t 10 = nI (2 ^ q F) := l1.2.1
    obtain ⟨t3, u3, u4, d1, d2, d3, d4, d5, -⟩ := end2 hr3 (nI A).toInt64 (nI B).toInt64
    obtain ⟨b1, b2, -⟩ := hr3.2.1 F hF
    show Ok2 (f_X6_span_n73_b (nI F) (nI a) (nI b) (f_X6_span_n73 (nI F) (nI a) (nI b) j) t _ _ _ _ _) (f_X7_span_n77_b (nI F) (nI a) (nI b) (f_X7_span_n77 (nI F) (nI a) (nI b) j2) u2 _ _ _ _)
    unfold f_X6_span_n73_b f_X7_span_n77_b
    rw [e10, if_pos (Le2 (2 ^ q F) (2 ^ q F)), d1, bind_some, if_pos (Inb F 2), Cl F, b2.1, if_pos (Le2 (n F) (n F)), lt_q, d2, bind_some, d3, bind_some, Sub2 (lb (f F) (n F) (b + 1)) (lb (f F) (n F) a)]
    exact ⟨_, _, _, rfl, rfl, d4⟩
  · rw [if_neg c1, if_neg c1, if_neg c2, if_neg c2, if_neg c3, if_neg c3]; exact ⟨_, _, _, rfl, rfl, h'⟩
