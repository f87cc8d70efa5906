/-! sets: the reference reads its words -/
def lgt (wd g s : Nat) : Nat := min wd (g - s * wd)
theorem bs_or (β : Nat → Bool) (i : Nat) : bs β i ||| ((if β i = true then 1 else 0) * 2 ^ i) = bs β (i + 1) := by
  show _ = bs β i + (if β i = true then 2 ^ i else 0)
  have hl := bs_lt β i
  cases β i with
  | true =>
    rw [if_pos rfl, if_pos rfl, Nat.one_mul]
    have := Nat.two_pow_add_eq_or_of_lt hl 1
    rw [Nat.mul_one] at this
    rw [Nat.or_comm, ← this, Nat.add_comm]
  | false => simp
theorem bits_M {P F n q w : Nat} {f : Nat → Nat} (v : Int64) (hq : q ≤ 6) (hqP : q ≤ P) (hP : P ≤ 14) (hq3 : 3 ≤ q) (hw : 64 * w < sz q (P - q)) : ∀ (d g k : Nat) (σ : St), g + d = 64 * ((sz q (P - q) - 1) / 64 + 1) → (∀ i, i < (sz q (P - q) - 1) / 64 + 1 → ∀ b, b < 64 → tb (st_l σ 1 i) b = nb (oldb f n q (P - q)) w v (64 * i + b)) → (∀ s, s < 2 ^ q → st_a σ 9 s = nI (bs (fun k => nb (oldb f n q (P - q)) w v (s * (P - q + 3) + k)) (min 3 (lgt (P - q + 3) g s))) ∧ st_a σ 10 s = nI (bs (fun k => nb (oldb f n q (P - q)) w v (s * (P - q + 3) + (k + 3))) (lgt (P - q + 3) g s - 3))) → ((∃ x, g ≤ x ∧ sz q (P - q) ≤ x ∧ x < 64 * ((sz q (P - q) - 1) / 64 + 1) ∧ nb (oldb f n q (P - q)) w v x = true) → ∃ t : St, f_X7_readsWords_n62 (nI F) (k + (d + 1)) σ (nI (P - q + 3)) (nI (sz q (P - q))) (nI g) = some (0, t) ∧ Gr noI yA σ t) ∧ ((¬ ∃ x, g ≤ x ∧ sz q (P - q) ≤ x ∧ x < 64 * ((sz q (P - q) - 1) / 64 + 1) ∧ nb (oldb f n q (P - q)) w v x = true) → ∃ t : St, f_X7_readsWords_n62 (nI F) (k + (d + 1)) σ (nI (P - q + 3)) (nI (sz q (P - q))) (nI g) = some (1, t) ∧ (∀ s, s < 2 ^ q → st_a t 9 s = nI (bs (fun k => nb (oldb f n q (P - q)) w v (s * (P - q + 3) + k)) 3) ∧ st_a t 10 s = nI (bs (fun k => nb (oldb f n q (P - q)) w v (s * (P - q + 3) + (k + 3))) (P - q))) ∧ Gr noI yA σ t) := by
  have hp := p2_bound hq
  obtain ⟨z1, z2, z3⟩ := sz_le hq (show P - q ≤ 11 by omega)
  have szE : sz q (P - q) = 2 ^ q * (P - q + 3) := rfl
  intro d
  induction d with
  | zero =>
    intro g k σ e hwd hinv
    refine ⟨fun ⟨x, x1, x2, x3, x4⟩ => by omega, fun _ => ⟨σ, ?_, fun s hs => ?_, Gr.rf⟩⟩
    · show f_X7_readsWords_n62_b (nI F) (f_X7_readsWords_n62 (nI F) k) σ (nI (P - q + 3)) (nI (sz q (P - q))) (nI g) = _
      unfold f_X7_readsWords_n62_b
      rw [Sub1 (sz q (P - q)), show (64 : Int32) = nI 64 from rfl, pk_div (by omega) (by omega) (by omega), nI_mul, show (63 : Int32) = nI 63 from rfl, nI_add, if_pos (Lt2 ((sz q (P - q) - 1) / 64 * 64 + 63) g)]
    · have h := hinv s hs
      have hz := z3 s hs
      have e1 : lgt (P - q + 3) g s = P - q + 3 := by unfold lgt; omega
      rw [e1, show min 3 (P - q + 3) = 3 by omega, show P - q + 3 - 3 = P - q by omega] at h
      exact h
  | succ d ih =>
    intro g k σ e hwd hinv
    have hW : g / 64 < (sz q (P - q) - 1) / 64 + 1 := by omega
    have hm64 : g % 64 < 64 := Nat.mod_lt _ (by omega)
    have hbit := hwd (g / 64) hW (g % 64) hm64
    rw [show 64 * (g / 64) + g % 64 = g by omega] at hbit
    -- the step
    have step : f_X7_readsWords_n62 (nI F) (k + (d + 1 + 1)) σ (nI (P - q + 3)) (nI (sz q (P - q))) (nI g) = if nI g < nI (sz q (P - q)) then f_X7_readsWords_n114 (nI F) (f_X7_readsWords_n62 (nI F) (k + (d + 1))) σ (nI (P - q + 3)) (nI (sz q (P - q))) (nI g) (nI (if nb (oldb f n q (P - q)) w v g = true then 1 else 0)) else if nI (if nb (oldb f n q (P - q)) w v g = true then 1 else 0) = 1 then some (0, σ) else f_X7_readsWords_n114 (nI F) (f_X7_readsWords_n62 (nI F) (k + (d + 1))) σ (nI (P - q + 3)) (nI (sz q (P - q))) (nI g) (nI (if nb (oldb f n q (P - q)) w v g = true then 1 else 0)) := by
      show f_X7_readsWords_n62_b (nI F) (f_X7_readsWords_n62 (nI F) (k + (d + 1))) σ (nI (P - q + 3)) (nI (sz q (P - q))) (nI g) = _
      unfold f_X7_readsWords_n62_b
      have e64 : (64 : Int32) = nI 64 := rfl
      rw [Sub1 (sz q (P - q)), e64, pk_rem (by omega) (by omega) (by omega), pk_div (by omega) (by omega) (by omega), pk_div (by omega) (by omega) (by omega), nI_mul, show (63 : Int32) = nI 63 from rfl, nI_add, if_neg (NLt2 ((sz q (P - q) - 1) / 64 * 64 + 63) g), if_pos (Inb (g / 64) 16), Cl (g / 64), lt_q]
      have eb : (st_l σ 1 (g / 64) >>> ((nI (g % 64)).toInt64 &&& 63) &&& 1).toInt32 = nI (if nb (oldb f n q (P - q)) w v g = true then 1 else 0) := by
        rw [lbit2, tb_sshr _ hm64, hbit]
      rw [eb]
    rw [step]
    by_cases c : g < sz q (P - q)
    · -- a bit of a slot
      rw [if_pos (Lt2 g (sz q (P - q)))]
      have hwd0 : 0 < P - q + 3 := by omega
      have hs : g / (P - q + 3) < 2 ^ q := (Nat.div_lt_iff_lt_mul hwd0).2 (by omega)
      have hi : g % (P - q + 3) < P - q + 3 := Nat.mod_lt _ hwd0
      have hdm := Nat.div_add_mod g (P - q + 3)
      have hcm := Nat.mul_comm (P - q + 3) (g / (P - q + 3))
      generalize hgs : g / (P - q + 3) = s at hs hdm hcm
      generalize hgi : g % (P - q + 3) = i at hi hdm
      have eg : s * (P - q + 3) + i = g := by omega
      have nW : ¬ nI (P - q + 3) = 0 := nI_ne0 (by omega) (by omega)
      have hbv : (if nb (oldb f n q (P - q)) w v g = true then 1 else 0) ≤ 1 := by split <;> omega
      generalize hbb : (if nb (oldb f n q (P - q)) w v g = true then 1 else 0) = b at hbv ⊢
      obtain ⟨h9, h10⟩ := hinv s hs
      have el : lgt (P - q + 3) g s = i := by unfold lgt; omega
      rw [el] at h9 h10
      have hp30 : ∀ m, m ≤ 14 → 2 ^ m ≤ 16384 := fun m hm => Nat.pow_le_pow_right (n := 2) (by omega) hm
      -- both numbers, with the bit
      have n9 : nI (bs (fun k => nb (oldb f n q (P - q)) w v (s * (P - q + 3) + k)) (min 3 i)) ||| (if 3 ≤ i then 0 else nI b <<< (nI i &&& 31)) = nI (bs (fun k => nb (oldb f n q (P - q)) w v (s * (P - q + 3) + k)) (min 3 (i + 1))) := by
        by_cases c3 : 3 ≤ i
        · rw [if_pos c3, show min 3 i = 3 by omega, show min 3 (i + 1) = 3 by omega, show (0 : Int32) = nI 0 from rfl, nI_or, Nat.or_zero]
        · have := hp30 i (by omega)
          rw [if_neg c3, show min 3 i = i by omega, show min 3 (i + 1) = i + 1 by omega, shl_r (by omega) (by rcases (show b = 0 ∨ b = 1 by omega) with rfl | rfl <;> omega), nI_or, ← bs_or, ← hbb, eg]
      have n10 : nI (bs (fun k => nb (oldb f n q (P - q)) w v (s * (P - q + 3) + (k + 3))) (i - 3)) ||| (if 3 ≤ i then nI b <<< (nI (i - 3) &&& 31) else 0) = nI (bs (fun k => nb (oldb f n q (P - q)) w v (s * (P - q + 3) + (k + 3))) (i + 1 - 3)) := by
        by_cases c3 : 3 ≤ i
        · have := hp30 (i - 3) (by omega)
          rw [if_pos c3, show i + 1 - 3 = i - 3 + 1 by omega, shl_r (by omega) (by rcases (show b = 0 ∨ b = 1 by omega) with rfl | rfl <;> omega), nI_or, ← bs_or, ← hbb, show i - 3 + 3 = i by omega, eg]
        · rw [if_neg c3, show i - 3 = 0 by omega, show i + 1 - 3 = 0 by omega, show (0 : Int32) = nI 0 from rfl, nI_or, Nat.or_zero]
      -- what it comes to
      have go : f_X7_readsWords_n114 (nI F) (f_X7_readsWords_n62 (nI F) (k + (d + 1))) σ (nI (P - q + 3)) (nI (sz q (P - q))) (nI g) (nI b) = f_X7_readsWords_n62 (nI F) (k + (d + 1)) (put_a (put_a σ 9 s (nI (bs (fun k => nb (oldb f n q (P - q)) w v (s * (P - q + 3) + k)) (min 3 (i + 1))))) 10 s (nI (bs (fun k => nb (oldb f n q (P - q)) w v (s * (P - q + 3) + (k + 3))) (i + 1 - 3)))) (nI (P - q + 3)) (nI (sz q (P - q))) (nI (g + 1)) := by
        rw [← n9, ← n10]
        unfold f_X7_readsWords_n114 f_X7_readsWords_n154 f_X7_readsWords_n183
        rw [if_pos (Lt2 g (sz q (P - q))), if_neg nW, pk_rem (by omega) (by omega) (by omega), pk_div (by omega) (by omega) (by omega), hgs, hgi, lt_q, if_neg nW, if_pos (Inb s 64), Cl s, h9]
        simp only [lt_q, nW, ↓reduceIte, nI_1]
        have i9 : ∀ x, st_a (put_a σ 9 s x) 10 s = st_a σ 10 s := fun x => by rw [sa_pa, if_neg (by omega)]
        by_cases c3 : 3 ≤ i
        · rw [if_pos (LeL 3 3 i), if_pos (LeL 3 3 i), if_pos (Inb s 64), if_pos (Inb s 64), if_pos (Inb s 64), i9, h10, if_pos c3, if_pos c3, show (3 : Int32) = nI 3 from rfl, Sub2 i 3]
        · rw [if_neg (NLeL 3 3 i), if_neg (NLeL 3 3 i), if_pos (Inb s 64), if_pos (Inb s 64), if_pos (Inb s 64), i9, h10, if_neg c3, if_neg c3]
      rw [go]
      have g1 : Gr noI yA σ (put_a (put_a σ 9 s (nI (bs (fun k => nb (oldb f n q (P - q)) w v (s * (P - q + 3) + k)) (min 3 (i + 1))))) 10 s (nI (bs (fun k => nb (oldb f n q (P - q)) w v (s * (P - q + 3) + (k + 3))) (i + 1 - 3)))) := (gr_a (Or.inl rfl)).tr (gr_a (Or.inr rfl))
      obtain ⟨i1, i2⟩ := ih (g + 1) k (put_a (put_a σ 9 s (nI (bs (fun k => nb (oldb f n q (P - q)) w v (s * (P - q + 3) + k)) (min 3 (i + 1))))) 10 s (nI (bs (fun k => nb (oldb f n q (P - q)) w v (s * (P - q + 3) + (k + 3))) (i + 1 - 3)))) (by omega) hwd (fun s' hs' => by
        have h9' : st_a (put_a (put_a σ 9 s (nI (bs (fun k => nb (oldb f n q (P - q)) w v (s * (P - q + 3) + k)) (min 3 (i + 1))))) 10 s (nI (bs (fun k => nb (oldb f n q (P - q)) w v (s * (P - q + 3) + (k + 3))) (i + 1 - 3)))) 9 s' = if s' = s then nI (bs (fun k => nb (oldb f n q (P - q)) w v (s * (P - q + 3) + k)) (min 3 (i + 1))) else st_a σ 9 s' := by
          rw [sa_pa, if_neg (by omega), sa_pa, if_pos rfl, upd_at]
        have h10' : st_a (put_a (put_a σ 9 s (nI (bs (fun k => nb (oldb f n q (P - q)) w v (s * (P - q + 3) + k)) (min 3 (i + 1))))) 10 s (nI (bs (fun k => nb (oldb f n q (P - q)) w v (s * (P - q + 3) + (k + 3))) (i + 1 - 3)))) 10 s' = if s' = s then nI (bs (fun k => nb (oldb f n q (P - q)) w v (s * (P - q + 3) + (k + 3))) (i + 1 - 3)) else st_a σ 10 s' := by
          rw [sa_pa, if_pos rfl, upd_at, sa_pa, if_neg (show ¬ (10 : Nat) = 9 by omega)]
        rw [h9', h10']
        by_cases cs : s' = s
        · subst cs
          have el' : lgt (P - q + 3) (g + 1) s' = i + 1 := by unfold lgt; omega
          rw [if_pos rfl, if_pos rfl, el']
          exact ⟨rfl, rfl⟩
        · have el' : lgt (P - q + 3) (g + 1) s' = lgt (P - q + 3) g s' := by
            unfold lgt
            rcases Nat.lt_or_ge s' s with y | y
            · have : (s' + 1) * (P - q + 3) ≤ s * (P - q + 3) := Nat.mul_le_mul_right _ y
              rw [Nat.add_mul] at this
              omega
            · have : (s + 1) * (P - q + 3) ≤ s' * (P - q + 3) := Nat.mul_le_mul_right _ (by omega)
              rw [Nat.add_mul] at this
              omega
          rw [if_neg cs, if_neg cs, el']
          exact hinv s' hs')
      refine ⟨fun ⟨x, x1, x2, x3, x4⟩ => ?_, fun hno => ?_⟩
      · obtain ⟨t, a1, a2⟩ := i1 ⟨x, by omega, x2, x3, x4⟩
        exact ⟨t, a1, g1.tr a2⟩
      · obtain ⟨t, a1, a2, a3⟩ := i2 (fun ⟨x, x1, x2, x3, x4⟩ => hno ⟨x, by omega, x2, x3, x4⟩)
        exact ⟨t, a1, a2, g1.tr a3⟩
    · -- beyond the slots
      rw [if_neg (NLt2 g (sz q (P - q)))]
      cases hb : nb (oldb f n q (P - q)) w v g with
      | true =>
        rw [if_pos rfl, if_pos (show nI 1 = 1 from rfl)]
        exact ⟨fun _ => ⟨σ, rfl, Gr.rf⟩, fun hno => absurd ⟨g, Nat.le_refl _, by omega, by omega, hb⟩ hno⟩
      | false =>
        rw [if_neg (show ¬ false = true by decide), if_neg (show ¬ nI 0 = 1 by decide)]
        unfold f_X7_readsWords_n114
        rw [if_neg (NLt2 g (sz q (P - q))), lt_q, nI_1]
        obtain ⟨i1, i2⟩ := ih (g + 1) k σ (by omega) hwd (fun s hs => by
          have hz := z3 s hs
          have : lgt (P - q + 3) (g + 1) s = lgt (P - q + 3) g s := by unfold lgt; omega
          rw [this]
          exact hinv s hs)
        refine ⟨fun ⟨x, x1, x2, x3, x4⟩ => i1 ⟨x, ?_, x2, x3, x4⟩, fun hno => i2 (fun ⟨x, x1, x2, x3, x4⟩ => hno ⟨x, by omega, x2, x3, x4⟩)⟩
        by_cases y : x = g
        · rw [y, hb] at x4; exact absurd x4 (by decide)
        · omega
theorem bad_iff {f : Nat → Nat} {n q r w : Nat} {v : Int64} (hq : q ≤ 6) (hr : r ≤ 11) (hw : 64 * w < sz q r) : (∃ x, 0 ≤ x ∧ sz q r ≤ x ∧ x < 64 * ((sz q r - 1) / 64 + 1) ∧ nb (oldb f n q r) w v x = true) ↔ BAD q r w v := by
  constructor
  · rintro ⟨x, -, x2, x3, x4⟩
    unfold nb at x4
    by_cases c : 64 * w ≤ x ∧ x < 64 * w + 64
    · rw [if_pos c] at x4
      exact ⟨x, x2, c.1, c.2, x4⟩
    · rw [if_neg c] at x4
      unfold oldb bitf at x4
      have : ¬ x < 2 ^ q * (r + 3) := by
        have e : sz q r = 2 ^ q * (r + 3) := rfl
        omega
      simp [this] at x4
  · rintro ⟨g, g1, g2, g3, g4⟩
    refine ⟨g, by omega, g1, by omega, ?_⟩
    unfold nb
    rw [if_pos ⟨g2, g3⟩]
    exact g4
theorem reads_words {M : St} {P F n q w : Nat} {f : Nat → Nat} (v : Int64) (hF : F < 2) (hb : BM M F n q f) (h5 : st_i M 5 = nI P) (hq : q ≤ 6) (hqP : q ≤ P) (hP : P ≤ 14) (hq3 : 3 ≤ q) (hw : 64 * w < sz q (P - q)) (hwd : ∀ i, i < (sz q (P - q) - 1) / 64 + 1 → ∀ b, b < 64 → tb (st_l M 1 i) b = nb (oldb f n q (P - q)) w v (64 * i + b)) : (BAD q (P - q) w v → ∃ t : St, f_X7_readsWords M (nI F) = some (0, t) ∧ Gr (fun k => k = 8) yA M t) ∧ (¬ BAD q (P - q) w v → ∃ t : St, f_X7_readsWords M (nI F) = some (1, t) ∧ st_i t 8 = nI q ∧ (∀ s, s < 2 ^ q → st_a t 9 s = nI (bs (fun k => nb (oldb f n q (P - q)) w v (s * (P - q + 3) + k)) 3) ∧ st_a t 10 s = nI (bs (fun k => nb (oldb f n q (P - q)) w v (s * (P - q + 3) + (k + 3))) (P - q))) ∧ Gr (fun k => k = 8) yA M t) := by
  have hp := p2_bound hq
  obtain ⟨z1, z2, z3⟩ := sz_le hq (show P - q ≤ 11 by omega)
  have g1 : Gr (fun k => k = 8) yA M (put_i M 8 (nI q)) := gr_i rfl
  have g1n : Gr (fun k => k = 8) nA2 M (put_i M 8 (nI q)) := gr_i rfl
  obtain ⟨j1, hj1⟩ := fuel_ge (k := 2 ^ q + 1) (by omega)
  obtain ⟨t1, a1, a2, a3⟩ := clear_M (nI (P - q + 3)) (nI (sz q (P - q))) hF hq (2 ^ q) 0 j1 (put_i M 8 (nI q)) (by omega) (hb.kp g1n.s (fun z => z) (fun z => z) (fun _ _ z => z)) (fun j hj => by omega)
  rw [← hj1, nI_0] at a1
  have e1 : f_X7_readsWords M (nI F) = f_X7_readsWords_n62 (nI F) fuel t1 (nI (P - q + 3)) (nI (sz q (P - q))) 0 := by
    unfold f_X7_readsWords f_X7_wide
    rw [bm_rest hb hF h5 hqP, bind_some, bind_some, bm_slots hb hF (by omega), bind_some, show (3 : Int32) = nI 3 from rfl, nI_add, nI_mul, lt_q, if_pos (Inb F 2), Cl F, hb.2.1, lt_q, Nat.mul_comm, show 2 ^ q * (P - q + 3) = sz q (P - q) from rfl, a1]
  have gt1 : Gr (fun k => k = 8) yA M t1 := g1.tr (a3.mono (fun k z => z.elim) (fun k j z => z))
  obtain ⟨j2, hj2⟩ := fuel_ge (k := 64 * ((sz q (P - q) - 1) / 64 + 1) + 1) (by omega)
  obtain ⟨b1, b2⟩ := bits_M (F := F) (n := n) (f := f) v hq hqP hP hq3 hw (64 * ((sz q (P - q) - 1) / 64 + 1)) 0 j2 t1 (by omega) (by rw [gt1.2.2 1]; exact hwd) (fun s hs => by
    have e : lgt (P - q + 3) 0 s = 0 := by unfold lgt; omega
    rw [e, (a2 s hs).1, (a2 s hs).2]
    exact ⟨rfl, rfl⟩)
  rw [← hj2, nI_0] at b1 b2
  rw [e1]
  refine ⟨fun z => ?_, fun z => ?_⟩
  · obtain ⟨t, c1, c2⟩ := b1 ((bad_iff hq (by omega) hw).2 z)
    exact ⟨t, c1, gt1.tr (c2.mono (fun k z => z.elim) (fun k j z => z))⟩
  · obtain ⟨t, c1, c2, c3⟩ := b2 (fun y => z ((bad_iff hq (by omega) hw).1 y))
    refine ⟨t, c1, ?_, c2, gt1.tr (c3.mono (fun k z => z.elim) (fun k j z => z))⟩
    rw [c3.1 8 (fun z => z), a3.1 8 (fun z => z), si_pi, if_pos rfl]
theorem m_sets {C M : St} (h : Rel C M) (x1 x2 x3 x4 : Int32) : Ok2 (f_X6_sets C x1 x2 x3 x4) (f_X7_sets M x1 x2 x3 x4) := by
  have h' := h.thr 0
  obtain ⟨P, L, n, q, f, kr, gr, kt, gt, h1, h2, h3, hT, hU⟩ := id h'
  have hr : Rf C (put_i M 0 0) P L n q f kt gt := ⟨h1, h2, hT, hU⟩
  have hp := h1.1
  unfold f_X6_sets f_X7_sets
  rw [lt_q, lt_q]
  generalize hM : put_i M 0 0 = M0 at h' h1 h2 h3 hU hr ⊢
  generalize hv : (x3.toInt64 <<< ((32 : Int32).toInt64 &&& 63) ||| x4.toInt64 &&& 4294967295) = v
  refine guardW h' hr (fun F hF hx w hw hy => ?_)
  subst hx hy
  obtain ⟨a1, a2, ⟨q1, q2, q3⟩, a4, a5⟩ := hr.2.1 F hF
  obtain ⟨t, u, e1, e2, l1, l2, hr2, hl, f1, g1⟩ := lay2 hr hF
  obtain ⟨b1, b2, -⟩ := hr2.2.1 F hF
  have h5 := hr2.1.2.2.2.1
  obtain ⟨z1, z2, z3⟩ := sz_le q2 (show P - q F ≤ 11 by omega)
  obtain ⟨vw, w1, w2, w3⟩ := word2 (w := w) l1 b2 hF h5 l2 q2 (by omega) hp.2 q1 (by omega)
  have rc : RC t kr gr := h3.1.kp f1 (by omega)
  have rm : RM u kr gr := h3.2.kp g1 (fun z => z)
  rw [lt_q, e1, bind_some, w1, bind_some, e2, bind_some, lt_q, w2, bind_some]
  by_cases c : v = vw
  · rw [if_pos (lg_0.2 c), if_pos (lg_0.2 c.symm)]
    exact ⟨_, _, _, rfl, rfl, hr2.rel rc rm⟩
  · rw [if_neg (fun z => c (lg_0.1 z)), if_neg (fun z => c (lg_0.1 z).symm)]
    obtain ⟨jj, hjj⟩ := fuel_ge (k := (sz (q F) (P - q F) - 1) / 64 + 1 + 1) (by omega)
    obtain ⟨u1, d1, d2, d3⟩ := words_M (nI w) x3 x4 v hF l1 q2 (by omega) hp.2 q1 rfl hw ((sz (q F) (P - q F) - 1) / 64 + 1) 0 jj u (by omega) b2 l2 h5 (fun i hi => by omega)
    rw [← hjj, nI_0] at d1
    rw [d1]
    obtain ⟨k1, k2⟩ := word_C2 v q2 (by omega) l1 hw
    obtain ⟨m1, m2⟩ := reads_words v hF (b2.kp d3.gs (fun z => z) (fun z => z) (fun _ _ z => z)) (by rw [d3.1 5]; exact h5) q2 (by omega) hp.2 q1 hw d2
    have fin : ∀ t' u' : St, Fr (fun k => k = 15) (fun k => k = 9) t t' → Gr (fun k => k = 8) yA u1 u' → Rf t' u' P L n q f kt gt ∧ RC t' kr gr ∧ RM u' kr gr := by
      intro t' u' ft gu
      have gs : Gs (fun k => k = 8) yA u u' := ((d3.gs.mono (fun k z => z.elim) (fun k j z => z.elim)).tr gu.s)
      refine ⟨hr2.kp (ft.s.mono (fun k z => by omega) (fun k z => by omega)) (gs.mono (fun k z => by omega) (fun k j z => by omega)), rc.kp ft (by omega), ?_, rm.2.1, fun i hi => ?_⟩
      · rw [gs.1 1 (by omega)]; exact rm.1
      · rw [gu.2.2 0, d3.2.2]; exact rm.2.2 i hi
    by_cases bad : BAD (q F) (P - q F) w v
    · obtain ⟨t', x1, x2⟩ := k1 bad
      obtain ⟨u', y1, y2⟩ := m1 bad
      obtain ⟨y3, y4, y5⟩ := fin t' u' x2 y2
      rw [x1, bind2_some, if_pos rfl, y1, bind2_some, if_pos rfl]
      exact ⟨_, _, _, rfl, rfl, y3.rel y4 y5⟩
    · obtain ⟨t', x1, x15, x9, x2⟩ := k2 bad
      obtain ⟨u', y1, y8, y9, y2⟩ := m2 bad
      obtain ⟨y3, y4, y5⟩ := fin t' u' x2 y2
      rw [x1, bind2_some, if_neg (by decide), y1, bind2_some, if_neg (by decide)]
      obtain ⟨mm, rm', r1, r2⟩ := okR_all (C := t') (M := u') hp.2 ⟨q1, q2, q3⟩ x15 y8 y3.1.2.2.2.1 (fun s hs => by
        refine ⟨bs (fun k => nb (oldb (f F) (n F) (q F) (P - q F)) w v (s * (P - q F + 3) + k)) 3, bs (fun k => nb (oldb (f F) (n F) (q F) (P - q F)) w v (s * (P - q F + 3) + (k + 3))) (P - q F), bs_lt _ 3, bs_lt _ _, ?_, (y9 s hs).1, (y9 s hs).2⟩
        rw [x9 s hs, Nat.add_comm (P - q F) 3, bs_split])
      exact (raw2 y3 hF r1 r2 y4 y5).bind
