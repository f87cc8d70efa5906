/-! told slots that lie as a bag does -/
def RQ (f : Nat → Nat) (n q r : Nat) (mm rm : Nat → Nat) : Prop := ∀ s, s < 2 ^ q → mk (hh f r) (2 ^ q) n n s = mm s ∧ rB f n q r s = rm s
theorem bit3 {o c s : Nat} (ho : o = 0 ∨ o = 1) (hc : c = 0 ∨ c = 1) (hs : s = 0 ∨ s = 1) : (o + 2 * c + 4 * s) % 2 = o ∧ (o + 2 * c + 4 * s) / 2 % 2 = c ∧ (o + 2 * c + 4 * s) / 4 % 2 = s := by omega
theorem rq_bits {f : Nat → Nat} {n q r : Nat} {mm rm : Nat → Nat} (h : RQ f n q r mm rm) {s : Nat} (hs : s < 2 ^ q) : mm s % 2 = oB f n r s ∧ mm s / 2 % 2 = cB f n q r s ∧ mm s / 4 % 2 = sB f n q r s ∧ mm s < 8 ∧ mm s = oB f n r s + 2 * cB f n q r s + 4 * sB f n q r s := by
  obtain ⟨h1, -⟩ := h s hs
  rw [← h1, mk_bits]
  have a := oB_01 f n r s
  have b := cB_01 f n q r s
  have c := sB_01 f n q r s
  obtain ⟨x, y, z⟩ := bit3 a b c
  exact ⟨x, y, z, by omega, rfl⟩
theorem S_inj {b N t u : Nat} (ht : t < N) (hu : u < N) (e : (b + t) % N = (b + u) % N) : t = u := by
  rcases Nat.lt_trichotomy t u with q | q | q
  · exact absurd e (mod_ne (by omega) (by omega))
  · exact q
  · exact absurd e.symm (mod_ne (by omega) (by omega))
theorem po_ge (B : Nat → Nat) (c m : Nat) : B m ≤ po B c m := Nat.le_max_left _ _
theorem rs_home {f : Nat → Nat} {n q r b k0 : Nat} {B mm rm : Nat → Nat} (h : RQ f n q r mm rm) (R : Rotd (hh f r) (2 ^ q) n b k0 B) {m : Nat} (hm : m < n) : mm ((b + B m) % 2 ^ q) % 2 = 1 ∧ (b + B m) % 2 ^ q = f (rot k0 n m) / 2 ^ r ∧ (b + B m) % 2 ^ q < 2 ^ q := by
  have hp : 0 < 2 ^ q := Nat.pow_pos (by omega)
  have hl := Nat.mod_lt (b + B m) hp
  refine ⟨?_, R.home m hm, hl⟩
  rw [(rq_bits h hl).1]
  exact oc_1.2 ⟨rot k0 n m, rot_lt R.hk hm, (R.home m hm).symm⟩
theorem rs_none {f : Nat → Nat} {n q r b k0 : Nat} {B mm rm : Nat → Nat} (h : RQ f n q r mm rm) (R : Rotd (hh f r) (2 ^ q) n b k0 B) {t : Nat} (ht : t < 2 ^ q) (hn : ∀ m, m < n → B m ≠ t) : mm ((b + t) % 2 ^ q) % 2 = 0 := by
  have hp : 0 < 2 ^ q := Nat.pow_pos (by omega)
  have hl := Nat.mod_lt (b + t) hp
  rw [(rq_bits h hl).1]
  rcases oB_01 f n r ((b + t) % 2 ^ q) with o | o
  · exact o
  · exfalso
    obtain ⟨i, hi, e⟩ := oc_1.1 o
    obtain ⟨m, hm, rfl⟩ := rot_sur R.hk hi
    rw [← R.home m hm] at e
    have := po_ge B 0 m
    have := R.lt m hm
    exact hn m hm (S_inj (by omega) ht e)
theorem rs_elem {f : Nat → Nat} {n q r b k0 : Nat} {B mm rm : Nat → Nat} (hl : HL (hh f r) (2 ^ q) n) (h : RQ f n q r mm rm) (R : Rotd (hh f r) (2 ^ q) n b k0 B) {m : Nat} (hm : m < n) : mm ((b + po B 0 m) % 2 ^ q) / 2 % 2 = ct B m ∧ mm ((b + po B 0 m) % 2 ^ q) / 4 % 2 = (if po B 0 m = B m then 0 else 1) ∧ rm ((b + po B 0 m) % 2 ^ q) = f (rot k0 n m) % 2 ^ r ∧ mm ((b + po B 0 m) % 2 ^ q) ≠ 0 := by
  have hp : 0 < 2 ^ q := Nat.pow_pos (by omega)
  have hs := Nat.mod_lt (b + po B 0 m) hp
  have e := R.slot m hm
  have hi := ix_sl hl (rot_lt R.hk hm)
  obtain ⟨b1, b2, b3, b4, b5⟩ := rq_bits h hs
  have e2 : mm ((b + po B 0 m) % 2 ^ q) / 2 % 2 = ct B m := by
    rw [b2, e]
    unfold cB
    rw [hi]
    show ow _ (rot k0 n m + 1) = _
    unfold ow
    rw [if_neg (by omega), Nat.add_sub_cancel, R.same m hm]
  have e4 : mm ((b + po B 0 m) % 2 ^ q) / 4 % 2 = (if po B 0 m = B m then 0 else 1) := by
    rw [b3, e]
    unfold sB
    rw [hi]
    show ow _ (rot k0 n m + 1) = _
    unfold ow
    rw [if_neg (by omega), Nat.add_sub_cancel]
    unfold sf
    by_cases c : po B 0 m = B m
    · rw [if_pos c, if_pos ((R.own m hm).1 c)]
    · rw [if_neg c, if_neg (fun z => c ((R.own m hm).2 z))]
  refine ⟨e2, e4, ?_, ?_⟩
  · rw [← (h _ hs).2, e]
    unfold rB
    rw [hi]
    show ow _ (rot k0 n m + 1) = _
    unfold ow
    rw [if_neg (by omega), Nat.add_sub_cancel]
  · intro z
    by_cases c : po B 0 m = B m
    · have := (rs_home h R hm).1
      rw [← c, z] at this
      omega
    · rw [if_neg c, z] at e4
      omega
theorem rs_empty {f : Nat → Nat} {n q r b k0 : Nat} {B mm rm : Nat → Nat} (h : RQ f n q r mm rm) (R : Rotd (hh f r) (2 ^ q) n b k0 B) {t : Nat} (ht : t < 2 ^ q) (hn : ∀ m, m < n → po B 0 m ≠ t) : mm ((b + t) % 2 ^ q) = 0 := by
  have hp : 0 < 2 ^ q := Nat.pow_pos (by omega)
  have hs := Nat.mod_lt (b + t) hp
  obtain ⟨b1, b2, b3, b4, b5⟩ := rq_bits h hs
  have n0 : ix (sl (hh f r) (2 ^ q) n) n ((b + t) % 2 ^ q) = 0 := by
    rcases Nat.eq_zero_or_pos (ix (sl (hh f r) (2 ^ q) n) n ((b + t) % 2 ^ q)) with z | z
    · exact z
    · exfalso
      have a := ix_le (sl (hh f r) (2 ^ q) n) ((b + t) % 2 ^ q) n
      have c := ix_own (sl (hh f r) (2 ^ q) n) ((b + t) % 2 ^ q) n z
      obtain ⟨m, hm, e⟩ := rot_sur (k := ix (sl (hh f r) (2 ^ q) n) n ((b + t) % 2 ^ q) - 1) R.hk (by omega)
      rw [← e, ← R.slot m hm] at c
      exact hn m hm (S_inj (R.lt m hm) ht c)
  have nb : ∀ m, m < n → B m ≠ t := by
    intro m hm e
    obtain ⟨k', x, y⟩ := taken (c := 0) R.srt m hm t (by omega) (by have := po_ge B 0 m; omega) (by omega)
    exact hn k' (by omega) y
  have o := rs_none h R ht nb
  unfold cB at b5
  unfold sB at b5
  rw [n0] at b5
  have e0 : ∀ x : Nat → Nat, ow x 0 = 0 := fun x => rfl
  rw [e0, e0] at b5
  omega
/-! the waiting homes -/
def dn (B : Nat → Nat) : Nat → Nat
  | 0 => 0
  | m + 1 => dn B m + (1 - ct B m)
theorem dn_mono (B : Nat → Nat) : ∀ d i, dn B i ≤ dn B (i + d) := by
  intro d
  induction d with
  | zero => intro i; exact Nat.le_refl _
  | succ d ih => intro i; have := ih i; show _ ≤ dn B (i + d) + _; omega
theorem dn_le2 (B : Nat → Nat) {i j : Nat} (h : i ≤ j) : dn B i ≤ dn B j := by
  have := dn_mono B (j - i) i
  rw [show i + (j - i) = j by omega] at this
  exact this
theorem dn_le (B : Nat → Nat) : ∀ i, dn B i ≤ i := by
  intro i
  induction i with
  | zero => exact Nat.le_refl _
  | succ i ih => show dn B i + _ ≤ _; omega
theorem dn_diff (B : Nat → Nat) (a : Nat) : ∀ d, dn B (a + d) ≤ dn B a + d := by
  intro d
  induction d with
  | zero => exact Nat.le_refl _
  | succ d ih => show dn B (a + d) + _ ≤ _; omega
theorem ct_0 (B : Nat → Nat) : ct B 0 = 0 := by unfold ct; rw [if_neg (by omega)]
def QU (B S : Nat → Nat) (a c : Nat) (g : Nat → Int32) : Prop := ∀ m, a ≤ m → m < c → g (dn B (m + 1) - 1 - dn B a) = nI (S (B m))
theorem qu_push {B S : Nat → Nat} {n a t : Nat} {g : Nat → Int32} (hs : Srt B n) (ha : a ≤ lb B n t) (hca : ct B a = 0) (hq : QU B S a (lb B n t) g) {m : Nat} (hm : m < n) (hB : B m = t) : dn B (lb B n (t + 1)) = dn B (lb B n t) + 1 ∧ QU B S a (lb B n (t + 1)) (upd g (dn B (lb B n t) - dn B a) (nI (S t))) := by
  have li := lb_iff hs t
  have li1 := lb_iff hs (t + 1)
  have hl1 := lb_le B n (t + 1)
  have hcn : lb B n t < n := by
    rcases Nat.lt_or_ge (lb B n t) n with q | q
    · exact q
    · have := (li m hm).2 (by omega); omega
  have heq : ∀ j, lb B n t ≤ j → j < lb B n (t + 1) → B j = t := by
    intro j h1 h2
    have x := (li1 j (by omega)).2 h2
    have y : ¬ B j < t := fun z => by have := (li j (by omega)).1 z; omega
    omega
  have hm1 : m < lb B n (t + 1) := (li1 m hm).1 (by omega)
  have hm0 : lb B n t ≤ m := by
    rcases Nat.lt_or_ge m (lb B n t) with q | q
    · have := (li m hm).2 q; omega
    · exact q
  have hfirst : dn B (lb B n t + 1) = dn B (lb B n t) + 1 := by
    show dn B (lb B n t) + (1 - ct B (lb B n t)) = _
    have : ct B (lb B n t) = 0 := by
      unfold ct
      rw [if_neg]
      rintro ⟨z, e⟩
      have x := (li (lb B n t - 1) (by omega)).2 (by omega)
      have y := heq (lb B n t) (by omega) (by omega)
      omega
    omega
  have hall : ∀ d, lb B n t + d < lb B n (t + 1) → dn B (lb B n t + d + 1) = dn B (lb B n t) + 1 := by
    intro d
    induction d with
    | zero => intro _; exact hfirst
    | succ d ih =>
      intro h
      have i := ih (by omega)
      show dn B (lb B n t + d + 1) + (1 - ct B (lb B n t + d + 1)) = _
      have : ct B (lb B n t + d + 1) = 1 := by
        unfold ct
        rw [if_pos]
        refine ⟨by omega, ?_⟩
        rw [show lb B n t + d + 1 - 1 = lb B n t + d by omega, heq _ (by omega) (by omega), heq _ (by omega) (by omega)]
      omega
  refine ⟨?_, ?_⟩
  · have := hall (lb B n (t + 1) - 1 - lb B n t) (by omega)
    rw [show lb B n t + (lb B n (t + 1) - 1 - lb B n t) + 1 = lb B n (t + 1) by omega] at this
    exact this
  · intro j h1 h2
    rw [upd_at]
    rcases Nat.lt_or_ge j (lb B n t) with q | q
    · have x := dn_le2 B (show j + 1 ≤ lb B n t by omega)
      have y := dn_le2 B (show a + 1 ≤ j + 1 by omega)
      have z : dn B (a + 1) = dn B a + 1 := by show dn B a + (1 - ct B a) = _; omega
      rw [if_neg (by omega)]
      exact hq j h1 q
    · have := hall (j - lb B n t) (by omega)
      rw [show lb B n t + (j - lb B n t) + 1 = j + 1 by omega] at this
      rw [if_pos (by omega), heq j q h2]
theorem qu_stay {B : Nat → Nat} {n t : Nat} (hs : Srt B n) (h : ∀ m, m < n → B m ≠ t) : lb B n (t + 1) = lb B n t := by
  refine lb_uniq hs (lb_le _ _ _) (fun i hi => ?_)
  have := lb_iff hs t i hi
  have := h i hi
  omega
/-- how many of the first m of w are v -/
def ci (w : Nat → Nat) (v : Nat) : Nat → Nat
  | 0 => 0
  | m + 1 => ci w v m + if v = w m then 1 else 0
theorem ci_lb (w : Nat → Nat) (n v : Nat) : cnt w n v = ci w v n := by
  induction n with
  | zero => rfl
  | succ n ih =>
    have m : lb w n v ≤ lb w n (v + 1) := lb_mono (by omega)
    unfold cnt at ih ⊢
    simp only [lb, ci]
    rw [← ih]
    by_cases e : v = w n
    · rw [if_pos e, if_pos (by omega), if_neg (by omega)]; omega
    · rw [if_neg e]
      by_cases l : w n < v
      · rw [if_pos (by omega), if_pos l]; omega
      · rw [if_neg (by omega), if_neg l]; omega
theorem ci_rot (g : Nat → Nat) (v : Nat) {k0 n : Nat} (hk : k0 ≤ n) : ci (fun m => g (rot k0 n m)) v n = ci g v n := by
  have a : ∀ j, k0 + j ≤ n → ci (fun m => g (rot k0 n m)) v j + ci g v k0 = ci g v (k0 + j) := by
    intro j
    induction j with
    | zero => intro _; simp only [ci, Nat.add_zero]; omega
    | succ j ih =>
      intro h
      have := ih (by omega)
      show ci (fun m => g (rot k0 n m)) v j + (if v = g (rot k0 n j) then 1 else 0) + ci g v k0 = ci g v (k0 + j) + if v = g (k0 + j) then 1 else 0
      have e : rot k0 n j = k0 + j := by unfold rot; rw [if_pos (by omega)]
      rw [e]
      omega
  have b : ∀ j, j ≤ k0 → ci (fun m => g (rot k0 n m)) v (n - k0 + j) = ci (fun m => g (rot k0 n m)) v (n - k0) + ci g v j := by
    intro j
    induction j with
    | zero => intro _; simp only [ci, Nat.add_zero]
    | succ j ih =>
      intro h
      have := ih (by omega)
      show ci (fun m => g (rot k0 n m)) v (n - k0 + j) + (if v = g (rot k0 n (n - k0 + j)) then 1 else 0) = ci (fun m => g (rot k0 n m)) v (n - k0) + (ci g v j + if v = g j then 1 else 0)
      have e : rot k0 n (n - k0 + j) = j := by unfold rot; rw [if_neg (by omega)]; omega
      rw [e]
      omega
  have a1 := a (n - k0) (by omega)
  have b1 := b k0 (by omega)
  rw [show k0 + (n - k0) = n by omega] at a1
  rw [show n - k0 + k0 = n by omega] at b1
  omega
