/-! cluster, clusters, gaps -/
theorem runs_loop {t u : St} {F n q r p L : Nat} {f : Nat → Nat} {x2 : Int32} (l1 : LY t 0 n q r f) (l2 : LM u n q r f) (hq : q ≤ 6) (hp : p < 2 ^ q) (hL : L ≤ 2 ^ q) : ∀ (d i k : Nat) (y : Int32), i + d = L → ∃ z, f_X2_runsIn_n5 t 0 (nI p) (nI L) (k + (d + 1)) y (nI i) = some z ∧ f_X7_cluster_n62 (nI F) x2 (k + (d + 1)) u (nI (2 ^ q)) (nI p) (nI L) y (nI i) = f_X7_cluster_n62 (nI F) x2 (k + 1) u (nI (2 ^ q)) (nI p) (nI L) z (nI L) := by
  have hw := p2_bound hq
  intro d
  induction d with
  | zero =>
    intro i k y e
    have : i = L := by omega
    subst this
    refine ⟨y, ?_, rfl⟩
    show f_X2_runsIn_n5_b t 0 (nI p) (nI i) (f_X2_runsIn_n5 t 0 (nI p) (nI i) k) y (nI i) = _
    unfold f_X2_runsIn_n5_b
    rw [if_pos (Le2 i i)]
  | succ d ih =>
    intro i k y e
    have hm : (p + i) % 2 ^ q < 2 ^ q := Nat.mod_lt _ (by omega)
    rcases cB_01 f n q r ((p + i) % 2 ^ q) with o | o
    · obtain ⟨z, z1, z2⟩ := ih (i + 1) k (y + 1) (by omega)
      refine ⟨z, ?_, ?_⟩
      · show f_X2_runsIn_n5_b t 0 (nI p) (nI L) (f_X2_runsIn_n5 t 0 (nI p) (nI L) (k + (d + 1))) y (nI i) = _
        unfold f_X2_runsIn_n5_b
        rw [if_neg (NLe2 L i), nI_add, around_C l1 hq (by omega), mark2_C l1 hq hm, bind_some, o, if_pos nI_0, lt_q, lt_q, nI_1, z1]
      · rw [← z2]
        show f_X7_cluster_n62_b (nI F) x2 (f_X7_cluster_n62 (nI F) x2 (k + (d + 1))) u _ _ _ y (nI i) = _
        unfold f_X7_cluster_n62_b f_X7_cluster_n93
        rw [if_neg (NLe2 L i), if_neg (nI_ne0 (by omega) (by omega)), nI_add, pk_rem (by omega) (by omega) (by omega), if_pos (Inb ((p + i) % 2 ^ q) 64), Cl ((p + i) % 2 ^ q), mark2_M l2 hm, o, if_pos (show nI (2 * 0) = 0 from rfl), lt_q, lt_q, flag_1, nI_1]
    · obtain ⟨z, z1, z2⟩ := ih (i + 1) k y (by omega)
      refine ⟨z, ?_, ?_⟩
      · show f_X2_runsIn_n5_b t 0 (nI p) (nI L) (f_X2_runsIn_n5 t 0 (nI p) (nI L) (k + (d + 1))) y (nI i) = _
        unfold f_X2_runsIn_n5_b
        rw [if_neg (NLe2 L i), nI_add, around_C l1 hq (by omega), mark2_C l1 hq hm, bind_some, o, if_neg (by decide), lt_q, nI_1, z1]
      · rw [← z2]
        show f_X7_cluster_n62_b (nI F) x2 (f_X7_cluster_n62 (nI F) x2 (k + (d + 1))) u _ _ _ y (nI i) = _
        unfold f_X7_cluster_n62_b f_X7_cluster_n93
        rw [if_neg (NLe2 L i), if_neg (nI_ne0 (by omega) (by omega)), nI_add, pk_rem (by omega) (by omega) (by omega), if_pos (Inb ((p + i) % 2 ^ q) 64), Cl ((p + i) % 2 ^ q), mark2_M l2 hm, o, if_neg (show ¬ nI (2 * 1) = 0 by decide), lt_q, lt_q, flag_0, Int32.add_zero, nI_1]
theorem m_cluster {C M : St} (h : Rel C M) (x1 x2 : Int32) : Ok2 (f_X6_cluster C x1 x2) (f_X7_cluster M x1 x2) := by
  have h' := h.thr 0
  unfold f_X6_cluster f_X7_cluster
  rw [lt_q, lt_q]
  obtain ⟨P, L, n, q, f, kt, gt, hr⟩ := h'.rf
  generalize hM : put_i M 0 0 = M0 at h' hr ⊢
  refine guardS h' hr (fun F hF hx s hs hy => ?_)
  subst hx hy
  obtain ⟨t, u, e1, e2, l1, l2, hr2, hl, f1, f2⟩ := lay2 hr hF
  have hrel := h'.lay hr2 f1 f2
  obtain ⟨a1, a2, ⟨q1, q2, q3⟩, a4, a5⟩ := hr2.2.1 F hF
  have hw := p2_bound q2
  have hn := a1.2.2.1
  have hsl := bm_slots a2 hF (show q F < 31 by omega)
  obtain ⟨v, v1, -, v3, -⟩ := idx_C l1 q2 hn hs
  have hh := (hold_M l2 hn hs).2
  rw [e1, bind_some, v1, bind_some, e2, bind_some, if_pos (Inb s 64), Cl s]
  by_cases c : 0 < iB (f F) (n F) (q F) (P - q F) s
  · obtain ⟨p, p1, p2, p3, p4⟩ := first (F := F) l1 l2 hsl hl hn q2 hs c
    obtain ⟨Ln, n1, n2, n3, n4, n5, n6⟩ := clen (F := F) l1 l2 hsl hn q2 p1
    obtain ⟨j, hj⟩ := fuel_ge (k := Ln + 1) (by omega)
    obtain ⟨z, z1, z2⟩ := runs_loop (F := F) (x2 := nI s) l1 l2 q2 p1 n2 Ln 0 j 0 (by omega)
    rw [← hj, nI_0] at z1 z2
    have z1' : f_X2_runsIn t 0 (nI p) (nI Ln) = some z := z1
    obtain ⟨t1, u1, u2, c1, c2, c3, c4, -⟩ := end2 hr2 (nI p).toInt64 z.toInt64
    rw [if_pos (v3.2 c), if_pos (hh.2 c), p3, bind_some, n5, bind_some, z1', bind_some, c1, bind_some, hsl, bind_some, p4, bind_some, n6, bind_some, z2]
    show Ok2 _ (f_X7_cluster_n62_b (nI F) (nI s) (f_X7_cluster_n62 (nI F) (nI s) j) u (nI (2 ^ q F)) (nI p) (nI Ln) z (nI Ln))
    unfold f_X7_cluster_n62_b
    rw [if_pos (Le2 Ln Ln), lt_q, c2, bind_some, c3, bind_some]
    exact ⟨_, _, _, rfl, rfl, c4⟩
  · rw [if_neg (fun z => c (v3.1 z)), if_neg (fun z => c (hh.1 z))]
    exact ⟨_, _, _, rfl, rfl, hrel⟩
theorem clusters_loop {t u : St} {P L : Nat} {n q : Nat → Nat} {f : Nat → Nat → Nat} {kt : Nat} {gt : Nat → Nat} {F : Nat} (hr : Rf t u P L n q f kt gt) (hF : F < 2) (l1 : LY t 0 (n F) (q F) (P - q F) (f F)) (l2 : LM u (n F) (q F) (P - q F) (f F)) (x1 : Int32) : ∀ (d i k : Nat) (y3 y4 y5 : Int32), i + d = 2 ^ q F → Ok2 (f_X6_clusters_n35 x1 (k + (d + 1)) t y3 y4 y5 (nI i)) (f_X7_clusters_n29 (nI F) (k + (d + 1)) u y3 y4 y5 (nI i)) := by
  obtain ⟨a1, a2, ⟨q1, q2, q3⟩, a4, a5⟩ := hr.2.1 F hF
  have hw := p2_bound q2
  have hn := a1.2.2.1
  have hsl := bm_slots a2 hF (show q F < 31 by omega)
  have e10 : st_i t 10 = nI (2 ^ q F) := l1.2.1
  intro d
  induction d with
  | zero =>
    intro i k y3 y4 y5 e
    have : i = 2 ^ q F := by omega
    subst this
    obtain ⟨t1, u1, u2, c1, c2, c3, c4, -⟩ := end2 hr y4.toInt64 y5.toInt64
    show Ok2 (f_X6_clusters_n35_b x1 (f_X6_clusters_n35 x1 k) t y3 y4 y5 _) (f_X7_clusters_n29_b (nI F) (f_X7_clusters_n29 (nI F) k) u y3 y4 y5 _)
    unfold f_X6_clusters_n35_b f_X7_clusters_n29_b
    rw [e10, if_pos (Le2 (2 ^ q F) (2 ^ q F)), c1, bind_some, hsl, bind_some, if_pos (Le2 (2 ^ q F) (2 ^ q F)), lt_q, c2, bind_some, c3, bind_some]
    exact ⟨_, _, _, rfl, rfl, c4⟩
  | succ d ih =>
    intro i k y3 y4 y5 e
    have hi : i < 2 ^ q F := by omega
    obtain ⟨Ln, n1, n2, n3, n4, n5, n6⟩ := clen (F := F) l1 l2 hsl hn q2 hi
    show Ok2 (f_X6_clusters_n35_b x1 (f_X6_clusters_n35 x1 (k + (d + 1))) t y3 y4 y5 _) (f_X7_clusters_n29_b (nI F) (f_X7_clusters_n29 (nI F) (k + (d + 1))) u y3 y4 y5 _)
    unfold f_X6_clusters_n35_b f_X7_clusters_n29_b f_X6_clusters_n87 f_X7_clusters_n76
    rw [e10, if_neg (NLe2 (2 ^ q F) i), starts_C l1 hn q2 hi, bind_some, hsl, bind_some, if_neg (NLe2 (2 ^ q F) i), begins_M l2 hn q2 hi, bind_some, n5, n6]
    simp only [lt_q, bind_q, nI_1]
    by_cases c : 0 < iB (f F) (n F) (q F) (P - q F) i ∧ sB (f F) (n F) (q F) (P - q F) i = 0
    · have n10 : ¬ (1 : Int32) = 0 := by decide
      rw [if_pos c, if_neg n10, if_neg n10]
      by_cases e5 : nI Ln ≤ y4
      · rw [if_pos e5, if_pos e5]
        exact ih (i + 1) k _ _ _ (by omega)
      · rw [if_neg e5, if_neg e5]
        exact ih (i + 1) k _ _ _ (by omega)
    · have n00 : (0 : Int32) = 0 := rfl
      rw [if_neg c, if_pos n00, if_pos n00]
      exact ih (i + 1) k _ _ _ (by omega)
theorem m_clusters {C M : St} (h : Rel C M) (x1 : Int32) : Ok2 (f_X6_clusters C x1) (f_X7_clusters M x1) := by
  have h' := h.thr 0
  unfold f_X6_clusters f_X7_clusters
  rw [lt_q, lt_q]
  obtain ⟨P, L, n, q, f, kt, gt, hr⟩ := h'.rf
  generalize hM : put_i M 0 0 = M0 at h' hr ⊢
  refine guardF h' (fun F hF hx => ?_)
  subst hx
  obtain ⟨t, u, e1, e2, l1, l2, hr2, hl, f1, f2⟩ := lay2 hr hF
  have hw := p2_bound (hr.2.1 F hF).2.2.1.2.1
  obtain ⟨j, hj⟩ := fuel_ge (k := 2 ^ q F + 1) (by omega)
  rw [e1, bind_some, e2, bind_some, hj]
  exact clusters_loop hr2 hF l1 l2 _ (2 ^ q F) 0 j _ _ _ (by omega)
/-- the gap from s on -/
def gp (I : Nat → Nat) (N s : Nat) : Nat → Nat → Nat
  | 0, y => y
  | d + 1, y => if I ((s + y) % N) = 0 then gp I N s d (y + 1) else y
theorem gp_spec (I : Nat → Nat) (N s : Nat) : ∀ d y, y + d = N → y ≤ gp I N s d y ∧ gp I N s d y ≤ N ∧ (∀ z, y ≤ z → z < gp I N s d y → I ((s + z) % N) = 0) ∧ (gp I N s d y < N → I ((s + gp I N s d y) % N) ≠ 0) := by
  intro d
  induction d with
  | zero => intro y e; exact ⟨Nat.le_refl _, by show y ≤ N; omega, fun z h1 h2 => by have : z < y := h2; omega, fun h => by have : y < N := h; omega⟩
  | succ d ih =>
    intro y e
    simp only [gp]
    by_cases c : I ((s + y) % N) = 0
    · rw [if_pos c]
      obtain ⟨a1, a2, a3, a4⟩ := ih (y + 1) (by omega)
      refine ⟨by omega, a2, fun z h1 h2 => ?_, a4⟩
      by_cases e2 : z = y
      · rw [e2]; exact c
      · exact a3 z (by omega) h2
    · rw [if_neg c]
      exact ⟨Nat.le_refl _, by omega, fun z h1 h2 => by omega, fun _ => c⟩
theorem gap_C {t : St} {n q r s : Nat} {f : Nat → Nat} (l1 : LY t 0 n q r f) (hn : n < 64) (hq : q ≤ 6) (hs : s < 2 ^ q) : ∀ (d y k : Nat), y + d = 2 ^ q → f_X2_gapLength_n2 t 0 (nI s) (k + (d + 1)) (nI y) = some (nI (gp (iB f n q r) (2 ^ q) s d y)) := by
  have hw := p2_bound hq
  have e10 : st_i t 10 = nI (2 ^ q) := l1.2.1
  intro d
  induction d with
  | zero =>
    intro y k e
    have : y = 2 ^ q := by omega
    subst this
    show f_X2_gapLength_n2_b t 0 (nI s) (f_X2_gapLength_n2 t 0 (nI s) k) _ = _
    unfold f_X2_gapLength_n2_b
    rw [e10, if_pos (Le2 (2 ^ q) (2 ^ q))]
    rfl
  | succ d ih =>
    intro y k e
    have hm : (s + y) % 2 ^ q < 2 ^ q := Nat.mod_lt _ (by omega)
    obtain ⟨v, v1, -, v3, -⟩ := idx_C l1 hq hn hm
    show f_X2_gapLength_n2_b t 0 (nI s) (f_X2_gapLength_n2 t 0 (nI s) (k + (d + 1))) _ = _
    unfold f_X2_gapLength_n2_b
    rw [e10, if_neg (NLe2 (2 ^ q) y), nI_add, around_C l1 hq (by omega), v1, bind_some, lt_q, nI_1]
    simp only [gp]
    by_cases c : iB f n q r ((s + y) % 2 ^ q) = 0
    · rw [if_neg (fun z => by have := v3.1 z; omega), if_pos c]
      exact ih (y + 1) k (by omega)
    · rw [if_pos (v3.2 (by omega)), if_neg c]
theorem gap_M {u : St} {F n q r s : Nat} {f : Nat → Nat} {k33 : St → Int32 → Int32 → Int32 → Int32 → Option (Int32 × St)} {y3 y4 : Int32} (l2 : LM u n q r f) (hn : n < 64) (hq : q ≤ 6) (hs : s < 2 ^ q) : ∀ (d y k : Nat), y + d = 2 ^ q → f_X7_gaps_n42 (nI F) k33 (k + (d + 1)) u (nI (2 ^ q)) y3 y4 (nI s) (nI y) = f_X7_gaps_n69 (nI F) k33 u (nI (2 ^ q)) y3 y4 (nI s) (nI (gp (iB f n q r) (2 ^ q) s d y)) := by
  have hw := p2_bound hq
  intro d
  induction d with
  | zero =>
    intro y k e
    have : y = 2 ^ q := by omega
    subst this
    show f_X7_gaps_n42_b (nI F) k33 (f_X7_gaps_n42 (nI F) k33 k) u _ _ _ _ _ = _
    unfold f_X7_gaps_n42_b
    rw [if_pos (Le2 (2 ^ q) (2 ^ q))]
    rfl
  | succ d ih =>
    intro y k e
    have hm : (s + y) % 2 ^ q < 2 ^ q := Nat.mod_lt _ (by omega)
    have hh := (hold_M l2 hn hm).2
    show f_X7_gaps_n42_b (nI F) k33 (f_X7_gaps_n42 (nI F) k33 (k + (d + 1))) u _ _ _ _ _ = _
    unfold f_X7_gaps_n42_b
    rw [if_neg (NLe2 (2 ^ q) y), if_neg (nI_ne0 (by omega) (by omega)), nI_add, pk_rem (by omega) (by omega) (by omega), if_pos (Inb ((s + y) % 2 ^ q) 64), Cl ((s + y) % 2 ^ q), lt_q, nI_1]
    simp only [gp]
    by_cases c : iB f n q r ((s + y) % 2 ^ q) = 0
    · rw [if_neg (fun z => by have := hh.1 z; omega), if_pos c]
      exact ih (y + 1) k (by omega)
    · rw [if_pos (hh.2 (by omega)), if_neg c]
/-- the greatest of G over the places that P allows, and where it first is -/
def gst (G P : Nat → Nat) : Nat → Nat × Int32
  | 0 => (0, -1)
  | i + 1 => if P i = 1 ∧ (gst G P i).1 < G i then (G i, nI i) else gst G P i
theorem gst_inv (G P : Nat → Nat) : ∀ i, ((gst G P i).1 = 0 ∧ (gst G P i).2 = -1 ∧ ∀ s, s < i → P s = 1 → G s = 0) ∨ ∃ b, b < i ∧ P b = 1 ∧ (gst G P i).2 = nI b ∧ G b = (gst G P i).1 ∧ (∀ s, s < b → P s = 1 → G s < (gst G P i).1) ∧ ∀ s, s < i → P s = 1 → G s ≤ (gst G P i).1 := by
  intro i
  induction i with
  | zero => exact Or.inl ⟨rfl, rfl, fun s hs => by omega⟩
  | succ i ih =>
    simp only [gst]
    by_cases c : P i = 1 ∧ (gst G P i).1 < G i
    · rw [if_pos c]
      refine Or.inr ⟨i, by omega, c.1, rfl, rfl, fun s hs hp => ?_, fun s hs hp => ?_⟩
      · show G s < G i
        rcases ih with ⟨i1, i2, i3⟩ | ⟨b, b1, b2, b3, b4, b5, b6⟩
        · have := i3 s hs hp; omega
        · have := b6 s hs hp; omega
      · show G s ≤ G i
        by_cases e : s = i
        · rw [e]; exact Nat.le_refl _
        · rcases ih with ⟨i1, i2, i3⟩ | ⟨b, b1, b2, b3, b4, b5, b6⟩
          · have := i3 s (by omega) hp; omega
          · have := b6 s (by omega) hp; omega
    · rw [if_neg c]
      rcases ih with ⟨i1, i2, i3⟩ | ⟨b, b1, b2, b3, b4, b5, b6⟩
      · refine Or.inl ⟨i1, i2, fun s hs hp => ?_⟩
        by_cases e : s = i
        · rw [e] at hp ⊢
          have : ¬ (gst G P i).1 < G i := fun z => c ⟨hp, z⟩
          omega
        · exact i3 s (by omega) hp
      · refine Or.inr ⟨b, by omega, b2, b3, b4, b5, fun s hs hp => ?_⟩
        by_cases e : s = i
        · rw [e] at hp ⊢
          have : ¬ (gst G P i).1 < G i := fun z => c ⟨hp, z⟩
          omega
        · exact b6 s (by omega) hp
theorem gst_same {G P : Nat → Nat} {N : Nat} (hpos : ∃ s, s < N ∧ 0 < G s) (hpre : ∀ s, s < N → 0 < G s → P s ≠ 1 → ∃ p, p < N ∧ G s < G p) : gst G P N = gst G (fun _ => 1) N := by
  have a := gst_inv G P N
  have b := gst_inv G (fun _ => 1) N
  obtain ⟨s0, hs0, hg0⟩ := hpos
  rcases b with ⟨b1, b2, b3⟩ | ⟨x, x1, x2, x3, x4, x5, x6⟩
  · have := b3 s0 hs0 rfl; omega
  · have hxp : P x = 1 := by
      by_cases c : P x = 1
      · exact c
      · have hgx : 0 < G x := by have := x6 s0 hs0 rfl; omega
        obtain ⟨p, hp, hgp⟩ := hpre x x1 hgx c
        have := x6 p hp rfl
        omega
    rcases a with ⟨a1, a2, a3⟩ | ⟨y, y1, y2, y3, y4, y5, y6⟩
    · have := a3 x x1 hxp
      have := x6 s0 hs0 rfl
      omega
    · have h1 := y6 x x1 hxp
      have h2 := x6 y y1 rfl
      have hxy : x = y := by
        rcases Nat.lt_trichotomy x y with c | c | c
        · have := y5 x c hxp; omega
        · exact c
        · have := x5 y c rfl; omega
      have e1 : (gst G P N).1 = (gst G (fun _ => 1) N).1 := by omega
      have e2 : (gst G P N).2 = (gst G (fun _ => 1) N).2 := by rw [y3, x3, hxy]
      exact Prod.ext e1 e2
theorem gst_le {G P : Nat → Nat} {B : Nat} (hG : ∀ s, G s ≤ B) : ∀ i, (gst G P i).1 ≤ B := by
  intro i
  induction i with
  | zero => exact Nat.zero_le _
  | succ i ih =>
    simp only [gst]
    split
    · exact hG i
    · exact ih
