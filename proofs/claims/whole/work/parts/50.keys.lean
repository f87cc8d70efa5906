/-! keys -/
theorem keyAt_C {C : St} {c i : Nat} {key out : Nat → Nat} (h : KL C c key out) (hc : c < 80) (hi : i < c) (ho : out i = 0 ∨ out i = 1) : f_X1_keyAt C (nI i) = some (nI (key i)) ∧ f_X1_goesOut C (nI i) = some (nI (out i)) := by
  obtain ⟨a, b⟩ := h.2 i hi
  unfold f_X1_keyAt f_X1_goesOut
  rw [if_neg (Pos i), if_neg (Pos i), if_neg (NLeL 80 80 i), if_neg (NLeL 80 80 i), if_pos (Inb i 80), if_pos (Inb i 80), Cl i, a, b]
  refine ⟨rfl, ?_⟩
  rcases ho with o | o <;> rw [o] <;> rfl
theorem KL.kp {C t : St} {c : Nat} {key out : Nat → Nat} {I A : Nat → Prop} (h : KL C c key out) (hf : Fs I A C t) (h1 : ¬ I 18) (h2 : ¬ A 13) (h3 : ¬ A 14) : KL t c key out := ⟨by rw [hf.1 _ h1]; exact h.1, fun i hi => by rw [hf.2 _ h2, hf.2 _ h3]; exact h.2 i hi⟩
theorem KM.kp {M t : St} {c : Nat} {key out : Nat → Nat} {I : Nat → Prop} {A : Nat → Nat → Prop} (h : KM M c key out) (hf : Gs I A M t) (h1 : ∀ i, ¬ A 7 i) (h2 : ∀ i, ¬ A 8 i) : KM t c key out := fun i hi => by rw [hf.2 _ _ (h1 i), hf.2 _ _ (h2 i)]; exact h i hi
theorem keys_end {C M : St} {P L : Nat} {n q : Nat → Nat} {f : Nat → Nat → Nat} {kt : Nat} {gt : Nat → Nat} {F c i : Nat} {key out : Nat → Nat} (h : Rf C M P L n q f kt gt) (hF : F < 2) (hk : KL C c key out) (hc : c < 80) (hi : i ≤ c) (x1 : Int32) : Ok2 (f_X6_keys_n93 x1 C F (nI i)) (f_X7_keys_n108 (nI F) M (nI c) (nI i)) := by
  obtain ⟨a1, a2, -⟩ := h.2.1 F hF
  have go : ∀ w : Int32, (w = 0 ∨ w = 1) → Ok2 (f_X6_keys_n114 x1 C F (nI i) w.toInt64) (f_X7_keys_n124 (nI F) (put_i M 1 0) (nI i) w) := by
    intro w hw
    obtain ⟨t, u1, u, e1, e2, e3, e4, e5, e6, e7, e8, -⟩ := end2 h w.toInt64 (nI (n F)).toInt64
    have em : st_a u1 2 F = nI (n F) := by rw [e8.2 2 F (fun z => z)]; exact a2.1
    have ef : f_X7_flag (put_i M 1 0) w = w := by rcases hw with o | o <;> rw [o] <;> rfl
    unfold f_X6_keys_n114 f_X7_keys_n124
    rw [a1.1, e1, bind_some, ef, e2, bind_some, if_pos (Inb F 2), Cl F, em, e3, bind_some]
    exact ⟨_, _, _, rfl, rfl, e4⟩
  unfold f_X6_keys_n93 f_X7_keys_n108
  rw [hk.1, lt_q]
  by_cases e : c ≤ i
  · rw [if_pos (Le2 c i), if_pos (Le2 c i)]
    exact go 0 (Or.inl rfl)
  · rw [if_neg (NLe2 c i), if_neg (NLe2 c i)]
    exact go 1 (Or.inr rfl)
theorem keys_loop {P L : Nat} {kt : Nat} {gt : Nat → Nat} {F c : Nat} {key out : Nat → Nat} (hF : F < 2) (hc : c < 80) (ho : ∀ i, i < c → out i = 0 ∨ out i = 1) (x1 : Int32) : ∀ (d i k : Nat) (C M : St) (n q : Nat → Nat) (f : Nat → Nat → Nat), i + d = c → Rf C M P L n q f kt gt → KL C c key out → KM M c key out → Ok2 (f_X6_keys_n49 x1 (k + (d + 2)) C F (nI i)) (f_X7_keys_n39 (nI F) (k + (d + 2)) M (nI c) (nI i) 1) := by
  intro d
  induction d with
  | zero =>
    intro i k C M n q f e h hk hm
    have : i = c := by omega
    subst this
    show Ok2 (f_X6_keys_n49_b x1 (f_X6_keys_n49 x1 (k + 1)) C F (nI i)) (f_X7_keys_n39_b (nI F) (f_X7_keys_n39 (nI F) (k + 1)) M (nI i) (nI i) 1)
    unfold f_X6_keys_n49_b f_X7_keys_n39_b
    rw [hk.1, if_pos (Le2 i i), if_pos (Le2 i i)]
    exact keys_end h hF hk hc (by omega) x1
  | succ d ih =>
    intro i k C M n q f e h hk hm
    have hi : i < c := by omega
    obtain ⟨a1, a2, ⟨q1, q2, q3⟩, a4, a5⟩ := h.2.1 F hF
    have hp := h.1.1
    have hn := a1.2.2.1
    obtain ⟨v, hv, ev⟩ := printOf_nat h.1 (nI (key i))
    have hv2 := p2P hp.2
    have ev' : f_X7_printOf M (nI (key i)) = nI v := by rw [printOf_eq h.1]; exact ev
    obtain ⟨k1, k2⟩ := keyAt_C hk hc hi (ho i hi)
    obtain ⟨m1, m2⟩ := hm i hi
    have n10 : ¬ (1 : Int32) = 0 := by decide
    -- where it stops
    have stop : Ok2 (f_X6_keys_n93 x1 C F (nI i)) (f_X7_keys_n95 (nI F) (f_X7_keys_n39 (nI F) (k + (d + 2))) M (nI c) (nI i) 0) := by
      have h2 := keys_end h hF hk hc (show i ≤ c by omega) x1
      have e2 : f_X7_keys_n95 (nI F) (f_X7_keys_n39 (nI F) (k + (d + 2))) M (nI c) (nI i) 0 = f_X7_keys_n108 (nI F) M (nI c) (nI i) := by
        unfold f_X7_keys_n95
        rw [lt_q, flag_0, Int32.add_zero]
        show f_X7_keys_n39_b (nI F) (f_X7_keys_n39 (nI F) (k + (d + 1))) M (nI c) (nI i) 0 = _
        unfold f_X7_keys_n39_b
        rw [if_neg (NLe2 c i), if_pos rfl]
      rw [e2]; exact h2
    show Ok2 (f_X6_keys_n49_b x1 (f_X6_keys_n49 x1 (k + (d + 2))) C F (nI i)) (f_X7_keys_n39_b (nI F) (f_X7_keys_n39 (nI F) (k + (d + 2))) M (nI c) (nI i) 1)
    unfold f_X6_keys_n49_b f_X7_keys_n39_b f_X6_doKey
    rw [hk.1, if_neg (NLe2 c i), k1, bind_some, k2, bind_some, lt_q, ev, if_neg (NLe2 c i), if_neg n10, if_pos (Inb i 80), if_pos (Inb i 80), if_pos (Inb i 80), Cl i, m1, m2, ev']
    have nxt : ∀ (t u : St) (n' q' : Nat → Nat) (f' : Nat → Nat → Nat), Rf t u P L n' q' f' kt gt → KL t c key out → KM u c key out → Ok2 (f_X6_keys_n49 x1 (k + (d + 2)) t F (nI i + 1)) (f_X7_keys_n95 (nI F) (f_X7_keys_n39 (nI F) (k + (d + 2))) u (nI c) (nI i) 1) := by
      intro t u n' q' f' hr kl km
      unfold f_X7_keys_n95
      rw [lt_q, flag_1, nI_1]
      exact ih (i + 1) k t u n' q' f' (by omega) hr kl km
    rcases ho i hi with o | o
    · rw [o, if_pos nI_0, if_pos nI_0]
      rcases put_C h.1 a1 q2 a4 (v := v) (by omega) with ⟨c1, t, e1, b1, fr1⟩ | ⟨c1, e1⟩
      · rcases put_M h.1 a2 hF q2 a4 (v := v) (by omega) ev' with ⟨c2, u, e2, b2, gr2⟩ | ⟨c2, -⟩
        · have hQ : Q1 P L (n F) (q F) = q F ∨ (Q1 P L (n F) (q F) = q F + 1 ∧ q F < min 6 (P - 1)) := by
            unfold Q1; split
            · exact Or.inr ⟨rfl, by omega⟩
            · exact Or.inl rfl
          have hle := lb_le (f F) (n F) (v + 1)
          have hwQ := p2_bound (q := Q1 P L (n F) (q F)) (by omega)
          have fc : Fs (bI F) (bA F) C t := fr1.s
          have gm : Gs noI (fA F) M u := gr2.s
          have hff : ∀ G, G < 2 → Fl t u P G (if G = F then n F + 1 else n G) (if G = F then Q1 P L (n F) (q F) else q G) (if G = F then ins (f F) (lb (f F) (n F) (v + 1)) v else f G) :=
            files_upd h.2.1 ⟨b1, b2, ⟨by omega, by omega, by omega⟩, c1, ins_bd a5 hv hle⟩ fc gm (fun G hG hne => ⟨⟨by omega, by omega⟩, by omega, by omega, by omega, fun i hi => by omega⟩)
          have hrf : Rf t u P L _ _ _ kt gt := ⟨h.1.kp fc gm (fun k z => by omega) (fun k z => z.elim), hff, h.2.2.1.kp fc (by omega) (by omega), h.2.2.2.kp gm (fun z => z) (fun j z => by omega)⟩
          rw [e1, bind2_some, if_neg (Pos (lb (f F) (n F) (v + 1))), bind2_some, if_neg n10, lt_q, e2, bind2_some, if_neg (Pos (2 ^ Q1 P L (n F) (q F)))]
          exact nxt t u _ _ _ hrf (hk.kp fc (by omega) (by omega) (by omega)) (hm.kp gm (fun i => by omega) (fun i => by omega))
        · exact absurd c1 c2
      · rcases put_M h.1 a2 hF q2 a4 (v := v) (by omega) ev' with ⟨c2, -⟩ | ⟨c2, e2⟩
        · exact absurd c2 c1
        · rw [e1, bind2_some, if_pos (by decide), bind2_some, if_pos rfl, e2, bind2_some, if_pos (by decide)]
          exact stop
    · have n1 : ¬ nI 1 = 0 := by decide
      rw [o, if_neg n1, if_neg n1]
      rcases bc_drop a1 (v := v) (by omega) with ⟨c1, e1⟩ | ⟨c1, t, e1, b1, fr1⟩
      · rcases bm_goes a2 hF (v := v) (by omega) with ⟨c2, e2⟩ | ⟨c2, -⟩
        · rw [e1, bind2_some, bind2_some, if_pos rfl, e2, bind2_some]
          exact stop
        · omega
      · rcases bm_goes a2 hF (v := v) (by omega) with ⟨c2, -⟩ | ⟨c2, u, e2, b2, gr2⟩
        · omega
        · have fc : Fs (bI F) (bA F) C t := fr1.s
          have gm : Gs noI (fA F) M u := gr2.s
          have hff : ∀ G, G < 2 → Fl t u P G (if G = F then n F - 1 else n G) (if G = F then q F else q G) (if G = F then del (f F) (lb (f F) (n F) v) else f G) :=
            files_upd h.2.1 ⟨b1, b2, ⟨q1, q2, q3⟩, by omega, fun i hi => by
              simp only [del]
              split
              · exact a5 i (by omega)
              · exact a5 (i + 1) (by omega)⟩ fc gm (fun G hG hne => ⟨⟨by omega, by omega⟩, by omega, by omega, by omega, fun i hi => by omega⟩)
          have hrf : Rf t u P L _ _ _ kt gt := ⟨h.1.kp fc gm (fun k z => by omega) (fun k z => z.elim), hff, h.2.2.1.kp fc (by omega) (by omega), h.2.2.2.kp gm (fun z => z) (fun j z => by omega)⟩
          rw [e1, bind2_some, bind2_some, if_neg n10, lt_q, e2, bind2_some]
          exact nxt t u _ _ _ hrf (hk.kp fc (by omega) (by omega) (by omega)) (hm.kp gm (fun i => by omega) (fun i => by omega))
