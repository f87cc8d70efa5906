/-! ===== what the two states have in common ===== -/
def RC (σ : St) (k : Nat) (g : Nat → Int64) : Prop := st_i σ 16 = nI k ∧ k ≤ 64 ∧ ∀ i, i < k → st_l σ 0 i = g i
def RM (σ : St) (k : Nat) (g : Nat → Int64) : Prop := st_i σ 1 = nI k ∧ k ≤ 64 ∧ ∀ i, i < k → st_l σ 0 i = g i
def TC (σ : St) (k : Nat) (g : Nat → Nat) : Prop := st_i σ 17 = nI k ∧ k ≤ 80 ∧ (∀ i, i < k → st_a σ 12 i = nI (g i)) ∧ ∀ i, i < k → g i < 256
def TM (σ : St) (k : Nat) (g : Nat → Nat) : Prop := st_i σ 2 = nI k ∧ k ≤ 80 ∧ ∀ i, i < k → st_a σ 0 i = nI (g i)
def Hd (C M : St) (P L : Nat) : Prop := (6 ≤ P ∧ P ≤ 14) ∧ (50 ≤ L ∧ L ≤ 95) ∧ st_i C 0 = nI P ∧ st_i M 5 = nI P ∧ st_i C 1 = st_i M 6 ∧ st_i C 2 = nI L ∧ st_i M 7 = nI L
def Fl (C M : St) (P F n q : Nat) (f : Nat → Nat) : Prop := BC C F n q f ∧ BM M F n q f ∧ (3 ≤ q ∧ q ≤ 6 ∧ q < P) ∧ n < 2 ^ q ∧ ∀ i, i < n → f i < 2 ^ P
def Rel (C M : St) : Prop := ∃ (P L : Nat) (n q : Nat → Nat) (f : Nat → Nat → Nat) (kr : Nat) (gr : Nat → Int64) (kt : Nat) (gt : Nat → Nat), Hd C M P L ∧ (∀ F, F < 2 → Fl C M P F (n F) (q F) (f F)) ∧ (RC C kr gr ∧ RM M kr gr) ∧ TC C kt gt ∧ TM M kt gt
/-- frames that say nothing of long arrays -/
def Fs (I A : Nat → Prop) (σ t : St) : Prop := (∀ k, ¬ I k → st_i t k = st_i σ k) ∧ (∀ k, ¬ A k → st_a t k = st_a σ k)
def Gs (I : Nat → Prop) (A : Nat → Nat → Prop) (σ t : St) : Prop := (∀ k, ¬ I k → st_i t k = st_i σ k) ∧ (∀ k j, ¬ A k j → st_a t k j = st_a σ k j)
theorem Fr.s {I A : Nat → Prop} {σ t : St} (h : Fr I A σ t) : Fs I A σ t := ⟨h.1, h.2.1⟩
theorem Gr.s {I : Nat → Prop} {A : Nat → Nat → Prop} {σ t : St} (h : Gr I A σ t) : Gs I A σ t := ⟨h.1, h.2.1⟩
theorem Fs.rf {I A : Nat → Prop} {σ : St} : Fs I A σ σ := ⟨fun _ _ => rfl, fun _ _ => rfl⟩
theorem Gs.rf {I : Nat → Prop} {A : Nat → Nat → Prop} {σ : St} : Gs I A σ σ := ⟨fun _ _ => rfl, fun _ _ _ => rfl⟩
theorem Fs.tr {I A : Nat → Prop} {σ t u : St} (h : Fs I A σ t) (g : Fs I A t u) : Fs I A σ u := ⟨fun k q => (g.1 k q).trans (h.1 k q), fun k q => (g.2 k q).trans (h.2 k q)⟩
theorem Gs.tr {I : Nat → Prop} {A : Nat → Nat → Prop} {σ t u : St} (h : Gs I A σ t) (g : Gs I A t u) : Gs I A σ u := ⟨fun k q => (g.1 k q).trans (h.1 k q), fun k j q => (g.2 k j q).trans (h.2 k j q)⟩
theorem Fs.mono {I A J B : Nat → Prop} {σ t : St} (h : Fs I A σ t) (hI : ∀ k, I k → J k) (hA : ∀ k, A k → B k) : Fs J B σ t := ⟨fun k q => h.1 k (fun z => q (hI k z)), fun k q => h.2 k (fun z => q (hA k z))⟩
theorem Gs.mono {I J : Nat → Prop} {A B : Nat → Nat → Prop} {σ t : St} (h : Gs I A σ t) (hI : ∀ k, I k → J k) (hA : ∀ k j, A k j → B k j) : Gs J B σ t := ⟨fun k q => h.1 k (fun z => q (hI k z)), fun k j q => h.2 k j (fun z => q (hA k j z))⟩
theorem BC.kp {σ t : St} {b n q : Nat} {f : Nat → Nat} {I A : Nat → Prop} (h : BC σ b n q f) (hf : Fs I A σ t) (h1 : ¬ I (3 + 2 * b)) (h2 : ¬ I (4 + 2 * b)) (h3 : ¬ A b) : BC t b n q f := by
  obtain ⟨a1, a2, a3, a4, a5, a6⟩ := h
  exact ⟨by rw [hf.1 _ h1]; exact a1, by rw [hf.1 _ h2]; exact a2, a3, fun i hi => by rw [hf.2 _ h3]; exact a4 i hi, a5, a6⟩
theorem BM.kp {σ t : St} {F n q : Nat} {f : Nat → Nat} {I : Nat → Prop} {A : Nat → Nat → Prop} (h : BM σ F n q f) (hg : Gs I A σ t) (h1 : ¬ A 1 F) (h2 : ¬ A 2 F) (h3 : ∀ i, i < 64 → ¬ A 3 (64 * F + i)) : BM t F n q f := by
  obtain ⟨a1, a2, a3, a4, a5, a6⟩ := h
  exact ⟨by rw [hg.2 _ _ h2]; exact a1, by rw [hg.2 _ _ h1]; exact a2, a3, fun i hi => by rw [hg.2 _ _ (h3 i (by omega))]; exact a4 i hi, a5, a6⟩
theorem Hd.kp {C M C' M' : St} {P L : Nat} {I A J : Nat → Prop} {B : Nat → Nat → Prop} (h : Hd C M P L) (hf : Fs I A C C') (hg : Gs J B M M') (hI : ∀ k, I k → 3 ≤ k) (hJ : ∀ k, J k → k ≠ 5 ∧ k ≠ 6 ∧ k ≠ 7) : Hd C' M' P L := by
  obtain ⟨a1, a2, a3, a4, a5, a6, a7⟩ := h
  refine ⟨a1, a2, ?_, ?_, ?_, ?_, ?_⟩
  · rw [hf.1 0 (fun z => by have := hI _ z; omega)]; exact a3
  · rw [hg.1 5 (fun z => (hJ _ z).1 rfl)]; exact a4
  · rw [hf.1 1 (fun z => by have := hI _ z; omega), hg.1 6 (fun z => (hJ _ z).2.1 rfl)]; exact a5
  · rw [hf.1 2 (fun z => by have := hI _ z; omega)]; exact a6
  · rw [hg.1 7 (fun z => (hJ _ z).2.2 rfl)]; exact a7
theorem TC.kp {C C' : St} {k : Nat} {g : Nat → Nat} {I A : Nat → Prop} (h : TC C k g) (hf : Fs I A C C') (hI : ¬ I 17) (hA : ¬ A 12) : TC C' k g := by
  obtain ⟨a1, a2, a3, a4⟩ := h
  exact ⟨by rw [hf.1 _ hI]; exact a1, a2, fun i hi => by rw [hf.2 _ hA]; exact a3 i hi, a4⟩
theorem TM.kp {M M' : St} {k : Nat} {g : Nat → Nat} {I : Nat → Prop} {A : Nat → Nat → Prop} (h : TM M k g) (hf : Gs I A M M') (hI : ¬ I 2) (hA : ∀ j, ¬ A 0 j) : TM M' k g := by
  obtain ⟨a1, a2, a3⟩ := h
  exact ⟨by rw [hf.1 _ hI]; exact a1, a2, fun i hi => by rw [hf.2 _ _ (hA i)]; exact a3 i hi⟩
theorem RC.kp {C C' : St} {k : Nat} {g : Nat → Int64} {I A : Nat → Prop} (h : RC C k g) (hf : Fr I A C C') (hI : ¬ I 16) : RC C' k g := by
  obtain ⟨a1, a2, a3⟩ := h
  exact ⟨by rw [hf.1 _ hI]; exact a1, a2, fun i hi => by rw [hf.2.2]; exact a3 i hi⟩
theorem RM.kp {M M' : St} {k : Nat} {g : Nat → Int64} {I : Nat → Prop} {A : Nat → Nat → Prop} (h : RM M k g) (hf : Gr I A M M') (hI : ¬ I 1) : RM M' k g := by
  obtain ⟨a1, a2, a3⟩ := h
  exact ⟨by rw [hf.1 _ hI]; exact a1, a2, fun i hi => by rw [hf.2.2]; exact a3 i hi⟩
/-- the row of the class -/
abbrev nI16 : Nat → Prop := fun k => k = 16
abbrev nA : Nat → Prop := fun _ => False
abbrev nI1 : Nat → Prop := fun k => k = 1
abbrev nA2 : Nat → Nat → Prop := fun _ _ => False
theorem rc_add {σ : St} {k : Nat} {g : Nat → Int64} (h : RC σ k g) (hk : k < 64) (v : Int64) : ∃ t : St, f_X3_add σ v = some t ∧ RC t (k + 1) (fun i => if i = k then v else g i) ∧ Fs nI16 nA σ t := by
  obtain ⟨h1, h2, h3⟩ := h
  unfold f_X3_add
  rw [h1, if_neg (nI_pos (by omega)), if_neg (show ¬ (64 : Int32) ≤ nI k from nI_ge (b := 64) hk (by omega)), if_pos (in_b_nI hk (by omega)), lt_eq, lt_eq, nI_clamp (by omega), si_pl, h1, nI_1]
  refine ⟨_, rfl, ⟨by rw [si_pi, if_pos rfl], by omega, fun i hi => ?_⟩, ⟨fun j hj => by rw [si_pi, if_neg hj, si_pl], fun j _ => by rw [sa_pi, sa_pl]⟩⟩
  rw [sl_pi, sl_pl, if_pos rfl, updL_at]
  show _ = if i = k then v else g i
  by_cases c : i = k
  · rw [if_pos c, if_pos c]
  · rw [if_neg c, if_neg c]; exact h3 i (by omega)
theorem rc_restart (σ : St) (g : Nat → Int64) : ∃ t : St, f_X3_restart σ = some t ∧ RC t 0 g ∧ Fs nI16 nA σ t := by
  unfold f_X3_restart
  rw [lt_eq]
  exact ⟨_, rfl, ⟨by rw [si_pi, if_pos rfl]; rfl, by omega, fun i hi => by omega⟩, ⟨fun j hj => by rw [si_pi, if_neg hj], fun j _ => by rw [sa_pi]⟩⟩
theorem rc_tell1 (σ : St) (a : Int64) : ∃ t : St, f_X3_tell σ a = some t ∧ RC t 1 (fun _ => a) ∧ Fs nI16 nA σ t := by
  unfold f_X3_tell
  obtain ⟨t1, e1, r1, s1⟩ := rc_restart σ (fun _ => a)
  obtain ⟨t2, e2, r2, s2⟩ := rc_add r1 (by omega) a
  refine ⟨t2, by rw [e1, bind_some, e2, bind_some], ⟨r2.1, r2.2.1, fun i hi => by rw [r2.2.2 i hi]; dsimp only; split <;> rfl⟩, s1.tr s2⟩
theorem rc_tell2 (σ : St) (a b : Int64) : ∃ t : St, f_X3_tell_ σ a b = some t ∧ RC t 2 (fun i => if i = 1 then b else a) ∧ Fs nI16 nA σ t := by
  unfold f_X3_tell_
  obtain ⟨t1, e1, r1, s1⟩ := rc_tell1 σ a
  obtain ⟨t2, e2, r2, s2⟩ := rc_add r1 (by omega) b
  exact ⟨t2, by rw [e1, bind_some, e2, bind_some], r2, s1.tr s2⟩
theorem rc_tell3 (σ : St) (a b c : Int64) : ∃ t : St, f_X3_tell__ σ a b c = some t ∧ RC t 3 (fun i => if i = 2 then c else if i = 1 then b else a) ∧ Fs nI16 nA σ t := by
  unfold f_X3_tell__
  obtain ⟨t1, e1, r1, s1⟩ := rc_tell2 σ a b
  obtain ⟨t2, e2, r2, s2⟩ := rc_add r1 (by omega) c
  exact ⟨t2, by rw [e1, bind_some, e2, bind_some], r2, s1.tr s2⟩
theorem rm_0 (σ : St) (g : Nat → Int64) : RM (put_i σ 1 0) 0 g ∧ Gs nI1 nA2 σ (put_i σ 1 0) := ⟨⟨by rw [si_pi, if_pos rfl]; rfl, by omega, fun i hi => by omega⟩, ⟨fun j hj => by rw [si_pi, if_neg hj], fun j _ _ => by rw [sa_pi]⟩⟩
theorem rm_add {σ : St} {k : Nat} {g : Nat → Int64} (h : RM σ k g) (hk : k < 64) (v : Int64) : ∃ t : St, f_X7_enters σ v = some t ∧ RM t (k + 1) (fun i => if i = k then v else g i) ∧ Gs nI1 nA2 σ t := by
  obtain ⟨h1, h2, h3⟩ := h
  unfold f_X7_enters
  rw [h1, if_pos (in_b_nI (by omega) (by omega)), lt_eq, lt_eq, nI_clamp (by omega), si_pl, h1, nI_1]
  refine ⟨_, rfl, ⟨by rw [si_pi, if_pos rfl], by omega, fun i hi => ?_⟩, ⟨fun j hj => by rw [si_pi, if_neg hj, si_pl], fun j _ _ => by rw [sa_pi, sa_pl]⟩⟩
  rw [sl_pi, sl_pl, if_pos rfl, updL_at]
  show _ = if i = k then v else g i
  by_cases c : i = k
  · rw [if_pos c, if_pos c]
  · rw [if_neg c, if_neg c]; exact h3 i (by omega)
/-- told = 0, then one, two, three numbers -/
theorem rm_tell1 (σ : St) (a : Int64) : ∃ t : St, f_X7_enters (put_i σ 1 0) a = some t ∧ RM t 1 (fun _ => a) ∧ Gs nI1 nA2 σ t := by
  obtain ⟨r0, s0⟩ := rm_0 σ (fun _ => a)
  obtain ⟨t, e1, r1, s1⟩ := rm_add r0 (by omega) a
  exact ⟨t, e1, ⟨r1.1, r1.2.1, fun i hi => by rw [r1.2.2 i hi]; dsimp only; split <;> rfl⟩, s0.tr s1⟩
theorem rm_more2 {σ : St} {a : Int64} (h : RM σ 1 (fun _ => a)) (b : Int64) : ∃ t : St, f_X7_enters σ b = some t ∧ RM t 2 (fun i => if i = 1 then b else a) ∧ Gs nI1 nA2 σ t := rm_add h (by omega) b
theorem rm_more3 {σ : St} {a b : Int64} (h : RM σ 2 (fun i => if i = 1 then b else a)) (c : Int64) : ∃ t : St, f_X7_enters σ c = some t ∧ RM t 3 (fun i => if i = 2 then c else if i = 1 then b else a) ∧ Gs nI1 nA2 σ t := rm_add h (by omega) c
/-- the answers of both, and what they leave -/
def Ok2 (x y : Option (Int32 × St)) : Prop := ∃ (r : Int32) (C M : St), x = some (r, C) ∧ y = some (r, M) ∧ Rel C M
theorem Rel.thr {C M : St} (h : Rel C M) (v : Int32) : Rel C (put_i M 0 v) := by
  obtain ⟨P, L, n, q, f, kr, gr, kt, gt, h1, h2, ⟨h3, h4⟩, h5, h6⟩ := h
  have hg : Gr (fun k => k = 0) nA2 M (put_i M 0 v) := gr_i rfl
  refine ⟨P, L, n, q, f, kr, gr, kt, gt, h1.kp (Fs.rf (I := nA) (A := nA)) hg.s (fun k z => z.elim) (fun k z => by omega), fun F hF => ?_, ⟨h3, h4.kp hg (by omega)⟩, h5, h6.kp hg.s (by omega) (fun _ z => z)⟩
  obtain ⟨a1, a2, a3⟩ := h2 F hF
  exact ⟨a1, a2.kp hg.s (fun z => z) (fun z => z) (fun _ _ z => z), a3⟩
theorem file_cases (x : Int32) : (x = 0 ∧ f_X6_bagOf x = some 0) ∨ (x = 1 ∧ f_X6_bagOf x = some 1) ∨ (f_X6_bagOf x = none ∧ ¬ x = 0 ∧ ¬ x = 1) := by
  unfold f_X6_bagOf
  by_cases a : x = 0
  · exact Or.inl ⟨a, by rw [if_pos a]⟩
  · by_cases b : x = 1
    · exact Or.inr (Or.inl ⟨b, by rw [if_neg a, if_pos b]⟩)
    · exact Or.inr (Or.inr ⟨by rw [if_neg a, if_neg b], a, b⟩)
theorem isFile_eq (σ : St) (x : Int32) : f_X7_isFile σ x = if x = 0 ∨ x = 1 then 1 else 0 := by
  unfold f_X7_isFile
  have h := in_eq σ x 0 1
  rw [show (0 : Int32).toInt64 = 0 from rfl, show (1 : Int32).toInt64 = 1 from rfl] at h
  rw [h]
  have e : (0 ≤ x ∧ x ≤ 1) ↔ (x = 0 ∨ x = 1) := by
    rw [Int32.le_iff_toInt_le, Int32.le_iff_toInt_le, ← Int32.toInt_inj, ← Int32.toInt_inj]
    have e0 : (0 : Int32).toInt = 0 := rfl
    have e1 : (1 : Int32).toInt = 1 := rfl
    rw [e0, e1]
    omega
  by_cases c : x = 0 ∨ x = 1
  · rw [if_pos c, if_pos (e.2 c)]
  · rw [if_neg c, if_neg (fun z => c (e.1 z))]
theorem isKey_eq (σ τ : St) (x : Int32) : f_X7_isKey σ x = f_X6_isKey τ x := by
  unfold f_X7_isKey f_X6_isKey
  have h := in_eq σ x 0 99999
  rw [show (0 : Int32).toInt64 = 0 from rfl, show (99999 : Int32).toInt64 = 99999 from rfl] at h
  rw [h]
  by_cases a : x < 0
  · rw [if_pos a, if_neg]
    rintro ⟨h1, -⟩
    rw [Int32.le_iff_toInt_le] at h1
    rw [Int32.lt_iff_toInt_lt] at a
    omega
  · by_cases b : (99999 : Int32) < x
    · rw [if_neg a, if_pos b, if_neg]
      rintro ⟨-, h1⟩
      rw [Int32.le_iff_toInt_le] at h1
      rw [Int32.lt_iff_toInt_lt] at b
      omega
    · rw [if_neg a, if_neg b, if_pos]
      rw [Int32.lt_iff_toInt_lt] at a b
      rw [Int32.le_iff_toInt_le, Int32.le_iff_toInt_le]
      omega
theorem isKey_01 (σ : St) (x : Int32) : f_X6_isKey σ x = 0 ∨ f_X6_isKey σ x = 1 := by
  unfold f_X6_isKey
  repeat' split
  all_goals first | exact Or.inl rfl | exact Or.inr rfl
theorem printOf_eq {C M : St} {P L : Nat} (h : Hd C M P L) (x : Int32) : f_X7_printOf M x = f_X6_printOf C x := by
  unfold f_X7_printOf f_X6_printOf
  rw [h.2.2.1, h.2.2.2.1, h.2.2.2.2.1]
theorem s_u32 : ∀ P, P < 15 → 5 < P → ((((32 : Int32) - nI P).toUInt32 &&& Int32.toUInt32 31).toBitVec % 32).toNat = 32 - P := by decide +kernel
theorem printOf_nat {C M : St} {P L : Nat} (h : Hd C M P L) (x : Int32) : ∃ v : Nat, v < 2 ^ P ∧ f_X6_printOf C x = nI v := by
  obtain ⟨⟨p1, p2⟩, -, h3, -⟩ := h
  have hs := s_u32 P (by omega) (by omega)
  have hu := pk_ushr (x * st_i C 1) (32 - nI P) (32 - P) hs
  refine ⟨(x * st_i C 1).toBitVec.toNat / 2 ^ (32 - P), ?_, ?_⟩
  · have hx : (x * st_i C 1).toBitVec.toNat < 2 ^ 32 := (x * st_i C 1).toBitVec.isLt
    rw [Nat.div_lt_iff_lt_mul (Nat.pow_pos (by omega)), ← Nat.pow_add, show P + (32 - P) = 32 by omega]
    exact hx
  · unfold f_X6_printOf
    rw [h3]
    apply Int32.toBitVec_inj.mp
    apply BitVec.eq_of_toNat_eq
    rw [hu, pk_tn]
    have hx : (x * st_i C 1).toBitVec.toNat < 2 ^ 32 := (x * st_i C 1).toBitVec.isLt
    exact Nat.lt_of_le_of_lt (Nat.div_le_self _ _) hx
theorem p2P {P : Nat} (h : P ≤ 14) : 2 ^ P ≤ 16384 := Nat.pow_le_pow_right (n := 2) (by omega) h
