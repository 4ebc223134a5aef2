/-! a town becomes another -/
def CpS (a0 a1 : Nat) (δ0 δ : Dm) : Prop := (∀ o j, o < 57 → gI δ (a1 + o) j = gI δ0 (a1 + o) j) ∧ (∀ b j, (∀ o, o < 57 → b ≠ a0 + o) → gI δ b j = gI δ0 b j)
def Dn (a0 a1 : Nat) (δ0 δ : Dm) (o j : Nat) : Prop := gI δ (a0 + o) j = gI δ0 (a1 + o) j
def StpT (a0 a1 : Nat) (δ0 δ δ' : Dm) (A : Nat → Nat → Prop) : Prop := CpS a0 a1 δ0 δ → CpS a0 a1 δ0 δ' ∧ ∀ o j, o < 57 → (Dn a0 a1 δ0 δ o j ∨ A o j) → Dn a0 a1 δ0 δ' o j
theorem StpT.trans {a0 a1 : Nat} {δ0 δ δ' δ'' : Dm} {A B : Nat → Nat → Prop} (h : StpT a0 a1 δ0 δ δ' A) (k : StpT a0 a1 δ0 δ' δ'' B) : StpT a0 a1 δ0 δ δ'' (fun o j => A o j ∨ B o j) := fun c => by
  obtain ⟨c1, h1⟩ := h c
  obtain ⟨c2, k1⟩ := k c1
  refine ⟨c2, fun o j ho q => k1 o j ho ?_⟩
  rcases q with q | q | q
  · exact Or.inl (h1 o j ho (Or.inl q))
  · exact Or.inl (h1 o j ho (Or.inr q))
  · exact Or.inr q
def apart (a0 a1 : Nat) : Prop := a0 + 57 ≤ a1 ∨ a1 + 57 ≤ a0
theorem stpI {a0 a1 x y i : Nat} {δ0 δ : Dm} (o : Nat) (ha : apart a0 a1) (ho : o < 57) (hx : x = a0 + o) (hy : y = a1 + o) : StpT a0 a1 δ0 δ (sI δ x i (gI δ y i)) (fun o' j => o' = o ∧ j = i) := fun c => by
  subst hx; subst hy
  unfold apart at ha
  obtain ⟨c1, c2⟩ := c
  refine ⟨⟨fun o' j h => by rw [gsr (by omega)]; exact c1 o' j h, fun b j h => by rw [gsr (fun z => h o ho z)]; exact c2 b j h⟩, fun o' j h q => ?_⟩
  unfold Dn at q ⊢
  by_cases z : o' = o ∧ j = i
  · rw [z.1, z.2, gss]; exact c1 o i ho
  · rw [gs, if_neg (by omega)]
    exact q.resolve_right z
theorem stpC {a0 a1 x y N : Nat} {δ0 δ : Dm} (o : Nat) (ha : apart a0 a1) (ho : o < 57) (hx : x = a0 + o) (hy : y = a1 + o) (h1 : (KD y).2 = N) (h2 : (KD x).2 = N) : f_Fp_copy y x δ = some (cpI δ y x 0 0 N) ∧ StpT a0 a1 δ0 δ (cpI δ y x 0 0 N) (fun o' j => o' = o ∧ j < N) := by
  refine ⟨copy_eq h1 h2, fun c => ?_⟩
  subst hx; subst hy
  unfold apart at ha
  obtain ⟨c1, c2⟩ := c
  refine ⟨⟨fun o' j h => by rw [g_cpI, if_neg (by omega)]; exact c1 o' j h, fun b j h => by rw [g_cpI, if_neg (fun z => h o ho z.1)]; exact c2 b j h⟩, fun o' j h q => ?_⟩
  unfold Dn at q ⊢
  by_cases z : o' = o ∧ j < N
  · rw [z.1, g_cpI, if_pos ⟨rfl, z.2⟩]; exact c1 o j ho
  · rw [g_cpI, if_neg (by omega)]
    exact q.resolve_right z
theorem isT_K {t : Nat} (h : isT t = true) : (KD (t + 1)).2 = 400 ∧ (KD (t + 2)).2 = 12 ∧ (KD (t + 3)).2 = 144 ∧ (∀ o, 6 ≤ o → o < 13 → (KD (t + o)).2 = 400) ∧ (∀ o, 13 ≤ o → o < 16 → (KD (t + o)).2 = 900) ∧ (∀ o, 17 ≤ o → o < 25 → (KD (t + o)).2 = 100) ∧ (∀ k, k < 8 → (KD (t + (25 + 4 * k + 1))).2 = 3 ∧ (KD (t + (25 + 4 * k + 2))).2 = 12 ∧ (KD (t + (25 + 4 * k + 3))).2 = 12) := by
  have e : ∀ o, o < 57 → KD (t + o) = kd_isT.getD o (0, 0) := fun o ho => fx_isTK h o ho
  have d1 : ∀ o, o < 16 → 6 ≤ o → ((o < 13 → (kd_isT.getD o (0, 0)).2 = 400) ∧ (13 ≤ o → (kd_isT.getD o (0, 0)).2 = 900)) := by decide
  have d2 : ∀ o, o < 25 → 17 ≤ o → (kd_isT.getD o (0, 0)).2 = 100 := by decide
  have d3 : ∀ k, k < 8 → (kd_isT.getD (25 + 4 * k + 1) (0, 0)).2 = 3 ∧ (kd_isT.getD (25 + 4 * k + 2) (0, 0)).2 = 12 ∧ (kd_isT.getD (25 + 4 * k + 3) (0, 0)).2 = 12 := by decide
  refine ⟨by rw [e 1 (by decide)]; decide, by rw [e 2 (by decide)]; decide, by rw [e 3 (by decide)]; decide, fun o h1 h2 => by rw [e o (by omega)]; exact (d1 o (by omega) (by omega)).1 h2, fun o h1 h2 => by rw [e o (by omega)]; exact (d1 o h2 (by omega)).2 h1, fun o h1 h2 => by rw [e o (by omega)]; exact d2 o h2 h1, fun k hk => ?_⟩
  rw [e _ (by omega), e _ (by omega), e _ (by omega)]
  exact d3 k hk
theorem slotT {t k : Nat} {δ : Dm} (h : isT t = true) (hk : k < 8) : f_To_slot t (nI k) δ = some (some (t + (25 + 4 * k))) := by
  have r : RT (t + 4) k = some (t + (25 + 4 * k)) := by
    rw [fx_isTR h 4 k (by decide) (by omega)]
    have d : ∀ k, k < 8 → ((rt_isT.getD 4 []).getD k none) = some (25 + 4 * k) := by decide
    rw [d k hk]; rfl
  have b : isB (t + (25 + 4 * k)) = true := by
    have d : ∀ t, t < 396 → isT t = true → ∀ k, k < 8 → isB (t + (25 + 4 * k)) = true := by decide +kernel
    exact d t (fx_isTlt h) h k hk
  unfold f_To_slot
  rw [if_neg (nI_pos (by omega)), if_neg (by rw [lit]; exact nI_ge hk (by decide)), if_pos (inb_i hk (by decide)), ixN (by omega), r]
  simp only [ocs]
  rw [if_pos b]
theorem isB_T {t k : Nat} (h : isT t = true) (hk : k < 8) : isB (t + (25 + 4 * k)) = true := by
  have d : ∀ t, t < 396 → isT t = true → ∀ k, k < 8 → isB (t + (25 + 4 * k)) = true := by decide +kernel
  exact d t (fx_isTlt h) h k hk
def Gt (a0 a1 : Nat) (δ0 δ : Dm) (X : Option Dm) (C : Nat → Nat → Prop) : Prop := ∃ δ' A, X = some δ' ∧ StpT a0 a1 δ0 δ δ' A ∧ ∀ o j, C o j → A o j
theorem g_I {a0 a1 x y i : Nat} {δ0 δ : Dm} {F : Dm → Option Dm} {C : Nat → Nat → Prop} (C' : Nat → Nat → Prop) (o : Nat) (ha : apart a0 a1) (ho : o < 57) (hx : x = a0 + o) (hy : y = a1 + o) (hc : ∀ o' j, C o' j → C' o' j ∨ (o' = o ∧ j = i)) (h : ∀ d, Gt a0 a1 δ0 d (F d) C') : Gt a0 a1 δ0 δ (bnd (sI δ x i (gI δ y i)) F) C := by
  obtain ⟨δ', A, e, s, t⟩ := h (sI δ x i (gI δ y i))
  rw [bndE]
  exact ⟨δ', _, e, (stpI o ha ho hx hy).trans s, fun o' j c => (hc o' j c).elim (fun z => Or.inr (t o' j z)) Or.inl⟩
theorem g_C {a0 a1 x y N : Nat} {δ0 δ : Dm} {F : Dm → Option Dm} {C : Nat → Nat → Prop} (C' : Nat → Nat → Prop) (o : Nat) (ha : apart a0 a1) (ho : o < 57) (hx : x = a0 + o) (hy : y = a1 + o) (h1 : (KD y).2 = N) (h2 : (KD x).2 = N) (hc : ∀ o' j, C o' j → C' o' j ∨ (o' = o ∧ j < N)) (h : ∀ d, Gt a0 a1 δ0 d (F d) C') : Gt a0 a1 δ0 δ ((f_Fp_copy y x δ).bind F) C := by
  obtain ⟨δ', A, e, s, t⟩ := h (cpI δ y x 0 0 N)
  obtain ⟨q1, q2⟩ := stpC (δ0 := δ0) (δ := δ) o ha ho hx hy h1 h2
  rw [q1, Option.bind_some]
  exact ⟨δ', _, e, q2.trans s, fun o' j c => (hc o' j c).elim (fun z => Or.inr (t o' j z)) Or.inl⟩
theorem g_0 {a0 a1 : Nat} {δ0 δ : Dm} {C : Nat → Nat → Prop} (h : ∀ o j, ¬ C o j) : Gt a0 a1 δ0 δ (some δ) C := ⟨δ, fun _ _ => False, rfl, fun c => ⟨c, fun o j _ q => q.resolve_right id⟩, fun o j c => absurd c (h o j)⟩
theorem g_V {a0 a1 : Nat} {δ0 δ : Dm} {X : Option Dm} {F : Dm → Option Dm} {C C1 : Nat → Nat → Prop} (C' : Nat → Nat → Prop) (h1 : Gt a0 a1 δ0 δ X C1) (hc : ∀ o' j, C o' j → C' o' j ∨ C1 o' j) (h : ∀ d, Gt a0 a1 δ0 d (F d) C') : Gt a0 a1 δ0 δ (X.bind F) C := by
  obtain ⟨d1, A1, e1, s1, t1⟩ := h1
  obtain ⟨δ', A, e, s, t⟩ := h d1
  rw [e1, Option.bind_some]
  exact ⟨δ', _, e, s1.trans s, fun o' j c => (hc o' j c).elim (fun z => Or.inr (t o' j z)) (fun z => Or.inl (t1 o' j z))⟩
theorem g_W {a0 a1 : Nat} {δ0 δ : Dm} {X : Option Dm} {C C1 : Nat → Nat → Prop} (h1 : Gt a0 a1 δ0 δ X C1) (h : ∀ o j, C o j → C1 o j) : Gt a0 a1 δ0 δ X C := by
  obtain ⟨d1, A1, e1, s1, t1⟩ := h1
  exact ⟨d1, A1, e1, s1, fun o j c => t1 o j (h o j c)⟩
def D5 (k o j : Nat) : Prop := (o = 5 ∧ k ≤ j ∧ j < 3) ∨ (6 ≤ o ∧ o < 13 ∧ j < 400) ∨ (13 ≤ o ∧ o < 16 ∧ j < 900)
def D6 (k o j : Nat) : Prop := (k ≤ o ∧ o < 13 ∧ j < 400) ∨ (13 ≤ o ∧ o < 16 ∧ j < 900)
def D13 (k o j : Nat) : Prop := k ≤ o ∧ o < 16 ∧ j < 900
def P16 (k o j : Nat) : Prop := (o = 16 ∧ k ≤ j ∧ j < 2) ∨ (17 ≤ o ∧ o < 25 ∧ j < 100)
def P17 (k o j : Nat) : Prop := k ≤ o ∧ o < 25 ∧ j < 100
def B25 (k i o j : Nat) : Prop := (o = 25 + 4 * k ∧ i ≤ j ∧ j < 9) ∨ (o = 26 + 4 * k ∧ j < 3) ∨ (o = 27 + 4 * k ∧ j < 12) ∨ (o = 28 + 4 * k ∧ j < 12)
def B26 (k o j : Nat) : Prop := (o = 26 + 4 * k ∧ j < 3) ∨ (o = 27 + 4 * k ∧ j < 12) ∨ (o = 28 + 4 * k ∧ j < 12)
def B27 (k o j : Nat) : Prop := (o = 27 + 4 * k ∧ j < 12) ∨ (o = 28 + 4 * k ∧ j < 12)
def B28 (k o j : Nat) : Prop := o = 28 + 4 * k ∧ j < 12
theorem di_bec {a0 a1 : Nat} {δ0 δ : Dm} (h0 : isT a0 = true) (h1 : isT a1 = true) (ha : apart a0 a1) : Gt a0 a1 δ0 δ (f_Di_become a0 a1 δ) (D5 0) := by
  obtain ⟨-, -, -, k6, k13, -, -⟩ := isT_K h0
  obtain ⟨-, -, -, m6, m13, -, -⟩ := isT_K h1
  unfold f_Di_become
  refine g_I (D5 1) 5 ha (by decide) rfl rfl (fun o j => by unfold D5; omega) (fun d => ?_)
  refine g_I (D5 2) 5 ha (by decide) rfl rfl (fun o j => by unfold D5; omega) (fun d => ?_)
  refine g_I (D6 6) 5 ha (by decide) rfl rfl (fun o j => by unfold D5 D6; omega) (fun d => ?_)
  refine g_C (D6 7) 6 ha (by decide) rfl rfl (m6 6 (by decide) (by decide)) (k6 6 (by decide) (by decide)) (fun o j => by unfold D6; omega) (fun d => ?_)
  refine g_C (D6 8) 7 ha (by decide) rfl rfl (m6 7 (by decide) (by decide)) (k6 7 (by decide) (by decide)) (fun o j => by unfold D6; omega) (fun d => ?_)
  refine g_C (D6 9) 8 ha (by decide) rfl rfl (m6 8 (by decide) (by decide)) (k6 8 (by decide) (by decide)) (fun o j => by unfold D6; omega) (fun d => ?_)
  refine g_C (D6 10) 9 ha (by decide) rfl rfl (m6 9 (by decide) (by decide)) (k6 9 (by decide) (by decide)) (fun o j => by unfold D6; omega) (fun d => ?_)
  refine g_C (D6 11) 10 ha (by decide) rfl rfl (m6 10 (by decide) (by decide)) (k6 10 (by decide) (by decide)) (fun o j => by unfold D6; omega) (fun d => ?_)
  refine g_C (D6 12) 11 ha (by decide) rfl rfl (m6 11 (by decide) (by decide)) (k6 11 (by decide) (by decide)) (fun o j => by unfold D6; omega) (fun d => ?_)
  refine g_C (D13 13) 12 ha (by decide) rfl rfl (m6 12 (by decide) (by decide)) (k6 12 (by decide) (by decide)) (fun o j => by unfold D6 D13; omega) (fun d => ?_)
  refine g_C (D13 14) 13 ha (by decide) rfl rfl (m13 13 (by decide) (by decide)) (k13 13 (by decide) (by decide)) (fun o j => by unfold D13; omega) (fun d => ?_)
  refine g_C (D13 15) 14 ha (by decide) rfl rfl (m13 14 (by decide) (by decide)) (k13 14 (by decide) (by decide)) (fun o j => by unfold D13; omega) (fun d => ?_)
  refine g_C (D13 16) 15 ha (by decide) rfl rfl (m13 15 (by decide) (by decide)) (k13 15 (by decide) (by decide)) (fun o j => by unfold D13; omega) (fun d => ?_)
  exact g_0 (fun o j => by unfold D13; omega)
theorem po_bec {a0 a1 : Nat} {δ0 δ : Dm} (h0 : isT a0 = true) (h1 : isT a1 = true) (ha : apart a0 a1) : Gt a0 a1 δ0 δ (f_Po_become a0 a1 δ) (P16 0) := by
  obtain ⟨-, -, -, -, -, k17, -⟩ := isT_K h0
  obtain ⟨-, -, -, -, -, m17, -⟩ := isT_K h1
  unfold f_Po_become
  refine g_I (P16 1) 16 ha (by decide) rfl rfl (fun o j => by unfold P16; omega) (fun d => ?_)
  refine g_I (P17 17) 16 ha (by decide) rfl rfl (fun o j => by unfold P16 P17; omega) (fun d => ?_)
  refine g_C (P17 18) 17 ha (by decide) rfl rfl (m17 17 (by decide) (by decide)) (k17 17 (by decide) (by decide)) (fun o j => by unfold P17; omega) (fun d => ?_)
  refine g_C (P17 19) 18 ha (by decide) rfl rfl (m17 18 (by decide) (by decide)) (k17 18 (by decide) (by decide)) (fun o j => by unfold P17; omega) (fun d => ?_)
  refine g_C (P17 20) 19 ha (by decide) rfl rfl (m17 19 (by decide) (by decide)) (k17 19 (by decide) (by decide)) (fun o j => by unfold P17; omega) (fun d => ?_)
  refine g_C (P17 21) 20 ha (by decide) rfl rfl (m17 20 (by decide) (by decide)) (k17 20 (by decide) (by decide)) (fun o j => by unfold P17; omega) (fun d => ?_)
  refine g_C (P17 22) 21 ha (by decide) rfl rfl (m17 21 (by decide) (by decide)) (k17 21 (by decide) (by decide)) (fun o j => by unfold P17; omega) (fun d => ?_)
  refine g_C (P17 23) 22 ha (by decide) rfl rfl (m17 22 (by decide) (by decide)) (k17 22 (by decide) (by decide)) (fun o j => by unfold P17; omega) (fun d => ?_)
  refine g_C (P17 24) 23 ha (by decide) rfl rfl (m17 23 (by decide) (by decide)) (k17 23 (by decide) (by decide)) (fun o j => by unfold P17; omega) (fun d => ?_)
  refine g_C (P17 25) 24 ha (by decide) rfl rfl (m17 24 (by decide) (by decide)) (k17 24 (by decide) (by decide)) (fun o j => by unfold P17; omega) (fun d => ?_)
  exact g_0 (fun o j => by unfold P17; omega)
theorem bo_bec {a0 a1 k : Nat} {δ0 δ : Dm} (h0 : isT a0 = true) (h1 : isT a1 = true) (ha : apart a0 a1) (hk : k < 8) : Gt a0 a1 δ0 δ (f_Bo_become (a0 + (25 + 4 * k)) (a1 + (25 + 4 * k)) δ) (B25 k 0) := by
  obtain ⟨-, -, -, -, -, -, kb⟩ := isT_K h0
  obtain ⟨-, -, -, -, -, -, mb⟩ := isT_K h1
  obtain ⟨k1, k2, k3⟩ := kb k hk
  obtain ⟨m1, m2, m3⟩ := mb k hk
  unfold f_Bo_become
  refine g_I (B25 k 1) (25 + 4 * k) ha (by omega) rfl rfl (fun o j => by unfold B25; omega) (fun d => ?_)
  refine g_I (B25 k 2) (25 + 4 * k) ha (by omega) rfl rfl (fun o j => by unfold B25; omega) (fun d => ?_)
  refine g_I (B25 k 3) (25 + 4 * k) ha (by omega) rfl rfl (fun o j => by unfold B25; omega) (fun d => ?_)
  refine g_I (B25 k 4) (25 + 4 * k) ha (by omega) rfl rfl (fun o j => by unfold B25; omega) (fun d => ?_)
  refine g_I (B25 k 5) (25 + 4 * k) ha (by omega) rfl rfl (fun o j => by unfold B25; omega) (fun d => ?_)
  refine g_I (B25 k 6) (25 + 4 * k) ha (by omega) rfl rfl (fun o j => by unfold B25; omega) (fun d => ?_)
  refine g_I (B25 k 7) (25 + 4 * k) ha (by omega) rfl rfl (fun o j => by unfold B25; omega) (fun d => ?_)
  refine g_I (B25 k 8) (25 + 4 * k) ha (by omega) rfl rfl (fun o j => by unfold B25; omega) (fun d => ?_)
  refine g_I (B26 k) (25 + 4 * k) ha (by omega) rfl rfl (fun o j => by unfold B25 B26; omega) (fun d => ?_)
  refine g_C (B27 k) (26 + 4 * k) ha (by omega) (by omega) (by omega) m1 k1 (fun o j => by unfold B26 B27; omega) (fun d => ?_)
  refine g_C (B28 k) (27 + 4 * k) ha (by omega) (by omega) (by omega) m2 k2 (fun o j => by unfold B27 B28; omega) (fun d => ?_)
  refine g_C (fun _ _ => False) (28 + 4 * k) ha (by omega) (by omega) (by omega) m3 k3 (fun o j => by unfold B28; omega) (fun d => ?_)
  exact g_0 (fun o j h => h)
/-- what a town is made of -/
def twn (o j : Nat) : Prop := (o = 0 ∧ j < 3) ∨ (o = 1 ∧ j < 400) ∨ (o = 2 ∧ j < 12) ∨ (o = 3 ∧ j < 144) ∨ (o = 5 ∧ j < 3) ∨ (6 ≤ o ∧ o < 13 ∧ j < 400) ∨ (13 ≤ o ∧ o < 16 ∧ j < 900) ∨ (o = 16 ∧ j < 2) ∨ (17 ≤ o ∧ o < 25 ∧ j < 100) ∨ (25 ≤ o ∧ o < 57 ∧ ((o % 4 = 1 ∧ j < 9) ∨ (o % 4 = 2 ∧ j < 3) ∨ (o % 4 = 3 ∧ j < 12) ∨ (o % 4 = 0 ∧ j < 12)))
def tw2 (m o j : Nat) : Prop := m ≤ o ∧ twn o j
def twI (i o j : Nat) : Prop := (o = 0 → i ≤ j) ∧ twn o j
theorem tw_0 {j : Nat} (h : twn 0 j) : j < 3 := by unfold twn at h; omega
theorem tw_1 {j : Nat} (h : twn 1 j) : j < 400 := by unfold twn at h; omega
theorem tw_2 {j : Nat} (h : twn 2 j) : j < 12 := by unfold twn at h; omega
theorem tw_3 {j : Nat} (h : twn 3 j) : j < 144 := by unfold twn at h; omega
theorem tw_d {o j : Nat} (h : twn o j) (h4 : 4 ≤ o) (h16 : o < 16) : D5 0 o j := by
  unfold twn at h; unfold D5
  rcases h with h | h | h | h | h | h | h | h | h | h
  all_goals omega
theorem tw_p {o j : Nat} (h : twn o j) (h4 : 16 ≤ o) (h16 : o < 25) : P16 0 o j := by
  unfold twn at h; unfold P16
  rcases h with h | h | h | h | h | h | h | h | h | h
  all_goals omega
theorem tw_b {o j : Nat} (h : twn o j) (h4 : 25 ≤ o) : 25 ≤ o ∧ o < 57 ∧ ((o % 4 = 1 ∧ j < 9) ∨ (o % 4 = 2 ∧ j < 3) ∨ (o % 4 = 3 ∧ j < 12) ∨ (o % 4 = 0 ∧ j < 12)) := by
  unfold twn at h
  rcases h with h | h | h | h | h | h | h | h | h | h
  any_goals omega
theorem to_81 {a0 a1 : Nat} {δ d3 : Dm} (h0 : isT a0 = true) (h1 : isT a1 = true) (ha : apart a0 a1) : Gt a0 a1 δ d3 (lp_To_become_81 (fun v2_81x δ81x => (some δ81x)) a0 a1 FU 0 d3) (fun o j => 25 ≤ o ∧ o < 57 ∧ ((o % 4 = 1 ∧ j < 9) ∨ (o % 4 = 2 ∧ j < 3) ∨ (o % 4 = 3 ∧ j < 12) ∨ (o % 4 = 0 ∧ j < 12))) := by
  refine for_inv (fun f k d => lp_To_become_81 (fun v2_81x δ81x => (some δ81x)) a0 a1 f k d) 8 (by decide) (fun k d => ∃ A, StpT a0 a1 δ d3 d A ∧ ∀ o j, 25 ≤ o → o < 25 + 4 * k → ((o % 4 = 1 ∧ j < 9) ∨ (o % 4 = 2 ∧ j < 3) ∨ (o % 4 = 3 ∧ j < 12) ∨ (o % 4 = 0 ∧ j < 12)) → A o j) (fun r => Gt a0 a1 δ d3 r (fun o j => 25 ≤ o ∧ o < 57 ∧ ((o % 4 = 1 ∧ j < 9) ∨ (o % 4 = 2 ∧ j < 3) ∨ (o % 4 = 3 ∧ j < 12) ∨ (o % 4 = 0 ∧ j < 12)))) (fun f k d hk hI => ?_) (fun f d hI => ?_) 0 d3 (by decide) ⟨fun _ _ => False, fun c => ⟨c, fun o j _ q => q.resolve_right id⟩, fun o j h1 h2 => by omega⟩
  · obtain ⟨A, i1, i2⟩ := hI
    obtain ⟨d4, A4, e4, s4, t4⟩ := bo_bec (δ0 := δ) (δ := d) h0 h1 ha hk
    refine ⟨d4, ⟨_, i1.trans s4, fun o j h25 ho ht => ?_⟩, ?_⟩
    · by_cases z : o < 25 + 4 * k
      · exact Or.inl (i2 o j h25 z ht)
      · exact Or.inr (t4 o j (by unfold B25; omega))
    · simp only [lp_To_become_81]
      rw [if_neg (show ¬ (8 : Int32) ≤ nI k from nI_ge hk (by decide)), slotT h0 hk, Option.bind_some]
      simp only [ocs, if_pos (isB_T h0 hk)]
      rw [slotT h1 hk, Option.bind_some]
      simp only [ocs, if_pos (isB_T h1 hk)]
      rw [e4, Option.bind_some, nI_1]
  · obtain ⟨A, i1, i2⟩ := hI
    simp only [lp_To_become_81]
    rw [if_pos (show (8 : Int32) ≤ nI 8 by decide)]
    exact ⟨d, A, rfl, i1, fun o j h => i2 o j h.1 h.2.1 h.2.2⟩
theorem to_bec {a0 a1 : Nat} {δ : Dm} (h0 : isT a0 = true) (h1 : isT a1 = true) (ha : apart a0 a1) : ∃ δ', f_To_become a0 a1 δ = some δ' ∧ (∀ b j, (∀ o, o < 57 → b ≠ a0 + o) → gI δ' b j = gI δ b j) ∧ ∀ o j, o < 57 → twn o j → gI δ' (a0 + o) j = gI δ (a1 + o) j := by
  obtain ⟨k1, k2, k3, -⟩ := isT_K h0
  obtain ⟨m1, m2, m3, -⟩ := isT_K h1
  have q : Gt a0 a1 δ δ (f_To_become a0 a1 δ) twn := by
    unfold f_To_become
    refine g_I (twI 1) 0 ha (by decide) rfl rfl (fun o j h => ?_) (fun d => ?_)
    · by_cases z : o = 0 ∧ j = 0
      · exact Or.inr z
      · exact Or.inl ⟨fun w => by omega, h⟩
    refine g_I (twI 2) 0 ha (by decide) rfl rfl (fun o j h => ?_) (fun d => ?_)
    · by_cases z : o = 0 ∧ j = 1
      · exact Or.inr z
      · exact Or.inl ⟨fun w => by have := h.1 w; omega, h.2⟩
    refine g_I (tw2 1) 0 ha (by decide) rfl rfl (fun o j h => ?_) (fun d => ?_)
    · by_cases z : o = 0
      · have h2 := h.2
        have h1 := h.1 z
        subst z
        have := tw_0 h2
        exact Or.inr ⟨rfl, by omega⟩
      · exact Or.inl ⟨by omega, h.2⟩
    refine g_C (tw2 2) 1 ha (by decide) rfl rfl m1 k1 (fun o j h => ?_) (fun d => ?_)
    · by_cases z : o = 1
      · have h2 := h.2
        subst z
        exact Or.inr ⟨rfl, tw_1 h2⟩
      · have h1 := h.1
        exact Or.inl ⟨by omega, h.2⟩
    refine g_C (tw2 3) 2 ha (by decide) rfl rfl m2 k2 (fun o j h => ?_) (fun d => ?_)
    · by_cases z : o = 2
      · have h2 := h.2
        subst z
        exact Or.inr ⟨rfl, tw_2 h2⟩
      · have h1 := h.1
        exact Or.inl ⟨by omega, h.2⟩
    refine g_C (tw2 4) 3 ha (by decide) rfl rfl m3 k3 (fun o j h => ?_) (fun d => ?_)
    · by_cases z : o = 3
      · have h2 := h.2
        subst z
        exact Or.inr ⟨rfl, tw_3 h2⟩
      · have h1 := h.1
        exact Or.inl ⟨by omega, h.2⟩
    refine g_V (tw2 16) (di_bec h0 h1 ha) (fun o j h => ?_) (fun d => ?_)
    · by_cases z : 16 ≤ o
      · exact Or.inl ⟨z, h.2⟩
      · exact Or.inr (tw_d h.2 h.1 (by omega))
    refine g_V (tw2 25) (po_bec h0 h1 ha) (fun o j h => ?_) (fun d => ?_)
    · by_cases z : 25 ≤ o
      · exact Or.inl ⟨z, h.2⟩
      · exact Or.inr (tw_p h.2 h.1 (by omega))
    exact g_W (to_81 h0 h1 ha) (fun o j c => tw_b c.2 c.1)
  obtain ⟨δ', A, e, s, t⟩ := q
  obtain ⟨c1, c2⟩ := s ⟨fun _ _ _ => rfl, fun _ _ _ => rfl⟩
  exact ⟨δ', e, c1.2, fun o j ho ht => c2 o j ho (Or.inr (t o j ht))⟩
theorem dom_t2 {i : Nat} (h : dom i) : twn (cr i) (cs i) := by
  unfold dom at h
  by_cases h1 : i < 3
  · rw [show cr i = 0 from if_pos h1, show cs i = i from if_pos h1]; unfold twn; omega
  by_cases h2 : i < 5
  · have e1 : cr i = 5 := by unfold cr; rw [if_neg h1, if_pos h2]
    have e2 : cs i = i - 3 := by unfold cs; rw [if_neg h1, if_pos h2]
    rw [e1, e2]; unfold twn; omega
  by_cases h3 : i < 7
  · have e1 : cr i = 16 := by unfold cr; rw [if_neg h1, if_neg h2, if_pos h3]
    have e2 : cs i = i - 5 := by unfold cs; rw [if_neg h1, if_neg h2, if_pos h3]
    rw [e1, e2]; unfold twn; omega
  by_cases h4 : i < 410
  · have e1 : cr i = 1 := by unfold cr; rw [if_neg h1, if_neg h2, if_neg h3, if_pos h4]
    have e2 : cs i = i - 10 := by unfold cs; rw [if_neg h1, if_neg h2, if_neg h3, if_pos h4]
    rw [e1, e2]; unfold twn; omega
  by_cases h5 : i < 422
  · have e1 : cr i = 2 := by unfold cr; rw [if_neg h1, if_neg h2, if_neg h3, if_neg h4, if_pos h5]
    have e2 : cs i = i - 410 := by unfold cs; rw [if_neg h1, if_neg h2, if_neg h3, if_neg h4, if_pos h5]
    rw [e1, e2]; unfold twn; omega
  by_cases h6 : i < 566
  · have e1 : cr i = 3 := by unfold cr; rw [if_neg h1, if_neg h2, if_neg h3, if_neg h4, if_neg h5, if_pos h6]
    have e2 : cs i = i - 422 := by unfold cs; rw [if_neg h1, if_neg h2, if_neg h3, if_neg h4, if_neg h5, if_pos h6]
    rw [e1, e2]; unfold twn; omega
  by_cases h7 : i < 726
  · obtain ⟨b, w, hb, hw, rfl⟩ : ∃ b w, b < 8 ∧ w < 12 ∧ i = 566 + (20 * b + w) := ⟨(i - 566) / 20, (i - 566) % 20, by omega, by omega, by omega⟩
    have d := dom_b hb hw
    have bw : ∀ w, w < 12 → ¬ (3 ≤ w ∧ w < 6) → bs w < 9 := by decide
    rw [d.2.1, d.2.2]
    by_cases z : 3 ≤ w ∧ w < 6
    · rw [if_pos z, if_pos z]; unfold twn; omega
    · rw [if_neg z, if_neg z]
      have := bw w hw z
      unfold twn; omega
  · obtain ⟨b, p, m, hb, hp, hm, rfl⟩ : ∃ b p m, b < 8 ∧ p < 12 ∧ m < 2 ∧ i = 8726 + (2 * (12 * b + p) + m) := ⟨(i - 8726) / 24, (i - 8726) % 24 / 2, (i - 8726) % 2, by omega, by omega, by omega, by omega⟩
    have d := dom_t hb hp hm
    rw [d.2.1, d.2.2]; unfold twn; omega
theorem RC_cp {nl a0 a1 : Nat} {δ δ' : Dm} {T : Tw} (h : RC a1 δ T) (ok : okT nl T) (hc : ∀ o j, o < 57 → twn o j → gI δ' (a0 + o) j = gI δ (a1 + o) j) : RC a0 δ' T := by
  obtain ⟨h1, h2, h3, h4, h5, h6⟩ := h
  have ev := ev_len ok
  obtain ⟨s1, s2, s3, s4, s5, s6, s7, s8, s9, s10, s11⟩ := ok.1
  have s4 : T.1 3 = ((tE T).filter isS).length := s4
  have s8 : T.1 5 = (tR T).length := s8
  have s10 : T.1 6 = (tC T).length := s10
  refine ⟨fun i hi => by rw [hc _ _ (ci_at i hi).2.1 (dom_t2 hi)]; exact h1 i hi, fun s x hx => ?_, by rw [hc 5 2 (by decide) (by unfold twn; omega)]; exact h3, fun e x hx => ?_, fun k x hx j hj => ?_, fun k x hx j hj => ?_⟩
  · have hs := idx_lt hx
    rw [hc 6 s (by decide) (by unfold twn; omega), hc 7 s (by decide) (by unfold twn; omega), hc 8 s (by decide) (by unfold twn; omega), hc 9 s (by decide) (by unfold twn; omega), hc 10 s (by decide) (by unfold twn; omega), hc 11 s (by decide) (by unfold twn; omega), hc 12 s (by decide) (by unfold twn; omega)]; exact h2 s x hx
  · have hs := idx_lt hx
    rw [hc 13 e (by decide) (by unfold twn; omega), hc 14 e (by decide) (by unfold twn; omega), hc 15 e (by decide) (by unfold twn; omega)]; exact h4 e x hx
  · have hs := idx_lt hx
    rw [Nat.add_assoc, hc (17 + j) k (by omega) (by unfold twn; omega), ← Nat.add_assoc]; exact h5 k x hx j hj
  · have hs := idx_lt hx
    rw [Nat.add_assoc, hc (22 + j) k (by omega) (by unfold twn; omega), ← Nat.add_assoc]; exact h6 k x hx j hj
theorem RM_cp {nl r o r' o' : Nat} {δ δ' : Dm} {T : Tw} (h : RM r o δ T) (ok : okT nl T) (hc : ∀ i, i < 8918 → gI δ' r' (o' + i) = gI δ r (o + i)) : RM r' o' δ' T := by
  obtain ⟨h1, h2, h3, h4, h5⟩ := h
  have hv := okV ok
  obtain ⟨s1, s2, s3, s4, s5, s6, s7, s8, s9, s10, s11⟩ := ok.1
  have s8 : T.1 5 = (tR T).length := s8
  have s10 : T.1 6 = (tC T).length := s10
  refine ⟨fun i hi => by rw [hc i (by unfold dom at hi; omega)]; exact h1 i hi, by rw [hc 7 (by decide)]; exact h2, fun e x hx j hj => ?_, fun k x hx j hj => ?_, fun k x hx j hj => ?_⟩
  · have := idx_lt hx
    rw [hc _ (by omega)]; exact h3 e x hx j hj
  · have := idx_lt hx
    rw [hc _ (by omega)]; exact h4 k x hx j hj
  · have := idx_lt hx
    rw [hc _ (by omega)]; exact h5 k x hx j hj
