/-! the class's tokens -/
theorem leN {a b : Nat} (ha : a < 2147483648) (hb : b < 2147483648) : nI a ≤ nI b ↔ a ≤ b := by
  rw [le32, nI_toInt ha, nI_toInt hb]; omega
theorem sbN {a b : Nat} (h : b ≤ a) : nI a - nI b = nI (a - b) := by
  rw [show nI a = nI (a - b) + nI b by rw [nI_add, Nat.sub_add_cancel h], Int32.add_sub_cancel]
theorem mx1 {w : Nat} (h : 1 ≤ w) (hw : w < 2147483648) : (if (1 : Int32) < nI w then nI w else 1) = nI w := by
  by_cases z : (1 : Int32) < nI w
  · rw [if_pos z]
  · rw [if_neg z]
    have z : nI w ≤ nI 1 := Int32.not_lt.mp z
    rw [leN hw (by decide)] at z
    rw [show w = 1 by omega]
    rfl
def CX (X : Tx) (δ : Dm) : Prop := X.2 ≤ 400 ∧ (∀ j, X.1 j < 256) ∧ ∀ j, j < X.2 → gI δ 5 j = nI (X.1 j)
theorem CX.get {X : Tx} {δ : Dm} {i : Nat} (h : CX X δ) (hi : i < X.2) : f_Fp_get 5 (nI i) δ = some (nI (X.1 i)) := by
  rw [get_in (N := 400) rfl (by have := h.1; omega), h.2.2 i hi]
theorem isDigit_eq {b : Nat} {δ : Dm} (hb : b < 256) : f_Re_isDigit (nI b) δ = some (bI (48 ≤ b ∧ b ≤ 57)) := by
  unfold f_Re_isDigit
  rw [within_eq, Option.bind_some, if_pos bI_01]
  exact congrArg some (bI_c (by rw [show (48 : Int32) = nI 48 from rfl, show (57 : Int32) = nI 57 from rfl, leN (by decide) (by omega), leN (by omega) (by decide)]))
theorem isLetter_eq {b : Nat} {δ : Dm} (hb : b < 256) : f_Re_isLetter (nI b) δ = some (bI (97 ≤ b ∧ b ≤ 122)) := by
  unfold f_Re_isLetter
  rw [within_eq, Option.bind_some, if_pos bI_01]
  exact congrArg some (bI_c (by rw [show (97 : Int32) = nI 97 from rfl, show (122 : Int32) = nI 122 from rfl, leN (by decide) (by omega), leN (by omega) (by decide)]))
theorem sign_eq {b : Nat} {δ : Dm} (hb : b < 256) : f_Re_signToken (nI b) δ = some (nI (sk b)) := by
  have d : ∀ b, b < 256 → f_Re_signToken (nI b) (fun _ _ => 0, fun _ _ => 0) = some (nI (sk b)) := by decide +kernel
  exact d b hb
theorem runOf_eq {X : Tx} {δ : Dm} {i e lo hi : Nat} {q : Nat → Bool} (h : CX X δ) (hl : lo < 256) (hh : hi < 256) (hq : ∀ k, q k = decide (k < X.2 ∧ lo ≤ X.1 k ∧ X.1 k ≤ hi)) (hr : run q i e) (hi0 : q i = true) : f_Re_runOf (nI i) (nI X.2) (nI lo) (nI hi) δ = some (nI (e - i)) := by
  have hN := h.1
  have hqN : ∀ k, X.2 ≤ k → q k = false := fun k hk => by rw [hq]; exact decide_eq_false (fun w => by omega)
  have hiX : i < X.2 := by rw [hq] at hi0; exact (of_decide_eq_true hi0).1
  have heX : e ≤ X.2 := run_le hqN hr (by omega)
  have hie := run_gt hr hi0
  unfold f_Re_runOf
  rw [bndE, show nI i + (1 : Int32) = nI (i + 1) from nI_add i 1]
  have key : ∀ k f j, j + k = e → k < f → i < j → lp_Re_runOf_5 (fun v5_5x => some (v5_5x - nI i)) (nI i) (nI X.2) (nI lo) (nI hi) δ f (nI j) = some (nI (e - i)) := by
    intro k
    induction k with
    | zero =>
      intro f j hj hf hij
      obtain ⟨g, rfl⟩ : ∃ g, f = g + 1 := ⟨f - 1, by omega⟩
      obtain rfl : j = e := by omega
      rw [lp_Re_runOf_5]
      by_cases z : nI X.2 ≤ nI j
      · rw [if_pos z, sbN (by omega)]
      · rw [if_neg z]
        have hj : j < X.2 := Nat.lt_of_not_le fun w => z ((leN (by omega) (by omega)).mpr w)
        rw [h.get hj, Option.bind_some, within_eq, Option.bind_some]
        have := hr.2.2
        rw [hq] at this
        have this := of_decide_eq_false this
        rw [if_pos (by rw [bI_0, leN (by omega) (by have := h.2.1 j; omega), leN (by have := h.2.1 j; omega) (by omega)]; exact fun w => this ⟨hj, w⟩), sbN (by omega)]
    | succ k ih =>
      intro f j hj hf hij
      obtain ⟨g, rfl⟩ : ∃ g, f = g + 1 := ⟨f - 1, by omega⟩
      have qj := hr.2.1 j (by omega) (by omega)
      rw [hq] at qj
      have qj := of_decide_eq_true qj
      rw [lp_Re_runOf_5, if_neg (nI_ge qj.1 (by omega)), h.get qj.1, Option.bind_some, within_eq, Option.bind_some, if_neg (by rw [bI_0, leN (by omega) (by have := h.2.1 j; omega), leN (by have := h.2.1 j; omega) (by omega)]; exact fun w => w qj.2), show nI j + (1 : Int32) = nI (j + 1) from nI_add j 1]
      exact ih g (j + 1) (by omega) (by omega) (by omega)
  exact key (e - (i + 1)) FU (i + 1) (by omega) (FU_gt (by omega)) (by omega)
theorem numberIn_eq {X : Tx} {δ : Dm} {i : Nat} (h : CX X δ) (hi : bD X i = true) : f_Re_numberIn (nI i) (nI (enD X i - i)) δ = some (vl X i) := by
  have hN := h.1
  have hiX : i < X.2 := (of_decide_eq_true hi).1
  have hr := enD_run X i
  have heX : enD X i ≤ X.2 := run_le (bD_N X) hr (by omega)
  obtain ⟨e, he⟩ : ∃ e, enD X i = e := ⟨_, rfl⟩
  unfold f_Re_numberIn vl
  rw [he] at hr heX ⊢
  by_cases z : 5 < e - i
  · rw [if_pos z, if_neg (show ¬ nI (e - i) ≤ (5 : Int32) from nI_ge (a := 5) (b := e - i) z (by omega))]
  · rw [if_neg z, if_pos (show nI (e - i) ≤ (5 : Int32) from nI_le (a := e - i) (b := 5) (by omega) (by decide))]
    refine for_inv (fun f j a => lp_Re_numberIn_12 (fun v3_12x v4_12x => some v3_12x) (nI i) (nI (e - i)) δ f a j) (e - i) (by omega) (fun j a => a = nI (num X i j)) (fun r => r = some (nI (num X i (e - i)))) (fun f j a hj ha => ?_) (fun f a ha => ?_) 0 0 (Nat.zero_le _) rfl
    · subst ha
      have qj := of_decide_eq_true (hr.2.1 (i + j) (by omega) (by omega))
      refine ⟨_, rfl, ?_⟩
      simp only [lp_Re_numberIn_12]
      rw [if_neg (nI_ge hj (by omega)), nI_add, h.get qj.1, Option.bind_some, bndE, nI_1, show nI (num X i j) * (10 : Int32) = nI (num X i j * 10) from pk_mul _ 10, nI_add, show (48 : Int32) = nI 48 from rfl, sbN (by omega)]
      rw [show num X i j * 10 + X.1 (i + j) - 48 = num X i (j + 1) by show _ = 10 * num X i j + (X.1 (i + j) - 48); omega]
    · subst ha
      simp only [lp_Re_numberIn_12]
      rw [if_pos (nI_le (Nat.le_refl _) (by omega))]
/-- the words' string -/
def ws : Nat → Nat
  | 0 => 0
  | n + 1 => ws n + (WL.getD n []).length + 1
def WF : List Nat := WL.flatMap (fun w => w ++ [32])
theorem byW_eq {i : Nat} (h : i < 108) : byW i = nI (WF.getD i 0) := by
  have d : ∀ i, i < 108 → byW i = nI (WF.getD i 0) := by decide +kernel
  exact d i h
theorem WF_at {n i : Nat} (hn : n < 21) (hi : i < (WL.getD n []).length) : ws n + i < 108 ∧ WF.getD (ws n + i) 0 = (WL.getD n []).getD i 0 ∧ WF.getD (ws n + i) 0 ≠ 32 := by
  have d : ∀ n, n < 21 → ∀ i, i < (WL.getD n []).length → ws n + i < 108 ∧ WF.getD (ws n + i) 0 = (WL.getD n []).getD i 0 ∧ WF.getD (ws n + i) 0 ≠ 32 := by decide +kernel
  exact d n hn i hi
theorem WF_z {n : Nat} (hn : n < 21) : ws n + (WL.getD n []).length < 108 ∧ WF.getD (ws n + (WL.getD n []).length) 0 = 32 := by
  have d : ∀ n, n < 21 → ws n + (WL.getD n []).length < 108 ∧ WF.getD (ws n + (WL.getD n []).length) 0 = 32 := by decide +kernel
  exact d n hn
theorem charAt_eq {i : Nat} {δ : Dm} (h : i < 108) : f_St_charAt (nI i) δ = some (nI (WF.getD i 0)) := by
  have d : ∀ i, i < 108 → f_St_charAt (nI i) (fun _ _ => 0, fun _ _ => 0) = some (nI (WF.getD i 0)) := by decide +kernel
  exact d i h
theorem stlen_eq {δ : Dm} : f_St_length δ = some 108 := by
  have d : f_St_length (fun _ _ => 0, fun _ _ => 0) = some 108 := by decide +kernel
  exact d
