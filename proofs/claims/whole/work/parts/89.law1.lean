/-! a law's text, its tokens -/
abbrev Tx : Type := (Nat → Nat) × Nat
def bS (X : Tx) (k : Nat) : Bool := decide (k < X.2 ∧ X.1 k = 32)
def bD (X : Tx) (k : Nat) : Bool := decide (k < X.2 ∧ 48 ≤ X.1 k ∧ X.1 k ≤ 57)
def bL (X : Tx) (k : Nat) : Bool := decide (k < X.2 ∧ 97 ≤ X.1 k ∧ X.1 k ≤ 122)
def run (q : Nat → Bool) (p e : Nat) : Prop := p ≤ e ∧ (∀ k, p ≤ k → k < e → q k = true) ∧ q e = false
theorem run_uniq {q : Nat → Bool} {p e e' : Nat} (h : run q p e) (k : run q p e') : e = e' := by
  obtain ⟨h1, h2, h3⟩ := h
  obtain ⟨k1, k2, k3⟩ := k
  rcases Nat.lt_trichotomy e e' with z | z | z
  · have := k2 e h1 z; rw [h3] at this; cases this
  · exact z
  · have := h2 e' k1 z; rw [k3] at this; cases this
def rnE (q : Nat → Bool) : Nat → Nat → Nat
  | 0, p => p
  | f + 1, p => if q p then rnE q f (p + 1) else p
theorem rnE_run {q : Nat → Bool} {N : Nat} (hq : ∀ k, N ≤ k → q k = false) : ∀ f p, N ≤ p + f → run q p (rnE q f p) := by
  intro f
  induction f with
  | zero => intro p h; exact ⟨Nat.le_refl _, fun k a b => absurd a (Nat.not_le.mpr b), hq p h⟩
  | succ f ih =>
    intro p h
    unfold rnE
    by_cases z : q p = true
    · rw [if_pos z]
      obtain ⟨a, b, c⟩ := ih (p + 1) (by omega)
      refine ⟨by omega, fun k k1 k2 => ?_, c⟩
      by_cases w : k = p
      · rw [w]; exact z
      · exact b k (by omega) k2
    · rw [if_neg z]
      exact ⟨Nat.le_refl _, fun k a b => absurd a (Nat.not_le.mpr b), by simpa using z⟩
def sp (X : Tx) (p : Nat) : Nat := rnE (bS X) X.2 p
def enD (X : Tx) (p : Nat) : Nat := rnE (bD X) X.2 p
def enL (X : Tx) (p : Nat) : Nat := rnE (bL X) X.2 p
theorem bS_N (X : Tx) : ∀ k, X.2 ≤ k → bS X k = false := fun k h => decide_eq_false (fun w => by omega)
theorem bD_N (X : Tx) : ∀ k, X.2 ≤ k → bD X k = false := fun k h => decide_eq_false (fun w => by omega)
theorem bL_N (X : Tx) : ∀ k, X.2 ≤ k → bL X k = false := fun k h => decide_eq_false (fun w => by omega)
theorem sp_run (X : Tx) (p : Nat) : run (bS X) p (sp X p) := rnE_run (bS_N X) _ _ (Nat.le_add_left ..)
theorem enD_run (X : Tx) (p : Nat) : run (bD X) p (enD X p) := rnE_run (bD_N X) _ _ (Nat.le_add_left ..)
theorem enL_run (X : Tx) (p : Nat) : run (bL X) p (enL X p) := rnE_run (bL_N X) _ _ (Nat.le_add_left ..)
theorem run_le {q : Nat → Bool} {N p e : Nat} (hq : ∀ k, N ≤ k → q k = false) (h : run q p e) (hp : p ≤ N) : e ≤ N := by
  refine Nat.le_of_not_lt fun w => ?_
  have := h.2.1 N hp w
  rw [hq N (Nat.le_refl _)] at this
  cases this
theorem run_gt {q : Nat → Bool} {p e : Nat} (h : run q p e) (hp : q p = true) : p < e := by
  refine Nat.lt_of_le_of_ne h.1 fun w => ?_
  have := h.2.2
  rw [← w, hp] at this
  cases this
theorem run_id {q : Nat → Bool} {p : Nat} (hp : q p = false) : run q p p := ⟨Nat.le_refl _, fun k a b => absurd a (Nat.not_le.mpr b), hp⟩
theorem run_st {q : Nat → Bool} {p e : Nat} (h : run q (p + 1) e) (hp : q p = true) : run q p e := by
  obtain ⟨a, b, c⟩ := h
  refine ⟨by omega, fun k k1 k2 => ?_, c⟩
  by_cases w : k = p
  · rw [w]; exact hp
  · exact b k (by omega) k2
theorem sp_id {X : Tx} {p : Nat} (h : bS X p = false) : sp X p = p := run_uniq (sp_run X p) (run_id h)
theorem sp_succ {X : Tx} {p : Nat} (h : bS X p = true) : sp X p = sp X (p + 1) := run_uniq (sp_run X p) (run_st (sp_run X (p + 1)) h)
theorem sp_ge (X : Tx) (p : Nat) : p ≤ sp X p := (sp_run X p).1
theorem sp_no (X : Tx) (p : Nat) : bS X (sp X p) = false := (sp_run X p).2.2
theorem sp_sp (X : Tx) (p : Nat) : sp X (sp X p) = sp X p := sp_id (sp_no X p)
theorem sp_le {X : Tx} {p : Nat} (h : p ≤ X.2) : sp X p ≤ X.2 := run_le (bS_N X) (sp_run X p) h
theorem sp_N (X : Tx) : sp X X.2 = X.2 := sp_id (bS_N X _ (Nat.le_refl _))
/-- the words, in the class's order -/
def WL : List (List Nat) := [[104, 101, 97, 100], [115, 116, 111, 111, 108], [108, 105, 103, 104, 116], [104, 101, 97, 116], [100, 97, 121], [115, 116, 114, 101, 110, 103, 116, 104], [115, 116, 114, 105, 112, 115], [98, 111, 120], [112, 108, 97, 99, 101], [116, 105, 114, 101], [97, 103, 101], [119, 101, 97, 107], [100, 97, 114, 107], [111, 102, 102], [114, 101, 102, 117, 115, 101], [114, 101, 102, 117, 110, 100], [114, 101, 110, 116], [105, 102], [111, 114], [97, 110, 100], [110, 111, 116]]
def wb (X : Tx) (p e : Nat) : List Nat := (List.range (e - p)).map (fun i => X.1 (p + i))
def wk (l : List Nat) : Nat := ((List.range 21).find? (fun i => decide (WL.getD i [] = l))).getD 35
def sk (b : Nat) : Nat := if b = 42 then 24 else if b = 43 then 22 else if b = 45 then 23 else if b = 47 then 25 else if b = 59 then 33 else if b = 60 then 26 else if b = 61 then 28 else if b = 62 then 30 else if b = 91 then 31 else if b = 93 then 32 else 35
def twP (X : Tx) (p : Nat) : Bool := decide ((X.1 p = 60 ∨ X.1 p = 62) ∧ p + 1 < X.2 ∧ X.1 (p + 1) = 61)
def kd (X : Tx) (p : Nat) : Nat := if X.2 ≤ p then 34 else if bD X p then 21 else if bL X p then wk (wb X p (enL X p)) else if twP X p then (if X.1 p = 60 then 27 else 29) else sk (X.1 p)
def te (X : Tx) (p : Nat) : Nat := if bD X p then enD X p else if bL X p then enL X p else if twP X p then p + 2 else p + 1
def nx (X : Tx) (p : Nat) : Nat := sp X (te X p)
def num (X : Tx) (p : Nat) : Nat → Nat
  | 0 => 0
  | n + 1 => 10 * num X p n + (X.1 (p + n) - 48)
def vl (X : Tx) (p : Nat) : Int32 := if 5 < enD X p - p then -1 else nI (num X p (enD X p - p))
theorem te_gt (X : Tx) (p : Nat) : p < te X p := by
  unfold te
  by_cases h1 : bD X p = true
  · rw [if_pos h1]; exact run_gt (enD_run X p) h1
  · rw [if_neg h1]
    by_cases h2 : bL X p = true
    · rw [if_pos h2]; exact run_gt (enL_run X p) h2
    · rw [if_neg h2]
      by_cases h3 : twP X p = true
      · rw [if_pos h3]; omega
      · rw [if_neg h3]; omega
theorem te_le {X : Tx} {p : Nat} (h : p < X.2) : te X p ≤ X.2 := by
  unfold te
  by_cases h1 : bD X p = true
  · rw [if_pos h1]; exact run_le (bD_N X) (enD_run X p) (Nat.le_of_lt h)
  · rw [if_neg h1]
    by_cases h2 : bL X p = true
    · rw [if_pos h2]; exact run_le (bL_N X) (enL_run X p) (Nat.le_of_lt h)
    · rw [if_neg h2]
      by_cases h3 : twP X p = true
      · rw [if_pos h3]
        have := (of_decide_eq_true h3).2.1
        omega
      · rw [if_neg h3]; omega
theorem nx_gt (X : Tx) (p : Nat) : p < nx X p := Nat.lt_of_lt_of_le (te_gt X p) (sp_ge X _)
theorem nx_le {X : Tx} {p : Nat} (h : p < X.2) : nx X p ≤ X.2 := sp_le (te_le h)
theorem nx_sp (X : Tx) (p : Nat) : sp X (nx X p) = nx X p := sp_sp X _
theorem ky_N {X : Tx} {p : Nat} (h : X.2 ≤ p) : kd X p = 34 := if_pos h
theorem wk_ne (l : List Nat) : wk l ≠ 34 ∧ wk l ≤ 35 ∧ (21 ≤ wk l → wk l = 35) := by
  unfold wk
  cases h : (List.range 21).find? (fun i => decide (WL.getD i [] = l)) with
  | none => exact ⟨by decide, by decide, fun _ => rfl⟩
  | some i =>
    have := List.mem_range.mp (List.mem_of_find?_eq_some h)
    show i ≠ 34 ∧ i ≤ 35 ∧ (21 ≤ i → i = 35)
    omega
theorem sk_ne (b : Nat) : sk b ≠ 34 ∧ sk b ≤ 35 ∧ 22 ≤ sk b := by
  unfold sk
  repeat' split
  all_goals decide
theorem ky_34 {X : Tx} {p : Nat} (h : kd X p = 34) : X.2 ≤ p := by
  unfold kd at h
  by_cases z : X.2 ≤ p
  · exact z
  · rw [if_neg z] at h
    by_cases h1 : bD X p = true
    · rw [if_pos h1] at h; cases h
    · rw [if_neg h1] at h
      by_cases h2 : bL X p = true
      · rw [if_pos h2] at h; exact absurd h (wk_ne _).1
      · rw [if_neg h2] at h
        by_cases h3 : twP X p = true
        · rw [if_pos h3] at h
          by_cases h4 : X.1 p = 60
          · rw [if_pos h4] at h; cases h
          · rw [if_neg h4] at h; cases h
        · rw [if_neg h3] at h; exact absurd h (sk_ne _).1
theorem ky_lt {X : Tx} {p : Nat} (h : kd X p ≠ 34) : p < X.2 := Nat.lt_of_not_le fun z => h (ky_N z)
theorem ky_le (X : Tx) (p : Nat) : kd X p ≤ 35 := by
  unfold kd
  by_cases z : X.2 ≤ p
  · rw [if_pos z]; decide
  · rw [if_neg z]
    by_cases h1 : bD X p = true
    · rw [if_pos h1]; decide
    · rw [if_neg h1]
      by_cases h2 : bL X p = true
      · rw [if_pos h2]; exact (wk_ne _).2.1
      · rw [if_neg h2]
        by_cases h3 : twP X p = true
        · rw [if_pos h3]
          by_cases h4 : X.1 p = 60
          · rw [if_pos h4]; decide
          · rw [if_neg h4]; decide
        · rw [if_neg h3]; exact (sk_ne _).2.1
/-- a number's token is where a digit is; a word's where a letter is -/
theorem ky_21 {X : Tx} {p : Nat} (hp : p < X.2) : kd X p = 21 ↔ bD X p = true := by
  unfold kd
  rw [if_neg (Nat.not_le.mpr hp)]
  by_cases h1 : bD X p = true
  · rw [if_pos h1]; exact ⟨fun _ => h1, fun _ => rfl⟩
  · rw [if_neg h1]
    refine ⟨fun h => absurd h ?_, fun h => absurd h h1⟩
    by_cases h2 : bL X p = true
    · rw [if_pos h2]
      intro w
      have := (wk_ne (wb X p (enL X p))).2.2 (by omega)
      omega
    · rw [if_neg h2]
      by_cases h3 : twP X p = true
      · rw [if_pos h3]
        by_cases h4 : X.1 p = 60
        · rw [if_pos h4]; decide
        · rw [if_neg h4]; decide
      · rw [if_neg h3]
        have := (sk_ne (X.1 p)).2.2
        omega
theorem ky_w {X : Tx} {p : Nat} (h : kd X p ≤ 20) : p < X.2 ∧ bD X p = false ∧ bL X p = true ∧ kd X p = wk (wb X p (enL X p)) := by
  have hp : p < X.2 := ky_lt (by omega)
  have h1 : ¬ bD X p = true := fun w => by rw [(ky_21 hp).mpr w] at h; omega
  have e : kd X p = if bL X p then wk (wb X p (enL X p)) else if twP X p then (if X.1 p = 60 then 27 else 29) else sk (X.1 p) := by
    unfold kd
    rw [if_neg (Nat.not_le.mpr hp), if_neg h1]
  have h2 : bL X p = true := by
    by_cases h2 : bL X p = true
    · exact h2
    · rw [if_neg h2] at e
      by_cases h3 : twP X p = true
      · rw [if_pos h3] at e
        by_cases h4 : X.1 p = 60
        · rw [if_pos h4] at e; omega
        · rw [if_neg h4] at e; omega
      · rw [if_neg h3] at e
        have := (sk_ne (X.1 p)).2.2
        omega
  rw [if_pos h2] at e
  exact ⟨hp, by simpa using h1, h2, e⟩
/-- the tokens one by one -/
def pj (X : Tx) : Nat → Nat
  | 0 => sp X 0
  | j + 1 => nx X (pj X j)
theorem pj_ge (X : Tx) : ∀ j, j ≤ pj X j := by
  intro j
  induction j with
  | zero => exact Nat.zero_le _
  | succ j ih =>
    have := nx_gt X (pj X j)
    show j + 1 ≤ nx X (pj X j)
    omega
theorem pj_sp (X : Tx) : ∀ j, sp X (pj X j) = pj X j := by
  intro j
  cases j with
  | zero => exact sp_sp X 0
  | succ j => exact nx_sp X _
