/-! a row of code run, by both -/
theorem bndE {α β : Type} {x : α} {f : α → β} : bnd x f = f x := by
  have h : ∀ y, y = x → bnd y f = f x := fun y h => by rw [h, bnd]
  exact h x rfl
def Stk (m : Nat) (δ : Dm) : List Int64 → Prop
  | [] => True
  | x :: r => gL δ m r.length = x ∧ Stk m δ r
theorem Stk_s {m k : Nat} {δ : Dm} {v : Int64} : ∀ {s : List Int64}, Stk m δ s → s.length ≤ k → Stk m (sL δ m k v) s := by
  intro s
  induction s with
  | nil => intro _ _; trivial
  | cons x r ih =>
    intro h hk
    simp only [List.length_cons] at hk
    exact ⟨by rw [gLL, if_neg (by omega)]; exact h.1, ih h.2 (by omega)⟩
theorem Stk_i {m b j : Nat} {δ : Dm} {v : Int32} : ∀ {s : List Int64}, Stk m δ s → Stk m (sI δ b j v) s := by
  intro s
  induction s with
  | nil => intro _; trivial
  | cons x r ih => intro h; exact ⟨h.1, ih h.2⟩
theorem push_eq {d : Nat} {v : Int64} {δ : Dm} (h : d < 60) : f_Fa_push (nI d) v δ = some (nI (d + 1), sL δ 21 d v) := by
  simp only [f_Fa_push, bnd]
  rw [if_neg (nI_pos (by omega)), if_pos (show nI d < (60 : Int32) from nI_lt h (by decide)), if_pos (inb_i h (by decide)), ixN (by omega), nI_1]
theorem mean_eq {k : Nat} {δ : Dm} (h : k < 9) : f_Fa_meaning (nI k) δ = some (gL δ 20 k) := by
  simp only [f_Fa_meaning]
  rw [if_neg (nI_pos (by omega)), if_neg (show ¬ (9 : Int32) ≤ nI k from nI_ge h (by decide)), if_pos (inb_i h (by decide)), ixN (by omega)]
theorem flip_eq {d : Nat} {δ : Dm} (h : d < 60) : f_Fa_flip (nI (d + 1)) δ = some (sL δ 21 d (1 - gL δ 21 d)) := by
  simp only [f_Fa_flip, bnd]
  rw [if_neg (show ¬ nI (d + 1) < (1 : Int32) from nI_nlt (b := 1) (by omega) (by omega)), if_neg (show ¬ (60 : Int32) < nI (d + 1) from nI_nlt (a := 60) (by omega) (by decide)), nI_pred, if_pos (inb_i h (by decide)), if_pos (inb_i h (by decide)), ixN (by omega)]
theorem result_eq {d : Nat} {δ : Dm} (h : d < 60) : f_Fa_result (nI (d + 1)) δ = some (gL δ 21 d) := by
  simp only [f_Fa_result]
  rw [if_neg (show ¬ nI (d + 1) < (1 : Int32) from nI_nlt (b := 1) (by omega) (by omega)), if_neg (show ¬ (60 : Int32) < nI (d + 1) from nI_nlt (a := 60) (by omega) (by decide)), nI_pred, if_pos (inb_i h (by decide)), ixN (by omega)]
/-- the ops with two values -/
def op2 (o : Int32) : Prop := o = -20 ∨ o = -19 ∨ o = -23 ∨ o = -24 ∨ o = -25 ∨ o = -26 ∨ o = -27 ∨ o = -28 ∨ o = -29 ∨ o = -30 ∨ o = -31
theorem cmp_ge {x y : Int64} : (0 ≤ lg_cmp x y) = ¬ x < y := propext ⟨fun h q => Int32.not_le.mpr (cmp_lt.mpr q) h, fun h => Int32.not_lt.mp (fun q => h (cmp_lt.mp q))⟩
theorem cmp_le {x y : Int64} : (lg_cmp x y ≤ 0) = ¬ y < x := propext ⟨fun h q => Int32.not_le.mpr (cmp_gt.mpr q) h, fun h => Int32.not_lt.mp (fun q => h (cmp_gt.mp q))⟩
theorem ite_n {α : Type} {p : Prop} [Decidable p] {A B : α} : (if ¬ p then A else B) = if p then B else A := by
  by_cases h : p <;> simp [h]
theorem c_lt {x y : Int64} {α : Type} {A B : α} : (if 0 ≤ lg_cmp x y then A else B) = if x < y then B else A := by
  by_cases h : x < y
  · rw [if_pos h, if_neg (by rw [cmp_ge]; exact fun z => z h)]
  · rw [if_neg h, if_pos (by rw [cmp_ge]; exact h)]
theorem c_le {x y : Int64} {α : Type} {A B : α} : (if 0 < lg_cmp x y then A else B) = if x ≤ y then B else A := by
  by_cases h : x ≤ y
  · rw [if_pos h, if_neg (fun z => Int64.not_le.mpr (cmp_gt.mp z) h)]
  · rw [if_neg h, if_pos (cmp_gt.mpr (Int64.not_le.mp h))]
theorem c_eq {x y : Int64} {α : Type} {A B : α} : (if lg_cmp x y = 0 then A else B) = if x = y then A else B := by
  by_cases h : x = y
  · rw [if_pos h, if_pos (cmp_eq.mpr h)]
  · rw [if_neg h, if_neg (fun z => h (cmp_eq.mp z))]
theorem c_ge {x y : Int64} {α : Type} {A B : α} : (if lg_cmp x y < 0 then A else B) = if y ≤ x then B else A := by
  by_cases h : x < y
  · rw [if_pos (cmp_lt.mpr h), if_neg (Int64.not_le.mpr h)]
  · rw [if_neg (fun z => h (cmp_lt.mp z)), if_pos (Int64.not_lt.mp h)]
theorem c_gt {x y : Int64} {α : Type} {A B : α} : (if lg_cmp x y ≤ 0 then A else B) = if y < x then B else A := by
  by_cases h : y < x
  · rw [if_pos h, if_neg (by rw [cmp_le]; exact fun z => z h)]
  · rw [if_neg h, if_pos (by rw [cmp_le]; exact h)]
theorem if_some {α β : Type} {p : Prop} [Decidable p] {f : α → β} {a b : α} : (if p then f a else f b) = f (if p then a else b) := by
  by_cases h : p
  · rw [if_pos h, if_pos h]
  · rw [if_neg h, if_neg h]
theorem join_254 {m : Nat} {a2 : Int32} {x y v : Int64} {δ : Dm} (h : m + 2 ≤ 60) : jp_Fa_join_254 (nI (m + 2)) a2 x y δ v = some (nI (m + 1), sL δ 21 m v) := by
  simp only [jp_Fa_join_254, bnd]
  rw [show nI (m + 2) - 2 = nI m from pk_sub (a := m + 2) (b := 2) (by omega), show nI (m + 2) - 1 = nI (m + 1) from nI_pred (m + 1), if_pos (inb_i (by omega) (by decide)), ixN (by omega)]
theorem bop_23 {x y : Int64} : bop (-23) x y = (x + y) := by
  unfold bop
  rw [if_pos rfl]
theorem bop_24 {x y : Int64} : bop (-24) x y = (x - y) := by
  unfold bop
  rw [if_neg (by decide), if_pos rfl]
theorem bop_25 {x y : Int64} : bop (-25) x y = (x * y) := by
  unfold bop
  rw [if_neg (by decide), if_neg (by decide), if_pos rfl]
theorem bop_26 {x y : Int64} : bop (-26) x y = (if y = 0 then 0 else x / y) := by
  unfold bop
  rw [if_neg (by decide), if_neg (by decide), if_neg (by decide), if_pos rfl]
theorem bop_27 {x y : Int64} : bop (-27) x y = (if x < y then 1 else 0) := by
  unfold bop
  rw [if_neg (by decide), if_neg (by decide), if_neg (by decide), if_neg (by decide), if_pos rfl]
theorem bop_28 {x y : Int64} : bop (-28) x y = (if x ≤ y then 1 else 0) := by
  unfold bop
  rw [if_neg (by decide), if_neg (by decide), if_neg (by decide), if_neg (by decide), if_neg (by decide), if_pos rfl]
theorem bop_29 {x y : Int64} : bop (-29) x y = (if x = y then 1 else 0) := by
  unfold bop
  rw [if_neg (by decide), if_neg (by decide), if_neg (by decide), if_neg (by decide), if_neg (by decide), if_neg (by decide), if_pos rfl]
theorem bop_30 {x y : Int64} : bop (-30) x y = (if y ≤ x then 1 else 0) := by
  unfold bop
  rw [if_neg (by decide), if_neg (by decide), if_neg (by decide), if_neg (by decide), if_neg (by decide), if_neg (by decide), if_neg (by decide), if_pos rfl]
theorem bop_31 {x y : Int64} : bop (-31) x y = (if y < x then 1 else 0) := by
  unfold bop
  rw [if_neg (by decide), if_neg (by decide), if_neg (by decide), if_neg (by decide), if_neg (by decide), if_neg (by decide), if_neg (by decide), if_neg (by decide), if_pos rfl]
theorem bop_20 {x y : Int64} : bop (-20) x y = (x &&& y) := by
  unfold bop
  rw [if_neg (by decide), if_neg (by decide), if_neg (by decide), if_neg (by decide), if_neg (by decide), if_neg (by decide), if_neg (by decide), if_neg (by decide), if_neg (by decide), if_pos rfl]
theorem bop_19 {x y : Int64} : bop (-19) x y = (x ||| y) := by
  unfold bop
  rw [if_neg (by decide), if_neg (by decide), if_neg (by decide), if_neg (by decide), if_neg (by decide), if_neg (by decide), if_neg (by decide), if_neg (by decide), if_neg (by decide), if_neg (by decide)]
theorem evs_nil {w : Nat → Int64} {s : List Int64} : evs w [] s = s := by
  unfold evs; rw [List.foldl_nil]
theorem evs_cons {w : Nat → Int64} {s : List Int64} {o : Int32} {l : List Int32} : evs w (o :: l) s = evs w l (st1 w s o) := by
  unfold evs; rw [List.foldl_cons]
theorem join_eq {m : Nat} {o : Int32} {δ : Dm} (h : m + 2 ≤ 60) (ho : op2 o) : f_Fa_join (nI (m + 2)) (-1 - o) δ = some (nI (m + 1), sL δ 21 m (bop o (gL δ 21 m) (gL δ 21 (m + 1)))) := by
  have e1 : nI (m + 2) - 2 = nI m := pk_sub (a := m + 2) (b := 2) (by omega)
  have e2 : nI (m + 2) - 1 = nI (m + 1) := nI_pred (m + 1)
  unfold f_Fa_join
  simp only [bndE]
  rw [if_neg (show ¬ nI (m + 2) < (2 : Int32) from nI_nlt (b := 2) (by omega) (by omega)), if_pos (show nI (m + 2) ≤ (60 : Int32) from nI_le (b := 60) h (by decide)), e1, e2, if_pos (inb_i (by omega) (by decide)), if_pos (inb_i (by omega) (by decide)), ixN (by omega), ixN (by omega)]
  rcases ho with rfl | rfl | rfl | rfl | rfl | rfl | rfl | rfl | rfl | rfl | rfl
  · rw [if_neg (by decide), if_pos (by decide), join_254 h, bop_20]
  · rw [if_pos (by decide), join_254 h, bop_19]
  · rw [if_neg (by decide), if_neg (by decide), if_neg (by decide), if_neg (by decide), if_pos (by decide), join_254 h, bop_23]
  · rw [if_neg (by decide), if_neg (by decide), if_neg (by decide), if_neg (by decide), if_neg (by decide), if_pos (by decide), join_254 h, bop_24]
  · rw [if_neg (by decide), if_neg (by decide), if_neg (by decide), if_neg (by decide), if_neg (by decide), if_neg (by decide), if_pos (by decide), join_254 h, bop_25]
  · rw [if_neg (by decide), if_neg (by decide), if_neg (by decide), if_neg (by decide), if_neg (by decide), if_neg (by decide), if_neg (by decide), if_pos (by decide), c_eq, bop_26]
    unfold jp_Fa_join_146
    rw [join_254 h, join_254 h]
    by_cases q : gL δ 21 (m + 1) = 0
    · rw [if_pos q, if_pos q]
    · rw [if_neg q, if_neg q, if_neg q]
  · rw [if_neg (by decide), if_neg (by decide), if_neg (by decide), if_neg (by decide), if_neg (by decide), if_neg (by decide), if_neg (by decide), if_neg (by decide), if_pos (by decide), c_lt, bop_27]
    unfold jp_Fa_join_163
    rw [join_254 h, join_254 h]
    split <;> rfl
  · rw [if_neg (by decide), if_neg (by decide), if_neg (by decide), if_neg (by decide), if_neg (by decide), if_neg (by decide), if_neg (by decide), if_neg (by decide), if_neg (by decide), if_pos (by decide), c_le, bop_28]
    unfold jp_Fa_join_180
    rw [join_254 h, join_254 h]
    split <;> rfl
  · rw [if_neg (by decide), if_neg (by decide), if_neg (by decide), if_neg (by decide), if_neg (by decide), if_neg (by decide), if_neg (by decide), if_neg (by decide), if_neg (by decide), if_neg (by decide), if_pos (by decide), c_eq, bop_29]
    unfold jp_Fa_join_197
    rw [join_254 h, join_254 h]
    split <;> rfl
  · rw [if_neg (by decide), if_neg (by decide), if_neg (by decide), if_neg (by decide), if_neg (by decide), if_neg (by decide), if_neg (by decide), if_neg (by decide), if_neg (by decide), if_neg (by decide), if_neg (by decide), if_pos (by decide), c_ge, bop_30]
    unfold jp_Fa_join_214
    rw [join_254 h, join_254 h]
    split <;> rfl
  · rw [if_neg (by decide), if_neg (by decide), if_neg (by decide), if_neg (by decide), if_neg (by decide), if_neg (by decide), if_neg (by decide), if_neg (by decide), if_neg (by decide), if_neg (by decide), if_neg (by decide), if_neg (by decide), if_pos (by decide), c_gt, bop_31]
    unfold jp_Fa_join_231
    rw [join_254 h, join_254 h]
    split <;> rfl
theorem opk_c {o : Int32} (h : opk o) : (∃ k, k ≤ 99999 ∧ o = nI k) ∨ (∃ k, k < 9 ∧ -1 - o = nI k ∧ o < 0 ∧ -10 < o) ∨ o = -21 ∨ op2 o := by
  rcases h with h | h | h | h | h | h
  · obtain ⟨k, -, hk, rfl⟩ := low_i (l := 0) (n := 99999) (by decide) h (by decide)
    exact Or.inl ⟨k, hk, rfl⟩
  · right; left
    have h1 := le32.mp h.1
    have h2 := le32.mp h.2
    have e : (-9 : Int32).toInt = -9 := by decide
    have e' : (-1 : Int32).toInt = -1 := by decide
    have hs : (-1 - o).toInt = -1 - o.toInt := by
      rw [Int32.toInt_sub, e', Int.bmod_eq_of_le (by omega) (by omega)]
    obtain ⟨k, hk, q⟩ := inb_ex (a := -1 - o) (n := 9) (by decide) ⟨by omega, by omega⟩
    exact ⟨k, hk, q, by rw [lt32, show (0 : Int32).toInt = 0 from rfl]; omega, by rw [lt32, show (-10 : Int32).toInt = -10 by decide]; omega⟩
  · exact Or.inr (Or.inr (Or.inl h))
  · exact Or.inr (Or.inr (Or.inr (Or.inl h)))
  · exact Or.inr (Or.inr (Or.inr (Or.inr (Or.inl h))))
  · right; right; right; right; right
    have h1 := le32.mp h.1
    have h2 := le32.mp h.2
    have e : (-31 : Int32).toInt = -31 := by decide
    have e' : (-23 : Int32).toInt = -23 := by decide
    have f : ∀ c : Int32, o.toInt = c.toInt → o = c := fun c q => Int32.toInt_inj.mp q
    rcases (by omega : o.toInt = -23 ∨ o.toInt = -24 ∨ o.toInt = -25 ∨ o.toInt = -26 ∨ o.toInt = -27 ∨ o.toInt = -28 ∨ o.toInt = -29 ∨ o.toInt = -30 ∨ o.toInt = -31) with q | q | q | q | q | q | q | q | q
    · exact Or.inl (f (-23) (by rw [q]; decide))
    · exact Or.inr (Or.inl (f (-24) (by rw [q]; decide)))
    · exact Or.inr (Or.inr (Or.inl (f (-25) (by rw [q]; decide))))
    · exact Or.inr (Or.inr (Or.inr (Or.inl (f (-26) (by rw [q]; decide)))))
    · exact Or.inr (Or.inr (Or.inr (Or.inr (Or.inl (f (-27) (by rw [q]; decide))))))
    · exact Or.inr (Or.inr (Or.inr (Or.inr (Or.inr (Or.inl (f (-28) (by rw [q]; decide)))))))
    · exact Or.inr (Or.inr (Or.inr (Or.inr (Or.inr (Or.inr (Or.inl (f (-29) (by rw [q]; decide))))))))
    · exact Or.inr (Or.inr (Or.inr (Or.inr (Or.inr (Or.inr (Or.inr (Or.inl (f (-30) (by rw [q]; decide)))))))))
    · exact Or.inr (Or.inr (Or.inr (Or.inr (Or.inr (Or.inr (Or.inr (Or.inr (f (-31) (by rw [q]; decide)))))))))
theorem op2_f {o : Int32} (h : op2 o) : o < 0 ∧ ¬ -10 < o ∧ ¬ 0 ≤ o ∧ o ≠ -21 ∧ (8 : Int32) < -1 - o ∧ ¬ -1 - o = 20 := by
  rcases h with rfl | rfl | rfl | rfl | rfl | rfl | rfl | rfl | rfl | rfl | rfl <;> decide
/-- one step of the class -/
theorem stepC {w : Nat → Int64} {o : Int32} {s : List Int64} {e : Nat} {δ : Dm} (K : Int32 → Dm → Option (Int64 × Dm)) (hd : dpt o s.length e) (he : e ≤ 60) (hl : s.length ≤ 60) (hs : Stk 21 δ s) (hw : ∀ k, k < 9 → gL δ 20 k = w k) :
    ∃ δ1, δ1.1 = δ.1 ∧ (∀ k, gL δ1 20 k = gL δ 20 k) ∧ Stk 21 δ1 (st1 w s o) ∧ (st1 w s o).length = e ∧
    (if o < 0 then (if (8 : Int32) < -1 - o then (if -1 - o = (20 : Int32) then ((f_Fa_flip (nI s.length) δ).bind (fun y82 => K (nI s.length) y82)) else ((f_Fa_join (nI s.length) (-1 - o) δ).bind (fun y93 => bnd y93.1 (fun v93 => bnd y93.2 (fun δ_93 => K v93 δ_93))))) else ((f_Fa_meaning (-1 - o) δ).bind (fun y61 => ((f_Fa_push (nI s.length) y61 δ).bind (fun y64 => bnd y64.1 (fun v64 => bnd y64.2 (fun δ_64 => K v64 δ_64))))))) else ((f_Fa_push (nI s.length) o.toInt64 δ).bind (fun y40 => bnd y40.1 (fun v40 => bnd y40.2 (fun δ_40 => K v40 δ_40))))) = K (nI e) δ1 := by
  obtain ⟨hk, hd⟩ := hd
  rcases opk_c hk with ⟨k, hk, rfl⟩ | ⟨k, hk, q, q1, q2⟩ | rfl | q
  · have p1 : -10 < nI k := by
      rw [lt32, nI_toInt (by omega), show (-10 : Int32).toInt = -10 by decide]; omega
    have h1 : e = s.length + 1 := by
      rcases hd with h | h | h
      · exact h.2
      · rw [h.1] at p1; exact absurd p1 (by decide)
      · exact absurd p1 h.1
    subst h1
    refine ⟨sL δ 21 s.length (nI k).toInt64, rfl, fun j => by rw [gLL, if_neg (by omega)], ?_, ?_, ?_⟩
    · unfold st1
      rw [if_pos (nI_pos' (by omega))]
      exact ⟨by rw [gLL, if_pos ⟨rfl, rfl⟩], Stk_s hs (Nat.le_refl _)⟩
    · unfold st1
      rw [if_pos (nI_pos' (by omega))]; rfl
    · rw [if_neg (nI_pos (by omega)), push_eq (by omega)]; rfl
  · have h1 : e = s.length + 1 := by
      rcases hd with h | h | h
      · exact h.2
      · rw [h.1] at q2; exact absurd q2 (by decide)
      · exact absurd q2 h.1
    subst h1
    have e1 : st1 w s o = w k :: s := by
      unfold st1
      rw [if_neg (Int32.not_le.mpr q1), if_pos q2, q, ixN (by omega)]
    rw [e1]
    refine ⟨sL δ 21 s.length (w k), rfl, fun j => by rw [gLL, if_neg (by omega)], ⟨by rw [gLL, if_pos ⟨rfl, rfl⟩], Stk_s hs (Nat.le_refl _)⟩, rfl, ?_⟩
    rw [if_pos q1, q, if_neg (show ¬ (8 : Int32) < nI k from nI_nlt (a := 8) (by omega) (by decide)), mean_eq hk]
    simp only [Option.bind]
    rw [push_eq (by omega), hw k hk]; rfl
  · have h1 : 1 ≤ s.length ∧ e = s.length := by
      rcases hd with h | h | h
      · exact absurd h.1 (by decide)
      · exact h.2
      · exact absurd rfl h.2.1
    obtain ⟨h0, rfl⟩ := h1
    cases s with
    | nil => exact absurd h0 (by decide)
    | cons x r =>
      refine ⟨sL δ 21 r.length (1 - gL δ 21 r.length), rfl, fun j => by rw [gLL, if_neg (by omega)], ?_, rfl, ?_⟩
      · show Stk 21 _ ((1 - x) :: r)
        exact ⟨by rw [gLL, if_pos ⟨rfl, rfl⟩, hs.1], Stk_s hs.2 (Nat.le_refl _)⟩
      · rw [if_pos (by decide), if_pos (by decide), if_pos (by decide)]
        simp only [List.length_cons] at he ⊢
        rw [flip_eq (by omega)]; rfl
  · obtain ⟨f1, f2, f3, f4, f5, f6⟩ := op2_f q
    have h1 : 2 ≤ s.length ∧ e + 1 = s.length := by
      rcases hd with h | h | h
      · exact absurd h.1 f2
      · exact absurd h.1 f4
      · exact h.2.2
    obtain ⟨h0, h1⟩ := h1
    match s, h0, h1, hs, he with
    | x :: y :: r, h0, h1, hs, he =>
      simp only [List.length_cons] at h1
      obtain rfl : e = r.length + 1 := by omega
      have e1 : st1 w (x :: y :: r) o = bop o y x :: r := by
        unfold st1
        rw [if_neg f3, if_neg f2]
        simp only []
        rw [if_neg f4]
      rw [e1]
      obtain ⟨hs1, hs2, hs3⟩ := hs
      simp only [List.length_cons] at hs1
      refine ⟨sL δ 21 r.length (bop o y x), rfl, fun j => by rw [gLL, if_neg (by omega)], ⟨by rw [gLL, if_pos ⟨rfl, rfl⟩], Stk_s hs3 (Nat.le_refl _)⟩, rfl, ?_⟩
      rw [if_pos f1, if_pos f5, if_neg f6]
      simp only [List.length_cons] at hl ⊢
      rw [show r.length + 1 + 1 = r.length + 2 from rfl, join_eq (by omega) q, hs1, hs2]; rfl
/-- a row of code, the class's way -/
theorem runC {t : Nat} {w : Nat → Int64} {kx : Int32 → Int32 → Dm → Option (Int64 × Dm)} {A : Int32} (ht : (KD (t + 7)).2 = 400) : ∀ (l : List Int32) (a d' : Nat) (s : List Int64) (δ : Dm) (f : Nat), l.length < f → a + l.length ≤ 400 → (∀ k o, l[k]? = some o → gI δ (t + 7) (a + k) = o) → (∀ k, k < 9 → gL δ 20 k = w k) → s.length ≤ 60 → Stk 21 δ s → dps 60 l s.length d' →
    ∃ δ', δ'.1 = δ.1 ∧ (∀ k, gL δ' 20 k = gL δ 20 k) ∧ Stk 21 δ' (evs w l s) ∧ (evs w l s).length = d' ∧ lp_La_run_6 kx t A (nI (a + l.length)) f (nI s.length) (nI a) δ = kx (nI d') (nI (a + l.length)) δ' := by
  intro l
  induction l with
  | nil =>
    intro a d' s δ f hf ha hc hw hl hs hd
    obtain ⟨g, rfl⟩ : ∃ g, f = g + 1 := ⟨f - 1, by simp at hf; omega⟩
    have hd : s.length = d' := hd
    rw [evs_nil]
    refine ⟨δ, rfl, fun _ => rfl, hs, hd, ?_⟩
    simp only [lp_La_run_6]
    rw [if_pos (nI_le (show a + ([] : List Int32).length ≤ a from Nat.le_refl _) (by simp at ha; omega)), hd]; rfl
  | cons o l ih =>
    intro a d' s δ f hf ha hc hw hl hs hd
    obtain ⟨g, rfl⟩ : ∃ g, f = g + 1 := ⟨f - 1, by omega⟩
    simp only [List.length_cons] at hf ha
    obtain ⟨e, hd1, he, hd2⟩ := hd
    obtain ⟨δ1, c1, c2, c3, c4, c5⟩ := stepC (fun v δ => lp_La_run_6 kx t A (nI (a + (l.length + 1))) g v (nI a + 1) δ) hd1 he hl hs hw
    rw [← c4] at hd2
    have g1 : ∀ b j, gI δ1 b j = gI δ b j := fun b j => congrFun (congrFun c1 b) j
    obtain ⟨δ2, b1, b2, b3, b4, b5⟩ := ih (a + 1) d' (st1 w s o) δ1 g (by omega) (by omega) (fun k o' hk => by
      rw [g1, show a + 1 + k = a + (k + 1) by omega]; exact hc (k + 1) o' hk) (fun k hk => by rw [c2]; exact hw k hk) (by omega) c3 hd2
    rw [evs_cons]
    refine ⟨δ2, b1.trans c1, fun k => (b2 k).trans (c2 k), b3, b4, ?_⟩
    simp only [lp_La_run_6, List.length_cons]
    have g0 : gI δ (t + 7) a = o := hc 0 o rfl
    rw [if_neg (nI_ge (show a < a + (l.length + 1) by omega) (by omega)), get_in ht (by omega), g0]
    simp only [bndE]
    simp only [bndE] at c5
    rw [Option.bind_some, c5, nI_1, c4.symm]
    rw [show a + (l.length + 1) = a + 1 + l.length by omega]
    exact b5
theorem run_eq {t a : Nat} {w : Nat → Int64} {l : List Int32} {δ : Dm} (ht : (KD (t + 7)).2 = 400) (ha : a + l.length ≤ 400) (hc : ∀ k o, l[k]? = some o → gI δ (t + 7) (a + k) = o) (hw : ∀ k, k < 9 → gL δ 20 k = w k) (hl : l = [] ∨ wfo l) : ∃ δ', δ'.1 = δ.1 ∧ (∀ k, gL δ' 20 k = gL δ 20 k) ∧ f_La_run t (nI a) (nI (a + l.length)) δ = some (evl l w, δ') := by
  rcases hl with rfl | hl
  · refine ⟨δ, rfl, fun _ => rfl, ?_⟩
    unfold f_La_run
    have h1 : 1 < FU := FU_gt (by decide)
    obtain ⟨F, hF⟩ : ∃ F, FU = F + 1 := ⟨FU - 1, by omega⟩
    rw [hF]
    simp only [lp_La_run_6]
    rw [if_pos (nI_le (show a + ([] : List Int32).length ≤ a from Nat.le_refl _) (by simp at ha; omega))]
    rfl
  · obtain ⟨δ', b1, b2, b3, b4, b5⟩ := runC (kx := fun v4_6x v5_6x δ6x => ((f_Fa_result v4_6x δ6x).bind (fun y107 => (some (y107, δ6x))))) (A := nI a) ht l a 1 [] δ FU (FU_gt (by omega)) ha hc hw (by decide) trivial hl
    refine ⟨δ', b1, b2, ?_⟩
    unfold f_La_run
    refine Eq.trans b5 ?_
    rw [show f_Fa_result (nI 1) δ' = some (gL δ' 21 0) from result_eq (d := 0) (by decide)]
    unfold evl
    match hq : evs w l [], b3, b4 with
    | [x], b3, b4 =>
      have : gL δ' 21 0 = x := b3.1
      rw [this]; rfl
