/-! the lists grow -/
theorem SC_T {δ δ' : Dm} {n : Nat} {S : St} {T : Tw} (h : RepC δ n S) (hl : (sJ S).length ≤ 8) (hT : RC 29 δ' T) (hk : ∀ b j, (b < 29 ∨ 86 ≤ b) → gI δ' b j = gI δ b j) : RepC δ' n (T, S.2) := by
  obtain ⟨h1, h2, h3, h4, h5, h6, h7, h8⟩ := h
  refine ⟨hT, by rw [hk 4 3 (by omega)]; exact h2, fun i L hi => LC_keep (h3 i L hi) (fun o j ho => hk _ _ (by omega)), by rw [hk 4 1 (by omega)]; exact h4, fun j hj => by rw [hk 5 j (by omega)]; exact h5 j hj, h6, fun j q hq => ?_, fun k hk4 hn => by rw [hk 86 k (by omega)]; exact h8 k hk4 hn⟩
  obtain ⟨a1, a2⟩ := h7 j q hq
  exact ⟨by rw [hk 86 _ (by omega)]; exact a1, RC_keep a2 (fun o j ho => hk _ _ (by omega))⟩
theorem SM_T {δ δ' : Dm} {S : St} {T : Tw} (h : RepM δ S) (hT : RM 152 0 δ' T) (hk : ∀ b j, b ≠ 152 → gI δ' b j = gI δ b j) : RepM δ' (T, S.2) := by
  obtain ⟨h1, h2, h3, h4, h5, h6, h7⟩ := h
  exact ⟨hT, by rw [hk 151 3 (by omega)]; exact h2, fun i L q => LM_keep2 (h3 i L q) (fun b j a c => hk _ _ (by omega)), by rw [hk 151 2 (by omega)]; exact h4, fun j q => by rw [hk 153 j (by omega)]; exact h5 j q, fun q hq => RM_row (h6 q hq) (fun j => hk _ _ (by omega)), fun k q => by rw [hk 167 k (by omega)]; exact h7 k q⟩
theorem app_at {l : List Ev} {x y : Ev} {k : Nat} (h : (l ++ [x])[k]? = some y) : (k < l.length ∧ l[k]? = some y) ∨ (k = l.length ∧ y = x) := by
  rcases Nat.lt_trichotomy k l.length with q | q | q
  · left; rw [List.getElem?_append_left q] at h; exact ⟨q, h⟩
  · right
    rw [List.getElem?_append_right (by omega), q, Nat.sub_self] at h
    exact ⟨q, by simpa using h.symm⟩
  · rw [List.getElem?_eq_none (by simp; omega)] at h; cases h
/-- a reading more -/
theorem RC_rd {t k : Nat} {δ δ' : Dm} {T : Tw} {x : Ev} (h : RC t δ T) (hk : k = (tR T).length) (hf : ∀ o j, o < 57 → ¬ (o = 16 ∧ j = 0) → ¬ (17 ≤ o ∧ o < 22 ∧ j = k) → gI δ' (t + o) j = gI δ (t + o) j) (h0 : gI δ' (t + 16) 0 = nI (k + 1)) (hx : ∀ j, j < 5 → gI δ' (t + 17 + j) k = nI (x j)) : RC t δ' (up T.1 5 (k + 1), tE T, tR T ++ [x], tC T) := by
  obtain ⟨h1, h2, h3, h4, h5, h6⟩ := h
  refine ⟨fun i hi => ?_, fun s y hy => ?_, ?_, fun e y hy => ?_, fun i y hy j hj => ?_, fun i y hy j hj => ?_⟩
  · show gI δ' (t + cr i) (cs i) = nI (up T.1 5 (k + 1) i)
    obtain ⟨a1, a2, a3, a4, a5, a6⟩ := ci_at i hi
    by_cases q : i = 5
    · subst q; rw [up_s]; exact h0
    · rw [up_n q, hf _ _ a2 (fun z => q ?_) (fun z => by omega)]
      · exact h1 i hi
      · rw [← a1, z.1, z.2]; rfl
  · rw [hf 6 s (by decide) (by omega) (by omega), hf 7 s (by decide) (by omega) (by omega), hf 8 s (by decide) (by omega) (by omega), hf 9 s (by decide) (by omega) (by omega), hf 10 s (by decide) (by omega) (by omega), hf 11 s (by decide) (by omega) (by omega), hf 12 s (by decide) (by omega) (by omega)]; exact h2 s y hy
  · rw [hf 5 2 (by decide) (by omega) (by omega)]; exact h3
  · rw [hf 13 e (by decide) (by omega) (by omega), hf 14 e (by decide) (by omega) (by omega), hf 15 e (by decide) (by omega) (by omega)]; exact h4 e y hy
  · rcases app_at hy with ⟨q1, q2⟩ | ⟨q1, q2⟩
    · rw [Nat.add_assoc, hf (17 + j) i (by omega) (by omega) (by omega), ← Nat.add_assoc]; exact h5 i y q2 j hj
    · rw [q1, ← hk, q2]; exact hx j hj
  · rw [Nat.add_assoc, hf (22 + j) i (by omega) (by omega) (by omega), ← Nat.add_assoc]; exact h6 i y hy j hj
theorem RM_rd {k : Nat} {δ δ' : Dm} {T : Tw} {x : Ev} (h : RM 152 0 δ T) (hk : k = (tR T).length) (hk2 : k < 100) (hv : ((tE T).filter isV).length ≤ 500) (hc : (tC T).length ≤ 100) (hf : ∀ j, j ≠ 5 → ¬ (7926 + 5 * k ≤ j ∧ j < 7926 + 5 * k + 5) → gI δ' 152 j = gI δ 152 j) (h0 : gI δ' 152 5 = nI (k + 1)) (hx : ∀ j, j < 5 → gI δ' 152 (7926 + 5 * k + j) = nI (x j)) : RM 152 0 δ' (up T.1 5 (k + 1), tE T, tR T ++ [x], tC T) := by
  obtain ⟨h1, h2, h3, h4, h5⟩ := h
  simp only [Nat.zero_add] at h1 h2 h3 h4 h5
  refine ⟨fun i hi => ?_, ?_, fun e y hy j hj => ?_, fun i y hy j hj => ?_, fun i y hy j hj => ?_⟩ <;> rw [Nat.zero_add]
  · show gI δ' 152 i = nI (up T.1 5 (k + 1) i)
    by_cases q : i = 5
    · subst q; rw [up_s]; exact h0
    · rw [up_n q, hf _ q (by unfold dom at hi; omega)]; exact h1 i hi
  · rw [hf 7 (by decide) (by omega)]; exact h2
  · have := idx_lt hy
    have : e < ((tE T).filter isV).length := this
    rw [hf _ (by omega) (by omega)]; exact h3 e y hy j hj
  · rcases app_at hy with ⟨q1, q2⟩ | ⟨q1, q2⟩
    · rw [hf _ (by omega) (by omega)]; exact h4 i y q2 j hj
    · rw [q1, ← hk, q2]; exact hx j hj
  · have := idx_lt hy
    have : i < (tC T).length := this
    rw [hf _ (by omega) (by omega)]; exact h5 i y hy j hj
/-- a claim more -/
theorem RC_cl {t k : Nat} {δ δ' : Dm} {T : Tw} {x : Ev} (h : RC t δ T) (hk : k = (tC T).length) (hf : ∀ o j, o < 57 → ¬ (o = 16 ∧ j = 1) → ¬ (22 ≤ o ∧ o < 25 ∧ j = k) → gI δ' (t + o) j = gI δ (t + o) j) (h0 : gI δ' (t + 16) 1 = nI (k + 1)) (hx : ∀ j, j < 3 → gI δ' (t + 22 + j) k = nI (x j)) : RC t δ' (up T.1 6 (k + 1), tE T, tR T, tC T ++ [x]) := by
  obtain ⟨h1, h2, h3, h4, h5, h6⟩ := h
  refine ⟨fun i hi => ?_, fun s y hy => ?_, ?_, fun e y hy => ?_, fun i y hy j hj => ?_, fun i y hy j hj => ?_⟩
  · show gI δ' (t + cr i) (cs i) = nI (up T.1 6 (k + 1) i)
    obtain ⟨a1, a2, a3, a4, a5, a6⟩ := ci_at i hi
    by_cases q : i = 6
    · subst q; rw [up_s]; exact h0
    · rw [up_n q, hf _ _ a2 (fun z => q ?_) (fun z => by omega)]
      · exact h1 i hi
      · rw [← a1, z.1, z.2]; rfl
  · rw [hf 6 s (by decide) (by omega) (by omega), hf 7 s (by decide) (by omega) (by omega), hf 8 s (by decide) (by omega) (by omega), hf 9 s (by decide) (by omega) (by omega), hf 10 s (by decide) (by omega) (by omega), hf 11 s (by decide) (by omega) (by omega), hf 12 s (by decide) (by omega) (by omega)]; exact h2 s y hy
  · rw [hf 5 2 (by decide) (by omega) (by omega)]; exact h3
  · rw [hf 13 e (by decide) (by omega) (by omega), hf 14 e (by decide) (by omega) (by omega), hf 15 e (by decide) (by omega) (by omega)]; exact h4 e y hy
  · rw [Nat.add_assoc, hf (17 + j) i (by omega) (by omega) (by omega), ← Nat.add_assoc]; exact h5 i y hy j hj
  · rcases app_at hy with ⟨q1, q2⟩ | ⟨q1, q2⟩
    · rw [Nat.add_assoc, hf (22 + j) i (by omega) (by omega) (by omega), ← Nat.add_assoc]; exact h6 i y q2 j hj
    · rw [q1, ← hk, q2]; exact hx j hj
theorem RM_cl {k : Nat} {δ δ' : Dm} {T : Tw} {x : Ev} (h : RM 152 0 δ T) (hk : k = (tC T).length) (hk2 : k < 100) (hv : ((tE T).filter isV).length ≤ 500) (hr : (tR T).length ≤ 100) (hf : ∀ j, j ≠ 6 → ¬ (8426 + 3 * k ≤ j ∧ j < 8426 + 3 * k + 3) → gI δ' 152 j = gI δ 152 j) (h0 : gI δ' 152 6 = nI (k + 1)) (hx : ∀ j, j < 3 → gI δ' 152 (8426 + 3 * k + j) = nI (x j)) : RM 152 0 δ' (up T.1 6 (k + 1), tE T, tR T, tC T ++ [x]) := by
  obtain ⟨h1, h2, h3, h4, h5⟩ := h
  simp only [Nat.zero_add] at h1 h2 h3 h4 h5
  refine ⟨fun i hi => ?_, ?_, fun e y hy j hj => ?_, fun i y hy j hj => ?_, fun i y hy j hj => ?_⟩ <;> rw [Nat.zero_add]
  · show gI δ' 152 i = nI (up T.1 6 (k + 1) i)
    by_cases q : i = 6
    · subst q; rw [up_s]; exact h0
    · rw [up_n q, hf _ q (by unfold dom at hi; omega)]; exact h1 i hi
  · rw [hf 7 (by decide) (by omega)]; exact h2
  · have := idx_lt hy
    have : e < ((tE T).filter isV).length := this
    rw [hf _ (by omega) (by omega)]; exact h3 e y hy j hj
  · have := idx_lt hy
    have : i < (tR T).length := this
    rw [hf _ (by omega) (by omega)]; exact h4 i y hy j hj
  · rcases app_at hy with ⟨q1, q2⟩ | ⟨q1, q2⟩
    · rw [hf _ (by omega) (by omega)]; exact h5 i y q2 j hj
    · rw [q1, ← hk, q2]; exact hx j hj
