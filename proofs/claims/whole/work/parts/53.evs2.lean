/-! an event more -/
theorem RC_ev {t : Nat} {δ δ' : Dm} {T : Tw} {G' : Nat → Nat} {x : Ev} (h : RC t δ T) (hG : ∀ i, dom i → gI δ' (t + cr i) (cs i) = nI (G' i))
    (hf : ∀ o j, 6 ≤ o → o < 25 → o ≠ 16 → ¬ (o < 13 ∧ j = ((tE T).filter isS).length) → ¬ (13 ≤ o ∧ o < 16 ∧ j = (tE T).length) → gI δ' (t + o) j = gI δ (t + o) j)
    (h5 : gI δ' (t + 5) 2 = nI ((tE T).length + 1)) (h13 : gI δ' (t + 13) (tE T).length = nI (x 1)) (h14 : gI δ' (t + 14) (tE T).length = nI (x 2)) (h15 : gI δ' (t + 15) (tE T).length = evw (tE T) x)
    (hS : isS x = true → gI δ' (t + 6) ((tE T).filter isS).length = nI (x 1) ∧ gI δ' (t + 7) ((tE T).filter isS).length = nI (x 2) ∧ gI δ' (t + 8) ((tE T).filter isS).length = nI (x 5) ∧ gI δ' (t + 9) ((tE T).filter isS).length = nI (x 3) ∧ gI δ' (t + 10) ((tE T).filter isS).length = nI (x 4) ∧ gI δ' (t + 11) ((tE T).filter isS).length = nI (x 6) ∧ gI δ' (t + 12) ((tE T).filter isS).length = nI (x 7)) :
    RC t δ' (G', tE T ++ [x], tR T, tC T) := by
  obtain ⟨h1, h2, h3, h4, h5', h6⟩ := h
  refine ⟨hG, fun s y hy => ?_, ?_, fun e y hy => ?_, fun i y hy j hj => ?_, fun i y hy j hj => ?_⟩
  · have hy : ((tE T ++ [x]).filter isS)[s]? = some y := hy
    rw [List.filter_append] at hy
    by_cases q : isS x = true
    · rw [show [x].filter isS = [x] by simp [q]] at hy
      rcases app_at hy with ⟨q1, q2⟩ | ⟨q1, q2⟩
      · rw [hf 6 s (by decide) (by decide) (by decide) (by omega) (by omega), hf 7 s (by decide) (by decide) (by decide) (by omega) (by omega), hf 8 s (by decide) (by decide) (by decide) (by omega) (by omega), hf 9 s (by decide) (by decide) (by decide) (by omega) (by omega), hf 10 s (by decide) (by decide) (by decide) (by omega) (by omega), hf 11 s (by decide) (by decide) (by decide) (by omega) (by omega), hf 12 s (by decide) (by decide) (by decide) (by omega) (by omega)]
        exact h2 s y q2
      · rw [q1, q2]; exact hS q
    · rw [show [x].filter isS = [] by simp [q], List.append_nil] at hy
      have q1 := idx_lt hy
      rw [hf 6 s (by decide) (by decide) (by decide) (by omega) (by omega), hf 7 s (by decide) (by decide) (by decide) (by omega) (by omega), hf 8 s (by decide) (by decide) (by decide) (by omega) (by omega), hf 9 s (by decide) (by decide) (by decide) (by omega) (by omega), hf 10 s (by decide) (by decide) (by decide) (by omega) (by omega), hf 11 s (by decide) (by decide) (by decide) (by omega) (by omega), hf 12 s (by decide) (by decide) (by decide) (by omega) (by omega)]
      exact h2 s y hy
  · show gI δ' (t + 5) 2 = nI (tE T ++ [x]).length
    rw [List.length_append]; exact h5
  · show gI δ' (t + 13) e = nI (y 1) ∧ gI δ' (t + 14) e = nI (y 2) ∧ gI δ' (t + 15) e = evw ((tE T ++ [x]).take e) y
    rcases app_at hy with ⟨q1, q2⟩ | ⟨q1, q2⟩
    · rw [hf 13 e (by decide) (by decide) (by decide) (by omega) (by omega), hf 14 e (by decide) (by decide) (by decide) (by omega) (by omega), hf 15 e (by decide) (by decide) (by decide) (by omega) (by omega), List.take_append_of_le_length (by omega)]
      exact h4 e y q2
    · rw [q1, q2, List.take_left]; exact ⟨h13, h14, h15⟩
  · rw [Nat.add_assoc, hf (17 + j) i (by omega) (by omega) (by omega) (by omega) (by omega), ← Nat.add_assoc]; exact h5' i y hy j hj
  · rw [Nat.add_assoc, hf (22 + j) i (by omega) (by omega) (by omega) (by omega) (by omega), ← Nat.add_assoc]; exact h6 i y hy j hj
/-- the reference's: a strip or a change -/
theorem RM_ev {k : Nat} {δ δ' : Dm} {T : Tw} {G' : Nat → Nat} {x : Ev} (h : RM 152 0 δ T) (hk : k = ((tE T).filter isV).length) (hk2 : k < 500) (hr : (tR T).length ≤ 100) (hc : (tC T).length ≤ 100) (hx : isV x = true) (hG : ∀ i, dom i ∨ (726 ≤ i ∧ i < 3926) → gI δ' 152 i = nI (G' i)) (h7 : gI δ' 152 7 = nI (k + 1)) (he : ∀ j, j < 8 → gI δ' 152 (3926 + 8 * k + j) = nI (x j)) (hf : ∀ j, 3926 ≤ j → j < 8726 → ¬ (3926 + 8 * k ≤ j ∧ j < 3926 + 8 * k + 8) → gI δ' 152 j = gI δ 152 j) : RM 152 0 δ' (G', tE T ++ [x], tR T, tC T) := by
  obtain ⟨h1, h2, h3, h4, h5⟩ := h
  simp only [Nat.zero_add] at h1 h2 h3 h4 h5
  have e : (tE T ++ [x]).filter isV = (tE T).filter isV ++ [x] := by rw [List.filter_append]; simp [hx]
  refine ⟨fun i hi => ?_, ?_, fun e' y hy j hj => ?_, fun i y hy j hj => ?_, fun i y hy j hj => ?_⟩ <;> rw [Nat.zero_add]
  · exact hG i hi
  · show gI δ' 152 7 = nI ((tE T ++ [x]).filter isV).length
    rw [e, List.length_append, ← hk]; exact h7
  · have hy : ((tE T ++ [x]).filter isV)[e']? = some y := hy
    rw [e] at hy
    rcases app_at hy with ⟨q1, q2⟩ | ⟨q1, q2⟩
    · rw [hf _ (by omega) (by omega) (by omega)]; exact h3 e' y q2 j hj
    · rw [q1, ← hk, q2]; exact he j hj
  · have := idx_lt hy
    have : i < (tR T).length := this
    rw [hf _ (by omega) (by omega) (by omega)]; exact h4 i y hy j hj
  · have := idx_lt hy
    have : i < (tC T).length := this
    rw [hf _ (by omega) (by omega) (by omega)]; exact h5 i y hy j hj
/-- the reference keeps no emptyings -/
theorem RM_ex {δ : Dm} {T : Tw} {x : Ev} (h : RM 152 0 δ T) (hx : isV x = false) : RM 152 0 δ (T.1, tE T ++ [x], tR T, tC T) := by
  obtain ⟨h1, h2, h3, h4, h5⟩ := h
  have e : (tE T ++ [x]).filter isV = (tE T).filter isV := by rw [List.filter_append]; simp [hx]
  refine ⟨h1, ?_, fun e' y hy j hj => ?_, h4, h5⟩
  · show gI δ 152 (0 + 7) = nI ((tE T ++ [x]).filter isV).length
    rw [e]; exact h2
  · have hy : ((tE T ++ [x]).filter isV)[e']? = some y := hy
    rw [e] at hy
    exact h3 e' y hy j hj
/-- the class's diary -/
theorem addEv_eq {k : Nat} {δ : Dm} {a1 a2 a3 : Int32} (h : gI δ 34 2 = nI k) (hk : k < 900) : f_Di_addEvent a1 a2 a3 δ = some (sI (sI (sI (sI δ 42 k a1) 43 k a2) 44 k a3) 34 2 (nI (k + 1))) := by
  unfold f_Di_addEvent bnd
  rw [h, if_neg (show ¬ (900 : Int32) ≤ nI k from nI_ge hk (by decide)), put_in (show (KD 42).2 = 900 by decide) hk]
  simp only [Option.bind, gsr (show (34 : Nat) ≠ 42 by decide)]
  rw [h, put_in (show (KD 43).2 = 900 by decide) hk]
  simp only [Option.bind, gsr (show (34 : Nat) ≠ 42 by decide), gsr (show (34 : Nat) ≠ 43 by decide)]
  rw [h, put_in (show (KD 44).2 = 900 by decide) hk]
  simp only [Option.bind, gsr (show (34 : Nat) ≠ 42 by decide), gsr (show (34 : Nat) ≠ 43 by decide), gsr (show (34 : Nat) ≠ 44 by decide)]
  rw [h, nI_1]
