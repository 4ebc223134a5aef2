/-! the state -/
abbrev Ev : Type := Nat → Nat
abbrev Tw : Type := (Nat → Nat) × List Ev × List Ev × List Ev
abbrev tG (T : Tw) : Nat → Nat := T.1
abbrev tE (T : Tw) : List Ev := T.2.1
abbrev tR (T : Tw) : List Ev := T.2.2.1
abbrev tC (T : Tw) : List Ev := T.2.2.2
def up (G : Nat → Nat) (i v : Nat) : Nat → Nat := fun k => if k = i then v else G k
theorem up_s {G : Nat → Nat} {i v : Nat} : up G i v i = v := if_pos rfl
theorem up_n {G : Nat → Nat} {i v k : Nat} (h : k ≠ i) : up G i v k = G k := if_neg h
/-- which cells stand in both, and where they stand in the class -/
def dom (i : Nat) : Prop := i < 7 ∨ (10 ≤ i ∧ i < 566) ∨ (566 ≤ i ∧ i < 726 ∧ (i - 566) % 20 < 12) ∨ (8726 ≤ i ∧ i < 8918)
def bs (w : Nat) : Nat := if w < 3 then w else if w = 6 then 4 else if w = 7 then 5 else if w = 8 then 6 else if w = 9 then 7 else if w = 10 then 3 else 8
def cr (i : Nat) : Nat := if i < 3 then 0 else if i < 5 then 5 else if i < 7 then 16 else if i < 410 then 1 else if i < 422 then 2 else if i < 566 then 3 else if i < 726 then (if 3 ≤ (i - 566) % 20 ∧ (i - 566) % 20 < 6 then 26 else 25) + 4 * ((i - 566) / 20) else 27 + 4 * ((i - 8726) / 24) + (i - 8726) % 2
def cs (i : Nat) : Nat := if i < 3 then i else if i < 5 then i - 3 else if i < 7 then i - 5 else if i < 410 then i - 10 else if i < 422 then i - 410 else if i < 566 then i - 422 else if i < 726 then (if 3 ≤ (i - 566) % 20 ∧ (i - 566) % 20 < 6 then (i - 566) % 20 - 3 else bs ((i - 566) % 20)) else (i - 8726) % 24 / 2
def sw (s : Nat) : Nat := if s < 3 then s else if s = 4 then 6 else if s = 5 then 7 else if s = 6 then 8 else if s = 7 then 9 else if s = 3 then 10 else 11
def ci (r s : Nat) : Nat := if r = 0 then s else if r = 5 then 3 + s else if r = 16 then 5 + s else if r = 1 then 10 + s else if r = 2 then 410 + s else if r = 3 then 422 + s else if (r - 25) % 4 = 0 then 566 + 20 * ((r - 25) / 4) + sw s else if (r - 25) % 4 = 1 then 569 + 20 * ((r - 25) / 4) + s else if (r - 25) % 4 = 2 then 8726 + 24 * ((r - 25) / 4) + 2 * s else 8727 + 24 * ((r - 25) / 4) + 2 * s
theorem sw_bs : ∀ w, w < 12 → ¬ (3 ≤ w ∧ w < 6) → sw (bs w) = w ∧ bs w < 9 := by decide
theorem ci_at (i : Nat) (h : dom i) : ci (cr i) (cs i) = i ∧ cr i < 57 ∧ (cr i = 5 → cs i < 2) ∧ (cr i = 16 → cs i < 2) ∧ (cr i < 6 ∨ cr i = 16 ∨ 25 ≤ cr i) ∧ cr i ≠ 4 := by
  unfold dom at h
  by_cases h1 : i < 3
  · have e1 : cr i = 0 := if_pos h1
    have e2 : cs i = i := if_pos h1
    rw [e1, e2]; unfold ci; rw [if_pos rfl]; omega
  by_cases h2 : i < 5
  · have e1 : cr i = 5 := by unfold cr; rw [if_neg h1, if_pos h2]
    have e2 : cs i = i - 3 := by unfold cs; rw [if_neg h1, if_pos h2]
    rw [e1, e2]; unfold ci; rw [if_neg (by decide), if_pos rfl]; omega
  by_cases h3 : i < 7
  · have e1 : cr i = 16 := by unfold cr; rw [if_neg h1, if_neg h2, if_pos h3]
    have e2 : cs i = i - 5 := by unfold cs; rw [if_neg h1, if_neg h2, if_pos h3]
    rw [e1, e2]; unfold ci; rw [if_neg (by decide), if_neg (by decide), if_pos rfl]; omega
  by_cases h4 : i < 410
  · have e1 : cr i = 1 := by unfold cr; rw [if_neg h1, if_neg h2, if_neg h3, if_pos h4]
    have e2 : cs i = i - 10 := by unfold cs; rw [if_neg h1, if_neg h2, if_neg h3, if_pos h4]
    rw [e1, e2]; unfold ci; simp; omega
  by_cases h5 : i < 422
  · have e1 : cr i = 2 := by unfold cr; rw [if_neg h1, if_neg h2, if_neg h3, if_neg h4, if_pos h5]
    have e2 : cs i = i - 410 := by unfold cs; rw [if_neg h1, if_neg h2, if_neg h3, if_neg h4, if_pos h5]
    rw [e1, e2]; unfold ci; simp; omega
  by_cases h6 : i < 566
  · have e1 : cr i = 3 := by unfold cr; rw [if_neg h1, if_neg h2, if_neg h3, if_neg h4, if_neg h5, if_pos h6]
    have e2 : cs i = i - 422 := by unfold cs; rw [if_neg h1, if_neg h2, if_neg h3, if_neg h4, if_neg h5, if_pos h6]
    rw [e1, e2]; unfold ci; simp; omega
  by_cases h7 : i < 726
  · have e1 : cr i = (if 3 ≤ (i - 566) % 20 ∧ (i - 566) % 20 < 6 then 26 else 25) + 4 * ((i - 566) / 20) := by unfold cr; rw [if_neg h1, if_neg h2, if_neg h3, if_neg h4, if_neg h5, if_neg h6, if_pos h7]
    have e2 : cs i = (if 3 ≤ (i - 566) % 20 ∧ (i - 566) % 20 < 6 then (i - 566) % 20 - 3 else bs ((i - 566) % 20)) := by unfold cs; rw [if_neg h1, if_neg h2, if_neg h3, if_neg h4, if_neg h5, if_neg h6, if_pos h7]
    have hw : (i - 566) % 20 < 12 := by omega
    by_cases h8 : 3 ≤ (i - 566) % 20 ∧ (i - 566) % 20 < 6
    · rw [if_pos h8] at e1 e2
      rw [e1, e2]; unfold ci
      rw [if_neg (by omega), if_neg (by omega), if_neg (by omega), if_neg (by omega), if_neg (by omega), if_neg (by omega), if_neg (by omega), if_pos (by omega)]
      omega
    · rw [if_neg h8] at e1 e2
      obtain ⟨q1, q2⟩ := sw_bs _ hw h8
      rw [e1, e2]; unfold ci
      rw [if_neg (by omega), if_neg (by omega), if_neg (by omega), if_neg (by omega), if_neg (by omega), if_neg (by omega), if_pos (by omega), q1]
      omega
  · have e1 : cr i = 27 + 4 * ((i - 8726) / 24) + (i - 8726) % 2 := by unfold cr; rw [if_neg h1, if_neg h2, if_neg h3, if_neg h4, if_neg h5, if_neg h6, if_neg h7]
    have e2 : cs i = (i - 8726) % 24 / 2 := by unfold cs; rw [if_neg h1, if_neg h2, if_neg h3, if_neg h4, if_neg h5, if_neg h6, if_neg h7]
    rw [e1, e2]; unfold ci
    rw [if_neg (by omega), if_neg (by omega), if_neg (by omega), if_neg (by omega), if_neg (by omega), if_neg (by omega), if_neg (by omega), if_neg (by omega)]
    by_cases h8 : (i - 8726) % 2 = 0
    · rw [if_pos (by omega)]; omega
    · rw [if_neg (by omega)]; omega
def isS (x : Ev) : Bool := x 0 == 0
def isV (x : Ev) : Bool := x 0 != 2
def isH (x : Ev) : Bool := x 0 == 1
def evw (l : List Ev) (x : Ev) : Int32 := if x 0 = 0 then nI (l.filter isS).length else if x 0 = 1 then -1 - nI (x 3) else -4
/-- a town as the class keeps it, from cell t on -/
def RC (t : Nat) (δ : Dm) (T : Tw) : Prop :=
  (∀ i, dom i → gI δ (t + cr i) (cs i) = nI (T.1 i)) ∧
  (∀ s x, ((tE T).filter isS)[s]? = some x → gI δ (t + 6) s = nI (x 1) ∧ gI δ (t + 7) s = nI (x 2) ∧ gI δ (t + 8) s = nI (x 5) ∧ gI δ (t + 9) s = nI (x 3) ∧ gI δ (t + 10) s = nI (x 4) ∧ gI δ (t + 11) s = nI (x 6) ∧ gI δ (t + 12) s = nI (x 7)) ∧
  gI δ (t + 5) 2 = nI (tE T).length ∧
  (∀ e x, (tE T)[e]? = some x → gI δ (t + 13) e = nI (x 1) ∧ gI δ (t + 14) e = nI (x 2) ∧ gI δ (t + 15) e = evw ((tE T).take e) x) ∧
  (∀ k x, (tR T)[k]? = some x → ∀ j, j < 5 → gI δ (t + 17 + j) k = nI (x j)) ∧
  (∀ k x, (tC T)[k]? = some x → ∀ j, j < 3 → gI δ (t + 22 + j) k = nI (x j))
/-- a town as the reference keeps it: the row r, from the index o on -/
def RM (r o : Nat) (δ : Dm) (T : Tw) : Prop :=
  (∀ i, (dom i ∨ (726 ≤ i ∧ i < 3926)) → gI δ r (o + i) = nI (T.1 i)) ∧
  gI δ r (o + 7) = nI ((tE T).filter isV).length ∧
  (∀ e x, ((tE T).filter isV)[e]? = some x → ∀ j, j < 8 → gI δ r (o + (3926 + 8 * e + j)) = nI (x j)) ∧
  (∀ k x, (tR T)[k]? = some x → ∀ j, j < 5 → gI δ r (o + (7926 + 5 * k + j)) = nI (x j)) ∧
  (∀ k x, (tC T)[k]? = some x → ∀ j, j < 3 → gI δ r (o + (8426 + 3 * k + j)) = nI (x j))
theorem RC_keep {t : Nat} {δ δ' : Dm} {T : Tw} (h : RC t δ T) (hk : ∀ o j, o < 57 → gI δ' (t + o) j = gI δ (t + o) j) : RC t δ' T := by
  obtain ⟨h1, h2, h3, h4, h5, h6⟩ := h
  refine ⟨fun i hi => by rw [hk _ _ (ci_at i hi).2.1]; exact h1 i hi, fun s x hx => ?_, by rw [hk 5 2 (by decide)]; exact h3, fun e x hx => ?_, fun k x hx j hj => ?_, fun k x hx j hj => ?_⟩
  · rw [hk 6 s (by decide), hk 7 s (by decide), hk 8 s (by decide), hk 9 s (by decide), hk 10 s (by decide), hk 11 s (by decide), hk 12 s (by decide)]; exact h2 s x hx
  · rw [hk 13 e (by decide), hk 14 e (by decide), hk 15 e (by decide)]; exact h4 e x hx
  · rw [Nat.add_assoc, hk (17 + j) k (by omega), ← Nat.add_assoc]; exact h5 k x hx j hj
  · rw [Nat.add_assoc, hk (22 + j) k (by omega), ← Nat.add_assoc]; exact h6 k x hx j hj
theorem RM_keep {r o : Nat} {δ δ' : Dm} {T : Tw} (h : RM r o δ T) (hl : ((tE T).filter isV).length ≤ 500) (hr : (tR T).length ≤ 100) (hc : (tC T).length ≤ 100) (hk : ∀ j, j < 8918 → gI δ' r (o + j) = gI δ r (o + j)) : RM r o δ' T := by
  obtain ⟨h1, h2, h3, h4, h5⟩ := h
  refine ⟨fun i hi => ?_, by rw [hk 7 (by decide)]; exact h2, fun e x hx j hj => ?_, fun k x hx j hj => ?_, fun k x hx j hj => ?_⟩
  · rw [hk i (by unfold dom at hi; omega)]; exact h1 i hi
  · have := (List.getElem?_eq_some_iff.mp hx).1
    rw [hk _ (by omega)]; exact h3 e x hx j hj
  · have := (List.getElem?_eq_some_iff.mp hx).1
    rw [hk _ (by omega)]; exact h4 k x hx j hj
  · have := (List.getElem?_eq_some_iff.mp hx).1
    rw [hk _ (by omega)]; exact h5 k x hx j hj
/-- one cell anew -/
theorem RC_up {t i v : Nat} {δ : Dm} {T : Tw} (hi : dom i) (h : RC t δ T) : RC t (sI δ (t + cr i) (cs i) (nI v)) (up T.1 i v, T.2) := by
  obtain ⟨h1, h2, h3, h4, h5, h6⟩ := h
  obtain ⟨a1, a2, a3, a4, a5, a6⟩ := ci_at i hi
  refine ⟨fun k hk => ?_, fun s x hx => ?_, ?_, fun e x hx => ?_, fun k x hx j hj => ?_, fun k x hx j hj => ?_⟩
  · show gI (sI δ (t + cr i) (cs i) (nI v)) (t + cr k) (cs k) = nI (up T.1 i v k)
    by_cases q : k = i
    · subst q; rw [gss, up_s]
    · rw [up_n q]
      refine Eq.trans ?_ (h1 k hk)
      refine if_neg (fun z => q ?_)
      rw [← (ci_at k hk).1, ← a1, show cr k = cr i by omega, z.2]
  · rw [gsr (by omega), gsr (by omega), gsr (by omega), gsr (by omega), gsr (by omega), gsr (by omega), gsr (by omega)]; exact h2 s x hx
  · refine Eq.trans (if_neg (fun z => ?_)) h3
    have := a3 (by omega); omega
  · rw [gsr (by omega), gsr (by omega), gsr (by omega)]; exact h4 e x hx
  · rw [gsr (by omega)]; exact h5 k x hx j hj
  · rw [gsr (by omega)]; exact h6 k x hx j hj
theorem RM_up {r o i v : Nat} {δ : Dm} {T : Tw} (hi : dom i ∨ (726 ≤ i ∧ i < 3926)) (hl : ((tE T).filter isV).length ≤ 500) (hr : (tR T).length ≤ 100) (hc : (tC T).length ≤ 100) (h : RM r o δ T) : RM r o (sI δ r (o + i) (nI v)) (up T.1 i v, T.2) := by
  obtain ⟨h1, h2, h3, h4, h5⟩ := h
  unfold dom at hi
  refine ⟨fun k hk => ?_, ?_, fun e x hx j hj => ?_, fun k x hx j hj => ?_, fun k x hx j hj => ?_⟩
  · show gI (sI δ r (o + i) (nI v)) r (o + k) = nI (up T.1 i v k)
    by_cases q : k = i
    · subst q; rw [gss, up_s]
    · rw [up_n q, gsc (by omega)]; exact h1 k hk
  · rw [gsc (by omega)]; exact h2
  · have := (List.getElem?_eq_some_iff.mp hx).1
    have : e < ((tE T).filter isV).length := this
    rw [gsc (by omega)]; exact h3 e x hx j hj
  · have := (List.getElem?_eq_some_iff.mp hx).1
    have : k < (tR T).length := this
    rw [gsc (by omega)]; exact h4 k x hx j hj
  · have := (List.getElem?_eq_some_iff.mp hx).1
    have : k < (tC T).length := this
    rw [gsc (by omega)]; exact h5 k x hx j hj
