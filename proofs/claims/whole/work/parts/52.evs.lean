/-! how many events there may be -/
def pct (P : Nat → Prop) [DecidablePred P] : Nat → Nat
  | 0 => 0
  | n + 1 => pct P n + (if P n then 1 else 0)
theorem pct_same {P Q : Nat → Prop} [DecidablePred P] [DecidablePred Q] : ∀ {n : Nat}, (∀ b, b < n → (P b ↔ Q b)) → pct P n = pct Q n := by
  intro n
  induction n with
  | zero => intro _; rfl
  | succ n ih =>
    intro h
    rw [pct, pct, ih (fun b hb => h b (by omega))]
    by_cases q : P n
    · rw [if_pos q, if_pos ((h n (by omega)).mp q)]
    · rw [if_neg q, if_neg (fun z => q ((h n (by omega)).mpr z))]
theorem pct_one {P Q : Nat → Prop} [DecidablePred P] [DecidablePred Q] {b0 : Nat} (h : ∀ b, b ≠ b0 → (P b ↔ Q b)) : ∀ n, pct Q n ≤ pct P n + 1 := by
  intro n
  induction n with
  | zero => exact Nat.zero_le _
  | succ n ih =>
    by_cases e : n = b0
    · have := pct_same (n := n) (P := P) (Q := Q) (fun b hb => h b (by omega))
      rw [pct, pct, this]
      split <;> split <;> omega
    · rw [pct, pct]
      by_cases q : P n
      · rw [if_pos q, if_pos ((h n e).mp q)]; omega
      · rw [if_neg q, if_neg (fun z => q ((h n e).mpr z))]; omega
theorem pct_off {P Q : Nat → Prop} [DecidablePred P] [DecidablePred Q] {b0 : Nat} (h : ∀ b, b ≠ b0 → (P b ↔ Q b)) (h1 : P b0) (h2 : ¬ Q b0) : ∀ n, b0 < n → pct Q n + 1 = pct P n := by
  intro n
  induction n with
  | zero => intro z; omega
  | succ n ih =>
    intro hn
    by_cases e : n = b0
    · have := pct_same (n := n) (P := P) (Q := Q) (fun b hb => h b (by omega))
      subst e
      rw [pct, pct, this, if_neg h2, if_pos h1]
    · have := ih (by omega)
      rw [pct, pct]
      by_cases q : P n
      · rw [if_pos q, if_pos ((h n e).mp q)]; omega
      · rw [if_neg q, if_neg (fun z => q ((h n e).mpr z))]; omega
def isX (x : Ev) : Bool := x 0 == 2
theorem boxf_app {p b : Nat} {l : List Ev} {x : Ev} : boxf p b (l ++ [x]) = boxs p b (boxf p b l) x := by
  unfold boxf; rw [List.foldl_append]; rfl
theorem boxs_ne {p b c : Nat} {x : Ev} (h : x 1 ≠ b) : boxs p b c x = c := if_neg h
theorem ev_cnt (pr : Nat → Nat) : ∀ (n : Nat) (l : List Ev), n ≤ l.length → (∀ x ∈ l, x 0 ≤ 2 ∧ x 1 < 8) → (∀ e x, l[e]? = some x → x 0 = 2 → 0 < boxf (pr (x 1)) (x 1) (l.take e)) → ((l.take n).filter isX).length + pct (fun b => 0 < boxf (pr b) b (l.take n)) 8 ≤ ((l.take n).filter isS).length := by
  intro n
  induction n with
  | zero =>
    intro l _ _ _
    have : pct (fun b => 0 < boxf (pr b) b (l.take 0)) 8 = 0 := by
      rw [pct_same (Q := fun _ => False) (fun b _ => by simp [boxf])]
      rfl
    rw [this]; simp
  | succ n ih =>
    intro l hn h1 h2
    have ih := ih l (by omega) h1 h2
    have hx : l[n]? = some l[n] := List.getElem?_eq_getElem (by omega)
    have hm : l[n] ∈ l := List.getElem_mem _
    have et : l.take (n + 1) = l.take n ++ [l[n]] := by rw [List.take_add_one, hx]; rfl
    obtain ⟨k0, k1⟩ := h1 _ hm
    have hb : ∀ b, b ≠ l[n] 1 → (0 < boxf (pr b) b (l.take n) ↔ 0 < boxf (pr b) b (l.take (n + 1))) := fun b hb => by
      rw [et, boxf_app, boxs_ne (fun z => hb z.symm)]
    have e1 := pct_one hb 8
    rw [et, List.filter_append, List.filter_append, List.length_append, List.length_append, ← et]
    rcases (by omega : l[n] 0 = 0 ∨ l[n] 0 = 1 ∨ l[n] 0 = 2) with q | q | q
    · have a1 : ([l[n]].filter isX).length = 0 := by simp [isX, q]
      have a2 : ([l[n]].filter isS).length = 1 := by simp [isS, q]
      rw [a1, a2]; omega
    · have a1 : ([l[n]].filter isX).length = 0 := by simp [isX, q]
      have a2 : ([l[n]].filter isS).length = 0 := by simp [isS, q]
      have e2 := pct_same (n := 8) (P := fun b => 0 < boxf (pr b) b (l.take n)) (Q := fun b => 0 < boxf (pr b) b (l.take (n + 1))) (fun b _ => by
        by_cases z : b = l[n] 1
        · rw [et, boxf_app, boxs, if_pos z.symm, if_neg (by omega), if_neg (by omega)]
        · exact hb b z)
      rw [a1, a2, ← e2]; exact ih
    · have a1 : ([l[n]].filter isX).length = 1 := by simp [isX, q]
      have a2 : ([l[n]].filter isS).length = 0 := by simp [isS, q]
      have e2 := pct_off hb (h2 n _ hx q) (by rw [et, boxf_app, boxs, if_pos rfl, if_neg (by omega), if_pos q]; omega) 8 k1
      rw [a1, a2]; omega
theorem cnt_X : ∀ l : List Ev, (∀ x ∈ l, x 0 ≤ 2) → l.length = (l.filter isS).length + (l.filter isH).length + (l.filter isX).length := by
  intro l
  induction l with
  | nil => intro _; rfl
  | cons x l ih =>
    intro h
    have hx := h x (List.mem_cons_self ..)
    have ih := ih (fun y hy => h y (List.mem_cons_of_mem _ hy))
    have hc : x 0 = 0 ∨ x 0 = 1 ∨ x 0 = 2 := by omega
    rcases hc with q | q | q <;> simp [List.filter_cons, isX, isS, isH, q] at ih ⊢ <;> omega
theorem ev_len {nl : Nat} {T : Tw} (h : okT nl T) : (tE T).length + pct (fun b => 0 < boxf (bc T.1 b 1) b (tE T)) 8 ≤ 2 * T.1 3 + T.1 4 := by
  obtain ⟨h1, -, -, h4, h5, -⟩ := h
  have h8 : T.1 2 ≤ 8 := h1.2.2.1
  have q := ev_cnt (fun b => bc T.1 b 1) (tE T).length (tE T) (Nat.le_refl _) (fun x hx => ⟨(h4.1 x hx).1, by have := (h4.1 x hx).2.1; omega⟩) (fun e x hx => (h5.1 e x hx).2)
  rw [List.take_length] at q
  have c := cnt_X (tE T) (fun x hx => (h4.1 x hx).1)
  obtain ⟨_, _, _, a, b, a', b', _⟩ := h1
  omega
theorem pct_pos {P : Nat → Prop} [DecidablePred P] {b : Nat} (h : P b) : ∀ n, b < n → 1 ≤ pct P n := by
  intro n
  induction n with
  | zero => intro z; omega
  | succ n ih =>
    intro hn
    rw [pct]
    by_cases e : n = b
    · rw [if_pos (e ▸ h)]; omega
    · have := ih (by omega); omega
