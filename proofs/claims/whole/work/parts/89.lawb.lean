/-! what the pure parser makes -/
theorem dps_app {M : Nat} : ∀ (s r : List Int32) (a b c : Nat), dps M s a b → dps M r b c → dps M (s ++ r) a c := by
  intro s
  induction s with
  | nil => intro r a b c h k; have h : a = b := h; subst h; exact k
  | cons o s ih =>
    intro r a b c h k
    obtain ⟨e, h1, h2, h3⟩ := h
    exact ⟨e, h1, h2, ih r e b c h3 k⟩
def wP (b : Bool) (s : List Int32) (u : Nat) : Prop := 1 ≤ u ∧ (∀ d M, d + u ≤ M → dps M s d (d + 1)) ∧ ∀ w st, ∃ v, evs w s st = v :: st ∧ (b = true → v = 0 ∨ v = 1)
def Ap (b : Bool) (q r : Qs) : Prop := q.2.1 ≤ r.2.1 ∧ r.2.1 ≤ 60 ∧ ∃ s, r.2.2 = q.2.2 ++ s ∧ wP b s (r.2.1 - q.2.1)
theorem wP_ne {b : Bool} {s : List Int32} {u : Nat} (h : wP b s u) : s ≠ [] := fun q => by
  subst q
  have := h.2.1 0 u (by omega)
  have this : 0 = 0 + 1 := this
  omega
theorem evs_app {w : Nat → Int64} {s r : List Int32} {st : List Int64} : evs w (s ++ r) st = evs w r (evs w s st) := List.foldl_append
theorem op2_1 {o : Int32} (h : op2 o) : ¬ 0 ≤ o ∧ ¬ -10 < o ∧ o ≠ -21 ∧ opk o := by
  rcases h with h | h | h | h | h | h | h | h | h | h | h <;> subst h <;> unfold opk <;> decide
/-- a bit that is 0 or 1 -/
def b01 (v : Int64) : Prop := v = 0 ∨ v = 1
theorem b01_if {p : Prop} [Decidable p] : b01 (if p then 1 else 0) := by
  by_cases h : p
  · rw [if_pos h]; exact Or.inr rfl
  · rw [if_neg h]; exact Or.inl rfl
theorem b01_and {x y : Int64} (h : b01 x) (k : b01 y) : b01 (x &&& y) := by
  rcases h with h | h <;> rcases k with k | k <;> subst h <;> subst k <;> unfold b01 <;> decide
theorem b01_or {x y : Int64} (h : b01 x) (k : b01 y) : b01 (x ||| y) := by
  rcases h with h | h <;> rcases k with k | k <;> subst h <;> subst k <;> unfold b01 <;> decide
theorem b01_not {x : Int64} (h : b01 x) : b01 (1 - x) := by
  rcases h with h | h <;> subst h <;> unfold b01 <;> decide
/-- of which sort an op with two values is: from what to what -/
def opt (b : Bool) (o : Int32) : Prop := op2 o ∧ (b = true → (∀ x y, b01 (bop o x y)) ∨ ((o = -20 ∨ o = -19) ∧ ∀ x y, b01 x → b01 y → b01 (bop o x y)))
theorem opt_ar {o : Int32} (h : o = -23 ∨ o = -24 ∨ o = -25 ∨ o = -26) : opt false o := ⟨by unfold op2; rcases h with h | h | h | h <;> subst h <;> decide, fun q => by cases q⟩
theorem opt_cm {o : Int32} (h : o = -27 ∨ o = -28 ∨ o = -29 ∨ o = -30 ∨ o = -31) : opt true o := by
  refine ⟨by unfold op2; rcases h with h | h | h | h | h <;> subst h <;> decide, fun _ => Or.inl fun x y => ?_⟩
  rcases h with h | h | h | h | h <;> subst h
  · rw [bop_27]; exact b01_if
  · rw [bop_28]; exact b01_if
  · rw [bop_29]; exact b01_if
  · rw [bop_30]; exact b01_if
  · rw [bop_31]; exact b01_if
theorem opt_ao {o : Int32} (h : o = -20 ∨ o = -19) : opt true o := by
  refine ⟨by unfold op2; rcases h with h | h <;> subst h <;> decide, fun _ => Or.inr ⟨h, fun x y a b => ?_⟩⟩
  rcases h with h | h <;> subst h
  · rw [show bop (-20) x y = x &&& y from by unfold bop; simp]; exact b01_and a b
  · rw [show bop (-19) x y = x ||| y from by unfold bop; simp]; exact b01_or a b
/-- two made, and an op behind them -/
theorem wP_op {b a : Bool} {s r : List Int32} {u v : Nat} {o : Int32} (h : wP a s u) (k : wP a r v) (ho : opt b o) (hab : b = true → (∀ x y, b01 (bop o x y)) ∨ a = true) : wP b (s ++ r ++ [o]) (u + v) := by
  obtain ⟨h1, h2, h3⟩ := h
  obtain ⟨k1, k2, k3⟩ := k
  obtain ⟨z1, z2, z3, z4⟩ := op2_1 ho.1
  refine ⟨by omega, fun d M hM => ?_, fun w st => ?_⟩
  · refine dps_app _ _ d (d + 2) (d + 1) (dps_app _ _ d (d + 1) (d + 2) (h2 d M (by omega)) (k2 (d + 1) M (by omega))) ⟨d + 1, ⟨z4, Or.inr (Or.inr ⟨z2, z3, by omega, by omega⟩)⟩, by omega, rfl⟩
  · obtain ⟨x, hx, hx1⟩ := h3 w st
    obtain ⟨y, hy, hy1⟩ := k3 w (x :: st)
    refine ⟨bop o x y, ?_, fun hb => ?_⟩
    · rw [evs_app, evs_app, hx, hy]
      show st1 w (y :: x :: st) o = _
      unfold st1
      rw [if_neg z1, if_neg z2]
      show (if o = -21 then (1 - y) :: x :: st else bop o x y :: st) = _
      rw [if_neg z3]
    · rcases hab hb with q | q
      · exact q x y
      · rcases ho.2 hb with p | ⟨-, p⟩
        · exact p x y
        · exact p x y (hx1 q) (hy1 q)
theorem wP_not {s : List Int32} {u : Nat} (h : wP true s u) : wP true (s ++ [-21]) u := by
  obtain ⟨h1, h2, h3⟩ := h
  refine ⟨h1, fun d M hM => ?_, fun w st => ?_⟩
  · exact dps_app _ _ d (d + 1) (d + 1) (h2 d M hM) ⟨d + 1, ⟨by unfold opk; decide, Or.inr (Or.inl ⟨rfl, by omega, rfl⟩)⟩, by omega, rfl⟩
  · obtain ⟨x, hx, hx1⟩ := h3 w st
    refine ⟨1 - x, ?_, fun _ => b01_not (hx1 rfl)⟩
    rw [evs_app, hx]
    show st1 w (x :: st) (-21) = _
    unfold st1
    rw [if_neg (by decide), if_neg (by decide)]
    show (if (-21 : Int32) = -21 then (1 - x) :: st else _) = _
    rw [if_pos rfl]
theorem wP_1 {o : Int32} (h : (0 ≤ o ∧ o ≤ 99999) ∨ (-9 ≤ o ∧ o ≤ -1)) : wP false [o] 1 := by
  have hk : opk o := by unfold opk; rcases h with h | h; exact Or.inl h; exact Or.inr (Or.inl h)
  have hn : -10 < o := by
    rw [lt32]
    rcases h with h | h
    · have := le32.mp h.1
      rw [show (-10 : Int32).toInt = -10 from rfl]
      rw [show (0 : Int32).toInt = 0 from rfl] at this
      omega
    · have := le32.mp h.1
      rw [show (-10 : Int32).toInt = -10 from rfl]
      rw [show (-9 : Int32).toInt = -9 from rfl] at this
      omega
  refine ⟨Nat.le_refl _, fun d M hM => ⟨d + 1, ⟨hk, Or.inl ⟨hn, rfl⟩⟩, hM, rfl⟩, fun w st => ?_⟩
  refine ⟨if 0 ≤ o then o.toInt64 else w (ix (-1 - o)), ?_, fun q => by cases q⟩
  show st1 w st o = _
  unfold st1
  by_cases z : 0 ≤ o
  · rw [if_pos z, if_pos z]
  · rw [if_neg z, if_neg z, if_pos hn]
theorem Ap_op {a b : Bool} {q r1 r2 r3 : Qs} {o : Int32} (h : Ap a q r1) (hu : r1.2.1 ≤ r2.2.1) (he : r2.2.2 = r1.2.2) (k : Ap a r2 r3) (ho : opt b o) (hab : b = true → (∀ x y, b01 (bop o x y)) ∨ a = true) : Ap b q (em r3 o) := by
  obtain ⟨h1, h2, s, h3, h4⟩ := h
  obtain ⟨k1, k2, t, k3, k4⟩ := k
  refine ⟨by show q.2.1 ≤ r3.2.1; omega, k2, s ++ t ++ [o], ?_, ?_⟩
  · show r3.2.2 ++ [o] = _
    rw [k3, he, h3, List.append_assoc, List.append_assoc, List.append_assoc]
  · have := wP_op h4 k4 ho hab
    refine ⟨by show 1 ≤ r3.2.1 - q.2.1; have := this.1; omega, fun d M hM => this.2.1 d M ?_, this.2.2⟩
    have hM : d + (r3.2.1 - q.2.1) ≤ M := hM
    omega
theorem num_lt {X : Tx} {p : Nat} : ∀ n, (∀ i, i < n → X.1 (p + i) - 48 ≤ 9) → num X p n < 10 ^ n := by
  intro n
  induction n with
  | zero => intro _; exact Nat.one_pos
  | succ n ih =>
    intro h
    have a := ih (fun i hi => h i (by omega))
    have b := h n (by omega)
    show 10 * num X p n + (X.1 (p + n) - 48) < 10 ^ (n + 1)
    rw [Nat.pow_succ]
    omega
theorem vl_le {X : Tx} {p : Nat} (h : kd X p = 21) (hv : ¬ vl X p < 0) : ∃ k, k ≤ 99999 ∧ vl X p = nI k := by
  have hp : p < X.2 := ky_lt (by omega)
  have hr := enD_run X p
  unfold vl at hv ⊢
  by_cases z : 5 < enD X p - p
  · rw [if_pos z] at hv; exact absurd (by decide) hv
  · rw [if_neg z] at hv ⊢
    refine ⟨_, ?_, rfl⟩
    have := num_lt (X := X) (p := p) (enD X p - p) (fun i hi => by
      have := of_decide_eq_true (hr.2.1 (p + i) (by omega) (by omega))
      omega)
    have h5 : 10 ^ (enD X p - p) ≤ 10 ^ 5 := Nat.pow_le_pow_right (by decide) (by omega)
    omega
theorem pV_ap {X : Tx} {q r : Qs} (h : pV X q = .inr r) : Ap false q r := by
  unfold pV at h
  by_cases z : kd X q.1 = 21
  · rw [if_pos z] at h
    by_cases y : vl X q.1 < 0
    · rw [if_pos y] at h; cases h
    · rw [if_neg y] at h
      by_cases x : 60 ≤ q.2.1
      · rw [if_pos x] at h; cases h
      · rw [if_neg x] at h; cases h
        obtain ⟨k, k1, k2⟩ := vl_le z y
        refine ⟨Nat.le_succ _, by show q.2.1 + 1 ≤ 60; omega, [vl X q.1], rfl, ?_⟩
        rw [show (nx X q.1, q.2.1 + 1, q.2.2 ++ [vl X q.1]).2.1 - q.2.1 = 1 by show q.2.1 + 1 - q.2.1 = 1; omega]
        exact wP_1 (Or.inl ⟨Int32.not_lt.mp y, by rw [k2, show (99999 : Int32) = nI 99999 from rfl, leN (by omega) (by decide)]; exact k1⟩)
  · rw [if_neg z] at h
    by_cases y : kd X q.1 ≤ 8
    · rw [if_pos y] at h
      by_cases x : 60 ≤ q.2.1
      · rw [if_pos x] at h; cases h
      · rw [if_neg x] at h; cases h
        refine ⟨Nat.le_succ _, by show q.2.1 + 1 ≤ 60; omega, [-1 - nI (kd X q.1)], rfl, ?_⟩
        rw [show (nx X q.1, q.2.1 + 1, q.2.2 ++ [-1 - nI (kd X q.1)]).2.1 - q.2.1 = 1 by show q.2.1 + 1 - q.2.1 = 1; omega]
        have d : ∀ k, k ≤ 8 → (-9 ≤ -1 - nI k ∧ -1 - nI k ≤ -1) := by decide
        exact wP_1 (Or.inr (d _ y))
    · rw [if_neg y] at h; cases h
theorem pT'_ap {X : Tx} : ∀ f q0 q r, Ap false q0 q → pT' X f q = .inr r → Ap false q0 r := by
  intro f
  induction f with
  | zero => intro q0 q r h0 h; cases h; exact h0
  | succ f ih =>
    intro q0 q r h0 h
    unfold pT' at h
    by_cases z : kd X q.1 = 24 ∨ kd X q.1 = 25
    · rw [if_pos z] at h
      obtain ⟨s, h1, h2⟩ := rbd_in h
      refine ih q0 _ r (Ap_op h0 (r2 := nq X q) (Nat.le_refl _) rfl (pV_ap h1) (opt_ar ?_) (fun q => by cases q)) h2
      rcases z with z | z <;> rw [z] <;> decide
    · rw [if_neg z] at h; cases h; exact h0
theorem pT_ap {X : Tx} {q r : Qs} (h : pT X q = .inr r) : Ap false q r := by
  obtain ⟨s, h1, h2⟩ := rbd_in h
  exact pT'_ap _ _ _ _ (pV_ap h1) h2
theorem pS'_ap {X : Tx} : ∀ f q0 q r, Ap false q0 q → pS' X f q = .inr r → Ap false q0 r := by
  intro f
  induction f with
  | zero => intro q0 q r h0 h; cases h; exact h0
  | succ f ih =>
    intro q0 q r h0 h
    unfold pS' at h
    by_cases z : kd X q.1 = 22 ∨ kd X q.1 = 23
    · rw [if_pos z] at h
      obtain ⟨s, h1, h2⟩ := rbd_in h
      refine ih q0 _ r (Ap_op h0 (r2 := nq X q) (Nat.le_refl _) rfl (pT_ap h1) (opt_ar ?_) (fun q => by cases q)) h2
      rcases z with z | z <;> rw [z] <;> decide
    · rw [if_neg z] at h; cases h; exact h0
theorem pS_ap {X : Tx} {q r : Qs} (h : pS X q = .inr r) : Ap false q r := by
  obtain ⟨s, h1, h2⟩ := rbd_in h
  exact pS'_ap _ _ _ _ (pT_ap h1) h2
theorem pC_ap {X : Tx} {q r : Qs} (h : pC X q = .inr r) : Ap true q r := by
  obtain ⟨s, h1, h2⟩ := rbd_in h
  by_cases z : kd X s.1 < 26 ∨ 30 < kd X s.1
  · rw [if_pos z] at h2; cases h2
  · rw [if_neg z] at h2
    by_cases y : 60 ≤ s.2.1
    · rw [if_pos y] at h2; cases h2
    · rw [if_neg y] at h2
      obtain ⟨t, h3, h4⟩ := rbd_in h2
      cases h4
      have hk : kd X s.1 = 26 ∨ kd X s.1 = 27 ∨ kd X s.1 = 28 ∨ kd X s.1 = 29 ∨ kd X s.1 = 30 := by omega
      have ho : opt true (-1 - nI (kd X s.1)) ∧ ∀ x y, b01 (bop (-1 - nI (kd X s.1)) x y) := by
        refine ⟨opt_cm ?_, fun x y => ?_⟩
        · rcases hk with z | z | z | z | z <;> rw [z] <;> decide
        · rcases hk with z | z | z | z | z <;> rw [z]
          · exact (show bop (-27) x y = _ from bop_27) ▸ b01_if
          · exact (show bop (-28) x y = _ from bop_28) ▸ b01_if
          · exact (show bop (-29) x y = _ from bop_29) ▸ b01_if
          · exact (show bop (-30) x y = _ from bop_30) ▸ b01_if
          · exact (show bop (-31) x y = _ from bop_31) ▸ b01_if
      exact Ap_op (pS_ap h1) (r2 := (nx X s.1, s.2.1 + 1, s.2.2)) (Nat.le_succ _) rfl (pS_ap h3) ho.1 (fun _ => Or.inl ho.2)
theorem pA'_ap {X : Tx} {rf : Nat → Qs → Rs} {dep : Nat} (hr : ∀ q r, rf dep q = .inr r → Ap true q r) : ∀ f q0 q r, Ap true q0 q → pA' X rf dep f q = .inr r → Ap true q0 r := by
  intro f
  induction f with
  | zero => intro q0 q r h0 h; cases h; exact h0
  | succ f ih =>
    intro q0 q r h0 h
    unfold pA' at h
    by_cases z : kd X q.1 = 19
    · rw [if_pos z] at h
      obtain ⟨s, h1, h2⟩ := rbd_in h
      exact ih q0 _ r (Ap_op h0 (r2 := nq X q) (Nat.le_refl _) rfl (hr _ _ h1) (opt_ao (Or.inl rfl)) (fun _ => Or.inr rfl)) h2
    · rw [if_neg z] at h; cases h; exact h0
theorem pA_ap {X : Tx} {rf : Nat → Qs → Rs} {dep : Nat} (hr : ∀ q r, rf dep q = .inr r → Ap true q r) {q r : Qs} (h : pA X rf dep q = .inr r) : Ap true q r := by
  obtain ⟨s, h1, h2⟩ := rbd_in h
  exact pA'_ap hr _ _ _ _ (hr _ _ h1) h2
theorem pO'_ap {X : Tx} {rf : Nat → Qs → Rs} {dep : Nat} (hr : ∀ q r, rf dep q = .inr r → Ap true q r) : ∀ f q0 q r, Ap true q0 q → pO' X rf dep f q = .inr r → Ap true q0 r := by
  intro f
  induction f with
  | zero => intro q0 q r h0 h; cases h; exact h0
  | succ f ih =>
    intro q0 q r h0 h
    unfold pO' at h
    by_cases z : kd X q.1 = 18
    · rw [if_pos z] at h
      obtain ⟨s, h1, h2⟩ := rbd_in h
      exact ih q0 _ r (Ap_op h0 (r2 := nq X q) (Nat.le_refl _) rfl (pA_ap hr h1) (opt_ao (Or.inr rfl)) (fun _ => Or.inr rfl)) h2
    · rw [if_neg z] at h; cases h; exact h0
theorem pO_ap {X : Tx} {rf : Nat → Qs → Rs} {dep : Nat} (hr : ∀ q r, rf dep q = .inr r → Ap true q r) {q r : Qs} (h : pO X rf dep q = .inr r) : Ap true q r := by
  obtain ⟨s, h1, h2⟩ := rbd_in h
  exact pO'_ap hr _ _ _ _ (pA_ap hr h1) h2
theorem pF_ap {X : Tx} : ∀ g dep q r, pF X g dep q = .inr r → Ap true q r := by
  intro g
  induction g with
  | zero => intro dep q r h; cases h
  | succ g ih =>
    intro dep q r h
    unfold pF at h
    by_cases z1 : kd X q.1 = 20
    · rw [if_pos z1] at h
      by_cases y : 10 ≤ dep
      · rw [if_pos y] at h; cases h
      · rw [if_neg y] at h
        obtain ⟨s, h1, h2⟩ := rbd_in h
        cases h2
        obtain ⟨a1, a2, t, a3, a4⟩ := ih _ _ _ h1
        refine ⟨a1, a2, t ++ [-21], ?_, wP_not a4⟩
        show s.2.2 ++ [-21] = _
        rw [a3, List.append_assoc]; rfl
    · rw [if_neg z1] at h
      by_cases z2 : kd X q.1 = 31
      · rw [if_pos z2] at h
        by_cases y : 10 ≤ dep
        · rw [if_pos y] at h; cases h
        · rw [if_neg y] at h
          obtain ⟨s, h1, h2⟩ := rbd_in h
          by_cases x : kd X s.1 = 32
          · rw [if_pos x] at h2; cases h2
            have a := pO_ap (fun q r => ih (dep + 1) q r) h1
            exact a
          · rw [if_neg x] at h2; cases h2
      · rw [if_neg z2] at h; exact pC_ap h
theorem pX_ap {X : Tx} {q r : Qs} (h : pO X (pF X 12) 0 q = .inr r) : Ap true q r := pO_ap (fun q r => pF_ap 12 0 q r) h
