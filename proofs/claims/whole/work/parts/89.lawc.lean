/-! clauses: pure; the class's -/
abbrev Zs : Type := Qs × List Cz × (Nat → Int32)
abbrev Rz : Type := Nat ⊕ Zs
def rzb {α : Type} (r : Nat ⊕ α) (f : α → Rz) : Rz := match r with
  | .inl w => .inl w
  | .inr q => f q
def slc (a b : List Int32) : List Int32 := b.drop a.length
theorem slc_app (a s : List Int32) : slc a (a ++ s) = s := by unfold slc; rw [List.drop_left]
def pN (X : Tx) (hi : Nat) (q : Qs) : Nat ⊕ Nat := if kd X q.1 = 21 then (if 0 ≤ vl X q.1 ∧ vl X q.1 ≤ nI hi then .inr (ix (vl X q.1)) else .inl (flw q.1 1)) else .inl (flw q.1 0)
def pB1 (X : Tx) (sm : Bool) (q : Qs) : Rs := if sm = true then pS X q else .inr q
def pB2 (X : Tx) (sm : Bool) (q : Qs) : Rs := if sm = true then (if kd X q.1 = 17 then pO X (pF X 12) 0 (nq X q) else .inr q) else pO X (pF X 12) 0 q
def pB (X : Tx) (s : Nat) (sm : Bool) (z : Zs) (q : Qs) : Rz := rzb (pB1 X sm q) fun q1 => rzb (pB2 X sm q1) fun q2 => .inr (q2, z.2.1 ++ [(s, slc q.2.2 q1.2.2, slc q1.2.2 q2.2.2)], z.2.2)
def pCl (X : Tx) (z : Zs) : Rz :=
  if kd X z.1.1 < 9 ∨ 16 < kd X z.1.1 then .inl (flw z.1.1 0)
  else if 14 ≤ z.2.1.length then .inl (flw z.1.1 4)
  else if kd X z.1.1 = 11 then rzb (pN X 2 (nq X z.1)) fun b => if z.2.2 b = -1 then rzb (pN X 999 (nq X (nq X z.1))) fun v => .inr (nq X (nq X (nq X z.1)), z.2.1 ++ [(11, [], [])], fun k => if k = b then nI v else z.2.2 k) else .inl (flw (nx X z.1.1) 4)
  else if kd X z.1.1 < 11 then rzb (pN X 2 (nq X z.1)) fun b => pB X (3 * (kd X z.1.1 - 9) + b) true z (nq X (nq X z.1))
  else pB X (kd X z.1.1 - 6) (decide (kd X z.1.1 = 16)) z (nq X z.1)
def pLs (X : Tx) : Nat → Zs → Rz
  | 0, z => .inr z
  | f + 1, z => rzb (pCl X z) fun y => if kd X y.1.1 = 33 then pLs X f (nq X y.1, y.2) else .inr y
def pLaw (X : Tx) : Nat ⊕ LawT := match pLs X 15 ((sp X 0, 0, []), [], fun _ => -1) with
  | .inl w => .inl w
  | .inr z => if kd X z.1.1 = 34 then .inr z.2 else .inl (flw z.1.1 0)
/-- the class's memory of the clauses -/
def SC (t : Nat) (δ : Dm) (ops : List Int32) (C : List Cz) : Prop := gI δ t 0 = nI C.length ∧ ∀ c x, C[c]? = some x → gI δ (t + 1) c = nI (csort x.1) ∧ (x.1 ≠ 11 → gI δ (t + 2) c = nI (cbath x.1)) ∧ ∃ a, gI δ (t + 3) c = nI a ∧ gI δ (t + 4) c = nI (a + x.2.1.length) ∧ gI δ (t + 5) c = nI (a + x.2.1.length + x.2.2.length) ∧ a + x.2.1.length + x.2.2.length ≤ ops.length ∧ ∀ k o, (x.2.1 ++ x.2.2)[k]? = some o → ops[a + k]? = some o
def SZ (t : Nat) (X : Tx) (m c : Nat) (δ : Dm) (r : Rz) : Prop := match r with
  | .inl w => Stt t X m c δ (.inl w)
  | .inr z => Stt t X m c δ (.inr z.1) ∧ SC t δ z.1.2.2 z.2.1 ∧ (∀ k, k < 3 → gI δ (t + 6) k = z.2.2 k) ∧ z.2.1.length ≤ 14
def FrZl (t : Nat) (δ d : Dm) : Prop := ∀ b j, b ≠ 7 → (b < t ∨ t + 8 ≤ b) → gI d b j = gI δ b j
theorem FrZl.trans {t : Nat} {a b c : Dm} (h : FrZl t a b) (k : FrZl t b c) : FrZl t a c := fun x j q1 q2 => (k x j q1 q2).trans (h x j q1 q2)
theorem FrE.Zl {t : Nat} {a b : Dm} (h : FrE t a b) : FrZl t a b := fun x j q1 q2 => h x j q1 (by omega) (by omega)
theorem St_fr {t : Nat} {X : Tx} {m c : Nat} {r : Rs} {δ d : Dm} (h : Stt t X m c δ r) (hk : ∀ b j, (b = 7 ∨ b = 8 ∨ b = 9 ∨ b = 10 ∨ (b = t ∧ j = 1) ∨ b = t + 7) → gI d b j = gI δ b j) : Stt t X m c d r := by
  have k7 : ∀ j, gI d 7 j = gI δ 7 j := fun j => hk 7 j (Or.inl rfl)
  cases r with
  | inl w => exact St_w h (k7 3) (k7 7) (k7 8) (by rw [k7]; exact h.2.2.2.2.2) (fun b j q1 q2 => hk b j (by omega))
  | inr q =>
    obtain ⟨hT, h8, j, g1, g2, g3, g4, g5, g6, g7, g8, g9, g10⟩ := h
    exact ⟨TA_fr hT (k7 3) (fun b j q1 q2 => hk b j (by omega)), by rw [k7]; exact h8, j, g1, g2, by rw [k7]; exact g3, by rw [k7]; exact g4, by rw [k7]; exact g5, by rw [k7]; exact g6, g7, by rw [hk t 1 (by omega)]; exact g8, fun k o q => by rw [hk (t + 7) k (by omega)]; exact g9 k o q, g10⟩
theorem St_put {t o i : Nat} {X : Tx} {m c : Nat} {r : Rs} {δ : Dm} {v : Int32} (ht : isL t = true) (ho : 1 ≤ o ∧ o ≤ 6) (h : Stt t X m c δ r) : Stt t X m c (sI δ (t + o) i v) r := by
  obtain ⟨t1, t2⟩ := isL_r ht
  exact St_fr h (fun b j q => gsr (by omega))
theorem St_z {t : Nat} {X : Tx} {m c : Nat} {r : Rs} {δ : Dm} {v : Int32} (ht : isL t = true) (h : Stt t X m c δ r) : Stt t X m c (sI δ t 0 v) r := by
  obtain ⟨t1, t2⟩ := isL_r ht
  refine St_fr h (fun b j q => if_neg (fun w => ?_))
  omega
theorem St_mono {t : Nat} {X : Tx} {m c c' : Nat} {r : Rs} {δ : Dm} (hc : c' ≤ c) (h : Stt t X m c δ r) : Stt t X m c' δ r := by
  cases r with
  | inl w => exact h
  | inr q =>
    obtain ⟨hT, h8, j, g1, g2, g3, g4, g5, g6, g7, g8, g9, g10⟩ := h
    exact ⟨hT, h8, j, g1, g2, g3, g4, g5, g6, g7, g8, g9, by omega⟩
theorem step_r {t : Nat} {X : Tx} {m c : Nat} {r : Rs} {δ : Dm} (ht : isL t = true) (h : Stt t X m c δ r) (hk : ∀ q, r = .inr q → kd X q.1 ≠ 34) : ∃ d, f_Re_step δ = some d ∧ Stt t X m c d (rbd r (fun q => .inr (nq X q))) ∧ FrE t δ d := by
  cases r with
  | inl w => exact step_f h
  | inr q =>
    obtain ⟨d, e1, e2, e3⟩ := step_g ht h (hk q rfl)
    exact ⟨d, e1, St_mono (Nat.le_succ c) e2, e3⟩
def nR (X : Tx) (hi : Nat) (q : Qs) : Rs := match pN X hi q with
  | .inl w => .inl w
  | .inr _ => .inr q
theorem numH {t : Nat} {X : Tx} {m c hi : Nat} {r : Rs} {δ : Dm} (hh : hi < 100000) (h : Stt t X m c δ r) : ∃ v d, f_Re_numberHere (nI hi) δ = some (nI v, d) ∧ v ≤ hi ∧ Stt t X m c d (rbd r (nR X hi)) ∧ (∀ q, r = .inr q → ∀ u, pN X hi q = .inr u → v = u ∧ kd X q.1 = 21) ∧ FrE t δ d := by
  unfold f_Re_numberHere
  cases r with
  | inl w =>
    have hk := h.2.2.2.2.2
    rw [hk, if_neg (by decide)]
    obtain ⟨d, e1, e2, e3⟩ := fail_f (a1 := 0) (c' := c) h
    rw [e1]
    exact ⟨0, d, rfl, Nat.zero_le _, e2, (fun q z => by cases z), e3⟩
  | inr q =>
    obtain ⟨hk, j, hj, k3, k1, k2, k4⟩ := St_at h
    have hkl := ky_le X q.1
    rw [hk, rbd_r]
    unfold nR pN
    by_cases z : kd X q.1 = 21
    · rw [if_pos z, if_pos (show nI (kd X q.1) = (21 : Int32) by rw [z]; rfl), k3, get_in (N := 401) rfl (by omega), Option.bind_some, k4 z, within_eq, Option.bind_some]
      by_cases y : 0 ≤ vl X q.1 ∧ vl X q.1 ≤ nI hi
      · rw [if_pos y, if_neg (by rw [bI_0]; exact fun w => w y)]
        obtain ⟨k, a1, a2⟩ := vl_le z (Int32.not_lt.mpr y.1)
        rw [a2] at y ⊢
        rw [ixN (by omega)]
        exact ⟨k, δ, rfl, (leN (by omega) (by omega)).mp y.2, h, fun q' e u hu => by cases e; rw [if_pos z, a2, if_pos y, ixN (by omega)] at hu; cases hu; exact ⟨rfl, z⟩, FrE.refl _ _⟩
      · rw [if_neg y, if_pos (by rw [bI_0]; exact y)]
        obtain ⟨d, e1, e2, e3⟩ := fail_g (why := 1) (c' := c) h (by decide)
        rw [show (1 : Int32) = nI 1 from rfl, e1]
        exact ⟨0, d, rfl, Nat.zero_le _, e2, (fun q' e u hu => by cases e; rw [if_pos z, if_neg y] at hu; cases hu), e3⟩
    · rw [if_neg z, if_neg (show ¬ nI (kd X q.1) = (21 : Int32) from fun w => z ((kq hkl (by decide)).mp w))]
      obtain ⟨d, e1, e2, e3⟩ := fail_g (why := 0) (c' := c) h (by decide)
      rw [show (0 : Int32) = nI 0 from rfl, e1]
      exact ⟨0, d, rfl, Nat.zero_le _, e2, (fun q' e u hu => by cases e; rw [if_neg z] at hu; cases hu), e3⟩
theorem begin_eq {t c0 : Nat} {δ : Dm} {v : Int32} (hk : LKd t) (h0 : gI δ t 0 = nI c0) (hc : c0 < 14) : f_La_beginClause t v δ = some (sI (sI (sI (sI (sI δ (t + 1) c0 v) (t + 2) c0 0) (t + 3) c0 (gI δ t 1)) (t + 4) c0 (gI δ t 1)) (t + 5) c0 (gI δ t 1)) := by
  obtain ⟨k1, k2, k3, k4, k5, k6, k7⟩ := hk
  have e : ∀ (d : Dm) o i w j, 1 ≤ o → gI (sI d (t + o) i w) t j = gI d t j := fun d o i w j ho => gsr (by omega)
  unfold f_La_beginClause
  rw [h0, put_in k1 hc, Option.bind_some, e _ 1 _ _ _ (by decide), h0, put_in k2 hc, Option.bind_some, e _ 2 _ _ _ (by decide), e _ 1 _ _ _ (by decide), h0, e _ 2 _ _ _ (by decide), e _ 1 _ _ _ (by decide), put_in k3 hc, Option.bind_some, e _ 3 _ _ _ (by decide), e _ 2 _ _ _ (by decide), e _ 1 _ _ _ (by decide), h0, e _ 3 _ _ _ (by decide), e _ 2 _ _ _ (by decide), e _ 1 _ _ _ (by decide), put_in k4 hc, Option.bind_some, e _ 4 _ _ _ (by decide), e _ 3 _ _ _ (by decide), e _ 2 _ _ _ (by decide), e _ 1 _ _ _ (by decide), h0, e _ 4 _ _ _ (by decide), e _ 3 _ _ _ (by decide), e _ 2 _ _ _ (by decide), e _ 1 _ _ _ (by decide), put_in k5 hc, Option.bind_some]
/-- the end of a clause -/
theorem endCl {t c0 : Nat} {X : Tx} {m c : Nat} {r : Rs} {a1 v4 : Int32} {δ : Dm} (ht : isL t = true) (hk : LKd t) (h : Stt t X m c δ r) (h0 : gI δ t 0 = nI c0) (hc : c0 < 14) : ∃ d, jp_Re_readClause_125 a1 v4 δ = some d ∧ Stt t X m c d r ∧ gI d t 0 = nI (c0 + 1) ∧ (∀ q, r = .inr q → gI d (t + 5) c0 = nI q.2.2.length) ∧ ∀ b j, ¬ (b = t ∧ j = 0) → ¬ (b = t + 5 ∧ j = c0) → gI d b j = gI δ b j := by
  obtain ⟨t1, t2⟩ := isL_r ht
  obtain ⟨k1, k2, k3, k4, k5, k6, k7⟩ := hk
  unfold jp_Re_readClause_125
  rw [h.2.1, dR_i (by omega) (by omega)]
  simp only [ocs]
  rw [if_pos ht]
  unfold f_La_endClause
  rw [h0, put_in k5 hc, Option.bind_some, bndE, gsr (by omega), h0, nI_1]
  refine ⟨_, rfl, St_z ht (St_put ht (by decide) h), gss, fun q hq => ?_, fun b j q1 q2 => ?_⟩
  · subst hq
    obtain ⟨hT, h8, j, g1, g2, g3, g4, g5, g6, g7, g8, g9, g10⟩ := h
    rw [gsr (by omega), gss, g8]
  · rw [gs, if_neg q1, gs, if_neg q2]
theorem test_C {t : Nat} {X : Tx} {m : Nat} (ht : isL t = true) : OC t X m (f_Re_readTest (f_Re_readFact 12) (0 : Int32)) (pO X (pF X 12) 0) := by
  have h := readTest_C (dep := 0) (rf := f_Re_readFact 12) (prf := pF X 12) (m := m) ht (readFact_C ht 12 0 (by decide) (by decide) (by decide)) (pF_pos X 12 0)
  exact h
/-- a clause's sum, and its test -/
theorem body_sum {t c0 : Nat} {X : Tx} {m c : Nat} {r : Rs} {a1 v4 : Int32} {δ : Dm} (ht : isL t = true) (hk : LKd t) (hc1 : 1 ≤ c) (h : Stt t X m c δ r) (h0 : gI δ t 0 = nI c0) (hc : c0 < 14) : ∃ d, jp_Re_readClause_88 a1 v4 δ = some d ∧ Stt t X m c d (rbd r (fun q => rbd (pS X q) (pB2 X true))) ∧ gI d t 0 = nI (c0 + 1) ∧ (∀ q q1 q2, r = .inr q → pS X q = .inr q1 → pB2 X true q1 = .inr q2 → gI d (t + 4) c0 = nI q1.2.2.length ∧ gI d (t + 5) c0 = nI q2.2.2.length) ∧ ∀ b j, b ≠ 7 → ¬ (b = t ∧ j ≤ 1) → b ≠ t + 7 → ¬ (b = t + 4 ∧ j = c0) → ¬ (b = t + 5 ∧ j = c0) → gI d b j = gI δ b j := by
  obtain ⟨t1, t2⟩ := isL_r ht
  obtain ⟨d1, e1, s1, f1⟩ := readSum_C ht c δ r hc1 h
  have h01 : gI d1 t 0 = nI c0 := (f1 t 0 (by omega) (by omega) (by omega)).trans h0
  obtain ⟨r1, hr1⟩ : ∃ r1, rbd r (pS X) = r1 := ⟨_, rfl⟩
  rw [hr1] at s1
  have s2 : Stt t X m c (sI d1 (t + 4) c0 (gI d1 t 1)) r1 := St_put ht (by decide) s1
  obtain ⟨d2, hd2⟩ : ∃ d2, sI d1 (t + 4) c0 (gI d1 t 1) = d2 := ⟨_, rfl⟩
  rw [hd2] at s2
  have key : ∃ d3, (if gI d2 7 5 = (17 : Int32) then ((f_Re_step d2).bind (fun y109 => ((f_Re_readTest (f_Re_readFact 12) (0 : Int32) y109).bind (fun y114 => (jp_Re_readClause_125 a1 v4 y114))))) else (jp_Re_readClause_125 a1 v4 d2)) = jp_Re_readClause_125 a1 v4 d3 ∧ Stt t X m c d3 (rbd r1 (pB2 X true)) ∧ FrE t d2 d3 := by
    cases r1 with
    | inl w =>
      have hk2 := s2.2.2.2.2.2
      rw [hk2, if_neg (by decide)]
      exact ⟨d2, rfl, s2, FrE.refl _ _⟩
    | inr q1 =>
      obtain ⟨hk2, j, hj, k3, k1, k2, k4⟩ := St_at s2
      have hkl := ky_le X q1.1
      rw [hk2, rbd_r]
      unfold pB2
      rw [if_pos rfl]
      by_cases z : kd X q1.1 = 17
      · rw [if_pos z, if_pos (show nI (kd X q1.1) = (17 : Int32) by rw [z]; rfl)]
        obtain ⟨d3, e3, s3, f3⟩ := step_g ht s2 (by omega)
        obtain ⟨d4, e4, s4, f4⟩ := test_C ht (c + 1) d3 _ (by omega) s3
        rw [e3, Option.bind_some, e4, Option.bind_some]
        exact ⟨d4, rfl, St_mono (Nat.le_succ c) s4, f3.trans f4⟩
      · rw [if_neg z, if_neg (show ¬ nI (kd X q1.1) = (17 : Int32) from fun w => z ((kq hkl (by decide)).mp w))]
        exact ⟨d2, rfl, s2, FrE.refl _ _⟩
  obtain ⟨d3, e3, s3, f3⟩ := key
  have h03 : gI d3 t 0 = nI c0 := by
    rw [f3 t 0 (by omega) (by omega) (by omega), ← hd2, gsr (by omega)]; exact h01
  obtain ⟨d4, e4, s4, g0, g5, f4⟩ := endCl (a1 := a1) (v4 := v4) ht hk s3 h03 hc
  refine ⟨d4, ?_, ?_, g0, fun q q1 q2 z1 z2 z3 => ⟨?_, g5 q2 ?_⟩, fun b j q1 q2 q3 q4 q5 => ?_⟩
  · unfold jp_Re_readClause_88
    rw [e1, Option.bind_some, s1.2.1, dR_i (by omega) (by omega)]
    simp only [ocs]
    rw [if_pos ht]
    unfold f_La_endSum
    rw [h01, put_in hk.2.2.2.1 hc, Option.bind_some, Option.bind_some, hd2, e3, e4]
  · rw [← hr1, rbd_rbd] at s4; exact s4
  · subst z1
    rw [rbd_r, z2] at hr1
    subst hr1
    rw [f4 _ _ (by omega) (by omega), f3 _ _ (by omega) (by omega) (by omega), ← hd2, gss]
    obtain ⟨hT, h8, j, g1, g2, g3, g4, g5, g6, g7, g8, g9, g10⟩ := s1
    exact g8
  · subst z1
    rw [rbd_r, z2] at hr1
    subst hr1
    exact z3
  · rw [f4 _ _ (by omega) q5, f3 _ _ q1 (by omega) q3, ← hd2, gs, if_neg q4, f1 _ _ q1 (by omega) q3]
/-- a clause's test alone -/
theorem body_test {t c0 : Nat} {X : Tx} {m c : Nat} {r : Rs} {a1 v4 : Int32} {δ : Dm} (ht : isL t = true) (hk : LKd t) (hc1 : 1 ≤ c) (h : Stt t X m c δ r) (h0 : gI δ t 0 = nI c0) (hc : c0 < 14) : ∃ d, ((f_Re_readTest (f_Re_readFact 12) (0 : Int32) δ).bind (fun y122 => (jp_Re_readClause_125 a1 v4 y122))) = some d ∧ Stt t X m c d (rbd r (pB2 X false)) ∧ gI d t 0 = nI (c0 + 1) ∧ (∀ q q2, r = .inr q → pB2 X false q = .inr q2 → gI d (t + 5) c0 = nI q2.2.2.length) ∧ ∀ b j, b ≠ 7 → ¬ (b = t ∧ j ≤ 1) → b ≠ t + 7 → ¬ (b = t + 5 ∧ j = c0) → gI d b j = gI δ b j := by
  obtain ⟨t1, t2⟩ := isL_r ht
  obtain ⟨d1, e1, s1, f1⟩ := test_C ht c δ r hc1 h
  have h01 : gI d1 t 0 = nI c0 := (f1 t 0 (by omega) (by omega) (by omega)).trans h0
  obtain ⟨d4, e4, s4, g0, g5, f4⟩ := endCl (a1 := a1) (v4 := v4) ht hk s1 h01 hc
  refine ⟨d4, by rw [e1, Option.bind_some, e4], s4, g0, fun q q2 z1 z3 => g5 q2 ?_, fun b j q1 q2 q3 q5 => ?_⟩
  · subst z1; exact z3
  · rw [f4 _ _ (by omega) q5, f1 _ _ q1 (by omega) q3]
