/-! a whole clause, as the class reads it -/
theorem fail_r {t : Nat} {X : Tx} {m c why : Nat} {r : Rs} {δ : Dm} (h : Stt t X m c δ r) (hw : why ≤ 4) : ∃ d, f_Re_fail (nI why) δ = some d ∧ Stt t X m c d (rbd r (fun q => .inl (flw q.1 why))) ∧ FrE t δ d := by
  cases r with
  | inl w => exact fail_f h
  | inr q => exact fail_g h hw
theorem nR_in {X : Tx} {hi : Nat} {q q' : Qs} (h : nR X hi q = .inr q') : q' = q ∧ kd X q.1 = 21 ∧ ∃ u, pN X hi q = .inr u := by
  unfold nR at h
  obtain ⟨x, hx⟩ : ∃ x, pN X hi q = x := ⟨_, rfl⟩
  rw [hx] at h
  cases x with
  | inl w => cases h
  | inr u =>
    cases h
    refine ⟨rfl, ?_, u, hx⟩
    unfold pN at hx
    by_cases z : kd X q.1 = 21
    · exact z
    · rw [if_neg z] at hx; cases hx
theorem nR_r {X : Tx} {hi u : Nat} {q : Qs} (h : pN X hi q = .inr u) : nR X hi q = .inr q := by unfold nR; rw [h]
theorem nR_l {X : Tx} {hi w : Nat} {q : Qs} (h : pN X hi q = .inl w) : nR X hi q = .inl w := by unfold nR; rw [h]
theorem bath32 {t c0 : Nat} {X : Tx} {m c : Nat} {r : Rs} {a1 v : Int32} {δ : Dm} (ht : isL t = true) (hk : LKd t) (h : Stt t X m c δ r) (h0 : gI δ t 0 = nI c0) (hc : c0 < 14) (hq : ∀ q, r = .inr q → kd X q.1 ≠ 34) : ∃ d, jp_Re_readBath_32 a1 v δ = some d ∧ Stt t X m c d (rbd r (fun q => .inr (nq X q))) ∧ gI d (t + 2) c0 = v ∧ ∀ b j, b ≠ 7 → ¬ (b = t ∧ j = 1) → b ≠ t + 7 → ¬ (b = t + 2 ∧ j = c0) → gI d b j = gI δ b j := by
  obtain ⟨t1, t2⟩ := isL_r ht
  obtain ⟨d, e, s, f⟩ := step_r ht (St_put (o := 2) (i := c0) (v := v) ht (by decide) h) hq
  refine ⟨d, ?_, s, by rw [f _ _ (by omega) (by omega) (by omega), gss], fun b j q1 q2 q3 q4 => by rw [f _ _ q1 q2 q3, gs, if_neg q4]⟩
  unfold jp_Re_readBath_32
  rw [h.2.1, dR_i (by omega) (by omega)]
  simp only [ocs]
  rw [if_pos ht, if_pos ht, h0, put_in hk.2.1 hc, Option.bind_some, e]; rfl
theorem bath_C {t c0 : Nat} {X : Tx} {m c : Nat} {r : Rs} {a1 : Int32} {δ : Dm} (ht : isL t = true) (hk : LKd t) (h : Stt t X m c δ r) (h0 : gI δ t 0 = nI c0) (hc : c0 < 14) (ha : a1 ≠ 11) : ∃ v d, f_Re_readBath a1 δ = some d ∧ v ≤ 2 ∧ Stt t X m c d (rbd (rbd r (nR X 2)) (fun q => .inr (nq X q))) ∧ gI d (t + 2) c0 = nI v ∧ (∀ q, r = .inr q → ∀ u, pN X 2 q = .inr u → v = u) ∧ ∀ b j, b ≠ 7 → ¬ (b = t ∧ j = 1) → b ≠ t + 7 → ¬ (b = t + 2 ∧ j = c0) → gI d b j = gI δ b j := by
  obtain ⟨t1, t2⟩ := isL_r ht
  obtain ⟨v, d1, e1, hv, s1, hu, f1⟩ := numH (hi := 2) (by decide) h
  have h01 : gI d1 t 0 = nI c0 := (f1 t 0 (by omega) (by omega) (by omega)).trans h0
  obtain ⟨d, e, s, g, f⟩ := bath32 (a1 := a1) (v := nI v) ht hk s1 h01 hc (fun q hq => by
    cases r with
    | inl w => cases hq
    | inr q0 =>
      obtain ⟨a, b, -⟩ := nR_in hq
      rw [a]; omega)
  refine ⟨v, d, ?_, hv, s, g, fun q hq u h => (hu q hq u h).1, fun b j q1 q2 q3 q4 => by rw [f _ _ q1 q2 q3 q4, f1 _ _ q1 q2 q3]⟩
  unfold f_Re_readBath
  rw [show (2 : Int32) = nI 2 from rfl, e1, Option.bind_some, bndE, bndE, if_neg ha, e]
/-- a weak clause -/
theorem weak_C {t c0 : Nat} {X : Tx} {m c : Nat} {q : Qs} {a1 : Int32} {δ : Dm} {W : Nat → Int32} (ht : isL t = true) (hk : LKd t) (h : Stt t X m c δ (.inr q)) (h0 : gI δ t 0 = nI c0) (hc : c0 < 14) (hW : ∀ k, k < 3 → gI δ (t + 6) k = W k) : ∃ d, ((f_Re_readBath 11 δ).bind (fun y54 => jp_Re_readClause_57 a1 11 y54)) = some d ∧ gI d t 0 = nI (c0 + 1) ∧ (∀ b j, b ≠ 7 → ¬ (b = t ∧ j ≤ 1) → b ≠ t + 7 → ¬ (b = t + 2 ∧ j = c0) → ¬ (b = t + 5 ∧ j = c0) → b ≠ t + 6 → gI d b j = gI δ b j) ∧ ((∃ w, Stt t X m c d (.inl w) ∧ ∀ F : Nat → Nat → Rz, (rzb (pN X 2 q) fun b => if W b = -1 then rzb (pN X 999 (nq X q)) (F b) else .inl (flw q.1 4)) = .inl w) ∨ ∃ b v, pN X 2 q = .inr b ∧ W b = -1 ∧ pN X 999 (nq X q) = .inr v ∧ Stt t X m c d (.inr (nq X (nq X q))) ∧ gI d (t + 5) c0 = nI q.2.2.length ∧ ∀ k, k < 3 → gI d (t + 6) k = if k = b then nI v else W k) := by
  obtain ⟨t1, t2⟩ := isL_r ht
  obtain ⟨v, d1, e1, hv, s1, hu, f1⟩ := numH (hi := 2) (by decide) h
  rw [rbd_r] at s1
  have h01 : gI d1 t 0 = nI c0 := (f1 t 0 (by omega) (by omega) (by omega)).trans h0
  have hy : gI d1 (t + 6) v = W v := (f1 _ _ (by omega) (by omega) (by omega)).trans (hW v (by omega))
  have k1 : ∃ d2, (if W v = (-1 : Int32) then (jp_Re_readBath_32 11 (nI v) d1) else ((f_Re_fail (4 : Int32) d1).bind (fun y29 => (jp_Re_readBath_32 11 (nI v) y29)))) = jp_Re_readBath_32 11 (nI v) d2 ∧ Stt t X m c d2 (rbd (nR X 2 q) (fun q => if W v = -1 then .inr q else .inl (flw q.1 4))) ∧ FrE t d1 d2 := by
    by_cases z : W v = -1
    · rw [if_pos z]
      refine ⟨d1, rfl, ?_, FrE.refl _ _⟩
      rw [show (fun q : Qs => if W v = -1 then (.inr q : Rs) else .inl (flw q.1 4)) = Sum.inr from funext fun q => if_pos z, rbd_i]
      exact s1
    · rw [if_neg z]
      obtain ⟨d2, e2, s2, f2⟩ := fail_r (why := 4) s1 (by decide)
      rw [show (4 : Int32) = nI 4 from rfl, e2]
      refine ⟨d2, rfl, ?_, f2⟩
      rw [show (fun q : Qs => if W v = -1 then (.inr q : Rs) else .inl (flw q.1 4)) = (fun q => .inl (flw q.1 4)) from funext fun q => if_neg z]
      exact s2
  obtain ⟨d2, e2, s2, f2⟩ := k1
  obtain ⟨r2, hr2⟩ : ∃ r2, rbd (nR X 2 q) (fun q => if W v = -1 then .inr q else .inl (flw q.1 4)) = r2 := ⟨_, rfl⟩
  rw [hr2] at s2
  have r2q : ∀ q', r2 = .inr q' → q' = q ∧ kd X q.1 = 21 ∧ W v = -1 ∧ pN X 2 q = .inr v := fun q' hq' => by
    rw [hq'] at hr2
    obtain ⟨p, p1, p2⟩ := rbd_in hr2
    obtain ⟨a, b, u, hu'⟩ := nR_in p1
    have := (hu q rfl u hu').1
    subst this
    by_cases z : W v = -1
    · rw [if_pos z] at p2; cases p2; exact ⟨a, b, z, hu'⟩
    · rw [if_neg z] at p2; cases p2
  have h02 : gI d2 t 0 = nI c0 := (f2 t 0 (by omega) (by omega) (by omega)).trans h01
  obtain ⟨d3, e3, s3, g3, f3⟩ := bath32 (a1 := 11) (v := nI v) ht hk s2 h02 hc (fun q' hq => by
    obtain ⟨a, b, -⟩ := r2q q' hq
    rw [a]; omega)
  have h03 : gI d3 t 0 = nI c0 := (f3 t 0 (by omega) (by omega) (by omega) (by omega)).trans h02
  obtain ⟨v2, d4, e4, hv2, s4, hu2, f4⟩ := numH (hi := 999) (by decide) s3
  obtain ⟨d5, hd5⟩ : ∃ d5, sI d4 (t + 6) v (nI v2) = d5 := ⟨_, rfl⟩
  have s5 := St_put (o := 6) (i := v) (v := nI v2) ht (by decide) s4
  rw [hd5] at s5
  have r4q : ∀ q', rbd (rbd r2 (fun q => .inr (nq X q))) (nR X 999) = .inr q' → q' = nq X q ∧ kd X q'.1 = 21 ∧ W v = -1 ∧ pN X 2 q = .inr v ∧ pN X 999 (nq X q) = .inr v2 := fun q' hq' => by
    obtain ⟨p, p1, p2⟩ := rbd_in hq'
    obtain ⟨p', p3, p4⟩ := rbd_in p1
    obtain ⟨a, b, c, e⟩ := r2q p' p3
    subst a
    cases p4
    obtain ⟨a, b', u, hu'⟩ := nR_in p2
    have hvu := (hu2 (nq X p') p1 u hu').1
    subst hvu
    exact ⟨a, by rw [a]; exact b', c, e, hu'⟩
  obtain ⟨d6, e6, s6, f6⟩ := step_r ht s5 (fun q' hq => by have := (r4q q' hq).2.1; omega)
  have h06 : gI d6 t 0 = nI c0 := by
    rw [f6 t 0 (by omega) (by omega) (by omega), ← hd5, gsr (by omega), f4 t 0 (by omega) (by omega) (by omega)]; exact h03
  obtain ⟨d7, e7, s7, g0, g5, f7⟩ := endCl (a1 := a1) (v4 := 11) ht hk s6 h06 hc
  have hrun : ((f_Re_readBath 11 δ).bind (fun y54 => jp_Re_readClause_57 a1 11 y54)) = some d7 := by
    unfold f_Re_readBath
    rw [show (2 : Int32) = nI 2 from rfl, e1, Option.bind_some, bndE, bndE, if_pos rfl, s1.2.1, dR_i (by omega) (by omega)]
    simp only [ocs]
    rw [if_pos ht, get_in hk.2.2.2.2.2.1 (by omega), Option.bind_some, hy, e2, e3, Option.bind_some]
    unfold jp_Re_readClause_57
    rw [if_pos rfl]
    unfold f_Re_readWeak
    rw [s3.2.1, dR_i (by omega) (by omega)]
    simp only [ocs]
    rw [if_pos ht, if_pos ht, if_pos ht, h03, get_in hk.2.1 hc, Option.bind_some, g3, show (999 : Int32) = nI 999 from rfl, e4, Option.bind_some, bndE, bndE, put_in hk.2.2.2.2.2.1 (by omega), Option.bind_some, hd5, e6]
    exact e7
  refine ⟨d7, hrun, g0, fun b j q1 q2 q3 q4 q5 q6 => ?_, ?_⟩
  · rw [f7 _ _ (by omega) q5, f6 _ _ q1 (by omega) q3, ← hd5, gsr q6, f4 _ _ q1 (by omega) q3, f3 _ _ q1 (by omega) q3 q4, f2 _ _ q1 (by omega) q3, f1 _ _ q1 (by omega) q3]
  · have fin : ∀ w, rbd (rbd (rbd r2 (fun q => .inr (nq X q))) (nR X 999)) (fun q => .inr (nq X q)) = .inl w → Stt t X m c d7 (.inl w) := fun w hw => by rw [hw] at s7; exact s7
    obtain ⟨x, hx⟩ : ∃ x, pN X 2 q = x := ⟨_, rfl⟩
    cases x with
    | inl w =>
      refine Or.inl ⟨w, fin w ?_, fun F => by rw [hx]; rfl⟩
      rw [← hr2, nR_l hx]; rfl
    | inr u =>
      have hvu := (hu q rfl u hx).1
      subst hvu
      by_cases z : W v = -1
      · have hr2' : r2 = .inr q := by rw [← hr2, nR_r hx, rbd_r, if_pos z]
        obtain ⟨y, hy⟩ : ∃ y, pN X 999 (nq X q) = y := ⟨_, rfl⟩
        cases y with
        | inl w =>
          refine Or.inl ⟨w, fin w ?_, fun F => ?_⟩
          · rw [hr2', rbd_r, rbd_r, nR_l hy]; rfl
          · rw [hx]
            show (if W v = -1 then rzb (pN X 999 (nq X q)) (F v) else _) = _
            rw [if_pos z, hy]; rfl
        | inr u2 =>
          have hvu := (hu2 (nq X q) (by rw [hr2']; rfl) u2 hy).1
          subst hvu
          have hfin : rbd (rbd (rbd r2 (fun q => .inr (nq X q))) (nR X 999)) (fun q => .inr (nq X q)) = .inr (nq X (nq X q)) := by rw [hr2', rbd_r, rbd_r, nR_r hy]; rfl
          refine Or.inr ⟨v, v2, hx, z, hy, by rw [hfin] at s7; exact s7, (by have a := g5 _ hfin; exact a), fun k hk3 => ?_⟩
          rw [f7 _ _ (by omega) (by omega), f6 _ _ (by omega) (by omega) (by omega), ← hd5]
          by_cases y : k = v
          · subst y; rw [gss, if_pos rfl]
          · rw [gsc y, if_neg y, f4 _ _ (by omega) (by omega) (by omega), f3 _ _ (by omega) (by omega) (by omega) (by omega), f2 _ _ (by omega) (by omega) (by omega), f1 _ _ (by omega) (by omega) (by omega)]
            exact hW k hk3
      · refine Or.inl ⟨flw q.1 4, fin _ ?_, fun F => ?_⟩
        · rw [← hr2, nR_r hx, rbd_r, if_neg z]; rfl
        · rw [hx]
          show (if W v = -1 then _ else _) = _
          rw [if_neg z]
