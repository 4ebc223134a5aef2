/-! a whole clause; a whole law, as the class reads it -/
theorem Ap_pre {b : Bool} {q r : Qs} (h : Ap b q r) : ∃ s, r.2.2 = q.2.2 ++ s := ⟨h.2.2.choose, h.2.2.choose_spec.1⟩
theorem pB1_pre {X : Tx} {sm : Bool} {q r : Qs} (h : pB1 X sm q = .inr r) : ∃ s, r.2.2 = q.2.2 ++ s := by
  unfold pB1 at h
  by_cases z : sm = true
  · rw [if_pos z] at h; exact Ap_pre (pS_ap h)
  · rw [if_neg z] at h; cases h; exact ⟨[], (List.append_nil _).symm⟩
theorem pB2_pre {X : Tx} {sm : Bool} {q r : Qs} (h : pB2 X sm q = .inr r) : ∃ s, r.2.2 = q.2.2 ++ s := by
  unfold pB2 at h
  by_cases z : sm = true
  · rw [if_pos z] at h
    by_cases y : kd X q.1 = 17
    · rw [if_pos y] at h
      have a := Ap_pre (pX_ap h)
      exact a
    · rw [if_neg y] at h; cases h; exact ⟨[], (List.append_nil _).symm⟩
  · rw [if_neg z] at h; exact Ap_pre (pX_ap h)
theorem SC_add {t c0 s : Nat} {δ d : Dm} {ops s1 s2 : List Int32} {C : List Cz} (h : SC t δ ops C) (hc : C.length = c0) (hf : ∀ b j, t + 1 ≤ b → b ≤ t + 5 → j ≠ c0 → gI d b j = gI δ b j) (h0 : gI d t 0 = nI (c0 + 1)) (h1 : gI d (t + 1) c0 = nI (csort s)) (h2 : s ≠ 11 → gI d (t + 2) c0 = nI (cbath s)) (h3 : gI d (t + 3) c0 = nI ops.length) (h4 : gI d (t + 4) c0 = nI (ops ++ s1).length) (h5 : gI d (t + 5) c0 = nI (ops ++ s1 ++ s2).length) : SC t d (ops ++ s1 ++ s2) (C ++ [(s, s1, s2)]) := by
  obtain ⟨a1, a2⟩ := h
  refine ⟨by rw [h0, List.length_append, hc]; rfl, fun c x hx => ?_⟩
  rw [List.getElem?_append] at hx
  by_cases z : c < C.length
  · rw [if_pos z] at hx
    obtain ⟨b1, b2, a, b3, b4, b5, b6, b7⟩ := a2 c x hx
    have hne : c ≠ c0 := by omega
    rw [hf _ c (by omega) (by omega) hne, hf _ c (by omega) (by omega) hne, hf _ c (by omega) (by omega) hne, hf _ c (by omega) (by omega) hne, hf _ c (by omega) (by omega) hne]
    refine ⟨b1, b2, a, b3, b4, b5, by rw [List.length_append, List.length_append]; omega, fun k o q => ?_⟩
    have q := b7 k o q
    rw [List.append_assoc]
    exact slice1 q
  · rw [if_neg z] at hx
    have hl := idx_lt hx
    rw [List.length_cons, List.length_nil] at hl
    have e : c = c0 := by omega
    rw [e, hc, Nat.sub_self] at hx
    subst e
    obtain rfl := Option.some.inj hx
    refine ⟨h1, h2, ops.length, h3, by rw [h4, List.length_append], by rw [h5, List.length_append, List.length_append], by rw [List.length_append, List.length_append]; exact Nat.le_refl _, fun k o q => ?_⟩
    rw [List.append_assoc]
    exact slice2 q
theorem csort_9 {k b : Nat} (hk : k = 9 ∨ k = 10) (hb : b ≤ 2) : csort (3 * (k - 9) + b) = k ∧ cbath (3 * (k - 9) + b) = b := by
  rcases hk with rfl | rfl
  · unfold csort cbath
    rw [if_pos (by omega), if_pos (by omega)]; omega
  · unfold csort cbath
    rw [if_neg (by omega), if_pos (by omega), if_neg (by omega), if_pos (by omega)]; omega
theorem csort_12 {k : Nat} (hk : 12 ≤ k) (hb : k ≤ 16) : csort (k - 6) = k ∧ cbath (k - 6) = 0 := by
  unfold csort cbath
  rw [if_neg (by omega), if_neg (by omega), if_neg (by omega), if_neg (by omega), if_neg (by omega)]; omega
/-- from the clause's memory to its list -/
theorem mk_SZ {t c0 s : Nat} {X : Tx} {m c : Nat} {z : Zs} {sm : Bool} {q : Qs} {δ d : Dm} (h : SC t δ z.1.2.2 z.2.1) (hq : q.2.2 = z.1.2.2) (hW : ∀ k, k < 3 → gI d (t + 6) k = z.2.2 k) (hc : z.2.1.length = c0) (hc0 : c0 < 14) (hS : Stt t X m c d (rbd (pB1 X sm q) (pB2 X sm))) (hf : ∀ b j, t + 1 ≤ b → b ≤ t + 5 → j ≠ c0 → gI d b j = gI δ b j) (h0 : gI d t 0 = nI (c0 + 1)) (h1 : gI d (t + 1) c0 = nI (csort s)) (h2 : s ≠ 11 → gI d (t + 2) c0 = nI (cbath s)) (h3 : gI d (t + 3) c0 = nI q.2.2.length) (h45 : ∀ q1 q2, pB1 X sm q = .inr q1 → pB2 X sm q1 = .inr q2 → gI d (t + 4) c0 = nI q1.2.2.length ∧ gI d (t + 5) c0 = nI q2.2.2.length) : SZ t X m c d (pB X s sm z q) := by
  unfold pB
  obtain ⟨r1, hr1⟩ : ∃ r1, pB1 X sm q = r1 := ⟨_, rfl⟩
  rw [hr1] at hS ⊢
  cases r1 with
  | inl w => exact hS
  | inr q1 =>
    rw [rbd_r] at hS
    obtain ⟨r2, hr2⟩ : ∃ r2, pB2 X sm q1 = r2 := ⟨_, rfl⟩
    show SZ t X m c d (rzb (pB2 X sm q1) _)
    rw [hr2] at hS ⊢
    cases r2 with
    | inl w => exact hS
    | inr q2 =>
      obtain ⟨g4, g5⟩ := h45 q1 q2 hr1 hr2
      obtain ⟨s1, e1⟩ := pB1_pre hr1
      obtain ⟨s2, e2⟩ := pB2_pre hr2
      refine ⟨hS, ?_, hW, by show (z.2.1 ++ [_]).length ≤ 14; rw [List.length_append, hc]; exact hc0⟩
      show SC t d q2.2.2 (z.2.1 ++ [(s, slc q.2.2 q1.2.2, slc q1.2.2 q2.2.2)])
      have e3 : slc q.2.2 q1.2.2 = s1 := by rw [e1, slc_app]
      have e4 : slc q1.2.2 q2.2.2 = s2 := by rw [e2, slc_app]
      rw [e3, e4, e2, e1, hq]
      exact SC_add h hc hf h0 h1 h2 (by rw [h3, hq]) (by rw [g4, e1, hq]) (by rw [g5, e2, e1, hq])
theorem clause_C {t : Nat} {X : Tx} {m : Nat} {z : Zs} {δ : Dm} (ht : isL t = true) (hk : LKd t) (h : SZ t X m 1 δ (.inr z)) : ∃ d, f_Re_readClause (nI z.2.1.length) δ = some d ∧ SZ t X m 1 d (pCl X z) ∧ FrZl t δ d := by
  obtain ⟨t1, t2⟩ := isL_r ht
  obtain ⟨hS, hC, hW, hl⟩ := h
  obtain ⟨hkd, -⟩ := St_at hS
  have hkl := ky_le X z.1.1
  obtain ⟨k, hkk⟩ : ∃ k, kd X z.1.1 = k := ⟨_, rfl⟩
  obtain ⟨c0, hc0⟩ : ∃ c0, z.2.1.length = c0 := ⟨_, rfl⟩
  unfold f_Re_readClause pCl
  rw [bndE, hkd, within_eq, Option.bind_some, hkk, hc0]
  rw [hkk] at hkl
  rw [hc0] at hl
  by_cases y1 : k < 9 ∨ 16 < k
  · rw [if_pos y1, if_pos (by rw [bI_0, show (9 : Int32) = nI 9 from rfl, show (16 : Int32) = nI 16 from rfl, leN (by decide) (by omega), leN (by omega) (by decide)]; omega)]
    obtain ⟨d, e1, e2, e3⟩ := fail_g (why := 0) (c' := 1) hS (by decide)
    rw [show (0 : Int32) = nI 0 from rfl, e1]
    exact ⟨d, rfl, e2, e3.Zl⟩
  rw [if_neg y1, if_neg (by rw [bI_0, show (9 : Int32) = nI 9 from rfl, show (16 : Int32) = nI 16 from rfl, leN (by decide) (by omega), leN (by omega) (by decide)]; omega)]
  by_cases y2 : 14 ≤ c0
  · rw [if_pos y2, if_neg (show ¬ nI c0 < (14 : Int32) from nI_nlt (a := c0) (b := 14) y2 (by omega))]
    obtain ⟨d, e1, e2, e3⟩ := fail_g (why := 4) (c' := 1) hS (by decide)
    rw [show (4 : Int32) = nI 4 from rfl, e1]
    exact ⟨d, rfl, e2, e3.Zl⟩
  have hc : c0 < 14 := by omega
  rw [if_neg y2, if_pos (show nI c0 < (14 : Int32) from nI_lt (b := 14) hc (by decide))]
  obtain ⟨d1, e1, s1, f1⟩ := step_g ht hS (by omega)
  have h01 : gI d1 t 0 = nI c0 := by rw [f1 t 0 (by omega) (by omega) (by omega), hC.1, hc0]
  have hlen : gI d1 t 1 = nI z.1.2.2.length := s1.2.2.choose_spec.2.2.2.2.2.2.2.1
  obtain ⟨d2, hd2⟩ : ∃ d2, sI (sI (sI (sI (sI d1 (t + 1) c0 (nI k)) (t + 2) c0 0) (t + 3) c0 (gI d1 t 1)) (t + 4) c0 (gI d1 t 1)) (t + 5) c0 (gI d1 t 1) = d2 := ⟨_, rfl⟩
  have s2 : Stt t X m 2 d2 (.inr (nq X z.1)) := by
    rw [← hd2]
    exact St_put ht (by decide) (St_put ht (by decide) (St_put ht (by decide) (St_put ht (by decide) (St_put ht (by decide) s1))))
  have b2 : f_La_beginClause t (nI k) d1 = some d2 := by rw [begin_eq hk h01 hc, hd2]
  have f2 : ∀ b j, (b < t + 1 ∨ t + 5 < b ∨ j ≠ c0) → gI d2 b j = gI d1 b j := fun b j q => by
    rw [← hd2, gs, if_neg (by omega), gs, if_neg (by omega), gs, if_neg (by omega), gs, if_neg (by omega), gs, if_neg (by omega)]
  have c1 : gI d2 (t + 1) c0 = nI k := by rw [← hd2, gsr (by omega), gsr (by omega), gsr (by omega), gsr (by omega), gss]
  have c2 : gI d2 (t + 2) c0 = 0 := by rw [← hd2, gsr (by omega), gsr (by omega), gsr (by omega), gss]
  have c3 : gI d2 (t + 3) c0 = nI z.1.2.2.length := by rw [← hd2, gsr (by omega), gsr (by omega), gss, hlen]
  have c4 : gI d2 (t + 4) c0 = nI z.1.2.2.length := by rw [← hd2, gsr (by omega), gss, hlen]
  have h02 : gI d2 t 0 = nI c0 := by rw [f2 _ _ (by omega)]; exact h01
  have hW2 : ∀ k, k < 3 → gI d2 (t + 6) k = z.2.2 k := fun k hk3 => by rw [f2 _ _ (by omega), f1 _ _ (by omega) (by omega) (by omega)]; exact hW k hk3
  have g2 : ∀ b j, t + 1 ≤ b → b ≤ t + 5 → j ≠ c0 → gI d2 b j = gI δ b j := fun b j q1 q2 q3 => by rw [f2 _ _ (by omega), f1 _ _ (by omega) (by omega) (by omega)]
  have o2 : FrZl t δ d2 := fun b j q1 q2 => by rw [f2 _ _ (by omega), f1.Zl _ _ q1 q2]
  rw [e1, Option.bind_some, s1.2.1, dR_i (by omega) (by omega)]
  simp only [ocs]
  rw [if_pos ht, b2, Option.bind_some]
  by_cases y3 : k = 11
  · subst y3
    rw [if_pos rfl, if_neg (show ¬ (11 : Int32) < nI 11 by decide)]
    obtain ⟨d, w1, w2, w3, w4⟩ := weak_C (a1 := nI c0) ht hk s2 h02 hc hW2
    refine ⟨d, w1, ?_, fun b j q1 q2 => by rw [w3 _ _ q1 (by omega) (by omega) (by omega) (by omega) (by omega), o2 _ _ q1 q2]⟩
    rcases w4 with ⟨w, s, hF⟩ | ⟨b, v, p1, p2, p3, s, p5, p6⟩
    · rw [show (rzb (pN X 2 (nq X z.1)) fun b => if z.2.2 b = -1 then rzb (pN X 999 (nq X (nq X z.1))) fun v => .inr (nq X (nq X (nq X z.1)), z.2.1 ++ [(11, [], [])], fun k => if k = b then nI v else z.2.2 k) else .inl (flw (nx X z.1.1) 4)) = .inl w from hF _]
      exact s
    · rw [p1]
      show SZ t X m 1 d (if z.2.2 b = -1 then _ else _)
      rw [if_pos p2, p3]
      refine ⟨St_mono (by decide) s, ?_, p6, by show (z.2.1 ++ [_]).length ≤ 14; rw [List.length_append, hc0]; exact hc⟩
      have := SC_add (s := 11) (s1 := []) (s2 := []) (d := d) hC hc0 (fun b j q1 q2 q3 => by rw [w3 _ _ (by omega) (by omega) (by omega) (by omega) (by omega) (by omega)]; exact g2 b j q1 q2 q3) w2
        (by rw [w3 _ _ (by omega) (by omega) (by omega) (by omega) (by omega) (by omega), c1]; rfl) (fun q => absurd rfl q)
        (by rw [w3 _ _ (by omega) (by omega) (by omega) (by omega) (by omega) (by omega)]; exact c3)
        (by rw [w3 _ _ (by omega) (by omega) (by omega) (by omega) (by omega) (by omega), List.append_nil]; exact c4)
        (by rw [p5, List.append_nil, List.append_nil]; rfl)
      rw [List.append_nil, List.append_nil] at this
      exact this
  rw [if_neg y3]
  by_cases y4 : k < 11
  · rw [if_pos y4, if_neg (show ¬ (11 : Int32) < nI k from nI_nlt (a := 11) (b := k) (by omega) (by omega))]
    have hk9 : k = 9 ∨ k = 10 := by omega
    obtain ⟨v, d3, b3, hv, s3, g3, hu, f3⟩ := bath_C (a1 := nI k) ht hk s2 h02 hc (fun w => y3 ((nI_eq (b := 11) (by omega) (by decide)).mp w))
    have h03 : gI d3 t 0 = nI c0 := by rw [f3 _ _ (by omega) (by omega) (by omega) (by omega)]; exact h02
    obtain ⟨d, b4, s4, g0, g45, f4⟩ := body_sum (a1 := nI c0) (v4 := nI k) ht hk (by decide) s3 h03 hc
    refine ⟨d, ?_, ?_, fun b j q1 q2 => by rw [f4 _ _ q1 (by omega) (by omega) (by omega) (by omega), f3 _ _ q1 (by omega) (by omega) (by omega), o2 _ _ q1 q2]⟩
    · rw [b3, Option.bind_some]
      unfold jp_Re_readClause_57
      rcases hk9 with rfl | rfl
      · rw [if_neg (by decide), if_pos (by decide)]; exact b4
      · rw [if_neg (by decide), if_neg (by decide), if_pos (by decide)]; exact b4
    · rw [rbd_r] at s4 g45
      obtain ⟨x, hx⟩ : ∃ x, pN X 2 (nq X z.1) = x := ⟨_, rfl⟩
      rw [hx]
      cases x with
      | inl w =>
        rw [nR_l hx] at s4
        exact s4
      | inr u =>
        have hvu := hu (nq X z.1) rfl u hx
        subst hvu
        rw [nR_r hx] at s4 g45
        obtain ⟨q1, q2⟩ := csort_9 hk9 hv
        show SZ t X m 1 d (pB X _ true z (nq X (nq X z.1)))
        refine mk_SZ (c0 := c0) hC rfl (fun k hk3 => ?_) hc0 hc (St_mono (by decide) s4) (fun b j q1 q2 q3 => ?_) g0 ?_ (fun _ => ?_) ?_ (fun r1 r2 z1 z2 => g45 _ r1 r2 rfl z1 z2)
        · rw [f4 _ _ (by omega) (by omega) (by omega) (by omega) (by omega), f3 _ _ (by omega) (by omega) (by omega) (by omega)]; exact hW2 k hk3
        · rw [f4 _ _ (by omega) (by omega) (by omega) (by omega) (by omega), f3 _ _ (by omega) (by omega) (by omega) (by omega)]; exact g2 b j q1 q2 q3
        · rw [q1, f4 _ _ (by omega) (by omega) (by omega) (by omega) (by omega), f3 _ _ (by omega) (by omega) (by omega) (by omega)]; exact c1
        · rw [q2, f4 _ _ (by omega) (by omega) (by omega) (by omega) (by omega)]; exact g3
        · rw [f4 _ _ (by omega) (by omega) (by omega) (by omega) (by omega), f3 _ _ (by omega) (by omega) (by omega) (by omega)]; exact c3
  · rw [if_neg y4, if_pos (show (11 : Int32) < nI k from nI_lt (a := 11) (by omega) (by omega))]
    obtain ⟨q1, q2⟩ := csort_12 (k := k) (by omega) (by omega)
    unfold jp_Re_readClause_57
    have ne : ∀ n, n < 36 → n ≠ k → ¬ nI k = nI n := fun n hn hk w => hk ((nI_eq (by omega) (by omega)).mp w).symm
    rw [if_neg (show ¬ nI k = 11 from ne 11 (by decide) (by omega)), if_neg (show ¬ nI k = 9 from ne 9 (by decide) (by omega)), if_neg (show ¬ nI k = 10 from ne 10 (by decide) (by omega))]
    by_cases y5 : k = 16
    · rw [if_pos (show nI k = 16 by rw [y5]; rfl), decide_eq_true y5]
      obtain ⟨d, b4, s4, g0, g45, f4⟩ := body_sum (a1 := nI c0) (v4 := nI k) ht hk (by decide) s2 h02 hc
      refine ⟨d, b4, ?_, fun b j q1 q2 => by rw [f4 _ _ q1 (by omega) (by omega) (by omega) (by omega), o2 _ _ q1 q2]⟩
      refine mk_SZ (c0 := c0) hC rfl (fun k hk3 => ?_) hc0 hc (St_mono (by decide) s4) (fun b j q1 q2 q3 => ?_) g0 ?_ (fun _ => ?_) ?_ (fun r1 r2 z1 z2 => g45 _ r1 r2 rfl z1 z2)
      · rw [f4 _ _ (by omega) (by omega) (by omega) (by omega) (by omega)]; exact hW2 k hk3
      · rw [f4 _ _ (by omega) (by omega) (by omega) (by omega) (by omega)]; exact g2 b j q1 q2 q3
      · rw [q1, f4 _ _ (by omega) (by omega) (by omega) (by omega) (by omega)]; exact c1
      · rw [q2, f4 _ _ (by omega) (by omega) (by omega) (by omega) (by omega)]; exact c2
      · rw [f4 _ _ (by omega) (by omega) (by omega) (by omega) (by omega)]; exact c3
    · rw [if_neg (show ¬ nI k = 16 from ne 16 (by decide) (fun w => y5 w.symm)), decide_eq_false y5]
      obtain ⟨d, b4, s4, g0, g5, f4⟩ := body_test (a1 := nI c0) (v4 := nI k) ht hk (by decide) s2 h02 hc
      refine ⟨d, b4, ?_, fun b j q1 q2 => by rw [f4 _ _ q1 (by omega) (by omega) (by omega), o2 _ _ q1 q2]⟩
      refine mk_SZ (c0 := c0) hC rfl (fun k hk3 => ?_) hc0 hc (St_mono (by decide) s4) (fun b j q1 q2 q3 => ?_) g0 ?_ (fun _ => ?_) ?_ (fun r1 r2 z1 z2 => ⟨?_, ?_⟩)
      · rw [f4 _ _ (by omega) (by omega) (by omega) (by omega)]; exact hW2 k hk3
      · rw [f4 _ _ (by omega) (by omega) (by omega) (by omega)]; exact g2 b j q1 q2 q3
      · rw [q1, f4 _ _ (by omega) (by omega) (by omega) (by omega)]; exact c1
      · rw [q2, f4 _ _ (by omega) (by omega) (by omega) (by omega)]; exact c2
      · rw [f4 _ _ (by omega) (by omega) (by omega) (by omega)]; exact c3
      · cases z1
        rw [f4 _ _ (by omega) (by omega) (by omega) (by omega)]; exact c4
      · cases z1
        exact g5 _ r2 rfl z2
