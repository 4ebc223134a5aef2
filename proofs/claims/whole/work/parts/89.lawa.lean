/-! the class's reader: facts -/
theorem ocs_s {o : Option Nat} {F : Nat → Option Dm} : ocs o none (fun t => if isL t = true then (F t).bind (fun y => some y) else none) = ocs o none (fun t => if isL t = true then F t else none) := by
  rw [ocs_b]
  cases ocs o none (fun t => if isL t = true then F t else none) <;> rfl
theorem c149_f {t : Nat} {X : Tx} {m c w : Nat} {rf : Int32 → Dm → Option Dm} {a1 v4 s0 v : Int32} {δ : Dm} (ht : isL t = true) (hc : 1 ≤ c) (h : Stt t X m c δ (.inl w)) : ∃ d, jp_Re_readFact_149 rf a1 v4 s0 v δ = some d ∧ Stt t X m c d (.inl w) ∧ FrE t δ d := by
  unfold jp_Re_readFact_149
  rw [bndE]
  have h1 := use_f (c' := c + 1) (v := gI δ 7 6 + 1) h
  obtain ⟨d1, e1, s1, f1⟩ := step_f (c' := c + 1) h1
  obtain ⟨d2, e2, s2, f2⟩ := readSum_C ht (c + 1) d1 _ (by omega) s1
  obtain ⟨d3, e3, s3, f3⟩ := emit_r (o := -1 - v) ht hc s2
  rw [e1, Option.bind_some, e2, Option.bind_some, ocs_s, e3]
  exact ⟨d3, rfl, s3, fun b j q1 q2 q3 => (((f1.trans f2).trans f3) b j q1 q2 q3).trans (gsr q1)⟩
theorem c149_g {t : Nat} {X : Tx} {m c : Nat} {q : Qs} {rf : Int32 → Dm → Option Dm} {a1 v4 s0 v : Int32} {δ : Dm} (ht : isL t = true) (hc : 1 ≤ c) (h : Stt t X m c δ (.inr q)) (hk : kd X q.1 ≠ 34) (hu : q.2.1 < 60) : ∃ d, jp_Re_readFact_149 rf a1 v4 s0 v δ = some d ∧ Stt t X m c d (rbd (pS X (nx X q.1, q.2.1 + 1, q.2.2)) (fun s => .inr (em s (-1 - v)))) ∧ FrE t δ d := by
  unfold jp_Re_readFact_149
  rw [bndE]
  have h1 := use_g ht h hu
  obtain ⟨d1, e1, s1, f1⟩ := step_g ht h1 hk
  obtain ⟨d2, e2, s2, f2⟩ := readSum_C ht (c + 1) d1 _ (by omega) s1
  obtain ⟨d3, e3, s3, f3⟩ := emit_r (o := -1 - v) ht hc s2
  rw [e1, Option.bind_some, e2, Option.bind_some, ocs_s, e3]
  exact ⟨d3, rfl, s3, fun b j q1 q2 q3 => (((f1.trans f2).trans f3) b j q1 q2 q3).trans (gsr q1)⟩
theorem c135_f {t : Nat} {X : Tx} {m c w : Nat} {rf : Int32 → Dm → Option Dm} {a1 v4 s0 v : Int32} {δ : Dm} (ht : isL t = true) (hc : 1 ≤ c) (h : Stt t X m c δ (.inl w)) : ∃ d, jp_Re_readFact_135 rf a1 v4 s0 v δ = some d ∧ Stt t X m c d (.inl w) ∧ FrE t δ d := by
  unfold jp_Re_readFact_135
  by_cases z : gI δ 7 6 < (60 : Int32)
  · rw [if_pos z]; exact c149_f ht hc h
  · rw [if_neg z]
    obtain ⟨d1, e1, s1, f1⟩ := fail_f (a1 := 3) (c' := c) h
    obtain ⟨d2, e2, s2, f2⟩ := c149_f (rf := rf) (a1 := a1) (v4 := v4) (s0 := s0) (v := v) ht hc s1
    rw [e1, Option.bind_some, e2]
    exact ⟨d2, rfl, s2, f1.trans f2⟩
/-- a comparison -/
theorem cmp_C {t : Nat} {X : Tx} {m : Nat} {rf : Int32 → Dm → Option Dm} {a1 v4 s0 : Int32} (ht : isL t = true) (h20 : v4 ≠ 20) (h31 : v4 ≠ 31) : OC t X m (jp_Re_readFact_39 rf a1 v4 s0) (pC X) := fun c δ r hc h => by
  unfold jp_Re_readFact_39
  rw [if_neg h20, if_neg h31]
  obtain ⟨d1, e1, s1, f1⟩ := readSum_C ht c δ r hc h
  rw [e1, Option.bind_some, bndE]
  have eq : rbd r (pC X) = rbd (rbd r (pS X)) (fun r => if kd X r.1 < 26 ∨ 30 < kd X r.1 then .inl (flw r.1 0) else if 60 ≤ r.2.1 then .inl (flw r.1 3) else rbd (pS X (nx X r.1, r.2.1 + 1, r.2.2)) (fun s => .inr (em s (-1 - nI (kd X r.1))))) := by
    rw [rbd_rbd]; rfl
  rw [eq]
  obtain ⟨r1, hr1⟩ : ∃ r1, rbd r (pS X) = r1 := ⟨_, rfl⟩
  rw [hr1] at s1 ⊢
  cases r1 with
  | inl w =>
    have hk := s1.2.2.2.2.2
    rw [hk, if_neg (show ¬ (35 : Int32) < 26 by decide), if_neg (show ¬ (35 : Int32) ≤ 30 by decide)]
    unfold jp_Re_readFact_130
    obtain ⟨d2, e2, s2, f2⟩ := fail_f (a1 := 0) (c' := c) s1
    obtain ⟨d3, e3, s3, f3⟩ := c135_f (rf := rf) (a1 := a1) (v4 := v4) (s0 := s0) (v := 35) ht hc s2
    rw [e2, Option.bind_some, e3]
    exact ⟨d3, rfl, s3, (f1.trans f2).trans f3⟩
  | inr q =>
    obtain ⟨hk, j, hj, k3, k1, k2, k4⟩ := St_at s1
    have hkl := ky_le X q.1
    rw [hk, rbd_r]
    have bad : (kd X q.1 < 26 ∨ 30 < kd X q.1) → ∃ d, jp_Re_readFact_130 rf a1 v4 s0 (nI (kd X q.1)) d1 = some d ∧ Stt t X m c d (.inl (flw q.1 0)) ∧ FrE t δ d := fun z => by
      unfold jp_Re_readFact_130
      obtain ⟨d2, e2, s2, f2⟩ := fail_g (why := 0) (c' := c) s1 (by decide)
      obtain ⟨d3, e3, s3, f3⟩ := c135_f (rf := rf) (a1 := a1) (v4 := v4) (s0 := s0) (v := nI (kd X q.1)) ht hc s2
      rw [show (0 : Int32) = nI 0 from rfl, e2, Option.bind_some, e3]
      exact ⟨d3, rfl, s3, (f1.trans f2).trans f3⟩
    by_cases z1 : kd X q.1 < 26
    · rw [if_pos (show nI (kd X q.1) < (26 : Int32) from nI_lt (b := 26) z1 (by decide)), if_pos (Or.inl z1)]
      exact bad (Or.inl z1)
    · rw [if_neg (show ¬ nI (kd X q.1) < (26 : Int32) from nI_nlt (a := kd X q.1) (b := 26) (by omega) (by omega))]
      by_cases z2 : 30 < kd X q.1
      · rw [if_neg (show ¬ nI (kd X q.1) ≤ (30 : Int32) from nI_ge (a := 30) (b := kd X q.1) z2 (by omega)), if_pos (Or.inr z2)]
        exact bad (Or.inr z2)
      · rw [if_pos (show nI (kd X q.1) ≤ (30 : Int32) from nI_le (b := 30) (by omega) (by decide)), if_neg (by omega)]
        unfold jp_Re_readFact_135
        rw [k1]
        by_cases y : 60 ≤ q.2.1
        · rw [if_neg (show ¬ nI q.2.1 < (60 : Int32) from nI_nlt (a := q.2.1) (b := 60) y (by omega)), if_pos y]
          obtain ⟨d2, e2, s2, f2⟩ := fail_g (why := 3) (c' := c) s1 (by decide)
          obtain ⟨d3, e3, s3, f3⟩ := c149_f (rf := rf) (a1 := a1) (v4 := v4) (s0 := s0) (v := nI (kd X q.1)) ht hc s2
          rw [show (3 : Int32) = nI 3 from rfl, e2, Option.bind_some, e3]
          exact ⟨d3, rfl, s3, (f1.trans f2).trans f3⟩
        · rw [if_pos (show nI q.2.1 < (60 : Int32) from nI_lt (b := 60) (by omega) (by decide)), if_neg y]
          obtain ⟨d2, e2, s2, f2⟩ := c149_g (rf := rf) (a1 := a1) (v4 := v4) (s0 := s0) (v := nI (kd X q.1)) ht hc s1 (by omega) (by omega)
          exact ⟨d2, e2, s2, f1.trans f2⟩
theorem readFact_C {t : Nat} {X : Tx} {m : Nat} (ht : isL t = true) : ∀ g dep, dep ≤ 10 → 11 ≤ g + dep → 1 ≤ g → OC t X m (f_Re_readFact g (nI dep)) (pF X g dep) := by
  intro g
  induction g with
  | zero => intro dep _ _ h; omega
  | succ g ih =>
    intro dep hd hg _ c δ r hc h
    show ∃ d, f_Re_readFactB (f_Re_readFact g) (nI dep) δ = some d ∧ _
    unfold f_Re_readFactB
    rw [bndE]
    cases r with
    | inl w =>
      have hk := h.2.2.2.2.2
      rw [hk, if_neg (show ¬ (35 : Int32) = 20 by decide), if_neg (show ¬ (35 : Int32) = 31 by decide)]
      unfold jp_Re_readFact_22
      rw [if_pos rfl]
      exact cmp_C ht (by decide) (by decide) c δ _ hc h
    | inr q =>
      obtain ⟨hk, j, hj, k3, k1, k2, k4⟩ := St_at h
      have hkl := ky_le X q.1
      have hp := St_pos h
      rw [hk, rbd_r]
      by_cases z1 : kd X q.1 = 20
      · rw [if_pos (show nI (kd X q.1) = (20 : Int32) by rw [z1]; rfl), show pF X (g + 1) dep q = (if 10 ≤ dep then .inl (flw q.1 2) else rbd (pF X g (dep + 1) (nq X q)) (fun r => .inr (em r (-21)))) from if_pos z1]
        unfold jp_Re_readFact_17 jp_Re_readFact_22
        rw [if_neg (show ¬ (1 : Int32) = 0 by decide)]
        by_cases y : 10 ≤ dep
        · rw [if_neg (show ¬ nI dep < (10 : Int32) from nI_nlt (a := dep) (b := 10) y (by omega)), if_pos y]
          obtain ⟨d1, e1, s1, f1⟩ := fail_g (why := 2) (c' := c) h (by decide)
          rw [show (2 : Int32) = nI 2 from rfl, e1, Option.bind_some]
          exact ⟨d1, rfl, s1, f1⟩
        · rw [if_pos (show nI dep < (10 : Int32) from nI_lt (b := 10) (by omega) (by decide)), if_neg y]
          unfold jp_Re_readFact_39
          rw [if_pos (show nI (kd X q.1) = (20 : Int32) by rw [z1]; rfl), nI_1]
          obtain ⟨d1, e1, s1, f1⟩ := step_g ht h (by omega)
          obtain ⟨d2, e2, s2, f2⟩ := ih (dep + 1) (by omega) (by omega) (by omega) (c + 1) d1 _ (by omega) s1
          obtain ⟨d3, e3, s3, f3⟩ := emit_r (o := -21) ht hc s2
          rw [e1, Option.bind_some, e2, Option.bind_some, ocs_s, e3]
          exact ⟨d3, rfl, s3, (f1.trans f2).trans f3⟩
      · rw [if_neg (show ¬ nI (kd X q.1) = (20 : Int32) from fun w => z1 ((kq hkl (by decide)).mp w))]
        by_cases z2 : kd X q.1 = 31
        · rw [if_pos (show nI (kd X q.1) = (31 : Int32) by rw [z2]; rfl), show pF X (g + 1) dep q = (if 10 ≤ dep then .inl (flw q.1 2) else rbd (pO X (pF X g) (dep + 1) (nq X q)) (fun r => if kd X r.1 = 32 then .inr (nq X r) else .inl (flw r.1 0))) from (if_neg z1).trans (if_pos z2)]
          unfold jp_Re_readFact_17 jp_Re_readFact_22
          rw [if_neg (show ¬ (1 : Int32) = 0 by decide)]
          by_cases y : 10 ≤ dep
          · rw [if_neg (show ¬ nI dep < (10 : Int32) from nI_nlt (a := dep) (b := 10) y (by omega)), if_pos y]
            obtain ⟨d1, e1, s1, f1⟩ := fail_g (why := 2) (c' := c) h (by decide)
            rw [show (2 : Int32) = nI 2 from rfl, e1, Option.bind_some]
            exact ⟨d1, rfl, s1, f1⟩
          · rw [if_pos (show nI dep < (10 : Int32) from nI_lt (b := 10) (by omega) (by decide)), if_neg y]
            unfold jp_Re_readFact_39
            rw [if_neg (show ¬ nI (kd X q.1) = (20 : Int32) from fun w => z1 ((kq hkl (by decide)).mp w)), if_pos (show nI (kd X q.1) = (31 : Int32) by rw [z2]; rfl), nI_1]
            obtain ⟨d1, e1, s1, f1⟩ := step_g ht h (by omega)
            obtain ⟨d2, e2, s2, f2⟩ := readTest_C ht (ih (dep + 1) (by omega) (by omega) (by omega)) (pF_pos X g (dep + 1)) (c + 1) d1 _ (by omega) s1
            rw [e1, Option.bind_some, e2, Option.bind_some]
            rw [rbd_r] at s2
            obtain ⟨r2, hr2⟩ : ∃ r2, pO X (pF X g) (dep + 1) (nq X q) = r2 := ⟨_, rfl⟩
            rw [hr2] at s2 ⊢
            cases r2 with
            | inl w =>
              have hk2 := s2.2.2.2.2.2
              rw [hk2, if_neg (show ¬ (35 : Int32) = 32 by decide)]
              obtain ⟨d3, e3, s3, f3⟩ := fail_f (a1 := 0) (c' := c) s2
              obtain ⟨d4, e4, s4, f4⟩ := step_f (c' := c) s3
              unfold jp_Re_readFact_99
              rw [e3, Option.bind_some, e4]
              exact ⟨d4, rfl, s4, ((f1.trans f2).trans f3).trans f4⟩
            | inr q2 =>
              obtain ⟨hk2, j2, hj2, k32, k12, k22, k42⟩ := St_at s2
              have hkl2 := ky_le X q2.1
              rw [hk2, rbd_r]
              unfold jp_Re_readFact_99
              by_cases x : kd X q2.1 = 32
              · rw [if_pos (show nI (kd X q2.1) = (32 : Int32) by rw [x]; rfl), if_pos x]
                obtain ⟨d3, e3, s3, f3⟩ := step_g ht s2 (by omega)
                rw [e3]
                refine ⟨d3, rfl, ?_, (f1.trans f2).trans f3⟩
                obtain ⟨u1, u2, j, g1, g2, g3, g4, g5, g6, g7, g8, g9, g10⟩ := s3
                exact ⟨u1, u2, j, g1, g2, g3, g4, g5, g6, g7, g8, g9, by omega⟩
              · rw [if_neg (show ¬ nI (kd X q2.1) = (32 : Int32) from fun w => x ((kq hkl2 (by decide)).mp w)), if_neg x]
                obtain ⟨d3, e3, s3, f3⟩ := fail_g (why := 0) (c' := c) s2 (by decide)
                obtain ⟨d4, e4, s4, f4⟩ := step_f (c' := c) s3
                rw [show (0 : Int32) = nI 0 from rfl, e3, Option.bind_some, e4]
                exact ⟨d4, rfl, s4, ((f1.trans f2).trans f3).trans f4⟩
        · rw [if_neg (show ¬ nI (kd X q.1) = (31 : Int32) from fun w => z2 ((kq hkl (by decide)).mp w)), show pF X (g + 1) dep q = pC X q from (if_neg z1).trans (if_neg z2)]
          unfold jp_Re_readFact_22
          rw [if_pos rfl]
          exact cmp_C ht (fun w => z1 ((kq hkl (by decide)).mp w)) (fun w => z2 ((kq hkl (by decide)).mp w)) c δ _ hc h
