/-! the class's reader: facts and tests -/
theorem pS_g {X : Tx} {p : Nat} {u : Nat} {l : List Int32} {r : Qs} (h : pS X (p, u, l) = .inr r) : p < r.1 := pS_pos X _ _ h
theorem pC_pos (X : Tx) : Pos (pC X) := rbd_pos (pS_pos X) (fun q r h => by
  by_cases z : kd X q.1 < 26 ∨ 30 < kd X q.1
  · rw [if_pos z] at h; cases h
  · rw [if_neg z] at h
    by_cases y : 60 ≤ q.2.1
    · rw [if_pos y] at h; cases h
    · rw [if_neg y] at h
      obtain ⟨s, h1, h2⟩ := rbd_in h
      have a := pS_g h1
      have b := nx_gt X q.1
      cases h2
      show q.1 ≤ s.1
      omega)
theorem pA'_pos (X : Tx) {rf : Nat → Qs → Rs} {dep : Nat} (hr : Pos (rf dep)) : ∀ f, Pos0 (pA' X rf dep f) := by
  intro f
  induction f with
  | zero => intro q r h; cases h; exact Nat.le_refl _
  | succ f ih =>
    intro q r h
    unfold pA' at h
    by_cases z : kd X q.1 = 19
    · rw [if_pos z] at h
      obtain ⟨s, h1, h2⟩ := rbd_in h
      have a : nx X q.1 < s.1 := hr _ _ h1
      have b : (em s (-20)).1 ≤ r.1 := ih _ _ h2
      have b : s.1 ≤ r.1 := b
      have c := nx_gt X q.1
      omega
    · rw [if_neg z] at h; cases h; exact Nat.le_refl _
theorem pA_pos (X : Tx) {rf : Nat → Qs → Rs} {dep : Nat} (hr : Pos (rf dep)) : Pos (pA X rf dep) := rbd_pos hr (pA'_pos X hr 401)
theorem pO'_pos (X : Tx) {rf : Nat → Qs → Rs} {dep : Nat} (hr : Pos (rf dep)) : ∀ f, Pos0 (pO' X rf dep f) := by
  intro f
  induction f with
  | zero => intro q r h; cases h; exact Nat.le_refl _
  | succ f ih =>
    intro q r h
    unfold pO' at h
    by_cases z : kd X q.1 = 18
    · rw [if_pos z] at h
      obtain ⟨s, h1, h2⟩ := rbd_in h
      have a : nx X q.1 < s.1 := pA_pos X hr _ _ h1
      have b : (em s (-19)).1 ≤ r.1 := ih _ _ h2
      have b : s.1 ≤ r.1 := b
      have c := nx_gt X q.1
      omega
    · rw [if_neg z] at h; cases h; exact Nat.le_refl _
theorem pO_pos (X : Tx) {rf : Nat → Qs → Rs} {dep : Nat} (hr : Pos (rf dep)) : Pos (pO X rf dep) := rbd_pos (pA_pos X hr) (pO'_pos X hr 401)
theorem pF_pos (X : Tx) : ∀ g dep, Pos (pF X g dep) := by
  intro g
  induction g with
  | zero => intro dep q r h; cases h
  | succ g ih =>
    intro dep q r h
    unfold pF at h
    by_cases z : kd X q.1 = 20
    · rw [if_pos z] at h
      by_cases y : 10 ≤ dep
      · rw [if_pos y] at h; cases h
      · rw [if_neg y] at h
        obtain ⟨s, h1, h2⟩ := rbd_in h
        have a : nx X q.1 < s.1 := ih _ _ _ h1
        have c := nx_gt X q.1
        cases h2
        show q.1 < s.1
        omega
    · rw [if_neg z] at h
      by_cases w : kd X q.1 = 31
      · rw [if_pos w] at h
        by_cases y : 10 ≤ dep
        · rw [if_pos y] at h; cases h
        · rw [if_neg y] at h
          obtain ⟨s, h1, h2⟩ := rbd_in h
          have a : nx X q.1 < s.1 := pO_pos X (ih (dep + 1)) _ _ h1
          have c := nx_gt X q.1
          by_cases v : kd X s.1 = 32
          · rw [if_pos v] at h2
            cases h2
            have := nx_gt X s.1
            show q.1 < nx X s.1
            omega
          · rw [if_neg v] at h2; cases h2
      · rw [if_neg w] at h
        exact pC_pos X _ _ h
theorem and16 {t : Nat} {X : Tx} {m dep : Nat} {rf : Int32 → Dm → Option Dm} {prf : Nat → Qs → Rs} {kx : Int32 → Dm → Option Dm} {v2 : Int32} (ht : isL t = true) (hrf : OC t X m (rf (nI dep)) (prf dep)) (hps : Pos (prf dep)) : ∀ K f n δ r c, 1 ≤ c → K < f → Stt t X m c δ r → (∀ q, r = .inr q → X.2 < q.1 + K ∧ n ≤ q.1) → ∃ d n', lp_Re_readTest_16 rf kx (nI dep) v2 f (nI n) δ = kx n' d ∧ Stt t X m c d (rbd r (pA' X prf dep K)) ∧ FrE t δ d := by
  intro K
  induction K with
  | zero =>
    intro f n δ r c hc hf h hq
    obtain ⟨g, rfl⟩ : ∃ g, f = g + 1 := ⟨f - 1, by omega⟩
    cases r with
    | inl w =>
      have hk := h.2.2.2.2.2
      rw [lp_Re_readTest_16, hk, if_neg (show ¬ (35 : Int32) = 19 by decide), ite_self]
      exact ⟨δ, _, rfl, h, FrE.refl _ _⟩
    | inr q =>
      have := St_pos h
      have := hq q rfl
      omega
  | succ K ih =>
    intro f n δ r c hc hf h hq
    obtain ⟨g, rfl⟩ : ∃ g, f = g + 1 := ⟨f - 1, by omega⟩
    cases r with
    | inl w =>
      have hk := h.2.2.2.2.2
      rw [lp_Re_readTest_16, hk, if_neg (show ¬ (35 : Int32) = 19 by decide), ite_self]
      exact ⟨δ, _, rfl, h, FrE.refl _ _⟩
    | inr q =>
      obtain ⟨hk, j, hj, k3, k1, k2, k4⟩ := St_at h
      have hkl := ky_le X q.1
      have hp := St_pos h
      obtain ⟨hq1, hq2⟩ := hq q rfl
      rw [rbd_r, lp_Re_readTest_16, hk]
      by_cases z : kd X q.1 = 19
      · have hlt : q.1 < X.2 := ky_lt (by omega)
        rw [if_neg (show ¬ (400 : Int32) ≤ nI n from nI_ge (a := n) (b := 400) (by omega) (by decide)), if_pos (show nI (kd X q.1) = (19 : Int32) by rw [z]; rfl)]
        obtain ⟨d1, e1, s1, f1⟩ := step_g ht h (by omega)
        obtain ⟨d2, e2, s2, f2⟩ := hrf (c + 1) d1 _ (by omega) s1
        obtain ⟨d3, e3, s3, f3⟩ := emit_r (o := -20) ht hc s2
        rw [e1, Option.bind_some, e2, Option.bind_some, ocs_b, e3, Option.bind_some, nI_1]
        obtain ⟨d, n', e4, s4, f4⟩ := ih g (n + 1) d3 _ c hc (by omega) s3 (fun q1 h1 => by
          obtain ⟨q2, h2, h3⟩ := rbd_in h1
          have a : nx X q.1 < q2.1 := hps (nq X q) q2 h2
          have b := nx_gt X q.1
          cases h3
          show X.2 < q2.1 + K ∧ n + 1 ≤ q2.1
          omega)
        refine ⟨d, n', e4, ?_, ((f1.trans f2).trans f3).trans f4⟩
        rw [show pA' X prf dep (K + 1) q = rbd (rbd (rbd (.inr (nq X q)) (prf dep)) (fun q1 => .inr (em q1 (-20)))) (pA' X prf dep K) by
          rw [rbd_rbd]
          show (if _ then _ else _) = _
          rw [if_pos z]
          rfl]
        exact s4
      · rw [if_neg (show ¬ nI (kd X q.1) = (19 : Int32) from fun w => by have := (kq (n := 19) hkl (by decide)).mp w; omega), ite_self]
        refine ⟨δ, _, rfl, ?_, FrE.refl _ _⟩
        rw [show pA' X prf dep (K + 1) q = .inr q by
          show (if _ then _ else _) = _
          rw [if_neg z]]
        exact h
theorem or69 {t : Nat} {X : Tx} {m dep : Nat} {rf : Int32 → Dm → Option Dm} {prf : Nat → Qs → Rs} {kx : Int32 → Dm → Option Dm} (ht : isL t = true) (hrf : OC t X m (rf (nI dep)) (prf dep)) (hps : Pos (prf dep)) : ∀ K f n δ r c (v3 : Int32), 1 ≤ c → K < f → Stt t X m c δ r → (∀ q, r = .inr q → X.2 < q.1 + K ∧ n ≤ q.1) → ∃ d, jp_Re_readTest_69 rf (lp_Re_readTest_2 rf kx (nI dep) f) kx (nI dep) (nI n) v3 δ = some d ∧ Stt t X m c d (rbd r (pO' X prf dep K)) ∧ FrE t δ d := by
  intro K
  induction K with
  | zero =>
    intro f n δ r c v3 hc hf h hq
    cases r with
    | inl w =>
      have hk := h.2.2.2.2.2
      unfold jp_Re_readTest_69
      rw [hk, if_neg (show ¬ (35 : Int32) = 18 by decide)]
      exact ⟨δ, rfl, h, FrE.refl _ _⟩
    | inr q =>
      have := St_pos h
      have := hq q rfl
      omega
  | succ K ih =>
    intro f n δ r c v3 hc hf h hq
    obtain ⟨g, rfl⟩ : ∃ g, f = g + 1 := ⟨f - 1, by omega⟩
    cases r with
    | inl w =>
      have hk := h.2.2.2.2.2
      unfold jp_Re_readTest_69
      rw [hk, if_neg (show ¬ (35 : Int32) = 18 by decide)]
      exact ⟨δ, rfl, h, FrE.refl _ _⟩
    | inr q =>
      obtain ⟨hk, j, hj, k3, k1, k2, k4⟩ := St_at h
      have hkl := ky_le X q.1
      have hp := St_pos h
      obtain ⟨hq1, hq2⟩ := hq q rfl
      rw [rbd_r]
      unfold jp_Re_readTest_69
      rw [hk]
      by_cases z : kd X q.1 = 18
      · have hlt : q.1 < X.2 := ky_lt (by omega)
        have hN : X.2 ≤ 400 := hp.2
        rw [if_pos (show nI (kd X q.1) = (18 : Int32) by rw [z]; rfl)]
        obtain ⟨d1, e1, s1, f1⟩ := step_g ht h (by omega)
        obtain ⟨d2, e2, s2, f2⟩ := hrf (c + 1) d1 _ (by omega) s1
        obtain ⟨d3, n3, e3, s3, f3⟩ := and16 (v2 := nI (n + 1)) (kx := fun v3_16x δ16x => (if nI (n + 1) ≤ 0 then (jp_Re_readTest_69 rf (lp_Re_readTest_2 rf kx (nI dep) g) kx (nI dep) (nI (n + 1)) v3_16x δ16x) else (ocs (dR (gI δ16x 7 8)) none (fun t61 => if isL t61 = true then ((f_La_emit t61 (-19 : Int32) δ16x).bind (fun y66 => (jp_Re_readTest_69 rf (lp_Re_readTest_2 rf kx (nI dep) g) kx (nI dep) (nI (n + 1)) v3_16x y66))) else none)))) ht hrf hps 401 FU 0 d2 _ (c + 1) (by omega) (FU_gt (by decide)) s2 (fun q1 h1 => by omega)
        obtain ⟨d4, e4, s4, f4⟩ := emit_r (o := -19) ht hc s3
        rw [e1, Option.bind_some, nI_1, lp_Re_readTest_2, if_neg (show ¬ (400 : Int32) < nI (n + 1) from nI_nlt (a := 400) (b := n + 1) (by omega) (by omega)), e2, Option.bind_some]
        obtain ⟨d, e5, s5, f5⟩ := ih g (n + 1) d4 _ c n3 hc (by omega) s4 (fun q1 h1 => by
          obtain ⟨q2, h2, h3⟩ := rbd_in h1
          have a : nx X q.1 < q2.1 := pA_pos X hps (nq X q) q2 h2
          have b := nx_gt X q.1
          cases h3
          show X.2 < q2.1 + K ∧ n + 1 ≤ q2.1
          omega)
        refine ⟨d, ?_, ?_, ((((f1.trans f2).trans f3).trans f4)).trans f5⟩
        · refine e3.trans ?_
          show (if nI (n + 1) ≤ 0 then _ else _) = _
          rw [if_neg (show ¬ nI (n + 1) ≤ (0 : Int32) from nI_ge (a := 0) (b := n + 1) (by omega) (by omega)), ocs_b, e4, Option.bind_some, e5]
        · rw [show pO' X prf dep (K + 1) q = rbd (rbd (rbd (rbd (.inr (nq X q)) (prf dep)) (pA' X prf dep 401)) (fun q1 => .inr (em q1 (-19)))) (pO' X prf dep K) by
            rw [rbd_rbd]
            show (if _ then _ else _) = _
            rw [if_pos z]
            rfl]
          exact s5
      · rw [if_neg (show ¬ nI (kd X q.1) = (18 : Int32) from fun w => by have := (kq (n := 18) hkl (by decide)).mp w; omega)]
        refine ⟨δ, rfl, ?_, FrE.refl _ _⟩
        rw [show pO' X prf dep (K + 1) q = .inr q by
          show (if _ then _ else _) = _
          rw [if_neg z]]
        exact h
theorem readTest_C {t : Nat} {X : Tx} {m dep : Nat} {rf : Int32 → Dm → Option Dm} {prf : Nat → Qs → Rs} (ht : isL t = true) (hrf : OC t X m (rf (nI dep)) (prf dep)) (hps : Pos (prf dep)) : OC t X m (f_Re_readTest rf (nI dep)) (pO X prf dep) := fun c δ r hc h => by
  have hN : X.2 ≤ 400 := h.1.1.2
  unfold f_Re_readTest
  obtain ⟨g, hg⟩ : ∃ g, FU = g + 1 := ⟨FU - 1, by have := FU_gt (k := 500) (by decide); omega⟩
  have hg4 : 401 < g := by have := FU_gt (k := 500) (by decide); omega
  obtain ⟨d2, e2, s2, f2⟩ := hrf c δ r hc h
  obtain ⟨d3, n3, e3, s3, f3⟩ := and16 (v2 := (0 : Int32)) (kx := fun v3_16x δ16x => (if (0 : Int32) ≤ 0 then (jp_Re_readTest_69 rf (lp_Re_readTest_2 rf (fun v2_2x δ2x => (some δ2x)) (nI dep) g) (fun v2_2x δ2x => (some δ2x)) (nI dep) 0 v3_16x δ16x) else (ocs (dR (gI δ16x 7 8)) none (fun t61 => if isL t61 = true then ((f_La_emit t61 (-19 : Int32) δ16x).bind (fun y66 => (jp_Re_readTest_69 rf (lp_Re_readTest_2 rf (fun v2_2x δ2x => (some δ2x)) (nI dep) g) (fun v2_2x δ2x => (some δ2x)) (nI dep) 0 v3_16x y66))) else none)))) ht hrf hps 401 FU 0 d2 _ c hc (FU_gt (by decide)) s2 (fun q1 h1 => by omega)
  obtain ⟨d, e5, s5, f5⟩ := or69 (kx := fun v2_2x δ2x => (some δ2x)) ht hrf hps 401 g 0 d3 _ c n3 hc hg4 s3 (fun q1 h1 => by omega)
  refine ⟨d, ?_, ?_, (f2.trans f3).trans f5⟩
  · conv => lhs; rw [hg]
    rw [lp_Re_readTest_2, if_neg (show ¬ (400 : Int32) < 0 by decide), e2, Option.bind_some]
    refine e3.trans ?_
    show (if (0 : Int32) ≤ 0 then _ else _) = _
    rw [if_pos (show (0 : Int32) ≤ 0 by decide)]
    exact e5
  · rw [show rbd r (pO X prf dep) = rbd (rbd (rbd r (prf dep)) (pA' X prf dep 401)) (pO' X prf dep 401) by
      rw [rbd_rbd, rbd_rbd]
      refine congrArg (rbd r) (funext fun q => ?_)
      show rbd (rbd (prf dep q) (pA' X prf dep 401)) (pO' X prf dep 401) = _
      rw [rbd_rbd]]
    exact s5
