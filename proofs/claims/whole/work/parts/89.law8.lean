/-! the class's reader: a whole sum -/
theorem sum88 {t : Nat} {X : Tx} {m : Nat} {kx : Int32 → Int32 → Dm → Option Dm} (ht : isL t = true) : ∀ K f n δ r c (v1 v3 : Int32), 1 ≤ c → K < f → Stt t X m c δ r → (∀ q, r = .inr q → X.2 < q.1 + K ∧ n ≤ q.1) → ∃ d, jp_Re_readSum_88 (lp_Re_readSum_5 kx f) kx v1 (nI n) v3 δ = some d ∧ Stt t X m c d (rbd r (pS' X K)) ∧ FrE t δ d := by
  intro K
  induction K with
  | zero =>
    intro f n δ r c v1 v3 hc hf h hq
    cases r with
    | inl w =>
      have hk := h.2.2.2.2.2
      unfold jp_Re_readSum_88
      rw [bndE, hk, if_neg (show ¬ (35 : Int32) = 22 by decide), if_neg (show ¬ (35 : Int32) = 23 by decide)]
      exact ⟨δ, rfl, h, FrE.refl _ _⟩
    | inr q =>
      have := St_pos h
      have := hq q rfl
      omega
  | succ K ih =>
    intro f n δ r c v1 v3 hc hf h hq
    obtain ⟨g, rfl⟩ : ∃ g, f = g + 1 := ⟨f - 1, by omega⟩
    cases r with
    | inl w =>
      have hk := h.2.2.2.2.2
      unfold jp_Re_readSum_88
      rw [bndE, hk, if_neg (show ¬ (35 : Int32) = 22 by decide), if_neg (show ¬ (35 : Int32) = 23 by decide)]
      exact ⟨δ, rfl, h, FrE.refl _ _⟩
    | inr q =>
      obtain ⟨hk, j, hj, k3, k1, k2, k4⟩ := St_at h
      have hkl := ky_le X q.1
      have hp := St_pos h
      obtain ⟨hq1, hq2⟩ := hq q rfl
      rw [rbd_r]
      unfold jp_Re_readSum_88
      rw [bndE, hk]
      by_cases z : kd X q.1 = 22 ∨ kd X q.1 = 23
      · have hlt : q.1 < X.2 := ky_lt (by omega)
        have body : ∃ d, jp_Re_readSum_106 (lp_Re_readSum_5 kx (g + 1)) kx (nI (kd X q.1)) (nI n) v3 δ = some d ∧ Stt t X m c d (pS' X (K + 1) q) ∧ FrE t δ d := by
          unfold jp_Re_readSum_106
          obtain ⟨d1, e1, s1, f1⟩ := step_g ht h (by omega)
          obtain ⟨d2, e2, s2, f2⟩ := readValue_C ht (c + 1) d1 _ (by omega) s1
          have hN : X.2 ≤ 400 := hp.2
          obtain ⟨d3, n3, e3, s3, f3⟩ := sum18 (v1 := nI (kd X q.1)) (v2 := nI (n + 1)) (kx := fun v3_18x δ18x => (if nI (n + 1) ≤ 0 then (jp_Re_readSum_88 (lp_Re_readSum_5 kx g) kx (nI (kd X q.1)) (nI (n + 1)) v3_18x δ18x) else (ocs (dR (gI δ18x 7 8)) none (fun t79 => if isL t79 = true then ((f_La_emit t79 ((-1 : Int32) - nI (kd X q.1)) δ18x).bind (fun y85 => (jp_Re_readSum_88 (lp_Re_readSum_5 kx g) kx (nI (kd X q.1)) (nI (n + 1)) v3_18x y85))) else none)))) ht 401 FU 0 d2 _ (c + 1) (by omega) (FU_gt (by decide)) s2 (fun q1 h1 => by omega)
          obtain ⟨d4, e4, s4, f4⟩ := emit_r (o := -1 - nI (kd X q.1)) ht hc s3
          rw [e1, Option.bind_some, nI_1, lp_Re_readSum_5, if_neg (show ¬ (400 : Int32) < nI (n + 1) from nI_nlt (a := 400) (b := n + 1) (by omega) (by omega)), e2, Option.bind_some]
          obtain ⟨d, e5, s5, f5⟩ := ih g (n + 1) d4 _ c (nI (kd X q.1)) n3 hc (by omega) s4 (fun q1 h1 => by
            obtain ⟨q2, h2, h3⟩ := rbd_in h1
            have a := pT_pos X (nq X q) q2 h2
            have a : nx X q.1 < q2.1 := a
            have b := nx_gt X q.1
            cases h3
            show X.2 < q2.1 + K ∧ n + 1 ≤ q2.1
            omega)
          refine ⟨d, ?_, ?_, ((((f1.trans f2).trans f3).trans f4)).trans f5⟩
          · refine e3.trans ?_
            show (if nI (n + 1) ≤ 0 then _ else _) = _
            rw [if_neg (show ¬ nI (n + 1) ≤ (0 : Int32) from nI_ge (a := 0) (b := n + 1) (by omega) (by omega)), ocs_b, e4, Option.bind_some, e5]
          · rw [show pS' X (K + 1) q = rbd (rbd (rbd (rbd (.inr (nq X q)) (pV X)) (pT' X 401)) (fun q1 => .inr (em q1 (-1 - nI (kd X q.1))))) (pS' X K) by
              rw [rbd_rbd]
              show (if _ then _ else _) = _
              rw [if_pos z]
              rfl]
            exact s5
        rcases z with z1 | z1
        · rw [if_pos (show nI (kd X q.1) = (22 : Int32) by rw [z1]; rfl)]; exact body
        · rw [if_neg (show ¬ nI (kd X q.1) = (22 : Int32) from fun w => by have := (kq (n := 22) hkl (by decide)).mp w; omega), if_pos (show nI (kd X q.1) = (23 : Int32) by rw [z1]; rfl)]; exact body
      · rw [if_neg (show ¬ nI (kd X q.1) = (22 : Int32) from fun w => by have := (kq (n := 22) hkl (by decide)).mp w; omega), if_neg (show ¬ nI (kd X q.1) = (23 : Int32) from fun w => by have := (kq (n := 23) hkl (by decide)).mp w; omega)]
        refine ⟨δ, rfl, ?_, FrE.refl _ _⟩
        rw [show pS' X (K + 1) q = .inr q by
          show (if _ then _ else _) = _
          rw [if_neg z]]
        exact h
theorem readSum_C {t : Nat} {X : Tx} {m : Nat} (ht : isL t = true) : OC t X m f_Re_readSum (pS X) := fun c δ r hc h => by
  have hN : X.2 ≤ 400 := h.1.1.2
  unfold f_Re_readSum
  obtain ⟨g, hg⟩ : ∃ g, FU = g + 1 := ⟨FU - 1, by have := FU_gt (k := 500) (by decide); omega⟩
  have hg4 : 401 < g := by have := FU_gt (k := 500) (by decide); omega
  obtain ⟨d2, e2, s2, f2⟩ := readValue_C ht c δ r hc h
  obtain ⟨d3, n3, e3, s3, f3⟩ := sum18 (v1 := (35 : Int32)) (v2 := (0 : Int32)) (kx := fun v3_18x δ18x => (if (0 : Int32) ≤ 0 then (jp_Re_readSum_88 (lp_Re_readSum_5 (fun v1_5x v2_5x δ5x => (some δ5x)) g) (fun v1_5x v2_5x δ5x => (some δ5x)) 35 0 v3_18x δ18x) else (ocs (dR (gI δ18x 7 8)) none (fun t79 => if isL t79 = true then ((f_La_emit t79 ((-1 : Int32) - 35) δ18x).bind (fun y85 => (jp_Re_readSum_88 (lp_Re_readSum_5 (fun v1_5x v2_5x δ5x => (some δ5x)) g) (fun v1_5x v2_5x δ5x => (some δ5x)) 35 0 v3_18x y85))) else none)))) ht 401 FU 0 d2 _ c hc (FU_gt (by decide)) s2 (fun q1 h1 => by omega)
  obtain ⟨d, e5, s5, f5⟩ := sum88 (kx := fun v1_5x v2_5x δ5x => (some δ5x)) ht 401 g 0 d3 _ c 35 n3 hc hg4 s3 (fun q1 h1 => by omega)
  refine ⟨d, ?_, ?_, (f2.trans f3).trans f5⟩
  · conv => lhs; rw [hg]
    rw [lp_Re_readSum_5, if_neg (show ¬ (400 : Int32) < 0 by decide), e2, Option.bind_some]
    refine e3.trans ?_
    show (if (0 : Int32) ≤ 0 then _ else _) = _
    rw [if_pos (show (0 : Int32) ≤ 0 by decide)]
    exact e5
  · rw [show rbd r (pS X) = rbd (rbd (rbd r (pV X)) (pT' X 401)) (pS' X 401) by
      rw [rbd_rbd, rbd_rbd]
      refine congrArg (rbd r) (funext fun q => ?_)
      show rbd (rbd (pV X q) (pT' X 401)) (pS' X 401) = _
      rw [rbd_rbd]]
    exact s5
