/-! the class's tokens: the scan -/
def TI (X : Tx) (c : Nat) (δ : Dm) : Prop := gI δ 7 3 = nI c ∧ ∀ j, j < c → pj X j < X.2 ∧ gI δ 8 j = nI (kd X (pj X j)) ∧ gI δ 9 j = nI (pj X j) ∧ (kd X (pj X j) = 21 → gI δ 10 j = vl X (pj X j))
def TA (X : Tx) (m : Nat) (δ : Dm) : Prop := (m ≤ 400 ∧ X.2 ≤ 400) ∧ pj X m = X.2 ∧ gI δ 7 3 = nI (m + 1) ∧ (∀ j, j < m → pj X j < X.2) ∧ ∀ j, j ≤ m → gI δ 8 j = nI (kd X (pj X j)) ∧ gI δ 9 j = nI (pj X j) ∧ (kd X (pj X j) = 21 → gI δ 10 j = vl X (pj X j))
def FrS (δ d : Dm) : Prop := ∀ b j, b ≠ 7 → b ≠ 8 → b ≠ 9 → b ≠ 10 → gI d b j = gI δ b j
theorem FrS.trans {a b c : Dm} (h : FrS a b) (k : FrS b c) : FrS a c := fun x j q1 q2 q3 q4 => (k x j q1 q2 q3 q4).trans (h x j q1 q2 q3 q4)
theorem CX_fr {X : Tx} {δ d : Dm} (h : CX X δ) (k : FrS δ d) : CX X d := ⟨h.1, h.2.1, fun j hj => by rw [k 5 j (by decide) (by decide) (by decide) (by decide)]; exact h.2.2 j hj⟩
theorem addTok {c : Nat} {δ : Dm} {a1 a2 a3 : Int32} (hc : gI δ 7 3 = nI c) (h : c < 401) : ∃ d, f_Re_addToken a1 a2 a3 δ = some d ∧ FrS δ d ∧ gI d 7 3 = nI (c + 1) ∧ gI d 8 c = a1 ∧ gI d 9 c = a2 ∧ gI d 10 c = a3 ∧ ∀ j, j < c → gI d 8 j = gI δ 8 j ∧ gI d 9 j = gI δ 9 j ∧ gI d 10 j = gI δ 10 j := by
  unfold f_Re_addToken
  rw [hc, put_in (N := 401) rfl h, Option.bind_some, gsr (by decide), hc, put_in (N := 401) rfl h, Option.bind_some, gsr (by decide), gsr (by decide), hc, put_in (N := 401) rfl h, Option.bind_some, bndE, gsr (by decide), gsr (by decide), gsr (by decide), hc, nI_1]
  refine ⟨_, rfl, fun b j q1 q2 q3 q4 => by rw [gsr q1, gsr q4, gsr q3, gsr q2], gss, ?_, ?_, ?_, fun j hj => ⟨?_, ?_, ?_⟩⟩
  · rw [gsr (by decide), gsr (by decide), gsr (by decide), gss]
  · rw [gsr (by decide), gsr (by decide), gss]
  · rw [gsr (by decide), gss]
  · rw [gsr (by decide), gsr (by decide), gsr (by decide), gsc (by omega)]
  · rw [gsr (by decide), gsr (by decide), gsc (by omega), gsr (by decide)]
  · rw [gsr (by decide), gsc (by omega), gsr (by decide), gsr (by decide)]
/-- a token more -/
theorem TI_add {X : Tx} {c i : Nat} {δ : Dm} {v : Int32} (h : TI X c δ) (hi : sp X i = pj X c) (hs : bS X i = false) (hX : i < X.2) (h4 : X.2 ≤ 400) (hv : kd X i = 21 → v = vl X i) : ∃ d, f_Re_addToken (nI (kd X i)) (nI i) v δ = some d ∧ FrS δ d ∧ TI X (c + 1) d ∧ sp X (te X i) = pj X (c + 1) := by
  rw [sp_id hs] at hi
  have hc := pj_ge X c
  obtain ⟨d, e1, e2, e3, e4, e5, e6, e7⟩ := addTok (a1 := nI (kd X i)) (a2 := nI i) (a3 := v) h.1 (by omega)
  refine ⟨d, e1, e2, ⟨e3, fun j hj => ?_⟩, by rw [hi]; rfl⟩
  by_cases z : j = c
  · subst z
    rw [← hi]
    exact ⟨hX, e4, e5, fun q => by rw [e6]; exact hv q⟩
  · obtain ⟨a1, a2, a3⟩ := e7 j (by omega)
    rw [a1, a2, a3]
    exact h.2 j (by omega)
theorem scan_loop {X : Tx} : ∀ K i f v3 δ c, X.2 ≤ i + K → i ≤ X.2 → K < f → CX X δ → TI X c δ → sp X i = pj X c → ∃ m d, lp_Re_scan_10 (fun v3_10x v4_10x δ10x => ((f_Re_addToken (34 : Int32) (nI X.2) (0 : Int32) δ10x).bind (fun y199 => (some y199)))) (nI X.2) f v3 (nI i) δ = some d ∧ TA X m d ∧ FrS δ d := by
  intro K
  induction K with
  | zero =>
    intro i f v3 δ c hK hi hf hC hT hs
    obtain ⟨g, rfl⟩ : ∃ g, f = g + 1 := ⟨f - 1, by omega⟩
    obtain rfl : i = X.2 := by omega
    have h4 := hC.1
    rw [sp_N] at hs
    have hc := pj_ge X c
    rw [lp_Re_scan_10, if_pos (nI_le (Nat.le_refl _) (by omega))]
    obtain ⟨d, e1, e2, e3, e4, e5, e6, e7⟩ := addTok (a1 := 34) (a2 := nI X.2) (a3 := 0) hT.1 (by omega)
    refine ⟨c, d, by rw [e1]; rfl, ⟨⟨by omega, h4⟩, hs.symm, e3, fun j hj => (hT.2 j hj).1, fun j hj => ?_⟩, e2⟩
    by_cases z : j = c
    · subst z
      rw [← hs, e4, e5, ky_N (Nat.le_refl _)]
      exact ⟨rfl, rfl, fun q => by cases q⟩
    · obtain ⟨a1, a2, a3⟩ := e7 j (by omega)
      rw [a1, a2, a3]
      exact (hT.2 j (by omega)).2
  | succ K ih =>
    intro i f v3 δ c hK hi hf hC hT hs
    by_cases hiX : i = X.2
    · exact ih i f v3 δ c (by omega) hi (by omega) hC hT hs
    have hiN : i < X.2 := by omega
    obtain ⟨g, rfl⟩ : ∃ g, f = g + 1 := ⟨f - 1, by omega⟩
    have h4 := hC.1
    have hb := hC.2.1 i
    have go : ∀ (y : Int32) w (d : Dm) c', 1 ≤ w → i + w ≤ X.2 → FrS δ d → TI X c' d → sp X (i + w) = pj X c' → ∃ m d', jp_Re_scan_181 (lp_Re_scan_10 (fun v3_10x v4_10x δ10x => ((f_Re_addToken (34 : Int32) (nI X.2) (0 : Int32) δ10x).bind (fun y199 => (some y199)))) (nI X.2) g) (fun v3_10x v4_10x δ10x => ((f_Re_addToken (34 : Int32) (nI X.2) (0 : Int32) δ10x).bind (fun y199 => (some y199)))) (nI X.2) (nI i) y (nI w) d = some d' ∧ TA X m d' ∧ FrS δ d' := fun y w d c' hw1 hw2 hF hT' hs' => by
      obtain ⟨m, d', e1, e2, e3⟩ := ih (i + w) g (nI w) d c' (by omega) hw2 (by omega) (CX_fr hC hF) hT' hs'
      refine ⟨m, d', ?_, e2, hF.trans e3⟩
      unfold jp_Re_scan_181
      rw [mx1 hw1 (by omega), nI_add, bndE, e1]
    have hk0 : ¬ X.2 ≤ i := Nat.not_le.mpr hiN
    rw [lp_Re_scan_10, if_neg (nI_ge hiN (by omega)), hC.get hiN, Option.bind_some, isDigit_eq hb, Option.bind_some]
    by_cases h1 : bD X i = true
    · have h1' := of_decide_eq_true h1
      have hspF : bS X i = false := decide_eq_false (fun w => by omega)
      have hr := enD_run X i
      have hgt := run_gt hr h1
      have hle := run_le (bD_N X) hr hi
      have hkd : kd X i = 21 := (ky_21 hiN).mpr h1
      rw [if_neg (by rw [bI_0]; exact fun w => w h1'.2), show (48 : Int32) = nI 48 from rfl, show (57 : Int32) = nI 57 from rfl, runOf_eq hC (by decide) (by decide) (fun k => rfl) hr h1, Option.bind_some, numberIn_eq hC h1, Option.bind_some]
      obtain ⟨d, e1, e2, e3, e4⟩ := TI_add (v := vl X i) hT hs hspF hiN h4 (fun _ => rfl)
      rw [hkd] at e1
      rw [show (21 : Int32) = nI 21 from rfl, e1, Option.bind_some]
      have hte : te X i = enD X i := if_pos h1
      exact go _ _ d (c + 1) (by omega) (by omega) e2 e3 (by rw [← e4, hte, show i + (enD X i - i) = enD X i by omega])
    have h1' : ¬ (48 ≤ X.1 i ∧ X.1 i ≤ 57) := fun w => h1 (decide_eq_true ⟨hiN, w⟩)
    rw [if_pos (by rw [bI_0]; exact h1'), isLetter_eq hb, Option.bind_some]
    by_cases h2 : bL X i = true
    · have h2' := of_decide_eq_true h2
      have hspF : bS X i = false := decide_eq_false (fun w => by omega)
      have hr := enL_run X i
      have hgt := run_gt hr h2
      have hle := run_le (bL_N X) hr hi
      have hkd : kd X i = wk (wb X i (enL X i)) := by unfold kd; rw [if_neg hk0, if_neg h1, if_pos h2]
      have hk21 : kd X i ≠ 21 := fun w => h1 ((ky_21 hiN).mp w)
      rw [if_neg (by rw [bI_0]; exact fun w => w h2'.2), show (97 : Int32) = nI 97 from rfl, show (122 : Int32) = nI 122 from rfl, runOf_eq hC (by decide) (by decide) (fun k => rfl) hr h2, Option.bind_some, wordIn_eq hC hgt hle, Option.bind_some]
      obtain ⟨d, e1, e2, e3, e4⟩ := TI_add (v := 0) hT hs hspF hiN h4 (fun w => absurd w hk21)
      rw [hkd] at e1
      rw [e1, Option.bind_some]
      have hte : te X i = enL X i := by unfold te; rw [if_neg h1, if_pos h2]
      exact go _ _ d (c + 1) (by omega) (by omega) e2 e3 (by rw [← e4, hte, show i + (enL X i - i) = enL X i by omega])
    have h2' : ¬ (97 ≤ X.1 i ∧ X.1 i ≤ 122) := fun w => h2 (decide_eq_true ⟨hiN, w⟩)
    rw [if_pos (by rw [bI_0]; exact h2')]
    have hk21 : kd X i ≠ 21 := fun w => h1 ((ky_21 hiN).mp w)
    have one : twP X i = false → ∃ m d', jp_Re_scan_162 (lp_Re_scan_10 (fun v3_10x v4_10x δ10x => ((f_Re_addToken (34 : Int32) (nI X.2) (0 : Int32) δ10x).bind (fun y199 => (some y199)))) (nI X.2) g) (fun v3_10x v4_10x δ10x => ((f_Re_addToken (34 : Int32) (nI X.2) (0 : Int32) δ10x).bind (fun y199 => (some y199)))) (nI X.2) (nI i) (nI (X.1 i)) δ = some d' ∧ TA X m d' ∧ FrS δ d' := fun h3 => by
      unfold jp_Re_scan_162
      by_cases z : X.1 i = 32
      · have hspT : bS X i = true := decide_eq_true ⟨hiN, z⟩
        rw [if_pos (show nI (X.1 i) = (32 : Int32) by rw [z]; rfl)]
        exact go _ 1 δ c (Nat.le_refl _) (by omega) (fun _ _ _ _ _ _ => rfl) hT (by rw [← sp_succ hspT]; exact hs)
      · have hspF : bS X i = false := decide_eq_false (fun w => z w.2)
        have hkd : kd X i = sk (X.1 i) := by unfold kd; rw [if_neg hk0, if_neg h1, if_neg h2, if_neg (by rw [h3]; decide)]
        rw [if_neg (show ¬ nI (X.1 i) = (32 : Int32) from fun w => z ((nI_eq (b := 32) (by omega) (by decide)).mp w)), sign_eq hb, Option.bind_some]
        obtain ⟨d, e1, e2, e3, e4⟩ := TI_add (v := 0) hT hs hspF hiN h4 (fun w => absurd w hk21)
        rw [hkd] at e1
        rw [e1, Option.bind_some]
        have hte : te X i = i + 1 := by unfold te; rw [if_neg h1, if_neg h2, if_neg (by rw [h3]; decide)]
        exact go _ 1 d (c + 1) (Nat.le_refl _) (by omega) e2 e3 (by rw [← e4, hte])
    have tw : (X.1 i = 60 ∨ X.1 i = 62) → ∃ m d', jp_Re_scan_115 (lp_Re_scan_10 (fun v3_10x v4_10x δ10x => ((f_Re_addToken (34 : Int32) (nI X.2) (0 : Int32) δ10x).bind (fun y199 => (some y199)))) (nI X.2) g) (fun v3_10x v4_10x δ10x => ((f_Re_addToken (34 : Int32) (nI X.2) (0 : Int32) δ10x).bind (fun y199 => (some y199)))) (nI X.2) (nI i) (nI (X.1 i)) δ = some d' ∧ TA X m d' ∧ FrS δ d' := fun hs2 => by
      unfold jp_Re_scan_115
      rw [nI_1]
      by_cases z : i + 1 < X.2
      · have hb1 := hC.2.1 (i + 1)
        rw [if_neg (nI_ge z (by omega)), hC.get z, Option.bind_some]
        by_cases y : X.1 (i + 1) = 61
        · have h3 : twP X i = true := decide_eq_true ⟨hs2, z, y⟩
          have hspF : bS X i = false := decide_eq_false (fun w => by omega)
          have hkd : kd X i = if X.1 i = 60 then 27 else 29 := by unfold kd; rw [if_neg hk0, if_neg h1, if_neg h2, if_pos h3]
          have hte : te X i = i + 2 := by unfold te; rw [if_neg h1, if_neg h2, if_pos h3]
          obtain ⟨d, e1, e2, e3, e4⟩ := TI_add (v := 0) hT hs hspF hiN h4 (fun w => absurd w hk21)
          rw [hkd] at e1
          rw [if_pos (show nI (X.1 (i + 1)) = (61 : Int32) by rw [y]; rfl)]
          unfold jp_Re_scan_153
          by_cases x : X.1 i = 60
          · rw [if_pos x] at e1
            rw [if_pos (show nI (X.1 i) = (60 : Int32) by rw [x]; rfl), show (27 : Int32) = nI 27 from rfl, e1, Option.bind_some]
            exact go _ 2 d (c + 1) (by decide) (by omega) e2 e3 (by rw [← e4, hte])
          · rw [if_neg x] at e1
            rw [if_neg (show ¬ nI (X.1 i) = (60 : Int32) from fun w => x ((nI_eq (b := 60) (by omega) (by decide)).mp w)), show (29 : Int32) = nI 29 from rfl, e1, Option.bind_some]
            exact go _ 2 d (c + 1) (by decide) (by omega) e2 e3 (by rw [← e4, hte])
        · rw [if_neg (show ¬ nI (X.1 (i + 1)) = (61 : Int32) from fun w => y ((nI_eq (b := 61) (by omega) (by decide)).mp w))]
          exact one (decide_eq_false (fun w => y w.2.2))
      · rw [if_pos (nI_le (by omega) (by omega))]
        exact one (decide_eq_false (fun w => z w.2.1))
    by_cases h60 : X.1 i = 60
    · rw [if_pos (show nI (X.1 i) = (60 : Int32) by rw [h60]; rfl)]
      exact tw (Or.inl h60)
    · rw [if_neg (show ¬ nI (X.1 i) = (60 : Int32) from fun w => h60 ((nI_eq (b := 60) (by omega) (by decide)).mp w))]
      by_cases h62 : X.1 i = 62
      · rw [if_pos (show nI (X.1 i) = (62 : Int32) by rw [h62]; rfl)]
        exact tw (Or.inr h62)
      · rw [if_neg (show ¬ nI (X.1 i) = (62 : Int32) from fun w => h62 ((nI_eq (b := 62) (by omega) (by decide)).mp w))]
        exact one (decide_eq_false (fun w => w.1.elim h60 h62))
theorem scan_eq {X : Tx} {δ : Dm} (h : CX X δ) : ∃ m d, f_Re_scan (nI X.2) δ = some d ∧ TA X m d ∧ FrS δ d := by
  have hF : FrS δ (sI δ 7 3 0) := fun b j q _ _ _ => gsr q
  unfold f_Re_scan
  rw [bndE]
  obtain ⟨m, d, e1, e2, e3⟩ := scan_loop X.2 0 FU 1 (sI δ 7 3 0) 0 (by omega) (Nat.zero_le _) (FU_gt (by have := h.1; omega)) (CX_fr h hF) ⟨gss, fun j hj => absurd hj (Nat.not_lt_zero _)⟩ rfl
  exact ⟨m, d, e1, e2, hF.trans e3⟩
