/-! the reference's words and numbers -/
theorem kd_word {X : Tx} {s k : Nat} (hk : k < 21) : kd X s = k ↔ wb X s (enL X s) = WL.getD k [] := by
  constructor
  · intro h
    obtain ⟨a1, a2, a3, a4⟩ := ky_w (X := X) (p := s) (by omega)
    rw [a4] at h
    unfold wk at h
    cases hf : (List.range 21).find? (fun i => decide (WL.getD i [] = wb X s (enL X s))) with
    | none => rw [hf] at h; have h : 35 = k := h; omega
    | some i =>
      rw [hf] at h
      have h : i = k := h
      have := List.find?_some hf
      have := of_decide_eq_true this
      rw [← this, h]
  · intro h
    have d : ∀ k, k < 21 → 0 < (WL.getD k []).length ∧ wk (WL.getD k []) = k := by decide +kernel
    obtain ⟨d1, d2⟩ := d k hk
    have hl := wb_len X s (enL X s)
    rw [h] at hl
    have hr := enL_run X s
    have hb := hr.2.1 s (Nat.le_refl _) (by omega)
    have hb' := of_decide_eq_true hb
    have hd : ¬ bD X s = true := fun w => by have := of_decide_eq_true w; omega
    unfold kd
    rw [if_neg (by omega), if_neg hd, if_pos hb, h, d2]
theorem isWL {X : Tx} {kx : Int64 → Int32 → Option (Int32 × Dm)} {w : Int64} {δ : Dm} {s : Nat} (h : RX X δ) (h9 : gI δ 151 9 = nI s) (hs : s ≤ X.2) : ∀ K F n, s + n + K = enL X s → K < F → lp_Mo_isWord_10 kx w δ F (lN (pkN X s (min n 8))) (nI n) = kx (lN (pkN X s (min (enL X s - s) 8))) (nI (enL X s - s)) := by
  have h4 := h.1
  have hr := enL_run X s
  have hle := run_le (bL_N X) hr hs
  intro K
  induction K with
  | zero =>
    intro F n hn hF
    obtain ⟨g, rfl⟩ : ∃ g, F = g + 1 := ⟨F - 1, by omega⟩
    have e : enL X s - s = n := by omega
    have en : bL X (s + n) = false := by rw [show s + n = enL X s by omega]; exact hr.2.2
    rw [lp_Mo_isWord_10, h9, nI_add, isLet_R h (by omega), en, Option.bind_some, if_pos (show (if false = true then (1 : Int32) else 0) = 0 by decide), e]
  | succ K ih =>
    intro F n hn hF
    obtain ⟨g, rfl⟩ : ∃ g, F = g + 1 := ⟨F - 1, by omega⟩
    have en : bL X (s + n) = true := hr.2.1 _ (by omega) (by omega)
    have en' := of_decide_eq_true en
    rw [lp_Mo_isWord_10, h9, nI_add, isLet_R h (by omega), if_pos en, Option.bind_some, if_neg (by decide)]
    by_cases z : 8 ≤ n
    · rw [if_pos (show (8 : Int32) ≤ nI n from nI_le (a := 8) z (by omega)), nI_1]
      have := ih g (n + 1) (by omega) (by omega)
      rw [show min (n + 1) 8 = min n 8 by omega] at this
      exact this
    · rw [if_neg (show ¬ (8 : Int32) ≤ nI n from nI_ge (a := n) (b := 8) (by omega) (by decide)), if_pos (inb_i (show s + n < 400 by omega) (by decide)), ixN (by omega), h.2.2.2 _ (by omega), (sb_lo (h.2.1 _)).2.2.2.2.2.1 (by omega), nI_l (by omega), bndE, shl8 (h.2.1 _), nI_1]
      have := ih g (n + 1) (by omega) (by omega)
      rw [show min (n + 1) 8 = min n 8 + 1 by omega] at this
      rw [← this]
      show lp_Mo_isWord_10 kx w δ g (lN (256 * pkN X s (min n 8) + X.1 (s + n))) _ = lp_Mo_isWord_10 kx w δ g (lN (256 * pkN X s (min n 8) + X.1 (s + min n 8))) _
      rw [show min n 8 = n by omega]
theorem isWord_R {X : Tx} {p k : Nat} {δ : Dm} (hk : k < 21) (h : RX X δ) (h9 : gI δ 151 9 = nI p) (hp : p ≤ X.2) : f_Mo_isWord (wW k) δ = some (if kd X (sp X p) = k then 1 else 0, sI δ 151 9 (nI (sp X p))) := by
  have h4 := h.1
  have hs := sp_le hp
  have hr := enL_run X (sp X p)
  have hle := run_le (bL_N X) hr hs
  have hge := hr.1
  unfold f_Mo_isWord
  rw [see_R h h9 hp, Option.bind_some, bndE, bndE]
  have e := isWL (kx := fun v3_10x v5_10x => (if v5_10x ≤ 0 then (some ((0 : Int32), sI δ 151 9 (nI (sp X p)))) else (if (9 : Int32) ≤ v5_10x then (some ((0 : Int32), sI δ 151 9 (nI (sp X p)))) else (if (lg_cmp v3_10x (wW k)) = 0 then (some ((1 : Int32), sI δ 151 9 (nI (sp X p)))) else (some ((0 : Int32), sI δ 151 9 (nI (sp X p)))))))) (w := wW k) (s := sp X p) h.s9 gss hs (enL X (sp X p) - sp X p) FU 0 (by omega) (FU_gt (by omega))
  refine Eq.trans e ?_
  have d : ∀ k, k < 21 → 0 < (WL.getD k []).length ∧ (WL.getD k []).length ≤ 8 := by decide +kernel
  obtain ⟨d1, d2⟩ := d k hk
  have wl := wb_len X (sp X p) (enL X (sp X p))
  by_cases z1 : enL X (sp X p) - sp X p = 0
  · rw [if_pos (by rw [z1]; decide), if_neg (fun q => by rw [kd_word hk] at q; rw [q] at wl; omega)]
  · rw [if_neg (nI_nle (by omega) (by omega))]
    by_cases z2 : 9 ≤ enL X (sp X p) - sp X p
    · rw [if_pos (show (9 : Int32) ≤ nI _ from nI_le (a := 9) z2 (by omega)), if_neg (fun q => by rw [kd_word hk] at q; rw [q] at wl; omega)]
    · rw [if_neg (show ¬ (9 : Int32) ≤ nI _ from nI_ge (b := 9) (by omega) (by decide)), show min (enL X (sp X p) - sp X p) 8 = enL X (sp X p) - sp X p by omega, pkN_eq, show sp X p + (enL X (sp X p) - sp X p) = enL X (sp X p) by omega]
      have key := wW_eq (l := wb X (sp X p) (enL X (sp X p))) hk (fun b hb => by
        unfold wb at hb
        obtain ⟨i, hi, rfl⟩ := List.mem_map.mp hb
        have hi := List.mem_range.mp hi
        have := of_decide_eq_true (hr.2.1 (sp X p + i) (by omega) (by omega))
        exact this.2) (by omega)
      by_cases y : lN (pkl (wb X (sp X p) (enL X (sp X p)))) = wW k
      · rw [if_pos (cmp_eq.mpr y), if_pos (kd_word hk |>.mpr (key.mp y))]
      · rw [if_neg (fun q => y (cmp_eq.mp q)), if_neg (fun q => y (key.mpr (kd_word hk |>.mp q)))]
theorem passL {X : Tx} {kx : Dm → Option Dm} : ∀ K f p δ, X.2 ≤ p + K → p ≤ X.2 → K < f → RX X δ → gI δ 151 9 = nI p → lp_Mo_passWord_0 kx f δ = kx (sI δ 151 9 (nI (enL X p))) := by
  intro K
  induction K with
  | zero =>
    intro f p δ hK hp hf h h9
    obtain ⟨g, rfl⟩ : ∃ g, f = g + 1 := ⟨f - 1, by omega⟩
    have h4 := h.1
    have hb : bL X p = false := bL_N X p (by omega)
    rw [lp_Mo_passWord_0, h9, isLet_R h (by omega), hb, Option.bind_some, if_pos (show (if false = true then (1 : Int32) else 0) = 0 by decide), run_uniq (enL_run X p) (run_id hb), sI_same h9]
  | succ K ih =>
    intro f p δ hK hp hf h h9
    obtain ⟨g, rfl⟩ : ∃ g, f = g + 1 := ⟨f - 1, by omega⟩
    have h4 := h.1
    rw [lp_Mo_passWord_0, h9, isLet_R h (by omega), Option.bind_some]
    by_cases z : bL X p = true
    · have z' := of_decide_eq_true z
      rw [if_pos z, if_neg (by decide), bndE, nI_1, ih g (p + 1) _ (by omega) (by omega) (by omega) h.s9 gss, sI_sI, run_uniq (enL_run X p) (run_st (enL_run X (p + 1)) z)]
    · have z' : bL X p = false := by simpa using z
      rw [if_neg z, if_pos rfl, run_uniq (enL_run X p) (run_id z'), sI_same h9]
theorem pass_R {X : Tx} {p : Nat} {δ : Dm} (h : RX X δ) (h9 : gI δ 151 9 = nI p) (hp : p ≤ X.2) : f_Mo_passWord δ = some (sI δ 151 9 (nI (enL X p))) := by
  have := h.1
  exact passL X.2 FU p δ (by omega) hp (FU_gt (by omega)) h h9
theorem fails_R {n a : Nat} {δ : Dm} (h : gI δ 151 10 = 0) : f_Mo_fails (nI n) (nI a) δ = some (0, sI δ 151 10 (nI (flw a n))) := by
  unfold f_Mo_fails
  rw [if_pos h, bndE, show ((1 : Int32) + ((8 : Int32) * nI a)) + nI n = nI (flw a n) by rw [show (8 : Int32) * nI a = nI (8 * a) from pk_mul 8 _, show (1 : Int32) + nI (8 * a) = nI (1 + 8 * a) from nI_add 1 _, nI_add]; rfl]
theorem numL {X : Tx} {kx : Int32 → Dm → Option (Int32 × Dm)} {a1 : Int32} {s : Nat} (hs : s ≤ X.2) : ∀ K F i δ, s + i + K = enD X s → K < F → RX X δ → gI δ 151 9 = nI (s + i) → lp_Mo_number_33 kx a1 (nI s) F (nI (num X s (min i 5))) δ = kx (nI (num X s (min (enD X s - s) 5))) (sI δ 151 9 (nI (enD X s))) := by
  have hr := enD_run X s
  have hle := run_le (bD_N X) hr hs
  intro K
  induction K with
  | zero =>
    intro F i δ hn hF h h9
    have h4 := h.1
    obtain ⟨g, rfl⟩ : ∃ g, F = g + 1 := ⟨F - 1, by omega⟩
    have e : enD X s - s = i := by omega
    have en : bD X (s + i) = false := by rw [show s + i = enD X s by omega]; exact hr.2.2
    rw [lp_Mo_number_33, h9, isDig_R h (by omega), en, Option.bind_some, if_pos (show (if false = true then (1 : Int32) else 0) = 0 by decide), e, sI_same (by rw [h9]; congr 1)]
  | succ K ih =>
    intro F i δ hn hF h h9
    have h4 := h.1
    obtain ⟨g, rfl⟩ : ∃ g, F = g + 1 := ⟨F - 1, by omega⟩
    have en : bD X (s + i) = true := hr.2.1 _ (by omega) (by omega)
    have en' := of_decide_eq_true en
    have nx : ∀ v, jp_Mo_number_72 (lp_Mo_number_33 kx a1 (nI s) g) kx a1 (nI s) δ v = lp_Mo_number_33 kx a1 (nI s) g v (sI δ 151 9 (nI (s + (i + 1)))) := fun v => by
      unfold jp_Mo_number_72
      rw [bndE, h9, nI_1]; rfl
    rw [lp_Mo_number_33, h9, isDig_R h (by omega), if_pos en, Option.bind_some, if_neg (by decide), show nI (s + i) - nI s = nI i by rw [sbN (by omega)]; congr 1; omega]
    have I := ih g (i + 1) (sI δ 151 9 (nI (s + (i + 1)))) (by omega) (by omega) h.s9 gss
    rw [sI_sI] at I
    by_cases z : 5 ≤ i
    · rw [if_pos (show (5 : Int32) ≤ nI i from nI_le (a := 5) z (by omega)), nx, ← I, show min (i + 1) 5 = min i 5 by omega]
    · rw [if_neg (show ¬ (5 : Int32) ≤ nI i from nI_ge (a := i) (b := 5) (by omega) (by decide)), if_pos (inb_i (show s + i < 400 by omega) (by decide)), ixN (by omega), h.2.2.2 _ (by omega), (sb_lo (h.2.1 _)).2.2.2.2.2.1 (by omega), bndE, nx, ← I, show (10 : Int32) * nI (num X s (min i 5)) = nI (10 * num X s (min i 5)) from pk_mul 10 _, nI_add, show (48 : Int32) = nI 48 from rfl, sbN (by omega)]
      rw [show min (i + 1) 5 = min i 5 + 1 by omega]
      show lp_Mo_number_33 _ _ _ _ _ _ = lp_Mo_number_33 kx a1 (nI s) g (nI (10 * num X s (min i 5) + (X.1 (s + min i 5) - 48))) _
      rw [show min i 5 = i by omega, show 10 * num X s i + X.1 (s + i) - 48 = 10 * num X s i + (X.1 (s + i) - 48) by omega]
theorem rbool {x : Option (Int32 × Dm)} {v : Int32} {d : Dm} (h : x = some (v, d)) (hv : v = 0 ∨ v = 1) : (x.bind (fun y => bnd y.1 (fun v => bnd y.2 (fun d => (if v = 0 ∨ v = 1 then (some (v, d)) else none))))) = some (v, d) := by
  rw [h, Option.bind_some, bndE, bndE, if_pos hv]
/-- what a number's reading changes -/
def Fr9 (δ d : Dm) : Prop := ∀ b j, ¬ (b = 151 ∧ (j = 9 ∨ j = 10 ∨ j = 11)) → gI d b j = gI δ b j
theorem num_R {X : Tx} {p hi : Nat} {u : Nat × List Int32} {δ : Dm} (hh : hi < 100000) (h : RX X δ) (h9 : gI δ 151 9 = nI p) (hp : p ≤ X.2) (h0 : gI δ 151 10 = 0) : ∃ v d, f_Mo_number (nI hi) δ = some (v, d) ∧ Fr9 δ d ∧ match pN X hi (sp X p, u) with
    | .inl w => v = 0 ∧ gI d 151 10 = nI w
    | .inr k => v = 1 ∧ gI d 151 10 = 0 ∧ gI d 151 9 = nI (te X (sp X p)) ∧ gI d 151 11 = nI k ∧ te X (sp X p) ≤ X.2 ∧ p < te X (sp X p) := by
  have h4 := h.1
  have hs := sp_le hp
  have hr := enD_run X (sp X p)
  have hle := run_le (bD_N X) hr hs
  have hge := hr.1
  have hpg := sp_ge X p
  unfold f_Mo_number
  rw [see_R h h9 hp, Option.bind_some, bndE, bndE, gss, isDig_R h.s9 (by omega), Option.bind_some]
  have frs : ∀ {d : Dm} {v : Int32} {j : Nat}, (j = 9 ∨ j = 10 ∨ j = 11) → Fr9 δ d → Fr9 δ (sI d 151 j v) := fun hj hd b i hb => by
    rw [gs, if_neg (by omega)]; exact hd b i hb
  have fr0 : Fr9 δ δ := fun _ _ _ => rfl
  have e0 : gI (sI δ 151 9 (nI (sp X p))) 151 10 = 0 := by rw [gsc (by decide)]; exact h0
  unfold pN
  by_cases z : bD X (sp X p) = true
  · have z' := of_decide_eq_true z
    have hk : kd X (sp X p) = 21 := (ky_21 (by omega)).mpr z
    have hte : te X (sp X p) = enD X (sp X p) := if_pos z
    have hgt := run_gt hr z
    rw [if_pos z, if_neg (by decide), bndE, if_pos hk]
    obtain ⟨kx, hkx⟩ : ∃ kx : Int32 → Dm → Option (Int32 × Dm), (fun v3_33x δ33x => (bnd (sI δ33x 151 11 v3_33x) (fun δ_87 => (if (5 : Int32) < ((gI δ_87 151 9) - nI (sp X p)) then (jp_Mo_number_105 (nI hi) (nI (sp X p)) v3_33x δ_87) else (if v3_33x ≤ nI hi then (jp_Mo_number_114 (nI hi) (nI (sp X p)) v3_33x δ_87) else (jp_Mo_number_105 (nI hi) (nI (sp X p)) v3_33x δ_87)))))) = kx := ⟨_, rfl⟩
    rw [hkx]
    have I := numL (kx := kx) (a1 := nI hi) hs (enD X (sp X p) - sp X p) FU 0 (sI δ 151 9 (nI (sp X p))) (by omega) (FU_gt (by omega)) h.s9 gss
    rw [sI_sI] at I
    have I : lp_Mo_number_33 kx (nI hi) (nI (sp X p)) FU 0 (sI δ 151 9 (nI (sp X p))) = _ := I
    have key : ∀ y d, kx y d = (bnd (sI d 151 11 y) (fun δ_87 => (if (5 : Int32) < ((gI δ_87 151 9) - nI (sp X p)) then (jp_Mo_number_105 (nI hi) (nI (sp X p)) y δ_87) else (if y ≤ nI hi then (jp_Mo_number_114 (nI hi) (nI (sp X p)) y δ_87) else (jp_Mo_number_105 (nI hi) (nI (sp X p)) y δ_87))))) := fun y d => by rw [← hkx]
    rw [I, key, bndE, gsc (by decide), gss, sbN (by omega)]
    obtain ⟨D, hD⟩ : ∃ D, sI (sI δ 151 9 (nI (enD X (sp X p)))) 151 11 (nI (num X (sp X p) (min (enD X (sp X p) - sp X p) 5))) = D := ⟨_, rfl⟩
    rw [hD]
    have D10 : gI D 151 10 = 0 := by rw [← hD, gsc (by decide), gsc (by decide)]; exact h0
    have frD : Fr9 δ D := by rw [← hD]; exact frs (by decide) (frs (by decide) fr0)
    have bad : ∀ y, jp_Mo_number_105 (nI hi) (nI (sp X p)) y D = some (0, sI D 151 10 (nI (flw (sp X p) 1))) := fun y => by
      unfold jp_Mo_number_105
      rw [show (1 : Int32) = nI 1 from rfl, fails_R D10, Option.bind_some, bndE, bndE, if_pos rfl]
    have hvl : vl X (sp X p) = if 5 < enD X (sp X p) - sp X p then -1 else nI (num X (sp X p) (enD X (sp X p) - sp X p)) := rfl
    by_cases y : 5 < enD X (sp X p) - sp X p
    · rw [if_pos (show (5 : Int32) < nI (enD X (sp X p) - sp X p) from nI_lt (a := 5) y (by omega)), bad]
      rw [if_pos y] at hvl
      refine ⟨_, _, rfl, frs (by decide) frD, ?_⟩
      show match (if 0 ≤ vl X (sp X p) ∧ vl X (sp X p) ≤ nI hi then (.inr (ix (vl X (sp X p))) : Nat ⊕ Nat) else .inl (flw (sp X p) 1)) with
        | .inl w => (0 : Int32) = 0 ∧ _ = nI w
        | .inr k => _
      rw [if_neg (by rw [hvl]; exact fun w => absurd w.1 (by decide))]
      exact ⟨rfl, gss⟩
    · rw [if_neg (show ¬ (5 : Int32) < nI (enD X (sp X p) - sp X p) from nI_nlt (a := 5) (by omega) (by decide))]
      rw [if_neg y] at hvl
      have hlt := num_lt (X := X) (p := sp X p) (enD X (sp X p) - sp X p) (fun i hi => by
        have := of_decide_eq_true (hr.2.1 (sp X p + i) (by omega) (by omega))
        omega)
      have h5 : 10 ^ (enD X (sp X p) - sp X p) ≤ 10 ^ 5 := Nat.pow_le_pow_right (by decide) (by omega)
      obtain ⟨k, k1, k2⟩ := vl_le hk (by rw [hvl]; exact nI_pos (by omega))
      have hn : nI (num X (sp X p) (min (enD X (sp X p) - sp X p) 5)) = nI k := by rw [show min (enD X (sp X p) - sp X p) 5 = enD X (sp X p) - sp X p by omega, ← hvl, k2]
      rw [hn]
      show ∃ (v : Int32) (d : Dm), _ ∧ _ ∧ match (if 0 ≤ vl X (sp X p) ∧ vl X (sp X p) ≤ nI hi then (.inr (ix (vl X (sp X p))) : Nat ⊕ Nat) else .inl (flw (sp X p) 1)) with
        | .inl w => v = 0 ∧ gI d 151 10 = nI w
        | .inr k => v = 1 ∧ gI d 151 10 = 0 ∧ gI d 151 9 = nI (te X (sp X p)) ∧ gI d 151 11 = nI k ∧ te X (sp X p) ≤ X.2 ∧ p < te X (sp X p)
      by_cases x : k ≤ hi
      · rw [if_pos ((leN (by omega) (by omega)).mpr x), if_pos (show 0 ≤ vl X (sp X p) ∧ vl X (sp X p) ≤ nI hi by rw [k2]; exact ⟨nI_pos' (by omega), (leN (by omega) (by omega)).mpr x⟩)]
        unfold jp_Mo_number_114
        refine ⟨_, _, rfl, frD, rfl, D10, ?_, ?_, by omega, by omega⟩
        · rw [hte, ← hD, gsc (by decide), gss]
        · rw [k2, ixN (by omega), ← hD, gss, hn]
      · rw [if_neg (fun w => x ((leN (by omega) (by omega)).mp w)), if_neg (show ¬ (0 ≤ vl X (sp X p) ∧ vl X (sp X p) ≤ nI hi) by rw [k2]; exact fun w => x ((leN (by omega) (by omega)).mp w.2)), bad]
        exact ⟨_, _, rfl, frs (by decide) frD, rfl, gss⟩
  · have hk : ¬ kd X (sp X p) = 21 := fun w => z ((ky_21 (ky_lt (by omega))).mp w)
    rw [if_neg z, if_pos rfl, if_neg hk, rbool (x := f_Mo_fails 0 (nI (sp X p)) (sI δ 151 9 (nI (sp X p)))) (fails_R (n := 0) e0) (Or.inl rfl)]
    exact ⟨_, _, rfl, frs (by decide) (frs (by decide) fr0), rfl, gss⟩
