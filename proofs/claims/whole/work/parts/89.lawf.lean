/-! a whole law, as the class reads it -/
theorem pCl_len {X : Tx} {z y : Zs} (h : pCl X z = .inr y) : y.2.1.length = z.2.1.length + 1 ∧ z.2.1.length < 14 := by
  have pb : ∀ s sm q, pB X s sm z q = .inr y → y.2.1.length = z.2.1.length + 1 := fun s sm q h => by
    unfold pB at h
    cases h1 : pB1 X sm q with
    | inl w => rw [h1] at h; cases h
    | inr q1 =>
      rw [h1] at h
      have h : rzb (pB2 X sm q1) _ = _ := h
      cases h2 : pB2 X sm q1 with
      | inl w => rw [h2] at h; cases h
      | inr q2 =>
        rw [h2] at h; cases h
        show (z.2.1 ++ [_]).length = _
        rw [List.length_append]; rfl
  unfold pCl at h
  by_cases y1 : kd X z.1.1 < 9 ∨ 16 < kd X z.1.1
  · rw [if_pos y1] at h; cases h
  rw [if_neg y1] at h
  by_cases y2 : 14 ≤ z.2.1.length
  · rw [if_pos y2] at h; cases h
  rw [if_neg y2] at h
  refine ⟨?_, by omega⟩
  by_cases y3 : kd X z.1.1 = 11
  · rw [if_pos y3] at h
    cases h1 : pN X 2 (nq X z.1) with
    | inl w => rw [h1] at h; cases h
    | inr b =>
      rw [h1] at h
      have h : (if z.2.2 b = -1 then _ else _) = _ := h
      by_cases y4 : z.2.2 b = -1
      · rw [if_pos y4] at h
        cases h2 : pN X 999 (nq X (nq X z.1)) with
        | inl w => rw [h2] at h; cases h
        | inr v =>
          rw [h2] at h; cases h
          show (z.2.1 ++ [_]).length = _
          rw [List.length_append]; rfl
      · rw [if_neg y4] at h; cases h
  rw [if_neg y3] at h
  by_cases y4 : kd X z.1.1 < 11
  · rw [if_pos y4] at h
    cases h1 : pN X 2 (nq X z.1) with
    | inl w => rw [h1] at h; cases h
    | inr b => rw [h1] at h; exact pb _ _ _ h
  · rw [if_neg y4] at h; exact pb _ _ _ h
theorem read_loop {t : Nat} {X : Tx} {m : Nat} {kx : Int32 → Dm → Option (Int32 × Dm)} {a2 : Int32} {a3 : Nat} (ht : isL t = true) (hk : LKd t) : ∀ g F z δ, z.2.1.length + g = 15 → g < F → SZ t X m 1 δ (.inr z) → ∃ d n', lp_Re_read_40 kx a2 a3 F (nI z.2.1.length) δ = kx n' d ∧ SZ t X m 1 d (pLs X g z) ∧ FrZl t δ d := by
  obtain ⟨t1, t2⟩ := isL_r ht
  intro g
  induction g with
  | zero =>
    intro F z δ hn hF h
    have := h.2.2.2
    omega
  | succ g ih =>
    intro F z δ hn hF h
    obtain ⟨G, rfl⟩ : ∃ G, F = G + 1 := ⟨F - 1, by omega⟩
    obtain ⟨d1, e1, s1, f1⟩ := clause_C ht hk h
    rw [lp_Re_read_40, if_neg (show ¬ (14 : Int32) < nI z.2.1.length from nI_nlt (a := 14) (b := z.2.1.length) (by omega) (by omega)), e1, Option.bind_some]
    show ∃ d n', _ ∧ SZ t X m 1 d (rzb (pCl X z) _) ∧ _
    cases hy : pCl X z with
    | inl w =>
      rw [hy] at s1
      have hk1 : gI d1 7 5 = 35 := s1.2.2.2.2.2
      rw [hk1, if_neg (by decide)]
      exact ⟨d1, _, rfl, s1, f1⟩
    | inr y =>
      rw [hy] at s1
      obtain ⟨l1, l2⟩ := pCl_len hy
      obtain ⟨a1, a2', a3', a4⟩ := s1
      obtain ⟨hk1, -⟩ := St_at a1
      have hkl := ky_le X y.1.1
      rw [hk1]
      show ∃ d n', _ ∧ SZ t X m 1 d (if kd X y.1.1 = 33 then _ else _) ∧ _
      by_cases z1 : kd X y.1.1 = 33
      · rw [if_pos z1, if_pos (show nI (kd X y.1.1) = (33 : Int32) by rw [z1]; rfl)]
        obtain ⟨d2, e2, s2, f2⟩ := step_g ht a1 (by omega)
        rw [e2, Option.bind_some, nI_1, ← l1]
        obtain ⟨d, n', e3, s3, f3⟩ := ih G (nq X y.1, y.2) d2 (by show y.2.1.length + g = 15; omega) (by omega) ⟨St_mono (by decide) s2, ⟨by rw [f2 _ _ (by omega) (by omega) (by omega)]; exact a2'.1, fun c x hx => by
          rw [f2 _ _ (by omega) (by omega) (by omega), f2 _ _ (by omega) (by omega) (by omega), f2 _ _ (by omega) (by omega) (by omega), f2 _ _ (by omega) (by omega) (by omega), f2 _ _ (by omega) (by omega) (by omega)]; exact a2'.2 c x hx⟩, fun k hk3 => by rw [f2 _ _ (by omega) (by omega) (by omega)]; exact a3' k hk3, a4⟩
        exact ⟨d, n', e3, s3, (f1.trans f2.Zl).trans f3⟩
      · rw [if_neg z1, if_neg (show ¬ nI (kd X y.1.1) = (33 : Int32) from fun w => z1 ((kq hkl (by decide)).mp w))]
        exact ⟨d1, _, rfl, ⟨a1, a2', a3', a4⟩, f1⟩
theorem SZ_LC {t : Nat} {X : Tx} {m : Nat} {δ : Dm} {z : Zs} (h : SZ t X m 1 δ (.inr z)) : LC t δ z.2 := by
  obtain ⟨hS, ⟨h1, h2⟩, h3, h4⟩ := h
  obtain ⟨hT, h8, j, g1, g2, g3, g4, g5, g6, g7, g8, g9, g10⟩ := hS
  have := hT.1
  refine ⟨h1, fun c x hx => ?_, h3⟩
  obtain ⟨a1, a2, a, a3, a4, a5, a6, a7⟩ := h2 c x hx
  exact ⟨a1, a2, a, by omega, a3, a4, a5, fun k o q => g9 _ o (a7 k o q)⟩
/-- what is written beside the law's own rows -/
def FrL (t : Nat) (δ d : Dm) : Prop := ∀ b j, (b < 7 ∨ 10 < b) → (b < t ∨ t + 8 ≤ b) → gI d b j = gI δ b j
theorem read_C {t : Nat} {X : Tx} {δ : Dm} (ht : isL t = true) (hk : LKd t) (h : CX X δ) : ∃ f d, f_Re_read (nI X.2) t δ = some (f, d) ∧ FrL t δ d ∧ match pLaw X with
    | .inl w => f = nI w ∧ w ≠ 0 ∧ w < 4000
    | .inr L => f = 0 ∧ LC t d L := by
  obtain ⟨t1, t2⟩ := isL_r ht
  obtain ⟨m, d0, e0, hT, f0⟩ := scan_eq h
  have f0' : FrL t δ d0 := fun b j q1 q2 => f0 b j (by omega) (by omega) (by omega) (by omega)
  obtain ⟨b1, b2, b3, b4, b5⟩ := id hT
  obtain ⟨D, hD⟩ : ∃ D, sI (sI (sI (flI (sI (sI (sI d0 7 8 (nI t)) t 0 0) t 1 0) (t + 6) 3 (-1)) 7 6 0) 7 7 0) 7 4 (-1) = D := ⟨_, rfl⟩
  have D3 : gI D 7 3 = nI (m + 1) := by
    rw [← hD, gsc (by decide), gsc (by decide), gsc (by decide), g_flI, if_neg (by omega), gsr (by omega), gsr (by omega), gsc (by decide)]; exact b3
  have D4 : gI D 7 4 = -1 := by rw [← hD, gss]
  have D6 : gI D 7 6 = 0 := by rw [← hD, gsc (by decide), gsc (by decide), gss]
  have D7 : gI D 7 7 = 0 := by rw [← hD, gsc (by decide), gss]
  have D8 : gI D 7 8 = nI t := by
    rw [← hD, gsc (by decide), gsc (by decide), gsc (by decide), g_flI, if_neg (by omega), gsr (by omega), gsr (by omega), gss]
  have Db : ∀ b j, b ≠ 7 → (b < t ∨ t + 8 ≤ b) → gI D b j = gI d0 b j := fun b j q1 q2 => by
    rw [← hD, gsr q1, gsr q1, gsr q1, g_flI, if_neg (by omega), gsr (by omega), gsr (by omega), gsr q1]
  have Dt0 : gI D t 0 = 0 := by rw [← hD, gsr (by omega), gsr (by omega), gsr (by omega), g_flI, if_neg (by omega), gsc (by decide), gss]
  have Dt1 : gI D t 1 = 0 := by rw [← hD, gsr (by omega), gsr (by omega), gsr (by omega), g_flI, if_neg (by omega), gss]
  have Dt6 : ∀ k, k < 3 → gI D (t + 6) k = -1 := fun k hk3 => by rw [← hD, gsr (by omega), gsr (by omega), gsr (by omega), g_flI, if_pos ⟨rfl, hk3⟩]
  -- the first token
  obtain ⟨E, hE⟩ : ∃ E, sI (sI D 7 4 0) 7 5 (nI (kd X (sp X 0))) = E := ⟨_, rfl⟩
  have eS : f_Re_step D = some E := by
    unfold f_Re_step
    rw [bndE, gsc (by decide), gss, D7, if_pos rfl, D4, show (-1 : Int32) + 1 = 0 by decide, if_neg (by decide), gsc (by decide), D3, if_neg (show ¬ nI (m + 1) ≤ 0 from nI_ge (a := 0) (b := m + 1) (by omega) (by omega)), if_neg (by decide)]
    unfold jp_Re_step_52
    rw [if_neg (by decide), gss, if_pos (show inb (0 : Int32) 401 by decide), show ix (0 : Int32) = 0 from rfl, gsr (by decide), Db 8 0 (by decide) (by omega), (b5 0 (Nat.zero_le _)).1]
    unfold jp_Re_step_72
    rw [bndE, ← hE]; rfl
  have E7 : ∀ b j, b ≠ 7 → gI E b j = gI D b j := fun b j q => by rw [← hE, gsr q, gsr q]
  have sE : SZ t X m 1 E (.inr ((sp X 0, 0, []), [], fun _ => -1)) := by
    refine ⟨⟨TA_fr hT ?_ (fun b j q1 q2 => by rw [E7 _ _ (by omega), Db _ _ (by omega) (by omega)]), ?_, 0, Nat.zero_le _, rfl, ?_, ?_, ?_, ?_, Nat.zero_le _, ?_, fun k o q => by simp at q, Nat.le_refl _⟩, ⟨?_, fun c x hx => by simp at hx⟩, fun k hk3 => ?_, Nat.zero_le _⟩
    · rw [← hE, gsc (by decide), gsc (by decide), D3, b3]
    · rw [← hE, gsc (by decide), gsc (by decide), D8]
    · rw [← hE, gsc (by decide), gss]; rfl
    · rw [← hE, gss]
    · rw [← hE, gsc (by decide), gsc (by decide), D6]; rfl
    · rw [← hE, gsc (by decide), gsc (by decide), D7]
    · rw [E7 _ _ (by omega), Dt1]; rfl
    · rw [E7 _ _ (by omega), Dt0]; rfl
    · rw [E7 _ _ (by omega), Dt6 k hk3]
  obtain ⟨d, n', eL, sL, fL⟩ := read_loop (kx := fun v4_40x δ40x => (if (gI δ40x 7 5) = (34 : Int32) then (some ((gI δ40x 7 7), δ40x)) else ((f_Re_fail (0 : Int32) δ40x).bind (fun y86 => (some ((gI y86 7 7), y86)))))) (a2 := nI X.2) (a3 := t) ht hk 15 FU ((sp X 0, 0, []), [], fun _ => -1) E rfl (FU_gt (by decide)) sE
  have fr : FrL t δ d := fun b j q1 q2 => by
    rw [fL b j (by omega) q2, E7 b j (by omega), Db b j (by omega) q2, f0' b j q1 q2]
  have run : f_Re_read (nI X.2) t δ = (if (gI d 7 5) = (34 : Int32) then (some ((gI d 7 7), d)) else ((f_Re_fail (0 : Int32) d).bind (fun y86 => (some ((gI y86 7 7), y86))))) := by
    unfold f_Re_read
    rw [e0, Option.bind_some, bndE, gss, dR_i (by omega) (by omega)]
    simp only [ocs]
    rw [if_pos ht]
    unfold f_La_clear
    rw [bndE, bndE, fillI_eq (N := 3) hk.2.2.2.2.2.1, Option.bind_some, Option.bind_some, bndE, bndE, bndE, hD, eS, Option.bind_some]
    exact eL
  rw [run]
  unfold pLaw
  cases hp : pLs X 15 ((sp X 0, 0, []), [], fun _ => -1) with
  | inl w =>
    rw [hp] at sL
    have hk1 : gI d 7 5 = 35 := sL.2.2.2.2.2
    rw [hk1, if_neg (by decide)]
    obtain ⟨d2, e2, s2, f2⟩ := fail_f (a1 := 0) (c := 1) (c' := 1) sL
    rw [e2]
    exact ⟨_, d2, rfl, fun b j q1 q2 => by rw [f2.Zl b j (by omega) q2]; exact fr b j q1 q2, s2.2.2.2.2.1, s2.2.2.1, s2.2.2.2.1⟩
  | inr z =>
    rw [hp] at sL
    obtain ⟨a1, -⟩ := id sL
    obtain ⟨hk1, -⟩ := St_at a1
    have hkl := ky_le X z.1.1
    rw [hk1]
    show ∃ f d, _ ∧ _ ∧ match (if kd X z.1.1 = 34 then (.inr z.2 : Nat ⊕ LawT) else .inl (flw z.1.1 0)) with
      | .inl w => f = nI w ∧ w ≠ 0 ∧ w < 4000
      | .inr L => f = 0 ∧ LC t d L
    by_cases z1 : kd X z.1.1 = 34
    · rw [if_pos z1, if_pos (show nI (kd X z.1.1) = (34 : Int32) by rw [z1]; rfl)]
      exact ⟨_, d, rfl, fr, a1.2.2.choose_spec.2.2.2.2.2.1, SZ_LC sL⟩
    · rw [if_neg z1, if_neg (show ¬ nI (kd X z.1.1) = (34 : Int32) from fun w => z1 ((kq hkl (by decide)).mp w))]
      obtain ⟨d2, e2, s2, f2⟩ := fail_g (why := 0) (c' := 1) a1 (by decide)
      rw [show (0 : Int32) = nI 0 from rfl, e2]
      exact ⟨_, d2, rfl, fun b j q1 q2 => by rw [f2.Zl b j (by omega) q2]; exact fr b j q1 q2, s2.2.2.2.2.1, s2.2.2.1, s2.2.2.2.1⟩
