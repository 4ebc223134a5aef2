/-! the reference's law; both laws -/
theorem SR.s9 {t p' : Nat} {X : Tx} {c k : Nat} {δ : Dm} {z : Zs} {s : Nat} (h : SR t X c δ z) (hp : p' ≤ X.2) (hs : sp X p' = s) (hk : z.1.1 + k ≤ p') : SR t X (c + k) (sI δ 151 9 (nI p')) ((s, z.1.2), z.2) := by
  obtain ⟨a1, a2, a3, a4, a5, a6⟩ := h
  exact ⟨a1.mv hp hs hk, by rw [gsc (by decide)]; exact a2, by rw [gsr (by decide)]; exact a3, fun c' x hx => by rw [gsr (by decide), gsr (by decide), gsr (by decide), gsr (by decide), gsr (by decide)]; exact a4 c' x hx, fun k hk3 => by rw [gsr (by decide)]; exact a5 k hk3, a6⟩
theorem SR.mono {t : Nat} {X : Tx} {c c' : Nat} {δ : Dm} {z : Zs} (hc : c' ≤ c) (h : SR t X c δ z) : SR t X c' δ z := ⟨h.1.mono hc, h.2⟩
theorem law_L {t : Nat} {X : Tx} {kx : Int32 → Dm → Option (Int32 × Dm)} (ht : t < 8) : ∀ g F c δ z, z.2.1.length + g = 15 → g < F → SR t X c δ z → ∃ v d, ((f_Mo_clauseHere δ).bind (fun y115 => bnd y115.1 (fun v115 => bnd y115.2 (fun δ_115 => (lp_Mo_law_91 kx F v115 δ_115))))) = kx v d ∧ Fr3 t δ d ∧ match pLs X g z with
    | .inl w => v = 0 ∧ gI d 151 10 = nI w
    | .inr y => v = 1 ∧ SR t X c d y ∧ gI d 151 9 = nI y.1.1 := by
  intro g
  induction g with
  | zero => intro F c δ z hn hF h; have := h.2.2.2.2.2; omega
  | succ g ih =>
    intro F c δ z hn hF h
    have h4 := h.1.at
    obtain ⟨G, rfl⟩ : ∃ G, F = G + 1 := ⟨F - 1, by omega⟩
    obtain ⟨v, d, e1, f1, m1⟩ := clauseHere_R ht h
    rw [e1, Option.bind_some, bndE, bndE, lp_Mo_law_91]
    show ∃ (v' : Int32) (d' : Dm), _ ∧ _ ∧ match (rzb (pCl X z) _) with
      | .inl w => v' = 0 ∧ gI d' 151 10 = nI w
      | .inr y => v' = 1 ∧ SR t X c d' y ∧ gI d' 151 9 = nI y.1.1
    cases hp : pCl X z with
    | inl w =>
      rw [hp] at m1
      obtain ⟨r1, r2⟩ := m1
      rw [r1, if_pos rfl]
      exact ⟨0, d, rfl, f1, rfl, r2⟩
    | inr y =>
      rw [hp] at m1
      obtain ⟨r1, r2⟩ := m1
      obtain ⟨l1, l2⟩ := pCl_len hp
      have hX := r2.1.1.2.1
      obtain ⟨q1, q2, q3, q4⟩ := r2.1.at
      obtain ⟨s1, -⟩ := r2.1.see
      have r3 := r2.s9 (k := 0) q1 q3 (Nat.le_refl _)
      have r3 : SR t X c (sI d 151 9 (nI y.1.1)) y := r3
      obtain ⟨D, hD⟩ : ∃ D, sI d 151 9 (nI y.1.1) = D := ⟨_, rfl⟩
      have D9 : gI D 151 9 = nI y.1.1 := by rw [← hD]; exact gss
      rw [hD] at s1 r3
      have fD : Fr3 t δ D := by rw [← hD]; exact f1.s (by decide)
      rw [r1, if_neg (show ¬ (1 : Int32) = 0 by decide), s1, Option.bind_some, bndE, bndE]
      have b := bt_sg (s := y.1.1) (b := 59) hX (by decide)
      show ∃ (v' : Int32) (d' : Dm), (if bt X y.1.1 = 59 then _ else _) = _ ∧ _ ∧ match (if kd X y.1.1 = 33 then pLs X g (nq X y.1, y.2) else .inr y) with
        | .inl w => v' = 0 ∧ gI d' 151 10 = nI w
        | .inr y => v' = 1 ∧ SR t X c d' y ∧ gI d' 151 9 = nI y.1.1
      by_cases z1 : kd X y.1.1 = 33
      · obtain ⟨t1, t2, t3⟩ := te_sg (s := y.1.1) (b := 59) hX (by decide) z1
        rw [if_pos z1, if_pos (show bt X y.1.1 = 59 from b.mpr z1), D9, nI_1, bndE]
        have r4 := r3.s9 (k := 1) (p' := y.1.1 + 1) (s := nx X y.1.1) (by omega) (by rw [← t1]; rfl) (Nat.le_refl _)
        obtain ⟨v2, d2, e2, f2, m2⟩ := ih G c _ (nq X y.1, y.2) (by show y.2.1.length + g = 15; omega) (by omega) (r4.mono (Nat.le_add_right c 1))
        exact ⟨v2, d2, e2, (fD.s (by decide)).trans f2, m2⟩
      · rw [if_neg z1, if_neg (show ¬ bt X y.1.1 = 59 from fun w => z1 (b.mp w))]
        exact ⟨1, D, rfl, fD, rfl, r3, D9⟩
/-- a law's fault is small -/
theorem pLaw_w {X : Tx} {w : Nat} (h4 : X.2 ≤ 400) (hX : ∀ j, X.1 j < 256) (h : pLaw X = .inl w) : w ≠ 0 ∧ w < 4000 := by
  obtain ⟨f, d, -, -, e⟩ := read_C (t := 87) (X := X) (δ := (fun b j => if b = 5 then nI (X.1 j) else 0, fun _ _ => 0)) (isL_at 0 (by decide)).1 (LKd_l (i := 0) (by decide)) ⟨h4, hX, fun j hj => by show (if 5 = 5 then nI (X.1 j) else 0) = _; rw [if_pos rfl]⟩
  rw [h] at e
  exact e.2
theorem LM_keep3 {i t : Nat} {δ d : Dm} {L : LawT} (ok : LOk L) (hit : i ≠ t) (h : LM i δ L) (hk : ∀ b j, 154 ≤ b → b < 159 → ¬ (b = 154 ∧ 400 * t ≤ j ∧ j < 400 * t + 400) → ¬ (b = 155 ∧ j = t) → ¬ (b = 156 ∧ 70 * t ≤ j ∧ j < 70 * t + 70) → ¬ (b = 157 ∧ j = t) → ¬ (b = 158 ∧ 3 * t ≤ j ∧ j < 3 * t + 3) → gI d b j = gI δ b j) : LM i d L := by
  obtain ⟨h1, h2, h3⟩ := h
  have hl : (L.1.filter isW).length ≤ 14 := Nat.le_trans (List.length_filter_le _ _) ok.1
  refine ⟨by rw [hk 157 i (by decide) (by decide) (by omega) (by omega) (by omega) (by omega) (by omega)]; exact h1, fun c x hx => ?_, fun k hk3 => by rw [hk 158 _ (by decide) (by decide) (by omega) (by omega) (by omega) (by omega) (by omega)]; exact h3 k hk3⟩
  have hc := idx_lt hx
  have g : ∀ o, o < 5 → gI d 156 (70 * i + 5 * c + o) = gI δ 156 (70 * i + 5 * c + o) := fun o ho => hk 156 _ (by decide) (by decide) (by omega) (by omega) (by omega) (by omega) (by omega)
  obtain ⟨a1, a, a2, a3, a4, a5, a6, a7⟩ := h2 c x hx
  refine ⟨(g 0 (by decide)).trans a1, a, a2, (g 1 (by decide)).trans a3, (g 2 (by decide)).trans a4, (g 3 (by decide)).trans a5, (g 4 (by decide)).trans a6, fun k o q => ?_⟩
  have hkk := idx_lt q
  rw [List.length_append] at hkk
  rw [hk 154 _ (by decide) (by decide) (by omega) (by omega) (by omega) (by omega) (by omega)]
  exact a7 k o q
theorem SR_LM {t : Nat} {X : Tx} {c : Nat} {δ : Dm} {z : Zs} (h : SR t X c δ z) : LM t δ z.2 := by
  obtain ⟨a1, a2, a3, a4, a5, a6⟩ := h
  obtain ⟨q1, q2, q3, q4⟩ := a1.at
  refine ⟨a3, fun c' x hx => ?_, fun k hk3 => (a5 k hk3).1⟩
  obtain ⟨b1, a, b2, b3, b4, b5, b6, b7⟩ := a4 c' x hx
  exact ⟨b1, a, by omega, b3, b4, b5, b6, fun k o q => a1.2.2.2.2.2.2.2 (a + k) o (b7 k o q)⟩
theorem law_M {δ : Dm} {S : St} (h : RepM δ S) (ok : Ok S) (hl : (sJ S).length < 8) : ∃ d, f_Mo_law δ = some (laV S (pLaw (tX S)), d) ∧ RepM d (laS S (pLaw (tX S))) ∧ KC δ d := by
  obtain ⟨h1, h2, h3, h4, h5, h6, h7⟩ := h
  obtain ⟨t, ht'⟩ : ∃ t, (sJ S).length = t := ⟨_, rfl⟩
  rw [ht'] at hl h2
  have hX4 : (tX S).2 ≤ 400 := ok.2.2.2.1
  have hXb : ∀ j, (tX S).1 j < 256 := ok.2.2.2.2.1
  -- what is made ready
  obtain ⟨A, hA⟩ : ∃ A, sI (sI (sI δ 151 12 (nI t)) 155 t 0) 157 t 0 = A := ⟨_, rfl⟩
  obtain ⟨B, hB⟩ : ∃ B, sI (sI (sI A 158 (3 * t) (-1)) 158 (3 * t + 1) (-1)) 158 (3 * t + 2) (-1) = B := ⟨_, rfl⟩
  obtain ⟨E, hE⟩ : ∃ E, sI (sI (sI (sI B 151 15 0) 151 9 0) 151 10 0) 151 13 0 = E := ⟨_, rfl⟩
  have fE : ∀ b j, ¬ (b = 151 ∧ 9 ≤ j ∧ j ≤ 17) → ¬ (b = 155 ∧ j = t) → ¬ (b = 157 ∧ j = t) → ¬ (b = 158 ∧ 3 * t ≤ j ∧ j < 3 * t + 3) → gI E b j = gI δ b j := fun b j q1 q2 q3 q4 => by
    rw [← hE, gs, if_neg (by omega), gs, if_neg (by omega), gs, if_neg (by omega), gs, if_neg (by omega), ← hB, gs, if_neg (by omega), gs, if_neg (by omega), gs, if_neg (by omega), ← hA, gs, if_neg q3, gs, if_neg q2, gs, if_neg (by omega)]
  have E155 : gI E 155 t = 0 := by rw [← hE, gsr (by decide), gsr (by decide), gsr (by decide), gsr (by decide), ← hB, gsr (by decide), gsr (by decide), gsr (by decide), ← hA, gsr (by decide), gss]
  have E157 : gI E 157 t = 0 := by rw [← hE, gsr (by decide), gsr (by decide), gsr (by decide), gsr (by decide), ← hB, gsr (by decide), gsr (by decide), gsr (by decide), ← hA, gss]
  have E158 : ∀ k, k < 3 → gI E 158 (3 * t + k) = -1 := fun k hk3 => by
    rw [← hE, gsr (by decide), gsr (by decide), gsr (by decide), gsr (by decide), ← hB]
    by_cases y2 : k = 2
    · rw [y2, gss]
    rw [gsc (by omega)]
    by_cases y1 : k = 1
    · rw [y1, gss]
    rw [gsc (by omega), show k = 0 by omega, Nat.add_zero, gss]
  have E9 : gI E 151 9 = 0 := by rw [← hE, gsc (by decide), gsc (by decide), gss]
  have E10 : gI E 151 10 = 0 := by rw [← hE, gsc (by decide), gss]
  have E13 : gI E 151 13 = 0 := by rw [← hE, gss]
  have E15 : gI E 151 15 = 0 := by rw [← hE, gsc (by decide), gsc (by decide), gsc (by decide), gss]
  have E12 : gI E 151 12 = nI t := by rw [← hE, gsc (by decide), gsc (by decide), gsc (by decide), gsc (by decide), ← hB, gsr (by decide), gsr (by decide), gsr (by decide), ← hA, gsr (by decide), gsr (by decide), gss]
  have sE : SR t (tX S) 0 E ((sp (tX S) 0, 0, []), [], fun _ => -1) := by
    refine ⟨⟨⟨hX4, hXb, by rw [fE _ _ (by omega) (by omega) (by omega) (by omega)]; exact h4, fun j hj => by rw [fE _ _ (by omega) (by omega) (by omega) (by omega)]; exact h5 j hj⟩, ⟨0, Nat.zero_le _, rfl, E9, Nat.le_refl _⟩, E10, E12, E13, Nat.zero_le _, E155, fun k o q => by simp at q⟩, E15, E157, fun c x hx => by simp at hx, fun k hk3 => ⟨E158 k hk3, Or.inl rfl⟩, Nat.zero_le _⟩
  obtain ⟨kx, hkx⟩ : ∃ kx : Int32 → Dm → Option (Int32 × Dm), (fun v1_91x δ91x => (if v1_91x = 0 then (jp_Mo_law_144 v1_91x δ91x) else ((f_Mo_see δ91x).bind (fun y127 => bnd y127.1 (fun v127 => bnd y127.2 (fun δ_127 => (if v127 = (-1 : Int32) then (jp_Mo_law_144 v1_91x δ_127) else ((f_Mo_fails (0 : Int32) (gI δ_127 151 9) δ_127).bind (fun y140 => bnd y140.1 (fun v140 => bnd y140.2 (fun δ_140 => (jp_Mo_law_144 v1_91x δ_140)))))))))))) = kx := ⟨_, rfl⟩
  obtain ⟨v, d, e1, f1, m1⟩ := law_L (kx := kx) hl 15 FU 0 E ((sp (tX S) 0, 0, []), [], fun _ => -1) rfl (FU_gt (by decide)) sE
  have run : f_Mo_law δ = kx v d := by
    unfold f_Mo_law
    rw [h2, if_neg (show ¬ nI t = 8 from fun w => by have := (nI_eq (b := 8) (by omega) (by decide)).mp w; omega), bndE, gss, if_pos (inb_i hl (by decide)), ixN (by omega), bndE, gsr (by decide), gss, if_pos (inb_i hl (by decide)), ixN (by omega), bndE, hA]
    have A12 : gI A 151 12 = nI t := by rw [← hA, gsr (by decide), gsr (by decide), gss]
    have e3 : (3 : Int32) * nI t = nI (3 * t) := pk_mul 3 _
    have L : ∀ K : Int32 → Dm → Option (Int32 × Dm), lp_Mo_law_41 K FU 0 A = K 3 B := fun K => by
      obtain ⟨g, hg⟩ : ∃ g, FU = g + 4 := ⟨FU - 4, by have := FU_gt (k := 500) (by decide); omega⟩
      rw [hg, lp_Mo_law_41, if_neg (by decide), A12, e3, show nI (3 * t) + 0 = nI (3 * t) from Int32.add_zero _, if_pos (inb_i (show 3 * t < 24 by omega) (by decide)), ixN (by omega), bndE, show (0 : Int32) + 1 = 1 from rfl]
      rw [lp_Mo_law_41, if_neg (by decide), gsr (by decide), A12, e3, show nI (3 * t) + 1 = nI (3 * t + 1) from nI_add _ 1, if_pos (inb_i (show 3 * t + 1 < 24 by omega) (by decide)), ixN (by omega), bndE, show (1 : Int32) + 1 = 2 from rfl]
      rw [lp_Mo_law_41, if_neg (by decide), gsr (by decide), gsr (by decide), A12, e3, show nI (3 * t) + 2 = nI (3 * t + 2) from nI_add _ 2, if_pos (inb_i (show 3 * t + 2 < 24 by omega) (by decide)), ixN (by omega), bndE, hB, show (2 : Int32) + 1 = 3 from rfl]
      rw [lp_Mo_law_41, if_pos (by decide)]
    rw [L, bndE, bndE, bndE, bndE, hE, ← e1, ← hkx]
  have fd : ∀ b j, ¬ (b = 151 ∧ 9 ≤ j ∧ j ≤ 17) → ¬ (b = 154 ∧ 400 * t ≤ j ∧ j < 400 * t + 400) → ¬ (b = 155 ∧ j = t) → ¬ (b = 156 ∧ 70 * t ≤ j ∧ j < 70 * t + 70) → ¬ (b = 157 ∧ j = t) → ¬ (b = 158 ∧ 3 * t ≤ j ∧ j < 3 * t + 3) → b ≠ 159 → gI d b j = gI δ b j := fun b j q1 q2 q3 q4 q5 q6 q7 => by
    rw [f1 b j (by omega) q2 q3 q4 q5 q6 q7, fE b j q1 q3 q5 q6]
  -- a law that is faulty
  have bad : ∀ (w : Nat) (d' : Dm), w ≠ 0 → w < 4000 → gI d' 151 10 = nI w → (∀ b j, ¬ (b = 151 ∧ 9 ≤ j ∧ j ≤ 17) → gI d' b j = gI d b j) → ∀ x, ∃ e, jp_Mo_law_144 x d' = some (-2 - nI w, e) ∧ RepM e (laS S (.inl w)) ∧ KC δ e := fun w d' w1 w2 hw fr x => by
    have fe : ∀ b j, ¬ (b = 151 ∧ (j = 2 ∨ (9 ≤ j ∧ j ≤ 17))) → ¬ (b = 154 ∧ 400 * t ≤ j ∧ j < 400 * t + 400) → ¬ (b = 155 ∧ j = t) → ¬ (b = 156 ∧ 70 * t ≤ j ∧ j < 70 * t + 70) → ¬ (b = 157 ∧ j = t) → ¬ (b = 158 ∧ 3 * t ≤ j ∧ j < 3 * t + 3) → b ≠ 159 → gI (sI d' 151 2 0) b j = gI δ b j := fun b j q1 q2 q3 q4 q5 q6 q7 => by
      rw [gs, if_neg (by omega), fr b j (by omega), fd b j (by omega) q2 q3 q4 q5 q6 q7]
    unfold jp_Mo_law_144
    rw [bndE, gsc (by decide), hw, if_neg (nI_nle (by omega) (by omega))]
    refine ⟨_, rfl, ⟨RM_row h1 (fun j => fe _ _ (by omega) (by omega) (by omega) (by omega) (by omega) (by omega) (by omega)), ?_, fun i L q => ?_, gss, fun j hj => absurd hj (Nat.not_lt_zero _), fun q hq => RM_row (h6 q hq) (fun j => fe _ _ (by omega) (by omega) (by omega) (by omega) (by omega) (by omega) (by omega)), fun k hk => ?_⟩, fun b j q => fe _ _ (by omega) (by omega) (by omega) (by omega) (by omega) (by omega) (by omega)⟩
    · rw [fe _ _ (by omega) (by omega) (by omega) (by omega) (by omega) (by omega) (by omega), h2, ← ht']; rfl
    · have hi := idx_lt q
      have hi : i < (sJ S).length := hi
      exact LM_keep3 (ok.2.2.1 L (List.mem_of_getElem? q)) (by omega) (h3 i L q) (fun b j q1 q2 q3 q4 q5 q6 q7 => fe b j (by omega) q3 q4 q5 q6 q7 (by omega))
    · rw [fe _ _ (by omega) (by omega) (by omega) (by omega) (by omega) (by omega) (by omega)]; exact h7 k hk
  have kx0 : ∀ d', kx 0 d' = jp_Mo_law_144 0 d' := fun d' => by rw [← hkx]; exact if_pos rfl
  have kx1 : ∀ d', kx 1 d' = ((f_Mo_see d').bind (fun y127 => bnd y127.1 (fun v127 => bnd y127.2 (fun δ_127 => (if v127 = (-1 : Int32) then (jp_Mo_law_144 1 δ_127) else ((f_Mo_fails (0 : Int32) (gI δ_127 151 9) δ_127).bind (fun y140 => bnd y140.1 (fun v140 => bnd y140.2 (fun δ_140 => (jp_Mo_law_144 1 δ_140)))))))))) := fun d' => by rw [← hkx]; exact if_neg (by decide)
  rw [run]
  have hw : ∀ w, pLaw (tX S) = .inl w → w ≠ 0 ∧ w < 4000 := fun w h => pLaw_w hX4 hXb h
  unfold pLaw at hw ⊢
  cases hp : pLs (tX S) 15 ((sp (tX S) 0, 0, []), [], fun _ => -1) with
  | inl w =>
    rw [hp] at m1 hw
    obtain ⟨r1, r2⟩ := m1
    obtain ⟨w1, w2⟩ := hw w rfl
    rw [r1, kx0]
    exact bad w d w1 w2 r2 (fun _ _ _ => rfl) 0
  | inr z =>
    rw [hp] at m1 hw
    obtain ⟨r1, r2, r3⟩ := m1
    obtain ⟨q1, q2, q3, q4⟩ := r2.1.at
    obtain ⟨s1, -⟩ := r2.1.see
    rw [sI_same r3] at s1
    rw [r1, kx1, s1, Option.bind_some, bndE, bndE, r3]
    have b34 := bt_34 (X := tX S) (s := z.1.1) hXb
    have hw : ∀ w, (if kd (tX S) z.1.1 = 34 then (.inr z.2 : Nat ⊕ LawT) else .inl (flw z.1.1 0)) = .inl w → w ≠ 0 ∧ w < 4000 := hw
    show ∃ d', _ = some (laV S (if kd (tX S) z.1.1 = 34 then (.inr z.2 : Nat ⊕ LawT) else .inl (flw z.1.1 0)), d') ∧ RepM d' (laS S (if kd (tX S) z.1.1 = 34 then (.inr z.2 : Nat ⊕ LawT) else .inl (flw z.1.1 0))) ∧ KC δ d'
    by_cases z1 : kd (tX S) z.1.1 = 34
    · rw [if_pos z1, if_pos (b34.mpr z1)]
      have hlaw := SR_LM r2
      have fe : ∀ x b j, ¬ (b = 151 ∧ (j = 2 ∨ j = 3 ∨ (9 ≤ j ∧ j ≤ 17))) → ¬ (b = 154 ∧ 400 * t ≤ j ∧ j < 400 * t + 400) → ¬ (b = 155 ∧ j = t) → ¬ (b = 156 ∧ 70 * t ≤ j ∧ j < 70 * t + 70) → ¬ (b = 157 ∧ j = t) → ¬ (b = 158 ∧ 3 * t ≤ j ∧ j < 3 * t + 3) → b ≠ 159 → gI (sI (sI d 151 2 0) 151 3 x) b j = gI δ b j := fun x b j q1 q2 q3 q4 q5 q6 q7 => by
        rw [gs, if_neg (by omega), gs, if_neg (by omega), fd b j (by omega) q2 q3 q4 q5 q6 q7]
      unfold jp_Mo_law_144
      rw [bndE, gsc (by decide), r2.1.2.2.1, if_pos (by decide), gsc (by decide), fd 151 3 (by omega) (by omega) (by omega) (by omega) (by omega) (by omega) (by omega), h2, nI_1, bndE, gss, show nI (t + 1) - 1 = nI t from nI_pred t]
      refine ⟨_, by rw [show laV S (.inr z.2) = nI t by rw [← ht']; rfl], ⟨RM_row h1 (fun j => fe _ _ _ (by omega) (by omega) (by omega) (by omega) (by omega) (by omega) (by omega)), ?_, fun i L q => ?_, ?_, fun j hj => absurd hj (Nat.not_lt_zero _), fun q hq => RM_row (h6 q hq) (fun j => fe _ _ _ (by omega) (by omega) (by omega) (by omega) (by omega) (by omega) (by omega)), fun k hk => ?_⟩, fun b j q => fe _ _ _ (by omega) (by omega) (by omega) (by omega) (by omega) (by omega) (by omega)⟩
      · rw [gss]
        show nI (t + 1) = nI (sJ S ++ [z.2]).length
        rw [List.length_append, ht']; rfl
      · have q : (sJ S ++ [z.2])[i]? = some L := q
        rw [List.getElem?_append] at q
        by_cases y : i < (sJ S).length
        · rw [if_pos y] at q
          exact LM_keep3 (ok.2.2.1 L (List.mem_of_getElem? q)) (by omega) (h3 i L q) (fun b j q1 q2 q3 q4 q5 q6 q7 => fe _ b j (by omega) q3 q4 q5 q6 q7 (by omega))
        · rw [if_neg y] at q
          have hlt := idx_lt q
          rw [List.length_cons, List.length_nil] at hlt
          have e : i = t := by omega
          rw [e, ht', Nat.sub_self] at q
          obtain rfl := Option.some.inj q
          rw [e]
          exact LM_keep2 hlaw (fun b j q1 q2 => by rw [gsr (by omega), gsr (by omega)])
      · rw [gsc (by decide), gss]; rfl
      · rw [fe _ _ _ (by omega) (by omega) (by omega) (by omega) (by omega) (by omega) (by omega)]; exact h7 k hk
    · rw [if_neg z1, if_neg (fun w => z1 (b34.mp w)), show (0 : Int32) = nI 0 from rfl, fails_R r2.1.2.2.1, Option.bind_some, bndE, bndE]
      rw [if_neg z1] at hw
      obtain ⟨w1, w2⟩ := hw _ rfl
      exact bad (flw z.1.1 0) _ w1 w2 gss (fun b j q => by rw [gs, if_neg (by omega)]) 1
theorem op_law : OpG f_Fp_law f_Mo_law := mk_op fun n S ok => by
  have hl := ok.2.1
  by_cases h8 : (sJ S).length < 8
  · exact ⟨laV S (pLaw (tX S)), laS S (pLaw (tX S)), fun δ h => law_C h ok h8, fun δ h => law_M h ok h8, ok_laS ok h8 rfl⟩
  · have e8 : (sJ S).length = 8 := by omega
    refine nop (-1) ok (fun δ h => ?_) (fun δ h => ?_)
    · unfold f_Fp_law
      rw [h.2.1, e8, if_neg (nI_pos (by decide)), if_neg (by decide)]
    · unfold f_Mo_law
      rw [h.2.1, e8, if_pos (by decide)]
