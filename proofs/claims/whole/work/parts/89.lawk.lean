/-! the reference's terms, sums, comparisons -/
theorem term_L {t : Nat} {X : Tx} (ht : t < 8) : ∀ K F c δ q, RS t X c δ q → X.2 < q.1 + K → K < F → ∃ v d, lp_Mo_term_9 (fun δ9x => (some ((1 : Int32), δ9x))) F δ = some (v, d) ∧ RO t X c d v (pT' X K q) ∧ Fr1 t δ d := by
  intro K
  induction K with
  | zero => intro F c δ q h hK hF; have := h.at.1; omega
  | succ K ih =>
    intro F c δ q h hK hF
    obtain ⟨G, rfl⟩ : ∃ G, F = G + 1 := ⟨F - 1, by omega⟩
    obtain ⟨hq, h4, hsp, hcr⟩ := h.at
    obtain ⟨e1, h1⟩ := h.see
    have hX := h.1.2.1
    obtain ⟨D, hD⟩ : ∃ D, sI δ 151 9 (nI q.1) = D := ⟨_, rfl⟩
    have D9 : gI D 151 9 = nI q.1 := by rw [← hD]; exact gss
    have fD : Fr1 t δ D := by rw [← hD]; exact (Fr1.refl t δ).s (Or.inl rfl)
    rw [hD] at e1 h1
    have e2 : f_Mo_see D = some (bt X q.1, D) := by
      have := h1.see.1
      rw [sI_same D9] at this
      exact this
    have go : ∀ k b o, k = sk b → (b = 42 ∨ b = 47) → (kd X q.1 = k) → o + (16 : Int32) * 0 = nI (rsg (-1 - nI k)) → ∃ v d, jp_Mo_term_46 (lp_Mo_term_9 (fun δ9x => (some ((1 : Int32), δ9x))) G) (fun δ9x => (some ((1 : Int32), δ9x))) D o = some (v, d) ∧ RO t X c d v (rbd (pV X (nq X q)) (fun r => pT' X K (em r (-1 - nI k)))) ∧ Fr1 t δ d := fun k b o hk hb hkd ho => by
      obtain ⟨t1, t2, t3⟩ := te_sg (s := q.1) (b := b) hX (by omega) (by rw [hkd, hk])
      unfold jp_Mo_term_46
      rw [D9, nI_1, bndE]
      have h2 := h1.mv (k := 1) (p' := q.1 + 1) (s := nx X q.1) (by omega) (by rw [← t1]; rfl) (Nat.le_refl _)
      obtain ⟨v, d, e3, r3, f3⟩ := value_R ht (c + 1) _ _ h2
      have f03 := (fD.s (v := nI (q.1 + 1)) (Or.inl rfl)).trans f3
      rw [e3, Option.bind_some, bndE, bndE]
      show ∃ v' d', _ ∧ RO t X c d' v' (rbd (pV X (nx X q.1, q.2)) _) ∧ _
      cases hp : pV X (nx X q.1, q.2) with
      | inl w =>
        rw [hp] at r3
        obtain ⟨r4, r5⟩ := r3
        rw [r4, if_pos rfl]
        exact ⟨0, d, rfl, ⟨rfl, r5⟩, f03⟩
      | inr r =>
        rw [hp] at r3
        obtain ⟨r4, r5⟩ := r3
        rw [r4, if_neg (show ¬ (1 : Int32) = 0 by decide)]
        obtain ⟨d2, p1, p2, p3, -⟩ := puts_R (o := -1 - nI k) ht r5 ho
        rw [p1, Option.bind_some]
        have a : nx X q.1 < r.1 := pV_pos X _ _ hp
        have b := nx_gt X q.1
        obtain ⟨v, d, e4, r6, f4⟩ := ih G c d2 (em r (-1 - nI k)) p2 (by show X.2 < r.1 + K; omega) (by omega)
        exact ⟨v, d, e4, r6, (f03.trans p3).trans f4⟩
    have b1 := bt_sg (s := q.1) (b := 42) hX (by decide)
    have b2 := bt_sg (s := q.1) (b := 47) hX (by decide)
    have g1 : kd X q.1 = 24 → bt X q.1 = 42 := fun z => b1.mpr z
    have g2 : kd X q.1 = 25 → bt X q.1 = 47 := fun z => b2.mpr z
    have g3 : bt X q.1 = 42 → kd X q.1 = 24 := fun z => b1.mp z
    have g4 : bt X q.1 = 47 → kd X q.1 = 25 := fun z => b2.mp z
    rw [lp_Mo_term_9, e1, Option.bind_some, bndE, bndE]
    show ∃ v d, (if bt X q.1 = 42 then _ else _) = some (v, d) ∧ RO t X c d v (if kd X q.1 = 24 ∨ kd X q.1 = 25 then _ else _) ∧ _
    by_cases z1 : kd X q.1 = 24
    · obtain ⟨t1, t2, t3⟩ := te_sg (s := q.1) (b := 42) hX (by decide) z1
      rw [if_pos (g1 z1), if_pos (Or.inl z1)]
      unfold jp_Mo_term_27
      rw [D9, if_pos (inb_i (show q.1 < 400 by omega) (by decide)), ixN (by omega), h1.1.2.2.2 _ t3, t2, if_pos (by decide)]
      have := go _ 42 4 rfl (by decide) z1 (by decide +kernel)
      rw [z1]
      exact this
    · rw [if_neg (fun w => z1 (g3 w)), e2, Option.bind_some, bndE, bndE]
      show ∃ v d, (if bt X q.1 = 47 then _ else _) = some (v, d) ∧ _
      by_cases z2 : kd X q.1 = 25
      · obtain ⟨t1, t2, t3⟩ := te_sg (s := q.1) (b := 47) hX (by decide) z2
        rw [if_pos (g2 z2), if_pos (Or.inr z2)]
        unfold jp_Mo_term_27
        rw [D9, if_pos (inb_i (show q.1 < 400 by omega) (by decide)), ixN (by omega), h1.1.2.2.2 _ t3, t2, if_neg (by decide)]
        have := go _ 47 5 rfl (by decide) z2 (by decide +kernel)
        rw [z2]
        exact this
      · rw [if_neg (fun w => z2 (g4 w)), if_neg (by omega)]
        exact ⟨1, D, rfl, ⟨rfl, h1⟩, fD⟩
theorem term_R {t : Nat} {X : Tx} (ht : t < 8) : OR t X f_Mo_term (pT X) := fun c δ q h => by
  have h4 := h.at.2.1
  obtain ⟨v, d, e1, r1, f1⟩ := value_R ht c δ q h
  unfold f_Mo_term
  rw [e1, Option.bind_some, bndE, bndE]
  show ∃ v' d', _ ∧ RO t X c d' v' (rbd (pV X q) (pT' X 401)) ∧ _
  cases hp : pV X q with
  | inl w =>
    rw [hp] at r1
    obtain ⟨r4, r5⟩ := r1
    rw [r4, if_pos rfl]
    exact ⟨0, d, rfl, ⟨rfl, r5⟩, f1⟩
  | inr r =>
    rw [hp] at r1
    obtain ⟨r4, r5⟩ := r1
    rw [r4, if_neg (show ¬ (1 : Int32) = 0 by decide)]
    obtain ⟨v, d2, e2, r2, f2⟩ := term_L ht 401 FU c d r r5 (by omega) (FU_gt (by decide))
    exact ⟨v, d2, e2, r2, f1.trans f2⟩
theorem sum_L {t : Nat} {X : Tx} (ht : t < 8) : ∀ K F c δ q, RS t X c δ q → X.2 < q.1 + K → K < F → ∃ v d, lp_Mo_sum_9 (fun δ9x => (some ((1 : Int32), δ9x))) F δ = some (v, d) ∧ RO t X c d v (pS' X K q) ∧ Fr1 t δ d := by
  intro K
  induction K with
  | zero => intro F c δ q h hK hF; have := h.at.1; omega
  | succ K ih =>
    intro F c δ q h hK hF
    obtain ⟨G, rfl⟩ : ∃ G, F = G + 1 := ⟨F - 1, by omega⟩
    obtain ⟨hq, h4, hsp, hcr⟩ := h.at
    obtain ⟨e1, h1⟩ := h.see
    have hX := h.1.2.1
    obtain ⟨D, hD⟩ : ∃ D, sI δ 151 9 (nI q.1) = D := ⟨_, rfl⟩
    have D9 : gI D 151 9 = nI q.1 := by rw [← hD]; exact gss
    have fD : Fr1 t δ D := by rw [← hD]; exact (Fr1.refl t δ).s (Or.inl rfl)
    rw [hD] at e1 h1
    have e2 : f_Mo_see D = some (bt X q.1, D) := by
      have := h1.see.1
      rw [sI_same D9] at this
      exact this
    have go : ∀ k b o, k = sk b → (b = 43 ∨ b = 45) → (kd X q.1 = k) → o + (16 : Int32) * 0 = nI (rsg (-1 - nI k)) → ∃ v d, jp_Mo_sum_46 (lp_Mo_sum_9 (fun δ9x => (some ((1 : Int32), δ9x))) G) (fun δ9x => (some ((1 : Int32), δ9x))) D o = some (v, d) ∧ RO t X c d v (rbd (pT X (nq X q)) (fun r => pS' X K (em r (-1 - nI k)))) ∧ Fr1 t δ d := fun k b o hk hb hkd ho => by
      obtain ⟨t1, t2, t3⟩ := te_sg (s := q.1) (b := b) hX (by omega) (by rw [hkd, hk])
      unfold jp_Mo_sum_46
      rw [D9, nI_1, bndE]
      have h2 := h1.mv (k := 1) (p' := q.1 + 1) (s := nx X q.1) (by omega) (by rw [← t1]; rfl) (Nat.le_refl _)
      obtain ⟨v, d, e3, r3, f3⟩ := term_R ht (c + 1) _ _ h2
      have f03 := (fD.s (v := nI (q.1 + 1)) (Or.inl rfl)).trans f3
      rw [e3, Option.bind_some, bndE, bndE]
      show ∃ v' d', _ ∧ RO t X c d' v' (rbd (pT X (nx X q.1, q.2)) _) ∧ _
      cases hp : pT X (nx X q.1, q.2) with
      | inl w =>
        rw [hp] at r3
        obtain ⟨r4, r5⟩ := r3
        rw [r4, if_pos rfl]
        exact ⟨0, d, rfl, ⟨rfl, r5⟩, f03⟩
      | inr r =>
        rw [hp] at r3
        obtain ⟨r4, r5⟩ := r3
        rw [r4, if_neg (show ¬ (1 : Int32) = 0 by decide)]
        obtain ⟨d2, p1, p2, p3, -⟩ := puts_R (o := -1 - nI k) ht r5 ho
        rw [p1, Option.bind_some]
        have a : nx X q.1 < r.1 := pT_pos X _ _ hp
        have b := nx_gt X q.1
        obtain ⟨v, d, e4, r6, f4⟩ := ih G c d2 (em r (-1 - nI k)) p2 (by show X.2 < r.1 + K; omega) (by omega)
        exact ⟨v, d, e4, r6, (f03.trans p3).trans f4⟩
    have b1 := bt_sg (s := q.1) (b := 43) hX (by decide)
    have b2 := bt_sg (s := q.1) (b := 45) hX (by decide)
    have g1 : kd X q.1 = 22 → bt X q.1 = 43 := fun z => b1.mpr z
    have g2 : kd X q.1 = 23 → bt X q.1 = 45 := fun z => b2.mpr z
    have g3 : bt X q.1 = 43 → kd X q.1 = 22 := fun z => b1.mp z
    have g4 : bt X q.1 = 45 → kd X q.1 = 23 := fun z => b2.mp z
    rw [lp_Mo_sum_9, e1, Option.bind_some, bndE, bndE]
    show ∃ v d, (if bt X q.1 = 43 then _ else _) = some (v, d) ∧ RO t X c d v (if kd X q.1 = 22 ∨ kd X q.1 = 23 then _ else _) ∧ _
    by_cases z1 : kd X q.1 = 22
    · obtain ⟨t1, t2, t3⟩ := te_sg (s := q.1) (b := 43) hX (by decide) z1
      rw [if_pos (g1 z1), if_pos (Or.inl z1)]
      unfold jp_Mo_sum_27
      rw [D9, if_pos (inb_i (show q.1 < 400 by omega) (by decide)), ixN (by omega), h1.1.2.2.2 _ t3, t2, if_pos (by decide)]
      have := go _ 43 2 rfl (by decide) z1 (by decide +kernel)
      rw [z1]
      exact this
    · rw [if_neg (fun w => z1 (g3 w)), e2, Option.bind_some, bndE, bndE]
      show ∃ v d, (if bt X q.1 = 45 then _ else _) = some (v, d) ∧ _
      by_cases z2 : kd X q.1 = 23
      · obtain ⟨t1, t2, t3⟩ := te_sg (s := q.1) (b := 45) hX (by decide) z2
        rw [if_pos (g2 z2), if_pos (Or.inr z2)]
        unfold jp_Mo_sum_27
        rw [D9, if_pos (inb_i (show q.1 < 400 by omega) (by decide)), ixN (by omega), h1.1.2.2.2 _ t3, t2, if_neg (by decide)]
        have := go _ 45 3 rfl (by decide) z2 (by decide +kernel)
        rw [z2]
        exact this
      · rw [if_neg (fun w => z2 (g4 w)), if_neg (by omega)]
        exact ⟨1, D, rfl, ⟨rfl, h1⟩, fD⟩
theorem sum_R {t : Nat} {X : Tx} (ht : t < 8) : OR t X f_Mo_sum (pS X) := fun c δ q h => by
  have h4 := h.at.2.1
  obtain ⟨v, d, e1, r1, f1⟩ := term_R ht c δ q h
  unfold f_Mo_sum
  rw [e1, Option.bind_some, bndE, bndE]
  show ∃ v' d', _ ∧ RO t X c d' v' (rbd (pT X q) (pS' X 401)) ∧ _
  cases hp : pT X q with
  | inl w =>
    rw [hp] at r1
    obtain ⟨r4, r5⟩ := r1
    rw [r4, if_pos rfl]
    exact ⟨0, d, rfl, ⟨rfl, r5⟩, f1⟩
  | inr r =>
    rw [hp] at r1
    obtain ⟨r4, r5⟩ := r1
    rw [r4, if_neg (show ¬ (1 : Int32) = 0 by decide)]
    obtain ⟨v, d2, e2, r2, f2⟩ := sum_L ht 401 FU c d r r5 (by omega) (FU_gt (by decide))
    exact ⟨v, d2, e2, r2, f1.trans f2⟩
theorem cmp_at {X : Tx} {s : Nat} (z : s < X.2) (hb : X.1 s = 60 ∨ X.1 s = 61 ∨ X.1 s = 62) : kd X s = (if X.1 s = 60 then (if twP X s = true then 27 else 26) else if X.1 s = 61 then 28 else if twP X s = true then 29 else 30) ∧ te X s = (if twP X s = true then s + 2 else s + 1) ∧ (twP X s = true ↔ (X.1 s ≠ 61 ∧ s + 1 < X.2 ∧ X.1 (s + 1) = 61)) := by
  have n1 : ¬ bD X s = true := fun w => by have := of_decide_eq_true w; omega
  have n2 : ¬ bL X s = true := fun w => by have := of_decide_eq_true w; omega
  have tw : twP X s = true ↔ (X.1 s ≠ 61 ∧ s + 1 < X.2 ∧ X.1 (s + 1) = 61) := by
    unfold twP
    rw [decide_eq_true_iff]
    omega
  refine ⟨?_, ?_, tw⟩
  · unfold kd
    rw [if_neg (Nat.not_le.mpr z), if_neg n1, if_neg n2]
    by_cases n3 : twP X s = true
    · have := tw.mp n3
      rw [if_pos n3, if_pos n3, if_pos n3, if_neg this.1]
    · rw [if_neg n3, if_neg n3, if_neg n3]
      rcases hb with h | h | h <;> rw [h] <;> rfl
  · unfold te
    rw [if_neg n1, if_neg n2]
theorem cmp_no {X : Tx} {s : Nat} (hX : ∀ j, X.1 j < 256) (hb : ¬ (s < X.2 ∧ (X.1 s = 60 ∨ X.1 s = 61 ∨ X.1 s = 62))) : kd X s < 26 ∨ 30 < kd X s := by
  unfold kd
  by_cases z : s < X.2
  · rw [if_neg (Nat.not_le.mpr z)]
    by_cases n1 : bD X s = true
    · rw [if_pos n1]; decide
    rw [if_neg n1]
    by_cases n2 : bL X s = true
    · rw [if_pos n2]
      have := wk_ne (wb X s (enL X s))
      have := this.2.2
      omega
    rw [if_neg n2]
    by_cases n3 : twP X s = true
    · have := (of_decide_eq_true n3).1
      omega
    rw [if_neg n3]
    have d : ∀ b, b < 256 → b ≠ 60 → b ≠ 61 → b ≠ 62 → sk b < 26 ∨ 30 < sk b := by decide +kernel
    exact d _ (hX s) (by omega) (by omega) (by omega)
  · rw [if_pos (by omega)]; decide
theorem compare_R {t : Nat} {X : Tx} (ht : t < 8) : OR t X f_Mo_compare (pC X) := fun c δ q h => by
  have hX := h.1.2.1
  obtain ⟨v, d, e1, r1, f1⟩ := sum_R ht c δ q h
  unfold f_Mo_compare
  rw [e1, Option.bind_some, bndE, bndE]
  show ∃ v' d', _ ∧ RO t X c d' v' (rbd (pS X q) _) ∧ _
  cases hp : pS X q with
  | inl w =>
    rw [hp] at r1
    obtain ⟨r4, r5⟩ := r1
    rw [r4, if_pos rfl]
    exact ⟨0, d, rfl, ⟨rfl, r5⟩, f1⟩
  | inr r =>
    rw [hp] at r1
    obtain ⟨r4, r5⟩ := r1
    rw [r4, if_neg (show ¬ (1 : Int32) = 0 by decide)]
    obtain ⟨hq, h4, hsp, hcr⟩ := r5.at
    obtain ⟨e2, h2⟩ := r5.see
    obtain ⟨D, hD⟩ : ∃ D, sI d 151 9 (nI r.1) = D := ⟨_, rfl⟩
    have D9 : gI D 151 9 = nI r.1 := by rw [← hD]; exact gss
    have fD : Fr1 t δ D := by rw [← hD]; exact f1.s (Or.inl rfl)
    rw [hD] at e2 h2
    rw [e2, Option.bind_some, bndE, bndE, bndE, D9]
    show ∃ v' d', (if bt X r.1 = 60 then _ else if bt X r.1 = 61 then _ else if bt X r.1 = 62 then _ else _) = some (v', d') ∧ RO t X c d' v' (if kd X r.1 < 26 ∨ 30 < kd X r.1 then _ else if 60 ≤ r.2.1 then _ else _) ∧ _
    by_cases hb : r.1 < X.2 ∧ (X.1 r.1 = 60 ∨ X.1 r.1 = 61 ∨ X.1 r.1 = 62)
    · obtain ⟨z, hb⟩ := hb
      obtain ⟨k1, k2, k3⟩ := cmp_at z hb
      have hbt : bt X r.1 = nI (X.1 r.1) := if_pos z
      have hk : kd X r.1 = 26 ∨ kd X r.1 = 27 ∨ kd X r.1 = 28 ∨ kd X r.1 = 29 ∨ kd X r.1 = 30 := by
        rw [k1]
        by_cases tw : twP X r.1 = true
        · rw [if_pos tw, if_pos tw]; repeat' split
          all_goals decide
        · rw [if_neg tw, if_neg tw]; repeat' split
          all_goals decide
      have hte : r.1 < te X r.1 := te_gt X _
      have htl : te X r.1 ≤ X.2 := te_le z
      have h3 := h2.mv (k := 1) (p' := te X r.1) (s := nx X r.1) htl rfl hte
      obtain ⟨D2, hD2⟩ : ∃ D2, sI D 151 9 (nI (te X r.1)) = D2 := ⟨_, rfl⟩
      rw [hD2] at h3
      have fD2 : Fr1 t δ D2 := by rw [← hD2]; exact fD.s (Or.inl rfl)
      have j44 : jp_Mo_compare_44 (nI (X.1 r.1)) (nI r.1) D = jp_Mo_compare_105 (nI (X.1 r.1)) (nI r.1) (if twP X r.1 = true then 1 else 0) D2 := by
        unfold jp_Mo_compare_44 jp_Mo_compare_89
        rw [D9, nI_1, bndE]
        have n0 : ∀ (E : Dm), E = D2 → twP X r.1 ≠ true → jp_Mo_compare_90 (nI (X.1 r.1)) (nI r.1) E 0 = jp_Mo_compare_105 (nI (X.1 r.1)) (nI r.1) (if twP X r.1 = true then 1 else 0) D2 := fun E hE tw => by
          unfold jp_Mo_compare_90
          rw [if_pos rfl, if_neg tw, hE]
        by_cases tw : twP X r.1 = true
        · obtain ⟨t1, t2, t3⟩ := k3.mp tw
          rw [if_neg (show ¬ nI (X.1 r.1) = 61 from fun w => t1 ((nI_eq (b := 61) (by have := hX r.1; omega) (by decide)).mp w)), gsc (by decide), h2.1.2.2.1, gss, if_neg (nI_ge t2 (by omega)), if_pos (inb_i (show r.1 + 1 < 400 by omega) (by decide)), ixN (by omega), gsr (by decide), h2.1.2.2.2 _ t2, t3, if_pos (by decide)]
          unfold jp_Mo_compare_90
          rw [if_neg (by decide), bndE, gss, nI_1, sI_sI, if_pos tw, ← hD2, k2, if_pos tw]
        · have hE : sI D 151 9 (nI (r.1 + 1)) = D2 := by rw [← hD2, k2, if_neg tw]
          by_cases y1 : X.1 r.1 = 61
          · rw [if_pos (show nI (X.1 r.1) = 61 by rw [y1]; rfl)]; exact n0 _ hE tw
          · rw [if_neg (show ¬ nI (X.1 r.1) = 61 from fun w => y1 ((nI_eq (b := 61) (by have := hX r.1; omega) (by decide)).mp w)), gsc (by decide), h2.1.2.2.1, gss]
            by_cases y2 : r.1 + 1 < X.2
            · rw [if_neg (nI_ge y2 (by omega)), if_pos (inb_i (show r.1 + 1 < 400 by omega) (by decide)), ixN (by omega), gsr (by decide), h2.1.2.2.2 _ y2, if_neg (show ¬ sb (X.1 (r.1 + 1)) = 61 from fun w => tw (k3.mpr ⟨y1, y2, (sb_eq (k := 61) (hX _) (by decide)).mp w⟩))]
              exact n0 _ hE tw
            · rw [if_pos (nI_le (by omega) (by omega))]; exact n0 _ hE tw
      have hor : ∀ {α : Type} (A B : α), (if bt X r.1 = 60 then A else if bt X r.1 = 61 then A else if bt X r.1 = 62 then A else B) = A := fun A B => by
        rw [hbt]
        rcases hb with e | e | e <;> rw [e]
        · exact if_pos (by decide)
        · exact (if_neg (by decide)).trans (if_pos (by decide))
        · exact (if_neg (by decide)).trans ((if_neg (by decide)).trans (if_pos (by decide)))
      rw [hor, hbt, j44, if_neg (show ¬ (kd X r.1 < 26 ∨ 30 < kd X r.1) by omega)]
      unfold jp_Mo_compare_105
      obtain ⟨m1, m2⟩ := makes_R (a := r.1) h3
      by_cases x : 60 ≤ r.2.1
      · rw [if_pos x, m1 x, Option.bind_some, bndE, bndE, if_pos rfl]
        exact ⟨_, _, rfl, ⟨rfl, gss⟩, fD2.s (by decide)⟩
      · obtain ⟨m3, m4⟩ := m2 (show r.2.1 < 60 by omega)
        obtain ⟨D3, hD3⟩ : ∃ D3, sI D2 151 13 (nI ((nx X r.1, r.2).2.1 + 1)) = D3 := ⟨_, rfl⟩
        rw [hD3] at m3 m4
        have fD3 : Fr1 t δ D3 := by rw [← hD3]; exact fD2.s (by decide)
        rw [if_neg x, m3, Option.bind_some, bndE, bndE, if_neg (show ¬ (1 : Int32) = 0 by decide)]
        have sel : (if nI (X.1 r.1) = (60 : Int32) then (if (if twP X r.1 = true then (1 : Int32) else 0) = 0 then (jp_Mo_compare_152 (nI (X.1 r.1)) (nI r.1) (if twP X r.1 = true then 1 else 0) D3 (0 : Int32)) else (jp_Mo_compare_152 (nI (X.1 r.1)) (nI r.1) (if twP X r.1 = true then 1 else 0) D3 (1 : Int32))) else (if nI (X.1 r.1) = (61 : Int32) then (jp_Mo_compare_152 (nI (X.1 r.1)) (nI r.1) (if twP X r.1 = true then 1 else 0) D3 (2 : Int32)) else (if (if twP X r.1 = true then (1 : Int32) else 0) = 0 then (jp_Mo_compare_152 (nI (X.1 r.1)) (nI r.1) (if twP X r.1 = true then 1 else 0) D3 (4 : Int32)) else (jp_Mo_compare_152 (nI (X.1 r.1)) (nI r.1) (if twP X r.1 = true then 1 else 0) D3 (3 : Int32))))) = jp_Mo_compare_152 (nI (X.1 r.1)) (nI r.1) (if twP X r.1 = true then 1 else 0) D3 (nI (kd X r.1 - 26)) := by
          rw [k1]
          by_cases tw : twP X r.1 = true
          · rw [if_pos tw]
            rcases hb with e | e | e
            · rw [e, if_pos (by decide), if_neg (by decide), if_pos rfl, if_pos tw]; rfl
            · exact absurd e (k3.mp tw).1
            · rw [e, if_neg (by decide), if_neg (by decide), if_neg (by decide), if_neg (by decide), if_neg (by decide), if_pos tw]; rfl
          · rw [if_neg tw]
            rcases hb with e | e | e
            · rw [e, if_pos (by decide), if_pos rfl, if_pos rfl, if_neg tw]; rfl
            · rw [e, if_neg (by decide), if_pos (by decide), if_neg (by decide), if_pos rfl]; rfl
            · rw [e, if_neg (by decide), if_neg (by decide), if_pos rfl, if_neg (by decide), if_neg (by decide), if_neg tw]; rfl
        refine Exists.imp (fun v' => Exists.imp (fun d' => And.imp_left (fun w => sel.trans w))) ?_
        unfold jp_Mo_compare_152
        obtain ⟨v2, d2, e3, r3, f3⟩ := sum_R ht (c + 1) D3 _ m4
        rw [e3, Option.bind_some, bndE, bndE]
        show ∃ v' d', _ ∧ RO t X c d' v' (rbd (pS X (nx X r.1, r.2.1 + 1, r.2.2)) _) ∧ _
        have r3 : RO t X (c + 1) d2 v2 (pS X (nx X r.1, r.2.1 + 1, r.2.2)) := r3
        cases hp2 : pS X (nx X r.1, r.2.1 + 1, r.2.2) with
        | inl w =>
          rw [hp2] at r3
          obtain ⟨r6, r7⟩ := r3
          rw [r6, if_pos rfl]
          exact ⟨0, d2, rfl, ⟨rfl, r7⟩, fD3.trans f3⟩
        | inr r' =>
          rw [hp2] at r3
          obtain ⟨r6, r7⟩ := r3
          rw [r6, if_neg (show ¬ (1 : Int32) = 0 by decide)]
          obtain ⟨d4, p1, p2, p3, -⟩ := puts_R (a1 := 6 + nI (kd X r.1 - 26)) (a2 := 0) (o := -1 - nI (kd X r.1)) ht r7 (by
            rcases hk with e | e | e | e | e <;> rw [e] <;> decide +kernel)
          rw [p1]
          exact ⟨1, d4, rfl, ⟨rfl, p2⟩, (fD3.trans f3).trans p3⟩
    · have hk := cmp_no hX hb
      have nb : ∀ b, b = 60 ∨ b = 61 ∨ b = 62 → ¬ bt X r.1 = nI b := fun b h w => by
        unfold bt at w
        by_cases z : r.1 < X.2
        · rw [if_pos z] at w
          have := (nI_eq (by have := hX r.1; omega) (by omega)).mp w
          exact hb ⟨z, by omega⟩
        · rw [if_neg z] at w
          exact absurd w.symm (nI_nm1 (by omega))
      rw [if_neg (show ¬ bt X r.1 = 60 from nb 60 (by decide)), if_neg (show ¬ bt X r.1 = 61 from nb 61 (by decide)), if_neg (show ¬ bt X r.1 = 62 from nb 62 (by decide)), if_pos hk]
      exact ⟨_, _, rbool (x := f_Mo_fails 0 (nI r.1) D) (fails_R (n := 0) h2.2.2.1) (Or.inl rfl), ⟨rfl, gss⟩, fD.s (by decide)⟩
