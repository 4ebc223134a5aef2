/-! empty, change -/
theorem cntf_le (b : Nat) : ∀ E : List Ev, cntf b E ≤ (E.filter isS).length := by
  intro E
  induction E with
  | nil => exact Nat.le_refl _
  | cons x E ih =>
    unfold cntf at ih ⊢
    by_cases h : x 0 = 0
    · by_cases h1 : x 1 = b <;> simp [List.filter_cons, isS, h, h1] at ih ⊢ <;> omega
    · simp [List.filter_cons, isS, h] at ih ⊢; exact ih
theorem ok_nums {S : St} {b : Nat} (ok : Ok S) (hb : b < S.1.1 2) : bc S.1.1 b 0 < S.1.1 1 ∧ 1 ≤ bc S.1.1 b 1 ∧ bc S.1.1 b 1 ≤ 999 ∧ bc S.1.1 b 2 < (sJ S).length ∧ (∀ k, k < 3 → bc S.1.1 b (3 + k) ≤ 1000) ∧ bc S.1.1 b 6 ≤ 9999 ∧ bc S.1.1 b 7 ≤ 399600 ∧ bc S.1.1 b 8 ≤ 400 ∧ bc S.1.1 b 9 ≤ 100000 ∧ bc S.1.1 b 10 ≤ S.1.1 0 ∧ bc S.1.1 b 11 ≤ 9999 ∧ b < 8 ∧ S.1.1 1 ≤ 12 ∧ S.1.1 0 < 400 := by
  obtain ⟨s1, s2, s3, s4, s5, s6, s7, _⟩ := ok.1.1
  have s1 : S.1.1 0 < 400 := s1
  have s2 : S.1.1 1 ≤ 12 := s2
  have s3 : S.1.1 2 ≤ 8 := s3
  have s5 : S.1.1 3 ≤ 400 := s5
  have s7 : S.1.1 4 ≤ 100 := s7
  have s4 : S.1.1 3 = ((tE S.1).filter isS).length := s4
  obtain ⟨b0, b1, b2, b3, b4, b5, b6, b7, b8, b9, b10, b11, b12⟩ := ok.1.2.2.1 b hb
  have q := cntf_le b (tE S.1)
  have b8 : bc S.1.1 b 7 ≤ 999 * bc S.1.1 b 8 := b8
  have b9 : bc S.1.1 b 8 = cntf b (tE S.1) := b9
  have b10 : bc S.1.1 b 9 ≤ 1000 * S.1.1 4 := b10
  exact ⟨b0, b2, b3, b4, b5, b6, by omega, by omega, by omega, b11, b12, by omega, s2, s1⟩
theorem ev_len1 {S : St} (ok : Ok S) : (tE S.1).length ≤ 2 * S.1.1 3 + S.1.1 4 := by
  have := ev_len ok.1; have : (tE S.1).length + _ ≤ 2 * S.1.1 3 + S.1.1 4 := this; omega
theorem ev_len2 {S : St} {b : Nat} (ok : Ok S) (hb : b < S.1.1 2) (h : 0 < bc S.1.1 b 7) : (tE S.1).length + 1 ≤ 2 * S.1.1 3 + S.1.1 4 := by
  have q := ev_len ok.1
  have q : (tE S.1).length + pct (fun b => 0 < boxf (bc S.1.1 b 1) b (tE S.1)) 8 ≤ 2 * S.1.1 3 + S.1.1 4 := q
  have h7 : bc S.1.1 b 7 = boxf (bc S.1.1 b 1) b (tE S.1) := (ok.1.2.2.1 b hb).2.2.2.2.2.2.2.1
  have := pct_pos (P := fun b => 0 < boxf (bc S.1.1 b 1) b (tE S.1)) (b := b) (by show 0 < boxf _ _ _; rw [← h7]; exact h) 8 (ok_nums ok hb).2.2.2.2.2.2.2.2.2.2.2.1
  omega
theorem op_empty (a1 : Int32) : OpG (f_Fp_empty a1) (f_Mo_empty a1) := mk_op fun n S ok => by
  have k8 : S.1.1 2 ≤ 8 := ok.1.1.2.2.1
  have k3 : S.1.1 3 ≤ 400 := ok.1.1.2.2.2.2.1
  have k4 : S.1.1 4 ≤ 100 := ok.1.1.2.2.2.2.2.2.1
  have b1 : ∀ δ, RepC δ n S → f_To_boothAt a1 δ = some (if inb a1 (S.1.1 2) then some (54 + 4 * ix a1) else none) := fun δ h => boothAt_eq k8 (cG h.1).2.2.1
  have b2 : ∀ δ, RepM δ S → f_Mo_isBooth a1 δ = some (bI (inb a1 (S.1.1 2))) := fun δ h => isBooth_eq (by omega) (mS h.1).2.2.1
  by_cases h1 : inb a1 (S.1.1 2)
  · obtain ⟨b, hb, rfl⟩ := inb_ex (by omega) h1
    have hb8 : b < 8 := by omega
    have d7 := dom_b (b := b) (w := 7) hb8 (by decide)
    have d7a : 54 + 4 * b = 29 + cr (566 + (20 * b + 7)) := by rw [d7.2.1, if_neg (by decide)]; omega
    have d7b : 5 = cs (566 + (20 * b + 7)) := by rw [d7.2.2]; rfl
    obtain ⟨n0, n1, n2, n3, n4, n5, n6, n7, n8, n9, n10, -⟩ := ok_nums ok hb
    have em : ∀ δ, RepM δ S → f_Mo_empty (nI b) δ = some (nI (bc S.1.1 b 7), sI δ 152 (566 + (20 * b + 7)) (nI 0)) := fun δ h => by
      simp only [f_Mo_empty, b2 δ h, Option.bind, ifb, if_pos h1]
      rw [show (7 : Int32) = nI 7 from rfl, cell_eq hb8 (by decide), sets_eq hb8 (by decide), mBs 7 h hb8 (by decide)]
      rfl
    by_cases h2 : bc S.1.1 b 7 = 0
    · refine ⟨nI 0, S, fun δ h => ⟨sI δ (54 + 4 * b) 5 (nI 0), ?_, ?_, KMs (KM.refl _) (by omega)⟩, fun δ h => ⟨sI δ 152 (566 + (20 * b + 7)) (nI 0), by rw [em δ h, h2], ?_, KCs (KC.refl _) (by decide)⟩, ok⟩
      · simp only [f_Fp_empty, jp_Fp_empty_42, b1 δ h, ocs, Option.bind, if_pos h1, ixN (show b < 2147483648 by omega), if_pos (isB_at b hb8).1, bnd]
        rw [cBs 7 5 rfl h hb8 (by decide) (by decide), h2, if_pos (by decide)]
        rfl
      · have q := uC (54 + 4 * b) 5 _ 0 d7.1 d7a d7b ok.2.1 h
        rw [setG_id h2] at q; exact q
      · have q := SM_up (v := 0) (Or.inl d7.1) (okL_of ok) h
        rw [setG_id h2] at q; exact q
    · have hl := ev_len2 ok hb (by omega)
      obtain ⟨k, hk⟩ : ∃ k, (tE S.1).length = k := ⟨_, rfl⟩
      obtain ⟨d, hd⟩ : ∃ d, S.1.1 0 = d := ⟨_, rfl⟩
      refine ⟨nI (bc S.1.1 b 7), ((up S.1.1 (566 + (20 * b + 7)) 0, tE S.1 ++ [evE 2 b d 0 0 0 0 0], tR S.1, tC S.1), S.2), fun δ h => ⟨sI (sI (sI (sI (sI δ 42 k (nI b)) 43 k (nI d)) 44 k (-4)) 34 2 (nI (k + 1))) (54 + 4 * b) 5 (nI 0), ?_, SC_T h ok.2.1 (RC_ev h.1 (RG_up _ _ _ 0 d7.1 d7a d7b (RG_off (by omega) (RG_off (by omega) (RG_off (by omega) (RG_off (by omega) h.1.1))))) (fun o j q1 q2 q3 q4 q5 => ?_) ?_ ?_ ?_ ?_ (fun z => ?_)) (fun a j q => ?_), KMs (KMs (KMs (KMs (KMs (KM.refl _) (by omega)) (by omega)) (by omega)) (by omega)) (by omega)⟩, fun δ h => ⟨_, em δ h, ?_, KCs (KC.refl _) (by decide)⟩, Ok_T ok ?_⟩
      · have g0 : gI δ 34 2 = nI k := by rw [← hk]; exact h.1.2.2.1
        simp only [f_Fp_empty, jp_Fp_empty_42, f_Di_addEmptying, b1 δ h, ocs, Option.bind, if_pos h1, ixN (show b < 2147483648 by omega), if_pos (isB_at b hb8).1, bnd]
        rw [cBs 7 5 rfl h hb8 (by decide) (by decide), if_neg (nI_nle (by omega) (by omega)), addEv_eq g0 (by omega), show gI δ 29 0 = nI d by rw [← hd]; exact (cG h.1).1]
        rfl
      · have q5 : ¬ (13 ≤ o ∧ o < 16 ∧ j = k) := by rw [← hk]; exact q5
        simp only [gs]
        rw [if_neg (by omega), if_neg (by omega), if_neg (by omega), if_neg (by omega), if_neg (by omega)]
      · show gI _ 34 2 = nI ((tE S.1).length + 1)
        rw [hk, gsr (by omega), gss]
      · show gI _ 42 (tE S.1).length = nI b
        rw [hk]
        simp (disch := omega) only [gsr, gss]
      · show gI _ 43 (tE S.1).length = nI d
        rw [hk]
        simp (disch := omega) only [gsr, gss]
      · show gI _ 44 (tE S.1).length = -4
        rw [hk]
        simp (disch := omega) only [gsr, gss]
      · exact absurd (show (false : Bool) = true from z) (by decide)
      · simp only [gs]
        rw [if_neg (by omega), if_neg (by omega), if_neg (by omega), if_neg (by omega), if_neg (by omega)]
      · have q := SM_up (v := 0) (Or.inl d7.1) (okL_of ok) h
        have := SM_T q (RM_ex (x := evE 2 b d 0 0 0 0 0) q.1 rfl) (fun _ _ _ => rfl)
        exact this
      · have e1 : ∀ w, w < 20 → bc (up S.1.1 (566 + (20 * b + 7)) 0) b w = if b = b ∧ w = 7 then 0 else bc S.1.1 b w := fun w hw => bc_up (by decide) hw
        refine ok_ev (b := b) (h := ok.1) rfl hb hd.symm (Nat.le_refl _) (by show (0 : Nat) ≤ 99; omega) (by show (0 : Nat) ≤ 20; omega) (by show (0 : Nat) ≤ 5; omega) (fun z => by cases z) (fun j _ _ q => up_n (by omega)) (by rw [up_n (by omega)]; rfl) (by rw [up_n (by omega)]; rfl) (by rw [up_n (by omega)]; exact k3) (by rw [up_n (by omega)]; exact k4) (fun j hj => ?_) ?_ ?_ ?_ ?_ (fun z => by cases z) (fun _ => by show 0 < bc S.1.1 b 7; omega)
        · rw [e1 _ (by omega), if_neg (by omega)]; exact n4 j hj
        · rw [e1 _ (by omega), if_neg (by omega)]; exact n5
        · rw [e1 _ (by omega), if_pos ⟨rfl, rfl⟩]
          unfold boxs
          rw [if_pos (show evE 2 b d 0 0 0 0 0 1 = b from rfl)]; rfl
        · rw [e1 _ (by omega), if_neg (by omega)]; rfl
        · rw [e1 _ (by omega), if_neg (by omega), up_n (by omega)]
          exact (ok.1.2.2.1 b hb).2.2.2.2.2.2.2.2.2.2.1
  · refine nop (-1) ok (fun δ h => ?_) (fun δ h => ?_)
    · simp only [f_Fp_empty, b1 δ h, ocs, Option.bind, if_neg h1]
    · simp only [f_Mo_empty, b2 δ h, Option.bind, ifb, if_neg h1]
