/-! booth, whole -/
theorem op_booth (a1 a2 a3 : Int32) : OpG (f_Fp_booth a1 a2 a3) (f_Mo_booth a1 a2 a3) := mk_op fun n S ok => by
  have k8 : S.1.1 2 ≤ 8 := ok.1.1.2.2.1
  have k12 : S.1.1 1 ≤ 12 := ok.1.1.2.1
  have kl : (sJ S).length ≤ 8 := ok.2.1
  have f1 : ∀ δ, RepC δ n S → gI δ 29 2 = nI (S.1.1 2) := fun δ h => (cG h.1).2.2.1
  have f2 : ∀ δ, RepM δ S → gI δ 152 2 = nI (S.1.1 2) := fun δ h => (mS h.1).2.2.1
  have p2 : ∀ δ, RepM δ S → f_Mo_isPlace a1 δ = some (bI (inb a1 (S.1.1 1))) := fun δ h => isPlace_eq (by omega) (mS h.1).2.1
  have l1 : ∀ δ, RepC δ n S → f_Fp_lawAt a3 δ = some (if inb a3 (sJ S).length then some (87 + 8 * ix a3) else none) := fun δ h => lawAt_eq kl h.2.1
  have l2 : ∀ δ, RepM δ S → f_Mo_isLaw a3 δ = some (bI (inb a3 (sJ S).length)) := fun δ h => isLaw_eq (by omega) h.2.1
  by_cases h8 : S.1.1 2 < 8
  · have sl : ∀ δ, RepC δ n S → f_To_slot 29 (gI δ 29 2) δ = some (some (54 + 4 * S.1.1 2)) := fun δ h => by rw [f1 δ h, slot_eq, if_pos (inb_i h8 (by decide)), ixN (by omega)]
    have ne8 : ¬ nI (S.1.1 2) = (8 : Int32) := fun z => by have := (nI_eq (b := 8) (by omega) (by decide)).mp z; omega
    by_cases hp : frP S.1.1 a1
    · by_cases h1 : inb a1 (S.1.1 1)
      · by_cases h2 : nI 1 ≤ a2 ∧ a2 ≤ nI 999
        · by_cases h3 : inb a3 (sJ S).length
          · obtain ⟨p, hp1, rfl⟩ := inb_ex (by omega) h1
            obtain ⟨pr, q1, q2, rfl⟩ := low_i (by decide) h2 (by decide)
            obtain ⟨l, hl, rfl⟩ := inb_ex (by omega) h3
            obtain ⟨b, hb⟩ : ∃ b, S.1.1 2 = b := ⟨_, rfl⟩
            obtain ⟨d, hd⟩ : ∃ d, S.1.1 0 = d := ⟨_, rfl⟩
            rw [hb] at h8 sl ne8
            refine ⟨nI b, ((boG S.1.1 b p pr l d, S.1.2), S.2), fun δ h => ⟨boC δ b p pr l d, ?_, SC_T h kl (RC_G h.1 (boC_G h8 h.1.1) (fun o j q => boC_o (by omega) h8)) (fun a j q => boC_o (by omega) h8), fun a j q => boC_o (by omega) h8⟩, fun δ h => ?_, Ok_T ok ?_⟩
            · simp only [f_Fp_booth, sl δ h, ocs, Option.bind, if_pos (isB_at b h8).1, (isFree_eq h ok).1 hp, wl, l1 δ h, ifb, if_pos h1, if_pos h2, if_pos h3, ixN (show l < 2147483648 by omega), if_pos (isL_at l (by omega)).1]
              have g0 : gI δ 29 0 = nI d := by rw [← hd]; exact (cG h.1).1
              rw [g0]
              exact boC_1 h8 (by rw [← hb]; exact f1 δ h)
            · obtain ⟨δ', e1, e2, e3⟩ := boM (p := p) (pr := pr) (l := l) h8 (RGM_of h.1) hd hb
              refine ⟨δ', ?_, SM_T h (RM_G h.1 e2 (okL_of ok).1 (okL_of ok).2.1 (okL_of ok).2.2 (fun j q => e3 152 j (Or.inr q))) (fun a j q => e3 a j (Or.inl q)), fun a j q => e3 a j (Or.inl (by omega))⟩
              simp only [f_Mo_booth, j2, x2, f2 δ h, p2 δ h, l2 δ h, (at_eq h ok).1 hp, il (show 1 < 2147483648 by decide) (show 999 < 2147483648 by decide), Option.bind, ifb, if_pos h1, if_pos h2, if_pos h3, hb, if_neg ne8, bnd]
              simp only [j2, x2, bnd, Option.bind] at e1
              rw [if_pos True.intro]
              exact e1
            · rw [← hd]
              exact ok_booth ok.1 hb h8 hp1 (fun c hc q => hp c (by omega) (by rw [q])) q1 q2 hl
          · refine nop (-1) ok (fun δ h => ?_) (fun δ h => ?_)
            · simp only [f_Fp_booth, sl δ h, ocs, Option.bind, if_pos (isB_at _ h8).1, (isFree_eq h ok).1 hp, wl, l1 δ h, ifb, if_pos h1, if_pos h2, if_neg h3]
            · simp only [f_Mo_booth, j2, x2, f2 δ h, p2 δ h, l2 δ h, (at_eq h ok).1 hp, il (show 1 < 2147483648 by decide) (show 999 < 2147483648 by decide), Option.bind, ifb, if_pos h1, if_pos h2, if_neg h3, if_neg ne8, ite_self]
        · refine nop (-1) ok (fun δ h => ?_) (fun δ h => ?_)
          · simp only [f_Fp_booth, sl δ h, ocs, Option.bind, if_pos (isB_at _ h8).1, (isFree_eq h ok).1 hp, wl, l1 δ h, ifb, if_pos h1, if_neg h2]
          · simp only [f_Mo_booth, j2, x2, f2 δ h, p2 δ h, l2 δ h, (at_eq h ok).1 hp, il (show 1 < 2147483648 by decide) (show 999 < 2147483648 by decide), Option.bind, ifb, if_pos h1, if_neg h2, if_neg ne8, ite_self]
      · refine nop (-1) ok (fun δ h => ?_) (fun δ h => ?_)
        · simp only [f_Fp_booth, sl δ h, ocs, Option.bind, if_pos (isB_at _ h8).1, (isFree_eq h ok).1 hp, ifb, if_neg h1]
        · simp only [f_Mo_booth, j2, x2, f2 δ h, p2 δ h, Option.bind, ifb, if_neg h1, ite_self]
    · refine nop (-1) ok (fun δ h => ?_) (fun δ h => ?_)
      · simp only [f_Fp_booth, sl δ h, ocs, Option.bind, if_pos (isB_at _ h8).1, (isFree_eq h ok).2 hp, if_true]
      · obtain ⟨c, hc, e⟩ := (at_eq h ok).2 hp
        simp only [f_Mo_booth, j2, x2, f2 δ h, p2 δ h, e, Option.bind, if_neg (nI_nm1 (show c < 2147483648 by omega)), ite_self]
  · refine nop (-1) ok (fun δ h => ?_) (fun δ h => ?_)
    · simp only [f_Fp_booth]
      rw [f1 δ h, slot_eq, if_neg (by rw [inbN (by omega)]; exact h8)]
      simp only [Option.bind, ocs]
    · simp only [f_Mo_booth, j2, x2, f2 δ h]
      rw [if_pos (show nI (S.1.1 2) = (8 : Int32) by rw [show S.1.1 2 = 8 by omega]; rfl)]
