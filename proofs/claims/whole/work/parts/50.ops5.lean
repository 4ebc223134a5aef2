/-! readings, claims -/
theorem j5 {α : Type} {A B : α} : (if inb (5 : Int32) 8918 then A else B) = A := if_pos (by decide)
theorem x5 : ix (5 : Int32) = 5 := rfl
theorem op_reading (a1 a2 a3 a4 : Int32) : OpG (f_Fp_reading a1 a2 a3 a4) (f_Mo_reading a1 a2 a3 a4) := mk_op fun n S ok => by
  have k8 : S.1.1 2 ≤ 8 := ok.1.1.2.2.1
  have k0 : S.1.1 0 < 400 := ok.1.1.1
  have k5 : S.1.1 5 ≤ 100 := ok.1.1.2.2.2.2.2.2.2.2.1
  have b1 : ∀ δ, RepC δ n S → f_To_boothAt a1 δ = some (if inb a1 (S.1.1 2) then some (54 + 4 * ix a1) else none) := fun δ h => boothAt_eq k8 (cG h.1).2.2.1
  have b2 : ∀ δ, RepM δ S → f_Mo_isBooth a1 δ = some (bI (inb a1 (S.1.1 2))) := fun δ h => isBooth_eq (by omega) (mS h.1).2.2.1
  have d1 : ∀ δ, RepC δ n S → f_Fp_within a2 0 (gI δ 29 0) δ = some (bI (inb a2 (S.1.1 0 + 1))) := fun δ h => by rw [(cG h.1).1]; exact within0 (by show S.1.1 0 < _; omega)
  have d2 : ∀ δ, RepM δ S → f_Mo_isPast a2 δ = some (bI (inb a2 (S.1.1 0 + 1))) := fun δ h => isPast_eq (by omega) (mS h.1).1
  have f1 : ∀ δ, RepC δ n S → gI δ 45 0 = nI (S.1.1 5) := fun δ h => (cG h.1).2.2.2.2.2.1
  have f2 : ∀ δ, RepM δ S → gI δ 152 5 = nI (S.1.1 5) := fun δ h => (mS h.1).2.2.2.2.2.1
  have fp : S.1.1 5 < 100 → nI (S.1.1 5) < (100 : Int32) := fun z => nI_lt z (by decide)
  have fn : ¬ S.1.1 5 < 100 → ¬ nI (S.1.1 5) < (100 : Int32) := fun z => nI_nlt (a := S.1.1 5) (b := 100) (by omega) (by omega)
  have gp : S.1.1 5 < 100 → ¬ nI (S.1.1 5) = (100 : Int32) := fun z q => by have := (nI_eq (b := 100) (by omega) (by decide)).mp q; omega
  have gn : ¬ S.1.1 5 < 100 → nI (S.1.1 5) = (100 : Int32) := fun z => by rw [show S.1.1 5 = 100 by omega]; rfl
  by_cases h_b : inb a1 (S.1.1 2)
  · by_cases h_d : inb a2 (S.1.1 0 + 1)
    · by_cases h_f : S.1.1 5 < 100
      · by_cases h_c : nI 0 ≤ a3 ∧ a3 ≤ nI 99999
        · by_cases h_e : nI 0 ≤ a4 ∧ a4 ≤ nI 99999999
          · obtain ⟨b, hb, rfl⟩ := inb_ex (by omega) h_b
            obtain ⟨d, hd, rfl⟩ := inb_ex (by omega) h_d
            obtain ⟨u, -, hu, rfl⟩ := low_i (by decide) h_c (by decide)
            obtain ⟨v, -, hv, rfl⟩ := low_i (by decide) h_e (by decide)
            sorry
          · refine nop (-1) ok (fun δ h => ?_) (fun δ h => ?_)
            · simp only [f_Fp_reading, ocs, Option.bind, ifb, b1 δ h, d1 δ h, f1 δ h, wl, wl, if_pos h_b, if_pos h_d, if_pos (fp h_f), if_pos h_c, if_neg h_e, if_pos (isB_ix h_b k8)]
            · simp only [f_Mo_reading, Option.bind, ifb, j5, x5, f2 δ h, b2 δ h, d2 δ h, il (show 0 < 2147483648 by decide) (show 99999 < 2147483648 by decide), il (show 0 < 2147483648 by decide) (show 99999999 < 2147483648 by decide), if_pos h_b, if_pos h_d, if_neg (gp h_f), if_pos h_c, if_neg h_e]
        · refine nop (-1) ok (fun δ h => ?_) (fun δ h => ?_)
          · simp only [f_Fp_reading, ocs, Option.bind, ifb, b1 δ h, d1 δ h, f1 δ h, wl, wl, if_pos h_b, if_pos h_d, if_pos (fp h_f), if_neg h_c, if_pos (isB_ix h_b k8)]
          · simp only [f_Mo_reading, Option.bind, ifb, j5, x5, f2 δ h, b2 δ h, d2 δ h, il (show 0 < 2147483648 by decide) (show 99999 < 2147483648 by decide), il (show 0 < 2147483648 by decide) (show 99999999 < 2147483648 by decide), if_pos h_b, if_pos h_d, if_neg (gp h_f), if_neg h_c]
      · refine nop (-1) ok (fun δ h => ?_) (fun δ h => ?_)
        · simp only [f_Fp_reading, ocs, Option.bind, ifb, b1 δ h, d1 δ h, f1 δ h, wl, wl, if_pos h_b, if_pos h_d, if_neg (fn h_f), if_pos (isB_ix h_b k8)]
        · simp only [f_Mo_reading, Option.bind, ifb, j5, x5, f2 δ h, b2 δ h, d2 δ h, il (show 0 < 2147483648 by decide) (show 99999 < 2147483648 by decide), il (show 0 < 2147483648 by decide) (show 99999999 < 2147483648 by decide), if_pos h_b, if_pos h_d, if_pos (gn h_f)]
    · by_cases h_f : S.1.1 5 < 100
      · refine nop (-1) ok (fun δ h => ?_) (fun δ h => ?_)
        · simp only [f_Fp_reading, ocs, Option.bind, ifb, b1 δ h, d1 δ h, f1 δ h, wl, wl, if_pos h_b, if_neg h_d, if_pos (fp h_f), if_pos (isB_ix h_b k8)]
        · simp only [f_Mo_reading, Option.bind, ifb, j5, x5, f2 δ h, b2 δ h, d2 δ h, il (show 0 < 2147483648 by decide) (show 99999 < 2147483648 by decide), il (show 0 < 2147483648 by decide) (show 99999999 < 2147483648 by decide), if_pos h_b, if_neg h_d, if_neg (gp h_f)]
      · refine nop (-1) ok (fun δ h => ?_) (fun δ h => ?_)
        · simp only [f_Fp_reading, ocs, Option.bind, ifb, b1 δ h, d1 δ h, f1 δ h, wl, wl, if_pos h_b, if_neg h_d, if_neg (fn h_f), if_pos (isB_ix h_b k8)]
        · simp only [f_Mo_reading, Option.bind, ifb, j5, x5, f2 δ h, b2 δ h, d2 δ h, il (show 0 < 2147483648 by decide) (show 99999 < 2147483648 by decide), il (show 0 < 2147483648 by decide) (show 99999999 < 2147483648 by decide), if_pos h_b, if_neg h_d, if_pos (gn h_f)]
  · by_cases h_f : S.1.1 5 < 100
    · refine nop (-1) ok (fun δ h => ?_) (fun δ h => ?_)
      · simp only [f_Fp_reading, ocs, Option.bind, ifb, b1 δ h, d1 δ h, f1 δ h, wl, wl, if_neg h_b, if_pos (fp h_f)]
      · simp only [f_Mo_reading, Option.bind, ifb, j5, x5, f2 δ h, b2 δ h, d2 δ h, il (show 0 < 2147483648 by decide) (show 99999 < 2147483648 by decide), il (show 0 < 2147483648 by decide) (show 99999999 < 2147483648 by decide), if_neg h_b, if_neg (gp h_f)]
    · refine nop (-1) ok (fun δ h => ?_) (fun δ h => ?_)
      · simp only [f_Fp_reading, ocs, Option.bind, ifb, b1 δ h, d1 δ h, f1 δ h, wl, wl, if_neg h_b, if_neg (fn h_f)]
      · simp only [f_Mo_reading, Option.bind, ifb, j5, x5, f2 δ h, b2 δ h, d2 δ h, il (show 0 < 2147483648 by decide) (show 99999 < 2147483648 by decide), il (show 0 < 2147483648 by decide) (show 99999999 < 2147483648 by decide), if_neg h_b, if_pos (gn h_f)]
