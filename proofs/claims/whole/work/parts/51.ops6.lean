theorem j6 {α : Type} {A B : α} : (if inb (6 : Int32) 8918 then A else B) = A := if_pos (by decide)
theorem x6 : ix (6 : Int32) = 6 := rfl
def clE (b d u : Nat) : Ev := fun j => if j = 0 then b else if j = 1 then d else u
theorem addCl_eq {k : Nat} {δ : Dm} {a1 a2 a3 : Int32} (h : gI δ 45 1 = nI k) (hk : k < 100) : f_Po_addClaim a1 a2 a3 δ = some (sI (sI (sI (sI δ 51 k a1) 52 k a2) 53 k a3) 45 1 (nI (k + 1))) := by
  unfold f_Po_addClaim bnd
  rw [h, put_in (show (KD 51).2 = 100 by decide) hk]
  simp only [Option.bind, gsr (show (45 : Nat) ≠ 51 by decide)]
  rw [h, put_in (show (KD 52).2 = 100 by decide) hk]
  simp only [Option.bind, gsr (show (45 : Nat) ≠ 51 by decide), gsr (show (45 : Nat) ≠ 52 by decide)]
  rw [h, put_in (show (KD 53).2 = 100 by decide) hk]
  simp only [Option.bind, gsr (show (45 : Nat) ≠ 51 by decide), gsr (show (45 : Nat) ≠ 52 by decide), gsr (show (45 : Nat) ≠ 53 by decide)]
  rw [h, nI_1]
theorem ok_cl {nl : Nat} {T : Tw} {x : Ev} (h : okT nl T) (hk : T.1 6 < 100) (hx : x 0 ≤ 31 ∧ x 1 < T.1 2 ∧ x 2 ≤ T.1 0) : okT nl (up T.1 6 (T.1 6 + 1), tE T, tR T, tC T ++ [x]) := by
  obtain ⟨G, E, R, C⟩ := T
  obtain ⟨o1, o2, o3, o4, o5, o6⟩ := h
  have hk : G 6 < 100 := hk
  have en : ∀ k, k ≠ 6 → up G 6 (G 6 + 1) k = G k := fun k hk => up_n hk
  have eb : ∀ b w, bc (up G 6 (G 6 + 1)) b w = bc G b w := fun b w => en _ (by omega)
  have e5 : up G 6 (G 6 + 1) 6 = G 6 + 1 := up_s
  show okT nl (up G 6 (G 6 + 1), E, R, C ++ [x])
  refine ⟨?_, okG_c (en 1 (by decide)) (fun k hk => en k (by omega)) o2, ?_, ?_, ?_, ?_⟩
  · obtain ⟨s1, s2, s3, s4, s5, s6, s7, s8, s9, s10, s11⟩ := o1
    unfold okS
    simp only [en 0 (by decide), en 1 (by decide), en 2 (by decide), en 3 (by decide), en 4 (by decide), en 5 (by decide), e5]
    have s10 : G 6 = C.length := s10
    exact ⟨s1, s2, s3, s4, s5, s6, s7, s8, s9, by rw [List.length_append, s10]; rfl, by omega⟩
  · unfold okB at *
    simp only [eb, en 0 (by decide), en 1 (by decide), en 2 (by decide), en 4 (by decide)]
    exact o3
  · unfold okE at *
    simp only [eb, en 0 (by decide), en 2 (by decide)]
    exact o4
  · unfold okH at *
    simp only [eb, en 0 (by decide), en 2 (by decide)]
    exact ⟨o5.1, fun b d hb h1 h2 => by rw [en _ (by omega)]; exact o5.2 b d hb h1 h2⟩
  · unfold okP at *
    simp only [en 0 (by decide), en 2 (by decide)]
    refine ⟨o6.1, fun y hy => ?_⟩
    rcases List.mem_append.mp hy with q | q
    · exact o6.2 y q
    · rw [List.mem_singleton.mp q]; exact hx
theorem op_claim (a1 a2 a3 : Int32) : OpG (f_Fp_claim a1 a2 a3) (f_Mo_claim a1 a2 a3) := mk_op fun n S ok => by
  have k8 : S.1.1 2 ≤ 8 := ok.1.1.2.2.1
  have k0 : S.1.1 0 < 400 := ok.1.1.1
  have k5 : S.1.1 6 ≤ 100 := ok.1.1.2.2.2.2.2.2.2.2.2.2
  have b1 : ∀ δ, RepC δ n S → f_To_boothAt a2 δ = some (if inb a2 (S.1.1 2) then some (54 + 4 * ix a2) else none) := fun δ h => boothAt_eq k8 (cG h.1).2.2.1
  have b2 : ∀ δ, RepM δ S → f_Mo_isBooth a2 δ = some (bI (inb a2 (S.1.1 2))) := fun δ h => isBooth_eq (by omega) (mS h.1).2.2.1
  have d1 : ∀ δ, RepC δ n S → f_Fp_within a3 0 (gI δ 29 0) δ = some (bI (inb a3 (S.1.1 0 + 1))) := fun δ h => by rw [(cG h.1).1]; exact within0 (by show S.1.1 0 < _; omega)
  have d2 : ∀ δ, RepM δ S → f_Mo_isPast a3 δ = some (bI (inb a3 (S.1.1 0 + 1))) := fun δ h => isPast_eq (by omega) (mS h.1).1
  have f1 : ∀ δ, RepC δ n S → gI δ 45 1 = nI (S.1.1 6) := fun δ h => (cG h.1).2.2.2.2.2.2
  have f2 : ∀ δ, RepM δ S → gI δ 152 6 = nI (S.1.1 6) := fun δ h => (mS h.1).2.2.2.2.2.2
  have fp : S.1.1 6 < 100 → nI (S.1.1 6) < (100 : Int32) := fun z => nI_lt z (by decide)
  have fn : ¬ S.1.1 6 < 100 → ¬ nI (S.1.1 6) < (100 : Int32) := fun z => nI_nlt (a := S.1.1 6) (b := 100) (by omega) (by omega)
  have gp : S.1.1 6 < 100 → ¬ nI (S.1.1 6) = (100 : Int32) := fun z q => by have := (nI_eq (b := 100) (by omega) (by decide)).mp q; omega
  have gn : ¬ S.1.1 6 < 100 → nI (S.1.1 6) = (100 : Int32) := fun z => by rw [show S.1.1 6 = 100 by omega]; rfl
  by_cases h_b : inb a2 (S.1.1 2)
  · by_cases h_d : inb a3 (S.1.1 0 + 1)
    · by_cases h_f : S.1.1 6 < 100
      · by_cases h_c : nI 0 ≤ a1 ∧ a1 ≤ nI 31
        · obtain ⟨b, hb, rfl⟩ := inb_ex (by omega) h_b
          obtain ⟨d, hd, rfl⟩ := inb_ex (by omega) h_d
          obtain ⟨u, -, hu, rfl⟩ := low_i (by decide) h_c (by decide)
          have kr : S.1.1 6 = (tC (sT S)).length := ok.1.1.2.2.2.2.2.2.2.2.2.1
          refine ⟨nI (S.1.1 6), ((up S.1.1 6 (S.1.1 6 + 1), tE S.1, tR S.1, tC S.1 ++ [clE u b d]), S.2), fun δ h => ⟨_, ?_, SC_T h ok.2.1 (RC_cl (x := clE u b d) (k := S.1.1 6) h.1 kr (δ' := sI (sI (sI (sI δ 51 (S.1.1 6) (nI u)) 52 (S.1.1 6) (nI b)) 53 (S.1.1 6) (nI d)) 45 1 (nI (S.1.1 6 + 1))) (fun o j ho n1 n2 => ?_) gss (fun j hj => ?_)) (fun b' j hb' => ?_), KMs (KMs (KMs (KMs (KM.refl _) (by decide)) (by decide)) (by decide)) (by decide)⟩, fun δ h => ?_, ?_⟩
          · simp only [f_Fp_claim, b1 δ h, d1 δ h, f1 δ h, wl, ocs, Option.bind, ifb, if_pos h_b, if_pos h_d, if_pos (fp h_f), if_pos h_c, ixN (show b < 2147483648 by omega), if_pos (isB_at b (by omega)).1, addCl_eq (f1 δ h) h_f]
            rw [gss, show nI (S.1.1 6 + 1) - 1 = nI (S.1.1 6) from nI_pred _]
          · simp only [gs]
            rw [if_neg (by omega), if_neg (by omega), if_neg (by omega), if_neg (by omega)]
          · rcases (by omega : j = 0 ∨ j = 1 ∨ j = 2) with rfl | rfl | rfl <;> simp [gs, clE]
          · simp only [gs]
            rw [if_neg (by omega), if_neg (by omega), if_neg (by omega), if_neg (by omega)]
          · refine ⟨sI (sI (sI (sI δ 152 (8426 + 3 * S.1.1 6) (nI u)) 152 (8426 + 3 * S.1.1 6 + 1) (nI b)) 152 (8426 + 3 * S.1.1 6 + 2) (nI d)) 152 6 (nI (S.1.1 6 + 1)), ?_, SM_T h (RM_cl (x := clE u b d) (k := S.1.1 6) h.1 kr h_f (okL_of ok).1 (okL_of ok).2.1 (fun j n1 n2 => ?_) gss (fun j hj => ?_)) (fun b' j hb' => ?_), KCs (KCs (KCs (KCs (KC.refl _) (by decide)) (by decide)) (by decide)) (by decide)⟩
            · simp only [f_Mo_claim, j6, x6, f2 δ h, b2 δ h, d2 δ h, il (show 0 < 2147483648 by decide) (show 31 < 2147483648 by decide), Option.bind, ifb, if_pos h_b, if_pos h_d, if_neg (gp h_f), if_pos h_c, bnd]
              simp only [lit, pk_mul, nI_add]
              rw [if_pos (inb_i (by omega) (by decide)), if_pos (inb_i (by omega) (by decide)), if_pos (inb_i (by omega) (by decide)), ixN (by omega), ixN (by omega), ixN (by omega)]
              simp (disch := omega) only [gsc, gss, f2 δ h, nI_add]
              rw [show nI (S.1.1 6 + 1) - nI 1 = nI (S.1.1 6) from nI_pred _]
            · simp only [gs]
              rw [if_neg (by omega), if_neg (by omega), if_neg (by omega), if_neg (by omega)]
            · rcases (by omega : j = 0 ∨ j = 1 ∨ j = 2) with rfl | rfl | rfl
              all_goals simp (disch := omega) only [Nat.add_zero, gsc, gss]
              all_goals rfl
            · simp only [gs]
              rw [if_neg (by omega), if_neg (by omega), if_neg (by omega), if_neg (by omega)]
          · exact ⟨ok_cl ok.1 h_f ⟨hu, hb, by show d ≤ S.1.1 0; omega⟩, ok.2⟩
        · refine nop (-1) ok (fun δ h => ?_) (fun δ h => ?_)
          · simp only [f_Fp_claim, ocs, Option.bind, ifb, b1 δ h, d1 δ h, f1 δ h, wl, if_pos h_b, if_pos h_d, if_pos (fp h_f), if_neg h_c, if_pos (isB_ix h_b k8)]
          · simp only [f_Mo_claim, Option.bind, ifb, j6, x6, f2 δ h, il (show 0 < 2147483648 by decide) (show 31 < 2147483648 by decide), b2 δ h, d2 δ h, if_pos h_b, if_pos h_d, if_neg (gp h_f), if_neg h_c]
      · refine nop (-1) ok (fun δ h => ?_) (fun δ h => ?_)
        · simp only [f_Fp_claim, ocs, Option.bind, ifb, b1 δ h, d1 δ h, f1 δ h, wl, if_pos h_b, if_pos h_d, if_neg (fn h_f), if_pos (isB_ix h_b k8)]
        · simp only [f_Mo_claim, Option.bind, ifb, j6, x6, f2 δ h, il (show 0 < 2147483648 by decide) (show 31 < 2147483648 by decide), b2 δ h, d2 δ h, if_pos h_b, if_pos h_d, if_pos (gn h_f)]
    · by_cases h_f : S.1.1 6 < 100
      · by_cases h_c : nI 0 ≤ a1 ∧ a1 ≤ nI 31
        · refine nop (-1) ok (fun δ h => ?_) (fun δ h => ?_)
          · simp only [f_Fp_claim, ocs, Option.bind, ifb, b1 δ h, d1 δ h, f1 δ h, wl, if_pos h_b, if_neg h_d, if_pos (fp h_f), if_pos h_c, if_pos (isB_ix h_b k8)]
          · simp only [f_Mo_claim, Option.bind, ifb, j6, x6, f2 δ h, il (show 0 < 2147483648 by decide) (show 31 < 2147483648 by decide), b2 δ h, d2 δ h, if_pos h_b, if_neg h_d, if_neg (gp h_f), if_pos h_c]
        · refine nop (-1) ok (fun δ h => ?_) (fun δ h => ?_)
          · simp only [f_Fp_claim, ocs, Option.bind, ifb, b1 δ h, d1 δ h, f1 δ h, wl, if_pos h_b, if_neg h_d, if_pos (fp h_f), if_neg h_c, if_pos (isB_ix h_b k8)]
          · simp only [f_Mo_claim, Option.bind, ifb, j6, x6, f2 δ h, il (show 0 < 2147483648 by decide) (show 31 < 2147483648 by decide), b2 δ h, d2 δ h, if_pos h_b, if_neg h_d, if_neg (gp h_f), if_neg h_c]
      · refine nop (-1) ok (fun δ h => ?_) (fun δ h => ?_)
        · simp only [f_Fp_claim, ocs, Option.bind, ifb, b1 δ h, d1 δ h, f1 δ h, wl, if_pos h_b, if_neg h_d, if_neg (fn h_f), if_pos (isB_ix h_b k8)]
        · simp only [f_Mo_claim, Option.bind, ifb, j6, x6, f2 δ h, il (show 0 < 2147483648 by decide) (show 31 < 2147483648 by decide), b2 δ h, d2 δ h, if_pos h_b, if_neg h_d, if_pos (gn h_f)]
  · by_cases h_f : S.1.1 6 < 100
    · by_cases h_c : nI 0 ≤ a1 ∧ a1 ≤ nI 31
      · refine nop (-1) ok (fun δ h => ?_) (fun δ h => ?_)
        · simp only [f_Fp_claim, ocs, Option.bind, ifb, b1 δ h, d1 δ h, f1 δ h, wl, if_neg h_b, if_pos (fp h_f), if_pos h_c]
        · simp only [f_Mo_claim, Option.bind, ifb, j6, x6, f2 δ h, il (show 0 < 2147483648 by decide) (show 31 < 2147483648 by decide), b2 δ h, d2 δ h, if_neg h_b, if_neg (gp h_f), if_pos h_c]
      · refine nop (-1) ok (fun δ h => ?_) (fun δ h => ?_)
        · simp only [f_Fp_claim, ocs, Option.bind, ifb, b1 δ h, d1 δ h, f1 δ h, wl, if_neg h_b, if_pos (fp h_f), if_neg h_c]
        · simp only [f_Mo_claim, Option.bind, ifb, j6, x6, f2 δ h, il (show 0 < 2147483648 by decide) (show 31 < 2147483648 by decide), b2 δ h, d2 δ h, if_neg h_b, if_neg (gp h_f), if_neg h_c]
    · refine nop (-1) ok (fun δ h => ?_) (fun δ h => ?_)
      · simp only [f_Fp_claim, ocs, Option.bind, ifb, b1 δ h, d1 δ h, f1 δ h, wl, if_neg h_b, if_neg (fn h_f)]
      · simp only [f_Mo_claim, Option.bind, ifb, j6, x6, f2 δ h, il (show 0 < 2147483648 by decide) (show 31 < 2147483648 by decide), b2 δ h, d2 δ h, if_neg h_b, if_pos (gn h_f)]
