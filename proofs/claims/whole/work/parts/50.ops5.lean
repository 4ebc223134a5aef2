/-! readings, claims -/
theorem j5 {α : Type} {A B : α} : (if inb (5 : Int32) 8918 then A else B) = A := if_pos (by decide)
theorem x5 : ix (5 : Int32) = 5 := rfl
theorem ok_rd {nl : Nat} {T : Tw} {x : Ev} (h : okT nl T) (hk : T.1 5 < 100) (hx : x 0 < T.1 2 ∧ x 1 ≤ T.1 0 ∧ x 2 ≤ 99999 ∧ x 3 ≤ 99999999 ∧ x 4 ≤ T.1 0) : okT nl (up T.1 5 (T.1 5 + 1), tE T, tR T ++ [x], tC T) := by
  obtain ⟨G, E, R, C⟩ := T
  obtain ⟨o1, o2, o3, o4, o5, o6⟩ := h
  have hk : G 5 < 100 := hk
  have en : ∀ k, k ≠ 5 → up G 5 (G 5 + 1) k = G k := fun k hk => up_n hk
  have eb : ∀ b w, bc (up G 5 (G 5 + 1)) b w = bc G b w := fun b w => en _ (by omega)
  have e5 : up G 5 (G 5 + 1) 5 = G 5 + 1 := up_s
  show okT nl (up G 5 (G 5 + 1), E, R ++ [x], C)
  refine ⟨?_, okG_c (en 1 (by decide)) (fun k hk => en k (by omega)) o2, ?_, ?_, ?_, ?_⟩
  · obtain ⟨s1, s2, s3, s4, s5, s6, s7, s8, s9, s10, s11⟩ := o1
    unfold okS
    simp only [en 0 (by decide), en 1 (by decide), en 2 (by decide), en 3 (by decide), en 4 (by decide), en 6 (by decide), e5]
    have s8 : G 5 = R.length := s8
    exact ⟨s1, s2, s3, s4, s5, s6, s7, by rw [List.length_append, s8]; rfl, by omega, s10, s11⟩
  · unfold okB at *
    simp only [eb, en 0 (by decide), en 1 (by decide), en 2 (by decide), en 4 (by decide)]
    exact o3
  · unfold okE at *
    simp only [eb, en 0 (by decide), en 2 (by decide)]
    exact o4
  · unfold okH at *
    simp only [eb, en 0 (by decide), en 2 (by decide)]
    exact ⟨o5.1, fun b d hb h1 h2 => by rw [en _ (by omega)]; exact o5.2 b d hb h1 h2⟩
  · unfold okP at *
    simp only [en 0 (by decide), en 2 (by decide)]
    refine ⟨fun y hy => ?_, o6.2⟩
    rcases List.mem_append.mp hy with q | q
    · exact o6.1 y q
    · rw [List.mem_singleton.mp q]; exact hx
def rdE (b d u v w : Nat) : Ev := fun j => if j = 0 then b else if j = 1 then d else if j = 2 then u else if j = 3 then v else w
theorem addRd_eq {k : Nat} {δ : Dm} {a1 a2 a3 a4 a5 : Int32} (h : gI δ 45 0 = nI k) (hk : k < 100) : f_Po_addReading a1 a2 a3 a4 a5 δ = some (sI (sI (sI (sI (sI (sI δ 46 k a1) 47 k a2) 48 k a3) 49 k a4) 50 k a5) 45 0 (nI (k + 1))) := by
  unfold f_Po_addReading bnd
  rw [h, put_in (show (KD 46).2 = 100 by decide) hk]
  simp only [Option.bind, gsr (show (45 : Nat) ≠ 46 by decide)]
  rw [h, put_in (show (KD 47).2 = 100 by decide) hk]
  simp only [Option.bind, gsr (show (45 : Nat) ≠ 46 by decide), gsr (show (45 : Nat) ≠ 47 by decide)]
  rw [h, put_in (show (KD 48).2 = 100 by decide) hk]
  simp only [Option.bind, gsr (show (45 : Nat) ≠ 46 by decide), gsr (show (45 : Nat) ≠ 47 by decide), gsr (show (45 : Nat) ≠ 48 by decide)]
  rw [h, put_in (show (KD 49).2 = 100 by decide) hk]
  simp only [Option.bind, gsr (show (45 : Nat) ≠ 46 by decide), gsr (show (45 : Nat) ≠ 47 by decide), gsr (show (45 : Nat) ≠ 48 by decide), gsr (show (45 : Nat) ≠ 49 by decide)]
  rw [h, put_in (show (KD 50).2 = 100 by decide) hk]
  simp only [Option.bind, gsr (show (45 : Nat) ≠ 46 by decide), gsr (show (45 : Nat) ≠ 47 by decide), gsr (show (45 : Nat) ≠ 48 by decide), gsr (show (45 : Nat) ≠ 49 by decide), gsr (show (45 : Nat) ≠ 50 by decide)]
  rw [h, nI_1]
theorem op_reading (a1 a2 a3 a4 : Int32) : OpG (f_Fp_reading a1 a2 a3 a4) (f_Mo_reading a1 a2 a3 a4) := mk_op fun n S ok => by
  have k8 : S.1.1 2 ≤ 8 := ok.1.1.2.2.1
  have k0 : S.1.1 0 < 400 := ok.1.1.1
  have k5 : S.1.1 5 ≤ 100 := ok.1.1.2.2.2.2.2.2.2.2.1
  have b1 : ∀ δ, RepC δ n S → f_To_boothAt a1 δ = some (if inb a1 (S.1.1 2) then some (54 + 4 * ix a1) else none) := fun δ h => boothAt_eq k8 (cG h.1).2.2.1
  have b2 : ∀ δ, RepM δ S → f_Mo_isBooth a1 δ = some (bI (inb a1 (S.1.1 2))) := fun δ h => isBooth_eq (by omega) (mS h.1).2.2.1
  have d1 : ∀ δ, RepC δ n S → f_Fp_within a2 0 (gI δ 29 0) δ = some (bI (inb a2 (S.1.1 0 + 1))) := fun δ h => by rw [(cG h.1).1]; exact within0 (by show S.1.1 0 < _; omega)
  have d2 : ∀ δ, RepM δ S → f_Mo_isPast a2 δ = some (bI (inb a2 (S.1.1 0 + 1))) := fun δ h => isPast_eq (by omega) (mS h.1).1
  have f1 : ∀ δ, RepC δ n S → gI δ 45 0 = nI (S.1.1 5) := fun δ h => (cG h.1).2.2.2.2.2.1
  have f2 : ∀ δ, RepM δ S → gI δ 152 5 = nI (S.1.1 5) := fun δ h => (mS h.1).2.2.2.2.2.1
  have fp : S.1.1 5 < 100 → nI (S.1.1 5) < (100 : Int32) := fun z => nI_lt z (by decide)
  have fn : ¬ S.1.1 5 < 100 → ¬ nI (S.1.1 5) < (100 : Int32) := fun z => nI_nlt (a := S.1.1 5) (b := 100) (by omega) (by omega)
  have gp : S.1.1 5 < 100 → ¬ nI (S.1.1 5) = (100 : Int32) := fun z q => by have := (nI_eq (b := 100) (by omega) (by decide)).mp q; omega
  have gn : ¬ S.1.1 5 < 100 → nI (S.1.1 5) = (100 : Int32) := fun z => by rw [show S.1.1 5 = 100 by omega]; rfl
  by_cases h_b : inb a1 (S.1.1 2)
  · by_cases h_d : inb a2 (S.1.1 0 + 1)
    · by_cases h_f : S.1.1 5 < 100
      · by_cases h_c : nI 0 ≤ a3 ∧ a3 ≤ nI 99999
        · by_cases h_e : nI 0 ≤ a4 ∧ a4 ≤ nI 99999999
          · obtain ⟨b, hb, rfl⟩ := inb_ex (by omega) h_b
            obtain ⟨d, hd, rfl⟩ := inb_ex (by omega) h_d
            obtain ⟨u, -, hu, rfl⟩ := low_i (by decide) h_c (by decide)
            obtain ⟨v, -, hv, rfl⟩ := low_i (by decide) h_e (by decide)
            have kr : S.1.1 5 = (tR (sT S)).length := ok.1.1.2.2.2.2.2.2.2.1
            refine ⟨nI (S.1.1 5 + 1), ((up S.1.1 5 (S.1.1 5 + 1), tE S.1, tR S.1 ++ [rdE b d u v (S.1.1 0)], tC S.1), S.2), fun δ h => ⟨_, ?_, SC_T h ok.2.1 (RC_rd (x := rdE b d u v (S.1.1 0)) (k := S.1.1 5) h.1 kr (δ' := sI (sI (sI (sI (sI (sI δ 46 (S.1.1 5) (nI b)) 47 (S.1.1 5) (nI d)) 48 (S.1.1 5) (nI u)) 49 (S.1.1 5) (nI v)) 50 (S.1.1 5) (nI (S.1.1 0))) 45 0 (nI (S.1.1 5 + 1))) (fun o j ho n1 n2 => ?_) gss (fun j hj => ?_)) (fun b' j hb' => ?_), KMs (KMs (KMs (KMs (KMs (KMs (KM.refl _) (by decide)) (by decide)) (by decide)) (by decide)) (by decide)) (by decide)⟩, fun δ h => ?_, ?_⟩
            · simp only [f_Fp_reading, b1 δ h, d1 δ h, f1 δ h, wl, ocs, Option.bind, ifb, if_pos h_b, if_pos h_d, if_pos (fp h_f), if_pos h_c, if_pos h_e, ixN (show b < 2147483648 by omega), if_pos (isB_at b (by omega)).1, addRd_eq (f1 δ h) h_f]
              rw [show gI δ 29 0 = nI (S.1.1 0) from (cG h.1).1, gss]
            · simp only [gs]
              rw [if_neg (by omega), if_neg (by omega), if_neg (by omega), if_neg (by omega), if_neg (by omega), if_neg (by omega)]
            · rcases (by omega : j = 0 ∨ j = 1 ∨ j = 2 ∨ j = 3 ∨ j = 4) with rfl | rfl | rfl | rfl | rfl <;> simp [gs, rdE]
            · simp only [gs]
              rw [if_neg (by omega), if_neg (by omega), if_neg (by omega), if_neg (by omega), if_neg (by omega), if_neg (by omega)]
            · refine ⟨sI (sI (sI (sI (sI (sI δ 152 (7926 + 5 * S.1.1 5) (nI b)) 152 (7926 + 5 * S.1.1 5 + 1) (nI d)) 152 (7926 + 5 * S.1.1 5 + 2) (nI u)) 152 (7926 + 5 * S.1.1 5 + 3) (nI v)) 152 (7926 + 5 * S.1.1 5 + 4) (nI (S.1.1 0))) 152 5 (nI (S.1.1 5 + 1)), ?_, SM_T h (RM_rd (x := rdE b d u v (S.1.1 0)) (k := S.1.1 5) h.1 kr h_f (okL_of ok).1 (okL_of ok).2.2 (fun j n1 n2 => ?_) gss (fun j hj => ?_)) (fun b' j hb' => ?_), KCs (KCs (KCs (KCs (KCs (KCs (KC.refl _) (by decide)) (by decide)) (by decide)) (by decide)) (by decide)) (by decide)⟩
              · simp only [f_Mo_reading, j5, x5, f2 δ h, b2 δ h, d2 δ h, il (show 0 < 2147483648 by decide) (show 99999 < 2147483648 by decide), il (show 0 < 2147483648 by decide) (show 99999999 < 2147483648 by decide), Option.bind, ifb, if_pos h_b, if_pos h_d, if_neg (gp h_f), if_pos h_c, if_pos h_e, bnd]
                have g0 : gI δ 152 0 = nI (S.1.1 0) := (mS h.1).1
                simp only [lit, pk_mul, nI_add]
                rw [if_pos (inb_i (by omega) (by decide)), if_pos (inb_i (by omega) (by decide)), if_pos (inb_i (by omega) (by decide)), if_pos (inb_i (by omega) (by decide)), if_pos (inb_i (by decide) (by decide)), if_pos (inb_i (by omega) (by decide)), ixN (by omega), ixN (by omega), ixN (by omega), ixN (by omega), ixN (by omega), ixN (by decide)]
                simp (disch := omega) only [gsc, gss, g0, f2 δ h, nI_add]
              · simp only [gs]
                rw [if_neg (by omega), if_neg (by omega), if_neg (by omega), if_neg (by omega), if_neg (by omega), if_neg (by omega)]
              · rcases (by omega : j = 0 ∨ j = 1 ∨ j = 2 ∨ j = 3 ∨ j = 4) with rfl | rfl | rfl | rfl | rfl
                all_goals simp (disch := omega) only [Nat.add_zero, gsc, gss]
                all_goals rfl
              · simp only [gs]
                rw [if_neg (by omega), if_neg (by omega), if_neg (by omega), if_neg (by omega), if_neg (by omega), if_neg (by omega)]
            · exact ⟨ok_rd ok.1 h_f ⟨hb, by show d ≤ S.1.1 0; omega, hu, hv, Nat.le_refl _⟩, ok.2⟩
          · refine nop (-1) ok (fun δ h => ?_) (fun δ h => ?_)
            · simp only [f_Fp_reading, ocs, Option.bind, ifb, b1 δ h, d1 δ h, f1 δ h, wl, wl, if_pos h_b, if_pos h_d, if_pos (fp h_f), if_pos h_c, if_neg h_e, if_pos (isB_ix h_b k8)]
            · simp only [f_Mo_reading, Option.bind, ifb, j5, x5, f2 δ h, b2 δ h, d2 δ h, il (show 0 < 2147483648 by decide) (show 99999 < 2147483648 by decide), il (show 0 < 2147483648 by decide) (show 99999999 < 2147483648 by decide), if_pos h_b, if_pos h_d, if_neg (gp h_f), if_pos h_c, if_neg h_e]
        · refine nop (-1) ok (fun δ h => ?_) (fun δ h => ?_)
          · simp only [f_Fp_reading, ocs, Option.bind, ifb, b1 δ h, d1 δ h, f1 δ h, wl, wl, if_pos h_b, if_pos h_d, if_pos (fp h_f), if_neg h_c, if_pos (isB_ix h_b k8)]
          · simp only [f_Mo_reading, Option.bind, ifb, j5, x5, f2 δ h, b2 δ h, d2 δ h, il (show 0 < 2147483648 by decide) (show 99999 < 2147483648 by decide), il (show 0 < 2147483648 by decide) (show 99999999 < 2147483648 by decide), if_pos h_b, if_pos h_d, if_neg (gp h_f), if_neg h_c]
      · refine nop (-1) ok (fun δ h => ?_) (fun δ h => ?_)
        · simp only [f_Fp_reading, ocs, Option.bind, ifb, b1 δ h, d1 δ h, f1 δ h, wl, wl, if_pos h_b, if_pos h_d, if_neg (fn h_f), if_pos (isB_ix h_b k8)]
        · simp only [f_Mo_reading, Option.bind, ifb, j5, x5, f2 δ h, b2 δ h, d2 δ h, il (show 0 < 2147483648 by decide) (show 99999 < 2147483648 by decide), il (show 0 < 2147483648 by decide) (show 99999999 < 2147483648 by decide), if_pos h_b, if_pos h_d, if_pos (gn h_f)]
    · by_cases h_f : S.1.1 5 < 100
      · refine nop (-1) ok (fun δ h => ?_) (fun δ h => ?_)
        · simp only [f_Fp_reading, ocs, Option.bind, ifb, b1 δ h, d1 δ h, f1 δ h, wl, wl, if_pos h_b, if_neg h_d, if_pos (fp h_f), if_pos (isB_ix h_b k8)]
        · simp only [f_Mo_reading, Option.bind, ifb, j5, x5, f2 δ h, b2 δ h, d2 δ h, il (show 0 < 2147483648 by decide) (show 99999 < 2147483648 by decide), il (show 0 < 2147483648 by decide) (show 99999999 < 2147483648 by decide), if_pos h_b, if_neg h_d, if_neg (gp h_f)]
      · refine nop (-1) ok (fun δ h => ?_) (fun δ h => ?_)
        · simp only [f_Fp_reading, ocs, Option.bind, ifb, b1 δ h, d1 δ h, f1 δ h, wl, wl, if_pos h_b, if_neg h_d, if_neg (fn h_f), if_pos (isB_ix h_b k8)]
        · simp only [f_Mo_reading, Option.bind, ifb, j5, x5, f2 δ h, b2 δ h, d2 δ h, il (show 0 < 2147483648 by decide) (show 99999 < 2147483648 by decide), il (show 0 < 2147483648 by decide) (show 99999999 < 2147483648 by decide), if_pos h_b, if_neg h_d, if_pos (gn h_f)]
  · by_cases h_f : S.1.1 5 < 100
    · refine nop (-1) ok (fun δ h => ?_) (fun δ h => ?_)
      · simp only [f_Fp_reading, ocs, Option.bind, ifb, b1 δ h, d1 δ h, f1 δ h, wl, wl, if_neg h_b, if_pos (fp h_f)]
      · simp only [f_Mo_reading, Option.bind, ifb, j5, x5, f2 δ h, b2 δ h, d2 δ h, il (show 0 < 2147483648 by decide) (show 99999 < 2147483648 by decide), il (show 0 < 2147483648 by decide) (show 99999999 < 2147483648 by decide), if_neg h_b, if_neg (gp h_f)]
    · refine nop (-1) ok (fun δ h => ?_) (fun δ h => ?_)
      · simp only [f_Fp_reading, ocs, Option.bind, ifb, b1 δ h, d1 δ h, f1 δ h, wl, wl, if_neg h_b, if_neg (fn h_f)]
      · simp only [f_Mo_reading, Option.bind, ifb, j5, x5, f2 δ h, b2 δ h, d2 δ h, il (show 0 < 2147483648 by decide) (show 99999 < 2147483648 by decide), il (show 0 < 2147483648 by decide) (show 99999999 < 2147483648 by decide), if_neg h_b, if_pos (gn h_f)]
