noncomputable section
def lp_La_run_6 (kx6_104 : Int32 → Int32 → Dm → Option (Int64 × Dm)) (a0 : Nat) (a1 : Int32) (a2 : Int32) : Nat → Int32 → Int32 → Dm → Option (Int64 × Dm)
  | 0, _, _, _ => none
  | f + 1, v4_6, v5_6, δ6 => (if a2 ≤ v5_6 then (kx6_104 v4_6 v5_6 δ6) else ((f_Fp_get (a0 + 7) v5_6 δ6).bind (fun y18 => (bnd ((-1 : Int32) - y18) (fun v27 => (if y18 < 0 then (if (8 : Int32) < v27 then (if v27 = (20 : Int32) then ((f_Fa_flip v4_6 δ6).bind (fun y82 => (lp_La_run_6 kx6_104 a0 a1 a2 f v4_6 (v5_6 + (1 : Int32)) y82))) else ((f_Fa_join v4_6 v27 δ6).bind (fun y93 => bnd y93.1 (fun v93 => bnd y93.2 (fun δ_93 => (lp_La_run_6 kx6_104 a0 a1 a2 f v93 (v5_6 + (1 : Int32)) δ_93)))))) else ((f_Fa_meaning v27 δ6).bind (fun y61 => ((f_Fa_push v4_6 y61 δ6).bind (fun y64 => bnd y64.1 (fun v64 => bnd y64.2 (fun δ_64 => (lp_La_run_6 kx6_104 a0 a1 a2 f v64 (v5_6 + (1 : Int32)) δ_64)))))))) else ((f_Fa_push v4_6 ((y18).toInt64) δ6).bind (fun y40 => bnd y40.1 (fun v40 => bnd y40.2 (fun δ_40 => (lp_La_run_6 kx6_104 a0 a1 a2 f v40 (v5_6 + (1 : Int32)) δ_40)))))))))))
set_option maxHeartbeats 4000000 in
set_option maxRecDepth 100000 in
theorem tl_La_run_6 {n : Nat} (kx6_104 : Int32 → Int32 → Dm → Option (Int64 × Dm)) (a0 : Nat) (a1 : Int32) (a2 : Int32) (ha0 : isL a0 = true) (hkx6_104 : ∀ v4_6k v5_6k δ6k, AWo k_La_run 2 0 0 104 [(0, .ref a0), (1, .int a1), (2, .int a2), (3, .ref 19), (4, .int v4_6k), (5, .int v5_6k)] [] δ6k RT n 0 0 (Kn RT n) (kx6_104 v4_6k v5_6k δ6k)) : ∀ (f : Nat) (v4_6 : Int32) (v5_6 : Int32) (δ6 : Dm), AWo k_La_run 2 0 0 6 [(0, .ref a0), (1, .int a1), (2, .int a2), (3, .ref 19), (4, .int v4_6), (5, .int v5_6)] [] δ6 RT n 0 0 (Kn RT n) (lp_La_run_6 kx6_104 a0 a1 a2 f v4_6 v5_6 δ6) := by
  intro f
  induction f with
  | zero => intro _ _ _; exact aw_none
  | succ f ih =>
    intro v4_6 v5_6 δ6
    rw [lp_La_run_6]
    refine aw_iload d_La_run_6 5 rfl ?_
    refine aw_iload_n d_La_run_8 2 rfl ?_
    refine aw_icmp_ge (tgt := 104) d_La_run_9 rfl (fun q9 => ?_) (fun q9 => ?_)
    · refine aw_sub (lo' := [(0, .ref a0), (1, .int a1), (2, .int a2), (3, .ref 19), (4, .int v4_6), (5, .int v5_6)]) [0, 1, 2, 3, 4, 5] rfl ?_
      exact hkx6_104 _ _ _
    · refine aw_aload_n d_La_run_12 0 rfl ?_
      refine aw_getR (t := (a0 + 7)) fl_La_30 (fx_isLK ha0 0 (by decide)) (fx_isLR ha0 0 8 (by decide) (by decide)) d_La_run_13 ?_
      refine aw_iload d_La_run_16 5 rfl ?_
      refine aw_SN_p (As := [.ref (a0 + 7), .int v5_6]) (m_Fp_get (congrArg Prod.fst (fx_isLK ha0 7 (by decide)))) cs_La_50 rfl rfl (Nat.le_of_ble_eq_true rfl) ⟨Nat.le_of_ble_eq_true rfl, Nat.le_of_ble_eq_true rfl⟩ ⟨Nat.le_refl _, Nat.le_refl _⟩ d_La_run_18 (fun y18 => ?_)
      refine aw_istore (lo' := [(6, .int y18), (0, .ref a0), (1, .int a1), (2, .int a2), (3, .ref 19), (4, .int v4_6), (5, .int v5_6)]) d_La_run_21 (by decide) rfl ?_
      refine aw_iconst d_La_run_23 ki_m1 ?_
      refine aw_iload d_La_run_24 0 rfl ?_
      refine aw_isub d_La_run_26 ?_
      refine aw_bI (fun v27 => ?_)
      refine aw_istore (lo' := [(7, .int v27), (6, .int y18), (0, .ref a0), (1, .int a1), (2, .int a2), (3, .ref 19), (4, .int v4_6), (5, .int v5_6)]) d_La_run_27 (by decide) rfl ?_
      refine aw_iload d_La_run_29 1 rfl ?_
      refine aw_if_lt (tgt := 48) d_La_run_31 rfl (fun q31 => ?_) (fun q31 => ?_)
      · refine aw_iload d_La_run_48 0 rfl ?_
        refine aw_bipush d_La_run_50 kb_8 ?_
        refine aw_icmp_gt (tgt := 72) d_La_run_52 rfl (fun q52 => ?_) (fun q52 => ?_)
        · refine aw_iload d_La_run_72 0 rfl ?_
          refine aw_bipush d_La_run_74 kb_20 ?_
          refine aw_icmp_ne (tgt := 88) d_La_run_76 rfl (fun q76 => ?_) (fun q76 => ?_)
          · refine aw_aload_n d_La_run_79 5 rfl ?_
            refine aw_iload d_La_run_80 6 rfl ?_
            refine aw_V_v (As := [.int v4_6]) (m_Fa_flip) cv_La_105 kd_19 rfl rfl rfl (Nat.le_of_ble_eq_true rfl) ⟨Nat.le_of_ble_eq_true rfl, Nat.le_of_ble_eq_true rfl⟩ ⟨Nat.le_refl _, Nat.le_refl _⟩ d_La_run_82 (fun y82 => ?_)
            refine aw_goto (tgt := 98) d_La_run_85 rfl ?_
            refine aw_iinc (v := (v5_6 + (1 : Int32))) (lo' := [(5, .int (v5_6 + (1 : Int32))), (7, .int v27), (6, .int y18), (0, .ref a0), (1, .int a1), (2, .int a2), (3, .ref 19), (4, .int v4_6)]) d_La_run_98 7 rfl (by rw [show Int32.ofInt (1) = (1 : Int32) from by decide]) (by decide) rfl ?_
            refine aw_goto (tgt := 6) d_La_run_101 rfl ?_
            refine aw_sub (lo' := [(0, .ref a0), (1, .int a1), (2, .int a2), (3, .ref 19), (4, .int v4_6), (5, .int (v5_6 + (1 : Int32)))]) [3, 4, 5, 6, 7, 0] rfl ?_
            exact ih _ _ _
          · refine aw_aload_n d_La_run_88 5 rfl ?_
            refine aw_iload d_La_run_89 6 rfl ?_
            refine aw_iload d_La_run_91 0 rfl ?_
            refine aw_V_m (As := [.int v4_6, .int v27]) (m_Fa_join) cv_La_109 kd_19 rfl rfl rfl (Nat.le_of_ble_eq_true rfl) ⟨Nat.le_of_ble_eq_true rfl, Nat.le_of_ble_eq_true rfl⟩ ⟨Nat.le_refl _, Nat.le_refl _⟩ d_La_run_93 (fun y93 => ?_)
            refine aw_bI (fun v93 => ?_)
            refine aw_bD (fun δ_93 => ?_)
            refine aw_istore (lo' := [(4, .int v93), (7, .int v27), (6, .int y18), (0, .ref a0), (1, .int a1), (2, .int a2), (3, .ref 19), (5, .int v5_6)]) d_La_run_96 (by decide) rfl ?_
            refine aw_iinc (v := (v5_6 + (1 : Int32))) (lo' := [(5, .int (v5_6 + (1 : Int32))), (4, .int v93), (7, .int v27), (6, .int y18), (0, .ref a0), (1, .int a1), (2, .int a2), (3, .ref 19)]) d_La_run_98 7 rfl (by rw [show Int32.ofInt (1) = (1 : Int32) from by decide]) (by decide) rfl ?_
            refine aw_goto (tgt := 6) d_La_run_101 rfl ?_
            refine aw_sub (lo' := [(0, .ref a0), (1, .int a1), (2, .int a2), (3, .ref 19), (4, .int v93), (5, .int (v5_6 + (1 : Int32)))]) [4, 5, 6, 7, 1, 0] rfl ?_
            exact ih _ _ _
        · refine aw_aload_n d_La_run_55 5 rfl ?_
          refine aw_iload d_La_run_56 6 rfl ?_
          refine aw_aload_n d_La_run_58 5 rfl ?_
          refine aw_iload d_La_run_59 0 rfl ?_
          refine aw_V_l (As := [.int v27]) (m_Fa_meaning) cv_La_101 kd_19 rfl rfl rfl (Nat.le_of_ble_eq_true rfl) ⟨Nat.le_of_ble_eq_true rfl, Nat.le_of_ble_eq_true rfl⟩ ⟨Nat.le_refl _, Nat.le_refl _⟩ d_La_run_61 (fun y61 => ?_)
          refine aw_V_m (As := [.int v4_6, .long y61]) (m_Fa_push) cv_La_97 kd_19 rfl rfl rfl (Nat.le_of_ble_eq_true rfl) ⟨Nat.le_of_ble_eq_true rfl, Nat.le_of_ble_eq_true rfl⟩ ⟨Nat.le_refl _, Nat.le_refl _⟩ d_La_run_64 (fun y64 => ?_)
          refine aw_bI (fun v64 => ?_)
          refine aw_bD (fun δ_64 => ?_)
          refine aw_istore (lo' := [(4, .int v64), (7, .int v27), (6, .int y18), (0, .ref a0), (1, .int a1), (2, .int a2), (3, .ref 19), (5, .int v5_6)]) d_La_run_67 (by decide) rfl ?_
          refine aw_goto (tgt := 98) d_La_run_69 rfl ?_
          refine aw_iinc (v := (v5_6 + (1 : Int32))) (lo' := [(5, .int (v5_6 + (1 : Int32))), (4, .int v64), (7, .int v27), (6, .int y18), (0, .ref a0), (1, .int a1), (2, .int a2), (3, .ref 19)]) d_La_run_98 7 rfl (by rw [show Int32.ofInt (1) = (1 : Int32) from by decide]) (by decide) rfl ?_
          refine aw_goto (tgt := 6) d_La_run_101 rfl ?_
          refine aw_sub (lo' := [(0, .ref a0), (1, .int a1), (2, .int a2), (3, .ref 19), (4, .int v64), (5, .int (v5_6 + (1 : Int32)))]) [4, 5, 6, 7, 1, 0] rfl ?_
          exact ih _ _ _
      · refine aw_aload_n d_La_run_34 5 rfl ?_
        refine aw_iload d_La_run_35 6 rfl ?_
        refine aw_iload d_La_run_37 1 rfl ?_
        refine aw_i2l d_La_run_39 ?_
        refine aw_V_m (As := [.int v4_6, .long ((y18).toInt64)]) (m_Fa_push) cv_La_97 kd_19 rfl rfl rfl (Nat.le_of_ble_eq_true rfl) ⟨Nat.le_of_ble_eq_true rfl, Nat.le_of_ble_eq_true rfl⟩ ⟨Nat.le_refl _, Nat.le_refl _⟩ d_La_run_40 (fun y40 => ?_)
        refine aw_bI (fun v40 => ?_)
        refine aw_bD (fun δ_40 => ?_)
        refine aw_istore (lo' := [(4, .int v40), (7, .int v27), (6, .int y18), (0, .ref a0), (1, .int a1), (2, .int a2), (3, .ref 19), (5, .int v5_6)]) d_La_run_43 (by decide) rfl ?_
        refine aw_goto (tgt := 98) d_La_run_45 rfl ?_
        refine aw_iinc (v := (v5_6 + (1 : Int32))) (lo' := [(5, .int (v5_6 + (1 : Int32))), (4, .int v40), (7, .int v27), (6, .int y18), (0, .ref a0), (1, .int a1), (2, .int a2), (3, .ref 19)]) d_La_run_98 7 rfl (by rw [show Int32.ofInt (1) = (1 : Int32) from by decide]) (by decide) rfl ?_
        refine aw_goto (tgt := 6) d_La_run_101 rfl ?_
        refine aw_sub (lo' := [(0, .ref a0), (1, .int a1), (2, .int a2), (3, .ref 19), (4, .int v40), (5, .int (v5_6 + (1 : Int32)))]) [4, 5, 6, 7, 1, 0] rfl ?_
        exact ih _ _ _
def f_La_run (a0 : Nat) (a1 : Int32) (a2 : Int32) (δ : Dm) : Option (Int64 × Dm) := (lp_La_run_6 (fun v4_6x v5_6x δ6x => ((f_Fa_result v4_6x δ6x).bind (fun y107 => (some (y107, δ6x))))) a0 a1 a2 FU (0 : Int32) a1 δ)
set_option maxHeartbeats 4000000 in
set_option maxRecDepth 100000 in
theorem m_La_run {a0 : Nat} {a1 : Int32} {a2 : Int32} {δ : Dm} {n : Nat} (ha0 : isL a0 = true) : ∀ x, f_La_run a0 a1 a2 δ = some x → AMet k_La_run 2 0 0 [.ref a0, .int a1, .int a2, .ref 19] δ RT n (Kn RT n x) := by
  refine aw_start (lo := [(0, .ref a0), (1, .int a1), (2, .int a2), (3, .ref 19)]) mok_La_run rfl (Nat.le_of_ble_eq_true rfl) ?_
  unfold f_La_run
  refine aw_iconst d_La_run_0 ki_0 ?_
  refine aw_istore (lo' := [(4, .int (0 : Int32)), (0, .ref a0), (1, .int a1), (2, .int a2), (3, .ref 19)]) d_La_run_1 (by decide) rfl ?_
  refine aw_iload_n d_La_run_3 2 rfl ?_
  refine aw_istore (lo' := [(5, .int a1), (4, .int (0 : Int32)), (0, .ref a0), (1, .int a1), (2, .int a2), (3, .ref 19)]) d_La_run_4 (by decide) rfl ?_
  refine aw_sub (lo' := [(0, .ref a0), (1, .int a1), (2, .int a2), (3, .ref 19), (4, .int (0 : Int32)), (5, .int a1)]) [2, 3, 4, 5, 1, 0] rfl ?_
  refine tl_La_run_6 _ _ _ _ ha0 (fun v4_6x v5_6x δ6x => ?_) FU _ _ _
  · refine aw_aload_n d_La_run_104 3 rfl ?_
    refine aw_iload d_La_run_105 4 rfl ?_
    refine aw_V_l (As := [.int v4_6x]) (m_Fa_result) cv_La_112 kd_19 rfl rfl rfl (Nat.le_of_ble_eq_true rfl) ⟨Nat.le_of_ble_eq_true rfl, Nat.le_of_ble_eq_true rfl⟩ ⟨Nat.le_refl _, Nat.le_refl _⟩ d_La_run_107 (fun y107 => ?_)
    exact aw_lret rfl rfl ⟨Nat.le_refl _, Nat.le_refl _⟩ d_La_run_110
def lp_La_holds_2 (kx2_56 : Int32 → Dm → Option (Int32 × Dm)) (a0 : Nat) (a1 : Int32) : Nat → Int32 → Dm → Option (Int32 × Dm)
  | 0, _, _ => none
  | f + 1, v3_2, δ2 => (if (gI δ2 a0 0) ≤ v3_2 then (kx2_56 v3_2 δ2) else ((f_Fp_get (a0 + 1) v3_2 δ2).bind (fun y15 => (if y15 = a1 then ((f_Fp_get (a0 + 4) v3_2 δ2).bind (fun y28 => ((f_Fp_get (a0 + 5) v3_2 δ2).bind (fun y36 => ((f_La_run a0 y28 y36 δ2).bind (fun y40 => bnd y40.1 (fun v40 => bnd y40.2 (fun δ_40 => (if (lg_cmp v40 (0 : Int64)) = 0 then (lp_La_holds_2 kx2_56 a0 a1 f (v3_2 + (1 : Int32)) δ_40) else (some ((1 : Int32), δ_40))))))))))) else (lp_La_holds_2 kx2_56 a0 a1 f (v3_2 + (1 : Int32)) δ2)))))
set_option maxHeartbeats 4000000 in
set_option maxRecDepth 100000 in
theorem tl_La_holds_2 {n : Nat} (kx2_56 : Int32 → Dm → Option (Int32 × Dm)) (a0 : Nat) (a1 : Int32) (ha0 : isL a0 = true) (hkx2_56 : ∀ v3_2k δ2k, AWo k_La_holds 3 0 0 56 [(0, .ref a0), (1, .int a1), (2, .ref 19), (3, .int v3_2k)] [] δ2k RT n 0 0 (Km RT n) (kx2_56 v3_2k δ2k)) : ∀ (f : Nat) (v3_2 : Int32) (δ2 : Dm), AWo k_La_holds 3 0 0 2 [(0, .ref a0), (1, .int a1), (2, .ref 19), (3, .int v3_2)] [] δ2 RT n 0 0 (Km RT n) (lp_La_holds_2 kx2_56 a0 a1 f v3_2 δ2) := by
  intro f
  induction f with
  | zero => intro _ _; exact aw_none
  | succ f ih =>
    intro v3_2 δ2
    rw [lp_La_holds_2]
    refine aw_iload_n d_La_holds_2 3 rfl ?_
    refine aw_aload_n d_La_holds_3 0 rfl ?_
    refine aw_getI fl_La_33 (fx_isLK ha0 0 (by decide)) d_La_holds_4 ?_
    refine aw_icmp_ge (tgt := 56) d_La_holds_7 rfl (fun q7 => ?_) (fun q7 => ?_)
    · refine aw_sub (lo' := [(0, .ref a0), (1, .int a1), (2, .ref 19), (3, .int v3_2)]) [0, 1, 2, 3] rfl ?_
      exact hkx2_56 _ _
    · refine aw_aload_n d_La_holds_10 0 rfl ?_
      refine aw_getR (t := (a0 + 1)) fl_La_11 (fx_isLK ha0 0 (by decide)) (fx_isLR ha0 0 2 (by decide) (by decide)) d_La_holds_11 ?_
      refine aw_iload_n d_La_holds_14 3 rfl ?_
      refine aw_SN_p (As := [.ref (a0 + 1), .int v3_2]) (m_Fp_get (congrArg Prod.fst (fx_isLK ha0 1 (by decide)))) cs_La_50 rfl rfl (Nat.le_of_ble_eq_true rfl) ⟨Nat.le_of_ble_eq_true rfl, Nat.le_of_ble_eq_true rfl⟩ ⟨Nat.le_refl _, Nat.le_refl _⟩ d_La_holds_15 (fun y15 => ?_)
      refine aw_iload_n d_La_holds_18 1 rfl ?_
      refine aw_icmp_ne (tgt := 50) d_La_holds_19 rfl (fun q19 => ?_) (fun q19 => ?_)
      · refine aw_aload_n d_La_holds_22 0 rfl ?_
        refine aw_aload_n d_La_holds_23 0 rfl ?_
        refine aw_getR (t := (a0 + 4)) fl_La_21 (fx_isLK ha0 0 (by decide)) (fx_isLR ha0 0 5 (by decide) (by decide)) d_La_holds_24 ?_
        refine aw_iload_n d_La_holds_27 3 rfl ?_
        refine aw_SN_p (As := [.ref (a0 + 4), .int v3_2]) (m_Fp_get (congrArg Prod.fst (fx_isLK ha0 4 (by decide)))) cs_La_50 rfl rfl (Nat.le_of_ble_eq_true rfl) ⟨Nat.le_of_ble_eq_true rfl, Nat.le_of_ble_eq_true rfl⟩ ⟨Nat.le_refl _, Nat.le_refl _⟩ d_La_holds_28 (fun y28 => ?_)
        refine aw_aload_n d_La_holds_31 0 rfl ?_
        refine aw_getR (t := (a0 + 5)) fl_La_24 (fx_isLK ha0 0 (by decide)) (fx_isLR ha0 0 6 (by decide) (by decide)) d_La_holds_32 ?_
        refine aw_iload_n d_La_holds_35 3 rfl ?_
        refine aw_SN_p (As := [.ref (a0 + 5), .int v3_2]) (m_Fp_get (congrArg Prod.fst (fx_isLK ha0 5 (by decide)))) cs_La_50 rfl rfl (Nat.le_of_ble_eq_true rfl) ⟨Nat.le_of_ble_eq_true rfl, Nat.le_of_ble_eq_true rfl⟩ ⟨Nat.le_refl _, Nat.le_refl _⟩ d_La_holds_36 (fun y36 => ?_)
        refine aw_aload_n d_La_holds_39 2 rfl ?_
        refine aw_V_n (As := [.int y28, .int y36, .ref 19]) (m_La_run ha0) cv_La_94 (fx_isLK ha0 0 (by decide)) rfl rfl rfl (Nat.le_of_ble_eq_true rfl) ⟨Nat.le_of_ble_eq_true rfl, Nat.le_of_ble_eq_true rfl⟩ ⟨Nat.le_refl _, Nat.le_refl _⟩ d_La_holds_40 (fun y40 => ?_)
        refine aw_bL (fun v40 => ?_)
        refine aw_bD (fun δ_40 => ?_)
        refine aw_lconst d_La_holds_43 kl_0 ?_
        refine aw_lcmp d_La_holds_44 ?_
        refine aw_if_eq (tgt := 50) d_La_holds_45 rfl (fun q45 => ?_) (fun q45 => ?_)
        · refine aw_iinc (v := (v3_2 + (1 : Int32))) (lo' := [(3, .int (v3_2 + (1 : Int32))), (0, .ref a0), (1, .int a1), (2, .ref 19)]) d_La_holds_50 3 rfl (by rw [show Int32.ofInt (1) = (1 : Int32) from by decide]) (by decide) rfl ?_
          refine aw_goto (tgt := 2) d_La_holds_53 rfl ?_
          refine aw_sub (lo' := [(0, .ref a0), (1, .int a1), (2, .ref 19), (3, .int (v3_2 + (1 : Int32)))]) [1, 2, 3, 0] rfl ?_
          exact ih _ _
        · refine aw_iconst d_La_holds_48 ki_1 ?_
          exact aw_zret rfl rfl rfl ⟨Nat.le_refl _, Nat.le_refl _⟩ d_La_holds_49
      · refine aw_iinc (v := (v3_2 + (1 : Int32))) (lo' := [(3, .int (v3_2 + (1 : Int32))), (0, .ref a0), (1, .int a1), (2, .ref 19)]) d_La_holds_50 3 rfl (by rw [show Int32.ofInt (1) = (1 : Int32) from by decide]) (by decide) rfl ?_
        refine aw_goto (tgt := 2) d_La_holds_53 rfl ?_
        refine aw_sub (lo' := [(0, .ref a0), (1, .int a1), (2, .ref 19), (3, .int (v3_2 + (1 : Int32)))]) [1, 2, 3, 0] rfl ?_
        exact ih _ _
def f_La_holds (a0 : Nat) (a1 : Int32) (δ : Dm) : Option (Int32 × Dm) := (lp_La_holds_2 (fun v3_2x δ2x => (some ((0 : Int32), δ2x))) a0 a1 FU (0 : Int32) δ)
set_option maxHeartbeats 4000000 in
set_option maxRecDepth 100000 in
theorem m_La_holds {a0 : Nat} {a1 : Int32} {δ : Dm} {n : Nat} (ha0 : isL a0 = true) : ∀ x, f_La_holds a0 a1 δ = some x → AMet k_La_holds 3 0 0 [.ref a0, .int a1, .ref 19] δ RT n (Km RT n x) := by
  refine aw_start (lo := [(0, .ref a0), (1, .int a1), (2, .ref 19)]) mok_La_holds rfl (Nat.le_of_ble_eq_true rfl) ?_
  unfold f_La_holds
  refine aw_iconst d_La_holds_0 ki_0 ?_
  refine aw_istore_n (lo' := [(3, .int (0 : Int32)), (0, .ref a0), (1, .int a1), (2, .ref 19)]) d_La_holds_1 rfl (by decide) rfl ?_
  refine aw_sub (lo' := [(0, .ref a0), (1, .int a1), (2, .ref 19), (3, .int (0 : Int32))]) [1, 2, 3, 0] rfl ?_
  refine tl_La_holds_2 _ _ _ ha0 (fun v3_2x δ2x => ?_) FU _ _
  · refine aw_iconst d_La_holds_56 ki_0 ?_
    exact aw_zret rfl rfl rfl ⟨Nat.le_refl _, Nat.le_refl _⟩ d_La_holds_57
def f_La_spoilerBesideBaths (a0 : Nat) (δ : Dm) : Option (Int32 × Dm) := ((f_La_holds a0 (12 : Int32) δ).bind (fun y4 => bnd y4.1 (fun v4 => bnd y4.2 (fun δ_4 => (if v4 = 0 then ((f_La_holds a0 (13 : Int32) δ_4).bind (fun y16 => bnd y16.1 (fun v16 => bnd y16.2 (fun δ_16 => (if v16 = 0 then (some ((0 : Int32), δ_16)) else (some ((5 : Int32), δ_16))))))) else (some ((4 : Int32), δ_4)))))))
set_option maxHeartbeats 4000000 in
set_option maxRecDepth 100000 in
theorem m_La_spoilerBesideBaths {a0 : Nat} {δ : Dm} {n : Nat} (ha0 : isL a0 = true) : ∀ x, f_La_spoilerBesideBaths a0 δ = some x → AMet k_La_spoilerBesideBaths 4 0 0 [.ref a0, .ref 19] δ RT n (Km RT n x) := by
  refine aw_start (lo := [(0, .ref a0), (1, .ref 19)]) mok_La_spoilerBesideBaths rfl (Nat.le_of_ble_eq_true rfl) ?_
  unfold f_La_spoilerBesideBaths
  refine aw_aload_n d_La_spoilerBesideBaths_0 0 rfl ?_
  refine aw_bipush d_La_spoilerBesideBaths_1 kb_12 ?_
  refine aw_aload_n d_La_spoilerBesideBaths_3 1 rfl ?_
  refine aw_V_m (As := [.int (12 : Int32), .ref 19]) (m_La_holds ha0) cv_La_64 (fx_isLK ha0 0 (by decide)) rfl rfl rfl (Nat.le_of_ble_eq_true rfl) ⟨Nat.le_of_ble_eq_true rfl, Nat.le_of_ble_eq_true rfl⟩ ⟨Nat.le_refl _, Nat.le_refl _⟩ d_La_spoilerBesideBaths_4 (fun y4 => ?_)
  refine aw_bI (fun v4 => ?_)
  refine aw_bD (fun δ_4 => ?_)
  refine aw_if_eq (tgt := 12) d_La_spoilerBesideBaths_7 rfl (fun q7 => ?_) (fun q7 => ?_)
  · refine aw_aload_n d_La_spoilerBesideBaths_12 0 rfl ?_
    refine aw_bipush d_La_spoilerBesideBaths_13 kb_13 ?_
    refine aw_aload_n d_La_spoilerBesideBaths_15 1 rfl ?_
    refine aw_V_m (As := [.int (13 : Int32), .ref 19]) (m_La_holds ha0) cv_La_64 (fx_isLK ha0 0 (by decide)) rfl rfl rfl (Nat.le_of_ble_eq_true rfl) ⟨Nat.le_of_ble_eq_true rfl, Nat.le_of_ble_eq_true rfl⟩ ⟨Nat.le_refl _, Nat.le_refl _⟩ d_La_spoilerBesideBaths_16 (fun y16 => ?_)
    refine aw_bI (fun v16 => ?_)
    refine aw_bD (fun δ_16 => ?_)
    refine aw_if_eq (tgt := 26) d_La_spoilerBesideBaths_19 rfl (fun q19 => ?_) (fun q19 => ?_)
    · refine aw_iconst d_La_spoilerBesideBaths_26 ki_0 ?_
      exact aw_iret rfl rfl ⟨Nat.le_refl _, Nat.le_refl _⟩ d_La_spoilerBesideBaths_27
    · refine aw_iconst d_La_spoilerBesideBaths_22 ki_5 ?_
      refine aw_goto (tgt := 27) d_La_spoilerBesideBaths_23 rfl ?_
      exact aw_iret rfl rfl ⟨Nat.le_refl _, Nat.le_refl _⟩ d_La_spoilerBesideBaths_27
  · refine aw_iconst d_La_spoilerBesideBaths_10 ki_4 ?_
    exact aw_iret rfl rfl ⟨Nat.le_refl _, Nat.le_refl _⟩ d_La_spoilerBesideBaths_11
def lp_La_spoiler_2 (kx2_30 : Int32 → Option (Int32 × Dm)) (a0 : Nat) (a1 : Nat) (δ : Dm) : Nat → Int32 → Option (Int32 × Dm)
  | 0, _ => none
  | f + 1, v3_2 => (if (3 : Int32) ≤ v3_2 then (kx2_30 v3_2) else ((f_Fp_get a1 v3_2 δ).bind (fun y11 => ((f_La_isWeak a0 v3_2 y11 δ).bind (fun y14 => (if y14 = 0 then (lp_La_spoiler_2 kx2_30 a0 a1 δ f (v3_2 + (1 : Int32))) else (some ((v3_2 + (1 : Int32)), δ))))))))
set_option maxHeartbeats 4000000 in
set_option maxRecDepth 100000 in
theorem tl_La_spoiler_2 {n : Nat} (kx2_30 : Int32 → Option (Int32 × Dm)) (a0 : Nat) (a1 : Nat) (δ : Dm) (ha0 : isL a0 = true) (ha1 : (KD a1).1 = 1) (hkx2_30 : ∀ v3_2k, AWo k_La_spoiler 5 0 0 30 [(0, .ref a0), (1, .ref a1), (2, .ref 19), (3, .int v3_2k)] [] δ RT n 0 0 (Km RT n) (kx2_30 v3_2k)) : ∀ (f : Nat) (v3_2 : Int32), AWo k_La_spoiler 5 0 0 2 [(0, .ref a0), (1, .ref a1), (2, .ref 19), (3, .int v3_2)] [] δ RT n 0 0 (Km RT n) (lp_La_spoiler_2 kx2_30 a0 a1 δ f v3_2) := by
  intro f
  induction f with
  | zero => intro _; exact aw_none
  | succ f ih =>
    intro v3_2
    rw [lp_La_spoiler_2]
    refine aw_iload_n d_La_spoiler_2 3 rfl ?_
    refine aw_iconst d_La_spoiler_3 ki_3 ?_
    refine aw_icmp_ge (tgt := 30) d_La_spoiler_4 rfl (fun q4 => ?_) (fun q4 => ?_)
    · refine aw_sub (lo' := [(0, .ref a0), (1, .ref a1), (2, .ref 19), (3, .int v3_2)]) [0, 1, 2, 3] rfl ?_
      exact hkx2_30 _
    · refine aw_aload_n d_La_spoiler_7 0 rfl ?_
      refine aw_iload_n d_La_spoiler_8 3 rfl ?_
      refine aw_aload_n d_La_spoiler_9 1 rfl ?_
      refine aw_iload_n d_La_spoiler_10 3 rfl ?_
      refine aw_SN_p (As := [.ref a1, .int v3_2]) (m_Fp_get ha1) cs_La_50 rfl rfl (Nat.le_of_ble_eq_true rfl) ⟨Nat.le_of_ble_eq_true rfl, Nat.le_of_ble_eq_true rfl⟩ ⟨Nat.le_refl _, Nat.le_refl _⟩ d_La_spoiler_11 (fun y11 => ?_)
      refine aw_V_p (As := [.int v3_2, .int y11]) (m_La_isWeak ha0) cv_La_54 (fx_isLK ha0 0 (by decide)) rfl rfl rfl (Nat.le_of_ble_eq_true rfl) ⟨Nat.le_of_ble_eq_true rfl, Nat.le_of_ble_eq_true rfl⟩ ⟨Nat.le_refl _, Nat.le_refl _⟩ d_La_spoiler_14 (fun y14 => ?_)
      refine aw_if_eq (tgt := 24) d_La_spoiler_17 rfl (fun q17 => ?_) (fun q17 => ?_)
      · refine aw_iinc (v := (v3_2 + (1 : Int32))) (lo' := [(3, .int (v3_2 + (1 : Int32))), (0, .ref a0), (1, .ref a1), (2, .ref 19)]) d_La_spoiler_24 3 rfl (by rw [show Int32.ofInt (1) = (1 : Int32) from by decide]) (by decide) rfl ?_
        refine aw_goto (tgt := 2) d_La_spoiler_27 rfl ?_
        refine aw_sub (lo' := [(0, .ref a0), (1, .ref a1), (2, .ref 19), (3, .int (v3_2 + (1 : Int32)))]) [1, 2, 3, 0] rfl ?_
        exact ih _
      · refine aw_iload_n d_La_spoiler_20 3 rfl ?_
        refine aw_iconst d_La_spoiler_21 ki_1 ?_
        refine aw_iadd d_La_spoiler_22 ?_
        exact aw_iret rfl rfl ⟨Nat.le_refl _, Nat.le_refl _⟩ d_La_spoiler_23
def f_La_spoiler (a0 : Nat) (a1 : Nat) (δ : Dm) : Option (Int32 × Dm) := (lp_La_spoiler_2 (fun v3_2x => ((f_La_spoilerBesideBaths a0 δ).bind (fun y32 => bnd y32.1 (fun v32 => bnd y32.2 (fun δ_32 => (some (v32, δ_32))))))) a0 a1 δ FU (0 : Int32))
set_option maxHeartbeats 4000000 in
set_option maxRecDepth 100000 in
theorem m_La_spoiler {a0 : Nat} {a1 : Nat} {δ : Dm} {n : Nat} (ha0 : isL a0 = true) (ha1 : (KD a1).1 = 1) : ∀ x, f_La_spoiler a0 a1 δ = some x → AMet k_La_spoiler 5 0 0 [.ref a0, .ref a1, .ref 19] δ RT n (Km RT n x) := by
  refine aw_start (lo := [(0, .ref a0), (1, .ref a1), (2, .ref 19)]) mok_La_spoiler rfl (Nat.le_of_ble_eq_true rfl) ?_
  unfold f_La_spoiler
  refine aw_iconst d_La_spoiler_0 ki_0 ?_
  refine aw_istore_n (lo' := [(3, .int (0 : Int32)), (0, .ref a0), (1, .ref a1), (2, .ref 19)]) d_La_spoiler_1 rfl (by decide) rfl ?_
  refine aw_sub (lo' := [(0, .ref a0), (1, .ref a1), (2, .ref 19), (3, .int (0 : Int32))]) [1, 2, 3, 0] rfl ?_
  refine tl_La_spoiler_2 _ _ _ _ ha0 ha1 (fun v3_2x => ?_) FU _
  · refine aw_aload_n d_La_spoiler_30 0 rfl ?_
    refine aw_aload_n d_La_spoiler_31 2 rfl ?_
    refine aw_V_m (As := [.ref 19]) (m_La_spoilerBesideBaths ha0) cv_La_58 (fx_isLK ha0 0 (by decide)) rfl rfl rfl (Nat.le_of_ble_eq_true rfl) ⟨Nat.le_of_ble_eq_true rfl, Nat.le_of_ble_eq_true rfl⟩ ⟨Nat.le_refl _, Nat.le_refl _⟩ d_La_spoiler_32 (fun y32 => ?_)
    refine aw_bI (fun v32 => ?_)
    refine aw_bD (fun δ_32 => ?_)
    exact aw_iret rfl rfl ⟨Nat.le_refl _, Nat.le_refl _⟩ d_La_spoiler_35
def jp_La_total_87 (kr3 : Int32 → Dm → Option (Int64 × Dm)) (kx3_110 : Int32 → Dm → Option (Int64 × Dm)) (a0 : Nat) (a1 : Int32) (a2 : Int32) (v4_3 : Int32) (y47 : Int32) (δ87 : Dm) : Option (Int64 × Dm) := ((f_Fp_get (a0 + 3) v4_3 δ87).bind (fun y94 => ((f_La_run a0 y94 y47 δ87).bind (fun y100 => bnd y100.1 (fun v100 => bnd y100.2 (fun δ_100 => (some (v100, δ_100))))))))
set_option maxHeartbeats 4000000 in
set_option maxRecDepth 100000 in
theorem tj_La_total_87 {n : Nat} (kr3 : Int32 → Dm → Option (Int64 × Dm)) (kx3_110 : Int32 → Dm → Option (Int64 × Dm)) (a0 : Nat) (a1 : Int32) (a2 : Int32) (v4_3 : Int32) (y47 : Int32) (δ87 : Dm) (ha0 : isL a0 = true) (hkr3 : ∀ v4_3k δ3k, AWo k_La_total 3 0 0 3 [(0, .ref a0), (1, .int a1), (2, .int a2), (3, .ref 19), (4, .int v4_3k)] [] δ3k RT n 0 0 (Kn RT n) (kr3 v4_3k δ3k)) (hkx3_110 : ∀ v4_3k δ3k, AWo k_La_total 3 0 0 110 [(0, .ref a0), (1, .int a1), (2, .int a2), (3, .ref 19), (4, .int v4_3k)] [] δ3k RT n 0 0 (Kn RT n) (kx3_110 v4_3k δ3k)) : AWo k_La_total 3 0 0 87 [(0, .ref a0), (1, .int a1), (2, .int a2), (3, .ref 19), (4, .int v4_3), (5, .int y47)] [] δ87 RT n 0 0 (Kn RT n) (jp_La_total_87 kr3 kx3_110 a0 a1 a2 v4_3 y47 δ87) := by
  unfold jp_La_total_87
  refine aw_aload_n d_La_total_87 0 rfl ?_
  refine aw_aload_n d_La_total_88 0 rfl ?_
  refine aw_getR (t := (a0 + 3)) fl_La_18 (fx_isLK ha0 0 (by decide)) (fx_isLR ha0 0 4 (by decide) (by decide)) d_La_total_89 ?_
  refine aw_iload d_La_total_92 4 rfl ?_
  refine aw_SN_p (As := [.ref (a0 + 3), .int v4_3]) (m_Fp_get (congrArg Prod.fst (fx_isLK ha0 3 (by decide)))) cs_La_50 rfl rfl (Nat.le_of_ble_eq_true rfl) ⟨Nat.le_of_ble_eq_true rfl, Nat.le_of_ble_eq_true rfl⟩ ⟨Nat.le_refl _, Nat.le_refl _⟩ d_La_total_94 (fun y94 => ?_)
  refine aw_iload d_La_total_97 5 rfl ?_
  refine aw_aload_n d_La_total_99 3 rfl ?_
  refine aw_V_n (As := [.int y94, .int y47, .ref 19]) (m_La_run ha0) cv_La_94 (fx_isLK ha0 0 (by decide)) rfl rfl rfl (Nat.le_of_ble_eq_true rfl) ⟨Nat.le_of_ble_eq_true rfl, Nat.le_of_ble_eq_true rfl⟩ ⟨Nat.le_refl _, Nat.le_refl _⟩ d_La_total_100 (fun y100 => ?_)
  refine aw_bL (fun v100 => ?_)
  refine aw_bD (fun δ_100 => ?_)
  exact aw_lret rfl rfl ⟨Nat.le_refl _, Nat.le_refl _⟩ d_La_total_103
def lp_La_total_3 (kx3_110 : Int32 → Dm → Option (Int64 × Dm)) (a0 : Nat) (a1 : Int32) (a2 : Int32) : Nat → Int32 → Dm → Option (Int64 × Dm)
  | 0, _, _ => none
  | f + 1, v4_3, δ3 => (if (gI δ3 a0 0) ≤ v4_3 then (kx3_110 v4_3 δ3) else ((f_Fp_get (a0 + 1) v4_3 δ3).bind (fun y18 => (if y18 = a1 then ((f_Fp_get (a0 + 2) v4_3 δ3).bind (fun y31 => (if y31 = a2 then ((f_Fp_get (a0 + 4) v4_3 δ3).bind (fun y47 => ((f_Fp_get (a0 + 5) v4_3 δ3).bind (fun y60 => (if y47 = y60 then (jp_La_total_87 (lp_La_total_3 kx3_110 a0 a1 a2 f) kx3_110 a0 a1 a2 v4_3 y47 δ3) else ((f_Fp_get (a0 + 5) v4_3 δ3).bind (fun y75 => ((f_La_run a0 y47 y75 δ3).bind (fun y79 => bnd y79.1 (fun v79 => bnd y79.2 (fun δ_79 => (if (lg_cmp v79 (0 : Int64)) = 0 then (lp_La_total_3 kx3_110 a0 a1 a2 f (v4_3 + (1 : Int32)) δ_79) else (jp_La_total_87 (lp_La_total_3 kx3_110 a0 a1 a2 f) kx3_110 a0 a1 a2 v4_3 y47 δ_79))))))))))))) else (lp_La_total_3 kx3_110 a0 a1 a2 f (v4_3 + (1 : Int32)) δ3)))) else (lp_La_total_3 kx3_110 a0 a1 a2 f (v4_3 + (1 : Int32)) δ3)))))
set_option maxHeartbeats 4000000 in
set_option maxRecDepth 100000 in
theorem tl_La_total_3 {n : Nat} (kx3_110 : Int32 → Dm → Option (Int64 × Dm)) (a0 : Nat) (a1 : Int32) (a2 : Int32) (ha0 : isL a0 = true) (hkx3_110 : ∀ v4_3k δ3k, AWo k_La_total 3 0 0 110 [(0, .ref a0), (1, .int a1), (2, .int a2), (3, .ref 19), (4, .int v4_3k)] [] δ3k RT n 0 0 (Kn RT n) (kx3_110 v4_3k δ3k)) : ∀ (f : Nat) (v4_3 : Int32) (δ3 : Dm), AWo k_La_total 3 0 0 3 [(0, .ref a0), (1, .int a1), (2, .int a2), (3, .ref 19), (4, .int v4_3)] [] δ3 RT n 0 0 (Kn RT n) (lp_La_total_3 kx3_110 a0 a1 a2 f v4_3 δ3) := by
  intro f
  induction f with
  | zero => intro _ _; exact aw_none
  | succ f ih =>
    intro v4_3 δ3
    rw [lp_La_total_3]
    refine aw_iload d_La_total_3 4 rfl ?_
    refine aw_aload_n d_La_total_5 0 rfl ?_
    refine aw_getI fl_La_33 (fx_isLK ha0 0 (by decide)) d_La_total_6 ?_
    refine aw_icmp_ge (tgt := 110) d_La_total_9 rfl (fun q9 => ?_) (fun q9 => ?_)
    · refine aw_sub (lo' := [(0, .ref a0), (1, .int a1), (2, .int a2), (3, .ref 19), (4, .int v4_3)]) [0, 1, 2, 3, 4] rfl ?_
      exact hkx3_110 _ _
    · refine aw_aload_n d_La_total_12 0 rfl ?_
      refine aw_getR (t := (a0 + 1)) fl_La_11 (fx_isLK ha0 0 (by decide)) (fx_isLR ha0 0 2 (by decide) (by decide)) d_La_total_13 ?_
      refine aw_iload d_La_total_16 4 rfl ?_
      refine aw_SN_p (As := [.ref (a0 + 1), .int v4_3]) (m_Fp_get (congrArg Prod.fst (fx_isLK ha0 1 (by decide)))) cs_La_50 rfl rfl (Nat.le_of_ble_eq_true rfl) ⟨Nat.le_of_ble_eq_true rfl, Nat.le_of_ble_eq_true rfl⟩ ⟨Nat.le_refl _, Nat.le_refl _⟩ d_La_total_18 (fun y18 => ?_)
      refine aw_iload_n d_La_total_21 1 rfl ?_
      refine aw_icmp_ne (tgt := 104) d_La_total_22 rfl (fun q22 => ?_) (fun q22 => ?_)
      · refine aw_aload_n d_La_total_25 0 rfl ?_
        refine aw_getR (t := (a0 + 2)) fl_La_15 (fx_isLK ha0 0 (by decide)) (fx_isLR ha0 0 3 (by decide) (by decide)) d_La_total_26 ?_
        refine aw_iload d_La_total_29 4 rfl ?_
        refine aw_SN_p (As := [.ref (a0 + 2), .int v4_3]) (m_Fp_get (congrArg Prod.fst (fx_isLK ha0 2 (by decide)))) cs_La_50 rfl rfl (Nat.le_of_ble_eq_true rfl) ⟨Nat.le_of_ble_eq_true rfl, Nat.le_of_ble_eq_true rfl⟩ ⟨Nat.le_refl _, Nat.le_refl _⟩ d_La_total_31 (fun y31 => ?_)
        refine aw_iload_n d_La_total_34 2 rfl ?_
        refine aw_icmp_eq (tgt := 41) d_La_total_35 rfl (fun q35 => ?_) (fun q35 => ?_)
        · refine aw_aload_n d_La_total_41 0 rfl ?_
          refine aw_getR (t := (a0 + 4)) fl_La_21 (fx_isLK ha0 0 (by decide)) (fx_isLR ha0 0 5 (by decide) (by decide)) d_La_total_42 ?_
          refine aw_iload d_La_total_45 4 rfl ?_
          refine aw_SN_p (As := [.ref (a0 + 4), .int v4_3]) (m_Fp_get (congrArg Prod.fst (fx_isLK ha0 4 (by decide)))) cs_La_50 rfl rfl (Nat.le_of_ble_eq_true rfl) ⟨Nat.le_of_ble_eq_true rfl, Nat.le_of_ble_eq_true rfl⟩ ⟨Nat.le_refl _, Nat.le_refl _⟩ d_La_total_47 (fun y47 => ?_)
          refine aw_istore (lo' := [(5, .int y47), (0, .ref a0), (1, .int a1), (2, .int a2), (3, .ref 19), (4, .int v4_3)]) d_La_total_50 (by decide) rfl ?_
          refine aw_iload d_La_total_52 0 rfl ?_
          refine aw_aload_n d_La_total_54 1 rfl ?_
          refine aw_getR (t := (a0 + 5)) fl_La_24 (fx_isLK ha0 0 (by decide)) (fx_isLR ha0 0 6 (by decide) (by decide)) d_La_total_55 ?_
          refine aw_iload d_La_total_58 5 rfl ?_
          refine aw_SN_p (As := [.ref (a0 + 5), .int v4_3]) (m_Fp_get (congrArg Prod.fst (fx_isLK ha0 5 (by decide)))) cs_La_50 rfl rfl (Nat.le_of_ble_eq_true rfl) ⟨Nat.le_of_ble_eq_true rfl, Nat.le_of_ble_eq_true rfl⟩ ⟨Nat.le_refl _, Nat.le_refl _⟩ d_La_total_60 (fun y60 => ?_)
          refine aw_icmp_eq (tgt := 87) d_La_total_63 rfl (fun q63 => ?_) (fun q63 => ?_)
          · refine aw_sub (lo' := [(0, .ref a0), (1, .int a1), (2, .int a2), (3, .ref 19), (4, .int v4_3), (5, .int y47)]) [1, 2, 3, 4, 5, 0] rfl ?_
            exact tj_La_total_87 _ _ _ _ _ _ _ _ ha0 ih hkx3_110
          · refine aw_aload_n d_La_total_66 1 rfl ?_
            refine aw_iload d_La_total_67 0 rfl ?_
            refine aw_aload_n d_La_total_69 1 rfl ?_
            refine aw_getR (t := (a0 + 5)) fl_La_24 (fx_isLK ha0 0 (by decide)) (fx_isLR ha0 0 6 (by decide) (by decide)) d_La_total_70 ?_
            refine aw_iload d_La_total_73 5 rfl ?_
            refine aw_SN_p (As := [.ref (a0 + 5), .int v4_3]) (m_Fp_get (congrArg Prod.fst (fx_isLK ha0 5 (by decide)))) cs_La_50 rfl rfl (Nat.le_of_ble_eq_true rfl) ⟨Nat.le_of_ble_eq_true rfl, Nat.le_of_ble_eq_true rfl⟩ ⟨Nat.le_refl _, Nat.le_refl _⟩ d_La_total_75 (fun y75 => ?_)
            refine aw_aload_n d_La_total_78 4 rfl ?_
            refine aw_V_n (As := [.int y47, .int y75, .ref 19]) (m_La_run ha0) cv_La_94 (fx_isLK ha0 0 (by decide)) rfl rfl rfl (Nat.le_of_ble_eq_true rfl) ⟨Nat.le_of_ble_eq_true rfl, Nat.le_of_ble_eq_true rfl⟩ ⟨Nat.le_refl _, Nat.le_refl _⟩ d_La_total_79 (fun y79 => ?_)
            refine aw_bL (fun v79 => ?_)
            refine aw_bD (fun δ_79 => ?_)
            refine aw_lconst d_La_total_82 kl_0 ?_
            refine aw_lcmp d_La_total_83 ?_
            refine aw_if_eq (tgt := 104) d_La_total_84 rfl (fun q84 => ?_) (fun q84 => ?_)
            · refine aw_iinc (v := (v4_3 + (1 : Int32))) (lo' := [(4, .int (v4_3 + (1 : Int32))), (5, .int y47), (0, .ref a0), (1, .int a1), (2, .int a2), (3, .ref 19)]) d_La_total_104 5 rfl (by rw [show Int32.ofInt (1) = (1 : Int32) from by decide]) (by decide) rfl ?_
              refine aw_goto (tgt := 3) d_La_total_107 rfl ?_
              refine aw_sub (lo' := [(0, .ref a0), (1, .int a1), (2, .int a2), (3, .ref 19), (4, .int (v4_3 + (1 : Int32)))]) [2, 3, 4, 5, 0] rfl ?_
              exact ih _ _
            · refine aw_sub (lo' := [(0, .ref a0), (1, .int a1), (2, .int a2), (3, .ref 19), (4, .int v4_3), (5, .int y47)]) [1, 2, 3, 4, 5, 0] rfl ?_
              exact tj_La_total_87 _ _ _ _ _ _ _ _ ha0 ih hkx3_110
        · refine aw_goto (tgt := 104) d_La_total_38 rfl ?_
          refine aw_iinc (v := (v4_3 + (1 : Int32))) (lo' := [(4, .int (v4_3 + (1 : Int32))), (0, .ref a0), (1, .int a1), (2, .int a2), (3, .ref 19)]) d_La_total_104 4 rfl (by rw [show Int32.ofInt (1) = (1 : Int32) from by decide]) (by decide) rfl ?_
          refine aw_goto (tgt := 3) d_La_total_107 rfl ?_
          refine aw_sub (lo' := [(0, .ref a0), (1, .int a1), (2, .int a2), (3, .ref 19), (4, .int (v4_3 + (1 : Int32)))]) [1, 2, 3, 4, 0] rfl ?_
          exact ih _ _
      · refine aw_iinc (v := (v4_3 + (1 : Int32))) (lo' := [(4, .int (v4_3 + (1 : Int32))), (0, .ref a0), (1, .int a1), (2, .int a2), (3, .ref 19)]) d_La_total_104 4 rfl (by rw [show Int32.ofInt (1) = (1 : Int32) from by decide]) (by decide) rfl ?_
        refine aw_goto (tgt := 3) d_La_total_107 rfl ?_
        refine aw_sub (lo' := [(0, .ref a0), (1, .int a1), (2, .int a2), (3, .ref 19), (4, .int (v4_3 + (1 : Int32)))]) [1, 2, 3, 4, 0] rfl ?_
        exact ih _ _
def f_La_total (a0 : Nat) (a1 : Int32) (a2 : Int32) (δ : Dm) : Option (Int64 × Dm) := (lp_La_total_3 (fun v4_3x δ3x => (some ((0 : Int64), δ3x))) a0 a1 a2 FU (0 : Int32) δ)
set_option maxHeartbeats 4000000 in
set_option maxRecDepth 100000 in
theorem m_La_total {a0 : Nat} {a1 : Int32} {a2 : Int32} {δ : Dm} {n : Nat} (ha0 : isL a0 = true) : ∀ x, f_La_total a0 a1 a2 δ = some x → AMet k_La_total 3 0 0 [.ref a0, .int a1, .int a2, .ref 19] δ RT n (Kn RT n x) := by
  refine aw_start (lo := [(0, .ref a0), (1, .int a1), (2, .int a2), (3, .ref 19)]) mok_La_total rfl (Nat.le_of_ble_eq_true rfl) ?_
  unfold f_La_total
  refine aw_iconst d_La_total_0 ki_0 ?_
  refine aw_istore (lo' := [(4, .int (0 : Int32)), (0, .ref a0), (1, .int a1), (2, .int a2), (3, .ref 19)]) d_La_total_1 (by decide) rfl ?_
  refine aw_sub (lo' := [(0, .ref a0), (1, .int a1), (2, .int a2), (3, .ref 19), (4, .int (0 : Int32))]) [1, 2, 3, 4, 0] rfl ?_
  refine tl_La_total_3 _ _ _ _ ha0 (fun v4_3x δ3x => ?_) FU _ _
  · refine aw_lconst d_La_total_110 kl_0 ?_
    exact aw_lret rfl rfl ⟨Nat.le_refl _, Nat.le_refl _⟩ d_La_total_111
def f_Fp_held (a0 : Int64) (a2 : Int64) (a4 : Int64) (δ : Dm) : Option Int64 := (some (if (if a0 < a4 then a0 else a4) < a2 then a2 else (if a0 < a4 then a0 else a4)))
set_option maxHeartbeats 4000000 in
set_option maxRecDepth 100000 in
theorem m_Fp_held {a0 : Int64} {a2 : Int64} {a4 : Int64} {δ : Dm} {n : Nat} : ∀ x, f_Fp_held a0 a2 a4 δ = some x → AMet k_Fp_held 1 0 0 [.long a0, .long a2, .long a4] δ RT n (Kl δ RT n x) := by
  refine aw_start (lo := [(0, .long a0), (2, .long a2), (4, .long a4)]) mok_Fp_held rfl (Nat.le_of_ble_eq_true rfl) ?_
  unfold f_Fp_held
  refine aw_lload_n d_Fp_held_0 1 rfl ?_
  refine aw_lload d_Fp_held_1 2 rfl ?_
  refine aw_lload_n d_Fp_held_3 0 rfl ?_
  refine aw_minL ml_Fp_367 ms_minL mi_Ma mx_minL (Nat.le_of_ble_eq_true rfl) (Nat.le_of_ble_eq_true rfl) ⟨Nat.le_refl _, Nat.le_refl _⟩ d_Fp_held_4 ?_
  refine aw_maxL ml_Fp_370 ms_maxL mi_Ma mx_maxL (Nat.le_of_ble_eq_true rfl) (Nat.le_of_ble_eq_true rfl) ⟨Nat.le_refl _, Nat.le_refl _⟩ d_Fp_held_7 ?_
  exact aw_lret rfl rfl ⟨Nat.le_refl _, Nat.le_refl _⟩ d_Fp_held_10
def f_La_worn (a0 : Nat) (a1 : Int32) (a2 : Int32) (a3 : Int32) (δ : Dm) : Option (Int32 × Dm) := ((f_Fa_tell (5 : Int32) ((a3).toInt64) δ).bind (fun y5 => ((f_La_total a0 a1 a2 y5).bind (fun y13 => bnd y13.1 (fun v13 => bnd y13.2 (fun δ_13 => ((f_Fp_held v13 (0 : Int64) (1000 : Int64) δ_13).bind (fun y20 => (bnd ((y20).toInt32) (fun v24 => ((f_Fa_tell (5 : Int32) (0 : Int64) δ_13).bind (fun y30 => (some ((if (0 : Int32) < (a3 - v24) then (a3 - v24) else (0 : Int32)), y30))))))))))))))
set_option maxHeartbeats 4000000 in
set_option maxRecDepth 100000 in
theorem m_La_worn {a0 : Nat} {a1 : Int32} {a2 : Int32} {a3 : Int32} {δ : Dm} {n : Nat} (ha0 : isL a0 = true) : ∀ x, f_La_worn a0 a1 a2 a3 δ = some x → AMet k_La_worn 4 0 0 [.ref a0, .int a1, .int a2, .int a3, .ref 19] δ RT n (Km RT n x) := by
  refine aw_start (lo := [(0, .ref a0), (1, .int a1), (2, .int a2), (3, .int a3), (4, .ref 19)]) mok_La_worn rfl (Nat.le_of_ble_eq_true rfl) ?_
  unfold f_La_worn
  refine aw_aload d_La_worn_0 4 rfl ?_
  refine aw_iconst d_La_worn_2 ki_5 ?_
  refine aw_iload_n d_La_worn_3 3 rfl ?_
  refine aw_i2l d_La_worn_4 ?_
  refine aw_V_v (As := [.int (5 : Int32), .long ((a3).toInt64)]) (m_Fa_tell) cv_La_72 kd_19 rfl rfl rfl (Nat.le_of_ble_eq_true rfl) ⟨Nat.le_of_ble_eq_true rfl, Nat.le_of_ble_eq_true rfl⟩ ⟨Nat.le_refl _, Nat.le_refl _⟩ d_La_worn_5 (fun y5 => ?_)
  refine aw_aload_n d_La_worn_8 0 rfl ?_
  refine aw_iload_n d_La_worn_9 1 rfl ?_
  refine aw_iload_n d_La_worn_10 2 rfl ?_
  refine aw_aload d_La_worn_11 4 rfl ?_
  refine aw_V_n (As := [.int a1, .int a2, .ref 19]) (m_La_total ha0) cv_La_78 (fx_isLK ha0 0 (by decide)) rfl rfl rfl (Nat.le_of_ble_eq_true rfl) ⟨Nat.le_of_ble_eq_true rfl, Nat.le_of_ble_eq_true rfl⟩ ⟨Nat.le_refl _, Nat.le_refl _⟩ d_La_worn_13 (fun y13 => ?_)
  refine aw_bL (fun v13 => ?_)
  refine aw_bD (fun δ_13 => ?_)
  refine aw_lconst d_La_worn_16 kl_0 ?_
  refine aw_ldc2 (v := (1000 : Int64)) d_La_worn_17 kc_La_82 ?_
  refine aw_SN_l (As := [.long v13, .long (0 : Int64), .long (1000 : Int64)]) (m_Fp_held) cs_La_84 rfl rfl (Nat.le_of_ble_eq_true rfl) ⟨Nat.le_of_ble_eq_true rfl, Nat.le_of_ble_eq_true rfl⟩ ⟨Nat.le_refl _, Nat.le_refl _⟩ d_La_worn_20 (fun y20 => ?_)
  refine aw_l2i d_La_worn_23 ?_
  refine aw_bI (fun v24 => ?_)
  refine aw_istore (lo' := [(5, .int v24), (0, .ref a0), (1, .int a1), (2, .int a2), (3, .int a3), (4, .ref 19)]) d_La_worn_24 (by decide) rfl ?_
  refine aw_aload d_La_worn_26 5 rfl ?_
  refine aw_iconst d_La_worn_28 ki_5 ?_
  refine aw_lconst d_La_worn_29 kl_0 ?_
  refine aw_V_v (As := [.int (5 : Int32), .long (0 : Int64)]) (m_Fa_tell) cv_La_72 kd_19 rfl rfl rfl (Nat.le_of_ble_eq_true rfl) ⟨Nat.le_of_ble_eq_true rfl, Nat.le_of_ble_eq_true rfl⟩ ⟨Nat.le_refl _, Nat.le_refl _⟩ d_La_worn_30 (fun y30 => ?_)
  refine aw_iconst d_La_worn_33 ki_0 ?_
  refine aw_iload_n d_La_worn_34 4 rfl ?_
  refine aw_iload d_La_worn_35 0 rfl ?_
  refine aw_isub d_La_worn_37 ?_
  refine aw_maxI ml_La_88 ms_maxI mi_Ma mx_maxI (Nat.le_of_ble_eq_true rfl) (Nat.le_of_ble_eq_true rfl) ⟨Nat.le_refl _, Nat.le_refl _⟩ d_La_worn_38 ?_
  exact aw_iret rfl rfl ⟨Nat.le_refl _, Nat.le_refl _⟩ d_La_worn_41
def lp_La_wear_3 (kx3_35 : Int32 → Dm → Option Dm) (a0 : Nat) (a1 : Int32) (a2 : Nat) : Nat → Int32 → Dm → Option Dm
  | 0, _, _ => none
  | f + 1, v4_3, δ3 => (if (3 : Int32) ≤ v4_3 then (kx3_35 v4_3 δ3) else ((f_Fp_get a2 v4_3 δ3).bind (fun y19 => ((f_La_worn a0 a1 v4_3 y19 δ3).bind (fun y23 => bnd y23.1 (fun v23 => bnd y23.2 (fun δ_23 => ((f_Fp_put a2 v4_3 v23 δ_23).bind (fun y26 => (lp_La_wear_3 kx3_35 a0 a1 a2 f (v4_3 + (1 : Int32)) y26))))))))))
set_option maxHeartbeats 4000000 in
set_option maxRecDepth 100000 in
theorem tl_La_wear_3 {n : Nat} (kx3_35 : Int32 → Dm → Option Dm) (a0 : Nat) (a1 : Int32) (a2 : Nat) (ha0 : isL a0 = true) (ha2 : (KD a2).1 = 1) (hkx3_35 : ∀ v4_3k δ3k, AWo k_La_wear 5 0 0 35 [(0, .ref a0), (1, .int a1), (2, .ref a2), (3, .ref 19), (4, .int v4_3k)] [] δ3k RT n 0 0 (Kv RT n) (kx3_35 v4_3k δ3k)) : ∀ (f : Nat) (v4_3 : Int32) (δ3 : Dm), AWo k_La_wear 5 0 0 3 [(0, .ref a0), (1, .int a1), (2, .ref a2), (3, .ref 19), (4, .int v4_3)] [] δ3 RT n 0 0 (Kv RT n) (lp_La_wear_3 kx3_35 a0 a1 a2 f v4_3 δ3) := by
  intro f
  induction f with
  | zero => intro _ _; exact aw_none
  | succ f ih =>
    intro v4_3 δ3
    rw [lp_La_wear_3]
    refine aw_iload d_La_wear_3 4 rfl ?_
    refine aw_iconst d_La_wear_5 ki_3 ?_
    refine aw_icmp_ge (tgt := 35) d_La_wear_6 rfl (fun q6 => ?_) (fun q6 => ?_)
    · refine aw_sub (lo' := [(0, .ref a0), (1, .int a1), (2, .ref a2), (3, .ref 19), (4, .int v4_3)]) [0, 1, 2, 3, 4] rfl ?_
      exact hkx3_35 _ _
    · refine aw_aload_n d_La_wear_9 2 rfl ?_
      refine aw_iload d_La_wear_10 4 rfl ?_
      refine aw_aload_n d_La_wear_12 0 rfl ?_
      refine aw_iload_n d_La_wear_13 1 rfl ?_
      refine aw_iload d_La_wear_14 4 rfl ?_
      refine aw_aload_n d_La_wear_16 2 rfl ?_
      refine aw_iload d_La_wear_17 4 rfl ?_
      refine aw_SN_p (As := [.ref a2, .int v4_3]) (m_Fp_get ha2) cs_La_50 rfl rfl (Nat.le_of_ble_eq_true rfl) ⟨Nat.le_of_ble_eq_true rfl, Nat.le_of_ble_eq_true rfl⟩ ⟨Nat.le_refl _, Nat.le_refl _⟩ d_La_wear_19 (fun y19 => ?_)
      refine aw_aload_n d_La_wear_22 3 rfl ?_
      refine aw_V_m (As := [.int a1, .int v4_3, .int y19, .ref 19]) (m_La_worn ha0) cv_La_68 (fx_isLK ha0 0 (by decide)) rfl rfl rfl (Nat.le_of_ble_eq_true rfl) ⟨Nat.le_of_ble_eq_true rfl, Nat.le_of_ble_eq_true rfl⟩ ⟨Nat.le_refl _, Nat.le_refl _⟩ d_La_wear_23 (fun y23 => ?_)
      refine aw_bI (fun v23 => ?_)
      refine aw_bD (fun δ_23 => ?_)
      refine aw_SN_v (As := [.ref a2, .int v4_3, .int v23]) (m_Fp_put ha2) cs_La_46 rfl rfl (Nat.le_of_ble_eq_true rfl) ⟨Nat.le_of_ble_eq_true rfl, Nat.le_of_ble_eq_true rfl⟩ ⟨Nat.le_refl _, Nat.le_refl _⟩ d_La_wear_26 (fun y26 => ?_)
      refine aw_iinc (v := (v4_3 + (1 : Int32))) (lo' := [(4, .int (v4_3 + (1 : Int32))), (0, .ref a0), (1, .int a1), (2, .ref a2), (3, .ref 19)]) d_La_wear_29 4 rfl (by rw [show Int32.ofInt (1) = (1 : Int32) from by decide]) (by decide) rfl ?_
      refine aw_goto (tgt := 3) d_La_wear_32 rfl ?_
      refine aw_sub (lo' := [(0, .ref a0), (1, .int a1), (2, .ref a2), (3, .ref 19), (4, .int (v4_3 + (1 : Int32)))]) [1, 2, 3, 4, 0] rfl ?_
      exact ih _ _
def f_La_wear (a0 : Nat) (a1 : Int32) (a2 : Nat) (δ : Dm) : Option Dm := (lp_La_wear_3 (fun v4_3x δ3x => (some δ3x)) a0 a1 a2 FU (0 : Int32) δ)
set_option maxHeartbeats 4000000 in
set_option maxRecDepth 100000 in
theorem m_La_wear {a0 : Nat} {a1 : Int32} {a2 : Nat} {δ : Dm} {n : Nat} (ha0 : isL a0 = true) (ha2 : (KD a2).1 = 1) : ∀ x, f_La_wear a0 a1 a2 δ = some x → AMet k_La_wear 5 0 0 [.ref a0, .int a1, .ref a2, .ref 19] δ RT n (Kv RT n x) := by
  refine aw_start (lo := [(0, .ref a0), (1, .int a1), (2, .ref a2), (3, .ref 19)]) mok_La_wear rfl (Nat.le_of_ble_eq_true rfl) ?_
  unfold f_La_wear
  refine aw_iconst d_La_wear_0 ki_0 ?_
  refine aw_istore (lo' := [(4, .int (0 : Int32)), (0, .ref a0), (1, .int a1), (2, .ref a2), (3, .ref 19)]) d_La_wear_1 (by decide) rfl ?_
  refine aw_sub (lo' := [(0, .ref a0), (1, .int a1), (2, .ref a2), (3, .ref 19), (4, .int (0 : Int32))]) [1, 2, 3, 4, 0] rfl ?_
  refine tl_La_wear_3 _ _ _ _ ha0 ha2 (fun v4_3x δ3x => ?_) FU _ _
  · exact aw_vret rfl rfl ⟨Nat.le_refl _, Nat.le_refl _⟩ d_La_wear_35
def f_Di_addEvent (a1 : Int32) (a2 : Int32) (a3 : Int32) (δ : Dm) : Option Dm := (if (900 : Int32) ≤ (gI δ 34 2) then (some δ) else ((f_Fp_put 42 (gI δ 34 2) a1 δ).bind (fun y19 => ((f_Fp_put 43 (gI y19 34 2) a2 y19).bind (fun y31 => ((f_Fp_put 44 (gI y31 34 2) a3 y31).bind (fun y43 => (bnd (sI y43 34 2 ((gI y43 34 2) + (1 : Int32))) (fun δ_53 => (some δ_53))))))))))
set_option maxHeartbeats 4000000 in
set_option maxRecDepth 100000 in
theorem m_Di_addEvent {a1 : Int32} {a2 : Int32} {a3 : Int32} {δ : Dm} {n : Nat} : ∀ x, f_Di_addEvent a1 a2 a3 δ = some x → AMet k_Di_addEvent 2 0 0 [.ref 34, .int a1, .int a2, .int a3] δ RT n (Kv RT n x) := by
  refine aw_start (lo := [(0, .ref 34), (1, .int a1), (2, .int a2), (3, .int a3)]) mok_Di_addEvent rfl (Nat.le_of_ble_eq_true rfl) ?_
  unfold f_Di_addEvent
  refine aw_aload_n d_Di_addEvent_0 0 rfl ?_
  refine aw_getI fl_Di_49 kd_34 d_Di_addEvent_1 ?_
  refine aw_sipush d_Di_addEvent_4 ks_900 ?_
  refine aw_icmp_ge (tgt := 56) d_Di_addEvent_7 rfl (fun q7 => ?_) (fun q7 => ?_)
  · exact aw_vret rfl rfl ⟨Nat.le_refl _, Nat.le_refl _⟩ d_Di_addEvent_56
  · refine aw_aload_n d_Di_addEvent_10 0 rfl ?_
    refine aw_getR (t := 42) fl_Di_33 kd_34 rt_34_10 d_Di_addEvent_11 ?_
    refine aw_aload_n d_Di_addEvent_14 0 rfl ?_
    refine aw_getI fl_Di_49 kd_34 d_Di_addEvent_15 ?_
    refine aw_iload_n d_Di_addEvent_18 1 rfl ?_
    refine aw_SN_v (As := [.ref 42, .int (gI δ 34 2), .int a1]) (m_Fp_put (congrArg Prod.fst kd_42)) cs_Di_56 rfl rfl (Nat.le_of_ble_eq_true rfl) ⟨Nat.le_of_ble_eq_true rfl, Nat.le_of_ble_eq_true rfl⟩ ⟨Nat.le_refl _, Nat.le_refl _⟩ d_Di_addEvent_19 (fun y19 => ?_)
    refine aw_aload_n d_Di_addEvent_22 0 rfl ?_
    refine aw_getR (t := 43) fl_Di_36 kd_34 rt_34_11 d_Di_addEvent_23 ?_
    refine aw_aload_n d_Di_addEvent_26 0 rfl ?_
    refine aw_getI fl_Di_49 kd_34 d_Di_addEvent_27 ?_
    refine aw_iload_n d_Di_addEvent_30 2 rfl ?_
    refine aw_SN_v (As := [.ref 43, .int (gI y19 34 2), .int a2]) (m_Fp_put (congrArg Prod.fst kd_43)) cs_Di_56 rfl rfl (Nat.le_of_ble_eq_true rfl) ⟨Nat.le_of_ble_eq_true rfl, Nat.le_of_ble_eq_true rfl⟩ ⟨Nat.le_refl _, Nat.le_refl _⟩ d_Di_addEvent_31 (fun y31 => ?_)
    refine aw_aload_n d_Di_addEvent_34 0 rfl ?_
    refine aw_getR (t := 44) fl_Di_39 kd_34 rt_34_12 d_Di_addEvent_35 ?_
    refine aw_aload_n d_Di_addEvent_38 0 rfl ?_
    refine aw_getI fl_Di_49 kd_34 d_Di_addEvent_39 ?_
    refine aw_iload_n d_Di_addEvent_42 3 rfl ?_
    refine aw_SN_v (As := [.ref 44, .int (gI y31 34 2), .int a3]) (m_Fp_put (congrArg Prod.fst kd_44)) cs_Di_56 rfl rfl (Nat.le_of_ble_eq_true rfl) ⟨Nat.le_of_ble_eq_true rfl, Nat.le_of_ble_eq_true rfl⟩ ⟨Nat.le_refl _, Nat.le_refl _⟩ d_Di_addEvent_43 (fun y43 => ?_)
    refine aw_aload_n d_Di_addEvent_46 0 rfl ?_
    refine aw_dup d_Di_addEvent_47 rfl ?_
    refine aw_getI fl_Di_49 kd_34 d_Di_addEvent_48 ?_
    refine aw_iconst d_Di_addEvent_51 ki_1 ?_
    refine aw_iadd d_Di_addEvent_52 ?_
    refine aw_putI pf_Di_49 kd_34 d_Di_addEvent_53 ?_
    refine aw_bD (fun δ_53 => ?_)
    exact aw_vret rfl rfl ⟨Nat.le_refl _, Nat.le_refl _⟩ d_Di_addEvent_56
def f_Di_addStrip (a1 : Int32) (a2 : Int32) (a3 : Int32) (δ : Dm) : Option Dm := ((f_Fp_put 35 (gI δ 34 0) a1 δ).bind (fun y9 => ((f_Fp_put 36 (gI y9 34 0) a2 y9).bind (fun y21 => ((f_Fp_put 37 (gI y21 34 0) a3 y21).bind (fun y33 => ((f_Di_addEvent a1 a2 (gI y33 34 0) y33).bind (fun y43 => (bnd (sI y43 34 0 ((gI y43 34 0) + (1 : Int32))) (fun δ_53 => (some δ_53)))))))))))
set_option maxHeartbeats 4000000 in
set_option maxRecDepth 100000 in
theorem m_Di_addStrip {a1 : Int32} {a2 : Int32} {a3 : Int32} {δ : Dm} {n : Nat} : ∀ x, f_Di_addStrip a1 a2 a3 δ = some x → AMet k_Di_addStrip 3 0 0 [.ref 34, .int a1, .int a2, .int a3] δ RT n (Kv RT n x) := by
  refine aw_start (lo := [(0, .ref 34), (1, .int a1), (2, .int a2), (3, .int a3)]) mok_Di_addStrip rfl (Nat.le_of_ble_eq_true rfl) ?_
  unfold f_Di_addStrip
  refine aw_aload_n d_Di_addStrip_0 0 rfl ?_
  refine aw_getR (t := 35) fl_Di_11 kd_34 rt_34_3 d_Di_addStrip_1 ?_
  refine aw_aload_n d_Di_addStrip_4 0 rfl ?_
  refine aw_getI fl_Di_42 kd_34 d_Di_addStrip_5 ?_
  refine aw_iload_n d_Di_addStrip_8 1 rfl ?_
  refine aw_SN_v (As := [.ref 35, .int (gI δ 34 0), .int a1]) (m_Fp_put (congrArg Prod.fst kd_35)) cs_Di_56 rfl rfl (Nat.le_of_ble_eq_true rfl) ⟨Nat.le_of_ble_eq_true rfl, Nat.le_of_ble_eq_true rfl⟩ ⟨Nat.le_refl _, Nat.le_refl _⟩ d_Di_addStrip_9 (fun y9 => ?_)
  refine aw_aload_n d_Di_addStrip_12 0 rfl ?_
  refine aw_getR (t := 36) fl_Di_15 kd_34 rt_34_4 d_Di_addStrip_13 ?_
  refine aw_aload_n d_Di_addStrip_16 0 rfl ?_
  refine aw_getI fl_Di_42 kd_34 d_Di_addStrip_17 ?_
  refine aw_iload_n d_Di_addStrip_20 2 rfl ?_
  refine aw_SN_v (As := [.ref 36, .int (gI y9 34 0), .int a2]) (m_Fp_put (congrArg Prod.fst kd_36)) cs_Di_56 rfl rfl (Nat.le_of_ble_eq_true rfl) ⟨Nat.le_of_ble_eq_true rfl, Nat.le_of_ble_eq_true rfl⟩ ⟨Nat.le_refl _, Nat.le_refl _⟩ d_Di_addStrip_21 (fun y21 => ?_)
  refine aw_aload_n d_Di_addStrip_24 0 rfl ?_
  refine aw_getR (t := 37) fl_Di_18 kd_34 rt_34_5 d_Di_addStrip_25 ?_
  refine aw_aload_n d_Di_addStrip_28 0 rfl ?_
  refine aw_getI fl_Di_42 kd_34 d_Di_addStrip_29 ?_
  refine aw_iload_n d_Di_addStrip_32 3 rfl ?_
  refine aw_SN_v (As := [.ref 37, .int (gI y21 34 0), .int a3]) (m_Fp_put (congrArg Prod.fst kd_37)) cs_Di_56 rfl rfl (Nat.le_of_ble_eq_true rfl) ⟨Nat.le_of_ble_eq_true rfl, Nat.le_of_ble_eq_true rfl⟩ ⟨Nat.le_refl _, Nat.le_refl _⟩ d_Di_addStrip_33 (fun y33 => ?_)
  refine aw_aload_n d_Di_addStrip_36 0 rfl ?_
  refine aw_iload_n d_Di_addStrip_37 1 rfl ?_
  refine aw_iload_n d_Di_addStrip_38 2 rfl ?_
  refine aw_aload_n d_Di_addStrip_39 0 rfl ?_
  refine aw_getI fl_Di_42 kd_34 d_Di_addStrip_40 ?_
  refine aw_V_v (As := [.int a1, .int a2, .int (gI y33 34 0)]) (m_Di_addEvent) cv_Di_60 kd_34 rfl rfl rfl (Nat.le_of_ble_eq_true rfl) ⟨Nat.le_of_ble_eq_true rfl, Nat.le_of_ble_eq_true rfl⟩ ⟨Nat.le_refl _, Nat.le_refl _⟩ d_Di_addStrip_43 (fun y43 => ?_)
  refine aw_aload_n d_Di_addStrip_46 0 rfl ?_
  refine aw_dup d_Di_addStrip_47 rfl ?_
  refine aw_getI fl_Di_42 kd_34 d_Di_addStrip_48 ?_
  refine aw_iconst d_Di_addStrip_51 ki_1 ?_
  refine aw_iadd d_Di_addStrip_52 ?_
  refine aw_putI pf_Di_42 kd_34 d_Di_addStrip_53 ?_
  refine aw_bD (fun δ_53 => ?_)
  exact aw_vret rfl rfl ⟨Nat.le_refl _, Nat.le_refl _⟩ d_Di_addStrip_56
def f_Di_tellStrip (a1 : Int32) (a2 : Int32) (a3 : Int32) (a4 : Int32) (δ : Dm) : Option Dm := ((f_Fp_put 38 ((gI δ 34 0) - (1 : Int32)) a1 δ).bind (fun y11 => ((f_Fp_put 39 ((gI y11 34 0) - (1 : Int32)) a2 y11).bind (fun y25 => ((f_Fp_put 40 ((gI y25 34 0) - (1 : Int32)) a3 y25).bind (fun y39 => ((f_Fp_put 41 ((gI y39 34 0) - (1 : Int32)) a4 y39).bind (fun y54 => (some y54)))))))))
set_option maxHeartbeats 4000000 in
set_option maxRecDepth 100000 in
theorem m_Di_tellStrip {a1 : Int32} {a2 : Int32} {a3 : Int32} {a4 : Int32} {δ : Dm} {n : Nat} : ∀ x, f_Di_tellStrip a1 a2 a3 a4 δ = some x → AMet k_Di_tellStrip 2 0 0 [.ref 34, .int a1, .int a2, .int a3, .int a4] δ RT n (Kv RT n x) := by
  refine aw_start (lo := [(0, .ref 34), (1, .int a1), (2, .int a2), (3, .int a3), (4, .int a4)]) mok_Di_tellStrip rfl (Nat.le_of_ble_eq_true rfl) ?_
  unfold f_Di_tellStrip
  refine aw_aload_n d_Di_tellStrip_0 0 rfl ?_
  refine aw_getR (t := 38) fl_Di_21 kd_34 rt_34_6 d_Di_tellStrip_1 ?_
  refine aw_aload_n d_Di_tellStrip_4 0 rfl ?_
  refine aw_getI fl_Di_42 kd_34 d_Di_tellStrip_5 ?_
  refine aw_iconst d_Di_tellStrip_8 ki_1 ?_
  refine aw_isub d_Di_tellStrip_9 ?_
  refine aw_iload_n d_Di_tellStrip_10 1 rfl ?_
  refine aw_SN_v (As := [.ref 38, .int ((gI δ 34 0) - (1 : Int32)), .int a1]) (m_Fp_put (congrArg Prod.fst kd_38)) cs_Di_56 rfl rfl (Nat.le_of_ble_eq_true rfl) ⟨Nat.le_of_ble_eq_true rfl, Nat.le_of_ble_eq_true rfl⟩ ⟨Nat.le_refl _, Nat.le_refl _⟩ d_Di_tellStrip_11 (fun y11 => ?_)
  refine aw_aload_n d_Di_tellStrip_14 0 rfl ?_
  refine aw_getR (t := 39) fl_Di_24 kd_34 rt_34_7 d_Di_tellStrip_15 ?_
  refine aw_aload_n d_Di_tellStrip_18 0 rfl ?_
  refine aw_getI fl_Di_42 kd_34 d_Di_tellStrip_19 ?_
  refine aw_iconst d_Di_tellStrip_22 ki_1 ?_
  refine aw_isub d_Di_tellStrip_23 ?_
  refine aw_iload_n d_Di_tellStrip_24 2 rfl ?_
  refine aw_SN_v (As := [.ref 39, .int ((gI y11 34 0) - (1 : Int32)), .int a2]) (m_Fp_put (congrArg Prod.fst kd_39)) cs_Di_56 rfl rfl (Nat.le_of_ble_eq_true rfl) ⟨Nat.le_of_ble_eq_true rfl, Nat.le_of_ble_eq_true rfl⟩ ⟨Nat.le_refl _, Nat.le_refl _⟩ d_Di_tellStrip_25 (fun y25 => ?_)
  refine aw_aload_n d_Di_tellStrip_28 0 rfl ?_
  refine aw_getR (t := 40) fl_Di_27 kd_34 rt_34_8 d_Di_tellStrip_29 ?_
  refine aw_aload_n d_Di_tellStrip_32 0 rfl ?_
  refine aw_getI fl_Di_42 kd_34 d_Di_tellStrip_33 ?_
  refine aw_iconst d_Di_tellStrip_36 ki_1 ?_
  refine aw_isub d_Di_tellStrip_37 ?_
  refine aw_iload_n d_Di_tellStrip_38 3 rfl ?_
  refine aw_SN_v (As := [.ref 40, .int ((gI y25 34 0) - (1 : Int32)), .int a3]) (m_Fp_put (congrArg Prod.fst kd_40)) cs_Di_56 rfl rfl (Nat.le_of_ble_eq_true rfl) ⟨Nat.le_of_ble_eq_true rfl, Nat.le_of_ble_eq_true rfl⟩ ⟨Nat.le_refl _, Nat.le_refl _⟩ d_Di_tellStrip_39 (fun y39 => ?_)
  refine aw_aload_n d_Di_tellStrip_42 0 rfl ?_
  refine aw_getR (t := 41) fl_Di_30 kd_34 rt_34_9 d_Di_tellStrip_43 ?_
  refine aw_aload_n d_Di_tellStrip_46 0 rfl ?_
  refine aw_getI fl_Di_42 kd_34 d_Di_tellStrip_47 ?_
  refine aw_iconst d_Di_tellStrip_50 ki_1 ?_
  refine aw_isub d_Di_tellStrip_51 ?_
  refine aw_iload d_Di_tellStrip_52 4 rfl ?_
  refine aw_SN_v (As := [.ref 41, .int ((gI y39 34 0) - (1 : Int32)), .int a4]) (m_Fp_put (congrArg Prod.fst kd_41)) cs_Di_56 rfl rfl (Nat.le_of_ble_eq_true rfl) ⟨Nat.le_of_ble_eq_true rfl, Nat.le_of_ble_eq_true rfl⟩ ⟨Nat.le_refl _, Nat.le_refl _⟩ d_Di_tellStrip_54 (fun y54 => ?_)
  exact aw_vret rfl rfl ⟨Nat.le_refl _, Nat.le_refl _⟩ d_Di_tellStrip_57
def f_Fp_strip (a1 : Int32) (a2 : Int32) (a3 : Int32) (δ : Dm) : Option (Int32 × Dm) := ((f_To_boothAt a1 δ).bind (fun o5 => ocs o5 (some ((-1 : Int32), δ)) (fun t5 => if isB t5 = true then (if (gI δ t5 4) < (1 : Int32) then (some ((-1 : Int32), δ)) else (if (gI δ 34 0) < (400 : Int32) then ((f_Fp_lawAt (gI δ t5 2) δ).bind (fun o48 => ocs o48 (some ((-1 : Int32), δ)) (fun t48 => if isL t48 = true then ((f_Fp_within a2 (1 : Int32) (99 : Int32) δ).bind (fun y62 => (if y62 = 0 then (some ((-1 : Int32), δ)) else ((f_Fp_within a3 (0 : Int32) (20 : Int32) δ).bind (fun y72 => (if y72 = 0 then (some ((-1 : Int32), δ)) else ((f_Fa_open t5 (gI δ 29 0) δ).bind (fun y97 => ((f_Fa_pose a2 a3 y97).bind (fun y106 => ((f_Fa_till (gI y106 t5 6) (gI y106 t5 5) y106).bind (fun y123 => ((f_La_spoiler t48 (t5 + 1) y123).bind (fun y137 => bnd y137.1 (fun v137 => bnd y137.2 (fun δ_137 => ((f_La_wear t48 (9 : Int32) (t5 + 1) δ_137).bind (fun y155 => ((f_Di_addStrip a1 (gI y155 29 0) v137 y155).bind (fun y175 => ((f_Di_tellStrip a2 a3 (gI y175 t5 6) (gI y175 t5 5) y175).bind (fun y197 => (bnd (sI y197 t5 4 ((gI y197 t5 4) - (1 : Int32))) (fun δ_208 => (bnd (sI δ_208 t5 5 ((gI δ_208 t5 5) + (gI δ_208 t5 1))) (fun δ_223 => (bnd (sI δ_223 t5 6 ((gI δ_223 t5 6) + (1 : Int32))) (fun δ_234 => (some (v137, δ_234)))))))))))))))))))))))))))))) else none))) else (some ((-1 : Int32), δ)))) else none)))
set_option maxHeartbeats 4000000 in
set_option maxRecDepth 100000 in
theorem m_Fp_strip {a1 : Int32} {a2 : Int32} {a3 : Int32} {δ : Dm} {n : Nat} : ∀ x, f_Fp_strip a1 a2 a3 δ = some x → AMet k_Fp_strip 6 0 0 [.ref 4, .int a1, .int a2, .int a3] δ RT n (Km RT n x) := by
  refine aw_start (lo := [(0, .ref 4), (1, .int a1), (2, .int a2), (3, .int a3)]) mok_Fp_strip rfl (Nat.le_of_ble_eq_true rfl) ?_
  unfold f_Fp_strip
  refine aw_aload_n d_Fp_strip_0 0 rfl ?_
  refine aw_getR (t := 29) fl_Fp_57 kd_4 rt_4_9 d_Fp_strip_1 ?_
  refine aw_iload_n d_Fp_strip_4 1 rfl ?_
  refine aw_V_r (As := [.int a1]) (m_To_boothAt) cv_Fp_139 kd_29 rfl rfl rfl (Nat.le_of_ble_eq_true rfl) ⟨Nat.le_of_ble_eq_true rfl, Nat.le_of_ble_eq_true rfl⟩ ⟨Nat.le_refl _, Nat.le_refl _⟩ d_Fp_strip_5 ?_ (fun t5 => ?_)
  · refine aw_astoreN (lo' := [(4, .null), (0, .ref 4), (1, .int a1), (2, .int a2), (3, .int a3)]) d_Fp_strip_8 (by decide) rfl ?_
    refine aw_aloadN d_Fp_strip_10 0 rfl ?_
    refine aw_ifnullN (tgt := 40) d_Fp_strip_12 rfl ?_
    refine aw_iconst d_Fp_strip_40 ki_m1 ?_
    exact aw_iret rfl rfl ⟨Nat.le_refl _, Nat.le_refl _⟩ d_Fp_strip_41
  · refine aw_grd (fun ht5 => ?_)
    refine aw_astore (lo' := [(4, .ref t5), (0, .ref 4), (1, .int a1), (2, .int a2), (3, .int a3)]) d_Fp_strip_8 (by decide) rfl ?_
    refine aw_aload d_Fp_strip_10 0 rfl ?_
    refine aw_ifnull d_Fp_strip_12 ?_
    refine aw_aload d_Fp_strip_15 0 rfl ?_
    refine aw_getI fl_Fp_145 (fx_isBK ht5 0 (by decide)) d_Fp_strip_17 ?_
    refine aw_iconst d_Fp_strip_20 ki_1 ?_
    refine aw_icmp_lt (tgt := 40) d_Fp_strip_21 rfl (fun q21 => ?_) (fun q21 => ?_)
    · refine aw_iconst d_Fp_strip_40 ki_m1 ?_
      exact aw_iret rfl rfl ⟨Nat.le_refl _, Nat.le_refl _⟩ d_Fp_strip_41
    · refine aw_aload_n d_Fp_strip_24 1 rfl ?_
      refine aw_getR (t := 29) fl_Fp_57 kd_4 rt_4_9 d_Fp_strip_25 ?_
      refine aw_getR (t := 34) fl_Fp_148 kd_29 rt_29_7 d_Fp_strip_28 ?_
      refine aw_getI fl_Fp_152 kd_34 d_Fp_strip_31 ?_
      refine aw_sipush d_Fp_strip_34 ks_400 ?_
      refine aw_icmp_lt (tgt := 42) d_Fp_strip_37 rfl (fun q37 => ?_) (fun q37 => ?_)
      · refine aw_aload_n d_Fp_strip_42 1 rfl ?_
        refine aw_aload d_Fp_strip_43 0 rfl ?_
        refine aw_getI fl_Fp_157 (fx_isBK ht5 0 (by decide)) d_Fp_strip_45 ?_
        refine aw_V_r (As := [.int (gI δ t5 2)]) (m_Fp_lawAt) cv_Fp_126 kd_4 rfl rfl rfl (Nat.le_of_ble_eq_true rfl) ⟨Nat.le_of_ble_eq_true rfl, Nat.le_of_ble_eq_true rfl⟩ ⟨Nat.le_refl _, Nat.le_refl _⟩ d_Fp_strip_48 ?_ (fun t48 => ?_)
        · refine aw_astoreN (lo' := [(5, .null), (4, .ref t5), (0, .ref 4), (1, .int a1), (2, .int a2), (3, .int a3)]) d_Fp_strip_51 (by decide) rfl ?_
          refine aw_aloadN d_Fp_strip_53 0 rfl ?_
          refine aw_ifnullN (tgt := 78) d_Fp_strip_55 rfl ?_
          refine aw_iconst d_Fp_strip_78 ki_m1 ?_
          exact aw_iret rfl rfl ⟨Nat.le_refl _, Nat.le_refl _⟩ d_Fp_strip_79
        · refine aw_grd (fun ht48 => ?_)
          refine aw_astore (lo' := [(5, .ref t48), (4, .ref t5), (0, .ref 4), (1, .int a1), (2, .int a2), (3, .int a3)]) d_Fp_strip_51 (by decide) rfl ?_
          refine aw_aload d_Fp_strip_53 0 rfl ?_
          refine aw_ifnull d_Fp_strip_55 ?_
          refine aw_iload_n d_Fp_strip_58 4 rfl ?_
          refine aw_iconst d_Fp_strip_59 ki_1 ?_
          refine aw_bipush d_Fp_strip_60 kb_99 ?_
          refine aw_S_p (As := [.int a2, .int (1 : Int32), .int (99 : Int32)]) (m_Fp_within) cs_Fp_70 rfl rfl (Nat.le_of_ble_eq_true rfl) ⟨Nat.le_of_ble_eq_true rfl, Nat.le_of_ble_eq_true rfl⟩ ⟨Nat.le_refl _, Nat.le_refl _⟩ d_Fp_strip_62 (fun y62 => ?_)
          refine aw_if_eq (tgt := 78) d_Fp_strip_65 rfl (fun q65 => ?_) (fun q65 => ?_)
          · refine aw_iconst d_Fp_strip_78 ki_m1 ?_
            exact aw_iret rfl rfl ⟨Nat.le_refl _, Nat.le_refl _⟩ d_Fp_strip_79
          · refine aw_iload_n d_Fp_strip_68 5 rfl ?_
            refine aw_iconst d_Fp_strip_69 ki_0 ?_
            refine aw_bipush d_Fp_strip_70 kb_20 ?_
            refine aw_S_p (As := [.int a3, .int (0 : Int32), .int (20 : Int32)]) (m_Fp_within) cs_Fp_70 rfl rfl (Nat.le_of_ble_eq_true rfl) ⟨Nat.le_of_ble_eq_true rfl, Nat.le_of_ble_eq_true rfl⟩ ⟨Nat.le_refl _, Nat.le_refl _⟩ d_Fp_strip_72 (fun y72 => ?_)
            refine aw_if_ne (tgt := 80) d_Fp_strip_75 rfl (fun q75 => ?_) (fun q75 => ?_)
            · refine aw_iconst d_Fp_strip_78 ki_m1 ?_
              exact aw_iret rfl rfl ⟨Nat.le_refl _, Nat.le_refl _⟩ d_Fp_strip_79
            · refine aw_aload_n d_Fp_strip_80 2 rfl ?_
              refine aw_getR (t := 19) fl_Fp_29 kd_4 rt_4_5 d_Fp_strip_81 ?_
              refine aw_aload_n d_Fp_strip_84 2 rfl ?_
              refine aw_getR (t := 29) fl_Fp_57 kd_4 rt_4_9 d_Fp_strip_85 ?_
              refine aw_aload d_Fp_strip_88 1 rfl ?_
              refine aw_aload_n d_Fp_strip_90 2 rfl ?_
              refine aw_getR (t := 29) fl_Fp_57 kd_4 rt_4_9 d_Fp_strip_91 ?_
              refine aw_getI fl_Fp_130 kd_29 d_Fp_strip_94 ?_
              refine aw_V_v (As := [.ref 29, .ref t5, .int (gI δ 29 0)]) (m_Fa_open ht5) cv_Fp_160 kd_19 rfl rfl rfl (Nat.le_of_ble_eq_true rfl) ⟨Nat.le_of_ble_eq_true rfl, Nat.le_of_ble_eq_true rfl⟩ ⟨Nat.le_refl _, Nat.le_refl _⟩ d_Fp_strip_97 (fun y97 => ?_)
              refine aw_aload_n d_Fp_strip_100 2 rfl ?_
              refine aw_getR (t := 19) fl_Fp_29 kd_4 rt_4_5 d_Fp_strip_101 ?_
              refine aw_iload_n d_Fp_strip_104 4 rfl ?_
              refine aw_iload_n d_Fp_strip_105 5 rfl ?_
              refine aw_V_v (As := [.int a2, .int a3]) (m_Fa_pose) cv_Fp_164 kd_19 rfl rfl rfl (Nat.le_of_ble_eq_true rfl) ⟨Nat.le_of_ble_eq_true rfl, Nat.le_of_ble_eq_true rfl⟩ ⟨Nat.le_refl _, Nat.le_refl _⟩ d_Fp_strip_106 (fun y106 => ?_)
              refine aw_aload_n d_Fp_strip_109 2 rfl ?_
              refine aw_getR (t := 19) fl_Fp_29 kd_4 rt_4_5 d_Fp_strip_110 ?_
              refine aw_aload d_Fp_strip_113 1 rfl ?_
              refine aw_getI fl_Fp_168 (fx_isBK ht5 0 (by decide)) d_Fp_strip_115 ?_
              refine aw_aload d_Fp_strip_118 1 rfl ?_
              refine aw_getI fl_Fp_171 (fx_isBK ht5 0 (by decide)) d_Fp_strip_120 ?_
              refine aw_V_v (As := [.int (gI y106 t5 6), .int (gI y106 t5 5)]) (m_Fa_till) cv_Fp_174 kd_19 rfl rfl rfl (Nat.le_of_ble_eq_true rfl) ⟨Nat.le_of_ble_eq_true rfl, Nat.le_of_ble_eq_true rfl⟩ ⟨Nat.le_refl _, Nat.le_refl _⟩ d_Fp_strip_123 (fun y123 => ?_)
              refine aw_aload d_Fp_strip_126 0 rfl ?_
              refine aw_aload d_Fp_strip_128 1 rfl ?_
              refine aw_getR (t := (t5 + 1)) fl_Fp_177 (fx_isBK ht5 0 (by decide)) (fx_isBR ht5 0 9 (by decide) (by decide)) d_Fp_strip_130 ?_
              refine aw_aload_n d_Fp_strip_133 2 rfl ?_
              refine aw_getR (t := 19) fl_Fp_29 kd_4 rt_4_5 d_Fp_strip_134 ?_
              refine aw_V_m (As := [.ref (t5 + 1), .ref 19]) (m_La_spoiler ht48 (congrArg Prod.fst (fx_isBK ht5 1 (by decide)))) cv_Fp_180 (fx_isLK ht48 0 (by decide)) rfl rfl rfl (Nat.le_of_ble_eq_true rfl) ⟨Nat.le_of_ble_eq_true rfl, Nat.le_of_ble_eq_true rfl⟩ ⟨Nat.le_refl _, Nat.le_refl _⟩ d_Fp_strip_137 (fun y137 => ?_)
              refine aw_bI (fun v137 => ?_)
              refine aw_bD (fun δ_137 => ?_)
              refine aw_istore (lo' := [(6, .int v137), (5, .ref t48), (4, .ref t5), (0, .ref 4), (1, .int a1), (2, .int a2), (3, .int a3)]) d_Fp_strip_140 (by decide) rfl ?_
              refine aw_aload d_Fp_strip_142 1 rfl ?_
              refine aw_bipush d_Fp_strip_144 kb_9 ?_
              refine aw_aload d_Fp_strip_146 2 rfl ?_
              refine aw_getR (t := (t5 + 1)) fl_Fp_177 (fx_isBK ht5 0 (by decide)) (fx_isBR ht5 0 9 (by decide) (by decide)) d_Fp_strip_148 ?_
              refine aw_aload_n d_Fp_strip_151 3 rfl ?_
              refine aw_getR (t := 19) fl_Fp_29 kd_4 rt_4_5 d_Fp_strip_152 ?_
              refine aw_V_v (As := [.int (9 : Int32), .ref (t5 + 1), .ref 19]) (m_La_wear ht48 (congrArg Prod.fst (fx_isBK ht5 1 (by decide)))) cv_Fp_186 (fx_isLK ht48 0 (by decide)) rfl rfl rfl (Nat.le_of_ble_eq_true rfl) ⟨Nat.le_of_ble_eq_true rfl, Nat.le_of_ble_eq_true rfl⟩ ⟨Nat.le_refl _, Nat.le_refl _⟩ d_Fp_strip_155 (fun y155 => ?_)
              refine aw_aload_n d_Fp_strip_158 3 rfl ?_
              refine aw_getR (t := 29) fl_Fp_57 kd_4 rt_4_9 d_Fp_strip_159 ?_
              refine aw_getR (t := 34) fl_Fp_148 kd_29 rt_29_7 d_Fp_strip_162 ?_
              refine aw_iload_n d_Fp_strip_165 4 rfl ?_
              refine aw_aload_n d_Fp_strip_166 3 rfl ?_
              refine aw_getR (t := 29) fl_Fp_57 kd_4 rt_4_9 d_Fp_strip_167 ?_
              refine aw_getI fl_Fp_130 kd_29 d_Fp_strip_170 ?_
              refine aw_iload d_Fp_strip_173 0 rfl ?_
              refine aw_V_v (As := [.int a1, .int (gI y155 29 0), .int v137]) (m_Di_addStrip) cv_Fp_190 kd_34 rfl rfl rfl (Nat.le_of_ble_eq_true rfl) ⟨Nat.le_of_ble_eq_true rfl, Nat.le_of_ble_eq_true rfl⟩ ⟨Nat.le_refl _, Nat.le_refl _⟩ d_Fp_strip_175 (fun y175 => ?_)
              refine aw_aload_n d_Fp_strip_178 3 rfl ?_
              refine aw_getR (t := 29) fl_Fp_57 kd_4 rt_4_9 d_Fp_strip_179 ?_
              refine aw_getR (t := 34) fl_Fp_148 kd_29 rt_29_7 d_Fp_strip_182 ?_
              refine aw_iload_n d_Fp_strip_185 5 rfl ?_
              refine aw_iload_n d_Fp_strip_186 6 rfl ?_
              refine aw_aload d_Fp_strip_187 2 rfl ?_
              refine aw_getI fl_Fp_168 (fx_isBK ht5 0 (by decide)) d_Fp_strip_189 ?_
              refine aw_aload d_Fp_strip_192 2 rfl ?_
              refine aw_getI fl_Fp_171 (fx_isBK ht5 0 (by decide)) d_Fp_strip_194 ?_
              refine aw_V_v (As := [.int a2, .int a3, .int (gI y175 t5 6), .int (gI y175 t5 5)]) (m_Di_tellStrip) cv_Fp_194 kd_34 rfl rfl rfl (Nat.le_of_ble_eq_true rfl) ⟨Nat.le_of_ble_eq_true rfl, Nat.le_of_ble_eq_true rfl⟩ ⟨Nat.le_refl _, Nat.le_refl _⟩ d_Fp_strip_197 (fun y197 => ?_)
              refine aw_aload d_Fp_strip_200 2 rfl ?_
              refine aw_dup d_Fp_strip_202 rfl ?_
              refine aw_getI fl_Fp_145 (fx_isBK ht5 0 (by decide)) d_Fp_strip_203 ?_
              refine aw_iconst d_Fp_strip_206 ki_1 ?_
              refine aw_isub d_Fp_strip_207 ?_
              refine aw_putI pf_Fp_145 (fx_isBK ht5 0 (by decide)) d_Fp_strip_208 ?_
              refine aw_bD (fun δ_208 => ?_)
              refine aw_aload d_Fp_strip_211 2 rfl ?_
              refine aw_dup d_Fp_strip_213 rfl ?_
              refine aw_getI fl_Fp_171 (fx_isBK ht5 0 (by decide)) d_Fp_strip_214 ?_
              refine aw_aload d_Fp_strip_217 2 rfl ?_
              refine aw_getI fl_Fp_197 (fx_isBK ht5 0 (by decide)) d_Fp_strip_219 ?_
              refine aw_iadd d_Fp_strip_222 ?_
              refine aw_putI pf_Fp_171 (fx_isBK ht5 0 (by decide)) d_Fp_strip_223 ?_
              refine aw_bD (fun δ_223 => ?_)
              refine aw_aload d_Fp_strip_226 2 rfl ?_
              refine aw_dup d_Fp_strip_228 rfl ?_
              refine aw_getI fl_Fp_168 (fx_isBK ht5 0 (by decide)) d_Fp_strip_229 ?_
              refine aw_iconst d_Fp_strip_232 ki_1 ?_
              refine aw_iadd d_Fp_strip_233 ?_
              refine aw_putI pf_Fp_168 (fx_isBK ht5 0 (by decide)) d_Fp_strip_234 ?_
              refine aw_bD (fun δ_234 => ?_)
              refine aw_iload d_Fp_strip_237 0 rfl ?_
              exact aw_iret rfl rfl ⟨Nat.le_refl _, Nat.le_refl _⟩ d_Fp_strip_239
      · refine aw_iconst d_Fp_strip_40 ki_m1 ?_
        exact aw_iret rfl rfl ⟨Nat.le_refl _, Nat.le_refl _⟩ d_Fp_strip_41
def lp_Fp_ageAll_2 (kx2_94 : Int32 → Dm → Option Dm) (a1 : Int32) : Nat → Int32 → Dm → Option Dm
  | 0, _, _ => none
  | f + 1, v2_2, δ2 => (if (gI δ2 29 2) ≤ v2_2 then (kx2_94 v2_2 δ2) else ((f_To_boothAt v2_2 δ2).bind (fun o18 => ocs o18 (lp_Fp_ageAll_2 kx2_94 a1 f (v2_2 + (1 : Int32)) δ2) (fun t18 => if isB t18 = true then ((f_Fp_lawAt (gI δ2 t18 2) δ2).bind (fun o35 => ocs o35 (lp_Fp_ageAll_2 kx2_94 a1 f (v2_2 + (1 : Int32)) δ2) (fun t35 => if isL t35 = true then ((f_Fa_open t18 a1 δ2).bind (fun y55 => ((f_Fa_till (gI y55 t18 6) (gI y55 t18 5) y55).bind (fun y70 => ((f_La_wear t35 (10 : Int32) (t18 + 1) y70).bind (fun y85 => (lp_Fp_ageAll_2 kx2_94 a1 f (v2_2 + (1 : Int32)) y85))))))) else none))) else none))))
set_option maxHeartbeats 4000000 in
set_option maxRecDepth 100000 in
theorem tl_Fp_ageAll_2 {n : Nat} (kx2_94 : Int32 → Dm → Option Dm) (a1 : Int32) (hkx2_94 : ∀ v2_2k δ2k, AWo k_Fp_ageAll 6 0 0 94 [(0, .ref 4), (1, .int a1), (2, .int v2_2k)] [] δ2k RT n 0 0 (Kv RT n) (kx2_94 v2_2k δ2k)) : ∀ (f : Nat) (v2_2 : Int32) (δ2 : Dm), AWo k_Fp_ageAll 6 0 0 2 [(0, .ref 4), (1, .int a1), (2, .int v2_2)] [] δ2 RT n 0 0 (Kv RT n) (lp_Fp_ageAll_2 kx2_94 a1 f v2_2 δ2) := by
  intro f
  induction f with
  | zero => intro _ _; exact aw_none
  | succ f ih =>
    intro v2_2 δ2
    rw [lp_Fp_ageAll_2]
    refine aw_iload_n d_Fp_ageAll_2 2 rfl ?_
    refine aw_aload_n d_Fp_ageAll_3 0 rfl ?_
    refine aw_getR (t := 29) fl_Fp_57 kd_4 rt_4_9 d_Fp_ageAll_4 ?_
    refine aw_getI fl_Fp_116 kd_29 d_Fp_ageAll_7 ?_
    refine aw_icmp_ge (tgt := 94) d_Fp_ageAll_10 rfl (fun q10 => ?_) (fun q10 => ?_)
    · refine aw_sub (lo' := [(0, .ref 4), (1, .int a1), (2, .int v2_2)]) [0, 1, 2] rfl ?_
      exact hkx2_94 _ _
    · refine aw_aload_n d_Fp_ageAll_13 0 rfl ?_
      refine aw_getR (t := 29) fl_Fp_57 kd_4 rt_4_9 d_Fp_ageAll_14 ?_
      refine aw_iload_n d_Fp_ageAll_17 2 rfl ?_
      refine aw_V_r (As := [.int v2_2]) (m_To_boothAt) cv_Fp_139 kd_29 rfl rfl rfl (Nat.le_of_ble_eq_true rfl) ⟨Nat.le_of_ble_eq_true rfl, Nat.le_of_ble_eq_true rfl⟩ ⟨Nat.le_refl _, Nat.le_refl _⟩ d_Fp_ageAll_18 ?_ (fun t18 => ?_)
      · refine aw_astoreN_n (lo' := [(3, .null), (0, .ref 4), (1, .int a1), (2, .int v2_2)]) d_Fp_ageAll_21 rfl (by decide) rfl ?_
        refine aw_aloadN_n d_Fp_ageAll_22 0 rfl ?_
        refine aw_ifnonnullN d_Fp_ageAll_23 ?_
        refine aw_null d_Fp_ageAll_26 ?_
        refine aw_goto (tgt := 38) d_Fp_ageAll_27 rfl ?_
        refine aw_astoreN (lo' := [(4, .null), (3, .null), (0, .ref 4), (1, .int a1), (2, .int v2_2)]) d_Fp_ageAll_38 (by decide) rfl ?_
        refine aw_aloadN d_Fp_ageAll_40 0 rfl ?_
        refine aw_ifnullN (tgt := 88) d_Fp_ageAll_42 rfl ?_
        refine aw_iinc (v := (v2_2 + (1 : Int32))) (lo' := [(2, .int (v2_2 + (1 : Int32))), (4, .null), (3, .null), (0, .ref 4), (1, .int a1)]) d_Fp_ageAll_88 4 rfl (by rw [show Int32.ofInt (1) = (1 : Int32) from by decide]) (by decide) rfl ?_
        refine aw_goto (tgt := 2) d_Fp_ageAll_91 rfl ?_
        refine aw_sub (lo' := [(0, .ref 4), (1, .int a1), (2, .int (v2_2 + (1 : Int32)))]) [3, 4, 0] rfl ?_
        exact ih _ _
      · refine aw_grd (fun ht18 => ?_)
        refine aw_astore_n (lo' := [(3, .ref t18), (0, .ref 4), (1, .int a1), (2, .int v2_2)]) d_Fp_ageAll_21 rfl (by decide) rfl ?_
        refine aw_aload_n d_Fp_ageAll_22 0 rfl ?_
        refine aw_ifnonnull (tgt := 30) d_Fp_ageAll_23 rfl ?_
        refine aw_aload_n d_Fp_ageAll_30 1 rfl ?_
        refine aw_aload_n d_Fp_ageAll_31 0 rfl ?_
        refine aw_getI fl_Fp_157 (fx_isBK ht18 0 (by decide)) d_Fp_ageAll_32 ?_
        refine aw_V_r (As := [.int (gI δ2 t18 2)]) (m_Fp_lawAt) cv_Fp_126 kd_4 rfl rfl rfl (Nat.le_of_ble_eq_true rfl) ⟨Nat.le_of_ble_eq_true rfl, Nat.le_of_ble_eq_true rfl⟩ ⟨Nat.le_refl _, Nat.le_refl _⟩ d_Fp_ageAll_35 ?_ (fun t35 => ?_)
        · refine aw_astoreN (lo' := [(4, .null), (3, .ref t18), (0, .ref 4), (1, .int a1), (2, .int v2_2)]) d_Fp_ageAll_38 (by decide) rfl ?_
          refine aw_aloadN d_Fp_ageAll_40 0 rfl ?_
          refine aw_ifnullN (tgt := 88) d_Fp_ageAll_42 rfl ?_
          refine aw_iinc (v := (v2_2 + (1 : Int32))) (lo' := [(2, .int (v2_2 + (1 : Int32))), (4, .null), (3, .ref t18), (0, .ref 4), (1, .int a1)]) d_Fp_ageAll_88 4 rfl (by rw [show Int32.ofInt (1) = (1 : Int32) from by decide]) (by decide) rfl ?_
          refine aw_goto (tgt := 2) d_Fp_ageAll_91 rfl ?_
          refine aw_sub (lo' := [(0, .ref 4), (1, .int a1), (2, .int (v2_2 + (1 : Int32)))]) [3, 4, 0] rfl ?_
          exact ih _ _
        · refine aw_grd (fun ht35 => ?_)
          refine aw_astore (lo' := [(4, .ref t35), (3, .ref t18), (0, .ref 4), (1, .int a1), (2, .int v2_2)]) d_Fp_ageAll_38 (by decide) rfl ?_
          refine aw_aload d_Fp_ageAll_40 0 rfl ?_
          refine aw_ifnull d_Fp_ageAll_42 ?_
          refine aw_aload_n d_Fp_ageAll_45 2 rfl ?_
          refine aw_getR (t := 19) fl_Fp_29 kd_4 rt_4_5 d_Fp_ageAll_46 ?_
          refine aw_aload_n d_Fp_ageAll_49 2 rfl ?_
          refine aw_getR (t := 29) fl_Fp_57 kd_4 rt_4_9 d_Fp_ageAll_50 ?_
          refine aw_aload_n d_Fp_ageAll_53 1 rfl ?_
          refine aw_iload_n d_Fp_ageAll_54 3 rfl ?_
          refine aw_V_v (As := [.ref 29, .ref t18, .int a1]) (m_Fa_open ht18) cv_Fp_160 kd_19 rfl rfl rfl (Nat.le_of_ble_eq_true rfl) ⟨Nat.le_of_ble_eq_true rfl, Nat.le_of_ble_eq_true rfl⟩ ⟨Nat.le_refl _, Nat.le_refl _⟩ d_Fp_ageAll_55 (fun y55 => ?_)
          refine aw_aload_n d_Fp_ageAll_58 2 rfl ?_
          refine aw_getR (t := 19) fl_Fp_29 kd_4 rt_4_5 d_Fp_ageAll_59 ?_
          refine aw_aload_n d_Fp_ageAll_62 1 rfl ?_
          refine aw_getI fl_Fp_168 (fx_isBK ht18 0 (by decide)) d_Fp_ageAll_63 ?_
          refine aw_aload_n d_Fp_ageAll_66 1 rfl ?_
          refine aw_getI fl_Fp_171 (fx_isBK ht18 0 (by decide)) d_Fp_ageAll_67 ?_
          refine aw_V_v (As := [.int (gI y55 t18 6), .int (gI y55 t18 5)]) (m_Fa_till) cv_Fp_174 kd_19 rfl rfl rfl (Nat.le_of_ble_eq_true rfl) ⟨Nat.le_of_ble_eq_true rfl, Nat.le_of_ble_eq_true rfl⟩ ⟨Nat.le_refl _, Nat.le_refl _⟩ d_Fp_ageAll_70 (fun y70 => ?_)
          refine aw_aload d_Fp_ageAll_73 0 rfl ?_
          refine aw_bipush d_Fp_ageAll_75 kb_10 ?_
          refine aw_aload_n d_Fp_ageAll_77 1 rfl ?_
          refine aw_getR (t := (t18 + 1)) fl_Fp_177 (fx_isBK ht18 0 (by decide)) (fx_isBR ht18 0 9 (by decide) (by decide)) d_Fp_ageAll_78 ?_
          refine aw_aload_n d_Fp_ageAll_81 2 rfl ?_
          refine aw_getR (t := 19) fl_Fp_29 kd_4 rt_4_5 d_Fp_ageAll_82 ?_
          refine aw_V_v (As := [.int (10 : Int32), .ref (t18 + 1), .ref 19]) (m_La_wear ht35 (congrArg Prod.fst (fx_isBK ht18 1 (by decide)))) cv_Fp_186 (fx_isLK ht35 0 (by decide)) rfl rfl rfl (Nat.le_of_ble_eq_true rfl) ⟨Nat.le_of_ble_eq_true rfl, Nat.le_of_ble_eq_true rfl⟩ ⟨Nat.le_refl _, Nat.le_refl _⟩ d_Fp_ageAll_85 (fun y85 => ?_)
          refine aw_iinc (v := (v2_2 + (1 : Int32))) (lo' := [(2, .int (v2_2 + (1 : Int32))), (4, .ref t35), (3, .ref t18), (0, .ref 4), (1, .int a1)]) d_Fp_ageAll_88 4 rfl (by rw [show Int32.ofInt (1) = (1 : Int32) from by decide]) (by decide) rfl ?_
          refine aw_goto (tgt := 2) d_Fp_ageAll_91 rfl ?_
          refine aw_sub (lo' := [(0, .ref 4), (1, .int a1), (2, .int (v2_2 + (1 : Int32)))]) [3, 4, 0] rfl ?_
          exact ih _ _
def f_Fp_ageAll (a1 : Int32) (δ : Dm) : Option Dm := (lp_Fp_ageAll_2 (fun v2_2x δ2x => (some δ2x)) a1 FU (0 : Int32) δ)
set_option maxHeartbeats 4000000 in
set_option maxRecDepth 100000 in
theorem m_Fp_ageAll {a1 : Int32} {δ : Dm} {n : Nat} : ∀ x, f_Fp_ageAll a1 δ = some x → AMet k_Fp_ageAll 6 0 0 [.ref 4, .int a1] δ RT n (Kv RT n x) := by
  refine aw_start (lo := [(0, .ref 4), (1, .int a1)]) mok_Fp_ageAll rfl (Nat.le_of_ble_eq_true rfl) ?_
  unfold f_Fp_ageAll
  refine aw_iconst d_Fp_ageAll_0 ki_0 ?_
  refine aw_istore_n (lo' := [(2, .int (0 : Int32)), (0, .ref 4), (1, .int a1)]) d_Fp_ageAll_1 rfl (by decide) rfl ?_
  refine aw_sub (lo' := [(0, .ref 4), (1, .int a1), (2, .int (0 : Int32))]) [1, 2, 0] rfl ?_
  refine tl_Fp_ageAll_2 _ _ (fun v2_2x δ2x => ?_) FU _ _
  · exact aw_vret rfl rfl ⟨Nat.le_refl _, Nat.le_refl _⟩ d_Fp_ageAll_94
def lp_Fp_clock_27 (kx27_43 : Int32 → Dm → Option (Int32 × Dm)) (a1 : Int32) : Nat → Int32 → Dm → Option (Int32 × Dm)
  | 0, _, _ => none
  | f + 1, v2_27, δ27 => (if a1 ≤ v2_27 then (kx27_43 v2_27 δ27) else ((f_Fp_ageAll v2_27 δ27).bind (fun y34 => (lp_Fp_clock_27 kx27_43 a1 f (v2_27 + (1 : Int32)) y34))))
set_option maxHeartbeats 4000000 in
set_option maxRecDepth 100000 in
theorem tl_Fp_clock_27 {n : Nat} (kx27_43 : Int32 → Dm → Option (Int32 × Dm)) (a1 : Int32) (hkx27_43 : ∀ v2_27k δ27k, AWo k_Fp_clock 7 0 0 43 [(0, .ref 4), (1, .int a1), (2, .int v2_27k)] [] δ27k RT n 0 0 (Km RT n) (kx27_43 v2_27k δ27k)) : ∀ (f : Nat) (v2_27 : Int32) (δ27 : Dm), AWo k_Fp_clock 7 0 0 27 [(0, .ref 4), (1, .int a1), (2, .int v2_27)] [] δ27 RT n 0 0 (Km RT n) (lp_Fp_clock_27 kx27_43 a1 f v2_27 δ27) := by
  intro f
  induction f with
  | zero => intro _ _; exact aw_none
  | succ f ih =>
    intro v2_27 δ27
    rw [lp_Fp_clock_27]
    refine aw_iload_n d_Fp_clock_27 2 rfl ?_
    refine aw_iload_n d_Fp_clock_28 1 rfl ?_
    refine aw_icmp_ge (tgt := 43) d_Fp_clock_29 rfl (fun q29 => ?_) (fun q29 => ?_)
    · refine aw_sub (lo' := [(0, .ref 4), (1, .int a1), (2, .int v2_27)]) [0, 1, 2] rfl ?_
      exact hkx27_43 _ _
    · refine aw_aload_n d_Fp_clock_32 0 rfl ?_
      refine aw_iload_n d_Fp_clock_33 2 rfl ?_
      refine aw_V_v (As := [.int v2_27]) (m_Fp_ageAll) cv_Fp_200 kd_4 rfl rfl rfl (Nat.le_of_ble_eq_true rfl) ⟨Nat.le_of_ble_eq_true rfl, Nat.le_of_ble_eq_true rfl⟩ ⟨Nat.le_refl _, Nat.le_refl _⟩ d_Fp_clock_34 (fun y34 => ?_)
      refine aw_iinc (v := (v2_27 + (1 : Int32))) (lo' := [(2, .int (v2_27 + (1 : Int32))), (0, .ref 4), (1, .int a1)]) d_Fp_clock_37 2 rfl (by rw [show Int32.ofInt (1) = (1 : Int32) from by decide]) (by decide) rfl ?_
      refine aw_goto (tgt := 27) d_Fp_clock_40 rfl ?_
      refine aw_sub (lo' := [(0, .ref 4), (1, .int a1), (2, .int (v2_27 + (1 : Int32)))]) [1, 2, 0] rfl ?_
      exact ih _ _
def f_Fp_clock (a1 : Int32) (δ : Dm) : Option (Int32 × Dm) := ((f_Fp_within a1 (gI δ 29 0) (399 : Int32) δ).bind (fun y11 => (if y11 = 0 then (some ((0 : Int32), δ)) else (bnd (gI δ 29 0) (fun v26 => (lp_Fp_clock_27 (fun v2_27x δ27x => (bnd (sI δ27x 29 0 a1) (fun δ_48 => (some ((1 : Int32), δ_48))))) a1 FU v26 δ))))))
set_option maxHeartbeats 4000000 in
set_option maxRecDepth 100000 in
theorem m_Fp_clock {a1 : Int32} {δ : Dm} {n : Nat} : ∀ x, f_Fp_clock a1 δ = some x → AMet k_Fp_clock 7 0 0 [.ref 4, .int a1] δ RT n (Km RT n x) := by
  refine aw_start (lo := [(0, .ref 4), (1, .int a1)]) mok_Fp_clock rfl (Nat.le_of_ble_eq_true rfl) ?_
  unfold f_Fp_clock
  refine aw_iload_n d_Fp_clock_0 1 rfl ?_
  refine aw_aload_n d_Fp_clock_1 0 rfl ?_
  refine aw_getR (t := 29) fl_Fp_57 kd_4 rt_4_9 d_Fp_clock_2 ?_
  refine aw_getI fl_Fp_130 kd_29 d_Fp_clock_5 ?_
  refine aw_sipush d_Fp_clock_8 ks_399 ?_
  refine aw_S_p (As := [.int a1, .int (gI δ 29 0), .int (399 : Int32)]) (m_Fp_within) cs_Fp_70 rfl rfl (Nat.le_of_ble_eq_true rfl) ⟨Nat.le_of_ble_eq_true rfl, Nat.le_of_ble_eq_true rfl⟩ ⟨Nat.le_refl _, Nat.le_refl _⟩ d_Fp_clock_11 (fun y11 => ?_)
  refine aw_if_ne (tgt := 19) d_Fp_clock_14 rfl (fun q14 => ?_) (fun q14 => ?_)
  · refine aw_iconst d_Fp_clock_17 ki_0 ?_
    exact aw_zret rfl rfl rfl ⟨Nat.le_refl _, Nat.le_refl _⟩ d_Fp_clock_18
  · refine aw_aload_n d_Fp_clock_19 0 rfl ?_
    refine aw_getR (t := 29) fl_Fp_57 kd_4 rt_4_9 d_Fp_clock_20 ?_
    refine aw_getI fl_Fp_130 kd_29 d_Fp_clock_23 ?_
    refine aw_bI (fun v26 => ?_)
    refine aw_istore_n (lo' := [(2, .int v26), (0, .ref 4), (1, .int a1)]) d_Fp_clock_26 rfl (by decide) rfl ?_
    refine aw_sub (lo' := [(0, .ref 4), (1, .int a1), (2, .int v26)]) [1, 2, 0] rfl ?_
    refine tl_Fp_clock_27 _ _ (fun v2_27x δ27x => ?_) FU _ _
    · refine aw_aload_n d_Fp_clock_43 0 rfl ?_
      refine aw_getR (t := 29) fl_Fp_57 kd_4 rt_4_9 d_Fp_clock_44 ?_
      refine aw_iload_n d_Fp_clock_47 1 rfl ?_
      refine aw_putI pf_Fp_130 kd_29 d_Fp_clock_48 ?_
      refine aw_bD (fun δ_48 => ?_)
      refine aw_iconst d_Fp_clock_51 ki_1 ?_
      exact aw_zret rfl rfl rfl ⟨Nat.le_refl _, Nat.le_refl _⟩ d_Fp_clock_52
def f_Fp_isBath (a0 : Int32) (δ : Dm) : Option Int32 := ((f_Fp_within a0 (0 : Int32) (2 : Int32) δ).bind (fun y3 => (if y3 = 0 ∨ y3 = 1 then (some y3) else none)))
set_option maxHeartbeats 4000000 in
set_option maxRecDepth 100000 in
theorem m_Fp_isBath {a0 : Int32} {δ : Dm} {n : Nat} : ∀ x, f_Fp_isBath a0 δ = some x → AMet k_Fp_isBath 2 0 0 [.int a0] δ RT n (Kp δ RT n x) := by
  refine aw_start (lo := [(0, .int a0)]) mok_Fp_isBath rfl (Nat.le_of_ble_eq_true rfl) ?_
  unfold f_Fp_isBath
  refine aw_iload_n d_Fp_isBath_0 0 rfl ?_
  refine aw_iconst d_Fp_isBath_1 ki_0 ?_
  refine aw_iconst d_Fp_isBath_2 ki_2 ?_
  refine aw_S_p (As := [.int a0, .int (0 : Int32), .int (2 : Int32)]) (m_Fp_within) cs_Fp_70 rfl rfl (Nat.le_of_ble_eq_true rfl) ⟨Nat.le_of_ble_eq_true rfl, Nat.le_of_ble_eq_true rfl⟩ ⟨Nat.le_refl _, Nat.le_refl _⟩ d_Fp_isBath_3 (fun y3 => ?_)
  exact aw_zr2 rfl rfl ⟨Nat.le_refl _, Nat.le_refl _⟩ d_Fp_isBath_6
def f_Di_addChange (a1 : Int32) (a2 : Int32) (a3 : Int32) (δ : Dm) : Option Dm := ((f_Di_addEvent a1 a2 ((-1 : Int32) - a3) δ).bind (fun y6 => (bnd (sI y6 34 1 ((gI y6 34 1) + (1 : Int32))) (fun δ_16 => (some δ_16)))))
set_option maxHeartbeats 4000000 in
set_option maxRecDepth 100000 in
theorem m_Di_addChange {a1 : Int32} {a2 : Int32} {a3 : Int32} {δ : Dm} {n : Nat} : ∀ x, f_Di_addChange a1 a2 a3 δ = some x → AMet k_Di_addChange 3 0 0 [.ref 34, .int a1, .int a2, .int a3] δ RT n (Kv RT n x) := by
  refine aw_start (lo := [(0, .ref 34), (1, .int a1), (2, .int a2), (3, .int a3)]) mok_Di_addChange rfl (Nat.le_of_ble_eq_true rfl) ?_
  unfold f_Di_addChange
  refine aw_aload_n d_Di_addChange_0 0 rfl ?_
  refine aw_iload_n d_Di_addChange_1 1 rfl ?_
  refine aw_iload_n d_Di_addChange_2 2 rfl ?_
  refine aw_iconst d_Di_addChange_3 ki_m1 ?_
  refine aw_iload_n d_Di_addChange_4 3 rfl ?_
  refine aw_isub d_Di_addChange_5 ?_
  refine aw_V_v (As := [.int a1, .int a2, .int ((-1 : Int32) - a3)]) (m_Di_addEvent) cv_Di_60 kd_34 rfl rfl rfl (Nat.le_of_ble_eq_true rfl) ⟨Nat.le_of_ble_eq_true rfl, Nat.le_of_ble_eq_true rfl⟩ ⟨Nat.le_refl _, Nat.le_refl _⟩ d_Di_addChange_6 (fun y6 => ?_)
  refine aw_aload_n d_Di_addChange_9 0 rfl ?_
  refine aw_dup d_Di_addChange_10 rfl ?_
  refine aw_getI fl_Di_46 kd_34 d_Di_addChange_11 ?_
  refine aw_iconst d_Di_addChange_14 ki_1 ?_
  refine aw_iadd d_Di_addChange_15 ?_
  refine aw_putI pf_Di_46 kd_34 d_Di_addChange_16 ?_
  refine aw_bD (fun δ_16 => ?_)
  exact aw_vret rfl rfl ⟨Nat.le_refl _, Nat.le_refl _⟩ d_Di_addChange_19
def jp_Fp_change_78 (a1 : Int32) (a2 : Int32) (t5 : Nat) (y42 : Int32) (δ78 : Dm) : Option (Int32 × Dm) := ((f_Di_addChange a1 (gI δ78 29 0) a2 δ78).bind (fun y94 => (some (y42, y94))))
set_option maxHeartbeats 4000000 in
set_option maxRecDepth 100000 in
theorem tj_Fp_change_78 {n : Nat} (a1 : Int32) (a2 : Int32) (t5 : Nat) (y42 : Int32) (δ78 : Dm) (ht5 : isB t5 = true) : AWo k_Fp_change 4 0 0 78 [(0, .ref 4), (1, .int a1), (2, .int a2), (3, .ref t5), (4, .int y42)] [] δ78 RT n 0 0 (Km RT n) (jp_Fp_change_78 a1 a2 t5 y42 δ78) := by
  unfold jp_Fp_change_78
  refine aw_aload_n d_Fp_change_78 0 rfl ?_
  refine aw_getR (t := 29) fl_Fp_57 kd_4 rt_4_9 d_Fp_change_79 ?_
  refine aw_getR (t := 34) fl_Fp_148 kd_29 rt_29_7 d_Fp_change_82 ?_
  refine aw_iload_n d_Fp_change_85 1 rfl ?_
  refine aw_aload_n d_Fp_change_86 0 rfl ?_
  refine aw_getR (t := 29) fl_Fp_57 kd_4 rt_4_9 d_Fp_change_87 ?_
  refine aw_getI fl_Fp_130 kd_29 d_Fp_change_90 ?_
  refine aw_iload_n d_Fp_change_93 2 rfl ?_
  refine aw_V_v (As := [.int a1, .int (gI δ78 29 0), .int a2]) (m_Di_addChange) cv_Fp_212 kd_34 rfl rfl rfl (Nat.le_of_ble_eq_true rfl) ⟨Nat.le_of_ble_eq_true rfl, Nat.le_of_ble_eq_true rfl⟩ ⟨Nat.le_refl _, Nat.le_refl _⟩ d_Fp_change_94 (fun y94 => ?_)
  refine aw_iload d_Fp_change_97 4 rfl ?_
  exact aw_iret rfl rfl ⟨Nat.le_refl _, Nat.le_refl _⟩ d_Fp_change_99
def f_Fp_change (a1 : Int32) (a2 : Int32) (δ : Dm) : Option (Int32 × Dm) := ((f_To_boothAt a1 δ).bind (fun o5 => ocs o5 (some ((-1 : Int32), δ)) (fun t5 => if isB t5 = true then ((f_Fp_isBath a2 δ).bind (fun y14 => (if y14 = 0 then (some ((-1 : Int32), δ)) else (if (gI δ 34 1) < (100 : Int32) then ((f_Fp_get (t5 + 1) a2 δ).bind (fun y42 => ((f_Fp_put (t5 + 1) a2 (1000 : Int32) δ).bind (fun y55 => (if a2 = (2 : Int32) then (bnd (sI y55 t5 7 ((gI y55 t5 7) + ((1000 : Int32) - y42))) (fun δ_75 => (jp_Fp_change_78 a1 a2 t5 y42 δ_75))) else (jp_Fp_change_78 a1 a2 t5 y42 y55)))))) else (some ((-1 : Int32), δ)))))) else none)))
set_option maxHeartbeats 4000000 in
set_option maxRecDepth 100000 in
theorem m_Fp_change {a1 : Int32} {a2 : Int32} {δ : Dm} {n : Nat} : ∀ x, f_Fp_change a1 a2 δ = some x → AMet k_Fp_change 4 0 0 [.ref 4, .int a1, .int a2] δ RT n (Km RT n x) := by
  refine aw_start (lo := [(0, .ref 4), (1, .int a1), (2, .int a2)]) mok_Fp_change rfl (Nat.le_of_ble_eq_true rfl) ?_
  unfold f_Fp_change
  refine aw_aload_n d_Fp_change_0 0 rfl ?_
  refine aw_getR (t := 29) fl_Fp_57 kd_4 rt_4_9 d_Fp_change_1 ?_
  refine aw_iload_n d_Fp_change_4 1 rfl ?_
  refine aw_V_r (As := [.int a1]) (m_To_boothAt) cv_Fp_139 kd_29 rfl rfl rfl (Nat.le_of_ble_eq_true rfl) ⟨Nat.le_of_ble_eq_true rfl, Nat.le_of_ble_eq_true rfl⟩ ⟨Nat.le_refl _, Nat.le_refl _⟩ d_Fp_change_5 ?_ (fun t5 => ?_)
  · refine aw_astoreN_n (lo' := [(3, .null), (0, .ref 4), (1, .int a1), (2, .int a2)]) d_Fp_change_8 rfl (by decide) rfl ?_
    refine aw_aloadN_n d_Fp_change_9 0 rfl ?_
    refine aw_ifnullN (tgt := 35) d_Fp_change_10 rfl ?_
    refine aw_iconst d_Fp_change_35 ki_m1 ?_
    exact aw_iret rfl rfl ⟨Nat.le_refl _, Nat.le_refl _⟩ d_Fp_change_36
  · refine aw_grd (fun ht5 => ?_)
    refine aw_astore_n (lo' := [(3, .ref t5), (0, .ref 4), (1, .int a1), (2, .int a2)]) d_Fp_change_8 rfl (by decide) rfl ?_
    refine aw_aload_n d_Fp_change_9 0 rfl ?_
    refine aw_ifnull d_Fp_change_10 ?_
    refine aw_iload_n d_Fp_change_13 3 rfl ?_
    refine aw_S_p (As := [.int a2]) (m_Fp_isBath) cs_Fp_203 rfl rfl (Nat.le_of_ble_eq_true rfl) ⟨Nat.le_of_ble_eq_true rfl, Nat.le_of_ble_eq_true rfl⟩ ⟨Nat.le_refl _, Nat.le_refl _⟩ d_Fp_change_14 (fun y14 => ?_)
    refine aw_if_eq (tgt := 35) d_Fp_change_17 rfl (fun q17 => ?_) (fun q17 => ?_)
    · refine aw_iconst d_Fp_change_35 ki_m1 ?_
      exact aw_iret rfl rfl ⟨Nat.le_refl _, Nat.le_refl _⟩ d_Fp_change_36
    · refine aw_aload_n d_Fp_change_20 1 rfl ?_
      refine aw_getR (t := 29) fl_Fp_57 kd_4 rt_4_9 d_Fp_change_21 ?_
      refine aw_getR (t := 34) fl_Fp_148 kd_29 rt_29_7 d_Fp_change_24 ?_
      refine aw_getI fl_Fp_206 kd_34 d_Fp_change_27 ?_
      refine aw_bipush d_Fp_change_30 kb_100 ?_
      refine aw_icmp_lt (tgt := 37) d_Fp_change_32 rfl (fun q32 => ?_) (fun q32 => ?_)
      · refine aw_aload_n d_Fp_change_37 0 rfl ?_
        refine aw_getR (t := (t5 + 1)) fl_Fp_177 (fx_isBK ht5 0 (by decide)) (fx_isBR ht5 0 9 (by decide) (by decide)) d_Fp_change_38 ?_
        refine aw_iload_n d_Fp_change_41 3 rfl ?_
        refine aw_S_p (As := [.ref (t5 + 1), .int a2]) (m_Fp_get (congrArg Prod.fst (fx_isBK ht5 1 (by decide)))) cs_Fp_98 rfl rfl (Nat.le_of_ble_eq_true rfl) ⟨Nat.le_of_ble_eq_true rfl, Nat.le_of_ble_eq_true rfl⟩ ⟨Nat.le_refl _, Nat.le_refl _⟩ d_Fp_change_42 (fun y42 => ?_)
        refine aw_istore (lo' := [(4, .int y42), (3, .ref t5), (0, .ref 4), (1, .int a1), (2, .int a2)]) d_Fp_change_45 (by decide) rfl ?_
        refine aw_aload_n d_Fp_change_47 1 rfl ?_
        refine aw_getR (t := (t5 + 1)) fl_Fp_177 (fx_isBK ht5 0 (by decide)) (fx_isBR ht5 0 9 (by decide) (by decide)) d_Fp_change_48 ?_
        refine aw_iload_n d_Fp_change_51 4 rfl ?_
        refine aw_sipush d_Fp_change_52 ks_1000 ?_
        refine aw_S_v (As := [.ref (t5 + 1), .int a2, .int (1000 : Int32)]) (m_Fp_put (congrArg Prod.fst (fx_isBK ht5 1 (by decide)))) cs_Fp_77 rfl rfl (Nat.le_of_ble_eq_true rfl) ⟨Nat.le_of_ble_eq_true rfl, Nat.le_of_ble_eq_true rfl⟩ ⟨Nat.le_refl _, Nat.le_refl _⟩ d_Fp_change_55 (fun y55 => ?_)
        refine aw_iload_n d_Fp_change_58 4 rfl ?_
        refine aw_iconst d_Fp_change_59 ki_2 ?_
        refine aw_icmp_ne (tgt := 78) d_Fp_change_60 rfl (fun q60 => ?_) (fun q60 => ?_)
        · refine aw_aload_n d_Fp_change_63 1 rfl ?_
          refine aw_dup d_Fp_change_64 rfl ?_
          refine aw_getI fl_Fp_209 (fx_isBK ht5 0 (by decide)) d_Fp_change_65 ?_
          refine aw_sipush d_Fp_change_68 ks_1000 ?_
          refine aw_iload d_Fp_change_71 0 rfl ?_
          refine aw_isub d_Fp_change_73 ?_
          refine aw_iadd d_Fp_change_74 ?_
          refine aw_putI pf_Fp_209 (fx_isBK ht5 0 (by decide)) d_Fp_change_75 ?_
          refine aw_bD (fun δ_75 => ?_)
          refine aw_sub (lo' := [(0, .ref 4), (1, .int a1), (2, .int a2), (3, .ref t5), (4, .int y42)]) [2, 3, 4, 1, 0] rfl ?_
          exact tj_Fp_change_78 _ _ _ _ _ ht5
        · refine aw_sub (lo' := [(0, .ref 4), (1, .int a1), (2, .int a2), (3, .ref t5), (4, .int y42)]) [2, 3, 4, 1, 0] rfl ?_
          exact tj_Fp_change_78 _ _ _ _ _ ht5
      · refine aw_iconst d_Fp_change_35 ki_m1 ?_
        exact aw_iret rfl rfl ⟨Nat.le_refl _, Nat.le_refl _⟩ d_Fp_change_36
def f_Di_addEmptying (a1 : Int32) (a2 : Int32) (δ : Dm) : Option Dm := ((f_Di_addEvent a1 a2 (-4 : Int32) δ).bind (fun y5 => (some y5)))
set_option maxHeartbeats 4000000 in
set_option maxRecDepth 100000 in
theorem m_Di_addEmptying {a1 : Int32} {a2 : Int32} {δ : Dm} {n : Nat} : ∀ x, f_Di_addEmptying a1 a2 δ = some x → AMet k_Di_addEmptying 3 0 0 [.ref 34, .int a1, .int a2] δ RT n (Kv RT n x) := by
  refine aw_start (lo := [(0, .ref 34), (1, .int a1), (2, .int a2)]) mok_Di_addEmptying rfl (Nat.le_of_ble_eq_true rfl) ?_
  unfold f_Di_addEmptying
  refine aw_aload_n d_Di_addEmptying_0 0 rfl ?_
  refine aw_iload_n d_Di_addEmptying_1 1 rfl ?_
  refine aw_iload_n d_Di_addEmptying_2 2 rfl ?_
  refine aw_bipush d_Di_addEmptying_3 kb_m4 ?_
  refine aw_V_v (As := [.int a1, .int a2, .int (-4 : Int32)]) (m_Di_addEvent) cv_Di_60 kd_34 rfl rfl rfl (Nat.le_of_ble_eq_true rfl) ⟨Nat.le_of_ble_eq_true rfl, Nat.le_of_ble_eq_true rfl⟩ ⟨Nat.le_refl _, Nat.le_refl _⟩ d_Di_addEmptying_5 (fun y5 => ?_)
  exact aw_vret rfl rfl ⟨Nat.le_refl _, Nat.le_refl _⟩ d_Di_addEmptying_8
def jp_Fp_empty_42 (a1 : Int32) (t5 : Nat) (v19 : Int32) (δ42 : Dm) : Option (Int32 × Dm) := (bnd (sI δ42 t5 5 (0 : Int32)) (fun δ_44 => (some (v19, δ_44))))
set_option maxHeartbeats 4000000 in
set_option maxRecDepth 100000 in
theorem tj_Fp_empty_42 {n : Nat} (a1 : Int32) (t5 : Nat) (v19 : Int32) (δ42 : Dm) (ht5 : isB t5 = true) : AWo k_Fp_empty 4 0 0 42 [(0, .ref 4), (1, .int a1), (2, .ref t5), (3, .int v19)] [] δ42 RT n 0 0 (Km RT n) (jp_Fp_empty_42 a1 t5 v19 δ42) := by
  unfold jp_Fp_empty_42
  refine aw_aload_n d_Fp_empty_42 2 rfl ?_
  refine aw_iconst d_Fp_empty_43 ki_0 ?_
  refine aw_putI pf_Fp_171 (fx_isBK ht5 0 (by decide)) d_Fp_empty_44 ?_
  refine aw_bD (fun δ_44 => ?_)
  refine aw_iload_n d_Fp_empty_47 3 rfl ?_
  exact aw_iret rfl rfl ⟨Nat.le_refl _, Nat.le_refl _⟩ d_Fp_empty_48
def f_Fp_empty (a1 : Int32) (δ : Dm) : Option (Int32 × Dm) := ((f_To_boothAt a1 δ).bind (fun o5 => ocs o5 (some ((-1 : Int32), δ)) (fun t5 => if isB t5 = true then (bnd (gI δ t5 5) (fun v19 => (if v19 ≤ 0 then (jp_Fp_empty_42 a1 t5 v19 δ) else ((f_Di_addEmptying a1 (gI δ 29 0) δ).bind (fun y39 => (jp_Fp_empty_42 a1 t5 v19 y39)))))) else none)))
set_option maxHeartbeats 4000000 in
set_option maxRecDepth 100000 in
theorem m_Fp_empty {a1 : Int32} {δ : Dm} {n : Nat} : ∀ x, f_Fp_empty a1 δ = some x → AMet k_Fp_empty 4 0 0 [.ref 4, .int a1] δ RT n (Km RT n x) := by
  refine aw_start (lo := [(0, .ref 4), (1, .int a1)]) mok_Fp_empty rfl (Nat.le_of_ble_eq_true rfl) ?_
  unfold f_Fp_empty
  refine aw_aload_n d_Fp_empty_0 0 rfl ?_
  refine aw_getR (t := 29) fl_Fp_57 kd_4 rt_4_9 d_Fp_empty_1 ?_
  refine aw_iload_n d_Fp_empty_4 1 rfl ?_
  refine aw_V_r (As := [.int a1]) (m_To_boothAt) cv_Fp_139 kd_29 rfl rfl rfl (Nat.le_of_ble_eq_true rfl) ⟨Nat.le_of_ble_eq_true rfl, Nat.le_of_ble_eq_true rfl⟩ ⟨Nat.le_refl _, Nat.le_refl _⟩ d_Fp_empty_5 ?_ (fun t5 => ?_)
  · refine aw_astoreN_n (lo' := [(2, .null), (0, .ref 4), (1, .int a1)]) d_Fp_empty_8 rfl (by decide) rfl ?_
    refine aw_aloadN_n d_Fp_empty_9 0 rfl ?_
    refine aw_ifnonnullN d_Fp_empty_10 ?_
    refine aw_iconst d_Fp_empty_13 ki_m1 ?_
    exact aw_iret rfl rfl ⟨Nat.le_refl _, Nat.le_refl _⟩ d_Fp_empty_14
  · refine aw_grd (fun ht5 => ?_)
    refine aw_astore_n (lo' := [(2, .ref t5), (0, .ref 4), (1, .int a1)]) d_Fp_empty_8 rfl (by decide) rfl ?_
    refine aw_aload_n d_Fp_empty_9 0 rfl ?_
    refine aw_ifnonnull (tgt := 15) d_Fp_empty_10 rfl ?_
    refine aw_aload_n d_Fp_empty_15 0 rfl ?_
    refine aw_getI fl_Fp_171 (fx_isBK ht5 0 (by decide)) d_Fp_empty_16 ?_
    refine aw_bI (fun v19 => ?_)
    refine aw_istore_n (lo' := [(3, .int v19), (2, .ref t5), (0, .ref 4), (1, .int a1)]) d_Fp_empty_19 rfl (by decide) rfl ?_
    refine aw_iload_n d_Fp_empty_20 0 rfl ?_
    refine aw_if_le (tgt := 42) d_Fp_empty_21 rfl (fun q21 => ?_) (fun q21 => ?_)
    · refine aw_sub (lo' := [(0, .ref 4), (1, .int a1), (2, .ref t5), (3, .int v19)]) [2, 3, 1, 0] rfl ?_
      exact tj_Fp_empty_42 _ _ _ _ ht5
    · refine aw_aload_n d_Fp_empty_24 2 rfl ?_
      refine aw_getR (t := 29) fl_Fp_57 kd_4 rt_4_9 d_Fp_empty_25 ?_
      refine aw_getR (t := 34) fl_Fp_148 kd_29 rt_29_7 d_Fp_empty_28 ?_
      refine aw_iload_n d_Fp_empty_31 3 rfl ?_
      refine aw_aload_n d_Fp_empty_32 2 rfl ?_
      refine aw_getR (t := 29) fl_Fp_57 kd_4 rt_4_9 d_Fp_empty_33 ?_
      refine aw_getI fl_Fp_130 kd_29 d_Fp_empty_36 ?_
      refine aw_V_v (As := [.int a1, .int (gI δ 29 0)]) (m_Di_addEmptying) cv_Fp_215 kd_34 rfl rfl rfl (Nat.le_of_ble_eq_true rfl) ⟨Nat.le_of_ble_eq_true rfl, Nat.le_of_ble_eq_true rfl⟩ ⟨Nat.le_refl _, Nat.le_refl _⟩ d_Fp_empty_39 (fun y39 => ?_)
      refine aw_sub (lo' := [(0, .ref 4), (1, .int a1), (2, .ref t5), (3, .int v19)]) [2, 3, 1, 0] rfl ?_
      exact tj_Fp_empty_42 _ _ _ _ ht5
def f_Fp_of (a1 : Int32) (a2 : Int32) (δ : Dm) : Option Int32 := ((f_To_boothAt a1 δ).bind (fun o5 => ocs o5 (some (-1 : Int32)) (fun t5 => if isB t5 = true then (if (a2).toInt = (0 : Int) then ((f_Fp_get (t5 + 1) a2 δ).bind (fun y69_2 => (some y69_2))) else (if (a2).toInt = (1 : Int) then ((f_Fp_get (t5 + 1) a2 δ).bind (fun y69_1 => (some y69_1))) else (if (a2).toInt = (2 : Int) then ((f_Fp_get (t5 + 1) a2 δ).bind (fun y69 => (some y69))) else (if (a2).toInt = (3 : Int) then (some (gI δ t5 4)) else (if (a2).toInt = (4 : Int) then (some (gI δ t5 5)) else (if (a2).toInt = (5 : Int) then (some (gI δ t5 6)) else (if (a2).toInt = (6 : Int) then (some (gI δ t5 0)) else (if (a2).toInt = (7 : Int) then (some (gI δ t5 7)) else (some (-1 : Int32)))))))))) else none)))
set_option maxHeartbeats 4000000 in
set_option maxRecDepth 100000 in
theorem m_Fp_of {a1 : Int32} {a2 : Int32} {δ : Dm} {n : Nat} : ∀ x, f_Fp_of a1 a2 δ = some x → AMet k_Fp_of 3 0 0 [.ref 4, .int a1, .int a2] δ RT n (Kp δ RT n x) := by
  refine aw_start (lo := [(0, .ref 4), (1, .int a1), (2, .int a2)]) mok_Fp_of rfl (Nat.le_of_ble_eq_true rfl) ?_
  unfold f_Fp_of
  refine aw_aload_n d_Fp_of_0 0 rfl ?_
  refine aw_getR (t := 29) fl_Fp_57 kd_4 rt_4_9 d_Fp_of_1 ?_
  refine aw_iload_n d_Fp_of_4 1 rfl ?_
  refine aw_V_r (As := [.int a1]) (m_To_boothAt) cv_Fp_139 kd_29 rfl rfl rfl (Nat.le_of_ble_eq_true rfl) ⟨Nat.le_of_ble_eq_true rfl, Nat.le_of_ble_eq_true rfl⟩ ⟨Nat.le_refl _, Nat.le_refl _⟩ d_Fp_of_5 ?_ (fun t5 => ?_)
  · refine aw_astoreN_n (lo' := [(3, .null), (0, .ref 4), (1, .int a1), (2, .int a2)]) d_Fp_of_8 rfl (by decide) rfl ?_
    refine aw_aloadN_n d_Fp_of_9 0 rfl ?_
    refine aw_ifnonnullN d_Fp_of_10 ?_
    refine aw_iconst d_Fp_of_13 ki_m1 ?_
    exact aw_iret rfl rfl ⟨Nat.le_refl _, Nat.le_refl _⟩ d_Fp_of_14
  · refine aw_grd (fun ht5 => ?_)
    refine aw_astore_n (lo' := [(3, .ref t5), (0, .ref 4), (1, .int a1), (2, .int a2)]) d_Fp_of_8 rfl (by decide) rfl ?_
    refine aw_aload_n d_Fp_of_9 0 rfl ?_
    refine aw_ifnonnull (tgt := 15) d_Fp_of_10 rfl ?_
    refine aw_iload_n d_Fp_of_15 3 rfl ?_
    refine aw_ite (fun q16 => ?_) (fun q16_0 => ?_)
    · refine aw_tswitch (tgt := 64) d_Fp_of_16 q16 (by decide) (by decide) rfl rfl ?_
      refine aw_aload_n d_Fp_of_64 0 rfl ?_
      refine aw_getR (t := (t5 + 1)) fl_Fp_177 (fx_isBK ht5 0 (by decide)) (fx_isBR ht5 0 9 (by decide) (by decide)) d_Fp_of_65 ?_
      refine aw_iload_n d_Fp_of_68 3 rfl ?_
      refine aw_S_p (As := [.ref (t5 + 1), .int a2]) (m_Fp_get (congrArg Prod.fst (fx_isBK ht5 1 (by decide)))) cs_Fp_98 rfl rfl (Nat.le_of_ble_eq_true rfl) ⟨Nat.le_of_ble_eq_true rfl, Nat.le_of_ble_eq_true rfl⟩ ⟨Nat.le_refl _, Nat.le_refl _⟩ d_Fp_of_69 (fun y69_2 => ?_)
      exact aw_iret rfl rfl ⟨Nat.le_refl _, Nat.le_refl _⟩ d_Fp_of_72
    · refine aw_ite (fun q16 => ?_) (fun q16_1 => ?_)
      · refine aw_tswitch (tgt := 64) d_Fp_of_16 q16 (by decide) (by decide) rfl rfl ?_
        refine aw_aload_n d_Fp_of_64 0 rfl ?_
        refine aw_getR (t := (t5 + 1)) fl_Fp_177 (fx_isBK ht5 0 (by decide)) (fx_isBR ht5 0 9 (by decide) (by decide)) d_Fp_of_65 ?_
        refine aw_iload_n d_Fp_of_68 3 rfl ?_
        refine aw_S_p (As := [.ref (t5 + 1), .int a2]) (m_Fp_get (congrArg Prod.fst (fx_isBK ht5 1 (by decide)))) cs_Fp_98 rfl rfl (Nat.le_of_ble_eq_true rfl) ⟨Nat.le_of_ble_eq_true rfl, Nat.le_of_ble_eq_true rfl⟩ ⟨Nat.le_refl _, Nat.le_refl _⟩ d_Fp_of_69 (fun y69_1 => ?_)
        exact aw_iret rfl rfl ⟨Nat.le_refl _, Nat.le_refl _⟩ d_Fp_of_72
      · refine aw_ite (fun q16 => ?_) (fun q16_2 => ?_)
        · refine aw_tswitch (tgt := 64) d_Fp_of_16 q16 (by decide) (by decide) rfl rfl ?_
          refine aw_aload_n d_Fp_of_64 0 rfl ?_
          refine aw_getR (t := (t5 + 1)) fl_Fp_177 (fx_isBK ht5 0 (by decide)) (fx_isBR ht5 0 9 (by decide) (by decide)) d_Fp_of_65 ?_
          refine aw_iload_n d_Fp_of_68 3 rfl ?_
          refine aw_S_p (As := [.ref (t5 + 1), .int a2]) (m_Fp_get (congrArg Prod.fst (fx_isBK ht5 1 (by decide)))) cs_Fp_98 rfl rfl (Nat.le_of_ble_eq_true rfl) ⟨Nat.le_of_ble_eq_true rfl, Nat.le_of_ble_eq_true rfl⟩ ⟨Nat.le_refl _, Nat.le_refl _⟩ d_Fp_of_69 (fun y69 => ?_)
          exact aw_iret rfl rfl ⟨Nat.le_refl _, Nat.le_refl _⟩ d_Fp_of_72
        · refine aw_ite (fun q16 => ?_) (fun q16_3 => ?_)
          · refine aw_tswitch (tgt := 73) d_Fp_of_16 q16 (by decide) (by decide) rfl rfl ?_
            refine aw_aload_n d_Fp_of_73 0 rfl ?_
            refine aw_getI fl_Fp_145 (fx_isBK ht5 0 (by decide)) d_Fp_of_74 ?_
            exact aw_iret rfl rfl ⟨Nat.le_refl _, Nat.le_refl _⟩ d_Fp_of_77
          · refine aw_ite (fun q16 => ?_) (fun q16_4 => ?_)
            · refine aw_tswitch (tgt := 78) d_Fp_of_16 q16 (by decide) (by decide) rfl rfl ?_
              refine aw_aload_n d_Fp_of_78 0 rfl ?_
              refine aw_getI fl_Fp_171 (fx_isBK ht5 0 (by decide)) d_Fp_of_79 ?_
              exact aw_iret rfl rfl ⟨Nat.le_refl _, Nat.le_refl _⟩ d_Fp_of_82
            · refine aw_ite (fun q16 => ?_) (fun q16_5 => ?_)
              · refine aw_tswitch (tgt := 83) d_Fp_of_16 q16 (by decide) (by decide) rfl rfl ?_
                refine aw_aload_n d_Fp_of_83 0 rfl ?_
                refine aw_getI fl_Fp_168 (fx_isBK ht5 0 (by decide)) d_Fp_of_84 ?_
                exact aw_iret rfl rfl ⟨Nat.le_refl _, Nat.le_refl _⟩ d_Fp_of_87
              · refine aw_ite (fun q16 => ?_) (fun q16_6 => ?_)
                · refine aw_tswitch (tgt := 88) d_Fp_of_16 q16 (by decide) (by decide) rfl rfl ?_
                  refine aw_aload_n d_Fp_of_88 0 rfl ?_
                  refine aw_getI fl_Fp_142 (fx_isBK ht5 0 (by decide)) d_Fp_of_89 ?_
                  exact aw_iret rfl rfl ⟨Nat.le_refl _, Nat.le_refl _⟩ d_Fp_of_92
                · refine aw_ite (fun q16 => ?_) (fun q16_7 => ?_)
                  · refine aw_tswitch (tgt := 93) d_Fp_of_16 q16 (by decide) (by decide) rfl rfl ?_
                    refine aw_aload_n d_Fp_of_93 0 rfl ?_
                    refine aw_getI fl_Fp_209 (fx_isBK ht5 0 (by decide)) d_Fp_of_94 ?_
                    exact aw_iret rfl rfl ⟨Nat.le_refl _, Nat.le_refl _⟩ d_Fp_of_97
                  · refine aw_tdflt (tgt := 98) d_Fp_of_16 (by omega) rfl ?_
                    refine aw_iconst d_Fp_of_98 ki_m1 ?_
                    exact aw_iret rfl rfl ⟨Nat.le_refl _, Nat.le_refl _⟩ d_Fp_of_99
def jp_To_isBoothOrAll_13 (a1 : Int32) (δ : Dm) : Option Int32 := (some (1 : Int32))
set_option maxHeartbeats 4000000 in
set_option maxRecDepth 100000 in
theorem tj_To_isBoothOrAll_13 {n : Nat} (a1 : Int32) (δ : Dm) : AWo k_To_isBoothOrAll 3 0 0 13 [(0, .ref 29), (1, .int a1)] [] δ RT n 0 0 (Kp δ RT n) (jp_To_isBoothOrAll_13 a1 δ) := by
  unfold jp_To_isBoothOrAll_13
  refine aw_iconst d_To_isBoothOrAll_13 ki_1 ?_
  refine aw_goto (tgt := 18) d_To_isBoothOrAll_14 rfl ?_
  exact aw_zret rfl rfl rfl ⟨Nat.le_refl _, Nat.le_refl _⟩ d_To_isBoothOrAll_18
def f_To_isBoothOrAll (a1 : Int32) (δ : Dm) : Option Int32 := (if a1 = (-1 : Int32) then (jp_To_isBoothOrAll_13 a1 δ) else ((f_To_boothAt a1 δ).bind (fun o7 => ocs o7 (some (0 : Int32)) (fun t7 => if isB t7 = true then (jp_To_isBoothOrAll_13 a1 δ) else none))))
set_option maxHeartbeats 4000000 in
set_option maxRecDepth 100000 in
theorem m_To_isBoothOrAll {a1 : Int32} {δ : Dm} {n : Nat} : ∀ x, f_To_isBoothOrAll a1 δ = some x → AMet k_To_isBoothOrAll 3 0 0 [.ref 29, .int a1] δ RT n (Kp δ RT n x) := by
  refine aw_start (lo := [(0, .ref 29), (1, .int a1)]) mok_To_isBoothOrAll rfl (Nat.le_of_ble_eq_true rfl) ?_
  unfold f_To_isBoothOrAll
  refine aw_iload_n d_To_isBoothOrAll_0 1 rfl ?_
  refine aw_iconst d_To_isBoothOrAll_1 ki_m1 ?_
  refine aw_icmp_eq (tgt := 13) d_To_isBoothOrAll_2 rfl (fun q2 => ?_) (fun q2 => ?_)
  · refine aw_sub (lo' := [(0, .ref 29), (1, .int a1)]) [0, 1] rfl ?_
    exact tj_To_isBoothOrAll_13 _ _
  · refine aw_aload_n d_To_isBoothOrAll_5 0 rfl ?_
    refine aw_iload_n d_To_isBoothOrAll_6 1 rfl ?_
    refine aw_V_r (As := [.int a1]) (m_To_boothAt) cv_To_87 kd_29 rfl rfl rfl (Nat.le_of_ble_eq_true rfl) ⟨Nat.le_of_ble_eq_true rfl, Nat.le_of_ble_eq_true rfl⟩ ⟨Nat.le_refl _, Nat.le_refl _⟩ d_To_isBoothOrAll_7 ?_ (fun t7 => ?_)
    · refine aw_ifnullN (tgt := 17) d_To_isBoothOrAll_10 rfl ?_
      refine aw_iconst d_To_isBoothOrAll_17 ki_0 ?_
      exact aw_zret rfl rfl rfl ⟨Nat.le_refl _, Nat.le_refl _⟩ d_To_isBoothOrAll_18
    · refine aw_grd (fun ht7 => ?_)
      refine aw_ifnull d_To_isBoothOrAll_10 ?_
      refine aw_sub (lo' := [(0, .ref 29), (1, .int a1)]) [0, 1] rfl ?_
      exact tj_To_isBoothOrAll_13 _ _
def f_Fp_isSpoiler (a0 : Int32) (δ : Dm) : Option Int32 := ((f_Fp_within a0 (0 : Int32) (5 : Int32) δ).bind (fun y3 => (if y3 = 0 ∨ y3 = 1 then (some y3) else none)))
set_option maxHeartbeats 4000000 in
set_option maxRecDepth 100000 in
theorem m_Fp_isSpoiler {a0 : Int32} {δ : Dm} {n : Nat} : ∀ x, f_Fp_isSpoiler a0 δ = some x → AMet k_Fp_isSpoiler 2 0 0 [.int a0] δ RT n (Kp δ RT n x) := by
  refine aw_start (lo := [(0, .int a0)]) mok_Fp_isSpoiler rfl (Nat.le_of_ble_eq_true rfl) ?_
  unfold f_Fp_isSpoiler
  refine aw_iload_n d_Fp_isSpoiler_0 0 rfl ?_
  refine aw_iconst d_Fp_isSpoiler_1 ki_0 ?_
  refine aw_iconst d_Fp_isSpoiler_2 ki_5 ?_
  refine aw_S_p (As := [.int a0, .int (0 : Int32), .int (5 : Int32)]) (m_Fp_within) cs_Fp_70 rfl rfl (Nat.le_of_ble_eq_true rfl) ⟨Nat.le_of_ble_eq_true rfl, Nat.le_of_ble_eq_true rfl⟩ ⟨Nat.le_refl _, Nat.le_refl _⟩ d_Fp_isSpoiler_3 (fun y3 => ?_)
  exact aw_zr2 rfl rfl ⟨Nat.le_refl _, Nat.le_refl _⟩ d_Fp_isSpoiler_6
def jp_Di_isOf_17 (a1 : Int32) (a2 : Int32) (δ : Dm) : Option Int32 := (some (1 : Int32))
set_option maxHeartbeats 4000000 in
set_option maxRecDepth 100000 in
theorem tj_Di_isOf_17 {n : Nat} (a1 : Int32) (a2 : Int32) (δ : Dm) : AWo k_Di_isOf 2 0 0 17 [(0, .ref 34), (1, .int a1), (2, .int a2)] [] δ RT n 0 0 (Kp δ RT n) (jp_Di_isOf_17 a1 a2 δ) := by
  unfold jp_Di_isOf_17
  refine aw_iconst d_Di_isOf_17 ki_1 ?_
  refine aw_goto (tgt := 22) d_Di_isOf_18 rfl ?_
  exact aw_zret rfl rfl rfl ⟨Nat.le_refl _, Nat.le_refl _⟩ d_Di_isOf_22
def f_Di_isOf (a1 : Int32) (a2 : Int32) (δ : Dm) : Option Int32 := (if a2 = (-1 : Int32) then (jp_Di_isOf_17 a1 a2 δ) else ((f_Fp_get 35 a1 δ).bind (fun y10 => (if y10 = a2 then (jp_Di_isOf_17 a1 a2 δ) else (some (0 : Int32))))))
set_option maxHeartbeats 4000000 in
set_option maxRecDepth 100000 in
theorem m_Di_isOf {a1 : Int32} {a2 : Int32} {δ : Dm} {n : Nat} : ∀ x, f_Di_isOf a1 a2 δ = some x → AMet k_Di_isOf 2 0 0 [.ref 34, .int a1, .int a2] δ RT n (Kp δ RT n x) := by
  refine aw_start (lo := [(0, .ref 34), (1, .int a1), (2, .int a2)]) mok_Di_isOf rfl (Nat.le_of_ble_eq_true rfl) ?_
  unfold f_Di_isOf
  refine aw_iload_n d_Di_isOf_0 2 rfl ?_
  refine aw_iconst d_Di_isOf_1 ki_m1 ?_
  refine aw_icmp_eq (tgt := 17) d_Di_isOf_2 rfl (fun q2 => ?_) (fun q2 => ?_)
  · refine aw_sub (lo' := [(0, .ref 34), (1, .int a1), (2, .int a2)]) [0, 1, 2] rfl ?_
    exact tj_Di_isOf_17 _ _ _
  · refine aw_aload_n d_Di_isOf_5 0 rfl ?_
    refine aw_getR (t := 35) fl_Di_11 kd_34 rt_34_3 d_Di_isOf_6 ?_
    refine aw_iload_n d_Di_isOf_9 1 rfl ?_
    refine aw_SN_p (As := [.ref 35, .int a1]) (m_Fp_get (congrArg Prod.fst kd_35)) cs_Di_64 rfl rfl (Nat.le_of_ble_eq_true rfl) ⟨Nat.le_of_ble_eq_true rfl, Nat.le_of_ble_eq_true rfl⟩ ⟨Nat.le_refl _, Nat.le_refl _⟩ d_Di_isOf_10 (fun y10 => ?_)
    refine aw_iload_n d_Di_isOf_13 2 rfl ?_
    refine aw_icmp_ne (tgt := 21) d_Di_isOf_14 rfl (fun q14 => ?_) (fun q14 => ?_)
    · refine aw_sub (lo' := [(0, .ref 34), (1, .int a1), (2, .int a2)]) [0, 1, 2] rfl ?_
      exact tj_Di_isOf_17 _ _ _
    · refine aw_iconst d_Di_isOf_21 ki_0 ?_
      exact aw_zret rfl rfl rfl ⟨Nat.le_refl _, Nat.le_refl _⟩ d_Di_isOf_22
def lp_Fp_spoilt_34 (kx34_75 : Int32 → Int32 → Option Int32) (a1 : Int32) (a2 : Int32) (δ : Dm) : Nat → Int32 → Int32 → Option Int32
  | 0, _, _ => none
  | f + 1, v4_34, v5_34 => (if (gI δ 34 0) ≤ v5_34 then (kx34_75 v4_34 v5_34) else ((f_Di_isOf v5_34 a1 δ).bind (fun y47 => (if y47 = 0 then (lp_Fp_spoilt_34 kx34_75 a1 a2 δ f v4_34 (v5_34 + (1 : Int32))) else ((f_Fp_get 37 v5_34 δ).bind (fun y59 => (if y59 = a2 then (lp_Fp_spoilt_34 kx34_75 a1 a2 δ f (v4_34 + (1 : Int32)) (v5_34 + (1 : Int32))) else (lp_Fp_spoilt_34 kx34_75 a1 a2 δ f v4_34 (v5_34 + (1 : Int32))))))))))
set_option maxHeartbeats 4000000 in
set_option maxRecDepth 100000 in
theorem tl_Fp_spoilt_34 {n : Nat} (kx34_75 : Int32 → Int32 → Option Int32) (a1 : Int32) (a2 : Int32) (δ : Dm) (hkx34_75 : ∀ v4_34k v5_34k, AWo k_Fp_spoilt 4 0 0 75 [(0, .ref 4), (1, .int a1), (2, .int a2), (3, .ref 34), (4, .int v4_34k), (5, .int v5_34k)] [] δ RT n 0 0 (Kp δ RT n) (kx34_75 v4_34k v5_34k)) : ∀ (f : Nat) (v4_34 : Int32) (v5_34 : Int32), AWo k_Fp_spoilt 4 0 0 34 [(0, .ref 4), (1, .int a1), (2, .int a2), (3, .ref 34), (4, .int v4_34), (5, .int v5_34)] [] δ RT n 0 0 (Kp δ RT n) (lp_Fp_spoilt_34 kx34_75 a1 a2 δ f v4_34 v5_34) := by
  intro f
  induction f with
  | zero => intro _ _; exact aw_none
  | succ f ih =>
    intro v4_34 v5_34
    rw [lp_Fp_spoilt_34]
    refine aw_iload d_Fp_spoilt_34 5 rfl ?_
    refine aw_aload_n d_Fp_spoilt_36 3 rfl ?_
    refine aw_getI fl_Fp_152 kd_34 d_Fp_spoilt_37 ?_
    refine aw_icmp_ge (tgt := 75) d_Fp_spoilt_40 rfl (fun q40 => ?_) (fun q40 => ?_)
    · refine aw_sub (lo' := [(0, .ref 4), (1, .int a1), (2, .int a2), (3, .ref 34), (4, .int v4_34), (5, .int v5_34)]) [0, 1, 2, 3, 4, 5] rfl ?_
      exact hkx34_75 _ _
    · refine aw_aload_n d_Fp_spoilt_43 3 rfl ?_
      refine aw_iload d_Fp_spoilt_44 5 rfl ?_
      refine aw_iload_n d_Fp_spoilt_46 1 rfl ?_
      refine aw_V_p (As := [.int v5_34, .int a1]) (m_Di_isOf) cv_Fp_224 kd_34 rfl rfl rfl (Nat.le_of_ble_eq_true rfl) ⟨Nat.le_of_ble_eq_true rfl, Nat.le_of_ble_eq_true rfl⟩ ⟨Nat.le_refl _, Nat.le_refl _⟩ d_Fp_spoilt_47 (fun y47 => ?_)
      refine aw_if_eq (tgt := 69) d_Fp_spoilt_50 rfl (fun q50 => ?_) (fun q50 => ?_)
      · refine aw_iinc (v := (v5_34 + (1 : Int32))) (lo' := [(5, .int (v5_34 + (1 : Int32))), (0, .ref 4), (1, .int a1), (2, .int a2), (3, .ref 34), (4, .int v4_34)]) d_Fp_spoilt_69 5 rfl (by rw [show Int32.ofInt (1) = (1 : Int32) from by decide]) (by decide) rfl ?_
        refine aw_goto (tgt := 34) d_Fp_spoilt_72 rfl ?_
        refine aw_sub (lo' := [(0, .ref 4), (1, .int a1), (2, .int a2), (3, .ref 34), (4, .int v4_34), (5, .int (v5_34 + (1 : Int32)))]) [1, 2, 3, 4, 5, 0] rfl ?_
        exact ih _ _
      · refine aw_aload_n d_Fp_spoilt_53 3 rfl ?_
        refine aw_getR (t := 37) fl_Fp_228 kd_34 rt_34_5 d_Fp_spoilt_54 ?_
        refine aw_iload d_Fp_spoilt_57 5 rfl ?_
        refine aw_S_p (As := [.ref 37, .int v5_34]) (m_Fp_get (congrArg Prod.fst kd_37)) cs_Fp_98 rfl rfl (Nat.le_of_ble_eq_true rfl) ⟨Nat.le_of_ble_eq_true rfl, Nat.le_of_ble_eq_true rfl⟩ ⟨Nat.le_refl _, Nat.le_refl _⟩ d_Fp_spoilt_59 (fun y59 => ?_)
        refine aw_iload_n d_Fp_spoilt_62 2 rfl ?_
        refine aw_icmp_ne (tgt := 69) d_Fp_spoilt_63 rfl (fun q63 => ?_) (fun q63 => ?_)
        · refine aw_iinc (v := (v4_34 + (1 : Int32))) (lo' := [(4, .int (v4_34 + (1 : Int32))), (0, .ref 4), (1, .int a1), (2, .int a2), (3, .ref 34), (5, .int v5_34)]) d_Fp_spoilt_66 4 rfl (by rw [show Int32.ofInt (1) = (1 : Int32) from by decide]) (by decide) rfl ?_
          refine aw_iinc (v := (v5_34 + (1 : Int32))) (lo' := [(5, .int (v5_34 + (1 : Int32))), (4, .int (v4_34 + (1 : Int32))), (0, .ref 4), (1, .int a1), (2, .int a2), (3, .ref 34)]) d_Fp_spoilt_69 5 rfl (by rw [show Int32.ofInt (1) = (1 : Int32) from by decide]) (by decide) rfl ?_
          refine aw_goto (tgt := 34) d_Fp_spoilt_72 rfl ?_
          refine aw_sub (lo' := [(0, .ref 4), (1, .int a1), (2, .int a2), (3, .ref 34), (4, .int (v4_34 + (1 : Int32))), (5, .int (v5_34 + (1 : Int32)))]) [2, 3, 4, 5, 1, 0] rfl ?_
          exact ih _ _
        · refine aw_iinc (v := (v5_34 + (1 : Int32))) (lo' := [(5, .int (v5_34 + (1 : Int32))), (0, .ref 4), (1, .int a1), (2, .int a2), (3, .ref 34), (4, .int v4_34)]) d_Fp_spoilt_69 5 rfl (by rw [show Int32.ofInt (1) = (1 : Int32) from by decide]) (by decide) rfl ?_
          refine aw_goto (tgt := 34) d_Fp_spoilt_72 rfl ?_
          refine aw_sub (lo' := [(0, .ref 4), (1, .int a1), (2, .int a2), (3, .ref 34), (4, .int v4_34), (5, .int (v5_34 + (1 : Int32)))]) [1, 2, 3, 4, 5, 0] rfl ?_
          exact ih _ _
def f_Fp_spoilt (a1 : Int32) (a2 : Int32) (δ : Dm) : Option Int32 := ((f_To_isBoothOrAll a1 δ).bind (fun y5 => (if y5 = 0 then (some (-1 : Int32)) else ((f_Fp_isSpoiler a2 δ).bind (fun y12 => (if y12 = 0 then (some (-1 : Int32)) else (lp_Fp_spoilt_34 (fun v4_34x v5_34x => (some v4_34x)) a1 a2 δ FU (0 : Int32) (0 : Int32))))))))
set_option maxHeartbeats 4000000 in
set_option maxRecDepth 100000 in
theorem m_Fp_spoilt {a1 : Int32} {a2 : Int32} {δ : Dm} {n : Nat} : ∀ x, f_Fp_spoilt a1 a2 δ = some x → AMet k_Fp_spoilt 4 0 0 [.ref 4, .int a1, .int a2] δ RT n (Kp δ RT n x) := by
  refine aw_start (lo := [(0, .ref 4), (1, .int a1), (2, .int a2)]) mok_Fp_spoilt rfl (Nat.le_of_ble_eq_true rfl) ?_
  unfold f_Fp_spoilt
  refine aw_aload_n d_Fp_spoilt_0 0 rfl ?_
  refine aw_getR (t := 29) fl_Fp_57 kd_4 rt_4_9 d_Fp_spoilt_1 ?_
  refine aw_iload_n d_Fp_spoilt_4 1 rfl ?_
  refine aw_V_p (As := [.int a1]) (m_To_isBoothOrAll) cv_Fp_218 kd_29 rfl rfl rfl (Nat.le_of_ble_eq_true rfl) ⟨Nat.le_of_ble_eq_true rfl, Nat.le_of_ble_eq_true rfl⟩ ⟨Nat.le_refl _, Nat.le_refl _⟩ d_Fp_spoilt_5 (fun y5 => ?_)
  refine aw_if_eq (tgt := 18) d_Fp_spoilt_8 rfl (fun q8 => ?_) (fun q8 => ?_)
  · refine aw_iconst d_Fp_spoilt_18 ki_m1 ?_
    exact aw_iret rfl rfl ⟨Nat.le_refl _, Nat.le_refl _⟩ d_Fp_spoilt_19
  · refine aw_iload_n d_Fp_spoilt_11 2 rfl ?_
    refine aw_S_p (As := [.int a2]) (m_Fp_isSpoiler) cs_Fp_221 rfl rfl (Nat.le_of_ble_eq_true rfl) ⟨Nat.le_of_ble_eq_true rfl, Nat.le_of_ble_eq_true rfl⟩ ⟨Nat.le_refl _, Nat.le_refl _⟩ d_Fp_spoilt_12 (fun y12 => ?_)
    refine aw_if_ne (tgt := 20) d_Fp_spoilt_15 rfl (fun q15 => ?_) (fun q15 => ?_)
    · refine aw_iconst d_Fp_spoilt_18 ki_m1 ?_
      exact aw_iret rfl rfl ⟨Nat.le_refl _, Nat.le_refl _⟩ d_Fp_spoilt_19
    · refine aw_aload_n d_Fp_spoilt_20 0 rfl ?_
      refine aw_getR (t := 29) fl_Fp_57 kd_4 rt_4_9 d_Fp_spoilt_21 ?_
      refine aw_getR (t := 34) fl_Fp_148 kd_29 rt_29_7 d_Fp_spoilt_24 ?_
      refine aw_astore_n (lo' := [(3, .ref 34), (0, .ref 4), (1, .int a1), (2, .int a2)]) d_Fp_spoilt_27 rfl (by decide) rfl ?_
      refine aw_iconst d_Fp_spoilt_28 ki_0 ?_
      refine aw_istore (lo' := [(4, .int (0 : Int32)), (3, .ref 34), (0, .ref 4), (1, .int a1), (2, .int a2)]) d_Fp_spoilt_29 (by decide) rfl ?_
      refine aw_iconst d_Fp_spoilt_31 ki_0 ?_
      refine aw_istore (lo' := [(5, .int (0 : Int32)), (4, .int (0 : Int32)), (3, .ref 34), (0, .ref 4), (1, .int a1), (2, .int a2)]) d_Fp_spoilt_32 (by decide) rfl ?_
      refine aw_sub (lo' := [(0, .ref 4), (1, .int a1), (2, .int a2), (3, .ref 34), (4, .int (0 : Int32)), (5, .int (0 : Int32))]) [3, 4, 5, 2, 1, 0] rfl ?_
      refine tl_Fp_spoilt_34 _ _ _ _ (fun v4_34x v5_34x => ?_) FU _ _
      · refine aw_iload d_Fp_spoilt_75 4 rfl ?_
        exact aw_iret rfl rfl ⟨Nat.le_refl _, Nat.le_refl _⟩ d_Fp_spoilt_77
def f_Rp_openStrip (a1 : Nat) (a2 : Int32) (δ : Dm) : Option Dm := ((f_Fp_get 36 a2 δ).bind (fun y15 => ((f_Fa_open a1 y15 δ).bind (fun y18 => ((f_Fp_get 38 a2 y18).bind (fun y28 => ((f_Fp_get 39 a2 y18).bind (fun y37 => ((f_Fa_pose y28 y37 y18).bind (fun y40 => ((f_Fp_get 40 a2 y40).bind (fun y50 => ((f_Fp_get 41 a2 y40).bind (fun y59 => ((f_Fa_till y50 y59 y40).bind (fun y62 => (some y62)))))))))))))))))
set_option maxHeartbeats 4000000 in
set_option maxRecDepth 100000 in
theorem m_Rp_openStrip {a1 : Nat} {a2 : Int32} {δ : Dm} {n : Nat} (ha1 : isB a1 = true) : ∀ x, f_Rp_openStrip a1 a2 δ = some x → AMet k_Rp_openStrip 3 0 0 [.ref 29, .ref a1, .int a2, .ref 19] δ RT n (Kv RT n x) := by
  refine aw_start (lo := [(0, .ref 29), (1, .ref a1), (2, .int a2), (3, .ref 19)]) mok_Rp_openStrip rfl (Nat.le_of_ble_eq_true rfl) ?_
  unfold f_Rp_openStrip
  refine aw_aload_n d_Rp_openStrip_0 0 rfl ?_
  refine aw_getR (t := 34) fl_Rp_24 kd_29 rt_29_7 d_Rp_openStrip_1 ?_
  refine aw_astore (lo' := [(4, .ref 34), (0, .ref 29), (1, .ref a1), (2, .int a2), (3, .ref 19)]) d_Rp_openStrip_4 (by decide) rfl ?_
  refine aw_aload_n d_Rp_openStrip_6 4 rfl ?_
  refine aw_aload_n d_Rp_openStrip_7 1 rfl ?_
  refine aw_aload_n d_Rp_openStrip_8 2 rfl ?_
  refine aw_aload d_Rp_openStrip_9 0 rfl ?_
  refine aw_getR (t := 36) fl_Rp_61 kd_34 rt_34_4 d_Rp_openStrip_11 ?_
  refine aw_iload_n d_Rp_openStrip_14 3 rfl ?_
  refine aw_SN_p (As := [.ref 36, .int a2]) (m_Fp_get (congrArg Prod.fst kd_36)) cs_Rp_64 rfl rfl (Nat.le_of_ble_eq_true rfl) ⟨Nat.le_of_ble_eq_true rfl, Nat.le_of_ble_eq_true rfl⟩ ⟨Nat.le_refl _, Nat.le_refl _⟩ d_Rp_openStrip_15 (fun y15 => ?_)
  refine aw_V_v (As := [.ref 29, .ref a1, .int y15]) (m_Fa_open ha1) cv_Rp_68 kd_19 rfl rfl rfl (Nat.le_of_ble_eq_true rfl) ⟨Nat.le_of_ble_eq_true rfl, Nat.le_of_ble_eq_true rfl⟩ ⟨Nat.le_refl _, Nat.le_refl _⟩ d_Rp_openStrip_18 (fun y18 => ?_)
  refine aw_aload_n d_Rp_openStrip_21 4 rfl ?_
  refine aw_aload d_Rp_openStrip_22 0 rfl ?_
  refine aw_getR (t := 38) fl_Rp_74 kd_34 rt_34_6 d_Rp_openStrip_24 ?_
  refine aw_iload_n d_Rp_openStrip_27 3 rfl ?_
  refine aw_SN_p (As := [.ref 38, .int a2]) (m_Fp_get (congrArg Prod.fst kd_38)) cs_Rp_64 rfl rfl (Nat.le_of_ble_eq_true rfl) ⟨Nat.le_of_ble_eq_true rfl, Nat.le_of_ble_eq_true rfl⟩ ⟨Nat.le_refl _, Nat.le_refl _⟩ d_Rp_openStrip_28 (fun y28 => ?_)
  refine aw_aload d_Rp_openStrip_31 0 rfl ?_
  refine aw_getR (t := 39) fl_Rp_77 kd_34 rt_34_7 d_Rp_openStrip_33 ?_
  refine aw_iload_n d_Rp_openStrip_36 3 rfl ?_
  refine aw_SN_p (As := [.ref 39, .int a2]) (m_Fp_get (congrArg Prod.fst kd_39)) cs_Rp_64 rfl rfl (Nat.le_of_ble_eq_true rfl) ⟨Nat.le_of_ble_eq_true rfl, Nat.le_of_ble_eq_true rfl⟩ ⟨Nat.le_refl _, Nat.le_refl _⟩ d_Rp_openStrip_37 (fun y37 => ?_)
  refine aw_V_v (As := [.int y28, .int y37]) (m_Fa_pose) cv_Rp_80 kd_19 rfl rfl rfl (Nat.le_of_ble_eq_true rfl) ⟨Nat.le_of_ble_eq_true rfl, Nat.le_of_ble_eq_true rfl⟩ ⟨Nat.le_refl _, Nat.le_refl _⟩ d_Rp_openStrip_40 (fun y40 => ?_)
  refine aw_aload_n d_Rp_openStrip_43 4 rfl ?_
  refine aw_aload d_Rp_openStrip_44 0 rfl ?_
  refine aw_getR (t := 40) fl_Rp_84 kd_34 rt_34_8 d_Rp_openStrip_46 ?_
  refine aw_iload_n d_Rp_openStrip_49 3 rfl ?_
  refine aw_SN_p (As := [.ref 40, .int a2]) (m_Fp_get (congrArg Prod.fst kd_40)) cs_Rp_64 rfl rfl (Nat.le_of_ble_eq_true rfl) ⟨Nat.le_of_ble_eq_true rfl, Nat.le_of_ble_eq_true rfl⟩ ⟨Nat.le_refl _, Nat.le_refl _⟩ d_Rp_openStrip_50 (fun y50 => ?_)
  refine aw_aload d_Rp_openStrip_53 0 rfl ?_
  refine aw_getR (t := 41) fl_Rp_87 kd_34 rt_34_9 d_Rp_openStrip_55 ?_
  refine aw_iload_n d_Rp_openStrip_58 3 rfl ?_
  refine aw_SN_p (As := [.ref 41, .int a2]) (m_Fp_get (congrArg Prod.fst kd_41)) cs_Rp_64 rfl rfl (Nat.le_of_ble_eq_true rfl) ⟨Nat.le_of_ble_eq_true rfl, Nat.le_of_ble_eq_true rfl⟩ ⟨Nat.le_refl _, Nat.le_refl _⟩ d_Rp_openStrip_59 (fun y59 => ?_)
  refine aw_V_v (As := [.int y50, .int y59]) (m_Fa_till) cv_Rp_90 kd_19 rfl rfl rfl (Nat.le_of_ble_eq_true rfl) ⟨Nat.le_of_ble_eq_true rfl, Nat.le_of_ble_eq_true rfl⟩ ⟨Nat.le_refl _, Nat.le_refl _⟩ d_Rp_openStrip_62 (fun y62 => ?_)
  exact aw_vret rfl rfl ⟨Nat.le_refl _, Nat.le_refl _⟩ d_Rp_openStrip_65
def jp_Rp_mark_39 (a1 : Int32) (a2 : Int32) (a3 : Int32) (v3 : Int32) (v18 : Int32) (δ : Dm) (s0_39 : Int32) : Option Dm := ((f_Fp_put 23 a1 s0_39 δ).bind (fun y39 => (some y39)))
set_option maxHeartbeats 4000000 in
set_option maxRecDepth 100000 in
theorem tj_Rp_mark_39 {n : Nat} (a1 : Int32) (a2 : Int32) (a3 : Int32) (v3 : Int32) (v18 : Int32) (δ : Dm) (s0_39 : Int32) : AWo k_Rp_mark 2 0 0 39 [(0, .ref 22), (1, .int a1), (2, .int a2), (3, .int a3), (4, .int v3), (5, .int v18)] [.int s0_39, .int a1, .ref 23] δ RT n 0 0 (Kv RT n) (jp_Rp_mark_39 a1 a2 a3 v3 v18 δ s0_39) := by
  unfold jp_Rp_mark_39
  refine aw_SN_v (As := [.ref 23, .int a1, .int s0_39]) (m_Fp_put (congrArg Prod.fst kd_23)) cs_Rp_48 rfl rfl (Nat.le_of_ble_eq_true rfl) ⟨Nat.le_of_ble_eq_true rfl, Nat.le_of_ble_eq_true rfl⟩ ⟨Nat.le_refl _, Nat.le_refl _⟩ d_Rp_mark_39 (fun y39 => ?_)
  exact aw_vret rfl rfl ⟨Nat.le_refl _, Nat.le_refl _⟩ d_Rp_mark_42
def f_Rp_mark (a1 : Int32) (a2 : Int32) (a3 : Int32) (δ : Dm) : Option Dm := (bnd ((1 : Int32) <<< (a2 &&& 31)) (fun v3 => ((f_Fp_get 23 a1 δ).bind (fun y10 => (bnd (y10 &&& (v3 ^^^ (-1 : Int32))) (fun v18 => (if a3 = 0 then (jp_Rp_mark_39 a1 a2 a3 v3 v18 δ v18) else (jp_Rp_mark_39 a1 a2 a3 v3 v18 δ (v18 ||| v3)))))))))
set_option maxHeartbeats 4000000 in
set_option maxRecDepth 100000 in
theorem m_Rp_mark {a1 : Int32} {a2 : Int32} {a3 : Int32} {δ : Dm} {n : Nat} : ∀ x, f_Rp_mark a1 a2 a3 δ = some x → AMet k_Rp_mark 2 0 0 [.ref 22, .int a1, .int a2, .int a3] δ RT n (Kv RT n x) := by
  refine aw_start (lo := [(0, .ref 22), (1, .int a1), (2, .int a2), (3, .int a3)]) mok_Rp_mark rfl (Nat.le_of_ble_eq_true rfl) ?_
  unfold f_Rp_mark
  refine aw_iconst d_Rp_mark_0 ki_1 ?_
  refine aw_iload_n d_Rp_mark_1 2 rfl ?_
  refine aw_ishl d_Rp_mark_2 ?_
  refine aw_bI (fun v3 => ?_)
  refine aw_istore (lo' := [(4, .int v3), (0, .ref 22), (1, .int a1), (2, .int a2), (3, .int a3)]) d_Rp_mark_3 (by decide) rfl ?_
  refine aw_aload_n d_Rp_mark_5 1 rfl ?_
  refine aw_getR (t := 23) fl_Rp_9 kd_22 rt_22_0 d_Rp_mark_6 ?_
  refine aw_iload_n d_Rp_mark_9 2 rfl ?_
  refine aw_SN_p (As := [.ref 23, .int a1]) (m_Fp_get (congrArg Prod.fst kd_23)) cs_Rp_64 rfl rfl (Nat.le_of_ble_eq_true rfl) ⟨Nat.le_of_ble_eq_true rfl, Nat.le_of_ble_eq_true rfl⟩ ⟨Nat.le_refl _, Nat.le_refl _⟩ d_Rp_mark_10 (fun y10 => ?_)
  refine aw_iload d_Rp_mark_13 0 rfl ?_
  refine aw_iconst d_Rp_mark_15 ki_m1 ?_
  refine aw_ixor d_Rp_mark_16 ?_
  refine aw_iand d_Rp_mark_17 ?_
  refine aw_bI (fun v18 => ?_)
  refine aw_istore (lo' := [(5, .int v18), (4, .int v3), (0, .ref 22), (1, .int a1), (2, .int a2), (3, .int a3)]) d_Rp_mark_18 (by decide) rfl ?_
  refine aw_aload_n d_Rp_mark_20 2 rfl ?_
  refine aw_getR (t := 23) fl_Rp_9 kd_22 rt_22_0 d_Rp_mark_21 ?_
  refine aw_iload_n d_Rp_mark_24 3 rfl ?_
  refine aw_iload_n d_Rp_mark_25 5 rfl ?_
  refine aw_if_eq (tgt := 37) d_Rp_mark_26 rfl (fun q26 => ?_) (fun q26 => ?_)
  · refine aw_iload d_Rp_mark_37 0 rfl ?_
    refine aw_sub (lo' := [(0, .ref 22), (1, .int a1), (2, .int a2), (3, .int a3), (4, .int v3), (5, .int v18)]) [2, 3, 4, 5, 1, 0] rfl ?_
    exact tj_Rp_mark_39 _ _ _ _ _ _ _
  · refine aw_iload d_Rp_mark_29 0 rfl ?_
    refine aw_iload d_Rp_mark_31 1 rfl ?_
    refine aw_ior d_Rp_mark_33 ?_
    refine aw_goto (tgt := 39) d_Rp_mark_34 rfl ?_
    refine aw_sub (lo' := [(0, .ref 22), (1, .int a1), (2, .int a2), (3, .int a3), (4, .int v3), (5, .int v18)]) [2, 3, 4, 5, 1, 0] rfl ?_
    exact tj_Rp_mark_39 _ _ _ _ _ _ _
end
