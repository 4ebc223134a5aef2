noncomputable section
def jp_Mo_agree_64 (a1 : Int32) (a2 : Int32) (a3 : Int32) (y35 : Int32) (δ : Dm) (s0_64 : Int32) : Option Int32 := (if 0 ≤ s0_64 then (if inb (s0_64 + (1 : Int32)) 8918 then (if inb (y35 + (1 : Int32)) 8918 then ((f_Mo_stripsOn a1 ((gI δ 152 (ix (s0_64 + (1 : Int32)))) + (1 : Int32)) (gI δ 152 (ix (y35 + (1 : Int32)))) δ).bind (fun y97 => (if a3 = 0 then (if inb (y35 + (2 : Int32)) 8918 then (if inb (s0_64 + (2 : Int32)) 8918 then (some (((gI δ 152 (ix (y35 + (2 : Int32)))) - (gI δ 152 (ix (s0_64 + (2 : Int32))))) - y97)) else none) else none) else (if inb (y35 + (3 : Int32)) 8918 then (if inb (s0_64 + (3 : Int32)) 8918 then ((f_Mo_cell a1 (1 : Int32) δ).bind (fun y153 => (some (((gI δ 152 (ix (y35 + (3 : Int32)))) - (gI δ 152 (ix (s0_64 + (3 : Int32))))) - (y153 * y97))))) else none) else none)))) else none) else none) else (some (-1000000000 : Int32)))
set_option maxHeartbeats 4000000 in
set_option maxRecDepth 100000 in
theorem tj_Mo_agree_64 {n : Nat} (a1 : Int32) (a2 : Int32) (a3 : Int32) (y35 : Int32) (δ : Dm) (s0_64 : Int32) : AWo k_Mo_agree 4 0 0 64 [(0, .ref 151), (1, .int a1), (2, .int a2), (3, .int a3), (4, .int y35)] [.int s0_64] δ RT n 0 0 (Kp δ RT n) (jp_Mo_agree_64 a1 a2 a3 y35 δ s0_64) := by
  unfold jp_Mo_agree_64
  refine aw_istore (lo' := [(5, .int s0_64), (0, .ref 151), (1, .int a1), (2, .int a2), (3, .int a3), (4, .int y35)]) d_Mo_agree_64 (by decide) rfl ?_
  refine aw_iload d_Mo_agree_66 0 rfl ?_
  refine aw_if_ge (tgt := 75) d_Mo_agree_68 rfl (fun q68 => ?_) (fun q68 => ?_)
  · refine aw_aload_n d_Mo_agree_75 1 rfl ?_
    refine aw_iload_n d_Mo_agree_76 2 rfl ?_
    refine aw_aload_n d_Mo_agree_77 1 rfl ?_
    refine aw_getR (t := 152) fl_Mo_7 kd_151 rt_151_0 d_Mo_agree_78 ?_
    refine aw_iload d_Mo_agree_81 0 rfl ?_
    refine aw_iconst d_Mo_agree_83 ki_1 ?_
    refine aw_iadd d_Mo_agree_84 ?_
    refine aw_iald kd_152 d_Mo_agree_85 ?_
    refine aw_iconst d_Mo_agree_86 ki_1 ?_
    refine aw_iadd d_Mo_agree_87 ?_
    refine aw_aload_n d_Mo_agree_88 1 rfl ?_
    refine aw_getR (t := 152) fl_Mo_7 kd_151 rt_151_0 d_Mo_agree_89 ?_
    refine aw_iload d_Mo_agree_92 5 rfl ?_
    refine aw_iconst d_Mo_agree_94 ki_1 ?_
    refine aw_iadd d_Mo_agree_95 ?_
    refine aw_iald kd_152 d_Mo_agree_96 ?_
    refine aw_V_p (As := [.int a1, .int ((gI δ 152 (ix (s0_64 + (1 : Int32)))) + (1 : Int32)), .int (gI δ 152 (ix (y35 + (1 : Int32))))]) (m_Mo_stripsOn) cv_Mo_346 kd_151 rfl rfl rfl (Nat.le_of_ble_eq_true rfl) ⟨Nat.le_of_ble_eq_true rfl, Nat.le_of_ble_eq_true rfl⟩ ⟨Nat.le_refl _, Nat.le_refl _⟩ d_Mo_agree_97 (fun y97 => ?_)
    refine aw_istore (lo' := [(6, .int y97), (5, .int s0_64), (0, .ref 151), (1, .int a1), (2, .int a2), (3, .int a3), (4, .int y35)]) d_Mo_agree_100 (by decide) rfl ?_
    refine aw_iload_n d_Mo_agree_102 5 rfl ?_
    refine aw_if_ne (tgt := 131) d_Mo_agree_103 rfl (fun q103 => ?_) (fun q103 => ?_)
    · refine aw_aload_n d_Mo_agree_106 2 rfl ?_
      refine aw_getR (t := 152) fl_Mo_7 kd_151 rt_151_0 d_Mo_agree_107 ?_
      refine aw_iload d_Mo_agree_110 6 rfl ?_
      refine aw_iconst d_Mo_agree_112 ki_2 ?_
      refine aw_iadd d_Mo_agree_113 ?_
      refine aw_iald kd_152 d_Mo_agree_114 ?_
      refine aw_aload_n d_Mo_agree_115 2 rfl ?_
      refine aw_getR (t := 152) fl_Mo_7 kd_151 rt_151_0 d_Mo_agree_116 ?_
      refine aw_iload d_Mo_agree_119 1 rfl ?_
      refine aw_iconst d_Mo_agree_121 ki_2 ?_
      refine aw_iadd d_Mo_agree_122 ?_
      refine aw_iald kd_152 d_Mo_agree_123 ?_
      refine aw_isub d_Mo_agree_124 ?_
      refine aw_iload d_Mo_agree_125 0 rfl ?_
      refine aw_isub d_Mo_agree_127 ?_
      refine aw_goto (tgt := 160) d_Mo_agree_128 rfl ?_
      exact aw_iret rfl rfl ⟨Nat.le_refl _, Nat.le_refl _⟩ d_Mo_agree_160
    · refine aw_aload_n d_Mo_agree_131 2 rfl ?_
      refine aw_getR (t := 152) fl_Mo_7 kd_151 rt_151_0 d_Mo_agree_132 ?_
      refine aw_iload d_Mo_agree_135 6 rfl ?_
      refine aw_iconst d_Mo_agree_137 ki_3 ?_
      refine aw_iadd d_Mo_agree_138 ?_
      refine aw_iald kd_152 d_Mo_agree_139 ?_
      refine aw_aload_n d_Mo_agree_140 2 rfl ?_
      refine aw_getR (t := 152) fl_Mo_7 kd_151 rt_151_0 d_Mo_agree_141 ?_
      refine aw_iload d_Mo_agree_144 1 rfl ?_
      refine aw_iconst d_Mo_agree_146 ki_3 ?_
      refine aw_iadd d_Mo_agree_147 ?_
      refine aw_iald kd_152 d_Mo_agree_148 ?_
      refine aw_isub d_Mo_agree_149 ?_
      refine aw_aload_n d_Mo_agree_150 2 rfl ?_
      refine aw_iload_n d_Mo_agree_151 3 rfl ?_
      refine aw_iconst d_Mo_agree_152 ki_1 ?_
      refine aw_V_p (As := [.int a1, .int (1 : Int32)]) (m_Mo_cell) cv_Mo_265 kd_151 rfl rfl rfl (Nat.le_of_ble_eq_true rfl) ⟨Nat.le_of_ble_eq_true rfl, Nat.le_of_ble_eq_true rfl⟩ ⟨Nat.le_refl _, Nat.le_refl _⟩ d_Mo_agree_153 (fun y153 => ?_)
      refine aw_iload d_Mo_agree_156 0 rfl ?_
      refine aw_imul d_Mo_agree_158 ?_
      refine aw_isub d_Mo_agree_159 ?_
      exact aw_iret rfl rfl ⟨Nat.le_refl _, Nat.le_refl _⟩ d_Mo_agree_160
  · refine aw_ldcw (v := (-1000000000 : Int32)) d_Mo_agree_71 kc_Mo_345 ?_
    exact aw_iret rfl rfl ⟨Nat.le_refl _, Nat.le_refl _⟩ d_Mo_agree_74
def f_Mo_agree (a1 : Int32) (a2 : Int32) (a3 : Int32) (δ : Dm) : Option Int32 := ((f_Mo_isBooth a1 δ).bind (fun y2 => (if y2 = 0 then (some (-2000000000 : Int32)) else ((f_Mo_isDay a2 δ).bind (fun y9 => (if y9 = 0 then (some (-2000000000 : Int32)) else ((f_Mo_in ((a3).toInt64) (0 : Int64) (1 : Int64) δ).bind (fun y19 => (if y19 = 0 then (some (-2000000000 : Int32)) else ((f_Mo_latest a1 a2 (400 : Int32) δ).bind (fun y35 => (if 0 ≤ y35 then (if inb (y35 + (1 : Int32)) 8918 then ((f_Mo_latest a1 a2 (gI δ 152 (ix (y35 + (1 : Int32)))) δ).bind (fun y61 => (jp_Mo_agree_64 a1 a2 a3 y35 δ y61))) else none) else (jp_Mo_agree_64 a1 a2 a3 y35 δ (-1 : Int32))))))))))))))
set_option maxHeartbeats 4000000 in
set_option maxRecDepth 100000 in
theorem m_Mo_agree {a1 : Int32} {a2 : Int32} {a3 : Int32} {δ : Dm} {n : Nat} : ∀ x, f_Mo_agree a1 a2 a3 δ = some x → AMet k_Mo_agree 4 0 0 [.ref 151, .int a1, .int a2, .int a3] δ RT n (Kp δ RT n x) := by
  refine aw_start (lo := [(0, .ref 151), (1, .int a1), (2, .int a2), (3, .int a3)]) mok_Mo_agree rfl (Nat.le_of_ble_eq_true rfl) ?_
  unfold f_Mo_agree
  refine aw_aload_n d_Mo_agree_0 0 rfl ?_
  refine aw_iload_n d_Mo_agree_1 1 rfl ?_
  refine aw_V_p (As := [.int a1]) (m_Mo_isBooth) cv_Mo_278 kd_151 rfl rfl rfl (Nat.le_of_ble_eq_true rfl) ⟨Nat.le_of_ble_eq_true rfl, Nat.le_of_ble_eq_true rfl⟩ ⟨Nat.le_refl _, Nat.le_refl _⟩ d_Mo_agree_2 (fun y2 => ?_)
  refine aw_if_eq (tgt := 25) d_Mo_agree_5 rfl (fun q5 => ?_) (fun q5 => ?_)
  · refine aw_ldcw (v := (-2000000000 : Int32)) d_Mo_agree_25 kc_Mo_341 ?_
    exact aw_iret rfl rfl ⟨Nat.le_refl _, Nat.le_refl _⟩ d_Mo_agree_28
  · refine aw_iload_n d_Mo_agree_8 2 rfl ?_
    refine aw_S_p (As := [.int a2]) (m_Mo_isDay) cs_Mo_74 rfl rfl (Nat.le_of_ble_eq_true rfl) ⟨Nat.le_of_ble_eq_true rfl, Nat.le_of_ble_eq_true rfl⟩ ⟨Nat.le_refl _, Nat.le_refl _⟩ d_Mo_agree_9 (fun y9 => ?_)
    refine aw_if_eq (tgt := 25) d_Mo_agree_12 rfl (fun q12 => ?_) (fun q12 => ?_)
    · refine aw_ldcw (v := (-2000000000 : Int32)) d_Mo_agree_25 kc_Mo_341 ?_
      exact aw_iret rfl rfl ⟨Nat.le_refl _, Nat.le_refl _⟩ d_Mo_agree_28
    · refine aw_iload_n d_Mo_agree_15 3 rfl ?_
      refine aw_i2l d_Mo_agree_16 ?_
      refine aw_lconst d_Mo_agree_17 kl_0 ?_
      refine aw_lconst d_Mo_agree_18 kl_1 ?_
      refine aw_S_p (As := [.long ((a3).toInt64), .long (0 : Int64), .long (1 : Int64)]) (m_Mo_in) cs_Mo_64 rfl rfl (Nat.le_of_ble_eq_true rfl) ⟨Nat.le_of_ble_eq_true rfl, Nat.le_of_ble_eq_true rfl⟩ ⟨Nat.le_refl _, Nat.le_refl _⟩ d_Mo_agree_19 (fun y19 => ?_)
      refine aw_if_ne (tgt := 29) d_Mo_agree_22 rfl (fun q22 => ?_) (fun q22 => ?_)
      · refine aw_ldcw (v := (-2000000000 : Int32)) d_Mo_agree_25 kc_Mo_341 ?_
        exact aw_iret rfl rfl ⟨Nat.le_refl _, Nat.le_refl _⟩ d_Mo_agree_28
      · refine aw_aload_n d_Mo_agree_29 0 rfl ?_
        refine aw_iload_n d_Mo_agree_30 1 rfl ?_
        refine aw_iload_n d_Mo_agree_31 2 rfl ?_
        refine aw_sipush d_Mo_agree_32 ks_400 ?_
        refine aw_V_p (As := [.int a1, .int a2, .int (400 : Int32)]) (m_Mo_latest) cv_Mo_342 kd_151 rfl rfl rfl (Nat.le_of_ble_eq_true rfl) ⟨Nat.le_of_ble_eq_true rfl, Nat.le_of_ble_eq_true rfl⟩ ⟨Nat.le_refl _, Nat.le_refl _⟩ d_Mo_agree_35 (fun y35 => ?_)
        refine aw_istore (lo' := [(4, .int y35), (0, .ref 151), (1, .int a1), (2, .int a2), (3, .int a3)]) d_Mo_agree_38 (by decide) rfl ?_
        refine aw_iload d_Mo_agree_40 0 rfl ?_
        refine aw_if_ge (tgt := 49) d_Mo_agree_42 rfl (fun q42 => ?_) (fun q42 => ?_)
        · refine aw_aload_n d_Mo_agree_49 1 rfl ?_
          refine aw_iload_n d_Mo_agree_50 2 rfl ?_
          refine aw_iload_n d_Mo_agree_51 3 rfl ?_
          refine aw_aload_n d_Mo_agree_52 1 rfl ?_
          refine aw_getR (t := 152) fl_Mo_7 kd_151 rt_151_0 d_Mo_agree_53 ?_
          refine aw_iload d_Mo_agree_56 0 rfl ?_
          refine aw_iconst d_Mo_agree_58 ki_1 ?_
          refine aw_iadd d_Mo_agree_59 ?_
          refine aw_iald kd_152 d_Mo_agree_60 ?_
          refine aw_V_p (As := [.int a1, .int a2, .int (gI δ 152 (ix (y35 + (1 : Int32))))]) (m_Mo_latest) cv_Mo_342 kd_151 rfl rfl rfl (Nat.le_of_ble_eq_true rfl) ⟨Nat.le_of_ble_eq_true rfl, Nat.le_of_ble_eq_true rfl⟩ ⟨Nat.le_refl _, Nat.le_refl _⟩ d_Mo_agree_61 (fun y61 => ?_)
          refine aw_sub (lo' := [(0, .ref 151), (1, .int a1), (2, .int a2), (3, .int a3), (4, .int y35)]) [1, 2, 3, 4, 0] rfl ?_
          exact tj_Mo_agree_64 _ _ _ _ _ _
        · refine aw_iconst d_Mo_agree_45 ki_m1 ?_
          refine aw_goto (tgt := 64) d_Mo_agree_46 rfl ?_
          refine aw_sub (lo' := [(0, .ref 151), (1, .int a1), (2, .int a2), (3, .int a3), (4, .int y35)]) [1, 2, 3, 4, 0] rfl ?_
          exact tj_Mo_agree_64 _ _ _ _ _ _
def f_Mo_claim (a1 : Int32) (a2 : Int32) (a3 : Int32) (δ : Dm) : Option (Int32 × Dm) := (if inb (6 : Int32) 8918 then (if (gI δ 152 (ix (6 : Int32))) = (100 : Int32) then (some ((-1 : Int32), δ)) else ((f_Mo_in ((a1).toInt64) (0 : Int64) (31 : Int64) δ).bind (fun y18 => (if y18 = 0 then (some ((-1 : Int32), δ)) else ((f_Mo_isBooth a2 δ).bind (fun y26 => (if y26 = 0 then (some ((-1 : Int32), δ)) else ((f_Mo_isPast a3 δ).bind (fun y34 => (if y34 = 0 then (some ((-1 : Int32), δ)) else (if inb (6 : Int32) 8918 then (bnd ((8426 : Int32) + ((3 : Int32) * (gI δ 152 (ix (6 : Int32))))) (fun v55 => (if inb v55 8918 then bnd (sI δ 152 (ix v55) a1) (fun δ_64 => (if inb (v55 + (1 : Int32)) 8918 then bnd (sI δ_64 152 (ix (v55 + (1 : Int32))) a2) (fun δ_74 => (if inb (v55 + (2 : Int32)) 8918 then bnd (sI δ_74 152 (ix (v55 + (2 : Int32))) a3) (fun δ_84 => (if inb (6 : Int32) 8918 then (if inb (6 : Int32) 8918 then bnd (sI δ_84 152 (ix (6 : Int32)) ((gI δ_84 152 (ix (6 : Int32))) + (1 : Int32))) (fun δ_95 => (if inb (6 : Int32) 8918 then (some (((gI δ_95 152 (ix (6 : Int32))) - (1 : Int32)), δ_95)) else none)) else none) else none)) else none)) else none)) else none))) else none))))))))))) else none)
set_option maxHeartbeats 4000000 in
set_option maxRecDepth 100000 in
theorem m_Mo_claim {a1 : Int32} {a2 : Int32} {a3 : Int32} {δ : Dm} {n : Nat} : ∀ x, f_Mo_claim a1 a2 a3 δ = some x → AMet k_Mo_claim 2 0 0 [.ref 151, .int a1, .int a2, .int a3] δ RT n (Km RT n x) := by
  refine aw_start (lo := [(0, .ref 151), (1, .int a1), (2, .int a2), (3, .int a3)]) mok_Mo_claim rfl (Nat.le_of_ble_eq_true rfl) ?_
  unfold f_Mo_claim
  refine aw_aload_n d_Mo_claim_0 0 rfl ?_
  refine aw_getR (t := 152) fl_Mo_7 kd_151 rt_151_0 d_Mo_claim_1 ?_
  refine aw_bipush d_Mo_claim_4 kb_6 ?_
  refine aw_iald kd_152 d_Mo_claim_6 ?_
  refine aw_bipush d_Mo_claim_7 kb_100 ?_
  refine aw_icmp_eq (tgt := 40) d_Mo_claim_9 rfl (fun q9 => ?_) (fun q9 => ?_)
  · refine aw_iconst d_Mo_claim_40 ki_m1 ?_
    exact aw_iret rfl rfl ⟨Nat.le_refl _, Nat.le_refl _⟩ d_Mo_claim_41
  · refine aw_iload_n d_Mo_claim_12 1 rfl ?_
    refine aw_i2l d_Mo_claim_13 ?_
    refine aw_lconst d_Mo_claim_14 kl_0 ?_
    refine aw_ldc2 (v := (31 : Int64)) d_Mo_claim_15 kc_Mo_349 ?_
    refine aw_S_p (As := [.long ((a1).toInt64), .long (0 : Int64), .long (31 : Int64)]) (m_Mo_in) cs_Mo_64 rfl rfl (Nat.le_of_ble_eq_true rfl) ⟨Nat.le_of_ble_eq_true rfl, Nat.le_of_ble_eq_true rfl⟩ ⟨Nat.le_refl _, Nat.le_refl _⟩ d_Mo_claim_18 (fun y18 => ?_)
    refine aw_if_eq (tgt := 40) d_Mo_claim_21 rfl (fun q21 => ?_) (fun q21 => ?_)
    · refine aw_iconst d_Mo_claim_40 ki_m1 ?_
      exact aw_iret rfl rfl ⟨Nat.le_refl _, Nat.le_refl _⟩ d_Mo_claim_41
    · refine aw_aload_n d_Mo_claim_24 0 rfl ?_
      refine aw_iload_n d_Mo_claim_25 2 rfl ?_
      refine aw_V_p (As := [.int a2]) (m_Mo_isBooth) cv_Mo_278 kd_151 rfl rfl rfl (Nat.le_of_ble_eq_true rfl) ⟨Nat.le_of_ble_eq_true rfl, Nat.le_of_ble_eq_true rfl⟩ ⟨Nat.le_refl _, Nat.le_refl _⟩ d_Mo_claim_26 (fun y26 => ?_)
      refine aw_if_eq (tgt := 40) d_Mo_claim_29 rfl (fun q29 => ?_) (fun q29 => ?_)
      · refine aw_iconst d_Mo_claim_40 ki_m1 ?_
        exact aw_iret rfl rfl ⟨Nat.le_refl _, Nat.le_refl _⟩ d_Mo_claim_41
      · refine aw_aload_n d_Mo_claim_32 0 rfl ?_
        refine aw_iload_n d_Mo_claim_33 3 rfl ?_
        refine aw_V_p (As := [.int a3]) (m_Mo_isPast) cv_Mo_334 kd_151 rfl rfl rfl (Nat.le_of_ble_eq_true rfl) ⟨Nat.le_of_ble_eq_true rfl, Nat.le_of_ble_eq_true rfl⟩ ⟨Nat.le_refl _, Nat.le_refl _⟩ d_Mo_claim_34 (fun y34 => ?_)
        refine aw_if_ne (tgt := 42) d_Mo_claim_37 rfl (fun q37 => ?_) (fun q37 => ?_)
        · refine aw_iconst d_Mo_claim_40 ki_m1 ?_
          exact aw_iret rfl rfl ⟨Nat.le_refl _, Nat.le_refl _⟩ d_Mo_claim_41
        · refine aw_sipush d_Mo_claim_42 ks_8426 ?_
          refine aw_iconst d_Mo_claim_45 ki_3 ?_
          refine aw_aload_n d_Mo_claim_46 0 rfl ?_
          refine aw_getR (t := 152) fl_Mo_7 kd_151 rt_151_0 d_Mo_claim_47 ?_
          refine aw_bipush d_Mo_claim_50 kb_6 ?_
          refine aw_iald kd_152 d_Mo_claim_52 ?_
          refine aw_imul d_Mo_claim_53 ?_
          refine aw_iadd d_Mo_claim_54 ?_
          refine aw_bI (fun v55 => ?_)
          refine aw_istore (lo' := [(4, .int v55), (0, .ref 151), (1, .int a1), (2, .int a2), (3, .int a3)]) d_Mo_claim_55 (by decide) rfl ?_
          refine aw_aload_n d_Mo_claim_57 1 rfl ?_
          refine aw_getR (t := 152) fl_Mo_7 kd_151 rt_151_0 d_Mo_claim_58 ?_
          refine aw_iload d_Mo_claim_61 0 rfl ?_
          refine aw_iload_n d_Mo_claim_63 2 rfl ?_
          refine aw_iast kd_152 d_Mo_claim_64 ?_
          refine aw_bD (fun δ_64 => ?_)
          refine aw_aload_n d_Mo_claim_65 1 rfl ?_
          refine aw_getR (t := 152) fl_Mo_7 kd_151 rt_151_0 d_Mo_claim_66 ?_
          refine aw_iload d_Mo_claim_69 0 rfl ?_
          refine aw_iconst d_Mo_claim_71 ki_1 ?_
          refine aw_iadd d_Mo_claim_72 ?_
          refine aw_iload_n d_Mo_claim_73 3 rfl ?_
          refine aw_iast kd_152 d_Mo_claim_74 ?_
          refine aw_bD (fun δ_74 => ?_)
          refine aw_aload_n d_Mo_claim_75 1 rfl ?_
          refine aw_getR (t := 152) fl_Mo_7 kd_151 rt_151_0 d_Mo_claim_76 ?_
          refine aw_iload d_Mo_claim_79 0 rfl ?_
          refine aw_iconst d_Mo_claim_81 ki_2 ?_
          refine aw_iadd d_Mo_claim_82 ?_
          refine aw_iload_n d_Mo_claim_83 4 rfl ?_
          refine aw_iast kd_152 d_Mo_claim_84 ?_
          refine aw_bD (fun δ_84 => ?_)
          refine aw_aload_n d_Mo_claim_85 1 rfl ?_
          refine aw_getR (t := 152) fl_Mo_7 kd_151 rt_151_0 d_Mo_claim_86 ?_
          refine aw_bipush d_Mo_claim_89 kb_6 ?_
          refine aw_dup2 d_Mo_claim_91 rfl rfl ?_
          refine aw_iald kd_152 d_Mo_claim_92 ?_
          refine aw_iconst d_Mo_claim_93 ki_1 ?_
          refine aw_iadd d_Mo_claim_94 ?_
          refine aw_iast kd_152 d_Mo_claim_95 ?_
          refine aw_bD (fun δ_95 => ?_)
          refine aw_aload_n d_Mo_claim_96 1 rfl ?_
          refine aw_getR (t := 152) fl_Mo_7 kd_151 rt_151_0 d_Mo_claim_97 ?_
          refine aw_bipush d_Mo_claim_100 kb_6 ?_
          refine aw_iald kd_152 d_Mo_claim_102 ?_
          refine aw_iconst d_Mo_claim_103 ki_1 ?_
          refine aw_isub d_Mo_claim_104 ?_
          exact aw_iret rfl rfl ⟨Nat.le_refl _, Nat.le_refl _⟩ d_Mo_claim_105
def f_Mo_areOne (a1 : Int32) (a2 : Int32) (δ : Dm) : Option Int32 := (if inb (((8426 : Int32) + ((3 : Int32) * a1)) + (1 : Int32)) 8918 then (if inb (((8426 : Int32) + ((3 : Int32) * a2)) + (1 : Int32)) 8918 then (if (gI δ 152 (ix (((8426 : Int32) + ((3 : Int32) * a1)) + (1 : Int32)))) = (gI δ 152 (ix (((8426 : Int32) + ((3 : Int32) * a2)) + (1 : Int32)))) then (if inb (((8426 : Int32) + ((3 : Int32) * a1)) + (2 : Int32)) 8918 then (if inb (((8426 : Int32) + ((3 : Int32) * a2)) + (2 : Int32)) 8918 then (if (gI δ 152 (ix (((8426 : Int32) + ((3 : Int32) * a1)) + (2 : Int32)))) = (gI δ 152 (ix (((8426 : Int32) + ((3 : Int32) * a2)) + (2 : Int32)))) then (some (1 : Int32)) else (some (0 : Int32))) else none) else none) else (some (0 : Int32))) else none) else none)
set_option maxHeartbeats 4000000 in
set_option maxRecDepth 100000 in
theorem m_Mo_areOne {a1 : Int32} {a2 : Int32} {δ : Dm} {n : Nat} : ∀ x, f_Mo_areOne a1 a2 δ = some x → AMet k_Mo_areOne 1 0 0 [.ref 151, .int a1, .int a2] δ RT n (Kp δ RT n x) := by
  refine aw_start (lo := [(0, .ref 151), (1, .int a1), (2, .int a2)]) mok_Mo_areOne rfl (Nat.le_of_ble_eq_true rfl) ?_
  unfold f_Mo_areOne
  refine aw_aload_n d_Mo_areOne_0 0 rfl ?_
  refine aw_getR (t := 152) fl_Mo_7 kd_151 rt_151_0 d_Mo_areOne_1 ?_
  refine aw_sipush d_Mo_areOne_4 ks_8426 ?_
  refine aw_iconst d_Mo_areOne_7 ki_3 ?_
  refine aw_iload_n d_Mo_areOne_8 1 rfl ?_
  refine aw_imul d_Mo_areOne_9 ?_
  refine aw_iadd d_Mo_areOne_10 ?_
  refine aw_iconst d_Mo_areOne_11 ki_1 ?_
  refine aw_iadd d_Mo_areOne_12 ?_
  refine aw_iald kd_152 d_Mo_areOne_13 ?_
  refine aw_aload_n d_Mo_areOne_14 0 rfl ?_
  refine aw_getR (t := 152) fl_Mo_7 kd_151 rt_151_0 d_Mo_areOne_15 ?_
  refine aw_sipush d_Mo_areOne_18 ks_8426 ?_
  refine aw_iconst d_Mo_areOne_21 ki_3 ?_
  refine aw_iload_n d_Mo_areOne_22 2 rfl ?_
  refine aw_imul d_Mo_areOne_23 ?_
  refine aw_iadd d_Mo_areOne_24 ?_
  refine aw_iconst d_Mo_areOne_25 ki_1 ?_
  refine aw_iadd d_Mo_areOne_26 ?_
  refine aw_iald kd_152 d_Mo_areOne_27 ?_
  refine aw_icmp_ne (tgt := 66) d_Mo_areOne_28 rfl (fun q28 => ?_) (fun q28 => ?_)
  · refine aw_aload_n d_Mo_areOne_31 0 rfl ?_
    refine aw_getR (t := 152) fl_Mo_7 kd_151 rt_151_0 d_Mo_areOne_32 ?_
    refine aw_sipush d_Mo_areOne_35 ks_8426 ?_
    refine aw_iconst d_Mo_areOne_38 ki_3 ?_
    refine aw_iload_n d_Mo_areOne_39 1 rfl ?_
    refine aw_imul d_Mo_areOne_40 ?_
    refine aw_iadd d_Mo_areOne_41 ?_
    refine aw_iconst d_Mo_areOne_42 ki_2 ?_
    refine aw_iadd d_Mo_areOne_43 ?_
    refine aw_iald kd_152 d_Mo_areOne_44 ?_
    refine aw_aload_n d_Mo_areOne_45 0 rfl ?_
    refine aw_getR (t := 152) fl_Mo_7 kd_151 rt_151_0 d_Mo_areOne_46 ?_
    refine aw_sipush d_Mo_areOne_49 ks_8426 ?_
    refine aw_iconst d_Mo_areOne_52 ki_3 ?_
    refine aw_iload_n d_Mo_areOne_53 2 rfl ?_
    refine aw_imul d_Mo_areOne_54 ?_
    refine aw_iadd d_Mo_areOne_55 ?_
    refine aw_iconst d_Mo_areOne_56 ki_2 ?_
    refine aw_iadd d_Mo_areOne_57 ?_
    refine aw_iald kd_152 d_Mo_areOne_58 ?_
    refine aw_icmp_ne (tgt := 66) d_Mo_areOne_59 rfl (fun q59 => ?_) (fun q59 => ?_)
    · refine aw_iconst d_Mo_areOne_62 ki_1 ?_
      refine aw_goto (tgt := 67) d_Mo_areOne_63 rfl ?_
      exact aw_zret rfl rfl rfl ⟨Nat.le_refl _, Nat.le_refl _⟩ d_Mo_areOne_67
    · refine aw_iconst d_Mo_areOne_66 ki_0 ?_
      exact aw_zret rfl rfl rfl ⟨Nat.le_refl _, Nat.le_refl _⟩ d_Mo_areOne_67
  · refine aw_iconst d_Mo_areOne_66 ki_0 ?_
    exact aw_zret rfl rfl rfl ⟨Nat.le_refl _, Nat.le_refl _⟩ d_Mo_areOne_67
def lp_Mo_isFair_85 (kx85_113 : Int32 → Int32 → Option Int32) (a1 : Int32) (δ : Dm) : Nat → Int32 → Int32 → Option Int32
  | 0, _, _ => none
  | f + 1, v2_85, v3_85 => (if a1 ≤ v3_85 then (kx85_113 v2_85 v3_85) else ((f_Mo_areOne a1 v3_85 δ).bind (fun y94 => (if y94 = 0 then (bnd (v2_85 - (0 : Int32)) (fun v106 => (lp_Mo_isFair_85 kx85_113 a1 δ f v106 (v3_85 + (1 : Int32))))) else (bnd (v2_85 - (1 : Int32)) (fun v106_1 => (lp_Mo_isFair_85 kx85_113 a1 δ f v106_1 (v3_85 + (1 : Int32)))))))))
set_option maxHeartbeats 4000000 in
set_option maxRecDepth 100000 in
theorem tl_Mo_isFair_85 {n : Nat} (kx85_113 : Int32 → Int32 → Option Int32) (a1 : Int32) (δ : Dm) (hkx85_113 : ∀ v2_85k v3_85k, AWo k_Mo_isFair 3 0 0 113 [(0, .ref 151), (1, .int a1), (2, .int v2_85k), (3, .int v3_85k)] [] δ RT n 0 0 (Kp δ RT n) (kx85_113 v2_85k v3_85k)) : ∀ (f : Nat) (v2_85 : Int32) (v3_85 : Int32), AWo k_Mo_isFair 3 0 0 85 [(0, .ref 151), (1, .int a1), (2, .int v2_85), (3, .int v3_85)] [] δ RT n 0 0 (Kp δ RT n) (lp_Mo_isFair_85 kx85_113 a1 δ f v2_85 v3_85) := by
  intro f
  induction f with
  | zero => intro _ _; exact aw_none
  | succ f ih =>
    intro v2_85 v3_85
    rw [lp_Mo_isFair_85]
    refine aw_iload_n d_Mo_isFair_85 3 rfl ?_
    refine aw_iload_n d_Mo_isFair_86 1 rfl ?_
    refine aw_icmp_ge (tgt := 113) d_Mo_isFair_87 rfl (fun q87 => ?_) (fun q87 => ?_)
    · refine aw_sub (lo' := [(0, .ref 151), (1, .int a1), (2, .int v2_85), (3, .int v3_85)]) [0, 1, 2, 3] rfl ?_
      exact hkx85_113 _ _
    · refine aw_iload_n d_Mo_isFair_90 2 rfl ?_
      refine aw_aload_n d_Mo_isFair_91 0 rfl ?_
      refine aw_iload_n d_Mo_isFair_92 1 rfl ?_
      refine aw_iload_n d_Mo_isFair_93 3 rfl ?_
      refine aw_V_p (As := [.int a1, .int v3_85]) (m_Mo_areOne) cv_Mo_351 kd_151 rfl rfl rfl (Nat.le_of_ble_eq_true rfl) ⟨Nat.le_of_ble_eq_true rfl, Nat.le_of_ble_eq_true rfl⟩ ⟨Nat.le_refl _, Nat.le_refl _⟩ d_Mo_isFair_94 (fun y94 => ?_)
      refine aw_if_eq (tgt := 104) d_Mo_isFair_97 rfl (fun q97 => ?_) (fun q97 => ?_)
      · refine aw_iconst d_Mo_isFair_104 ki_0 ?_
        refine aw_isub d_Mo_isFair_105 ?_
        refine aw_bI (fun v106 => ?_)
        refine aw_istore_n (lo' := [(2, .int v106), (0, .ref 151), (1, .int a1), (3, .int v3_85)]) d_Mo_isFair_106 rfl (by decide) rfl ?_
        refine aw_iinc (v := (v3_85 + (1 : Int32))) (lo' := [(3, .int (v3_85 + (1 : Int32))), (2, .int v106), (0, .ref 151), (1, .int a1)]) d_Mo_isFair_107 3 rfl (by rw [show Int32.ofInt (1) = (1 : Int32) from by decide]) (by decide) rfl ?_
        refine aw_goto (tgt := 85) d_Mo_isFair_110 rfl ?_
        refine aw_sub (lo' := [(0, .ref 151), (1, .int a1), (2, .int v106), (3, .int (v3_85 + (1 : Int32)))]) [2, 3, 1, 0] rfl ?_
        exact ih _ _
      · refine aw_iconst d_Mo_isFair_100 ki_1 ?_
        refine aw_goto (tgt := 105) d_Mo_isFair_101 rfl ?_
        refine aw_isub d_Mo_isFair_105 ?_
        refine aw_bI (fun v106_1 => ?_)
        refine aw_istore_n (lo' := [(2, .int v106_1), (0, .ref 151), (1, .int a1), (3, .int v3_85)]) d_Mo_isFair_106 rfl (by decide) rfl ?_
        refine aw_iinc (v := (v3_85 + (1 : Int32))) (lo' := [(3, .int (v3_85 + (1 : Int32))), (2, .int v106_1), (0, .ref 151), (1, .int a1)]) d_Mo_isFair_107 3 rfl (by rw [show Int32.ofInt (1) = (1 : Int32) from by decide]) (by decide) rfl ?_
        refine aw_goto (tgt := 85) d_Mo_isFair_110 rfl ?_
        refine aw_sub (lo' := [(0, .ref 151), (1, .int a1), (2, .int v106_1), (3, .int (v3_85 + (1 : Int32)))]) [2, 3, 1, 0] rfl ?_
        exact ih _ _
def lp_Mo_isFair_4 (kx4_83 : Int32 → Int32 → Option Int32) (a1 : Int32) (δ : Dm) : Nat → Int32 → Int32 → Option Int32
  | 0, _, _ => none
  | f + 1, v2_4, v3_4 => (if inb (7 : Int32) 8918 then (if (gI δ 152 (ix (7 : Int32))) ≤ v3_4 then (kx4_83 v2_4 v3_4) else (if inb (((8426 : Int32) + ((3 : Int32) * a1)) + (1 : Int32)) 8918 then ((f_Mo_isStrip v3_4 (gI δ 152 (ix (((8426 : Int32) + ((3 : Int32) * a1)) + (1 : Int32)))) δ).bind (fun y32 => (if y32 = 0 then (bnd (v2_4 + (0 : Int32)) (fun v76 => (lp_Mo_isFair_4 kx4_83 a1 δ f v76 (v3_4 + (1 : Int32))))) else ((f_Mo_event v3_4 (2 : Int32) δ).bind (fun y41 => (if inb (((8426 : Int32) + ((3 : Int32) * a1)) + (2 : Int32)) 8918 then (if y41 = (gI δ 152 (ix (((8426 : Int32) + ((3 : Int32) * a1)) + (2 : Int32)))) then ((f_Mo_event v3_4 (5 : Int32) δ).bind (fun y64 => (if y64 ≤ 0 then (bnd (v2_4 + (0 : Int32)) (fun v76_1 => (lp_Mo_isFair_4 kx4_83 a1 δ f v76_1 (v3_4 + (1 : Int32))))) else (bnd (v2_4 + (1 : Int32)) (fun v76_2 => (lp_Mo_isFair_4 kx4_83 a1 δ f v76_2 (v3_4 + (1 : Int32)))))))) else (bnd (v2_4 + (0 : Int32)) (fun v76_3 => (lp_Mo_isFair_4 kx4_83 a1 δ f v76_3 (v3_4 + (1 : Int32)))))) else none)))))) else none)) else none)
set_option maxHeartbeats 4000000 in
set_option maxRecDepth 100000 in
theorem tl_Mo_isFair_4 {n : Nat} (kx4_83 : Int32 → Int32 → Option Int32) (a1 : Int32) (δ : Dm) (hkx4_83 : ∀ v2_4k v3_4k, AWo k_Mo_isFair 3 0 0 83 [(0, .ref 151), (1, .int a1), (2, .int v2_4k), (3, .int v3_4k)] [] δ RT n 0 0 (Kp δ RT n) (kx4_83 v2_4k v3_4k)) : ∀ (f : Nat) (v2_4 : Int32) (v3_4 : Int32), AWo k_Mo_isFair 3 0 0 4 [(0, .ref 151), (1, .int a1), (2, .int v2_4), (3, .int v3_4)] [] δ RT n 0 0 (Kp δ RT n) (lp_Mo_isFair_4 kx4_83 a1 δ f v2_4 v3_4) := by
  intro f
  induction f with
  | zero => intro _ _; exact aw_none
  | succ f ih =>
    intro v2_4 v3_4
    rw [lp_Mo_isFair_4]
    refine aw_iload_n d_Mo_isFair_4 3 rfl ?_
    refine aw_aload_n d_Mo_isFair_5 0 rfl ?_
    refine aw_getR (t := 152) fl_Mo_7 kd_151 rt_151_0 d_Mo_isFair_6 ?_
    refine aw_bipush d_Mo_isFair_9 kb_7 ?_
    refine aw_iald kd_152 d_Mo_isFair_11 ?_
    refine aw_icmp_ge (tgt := 83) d_Mo_isFair_12 rfl (fun q12 => ?_) (fun q12 => ?_)
    · refine aw_sub (lo' := [(0, .ref 151), (1, .int a1), (2, .int v2_4), (3, .int v3_4)]) [0, 1, 2, 3] rfl ?_
      exact hkx4_83 _ _
    · refine aw_iload_n d_Mo_isFair_15 2 rfl ?_
      refine aw_aload_n d_Mo_isFair_16 0 rfl ?_
      refine aw_iload_n d_Mo_isFair_17 3 rfl ?_
      refine aw_aload_n d_Mo_isFair_18 0 rfl ?_
      refine aw_getR (t := 152) fl_Mo_7 kd_151 rt_151_0 d_Mo_isFair_19 ?_
      refine aw_sipush d_Mo_isFair_22 ks_8426 ?_
      refine aw_iconst d_Mo_isFair_25 ki_3 ?_
      refine aw_iload_n d_Mo_isFair_26 1 rfl ?_
      refine aw_imul d_Mo_isFair_27 ?_
      refine aw_iadd d_Mo_isFair_28 ?_
      refine aw_iconst d_Mo_isFair_29 ki_1 ?_
      refine aw_iadd d_Mo_isFair_30 ?_
      refine aw_iald kd_152 d_Mo_isFair_31 ?_
      refine aw_V_p (As := [.int v3_4, .int (gI δ 152 (ix (((8426 : Int32) + ((3 : Int32) * a1)) + (1 : Int32))))]) (m_Mo_isStrip) cv_Mo_323 kd_151 rfl rfl rfl (Nat.le_of_ble_eq_true rfl) ⟨Nat.le_of_ble_eq_true rfl, Nat.le_of_ble_eq_true rfl⟩ ⟨Nat.le_refl _, Nat.le_refl _⟩ d_Mo_isFair_32 (fun y32 => ?_)
      refine aw_if_eq (tgt := 74) d_Mo_isFair_35 rfl (fun q35 => ?_) (fun q35 => ?_)
      · refine aw_iconst d_Mo_isFair_74 ki_0 ?_
        refine aw_iadd d_Mo_isFair_75 ?_
        refine aw_bI (fun v76 => ?_)
        refine aw_istore_n (lo' := [(2, .int v76), (0, .ref 151), (1, .int a1), (3, .int v3_4)]) d_Mo_isFair_76 rfl (by decide) rfl ?_
        refine aw_iinc (v := (v3_4 + (1 : Int32))) (lo' := [(3, .int (v3_4 + (1 : Int32))), (2, .int v76), (0, .ref 151), (1, .int a1)]) d_Mo_isFair_77 3 rfl (by rw [show Int32.ofInt (1) = (1 : Int32) from by decide]) (by decide) rfl ?_
        refine aw_goto (tgt := 4) d_Mo_isFair_80 rfl ?_
        refine aw_sub (lo' := [(0, .ref 151), (1, .int a1), (2, .int v76), (3, .int (v3_4 + (1 : Int32)))]) [2, 3, 1, 0] rfl ?_
        exact ih _ _
      · refine aw_aload_n d_Mo_isFair_38 0 rfl ?_
        refine aw_iload_n d_Mo_isFair_39 3 rfl ?_
        refine aw_iconst d_Mo_isFair_40 ki_2 ?_
        refine aw_V_p (As := [.int v3_4, .int (2 : Int32)]) (m_Mo_event) cv_Mo_318 kd_151 rfl rfl rfl (Nat.le_of_ble_eq_true rfl) ⟨Nat.le_of_ble_eq_true rfl, Nat.le_of_ble_eq_true rfl⟩ ⟨Nat.le_refl _, Nat.le_refl _⟩ d_Mo_isFair_41 (fun y41 => ?_)
        refine aw_aload_n d_Mo_isFair_44 0 rfl ?_
        refine aw_getR (t := 152) fl_Mo_7 kd_151 rt_151_0 d_Mo_isFair_45 ?_
        refine aw_sipush d_Mo_isFair_48 ks_8426 ?_
        refine aw_iconst d_Mo_isFair_51 ki_3 ?_
        refine aw_iload_n d_Mo_isFair_52 1 rfl ?_
        refine aw_imul d_Mo_isFair_53 ?_
        refine aw_iadd d_Mo_isFair_54 ?_
        refine aw_iconst d_Mo_isFair_55 ki_2 ?_
        refine aw_iadd d_Mo_isFair_56 ?_
        refine aw_iald kd_152 d_Mo_isFair_57 ?_
        refine aw_icmp_ne (tgt := 74) d_Mo_isFair_58 rfl (fun q58 => ?_) (fun q58 => ?_)
        · refine aw_aload_n d_Mo_isFair_61 0 rfl ?_
          refine aw_iload_n d_Mo_isFair_62 3 rfl ?_
          refine aw_iconst d_Mo_isFair_63 ki_5 ?_
          refine aw_V_p (As := [.int v3_4, .int (5 : Int32)]) (m_Mo_event) cv_Mo_318 kd_151 rfl rfl rfl (Nat.le_of_ble_eq_true rfl) ⟨Nat.le_of_ble_eq_true rfl, Nat.le_of_ble_eq_true rfl⟩ ⟨Nat.le_refl _, Nat.le_refl _⟩ d_Mo_isFair_64 (fun y64 => ?_)
          refine aw_if_le (tgt := 74) d_Mo_isFair_67 rfl (fun q67 => ?_) (fun q67 => ?_)
          · refine aw_iconst d_Mo_isFair_74 ki_0 ?_
            refine aw_iadd d_Mo_isFair_75 ?_
            refine aw_bI (fun v76_1 => ?_)
            refine aw_istore_n (lo' := [(2, .int v76_1), (0, .ref 151), (1, .int a1), (3, .int v3_4)]) d_Mo_isFair_76 rfl (by decide) rfl ?_
            refine aw_iinc (v := (v3_4 + (1 : Int32))) (lo' := [(3, .int (v3_4 + (1 : Int32))), (2, .int v76_1), (0, .ref 151), (1, .int a1)]) d_Mo_isFair_77 3 rfl (by rw [show Int32.ofInt (1) = (1 : Int32) from by decide]) (by decide) rfl ?_
            refine aw_goto (tgt := 4) d_Mo_isFair_80 rfl ?_
            refine aw_sub (lo' := [(0, .ref 151), (1, .int a1), (2, .int v76_1), (3, .int (v3_4 + (1 : Int32)))]) [2, 3, 1, 0] rfl ?_
            exact ih _ _
          · refine aw_iconst d_Mo_isFair_70 ki_1 ?_
            refine aw_goto (tgt := 75) d_Mo_isFair_71 rfl ?_
            refine aw_iadd d_Mo_isFair_75 ?_
            refine aw_bI (fun v76_2 => ?_)
            refine aw_istore_n (lo' := [(2, .int v76_2), (0, .ref 151), (1, .int a1), (3, .int v3_4)]) d_Mo_isFair_76 rfl (by decide) rfl ?_
            refine aw_iinc (v := (v3_4 + (1 : Int32))) (lo' := [(3, .int (v3_4 + (1 : Int32))), (2, .int v76_2), (0, .ref 151), (1, .int a1)]) d_Mo_isFair_77 3 rfl (by rw [show Int32.ofInt (1) = (1 : Int32) from by decide]) (by decide) rfl ?_
            refine aw_goto (tgt := 4) d_Mo_isFair_80 rfl ?_
            refine aw_sub (lo' := [(0, .ref 151), (1, .int a1), (2, .int v76_2), (3, .int (v3_4 + (1 : Int32)))]) [2, 3, 1, 0] rfl ?_
            exact ih _ _
        · refine aw_iconst d_Mo_isFair_74 ki_0 ?_
          refine aw_iadd d_Mo_isFair_75 ?_
          refine aw_bI (fun v76_3 => ?_)
          refine aw_istore_n (lo' := [(2, .int v76_3), (0, .ref 151), (1, .int a1), (3, .int v3_4)]) d_Mo_isFair_76 rfl (by decide) rfl ?_
          refine aw_iinc (v := (v3_4 + (1 : Int32))) (lo' := [(3, .int (v3_4 + (1 : Int32))), (2, .int v76_3), (0, .ref 151), (1, .int a1)]) d_Mo_isFair_77 3 rfl (by rw [show Int32.ofInt (1) = (1 : Int32) from by decide]) (by decide) rfl ?_
          refine aw_goto (tgt := 4) d_Mo_isFair_80 rfl ?_
          refine aw_sub (lo' := [(0, .ref 151), (1, .int a1), (2, .int v76_3), (3, .int (v3_4 + (1 : Int32)))]) [2, 3, 1, 0] rfl ?_
          exact ih _ _
def f_Mo_isFair (a1 : Int32) (δ : Dm) : Option Int32 := (lp_Mo_isFair_4 (fun v2_4x v3_4x => (lp_Mo_isFair_85 (fun v2_85x v3_85x => (if v2_85x ≤ 0 then (some (0 : Int32)) else (some (1 : Int32)))) a1 δ FU v2_4x (0 : Int32))) a1 δ FU (0 : Int32) (0 : Int32))
set_option maxHeartbeats 4000000 in
set_option maxRecDepth 100000 in
theorem m_Mo_isFair {a1 : Int32} {δ : Dm} {n : Nat} : ∀ x, f_Mo_isFair a1 δ = some x → AMet k_Mo_isFair 3 0 0 [.ref 151, .int a1] δ RT n (Kp δ RT n x) := by
  refine aw_start (lo := [(0, .ref 151), (1, .int a1)]) mok_Mo_isFair rfl (Nat.le_of_ble_eq_true rfl) ?_
  unfold f_Mo_isFair
  refine aw_iconst d_Mo_isFair_0 ki_0 ?_
  refine aw_istore_n (lo' := [(2, .int (0 : Int32)), (0, .ref 151), (1, .int a1)]) d_Mo_isFair_1 rfl (by decide) rfl ?_
  refine aw_iconst d_Mo_isFair_2 ki_0 ?_
  refine aw_istore_n (lo' := [(3, .int (0 : Int32)), (2, .int (0 : Int32)), (0, .ref 151), (1, .int a1)]) d_Mo_isFair_3 rfl (by decide) rfl ?_
  refine aw_sub (lo' := [(0, .ref 151), (1, .int a1), (2, .int (0 : Int32)), (3, .int (0 : Int32))]) [2, 3, 1, 0] rfl ?_
  refine tl_Mo_isFair_4 _ _ _ (fun v2_4x v3_4x => ?_) FU _ _
  · refine aw_iconst d_Mo_isFair_83 ki_0 ?_
    refine aw_istore_n (lo' := [(3, .int (0 : Int32)), (0, .ref 151), (1, .int a1), (2, .int v2_4x)]) d_Mo_isFair_84 rfl (by decide) rfl ?_
    refine aw_sub (lo' := [(0, .ref 151), (1, .int a1), (2, .int v2_4x), (3, .int (0 : Int32))]) [1, 2, 3, 0] rfl ?_
    refine tl_Mo_isFair_85 _ _ _ (fun v2_85x v3_85x => ?_) FU _ _
    · refine aw_iload_n d_Mo_isFair_113 2 rfl ?_
      refine aw_if_le (tgt := 121) d_Mo_isFair_114 rfl (fun q114 => ?_) (fun q114 => ?_)
      · refine aw_iconst d_Mo_isFair_121 ki_0 ?_
        exact aw_zret rfl rfl rfl ⟨Nat.le_refl _, Nat.le_refl _⟩ d_Mo_isFair_122
      · refine aw_iconst d_Mo_isFair_117 ki_1 ?_
        refine aw_goto (tgt := 122) d_Mo_isFair_118 rfl ?_
        exact aw_zret rfl rfl rfl ⟨Nat.le_refl _, Nat.le_refl _⟩ d_Mo_isFair_122
def lp_Mo_fair_84 (kx84_134 : Int32 → Int32 → Option (Int32 × Dm)) (a1 : Int32) (a2 : Int32) (v61 : Int32) (v76 : Int32) (δ : Dm) : Nat → Int32 → Int32 → Option (Int32 × Dm)
  | 0, _, _ => none
  | f + 1, v5_84, v6_84 => (if a1 < v6_84 then (kx84_134 v5_84 v6_84) else (if inb ((8426 : Int32) + ((3 : Int32) * v6_84)) 8918 then (if inb ((8426 : Int32) + ((3 : Int32) * a1)) 8918 then (if (gI δ 152 (ix ((8426 : Int32) + ((3 : Int32) * v6_84)))) = (gI δ 152 (ix ((8426 : Int32) + ((3 : Int32) * a1)))) then (bnd (v5_84 + (1 : Int32)) (fun v126 => (lp_Mo_fair_84 kx84_134 a1 a2 v61 v76 δ f v126 (v6_84 + (1 : Int32))))) else (bnd (v5_84 + (0 : Int32)) (fun v126_1 => (lp_Mo_fair_84 kx84_134 a1 a2 v61 v76 δ f v126_1 (v6_84 + (1 : Int32)))))) else none) else none))
set_option maxHeartbeats 4000000 in
set_option maxRecDepth 100000 in
theorem tl_Mo_fair_84 {n : Nat} (kx84_134 : Int32 → Int32 → Option (Int32 × Dm)) (a1 : Int32) (a2 : Int32) (v61 : Int32) (v76 : Int32) (δ : Dm) (hkx84_134 : ∀ v5_84k v6_84k, AWo k_Mo_fair 5 0 0 134 [(0, .ref 151), (1, .int a1), (2, .int a2), (3, .int v61), (4, .int v76), (5, .int v5_84k), (6, .int v6_84k)] [] δ RT n 0 0 (Km RT n) (kx84_134 v5_84k v6_84k)) : ∀ (f : Nat) (v5_84 : Int32) (v6_84 : Int32), AWo k_Mo_fair 5 0 0 84 [(0, .ref 151), (1, .int a1), (2, .int a2), (3, .int v61), (4, .int v76), (5, .int v5_84), (6, .int v6_84)] [] δ RT n 0 0 (Km RT n) (lp_Mo_fair_84 kx84_134 a1 a2 v61 v76 δ f v5_84 v6_84) := by
  intro f
  induction f with
  | zero => intro _ _; exact aw_none
  | succ f ih =>
    intro v5_84 v6_84
    rw [lp_Mo_fair_84]
    refine aw_iload d_Mo_fair_84 6 rfl ?_
    refine aw_iload_n d_Mo_fair_86 1 rfl ?_
    refine aw_icmp_gt (tgt := 134) d_Mo_fair_87 rfl (fun q87 => ?_) (fun q87 => ?_)
    · refine aw_sub (lo' := [(0, .ref 151), (1, .int a1), (2, .int a2), (3, .int v61), (4, .int v76), (5, .int v5_84), (6, .int v6_84)]) [0, 1, 2, 3, 4, 5, 6] rfl ?_
      exact hkx84_134 _ _
    · refine aw_iload d_Mo_fair_90 5 rfl ?_
      refine aw_aload_n d_Mo_fair_92 0 rfl ?_
      refine aw_getR (t := 152) fl_Mo_7 kd_151 rt_151_0 d_Mo_fair_93 ?_
      refine aw_sipush d_Mo_fair_96 ks_8426 ?_
      refine aw_iconst d_Mo_fair_99 ki_3 ?_
      refine aw_iload d_Mo_fair_100 6 rfl ?_
      refine aw_imul d_Mo_fair_102 ?_
      refine aw_iadd d_Mo_fair_103 ?_
      refine aw_iald kd_152 d_Mo_fair_104 ?_
      refine aw_aload_n d_Mo_fair_105 0 rfl ?_
      refine aw_getR (t := 152) fl_Mo_7 kd_151 rt_151_0 d_Mo_fair_106 ?_
      refine aw_sipush d_Mo_fair_109 ks_8426 ?_
      refine aw_iconst d_Mo_fair_112 ki_3 ?_
      refine aw_iload_n d_Mo_fair_113 1 rfl ?_
      refine aw_imul d_Mo_fair_114 ?_
      refine aw_iadd d_Mo_fair_115 ?_
      refine aw_iald kd_152 d_Mo_fair_116 ?_
      refine aw_icmp_ne (tgt := 124) d_Mo_fair_117 rfl (fun q117 => ?_) (fun q117 => ?_)
      · refine aw_iconst d_Mo_fair_120 ki_1 ?_
        refine aw_goto (tgt := 125) d_Mo_fair_121 rfl ?_
        refine aw_iadd d_Mo_fair_125 ?_
        refine aw_bI (fun v126 => ?_)
        refine aw_istore (lo' := [(5, .int v126), (0, .ref 151), (1, .int a1), (2, .int a2), (3, .int v61), (4, .int v76), (6, .int v6_84)]) d_Mo_fair_126 (by decide) rfl ?_
        refine aw_iinc (v := (v6_84 + (1 : Int32))) (lo' := [(6, .int (v6_84 + (1 : Int32))), (5, .int v126), (0, .ref 151), (1, .int a1), (2, .int a2), (3, .int v61), (4, .int v76)]) d_Mo_fair_128 6 rfl (by rw [show Int32.ofInt (1) = (1 : Int32) from by decide]) (by decide) rfl ?_
        refine aw_goto (tgt := 84) d_Mo_fair_131 rfl ?_
        refine aw_sub (lo' := [(0, .ref 151), (1, .int a1), (2, .int a2), (3, .int v61), (4, .int v76), (5, .int v126), (6, .int (v6_84 + (1 : Int32)))]) [2, 3, 4, 5, 6, 1, 0] rfl ?_
        exact ih _ _
      · refine aw_iconst d_Mo_fair_124 ki_0 ?_
        refine aw_iadd d_Mo_fair_125 ?_
        refine aw_bI (fun v126_1 => ?_)
        refine aw_istore (lo' := [(5, .int v126_1), (0, .ref 151), (1, .int a1), (2, .int a2), (3, .int v61), (4, .int v76), (6, .int v6_84)]) d_Mo_fair_126 (by decide) rfl ?_
        refine aw_iinc (v := (v6_84 + (1 : Int32))) (lo' := [(6, .int (v6_84 + (1 : Int32))), (5, .int v126_1), (0, .ref 151), (1, .int a1), (2, .int a2), (3, .int v61), (4, .int v76)]) d_Mo_fair_128 6 rfl (by rw [show Int32.ofInt (1) = (1 : Int32) from by decide]) (by decide) rfl ?_
        refine aw_goto (tgt := 84) d_Mo_fair_131 rfl ?_
        refine aw_sub (lo' := [(0, .ref 151), (1, .int a1), (2, .int a2), (3, .int v61), (4, .int v76), (5, .int v126_1), (6, .int (v6_84 + (1 : Int32)))]) [2, 3, 4, 5, 6, 1, 0] rfl ?_
        exact ih _ _
def f_Mo_fair (a1 : Int32) (a2 : Int32) (δ : Dm) : Option (Int32 × Dm) := (if inb (6 : Int32) 8918 then ((f_Mo_in ((a1).toInt64) (0 : Int64) ((((gI δ 152 (ix (6 : Int32))) - (1 : Int32))).toInt64) δ).bind (fun y13 => (if y13 = 0 then (some ((-1 : Int32), δ)) else ((f_Mo_in ((a2).toInt64) (0 : Int64) (1 : Int64) δ).bind (fun y23 => (if y23 = 0 then (some ((-1 : Int32), δ)) else ((f_Mo_isFair a1 δ).bind (fun y33 => (if y33 = 0 then (if a2 = 0 then (some ((0 : Int32), δ)) else (if inb (((8426 : Int32) + ((3 : Int32) * a1)) + (1 : Int32)) 8918 then (bnd (gI δ 152 (ix (((8426 : Int32) + ((3 : Int32) * a1)) + (1 : Int32)))) (fun v61 => (if inb (((8426 : Int32) + ((3 : Int32) * a1)) + (2 : Int32)) 8918 then (bnd (gI δ 152 (ix (((8426 : Int32) + ((3 : Int32) * a1)) + (2 : Int32)))) (fun v76 => (lp_Mo_fair_84 (fun v5_84x v6_84x => ((f_Mo_stripsOn v61 v76 v76 δ).bind (fun y146 => ((f_Mo_words v61 (0 : Int32) (0 : Int32) v76 y146 v5_84x δ).bind (fun y151 => ((f_Mo_cell v61 (2 : Int32) y151).bind (fun y158 => ((f_Mo_holds y158 (9 : Int32) y151).bind (fun y163 => bnd y163.1 (fun v163 => bnd y163.2 (fun δ_163 => (if v163 = 0 then (some ((0 : Int32), δ_163)) else (some ((1 : Int32), δ_163)))))))))))))) a1 a2 v61 v76 δ FU (0 : Int32) (0 : Int32)))) else none))) else none)) else (some ((1 : Int32), δ))))))))))) else none)
set_option maxHeartbeats 4000000 in
set_option maxRecDepth 100000 in
theorem m_Mo_fair {a1 : Int32} {a2 : Int32} {δ : Dm} {n : Nat} : ∀ x, f_Mo_fair a1 a2 δ = some x → AMet k_Mo_fair 5 0 0 [.ref 151, .int a1, .int a2] δ RT n (Km RT n x) := by
  refine aw_start (lo := [(0, .ref 151), (1, .int a1), (2, .int a2)]) mok_Mo_fair rfl (Nat.le_of_ble_eq_true rfl) ?_
  unfold f_Mo_fair
  refine aw_iload_n d_Mo_fair_0 1 rfl ?_
  refine aw_i2l d_Mo_fair_1 ?_
  refine aw_lconst d_Mo_fair_2 kl_0 ?_
  refine aw_aload_n d_Mo_fair_3 0 rfl ?_
  refine aw_getR (t := 152) fl_Mo_7 kd_151 rt_151_0 d_Mo_fair_4 ?_
  refine aw_bipush d_Mo_fair_7 kb_6 ?_
  refine aw_iald kd_152 d_Mo_fair_9 ?_
  refine aw_iconst d_Mo_fair_10 ki_1 ?_
  refine aw_isub d_Mo_fair_11 ?_
  refine aw_i2l d_Mo_fair_12 ?_
  refine aw_S_p (As := [.long ((a1).toInt64), .long (0 : Int64), .long ((((gI δ 152 (ix (6 : Int32))) - (1 : Int32))).toInt64)]) (m_Mo_in) cs_Mo_64 rfl rfl (Nat.le_of_ble_eq_true rfl) ⟨Nat.le_of_ble_eq_true rfl, Nat.le_of_ble_eq_true rfl⟩ ⟨Nat.le_refl _, Nat.le_refl _⟩ d_Mo_fair_13 (fun y13 => ?_)
  refine aw_if_eq (tgt := 29) d_Mo_fair_16 rfl (fun q16 => ?_) (fun q16 => ?_)
  · refine aw_iconst d_Mo_fair_29 ki_m1 ?_
    exact aw_iret rfl rfl ⟨Nat.le_refl _, Nat.le_refl _⟩ d_Mo_fair_30
  · refine aw_iload_n d_Mo_fair_19 2 rfl ?_
    refine aw_i2l d_Mo_fair_20 ?_
    refine aw_lconst d_Mo_fair_21 kl_0 ?_
    refine aw_lconst d_Mo_fair_22 kl_1 ?_
    refine aw_S_p (As := [.long ((a2).toInt64), .long (0 : Int64), .long (1 : Int64)]) (m_Mo_in) cs_Mo_64 rfl rfl (Nat.le_of_ble_eq_true rfl) ⟨Nat.le_of_ble_eq_true rfl, Nat.le_of_ble_eq_true rfl⟩ ⟨Nat.le_refl _, Nat.le_refl _⟩ d_Mo_fair_23 (fun y23 => ?_)
    refine aw_if_ne (tgt := 31) d_Mo_fair_26 rfl (fun q26 => ?_) (fun q26 => ?_)
    · refine aw_iconst d_Mo_fair_29 ki_m1 ?_
      exact aw_iret rfl rfl ⟨Nat.le_refl _, Nat.le_refl _⟩ d_Mo_fair_30
    · refine aw_aload_n d_Mo_fair_31 0 rfl ?_
      refine aw_iload_n d_Mo_fair_32 1 rfl ?_
      refine aw_V_p (As := [.int a1]) (m_Mo_isFair) cv_Mo_354 kd_151 rfl rfl rfl (Nat.le_of_ble_eq_true rfl) ⟨Nat.le_of_ble_eq_true rfl, Nat.le_of_ble_eq_true rfl⟩ ⟨Nat.le_refl _, Nat.le_refl _⟩ d_Mo_fair_33 (fun y33 => ?_)
      refine aw_if_eq (tgt := 41) d_Mo_fair_36 rfl (fun q36 => ?_) (fun q36 => ?_)
      · refine aw_iload_n d_Mo_fair_41 2 rfl ?_
        refine aw_if_ne (tgt := 47) d_Mo_fair_42 rfl (fun q42 => ?_) (fun q42 => ?_)
        · refine aw_iconst d_Mo_fair_45 ki_0 ?_
          exact aw_iret rfl rfl ⟨Nat.le_refl _, Nat.le_refl _⟩ d_Mo_fair_46
        · refine aw_aload_n d_Mo_fair_47 0 rfl ?_
          refine aw_getR (t := 152) fl_Mo_7 kd_151 rt_151_0 d_Mo_fair_48 ?_
          refine aw_sipush d_Mo_fair_51 ks_8426 ?_
          refine aw_iconst d_Mo_fair_54 ki_3 ?_
          refine aw_iload_n d_Mo_fair_55 1 rfl ?_
          refine aw_imul d_Mo_fair_56 ?_
          refine aw_iadd d_Mo_fair_57 ?_
          refine aw_iconst d_Mo_fair_58 ki_1 ?_
          refine aw_iadd d_Mo_fair_59 ?_
          refine aw_iald kd_152 d_Mo_fair_60 ?_
          refine aw_bI (fun v61 => ?_)
          refine aw_istore_n (lo' := [(3, .int v61), (0, .ref 151), (1, .int a1), (2, .int a2)]) d_Mo_fair_61 rfl (by decide) rfl ?_
          refine aw_aload_n d_Mo_fair_62 1 rfl ?_
          refine aw_getR (t := 152) fl_Mo_7 kd_151 rt_151_0 d_Mo_fair_63 ?_
          refine aw_sipush d_Mo_fair_66 ks_8426 ?_
          refine aw_iconst d_Mo_fair_69 ki_3 ?_
          refine aw_iload_n d_Mo_fair_70 2 rfl ?_
          refine aw_imul d_Mo_fair_71 ?_
          refine aw_iadd d_Mo_fair_72 ?_
          refine aw_iconst d_Mo_fair_73 ki_2 ?_
          refine aw_iadd d_Mo_fair_74 ?_
          refine aw_iald kd_152 d_Mo_fair_75 ?_
          refine aw_bI (fun v76 => ?_)
          refine aw_istore (lo' := [(4, .int v76), (3, .int v61), (0, .ref 151), (1, .int a1), (2, .int a2)]) d_Mo_fair_76 (by decide) rfl ?_
          refine aw_iconst d_Mo_fair_78 ki_0 ?_
          refine aw_istore (lo' := [(5, .int (0 : Int32)), (4, .int v76), (3, .int v61), (0, .ref 151), (1, .int a1), (2, .int a2)]) d_Mo_fair_79 (by decide) rfl ?_
          refine aw_iconst d_Mo_fair_81 ki_0 ?_
          refine aw_istore (lo' := [(6, .int (0 : Int32)), (5, .int (0 : Int32)), (4, .int v76), (3, .int v61), (0, .ref 151), (1, .int a1), (2, .int a2)]) d_Mo_fair_82 (by decide) rfl ?_
          refine aw_sub (lo' := [(0, .ref 151), (1, .int a1), (2, .int a2), (3, .int v61), (4, .int v76), (5, .int (0 : Int32)), (6, .int (0 : Int32))]) [4, 5, 6, 3, 2, 1, 0] rfl ?_
          refine tl_Mo_fair_84 _ _ _ _ _ _ (fun v5_84x v6_84x => ?_) FU _ _
          · refine aw_aload_n d_Mo_fair_134 0 rfl ?_
            refine aw_iload_n d_Mo_fair_135 3 rfl ?_
            refine aw_iconst d_Mo_fair_136 ki_0 ?_
            refine aw_iconst d_Mo_fair_137 ki_0 ?_
            refine aw_iload d_Mo_fair_138 4 rfl ?_
            refine aw_aload_n d_Mo_fair_140 0 rfl ?_
            refine aw_iload_n d_Mo_fair_141 3 rfl ?_
            refine aw_iload d_Mo_fair_142 4 rfl ?_
            refine aw_iload d_Mo_fair_144 4 rfl ?_
            refine aw_V_p (As := [.int v61, .int v76, .int v76]) (m_Mo_stripsOn) cv_Mo_346 kd_151 rfl rfl rfl (Nat.le_of_ble_eq_true rfl) ⟨Nat.le_of_ble_eq_true rfl, Nat.le_of_ble_eq_true rfl⟩ ⟨Nat.le_refl _, Nat.le_refl _⟩ d_Mo_fair_146 (fun y146 => ?_)
            refine aw_iload d_Mo_fair_149 5 rfl ?_
            refine aw_V_v (As := [.int v61, .int (0 : Int32), .int (0 : Int32), .int v76, .int y146, .int v5_84x]) (m_Mo_words) cv_Mo_295 kd_151 rfl rfl rfl (Nat.le_of_ble_eq_true rfl) ⟨Nat.le_of_ble_eq_true rfl, Nat.le_of_ble_eq_true rfl⟩ ⟨Nat.le_refl _, Nat.le_refl _⟩ d_Mo_fair_151 (fun y151 => ?_)
            refine aw_aload_n d_Mo_fair_154 0 rfl ?_
            refine aw_aload_n d_Mo_fair_155 0 rfl ?_
            refine aw_iload_n d_Mo_fair_156 3 rfl ?_
            refine aw_iconst d_Mo_fair_157 ki_2 ?_
            refine aw_V_p (As := [.int v61, .int (2 : Int32)]) (m_Mo_cell) cv_Mo_265 kd_151 rfl rfl rfl (Nat.le_of_ble_eq_true rfl) ⟨Nat.le_of_ble_eq_true rfl, Nat.le_of_ble_eq_true rfl⟩ ⟨Nat.le_refl _, Nat.le_refl _⟩ d_Mo_fair_158 (fun y158 => ?_)
            refine aw_bipush d_Mo_fair_161 kb_9 ?_
            refine aw_V_m (As := [.int y158, .int (9 : Int32)]) (m_Mo_holds) cv_Mo_283 kd_151 rfl rfl rfl (Nat.le_of_ble_eq_true rfl) ⟨Nat.le_of_ble_eq_true rfl, Nat.le_of_ble_eq_true rfl⟩ ⟨Nat.le_refl _, Nat.le_refl _⟩ d_Mo_fair_163 (fun y163 => ?_)
            refine aw_bI (fun v163 => ?_)
            refine aw_bD (fun δ_163 => ?_)
            refine aw_if_eq (tgt := 173) d_Mo_fair_166 rfl (fun q166 => ?_) (fun q166 => ?_)
            · refine aw_iconst d_Mo_fair_173 ki_0 ?_
              exact aw_iret rfl rfl ⟨Nat.le_refl _, Nat.le_refl _⟩ d_Mo_fair_174
            · refine aw_iconst d_Mo_fair_169 ki_1 ?_
              refine aw_goto (tgt := 174) d_Mo_fair_170 rfl ?_
              exact aw_iret rfl rfl ⟨Nat.le_refl _, Nat.le_refl _⟩ d_Mo_fair_174
      · refine aw_iconst d_Mo_fair_39 ki_1 ?_
        exact aw_iret rfl rfl ⟨Nat.le_refl _, Nat.le_refl _⟩ d_Mo_fair_40
def lp_Mo_unfairOf_4 (kx4_53 : Int32 → Int32 → Option Int32) (a1 : Int32) (δ : Dm) : Nat → Int32 → Int32 → Option Int32
  | 0, _, _ => none
  | f + 1, v2_4, v3_4 => (if inb (6 : Int32) 8918 then (if (gI δ 152 (ix (6 : Int32))) ≤ v3_4 then (kx4_53 v2_4 v3_4) else (if inb ((8426 : Int32) + ((3 : Int32) * v3_4)) 8918 then (if (gI δ 152 (ix ((8426 : Int32) + ((3 : Int32) * v3_4)))) = a1 then ((f_Mo_isFair v3_4 δ).bind (fun y34 => (if y34 = 0 then (bnd (v2_4 + (1 : Int32)) (fun v46 => (lp_Mo_unfairOf_4 kx4_53 a1 δ f v46 (v3_4 + (1 : Int32))))) else (bnd (v2_4 + (0 : Int32)) (fun v46_1 => (lp_Mo_unfairOf_4 kx4_53 a1 δ f v46_1 (v3_4 + (1 : Int32)))))))) else (bnd (v2_4 + (0 : Int32)) (fun v46_2 => (lp_Mo_unfairOf_4 kx4_53 a1 δ f v46_2 (v3_4 + (1 : Int32)))))) else none)) else none)
set_option maxHeartbeats 4000000 in
set_option maxRecDepth 100000 in
theorem tl_Mo_unfairOf_4 {n : Nat} (kx4_53 : Int32 → Int32 → Option Int32) (a1 : Int32) (δ : Dm) (hkx4_53 : ∀ v2_4k v3_4k, AWo k_Mo_unfairOf 4 0 0 53 [(0, .ref 151), (1, .int a1), (2, .int v2_4k), (3, .int v3_4k)] [] δ RT n 0 0 (Kp δ RT n) (kx4_53 v2_4k v3_4k)) : ∀ (f : Nat) (v2_4 : Int32) (v3_4 : Int32), AWo k_Mo_unfairOf 4 0 0 4 [(0, .ref 151), (1, .int a1), (2, .int v2_4), (3, .int v3_4)] [] δ RT n 0 0 (Kp δ RT n) (lp_Mo_unfairOf_4 kx4_53 a1 δ f v2_4 v3_4) := by
  intro f
  induction f with
  | zero => intro _ _; exact aw_none
  | succ f ih =>
    intro v2_4 v3_4
    rw [lp_Mo_unfairOf_4]
    refine aw_iload_n d_Mo_unfairOf_4 3 rfl ?_
    refine aw_aload_n d_Mo_unfairOf_5 0 rfl ?_
    refine aw_getR (t := 152) fl_Mo_7 kd_151 rt_151_0 d_Mo_unfairOf_6 ?_
    refine aw_bipush d_Mo_unfairOf_9 kb_6 ?_
    refine aw_iald kd_152 d_Mo_unfairOf_11 ?_
    refine aw_icmp_ge (tgt := 53) d_Mo_unfairOf_12 rfl (fun q12 => ?_) (fun q12 => ?_)
    · refine aw_sub (lo' := [(0, .ref 151), (1, .int a1), (2, .int v2_4), (3, .int v3_4)]) [0, 1, 2, 3] rfl ?_
      exact hkx4_53 _ _
    · refine aw_iload_n d_Mo_unfairOf_15 2 rfl ?_
      refine aw_aload_n d_Mo_unfairOf_16 0 rfl ?_
      refine aw_getR (t := 152) fl_Mo_7 kd_151 rt_151_0 d_Mo_unfairOf_17 ?_
      refine aw_sipush d_Mo_unfairOf_20 ks_8426 ?_
      refine aw_iconst d_Mo_unfairOf_23 ki_3 ?_
      refine aw_iload_n d_Mo_unfairOf_24 3 rfl ?_
      refine aw_imul d_Mo_unfairOf_25 ?_
      refine aw_iadd d_Mo_unfairOf_26 ?_
      refine aw_iald kd_152 d_Mo_unfairOf_27 ?_
      refine aw_iload_n d_Mo_unfairOf_28 1 rfl ?_
      refine aw_icmp_ne (tgt := 44) d_Mo_unfairOf_29 rfl (fun q29 => ?_) (fun q29 => ?_)
      · refine aw_aload_n d_Mo_unfairOf_32 0 rfl ?_
        refine aw_iload_n d_Mo_unfairOf_33 3 rfl ?_
        refine aw_V_p (As := [.int v3_4]) (m_Mo_isFair) cv_Mo_354 kd_151 rfl rfl rfl (Nat.le_of_ble_eq_true rfl) ⟨Nat.le_of_ble_eq_true rfl, Nat.le_of_ble_eq_true rfl⟩ ⟨Nat.le_refl _, Nat.le_refl _⟩ d_Mo_unfairOf_34 (fun y34 => ?_)
        refine aw_if_ne (tgt := 44) d_Mo_unfairOf_37 rfl (fun q37 => ?_) (fun q37 => ?_)
        · refine aw_iconst d_Mo_unfairOf_40 ki_1 ?_
          refine aw_goto (tgt := 45) d_Mo_unfairOf_41 rfl ?_
          refine aw_iadd d_Mo_unfairOf_45 ?_
          refine aw_bI (fun v46 => ?_)
          refine aw_istore_n (lo' := [(2, .int v46), (0, .ref 151), (1, .int a1), (3, .int v3_4)]) d_Mo_unfairOf_46 rfl (by decide) rfl ?_
          refine aw_iinc (v := (v3_4 + (1 : Int32))) (lo' := [(3, .int (v3_4 + (1 : Int32))), (2, .int v46), (0, .ref 151), (1, .int a1)]) d_Mo_unfairOf_47 3 rfl (by rw [show Int32.ofInt (1) = (1 : Int32) from by decide]) (by decide) rfl ?_
          refine aw_goto (tgt := 4) d_Mo_unfairOf_50 rfl ?_
          refine aw_sub (lo' := [(0, .ref 151), (1, .int a1), (2, .int v46), (3, .int (v3_4 + (1 : Int32)))]) [2, 3, 1, 0] rfl ?_
          exact ih _ _
        · refine aw_iconst d_Mo_unfairOf_44 ki_0 ?_
          refine aw_iadd d_Mo_unfairOf_45 ?_
          refine aw_bI (fun v46_1 => ?_)
          refine aw_istore_n (lo' := [(2, .int v46_1), (0, .ref 151), (1, .int a1), (3, .int v3_4)]) d_Mo_unfairOf_46 rfl (by decide) rfl ?_
          refine aw_iinc (v := (v3_4 + (1 : Int32))) (lo' := [(3, .int (v3_4 + (1 : Int32))), (2, .int v46_1), (0, .ref 151), (1, .int a1)]) d_Mo_unfairOf_47 3 rfl (by rw [show Int32.ofInt (1) = (1 : Int32) from by decide]) (by decide) rfl ?_
          refine aw_goto (tgt := 4) d_Mo_unfairOf_50 rfl ?_
          refine aw_sub (lo' := [(0, .ref 151), (1, .int a1), (2, .int v46_1), (3, .int (v3_4 + (1 : Int32)))]) [2, 3, 1, 0] rfl ?_
          exact ih _ _
      · refine aw_iconst d_Mo_unfairOf_44 ki_0 ?_
        refine aw_iadd d_Mo_unfairOf_45 ?_
        refine aw_bI (fun v46_2 => ?_)
        refine aw_istore_n (lo' := [(2, .int v46_2), (0, .ref 151), (1, .int a1), (3, .int v3_4)]) d_Mo_unfairOf_46 rfl (by decide) rfl ?_
        refine aw_iinc (v := (v3_4 + (1 : Int32))) (lo' := [(3, .int (v3_4 + (1 : Int32))), (2, .int v46_2), (0, .ref 151), (1, .int a1)]) d_Mo_unfairOf_47 3 rfl (by rw [show Int32.ofInt (1) = (1 : Int32) from by decide]) (by decide) rfl ?_
        refine aw_goto (tgt := 4) d_Mo_unfairOf_50 rfl ?_
        refine aw_sub (lo' := [(0, .ref 151), (1, .int a1), (2, .int v46_2), (3, .int (v3_4 + (1 : Int32)))]) [2, 3, 1, 0] rfl ?_
        exact ih _ _
def f_Mo_unfairOf (a1 : Int32) (δ : Dm) : Option Int32 := (lp_Mo_unfairOf_4 (fun v2_4x v3_4x => (some v2_4x)) a1 δ FU (0 : Int32) (0 : Int32))
set_option maxHeartbeats 4000000 in
set_option maxRecDepth 100000 in
theorem m_Mo_unfairOf {a1 : Int32} {δ : Dm} {n : Nat} : ∀ x, f_Mo_unfairOf a1 δ = some x → AMet k_Mo_unfairOf 4 0 0 [.ref 151, .int a1] δ RT n (Kp δ RT n x) := by
  refine aw_start (lo := [(0, .ref 151), (1, .int a1)]) mok_Mo_unfairOf rfl (Nat.le_of_ble_eq_true rfl) ?_
  unfold f_Mo_unfairOf
  refine aw_iconst d_Mo_unfairOf_0 ki_0 ?_
  refine aw_istore_n (lo' := [(2, .int (0 : Int32)), (0, .ref 151), (1, .int a1)]) d_Mo_unfairOf_1 rfl (by decide) rfl ?_
  refine aw_iconst d_Mo_unfairOf_2 ki_0 ?_
  refine aw_istore_n (lo' := [(3, .int (0 : Int32)), (2, .int (0 : Int32)), (0, .ref 151), (1, .int a1)]) d_Mo_unfairOf_3 rfl (by decide) rfl ?_
  refine aw_sub (lo' := [(0, .ref 151), (1, .int a1), (2, .int (0 : Int32)), (3, .int (0 : Int32))]) [2, 3, 1, 0] rfl ?_
  refine tl_Mo_unfairOf_4 _ _ _ (fun v2_4x v3_4x => ?_) FU _ _
  · refine aw_iload_n d_Mo_unfairOf_53 2 rfl ?_
    exact aw_iret rfl rfl ⟨Nat.le_refl _, Nat.le_refl _⟩ d_Mo_unfairOf_54
def jp_Mo_suspect_148 (kr116 : Int32 → Int32 → Option Int32) (kx116_161 : Int32 → Int32 → Option Int32) (a1 : Int32) (v2_25x : Int32) (v3_25x : Int32) (v4_86 : Int32) (v5_86 : Int32) (v6_116 : Int32) (v7_116 : Int32) (δ : Dm) : Option Int32 := (kr116 (1 : Int32) (v7_116 + (1 : Int32)))
set_option maxHeartbeats 4000000 in
set_option maxRecDepth 100000 in
theorem tj_Mo_suspect_148 {n : Nat} (kr116 : Int32 → Int32 → Option Int32) (kx116_161 : Int32 → Int32 → Option Int32) (a1 : Int32) (v2_25x : Int32) (v3_25x : Int32) (v4_86 : Int32) (v5_86 : Int32) (v6_116 : Int32) (v7_116 : Int32) (δ : Dm) (hkr116 : ∀ v6_116k v7_116k, AWo k_Mo_suspect 5 0 0 116 [(0, .ref 151), (1, .int a1), (2, .int v2_25x), (3, .int v3_25x), (4, .int v4_86), (5, .int v5_86), (6, .int v6_116k), (7, .int v7_116k)] [] δ RT n 0 0 (Kp δ RT n) (kr116 v6_116k v7_116k)) (hkx116_161 : ∀ v6_116k v7_116k, AWo k_Mo_suspect 5 0 0 161 [(0, .ref 151), (1, .int a1), (2, .int v2_25x), (3, .int v3_25x), (4, .int v4_86), (5, .int v5_86), (6, .int v6_116k), (7, .int v7_116k)] [] δ RT n 0 0 (Kp δ RT n) (kx116_161 v6_116k v7_116k)) : AWo k_Mo_suspect 5 0 0 148 [(0, .ref 151), (1, .int a1), (2, .int v2_25x), (3, .int v3_25x), (4, .int v4_86), (5, .int v5_86), (6, .int v6_116), (7, .int v7_116)] [] δ RT n 0 0 (Kp δ RT n) (jp_Mo_suspect_148 kr116 kx116_161 a1 v2_25x v3_25x v4_86 v5_86 v6_116 v7_116 δ) := by
  unfold jp_Mo_suspect_148
  refine aw_iconst d_Mo_suspect_148 ki_1 ?_
  refine aw_goto (tgt := 153) d_Mo_suspect_149 rfl ?_
  refine aw_istore (lo' := [(6, .int (1 : Int32)), (0, .ref 151), (1, .int a1), (2, .int v2_25x), (3, .int v3_25x), (4, .int v4_86), (5, .int v5_86), (7, .int v7_116)]) d_Mo_suspect_153 (by decide) rfl ?_
  refine aw_iinc (v := (v7_116 + (1 : Int32))) (lo' := [(7, .int (v7_116 + (1 : Int32))), (6, .int (1 : Int32)), (0, .ref 151), (1, .int a1), (2, .int v2_25x), (3, .int v3_25x), (4, .int v4_86), (5, .int v5_86)]) d_Mo_suspect_155 7 rfl (by rw [show Int32.ofInt (1) = (1 : Int32) from by decide]) (by decide) rfl ?_
  refine aw_goto (tgt := 116) d_Mo_suspect_158 rfl ?_
  refine aw_sub (lo' := [(0, .ref 151), (1, .int a1), (2, .int v2_25x), (3, .int v3_25x), (4, .int v4_86), (5, .int v5_86), (6, .int (1 : Int32)), (7, .int (v7_116 + (1 : Int32)))]) [2, 3, 4, 5, 6, 7, 1, 0] rfl ?_
  exact hkr116 _ _
def lp_Mo_suspect_116 (kx116_161 : Int32 → Int32 → Option Int32) (a1 : Int32) (v2_25x : Int32) (v3_25x : Int32) (v4_86 : Int32) (v5_86 : Int32) (δ : Dm) : Nat → Int32 → Int32 → Option Int32
  | 0, _, _ => none
  | f + 1, v6_116, v7_116 => (if v5_86 ≤ v7_116 then (kx116_161 v6_116 v7_116) else (if v6_116 = 0 then (lp_Mo_suspect_116 kx116_161 a1 v2_25x v3_25x v4_86 v5_86 δ f (0 : Int32) (v7_116 + (1 : Int32))) else ((f_Mo_areOne v5_86 v7_116 δ).bind (fun y133 => (if y133 = 0 then (jp_Mo_suspect_148 (lp_Mo_suspect_116 kx116_161 a1 v2_25x v3_25x v4_86 v5_86 δ f) kx116_161 a1 v2_25x v3_25x v4_86 v5_86 v6_116 v7_116 δ) else ((f_Mo_isFair v7_116 δ).bind (fun y142 => (if y142 = 0 then (lp_Mo_suspect_116 kx116_161 a1 v2_25x v3_25x v4_86 v5_86 δ f (0 : Int32) (v7_116 + (1 : Int32))) else (jp_Mo_suspect_148 (lp_Mo_suspect_116 kx116_161 a1 v2_25x v3_25x v4_86 v5_86 δ f) kx116_161 a1 v2_25x v3_25x v4_86 v5_86 v6_116 v7_116 δ)))))))))
set_option maxHeartbeats 4000000 in
set_option maxRecDepth 100000 in
theorem tl_Mo_suspect_116 {n : Nat} (kx116_161 : Int32 → Int32 → Option Int32) (a1 : Int32) (v2_25x : Int32) (v3_25x : Int32) (v4_86 : Int32) (v5_86 : Int32) (δ : Dm) (hkx116_161 : ∀ v6_116k v7_116k, AWo k_Mo_suspect 5 0 0 161 [(0, .ref 151), (1, .int a1), (2, .int v2_25x), (3, .int v3_25x), (4, .int v4_86), (5, .int v5_86), (6, .int v6_116k), (7, .int v7_116k)] [] δ RT n 0 0 (Kp δ RT n) (kx116_161 v6_116k v7_116k)) : ∀ (f : Nat) (v6_116 : Int32) (v7_116 : Int32), AWo k_Mo_suspect 5 0 0 116 [(0, .ref 151), (1, .int a1), (2, .int v2_25x), (3, .int v3_25x), (4, .int v4_86), (5, .int v5_86), (6, .int v6_116), (7, .int v7_116)] [] δ RT n 0 0 (Kp δ RT n) (lp_Mo_suspect_116 kx116_161 a1 v2_25x v3_25x v4_86 v5_86 δ f v6_116 v7_116) := by
  intro f
  induction f with
  | zero => intro _ _; exact aw_none
  | succ f ih =>
    intro v6_116 v7_116
    rw [lp_Mo_suspect_116]
    refine aw_iload d_Mo_suspect_116 7 rfl ?_
    refine aw_iload d_Mo_suspect_118 5 rfl ?_
    refine aw_icmp_ge (tgt := 161) d_Mo_suspect_120 rfl (fun q120 => ?_) (fun q120 => ?_)
    · refine aw_sub (lo' := [(0, .ref 151), (1, .int a1), (2, .int v2_25x), (3, .int v3_25x), (4, .int v4_86), (5, .int v5_86), (6, .int v6_116), (7, .int v7_116)]) [0, 1, 2, 3, 4, 5, 6, 7] rfl ?_
      exact hkx116_161 _ _
    · refine aw_iload d_Mo_suspect_123 6 rfl ?_
      refine aw_if_eq (tgt := 152) d_Mo_suspect_125 rfl (fun q125 => ?_) (fun q125 => ?_)
      · refine aw_iconst d_Mo_suspect_152 ki_0 ?_
        refine aw_istore (lo' := [(6, .int (0 : Int32)), (0, .ref 151), (1, .int a1), (2, .int v2_25x), (3, .int v3_25x), (4, .int v4_86), (5, .int v5_86), (7, .int v7_116)]) d_Mo_suspect_153 (by decide) rfl ?_
        refine aw_iinc (v := (v7_116 + (1 : Int32))) (lo' := [(7, .int (v7_116 + (1 : Int32))), (6, .int (0 : Int32)), (0, .ref 151), (1, .int a1), (2, .int v2_25x), (3, .int v3_25x), (4, .int v4_86), (5, .int v5_86)]) d_Mo_suspect_155 7 rfl (by rw [show Int32.ofInt (1) = (1 : Int32) from by decide]) (by decide) rfl ?_
        refine aw_goto (tgt := 116) d_Mo_suspect_158 rfl ?_
        refine aw_sub (lo' := [(0, .ref 151), (1, .int a1), (2, .int v2_25x), (3, .int v3_25x), (4, .int v4_86), (5, .int v5_86), (6, .int (0 : Int32)), (7, .int (v7_116 + (1 : Int32)))]) [2, 3, 4, 5, 6, 7, 1, 0] rfl ?_
        exact ih _ _
      · refine aw_aload_n d_Mo_suspect_128 0 rfl ?_
        refine aw_iload d_Mo_suspect_129 5 rfl ?_
        refine aw_iload d_Mo_suspect_131 7 rfl ?_
        refine aw_V_p (As := [.int v5_86, .int v7_116]) (m_Mo_areOne) cv_Mo_351 kd_151 rfl rfl rfl (Nat.le_of_ble_eq_true rfl) ⟨Nat.le_of_ble_eq_true rfl, Nat.le_of_ble_eq_true rfl⟩ ⟨Nat.le_refl _, Nat.le_refl _⟩ d_Mo_suspect_133 (fun y133 => ?_)
        refine aw_if_eq (tgt := 148) d_Mo_suspect_136 rfl (fun q136 => ?_) (fun q136 => ?_)
        · refine aw_sub (lo' := [(0, .ref 151), (1, .int a1), (2, .int v2_25x), (3, .int v3_25x), (4, .int v4_86), (5, .int v5_86), (6, .int v6_116), (7, .int v7_116)]) [0, 1, 2, 3, 4, 5, 6, 7] rfl ?_
          exact tj_Mo_suspect_148 _ _ _ _ _ _ _ _ _ _ ih hkx116_161
        · refine aw_aload_n d_Mo_suspect_139 0 rfl ?_
          refine aw_iload d_Mo_suspect_140 7 rfl ?_
          refine aw_V_p (As := [.int v7_116]) (m_Mo_isFair) cv_Mo_354 kd_151 rfl rfl rfl (Nat.le_of_ble_eq_true rfl) ⟨Nat.le_of_ble_eq_true rfl, Nat.le_of_ble_eq_true rfl⟩ ⟨Nat.le_refl _, Nat.le_refl _⟩ d_Mo_suspect_142 (fun y142 => ?_)
          refine aw_if_eq (tgt := 152) d_Mo_suspect_145 rfl (fun q145 => ?_) (fun q145 => ?_)
          · refine aw_iconst d_Mo_suspect_152 ki_0 ?_
            refine aw_istore (lo' := [(6, .int (0 : Int32)), (0, .ref 151), (1, .int a1), (2, .int v2_25x), (3, .int v3_25x), (4, .int v4_86), (5, .int v5_86), (7, .int v7_116)]) d_Mo_suspect_153 (by decide) rfl ?_
            refine aw_iinc (v := (v7_116 + (1 : Int32))) (lo' := [(7, .int (v7_116 + (1 : Int32))), (6, .int (0 : Int32)), (0, .ref 151), (1, .int a1), (2, .int v2_25x), (3, .int v3_25x), (4, .int v4_86), (5, .int v5_86)]) d_Mo_suspect_155 7 rfl (by rw [show Int32.ofInt (1) = (1 : Int32) from by decide]) (by decide) rfl ?_
            refine aw_goto (tgt := 116) d_Mo_suspect_158 rfl ?_
            refine aw_sub (lo' := [(0, .ref 151), (1, .int a1), (2, .int v2_25x), (3, .int v3_25x), (4, .int v4_86), (5, .int v5_86), (6, .int (0 : Int32)), (7, .int (v7_116 + (1 : Int32)))]) [2, 3, 4, 5, 6, 7, 1, 0] rfl ?_
            exact ih _ _
          · refine aw_sub (lo' := [(0, .ref 151), (1, .int a1), (2, .int v2_25x), (3, .int v3_25x), (4, .int v4_86), (5, .int v5_86), (6, .int v6_116), (7, .int v7_116)]) [0, 1, 2, 3, 4, 5, 6, 7] rfl ?_
            exact tj_Mo_suspect_148 _ _ _ _ _ _ _ _ _ _ ih hkx116_161
def lp_Mo_suspect_86 (kx86_182 : Int32 → Int32 → Option Int32) (a1 : Int32) (v2_25x : Int32) (v3_25x : Int32) (δ : Dm) : Nat → Int32 → Int32 → Option Int32
  | 0, _, _ => none
  | f + 1, v4_86, v5_86 => (if inb (6 : Int32) 8918 then (if (gI δ 152 (ix (6 : Int32))) ≤ v5_86 then (kx86_182 v4_86 v5_86) else ((f_Mo_isFair v5_86 δ).bind (fun y101 => (if y101 = 0 then (lp_Mo_suspect_116 (fun v6_116x v7_116x => (if v6_116x = 0 then (bnd (v4_86 - (0 : Int32)) (fun v174 => (lp_Mo_suspect_86 kx86_182 a1 v2_25x v3_25x δ f v174 (v5_86 + (1 : Int32))))) else (bnd (v4_86 - (1 : Int32)) (fun v174_1 => (lp_Mo_suspect_86 kx86_182 a1 v2_25x v3_25x δ f v174_1 (v5_86 + (1 : Int32))))))) a1 v2_25x v3_25x v4_86 v5_86 δ FU (1 : Int32) (0 : Int32)) else (lp_Mo_suspect_86 kx86_182 a1 v2_25x v3_25x δ f v4_86 (v5_86 + (1 : Int32))))))) else none)
set_option maxHeartbeats 4000000 in
set_option maxRecDepth 100000 in
theorem tl_Mo_suspect_86 {n : Nat} (kx86_182 : Int32 → Int32 → Option Int32) (a1 : Int32) (v2_25x : Int32) (v3_25x : Int32) (δ : Dm) (hkx86_182 : ∀ v4_86k v5_86k, AWo k_Mo_suspect 5 0 0 182 [(0, .ref 151), (1, .int a1), (2, .int v2_25x), (3, .int v3_25x), (4, .int v4_86k), (5, .int v5_86k)] [] δ RT n 0 0 (Kp δ RT n) (kx86_182 v4_86k v5_86k)) : ∀ (f : Nat) (v4_86 : Int32) (v5_86 : Int32), AWo k_Mo_suspect 5 0 0 86 [(0, .ref 151), (1, .int a1), (2, .int v2_25x), (3, .int v3_25x), (4, .int v4_86), (5, .int v5_86)] [] δ RT n 0 0 (Kp δ RT n) (lp_Mo_suspect_86 kx86_182 a1 v2_25x v3_25x δ f v4_86 v5_86) := by
  intro f
  induction f with
  | zero => intro _ _; exact aw_none
  | succ f ih =>
    intro v4_86 v5_86
    rw [lp_Mo_suspect_86]
    refine aw_iload d_Mo_suspect_86 5 rfl ?_
    refine aw_aload_n d_Mo_suspect_88 0 rfl ?_
    refine aw_getR (t := 152) fl_Mo_7 kd_151 rt_151_0 d_Mo_suspect_89 ?_
    refine aw_bipush d_Mo_suspect_92 kb_6 ?_
    refine aw_iald kd_152 d_Mo_suspect_94 ?_
    refine aw_icmp_ge (tgt := 182) d_Mo_suspect_95 rfl (fun q95 => ?_) (fun q95 => ?_)
    · refine aw_sub (lo' := [(0, .ref 151), (1, .int a1), (2, .int v2_25x), (3, .int v3_25x), (4, .int v4_86), (5, .int v5_86)]) [0, 1, 2, 3, 4, 5] rfl ?_
      exact hkx86_182 _ _
    · refine aw_aload_n d_Mo_suspect_98 0 rfl ?_
      refine aw_iload d_Mo_suspect_99 5 rfl ?_
      refine aw_V_p (As := [.int v5_86]) (m_Mo_isFair) cv_Mo_354 kd_151 rfl rfl rfl (Nat.le_of_ble_eq_true rfl) ⟨Nat.le_of_ble_eq_true rfl, Nat.le_of_ble_eq_true rfl⟩ ⟨Nat.le_refl _, Nat.le_refl _⟩ d_Mo_suspect_101 (fun y101 => ?_)
      refine aw_if_eq (tgt := 110) d_Mo_suspect_104 rfl (fun q104 => ?_) (fun q104 => ?_)
      · refine aw_iconst d_Mo_suspect_110 ki_1 ?_
        refine aw_istore (lo' := [(6, .int (1 : Int32)), (0, .ref 151), (1, .int a1), (2, .int v2_25x), (3, .int v3_25x), (4, .int v4_86), (5, .int v5_86)]) d_Mo_suspect_111 (by decide) rfl ?_
        refine aw_iconst d_Mo_suspect_113 ki_0 ?_
        refine aw_istore (lo' := [(7, .int (0 : Int32)), (6, .int (1 : Int32)), (0, .ref 151), (1, .int a1), (2, .int v2_25x), (3, .int v3_25x), (4, .int v4_86), (5, .int v5_86)]) d_Mo_suspect_114 (by decide) rfl ?_
        refine aw_sub (lo' := [(0, .ref 151), (1, .int a1), (2, .int v2_25x), (3, .int v3_25x), (4, .int v4_86), (5, .int v5_86), (6, .int (1 : Int32)), (7, .int (0 : Int32))]) [2, 3, 4, 5, 6, 7, 1, 0] rfl ?_
        refine tl_Mo_suspect_116 _ _ _ _ _ _ _ (fun v6_116x v7_116x => ?_) FU _ _
        · refine aw_iload d_Mo_suspect_161 4 rfl ?_
          refine aw_iload d_Mo_suspect_163 6 rfl ?_
          refine aw_if_eq (tgt := 172) d_Mo_suspect_165 rfl (fun q165 => ?_) (fun q165 => ?_)
          · refine aw_iconst d_Mo_suspect_172 ki_0 ?_
            refine aw_isub d_Mo_suspect_173 ?_
            refine aw_bI (fun v174 => ?_)
            refine aw_istore (lo' := [(4, .int v174), (0, .ref 151), (1, .int a1), (2, .int v2_25x), (3, .int v3_25x), (5, .int v5_86), (6, .int v6_116x), (7, .int v7_116x)]) d_Mo_suspect_174 (by decide) rfl ?_
            refine aw_iinc (v := (v5_86 + (1 : Int32))) (lo' := [(5, .int (v5_86 + (1 : Int32))), (4, .int v174), (0, .ref 151), (1, .int a1), (2, .int v2_25x), (3, .int v3_25x), (6, .int v6_116x), (7, .int v7_116x)]) d_Mo_suspect_176 5 rfl (by rw [show Int32.ofInt (1) = (1 : Int32) from by decide]) (by decide) rfl ?_
            refine aw_goto (tgt := 86) d_Mo_suspect_179 rfl ?_
            refine aw_sub (lo' := [(0, .ref 151), (1, .int a1), (2, .int v2_25x), (3, .int v3_25x), (4, .int v174), (5, .int (v5_86 + (1 : Int32)))]) [2, 3, 4, 5, 1, 0] rfl ?_
            exact ih _ _
          · refine aw_iconst d_Mo_suspect_168 ki_1 ?_
            refine aw_goto (tgt := 173) d_Mo_suspect_169 rfl ?_
            refine aw_isub d_Mo_suspect_173 ?_
            refine aw_bI (fun v174_1 => ?_)
            refine aw_istore (lo' := [(4, .int v174_1), (0, .ref 151), (1, .int a1), (2, .int v2_25x), (3, .int v3_25x), (5, .int v5_86), (6, .int v6_116x), (7, .int v7_116x)]) d_Mo_suspect_174 (by decide) rfl ?_
            refine aw_iinc (v := (v5_86 + (1 : Int32))) (lo' := [(5, .int (v5_86 + (1 : Int32))), (4, .int v174_1), (0, .ref 151), (1, .int a1), (2, .int v2_25x), (3, .int v3_25x), (6, .int v6_116x), (7, .int v7_116x)]) d_Mo_suspect_176 5 rfl (by rw [show Int32.ofInt (1) = (1 : Int32) from by decide]) (by decide) rfl ?_
            refine aw_goto (tgt := 86) d_Mo_suspect_179 rfl ?_
            refine aw_sub (lo' := [(0, .ref 151), (1, .int a1), (2, .int v2_25x), (3, .int v3_25x), (4, .int v174_1), (5, .int (v5_86 + (1 : Int32)))]) [2, 3, 4, 5, 1, 0] rfl ?_
            exact ih _ _
      · refine aw_goto (tgt := 176) d_Mo_suspect_107 rfl ?_
        refine aw_iinc (v := (v5_86 + (1 : Int32))) (lo' := [(5, .int (v5_86 + (1 : Int32))), (0, .ref 151), (1, .int a1), (2, .int v2_25x), (3, .int v3_25x), (4, .int v4_86)]) d_Mo_suspect_176 5 rfl (by rw [show Int32.ofInt (1) = (1 : Int32) from by decide]) (by decide) rfl ?_
        refine aw_goto (tgt := 86) d_Mo_suspect_179 rfl ?_
        refine aw_sub (lo' := [(0, .ref 151), (1, .int a1), (2, .int v2_25x), (3, .int v3_25x), (4, .int v4_86), (5, .int (v5_86 + (1 : Int32)))]) [1, 2, 3, 4, 5, 0] rfl ?_
        exact ih _ _
def lp_Mo_suspect_25 (kx25_68 : Int32 → Int32 → Int32 → Int32 → Option Int32) (a1 : Int32) (δ : Dm) : Nat → Int32 → Int32 → Int32 → Int32 → Option Int32
  | 0, _, _, _, _ => none
  | f + 1, v2_25, v3_25, v4_25, v5_25 => (if (32 : Int32) ≤ v5_25 then (kx25_68 v2_25 v3_25 v4_25 v5_25) else ((f_Mo_unfairOf v5_25 δ).bind (fun y35 => (bnd (v4_25 + y35) (fun v45 => (if v3_25 < y35 then (lp_Mo_suspect_25 kx25_68 a1 δ f v5_25 y35 v45 (v5_25 + (1 : Int32))) else (lp_Mo_suspect_25 kx25_68 a1 δ f v2_25 v3_25 v45 (v5_25 + (1 : Int32)))))))))
set_option maxHeartbeats 4000000 in
set_option maxRecDepth 100000 in
theorem tl_Mo_suspect_25 {n : Nat} (kx25_68 : Int32 → Int32 → Int32 → Int32 → Option Int32) (a1 : Int32) (δ : Dm) (hkx25_68 : ∀ v2_25k v3_25k v4_25k v5_25k, AWo k_Mo_suspect 5 0 0 68 [(0, .ref 151), (1, .int a1), (2, .int v2_25k), (3, .int v3_25k), (4, .int v4_25k), (5, .int v5_25k)] [] δ RT n 0 0 (Kp δ RT n) (kx25_68 v2_25k v3_25k v4_25k v5_25k)) : ∀ (f : Nat) (v2_25 : Int32) (v3_25 : Int32) (v4_25 : Int32) (v5_25 : Int32), AWo k_Mo_suspect 5 0 0 25 [(0, .ref 151), (1, .int a1), (2, .int v2_25), (3, .int v3_25), (4, .int v4_25), (5, .int v5_25)] [] δ RT n 0 0 (Kp δ RT n) (lp_Mo_suspect_25 kx25_68 a1 δ f v2_25 v3_25 v4_25 v5_25) := by
  intro f
  induction f with
  | zero => intro _ _ _ _; exact aw_none
  | succ f ih =>
    intro v2_25 v3_25 v4_25 v5_25
    rw [lp_Mo_suspect_25]
    refine aw_iload d_Mo_suspect_25 5 rfl ?_
    refine aw_bipush d_Mo_suspect_27 kb_32 ?_
    refine aw_icmp_ge (tgt := 68) d_Mo_suspect_29 rfl (fun q29 => ?_) (fun q29 => ?_)
    · refine aw_sub (lo' := [(0, .ref 151), (1, .int a1), (2, .int v2_25), (3, .int v3_25), (4, .int v4_25), (5, .int v5_25)]) [0, 1, 2, 3, 4, 5] rfl ?_
      exact hkx25_68 _ _ _ _
    · refine aw_aload_n d_Mo_suspect_32 0 rfl ?_
      refine aw_iload d_Mo_suspect_33 5 rfl ?_
      refine aw_V_p (As := [.int v5_25]) (m_Mo_unfairOf) cv_Mo_357 kd_151 rfl rfl rfl (Nat.le_of_ble_eq_true rfl) ⟨Nat.le_of_ble_eq_true rfl, Nat.le_of_ble_eq_true rfl⟩ ⟨Nat.le_refl _, Nat.le_refl _⟩ d_Mo_suspect_35 (fun y35 => ?_)
      refine aw_istore (lo' := [(6, .int y35), (0, .ref 151), (1, .int a1), (2, .int v2_25), (3, .int v3_25), (4, .int v4_25), (5, .int v5_25)]) d_Mo_suspect_38 (by decide) rfl ?_
      refine aw_iload d_Mo_suspect_40 5 rfl ?_
      refine aw_iload d_Mo_suspect_42 0 rfl ?_
      refine aw_iadd d_Mo_suspect_44 ?_
      refine aw_bI (fun v45 => ?_)
      refine aw_istore (lo' := [(4, .int v45), (6, .int y35), (0, .ref 151), (1, .int a1), (2, .int v2_25), (3, .int v3_25), (5, .int v5_25)]) d_Mo_suspect_45 (by decide) rfl ?_
      refine aw_iload d_Mo_suspect_47 1 rfl ?_
      refine aw_iload_n d_Mo_suspect_49 5 rfl ?_
      refine aw_icmp_gt (tgt := 56) d_Mo_suspect_50 rfl (fun q50 => ?_) (fun q50 => ?_)
      · refine aw_iload d_Mo_suspect_56 1 rfl ?_
        refine aw_istore_n (lo' := [(3, .int y35), (4, .int v45), (6, .int y35), (0, .ref 151), (1, .int a1), (2, .int v2_25), (5, .int v5_25)]) d_Mo_suspect_58 rfl (by decide) rfl ?_
        refine aw_iload d_Mo_suspect_59 6 rfl ?_
        refine aw_istore_n (lo' := [(2, .int v5_25), (3, .int y35), (4, .int v45), (6, .int y35), (0, .ref 151), (1, .int a1), (5, .int v5_25)]) d_Mo_suspect_61 rfl (by decide) rfl ?_
        refine aw_iinc (v := (v5_25 + (1 : Int32))) (lo' := [(5, .int (v5_25 + (1 : Int32))), (2, .int v5_25), (3, .int y35), (4, .int v45), (6, .int y35), (0, .ref 151), (1, .int a1)]) d_Mo_suspect_62 6 rfl (by rw [show Int32.ofInt (1) = (1 : Int32) from by decide]) (by decide) rfl ?_
        refine aw_goto (tgt := 25) d_Mo_suspect_65 rfl ?_
        refine aw_sub (lo' := [(0, .ref 151), (1, .int a1), (2, .int v5_25), (3, .int y35), (4, .int v45), (5, .int (v5_25 + (1 : Int32)))]) [5, 6, 1, 2, 3, 0] rfl ?_
        exact ih _ _ _ _
      · refine aw_goto (tgt := 62) d_Mo_suspect_53 rfl ?_
        refine aw_iinc (v := (v5_25 + (1 : Int32))) (lo' := [(5, .int (v5_25 + (1 : Int32))), (4, .int v45), (6, .int y35), (0, .ref 151), (1, .int a1), (2, .int v2_25), (3, .int v3_25)]) d_Mo_suspect_62 6 rfl (by rw [show Int32.ofInt (1) = (1 : Int32) from by decide]) (by decide) rfl ?_
        refine aw_goto (tgt := 25) d_Mo_suspect_65 rfl ?_
        refine aw_sub (lo' := [(0, .ref 151), (1, .int a1), (2, .int v2_25), (3, .int v3_25), (4, .int v45), (5, .int (v5_25 + (1 : Int32)))]) [3, 4, 5, 6, 1, 0] rfl ?_
        exact ih _ _ _ _
def f_Mo_suspect (a1 : Int32) (δ : Dm) : Option Int32 := ((f_Mo_in ((a1).toInt64) (0 : Int64) (2 : Int64) δ).bind (fun y6 => (if y6 = 0 then (some (-1 : Int32)) else (lp_Mo_suspect_25 (fun v2_25x v3_25x v4_25x v5_25x => (if (2 : Int32) ≤ a1 then (lp_Mo_suspect_86 (fun v4_86x v5_86x => (some v4_86x)) a1 v2_25x v3_25x δ FU v4_25x (0 : Int32)) else (if a1 = 0 then (some v2_25x) else (some v3_25x)))) a1 δ FU (-2 : Int32) (0 : Int32) (0 : Int32) (0 : Int32)))))
set_option maxHeartbeats 4000000 in
set_option maxRecDepth 100000 in
theorem m_Mo_suspect {a1 : Int32} {δ : Dm} {n : Nat} : ∀ x, f_Mo_suspect a1 δ = some x → AMet k_Mo_suspect 5 0 0 [.ref 151, .int a1] δ RT n (Kp δ RT n x) := by
  refine aw_start (lo := [(0, .ref 151), (1, .int a1)]) mok_Mo_suspect rfl (Nat.le_of_ble_eq_true rfl) ?_
  unfold f_Mo_suspect
  refine aw_iload_n d_Mo_suspect_0 1 rfl ?_
  refine aw_i2l d_Mo_suspect_1 ?_
  refine aw_lconst d_Mo_suspect_2 kl_0 ?_
  refine aw_ldc2 (v := (2 : Int64)) d_Mo_suspect_3 kc_Mo_314 ?_
  refine aw_S_p (As := [.long ((a1).toInt64), .long (0 : Int64), .long (2 : Int64)]) (m_Mo_in) cs_Mo_64 rfl rfl (Nat.le_of_ble_eq_true rfl) ⟨Nat.le_of_ble_eq_true rfl, Nat.le_of_ble_eq_true rfl⟩ ⟨Nat.le_refl _, Nat.le_refl _⟩ d_Mo_suspect_6 (fun y6 => ?_)
  refine aw_if_ne (tgt := 14) d_Mo_suspect_9 rfl (fun q9 => ?_) (fun q9 => ?_)
  · refine aw_iconst d_Mo_suspect_12 ki_m1 ?_
    exact aw_iret rfl rfl ⟨Nat.le_refl _, Nat.le_refl _⟩ d_Mo_suspect_13
  · refine aw_bipush d_Mo_suspect_14 kb_m2 ?_
    refine aw_istore_n (lo' := [(2, .int (-2 : Int32)), (0, .ref 151), (1, .int a1)]) d_Mo_suspect_16 rfl (by decide) rfl ?_
    refine aw_iconst d_Mo_suspect_17 ki_0 ?_
    refine aw_istore_n (lo' := [(3, .int (0 : Int32)), (2, .int (-2 : Int32)), (0, .ref 151), (1, .int a1)]) d_Mo_suspect_18 rfl (by decide) rfl ?_
    refine aw_iconst d_Mo_suspect_19 ki_0 ?_
    refine aw_istore (lo' := [(4, .int (0 : Int32)), (3, .int (0 : Int32)), (2, .int (-2 : Int32)), (0, .ref 151), (1, .int a1)]) d_Mo_suspect_20 (by decide) rfl ?_
    refine aw_iconst d_Mo_suspect_22 ki_0 ?_
    refine aw_istore (lo' := [(5, .int (0 : Int32)), (4, .int (0 : Int32)), (3, .int (0 : Int32)), (2, .int (-2 : Int32)), (0, .ref 151), (1, .int a1)]) d_Mo_suspect_23 (by decide) rfl ?_
    refine aw_sub (lo' := [(0, .ref 151), (1, .int a1), (2, .int (-2 : Int32)), (3, .int (0 : Int32)), (4, .int (0 : Int32)), (5, .int (0 : Int32))]) [4, 5, 3, 2, 1, 0] rfl ?_
    refine tl_Mo_suspect_25 _ _ _ (fun v2_25x v3_25x v4_25x v5_25x => ?_) FU _ _ _ _
    · refine aw_iload_n d_Mo_suspect_68 1 rfl ?_
      refine aw_iconst d_Mo_suspect_69 ki_2 ?_
      refine aw_icmp_ge (tgt := 83) d_Mo_suspect_70 rfl (fun q70 => ?_) (fun q70 => ?_)
      · refine aw_iconst d_Mo_suspect_83 ki_0 ?_
        refine aw_istore (lo' := [(5, .int (0 : Int32)), (0, .ref 151), (1, .int a1), (2, .int v2_25x), (3, .int v3_25x), (4, .int v4_25x)]) d_Mo_suspect_84 (by decide) rfl ?_
        refine aw_sub (lo' := [(0, .ref 151), (1, .int a1), (2, .int v2_25x), (3, .int v3_25x), (4, .int v4_25x), (5, .int (0 : Int32))]) [1, 2, 3, 4, 5, 0] rfl ?_
        refine tl_Mo_suspect_86 _ _ _ _ _ (fun v4_86x v5_86x => ?_) FU _ _
        · refine aw_iload d_Mo_suspect_182 4 rfl ?_
          exact aw_iret rfl rfl ⟨Nat.le_refl _, Nat.le_refl _⟩ d_Mo_suspect_184
      · refine aw_iload_n d_Mo_suspect_73 1 rfl ?_
        refine aw_if_ne (tgt := 81) d_Mo_suspect_74 rfl (fun q74 => ?_) (fun q74 => ?_)
        · refine aw_iload_n d_Mo_suspect_77 2 rfl ?_
          refine aw_goto (tgt := 82) d_Mo_suspect_78 rfl ?_
          exact aw_iret rfl rfl ⟨Nat.le_refl _, Nat.le_refl _⟩ d_Mo_suspect_82
        · refine aw_iload_n d_Mo_suspect_81 3 rfl ?_
          exact aw_iret rfl rfl ⟨Nat.le_refl _, Nat.le_refl _⟩ d_Mo_suspect_82
def f_Mo_isRefused (a1 : Int32) (a2 : Int32) (δ : Dm) : Option (Int32 × Dm) := ((f_Mo_event a2 (5 : Int32) δ).bind (fun y3 => (if y3 ≤ 0 then ((f_Mo_event a2 (1 : Int32) δ).bind (fun y15 => ((f_Mo_event a2 (3 : Int32) δ).bind (fun y21 => ((f_Mo_event a2 (4 : Int32) δ).bind (fun y27 => ((f_Mo_event a2 (2 : Int32) δ).bind (fun y33 => ((f_Mo_words y15 y21 y27 y33 (0 : Int32) (0 : Int32) δ).bind (fun y38 => ((f_Mo_holds a1 (8 : Int32) y38).bind (fun y45 => bnd y45.1 (fun v45 => bnd y45.2 (fun δ_45 => (if v45 = 0 ∨ v45 = 1 then (some (v45, δ_45)) else none))))))))))))))) else (some ((0 : Int32), δ)))))
set_option maxHeartbeats 4000000 in
set_option maxRecDepth 100000 in
theorem m_Mo_isRefused {a1 : Int32} {a2 : Int32} {δ : Dm} {n : Nat} : ∀ x, f_Mo_isRefused a1 a2 δ = some x → AMet k_Mo_isRefused 5 0 0 [.ref 151, .int a1, .int a2] δ RT n (Km RT n x) := by
  refine aw_start (lo := [(0, .ref 151), (1, .int a1), (2, .int a2)]) mok_Mo_isRefused rfl (Nat.le_of_ble_eq_true rfl) ?_
  unfold f_Mo_isRefused
  refine aw_aload_n d_Mo_isRefused_0 0 rfl ?_
  refine aw_iload_n d_Mo_isRefused_1 2 rfl ?_
  refine aw_iconst d_Mo_isRefused_2 ki_5 ?_
  refine aw_V_p (As := [.int a2, .int (5 : Int32)]) (m_Mo_event) cv_Mo_318 kd_151 rfl rfl rfl (Nat.le_of_ble_eq_true rfl) ⟨Nat.le_of_ble_eq_true rfl, Nat.le_of_ble_eq_true rfl⟩ ⟨Nat.le_refl _, Nat.le_refl _⟩ d_Mo_isRefused_3 (fun y3 => ?_)
  refine aw_if_le (tgt := 11) d_Mo_isRefused_6 rfl (fun q6 => ?_) (fun q6 => ?_)
  · refine aw_aload_n d_Mo_isRefused_11 0 rfl ?_
    refine aw_aload_n d_Mo_isRefused_12 0 rfl ?_
    refine aw_iload_n d_Mo_isRefused_13 2 rfl ?_
    refine aw_iconst d_Mo_isRefused_14 ki_1 ?_
    refine aw_V_p (As := [.int a2, .int (1 : Int32)]) (m_Mo_event) cv_Mo_318 kd_151 rfl rfl rfl (Nat.le_of_ble_eq_true rfl) ⟨Nat.le_of_ble_eq_true rfl, Nat.le_of_ble_eq_true rfl⟩ ⟨Nat.le_refl _, Nat.le_refl _⟩ d_Mo_isRefused_15 (fun y15 => ?_)
    refine aw_aload_n d_Mo_isRefused_18 0 rfl ?_
    refine aw_iload_n d_Mo_isRefused_19 2 rfl ?_
    refine aw_iconst d_Mo_isRefused_20 ki_3 ?_
    refine aw_V_p (As := [.int a2, .int (3 : Int32)]) (m_Mo_event) cv_Mo_318 kd_151 rfl rfl rfl (Nat.le_of_ble_eq_true rfl) ⟨Nat.le_of_ble_eq_true rfl, Nat.le_of_ble_eq_true rfl⟩ ⟨Nat.le_refl _, Nat.le_refl _⟩ d_Mo_isRefused_21 (fun y21 => ?_)
    refine aw_aload_n d_Mo_isRefused_24 0 rfl ?_
    refine aw_iload_n d_Mo_isRefused_25 2 rfl ?_
    refine aw_iconst d_Mo_isRefused_26 ki_4 ?_
    refine aw_V_p (As := [.int a2, .int (4 : Int32)]) (m_Mo_event) cv_Mo_318 kd_151 rfl rfl rfl (Nat.le_of_ble_eq_true rfl) ⟨Nat.le_of_ble_eq_true rfl, Nat.le_of_ble_eq_true rfl⟩ ⟨Nat.le_refl _, Nat.le_refl _⟩ d_Mo_isRefused_27 (fun y27 => ?_)
    refine aw_aload_n d_Mo_isRefused_30 0 rfl ?_
    refine aw_iload_n d_Mo_isRefused_31 2 rfl ?_
    refine aw_iconst d_Mo_isRefused_32 ki_2 ?_
    refine aw_V_p (As := [.int a2, .int (2 : Int32)]) (m_Mo_event) cv_Mo_318 kd_151 rfl rfl rfl (Nat.le_of_ble_eq_true rfl) ⟨Nat.le_of_ble_eq_true rfl, Nat.le_of_ble_eq_true rfl⟩ ⟨Nat.le_refl _, Nat.le_refl _⟩ d_Mo_isRefused_33 (fun y33 => ?_)
    refine aw_iconst d_Mo_isRefused_36 ki_0 ?_
    refine aw_iconst d_Mo_isRefused_37 ki_0 ?_
    refine aw_V_v (As := [.int y15, .int y21, .int y27, .int y33, .int (0 : Int32), .int (0 : Int32)]) (m_Mo_words) cv_Mo_295 kd_151 rfl rfl rfl (Nat.le_of_ble_eq_true rfl) ⟨Nat.le_of_ble_eq_true rfl, Nat.le_of_ble_eq_true rfl⟩ ⟨Nat.le_refl _, Nat.le_refl _⟩ d_Mo_isRefused_38 (fun y38 => ?_)
    refine aw_aload_n d_Mo_isRefused_41 0 rfl ?_
    refine aw_iload_n d_Mo_isRefused_42 1 rfl ?_
    refine aw_bipush d_Mo_isRefused_43 kb_8 ?_
    refine aw_V_m (As := [.int a1, .int (8 : Int32)]) (m_Mo_holds) cv_Mo_283 kd_151 rfl rfl rfl (Nat.le_of_ble_eq_true rfl) ⟨Nat.le_of_ble_eq_true rfl, Nat.le_of_ble_eq_true rfl⟩ ⟨Nat.le_refl _, Nat.le_refl _⟩ d_Mo_isRefused_45 (fun y45 => ?_)
    refine aw_bI (fun v45 => ?_)
    refine aw_bD (fun δ_45 => ?_)
    exact aw_zr2 rfl rfl ⟨Nat.le_refl _, Nat.le_refl _⟩ d_Mo_isRefused_48
  · refine aw_iconst d_Mo_isRefused_9 ki_0 ?_
    exact aw_zret rfl rfl rfl ⟨Nat.le_refl _, Nat.le_refl _⟩ d_Mo_isRefused_10
def lp_Mo_refused_28 (kx28_74 : Int32 → Int32 → Dm → Option (Int32 × Dm)) (a1 : Int32) (a2 : Int32) : Nat → Int32 → Int32 → Dm → Option (Int32 × Dm)
  | 0, _, _, _ => none
  | f + 1, v3_28, v4_28, δ28 => (if inb (7 : Int32) 8918 then (if (gI δ28 152 (ix (7 : Int32))) ≤ v4_28 then (kx28_74 v3_28 v4_28 δ28) else ((f_Mo_isStrip v4_28 a2 δ28).bind (fun y45 => (if y45 = 0 then (bnd (v3_28 + (0 : Int32)) (fun v67 => (lp_Mo_refused_28 kx28_74 a1 a2 f v67 (v4_28 + (1 : Int32)) δ28))) else ((f_Mo_isRefused a1 v4_28 δ28).bind (fun y55 => bnd y55.1 (fun v55 => bnd y55.2 (fun δ_55 => (if v55 = 0 then (bnd (v3_28 + (0 : Int32)) (fun v67_1 => (lp_Mo_refused_28 kx28_74 a1 a2 f v67_1 (v4_28 + (1 : Int32)) δ_55))) else (bnd (v3_28 + (1 : Int32)) (fun v67_2 => (lp_Mo_refused_28 kx28_74 a1 a2 f v67_2 (v4_28 + (1 : Int32)) δ_55)))))))))))) else none)
set_option maxHeartbeats 4000000 in
set_option maxRecDepth 100000 in
theorem tl_Mo_refused_28 {n : Nat} (kx28_74 : Int32 → Int32 → Dm → Option (Int32 × Dm)) (a1 : Int32) (a2 : Int32) (hkx28_74 : ∀ v3_28k v4_28k δ28k, AWo k_Mo_refused 6 0 0 74 [(0, .ref 151), (1, .int a1), (2, .int a2), (3, .int v3_28k), (4, .int v4_28k)] [] δ28k RT n 0 0 (Km RT n) (kx28_74 v3_28k v4_28k δ28k)) : ∀ (f : Nat) (v3_28 : Int32) (v4_28 : Int32) (δ28 : Dm), AWo k_Mo_refused 6 0 0 28 [(0, .ref 151), (1, .int a1), (2, .int a2), (3, .int v3_28), (4, .int v4_28)] [] δ28 RT n 0 0 (Km RT n) (lp_Mo_refused_28 kx28_74 a1 a2 f v3_28 v4_28 δ28) := by
  intro f
  induction f with
  | zero => intro _ _ _; exact aw_none
  | succ f ih =>
    intro v3_28 v4_28 δ28
    rw [lp_Mo_refused_28]
    refine aw_iload d_Mo_refused_28 4 rfl ?_
    refine aw_aload_n d_Mo_refused_30 0 rfl ?_
    refine aw_getR (t := 152) fl_Mo_7 kd_151 rt_151_0 d_Mo_refused_31 ?_
    refine aw_bipush d_Mo_refused_34 kb_7 ?_
    refine aw_iald kd_152 d_Mo_refused_36 ?_
    refine aw_icmp_ge (tgt := 74) d_Mo_refused_37 rfl (fun q37 => ?_) (fun q37 => ?_)
    · refine aw_sub (lo' := [(0, .ref 151), (1, .int a1), (2, .int a2), (3, .int v3_28), (4, .int v4_28)]) [0, 1, 2, 3, 4] rfl ?_
      exact hkx28_74 _ _ _
    · refine aw_iload_n d_Mo_refused_40 3 rfl ?_
      refine aw_aload_n d_Mo_refused_41 0 rfl ?_
      refine aw_iload d_Mo_refused_42 4 rfl ?_
      refine aw_iload_n d_Mo_refused_44 2 rfl ?_
      refine aw_V_p (As := [.int v4_28, .int a2]) (m_Mo_isStrip) cv_Mo_323 kd_151 rfl rfl rfl (Nat.le_of_ble_eq_true rfl) ⟨Nat.le_of_ble_eq_true rfl, Nat.le_of_ble_eq_true rfl⟩ ⟨Nat.le_refl _, Nat.le_refl _⟩ d_Mo_refused_45 (fun y45 => ?_)
      refine aw_if_eq (tgt := 65) d_Mo_refused_48 rfl (fun q48 => ?_) (fun q48 => ?_)
      · refine aw_iconst d_Mo_refused_65 ki_0 ?_
        refine aw_iadd d_Mo_refused_66 ?_
        refine aw_bI (fun v67 => ?_)
        refine aw_istore_n (lo' := [(3, .int v67), (0, .ref 151), (1, .int a1), (2, .int a2), (4, .int v4_28)]) d_Mo_refused_67 rfl (by decide) rfl ?_
        refine aw_iinc (v := (v4_28 + (1 : Int32))) (lo' := [(4, .int (v4_28 + (1 : Int32))), (3, .int v67), (0, .ref 151), (1, .int a1), (2, .int a2)]) d_Mo_refused_68 4 rfl (by rw [show Int32.ofInt (1) = (1 : Int32) from by decide]) (by decide) rfl ?_
        refine aw_goto (tgt := 28) d_Mo_refused_71 rfl ?_
        refine aw_sub (lo' := [(0, .ref 151), (1, .int a1), (2, .int a2), (3, .int v67), (4, .int (v4_28 + (1 : Int32)))]) [2, 3, 4, 1, 0] rfl ?_
        exact ih _ _ _
      · refine aw_aload_n d_Mo_refused_51 0 rfl ?_
        refine aw_iload_n d_Mo_refused_52 1 rfl ?_
        refine aw_iload d_Mo_refused_53 4 rfl ?_
        refine aw_V_m (As := [.int a1, .int v4_28]) (m_Mo_isRefused) cv_Mo_360 kd_151 rfl rfl rfl (Nat.le_of_ble_eq_true rfl) ⟨Nat.le_of_ble_eq_true rfl, Nat.le_of_ble_eq_true rfl⟩ ⟨Nat.le_refl _, Nat.le_refl _⟩ d_Mo_refused_55 (fun y55 => ?_)
        refine aw_bI (fun v55 => ?_)
        refine aw_bD (fun δ_55 => ?_)
        refine aw_if_eq (tgt := 65) d_Mo_refused_58 rfl (fun q58 => ?_) (fun q58 => ?_)
        · refine aw_iconst d_Mo_refused_65 ki_0 ?_
          refine aw_iadd d_Mo_refused_66 ?_
          refine aw_bI (fun v67_1 => ?_)
          refine aw_istore_n (lo' := [(3, .int v67_1), (0, .ref 151), (1, .int a1), (2, .int a2), (4, .int v4_28)]) d_Mo_refused_67 rfl (by decide) rfl ?_
          refine aw_iinc (v := (v4_28 + (1 : Int32))) (lo' := [(4, .int (v4_28 + (1 : Int32))), (3, .int v67_1), (0, .ref 151), (1, .int a1), (2, .int a2)]) d_Mo_refused_68 4 rfl (by rw [show Int32.ofInt (1) = (1 : Int32) from by decide]) (by decide) rfl ?_
          refine aw_goto (tgt := 28) d_Mo_refused_71 rfl ?_
          refine aw_sub (lo' := [(0, .ref 151), (1, .int a1), (2, .int a2), (3, .int v67_1), (4, .int (v4_28 + (1 : Int32)))]) [2, 3, 4, 1, 0] rfl ?_
          exact ih _ _ _
        · refine aw_iconst d_Mo_refused_61 ki_1 ?_
          refine aw_goto (tgt := 66) d_Mo_refused_62 rfl ?_
          refine aw_iadd d_Mo_refused_66 ?_
          refine aw_bI (fun v67_2 => ?_)
          refine aw_istore_n (lo' := [(3, .int v67_2), (0, .ref 151), (1, .int a1), (2, .int a2), (4, .int v4_28)]) d_Mo_refused_67 rfl (by decide) rfl ?_
          refine aw_iinc (v := (v4_28 + (1 : Int32))) (lo' := [(4, .int (v4_28 + (1 : Int32))), (3, .int v67_2), (0, .ref 151), (1, .int a1), (2, .int a2)]) d_Mo_refused_68 4 rfl (by rw [show Int32.ofInt (1) = (1 : Int32) from by decide]) (by decide) rfl ?_
          refine aw_goto (tgt := 28) d_Mo_refused_71 rfl ?_
          refine aw_sub (lo' := [(0, .ref 151), (1, .int a1), (2, .int a2), (3, .int v67_2), (4, .int (v4_28 + (1 : Int32)))]) [2, 3, 4, 1, 0] rfl ?_
          exact ih _ _ _
def jp_Mo_refused_23 (a1 : Int32) (a2 : Int32) (δ : Dm) : Option (Int32 × Dm) := (lp_Mo_refused_28 (fun v3_28x v4_28x δ28x => (some (v3_28x, δ28x))) a1 a2 FU (0 : Int32) (0 : Int32) δ)
set_option maxHeartbeats 4000000 in
set_option maxRecDepth 100000 in
theorem tj_Mo_refused_23 {n : Nat} (a1 : Int32) (a2 : Int32) (δ : Dm) : AWo k_Mo_refused 6 0 0 23 [(0, .ref 151), (1, .int a1), (2, .int a2)] [] δ RT n 0 0 (Km RT n) (jp_Mo_refused_23 a1 a2 δ) := by
  unfold jp_Mo_refused_23
  refine aw_iconst d_Mo_refused_23 ki_0 ?_
  refine aw_istore_n (lo' := [(3, .int (0 : Int32)), (0, .ref 151), (1, .int a1), (2, .int a2)]) d_Mo_refused_24 rfl (by decide) rfl ?_
  refine aw_iconst d_Mo_refused_25 ki_0 ?_
  refine aw_istore (lo' := [(4, .int (0 : Int32)), (3, .int (0 : Int32)), (0, .ref 151), (1, .int a1), (2, .int a2)]) d_Mo_refused_26 (by decide) rfl ?_
  refine aw_sub (lo' := [(0, .ref 151), (1, .int a1), (2, .int a2), (3, .int (0 : Int32)), (4, .int (0 : Int32))]) [2, 3, 4, 1, 0] rfl ?_
  refine tl_Mo_refused_28 _ _ _ (fun v3_28x v4_28x δ28x => ?_) FU _ _ _
  · refine aw_iload_n d_Mo_refused_74 3 rfl ?_
    exact aw_iret rfl rfl ⟨Nat.le_refl _, Nat.le_refl _⟩ d_Mo_refused_75
def f_Mo_refused (a1 : Int32) (a2 : Int32) (δ : Dm) : Option (Int32 × Dm) := ((f_Mo_isLaw a1 δ).bind (fun y2 => (if y2 = 0 then (some ((-1 : Int32), δ)) else (if a2 = (-1 : Int32) then (jp_Mo_refused_23 a1 a2 δ) else ((f_Mo_isBooth a2 δ).bind (fun y15 => (if y15 = 0 then (some ((-1 : Int32), δ)) else (jp_Mo_refused_23 a1 a2 δ))))))))
set_option maxHeartbeats 4000000 in
set_option maxRecDepth 100000 in
theorem m_Mo_refused {a1 : Int32} {a2 : Int32} {δ : Dm} {n : Nat} : ∀ x, f_Mo_refused a1 a2 δ = some x → AMet k_Mo_refused 6 0 0 [.ref 151, .int a1, .int a2] δ RT n (Km RT n x) := by
  refine aw_start (lo := [(0, .ref 151), (1, .int a1), (2, .int a2)]) mok_Mo_refused rfl (Nat.le_of_ble_eq_true rfl) ?_
  unfold f_Mo_refused
  refine aw_aload_n d_Mo_refused_0 0 rfl ?_
  refine aw_iload_n d_Mo_refused_1 1 rfl ?_
  refine aw_V_p (As := [.int a1]) (m_Mo_isLaw) cv_Mo_271 kd_151 rfl rfl rfl (Nat.le_of_ble_eq_true rfl) ⟨Nat.le_of_ble_eq_true rfl, Nat.le_of_ble_eq_true rfl⟩ ⟨Nat.le_refl _, Nat.le_refl _⟩ d_Mo_refused_2 (fun y2 => ?_)
  refine aw_if_eq (tgt := 21) d_Mo_refused_5 rfl (fun q5 => ?_) (fun q5 => ?_)
  · refine aw_iconst d_Mo_refused_21 ki_m1 ?_
    exact aw_iret rfl rfl ⟨Nat.le_refl _, Nat.le_refl _⟩ d_Mo_refused_22
  · refine aw_iload_n d_Mo_refused_8 2 rfl ?_
    refine aw_iconst d_Mo_refused_9 ki_m1 ?_
    refine aw_icmp_eq (tgt := 23) d_Mo_refused_10 rfl (fun q10 => ?_) (fun q10 => ?_)
    · refine aw_sub (lo' := [(0, .ref 151), (1, .int a1), (2, .int a2)]) [0, 1, 2] rfl ?_
      exact tj_Mo_refused_23 _ _ _
    · refine aw_aload_n d_Mo_refused_13 0 rfl ?_
      refine aw_iload_n d_Mo_refused_14 2 rfl ?_
      refine aw_V_p (As := [.int a2]) (m_Mo_isBooth) cv_Mo_278 kd_151 rfl rfl rfl (Nat.le_of_ble_eq_true rfl) ⟨Nat.le_of_ble_eq_true rfl, Nat.le_of_ble_eq_true rfl⟩ ⟨Nat.le_refl _, Nat.le_refl _⟩ d_Mo_refused_15 (fun y15 => ?_)
      refine aw_if_ne (tgt := 23) d_Mo_refused_18 rfl (fun q18 => ?_) (fun q18 => ?_)
      · refine aw_iconst d_Mo_refused_21 ki_m1 ?_
        exact aw_iret rfl rfl ⟨Nat.le_refl _, Nat.le_refl _⟩ d_Mo_refused_22
      · refine aw_sub (lo' := [(0, .ref 151), (1, .int a1), (2, .int a2)]) [0, 1, 2] rfl ?_
        exact tj_Mo_refused_23 _ _ _
def jp_Mo_newer_77 (kr25 : Int32 → Int32 → Dm → Option (Int32 × Dm)) (kx25_112 : Int32 → Int32 → Dm → Option (Int32 × Dm)) (a1 : Int32) (a2 : Int32) (v3_25 : Int32) (v4_25 : Int32) (δ_55 : Dm) (s0_77 : Int32) : Option (Int32 × Dm) := ((f_Mo_isRefused a2 v4_25 δ_55).bind (fun y81 => bnd y81.1 (fun v81 => bnd y81.2 (fun δ_81 => (if v81 = 0 then (bnd (v3_25 + (s0_77 - (0 : Int32))) (fun v105 => (kr25 v105 (v4_25 + (1 : Int32)) δ_81))) else ((f_Mo_event v4_25 (1 : Int32) δ_81).bind (fun y92 => ((f_Mo_cell y92 (1 : Int32) δ_81).bind (fun y96 => (bnd (v3_25 + (s0_77 - y96)) (fun v105_1 => (kr25 v105_1 (v4_25 + (1 : Int32)) δ_81))))))))))))
set_option maxHeartbeats 4000000 in
set_option maxRecDepth 100000 in
theorem tj_Mo_newer_77 {n : Nat} (kr25 : Int32 → Int32 → Dm → Option (Int32 × Dm)) (kx25_112 : Int32 → Int32 → Dm → Option (Int32 × Dm)) (a1 : Int32) (a2 : Int32) (v3_25 : Int32) (v4_25 : Int32) (δ_55 : Dm) (s0_77 : Int32) (hkr25 : ∀ v3_25k v4_25k δ25k, AWo k_Mo_newer 6 0 0 25 [(0, .ref 151), (1, .int a1), (2, .int a2), (3, .int v3_25k), (4, .int v4_25k)] [] δ25k RT n 0 0 (Km RT n) (kr25 v3_25k v4_25k δ25k)) (hkx25_112 : ∀ v3_25k v4_25k δ25k, AWo k_Mo_newer 6 0 0 112 [(0, .ref 151), (1, .int a1), (2, .int a2), (3, .int v3_25k), (4, .int v4_25k)] [] δ25k RT n 0 0 (Km RT n) (kx25_112 v3_25k v4_25k δ25k)) : AWo k_Mo_newer 6 0 0 77 [(0, .ref 151), (1, .int a1), (2, .int a2), (3, .int v3_25), (4, .int v4_25)] [.int s0_77, .int v3_25] δ_55 RT n 0 0 (Km RT n) (jp_Mo_newer_77 kr25 kx25_112 a1 a2 v3_25 v4_25 δ_55 s0_77) := by
  unfold jp_Mo_newer_77
  refine aw_aload_n d_Mo_newer_77 0 rfl ?_
  refine aw_iload_n d_Mo_newer_78 2 rfl ?_
  refine aw_iload d_Mo_newer_79 4 rfl ?_
  refine aw_V_m (As := [.int a2, .int v4_25]) (m_Mo_isRefused) cv_Mo_360 kd_151 rfl rfl rfl (Nat.le_of_ble_eq_true rfl) ⟨Nat.le_of_ble_eq_true rfl, Nat.le_of_ble_eq_true rfl⟩ ⟨Nat.le_refl _, Nat.le_refl _⟩ d_Mo_newer_81 (fun y81 => ?_)
  refine aw_bI (fun v81 => ?_)
  refine aw_bD (fun δ_81 => ?_)
  refine aw_if_eq (tgt := 102) d_Mo_newer_84 rfl (fun q84 => ?_) (fun q84 => ?_)
  · refine aw_iconst d_Mo_newer_102 ki_0 ?_
    refine aw_isub d_Mo_newer_103 ?_
    refine aw_iadd d_Mo_newer_104 ?_
    refine aw_bI (fun v105 => ?_)
    refine aw_istore_n (lo' := [(3, .int v105), (0, .ref 151), (1, .int a1), (2, .int a2), (4, .int v4_25)]) d_Mo_newer_105 rfl (by decide) rfl ?_
    refine aw_iinc (v := (v4_25 + (1 : Int32))) (lo' := [(4, .int (v4_25 + (1 : Int32))), (3, .int v105), (0, .ref 151), (1, .int a1), (2, .int a2)]) d_Mo_newer_106 4 rfl (by rw [show Int32.ofInt (1) = (1 : Int32) from by decide]) (by decide) rfl ?_
    refine aw_goto (tgt := 25) d_Mo_newer_109 rfl ?_
    refine aw_sub (lo' := [(0, .ref 151), (1, .int a1), (2, .int a2), (3, .int v105), (4, .int (v4_25 + (1 : Int32)))]) [2, 3, 4, 1, 0] rfl ?_
    exact hkr25 _ _ _
  · refine aw_aload_n d_Mo_newer_87 0 rfl ?_
    refine aw_aload_n d_Mo_newer_88 0 rfl ?_
    refine aw_iload d_Mo_newer_89 4 rfl ?_
    refine aw_iconst d_Mo_newer_91 ki_1 ?_
    refine aw_V_p (As := [.int v4_25, .int (1 : Int32)]) (m_Mo_event) cv_Mo_318 kd_151 rfl rfl rfl (Nat.le_of_ble_eq_true rfl) ⟨Nat.le_of_ble_eq_true rfl, Nat.le_of_ble_eq_true rfl⟩ ⟨Nat.le_refl _, Nat.le_refl _⟩ d_Mo_newer_92 (fun y92 => ?_)
    refine aw_iconst d_Mo_newer_95 ki_1 ?_
    refine aw_V_p (As := [.int y92, .int (1 : Int32)]) (m_Mo_cell) cv_Mo_265 kd_151 rfl rfl rfl (Nat.le_of_ble_eq_true rfl) ⟨Nat.le_of_ble_eq_true rfl, Nat.le_of_ble_eq_true rfl⟩ ⟨Nat.le_refl _, Nat.le_refl _⟩ d_Mo_newer_96 (fun y96 => ?_)
    refine aw_goto (tgt := 103) d_Mo_newer_99 rfl ?_
    refine aw_isub d_Mo_newer_103 ?_
    refine aw_iadd d_Mo_newer_104 ?_
    refine aw_bI (fun v105_1 => ?_)
    refine aw_istore_n (lo' := [(3, .int v105_1), (0, .ref 151), (1, .int a1), (2, .int a2), (4, .int v4_25)]) d_Mo_newer_105 rfl (by decide) rfl ?_
    refine aw_iinc (v := (v4_25 + (1 : Int32))) (lo' := [(4, .int (v4_25 + (1 : Int32))), (3, .int v105_1), (0, .ref 151), (1, .int a1), (2, .int a2)]) d_Mo_newer_106 4 rfl (by rw [show Int32.ofInt (1) = (1 : Int32) from by decide]) (by decide) rfl ?_
    refine aw_goto (tgt := 25) d_Mo_newer_109 rfl ?_
    refine aw_sub (lo' := [(0, .ref 151), (1, .int a1), (2, .int a2), (3, .int v105_1), (4, .int (v4_25 + (1 : Int32)))]) [2, 3, 4, 1, 0] rfl ?_
    exact hkr25 _ _ _
def lp_Mo_newer_25 (kx25_112 : Int32 → Int32 → Dm → Option (Int32 × Dm)) (a1 : Int32) (a2 : Int32) : Nat → Int32 → Int32 → Dm → Option (Int32 × Dm)
  | 0, _, _, _ => none
  | f + 1, v3_25, v4_25, δ25 => (if inb (7 : Int32) 8918 then (if (gI δ25 152 (ix (7 : Int32))) ≤ v4_25 then (kx25_112 v3_25 v4_25 δ25) else ((f_Mo_isStrip v4_25 (-1 : Int32) δ25).bind (fun y41 => (if y41 = 0 then (lp_Mo_newer_25 kx25_112 a1 a2 f v3_25 (v4_25 + (1 : Int32)) δ25) else ((f_Mo_isRefused a1 v4_25 δ25).bind (fun y55 => bnd y55.1 (fun v55 => bnd y55.2 (fun δ_55 => (if v55 = 0 then (jp_Mo_newer_77 (lp_Mo_newer_25 kx25_112 a1 a2 f) kx25_112 a1 a2 v3_25 v4_25 δ_55 (0 : Int32)) else ((f_Mo_event v4_25 (1 : Int32) δ_55).bind (fun y66 => ((f_Mo_cell y66 (1 : Int32) δ_55).bind (fun y70 => (jp_Mo_newer_77 (lp_Mo_newer_25 kx25_112 a1 a2 f) kx25_112 a1 a2 v3_25 v4_25 δ_55 y70)))))))))))))) else none)
set_option maxHeartbeats 4000000 in
set_option maxRecDepth 100000 in
theorem tl_Mo_newer_25 {n : Nat} (kx25_112 : Int32 → Int32 → Dm → Option (Int32 × Dm)) (a1 : Int32) (a2 : Int32) (hkx25_112 : ∀ v3_25k v4_25k δ25k, AWo k_Mo_newer 6 0 0 112 [(0, .ref 151), (1, .int a1), (2, .int a2), (3, .int v3_25k), (4, .int v4_25k)] [] δ25k RT n 0 0 (Km RT n) (kx25_112 v3_25k v4_25k δ25k)) : ∀ (f : Nat) (v3_25 : Int32) (v4_25 : Int32) (δ25 : Dm), AWo k_Mo_newer 6 0 0 25 [(0, .ref 151), (1, .int a1), (2, .int a2), (3, .int v3_25), (4, .int v4_25)] [] δ25 RT n 0 0 (Km RT n) (lp_Mo_newer_25 kx25_112 a1 a2 f v3_25 v4_25 δ25) := by
  intro f
  induction f with
  | zero => intro _ _ _; exact aw_none
  | succ f ih =>
    intro v3_25 v4_25 δ25
    rw [lp_Mo_newer_25]
    refine aw_iload d_Mo_newer_25 4 rfl ?_
    refine aw_aload_n d_Mo_newer_27 0 rfl ?_
    refine aw_getR (t := 152) fl_Mo_7 kd_151 rt_151_0 d_Mo_newer_28 ?_
    refine aw_bipush d_Mo_newer_31 kb_7 ?_
    refine aw_iald kd_152 d_Mo_newer_33 ?_
    refine aw_icmp_ge (tgt := 112) d_Mo_newer_34 rfl (fun q34 => ?_) (fun q34 => ?_)
    · refine aw_sub (lo' := [(0, .ref 151), (1, .int a1), (2, .int a2), (3, .int v3_25), (4, .int v4_25)]) [0, 1, 2, 3, 4] rfl ?_
      exact hkx25_112 _ _ _
    · refine aw_aload_n d_Mo_newer_37 0 rfl ?_
      refine aw_iload d_Mo_newer_38 4 rfl ?_
      refine aw_iconst d_Mo_newer_40 ki_m1 ?_
      refine aw_V_p (As := [.int v4_25, .int (-1 : Int32)]) (m_Mo_isStrip) cv_Mo_323 kd_151 rfl rfl rfl (Nat.le_of_ble_eq_true rfl) ⟨Nat.le_of_ble_eq_true rfl, Nat.le_of_ble_eq_true rfl⟩ ⟨Nat.le_refl _, Nat.le_refl _⟩ d_Mo_newer_41 (fun y41 => ?_)
      refine aw_if_ne (tgt := 50) d_Mo_newer_44 rfl (fun q44 => ?_) (fun q44 => ?_)
      · refine aw_goto (tgt := 106) d_Mo_newer_47 rfl ?_
        refine aw_iinc (v := (v4_25 + (1 : Int32))) (lo' := [(4, .int (v4_25 + (1 : Int32))), (0, .ref 151), (1, .int a1), (2, .int a2), (3, .int v3_25)]) d_Mo_newer_106 4 rfl (by rw [show Int32.ofInt (1) = (1 : Int32) from by decide]) (by decide) rfl ?_
        refine aw_goto (tgt := 25) d_Mo_newer_109 rfl ?_
        refine aw_sub (lo' := [(0, .ref 151), (1, .int a1), (2, .int a2), (3, .int v3_25), (4, .int (v4_25 + (1 : Int32)))]) [1, 2, 3, 4, 0] rfl ?_
        exact ih _ _ _
      · refine aw_iload_n d_Mo_newer_50 3 rfl ?_
        refine aw_aload_n d_Mo_newer_51 0 rfl ?_
        refine aw_iload_n d_Mo_newer_52 1 rfl ?_
        refine aw_iload d_Mo_newer_53 4 rfl ?_
        refine aw_V_m (As := [.int a1, .int v4_25]) (m_Mo_isRefused) cv_Mo_360 kd_151 rfl rfl rfl (Nat.le_of_ble_eq_true rfl) ⟨Nat.le_of_ble_eq_true rfl, Nat.le_of_ble_eq_true rfl⟩ ⟨Nat.le_refl _, Nat.le_refl _⟩ d_Mo_newer_55 (fun y55 => ?_)
        refine aw_bI (fun v55 => ?_)
        refine aw_bD (fun δ_55 => ?_)
        refine aw_if_eq (tgt := 76) d_Mo_newer_58 rfl (fun q58 => ?_) (fun q58 => ?_)
        · refine aw_iconst d_Mo_newer_76 ki_0 ?_
          refine aw_sub (lo' := [(0, .ref 151), (1, .int a1), (2, .int a2), (3, .int v3_25), (4, .int v4_25)]) [0, 1, 2, 3, 4] rfl ?_
          exact tj_Mo_newer_77 _ _ _ _ _ _ _ _ ih hkx25_112
        · refine aw_aload_n d_Mo_newer_61 0 rfl ?_
          refine aw_aload_n d_Mo_newer_62 0 rfl ?_
          refine aw_iload d_Mo_newer_63 4 rfl ?_
          refine aw_iconst d_Mo_newer_65 ki_1 ?_
          refine aw_V_p (As := [.int v4_25, .int (1 : Int32)]) (m_Mo_event) cv_Mo_318 kd_151 rfl rfl rfl (Nat.le_of_ble_eq_true rfl) ⟨Nat.le_of_ble_eq_true rfl, Nat.le_of_ble_eq_true rfl⟩ ⟨Nat.le_refl _, Nat.le_refl _⟩ d_Mo_newer_66 (fun y66 => ?_)
          refine aw_iconst d_Mo_newer_69 ki_1 ?_
          refine aw_V_p (As := [.int y66, .int (1 : Int32)]) (m_Mo_cell) cv_Mo_265 kd_151 rfl rfl rfl (Nat.le_of_ble_eq_true rfl) ⟨Nat.le_of_ble_eq_true rfl, Nat.le_of_ble_eq_true rfl⟩ ⟨Nat.le_refl _, Nat.le_refl _⟩ d_Mo_newer_70 (fun y70 => ?_)
          refine aw_goto (tgt := 77) d_Mo_newer_73 rfl ?_
          refine aw_sub (lo' := [(0, .ref 151), (1, .int a1), (2, .int a2), (3, .int v3_25), (4, .int v4_25)]) [0, 1, 2, 3, 4] rfl ?_
          exact tj_Mo_newer_77 _ _ _ _ _ _ _ _ ih hkx25_112
def f_Mo_newer (a1 : Int32) (a2 : Int32) (δ : Dm) : Option (Int32 × Dm) := ((f_Mo_isLaw a1 δ).bind (fun y2 => (if y2 = 0 then (some ((-1000000000 : Int32), δ)) else ((f_Mo_isLaw a2 δ).bind (fun y10 => (if y10 = 0 then (some ((-1000000000 : Int32), δ)) else (lp_Mo_newer_25 (fun v3_25x v4_25x δ25x => (some (v3_25x, δ25x))) a1 a2 FU (0 : Int32) (0 : Int32) δ)))))))
set_option maxHeartbeats 4000000 in
set_option maxRecDepth 100000 in
theorem m_Mo_newer {a1 : Int32} {a2 : Int32} {δ : Dm} {n : Nat} : ∀ x, f_Mo_newer a1 a2 δ = some x → AMet k_Mo_newer 6 0 0 [.ref 151, .int a1, .int a2] δ RT n (Km RT n x) := by
  refine aw_start (lo := [(0, .ref 151), (1, .int a1), (2, .int a2)]) mok_Mo_newer rfl (Nat.le_of_ble_eq_true rfl) ?_
  unfold f_Mo_newer
  refine aw_aload_n d_Mo_newer_0 0 rfl ?_
  refine aw_iload_n d_Mo_newer_1 1 rfl ?_
  refine aw_V_p (As := [.int a1]) (m_Mo_isLaw) cv_Mo_271 kd_151 rfl rfl rfl (Nat.le_of_ble_eq_true rfl) ⟨Nat.le_of_ble_eq_true rfl, Nat.le_of_ble_eq_true rfl⟩ ⟨Nat.le_refl _, Nat.le_refl _⟩ d_Mo_newer_2 (fun y2 => ?_)
  refine aw_if_eq (tgt := 16) d_Mo_newer_5 rfl (fun q5 => ?_) (fun q5 => ?_)
  · refine aw_ldcw (v := (-1000000000 : Int32)) d_Mo_newer_16 kc_Mo_345 ?_
    exact aw_iret rfl rfl ⟨Nat.le_refl _, Nat.le_refl _⟩ d_Mo_newer_19
  · refine aw_aload_n d_Mo_newer_8 0 rfl ?_
    refine aw_iload_n d_Mo_newer_9 2 rfl ?_
    refine aw_V_p (As := [.int a2]) (m_Mo_isLaw) cv_Mo_271 kd_151 rfl rfl rfl (Nat.le_of_ble_eq_true rfl) ⟨Nat.le_of_ble_eq_true rfl, Nat.le_of_ble_eq_true rfl⟩ ⟨Nat.le_refl _, Nat.le_refl _⟩ d_Mo_newer_10 (fun y10 => ?_)
    refine aw_if_ne (tgt := 20) d_Mo_newer_13 rfl (fun q13 => ?_) (fun q13 => ?_)
    · refine aw_ldcw (v := (-1000000000 : Int32)) d_Mo_newer_16 kc_Mo_345 ?_
      exact aw_iret rfl rfl ⟨Nat.le_refl _, Nat.le_refl _⟩ d_Mo_newer_19
    · refine aw_iconst d_Mo_newer_20 ki_0 ?_
      refine aw_istore_n (lo' := [(3, .int (0 : Int32)), (0, .ref 151), (1, .int a1), (2, .int a2)]) d_Mo_newer_21 rfl (by decide) rfl ?_
      refine aw_iconst d_Mo_newer_22 ki_0 ?_
      refine aw_istore (lo' := [(4, .int (0 : Int32)), (3, .int (0 : Int32)), (0, .ref 151), (1, .int a1), (2, .int a2)]) d_Mo_newer_23 (by decide) rfl ?_
      refine aw_sub (lo' := [(0, .ref 151), (1, .int a1), (2, .int a2), (3, .int (0 : Int32)), (4, .int (0 : Int32))]) [2, 3, 4, 1, 0] rfl ?_
      refine tl_Mo_newer_25 _ _ _ (fun v3_25x v4_25x δ25x => ?_) FU _ _ _
      · refine aw_iload_n d_Mo_newer_112 3 rfl ?_
        exact aw_iret rfl rfl ⟨Nat.le_refl _, Nat.le_refl _⟩ d_Mo_newer_113
def f_Mo_rentBy (a1 : Int32) (a2 : Int32) (a3 : Int32) (a4 : Int32) (δ : Dm) : Option (Int32 × Dm) := ((f_Mo_stripsOn a2 a3 a4 δ).bind (fun y5 => ((f_Mo_cell a2 (1 : Int32) δ).bind (fun y23 => ((f_Mo_words a2 (0 : Int32) (0 : Int32) a4 y5 (y5 * y23) δ).bind (fun y27 => ((f_Mo_summed a1 (10 : Int32) (-99999999 : Int32) (99999999 : Int32) y27).bind (fun y40 => bnd y40.1 (fun v40 => bnd y40.2 (fun δ_40 => (some (v40, δ_40))))))))))))
set_option maxHeartbeats 4000000 in
set_option maxRecDepth 100000 in
theorem m_Mo_rentBy {a1 : Int32} {a2 : Int32} {a3 : Int32} {a4 : Int32} {δ : Dm} {n : Nat} : ∀ x, f_Mo_rentBy a1 a2 a3 a4 δ = some x → AMet k_Mo_rentBy 5 0 0 [.ref 151, .int a1, .int a2, .int a3, .int a4] δ RT n (Km RT n x) := by
  refine aw_start (lo := [(0, .ref 151), (1, .int a1), (2, .int a2), (3, .int a3), (4, .int a4)]) mok_Mo_rentBy rfl (Nat.le_of_ble_eq_true rfl) ?_
  unfold f_Mo_rentBy
  refine aw_aload_n d_Mo_rentBy_0 0 rfl ?_
  refine aw_iload_n d_Mo_rentBy_1 2 rfl ?_
  refine aw_iload_n d_Mo_rentBy_2 3 rfl ?_
  refine aw_iload d_Mo_rentBy_3 4 rfl ?_
  refine aw_V_p (As := [.int a2, .int a3, .int a4]) (m_Mo_stripsOn) cv_Mo_346 kd_151 rfl rfl rfl (Nat.le_of_ble_eq_true rfl) ⟨Nat.le_of_ble_eq_true rfl, Nat.le_of_ble_eq_true rfl⟩ ⟨Nat.le_refl _, Nat.le_refl _⟩ d_Mo_rentBy_5 (fun y5 => ?_)
  refine aw_istore (lo' := [(5, .int y5), (0, .ref 151), (1, .int a1), (2, .int a2), (3, .int a3), (4, .int a4)]) d_Mo_rentBy_8 (by decide) rfl ?_
  refine aw_aload_n d_Mo_rentBy_10 1 rfl ?_
  refine aw_iload_n d_Mo_rentBy_11 3 rfl ?_
  refine aw_iconst d_Mo_rentBy_12 ki_0 ?_
  refine aw_iconst d_Mo_rentBy_13 ki_0 ?_
  refine aw_iload d_Mo_rentBy_14 5 rfl ?_
  refine aw_iload d_Mo_rentBy_16 0 rfl ?_
  refine aw_iload d_Mo_rentBy_18 0 rfl ?_
  refine aw_aload_n d_Mo_rentBy_20 1 rfl ?_
  refine aw_iload_n d_Mo_rentBy_21 3 rfl ?_
  refine aw_iconst d_Mo_rentBy_22 ki_1 ?_
  refine aw_V_p (As := [.int a2, .int (1 : Int32)]) (m_Mo_cell) cv_Mo_265 kd_151 rfl rfl rfl (Nat.le_of_ble_eq_true rfl) ⟨Nat.le_of_ble_eq_true rfl, Nat.le_of_ble_eq_true rfl⟩ ⟨Nat.le_refl _, Nat.le_refl _⟩ d_Mo_rentBy_23 (fun y23 => ?_)
  refine aw_imul d_Mo_rentBy_26 ?_
  refine aw_V_v (As := [.int a2, .int (0 : Int32), .int (0 : Int32), .int a4, .int y5, .int (y5 * y23)]) (m_Mo_words) cv_Mo_295 kd_151 rfl rfl rfl (Nat.le_of_ble_eq_true rfl) ⟨Nat.le_of_ble_eq_true rfl, Nat.le_of_ble_eq_true rfl⟩ ⟨Nat.le_refl _, Nat.le_refl _⟩ d_Mo_rentBy_27 (fun y27 => ?_)
  refine aw_aload_n d_Mo_rentBy_30 1 rfl ?_
  refine aw_iload_n d_Mo_rentBy_31 2 rfl ?_
  refine aw_bipush d_Mo_rentBy_32 kb_10 ?_
  refine aw_ldcw (v := (-99999999 : Int32)) d_Mo_rentBy_34 kc_Mo_363 ?_
  refine aw_ldcw (v := (99999999 : Int32)) d_Mo_rentBy_37 kc_Mo_364 ?_
  refine aw_V_m (As := [.int a1, .int (10 : Int32), .int (-99999999 : Int32), .int (99999999 : Int32)]) (m_Mo_summed) cv_Mo_286 kd_151 rfl rfl rfl (Nat.le_of_ble_eq_true rfl) ⟨Nat.le_of_ble_eq_true rfl, Nat.le_of_ble_eq_true rfl⟩ ⟨Nat.le_refl _, Nat.le_refl _⟩ d_Mo_rentBy_40 (fun y40 => ?_)
  refine aw_bI (fun v40 => ?_)
  refine aw_bD (fun δ_40 => ?_)
  exact aw_iret rfl rfl ⟨Nat.le_refl _, Nat.le_refl _⟩ d_Mo_rentBy_43
def f_Mo_rent (a1 : Int32) (a2 : Int32) (a3 : Int32) (a4 : Int32) (δ : Dm) : Option (Int32 × Dm) := ((f_Mo_isLaw a1 δ).bind (fun y2 => (if y2 = 0 then (some ((-1000000000 : Int32), δ)) else ((f_Mo_isBooth a2 δ).bind (fun y10 => (if y10 = 0 then (some ((-1000000000 : Int32), δ)) else ((f_Mo_isDay a3 δ).bind (fun y17 => (if y17 = 0 then (some ((-1000000000 : Int32), δ)) else ((f_Mo_isDay a4 δ).bind (fun y25 => (if y25 = 0 then (some ((-1000000000 : Int32), δ)) else (if a4 < a3 then (some ((-1000000000 : Int32), δ)) else ((f_Mo_rentBy a1 a2 a3 a4 δ).bind (fun y43 => bnd y43.1 (fun v43 => bnd y43.2 (fun δ_43 => (some (v43, δ_43)))))))))))))))))))
set_option maxHeartbeats 4000000 in
set_option maxRecDepth 100000 in
theorem m_Mo_rent {a1 : Int32} {a2 : Int32} {a3 : Int32} {a4 : Int32} {δ : Dm} {n : Nat} : ∀ x, f_Mo_rent a1 a2 a3 a4 δ = some x → AMet k_Mo_rent 6 0 0 [.ref 151, .int a1, .int a2, .int a3, .int a4] δ RT n (Km RT n x) := by
  refine aw_start (lo := [(0, .ref 151), (1, .int a1), (2, .int a2), (3, .int a3), (4, .int a4)]) mok_Mo_rent rfl (Nat.le_of_ble_eq_true rfl) ?_
  unfold f_Mo_rent
  refine aw_aload_n d_Mo_rent_0 0 rfl ?_
  refine aw_iload_n d_Mo_rent_1 1 rfl ?_
  refine aw_V_p (As := [.int a1]) (m_Mo_isLaw) cv_Mo_271 kd_151 rfl rfl rfl (Nat.le_of_ble_eq_true rfl) ⟨Nat.le_of_ble_eq_true rfl, Nat.le_of_ble_eq_true rfl⟩ ⟨Nat.le_refl _, Nat.le_refl _⟩ d_Mo_rent_2 (fun y2 => ?_)
  refine aw_if_eq (tgt := 49) d_Mo_rent_5 rfl (fun q5 => ?_) (fun q5 => ?_)
  · refine aw_ldcw (v := (-1000000000 : Int32)) d_Mo_rent_49 kc_Mo_345 ?_
    exact aw_iret rfl rfl ⟨Nat.le_refl _, Nat.le_refl _⟩ d_Mo_rent_52
  · refine aw_aload_n d_Mo_rent_8 0 rfl ?_
    refine aw_iload_n d_Mo_rent_9 2 rfl ?_
    refine aw_V_p (As := [.int a2]) (m_Mo_isBooth) cv_Mo_278 kd_151 rfl rfl rfl (Nat.le_of_ble_eq_true rfl) ⟨Nat.le_of_ble_eq_true rfl, Nat.le_of_ble_eq_true rfl⟩ ⟨Nat.le_refl _, Nat.le_refl _⟩ d_Mo_rent_10 (fun y10 => ?_)
    refine aw_if_eq (tgt := 49) d_Mo_rent_13 rfl (fun q13 => ?_) (fun q13 => ?_)
    · refine aw_ldcw (v := (-1000000000 : Int32)) d_Mo_rent_49 kc_Mo_345 ?_
      exact aw_iret rfl rfl ⟨Nat.le_refl _, Nat.le_refl _⟩ d_Mo_rent_52
    · refine aw_iload_n d_Mo_rent_16 3 rfl ?_
      refine aw_S_p (As := [.int a3]) (m_Mo_isDay) cs_Mo_74 rfl rfl (Nat.le_of_ble_eq_true rfl) ⟨Nat.le_of_ble_eq_true rfl, Nat.le_of_ble_eq_true rfl⟩ ⟨Nat.le_refl _, Nat.le_refl _⟩ d_Mo_rent_17 (fun y17 => ?_)
      refine aw_if_eq (tgt := 49) d_Mo_rent_20 rfl (fun q20 => ?_) (fun q20 => ?_)
      · refine aw_ldcw (v := (-1000000000 : Int32)) d_Mo_rent_49 kc_Mo_345 ?_
        exact aw_iret rfl rfl ⟨Nat.le_refl _, Nat.le_refl _⟩ d_Mo_rent_52
      · refine aw_iload d_Mo_rent_23 4 rfl ?_
        refine aw_S_p (As := [.int a4]) (m_Mo_isDay) cs_Mo_74 rfl rfl (Nat.le_of_ble_eq_true rfl) ⟨Nat.le_of_ble_eq_true rfl, Nat.le_of_ble_eq_true rfl⟩ ⟨Nat.le_refl _, Nat.le_refl _⟩ d_Mo_rent_25 (fun y25 => ?_)
        refine aw_if_eq (tgt := 49) d_Mo_rent_28 rfl (fun q28 => ?_) (fun q28 => ?_)
        · refine aw_ldcw (v := (-1000000000 : Int32)) d_Mo_rent_49 kc_Mo_345 ?_
          exact aw_iret rfl rfl ⟨Nat.le_refl _, Nat.le_refl _⟩ d_Mo_rent_52
        · refine aw_iload_n d_Mo_rent_31 3 rfl ?_
          refine aw_iload d_Mo_rent_32 4 rfl ?_
          refine aw_icmp_gt (tgt := 49) d_Mo_rent_34 rfl (fun q34 => ?_) (fun q34 => ?_)
          · refine aw_ldcw (v := (-1000000000 : Int32)) d_Mo_rent_49 kc_Mo_345 ?_
            exact aw_iret rfl rfl ⟨Nat.le_refl _, Nat.le_refl _⟩ d_Mo_rent_52
          · refine aw_aload_n d_Mo_rent_37 0 rfl ?_
            refine aw_iload_n d_Mo_rent_38 1 rfl ?_
            refine aw_iload_n d_Mo_rent_39 2 rfl ?_
            refine aw_iload_n d_Mo_rent_40 3 rfl ?_
            refine aw_iload d_Mo_rent_41 4 rfl ?_
            refine aw_V_m (As := [.int a1, .int a2, .int a3, .int a4]) (m_Mo_rentBy) cv_Mo_365 kd_151 rfl rfl rfl (Nat.le_of_ble_eq_true rfl) ⟨Nat.le_of_ble_eq_true rfl, Nat.le_of_ble_eq_true rfl⟩ ⟨Nat.le_refl _, Nat.le_refl _⟩ d_Mo_rent_43 (fun y43 => ?_)
            refine aw_bI (fun v43 => ?_)
            refine aw_bD (fun δ_43 => ?_)
            refine aw_goto (tgt := 52) d_Mo_rent_46 rfl ?_
            exact aw_iret rfl rfl ⟨Nat.le_refl _, Nat.le_refl _⟩ d_Mo_rent_52
def lp_Mo_cheapest_38 (kx38_87 : Int32 → Int32 → Int32 → Dm → Option (Int32 × Dm)) (a1 : Int32) (a2 : Int32) (a3 : Int32) : Nat → Int32 → Int32 → Int32 → Dm → Option (Int32 × Dm)
  | 0, _, _, _, _ => none
  | f + 1, v4_38, v5_38, v6_38, δ38 => (if (gI δ38 151 3) ≤ v6_38 then (kx38_87 v4_38 v5_38 v6_38 δ38) else ((f_Mo_rentBy v6_38 a1 a2 a3 δ38).bind (fun y53 => bnd y53.1 (fun v53 => bnd y53.2 (fun δ_53 => (if v4_38 < 0 then (lp_Mo_cheapest_38 kx38_87 a1 a2 a3 f v6_38 v53 (v6_38 + (1 : Int32)) δ_53) else (if v53 < v5_38 then (lp_Mo_cheapest_38 kx38_87 a1 a2 a3 f v6_38 v53 (v6_38 + (1 : Int32)) δ_53) else (lp_Mo_cheapest_38 kx38_87 a1 a2 a3 f v4_38 v5_38 (v6_38 + (1 : Int32)) δ_53))))))))
set_option maxHeartbeats 4000000 in
set_option maxRecDepth 100000 in
theorem tl_Mo_cheapest_38 {n : Nat} (kx38_87 : Int32 → Int32 → Int32 → Dm → Option (Int32 × Dm)) (a1 : Int32) (a2 : Int32) (a3 : Int32) (hkx38_87 : ∀ v4_38k v5_38k v6_38k δ38k, AWo k_Mo_cheapest 6 0 0 87 [(0, .ref 151), (1, .int a1), (2, .int a2), (3, .int a3), (4, .int v4_38k), (5, .int v5_38k), (6, .int v6_38k)] [] δ38k RT n 0 0 (Km RT n) (kx38_87 v4_38k v5_38k v6_38k δ38k)) : ∀ (f : Nat) (v4_38 : Int32) (v5_38 : Int32) (v6_38 : Int32) (δ38 : Dm), AWo k_Mo_cheapest 6 0 0 38 [(0, .ref 151), (1, .int a1), (2, .int a2), (3, .int a3), (4, .int v4_38), (5, .int v5_38), (6, .int v6_38)] [] δ38 RT n 0 0 (Km RT n) (lp_Mo_cheapest_38 kx38_87 a1 a2 a3 f v4_38 v5_38 v6_38 δ38) := by
  intro f
  induction f with
  | zero => intro _ _ _ _; exact aw_none
  | succ f ih =>
    intro v4_38 v5_38 v6_38 δ38
    rw [lp_Mo_cheapest_38]
    refine aw_iload d_Mo_cheapest_38 6 rfl ?_
    refine aw_aload_n d_Mo_cheapest_40 0 rfl ?_
    refine aw_getI fl_Mo_236 kd_151 d_Mo_cheapest_41 ?_
    refine aw_icmp_ge (tgt := 87) d_Mo_cheapest_44 rfl (fun q44 => ?_) (fun q44 => ?_)
    · refine aw_sub (lo' := [(0, .ref 151), (1, .int a1), (2, .int a2), (3, .int a3), (4, .int v4_38), (5, .int v5_38), (6, .int v6_38)]) [0, 1, 2, 3, 4, 5, 6] rfl ?_
      exact hkx38_87 _ _ _ _
    · refine aw_aload_n d_Mo_cheapest_47 0 rfl ?_
      refine aw_iload d_Mo_cheapest_48 6 rfl ?_
      refine aw_iload_n d_Mo_cheapest_50 1 rfl ?_
      refine aw_iload_n d_Mo_cheapest_51 2 rfl ?_
      refine aw_iload_n d_Mo_cheapest_52 3 rfl ?_
      refine aw_V_m (As := [.int v6_38, .int a1, .int a2, .int a3]) (m_Mo_rentBy) cv_Mo_365 kd_151 rfl rfl rfl (Nat.le_of_ble_eq_true rfl) ⟨Nat.le_of_ble_eq_true rfl, Nat.le_of_ble_eq_true rfl⟩ ⟨Nat.le_refl _, Nat.le_refl _⟩ d_Mo_cheapest_53 (fun y53 => ?_)
      refine aw_bI (fun v53 => ?_)
      refine aw_bD (fun δ_53 => ?_)
      refine aw_istore (lo' := [(7, .int v53), (0, .ref 151), (1, .int a1), (2, .int a2), (3, .int a3), (4, .int v4_38), (5, .int v5_38), (6, .int v6_38)]) d_Mo_cheapest_56 (by decide) rfl ?_
      refine aw_iload d_Mo_cheapest_58 5 rfl ?_
      refine aw_if_lt (tgt := 73) d_Mo_cheapest_60 rfl (fun q60 => ?_) (fun q60 => ?_)
      · refine aw_iload d_Mo_cheapest_73 7 rfl ?_
        refine aw_istore (lo' := [(4, .int v6_38), (7, .int v53), (0, .ref 151), (1, .int a1), (2, .int a2), (3, .int a3), (5, .int v5_38), (6, .int v6_38)]) d_Mo_cheapest_75 (by decide) rfl ?_
        refine aw_iload d_Mo_cheapest_77 1 rfl ?_
        refine aw_istore (lo' := [(5, .int v53), (4, .int v6_38), (7, .int v53), (0, .ref 151), (1, .int a1), (2, .int a2), (3, .int a3), (6, .int v6_38)]) d_Mo_cheapest_79 (by decide) rfl ?_
        refine aw_iinc (v := (v6_38 + (1 : Int32))) (lo' := [(6, .int (v6_38 + (1 : Int32))), (5, .int v53), (4, .int v6_38), (7, .int v53), (0, .ref 151), (1, .int a1), (2, .int a2), (3, .int a3)]) d_Mo_cheapest_81 7 rfl (by rw [show Int32.ofInt (1) = (1 : Int32) from by decide]) (by decide) rfl ?_
        refine aw_goto (tgt := 38) d_Mo_cheapest_84 rfl ?_
        refine aw_sub (lo' := [(0, .ref 151), (1, .int a1), (2, .int a2), (3, .int a3), (4, .int v6_38), (5, .int v53), (6, .int (v6_38 + (1 : Int32)))]) [4, 5, 6, 7, 2, 1, 0] rfl ?_
        exact ih _ _ _ _
      · refine aw_iload d_Mo_cheapest_63 0 rfl ?_
        refine aw_iload d_Mo_cheapest_65 6 rfl ?_
        refine aw_icmp_lt (tgt := 73) d_Mo_cheapest_67 rfl (fun q67 => ?_) (fun q67 => ?_)
        · refine aw_iload d_Mo_cheapest_73 7 rfl ?_
          refine aw_istore (lo' := [(4, .int v6_38), (7, .int v53), (0, .ref 151), (1, .int a1), (2, .int a2), (3, .int a3), (5, .int v5_38), (6, .int v6_38)]) d_Mo_cheapest_75 (by decide) rfl ?_
          refine aw_iload d_Mo_cheapest_77 1 rfl ?_
          refine aw_istore (lo' := [(5, .int v53), (4, .int v6_38), (7, .int v53), (0, .ref 151), (1, .int a1), (2, .int a2), (3, .int a3), (6, .int v6_38)]) d_Mo_cheapest_79 (by decide) rfl ?_
          refine aw_iinc (v := (v6_38 + (1 : Int32))) (lo' := [(6, .int (v6_38 + (1 : Int32))), (5, .int v53), (4, .int v6_38), (7, .int v53), (0, .ref 151), (1, .int a1), (2, .int a2), (3, .int a3)]) d_Mo_cheapest_81 7 rfl (by rw [show Int32.ofInt (1) = (1 : Int32) from by decide]) (by decide) rfl ?_
          refine aw_goto (tgt := 38) d_Mo_cheapest_84 rfl ?_
          refine aw_sub (lo' := [(0, .ref 151), (1, .int a1), (2, .int a2), (3, .int a3), (4, .int v6_38), (5, .int v53), (6, .int (v6_38 + (1 : Int32)))]) [4, 5, 6, 7, 2, 1, 0] rfl ?_
          exact ih _ _ _ _
        · refine aw_goto (tgt := 81) d_Mo_cheapest_70 rfl ?_
          refine aw_iinc (v := (v6_38 + (1 : Int32))) (lo' := [(6, .int (v6_38 + (1 : Int32))), (7, .int v53), (0, .ref 151), (1, .int a1), (2, .int a2), (3, .int a3), (4, .int v4_38), (5, .int v5_38)]) d_Mo_cheapest_81 7 rfl (by rw [show Int32.ofInt (1) = (1 : Int32) from by decide]) (by decide) rfl ?_
          refine aw_goto (tgt := 38) d_Mo_cheapest_84 rfl ?_
          refine aw_sub (lo' := [(0, .ref 151), (1, .int a1), (2, .int a2), (3, .int a3), (4, .int v4_38), (5, .int v5_38), (6, .int (v6_38 + (1 : Int32)))]) [2, 3, 4, 5, 6, 7, 0] rfl ?_
          exact ih _ _ _ _
def f_Mo_cheapest (a1 : Int32) (a2 : Int32) (a3 : Int32) (δ : Dm) : Option (Int32 × Dm) := ((f_Mo_isBooth a1 δ).bind (fun y2 => (if y2 = 0 then (some ((-1 : Int32), δ)) else ((f_Mo_isDay a2 δ).bind (fun y9 => (if y9 = 0 then (some ((-1 : Int32), δ)) else ((f_Mo_isDay a3 δ).bind (fun y16 => (if y16 = 0 then (some ((-1 : Int32), δ)) else (if a2 ≤ a3 then (lp_Mo_cheapest_38 (fun v4_38x v5_38x v6_38x δ38x => (some (v4_38x, δ38x))) a1 a2 a3 FU (-1 : Int32) (0 : Int32) (0 : Int32) δ) else (some ((-1 : Int32), δ))))))))))))
set_option maxHeartbeats 4000000 in
set_option maxRecDepth 100000 in
theorem m_Mo_cheapest {a1 : Int32} {a2 : Int32} {a3 : Int32} {δ : Dm} {n : Nat} : ∀ x, f_Mo_cheapest a1 a2 a3 δ = some x → AMet k_Mo_cheapest 6 0 0 [.ref 151, .int a1, .int a2, .int a3] δ RT n (Km RT n x) := by
  refine aw_start (lo := [(0, .ref 151), (1, .int a1), (2, .int a2), (3, .int a3)]) mok_Mo_cheapest rfl (Nat.le_of_ble_eq_true rfl) ?_
  unfold f_Mo_cheapest
  refine aw_aload_n d_Mo_cheapest_0 0 rfl ?_
  refine aw_iload_n d_Mo_cheapest_1 1 rfl ?_
  refine aw_V_p (As := [.int a1]) (m_Mo_isBooth) cv_Mo_278 kd_151 rfl rfl rfl (Nat.le_of_ble_eq_true rfl) ⟨Nat.le_of_ble_eq_true rfl, Nat.le_of_ble_eq_true rfl⟩ ⟨Nat.le_refl _, Nat.le_refl _⟩ d_Mo_cheapest_2 (fun y2 => ?_)
  refine aw_if_eq (tgt := 27) d_Mo_cheapest_5 rfl (fun q5 => ?_) (fun q5 => ?_)
  · refine aw_iconst d_Mo_cheapest_27 ki_m1 ?_
    exact aw_iret rfl rfl ⟨Nat.le_refl _, Nat.le_refl _⟩ d_Mo_cheapest_28
  · refine aw_iload_n d_Mo_cheapest_8 2 rfl ?_
    refine aw_S_p (As := [.int a2]) (m_Mo_isDay) cs_Mo_74 rfl rfl (Nat.le_of_ble_eq_true rfl) ⟨Nat.le_of_ble_eq_true rfl, Nat.le_of_ble_eq_true rfl⟩ ⟨Nat.le_refl _, Nat.le_refl _⟩ d_Mo_cheapest_9 (fun y9 => ?_)
    refine aw_if_eq (tgt := 27) d_Mo_cheapest_12 rfl (fun q12 => ?_) (fun q12 => ?_)
    · refine aw_iconst d_Mo_cheapest_27 ki_m1 ?_
      exact aw_iret rfl rfl ⟨Nat.le_refl _, Nat.le_refl _⟩ d_Mo_cheapest_28
    · refine aw_iload_n d_Mo_cheapest_15 3 rfl ?_
      refine aw_S_p (As := [.int a3]) (m_Mo_isDay) cs_Mo_74 rfl rfl (Nat.le_of_ble_eq_true rfl) ⟨Nat.le_of_ble_eq_true rfl, Nat.le_of_ble_eq_true rfl⟩ ⟨Nat.le_refl _, Nat.le_refl _⟩ d_Mo_cheapest_16 (fun y16 => ?_)
      refine aw_if_eq (tgt := 27) d_Mo_cheapest_19 rfl (fun q19 => ?_) (fun q19 => ?_)
      · refine aw_iconst d_Mo_cheapest_27 ki_m1 ?_
        exact aw_iret rfl rfl ⟨Nat.le_refl _, Nat.le_refl _⟩ d_Mo_cheapest_28
      · refine aw_iload_n d_Mo_cheapest_22 3 rfl ?_
        refine aw_iload_n d_Mo_cheapest_23 2 rfl ?_
        refine aw_icmp_ge (tgt := 29) d_Mo_cheapest_24 rfl (fun q24 => ?_) (fun q24 => ?_)
        · refine aw_iconst d_Mo_cheapest_29 ki_m1 ?_
          refine aw_istore (lo' := [(4, .int (-1 : Int32)), (0, .ref 151), (1, .int a1), (2, .int a2), (3, .int a3)]) d_Mo_cheapest_30 (by decide) rfl ?_
          refine aw_iconst d_Mo_cheapest_32 ki_0 ?_
          refine aw_istore (lo' := [(5, .int (0 : Int32)), (4, .int (-1 : Int32)), (0, .ref 151), (1, .int a1), (2, .int a2), (3, .int a3)]) d_Mo_cheapest_33 (by decide) rfl ?_
          refine aw_iconst d_Mo_cheapest_35 ki_0 ?_
          refine aw_istore (lo' := [(6, .int (0 : Int32)), (5, .int (0 : Int32)), (4, .int (-1 : Int32)), (0, .ref 151), (1, .int a1), (2, .int a2), (3, .int a3)]) d_Mo_cheapest_36 (by decide) rfl ?_
          refine aw_sub (lo' := [(0, .ref 151), (1, .int a1), (2, .int a2), (3, .int a3), (4, .int (-1 : Int32)), (5, .int (0 : Int32)), (6, .int (0 : Int32))]) [3, 4, 5, 6, 2, 1, 0] rfl ?_
          refine tl_Mo_cheapest_38 _ _ _ _ (fun v4_38x v5_38x v6_38x δ38x => ?_) FU _ _ _ _
          · refine aw_iload d_Mo_cheapest_87 4 rfl ?_
            exact aw_iret rfl rfl ⟨Nat.le_refl _, Nat.le_refl _⟩ d_Mo_cheapest_89
        · refine aw_iconst d_Mo_cheapest_27 ki_m1 ?_
          exact aw_iret rfl rfl ⟨Nat.le_refl _, Nat.le_refl _⟩ d_Mo_cheapest_28
def f_Mo_mile (a1 : Int32) (a2 : Int32) (δ : Dm) : Option Int32 := (if inb (((422 : Int32) + ((12 : Int32) * a1)) + a2) 8918 then (some (gI δ 152 (ix (((422 : Int32) + ((12 : Int32) * a1)) + a2)))) else none)
set_option maxHeartbeats 4000000 in
set_option maxRecDepth 100000 in
theorem m_Mo_mile {a1 : Int32} {a2 : Int32} {δ : Dm} {n : Nat} : ∀ x, f_Mo_mile a1 a2 δ = some x → AMet k_Mo_mile 1 0 0 [.ref 151, .int a1, .int a2] δ RT n (Kp δ RT n x) := by
  refine aw_start (lo := [(0, .ref 151), (1, .int a1), (2, .int a2)]) mok_Mo_mile rfl (Nat.le_of_ble_eq_true rfl) ?_
  unfold f_Mo_mile
  refine aw_aload_n d_Mo_mile_0 0 rfl ?_
  refine aw_getR (t := 152) fl_Mo_7 kd_151 rt_151_0 d_Mo_mile_1 ?_
  refine aw_sipush d_Mo_mile_4 ks_422 ?_
  refine aw_bipush d_Mo_mile_7 kb_12 ?_
  refine aw_iload_n d_Mo_mile_9 1 rfl ?_
  refine aw_imul d_Mo_mile_10 ?_
  refine aw_iadd d_Mo_mile_11 ?_
  refine aw_iload_n d_Mo_mile_12 2 rfl ?_
  refine aw_iadd d_Mo_mile_13 ?_
  refine aw_iald kd_152 d_Mo_mile_14 ?_
  exact aw_iret rfl rfl ⟨Nat.le_refl _, Nat.le_refl _⟩ d_Mo_mile_15
def f_Mo_mileOf (a1 : Int32) (a2 : Int32) (δ : Dm) : Option Int32 := ((f_Mo_cell a1 (0 : Int32) δ).bind (fun y4 => ((f_Mo_cell a2 (0 : Int32) δ).bind (fun y10 => ((f_Mo_mile y4 y10 δ).bind (fun y13 => (some y13)))))))
set_option maxHeartbeats 4000000 in
set_option maxRecDepth 100000 in
theorem m_Mo_mileOf {a1 : Int32} {a2 : Int32} {δ : Dm} {n : Nat} : ∀ x, f_Mo_mileOf a1 a2 δ = some x → AMet k_Mo_mileOf 2 0 0 [.ref 151, .int a1, .int a2] δ RT n (Kp δ RT n x) := by
  refine aw_start (lo := [(0, .ref 151), (1, .int a1), (2, .int a2)]) mok_Mo_mileOf rfl (Nat.le_of_ble_eq_true rfl) ?_
  unfold f_Mo_mileOf
  refine aw_aload_n d_Mo_mileOf_0 0 rfl ?_
  refine aw_aload_n d_Mo_mileOf_1 0 rfl ?_
  refine aw_iload_n d_Mo_mileOf_2 1 rfl ?_
  refine aw_iconst d_Mo_mileOf_3 ki_0 ?_
  refine aw_V_p (As := [.int a1, .int (0 : Int32)]) (m_Mo_cell) cv_Mo_265 kd_151 rfl rfl rfl (Nat.le_of_ble_eq_true rfl) ⟨Nat.le_of_ble_eq_true rfl, Nat.le_of_ble_eq_true rfl⟩ ⟨Nat.le_refl _, Nat.le_refl _⟩ d_Mo_mileOf_4 (fun y4 => ?_)
  refine aw_aload_n d_Mo_mileOf_7 0 rfl ?_
  refine aw_iload_n d_Mo_mileOf_8 2 rfl ?_
  refine aw_iconst d_Mo_mileOf_9 ki_0 ?_
  refine aw_V_p (As := [.int a2, .int (0 : Int32)]) (m_Mo_cell) cv_Mo_265 kd_151 rfl rfl rfl (Nat.le_of_ble_eq_true rfl) ⟨Nat.le_of_ble_eq_true rfl, Nat.le_of_ble_eq_true rfl⟩ ⟨Nat.le_refl _, Nat.le_refl _⟩ d_Mo_mileOf_10 (fun y10 => ?_)
  refine aw_V_p (As := [.int y4, .int y10]) (m_Mo_mile) cv_Mo_368 kd_151 rfl rfl rfl (Nat.le_of_ble_eq_true rfl) ⟨Nat.le_of_ble_eq_true rfl, Nat.le_of_ble_eq_true rfl⟩ ⟨Nat.le_refl _, Nat.le_refl _⟩ d_Mo_mileOf_13 (fun y13 => ?_)
  exact aw_iret rfl rfl ⟨Nat.le_refl _, Nat.le_refl _⟩ d_Mo_mileOf_16
def jp_Mo_walks_114 (kr50 : Int32 → Int32 → Option Dm) (kx50_129 : Int32 → Int32 → Option Dm) (a1 : Int32) (v2_2 : Int32) (v3_16 : Int32) (v4_50 : Int32) (v5_50 : Int32) (v100 : Int32) (δ16 : Dm) : Option Dm := (kr50 v100 (v5_50 + (1 : Int32)))
set_option maxHeartbeats 4000000 in
set_option maxRecDepth 100000 in
theorem tj_Mo_walks_114 {n : Nat} (kr50 : Int32 → Int32 → Option Dm) (kx50_129 : Int32 → Int32 → Option Dm) (a1 : Int32) (v2_2 : Int32) (v3_16 : Int32) (v4_50 : Int32) (v5_50 : Int32) (v100 : Int32) (δ16 : Dm) (hkr50 : ∀ v4_50k v5_50k, AWo k_Mo_walks 3 0 0 50 [(0, .ref 151), (1, .int a1), (2, .int v2_2), (3, .int v3_16), (4, .int v4_50k), (5, .int v5_50k)] [] δ16 RT n 0 0 (Kv RT n) (kr50 v4_50k v5_50k)) (hkx50_129 : ∀ v4_50k v5_50k, AWo k_Mo_walks 3 0 0 129 [(0, .ref 151), (1, .int a1), (2, .int v2_2), (3, .int v3_16), (4, .int v4_50k), (5, .int v5_50k)] [] δ16 RT n 0 0 (Kv RT n) (kx50_129 v4_50k v5_50k)) : AWo k_Mo_walks 3 0 0 114 [(0, .ref 151), (1, .int a1), (2, .int v2_2), (3, .int v3_16), (4, .int v4_50), (5, .int v5_50), (6, .int v100)] [] δ16 RT n 0 0 (Kv RT n) (jp_Mo_walks_114 kr50 kx50_129 a1 v2_2 v3_16 v4_50 v5_50 v100 δ16) := by
  unfold jp_Mo_walks_114
  refine aw_iload d_Mo_walks_114 6 rfl ?_
  refine aw_goto (tgt := 121) d_Mo_walks_116 rfl ?_
  refine aw_istore (lo' := [(4, .int v100), (0, .ref 151), (1, .int a1), (2, .int v2_2), (3, .int v3_16), (5, .int v5_50), (6, .int v100)]) d_Mo_walks_121 (by decide) rfl ?_
  refine aw_iinc (v := (v5_50 + (1 : Int32))) (lo' := [(5, .int (v5_50 + (1 : Int32))), (4, .int v100), (0, .ref 151), (1, .int a1), (2, .int v2_2), (3, .int v3_16), (6, .int v100)]) d_Mo_walks_123 5 rfl (by rw [show Int32.ofInt (1) = (1 : Int32) from by decide]) (by decide) rfl ?_
  refine aw_goto (tgt := 50) d_Mo_walks_126 rfl ?_
  refine aw_sub (lo' := [(0, .ref 151), (1, .int a1), (2, .int v2_2), (3, .int v3_16), (4, .int v100), (5, .int (v5_50 + (1 : Int32)))]) [2, 3, 4, 5, 1, 0] rfl ?_
  exact hkr50 _ _
def lp_Mo_walks_50 (kx50_129 : Int32 → Int32 → Option Dm) (a1 : Int32) (v2_2 : Int32) (v3_16 : Int32) (δ16 : Dm) : Nat → Int32 → Int32 → Option Dm
  | 0, _, _ => none
  | f + 1, v4_50, v5_50 => (if inb (2 : Int32) 8918 then (if (gI δ16 152 (ix (2 : Int32))) ≤ v5_50 then (kx50_129 v4_50 v5_50) else (if ((v2_2 >>> (v5_50 &&& 31)) &&& (1 : Int32)) = 0 then (lp_Mo_walks_50 kx50_129 a1 v2_2 v3_16 δ16 f v4_50 (v5_50 + (1 : Int32))) else ((f_Mo_mileOf v3_16 v5_50 δ16).bind (fun y77 => (if inb (((8 : Int32) * (v2_2 &&& (((1 : Int32) <<< (v5_50 &&& 31)) ^^^ (-1 : Int32)))) + v5_50) 2048 then (bnd (y77 + (gI δ16 164 (ix (((8 : Int32) * (v2_2 &&& (((1 : Int32) <<< (v5_50 &&& 31)) ^^^ (-1 : Int32)))) + v5_50)))) (fun v100 => (if v4_50 < 0 then (jp_Mo_walks_114 (lp_Mo_walks_50 kx50_129 a1 v2_2 v3_16 δ16 f) kx50_129 a1 v2_2 v3_16 v4_50 v5_50 v100 δ16) else (if v4_50 ≤ v100 then (lp_Mo_walks_50 kx50_129 a1 v2_2 v3_16 δ16 f v4_50 (v5_50 + (1 : Int32))) else (jp_Mo_walks_114 (lp_Mo_walks_50 kx50_129 a1 v2_2 v3_16 δ16 f) kx50_129 a1 v2_2 v3_16 v4_50 v5_50 v100 δ16))))) else none))))) else none)
set_option maxHeartbeats 4000000 in
set_option maxRecDepth 100000 in
theorem tl_Mo_walks_50 {n : Nat} (kx50_129 : Int32 → Int32 → Option Dm) (a1 : Int32) (v2_2 : Int32) (v3_16 : Int32) (δ16 : Dm) (hkx50_129 : ∀ v4_50k v5_50k, AWo k_Mo_walks 3 0 0 129 [(0, .ref 151), (1, .int a1), (2, .int v2_2), (3, .int v3_16), (4, .int v4_50k), (5, .int v5_50k)] [] δ16 RT n 0 0 (Kv RT n) (kx50_129 v4_50k v5_50k)) : ∀ (f : Nat) (v4_50 : Int32) (v5_50 : Int32), AWo k_Mo_walks 3 0 0 50 [(0, .ref 151), (1, .int a1), (2, .int v2_2), (3, .int v3_16), (4, .int v4_50), (5, .int v5_50)] [] δ16 RT n 0 0 (Kv RT n) (lp_Mo_walks_50 kx50_129 a1 v2_2 v3_16 δ16 f v4_50 v5_50) := by
  intro f
  induction f with
  | zero => intro _ _; exact aw_none
  | succ f ih =>
    intro v4_50 v5_50
    rw [lp_Mo_walks_50]
    refine aw_iload d_Mo_walks_50 5 rfl ?_
    refine aw_aload_n d_Mo_walks_52 0 rfl ?_
    refine aw_getR (t := 152) fl_Mo_7 kd_151 rt_151_0 d_Mo_walks_53 ?_
    refine aw_iconst d_Mo_walks_56 ki_2 ?_
    refine aw_iald kd_152 d_Mo_walks_57 ?_
    refine aw_icmp_ge (tgt := 129) d_Mo_walks_58 rfl (fun q58 => ?_) (fun q58 => ?_)
    · refine aw_sub (lo' := [(0, .ref 151), (1, .int a1), (2, .int v2_2), (3, .int v3_16), (4, .int v4_50), (5, .int v5_50)]) [0, 1, 2, 3, 4, 5] rfl ?_
      exact hkx50_129 _ _
    · refine aw_iload_n d_Mo_walks_61 2 rfl ?_
      refine aw_iload d_Mo_walks_62 5 rfl ?_
      refine aw_ishr d_Mo_walks_64 ?_
      refine aw_iconst d_Mo_walks_65 ki_1 ?_
      refine aw_iand d_Mo_walks_66 ?_
      refine aw_if_ne (tgt := 73) d_Mo_walks_67 rfl (fun q67 => ?_) (fun q67 => ?_)
      · refine aw_goto (tgt := 123) d_Mo_walks_70 rfl ?_
        refine aw_iinc (v := (v5_50 + (1 : Int32))) (lo' := [(5, .int (v5_50 + (1 : Int32))), (0, .ref 151), (1, .int a1), (2, .int v2_2), (3, .int v3_16), (4, .int v4_50)]) d_Mo_walks_123 5 rfl (by rw [show Int32.ofInt (1) = (1 : Int32) from by decide]) (by decide) rfl ?_
        refine aw_goto (tgt := 50) d_Mo_walks_126 rfl ?_
        refine aw_sub (lo' := [(0, .ref 151), (1, .int a1), (2, .int v2_2), (3, .int v3_16), (4, .int v4_50), (5, .int (v5_50 + (1 : Int32)))]) [1, 2, 3, 4, 5, 0] rfl ?_
        exact ih _ _
      · refine aw_aload_n d_Mo_walks_73 0 rfl ?_
        refine aw_iload_n d_Mo_walks_74 3 rfl ?_
        refine aw_iload d_Mo_walks_75 5 rfl ?_
        refine aw_V_p (As := [.int v3_16, .int v5_50]) (m_Mo_mileOf) cv_Mo_371 kd_151 rfl rfl rfl (Nat.le_of_ble_eq_true rfl) ⟨Nat.le_of_ble_eq_true rfl, Nat.le_of_ble_eq_true rfl⟩ ⟨Nat.le_refl _, Nat.le_refl _⟩ d_Mo_walks_77 (fun y77 => ?_)
        refine aw_aload_n d_Mo_walks_80 0 rfl ?_
        refine aw_getR (t := 164) fl_Mo_48 kd_151 rt_151_23 d_Mo_walks_81 ?_
        refine aw_bipush d_Mo_walks_84 kb_8 ?_
        refine aw_iload_n d_Mo_walks_86 2 rfl ?_
        refine aw_iconst d_Mo_walks_87 ki_1 ?_
        refine aw_iload d_Mo_walks_88 5 rfl ?_
        refine aw_ishl d_Mo_walks_90 ?_
        refine aw_iconst d_Mo_walks_91 ki_m1 ?_
        refine aw_ixor d_Mo_walks_92 ?_
        refine aw_iand d_Mo_walks_93 ?_
        refine aw_imul d_Mo_walks_94 ?_
        refine aw_iload d_Mo_walks_95 5 rfl ?_
        refine aw_iadd d_Mo_walks_97 ?_
        refine aw_iald kd_164 d_Mo_walks_98 ?_
        refine aw_iadd d_Mo_walks_99 ?_
        refine aw_bI (fun v100 => ?_)
        refine aw_istore (lo' := [(6, .int v100), (0, .ref 151), (1, .int a1), (2, .int v2_2), (3, .int v3_16), (4, .int v4_50), (5, .int v5_50)]) d_Mo_walks_100 (by decide) rfl ?_
        refine aw_iload d_Mo_walks_102 5 rfl ?_
        refine aw_if_lt (tgt := 114) d_Mo_walks_104 rfl (fun q104 => ?_) (fun q104 => ?_)
        · refine aw_sub (lo' := [(0, .ref 151), (1, .int a1), (2, .int v2_2), (3, .int v3_16), (4, .int v4_50), (5, .int v5_50), (6, .int v100)]) [1, 2, 3, 4, 5, 6, 0] rfl ?_
          exact tj_Mo_walks_114 _ _ _ _ _ _ _ _ _ ih hkx50_129
        · refine aw_iload d_Mo_walks_107 0 rfl ?_
          refine aw_iload d_Mo_walks_109 5 rfl ?_
          refine aw_icmp_ge (tgt := 119) d_Mo_walks_111 rfl (fun q111 => ?_) (fun q111 => ?_)
          · refine aw_iload d_Mo_walks_119 5 rfl ?_
            refine aw_istore (lo' := [(4, .int v4_50), (6, .int v100), (0, .ref 151), (1, .int a1), (2, .int v2_2), (3, .int v3_16), (5, .int v5_50)]) d_Mo_walks_121 (by decide) rfl ?_
            refine aw_iinc (v := (v5_50 + (1 : Int32))) (lo' := [(5, .int (v5_50 + (1 : Int32))), (4, .int v4_50), (6, .int v100), (0, .ref 151), (1, .int a1), (2, .int v2_2), (3, .int v3_16)]) d_Mo_walks_123 6 rfl (by rw [show Int32.ofInt (1) = (1 : Int32) from by decide]) (by decide) rfl ?_
            refine aw_goto (tgt := 50) d_Mo_walks_126 rfl ?_
            refine aw_sub (lo' := [(0, .ref 151), (1, .int a1), (2, .int v2_2), (3, .int v3_16), (4, .int v4_50), (5, .int (v5_50 + (1 : Int32)))]) [3, 4, 5, 6, 1, 0] rfl ?_
            exact ih _ _
          · refine aw_sub (lo' := [(0, .ref 151), (1, .int a1), (2, .int v2_2), (3, .int v3_16), (4, .int v4_50), (5, .int v5_50), (6, .int v100)]) [1, 2, 3, 4, 5, 6, 0] rfl ?_
            exact tj_Mo_walks_114 _ _ _ _ _ _ _ _ _ ih hkx50_129
def jp_Mo_walks_45 (kr16 : Int32 → Dm → Option Dm) (kx16_148 : Int32 → Dm → Option Dm) (a1 : Int32) (v2_2 : Int32) (v3_16 : Int32) (δ16 : Dm) (s0_45 : Int32) : Option Dm := (lp_Mo_walks_50 (fun v4_50x v5_50x => (if inb (((8 : Int32) * v2_2) + v3_16) 2048 then bnd (sI δ16 164 (ix (((8 : Int32) * v2_2) + v3_16)) v4_50x) (fun δ_141 => (kr16 (v3_16 + (1 : Int32)) δ_141)) else none)) a1 v2_2 v3_16 δ16 FU s0_45 (0 : Int32))
set_option maxHeartbeats 4000000 in
set_option maxRecDepth 100000 in
theorem tj_Mo_walks_45 {n : Nat} (kr16 : Int32 → Dm → Option Dm) (kx16_148 : Int32 → Dm → Option Dm) (a1 : Int32) (v2_2 : Int32) (v3_16 : Int32) (δ16 : Dm) (s0_45 : Int32) (hkr16 : ∀ v3_16k δ16k, AWo k_Mo_walks 3 0 0 16 [(0, .ref 151), (1, .int a1), (2, .int v2_2), (3, .int v3_16k)] [] δ16k RT n 0 0 (Kv RT n) (kr16 v3_16k δ16k)) (hkx16_148 : ∀ v3_16k δ16k, AWo k_Mo_walks 3 0 0 148 [(0, .ref 151), (1, .int a1), (2, .int v2_2), (3, .int v3_16k)] [] δ16k RT n 0 0 (Kv RT n) (kx16_148 v3_16k δ16k)) : AWo k_Mo_walks 3 0 0 45 [(0, .ref 151), (1, .int a1), (2, .int v2_2), (3, .int v3_16)] [.int s0_45] δ16 RT n 0 0 (Kv RT n) (jp_Mo_walks_45 kr16 kx16_148 a1 v2_2 v3_16 δ16 s0_45) := by
  unfold jp_Mo_walks_45
  refine aw_istore (lo' := [(4, .int s0_45), (0, .ref 151), (1, .int a1), (2, .int v2_2), (3, .int v3_16)]) d_Mo_walks_45 (by decide) rfl ?_
  refine aw_iconst d_Mo_walks_47 ki_0 ?_
  refine aw_istore (lo' := [(5, .int (0 : Int32)), (4, .int s0_45), (0, .ref 151), (1, .int a1), (2, .int v2_2), (3, .int v3_16)]) d_Mo_walks_48 (by decide) rfl ?_
  refine aw_sub (lo' := [(0, .ref 151), (1, .int a1), (2, .int v2_2), (3, .int v3_16), (4, .int s0_45), (5, .int (0 : Int32))]) [2, 3, 4, 5, 1, 0] rfl ?_
  refine tl_Mo_walks_50 _ _ _ _ _ (fun v4_50x v5_50x => ?_) FU _ _
  · refine aw_aload_n d_Mo_walks_129 0 rfl ?_
    refine aw_getR (t := 164) fl_Mo_48 kd_151 rt_151_23 d_Mo_walks_130 ?_
    refine aw_bipush d_Mo_walks_133 kb_8 ?_
    refine aw_iload_n d_Mo_walks_135 2 rfl ?_
    refine aw_imul d_Mo_walks_136 ?_
    refine aw_iload_n d_Mo_walks_137 3 rfl ?_
    refine aw_iadd d_Mo_walks_138 ?_
    refine aw_iload d_Mo_walks_139 4 rfl ?_
    refine aw_iast kd_164 d_Mo_walks_141 ?_
    refine aw_bD (fun δ_141 => ?_)
    refine aw_iinc (v := (v3_16 + (1 : Int32))) (lo' := [(3, .int (v3_16 + (1 : Int32))), (0, .ref 151), (1, .int a1), (2, .int v2_2), (4, .int v4_50x), (5, .int v5_50x)]) d_Mo_walks_142 3 rfl (by rw [show Int32.ofInt (1) = (1 : Int32) from by decide]) (by decide) rfl ?_
    refine aw_goto (tgt := 16) d_Mo_walks_145 rfl ?_
    refine aw_sub (lo' := [(0, .ref 151), (1, .int a1), (2, .int v2_2), (3, .int (v3_16 + (1 : Int32)))]) [1, 2, 3, 0] rfl ?_
    exact hkr16 _ _
def lp_Mo_walks_16 (kx16_148 : Int32 → Dm → Option Dm) (a1 : Int32) (v2_2 : Int32) : Nat → Int32 → Dm → Option Dm
  | 0, _, _ => none
  | f + 1, v3_16, δ16 => (if inb (2 : Int32) 8918 then (if (gI δ16 152 (ix (2 : Int32))) ≤ v3_16 then (kx16_148 v3_16 δ16) else (if v2_2 = 0 then ((f_Mo_cell v3_16 (0 : Int32) δ16).bind (fun y34 => ((f_Mo_mile y34 a1 δ16).bind (fun y38 => (jp_Mo_walks_45 (lp_Mo_walks_16 kx16_148 a1 v2_2 f) kx16_148 a1 v2_2 v3_16 δ16 y38))))) else (jp_Mo_walks_45 (lp_Mo_walks_16 kx16_148 a1 v2_2 f) kx16_148 a1 v2_2 v3_16 δ16 (-1 : Int32)))) else none)
set_option maxHeartbeats 4000000 in
set_option maxRecDepth 100000 in
theorem tl_Mo_walks_16 {n : Nat} (kx16_148 : Int32 → Dm → Option Dm) (a1 : Int32) (v2_2 : Int32) (hkx16_148 : ∀ v3_16k δ16k, AWo k_Mo_walks 3 0 0 148 [(0, .ref 151), (1, .int a1), (2, .int v2_2), (3, .int v3_16k)] [] δ16k RT n 0 0 (Kv RT n) (kx16_148 v3_16k δ16k)) : ∀ (f : Nat) (v3_16 : Int32) (δ16 : Dm), AWo k_Mo_walks 3 0 0 16 [(0, .ref 151), (1, .int a1), (2, .int v2_2), (3, .int v3_16)] [] δ16 RT n 0 0 (Kv RT n) (lp_Mo_walks_16 kx16_148 a1 v2_2 f v3_16 δ16) := by
  intro f
  induction f with
  | zero => intro _ _; exact aw_none
  | succ f ih =>
    intro v3_16 δ16
    rw [lp_Mo_walks_16]
    refine aw_iload_n d_Mo_walks_16 3 rfl ?_
    refine aw_aload_n d_Mo_walks_17 0 rfl ?_
    refine aw_getR (t := 152) fl_Mo_7 kd_151 rt_151_0 d_Mo_walks_18 ?_
    refine aw_iconst d_Mo_walks_21 ki_2 ?_
    refine aw_iald kd_152 d_Mo_walks_22 ?_
    refine aw_icmp_ge (tgt := 148) d_Mo_walks_23 rfl (fun q23 => ?_) (fun q23 => ?_)
    · refine aw_sub (lo' := [(0, .ref 151), (1, .int a1), (2, .int v2_2), (3, .int v3_16)]) [0, 1, 2, 3] rfl ?_
      exact hkx16_148 _ _
    · refine aw_iload_n d_Mo_walks_26 2 rfl ?_
      refine aw_if_ne (tgt := 44) d_Mo_walks_27 rfl (fun q27 => ?_) (fun q27 => ?_)
      · refine aw_aload_n d_Mo_walks_30 0 rfl ?_
        refine aw_aload_n d_Mo_walks_31 0 rfl ?_
        refine aw_iload_n d_Mo_walks_32 3 rfl ?_
        refine aw_iconst d_Mo_walks_33 ki_0 ?_
        refine aw_V_p (As := [.int v3_16, .int (0 : Int32)]) (m_Mo_cell) cv_Mo_265 kd_151 rfl rfl rfl (Nat.le_of_ble_eq_true rfl) ⟨Nat.le_of_ble_eq_true rfl, Nat.le_of_ble_eq_true rfl⟩ ⟨Nat.le_refl _, Nat.le_refl _⟩ d_Mo_walks_34 (fun y34 => ?_)
        refine aw_iload_n d_Mo_walks_37 1 rfl ?_
        refine aw_V_p (As := [.int y34, .int a1]) (m_Mo_mile) cv_Mo_368 kd_151 rfl rfl rfl (Nat.le_of_ble_eq_true rfl) ⟨Nat.le_of_ble_eq_true rfl, Nat.le_of_ble_eq_true rfl⟩ ⟨Nat.le_refl _, Nat.le_refl _⟩ d_Mo_walks_38 (fun y38 => ?_)
        refine aw_goto (tgt := 45) d_Mo_walks_41 rfl ?_
        refine aw_sub (lo' := [(0, .ref 151), (1, .int a1), (2, .int v2_2), (3, .int v3_16)]) [0, 1, 2, 3] rfl ?_
        exact tj_Mo_walks_45 _ _ _ _ _ _ _ ih hkx16_148
      · refine aw_iconst d_Mo_walks_44 ki_m1 ?_
        refine aw_sub (lo' := [(0, .ref 151), (1, .int a1), (2, .int v2_2), (3, .int v3_16)]) [0, 1, 2, 3] rfl ?_
        exact tj_Mo_walks_45 _ _ _ _ _ _ _ ih hkx16_148
def lp_Mo_walks_2 (kx2_154 : Int32 → Dm → Option Dm) (a1 : Int32) : Nat → Int32 → Dm → Option Dm
  | 0, _, _ => none
  | f + 1, v2_2, δ2 => (if inb (2 : Int32) 8918 then (if ((1 : Int32) <<< ((gI δ2 152 (ix (2 : Int32))) &&& 31)) ≤ v2_2 then (kx2_154 v2_2 δ2) else (lp_Mo_walks_16 (fun v3_16x δ16x => (lp_Mo_walks_2 kx2_154 a1 f (v2_2 + (1 : Int32)) δ16x)) a1 v2_2 FU (0 : Int32) δ2)) else none)
set_option maxHeartbeats 4000000 in
set_option maxRecDepth 100000 in
theorem tl_Mo_walks_2 {n : Nat} (kx2_154 : Int32 → Dm → Option Dm) (a1 : Int32) (hkx2_154 : ∀ v2_2k δ2k, AWo k_Mo_walks 3 0 0 154 [(0, .ref 151), (1, .int a1), (2, .int v2_2k)] [] δ2k RT n 0 0 (Kv RT n) (kx2_154 v2_2k δ2k)) : ∀ (f : Nat) (v2_2 : Int32) (δ2 : Dm), AWo k_Mo_walks 3 0 0 2 [(0, .ref 151), (1, .int a1), (2, .int v2_2)] [] δ2 RT n 0 0 (Kv RT n) (lp_Mo_walks_2 kx2_154 a1 f v2_2 δ2) := by
  intro f
  induction f with
  | zero => intro _ _; exact aw_none
  | succ f ih =>
    intro v2_2 δ2
    rw [lp_Mo_walks_2]
    refine aw_iload_n d_Mo_walks_2 2 rfl ?_
    refine aw_iconst d_Mo_walks_3 ki_1 ?_
    refine aw_aload_n d_Mo_walks_4 0 rfl ?_
    refine aw_getR (t := 152) fl_Mo_7 kd_151 rt_151_0 d_Mo_walks_5 ?_
    refine aw_iconst d_Mo_walks_8 ki_2 ?_
    refine aw_iald kd_152 d_Mo_walks_9 ?_
    refine aw_ishl d_Mo_walks_10 ?_
    refine aw_icmp_ge (tgt := 154) d_Mo_walks_11 rfl (fun q11 => ?_) (fun q11 => ?_)
    · refine aw_sub (lo' := [(0, .ref 151), (1, .int a1), (2, .int v2_2)]) [0, 1, 2] rfl ?_
      exact hkx2_154 _ _
    · refine aw_iconst d_Mo_walks_14 ki_0 ?_
      refine aw_istore_n (lo' := [(3, .int (0 : Int32)), (0, .ref 151), (1, .int a1), (2, .int v2_2)]) d_Mo_walks_15 rfl (by decide) rfl ?_
      refine aw_sub (lo' := [(0, .ref 151), (1, .int a1), (2, .int v2_2), (3, .int (0 : Int32))]) [1, 2, 3, 0] rfl ?_
      refine tl_Mo_walks_16 _ _ _ (fun v3_16x δ16x => ?_) FU _ _
      · refine aw_iinc (v := (v2_2 + (1 : Int32))) (lo' := [(2, .int (v2_2 + (1 : Int32))), (0, .ref 151), (1, .int a1), (3, .int v3_16x)]) d_Mo_walks_148 2 rfl (by rw [show Int32.ofInt (1) = (1 : Int32) from by decide]) (by decide) rfl ?_
        refine aw_goto (tgt := 2) d_Mo_walks_151 rfl ?_
        refine aw_sub (lo' := [(0, .ref 151), (1, .int a1), (2, .int (v2_2 + (1 : Int32)))]) [1, 2, 0] rfl ?_
        exact ih _ _
def f_Mo_walks (a1 : Int32) (δ : Dm) : Option Dm := (lp_Mo_walks_2 (fun v2_2x δ2x => (some δ2x)) a1 FU (0 : Int32) δ)
set_option maxHeartbeats 4000000 in
set_option maxRecDepth 100000 in
theorem m_Mo_walks {a1 : Int32} {δ : Dm} {n : Nat} : ∀ x, f_Mo_walks a1 δ = some x → AMet k_Mo_walks 3 0 0 [.ref 151, .int a1] δ RT n (Kv RT n x) := by
  refine aw_start (lo := [(0, .ref 151), (1, .int a1)]) mok_Mo_walks rfl (Nat.le_of_ble_eq_true rfl) ?_
  unfold f_Mo_walks
  refine aw_iconst d_Mo_walks_0 ki_0 ?_
  refine aw_istore_n (lo' := [(2, .int (0 : Int32)), (0, .ref 151), (1, .int a1)]) d_Mo_walks_1 rfl (by decide) rfl ?_
  refine aw_sub (lo' := [(0, .ref 151), (1, .int a1), (2, .int (0 : Int32))]) [1, 2, 0] rfl ?_
  refine tl_Mo_walks_2 _ _ (fun v2_2x δ2x => ?_) FU _ _
  · exact aw_vret rfl rfl ⟨Nat.le_refl _, Nat.le_refl _⟩ d_Mo_walks_154
end
