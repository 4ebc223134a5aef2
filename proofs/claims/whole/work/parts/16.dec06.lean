def jp_Mo_compare_152 (v10 : Int32) (v18 : Int32) (s0_90 : Int32) (δ_107 : Dm) (s0_152 : Int32) : Option (Int32 × Dm) := ((f_Mo_sum δ_107).bind (fun y155 => bnd y155.1 (fun v155 => bnd y155.2 (fun δ_155 => (if v155 = 0 then (some ((0 : Int32), δ_155)) else ((f_Mo_puts ((6 : Int32) + s0_152) (0 : Int32) δ_155).bind (fun y170 => (some ((1 : Int32), y170)))))))))
set_option maxHeartbeats 4000000 in
set_option maxRecDepth 100000 in
theorem tj_Mo_compare_152 {n : Nat} (v10 : Int32) (v18 : Int32) (s0_90 : Int32) (δ_107 : Dm) (s0_152 : Int32) : AWo k_Mo_compare 7 0 0 152 [(0, .ref 151), (1, .int v10), (2, .int v18), (3, .int s0_90)] [.int s0_152] δ_107 RT n 0 0 (Km RT n) (jp_Mo_compare_152 v10 v18 s0_90 δ_107 s0_152) := by
  unfold jp_Mo_compare_152
  refine aw_istore (lo' := [(4, .int s0_152), (0, .ref 151), (1, .int v10), (2, .int v18), (3, .int s0_90)]) d_Mo_compare_152 (by decide) rfl ?_
  refine aw_aload_n d_Mo_compare_154 1 rfl ?_
  refine aw_V_m (As := []) (m_Mo_sum) cv_Mo_172 kd_151 rfl rfl rfl (Nat.le_of_ble_eq_true rfl) ⟨Nat.le_of_ble_eq_true rfl, Nat.le_of_ble_eq_true rfl⟩ ⟨Nat.le_refl _, Nat.le_refl _⟩ d_Mo_compare_155 (fun y155 => ?_)
  refine aw_bI (fun v155 => ?_)
  refine aw_bD (fun δ_155 => ?_)
  refine aw_if_ne (tgt := 163) d_Mo_compare_158 rfl (fun q158 => ?_) (fun q158 => ?_)
  · refine aw_iconst d_Mo_compare_161 ki_0 ?_
    exact aw_zret rfl rfl rfl ⟨Nat.le_refl _, Nat.le_refl _⟩ d_Mo_compare_162
  · refine aw_aload_n d_Mo_compare_163 1 rfl ?_
    refine aw_bipush d_Mo_compare_164 kb_6 ?_
    refine aw_iload d_Mo_compare_166 0 rfl ?_
    refine aw_iadd d_Mo_compare_168 ?_
    refine aw_iconst d_Mo_compare_169 ki_0 ?_
    refine aw_V_v (As := [.int ((6 : Int32) + s0_152), .int (0 : Int32)]) (m_Mo_puts) cv_Mo_151 kd_151 rfl rfl rfl (Nat.le_of_ble_eq_true rfl) ⟨Nat.le_of_ble_eq_true rfl, Nat.le_of_ble_eq_true rfl⟩ ⟨Nat.le_refl _, Nat.le_refl _⟩ d_Mo_compare_170 (fun y170 => ?_)
    refine aw_iconst d_Mo_compare_173 ki_1 ?_
    exact aw_zret rfl rfl rfl ⟨Nat.le_refl _, Nat.le_refl _⟩ d_Mo_compare_174
def jp_Mo_compare_105 (v10 : Int32) (v18 : Int32) (s0_90 : Int32) (δ105 : Dm) : Option (Int32 × Dm) := ((f_Mo_makes v18 δ105).bind (fun y107 => bnd y107.1 (fun v107 => bnd y107.2 (fun δ_107 => (if v107 = 0 then (some ((0 : Int32), δ_107)) else (if v10 = (60 : Int32) then (if s0_90 = 0 then (jp_Mo_compare_152 v10 v18 s0_90 δ_107 (0 : Int32)) else (jp_Mo_compare_152 v10 v18 s0_90 δ_107 (1 : Int32))) else (if v10 = (61 : Int32) then (jp_Mo_compare_152 v10 v18 s0_90 δ_107 (2 : Int32)) else (if s0_90 = 0 then (jp_Mo_compare_152 v10 v18 s0_90 δ_107 (4 : Int32)) else (jp_Mo_compare_152 v10 v18 s0_90 δ_107 (3 : Int32))))))))))
set_option maxHeartbeats 4000000 in
set_option maxRecDepth 100000 in
theorem tj_Mo_compare_105 {n : Nat} (v10 : Int32) (v18 : Int32) (s0_90 : Int32) (δ105 : Dm) : AWo k_Mo_compare 7 0 0 105 [(0, .ref 151), (1, .int v10), (2, .int v18), (3, .int s0_90)] [] δ105 RT n 0 0 (Km RT n) (jp_Mo_compare_105 v10 v18 s0_90 δ105) := by
  unfold jp_Mo_compare_105
  refine aw_aload_n d_Mo_compare_105 0 rfl ?_
  refine aw_iload_n d_Mo_compare_106 2 rfl ?_
  refine aw_V_m (As := [.int v18]) (m_Mo_makes) cv_Mo_159 kd_151 rfl rfl rfl (Nat.le_of_ble_eq_true rfl) ⟨Nat.le_of_ble_eq_true rfl, Nat.le_of_ble_eq_true rfl⟩ ⟨Nat.le_refl _, Nat.le_refl _⟩ d_Mo_compare_107 (fun y107 => ?_)
  refine aw_bI (fun v107 => ?_)
  refine aw_bD (fun δ_107 => ?_)
  refine aw_if_ne (tgt := 115) d_Mo_compare_110 rfl (fun q110 => ?_) (fun q110 => ?_)
  · refine aw_iconst d_Mo_compare_113 ki_0 ?_
    exact aw_zret rfl rfl rfl ⟨Nat.le_refl _, Nat.le_refl _⟩ d_Mo_compare_114
  · refine aw_iload_n d_Mo_compare_115 1 rfl ?_
    refine aw_bipush d_Mo_compare_116 kb_60 ?_
    refine aw_icmp_ne (tgt := 133) d_Mo_compare_118 rfl (fun q118 => ?_) (fun q118 => ?_)
    · refine aw_iload_n d_Mo_compare_121 3 rfl ?_
      refine aw_if_eq (tgt := 129) d_Mo_compare_122 rfl (fun q122 => ?_) (fun q122 => ?_)
      · refine aw_iconst d_Mo_compare_129 ki_0 ?_
        refine aw_goto (tgt := 152) d_Mo_compare_130 rfl ?_
        refine aw_sub (lo' := [(0, .ref 151), (1, .int v10), (2, .int v18), (3, .int s0_90)]) [0, 1, 2, 3] rfl ?_
        exact tj_Mo_compare_152 _ _ _ _ _
      · refine aw_iconst d_Mo_compare_125 ki_1 ?_
        refine aw_goto (tgt := 152) d_Mo_compare_126 rfl ?_
        refine aw_sub (lo' := [(0, .ref 151), (1, .int v10), (2, .int v18), (3, .int s0_90)]) [0, 1, 2, 3] rfl ?_
        exact tj_Mo_compare_152 _ _ _ _ _
    · refine aw_iload_n d_Mo_compare_133 1 rfl ?_
      refine aw_bipush d_Mo_compare_134 kb_61 ?_
      refine aw_icmp_ne (tgt := 143) d_Mo_compare_136 rfl (fun q136 => ?_) (fun q136 => ?_)
      · refine aw_iconst d_Mo_compare_139 ki_2 ?_
        refine aw_goto (tgt := 152) d_Mo_compare_140 rfl ?_
        refine aw_sub (lo' := [(0, .ref 151), (1, .int v10), (2, .int v18), (3, .int s0_90)]) [0, 1, 2, 3] rfl ?_
        exact tj_Mo_compare_152 _ _ _ _ _
      · refine aw_iload_n d_Mo_compare_143 3 rfl ?_
        refine aw_if_eq (tgt := 151) d_Mo_compare_144 rfl (fun q144 => ?_) (fun q144 => ?_)
        · refine aw_iconst d_Mo_compare_151 ki_4 ?_
          refine aw_sub (lo' := [(0, .ref 151), (1, .int v10), (2, .int v18), (3, .int s0_90)]) [0, 1, 2, 3] rfl ?_
          exact tj_Mo_compare_152 _ _ _ _ _
        · refine aw_iconst d_Mo_compare_147 ki_3 ?_
          refine aw_goto (tgt := 152) d_Mo_compare_148 rfl ?_
          refine aw_sub (lo' := [(0, .ref 151), (1, .int v10), (2, .int v18), (3, .int s0_90)]) [0, 1, 2, 3] rfl ?_
          exact tj_Mo_compare_152 _ _ _ _ _
def jp_Mo_compare_90 (v10 : Int32) (v18 : Int32) (δ_51 : Dm) (s0_90 : Int32) : Option (Int32 × Dm) := (if s0_90 = 0 then (jp_Mo_compare_105 v10 v18 s0_90 δ_51) else (bnd (sI δ_51 151 9 ((gI δ_51 151 9) + (1 : Int32))) (fun δ_102 => (jp_Mo_compare_105 v10 v18 s0_90 δ_102))))
set_option maxHeartbeats 4000000 in
set_option maxRecDepth 100000 in
theorem tj_Mo_compare_90 {n : Nat} (v10 : Int32) (v18 : Int32) (δ_51 : Dm) (s0_90 : Int32) : AWo k_Mo_compare 7 0 0 90 [(0, .ref 151), (1, .int v10), (2, .int v18)] [.int s0_90] δ_51 RT n 0 0 (Km RT n) (jp_Mo_compare_90 v10 v18 δ_51 s0_90) := by
  unfold jp_Mo_compare_90
  refine aw_istore_n (lo' := [(3, .int s0_90), (0, .ref 151), (1, .int v10), (2, .int v18)]) d_Mo_compare_90 rfl (by decide) rfl ?_
  refine aw_iload_n d_Mo_compare_91 0 rfl ?_
  refine aw_if_eq (tgt := 105) d_Mo_compare_92 rfl (fun q92 => ?_) (fun q92 => ?_)
  · refine aw_sub (lo' := [(0, .ref 151), (1, .int v10), (2, .int v18), (3, .int s0_90)]) [1, 2, 3, 0] rfl ?_
    exact tj_Mo_compare_105 _ _ _ _
  · refine aw_aload_n d_Mo_compare_95 1 rfl ?_
    refine aw_dup d_Mo_compare_96 rfl ?_
    refine aw_getI fl_Mo_90 kd_151 d_Mo_compare_97 ?_
    refine aw_iconst d_Mo_compare_100 ki_1 ?_
    refine aw_iadd d_Mo_compare_101 ?_
    refine aw_putI pf_Mo_90 kd_151 d_Mo_compare_102 ?_
    refine aw_bD (fun δ_102 => ?_)
    refine aw_sub (lo' := [(0, .ref 151), (1, .int v10), (2, .int v18), (3, .int s0_90)]) [1, 2, 3, 0] rfl ?_
    exact tj_Mo_compare_105 _ _ _ _
def jp_Mo_compare_89 (v10 : Int32) (v18 : Int32) (δ_51 : Dm) : Option (Int32 × Dm) := (jp_Mo_compare_90 v10 v18 δ_51 (0 : Int32))
set_option maxHeartbeats 4000000 in
set_option maxRecDepth 100000 in
theorem tj_Mo_compare_89 {n : Nat} (v10 : Int32) (v18 : Int32) (δ_51 : Dm) : AWo k_Mo_compare 7 0 0 89 [(0, .ref 151), (1, .int v10), (2, .int v18)] [] δ_51 RT n 0 0 (Km RT n) (jp_Mo_compare_89 v10 v18 δ_51) := by
  unfold jp_Mo_compare_89
  refine aw_iconst d_Mo_compare_89 ki_0 ?_
  refine aw_sub (lo' := [(0, .ref 151), (1, .int v10), (2, .int v18)]) [0, 1, 2] rfl ?_
  exact tj_Mo_compare_90 _ _ _ _
def jp_Mo_compare_44 (v10 : Int32) (v18 : Int32) (δ_10 : Dm) : Option (Int32 × Dm) := (bnd (sI δ_10 151 9 ((gI δ_10 151 9) + (1 : Int32))) (fun δ_51 => (if v10 = (61 : Int32) then (jp_Mo_compare_89 v10 v18 δ_51) else (if (gI δ_51 151 2) ≤ (gI δ_51 151 9) then (jp_Mo_compare_89 v10 v18 δ_51) else (if inb (gI δ_51 151 9) 400 then (if (gI δ_51 153 (ix (gI δ_51 151 9))) = (61 : Int32) then (jp_Mo_compare_90 v10 v18 δ_51 (1 : Int32)) else (jp_Mo_compare_89 v10 v18 δ_51)) else none)))))
set_option maxHeartbeats 4000000 in
set_option maxRecDepth 100000 in
theorem tj_Mo_compare_44 {n : Nat} (v10 : Int32) (v18 : Int32) (δ_10 : Dm) : AWo k_Mo_compare 7 0 0 44 [(0, .ref 151), (1, .int v10), (2, .int v18)] [] δ_10 RT n 0 0 (Km RT n) (jp_Mo_compare_44 v10 v18 δ_10) := by
  unfold jp_Mo_compare_44
  refine aw_aload_n d_Mo_compare_44 0 rfl ?_
  refine aw_dup d_Mo_compare_45 rfl ?_
  refine aw_getI fl_Mo_90 kd_151 d_Mo_compare_46 ?_
  refine aw_iconst d_Mo_compare_49 ki_1 ?_
  refine aw_iadd d_Mo_compare_50 ?_
  refine aw_putI pf_Mo_90 kd_151 d_Mo_compare_51 ?_
  refine aw_bD (fun δ_51 => ?_)
  refine aw_iload_n d_Mo_compare_54 1 rfl ?_
  refine aw_bipush d_Mo_compare_55 kb_61 ?_
  refine aw_icmp_eq (tgt := 89) d_Mo_compare_57 rfl (fun q57 => ?_) (fun q57 => ?_)
  · refine aw_sub (lo' := [(0, .ref 151), (1, .int v10), (2, .int v18)]) [0, 1, 2] rfl ?_
    exact tj_Mo_compare_89 _ _ _
  · refine aw_aload_n d_Mo_compare_60 0 rfl ?_
    refine aw_getI fl_Mo_90 kd_151 d_Mo_compare_61 ?_
    refine aw_aload_n d_Mo_compare_64 0 rfl ?_
    refine aw_getI fl_Mo_79 kd_151 d_Mo_compare_65 ?_
    refine aw_icmp_ge (tgt := 89) d_Mo_compare_68 rfl (fun q68 => ?_) (fun q68 => ?_)
    · refine aw_sub (lo' := [(0, .ref 151), (1, .int v10), (2, .int v18)]) [0, 1, 2] rfl ?_
      exact tj_Mo_compare_89 _ _ _
    · refine aw_aload_n d_Mo_compare_71 0 rfl ?_
      refine aw_getR (t := 153) fl_Mo_13 kd_151 rt_151_1 d_Mo_compare_72 ?_
      refine aw_aload_n d_Mo_compare_75 0 rfl ?_
      refine aw_getI fl_Mo_90 kd_151 d_Mo_compare_76 ?_
      refine aw_bald kd_153 d_Mo_compare_79 ?_
      refine aw_bipush d_Mo_compare_80 kb_61 ?_
      refine aw_icmp_ne (tgt := 89) d_Mo_compare_82 rfl (fun q82 => ?_) (fun q82 => ?_)
      · refine aw_iconst d_Mo_compare_85 ki_1 ?_
        refine aw_goto (tgt := 90) d_Mo_compare_86 rfl ?_
        refine aw_sub (lo' := [(0, .ref 151), (1, .int v10), (2, .int v18)]) [0, 1, 2] rfl ?_
        exact tj_Mo_compare_90 _ _ _ _
      · refine aw_sub (lo' := [(0, .ref 151), (1, .int v10), (2, .int v18)]) [0, 1, 2] rfl ?_
        exact tj_Mo_compare_89 _ _ _
def f_Mo_compare (δ : Dm) : Option (Int32 × Dm) := ((f_Mo_sum δ).bind (fun y1 => bnd y1.1 (fun v1 => bnd y1.2 (fun δ_1 => (if v1 = 0 then (some ((0 : Int32), δ_1)) else ((f_Mo_see δ_1).bind (fun y10 => bnd y10.1 (fun v10 => bnd y10.2 (fun δ_10 => (bnd (gI δ_10 151 9) (fun v18 => (if v10 = (60 : Int32) then (jp_Mo_compare_44 v10 v18 δ_10) else (if v10 = (61 : Int32) then (jp_Mo_compare_44 v10 v18 δ_10) else (if v10 = (62 : Int32) then (jp_Mo_compare_44 v10 v18 δ_10) else ((f_Mo_fails (0 : Int32) v18 δ_10).bind (fun y40 => bnd y40.1 (fun v40 => bnd y40.2 (fun δ_40 => (if v40 = 0 ∨ v40 = 1 then (some (v40, δ_40)) else none)))))))))))))))))))
set_option maxHeartbeats 4000000 in
set_option maxRecDepth 100000 in
theorem m_Mo_compare {δ : Dm} {n : Nat} : ∀ x, f_Mo_compare δ = some x → AMet k_Mo_compare 7 0 0 [.ref 151] δ RT n (Km RT n x) := by
  refine aw_start (lo := [(0, .ref 151)]) mok_Mo_compare rfl (Nat.le_of_ble_eq_true rfl) ?_
  unfold f_Mo_compare
  refine aw_aload_n d_Mo_compare_0 0 rfl ?_
  refine aw_V_m (As := []) (m_Mo_sum) cv_Mo_172 kd_151 rfl rfl rfl (Nat.le_of_ble_eq_true rfl) ⟨Nat.le_of_ble_eq_true rfl, Nat.le_of_ble_eq_true rfl⟩ ⟨Nat.le_refl _, Nat.le_refl _⟩ d_Mo_compare_1 (fun y1 => ?_)
  refine aw_bI (fun v1 => ?_)
  refine aw_bD (fun δ_1 => ?_)
  refine aw_if_ne (tgt := 9) d_Mo_compare_4 rfl (fun q4 => ?_) (fun q4 => ?_)
  · refine aw_iconst d_Mo_compare_7 ki_0 ?_
    exact aw_zret rfl rfl rfl ⟨Nat.le_refl _, Nat.le_refl _⟩ d_Mo_compare_8
  · refine aw_aload_n d_Mo_compare_9 0 rfl ?_
    refine aw_V_m (As := []) (m_Mo_see) cv_Mo_93 kd_151 rfl rfl rfl (Nat.le_of_ble_eq_true rfl) ⟨Nat.le_of_ble_eq_true rfl, Nat.le_of_ble_eq_true rfl⟩ ⟨Nat.le_refl _, Nat.le_refl _⟩ d_Mo_compare_10 (fun y10 => ?_)
    refine aw_bI (fun v10 => ?_)
    refine aw_bD (fun δ_10 => ?_)
    refine aw_istore_n (lo' := [(1, .int v10), (0, .ref 151)]) d_Mo_compare_13 rfl (by decide) rfl ?_
    refine aw_aload_n d_Mo_compare_14 1 rfl ?_
    refine aw_getI fl_Mo_90 kd_151 d_Mo_compare_15 ?_
    refine aw_bI (fun v18 => ?_)
    refine aw_istore_n (lo' := [(2, .int v18), (1, .int v10), (0, .ref 151)]) d_Mo_compare_18 rfl (by decide) rfl ?_
    refine aw_iload_n d_Mo_compare_19 1 rfl ?_
    refine aw_bipush d_Mo_compare_20 kb_60 ?_
    refine aw_icmp_eq (tgt := 44) d_Mo_compare_22 rfl (fun q22 => ?_) (fun q22 => ?_)
    · refine aw_sub (lo' := [(0, .ref 151), (1, .int v10), (2, .int v18)]) [2, 1, 0] rfl ?_
      exact tj_Mo_compare_44 _ _ _
    · refine aw_iload_n d_Mo_compare_25 1 rfl ?_
      refine aw_bipush d_Mo_compare_26 kb_61 ?_
      refine aw_icmp_eq (tgt := 44) d_Mo_compare_28 rfl (fun q28 => ?_) (fun q28 => ?_)
      · refine aw_sub (lo' := [(0, .ref 151), (1, .int v10), (2, .int v18)]) [2, 1, 0] rfl ?_
        exact tj_Mo_compare_44 _ _ _
      · refine aw_iload_n d_Mo_compare_31 1 rfl ?_
        refine aw_bipush d_Mo_compare_32 kb_62 ?_
        refine aw_icmp_eq (tgt := 44) d_Mo_compare_34 rfl (fun q34 => ?_) (fun q34 => ?_)
        · refine aw_sub (lo' := [(0, .ref 151), (1, .int v10), (2, .int v18)]) [2, 1, 0] rfl ?_
          exact tj_Mo_compare_44 _ _ _
        · refine aw_aload_n d_Mo_compare_37 2 rfl ?_
          refine aw_iconst d_Mo_compare_38 ki_0 ?_
          refine aw_iload_n d_Mo_compare_39 0 rfl ?_
          refine aw_V_m (As := [.int (0 : Int32), .int v18]) (m_Mo_fails) cv_Mo_110 kd_151 rfl rfl rfl (Nat.le_of_ble_eq_true rfl) ⟨Nat.le_of_ble_eq_true rfl, Nat.le_of_ble_eq_true rfl⟩ ⟨Nat.le_refl _, Nat.le_refl _⟩ d_Mo_compare_40 (fun y40 => ?_)
          refine aw_bI (fun v40 => ?_)
          refine aw_bD (fun δ_40 => ?_)
          exact aw_zr2 rfl rfl ⟨Nat.le_refl _, Nat.le_refl _⟩ d_Mo_compare_43
def lp_Mo_fact_2 (kx2_75 : Int32 → Dm → Option (Int32 × Dm)) : Nat → Int32 → Dm → Option (Int32 × Dm)
  | 0, _, _ => none
  | f + 1, v1_2, δ2 => (if v1_2 = 0 then (kx2_75 v1_2 δ2) else ((f_Mo_see δ2).bind (fun y9 => bnd y9.1 (fun v9 => bnd y9.2 (fun δ_9 => ((f_Mo_isWord (7237492 : Int64) δ_9).bind (fun y17 => bnd y17.1 (fun v17 => bnd y17.2 (fun δ_17 => (if v17 = 0 then (if v9 = (91 : Int32) then ((f_Mo_opens (91 : Int32) δ_17).bind (fun y52 => bnd y52.1 (fun v52 => bnd y52.2 (fun δ_52 => (if v52 = 0 then (some ((0 : Int32), δ_52)) else (bnd (sI δ_52 151 9 ((gI δ_52 151 9) + (1 : Int32))) (fun δ_67 => (lp_Mo_fact_2 kx2_75 f (1 : Int32) δ_67)))))))) else (lp_Mo_fact_2 kx2_75 f (0 : Int32) δ_17)) else ((f_Mo_opens (11 : Int32) δ_17).bind (fun y26 => bnd y26.1 (fun v26 => bnd y26.2 (fun δ_26 => (if v26 = 0 then (some ((0 : Int32), δ_26)) else ((f_Mo_passWord δ_26).bind (fun y35 => (lp_Mo_fact_2 kx2_75 f (1 : Int32) y35))))))))))))))))))
set_option maxHeartbeats 4000000 in
set_option maxRecDepth 100000 in
theorem tl_Mo_fact_2 {n : Nat} (kx2_75 : Int32 → Dm → Option (Int32 × Dm)) (hkx2_75 : ∀ v1_2k δ2k, AWo k_Mo_fact 8 0 0 75 [(0, .ref 151), (1, .int v1_2k)] [] δ2k RT n 0 0 (Km RT n) (kx2_75 v1_2k δ2k)) : ∀ (f : Nat) (v1_2 : Int32) (δ2 : Dm), AWo k_Mo_fact 8 0 0 2 [(0, .ref 151), (1, .int v1_2)] [] δ2 RT n 0 0 (Km RT n) (lp_Mo_fact_2 kx2_75 f v1_2 δ2) := by
  intro f
  induction f with
  | zero => intro _ _; exact aw_none
  | succ f ih =>
    intro v1_2 δ2
    rw [lp_Mo_fact_2]
    refine aw_iload_n d_Mo_fact_2 1 rfl ?_
    refine aw_if_eq (tgt := 75) d_Mo_fact_3 rfl (fun q3 => ?_) (fun q3 => ?_)
    · refine aw_sub (lo' := [(0, .ref 151), (1, .int v1_2)]) [0, 1] rfl ?_
      exact hkx2_75 _ _
    · refine aw_iconst d_Mo_fact_6 ki_0 ?_
      refine aw_istore_n (lo' := [(1, .int (0 : Int32)), (0, .ref 151)]) d_Mo_fact_7 rfl (by decide) rfl ?_
      refine aw_aload_n d_Mo_fact_8 1 rfl ?_
      refine aw_V_m (As := []) (m_Mo_see) cv_Mo_93 kd_151 rfl rfl rfl (Nat.le_of_ble_eq_true rfl) ⟨Nat.le_of_ble_eq_true rfl, Nat.le_of_ble_eq_true rfl⟩ ⟨Nat.le_refl _, Nat.le_refl _⟩ d_Mo_fact_9 (fun y9 => ?_)
      refine aw_bI (fun v9 => ?_)
      refine aw_bD (fun δ_9 => ?_)
      refine aw_istore_n (lo' := [(2, .int v9), (1, .int (0 : Int32)), (0, .ref 151)]) d_Mo_fact_12 rfl (by decide) rfl ?_
      refine aw_aload_n d_Mo_fact_13 2 rfl ?_
      refine aw_ldc2 (v := (7237492 : Int64)) d_Mo_fact_14 kc_Mo_175 ?_
      refine aw_V_m (As := [.long (7237492 : Int64)]) (m_Mo_isWord) cv_Mo_100 kd_151 rfl rfl rfl (Nat.le_of_ble_eq_true rfl) ⟨Nat.le_of_ble_eq_true rfl, Nat.le_of_ble_eq_true rfl⟩ ⟨Nat.le_refl _, Nat.le_refl _⟩ d_Mo_fact_17 (fun y17 => ?_)
      refine aw_bI (fun v17 => ?_)
      refine aw_bD (fun δ_17 => ?_)
      refine aw_if_eq (tgt := 43) d_Mo_fact_20 rfl (fun q20 => ?_) (fun q20 => ?_)
      · refine aw_iload_n d_Mo_fact_43 0 rfl ?_
        refine aw_bipush d_Mo_fact_44 kb_91 ?_
        refine aw_icmp_ne (tgt := 72) d_Mo_fact_46 rfl (fun q46 => ?_) (fun q46 => ?_)
        · refine aw_aload_n d_Mo_fact_49 2 rfl ?_
          refine aw_bipush d_Mo_fact_50 kb_91 ?_
          refine aw_V_m (As := [.int (91 : Int32)]) (m_Mo_opens) cv_Mo_177 kd_151 rfl rfl rfl (Nat.le_of_ble_eq_true rfl) ⟨Nat.le_of_ble_eq_true rfl, Nat.le_of_ble_eq_true rfl⟩ ⟨Nat.le_refl _, Nat.le_refl _⟩ d_Mo_fact_52 (fun y52 => ?_)
          refine aw_bI (fun v52 => ?_)
          refine aw_bD (fun δ_52 => ?_)
          refine aw_if_ne (tgt := 60) d_Mo_fact_55 rfl (fun q55 => ?_) (fun q55 => ?_)
          · refine aw_iconst d_Mo_fact_58 ki_0 ?_
            exact aw_zret rfl rfl rfl ⟨Nat.le_refl _, Nat.le_refl _⟩ d_Mo_fact_59
          · refine aw_aload_n d_Mo_fact_60 2 rfl ?_
            refine aw_dup d_Mo_fact_61 rfl ?_
            refine aw_getI fl_Mo_90 kd_151 d_Mo_fact_62 ?_
            refine aw_iconst d_Mo_fact_65 ki_1 ?_
            refine aw_iadd d_Mo_fact_66 ?_
            refine aw_putI pf_Mo_90 kd_151 d_Mo_fact_67 ?_
            refine aw_bD (fun δ_67 => ?_)
            refine aw_iconst d_Mo_fact_70 ki_1 ?_
            refine aw_istore_n (lo' := [(1, .int (1 : Int32)), (2, .int v9), (0, .ref 151)]) d_Mo_fact_71 rfl (by decide) rfl ?_
            refine aw_goto (tgt := 2) d_Mo_fact_72 rfl ?_
            refine aw_sub (lo' := [(0, .ref 151), (1, .int (1 : Int32))]) [2, 0] rfl ?_
            exact ih _ _
        · refine aw_goto (tgt := 2) d_Mo_fact_72 rfl ?_
          refine aw_sub (lo' := [(0, .ref 151), (1, .int (0 : Int32))]) [2, 1] rfl ?_
          exact ih _ _
      · refine aw_aload_n d_Mo_fact_23 2 rfl ?_
        refine aw_bipush d_Mo_fact_24 kb_11 ?_
        refine aw_V_m (As := [.int (11 : Int32)]) (m_Mo_opens) cv_Mo_177 kd_151 rfl rfl rfl (Nat.le_of_ble_eq_true rfl) ⟨Nat.le_of_ble_eq_true rfl, Nat.le_of_ble_eq_true rfl⟩ ⟨Nat.le_refl _, Nat.le_refl _⟩ d_Mo_fact_26 (fun y26 => ?_)
        refine aw_bI (fun v26 => ?_)
        refine aw_bD (fun δ_26 => ?_)
        refine aw_if_ne (tgt := 34) d_Mo_fact_29 rfl (fun q29 => ?_) (fun q29 => ?_)
        · refine aw_iconst d_Mo_fact_32 ki_0 ?_
          exact aw_zret rfl rfl rfl ⟨Nat.le_refl _, Nat.le_refl _⟩ d_Mo_fact_33
        · refine aw_aload_n d_Mo_fact_34 2 rfl ?_
          refine aw_V_v (As := []) (m_Mo_passWord) cv_Mo_104 kd_151 rfl rfl rfl (Nat.le_of_ble_eq_true rfl) ⟨Nat.le_of_ble_eq_true rfl, Nat.le_of_ble_eq_true rfl⟩ ⟨Nat.le_refl _, Nat.le_refl _⟩ d_Mo_fact_35 (fun y35 => ?_)
          refine aw_iconst d_Mo_fact_38 ki_1 ?_
          refine aw_istore_n (lo' := [(1, .int (1 : Int32)), (2, .int v9), (0, .ref 151)]) d_Mo_fact_39 rfl (by decide) rfl ?_
          refine aw_goto (tgt := 72) d_Mo_fact_40 rfl ?_
          refine aw_goto (tgt := 2) d_Mo_fact_72 rfl ?_
          refine aw_sub (lo' := [(0, .ref 151), (1, .int (1 : Int32))]) [2, 0] rfl ?_
          exact ih _ _
def f_Mo_fact (δ : Dm) : Option (Int32 × Dm) := (lp_Mo_fact_2 (fun v1_2x δ2x => ((f_Mo_compare δ2x).bind (fun y76 => bnd y76.1 (fun v76 => bnd y76.2 (fun δ_76 => (if v76 = 0 ∨ v76 = 1 then (some (v76, δ_76)) else none)))))) FU (1 : Int32) δ)
set_option maxHeartbeats 4000000 in
set_option maxRecDepth 100000 in
theorem m_Mo_fact {δ : Dm} {n : Nat} : ∀ x, f_Mo_fact δ = some x → AMet k_Mo_fact 8 0 0 [.ref 151] δ RT n (Km RT n x) := by
  refine aw_start (lo := [(0, .ref 151)]) mok_Mo_fact rfl (Nat.le_of_ble_eq_true rfl) ?_
  unfold f_Mo_fact
  refine aw_iconst d_Mo_fact_0 ki_1 ?_
  refine aw_istore_n (lo' := [(1, .int (1 : Int32)), (0, .ref 151)]) d_Mo_fact_1 rfl (by decide) rfl ?_
  refine aw_sub (lo' := [(0, .ref 151), (1, .int (1 : Int32))]) [1, 0] rfl ?_
  refine tl_Mo_fact_2 _ (fun v1_2x δ2x => ?_) FU _ _
  · refine aw_aload_n d_Mo_fact_75 0 rfl ?_
    refine aw_V_m (As := []) (m_Mo_compare) cv_Mo_180 kd_151 rfl rfl rfl (Nat.le_of_ble_eq_true rfl) ⟨Nat.le_of_ble_eq_true rfl, Nat.le_of_ble_eq_true rfl⟩ ⟨Nat.le_refl _, Nat.le_refl _⟩ d_Mo_fact_76 (fun y76 => ?_)
    refine aw_bI (fun v76 => ?_)
    refine aw_bD (fun δ_76 => ?_)
    exact aw_zr2 rfl rfl ⟨Nat.le_refl _, Nat.le_refl _⟩ d_Mo_fact_79
def f_Mo_strength (a0 : Int32) (δ : Dm) : Option Int32 := (if a0 = (13 : Int32) then (some (1 : Int32)) else (if a0 = (12 : Int32) then (some (2 : Int32)) else (if a0 = (11 : Int32) then (some (3 : Int32)) else (some (0 : Int32)))))
set_option maxHeartbeats 4000000 in
set_option maxRecDepth 100000 in
theorem m_Mo_strength {a0 : Int32} {δ : Dm} {n : Nat} : ∀ x, f_Mo_strength a0 δ = some x → AMet k_Mo_strength 1 0 0 [.int a0] δ RT n (Kp δ RT n x) := by
  refine aw_start (lo := [(0, .int a0)]) mok_Mo_strength rfl (Nat.le_of_ble_eq_true rfl) ?_
  unfold f_Mo_strength
  refine aw_iload_n d_Mo_strength_0 0 rfl ?_
  refine aw_bipush d_Mo_strength_1 kb_13 ?_
  refine aw_icmp_ne (tgt := 10) d_Mo_strength_3 rfl (fun q3 => ?_) (fun q3 => ?_)
  · refine aw_iconst d_Mo_strength_6 ki_1 ?_
    refine aw_goto (tgt := 31) d_Mo_strength_7 rfl ?_
    exact aw_iret rfl rfl ⟨Nat.le_refl _, Nat.le_refl _⟩ d_Mo_strength_31
  · refine aw_iload_n d_Mo_strength_10 0 rfl ?_
    refine aw_bipush d_Mo_strength_11 kb_12 ?_
    refine aw_icmp_ne (tgt := 20) d_Mo_strength_13 rfl (fun q13 => ?_) (fun q13 => ?_)
    · refine aw_iconst d_Mo_strength_16 ki_2 ?_
      refine aw_goto (tgt := 31) d_Mo_strength_17 rfl ?_
      exact aw_iret rfl rfl ⟨Nat.le_refl _, Nat.le_refl _⟩ d_Mo_strength_31
    · refine aw_iload_n d_Mo_strength_20 0 rfl ?_
      refine aw_bipush d_Mo_strength_21 kb_11 ?_
      refine aw_icmp_ne (tgt := 30) d_Mo_strength_23 rfl (fun q23 => ?_) (fun q23 => ?_)
      · refine aw_iconst d_Mo_strength_26 ki_3 ?_
        refine aw_goto (tgt := 31) d_Mo_strength_27 rfl ?_
        exact aw_iret rfl rfl ⟨Nat.le_refl _, Nat.le_refl _⟩ d_Mo_strength_31
      · refine aw_iconst d_Mo_strength_30 ki_0 ?_
        exact aw_iret rfl rfl ⟨Nat.le_refl _, Nat.le_refl _⟩ d_Mo_strength_31
def lp_Mo_settles_0 (kx0_76 : Dm → Option Dm) (a1 : Int32) : Nat → Dm → Option Dm
  | 0, _ => none
  | f + 1, δ0 => (if (gI δ0 151 17) ≤ 0 then (kx0_76 δ0) else (if inb ((gI δ0 151 17) - (1 : Int32)) 400 then ((f_Mo_strength (gI δ0 159 (ix ((gI δ0 151 17) - (1 : Int32)))) δ0).bind (fun y18 => (if y18 < a1 then (kx0_76 δ0) else (bnd (sI δ0 151 17 ((gI δ0 151 17) - (1 : Int32))) (fun δ_32 => (if inb (gI δ_32 151 17) 400 then ((f_Mo_puts (gI δ_32 159 (ix (gI δ_32 151 17))) (0 : Int32) δ_32).bind (fun y46 => (if inb (gI y46 151 17) 400 then (if (gI y46 159 (ix (gI y46 151 17))) = (11 : Int32) then (bnd (sI y46 151 14 ((gI y46 151 14) - (1 : Int32))) (fun δ_70 => (lp_Mo_settles_0 kx0_76 a1 f δ_70))) else (lp_Mo_settles_0 kx0_76 a1 f y46)) else none))) else none)))))) else none))
set_option maxHeartbeats 4000000 in
set_option maxRecDepth 100000 in
theorem tl_Mo_settles_0 {n : Nat} (kx0_76 : Dm → Option Dm) (a1 : Int32) (hkx0_76 : ∀ δ0k, AWo k_Mo_settles 2 0 0 76 [(0, .ref 151), (1, .int a1)] [] δ0k RT n 0 0 (Kv RT n) (kx0_76 δ0k)) : ∀ (f : Nat) (δ0 : Dm), AWo k_Mo_settles 2 0 0 0 [(0, .ref 151), (1, .int a1)] [] δ0 RT n 0 0 (Kv RT n) (lp_Mo_settles_0 kx0_76 a1 f δ0) := by
  intro f
  induction f with
  | zero => intro _; exact aw_none
  | succ f ih =>
    intro δ0
    rw [lp_Mo_settles_0]
    refine aw_aload_n d_Mo_settles_0 0 rfl ?_
    refine aw_getI fl_Mo_144 kd_151 d_Mo_settles_1 ?_
    refine aw_if_le (tgt := 76) d_Mo_settles_4 rfl (fun q4 => ?_) (fun q4 => ?_)
    · refine aw_sub (lo' := [(0, .ref 151), (1, .int a1)]) [0, 1] rfl ?_
      exact hkx0_76 _
    · refine aw_aload_n d_Mo_settles_7 0 rfl ?_
      refine aw_getR (t := 159) fl_Mo_32 kd_151 rt_151_16 d_Mo_settles_8 ?_
      refine aw_aload_n d_Mo_settles_11 0 rfl ?_
      refine aw_getI fl_Mo_144 kd_151 d_Mo_settles_12 ?_
      refine aw_iconst d_Mo_settles_15 ki_1 ?_
      refine aw_isub d_Mo_settles_16 ?_
      refine aw_iald kd_159 d_Mo_settles_17 ?_
      refine aw_S_p (As := [.int (gI δ0 159 (ix ((gI δ0 151 17) - (1 : Int32))))]) (m_Mo_strength) cs_Mo_147 rfl rfl (Nat.le_of_ble_eq_true rfl) ⟨Nat.le_of_ble_eq_true rfl, Nat.le_of_ble_eq_true rfl⟩ ⟨Nat.le_refl _, Nat.le_refl _⟩ d_Mo_settles_18 (fun y18 => ?_)
      refine aw_iload_n d_Mo_settles_21 1 rfl ?_
      refine aw_icmp_lt (tgt := 76) d_Mo_settles_22 rfl (fun q22 => ?_) (fun q22 => ?_)
      · refine aw_sub (lo' := [(0, .ref 151), (1, .int a1)]) [0, 1] rfl ?_
        exact hkx0_76 _
      · refine aw_aload_n d_Mo_settles_25 0 rfl ?_
        refine aw_dup d_Mo_settles_26 rfl ?_
        refine aw_getI fl_Mo_144 kd_151 d_Mo_settles_27 ?_
        refine aw_iconst d_Mo_settles_30 ki_1 ?_
        refine aw_isub d_Mo_settles_31 ?_
        refine aw_putI pf_Mo_144 kd_151 d_Mo_settles_32 ?_
        refine aw_bD (fun δ_32 => ?_)
        refine aw_aload_n d_Mo_settles_35 0 rfl ?_
        refine aw_aload_n d_Mo_settles_36 0 rfl ?_
        refine aw_getR (t := 159) fl_Mo_32 kd_151 rt_151_16 d_Mo_settles_37 ?_
        refine aw_aload_n d_Mo_settles_40 0 rfl ?_
        refine aw_getI fl_Mo_144 kd_151 d_Mo_settles_41 ?_
        refine aw_iald kd_159 d_Mo_settles_44 ?_
        refine aw_iconst d_Mo_settles_45 ki_0 ?_
        refine aw_V_v (As := [.int (gI δ_32 159 (ix (gI δ_32 151 17))), .int (0 : Int32)]) (m_Mo_puts) cv_Mo_151 kd_151 rfl rfl rfl (Nat.le_of_ble_eq_true rfl) ⟨Nat.le_of_ble_eq_true rfl, Nat.le_of_ble_eq_true rfl⟩ ⟨Nat.le_refl _, Nat.le_refl _⟩ d_Mo_settles_46 (fun y46 => ?_)
        refine aw_aload_n d_Mo_settles_49 0 rfl ?_
        refine aw_getR (t := 159) fl_Mo_32 kd_151 rt_151_16 d_Mo_settles_50 ?_
        refine aw_aload_n d_Mo_settles_53 0 rfl ?_
        refine aw_getI fl_Mo_144 kd_151 d_Mo_settles_54 ?_
        refine aw_iald kd_159 d_Mo_settles_57 ?_
        refine aw_bipush d_Mo_settles_58 kb_11 ?_
        refine aw_icmp_ne (tgt := 0) d_Mo_settles_60 rfl (fun q60 => ?_) (fun q60 => ?_)
        · refine aw_aload_n d_Mo_settles_63 0 rfl ?_
          refine aw_dup d_Mo_settles_64 rfl ?_
          refine aw_getI fl_Mo_141 kd_151 d_Mo_settles_65 ?_
          refine aw_iconst d_Mo_settles_68 ki_1 ?_
          refine aw_isub d_Mo_settles_69 ?_
          refine aw_putI pf_Mo_141 kd_151 d_Mo_settles_70 ?_
          refine aw_bD (fun δ_70 => ?_)
          refine aw_goto (tgt := 0) d_Mo_settles_73 rfl ?_
          refine aw_sub (lo' := [(0, .ref 151), (1, .int a1)]) [0, 1] rfl ?_
          exact ih _
        · refine aw_sub (lo' := [(0, .ref 151), (1, .int a1)]) [0, 1] rfl ?_
          exact ih _
def f_Mo_settles (a1 : Int32) (δ : Dm) : Option Dm := (lp_Mo_settles_0 (fun δ0x => (some δ0x)) a1 FU δ)
set_option maxHeartbeats 4000000 in
set_option maxRecDepth 100000 in
theorem m_Mo_settles {a1 : Int32} {δ : Dm} {n : Nat} : ∀ x, f_Mo_settles a1 δ = some x → AMet k_Mo_settles 2 0 0 [.ref 151, .int a1] δ RT n (Kv RT n x) := by
  refine aw_start (lo := [(0, .ref 151), (1, .int a1)]) mok_Mo_settles rfl (Nat.le_of_ble_eq_true rfl) ?_
  unfold f_Mo_settles
  refine aw_sub (lo' := [(0, .ref 151), (1, .int a1)]) [0, 1] rfl ?_
  refine tl_Mo_settles_0 _ _ (fun δ0x => ?_) FU _
  · exact aw_vret rfl rfl ⟨Nat.le_refl _, Nat.le_refl _⟩ d_Mo_settles_76
def lp_Mo_isInside_2 (kx2_29 : Int32 → Option Int32) (δ : Dm) : Nat → Int32 → Option Int32
  | 0, _ => none
  | f + 1, v1_2 => (if (gI δ 151 17) ≤ v1_2 then (kx2_29 v1_2) else (if inb v1_2 400 then (if (gI δ 159 (ix v1_2)) = (91 : Int32) then (some (1 : Int32)) else (lp_Mo_isInside_2 kx2_29 δ f (v1_2 + (1 : Int32)))) else none))
set_option maxHeartbeats 4000000 in
set_option maxRecDepth 100000 in
theorem tl_Mo_isInside_2 {n : Nat} (kx2_29 : Int32 → Option Int32) (δ : Dm) (hkx2_29 : ∀ v1_2k, AWo k_Mo_isInside 1 0 0 29 [(0, .ref 151), (1, .int v1_2k)] [] δ RT n 0 0 (Kp δ RT n) (kx2_29 v1_2k)) : ∀ (f : Nat) (v1_2 : Int32), AWo k_Mo_isInside 1 0 0 2 [(0, .ref 151), (1, .int v1_2)] [] δ RT n 0 0 (Kp δ RT n) (lp_Mo_isInside_2 kx2_29 δ f v1_2) := by
  intro f
  induction f with
  | zero => intro _; exact aw_none
  | succ f ih =>
    intro v1_2
    rw [lp_Mo_isInside_2]
    refine aw_iload_n d_Mo_isInside_2 1 rfl ?_
    refine aw_aload_n d_Mo_isInside_3 0 rfl ?_
    refine aw_getI fl_Mo_144 kd_151 d_Mo_isInside_4 ?_
    refine aw_icmp_ge (tgt := 29) d_Mo_isInside_7 rfl (fun q7 => ?_) (fun q7 => ?_)
    · refine aw_sub (lo' := [(0, .ref 151), (1, .int v1_2)]) [0, 1] rfl ?_
      exact hkx2_29 _
    · refine aw_aload_n d_Mo_isInside_10 0 rfl ?_
      refine aw_getR (t := 159) fl_Mo_32 kd_151 rt_151_16 d_Mo_isInside_11 ?_
      refine aw_iload_n d_Mo_isInside_14 1 rfl ?_
      refine aw_iald kd_159 d_Mo_isInside_15 ?_
      refine aw_bipush d_Mo_isInside_16 kb_91 ?_
      refine aw_icmp_ne (tgt := 23) d_Mo_isInside_18 rfl (fun q18 => ?_) (fun q18 => ?_)
      · refine aw_iconst d_Mo_isInside_21 ki_1 ?_
        exact aw_zret rfl rfl rfl ⟨Nat.le_refl _, Nat.le_refl _⟩ d_Mo_isInside_22
      · refine aw_iinc (v := (v1_2 + (1 : Int32))) (lo' := [(1, .int (v1_2 + (1 : Int32))), (0, .ref 151)]) d_Mo_isInside_23 1 rfl (by rw [show Int32.ofInt (1) = (1 : Int32) from by decide]) (by decide) rfl ?_
        refine aw_goto (tgt := 2) d_Mo_isInside_26 rfl ?_
        refine aw_sub (lo' := [(0, .ref 151), (1, .int (v1_2 + (1 : Int32)))]) [1, 0] rfl ?_
        exact ih _
def f_Mo_isInside (δ : Dm) : Option Int32 := (lp_Mo_isInside_2 (fun v1_2x => (some (0 : Int32))) δ FU (0 : Int32))
set_option maxHeartbeats 4000000 in
set_option maxRecDepth 100000 in
theorem m_Mo_isInside {δ : Dm} {n : Nat} : ∀ x, f_Mo_isInside δ = some x → AMet k_Mo_isInside 1 0 0 [.ref 151] δ RT n (Kp δ RT n x) := by
  refine aw_start (lo := [(0, .ref 151)]) mok_Mo_isInside rfl (Nat.le_of_ble_eq_true rfl) ?_
  unfold f_Mo_isInside
  refine aw_iconst d_Mo_isInside_0 ki_0 ?_
  refine aw_istore_n (lo' := [(1, .int (0 : Int32)), (0, .ref 151)]) d_Mo_isInside_1 rfl (by decide) rfl ?_
  refine aw_sub (lo' := [(0, .ref 151), (1, .int (0 : Int32))]) [1, 0] rfl ?_
  refine tl_Mo_isInside_2 _ _ (fun v1_2x => ?_) FU _
  · refine aw_iconst d_Mo_isInside_29 ki_0 ?_
    exact aw_zret rfl rfl rfl ⟨Nat.le_refl _, Nat.le_refl _⟩ d_Mo_isInside_30
def lp_Mo_closes_5 (kx5_64 : Dm → Option Dm) : Nat → Dm → Option Dm
  | 0, _ => none
  | f + 1, δ5 => ((f_Mo_see δ5).bind (fun y6 => bnd y6.1 (fun v6 => bnd y6.2 (fun δ_6 => (if v6 = (93 : Int32) then ((f_Mo_isInside δ_6).bind (fun y15 => (if y15 = 0 then (kx5_64 δ_6) else ((f_Mo_settles (1 : Int32) δ_6).bind (fun y23 => (bnd (sI y23 151 17 ((gI y23 151 17) - (1 : Int32))) (fun δ_33 => (bnd (sI δ_33 151 14 ((gI δ_33 151 14) - (1 : Int32))) (fun δ_43 => (bnd (sI δ_43 151 9 ((gI δ_43 151 9) + (1 : Int32))) (fun δ_53 => ((f_Mo_settles (3 : Int32) δ_53).bind (fun y58 => (lp_Mo_closes_5 kx5_64 f y58)))))))))))))) else (kx5_64 δ_6))))))
set_option maxHeartbeats 4000000 in
set_option maxRecDepth 100000 in
theorem tl_Mo_closes_5 {n : Nat} (kx5_64 : Dm → Option Dm) (hkx5_64 : ∀ δ5k, AWo k_Mo_closes 3 0 0 64 [(0, .ref 151)] [] δ5k RT n 0 0 (Kv RT n) (kx5_64 δ5k)) : ∀ (f : Nat) (δ5 : Dm), AWo k_Mo_closes 3 0 0 5 [(0, .ref 151)] [] δ5 RT n 0 0 (Kv RT n) (lp_Mo_closes_5 kx5_64 f δ5) := by
  intro f
  induction f with
  | zero => intro _; exact aw_none
  | succ f ih =>
    intro δ5
    rw [lp_Mo_closes_5]
    refine aw_aload_n d_Mo_closes_5 0 rfl ?_
    refine aw_V_m (As := []) (m_Mo_see) cv_Mo_93 kd_151 rfl rfl rfl (Nat.le_of_ble_eq_true rfl) ⟨Nat.le_of_ble_eq_true rfl, Nat.le_of_ble_eq_true rfl⟩ ⟨Nat.le_refl _, Nat.le_refl _⟩ d_Mo_closes_6 (fun y6 => ?_)
    refine aw_bI (fun v6 => ?_)
    refine aw_bD (fun δ_6 => ?_)
    refine aw_bipush d_Mo_closes_9 kb_93 ?_
    refine aw_icmp_ne (tgt := 64) d_Mo_closes_11 rfl (fun q11 => ?_) (fun q11 => ?_)
    · refine aw_aload_n d_Mo_closes_14 0 rfl ?_
      refine aw_V_p (As := []) (m_Mo_isInside) cv_Mo_186 kd_151 rfl rfl rfl (Nat.le_of_ble_eq_true rfl) ⟨Nat.le_of_ble_eq_true rfl, Nat.le_of_ble_eq_true rfl⟩ ⟨Nat.le_refl _, Nat.le_refl _⟩ d_Mo_closes_15 (fun y15 => ?_)
      refine aw_if_eq (tgt := 64) d_Mo_closes_18 rfl (fun q18 => ?_) (fun q18 => ?_)
      · refine aw_sub (lo' := [(0, .ref 151)]) [0] rfl ?_
        exact hkx5_64 _
      · refine aw_aload_n d_Mo_closes_21 0 rfl ?_
        refine aw_iconst d_Mo_closes_22 ki_1 ?_
        refine aw_V_v (As := [.int (1 : Int32)]) (m_Mo_settles) cv_Mo_183 kd_151 rfl rfl rfl (Nat.le_of_ble_eq_true rfl) ⟨Nat.le_of_ble_eq_true rfl, Nat.le_of_ble_eq_true rfl⟩ ⟨Nat.le_refl _, Nat.le_refl _⟩ d_Mo_closes_23 (fun y23 => ?_)
        refine aw_aload_n d_Mo_closes_26 0 rfl ?_
        refine aw_dup d_Mo_closes_27 rfl ?_
        refine aw_getI fl_Mo_144 kd_151 d_Mo_closes_28 ?_
        refine aw_iconst d_Mo_closes_31 ki_1 ?_
        refine aw_isub d_Mo_closes_32 ?_
        refine aw_putI pf_Mo_144 kd_151 d_Mo_closes_33 ?_
        refine aw_bD (fun δ_33 => ?_)
        refine aw_aload_n d_Mo_closes_36 0 rfl ?_
        refine aw_dup d_Mo_closes_37 rfl ?_
        refine aw_getI fl_Mo_141 kd_151 d_Mo_closes_38 ?_
        refine aw_iconst d_Mo_closes_41 ki_1 ?_
        refine aw_isub d_Mo_closes_42 ?_
        refine aw_putI pf_Mo_141 kd_151 d_Mo_closes_43 ?_
        refine aw_bD (fun δ_43 => ?_)
        refine aw_aload_n d_Mo_closes_46 0 rfl ?_
        refine aw_dup d_Mo_closes_47 rfl ?_
        refine aw_getI fl_Mo_90 kd_151 d_Mo_closes_48 ?_
        refine aw_iconst d_Mo_closes_51 ki_1 ?_
        refine aw_iadd d_Mo_closes_52 ?_
        refine aw_putI pf_Mo_90 kd_151 d_Mo_closes_53 ?_
        refine aw_bD (fun δ_53 => ?_)
        refine aw_aload_n d_Mo_closes_56 0 rfl ?_
        refine aw_iconst d_Mo_closes_57 ki_3 ?_
        refine aw_V_v (As := [.int (3 : Int32)]) (m_Mo_settles) cv_Mo_183 kd_151 rfl rfl rfl (Nat.le_of_ble_eq_true rfl) ⟨Nat.le_of_ble_eq_true rfl, Nat.le_of_ble_eq_true rfl⟩ ⟨Nat.le_refl _, Nat.le_refl _⟩ d_Mo_closes_58 (fun y58 => ?_)
        refine aw_goto (tgt := 5) d_Mo_closes_61 rfl ?_
        refine aw_sub (lo' := [(0, .ref 151)]) [0] rfl ?_
        exact ih _
    · refine aw_sub (lo' := [(0, .ref 151)]) [0] rfl ?_
      exact hkx5_64 _
def f_Mo_closes (δ : Dm) : Option Dm := ((f_Mo_settles (3 : Int32) δ).bind (fun y2 => (lp_Mo_closes_5 (fun δ5x => (some δ5x)) FU y2)))
set_option maxHeartbeats 4000000 in
set_option maxRecDepth 100000 in
theorem m_Mo_closes {δ : Dm} {n : Nat} : ∀ x, f_Mo_closes δ = some x → AMet k_Mo_closes 3 0 0 [.ref 151] δ RT n (Kv RT n x) := by
  refine aw_start (lo := [(0, .ref 151)]) mok_Mo_closes rfl (Nat.le_of_ble_eq_true rfl) ?_
  unfold f_Mo_closes
  refine aw_aload_n d_Mo_closes_0 0 rfl ?_
  refine aw_iconst d_Mo_closes_1 ki_3 ?_
  refine aw_V_v (As := [.int (3 : Int32)]) (m_Mo_settles) cv_Mo_183 kd_151 rfl rfl rfl (Nat.le_of_ble_eq_true rfl) ⟨Nat.le_of_ble_eq_true rfl, Nat.le_of_ble_eq_true rfl⟩ ⟨Nat.le_refl _, Nat.le_refl _⟩ d_Mo_closes_2 (fun y2 => ?_)
  refine aw_sub (lo' := [(0, .ref 151)]) [0] rfl ?_
  refine tl_Mo_closes_5 _ (fun δ5x => ?_) FU _
  · exact aw_vret rfl rfl ⟨Nat.le_refl _, Nat.le_refl _⟩ d_Mo_closes_64
def jp_Mo_tested_76 (kr12 : Int32 → Dm → Option (Int32 × Dm)) (kx12_112 : Int32 → Dm → Option (Int32 × Dm)) (s0_54 : Int32) (δ_63 : Dm) (s0_76 : Int32) : Option (Int32 × Dm) := ((f_Mo_passWord δ_63).bind (fun y78 => ((f_Mo_strength s0_76 y78).bind (fun y83 => ((f_Mo_settles y83 y78).bind (fun y86 => (if inb (gI y86 151 17) 400 then bnd (sI y86 159 (ix (gI y86 151 17)) s0_76) (fun δ_98 => (bnd (sI δ_98 151 17 ((gI δ_98 151 17) + (1 : Int32))) (fun δ_106 => (kr12 s0_54 δ_106)))) else none)))))))
set_option maxHeartbeats 4000000 in
set_option maxRecDepth 100000 in
theorem tj_Mo_tested_76 {n : Nat} (kr12 : Int32 → Dm → Option (Int32 × Dm)) (kx12_112 : Int32 → Dm → Option (Int32 × Dm)) (s0_54 : Int32) (δ_63 : Dm) (s0_76 : Int32) (hkr12 : ∀ v1_12k δ12k, AWo k_Mo_tested 9 0 0 12 [(0, .ref 151), (1, .int v1_12k)] [] δ12k RT n 0 0 (Km RT n) (kr12 v1_12k δ12k)) (hkx12_112 : ∀ v1_12k δ12k, AWo k_Mo_tested 9 0 0 112 [(0, .ref 151), (1, .int v1_12k)] [] δ12k RT n 0 0 (Km RT n) (kx12_112 v1_12k δ12k)) : AWo k_Mo_tested 9 0 0 76 [(0, .ref 151), (1, .int s0_54)] [.int s0_76] δ_63 RT n 0 0 (Km RT n) (jp_Mo_tested_76 kr12 kx12_112 s0_54 δ_63 s0_76) := by
  unfold jp_Mo_tested_76
  refine aw_istore_n (lo' := [(2, .int s0_76), (0, .ref 151), (1, .int s0_54)]) d_Mo_tested_76 rfl (by decide) rfl ?_
  refine aw_aload_n d_Mo_tested_77 1 rfl ?_
  refine aw_V_v (As := []) (m_Mo_passWord) cv_Mo_104 kd_151 rfl rfl rfl (Nat.le_of_ble_eq_true rfl) ⟨Nat.le_of_ble_eq_true rfl, Nat.le_of_ble_eq_true rfl⟩ ⟨Nat.le_refl _, Nat.le_refl _⟩ d_Mo_tested_78 (fun y78 => ?_)
  refine aw_aload_n d_Mo_tested_81 1 rfl ?_
  refine aw_iload_n d_Mo_tested_82 0 rfl ?_
  refine aw_S_p (As := [.int s0_76]) (m_Mo_strength) cs_Mo_147 rfl rfl (Nat.le_of_ble_eq_true rfl) ⟨Nat.le_of_ble_eq_true rfl, Nat.le_of_ble_eq_true rfl⟩ ⟨Nat.le_refl _, Nat.le_refl _⟩ d_Mo_tested_83 (fun y83 => ?_)
  refine aw_V_v (As := [.int y83]) (m_Mo_settles) cv_Mo_183 kd_151 rfl rfl rfl (Nat.le_of_ble_eq_true rfl) ⟨Nat.le_of_ble_eq_true rfl, Nat.le_of_ble_eq_true rfl⟩ ⟨Nat.le_refl _, Nat.le_refl _⟩ d_Mo_tested_86 (fun y86 => ?_)
  refine aw_aload_n d_Mo_tested_89 1 rfl ?_
  refine aw_getR (t := 159) fl_Mo_32 kd_151 rt_151_16 d_Mo_tested_90 ?_
  refine aw_aload_n d_Mo_tested_93 1 rfl ?_
  refine aw_getI fl_Mo_144 kd_151 d_Mo_tested_94 ?_
  refine aw_iload_n d_Mo_tested_97 0 rfl ?_
  refine aw_iast kd_159 d_Mo_tested_98 ?_
  refine aw_bD (fun δ_98 => ?_)
  refine aw_aload_n d_Mo_tested_99 1 rfl ?_
  refine aw_dup d_Mo_tested_100 rfl ?_
  refine aw_getI fl_Mo_144 kd_151 d_Mo_tested_101 ?_
  refine aw_iconst d_Mo_tested_104 ki_1 ?_
  refine aw_iadd d_Mo_tested_105 ?_
  refine aw_putI pf_Mo_144 kd_151 d_Mo_tested_106 ?_
  refine aw_bD (fun δ_106 => ?_)
  refine aw_goto (tgt := 12) d_Mo_tested_109 rfl ?_
  refine aw_sub (lo' := [(0, .ref 151), (1, .int s0_54)]) [1, 2] rfl ?_
  exact hkr12 _ _
def jp_Mo_tested_54 (kr12 : Int32 → Dm → Option (Int32 × Dm)) (kx12_112 : Int32 → Dm → Option (Int32 × Dm)) (v1_12 : Int32) (s0_54 : Int32) (δ54 : Dm) : Option (Int32 × Dm) := (if s0_54 = 0 then (kr12 s0_54 δ54) else ((f_Mo_isWord (6385252 : Int64) δ54).bind (fun y63 => bnd y63.1 (fun v63 => bnd y63.2 (fun δ_63 => (if v63 = 0 then (jp_Mo_tested_76 kr12 kx12_112 s0_54 δ_63 (13 : Int32)) else (jp_Mo_tested_76 kr12 kx12_112 s0_54 δ_63 (12 : Int32))))))))
set_option maxHeartbeats 4000000 in
set_option maxRecDepth 100000 in
theorem tj_Mo_tested_54 {n : Nat} (kr12 : Int32 → Dm → Option (Int32 × Dm)) (kx12_112 : Int32 → Dm → Option (Int32 × Dm)) (v1_12 : Int32) (s0_54 : Int32) (δ54 : Dm) (hkr12 : ∀ v1_12k δ12k, AWo k_Mo_tested 9 0 0 12 [(0, .ref 151), (1, .int v1_12k)] [] δ12k RT n 0 0 (Km RT n) (kr12 v1_12k δ12k)) (hkx12_112 : ∀ v1_12k δ12k, AWo k_Mo_tested 9 0 0 112 [(0, .ref 151), (1, .int v1_12k)] [] δ12k RT n 0 0 (Km RT n) (kx12_112 v1_12k δ12k)) : AWo k_Mo_tested 9 0 0 54 [(0, .ref 151), (1, .int v1_12)] [.int s0_54] δ54 RT n 0 0 (Km RT n) (jp_Mo_tested_54 kr12 kx12_112 v1_12 s0_54 δ54) := by
  unfold jp_Mo_tested_54
  refine aw_istore_n (lo' := [(1, .int s0_54), (0, .ref 151)]) d_Mo_tested_54 rfl (by decide) rfl ?_
  refine aw_iload_n d_Mo_tested_55 0 rfl ?_
  refine aw_if_eq (tgt := 12) d_Mo_tested_56 rfl (fun q56 => ?_) (fun q56 => ?_)
  · refine aw_sub (lo' := [(0, .ref 151), (1, .int s0_54)]) [1, 0] rfl ?_
    exact hkr12 _ _
  · refine aw_aload_n d_Mo_tested_59 1 rfl ?_
    refine aw_ldc2 (v := (6385252 : Int64)) d_Mo_tested_60 kc_Mo_195 ?_
    refine aw_V_m (As := [.long (6385252 : Int64)]) (m_Mo_isWord) cv_Mo_100 kd_151 rfl rfl rfl (Nat.le_of_ble_eq_true rfl) ⟨Nat.le_of_ble_eq_true rfl, Nat.le_of_ble_eq_true rfl⟩ ⟨Nat.le_refl _, Nat.le_refl _⟩ d_Mo_tested_63 (fun y63 => ?_)
    refine aw_bI (fun v63 => ?_)
    refine aw_bD (fun δ_63 => ?_)
    refine aw_if_eq (tgt := 74) d_Mo_tested_66 rfl (fun q66 => ?_) (fun q66 => ?_)
    · refine aw_bipush d_Mo_tested_74 kb_13 ?_
      refine aw_sub (lo' := [(0, .ref 151), (1, .int s0_54)]) [1, 0] rfl ?_
      exact tj_Mo_tested_76 _ _ _ _ _ hkr12 hkx12_112
    · refine aw_bipush d_Mo_tested_69 kb_12 ?_
      refine aw_goto (tgt := 76) d_Mo_tested_71 rfl ?_
      refine aw_sub (lo' := [(0, .ref 151), (1, .int s0_54)]) [1, 0] rfl ?_
      exact tj_Mo_tested_76 _ _ _ _ _ hkr12 hkx12_112
def jp_Mo_tested_49 (kr12 : Int32 → Dm → Option (Int32 × Dm)) (kx12_112 : Int32 → Dm → Option (Int32 × Dm)) (v1_12 : Int32) (δ49 : Dm) : Option (Int32 × Dm) := (jp_Mo_tested_54 kr12 kx12_112 v1_12 (1 : Int32) δ49)
set_option maxHeartbeats 4000000 in
set_option maxRecDepth 100000 in
theorem tj_Mo_tested_49 {n : Nat} (kr12 : Int32 → Dm → Option (Int32 × Dm)) (kx12_112 : Int32 → Dm → Option (Int32 × Dm)) (v1_12 : Int32) (δ49 : Dm) (hkr12 : ∀ v1_12k δ12k, AWo k_Mo_tested 9 0 0 12 [(0, .ref 151), (1, .int v1_12k)] [] δ12k RT n 0 0 (Km RT n) (kr12 v1_12k δ12k)) (hkx12_112 : ∀ v1_12k δ12k, AWo k_Mo_tested 9 0 0 112 [(0, .ref 151), (1, .int v1_12k)] [] δ12k RT n 0 0 (Km RT n) (kx12_112 v1_12k δ12k)) : AWo k_Mo_tested 9 0 0 49 [(0, .ref 151), (1, .int v1_12)] [] δ49 RT n 0 0 (Km RT n) (jp_Mo_tested_49 kr12 kx12_112 v1_12 δ49) := by
  unfold jp_Mo_tested_49
  refine aw_iconst d_Mo_tested_49 ki_1 ?_
  refine aw_goto (tgt := 54) d_Mo_tested_50 rfl ?_
  refine aw_sub (lo' := [(0, .ref 151), (1, .int v1_12)]) [0, 1] rfl ?_
  exact tj_Mo_tested_54 _ _ _ _ _ hkr12 hkx12_112
def lp_Mo_tested_12 (kx12_112 : Int32 → Dm → Option (Int32 × Dm)) : Nat → Int32 → Dm → Option (Int32 × Dm)
  | 0, _, _ => none
  | f + 1, v1_12, δ12 => (if v1_12 = 0 then (kx12_112 v1_12 δ12) else ((f_Mo_fact δ12).bind (fun y17 => bnd y17.1 (fun v17 => bnd y17.2 (fun δ_17 => (if v17 = 0 then (some ((0 : Int32), δ_17)) else ((f_Mo_closes δ_17).bind (fun y26 => ((f_Mo_isWord (6385252 : Int64) y26).bind (fun y33 => bnd y33.1 (fun v33 => bnd y33.2 (fun δ_33 => (if v33 = 0 then ((f_Mo_isWord (28530 : Int64) δ_33).bind (fun y43 => bnd y43.1 (fun v43 => bnd y43.2 (fun δ_43 => (if v43 = 0 then (jp_Mo_tested_54 (lp_Mo_tested_12 kx12_112 f) kx12_112 v1_12 (0 : Int32) δ_43) else (jp_Mo_tested_49 (lp_Mo_tested_12 kx12_112 f) kx12_112 v1_12 δ_43)))))) else (jp_Mo_tested_49 (lp_Mo_tested_12 kx12_112 f) kx12_112 v1_12 δ_33))))))))))))))
set_option maxHeartbeats 4000000 in
set_option maxRecDepth 100000 in
theorem tl_Mo_tested_12 {n : Nat} (kx12_112 : Int32 → Dm → Option (Int32 × Dm)) (hkx12_112 : ∀ v1_12k δ12k, AWo k_Mo_tested 9 0 0 112 [(0, .ref 151), (1, .int v1_12k)] [] δ12k RT n 0 0 (Km RT n) (kx12_112 v1_12k δ12k)) : ∀ (f : Nat) (v1_12 : Int32) (δ12 : Dm), AWo k_Mo_tested 9 0 0 12 [(0, .ref 151), (1, .int v1_12)] [] δ12 RT n 0 0 (Km RT n) (lp_Mo_tested_12 kx12_112 f v1_12 δ12) := by
  intro f
  induction f with
  | zero => intro _ _; exact aw_none
  | succ f ih =>
    intro v1_12 δ12
    rw [lp_Mo_tested_12]
    refine aw_iload_n d_Mo_tested_12 1 rfl ?_
    refine aw_if_eq (tgt := 112) d_Mo_tested_13 rfl (fun q13 => ?_) (fun q13 => ?_)
    · refine aw_sub (lo' := [(0, .ref 151), (1, .int v1_12)]) [0, 1] rfl ?_
      exact hkx12_112 _ _
    · refine aw_aload_n d_Mo_tested_16 0 rfl ?_
      refine aw_V_m (As := []) (m_Mo_fact) cv_Mo_189 kd_151 rfl rfl rfl (Nat.le_of_ble_eq_true rfl) ⟨Nat.le_of_ble_eq_true rfl, Nat.le_of_ble_eq_true rfl⟩ ⟨Nat.le_refl _, Nat.le_refl _⟩ d_Mo_tested_17 (fun y17 => ?_)
      refine aw_bI (fun v17 => ?_)
      refine aw_bD (fun δ_17 => ?_)
      refine aw_if_ne (tgt := 25) d_Mo_tested_20 rfl (fun q20 => ?_) (fun q20 => ?_)
      · refine aw_iconst d_Mo_tested_23 ki_0 ?_
        exact aw_zret rfl rfl rfl ⟨Nat.le_refl _, Nat.le_refl _⟩ d_Mo_tested_24
      · refine aw_aload_n d_Mo_tested_25 0 rfl ?_
        refine aw_V_v (As := []) (m_Mo_closes) cv_Mo_192 kd_151 rfl rfl rfl (Nat.le_of_ble_eq_true rfl) ⟨Nat.le_of_ble_eq_true rfl, Nat.le_of_ble_eq_true rfl⟩ ⟨Nat.le_refl _, Nat.le_refl _⟩ d_Mo_tested_26 (fun y26 => ?_)
        refine aw_aload_n d_Mo_tested_29 0 rfl ?_
        refine aw_ldc2 (v := (6385252 : Int64)) d_Mo_tested_30 kc_Mo_195 ?_
        refine aw_V_m (As := [.long (6385252 : Int64)]) (m_Mo_isWord) cv_Mo_100 kd_151 rfl rfl rfl (Nat.le_of_ble_eq_true rfl) ⟨Nat.le_of_ble_eq_true rfl, Nat.le_of_ble_eq_true rfl⟩ ⟨Nat.le_refl _, Nat.le_refl _⟩ d_Mo_tested_33 (fun y33 => ?_)
        refine aw_bI (fun v33 => ?_)
        refine aw_bD (fun δ_33 => ?_)
        refine aw_if_ne (tgt := 49) d_Mo_tested_36 rfl (fun q36 => ?_) (fun q36 => ?_)
        · refine aw_aload_n d_Mo_tested_39 0 rfl ?_
          refine aw_ldc2 (v := (28530 : Int64)) d_Mo_tested_40 kc_Mo_197 ?_
          refine aw_V_m (As := [.long (28530 : Int64)]) (m_Mo_isWord) cv_Mo_100 kd_151 rfl rfl rfl (Nat.le_of_ble_eq_true rfl) ⟨Nat.le_of_ble_eq_true rfl, Nat.le_of_ble_eq_true rfl⟩ ⟨Nat.le_refl _, Nat.le_refl _⟩ d_Mo_tested_43 (fun y43 => ?_)
          refine aw_bI (fun v43 => ?_)
          refine aw_bD (fun δ_43 => ?_)
          refine aw_if_eq (tgt := 53) d_Mo_tested_46 rfl (fun q46 => ?_) (fun q46 => ?_)
          · refine aw_iconst d_Mo_tested_53 ki_0 ?_
            refine aw_sub (lo' := [(0, .ref 151), (1, .int v1_12)]) [0, 1] rfl ?_
            exact tj_Mo_tested_54 _ _ _ _ _ ih hkx12_112
          · refine aw_sub (lo' := [(0, .ref 151), (1, .int v1_12)]) [0, 1] rfl ?_
            exact tj_Mo_tested_49 _ _ _ _ ih hkx12_112
        · refine aw_sub (lo' := [(0, .ref 151), (1, .int v1_12)]) [0, 1] rfl ?_
          exact tj_Mo_tested_49 _ _ _ _ ih hkx12_112
def f_Mo_tested (δ : Dm) : Option (Int32 × Dm) := (bnd (sI δ 151 17 (0 : Int32)) (fun δ_2 => (bnd (sI δ_2 151 14 (0 : Int32)) (fun δ_7 => (lp_Mo_tested_12 (fun v1_12x δ12x => ((f_Mo_isInside δ12x).bind (fun y113 => (if y113 = 0 then ((f_Mo_settles (1 : Int32) δ12x).bind (fun y136 => (some ((1 : Int32), y136)))) else ((f_Mo_see δ12x).bind (fun y120 => bnd y120.1 (fun v120 => bnd y120.2 (fun δ_120 => ((f_Mo_fails (0 : Int32) (gI δ_120 151 9) δ_120).bind (fun y130 => bnd y130.1 (fun v130 => bnd y130.2 (fun δ_130 => (if v130 = 0 ∨ v130 = 1 then (some (v130, δ_130)) else none))))))))))))) FU (1 : Int32) δ_7)))))
set_option maxHeartbeats 4000000 in
set_option maxRecDepth 100000 in
theorem m_Mo_tested {δ : Dm} {n : Nat} : ∀ x, f_Mo_tested δ = some x → AMet k_Mo_tested 9 0 0 [.ref 151] δ RT n (Km RT n x) := by
  refine aw_start (lo := [(0, .ref 151)]) mok_Mo_tested rfl (Nat.le_of_ble_eq_true rfl) ?_
  unfold f_Mo_tested
  refine aw_aload_n d_Mo_tested_0 0 rfl ?_
  refine aw_iconst d_Mo_tested_1 ki_0 ?_
  refine aw_putI pf_Mo_144 kd_151 d_Mo_tested_2 ?_
  refine aw_bD (fun δ_2 => ?_)
  refine aw_aload_n d_Mo_tested_5 0 rfl ?_
  refine aw_iconst d_Mo_tested_6 ki_0 ?_
  refine aw_putI pf_Mo_141 kd_151 d_Mo_tested_7 ?_
  refine aw_bD (fun δ_7 => ?_)
  refine aw_iconst d_Mo_tested_10 ki_1 ?_
  refine aw_istore_n (lo' := [(1, .int (1 : Int32)), (0, .ref 151)]) d_Mo_tested_11 rfl (by decide) rfl ?_
  refine aw_sub (lo' := [(0, .ref 151), (1, .int (1 : Int32))]) [1, 0] rfl ?_
  refine tl_Mo_tested_12 _ (fun v1_12x δ12x => ?_) FU _ _
  · refine aw_aload_n d_Mo_tested_112 0 rfl ?_
    refine aw_V_p (As := []) (m_Mo_isInside) cv_Mo_186 kd_151 rfl rfl rfl (Nat.le_of_ble_eq_true rfl) ⟨Nat.le_of_ble_eq_true rfl, Nat.le_of_ble_eq_true rfl⟩ ⟨Nat.le_refl _, Nat.le_refl _⟩ d_Mo_tested_113 (fun y113 => ?_)
    refine aw_if_eq (tgt := 134) d_Mo_tested_116 rfl (fun q116 => ?_) (fun q116 => ?_)
    · refine aw_aload_n d_Mo_tested_134 0 rfl ?_
      refine aw_iconst d_Mo_tested_135 ki_1 ?_
      refine aw_V_v (As := [.int (1 : Int32)]) (m_Mo_settles) cv_Mo_183 kd_151 rfl rfl rfl (Nat.le_of_ble_eq_true rfl) ⟨Nat.le_of_ble_eq_true rfl, Nat.le_of_ble_eq_true rfl⟩ ⟨Nat.le_refl _, Nat.le_refl _⟩ d_Mo_tested_136 (fun y136 => ?_)
      refine aw_iconst d_Mo_tested_139 ki_1 ?_
      exact aw_zret rfl rfl rfl ⟨Nat.le_refl _, Nat.le_refl _⟩ d_Mo_tested_140
    · refine aw_aload_n d_Mo_tested_119 0 rfl ?_
      refine aw_V_m (As := []) (m_Mo_see) cv_Mo_93 kd_151 rfl rfl rfl (Nat.le_of_ble_eq_true rfl) ⟨Nat.le_of_ble_eq_true rfl, Nat.le_of_ble_eq_true rfl⟩ ⟨Nat.le_refl _, Nat.le_refl _⟩ d_Mo_tested_120 (fun y120 => ?_)
      refine aw_bI (fun v120 => ?_)
      refine aw_bD (fun δ_120 => ?_)
      refine aw_pop d_Mo_tested_123 rfl ?_
      refine aw_aload_n d_Mo_tested_124 0 rfl ?_
      refine aw_iconst d_Mo_tested_125 ki_0 ?_
      refine aw_aload_n d_Mo_tested_126 0 rfl ?_
      refine aw_getI fl_Mo_90 kd_151 d_Mo_tested_127 ?_
      refine aw_V_m (As := [.int (0 : Int32), .int (gI δ_120 151 9)]) (m_Mo_fails) cv_Mo_110 kd_151 rfl rfl rfl (Nat.le_of_ble_eq_true rfl) ⟨Nat.le_of_ble_eq_true rfl, Nat.le_of_ble_eq_true rfl⟩ ⟨Nat.le_refl _, Nat.le_refl _⟩ d_Mo_tested_130 (fun y130 => ?_)
      refine aw_bI (fun v130 => ?_)
      refine aw_bD (fun δ_130 => ?_)
      exact aw_zr2 rfl rfl ⟨Nat.le_refl _, Nat.le_refl _⟩ d_Mo_tested_133
def jp_Mo_clauseOf_123 (a1 : Int32) (a2 : Int32) (v19 : Int32) (δ123 : Dm) : Option (Int32 × Dm) := (if inb (gI δ123 151 12) 8 then (if inb (v19 + (4 : Int32)) 560 then bnd (sI δ123 156 (ix (v19 + (4 : Int32))) (gI δ123 155 (ix (gI δ123 151 12)))) (fun δ_139 => (if inb (gI δ_139 151 12) 8 then (if inb (gI δ_139 151 12) 8 then bnd (sI δ_139 157 (ix (gI δ_139 151 12)) ((gI δ_139 157 (ix (gI δ_139 151 12))) + (1 : Int32))) (fun δ_152 => (some ((1 : Int32), δ_152))) else none) else none)) else none) else none)
set_option maxHeartbeats 4000000 in
set_option maxRecDepth 100000 in
theorem tj_Mo_clauseOf_123 {n : Nat} (a1 : Int32) (a2 : Int32) (v19 : Int32) (δ123 : Dm) : AWo k_Mo_clauseOf 10 0 0 123 [(0, .ref 151), (1, .int a1), (2, .int a2), (3, .int v19)] [] δ123 RT n 0 0 (Km RT n) (jp_Mo_clauseOf_123 a1 a2 v19 δ123) := by
  unfold jp_Mo_clauseOf_123
  refine aw_aload_n d_Mo_clauseOf_123 0 rfl ?_
  refine aw_getR (t := 156) fl_Mo_23 kd_151 rt_151_6 d_Mo_clauseOf_124 ?_
  refine aw_iload_n d_Mo_clauseOf_127 3 rfl ?_
  refine aw_iconst d_Mo_clauseOf_128 ki_4 ?_
  refine aw_iadd d_Mo_clauseOf_129 ?_
  refine aw_aload_n d_Mo_clauseOf_130 0 rfl ?_
  refine aw_getR (t := 155) fl_Mo_20 kd_151 rt_151_5 d_Mo_clauseOf_131 ?_
  refine aw_aload_n d_Mo_clauseOf_134 0 rfl ?_
  refine aw_getI fl_Mo_135 kd_151 d_Mo_clauseOf_135 ?_
  refine aw_iald kd_155 d_Mo_clauseOf_138 ?_
  refine aw_iast kd_156 d_Mo_clauseOf_139 ?_
  refine aw_bD (fun δ_139 => ?_)
  refine aw_aload_n d_Mo_clauseOf_140 0 rfl ?_
  refine aw_getR (t := 157) fl_Mo_26 kd_151 rt_151_7 d_Mo_clauseOf_141 ?_
  refine aw_aload_n d_Mo_clauseOf_144 0 rfl ?_
  refine aw_getI fl_Mo_135 kd_151 d_Mo_clauseOf_145 ?_
  refine aw_dup2 d_Mo_clauseOf_148 rfl rfl ?_
  refine aw_iald kd_157 d_Mo_clauseOf_149 ?_
  refine aw_iconst d_Mo_clauseOf_150 ki_1 ?_
  refine aw_iadd d_Mo_clauseOf_151 ?_
  refine aw_iast kd_157 d_Mo_clauseOf_152 ?_
  refine aw_bD (fun δ_152 => ?_)
  refine aw_iconst d_Mo_clauseOf_153 ki_1 ?_
  exact aw_zret rfl rfl rfl ⟨Nat.le_refl _, Nat.le_refl _⟩ d_Mo_clauseOf_154
def jp_Mo_clauseOf_97 (a1 : Int32) (a2 : Int32) (v19 : Int32) (δ97 : Dm) : Option (Int32 × Dm) := (if inb (gI δ97 151 12) 8 then (if inb (v19 + (3 : Int32)) 560 then bnd (sI δ97 156 (ix (v19 + (3 : Int32))) (gI δ97 155 (ix (gI δ97 151 12)))) (fun δ_113 => ((f_Mo_tested δ_113).bind (fun y115 => bnd y115.1 (fun v115 => bnd y115.2 (fun δ_115 => (if v115 = 0 then (some ((0 : Int32), δ_115)) else (jp_Mo_clauseOf_123 a1 a2 v19 δ_115))))))) else none) else none)
set_option maxHeartbeats 4000000 in
set_option maxRecDepth 100000 in
theorem tj_Mo_clauseOf_97 {n : Nat} (a1 : Int32) (a2 : Int32) (v19 : Int32) (δ97 : Dm) : AWo k_Mo_clauseOf 10 0 0 97 [(0, .ref 151), (1, .int a1), (2, .int a2), (3, .int v19)] [] δ97 RT n 0 0 (Km RT n) (jp_Mo_clauseOf_97 a1 a2 v19 δ97) := by
  unfold jp_Mo_clauseOf_97
  refine aw_aload_n d_Mo_clauseOf_97 0 rfl ?_
  refine aw_getR (t := 156) fl_Mo_23 kd_151 rt_151_6 d_Mo_clauseOf_98 ?_
  refine aw_iload_n d_Mo_clauseOf_101 3 rfl ?_
  refine aw_iconst d_Mo_clauseOf_102 ki_3 ?_
  refine aw_iadd d_Mo_clauseOf_103 ?_
  refine aw_aload_n d_Mo_clauseOf_104 0 rfl ?_
  refine aw_getR (t := 155) fl_Mo_20 kd_151 rt_151_5 d_Mo_clauseOf_105 ?_
  refine aw_aload_n d_Mo_clauseOf_108 0 rfl ?_
  refine aw_getI fl_Mo_135 kd_151 d_Mo_clauseOf_109 ?_
  refine aw_iald kd_155 d_Mo_clauseOf_112 ?_
  refine aw_iast kd_156 d_Mo_clauseOf_113 ?_
  refine aw_bD (fun δ_113 => ?_)
  refine aw_aload_n d_Mo_clauseOf_114 0 rfl ?_
  refine aw_V_m (As := []) (m_Mo_tested) cv_Mo_204 kd_151 rfl rfl rfl (Nat.le_of_ble_eq_true rfl) ⟨Nat.le_of_ble_eq_true rfl, Nat.le_of_ble_eq_true rfl⟩ ⟨Nat.le_refl _, Nat.le_refl _⟩ d_Mo_clauseOf_115 (fun y115 => ?_)
  refine aw_bI (fun v115 => ?_)
  refine aw_bD (fun δ_115 => ?_)
  refine aw_if_ne (tgt := 123) d_Mo_clauseOf_118 rfl (fun q118 => ?_) (fun q118 => ?_)
  · refine aw_iconst d_Mo_clauseOf_121 ki_0 ?_
    exact aw_zret rfl rfl rfl ⟨Nat.le_refl _, Nat.le_refl _⟩ d_Mo_clauseOf_122
  · refine aw_sub (lo' := [(0, .ref 151), (1, .int a1), (2, .int a2), (3, .int v19)]) [0, 1, 2, 3] rfl ?_
    exact tj_Mo_clauseOf_123 _ _ _ _
def jp_Mo_clauseOf_57 (a1 : Int32) (a2 : Int32) (v19 : Int32) (δ57 : Dm) : Option (Int32 × Dm) := (if inb (gI δ57 151 12) 8 then (if inb (v19 + (2 : Int32)) 560 then bnd (sI δ57 156 (ix (v19 + (2 : Int32))) (gI δ57 155 (ix (gI δ57 151 12)))) (fun δ_73 => (if inb (v19 + (3 : Int32)) 560 then bnd (sI δ_73 156 (ix (v19 + (3 : Int32))) (-1 : Int32)) (fun δ_82 => (if a2 = 0 then (jp_Mo_clauseOf_97 a1 a2 v19 δ_82) else ((f_Mo_takesWord (26982 : Int64) δ_82).bind (fun y91 => bnd y91.1 (fun v91 => bnd y91.2 (fun δ_91 => (if v91 = 0 then (jp_Mo_clauseOf_123 a1 a2 v19 δ_91) else (jp_Mo_clauseOf_97 a1 a2 v19 δ_91)))))))) else none)) else none) else none)
set_option maxHeartbeats 4000000 in
set_option maxRecDepth 100000 in
theorem tj_Mo_clauseOf_57 {n : Nat} (a1 : Int32) (a2 : Int32) (v19 : Int32) (δ57 : Dm) : AWo k_Mo_clauseOf 10 0 0 57 [(0, .ref 151), (1, .int a1), (2, .int a2), (3, .int v19)] [] δ57 RT n 0 0 (Km RT n) (jp_Mo_clauseOf_57 a1 a2 v19 δ57) := by
  unfold jp_Mo_clauseOf_57
  refine aw_aload_n d_Mo_clauseOf_57 0 rfl ?_
  refine aw_getR (t := 156) fl_Mo_23 kd_151 rt_151_6 d_Mo_clauseOf_58 ?_
  refine aw_iload_n d_Mo_clauseOf_61 3 rfl ?_
  refine aw_iconst d_Mo_clauseOf_62 ki_2 ?_
  refine aw_iadd d_Mo_clauseOf_63 ?_
  refine aw_aload_n d_Mo_clauseOf_64 0 rfl ?_
  refine aw_getR (t := 155) fl_Mo_20 kd_151 rt_151_5 d_Mo_clauseOf_65 ?_
  refine aw_aload_n d_Mo_clauseOf_68 0 rfl ?_
  refine aw_getI fl_Mo_135 kd_151 d_Mo_clauseOf_69 ?_
  refine aw_iald kd_155 d_Mo_clauseOf_72 ?_
  refine aw_iast kd_156 d_Mo_clauseOf_73 ?_
  refine aw_bD (fun δ_73 => ?_)
  refine aw_aload_n d_Mo_clauseOf_74 0 rfl ?_
  refine aw_getR (t := 156) fl_Mo_23 kd_151 rt_151_6 d_Mo_clauseOf_75 ?_
  refine aw_iload_n d_Mo_clauseOf_78 3 rfl ?_
  refine aw_iconst d_Mo_clauseOf_79 ki_3 ?_
  refine aw_iadd d_Mo_clauseOf_80 ?_
  refine aw_iconst d_Mo_clauseOf_81 ki_m1 ?_
  refine aw_iast kd_156 d_Mo_clauseOf_82 ?_
  refine aw_bD (fun δ_82 => ?_)
  refine aw_iload_n d_Mo_clauseOf_83 2 rfl ?_
  refine aw_if_eq (tgt := 97) d_Mo_clauseOf_84 rfl (fun q84 => ?_) (fun q84 => ?_)
  · refine aw_sub (lo' := [(0, .ref 151), (1, .int a1), (2, .int a2), (3, .int v19)]) [0, 1, 2, 3] rfl ?_
    exact tj_Mo_clauseOf_97 _ _ _ _
  · refine aw_aload_n d_Mo_clauseOf_87 0 rfl ?_
    refine aw_ldc2 (v := (26982 : Int64)) d_Mo_clauseOf_88 kc_Mo_199 ?_
    refine aw_V_m (As := [.long (26982 : Int64)]) (m_Mo_takesWord) cv_Mo_201 kd_151 rfl rfl rfl (Nat.le_of_ble_eq_true rfl) ⟨Nat.le_of_ble_eq_true rfl, Nat.le_of_ble_eq_true rfl⟩ ⟨Nat.le_refl _, Nat.le_refl _⟩ d_Mo_clauseOf_91 (fun y91 => ?_)
    refine aw_bI (fun v91 => ?_)
    refine aw_bD (fun δ_91 => ?_)
    refine aw_if_eq (tgt := 123) d_Mo_clauseOf_94 rfl (fun q94 => ?_) (fun q94 => ?_)
    · refine aw_sub (lo' := [(0, .ref 151), (1, .int a1), (2, .int a2), (3, .int v19)]) [0, 1, 2, 3] rfl ?_
      exact tj_Mo_clauseOf_123 _ _ _ _
    · refine aw_sub (lo' := [(0, .ref 151), (1, .int a1), (2, .int a2), (3, .int v19)]) [0, 1, 2, 3] rfl ?_
      exact tj_Mo_clauseOf_97 _ _ _ _
def f_Mo_clauseOf (a1 : Int32) (a2 : Int32) (δ : Dm) : Option (Int32 × Dm) := (if inb (gI δ 151 12) 8 then (bnd (((70 : Int32) * (gI δ 151 12)) + ((5 : Int32) * (gI δ 157 (ix (gI δ 151 12))))) (fun v19 => (if inb v19 560 then bnd (sI δ 156 (ix v19) a1) (fun δ_26 => (if inb (gI δ_26 151 12) 8 then (if inb (v19 + (1 : Int32)) 560 then bnd (sI δ_26 156 (ix (v19 + (1 : Int32))) (gI δ_26 155 (ix (gI δ_26 151 12)))) (fun δ_43 => (if a2 = 0 then (jp_Mo_clauseOf_57 a1 a2 v19 δ_43) else ((f_Mo_sum δ_43).bind (fun y49 => bnd y49.1 (fun v49 => bnd y49.2 (fun δ_49 => (if v49 = 0 then (some ((0 : Int32), δ_49)) else (jp_Mo_clauseOf_57 a1 a2 v19 δ_49)))))))) else none) else none)) else none))) else none)
set_option maxHeartbeats 4000000 in
set_option maxRecDepth 100000 in
theorem m_Mo_clauseOf {a1 : Int32} {a2 : Int32} {δ : Dm} {n : Nat} : ∀ x, f_Mo_clauseOf a1 a2 δ = some x → AMet k_Mo_clauseOf 10 0 0 [.ref 151, .int a1, .int a2] δ RT n (Km RT n x) := by
  refine aw_start (lo := [(0, .ref 151), (1, .int a1), (2, .int a2)]) mok_Mo_clauseOf rfl (Nat.le_of_ble_eq_true rfl) ?_
  unfold f_Mo_clauseOf
  refine aw_bipush d_Mo_clauseOf_0 kb_70 ?_
  refine aw_aload_n d_Mo_clauseOf_2 0 rfl ?_
  refine aw_getI fl_Mo_135 kd_151 d_Mo_clauseOf_3 ?_
  refine aw_imul d_Mo_clauseOf_6 ?_
  refine aw_iconst d_Mo_clauseOf_7 ki_5 ?_
  refine aw_aload_n d_Mo_clauseOf_8 0 rfl ?_
  refine aw_getR (t := 157) fl_Mo_26 kd_151 rt_151_7 d_Mo_clauseOf_9 ?_
  refine aw_aload_n d_Mo_clauseOf_12 0 rfl ?_
  refine aw_getI fl_Mo_135 kd_151 d_Mo_clauseOf_13 ?_
  refine aw_iald kd_157 d_Mo_clauseOf_16 ?_
  refine aw_imul d_Mo_clauseOf_17 ?_
  refine aw_iadd d_Mo_clauseOf_18 ?_
  refine aw_bI (fun v19 => ?_)
  refine aw_istore_n (lo' := [(3, .int v19), (0, .ref 151), (1, .int a1), (2, .int a2)]) d_Mo_clauseOf_19 rfl (by decide) rfl ?_
  refine aw_aload_n d_Mo_clauseOf_20 1 rfl ?_
  refine aw_getR (t := 156) fl_Mo_23 kd_151 rt_151_6 d_Mo_clauseOf_21 ?_
  refine aw_iload_n d_Mo_clauseOf_24 0 rfl ?_
  refine aw_iload_n d_Mo_clauseOf_25 2 rfl ?_
  refine aw_iast kd_156 d_Mo_clauseOf_26 ?_
  refine aw_bD (fun δ_26 => ?_)
  refine aw_aload_n d_Mo_clauseOf_27 1 rfl ?_
  refine aw_getR (t := 156) fl_Mo_23 kd_151 rt_151_6 d_Mo_clauseOf_28 ?_
  refine aw_iload_n d_Mo_clauseOf_31 0 rfl ?_
  refine aw_iconst d_Mo_clauseOf_32 ki_1 ?_
  refine aw_iadd d_Mo_clauseOf_33 ?_
  refine aw_aload_n d_Mo_clauseOf_34 1 rfl ?_
  refine aw_getR (t := 155) fl_Mo_20 kd_151 rt_151_5 d_Mo_clauseOf_35 ?_
  refine aw_aload_n d_Mo_clauseOf_38 1 rfl ?_
  refine aw_getI fl_Mo_135 kd_151 d_Mo_clauseOf_39 ?_
  refine aw_iald kd_155 d_Mo_clauseOf_42 ?_
  refine aw_iast kd_156 d_Mo_clauseOf_43 ?_
  refine aw_bD (fun δ_43 => ?_)
  refine aw_iload_n d_Mo_clauseOf_44 3 rfl ?_
  refine aw_if_eq (tgt := 57) d_Mo_clauseOf_45 rfl (fun q45 => ?_) (fun q45 => ?_)
  · refine aw_sub (lo' := [(0, .ref 151), (1, .int a1), (2, .int a2), (3, .int v19)]) [1, 2, 3, 0] rfl ?_
    exact tj_Mo_clauseOf_57 _ _ _ _
  · refine aw_aload_n d_Mo_clauseOf_48 1 rfl ?_
    refine aw_V_m (As := []) (m_Mo_sum) cv_Mo_172 kd_151 rfl rfl rfl (Nat.le_of_ble_eq_true rfl) ⟨Nat.le_of_ble_eq_true rfl, Nat.le_of_ble_eq_true rfl⟩ ⟨Nat.le_refl _, Nat.le_refl _⟩ d_Mo_clauseOf_49 (fun y49 => ?_)
    refine aw_bI (fun v49 => ?_)
    refine aw_bD (fun δ_49 => ?_)
    refine aw_if_ne (tgt := 57) d_Mo_clauseOf_52 rfl (fun q52 => ?_) (fun q52 => ?_)
    · refine aw_iconst d_Mo_clauseOf_55 ki_0 ?_
      exact aw_zret rfl rfl rfl ⟨Nat.le_refl _, Nat.le_refl _⟩ d_Mo_clauseOf_56
    · refine aw_sub (lo' := [(0, .ref 151), (1, .int a1), (2, .int a2), (3, .int v19)]) [1, 2, 3, 0] rfl ?_
      exact tj_Mo_clauseOf_57 _ _ _ _
def jp_Mo_clauseHere_300 (v9 : Int32) (s0_95 : Int32) (s0_282 : Int32) (y284 : Dm) (s0_300 : Int32) : Option (Int32 × Dm) := ((f_Mo_clauseOf s0_282 s0_300 y284).bind (fun y300 => bnd y300.1 (fun v300 => bnd y300.2 (fun δ_300 => (if v300 = 0 ∨ v300 = 1 then (some (v300, δ_300)) else none)))))
set_option maxHeartbeats 4000000 in
set_option maxRecDepth 100000 in
theorem tj_Mo_clauseHere_300 {n : Nat} (v9 : Int32) (s0_95 : Int32) (s0_282 : Int32) (y284 : Dm) (s0_300 : Int32) : AWo k_Mo_clauseHere 11 0 0 300 [(0, .ref 151), (1, .int v9), (2, .int s0_95), (3, .int s0_282)] [.int s0_300, .int s0_282, .ref 151] y284 RT n 0 0 (Km RT n) (jp_Mo_clauseHere_300 v9 s0_95 s0_282 y284 s0_300) := by
  unfold jp_Mo_clauseHere_300
  refine aw_V_m (As := [.int s0_282, .int s0_300]) (m_Mo_clauseOf) cv_Mo_232 kd_151 rfl rfl rfl (Nat.le_of_ble_eq_true rfl) ⟨Nat.le_of_ble_eq_true rfl, Nat.le_of_ble_eq_true rfl⟩ ⟨Nat.le_refl _, Nat.le_refl _⟩ d_Mo_clauseHere_300 (fun y300 => ?_)
  refine aw_bI (fun v300 => ?_)
  refine aw_bD (fun δ_300 => ?_)
  exact aw_zr2 rfl rfl ⟨Nat.le_refl _, Nat.le_refl _⟩ d_Mo_clauseHere_303
def jp_Mo_clauseHere_282 (v9 : Int32) (s0_95 : Int32) (s0_282 : Int32) (δ282 : Dm) : Option (Int32 × Dm) := ((f_Mo_passWord δ282).bind (fun y284 => (if s0_282 = (10 : Int32) then (jp_Mo_clauseHere_300 v9 s0_95 s0_282 y284 (1 : Int32)) else (jp_Mo_clauseHere_300 v9 s0_95 s0_282 y284 (0 : Int32)))))
set_option maxHeartbeats 4000000 in
set_option maxRecDepth 100000 in
theorem tj_Mo_clauseHere_282 {n : Nat} (v9 : Int32) (s0_95 : Int32) (s0_282 : Int32) (δ282 : Dm) : AWo k_Mo_clauseHere 11 0 0 282 [(0, .ref 151), (1, .int v9), (2, .int s0_95)] [.int s0_282] δ282 RT n 0 0 (Km RT n) (jp_Mo_clauseHere_282 v9 s0_95 s0_282 δ282) := by
  unfold jp_Mo_clauseHere_282
  refine aw_istore_n (lo' := [(3, .int s0_282), (0, .ref 151), (1, .int v9), (2, .int s0_95)]) d_Mo_clauseHere_282 rfl (by decide) rfl ?_
  refine aw_aload_n d_Mo_clauseHere_283 1 rfl ?_
  refine aw_V_v (As := []) (m_Mo_passWord) cv_Mo_104 kd_151 rfl rfl rfl (Nat.le_of_ble_eq_true rfl) ⟨Nat.le_of_ble_eq_true rfl, Nat.le_of_ble_eq_true rfl⟩ ⟨Nat.le_refl _, Nat.le_refl _⟩ d_Mo_clauseHere_284 (fun y284 => ?_)
  refine aw_aload_n d_Mo_clauseHere_287 1 rfl ?_
  refine aw_iload_n d_Mo_clauseHere_288 0 rfl ?_
  refine aw_iload_n d_Mo_clauseHere_289 0 rfl ?_
  refine aw_bipush d_Mo_clauseHere_290 kb_10 ?_
  refine aw_icmp_ne (tgt := 299) d_Mo_clauseHere_292 rfl (fun q292 => ?_) (fun q292 => ?_)
  · refine aw_iconst d_Mo_clauseHere_295 ki_1 ?_
    refine aw_goto (tgt := 300) d_Mo_clauseHere_296 rfl ?_
    refine aw_sub (lo' := [(0, .ref 151), (1, .int v9), (2, .int s0_95), (3, .int s0_282)]) [1, 2, 3, 0] rfl ?_
    exact tj_Mo_clauseHere_300 _ _ _ _ _
  · refine aw_iconst d_Mo_clauseHere_299 ki_0 ?_
    refine aw_sub (lo' := [(0, .ref 151), (1, .int v9), (2, .int s0_95), (3, .int s0_282)]) [1, 2, 3, 0] rfl ?_
    exact tj_Mo_clauseHere_300 _ _ _ _ _
def jp_Mo_clauseHere_95 (v9 : Int32) (s0_95 : Int32) (δ95 : Dm) : Option (Int32 × Dm) := (if s0_95 = 0 then ((f_Mo_fails (0 : Int32) v9 δ95).bind (fun y103 => bnd y103.1 (fun v103 => bnd y103.2 (fun δ_103 => (if v103 = 0 ∨ v103 = 1 then (some (v103, δ_103)) else none))))) else (if (gI δ95 151 15) = (14 : Int32) then ((f_Mo_fails (4 : Int32) v9 δ95).bind (fun y119 => bnd y119.1 (fun v119 => bnd y119.2 (fun δ_119 => (if v119 = 0 ∨ v119 = 1 then (some (v119, δ_119)) else none))))) else (bnd (sI δ95 151 15 ((gI δ95 151 15) + (1 : Int32))) (fun δ_130 => ((f_Mo_isWord (2003132779 : Int64) δ_130).bind (fun y137 => bnd y137.1 (fun v137 => bnd y137.2 (fun δ_137 => (if v137 = 0 then ((f_Mo_isWord (1953067621 : Int64) δ_137).bind (fun y152 => bnd y152.1 (fun v152 => bnd y152.2 (fun δ_152 => (if v152 = 0 then ((f_Mo_isWord (6383461 : Int64) δ_152).bind (fun y187 => bnd y187.1 (fun v187 => bnd y187.2 (fun δ_187 => (if v187 = 0 then ((f_Mo_isWord (1684107883 : Int64) δ_187).bind (fun y224 => bnd y224.1 (fun v224 => bnd y224.2 (fun δ_224 => (if v224 = 0 then ((f_Mo_isWord (7300710 : Int64) δ_224).bind (fun y239 => bnd y239.1 (fun v239 => bnd y239.2 (fun δ_239 => (if v239 = 0 then ((f_Mo_isWord (125779836236645 : Int64) δ_239).bind (fun y254 => bnd y254.1 (fun v254 => bnd y254.2 (fun δ_254 => (if v254 = 0 then ((f_Mo_isWord (125779836235364 : Int64) δ_254).bind (fun y269 => bnd y269.1 (fun v269 => bnd y269.2 (fun δ_269 => (if v269 = 0 then (jp_Mo_clauseHere_282 v9 s0_95 (10 : Int32) δ_269) else (jp_Mo_clauseHere_282 v9 s0_95 (9 : Int32) δ_269)))))) else (jp_Mo_clauseHere_282 v9 s0_95 (8 : Int32) δ_254)))))) else (jp_Mo_clauseHere_282 v9 s0_95 (7 : Int32) δ_239)))))) else (jp_Mo_clauseHere_282 v9 s0_95 (6 : Int32) δ_224)))))) else ((f_Mo_bathHere δ_187).bind (fun y194 => bnd y194.1 (fun v194 => bnd y194.2 (fun δ_194 => (if v194 = 0 then (some ((0 : Int32), δ_194)) else ((f_Mo_clauseOf ((3 : Int32) + (gI δ_194 151 11)) (1 : Int32) δ_194).bind (fun y208 => bnd y208.1 (fun v208 => bnd y208.2 (fun δ_208 => (if v208 = 0 then (some ((0 : Int32), δ_208)) else (some ((1 : Int32), δ_208))))))))))))))))) else ((f_Mo_bathHere δ_152).bind (fun y159 => bnd y159.1 (fun v159 => bnd y159.2 (fun δ_159 => (if v159 = 0 then (some ((0 : Int32), δ_159)) else ((f_Mo_clauseOf (gI δ_159 151 11) (1 : Int32) δ_159).bind (fun y171 => bnd y171.1 (fun v171 => bnd y171.2 (fun δ_171 => (if v171 = 0 then (some ((0 : Int32), δ_171)) else (some ((1 : Int32), δ_171))))))))))))))))) else ((f_Mo_weakHere δ_137).bind (fun y144 => bnd y144.1 (fun v144 => bnd y144.2 (fun δ_144 => (if v144 = 0 ∨ v144 = 1 then (some (v144, δ_144)) else none))))))))))))))
set_option maxHeartbeats 4000000 in
set_option maxRecDepth 100000 in
theorem tj_Mo_clauseHere_95 {n : Nat} (v9 : Int32) (s0_95 : Int32) (δ95 : Dm) : AWo k_Mo_clauseHere 11 0 0 95 [(0, .ref 151), (1, .int v9)] [.int s0_95] δ95 RT n 0 0 (Km RT n) (jp_Mo_clauseHere_95 v9 s0_95 δ95) := by
  unfold jp_Mo_clauseHere_95
  refine aw_istore_n (lo' := [(2, .int s0_95), (0, .ref 151), (1, .int v9)]) d_Mo_clauseHere_95 rfl (by decide) rfl ?_
  refine aw_iload_n d_Mo_clauseHere_96 0 rfl ?_
  refine aw_if_ne (tgt := 107) d_Mo_clauseHere_97 rfl (fun q97 => ?_) (fun q97 => ?_)
  · refine aw_aload_n d_Mo_clauseHere_100 1 rfl ?_
    refine aw_iconst d_Mo_clauseHere_101 ki_0 ?_
    refine aw_iload_n d_Mo_clauseHere_102 2 rfl ?_
    refine aw_V_m (As := [.int (0 : Int32), .int v9]) (m_Mo_fails) cv_Mo_110 kd_151 rfl rfl rfl (Nat.le_of_ble_eq_true rfl) ⟨Nat.le_of_ble_eq_true rfl, Nat.le_of_ble_eq_true rfl⟩ ⟨Nat.le_refl _, Nat.le_refl _⟩ d_Mo_clauseHere_103 (fun y103 => ?_)
    refine aw_bI (fun v103 => ?_)
    refine aw_bD (fun δ_103 => ?_)
    exact aw_zr2 rfl rfl ⟨Nat.le_refl _, Nat.le_refl _⟩ d_Mo_clauseHere_106
  · refine aw_aload_n d_Mo_clauseHere_107 1 rfl ?_
    refine aw_getI fl_Mo_223 kd_151 d_Mo_clauseHere_108 ?_
    refine aw_bipush d_Mo_clauseHere_111 kb_14 ?_
    refine aw_icmp_ne (tgt := 123) d_Mo_clauseHere_113 rfl (fun q113 => ?_) (fun q113 => ?_)
    · refine aw_aload_n d_Mo_clauseHere_116 1 rfl ?_
      refine aw_iconst d_Mo_clauseHere_117 ki_4 ?_
      refine aw_iload_n d_Mo_clauseHere_118 2 rfl ?_
      refine aw_V_m (As := [.int (4 : Int32), .int v9]) (m_Mo_fails) cv_Mo_110 kd_151 rfl rfl rfl (Nat.le_of_ble_eq_true rfl) ⟨Nat.le_of_ble_eq_true rfl, Nat.le_of_ble_eq_true rfl⟩ ⟨Nat.le_refl _, Nat.le_refl _⟩ d_Mo_clauseHere_119 (fun y119 => ?_)
      refine aw_bI (fun v119 => ?_)
      refine aw_bD (fun δ_119 => ?_)
      exact aw_zr2 rfl rfl ⟨Nat.le_refl _, Nat.le_refl _⟩ d_Mo_clauseHere_122
    · refine aw_aload_n d_Mo_clauseHere_123 1 rfl ?_
      refine aw_dup d_Mo_clauseHere_124 rfl ?_
      refine aw_getI fl_Mo_223 kd_151 d_Mo_clauseHere_125 ?_
      refine aw_iconst d_Mo_clauseHere_128 ki_1 ?_
      refine aw_iadd d_Mo_clauseHere_129 ?_
      refine aw_putI pf_Mo_223 kd_151 d_Mo_clauseHere_130 ?_
      refine aw_bD (fun δ_130 => ?_)
      refine aw_aload_n d_Mo_clauseHere_133 1 rfl ?_
      refine aw_ldc2 (v := (2003132779 : Int64)) d_Mo_clauseHere_134 kc_Mo_211 ?_
      refine aw_V_m (As := [.long (2003132779 : Int64)]) (m_Mo_isWord) cv_Mo_100 kd_151 rfl rfl rfl (Nat.le_of_ble_eq_true rfl) ⟨Nat.le_of_ble_eq_true rfl, Nat.le_of_ble_eq_true rfl⟩ ⟨Nat.le_refl _, Nat.le_refl _⟩ d_Mo_clauseHere_137 (fun y137 => ?_)
      refine aw_bI (fun v137 => ?_)
      refine aw_bD (fun δ_137 => ?_)
      refine aw_if_eq (tgt := 148) d_Mo_clauseHere_140 rfl (fun q140 => ?_) (fun q140 => ?_)
      · refine aw_aload_n d_Mo_clauseHere_148 1 rfl ?_
        refine aw_ldc2 (v := (1953067621 : Int64)) d_Mo_clauseHere_149 kc_Mo_207 ?_
        refine aw_V_m (As := [.long (1953067621 : Int64)]) (m_Mo_isWord) cv_Mo_100 kd_151 rfl rfl rfl (Nat.le_of_ble_eq_true rfl) ⟨Nat.le_of_ble_eq_true rfl, Nat.le_of_ble_eq_true rfl⟩ ⟨Nat.le_refl _, Nat.le_refl _⟩ d_Mo_clauseHere_152 (fun y152 => ?_)
        refine aw_bI (fun v152 => ?_)
        refine aw_bD (fun δ_152 => ?_)
        refine aw_if_eq (tgt := 183) d_Mo_clauseHere_155 rfl (fun q155 => ?_) (fun q155 => ?_)
        · refine aw_aload_n d_Mo_clauseHere_183 1 rfl ?_
          refine aw_ldc2 (v := (6383461 : Int64)) d_Mo_clauseHere_184 kc_Mo_209 ?_
          refine aw_V_m (As := [.long (6383461 : Int64)]) (m_Mo_isWord) cv_Mo_100 kd_151 rfl rfl rfl (Nat.le_of_ble_eq_true rfl) ⟨Nat.le_of_ble_eq_true rfl, Nat.le_of_ble_eq_true rfl⟩ ⟨Nat.le_refl _, Nat.le_refl _⟩ d_Mo_clauseHere_187 (fun y187 => ?_)
          refine aw_bI (fun v187 => ?_)
          refine aw_bD (fun δ_187 => ?_)
          refine aw_if_eq (tgt := 220) d_Mo_clauseHere_190 rfl (fun q190 => ?_) (fun q190 => ?_)
          · refine aw_aload_n d_Mo_clauseHere_220 1 rfl ?_
            refine aw_ldc2 (v := (1684107883 : Int64)) d_Mo_clauseHere_221 kc_Mo_213 ?_
            refine aw_V_m (As := [.long (1684107883 : Int64)]) (m_Mo_isWord) cv_Mo_100 kd_151 rfl rfl rfl (Nat.le_of_ble_eq_true rfl) ⟨Nat.le_of_ble_eq_true rfl, Nat.le_of_ble_eq_true rfl⟩ ⟨Nat.le_refl _, Nat.le_refl _⟩ d_Mo_clauseHere_224 (fun y224 => ?_)
            refine aw_bI (fun v224 => ?_)
            refine aw_bD (fun δ_224 => ?_)
            refine aw_if_eq (tgt := 235) d_Mo_clauseHere_227 rfl (fun q227 => ?_) (fun q227 => ?_)
            · refine aw_aload_n d_Mo_clauseHere_235 1 rfl ?_
              refine aw_ldc2 (v := (7300710 : Int64)) d_Mo_clauseHere_236 kc_Mo_215 ?_
              refine aw_V_m (As := [.long (7300710 : Int64)]) (m_Mo_isWord) cv_Mo_100 kd_151 rfl rfl rfl (Nat.le_of_ble_eq_true rfl) ⟨Nat.le_of_ble_eq_true rfl, Nat.le_of_ble_eq_true rfl⟩ ⟨Nat.le_refl _, Nat.le_refl _⟩ d_Mo_clauseHere_239 (fun y239 => ?_)
              refine aw_bI (fun v239 => ?_)
              refine aw_bD (fun δ_239 => ?_)
              refine aw_if_eq (tgt := 250) d_Mo_clauseHere_242 rfl (fun q242 => ?_) (fun q242 => ?_)
              · refine aw_aload_n d_Mo_clauseHere_250 1 rfl ?_
                refine aw_ldc2 (v := (125779836236645 : Int64)) d_Mo_clauseHere_251 kc_Mo_217 ?_
                refine aw_V_m (As := [.long (125779836236645 : Int64)]) (m_Mo_isWord) cv_Mo_100 kd_151 rfl rfl rfl (Nat.le_of_ble_eq_true rfl) ⟨Nat.le_of_ble_eq_true rfl, Nat.le_of_ble_eq_true rfl⟩ ⟨Nat.le_refl _, Nat.le_refl _⟩ d_Mo_clauseHere_254 (fun y254 => ?_)
                refine aw_bI (fun v254 => ?_)
                refine aw_bD (fun δ_254 => ?_)
                refine aw_if_eq (tgt := 265) d_Mo_clauseHere_257 rfl (fun q257 => ?_) (fun q257 => ?_)
                · refine aw_aload_n d_Mo_clauseHere_265 1 rfl ?_
                  refine aw_ldc2 (v := (125779836235364 : Int64)) d_Mo_clauseHere_266 kc_Mo_219 ?_
                  refine aw_V_m (As := [.long (125779836235364 : Int64)]) (m_Mo_isWord) cv_Mo_100 kd_151 rfl rfl rfl (Nat.le_of_ble_eq_true rfl) ⟨Nat.le_of_ble_eq_true rfl, Nat.le_of_ble_eq_true rfl⟩ ⟨Nat.le_refl _, Nat.le_refl _⟩ d_Mo_clauseHere_269 (fun y269 => ?_)
                  refine aw_bI (fun v269 => ?_)
                  refine aw_bD (fun δ_269 => ?_)
                  refine aw_if_eq (tgt := 280) d_Mo_clauseHere_272 rfl (fun q272 => ?_) (fun q272 => ?_)
                  · refine aw_bipush d_Mo_clauseHere_280 kb_10 ?_
                    refine aw_sub (lo' := [(0, .ref 151), (1, .int v9), (2, .int s0_95)]) [1, 2, 0] rfl ?_
                    exact tj_Mo_clauseHere_282 _ _ _ _
                  · refine aw_bipush d_Mo_clauseHere_275 kb_9 ?_
                    refine aw_goto (tgt := 282) d_Mo_clauseHere_277 rfl ?_
                    refine aw_sub (lo' := [(0, .ref 151), (1, .int v9), (2, .int s0_95)]) [1, 2, 0] rfl ?_
                    exact tj_Mo_clauseHere_282 _ _ _ _
                · refine aw_bipush d_Mo_clauseHere_260 kb_8 ?_
                  refine aw_goto (tgt := 282) d_Mo_clauseHere_262 rfl ?_
                  refine aw_sub (lo' := [(0, .ref 151), (1, .int v9), (2, .int s0_95)]) [1, 2, 0] rfl ?_
                  exact tj_Mo_clauseHere_282 _ _ _ _
              · refine aw_bipush d_Mo_clauseHere_245 kb_7 ?_
                refine aw_goto (tgt := 282) d_Mo_clauseHere_247 rfl ?_
                refine aw_sub (lo' := [(0, .ref 151), (1, .int v9), (2, .int s0_95)]) [1, 2, 0] rfl ?_
                exact tj_Mo_clauseHere_282 _ _ _ _
            · refine aw_bipush d_Mo_clauseHere_230 kb_6 ?_
              refine aw_goto (tgt := 282) d_Mo_clauseHere_232 rfl ?_
              refine aw_sub (lo' := [(0, .ref 151), (1, .int v9), (2, .int s0_95)]) [1, 2, 0] rfl ?_
              exact tj_Mo_clauseHere_282 _ _ _ _
          · refine aw_aload_n d_Mo_clauseHere_193 1 rfl ?_
            refine aw_V_m (As := []) (m_Mo_bathHere) cv_Mo_229 kd_151 rfl rfl rfl (Nat.le_of_ble_eq_true rfl) ⟨Nat.le_of_ble_eq_true rfl, Nat.le_of_ble_eq_true rfl⟩ ⟨Nat.le_refl _, Nat.le_refl _⟩ d_Mo_clauseHere_194 (fun y194 => ?_)
            refine aw_bI (fun v194 => ?_)
            refine aw_bD (fun δ_194 => ?_)
            refine aw_if_eq (tgt := 218) d_Mo_clauseHere_197 rfl (fun q197 => ?_) (fun q197 => ?_)
            · refine aw_iconst d_Mo_clauseHere_218 ki_0 ?_
              exact aw_zret rfl rfl rfl ⟨Nat.le_refl _, Nat.le_refl _⟩ d_Mo_clauseHere_219
            · refine aw_aload_n d_Mo_clauseHere_200 1 rfl ?_
              refine aw_iconst d_Mo_clauseHere_201 ki_3 ?_
              refine aw_aload_n d_Mo_clauseHere_202 1 rfl ?_
              refine aw_getI fl_Mo_114 kd_151 d_Mo_clauseHere_203 ?_
              refine aw_iadd d_Mo_clauseHere_206 ?_
              refine aw_iconst d_Mo_clauseHere_207 ki_1 ?_
              refine aw_V_m (As := [.int ((3 : Int32) + (gI δ_194 151 11)), .int (1 : Int32)]) (m_Mo_clauseOf) cv_Mo_232 kd_151 rfl rfl rfl (Nat.le_of_ble_eq_true rfl) ⟨Nat.le_of_ble_eq_true rfl, Nat.le_of_ble_eq_true rfl⟩ ⟨Nat.le_refl _, Nat.le_refl _⟩ d_Mo_clauseHere_208 (fun y208 => ?_)
              refine aw_bI (fun v208 => ?_)
              refine aw_bD (fun δ_208 => ?_)
              refine aw_if_eq (tgt := 218) d_Mo_clauseHere_211 rfl (fun q211 => ?_) (fun q211 => ?_)
              · refine aw_iconst d_Mo_clauseHere_218 ki_0 ?_
                exact aw_zret rfl rfl rfl ⟨Nat.le_refl _, Nat.le_refl _⟩ d_Mo_clauseHere_219
              · refine aw_iconst d_Mo_clauseHere_214 ki_1 ?_
                refine aw_goto (tgt := 219) d_Mo_clauseHere_215 rfl ?_
                exact aw_zret rfl rfl rfl ⟨Nat.le_refl _, Nat.le_refl _⟩ d_Mo_clauseHere_219
        · refine aw_aload_n d_Mo_clauseHere_158 1 rfl ?_
          refine aw_V_m (As := []) (m_Mo_bathHere) cv_Mo_229 kd_151 rfl rfl rfl (Nat.le_of_ble_eq_true rfl) ⟨Nat.le_of_ble_eq_true rfl, Nat.le_of_ble_eq_true rfl⟩ ⟨Nat.le_refl _, Nat.le_refl _⟩ d_Mo_clauseHere_159 (fun y159 => ?_)
          refine aw_bI (fun v159 => ?_)
          refine aw_bD (fun δ_159 => ?_)
          refine aw_if_eq (tgt := 181) d_Mo_clauseHere_162 rfl (fun q162 => ?_) (fun q162 => ?_)
          · refine aw_iconst d_Mo_clauseHere_181 ki_0 ?_
            exact aw_zret rfl rfl rfl ⟨Nat.le_refl _, Nat.le_refl _⟩ d_Mo_clauseHere_182
          · refine aw_aload_n d_Mo_clauseHere_165 1 rfl ?_
            refine aw_aload_n d_Mo_clauseHere_166 1 rfl ?_
            refine aw_getI fl_Mo_114 kd_151 d_Mo_clauseHere_167 ?_
            refine aw_iconst d_Mo_clauseHere_170 ki_1 ?_
            refine aw_V_m (As := [.int (gI δ_159 151 11), .int (1 : Int32)]) (m_Mo_clauseOf) cv_Mo_232 kd_151 rfl rfl rfl (Nat.le_of_ble_eq_true rfl) ⟨Nat.le_of_ble_eq_true rfl, Nat.le_of_ble_eq_true rfl⟩ ⟨Nat.le_refl _, Nat.le_refl _⟩ d_Mo_clauseHere_171 (fun y171 => ?_)
            refine aw_bI (fun v171 => ?_)
            refine aw_bD (fun δ_171 => ?_)
            refine aw_if_eq (tgt := 181) d_Mo_clauseHere_174 rfl (fun q174 => ?_) (fun q174 => ?_)
            · refine aw_iconst d_Mo_clauseHere_181 ki_0 ?_
              exact aw_zret rfl rfl rfl ⟨Nat.le_refl _, Nat.le_refl _⟩ d_Mo_clauseHere_182
            · refine aw_iconst d_Mo_clauseHere_177 ki_1 ?_
              refine aw_goto (tgt := 182) d_Mo_clauseHere_178 rfl ?_
              exact aw_zret rfl rfl rfl ⟨Nat.le_refl _, Nat.le_refl _⟩ d_Mo_clauseHere_182
      · refine aw_aload_n d_Mo_clauseHere_143 1 rfl ?_
        refine aw_V_m (As := []) (m_Mo_weakHere) cv_Mo_226 kd_151 rfl rfl rfl (Nat.le_of_ble_eq_true rfl) ⟨Nat.le_of_ble_eq_true rfl, Nat.le_of_ble_eq_true rfl⟩ ⟨Nat.le_refl _, Nat.le_refl _⟩ d_Mo_clauseHere_144 (fun y144 => ?_)
        refine aw_bI (fun v144 => ?_)
        refine aw_bD (fun δ_144 => ?_)
        exact aw_zr2 rfl rfl ⟨Nat.le_refl _, Nat.le_refl _⟩ d_Mo_clauseHere_147
def jp_Mo_clauseHere_90 (v9 : Int32) (δ90 : Dm) : Option (Int32 × Dm) := (jp_Mo_clauseHere_95 v9 (1 : Int32) δ90)
set_option maxHeartbeats 4000000 in
set_option maxRecDepth 100000 in
theorem tj_Mo_clauseHere_90 {n : Nat} (v9 : Int32) (δ90 : Dm) : AWo k_Mo_clauseHere 11 0 0 90 [(0, .ref 151), (1, .int v9)] [] δ90 RT n 0 0 (Km RT n) (jp_Mo_clauseHere_90 v9 δ90) := by
  unfold jp_Mo_clauseHere_90
  refine aw_iconst d_Mo_clauseHere_90 ki_1 ?_
  refine aw_goto (tgt := 95) d_Mo_clauseHere_91 rfl ?_
  refine aw_sub (lo' := [(0, .ref 151), (1, .int v9)]) [0, 1] rfl ?_
  exact tj_Mo_clauseHere_95 _ _ _
def f_Mo_clauseHere (δ : Dm) : Option (Int32 × Dm) := ((f_Mo_see δ).bind (fun y1 => bnd y1.1 (fun v1 => bnd y1.2 (fun δ_1 => (bnd (gI δ_1 151 9) (fun v9 => ((f_Mo_isWord (1953067621 : Int64) δ_1).bind (fun y14 => bnd y14.1 (fun v14 => bnd y14.2 (fun δ_14 => (if v14 = 0 then ((f_Mo_isWord (6383461 : Int64) δ_14).bind (fun y24 => bnd y24.1 (fun v24 => bnd y24.2 (fun δ_24 => (if v24 = 0 then ((f_Mo_isWord (2003132779 : Int64) δ_24).bind (fun y34 => bnd y34.1 (fun v34 => bnd y34.2 (fun δ_34 => (if v34 = 0 then ((f_Mo_isWord (1684107883 : Int64) δ_34).bind (fun y44 => bnd y44.1 (fun v44 => bnd y44.2 (fun δ_44 => (if v44 = 0 then ((f_Mo_isWord (7300710 : Int64) δ_44).bind (fun y54 => bnd y54.1 (fun v54 => bnd y54.2 (fun δ_54 => (if v54 = 0 then ((f_Mo_isWord (125779836236645 : Int64) δ_54).bind (fun y64 => bnd y64.1 (fun v64 => bnd y64.2 (fun δ_64 => (if v64 = 0 then ((f_Mo_isWord (125779836235364 : Int64) δ_64).bind (fun y74 => bnd y74.1 (fun v74 => bnd y74.2 (fun δ_74 => (if v74 = 0 then ((f_Mo_isWord (1919250036 : Int64) δ_74).bind (fun y84 => bnd y84.1 (fun v84 => bnd y84.2 (fun δ_84 => (if v84 = 0 then (jp_Mo_clauseHere_95 v9 (0 : Int32) δ_84) else (jp_Mo_clauseHere_90 v9 δ_84)))))) else (jp_Mo_clauseHere_90 v9 δ_74)))))) else (jp_Mo_clauseHere_90 v9 δ_64)))))) else (jp_Mo_clauseHere_90 v9 δ_54)))))) else (jp_Mo_clauseHere_90 v9 δ_44)))))) else (jp_Mo_clauseHere_90 v9 δ_34)))))) else (jp_Mo_clauseHere_90 v9 δ_24)))))) else (jp_Mo_clauseHere_90 v9 δ_14))))))))))))
set_option maxHeartbeats 4000000 in
set_option maxRecDepth 100000 in
theorem m_Mo_clauseHere {δ : Dm} {n : Nat} : ∀ x, f_Mo_clauseHere δ = some x → AMet k_Mo_clauseHere 11 0 0 [.ref 151] δ RT n (Km RT n x) := by
  refine aw_start (lo := [(0, .ref 151)]) mok_Mo_clauseHere rfl (Nat.le_of_ble_eq_true rfl) ?_
  unfold f_Mo_clauseHere
  refine aw_aload_n d_Mo_clauseHere_0 0 rfl ?_
  refine aw_V_m (As := []) (m_Mo_see) cv_Mo_93 kd_151 rfl rfl rfl (Nat.le_of_ble_eq_true rfl) ⟨Nat.le_of_ble_eq_true rfl, Nat.le_of_ble_eq_true rfl⟩ ⟨Nat.le_refl _, Nat.le_refl _⟩ d_Mo_clauseHere_1 (fun y1 => ?_)
  refine aw_bI (fun v1 => ?_)
  refine aw_bD (fun δ_1 => ?_)
  refine aw_pop d_Mo_clauseHere_4 rfl ?_
  refine aw_aload_n d_Mo_clauseHere_5 0 rfl ?_
  refine aw_getI fl_Mo_90 kd_151 d_Mo_clauseHere_6 ?_
  refine aw_bI (fun v9 => ?_)
  refine aw_istore_n (lo' := [(1, .int v9), (0, .ref 151)]) d_Mo_clauseHere_9 rfl (by decide) rfl ?_
  refine aw_aload_n d_Mo_clauseHere_10 1 rfl ?_
  refine aw_ldc2 (v := (1953067621 : Int64)) d_Mo_clauseHere_11 kc_Mo_207 ?_
  refine aw_V_m (As := [.long (1953067621 : Int64)]) (m_Mo_isWord) cv_Mo_100 kd_151 rfl rfl rfl (Nat.le_of_ble_eq_true rfl) ⟨Nat.le_of_ble_eq_true rfl, Nat.le_of_ble_eq_true rfl⟩ ⟨Nat.le_refl _, Nat.le_refl _⟩ d_Mo_clauseHere_14 (fun y14 => ?_)
  refine aw_bI (fun v14 => ?_)
  refine aw_bD (fun δ_14 => ?_)
  refine aw_if_ne (tgt := 90) d_Mo_clauseHere_17 rfl (fun q17 => ?_) (fun q17 => ?_)
  · refine aw_aload_n d_Mo_clauseHere_20 1 rfl ?_
    refine aw_ldc2 (v := (6383461 : Int64)) d_Mo_clauseHere_21 kc_Mo_209 ?_
    refine aw_V_m (As := [.long (6383461 : Int64)]) (m_Mo_isWord) cv_Mo_100 kd_151 rfl rfl rfl (Nat.le_of_ble_eq_true rfl) ⟨Nat.le_of_ble_eq_true rfl, Nat.le_of_ble_eq_true rfl⟩ ⟨Nat.le_refl _, Nat.le_refl _⟩ d_Mo_clauseHere_24 (fun y24 => ?_)
    refine aw_bI (fun v24 => ?_)
    refine aw_bD (fun δ_24 => ?_)
    refine aw_if_ne (tgt := 90) d_Mo_clauseHere_27 rfl (fun q27 => ?_) (fun q27 => ?_)
    · refine aw_aload_n d_Mo_clauseHere_30 1 rfl ?_
      refine aw_ldc2 (v := (2003132779 : Int64)) d_Mo_clauseHere_31 kc_Mo_211 ?_
      refine aw_V_m (As := [.long (2003132779 : Int64)]) (m_Mo_isWord) cv_Mo_100 kd_151 rfl rfl rfl (Nat.le_of_ble_eq_true rfl) ⟨Nat.le_of_ble_eq_true rfl, Nat.le_of_ble_eq_true rfl⟩ ⟨Nat.le_refl _, Nat.le_refl _⟩ d_Mo_clauseHere_34 (fun y34 => ?_)
      refine aw_bI (fun v34 => ?_)
      refine aw_bD (fun δ_34 => ?_)
      refine aw_if_ne (tgt := 90) d_Mo_clauseHere_37 rfl (fun q37 => ?_) (fun q37 => ?_)
      · refine aw_aload_n d_Mo_clauseHere_40 1 rfl ?_
        refine aw_ldc2 (v := (1684107883 : Int64)) d_Mo_clauseHere_41 kc_Mo_213 ?_
        refine aw_V_m (As := [.long (1684107883 : Int64)]) (m_Mo_isWord) cv_Mo_100 kd_151 rfl rfl rfl (Nat.le_of_ble_eq_true rfl) ⟨Nat.le_of_ble_eq_true rfl, Nat.le_of_ble_eq_true rfl⟩ ⟨Nat.le_refl _, Nat.le_refl _⟩ d_Mo_clauseHere_44 (fun y44 => ?_)
        refine aw_bI (fun v44 => ?_)
        refine aw_bD (fun δ_44 => ?_)
        refine aw_if_ne (tgt := 90) d_Mo_clauseHere_47 rfl (fun q47 => ?_) (fun q47 => ?_)
        · refine aw_aload_n d_Mo_clauseHere_50 1 rfl ?_
          refine aw_ldc2 (v := (7300710 : Int64)) d_Mo_clauseHere_51 kc_Mo_215 ?_
          refine aw_V_m (As := [.long (7300710 : Int64)]) (m_Mo_isWord) cv_Mo_100 kd_151 rfl rfl rfl (Nat.le_of_ble_eq_true rfl) ⟨Nat.le_of_ble_eq_true rfl, Nat.le_of_ble_eq_true rfl⟩ ⟨Nat.le_refl _, Nat.le_refl _⟩ d_Mo_clauseHere_54 (fun y54 => ?_)
          refine aw_bI (fun v54 => ?_)
          refine aw_bD (fun δ_54 => ?_)
          refine aw_if_ne (tgt := 90) d_Mo_clauseHere_57 rfl (fun q57 => ?_) (fun q57 => ?_)
          · refine aw_aload_n d_Mo_clauseHere_60 1 rfl ?_
            refine aw_ldc2 (v := (125779836236645 : Int64)) d_Mo_clauseHere_61 kc_Mo_217 ?_
            refine aw_V_m (As := [.long (125779836236645 : Int64)]) (m_Mo_isWord) cv_Mo_100 kd_151 rfl rfl rfl (Nat.le_of_ble_eq_true rfl) ⟨Nat.le_of_ble_eq_true rfl, Nat.le_of_ble_eq_true rfl⟩ ⟨Nat.le_refl _, Nat.le_refl _⟩ d_Mo_clauseHere_64 (fun y64 => ?_)
            refine aw_bI (fun v64 => ?_)
            refine aw_bD (fun δ_64 => ?_)
            refine aw_if_ne (tgt := 90) d_Mo_clauseHere_67 rfl (fun q67 => ?_) (fun q67 => ?_)
            · refine aw_aload_n d_Mo_clauseHere_70 1 rfl ?_
              refine aw_ldc2 (v := (125779836235364 : Int64)) d_Mo_clauseHere_71 kc_Mo_219 ?_
              refine aw_V_m (As := [.long (125779836235364 : Int64)]) (m_Mo_isWord) cv_Mo_100 kd_151 rfl rfl rfl (Nat.le_of_ble_eq_true rfl) ⟨Nat.le_of_ble_eq_true rfl, Nat.le_of_ble_eq_true rfl⟩ ⟨Nat.le_refl _, Nat.le_refl _⟩ d_Mo_clauseHere_74 (fun y74 => ?_)
              refine aw_bI (fun v74 => ?_)
              refine aw_bD (fun δ_74 => ?_)
              refine aw_if_ne (tgt := 90) d_Mo_clauseHere_77 rfl (fun q77 => ?_) (fun q77 => ?_)
              · refine aw_aload_n d_Mo_clauseHere_80 1 rfl ?_
                refine aw_ldc2 (v := (1919250036 : Int64)) d_Mo_clauseHere_81 kc_Mo_221 ?_
                refine aw_V_m (As := [.long (1919250036 : Int64)]) (m_Mo_isWord) cv_Mo_100 kd_151 rfl rfl rfl (Nat.le_of_ble_eq_true rfl) ⟨Nat.le_of_ble_eq_true rfl, Nat.le_of_ble_eq_true rfl⟩ ⟨Nat.le_refl _, Nat.le_refl _⟩ d_Mo_clauseHere_84 (fun y84 => ?_)
                refine aw_bI (fun v84 => ?_)
                refine aw_bD (fun δ_84 => ?_)
                refine aw_if_eq (tgt := 94) d_Mo_clauseHere_87 rfl (fun q87 => ?_) (fun q87 => ?_)
                · refine aw_iconst d_Mo_clauseHere_94 ki_0 ?_
                  refine aw_sub (lo' := [(0, .ref 151), (1, .int v9)]) [1, 0] rfl ?_
                  exact tj_Mo_clauseHere_95 _ _ _
                · refine aw_sub (lo' := [(0, .ref 151), (1, .int v9)]) [1, 0] rfl ?_
                  exact tj_Mo_clauseHere_90 _ _
              · refine aw_sub (lo' := [(0, .ref 151), (1, .int v9)]) [1, 0] rfl ?_
                exact tj_Mo_clauseHere_90 _ _
            · refine aw_sub (lo' := [(0, .ref 151), (1, .int v9)]) [1, 0] rfl ?_
              exact tj_Mo_clauseHere_90 _ _
          · refine aw_sub (lo' := [(0, .ref 151), (1, .int v9)]) [1, 0] rfl ?_
            exact tj_Mo_clauseHere_90 _ _
        · refine aw_sub (lo' := [(0, .ref 151), (1, .int v9)]) [1, 0] rfl ?_
          exact tj_Mo_clauseHere_90 _ _
      · refine aw_sub (lo' := [(0, .ref 151), (1, .int v9)]) [1, 0] rfl ?_
        exact tj_Mo_clauseHere_90 _ _
    · refine aw_sub (lo' := [(0, .ref 151), (1, .int v9)]) [1, 0] rfl ?_
      exact tj_Mo_clauseHere_90 _ _
  · refine aw_sub (lo' := [(0, .ref 151), (1, .int v9)]) [1, 0] rfl ?_
    exact tj_Mo_clauseHere_90 _ _
def jp_Mo_law_144 (v1_91x : Int32) (δ144 : Dm) : Option (Int32 × Dm) := (bnd (sI δ144 151 2 (0 : Int32)) (fun δ_146 => (if (gI δ_146 151 10) ≤ 0 then (bnd (sI δ_146 151 3 ((gI δ_146 151 3) + (1 : Int32))) (fun δ_171 => (some (((gI δ_171 151 3) - (1 : Int32)), δ_171)))) else (some (((-2 : Int32) - (gI δ_146 151 10)), δ_146)))))
set_option maxHeartbeats 4000000 in
set_option maxRecDepth 100000 in
theorem tj_Mo_law_144 {n : Nat} (v1_91x : Int32) (δ144 : Dm) : AWo k_Mo_law 12 0 0 144 [(0, .ref 151), (1, .int v1_91x)] [] δ144 RT n 0 0 (Km RT n) (jp_Mo_law_144 v1_91x δ144) := by
  unfold jp_Mo_law_144
  refine aw_aload_n d_Mo_law_144 0 rfl ?_
  refine aw_iconst d_Mo_law_145 ki_0 ?_
  refine aw_putI pf_Mo_79 kd_151 d_Mo_law_146 ?_
  refine aw_bD (fun δ_146 => ?_)
  refine aw_aload_n d_Mo_law_149 0 rfl ?_
  refine aw_getI fl_Mo_87 kd_151 d_Mo_law_150 ?_
  refine aw_if_le (tgt := 164) d_Mo_law_153 rfl (fun q153 => ?_) (fun q153 => ?_)
  · refine aw_aload_n d_Mo_law_164 0 rfl ?_
    refine aw_dup d_Mo_law_165 rfl ?_
    refine aw_getI fl_Mo_236 kd_151 d_Mo_law_166 ?_
    refine aw_iconst d_Mo_law_169 ki_1 ?_
    refine aw_iadd d_Mo_law_170 ?_
    refine aw_putI pf_Mo_236 kd_151 d_Mo_law_171 ?_
    refine aw_bD (fun δ_171 => ?_)
    refine aw_aload_n d_Mo_law_174 0 rfl ?_
    refine aw_getI fl_Mo_236 kd_151 d_Mo_law_175 ?_
    refine aw_iconst d_Mo_law_178 ki_1 ?_
    refine aw_isub d_Mo_law_179 ?_
    exact aw_iret rfl rfl ⟨Nat.le_refl _, Nat.le_refl _⟩ d_Mo_law_180
  · refine aw_bipush d_Mo_law_156 kb_m2 ?_
    refine aw_aload_n d_Mo_law_158 0 rfl ?_
    refine aw_getI fl_Mo_87 kd_151 d_Mo_law_159 ?_
    refine aw_isub d_Mo_law_162 ?_
    exact aw_iret rfl rfl ⟨Nat.le_refl _, Nat.le_refl _⟩ d_Mo_law_163
def lp_Mo_law_91 (kx91_122 : Int32 → Dm → Option (Int32 × Dm)) : Nat → Int32 → Dm → Option (Int32 × Dm)
  | 0, _, _ => none
  | f + 1, v1_91, δ91 => (if v1_91 = 0 then (kx91_122 v1_91 δ91) else ((f_Mo_see δ91).bind (fun y96 => bnd y96.1 (fun v96 => bnd y96.2 (fun δ_96 => (if v96 = (59 : Int32) then (bnd (sI δ_96 151 9 ((gI δ_96 151 9) + (1 : Int32))) (fun δ_111 => ((f_Mo_clauseHere δ_111).bind (fun y115 => bnd y115.1 (fun v115 => bnd y115.2 (fun δ_115 => (lp_Mo_law_91 kx91_122 f v115 δ_115))))))) else (kx91_122 v1_91 δ_96)))))))
set_option maxHeartbeats 4000000 in
set_option maxRecDepth 100000 in
theorem tl_Mo_law_91 {n : Nat} (kx91_122 : Int32 → Dm → Option (Int32 × Dm)) (hkx91_122 : ∀ v1_91k δ91k, AWo k_Mo_law 12 0 0 122 [(0, .ref 151), (1, .int v1_91k)] [] δ91k RT n 0 0 (Km RT n) (kx91_122 v1_91k δ91k)) : ∀ (f : Nat) (v1_91 : Int32) (δ91 : Dm), AWo k_Mo_law 12 0 0 91 [(0, .ref 151), (1, .int v1_91)] [] δ91 RT n 0 0 (Km RT n) (lp_Mo_law_91 kx91_122 f v1_91 δ91) := by
  intro f
  induction f with
  | zero => intro _ _; exact aw_none
  | succ f ih =>
    intro v1_91 δ91
    rw [lp_Mo_law_91]
    refine aw_iload_n d_Mo_law_91 1 rfl ?_
    refine aw_if_eq (tgt := 122) d_Mo_law_92 rfl (fun q92 => ?_) (fun q92 => ?_)
    · refine aw_sub (lo' := [(0, .ref 151), (1, .int v1_91)]) [0, 1] rfl ?_
      exact hkx91_122 _ _
    · refine aw_aload_n d_Mo_law_95 0 rfl ?_
      refine aw_V_m (As := []) (m_Mo_see) cv_Mo_93 kd_151 rfl rfl rfl (Nat.le_of_ble_eq_true rfl) ⟨Nat.le_of_ble_eq_true rfl, Nat.le_of_ble_eq_true rfl⟩ ⟨Nat.le_refl _, Nat.le_refl _⟩ d_Mo_law_96 (fun y96 => ?_)
      refine aw_bI (fun v96 => ?_)
      refine aw_bD (fun δ_96 => ?_)
      refine aw_bipush d_Mo_law_99 kb_59 ?_
      refine aw_icmp_ne (tgt := 122) d_Mo_law_101 rfl (fun q101 => ?_) (fun q101 => ?_)
      · refine aw_aload_n d_Mo_law_104 0 rfl ?_
        refine aw_dup d_Mo_law_105 rfl ?_
        refine aw_getI fl_Mo_90 kd_151 d_Mo_law_106 ?_
        refine aw_iconst d_Mo_law_109 ki_1 ?_
        refine aw_iadd d_Mo_law_110 ?_
        refine aw_putI pf_Mo_90 kd_151 d_Mo_law_111 ?_
        refine aw_bD (fun δ_111 => ?_)
        refine aw_aload_n d_Mo_law_114 0 rfl ?_
        refine aw_V_m (As := []) (m_Mo_clauseHere) cv_Mo_239 kd_151 rfl rfl rfl (Nat.le_of_ble_eq_true rfl) ⟨Nat.le_of_ble_eq_true rfl, Nat.le_of_ble_eq_true rfl⟩ ⟨Nat.le_refl _, Nat.le_refl _⟩ d_Mo_law_115 (fun y115 => ?_)
        refine aw_bI (fun v115 => ?_)
        refine aw_bD (fun δ_115 => ?_)
        refine aw_istore_n (lo' := [(1, .int v115), (0, .ref 151)]) d_Mo_law_118 rfl (by decide) rfl ?_
        refine aw_goto (tgt := 91) d_Mo_law_119 rfl ?_
        refine aw_sub (lo' := [(0, .ref 151), (1, .int v115)]) [1, 0] rfl ?_
        exact ih _ _
      · refine aw_sub (lo' := [(0, .ref 151), (1, .int v1_91)]) [0, 1] rfl ?_
        exact hkx91_122 _ _
def lp_Mo_law_41 (kx41_66 : Int32 → Dm → Option (Int32 × Dm)) : Nat → Int32 → Dm → Option (Int32 × Dm)
  | 0, _, _ => none
  | f + 1, v1_41, δ41 => (if (3 : Int32) ≤ v1_41 then (kx41_66 v1_41 δ41) else (if inb (((3 : Int32) * (gI δ41 151 12)) + v1_41) 24 then bnd (sI δ41 158 (ix (((3 : Int32) * (gI δ41 151 12)) + v1_41)) (-1 : Int32)) (fun δ_59 => (lp_Mo_law_41 kx41_66 f (v1_41 + (1 : Int32)) δ_59)) else none))
set_option maxHeartbeats 4000000 in
set_option maxRecDepth 100000 in
theorem tl_Mo_law_41 {n : Nat} (kx41_66 : Int32 → Dm → Option (Int32 × Dm)) (hkx41_66 : ∀ v1_41k δ41k, AWo k_Mo_law 12 0 0 66 [(0, .ref 151), (1, .int v1_41k)] [] δ41k RT n 0 0 (Km RT n) (kx41_66 v1_41k δ41k)) : ∀ (f : Nat) (v1_41 : Int32) (δ41 : Dm), AWo k_Mo_law 12 0 0 41 [(0, .ref 151), (1, .int v1_41)] [] δ41 RT n 0 0 (Km RT n) (lp_Mo_law_41 kx41_66 f v1_41 δ41) := by
  intro f
  induction f with
  | zero => intro _ _; exact aw_none
  | succ f ih =>
    intro v1_41 δ41
    rw [lp_Mo_law_41]
    refine aw_iload_n d_Mo_law_41 1 rfl ?_
    refine aw_iconst d_Mo_law_42 ki_3 ?_
    refine aw_icmp_ge (tgt := 66) d_Mo_law_43 rfl (fun q43 => ?_) (fun q43 => ?_)
    · refine aw_sub (lo' := [(0, .ref 151), (1, .int v1_41)]) [0, 1] rfl ?_
      exact hkx41_66 _ _
    · refine aw_aload_n d_Mo_law_46 0 rfl ?_
      refine aw_getR (t := 158) fl_Mo_29 kd_151 rt_151_8 d_Mo_law_47 ?_
      refine aw_iconst d_Mo_law_50 ki_3 ?_
      refine aw_aload_n d_Mo_law_51 0 rfl ?_
      refine aw_getI fl_Mo_135 kd_151 d_Mo_law_52 ?_
      refine aw_imul d_Mo_law_55 ?_
      refine aw_iload_n d_Mo_law_56 1 rfl ?_
      refine aw_iadd d_Mo_law_57 ?_
      refine aw_iconst d_Mo_law_58 ki_m1 ?_
      refine aw_iast kd_158 d_Mo_law_59 ?_
      refine aw_bD (fun δ_59 => ?_)
      refine aw_iinc (v := (v1_41 + (1 : Int32))) (lo' := [(1, .int (v1_41 + (1 : Int32))), (0, .ref 151)]) d_Mo_law_60 1 rfl (by rw [show Int32.ofInt (1) = (1 : Int32) from by decide]) (by decide) rfl ?_
      refine aw_goto (tgt := 41) d_Mo_law_63 rfl ?_
      refine aw_sub (lo' := [(0, .ref 151), (1, .int (v1_41 + (1 : Int32)))]) [1, 0] rfl ?_
      exact ih _ _
def f_Mo_law (δ : Dm) : Option (Int32 × Dm) := (if (gI δ 151 3) = (8 : Int32) then (some ((-1 : Int32), δ)) else (bnd (sI δ 151 12 (gI δ 151 3)) (fun δ_16 => (if inb (gI δ_16 151 12) 8 then bnd (sI δ_16 155 (ix (gI δ_16 151 12)) (0 : Int32)) (fun δ_28 => (if inb (gI δ_28 151 12) 8 then bnd (sI δ_28 157 (ix (gI δ_28 151 12)) (0 : Int32)) (fun δ_38 => (lp_Mo_law_41 (fun v1_41x δ41x => (bnd (sI δ41x 151 15 (0 : Int32)) (fun δ_68 => (bnd (sI δ_68 151 9 (0 : Int32)) (fun δ_73 => (bnd (sI δ_73 151 10 (0 : Int32)) (fun δ_78 => (bnd (sI δ_78 151 13 (0 : Int32)) (fun δ_83 => ((f_Mo_clauseHere δ_83).bind (fun y87 => bnd y87.1 (fun v87 => bnd y87.2 (fun δ_87 => (lp_Mo_law_91 (fun v1_91x δ91x => (if v1_91x = 0 then (jp_Mo_law_144 v1_91x δ91x) else ((f_Mo_see δ91x).bind (fun y127 => bnd y127.1 (fun v127 => bnd y127.2 (fun δ_127 => (if v127 = (-1 : Int32) then (jp_Mo_law_144 v1_91x δ_127) else ((f_Mo_fails (0 : Int32) (gI δ_127 151 9) δ_127).bind (fun y140 => bnd y140.1 (fun v140 => bnd y140.2 (fun δ_140 => (jp_Mo_law_144 v1_91x δ_140)))))))))))) FU v87 δ_87)))))))))))))) FU (0 : Int32) δ_38)) else none)) else none))))
set_option maxHeartbeats 4000000 in
set_option maxRecDepth 100000 in
theorem m_Mo_law {δ : Dm} {n : Nat} : ∀ x, f_Mo_law δ = some x → AMet k_Mo_law 12 0 0 [.ref 151] δ RT n (Km RT n x) := by
  refine aw_start (lo := [(0, .ref 151)]) mok_Mo_law rfl (Nat.le_of_ble_eq_true rfl) ?_
  unfold f_Mo_law
  refine aw_aload_n d_Mo_law_0 0 rfl ?_
  refine aw_getI fl_Mo_236 kd_151 d_Mo_law_1 ?_
  refine aw_bipush d_Mo_law_4 kb_8 ?_
  refine aw_icmp_ne (tgt := 11) d_Mo_law_6 rfl (fun q6 => ?_) (fun q6 => ?_)
  · refine aw_iconst d_Mo_law_9 ki_m1 ?_
    exact aw_iret rfl rfl ⟨Nat.le_refl _, Nat.le_refl _⟩ d_Mo_law_10
  · refine aw_aload_n d_Mo_law_11 0 rfl ?_
    refine aw_aload_n d_Mo_law_12 0 rfl ?_
    refine aw_getI fl_Mo_236 kd_151 d_Mo_law_13 ?_
    refine aw_putI pf_Mo_135 kd_151 d_Mo_law_16 ?_
    refine aw_bD (fun δ_16 => ?_)
    refine aw_aload_n d_Mo_law_19 0 rfl ?_
    refine aw_getR (t := 155) fl_Mo_20 kd_151 rt_151_5 d_Mo_law_20 ?_
    refine aw_aload_n d_Mo_law_23 0 rfl ?_
    refine aw_getI fl_Mo_135 kd_151 d_Mo_law_24 ?_
    refine aw_iconst d_Mo_law_27 ki_0 ?_
    refine aw_iast kd_155 d_Mo_law_28 ?_
    refine aw_bD (fun δ_28 => ?_)
    refine aw_aload_n d_Mo_law_29 0 rfl ?_
    refine aw_getR (t := 157) fl_Mo_26 kd_151 rt_151_7 d_Mo_law_30 ?_
    refine aw_aload_n d_Mo_law_33 0 rfl ?_
    refine aw_getI fl_Mo_135 kd_151 d_Mo_law_34 ?_
    refine aw_iconst d_Mo_law_37 ki_0 ?_
    refine aw_iast kd_157 d_Mo_law_38 ?_
    refine aw_bD (fun δ_38 => ?_)
    refine aw_iconst d_Mo_law_39 ki_0 ?_
    refine aw_istore_n (lo' := [(1, .int (0 : Int32)), (0, .ref 151)]) d_Mo_law_40 rfl (by decide) rfl ?_
    refine aw_sub (lo' := [(0, .ref 151), (1, .int (0 : Int32))]) [1, 0] rfl ?_
    refine tl_Mo_law_41 _ (fun v1_41x δ41x => ?_) FU _ _
    · refine aw_aload_n d_Mo_law_66 0 rfl ?_
      refine aw_iconst d_Mo_law_67 ki_0 ?_
      refine aw_putI pf_Mo_223 kd_151 d_Mo_law_68 ?_
      refine aw_bD (fun δ_68 => ?_)
      refine aw_aload_n d_Mo_law_71 0 rfl ?_
      refine aw_iconst d_Mo_law_72 ki_0 ?_
      refine aw_putI pf_Mo_90 kd_151 d_Mo_law_73 ?_
      refine aw_bD (fun δ_73 => ?_)
      refine aw_aload_n d_Mo_law_76 0 rfl ?_
      refine aw_iconst d_Mo_law_77 ki_0 ?_
      refine aw_putI pf_Mo_87 kd_151 d_Mo_law_78 ?_
      refine aw_bD (fun δ_78 => ?_)
      refine aw_aload_n d_Mo_law_81 0 rfl ?_
      refine aw_iconst d_Mo_law_82 ki_0 ?_
      refine aw_putI pf_Mo_138 kd_151 d_Mo_law_83 ?_
      refine aw_bD (fun δ_83 => ?_)
      refine aw_aload_n d_Mo_law_86 0 rfl ?_
      refine aw_V_m (As := []) (m_Mo_clauseHere) cv_Mo_239 kd_151 rfl rfl rfl (Nat.le_of_ble_eq_true rfl) ⟨Nat.le_of_ble_eq_true rfl, Nat.le_of_ble_eq_true rfl⟩ ⟨Nat.le_refl _, Nat.le_refl _⟩ d_Mo_law_87 (fun y87 => ?_)
      refine aw_bI (fun v87 => ?_)
      refine aw_bD (fun δ_87 => ?_)
      refine aw_istore_n (lo' := [(1, .int v87), (0, .ref 151)]) d_Mo_law_90 rfl (by decide) rfl ?_
      refine aw_sub (lo' := [(0, .ref 151), (1, .int v87)]) [1, 0] rfl ?_
      refine tl_Mo_law_91 _ (fun v1_91x δ91x => ?_) FU _ _
      · refine aw_iload_n d_Mo_law_122 1 rfl ?_
        refine aw_if_eq (tgt := 144) d_Mo_law_123 rfl (fun q123 => ?_) (fun q123 => ?_)
        · refine aw_sub (lo' := [(0, .ref 151), (1, .int v1_91x)]) [0, 1] rfl ?_
          exact tj_Mo_law_144 _ _
        · refine aw_aload_n d_Mo_law_126 0 rfl ?_
          refine aw_V_m (As := []) (m_Mo_see) cv_Mo_93 kd_151 rfl rfl rfl (Nat.le_of_ble_eq_true rfl) ⟨Nat.le_of_ble_eq_true rfl, Nat.le_of_ble_eq_true rfl⟩ ⟨Nat.le_refl _, Nat.le_refl _⟩ d_Mo_law_127 (fun y127 => ?_)
          refine aw_bI (fun v127 => ?_)
          refine aw_bD (fun δ_127 => ?_)
          refine aw_iconst d_Mo_law_130 ki_m1 ?_
          refine aw_icmp_eq (tgt := 144) d_Mo_law_131 rfl (fun q131 => ?_) (fun q131 => ?_)
          · refine aw_sub (lo' := [(0, .ref 151), (1, .int v1_91x)]) [0, 1] rfl ?_
            exact tj_Mo_law_144 _ _
          · refine aw_aload_n d_Mo_law_134 0 rfl ?_
            refine aw_iconst d_Mo_law_135 ki_0 ?_
            refine aw_aload_n d_Mo_law_136 0 rfl ?_
            refine aw_getI fl_Mo_90 kd_151 d_Mo_law_137 ?_
            refine aw_V_m (As := [.int (0 : Int32), .int (gI δ_127 151 9)]) (m_Mo_fails) cv_Mo_110 kd_151 rfl rfl rfl (Nat.le_of_ble_eq_true rfl) ⟨Nat.le_of_ble_eq_true rfl, Nat.le_of_ble_eq_true rfl⟩ ⟨Nat.le_refl _, Nat.le_refl _⟩ d_Mo_law_140 (fun y140 => ?_)
            refine aw_bI (fun v140 => ?_)
            refine aw_bD (fun δ_140 => ?_)
            refine aw_pop d_Mo_law_143 rfl ?_
            refine aw_sub (lo' := [(0, .ref 151), (1, .int v1_91x)]) [0, 1] rfl ?_
            exact tj_Mo_law_144 _ _
def f_Mo_cell (a1 : Int32) (a2 : Int32) (δ : Dm) : Option Int32 := (if inb (((566 : Int32) + ((20 : Int32) * a1)) + a2) 8918 then (some (gI δ 152 (ix (((566 : Int32) + ((20 : Int32) * a1)) + a2)))) else none)
set_option maxHeartbeats 4000000 in
set_option maxRecDepth 100000 in
theorem m_Mo_cell {a1 : Int32} {a2 : Int32} {δ : Dm} {n : Nat} : ∀ x, f_Mo_cell a1 a2 δ = some x → AMet k_Mo_cell 1 0 0 [.ref 151, .int a1, .int a2] δ RT n (Kp δ RT n x) := by
  refine aw_start (lo := [(0, .ref 151), (1, .int a1), (2, .int a2)]) mok_Mo_cell rfl (Nat.le_of_ble_eq_true rfl) ?_
  unfold f_Mo_cell
  refine aw_aload_n d_Mo_cell_0 0 rfl ?_
  refine aw_getR (t := 152) fl_Mo_7 kd_151 rt_151_0 d_Mo_cell_1 ?_
  refine aw_sipush d_Mo_cell_4 ks_566 ?_
  refine aw_bipush d_Mo_cell_7 kb_20 ?_
  refine aw_iload_n d_Mo_cell_9 1 rfl ?_
  refine aw_imul d_Mo_cell_10 ?_
  refine aw_iadd d_Mo_cell_11 ?_
  refine aw_iload_n d_Mo_cell_12 2 rfl ?_
  refine aw_iadd d_Mo_cell_13 ?_
  refine aw_iald kd_152 d_Mo_cell_14 ?_
  exact aw_iret rfl rfl ⟨Nat.le_refl _, Nat.le_refl _⟩ d_Mo_cell_15
def lp_Mo_at_2 (kx2_30 : Int32 → Option Int32) (a1 : Int32) (δ : Dm) : Nat → Int32 → Option Int32
  | 0, _ => none
  | f + 1, v2_2 => (if inb (2 : Int32) 8918 then (if (gI δ 152 (ix (2 : Int32))) ≤ v2_2 then (kx2_30 v2_2) else ((f_Mo_cell v2_2 (0 : Int32) δ).bind (fun y15 => (if y15 = a1 then (some v2_2) else (lp_Mo_at_2 kx2_30 a1 δ f (v2_2 + (1 : Int32))))))) else none)
set_option maxHeartbeats 4000000 in
set_option maxRecDepth 100000 in
theorem tl_Mo_at_2 {n : Nat} (kx2_30 : Int32 → Option Int32) (a1 : Int32) (δ : Dm) (hkx2_30 : ∀ v2_2k, AWo k_Mo_at 2 0 0 30 [(0, .ref 151), (1, .int a1), (2, .int v2_2k)] [] δ RT n 0 0 (Kp δ RT n) (kx2_30 v2_2k)) : ∀ (f : Nat) (v2_2 : Int32), AWo k_Mo_at 2 0 0 2 [(0, .ref 151), (1, .int a1), (2, .int v2_2)] [] δ RT n 0 0 (Kp δ RT n) (lp_Mo_at_2 kx2_30 a1 δ f v2_2) := by
  intro f
  induction f with
  | zero => intro _; exact aw_none
  | succ f ih =>
    intro v2_2
    rw [lp_Mo_at_2]
    refine aw_iload_n d_Mo_at_2 2 rfl ?_
    refine aw_aload_n d_Mo_at_3 0 rfl ?_
    refine aw_getR (t := 152) fl_Mo_7 kd_151 rt_151_0 d_Mo_at_4 ?_
    refine aw_iconst d_Mo_at_7 ki_2 ?_
    refine aw_iald kd_152 d_Mo_at_8 ?_
    refine aw_icmp_ge (tgt := 30) d_Mo_at_9 rfl (fun q9 => ?_) (fun q9 => ?_)
    · refine aw_sub (lo' := [(0, .ref 151), (1, .int a1), (2, .int v2_2)]) [0, 1, 2] rfl ?_
      exact hkx2_30 _
    · refine aw_aload_n d_Mo_at_12 0 rfl ?_
      refine aw_iload_n d_Mo_at_13 2 rfl ?_
      refine aw_iconst d_Mo_at_14 ki_0 ?_
      refine aw_V_p (As := [.int v2_2, .int (0 : Int32)]) (m_Mo_cell) cv_Mo_265 kd_151 rfl rfl rfl (Nat.le_of_ble_eq_true rfl) ⟨Nat.le_of_ble_eq_true rfl, Nat.le_of_ble_eq_true rfl⟩ ⟨Nat.le_refl _, Nat.le_refl _⟩ d_Mo_at_15 (fun y15 => ?_)
      refine aw_iload_n d_Mo_at_18 1 rfl ?_
      refine aw_icmp_ne (tgt := 24) d_Mo_at_19 rfl (fun q19 => ?_) (fun q19 => ?_)
      · refine aw_iload_n d_Mo_at_22 2 rfl ?_
        exact aw_iret rfl rfl ⟨Nat.le_refl _, Nat.le_refl _⟩ d_Mo_at_23
      · refine aw_iinc (v := (v2_2 + (1 : Int32))) (lo' := [(2, .int (v2_2 + (1 : Int32))), (0, .ref 151), (1, .int a1)]) d_Mo_at_24 2 rfl (by rw [show Int32.ofInt (1) = (1 : Int32) from by decide]) (by decide) rfl ?_
        refine aw_goto (tgt := 2) d_Mo_at_27 rfl ?_
        refine aw_sub (lo' := [(0, .ref 151), (1, .int a1), (2, .int (v2_2 + (1 : Int32)))]) [1, 2, 0] rfl ?_
        exact ih _
def f_Mo_at (a1 : Int32) (δ : Dm) : Option Int32 := (lp_Mo_at_2 (fun v2_2x => (some (-1 : Int32))) a1 δ FU (0 : Int32))
set_option maxHeartbeats 4000000 in
set_option maxRecDepth 100000 in
theorem m_Mo_at {a1 : Int32} {δ : Dm} {n : Nat} : ∀ x, f_Mo_at a1 δ = some x → AMet k_Mo_at 2 0 0 [.ref 151, .int a1] δ RT n (Kp δ RT n x) := by
  refine aw_start (lo := [(0, .ref 151), (1, .int a1)]) mok_Mo_at rfl (Nat.le_of_ble_eq_true rfl) ?_
  unfold f_Mo_at
  refine aw_iconst d_Mo_at_0 ki_0 ?_
  refine aw_istore_n (lo' := [(2, .int (0 : Int32)), (0, .ref 151), (1, .int a1)]) d_Mo_at_1 rfl (by decide) rfl ?_
  refine aw_sub (lo' := [(0, .ref 151), (1, .int a1), (2, .int (0 : Int32))]) [1, 2, 0] rfl ?_
  refine tl_Mo_at_2 _ _ _ (fun v2_2x => ?_) FU _
  · refine aw_iconst d_Mo_at_30 ki_m1 ?_
    exact aw_iret rfl rfl ⟨Nat.le_refl _, Nat.le_refl _⟩ d_Mo_at_31
def f_Mo_isLaw (a1 : Int32) (δ : Dm) : Option Int32 := (if a1 < 0 then (some (0 : Int32)) else (if (gI δ 151 3) ≤ a1 then (some (0 : Int32)) else (some (1 : Int32))))
set_option maxHeartbeats 4000000 in
set_option maxRecDepth 100000 in
theorem m_Mo_isLaw {a1 : Int32} {δ : Dm} {n : Nat} : ∀ x, f_Mo_isLaw a1 δ = some x → AMet k_Mo_isLaw 1 0 0 [.ref 151, .int a1] δ RT n (Kp δ RT n x) := by
  refine aw_start (lo := [(0, .ref 151), (1, .int a1)]) mok_Mo_isLaw rfl (Nat.le_of_ble_eq_true rfl) ?_
  unfold f_Mo_isLaw
  refine aw_iload_n d_Mo_isLaw_0 1 rfl ?_
  refine aw_if_lt (tgt := 16) d_Mo_isLaw_1 rfl (fun q1 => ?_) (fun q1 => ?_)
  · refine aw_iconst d_Mo_isLaw_16 ki_0 ?_
    exact aw_zret rfl rfl rfl ⟨Nat.le_refl _, Nat.le_refl _⟩ d_Mo_isLaw_17
  · refine aw_iload_n d_Mo_isLaw_4 1 rfl ?_
    refine aw_aload_n d_Mo_isLaw_5 0 rfl ?_
    refine aw_getI fl_Mo_236 kd_151 d_Mo_isLaw_6 ?_
    refine aw_icmp_ge (tgt := 16) d_Mo_isLaw_9 rfl (fun q9 => ?_) (fun q9 => ?_)
    · refine aw_iconst d_Mo_isLaw_16 ki_0 ?_
      exact aw_zret rfl rfl rfl ⟨Nat.le_refl _, Nat.le_refl _⟩ d_Mo_isLaw_17
    · refine aw_iconst d_Mo_isLaw_12 ki_1 ?_
      refine aw_goto (tgt := 17) d_Mo_isLaw_13 rfl ?_
      exact aw_zret rfl rfl rfl ⟨Nat.le_refl _, Nat.le_refl _⟩ d_Mo_isLaw_17
def f_Mo_sets (a1 : Int32) (a2 : Int32) (a3 : Int32) (δ : Dm) : Option Dm := (if inb (((566 : Int32) + ((20 : Int32) * a1)) + a2) 8918 then bnd (sI δ 152 (ix (((566 : Int32) + ((20 : Int32) * a1)) + a2)) a3) (fun δ_15 => (some δ_15)) else none)
set_option maxHeartbeats 4000000 in
set_option maxRecDepth 100000 in
theorem m_Mo_sets {a1 : Int32} {a2 : Int32} {a3 : Int32} {δ : Dm} {n : Nat} : ∀ x, f_Mo_sets a1 a2 a3 δ = some x → AMet k_Mo_sets 1 0 0 [.ref 151, .int a1, .int a2, .int a3] δ RT n (Kv RT n x) := by
  refine aw_start (lo := [(0, .ref 151), (1, .int a1), (2, .int a2), (3, .int a3)]) mok_Mo_sets rfl (Nat.le_of_ble_eq_true rfl) ?_
  unfold f_Mo_sets
  refine aw_aload_n d_Mo_sets_0 0 rfl ?_
  refine aw_getR (t := 152) fl_Mo_7 kd_151 rt_151_0 d_Mo_sets_1 ?_
  refine aw_sipush d_Mo_sets_4 ks_566 ?_
  refine aw_bipush d_Mo_sets_7 kb_20 ?_
  refine aw_iload_n d_Mo_sets_9 1 rfl ?_
  refine aw_imul d_Mo_sets_10 ?_
  refine aw_iadd d_Mo_sets_11 ?_
  refine aw_iload_n d_Mo_sets_12 2 rfl ?_
  refine aw_iadd d_Mo_sets_13 ?_
  refine aw_iload_n d_Mo_sets_14 3 rfl ?_
  refine aw_iast kd_152 d_Mo_sets_15 ?_
  refine aw_bD (fun δ_15 => ?_)
  exact aw_vret rfl rfl ⟨Nat.le_refl _, Nat.le_refl _⟩ d_Mo_sets_16
def lp_Mo_booth_187 (kx187_218 : Int32 → Dm → Option (Int32 × Dm)) (a1 : Int32) (a2 : Int32) (a3 : Int32) (v56 : Int32) : Nat → Int32 → Dm → Option (Int32 × Dm)
  | 0, _, _ => none
  | f + 1, v5_187, δ187 => (if (24 : Int32) ≤ v5_187 then (kx187_218 v5_187 δ187) else (if inb (((8726 : Int32) + ((24 : Int32) * v56)) + v5_187) 8918 then bnd (sI δ187 152 (ix (((8726 : Int32) + ((24 : Int32) * v56)) + v5_187)) (0 : Int32)) (fun δ_211 => (lp_Mo_booth_187 kx187_218 a1 a2 a3 v56 f (v5_187 + (1 : Int32)) δ_211)) else none))
set_option maxHeartbeats 4000000 in
set_option maxRecDepth 100000 in
theorem tl_Mo_booth_187 {n : Nat} (kx187_218 : Int32 → Dm → Option (Int32 × Dm)) (a1 : Int32) (a2 : Int32) (a3 : Int32) (v56 : Int32) (hkx187_218 : ∀ v5_187k δ187k, AWo k_Mo_booth 3 0 0 218 [(0, .ref 151), (1, .int a1), (2, .int a2), (3, .int a3), (4, .int v56), (5, .int v5_187k)] [] δ187k RT n 0 0 (Km RT n) (kx187_218 v5_187k δ187k)) : ∀ (f : Nat) (v5_187 : Int32) (δ187 : Dm), AWo k_Mo_booth 3 0 0 187 [(0, .ref 151), (1, .int a1), (2, .int a2), (3, .int a3), (4, .int v56), (5, .int v5_187)] [] δ187 RT n 0 0 (Km RT n) (lp_Mo_booth_187 kx187_218 a1 a2 a3 v56 f v5_187 δ187) := by
  intro f
  induction f with
  | zero => intro _ _; exact aw_none
  | succ f ih =>
    intro v5_187 δ187
    rw [lp_Mo_booth_187]
    refine aw_iload d_Mo_booth_187 5 rfl ?_
    refine aw_bipush d_Mo_booth_189 kb_24 ?_
    refine aw_icmp_ge (tgt := 218) d_Mo_booth_191 rfl (fun q191 => ?_) (fun q191 => ?_)
    · refine aw_sub (lo' := [(0, .ref 151), (1, .int a1), (2, .int a2), (3, .int a3), (4, .int v56), (5, .int v5_187)]) [0, 1, 2, 3, 4, 5] rfl ?_
      exact hkx187_218 _ _
    · refine aw_aload_n d_Mo_booth_194 0 rfl ?_
      refine aw_getR (t := 152) fl_Mo_7 kd_151 rt_151_0 d_Mo_booth_195 ?_
      refine aw_sipush d_Mo_booth_198 ks_8726 ?_
      refine aw_bipush d_Mo_booth_201 kb_24 ?_
      refine aw_iload d_Mo_booth_203 4 rfl ?_
      refine aw_imul d_Mo_booth_205 ?_
      refine aw_iadd d_Mo_booth_206 ?_
      refine aw_iload d_Mo_booth_207 5 rfl ?_
      refine aw_iadd d_Mo_booth_209 ?_
      refine aw_iconst d_Mo_booth_210 ki_0 ?_
      refine aw_iast kd_152 d_Mo_booth_211 ?_
      refine aw_bD (fun δ_211 => ?_)
      refine aw_iinc (v := (v5_187 + (1 : Int32))) (lo' := [(5, .int (v5_187 + (1 : Int32))), (0, .ref 151), (1, .int a1), (2, .int a2), (3, .int a3), (4, .int v56)]) d_Mo_booth_212 5 rfl (by rw [show Int32.ofInt (1) = (1 : Int32) from by decide]) (by decide) rfl ?_
      refine aw_goto (tgt := 187) d_Mo_booth_215 rfl ?_
      refine aw_sub (lo' := [(0, .ref 151), (1, .int a1), (2, .int a2), (3, .int a3), (4, .int v56), (5, .int (v5_187 + (1 : Int32)))]) [1, 2, 3, 4, 5, 0] rfl ?_
      exact ih _ _
def lp_Mo_booth_151 (kx151_184 : Int32 → Dm → Option (Int32 × Dm)) (a1 : Int32) (a2 : Int32) (a3 : Int32) (v56 : Int32) : Nat → Int32 → Dm → Option (Int32 × Dm)
  | 0, _, _ => none
  | f + 1, v5_151, δ151 => (if (400 : Int32) ≤ v5_151 then (kx151_184 v5_151 δ151) else (if inb (((726 : Int32) + ((400 : Int32) * v56)) + v5_151) 8918 then bnd (sI δ151 152 (ix (((726 : Int32) + ((400 : Int32) * v56)) + v5_151)) (0 : Int32)) (fun δ_177 => (lp_Mo_booth_151 kx151_184 a1 a2 a3 v56 f (v5_151 + (1 : Int32)) δ_177)) else none))
set_option maxHeartbeats 4000000 in
set_option maxRecDepth 100000 in
theorem tl_Mo_booth_151 {n : Nat} (kx151_184 : Int32 → Dm → Option (Int32 × Dm)) (a1 : Int32) (a2 : Int32) (a3 : Int32) (v56 : Int32) (hkx151_184 : ∀ v5_151k δ151k, AWo k_Mo_booth 3 0 0 184 [(0, .ref 151), (1, .int a1), (2, .int a2), (3, .int a3), (4, .int v56), (5, .int v5_151k)] [] δ151k RT n 0 0 (Km RT n) (kx151_184 v5_151k δ151k)) : ∀ (f : Nat) (v5_151 : Int32) (δ151 : Dm), AWo k_Mo_booth 3 0 0 151 [(0, .ref 151), (1, .int a1), (2, .int a2), (3, .int a3), (4, .int v56), (5, .int v5_151)] [] δ151 RT n 0 0 (Km RT n) (lp_Mo_booth_151 kx151_184 a1 a2 a3 v56 f v5_151 δ151) := by
  intro f
  induction f with
  | zero => intro _ _; exact aw_none
  | succ f ih =>
    intro v5_151 δ151
    rw [lp_Mo_booth_151]
    refine aw_iload d_Mo_booth_151 5 rfl ?_
    refine aw_sipush d_Mo_booth_153 ks_400 ?_
    refine aw_icmp_ge (tgt := 184) d_Mo_booth_156 rfl (fun q156 => ?_) (fun q156 => ?_)
    · refine aw_sub (lo' := [(0, .ref 151), (1, .int a1), (2, .int a2), (3, .int a3), (4, .int v56), (5, .int v5_151)]) [0, 1, 2, 3, 4, 5] rfl ?_
      exact hkx151_184 _ _
    · refine aw_aload_n d_Mo_booth_159 0 rfl ?_
      refine aw_getR (t := 152) fl_Mo_7 kd_151 rt_151_0 d_Mo_booth_160 ?_
      refine aw_sipush d_Mo_booth_163 ks_726 ?_
      refine aw_sipush d_Mo_booth_166 ks_400 ?_
      refine aw_iload d_Mo_booth_169 4 rfl ?_
      refine aw_imul d_Mo_booth_171 ?_
      refine aw_iadd d_Mo_booth_172 ?_
      refine aw_iload d_Mo_booth_173 5 rfl ?_
      refine aw_iadd d_Mo_booth_175 ?_
      refine aw_iconst d_Mo_booth_176 ki_0 ?_
      refine aw_iast kd_152 d_Mo_booth_177 ?_
      refine aw_bD (fun δ_177 => ?_)
      refine aw_iinc (v := (v5_151 + (1 : Int32))) (lo' := [(5, .int (v5_151 + (1 : Int32))), (0, .ref 151), (1, .int a1), (2, .int a2), (3, .int a3), (4, .int v56)]) d_Mo_booth_178 5 rfl (by rw [show Int32.ofInt (1) = (1 : Int32) from by decide]) (by decide) rfl ?_
      refine aw_goto (tgt := 151) d_Mo_booth_181 rfl ?_
      refine aw_sub (lo' := [(0, .ref 151), (1, .int a1), (2, .int a2), (3, .int a3), (4, .int v56), (5, .int (v5_151 + (1 : Int32)))]) [1, 2, 3, 4, 5, 0] rfl ?_
      exact ih _ _
def lp_Mo_booth_110 (kx110_134 : Int32 → Dm → Option (Int32 × Dm)) (a1 : Int32) (a2 : Int32) (a3 : Int32) (v56 : Int32) : Nat → Int32 → Dm → Option (Int32 × Dm)
  | 0, _, _ => none
  | f + 1, v5_110, δ110 => (if (6 : Int32) ≤ v5_110 then (kx110_134 v5_110 δ110) else ((f_Mo_sets v56 v5_110 (1000 : Int32) δ110).bind (fun y125 => (lp_Mo_booth_110 kx110_134 a1 a2 a3 v56 f (v5_110 + (1 : Int32)) y125))))
set_option maxHeartbeats 4000000 in
set_option maxRecDepth 100000 in
theorem tl_Mo_booth_110 {n : Nat} (kx110_134 : Int32 → Dm → Option (Int32 × Dm)) (a1 : Int32) (a2 : Int32) (a3 : Int32) (v56 : Int32) (hkx110_134 : ∀ v5_110k δ110k, AWo k_Mo_booth 3 0 0 134 [(0, .ref 151), (1, .int a1), (2, .int a2), (3, .int a3), (4, .int v56), (5, .int v5_110k)] [] δ110k RT n 0 0 (Km RT n) (kx110_134 v5_110k δ110k)) : ∀ (f : Nat) (v5_110 : Int32) (δ110 : Dm), AWo k_Mo_booth 3 0 0 110 [(0, .ref 151), (1, .int a1), (2, .int a2), (3, .int a3), (4, .int v56), (5, .int v5_110)] [] δ110 RT n 0 0 (Km RT n) (lp_Mo_booth_110 kx110_134 a1 a2 a3 v56 f v5_110 δ110) := by
  intro f
  induction f with
  | zero => intro _ _; exact aw_none
  | succ f ih =>
    intro v5_110 δ110
    rw [lp_Mo_booth_110]
    refine aw_iload d_Mo_booth_110 5 rfl ?_
    refine aw_bipush d_Mo_booth_112 kb_6 ?_
    refine aw_icmp_ge (tgt := 134) d_Mo_booth_114 rfl (fun q114 => ?_) (fun q114 => ?_)
    · refine aw_sub (lo' := [(0, .ref 151), (1, .int a1), (2, .int a2), (3, .int a3), (4, .int v56), (5, .int v5_110)]) [0, 1, 2, 3, 4, 5] rfl ?_
      exact hkx110_134 _ _
    · refine aw_aload_n d_Mo_booth_117 0 rfl ?_
      refine aw_iload d_Mo_booth_118 4 rfl ?_
      refine aw_iload d_Mo_booth_120 5 rfl ?_
      refine aw_sipush d_Mo_booth_122 ks_1000 ?_
      refine aw_V_v (As := [.int v56, .int v5_110, .int (1000 : Int32)]) (m_Mo_sets) cv_Mo_274 kd_151 rfl rfl rfl (Nat.le_of_ble_eq_true rfl) ⟨Nat.le_of_ble_eq_true rfl, Nat.le_of_ble_eq_true rfl⟩ ⟨Nat.le_refl _, Nat.le_refl _⟩ d_Mo_booth_125 (fun y125 => ?_)
      refine aw_iinc (v := (v5_110 + (1 : Int32))) (lo' := [(5, .int (v5_110 + (1 : Int32))), (0, .ref 151), (1, .int a1), (2, .int a2), (3, .int a3), (4, .int v56)]) d_Mo_booth_128 5 rfl (by rw [show Int32.ofInt (1) = (1 : Int32) from by decide]) (by decide) rfl ?_
      refine aw_goto (tgt := 110) d_Mo_booth_131 rfl ?_
      refine aw_sub (lo' := [(0, .ref 151), (1, .int a1), (2, .int a2), (3, .int a3), (4, .int v56), (5, .int (v5_110 + (1 : Int32)))]) [1, 2, 3, 4, 5, 0] rfl ?_
      exact ih _ _
def lp_Mo_booth_61 (kx61_83 : Int32 → Dm → Option (Int32 × Dm)) (a1 : Int32) (a2 : Int32) (a3 : Int32) (v56 : Int32) : Nat → Int32 → Dm → Option (Int32 × Dm)
  | 0, _, _ => none
  | f + 1, v5_61, δ61 => (if (12 : Int32) ≤ v5_61 then (kx61_83 v5_61 δ61) else ((f_Mo_sets v56 v5_61 (0 : Int32) δ61).bind (fun y74 => (lp_Mo_booth_61 kx61_83 a1 a2 a3 v56 f (v5_61 + (1 : Int32)) y74))))
set_option maxHeartbeats 4000000 in
set_option maxRecDepth 100000 in
theorem tl_Mo_booth_61 {n : Nat} (kx61_83 : Int32 → Dm → Option (Int32 × Dm)) (a1 : Int32) (a2 : Int32) (a3 : Int32) (v56 : Int32) (hkx61_83 : ∀ v5_61k δ61k, AWo k_Mo_booth 3 0 0 83 [(0, .ref 151), (1, .int a1), (2, .int a2), (3, .int a3), (4, .int v56), (5, .int v5_61k)] [] δ61k RT n 0 0 (Km RT n) (kx61_83 v5_61k δ61k)) : ∀ (f : Nat) (v5_61 : Int32) (δ61 : Dm), AWo k_Mo_booth 3 0 0 61 [(0, .ref 151), (1, .int a1), (2, .int a2), (3, .int a3), (4, .int v56), (5, .int v5_61)] [] δ61 RT n 0 0 (Km RT n) (lp_Mo_booth_61 kx61_83 a1 a2 a3 v56 f v5_61 δ61) := by
  intro f
  induction f with
  | zero => intro _ _; exact aw_none
  | succ f ih =>
    intro v5_61 δ61
    rw [lp_Mo_booth_61]
    refine aw_iload d_Mo_booth_61 5 rfl ?_
    refine aw_bipush d_Mo_booth_63 kb_12 ?_
    refine aw_icmp_ge (tgt := 83) d_Mo_booth_65 rfl (fun q65 => ?_) (fun q65 => ?_)
    · refine aw_sub (lo' := [(0, .ref 151), (1, .int a1), (2, .int a2), (3, .int a3), (4, .int v56), (5, .int v5_61)]) [0, 1, 2, 3, 4, 5] rfl ?_
      exact hkx61_83 _ _
    · refine aw_aload_n d_Mo_booth_68 0 rfl ?_
      refine aw_iload d_Mo_booth_69 4 rfl ?_
      refine aw_iload d_Mo_booth_71 5 rfl ?_
      refine aw_iconst d_Mo_booth_73 ki_0 ?_
      refine aw_V_v (As := [.int v56, .int v5_61, .int (0 : Int32)]) (m_Mo_sets) cv_Mo_274 kd_151 rfl rfl rfl (Nat.le_of_ble_eq_true rfl) ⟨Nat.le_of_ble_eq_true rfl, Nat.le_of_ble_eq_true rfl⟩ ⟨Nat.le_refl _, Nat.le_refl _⟩ d_Mo_booth_74 (fun y74 => ?_)
      refine aw_iinc (v := (v5_61 + (1 : Int32))) (lo' := [(5, .int (v5_61 + (1 : Int32))), (0, .ref 151), (1, .int a1), (2, .int a2), (3, .int a3), (4, .int v56)]) d_Mo_booth_77 5 rfl (by rw [show Int32.ofInt (1) = (1 : Int32) from by decide]) (by decide) rfl ?_
      refine aw_goto (tgt := 61) d_Mo_booth_80 rfl ?_
      refine aw_sub (lo' := [(0, .ref 151), (1, .int a1), (2, .int a2), (3, .int a3), (4, .int v56), (5, .int (v5_61 + (1 : Int32)))]) [1, 2, 3, 4, 5, 0] rfl ?_
      exact ih _ _
def f_Mo_booth (a1 : Int32) (a2 : Int32) (a3 : Int32) (δ : Dm) : Option (Int32 × Dm) := (if inb (2 : Int32) 8918 then (if (gI δ 152 (ix (2 : Int32))) = (8 : Int32) then (some ((-1 : Int32), δ)) else ((f_Mo_isPlace a1 δ).bind (fun y13 => (if y13 = 0 then (some ((-1 : Int32), δ)) else ((f_Mo_at a1 δ).bind (fun y21 => (if y21 = (-1 : Int32) then ((f_Mo_in ((a2).toInt64) (1 : Int64) (999 : Int64) δ).bind (fun y34 => (if y34 = 0 then (some ((-1 : Int32), δ)) else ((f_Mo_isLaw a3 δ).bind (fun y42 => (if y42 = 0 then (some ((-1 : Int32), δ)) else (if inb (2 : Int32) 8918 then (bnd (gI δ 152 (ix (2 : Int32))) (fun v56 => (lp_Mo_booth_61 (fun v5_61x δ61x => ((f_Mo_sets v56 (0 : Int32) a1 δ61x).bind (fun y88 => ((f_Mo_sets v56 (1 : Int32) a2 y88).bind (fun y96 => ((f_Mo_sets v56 (2 : Int32) a3 y96).bind (fun y104 => (lp_Mo_booth_110 (fun v5_110x δ110x => (if inb (0 : Int32) 8918 then ((f_Mo_sets v56 (10 : Int32) (gI δ110x 152 (ix (0 : Int32))) δ110x).bind (fun y145 => (lp_Mo_booth_151 (fun v5_151x δ151x => (lp_Mo_booth_187 (fun v5_187x δ187x => (if inb (2 : Int32) 8918 then (if inb (2 : Int32) 8918 then bnd (sI δ187x 152 (ix (2 : Int32)) ((gI δ187x 152 (ix (2 : Int32))) + (1 : Int32))) (fun δ_227 => (some (v56, δ_227))) else none) else none)) a1 a2 a3 v56 FU (0 : Int32) δ151x)) a1 a2 a3 v56 FU (0 : Int32) y145))) else none)) a1 a2 a3 v56 FU (3 : Int32) y104)))))))) a1 a2 a3 v56 FU (0 : Int32) δ))) else none))))))) else (some ((-1 : Int32), δ))))))))) else none)
set_option maxHeartbeats 4000000 in
set_option maxRecDepth 100000 in
theorem m_Mo_booth {a1 : Int32} {a2 : Int32} {a3 : Int32} {δ : Dm} {n : Nat} : ∀ x, f_Mo_booth a1 a2 a3 δ = some x → AMet k_Mo_booth 3 0 0 [.ref 151, .int a1, .int a2, .int a3] δ RT n (Km RT n x) := by
  refine aw_start (lo := [(0, .ref 151), (1, .int a1), (2, .int a2), (3, .int a3)]) mok_Mo_booth rfl (Nat.le_of_ble_eq_true rfl) ?_
  unfold f_Mo_booth
  refine aw_aload_n d_Mo_booth_0 0 rfl ?_
  refine aw_getR (t := 152) fl_Mo_7 kd_151 rt_151_0 d_Mo_booth_1 ?_
  refine aw_iconst d_Mo_booth_4 ki_2 ?_
  refine aw_iald kd_152 d_Mo_booth_5 ?_
  refine aw_bipush d_Mo_booth_6 kb_8 ?_
  refine aw_icmp_eq (tgt := 48) d_Mo_booth_8 rfl (fun q8 => ?_) (fun q8 => ?_)
  · refine aw_iconst d_Mo_booth_48 ki_m1 ?_
    exact aw_iret rfl rfl ⟨Nat.le_refl _, Nat.le_refl _⟩ d_Mo_booth_49
  · refine aw_aload_n d_Mo_booth_11 0 rfl ?_
    refine aw_iload_n d_Mo_booth_12 1 rfl ?_
    refine aw_V_p (As := [.int a1]) (m_Mo_isPlace) cv_Mo_68 kd_151 rfl rfl rfl (Nat.le_of_ble_eq_true rfl) ⟨Nat.le_of_ble_eq_true rfl, Nat.le_of_ble_eq_true rfl⟩ ⟨Nat.le_refl _, Nat.le_refl _⟩ d_Mo_booth_13 (fun y13 => ?_)
    refine aw_if_eq (tgt := 48) d_Mo_booth_16 rfl (fun q16 => ?_) (fun q16 => ?_)
    · refine aw_iconst d_Mo_booth_48 ki_m1 ?_
      exact aw_iret rfl rfl ⟨Nat.le_refl _, Nat.le_refl _⟩ d_Mo_booth_49
    · refine aw_aload_n d_Mo_booth_19 0 rfl ?_
      refine aw_iload_n d_Mo_booth_20 1 rfl ?_
      refine aw_V_p (As := [.int a1]) (m_Mo_at) cv_Mo_268 kd_151 rfl rfl rfl (Nat.le_of_ble_eq_true rfl) ⟨Nat.le_of_ble_eq_true rfl, Nat.le_of_ble_eq_true rfl⟩ ⟨Nat.le_refl _, Nat.le_refl _⟩ d_Mo_booth_21 (fun y21 => ?_)
      refine aw_iconst d_Mo_booth_24 ki_m1 ?_
      refine aw_icmp_ne (tgt := 48) d_Mo_booth_25 rfl (fun q25 => ?_) (fun q25 => ?_)
      · refine aw_iload_n d_Mo_booth_28 2 rfl ?_
        refine aw_i2l d_Mo_booth_29 ?_
        refine aw_lconst d_Mo_booth_30 kl_1 ?_
        refine aw_ldc2 (v := (999 : Int64)) d_Mo_booth_31 kc_Mo_72 ?_
        refine aw_S_p (As := [.long ((a2).toInt64), .long (1 : Int64), .long (999 : Int64)]) (m_Mo_in) cs_Mo_64 rfl rfl (Nat.le_of_ble_eq_true rfl) ⟨Nat.le_of_ble_eq_true rfl, Nat.le_of_ble_eq_true rfl⟩ ⟨Nat.le_refl _, Nat.le_refl _⟩ d_Mo_booth_34 (fun y34 => ?_)
        refine aw_if_eq (tgt := 48) d_Mo_booth_37 rfl (fun q37 => ?_) (fun q37 => ?_)
        · refine aw_iconst d_Mo_booth_48 ki_m1 ?_
          exact aw_iret rfl rfl ⟨Nat.le_refl _, Nat.le_refl _⟩ d_Mo_booth_49
        · refine aw_aload_n d_Mo_booth_40 0 rfl ?_
          refine aw_iload_n d_Mo_booth_41 3 rfl ?_
          refine aw_V_p (As := [.int a3]) (m_Mo_isLaw) cv_Mo_271 kd_151 rfl rfl rfl (Nat.le_of_ble_eq_true rfl) ⟨Nat.le_of_ble_eq_true rfl, Nat.le_of_ble_eq_true rfl⟩ ⟨Nat.le_refl _, Nat.le_refl _⟩ d_Mo_booth_42 (fun y42 => ?_)
          refine aw_if_ne (tgt := 50) d_Mo_booth_45 rfl (fun q45 => ?_) (fun q45 => ?_)
          · refine aw_iconst d_Mo_booth_48 ki_m1 ?_
            exact aw_iret rfl rfl ⟨Nat.le_refl _, Nat.le_refl _⟩ d_Mo_booth_49
          · refine aw_aload_n d_Mo_booth_50 0 rfl ?_
            refine aw_getR (t := 152) fl_Mo_7 kd_151 rt_151_0 d_Mo_booth_51 ?_
            refine aw_iconst d_Mo_booth_54 ki_2 ?_
            refine aw_iald kd_152 d_Mo_booth_55 ?_
            refine aw_bI (fun v56 => ?_)
            refine aw_istore (lo' := [(4, .int v56), (0, .ref 151), (1, .int a1), (2, .int a2), (3, .int a3)]) d_Mo_booth_56 (by decide) rfl ?_
            refine aw_iconst d_Mo_booth_58 ki_0 ?_
            refine aw_istore (lo' := [(5, .int (0 : Int32)), (4, .int v56), (0, .ref 151), (1, .int a1), (2, .int a2), (3, .int a3)]) d_Mo_booth_59 (by decide) rfl ?_
            refine aw_sub (lo' := [(0, .ref 151), (1, .int a1), (2, .int a2), (3, .int a3), (4, .int v56), (5, .int (0 : Int32))]) [2, 3, 4, 5, 1, 0] rfl ?_
            refine tl_Mo_booth_61 _ _ _ _ _ (fun v5_61x δ61x => ?_) FU _ _
            · refine aw_aload_n d_Mo_booth_83 0 rfl ?_
              refine aw_iload d_Mo_booth_84 4 rfl ?_
              refine aw_iconst d_Mo_booth_86 ki_0 ?_
              refine aw_iload_n d_Mo_booth_87 1 rfl ?_
              refine aw_V_v (As := [.int v56, .int (0 : Int32), .int a1]) (m_Mo_sets) cv_Mo_274 kd_151 rfl rfl rfl (Nat.le_of_ble_eq_true rfl) ⟨Nat.le_of_ble_eq_true rfl, Nat.le_of_ble_eq_true rfl⟩ ⟨Nat.le_refl _, Nat.le_refl _⟩ d_Mo_booth_88 (fun y88 => ?_)
              refine aw_aload_n d_Mo_booth_91 0 rfl ?_
              refine aw_iload d_Mo_booth_92 4 rfl ?_
              refine aw_iconst d_Mo_booth_94 ki_1 ?_
              refine aw_iload_n d_Mo_booth_95 2 rfl ?_
              refine aw_V_v (As := [.int v56, .int (1 : Int32), .int a2]) (m_Mo_sets) cv_Mo_274 kd_151 rfl rfl rfl (Nat.le_of_ble_eq_true rfl) ⟨Nat.le_of_ble_eq_true rfl, Nat.le_of_ble_eq_true rfl⟩ ⟨Nat.le_refl _, Nat.le_refl _⟩ d_Mo_booth_96 (fun y96 => ?_)
              refine aw_aload_n d_Mo_booth_99 0 rfl ?_
              refine aw_iload d_Mo_booth_100 4 rfl ?_
              refine aw_iconst d_Mo_booth_102 ki_2 ?_
              refine aw_iload_n d_Mo_booth_103 3 rfl ?_
              refine aw_V_v (As := [.int v56, .int (2 : Int32), .int a3]) (m_Mo_sets) cv_Mo_274 kd_151 rfl rfl rfl (Nat.le_of_ble_eq_true rfl) ⟨Nat.le_of_ble_eq_true rfl, Nat.le_of_ble_eq_true rfl⟩ ⟨Nat.le_refl _, Nat.le_refl _⟩ d_Mo_booth_104 (fun y104 => ?_)
              refine aw_iconst d_Mo_booth_107 ki_3 ?_
              refine aw_istore (lo' := [(5, .int (3 : Int32)), (0, .ref 151), (1, .int a1), (2, .int a2), (3, .int a3), (4, .int v56)]) d_Mo_booth_108 (by decide) rfl ?_
              refine aw_sub (lo' := [(0, .ref 151), (1, .int a1), (2, .int a2), (3, .int a3), (4, .int v56), (5, .int (3 : Int32))]) [1, 2, 3, 4, 5, 0] rfl ?_
              refine tl_Mo_booth_110 _ _ _ _ _ (fun v5_110x δ110x => ?_) FU _ _
              · refine aw_aload_n d_Mo_booth_134 0 rfl ?_
                refine aw_iload d_Mo_booth_135 4 rfl ?_
                refine aw_bipush d_Mo_booth_137 kb_10 ?_
                refine aw_aload_n d_Mo_booth_139 0 rfl ?_
                refine aw_getR (t := 152) fl_Mo_7 kd_151 rt_151_0 d_Mo_booth_140 ?_
                refine aw_iconst d_Mo_booth_143 ki_0 ?_
                refine aw_iald kd_152 d_Mo_booth_144 ?_
                refine aw_V_v (As := [.int v56, .int (10 : Int32), .int (gI δ110x 152 (ix (0 : Int32)))]) (m_Mo_sets) cv_Mo_274 kd_151 rfl rfl rfl (Nat.le_of_ble_eq_true rfl) ⟨Nat.le_of_ble_eq_true rfl, Nat.le_of_ble_eq_true rfl⟩ ⟨Nat.le_refl _, Nat.le_refl _⟩ d_Mo_booth_145 (fun y145 => ?_)
                refine aw_iconst d_Mo_booth_148 ki_0 ?_
                refine aw_istore (lo' := [(5, .int (0 : Int32)), (0, .ref 151), (1, .int a1), (2, .int a2), (3, .int a3), (4, .int v56)]) d_Mo_booth_149 (by decide) rfl ?_
                refine aw_sub (lo' := [(0, .ref 151), (1, .int a1), (2, .int a2), (3, .int a3), (4, .int v56), (5, .int (0 : Int32))]) [1, 2, 3, 4, 5, 0] rfl ?_
                refine tl_Mo_booth_151 _ _ _ _ _ (fun v5_151x δ151x => ?_) FU _ _
                · refine aw_iconst d_Mo_booth_184 ki_0 ?_
                  refine aw_istore (lo' := [(5, .int (0 : Int32)), (0, .ref 151), (1, .int a1), (2, .int a2), (3, .int a3), (4, .int v56)]) d_Mo_booth_185 (by decide) rfl ?_
                  refine aw_sub (lo' := [(0, .ref 151), (1, .int a1), (2, .int a2), (3, .int a3), (4, .int v56), (5, .int (0 : Int32))]) [1, 2, 3, 4, 5, 0] rfl ?_
                  refine tl_Mo_booth_187 _ _ _ _ _ (fun v5_187x δ187x => ?_) FU _ _
                  · refine aw_aload_n d_Mo_booth_218 0 rfl ?_
                    refine aw_getR (t := 152) fl_Mo_7 kd_151 rt_151_0 d_Mo_booth_219 ?_
                    refine aw_iconst d_Mo_booth_222 ki_2 ?_
                    refine aw_dup2 d_Mo_booth_223 rfl rfl ?_
                    refine aw_iald kd_152 d_Mo_booth_224 ?_
                    refine aw_iconst d_Mo_booth_225 ki_1 ?_
                    refine aw_iadd d_Mo_booth_226 ?_
                    refine aw_iast kd_152 d_Mo_booth_227 ?_
                    refine aw_bD (fun δ_227 => ?_)
                    refine aw_iload d_Mo_booth_228 4 rfl ?_
                    exact aw_iret rfl rfl ⟨Nat.le_refl _, Nat.le_refl _⟩ d_Mo_booth_230
      · refine aw_iconst d_Mo_booth_48 ki_m1 ?_
        exact aw_iret rfl rfl ⟨Nat.le_refl _, Nat.le_refl _⟩ d_Mo_booth_49
def f_Mo_isBooth (a1 : Int32) (δ : Dm) : Option Int32 := (if a1 < 0 then (some (0 : Int32)) else (if inb (2 : Int32) 8918 then (if (gI δ 152 (ix (2 : Int32))) ≤ a1 then (some (0 : Int32)) else (some (1 : Int32))) else none))
set_option maxHeartbeats 4000000 in
set_option maxRecDepth 100000 in
theorem m_Mo_isBooth {a1 : Int32} {δ : Dm} {n : Nat} : ∀ x, f_Mo_isBooth a1 δ = some x → AMet k_Mo_isBooth 1 0 0 [.ref 151, .int a1] δ RT n (Kp δ RT n x) := by
  refine aw_start (lo := [(0, .ref 151), (1, .int a1)]) mok_Mo_isBooth rfl (Nat.le_of_ble_eq_true rfl) ?_
  unfold f_Mo_isBooth
  refine aw_iload_n d_Mo_isBooth_0 1 rfl ?_
  refine aw_if_lt (tgt := 18) d_Mo_isBooth_1 rfl (fun q1 => ?_) (fun q1 => ?_)
  · refine aw_iconst d_Mo_isBooth_18 ki_0 ?_
    exact aw_zret rfl rfl rfl ⟨Nat.le_refl _, Nat.le_refl _⟩ d_Mo_isBooth_19
  · refine aw_iload_n d_Mo_isBooth_4 1 rfl ?_
    refine aw_aload_n d_Mo_isBooth_5 0 rfl ?_
    refine aw_getR (t := 152) fl_Mo_7 kd_151 rt_151_0 d_Mo_isBooth_6 ?_
    refine aw_iconst d_Mo_isBooth_9 ki_2 ?_
    refine aw_iald kd_152 d_Mo_isBooth_10 ?_
    refine aw_icmp_ge (tgt := 18) d_Mo_isBooth_11 rfl (fun q11 => ?_) (fun q11 => ?_)
    · refine aw_iconst d_Mo_isBooth_18 ki_0 ?_
      exact aw_zret rfl rfl rfl ⟨Nat.le_refl _, Nat.le_refl _⟩ d_Mo_isBooth_19
    · refine aw_iconst d_Mo_isBooth_14 ki_1 ?_
      refine aw_goto (tgt := 19) d_Mo_isBooth_15 rfl ?_
      exact aw_zret rfl rfl rfl ⟨Nat.le_refl _, Nat.le_refl _⟩ d_Mo_isBooth_19
def f_Mo_move (a1 : Int32) (a2 : Int32) (δ : Dm) : Option (Int32 × Dm) := ((f_Mo_isBooth a1 δ).bind (fun y2 => (if y2 = 0 then (some ((-1 : Int32), δ)) else ((f_Mo_isPlace a2 δ).bind (fun y10 => (if y10 = 0 then (some ((-1 : Int32), δ)) else ((f_Mo_at a2 δ).bind (fun y18 => (if y18 = (-1 : Int32) then ((f_Mo_cell a1 (0 : Int32) δ).bind (fun y30 => ((f_Mo_sets a1 (0 : Int32) a2 δ).bind (fun y38 => (some (y30, y38)))))) else (some ((-1 : Int32), δ)))))))))))
set_option maxHeartbeats 4000000 in
set_option maxRecDepth 100000 in
theorem m_Mo_move {a1 : Int32} {a2 : Int32} {δ : Dm} {n : Nat} : ∀ x, f_Mo_move a1 a2 δ = some x → AMet k_Mo_move 3 0 0 [.ref 151, .int a1, .int a2] δ RT n (Km RT n x) := by
  refine aw_start (lo := [(0, .ref 151), (1, .int a1), (2, .int a2)]) mok_Mo_move rfl (Nat.le_of_ble_eq_true rfl) ?_
  unfold f_Mo_move
  refine aw_aload_n d_Mo_move_0 0 rfl ?_
  refine aw_iload_n d_Mo_move_1 1 rfl ?_
  refine aw_V_p (As := [.int a1]) (m_Mo_isBooth) cv_Mo_278 kd_151 rfl rfl rfl (Nat.le_of_ble_eq_true rfl) ⟨Nat.le_of_ble_eq_true rfl, Nat.le_of_ble_eq_true rfl⟩ ⟨Nat.le_refl _, Nat.le_refl _⟩ d_Mo_move_2 (fun y2 => ?_)
  refine aw_if_eq (tgt := 25) d_Mo_move_5 rfl (fun q5 => ?_) (fun q5 => ?_)
  · refine aw_iconst d_Mo_move_25 ki_m1 ?_
    exact aw_iret rfl rfl ⟨Nat.le_refl _, Nat.le_refl _⟩ d_Mo_move_26
  · refine aw_aload_n d_Mo_move_8 0 rfl ?_
    refine aw_iload_n d_Mo_move_9 2 rfl ?_
    refine aw_V_p (As := [.int a2]) (m_Mo_isPlace) cv_Mo_68 kd_151 rfl rfl rfl (Nat.le_of_ble_eq_true rfl) ⟨Nat.le_of_ble_eq_true rfl, Nat.le_of_ble_eq_true rfl⟩ ⟨Nat.le_refl _, Nat.le_refl _⟩ d_Mo_move_10 (fun y10 => ?_)
    refine aw_if_eq (tgt := 25) d_Mo_move_13 rfl (fun q13 => ?_) (fun q13 => ?_)
    · refine aw_iconst d_Mo_move_25 ki_m1 ?_
      exact aw_iret rfl rfl ⟨Nat.le_refl _, Nat.le_refl _⟩ d_Mo_move_26
    · refine aw_aload_n d_Mo_move_16 0 rfl ?_
      refine aw_iload_n d_Mo_move_17 2 rfl ?_
      refine aw_V_p (As := [.int a2]) (m_Mo_at) cv_Mo_268 kd_151 rfl rfl rfl (Nat.le_of_ble_eq_true rfl) ⟨Nat.le_of_ble_eq_true rfl, Nat.le_of_ble_eq_true rfl⟩ ⟨Nat.le_refl _, Nat.le_refl _⟩ d_Mo_move_18 (fun y18 => ?_)
      refine aw_iconst d_Mo_move_21 ki_m1 ?_
      refine aw_icmp_eq (tgt := 27) d_Mo_move_22 rfl (fun q22 => ?_) (fun q22 => ?_)
      · refine aw_aload_n d_Mo_move_27 0 rfl ?_
        refine aw_iload_n d_Mo_move_28 1 rfl ?_
        refine aw_iconst d_Mo_move_29 ki_0 ?_
        refine aw_V_p (As := [.int a1, .int (0 : Int32)]) (m_Mo_cell) cv_Mo_265 kd_151 rfl rfl rfl (Nat.le_of_ble_eq_true rfl) ⟨Nat.le_of_ble_eq_true rfl, Nat.le_of_ble_eq_true rfl⟩ ⟨Nat.le_refl _, Nat.le_refl _⟩ d_Mo_move_30 (fun y30 => ?_)
        refine aw_istore_n (lo' := [(3, .int y30), (0, .ref 151), (1, .int a1), (2, .int a2)]) d_Mo_move_33 rfl (by decide) rfl ?_
        refine aw_aload_n d_Mo_move_34 1 rfl ?_
        refine aw_iload_n d_Mo_move_35 2 rfl ?_
        refine aw_iconst d_Mo_move_36 ki_0 ?_
        refine aw_iload_n d_Mo_move_37 3 rfl ?_
        refine aw_V_v (As := [.int a1, .int (0 : Int32), .int a2]) (m_Mo_sets) cv_Mo_274 kd_151 rfl rfl rfl (Nat.le_of_ble_eq_true rfl) ⟨Nat.le_of_ble_eq_true rfl, Nat.le_of_ble_eq_true rfl⟩ ⟨Nat.le_refl _, Nat.le_refl _⟩ d_Mo_move_38 (fun y38 => ?_)
        refine aw_iload_n d_Mo_move_41 0 rfl ?_
        exact aw_iret rfl rfl ⟨Nat.le_refl _, Nat.le_refl _⟩ d_Mo_move_42
      · refine aw_iconst d_Mo_move_25 ki_m1 ?_
        exact aw_iret rfl rfl ⟨Nat.le_refl _, Nat.le_refl _⟩ d_Mo_move_26
def f_Mo_paper (a1 : Int32) (a2 : Int32) (δ : Dm) : Option (Int32 × Dm) := ((f_Mo_isBooth a1 δ).bind (fun y2 => (if y2 = 0 then (some ((-1 : Int32), δ)) else ((f_Mo_in ((a2).toInt64) (1 : Int64) (9999 : Int64) δ).bind (fun y14 => (if y14 = 0 then (some ((-1 : Int32), δ)) else ((f_Mo_cell a1 (6 : Int32) δ).bind (fun y24 => (if (y24 + a2) ≤ (9999 : Int32) then ((f_Mo_cell a1 (6 : Int32) δ).bind (fun y45 => ((f_Mo_sets a1 (6 : Int32) (y45 + a2) δ).bind (fun y50 => ((f_Mo_cell a1 (6 : Int32) y50).bind (fun y57 => (some (y57, y50)))))))) else (some ((-1 : Int32), δ)))))))))))
set_option maxHeartbeats 4000000 in
set_option maxRecDepth 100000 in
theorem m_Mo_paper {a1 : Int32} {a2 : Int32} {δ : Dm} {n : Nat} : ∀ x, f_Mo_paper a1 a2 δ = some x → AMet k_Mo_paper 2 0 0 [.ref 151, .int a1, .int a2] δ RT n (Km RT n x) := by
  refine aw_start (lo := [(0, .ref 151), (1, .int a1), (2, .int a2)]) mok_Mo_paper rfl (Nat.le_of_ble_eq_true rfl) ?_
  unfold f_Mo_paper
  refine aw_aload_n d_Mo_paper_0 0 rfl ?_
  refine aw_iload_n d_Mo_paper_1 1 rfl ?_
  refine aw_V_p (As := [.int a1]) (m_Mo_isBooth) cv_Mo_278 kd_151 rfl rfl rfl (Nat.le_of_ble_eq_true rfl) ⟨Nat.le_of_ble_eq_true rfl, Nat.le_of_ble_eq_true rfl⟩ ⟨Nat.le_refl _, Nat.le_refl _⟩ d_Mo_paper_2 (fun y2 => ?_)
  refine aw_if_eq (tgt := 35) d_Mo_paper_5 rfl (fun q5 => ?_) (fun q5 => ?_)
  · refine aw_iconst d_Mo_paper_35 ki_m1 ?_
    exact aw_iret rfl rfl ⟨Nat.le_refl _, Nat.le_refl _⟩ d_Mo_paper_36
  · refine aw_iload_n d_Mo_paper_8 2 rfl ?_
    refine aw_i2l d_Mo_paper_9 ?_
    refine aw_lconst d_Mo_paper_10 kl_1 ?_
    refine aw_ldc2 (v := (9999 : Int64)) d_Mo_paper_11 kc_Mo_281 ?_
    refine aw_S_p (As := [.long ((a2).toInt64), .long (1 : Int64), .long (9999 : Int64)]) (m_Mo_in) cs_Mo_64 rfl rfl (Nat.le_of_ble_eq_true rfl) ⟨Nat.le_of_ble_eq_true rfl, Nat.le_of_ble_eq_true rfl⟩ ⟨Nat.le_refl _, Nat.le_refl _⟩ d_Mo_paper_14 (fun y14 => ?_)
    refine aw_if_eq (tgt := 35) d_Mo_paper_17 rfl (fun q17 => ?_) (fun q17 => ?_)
    · refine aw_iconst d_Mo_paper_35 ki_m1 ?_
      exact aw_iret rfl rfl ⟨Nat.le_refl _, Nat.le_refl _⟩ d_Mo_paper_36
    · refine aw_aload_n d_Mo_paper_20 0 rfl ?_
      refine aw_iload_n d_Mo_paper_21 1 rfl ?_
      refine aw_bipush d_Mo_paper_22 kb_6 ?_
      refine aw_V_p (As := [.int a1, .int (6 : Int32)]) (m_Mo_cell) cv_Mo_265 kd_151 rfl rfl rfl (Nat.le_of_ble_eq_true rfl) ⟨Nat.le_of_ble_eq_true rfl, Nat.le_of_ble_eq_true rfl⟩ ⟨Nat.le_refl _, Nat.le_refl _⟩ d_Mo_paper_24 (fun y24 => ?_)
      refine aw_iload_n d_Mo_paper_27 2 rfl ?_
      refine aw_iadd d_Mo_paper_28 ?_
      refine aw_sipush d_Mo_paper_29 ks_9999 ?_
      refine aw_icmp_le (tgt := 37) d_Mo_paper_32 rfl (fun q32 => ?_) (fun q32 => ?_)
      · refine aw_aload_n d_Mo_paper_37 0 rfl ?_
        refine aw_iload_n d_Mo_paper_38 1 rfl ?_
        refine aw_bipush d_Mo_paper_39 kb_6 ?_
        refine aw_aload_n d_Mo_paper_41 0 rfl ?_
        refine aw_iload_n d_Mo_paper_42 1 rfl ?_
        refine aw_bipush d_Mo_paper_43 kb_6 ?_
        refine aw_V_p (As := [.int a1, .int (6 : Int32)]) (m_Mo_cell) cv_Mo_265 kd_151 rfl rfl rfl (Nat.le_of_ble_eq_true rfl) ⟨Nat.le_of_ble_eq_true rfl, Nat.le_of_ble_eq_true rfl⟩ ⟨Nat.le_refl _, Nat.le_refl _⟩ d_Mo_paper_45 (fun y45 => ?_)
        refine aw_iload_n d_Mo_paper_48 2 rfl ?_
        refine aw_iadd d_Mo_paper_49 ?_
        refine aw_V_v (As := [.int a1, .int (6 : Int32), .int (y45 + a2)]) (m_Mo_sets) cv_Mo_274 kd_151 rfl rfl rfl (Nat.le_of_ble_eq_true rfl) ⟨Nat.le_of_ble_eq_true rfl, Nat.le_of_ble_eq_true rfl⟩ ⟨Nat.le_refl _, Nat.le_refl _⟩ d_Mo_paper_50 (fun y50 => ?_)
        refine aw_aload_n d_Mo_paper_53 0 rfl ?_
        refine aw_iload_n d_Mo_paper_54 1 rfl ?_
        refine aw_bipush d_Mo_paper_55 kb_6 ?_
        refine aw_V_p (As := [.int a1, .int (6 : Int32)]) (m_Mo_cell) cv_Mo_265 kd_151 rfl rfl rfl (Nat.le_of_ble_eq_true rfl) ⟨Nat.le_of_ble_eq_true rfl, Nat.le_of_ble_eq_true rfl⟩ ⟨Nat.le_refl _, Nat.le_refl _⟩ d_Mo_paper_57 (fun y57 => ?_)
        exact aw_iret rfl rfl ⟨Nat.le_refl _, Nat.le_refl _⟩ d_Mo_paper_60
      · refine aw_iconst d_Mo_paper_35 ki_m1 ?_
        exact aw_iret rfl rfl ⟨Nat.le_refl _, Nat.le_refl _⟩ d_Mo_paper_36
def lp_Mo_lifts_2 (kx2_27 : Int32 → Dm → Option Dm) (a1 : Int32) : Nat → Int32 → Dm → Option Dm
  | 0, _, _ => none
  | f + 1, v2_2, δ2 => (if (3 : Int32) ≤ v2_2 then (kx2_27 v2_2 δ2) else ((f_Mo_cell a1 ((3 : Int32) + v2_2) δ2).bind (fun y17 => (if inb v2_2 3 then bnd (sI δ2 162 (ix v2_2) y17) (fun δ_20 => (lp_Mo_lifts_2 kx2_27 a1 f (v2_2 + (1 : Int32)) δ_20)) else none))))
set_option maxHeartbeats 4000000 in
set_option maxRecDepth 100000 in
theorem tl_Mo_lifts_2 {n : Nat} (kx2_27 : Int32 → Dm → Option Dm) (a1 : Int32) (hkx2_27 : ∀ v2_2k δ2k, AWo k_Mo_lifts 2 0 0 27 [(0, .ref 151), (1, .int a1), (2, .int v2_2k)] [] δ2k RT n 0 0 (Kv RT n) (kx2_27 v2_2k δ2k)) : ∀ (f : Nat) (v2_2 : Int32) (δ2 : Dm), AWo k_Mo_lifts 2 0 0 2 [(0, .ref 151), (1, .int a1), (2, .int v2_2)] [] δ2 RT n 0 0 (Kv RT n) (lp_Mo_lifts_2 kx2_27 a1 f v2_2 δ2) := by
  intro f
  induction f with
  | zero => intro _ _; exact aw_none
  | succ f ih =>
    intro v2_2 δ2
    rw [lp_Mo_lifts_2]
    refine aw_iload_n d_Mo_lifts_2 2 rfl ?_
    refine aw_iconst d_Mo_lifts_3 ki_3 ?_
    refine aw_icmp_ge (tgt := 27) d_Mo_lifts_4 rfl (fun q4 => ?_) (fun q4 => ?_)
    · refine aw_sub (lo' := [(0, .ref 151), (1, .int a1), (2, .int v2_2)]) [0, 1, 2] rfl ?_
      exact hkx2_27 _ _
    · refine aw_aload_n d_Mo_lifts_7 0 rfl ?_
      refine aw_getR (t := 162) fl_Mo_42 kd_151 rt_151_21 d_Mo_lifts_8 ?_
      refine aw_iload_n d_Mo_lifts_11 2 rfl ?_
      refine aw_aload_n d_Mo_lifts_12 0 rfl ?_
      refine aw_iload_n d_Mo_lifts_13 1 rfl ?_
      refine aw_iconst d_Mo_lifts_14 ki_3 ?_
      refine aw_iload_n d_Mo_lifts_15 2 rfl ?_
      refine aw_iadd d_Mo_lifts_16 ?_
      refine aw_V_p (As := [.int a1, .int ((3 : Int32) + v2_2)]) (m_Mo_cell) cv_Mo_265 kd_151 rfl rfl rfl (Nat.le_of_ble_eq_true rfl) ⟨Nat.le_of_ble_eq_true rfl, Nat.le_of_ble_eq_true rfl⟩ ⟨Nat.le_refl _, Nat.le_refl _⟩ d_Mo_lifts_17 (fun y17 => ?_)
      refine aw_iast kd_162 d_Mo_lifts_20 ?_
      refine aw_bD (fun δ_20 => ?_)
      refine aw_iinc (v := (v2_2 + (1 : Int32))) (lo' := [(2, .int (v2_2 + (1 : Int32))), (0, .ref 151), (1, .int a1)]) d_Mo_lifts_21 2 rfl (by rw [show Int32.ofInt (1) = (1 : Int32) from by decide]) (by decide) rfl ?_
      refine aw_goto (tgt := 2) d_Mo_lifts_24 rfl ?_
      refine aw_sub (lo' := [(0, .ref 151), (1, .int a1), (2, .int (v2_2 + (1 : Int32)))]) [1, 2, 0] rfl ?_
      exact ih _ _
def f_Mo_lifts (a1 : Int32) (δ : Dm) : Option Dm := (lp_Mo_lifts_2 (fun v2_2x δ2x => (some δ2x)) a1 FU (0 : Int32) δ)
set_option maxHeartbeats 4000000 in
set_option maxRecDepth 100000 in
theorem m_Mo_lifts {a1 : Int32} {δ : Dm} {n : Nat} : ∀ x, f_Mo_lifts a1 δ = some x → AMet k_Mo_lifts 2 0 0 [.ref 151, .int a1] δ RT n (Kv RT n x) := by
  refine aw_start (lo := [(0, .ref 151), (1, .int a1)]) mok_Mo_lifts rfl (Nat.le_of_ble_eq_true rfl) ?_
  unfold f_Mo_lifts
  refine aw_iconst d_Mo_lifts_0 ki_0 ?_
  refine aw_istore_n (lo' := [(2, .int (0 : Int32)), (0, .ref 151), (1, .int a1)]) d_Mo_lifts_1 rfl (by decide) rfl ?_
  refine aw_sub (lo' := [(0, .ref 151), (1, .int a1), (2, .int (0 : Int32))]) [1, 2, 0] rfl ?_
  refine tl_Mo_lifts_2 _ _ (fun v2_2x δ2x => ?_) FU _ _
  · exact aw_vret rfl rfl ⟨Nat.le_refl _, Nat.le_refl _⟩ d_Mo_lifts_27
