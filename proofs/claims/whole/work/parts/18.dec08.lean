noncomputable section
def f_Mo_writes (a1 : Int32) (a2 : Int32) (a3 : Int32) (a4 : Int32) (a5 : Int32) (δ : Dm) : Option Dm := (if inb (7 : Int32) 8918 then (bnd ((3926 : Int32) + ((8 : Int32) * (gI δ 152 (ix (7 : Int32))))) (fun v14 => (if inb v14 8918 then bnd (sI δ 152 (ix v14) a1) (fun δ_23 => (if inb (v14 + (1 : Int32)) 8918 then bnd (sI δ_23 152 (ix (v14 + (1 : Int32))) a2) (fun δ_33 => (if inb (0 : Int32) 8918 then (if inb (v14 + (2 : Int32)) 8918 then bnd (sI δ_33 152 (ix (v14 + (2 : Int32))) (gI δ_33 152 (ix (0 : Int32)))) (fun δ_48 => (if inb (v14 + (3 : Int32)) 8918 then bnd (sI δ_48 152 (ix (v14 + (3 : Int32))) a3) (fun δ_58 => (if inb (v14 + (4 : Int32)) 8918 then bnd (sI δ_58 152 (ix (v14 + (4 : Int32))) a4) (fun δ_69 => (if inb (v14 + (5 : Int32)) 8918 then bnd (sI δ_69 152 (ix (v14 + (5 : Int32))) a5) (fun δ_80 => ((f_Mo_cell a2 (8 : Int32) δ_80).bind (fun y94 => (if inb (v14 + (6 : Int32)) 8918 then bnd (sI δ_80 152 (ix (v14 + (6 : Int32))) y94) (fun δ_97 => ((f_Mo_cell a2 (7 : Int32) δ_97).bind (fun y111 => (if inb (v14 + (7 : Int32)) 8918 then bnd (sI δ_97 152 (ix (v14 + (7 : Int32))) y111) (fun δ_114 => (if inb (7 : Int32) 8918 then (if inb (7 : Int32) 8918 then bnd (sI δ_114 152 (ix (7 : Int32)) ((gI δ_114 152 (ix (7 : Int32))) + (1 : Int32))) (fun δ_125 => (some δ_125)) else none) else none)) else none)))) else none)))) else none)) else none)) else none)) else none) else none)) else none)) else none))) else none)
set_option maxHeartbeats 4000000 in
set_option maxRecDepth 100000 in
theorem m_Mo_writes {a1 : Int32} {a2 : Int32} {a3 : Int32} {a4 : Int32} {a5 : Int32} {δ : Dm} {n : Nat} : ∀ x, f_Mo_writes a1 a2 a3 a4 a5 δ = some x → AMet k_Mo_writes 2 0 0 [.ref 151, .int a1, .int a2, .int a3, .int a4, .int a5] δ RT n (Kv RT n x) := by
  refine aw_start (lo := [(0, .ref 151), (1, .int a1), (2, .int a2), (3, .int a3), (4, .int a4), (5, .int a5)]) mok_Mo_writes rfl (Nat.le_of_ble_eq_true rfl) ?_
  unfold f_Mo_writes
  refine aw_sipush d_Mo_writes_0 ks_3926 ?_
  refine aw_bipush d_Mo_writes_3 kb_8 ?_
  refine aw_aload_n d_Mo_writes_5 0 rfl ?_
  refine aw_getR (t := 152) fl_Mo_7 kd_151 rt_151_0 d_Mo_writes_6 ?_
  refine aw_bipush d_Mo_writes_9 kb_7 ?_
  refine aw_iald kd_152 d_Mo_writes_11 ?_
  refine aw_imul d_Mo_writes_12 ?_
  refine aw_iadd d_Mo_writes_13 ?_
  refine aw_bI (fun v14 => ?_)
  refine aw_istore (lo' := [(6, .int v14), (0, .ref 151), (1, .int a1), (2, .int a2), (3, .int a3), (4, .int a4), (5, .int a5)]) d_Mo_writes_14 (by decide) rfl ?_
  refine aw_aload_n d_Mo_writes_16 1 rfl ?_
  refine aw_getR (t := 152) fl_Mo_7 kd_151 rt_151_0 d_Mo_writes_17 ?_
  refine aw_iload d_Mo_writes_20 0 rfl ?_
  refine aw_iload_n d_Mo_writes_22 2 rfl ?_
  refine aw_iast kd_152 d_Mo_writes_23 ?_
  refine aw_bD (fun δ_23 => ?_)
  refine aw_aload_n d_Mo_writes_24 1 rfl ?_
  refine aw_getR (t := 152) fl_Mo_7 kd_151 rt_151_0 d_Mo_writes_25 ?_
  refine aw_iload d_Mo_writes_28 0 rfl ?_
  refine aw_iconst d_Mo_writes_30 ki_1 ?_
  refine aw_iadd d_Mo_writes_31 ?_
  refine aw_iload_n d_Mo_writes_32 3 rfl ?_
  refine aw_iast kd_152 d_Mo_writes_33 ?_
  refine aw_bD (fun δ_33 => ?_)
  refine aw_aload_n d_Mo_writes_34 1 rfl ?_
  refine aw_getR (t := 152) fl_Mo_7 kd_151 rt_151_0 d_Mo_writes_35 ?_
  refine aw_iload d_Mo_writes_38 0 rfl ?_
  refine aw_iconst d_Mo_writes_40 ki_2 ?_
  refine aw_iadd d_Mo_writes_41 ?_
  refine aw_aload_n d_Mo_writes_42 1 rfl ?_
  refine aw_getR (t := 152) fl_Mo_7 kd_151 rt_151_0 d_Mo_writes_43 ?_
  refine aw_iconst d_Mo_writes_46 ki_0 ?_
  refine aw_iald kd_152 d_Mo_writes_47 ?_
  refine aw_iast kd_152 d_Mo_writes_48 ?_
  refine aw_bD (fun δ_48 => ?_)
  refine aw_aload_n d_Mo_writes_49 1 rfl ?_
  refine aw_getR (t := 152) fl_Mo_7 kd_151 rt_151_0 d_Mo_writes_50 ?_
  refine aw_iload d_Mo_writes_53 0 rfl ?_
  refine aw_iconst d_Mo_writes_55 ki_3 ?_
  refine aw_iadd d_Mo_writes_56 ?_
  refine aw_iload_n d_Mo_writes_57 4 rfl ?_
  refine aw_iast kd_152 d_Mo_writes_58 ?_
  refine aw_bD (fun δ_58 => ?_)
  refine aw_aload_n d_Mo_writes_59 1 rfl ?_
  refine aw_getR (t := 152) fl_Mo_7 kd_151 rt_151_0 d_Mo_writes_60 ?_
  refine aw_iload d_Mo_writes_63 0 rfl ?_
  refine aw_iconst d_Mo_writes_65 ki_4 ?_
  refine aw_iadd d_Mo_writes_66 ?_
  refine aw_iload d_Mo_writes_67 5 rfl ?_
  refine aw_iast kd_152 d_Mo_writes_69 ?_
  refine aw_bD (fun δ_69 => ?_)
  refine aw_aload_n d_Mo_writes_70 1 rfl ?_
  refine aw_getR (t := 152) fl_Mo_7 kd_151 rt_151_0 d_Mo_writes_71 ?_
  refine aw_iload d_Mo_writes_74 0 rfl ?_
  refine aw_iconst d_Mo_writes_76 ki_5 ?_
  refine aw_iadd d_Mo_writes_77 ?_
  refine aw_iload d_Mo_writes_78 6 rfl ?_
  refine aw_iast kd_152 d_Mo_writes_80 ?_
  refine aw_bD (fun δ_80 => ?_)
  refine aw_aload_n d_Mo_writes_81 1 rfl ?_
  refine aw_getR (t := 152) fl_Mo_7 kd_151 rt_151_0 d_Mo_writes_82 ?_
  refine aw_iload d_Mo_writes_85 0 rfl ?_
  refine aw_bipush d_Mo_writes_87 kb_6 ?_
  refine aw_iadd d_Mo_writes_89 ?_
  refine aw_aload_n d_Mo_writes_90 1 rfl ?_
  refine aw_iload_n d_Mo_writes_91 3 rfl ?_
  refine aw_bipush d_Mo_writes_92 kb_8 ?_
  refine aw_V_p (As := [.int a2, .int (8 : Int32)]) (m_Mo_cell) cv_Mo_265 kd_151 rfl rfl rfl (Nat.le_of_ble_eq_true rfl) ⟨Nat.le_of_ble_eq_true rfl, Nat.le_of_ble_eq_true rfl⟩ ⟨Nat.le_refl _, Nat.le_refl _⟩ d_Mo_writes_94 (fun y94 => ?_)
  refine aw_iast kd_152 d_Mo_writes_97 ?_
  refine aw_bD (fun δ_97 => ?_)
  refine aw_aload_n d_Mo_writes_98 1 rfl ?_
  refine aw_getR (t := 152) fl_Mo_7 kd_151 rt_151_0 d_Mo_writes_99 ?_
  refine aw_iload d_Mo_writes_102 0 rfl ?_
  refine aw_bipush d_Mo_writes_104 kb_7 ?_
  refine aw_iadd d_Mo_writes_106 ?_
  refine aw_aload_n d_Mo_writes_107 1 rfl ?_
  refine aw_iload_n d_Mo_writes_108 3 rfl ?_
  refine aw_bipush d_Mo_writes_109 kb_7 ?_
  refine aw_V_p (As := [.int a2, .int (7 : Int32)]) (m_Mo_cell) cv_Mo_265 kd_151 rfl rfl rfl (Nat.le_of_ble_eq_true rfl) ⟨Nat.le_of_ble_eq_true rfl, Nat.le_of_ble_eq_true rfl⟩ ⟨Nat.le_refl _, Nat.le_refl _⟩ d_Mo_writes_111 (fun y111 => ?_)
  refine aw_iast kd_152 d_Mo_writes_114 ?_
  refine aw_bD (fun δ_114 => ?_)
  refine aw_aload_n d_Mo_writes_115 1 rfl ?_
  refine aw_getR (t := 152) fl_Mo_7 kd_151 rt_151_0 d_Mo_writes_116 ?_
  refine aw_bipush d_Mo_writes_119 kb_7 ?_
  refine aw_dup2 d_Mo_writes_121 rfl rfl ?_
  refine aw_iald kd_152 d_Mo_writes_122 ?_
  refine aw_iconst d_Mo_writes_123 ki_1 ?_
  refine aw_iadd d_Mo_writes_124 ?_
  refine aw_iast kd_152 d_Mo_writes_125 ?_
  refine aw_bD (fun δ_125 => ?_)
  exact aw_vret rfl rfl ⟨Nat.le_refl _, Nat.le_refl _⟩ d_Mo_writes_126
def f_Mo_strip (a1 : Int32) (a2 : Int32) (a3 : Int32) (δ : Dm) : Option (Int32 × Dm) := (if inb (3 : Int32) 8918 then (if (gI δ 152 (ix (3 : Int32))) = (400 : Int32) then (some ((-1 : Int32), δ)) else ((f_Mo_isBooth a1 δ).bind (fun y14 => (if y14 = 0 then (some ((-1 : Int32), δ)) else ((f_Mo_in ((a2).toInt64) (1 : Int64) (99 : Int64) δ).bind (fun y26 => (if y26 = 0 then (some ((-1 : Int32), δ)) else ((f_Mo_in ((a3).toInt64) (0 : Int64) (20 : Int64) δ).bind (fun y38 => (if y38 = 0 then (some ((-1 : Int32), δ)) else ((f_Mo_cell a1 (6 : Int32) δ).bind (fun y48 => (if y48 = 0 then (some ((-1 : Int32), δ)) else ((f_Mo_cell a1 (2 : Int32) δ).bind (fun y59 => ((f_Mo_lifts a1 δ).bind (fun y66 => (if inb (0 : Int32) 8918 then ((f_Mo_cell a1 (8 : Int32) y66).bind (fun y83 => ((f_Mo_cell a1 (7 : Int32) y66).bind (fun y90 => ((f_Mo_words a1 a2 a3 (gI y66 152 (ix (0 : Int32))) y83 y90 y66).bind (fun y93 => ((f_Mo_spoils y59 y93).bind (fun y99 => bnd y99.1 (fun v99 => bnd y99.2 (fun δ_99 => ((f_Mo_tires y59 (0 : Int32) δ_99).bind (fun y108 => ((f_Mo_lays a1 y108).bind (fun y113 => ((f_Mo_writes (0 : Int32) a1 a2 a3 v99 y113).bind (fun y123 => ((f_Mo_cell a1 (6 : Int32) y123).bind (fun y134 => ((f_Mo_sets a1 (6 : Int32) (y134 - (1 : Int32)) y123).bind (fun y139 => ((f_Mo_cell a1 (7 : Int32) y139).bind (fun y150 => ((f_Mo_cell a1 (1 : Int32) y139).bind (fun y156 => ((f_Mo_sets a1 (7 : Int32) (y150 + y156) y139).bind (fun y160 => ((f_Mo_cell a1 (8 : Int32) y160).bind (fun y171 => ((f_Mo_sets a1 (8 : Int32) (y171 + (1 : Int32)) y160).bind (fun y176 => (if inb (3 : Int32) 8918 then (if inb (3 : Int32) 8918 then bnd (sI y176 152 (ix (3 : Int32)) ((gI y176 152 (ix (3 : Int32))) + (1 : Int32))) (fun δ_188 => (some (v99, δ_188))) else none) else none))))))))))))))))))))))))))))))) else none)))))))))))))))))) else none)
set_option maxHeartbeats 4000000 in
set_option maxRecDepth 100000 in
theorem m_Mo_strip {a1 : Int32} {a2 : Int32} {a3 : Int32} {δ : Dm} {n : Nat} : ∀ x, f_Mo_strip a1 a2 a3 δ = some x → AMet k_Mo_strip 6 0 0 [.ref 151, .int a1, .int a2, .int a3] δ RT n (Km RT n x) := by
  refine aw_start (lo := [(0, .ref 151), (1, .int a1), (2, .int a2), (3, .int a3)]) mok_Mo_strip rfl (Nat.le_of_ble_eq_true rfl) ?_
  unfold f_Mo_strip
  refine aw_aload_n d_Mo_strip_0 0 rfl ?_
  refine aw_getR (t := 152) fl_Mo_7 kd_151 rt_151_0 d_Mo_strip_1 ?_
  refine aw_iconst d_Mo_strip_4 ki_3 ?_
  refine aw_iald kd_152 d_Mo_strip_5 ?_
  refine aw_sipush d_Mo_strip_6 ks_400 ?_
  refine aw_icmp_eq (tgt := 54) d_Mo_strip_9 rfl (fun q9 => ?_) (fun q9 => ?_)
  · refine aw_iconst d_Mo_strip_54 ki_m1 ?_
    exact aw_iret rfl rfl ⟨Nat.le_refl _, Nat.le_refl _⟩ d_Mo_strip_55
  · refine aw_aload_n d_Mo_strip_12 0 rfl ?_
    refine aw_iload_n d_Mo_strip_13 1 rfl ?_
    refine aw_V_p (As := [.int a1]) (m_Mo_isBooth) cv_Mo_278 kd_151 rfl rfl rfl (Nat.le_of_ble_eq_true rfl) ⟨Nat.le_of_ble_eq_true rfl, Nat.le_of_ble_eq_true rfl⟩ ⟨Nat.le_refl _, Nat.le_refl _⟩ d_Mo_strip_14 (fun y14 => ?_)
    refine aw_if_eq (tgt := 54) d_Mo_strip_17 rfl (fun q17 => ?_) (fun q17 => ?_)
    · refine aw_iconst d_Mo_strip_54 ki_m1 ?_
      exact aw_iret rfl rfl ⟨Nat.le_refl _, Nat.le_refl _⟩ d_Mo_strip_55
    · refine aw_iload_n d_Mo_strip_20 2 rfl ?_
      refine aw_i2l d_Mo_strip_21 ?_
      refine aw_lconst d_Mo_strip_22 kl_1 ?_
      refine aw_ldc2 (v := (99 : Int64)) d_Mo_strip_23 kc_Mo_62 ?_
      refine aw_S_p (As := [.long ((a2).toInt64), .long (1 : Int64), .long (99 : Int64)]) (m_Mo_in) cs_Mo_64 rfl rfl (Nat.le_of_ble_eq_true rfl) ⟨Nat.le_of_ble_eq_true rfl, Nat.le_of_ble_eq_true rfl⟩ ⟨Nat.le_refl _, Nat.le_refl _⟩ d_Mo_strip_26 (fun y26 => ?_)
      refine aw_if_eq (tgt := 54) d_Mo_strip_29 rfl (fun q29 => ?_) (fun q29 => ?_)
      · refine aw_iconst d_Mo_strip_54 ki_m1 ?_
        exact aw_iret rfl rfl ⟨Nat.le_refl _, Nat.le_refl _⟩ d_Mo_strip_55
      · refine aw_iload_n d_Mo_strip_32 3 rfl ?_
        refine aw_i2l d_Mo_strip_33 ?_
        refine aw_lconst d_Mo_strip_34 kl_0 ?_
        refine aw_ldc2 (v := (20 : Int64)) d_Mo_strip_35 kc_Mo_290 ?_
        refine aw_S_p (As := [.long ((a3).toInt64), .long (0 : Int64), .long (20 : Int64)]) (m_Mo_in) cs_Mo_64 rfl rfl (Nat.le_of_ble_eq_true rfl) ⟨Nat.le_of_ble_eq_true rfl, Nat.le_of_ble_eq_true rfl⟩ ⟨Nat.le_refl _, Nat.le_refl _⟩ d_Mo_strip_38 (fun y38 => ?_)
        refine aw_if_eq (tgt := 54) d_Mo_strip_41 rfl (fun q41 => ?_) (fun q41 => ?_)
        · refine aw_iconst d_Mo_strip_54 ki_m1 ?_
          exact aw_iret rfl rfl ⟨Nat.le_refl _, Nat.le_refl _⟩ d_Mo_strip_55
        · refine aw_aload_n d_Mo_strip_44 0 rfl ?_
          refine aw_iload_n d_Mo_strip_45 1 rfl ?_
          refine aw_bipush d_Mo_strip_46 kb_6 ?_
          refine aw_V_p (As := [.int a1, .int (6 : Int32)]) (m_Mo_cell) cv_Mo_265 kd_151 rfl rfl rfl (Nat.le_of_ble_eq_true rfl) ⟨Nat.le_of_ble_eq_true rfl, Nat.le_of_ble_eq_true rfl⟩ ⟨Nat.le_refl _, Nat.le_refl _⟩ d_Mo_strip_48 (fun y48 => ?_)
          refine aw_if_ne (tgt := 56) d_Mo_strip_51 rfl (fun q51 => ?_) (fun q51 => ?_)
          · refine aw_iconst d_Mo_strip_54 ki_m1 ?_
            exact aw_iret rfl rfl ⟨Nat.le_refl _, Nat.le_refl _⟩ d_Mo_strip_55
          · refine aw_aload_n d_Mo_strip_56 0 rfl ?_
            refine aw_iload_n d_Mo_strip_57 1 rfl ?_
            refine aw_iconst d_Mo_strip_58 ki_2 ?_
            refine aw_V_p (As := [.int a1, .int (2 : Int32)]) (m_Mo_cell) cv_Mo_265 kd_151 rfl rfl rfl (Nat.le_of_ble_eq_true rfl) ⟨Nat.le_of_ble_eq_true rfl, Nat.le_of_ble_eq_true rfl⟩ ⟨Nat.le_refl _, Nat.le_refl _⟩ d_Mo_strip_59 (fun y59 => ?_)
            refine aw_istore (lo' := [(4, .int y59), (0, .ref 151), (1, .int a1), (2, .int a2), (3, .int a3)]) d_Mo_strip_62 (by decide) rfl ?_
            refine aw_aload_n d_Mo_strip_64 1 rfl ?_
            refine aw_iload_n d_Mo_strip_65 2 rfl ?_
            refine aw_V_v (As := [.int a1]) (m_Mo_lifts) cv_Mo_292 kd_151 rfl rfl rfl (Nat.le_of_ble_eq_true rfl) ⟨Nat.le_of_ble_eq_true rfl, Nat.le_of_ble_eq_true rfl⟩ ⟨Nat.le_refl _, Nat.le_refl _⟩ d_Mo_strip_66 (fun y66 => ?_)
            refine aw_aload_n d_Mo_strip_69 1 rfl ?_
            refine aw_iload_n d_Mo_strip_70 2 rfl ?_
            refine aw_iload_n d_Mo_strip_71 3 rfl ?_
            refine aw_iload_n d_Mo_strip_72 4 rfl ?_
            refine aw_aload_n d_Mo_strip_73 1 rfl ?_
            refine aw_getR (t := 152) fl_Mo_7 kd_151 rt_151_0 d_Mo_strip_74 ?_
            refine aw_iconst d_Mo_strip_77 ki_0 ?_
            refine aw_iald kd_152 d_Mo_strip_78 ?_
            refine aw_aload_n d_Mo_strip_79 1 rfl ?_
            refine aw_iload_n d_Mo_strip_80 2 rfl ?_
            refine aw_bipush d_Mo_strip_81 kb_8 ?_
            refine aw_V_p (As := [.int a1, .int (8 : Int32)]) (m_Mo_cell) cv_Mo_265 kd_151 rfl rfl rfl (Nat.le_of_ble_eq_true rfl) ⟨Nat.le_of_ble_eq_true rfl, Nat.le_of_ble_eq_true rfl⟩ ⟨Nat.le_refl _, Nat.le_refl _⟩ d_Mo_strip_83 (fun y83 => ?_)
            refine aw_aload_n d_Mo_strip_86 1 rfl ?_
            refine aw_iload_n d_Mo_strip_87 2 rfl ?_
            refine aw_bipush d_Mo_strip_88 kb_7 ?_
            refine aw_V_p (As := [.int a1, .int (7 : Int32)]) (m_Mo_cell) cv_Mo_265 kd_151 rfl rfl rfl (Nat.le_of_ble_eq_true rfl) ⟨Nat.le_of_ble_eq_true rfl, Nat.le_of_ble_eq_true rfl⟩ ⟨Nat.le_refl _, Nat.le_refl _⟩ d_Mo_strip_90 (fun y90 => ?_)
            refine aw_V_v (As := [.int a1, .int a2, .int a3, .int (gI y66 152 (ix (0 : Int32))), .int y83, .int y90]) (m_Mo_words) cv_Mo_295 kd_151 rfl rfl rfl (Nat.le_of_ble_eq_true rfl) ⟨Nat.le_of_ble_eq_true rfl, Nat.le_of_ble_eq_true rfl⟩ ⟨Nat.le_refl _, Nat.le_refl _⟩ d_Mo_strip_93 (fun y93 => ?_)
            refine aw_aload_n d_Mo_strip_96 1 rfl ?_
            refine aw_iload d_Mo_strip_97 0 rfl ?_
            refine aw_V_m (As := [.int y59]) (m_Mo_spoils) cv_Mo_299 kd_151 rfl rfl rfl (Nat.le_of_ble_eq_true rfl) ⟨Nat.le_of_ble_eq_true rfl, Nat.le_of_ble_eq_true rfl⟩ ⟨Nat.le_refl _, Nat.le_refl _⟩ d_Mo_strip_99 (fun y99 => ?_)
            refine aw_bI (fun v99 => ?_)
            refine aw_bD (fun δ_99 => ?_)
            refine aw_istore (lo' := [(5, .int v99), (4, .int y59), (0, .ref 151), (1, .int a1), (2, .int a2), (3, .int a3)]) d_Mo_strip_102 (by decide) rfl ?_
            refine aw_aload_n d_Mo_strip_104 2 rfl ?_
            refine aw_iload d_Mo_strip_105 1 rfl ?_
            refine aw_iconst d_Mo_strip_107 ki_0 ?_
            refine aw_V_v (As := [.int y59, .int (0 : Int32)]) (m_Mo_tires) cv_Mo_302 kd_151 rfl rfl rfl (Nat.le_of_ble_eq_true rfl) ⟨Nat.le_of_ble_eq_true rfl, Nat.le_of_ble_eq_true rfl⟩ ⟨Nat.le_refl _, Nat.le_refl _⟩ d_Mo_strip_108 (fun y108 => ?_)
            refine aw_aload_n d_Mo_strip_111 2 rfl ?_
            refine aw_iload_n d_Mo_strip_112 3 rfl ?_
            refine aw_V_v (As := [.int a1]) (m_Mo_lays) cv_Mo_305 kd_151 rfl rfl rfl (Nat.le_of_ble_eq_true rfl) ⟨Nat.le_of_ble_eq_true rfl, Nat.le_of_ble_eq_true rfl⟩ ⟨Nat.le_refl _, Nat.le_refl _⟩ d_Mo_strip_113 (fun y113 => ?_)
            refine aw_aload_n d_Mo_strip_116 2 rfl ?_
            refine aw_iconst d_Mo_strip_117 ki_0 ?_
            refine aw_iload_n d_Mo_strip_118 3 rfl ?_
            refine aw_iload_n d_Mo_strip_119 4 rfl ?_
            refine aw_iload_n d_Mo_strip_120 5 rfl ?_
            refine aw_iload d_Mo_strip_121 0 rfl ?_
            refine aw_V_v (As := [.int (0 : Int32), .int a1, .int a2, .int a3, .int v99]) (m_Mo_writes) cv_Mo_308 kd_151 rfl rfl rfl (Nat.le_of_ble_eq_true rfl) ⟨Nat.le_of_ble_eq_true rfl, Nat.le_of_ble_eq_true rfl⟩ ⟨Nat.le_refl _, Nat.le_refl _⟩ d_Mo_strip_123 (fun y123 => ?_)
            refine aw_aload_n d_Mo_strip_126 2 rfl ?_
            refine aw_iload_n d_Mo_strip_127 3 rfl ?_
            refine aw_bipush d_Mo_strip_128 kb_6 ?_
            refine aw_aload_n d_Mo_strip_130 2 rfl ?_
            refine aw_iload_n d_Mo_strip_131 3 rfl ?_
            refine aw_bipush d_Mo_strip_132 kb_6 ?_
            refine aw_V_p (As := [.int a1, .int (6 : Int32)]) (m_Mo_cell) cv_Mo_265 kd_151 rfl rfl rfl (Nat.le_of_ble_eq_true rfl) ⟨Nat.le_of_ble_eq_true rfl, Nat.le_of_ble_eq_true rfl⟩ ⟨Nat.le_refl _, Nat.le_refl _⟩ d_Mo_strip_134 (fun y134 => ?_)
            refine aw_iconst d_Mo_strip_137 ki_1 ?_
            refine aw_isub d_Mo_strip_138 ?_
            refine aw_V_v (As := [.int a1, .int (6 : Int32), .int (y134 - (1 : Int32))]) (m_Mo_sets) cv_Mo_274 kd_151 rfl rfl rfl (Nat.le_of_ble_eq_true rfl) ⟨Nat.le_of_ble_eq_true rfl, Nat.le_of_ble_eq_true rfl⟩ ⟨Nat.le_refl _, Nat.le_refl _⟩ d_Mo_strip_139 (fun y139 => ?_)
            refine aw_aload_n d_Mo_strip_142 2 rfl ?_
            refine aw_iload_n d_Mo_strip_143 3 rfl ?_
            refine aw_bipush d_Mo_strip_144 kb_7 ?_
            refine aw_aload_n d_Mo_strip_146 2 rfl ?_
            refine aw_iload_n d_Mo_strip_147 3 rfl ?_
            refine aw_bipush d_Mo_strip_148 kb_7 ?_
            refine aw_V_p (As := [.int a1, .int (7 : Int32)]) (m_Mo_cell) cv_Mo_265 kd_151 rfl rfl rfl (Nat.le_of_ble_eq_true rfl) ⟨Nat.le_of_ble_eq_true rfl, Nat.le_of_ble_eq_true rfl⟩ ⟨Nat.le_refl _, Nat.le_refl _⟩ d_Mo_strip_150 (fun y150 => ?_)
            refine aw_aload_n d_Mo_strip_153 2 rfl ?_
            refine aw_iload_n d_Mo_strip_154 3 rfl ?_
            refine aw_iconst d_Mo_strip_155 ki_1 ?_
            refine aw_V_p (As := [.int a1, .int (1 : Int32)]) (m_Mo_cell) cv_Mo_265 kd_151 rfl rfl rfl (Nat.le_of_ble_eq_true rfl) ⟨Nat.le_of_ble_eq_true rfl, Nat.le_of_ble_eq_true rfl⟩ ⟨Nat.le_refl _, Nat.le_refl _⟩ d_Mo_strip_156 (fun y156 => ?_)
            refine aw_iadd d_Mo_strip_159 ?_
            refine aw_V_v (As := [.int a1, .int (7 : Int32), .int (y150 + y156)]) (m_Mo_sets) cv_Mo_274 kd_151 rfl rfl rfl (Nat.le_of_ble_eq_true rfl) ⟨Nat.le_of_ble_eq_true rfl, Nat.le_of_ble_eq_true rfl⟩ ⟨Nat.le_refl _, Nat.le_refl _⟩ d_Mo_strip_160 (fun y160 => ?_)
            refine aw_aload_n d_Mo_strip_163 2 rfl ?_
            refine aw_iload_n d_Mo_strip_164 3 rfl ?_
            refine aw_bipush d_Mo_strip_165 kb_8 ?_
            refine aw_aload_n d_Mo_strip_167 2 rfl ?_
            refine aw_iload_n d_Mo_strip_168 3 rfl ?_
            refine aw_bipush d_Mo_strip_169 kb_8 ?_
            refine aw_V_p (As := [.int a1, .int (8 : Int32)]) (m_Mo_cell) cv_Mo_265 kd_151 rfl rfl rfl (Nat.le_of_ble_eq_true rfl) ⟨Nat.le_of_ble_eq_true rfl, Nat.le_of_ble_eq_true rfl⟩ ⟨Nat.le_refl _, Nat.le_refl _⟩ d_Mo_strip_171 (fun y171 => ?_)
            refine aw_iconst d_Mo_strip_174 ki_1 ?_
            refine aw_iadd d_Mo_strip_175 ?_
            refine aw_V_v (As := [.int a1, .int (8 : Int32), .int (y171 + (1 : Int32))]) (m_Mo_sets) cv_Mo_274 kd_151 rfl rfl rfl (Nat.le_of_ble_eq_true rfl) ⟨Nat.le_of_ble_eq_true rfl, Nat.le_of_ble_eq_true rfl⟩ ⟨Nat.le_refl _, Nat.le_refl _⟩ d_Mo_strip_176 (fun y176 => ?_)
            refine aw_aload_n d_Mo_strip_179 2 rfl ?_
            refine aw_getR (t := 152) fl_Mo_7 kd_151 rt_151_0 d_Mo_strip_180 ?_
            refine aw_iconst d_Mo_strip_183 ki_3 ?_
            refine aw_dup2 d_Mo_strip_184 rfl rfl ?_
            refine aw_iald kd_152 d_Mo_strip_185 ?_
            refine aw_iconst d_Mo_strip_186 ki_1 ?_
            refine aw_iadd d_Mo_strip_187 ?_
            refine aw_iast kd_152 d_Mo_strip_188 ?_
            refine aw_bD (fun δ_188 => ?_)
            refine aw_iload d_Mo_strip_189 0 rfl ?_
            exact aw_iret rfl rfl ⟨Nat.le_refl _, Nat.le_refl _⟩ d_Mo_strip_191
def lp_Mo_clock_32 (kx32_124 : Int32 → Dm → Option (Int32 × Dm)) (a1 : Int32) : Nat → Int32 → Dm → Option (Int32 × Dm)
  | 0, _, _ => none
  | f + 1, v2_32, δ32 => (if inb (2 : Int32) 8918 then (if (gI δ32 152 (ix (2 : Int32))) ≤ v2_32 then (kx32_124 v2_32 δ32) else ((f_Mo_lifts v2_32 δ32).bind (fun y44 => (if inb (0 : Int32) 8918 then ((f_Mo_cell v2_32 (8 : Int32) y44).bind (fun y61 => ((f_Mo_cell v2_32 (7 : Int32) y44).bind (fun y68 => ((f_Mo_words v2_32 (0 : Int32) (0 : Int32) (gI y44 152 (ix (0 : Int32))) y61 y68 y44).bind (fun y71 => ((f_Mo_cell v2_32 (2 : Int32) y71).bind (fun y78 => ((f_Mo_tires y78 (3 : Int32) y71).bind (fun y82 => ((f_Mo_lays v2_32 y82).bind (fun y87 => (if inb (0 : Int32) 8918 then ((f_Mo_cell v2_32 (7 : Int32) y87).bind (fun y114 => (if inb (((726 : Int32) + ((400 : Int32) * v2_32)) + (gI y87 152 (ix (0 : Int32)))) 8918 then bnd (sI y87 152 (ix (((726 : Int32) + ((400 : Int32) * v2_32)) + (gI y87 152 (ix (0 : Int32))))) y114) (fun δ_117 => (lp_Mo_clock_32 kx32_124 a1 f (v2_32 + (1 : Int32)) δ_117)) else none))) else none))))))))))))) else none)))) else none)
set_option maxHeartbeats 4000000 in
set_option maxRecDepth 100000 in
theorem tl_Mo_clock_32 {n : Nat} (kx32_124 : Int32 → Dm → Option (Int32 × Dm)) (a1 : Int32) (hkx32_124 : ∀ v2_32k δ32k, AWo k_Mo_clock 6 0 0 124 [(0, .ref 151), (1, .int a1), (2, .int v2_32k)] [] δ32k RT n 0 0 (Km RT n) (kx32_124 v2_32k δ32k)) : ∀ (f : Nat) (v2_32 : Int32) (δ32 : Dm), AWo k_Mo_clock 6 0 0 32 [(0, .ref 151), (1, .int a1), (2, .int v2_32)] [] δ32 RT n 0 0 (Km RT n) (lp_Mo_clock_32 kx32_124 a1 f v2_32 δ32) := by
  intro f
  induction f with
  | zero => intro _ _; exact aw_none
  | succ f ih =>
    intro v2_32 δ32
    rw [lp_Mo_clock_32]
    refine aw_iload_n d_Mo_clock_32 2 rfl ?_
    refine aw_aload_n d_Mo_clock_33 0 rfl ?_
    refine aw_getR (t := 152) fl_Mo_7 kd_151 rt_151_0 d_Mo_clock_34 ?_
    refine aw_iconst d_Mo_clock_37 ki_2 ?_
    refine aw_iald kd_152 d_Mo_clock_38 ?_
    refine aw_icmp_ge (tgt := 124) d_Mo_clock_39 rfl (fun q39 => ?_) (fun q39 => ?_)
    · refine aw_sub (lo' := [(0, .ref 151), (1, .int a1), (2, .int v2_32)]) [0, 1, 2] rfl ?_
      exact hkx32_124 _ _
    · refine aw_aload_n d_Mo_clock_42 0 rfl ?_
      refine aw_iload_n d_Mo_clock_43 2 rfl ?_
      refine aw_V_v (As := [.int v2_32]) (m_Mo_lifts) cv_Mo_292 kd_151 rfl rfl rfl (Nat.le_of_ble_eq_true rfl) ⟨Nat.le_of_ble_eq_true rfl, Nat.le_of_ble_eq_true rfl⟩ ⟨Nat.le_refl _, Nat.le_refl _⟩ d_Mo_clock_44 (fun y44 => ?_)
      refine aw_aload_n d_Mo_clock_47 0 rfl ?_
      refine aw_iload_n d_Mo_clock_48 2 rfl ?_
      refine aw_iconst d_Mo_clock_49 ki_0 ?_
      refine aw_iconst d_Mo_clock_50 ki_0 ?_
      refine aw_aload_n d_Mo_clock_51 0 rfl ?_
      refine aw_getR (t := 152) fl_Mo_7 kd_151 rt_151_0 d_Mo_clock_52 ?_
      refine aw_iconst d_Mo_clock_55 ki_0 ?_
      refine aw_iald kd_152 d_Mo_clock_56 ?_
      refine aw_aload_n d_Mo_clock_57 0 rfl ?_
      refine aw_iload_n d_Mo_clock_58 2 rfl ?_
      refine aw_bipush d_Mo_clock_59 kb_8 ?_
      refine aw_V_p (As := [.int v2_32, .int (8 : Int32)]) (m_Mo_cell) cv_Mo_265 kd_151 rfl rfl rfl (Nat.le_of_ble_eq_true rfl) ⟨Nat.le_of_ble_eq_true rfl, Nat.le_of_ble_eq_true rfl⟩ ⟨Nat.le_refl _, Nat.le_refl _⟩ d_Mo_clock_61 (fun y61 => ?_)
      refine aw_aload_n d_Mo_clock_64 0 rfl ?_
      refine aw_iload_n d_Mo_clock_65 2 rfl ?_
      refine aw_bipush d_Mo_clock_66 kb_7 ?_
      refine aw_V_p (As := [.int v2_32, .int (7 : Int32)]) (m_Mo_cell) cv_Mo_265 kd_151 rfl rfl rfl (Nat.le_of_ble_eq_true rfl) ⟨Nat.le_of_ble_eq_true rfl, Nat.le_of_ble_eq_true rfl⟩ ⟨Nat.le_refl _, Nat.le_refl _⟩ d_Mo_clock_68 (fun y68 => ?_)
      refine aw_V_v (As := [.int v2_32, .int (0 : Int32), .int (0 : Int32), .int (gI y44 152 (ix (0 : Int32))), .int y61, .int y68]) (m_Mo_words) cv_Mo_295 kd_151 rfl rfl rfl (Nat.le_of_ble_eq_true rfl) ⟨Nat.le_of_ble_eq_true rfl, Nat.le_of_ble_eq_true rfl⟩ ⟨Nat.le_refl _, Nat.le_refl _⟩ d_Mo_clock_71 (fun y71 => ?_)
      refine aw_aload_n d_Mo_clock_74 0 rfl ?_
      refine aw_aload_n d_Mo_clock_75 0 rfl ?_
      refine aw_iload_n d_Mo_clock_76 2 rfl ?_
      refine aw_iconst d_Mo_clock_77 ki_2 ?_
      refine aw_V_p (As := [.int v2_32, .int (2 : Int32)]) (m_Mo_cell) cv_Mo_265 kd_151 rfl rfl rfl (Nat.le_of_ble_eq_true rfl) ⟨Nat.le_of_ble_eq_true rfl, Nat.le_of_ble_eq_true rfl⟩ ⟨Nat.le_refl _, Nat.le_refl _⟩ d_Mo_clock_78 (fun y78 => ?_)
      refine aw_iconst d_Mo_clock_81 ki_3 ?_
      refine aw_V_v (As := [.int y78, .int (3 : Int32)]) (m_Mo_tires) cv_Mo_302 kd_151 rfl rfl rfl (Nat.le_of_ble_eq_true rfl) ⟨Nat.le_of_ble_eq_true rfl, Nat.le_of_ble_eq_true rfl⟩ ⟨Nat.le_refl _, Nat.le_refl _⟩ d_Mo_clock_82 (fun y82 => ?_)
      refine aw_aload_n d_Mo_clock_85 0 rfl ?_
      refine aw_iload_n d_Mo_clock_86 2 rfl ?_
      refine aw_V_v (As := [.int v2_32]) (m_Mo_lays) cv_Mo_305 kd_151 rfl rfl rfl (Nat.le_of_ble_eq_true rfl) ⟨Nat.le_of_ble_eq_true rfl, Nat.le_of_ble_eq_true rfl⟩ ⟨Nat.le_refl _, Nat.le_refl _⟩ d_Mo_clock_87 (fun y87 => ?_)
      refine aw_aload_n d_Mo_clock_90 0 rfl ?_
      refine aw_getR (t := 152) fl_Mo_7 kd_151 rt_151_0 d_Mo_clock_91 ?_
      refine aw_sipush d_Mo_clock_94 ks_726 ?_
      refine aw_sipush d_Mo_clock_97 ks_400 ?_
      refine aw_iload_n d_Mo_clock_100 2 rfl ?_
      refine aw_imul d_Mo_clock_101 ?_
      refine aw_iadd d_Mo_clock_102 ?_
      refine aw_aload_n d_Mo_clock_103 0 rfl ?_
      refine aw_getR (t := 152) fl_Mo_7 kd_151 rt_151_0 d_Mo_clock_104 ?_
      refine aw_iconst d_Mo_clock_107 ki_0 ?_
      refine aw_iald kd_152 d_Mo_clock_108 ?_
      refine aw_iadd d_Mo_clock_109 ?_
      refine aw_aload_n d_Mo_clock_110 0 rfl ?_
      refine aw_iload_n d_Mo_clock_111 2 rfl ?_
      refine aw_bipush d_Mo_clock_112 kb_7 ?_
      refine aw_V_p (As := [.int v2_32, .int (7 : Int32)]) (m_Mo_cell) cv_Mo_265 kd_151 rfl rfl rfl (Nat.le_of_ble_eq_true rfl) ⟨Nat.le_of_ble_eq_true rfl, Nat.le_of_ble_eq_true rfl⟩ ⟨Nat.le_refl _, Nat.le_refl _⟩ d_Mo_clock_114 (fun y114 => ?_)
      refine aw_iast kd_152 d_Mo_clock_117 ?_
      refine aw_bD (fun δ_117 => ?_)
      refine aw_iinc (v := (v2_32 + (1 : Int32))) (lo' := [(2, .int (v2_32 + (1 : Int32))), (0, .ref 151), (1, .int a1)]) d_Mo_clock_118 2 rfl (by rw [show Int32.ofInt (1) = (1 : Int32) from by decide]) (by decide) rfl ?_
      refine aw_goto (tgt := 32) d_Mo_clock_121 rfl ?_
      refine aw_sub (lo' := [(0, .ref 151), (1, .int a1), (2, .int (v2_32 + (1 : Int32)))]) [1, 2, 0] rfl ?_
      exact ih _ _
def lp_Mo_clock_20 (kx20_137 : Dm → Option (Int32 × Dm)) (a1 : Int32) : Nat → Dm → Option (Int32 × Dm)
  | 0, _ => none
  | f + 1, δ20 => (if inb (0 : Int32) 8918 then (if a1 ≤ (gI δ20 152 (ix (0 : Int32))) then (kx20_137 δ20) else (lp_Mo_clock_32 (fun v2_32x δ32x => (if inb (0 : Int32) 8918 then (if inb (0 : Int32) 8918 then bnd (sI δ32x 152 (ix (0 : Int32)) ((gI δ32x 152 (ix (0 : Int32))) + (1 : Int32))) (fun δ_133 => (lp_Mo_clock_20 kx20_137 a1 f δ_133)) else none) else none)) a1 FU (0 : Int32) δ20)) else none)
set_option maxHeartbeats 4000000 in
set_option maxRecDepth 100000 in
theorem tl_Mo_clock_20 {n : Nat} (kx20_137 : Dm → Option (Int32 × Dm)) (a1 : Int32) (hkx20_137 : ∀ δ20k, AWo k_Mo_clock 6 0 0 137 [(0, .ref 151), (1, .int a1)] [] δ20k RT n 0 0 (Km RT n) (kx20_137 δ20k)) : ∀ (f : Nat) (δ20 : Dm), AWo k_Mo_clock 6 0 0 20 [(0, .ref 151), (1, .int a1)] [] δ20 RT n 0 0 (Km RT n) (lp_Mo_clock_20 kx20_137 a1 f δ20) := by
  intro f
  induction f with
  | zero => intro _; exact aw_none
  | succ f ih =>
    intro δ20
    rw [lp_Mo_clock_20]
    refine aw_aload_n d_Mo_clock_20 0 rfl ?_
    refine aw_getR (t := 152) fl_Mo_7 kd_151 rt_151_0 d_Mo_clock_21 ?_
    refine aw_iconst d_Mo_clock_24 ki_0 ?_
    refine aw_iald kd_152 d_Mo_clock_25 ?_
    refine aw_iload_n d_Mo_clock_26 1 rfl ?_
    refine aw_icmp_ge (tgt := 137) d_Mo_clock_27 rfl (fun q27 => ?_) (fun q27 => ?_)
    · refine aw_sub (lo' := [(0, .ref 151), (1, .int a1)]) [0, 1] rfl ?_
      exact hkx20_137 _
    · refine aw_iconst d_Mo_clock_30 ki_0 ?_
      refine aw_istore_n (lo' := [(2, .int (0 : Int32)), (0, .ref 151), (1, .int a1)]) d_Mo_clock_31 rfl (by decide) rfl ?_
      refine aw_sub (lo' := [(0, .ref 151), (1, .int a1), (2, .int (0 : Int32))]) [1, 2, 0] rfl ?_
      refine tl_Mo_clock_32 _ _ (fun v2_32x δ32x => ?_) FU _ _
      · refine aw_aload_n d_Mo_clock_124 0 rfl ?_
        refine aw_getR (t := 152) fl_Mo_7 kd_151 rt_151_0 d_Mo_clock_125 ?_
        refine aw_iconst d_Mo_clock_128 ki_0 ?_
        refine aw_dup2 d_Mo_clock_129 rfl rfl ?_
        refine aw_iald kd_152 d_Mo_clock_130 ?_
        refine aw_iconst d_Mo_clock_131 ki_1 ?_
        refine aw_iadd d_Mo_clock_132 ?_
        refine aw_iast kd_152 d_Mo_clock_133 ?_
        refine aw_bD (fun δ_133 => ?_)
        refine aw_goto (tgt := 20) d_Mo_clock_134 rfl ?_
        refine aw_sub (lo' := [(0, .ref 151), (1, .int a1)]) [0, 1] rfl ?_
        exact ih _
def f_Mo_clock (a1 : Int32) (δ : Dm) : Option (Int32 × Dm) := (if inb (0 : Int32) 8918 then ((f_Mo_in ((a1).toInt64) (((gI δ 152 (ix (0 : Int32)))).toInt64) (399 : Int64) δ).bind (fun y12 => (if y12 = 0 then (some ((0 : Int32), δ)) else (lp_Mo_clock_20 (fun δ20x => (some ((1 : Int32), δ20x))) a1 FU δ)))) else none)
set_option maxHeartbeats 4000000 in
set_option maxRecDepth 100000 in
theorem m_Mo_clock {a1 : Int32} {δ : Dm} {n : Nat} : ∀ x, f_Mo_clock a1 δ = some x → AMet k_Mo_clock 6 0 0 [.ref 151, .int a1] δ RT n (Km RT n x) := by
  refine aw_start (lo := [(0, .ref 151), (1, .int a1)]) mok_Mo_clock rfl (Nat.le_of_ble_eq_true rfl) ?_
  unfold f_Mo_clock
  refine aw_iload_n d_Mo_clock_0 1 rfl ?_
  refine aw_i2l d_Mo_clock_1 ?_
  refine aw_aload_n d_Mo_clock_2 0 rfl ?_
  refine aw_getR (t := 152) fl_Mo_7 kd_151 rt_151_0 d_Mo_clock_3 ?_
  refine aw_iconst d_Mo_clock_6 ki_0 ?_
  refine aw_iald kd_152 d_Mo_clock_7 ?_
  refine aw_i2l d_Mo_clock_8 ?_
  refine aw_ldc2 (v := (399 : Int64)) d_Mo_clock_9 kc_Mo_312 ?_
  refine aw_S_p (As := [.long ((a1).toInt64), .long (((gI δ 152 (ix (0 : Int32)))).toInt64), .long (399 : Int64)]) (m_Mo_in) cs_Mo_64 rfl rfl (Nat.le_of_ble_eq_true rfl) ⟨Nat.le_of_ble_eq_true rfl, Nat.le_of_ble_eq_true rfl⟩ ⟨Nat.le_refl _, Nat.le_refl _⟩ d_Mo_clock_12 (fun y12 => ?_)
  refine aw_if_ne (tgt := 20) d_Mo_clock_15 rfl (fun q15 => ?_) (fun q15 => ?_)
  · refine aw_iconst d_Mo_clock_18 ki_0 ?_
    exact aw_zret rfl rfl rfl ⟨Nat.le_refl _, Nat.le_refl _⟩ d_Mo_clock_19
  · refine aw_sub (lo' := [(0, .ref 151), (1, .int a1)]) [0, 1] rfl ?_
    refine tl_Mo_clock_20 _ _ (fun δ20x => ?_) FU _
    · refine aw_iconst d_Mo_clock_137 ki_1 ?_
      exact aw_zret rfl rfl rfl ⟨Nat.le_refl _, Nat.le_refl _⟩ d_Mo_clock_138
def jp_Mo_change_87 (a1 : Int32) (a2 : Int32) (y38 : Int32) (δ87 : Dm) : Option (Int32 × Dm) := (if inb (4 : Int32) 8918 then (if inb (4 : Int32) 8918 then bnd (sI δ87 152 (ix (4 : Int32)) ((gI δ87 152 (ix (4 : Int32))) + (1 : Int32))) (fun δ_96 => (some (y38, δ_96))) else none) else none)
set_option maxHeartbeats 4000000 in
set_option maxRecDepth 100000 in
theorem tj_Mo_change_87 {n : Nat} (a1 : Int32) (a2 : Int32) (y38 : Int32) (δ87 : Dm) : AWo k_Mo_change 3 0 0 87 [(0, .ref 151), (1, .int a1), (2, .int a2), (3, .int y38)] [] δ87 RT n 0 0 (Km RT n) (jp_Mo_change_87 a1 a2 y38 δ87) := by
  unfold jp_Mo_change_87
  refine aw_aload_n d_Mo_change_87 0 rfl ?_
  refine aw_getR (t := 152) fl_Mo_7 kd_151 rt_151_0 d_Mo_change_88 ?_
  refine aw_iconst d_Mo_change_91 ki_4 ?_
  refine aw_dup2 d_Mo_change_92 rfl rfl ?_
  refine aw_iald kd_152 d_Mo_change_93 ?_
  refine aw_iconst d_Mo_change_94 ki_1 ?_
  refine aw_iadd d_Mo_change_95 ?_
  refine aw_iast kd_152 d_Mo_change_96 ?_
  refine aw_bD (fun δ_96 => ?_)
  refine aw_iload_n d_Mo_change_97 3 rfl ?_
  exact aw_iret rfl rfl ⟨Nat.le_refl _, Nat.le_refl _⟩ d_Mo_change_98
def f_Mo_change (a1 : Int32) (a2 : Int32) (δ : Dm) : Option (Int32 × Dm) := (if inb (4 : Int32) 8918 then (if (gI δ 152 (ix (4 : Int32))) = (100 : Int32) then (some ((-1 : Int32), δ)) else ((f_Mo_isBooth a1 δ).bind (fun y13 => (if y13 = 0 then (some ((-1 : Int32), δ)) else ((f_Mo_in ((a2).toInt64) (0 : Int64) (2 : Int64) δ).bind (fun y25 => (if y25 = 0 then (some ((-1 : Int32), δ)) else ((f_Mo_cell a1 ((3 : Int32) + a2) δ).bind (fun y38 => ((f_Mo_writes (1 : Int32) a1 a2 (0 : Int32) (0 : Int32) δ).bind (fun y48 => ((f_Mo_sets a1 ((3 : Int32) + a2) (1000 : Int32) y48).bind (fun y59 => (if a2 = (2 : Int32) then ((f_Mo_cell a1 (9 : Int32) y59).bind (fun y75 => ((f_Mo_sets a1 (9 : Int32) ((y75 + (1000 : Int32)) - y38) y59).bind (fun y84 => (jp_Mo_change_87 a1 a2 y38 y84))))) else (jp_Mo_change_87 a1 a2 y38 y59))))))))))))))) else none)
set_option maxHeartbeats 4000000 in
set_option maxRecDepth 100000 in
theorem m_Mo_change {a1 : Int32} {a2 : Int32} {δ : Dm} {n : Nat} : ∀ x, f_Mo_change a1 a2 δ = some x → AMet k_Mo_change 3 0 0 [.ref 151, .int a1, .int a2] δ RT n (Km RT n x) := by
  refine aw_start (lo := [(0, .ref 151), (1, .int a1), (2, .int a2)]) mok_Mo_change rfl (Nat.le_of_ble_eq_true rfl) ?_
  unfold f_Mo_change
  refine aw_aload_n d_Mo_change_0 0 rfl ?_
  refine aw_getR (t := 152) fl_Mo_7 kd_151 rt_151_0 d_Mo_change_1 ?_
  refine aw_iconst d_Mo_change_4 ki_4 ?_
  refine aw_iald kd_152 d_Mo_change_5 ?_
  refine aw_bipush d_Mo_change_6 kb_100 ?_
  refine aw_icmp_eq (tgt := 31) d_Mo_change_8 rfl (fun q8 => ?_) (fun q8 => ?_)
  · refine aw_iconst d_Mo_change_31 ki_m1 ?_
    exact aw_iret rfl rfl ⟨Nat.le_refl _, Nat.le_refl _⟩ d_Mo_change_32
  · refine aw_aload_n d_Mo_change_11 0 rfl ?_
    refine aw_iload_n d_Mo_change_12 1 rfl ?_
    refine aw_V_p (As := [.int a1]) (m_Mo_isBooth) cv_Mo_278 kd_151 rfl rfl rfl (Nat.le_of_ble_eq_true rfl) ⟨Nat.le_of_ble_eq_true rfl, Nat.le_of_ble_eq_true rfl⟩ ⟨Nat.le_refl _, Nat.le_refl _⟩ d_Mo_change_13 (fun y13 => ?_)
    refine aw_if_eq (tgt := 31) d_Mo_change_16 rfl (fun q16 => ?_) (fun q16 => ?_)
    · refine aw_iconst d_Mo_change_31 ki_m1 ?_
      exact aw_iret rfl rfl ⟨Nat.le_refl _, Nat.le_refl _⟩ d_Mo_change_32
    · refine aw_iload_n d_Mo_change_19 2 rfl ?_
      refine aw_i2l d_Mo_change_20 ?_
      refine aw_lconst d_Mo_change_21 kl_0 ?_
      refine aw_ldc2 (v := (2 : Int64)) d_Mo_change_22 kc_Mo_314 ?_
      refine aw_S_p (As := [.long ((a2).toInt64), .long (0 : Int64), .long (2 : Int64)]) (m_Mo_in) cs_Mo_64 rfl rfl (Nat.le_of_ble_eq_true rfl) ⟨Nat.le_of_ble_eq_true rfl, Nat.le_of_ble_eq_true rfl⟩ ⟨Nat.le_refl _, Nat.le_refl _⟩ d_Mo_change_25 (fun y25 => ?_)
      refine aw_if_ne (tgt := 33) d_Mo_change_28 rfl (fun q28 => ?_) (fun q28 => ?_)
      · refine aw_iconst d_Mo_change_31 ki_m1 ?_
        exact aw_iret rfl rfl ⟨Nat.le_refl _, Nat.le_refl _⟩ d_Mo_change_32
      · refine aw_aload_n d_Mo_change_33 0 rfl ?_
        refine aw_iload_n d_Mo_change_34 1 rfl ?_
        refine aw_iconst d_Mo_change_35 ki_3 ?_
        refine aw_iload_n d_Mo_change_36 2 rfl ?_
        refine aw_iadd d_Mo_change_37 ?_
        refine aw_V_p (As := [.int a1, .int ((3 : Int32) + a2)]) (m_Mo_cell) cv_Mo_265 kd_151 rfl rfl rfl (Nat.le_of_ble_eq_true rfl) ⟨Nat.le_of_ble_eq_true rfl, Nat.le_of_ble_eq_true rfl⟩ ⟨Nat.le_refl _, Nat.le_refl _⟩ d_Mo_change_38 (fun y38 => ?_)
        refine aw_istore_n (lo' := [(3, .int y38), (0, .ref 151), (1, .int a1), (2, .int a2)]) d_Mo_change_41 rfl (by decide) rfl ?_
        refine aw_aload_n d_Mo_change_42 1 rfl ?_
        refine aw_iconst d_Mo_change_43 ki_1 ?_
        refine aw_iload_n d_Mo_change_44 2 rfl ?_
        refine aw_iload_n d_Mo_change_45 3 rfl ?_
        refine aw_iconst d_Mo_change_46 ki_0 ?_
        refine aw_iconst d_Mo_change_47 ki_0 ?_
        refine aw_V_v (As := [.int (1 : Int32), .int a1, .int a2, .int (0 : Int32), .int (0 : Int32)]) (m_Mo_writes) cv_Mo_308 kd_151 rfl rfl rfl (Nat.le_of_ble_eq_true rfl) ⟨Nat.le_of_ble_eq_true rfl, Nat.le_of_ble_eq_true rfl⟩ ⟨Nat.le_refl _, Nat.le_refl _⟩ d_Mo_change_48 (fun y48 => ?_)
        refine aw_aload_n d_Mo_change_51 1 rfl ?_
        refine aw_iload_n d_Mo_change_52 2 rfl ?_
        refine aw_iconst d_Mo_change_53 ki_3 ?_
        refine aw_iload_n d_Mo_change_54 3 rfl ?_
        refine aw_iadd d_Mo_change_55 ?_
        refine aw_sipush d_Mo_change_56 ks_1000 ?_
        refine aw_V_v (As := [.int a1, .int ((3 : Int32) + a2), .int (1000 : Int32)]) (m_Mo_sets) cv_Mo_274 kd_151 rfl rfl rfl (Nat.le_of_ble_eq_true rfl) ⟨Nat.le_of_ble_eq_true rfl, Nat.le_of_ble_eq_true rfl⟩ ⟨Nat.le_refl _, Nat.le_refl _⟩ d_Mo_change_59 (fun y59 => ?_)
        refine aw_iload_n d_Mo_change_62 3 rfl ?_
        refine aw_iconst d_Mo_change_63 ki_2 ?_
        refine aw_icmp_ne (tgt := 87) d_Mo_change_64 rfl (fun q64 => ?_) (fun q64 => ?_)
        · refine aw_aload_n d_Mo_change_67 1 rfl ?_
          refine aw_iload_n d_Mo_change_68 2 rfl ?_
          refine aw_bipush d_Mo_change_69 kb_9 ?_
          refine aw_aload_n d_Mo_change_71 1 rfl ?_
          refine aw_iload_n d_Mo_change_72 2 rfl ?_
          refine aw_bipush d_Mo_change_73 kb_9 ?_
          refine aw_V_p (As := [.int a1, .int (9 : Int32)]) (m_Mo_cell) cv_Mo_265 kd_151 rfl rfl rfl (Nat.le_of_ble_eq_true rfl) ⟨Nat.le_of_ble_eq_true rfl, Nat.le_of_ble_eq_true rfl⟩ ⟨Nat.le_refl _, Nat.le_refl _⟩ d_Mo_change_75 (fun y75 => ?_)
          refine aw_sipush d_Mo_change_78 ks_1000 ?_
          refine aw_iadd d_Mo_change_81 ?_
          refine aw_iload_n d_Mo_change_82 0 rfl ?_
          refine aw_isub d_Mo_change_83 ?_
          refine aw_V_v (As := [.int a1, .int (9 : Int32), .int ((y75 + (1000 : Int32)) - y38)]) (m_Mo_sets) cv_Mo_274 kd_151 rfl rfl rfl (Nat.le_of_ble_eq_true rfl) ⟨Nat.le_of_ble_eq_true rfl, Nat.le_of_ble_eq_true rfl⟩ ⟨Nat.le_refl _, Nat.le_refl _⟩ d_Mo_change_84 (fun y84 => ?_)
          refine aw_sub (lo' := [(0, .ref 151), (1, .int a1), (2, .int a2), (3, .int y38)]) [1, 2, 3, 0] rfl ?_
          exact tj_Mo_change_87 _ _ _ _
        · refine aw_sub (lo' := [(0, .ref 151), (1, .int a1), (2, .int a2), (3, .int y38)]) [1, 2, 3, 0] rfl ?_
          exact tj_Mo_change_87 _ _ _ _
def f_Mo_empty (a1 : Int32) (δ : Dm) : Option (Int32 × Dm) := ((f_Mo_isBooth a1 δ).bind (fun y2 => (if y2 = 0 then (some ((-1 : Int32), δ)) else ((f_Mo_cell a1 (7 : Int32) δ).bind (fun y14 => ((f_Mo_sets a1 (7 : Int32) (0 : Int32) δ).bind (fun y23 => (some (y14, y23)))))))))
set_option maxHeartbeats 4000000 in
set_option maxRecDepth 100000 in
theorem m_Mo_empty {a1 : Int32} {δ : Dm} {n : Nat} : ∀ x, f_Mo_empty a1 δ = some x → AMet k_Mo_empty 2 0 0 [.ref 151, .int a1] δ RT n (Km RT n x) := by
  refine aw_start (lo := [(0, .ref 151), (1, .int a1)]) mok_Mo_empty rfl (Nat.le_of_ble_eq_true rfl) ?_
  unfold f_Mo_empty
  refine aw_aload_n d_Mo_empty_0 0 rfl ?_
  refine aw_iload_n d_Mo_empty_1 1 rfl ?_
  refine aw_V_p (As := [.int a1]) (m_Mo_isBooth) cv_Mo_278 kd_151 rfl rfl rfl (Nat.le_of_ble_eq_true rfl) ⟨Nat.le_of_ble_eq_true rfl, Nat.le_of_ble_eq_true rfl⟩ ⟨Nat.le_refl _, Nat.le_refl _⟩ d_Mo_empty_2 (fun y2 => ?_)
  refine aw_if_ne (tgt := 10) d_Mo_empty_5 rfl (fun q5 => ?_) (fun q5 => ?_)
  · refine aw_iconst d_Mo_empty_8 ki_m1 ?_
    exact aw_iret rfl rfl ⟨Nat.le_refl _, Nat.le_refl _⟩ d_Mo_empty_9
  · refine aw_aload_n d_Mo_empty_10 0 rfl ?_
    refine aw_iload_n d_Mo_empty_11 1 rfl ?_
    refine aw_bipush d_Mo_empty_12 kb_7 ?_
    refine aw_V_p (As := [.int a1, .int (7 : Int32)]) (m_Mo_cell) cv_Mo_265 kd_151 rfl rfl rfl (Nat.le_of_ble_eq_true rfl) ⟨Nat.le_of_ble_eq_true rfl, Nat.le_of_ble_eq_true rfl⟩ ⟨Nat.le_refl _, Nat.le_refl _⟩ d_Mo_empty_14 (fun y14 => ?_)
    refine aw_istore_n (lo' := [(2, .int y14), (0, .ref 151), (1, .int a1)]) d_Mo_empty_17 rfl (by decide) rfl ?_
    refine aw_aload_n d_Mo_empty_18 1 rfl ?_
    refine aw_iload_n d_Mo_empty_19 2 rfl ?_
    refine aw_bipush d_Mo_empty_20 kb_7 ?_
    refine aw_iconst d_Mo_empty_22 ki_0 ?_
    refine aw_V_v (As := [.int a1, .int (7 : Int32), .int (0 : Int32)]) (m_Mo_sets) cv_Mo_274 kd_151 rfl rfl rfl (Nat.le_of_ble_eq_true rfl) ⟨Nat.le_of_ble_eq_true rfl, Nat.le_of_ble_eq_true rfl⟩ ⟨Nat.le_refl _, Nat.le_refl _⟩ d_Mo_empty_23 (fun y23 => ?_)
    refine aw_iload_n d_Mo_empty_26 0 rfl ?_
    exact aw_iret rfl rfl ⟨Nat.le_refl _, Nat.le_refl _⟩ d_Mo_empty_27
def f_Mo_of (a1 : Int32) (a2 : Int32) (δ : Dm) : Option Int32 := ((f_Mo_isBooth a1 δ).bind (fun y2 => (if y2 = 0 then (some (-1 : Int32)) else ((f_Mo_in ((a2).toInt64) (0 : Int64) (7 : Int64) δ).bind (fun y14 => (if y14 = 0 then (some (-1 : Int32)) else (if (a2).toInt = (3 : Int) then ((f_Mo_cell a1 (6 : Int32) δ).bind (fun y60 => (some y60))) else (if (a2).toInt = (4 : Int) then ((f_Mo_cell a1 (7 : Int32) δ).bind (fun y68 => (some y68))) else (if (a2).toInt = (5 : Int) then ((f_Mo_cell a1 (8 : Int32) δ).bind (fun y76 => (some y76))) else (if (a2).toInt = (6 : Int) then ((f_Mo_cell a1 (0 : Int32) δ).bind (fun y83 => (some y83))) else (if (a2).toInt = (7 : Int) then ((f_Mo_cell a1 (9 : Int32) δ).bind (fun y91 => (some y91))) else ((f_Mo_cell a1 ((3 : Int32) + a2) δ).bind (fun y100 => (some y100))))))))))))))
set_option maxHeartbeats 4000000 in
set_option maxRecDepth 100000 in
theorem m_Mo_of {a1 : Int32} {a2 : Int32} {δ : Dm} {n : Nat} : ∀ x, f_Mo_of a1 a2 δ = some x → AMet k_Mo_of 2 0 0 [.ref 151, .int a1, .int a2] δ RT n (Kp δ RT n x) := by
  refine aw_start (lo := [(0, .ref 151), (1, .int a1), (2, .int a2)]) mok_Mo_of rfl (Nat.le_of_ble_eq_true rfl) ?_
  unfold f_Mo_of
  refine aw_aload_n d_Mo_of_0 0 rfl ?_
  refine aw_iload_n d_Mo_of_1 1 rfl ?_
  refine aw_V_p (As := [.int a1]) (m_Mo_isBooth) cv_Mo_278 kd_151 rfl rfl rfl (Nat.le_of_ble_eq_true rfl) ⟨Nat.le_of_ble_eq_true rfl, Nat.le_of_ble_eq_true rfl⟩ ⟨Nat.le_refl _, Nat.le_refl _⟩ d_Mo_of_2 (fun y2 => ?_)
  refine aw_if_eq (tgt := 20) d_Mo_of_5 rfl (fun q5 => ?_) (fun q5 => ?_)
  · refine aw_iconst d_Mo_of_20 ki_m1 ?_
    exact aw_iret rfl rfl ⟨Nat.le_refl _, Nat.le_refl _⟩ d_Mo_of_21
  · refine aw_iload_n d_Mo_of_8 2 rfl ?_
    refine aw_i2l d_Mo_of_9 ?_
    refine aw_lconst d_Mo_of_10 kl_0 ?_
    refine aw_ldc2 (v := (7 : Int64)) d_Mo_of_11 kc_Mo_316 ?_
    refine aw_S_p (As := [.long ((a2).toInt64), .long (0 : Int64), .long (7 : Int64)]) (m_Mo_in) cs_Mo_64 rfl rfl (Nat.le_of_ble_eq_true rfl) ⟨Nat.le_of_ble_eq_true rfl, Nat.le_of_ble_eq_true rfl⟩ ⟨Nat.le_refl _, Nat.le_refl _⟩ d_Mo_of_14 (fun y14 => ?_)
    refine aw_if_ne (tgt := 22) d_Mo_of_17 rfl (fun q17 => ?_) (fun q17 => ?_)
    · refine aw_iconst d_Mo_of_20 ki_m1 ?_
      exact aw_iret rfl rfl ⟨Nat.le_refl _, Nat.le_refl _⟩ d_Mo_of_21
    · refine aw_iload_n d_Mo_of_22 2 rfl ?_
      refine aw_ite (fun q23 => ?_) (fun q23_0 => ?_)
      · refine aw_tswitch (tgt := 56) d_Mo_of_23 q23 (by decide) (by decide) rfl rfl ?_
        refine aw_aload_n d_Mo_of_56 0 rfl ?_
        refine aw_iload_n d_Mo_of_57 1 rfl ?_
        refine aw_bipush d_Mo_of_58 kb_6 ?_
        refine aw_V_p (As := [.int a1, .int (6 : Int32)]) (m_Mo_cell) cv_Mo_265 kd_151 rfl rfl rfl (Nat.le_of_ble_eq_true rfl) ⟨Nat.le_of_ble_eq_true rfl, Nat.le_of_ble_eq_true rfl⟩ ⟨Nat.le_refl _, Nat.le_refl _⟩ d_Mo_of_60 (fun y60 => ?_)
        exact aw_iret rfl rfl ⟨Nat.le_refl _, Nat.le_refl _⟩ d_Mo_of_63
      · refine aw_ite (fun q23 => ?_) (fun q23_1 => ?_)
        · refine aw_tswitch (tgt := 64) d_Mo_of_23 q23 (by decide) (by decide) rfl rfl ?_
          refine aw_aload_n d_Mo_of_64 0 rfl ?_
          refine aw_iload_n d_Mo_of_65 1 rfl ?_
          refine aw_bipush d_Mo_of_66 kb_7 ?_
          refine aw_V_p (As := [.int a1, .int (7 : Int32)]) (m_Mo_cell) cv_Mo_265 kd_151 rfl rfl rfl (Nat.le_of_ble_eq_true rfl) ⟨Nat.le_of_ble_eq_true rfl, Nat.le_of_ble_eq_true rfl⟩ ⟨Nat.le_refl _, Nat.le_refl _⟩ d_Mo_of_68 (fun y68 => ?_)
          exact aw_iret rfl rfl ⟨Nat.le_refl _, Nat.le_refl _⟩ d_Mo_of_71
        · refine aw_ite (fun q23 => ?_) (fun q23_2 => ?_)
          · refine aw_tswitch (tgt := 72) d_Mo_of_23 q23 (by decide) (by decide) rfl rfl ?_
            refine aw_aload_n d_Mo_of_72 0 rfl ?_
            refine aw_iload_n d_Mo_of_73 1 rfl ?_
            refine aw_bipush d_Mo_of_74 kb_8 ?_
            refine aw_V_p (As := [.int a1, .int (8 : Int32)]) (m_Mo_cell) cv_Mo_265 kd_151 rfl rfl rfl (Nat.le_of_ble_eq_true rfl) ⟨Nat.le_of_ble_eq_true rfl, Nat.le_of_ble_eq_true rfl⟩ ⟨Nat.le_refl _, Nat.le_refl _⟩ d_Mo_of_76 (fun y76 => ?_)
            exact aw_iret rfl rfl ⟨Nat.le_refl _, Nat.le_refl _⟩ d_Mo_of_79
          · refine aw_ite (fun q23 => ?_) (fun q23_3 => ?_)
            · refine aw_tswitch (tgt := 80) d_Mo_of_23 q23 (by decide) (by decide) rfl rfl ?_
              refine aw_aload_n d_Mo_of_80 0 rfl ?_
              refine aw_iload_n d_Mo_of_81 1 rfl ?_
              refine aw_iconst d_Mo_of_82 ki_0 ?_
              refine aw_V_p (As := [.int a1, .int (0 : Int32)]) (m_Mo_cell) cv_Mo_265 kd_151 rfl rfl rfl (Nat.le_of_ble_eq_true rfl) ⟨Nat.le_of_ble_eq_true rfl, Nat.le_of_ble_eq_true rfl⟩ ⟨Nat.le_refl _, Nat.le_refl _⟩ d_Mo_of_83 (fun y83 => ?_)
              exact aw_iret rfl rfl ⟨Nat.le_refl _, Nat.le_refl _⟩ d_Mo_of_86
            · refine aw_ite (fun q23 => ?_) (fun q23_4 => ?_)
              · refine aw_tswitch (tgt := 87) d_Mo_of_23 q23 (by decide) (by decide) rfl rfl ?_
                refine aw_aload_n d_Mo_of_87 0 rfl ?_
                refine aw_iload_n d_Mo_of_88 1 rfl ?_
                refine aw_bipush d_Mo_of_89 kb_9 ?_
                refine aw_V_p (As := [.int a1, .int (9 : Int32)]) (m_Mo_cell) cv_Mo_265 kd_151 rfl rfl rfl (Nat.le_of_ble_eq_true rfl) ⟨Nat.le_of_ble_eq_true rfl, Nat.le_of_ble_eq_true rfl⟩ ⟨Nat.le_refl _, Nat.le_refl _⟩ d_Mo_of_91 (fun y91 => ?_)
                exact aw_iret rfl rfl ⟨Nat.le_refl _, Nat.le_refl _⟩ d_Mo_of_94
              · refine aw_tdflt (tgt := 95) d_Mo_of_23 (by omega) rfl ?_
                refine aw_aload_n d_Mo_of_95 0 rfl ?_
                refine aw_iload_n d_Mo_of_96 1 rfl ?_
                refine aw_iconst d_Mo_of_97 ki_3 ?_
                refine aw_iload_n d_Mo_of_98 2 rfl ?_
                refine aw_iadd d_Mo_of_99 ?_
                refine aw_V_p (As := [.int a1, .int ((3 : Int32) + a2)]) (m_Mo_cell) cv_Mo_265 kd_151 rfl rfl rfl (Nat.le_of_ble_eq_true rfl) ⟨Nat.le_of_ble_eq_true rfl, Nat.le_of_ble_eq_true rfl⟩ ⟨Nat.le_refl _, Nat.le_refl _⟩ d_Mo_of_100 (fun y100 => ?_)
                exact aw_iret rfl rfl ⟨Nat.le_refl _, Nat.le_refl _⟩ d_Mo_of_103
def f_Mo_event (a1 : Int32) (a2 : Int32) (δ : Dm) : Option Int32 := (if inb (((3926 : Int32) + ((8 : Int32) * a1)) + a2) 8918 then (some (gI δ 152 (ix (((3926 : Int32) + ((8 : Int32) * a1)) + a2)))) else none)
set_option maxHeartbeats 4000000 in
set_option maxRecDepth 100000 in
theorem m_Mo_event {a1 : Int32} {a2 : Int32} {δ : Dm} {n : Nat} : ∀ x, f_Mo_event a1 a2 δ = some x → AMet k_Mo_event 1 0 0 [.ref 151, .int a1, .int a2] δ RT n (Kp δ RT n x) := by
  refine aw_start (lo := [(0, .ref 151), (1, .int a1), (2, .int a2)]) mok_Mo_event rfl (Nat.le_of_ble_eq_true rfl) ?_
  unfold f_Mo_event
  refine aw_aload_n d_Mo_event_0 0 rfl ?_
  refine aw_getR (t := 152) fl_Mo_7 kd_151 rt_151_0 d_Mo_event_1 ?_
  refine aw_sipush d_Mo_event_4 ks_3926 ?_
  refine aw_bipush d_Mo_event_7 kb_8 ?_
  refine aw_iload_n d_Mo_event_9 1 rfl ?_
  refine aw_imul d_Mo_event_10 ?_
  refine aw_iadd d_Mo_event_11 ?_
  refine aw_iload_n d_Mo_event_12 2 rfl ?_
  refine aw_iadd d_Mo_event_13 ?_
  refine aw_iald kd_152 d_Mo_event_14 ?_
  exact aw_iret rfl rfl ⟨Nat.le_refl _, Nat.le_refl _⟩ d_Mo_event_15
def jp_Mo_isStrip_24 (a1 : Int32) (a2 : Int32) (δ : Dm) : Option Int32 := (some (1 : Int32))
set_option maxHeartbeats 4000000 in
set_option maxRecDepth 100000 in
theorem tj_Mo_isStrip_24 {n : Nat} (a1 : Int32) (a2 : Int32) (δ : Dm) : AWo k_Mo_isStrip 2 0 0 24 [(0, .ref 151), (1, .int a1), (2, .int a2)] [] δ RT n 0 0 (Kp δ RT n) (jp_Mo_isStrip_24 a1 a2 δ) := by
  unfold jp_Mo_isStrip_24
  refine aw_iconst d_Mo_isStrip_24 ki_1 ?_
  refine aw_goto (tgt := 29) d_Mo_isStrip_25 rfl ?_
  exact aw_zret rfl rfl rfl ⟨Nat.le_refl _, Nat.le_refl _⟩ d_Mo_isStrip_29
def f_Mo_isStrip (a1 : Int32) (a2 : Int32) (δ : Dm) : Option Int32 := ((f_Mo_event a1 (0 : Int32) δ).bind (fun y3 => (if y3 = 0 then (if a2 = (-1 : Int32) then (jp_Mo_isStrip_24 a1 a2 δ) else ((f_Mo_event a1 (1 : Int32) δ).bind (fun y17 => (if y17 = a2 then (jp_Mo_isStrip_24 a1 a2 δ) else (some (0 : Int32)))))) else (some (0 : Int32)))))
set_option maxHeartbeats 4000000 in
set_option maxRecDepth 100000 in
theorem m_Mo_isStrip {a1 : Int32} {a2 : Int32} {δ : Dm} {n : Nat} : ∀ x, f_Mo_isStrip a1 a2 δ = some x → AMet k_Mo_isStrip 2 0 0 [.ref 151, .int a1, .int a2] δ RT n (Kp δ RT n x) := by
  refine aw_start (lo := [(0, .ref 151), (1, .int a1), (2, .int a2)]) mok_Mo_isStrip rfl (Nat.le_of_ble_eq_true rfl) ?_
  unfold f_Mo_isStrip
  refine aw_aload_n d_Mo_isStrip_0 0 rfl ?_
  refine aw_iload_n d_Mo_isStrip_1 1 rfl ?_
  refine aw_iconst d_Mo_isStrip_2 ki_0 ?_
  refine aw_V_p (As := [.int a1, .int (0 : Int32)]) (m_Mo_event) cv_Mo_318 kd_151 rfl rfl rfl (Nat.le_of_ble_eq_true rfl) ⟨Nat.le_of_ble_eq_true rfl, Nat.le_of_ble_eq_true rfl⟩ ⟨Nat.le_refl _, Nat.le_refl _⟩ d_Mo_isStrip_3 (fun y3 => ?_)
  refine aw_if_ne (tgt := 28) d_Mo_isStrip_6 rfl (fun q6 => ?_) (fun q6 => ?_)
  · refine aw_iload_n d_Mo_isStrip_9 2 rfl ?_
    refine aw_iconst d_Mo_isStrip_10 ki_m1 ?_
    refine aw_icmp_eq (tgt := 24) d_Mo_isStrip_11 rfl (fun q11 => ?_) (fun q11 => ?_)
    · refine aw_sub (lo' := [(0, .ref 151), (1, .int a1), (2, .int a2)]) [0, 1, 2] rfl ?_
      exact tj_Mo_isStrip_24 _ _ _
    · refine aw_aload_n d_Mo_isStrip_14 0 rfl ?_
      refine aw_iload_n d_Mo_isStrip_15 1 rfl ?_
      refine aw_iconst d_Mo_isStrip_16 ki_1 ?_
      refine aw_V_p (As := [.int a1, .int (1 : Int32)]) (m_Mo_event) cv_Mo_318 kd_151 rfl rfl rfl (Nat.le_of_ble_eq_true rfl) ⟨Nat.le_of_ble_eq_true rfl, Nat.le_of_ble_eq_true rfl⟩ ⟨Nat.le_refl _, Nat.le_refl _⟩ d_Mo_isStrip_17 (fun y17 => ?_)
      refine aw_iload_n d_Mo_isStrip_20 2 rfl ?_
      refine aw_icmp_ne (tgt := 28) d_Mo_isStrip_21 rfl (fun q21 => ?_) (fun q21 => ?_)
      · refine aw_sub (lo' := [(0, .ref 151), (1, .int a1), (2, .int a2)]) [0, 1, 2] rfl ?_
        exact tj_Mo_isStrip_24 _ _ _
      · refine aw_iconst d_Mo_isStrip_28 ki_0 ?_
        exact aw_zret rfl rfl rfl ⟨Nat.le_refl _, Nat.le_refl _⟩ d_Mo_isStrip_29
  · refine aw_iconst d_Mo_isStrip_28 ki_0 ?_
    exact aw_zret rfl rfl rfl ⟨Nat.le_refl _, Nat.le_refl _⟩ d_Mo_isStrip_29
def lp_Mo_spoilt_32 (kx32_79 : Int32 → Int32 → Option Int32) (a1 : Int32) (a2 : Int32) (δ : Dm) : Nat → Int32 → Int32 → Option Int32
  | 0, _, _ => none
  | f + 1, v3_32, v4_32 => (if inb (7 : Int32) 8918 then (if (gI δ 152 (ix (7 : Int32))) ≤ v4_32 then (kx32_79 v3_32 v4_32) else ((f_Mo_isStrip v4_32 a1 δ).bind (fun y49 => (if y49 = 0 then (bnd (v3_32 + (0 : Int32)) (fun v72 => (lp_Mo_spoilt_32 kx32_79 a1 a2 δ f v72 (v4_32 + (1 : Int32))))) else ((f_Mo_event v4_32 (5 : Int32) δ).bind (fun y59 => (if y59 = a2 then (bnd (v3_32 + (1 : Int32)) (fun v72_1 => (lp_Mo_spoilt_32 kx32_79 a1 a2 δ f v72_1 (v4_32 + (1 : Int32))))) else (bnd (v3_32 + (0 : Int32)) (fun v72_2 => (lp_Mo_spoilt_32 kx32_79 a1 a2 δ f v72_2 (v4_32 + (1 : Int32)))))))))))) else none)
set_option maxHeartbeats 4000000 in
set_option maxRecDepth 100000 in
theorem tl_Mo_spoilt_32 {n : Nat} (kx32_79 : Int32 → Int32 → Option Int32) (a1 : Int32) (a2 : Int32) (δ : Dm) (hkx32_79 : ∀ v3_32k v4_32k, AWo k_Mo_spoilt 3 0 0 79 [(0, .ref 151), (1, .int a1), (2, .int a2), (3, .int v3_32k), (4, .int v4_32k)] [] δ RT n 0 0 (Kp δ RT n) (kx32_79 v3_32k v4_32k)) : ∀ (f : Nat) (v3_32 : Int32) (v4_32 : Int32), AWo k_Mo_spoilt 3 0 0 32 [(0, .ref 151), (1, .int a1), (2, .int a2), (3, .int v3_32), (4, .int v4_32)] [] δ RT n 0 0 (Kp δ RT n) (lp_Mo_spoilt_32 kx32_79 a1 a2 δ f v3_32 v4_32) := by
  intro f
  induction f with
  | zero => intro _ _; exact aw_none
  | succ f ih =>
    intro v3_32 v4_32
    rw [lp_Mo_spoilt_32]
    refine aw_iload d_Mo_spoilt_32 4 rfl ?_
    refine aw_aload_n d_Mo_spoilt_34 0 rfl ?_
    refine aw_getR (t := 152) fl_Mo_7 kd_151 rt_151_0 d_Mo_spoilt_35 ?_
    refine aw_bipush d_Mo_spoilt_38 kb_7 ?_
    refine aw_iald kd_152 d_Mo_spoilt_40 ?_
    refine aw_icmp_ge (tgt := 79) d_Mo_spoilt_41 rfl (fun q41 => ?_) (fun q41 => ?_)
    · refine aw_sub (lo' := [(0, .ref 151), (1, .int a1), (2, .int a2), (3, .int v3_32), (4, .int v4_32)]) [0, 1, 2, 3, 4] rfl ?_
      exact hkx32_79 _ _
    · refine aw_iload_n d_Mo_spoilt_44 3 rfl ?_
      refine aw_aload_n d_Mo_spoilt_45 0 rfl ?_
      refine aw_iload d_Mo_spoilt_46 4 rfl ?_
      refine aw_iload_n d_Mo_spoilt_48 1 rfl ?_
      refine aw_V_p (As := [.int v4_32, .int a1]) (m_Mo_isStrip) cv_Mo_323 kd_151 rfl rfl rfl (Nat.le_of_ble_eq_true rfl) ⟨Nat.le_of_ble_eq_true rfl, Nat.le_of_ble_eq_true rfl⟩ ⟨Nat.le_refl _, Nat.le_refl _⟩ d_Mo_spoilt_49 (fun y49 => ?_)
      refine aw_if_eq (tgt := 70) d_Mo_spoilt_52 rfl (fun q52 => ?_) (fun q52 => ?_)
      · refine aw_iconst d_Mo_spoilt_70 ki_0 ?_
        refine aw_iadd d_Mo_spoilt_71 ?_
        refine aw_bI (fun v72 => ?_)
        refine aw_istore_n (lo' := [(3, .int v72), (0, .ref 151), (1, .int a1), (2, .int a2), (4, .int v4_32)]) d_Mo_spoilt_72 rfl (by decide) rfl ?_
        refine aw_iinc (v := (v4_32 + (1 : Int32))) (lo' := [(4, .int (v4_32 + (1 : Int32))), (3, .int v72), (0, .ref 151), (1, .int a1), (2, .int a2)]) d_Mo_spoilt_73 4 rfl (by rw [show Int32.ofInt (1) = (1 : Int32) from by decide]) (by decide) rfl ?_
        refine aw_goto (tgt := 32) d_Mo_spoilt_76 rfl ?_
        refine aw_sub (lo' := [(0, .ref 151), (1, .int a1), (2, .int a2), (3, .int v72), (4, .int (v4_32 + (1 : Int32)))]) [2, 3, 4, 1, 0] rfl ?_
        exact ih _ _
      · refine aw_aload_n d_Mo_spoilt_55 0 rfl ?_
        refine aw_iload d_Mo_spoilt_56 4 rfl ?_
        refine aw_iconst d_Mo_spoilt_58 ki_5 ?_
        refine aw_V_p (As := [.int v4_32, .int (5 : Int32)]) (m_Mo_event) cv_Mo_318 kd_151 rfl rfl rfl (Nat.le_of_ble_eq_true rfl) ⟨Nat.le_of_ble_eq_true rfl, Nat.le_of_ble_eq_true rfl⟩ ⟨Nat.le_refl _, Nat.le_refl _⟩ d_Mo_spoilt_59 (fun y59 => ?_)
        refine aw_iload_n d_Mo_spoilt_62 2 rfl ?_
        refine aw_icmp_ne (tgt := 70) d_Mo_spoilt_63 rfl (fun q63 => ?_) (fun q63 => ?_)
        · refine aw_iconst d_Mo_spoilt_66 ki_1 ?_
          refine aw_goto (tgt := 71) d_Mo_spoilt_67 rfl ?_
          refine aw_iadd d_Mo_spoilt_71 ?_
          refine aw_bI (fun v72_1 => ?_)
          refine aw_istore_n (lo' := [(3, .int v72_1), (0, .ref 151), (1, .int a1), (2, .int a2), (4, .int v4_32)]) d_Mo_spoilt_72 rfl (by decide) rfl ?_
          refine aw_iinc (v := (v4_32 + (1 : Int32))) (lo' := [(4, .int (v4_32 + (1 : Int32))), (3, .int v72_1), (0, .ref 151), (1, .int a1), (2, .int a2)]) d_Mo_spoilt_73 4 rfl (by rw [show Int32.ofInt (1) = (1 : Int32) from by decide]) (by decide) rfl ?_
          refine aw_goto (tgt := 32) d_Mo_spoilt_76 rfl ?_
          refine aw_sub (lo' := [(0, .ref 151), (1, .int a1), (2, .int a2), (3, .int v72_1), (4, .int (v4_32 + (1 : Int32)))]) [2, 3, 4, 1, 0] rfl ?_
          exact ih _ _
        · refine aw_iconst d_Mo_spoilt_70 ki_0 ?_
          refine aw_iadd d_Mo_spoilt_71 ?_
          refine aw_bI (fun v72_2 => ?_)
          refine aw_istore_n (lo' := [(3, .int v72_2), (0, .ref 151), (1, .int a1), (2, .int a2), (4, .int v4_32)]) d_Mo_spoilt_72 rfl (by decide) rfl ?_
          refine aw_iinc (v := (v4_32 + (1 : Int32))) (lo' := [(4, .int (v4_32 + (1 : Int32))), (3, .int v72_2), (0, .ref 151), (1, .int a1), (2, .int a2)]) d_Mo_spoilt_73 4 rfl (by rw [show Int32.ofInt (1) = (1 : Int32) from by decide]) (by decide) rfl ?_
          refine aw_goto (tgt := 32) d_Mo_spoilt_76 rfl ?_
          refine aw_sub (lo' := [(0, .ref 151), (1, .int a1), (2, .int a2), (3, .int v72_2), (4, .int (v4_32 + (1 : Int32)))]) [2, 3, 4, 1, 0] rfl ?_
          exact ih _ _
def jp_Mo_spoilt_13 (a1 : Int32) (a2 : Int32) (δ : Dm) : Option Int32 := ((f_Mo_in ((a2).toInt64) (0 : Int64) (5 : Int64) δ).bind (fun y19 => (if y19 = 0 then (some (-1 : Int32)) else (lp_Mo_spoilt_32 (fun v3_32x v4_32x => (some v3_32x)) a1 a2 δ FU (0 : Int32) (0 : Int32)))))
set_option maxHeartbeats 4000000 in
set_option maxRecDepth 100000 in
theorem tj_Mo_spoilt_13 {n : Nat} (a1 : Int32) (a2 : Int32) (δ : Dm) : AWo k_Mo_spoilt 3 0 0 13 [(0, .ref 151), (1, .int a1), (2, .int a2)] [] δ RT n 0 0 (Kp δ RT n) (jp_Mo_spoilt_13 a1 a2 δ) := by
  unfold jp_Mo_spoilt_13
  refine aw_iload_n d_Mo_spoilt_13 2 rfl ?_
  refine aw_i2l d_Mo_spoilt_14 ?_
  refine aw_lconst d_Mo_spoilt_15 kl_0 ?_
  refine aw_ldc2 (v := (5 : Int64)) d_Mo_spoilt_16 kc_Mo_321 ?_
  refine aw_S_p (As := [.long ((a2).toInt64), .long (0 : Int64), .long (5 : Int64)]) (m_Mo_in) cs_Mo_64 rfl rfl (Nat.le_of_ble_eq_true rfl) ⟨Nat.le_of_ble_eq_true rfl, Nat.le_of_ble_eq_true rfl⟩ ⟨Nat.le_refl _, Nat.le_refl _⟩ d_Mo_spoilt_19 (fun y19 => ?_)
  refine aw_if_ne (tgt := 27) d_Mo_spoilt_22 rfl (fun q22 => ?_) (fun q22 => ?_)
  · refine aw_iconst d_Mo_spoilt_25 ki_m1 ?_
    exact aw_iret rfl rfl ⟨Nat.le_refl _, Nat.le_refl _⟩ d_Mo_spoilt_26
  · refine aw_iconst d_Mo_spoilt_27 ki_0 ?_
    refine aw_istore_n (lo' := [(3, .int (0 : Int32)), (0, .ref 151), (1, .int a1), (2, .int a2)]) d_Mo_spoilt_28 rfl (by decide) rfl ?_
    refine aw_iconst d_Mo_spoilt_29 ki_0 ?_
    refine aw_istore (lo' := [(4, .int (0 : Int32)), (3, .int (0 : Int32)), (0, .ref 151), (1, .int a1), (2, .int a2)]) d_Mo_spoilt_30 (by decide) rfl ?_
    refine aw_sub (lo' := [(0, .ref 151), (1, .int a1), (2, .int a2), (3, .int (0 : Int32)), (4, .int (0 : Int32))]) [2, 3, 4, 1, 0] rfl ?_
    refine tl_Mo_spoilt_32 _ _ _ _ (fun v3_32x v4_32x => ?_) FU _ _
    · refine aw_iload_n d_Mo_spoilt_79 3 rfl ?_
      exact aw_iret rfl rfl ⟨Nat.le_refl _, Nat.le_refl _⟩ d_Mo_spoilt_80
def f_Mo_spoilt (a1 : Int32) (a2 : Int32) (δ : Dm) : Option Int32 := (if a1 = (-1 : Int32) then (jp_Mo_spoilt_13 a1 a2 δ) else ((f_Mo_isBooth a1 δ).bind (fun y7 => (if y7 = 0 then (some (-1 : Int32)) else (jp_Mo_spoilt_13 a1 a2 δ)))))
set_option maxHeartbeats 4000000 in
set_option maxRecDepth 100000 in
theorem m_Mo_spoilt {a1 : Int32} {a2 : Int32} {δ : Dm} {n : Nat} : ∀ x, f_Mo_spoilt a1 a2 δ = some x → AMet k_Mo_spoilt 3 0 0 [.ref 151, .int a1, .int a2] δ RT n (Kp δ RT n x) := by
  refine aw_start (lo := [(0, .ref 151), (1, .int a1), (2, .int a2)]) mok_Mo_spoilt rfl (Nat.le_of_ble_eq_true rfl) ?_
  unfold f_Mo_spoilt
  refine aw_iload_n d_Mo_spoilt_0 1 rfl ?_
  refine aw_iconst d_Mo_spoilt_1 ki_m1 ?_
  refine aw_icmp_eq (tgt := 13) d_Mo_spoilt_2 rfl (fun q2 => ?_) (fun q2 => ?_)
  · refine aw_sub (lo' := [(0, .ref 151), (1, .int a1), (2, .int a2)]) [0, 1, 2] rfl ?_
    exact tj_Mo_spoilt_13 _ _ _
  · refine aw_aload_n d_Mo_spoilt_5 0 rfl ?_
    refine aw_iload_n d_Mo_spoilt_6 1 rfl ?_
    refine aw_V_p (As := [.int a1]) (m_Mo_isBooth) cv_Mo_278 kd_151 rfl rfl rfl (Nat.le_of_ble_eq_true rfl) ⟨Nat.le_of_ble_eq_true rfl, Nat.le_of_ble_eq_true rfl⟩ ⟨Nat.le_refl _, Nat.le_refl _⟩ d_Mo_spoilt_7 (fun y7 => ?_)
    refine aw_if_eq (tgt := 25) d_Mo_spoilt_10 rfl (fun q10 => ?_) (fun q10 => ?_)
    · refine aw_iconst d_Mo_spoilt_25 ki_m1 ?_
      exact aw_iret rfl rfl ⟨Nat.le_refl _, Nat.le_refl _⟩ d_Mo_spoilt_26
    · refine aw_sub (lo' := [(0, .ref 151), (1, .int a1), (2, .int a2)]) [0, 1, 2] rfl ?_
      exact tj_Mo_spoilt_13 _ _ _
def lp_Mo_goesAgain_90 (kx90_162 : Int32 → Dm → Option Dm) (a1 : Int32) (a2 : Int32) (a3 : Int32) (a4 : Int32) (v6_64 : Int32) (v7_64 : Int32) : Nat → Int32 → Dm → Option Dm
  | 0, _, _ => none
  | f + 1, v5_90, δ90 => ((f_Mo_event v7_64 (2 : Int32) δ90).bind (fun y96 => (if y96 ≤ v5_90 then (kx90_162 v5_90 δ90) else (if inb (((726 : Int32) + ((400 : Int32) * a1)) + v5_90) 8918 then ((f_Mo_words a1 (0 : Int32) (0 : Int32) v5_90 v6_64 (gI δ90 152 (ix (((726 : Int32) + ((400 : Int32) * a1)) + v5_90))) δ90).bind (fun y127 => ((f_Mo_tires a2 (3 : Int32) y127).bind (fun y133 => (if a3 < 0 then (lp_Mo_goesAgain_90 kx90_162 a1 a2 a3 a4 v6_64 v7_64 f (v5_90 + (1 : Int32)) y133) else (if (v5_90 + (1 : Int32)) = a4 then (if inb a3 3 then bnd (sI y133 162 (ix a3) (1000 : Int32)) (fun δ_158 => (lp_Mo_goesAgain_90 kx90_162 a1 a2 a3 a4 v6_64 v7_64 f (v5_90 + (1 : Int32)) δ_158)) else none) else (lp_Mo_goesAgain_90 kx90_162 a1 a2 a3 a4 v6_64 v7_64 f (v5_90 + (1 : Int32)) y133))))))) else none))))
set_option maxHeartbeats 4000000 in
set_option maxRecDepth 100000 in
theorem tl_Mo_goesAgain_90 {n : Nat} (kx90_162 : Int32 → Dm → Option Dm) (a1 : Int32) (a2 : Int32) (a3 : Int32) (a4 : Int32) (v6_64 : Int32) (v7_64 : Int32) (hkx90_162 : ∀ v5_90k δ90k, AWo k_Mo_goesAgain 6 0 0 162 [(0, .ref 151), (1, .int a1), (2, .int a2), (3, .int a3), (4, .int a4), (5, .int v5_90k), (6, .int v6_64), (7, .int v7_64)] [] δ90k RT n 0 0 (Kv RT n) (kx90_162 v5_90k δ90k)) : ∀ (f : Nat) (v5_90 : Int32) (δ90 : Dm), AWo k_Mo_goesAgain 6 0 0 90 [(0, .ref 151), (1, .int a1), (2, .int a2), (3, .int a3), (4, .int a4), (5, .int v5_90), (6, .int v6_64), (7, .int v7_64)] [] δ90 RT n 0 0 (Kv RT n) (lp_Mo_goesAgain_90 kx90_162 a1 a2 a3 a4 v6_64 v7_64 f v5_90 δ90) := by
  intro f
  induction f with
  | zero => intro _ _; exact aw_none
  | succ f ih =>
    intro v5_90 δ90
    rw [lp_Mo_goesAgain_90]
    refine aw_iload d_Mo_goesAgain_90 5 rfl ?_
    refine aw_aload_n d_Mo_goesAgain_92 0 rfl ?_
    refine aw_iload d_Mo_goesAgain_93 7 rfl ?_
    refine aw_iconst d_Mo_goesAgain_95 ki_2 ?_
    refine aw_V_p (As := [.int v7_64, .int (2 : Int32)]) (m_Mo_event) cv_Mo_318 kd_151 rfl rfl rfl (Nat.le_of_ble_eq_true rfl) ⟨Nat.le_of_ble_eq_true rfl, Nat.le_of_ble_eq_true rfl⟩ ⟨Nat.le_refl _, Nat.le_refl _⟩ d_Mo_goesAgain_96 (fun y96 => ?_)
    refine aw_icmp_ge (tgt := 162) d_Mo_goesAgain_99 rfl (fun q99 => ?_) (fun q99 => ?_)
    · refine aw_sub (lo' := [(0, .ref 151), (1, .int a1), (2, .int a2), (3, .int a3), (4, .int a4), (5, .int v5_90), (6, .int v6_64), (7, .int v7_64)]) [0, 1, 2, 3, 4, 5, 6, 7] rfl ?_
      exact hkx90_162 _ _
    · refine aw_aload_n d_Mo_goesAgain_102 0 rfl ?_
      refine aw_iload_n d_Mo_goesAgain_103 1 rfl ?_
      refine aw_iconst d_Mo_goesAgain_104 ki_0 ?_
      refine aw_iconst d_Mo_goesAgain_105 ki_0 ?_
      refine aw_iload d_Mo_goesAgain_106 5 rfl ?_
      refine aw_iload d_Mo_goesAgain_108 6 rfl ?_
      refine aw_aload_n d_Mo_goesAgain_110 0 rfl ?_
      refine aw_getR (t := 152) fl_Mo_7 kd_151 rt_151_0 d_Mo_goesAgain_111 ?_
      refine aw_sipush d_Mo_goesAgain_114 ks_726 ?_
      refine aw_sipush d_Mo_goesAgain_117 ks_400 ?_
      refine aw_iload_n d_Mo_goesAgain_120 1 rfl ?_
      refine aw_imul d_Mo_goesAgain_121 ?_
      refine aw_iadd d_Mo_goesAgain_122 ?_
      refine aw_iload d_Mo_goesAgain_123 5 rfl ?_
      refine aw_iadd d_Mo_goesAgain_125 ?_
      refine aw_iald kd_152 d_Mo_goesAgain_126 ?_
      refine aw_V_v (As := [.int a1, .int (0 : Int32), .int (0 : Int32), .int v5_90, .int v6_64, .int (gI δ90 152 (ix (((726 : Int32) + ((400 : Int32) * a1)) + v5_90)))]) (m_Mo_words) cv_Mo_295 kd_151 rfl rfl rfl (Nat.le_of_ble_eq_true rfl) ⟨Nat.le_of_ble_eq_true rfl, Nat.le_of_ble_eq_true rfl⟩ ⟨Nat.le_refl _, Nat.le_refl _⟩ d_Mo_goesAgain_127 (fun y127 => ?_)
      refine aw_aload_n d_Mo_goesAgain_130 0 rfl ?_
      refine aw_iload_n d_Mo_goesAgain_131 2 rfl ?_
      refine aw_iconst d_Mo_goesAgain_132 ki_3 ?_
      refine aw_V_v (As := [.int a2, .int (3 : Int32)]) (m_Mo_tires) cv_Mo_302 kd_151 rfl rfl rfl (Nat.le_of_ble_eq_true rfl) ⟨Nat.le_of_ble_eq_true rfl, Nat.le_of_ble_eq_true rfl⟩ ⟨Nat.le_refl _, Nat.le_refl _⟩ d_Mo_goesAgain_133 (fun y133 => ?_)
      refine aw_iinc (v := (v5_90 + (1 : Int32))) (lo' := [(5, .int (v5_90 + (1 : Int32))), (0, .ref 151), (1, .int a1), (2, .int a2), (3, .int a3), (4, .int a4), (6, .int v6_64), (7, .int v7_64)]) d_Mo_goesAgain_136 5 rfl (by rw [show Int32.ofInt (1) = (1 : Int32) from by decide]) (by decide) rfl ?_
      refine aw_iload_n d_Mo_goesAgain_139 4 rfl ?_
      refine aw_if_lt (tgt := 90) d_Mo_goesAgain_140 rfl (fun q140 => ?_) (fun q140 => ?_)
      · refine aw_sub (lo' := [(0, .ref 151), (1, .int a1), (2, .int a2), (3, .int a3), (4, .int a4), (5, .int (v5_90 + (1 : Int32))), (6, .int v6_64), (7, .int v7_64)]) [1, 2, 3, 4, 5, 0, 6, 7] rfl ?_
        exact ih _ _
      · refine aw_iload d_Mo_goesAgain_143 0 rfl ?_
        refine aw_iload d_Mo_goesAgain_145 5 rfl ?_
        refine aw_icmp_ne (tgt := 90) d_Mo_goesAgain_147 rfl (fun q147 => ?_) (fun q147 => ?_)
        · refine aw_aload_n d_Mo_goesAgain_150 1 rfl ?_
          refine aw_getR (t := 162) fl_Mo_42 kd_151 rt_151_21 d_Mo_goesAgain_151 ?_
          refine aw_iload_n d_Mo_goesAgain_154 4 rfl ?_
          refine aw_sipush d_Mo_goesAgain_155 ks_1000 ?_
          refine aw_iast kd_162 d_Mo_goesAgain_158 ?_
          refine aw_bD (fun δ_158 => ?_)
          refine aw_goto (tgt := 90) d_Mo_goesAgain_159 rfl ?_
          refine aw_sub (lo' := [(0, .ref 151), (1, .int a1), (2, .int a2), (3, .int a3), (4, .int a4), (5, .int (v5_90 + (1 : Int32))), (6, .int v6_64), (7, .int v7_64)]) [1, 2, 3, 4, 5, 0, 6, 7] rfl ?_
          exact ih _ _
        · refine aw_sub (lo' := [(0, .ref 151), (1, .int a1), (2, .int a2), (3, .int a3), (4, .int a4), (5, .int (v5_90 + (1 : Int32))), (6, .int v6_64), (7, .int v7_64)]) [1, 2, 3, 4, 5, 0, 6, 7] rfl ?_
          exact ih _ _
def lp_Mo_goesAgain_64 (kx64_257 : Int32 → Int32 → Int32 → Dm → Option Dm) (a1 : Int32) (a2 : Int32) (a3 : Int32) (a4 : Int32) : Nat → Int32 → Int32 → Int32 → Dm → Option Dm
  | 0, _, _, _, _ => none
  | f + 1, v5_64, v6_64, v7_64, δ64 => (if inb (7 : Int32) 8918 then (if (gI δ64 152 (ix (7 : Int32))) ≤ v7_64 then (kx64_257 v5_64 v6_64 v7_64 δ64) else ((f_Mo_event v7_64 (1 : Int32) δ64).bind (fun y80 => (if y80 = a1 then (lp_Mo_goesAgain_90 (fun v5_90x δ90x => ((f_Mo_event v7_64 (0 : Int32) δ90x).bind (fun y166 => (if y166 = (1 : Int32) then ((f_Mo_event v7_64 (3 : Int32) δ90x).bind (fun y181 => (if inb y181 3 then bnd (sI δ90x 162 (ix y181) (1000 : Int32)) (fun δ_187 => (lp_Mo_goesAgain_64 kx64_257 a1 a2 a3 a4 f v5_90x v6_64 (v7_64 + (1 : Int32)) δ_187)) else none))) else ((f_Mo_event v7_64 (3 : Int32) δ90x).bind (fun y197 => ((f_Mo_event v7_64 (4 : Int32) δ90x).bind (fun y204 => ((f_Mo_event v7_64 (6 : Int32) δ90x).bind (fun y214 => ((f_Mo_event v7_64 (7 : Int32) δ90x).bind (fun y222 => ((f_Mo_words a1 y197 y204 v5_90x y214 y222 δ90x).bind (fun y225 => ((f_Mo_spoils a2 y225).bind (fun y234 => bnd y234.1 (fun v234 => bnd y234.2 (fun δ_234 => (if inb v234 6 then (if inb v234 6 then bnd (sI δ_234 163 (ix v234) ((gI δ_234 163 (ix v234)) + (1 : Int32))) (fun δ_241 => ((f_Mo_tires a2 (0 : Int32) δ_241).bind (fun y245 => (lp_Mo_goesAgain_64 kx64_257 a1 a2 a3 a4 f v5_90x (v6_64 + (1 : Int32)) (v7_64 + (1 : Int32)) y245)))) else none) else none))))))))))))))))))) a1 a2 a3 a4 v6_64 v7_64 FU v5_64 δ64) else (lp_Mo_goesAgain_64 kx64_257 a1 a2 a3 a4 f v5_64 v6_64 (v7_64 + (1 : Int32)) δ64))))) else none)
set_option maxHeartbeats 4000000 in
set_option maxRecDepth 100000 in
theorem tl_Mo_goesAgain_64 {n : Nat} (kx64_257 : Int32 → Int32 → Int32 → Dm → Option Dm) (a1 : Int32) (a2 : Int32) (a3 : Int32) (a4 : Int32) (hkx64_257 : ∀ v5_64k v6_64k v7_64k δ64k, AWo k_Mo_goesAgain 6 0 0 257 [(0, .ref 151), (1, .int a1), (2, .int a2), (3, .int a3), (4, .int a4), (5, .int v5_64k), (6, .int v6_64k), (7, .int v7_64k)] [] δ64k RT n 0 0 (Kv RT n) (kx64_257 v5_64k v6_64k v7_64k δ64k)) : ∀ (f : Nat) (v5_64 : Int32) (v6_64 : Int32) (v7_64 : Int32) (δ64 : Dm), AWo k_Mo_goesAgain 6 0 0 64 [(0, .ref 151), (1, .int a1), (2, .int a2), (3, .int a3), (4, .int a4), (5, .int v5_64), (6, .int v6_64), (7, .int v7_64)] [] δ64 RT n 0 0 (Kv RT n) (lp_Mo_goesAgain_64 kx64_257 a1 a2 a3 a4 f v5_64 v6_64 v7_64 δ64) := by
  intro f
  induction f with
  | zero => intro _ _ _ _; exact aw_none
  | succ f ih =>
    intro v5_64 v6_64 v7_64 δ64
    rw [lp_Mo_goesAgain_64]
    refine aw_iload d_Mo_goesAgain_64 7 rfl ?_
    refine aw_aload_n d_Mo_goesAgain_66 0 rfl ?_
    refine aw_getR (t := 152) fl_Mo_7 kd_151 rt_151_0 d_Mo_goesAgain_67 ?_
    refine aw_bipush d_Mo_goesAgain_70 kb_7 ?_
    refine aw_iald kd_152 d_Mo_goesAgain_72 ?_
    refine aw_icmp_ge (tgt := 257) d_Mo_goesAgain_73 rfl (fun q73 => ?_) (fun q73 => ?_)
    · refine aw_sub (lo' := [(0, .ref 151), (1, .int a1), (2, .int a2), (3, .int a3), (4, .int a4), (5, .int v5_64), (6, .int v6_64), (7, .int v7_64)]) [0, 1, 2, 3, 4, 5, 6, 7] rfl ?_
      exact hkx64_257 _ _ _ _
    · refine aw_aload_n d_Mo_goesAgain_76 0 rfl ?_
      refine aw_iload d_Mo_goesAgain_77 7 rfl ?_
      refine aw_iconst d_Mo_goesAgain_79 ki_1 ?_
      refine aw_V_p (As := [.int v7_64, .int (1 : Int32)]) (m_Mo_event) cv_Mo_318 kd_151 rfl rfl rfl (Nat.le_of_ble_eq_true rfl) ⟨Nat.le_of_ble_eq_true rfl, Nat.le_of_ble_eq_true rfl⟩ ⟨Nat.le_refl _, Nat.le_refl _⟩ d_Mo_goesAgain_80 (fun y80 => ?_)
      refine aw_iload_n d_Mo_goesAgain_83 1 rfl ?_
      refine aw_icmp_eq (tgt := 90) d_Mo_goesAgain_84 rfl (fun q84 => ?_) (fun q84 => ?_)
      · refine aw_sub (lo' := [(0, .ref 151), (1, .int a1), (2, .int a2), (3, .int a3), (4, .int a4), (5, .int v5_64), (6, .int v6_64), (7, .int v7_64)]) [0, 1, 2, 3, 4, 5, 6, 7] rfl ?_
        refine tl_Mo_goesAgain_90 _ _ _ _ _ _ _ (fun v5_90x δ90x => ?_) FU _ _
        · refine aw_aload_n d_Mo_goesAgain_162 0 rfl ?_
          refine aw_iload d_Mo_goesAgain_163 7 rfl ?_
          refine aw_iconst d_Mo_goesAgain_165 ki_0 ?_
          refine aw_V_p (As := [.int v7_64, .int (0 : Int32)]) (m_Mo_event) cv_Mo_318 kd_151 rfl rfl rfl (Nat.le_of_ble_eq_true rfl) ⟨Nat.le_of_ble_eq_true rfl, Nat.le_of_ble_eq_true rfl⟩ ⟨Nat.le_refl _, Nat.le_refl _⟩ d_Mo_goesAgain_166 (fun y166 => ?_)
          refine aw_iconst d_Mo_goesAgain_169 ki_1 ?_
          refine aw_icmp_ne (tgt := 191) d_Mo_goesAgain_170 rfl (fun q170 => ?_) (fun q170 => ?_)
          · refine aw_aload_n d_Mo_goesAgain_173 0 rfl ?_
            refine aw_getR (t := 162) fl_Mo_42 kd_151 rt_151_21 d_Mo_goesAgain_174 ?_
            refine aw_aload_n d_Mo_goesAgain_177 0 rfl ?_
            refine aw_iload d_Mo_goesAgain_178 7 rfl ?_
            refine aw_iconst d_Mo_goesAgain_180 ki_3 ?_
            refine aw_V_p (As := [.int v7_64, .int (3 : Int32)]) (m_Mo_event) cv_Mo_318 kd_151 rfl rfl rfl (Nat.le_of_ble_eq_true rfl) ⟨Nat.le_of_ble_eq_true rfl, Nat.le_of_ble_eq_true rfl⟩ ⟨Nat.le_refl _, Nat.le_refl _⟩ d_Mo_goesAgain_181 (fun y181 => ?_)
            refine aw_sipush d_Mo_goesAgain_184 ks_1000 ?_
            refine aw_iast kd_162 d_Mo_goesAgain_187 ?_
            refine aw_bD (fun δ_187 => ?_)
            refine aw_goto (tgt := 251) d_Mo_goesAgain_188 rfl ?_
            refine aw_iinc (v := (v7_64 + (1 : Int32))) (lo' := [(7, .int (v7_64 + (1 : Int32))), (0, .ref 151), (1, .int a1), (2, .int a2), (3, .int a3), (4, .int a4), (5, .int v5_90x), (6, .int v6_64)]) d_Mo_goesAgain_251 7 rfl (by rw [show Int32.ofInt (1) = (1 : Int32) from by decide]) (by decide) rfl ?_
            refine aw_goto (tgt := 64) d_Mo_goesAgain_254 rfl ?_
            refine aw_sub (lo' := [(0, .ref 151), (1, .int a1), (2, .int a2), (3, .int a3), (4, .int a4), (5, .int v5_90x), (6, .int v6_64), (7, .int (v7_64 + (1 : Int32)))]) [1, 2, 3, 4, 5, 6, 7, 0] rfl ?_
            exact ih _ _ _ _
          · refine aw_aload_n d_Mo_goesAgain_191 0 rfl ?_
            refine aw_iload_n d_Mo_goesAgain_192 1 rfl ?_
            refine aw_aload_n d_Mo_goesAgain_193 0 rfl ?_
            refine aw_iload d_Mo_goesAgain_194 7 rfl ?_
            refine aw_iconst d_Mo_goesAgain_196 ki_3 ?_
            refine aw_V_p (As := [.int v7_64, .int (3 : Int32)]) (m_Mo_event) cv_Mo_318 kd_151 rfl rfl rfl (Nat.le_of_ble_eq_true rfl) ⟨Nat.le_of_ble_eq_true rfl, Nat.le_of_ble_eq_true rfl⟩ ⟨Nat.le_refl _, Nat.le_refl _⟩ d_Mo_goesAgain_197 (fun y197 => ?_)
            refine aw_aload_n d_Mo_goesAgain_200 0 rfl ?_
            refine aw_iload d_Mo_goesAgain_201 7 rfl ?_
            refine aw_iconst d_Mo_goesAgain_203 ki_4 ?_
            refine aw_V_p (As := [.int v7_64, .int (4 : Int32)]) (m_Mo_event) cv_Mo_318 kd_151 rfl rfl rfl (Nat.le_of_ble_eq_true rfl) ⟨Nat.le_of_ble_eq_true rfl, Nat.le_of_ble_eq_true rfl⟩ ⟨Nat.le_refl _, Nat.le_refl _⟩ d_Mo_goesAgain_204 (fun y204 => ?_)
            refine aw_iload d_Mo_goesAgain_207 5 rfl ?_
            refine aw_aload_n d_Mo_goesAgain_209 0 rfl ?_
            refine aw_iload d_Mo_goesAgain_210 7 rfl ?_
            refine aw_bipush d_Mo_goesAgain_212 kb_6 ?_
            refine aw_V_p (As := [.int v7_64, .int (6 : Int32)]) (m_Mo_event) cv_Mo_318 kd_151 rfl rfl rfl (Nat.le_of_ble_eq_true rfl) ⟨Nat.le_of_ble_eq_true rfl, Nat.le_of_ble_eq_true rfl⟩ ⟨Nat.le_refl _, Nat.le_refl _⟩ d_Mo_goesAgain_214 (fun y214 => ?_)
            refine aw_aload_n d_Mo_goesAgain_217 0 rfl ?_
            refine aw_iload d_Mo_goesAgain_218 7 rfl ?_
            refine aw_bipush d_Mo_goesAgain_220 kb_7 ?_
            refine aw_V_p (As := [.int v7_64, .int (7 : Int32)]) (m_Mo_event) cv_Mo_318 kd_151 rfl rfl rfl (Nat.le_of_ble_eq_true rfl) ⟨Nat.le_of_ble_eq_true rfl, Nat.le_of_ble_eq_true rfl⟩ ⟨Nat.le_refl _, Nat.le_refl _⟩ d_Mo_goesAgain_222 (fun y222 => ?_)
            refine aw_V_v (As := [.int a1, .int y197, .int y204, .int v5_90x, .int y214, .int y222]) (m_Mo_words) cv_Mo_295 kd_151 rfl rfl rfl (Nat.le_of_ble_eq_true rfl) ⟨Nat.le_of_ble_eq_true rfl, Nat.le_of_ble_eq_true rfl⟩ ⟨Nat.le_refl _, Nat.le_refl _⟩ d_Mo_goesAgain_225 (fun y225 => ?_)
            refine aw_aload_n d_Mo_goesAgain_228 0 rfl ?_
            refine aw_getR (t := 163) fl_Mo_45 kd_151 rt_151_22 d_Mo_goesAgain_229 ?_
            refine aw_aload_n d_Mo_goesAgain_232 0 rfl ?_
            refine aw_iload_n d_Mo_goesAgain_233 2 rfl ?_
            refine aw_V_m (As := [.int a2]) (m_Mo_spoils) cv_Mo_299 kd_151 rfl rfl rfl (Nat.le_of_ble_eq_true rfl) ⟨Nat.le_of_ble_eq_true rfl, Nat.le_of_ble_eq_true rfl⟩ ⟨Nat.le_refl _, Nat.le_refl _⟩ d_Mo_goesAgain_234 (fun y234 => ?_)
            refine aw_bI (fun v234 => ?_)
            refine aw_bD (fun δ_234 => ?_)
            refine aw_dup2 d_Mo_goesAgain_237 rfl rfl ?_
            refine aw_iald kd_163 d_Mo_goesAgain_238 ?_
            refine aw_iconst d_Mo_goesAgain_239 ki_1 ?_
            refine aw_iadd d_Mo_goesAgain_240 ?_
            refine aw_iast kd_163 d_Mo_goesAgain_241 ?_
            refine aw_bD (fun δ_241 => ?_)
            refine aw_aload_n d_Mo_goesAgain_242 0 rfl ?_
            refine aw_iload_n d_Mo_goesAgain_243 2 rfl ?_
            refine aw_iconst d_Mo_goesAgain_244 ki_0 ?_
            refine aw_V_v (As := [.int a2, .int (0 : Int32)]) (m_Mo_tires) cv_Mo_302 kd_151 rfl rfl rfl (Nat.le_of_ble_eq_true rfl) ⟨Nat.le_of_ble_eq_true rfl, Nat.le_of_ble_eq_true rfl⟩ ⟨Nat.le_refl _, Nat.le_refl _⟩ d_Mo_goesAgain_245 (fun y245 => ?_)
            refine aw_iinc (v := (v6_64 + (1 : Int32))) (lo' := [(6, .int (v6_64 + (1 : Int32))), (0, .ref 151), (1, .int a1), (2, .int a2), (3, .int a3), (4, .int a4), (5, .int v5_90x), (7, .int v7_64)]) d_Mo_goesAgain_248 6 rfl (by rw [show Int32.ofInt (1) = (1 : Int32) from by decide]) (by decide) rfl ?_
            refine aw_iinc (v := (v7_64 + (1 : Int32))) (lo' := [(7, .int (v7_64 + (1 : Int32))), (6, .int (v6_64 + (1 : Int32))), (0, .ref 151), (1, .int a1), (2, .int a2), (3, .int a3), (4, .int a4), (5, .int v5_90x)]) d_Mo_goesAgain_251 7 rfl (by rw [show Int32.ofInt (1) = (1 : Int32) from by decide]) (by decide) rfl ?_
            refine aw_goto (tgt := 64) d_Mo_goesAgain_254 rfl ?_
            refine aw_sub (lo' := [(0, .ref 151), (1, .int a1), (2, .int a2), (3, .int a3), (4, .int a4), (5, .int v5_90x), (6, .int (v6_64 + (1 : Int32))), (7, .int (v7_64 + (1 : Int32)))]) [2, 3, 4, 5, 6, 7, 1, 0] rfl ?_
            exact ih _ _ _ _
      · refine aw_goto (tgt := 251) d_Mo_goesAgain_87 rfl ?_
        refine aw_iinc (v := (v7_64 + (1 : Int32))) (lo' := [(7, .int (v7_64 + (1 : Int32))), (0, .ref 151), (1, .int a1), (2, .int a2), (3, .int a3), (4, .int a4), (5, .int v5_64), (6, .int v6_64)]) d_Mo_goesAgain_251 7 rfl (by rw [show Int32.ofInt (1) = (1 : Int32) from by decide]) (by decide) rfl ?_
        refine aw_goto (tgt := 64) d_Mo_goesAgain_254 rfl ?_
        refine aw_sub (lo' := [(0, .ref 151), (1, .int a1), (2, .int a2), (3, .int a3), (4, .int a4), (5, .int v5_64), (6, .int v6_64), (7, .int (v7_64 + (1 : Int32)))]) [1, 2, 3, 4, 5, 6, 7, 0] rfl ?_
        exact ih _ _ _ _
def lp_Mo_goesAgain_27 (kx27_49 : Int32 → Dm → Option Dm) (a1 : Int32) (a2 : Int32) (a3 : Int32) (a4 : Int32) : Nat → Int32 → Dm → Option Dm
  | 0, _, _ => none
  | f + 1, v5_27, δ27 => (if (3 : Int32) ≤ v5_27 then (kx27_49 v5_27 δ27) else (if inb v5_27 3 then bnd (sI δ27 162 (ix v5_27) (1000 : Int32)) (fun δ_42 => (lp_Mo_goesAgain_27 kx27_49 a1 a2 a3 a4 f (v5_27 + (1 : Int32)) δ_42)) else none))
set_option maxHeartbeats 4000000 in
set_option maxRecDepth 100000 in
theorem tl_Mo_goesAgain_27 {n : Nat} (kx27_49 : Int32 → Dm → Option Dm) (a1 : Int32) (a2 : Int32) (a3 : Int32) (a4 : Int32) (hkx27_49 : ∀ v5_27k δ27k, AWo k_Mo_goesAgain 6 0 0 49 [(0, .ref 151), (1, .int a1), (2, .int a2), (3, .int a3), (4, .int a4), (5, .int v5_27k)] [] δ27k RT n 0 0 (Kv RT n) (kx27_49 v5_27k δ27k)) : ∀ (f : Nat) (v5_27 : Int32) (δ27 : Dm), AWo k_Mo_goesAgain 6 0 0 27 [(0, .ref 151), (1, .int a1), (2, .int a2), (3, .int a3), (4, .int a4), (5, .int v5_27)] [] δ27 RT n 0 0 (Kv RT n) (lp_Mo_goesAgain_27 kx27_49 a1 a2 a3 a4 f v5_27 δ27) := by
  intro f
  induction f with
  | zero => intro _ _; exact aw_none
  | succ f ih =>
    intro v5_27 δ27
    rw [lp_Mo_goesAgain_27]
    refine aw_iload d_Mo_goesAgain_27 5 rfl ?_
    refine aw_iconst d_Mo_goesAgain_29 ki_3 ?_
    refine aw_icmp_ge (tgt := 49) d_Mo_goesAgain_30 rfl (fun q30 => ?_) (fun q30 => ?_)
    · refine aw_sub (lo' := [(0, .ref 151), (1, .int a1), (2, .int a2), (3, .int a3), (4, .int a4), (5, .int v5_27)]) [0, 1, 2, 3, 4, 5] rfl ?_
      exact hkx27_49 _ _
    · refine aw_aload_n d_Mo_goesAgain_33 0 rfl ?_
      refine aw_getR (t := 162) fl_Mo_42 kd_151 rt_151_21 d_Mo_goesAgain_34 ?_
      refine aw_iload d_Mo_goesAgain_37 5 rfl ?_
      refine aw_sipush d_Mo_goesAgain_39 ks_1000 ?_
      refine aw_iast kd_162 d_Mo_goesAgain_42 ?_
      refine aw_bD (fun δ_42 => ?_)
      refine aw_iinc (v := (v5_27 + (1 : Int32))) (lo' := [(5, .int (v5_27 + (1 : Int32))), (0, .ref 151), (1, .int a1), (2, .int a2), (3, .int a3), (4, .int a4)]) d_Mo_goesAgain_43 5 rfl (by rw [show Int32.ofInt (1) = (1 : Int32) from by decide]) (by decide) rfl ?_
      refine aw_goto (tgt := 27) d_Mo_goesAgain_46 rfl ?_
      refine aw_sub (lo' := [(0, .ref 151), (1, .int a1), (2, .int a2), (3, .int a3), (4, .int a4), (5, .int (v5_27 + (1 : Int32)))]) [1, 2, 3, 4, 5, 0] rfl ?_
      exact ih _ _
def lp_Mo_goesAgain_3 (kx3_24 : Int32 → Dm → Option Dm) (a1 : Int32) (a2 : Int32) (a3 : Int32) (a4 : Int32) : Nat → Int32 → Dm → Option Dm
  | 0, _, _ => none
  | f + 1, v5_3, δ3 => (if (6 : Int32) ≤ v5_3 then (kx3_24 v5_3 δ3) else (if inb v5_3 6 then bnd (sI δ3 163 (ix v5_3) (0 : Int32)) (fun δ_17 => (lp_Mo_goesAgain_3 kx3_24 a1 a2 a3 a4 f (v5_3 + (1 : Int32)) δ_17)) else none))
set_option maxHeartbeats 4000000 in
set_option maxRecDepth 100000 in
theorem tl_Mo_goesAgain_3 {n : Nat} (kx3_24 : Int32 → Dm → Option Dm) (a1 : Int32) (a2 : Int32) (a3 : Int32) (a4 : Int32) (hkx3_24 : ∀ v5_3k δ3k, AWo k_Mo_goesAgain 6 0 0 24 [(0, .ref 151), (1, .int a1), (2, .int a2), (3, .int a3), (4, .int a4), (5, .int v5_3k)] [] δ3k RT n 0 0 (Kv RT n) (kx3_24 v5_3k δ3k)) : ∀ (f : Nat) (v5_3 : Int32) (δ3 : Dm), AWo k_Mo_goesAgain 6 0 0 3 [(0, .ref 151), (1, .int a1), (2, .int a2), (3, .int a3), (4, .int a4), (5, .int v5_3)] [] δ3 RT n 0 0 (Kv RT n) (lp_Mo_goesAgain_3 kx3_24 a1 a2 a3 a4 f v5_3 δ3) := by
  intro f
  induction f with
  | zero => intro _ _; exact aw_none
  | succ f ih =>
    intro v5_3 δ3
    rw [lp_Mo_goesAgain_3]
    refine aw_iload d_Mo_goesAgain_3 5 rfl ?_
    refine aw_bipush d_Mo_goesAgain_5 kb_6 ?_
    refine aw_icmp_ge (tgt := 24) d_Mo_goesAgain_7 rfl (fun q7 => ?_) (fun q7 => ?_)
    · refine aw_sub (lo' := [(0, .ref 151), (1, .int a1), (2, .int a2), (3, .int a3), (4, .int a4), (5, .int v5_3)]) [0, 1, 2, 3, 4, 5] rfl ?_
      exact hkx3_24 _ _
    · refine aw_aload_n d_Mo_goesAgain_10 0 rfl ?_
      refine aw_getR (t := 163) fl_Mo_45 kd_151 rt_151_22 d_Mo_goesAgain_11 ?_
      refine aw_iload d_Mo_goesAgain_14 5 rfl ?_
      refine aw_iconst d_Mo_goesAgain_16 ki_0 ?_
      refine aw_iast kd_163 d_Mo_goesAgain_17 ?_
      refine aw_bD (fun δ_17 => ?_)
      refine aw_iinc (v := (v5_3 + (1 : Int32))) (lo' := [(5, .int (v5_3 + (1 : Int32))), (0, .ref 151), (1, .int a1), (2, .int a2), (3, .int a3), (4, .int a4)]) d_Mo_goesAgain_18 5 rfl (by rw [show Int32.ofInt (1) = (1 : Int32) from by decide]) (by decide) rfl ?_
      refine aw_goto (tgt := 3) d_Mo_goesAgain_21 rfl ?_
      refine aw_sub (lo' := [(0, .ref 151), (1, .int a1), (2, .int a2), (3, .int a3), (4, .int a4), (5, .int (v5_3 + (1 : Int32)))]) [1, 2, 3, 4, 5, 0] rfl ?_
      exact ih _ _
def f_Mo_goesAgain (a1 : Int32) (a2 : Int32) (a3 : Int32) (a4 : Int32) (δ : Dm) : Option Dm := (lp_Mo_goesAgain_3 (fun v5_3x δ3x => (lp_Mo_goesAgain_27 (fun v5_27x δ27x => ((f_Mo_cell a1 (10 : Int32) δ27x).bind (fun y53 => (lp_Mo_goesAgain_64 (fun v5_64x v6_64x v7_64x δ64x => (some δ64x)) a1 a2 a3 a4 FU y53 (0 : Int32) (0 : Int32) δ27x)))) a1 a2 a3 a4 FU (0 : Int32) δ3x)) a1 a2 a3 a4 FU (0 : Int32) δ)
set_option maxHeartbeats 4000000 in
set_option maxRecDepth 100000 in
theorem m_Mo_goesAgain {a1 : Int32} {a2 : Int32} {a3 : Int32} {a4 : Int32} {δ : Dm} {n : Nat} : ∀ x, f_Mo_goesAgain a1 a2 a3 a4 δ = some x → AMet k_Mo_goesAgain 6 0 0 [.ref 151, .int a1, .int a2, .int a3, .int a4] δ RT n (Kv RT n x) := by
  refine aw_start (lo := [(0, .ref 151), (1, .int a1), (2, .int a2), (3, .int a3), (4, .int a4)]) mok_Mo_goesAgain rfl (Nat.le_of_ble_eq_true rfl) ?_
  unfold f_Mo_goesAgain
  refine aw_iconst d_Mo_goesAgain_0 ki_0 ?_
  refine aw_istore (lo' := [(5, .int (0 : Int32)), (0, .ref 151), (1, .int a1), (2, .int a2), (3, .int a3), (4, .int a4)]) d_Mo_goesAgain_1 (by decide) rfl ?_
  refine aw_sub (lo' := [(0, .ref 151), (1, .int a1), (2, .int a2), (3, .int a3), (4, .int a4), (5, .int (0 : Int32))]) [1, 2, 3, 4, 5, 0] rfl ?_
  refine tl_Mo_goesAgain_3 _ _ _ _ _ (fun v5_3x δ3x => ?_) FU _ _
  · refine aw_iconst d_Mo_goesAgain_24 ki_0 ?_
    refine aw_istore (lo' := [(5, .int (0 : Int32)), (0, .ref 151), (1, .int a1), (2, .int a2), (3, .int a3), (4, .int a4)]) d_Mo_goesAgain_25 (by decide) rfl ?_
    refine aw_sub (lo' := [(0, .ref 151), (1, .int a1), (2, .int a2), (3, .int a3), (4, .int a4), (5, .int (0 : Int32))]) [1, 2, 3, 4, 5, 0] rfl ?_
    refine tl_Mo_goesAgain_27 _ _ _ _ _ (fun v5_27x δ27x => ?_) FU _ _
    · refine aw_aload_n d_Mo_goesAgain_49 0 rfl ?_
      refine aw_iload_n d_Mo_goesAgain_50 1 rfl ?_
      refine aw_bipush d_Mo_goesAgain_51 kb_10 ?_
      refine aw_V_p (As := [.int a1, .int (10 : Int32)]) (m_Mo_cell) cv_Mo_265 kd_151 rfl rfl rfl (Nat.le_of_ble_eq_true rfl) ⟨Nat.le_of_ble_eq_true rfl, Nat.le_of_ble_eq_true rfl⟩ ⟨Nat.le_refl _, Nat.le_refl _⟩ d_Mo_goesAgain_53 (fun y53 => ?_)
      refine aw_istore (lo' := [(5, .int y53), (0, .ref 151), (1, .int a1), (2, .int a2), (3, .int a3), (4, .int a4)]) d_Mo_goesAgain_56 (by decide) rfl ?_
      refine aw_iconst d_Mo_goesAgain_58 ki_0 ?_
      refine aw_istore (lo' := [(6, .int (0 : Int32)), (5, .int y53), (0, .ref 151), (1, .int a1), (2, .int a2), (3, .int a3), (4, .int a4)]) d_Mo_goesAgain_59 (by decide) rfl ?_
      refine aw_iconst d_Mo_goesAgain_61 ki_0 ?_
      refine aw_istore (lo' := [(7, .int (0 : Int32)), (6, .int (0 : Int32)), (5, .int y53), (0, .ref 151), (1, .int a1), (2, .int a2), (3, .int a3), (4, .int a4)]) d_Mo_goesAgain_62 (by decide) rfl ?_
      refine aw_sub (lo' := [(0, .ref 151), (1, .int a1), (2, .int a2), (3, .int a3), (4, .int a4), (5, .int y53), (6, .int (0 : Int32)), (7, .int (0 : Int32))]) [3, 4, 5, 6, 7, 2, 1, 0] rfl ?_
      refine tl_Mo_goesAgain_64 _ _ _ _ _ (fun v5_64x v6_64x v7_64x δ64x => ?_) FU _ _ _ _
      · exact aw_vret rfl rfl ⟨Nat.le_refl _, Nat.le_refl _⟩ d_Mo_goesAgain_257
def f_Mo_again (a1 : Int32) (a2 : Int32) (a3 : Int32) (δ : Dm) : Option (Int32 × Dm) := ((f_Mo_isBooth a1 δ).bind (fun y2 => (if y2 = 0 then (some ((-1 : Int32), δ)) else ((f_Mo_isLaw a2 δ).bind (fun y10 => (if y10 = 0 then (some ((-1 : Int32), δ)) else ((f_Mo_in ((a3).toInt64) (0 : Int64) (5 : Int64) δ).bind (fun y22 => (if y22 = 0 then (some ((-1 : Int32), δ)) else ((f_Mo_goesAgain a1 a2 (-1 : Int32) (-1 : Int32) δ).bind (fun y35 => (if inb a3 6 then (some ((gI y35 163 (ix a3)), y35)) else none))))))))))))
set_option maxHeartbeats 4000000 in
set_option maxRecDepth 100000 in
theorem m_Mo_again {a1 : Int32} {a2 : Int32} {a3 : Int32} {δ : Dm} {n : Nat} : ∀ x, f_Mo_again a1 a2 a3 δ = some x → AMet k_Mo_again 7 0 0 [.ref 151, .int a1, .int a2, .int a3] δ RT n (Km RT n x) := by
  refine aw_start (lo := [(0, .ref 151), (1, .int a1), (2, .int a2), (3, .int a3)]) mok_Mo_again rfl (Nat.le_of_ble_eq_true rfl) ?_
  unfold f_Mo_again
  refine aw_aload_n d_Mo_again_0 0 rfl ?_
  refine aw_iload_n d_Mo_again_1 1 rfl ?_
  refine aw_V_p (As := [.int a1]) (m_Mo_isBooth) cv_Mo_278 kd_151 rfl rfl rfl (Nat.le_of_ble_eq_true rfl) ⟨Nat.le_of_ble_eq_true rfl, Nat.le_of_ble_eq_true rfl⟩ ⟨Nat.le_refl _, Nat.le_refl _⟩ d_Mo_again_2 (fun y2 => ?_)
  refine aw_if_eq (tgt := 28) d_Mo_again_5 rfl (fun q5 => ?_) (fun q5 => ?_)
  · refine aw_iconst d_Mo_again_28 ki_m1 ?_
    exact aw_iret rfl rfl ⟨Nat.le_refl _, Nat.le_refl _⟩ d_Mo_again_29
  · refine aw_aload_n d_Mo_again_8 0 rfl ?_
    refine aw_iload_n d_Mo_again_9 2 rfl ?_
    refine aw_V_p (As := [.int a2]) (m_Mo_isLaw) cv_Mo_271 kd_151 rfl rfl rfl (Nat.le_of_ble_eq_true rfl) ⟨Nat.le_of_ble_eq_true rfl, Nat.le_of_ble_eq_true rfl⟩ ⟨Nat.le_refl _, Nat.le_refl _⟩ d_Mo_again_10 (fun y10 => ?_)
    refine aw_if_eq (tgt := 28) d_Mo_again_13 rfl (fun q13 => ?_) (fun q13 => ?_)
    · refine aw_iconst d_Mo_again_28 ki_m1 ?_
      exact aw_iret rfl rfl ⟨Nat.le_refl _, Nat.le_refl _⟩ d_Mo_again_29
    · refine aw_iload_n d_Mo_again_16 3 rfl ?_
      refine aw_i2l d_Mo_again_17 ?_
      refine aw_lconst d_Mo_again_18 kl_0 ?_
      refine aw_ldc2 (v := (5 : Int64)) d_Mo_again_19 kc_Mo_321 ?_
      refine aw_S_p (As := [.long ((a3).toInt64), .long (0 : Int64), .long (5 : Int64)]) (m_Mo_in) cs_Mo_64 rfl rfl (Nat.le_of_ble_eq_true rfl) ⟨Nat.le_of_ble_eq_true rfl, Nat.le_of_ble_eq_true rfl⟩ ⟨Nat.le_refl _, Nat.le_refl _⟩ d_Mo_again_22 (fun y22 => ?_)
      refine aw_if_ne (tgt := 30) d_Mo_again_25 rfl (fun q25 => ?_) (fun q25 => ?_)
      · refine aw_iconst d_Mo_again_28 ki_m1 ?_
        exact aw_iret rfl rfl ⟨Nat.le_refl _, Nat.le_refl _⟩ d_Mo_again_29
      · refine aw_aload_n d_Mo_again_30 0 rfl ?_
        refine aw_iload_n d_Mo_again_31 1 rfl ?_
        refine aw_iload_n d_Mo_again_32 2 rfl ?_
        refine aw_iconst d_Mo_again_33 ki_m1 ?_
        refine aw_iconst d_Mo_again_34 ki_m1 ?_
        refine aw_V_v (As := [.int a1, .int a2, .int (-1 : Int32), .int (-1 : Int32)]) (m_Mo_goesAgain) cv_Mo_326 kd_151 rfl rfl rfl (Nat.le_of_ble_eq_true rfl) ⟨Nat.le_of_ble_eq_true rfl, Nat.le_of_ble_eq_true rfl⟩ ⟨Nat.le_refl _, Nat.le_refl _⟩ d_Mo_again_35 (fun y35 => ?_)
        refine aw_aload_n d_Mo_again_38 0 rfl ?_
        refine aw_getR (t := 163) fl_Mo_45 kd_151 rt_151_22 d_Mo_again_39 ?_
        refine aw_iload_n d_Mo_again_42 3 rfl ?_
        refine aw_iald kd_163 d_Mo_again_43 ?_
        exact aw_iret rfl rfl ⟨Nat.le_refl _, Nat.le_refl _⟩ d_Mo_again_44
def f_Mo_spoiltWith (a1 : Int32) (a2 : Int32) (a3 : Int32) (δ : Dm) : Option (Int32 × Dm) := ((f_Mo_cell a1 (2 : Int32) δ).bind (fun y5 => ((f_Mo_goesAgain a1 y5 a2 a3 δ).bind (fun y10 => (if inb (1 : Int32) 6 then (if inb (2 : Int32) 6 then (if inb (3 : Int32) 6 then (if inb (4 : Int32) 6 then (if inb (5 : Int32) 6 then (some ((((((gI y10 163 (ix (1 : Int32))) + (gI y10 163 (ix (2 : Int32)))) + (gI y10 163 (ix (3 : Int32)))) + (gI y10 163 (ix (4 : Int32)))) + (gI y10 163 (ix (5 : Int32)))), y10)) else none) else none) else none) else none) else none)))))
set_option maxHeartbeats 4000000 in
set_option maxRecDepth 100000 in
theorem m_Mo_spoiltWith {a1 : Int32} {a2 : Int32} {a3 : Int32} {δ : Dm} {n : Nat} : ∀ x, f_Mo_spoiltWith a1 a2 a3 δ = some x → AMet k_Mo_spoiltWith 7 0 0 [.ref 151, .int a1, .int a2, .int a3] δ RT n (Km RT n x) := by
  refine aw_start (lo := [(0, .ref 151), (1, .int a1), (2, .int a2), (3, .int a3)]) mok_Mo_spoiltWith rfl (Nat.le_of_ble_eq_true rfl) ?_
  unfold f_Mo_spoiltWith
  refine aw_aload_n d_Mo_spoiltWith_0 0 rfl ?_
  refine aw_iload_n d_Mo_spoiltWith_1 1 rfl ?_
  refine aw_aload_n d_Mo_spoiltWith_2 0 rfl ?_
  refine aw_iload_n d_Mo_spoiltWith_3 1 rfl ?_
  refine aw_iconst d_Mo_spoiltWith_4 ki_2 ?_
  refine aw_V_p (As := [.int a1, .int (2 : Int32)]) (m_Mo_cell) cv_Mo_265 kd_151 rfl rfl rfl (Nat.le_of_ble_eq_true rfl) ⟨Nat.le_of_ble_eq_true rfl, Nat.le_of_ble_eq_true rfl⟩ ⟨Nat.le_refl _, Nat.le_refl _⟩ d_Mo_spoiltWith_5 (fun y5 => ?_)
  refine aw_iload_n d_Mo_spoiltWith_8 2 rfl ?_
  refine aw_iload_n d_Mo_spoiltWith_9 3 rfl ?_
  refine aw_V_v (As := [.int a1, .int y5, .int a2, .int a3]) (m_Mo_goesAgain) cv_Mo_326 kd_151 rfl rfl rfl (Nat.le_of_ble_eq_true rfl) ⟨Nat.le_of_ble_eq_true rfl, Nat.le_of_ble_eq_true rfl⟩ ⟨Nat.le_refl _, Nat.le_refl _⟩ d_Mo_spoiltWith_10 (fun y10 => ?_)
  refine aw_aload_n d_Mo_spoiltWith_13 0 rfl ?_
  refine aw_getR (t := 163) fl_Mo_45 kd_151 rt_151_22 d_Mo_spoiltWith_14 ?_
  refine aw_iconst d_Mo_spoiltWith_17 ki_1 ?_
  refine aw_iald kd_163 d_Mo_spoiltWith_18 ?_
  refine aw_aload_n d_Mo_spoiltWith_19 0 rfl ?_
  refine aw_getR (t := 163) fl_Mo_45 kd_151 rt_151_22 d_Mo_spoiltWith_20 ?_
  refine aw_iconst d_Mo_spoiltWith_23 ki_2 ?_
  refine aw_iald kd_163 d_Mo_spoiltWith_24 ?_
  refine aw_iadd d_Mo_spoiltWith_25 ?_
  refine aw_aload_n d_Mo_spoiltWith_26 0 rfl ?_
  refine aw_getR (t := 163) fl_Mo_45 kd_151 rt_151_22 d_Mo_spoiltWith_27 ?_
  refine aw_iconst d_Mo_spoiltWith_30 ki_3 ?_
  refine aw_iald kd_163 d_Mo_spoiltWith_31 ?_
  refine aw_iadd d_Mo_spoiltWith_32 ?_
  refine aw_aload_n d_Mo_spoiltWith_33 0 rfl ?_
  refine aw_getR (t := 163) fl_Mo_45 kd_151 rt_151_22 d_Mo_spoiltWith_34 ?_
  refine aw_iconst d_Mo_spoiltWith_37 ki_4 ?_
  refine aw_iald kd_163 d_Mo_spoiltWith_38 ?_
  refine aw_iadd d_Mo_spoiltWith_39 ?_
  refine aw_aload_n d_Mo_spoiltWith_40 0 rfl ?_
  refine aw_getR (t := 163) fl_Mo_45 kd_151 rt_151_22 d_Mo_spoiltWith_41 ?_
  refine aw_iconst d_Mo_spoiltWith_44 ki_5 ?_
  refine aw_iald kd_163 d_Mo_spoiltWith_45 ?_
  refine aw_iadd d_Mo_spoiltWith_46 ?_
  exact aw_iret rfl rfl ⟨Nat.le_refl _, Nat.le_refl _⟩ d_Mo_spoiltWith_47
def f_Mo_with (a1 : Int32) (a2 : Int32) (a3 : Int32) (δ : Dm) : Option (Int32 × Dm) := ((f_Mo_isBooth a1 δ).bind (fun y2 => (if y2 = 0 then (some ((-1 : Int32), δ)) else ((f_Mo_in ((a2).toInt64) (0 : Int64) (2 : Int64) δ).bind (fun y14 => (if y14 = 0 then (some ((-1 : Int32), δ)) else ((f_Mo_cell a1 (10 : Int32) δ).bind (fun y26 => (if inb (0 : Int32) 8918 then ((f_Mo_in ((a3).toInt64) ((y26).toInt64) (((gI δ 152 (ix (0 : Int32)))).toInt64) δ).bind (fun y37 => (if y37 = 0 then (some ((-1 : Int32), δ)) else ((f_Mo_spoiltWith a1 a2 a3 δ).bind (fun y49 => bnd y49.1 (fun v49 => bnd y49.2 (fun δ_49 => (some (v49, δ_49))))))))) else none)))))))))
set_option maxHeartbeats 4000000 in
set_option maxRecDepth 100000 in
theorem m_Mo_with {a1 : Int32} {a2 : Int32} {a3 : Int32} {δ : Dm} {n : Nat} : ∀ x, f_Mo_with a1 a2 a3 δ = some x → AMet k_Mo_with 8 0 0 [.ref 151, .int a1, .int a2, .int a3] δ RT n (Km RT n x) := by
  refine aw_start (lo := [(0, .ref 151), (1, .int a1), (2, .int a2), (3, .int a3)]) mok_Mo_with rfl (Nat.le_of_ble_eq_true rfl) ?_
  unfold f_Mo_with
  refine aw_aload_n d_Mo_with_0 0 rfl ?_
  refine aw_iload_n d_Mo_with_1 1 rfl ?_
  refine aw_V_p (As := [.int a1]) (m_Mo_isBooth) cv_Mo_278 kd_151 rfl rfl rfl (Nat.le_of_ble_eq_true rfl) ⟨Nat.le_of_ble_eq_true rfl, Nat.le_of_ble_eq_true rfl⟩ ⟨Nat.le_refl _, Nat.le_refl _⟩ d_Mo_with_2 (fun y2 => ?_)
  refine aw_if_eq (tgt := 43) d_Mo_with_5 rfl (fun q5 => ?_) (fun q5 => ?_)
  · refine aw_iconst d_Mo_with_43 ki_m1 ?_
    exact aw_iret rfl rfl ⟨Nat.le_refl _, Nat.le_refl _⟩ d_Mo_with_44
  · refine aw_iload_n d_Mo_with_8 2 rfl ?_
    refine aw_i2l d_Mo_with_9 ?_
    refine aw_lconst d_Mo_with_10 kl_0 ?_
    refine aw_ldc2 (v := (2 : Int64)) d_Mo_with_11 kc_Mo_314 ?_
    refine aw_S_p (As := [.long ((a2).toInt64), .long (0 : Int64), .long (2 : Int64)]) (m_Mo_in) cs_Mo_64 rfl rfl (Nat.le_of_ble_eq_true rfl) ⟨Nat.le_of_ble_eq_true rfl, Nat.le_of_ble_eq_true rfl⟩ ⟨Nat.le_refl _, Nat.le_refl _⟩ d_Mo_with_14 (fun y14 => ?_)
    refine aw_if_eq (tgt := 43) d_Mo_with_17 rfl (fun q17 => ?_) (fun q17 => ?_)
    · refine aw_iconst d_Mo_with_43 ki_m1 ?_
      exact aw_iret rfl rfl ⟨Nat.le_refl _, Nat.le_refl _⟩ d_Mo_with_44
    · refine aw_iload_n d_Mo_with_20 3 rfl ?_
      refine aw_i2l d_Mo_with_21 ?_
      refine aw_aload_n d_Mo_with_22 0 rfl ?_
      refine aw_iload_n d_Mo_with_23 1 rfl ?_
      refine aw_bipush d_Mo_with_24 kb_10 ?_
      refine aw_V_p (As := [.int a1, .int (10 : Int32)]) (m_Mo_cell) cv_Mo_265 kd_151 rfl rfl rfl (Nat.le_of_ble_eq_true rfl) ⟨Nat.le_of_ble_eq_true rfl, Nat.le_of_ble_eq_true rfl⟩ ⟨Nat.le_refl _, Nat.le_refl _⟩ d_Mo_with_26 (fun y26 => ?_)
      refine aw_i2l d_Mo_with_29 ?_
      refine aw_aload_n d_Mo_with_30 0 rfl ?_
      refine aw_getR (t := 152) fl_Mo_7 kd_151 rt_151_0 d_Mo_with_31 ?_
      refine aw_iconst d_Mo_with_34 ki_0 ?_
      refine aw_iald kd_152 d_Mo_with_35 ?_
      refine aw_i2l d_Mo_with_36 ?_
      refine aw_S_p (As := [.long ((a3).toInt64), .long ((y26).toInt64), .long (((gI δ 152 (ix (0 : Int32)))).toInt64)]) (m_Mo_in) cs_Mo_64 rfl rfl (Nat.le_of_ble_eq_true rfl) ⟨Nat.le_of_ble_eq_true rfl, Nat.le_of_ble_eq_true rfl⟩ ⟨Nat.le_refl _, Nat.le_refl _⟩ d_Mo_with_37 (fun y37 => ?_)
      refine aw_if_ne (tgt := 45) d_Mo_with_40 rfl (fun q40 => ?_) (fun q40 => ?_)
      · refine aw_iconst d_Mo_with_43 ki_m1 ?_
        exact aw_iret rfl rfl ⟨Nat.le_refl _, Nat.le_refl _⟩ d_Mo_with_44
      · refine aw_aload_n d_Mo_with_45 0 rfl ?_
        refine aw_iload_n d_Mo_with_46 1 rfl ?_
        refine aw_iload_n d_Mo_with_47 2 rfl ?_
        refine aw_iload_n d_Mo_with_48 3 rfl ?_
        refine aw_V_m (As := [.int a1, .int a2, .int a3]) (m_Mo_spoiltWith) cv_Mo_330 kd_151 rfl rfl rfl (Nat.le_of_ble_eq_true rfl) ⟨Nat.le_of_ble_eq_true rfl, Nat.le_of_ble_eq_true rfl⟩ ⟨Nat.le_refl _, Nat.le_refl _⟩ d_Mo_with_49 (fun y49 => ?_)
        refine aw_bI (fun v49 => ?_)
        refine aw_bD (fun δ_49 => ?_)
        exact aw_iret rfl rfl ⟨Nat.le_refl _, Nat.le_refl _⟩ d_Mo_with_52
def lp_Mo_finest_36 (kx36_84 : Int32 → Int32 → Int32 → Dm → Option (Int32 × Dm)) (a1 : Int32) (a2 : Int32) : Nat → Int32 → Int32 → Int32 → Dm → Option (Int32 × Dm)
  | 0, _, _, _, _ => none
  | f + 1, v3_36, v4_36, v5_36, δ36 => (if inb (0 : Int32) 8918 then (if (gI δ36 152 (ix (0 : Int32))) < v5_36 then (kx36_84 v3_36 v4_36 v5_36 δ36) else ((f_Mo_spoiltWith a1 a2 v5_36 δ36).bind (fun y52 => bnd y52.1 (fun v52 => bnd y52.2 (fun δ_52 => (if v3_36 < 0 then (lp_Mo_finest_36 kx36_84 a1 a2 f v5_36 v52 (v5_36 + (1 : Int32)) δ_52) else (if v52 < v4_36 then (lp_Mo_finest_36 kx36_84 a1 a2 f v5_36 v52 (v5_36 + (1 : Int32)) δ_52) else (lp_Mo_finest_36 kx36_84 a1 a2 f v3_36 v4_36 (v5_36 + (1 : Int32)) δ_52)))))))) else none)
set_option maxHeartbeats 4000000 in
set_option maxRecDepth 100000 in
theorem tl_Mo_finest_36 {n : Nat} (kx36_84 : Int32 → Int32 → Int32 → Dm → Option (Int32 × Dm)) (a1 : Int32) (a2 : Int32) (hkx36_84 : ∀ v3_36k v4_36k v5_36k δ36k, AWo k_Mo_finest 8 0 0 84 [(0, .ref 151), (1, .int a1), (2, .int a2), (3, .int v3_36k), (4, .int v4_36k), (5, .int v5_36k)] [] δ36k RT n 0 0 (Km RT n) (kx36_84 v3_36k v4_36k v5_36k δ36k)) : ∀ (f : Nat) (v3_36 : Int32) (v4_36 : Int32) (v5_36 : Int32) (δ36 : Dm), AWo k_Mo_finest 8 0 0 36 [(0, .ref 151), (1, .int a1), (2, .int a2), (3, .int v3_36), (4, .int v4_36), (5, .int v5_36)] [] δ36 RT n 0 0 (Km RT n) (lp_Mo_finest_36 kx36_84 a1 a2 f v3_36 v4_36 v5_36 δ36) := by
  intro f
  induction f with
  | zero => intro _ _ _ _; exact aw_none
  | succ f ih =>
    intro v3_36 v4_36 v5_36 δ36
    rw [lp_Mo_finest_36]
    refine aw_iload d_Mo_finest_36 5 rfl ?_
    refine aw_aload_n d_Mo_finest_38 0 rfl ?_
    refine aw_getR (t := 152) fl_Mo_7 kd_151 rt_151_0 d_Mo_finest_39 ?_
    refine aw_iconst d_Mo_finest_42 ki_0 ?_
    refine aw_iald kd_152 d_Mo_finest_43 ?_
    refine aw_icmp_gt (tgt := 84) d_Mo_finest_44 rfl (fun q44 => ?_) (fun q44 => ?_)
    · refine aw_sub (lo' := [(0, .ref 151), (1, .int a1), (2, .int a2), (3, .int v3_36), (4, .int v4_36), (5, .int v5_36)]) [0, 1, 2, 3, 4, 5] rfl ?_
      exact hkx36_84 _ _ _ _
    · refine aw_aload_n d_Mo_finest_47 0 rfl ?_
      refine aw_iload_n d_Mo_finest_48 1 rfl ?_
      refine aw_iload_n d_Mo_finest_49 2 rfl ?_
      refine aw_iload d_Mo_finest_50 5 rfl ?_
      refine aw_V_m (As := [.int a1, .int a2, .int v5_36]) (m_Mo_spoiltWith) cv_Mo_330 kd_151 rfl rfl rfl (Nat.le_of_ble_eq_true rfl) ⟨Nat.le_of_ble_eq_true rfl, Nat.le_of_ble_eq_true rfl⟩ ⟨Nat.le_refl _, Nat.le_refl _⟩ d_Mo_finest_52 (fun y52 => ?_)
      refine aw_bI (fun v52 => ?_)
      refine aw_bD (fun δ_52 => ?_)
      refine aw_istore (lo' := [(6, .int v52), (0, .ref 151), (1, .int a1), (2, .int a2), (3, .int v3_36), (4, .int v4_36), (5, .int v5_36)]) d_Mo_finest_55 (by decide) rfl ?_
      refine aw_iload_n d_Mo_finest_57 4 rfl ?_
      refine aw_if_lt (tgt := 71) d_Mo_finest_58 rfl (fun q58 => ?_) (fun q58 => ?_)
      · refine aw_iload d_Mo_finest_71 6 rfl ?_
        refine aw_istore_n (lo' := [(3, .int v5_36), (6, .int v52), (0, .ref 151), (1, .int a1), (2, .int a2), (4, .int v4_36), (5, .int v5_36)]) d_Mo_finest_73 rfl (by decide) rfl ?_
        refine aw_iload d_Mo_finest_74 1 rfl ?_
        refine aw_istore (lo' := [(4, .int v52), (3, .int v5_36), (6, .int v52), (0, .ref 151), (1, .int a1), (2, .int a2), (5, .int v5_36)]) d_Mo_finest_76 (by decide) rfl ?_
        refine aw_iinc (v := (v5_36 + (1 : Int32))) (lo' := [(5, .int (v5_36 + (1 : Int32))), (4, .int v52), (3, .int v5_36), (6, .int v52), (0, .ref 151), (1, .int a1), (2, .int a2)]) d_Mo_finest_78 6 rfl (by rw [show Int32.ofInt (1) = (1 : Int32) from by decide]) (by decide) rfl ?_
        refine aw_goto (tgt := 36) d_Mo_finest_81 rfl ?_
        refine aw_sub (lo' := [(0, .ref 151), (1, .int a1), (2, .int a2), (3, .int v5_36), (4, .int v52), (5, .int (v5_36 + (1 : Int32)))]) [4, 5, 6, 2, 1, 0] rfl ?_
        exact ih _ _ _ _
      · refine aw_iload d_Mo_finest_61 0 rfl ?_
        refine aw_iload d_Mo_finest_63 5 rfl ?_
        refine aw_icmp_lt (tgt := 71) d_Mo_finest_65 rfl (fun q65 => ?_) (fun q65 => ?_)
        · refine aw_iload d_Mo_finest_71 6 rfl ?_
          refine aw_istore_n (lo' := [(3, .int v5_36), (6, .int v52), (0, .ref 151), (1, .int a1), (2, .int a2), (4, .int v4_36), (5, .int v5_36)]) d_Mo_finest_73 rfl (by decide) rfl ?_
          refine aw_iload d_Mo_finest_74 1 rfl ?_
          refine aw_istore (lo' := [(4, .int v52), (3, .int v5_36), (6, .int v52), (0, .ref 151), (1, .int a1), (2, .int a2), (5, .int v5_36)]) d_Mo_finest_76 (by decide) rfl ?_
          refine aw_iinc (v := (v5_36 + (1 : Int32))) (lo' := [(5, .int (v5_36 + (1 : Int32))), (4, .int v52), (3, .int v5_36), (6, .int v52), (0, .ref 151), (1, .int a1), (2, .int a2)]) d_Mo_finest_78 6 rfl (by rw [show Int32.ofInt (1) = (1 : Int32) from by decide]) (by decide) rfl ?_
          refine aw_goto (tgt := 36) d_Mo_finest_81 rfl ?_
          refine aw_sub (lo' := [(0, .ref 151), (1, .int a1), (2, .int a2), (3, .int v5_36), (4, .int v52), (5, .int (v5_36 + (1 : Int32)))]) [4, 5, 6, 2, 1, 0] rfl ?_
          exact ih _ _ _ _
        · refine aw_goto (tgt := 78) d_Mo_finest_68 rfl ?_
          refine aw_iinc (v := (v5_36 + (1 : Int32))) (lo' := [(5, .int (v5_36 + (1 : Int32))), (6, .int v52), (0, .ref 151), (1, .int a1), (2, .int a2), (3, .int v3_36), (4, .int v4_36)]) d_Mo_finest_78 6 rfl (by rw [show Int32.ofInt (1) = (1 : Int32) from by decide]) (by decide) rfl ?_
          refine aw_goto (tgt := 36) d_Mo_finest_81 rfl ?_
          refine aw_sub (lo' := [(0, .ref 151), (1, .int a1), (2, .int a2), (3, .int v3_36), (4, .int v4_36), (5, .int (v5_36 + (1 : Int32)))]) [2, 3, 4, 5, 6, 0] rfl ?_
          exact ih _ _ _ _
def f_Mo_finest (a1 : Int32) (a2 : Int32) (δ : Dm) : Option (Int32 × Dm) := ((f_Mo_isBooth a1 δ).bind (fun y2 => (if y2 = 0 then (some ((-1 : Int32), δ)) else ((f_Mo_in ((a2).toInt64) (0 : Int64) (2 : Int64) δ).bind (fun y14 => (if y14 = 0 then (some ((-1 : Int32), δ)) else ((f_Mo_cell a1 (10 : Int32) δ).bind (fun y31 => (lp_Mo_finest_36 (fun v3_36x v4_36x v5_36x δ36x => (some (v3_36x, δ36x))) a1 a2 FU (-1 : Int32) (0 : Int32) y31 δ)))))))))
set_option maxHeartbeats 4000000 in
set_option maxRecDepth 100000 in
theorem m_Mo_finest {a1 : Int32} {a2 : Int32} {δ : Dm} {n : Nat} : ∀ x, f_Mo_finest a1 a2 δ = some x → AMet k_Mo_finest 8 0 0 [.ref 151, .int a1, .int a2] δ RT n (Km RT n x) := by
  refine aw_start (lo := [(0, .ref 151), (1, .int a1), (2, .int a2)]) mok_Mo_finest rfl (Nat.le_of_ble_eq_true rfl) ?_
  unfold f_Mo_finest
  refine aw_aload_n d_Mo_finest_0 0 rfl ?_
  refine aw_iload_n d_Mo_finest_1 1 rfl ?_
  refine aw_V_p (As := [.int a1]) (m_Mo_isBooth) cv_Mo_278 kd_151 rfl rfl rfl (Nat.le_of_ble_eq_true rfl) ⟨Nat.le_of_ble_eq_true rfl, Nat.le_of_ble_eq_true rfl⟩ ⟨Nat.le_refl _, Nat.le_refl _⟩ d_Mo_finest_2 (fun y2 => ?_)
  refine aw_if_eq (tgt := 20) d_Mo_finest_5 rfl (fun q5 => ?_) (fun q5 => ?_)
  · refine aw_iconst d_Mo_finest_20 ki_m1 ?_
    exact aw_iret rfl rfl ⟨Nat.le_refl _, Nat.le_refl _⟩ d_Mo_finest_21
  · refine aw_iload_n d_Mo_finest_8 2 rfl ?_
    refine aw_i2l d_Mo_finest_9 ?_
    refine aw_lconst d_Mo_finest_10 kl_0 ?_
    refine aw_ldc2 (v := (2 : Int64)) d_Mo_finest_11 kc_Mo_314 ?_
    refine aw_S_p (As := [.long ((a2).toInt64), .long (0 : Int64), .long (2 : Int64)]) (m_Mo_in) cs_Mo_64 rfl rfl (Nat.le_of_ble_eq_true rfl) ⟨Nat.le_of_ble_eq_true rfl, Nat.le_of_ble_eq_true rfl⟩ ⟨Nat.le_refl _, Nat.le_refl _⟩ d_Mo_finest_14 (fun y14 => ?_)
    refine aw_if_ne (tgt := 22) d_Mo_finest_17 rfl (fun q17 => ?_) (fun q17 => ?_)
    · refine aw_iconst d_Mo_finest_20 ki_m1 ?_
      exact aw_iret rfl rfl ⟨Nat.le_refl _, Nat.le_refl _⟩ d_Mo_finest_21
    · refine aw_iconst d_Mo_finest_22 ki_m1 ?_
      refine aw_istore_n (lo' := [(3, .int (-1 : Int32)), (0, .ref 151), (1, .int a1), (2, .int a2)]) d_Mo_finest_23 rfl (by decide) rfl ?_
      refine aw_iconst d_Mo_finest_24 ki_0 ?_
      refine aw_istore (lo' := [(4, .int (0 : Int32)), (3, .int (-1 : Int32)), (0, .ref 151), (1, .int a1), (2, .int a2)]) d_Mo_finest_25 (by decide) rfl ?_
      refine aw_aload_n d_Mo_finest_27 2 rfl ?_
      refine aw_iload_n d_Mo_finest_28 3 rfl ?_
      refine aw_bipush d_Mo_finest_29 kb_10 ?_
      refine aw_V_p (As := [.int a1, .int (10 : Int32)]) (m_Mo_cell) cv_Mo_265 kd_151 rfl rfl rfl (Nat.le_of_ble_eq_true rfl) ⟨Nat.le_of_ble_eq_true rfl, Nat.le_of_ble_eq_true rfl⟩ ⟨Nat.le_refl _, Nat.le_refl _⟩ d_Mo_finest_31 (fun y31 => ?_)
      refine aw_istore (lo' := [(5, .int y31), (4, .int (0 : Int32)), (3, .int (-1 : Int32)), (0, .ref 151), (1, .int a1), (2, .int a2)]) d_Mo_finest_34 (by decide) rfl ?_
      refine aw_sub (lo' := [(0, .ref 151), (1, .int a1), (2, .int a2), (3, .int (-1 : Int32)), (4, .int (0 : Int32)), (5, .int y31)]) [3, 4, 5, 2, 1, 0] rfl ?_
      refine tl_Mo_finest_36 _ _ _ (fun v3_36x v4_36x v5_36x δ36x => ?_) FU _ _ _ _
      · refine aw_iload_n d_Mo_finest_84 3 rfl ?_
        exact aw_iret rfl rfl ⟨Nat.le_refl _, Nat.le_refl _⟩ d_Mo_finest_85
def f_Mo_isPast (a1 : Int32) (δ : Dm) : Option Int32 := (if a1 < 0 then (some (0 : Int32)) else (if inb (0 : Int32) 8918 then (if (gI δ 152 (ix (0 : Int32))) < a1 then (some (0 : Int32)) else (some (1 : Int32))) else none))
set_option maxHeartbeats 4000000 in
set_option maxRecDepth 100000 in
theorem m_Mo_isPast {a1 : Int32} {δ : Dm} {n : Nat} : ∀ x, f_Mo_isPast a1 δ = some x → AMet k_Mo_isPast 1 0 0 [.ref 151, .int a1] δ RT n (Kp δ RT n x) := by
  refine aw_start (lo := [(0, .ref 151), (1, .int a1)]) mok_Mo_isPast rfl (Nat.le_of_ble_eq_true rfl) ?_
  unfold f_Mo_isPast
  refine aw_iload_n d_Mo_isPast_0 1 rfl ?_
  refine aw_if_lt (tgt := 18) d_Mo_isPast_1 rfl (fun q1 => ?_) (fun q1 => ?_)
  · refine aw_iconst d_Mo_isPast_18 ki_0 ?_
    exact aw_zret rfl rfl rfl ⟨Nat.le_refl _, Nat.le_refl _⟩ d_Mo_isPast_19
  · refine aw_iload_n d_Mo_isPast_4 1 rfl ?_
    refine aw_aload_n d_Mo_isPast_5 0 rfl ?_
    refine aw_getR (t := 152) fl_Mo_7 kd_151 rt_151_0 d_Mo_isPast_6 ?_
    refine aw_iconst d_Mo_isPast_9 ki_0 ?_
    refine aw_iald kd_152 d_Mo_isPast_10 ?_
    refine aw_icmp_gt (tgt := 18) d_Mo_isPast_11 rfl (fun q11 => ?_) (fun q11 => ?_)
    · refine aw_iconst d_Mo_isPast_18 ki_0 ?_
      exact aw_zret rfl rfl rfl ⟨Nat.le_refl _, Nat.le_refl _⟩ d_Mo_isPast_19
    · refine aw_iconst d_Mo_isPast_14 ki_1 ?_
      refine aw_goto (tgt := 19) d_Mo_isPast_15 rfl ?_
      exact aw_zret rfl rfl rfl ⟨Nat.le_refl _, Nat.le_refl _⟩ d_Mo_isPast_19
def f_Mo_reading (a1 : Int32) (a2 : Int32) (a3 : Int32) (a4 : Int32) (δ : Dm) : Option (Int32 × Dm) := (if inb (5 : Int32) 8918 then (if (gI δ 152 (ix (5 : Int32))) = (100 : Int32) then (some ((-1 : Int32), δ)) else ((f_Mo_isBooth a1 δ).bind (fun y13 => (if y13 = 0 then (some ((-1 : Int32), δ)) else ((f_Mo_isPast a2 δ).bind (fun y21 => (if y21 = 0 then (some ((-1 : Int32), δ)) else ((f_Mo_in ((a3).toInt64) (0 : Int64) (99999 : Int64) δ).bind (fun y33 => (if y33 = 0 then (some ((-1 : Int32), δ)) else ((f_Mo_in ((a4).toInt64) (0 : Int64) (99999999 : Int64) δ).bind (fun y46 => (if y46 = 0 then (some ((-1 : Int32), δ)) else (if inb (5 : Int32) 8918 then (bnd ((7926 : Int32) + ((5 : Int32) * (gI δ 152 (ix (5 : Int32))))) (fun v66 => (if inb v66 8918 then bnd (sI δ 152 (ix v66) a1) (fun δ_75 => (if inb (v66 + (1 : Int32)) 8918 then bnd (sI δ_75 152 (ix (v66 + (1 : Int32))) a2) (fun δ_85 => (if inb (v66 + (2 : Int32)) 8918 then bnd (sI δ_85 152 (ix (v66 + (2 : Int32))) a3) (fun δ_95 => (if inb (v66 + (3 : Int32)) 8918 then bnd (sI δ_95 152 (ix (v66 + (3 : Int32))) a4) (fun δ_106 => (if inb (0 : Int32) 8918 then (if inb (v66 + (4 : Int32)) 8918 then bnd (sI δ_106 152 (ix (v66 + (4 : Int32))) (gI δ_106 152 (ix (0 : Int32)))) (fun δ_121 => (if inb (5 : Int32) 8918 then (if inb (5 : Int32) 8918 then bnd (sI δ_121 152 (ix (5 : Int32)) ((gI δ_121 152 (ix (5 : Int32))) + (1 : Int32))) (fun δ_131 => (if inb (5 : Int32) 8918 then (some ((gI δ_131 152 (ix (5 : Int32))), δ_131)) else none)) else none) else none)) else none) else none)) else none)) else none)) else none)) else none))) else none)))))))))))))) else none)
set_option maxHeartbeats 4000000 in
set_option maxRecDepth 100000 in
theorem m_Mo_reading {a1 : Int32} {a2 : Int32} {a3 : Int32} {a4 : Int32} {δ : Dm} {n : Nat} : ∀ x, f_Mo_reading a1 a2 a3 a4 δ = some x → AMet k_Mo_reading 2 0 0 [.ref 151, .int a1, .int a2, .int a3, .int a4] δ RT n (Km RT n x) := by
  refine aw_start (lo := [(0, .ref 151), (1, .int a1), (2, .int a2), (3, .int a3), (4, .int a4)]) mok_Mo_reading rfl (Nat.le_of_ble_eq_true rfl) ?_
  unfold f_Mo_reading
  refine aw_aload_n d_Mo_reading_0 0 rfl ?_
  refine aw_getR (t := 152) fl_Mo_7 kd_151 rt_151_0 d_Mo_reading_1 ?_
  refine aw_iconst d_Mo_reading_4 ki_5 ?_
  refine aw_iald kd_152 d_Mo_reading_5 ?_
  refine aw_bipush d_Mo_reading_6 kb_100 ?_
  refine aw_icmp_eq (tgt := 52) d_Mo_reading_8 rfl (fun q8 => ?_) (fun q8 => ?_)
  · refine aw_iconst d_Mo_reading_52 ki_m1 ?_
    exact aw_iret rfl rfl ⟨Nat.le_refl _, Nat.le_refl _⟩ d_Mo_reading_53
  · refine aw_aload_n d_Mo_reading_11 0 rfl ?_
    refine aw_iload_n d_Mo_reading_12 1 rfl ?_
    refine aw_V_p (As := [.int a1]) (m_Mo_isBooth) cv_Mo_278 kd_151 rfl rfl rfl (Nat.le_of_ble_eq_true rfl) ⟨Nat.le_of_ble_eq_true rfl, Nat.le_of_ble_eq_true rfl⟩ ⟨Nat.le_refl _, Nat.le_refl _⟩ d_Mo_reading_13 (fun y13 => ?_)
    refine aw_if_eq (tgt := 52) d_Mo_reading_16 rfl (fun q16 => ?_) (fun q16 => ?_)
    · refine aw_iconst d_Mo_reading_52 ki_m1 ?_
      exact aw_iret rfl rfl ⟨Nat.le_refl _, Nat.le_refl _⟩ d_Mo_reading_53
    · refine aw_aload_n d_Mo_reading_19 0 rfl ?_
      refine aw_iload_n d_Mo_reading_20 2 rfl ?_
      refine aw_V_p (As := [.int a2]) (m_Mo_isPast) cv_Mo_334 kd_151 rfl rfl rfl (Nat.le_of_ble_eq_true rfl) ⟨Nat.le_of_ble_eq_true rfl, Nat.le_of_ble_eq_true rfl⟩ ⟨Nat.le_refl _, Nat.le_refl _⟩ d_Mo_reading_21 (fun y21 => ?_)
      refine aw_if_eq (tgt := 52) d_Mo_reading_24 rfl (fun q24 => ?_) (fun q24 => ?_)
      · refine aw_iconst d_Mo_reading_52 ki_m1 ?_
        exact aw_iret rfl rfl ⟨Nat.le_refl _, Nat.le_refl _⟩ d_Mo_reading_53
      · refine aw_iload_n d_Mo_reading_27 3 rfl ?_
        refine aw_i2l d_Mo_reading_28 ?_
        refine aw_lconst d_Mo_reading_29 kl_0 ?_
        refine aw_ldc2 (v := (99999 : Int64)) d_Mo_reading_30 kc_Mo_337 ?_
        refine aw_S_p (As := [.long ((a3).toInt64), .long (0 : Int64), .long (99999 : Int64)]) (m_Mo_in) cs_Mo_64 rfl rfl (Nat.le_of_ble_eq_true rfl) ⟨Nat.le_of_ble_eq_true rfl, Nat.le_of_ble_eq_true rfl⟩ ⟨Nat.le_refl _, Nat.le_refl _⟩ d_Mo_reading_33 (fun y33 => ?_)
        refine aw_if_eq (tgt := 52) d_Mo_reading_36 rfl (fun q36 => ?_) (fun q36 => ?_)
        · refine aw_iconst d_Mo_reading_52 ki_m1 ?_
          exact aw_iret rfl rfl ⟨Nat.le_refl _, Nat.le_refl _⟩ d_Mo_reading_53
        · refine aw_iload d_Mo_reading_39 4 rfl ?_
          refine aw_i2l d_Mo_reading_41 ?_
          refine aw_lconst d_Mo_reading_42 kl_0 ?_
          refine aw_ldc2 (v := (99999999 : Int64)) d_Mo_reading_43 kc_Mo_339 ?_
          refine aw_S_p (As := [.long ((a4).toInt64), .long (0 : Int64), .long (99999999 : Int64)]) (m_Mo_in) cs_Mo_64 rfl rfl (Nat.le_of_ble_eq_true rfl) ⟨Nat.le_of_ble_eq_true rfl, Nat.le_of_ble_eq_true rfl⟩ ⟨Nat.le_refl _, Nat.le_refl _⟩ d_Mo_reading_46 (fun y46 => ?_)
          refine aw_if_ne (tgt := 54) d_Mo_reading_49 rfl (fun q49 => ?_) (fun q49 => ?_)
          · refine aw_iconst d_Mo_reading_52 ki_m1 ?_
            exact aw_iret rfl rfl ⟨Nat.le_refl _, Nat.le_refl _⟩ d_Mo_reading_53
          · refine aw_sipush d_Mo_reading_54 ks_7926 ?_
            refine aw_iconst d_Mo_reading_57 ki_5 ?_
            refine aw_aload_n d_Mo_reading_58 0 rfl ?_
            refine aw_getR (t := 152) fl_Mo_7 kd_151 rt_151_0 d_Mo_reading_59 ?_
            refine aw_iconst d_Mo_reading_62 ki_5 ?_
            refine aw_iald kd_152 d_Mo_reading_63 ?_
            refine aw_imul d_Mo_reading_64 ?_
            refine aw_iadd d_Mo_reading_65 ?_
            refine aw_bI (fun v66 => ?_)
            refine aw_istore (lo' := [(5, .int v66), (0, .ref 151), (1, .int a1), (2, .int a2), (3, .int a3), (4, .int a4)]) d_Mo_reading_66 (by decide) rfl ?_
            refine aw_aload_n d_Mo_reading_68 1 rfl ?_
            refine aw_getR (t := 152) fl_Mo_7 kd_151 rt_151_0 d_Mo_reading_69 ?_
            refine aw_iload d_Mo_reading_72 0 rfl ?_
            refine aw_iload_n d_Mo_reading_74 2 rfl ?_
            refine aw_iast kd_152 d_Mo_reading_75 ?_
            refine aw_bD (fun δ_75 => ?_)
            refine aw_aload_n d_Mo_reading_76 1 rfl ?_
            refine aw_getR (t := 152) fl_Mo_7 kd_151 rt_151_0 d_Mo_reading_77 ?_
            refine aw_iload d_Mo_reading_80 0 rfl ?_
            refine aw_iconst d_Mo_reading_82 ki_1 ?_
            refine aw_iadd d_Mo_reading_83 ?_
            refine aw_iload_n d_Mo_reading_84 3 rfl ?_
            refine aw_iast kd_152 d_Mo_reading_85 ?_
            refine aw_bD (fun δ_85 => ?_)
            refine aw_aload_n d_Mo_reading_86 1 rfl ?_
            refine aw_getR (t := 152) fl_Mo_7 kd_151 rt_151_0 d_Mo_reading_87 ?_
            refine aw_iload d_Mo_reading_90 0 rfl ?_
            refine aw_iconst d_Mo_reading_92 ki_2 ?_
            refine aw_iadd d_Mo_reading_93 ?_
            refine aw_iload_n d_Mo_reading_94 4 rfl ?_
            refine aw_iast kd_152 d_Mo_reading_95 ?_
            refine aw_bD (fun δ_95 => ?_)
            refine aw_aload_n d_Mo_reading_96 1 rfl ?_
            refine aw_getR (t := 152) fl_Mo_7 kd_151 rt_151_0 d_Mo_reading_97 ?_
            refine aw_iload d_Mo_reading_100 0 rfl ?_
            refine aw_iconst d_Mo_reading_102 ki_3 ?_
            refine aw_iadd d_Mo_reading_103 ?_
            refine aw_iload d_Mo_reading_104 5 rfl ?_
            refine aw_iast kd_152 d_Mo_reading_106 ?_
            refine aw_bD (fun δ_106 => ?_)
            refine aw_aload_n d_Mo_reading_107 1 rfl ?_
            refine aw_getR (t := 152) fl_Mo_7 kd_151 rt_151_0 d_Mo_reading_108 ?_
            refine aw_iload d_Mo_reading_111 0 rfl ?_
            refine aw_iconst d_Mo_reading_113 ki_4 ?_
            refine aw_iadd d_Mo_reading_114 ?_
            refine aw_aload_n d_Mo_reading_115 1 rfl ?_
            refine aw_getR (t := 152) fl_Mo_7 kd_151 rt_151_0 d_Mo_reading_116 ?_
            refine aw_iconst d_Mo_reading_119 ki_0 ?_
            refine aw_iald kd_152 d_Mo_reading_120 ?_
            refine aw_iast kd_152 d_Mo_reading_121 ?_
            refine aw_bD (fun δ_121 => ?_)
            refine aw_aload_n d_Mo_reading_122 1 rfl ?_
            refine aw_getR (t := 152) fl_Mo_7 kd_151 rt_151_0 d_Mo_reading_123 ?_
            refine aw_iconst d_Mo_reading_126 ki_5 ?_
            refine aw_dup2 d_Mo_reading_127 rfl rfl ?_
            refine aw_iald kd_152 d_Mo_reading_128 ?_
            refine aw_iconst d_Mo_reading_129 ki_1 ?_
            refine aw_iadd d_Mo_reading_130 ?_
            refine aw_iast kd_152 d_Mo_reading_131 ?_
            refine aw_bD (fun δ_131 => ?_)
            refine aw_aload_n d_Mo_reading_132 1 rfl ?_
            refine aw_getR (t := 152) fl_Mo_7 kd_151 rt_151_0 d_Mo_reading_133 ?_
            refine aw_iconst d_Mo_reading_136 ki_5 ?_
            refine aw_iald kd_152 d_Mo_reading_137 ?_
            exact aw_iret rfl rfl ⟨Nat.le_refl _, Nat.le_refl _⟩ d_Mo_reading_138
def lp_Mo_latest_6 (kx6_103 : Int32 → Int32 → Option Int32) (a1 : Int32) (a2 : Int32) (a3 : Int32) (δ : Dm) : Nat → Int32 → Int32 → Option Int32
  | 0, _, _ => none
  | f + 1, v4_6, v5_6 => (if inb (5 : Int32) 8918 then (if (gI δ 152 (ix (5 : Int32))) ≤ v5_6 then (kx6_103 v4_6 v5_6) else (bnd ((7926 : Int32) + ((5 : Int32) * v5_6)) (fun v25 => (if inb v25 8918 then (if (gI δ 152 (ix v25)) = a1 then (if inb (v25 + (4 : Int32)) 8918 then (if a2 < (gI δ 152 (ix (v25 + (4 : Int32)))) then (lp_Mo_latest_6 kx6_103 a1 a2 a3 δ f v4_6 (v5_6 + (1 : Int32))) else (if inb (v25 + (1 : Int32)) 8918 then (if (gI δ 152 (ix (v25 + (1 : Int32)))) < a3 then (if v4_6 < 0 then (lp_Mo_latest_6 kx6_103 a1 a2 a3 δ f v25 (v5_6 + (1 : Int32))) else (if inb (v25 + (1 : Int32)) 8918 then (if inb (v4_6 + (1 : Int32)) 8918 then (if (gI δ 152 (ix (v25 + (1 : Int32)))) < (gI δ 152 (ix (v4_6 + (1 : Int32)))) then (lp_Mo_latest_6 kx6_103 a1 a2 a3 δ f v4_6 (v5_6 + (1 : Int32))) else (lp_Mo_latest_6 kx6_103 a1 a2 a3 δ f v25 (v5_6 + (1 : Int32)))) else none) else none)) else (lp_Mo_latest_6 kx6_103 a1 a2 a3 δ f v4_6 (v5_6 + (1 : Int32)))) else none)) else none) else (lp_Mo_latest_6 kx6_103 a1 a2 a3 δ f v4_6 (v5_6 + (1 : Int32)))) else none)))) else none)
set_option maxHeartbeats 4000000 in
set_option maxRecDepth 100000 in
theorem tl_Mo_latest_6 {n : Nat} (kx6_103 : Int32 → Int32 → Option Int32) (a1 : Int32) (a2 : Int32) (a3 : Int32) (δ : Dm) (hkx6_103 : ∀ v4_6k v5_6k, AWo k_Mo_latest 1 0 0 103 [(0, .ref 151), (1, .int a1), (2, .int a2), (3, .int a3), (4, .int v4_6k), (5, .int v5_6k)] [] δ RT n 0 0 (Kp δ RT n) (kx6_103 v4_6k v5_6k)) : ∀ (f : Nat) (v4_6 : Int32) (v5_6 : Int32), AWo k_Mo_latest 1 0 0 6 [(0, .ref 151), (1, .int a1), (2, .int a2), (3, .int a3), (4, .int v4_6), (5, .int v5_6)] [] δ RT n 0 0 (Kp δ RT n) (lp_Mo_latest_6 kx6_103 a1 a2 a3 δ f v4_6 v5_6) := by
  intro f
  induction f with
  | zero => intro _ _; exact aw_none
  | succ f ih =>
    intro v4_6 v5_6
    rw [lp_Mo_latest_6]
    refine aw_iload d_Mo_latest_6 5 rfl ?_
    refine aw_aload_n d_Mo_latest_8 0 rfl ?_
    refine aw_getR (t := 152) fl_Mo_7 kd_151 rt_151_0 d_Mo_latest_9 ?_
    refine aw_iconst d_Mo_latest_12 ki_5 ?_
    refine aw_iald kd_152 d_Mo_latest_13 ?_
    refine aw_icmp_ge (tgt := 103) d_Mo_latest_14 rfl (fun q14 => ?_) (fun q14 => ?_)
    · refine aw_sub (lo' := [(0, .ref 151), (1, .int a1), (2, .int a2), (3, .int a3), (4, .int v4_6), (5, .int v5_6)]) [0, 1, 2, 3, 4, 5] rfl ?_
      exact hkx6_103 _ _
    · refine aw_sipush d_Mo_latest_17 ks_7926 ?_
      refine aw_iconst d_Mo_latest_20 ki_5 ?_
      refine aw_iload d_Mo_latest_21 5 rfl ?_
      refine aw_imul d_Mo_latest_23 ?_
      refine aw_iadd d_Mo_latest_24 ?_
      refine aw_bI (fun v25 => ?_)
      refine aw_istore (lo' := [(6, .int v25), (0, .ref 151), (1, .int a1), (2, .int a2), (3, .int a3), (4, .int v4_6), (5, .int v5_6)]) d_Mo_latest_25 (by decide) rfl ?_
      refine aw_aload_n d_Mo_latest_27 1 rfl ?_
      refine aw_getR (t := 152) fl_Mo_7 kd_151 rt_151_0 d_Mo_latest_28 ?_
      refine aw_iload d_Mo_latest_31 0 rfl ?_
      refine aw_iald kd_152 d_Mo_latest_33 ?_
      refine aw_iload_n d_Mo_latest_34 2 rfl ?_
      refine aw_icmp_ne (tgt := 97) d_Mo_latest_35 rfl (fun q35 => ?_) (fun q35 => ?_)
      · refine aw_aload_n d_Mo_latest_38 1 rfl ?_
        refine aw_getR (t := 152) fl_Mo_7 kd_151 rt_151_0 d_Mo_latest_39 ?_
        refine aw_iload d_Mo_latest_42 0 rfl ?_
        refine aw_iconst d_Mo_latest_44 ki_4 ?_
        refine aw_iadd d_Mo_latest_45 ?_
        refine aw_iald kd_152 d_Mo_latest_46 ?_
        refine aw_iload_n d_Mo_latest_47 3 rfl ?_
        refine aw_icmp_gt (tgt := 97) d_Mo_latest_48 rfl (fun q48 => ?_) (fun q48 => ?_)
        · refine aw_iinc (v := (v5_6 + (1 : Int32))) (lo' := [(5, .int (v5_6 + (1 : Int32))), (6, .int v25), (0, .ref 151), (1, .int a1), (2, .int a2), (3, .int a3), (4, .int v4_6)]) d_Mo_latest_97 6 rfl (by rw [show Int32.ofInt (1) = (1 : Int32) from by decide]) (by decide) rfl ?_
          refine aw_goto (tgt := 6) d_Mo_latest_100 rfl ?_
          refine aw_sub (lo' := [(0, .ref 151), (1, .int a1), (2, .int a2), (3, .int a3), (4, .int v4_6), (5, .int (v5_6 + (1 : Int32)))]) [2, 3, 4, 5, 6, 0] rfl ?_
          exact ih _ _
        · refine aw_aload_n d_Mo_latest_51 1 rfl ?_
          refine aw_getR (t := 152) fl_Mo_7 kd_151 rt_151_0 d_Mo_latest_52 ?_
          refine aw_iload d_Mo_latest_55 0 rfl ?_
          refine aw_iconst d_Mo_latest_57 ki_1 ?_
          refine aw_iadd d_Mo_latest_58 ?_
          refine aw_iald kd_152 d_Mo_latest_59 ?_
          refine aw_iload_n d_Mo_latest_60 4 rfl ?_
          refine aw_icmp_lt (tgt := 67) d_Mo_latest_61 rfl (fun q61 => ?_) (fun q61 => ?_)
          · refine aw_iload d_Mo_latest_67 5 rfl ?_
            refine aw_if_lt (tgt := 93) d_Mo_latest_69 rfl (fun q69 => ?_) (fun q69 => ?_)
            · refine aw_iload d_Mo_latest_93 0 rfl ?_
              refine aw_istore (lo' := [(4, .int v25), (6, .int v25), (0, .ref 151), (1, .int a1), (2, .int a2), (3, .int a3), (5, .int v5_6)]) d_Mo_latest_95 (by decide) rfl ?_
              refine aw_iinc (v := (v5_6 + (1 : Int32))) (lo' := [(5, .int (v5_6 + (1 : Int32))), (4, .int v25), (6, .int v25), (0, .ref 151), (1, .int a1), (2, .int a2), (3, .int a3)]) d_Mo_latest_97 6 rfl (by rw [show Int32.ofInt (1) = (1 : Int32) from by decide]) (by decide) rfl ?_
              refine aw_goto (tgt := 6) d_Mo_latest_100 rfl ?_
              refine aw_sub (lo' := [(0, .ref 151), (1, .int a1), (2, .int a2), (3, .int a3), (4, .int v25), (5, .int (v5_6 + (1 : Int32)))]) [3, 4, 5, 6, 1, 0] rfl ?_
              exact ih _ _
            · refine aw_aload_n d_Mo_latest_72 1 rfl ?_
              refine aw_getR (t := 152) fl_Mo_7 kd_151 rt_151_0 d_Mo_latest_73 ?_
              refine aw_iload d_Mo_latest_76 0 rfl ?_
              refine aw_iconst d_Mo_latest_78 ki_1 ?_
              refine aw_iadd d_Mo_latest_79 ?_
              refine aw_iald kd_152 d_Mo_latest_80 ?_
              refine aw_aload_n d_Mo_latest_81 1 rfl ?_
              refine aw_getR (t := 152) fl_Mo_7 kd_151 rt_151_0 d_Mo_latest_82 ?_
              refine aw_iload d_Mo_latest_85 5 rfl ?_
              refine aw_iconst d_Mo_latest_87 ki_1 ?_
              refine aw_iadd d_Mo_latest_88 ?_
              refine aw_iald kd_152 d_Mo_latest_89 ?_
              refine aw_icmp_lt (tgt := 97) d_Mo_latest_90 rfl (fun q90 => ?_) (fun q90 => ?_)
              · refine aw_iinc (v := (v5_6 + (1 : Int32))) (lo' := [(5, .int (v5_6 + (1 : Int32))), (6, .int v25), (0, .ref 151), (1, .int a1), (2, .int a2), (3, .int a3), (4, .int v4_6)]) d_Mo_latest_97 6 rfl (by rw [show Int32.ofInt (1) = (1 : Int32) from by decide]) (by decide) rfl ?_
                refine aw_goto (tgt := 6) d_Mo_latest_100 rfl ?_
                refine aw_sub (lo' := [(0, .ref 151), (1, .int a1), (2, .int a2), (3, .int a3), (4, .int v4_6), (5, .int (v5_6 + (1 : Int32)))]) [2, 3, 4, 5, 6, 0] rfl ?_
                exact ih _ _
              · refine aw_iload d_Mo_latest_93 0 rfl ?_
                refine aw_istore (lo' := [(4, .int v25), (6, .int v25), (0, .ref 151), (1, .int a1), (2, .int a2), (3, .int a3), (5, .int v5_6)]) d_Mo_latest_95 (by decide) rfl ?_
                refine aw_iinc (v := (v5_6 + (1 : Int32))) (lo' := [(5, .int (v5_6 + (1 : Int32))), (4, .int v25), (6, .int v25), (0, .ref 151), (1, .int a1), (2, .int a2), (3, .int a3)]) d_Mo_latest_97 6 rfl (by rw [show Int32.ofInt (1) = (1 : Int32) from by decide]) (by decide) rfl ?_
                refine aw_goto (tgt := 6) d_Mo_latest_100 rfl ?_
                refine aw_sub (lo' := [(0, .ref 151), (1, .int a1), (2, .int a2), (3, .int a3), (4, .int v25), (5, .int (v5_6 + (1 : Int32)))]) [3, 4, 5, 6, 1, 0] rfl ?_
                exact ih _ _
          · refine aw_goto (tgt := 97) d_Mo_latest_64 rfl ?_
            refine aw_iinc (v := (v5_6 + (1 : Int32))) (lo' := [(5, .int (v5_6 + (1 : Int32))), (6, .int v25), (0, .ref 151), (1, .int a1), (2, .int a2), (3, .int a3), (4, .int v4_6)]) d_Mo_latest_97 6 rfl (by rw [show Int32.ofInt (1) = (1 : Int32) from by decide]) (by decide) rfl ?_
            refine aw_goto (tgt := 6) d_Mo_latest_100 rfl ?_
            refine aw_sub (lo' := [(0, .ref 151), (1, .int a1), (2, .int a2), (3, .int a3), (4, .int v4_6), (5, .int (v5_6 + (1 : Int32)))]) [2, 3, 4, 5, 6, 0] rfl ?_
            exact ih _ _
      · refine aw_iinc (v := (v5_6 + (1 : Int32))) (lo' := [(5, .int (v5_6 + (1 : Int32))), (6, .int v25), (0, .ref 151), (1, .int a1), (2, .int a2), (3, .int a3), (4, .int v4_6)]) d_Mo_latest_97 6 rfl (by rw [show Int32.ofInt (1) = (1 : Int32) from by decide]) (by decide) rfl ?_
        refine aw_goto (tgt := 6) d_Mo_latest_100 rfl ?_
        refine aw_sub (lo' := [(0, .ref 151), (1, .int a1), (2, .int a2), (3, .int a3), (4, .int v4_6), (5, .int (v5_6 + (1 : Int32)))]) [2, 3, 4, 5, 6, 0] rfl ?_
        exact ih _ _
def f_Mo_latest (a1 : Int32) (a2 : Int32) (a3 : Int32) (δ : Dm) : Option Int32 := (lp_Mo_latest_6 (fun v4_6x v5_6x => (some v4_6x)) a1 a2 a3 δ FU (-1 : Int32) (0 : Int32))
set_option maxHeartbeats 4000000 in
set_option maxRecDepth 100000 in
theorem m_Mo_latest {a1 : Int32} {a2 : Int32} {a3 : Int32} {δ : Dm} {n : Nat} : ∀ x, f_Mo_latest a1 a2 a3 δ = some x → AMet k_Mo_latest 1 0 0 [.ref 151, .int a1, .int a2, .int a3] δ RT n (Kp δ RT n x) := by
  refine aw_start (lo := [(0, .ref 151), (1, .int a1), (2, .int a2), (3, .int a3)]) mok_Mo_latest rfl (Nat.le_of_ble_eq_true rfl) ?_
  unfold f_Mo_latest
  refine aw_iconst d_Mo_latest_0 ki_m1 ?_
  refine aw_istore (lo' := [(4, .int (-1 : Int32)), (0, .ref 151), (1, .int a1), (2, .int a2), (3, .int a3)]) d_Mo_latest_1 (by decide) rfl ?_
  refine aw_iconst d_Mo_latest_3 ki_0 ?_
  refine aw_istore (lo' := [(5, .int (0 : Int32)), (4, .int (-1 : Int32)), (0, .ref 151), (1, .int a1), (2, .int a2), (3, .int a3)]) d_Mo_latest_4 (by decide) rfl ?_
  refine aw_sub (lo' := [(0, .ref 151), (1, .int a1), (2, .int a2), (3, .int a3), (4, .int (-1 : Int32)), (5, .int (0 : Int32))]) [2, 3, 4, 5, 1, 0] rfl ?_
  refine tl_Mo_latest_6 _ _ _ _ _ (fun v4_6x v5_6x => ?_) FU _ _
  · refine aw_iload d_Mo_latest_103 4 rfl ?_
    exact aw_iret rfl rfl ⟨Nat.le_refl _, Nat.le_refl _⟩ d_Mo_latest_105
def lp_Mo_stripsOn_6 (kx6_62 : Int32 → Int32 → Option Int32) (a1 : Int32) (a2 : Int32) (a3 : Int32) (δ : Dm) : Nat → Int32 → Int32 → Option Int32
  | 0, _, _ => none
  | f + 1, v4_6, v5_6 => (if inb (7 : Int32) 8918 then (if (gI δ 152 (ix (7 : Int32))) ≤ v5_6 then (kx6_62 v4_6 v5_6) else ((f_Mo_isStrip v5_6 a1 δ).bind (fun y24 => (if y24 = 0 then (bnd (v4_6 + (0 : Int32)) (fun v54 => (lp_Mo_stripsOn_6 kx6_62 a1 a2 a3 δ f v54 (v5_6 + (1 : Int32))))) else ((f_Mo_event v5_6 (2 : Int32) δ).bind (fun y34 => ((f_Mo_in ((y34).toInt64) ((a2).toInt64) ((a3).toInt64) δ).bind (fun y42 => (if y42 = 0 then (bnd (v4_6 + (0 : Int32)) (fun v54_1 => (lp_Mo_stripsOn_6 kx6_62 a1 a2 a3 δ f v54_1 (v5_6 + (1 : Int32))))) else (bnd (v4_6 + (1 : Int32)) (fun v54_2 => (lp_Mo_stripsOn_6 kx6_62 a1 a2 a3 δ f v54_2 (v5_6 + (1 : Int32)))))))))))))) else none)
set_option maxHeartbeats 4000000 in
set_option maxRecDepth 100000 in
theorem tl_Mo_stripsOn_6 {n : Nat} (kx6_62 : Int32 → Int32 → Option Int32) (a1 : Int32) (a2 : Int32) (a3 : Int32) (δ : Dm) (hkx6_62 : ∀ v4_6k v5_6k, AWo k_Mo_stripsOn 3 0 0 62 [(0, .ref 151), (1, .int a1), (2, .int a2), (3, .int a3), (4, .int v4_6k), (5, .int v5_6k)] [] δ RT n 0 0 (Kp δ RT n) (kx6_62 v4_6k v5_6k)) : ∀ (f : Nat) (v4_6 : Int32) (v5_6 : Int32), AWo k_Mo_stripsOn 3 0 0 6 [(0, .ref 151), (1, .int a1), (2, .int a2), (3, .int a3), (4, .int v4_6), (5, .int v5_6)] [] δ RT n 0 0 (Kp δ RT n) (lp_Mo_stripsOn_6 kx6_62 a1 a2 a3 δ f v4_6 v5_6) := by
  intro f
  induction f with
  | zero => intro _ _; exact aw_none
  | succ f ih =>
    intro v4_6 v5_6
    rw [lp_Mo_stripsOn_6]
    refine aw_iload d_Mo_stripsOn_6 5 rfl ?_
    refine aw_aload_n d_Mo_stripsOn_8 0 rfl ?_
    refine aw_getR (t := 152) fl_Mo_7 kd_151 rt_151_0 d_Mo_stripsOn_9 ?_
    refine aw_bipush d_Mo_stripsOn_12 kb_7 ?_
    refine aw_iald kd_152 d_Mo_stripsOn_14 ?_
    refine aw_icmp_ge (tgt := 62) d_Mo_stripsOn_15 rfl (fun q15 => ?_) (fun q15 => ?_)
    · refine aw_sub (lo' := [(0, .ref 151), (1, .int a1), (2, .int a2), (3, .int a3), (4, .int v4_6), (5, .int v5_6)]) [0, 1, 2, 3, 4, 5] rfl ?_
      exact hkx6_62 _ _
    · refine aw_iload d_Mo_stripsOn_18 4 rfl ?_
      refine aw_aload_n d_Mo_stripsOn_20 0 rfl ?_
      refine aw_iload d_Mo_stripsOn_21 5 rfl ?_
      refine aw_iload_n d_Mo_stripsOn_23 1 rfl ?_
      refine aw_V_p (As := [.int v5_6, .int a1]) (m_Mo_isStrip) cv_Mo_323 kd_151 rfl rfl rfl (Nat.le_of_ble_eq_true rfl) ⟨Nat.le_of_ble_eq_true rfl, Nat.le_of_ble_eq_true rfl⟩ ⟨Nat.le_refl _, Nat.le_refl _⟩ d_Mo_stripsOn_24 (fun y24 => ?_)
      refine aw_if_eq (tgt := 52) d_Mo_stripsOn_27 rfl (fun q27 => ?_) (fun q27 => ?_)
      · refine aw_iconst d_Mo_stripsOn_52 ki_0 ?_
        refine aw_iadd d_Mo_stripsOn_53 ?_
        refine aw_bI (fun v54 => ?_)
        refine aw_istore (lo' := [(4, .int v54), (0, .ref 151), (1, .int a1), (2, .int a2), (3, .int a3), (5, .int v5_6)]) d_Mo_stripsOn_54 (by decide) rfl ?_
        refine aw_iinc (v := (v5_6 + (1 : Int32))) (lo' := [(5, .int (v5_6 + (1 : Int32))), (4, .int v54), (0, .ref 151), (1, .int a1), (2, .int a2), (3, .int a3)]) d_Mo_stripsOn_56 5 rfl (by rw [show Int32.ofInt (1) = (1 : Int32) from by decide]) (by decide) rfl ?_
        refine aw_goto (tgt := 6) d_Mo_stripsOn_59 rfl ?_
        refine aw_sub (lo' := [(0, .ref 151), (1, .int a1), (2, .int a2), (3, .int a3), (4, .int v54), (5, .int (v5_6 + (1 : Int32)))]) [2, 3, 4, 5, 1, 0] rfl ?_
        exact ih _ _
      · refine aw_aload_n d_Mo_stripsOn_30 0 rfl ?_
        refine aw_iload d_Mo_stripsOn_31 5 rfl ?_
        refine aw_iconst d_Mo_stripsOn_33 ki_2 ?_
        refine aw_V_p (As := [.int v5_6, .int (2 : Int32)]) (m_Mo_event) cv_Mo_318 kd_151 rfl rfl rfl (Nat.le_of_ble_eq_true rfl) ⟨Nat.le_of_ble_eq_true rfl, Nat.le_of_ble_eq_true rfl⟩ ⟨Nat.le_refl _, Nat.le_refl _⟩ d_Mo_stripsOn_34 (fun y34 => ?_)
        refine aw_i2l d_Mo_stripsOn_37 ?_
        refine aw_iload_n d_Mo_stripsOn_38 2 rfl ?_
        refine aw_i2l d_Mo_stripsOn_39 ?_
        refine aw_iload_n d_Mo_stripsOn_40 3 rfl ?_
        refine aw_i2l d_Mo_stripsOn_41 ?_
        refine aw_S_p (As := [.long ((y34).toInt64), .long ((a2).toInt64), .long ((a3).toInt64)]) (m_Mo_in) cs_Mo_64 rfl rfl (Nat.le_of_ble_eq_true rfl) ⟨Nat.le_of_ble_eq_true rfl, Nat.le_of_ble_eq_true rfl⟩ ⟨Nat.le_refl _, Nat.le_refl _⟩ d_Mo_stripsOn_42 (fun y42 => ?_)
        refine aw_if_eq (tgt := 52) d_Mo_stripsOn_45 rfl (fun q45 => ?_) (fun q45 => ?_)
        · refine aw_iconst d_Mo_stripsOn_52 ki_0 ?_
          refine aw_iadd d_Mo_stripsOn_53 ?_
          refine aw_bI (fun v54_1 => ?_)
          refine aw_istore (lo' := [(4, .int v54_1), (0, .ref 151), (1, .int a1), (2, .int a2), (3, .int a3), (5, .int v5_6)]) d_Mo_stripsOn_54 (by decide) rfl ?_
          refine aw_iinc (v := (v5_6 + (1 : Int32))) (lo' := [(5, .int (v5_6 + (1 : Int32))), (4, .int v54_1), (0, .ref 151), (1, .int a1), (2, .int a2), (3, .int a3)]) d_Mo_stripsOn_56 5 rfl (by rw [show Int32.ofInt (1) = (1 : Int32) from by decide]) (by decide) rfl ?_
          refine aw_goto (tgt := 6) d_Mo_stripsOn_59 rfl ?_
          refine aw_sub (lo' := [(0, .ref 151), (1, .int a1), (2, .int a2), (3, .int a3), (4, .int v54_1), (5, .int (v5_6 + (1 : Int32)))]) [2, 3, 4, 5, 1, 0] rfl ?_
          exact ih _ _
        · refine aw_iconst d_Mo_stripsOn_48 ki_1 ?_
          refine aw_goto (tgt := 53) d_Mo_stripsOn_49 rfl ?_
          refine aw_iadd d_Mo_stripsOn_53 ?_
          refine aw_bI (fun v54_2 => ?_)
          refine aw_istore (lo' := [(4, .int v54_2), (0, .ref 151), (1, .int a1), (2, .int a2), (3, .int a3), (5, .int v5_6)]) d_Mo_stripsOn_54 (by decide) rfl ?_
          refine aw_iinc (v := (v5_6 + (1 : Int32))) (lo' := [(5, .int (v5_6 + (1 : Int32))), (4, .int v54_2), (0, .ref 151), (1, .int a1), (2, .int a2), (3, .int a3)]) d_Mo_stripsOn_56 5 rfl (by rw [show Int32.ofInt (1) = (1 : Int32) from by decide]) (by decide) rfl ?_
          refine aw_goto (tgt := 6) d_Mo_stripsOn_59 rfl ?_
          refine aw_sub (lo' := [(0, .ref 151), (1, .int a1), (2, .int a2), (3, .int a3), (4, .int v54_2), (5, .int (v5_6 + (1 : Int32)))]) [2, 3, 4, 5, 1, 0] rfl ?_
          exact ih _ _
def f_Mo_stripsOn (a1 : Int32) (a2 : Int32) (a3 : Int32) (δ : Dm) : Option Int32 := (lp_Mo_stripsOn_6 (fun v4_6x v5_6x => (some v4_6x)) a1 a2 a3 δ FU (0 : Int32) (0 : Int32))
set_option maxHeartbeats 4000000 in
set_option maxRecDepth 100000 in
theorem m_Mo_stripsOn {a1 : Int32} {a2 : Int32} {a3 : Int32} {δ : Dm} {n : Nat} : ∀ x, f_Mo_stripsOn a1 a2 a3 δ = some x → AMet k_Mo_stripsOn 3 0 0 [.ref 151, .int a1, .int a2, .int a3] δ RT n (Kp δ RT n x) := by
  refine aw_start (lo := [(0, .ref 151), (1, .int a1), (2, .int a2), (3, .int a3)]) mok_Mo_stripsOn rfl (Nat.le_of_ble_eq_true rfl) ?_
  unfold f_Mo_stripsOn
  refine aw_iconst d_Mo_stripsOn_0 ki_0 ?_
  refine aw_istore (lo' := [(4, .int (0 : Int32)), (0, .ref 151), (1, .int a1), (2, .int a2), (3, .int a3)]) d_Mo_stripsOn_1 (by decide) rfl ?_
  refine aw_iconst d_Mo_stripsOn_3 ki_0 ?_
  refine aw_istore (lo' := [(5, .int (0 : Int32)), (4, .int (0 : Int32)), (0, .ref 151), (1, .int a1), (2, .int a2), (3, .int a3)]) d_Mo_stripsOn_4 (by decide) rfl ?_
  refine aw_sub (lo' := [(0, .ref 151), (1, .int a1), (2, .int a2), (3, .int a3), (4, .int (0 : Int32)), (5, .int (0 : Int32))]) [2, 3, 4, 5, 1, 0] rfl ?_
  refine tl_Mo_stripsOn_6 _ _ _ _ _ (fun v4_6x v5_6x => ?_) FU _ _
  · refine aw_iload d_Mo_stripsOn_62 4 rfl ?_
    exact aw_iret rfl rfl ⟨Nat.le_refl _, Nat.le_refl _⟩ d_Mo_stripsOn_64
end
