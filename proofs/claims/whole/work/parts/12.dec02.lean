def f_Fp_strip (a1 : Int32) (a2 : Int32) (a3 : Int32) (δ : Dm) : Option (Int32 × Dm) := ((f_To_boothAt a1 δ).bind (fun o5 => ocs o5 (some ((-1 : Int32), δ)) (fun t5 => if isB t5 = true then (if (gI δ t5 4) < (1 : Int32) then (some ((-1 : Int32), δ)) else (if (gI δ 34 0) < (400 : Int32) then ((f_Fp_lawAt (gI δ t5 2) δ).bind (fun o48 => ocs o48 (some ((-1 : Int32), δ)) (fun t48 => if isL t48 = true then ((f_Fp_within a2 (1 : Int32) (99 : Int32) δ).bind (fun y62 => (if y62 = 0 then (some ((-1 : Int32), δ)) else ((f_Fp_within a3 (0 : Int32) (20 : Int32) δ).bind (fun y72 => (if y72 = 0 then (some ((-1 : Int32), δ)) else ((f_Fa_open t5 (gI δ 29 0) δ).bind (fun y97 => ((f_Fa_pose a2 a3 y97).bind (fun y106 => ((f_Fa_till (gI y106 t5 6) (gI y106 t5 5) y106).bind (fun y123 => ((f_La_spoiler t48 (t5 + 1) y123).bind (fun y137 => bnd y137.1 (fun v137 => bnd y137.2 (fun δ_137 => ((f_La_wear t48 (9 : Int32) (t5 + 1) δ_137).bind (fun y155 => ((f_Di_addStrip a1 (gI y155 29 0) v137 y155).bind (fun y175 => ((f_Di_tellStrip a2 a3 (gI y175 t5 6) (gI y175 t5 5) y175).bind (fun y197 => (bnd (sI y197 t5 4 ((gI y197 t5 4) - (1 : Int32))) (fun δ_208 => (bnd (sI δ_208 t5 5 ((gI δ_208 t5 5) + (gI δ_208 t5 1))) (fun δ_223 => (bnd (sI δ_223 t5 6 ((gI δ_223 t5 6) + (1 : Int32))) (fun δ_234 => (some (v137, δ_234)))))))))))))))))))))))))))))) else none))) else (some ((-1 : Int32), δ)))) else none)))
set_option maxHeartbeats 4000000 in
set_option maxRecDepth 100000 in
theorem m_Fp_strip {a1 : Int32} {a2 : Int32} {a3 : Int32} {δ : Dm} {n : Nat} : ∀ x, f_Fp_strip a1 a2 a3 δ = some x → AMet k_Fp_strip 6 0 0 [.ref 4, .int a1, .int a2, .int a3] δ RT n (Km RT n x) := by
  refine aw_start (lo := [(0, .ref 4), (1, .int a1), (2, .int a2), (3, .int a3)]) mok_Fp_strip rfl (Nat.le_of_ble_eq_true rfl) ?_
  unfold f_Fp_strip
  refine aw_aload_n d_Fp_strip_0 0 rfl ?_
  refine aw_getR (t := 29) fl_Fp_57 kd_4 rt_4_9 d_Fp_strip_1 ?_
  refine aw_iload_n d_Fp_strip_4 1 rfl ?_
  refine aw_V_r (As := [.int a1]) (m_To_boothAt) cv_Fp_139 kd_29 rfl rfl rfl (Nat.le_of_ble_eq_true rfl) ⟨Nat.le_of_ble_eq_true rfl, Nat.le_of_ble_eq_true rfl⟩ ⟨Nat.le_refl _, Nat.le_refl _⟩ d_Fp_strip_5 ?_ (fun t5 => ?_)
  · refine aw_astoreN (lo' := [(4, .null), (0, .ref 4), (1, .int a1), (2, .int a2), (3, .int a3)]) d_Fp_strip_8 (by decide) rfl ?_
    refine aw_aloadN d_Fp_strip_10 0 rfl ?_
    refine aw_ifnullN (tgt := 40) d_Fp_strip_12 rfl ?_
    refine aw_iconst d_Fp_strip_40 ki_m1 ?_
    exact aw_iret rfl rfl ⟨Nat.le_refl _, Nat.le_refl _⟩ d_Fp_strip_41
  · refine aw_grd (fun ht5 => ?_)
    refine aw_astore (lo' := [(4, .ref t5), (0, .ref 4), (1, .int a1), (2, .int a2), (3, .int a3)]) d_Fp_strip_8 (by decide) rfl ?_
    refine aw_aload d_Fp_strip_10 0 rfl ?_
    refine aw_ifnull d_Fp_strip_12 ?_
    refine aw_aload d_Fp_strip_15 0 rfl ?_
    refine aw_getI fl_Fp_145 (fx_isBK ht5 0 (by decide)) d_Fp_strip_17 ?_
    refine aw_iconst d_Fp_strip_20 ki_1 ?_
    refine aw_icmp_lt (tgt := 40) d_Fp_strip_21 rfl (fun q21 => ?_) (fun q21 => ?_)
    · refine aw_iconst d_Fp_strip_40 ki_m1 ?_
      exact aw_iret rfl rfl ⟨Nat.le_refl _, Nat.le_refl _⟩ d_Fp_strip_41
    · refine aw_aload_n d_Fp_strip_24 1 rfl ?_
      refine aw_getR (t := 29) fl_Fp_57 kd_4 rt_4_9 d_Fp_strip_25 ?_
      refine aw_getR (t := 34) fl_Fp_148 kd_29 rt_29_7 d_Fp_strip_28 ?_
      refine aw_getI fl_Fp_152 kd_34 d_Fp_strip_31 ?_
      refine aw_sipush d_Fp_strip_34 ks_400 ?_
      refine aw_icmp_lt (tgt := 42) d_Fp_strip_37 rfl (fun q37 => ?_) (fun q37 => ?_)
      · refine aw_aload_n d_Fp_strip_42 1 rfl ?_
        refine aw_aload d_Fp_strip_43 0 rfl ?_
        refine aw_getI fl_Fp_157 (fx_isBK ht5 0 (by decide)) d_Fp_strip_45 ?_
        refine aw_V_r (As := [.int (gI δ t5 2)]) (m_Fp_lawAt) cv_Fp_126 kd_4 rfl rfl rfl (Nat.le_of_ble_eq_true rfl) ⟨Nat.le_of_ble_eq_true rfl, Nat.le_of_ble_eq_true rfl⟩ ⟨Nat.le_refl _, Nat.le_refl _⟩ d_Fp_strip_48 ?_ (fun t48 => ?_)
        · refine aw_astoreN (lo' := [(5, .null), (4, .ref t5), (0, .ref 4), (1, .int a1), (2, .int a2), (3, .int a3)]) d_Fp_strip_51 (by decide) rfl ?_
          refine aw_aloadN d_Fp_strip_53 0 rfl ?_
          refine aw_ifnullN (tgt := 78) d_Fp_strip_55 rfl ?_
          refine aw_iconst d_Fp_strip_78 ki_m1 ?_
          exact aw_iret rfl rfl ⟨Nat.le_refl _, Nat.le_refl _⟩ d_Fp_strip_79
        · refine aw_grd (fun ht48 => ?_)
          refine aw_astore (lo' := [(5, .ref t48), (4, .ref t5), (0, .ref 4), (1, .int a1), (2, .int a2), (3, .int a3)]) d_Fp_strip_51 (by decide) rfl ?_
          refine aw_aload d_Fp_strip_53 0 rfl ?_
          refine aw_ifnull d_Fp_strip_55 ?_
          refine aw_iload_n d_Fp_strip_58 4 rfl ?_
          refine aw_iconst d_Fp_strip_59 ki_1 ?_
          refine aw_bipush d_Fp_strip_60 kb_99 ?_
          refine aw_S_p (As := [.int a2, .int (1 : Int32), .int (99 : Int32)]) (m_Fp_within) cs_Fp_70 rfl rfl (Nat.le_of_ble_eq_true rfl) ⟨Nat.le_of_ble_eq_true rfl, Nat.le_of_ble_eq_true rfl⟩ ⟨Nat.le_refl _, Nat.le_refl _⟩ d_Fp_strip_62 (fun y62 => ?_)
          refine aw_if_eq (tgt := 78) d_Fp_strip_65 rfl (fun q65 => ?_) (fun q65 => ?_)
          · refine aw_iconst d_Fp_strip_78 ki_m1 ?_
            exact aw_iret rfl rfl ⟨Nat.le_refl _, Nat.le_refl _⟩ d_Fp_strip_79
          · refine aw_iload_n d_Fp_strip_68 5 rfl ?_
            refine aw_iconst d_Fp_strip_69 ki_0 ?_
            refine aw_bipush d_Fp_strip_70 kb_20 ?_
            refine aw_S_p (As := [.int a3, .int (0 : Int32), .int (20 : Int32)]) (m_Fp_within) cs_Fp_70 rfl rfl (Nat.le_of_ble_eq_true rfl) ⟨Nat.le_of_ble_eq_true rfl, Nat.le_of_ble_eq_true rfl⟩ ⟨Nat.le_refl _, Nat.le_refl _⟩ d_Fp_strip_72 (fun y72 => ?_)
            refine aw_if_ne (tgt := 80) d_Fp_strip_75 rfl (fun q75 => ?_) (fun q75 => ?_)
            · refine aw_iconst d_Fp_strip_78 ki_m1 ?_
              exact aw_iret rfl rfl ⟨Nat.le_refl _, Nat.le_refl _⟩ d_Fp_strip_79
            · refine aw_aload_n d_Fp_strip_80 2 rfl ?_
              refine aw_getR (t := 19) fl_Fp_29 kd_4 rt_4_5 d_Fp_strip_81 ?_
              refine aw_aload_n d_Fp_strip_84 2 rfl ?_
              refine aw_getR (t := 29) fl_Fp_57 kd_4 rt_4_9 d_Fp_strip_85 ?_
              refine aw_aload d_Fp_strip_88 1 rfl ?_
              refine aw_aload_n d_Fp_strip_90 2 rfl ?_
              refine aw_getR (t := 29) fl_Fp_57 kd_4 rt_4_9 d_Fp_strip_91 ?_
              refine aw_getI fl_Fp_130 kd_29 d_Fp_strip_94 ?_
              refine aw_V_v (As := [.ref 29, .ref t5, .int (gI δ 29 0)]) (m_Fa_open ht5) cv_Fp_160 kd_19 rfl rfl rfl (Nat.le_of_ble_eq_true rfl) ⟨Nat.le_of_ble_eq_true rfl, Nat.le_of_ble_eq_true rfl⟩ ⟨Nat.le_refl _, Nat.le_refl _⟩ d_Fp_strip_97 (fun y97 => ?_)
              refine aw_aload_n d_Fp_strip_100 2 rfl ?_
              refine aw_getR (t := 19) fl_Fp_29 kd_4 rt_4_5 d_Fp_strip_101 ?_
              refine aw_iload_n d_Fp_strip_104 4 rfl ?_
              refine aw_iload_n d_Fp_strip_105 5 rfl ?_
              refine aw_V_v (As := [.int a2, .int a3]) (m_Fa_pose) cv_Fp_164 kd_19 rfl rfl rfl (Nat.le_of_ble_eq_true rfl) ⟨Nat.le_of_ble_eq_true rfl, Nat.le_of_ble_eq_true rfl⟩ ⟨Nat.le_refl _, Nat.le_refl _⟩ d_Fp_strip_106 (fun y106 => ?_)
              refine aw_aload_n d_Fp_strip_109 2 rfl ?_
              refine aw_getR (t := 19) fl_Fp_29 kd_4 rt_4_5 d_Fp_strip_110 ?_
              refine aw_aload d_Fp_strip_113 1 rfl ?_
              refine aw_getI fl_Fp_168 (fx_isBK ht5 0 (by decide)) d_Fp_strip_115 ?_
              refine aw_aload d_Fp_strip_118 1 rfl ?_
              refine aw_getI fl_Fp_171 (fx_isBK ht5 0 (by decide)) d_Fp_strip_120 ?_
              refine aw_V_v (As := [.int (gI y106 t5 6), .int (gI y106 t5 5)]) (m_Fa_till) cv_Fp_174 kd_19 rfl rfl rfl (Nat.le_of_ble_eq_true rfl) ⟨Nat.le_of_ble_eq_true rfl, Nat.le_of_ble_eq_true rfl⟩ ⟨Nat.le_refl _, Nat.le_refl _⟩ d_Fp_strip_123 (fun y123 => ?_)
              refine aw_aload d_Fp_strip_126 0 rfl ?_
              refine aw_aload d_Fp_strip_128 1 rfl ?_
              refine aw_getR (t := (t5 + 1)) fl_Fp_177 (fx_isBK ht5 0 (by decide)) (fx_isBR ht5 0 9 (by decide) (by decide)) d_Fp_strip_130 ?_
              refine aw_aload_n d_Fp_strip_133 2 rfl ?_
              refine aw_getR (t := 19) fl_Fp_29 kd_4 rt_4_5 d_Fp_strip_134 ?_
              refine aw_V_m (As := [.ref (t5 + 1), .ref 19]) (m_La_spoiler ht48 (congrArg Prod.fst (fx_isBK ht5 1 (by decide)))) cv_Fp_180 (fx_isLK ht48 0 (by decide)) rfl rfl rfl (Nat.le_of_ble_eq_true rfl) ⟨Nat.le_of_ble_eq_true rfl, Nat.le_of_ble_eq_true rfl⟩ ⟨Nat.le_refl _, Nat.le_refl _⟩ d_Fp_strip_137 (fun y137 => ?_)
              refine aw_bI (fun v137 => ?_)
              refine aw_bD (fun δ_137 => ?_)
              refine aw_istore (lo' := [(6, .int v137), (5, .ref t48), (4, .ref t5), (0, .ref 4), (1, .int a1), (2, .int a2), (3, .int a3)]) d_Fp_strip_140 (by decide) rfl ?_
              refine aw_aload d_Fp_strip_142 1 rfl ?_
              refine aw_bipush d_Fp_strip_144 kb_9 ?_
              refine aw_aload d_Fp_strip_146 2 rfl ?_
              refine aw_getR (t := (t5 + 1)) fl_Fp_177 (fx_isBK ht5 0 (by decide)) (fx_isBR ht5 0 9 (by decide) (by decide)) d_Fp_strip_148 ?_
              refine aw_aload_n d_Fp_strip_151 3 rfl ?_
              refine aw_getR (t := 19) fl_Fp_29 kd_4 rt_4_5 d_Fp_strip_152 ?_
              refine aw_V_v (As := [.int (9 : Int32), .ref (t5 + 1), .ref 19]) (m_La_wear ht48 (congrArg Prod.fst (fx_isBK ht5 1 (by decide)))) cv_Fp_186 (fx_isLK ht48 0 (by decide)) rfl rfl rfl (Nat.le_of_ble_eq_true rfl) ⟨Nat.le_of_ble_eq_true rfl, Nat.le_of_ble_eq_true rfl⟩ ⟨Nat.le_refl _, Nat.le_refl _⟩ d_Fp_strip_155 (fun y155 => ?_)
              refine aw_aload_n d_Fp_strip_158 3 rfl ?_
              refine aw_getR (t := 29) fl_Fp_57 kd_4 rt_4_9 d_Fp_strip_159 ?_
              refine aw_getR (t := 34) fl_Fp_148 kd_29 rt_29_7 d_Fp_strip_162 ?_
              refine aw_iload_n d_Fp_strip_165 4 rfl ?_
              refine aw_aload_n d_Fp_strip_166 3 rfl ?_
              refine aw_getR (t := 29) fl_Fp_57 kd_4 rt_4_9 d_Fp_strip_167 ?_
              refine aw_getI fl_Fp_130 kd_29 d_Fp_strip_170 ?_
              refine aw_iload d_Fp_strip_173 0 rfl ?_
              refine aw_V_v (As := [.int a1, .int (gI y155 29 0), .int v137]) (m_Di_addStrip) cv_Fp_190 kd_34 rfl rfl rfl (Nat.le_of_ble_eq_true rfl) ⟨Nat.le_of_ble_eq_true rfl, Nat.le_of_ble_eq_true rfl⟩ ⟨Nat.le_refl _, Nat.le_refl _⟩ d_Fp_strip_175 (fun y175 => ?_)
              refine aw_aload_n d_Fp_strip_178 3 rfl ?_
              refine aw_getR (t := 29) fl_Fp_57 kd_4 rt_4_9 d_Fp_strip_179 ?_
              refine aw_getR (t := 34) fl_Fp_148 kd_29 rt_29_7 d_Fp_strip_182 ?_
              refine aw_iload_n d_Fp_strip_185 5 rfl ?_
              refine aw_iload_n d_Fp_strip_186 6 rfl ?_
              refine aw_aload d_Fp_strip_187 2 rfl ?_
              refine aw_getI fl_Fp_168 (fx_isBK ht5 0 (by decide)) d_Fp_strip_189 ?_
              refine aw_aload d_Fp_strip_192 2 rfl ?_
              refine aw_getI fl_Fp_171 (fx_isBK ht5 0 (by decide)) d_Fp_strip_194 ?_
              refine aw_V_v (As := [.int a2, .int a3, .int (gI y175 t5 6), .int (gI y175 t5 5)]) (m_Di_tellStrip) cv_Fp_194 kd_34 rfl rfl rfl (Nat.le_of_ble_eq_true rfl) ⟨Nat.le_of_ble_eq_true rfl, Nat.le_of_ble_eq_true rfl⟩ ⟨Nat.le_refl _, Nat.le_refl _⟩ d_Fp_strip_197 (fun y197 => ?_)
              refine aw_aload d_Fp_strip_200 2 rfl ?_
              refine aw_dup d_Fp_strip_202 rfl ?_
              refine aw_getI fl_Fp_145 (fx_isBK ht5 0 (by decide)) d_Fp_strip_203 ?_
              refine aw_iconst d_Fp_strip_206 ki_1 ?_
              refine aw_isub d_Fp_strip_207 ?_
              refine aw_putI pf_Fp_145 (fx_isBK ht5 0 (by decide)) d_Fp_strip_208 ?_
              refine aw_bD (fun δ_208 => ?_)
              refine aw_aload d_Fp_strip_211 2 rfl ?_
              refine aw_dup d_Fp_strip_213 rfl ?_
              refine aw_getI fl_Fp_171 (fx_isBK ht5 0 (by decide)) d_Fp_strip_214 ?_
              refine aw_aload d_Fp_strip_217 2 rfl ?_
              refine aw_getI fl_Fp_197 (fx_isBK ht5 0 (by decide)) d_Fp_strip_219 ?_
              refine aw_iadd d_Fp_strip_222 ?_
              refine aw_putI pf_Fp_171 (fx_isBK ht5 0 (by decide)) d_Fp_strip_223 ?_
              refine aw_bD (fun δ_223 => ?_)
              refine aw_aload d_Fp_strip_226 2 rfl ?_
              refine aw_dup d_Fp_strip_228 rfl ?_
              refine aw_getI fl_Fp_168 (fx_isBK ht5 0 (by decide)) d_Fp_strip_229 ?_
              refine aw_iconst d_Fp_strip_232 ki_1 ?_
              refine aw_iadd d_Fp_strip_233 ?_
              refine aw_putI pf_Fp_168 (fx_isBK ht5 0 (by decide)) d_Fp_strip_234 ?_
              refine aw_bD (fun δ_234 => ?_)
              refine aw_iload d_Fp_strip_237 0 rfl ?_
              exact aw_iret rfl rfl ⟨Nat.le_refl _, Nat.le_refl _⟩ d_Fp_strip_239
      · refine aw_iconst d_Fp_strip_40 ki_m1 ?_
        exact aw_iret rfl rfl ⟨Nat.le_refl _, Nat.le_refl _⟩ d_Fp_strip_41
def lp_Fp_ageAll_2 (kx2_94 : Int32 → Dm → Option Dm) (a1 : Int32) : Nat → Int32 → Dm → Option Dm
  | 0, _, _ => none
  | f + 1, v2_2, δ2 => (if (gI δ2 29 2) ≤ v2_2 then (kx2_94 v2_2 δ2) else ((f_To_boothAt v2_2 δ2).bind (fun o18 => ocs o18 (lp_Fp_ageAll_2 kx2_94 a1 f (v2_2 + (1 : Int32)) δ2) (fun t18 => if isB t18 = true then ((f_Fp_lawAt (gI δ2 t18 2) δ2).bind (fun o35 => ocs o35 (lp_Fp_ageAll_2 kx2_94 a1 f (v2_2 + (1 : Int32)) δ2) (fun t35 => if isL t35 = true then ((f_Fa_open t18 a1 δ2).bind (fun y55 => ((f_Fa_till (gI y55 t18 6) (gI y55 t18 5) y55).bind (fun y70 => ((f_La_wear t35 (10 : Int32) (t18 + 1) y70).bind (fun y85 => (lp_Fp_ageAll_2 kx2_94 a1 f (v2_2 + (1 : Int32)) y85))))))) else none))) else none))))
set_option maxHeartbeats 4000000 in
set_option maxRecDepth 100000 in
theorem tl_Fp_ageAll_2 {n : Nat} (kx2_94 : Int32 → Dm → Option Dm) (a1 : Int32) (hkx2_94 : ∀ v2_2k δ2k, AWo k_Fp_ageAll 6 0 0 94 [(0, .ref 4), (1, .int a1), (2, .int v2_2k)] [] δ2k RT n 0 0 (Kv RT n) (kx2_94 v2_2k δ2k)) : ∀ (f : Nat) (v2_2 : Int32) (δ2 : Dm), AWo k_Fp_ageAll 6 0 0 2 [(0, .ref 4), (1, .int a1), (2, .int v2_2)] [] δ2 RT n 0 0 (Kv RT n) (lp_Fp_ageAll_2 kx2_94 a1 f v2_2 δ2) := by
  intro f
  induction f with
  | zero => intro _ _; exact aw_none
  | succ f ih =>
    intro v2_2 δ2
    rw [lp_Fp_ageAll_2]
    refine aw_iload_n d_Fp_ageAll_2 2 rfl ?_
    refine aw_aload_n d_Fp_ageAll_3 0 rfl ?_
    refine aw_getR (t := 29) fl_Fp_57 kd_4 rt_4_9 d_Fp_ageAll_4 ?_
    refine aw_getI fl_Fp_116 kd_29 d_Fp_ageAll_7 ?_
    refine aw_icmp_ge (tgt := 94) d_Fp_ageAll_10 rfl (fun q10 => ?_) (fun q10 => ?_)
    · refine aw_sub (lo' := [(0, .ref 4), (1, .int a1), (2, .int v2_2)]) [0, 1, 2] rfl ?_
      exact hkx2_94 _ _
    · refine aw_aload_n d_Fp_ageAll_13 0 rfl ?_
      refine aw_getR (t := 29) fl_Fp_57 kd_4 rt_4_9 d_Fp_ageAll_14 ?_
      refine aw_iload_n d_Fp_ageAll_17 2 rfl ?_
      refine aw_V_r (As := [.int v2_2]) (m_To_boothAt) cv_Fp_139 kd_29 rfl rfl rfl (Nat.le_of_ble_eq_true rfl) ⟨Nat.le_of_ble_eq_true rfl, Nat.le_of_ble_eq_true rfl⟩ ⟨Nat.le_refl _, Nat.le_refl _⟩ d_Fp_ageAll_18 ?_ (fun t18 => ?_)
      · refine aw_astoreN_n (lo' := [(3, .null), (0, .ref 4), (1, .int a1), (2, .int v2_2)]) d_Fp_ageAll_21 rfl (by decide) rfl ?_
        refine aw_aloadN_n d_Fp_ageAll_22 0 rfl ?_
        refine aw_ifnonnullN d_Fp_ageAll_23 ?_
        refine aw_null d_Fp_ageAll_26 ?_
        refine aw_goto (tgt := 38) d_Fp_ageAll_27 rfl ?_
        refine aw_astoreN (lo' := [(4, .null), (3, .null), (0, .ref 4), (1, .int a1), (2, .int v2_2)]) d_Fp_ageAll_38 (by decide) rfl ?_
        refine aw_aloadN d_Fp_ageAll_40 0 rfl ?_
        refine aw_ifnullN (tgt := 88) d_Fp_ageAll_42 rfl ?_
        refine aw_iinc (v := (v2_2 + (1 : Int32))) (lo' := [(2, .int (v2_2 + (1 : Int32))), (4, .null), (3, .null), (0, .ref 4), (1, .int a1)]) d_Fp_ageAll_88 4 rfl (by rw [show Int32.ofInt (1) = (1 : Int32) from by decide]) (by decide) rfl ?_
        refine aw_goto (tgt := 2) d_Fp_ageAll_91 rfl ?_
        refine aw_sub (lo' := [(0, .ref 4), (1, .int a1), (2, .int (v2_2 + (1 : Int32)))]) [3, 4, 0] rfl ?_
        exact ih _ _
      · refine aw_grd (fun ht18 => ?_)
        refine aw_astore_n (lo' := [(3, .ref t18), (0, .ref 4), (1, .int a1), (2, .int v2_2)]) d_Fp_ageAll_21 rfl (by decide) rfl ?_
        refine aw_aload_n d_Fp_ageAll_22 0 rfl ?_
        refine aw_ifnonnull (tgt := 30) d_Fp_ageAll_23 rfl ?_
        refine aw_aload_n d_Fp_ageAll_30 1 rfl ?_
        refine aw_aload_n d_Fp_ageAll_31 0 rfl ?_
        refine aw_getI fl_Fp_157 (fx_isBK ht18 0 (by decide)) d_Fp_ageAll_32 ?_
        refine aw_V_r (As := [.int (gI δ2 t18 2)]) (m_Fp_lawAt) cv_Fp_126 kd_4 rfl rfl rfl (Nat.le_of_ble_eq_true rfl) ⟨Nat.le_of_ble_eq_true rfl, Nat.le_of_ble_eq_true rfl⟩ ⟨Nat.le_refl _, Nat.le_refl _⟩ d_Fp_ageAll_35 ?_ (fun t35 => ?_)
        · refine aw_astoreN (lo' := [(4, .null), (3, .ref t18), (0, .ref 4), (1, .int a1), (2, .int v2_2)]) d_Fp_ageAll_38 (by decide) rfl ?_
          refine aw_aloadN d_Fp_ageAll_40 0 rfl ?_
          refine aw_ifnullN (tgt := 88) d_Fp_ageAll_42 rfl ?_
          refine aw_iinc (v := (v2_2 + (1 : Int32))) (lo' := [(2, .int (v2_2 + (1 : Int32))), (4, .null), (3, .ref t18), (0, .ref 4), (1, .int a1)]) d_Fp_ageAll_88 4 rfl (by rw [show Int32.ofInt (1) = (1 : Int32) from by decide]) (by decide) rfl ?_
          refine aw_goto (tgt := 2) d_Fp_ageAll_91 rfl ?_
          refine aw_sub (lo' := [(0, .ref 4), (1, .int a1), (2, .int (v2_2 + (1 : Int32)))]) [3, 4, 0] rfl ?_
          exact ih _ _
        · refine aw_grd (fun ht35 => ?_)
          refine aw_astore (lo' := [(4, .ref t35), (3, .ref t18), (0, .ref 4), (1, .int a1), (2, .int v2_2)]) d_Fp_ageAll_38 (by decide) rfl ?_
          refine aw_aload d_Fp_ageAll_40 0 rfl ?_
          refine aw_ifnull d_Fp_ageAll_42 ?_
          refine aw_aload_n d_Fp_ageAll_45 2 rfl ?_
          refine aw_getR (t := 19) fl_Fp_29 kd_4 rt_4_5 d_Fp_ageAll_46 ?_
          refine aw_aload_n d_Fp_ageAll_49 2 rfl ?_
          refine aw_getR (t := 29) fl_Fp_57 kd_4 rt_4_9 d_Fp_ageAll_50 ?_
          refine aw_aload_n d_Fp_ageAll_53 1 rfl ?_
          refine aw_iload_n d_Fp_ageAll_54 3 rfl ?_
          refine aw_V_v (As := [.ref 29, .ref t18, .int a1]) (m_Fa_open ht18) cv_Fp_160 kd_19 rfl rfl rfl (Nat.le_of_ble_eq_true rfl) ⟨Nat.le_of_ble_eq_true rfl, Nat.le_of_ble_eq_true rfl⟩ ⟨Nat.le_refl _, Nat.le_refl _⟩ d_Fp_ageAll_55 (fun y55 => ?_)
          refine aw_aload_n d_Fp_ageAll_58 2 rfl ?_
          refine aw_getR (t := 19) fl_Fp_29 kd_4 rt_4_5 d_Fp_ageAll_59 ?_
          refine aw_aload_n d_Fp_ageAll_62 1 rfl ?_
          refine aw_getI fl_Fp_168 (fx_isBK ht18 0 (by decide)) d_Fp_ageAll_63 ?_
          refine aw_aload_n d_Fp_ageAll_66 1 rfl ?_
          refine aw_getI fl_Fp_171 (fx_isBK ht18 0 (by decide)) d_Fp_ageAll_67 ?_
          refine aw_V_v (As := [.int (gI y55 t18 6), .int (gI y55 t18 5)]) (m_Fa_till) cv_Fp_174 kd_19 rfl rfl rfl (Nat.le_of_ble_eq_true rfl) ⟨Nat.le_of_ble_eq_true rfl, Nat.le_of_ble_eq_true rfl⟩ ⟨Nat.le_refl _, Nat.le_refl _⟩ d_Fp_ageAll_70 (fun y70 => ?_)
          refine aw_aload d_Fp_ageAll_73 0 rfl ?_
          refine aw_bipush d_Fp_ageAll_75 kb_10 ?_
          refine aw_aload_n d_Fp_ageAll_77 1 rfl ?_
          refine aw_getR (t := (t18 + 1)) fl_Fp_177 (fx_isBK ht18 0 (by decide)) (fx_isBR ht18 0 9 (by decide) (by decide)) d_Fp_ageAll_78 ?_
          refine aw_aload_n d_Fp_ageAll_81 2 rfl ?_
          refine aw_getR (t := 19) fl_Fp_29 kd_4 rt_4_5 d_Fp_ageAll_82 ?_
          refine aw_V_v (As := [.int (10 : Int32), .ref (t18 + 1), .ref 19]) (m_La_wear ht35 (congrArg Prod.fst (fx_isBK ht18 1 (by decide)))) cv_Fp_186 (fx_isLK ht35 0 (by decide)) rfl rfl rfl (Nat.le_of_ble_eq_true rfl) ⟨Nat.le_of_ble_eq_true rfl, Nat.le_of_ble_eq_true rfl⟩ ⟨Nat.le_refl _, Nat.le_refl _⟩ d_Fp_ageAll_85 (fun y85 => ?_)
          refine aw_iinc (v := (v2_2 + (1 : Int32))) (lo' := [(2, .int (v2_2 + (1 : Int32))), (4, .ref t35), (3, .ref t18), (0, .ref 4), (1, .int a1)]) d_Fp_ageAll_88 4 rfl (by rw [show Int32.ofInt (1) = (1 : Int32) from by decide]) (by decide) rfl ?_
          refine aw_goto (tgt := 2) d_Fp_ageAll_91 rfl ?_
          refine aw_sub (lo' := [(0, .ref 4), (1, .int a1), (2, .int (v2_2 + (1 : Int32)))]) [3, 4, 0] rfl ?_
          exact ih _ _
def f_Fp_ageAll (a1 : Int32) (δ : Dm) : Option Dm := (lp_Fp_ageAll_2 (fun v2_2x δ2x => (some δ2x)) a1 FU (0 : Int32) δ)
set_option maxHeartbeats 4000000 in
set_option maxRecDepth 100000 in
theorem m_Fp_ageAll {a1 : Int32} {δ : Dm} {n : Nat} : ∀ x, f_Fp_ageAll a1 δ = some x → AMet k_Fp_ageAll 6 0 0 [.ref 4, .int a1] δ RT n (Kv RT n x) := by
  refine aw_start (lo := [(0, .ref 4), (1, .int a1)]) mok_Fp_ageAll rfl (Nat.le_of_ble_eq_true rfl) ?_
  unfold f_Fp_ageAll
  refine aw_iconst d_Fp_ageAll_0 ki_0 ?_
  refine aw_istore_n (lo' := [(2, .int (0 : Int32)), (0, .ref 4), (1, .int a1)]) d_Fp_ageAll_1 rfl (by decide) rfl ?_
  refine aw_sub (lo' := [(0, .ref 4), (1, .int a1), (2, .int (0 : Int32))]) [1, 2, 0] rfl ?_
  refine tl_Fp_ageAll_2 _ _ (fun v2_2x δ2x => ?_) FU _ _
  · exact aw_vret rfl rfl ⟨Nat.le_refl _, Nat.le_refl _⟩ d_Fp_ageAll_94
def lp_Fp_clock_27 (kx27_43 : Int32 → Dm → Option (Int32 × Dm)) (a1 : Int32) : Nat → Int32 → Dm → Option (Int32 × Dm)
  | 0, _, _ => none
  | f + 1, v2_27, δ27 => (if a1 ≤ v2_27 then (kx27_43 v2_27 δ27) else ((f_Fp_ageAll v2_27 δ27).bind (fun y34 => (lp_Fp_clock_27 kx27_43 a1 f (v2_27 + (1 : Int32)) y34))))
set_option maxHeartbeats 4000000 in
set_option maxRecDepth 100000 in
theorem tl_Fp_clock_27 {n : Nat} (kx27_43 : Int32 → Dm → Option (Int32 × Dm)) (a1 : Int32) (hkx27_43 : ∀ v2_27k δ27k, AWo k_Fp_clock 7 0 0 43 [(0, .ref 4), (1, .int a1), (2, .int v2_27k)] [] δ27k RT n 0 0 (Km RT n) (kx27_43 v2_27k δ27k)) : ∀ (f : Nat) (v2_27 : Int32) (δ27 : Dm), AWo k_Fp_clock 7 0 0 27 [(0, .ref 4), (1, .int a1), (2, .int v2_27)] [] δ27 RT n 0 0 (Km RT n) (lp_Fp_clock_27 kx27_43 a1 f v2_27 δ27) := by
  intro f
  induction f with
  | zero => intro _ _; exact aw_none
  | succ f ih =>
    intro v2_27 δ27
    rw [lp_Fp_clock_27]
    refine aw_iload_n d_Fp_clock_27 2 rfl ?_
    refine aw_iload_n d_Fp_clock_28 1 rfl ?_
    refine aw_icmp_ge (tgt := 43) d_Fp_clock_29 rfl (fun q29 => ?_) (fun q29 => ?_)
    · refine aw_sub (lo' := [(0, .ref 4), (1, .int a1), (2, .int v2_27)]) [0, 1, 2] rfl ?_
      exact hkx27_43 _ _
    · refine aw_aload_n d_Fp_clock_32 0 rfl ?_
      refine aw_iload_n d_Fp_clock_33 2 rfl ?_
      refine aw_V_v (As := [.int v2_27]) (m_Fp_ageAll) cv_Fp_200 kd_4 rfl rfl rfl (Nat.le_of_ble_eq_true rfl) ⟨Nat.le_of_ble_eq_true rfl, Nat.le_of_ble_eq_true rfl⟩ ⟨Nat.le_refl _, Nat.le_refl _⟩ d_Fp_clock_34 (fun y34 => ?_)
      refine aw_iinc (v := (v2_27 + (1 : Int32))) (lo' := [(2, .int (v2_27 + (1 : Int32))), (0, .ref 4), (1, .int a1)]) d_Fp_clock_37 2 rfl (by rw [show Int32.ofInt (1) = (1 : Int32) from by decide]) (by decide) rfl ?_
      refine aw_goto (tgt := 27) d_Fp_clock_40 rfl ?_
      refine aw_sub (lo' := [(0, .ref 4), (1, .int a1), (2, .int (v2_27 + (1 : Int32)))]) [1, 2, 0] rfl ?_
      exact ih _ _
def f_Fp_clock (a1 : Int32) (δ : Dm) : Option (Int32 × Dm) := ((f_Fp_within a1 (gI δ 29 0) (399 : Int32) δ).bind (fun y11 => (if y11 = 0 then (some ((0 : Int32), δ)) else (bnd (gI δ 29 0) (fun v26 => (lp_Fp_clock_27 (fun v2_27x δ27x => (bnd (sI δ27x 29 0 a1) (fun δ_48 => (some ((1 : Int32), δ_48))))) a1 FU v26 δ))))))
set_option maxHeartbeats 4000000 in
set_option maxRecDepth 100000 in
theorem m_Fp_clock {a1 : Int32} {δ : Dm} {n : Nat} : ∀ x, f_Fp_clock a1 δ = some x → AMet k_Fp_clock 7 0 0 [.ref 4, .int a1] δ RT n (Km RT n x) := by
  refine aw_start (lo := [(0, .ref 4), (1, .int a1)]) mok_Fp_clock rfl (Nat.le_of_ble_eq_true rfl) ?_
  unfold f_Fp_clock
  refine aw_iload_n d_Fp_clock_0 1 rfl ?_
  refine aw_aload_n d_Fp_clock_1 0 rfl ?_
  refine aw_getR (t := 29) fl_Fp_57 kd_4 rt_4_9 d_Fp_clock_2 ?_
  refine aw_getI fl_Fp_130 kd_29 d_Fp_clock_5 ?_
  refine aw_sipush d_Fp_clock_8 ks_399 ?_
  refine aw_S_p (As := [.int a1, .int (gI δ 29 0), .int (399 : Int32)]) (m_Fp_within) cs_Fp_70 rfl rfl (Nat.le_of_ble_eq_true rfl) ⟨Nat.le_of_ble_eq_true rfl, Nat.le_of_ble_eq_true rfl⟩ ⟨Nat.le_refl _, Nat.le_refl _⟩ d_Fp_clock_11 (fun y11 => ?_)
  refine aw_if_ne (tgt := 19) d_Fp_clock_14 rfl (fun q14 => ?_) (fun q14 => ?_)
  · refine aw_iconst d_Fp_clock_17 ki_0 ?_
    exact aw_zret rfl rfl rfl ⟨Nat.le_refl _, Nat.le_refl _⟩ d_Fp_clock_18
  · refine aw_aload_n d_Fp_clock_19 0 rfl ?_
    refine aw_getR (t := 29) fl_Fp_57 kd_4 rt_4_9 d_Fp_clock_20 ?_
    refine aw_getI fl_Fp_130 kd_29 d_Fp_clock_23 ?_
    refine aw_bI (fun v26 => ?_)
    refine aw_istore_n (lo' := [(2, .int v26), (0, .ref 4), (1, .int a1)]) d_Fp_clock_26 rfl (by decide) rfl ?_
    refine aw_sub (lo' := [(0, .ref 4), (1, .int a1), (2, .int v26)]) [1, 2, 0] rfl ?_
    refine tl_Fp_clock_27 _ _ (fun v2_27x δ27x => ?_) FU _ _
    · refine aw_aload_n d_Fp_clock_43 0 rfl ?_
      refine aw_getR (t := 29) fl_Fp_57 kd_4 rt_4_9 d_Fp_clock_44 ?_
      refine aw_iload_n d_Fp_clock_47 1 rfl ?_
      refine aw_putI pf_Fp_130 kd_29 d_Fp_clock_48 ?_
      refine aw_bD (fun δ_48 => ?_)
      refine aw_iconst d_Fp_clock_51 ki_1 ?_
      exact aw_zret rfl rfl rfl ⟨Nat.le_refl _, Nat.le_refl _⟩ d_Fp_clock_52
def f_Fp_isBath (a0 : Int32) (δ : Dm) : Option Int32 := ((f_Fp_within a0 (0 : Int32) (2 : Int32) δ).bind (fun y3 => (if y3 = 0 ∨ y3 = 1 then (some y3) else none)))
set_option maxHeartbeats 4000000 in
set_option maxRecDepth 100000 in
theorem m_Fp_isBath {a0 : Int32} {δ : Dm} {n : Nat} : ∀ x, f_Fp_isBath a0 δ = some x → AMet k_Fp_isBath 2 0 0 [.int a0] δ RT n (Kp δ RT n x) := by
  refine aw_start (lo := [(0, .int a0)]) mok_Fp_isBath rfl (Nat.le_of_ble_eq_true rfl) ?_
  unfold f_Fp_isBath
  refine aw_iload_n d_Fp_isBath_0 0 rfl ?_
  refine aw_iconst d_Fp_isBath_1 ki_0 ?_
  refine aw_iconst d_Fp_isBath_2 ki_2 ?_
  refine aw_S_p (As := [.int a0, .int (0 : Int32), .int (2 : Int32)]) (m_Fp_within) cs_Fp_70 rfl rfl (Nat.le_of_ble_eq_true rfl) ⟨Nat.le_of_ble_eq_true rfl, Nat.le_of_ble_eq_true rfl⟩ ⟨Nat.le_refl _, Nat.le_refl _⟩ d_Fp_isBath_3 (fun y3 => ?_)
  exact aw_zr2 rfl rfl ⟨Nat.le_refl _, Nat.le_refl _⟩ d_Fp_isBath_6
def f_Di_addChange (a1 : Int32) (a2 : Int32) (a3 : Int32) (δ : Dm) : Option Dm := ((f_Di_addEvent a1 a2 ((-1 : Int32) - a3) δ).bind (fun y6 => (bnd (sI y6 34 1 ((gI y6 34 1) + (1 : Int32))) (fun δ_16 => (some δ_16)))))
set_option maxHeartbeats 4000000 in
set_option maxRecDepth 100000 in
theorem m_Di_addChange {a1 : Int32} {a2 : Int32} {a3 : Int32} {δ : Dm} {n : Nat} : ∀ x, f_Di_addChange a1 a2 a3 δ = some x → AMet k_Di_addChange 3 0 0 [.ref 34, .int a1, .int a2, .int a3] δ RT n (Kv RT n x) := by
  refine aw_start (lo := [(0, .ref 34), (1, .int a1), (2, .int a2), (3, .int a3)]) mok_Di_addChange rfl (Nat.le_of_ble_eq_true rfl) ?_
  unfold f_Di_addChange
  refine aw_aload_n d_Di_addChange_0 0 rfl ?_
  refine aw_iload_n d_Di_addChange_1 1 rfl ?_
  refine aw_iload_n d_Di_addChange_2 2 rfl ?_
  refine aw_iconst d_Di_addChange_3 ki_m1 ?_
  refine aw_iload_n d_Di_addChange_4 3 rfl ?_
  refine aw_isub d_Di_addChange_5 ?_
  refine aw_V_v (As := [.int a1, .int a2, .int ((-1 : Int32) - a3)]) (m_Di_addEvent) cv_Di_60 kd_34 rfl rfl rfl (Nat.le_of_ble_eq_true rfl) ⟨Nat.le_of_ble_eq_true rfl, Nat.le_of_ble_eq_true rfl⟩ ⟨Nat.le_refl _, Nat.le_refl _⟩ d_Di_addChange_6 (fun y6 => ?_)
  refine aw_aload_n d_Di_addChange_9 0 rfl ?_
  refine aw_dup d_Di_addChange_10 rfl ?_
  refine aw_getI fl_Di_46 kd_34 d_Di_addChange_11 ?_
  refine aw_iconst d_Di_addChange_14 ki_1 ?_
  refine aw_iadd d_Di_addChange_15 ?_
  refine aw_putI pf_Di_46 kd_34 d_Di_addChange_16 ?_
  refine aw_bD (fun δ_16 => ?_)
  exact aw_vret rfl rfl ⟨Nat.le_refl _, Nat.le_refl _⟩ d_Di_addChange_19
def jp_Fp_change_78 (a1 : Int32) (a2 : Int32) (t5 : Nat) (y42 : Int32) (δ78 : Dm) : Option (Int32 × Dm) := ((f_Di_addChange a1 (gI δ78 29 0) a2 δ78).bind (fun y94 => (some (y42, y94))))
set_option maxHeartbeats 4000000 in
set_option maxRecDepth 100000 in
theorem tj_Fp_change_78 {n : Nat} (a1 : Int32) (a2 : Int32) (t5 : Nat) (y42 : Int32) (δ78 : Dm) (ht5 : isB t5 = true) : AWo k_Fp_change 4 0 0 78 [(0, .ref 4), (1, .int a1), (2, .int a2), (3, .ref t5), (4, .int y42)] [] δ78 RT n 0 0 (Km RT n) (jp_Fp_change_78 a1 a2 t5 y42 δ78) := by
  unfold jp_Fp_change_78
  refine aw_aload_n d_Fp_change_78 0 rfl ?_
  refine aw_getR (t := 29) fl_Fp_57 kd_4 rt_4_9 d_Fp_change_79 ?_
  refine aw_getR (t := 34) fl_Fp_148 kd_29 rt_29_7 d_Fp_change_82 ?_
  refine aw_iload_n d_Fp_change_85 1 rfl ?_
  refine aw_aload_n d_Fp_change_86 0 rfl ?_
  refine aw_getR (t := 29) fl_Fp_57 kd_4 rt_4_9 d_Fp_change_87 ?_
  refine aw_getI fl_Fp_130 kd_29 d_Fp_change_90 ?_
  refine aw_iload_n d_Fp_change_93 2 rfl ?_
  refine aw_V_v (As := [.int a1, .int (gI δ78 29 0), .int a2]) (m_Di_addChange) cv_Fp_212 kd_34 rfl rfl rfl (Nat.le_of_ble_eq_true rfl) ⟨Nat.le_of_ble_eq_true rfl, Nat.le_of_ble_eq_true rfl⟩ ⟨Nat.le_refl _, Nat.le_refl _⟩ d_Fp_change_94 (fun y94 => ?_)
  refine aw_iload d_Fp_change_97 4 rfl ?_
  exact aw_iret rfl rfl ⟨Nat.le_refl _, Nat.le_refl _⟩ d_Fp_change_99
def f_Fp_change (a1 : Int32) (a2 : Int32) (δ : Dm) : Option (Int32 × Dm) := ((f_To_boothAt a1 δ).bind (fun o5 => ocs o5 (some ((-1 : Int32), δ)) (fun t5 => if isB t5 = true then ((f_Fp_isBath a2 δ).bind (fun y14 => (if y14 = 0 then (some ((-1 : Int32), δ)) else (if (gI δ 34 1) < (100 : Int32) then ((f_Fp_get (t5 + 1) a2 δ).bind (fun y42 => ((f_Fp_put (t5 + 1) a2 (1000 : Int32) δ).bind (fun y55 => (if a2 = (2 : Int32) then (bnd (sI y55 t5 7 ((gI y55 t5 7) + ((1000 : Int32) - y42))) (fun δ_75 => (jp_Fp_change_78 a1 a2 t5 y42 δ_75))) else (jp_Fp_change_78 a1 a2 t5 y42 y55)))))) else (some ((-1 : Int32), δ)))))) else none)))
set_option maxHeartbeats 4000000 in
set_option maxRecDepth 100000 in
theorem m_Fp_change {a1 : Int32} {a2 : Int32} {δ : Dm} {n : Nat} : ∀ x, f_Fp_change a1 a2 δ = some x → AMet k_Fp_change 4 0 0 [.ref 4, .int a1, .int a2] δ RT n (Km RT n x) := by
  refine aw_start (lo := [(0, .ref 4), (1, .int a1), (2, .int a2)]) mok_Fp_change rfl (Nat.le_of_ble_eq_true rfl) ?_
  unfold f_Fp_change
  refine aw_aload_n d_Fp_change_0 0 rfl ?_
  refine aw_getR (t := 29) fl_Fp_57 kd_4 rt_4_9 d_Fp_change_1 ?_
  refine aw_iload_n d_Fp_change_4 1 rfl ?_
  refine aw_V_r (As := [.int a1]) (m_To_boothAt) cv_Fp_139 kd_29 rfl rfl rfl (Nat.le_of_ble_eq_true rfl) ⟨Nat.le_of_ble_eq_true rfl, Nat.le_of_ble_eq_true rfl⟩ ⟨Nat.le_refl _, Nat.le_refl _⟩ d_Fp_change_5 ?_ (fun t5 => ?_)
  · refine aw_astoreN_n (lo' := [(3, .null), (0, .ref 4), (1, .int a1), (2, .int a2)]) d_Fp_change_8 rfl (by decide) rfl ?_
    refine aw_aloadN_n d_Fp_change_9 0 rfl ?_
    refine aw_ifnullN (tgt := 35) d_Fp_change_10 rfl ?_
    refine aw_iconst d_Fp_change_35 ki_m1 ?_
    exact aw_iret rfl rfl ⟨Nat.le_refl _, Nat.le_refl _⟩ d_Fp_change_36
  · refine aw_grd (fun ht5 => ?_)
    refine aw_astore_n (lo' := [(3, .ref t5), (0, .ref 4), (1, .int a1), (2, .int a2)]) d_Fp_change_8 rfl (by decide) rfl ?_
    refine aw_aload_n d_Fp_change_9 0 rfl ?_
    refine aw_ifnull d_Fp_change_10 ?_
    refine aw_iload_n d_Fp_change_13 3 rfl ?_
    refine aw_S_p (As := [.int a2]) (m_Fp_isBath) cs_Fp_203 rfl rfl (Nat.le_of_ble_eq_true rfl) ⟨Nat.le_of_ble_eq_true rfl, Nat.le_of_ble_eq_true rfl⟩ ⟨Nat.le_refl _, Nat.le_refl _⟩ d_Fp_change_14 (fun y14 => ?_)
    refine aw_if_eq (tgt := 35) d_Fp_change_17 rfl (fun q17 => ?_) (fun q17 => ?_)
    · refine aw_iconst d_Fp_change_35 ki_m1 ?_
      exact aw_iret rfl rfl ⟨Nat.le_refl _, Nat.le_refl _⟩ d_Fp_change_36
    · refine aw_aload_n d_Fp_change_20 1 rfl ?_
      refine aw_getR (t := 29) fl_Fp_57 kd_4 rt_4_9 d_Fp_change_21 ?_
      refine aw_getR (t := 34) fl_Fp_148 kd_29 rt_29_7 d_Fp_change_24 ?_
      refine aw_getI fl_Fp_206 kd_34 d_Fp_change_27 ?_
      refine aw_bipush d_Fp_change_30 kb_100 ?_
      refine aw_icmp_lt (tgt := 37) d_Fp_change_32 rfl (fun q32 => ?_) (fun q32 => ?_)
      · refine aw_aload_n d_Fp_change_37 0 rfl ?_
        refine aw_getR (t := (t5 + 1)) fl_Fp_177 (fx_isBK ht5 0 (by decide)) (fx_isBR ht5 0 9 (by decide) (by decide)) d_Fp_change_38 ?_
        refine aw_iload_n d_Fp_change_41 3 rfl ?_
        refine aw_S_p (As := [.ref (t5 + 1), .int a2]) (m_Fp_get (congrArg Prod.fst (fx_isBK ht5 1 (by decide)))) cs_Fp_98 rfl rfl (Nat.le_of_ble_eq_true rfl) ⟨Nat.le_of_ble_eq_true rfl, Nat.le_of_ble_eq_true rfl⟩ ⟨Nat.le_refl _, Nat.le_refl _⟩ d_Fp_change_42 (fun y42 => ?_)
        refine aw_istore (lo' := [(4, .int y42), (3, .ref t5), (0, .ref 4), (1, .int a1), (2, .int a2)]) d_Fp_change_45 (by decide) rfl ?_
        refine aw_aload_n d_Fp_change_47 1 rfl ?_
        refine aw_getR (t := (t5 + 1)) fl_Fp_177 (fx_isBK ht5 0 (by decide)) (fx_isBR ht5 0 9 (by decide) (by decide)) d_Fp_change_48 ?_
        refine aw_iload_n d_Fp_change_51 4 rfl ?_
        refine aw_sipush d_Fp_change_52 ks_1000 ?_
        refine aw_S_v (As := [.ref (t5 + 1), .int a2, .int (1000 : Int32)]) (m_Fp_put (congrArg Prod.fst (fx_isBK ht5 1 (by decide)))) cs_Fp_77 rfl rfl (Nat.le_of_ble_eq_true rfl) ⟨Nat.le_of_ble_eq_true rfl, Nat.le_of_ble_eq_true rfl⟩ ⟨Nat.le_refl _, Nat.le_refl _⟩ d_Fp_change_55 (fun y55 => ?_)
        refine aw_iload_n d_Fp_change_58 4 rfl ?_
        refine aw_iconst d_Fp_change_59 ki_2 ?_
        refine aw_icmp_ne (tgt := 78) d_Fp_change_60 rfl (fun q60 => ?_) (fun q60 => ?_)
        · refine aw_aload_n d_Fp_change_63 1 rfl ?_
          refine aw_dup d_Fp_change_64 rfl ?_
          refine aw_getI fl_Fp_209 (fx_isBK ht5 0 (by decide)) d_Fp_change_65 ?_
          refine aw_sipush d_Fp_change_68 ks_1000 ?_
          refine aw_iload d_Fp_change_71 0 rfl ?_
          refine aw_isub d_Fp_change_73 ?_
          refine aw_iadd d_Fp_change_74 ?_
          refine aw_putI pf_Fp_209 (fx_isBK ht5 0 (by decide)) d_Fp_change_75 ?_
          refine aw_bD (fun δ_75 => ?_)
          refine aw_sub (lo' := [(0, .ref 4), (1, .int a1), (2, .int a2), (3, .ref t5), (4, .int y42)]) [2, 3, 4, 1, 0] rfl ?_
          exact tj_Fp_change_78 _ _ _ _ _ ht5
        · refine aw_sub (lo' := [(0, .ref 4), (1, .int a1), (2, .int a2), (3, .ref t5), (4, .int y42)]) [2, 3, 4, 1, 0] rfl ?_
          exact tj_Fp_change_78 _ _ _ _ _ ht5
      · refine aw_iconst d_Fp_change_35 ki_m1 ?_
        exact aw_iret rfl rfl ⟨Nat.le_refl _, Nat.le_refl _⟩ d_Fp_change_36
def f_Di_addEmptying (a1 : Int32) (a2 : Int32) (δ : Dm) : Option Dm := ((f_Di_addEvent a1 a2 (-4 : Int32) δ).bind (fun y5 => (some y5)))
set_option maxHeartbeats 4000000 in
set_option maxRecDepth 100000 in
theorem m_Di_addEmptying {a1 : Int32} {a2 : Int32} {δ : Dm} {n : Nat} : ∀ x, f_Di_addEmptying a1 a2 δ = some x → AMet k_Di_addEmptying 3 0 0 [.ref 34, .int a1, .int a2] δ RT n (Kv RT n x) := by
  refine aw_start (lo := [(0, .ref 34), (1, .int a1), (2, .int a2)]) mok_Di_addEmptying rfl (Nat.le_of_ble_eq_true rfl) ?_
  unfold f_Di_addEmptying
  refine aw_aload_n d_Di_addEmptying_0 0 rfl ?_
  refine aw_iload_n d_Di_addEmptying_1 1 rfl ?_
  refine aw_iload_n d_Di_addEmptying_2 2 rfl ?_
  refine aw_bipush d_Di_addEmptying_3 kb_m4 ?_
  refine aw_V_v (As := [.int a1, .int a2, .int (-4 : Int32)]) (m_Di_addEvent) cv_Di_60 kd_34 rfl rfl rfl (Nat.le_of_ble_eq_true rfl) ⟨Nat.le_of_ble_eq_true rfl, Nat.le_of_ble_eq_true rfl⟩ ⟨Nat.le_refl _, Nat.le_refl _⟩ d_Di_addEmptying_5 (fun y5 => ?_)
  exact aw_vret rfl rfl ⟨Nat.le_refl _, Nat.le_refl _⟩ d_Di_addEmptying_8
def jp_Fp_empty_42 (a1 : Int32) (t5 : Nat) (v19 : Int32) (δ42 : Dm) : Option (Int32 × Dm) := (bnd (sI δ42 t5 5 (0 : Int32)) (fun δ_44 => (some (v19, δ_44))))
set_option maxHeartbeats 4000000 in
set_option maxRecDepth 100000 in
theorem tj_Fp_empty_42 {n : Nat} (a1 : Int32) (t5 : Nat) (v19 : Int32) (δ42 : Dm) (ht5 : isB t5 = true) : AWo k_Fp_empty 4 0 0 42 [(0, .ref 4), (1, .int a1), (2, .ref t5), (3, .int v19)] [] δ42 RT n 0 0 (Km RT n) (jp_Fp_empty_42 a1 t5 v19 δ42) := by
  unfold jp_Fp_empty_42
  refine aw_aload_n d_Fp_empty_42 2 rfl ?_
  refine aw_iconst d_Fp_empty_43 ki_0 ?_
  refine aw_putI pf_Fp_171 (fx_isBK ht5 0 (by decide)) d_Fp_empty_44 ?_
  refine aw_bD (fun δ_44 => ?_)
  refine aw_iload_n d_Fp_empty_47 3 rfl ?_
  exact aw_iret rfl rfl ⟨Nat.le_refl _, Nat.le_refl _⟩ d_Fp_empty_48
def f_Fp_empty (a1 : Int32) (δ : Dm) : Option (Int32 × Dm) := ((f_To_boothAt a1 δ).bind (fun o5 => ocs o5 (some ((-1 : Int32), δ)) (fun t5 => if isB t5 = true then (bnd (gI δ t5 5) (fun v19 => (if v19 ≤ 0 then (jp_Fp_empty_42 a1 t5 v19 δ) else ((f_Di_addEmptying a1 (gI δ 29 0) δ).bind (fun y39 => (jp_Fp_empty_42 a1 t5 v19 y39)))))) else none)))
set_option maxHeartbeats 4000000 in
set_option maxRecDepth 100000 in
theorem m_Fp_empty {a1 : Int32} {δ : Dm} {n : Nat} : ∀ x, f_Fp_empty a1 δ = some x → AMet k_Fp_empty 4 0 0 [.ref 4, .int a1] δ RT n (Km RT n x) := by
  refine aw_start (lo := [(0, .ref 4), (1, .int a1)]) mok_Fp_empty rfl (Nat.le_of_ble_eq_true rfl) ?_
  unfold f_Fp_empty
  refine aw_aload_n d_Fp_empty_0 0 rfl ?_
  refine aw_getR (t := 29) fl_Fp_57 kd_4 rt_4_9 d_Fp_empty_1 ?_
  refine aw_iload_n d_Fp_empty_4 1 rfl ?_
  refine aw_V_r (As := [.int a1]) (m_To_boothAt) cv_Fp_139 kd_29 rfl rfl rfl (Nat.le_of_ble_eq_true rfl) ⟨Nat.le_of_ble_eq_true rfl, Nat.le_of_ble_eq_true rfl⟩ ⟨Nat.le_refl _, Nat.le_refl _⟩ d_Fp_empty_5 ?_ (fun t5 => ?_)
  · refine aw_astoreN_n (lo' := [(2, .null), (0, .ref 4), (1, .int a1)]) d_Fp_empty_8 rfl (by decide) rfl ?_
    refine aw_aloadN_n d_Fp_empty_9 0 rfl ?_
    refine aw_ifnonnullN d_Fp_empty_10 ?_
    refine aw_iconst d_Fp_empty_13 ki_m1 ?_
    exact aw_iret rfl rfl ⟨Nat.le_refl _, Nat.le_refl _⟩ d_Fp_empty_14
  · refine aw_grd (fun ht5 => ?_)
    refine aw_astore_n (lo' := [(2, .ref t5), (0, .ref 4), (1, .int a1)]) d_Fp_empty_8 rfl (by decide) rfl ?_
    refine aw_aload_n d_Fp_empty_9 0 rfl ?_
    refine aw_ifnonnull (tgt := 15) d_Fp_empty_10 rfl ?_
    refine aw_aload_n d_Fp_empty_15 0 rfl ?_
    refine aw_getI fl_Fp_171 (fx_isBK ht5 0 (by decide)) d_Fp_empty_16 ?_
    refine aw_bI (fun v19 => ?_)
    refine aw_istore_n (lo' := [(3, .int v19), (2, .ref t5), (0, .ref 4), (1, .int a1)]) d_Fp_empty_19 rfl (by decide) rfl ?_
    refine aw_iload_n d_Fp_empty_20 0 rfl ?_
    refine aw_if_le (tgt := 42) d_Fp_empty_21 rfl (fun q21 => ?_) (fun q21 => ?_)
    · refine aw_sub (lo' := [(0, .ref 4), (1, .int a1), (2, .ref t5), (3, .int v19)]) [2, 3, 1, 0] rfl ?_
      exact tj_Fp_empty_42 _ _ _ _ ht5
    · refine aw_aload_n d_Fp_empty_24 2 rfl ?_
      refine aw_getR (t := 29) fl_Fp_57 kd_4 rt_4_9 d_Fp_empty_25 ?_
      refine aw_getR (t := 34) fl_Fp_148 kd_29 rt_29_7 d_Fp_empty_28 ?_
      refine aw_iload_n d_Fp_empty_31 3 rfl ?_
      refine aw_aload_n d_Fp_empty_32 2 rfl ?_
      refine aw_getR (t := 29) fl_Fp_57 kd_4 rt_4_9 d_Fp_empty_33 ?_
      refine aw_getI fl_Fp_130 kd_29 d_Fp_empty_36 ?_
      refine aw_V_v (As := [.int a1, .int (gI δ 29 0)]) (m_Di_addEmptying) cv_Fp_215 kd_34 rfl rfl rfl (Nat.le_of_ble_eq_true rfl) ⟨Nat.le_of_ble_eq_true rfl, Nat.le_of_ble_eq_true rfl⟩ ⟨Nat.le_refl _, Nat.le_refl _⟩ d_Fp_empty_39 (fun y39 => ?_)
      refine aw_sub (lo' := [(0, .ref 4), (1, .int a1), (2, .ref t5), (3, .int v19)]) [2, 3, 1, 0] rfl ?_
      exact tj_Fp_empty_42 _ _ _ _ ht5
def f_Fp_of (a1 : Int32) (a2 : Int32) (δ : Dm) : Option Int32 := ((f_To_boothAt a1 δ).bind (fun o5 => ocs o5 (some (-1 : Int32)) (fun t5 => if isB t5 = true then (if (a2).toInt = (0 : Int) then ((f_Fp_get (t5 + 1) a2 δ).bind (fun y69_2 => (some y69_2))) else (if (a2).toInt = (1 : Int) then ((f_Fp_get (t5 + 1) a2 δ).bind (fun y69_1 => (some y69_1))) else (if (a2).toInt = (2 : Int) then ((f_Fp_get (t5 + 1) a2 δ).bind (fun y69 => (some y69))) else (if (a2).toInt = (3 : Int) then (some (gI δ t5 4)) else (if (a2).toInt = (4 : Int) then (some (gI δ t5 5)) else (if (a2).toInt = (5 : Int) then (some (gI δ t5 6)) else (if (a2).toInt = (6 : Int) then (some (gI δ t5 0)) else (if (a2).toInt = (7 : Int) then (some (gI δ t5 7)) else (some (-1 : Int32)))))))))) else none)))
set_option maxHeartbeats 4000000 in
set_option maxRecDepth 100000 in
theorem m_Fp_of {a1 : Int32} {a2 : Int32} {δ : Dm} {n : Nat} : ∀ x, f_Fp_of a1 a2 δ = some x → AMet k_Fp_of 3 0 0 [.ref 4, .int a1, .int a2] δ RT n (Kp δ RT n x) := by
  refine aw_start (lo := [(0, .ref 4), (1, .int a1), (2, .int a2)]) mok_Fp_of rfl (Nat.le_of_ble_eq_true rfl) ?_
  unfold f_Fp_of
  refine aw_aload_n d_Fp_of_0 0 rfl ?_
  refine aw_getR (t := 29) fl_Fp_57 kd_4 rt_4_9 d_Fp_of_1 ?_
  refine aw_iload_n d_Fp_of_4 1 rfl ?_
  refine aw_V_r (As := [.int a1]) (m_To_boothAt) cv_Fp_139 kd_29 rfl rfl rfl (Nat.le_of_ble_eq_true rfl) ⟨Nat.le_of_ble_eq_true rfl, Nat.le_of_ble_eq_true rfl⟩ ⟨Nat.le_refl _, Nat.le_refl _⟩ d_Fp_of_5 ?_ (fun t5 => ?_)
  · refine aw_astoreN_n (lo' := [(3, .null), (0, .ref 4), (1, .int a1), (2, .int a2)]) d_Fp_of_8 rfl (by decide) rfl ?_
    refine aw_aloadN_n d_Fp_of_9 0 rfl ?_
    refine aw_ifnonnullN d_Fp_of_10 ?_
    refine aw_iconst d_Fp_of_13 ki_m1 ?_
    exact aw_iret rfl rfl ⟨Nat.le_refl _, Nat.le_refl _⟩ d_Fp_of_14
  · refine aw_grd (fun ht5 => ?_)
    refine aw_astore_n (lo' := [(3, .ref t5), (0, .ref 4), (1, .int a1), (2, .int a2)]) d_Fp_of_8 rfl (by decide) rfl ?_
    refine aw_aload_n d_Fp_of_9 0 rfl ?_
    refine aw_ifnonnull (tgt := 15) d_Fp_of_10 rfl ?_
    refine aw_iload_n d_Fp_of_15 3 rfl ?_
    refine aw_ite (fun q16 => ?_) (fun q16_0 => ?_)
    · refine aw_tswitch (tgt := 64) d_Fp_of_16 q16 (by decide) (by decide) rfl rfl ?_
      refine aw_aload_n d_Fp_of_64 0 rfl ?_
      refine aw_getR (t := (t5 + 1)) fl_Fp_177 (fx_isBK ht5 0 (by decide)) (fx_isBR ht5 0 9 (by decide) (by decide)) d_Fp_of_65 ?_
      refine aw_iload_n d_Fp_of_68 3 rfl ?_
      refine aw_S_p (As := [.ref (t5 + 1), .int a2]) (m_Fp_get (congrArg Prod.fst (fx_isBK ht5 1 (by decide)))) cs_Fp_98 rfl rfl (Nat.le_of_ble_eq_true rfl) ⟨Nat.le_of_ble_eq_true rfl, Nat.le_of_ble_eq_true rfl⟩ ⟨Nat.le_refl _, Nat.le_refl _⟩ d_Fp_of_69 (fun y69_2 => ?_)
      exact aw_iret rfl rfl ⟨Nat.le_refl _, Nat.le_refl _⟩ d_Fp_of_72
    · refine aw_ite (fun q16 => ?_) (fun q16_1 => ?_)
      · refine aw_tswitch (tgt := 64) d_Fp_of_16 q16 (by decide) (by decide) rfl rfl ?_
        refine aw_aload_n d_Fp_of_64 0 rfl ?_
        refine aw_getR (t := (t5 + 1)) fl_Fp_177 (fx_isBK ht5 0 (by decide)) (fx_isBR ht5 0 9 (by decide) (by decide)) d_Fp_of_65 ?_
        refine aw_iload_n d_Fp_of_68 3 rfl ?_
        refine aw_S_p (As := [.ref (t5 + 1), .int a2]) (m_Fp_get (congrArg Prod.fst (fx_isBK ht5 1 (by decide)))) cs_Fp_98 rfl rfl (Nat.le_of_ble_eq_true rfl) ⟨Nat.le_of_ble_eq_true rfl, Nat.le_of_ble_eq_true rfl⟩ ⟨Nat.le_refl _, Nat.le_refl _⟩ d_Fp_of_69 (fun y69_1 => ?_)
        exact aw_iret rfl rfl ⟨Nat.le_refl _, Nat.le_refl _⟩ d_Fp_of_72
      · refine aw_ite (fun q16 => ?_) (fun q16_2 => ?_)
        · refine aw_tswitch (tgt := 64) d_Fp_of_16 q16 (by decide) (by decide) rfl rfl ?_
          refine aw_aload_n d_Fp_of_64 0 rfl ?_
          refine aw_getR (t := (t5 + 1)) fl_Fp_177 (fx_isBK ht5 0 (by decide)) (fx_isBR ht5 0 9 (by decide) (by decide)) d_Fp_of_65 ?_
          refine aw_iload_n d_Fp_of_68 3 rfl ?_
          refine aw_S_p (As := [.ref (t5 + 1), .int a2]) (m_Fp_get (congrArg Prod.fst (fx_isBK ht5 1 (by decide)))) cs_Fp_98 rfl rfl (Nat.le_of_ble_eq_true rfl) ⟨Nat.le_of_ble_eq_true rfl, Nat.le_of_ble_eq_true rfl⟩ ⟨Nat.le_refl _, Nat.le_refl _⟩ d_Fp_of_69 (fun y69 => ?_)
          exact aw_iret rfl rfl ⟨Nat.le_refl _, Nat.le_refl _⟩ d_Fp_of_72
        · refine aw_ite (fun q16 => ?_) (fun q16_3 => ?_)
          · refine aw_tswitch (tgt := 73) d_Fp_of_16 q16 (by decide) (by decide) rfl rfl ?_
            refine aw_aload_n d_Fp_of_73 0 rfl ?_
            refine aw_getI fl_Fp_145 (fx_isBK ht5 0 (by decide)) d_Fp_of_74 ?_
            exact aw_iret rfl rfl ⟨Nat.le_refl _, Nat.le_refl _⟩ d_Fp_of_77
          · refine aw_ite (fun q16 => ?_) (fun q16_4 => ?_)
            · refine aw_tswitch (tgt := 78) d_Fp_of_16 q16 (by decide) (by decide) rfl rfl ?_
              refine aw_aload_n d_Fp_of_78 0 rfl ?_
              refine aw_getI fl_Fp_171 (fx_isBK ht5 0 (by decide)) d_Fp_of_79 ?_
              exact aw_iret rfl rfl ⟨Nat.le_refl _, Nat.le_refl _⟩ d_Fp_of_82
            · refine aw_ite (fun q16 => ?_) (fun q16_5 => ?_)
              · refine aw_tswitch (tgt := 83) d_Fp_of_16 q16 (by decide) (by decide) rfl rfl ?_
                refine aw_aload_n d_Fp_of_83 0 rfl ?_
                refine aw_getI fl_Fp_168 (fx_isBK ht5 0 (by decide)) d_Fp_of_84 ?_
                exact aw_iret rfl rfl ⟨Nat.le_refl _, Nat.le_refl _⟩ d_Fp_of_87
              · refine aw_ite (fun q16 => ?_) (fun q16_6 => ?_)
                · refine aw_tswitch (tgt := 88) d_Fp_of_16 q16 (by decide) (by decide) rfl rfl ?_
                  refine aw_aload_n d_Fp_of_88 0 rfl ?_
                  refine aw_getI fl_Fp_142 (fx_isBK ht5 0 (by decide)) d_Fp_of_89 ?_
                  exact aw_iret rfl rfl ⟨Nat.le_refl _, Nat.le_refl _⟩ d_Fp_of_92
                · refine aw_ite (fun q16 => ?_) (fun q16_7 => ?_)
                  · refine aw_tswitch (tgt := 93) d_Fp_of_16 q16 (by decide) (by decide) rfl rfl ?_
                    refine aw_aload_n d_Fp_of_93 0 rfl ?_
                    refine aw_getI fl_Fp_209 (fx_isBK ht5 0 (by decide)) d_Fp_of_94 ?_
                    exact aw_iret rfl rfl ⟨Nat.le_refl _, Nat.le_refl _⟩ d_Fp_of_97
                  · refine aw_tdflt (tgt := 98) d_Fp_of_16 (by omega) rfl ?_
                    refine aw_iconst d_Fp_of_98 ki_m1 ?_
                    exact aw_iret rfl rfl ⟨Nat.le_refl _, Nat.le_refl _⟩ d_Fp_of_99
def jp_To_isBoothOrAll_13 (a1 : Int32) (δ : Dm) : Option Int32 := (some (1 : Int32))
set_option maxHeartbeats 4000000 in
set_option maxRecDepth 100000 in
theorem tj_To_isBoothOrAll_13 {n : Nat} (a1 : Int32) (δ : Dm) : AWo k_To_isBoothOrAll 3 0 0 13 [(0, .ref 29), (1, .int a1)] [] δ RT n 0 0 (Kp δ RT n) (jp_To_isBoothOrAll_13 a1 δ) := by
  unfold jp_To_isBoothOrAll_13
  refine aw_iconst d_To_isBoothOrAll_13 ki_1 ?_
  refine aw_goto (tgt := 18) d_To_isBoothOrAll_14 rfl ?_
  exact aw_zret rfl rfl rfl ⟨Nat.le_refl _, Nat.le_refl _⟩ d_To_isBoothOrAll_18
def f_To_isBoothOrAll (a1 : Int32) (δ : Dm) : Option Int32 := (if a1 = (-1 : Int32) then (jp_To_isBoothOrAll_13 a1 δ) else ((f_To_boothAt a1 δ).bind (fun o7 => ocs o7 (some (0 : Int32)) (fun t7 => if isB t7 = true then (jp_To_isBoothOrAll_13 a1 δ) else none))))
set_option maxHeartbeats 4000000 in
set_option maxRecDepth 100000 in
theorem m_To_isBoothOrAll {a1 : Int32} {δ : Dm} {n : Nat} : ∀ x, f_To_isBoothOrAll a1 δ = some x → AMet k_To_isBoothOrAll 3 0 0 [.ref 29, .int a1] δ RT n (Kp δ RT n x) := by
  refine aw_start (lo := [(0, .ref 29), (1, .int a1)]) mok_To_isBoothOrAll rfl (Nat.le_of_ble_eq_true rfl) ?_
  unfold f_To_isBoothOrAll
  refine aw_iload_n d_To_isBoothOrAll_0 1 rfl ?_
  refine aw_iconst d_To_isBoothOrAll_1 ki_m1 ?_
  refine aw_icmp_eq (tgt := 13) d_To_isBoothOrAll_2 rfl (fun q2 => ?_) (fun q2 => ?_)
  · refine aw_sub (lo' := [(0, .ref 29), (1, .int a1)]) [0, 1] rfl ?_
    exact tj_To_isBoothOrAll_13 _ _
  · refine aw_aload_n d_To_isBoothOrAll_5 0 rfl ?_
    refine aw_iload_n d_To_isBoothOrAll_6 1 rfl ?_
    refine aw_V_r (As := [.int a1]) (m_To_boothAt) cv_To_87 kd_29 rfl rfl rfl (Nat.le_of_ble_eq_true rfl) ⟨Nat.le_of_ble_eq_true rfl, Nat.le_of_ble_eq_true rfl⟩ ⟨Nat.le_refl _, Nat.le_refl _⟩ d_To_isBoothOrAll_7 ?_ (fun t7 => ?_)
    · refine aw_ifnullN (tgt := 17) d_To_isBoothOrAll_10 rfl ?_
      refine aw_iconst d_To_isBoothOrAll_17 ki_0 ?_
      exact aw_zret rfl rfl rfl ⟨Nat.le_refl _, Nat.le_refl _⟩ d_To_isBoothOrAll_18
    · refine aw_grd (fun ht7 => ?_)
      refine aw_ifnull d_To_isBoothOrAll_10 ?_
      refine aw_sub (lo' := [(0, .ref 29), (1, .int a1)]) [0, 1] rfl ?_
      exact tj_To_isBoothOrAll_13 _ _
def f_Fp_isSpoiler (a0 : Int32) (δ : Dm) : Option Int32 := ((f_Fp_within a0 (0 : Int32) (5 : Int32) δ).bind (fun y3 => (if y3 = 0 ∨ y3 = 1 then (some y3) else none)))
set_option maxHeartbeats 4000000 in
set_option maxRecDepth 100000 in
theorem m_Fp_isSpoiler {a0 : Int32} {δ : Dm} {n : Nat} : ∀ x, f_Fp_isSpoiler a0 δ = some x → AMet k_Fp_isSpoiler 2 0 0 [.int a0] δ RT n (Kp δ RT n x) := by
  refine aw_start (lo := [(0, .int a0)]) mok_Fp_isSpoiler rfl (Nat.le_of_ble_eq_true rfl) ?_
  unfold f_Fp_isSpoiler
  refine aw_iload_n d_Fp_isSpoiler_0 0 rfl ?_
  refine aw_iconst d_Fp_isSpoiler_1 ki_0 ?_
  refine aw_iconst d_Fp_isSpoiler_2 ki_5 ?_
  refine aw_S_p (As := [.int a0, .int (0 : Int32), .int (5 : Int32)]) (m_Fp_within) cs_Fp_70 rfl rfl (Nat.le_of_ble_eq_true rfl) ⟨Nat.le_of_ble_eq_true rfl, Nat.le_of_ble_eq_true rfl⟩ ⟨Nat.le_refl _, Nat.le_refl _⟩ d_Fp_isSpoiler_3 (fun y3 => ?_)
  exact aw_zr2 rfl rfl ⟨Nat.le_refl _, Nat.le_refl _⟩ d_Fp_isSpoiler_6
def jp_Di_isOf_17 (a1 : Int32) (a2 : Int32) (δ : Dm) : Option Int32 := (some (1 : Int32))
set_option maxHeartbeats 4000000 in
set_option maxRecDepth 100000 in
theorem tj_Di_isOf_17 {n : Nat} (a1 : Int32) (a2 : Int32) (δ : Dm) : AWo k_Di_isOf 2 0 0 17 [(0, .ref 34), (1, .int a1), (2, .int a2)] [] δ RT n 0 0 (Kp δ RT n) (jp_Di_isOf_17 a1 a2 δ) := by
  unfold jp_Di_isOf_17
  refine aw_iconst d_Di_isOf_17 ki_1 ?_
  refine aw_goto (tgt := 22) d_Di_isOf_18 rfl ?_
  exact aw_zret rfl rfl rfl ⟨Nat.le_refl _, Nat.le_refl _⟩ d_Di_isOf_22
def f_Di_isOf (a1 : Int32) (a2 : Int32) (δ : Dm) : Option Int32 := (if a2 = (-1 : Int32) then (jp_Di_isOf_17 a1 a2 δ) else ((f_Fp_get 35 a1 δ).bind (fun y10 => (if y10 = a2 then (jp_Di_isOf_17 a1 a2 δ) else (some (0 : Int32))))))
set_option maxHeartbeats 4000000 in
set_option maxRecDepth 100000 in
theorem m_Di_isOf {a1 : Int32} {a2 : Int32} {δ : Dm} {n : Nat} : ∀ x, f_Di_isOf a1 a2 δ = some x → AMet k_Di_isOf 2 0 0 [.ref 34, .int a1, .int a2] δ RT n (Kp δ RT n x) := by
  refine aw_start (lo := [(0, .ref 34), (1, .int a1), (2, .int a2)]) mok_Di_isOf rfl (Nat.le_of_ble_eq_true rfl) ?_
  unfold f_Di_isOf
  refine aw_iload_n d_Di_isOf_0 2 rfl ?_
  refine aw_iconst d_Di_isOf_1 ki_m1 ?_
  refine aw_icmp_eq (tgt := 17) d_Di_isOf_2 rfl (fun q2 => ?_) (fun q2 => ?_)
  · refine aw_sub (lo' := [(0, .ref 34), (1, .int a1), (2, .int a2)]) [0, 1, 2] rfl ?_
    exact tj_Di_isOf_17 _ _ _
  · refine aw_aload_n d_Di_isOf_5 0 rfl ?_
    refine aw_getR (t := 35) fl_Di_11 kd_34 rt_34_3 d_Di_isOf_6 ?_
    refine aw_iload_n d_Di_isOf_9 1 rfl ?_
    refine aw_SN_p (As := [.ref 35, .int a1]) (m_Fp_get (congrArg Prod.fst kd_35)) cs_Di_64 rfl rfl (Nat.le_of_ble_eq_true rfl) ⟨Nat.le_of_ble_eq_true rfl, Nat.le_of_ble_eq_true rfl⟩ ⟨Nat.le_refl _, Nat.le_refl _⟩ d_Di_isOf_10 (fun y10 => ?_)
    refine aw_iload_n d_Di_isOf_13 2 rfl ?_
    refine aw_icmp_ne (tgt := 21) d_Di_isOf_14 rfl (fun q14 => ?_) (fun q14 => ?_)
    · refine aw_sub (lo' := [(0, .ref 34), (1, .int a1), (2, .int a2)]) [0, 1, 2] rfl ?_
      exact tj_Di_isOf_17 _ _ _
    · refine aw_iconst d_Di_isOf_21 ki_0 ?_
      exact aw_zret rfl rfl rfl ⟨Nat.le_refl _, Nat.le_refl _⟩ d_Di_isOf_22
def lp_Fp_spoilt_34 (kx34_75 : Int32 → Int32 → Option Int32) (a1 : Int32) (a2 : Int32) (δ : Dm) : Nat → Int32 → Int32 → Option Int32
  | 0, _, _ => none
  | f + 1, v4_34, v5_34 => (if (gI δ 34 0) ≤ v5_34 then (kx34_75 v4_34 v5_34) else ((f_Di_isOf v5_34 a1 δ).bind (fun y47 => (if y47 = 0 then (lp_Fp_spoilt_34 kx34_75 a1 a2 δ f v4_34 (v5_34 + (1 : Int32))) else ((f_Fp_get 37 v5_34 δ).bind (fun y59 => (if y59 = a2 then (lp_Fp_spoilt_34 kx34_75 a1 a2 δ f (v4_34 + (1 : Int32)) (v5_34 + (1 : Int32))) else (lp_Fp_spoilt_34 kx34_75 a1 a2 δ f v4_34 (v5_34 + (1 : Int32))))))))))
set_option maxHeartbeats 4000000 in
set_option maxRecDepth 100000 in
theorem tl_Fp_spoilt_34 {n : Nat} (kx34_75 : Int32 → Int32 → Option Int32) (a1 : Int32) (a2 : Int32) (δ : Dm) (hkx34_75 : ∀ v4_34k v5_34k, AWo k_Fp_spoilt 4 0 0 75 [(0, .ref 4), (1, .int a1), (2, .int a2), (3, .ref 34), (4, .int v4_34k), (5, .int v5_34k)] [] δ RT n 0 0 (Kp δ RT n) (kx34_75 v4_34k v5_34k)) : ∀ (f : Nat) (v4_34 : Int32) (v5_34 : Int32), AWo k_Fp_spoilt 4 0 0 34 [(0, .ref 4), (1, .int a1), (2, .int a2), (3, .ref 34), (4, .int v4_34), (5, .int v5_34)] [] δ RT n 0 0 (Kp δ RT n) (lp_Fp_spoilt_34 kx34_75 a1 a2 δ f v4_34 v5_34) := by
  intro f
  induction f with
  | zero => intro _ _; exact aw_none
  | succ f ih =>
    intro v4_34 v5_34
    rw [lp_Fp_spoilt_34]
    refine aw_iload d_Fp_spoilt_34 5 rfl ?_
    refine aw_aload_n d_Fp_spoilt_36 3 rfl ?_
    refine aw_getI fl_Fp_152 kd_34 d_Fp_spoilt_37 ?_
    refine aw_icmp_ge (tgt := 75) d_Fp_spoilt_40 rfl (fun q40 => ?_) (fun q40 => ?_)
    · refine aw_sub (lo' := [(0, .ref 4), (1, .int a1), (2, .int a2), (3, .ref 34), (4, .int v4_34), (5, .int v5_34)]) [0, 1, 2, 3, 4, 5] rfl ?_
      exact hkx34_75 _ _
    · refine aw_aload_n d_Fp_spoilt_43 3 rfl ?_
      refine aw_iload d_Fp_spoilt_44 5 rfl ?_
      refine aw_iload_n d_Fp_spoilt_46 1 rfl ?_
      refine aw_V_p (As := [.int v5_34, .int a1]) (m_Di_isOf) cv_Fp_224 kd_34 rfl rfl rfl (Nat.le_of_ble_eq_true rfl) ⟨Nat.le_of_ble_eq_true rfl, Nat.le_of_ble_eq_true rfl⟩ ⟨Nat.le_refl _, Nat.le_refl _⟩ d_Fp_spoilt_47 (fun y47 => ?_)
      refine aw_if_eq (tgt := 69) d_Fp_spoilt_50 rfl (fun q50 => ?_) (fun q50 => ?_)
      · refine aw_iinc (v := (v5_34 + (1 : Int32))) (lo' := [(5, .int (v5_34 + (1 : Int32))), (0, .ref 4), (1, .int a1), (2, .int a2), (3, .ref 34), (4, .int v4_34)]) d_Fp_spoilt_69 5 rfl (by rw [show Int32.ofInt (1) = (1 : Int32) from by decide]) (by decide) rfl ?_
        refine aw_goto (tgt := 34) d_Fp_spoilt_72 rfl ?_
        refine aw_sub (lo' := [(0, .ref 4), (1, .int a1), (2, .int a2), (3, .ref 34), (4, .int v4_34), (5, .int (v5_34 + (1 : Int32)))]) [1, 2, 3, 4, 5, 0] rfl ?_
        exact ih _ _
      · refine aw_aload_n d_Fp_spoilt_53 3 rfl ?_
        refine aw_getR (t := 37) fl_Fp_228 kd_34 rt_34_5 d_Fp_spoilt_54 ?_
        refine aw_iload d_Fp_spoilt_57 5 rfl ?_
        refine aw_S_p (As := [.ref 37, .int v5_34]) (m_Fp_get (congrArg Prod.fst kd_37)) cs_Fp_98 rfl rfl (Nat.le_of_ble_eq_true rfl) ⟨Nat.le_of_ble_eq_true rfl, Nat.le_of_ble_eq_true rfl⟩ ⟨Nat.le_refl _, Nat.le_refl _⟩ d_Fp_spoilt_59 (fun y59 => ?_)
        refine aw_iload_n d_Fp_spoilt_62 2 rfl ?_
        refine aw_icmp_ne (tgt := 69) d_Fp_spoilt_63 rfl (fun q63 => ?_) (fun q63 => ?_)
        · refine aw_iinc (v := (v4_34 + (1 : Int32))) (lo' := [(4, .int (v4_34 + (1 : Int32))), (0, .ref 4), (1, .int a1), (2, .int a2), (3, .ref 34), (5, .int v5_34)]) d_Fp_spoilt_66 4 rfl (by rw [show Int32.ofInt (1) = (1 : Int32) from by decide]) (by decide) rfl ?_
          refine aw_iinc (v := (v5_34 + (1 : Int32))) (lo' := [(5, .int (v5_34 + (1 : Int32))), (4, .int (v4_34 + (1 : Int32))), (0, .ref 4), (1, .int a1), (2, .int a2), (3, .ref 34)]) d_Fp_spoilt_69 5 rfl (by rw [show Int32.ofInt (1) = (1 : Int32) from by decide]) (by decide) rfl ?_
          refine aw_goto (tgt := 34) d_Fp_spoilt_72 rfl ?_
          refine aw_sub (lo' := [(0, .ref 4), (1, .int a1), (2, .int a2), (3, .ref 34), (4, .int (v4_34 + (1 : Int32))), (5, .int (v5_34 + (1 : Int32)))]) [2, 3, 4, 5, 1, 0] rfl ?_
          exact ih _ _
        · refine aw_iinc (v := (v5_34 + (1 : Int32))) (lo' := [(5, .int (v5_34 + (1 : Int32))), (0, .ref 4), (1, .int a1), (2, .int a2), (3, .ref 34), (4, .int v4_34)]) d_Fp_spoilt_69 5 rfl (by rw [show Int32.ofInt (1) = (1 : Int32) from by decide]) (by decide) rfl ?_
          refine aw_goto (tgt := 34) d_Fp_spoilt_72 rfl ?_
          refine aw_sub (lo' := [(0, .ref 4), (1, .int a1), (2, .int a2), (3, .ref 34), (4, .int v4_34), (5, .int (v5_34 + (1 : Int32)))]) [1, 2, 3, 4, 5, 0] rfl ?_
          exact ih _ _
def f_Fp_spoilt (a1 : Int32) (a2 : Int32) (δ : Dm) : Option Int32 := ((f_To_isBoothOrAll a1 δ).bind (fun y5 => (if y5 = 0 then (some (-1 : Int32)) else ((f_Fp_isSpoiler a2 δ).bind (fun y12 => (if y12 = 0 then (some (-1 : Int32)) else (lp_Fp_spoilt_34 (fun v4_34x v5_34x => (some v4_34x)) a1 a2 δ FU (0 : Int32) (0 : Int32))))))))
set_option maxHeartbeats 4000000 in
set_option maxRecDepth 100000 in
theorem m_Fp_spoilt {a1 : Int32} {a2 : Int32} {δ : Dm} {n : Nat} : ∀ x, f_Fp_spoilt a1 a2 δ = some x → AMet k_Fp_spoilt 4 0 0 [.ref 4, .int a1, .int a2] δ RT n (Kp δ RT n x) := by
  refine aw_start (lo := [(0, .ref 4), (1, .int a1), (2, .int a2)]) mok_Fp_spoilt rfl (Nat.le_of_ble_eq_true rfl) ?_
  unfold f_Fp_spoilt
  refine aw_aload_n d_Fp_spoilt_0 0 rfl ?_
  refine aw_getR (t := 29) fl_Fp_57 kd_4 rt_4_9 d_Fp_spoilt_1 ?_
  refine aw_iload_n d_Fp_spoilt_4 1 rfl ?_
  refine aw_V_p (As := [.int a1]) (m_To_isBoothOrAll) cv_Fp_218 kd_29 rfl rfl rfl (Nat.le_of_ble_eq_true rfl) ⟨Nat.le_of_ble_eq_true rfl, Nat.le_of_ble_eq_true rfl⟩ ⟨Nat.le_refl _, Nat.le_refl _⟩ d_Fp_spoilt_5 (fun y5 => ?_)
  refine aw_if_eq (tgt := 18) d_Fp_spoilt_8 rfl (fun q8 => ?_) (fun q8 => ?_)
  · refine aw_iconst d_Fp_spoilt_18 ki_m1 ?_
    exact aw_iret rfl rfl ⟨Nat.le_refl _, Nat.le_refl _⟩ d_Fp_spoilt_19
  · refine aw_iload_n d_Fp_spoilt_11 2 rfl ?_
    refine aw_S_p (As := [.int a2]) (m_Fp_isSpoiler) cs_Fp_221 rfl rfl (Nat.le_of_ble_eq_true rfl) ⟨Nat.le_of_ble_eq_true rfl, Nat.le_of_ble_eq_true rfl⟩ ⟨Nat.le_refl _, Nat.le_refl _⟩ d_Fp_spoilt_12 (fun y12 => ?_)
    refine aw_if_ne (tgt := 20) d_Fp_spoilt_15 rfl (fun q15 => ?_) (fun q15 => ?_)
    · refine aw_iconst d_Fp_spoilt_18 ki_m1 ?_
      exact aw_iret rfl rfl ⟨Nat.le_refl _, Nat.le_refl _⟩ d_Fp_spoilt_19
    · refine aw_aload_n d_Fp_spoilt_20 0 rfl ?_
      refine aw_getR (t := 29) fl_Fp_57 kd_4 rt_4_9 d_Fp_spoilt_21 ?_
      refine aw_getR (t := 34) fl_Fp_148 kd_29 rt_29_7 d_Fp_spoilt_24 ?_
      refine aw_astore_n (lo' := [(3, .ref 34), (0, .ref 4), (1, .int a1), (2, .int a2)]) d_Fp_spoilt_27 rfl (by decide) rfl ?_
      refine aw_iconst d_Fp_spoilt_28 ki_0 ?_
      refine aw_istore (lo' := [(4, .int (0 : Int32)), (3, .ref 34), (0, .ref 4), (1, .int a1), (2, .int a2)]) d_Fp_spoilt_29 (by decide) rfl ?_
      refine aw_iconst d_Fp_spoilt_31 ki_0 ?_
      refine aw_istore (lo' := [(5, .int (0 : Int32)), (4, .int (0 : Int32)), (3, .ref 34), (0, .ref 4), (1, .int a1), (2, .int a2)]) d_Fp_spoilt_32 (by decide) rfl ?_
      refine aw_sub (lo' := [(0, .ref 4), (1, .int a1), (2, .int a2), (3, .ref 34), (4, .int (0 : Int32)), (5, .int (0 : Int32))]) [3, 4, 5, 2, 1, 0] rfl ?_
      refine tl_Fp_spoilt_34 _ _ _ _ (fun v4_34x v5_34x => ?_) FU _ _
      · refine aw_iload d_Fp_spoilt_75 4 rfl ?_
        exact aw_iret rfl rfl ⟨Nat.le_refl _, Nat.le_refl _⟩ d_Fp_spoilt_77
def f_Rp_openStrip (a1 : Nat) (a2 : Int32) (δ : Dm) : Option Dm := ((f_Fp_get 36 a2 δ).bind (fun y15 => ((f_Fa_open a1 y15 δ).bind (fun y18 => ((f_Fp_get 38 a2 y18).bind (fun y28 => ((f_Fp_get 39 a2 y18).bind (fun y37 => ((f_Fa_pose y28 y37 y18).bind (fun y40 => ((f_Fp_get 40 a2 y40).bind (fun y50 => ((f_Fp_get 41 a2 y40).bind (fun y59 => ((f_Fa_till y50 y59 y40).bind (fun y62 => (some y62)))))))))))))))))
set_option maxHeartbeats 4000000 in
set_option maxRecDepth 100000 in
theorem m_Rp_openStrip {a1 : Nat} {a2 : Int32} {δ : Dm} {n : Nat} (ha1 : isB a1 = true) : ∀ x, f_Rp_openStrip a1 a2 δ = some x → AMet k_Rp_openStrip 3 0 0 [.ref 29, .ref a1, .int a2, .ref 19] δ RT n (Kv RT n x) := by
  refine aw_start (lo := [(0, .ref 29), (1, .ref a1), (2, .int a2), (3, .ref 19)]) mok_Rp_openStrip rfl (Nat.le_of_ble_eq_true rfl) ?_
  unfold f_Rp_openStrip
  refine aw_aload_n d_Rp_openStrip_0 0 rfl ?_
  refine aw_getR (t := 34) fl_Rp_24 kd_29 rt_29_7 d_Rp_openStrip_1 ?_
  refine aw_astore (lo' := [(4, .ref 34), (0, .ref 29), (1, .ref a1), (2, .int a2), (3, .ref 19)]) d_Rp_openStrip_4 (by decide) rfl ?_
  refine aw_aload_n d_Rp_openStrip_6 4 rfl ?_
  refine aw_aload_n d_Rp_openStrip_7 1 rfl ?_
  refine aw_aload_n d_Rp_openStrip_8 2 rfl ?_
  refine aw_aload d_Rp_openStrip_9 0 rfl ?_
  refine aw_getR (t := 36) fl_Rp_61 kd_34 rt_34_4 d_Rp_openStrip_11 ?_
  refine aw_iload_n d_Rp_openStrip_14 3 rfl ?_
  refine aw_SN_p (As := [.ref 36, .int a2]) (m_Fp_get (congrArg Prod.fst kd_36)) cs_Rp_64 rfl rfl (Nat.le_of_ble_eq_true rfl) ⟨Nat.le_of_ble_eq_true rfl, Nat.le_of_ble_eq_true rfl⟩ ⟨Nat.le_refl _, Nat.le_refl _⟩ d_Rp_openStrip_15 (fun y15 => ?_)
  refine aw_V_v (As := [.ref 29, .ref a1, .int y15]) (m_Fa_open ha1) cv_Rp_68 kd_19 rfl rfl rfl (Nat.le_of_ble_eq_true rfl) ⟨Nat.le_of_ble_eq_true rfl, Nat.le_of_ble_eq_true rfl⟩ ⟨Nat.le_refl _, Nat.le_refl _⟩ d_Rp_openStrip_18 (fun y18 => ?_)
  refine aw_aload_n d_Rp_openStrip_21 4 rfl ?_
  refine aw_aload d_Rp_openStrip_22 0 rfl ?_
  refine aw_getR (t := 38) fl_Rp_74 kd_34 rt_34_6 d_Rp_openStrip_24 ?_
  refine aw_iload_n d_Rp_openStrip_27 3 rfl ?_
  refine aw_SN_p (As := [.ref 38, .int a2]) (m_Fp_get (congrArg Prod.fst kd_38)) cs_Rp_64 rfl rfl (Nat.le_of_ble_eq_true rfl) ⟨Nat.le_of_ble_eq_true rfl, Nat.le_of_ble_eq_true rfl⟩ ⟨Nat.le_refl _, Nat.le_refl _⟩ d_Rp_openStrip_28 (fun y28 => ?_)
  refine aw_aload d_Rp_openStrip_31 0 rfl ?_
  refine aw_getR (t := 39) fl_Rp_77 kd_34 rt_34_7 d_Rp_openStrip_33 ?_
  refine aw_iload_n d_Rp_openStrip_36 3 rfl ?_
  refine aw_SN_p (As := [.ref 39, .int a2]) (m_Fp_get (congrArg Prod.fst kd_39)) cs_Rp_64 rfl rfl (Nat.le_of_ble_eq_true rfl) ⟨Nat.le_of_ble_eq_true rfl, Nat.le_of_ble_eq_true rfl⟩ ⟨Nat.le_refl _, Nat.le_refl _⟩ d_Rp_openStrip_37 (fun y37 => ?_)
  refine aw_V_v (As := [.int y28, .int y37]) (m_Fa_pose) cv_Rp_80 kd_19 rfl rfl rfl (Nat.le_of_ble_eq_true rfl) ⟨Nat.le_of_ble_eq_true rfl, Nat.le_of_ble_eq_true rfl⟩ ⟨Nat.le_refl _, Nat.le_refl _⟩ d_Rp_openStrip_40 (fun y40 => ?_)
  refine aw_aload_n d_Rp_openStrip_43 4 rfl ?_
  refine aw_aload d_Rp_openStrip_44 0 rfl ?_
  refine aw_getR (t := 40) fl_Rp_84 kd_34 rt_34_8 d_Rp_openStrip_46 ?_
  refine aw_iload_n d_Rp_openStrip_49 3 rfl ?_
  refine aw_SN_p (As := [.ref 40, .int a2]) (m_Fp_get (congrArg Prod.fst kd_40)) cs_Rp_64 rfl rfl (Nat.le_of_ble_eq_true rfl) ⟨Nat.le_of_ble_eq_true rfl, Nat.le_of_ble_eq_true rfl⟩ ⟨Nat.le_refl _, Nat.le_refl _⟩ d_Rp_openStrip_50 (fun y50 => ?_)
  refine aw_aload d_Rp_openStrip_53 0 rfl ?_
  refine aw_getR (t := 41) fl_Rp_87 kd_34 rt_34_9 d_Rp_openStrip_55 ?_
  refine aw_iload_n d_Rp_openStrip_58 3 rfl ?_
  refine aw_SN_p (As := [.ref 41, .int a2]) (m_Fp_get (congrArg Prod.fst kd_41)) cs_Rp_64 rfl rfl (Nat.le_of_ble_eq_true rfl) ⟨Nat.le_of_ble_eq_true rfl, Nat.le_of_ble_eq_true rfl⟩ ⟨Nat.le_refl _, Nat.le_refl _⟩ d_Rp_openStrip_59 (fun y59 => ?_)
  refine aw_V_v (As := [.int y50, .int y59]) (m_Fa_till) cv_Rp_90 kd_19 rfl rfl rfl (Nat.le_of_ble_eq_true rfl) ⟨Nat.le_of_ble_eq_true rfl, Nat.le_of_ble_eq_true rfl⟩ ⟨Nat.le_refl _, Nat.le_refl _⟩ d_Rp_openStrip_62 (fun y62 => ?_)
  exact aw_vret rfl rfl ⟨Nat.le_refl _, Nat.le_refl _⟩ d_Rp_openStrip_65
def jp_Rp_mark_39 (a1 : Int32) (a2 : Int32) (a3 : Int32) (v3 : Int32) (v18 : Int32) (δ : Dm) (s0_39 : Int32) : Option Dm := ((f_Fp_put 23 a1 s0_39 δ).bind (fun y39 => (some y39)))
set_option maxHeartbeats 4000000 in
set_option maxRecDepth 100000 in
theorem tj_Rp_mark_39 {n : Nat} (a1 : Int32) (a2 : Int32) (a3 : Int32) (v3 : Int32) (v18 : Int32) (δ : Dm) (s0_39 : Int32) : AWo k_Rp_mark 2 0 0 39 [(0, .ref 22), (1, .int a1), (2, .int a2), (3, .int a3), (4, .int v3), (5, .int v18)] [.int s0_39, .int a1, .ref 23] δ RT n 0 0 (Kv RT n) (jp_Rp_mark_39 a1 a2 a3 v3 v18 δ s0_39) := by
  unfold jp_Rp_mark_39
  refine aw_SN_v (As := [.ref 23, .int a1, .int s0_39]) (m_Fp_put (congrArg Prod.fst kd_23)) cs_Rp_48 rfl rfl (Nat.le_of_ble_eq_true rfl) ⟨Nat.le_of_ble_eq_true rfl, Nat.le_of_ble_eq_true rfl⟩ ⟨Nat.le_refl _, Nat.le_refl _⟩ d_Rp_mark_39 (fun y39 => ?_)
  exact aw_vret rfl rfl ⟨Nat.le_refl _, Nat.le_refl _⟩ d_Rp_mark_42
def f_Rp_mark (a1 : Int32) (a2 : Int32) (a3 : Int32) (δ : Dm) : Option Dm := (bnd ((1 : Int32) <<< (a2 &&& 31)) (fun v3 => ((f_Fp_get 23 a1 δ).bind (fun y10 => (bnd (y10 &&& (v3 ^^^ (-1 : Int32))) (fun v18 => (if a3 = 0 then (jp_Rp_mark_39 a1 a2 a3 v3 v18 δ v18) else (jp_Rp_mark_39 a1 a2 a3 v3 v18 δ (v18 ||| v3)))))))))
set_option maxHeartbeats 4000000 in
set_option maxRecDepth 100000 in
theorem m_Rp_mark {a1 : Int32} {a2 : Int32} {a3 : Int32} {δ : Dm} {n : Nat} : ∀ x, f_Rp_mark a1 a2 a3 δ = some x → AMet k_Rp_mark 2 0 0 [.ref 22, .int a1, .int a2, .int a3] δ RT n (Kv RT n x) := by
  refine aw_start (lo := [(0, .ref 22), (1, .int a1), (2, .int a2), (3, .int a3)]) mok_Rp_mark rfl (Nat.le_of_ble_eq_true rfl) ?_
  unfold f_Rp_mark
  refine aw_iconst d_Rp_mark_0 ki_1 ?_
  refine aw_iload_n d_Rp_mark_1 2 rfl ?_
  refine aw_ishl d_Rp_mark_2 ?_
  refine aw_bI (fun v3 => ?_)
  refine aw_istore (lo' := [(4, .int v3), (0, .ref 22), (1, .int a1), (2, .int a2), (3, .int a3)]) d_Rp_mark_3 (by decide) rfl ?_
  refine aw_aload_n d_Rp_mark_5 1 rfl ?_
  refine aw_getR (t := 23) fl_Rp_9 kd_22 rt_22_0 d_Rp_mark_6 ?_
  refine aw_iload_n d_Rp_mark_9 2 rfl ?_
  refine aw_SN_p (As := [.ref 23, .int a1]) (m_Fp_get (congrArg Prod.fst kd_23)) cs_Rp_64 rfl rfl (Nat.le_of_ble_eq_true rfl) ⟨Nat.le_of_ble_eq_true rfl, Nat.le_of_ble_eq_true rfl⟩ ⟨Nat.le_refl _, Nat.le_refl _⟩ d_Rp_mark_10 (fun y10 => ?_)
  refine aw_iload d_Rp_mark_13 0 rfl ?_
  refine aw_iconst d_Rp_mark_15 ki_m1 ?_
  refine aw_ixor d_Rp_mark_16 ?_
  refine aw_iand d_Rp_mark_17 ?_
  refine aw_bI (fun v18 => ?_)
  refine aw_istore (lo' := [(5, .int v18), (4, .int v3), (0, .ref 22), (1, .int a1), (2, .int a2), (3, .int a3)]) d_Rp_mark_18 (by decide) rfl ?_
  refine aw_aload_n d_Rp_mark_20 2 rfl ?_
  refine aw_getR (t := 23) fl_Rp_9 kd_22 rt_22_0 d_Rp_mark_21 ?_
  refine aw_iload_n d_Rp_mark_24 3 rfl ?_
  refine aw_iload_n d_Rp_mark_25 5 rfl ?_
  refine aw_if_eq (tgt := 37) d_Rp_mark_26 rfl (fun q26 => ?_) (fun q26 => ?_)
  · refine aw_iload d_Rp_mark_37 0 rfl ?_
    refine aw_sub (lo' := [(0, .ref 22), (1, .int a1), (2, .int a2), (3, .int a3), (4, .int v3), (5, .int v18)]) [2, 3, 4, 5, 1, 0] rfl ?_
    exact tj_Rp_mark_39 _ _ _ _ _ _ _
  · refine aw_iload d_Rp_mark_29 0 rfl ?_
    refine aw_iload d_Rp_mark_31 1 rfl ?_
    refine aw_ior d_Rp_mark_33 ?_
    refine aw_goto (tgt := 39) d_Rp_mark_34 rfl ?_
    refine aw_sub (lo' := [(0, .ref 22), (1, .int a1), (2, .int a2), (3, .int a3), (4, .int v3), (5, .int v18)]) [2, 3, 4, 5, 1, 0] rfl ?_
    exact tj_Rp_mark_39 _ _ _ _ _ _ _
def jp_Rp_runBath_186 (kr37 : Int32 → Int32 → Int32 → Int32 → Int32 → Dm → Option Dm) (kx37_254 : Int32 → Int32 → Int32 → Int32 → Int32 → Dm → Option Dm) (a2 : Int32) (a3 : Nat) (a4 : Int32) (a5 : Int32) (t2 : Nat) (v10_37 : Int32) (v11_37 : Int32) (v12_76x : Int32) (v13_37 : Int32) (y71 : Int32) (y129 : Int32) (v9_186 : Int32) (δ186 : Dm) : Option Dm := ((f_Fp_get 40 y129 δ186).bind (fun y193 => (bnd (y193 + (1 : Int32)) (fun v198 => ((f_Fp_get 41 y129 δ186).bind (fun y207 => (bnd (y207 + (gI δ186 t2 1)) (fun v216 => (kr37 v9_186 v198 v216 v12_76x (v13_37 + (1 : Int32)) δ186)))))))))
set_option maxHeartbeats 4000000 in
set_option maxRecDepth 100000 in
theorem tj_Rp_runBath_186 {n : Nat} (kr37 : Int32 → Int32 → Int32 → Int32 → Int32 → Dm → Option Dm) (kx37_254 : Int32 → Int32 → Int32 → Int32 → Int32 → Dm → Option Dm) (a2 : Int32) (a3 : Nat) (a4 : Int32) (a5 : Int32) (t2 : Nat) (v10_37 : Int32) (v11_37 : Int32) (v12_76x : Int32) (v13_37 : Int32) (y71 : Int32) (y129 : Int32) (v9_186 : Int32) (δ186 : Dm) (ha3 : isL a3 = true) (ht2 : isB t2 = true) (hkr37 : ∀ v9_37k v10_37k v11_37k v12_37k v13_37k δ37k, AWo k_Rp_runBath 5 0 0 37 [(0, .ref 22), (1, .ref 29), (2, .int a2), (3, .ref a3), (4, .int a4), (5, .int a5), (6, .ref 19), (7, .ref t2), (8, .ref 34), (9, .int v9_37k), (10, .int v10_37k), (11, .int v11_37k), (12, .int v12_37k), (13, .int v13_37k)] [] δ37k RT n 0 0 (Kv RT n) (kr37 v9_37k v10_37k v11_37k v12_37k v13_37k δ37k)) (hkx37_254 : ∀ v9_37k v10_37k v11_37k v12_37k v13_37k δ37k, AWo k_Rp_runBath 5 0 0 254 [(0, .ref 22), (1, .ref 29), (2, .int a2), (3, .ref a3), (4, .int a4), (5, .int a5), (6, .ref 19), (7, .ref t2), (8, .ref 34), (9, .int v9_37k), (10, .int v10_37k), (11, .int v11_37k), (12, .int v12_37k), (13, .int v13_37k)] [] δ37k RT n 0 0 (Kv RT n) (kx37_254 v9_37k v10_37k v11_37k v12_37k v13_37k δ37k)) : AWo k_Rp_runBath 5 0 0 186 [(0, .ref 22), (1, .ref 29), (2, .int a2), (3, .ref a3), (4, .int a4), (5, .int a5), (6, .ref 19), (7, .ref t2), (8, .ref 34), (9, .int v9_186), (10, .int v10_37), (11, .int v11_37), (12, .int v12_76x), (13, .int v13_37), (14, .int y71), (15, .int y129)] [] δ186 RT n 0 0 (Kv RT n) (jp_Rp_runBath_186 kr37 kx37_254 a2 a3 a4 a5 t2 v10_37 v11_37 v12_76x v13_37 y71 y129 v9_186 δ186) := by
  unfold jp_Rp_runBath_186
  refine aw_aload d_Rp_runBath_186 8 rfl ?_
  refine aw_getR (t := 40) fl_Rp_84 kd_34 rt_34_8 d_Rp_runBath_188 ?_
  refine aw_iload d_Rp_runBath_191 15 rfl ?_
  refine aw_SN_p (As := [.ref 40, .int y129]) (m_Fp_get (congrArg Prod.fst kd_40)) cs_Rp_64 rfl rfl (Nat.le_of_ble_eq_true rfl) ⟨Nat.le_of_ble_eq_true rfl, Nat.le_of_ble_eq_true rfl⟩ ⟨Nat.le_refl _, Nat.le_refl _⟩ d_Rp_runBath_193 (fun y193 => ?_)
  refine aw_iconst d_Rp_runBath_196 ki_1 ?_
  refine aw_iadd d_Rp_runBath_197 ?_
  refine aw_bI (fun v198 => ?_)
  refine aw_istore (lo' := [(10, .int v198), (0, .ref 22), (1, .ref 29), (2, .int a2), (3, .ref a3), (4, .int a4), (5, .int a5), (6, .ref 19), (7, .ref t2), (8, .ref 34), (9, .int v9_186), (11, .int v11_37), (12, .int v12_76x), (13, .int v13_37), (14, .int y71), (15, .int y129)]) d_Rp_runBath_198 (by decide) rfl ?_
  refine aw_aload d_Rp_runBath_200 9 rfl ?_
  refine aw_getR (t := 41) fl_Rp_87 kd_34 rt_34_9 d_Rp_runBath_202 ?_
  refine aw_iload d_Rp_runBath_205 15 rfl ?_
  refine aw_SN_p (As := [.ref 41, .int y129]) (m_Fp_get (congrArg Prod.fst kd_41)) cs_Rp_64 rfl rfl (Nat.le_of_ble_eq_true rfl) ⟨Nat.le_of_ble_eq_true rfl, Nat.le_of_ble_eq_true rfl⟩ ⟨Nat.le_refl _, Nat.le_refl _⟩ d_Rp_runBath_207 (fun y207 => ?_)
  refine aw_aload d_Rp_runBath_210 8 rfl ?_
  refine aw_getI fl_Rp_118 (fx_isBK ht2 0 (by decide)) d_Rp_runBath_212 ?_
  refine aw_iadd d_Rp_runBath_215 ?_
  refine aw_bI (fun v216 => ?_)
  refine aw_istore (lo' := [(11, .int v216), (10, .int v198), (0, .ref 22), (1, .ref 29), (2, .int a2), (3, .ref a3), (4, .int a4), (5, .int a5), (6, .ref 19), (7, .ref t2), (8, .ref 34), (9, .int v9_186), (12, .int v12_76x), (13, .int v13_37), (14, .int y71), (15, .int y129)]) d_Rp_runBath_216 (by decide) rfl ?_
  refine aw_goto (tgt := 248) d_Rp_runBath_218 rfl ?_
  refine aw_iinc (v := (v13_37 + (1 : Int32))) (lo' := [(13, .int (v13_37 + (1 : Int32))), (11, .int v216), (10, .int v198), (0, .ref 22), (1, .ref 29), (2, .int a2), (3, .ref a3), (4, .int a4), (5, .int a5), (6, .ref 19), (7, .ref t2), (8, .ref 34), (9, .int v9_186), (12, .int v12_76x), (14, .int y71), (15, .int y129)]) d_Rp_runBath_248 13 rfl (by rw [show Int32.ofInt (1) = (1 : Int32) from by decide]) (by decide) rfl ?_
  refine aw_goto (tgt := 37) d_Rp_runBath_251 rfl ?_
  refine aw_sub (lo' := [(0, .ref 22), (1, .ref 29), (2, .int a2), (3, .ref a3), (4, .int a4), (5, .int a5), (6, .ref 19), (7, .ref t2), (8, .ref 34), (9, .int v9_186), (10, .int v198), (11, .int v216), (12, .int v12_76x), (13, .int (v13_37 + (1 : Int32)))]) [3, 4, 5, 6, 7, 8, 9, 10, 11, 12, 2, 1, 13, 0] rfl ?_
  exact hkr37 _ _ _ _ _ _
def lp_Rp_runBath_76 (kx76_122 : Int32 → Int32 → Dm → Option Dm) (a2 : Int32) (a3 : Nat) (a4 : Int32) (a5 : Int32) (t2 : Nat) (v10_37 : Int32) (v11_37 : Int32) (v13_37 : Int32) (y71 : Int32) : Nat → Int32 → Int32 → Dm → Option Dm
  | 0, _, _, _ => none
  | f + 1, v9_76, v12_76, δ76 => (if y71 ≤ v12_76 then (kx76_122 v9_76 v12_76 δ76) else ((f_Fa_open t2 v12_76 δ76).bind (fun y90 => ((f_Fa_till v10_37 v11_37 y90).bind (fun y99 => ((f_La_worn a3 (10 : Int32) a4 v9_76 y99).bind (fun y111 => bnd y111.1 (fun v111 => bnd y111.2 (fun δ_111 => (lp_Rp_runBath_76 kx76_122 a2 a3 a4 a5 t2 v10_37 v11_37 v13_37 y71 f v111 (v12_76 + (1 : Int32)) δ_111))))))))))
set_option maxHeartbeats 4000000 in
set_option maxRecDepth 100000 in
theorem tl_Rp_runBath_76 {n : Nat} (kx76_122 : Int32 → Int32 → Dm → Option Dm) (a2 : Int32) (a3 : Nat) (a4 : Int32) (a5 : Int32) (t2 : Nat) (v10_37 : Int32) (v11_37 : Int32) (v13_37 : Int32) (y71 : Int32) (ha3 : isL a3 = true) (ht2 : isB t2 = true) (hkx76_122 : ∀ v9_76k v12_76k δ76k, AWo k_Rp_runBath 5 0 0 122 [(0, .ref 22), (1, .ref 29), (2, .int a2), (3, .ref a3), (4, .int a4), (5, .int a5), (6, .ref 19), (7, .ref t2), (8, .ref 34), (9, .int v9_76k), (10, .int v10_37), (11, .int v11_37), (12, .int v12_76k), (13, .int v13_37), (14, .int y71)] [] δ76k RT n 0 0 (Kv RT n) (kx76_122 v9_76k v12_76k δ76k)) : ∀ (f : Nat) (v9_76 : Int32) (v12_76 : Int32) (δ76 : Dm), AWo k_Rp_runBath 5 0 0 76 [(0, .ref 22), (1, .ref 29), (2, .int a2), (3, .ref a3), (4, .int a4), (5, .int a5), (6, .ref 19), (7, .ref t2), (8, .ref 34), (9, .int v9_76), (10, .int v10_37), (11, .int v11_37), (12, .int v12_76), (13, .int v13_37), (14, .int y71)] [] δ76 RT n 0 0 (Kv RT n) (lp_Rp_runBath_76 kx76_122 a2 a3 a4 a5 t2 v10_37 v11_37 v13_37 y71 f v9_76 v12_76 δ76) := by
  intro f
  induction f with
  | zero => intro _ _ _; exact aw_none
  | succ f ih =>
    intro v9_76 v12_76 δ76
    rw [lp_Rp_runBath_76]
    refine aw_iload d_Rp_runBath_76 12 rfl ?_
    refine aw_iload d_Rp_runBath_78 14 rfl ?_
    refine aw_icmp_ge (tgt := 122) d_Rp_runBath_80 rfl (fun q80 => ?_) (fun q80 => ?_)
    · refine aw_sub (lo' := [(0, .ref 22), (1, .ref 29), (2, .int a2), (3, .ref a3), (4, .int a4), (5, .int a5), (6, .ref 19), (7, .ref t2), (8, .ref 34), (9, .int v9_76), (10, .int v10_37), (11, .int v11_37), (12, .int v12_76), (13, .int v13_37), (14, .int y71)]) [0, 1, 2, 3, 4, 5, 6, 7, 8, 9, 10, 11, 12, 13, 14] rfl ?_
      exact hkx76_122 _ _ _
    · refine aw_aload d_Rp_runBath_83 6 rfl ?_
      refine aw_aload_n d_Rp_runBath_85 1 rfl ?_
      refine aw_aload d_Rp_runBath_86 7 rfl ?_
      refine aw_iload d_Rp_runBath_88 12 rfl ?_
      refine aw_V_v (As := [.ref 29, .ref t2, .int v12_76]) (m_Fa_open ht2) cv_Rp_68 kd_19 rfl rfl rfl (Nat.le_of_ble_eq_true rfl) ⟨Nat.le_of_ble_eq_true rfl, Nat.le_of_ble_eq_true rfl⟩ ⟨Nat.le_refl _, Nat.le_refl _⟩ d_Rp_runBath_90 (fun y90 => ?_)
      refine aw_aload d_Rp_runBath_93 6 rfl ?_
      refine aw_iload d_Rp_runBath_95 10 rfl ?_
      refine aw_iload d_Rp_runBath_97 11 rfl ?_
      refine aw_V_v (As := [.int v10_37, .int v11_37]) (m_Fa_till) cv_Rp_90 kd_19 rfl rfl rfl (Nat.le_of_ble_eq_true rfl) ⟨Nat.le_of_ble_eq_true rfl, Nat.le_of_ble_eq_true rfl⟩ ⟨Nat.le_refl _, Nat.le_refl _⟩ d_Rp_runBath_99 (fun y99 => ?_)
      refine aw_aload_n d_Rp_runBath_102 3 rfl ?_
      refine aw_bipush d_Rp_runBath_103 kb_10 ?_
      refine aw_iload d_Rp_runBath_105 4 rfl ?_
      refine aw_iload d_Rp_runBath_107 9 rfl ?_
      refine aw_aload d_Rp_runBath_109 6 rfl ?_
      refine aw_V_m (As := [.int (10 : Int32), .int a4, .int v9_76, .ref 19]) (m_La_worn ha3) cv_Rp_104 (fx_isLK ha3 0 (by decide)) rfl rfl rfl (Nat.le_of_ble_eq_true rfl) ⟨Nat.le_of_ble_eq_true rfl, Nat.le_of_ble_eq_true rfl⟩ ⟨Nat.le_refl _, Nat.le_refl _⟩ d_Rp_runBath_111 (fun y111 => ?_)
      refine aw_bI (fun v111 => ?_)
      refine aw_bD (fun δ_111 => ?_)
      refine aw_istore (lo' := [(9, .int v111), (0, .ref 22), (1, .ref 29), (2, .int a2), (3, .ref a3), (4, .int a4), (5, .int a5), (6, .ref 19), (7, .ref t2), (8, .ref 34), (10, .int v10_37), (11, .int v11_37), (12, .int v12_76), (13, .int v13_37), (14, .int y71)]) d_Rp_runBath_114 (by decide) rfl ?_
      refine aw_iinc (v := (v12_76 + (1 : Int32))) (lo' := [(12, .int (v12_76 + (1 : Int32))), (9, .int v111), (0, .ref 22), (1, .ref 29), (2, .int a2), (3, .ref a3), (4, .int a4), (5, .int a5), (6, .ref 19), (7, .ref t2), (8, .ref 34), (10, .int v10_37), (11, .int v11_37), (13, .int v13_37), (14, .int y71)]) d_Rp_runBath_116 12 rfl (by rw [show Int32.ofInt (1) = (1 : Int32) from by decide]) (by decide) rfl ?_
      refine aw_goto (tgt := 76) d_Rp_runBath_119 rfl ?_
      refine aw_sub (lo' := [(0, .ref 22), (1, .ref 29), (2, .int a2), (3, .ref a3), (4, .int a4), (5, .int a5), (6, .ref 19), (7, .ref t2), (8, .ref 34), (9, .int v111), (10, .int v10_37), (11, .int v11_37), (12, .int (v12_76 + (1 : Int32))), (13, .int v13_37), (14, .int y71)]) [2, 3, 4, 5, 6, 7, 8, 9, 10, 1, 11, 12, 0, 13, 14] rfl ?_
      exact ih _ _ _
def lp_Rp_runBath_37 (kx37_254 : Int32 → Int32 → Int32 → Int32 → Int32 → Dm → Option Dm) (a2 : Int32) (a3 : Nat) (a4 : Int32) (a5 : Int32) (t2 : Nat) : Nat → Int32 → Int32 → Int32 → Int32 → Int32 → Dm → Option Dm
  | 0, _, _, _, _, _, _ => none
  | f + 1, v9_37, v10_37, v11_37, v12_37, v13_37, δ37 => (if (gI δ37 34 2) ≤ v13_37 then (kx37_254 v9_37 v10_37 v11_37 v12_37 v13_37 δ37) else ((f_Fp_get 42 v13_37 δ37).bind (fun y54 => (if y54 = a2 then ((f_Fp_get 43 v13_37 δ37).bind (fun y71 => (lp_Rp_runBath_76 (fun v9_76x v12_76x δ76x => ((f_Fp_get 44 v13_37 δ76x).bind (fun y129 => (if y129 < 0 then (if y129 = (-4 : Int32) then (lp_Rp_runBath_37 kx37_254 a2 a3 a4 a5 t2 f v9_76x v10_37 (0 : Int32) v12_76x (v13_37 + (1 : Int32)) δ76x) else (if y129 = ((-1 : Int32) - a4) then (lp_Rp_runBath_37 kx37_254 a2 a3 a4 a5 t2 f (1000 : Int32) v10_37 v11_37 v12_76x (v13_37 + (1 : Int32)) δ76x) else (lp_Rp_runBath_37 kx37_254 a2 a3 a4 a5 t2 f v9_76x v10_37 v11_37 v12_76x (v13_37 + (1 : Int32)) δ76x))) else (if y71 < a5 then (jp_Rp_runBath_186 (lp_Rp_runBath_37 kx37_254 a2 a3 a4 a5 t2 f) kx37_254 a2 a3 a4 a5 t2 v10_37 v11_37 v12_76x v13_37 y71 y129 v9_76x δ76x) else ((f_Rp_openStrip t2 y129 δ76x).bind (fun y153 => ((f_La_isWeak a3 a4 v9_76x y153).bind (fun y166 => ((f_Rp_mark y129 a4 y166 y153).bind (fun y169 => ((f_La_worn a3 (9 : Int32) a4 v9_76x y169).bind (fun y181 => bnd y181.1 (fun v181 => bnd y181.2 (fun δ_181 => (jp_Rp_runBath_186 (lp_Rp_runBath_37 kx37_254 a2 a3 a4 a5 t2 f) kx37_254 a2 a3 a4 a5 t2 v10_37 v11_37 v12_76x v13_37 y71 y129 v181 δ_181)))))))))))))))) a2 a3 a4 a5 t2 v10_37 v11_37 v13_37 y71 FU v9_37 v12_37 δ37))) else (lp_Rp_runBath_37 kx37_254 a2 a3 a4 a5 t2 f v9_37 v10_37 v11_37 v12_37 (v13_37 + (1 : Int32)) δ37)))))
set_option maxHeartbeats 4000000 in
set_option maxRecDepth 100000 in
theorem tl_Rp_runBath_37 {n : Nat} (kx37_254 : Int32 → Int32 → Int32 → Int32 → Int32 → Dm → Option Dm) (a2 : Int32) (a3 : Nat) (a4 : Int32) (a5 : Int32) (t2 : Nat) (ha3 : isL a3 = true) (ht2 : isB t2 = true) (hkx37_254 : ∀ v9_37k v10_37k v11_37k v12_37k v13_37k δ37k, AWo k_Rp_runBath 5 0 0 254 [(0, .ref 22), (1, .ref 29), (2, .int a2), (3, .ref a3), (4, .int a4), (5, .int a5), (6, .ref 19), (7, .ref t2), (8, .ref 34), (9, .int v9_37k), (10, .int v10_37k), (11, .int v11_37k), (12, .int v12_37k), (13, .int v13_37k)] [] δ37k RT n 0 0 (Kv RT n) (kx37_254 v9_37k v10_37k v11_37k v12_37k v13_37k δ37k)) : ∀ (f : Nat) (v9_37 : Int32) (v10_37 : Int32) (v11_37 : Int32) (v12_37 : Int32) (v13_37 : Int32) (δ37 : Dm), AWo k_Rp_runBath 5 0 0 37 [(0, .ref 22), (1, .ref 29), (2, .int a2), (3, .ref a3), (4, .int a4), (5, .int a5), (6, .ref 19), (7, .ref t2), (8, .ref 34), (9, .int v9_37), (10, .int v10_37), (11, .int v11_37), (12, .int v12_37), (13, .int v13_37)] [] δ37 RT n 0 0 (Kv RT n) (lp_Rp_runBath_37 kx37_254 a2 a3 a4 a5 t2 f v9_37 v10_37 v11_37 v12_37 v13_37 δ37) := by
  intro f
  induction f with
  | zero => intro _ _ _ _ _ _; exact aw_none
  | succ f ih =>
    intro v9_37 v10_37 v11_37 v12_37 v13_37 δ37
    rw [lp_Rp_runBath_37]
    refine aw_iload d_Rp_runBath_37 13 rfl ?_
    refine aw_aload d_Rp_runBath_39 8 rfl ?_
    refine aw_getI fl_Rp_93 kd_34 d_Rp_runBath_41 ?_
    refine aw_icmp_ge (tgt := 254) d_Rp_runBath_44 rfl (fun q44 => ?_) (fun q44 => ?_)
    · refine aw_sub (lo' := [(0, .ref 22), (1, .ref 29), (2, .int a2), (3, .ref a3), (4, .int a4), (5, .int a5), (6, .ref 19), (7, .ref t2), (8, .ref 34), (9, .int v9_37), (10, .int v10_37), (11, .int v11_37), (12, .int v12_37), (13, .int v13_37)]) [0, 1, 2, 3, 4, 5, 6, 7, 8, 9, 10, 11, 12, 13] rfl ?_
      exact hkx37_254 _ _ _ _ _ _
    · refine aw_aload d_Rp_runBath_47 8 rfl ?_
      refine aw_getR (t := 42) fl_Rp_96 kd_34 rt_34_10 d_Rp_runBath_49 ?_
      refine aw_iload d_Rp_runBath_52 13 rfl ?_
      refine aw_SN_p (As := [.ref 42, .int v13_37]) (m_Fp_get (congrArg Prod.fst kd_42)) cs_Rp_64 rfl rfl (Nat.le_of_ble_eq_true rfl) ⟨Nat.le_of_ble_eq_true rfl, Nat.le_of_ble_eq_true rfl⟩ ⟨Nat.le_refl _, Nat.le_refl _⟩ d_Rp_runBath_54 (fun y54 => ?_)
      refine aw_iload_n d_Rp_runBath_57 2 rfl ?_
      refine aw_icmp_eq (tgt := 64) d_Rp_runBath_58 rfl (fun q58 => ?_) (fun q58 => ?_)
      · refine aw_aload d_Rp_runBath_64 8 rfl ?_
        refine aw_getR (t := 43) fl_Rp_99 kd_34 rt_34_11 d_Rp_runBath_66 ?_
        refine aw_iload d_Rp_runBath_69 13 rfl ?_
        refine aw_SN_p (As := [.ref 43, .int v13_37]) (m_Fp_get (congrArg Prod.fst kd_43)) cs_Rp_64 rfl rfl (Nat.le_of_ble_eq_true rfl) ⟨Nat.le_of_ble_eq_true rfl, Nat.le_of_ble_eq_true rfl⟩ ⟨Nat.le_refl _, Nat.le_refl _⟩ d_Rp_runBath_71 (fun y71 => ?_)
        refine aw_istore (lo' := [(14, .int y71), (0, .ref 22), (1, .ref 29), (2, .int a2), (3, .ref a3), (4, .int a4), (5, .int a5), (6, .ref 19), (7, .ref t2), (8, .ref 34), (9, .int v9_37), (10, .int v10_37), (11, .int v11_37), (12, .int v12_37), (13, .int v13_37)]) d_Rp_runBath_74 (by decide) rfl ?_
        refine aw_sub (lo' := [(0, .ref 22), (1, .ref 29), (2, .int a2), (3, .ref a3), (4, .int a4), (5, .int a5), (6, .ref 19), (7, .ref t2), (8, .ref 34), (9, .int v9_37), (10, .int v10_37), (11, .int v11_37), (12, .int v12_37), (13, .int v13_37), (14, .int y71)]) [1, 2, 3, 4, 5, 6, 7, 8, 9, 10, 11, 12, 13, 14, 0] rfl ?_
        refine tl_Rp_runBath_76 _ _ _ _ _ _ _ _ _ _ ha3 ht2 (fun v9_76x v12_76x δ76x => ?_) FU _ _ _
        · refine aw_aload d_Rp_runBath_122 8 rfl ?_
          refine aw_getR (t := 44) fl_Rp_108 kd_34 rt_34_12 d_Rp_runBath_124 ?_
          refine aw_iload d_Rp_runBath_127 13 rfl ?_
          refine aw_SN_p (As := [.ref 44, .int v13_37]) (m_Fp_get (congrArg Prod.fst kd_44)) cs_Rp_64 rfl rfl (Nat.le_of_ble_eq_true rfl) ⟨Nat.le_of_ble_eq_true rfl, Nat.le_of_ble_eq_true rfl⟩ ⟨Nat.le_refl _, Nat.le_refl _⟩ d_Rp_runBath_129 (fun y129 => ?_)
          refine aw_istore (lo' := [(15, .int y129), (0, .ref 22), (1, .ref 29), (2, .int a2), (3, .ref a3), (4, .int a4), (5, .int a5), (6, .ref 19), (7, .ref t2), (8, .ref 34), (9, .int v9_76x), (10, .int v10_37), (11, .int v11_37), (12, .int v12_76x), (13, .int v13_37), (14, .int y71)]) d_Rp_runBath_132 (by decide) rfl ?_
          refine aw_iload d_Rp_runBath_134 0 rfl ?_
          refine aw_if_lt (tgt := 221) d_Rp_runBath_136 rfl (fun q136 => ?_) (fun q136 => ?_)
          · refine aw_iload d_Rp_runBath_221 0 rfl ?_
            refine aw_bipush d_Rp_runBath_223 kb_m4 ?_
            refine aw_icmp_ne (tgt := 234) d_Rp_runBath_225 rfl (fun q225 => ?_) (fun q225 => ?_)
            · refine aw_iconst d_Rp_runBath_228 ki_0 ?_
              refine aw_istore (lo' := [(11, .int (0 : Int32)), (15, .int y129), (0, .ref 22), (1, .ref 29), (2, .int a2), (3, .ref a3), (4, .int a4), (5, .int a5), (6, .ref 19), (7, .ref t2), (8, .ref 34), (9, .int v9_76x), (10, .int v10_37), (12, .int v12_76x), (13, .int v13_37), (14, .int y71)]) d_Rp_runBath_229 (by decide) rfl ?_
              refine aw_goto (tgt := 248) d_Rp_runBath_231 rfl ?_
              refine aw_iinc (v := (v13_37 + (1 : Int32))) (lo' := [(13, .int (v13_37 + (1 : Int32))), (11, .int (0 : Int32)), (15, .int y129), (0, .ref 22), (1, .ref 29), (2, .int a2), (3, .ref a3), (4, .int a4), (5, .int a5), (6, .ref 19), (7, .ref t2), (8, .ref 34), (9, .int v9_76x), (10, .int v10_37), (12, .int v12_76x), (14, .int y71)]) d_Rp_runBath_248 14 rfl (by rw [show Int32.ofInt (1) = (1 : Int32) from by decide]) (by decide) rfl ?_
              refine aw_goto (tgt := 37) d_Rp_runBath_251 rfl ?_
              refine aw_sub (lo' := [(0, .ref 22), (1, .ref 29), (2, .int a2), (3, .ref a3), (4, .int a4), (5, .int a5), (6, .ref 19), (7, .ref t2), (8, .ref 34), (9, .int v9_76x), (10, .int v10_37), (11, .int (0 : Int32)), (12, .int v12_76x), (13, .int (v13_37 + (1 : Int32)))]) [3, 4, 5, 6, 7, 8, 9, 10, 11, 12, 13, 1, 14, 0] rfl ?_
              exact ih _ _ _ _ _ _
            · refine aw_iload d_Rp_runBath_234 0 rfl ?_
              refine aw_iconst d_Rp_runBath_236 ki_m1 ?_
              refine aw_iload d_Rp_runBath_237 5 rfl ?_
              refine aw_isub d_Rp_runBath_239 ?_
              refine aw_icmp_ne (tgt := 248) d_Rp_runBath_240 rfl (fun q240 => ?_) (fun q240 => ?_)
              · refine aw_sipush d_Rp_runBath_243 ks_1000 ?_
                refine aw_istore (lo' := [(9, .int (1000 : Int32)), (15, .int y129), (0, .ref 22), (1, .ref 29), (2, .int a2), (3, .ref a3), (4, .int a4), (5, .int a5), (6, .ref 19), (7, .ref t2), (8, .ref 34), (10, .int v10_37), (11, .int v11_37), (12, .int v12_76x), (13, .int v13_37), (14, .int y71)]) d_Rp_runBath_246 (by decide) rfl ?_
                refine aw_iinc (v := (v13_37 + (1 : Int32))) (lo' := [(13, .int (v13_37 + (1 : Int32))), (9, .int (1000 : Int32)), (15, .int y129), (0, .ref 22), (1, .ref 29), (2, .int a2), (3, .ref a3), (4, .int a4), (5, .int a5), (6, .ref 19), (7, .ref t2), (8, .ref 34), (10, .int v10_37), (11, .int v11_37), (12, .int v12_76x), (14, .int y71)]) d_Rp_runBath_248 14 rfl (by rw [show Int32.ofInt (1) = (1 : Int32) from by decide]) (by decide) rfl ?_
                refine aw_goto (tgt := 37) d_Rp_runBath_251 rfl ?_
                refine aw_sub (lo' := [(0, .ref 22), (1, .ref 29), (2, .int a2), (3, .ref a3), (4, .int a4), (5, .int a5), (6, .ref 19), (7, .ref t2), (8, .ref 34), (9, .int (1000 : Int32)), (10, .int v10_37), (11, .int v11_37), (12, .int v12_76x), (13, .int (v13_37 + (1 : Int32)))]) [3, 4, 5, 6, 7, 8, 9, 10, 11, 1, 12, 13, 14, 0] rfl ?_
                exact ih _ _ _ _ _ _
              · refine aw_iinc (v := (v13_37 + (1 : Int32))) (lo' := [(13, .int (v13_37 + (1 : Int32))), (15, .int y129), (0, .ref 22), (1, .ref 29), (2, .int a2), (3, .ref a3), (4, .int a4), (5, .int a5), (6, .ref 19), (7, .ref t2), (8, .ref 34), (9, .int v9_76x), (10, .int v10_37), (11, .int v11_37), (12, .int v12_76x), (14, .int y71)]) d_Rp_runBath_248 14 rfl (by rw [show Int32.ofInt (1) = (1 : Int32) from by decide]) (by decide) rfl ?_
                refine aw_goto (tgt := 37) d_Rp_runBath_251 rfl ?_
                refine aw_sub (lo' := [(0, .ref 22), (1, .ref 29), (2, .int a2), (3, .ref a3), (4, .int a4), (5, .int a5), (6, .ref 19), (7, .ref t2), (8, .ref 34), (9, .int v9_76x), (10, .int v10_37), (11, .int v11_37), (12, .int v12_76x), (13, .int (v13_37 + (1 : Int32)))]) [2, 3, 4, 5, 6, 7, 8, 9, 10, 11, 12, 13, 14, 0] rfl ?_
                exact ih _ _ _ _ _ _
          · refine aw_iload d_Rp_runBath_139 15 rfl ?_
            refine aw_iload d_Rp_runBath_141 6 rfl ?_
            refine aw_icmp_lt (tgt := 186) d_Rp_runBath_143 rfl (fun q143 => ?_) (fun q143 => ?_)
            · refine aw_sub (lo' := [(0, .ref 22), (1, .ref 29), (2, .int a2), (3, .ref a3), (4, .int a4), (5, .int a5), (6, .ref 19), (7, .ref t2), (8, .ref 34), (9, .int v9_76x), (10, .int v10_37), (11, .int v11_37), (12, .int v12_76x), (13, .int v13_37), (14, .int y71), (15, .int y129)]) [1, 2, 3, 4, 5, 6, 7, 8, 9, 10, 11, 12, 13, 14, 15, 0] rfl ?_
              exact tj_Rp_runBath_186 _ _ _ _ _ _ _ _ _ _ _ _ _ _ _ ha3 ht2 ih hkx37_254
            · refine aw_aload_n d_Rp_runBath_146 2 rfl ?_
              refine aw_aload d_Rp_runBath_147 8 rfl ?_
              refine aw_iload d_Rp_runBath_149 0 rfl ?_
              refine aw_aload d_Rp_runBath_151 7 rfl ?_
              refine aw_S_v (As := [.ref 29, .ref t2, .int y129, .ref 19]) (m_Rp_openStrip ht2) cs_Rp_38 rfl rfl (Nat.le_of_ble_eq_true rfl) ⟨Nat.le_of_ble_eq_true rfl, Nat.le_of_ble_eq_true rfl⟩ ⟨Nat.le_refl _, Nat.le_refl _⟩ d_Rp_runBath_153 (fun y153 => ?_)
              refine aw_aload_n d_Rp_runBath_156 1 rfl ?_
              refine aw_iload d_Rp_runBath_157 0 rfl ?_
              refine aw_iload d_Rp_runBath_159 5 rfl ?_
              refine aw_aload_n d_Rp_runBath_161 4 rfl ?_
              refine aw_iload d_Rp_runBath_162 5 rfl ?_
              refine aw_iload d_Rp_runBath_164 10 rfl ?_
              refine aw_V_p (As := [.int a4, .int v9_76x]) (m_La_isWeak ha3) cv_Rp_111 (fx_isLK ha3 0 (by decide)) rfl rfl rfl (Nat.le_of_ble_eq_true rfl) ⟨Nat.le_of_ble_eq_true rfl, Nat.le_of_ble_eq_true rfl⟩ ⟨Nat.le_refl _, Nat.le_refl _⟩ d_Rp_runBath_166 (fun y166 => ?_)
              refine aw_V_v (As := [.int y129, .int a4, .int y166]) (m_Rp_mark) cv_Rp_114 kd_22 rfl rfl rfl (Nat.le_of_ble_eq_true rfl) ⟨Nat.le_of_ble_eq_true rfl, Nat.le_of_ble_eq_true rfl⟩ ⟨Nat.le_refl _, Nat.le_refl _⟩ d_Rp_runBath_169 (fun y169 => ?_)
              refine aw_aload_n d_Rp_runBath_172 4 rfl ?_
              refine aw_bipush d_Rp_runBath_173 kb_9 ?_
              refine aw_iload d_Rp_runBath_175 5 rfl ?_
              refine aw_iload d_Rp_runBath_177 10 rfl ?_
              refine aw_aload d_Rp_runBath_179 7 rfl ?_
              refine aw_V_m (As := [.int (9 : Int32), .int a4, .int v9_76x, .ref 19]) (m_La_worn ha3) cv_Rp_104 (fx_isLK ha3 0 (by decide)) rfl rfl rfl (Nat.le_of_ble_eq_true rfl) ⟨Nat.le_of_ble_eq_true rfl, Nat.le_of_ble_eq_true rfl⟩ ⟨Nat.le_refl _, Nat.le_refl _⟩ d_Rp_runBath_181 (fun y181 => ?_)
              refine aw_bI (fun v181 => ?_)
              refine aw_bD (fun δ_181 => ?_)
              refine aw_istore (lo' := [(9, .int v181), (15, .int y129), (0, .ref 22), (1, .ref 29), (2, .int a2), (3, .ref a3), (4, .int a4), (5, .int a5), (6, .ref 19), (7, .ref t2), (8, .ref 34), (10, .int v10_37), (11, .int v11_37), (12, .int v12_76x), (13, .int v13_37), (14, .int y71)]) d_Rp_runBath_184 (by decide) rfl ?_
              refine aw_sub (lo' := [(0, .ref 22), (1, .ref 29), (2, .int a2), (3, .ref a3), (4, .int a4), (5, .int a5), (6, .ref 19), (7, .ref t2), (8, .ref 34), (9, .int v181), (10, .int v10_37), (11, .int v11_37), (12, .int v12_76x), (13, .int v13_37), (14, .int y71), (15, .int y129)]) [2, 3, 4, 5, 6, 7, 8, 9, 10, 0, 11, 12, 13, 14, 15, 1] rfl ?_
              exact tj_Rp_runBath_186 _ _ _ _ _ _ _ _ _ _ _ _ _ _ _ ha3 ht2 ih hkx37_254
      · refine aw_goto (tgt := 248) d_Rp_runBath_61 rfl ?_
        refine aw_iinc (v := (v13_37 + (1 : Int32))) (lo' := [(13, .int (v13_37 + (1 : Int32))), (0, .ref 22), (1, .ref 29), (2, .int a2), (3, .ref a3), (4, .int a4), (5, .int a5), (6, .ref 19), (7, .ref t2), (8, .ref 34), (9, .int v9_37), (10, .int v10_37), (11, .int v11_37), (12, .int v12_37)]) d_Rp_runBath_248 13 rfl (by rw [show Int32.ofInt (1) = (1 : Int32) from by decide]) (by decide) rfl ?_
        refine aw_goto (tgt := 37) d_Rp_runBath_251 rfl ?_
        refine aw_sub (lo' := [(0, .ref 22), (1, .ref 29), (2, .int a2), (3, .ref a3), (4, .int a4), (5, .int a5), (6, .ref 19), (7, .ref t2), (8, .ref 34), (9, .int v9_37), (10, .int v10_37), (11, .int v11_37), (12, .int v12_37), (13, .int (v13_37 + (1 : Int32)))]) [1, 2, 3, 4, 5, 6, 7, 8, 9, 10, 11, 12, 13, 0] rfl ?_
        exact ih _ _ _ _ _ _
def f_Rp_runBath (a2 : Int32) (a3 : Nat) (a4 : Int32) (a5 : Int32) (δ : Dm) : Option Dm := ((f_To_boothAt a2 δ).bind (fun o2 => ocs o2 (some δ) (fun t2 => if isB t2 = true then (lp_Rp_runBath_37 (fun v9_37x v10_37x v11_37x v12_37x v13_37x δ37x => (some δ37x)) a2 a3 a4 a5 t2 FU (1000 : Int32) (0 : Int32) (0 : Int32) a5 (0 : Int32) δ) else none)))
set_option maxHeartbeats 4000000 in
set_option maxRecDepth 100000 in
theorem m_Rp_runBath {a2 : Int32} {a3 : Nat} {a4 : Int32} {a5 : Int32} {δ : Dm} {n : Nat} (ha3 : isL a3 = true) : ∀ x, f_Rp_runBath a2 a3 a4 a5 δ = some x → AMet k_Rp_runBath 5 0 0 [.ref 22, .ref 29, .int a2, .ref a3, .int a4, .int a5, .ref 19] δ RT n (Kv RT n x) := by
  refine aw_start (lo := [(0, .ref 22), (1, .ref 29), (2, .int a2), (3, .ref a3), (4, .int a4), (5, .int a5), (6, .ref 19)]) mok_Rp_runBath rfl (Nat.le_of_ble_eq_true rfl) ?_
  unfold f_Rp_runBath
  refine aw_aload_n d_Rp_runBath_0 1 rfl ?_
  refine aw_iload_n d_Rp_runBath_1 2 rfl ?_
  refine aw_V_r (As := [.int a2]) (m_To_boothAt) cv_Rp_18 kd_29 rfl rfl rfl (Nat.le_of_ble_eq_true rfl) ⟨Nat.le_of_ble_eq_true rfl, Nat.le_of_ble_eq_true rfl⟩ ⟨Nat.le_refl _, Nat.le_refl _⟩ d_Rp_runBath_2 ?_ (fun t2 => ?_)
  · refine aw_astoreN (lo' := [(7, .null), (0, .ref 22), (1, .ref 29), (2, .int a2), (3, .ref a3), (4, .int a4), (5, .int a5), (6, .ref 19)]) d_Rp_runBath_5 (by decide) rfl ?_
    refine aw_aloadN d_Rp_runBath_7 0 rfl ?_
    refine aw_ifnonnullN d_Rp_runBath_9 ?_
    exact aw_vret rfl rfl ⟨Nat.le_refl _, Nat.le_refl _⟩ d_Rp_runBath_12
  · refine aw_grd (fun ht2 => ?_)
    refine aw_astore (lo' := [(7, .ref t2), (0, .ref 22), (1, .ref 29), (2, .int a2), (3, .ref a3), (4, .int a4), (5, .int a5), (6, .ref 19)]) d_Rp_runBath_5 (by decide) rfl ?_
    refine aw_aload d_Rp_runBath_7 0 rfl ?_
    refine aw_ifnonnull (tgt := 13) d_Rp_runBath_9 rfl ?_
    refine aw_aload_n d_Rp_runBath_13 2 rfl ?_
    refine aw_getR (t := 34) fl_Rp_24 kd_29 rt_29_7 d_Rp_runBath_14 ?_
    refine aw_astore (lo' := [(8, .ref 34), (7, .ref t2), (0, .ref 22), (1, .ref 29), (2, .int a2), (3, .ref a3), (4, .int a4), (5, .int a5), (6, .ref 19)]) d_Rp_runBath_17 (by decide) rfl ?_
    refine aw_sipush d_Rp_runBath_19 ks_1000 ?_
    refine aw_istore (lo' := [(9, .int (1000 : Int32)), (8, .ref 34), (7, .ref t2), (0, .ref 22), (1, .ref 29), (2, .int a2), (3, .ref a3), (4, .int a4), (5, .int a5), (6, .ref 19)]) d_Rp_runBath_22 (by decide) rfl ?_
    refine aw_iconst d_Rp_runBath_24 ki_0 ?_
    refine aw_istore (lo' := [(10, .int (0 : Int32)), (9, .int (1000 : Int32)), (8, .ref 34), (7, .ref t2), (0, .ref 22), (1, .ref 29), (2, .int a2), (3, .ref a3), (4, .int a4), (5, .int a5), (6, .ref 19)]) d_Rp_runBath_25 (by decide) rfl ?_
    refine aw_iconst d_Rp_runBath_27 ki_0 ?_
    refine aw_istore (lo' := [(11, .int (0 : Int32)), (10, .int (0 : Int32)), (9, .int (1000 : Int32)), (8, .ref 34), (7, .ref t2), (0, .ref 22), (1, .ref 29), (2, .int a2), (3, .ref a3), (4, .int a4), (5, .int a5), (6, .ref 19)]) d_Rp_runBath_28 (by decide) rfl ?_
    refine aw_iload d_Rp_runBath_30 10 rfl ?_
    refine aw_istore (lo' := [(12, .int a5), (11, .int (0 : Int32)), (10, .int (0 : Int32)), (9, .int (1000 : Int32)), (8, .ref 34), (7, .ref t2), (0, .ref 22), (1, .ref 29), (2, .int a2), (3, .ref a3), (4, .int a4), (5, .int a5), (6, .ref 19)]) d_Rp_runBath_32 (by decide) rfl ?_
    refine aw_iconst d_Rp_runBath_34 ki_0 ?_
    refine aw_istore (lo' := [(13, .int (0 : Int32)), (12, .int a5), (11, .int (0 : Int32)), (10, .int (0 : Int32)), (9, .int (1000 : Int32)), (8, .ref 34), (7, .ref t2), (0, .ref 22), (1, .ref 29), (2, .int a2), (3, .ref a3), (4, .int a4), (5, .int a5), (6, .ref 19)]) d_Rp_runBath_35 (by decide) rfl ?_
    refine aw_sub (lo' := [(0, .ref 22), (1, .ref 29), (2, .int a2), (3, .ref a3), (4, .int a4), (5, .int a5), (6, .ref 19), (7, .ref t2), (8, .ref 34), (9, .int (1000 : Int32)), (10, .int (0 : Int32)), (11, .int (0 : Int32)), (12, .int a5), (13, .int (0 : Int32))]) [7, 8, 9, 10, 11, 12, 13, 6, 5, 4, 3, 2, 1, 0] rfl ?_
    refine tl_Rp_runBath_37 _ _ _ _ _ _ ha3 ht2 (fun v9_37x v10_37x v11_37x v12_37x v13_37x δ37x => ?_) FU _ _ _ _ _ _
    · exact aw_vret rfl rfl ⟨Nat.le_refl _, Nat.le_refl _⟩ d_Rp_runBath_254
def lp_Rp_runAll_77 (kx77_105 : Int32 → Dm → Option Dm) (a2 : Int32) (a3 : Nat) (t2 : Nat) : Nat → Int32 → Dm → Option Dm
  | 0, _, _ => none
  | f + 1, v7_77, δ77 => (if (3 : Int32) ≤ v7_77 then (kx77_105 v7_77 δ77) else ((f_Rp_runBath a2 a3 v7_77 (gI δ77 t2 3) δ77).bind (fun y96 => (lp_Rp_runAll_77 kx77_105 a2 a3 t2 f (v7_77 + (1 : Int32)) y96))))
set_option maxHeartbeats 4000000 in
set_option maxRecDepth 100000 in
theorem tl_Rp_runAll_77 {n : Nat} (kx77_105 : Int32 → Dm → Option Dm) (a2 : Int32) (a3 : Nat) (t2 : Nat) (ha3 : isL a3 = true) (ht2 : isB t2 = true) (hkx77_105 : ∀ v7_77k δ77k, AWo k_Rp_runAll 6 0 0 105 [(0, .ref 22), (1, .ref 29), (2, .int a2), (3, .ref a3), (4, .ref 19), (5, .ref t2), (6, .ref 34), (7, .int v7_77k)] [] δ77k RT n 0 0 (Kv RT n) (kx77_105 v7_77k δ77k)) : ∀ (f : Nat) (v7_77 : Int32) (δ77 : Dm), AWo k_Rp_runAll 6 0 0 77 [(0, .ref 22), (1, .ref 29), (2, .int a2), (3, .ref a3), (4, .ref 19), (5, .ref t2), (6, .ref 34), (7, .int v7_77)] [] δ77 RT n 0 0 (Kv RT n) (lp_Rp_runAll_77 kx77_105 a2 a3 t2 f v7_77 δ77) := by
  intro f
  induction f with
  | zero => intro _ _; exact aw_none
  | succ f ih =>
    intro v7_77 δ77
    rw [lp_Rp_runAll_77]
    refine aw_iload d_Rp_runAll_77 7 rfl ?_
    refine aw_iconst d_Rp_runAll_79 ki_3 ?_
    refine aw_icmp_ge (tgt := 105) d_Rp_runAll_80 rfl (fun q80 => ?_) (fun q80 => ?_)
    · refine aw_sub (lo' := [(0, .ref 22), (1, .ref 29), (2, .int a2), (3, .ref a3), (4, .ref 19), (5, .ref t2), (6, .ref 34), (7, .int v7_77)]) [0, 1, 2, 3, 4, 5, 6, 7] rfl ?_
      exact hkx77_105 _ _
    · refine aw_aload_n d_Rp_runAll_83 0 rfl ?_
      refine aw_aload_n d_Rp_runAll_84 1 rfl ?_
      refine aw_iload_n d_Rp_runAll_85 2 rfl ?_
      refine aw_aload_n d_Rp_runAll_86 3 rfl ?_
      refine aw_iload d_Rp_runAll_87 7 rfl ?_
      refine aw_aload d_Rp_runAll_89 5 rfl ?_
      refine aw_getI fl_Rp_52 (fx_isBK ht2 0 (by decide)) d_Rp_runAll_91 ?_
      refine aw_aload d_Rp_runAll_94 4 rfl ?_
      refine aw_V_v (As := [.ref 29, .int a2, .ref a3, .int v7_77, .int (gI δ77 t2 3), .ref 19]) (m_Rp_runBath ha3) cv_Rp_57 kd_22 rfl rfl rfl (Nat.le_of_ble_eq_true rfl) ⟨Nat.le_of_ble_eq_true rfl, Nat.le_of_ble_eq_true rfl⟩ ⟨Nat.le_refl _, Nat.le_refl _⟩ d_Rp_runAll_96 (fun y96 => ?_)
      refine aw_iinc (v := (v7_77 + (1 : Int32))) (lo' := [(7, .int (v7_77 + (1 : Int32))), (0, .ref 22), (1, .ref 29), (2, .int a2), (3, .ref a3), (4, .ref 19), (5, .ref t2), (6, .ref 34)]) d_Rp_runAll_99 7 rfl (by rw [show Int32.ofInt (1) = (1 : Int32) from by decide]) (by decide) rfl ?_
      refine aw_goto (tgt := 77) d_Rp_runAll_102 rfl ?_
      refine aw_sub (lo' := [(0, .ref 22), (1, .ref 29), (2, .int a2), (3, .ref a3), (4, .ref 19), (5, .ref t2), (6, .ref 34), (7, .int (v7_77 + (1 : Int32)))]) [1, 2, 3, 4, 5, 6, 7, 0] rfl ?_
      exact ih _ _
def lp_Rp_runAll_22 (kx22_74 : Int32 → Dm → Option Dm) (a2 : Int32) (a3 : Nat) (t2 : Nat) : Nat → Int32 → Dm → Option Dm
  | 0, _, _ => none
  | f + 1, v7_22, δ22 => (if (gI δ22 34 0) ≤ v7_22 then (kx22_74 v7_22 δ22) else ((f_Di_isOf v7_22 a2 δ22).bind (fun y37 => (if y37 = 0 then (lp_Rp_runAll_22 kx22_74 a2 a3 t2 f (v7_22 + (1 : Int32)) δ22) else ((f_Rp_openStrip t2 v7_22 δ22).bind (fun y50 => ((f_La_spoilerBesideBaths a3 y50).bind (fun y62 => bnd y62.1 (fun v62 => bnd y62.2 (fun δ_62 => ((f_Fp_put 24 v7_22 v62 δ_62).bind (fun y65 => (lp_Rp_runAll_22 kx22_74 a2 a3 t2 f (v7_22 + (1 : Int32)) y65)))))))))))))
set_option maxHeartbeats 4000000 in
set_option maxRecDepth 100000 in
theorem tl_Rp_runAll_22 {n : Nat} (kx22_74 : Int32 → Dm → Option Dm) (a2 : Int32) (a3 : Nat) (t2 : Nat) (ha3 : isL a3 = true) (ht2 : isB t2 = true) (hkx22_74 : ∀ v7_22k δ22k, AWo k_Rp_runAll 6 0 0 74 [(0, .ref 22), (1, .ref 29), (2, .int a2), (3, .ref a3), (4, .ref 19), (5, .ref t2), (6, .ref 34), (7, .int v7_22k)] [] δ22k RT n 0 0 (Kv RT n) (kx22_74 v7_22k δ22k)) : ∀ (f : Nat) (v7_22 : Int32) (δ22 : Dm), AWo k_Rp_runAll 6 0 0 22 [(0, .ref 22), (1, .ref 29), (2, .int a2), (3, .ref a3), (4, .ref 19), (5, .ref t2), (6, .ref 34), (7, .int v7_22)] [] δ22 RT n 0 0 (Kv RT n) (lp_Rp_runAll_22 kx22_74 a2 a3 t2 f v7_22 δ22) := by
  intro f
  induction f with
  | zero => intro _ _; exact aw_none
  | succ f ih =>
    intro v7_22 δ22
    rw [lp_Rp_runAll_22]
    refine aw_iload d_Rp_runAll_22 7 rfl ?_
    refine aw_aload d_Rp_runAll_24 6 rfl ?_
    refine aw_getI fl_Rp_28 kd_34 d_Rp_runAll_26 ?_
    refine aw_icmp_ge (tgt := 74) d_Rp_runAll_29 rfl (fun q29 => ?_) (fun q29 => ?_)
    · refine aw_sub (lo' := [(0, .ref 22), (1, .ref 29), (2, .int a2), (3, .ref a3), (4, .ref 19), (5, .ref t2), (6, .ref 34), (7, .int v7_22)]) [0, 1, 2, 3, 4, 5, 6, 7] rfl ?_
      exact hkx22_74 _ _
    · refine aw_aload d_Rp_runAll_32 6 rfl ?_
      refine aw_iload d_Rp_runAll_34 7 rfl ?_
      refine aw_iload_n d_Rp_runAll_36 2 rfl ?_
      refine aw_V_p (As := [.int v7_22, .int a2]) (m_Di_isOf) cv_Rp_34 kd_34 rfl rfl rfl (Nat.le_of_ble_eq_true rfl) ⟨Nat.le_of_ble_eq_true rfl, Nat.le_of_ble_eq_true rfl⟩ ⟨Nat.le_refl _, Nat.le_refl _⟩ d_Rp_runAll_37 (fun y37 => ?_)
      refine aw_if_eq (tgt := 68) d_Rp_runAll_40 rfl (fun q40 => ?_) (fun q40 => ?_)
      · refine aw_iinc (v := (v7_22 + (1 : Int32))) (lo' := [(7, .int (v7_22 + (1 : Int32))), (0, .ref 22), (1, .ref 29), (2, .int a2), (3, .ref a3), (4, .ref 19), (5, .ref t2), (6, .ref 34)]) d_Rp_runAll_68 7 rfl (by rw [show Int32.ofInt (1) = (1 : Int32) from by decide]) (by decide) rfl ?_
        refine aw_goto (tgt := 22) d_Rp_runAll_71 rfl ?_
        refine aw_sub (lo' := [(0, .ref 22), (1, .ref 29), (2, .int a2), (3, .ref a3), (4, .ref 19), (5, .ref t2), (6, .ref 34), (7, .int (v7_22 + (1 : Int32)))]) [1, 2, 3, 4, 5, 6, 7, 0] rfl ?_
        exact ih _ _
      · refine aw_aload_n d_Rp_runAll_43 1 rfl ?_
        refine aw_aload d_Rp_runAll_44 5 rfl ?_
        refine aw_iload d_Rp_runAll_46 7 rfl ?_
        refine aw_aload d_Rp_runAll_48 4 rfl ?_
        refine aw_S_v (As := [.ref 29, .ref t2, .int v7_22, .ref 19]) (m_Rp_openStrip ht2) cs_Rp_38 rfl rfl (Nat.le_of_ble_eq_true rfl) ⟨Nat.le_of_ble_eq_true rfl, Nat.le_of_ble_eq_true rfl⟩ ⟨Nat.le_refl _, Nat.le_refl _⟩ d_Rp_runAll_50 (fun y50 => ?_)
        refine aw_aload_n d_Rp_runAll_53 0 rfl ?_
        refine aw_getR (t := 24) fl_Rp_15 kd_22 rt_22_1 d_Rp_runAll_54 ?_
        refine aw_iload d_Rp_runAll_57 7 rfl ?_
        refine aw_aload_n d_Rp_runAll_59 3 rfl ?_
        refine aw_aload d_Rp_runAll_60 4 rfl ?_
        refine aw_V_m (As := [.ref 19]) (m_La_spoilerBesideBaths ha3) cv_Rp_42 (fx_isLK ha3 0 (by decide)) rfl rfl rfl (Nat.le_of_ble_eq_true rfl) ⟨Nat.le_of_ble_eq_true rfl, Nat.le_of_ble_eq_true rfl⟩ ⟨Nat.le_refl _, Nat.le_refl _⟩ d_Rp_runAll_62 (fun y62 => ?_)
        refine aw_bI (fun v62 => ?_)
        refine aw_bD (fun δ_62 => ?_)
        refine aw_SN_v (As := [.ref 24, .int v7_22, .int v62]) (m_Fp_put (congrArg Prod.fst kd_24)) cs_Rp_48 rfl rfl (Nat.le_of_ble_eq_true rfl) ⟨Nat.le_of_ble_eq_true rfl, Nat.le_of_ble_eq_true rfl⟩ ⟨Nat.le_refl _, Nat.le_refl _⟩ d_Rp_runAll_65 (fun y65 => ?_)
        refine aw_iinc (v := (v7_22 + (1 : Int32))) (lo' := [(7, .int (v7_22 + (1 : Int32))), (0, .ref 22), (1, .ref 29), (2, .int a2), (3, .ref a3), (4, .ref 19), (5, .ref t2), (6, .ref 34)]) d_Rp_runAll_68 7 rfl (by rw [show Int32.ofInt (1) = (1 : Int32) from by decide]) (by decide) rfl ?_
        refine aw_goto (tgt := 22) d_Rp_runAll_71 rfl ?_
        refine aw_sub (lo' := [(0, .ref 22), (1, .ref 29), (2, .int a2), (3, .ref a3), (4, .ref 19), (5, .ref t2), (6, .ref 34), (7, .int (v7_22 + (1 : Int32)))]) [1, 2, 3, 4, 5, 6, 7, 0] rfl ?_
        exact ih _ _
def f_Rp_runAll (a2 : Int32) (a3 : Nat) (δ : Dm) : Option Dm := ((f_To_boothAt a2 δ).bind (fun o2 => ocs o2 (some δ) (fun t2 => if isB t2 = true then (lp_Rp_runAll_22 (fun v7_22x δ22x => (lp_Rp_runAll_77 (fun v7_77x δ77x => (some δ77x)) a2 a3 t2 FU (0 : Int32) δ22x)) a2 a3 t2 FU (0 : Int32) δ) else none)))
set_option maxHeartbeats 4000000 in
set_option maxRecDepth 100000 in
theorem m_Rp_runAll {a2 : Int32} {a3 : Nat} {δ : Dm} {n : Nat} (ha3 : isL a3 = true) : ∀ x, f_Rp_runAll a2 a3 δ = some x → AMet k_Rp_runAll 6 0 0 [.ref 22, .ref 29, .int a2, .ref a3, .ref 19] δ RT n (Kv RT n x) := by
  refine aw_start (lo := [(0, .ref 22), (1, .ref 29), (2, .int a2), (3, .ref a3), (4, .ref 19)]) mok_Rp_runAll rfl (Nat.le_of_ble_eq_true rfl) ?_
  unfold f_Rp_runAll
  refine aw_aload_n d_Rp_runAll_0 1 rfl ?_
  refine aw_iload_n d_Rp_runAll_1 2 rfl ?_
  refine aw_V_r (As := [.int a2]) (m_To_boothAt) cv_Rp_18 kd_29 rfl rfl rfl (Nat.le_of_ble_eq_true rfl) ⟨Nat.le_of_ble_eq_true rfl, Nat.le_of_ble_eq_true rfl⟩ ⟨Nat.le_refl _, Nat.le_refl _⟩ d_Rp_runAll_2 ?_ (fun t2 => ?_)
  · refine aw_astoreN (lo' := [(5, .null), (0, .ref 22), (1, .ref 29), (2, .int a2), (3, .ref a3), (4, .ref 19)]) d_Rp_runAll_5 (by decide) rfl ?_
    refine aw_aloadN d_Rp_runAll_7 0 rfl ?_
    refine aw_ifnonnullN d_Rp_runAll_9 ?_
    exact aw_vret rfl rfl ⟨Nat.le_refl _, Nat.le_refl _⟩ d_Rp_runAll_12
  · refine aw_grd (fun ht2 => ?_)
    refine aw_astore (lo' := [(5, .ref t2), (0, .ref 22), (1, .ref 29), (2, .int a2), (3, .ref a3), (4, .ref 19)]) d_Rp_runAll_5 (by decide) rfl ?_
    refine aw_aload d_Rp_runAll_7 0 rfl ?_
    refine aw_ifnonnull (tgt := 13) d_Rp_runAll_9 rfl ?_
    refine aw_aload_n d_Rp_runAll_13 2 rfl ?_
    refine aw_getR (t := 34) fl_Rp_24 kd_29 rt_29_7 d_Rp_runAll_14 ?_
    refine aw_astore (lo' := [(6, .ref 34), (5, .ref t2), (0, .ref 22), (1, .ref 29), (2, .int a2), (3, .ref a3), (4, .ref 19)]) d_Rp_runAll_17 (by decide) rfl ?_
    refine aw_iconst d_Rp_runAll_19 ki_0 ?_
    refine aw_istore (lo' := [(7, .int (0 : Int32)), (6, .ref 34), (5, .ref t2), (0, .ref 22), (1, .ref 29), (2, .int a2), (3, .ref a3), (4, .ref 19)]) d_Rp_runAll_20 (by decide) rfl ?_
    refine aw_sub (lo' := [(0, .ref 22), (1, .ref 29), (2, .int a2), (3, .ref a3), (4, .ref 19), (5, .ref t2), (6, .ref 34), (7, .int (0 : Int32))]) [3, 4, 5, 6, 7, 2, 1, 0] rfl ?_
    refine tl_Rp_runAll_22 _ _ _ _ ha3 ht2 (fun v7_22x δ22x => ?_) FU _ _
    · refine aw_iconst d_Rp_runAll_74 ki_0 ?_
      refine aw_istore (lo' := [(7, .int (0 : Int32)), (0, .ref 22), (1, .ref 29), (2, .int a2), (3, .ref a3), (4, .ref 19), (5, .ref t2), (6, .ref 34)]) d_Rp_runAll_75 (by decide) rfl ?_
      refine aw_sub (lo' := [(0, .ref 22), (1, .ref 29), (2, .int a2), (3, .ref a3), (4, .ref 19), (5, .ref t2), (6, .ref 34), (7, .int (0 : Int32))]) [1, 2, 3, 4, 5, 6, 7, 0] rfl ?_
      refine tl_Rp_runAll_77 _ _ _ _ ha3 ht2 (fun v7_77x δ77x => ?_) FU _ _
      · exact aw_vret rfl rfl ⟨Nat.le_refl _, Nat.le_refl _⟩ d_Rp_runAll_105
def lp_Rp_spoilerOf_11 (kx11_35 : Int32 → Option Int32) (a1 : Int32) (y5 : Int32) (δ : Dm) : Nat → Int32 → Option Int32
  | 0, _ => none
  | f + 1, v3_11 => (if (3 : Int32) ≤ v3_11 then (kx11_35 v3_11) else (if ((y5 >>> (v3_11 &&& 31)) &&& (1 : Int32)) = (1 : Int32) then (some (v3_11 + (1 : Int32))) else (lp_Rp_spoilerOf_11 kx11_35 a1 y5 δ f (v3_11 + (1 : Int32)))))
set_option maxHeartbeats 4000000 in
set_option maxRecDepth 100000 in
theorem tl_Rp_spoilerOf_11 {n : Nat} (kx11_35 : Int32 → Option Int32) (a1 : Int32) (y5 : Int32) (δ : Dm) (hkx11_35 : ∀ v3_11k, AWo k_Rp_spoilerOf 2 0 0 35 [(0, .ref 22), (1, .int a1), (2, .int y5), (3, .int v3_11k)] [] δ RT n 0 0 (Kp δ RT n) (kx11_35 v3_11k)) : ∀ (f : Nat) (v3_11 : Int32), AWo k_Rp_spoilerOf 2 0 0 11 [(0, .ref 22), (1, .int a1), (2, .int y5), (3, .int v3_11)] [] δ RT n 0 0 (Kp δ RT n) (lp_Rp_spoilerOf_11 kx11_35 a1 y5 δ f v3_11) := by
  intro f
  induction f with
  | zero => intro _; exact aw_none
  | succ f ih =>
    intro v3_11
    rw [lp_Rp_spoilerOf_11]
    refine aw_iload_n d_Rp_spoilerOf_11 3 rfl ?_
    refine aw_iconst d_Rp_spoilerOf_12 ki_3 ?_
    refine aw_icmp_ge (tgt := 35) d_Rp_spoilerOf_13 rfl (fun q13 => ?_) (fun q13 => ?_)
    · refine aw_sub (lo' := [(0, .ref 22), (1, .int a1), (2, .int y5), (3, .int v3_11)]) [0, 1, 2, 3] rfl ?_
      exact hkx11_35 _
    · refine aw_iload_n d_Rp_spoilerOf_16 2 rfl ?_
      refine aw_iload_n d_Rp_spoilerOf_17 3 rfl ?_
      refine aw_ishr d_Rp_spoilerOf_18 ?_
      refine aw_iconst d_Rp_spoilerOf_19 ki_1 ?_
      refine aw_iand d_Rp_spoilerOf_20 ?_
      refine aw_iconst d_Rp_spoilerOf_21 ki_1 ?_
      refine aw_icmp_ne (tgt := 29) d_Rp_spoilerOf_22 rfl (fun q22 => ?_) (fun q22 => ?_)
      · refine aw_iload_n d_Rp_spoilerOf_25 3 rfl ?_
        refine aw_iconst d_Rp_spoilerOf_26 ki_1 ?_
        refine aw_iadd d_Rp_spoilerOf_27 ?_
        exact aw_iret rfl rfl ⟨Nat.le_refl _, Nat.le_refl _⟩ d_Rp_spoilerOf_28
      · refine aw_iinc (v := (v3_11 + (1 : Int32))) (lo' := [(3, .int (v3_11 + (1 : Int32))), (0, .ref 22), (1, .int a1), (2, .int y5)]) d_Rp_spoilerOf_29 3 rfl (by rw [show Int32.ofInt (1) = (1 : Int32) from by decide]) (by decide) rfl ?_
        refine aw_goto (tgt := 11) d_Rp_spoilerOf_32 rfl ?_
        refine aw_sub (lo' := [(0, .ref 22), (1, .int a1), (2, .int y5), (3, .int (v3_11 + (1 : Int32)))]) [1, 2, 3, 0] rfl ?_
        exact ih _
def f_Rp_spoilerOf (a1 : Int32) (δ : Dm) : Option Int32 := ((f_Fp_get 23 a1 δ).bind (fun y5 => (lp_Rp_spoilerOf_11 (fun v3_11x => ((f_Fp_get 24 a1 δ).bind (fun y40 => (some y40)))) a1 y5 δ FU (0 : Int32))))
set_option maxHeartbeats 4000000 in
set_option maxRecDepth 100000 in
theorem m_Rp_spoilerOf {a1 : Int32} {δ : Dm} {n : Nat} : ∀ x, f_Rp_spoilerOf a1 δ = some x → AMet k_Rp_spoilerOf 2 0 0 [.ref 22, .int a1] δ RT n (Kp δ RT n x) := by
  refine aw_start (lo := [(0, .ref 22), (1, .int a1)]) mok_Rp_spoilerOf rfl (Nat.le_of_ble_eq_true rfl) ?_
  unfold f_Rp_spoilerOf
  refine aw_aload_n d_Rp_spoilerOf_0 0 rfl ?_
  refine aw_getR (t := 23) fl_Rp_9 kd_22 rt_22_0 d_Rp_spoilerOf_1 ?_
  refine aw_iload_n d_Rp_spoilerOf_4 1 rfl ?_
  refine aw_SN_p (As := [.ref 23, .int a1]) (m_Fp_get (congrArg Prod.fst kd_23)) cs_Rp_64 rfl rfl (Nat.le_of_ble_eq_true rfl) ⟨Nat.le_of_ble_eq_true rfl, Nat.le_of_ble_eq_true rfl⟩ ⟨Nat.le_refl _, Nat.le_refl _⟩ d_Rp_spoilerOf_5 (fun y5 => ?_)
  refine aw_istore_n (lo' := [(2, .int y5), (0, .ref 22), (1, .int a1)]) d_Rp_spoilerOf_8 rfl (by decide) rfl ?_
  refine aw_iconst d_Rp_spoilerOf_9 ki_0 ?_
  refine aw_istore_n (lo' := [(3, .int (0 : Int32)), (2, .int y5), (0, .ref 22), (1, .int a1)]) d_Rp_spoilerOf_10 rfl (by decide) rfl ?_
  refine aw_sub (lo' := [(0, .ref 22), (1, .int a1), (2, .int y5), (3, .int (0 : Int32))]) [2, 3, 1, 0] rfl ?_
  refine tl_Rp_spoilerOf_11 _ _ _ _ (fun v3_11x => ?_) FU _
  · refine aw_aload_n d_Rp_spoilerOf_35 0 rfl ?_
    refine aw_getR (t := 24) fl_Rp_15 kd_22 rt_22_1 d_Rp_spoilerOf_36 ?_
    refine aw_iload_n d_Rp_spoilerOf_39 1 rfl ?_
    refine aw_SN_p (As := [.ref 24, .int a1]) (m_Fp_get (congrArg Prod.fst kd_24)) cs_Rp_64 rfl rfl (Nat.le_of_ble_eq_true rfl) ⟨Nat.le_of_ble_eq_true rfl, Nat.le_of_ble_eq_true rfl⟩ ⟨Nat.le_refl _, Nat.le_refl _⟩ d_Rp_spoilerOf_40 (fun y40 => ?_)
    exact aw_iret rfl rfl ⟨Nat.le_refl _, Nat.le_refl _⟩ d_Rp_spoilerOf_43
def lp_Rp_tally_6 (kx6_44 : Int32 → Int32 → Option Int32) (a2 : Int32) (a3 : Int32) (δ : Dm) : Nat → Int32 → Int32 → Option Int32
  | 0, _, _ => none
  | f + 1, v4_6, v5_6 => (if (gI δ 34 0) ≤ v5_6 then (kx6_44 v4_6 v5_6) else ((f_Di_isOf v5_6 a2 δ).bind (fun y19 => (if y19 = 0 then (lp_Rp_tally_6 kx6_44 a2 a3 δ f v4_6 (v5_6 + (1 : Int32))) else ((f_Rp_spoilerOf v5_6 δ).bind (fun y28 => (if y28 = a3 then (lp_Rp_tally_6 kx6_44 a2 a3 δ f (v4_6 + (1 : Int32)) (v5_6 + (1 : Int32))) else (lp_Rp_tally_6 kx6_44 a2 a3 δ f v4_6 (v5_6 + (1 : Int32))))))))))
set_option maxHeartbeats 4000000 in
set_option maxRecDepth 100000 in
theorem tl_Rp_tally_6 {n : Nat} (kx6_44 : Int32 → Int32 → Option Int32) (a2 : Int32) (a3 : Int32) (δ : Dm) (hkx6_44 : ∀ v4_6k v5_6k, AWo k_Rp_tally 3 0 0 44 [(0, .ref 22), (1, .ref 34), (2, .int a2), (3, .int a3), (4, .int v4_6k), (5, .int v5_6k)] [] δ RT n 0 0 (Kp δ RT n) (kx6_44 v4_6k v5_6k)) : ∀ (f : Nat) (v4_6 : Int32) (v5_6 : Int32), AWo k_Rp_tally 3 0 0 6 [(0, .ref 22), (1, .ref 34), (2, .int a2), (3, .int a3), (4, .int v4_6), (5, .int v5_6)] [] δ RT n 0 0 (Kp δ RT n) (lp_Rp_tally_6 kx6_44 a2 a3 δ f v4_6 v5_6) := by
  intro f
  induction f with
  | zero => intro _ _; exact aw_none
  | succ f ih =>
    intro v4_6 v5_6
    rw [lp_Rp_tally_6]
    refine aw_iload d_Rp_tally_6 5 rfl ?_
    refine aw_aload_n d_Rp_tally_8 1 rfl ?_
    refine aw_getI fl_Rp_28 kd_34 d_Rp_tally_9 ?_
    refine aw_icmp_ge (tgt := 44) d_Rp_tally_12 rfl (fun q12 => ?_) (fun q12 => ?_)
    · refine aw_sub (lo' := [(0, .ref 22), (1, .ref 34), (2, .int a2), (3, .int a3), (4, .int v4_6), (5, .int v5_6)]) [0, 1, 2, 3, 4, 5] rfl ?_
      exact hkx6_44 _ _
    · refine aw_aload_n d_Rp_tally_15 1 rfl ?_
      refine aw_iload d_Rp_tally_16 5 rfl ?_
      refine aw_iload_n d_Rp_tally_18 2 rfl ?_
      refine aw_V_p (As := [.int v5_6, .int a2]) (m_Di_isOf) cv_Rp_34 kd_34 rfl rfl rfl (Nat.le_of_ble_eq_true rfl) ⟨Nat.le_of_ble_eq_true rfl, Nat.le_of_ble_eq_true rfl⟩ ⟨Nat.le_refl _, Nat.le_refl _⟩ d_Rp_tally_19 (fun y19 => ?_)
      refine aw_if_eq (tgt := 38) d_Rp_tally_22 rfl (fun q22 => ?_) (fun q22 => ?_)
      · refine aw_iinc (v := (v5_6 + (1 : Int32))) (lo' := [(5, .int (v5_6 + (1 : Int32))), (0, .ref 22), (1, .ref 34), (2, .int a2), (3, .int a3), (4, .int v4_6)]) d_Rp_tally_38 5 rfl (by rw [show Int32.ofInt (1) = (1 : Int32) from by decide]) (by decide) rfl ?_
        refine aw_goto (tgt := 6) d_Rp_tally_41 rfl ?_
        refine aw_sub (lo' := [(0, .ref 22), (1, .ref 34), (2, .int a2), (3, .int a3), (4, .int v4_6), (5, .int (v5_6 + (1 : Int32)))]) [1, 2, 3, 4, 5, 0] rfl ?_
        exact ih _ _
      · refine aw_aload_n d_Rp_tally_25 0 rfl ?_
        refine aw_iload d_Rp_tally_26 5 rfl ?_
        refine aw_V_p (As := [.int v5_6]) (m_Rp_spoilerOf) cv_Rp_121 kd_22 rfl rfl rfl (Nat.le_of_ble_eq_true rfl) ⟨Nat.le_of_ble_eq_true rfl, Nat.le_of_ble_eq_true rfl⟩ ⟨Nat.le_refl _, Nat.le_refl _⟩ d_Rp_tally_28 (fun y28 => ?_)
        refine aw_iload_n d_Rp_tally_31 3 rfl ?_
        refine aw_icmp_ne (tgt := 38) d_Rp_tally_32 rfl (fun q32 => ?_) (fun q32 => ?_)
        · refine aw_iinc (v := (v4_6 + (1 : Int32))) (lo' := [(4, .int (v4_6 + (1 : Int32))), (0, .ref 22), (1, .ref 34), (2, .int a2), (3, .int a3), (5, .int v5_6)]) d_Rp_tally_35 4 rfl (by rw [show Int32.ofInt (1) = (1 : Int32) from by decide]) (by decide) rfl ?_
          refine aw_iinc (v := (v5_6 + (1 : Int32))) (lo' := [(5, .int (v5_6 + (1 : Int32))), (4, .int (v4_6 + (1 : Int32))), (0, .ref 22), (1, .ref 34), (2, .int a2), (3, .int a3)]) d_Rp_tally_38 5 rfl (by rw [show Int32.ofInt (1) = (1 : Int32) from by decide]) (by decide) rfl ?_
          refine aw_goto (tgt := 6) d_Rp_tally_41 rfl ?_
          refine aw_sub (lo' := [(0, .ref 22), (1, .ref 34), (2, .int a2), (3, .int a3), (4, .int (v4_6 + (1 : Int32))), (5, .int (v5_6 + (1 : Int32)))]) [2, 3, 4, 5, 1, 0] rfl ?_
          exact ih _ _
        · refine aw_iinc (v := (v5_6 + (1 : Int32))) (lo' := [(5, .int (v5_6 + (1 : Int32))), (0, .ref 22), (1, .ref 34), (2, .int a2), (3, .int a3), (4, .int v4_6)]) d_Rp_tally_38 5 rfl (by rw [show Int32.ofInt (1) = (1 : Int32) from by decide]) (by decide) rfl ?_
          refine aw_goto (tgt := 6) d_Rp_tally_41 rfl ?_
          refine aw_sub (lo' := [(0, .ref 22), (1, .ref 34), (2, .int a2), (3, .int a3), (4, .int v4_6), (5, .int (v5_6 + (1 : Int32)))]) [1, 2, 3, 4, 5, 0] rfl ?_
          exact ih _ _
def f_Rp_tally (a2 : Int32) (a3 : Int32) (δ : Dm) : Option Int32 := (lp_Rp_tally_6 (fun v4_6x v5_6x => (some v4_6x)) a2 a3 δ FU (0 : Int32) (0 : Int32))
set_option maxHeartbeats 4000000 in
set_option maxRecDepth 100000 in
theorem m_Rp_tally {a2 : Int32} {a3 : Int32} {δ : Dm} {n : Nat} : ∀ x, f_Rp_tally a2 a3 δ = some x → AMet k_Rp_tally 3 0 0 [.ref 22, .ref 34, .int a2, .int a3] δ RT n (Kp δ RT n x) := by
  refine aw_start (lo := [(0, .ref 22), (1, .ref 34), (2, .int a2), (3, .int a3)]) mok_Rp_tally rfl (Nat.le_of_ble_eq_true rfl) ?_
  unfold f_Rp_tally
  refine aw_iconst d_Rp_tally_0 ki_0 ?_
  refine aw_istore (lo' := [(4, .int (0 : Int32)), (0, .ref 22), (1, .ref 34), (2, .int a2), (3, .int a3)]) d_Rp_tally_1 (by decide) rfl ?_
  refine aw_iconst d_Rp_tally_3 ki_0 ?_
  refine aw_istore (lo' := [(5, .int (0 : Int32)), (4, .int (0 : Int32)), (0, .ref 22), (1, .ref 34), (2, .int a2), (3, .int a3)]) d_Rp_tally_4 (by decide) rfl ?_
  refine aw_sub (lo' := [(0, .ref 22), (1, .ref 34), (2, .int a2), (3, .int a3), (4, .int (0 : Int32)), (5, .int (0 : Int32))]) [2, 3, 4, 5, 1, 0] rfl ?_
  refine tl_Rp_tally_6 _ _ _ _ (fun v4_6x v5_6x => ?_) FU _ _
  · refine aw_iload d_Rp_tally_44 4 rfl ?_
    exact aw_iret rfl rfl ⟨Nat.le_refl _, Nat.le_refl _⟩ d_Rp_tally_46
def f_Fp_again (a1 : Int32) (a2 : Int32) (a3 : Int32) (δ : Dm) : Option (Int32 × Dm) := ((f_Fp_lawAt a2 δ).bind (fun o2 => ocs o2 ((f_To_boothAt a1 δ).bind (fun o12 => ocs o12 (some ((-1 : Int32), δ)) (fun t12 => if isB t12 = true then (some ((-1 : Int32), δ)) else none))) (fun t2 => if isL t2 = true then ((f_To_boothAt a1 δ).bind (fun o12_1 => ocs o12_1 (some ((-1 : Int32), δ)) (fun t12_1 => if isB t12_1 = true then ((f_Fp_isSpoiler a3 δ).bind (fun y24 => (if y24 = 0 then (some ((-1 : Int32), δ)) else ((f_Rp_runAll a1 t2 δ).bind (fun y47 => ((f_Rp_tally a1 a3 y47).bind (fun y63 => (some (y63, y47))))))))) else none))) else none)))
set_option maxHeartbeats 4000000 in
set_option maxRecDepth 100000 in
theorem m_Fp_again {a1 : Int32} {a2 : Int32} {a3 : Int32} {δ : Dm} {n : Nat} : ∀ x, f_Fp_again a1 a2 a3 δ = some x → AMet k_Fp_again 7 0 0 [.ref 4, .int a1, .int a2, .int a3] δ RT n (Km RT n x) := by
  refine aw_start (lo := [(0, .ref 4), (1, .int a1), (2, .int a2), (3, .int a3)]) mok_Fp_again rfl (Nat.le_of_ble_eq_true rfl) ?_
  unfold f_Fp_again
  refine aw_aload_n d_Fp_again_0 0 rfl ?_
  refine aw_iload_n d_Fp_again_1 2 rfl ?_
  refine aw_V_r (As := [.int a2]) (m_Fp_lawAt) cv_Fp_126 kd_4 rfl rfl rfl (Nat.le_of_ble_eq_true rfl) ⟨Nat.le_of_ble_eq_true rfl, Nat.le_of_ble_eq_true rfl⟩ ⟨Nat.le_refl _, Nat.le_refl _⟩ d_Fp_again_2 ?_ (fun t2 => ?_)
  · refine aw_astoreN (lo' := [(4, .null), (0, .ref 4), (1, .int a1), (2, .int a2), (3, .int a3)]) d_Fp_again_5 (by decide) rfl ?_
    refine aw_aload_n d_Fp_again_7 1 rfl ?_
    refine aw_getR (t := 29) fl_Fp_57 kd_4 rt_4_9 d_Fp_again_8 ?_
    refine aw_iload_n d_Fp_again_11 2 rfl ?_
    refine aw_V_r (As := [.int a1]) (m_To_boothAt) cv_Fp_139 kd_29 rfl rfl rfl (Nat.le_of_ble_eq_true rfl) ⟨Nat.le_of_ble_eq_true rfl, Nat.le_of_ble_eq_true rfl⟩ ⟨Nat.le_refl _, Nat.le_refl _⟩ d_Fp_again_12 ?_ (fun t12 => ?_)
    · refine aw_ifnullN (tgt := 30) d_Fp_again_15 rfl ?_
      refine aw_iconst d_Fp_again_30 ki_m1 ?_
      exact aw_iret rfl rfl ⟨Nat.le_refl _, Nat.le_refl _⟩ d_Fp_again_31
    · refine aw_grd (fun ht12 => ?_)
      refine aw_ifnull d_Fp_again_15 ?_
      refine aw_aloadN d_Fp_again_18 0 rfl ?_
      refine aw_ifnullN (tgt := 30) d_Fp_again_20 rfl ?_
      refine aw_iconst d_Fp_again_30 ki_m1 ?_
      exact aw_iret rfl rfl ⟨Nat.le_refl _, Nat.le_refl _⟩ d_Fp_again_31
  · refine aw_grd (fun ht2 => ?_)
    refine aw_astore (lo' := [(4, .ref t2), (0, .ref 4), (1, .int a1), (2, .int a2), (3, .int a3)]) d_Fp_again_5 (by decide) rfl ?_
    refine aw_aload_n d_Fp_again_7 1 rfl ?_
    refine aw_getR (t := 29) fl_Fp_57 kd_4 rt_4_9 d_Fp_again_8 ?_
    refine aw_iload_n d_Fp_again_11 2 rfl ?_
    refine aw_V_r (As := [.int a1]) (m_To_boothAt) cv_Fp_139 kd_29 rfl rfl rfl (Nat.le_of_ble_eq_true rfl) ⟨Nat.le_of_ble_eq_true rfl, Nat.le_of_ble_eq_true rfl⟩ ⟨Nat.le_refl _, Nat.le_refl _⟩ d_Fp_again_12 ?_ (fun t12_1 => ?_)
    · refine aw_ifnullN (tgt := 30) d_Fp_again_15 rfl ?_
      refine aw_iconst d_Fp_again_30 ki_m1 ?_
      exact aw_iret rfl rfl ⟨Nat.le_refl _, Nat.le_refl _⟩ d_Fp_again_31
    · refine aw_grd (fun ht12_1 => ?_)
      refine aw_ifnull d_Fp_again_15 ?_
      refine aw_aload d_Fp_again_18 0 rfl ?_
      refine aw_ifnull d_Fp_again_20 ?_
      refine aw_iload_n d_Fp_again_23 4 rfl ?_
      refine aw_S_p (As := [.int a3]) (m_Fp_isSpoiler) cs_Fp_221 rfl rfl (Nat.le_of_ble_eq_true rfl) ⟨Nat.le_of_ble_eq_true rfl, Nat.le_of_ble_eq_true rfl⟩ ⟨Nat.le_refl _, Nat.le_refl _⟩ d_Fp_again_24 (fun y24 => ?_)
      refine aw_if_ne (tgt := 32) d_Fp_again_27 rfl (fun q27 => ?_) (fun q27 => ?_)
      · refine aw_iconst d_Fp_again_30 ki_m1 ?_
        exact aw_iret rfl rfl ⟨Nat.le_refl _, Nat.le_refl _⟩ d_Fp_again_31
      · refine aw_aload_n d_Fp_again_32 1 rfl ?_
        refine aw_getR (t := 22) fl_Fp_36 kd_4 rt_4_6 d_Fp_again_33 ?_
        refine aw_aload_n d_Fp_again_36 1 rfl ?_
        refine aw_getR (t := 29) fl_Fp_57 kd_4 rt_4_9 d_Fp_again_37 ?_
        refine aw_iload_n d_Fp_again_40 2 rfl ?_
        refine aw_aload d_Fp_again_41 0 rfl ?_
        refine aw_aload_n d_Fp_again_43 1 rfl ?_
        refine aw_getR (t := 19) fl_Fp_29 kd_4 rt_4_5 d_Fp_again_44 ?_
        refine aw_V_v (As := [.ref 29, .int a1, .ref t2, .ref 19]) (m_Rp_runAll ht2) cv_Fp_231 kd_22 rfl rfl rfl (Nat.le_of_ble_eq_true rfl) ⟨Nat.le_of_ble_eq_true rfl, Nat.le_of_ble_eq_true rfl⟩ ⟨Nat.le_refl _, Nat.le_refl _⟩ d_Fp_again_47 (fun y47 => ?_)
        refine aw_aload_n d_Fp_again_50 1 rfl ?_
        refine aw_getR (t := 22) fl_Fp_36 kd_4 rt_4_6 d_Fp_again_51 ?_
        refine aw_aload_n d_Fp_again_54 1 rfl ?_
        refine aw_getR (t := 29) fl_Fp_57 kd_4 rt_4_9 d_Fp_again_55 ?_
        refine aw_getR (t := 34) fl_Fp_148 kd_29 rt_29_7 d_Fp_again_58 ?_
        refine aw_iload_n d_Fp_again_61 2 rfl ?_
        refine aw_iload_n d_Fp_again_62 4 rfl ?_
        refine aw_V_p (As := [.ref 34, .int a1, .int a3]) (m_Rp_tally) cv_Fp_235 kd_22 rfl rfl rfl (Nat.le_of_ble_eq_true rfl) ⟨Nat.le_of_ble_eq_true rfl, Nat.le_of_ble_eq_true rfl⟩ ⟨Nat.le_refl _, Nat.le_refl _⟩ d_Fp_again_63 (fun y63 => ?_)
        exact aw_iret rfl rfl ⟨Nat.le_refl _, Nat.le_refl _⟩ d_Fp_again_66
def lp_Rp_tallySpoilt_5 (kx5_42 : Int32 → Int32 → Option Int32) (a2 : Int32) (δ : Dm) : Nat → Int32 → Int32 → Option Int32
  | 0, _, _ => none
  | f + 1, v3_5, v4_5 => (if (gI δ 34 0) ≤ v4_5 then (kx5_42 v3_5 v4_5) else ((f_Di_isOf v4_5 a2 δ).bind (fun y18 => (if y18 = 0 then (lp_Rp_tallySpoilt_5 kx5_42 a2 δ f v3_5 (v4_5 + (1 : Int32))) else ((f_Rp_spoilerOf v4_5 δ).bind (fun y27 => (if y27 = 0 then (lp_Rp_tallySpoilt_5 kx5_42 a2 δ f v3_5 (v4_5 + (1 : Int32))) else (lp_Rp_tallySpoilt_5 kx5_42 a2 δ f (v3_5 + (1 : Int32)) (v4_5 + (1 : Int32))))))))))
set_option maxHeartbeats 4000000 in
set_option maxRecDepth 100000 in
theorem tl_Rp_tallySpoilt_5 {n : Nat} (kx5_42 : Int32 → Int32 → Option Int32) (a2 : Int32) (δ : Dm) (hkx5_42 : ∀ v3_5k v4_5k, AWo k_Rp_tallySpoilt 3 0 0 42 [(0, .ref 22), (1, .ref 34), (2, .int a2), (3, .int v3_5k), (4, .int v4_5k)] [] δ RT n 0 0 (Kp δ RT n) (kx5_42 v3_5k v4_5k)) : ∀ (f : Nat) (v3_5 : Int32) (v4_5 : Int32), AWo k_Rp_tallySpoilt 3 0 0 5 [(0, .ref 22), (1, .ref 34), (2, .int a2), (3, .int v3_5), (4, .int v4_5)] [] δ RT n 0 0 (Kp δ RT n) (lp_Rp_tallySpoilt_5 kx5_42 a2 δ f v3_5 v4_5) := by
  intro f
  induction f with
  | zero => intro _ _; exact aw_none
  | succ f ih =>
    intro v3_5 v4_5
    rw [lp_Rp_tallySpoilt_5]
    refine aw_iload d_Rp_tallySpoilt_5 4 rfl ?_
    refine aw_aload_n d_Rp_tallySpoilt_7 1 rfl ?_
    refine aw_getI fl_Rp_28 kd_34 d_Rp_tallySpoilt_8 ?_
    refine aw_icmp_ge (tgt := 42) d_Rp_tallySpoilt_11 rfl (fun q11 => ?_) (fun q11 => ?_)
    · refine aw_sub (lo' := [(0, .ref 22), (1, .ref 34), (2, .int a2), (3, .int v3_5), (4, .int v4_5)]) [0, 1, 2, 3, 4] rfl ?_
      exact hkx5_42 _ _
    · refine aw_aload_n d_Rp_tallySpoilt_14 1 rfl ?_
      refine aw_iload d_Rp_tallySpoilt_15 4 rfl ?_
      refine aw_iload_n d_Rp_tallySpoilt_17 2 rfl ?_
      refine aw_V_p (As := [.int v4_5, .int a2]) (m_Di_isOf) cv_Rp_34 kd_34 rfl rfl rfl (Nat.le_of_ble_eq_true rfl) ⟨Nat.le_of_ble_eq_true rfl, Nat.le_of_ble_eq_true rfl⟩ ⟨Nat.le_refl _, Nat.le_refl _⟩ d_Rp_tallySpoilt_18 (fun y18 => ?_)
      refine aw_if_eq (tgt := 36) d_Rp_tallySpoilt_21 rfl (fun q21 => ?_) (fun q21 => ?_)
      · refine aw_iinc (v := (v4_5 + (1 : Int32))) (lo' := [(4, .int (v4_5 + (1 : Int32))), (0, .ref 22), (1, .ref 34), (2, .int a2), (3, .int v3_5)]) d_Rp_tallySpoilt_36 4 rfl (by rw [show Int32.ofInt (1) = (1 : Int32) from by decide]) (by decide) rfl ?_
        refine aw_goto (tgt := 5) d_Rp_tallySpoilt_39 rfl ?_
        refine aw_sub (lo' := [(0, .ref 22), (1, .ref 34), (2, .int a2), (3, .int v3_5), (4, .int (v4_5 + (1 : Int32)))]) [1, 2, 3, 4, 0] rfl ?_
        exact ih _ _
      · refine aw_aload_n d_Rp_tallySpoilt_24 0 rfl ?_
        refine aw_iload d_Rp_tallySpoilt_25 4 rfl ?_
        refine aw_V_p (As := [.int v4_5]) (m_Rp_spoilerOf) cv_Rp_121 kd_22 rfl rfl rfl (Nat.le_of_ble_eq_true rfl) ⟨Nat.le_of_ble_eq_true rfl, Nat.le_of_ble_eq_true rfl⟩ ⟨Nat.le_refl _, Nat.le_refl _⟩ d_Rp_tallySpoilt_27 (fun y27 => ?_)
        refine aw_if_eq (tgt := 36) d_Rp_tallySpoilt_30 rfl (fun q30 => ?_) (fun q30 => ?_)
        · refine aw_iinc (v := (v4_5 + (1 : Int32))) (lo' := [(4, .int (v4_5 + (1 : Int32))), (0, .ref 22), (1, .ref 34), (2, .int a2), (3, .int v3_5)]) d_Rp_tallySpoilt_36 4 rfl (by rw [show Int32.ofInt (1) = (1 : Int32) from by decide]) (by decide) rfl ?_
          refine aw_goto (tgt := 5) d_Rp_tallySpoilt_39 rfl ?_
          refine aw_sub (lo' := [(0, .ref 22), (1, .ref 34), (2, .int a2), (3, .int v3_5), (4, .int (v4_5 + (1 : Int32)))]) [1, 2, 3, 4, 0] rfl ?_
          exact ih _ _
        · refine aw_iinc (v := (v3_5 + (1 : Int32))) (lo' := [(3, .int (v3_5 + (1 : Int32))), (0, .ref 22), (1, .ref 34), (2, .int a2), (4, .int v4_5)]) d_Rp_tallySpoilt_33 3 rfl (by rw [show Int32.ofInt (1) = (1 : Int32) from by decide]) (by decide) rfl ?_
          refine aw_iinc (v := (v4_5 + (1 : Int32))) (lo' := [(4, .int (v4_5 + (1 : Int32))), (3, .int (v3_5 + (1 : Int32))), (0, .ref 22), (1, .ref 34), (2, .int a2)]) d_Rp_tallySpoilt_36 4 rfl (by rw [show Int32.ofInt (1) = (1 : Int32) from by decide]) (by decide) rfl ?_
          refine aw_goto (tgt := 5) d_Rp_tallySpoilt_39 rfl ?_
          refine aw_sub (lo' := [(0, .ref 22), (1, .ref 34), (2, .int a2), (3, .int (v3_5 + (1 : Int32))), (4, .int (v4_5 + (1 : Int32)))]) [2, 3, 4, 1, 0] rfl ?_
          exact ih _ _
def f_Rp_tallySpoilt (a2 : Int32) (δ : Dm) : Option Int32 := (lp_Rp_tallySpoilt_5 (fun v3_5x v4_5x => (some v3_5x)) a2 δ FU (0 : Int32) (0 : Int32))
set_option maxHeartbeats 4000000 in
set_option maxRecDepth 100000 in
theorem m_Rp_tallySpoilt {a2 : Int32} {δ : Dm} {n : Nat} : ∀ x, f_Rp_tallySpoilt a2 δ = some x → AMet k_Rp_tallySpoilt 3 0 0 [.ref 22, .ref 34, .int a2] δ RT n (Kp δ RT n x) := by
  refine aw_start (lo := [(0, .ref 22), (1, .ref 34), (2, .int a2)]) mok_Rp_tallySpoilt rfl (Nat.le_of_ble_eq_true rfl) ?_
  unfold f_Rp_tallySpoilt
  refine aw_iconst d_Rp_tallySpoilt_0 ki_0 ?_
  refine aw_istore_n (lo' := [(3, .int (0 : Int32)), (0, .ref 22), (1, .ref 34), (2, .int a2)]) d_Rp_tallySpoilt_1 rfl (by decide) rfl ?_
  refine aw_iconst d_Rp_tallySpoilt_2 ki_0 ?_
  refine aw_istore (lo' := [(4, .int (0 : Int32)), (3, .int (0 : Int32)), (0, .ref 22), (1, .ref 34), (2, .int a2)]) d_Rp_tallySpoilt_3 (by decide) rfl ?_
  refine aw_sub (lo' := [(0, .ref 22), (1, .ref 34), (2, .int a2), (3, .int (0 : Int32)), (4, .int (0 : Int32))]) [2, 3, 4, 1, 0] rfl ?_
  refine tl_Rp_tallySpoilt_5 _ _ _ (fun v3_5x v4_5x => ?_) FU _ _
  · refine aw_iload_n d_Rp_tallySpoilt_42 3 rfl ?_
    exact aw_iret rfl rfl ⟨Nat.le_refl _, Nat.le_refl _⟩ d_Rp_tallySpoilt_43
def f_Fp_with (a1 : Int32) (a2 : Int32) (a3 : Int32) (δ : Dm) : Option (Int32 × Dm) := ((f_To_boothAt a1 δ).bind (fun o5 => ocs o5 (some ((-1 : Int32), δ)) (fun t5 => if isB t5 = true then ((f_Fp_isBath a2 δ).bind (fun y16 => (if y16 = 0 then (some ((-1 : Int32), δ)) else ((f_Fp_within a3 (gI δ t5 3) (gI δ 29 0) δ).bind (fun y35 => (if y35 = 0 then (some ((-1 : Int32), δ)) else ((f_Fp_lawAt (gI δ t5 2) δ).bind (fun o49 => ocs o49 (some ((-1 : Int32), δ)) (fun t49 => if isL t49 = true then ((f_Rp_runAll a1 t49 δ).bind (fun y76 => ((f_Rp_runBath a1 t49 a2 a3 y76).bind (fun y96 => ((f_Rp_tallySpoilt a1 y96).bind (fun y111 => (some (y111, y96)))))))) else none))))))))) else none)))
set_option maxHeartbeats 4000000 in
set_option maxRecDepth 100000 in
theorem m_Fp_with {a1 : Int32} {a2 : Int32} {a3 : Int32} {δ : Dm} {n : Nat} : ∀ x, f_Fp_with a1 a2 a3 δ = some x → AMet k_Fp_with 7 0 0 [.ref 4, .int a1, .int a2, .int a3] δ RT n (Km RT n x) := by
  refine aw_start (lo := [(0, .ref 4), (1, .int a1), (2, .int a2), (3, .int a3)]) mok_Fp_with rfl (Nat.le_of_ble_eq_true rfl) ?_
  unfold f_Fp_with
  refine aw_aload_n d_Fp_with_0 0 rfl ?_
  refine aw_getR (t := 29) fl_Fp_57 kd_4 rt_4_9 d_Fp_with_1 ?_
  refine aw_iload_n d_Fp_with_4 1 rfl ?_
  refine aw_V_r (As := [.int a1]) (m_To_boothAt) cv_Fp_139 kd_29 rfl rfl rfl (Nat.le_of_ble_eq_true rfl) ⟨Nat.le_of_ble_eq_true rfl, Nat.le_of_ble_eq_true rfl⟩ ⟨Nat.le_refl _, Nat.le_refl _⟩ d_Fp_with_5 ?_ (fun t5 => ?_)
  · refine aw_astoreN (lo' := [(4, .null), (0, .ref 4), (1, .int a1), (2, .int a2), (3, .int a3)]) d_Fp_with_8 (by decide) rfl ?_
    refine aw_aloadN d_Fp_with_10 0 rfl ?_
    refine aw_ifnullN (tgt := 41) d_Fp_with_12 rfl ?_
    refine aw_iconst d_Fp_with_41 ki_m1 ?_
    exact aw_iret rfl rfl ⟨Nat.le_refl _, Nat.le_refl _⟩ d_Fp_with_42
  · refine aw_grd (fun ht5 => ?_)
    refine aw_astore (lo' := [(4, .ref t5), (0, .ref 4), (1, .int a1), (2, .int a2), (3, .int a3)]) d_Fp_with_8 (by decide) rfl ?_
    refine aw_aload d_Fp_with_10 0 rfl ?_
    refine aw_ifnull d_Fp_with_12 ?_
    refine aw_iload_n d_Fp_with_15 3 rfl ?_
    refine aw_S_p (As := [.int a2]) (m_Fp_isBath) cs_Fp_203 rfl rfl (Nat.le_of_ble_eq_true rfl) ⟨Nat.le_of_ble_eq_true rfl, Nat.le_of_ble_eq_true rfl⟩ ⟨Nat.le_refl _, Nat.le_refl _⟩ d_Fp_with_16 (fun y16 => ?_)
    refine aw_if_eq (tgt := 41) d_Fp_with_19 rfl (fun q19 => ?_) (fun q19 => ?_)
    · refine aw_iconst d_Fp_with_41 ki_m1 ?_
      exact aw_iret rfl rfl ⟨Nat.le_refl _, Nat.le_refl _⟩ d_Fp_with_42
    · refine aw_iload_n d_Fp_with_22 4 rfl ?_
      refine aw_aload d_Fp_with_23 0 rfl ?_
      refine aw_getI fl_Fp_239 (fx_isBK ht5 0 (by decide)) d_Fp_with_25 ?_
      refine aw_aload_n d_Fp_with_28 1 rfl ?_
      refine aw_getR (t := 29) fl_Fp_57 kd_4 rt_4_9 d_Fp_with_29 ?_
      refine aw_getI fl_Fp_130 kd_29 d_Fp_with_32 ?_
      refine aw_S_p (As := [.int a3, .int (gI δ t5 3), .int (gI δ 29 0)]) (m_Fp_within) cs_Fp_70 rfl rfl (Nat.le_of_ble_eq_true rfl) ⟨Nat.le_of_ble_eq_true rfl, Nat.le_of_ble_eq_true rfl⟩ ⟨Nat.le_refl _, Nat.le_refl _⟩ d_Fp_with_35 (fun y35 => ?_)
      refine aw_if_ne (tgt := 43) d_Fp_with_38 rfl (fun q38 => ?_) (fun q38 => ?_)
      · refine aw_iconst d_Fp_with_41 ki_m1 ?_
        exact aw_iret rfl rfl ⟨Nat.le_refl _, Nat.le_refl _⟩ d_Fp_with_42
      · refine aw_aload_n d_Fp_with_43 1 rfl ?_
        refine aw_aload d_Fp_with_44 0 rfl ?_
        refine aw_getI fl_Fp_157 (fx_isBK ht5 0 (by decide)) d_Fp_with_46 ?_
        refine aw_V_r (As := [.int (gI δ t5 2)]) (m_Fp_lawAt) cv_Fp_126 kd_4 rfl rfl rfl (Nat.le_of_ble_eq_true rfl) ⟨Nat.le_of_ble_eq_true rfl, Nat.le_of_ble_eq_true rfl⟩ ⟨Nat.le_refl _, Nat.le_refl _⟩ d_Fp_with_49 ?_ (fun t49 => ?_)
        · refine aw_astoreN (lo' := [(5, .null), (4, .ref t5), (0, .ref 4), (1, .int a1), (2, .int a2), (3, .int a3)]) d_Fp_with_52 (by decide) rfl ?_
          refine aw_aloadN d_Fp_with_54 0 rfl ?_
          refine aw_ifnonnullN d_Fp_with_56 ?_
          refine aw_iconst d_Fp_with_59 ki_m1 ?_
          exact aw_iret rfl rfl ⟨Nat.le_refl _, Nat.le_refl _⟩ d_Fp_with_60
        · refine aw_grd (fun ht49 => ?_)
          refine aw_astore (lo' := [(5, .ref t49), (4, .ref t5), (0, .ref 4), (1, .int a1), (2, .int a2), (3, .int a3)]) d_Fp_with_52 (by decide) rfl ?_
          refine aw_aload d_Fp_with_54 0 rfl ?_
          refine aw_ifnonnull (tgt := 61) d_Fp_with_56 rfl ?_
          refine aw_aload_n d_Fp_with_61 2 rfl ?_
          refine aw_getR (t := 22) fl_Fp_36 kd_4 rt_4_6 d_Fp_with_62 ?_
          refine aw_aload_n d_Fp_with_65 2 rfl ?_
          refine aw_getR (t := 29) fl_Fp_57 kd_4 rt_4_9 d_Fp_with_66 ?_
          refine aw_iload_n d_Fp_with_69 3 rfl ?_
          refine aw_aload d_Fp_with_70 0 rfl ?_
          refine aw_aload_n d_Fp_with_72 2 rfl ?_
          refine aw_getR (t := 19) fl_Fp_29 kd_4 rt_4_5 d_Fp_with_73 ?_
          refine aw_V_v (As := [.ref 29, .int a1, .ref t49, .ref 19]) (m_Rp_runAll ht49) cv_Fp_231 kd_22 rfl rfl rfl (Nat.le_of_ble_eq_true rfl) ⟨Nat.le_of_ble_eq_true rfl, Nat.le_of_ble_eq_true rfl⟩ ⟨Nat.le_refl _, Nat.le_refl _⟩ d_Fp_with_76 (fun y76 => ?_)
          refine aw_aload_n d_Fp_with_79 2 rfl ?_
          refine aw_getR (t := 22) fl_Fp_36 kd_4 rt_4_6 d_Fp_with_80 ?_
          refine aw_aload_n d_Fp_with_83 2 rfl ?_
          refine aw_getR (t := 29) fl_Fp_57 kd_4 rt_4_9 d_Fp_with_84 ?_
          refine aw_iload_n d_Fp_with_87 3 rfl ?_
          refine aw_aload d_Fp_with_88 0 rfl ?_
          refine aw_iload_n d_Fp_with_90 4 rfl ?_
          refine aw_iload_n d_Fp_with_91 5 rfl ?_
          refine aw_aload_n d_Fp_with_92 2 rfl ?_
          refine aw_getR (t := 19) fl_Fp_29 kd_4 rt_4_5 d_Fp_with_93 ?_
          refine aw_V_v (As := [.ref 29, .int a1, .ref t49, .int a2, .int a3, .ref 19]) (m_Rp_runBath ht49) cv_Fp_242 kd_22 rfl rfl rfl (Nat.le_of_ble_eq_true rfl) ⟨Nat.le_of_ble_eq_true rfl, Nat.le_of_ble_eq_true rfl⟩ ⟨Nat.le_refl _, Nat.le_refl _⟩ d_Fp_with_96 (fun y96 => ?_)
          refine aw_aload_n d_Fp_with_99 2 rfl ?_
          refine aw_getR (t := 22) fl_Fp_36 kd_4 rt_4_6 d_Fp_with_100 ?_
          refine aw_aload_n d_Fp_with_103 2 rfl ?_
          refine aw_getR (t := 29) fl_Fp_57 kd_4 rt_4_9 d_Fp_with_104 ?_
          refine aw_getR (t := 34) fl_Fp_148 kd_29 rt_29_7 d_Fp_with_107 ?_
          refine aw_iload_n d_Fp_with_110 3 rfl ?_
          refine aw_V_p (As := [.ref 34, .int a1]) (m_Rp_tallySpoilt) cv_Fp_246 kd_22 rfl rfl rfl (Nat.le_of_ble_eq_true rfl) ⟨Nat.le_of_ble_eq_true rfl, Nat.le_of_ble_eq_true rfl⟩ ⟨Nat.le_refl _, Nat.le_refl _⟩ d_Fp_with_111 (fun y111 => ?_)
          exact aw_iret rfl rfl ⟨Nat.le_refl _, Nat.le_refl _⟩ d_Fp_with_114
