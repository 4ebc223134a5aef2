def lp_Fp_finest_74 (kx74_142 : Int32 → Int32 → Int32 → Dm → Option (Int32 × Dm)) (a1 : Int32) (a2 : Int32) (t5 : Nat) (t27 : Nat) : Nat → Int32 → Int32 → Int32 → Dm → Option (Int32 × Dm)
  | 0, _, _, _, _ => none
  | f + 1, v5_74, v6_74, v7_74, δ74 => (if v7_74 < (gI δ74 t5 3) then (kx74_142 v5_74 v6_74 v7_74 δ74) else ((f_Rp_runBath a1 t27 a2 v7_74 δ74).bind (fun y101 => ((f_Rp_tallySpoilt a1 y101).bind (fun y116 => (if v6_74 < y116 then (lp_Fp_finest_74 kx74_142 a1 a2 t5 t27 f v5_74 v6_74 (v7_74 + (-1 : Int32)) y101) else (lp_Fp_finest_74 kx74_142 a1 a2 t5 t27 f v7_74 y116 (v7_74 + (-1 : Int32)) y101)))))))
set_option maxHeartbeats 4000000 in
set_option maxRecDepth 100000 in
theorem tl_Fp_finest_74 {n : Nat} (kx74_142 : Int32 → Int32 → Int32 → Dm → Option (Int32 × Dm)) (a1 : Int32) (a2 : Int32) (t5 : Nat) (t27 : Nat) (ht5 : isB t5 = true) (ht27 : isL t27 = true) (hkx74_142 : ∀ v5_74k v6_74k v7_74k δ74k, AWo k_Fp_finest 7 0 0 142 [(0, .ref 4), (1, .int a1), (2, .int a2), (3, .ref t5), (4, .ref t27), (5, .int v5_74k), (6, .int v6_74k), (7, .int v7_74k)] [] δ74k RT n 0 0 (Km RT n) (kx74_142 v5_74k v6_74k v7_74k δ74k)) : ∀ (f : Nat) (v5_74 : Int32) (v6_74 : Int32) (v7_74 : Int32) (δ74 : Dm), AWo k_Fp_finest 7 0 0 74 [(0, .ref 4), (1, .int a1), (2, .int a2), (3, .ref t5), (4, .ref t27), (5, .int v5_74), (6, .int v6_74), (7, .int v7_74)] [] δ74 RT n 0 0 (Km RT n) (lp_Fp_finest_74 kx74_142 a1 a2 t5 t27 f v5_74 v6_74 v7_74 δ74) := by
  intro f
  induction f with
  | zero => intro _ _ _ _; exact aw_none
  | succ f ih =>
    intro v5_74 v6_74 v7_74 δ74
    rw [lp_Fp_finest_74]
    refine aw_iload d_Fp_finest_74 7 rfl ?_
    refine aw_aload_n d_Fp_finest_76 3 rfl ?_
    refine aw_getI fl_Fp_239 (fx_isBK ht5 0 (by decide)) d_Fp_finest_77 ?_
    refine aw_icmp_lt (tgt := 142) d_Fp_finest_80 rfl (fun q80 => ?_) (fun q80 => ?_)
    · refine aw_sub (lo' := [(0, .ref 4), (1, .int a1), (2, .int a2), (3, .ref t5), (4, .ref t27), (5, .int v5_74), (6, .int v6_74), (7, .int v7_74)]) [0, 1, 2, 3, 4, 5, 6, 7] rfl ?_
      exact hkx74_142 _ _ _ _
    · refine aw_aload_n d_Fp_finest_83 0 rfl ?_
      refine aw_getR (t := 22) fl_Fp_36 kd_4 rt_4_6 d_Fp_finest_84 ?_
      refine aw_aload_n d_Fp_finest_87 0 rfl ?_
      refine aw_getR (t := 29) fl_Fp_57 kd_4 rt_4_9 d_Fp_finest_88 ?_
      refine aw_iload_n d_Fp_finest_91 1 rfl ?_
      refine aw_aload d_Fp_finest_92 4 rfl ?_
      refine aw_iload_n d_Fp_finest_94 2 rfl ?_
      refine aw_iload d_Fp_finest_95 7 rfl ?_
      refine aw_aload_n d_Fp_finest_97 0 rfl ?_
      refine aw_getR (t := 19) fl_Fp_29 kd_4 rt_4_5 d_Fp_finest_98 ?_
      refine aw_V_v (As := [.ref 29, .int a1, .ref t27, .int a2, .int v7_74, .ref 19]) (m_Rp_runBath ht27) cv_Fp_242 kd_22 rfl rfl rfl (Nat.le_of_ble_eq_true rfl) ⟨Nat.le_of_ble_eq_true rfl, Nat.le_of_ble_eq_true rfl⟩ ⟨Nat.le_refl _, Nat.le_refl _⟩ d_Fp_finest_101 (fun y101 => ?_)
      refine aw_aload_n d_Fp_finest_104 0 rfl ?_
      refine aw_getR (t := 22) fl_Fp_36 kd_4 rt_4_6 d_Fp_finest_105 ?_
      refine aw_aload_n d_Fp_finest_108 0 rfl ?_
      refine aw_getR (t := 29) fl_Fp_57 kd_4 rt_4_9 d_Fp_finest_109 ?_
      refine aw_getR (t := 34) fl_Fp_148 kd_29 rt_29_7 d_Fp_finest_112 ?_
      refine aw_iload_n d_Fp_finest_115 1 rfl ?_
      refine aw_V_p (As := [.ref 34, .int a1]) (m_Rp_tallySpoilt) cv_Fp_246 kd_22 rfl rfl rfl (Nat.le_of_ble_eq_true rfl) ⟨Nat.le_of_ble_eq_true rfl, Nat.le_of_ble_eq_true rfl⟩ ⟨Nat.le_refl _, Nat.le_refl _⟩ d_Fp_finest_116 (fun y116 => ?_)
      refine aw_istore (lo' := [(8, .int y116), (0, .ref 4), (1, .int a1), (2, .int a2), (3, .ref t5), (4, .ref t27), (5, .int v5_74), (6, .int v6_74), (7, .int v7_74)]) d_Fp_finest_119 (by decide) rfl ?_
      refine aw_iload d_Fp_finest_121 0 rfl ?_
      refine aw_iload d_Fp_finest_123 7 rfl ?_
      refine aw_icmp_gt (tgt := 136) d_Fp_finest_125 rfl (fun q125 => ?_) (fun q125 => ?_)
      · refine aw_iinc (v := (v7_74 + (-1 : Int32))) (lo' := [(7, .int (v7_74 + (-1 : Int32))), (8, .int y116), (0, .ref 4), (1, .int a1), (2, .int a2), (3, .ref t5), (4, .ref t27), (5, .int v5_74), (6, .int v6_74)]) d_Fp_finest_136 8 rfl (by rw [show Int32.ofInt (-1) = (-1 : Int32) from by decide]) (by decide) rfl ?_
        refine aw_goto (tgt := 74) d_Fp_finest_139 rfl ?_
        refine aw_sub (lo' := [(0, .ref 4), (1, .int a1), (2, .int a2), (3, .ref t5), (4, .ref t27), (5, .int v5_74), (6, .int v6_74), (7, .int (v7_74 + (-1 : Int32)))]) [2, 3, 4, 5, 6, 7, 8, 0] rfl ?_
        exact ih _ _ _ _
      · refine aw_iload d_Fp_finest_128 0 rfl ?_
        refine aw_istore (lo' := [(6, .int y116), (8, .int y116), (0, .ref 4), (1, .int a1), (2, .int a2), (3, .ref t5), (4, .ref t27), (5, .int v5_74), (7, .int v7_74)]) d_Fp_finest_130 (by decide) rfl ?_
        refine aw_iload d_Fp_finest_132 8 rfl ?_
        refine aw_istore (lo' := [(5, .int v7_74), (6, .int y116), (8, .int y116), (0, .ref 4), (1, .int a1), (2, .int a2), (3, .ref t5), (4, .ref t27), (7, .int v7_74)]) d_Fp_finest_134 (by decide) rfl ?_
        refine aw_iinc (v := (v7_74 + (-1 : Int32))) (lo' := [(7, .int (v7_74 + (-1 : Int32))), (5, .int v7_74), (6, .int y116), (8, .int y116), (0, .ref 4), (1, .int a1), (2, .int a2), (3, .ref t5), (4, .ref t27)]) d_Fp_finest_136 8 rfl (by rw [show Int32.ofInt (-1) = (-1 : Int32) from by decide]) (by decide) rfl ?_
        refine aw_goto (tgt := 74) d_Fp_finest_139 rfl ?_
        refine aw_sub (lo' := [(0, .ref 4), (1, .int a1), (2, .int a2), (3, .ref t5), (4, .ref t27), (5, .int v7_74), (6, .int y116), (7, .int (v7_74 + (-1 : Int32)))]) [4, 5, 6, 7, 8, 1, 2, 0] rfl ?_
        exact ih _ _ _ _
def f_Fp_finest (a1 : Int32) (a2 : Int32) (δ : Dm) : Option (Int32 × Dm) := ((f_To_boothAt a1 δ).bind (fun o5 => ocs o5 (some ((-1 : Int32), δ)) (fun t5 => if isB t5 = true then ((f_Fp_isBath a2 δ).bind (fun y14 => (if y14 = 0 then (some ((-1 : Int32), δ)) else ((f_Fp_lawAt (gI δ t5 2) δ).bind (fun o27 => ocs o27 (some ((-1 : Int32), δ)) (fun t27 => if isL t27 = true then ((f_Rp_runAll a1 t27 δ).bind (fun y54 => (bnd (gI y54 29 0) (fun v72 => (lp_Fp_finest_74 (fun v5_74x v6_74x v7_74x δ74x => (some (v5_74x, δ74x))) a1 a2 t5 t27 FU (-1 : Int32) (401 : Int32) v72 y54))))) else none)))))) else none)))
set_option maxHeartbeats 4000000 in
set_option maxRecDepth 100000 in
theorem m_Fp_finest {a1 : Int32} {a2 : Int32} {δ : Dm} {n : Nat} : ∀ x, f_Fp_finest a1 a2 δ = some x → AMet k_Fp_finest 7 0 0 [.ref 4, .int a1, .int a2] δ RT n (Km RT n x) := by
  refine aw_start (lo := [(0, .ref 4), (1, .int a1), (2, .int a2)]) mok_Fp_finest rfl (Nat.le_of_ble_eq_true rfl) ?_
  unfold f_Fp_finest
  refine aw_aload_n d_Fp_finest_0 0 rfl ?_
  refine aw_getR (t := 29) fl_Fp_57 kd_4 rt_4_9 d_Fp_finest_1 ?_
  refine aw_iload_n d_Fp_finest_4 1 rfl ?_
  refine aw_V_r (As := [.int a1]) (m_To_boothAt) cv_Fp_139 kd_29 rfl rfl rfl (Nat.le_of_ble_eq_true rfl) ⟨Nat.le_of_ble_eq_true rfl, Nat.le_of_ble_eq_true rfl⟩ ⟨Nat.le_refl _, Nat.le_refl _⟩ d_Fp_finest_5 ?_ (fun t5 => ?_)
  · refine aw_astoreN_n (lo' := [(3, .null), (0, .ref 4), (1, .int a1), (2, .int a2)]) d_Fp_finest_8 rfl (by decide) rfl ?_
    refine aw_aloadN_n d_Fp_finest_9 0 rfl ?_
    refine aw_ifnullN (tgt := 20) d_Fp_finest_10 rfl ?_
    refine aw_iconst d_Fp_finest_20 ki_m1 ?_
    exact aw_iret rfl rfl ⟨Nat.le_refl _, Nat.le_refl _⟩ d_Fp_finest_21
  · refine aw_grd (fun ht5 => ?_)
    refine aw_astore_n (lo' := [(3, .ref t5), (0, .ref 4), (1, .int a1), (2, .int a2)]) d_Fp_finest_8 rfl (by decide) rfl ?_
    refine aw_aload_n d_Fp_finest_9 0 rfl ?_
    refine aw_ifnull d_Fp_finest_10 ?_
    refine aw_iload_n d_Fp_finest_13 3 rfl ?_
    refine aw_S_p (As := [.int a2]) (m_Fp_isBath) cs_Fp_203 rfl rfl (Nat.le_of_ble_eq_true rfl) ⟨Nat.le_of_ble_eq_true rfl, Nat.le_of_ble_eq_true rfl⟩ ⟨Nat.le_refl _, Nat.le_refl _⟩ d_Fp_finest_14 (fun y14 => ?_)
    refine aw_if_ne (tgt := 22) d_Fp_finest_17 rfl (fun q17 => ?_) (fun q17 => ?_)
    · refine aw_iconst d_Fp_finest_20 ki_m1 ?_
      exact aw_iret rfl rfl ⟨Nat.le_refl _, Nat.le_refl _⟩ d_Fp_finest_21
    · refine aw_aload_n d_Fp_finest_22 1 rfl ?_
      refine aw_aload_n d_Fp_finest_23 0 rfl ?_
      refine aw_getI fl_Fp_157 (fx_isBK ht5 0 (by decide)) d_Fp_finest_24 ?_
      refine aw_V_r (As := [.int (gI δ t5 2)]) (m_Fp_lawAt) cv_Fp_126 kd_4 rfl rfl rfl (Nat.le_of_ble_eq_true rfl) ⟨Nat.le_of_ble_eq_true rfl, Nat.le_of_ble_eq_true rfl⟩ ⟨Nat.le_refl _, Nat.le_refl _⟩ d_Fp_finest_27 ?_ (fun t27 => ?_)
      · refine aw_astoreN (lo' := [(4, .null), (3, .ref t5), (0, .ref 4), (1, .int a1), (2, .int a2)]) d_Fp_finest_30 (by decide) rfl ?_
        refine aw_aloadN d_Fp_finest_32 0 rfl ?_
        refine aw_ifnonnullN d_Fp_finest_34 ?_
        refine aw_iconst d_Fp_finest_37 ki_m1 ?_
        exact aw_iret rfl rfl ⟨Nat.le_refl _, Nat.le_refl _⟩ d_Fp_finest_38
      · refine aw_grd (fun ht27 => ?_)
        refine aw_astore (lo' := [(4, .ref t27), (3, .ref t5), (0, .ref 4), (1, .int a1), (2, .int a2)]) d_Fp_finest_30 (by decide) rfl ?_
        refine aw_aload d_Fp_finest_32 0 rfl ?_
        refine aw_ifnonnull (tgt := 39) d_Fp_finest_34 rfl ?_
        refine aw_aload_n d_Fp_finest_39 2 rfl ?_
        refine aw_getR (t := 22) fl_Fp_36 kd_4 rt_4_6 d_Fp_finest_40 ?_
        refine aw_aload_n d_Fp_finest_43 2 rfl ?_
        refine aw_getR (t := 29) fl_Fp_57 kd_4 rt_4_9 d_Fp_finest_44 ?_
        refine aw_iload_n d_Fp_finest_47 3 rfl ?_
        refine aw_aload d_Fp_finest_48 0 rfl ?_
        refine aw_aload_n d_Fp_finest_50 2 rfl ?_
        refine aw_getR (t := 19) fl_Fp_29 kd_4 rt_4_5 d_Fp_finest_51 ?_
        refine aw_V_v (As := [.ref 29, .int a1, .ref t27, .ref 19]) (m_Rp_runAll ht27) cv_Fp_231 kd_22 rfl rfl rfl (Nat.le_of_ble_eq_true rfl) ⟨Nat.le_of_ble_eq_true rfl, Nat.le_of_ble_eq_true rfl⟩ ⟨Nat.le_refl _, Nat.le_refl _⟩ d_Fp_finest_54 (fun y54 => ?_)
        refine aw_iconst d_Fp_finest_57 ki_m1 ?_
        refine aw_istore (lo' := [(5, .int (-1 : Int32)), (4, .ref t27), (3, .ref t5), (0, .ref 4), (1, .int a1), (2, .int a2)]) d_Fp_finest_58 (by decide) rfl ?_
        refine aw_sipush d_Fp_finest_60 ks_401 ?_
        refine aw_istore (lo' := [(6, .int (401 : Int32)), (5, .int (-1 : Int32)), (4, .ref t27), (3, .ref t5), (0, .ref 4), (1, .int a1), (2, .int a2)]) d_Fp_finest_63 (by decide) rfl ?_
        refine aw_aload_n d_Fp_finest_65 4 rfl ?_
        refine aw_getR (t := 29) fl_Fp_57 kd_4 rt_4_9 d_Fp_finest_66 ?_
        refine aw_getI fl_Fp_130 kd_29 d_Fp_finest_69 ?_
        refine aw_bI (fun v72 => ?_)
        refine aw_istore (lo' := [(7, .int v72), (6, .int (401 : Int32)), (5, .int (-1 : Int32)), (4, .ref t27), (3, .ref t5), (0, .ref 4), (1, .int a1), (2, .int a2)]) d_Fp_finest_72 (by decide) rfl ?_
        refine aw_sub (lo' := [(0, .ref 4), (1, .int a1), (2, .int a2), (3, .ref t5), (4, .ref t27), (5, .int (-1 : Int32)), (6, .int (401 : Int32)), (7, .int v72)]) [5, 6, 7, 4, 3, 2, 1, 0] rfl ?_
        refine tl_Fp_finest_74 _ _ _ _ _ ht5 ht27 (fun v5_74x v6_74x v7_74x δ74x => ?_) FU _ _ _ _
        · refine aw_iload d_Fp_finest_142 5 rfl ?_
          exact aw_iret rfl rfl ⟨Nat.le_refl _, Nat.le_refl _⟩ d_Fp_finest_144
def f_Po_addReading (a1 : Int32) (a2 : Int32) (a3 : Int32) (a4 : Int32) (a5 : Int32) (δ : Dm) : Option Dm := ((f_Fp_put 46 (gI δ 45 0) a1 δ).bind (fun y9 => ((f_Fp_put 47 (gI y9 45 0) a2 y9).bind (fun y21 => ((f_Fp_put 48 (gI y21 45 0) a3 y21).bind (fun y33 => ((f_Fp_put 49 (gI y33 45 0) a4 y33).bind (fun y46 => ((f_Fp_put 50 (gI y46 45 0) a5 y46).bind (fun y59 => (bnd (sI y59 45 0 ((gI y59 45 0) + (1 : Int32))) (fun δ_69 => (some δ_69)))))))))))))
set_option maxHeartbeats 4000000 in
set_option maxRecDepth 100000 in
theorem m_Po_addReading {a1 : Int32} {a2 : Int32} {a3 : Int32} {a4 : Int32} {a5 : Int32} {δ : Dm} {n : Nat} : ∀ x, f_Po_addReading a1 a2 a3 a4 a5 δ = some x → AMet k_Po_addReading 2 0 0 [.ref 45, .int a1, .int a2, .int a3, .int a4, .int a5] δ RT n (Kv RT n x) := by
  refine aw_start (lo := [(0, .ref 45), (1, .int a1), (2, .int a2), (3, .int a3), (4, .int a4), (5, .int a5)]) mok_Po_addReading rfl (Nat.le_of_ble_eq_true rfl) ?_
  unfold f_Po_addReading
  refine aw_aload_n d_Po_addReading_0 0 rfl ?_
  refine aw_getR (t := 46) fl_Po_9 kd_45 rt_45_2 d_Po_addReading_1 ?_
  refine aw_aload_n d_Po_addReading_4 0 rfl ?_
  refine aw_getI fl_Po_36 kd_45 d_Po_addReading_5 ?_
  refine aw_iload_n d_Po_addReading_8 1 rfl ?_
  refine aw_SN_v (As := [.ref 46, .int (gI δ 45 0), .int a1]) (m_Fp_put (congrArg Prod.fst kd_46)) cs_Po_47 rfl rfl (Nat.le_of_ble_eq_true rfl) ⟨Nat.le_of_ble_eq_true rfl, Nat.le_of_ble_eq_true rfl⟩ ⟨Nat.le_refl _, Nat.le_refl _⟩ d_Po_addReading_9 (fun y9 => ?_)
  refine aw_aload_n d_Po_addReading_12 0 rfl ?_
  refine aw_getR (t := 47) fl_Po_15 kd_45 rt_45_3 d_Po_addReading_13 ?_
  refine aw_aload_n d_Po_addReading_16 0 rfl ?_
  refine aw_getI fl_Po_36 kd_45 d_Po_addReading_17 ?_
  refine aw_iload_n d_Po_addReading_20 2 rfl ?_
  refine aw_SN_v (As := [.ref 47, .int (gI y9 45 0), .int a2]) (m_Fp_put (congrArg Prod.fst kd_47)) cs_Po_47 rfl rfl (Nat.le_of_ble_eq_true rfl) ⟨Nat.le_of_ble_eq_true rfl, Nat.le_of_ble_eq_true rfl⟩ ⟨Nat.le_refl _, Nat.le_refl _⟩ d_Po_addReading_21 (fun y21 => ?_)
  refine aw_aload_n d_Po_addReading_24 0 rfl ?_
  refine aw_getR (t := 48) fl_Po_18 kd_45 rt_45_4 d_Po_addReading_25 ?_
  refine aw_aload_n d_Po_addReading_28 0 rfl ?_
  refine aw_getI fl_Po_36 kd_45 d_Po_addReading_29 ?_
  refine aw_iload_n d_Po_addReading_32 3 rfl ?_
  refine aw_SN_v (As := [.ref 48, .int (gI y21 45 0), .int a3]) (m_Fp_put (congrArg Prod.fst kd_48)) cs_Po_47 rfl rfl (Nat.le_of_ble_eq_true rfl) ⟨Nat.le_of_ble_eq_true rfl, Nat.le_of_ble_eq_true rfl⟩ ⟨Nat.le_refl _, Nat.le_refl _⟩ d_Po_addReading_33 (fun y33 => ?_)
  refine aw_aload_n d_Po_addReading_36 0 rfl ?_
  refine aw_getR (t := 49) fl_Po_21 kd_45 rt_45_5 d_Po_addReading_37 ?_
  refine aw_aload_n d_Po_addReading_40 0 rfl ?_
  refine aw_getI fl_Po_36 kd_45 d_Po_addReading_41 ?_
  refine aw_iload d_Po_addReading_44 4 rfl ?_
  refine aw_SN_v (As := [.ref 49, .int (gI y33 45 0), .int a4]) (m_Fp_put (congrArg Prod.fst kd_49)) cs_Po_47 rfl rfl (Nat.le_of_ble_eq_true rfl) ⟨Nat.le_of_ble_eq_true rfl, Nat.le_of_ble_eq_true rfl⟩ ⟨Nat.le_refl _, Nat.le_refl _⟩ d_Po_addReading_46 (fun y46 => ?_)
  refine aw_aload_n d_Po_addReading_49 0 rfl ?_
  refine aw_getR (t := 50) fl_Po_24 kd_45 rt_45_6 d_Po_addReading_50 ?_
  refine aw_aload_n d_Po_addReading_53 0 rfl ?_
  refine aw_getI fl_Po_36 kd_45 d_Po_addReading_54 ?_
  refine aw_iload d_Po_addReading_57 5 rfl ?_
  refine aw_SN_v (As := [.ref 50, .int (gI y46 45 0), .int a5]) (m_Fp_put (congrArg Prod.fst kd_50)) cs_Po_47 rfl rfl (Nat.le_of_ble_eq_true rfl) ⟨Nat.le_of_ble_eq_true rfl, Nat.le_of_ble_eq_true rfl⟩ ⟨Nat.le_refl _, Nat.le_refl _⟩ d_Po_addReading_59 (fun y59 => ?_)
  refine aw_aload_n d_Po_addReading_62 0 rfl ?_
  refine aw_dup d_Po_addReading_63 rfl ?_
  refine aw_getI fl_Po_36 kd_45 d_Po_addReading_64 ?_
  refine aw_iconst d_Po_addReading_67 ki_1 ?_
  refine aw_iadd d_Po_addReading_68 ?_
  refine aw_putI pf_Po_36 kd_45 d_Po_addReading_69 ?_
  refine aw_bD (fun δ_69 => ?_)
  exact aw_vret rfl rfl ⟨Nat.le_refl _, Nat.le_refl _⟩ d_Po_addReading_72
def f_Fp_reading (a1 : Int32) (a2 : Int32) (a3 : Int32) (a4 : Int32) (δ : Dm) : Option (Int32 × Dm) := ((f_To_boothAt a1 δ).bind (fun o14 => ocs o14 (some ((-1 : Int32), δ)) (fun t14 => if isB t14 = true then ((f_Fp_within a2 (0 : Int32) (gI δ 29 0) δ).bind (fun y29 => (if y29 = 0 then (some ((-1 : Int32), δ)) else (if (gI δ 45 0) < (100 : Int32) then ((f_Fp_within a3 (0 : Int32) (99999 : Int32) δ).bind (fun y52 => (if y52 = 0 then (some ((-1 : Int32), δ)) else ((f_Fp_within a4 (0 : Int32) (99999999 : Int32) δ).bind (fun y64 => (if y64 = 0 then (some ((-1 : Int32), δ)) else ((f_Po_addReading a1 a2 a3 a4 (gI δ 29 0) δ).bind (fun y86 => (some ((gI y86 45 0), y86)))))))))) else (some ((-1 : Int32), δ)))))) else none)))
set_option maxHeartbeats 4000000 in
set_option maxRecDepth 100000 in
theorem m_Fp_reading {a1 : Int32} {a2 : Int32} {a3 : Int32} {a4 : Int32} {δ : Dm} {n : Nat} : ∀ x, f_Fp_reading a1 a2 a3 a4 δ = some x → AMet k_Fp_reading 3 0 0 [.ref 4, .int a1, .int a2, .int a3, .int a4] δ RT n (Km RT n x) := by
  refine aw_start (lo := [(0, .ref 4), (1, .int a1), (2, .int a2), (3, .int a3), (4, .int a4)]) mok_Fp_reading rfl (Nat.le_of_ble_eq_true rfl) ?_
  unfold f_Fp_reading
  refine aw_aload_n d_Fp_reading_0 0 rfl ?_
  refine aw_getR (t := 29) fl_Fp_57 kd_4 rt_4_9 d_Fp_reading_1 ?_
  refine aw_getR (t := 45) fl_Fp_250 kd_29 rt_29_8 d_Fp_reading_4 ?_
  refine aw_astore (lo' := [(5, .ref 45), (0, .ref 4), (1, .int a1), (2, .int a2), (3, .int a3), (4, .int a4)]) d_Fp_reading_7 (by decide) rfl ?_
  refine aw_aload_n d_Fp_reading_9 1 rfl ?_
  refine aw_getR (t := 29) fl_Fp_57 kd_4 rt_4_9 d_Fp_reading_10 ?_
  refine aw_iload_n d_Fp_reading_13 2 rfl ?_
  refine aw_V_r (As := [.int a1]) (m_To_boothAt) cv_Fp_139 kd_29 rfl rfl rfl (Nat.le_of_ble_eq_true rfl) ⟨Nat.le_of_ble_eq_true rfl, Nat.le_of_ble_eq_true rfl⟩ ⟨Nat.le_refl _, Nat.le_refl _⟩ d_Fp_reading_14 ?_ (fun t14 => ?_)
  · refine aw_ifnullN (tgt := 45) d_Fp_reading_17 rfl ?_
    refine aw_iconst d_Fp_reading_45 ki_m1 ?_
    exact aw_iret rfl rfl ⟨Nat.le_refl _, Nat.le_refl _⟩ d_Fp_reading_46
  · refine aw_grd (fun ht14 => ?_)
    refine aw_ifnull d_Fp_reading_17 ?_
    refine aw_iload_n d_Fp_reading_20 3 rfl ?_
    refine aw_iconst d_Fp_reading_21 ki_0 ?_
    refine aw_aload_n d_Fp_reading_22 1 rfl ?_
    refine aw_getR (t := 29) fl_Fp_57 kd_4 rt_4_9 d_Fp_reading_23 ?_
    refine aw_getI fl_Fp_130 kd_29 d_Fp_reading_26 ?_
    refine aw_S_p (As := [.int a2, .int (0 : Int32), .int (gI δ 29 0)]) (m_Fp_within) cs_Fp_70 rfl rfl (Nat.le_of_ble_eq_true rfl) ⟨Nat.le_of_ble_eq_true rfl, Nat.le_of_ble_eq_true rfl⟩ ⟨Nat.le_refl _, Nat.le_refl _⟩ d_Fp_reading_29 (fun y29 => ?_)
    refine aw_if_eq (tgt := 45) d_Fp_reading_32 rfl (fun q32 => ?_) (fun q32 => ?_)
    · refine aw_iconst d_Fp_reading_45 ki_m1 ?_
      exact aw_iret rfl rfl ⟨Nat.le_refl _, Nat.le_refl _⟩ d_Fp_reading_46
    · refine aw_aload d_Fp_reading_35 0 rfl ?_
      refine aw_getI fl_Fp_254 kd_45 d_Fp_reading_37 ?_
      refine aw_bipush d_Fp_reading_40 kb_100 ?_
      refine aw_icmp_lt (tgt := 47) d_Fp_reading_42 rfl (fun q42 => ?_) (fun q42 => ?_)
      · refine aw_iload_n d_Fp_reading_47 4 rfl ?_
        refine aw_iconst d_Fp_reading_48 ki_0 ?_
        refine aw_ldcw (v := (99999 : Int32)) d_Fp_reading_49 kc_Fp_259 ?_
        refine aw_S_p (As := [.int a3, .int (0 : Int32), .int (99999 : Int32)]) (m_Fp_within) cs_Fp_70 rfl rfl (Nat.le_of_ble_eq_true rfl) ⟨Nat.le_of_ble_eq_true rfl, Nat.le_of_ble_eq_true rfl⟩ ⟨Nat.le_refl _, Nat.le_refl _⟩ d_Fp_reading_52 (fun y52 => ?_)
        refine aw_if_eq (tgt := 70) d_Fp_reading_55 rfl (fun q55 => ?_) (fun q55 => ?_)
        · refine aw_iconst d_Fp_reading_70 ki_m1 ?_
          exact aw_iret rfl rfl ⟨Nat.le_refl _, Nat.le_refl _⟩ d_Fp_reading_71
        · refine aw_iload d_Fp_reading_58 5 rfl ?_
          refine aw_iconst d_Fp_reading_60 ki_0 ?_
          refine aw_ldcw (v := (99999999 : Int32)) d_Fp_reading_61 kc_Fp_260 ?_
          refine aw_S_p (As := [.int a4, .int (0 : Int32), .int (99999999 : Int32)]) (m_Fp_within) cs_Fp_70 rfl rfl (Nat.le_of_ble_eq_true rfl) ⟨Nat.le_of_ble_eq_true rfl, Nat.le_of_ble_eq_true rfl⟩ ⟨Nat.le_refl _, Nat.le_refl _⟩ d_Fp_reading_64 (fun y64 => ?_)
          refine aw_if_ne (tgt := 72) d_Fp_reading_67 rfl (fun q67 => ?_) (fun q67 => ?_)
          · refine aw_iconst d_Fp_reading_70 ki_m1 ?_
            exact aw_iret rfl rfl ⟨Nat.le_refl _, Nat.le_refl _⟩ d_Fp_reading_71
          · refine aw_aload d_Fp_reading_72 0 rfl ?_
            refine aw_iload_n d_Fp_reading_74 2 rfl ?_
            refine aw_iload_n d_Fp_reading_75 3 rfl ?_
            refine aw_iload_n d_Fp_reading_76 4 rfl ?_
            refine aw_iload d_Fp_reading_77 5 rfl ?_
            refine aw_aload_n d_Fp_reading_79 1 rfl ?_
            refine aw_getR (t := 29) fl_Fp_57 kd_4 rt_4_9 d_Fp_reading_80 ?_
            refine aw_getI fl_Fp_130 kd_29 d_Fp_reading_83 ?_
            refine aw_V_v (As := [.int a1, .int a2, .int a3, .int a4, .int (gI δ 29 0)]) (m_Po_addReading) cv_Fp_261 kd_45 rfl rfl rfl (Nat.le_of_ble_eq_true rfl) ⟨Nat.le_of_ble_eq_true rfl, Nat.le_of_ble_eq_true rfl⟩ ⟨Nat.le_refl _, Nat.le_refl _⟩ d_Fp_reading_86 (fun y86 => ?_)
            refine aw_aload d_Fp_reading_89 0 rfl ?_
            refine aw_getI fl_Fp_254 kd_45 d_Fp_reading_91 ?_
            exact aw_iret rfl rfl ⟨Nat.le_refl _, Nat.le_refl _⟩ d_Fp_reading_94
      · refine aw_iconst d_Fp_reading_45 ki_m1 ?_
        exact aw_iret rfl rfl ⟨Nat.le_refl _, Nat.le_refl _⟩ d_Fp_reading_46
def jp_Po_latestReading_66 (kr9 : Int32 → Int32 → Int32 → Option Int32) (kx9_94 : Int32 → Int32 → Int32 → Option Int32) (a1 : Int32) (a2 : Int32) (a3 : Int32) (v4_9 : Int32) (v5_9 : Int32) (v6_9 : Int32) (y24 : Int32) (δ : Dm) (s0_66 : Int32) : Option Int32 := (if s0_66 = 0 then (kr9 v4_9 v5_9 (v6_9 + (1 : Int32))) else (if y24 < v5_9 then (kr9 v4_9 v5_9 (v6_9 + (1 : Int32))) else (kr9 v6_9 y24 (v6_9 + (1 : Int32)))))
set_option maxHeartbeats 4000000 in
set_option maxRecDepth 100000 in
theorem tj_Po_latestReading_66 {n : Nat} (kr9 : Int32 → Int32 → Int32 → Option Int32) (kx9_94 : Int32 → Int32 → Int32 → Option Int32) (a1 : Int32) (a2 : Int32) (a3 : Int32) (v4_9 : Int32) (v5_9 : Int32) (v6_9 : Int32) (y24 : Int32) (δ : Dm) (s0_66 : Int32) (hkr9 : ∀ v4_9k v5_9k v6_9k, AWo k_Po_latestReading 2 0 0 9 [(0, .ref 45), (1, .int a1), (2, .int a2), (3, .int a3), (4, .int v4_9k), (5, .int v5_9k), (6, .int v6_9k)] [] δ RT n 0 0 (Kp δ RT n) (kr9 v4_9k v5_9k v6_9k)) (hkx9_94 : ∀ v4_9k v5_9k v6_9k, AWo k_Po_latestReading 2 0 0 94 [(0, .ref 45), (1, .int a1), (2, .int a2), (3, .int a3), (4, .int v4_9k), (5, .int v5_9k), (6, .int v6_9k)] [] δ RT n 0 0 (Kp δ RT n) (kx9_94 v4_9k v5_9k v6_9k)) : AWo k_Po_latestReading 2 0 0 66 [(0, .ref 45), (1, .int a1), (2, .int a2), (3, .int a3), (4, .int v4_9), (5, .int v5_9), (6, .int v6_9), (7, .int y24)] [.int s0_66] δ RT n 0 0 (Kp δ RT n) (jp_Po_latestReading_66 kr9 kx9_94 a1 a2 a3 v4_9 v5_9 v6_9 y24 δ s0_66) := by
  unfold jp_Po_latestReading_66
  refine aw_istore (lo' := [(8, .int s0_66), (0, .ref 45), (1, .int a1), (2, .int a2), (3, .int a3), (4, .int v4_9), (5, .int v5_9), (6, .int v6_9), (7, .int y24)]) d_Po_latestReading_66 (by decide) rfl ?_
  refine aw_iload d_Po_latestReading_68 0 rfl ?_
  refine aw_if_eq (tgt := 88) d_Po_latestReading_70 rfl (fun q70 => ?_) (fun q70 => ?_)
  · refine aw_iinc (v := (v6_9 + (1 : Int32))) (lo' := [(6, .int (v6_9 + (1 : Int32))), (8, .int s0_66), (0, .ref 45), (1, .int a1), (2, .int a2), (3, .int a3), (4, .int v4_9), (5, .int v5_9), (7, .int y24)]) d_Po_latestReading_88 7 rfl (by rw [show Int32.ofInt (1) = (1 : Int32) from by decide]) (by decide) rfl ?_
    refine aw_goto (tgt := 9) d_Po_latestReading_91 rfl ?_
    refine aw_sub (lo' := [(0, .ref 45), (1, .int a1), (2, .int a2), (3, .int a3), (4, .int v4_9), (5, .int v5_9), (6, .int (v6_9 + (1 : Int32)))]) [2, 3, 4, 5, 6, 7, 0] rfl ?_
    exact hkr9 _ _ _
  · refine aw_iload d_Po_latestReading_73 8 rfl ?_
    refine aw_iload d_Po_latestReading_75 6 rfl ?_
    refine aw_icmp_lt (tgt := 88) d_Po_latestReading_77 rfl (fun q77 => ?_) (fun q77 => ?_)
    · refine aw_iinc (v := (v6_9 + (1 : Int32))) (lo' := [(6, .int (v6_9 + (1 : Int32))), (8, .int s0_66), (0, .ref 45), (1, .int a1), (2, .int a2), (3, .int a3), (4, .int v4_9), (5, .int v5_9), (7, .int y24)]) d_Po_latestReading_88 7 rfl (by rw [show Int32.ofInt (1) = (1 : Int32) from by decide]) (by decide) rfl ?_
      refine aw_goto (tgt := 9) d_Po_latestReading_91 rfl ?_
      refine aw_sub (lo' := [(0, .ref 45), (1, .int a1), (2, .int a2), (3, .int a3), (4, .int v4_9), (5, .int v5_9), (6, .int (v6_9 + (1 : Int32)))]) [2, 3, 4, 5, 6, 7, 0] rfl ?_
      exact hkr9 _ _ _
    · refine aw_iload d_Po_latestReading_80 8 rfl ?_
      refine aw_istore (lo' := [(5, .int y24), (8, .int s0_66), (0, .ref 45), (1, .int a1), (2, .int a2), (3, .int a3), (4, .int v4_9), (6, .int v6_9), (7, .int y24)]) d_Po_latestReading_82 (by decide) rfl ?_
      refine aw_iload d_Po_latestReading_84 7 rfl ?_
      refine aw_istore (lo' := [(4, .int v6_9), (5, .int y24), (8, .int s0_66), (0, .ref 45), (1, .int a1), (2, .int a2), (3, .int a3), (6, .int v6_9), (7, .int y24)]) d_Po_latestReading_86 (by decide) rfl ?_
      refine aw_iinc (v := (v6_9 + (1 : Int32))) (lo' := [(6, .int (v6_9 + (1 : Int32))), (4, .int v6_9), (5, .int y24), (8, .int s0_66), (0, .ref 45), (1, .int a1), (2, .int a2), (3, .int a3), (7, .int y24)]) d_Po_latestReading_88 7 rfl (by rw [show Int32.ofInt (1) = (1 : Int32) from by decide]) (by decide) rfl ?_
      refine aw_goto (tgt := 9) d_Po_latestReading_91 rfl ?_
      refine aw_sub (lo' := [(0, .ref 45), (1, .int a1), (2, .int a2), (3, .int a3), (4, .int v6_9), (5, .int y24), (6, .int (v6_9 + (1 : Int32)))]) [4, 5, 6, 7, 1, 2, 0] rfl ?_
      exact hkr9 _ _ _
def jp_Po_latestReading_65 (kr9 : Int32 → Int32 → Int32 → Option Int32) (kx9_94 : Int32 → Int32 → Int32 → Option Int32) (a1 : Int32) (a2 : Int32) (a3 : Int32) (v4_9 : Int32) (v5_9 : Int32) (v6_9 : Int32) (y24 : Int32) (δ : Dm) : Option Int32 := (jp_Po_latestReading_66 kr9 kx9_94 a1 a2 a3 v4_9 v5_9 v6_9 y24 δ (0 : Int32))
set_option maxHeartbeats 4000000 in
set_option maxRecDepth 100000 in
theorem tj_Po_latestReading_65 {n : Nat} (kr9 : Int32 → Int32 → Int32 → Option Int32) (kx9_94 : Int32 → Int32 → Int32 → Option Int32) (a1 : Int32) (a2 : Int32) (a3 : Int32) (v4_9 : Int32) (v5_9 : Int32) (v6_9 : Int32) (y24 : Int32) (δ : Dm) (hkr9 : ∀ v4_9k v5_9k v6_9k, AWo k_Po_latestReading 2 0 0 9 [(0, .ref 45), (1, .int a1), (2, .int a2), (3, .int a3), (4, .int v4_9k), (5, .int v5_9k), (6, .int v6_9k)] [] δ RT n 0 0 (Kp δ RT n) (kr9 v4_9k v5_9k v6_9k)) (hkx9_94 : ∀ v4_9k v5_9k v6_9k, AWo k_Po_latestReading 2 0 0 94 [(0, .ref 45), (1, .int a1), (2, .int a2), (3, .int a3), (4, .int v4_9k), (5, .int v5_9k), (6, .int v6_9k)] [] δ RT n 0 0 (Kp δ RT n) (kx9_94 v4_9k v5_9k v6_9k)) : AWo k_Po_latestReading 2 0 0 65 [(0, .ref 45), (1, .int a1), (2, .int a2), (3, .int a3), (4, .int v4_9), (5, .int v5_9), (6, .int v6_9), (7, .int y24)] [] δ RT n 0 0 (Kp δ RT n) (jp_Po_latestReading_65 kr9 kx9_94 a1 a2 a3 v4_9 v5_9 v6_9 y24 δ) := by
  unfold jp_Po_latestReading_65
  refine aw_iconst d_Po_latestReading_65 ki_0 ?_
  refine aw_sub (lo' := [(0, .ref 45), (1, .int a1), (2, .int a2), (3, .int a3), (4, .int v4_9), (5, .int v5_9), (6, .int v6_9), (7, .int y24)]) [0, 1, 2, 3, 4, 5, 6, 7] rfl ?_
  exact tj_Po_latestReading_66 _ _ _ _ _ _ _ _ _ _ _ hkr9 hkx9_94
def lp_Po_latestReading_9 (kx9_94 : Int32 → Int32 → Int32 → Option Int32) (a1 : Int32) (a2 : Int32) (a3 : Int32) (δ : Dm) : Nat → Int32 → Int32 → Int32 → Option Int32
  | 0, _, _, _ => none
  | f + 1, v4_9, v5_9, v6_9 => (if (gI δ 45 0) ≤ v6_9 then (kx9_94 v4_9 v5_9 v6_9) else ((f_Fp_get 47 v6_9 δ).bind (fun y24 => ((f_Fp_get 46 v6_9 δ).bind (fun y35 => (if y35 = a1 then ((f_Fp_get 50 v6_9 δ).bind (fun y48 => (if a2 < y48 then (jp_Po_latestReading_65 (lp_Po_latestReading_9 kx9_94 a1 a2 a3 δ f) kx9_94 a1 a2 a3 v4_9 v5_9 v6_9 y24 δ) else (if a3 ≤ y24 then (jp_Po_latestReading_65 (lp_Po_latestReading_9 kx9_94 a1 a2 a3 δ f) kx9_94 a1 a2 a3 v4_9 v5_9 v6_9 y24 δ) else (jp_Po_latestReading_66 (lp_Po_latestReading_9 kx9_94 a1 a2 a3 δ f) kx9_94 a1 a2 a3 v4_9 v5_9 v6_9 y24 δ (1 : Int32)))))) else (jp_Po_latestReading_65 (lp_Po_latestReading_9 kx9_94 a1 a2 a3 δ f) kx9_94 a1 a2 a3 v4_9 v5_9 v6_9 y24 δ)))))))
set_option maxHeartbeats 4000000 in
set_option maxRecDepth 100000 in
theorem tl_Po_latestReading_9 {n : Nat} (kx9_94 : Int32 → Int32 → Int32 → Option Int32) (a1 : Int32) (a2 : Int32) (a3 : Int32) (δ : Dm) (hkx9_94 : ∀ v4_9k v5_9k v6_9k, AWo k_Po_latestReading 2 0 0 94 [(0, .ref 45), (1, .int a1), (2, .int a2), (3, .int a3), (4, .int v4_9k), (5, .int v5_9k), (6, .int v6_9k)] [] δ RT n 0 0 (Kp δ RT n) (kx9_94 v4_9k v5_9k v6_9k)) : ∀ (f : Nat) (v4_9 : Int32) (v5_9 : Int32) (v6_9 : Int32), AWo k_Po_latestReading 2 0 0 9 [(0, .ref 45), (1, .int a1), (2, .int a2), (3, .int a3), (4, .int v4_9), (5, .int v5_9), (6, .int v6_9)] [] δ RT n 0 0 (Kp δ RT n) (lp_Po_latestReading_9 kx9_94 a1 a2 a3 δ f v4_9 v5_9 v6_9) := by
  intro f
  induction f with
  | zero => intro _ _ _; exact aw_none
  | succ f ih =>
    intro v4_9 v5_9 v6_9
    rw [lp_Po_latestReading_9]
    refine aw_iload d_Po_latestReading_9 6 rfl ?_
    refine aw_aload_n d_Po_latestReading_11 0 rfl ?_
    refine aw_getI fl_Po_36 kd_45 d_Po_latestReading_12 ?_
    refine aw_icmp_ge (tgt := 94) d_Po_latestReading_15 rfl (fun q15 => ?_) (fun q15 => ?_)
    · refine aw_sub (lo' := [(0, .ref 45), (1, .int a1), (2, .int a2), (3, .int a3), (4, .int v4_9), (5, .int v5_9), (6, .int v6_9)]) [0, 1, 2, 3, 4, 5, 6] rfl ?_
      exact hkx9_94 _ _ _
    · refine aw_aload_n d_Po_latestReading_18 0 rfl ?_
      refine aw_getR (t := 47) fl_Po_15 kd_45 rt_45_3 d_Po_latestReading_19 ?_
      refine aw_iload d_Po_latestReading_22 6 rfl ?_
      refine aw_SN_p (As := [.ref 47, .int v6_9]) (m_Fp_get (congrArg Prod.fst kd_47)) cs_Po_51 rfl rfl (Nat.le_of_ble_eq_true rfl) ⟨Nat.le_of_ble_eq_true rfl, Nat.le_of_ble_eq_true rfl⟩ ⟨Nat.le_refl _, Nat.le_refl _⟩ d_Po_latestReading_24 (fun y24 => ?_)
      refine aw_istore (lo' := [(7, .int y24), (0, .ref 45), (1, .int a1), (2, .int a2), (3, .int a3), (4, .int v4_9), (5, .int v5_9), (6, .int v6_9)]) d_Po_latestReading_27 (by decide) rfl ?_
      refine aw_aload_n d_Po_latestReading_29 1 rfl ?_
      refine aw_getR (t := 46) fl_Po_9 kd_45 rt_45_2 d_Po_latestReading_30 ?_
      refine aw_iload d_Po_latestReading_33 7 rfl ?_
      refine aw_SN_p (As := [.ref 46, .int v6_9]) (m_Fp_get (congrArg Prod.fst kd_46)) cs_Po_51 rfl rfl (Nat.le_of_ble_eq_true rfl) ⟨Nat.le_of_ble_eq_true rfl, Nat.le_of_ble_eq_true rfl⟩ ⟨Nat.le_refl _, Nat.le_refl _⟩ d_Po_latestReading_35 (fun y35 => ?_)
      refine aw_iload_n d_Po_latestReading_38 2 rfl ?_
      refine aw_icmp_ne (tgt := 65) d_Po_latestReading_39 rfl (fun q39 => ?_) (fun q39 => ?_)
      · refine aw_aload_n d_Po_latestReading_42 1 rfl ?_
        refine aw_getR (t := 50) fl_Po_24 kd_45 rt_45_6 d_Po_latestReading_43 ?_
        refine aw_iload d_Po_latestReading_46 7 rfl ?_
        refine aw_SN_p (As := [.ref 50, .int v6_9]) (m_Fp_get (congrArg Prod.fst kd_50)) cs_Po_51 rfl rfl (Nat.le_of_ble_eq_true rfl) ⟨Nat.le_of_ble_eq_true rfl, Nat.le_of_ble_eq_true rfl⟩ ⟨Nat.le_refl _, Nat.le_refl _⟩ d_Po_latestReading_48 (fun y48 => ?_)
        refine aw_iload_n d_Po_latestReading_51 3 rfl ?_
        refine aw_icmp_gt (tgt := 65) d_Po_latestReading_52 rfl (fun q52 => ?_) (fun q52 => ?_)
        · refine aw_sub (lo' := [(0, .ref 45), (1, .int a1), (2, .int a2), (3, .int a3), (4, .int v4_9), (5, .int v5_9), (6, .int v6_9), (7, .int y24)]) [1, 2, 3, 4, 5, 6, 7, 0] rfl ?_
          exact tj_Po_latestReading_65 _ _ _ _ _ _ _ _ _ _ ih hkx9_94
        · refine aw_iload d_Po_latestReading_55 0 rfl ?_
          refine aw_iload_n d_Po_latestReading_57 4 rfl ?_
          refine aw_icmp_ge (tgt := 65) d_Po_latestReading_58 rfl (fun q58 => ?_) (fun q58 => ?_)
          · refine aw_sub (lo' := [(0, .ref 45), (1, .int a1), (2, .int a2), (3, .int a3), (4, .int v4_9), (5, .int v5_9), (6, .int v6_9), (7, .int y24)]) [1, 2, 3, 4, 5, 6, 7, 0] rfl ?_
            exact tj_Po_latestReading_65 _ _ _ _ _ _ _ _ _ _ ih hkx9_94
          · refine aw_iconst d_Po_latestReading_61 ki_1 ?_
            refine aw_goto (tgt := 66) d_Po_latestReading_62 rfl ?_
            refine aw_sub (lo' := [(0, .ref 45), (1, .int a1), (2, .int a2), (3, .int a3), (4, .int v4_9), (5, .int v5_9), (6, .int v6_9), (7, .int y24)]) [1, 2, 3, 4, 5, 6, 7, 0] rfl ?_
            exact tj_Po_latestReading_66 _ _ _ _ _ _ _ _ _ _ _ ih hkx9_94
      · refine aw_sub (lo' := [(0, .ref 45), (1, .int a1), (2, .int a2), (3, .int a3), (4, .int v4_9), (5, .int v5_9), (6, .int v6_9), (7, .int y24)]) [1, 2, 3, 4, 5, 6, 7, 0] rfl ?_
        exact tj_Po_latestReading_65 _ _ _ _ _ _ _ _ _ _ ih hkx9_94
def f_Po_latestReading (a1 : Int32) (a2 : Int32) (a3 : Int32) (δ : Dm) : Option Int32 := (lp_Po_latestReading_9 (fun v4_9x v5_9x v6_9x => (some v4_9x)) a1 a2 a3 δ FU (-1 : Int32) (0 : Int32) (0 : Int32))
set_option maxHeartbeats 4000000 in
set_option maxRecDepth 100000 in
theorem m_Po_latestReading {a1 : Int32} {a2 : Int32} {a3 : Int32} {δ : Dm} {n : Nat} : ∀ x, f_Po_latestReading a1 a2 a3 δ = some x → AMet k_Po_latestReading 2 0 0 [.ref 45, .int a1, .int a2, .int a3] δ RT n (Kp δ RT n x) := by
  refine aw_start (lo := [(0, .ref 45), (1, .int a1), (2, .int a2), (3, .int a3)]) mok_Po_latestReading rfl (Nat.le_of_ble_eq_true rfl) ?_
  unfold f_Po_latestReading
  refine aw_iconst d_Po_latestReading_0 ki_m1 ?_
  refine aw_istore (lo' := [(4, .int (-1 : Int32)), (0, .ref 45), (1, .int a1), (2, .int a2), (3, .int a3)]) d_Po_latestReading_1 (by decide) rfl ?_
  refine aw_iconst d_Po_latestReading_3 ki_0 ?_
  refine aw_istore (lo' := [(5, .int (0 : Int32)), (4, .int (-1 : Int32)), (0, .ref 45), (1, .int a1), (2, .int a2), (3, .int a3)]) d_Po_latestReading_4 (by decide) rfl ?_
  refine aw_iconst d_Po_latestReading_6 ki_0 ?_
  refine aw_istore (lo' := [(6, .int (0 : Int32)), (5, .int (0 : Int32)), (4, .int (-1 : Int32)), (0, .ref 45), (1, .int a1), (2, .int a2), (3, .int a3)]) d_Po_latestReading_7 (by decide) rfl ?_
  refine aw_sub (lo' := [(0, .ref 45), (1, .int a1), (2, .int a2), (3, .int a3), (4, .int (-1 : Int32)), (5, .int (0 : Int32)), (6, .int (0 : Int32))]) [3, 4, 5, 6, 2, 1, 0] rfl ?_
  refine tl_Po_latestReading_9 _ _ _ _ _ (fun v4_9x v5_9x v6_9x => ?_) FU _ _ _
  · refine aw_iload d_Po_latestReading_94 4 rfl ?_
    exact aw_iret rfl rfl ⟨Nat.le_refl _, Nat.le_refl _⟩ d_Po_latestReading_96
def lp_Di_stripsIn_6 (kx6_51 : Int32 → Int32 → Option Int32) (a1 : Int32) (a2 : Int32) (a3 : Int32) (δ : Dm) : Nat → Int32 → Int32 → Option Int32
  | 0, _, _ => none
  | f + 1, v4_6, v5_6 => (if (gI δ 34 0) ≤ v5_6 then (kx6_51 v4_6 v5_6) else ((f_Di_isOf v5_6 a1 δ).bind (fun y19 => (if y19 = 0 then (lp_Di_stripsIn_6 kx6_51 a1 a2 a3 δ f v4_6 (v5_6 + (1 : Int32))) else ((f_Fp_get 36 v5_6 δ).bind (fun y31 => ((f_Fp_within y31 a2 a3 δ).bind (fun y36 => (if y36 = 0 then (lp_Di_stripsIn_6 kx6_51 a1 a2 a3 δ f v4_6 (v5_6 + (1 : Int32))) else (lp_Di_stripsIn_6 kx6_51 a1 a2 a3 δ f (v4_6 + (1 : Int32)) (v5_6 + (1 : Int32))))))))))))
set_option maxHeartbeats 4000000 in
set_option maxRecDepth 100000 in
theorem tl_Di_stripsIn_6 {n : Nat} (kx6_51 : Int32 → Int32 → Option Int32) (a1 : Int32) (a2 : Int32) (a3 : Int32) (δ : Dm) (hkx6_51 : ∀ v4_6k v5_6k, AWo k_Di_stripsIn 3 0 0 51 [(0, .ref 34), (1, .int a1), (2, .int a2), (3, .int a3), (4, .int v4_6k), (5, .int v5_6k)] [] δ RT n 0 0 (Kp δ RT n) (kx6_51 v4_6k v5_6k)) : ∀ (f : Nat) (v4_6 : Int32) (v5_6 : Int32), AWo k_Di_stripsIn 3 0 0 6 [(0, .ref 34), (1, .int a1), (2, .int a2), (3, .int a3), (4, .int v4_6), (5, .int v5_6)] [] δ RT n 0 0 (Kp δ RT n) (lp_Di_stripsIn_6 kx6_51 a1 a2 a3 δ f v4_6 v5_6) := by
  intro f
  induction f with
  | zero => intro _ _; exact aw_none
  | succ f ih =>
    intro v4_6 v5_6
    rw [lp_Di_stripsIn_6]
    refine aw_iload d_Di_stripsIn_6 5 rfl ?_
    refine aw_aload_n d_Di_stripsIn_8 0 rfl ?_
    refine aw_getI fl_Di_42 kd_34 d_Di_stripsIn_9 ?_
    refine aw_icmp_ge (tgt := 51) d_Di_stripsIn_12 rfl (fun q12 => ?_) (fun q12 => ?_)
    · refine aw_sub (lo' := [(0, .ref 34), (1, .int a1), (2, .int a2), (3, .int a3), (4, .int v4_6), (5, .int v5_6)]) [0, 1, 2, 3, 4, 5] rfl ?_
      exact hkx6_51 _ _
    · refine aw_aload_n d_Di_stripsIn_15 0 rfl ?_
      refine aw_iload d_Di_stripsIn_16 5 rfl ?_
      refine aw_iload_n d_Di_stripsIn_18 1 rfl ?_
      refine aw_V_p (As := [.int v5_6, .int a1]) (m_Di_isOf) cv_Di_68 kd_34 rfl rfl rfl (Nat.le_of_ble_eq_true rfl) ⟨Nat.le_of_ble_eq_true rfl, Nat.le_of_ble_eq_true rfl⟩ ⟨Nat.le_refl _, Nat.le_refl _⟩ d_Di_stripsIn_19 (fun y19 => ?_)
      refine aw_if_eq (tgt := 45) d_Di_stripsIn_22 rfl (fun q22 => ?_) (fun q22 => ?_)
      · refine aw_iinc (v := (v5_6 + (1 : Int32))) (lo' := [(5, .int (v5_6 + (1 : Int32))), (0, .ref 34), (1, .int a1), (2, .int a2), (3, .int a3), (4, .int v4_6)]) d_Di_stripsIn_45 5 rfl (by rw [show Int32.ofInt (1) = (1 : Int32) from by decide]) (by decide) rfl ?_
        refine aw_goto (tgt := 6) d_Di_stripsIn_48 rfl ?_
        refine aw_sub (lo' := [(0, .ref 34), (1, .int a1), (2, .int a2), (3, .int a3), (4, .int v4_6), (5, .int (v5_6 + (1 : Int32)))]) [1, 2, 3, 4, 5, 0] rfl ?_
        exact ih _ _
      · refine aw_aload_n d_Di_stripsIn_25 0 rfl ?_
        refine aw_getR (t := 36) fl_Di_15 kd_34 rt_34_4 d_Di_stripsIn_26 ?_
        refine aw_iload d_Di_stripsIn_29 5 rfl ?_
        refine aw_SN_p (As := [.ref 36, .int v5_6]) (m_Fp_get (congrArg Prod.fst kd_36)) cs_Di_64 rfl rfl (Nat.le_of_ble_eq_true rfl) ⟨Nat.le_of_ble_eq_true rfl, Nat.le_of_ble_eq_true rfl⟩ ⟨Nat.le_refl _, Nat.le_refl _⟩ d_Di_stripsIn_31 (fun y31 => ?_)
        refine aw_iload_n d_Di_stripsIn_34 2 rfl ?_
        refine aw_iload_n d_Di_stripsIn_35 3 rfl ?_
        refine aw_SN_p (As := [.int y31, .int a2, .int a3]) (m_Fp_within) cs_Di_72 rfl rfl (Nat.le_of_ble_eq_true rfl) ⟨Nat.le_of_ble_eq_true rfl, Nat.le_of_ble_eq_true rfl⟩ ⟨Nat.le_refl _, Nat.le_refl _⟩ d_Di_stripsIn_36 (fun y36 => ?_)
        refine aw_if_eq (tgt := 45) d_Di_stripsIn_39 rfl (fun q39 => ?_) (fun q39 => ?_)
        · refine aw_iinc (v := (v5_6 + (1 : Int32))) (lo' := [(5, .int (v5_6 + (1 : Int32))), (0, .ref 34), (1, .int a1), (2, .int a2), (3, .int a3), (4, .int v4_6)]) d_Di_stripsIn_45 5 rfl (by rw [show Int32.ofInt (1) = (1 : Int32) from by decide]) (by decide) rfl ?_
          refine aw_goto (tgt := 6) d_Di_stripsIn_48 rfl ?_
          refine aw_sub (lo' := [(0, .ref 34), (1, .int a1), (2, .int a2), (3, .int a3), (4, .int v4_6), (5, .int (v5_6 + (1 : Int32)))]) [1, 2, 3, 4, 5, 0] rfl ?_
          exact ih _ _
        · refine aw_iinc (v := (v4_6 + (1 : Int32))) (lo' := [(4, .int (v4_6 + (1 : Int32))), (0, .ref 34), (1, .int a1), (2, .int a2), (3, .int a3), (5, .int v5_6)]) d_Di_stripsIn_42 4 rfl (by rw [show Int32.ofInt (1) = (1 : Int32) from by decide]) (by decide) rfl ?_
          refine aw_iinc (v := (v5_6 + (1 : Int32))) (lo' := [(5, .int (v5_6 + (1 : Int32))), (4, .int (v4_6 + (1 : Int32))), (0, .ref 34), (1, .int a1), (2, .int a2), (3, .int a3)]) d_Di_stripsIn_45 5 rfl (by rw [show Int32.ofInt (1) = (1 : Int32) from by decide]) (by decide) rfl ?_
          refine aw_goto (tgt := 6) d_Di_stripsIn_48 rfl ?_
          refine aw_sub (lo' := [(0, .ref 34), (1, .int a1), (2, .int a2), (3, .int a3), (4, .int (v4_6 + (1 : Int32))), (5, .int (v5_6 + (1 : Int32)))]) [2, 3, 4, 5, 1, 0] rfl ?_
          exact ih _ _
def f_Di_stripsIn (a1 : Int32) (a2 : Int32) (a3 : Int32) (δ : Dm) : Option Int32 := (lp_Di_stripsIn_6 (fun v4_6x v5_6x => (some v4_6x)) a1 a2 a3 δ FU (0 : Int32) (0 : Int32))
set_option maxHeartbeats 4000000 in
set_option maxRecDepth 100000 in
theorem m_Di_stripsIn {a1 : Int32} {a2 : Int32} {a3 : Int32} {δ : Dm} {n : Nat} : ∀ x, f_Di_stripsIn a1 a2 a3 δ = some x → AMet k_Di_stripsIn 3 0 0 [.ref 34, .int a1, .int a2, .int a3] δ RT n (Kp δ RT n x) := by
  refine aw_start (lo := [(0, .ref 34), (1, .int a1), (2, .int a2), (3, .int a3)]) mok_Di_stripsIn rfl (Nat.le_of_ble_eq_true rfl) ?_
  unfold f_Di_stripsIn
  refine aw_iconst d_Di_stripsIn_0 ki_0 ?_
  refine aw_istore (lo' := [(4, .int (0 : Int32)), (0, .ref 34), (1, .int a1), (2, .int a2), (3, .int a3)]) d_Di_stripsIn_1 (by decide) rfl ?_
  refine aw_iconst d_Di_stripsIn_3 ki_0 ?_
  refine aw_istore (lo' := [(5, .int (0 : Int32)), (4, .int (0 : Int32)), (0, .ref 34), (1, .int a1), (2, .int a2), (3, .int a3)]) d_Di_stripsIn_4 (by decide) rfl ?_
  refine aw_sub (lo' := [(0, .ref 34), (1, .int a1), (2, .int a2), (3, .int a3), (4, .int (0 : Int32)), (5, .int (0 : Int32))]) [2, 3, 4, 5, 1, 0] rfl ?_
  refine tl_Di_stripsIn_6 _ _ _ _ _ (fun v4_6x v5_6x => ?_) FU _ _
  · refine aw_iload d_Di_stripsIn_51 4 rfl ?_
    exact aw_iret rfl rfl ⟨Nat.le_refl _, Nat.le_refl _⟩ d_Di_stripsIn_53
def f_Fp_agree (a1 : Int32) (a2 : Int32) (a3 : Int32) (δ : Dm) : Option Int32 := ((f_To_boothAt a1 δ).bind (fun o5 => ocs o5 (some (-2000000000 : Int32)) (fun t5 => if isB t5 = true then ((f_Fp_isDay a2 δ).bind (fun y16 => (if y16 = 0 then (some (-2000000000 : Int32)) else ((f_Fp_within a3 (0 : Int32) (1 : Int32) δ).bind (fun y25 => (if y25 = 0 then (some (-2000000000 : Int32)) else ((f_Po_latestReading a1 a2 (400 : Int32) δ).bind (fun y51 => (if y51 = (-1 : Int32) then (some (-1000000000 : Int32)) else ((f_Fp_get 47 y51 δ).bind (fun y73 => ((f_Po_latestReading a1 a2 y73 δ).bind (fun y84 => (if y84 = (-1 : Int32) then (some (-1000000000 : Int32)) else ((f_Fp_get 47 y84 δ).bind (fun y114 => ((f_Di_stripsIn a1 (y114 + (1 : Int32)) y73 δ).bind (fun y121 => (if a3 = 0 then ((f_Fp_get 48 y51 δ).bind (fun y137 => ((f_Fp_get 48 y84 δ).bind (fun y147 => (some ((y137 - y147) - y121)))))) else ((f_Fp_get 49 y51 δ).bind (fun y162 => ((f_Fp_get 49 y84 δ).bind (fun y172 => (some ((y162 - y172) - ((gI δ t5 1) * y121)))))))))))))))))))))))))) else none)))
set_option maxHeartbeats 4000000 in
set_option maxRecDepth 100000 in
theorem m_Fp_agree {a1 : Int32} {a2 : Int32} {a3 : Int32} {δ : Dm} {n : Nat} : ∀ x, f_Fp_agree a1 a2 a3 δ = some x → AMet k_Fp_agree 4 0 0 [.ref 4, .int a1, .int a2, .int a3] δ RT n (Kp δ RT n x) := by
  refine aw_start (lo := [(0, .ref 4), (1, .int a1), (2, .int a2), (3, .int a3)]) mok_Fp_agree rfl (Nat.le_of_ble_eq_true rfl) ?_
  unfold f_Fp_agree
  refine aw_aload_n d_Fp_agree_0 0 rfl ?_
  refine aw_getR (t := 29) fl_Fp_57 kd_4 rt_4_9 d_Fp_agree_1 ?_
  refine aw_iload_n d_Fp_agree_4 1 rfl ?_
  refine aw_V_r (As := [.int a1]) (m_To_boothAt) cv_Fp_139 kd_29 rfl rfl rfl (Nat.le_of_ble_eq_true rfl) ⟨Nat.le_of_ble_eq_true rfl, Nat.le_of_ble_eq_true rfl⟩ ⟨Nat.le_refl _, Nat.le_refl _⟩ d_Fp_agree_5 ?_ (fun t5 => ?_)
  · refine aw_astoreN (lo' := [(4, .null), (0, .ref 4), (1, .int a1), (2, .int a2), (3, .int a3)]) d_Fp_agree_8 (by decide) rfl ?_
    refine aw_aloadN d_Fp_agree_10 0 rfl ?_
    refine aw_ifnullN (tgt := 31) d_Fp_agree_12 rfl ?_
    refine aw_ldcw (v := (-2000000000 : Int32)) d_Fp_agree_31 kc_Fp_265 ?_
    exact aw_iret rfl rfl ⟨Nat.le_refl _, Nat.le_refl _⟩ d_Fp_agree_34
  · refine aw_grd (fun ht5 => ?_)
    refine aw_astore (lo' := [(4, .ref t5), (0, .ref 4), (1, .int a1), (2, .int a2), (3, .int a3)]) d_Fp_agree_8 (by decide) rfl ?_
    refine aw_aload d_Fp_agree_10 0 rfl ?_
    refine aw_ifnull d_Fp_agree_12 ?_
    refine aw_iload_n d_Fp_agree_15 3 rfl ?_
    refine aw_S_p (As := [.int a2]) (m_Fp_isDay) cs_Fp_92 rfl rfl (Nat.le_of_ble_eq_true rfl) ⟨Nat.le_of_ble_eq_true rfl, Nat.le_of_ble_eq_true rfl⟩ ⟨Nat.le_refl _, Nat.le_refl _⟩ d_Fp_agree_16 (fun y16 => ?_)
    refine aw_if_eq (tgt := 31) d_Fp_agree_19 rfl (fun q19 => ?_) (fun q19 => ?_)
    · refine aw_ldcw (v := (-2000000000 : Int32)) d_Fp_agree_31 kc_Fp_265 ?_
      exact aw_iret rfl rfl ⟨Nat.le_refl _, Nat.le_refl _⟩ d_Fp_agree_34
    · refine aw_iload_n d_Fp_agree_22 4 rfl ?_
      refine aw_iconst d_Fp_agree_23 ki_0 ?_
      refine aw_iconst d_Fp_agree_24 ki_1 ?_
      refine aw_S_p (As := [.int a3, .int (0 : Int32), .int (1 : Int32)]) (m_Fp_within) cs_Fp_70 rfl rfl (Nat.le_of_ble_eq_true rfl) ⟨Nat.le_of_ble_eq_true rfl, Nat.le_of_ble_eq_true rfl⟩ ⟨Nat.le_refl _, Nat.le_refl _⟩ d_Fp_agree_25 (fun y25 => ?_)
      refine aw_if_ne (tgt := 35) d_Fp_agree_28 rfl (fun q28 => ?_) (fun q28 => ?_)
      · refine aw_ldcw (v := (-2000000000 : Int32)) d_Fp_agree_31 kc_Fp_265 ?_
        exact aw_iret rfl rfl ⟨Nat.le_refl _, Nat.le_refl _⟩ d_Fp_agree_34
      · refine aw_aload_n d_Fp_agree_35 1 rfl ?_
        refine aw_getR (t := 29) fl_Fp_57 kd_4 rt_4_9 d_Fp_agree_36 ?_
        refine aw_getR (t := 45) fl_Fp_250 kd_29 rt_29_8 d_Fp_agree_39 ?_
        refine aw_astore (lo' := [(5, .ref 45), (4, .ref t5), (0, .ref 4), (1, .int a1), (2, .int a2), (3, .int a3)]) d_Fp_agree_42 (by decide) rfl ?_
        refine aw_aload d_Fp_agree_44 0 rfl ?_
        refine aw_iload_n d_Fp_agree_46 3 rfl ?_
        refine aw_iload_n d_Fp_agree_47 4 rfl ?_
        refine aw_sipush d_Fp_agree_48 ks_400 ?_
        refine aw_V_p (As := [.int a1, .int a2, .int (400 : Int32)]) (m_Po_latestReading) cv_Fp_266 kd_45 rfl rfl rfl (Nat.le_of_ble_eq_true rfl) ⟨Nat.le_of_ble_eq_true rfl, Nat.le_of_ble_eq_true rfl⟩ ⟨Nat.le_refl _, Nat.le_refl _⟩ d_Fp_agree_51 (fun y51 => ?_)
        refine aw_istore (lo' := [(6, .int y51), (5, .ref 45), (4, .ref t5), (0, .ref 4), (1, .int a1), (2, .int a2), (3, .int a3)]) d_Fp_agree_54 (by decide) rfl ?_
        refine aw_iload d_Fp_agree_56 0 rfl ?_
        refine aw_iconst d_Fp_agree_58 ki_m1 ?_
        refine aw_icmp_ne (tgt := 66) d_Fp_agree_59 rfl (fun q59 => ?_) (fun q59 => ?_)
        · refine aw_ldcw (v := (-1000000000 : Int32)) d_Fp_agree_62 kc_Fp_270 ?_
          exact aw_iret rfl rfl ⟨Nat.le_refl _, Nat.le_refl _⟩ d_Fp_agree_65
        · refine aw_aload d_Fp_agree_66 1 rfl ?_
          refine aw_getR (t := 47) fl_Fp_271 kd_45 rt_45_3 d_Fp_agree_68 ?_
          refine aw_iload d_Fp_agree_71 0 rfl ?_
          refine aw_S_p (As := [.ref 47, .int y51]) (m_Fp_get (congrArg Prod.fst kd_47)) cs_Fp_98 rfl rfl (Nat.le_of_ble_eq_true rfl) ⟨Nat.le_of_ble_eq_true rfl, Nat.le_of_ble_eq_true rfl⟩ ⟨Nat.le_refl _, Nat.le_refl _⟩ d_Fp_agree_73 (fun y73 => ?_)
          refine aw_istore (lo' := [(7, .int y73), (6, .int y51), (5, .ref 45), (4, .ref t5), (0, .ref 4), (1, .int a1), (2, .int a2), (3, .int a3)]) d_Fp_agree_76 (by decide) rfl ?_
          refine aw_aload d_Fp_agree_78 2 rfl ?_
          refine aw_iload_n d_Fp_agree_80 5 rfl ?_
          refine aw_iload_n d_Fp_agree_81 6 rfl ?_
          refine aw_iload d_Fp_agree_82 0 rfl ?_
          refine aw_V_p (As := [.int a1, .int a2, .int y73]) (m_Po_latestReading) cv_Fp_266 kd_45 rfl rfl rfl (Nat.le_of_ble_eq_true rfl) ⟨Nat.le_of_ble_eq_true rfl, Nat.le_of_ble_eq_true rfl⟩ ⟨Nat.le_refl _, Nat.le_refl _⟩ d_Fp_agree_84 (fun y84 => ?_)
          refine aw_istore (lo' := [(8, .int y84), (7, .int y73), (6, .int y51), (5, .ref 45), (4, .ref t5), (0, .ref 4), (1, .int a1), (2, .int a2), (3, .int a3)]) d_Fp_agree_87 (by decide) rfl ?_
          refine aw_iload d_Fp_agree_89 0 rfl ?_
          refine aw_iconst d_Fp_agree_91 ki_m1 ?_
          refine aw_icmp_ne (tgt := 99) d_Fp_agree_92 rfl (fun q92 => ?_) (fun q92 => ?_)
          · refine aw_ldcw (v := (-1000000000 : Int32)) d_Fp_agree_95 kc_Fp_270 ?_
            exact aw_iret rfl rfl ⟨Nat.le_refl _, Nat.le_refl _⟩ d_Fp_agree_98
          · refine aw_aload_n d_Fp_agree_99 5 rfl ?_
            refine aw_getR (t := 29) fl_Fp_57 kd_4 rt_4_9 d_Fp_agree_100 ?_
            refine aw_getR (t := 34) fl_Fp_148 kd_29 rt_29_7 d_Fp_agree_103 ?_
            refine aw_iload_n d_Fp_agree_106 6 rfl ?_
            refine aw_aload d_Fp_agree_107 3 rfl ?_
            refine aw_getR (t := 47) fl_Fp_271 kd_45 rt_45_3 d_Fp_agree_109 ?_
            refine aw_iload d_Fp_agree_112 0 rfl ?_
            refine aw_S_p (As := [.ref 47, .int y84]) (m_Fp_get (congrArg Prod.fst kd_47)) cs_Fp_98 rfl rfl (Nat.le_of_ble_eq_true rfl) ⟨Nat.le_of_ble_eq_true rfl, Nat.le_of_ble_eq_true rfl⟩ ⟨Nat.le_refl _, Nat.le_refl _⟩ d_Fp_agree_114 (fun y114 => ?_)
            refine aw_iconst d_Fp_agree_117 ki_1 ?_
            refine aw_iadd d_Fp_agree_118 ?_
            refine aw_iload d_Fp_agree_119 1 rfl ?_
            refine aw_V_p (As := [.int a1, .int (y114 + (1 : Int32)), .int y73]) (m_Di_stripsIn) cv_Fp_274 kd_34 rfl rfl rfl (Nat.le_of_ble_eq_true rfl) ⟨Nat.le_of_ble_eq_true rfl, Nat.le_of_ble_eq_true rfl⟩ ⟨Nat.le_refl _, Nat.le_refl _⟩ d_Fp_agree_121 (fun y121 => ?_)
            refine aw_istore (lo' := [(9, .int y121), (8, .int y84), (7, .int y73), (6, .int y51), (5, .ref 45), (4, .ref t5), (0, .ref 4), (1, .int a1), (2, .int a2), (3, .int a3)]) d_Fp_agree_124 (by decide) rfl ?_
            refine aw_iload_n d_Fp_agree_126 9 rfl ?_
            refine aw_if_ne (tgt := 155) d_Fp_agree_127 rfl (fun q127 => ?_) (fun q127 => ?_)
            · refine aw_aload d_Fp_agree_130 4 rfl ?_
              refine aw_getR (t := 48) fl_Fp_277 kd_45 rt_45_4 d_Fp_agree_132 ?_
              refine aw_iload d_Fp_agree_135 3 rfl ?_
              refine aw_S_p (As := [.ref 48, .int y51]) (m_Fp_get (congrArg Prod.fst kd_48)) cs_Fp_98 rfl rfl (Nat.le_of_ble_eq_true rfl) ⟨Nat.le_of_ble_eq_true rfl, Nat.le_of_ble_eq_true rfl⟩ ⟨Nat.le_refl _, Nat.le_refl _⟩ d_Fp_agree_137 (fun y137 => ?_)
              refine aw_aload d_Fp_agree_140 4 rfl ?_
              refine aw_getR (t := 48) fl_Fp_277 kd_45 rt_45_4 d_Fp_agree_142 ?_
              refine aw_iload d_Fp_agree_145 1 rfl ?_
              refine aw_S_p (As := [.ref 48, .int y84]) (m_Fp_get (congrArg Prod.fst kd_48)) cs_Fp_98 rfl rfl (Nat.le_of_ble_eq_true rfl) ⟨Nat.le_of_ble_eq_true rfl, Nat.le_of_ble_eq_true rfl⟩ ⟨Nat.le_refl _, Nat.le_refl _⟩ d_Fp_agree_147 (fun y147 => ?_)
              refine aw_isub d_Fp_agree_150 ?_
              refine aw_iload d_Fp_agree_151 0 rfl ?_
              refine aw_isub d_Fp_agree_153 ?_
              exact aw_iret rfl rfl ⟨Nat.le_refl _, Nat.le_refl _⟩ d_Fp_agree_154
            · refine aw_aload d_Fp_agree_155 4 rfl ?_
              refine aw_getR (t := 49) fl_Fp_280 kd_45 rt_45_5 d_Fp_agree_157 ?_
              refine aw_iload d_Fp_agree_160 3 rfl ?_
              refine aw_S_p (As := [.ref 49, .int y51]) (m_Fp_get (congrArg Prod.fst kd_49)) cs_Fp_98 rfl rfl (Nat.le_of_ble_eq_true rfl) ⟨Nat.le_of_ble_eq_true rfl, Nat.le_of_ble_eq_true rfl⟩ ⟨Nat.le_refl _, Nat.le_refl _⟩ d_Fp_agree_162 (fun y162 => ?_)
              refine aw_aload d_Fp_agree_165 4 rfl ?_
              refine aw_getR (t := 49) fl_Fp_280 kd_45 rt_45_5 d_Fp_agree_167 ?_
              refine aw_iload d_Fp_agree_170 1 rfl ?_
              refine aw_S_p (As := [.ref 49, .int y84]) (m_Fp_get (congrArg Prod.fst kd_49)) cs_Fp_98 rfl rfl (Nat.le_of_ble_eq_true rfl) ⟨Nat.le_of_ble_eq_true rfl, Nat.le_of_ble_eq_true rfl⟩ ⟨Nat.le_refl _, Nat.le_refl _⟩ d_Fp_agree_172 (fun y172 => ?_)
              refine aw_isub d_Fp_agree_175 ?_
              refine aw_aload d_Fp_agree_176 5 rfl ?_
              refine aw_getI fl_Fp_197 (fx_isBK ht5 0 (by decide)) d_Fp_agree_178 ?_
              refine aw_iload d_Fp_agree_181 0 rfl ?_
              refine aw_imul d_Fp_agree_183 ?_
              refine aw_isub d_Fp_agree_184 ?_
              exact aw_iret rfl rfl ⟨Nat.le_refl _, Nat.le_refl _⟩ d_Fp_agree_185
def f_Po_addClaim (a1 : Int32) (a2 : Int32) (a3 : Int32) (δ : Dm) : Option Dm := ((f_Fp_put 51 (gI δ 45 1) a1 δ).bind (fun y9 => ((f_Fp_put 52 (gI y9 45 1) a2 y9).bind (fun y21 => ((f_Fp_put 53 (gI y21 45 1) a3 y21).bind (fun y33 => (bnd (sI y33 45 1 ((gI y33 45 1) + (1 : Int32))) (fun δ_43 => (some δ_43)))))))))
set_option maxHeartbeats 4000000 in
set_option maxRecDepth 100000 in
theorem m_Po_addClaim {a1 : Int32} {a2 : Int32} {a3 : Int32} {δ : Dm} {n : Nat} : ∀ x, f_Po_addClaim a1 a2 a3 δ = some x → AMet k_Po_addClaim 2 0 0 [.ref 45, .int a1, .int a2, .int a3] δ RT n (Kv RT n x) := by
  refine aw_start (lo := [(0, .ref 45), (1, .int a1), (2, .int a2), (3, .int a3)]) mok_Po_addClaim rfl (Nat.le_of_ble_eq_true rfl) ?_
  unfold f_Po_addClaim
  refine aw_aload_n d_Po_addClaim_0 0 rfl ?_
  refine aw_getR (t := 51) fl_Po_27 kd_45 rt_45_7 d_Po_addClaim_1 ?_
  refine aw_aload_n d_Po_addClaim_4 0 rfl ?_
  refine aw_getI fl_Po_40 kd_45 d_Po_addClaim_5 ?_
  refine aw_iload_n d_Po_addClaim_8 1 rfl ?_
  refine aw_SN_v (As := [.ref 51, .int (gI δ 45 1), .int a1]) (m_Fp_put (congrArg Prod.fst kd_51)) cs_Po_47 rfl rfl (Nat.le_of_ble_eq_true rfl) ⟨Nat.le_of_ble_eq_true rfl, Nat.le_of_ble_eq_true rfl⟩ ⟨Nat.le_refl _, Nat.le_refl _⟩ d_Po_addClaim_9 (fun y9 => ?_)
  refine aw_aload_n d_Po_addClaim_12 0 rfl ?_
  refine aw_getR (t := 52) fl_Po_30 kd_45 rt_45_8 d_Po_addClaim_13 ?_
  refine aw_aload_n d_Po_addClaim_16 0 rfl ?_
  refine aw_getI fl_Po_40 kd_45 d_Po_addClaim_17 ?_
  refine aw_iload_n d_Po_addClaim_20 2 rfl ?_
  refine aw_SN_v (As := [.ref 52, .int (gI y9 45 1), .int a2]) (m_Fp_put (congrArg Prod.fst kd_52)) cs_Po_47 rfl rfl (Nat.le_of_ble_eq_true rfl) ⟨Nat.le_of_ble_eq_true rfl, Nat.le_of_ble_eq_true rfl⟩ ⟨Nat.le_refl _, Nat.le_refl _⟩ d_Po_addClaim_21 (fun y21 => ?_)
  refine aw_aload_n d_Po_addClaim_24 0 rfl ?_
  refine aw_getR (t := 53) fl_Po_33 kd_45 rt_45_9 d_Po_addClaim_25 ?_
  refine aw_aload_n d_Po_addClaim_28 0 rfl ?_
  refine aw_getI fl_Po_40 kd_45 d_Po_addClaim_29 ?_
  refine aw_iload_n d_Po_addClaim_32 3 rfl ?_
  refine aw_SN_v (As := [.ref 53, .int (gI y21 45 1), .int a3]) (m_Fp_put (congrArg Prod.fst kd_53)) cs_Po_47 rfl rfl (Nat.le_of_ble_eq_true rfl) ⟨Nat.le_of_ble_eq_true rfl, Nat.le_of_ble_eq_true rfl⟩ ⟨Nat.le_refl _, Nat.le_refl _⟩ d_Po_addClaim_33 (fun y33 => ?_)
  refine aw_aload_n d_Po_addClaim_36 0 rfl ?_
  refine aw_dup d_Po_addClaim_37 rfl ?_
  refine aw_getI fl_Po_40 kd_45 d_Po_addClaim_38 ?_
  refine aw_iconst d_Po_addClaim_41 ki_1 ?_
  refine aw_iadd d_Po_addClaim_42 ?_
  refine aw_putI pf_Po_40 kd_45 d_Po_addClaim_43 ?_
  refine aw_bD (fun δ_43 => ?_)
  exact aw_vret rfl rfl ⟨Nat.le_refl _, Nat.le_refl _⟩ d_Po_addClaim_46
def f_Fp_claim (a1 : Int32) (a2 : Int32) (a3 : Int32) (δ : Dm) : Option (Int32 × Dm) := ((f_To_boothAt a2 δ).bind (fun o14 => ocs o14 (some ((-1 : Int32), δ)) (fun t14 => if isB t14 = true then ((f_Fp_within a3 (0 : Int32) (gI δ 29 0) δ).bind (fun y29 => (if y29 = 0 then (some ((-1 : Int32), δ)) else (if (gI δ 45 1) < (100 : Int32) then ((f_Fp_within a1 (0 : Int32) (31 : Int32) δ).bind (fun y51 => (if y51 = 0 then (some ((-1 : Int32), δ)) else ((f_Po_addClaim a1 a2 a3 δ).bind (fun y64 => (some (((gI y64 45 1) - (1 : Int32)), y64))))))) else (some ((-1 : Int32), δ)))))) else none)))
set_option maxHeartbeats 4000000 in
set_option maxRecDepth 100000 in
theorem m_Fp_claim {a1 : Int32} {a2 : Int32} {a3 : Int32} {δ : Dm} {n : Nat} : ∀ x, f_Fp_claim a1 a2 a3 δ = some x → AMet k_Fp_claim 3 0 0 [.ref 4, .int a1, .int a2, .int a3] δ RT n (Km RT n x) := by
  refine aw_start (lo := [(0, .ref 4), (1, .int a1), (2, .int a2), (3, .int a3)]) mok_Fp_claim rfl (Nat.le_of_ble_eq_true rfl) ?_
  unfold f_Fp_claim
  refine aw_aload_n d_Fp_claim_0 0 rfl ?_
  refine aw_getR (t := 29) fl_Fp_57 kd_4 rt_4_9 d_Fp_claim_1 ?_
  refine aw_getR (t := 45) fl_Fp_250 kd_29 rt_29_8 d_Fp_claim_4 ?_
  refine aw_astore (lo' := [(4, .ref 45), (0, .ref 4), (1, .int a1), (2, .int a2), (3, .int a3)]) d_Fp_claim_7 (by decide) rfl ?_
  refine aw_aload_n d_Fp_claim_9 1 rfl ?_
  refine aw_getR (t := 29) fl_Fp_57 kd_4 rt_4_9 d_Fp_claim_10 ?_
  refine aw_iload_n d_Fp_claim_13 3 rfl ?_
  refine aw_V_r (As := [.int a2]) (m_To_boothAt) cv_Fp_139 kd_29 rfl rfl rfl (Nat.le_of_ble_eq_true rfl) ⟨Nat.le_of_ble_eq_true rfl, Nat.le_of_ble_eq_true rfl⟩ ⟨Nat.le_refl _, Nat.le_refl _⟩ d_Fp_claim_14 ?_ (fun t14 => ?_)
  · refine aw_ifnullN (tgt := 45) d_Fp_claim_17 rfl ?_
    refine aw_iconst d_Fp_claim_45 ki_m1 ?_
    exact aw_iret rfl rfl ⟨Nat.le_refl _, Nat.le_refl _⟩ d_Fp_claim_46
  · refine aw_grd (fun ht14 => ?_)
    refine aw_ifnull d_Fp_claim_17 ?_
    refine aw_iload_n d_Fp_claim_20 4 rfl ?_
    refine aw_iconst d_Fp_claim_21 ki_0 ?_
    refine aw_aload_n d_Fp_claim_22 1 rfl ?_
    refine aw_getR (t := 29) fl_Fp_57 kd_4 rt_4_9 d_Fp_claim_23 ?_
    refine aw_getI fl_Fp_130 kd_29 d_Fp_claim_26 ?_
    refine aw_S_p (As := [.int a3, .int (0 : Int32), .int (gI δ 29 0)]) (m_Fp_within) cs_Fp_70 rfl rfl (Nat.le_of_ble_eq_true rfl) ⟨Nat.le_of_ble_eq_true rfl, Nat.le_of_ble_eq_true rfl⟩ ⟨Nat.le_refl _, Nat.le_refl _⟩ d_Fp_claim_29 (fun y29 => ?_)
    refine aw_if_eq (tgt := 45) d_Fp_claim_32 rfl (fun q32 => ?_) (fun q32 => ?_)
    · refine aw_iconst d_Fp_claim_45 ki_m1 ?_
      exact aw_iret rfl rfl ⟨Nat.le_refl _, Nat.le_refl _⟩ d_Fp_claim_46
    · refine aw_aload d_Fp_claim_35 0 rfl ?_
      refine aw_getI fl_Fp_283 kd_45 d_Fp_claim_37 ?_
      refine aw_bipush d_Fp_claim_40 kb_100 ?_
      refine aw_icmp_lt (tgt := 47) d_Fp_claim_42 rfl (fun q42 => ?_) (fun q42 => ?_)
      · refine aw_iload_n d_Fp_claim_47 2 rfl ?_
        refine aw_iconst d_Fp_claim_48 ki_0 ?_
        refine aw_bipush d_Fp_claim_49 kb_31 ?_
        refine aw_S_p (As := [.int a1, .int (0 : Int32), .int (31 : Int32)]) (m_Fp_within) cs_Fp_70 rfl rfl (Nat.le_of_ble_eq_true rfl) ⟨Nat.le_of_ble_eq_true rfl, Nat.le_of_ble_eq_true rfl⟩ ⟨Nat.le_refl _, Nat.le_refl _⟩ d_Fp_claim_51 (fun y51 => ?_)
        refine aw_if_ne (tgt := 59) d_Fp_claim_54 rfl (fun q54 => ?_) (fun q54 => ?_)
        · refine aw_iconst d_Fp_claim_57 ki_m1 ?_
          exact aw_iret rfl rfl ⟨Nat.le_refl _, Nat.le_refl _⟩ d_Fp_claim_58
        · refine aw_aload d_Fp_claim_59 0 rfl ?_
          refine aw_iload_n d_Fp_claim_61 2 rfl ?_
          refine aw_iload_n d_Fp_claim_62 3 rfl ?_
          refine aw_iload_n d_Fp_claim_63 4 rfl ?_
          refine aw_V_v (As := [.int a1, .int a2, .int a3]) (m_Po_addClaim) cv_Fp_286 kd_45 rfl rfl rfl (Nat.le_of_ble_eq_true rfl) ⟨Nat.le_of_ble_eq_true rfl, Nat.le_of_ble_eq_true rfl⟩ ⟨Nat.le_refl _, Nat.le_refl _⟩ d_Fp_claim_64 (fun y64 => ?_)
          refine aw_aload d_Fp_claim_67 0 rfl ?_
          refine aw_getI fl_Fp_283 kd_45 d_Fp_claim_69 ?_
          refine aw_iconst d_Fp_claim_72 ki_1 ?_
          refine aw_isub d_Fp_claim_73 ?_
          exact aw_iret rfl rfl ⟨Nat.le_refl _, Nat.le_refl _⟩ d_Fp_claim_74
      · refine aw_iconst d_Fp_claim_45 ki_m1 ?_
        exact aw_iret rfl rfl ⟨Nat.le_refl _, Nat.le_refl _⟩ d_Fp_claim_46
def lp_Di_spoiltOn_5 (kx5_58 : Int32 → Int32 → Option Int32) (a1 : Int32) (a2 : Int32) (δ : Dm) : Nat → Int32 → Int32 → Option Int32
  | 0, _, _ => none
  | f + 1, v3_5, v4_5 => (if (gI δ 34 0) ≤ v4_5 then (kx5_58 v3_5 v4_5) else ((f_Di_isOf v4_5 a1 δ).bind (fun y18 => (if y18 = 0 then (lp_Di_spoiltOn_5 kx5_58 a1 a2 δ f v3_5 (v4_5 + (1 : Int32))) else ((f_Fp_get 36 v4_5 δ).bind (fun y30 => (if y30 = a2 then ((f_Fp_get 37 v4_5 δ).bind (fun y43 => (if y43 = 0 then (lp_Di_spoiltOn_5 kx5_58 a1 a2 δ f v3_5 (v4_5 + (1 : Int32))) else (lp_Di_spoiltOn_5 kx5_58 a1 a2 δ f (v3_5 + (1 : Int32)) (v4_5 + (1 : Int32)))))) else (lp_Di_spoiltOn_5 kx5_58 a1 a2 δ f v3_5 (v4_5 + (1 : Int32))))))))))
set_option maxHeartbeats 4000000 in
set_option maxRecDepth 100000 in
theorem tl_Di_spoiltOn_5 {n : Nat} (kx5_58 : Int32 → Int32 → Option Int32) (a1 : Int32) (a2 : Int32) (δ : Dm) (hkx5_58 : ∀ v3_5k v4_5k, AWo k_Di_spoiltOn 3 0 0 58 [(0, .ref 34), (1, .int a1), (2, .int a2), (3, .int v3_5k), (4, .int v4_5k)] [] δ RT n 0 0 (Kp δ RT n) (kx5_58 v3_5k v4_5k)) : ∀ (f : Nat) (v3_5 : Int32) (v4_5 : Int32), AWo k_Di_spoiltOn 3 0 0 5 [(0, .ref 34), (1, .int a1), (2, .int a2), (3, .int v3_5), (4, .int v4_5)] [] δ RT n 0 0 (Kp δ RT n) (lp_Di_spoiltOn_5 kx5_58 a1 a2 δ f v3_5 v4_5) := by
  intro f
  induction f with
  | zero => intro _ _; exact aw_none
  | succ f ih =>
    intro v3_5 v4_5
    rw [lp_Di_spoiltOn_5]
    refine aw_iload d_Di_spoiltOn_5 4 rfl ?_
    refine aw_aload_n d_Di_spoiltOn_7 0 rfl ?_
    refine aw_getI fl_Di_42 kd_34 d_Di_spoiltOn_8 ?_
    refine aw_icmp_ge (tgt := 58) d_Di_spoiltOn_11 rfl (fun q11 => ?_) (fun q11 => ?_)
    · refine aw_sub (lo' := [(0, .ref 34), (1, .int a1), (2, .int a2), (3, .int v3_5), (4, .int v4_5)]) [0, 1, 2, 3, 4] rfl ?_
      exact hkx5_58 _ _
    · refine aw_aload_n d_Di_spoiltOn_14 0 rfl ?_
      refine aw_iload d_Di_spoiltOn_15 4 rfl ?_
      refine aw_iload_n d_Di_spoiltOn_17 1 rfl ?_
      refine aw_V_p (As := [.int v4_5, .int a1]) (m_Di_isOf) cv_Di_68 kd_34 rfl rfl rfl (Nat.le_of_ble_eq_true rfl) ⟨Nat.le_of_ble_eq_true rfl, Nat.le_of_ble_eq_true rfl⟩ ⟨Nat.le_refl _, Nat.le_refl _⟩ d_Di_spoiltOn_18 (fun y18 => ?_)
      refine aw_if_eq (tgt := 52) d_Di_spoiltOn_21 rfl (fun q21 => ?_) (fun q21 => ?_)
      · refine aw_iinc (v := (v4_5 + (1 : Int32))) (lo' := [(4, .int (v4_5 + (1 : Int32))), (0, .ref 34), (1, .int a1), (2, .int a2), (3, .int v3_5)]) d_Di_spoiltOn_52 4 rfl (by rw [show Int32.ofInt (1) = (1 : Int32) from by decide]) (by decide) rfl ?_
        refine aw_goto (tgt := 5) d_Di_spoiltOn_55 rfl ?_
        refine aw_sub (lo' := [(0, .ref 34), (1, .int a1), (2, .int a2), (3, .int v3_5), (4, .int (v4_5 + (1 : Int32)))]) [1, 2, 3, 4, 0] rfl ?_
        exact ih _ _
      · refine aw_aload_n d_Di_spoiltOn_24 0 rfl ?_
        refine aw_getR (t := 36) fl_Di_15 kd_34 rt_34_4 d_Di_spoiltOn_25 ?_
        refine aw_iload d_Di_spoiltOn_28 4 rfl ?_
        refine aw_SN_p (As := [.ref 36, .int v4_5]) (m_Fp_get (congrArg Prod.fst kd_36)) cs_Di_64 rfl rfl (Nat.le_of_ble_eq_true rfl) ⟨Nat.le_of_ble_eq_true rfl, Nat.le_of_ble_eq_true rfl⟩ ⟨Nat.le_refl _, Nat.le_refl _⟩ d_Di_spoiltOn_30 (fun y30 => ?_)
        refine aw_iload_n d_Di_spoiltOn_33 2 rfl ?_
        refine aw_icmp_ne (tgt := 52) d_Di_spoiltOn_34 rfl (fun q34 => ?_) (fun q34 => ?_)
        · refine aw_aload_n d_Di_spoiltOn_37 0 rfl ?_
          refine aw_getR (t := 37) fl_Di_18 kd_34 rt_34_5 d_Di_spoiltOn_38 ?_
          refine aw_iload d_Di_spoiltOn_41 4 rfl ?_
          refine aw_SN_p (As := [.ref 37, .int v4_5]) (m_Fp_get (congrArg Prod.fst kd_37)) cs_Di_64 rfl rfl (Nat.le_of_ble_eq_true rfl) ⟨Nat.le_of_ble_eq_true rfl, Nat.le_of_ble_eq_true rfl⟩ ⟨Nat.le_refl _, Nat.le_refl _⟩ d_Di_spoiltOn_43 (fun y43 => ?_)
          refine aw_if_eq (tgt := 52) d_Di_spoiltOn_46 rfl (fun q46 => ?_) (fun q46 => ?_)
          · refine aw_iinc (v := (v4_5 + (1 : Int32))) (lo' := [(4, .int (v4_5 + (1 : Int32))), (0, .ref 34), (1, .int a1), (2, .int a2), (3, .int v3_5)]) d_Di_spoiltOn_52 4 rfl (by rw [show Int32.ofInt (1) = (1 : Int32) from by decide]) (by decide) rfl ?_
            refine aw_goto (tgt := 5) d_Di_spoiltOn_55 rfl ?_
            refine aw_sub (lo' := [(0, .ref 34), (1, .int a1), (2, .int a2), (3, .int v3_5), (4, .int (v4_5 + (1 : Int32)))]) [1, 2, 3, 4, 0] rfl ?_
            exact ih _ _
          · refine aw_iinc (v := (v3_5 + (1 : Int32))) (lo' := [(3, .int (v3_5 + (1 : Int32))), (0, .ref 34), (1, .int a1), (2, .int a2), (4, .int v4_5)]) d_Di_spoiltOn_49 3 rfl (by rw [show Int32.ofInt (1) = (1 : Int32) from by decide]) (by decide) rfl ?_
            refine aw_iinc (v := (v4_5 + (1 : Int32))) (lo' := [(4, .int (v4_5 + (1 : Int32))), (3, .int (v3_5 + (1 : Int32))), (0, .ref 34), (1, .int a1), (2, .int a2)]) d_Di_spoiltOn_52 4 rfl (by rw [show Int32.ofInt (1) = (1 : Int32) from by decide]) (by decide) rfl ?_
            refine aw_goto (tgt := 5) d_Di_spoiltOn_55 rfl ?_
            refine aw_sub (lo' := [(0, .ref 34), (1, .int a1), (2, .int a2), (3, .int (v3_5 + (1 : Int32))), (4, .int (v4_5 + (1 : Int32)))]) [2, 3, 4, 1, 0] rfl ?_
            exact ih _ _
        · refine aw_iinc (v := (v4_5 + (1 : Int32))) (lo' := [(4, .int (v4_5 + (1 : Int32))), (0, .ref 34), (1, .int a1), (2, .int a2), (3, .int v3_5)]) d_Di_spoiltOn_52 4 rfl (by rw [show Int32.ofInt (1) = (1 : Int32) from by decide]) (by decide) rfl ?_
          refine aw_goto (tgt := 5) d_Di_spoiltOn_55 rfl ?_
          refine aw_sub (lo' := [(0, .ref 34), (1, .int a1), (2, .int a2), (3, .int v3_5), (4, .int (v4_5 + (1 : Int32)))]) [1, 2, 3, 4, 0] rfl ?_
          exact ih _ _
def f_Di_spoiltOn (a1 : Int32) (a2 : Int32) (δ : Dm) : Option Int32 := (lp_Di_spoiltOn_5 (fun v3_5x v4_5x => (some v3_5x)) a1 a2 δ FU (0 : Int32) (0 : Int32))
set_option maxHeartbeats 4000000 in
set_option maxRecDepth 100000 in
theorem m_Di_spoiltOn {a1 : Int32} {a2 : Int32} {δ : Dm} {n : Nat} : ∀ x, f_Di_spoiltOn a1 a2 δ = some x → AMet k_Di_spoiltOn 3 0 0 [.ref 34, .int a1, .int a2] δ RT n (Kp δ RT n x) := by
  refine aw_start (lo := [(0, .ref 34), (1, .int a1), (2, .int a2)]) mok_Di_spoiltOn rfl (Nat.le_of_ble_eq_true rfl) ?_
  unfold f_Di_spoiltOn
  refine aw_iconst d_Di_spoiltOn_0 ki_0 ?_
  refine aw_istore_n (lo' := [(3, .int (0 : Int32)), (0, .ref 34), (1, .int a1), (2, .int a2)]) d_Di_spoiltOn_1 rfl (by decide) rfl ?_
  refine aw_iconst d_Di_spoiltOn_2 ki_0 ?_
  refine aw_istore (lo' := [(4, .int (0 : Int32)), (3, .int (0 : Int32)), (0, .ref 34), (1, .int a1), (2, .int a2)]) d_Di_spoiltOn_3 (by decide) rfl ?_
  refine aw_sub (lo' := [(0, .ref 34), (1, .int a1), (2, .int a2), (3, .int (0 : Int32)), (4, .int (0 : Int32))]) [2, 3, 4, 1, 0] rfl ?_
  refine tl_Di_spoiltOn_5 _ _ _ _ (fun v3_5x v4_5x => ?_) FU _ _
  · refine aw_iload_n d_Di_spoiltOn_58 3 rfl ?_
    exact aw_iret rfl rfl ⟨Nat.le_refl _, Nat.le_refl _⟩ d_Di_spoiltOn_59
def jp_Po_claimsAhead_33 (kr4 : Int32 → Int32 → Option Int32) (kx4_68 : Int32 → Int32 → Option Int32) (a1 : Int32) (v2_4 : Int32) (v3_4 : Int32) (δ : Dm) (s0_33 : Int32) : Option Int32 := (if s0_33 = 0 then (kr4 v2_4 (v3_4 + (1 : Int32))) else ((f_Fp_get 53 v3_4 δ).bind (fun y45 => ((f_Fp_get 53 a1 δ).bind (fun y53 => (if y45 = y53 then (kr4 (v2_4 + (1 : Int32)) (v3_4 + (1 : Int32))) else (kr4 v2_4 (v3_4 + (1 : Int32)))))))))
set_option maxHeartbeats 4000000 in
set_option maxRecDepth 100000 in
theorem tj_Po_claimsAhead_33 {n : Nat} (kr4 : Int32 → Int32 → Option Int32) (kx4_68 : Int32 → Int32 → Option Int32) (a1 : Int32) (v2_4 : Int32) (v3_4 : Int32) (δ : Dm) (s0_33 : Int32) (hkr4 : ∀ v2_4k v3_4k, AWo k_Po_claimsAhead 2 0 0 4 [(0, .ref 45), (1, .int a1), (2, .int v2_4k), (3, .int v3_4k)] [] δ RT n 0 0 (Kp δ RT n) (kr4 v2_4k v3_4k)) (hkx4_68 : ∀ v2_4k v3_4k, AWo k_Po_claimsAhead 2 0 0 68 [(0, .ref 45), (1, .int a1), (2, .int v2_4k), (3, .int v3_4k)] [] δ RT n 0 0 (Kp δ RT n) (kx4_68 v2_4k v3_4k)) : AWo k_Po_claimsAhead 2 0 0 33 [(0, .ref 45), (1, .int a1), (2, .int v2_4), (3, .int v3_4)] [.int s0_33] δ RT n 0 0 (Kp δ RT n) (jp_Po_claimsAhead_33 kr4 kx4_68 a1 v2_4 v3_4 δ s0_33) := by
  unfold jp_Po_claimsAhead_33
  refine aw_istore (lo' := [(4, .int s0_33), (0, .ref 45), (1, .int a1), (2, .int v2_4), (3, .int v3_4)]) d_Po_claimsAhead_33 (by decide) rfl ?_
  refine aw_iload d_Po_claimsAhead_35 0 rfl ?_
  refine aw_if_eq (tgt := 62) d_Po_claimsAhead_37 rfl (fun q37 => ?_) (fun q37 => ?_)
  · refine aw_iinc (v := (v3_4 + (1 : Int32))) (lo' := [(3, .int (v3_4 + (1 : Int32))), (4, .int s0_33), (0, .ref 45), (1, .int a1), (2, .int v2_4)]) d_Po_claimsAhead_62 4 rfl (by rw [show Int32.ofInt (1) = (1 : Int32) from by decide]) (by decide) rfl ?_
    refine aw_goto (tgt := 4) d_Po_claimsAhead_65 rfl ?_
    refine aw_sub (lo' := [(0, .ref 45), (1, .int a1), (2, .int v2_4), (3, .int (v3_4 + (1 : Int32)))]) [2, 3, 4, 0] rfl ?_
    exact hkr4 _ _
  · refine aw_aload_n d_Po_claimsAhead_40 1 rfl ?_
    refine aw_getR (t := 53) fl_Po_33 kd_45 rt_45_9 d_Po_claimsAhead_41 ?_
    refine aw_iload_n d_Po_claimsAhead_44 4 rfl ?_
    refine aw_SN_p (As := [.ref 53, .int v3_4]) (m_Fp_get (congrArg Prod.fst kd_53)) cs_Po_51 rfl rfl (Nat.le_of_ble_eq_true rfl) ⟨Nat.le_of_ble_eq_true rfl, Nat.le_of_ble_eq_true rfl⟩ ⟨Nat.le_refl _, Nat.le_refl _⟩ d_Po_claimsAhead_45 (fun y45 => ?_)
    refine aw_aload_n d_Po_claimsAhead_48 1 rfl ?_
    refine aw_getR (t := 53) fl_Po_33 kd_45 rt_45_9 d_Po_claimsAhead_49 ?_
    refine aw_iload_n d_Po_claimsAhead_52 2 rfl ?_
    refine aw_SN_p (As := [.ref 53, .int a1]) (m_Fp_get (congrArg Prod.fst kd_53)) cs_Po_51 rfl rfl (Nat.le_of_ble_eq_true rfl) ⟨Nat.le_of_ble_eq_true rfl, Nat.le_of_ble_eq_true rfl⟩ ⟨Nat.le_refl _, Nat.le_refl _⟩ d_Po_claimsAhead_53 (fun y53 => ?_)
    refine aw_icmp_ne (tgt := 62) d_Po_claimsAhead_56 rfl (fun q56 => ?_) (fun q56 => ?_)
    · refine aw_iinc (v := (v2_4 + (1 : Int32))) (lo' := [(2, .int (v2_4 + (1 : Int32))), (4, .int s0_33), (0, .ref 45), (1, .int a1), (3, .int v3_4)]) d_Po_claimsAhead_59 3 rfl (by rw [show Int32.ofInt (1) = (1 : Int32) from by decide]) (by decide) rfl ?_
      refine aw_iinc (v := (v3_4 + (1 : Int32))) (lo' := [(3, .int (v3_4 + (1 : Int32))), (2, .int (v2_4 + (1 : Int32))), (4, .int s0_33), (0, .ref 45), (1, .int a1)]) d_Po_claimsAhead_62 4 rfl (by rw [show Int32.ofInt (1) = (1 : Int32) from by decide]) (by decide) rfl ?_
      refine aw_goto (tgt := 4) d_Po_claimsAhead_65 rfl ?_
      refine aw_sub (lo' := [(0, .ref 45), (1, .int a1), (2, .int (v2_4 + (1 : Int32))), (3, .int (v3_4 + (1 : Int32)))]) [3, 4, 1, 0] rfl ?_
      exact hkr4 _ _
    · refine aw_iinc (v := (v3_4 + (1 : Int32))) (lo' := [(3, .int (v3_4 + (1 : Int32))), (4, .int s0_33), (0, .ref 45), (1, .int a1), (2, .int v2_4)]) d_Po_claimsAhead_62 4 rfl (by rw [show Int32.ofInt (1) = (1 : Int32) from by decide]) (by decide) rfl ?_
      refine aw_goto (tgt := 4) d_Po_claimsAhead_65 rfl ?_
      refine aw_sub (lo' := [(0, .ref 45), (1, .int a1), (2, .int v2_4), (3, .int (v3_4 + (1 : Int32)))]) [2, 3, 4, 0] rfl ?_
      exact hkr4 _ _
def lp_Po_claimsAhead_4 (kx4_68 : Int32 → Int32 → Option Int32) (a1 : Int32) (δ : Dm) : Nat → Int32 → Int32 → Option Int32
  | 0, _, _ => none
  | f + 1, v2_4, v3_4 => (if a1 ≤ v3_4 then (kx4_68 v2_4 v3_4) else ((f_Fp_get 52 v3_4 δ).bind (fun y14 => ((f_Fp_get 52 a1 δ).bind (fun y22 => (if y14 = y22 then (jp_Po_claimsAhead_33 (lp_Po_claimsAhead_4 kx4_68 a1 δ f) kx4_68 a1 v2_4 v3_4 δ (1 : Int32)) else (jp_Po_claimsAhead_33 (lp_Po_claimsAhead_4 kx4_68 a1 δ f) kx4_68 a1 v2_4 v3_4 δ (0 : Int32))))))))
set_option maxHeartbeats 4000000 in
set_option maxRecDepth 100000 in
theorem tl_Po_claimsAhead_4 {n : Nat} (kx4_68 : Int32 → Int32 → Option Int32) (a1 : Int32) (δ : Dm) (hkx4_68 : ∀ v2_4k v3_4k, AWo k_Po_claimsAhead 2 0 0 68 [(0, .ref 45), (1, .int a1), (2, .int v2_4k), (3, .int v3_4k)] [] δ RT n 0 0 (Kp δ RT n) (kx4_68 v2_4k v3_4k)) : ∀ (f : Nat) (v2_4 : Int32) (v3_4 : Int32), AWo k_Po_claimsAhead 2 0 0 4 [(0, .ref 45), (1, .int a1), (2, .int v2_4), (3, .int v3_4)] [] δ RT n 0 0 (Kp δ RT n) (lp_Po_claimsAhead_4 kx4_68 a1 δ f v2_4 v3_4) := by
  intro f
  induction f with
  | zero => intro _ _; exact aw_none
  | succ f ih =>
    intro v2_4 v3_4
    rw [lp_Po_claimsAhead_4]
    refine aw_iload_n d_Po_claimsAhead_4 3 rfl ?_
    refine aw_iload_n d_Po_claimsAhead_5 1 rfl ?_
    refine aw_icmp_ge (tgt := 68) d_Po_claimsAhead_6 rfl (fun q6 => ?_) (fun q6 => ?_)
    · refine aw_sub (lo' := [(0, .ref 45), (1, .int a1), (2, .int v2_4), (3, .int v3_4)]) [0, 1, 2, 3] rfl ?_
      exact hkx4_68 _ _
    · refine aw_aload_n d_Po_claimsAhead_9 0 rfl ?_
      refine aw_getR (t := 52) fl_Po_30 kd_45 rt_45_8 d_Po_claimsAhead_10 ?_
      refine aw_iload_n d_Po_claimsAhead_13 3 rfl ?_
      refine aw_SN_p (As := [.ref 52, .int v3_4]) (m_Fp_get (congrArg Prod.fst kd_52)) cs_Po_51 rfl rfl (Nat.le_of_ble_eq_true rfl) ⟨Nat.le_of_ble_eq_true rfl, Nat.le_of_ble_eq_true rfl⟩ ⟨Nat.le_refl _, Nat.le_refl _⟩ d_Po_claimsAhead_14 (fun y14 => ?_)
      refine aw_aload_n d_Po_claimsAhead_17 0 rfl ?_
      refine aw_getR (t := 52) fl_Po_30 kd_45 rt_45_8 d_Po_claimsAhead_18 ?_
      refine aw_iload_n d_Po_claimsAhead_21 1 rfl ?_
      refine aw_SN_p (As := [.ref 52, .int a1]) (m_Fp_get (congrArg Prod.fst kd_52)) cs_Po_51 rfl rfl (Nat.le_of_ble_eq_true rfl) ⟨Nat.le_of_ble_eq_true rfl, Nat.le_of_ble_eq_true rfl⟩ ⟨Nat.le_refl _, Nat.le_refl _⟩ d_Po_claimsAhead_22 (fun y22 => ?_)
      refine aw_icmp_ne (tgt := 32) d_Po_claimsAhead_25 rfl (fun q25 => ?_) (fun q25 => ?_)
      · refine aw_iconst d_Po_claimsAhead_28 ki_1 ?_
        refine aw_goto (tgt := 33) d_Po_claimsAhead_29 rfl ?_
        refine aw_sub (lo' := [(0, .ref 45), (1, .int a1), (2, .int v2_4), (3, .int v3_4)]) [0, 1, 2, 3] rfl ?_
        exact tj_Po_claimsAhead_33 _ _ _ _ _ _ _ ih hkx4_68
      · refine aw_iconst d_Po_claimsAhead_32 ki_0 ?_
        refine aw_sub (lo' := [(0, .ref 45), (1, .int a1), (2, .int v2_4), (3, .int v3_4)]) [0, 1, 2, 3] rfl ?_
        exact tj_Po_claimsAhead_33 _ _ _ _ _ _ _ ih hkx4_68
def f_Po_claimsAhead (a1 : Int32) (δ : Dm) : Option Int32 := (lp_Po_claimsAhead_4 (fun v2_4x v3_4x => (some v2_4x)) a1 δ FU (0 : Int32) (0 : Int32))
set_option maxHeartbeats 4000000 in
set_option maxRecDepth 100000 in
theorem m_Po_claimsAhead {a1 : Int32} {δ : Dm} {n : Nat} : ∀ x, f_Po_claimsAhead a1 δ = some x → AMet k_Po_claimsAhead 2 0 0 [.ref 45, .int a1] δ RT n (Kp δ RT n x) := by
  refine aw_start (lo := [(0, .ref 45), (1, .int a1)]) mok_Po_claimsAhead rfl (Nat.le_of_ble_eq_true rfl) ?_
  unfold f_Po_claimsAhead
  refine aw_iconst d_Po_claimsAhead_0 ki_0 ?_
  refine aw_istore_n (lo' := [(2, .int (0 : Int32)), (0, .ref 45), (1, .int a1)]) d_Po_claimsAhead_1 rfl (by decide) rfl ?_
  refine aw_iconst d_Po_claimsAhead_2 ki_0 ?_
  refine aw_istore_n (lo' := [(3, .int (0 : Int32)), (2, .int (0 : Int32)), (0, .ref 45), (1, .int a1)]) d_Po_claimsAhead_3 rfl (by decide) rfl ?_
  refine aw_sub (lo' := [(0, .ref 45), (1, .int a1), (2, .int (0 : Int32)), (3, .int (0 : Int32))]) [2, 3, 1, 0] rfl ?_
  refine tl_Po_claimsAhead_4 _ _ _ (fun v2_4x v3_4x => ?_) FU _ _
  · refine aw_iload_n d_Po_claimsAhead_68 2 rfl ?_
    exact aw_iret rfl rfl ⟨Nat.le_refl _, Nat.le_refl _⟩ d_Po_claimsAhead_69
def f_Fp_missing (a1 : Int32) (δ : Dm) : Option Int32 := ((f_Fp_get 52 a1 δ).bind (fun y20 => ((f_Fp_get 53 a1 δ).bind (fun y28 => ((f_Di_spoiltOn y20 y28 δ).bind (fun y31 => ((f_Po_claimsAhead a1 δ).bind (fun y37 => (some (y37 - y31))))))))))
set_option maxHeartbeats 4000000 in
set_option maxRecDepth 100000 in
theorem m_Fp_missing {a1 : Int32} {δ : Dm} {n : Nat} : ∀ x, f_Fp_missing a1 δ = some x → AMet k_Fp_missing 4 0 0 [.ref 4, .int a1] δ RT n (Kp δ RT n x) := by
  refine aw_start (lo := [(0, .ref 4), (1, .int a1)]) mok_Fp_missing rfl (Nat.le_of_ble_eq_true rfl) ?_
  unfold f_Fp_missing
  refine aw_aload_n d_Fp_missing_0 0 rfl ?_
  refine aw_getR (t := 29) fl_Fp_57 kd_4 rt_4_9 d_Fp_missing_1 ?_
  refine aw_getR (t := 45) fl_Fp_250 kd_29 rt_29_8 d_Fp_missing_4 ?_
  refine aw_astore_n (lo' := [(2, .ref 45), (0, .ref 4), (1, .int a1)]) d_Fp_missing_7 rfl (by decide) rfl ?_
  refine aw_aload_n d_Fp_missing_8 1 rfl ?_
  refine aw_getR (t := 29) fl_Fp_57 kd_4 rt_4_9 d_Fp_missing_9 ?_
  refine aw_getR (t := 34) fl_Fp_148 kd_29 rt_29_7 d_Fp_missing_12 ?_
  refine aw_aload_n d_Fp_missing_15 0 rfl ?_
  refine aw_getR (t := 52) fl_Fp_373 kd_45 rt_45_8 d_Fp_missing_16 ?_
  refine aw_iload_n d_Fp_missing_19 2 rfl ?_
  refine aw_S_p (As := [.ref 52, .int a1]) (m_Fp_get (congrArg Prod.fst kd_52)) cs_Fp_98 rfl rfl (Nat.le_of_ble_eq_true rfl) ⟨Nat.le_of_ble_eq_true rfl, Nat.le_of_ble_eq_true rfl⟩ ⟨Nat.le_refl _, Nat.le_refl _⟩ d_Fp_missing_20 (fun y20 => ?_)
  refine aw_aload_n d_Fp_missing_23 0 rfl ?_
  refine aw_getR (t := 53) fl_Fp_376 kd_45 rt_45_9 d_Fp_missing_24 ?_
  refine aw_iload_n d_Fp_missing_27 2 rfl ?_
  refine aw_S_p (As := [.ref 53, .int a1]) (m_Fp_get (congrArg Prod.fst kd_53)) cs_Fp_98 rfl rfl (Nat.le_of_ble_eq_true rfl) ⟨Nat.le_of_ble_eq_true rfl, Nat.le_of_ble_eq_true rfl⟩ ⟨Nat.le_refl _, Nat.le_refl _⟩ d_Fp_missing_28 (fun y28 => ?_)
  refine aw_V_p (As := [.int y20, .int y28]) (m_Di_spoiltOn) cv_Fp_379 kd_34 rfl rfl rfl (Nat.le_of_ble_eq_true rfl) ⟨Nat.le_of_ble_eq_true rfl, Nat.le_of_ble_eq_true rfl⟩ ⟨Nat.le_refl _, Nat.le_refl _⟩ d_Fp_missing_31 (fun y31 => ?_)
  refine aw_istore_n (lo' := [(3, .int y31), (2, .ref 45), (0, .ref 4), (1, .int a1)]) d_Fp_missing_34 rfl (by decide) rfl ?_
  refine aw_aload_n d_Fp_missing_35 1 rfl ?_
  refine aw_iload_n d_Fp_missing_36 3 rfl ?_
  refine aw_V_p (As := [.int a1]) (m_Po_claimsAhead) cv_Fp_382 kd_45 rfl rfl rfl (Nat.le_of_ble_eq_true rfl) ⟨Nat.le_of_ble_eq_true rfl, Nat.le_of_ble_eq_true rfl⟩ ⟨Nat.le_refl _, Nat.le_refl _⟩ d_Fp_missing_37 (fun y37 => ?_)
  refine aw_iload_n d_Fp_missing_40 0 rfl ?_
  refine aw_isub d_Fp_missing_41 ?_
  exact aw_iret rfl rfl ⟨Nat.le_refl _, Nat.le_refl _⟩ d_Fp_missing_42
def lp_Po_claimsUpTo_4 (kx4_37 : Int32 → Int32 → Option Int32) (a1 : Int32) (δ : Dm) : Nat → Int32 → Int32 → Option Int32
  | 0, _, _ => none
  | f + 1, v2_4, v3_4 => (if a1 < v3_4 then (kx4_37 v2_4 v3_4) else ((f_Fp_get 51 v3_4 δ).bind (fun y14 => ((f_Fp_get 51 a1 δ).bind (fun y22 => (if y14 = y22 then (lp_Po_claimsUpTo_4 kx4_37 a1 δ f (v2_4 + (1 : Int32)) (v3_4 + (1 : Int32))) else (lp_Po_claimsUpTo_4 kx4_37 a1 δ f v2_4 (v3_4 + (1 : Int32)))))))))
set_option maxHeartbeats 4000000 in
set_option maxRecDepth 100000 in
theorem tl_Po_claimsUpTo_4 {n : Nat} (kx4_37 : Int32 → Int32 → Option Int32) (a1 : Int32) (δ : Dm) (hkx4_37 : ∀ v2_4k v3_4k, AWo k_Po_claimsUpTo 2 0 0 37 [(0, .ref 45), (1, .int a1), (2, .int v2_4k), (3, .int v3_4k)] [] δ RT n 0 0 (Kp δ RT n) (kx4_37 v2_4k v3_4k)) : ∀ (f : Nat) (v2_4 : Int32) (v3_4 : Int32), AWo k_Po_claimsUpTo 2 0 0 4 [(0, .ref 45), (1, .int a1), (2, .int v2_4), (3, .int v3_4)] [] δ RT n 0 0 (Kp δ RT n) (lp_Po_claimsUpTo_4 kx4_37 a1 δ f v2_4 v3_4) := by
  intro f
  induction f with
  | zero => intro _ _; exact aw_none
  | succ f ih =>
    intro v2_4 v3_4
    rw [lp_Po_claimsUpTo_4]
    refine aw_iload_n d_Po_claimsUpTo_4 3 rfl ?_
    refine aw_iload_n d_Po_claimsUpTo_5 1 rfl ?_
    refine aw_icmp_gt (tgt := 37) d_Po_claimsUpTo_6 rfl (fun q6 => ?_) (fun q6 => ?_)
    · refine aw_sub (lo' := [(0, .ref 45), (1, .int a1), (2, .int v2_4), (3, .int v3_4)]) [0, 1, 2, 3] rfl ?_
      exact hkx4_37 _ _
    · refine aw_aload_n d_Po_claimsUpTo_9 0 rfl ?_
      refine aw_getR (t := 51) fl_Po_27 kd_45 rt_45_7 d_Po_claimsUpTo_10 ?_
      refine aw_iload_n d_Po_claimsUpTo_13 3 rfl ?_
      refine aw_SN_p (As := [.ref 51, .int v3_4]) (m_Fp_get (congrArg Prod.fst kd_51)) cs_Po_51 rfl rfl (Nat.le_of_ble_eq_true rfl) ⟨Nat.le_of_ble_eq_true rfl, Nat.le_of_ble_eq_true rfl⟩ ⟨Nat.le_refl _, Nat.le_refl _⟩ d_Po_claimsUpTo_14 (fun y14 => ?_)
      refine aw_aload_n d_Po_claimsUpTo_17 0 rfl ?_
      refine aw_getR (t := 51) fl_Po_27 kd_45 rt_45_7 d_Po_claimsUpTo_18 ?_
      refine aw_iload_n d_Po_claimsUpTo_21 1 rfl ?_
      refine aw_SN_p (As := [.ref 51, .int a1]) (m_Fp_get (congrArg Prod.fst kd_51)) cs_Po_51 rfl rfl (Nat.le_of_ble_eq_true rfl) ⟨Nat.le_of_ble_eq_true rfl, Nat.le_of_ble_eq_true rfl⟩ ⟨Nat.le_refl _, Nat.le_refl _⟩ d_Po_claimsUpTo_22 (fun y22 => ?_)
      refine aw_icmp_ne (tgt := 31) d_Po_claimsUpTo_25 rfl (fun q25 => ?_) (fun q25 => ?_)
      · refine aw_iinc (v := (v2_4 + (1 : Int32))) (lo' := [(2, .int (v2_4 + (1 : Int32))), (0, .ref 45), (1, .int a1), (3, .int v3_4)]) d_Po_claimsUpTo_28 2 rfl (by rw [show Int32.ofInt (1) = (1 : Int32) from by decide]) (by decide) rfl ?_
        refine aw_iinc (v := (v3_4 + (1 : Int32))) (lo' := [(3, .int (v3_4 + (1 : Int32))), (2, .int (v2_4 + (1 : Int32))), (0, .ref 45), (1, .int a1)]) d_Po_claimsUpTo_31 3 rfl (by rw [show Int32.ofInt (1) = (1 : Int32) from by decide]) (by decide) rfl ?_
        refine aw_goto (tgt := 4) d_Po_claimsUpTo_34 rfl ?_
        refine aw_sub (lo' := [(0, .ref 45), (1, .int a1), (2, .int (v2_4 + (1 : Int32))), (3, .int (v3_4 + (1 : Int32)))]) [2, 3, 1, 0] rfl ?_
        exact ih _ _
      · refine aw_iinc (v := (v3_4 + (1 : Int32))) (lo' := [(3, .int (v3_4 + (1 : Int32))), (0, .ref 45), (1, .int a1), (2, .int v2_4)]) d_Po_claimsUpTo_31 3 rfl (by rw [show Int32.ofInt (1) = (1 : Int32) from by decide]) (by decide) rfl ?_
        refine aw_goto (tgt := 4) d_Po_claimsUpTo_34 rfl ?_
        refine aw_sub (lo' := [(0, .ref 45), (1, .int a1), (2, .int v2_4), (3, .int (v3_4 + (1 : Int32)))]) [1, 2, 3, 0] rfl ?_
        exact ih _ _
def f_Po_claimsUpTo (a1 : Int32) (δ : Dm) : Option Int32 := (lp_Po_claimsUpTo_4 (fun v2_4x v3_4x => (some v2_4x)) a1 δ FU (0 : Int32) (0 : Int32))
set_option maxHeartbeats 4000000 in
set_option maxRecDepth 100000 in
theorem m_Po_claimsUpTo {a1 : Int32} {δ : Dm} {n : Nat} : ∀ x, f_Po_claimsUpTo a1 δ = some x → AMet k_Po_claimsUpTo 2 0 0 [.ref 45, .int a1] δ RT n (Kp δ RT n x) := by
  refine aw_start (lo := [(0, .ref 45), (1, .int a1)]) mok_Po_claimsUpTo rfl (Nat.le_of_ble_eq_true rfl) ?_
  unfold f_Po_claimsUpTo
  refine aw_iconst d_Po_claimsUpTo_0 ki_0 ?_
  refine aw_istore_n (lo' := [(2, .int (0 : Int32)), (0, .ref 45), (1, .int a1)]) d_Po_claimsUpTo_1 rfl (by decide) rfl ?_
  refine aw_iconst d_Po_claimsUpTo_2 ki_0 ?_
  refine aw_istore_n (lo' := [(3, .int (0 : Int32)), (2, .int (0 : Int32)), (0, .ref 45), (1, .int a1)]) d_Po_claimsUpTo_3 rfl (by decide) rfl ?_
  refine aw_sub (lo' := [(0, .ref 45), (1, .int a1), (2, .int (0 : Int32)), (3, .int (0 : Int32))]) [2, 3, 1, 0] rfl ?_
  refine tl_Po_claimsUpTo_4 _ _ _ (fun v2_4x v3_4x => ?_) FU _ _
  · refine aw_iload_n d_Po_claimsUpTo_37 2 rfl ?_
    exact aw_iret rfl rfl ⟨Nat.le_refl _, Nat.le_refl _⟩ d_Po_claimsUpTo_38
def f_Fp_isRefunded (a1 : Int32) (δ : Dm) : Option (Int32 × Dm) := ((f_Fp_get 52 a1 δ).bind (fun y13 => ((f_Fp_get 53 a1 δ).bind (fun y22 => ((f_To_boothAt y13 δ).bind (fun o32 => ocs o32 (some ((0 : Int32), δ)) (fun t32 => if isB t32 = true then ((f_Fp_lawAt (gI δ t32 2) δ).bind (fun o52 => ocs o52 (some ((0 : Int32), δ)) (fun t52 => if isL t52 = true then ((f_Fa_open t32 y22 δ).bind (fun y76 => ((f_Di_stripsIn y13 y22 y22 y76).bind (fun y95 => ((f_Po_claimsUpTo a1 y76).bind (fun y100 => ((f_Fa_till y95 y100 y76).bind (fun y103 => ((f_La_holds t52 (15 : Int32) y103).bind (fun y114 => bnd y114.1 (fun v114 => bnd y114.2 (fun δ_114 => (if v114 = 0 ∨ v114 = 1 then (some (v114, δ_114)) else none))))))))))))) else none))) else none)))))))
set_option maxHeartbeats 4000000 in
set_option maxRecDepth 100000 in
theorem m_Fp_isRefunded {a1 : Int32} {δ : Dm} {n : Nat} : ∀ x, f_Fp_isRefunded a1 δ = some x → AMet k_Fp_isRefunded 4 0 0 [.ref 4, .int a1] δ RT n (Km RT n x) := by
  refine aw_start (lo := [(0, .ref 4), (1, .int a1)]) mok_Fp_isRefunded rfl (Nat.le_of_ble_eq_true rfl) ?_
  unfold f_Fp_isRefunded
  refine aw_aload_n d_Fp_isRefunded_0 0 rfl ?_
  refine aw_getR (t := 29) fl_Fp_57 kd_4 rt_4_9 d_Fp_isRefunded_1 ?_
  refine aw_getR (t := 45) fl_Fp_250 kd_29 rt_29_8 d_Fp_isRefunded_4 ?_
  refine aw_astore_n (lo' := [(2, .ref 45), (0, .ref 4), (1, .int a1)]) d_Fp_isRefunded_7 rfl (by decide) rfl ?_
  refine aw_aload_n d_Fp_isRefunded_8 0 rfl ?_
  refine aw_getR (t := 52) fl_Fp_373 kd_45 rt_45_8 d_Fp_isRefunded_9 ?_
  refine aw_iload_n d_Fp_isRefunded_12 2 rfl ?_
  refine aw_S_p (As := [.ref 52, .int a1]) (m_Fp_get (congrArg Prod.fst kd_52)) cs_Fp_98 rfl rfl (Nat.le_of_ble_eq_true rfl) ⟨Nat.le_of_ble_eq_true rfl, Nat.le_of_ble_eq_true rfl⟩ ⟨Nat.le_refl _, Nat.le_refl _⟩ d_Fp_isRefunded_13 (fun y13 => ?_)
  refine aw_istore_n (lo' := [(3, .int y13), (2, .ref 45), (0, .ref 4), (1, .int a1)]) d_Fp_isRefunded_16 rfl (by decide) rfl ?_
  refine aw_aload_n d_Fp_isRefunded_17 1 rfl ?_
  refine aw_getR (t := 53) fl_Fp_376 kd_45 rt_45_9 d_Fp_isRefunded_18 ?_
  refine aw_iload_n d_Fp_isRefunded_21 3 rfl ?_
  refine aw_S_p (As := [.ref 53, .int a1]) (m_Fp_get (congrArg Prod.fst kd_53)) cs_Fp_98 rfl rfl (Nat.le_of_ble_eq_true rfl) ⟨Nat.le_of_ble_eq_true rfl, Nat.le_of_ble_eq_true rfl⟩ ⟨Nat.le_refl _, Nat.le_refl _⟩ d_Fp_isRefunded_22 (fun y22 => ?_)
  refine aw_istore (lo' := [(4, .int y22), (3, .int y13), (2, .ref 45), (0, .ref 4), (1, .int a1)]) d_Fp_isRefunded_25 (by decide) rfl ?_
  refine aw_aload_n d_Fp_isRefunded_27 3 rfl ?_
  refine aw_getR (t := 29) fl_Fp_57 kd_4 rt_4_9 d_Fp_isRefunded_28 ?_
  refine aw_iload_n d_Fp_isRefunded_31 1 rfl ?_
  refine aw_V_r (As := [.int y13]) (m_To_boothAt) cv_Fp_139 kd_29 rfl rfl rfl (Nat.le_of_ble_eq_true rfl) ⟨Nat.le_of_ble_eq_true rfl, Nat.le_of_ble_eq_true rfl⟩ ⟨Nat.le_refl _, Nat.le_refl _⟩ d_Fp_isRefunded_32 ?_ (fun t32 => ?_)
  · refine aw_astoreN (lo' := [(5, .null), (4, .int y22), (3, .int y13), (2, .ref 45), (0, .ref 4), (1, .int a1)]) d_Fp_isRefunded_35 (by decide) rfl ?_
    refine aw_aloadN d_Fp_isRefunded_37 0 rfl ?_
    refine aw_ifnonnullN d_Fp_isRefunded_39 ?_
    refine aw_null d_Fp_isRefunded_42 ?_
    refine aw_goto (tgt := 55) d_Fp_isRefunded_43 rfl ?_
    refine aw_astoreN (lo' := [(6, .null), (5, .null), (4, .int y22), (3, .int y13), (2, .ref 45), (0, .ref 4), (1, .int a1)]) d_Fp_isRefunded_55 (by decide) rfl ?_
    refine aw_aloadN d_Fp_isRefunded_57 0 rfl ?_
    refine aw_ifnonnullN d_Fp_isRefunded_59 ?_
    refine aw_iconst d_Fp_isRefunded_62 ki_0 ?_
    exact aw_zret rfl rfl rfl ⟨Nat.le_refl _, Nat.le_refl _⟩ d_Fp_isRefunded_63
  · refine aw_grd (fun ht32 => ?_)
    refine aw_astore (lo' := [(5, .ref t32), (4, .int y22), (3, .int y13), (2, .ref 45), (0, .ref 4), (1, .int a1)]) d_Fp_isRefunded_35 (by decide) rfl ?_
    refine aw_aload d_Fp_isRefunded_37 0 rfl ?_
    refine aw_ifnonnull (tgt := 46) d_Fp_isRefunded_39 rfl ?_
    refine aw_aload_n d_Fp_isRefunded_46 4 rfl ?_
    refine aw_aload d_Fp_isRefunded_47 0 rfl ?_
    refine aw_getI fl_Fp_157 (fx_isBK ht32 0 (by decide)) d_Fp_isRefunded_49 ?_
    refine aw_V_r (As := [.int (gI δ t32 2)]) (m_Fp_lawAt) cv_Fp_126 kd_4 rfl rfl rfl (Nat.le_of_ble_eq_true rfl) ⟨Nat.le_of_ble_eq_true rfl, Nat.le_of_ble_eq_true rfl⟩ ⟨Nat.le_refl _, Nat.le_refl _⟩ d_Fp_isRefunded_52 ?_ (fun t52 => ?_)
    · refine aw_astoreN (lo' := [(6, .null), (5, .ref t32), (4, .int y22), (3, .int y13), (2, .ref 45), (0, .ref 4), (1, .int a1)]) d_Fp_isRefunded_55 (by decide) rfl ?_
      refine aw_aloadN d_Fp_isRefunded_57 0 rfl ?_
      refine aw_ifnonnullN d_Fp_isRefunded_59 ?_
      refine aw_iconst d_Fp_isRefunded_62 ki_0 ?_
      exact aw_zret rfl rfl rfl ⟨Nat.le_refl _, Nat.le_refl _⟩ d_Fp_isRefunded_63
    · refine aw_grd (fun ht52 => ?_)
      refine aw_astore (lo' := [(6, .ref t52), (5, .ref t32), (4, .int y22), (3, .int y13), (2, .ref 45), (0, .ref 4), (1, .int a1)]) d_Fp_isRefunded_55 (by decide) rfl ?_
      refine aw_aload d_Fp_isRefunded_57 0 rfl ?_
      refine aw_ifnonnull (tgt := 64) d_Fp_isRefunded_59 rfl ?_
      refine aw_aload_n d_Fp_isRefunded_64 5 rfl ?_
      refine aw_getR (t := 19) fl_Fp_29 kd_4 rt_4_5 d_Fp_isRefunded_65 ?_
      refine aw_aload_n d_Fp_isRefunded_68 5 rfl ?_
      refine aw_getR (t := 29) fl_Fp_57 kd_4 rt_4_9 d_Fp_isRefunded_69 ?_
      refine aw_aload d_Fp_isRefunded_72 1 rfl ?_
      refine aw_iload d_Fp_isRefunded_74 2 rfl ?_
      refine aw_V_v (As := [.ref 29, .ref t32, .int y22]) (m_Fa_open ht32) cv_Fp_160 kd_19 rfl rfl rfl (Nat.le_of_ble_eq_true rfl) ⟨Nat.le_of_ble_eq_true rfl, Nat.le_of_ble_eq_true rfl⟩ ⟨Nat.le_refl _, Nat.le_refl _⟩ d_Fp_isRefunded_76 (fun y76 => ?_)
      refine aw_aload_n d_Fp_isRefunded_79 5 rfl ?_
      refine aw_getR (t := 19) fl_Fp_29 kd_4 rt_4_5 d_Fp_isRefunded_80 ?_
      refine aw_aload_n d_Fp_isRefunded_83 5 rfl ?_
      refine aw_getR (t := 29) fl_Fp_57 kd_4 rt_4_9 d_Fp_isRefunded_84 ?_
      refine aw_getR (t := 34) fl_Fp_148 kd_29 rt_29_7 d_Fp_isRefunded_87 ?_
      refine aw_iload_n d_Fp_isRefunded_90 3 rfl ?_
      refine aw_iload d_Fp_isRefunded_91 2 rfl ?_
      refine aw_iload d_Fp_isRefunded_93 2 rfl ?_
      refine aw_V_p (As := [.int y13, .int y22, .int y22]) (m_Di_stripsIn) cv_Fp_274 kd_34 rfl rfl rfl (Nat.le_of_ble_eq_true rfl) ⟨Nat.le_of_ble_eq_true rfl, Nat.le_of_ble_eq_true rfl⟩ ⟨Nat.le_refl _, Nat.le_refl _⟩ d_Fp_isRefunded_95 (fun y95 => ?_)
      refine aw_aload_n d_Fp_isRefunded_98 4 rfl ?_
      refine aw_iload_n d_Fp_isRefunded_99 6 rfl ?_
      refine aw_V_p (As := [.int a1]) (m_Po_claimsUpTo) cv_Fp_385 kd_45 rfl rfl rfl (Nat.le_of_ble_eq_true rfl) ⟨Nat.le_of_ble_eq_true rfl, Nat.le_of_ble_eq_true rfl⟩ ⟨Nat.le_refl _, Nat.le_refl _⟩ d_Fp_isRefunded_100 (fun y100 => ?_)
      refine aw_V_v (As := [.int y95, .int y100]) (m_Fa_till) cv_Fp_174 kd_19 rfl rfl rfl (Nat.le_of_ble_eq_true rfl) ⟨Nat.le_of_ble_eq_true rfl, Nat.le_of_ble_eq_true rfl⟩ ⟨Nat.le_refl _, Nat.le_refl _⟩ d_Fp_isRefunded_103 (fun y103 => ?_)
      refine aw_aload d_Fp_isRefunded_106 0 rfl ?_
      refine aw_bipush d_Fp_isRefunded_108 kb_15 ?_
      refine aw_aload_n d_Fp_isRefunded_110 5 rfl ?_
      refine aw_getR (t := 19) fl_Fp_29 kd_4 rt_4_5 d_Fp_isRefunded_111 ?_
      refine aw_V_m (As := [.int (15 : Int32), .ref 19]) (m_La_holds ht52) cv_Fp_388 (fx_isLK ht52 0 (by decide)) rfl rfl rfl (Nat.le_of_ble_eq_true rfl) ⟨Nat.le_of_ble_eq_true rfl, Nat.le_of_ble_eq_true rfl⟩ ⟨Nat.le_refl _, Nat.le_refl _⟩ d_Fp_isRefunded_114 (fun y114 => ?_)
      refine aw_bI (fun v114 => ?_)
      refine aw_bD (fun δ_114 => ?_)
      exact aw_zr2 rfl rfl ⟨Nat.le_refl _, Nat.le_refl _⟩ d_Fp_isRefunded_117
def f_Fp_fair (a1 : Int32) (a2 : Int32) (δ : Dm) : Option (Int32 × Dm) := ((f_Fp_within a1 (0 : Int32) ((gI δ 45 1) - (1 : Int32)) δ).bind (fun y14 => (if y14 = 0 then (some ((-1 : Int32), δ)) else ((f_Fp_within a2 (0 : Int32) (1 : Int32) δ).bind (fun y23 => (if y23 = 0 then (some ((-1 : Int32), δ)) else ((f_Fp_missing a1 δ).bind (fun y33 => (if 0 ≤ y33 then (if a2 = (1 : Int32) then ((f_Fp_isRefunded a1 δ).bind (fun y48 => bnd y48.1 (fun v48 => bnd y48.2 (fun δ_48 => (if v48 = 0 then (some ((0 : Int32), δ_48)) else (some ((1 : Int32), δ_48))))))) else (some ((0 : Int32), δ))) else (some ((1 : Int32), δ)))))))))))
set_option maxHeartbeats 4000000 in
set_option maxRecDepth 100000 in
theorem m_Fp_fair {a1 : Int32} {a2 : Int32} {δ : Dm} {n : Nat} : ∀ x, f_Fp_fair a1 a2 δ = some x → AMet k_Fp_fair 5 0 0 [.ref 4, .int a1, .int a2] δ RT n (Km RT n x) := by
  refine aw_start (lo := [(0, .ref 4), (1, .int a1), (2, .int a2)]) mok_Fp_fair rfl (Nat.le_of_ble_eq_true rfl) ?_
  unfold f_Fp_fair
  refine aw_iload_n d_Fp_fair_0 1 rfl ?_
  refine aw_iconst d_Fp_fair_1 ki_0 ?_
  refine aw_aload_n d_Fp_fair_2 0 rfl ?_
  refine aw_getR (t := 29) fl_Fp_57 kd_4 rt_4_9 d_Fp_fair_3 ?_
  refine aw_getR (t := 45) fl_Fp_250 kd_29 rt_29_8 d_Fp_fair_6 ?_
  refine aw_getI fl_Fp_283 kd_45 d_Fp_fair_9 ?_
  refine aw_iconst d_Fp_fair_12 ki_1 ?_
  refine aw_isub d_Fp_fair_13 ?_
  refine aw_S_p (As := [.int a1, .int (0 : Int32), .int ((gI δ 45 1) - (1 : Int32))]) (m_Fp_within) cs_Fp_70 rfl rfl (Nat.le_of_ble_eq_true rfl) ⟨Nat.le_of_ble_eq_true rfl, Nat.le_of_ble_eq_true rfl⟩ ⟨Nat.le_refl _, Nat.le_refl _⟩ d_Fp_fair_14 (fun y14 => ?_)
  refine aw_if_eq (tgt := 29) d_Fp_fair_17 rfl (fun q17 => ?_) (fun q17 => ?_)
  · refine aw_iconst d_Fp_fair_29 ki_m1 ?_
    exact aw_iret rfl rfl ⟨Nat.le_refl _, Nat.le_refl _⟩ d_Fp_fair_30
  · refine aw_iload_n d_Fp_fair_20 2 rfl ?_
    refine aw_iconst d_Fp_fair_21 ki_0 ?_
    refine aw_iconst d_Fp_fair_22 ki_1 ?_
    refine aw_S_p (As := [.int a2, .int (0 : Int32), .int (1 : Int32)]) (m_Fp_within) cs_Fp_70 rfl rfl (Nat.le_of_ble_eq_true rfl) ⟨Nat.le_of_ble_eq_true rfl, Nat.le_of_ble_eq_true rfl⟩ ⟨Nat.le_refl _, Nat.le_refl _⟩ d_Fp_fair_23 (fun y23 => ?_)
    refine aw_if_ne (tgt := 31) d_Fp_fair_26 rfl (fun q26 => ?_) (fun q26 => ?_)
    · refine aw_iconst d_Fp_fair_29 ki_m1 ?_
      exact aw_iret rfl rfl ⟨Nat.le_refl _, Nat.le_refl _⟩ d_Fp_fair_30
    · refine aw_aload_n d_Fp_fair_31 0 rfl ?_
      refine aw_iload_n d_Fp_fair_32 1 rfl ?_
      refine aw_V_p (As := [.int a1]) (m_Fp_missing) cv_Fp_289 kd_4 rfl rfl rfl (Nat.le_of_ble_eq_true rfl) ⟨Nat.le_of_ble_eq_true rfl, Nat.le_of_ble_eq_true rfl⟩ ⟨Nat.le_refl _, Nat.le_refl _⟩ d_Fp_fair_33 (fun y33 => ?_)
      refine aw_if_ge (tgt := 41) d_Fp_fair_36 rfl (fun q36 => ?_) (fun q36 => ?_)
      · refine aw_iload_n d_Fp_fair_41 2 rfl ?_
        refine aw_iconst d_Fp_fair_42 ki_1 ?_
        refine aw_icmp_ne (tgt := 58) d_Fp_fair_43 rfl (fun q43 => ?_) (fun q43 => ?_)
        · refine aw_aload_n d_Fp_fair_46 0 rfl ?_
          refine aw_iload_n d_Fp_fair_47 1 rfl ?_
          refine aw_V_m (As := [.int a1]) (m_Fp_isRefunded) cv_Fp_293 kd_4 rfl rfl rfl (Nat.le_of_ble_eq_true rfl) ⟨Nat.le_of_ble_eq_true rfl, Nat.le_of_ble_eq_true rfl⟩ ⟨Nat.le_refl _, Nat.le_refl _⟩ d_Fp_fair_48 (fun y48 => ?_)
          refine aw_bI (fun v48 => ?_)
          refine aw_bD (fun δ_48 => ?_)
          refine aw_if_eq (tgt := 58) d_Fp_fair_51 rfl (fun q51 => ?_) (fun q51 => ?_)
          · refine aw_iconst d_Fp_fair_58 ki_0 ?_
            exact aw_iret rfl rfl ⟨Nat.le_refl _, Nat.le_refl _⟩ d_Fp_fair_59
          · refine aw_iconst d_Fp_fair_54 ki_1 ?_
            refine aw_goto (tgt := 59) d_Fp_fair_55 rfl ?_
            exact aw_iret rfl rfl ⟨Nat.le_refl _, Nat.le_refl _⟩ d_Fp_fair_59
        · refine aw_iconst d_Fp_fair_58 ki_0 ?_
          exact aw_iret rfl rfl ⟨Nat.le_refl _, Nat.le_refl _⟩ d_Fp_fair_59
      · refine aw_iconst d_Fp_fair_39 ki_1 ?_
        exact aw_iret rfl rfl ⟨Nat.le_refl _, Nat.le_refl _⟩ d_Fp_fair_40
def lp_Fp_twice_4 (kx4_35 : Int32 → Int32 → Option Int32) (δ : Dm) : Nat → Int32 → Int32 → Option Int32
  | 0, _, _ => none
  | f + 1, v1_4, v2_4 => (if (gI δ 45 1) ≤ v2_4 then (kx4_35 v1_4 v2_4) else ((f_Fp_missing v2_4 δ).bind (fun y20 => (if y20 ≤ 0 then (lp_Fp_twice_4 kx4_35 δ f v1_4 (v2_4 + (1 : Int32))) else (lp_Fp_twice_4 kx4_35 δ f (v1_4 + (1 : Int32)) (v2_4 + (1 : Int32)))))))
set_option maxHeartbeats 4000000 in
set_option maxRecDepth 100000 in
theorem tl_Fp_twice_4 {n : Nat} (kx4_35 : Int32 → Int32 → Option Int32) (δ : Dm) (hkx4_35 : ∀ v1_4k v2_4k, AWo k_Fp_twice 5 0 0 35 [(0, .ref 4), (1, .int v1_4k), (2, .int v2_4k)] [] δ RT n 0 0 (Kp δ RT n) (kx4_35 v1_4k v2_4k)) : ∀ (f : Nat) (v1_4 : Int32) (v2_4 : Int32), AWo k_Fp_twice 5 0 0 4 [(0, .ref 4), (1, .int v1_4), (2, .int v2_4)] [] δ RT n 0 0 (Kp δ RT n) (lp_Fp_twice_4 kx4_35 δ f v1_4 v2_4) := by
  intro f
  induction f with
  | zero => intro _ _; exact aw_none
  | succ f ih =>
    intro v1_4 v2_4
    rw [lp_Fp_twice_4]
    refine aw_iload_n d_Fp_twice_4 2 rfl ?_
    refine aw_aload_n d_Fp_twice_5 0 rfl ?_
    refine aw_getR (t := 29) fl_Fp_57 kd_4 rt_4_9 d_Fp_twice_6 ?_
    refine aw_getR (t := 45) fl_Fp_250 kd_29 rt_29_8 d_Fp_twice_9 ?_
    refine aw_getI fl_Fp_283 kd_45 d_Fp_twice_12 ?_
    refine aw_icmp_ge (tgt := 35) d_Fp_twice_15 rfl (fun q15 => ?_) (fun q15 => ?_)
    · refine aw_sub (lo' := [(0, .ref 4), (1, .int v1_4), (2, .int v2_4)]) [0, 1, 2] rfl ?_
      exact hkx4_35 _ _
    · refine aw_aload_n d_Fp_twice_18 0 rfl ?_
      refine aw_iload_n d_Fp_twice_19 2 rfl ?_
      refine aw_V_p (As := [.int v2_4]) (m_Fp_missing) cv_Fp_289 kd_4 rfl rfl rfl (Nat.le_of_ble_eq_true rfl) ⟨Nat.le_of_ble_eq_true rfl, Nat.le_of_ble_eq_true rfl⟩ ⟨Nat.le_refl _, Nat.le_refl _⟩ d_Fp_twice_20 (fun y20 => ?_)
      refine aw_if_le (tgt := 29) d_Fp_twice_23 rfl (fun q23 => ?_) (fun q23 => ?_)
      · refine aw_iinc (v := (v2_4 + (1 : Int32))) (lo' := [(2, .int (v2_4 + (1 : Int32))), (0, .ref 4), (1, .int v1_4)]) d_Fp_twice_29 2 rfl (by rw [show Int32.ofInt (1) = (1 : Int32) from by decide]) (by decide) rfl ?_
        refine aw_goto (tgt := 4) d_Fp_twice_32 rfl ?_
        refine aw_sub (lo' := [(0, .ref 4), (1, .int v1_4), (2, .int (v2_4 + (1 : Int32)))]) [1, 2, 0] rfl ?_
        exact ih _ _
      · refine aw_iinc (v := (v1_4 + (1 : Int32))) (lo' := [(1, .int (v1_4 + (1 : Int32))), (0, .ref 4), (2, .int v2_4)]) d_Fp_twice_26 1 rfl (by rw [show Int32.ofInt (1) = (1 : Int32) from by decide]) (by decide) rfl ?_
        refine aw_iinc (v := (v2_4 + (1 : Int32))) (lo' := [(2, .int (v2_4 + (1 : Int32))), (1, .int (v1_4 + (1 : Int32))), (0, .ref 4)]) d_Fp_twice_29 2 rfl (by rw [show Int32.ofInt (1) = (1 : Int32) from by decide]) (by decide) rfl ?_
        refine aw_goto (tgt := 4) d_Fp_twice_32 rfl ?_
        refine aw_sub (lo' := [(0, .ref 4), (1, .int (v1_4 + (1 : Int32))), (2, .int (v2_4 + (1 : Int32)))]) [2, 1, 0] rfl ?_
        exact ih _ _
def f_Fp_twice (δ : Dm) : Option Int32 := (lp_Fp_twice_4 (fun v1_4x v2_4x => (some v1_4x)) δ FU (0 : Int32) (0 : Int32))
set_option maxHeartbeats 4000000 in
set_option maxRecDepth 100000 in
theorem m_Fp_twice {δ : Dm} {n : Nat} : ∀ x, f_Fp_twice δ = some x → AMet k_Fp_twice 5 0 0 [.ref 4] δ RT n (Kp δ RT n x) := by
  refine aw_start (lo := [(0, .ref 4)]) mok_Fp_twice rfl (Nat.le_of_ble_eq_true rfl) ?_
  unfold f_Fp_twice
  refine aw_iconst d_Fp_twice_0 ki_0 ?_
  refine aw_istore_n (lo' := [(1, .int (0 : Int32)), (0, .ref 4)]) d_Fp_twice_1 rfl (by decide) rfl ?_
  refine aw_iconst d_Fp_twice_2 ki_0 ?_
  refine aw_istore_n (lo' := [(2, .int (0 : Int32)), (1, .int (0 : Int32)), (0, .ref 4)]) d_Fp_twice_3 rfl (by decide) rfl ?_
  refine aw_sub (lo' := [(0, .ref 4), (1, .int (0 : Int32)), (2, .int (0 : Int32))]) [2, 1, 0] rfl ?_
  refine tl_Fp_twice_4 _ _ (fun v1_4x v2_4x => ?_) FU _ _
  · refine aw_iload_n d_Fp_twice_35 1 rfl ?_
    exact aw_iret rfl rfl ⟨Nat.le_refl _, Nat.le_refl _⟩ d_Fp_twice_36
def lp_Fp_unfairOf_4 (kx4_53 : Int32 → Int32 → Option Int32) (a1 : Int32) (δ : Dm) : Nat → Int32 → Int32 → Option Int32
  | 0, _, _ => none
  | f + 1, v2_4, v3_4 => (if (gI δ 45 1) ≤ v3_4 then (kx4_53 v2_4 v3_4) else ((f_Fp_get 51 v3_4 δ).bind (fun y29 => (if y29 = a1 then ((f_Fp_missing v3_4 δ).bind (fun y38 => (if y38 < 0 then (lp_Fp_unfairOf_4 kx4_53 a1 δ f v2_4 (v3_4 + (1 : Int32))) else (lp_Fp_unfairOf_4 kx4_53 a1 δ f (v2_4 + (1 : Int32)) (v3_4 + (1 : Int32)))))) else (lp_Fp_unfairOf_4 kx4_53 a1 δ f v2_4 (v3_4 + (1 : Int32)))))))
set_option maxHeartbeats 4000000 in
set_option maxRecDepth 100000 in
theorem tl_Fp_unfairOf_4 {n : Nat} (kx4_53 : Int32 → Int32 → Option Int32) (a1 : Int32) (δ : Dm) (hkx4_53 : ∀ v2_4k v3_4k, AWo k_Fp_unfairOf 5 0 0 53 [(0, .ref 4), (1, .int a1), (2, .int v2_4k), (3, .int v3_4k)] [] δ RT n 0 0 (Kp δ RT n) (kx4_53 v2_4k v3_4k)) : ∀ (f : Nat) (v2_4 : Int32) (v3_4 : Int32), AWo k_Fp_unfairOf 5 0 0 4 [(0, .ref 4), (1, .int a1), (2, .int v2_4), (3, .int v3_4)] [] δ RT n 0 0 (Kp δ RT n) (lp_Fp_unfairOf_4 kx4_53 a1 δ f v2_4 v3_4) := by
  intro f
  induction f with
  | zero => intro _ _; exact aw_none
  | succ f ih =>
    intro v2_4 v3_4
    rw [lp_Fp_unfairOf_4]
    refine aw_iload_n d_Fp_unfairOf_4 3 rfl ?_
    refine aw_aload_n d_Fp_unfairOf_5 0 rfl ?_
    refine aw_getR (t := 29) fl_Fp_57 kd_4 rt_4_9 d_Fp_unfairOf_6 ?_
    refine aw_getR (t := 45) fl_Fp_250 kd_29 rt_29_8 d_Fp_unfairOf_9 ?_
    refine aw_getI fl_Fp_283 kd_45 d_Fp_unfairOf_12 ?_
    refine aw_icmp_ge (tgt := 53) d_Fp_unfairOf_15 rfl (fun q15 => ?_) (fun q15 => ?_)
    · refine aw_sub (lo' := [(0, .ref 4), (1, .int a1), (2, .int v2_4), (3, .int v3_4)]) [0, 1, 2, 3] rfl ?_
      exact hkx4_53 _ _
    · refine aw_aload_n d_Fp_unfairOf_18 0 rfl ?_
      refine aw_getR (t := 29) fl_Fp_57 kd_4 rt_4_9 d_Fp_unfairOf_19 ?_
      refine aw_getR (t := 45) fl_Fp_250 kd_29 rt_29_8 d_Fp_unfairOf_22 ?_
      refine aw_getR (t := 51) fl_Fp_392 kd_45 rt_45_7 d_Fp_unfairOf_25 ?_
      refine aw_iload_n d_Fp_unfairOf_28 3 rfl ?_
      refine aw_S_p (As := [.ref 51, .int v3_4]) (m_Fp_get (congrArg Prod.fst kd_51)) cs_Fp_98 rfl rfl (Nat.le_of_ble_eq_true rfl) ⟨Nat.le_of_ble_eq_true rfl, Nat.le_of_ble_eq_true rfl⟩ ⟨Nat.le_refl _, Nat.le_refl _⟩ d_Fp_unfairOf_29 (fun y29 => ?_)
      refine aw_iload_n d_Fp_unfairOf_32 1 rfl ?_
      refine aw_icmp_ne (tgt := 47) d_Fp_unfairOf_33 rfl (fun q33 => ?_) (fun q33 => ?_)
      · refine aw_aload_n d_Fp_unfairOf_36 0 rfl ?_
        refine aw_iload_n d_Fp_unfairOf_37 3 rfl ?_
        refine aw_V_p (As := [.int v3_4]) (m_Fp_missing) cv_Fp_289 kd_4 rfl rfl rfl (Nat.le_of_ble_eq_true rfl) ⟨Nat.le_of_ble_eq_true rfl, Nat.le_of_ble_eq_true rfl⟩ ⟨Nat.le_refl _, Nat.le_refl _⟩ d_Fp_unfairOf_38 (fun y38 => ?_)
        refine aw_if_lt (tgt := 47) d_Fp_unfairOf_41 rfl (fun q41 => ?_) (fun q41 => ?_)
        · refine aw_iinc (v := (v3_4 + (1 : Int32))) (lo' := [(3, .int (v3_4 + (1 : Int32))), (0, .ref 4), (1, .int a1), (2, .int v2_4)]) d_Fp_unfairOf_47 3 rfl (by rw [show Int32.ofInt (1) = (1 : Int32) from by decide]) (by decide) rfl ?_
          refine aw_goto (tgt := 4) d_Fp_unfairOf_50 rfl ?_
          refine aw_sub (lo' := [(0, .ref 4), (1, .int a1), (2, .int v2_4), (3, .int (v3_4 + (1 : Int32)))]) [1, 2, 3, 0] rfl ?_
          exact ih _ _
        · refine aw_iinc (v := (v2_4 + (1 : Int32))) (lo' := [(2, .int (v2_4 + (1 : Int32))), (0, .ref 4), (1, .int a1), (3, .int v3_4)]) d_Fp_unfairOf_44 2 rfl (by rw [show Int32.ofInt (1) = (1 : Int32) from by decide]) (by decide) rfl ?_
          refine aw_iinc (v := (v3_4 + (1 : Int32))) (lo' := [(3, .int (v3_4 + (1 : Int32))), (2, .int (v2_4 + (1 : Int32))), (0, .ref 4), (1, .int a1)]) d_Fp_unfairOf_47 3 rfl (by rw [show Int32.ofInt (1) = (1 : Int32) from by decide]) (by decide) rfl ?_
          refine aw_goto (tgt := 4) d_Fp_unfairOf_50 rfl ?_
          refine aw_sub (lo' := [(0, .ref 4), (1, .int a1), (2, .int (v2_4 + (1 : Int32))), (3, .int (v3_4 + (1 : Int32)))]) [2, 3, 1, 0] rfl ?_
          exact ih _ _
      · refine aw_iinc (v := (v3_4 + (1 : Int32))) (lo' := [(3, .int (v3_4 + (1 : Int32))), (0, .ref 4), (1, .int a1), (2, .int v2_4)]) d_Fp_unfairOf_47 3 rfl (by rw [show Int32.ofInt (1) = (1 : Int32) from by decide]) (by decide) rfl ?_
        refine aw_goto (tgt := 4) d_Fp_unfairOf_50 rfl ?_
        refine aw_sub (lo' := [(0, .ref 4), (1, .int a1), (2, .int v2_4), (3, .int (v3_4 + (1 : Int32)))]) [1, 2, 3, 0] rfl ?_
        exact ih _ _
def f_Fp_unfairOf (a1 : Int32) (δ : Dm) : Option Int32 := (lp_Fp_unfairOf_4 (fun v2_4x v3_4x => (some v2_4x)) a1 δ FU (0 : Int32) (0 : Int32))
set_option maxHeartbeats 4000000 in
set_option maxRecDepth 100000 in
theorem m_Fp_unfairOf {a1 : Int32} {δ : Dm} {n : Nat} : ∀ x, f_Fp_unfairOf a1 δ = some x → AMet k_Fp_unfairOf 5 0 0 [.ref 4, .int a1] δ RT n (Kp δ RT n x) := by
  refine aw_start (lo := [(0, .ref 4), (1, .int a1)]) mok_Fp_unfairOf rfl (Nat.le_of_ble_eq_true rfl) ?_
  unfold f_Fp_unfairOf
  refine aw_iconst d_Fp_unfairOf_0 ki_0 ?_
  refine aw_istore_n (lo' := [(2, .int (0 : Int32)), (0, .ref 4), (1, .int a1)]) d_Fp_unfairOf_1 rfl (by decide) rfl ?_
  refine aw_iconst d_Fp_unfairOf_2 ki_0 ?_
  refine aw_istore_n (lo' := [(3, .int (0 : Int32)), (2, .int (0 : Int32)), (0, .ref 4), (1, .int a1)]) d_Fp_unfairOf_3 rfl (by decide) rfl ?_
  refine aw_sub (lo' := [(0, .ref 4), (1, .int a1), (2, .int (0 : Int32)), (3, .int (0 : Int32))]) [2, 3, 1, 0] rfl ?_
  refine tl_Fp_unfairOf_4 _ _ _ (fun v2_4x v3_4x => ?_) FU _ _
  · refine aw_iload_n d_Fp_unfairOf_53 2 rfl ?_
    exact aw_iret rfl rfl ⟨Nat.le_refl _, Nat.le_refl _⟩ d_Fp_unfairOf_54
def lp_Fp_suspect_29 (kx29_62 : Int32 → Int32 → Int32 → Option Int32) (a1 : Int32) (δ : Dm) : Nat → Int32 → Int32 → Int32 → Option Int32
  | 0, _, _, _ => none
  | f + 1, v2_29, v3_29, v4_29 => (if (32 : Int32) ≤ v4_29 then (kx29_62 v2_29 v3_29 v4_29) else ((f_Fp_unfairOf v4_29 δ).bind (fun y39 => (if y39 ≤ v3_29 then (lp_Fp_suspect_29 kx29_62 a1 δ f v2_29 v3_29 (v4_29 + (1 : Int32))) else (lp_Fp_suspect_29 kx29_62 a1 δ f v4_29 y39 (v4_29 + (1 : Int32)))))))
set_option maxHeartbeats 4000000 in
set_option maxRecDepth 100000 in
theorem tl_Fp_suspect_29 {n : Nat} (kx29_62 : Int32 → Int32 → Int32 → Option Int32) (a1 : Int32) (δ : Dm) (hkx29_62 : ∀ v2_29k v3_29k v4_29k, AWo k_Fp_suspect 6 0 0 62 [(0, .ref 4), (1, .int a1), (2, .int v2_29k), (3, .int v3_29k), (4, .int v4_29k)] [] δ RT n 0 0 (Kp δ RT n) (kx29_62 v2_29k v3_29k v4_29k)) : ∀ (f : Nat) (v2_29 : Int32) (v3_29 : Int32) (v4_29 : Int32), AWo k_Fp_suspect 6 0 0 29 [(0, .ref 4), (1, .int a1), (2, .int v2_29), (3, .int v3_29), (4, .int v4_29)] [] δ RT n 0 0 (Kp δ RT n) (lp_Fp_suspect_29 kx29_62 a1 δ f v2_29 v3_29 v4_29) := by
  intro f
  induction f with
  | zero => intro _ _ _; exact aw_none
  | succ f ih =>
    intro v2_29 v3_29 v4_29
    rw [lp_Fp_suspect_29]
    refine aw_iload d_Fp_suspect_29 4 rfl ?_
    refine aw_bipush d_Fp_suspect_31 kb_32 ?_
    refine aw_icmp_ge (tgt := 62) d_Fp_suspect_33 rfl (fun q33 => ?_) (fun q33 => ?_)
    · refine aw_sub (lo' := [(0, .ref 4), (1, .int a1), (2, .int v2_29), (3, .int v3_29), (4, .int v4_29)]) [0, 1, 2, 3, 4] rfl ?_
      exact hkx29_62 _ _ _
    · refine aw_aload_n d_Fp_suspect_36 0 rfl ?_
      refine aw_iload d_Fp_suspect_37 4 rfl ?_
      refine aw_V_p (As := [.int v4_29]) (m_Fp_unfairOf) cv_Fp_300 kd_4 rfl rfl rfl (Nat.le_of_ble_eq_true rfl) ⟨Nat.le_of_ble_eq_true rfl, Nat.le_of_ble_eq_true rfl⟩ ⟨Nat.le_refl _, Nat.le_refl _⟩ d_Fp_suspect_39 (fun y39 => ?_)
      refine aw_istore (lo' := [(5, .int y39), (0, .ref 4), (1, .int a1), (2, .int v2_29), (3, .int v3_29), (4, .int v4_29)]) d_Fp_suspect_42 (by decide) rfl ?_
      refine aw_iload d_Fp_suspect_44 0 rfl ?_
      refine aw_iload_n d_Fp_suspect_46 4 rfl ?_
      refine aw_icmp_le (tgt := 56) d_Fp_suspect_47 rfl (fun q47 => ?_) (fun q47 => ?_)
      · refine aw_iinc (v := (v4_29 + (1 : Int32))) (lo' := [(4, .int (v4_29 + (1 : Int32))), (5, .int y39), (0, .ref 4), (1, .int a1), (2, .int v2_29), (3, .int v3_29)]) d_Fp_suspect_56 5 rfl (by rw [show Int32.ofInt (1) = (1 : Int32) from by decide]) (by decide) rfl ?_
        refine aw_goto (tgt := 29) d_Fp_suspect_59 rfl ?_
        refine aw_sub (lo' := [(0, .ref 4), (1, .int a1), (2, .int v2_29), (3, .int v3_29), (4, .int (v4_29 + (1 : Int32)))]) [2, 3, 4, 5, 0] rfl ?_
        exact ih _ _ _
      · refine aw_iload d_Fp_suspect_50 0 rfl ?_
        refine aw_istore_n (lo' := [(3, .int y39), (5, .int y39), (0, .ref 4), (1, .int a1), (2, .int v2_29), (4, .int v4_29)]) d_Fp_suspect_52 rfl (by decide) rfl ?_
        refine aw_iload d_Fp_suspect_53 5 rfl ?_
        refine aw_istore_n (lo' := [(2, .int v4_29), (3, .int y39), (5, .int y39), (0, .ref 4), (1, .int a1), (4, .int v4_29)]) d_Fp_suspect_55 rfl (by decide) rfl ?_
        refine aw_iinc (v := (v4_29 + (1 : Int32))) (lo' := [(4, .int (v4_29 + (1 : Int32))), (2, .int v4_29), (3, .int y39), (5, .int y39), (0, .ref 4), (1, .int a1)]) d_Fp_suspect_56 5 rfl (by rw [show Int32.ofInt (1) = (1 : Int32) from by decide]) (by decide) rfl ?_
        refine aw_goto (tgt := 29) d_Fp_suspect_59 rfl ?_
        refine aw_sub (lo' := [(0, .ref 4), (1, .int a1), (2, .int v4_29), (3, .int y39), (4, .int (v4_29 + (1 : Int32)))]) [4, 5, 1, 2, 0] rfl ?_
        exact ih _ _ _
def f_Fp_suspect (a1 : Int32) (δ : Dm) : Option Int32 := ((f_Fp_within a1 (0 : Int32) (2 : Int32) δ).bind (fun y3 => (if y3 = 0 then (some (-1 : Int32)) else (if a1 = (2 : Int32) then ((f_Fp_twice δ).bind (fun y17 => (some y17))) else (lp_Fp_suspect_29 (fun v2_29x v3_29x v4_29x => (if a1 = 0 then (some v2_29x) else (some v3_29x))) a1 δ FU (-2 : Int32) (0 : Int32) (0 : Int32))))))
set_option maxHeartbeats 4000000 in
set_option maxRecDepth 100000 in
theorem m_Fp_suspect {a1 : Int32} {δ : Dm} {n : Nat} : ∀ x, f_Fp_suspect a1 δ = some x → AMet k_Fp_suspect 6 0 0 [.ref 4, .int a1] δ RT n (Kp δ RT n x) := by
  refine aw_start (lo := [(0, .ref 4), (1, .int a1)]) mok_Fp_suspect rfl (Nat.le_of_ble_eq_true rfl) ?_
  unfold f_Fp_suspect
  refine aw_iload_n d_Fp_suspect_0 1 rfl ?_
  refine aw_iconst d_Fp_suspect_1 ki_0 ?_
  refine aw_iconst d_Fp_suspect_2 ki_2 ?_
  refine aw_S_p (As := [.int a1, .int (0 : Int32), .int (2 : Int32)]) (m_Fp_within) cs_Fp_70 rfl rfl (Nat.le_of_ble_eq_true rfl) ⟨Nat.le_of_ble_eq_true rfl, Nat.le_of_ble_eq_true rfl⟩ ⟨Nat.le_refl _, Nat.le_refl _⟩ d_Fp_suspect_3 (fun y3 => ?_)
  refine aw_if_ne (tgt := 11) d_Fp_suspect_6 rfl (fun q6 => ?_) (fun q6 => ?_)
  · refine aw_iconst d_Fp_suspect_9 ki_m1 ?_
    exact aw_iret rfl rfl ⟨Nat.le_refl _, Nat.le_refl _⟩ d_Fp_suspect_10
  · refine aw_iload_n d_Fp_suspect_11 1 rfl ?_
    refine aw_iconst d_Fp_suspect_12 ki_2 ?_
    refine aw_icmp_ne (tgt := 21) d_Fp_suspect_13 rfl (fun q13 => ?_) (fun q13 => ?_)
    · refine aw_aload_n d_Fp_suspect_16 0 rfl ?_
      refine aw_V_p (As := []) (m_Fp_twice) cv_Fp_296 kd_4 rfl rfl rfl (Nat.le_of_ble_eq_true rfl) ⟨Nat.le_of_ble_eq_true rfl, Nat.le_of_ble_eq_true rfl⟩ ⟨Nat.le_refl _, Nat.le_refl _⟩ d_Fp_suspect_17 (fun y17 => ?_)
      exact aw_iret rfl rfl ⟨Nat.le_refl _, Nat.le_refl _⟩ d_Fp_suspect_20
    · refine aw_bipush d_Fp_suspect_21 kb_m2 ?_
      refine aw_istore_n (lo' := [(2, .int (-2 : Int32)), (0, .ref 4), (1, .int a1)]) d_Fp_suspect_23 rfl (by decide) rfl ?_
      refine aw_iconst d_Fp_suspect_24 ki_0 ?_
      refine aw_istore_n (lo' := [(3, .int (0 : Int32)), (2, .int (-2 : Int32)), (0, .ref 4), (1, .int a1)]) d_Fp_suspect_25 rfl (by decide) rfl ?_
      refine aw_iconst d_Fp_suspect_26 ki_0 ?_
      refine aw_istore (lo' := [(4, .int (0 : Int32)), (3, .int (0 : Int32)), (2, .int (-2 : Int32)), (0, .ref 4), (1, .int a1)]) d_Fp_suspect_27 (by decide) rfl ?_
      refine aw_sub (lo' := [(0, .ref 4), (1, .int a1), (2, .int (-2 : Int32)), (3, .int (0 : Int32)), (4, .int (0 : Int32))]) [3, 4, 2, 1, 0] rfl ?_
      refine tl_Fp_suspect_29 _ _ _ (fun v2_29x v3_29x v4_29x => ?_) FU _ _ _
      · refine aw_iload_n d_Fp_suspect_62 1 rfl ?_
        refine aw_if_ne (tgt := 70) d_Fp_suspect_63 rfl (fun q63 => ?_) (fun q63 => ?_)
        · refine aw_iload_n d_Fp_suspect_66 2 rfl ?_
          refine aw_goto (tgt := 71) d_Fp_suspect_67 rfl ?_
          exact aw_iret rfl rfl ⟨Nat.le_refl _, Nat.le_refl _⟩ d_Fp_suspect_71
        · refine aw_iload_n d_Fp_suspect_70 3 rfl ?_
          exact aw_iret rfl rfl ⟨Nat.le_refl _, Nat.le_refl _⟩ d_Fp_suspect_71
def f_Fp_isRefused (a1 : Nat) (a2 : Int32) (δ : Dm) : Option (Int32 × Dm) := ((f_Fp_get 35 a2 δ).bind (fun y17 => ((f_To_boothAt y17 δ).bind (fun o20 => ocs o20 (some ((0 : Int32), δ)) (fun t20 => if isB t20 = true then ((f_Fp_get 37 a2 δ).bind (fun y35 => (if y35 = 0 then ((f_Fp_get 36 a2 δ).bind (fun y58 => ((f_Fa_open t20 y58 δ).bind (fun y61 => ((f_Fp_get 38 a2 y61).bind (fun y73 => ((f_Fp_get 39 a2 y61).bind (fun y81 => ((f_Fa_pose y73 y81 y61).bind (fun y84 => ((f_La_holds a1 (14 : Int32) y84).bind (fun y94 => bnd y94.1 (fun v94 => bnd y94.2 (fun δ_94 => (if v94 = 0 ∨ v94 = 1 then (some (v94, δ_94)) else none))))))))))))))) else (some ((0 : Int32), δ))))) else none)))))
set_option maxHeartbeats 4000000 in
set_option maxRecDepth 100000 in
theorem m_Fp_isRefused {a1 : Nat} {a2 : Int32} {δ : Dm} {n : Nat} (ha1 : isL a1 = true) : ∀ x, f_Fp_isRefused a1 a2 δ = some x → AMet k_Fp_isRefused 4 0 0 [.ref 4, .ref a1, .int a2] δ RT n (Km RT n x) := by
  refine aw_start (lo := [(0, .ref 4), (1, .ref a1), (2, .int a2)]) mok_Fp_isRefused rfl (Nat.le_of_ble_eq_true rfl) ?_
  unfold f_Fp_isRefused
  refine aw_aload_n d_Fp_isRefused_0 0 rfl ?_
  refine aw_getR (t := 29) fl_Fp_57 kd_4 rt_4_9 d_Fp_isRefused_1 ?_
  refine aw_getR (t := 34) fl_Fp_148 kd_29 rt_29_7 d_Fp_isRefused_4 ?_
  refine aw_astore_n (lo' := [(3, .ref 34), (0, .ref 4), (1, .ref a1), (2, .int a2)]) d_Fp_isRefused_7 rfl (by decide) rfl ?_
  refine aw_aload_n d_Fp_isRefused_8 1 rfl ?_
  refine aw_getR (t := 29) fl_Fp_57 kd_4 rt_4_9 d_Fp_isRefused_9 ?_
  refine aw_aload_n d_Fp_isRefused_12 0 rfl ?_
  refine aw_getR (t := 35) fl_Fp_307 kd_34 rt_34_3 d_Fp_isRefused_13 ?_
  refine aw_iload_n d_Fp_isRefused_16 3 rfl ?_
  refine aw_S_p (As := [.ref 35, .int a2]) (m_Fp_get (congrArg Prod.fst kd_35)) cs_Fp_98 rfl rfl (Nat.le_of_ble_eq_true rfl) ⟨Nat.le_of_ble_eq_true rfl, Nat.le_of_ble_eq_true rfl⟩ ⟨Nat.le_refl _, Nat.le_refl _⟩ d_Fp_isRefused_17 (fun y17 => ?_)
  refine aw_V_r (As := [.int y17]) (m_To_boothAt) cv_Fp_139 kd_29 rfl rfl rfl (Nat.le_of_ble_eq_true rfl) ⟨Nat.le_of_ble_eq_true rfl, Nat.le_of_ble_eq_true rfl⟩ ⟨Nat.le_refl _, Nat.le_refl _⟩ d_Fp_isRefused_20 ?_ (fun t20 => ?_)
  · refine aw_astoreN (lo' := [(4, .null), (3, .ref 34), (0, .ref 4), (1, .ref a1), (2, .int a2)]) d_Fp_isRefused_23 (by decide) rfl ?_
    refine aw_aloadN d_Fp_isRefused_25 0 rfl ?_
    refine aw_ifnullN (tgt := 41) d_Fp_isRefused_27 rfl ?_
    refine aw_iconst d_Fp_isRefused_41 ki_0 ?_
    exact aw_zret rfl rfl rfl ⟨Nat.le_refl _, Nat.le_refl _⟩ d_Fp_isRefused_42
  · refine aw_grd (fun ht20 => ?_)
    refine aw_astore (lo' := [(4, .ref t20), (3, .ref 34), (0, .ref 4), (1, .ref a1), (2, .int a2)]) d_Fp_isRefused_23 (by decide) rfl ?_
    refine aw_aload d_Fp_isRefused_25 0 rfl ?_
    refine aw_ifnull d_Fp_isRefused_27 ?_
    refine aw_aload_n d_Fp_isRefused_30 1 rfl ?_
    refine aw_getR (t := 37) fl_Fp_228 kd_34 rt_34_5 d_Fp_isRefused_31 ?_
    refine aw_iload_n d_Fp_isRefused_34 4 rfl ?_
    refine aw_S_p (As := [.ref 37, .int a2]) (m_Fp_get (congrArg Prod.fst kd_37)) cs_Fp_98 rfl rfl (Nat.le_of_ble_eq_true rfl) ⟨Nat.le_of_ble_eq_true rfl, Nat.le_of_ble_eq_true rfl⟩ ⟨Nat.le_refl _, Nat.le_refl _⟩ d_Fp_isRefused_35 (fun y35 => ?_)
    refine aw_if_eq (tgt := 43) d_Fp_isRefused_38 rfl (fun q38 => ?_) (fun q38 => ?_)
    · refine aw_aload_n d_Fp_isRefused_43 2 rfl ?_
      refine aw_getR (t := 19) fl_Fp_29 kd_4 rt_4_5 d_Fp_isRefused_44 ?_
      refine aw_aload_n d_Fp_isRefused_47 2 rfl ?_
      refine aw_getR (t := 29) fl_Fp_57 kd_4 rt_4_9 d_Fp_isRefused_48 ?_
      refine aw_aload d_Fp_isRefused_51 0 rfl ?_
      refine aw_aload_n d_Fp_isRefused_53 1 rfl ?_
      refine aw_getR (t := 36) fl_Fp_395 kd_34 rt_34_4 d_Fp_isRefused_54 ?_
      refine aw_iload_n d_Fp_isRefused_57 4 rfl ?_
      refine aw_S_p (As := [.ref 36, .int a2]) (m_Fp_get (congrArg Prod.fst kd_36)) cs_Fp_98 rfl rfl (Nat.le_of_ble_eq_true rfl) ⟨Nat.le_of_ble_eq_true rfl, Nat.le_of_ble_eq_true rfl⟩ ⟨Nat.le_refl _, Nat.le_refl _⟩ d_Fp_isRefused_58 (fun y58 => ?_)
      refine aw_V_v (As := [.ref 29, .ref t20, .int y58]) (m_Fa_open ht20) cv_Fp_160 kd_19 rfl rfl rfl (Nat.le_of_ble_eq_true rfl) ⟨Nat.le_of_ble_eq_true rfl, Nat.le_of_ble_eq_true rfl⟩ ⟨Nat.le_refl _, Nat.le_refl _⟩ d_Fp_isRefused_61 (fun y61 => ?_)
      refine aw_aload_n d_Fp_isRefused_64 2 rfl ?_
      refine aw_getR (t := 19) fl_Fp_29 kd_4 rt_4_5 d_Fp_isRefused_65 ?_
      refine aw_aload_n d_Fp_isRefused_68 1 rfl ?_
      refine aw_getR (t := 38) fl_Fp_398 kd_34 rt_34_6 d_Fp_isRefused_69 ?_
      refine aw_iload_n d_Fp_isRefused_72 4 rfl ?_
      refine aw_S_p (As := [.ref 38, .int a2]) (m_Fp_get (congrArg Prod.fst kd_38)) cs_Fp_98 rfl rfl (Nat.le_of_ble_eq_true rfl) ⟨Nat.le_of_ble_eq_true rfl, Nat.le_of_ble_eq_true rfl⟩ ⟨Nat.le_refl _, Nat.le_refl _⟩ d_Fp_isRefused_73 (fun y73 => ?_)
      refine aw_aload_n d_Fp_isRefused_76 1 rfl ?_
      refine aw_getR (t := 39) fl_Fp_401 kd_34 rt_34_7 d_Fp_isRefused_77 ?_
      refine aw_iload_n d_Fp_isRefused_80 4 rfl ?_
      refine aw_S_p (As := [.ref 39, .int a2]) (m_Fp_get (congrArg Prod.fst kd_39)) cs_Fp_98 rfl rfl (Nat.le_of_ble_eq_true rfl) ⟨Nat.le_of_ble_eq_true rfl, Nat.le_of_ble_eq_true rfl⟩ ⟨Nat.le_refl _, Nat.le_refl _⟩ d_Fp_isRefused_81 (fun y81 => ?_)
      refine aw_V_v (As := [.int y73, .int y81]) (m_Fa_pose) cv_Fp_164 kd_19 rfl rfl rfl (Nat.le_of_ble_eq_true rfl) ⟨Nat.le_of_ble_eq_true rfl, Nat.le_of_ble_eq_true rfl⟩ ⟨Nat.le_refl _, Nat.le_refl _⟩ d_Fp_isRefused_84 (fun y84 => ?_)
      refine aw_aload_n d_Fp_isRefused_87 3 rfl ?_
      refine aw_bipush d_Fp_isRefused_88 kb_14 ?_
      refine aw_aload_n d_Fp_isRefused_90 2 rfl ?_
      refine aw_getR (t := 19) fl_Fp_29 kd_4 rt_4_5 d_Fp_isRefused_91 ?_
      refine aw_V_m (As := [.int (14 : Int32), .ref 19]) (m_La_holds ha1) cv_Fp_388 (fx_isLK ha1 0 (by decide)) rfl rfl rfl (Nat.le_of_ble_eq_true rfl) ⟨Nat.le_of_ble_eq_true rfl, Nat.le_of_ble_eq_true rfl⟩ ⟨Nat.le_refl _, Nat.le_refl _⟩ d_Fp_isRefused_94 (fun y94 => ?_)
      refine aw_bI (fun v94 => ?_)
      refine aw_bD (fun δ_94 => ?_)
      exact aw_zr2 rfl rfl ⟨Nat.le_refl _, Nat.le_refl _⟩ d_Fp_isRefused_97
    · refine aw_iconst d_Fp_isRefused_41 ki_0 ?_
      exact aw_zret rfl rfl rfl ⟨Nat.le_refl _, Nat.le_refl _⟩ d_Fp_isRefused_42
def lp_Fp_refused_29 (kx29_79 : Int32 → Int32 → Dm → Option (Int32 × Dm)) (a1 : Int32) (a2 : Int32) (t2 : Nat) : Nat → Int32 → Int32 → Dm → Option (Int32 × Dm)
  | 0, _, _, _ => none
  | f + 1, v4_29, v5_29, δ29 => (if (gI δ29 34 0) ≤ v5_29 then (kx29_79 v4_29 v5_29 δ29) else ((f_Di_isOf v5_29 a2 δ29).bind (fun y54 => (if y54 = 0 then (lp_Fp_refused_29 kx29_79 a1 a2 t2 f v4_29 (v5_29 + (1 : Int32)) δ29) else ((f_Fp_isRefused t2 v5_29 δ29).bind (fun y64 => bnd y64.1 (fun v64 => bnd y64.2 (fun δ_64 => (if v64 = 0 then (lp_Fp_refused_29 kx29_79 a1 a2 t2 f v4_29 (v5_29 + (1 : Int32)) δ_64) else (lp_Fp_refused_29 kx29_79 a1 a2 t2 f (v4_29 + (1 : Int32)) (v5_29 + (1 : Int32)) δ_64))))))))))
set_option maxHeartbeats 4000000 in
set_option maxRecDepth 100000 in
theorem tl_Fp_refused_29 {n : Nat} (kx29_79 : Int32 → Int32 → Dm → Option (Int32 × Dm)) (a1 : Int32) (a2 : Int32) (t2 : Nat) (ht2 : isL t2 = true) (hkx29_79 : ∀ v4_29k v5_29k δ29k, AWo k_Fp_refused 5 0 0 79 [(0, .ref 4), (1, .int a1), (2, .int a2), (3, .ref t2), (4, .int v4_29k), (5, .int v5_29k)] [] δ29k RT n 0 0 (Km RT n) (kx29_79 v4_29k v5_29k δ29k)) : ∀ (f : Nat) (v4_29 : Int32) (v5_29 : Int32) (δ29 : Dm), AWo k_Fp_refused 5 0 0 29 [(0, .ref 4), (1, .int a1), (2, .int a2), (3, .ref t2), (4, .int v4_29), (5, .int v5_29)] [] δ29 RT n 0 0 (Km RT n) (lp_Fp_refused_29 kx29_79 a1 a2 t2 f v4_29 v5_29 δ29) := by
  intro f
  induction f with
  | zero => intro _ _ _; exact aw_none
  | succ f ih =>
    intro v4_29 v5_29 δ29
    rw [lp_Fp_refused_29]
    refine aw_iload d_Fp_refused_29 5 rfl ?_
    refine aw_aload_n d_Fp_refused_31 0 rfl ?_
    refine aw_getR (t := 29) fl_Fp_57 kd_4 rt_4_9 d_Fp_refused_32 ?_
    refine aw_getR (t := 34) fl_Fp_148 kd_29 rt_29_7 d_Fp_refused_35 ?_
    refine aw_getI fl_Fp_152 kd_34 d_Fp_refused_38 ?_
    refine aw_icmp_ge (tgt := 79) d_Fp_refused_41 rfl (fun q41 => ?_) (fun q41 => ?_)
    · refine aw_sub (lo' := [(0, .ref 4), (1, .int a1), (2, .int a2), (3, .ref t2), (4, .int v4_29), (5, .int v5_29)]) [0, 1, 2, 3, 4, 5] rfl ?_
      exact hkx29_79 _ _ _
    · refine aw_aload_n d_Fp_refused_44 0 rfl ?_
      refine aw_getR (t := 29) fl_Fp_57 kd_4 rt_4_9 d_Fp_refused_45 ?_
      refine aw_getR (t := 34) fl_Fp_148 kd_29 rt_29_7 d_Fp_refused_48 ?_
      refine aw_iload d_Fp_refused_51 5 rfl ?_
      refine aw_iload_n d_Fp_refused_53 2 rfl ?_
      refine aw_V_p (As := [.int v5_29, .int a2]) (m_Di_isOf) cv_Fp_224 kd_34 rfl rfl rfl (Nat.le_of_ble_eq_true rfl) ⟨Nat.le_of_ble_eq_true rfl, Nat.le_of_ble_eq_true rfl⟩ ⟨Nat.le_refl _, Nat.le_refl _⟩ d_Fp_refused_54 (fun y54 => ?_)
      refine aw_if_eq (tgt := 73) d_Fp_refused_57 rfl (fun q57 => ?_) (fun q57 => ?_)
      · refine aw_iinc (v := (v5_29 + (1 : Int32))) (lo' := [(5, .int (v5_29 + (1 : Int32))), (0, .ref 4), (1, .int a1), (2, .int a2), (3, .ref t2), (4, .int v4_29)]) d_Fp_refused_73 5 rfl (by rw [show Int32.ofInt (1) = (1 : Int32) from by decide]) (by decide) rfl ?_
        refine aw_goto (tgt := 29) d_Fp_refused_76 rfl ?_
        refine aw_sub (lo' := [(0, .ref 4), (1, .int a1), (2, .int a2), (3, .ref t2), (4, .int v4_29), (5, .int (v5_29 + (1 : Int32)))]) [1, 2, 3, 4, 5, 0] rfl ?_
        exact ih _ _ _
      · refine aw_aload_n d_Fp_refused_60 0 rfl ?_
        refine aw_aload_n d_Fp_refused_61 3 rfl ?_
        refine aw_iload d_Fp_refused_62 5 rfl ?_
        refine aw_V_m (As := [.ref t2, .int v5_29]) (m_Fp_isRefused ht2) cv_Fp_303 kd_4 rfl rfl rfl (Nat.le_of_ble_eq_true rfl) ⟨Nat.le_of_ble_eq_true rfl, Nat.le_of_ble_eq_true rfl⟩ ⟨Nat.le_refl _, Nat.le_refl _⟩ d_Fp_refused_64 (fun y64 => ?_)
        refine aw_bI (fun v64 => ?_)
        refine aw_bD (fun δ_64 => ?_)
        refine aw_if_eq (tgt := 73) d_Fp_refused_67 rfl (fun q67 => ?_) (fun q67 => ?_)
        · refine aw_iinc (v := (v5_29 + (1 : Int32))) (lo' := [(5, .int (v5_29 + (1 : Int32))), (0, .ref 4), (1, .int a1), (2, .int a2), (3, .ref t2), (4, .int v4_29)]) d_Fp_refused_73 5 rfl (by rw [show Int32.ofInt (1) = (1 : Int32) from by decide]) (by decide) rfl ?_
          refine aw_goto (tgt := 29) d_Fp_refused_76 rfl ?_
          refine aw_sub (lo' := [(0, .ref 4), (1, .int a1), (2, .int a2), (3, .ref t2), (4, .int v4_29), (5, .int (v5_29 + (1 : Int32)))]) [1, 2, 3, 4, 5, 0] rfl ?_
          exact ih _ _ _
        · refine aw_iinc (v := (v4_29 + (1 : Int32))) (lo' := [(4, .int (v4_29 + (1 : Int32))), (0, .ref 4), (1, .int a1), (2, .int a2), (3, .ref t2), (5, .int v5_29)]) d_Fp_refused_70 4 rfl (by rw [show Int32.ofInt (1) = (1 : Int32) from by decide]) (by decide) rfl ?_
          refine aw_iinc (v := (v5_29 + (1 : Int32))) (lo' := [(5, .int (v5_29 + (1 : Int32))), (4, .int (v4_29 + (1 : Int32))), (0, .ref 4), (1, .int a1), (2, .int a2), (3, .ref t2)]) d_Fp_refused_73 5 rfl (by rw [show Int32.ofInt (1) = (1 : Int32) from by decide]) (by decide) rfl ?_
          refine aw_goto (tgt := 29) d_Fp_refused_76 rfl ?_
          refine aw_sub (lo' := [(0, .ref 4), (1, .int a1), (2, .int a2), (3, .ref t2), (4, .int (v4_29 + (1 : Int32))), (5, .int (v5_29 + (1 : Int32)))]) [2, 3, 4, 5, 1, 0] rfl ?_
          exact ih _ _ _
def f_Fp_refused (a1 : Int32) (a2 : Int32) (δ : Dm) : Option (Int32 × Dm) := ((f_Fp_lawAt a1 δ).bind (fun o2 => ocs o2 (some ((-1 : Int32), δ)) (fun t2 => if isL t2 = true then ((f_To_isBoothOrAll a2 δ).bind (fun y15 => (if y15 = 0 then (some ((-1 : Int32), δ)) else (lp_Fp_refused_29 (fun v4_29x v5_29x δ29x => (some (v4_29x, δ29x))) a1 a2 t2 FU (0 : Int32) (0 : Int32) δ)))) else none)))
set_option maxHeartbeats 4000000 in
set_option maxRecDepth 100000 in
theorem m_Fp_refused {a1 : Int32} {a2 : Int32} {δ : Dm} {n : Nat} : ∀ x, f_Fp_refused a1 a2 δ = some x → AMet k_Fp_refused 5 0 0 [.ref 4, .int a1, .int a2] δ RT n (Km RT n x) := by
  refine aw_start (lo := [(0, .ref 4), (1, .int a1), (2, .int a2)]) mok_Fp_refused rfl (Nat.le_of_ble_eq_true rfl) ?_
  unfold f_Fp_refused
  refine aw_aload_n d_Fp_refused_0 0 rfl ?_
  refine aw_iload_n d_Fp_refused_1 1 rfl ?_
  refine aw_V_r (As := [.int a1]) (m_Fp_lawAt) cv_Fp_126 kd_4 rfl rfl rfl (Nat.le_of_ble_eq_true rfl) ⟨Nat.le_of_ble_eq_true rfl, Nat.le_of_ble_eq_true rfl⟩ ⟨Nat.le_refl _, Nat.le_refl _⟩ d_Fp_refused_2 ?_ (fun t2 => ?_)
  · refine aw_astoreN_n (lo' := [(3, .null), (0, .ref 4), (1, .int a1), (2, .int a2)]) d_Fp_refused_5 rfl (by decide) rfl ?_
    refine aw_aloadN_n d_Fp_refused_6 0 rfl ?_
    refine aw_ifnullN (tgt := 21) d_Fp_refused_7 rfl ?_
    refine aw_iconst d_Fp_refused_21 ki_m1 ?_
    exact aw_iret rfl rfl ⟨Nat.le_refl _, Nat.le_refl _⟩ d_Fp_refused_22
  · refine aw_grd (fun ht2 => ?_)
    refine aw_astore_n (lo' := [(3, .ref t2), (0, .ref 4), (1, .int a1), (2, .int a2)]) d_Fp_refused_5 rfl (by decide) rfl ?_
    refine aw_aload_n d_Fp_refused_6 0 rfl ?_
    refine aw_ifnull d_Fp_refused_7 ?_
    refine aw_aload_n d_Fp_refused_10 1 rfl ?_
    refine aw_getR (t := 29) fl_Fp_57 kd_4 rt_4_9 d_Fp_refused_11 ?_
    refine aw_iload_n d_Fp_refused_14 3 rfl ?_
    refine aw_V_p (As := [.int a2]) (m_To_isBoothOrAll) cv_Fp_218 kd_29 rfl rfl rfl (Nat.le_of_ble_eq_true rfl) ⟨Nat.le_of_ble_eq_true rfl, Nat.le_of_ble_eq_true rfl⟩ ⟨Nat.le_refl _, Nat.le_refl _⟩ d_Fp_refused_15 (fun y15 => ?_)
    refine aw_if_ne (tgt := 23) d_Fp_refused_18 rfl (fun q18 => ?_) (fun q18 => ?_)
    · refine aw_iconst d_Fp_refused_21 ki_m1 ?_
      exact aw_iret rfl rfl ⟨Nat.le_refl _, Nat.le_refl _⟩ d_Fp_refused_22
    · refine aw_iconst d_Fp_refused_23 ki_0 ?_
      refine aw_istore (lo' := [(4, .int (0 : Int32)), (3, .ref t2), (0, .ref 4), (1, .int a1), (2, .int a2)]) d_Fp_refused_24 (by decide) rfl ?_
      refine aw_iconst d_Fp_refused_26 ki_0 ?_
      refine aw_istore (lo' := [(5, .int (0 : Int32)), (4, .int (0 : Int32)), (3, .ref t2), (0, .ref 4), (1, .int a1), (2, .int a2)]) d_Fp_refused_27 (by decide) rfl ?_
      refine aw_sub (lo' := [(0, .ref 4), (1, .int a1), (2, .int a2), (3, .ref t2), (4, .int (0 : Int32)), (5, .int (0 : Int32))]) [3, 4, 5, 2, 1, 0] rfl ?_
      refine tl_Fp_refused_29 _ _ _ _ ht2 (fun v4_29x v5_29x δ29x => ?_) FU _ _ _
      · refine aw_iload d_Fp_refused_79 4 rfl ?_
        exact aw_iret rfl rfl ⟨Nat.le_refl _, Nat.le_refl _⟩ d_Fp_refused_81
def jp_Fp_newer_100 (kr32 : Int32 → Int32 → Dm → Option (Int32 × Dm)) (kx32_134 : Int32 → Int32 → Dm → Option (Int32 × Dm)) (a1 : Int32) (a2 : Int32) (t2 : Nat) (t8_1 : Nat) (v5_32 : Int32) (v6_32 : Int32) (t66 : Nat) (δ_85 : Dm) (s0_100 : Int32) : Option (Int32 × Dm) := (bnd (v5_32 + s0_100) (fun v101 => ((f_Fp_isRefused t8_1 v6_32 δ_85).bind (fun y110 => bnd y110.1 (fun v110 => bnd y110.2 (fun δ_110 => (if v110 = 0 then (bnd (v101 - (0 : Int32)) (fun v126 => (kr32 v126 (v6_32 + (1 : Int32)) δ_110))) else (bnd (v101 - (gI δ_110 t66 1)) (fun v126_1 => (kr32 v126_1 (v6_32 + (1 : Int32)) δ_110))))))))))
set_option maxHeartbeats 4000000 in
set_option maxRecDepth 100000 in
theorem tj_Fp_newer_100 {n : Nat} (kr32 : Int32 → Int32 → Dm → Option (Int32 × Dm)) (kx32_134 : Int32 → Int32 → Dm → Option (Int32 × Dm)) (a1 : Int32) (a2 : Int32) (t2 : Nat) (t8_1 : Nat) (v5_32 : Int32) (v6_32 : Int32) (t66 : Nat) (δ_85 : Dm) (s0_100 : Int32) (ht2 : isL t2 = true) (ht8_1 : isL t8_1 = true) (ht66 : isB t66 = true) (hkr32 : ∀ v5_32k v6_32k δ32k, AWo k_Fp_newer 5 0 0 32 [(0, .ref 4), (1, .int a1), (2, .int a2), (3, .ref t2), (4, .ref t8_1), (5, .int v5_32k), (6, .int v6_32k)] [] δ32k RT n 0 0 (Km RT n) (kr32 v5_32k v6_32k δ32k)) (hkx32_134 : ∀ v5_32k v6_32k δ32k, AWo k_Fp_newer 5 0 0 134 [(0, .ref 4), (1, .int a1), (2, .int a2), (3, .ref t2), (4, .ref t8_1), (5, .int v5_32k), (6, .int v6_32k)] [] δ32k RT n 0 0 (Km RT n) (kx32_134 v5_32k v6_32k δ32k)) : AWo k_Fp_newer 5 0 0 100 [(0, .ref 4), (1, .int a1), (2, .int a2), (3, .ref t2), (4, .ref t8_1), (5, .int v5_32), (6, .int v6_32), (7, .ref t66)] [.int s0_100, .int v5_32] δ_85 RT n 0 0 (Km RT n) (jp_Fp_newer_100 kr32 kx32_134 a1 a2 t2 t8_1 v5_32 v6_32 t66 δ_85 s0_100) := by
  unfold jp_Fp_newer_100
  refine aw_iadd d_Fp_newer_100 ?_
  refine aw_bI (fun v101 => ?_)
  refine aw_istore (lo' := [(5, .int v101), (0, .ref 4), (1, .int a1), (2, .int a2), (3, .ref t2), (4, .ref t8_1), (6, .int v6_32), (7, .ref t66)]) d_Fp_newer_101 (by decide) rfl ?_
  refine aw_iload d_Fp_newer_103 0 rfl ?_
  refine aw_aload_n d_Fp_newer_105 1 rfl ?_
  refine aw_aload d_Fp_newer_106 5 rfl ?_
  refine aw_iload d_Fp_newer_108 6 rfl ?_
  refine aw_V_m (As := [.ref t8_1, .int v6_32]) (m_Fp_isRefused ht8_1) cv_Fp_303 kd_4 rfl rfl rfl (Nat.le_of_ble_eq_true rfl) ⟨Nat.le_of_ble_eq_true rfl, Nat.le_of_ble_eq_true rfl⟩ ⟨Nat.le_refl _, Nat.le_refl _⟩ d_Fp_newer_110 (fun y110 => ?_)
  refine aw_bI (fun v110 => ?_)
  refine aw_bD (fun δ_110 => ?_)
  refine aw_if_eq (tgt := 124) d_Fp_newer_113 rfl (fun q113 => ?_) (fun q113 => ?_)
  · refine aw_iconst d_Fp_newer_124 ki_0 ?_
    refine aw_isub d_Fp_newer_125 ?_
    refine aw_bI (fun v126 => ?_)
    refine aw_istore (lo' := [(5, .int v126), (0, .ref 4), (1, .int a1), (2, .int a2), (3, .ref t2), (4, .ref t8_1), (6, .int v6_32), (7, .ref t66)]) d_Fp_newer_126 (by decide) rfl ?_
    refine aw_iinc (v := (v6_32 + (1 : Int32))) (lo' := [(6, .int (v6_32 + (1 : Int32))), (5, .int v126), (0, .ref 4), (1, .int a1), (2, .int a2), (3, .ref t2), (4, .ref t8_1), (7, .ref t66)]) d_Fp_newer_128 6 rfl (by rw [show Int32.ofInt (1) = (1 : Int32) from by decide]) (by decide) rfl ?_
    refine aw_goto (tgt := 32) d_Fp_newer_131 rfl ?_
    refine aw_sub (lo' := [(0, .ref 4), (1, .int a1), (2, .int a2), (3, .ref t2), (4, .ref t8_1), (5, .int v126), (6, .int (v6_32 + (1 : Int32)))]) [2, 3, 4, 5, 6, 1, 0] rfl ?_
    exact hkr32 _ _ _
  · refine aw_aload d_Fp_newer_116 7 rfl ?_
    refine aw_getI fl_Fp_197 (fx_isBK ht66 0 (by decide)) d_Fp_newer_118 ?_
    refine aw_goto (tgt := 125) d_Fp_newer_121 rfl ?_
    refine aw_isub d_Fp_newer_125 ?_
    refine aw_bI (fun v126_1 => ?_)
    refine aw_istore (lo' := [(5, .int v126_1), (0, .ref 4), (1, .int a1), (2, .int a2), (3, .ref t2), (4, .ref t8_1), (6, .int v6_32), (7, .ref t66)]) d_Fp_newer_126 (by decide) rfl ?_
    refine aw_iinc (v := (v6_32 + (1 : Int32))) (lo' := [(6, .int (v6_32 + (1 : Int32))), (5, .int v126_1), (0, .ref 4), (1, .int a1), (2, .int a2), (3, .ref t2), (4, .ref t8_1), (7, .ref t66)]) d_Fp_newer_128 6 rfl (by rw [show Int32.ofInt (1) = (1 : Int32) from by decide]) (by decide) rfl ?_
    refine aw_goto (tgt := 32) d_Fp_newer_131 rfl ?_
    refine aw_sub (lo' := [(0, .ref 4), (1, .int a1), (2, .int a2), (3, .ref t2), (4, .ref t8_1), (5, .int v126_1), (6, .int (v6_32 + (1 : Int32)))]) [2, 3, 4, 5, 6, 1, 0] rfl ?_
    exact hkr32 _ _ _
def lp_Fp_newer_32 (kx32_134 : Int32 → Int32 → Dm → Option (Int32 × Dm)) (a1 : Int32) (a2 : Int32) (t2 : Nat) (t8_1 : Nat) : Nat → Int32 → Int32 → Dm → Option (Int32 × Dm)
  | 0, _, _, _ => none
  | f + 1, v5_32, v6_32, δ32 => (if (gI δ32 34 0) ≤ v6_32 then (kx32_134 v5_32 v6_32 δ32) else ((f_Fp_get 35 v6_32 δ32).bind (fun y63 => ((f_To_boothAt y63 δ32).bind (fun o66 => ocs o66 (lp_Fp_newer_32 kx32_134 a1 a2 t2 t8_1 f v5_32 (v6_32 + (1 : Int32)) δ32) (fun t66 => if isB t66 = true then ((f_Fp_isRefused t2 v6_32 δ32).bind (fun y85 => bnd y85.1 (fun v85 => bnd y85.2 (fun δ_85 => (if v85 = 0 then (jp_Fp_newer_100 (lp_Fp_newer_32 kx32_134 a1 a2 t2 t8_1 f) kx32_134 a1 a2 t2 t8_1 v5_32 v6_32 t66 δ_85 (0 : Int32)) else (jp_Fp_newer_100 (lp_Fp_newer_32 kx32_134 a1 a2 t2 t8_1 f) kx32_134 a1 a2 t2 t8_1 v5_32 v6_32 t66 δ_85 (gI δ_85 t66 1))))))) else none))))))
set_option maxHeartbeats 4000000 in
set_option maxRecDepth 100000 in
theorem tl_Fp_newer_32 {n : Nat} (kx32_134 : Int32 → Int32 → Dm → Option (Int32 × Dm)) (a1 : Int32) (a2 : Int32) (t2 : Nat) (t8_1 : Nat) (ht2 : isL t2 = true) (ht8_1 : isL t8_1 = true) (hkx32_134 : ∀ v5_32k v6_32k δ32k, AWo k_Fp_newer 5 0 0 134 [(0, .ref 4), (1, .int a1), (2, .int a2), (3, .ref t2), (4, .ref t8_1), (5, .int v5_32k), (6, .int v6_32k)] [] δ32k RT n 0 0 (Km RT n) (kx32_134 v5_32k v6_32k δ32k)) : ∀ (f : Nat) (v5_32 : Int32) (v6_32 : Int32) (δ32 : Dm), AWo k_Fp_newer 5 0 0 32 [(0, .ref 4), (1, .int a1), (2, .int a2), (3, .ref t2), (4, .ref t8_1), (5, .int v5_32), (6, .int v6_32)] [] δ32 RT n 0 0 (Km RT n) (lp_Fp_newer_32 kx32_134 a1 a2 t2 t8_1 f v5_32 v6_32 δ32) := by
  intro f
  induction f with
  | zero => intro _ _ _; exact aw_none
  | succ f ih =>
    intro v5_32 v6_32 δ32
    rw [lp_Fp_newer_32]
    refine aw_iload d_Fp_newer_32 6 rfl ?_
    refine aw_aload_n d_Fp_newer_34 0 rfl ?_
    refine aw_getR (t := 29) fl_Fp_57 kd_4 rt_4_9 d_Fp_newer_35 ?_
    refine aw_getR (t := 34) fl_Fp_148 kd_29 rt_29_7 d_Fp_newer_38 ?_
    refine aw_getI fl_Fp_152 kd_34 d_Fp_newer_41 ?_
    refine aw_icmp_ge (tgt := 134) d_Fp_newer_44 rfl (fun q44 => ?_) (fun q44 => ?_)
    · refine aw_sub (lo' := [(0, .ref 4), (1, .int a1), (2, .int a2), (3, .ref t2), (4, .ref t8_1), (5, .int v5_32), (6, .int v6_32)]) [0, 1, 2, 3, 4, 5, 6] rfl ?_
      exact hkx32_134 _ _ _
    · refine aw_aload_n d_Fp_newer_47 0 rfl ?_
      refine aw_getR (t := 29) fl_Fp_57 kd_4 rt_4_9 d_Fp_newer_48 ?_
      refine aw_aload_n d_Fp_newer_51 0 rfl ?_
      refine aw_getR (t := 29) fl_Fp_57 kd_4 rt_4_9 d_Fp_newer_52 ?_
      refine aw_getR (t := 34) fl_Fp_148 kd_29 rt_29_7 d_Fp_newer_55 ?_
      refine aw_getR (t := 35) fl_Fp_307 kd_34 rt_34_3 d_Fp_newer_58 ?_
      refine aw_iload d_Fp_newer_61 6 rfl ?_
      refine aw_S_p (As := [.ref 35, .int v6_32]) (m_Fp_get (congrArg Prod.fst kd_35)) cs_Fp_98 rfl rfl (Nat.le_of_ble_eq_true rfl) ⟨Nat.le_of_ble_eq_true rfl, Nat.le_of_ble_eq_true rfl⟩ ⟨Nat.le_refl _, Nat.le_refl _⟩ d_Fp_newer_63 (fun y63 => ?_)
      refine aw_V_r (As := [.int y63]) (m_To_boothAt) cv_Fp_139 kd_29 rfl rfl rfl (Nat.le_of_ble_eq_true rfl) ⟨Nat.le_of_ble_eq_true rfl, Nat.le_of_ble_eq_true rfl⟩ ⟨Nat.le_refl _, Nat.le_refl _⟩ d_Fp_newer_66 ?_ (fun t66 => ?_)
      · refine aw_astoreN (lo' := [(7, .null), (0, .ref 4), (1, .int a1), (2, .int a2), (3, .ref t2), (4, .ref t8_1), (5, .int v5_32), (6, .int v6_32)]) d_Fp_newer_69 (by decide) rfl ?_
        refine aw_aloadN d_Fp_newer_71 0 rfl ?_
        refine aw_ifnonnullN d_Fp_newer_73 ?_
        refine aw_goto (tgt := 128) d_Fp_newer_76 rfl ?_
        refine aw_iinc (v := (v6_32 + (1 : Int32))) (lo' := [(6, .int (v6_32 + (1 : Int32))), (7, .null), (0, .ref 4), (1, .int a1), (2, .int a2), (3, .ref t2), (4, .ref t8_1), (5, .int v5_32)]) d_Fp_newer_128 7 rfl (by rw [show Int32.ofInt (1) = (1 : Int32) from by decide]) (by decide) rfl ?_
        refine aw_goto (tgt := 32) d_Fp_newer_131 rfl ?_
        refine aw_sub (lo' := [(0, .ref 4), (1, .int a1), (2, .int a2), (3, .ref t2), (4, .ref t8_1), (5, .int v5_32), (6, .int (v6_32 + (1 : Int32)))]) [2, 3, 4, 5, 6, 7, 0] rfl ?_
        exact ih _ _ _
      · refine aw_grd (fun ht66 => ?_)
        refine aw_astore (lo' := [(7, .ref t66), (0, .ref 4), (1, .int a1), (2, .int a2), (3, .ref t2), (4, .ref t8_1), (5, .int v5_32), (6, .int v6_32)]) d_Fp_newer_69 (by decide) rfl ?_
        refine aw_aload d_Fp_newer_71 0 rfl ?_
        refine aw_ifnonnull (tgt := 79) d_Fp_newer_73 rfl ?_
        refine aw_iload d_Fp_newer_79 6 rfl ?_
        refine aw_aload_n d_Fp_newer_81 1 rfl ?_
        refine aw_aload_n d_Fp_newer_82 4 rfl ?_
        refine aw_iload d_Fp_newer_83 7 rfl ?_
        refine aw_V_m (As := [.ref t2, .int v6_32]) (m_Fp_isRefused ht2) cv_Fp_303 kd_4 rfl rfl rfl (Nat.le_of_ble_eq_true rfl) ⟨Nat.le_of_ble_eq_true rfl, Nat.le_of_ble_eq_true rfl⟩ ⟨Nat.le_refl _, Nat.le_refl _⟩ d_Fp_newer_85 (fun y85 => ?_)
        refine aw_bI (fun v85 => ?_)
        refine aw_bD (fun δ_85 => ?_)
        refine aw_if_eq (tgt := 99) d_Fp_newer_88 rfl (fun q88 => ?_) (fun q88 => ?_)
        · refine aw_iconst d_Fp_newer_99 ki_0 ?_
          refine aw_sub (lo' := [(0, .ref 4), (1, .int a1), (2, .int a2), (3, .ref t2), (4, .ref t8_1), (5, .int v5_32), (6, .int v6_32), (7, .ref t66)]) [1, 2, 3, 4, 5, 6, 7, 0] rfl ?_
          exact tj_Fp_newer_100 _ _ _ _ _ _ _ _ _ _ _ ht2 ht8_1 ht66 ih hkx32_134
        · refine aw_aload d_Fp_newer_91 0 rfl ?_
          refine aw_getI fl_Fp_197 (fx_isBK ht66 0 (by decide)) d_Fp_newer_93 ?_
          refine aw_goto (tgt := 100) d_Fp_newer_96 rfl ?_
          refine aw_sub (lo' := [(0, .ref 4), (1, .int a1), (2, .int a2), (3, .ref t2), (4, .ref t8_1), (5, .int v5_32), (6, .int v6_32), (7, .ref t66)]) [1, 2, 3, 4, 5, 6, 7, 0] rfl ?_
          exact tj_Fp_newer_100 _ _ _ _ _ _ _ _ _ _ _ ht2 ht8_1 ht66 ih hkx32_134
def f_Fp_newer (a1 : Int32) (a2 : Int32) (δ : Dm) : Option (Int32 × Dm) := ((f_Fp_lawAt a1 δ).bind (fun o2 => ocs o2 ((f_Fp_lawAt a2 δ).bind (fun o8 => ocs o8 (some ((-1000000000 : Int32), δ)) (fun t8 => if isL t8 = true then (some ((-1000000000 : Int32), δ)) else none))) (fun t2 => if isL t2 = true then ((f_Fp_lawAt a2 δ).bind (fun o8_1 => ocs o8_1 (some ((-1000000000 : Int32), δ)) (fun t8_1 => if isL t8_1 = true then (lp_Fp_newer_32 (fun v5_32x v6_32x δ32x => (some (v5_32x, δ32x))) a1 a2 t2 t8_1 FU (0 : Int32) (0 : Int32) δ) else none))) else none)))
set_option maxHeartbeats 4000000 in
set_option maxRecDepth 100000 in
theorem m_Fp_newer {a1 : Int32} {a2 : Int32} {δ : Dm} {n : Nat} : ∀ x, f_Fp_newer a1 a2 δ = some x → AMet k_Fp_newer 5 0 0 [.ref 4, .int a1, .int a2] δ RT n (Km RT n x) := by
  refine aw_start (lo := [(0, .ref 4), (1, .int a1), (2, .int a2)]) mok_Fp_newer rfl (Nat.le_of_ble_eq_true rfl) ?_
  unfold f_Fp_newer
  refine aw_aload_n d_Fp_newer_0 0 rfl ?_
  refine aw_iload_n d_Fp_newer_1 1 rfl ?_
  refine aw_V_r (As := [.int a1]) (m_Fp_lawAt) cv_Fp_126 kd_4 rfl rfl rfl (Nat.le_of_ble_eq_true rfl) ⟨Nat.le_of_ble_eq_true rfl, Nat.le_of_ble_eq_true rfl⟩ ⟨Nat.le_refl _, Nat.le_refl _⟩ d_Fp_newer_2 ?_ (fun t2 => ?_)
  · refine aw_astoreN_n (lo' := [(3, .null), (0, .ref 4), (1, .int a1), (2, .int a2)]) d_Fp_newer_5 rfl (by decide) rfl ?_
    refine aw_aload_n d_Fp_newer_6 1 rfl ?_
    refine aw_iload_n d_Fp_newer_7 3 rfl ?_
    refine aw_V_r (As := [.int a2]) (m_Fp_lawAt) cv_Fp_126 kd_4 rfl rfl rfl (Nat.le_of_ble_eq_true rfl) ⟨Nat.le_of_ble_eq_true rfl, Nat.le_of_ble_eq_true rfl⟩ ⟨Nat.le_refl _, Nat.le_refl _⟩ d_Fp_newer_8 ?_ (fun t8 => ?_)
    · refine aw_astoreN (lo' := [(4, .null), (3, .null), (0, .ref 4), (1, .int a1), (2, .int a2)]) d_Fp_newer_11 (by decide) rfl ?_
      refine aw_aloadN_n d_Fp_newer_13 1 rfl ?_
      refine aw_ifnullN (tgt := 22) d_Fp_newer_14 rfl ?_
      refine aw_ldcw (v := (-1000000000 : Int32)) d_Fp_newer_22 kc_Fp_270 ?_
      exact aw_iret rfl rfl ⟨Nat.le_refl _, Nat.le_refl _⟩ d_Fp_newer_25
    · refine aw_grd (fun ht8 => ?_)
      refine aw_astore (lo' := [(4, .ref t8), (3, .null), (0, .ref 4), (1, .int a1), (2, .int a2)]) d_Fp_newer_11 (by decide) rfl ?_
      refine aw_aloadN_n d_Fp_newer_13 1 rfl ?_
      refine aw_ifnullN (tgt := 22) d_Fp_newer_14 rfl ?_
      refine aw_ldcw (v := (-1000000000 : Int32)) d_Fp_newer_22 kc_Fp_270 ?_
      exact aw_iret rfl rfl ⟨Nat.le_refl _, Nat.le_refl _⟩ d_Fp_newer_25
  · refine aw_grd (fun ht2 => ?_)
    refine aw_astore_n (lo' := [(3, .ref t2), (0, .ref 4), (1, .int a1), (2, .int a2)]) d_Fp_newer_5 rfl (by decide) rfl ?_
    refine aw_aload_n d_Fp_newer_6 1 rfl ?_
    refine aw_iload_n d_Fp_newer_7 3 rfl ?_
    refine aw_V_r (As := [.int a2]) (m_Fp_lawAt) cv_Fp_126 kd_4 rfl rfl rfl (Nat.le_of_ble_eq_true rfl) ⟨Nat.le_of_ble_eq_true rfl, Nat.le_of_ble_eq_true rfl⟩ ⟨Nat.le_refl _, Nat.le_refl _⟩ d_Fp_newer_8 ?_ (fun t8_1 => ?_)
    · refine aw_astoreN (lo' := [(4, .null), (3, .ref t2), (0, .ref 4), (1, .int a1), (2, .int a2)]) d_Fp_newer_11 (by decide) rfl ?_
      refine aw_aload_n d_Fp_newer_13 1 rfl ?_
      refine aw_ifnull d_Fp_newer_14 ?_
      refine aw_aloadN d_Fp_newer_17 0 rfl ?_
      refine aw_ifnonnullN d_Fp_newer_19 ?_
      refine aw_ldcw (v := (-1000000000 : Int32)) d_Fp_newer_22 kc_Fp_270 ?_
      exact aw_iret rfl rfl ⟨Nat.le_refl _, Nat.le_refl _⟩ d_Fp_newer_25
    · refine aw_grd (fun ht8_1 => ?_)
      refine aw_astore (lo' := [(4, .ref t8_1), (3, .ref t2), (0, .ref 4), (1, .int a1), (2, .int a2)]) d_Fp_newer_11 (by decide) rfl ?_
      refine aw_aload_n d_Fp_newer_13 1 rfl ?_
      refine aw_ifnull d_Fp_newer_14 ?_
      refine aw_aload d_Fp_newer_17 0 rfl ?_
      refine aw_ifnonnull (tgt := 26) d_Fp_newer_19 rfl ?_
      refine aw_iconst d_Fp_newer_26 ki_0 ?_
      refine aw_istore (lo' := [(5, .int (0 : Int32)), (4, .ref t8_1), (3, .ref t2), (0, .ref 4), (1, .int a1), (2, .int a2)]) d_Fp_newer_27 (by decide) rfl ?_
      refine aw_iconst d_Fp_newer_29 ki_0 ?_
      refine aw_istore (lo' := [(6, .int (0 : Int32)), (5, .int (0 : Int32)), (4, .ref t8_1), (3, .ref t2), (0, .ref 4), (1, .int a1), (2, .int a2)]) d_Fp_newer_30 (by decide) rfl ?_
      refine aw_sub (lo' := [(0, .ref 4), (1, .int a1), (2, .int a2), (3, .ref t2), (4, .ref t8_1), (5, .int (0 : Int32)), (6, .int (0 : Int32))]) [4, 5, 6, 3, 2, 1, 0] rfl ?_
      refine tl_Fp_newer_32 _ _ _ _ _ ht2 ht8_1 (fun v5_32x v6_32x δ32x => ?_) FU _ _ _
      · refine aw_iload d_Fp_newer_134 5 rfl ?_
        exact aw_iret rfl rfl ⟨Nat.le_refl _, Nat.le_refl _⟩ d_Fp_newer_136
def f_Fp_isSpan (a0 : Int32) (a1 : Int32) (δ : Dm) : Option Int32 := ((f_Fp_isDay a0 δ).bind (fun y1 => (if y1 = 0 then (some (0 : Int32)) else ((f_Fp_isDay a1 δ).bind (fun y8 => (if y8 = 0 then (some (0 : Int32)) else (if a1 < a0 then (some (0 : Int32)) else (some (1 : Int32)))))))))
set_option maxHeartbeats 4000000 in
set_option maxRecDepth 100000 in
theorem m_Fp_isSpan {a0 : Int32} {a1 : Int32} {δ : Dm} {n : Nat} : ∀ x, f_Fp_isSpan a0 a1 δ = some x → AMet k_Fp_isSpan 3 0 0 [.int a0, .int a1] δ RT n (Kp δ RT n x) := by
  refine aw_start (lo := [(0, .int a0), (1, .int a1)]) mok_Fp_isSpan rfl (Nat.le_of_ble_eq_true rfl) ?_
  unfold f_Fp_isSpan
  refine aw_iload_n d_Fp_isSpan_0 0 rfl ?_
  refine aw_S_p (As := [.int a0]) (m_Fp_isDay) cs_Fp_92 rfl rfl (Nat.le_of_ble_eq_true rfl) ⟨Nat.le_of_ble_eq_true rfl, Nat.le_of_ble_eq_true rfl⟩ ⟨Nat.le_refl _, Nat.le_refl _⟩ d_Fp_isSpan_1 (fun y1 => ?_)
  refine aw_if_eq (tgt := 23) d_Fp_isSpan_4 rfl (fun q4 => ?_) (fun q4 => ?_)
  · refine aw_iconst d_Fp_isSpan_23 ki_0 ?_
    exact aw_zret rfl rfl rfl ⟨Nat.le_refl _, Nat.le_refl _⟩ d_Fp_isSpan_24
  · refine aw_iload_n d_Fp_isSpan_7 1 rfl ?_
    refine aw_S_p (As := [.int a1]) (m_Fp_isDay) cs_Fp_92 rfl rfl (Nat.le_of_ble_eq_true rfl) ⟨Nat.le_of_ble_eq_true rfl, Nat.le_of_ble_eq_true rfl⟩ ⟨Nat.le_refl _, Nat.le_refl _⟩ d_Fp_isSpan_8 (fun y8 => ?_)
    refine aw_if_eq (tgt := 23) d_Fp_isSpan_11 rfl (fun q11 => ?_) (fun q11 => ?_)
    · refine aw_iconst d_Fp_isSpan_23 ki_0 ?_
      exact aw_zret rfl rfl rfl ⟨Nat.le_refl _, Nat.le_refl _⟩ d_Fp_isSpan_24
    · refine aw_iload_n d_Fp_isSpan_14 0 rfl ?_
      refine aw_iload_n d_Fp_isSpan_15 1 rfl ?_
      refine aw_icmp_gt (tgt := 23) d_Fp_isSpan_16 rfl (fun q16 => ?_) (fun q16 => ?_)
      · refine aw_iconst d_Fp_isSpan_23 ki_0 ?_
        exact aw_zret rfl rfl rfl ⟨Nat.le_refl _, Nat.le_refl _⟩ d_Fp_isSpan_24
      · refine aw_iconst d_Fp_isSpan_19 ki_1 ?_
        refine aw_goto (tgt := 24) d_Fp_isSpan_20 rfl ?_
        exact aw_zret rfl rfl rfl ⟨Nat.le_refl _, Nat.le_refl _⟩ d_Fp_isSpan_24
