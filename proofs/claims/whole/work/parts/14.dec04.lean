noncomputable section
def f_Fp_missing (a1 : Int32) (δ : Dm) : Option Int32 := ((f_Fp_get 52 a1 δ).bind (fun y20 => ((f_Fp_get 53 a1 δ).bind (fun y28 => ((f_Di_spoiltOn y20 y28 δ).bind (fun y31 => ((f_Po_claimsAhead a1 δ).bind (fun y37 => (some (y37 - y31))))))))))
set_option maxHeartbeats 4000000 in
set_option maxRecDepth 100000 in
theorem m_Fp_missing {a1 : Int32} {δ : Dm} {n : Nat} : ∀ x, f_Fp_missing a1 δ = some x → AMet k_Fp_missing 4 0 0 [.ref 4, .int a1] δ RT n (Kp δ RT n x) := by
  refine aw_start (lo := [(0, .ref 4), (1, .int a1)]) mok_Fp_missing rfl (Nat.le_of_ble_eq_true rfl) ?_
  unfold f_Fp_missing
  refine aw_aload_n d_Fp_missing_0 0 rfl ?_
  refine aw_getR (t := 29) fl_Fp_57 kd_4 rt_4_9 d_Fp_missing_1 ?_
  refine aw_getR (t := 45) fl_Fp_250 kd_29 rt_29_8 d_Fp_missing_4 ?_
  refine aw_astore_n (lo' := [(2, .ref 45), (0, .ref 4), (1, .int a1)]) d_Fp_missing_7 rfl (by decide) rfl ?_
  refine aw_aload_n d_Fp_missing_8 1 rfl ?_
  refine aw_getR (t := 29) fl_Fp_57 kd_4 rt_4_9 d_Fp_missing_9 ?_
  refine aw_getR (t := 34) fl_Fp_148 kd_29 rt_29_7 d_Fp_missing_12 ?_
  refine aw_aload_n d_Fp_missing_15 0 rfl ?_
  refine aw_getR (t := 52) fl_Fp_373 kd_45 rt_45_8 d_Fp_missing_16 ?_
  refine aw_iload_n d_Fp_missing_19 2 rfl ?_
  refine aw_S_p (As := [.ref 52, .int a1]) (m_Fp_get (congrArg Prod.fst kd_52)) cs_Fp_98 rfl rfl (Nat.le_of_ble_eq_true rfl) ⟨Nat.le_of_ble_eq_true rfl, Nat.le_of_ble_eq_true rfl⟩ ⟨Nat.le_refl _, Nat.le_refl _⟩ d_Fp_missing_20 (fun y20 => ?_)
  refine aw_aload_n d_Fp_missing_23 0 rfl ?_
  refine aw_getR (t := 53) fl_Fp_376 kd_45 rt_45_9 d_Fp_missing_24 ?_
  refine aw_iload_n d_Fp_missing_27 2 rfl ?_
  refine aw_S_p (As := [.ref 53, .int a1]) (m_Fp_get (congrArg Prod.fst kd_53)) cs_Fp_98 rfl rfl (Nat.le_of_ble_eq_true rfl) ⟨Nat.le_of_ble_eq_true rfl, Nat.le_of_ble_eq_true rfl⟩ ⟨Nat.le_refl _, Nat.le_refl _⟩ d_Fp_missing_28 (fun y28 => ?_)
  refine aw_V_p (As := [.int y20, .int y28]) (m_Di_spoiltOn) cv_Fp_379 kd_34 rfl rfl rfl (Nat.le_of_ble_eq_true rfl) ⟨Nat.le_of_ble_eq_true rfl, Nat.le_of_ble_eq_true rfl⟩ ⟨Nat.le_refl _, Nat.le_refl _⟩ d_Fp_missing_31 (fun y31 => ?_)
  refine aw_istore_n (lo' := [(3, .int y31), (2, .ref 45), (0, .ref 4), (1, .int a1)]) d_Fp_missing_34 rfl (by decide) rfl ?_
  refine aw_aload_n d_Fp_missing_35 1 rfl ?_
  refine aw_iload_n d_Fp_missing_36 3 rfl ?_
  refine aw_V_p (As := [.int a1]) (m_Po_claimsAhead) cv_Fp_382 kd_45 rfl rfl rfl (Nat.le_of_ble_eq_true rfl) ⟨Nat.le_of_ble_eq_true rfl, Nat.le_of_ble_eq_true rfl⟩ ⟨Nat.le_refl _, Nat.le_refl _⟩ d_Fp_missing_37 (fun y37 => ?_)
  refine aw_iload_n d_Fp_missing_40 0 rfl ?_
  refine aw_isub d_Fp_missing_41 ?_
  exact aw_iret rfl rfl ⟨Nat.le_refl _, Nat.le_refl _⟩ d_Fp_missing_42
def lp_Po_claimsUpTo_4 (kx4_37 : Int32 → Int32 → Option Int32) (a1 : Int32) (δ : Dm) : Nat → Int32 → Int32 → Option Int32
  | 0, _, _ => none
  | f + 1, v2_4, v3_4 => (if a1 < v3_4 then (kx4_37 v2_4 v3_4) else ((f_Fp_get 51 v3_4 δ).bind (fun y14 => ((f_Fp_get 51 a1 δ).bind (fun y22 => (if y14 = y22 then (lp_Po_claimsUpTo_4 kx4_37 a1 δ f (v2_4 + (1 : Int32)) (v3_4 + (1 : Int32))) else (lp_Po_claimsUpTo_4 kx4_37 a1 δ f v2_4 (v3_4 + (1 : Int32)))))))))
set_option maxHeartbeats 4000000 in
set_option maxRecDepth 100000 in
theorem tl_Po_claimsUpTo_4 {n : Nat} (kx4_37 : Int32 → Int32 → Option Int32) (a1 : Int32) (δ : Dm) (hkx4_37 : ∀ v2_4k v3_4k, AWo k_Po_claimsUpTo 2 0 0 37 [(0, .ref 45), (1, .int a1), (2, .int v2_4k), (3, .int v3_4k)] [] δ RT n 0 0 (Kp δ RT n) (kx4_37 v2_4k v3_4k)) : ∀ (f : Nat) (v2_4 : Int32) (v3_4 : Int32), AWo k_Po_claimsUpTo 2 0 0 4 [(0, .ref 45), (1, .int a1), (2, .int v2_4), (3, .int v3_4)] [] δ RT n 0 0 (Kp δ RT n) (lp_Po_claimsUpTo_4 kx4_37 a1 δ f v2_4 v3_4) := by
  intro f
  induction f with
  | zero => intro _ _; exact aw_none
  | succ f ih =>
    intro v2_4 v3_4
    rw [lp_Po_claimsUpTo_4]
    refine aw_iload_n d_Po_claimsUpTo_4 3 rfl ?_
    refine aw_iload_n d_Po_claimsUpTo_5 1 rfl ?_
    refine aw_icmp_gt (tgt := 37) d_Po_claimsUpTo_6 rfl (fun q6 => ?_) (fun q6 => ?_)
    · refine aw_sub (lo' := [(0, .ref 45), (1, .int a1), (2, .int v2_4), (3, .int v3_4)]) [0, 1, 2, 3] rfl ?_
      exact hkx4_37 _ _
    · refine aw_aload_n d_Po_claimsUpTo_9 0 rfl ?_
      refine aw_getR (t := 51) fl_Po_27 kd_45 rt_45_7 d_Po_claimsUpTo_10 ?_
      refine aw_iload_n d_Po_claimsUpTo_13 3 rfl ?_
      refine aw_SN_p (As := [.ref 51, .int v3_4]) (m_Fp_get (congrArg Prod.fst kd_51)) cs_Po_51 rfl rfl (Nat.le_of_ble_eq_true rfl) ⟨Nat.le_of_ble_eq_true rfl, Nat.le_of_ble_eq_true rfl⟩ ⟨Nat.le_refl _, Nat.le_refl _⟩ d_Po_claimsUpTo_14 (fun y14 => ?_)
      refine aw_aload_n d_Po_claimsUpTo_17 0 rfl ?_
      refine aw_getR (t := 51) fl_Po_27 kd_45 rt_45_7 d_Po_claimsUpTo_18 ?_
      refine aw_iload_n d_Po_claimsUpTo_21 1 rfl ?_
      refine aw_SN_p (As := [.ref 51, .int a1]) (m_Fp_get (congrArg Prod.fst kd_51)) cs_Po_51 rfl rfl (Nat.le_of_ble_eq_true rfl) ⟨Nat.le_of_ble_eq_true rfl, Nat.le_of_ble_eq_true rfl⟩ ⟨Nat.le_refl _, Nat.le_refl _⟩ d_Po_claimsUpTo_22 (fun y22 => ?_)
      refine aw_icmp_ne (tgt := 31) d_Po_claimsUpTo_25 rfl (fun q25 => ?_) (fun q25 => ?_)
      · refine aw_iinc (v := (v2_4 + (1 : Int32))) (lo' := [(2, .int (v2_4 + (1 : Int32))), (0, .ref 45), (1, .int a1), (3, .int v3_4)]) d_Po_claimsUpTo_28 2 rfl (by rw [show Int32.ofInt (1) = (1 : Int32) from by decide]) (by decide) rfl ?_
        refine aw_iinc (v := (v3_4 + (1 : Int32))) (lo' := [(3, .int (v3_4 + (1 : Int32))), (2, .int (v2_4 + (1 : Int32))), (0, .ref 45), (1, .int a1)]) d_Po_claimsUpTo_31 3 rfl (by rw [show Int32.ofInt (1) = (1 : Int32) from by decide]) (by decide) rfl ?_
        refine aw_goto (tgt := 4) d_Po_claimsUpTo_34 rfl ?_
        refine aw_sub (lo' := [(0, .ref 45), (1, .int a1), (2, .int (v2_4 + (1 : Int32))), (3, .int (v3_4 + (1 : Int32)))]) [2, 3, 1, 0] rfl ?_
        exact ih _ _
      · refine aw_iinc (v := (v3_4 + (1 : Int32))) (lo' := [(3, .int (v3_4 + (1 : Int32))), (0, .ref 45), (1, .int a1), (2, .int v2_4)]) d_Po_claimsUpTo_31 3 rfl (by rw [show Int32.ofInt (1) = (1 : Int32) from by decide]) (by decide) rfl ?_
        refine aw_goto (tgt := 4) d_Po_claimsUpTo_34 rfl ?_
        refine aw_sub (lo' := [(0, .ref 45), (1, .int a1), (2, .int v2_4), (3, .int (v3_4 + (1 : Int32)))]) [1, 2, 3, 0] rfl ?_
        exact ih _ _
def f_Po_claimsUpTo (a1 : Int32) (δ : Dm) : Option Int32 := (lp_Po_claimsUpTo_4 (fun v2_4x v3_4x => (some v2_4x)) a1 δ FU (0 : Int32) (0 : Int32))
set_option maxHeartbeats 4000000 in
set_option maxRecDepth 100000 in
theorem m_Po_claimsUpTo {a1 : Int32} {δ : Dm} {n : Nat} : ∀ x, f_Po_claimsUpTo a1 δ = some x → AMet k_Po_claimsUpTo 2 0 0 [.ref 45, .int a1] δ RT n (Kp δ RT n x) := by
  refine aw_start (lo := [(0, .ref 45), (1, .int a1)]) mok_Po_claimsUpTo rfl (Nat.le_of_ble_eq_true rfl) ?_
  unfold f_Po_claimsUpTo
  refine aw_iconst d_Po_claimsUpTo_0 ki_0 ?_
  refine aw_istore_n (lo' := [(2, .int (0 : Int32)), (0, .ref 45), (1, .int a1)]) d_Po_claimsUpTo_1 rfl (by decide) rfl ?_
  refine aw_iconst d_Po_claimsUpTo_2 ki_0 ?_
  refine aw_istore_n (lo' := [(3, .int (0 : Int32)), (2, .int (0 : Int32)), (0, .ref 45), (1, .int a1)]) d_Po_claimsUpTo_3 rfl (by decide) rfl ?_
  refine aw_sub (lo' := [(0, .ref 45), (1, .int a1), (2, .int (0 : Int32)), (3, .int (0 : Int32))]) [2, 3, 1, 0] rfl ?_
  refine tl_Po_claimsUpTo_4 _ _ _ (fun v2_4x v3_4x => ?_) FU _ _
  · refine aw_iload_n d_Po_claimsUpTo_37 2 rfl ?_
    exact aw_iret rfl rfl ⟨Nat.le_refl _, Nat.le_refl _⟩ d_Po_claimsUpTo_38
def f_Fp_isRefunded (a1 : Int32) (δ : Dm) : Option (Int32 × Dm) := ((f_Fp_get 52 a1 δ).bind (fun y13 => ((f_Fp_get 53 a1 δ).bind (fun y22 => ((f_To_boothAt y13 δ).bind (fun o32 => ocs o32 (some ((0 : Int32), δ)) (fun t32 => if isB t32 = true then ((f_Fp_lawAt (gI δ t32 2) δ).bind (fun o52 => ocs o52 (some ((0 : Int32), δ)) (fun t52 => if isL t52 = true then ((f_Fa_open t32 y22 δ).bind (fun y76 => ((f_Di_stripsIn y13 y22 y22 y76).bind (fun y95 => ((f_Po_claimsUpTo a1 y76).bind (fun y100 => ((f_Fa_till y95 y100 y76).bind (fun y103 => ((f_La_holds t52 (15 : Int32) y103).bind (fun y114 => bnd y114.1 (fun v114 => bnd y114.2 (fun δ_114 => (if v114 = 0 ∨ v114 = 1 then (some (v114, δ_114)) else none))))))))))))) else none))) else none)))))))
set_option maxHeartbeats 4000000 in
set_option maxRecDepth 100000 in
theorem m_Fp_isRefunded {a1 : Int32} {δ : Dm} {n : Nat} : ∀ x, f_Fp_isRefunded a1 δ = some x → AMet k_Fp_isRefunded 4 0 0 [.ref 4, .int a1] δ RT n (Km RT n x) := by
  refine aw_start (lo := [(0, .ref 4), (1, .int a1)]) mok_Fp_isRefunded rfl (Nat.le_of_ble_eq_true rfl) ?_
  unfold f_Fp_isRefunded
  refine aw_aload_n d_Fp_isRefunded_0 0 rfl ?_
  refine aw_getR (t := 29) fl_Fp_57 kd_4 rt_4_9 d_Fp_isRefunded_1 ?_
  refine aw_getR (t := 45) fl_Fp_250 kd_29 rt_29_8 d_Fp_isRefunded_4 ?_
  refine aw_astore_n (lo' := [(2, .ref 45), (0, .ref 4), (1, .int a1)]) d_Fp_isRefunded_7 rfl (by decide) rfl ?_
  refine aw_aload_n d_Fp_isRefunded_8 0 rfl ?_
  refine aw_getR (t := 52) fl_Fp_373 kd_45 rt_45_8 d_Fp_isRefunded_9 ?_
  refine aw_iload_n d_Fp_isRefunded_12 2 rfl ?_
  refine aw_S_p (As := [.ref 52, .int a1]) (m_Fp_get (congrArg Prod.fst kd_52)) cs_Fp_98 rfl rfl (Nat.le_of_ble_eq_true rfl) ⟨Nat.le_of_ble_eq_true rfl, Nat.le_of_ble_eq_true rfl⟩ ⟨Nat.le_refl _, Nat.le_refl _⟩ d_Fp_isRefunded_13 (fun y13 => ?_)
  refine aw_istore_n (lo' := [(3, .int y13), (2, .ref 45), (0, .ref 4), (1, .int a1)]) d_Fp_isRefunded_16 rfl (by decide) rfl ?_
  refine aw_aload_n d_Fp_isRefunded_17 1 rfl ?_
  refine aw_getR (t := 53) fl_Fp_376 kd_45 rt_45_9 d_Fp_isRefunded_18 ?_
  refine aw_iload_n d_Fp_isRefunded_21 3 rfl ?_
  refine aw_S_p (As := [.ref 53, .int a1]) (m_Fp_get (congrArg Prod.fst kd_53)) cs_Fp_98 rfl rfl (Nat.le_of_ble_eq_true rfl) ⟨Nat.le_of_ble_eq_true rfl, Nat.le_of_ble_eq_true rfl⟩ ⟨Nat.le_refl _, Nat.le_refl _⟩ d_Fp_isRefunded_22 (fun y22 => ?_)
  refine aw_istore (lo' := [(4, .int y22), (3, .int y13), (2, .ref 45), (0, .ref 4), (1, .int a1)]) d_Fp_isRefunded_25 (by decide) rfl ?_
  refine aw_aload_n d_Fp_isRefunded_27 3 rfl ?_
  refine aw_getR (t := 29) fl_Fp_57 kd_4 rt_4_9 d_Fp_isRefunded_28 ?_
  refine aw_iload_n d_Fp_isRefunded_31 1 rfl ?_
  refine aw_V_r (As := [.int y13]) (m_To_boothAt) cv_Fp_139 kd_29 rfl rfl rfl (Nat.le_of_ble_eq_true rfl) ⟨Nat.le_of_ble_eq_true rfl, Nat.le_of_ble_eq_true rfl⟩ ⟨Nat.le_refl _, Nat.le_refl _⟩ d_Fp_isRefunded_32 ?_ (fun t32 => ?_)
  · refine aw_astoreN (lo' := [(5, .null), (4, .int y22), (3, .int y13), (2, .ref 45), (0, .ref 4), (1, .int a1)]) d_Fp_isRefunded_35 (by decide) rfl ?_
    refine aw_aloadN d_Fp_isRefunded_37 0 rfl ?_
    refine aw_ifnonnullN d_Fp_isRefunded_39 ?_
    refine aw_null d_Fp_isRefunded_42 ?_
    refine aw_goto (tgt := 55) d_Fp_isRefunded_43 rfl ?_
    refine aw_astoreN (lo' := [(6, .null), (5, .null), (4, .int y22), (3, .int y13), (2, .ref 45), (0, .ref 4), (1, .int a1)]) d_Fp_isRefunded_55 (by decide) rfl ?_
    refine aw_aloadN d_Fp_isRefunded_57 0 rfl ?_
    refine aw_ifnonnullN d_Fp_isRefunded_59 ?_
    refine aw_iconst d_Fp_isRefunded_62 ki_0 ?_
    exact aw_zret rfl rfl rfl ⟨Nat.le_refl _, Nat.le_refl _⟩ d_Fp_isRefunded_63
  · refine aw_grd (fun ht32 => ?_)
    refine aw_astore (lo' := [(5, .ref t32), (4, .int y22), (3, .int y13), (2, .ref 45), (0, .ref 4), (1, .int a1)]) d_Fp_isRefunded_35 (by decide) rfl ?_
    refine aw_aload d_Fp_isRefunded_37 0 rfl ?_
    refine aw_ifnonnull (tgt := 46) d_Fp_isRefunded_39 rfl ?_
    refine aw_aload_n d_Fp_isRefunded_46 4 rfl ?_
    refine aw_aload d_Fp_isRefunded_47 0 rfl ?_
    refine aw_getI fl_Fp_157 (fx_isBK ht32 0 (by decide)) d_Fp_isRefunded_49 ?_
    refine aw_V_r (As := [.int (gI δ t32 2)]) (m_Fp_lawAt) cv_Fp_126 kd_4 rfl rfl rfl (Nat.le_of_ble_eq_true rfl) ⟨Nat.le_of_ble_eq_true rfl, Nat.le_of_ble_eq_true rfl⟩ ⟨Nat.le_refl _, Nat.le_refl _⟩ d_Fp_isRefunded_52 ?_ (fun t52 => ?_)
    · refine aw_astoreN (lo' := [(6, .null), (5, .ref t32), (4, .int y22), (3, .int y13), (2, .ref 45), (0, .ref 4), (1, .int a1)]) d_Fp_isRefunded_55 (by decide) rfl ?_
      refine aw_aloadN d_Fp_isRefunded_57 0 rfl ?_
      refine aw_ifnonnullN d_Fp_isRefunded_59 ?_
      refine aw_iconst d_Fp_isRefunded_62 ki_0 ?_
      exact aw_zret rfl rfl rfl ⟨Nat.le_refl _, Nat.le_refl _⟩ d_Fp_isRefunded_63
    · refine aw_grd (fun ht52 => ?_)
      refine aw_astore (lo' := [(6, .ref t52), (5, .ref t32), (4, .int y22), (3, .int y13), (2, .ref 45), (0, .ref 4), (1, .int a1)]) d_Fp_isRefunded_55 (by decide) rfl ?_
      refine aw_aload d_Fp_isRefunded_57 0 rfl ?_
      refine aw_ifnonnull (tgt := 64) d_Fp_isRefunded_59 rfl ?_
      refine aw_aload_n d_Fp_isRefunded_64 5 rfl ?_
      refine aw_getR (t := 19) fl_Fp_29 kd_4 rt_4_5 d_Fp_isRefunded_65 ?_
      refine aw_aload_n d_Fp_isRefunded_68 5 rfl ?_
      refine aw_getR (t := 29) fl_Fp_57 kd_4 rt_4_9 d_Fp_isRefunded_69 ?_
      refine aw_aload d_Fp_isRefunded_72 1 rfl ?_
      refine aw_iload d_Fp_isRefunded_74 2 rfl ?_
      refine aw_V_v (As := [.ref 29, .ref t32, .int y22]) (m_Fa_open ht32) cv_Fp_160 kd_19 rfl rfl rfl (Nat.le_of_ble_eq_true rfl) ⟨Nat.le_of_ble_eq_true rfl, Nat.le_of_ble_eq_true rfl⟩ ⟨Nat.le_refl _, Nat.le_refl _⟩ d_Fp_isRefunded_76 (fun y76 => ?_)
      refine aw_aload_n d_Fp_isRefunded_79 5 rfl ?_
      refine aw_getR (t := 19) fl_Fp_29 kd_4 rt_4_5 d_Fp_isRefunded_80 ?_
      refine aw_aload_n d_Fp_isRefunded_83 5 rfl ?_
      refine aw_getR (t := 29) fl_Fp_57 kd_4 rt_4_9 d_Fp_isRefunded_84 ?_
      refine aw_getR (t := 34) fl_Fp_148 kd_29 rt_29_7 d_Fp_isRefunded_87 ?_
      refine aw_iload_n d_Fp_isRefunded_90 3 rfl ?_
      refine aw_iload d_Fp_isRefunded_91 2 rfl ?_
      refine aw_iload d_Fp_isRefunded_93 2 rfl ?_
      refine aw_V_p (As := [.int y13, .int y22, .int y22]) (m_Di_stripsIn) cv_Fp_274 kd_34 rfl rfl rfl (Nat.le_of_ble_eq_true rfl) ⟨Nat.le_of_ble_eq_true rfl, Nat.le_of_ble_eq_true rfl⟩ ⟨Nat.le_refl _, Nat.le_refl _⟩ d_Fp_isRefunded_95 (fun y95 => ?_)
      refine aw_aload_n d_Fp_isRefunded_98 4 rfl ?_
      refine aw_iload_n d_Fp_isRefunded_99 6 rfl ?_
      refine aw_V_p (As := [.int a1]) (m_Po_claimsUpTo) cv_Fp_385 kd_45 rfl rfl rfl (Nat.le_of_ble_eq_true rfl) ⟨Nat.le_of_ble_eq_true rfl, Nat.le_of_ble_eq_true rfl⟩ ⟨Nat.le_refl _, Nat.le_refl _⟩ d_Fp_isRefunded_100 (fun y100 => ?_)
      refine aw_V_v (As := [.int y95, .int y100]) (m_Fa_till) cv_Fp_174 kd_19 rfl rfl rfl (Nat.le_of_ble_eq_true rfl) ⟨Nat.le_of_ble_eq_true rfl, Nat.le_of_ble_eq_true rfl⟩ ⟨Nat.le_refl _, Nat.le_refl _⟩ d_Fp_isRefunded_103 (fun y103 => ?_)
      refine aw_aload d_Fp_isRefunded_106 0 rfl ?_
      refine aw_bipush d_Fp_isRefunded_108 kb_15 ?_
      refine aw_aload_n d_Fp_isRefunded_110 5 rfl ?_
      refine aw_getR (t := 19) fl_Fp_29 kd_4 rt_4_5 d_Fp_isRefunded_111 ?_
      refine aw_V_m (As := [.int (15 : Int32), .ref 19]) (m_La_holds ht52) cv_Fp_388 (fx_isLK ht52 0 (by decide)) rfl rfl rfl (Nat.le_of_ble_eq_true rfl) ⟨Nat.le_of_ble_eq_true rfl, Nat.le_of_ble_eq_true rfl⟩ ⟨Nat.le_refl _, Nat.le_refl _⟩ d_Fp_isRefunded_114 (fun y114 => ?_)
      refine aw_bI (fun v114 => ?_)
      refine aw_bD (fun δ_114 => ?_)
      exact aw_zr2 rfl rfl ⟨Nat.le_refl _, Nat.le_refl _⟩ d_Fp_isRefunded_117
def f_Fp_fair (a1 : Int32) (a2 : Int32) (δ : Dm) : Option (Int32 × Dm) := ((f_Fp_within a1 (0 : Int32) ((gI δ 45 1) - (1 : Int32)) δ).bind (fun y14 => (if y14 = 0 then (some ((-1 : Int32), δ)) else ((f_Fp_within a2 (0 : Int32) (1 : Int32) δ).bind (fun y23 => (if y23 = 0 then (some ((-1 : Int32), δ)) else ((f_Fp_missing a1 δ).bind (fun y33 => (if 0 ≤ y33 then (if a2 = (1 : Int32) then ((f_Fp_isRefunded a1 δ).bind (fun y48 => bnd y48.1 (fun v48 => bnd y48.2 (fun δ_48 => (if v48 = 0 then (some ((0 : Int32), δ_48)) else (some ((1 : Int32), δ_48))))))) else (some ((0 : Int32), δ))) else (some ((1 : Int32), δ)))))))))))
set_option maxHeartbeats 4000000 in
set_option maxRecDepth 100000 in
theorem m_Fp_fair {a1 : Int32} {a2 : Int32} {δ : Dm} {n : Nat} : ∀ x, f_Fp_fair a1 a2 δ = some x → AMet k_Fp_fair 5 0 0 [.ref 4, .int a1, .int a2] δ RT n (Km RT n x) := by
  refine aw_start (lo := [(0, .ref 4), (1, .int a1), (2, .int a2)]) mok_Fp_fair rfl (Nat.le_of_ble_eq_true rfl) ?_
  unfold f_Fp_fair
  refine aw_iload_n d_Fp_fair_0 1 rfl ?_
  refine aw_iconst d_Fp_fair_1 ki_0 ?_
  refine aw_aload_n d_Fp_fair_2 0 rfl ?_
  refine aw_getR (t := 29) fl_Fp_57 kd_4 rt_4_9 d_Fp_fair_3 ?_
  refine aw_getR (t := 45) fl_Fp_250 kd_29 rt_29_8 d_Fp_fair_6 ?_
  refine aw_getI fl_Fp_283 kd_45 d_Fp_fair_9 ?_
  refine aw_iconst d_Fp_fair_12 ki_1 ?_
  refine aw_isub d_Fp_fair_13 ?_
  refine aw_S_p (As := [.int a1, .int (0 : Int32), .int ((gI δ 45 1) - (1 : Int32))]) (m_Fp_within) cs_Fp_70 rfl rfl (Nat.le_of_ble_eq_true rfl) ⟨Nat.le_of_ble_eq_true rfl, Nat.le_of_ble_eq_true rfl⟩ ⟨Nat.le_refl _, Nat.le_refl _⟩ d_Fp_fair_14 (fun y14 => ?_)
  refine aw_if_eq (tgt := 29) d_Fp_fair_17 rfl (fun q17 => ?_) (fun q17 => ?_)
  · refine aw_iconst d_Fp_fair_29 ki_m1 ?_
    exact aw_iret rfl rfl ⟨Nat.le_refl _, Nat.le_refl _⟩ d_Fp_fair_30
  · refine aw_iload_n d_Fp_fair_20 2 rfl ?_
    refine aw_iconst d_Fp_fair_21 ki_0 ?_
    refine aw_iconst d_Fp_fair_22 ki_1 ?_
    refine aw_S_p (As := [.int a2, .int (0 : Int32), .int (1 : Int32)]) (m_Fp_within) cs_Fp_70 rfl rfl (Nat.le_of_ble_eq_true rfl) ⟨Nat.le_of_ble_eq_true rfl, Nat.le_of_ble_eq_true rfl⟩ ⟨Nat.le_refl _, Nat.le_refl _⟩ d_Fp_fair_23 (fun y23 => ?_)
    refine aw_if_ne (tgt := 31) d_Fp_fair_26 rfl (fun q26 => ?_) (fun q26 => ?_)
    · refine aw_iconst d_Fp_fair_29 ki_m1 ?_
      exact aw_iret rfl rfl ⟨Nat.le_refl _, Nat.le_refl _⟩ d_Fp_fair_30
    · refine aw_aload_n d_Fp_fair_31 0 rfl ?_
      refine aw_iload_n d_Fp_fair_32 1 rfl ?_
      refine aw_V_p (As := [.int a1]) (m_Fp_missing) cv_Fp_289 kd_4 rfl rfl rfl (Nat.le_of_ble_eq_true rfl) ⟨Nat.le_of_ble_eq_true rfl, Nat.le_of_ble_eq_true rfl⟩ ⟨Nat.le_refl _, Nat.le_refl _⟩ d_Fp_fair_33 (fun y33 => ?_)
      refine aw_if_ge (tgt := 41) d_Fp_fair_36 rfl (fun q36 => ?_) (fun q36 => ?_)
      · refine aw_iload_n d_Fp_fair_41 2 rfl ?_
        refine aw_iconst d_Fp_fair_42 ki_1 ?_
        refine aw_icmp_ne (tgt := 58) d_Fp_fair_43 rfl (fun q43 => ?_) (fun q43 => ?_)
        · refine aw_aload_n d_Fp_fair_46 0 rfl ?_
          refine aw_iload_n d_Fp_fair_47 1 rfl ?_
          refine aw_V_m (As := [.int a1]) (m_Fp_isRefunded) cv_Fp_293 kd_4 rfl rfl rfl (Nat.le_of_ble_eq_true rfl) ⟨Nat.le_of_ble_eq_true rfl, Nat.le_of_ble_eq_true rfl⟩ ⟨Nat.le_refl _, Nat.le_refl _⟩ d_Fp_fair_48 (fun y48 => ?_)
          refine aw_bI (fun v48 => ?_)
          refine aw_bD (fun δ_48 => ?_)
          refine aw_if_eq (tgt := 58) d_Fp_fair_51 rfl (fun q51 => ?_) (fun q51 => ?_)
          · refine aw_iconst d_Fp_fair_58 ki_0 ?_
            exact aw_iret rfl rfl ⟨Nat.le_refl _, Nat.le_refl _⟩ d_Fp_fair_59
          · refine aw_iconst d_Fp_fair_54 ki_1 ?_
            refine aw_goto (tgt := 59) d_Fp_fair_55 rfl ?_
            exact aw_iret rfl rfl ⟨Nat.le_refl _, Nat.le_refl _⟩ d_Fp_fair_59
        · refine aw_iconst d_Fp_fair_58 ki_0 ?_
          exact aw_iret rfl rfl ⟨Nat.le_refl _, Nat.le_refl _⟩ d_Fp_fair_59
      · refine aw_iconst d_Fp_fair_39 ki_1 ?_
        exact aw_iret rfl rfl ⟨Nat.le_refl _, Nat.le_refl _⟩ d_Fp_fair_40
def lp_Fp_twice_4 (kx4_35 : Int32 → Int32 → Option Int32) (δ : Dm) : Nat → Int32 → Int32 → Option Int32
  | 0, _, _ => none
  | f + 1, v1_4, v2_4 => (if (gI δ 45 1) ≤ v2_4 then (kx4_35 v1_4 v2_4) else ((f_Fp_missing v2_4 δ).bind (fun y20 => (if y20 ≤ 0 then (lp_Fp_twice_4 kx4_35 δ f v1_4 (v2_4 + (1 : Int32))) else (lp_Fp_twice_4 kx4_35 δ f (v1_4 + (1 : Int32)) (v2_4 + (1 : Int32)))))))
set_option maxHeartbeats 4000000 in
set_option maxRecDepth 100000 in
theorem tl_Fp_twice_4 {n : Nat} (kx4_35 : Int32 → Int32 → Option Int32) (δ : Dm) (hkx4_35 : ∀ v1_4k v2_4k, AWo k_Fp_twice 5 0 0 35 [(0, .ref 4), (1, .int v1_4k), (2, .int v2_4k)] [] δ RT n 0 0 (Kp δ RT n) (kx4_35 v1_4k v2_4k)) : ∀ (f : Nat) (v1_4 : Int32) (v2_4 : Int32), AWo k_Fp_twice 5 0 0 4 [(0, .ref 4), (1, .int v1_4), (2, .int v2_4)] [] δ RT n 0 0 (Kp δ RT n) (lp_Fp_twice_4 kx4_35 δ f v1_4 v2_4) := by
  intro f
  induction f with
  | zero => intro _ _; exact aw_none
  | succ f ih =>
    intro v1_4 v2_4
    rw [lp_Fp_twice_4]
    refine aw_iload_n d_Fp_twice_4 2 rfl ?_
    refine aw_aload_n d_Fp_twice_5 0 rfl ?_
    refine aw_getR (t := 29) fl_Fp_57 kd_4 rt_4_9 d_Fp_twice_6 ?_
    refine aw_getR (t := 45) fl_Fp_250 kd_29 rt_29_8 d_Fp_twice_9 ?_
    refine aw_getI fl_Fp_283 kd_45 d_Fp_twice_12 ?_
    refine aw_icmp_ge (tgt := 35) d_Fp_twice_15 rfl (fun q15 => ?_) (fun q15 => ?_)
    · refine aw_sub (lo' := [(0, .ref 4), (1, .int v1_4), (2, .int v2_4)]) [0, 1, 2] rfl ?_
      exact hkx4_35 _ _
    · refine aw_aload_n d_Fp_twice_18 0 rfl ?_
      refine aw_iload_n d_Fp_twice_19 2 rfl ?_
      refine aw_V_p (As := [.int v2_4]) (m_Fp_missing) cv_Fp_289 kd_4 rfl rfl rfl (Nat.le_of_ble_eq_true rfl) ⟨Nat.le_of_ble_eq_true rfl, Nat.le_of_ble_eq_true rfl⟩ ⟨Nat.le_refl _, Nat.le_refl _⟩ d_Fp_twice_20 (fun y20 => ?_)
      refine aw_if_le (tgt := 29) d_Fp_twice_23 rfl (fun q23 => ?_) (fun q23 => ?_)
      · refine aw_iinc (v := (v2_4 + (1 : Int32))) (lo' := [(2, .int (v2_4 + (1 : Int32))), (0, .ref 4), (1, .int v1_4)]) d_Fp_twice_29 2 rfl (by rw [show Int32.ofInt (1) = (1 : Int32) from by decide]) (by decide) rfl ?_
        refine aw_goto (tgt := 4) d_Fp_twice_32 rfl ?_
        refine aw_sub (lo' := [(0, .ref 4), (1, .int v1_4), (2, .int (v2_4 + (1 : Int32)))]) [1, 2, 0] rfl ?_
        exact ih _ _
      · refine aw_iinc (v := (v1_4 + (1 : Int32))) (lo' := [(1, .int (v1_4 + (1 : Int32))), (0, .ref 4), (2, .int v2_4)]) d_Fp_twice_26 1 rfl (by rw [show Int32.ofInt (1) = (1 : Int32) from by decide]) (by decide) rfl ?_
        refine aw_iinc (v := (v2_4 + (1 : Int32))) (lo' := [(2, .int (v2_4 + (1 : Int32))), (1, .int (v1_4 + (1 : Int32))), (0, .ref 4)]) d_Fp_twice_29 2 rfl (by rw [show Int32.ofInt (1) = (1 : Int32) from by decide]) (by decide) rfl ?_
        refine aw_goto (tgt := 4) d_Fp_twice_32 rfl ?_
        refine aw_sub (lo' := [(0, .ref 4), (1, .int (v1_4 + (1 : Int32))), (2, .int (v2_4 + (1 : Int32)))]) [2, 1, 0] rfl ?_
        exact ih _ _
def f_Fp_twice (δ : Dm) : Option Int32 := (lp_Fp_twice_4 (fun v1_4x v2_4x => (some v1_4x)) δ FU (0 : Int32) (0 : Int32))
set_option maxHeartbeats 4000000 in
set_option maxRecDepth 100000 in
theorem m_Fp_twice {δ : Dm} {n : Nat} : ∀ x, f_Fp_twice δ = some x → AMet k_Fp_twice 5 0 0 [.ref 4] δ RT n (Kp δ RT n x) := by
  refine aw_start (lo := [(0, .ref 4)]) mok_Fp_twice rfl (Nat.le_of_ble_eq_true rfl) ?_
  unfold f_Fp_twice
  refine aw_iconst d_Fp_twice_0 ki_0 ?_
  refine aw_istore_n (lo' := [(1, .int (0 : Int32)), (0, .ref 4)]) d_Fp_twice_1 rfl (by decide) rfl ?_
  refine aw_iconst d_Fp_twice_2 ki_0 ?_
  refine aw_istore_n (lo' := [(2, .int (0 : Int32)), (1, .int (0 : Int32)), (0, .ref 4)]) d_Fp_twice_3 rfl (by decide) rfl ?_
  refine aw_sub (lo' := [(0, .ref 4), (1, .int (0 : Int32)), (2, .int (0 : Int32))]) [2, 1, 0] rfl ?_
  refine tl_Fp_twice_4 _ _ (fun v1_4x v2_4x => ?_) FU _ _
  · refine aw_iload_n d_Fp_twice_35 1 rfl ?_
    exact aw_iret rfl rfl ⟨Nat.le_refl _, Nat.le_refl _⟩ d_Fp_twice_36
def lp_Fp_unfairOf_4 (kx4_53 : Int32 → Int32 → Option Int32) (a1 : Int32) (δ : Dm) : Nat → Int32 → Int32 → Option Int32
  | 0, _, _ => none
  | f + 1, v2_4, v3_4 => (if (gI δ 45 1) ≤ v3_4 then (kx4_53 v2_4 v3_4) else ((f_Fp_get 51 v3_4 δ).bind (fun y29 => (if y29 = a1 then ((f_Fp_missing v3_4 δ).bind (fun y38 => (if y38 < 0 then (lp_Fp_unfairOf_4 kx4_53 a1 δ f v2_4 (v3_4 + (1 : Int32))) else (lp_Fp_unfairOf_4 kx4_53 a1 δ f (v2_4 + (1 : Int32)) (v3_4 + (1 : Int32)))))) else (lp_Fp_unfairOf_4 kx4_53 a1 δ f v2_4 (v3_4 + (1 : Int32)))))))
set_option maxHeartbeats 4000000 in
set_option maxRecDepth 100000 in
theorem tl_Fp_unfairOf_4 {n : Nat} (kx4_53 : Int32 → Int32 → Option Int32) (a1 : Int32) (δ : Dm) (hkx4_53 : ∀ v2_4k v3_4k, AWo k_Fp_unfairOf 5 0 0 53 [(0, .ref 4), (1, .int a1), (2, .int v2_4k), (3, .int v3_4k)] [] δ RT n 0 0 (Kp δ RT n) (kx4_53 v2_4k v3_4k)) : ∀ (f : Nat) (v2_4 : Int32) (v3_4 : Int32), AWo k_Fp_unfairOf 5 0 0 4 [(0, .ref 4), (1, .int a1), (2, .int v2_4), (3, .int v3_4)] [] δ RT n 0 0 (Kp δ RT n) (lp_Fp_unfairOf_4 kx4_53 a1 δ f v2_4 v3_4) := by
  intro f
  induction f with
  | zero => intro _ _; exact aw_none
  | succ f ih =>
    intro v2_4 v3_4
    rw [lp_Fp_unfairOf_4]
    refine aw_iload_n d_Fp_unfairOf_4 3 rfl ?_
    refine aw_aload_n d_Fp_unfairOf_5 0 rfl ?_
    refine aw_getR (t := 29) fl_Fp_57 kd_4 rt_4_9 d_Fp_unfairOf_6 ?_
    refine aw_getR (t := 45) fl_Fp_250 kd_29 rt_29_8 d_Fp_unfairOf_9 ?_
    refine aw_getI fl_Fp_283 kd_45 d_Fp_unfairOf_12 ?_
    refine aw_icmp_ge (tgt := 53) d_Fp_unfairOf_15 rfl (fun q15 => ?_) (fun q15 => ?_)
    · refine aw_sub (lo' := [(0, .ref 4), (1, .int a1), (2, .int v2_4), (3, .int v3_4)]) [0, 1, 2, 3] rfl ?_
      exact hkx4_53 _ _
    · refine aw_aload_n d_Fp_unfairOf_18 0 rfl ?_
      refine aw_getR (t := 29) fl_Fp_57 kd_4 rt_4_9 d_Fp_unfairOf_19 ?_
      refine aw_getR (t := 45) fl_Fp_250 kd_29 rt_29_8 d_Fp_unfairOf_22 ?_
      refine aw_getR (t := 51) fl_Fp_392 kd_45 rt_45_7 d_Fp_unfairOf_25 ?_
      refine aw_iload_n d_Fp_unfairOf_28 3 rfl ?_
      refine aw_S_p (As := [.ref 51, .int v3_4]) (m_Fp_get (congrArg Prod.fst kd_51)) cs_Fp_98 rfl rfl (Nat.le_of_ble_eq_true rfl) ⟨Nat.le_of_ble_eq_true rfl, Nat.le_of_ble_eq_true rfl⟩ ⟨Nat.le_refl _, Nat.le_refl _⟩ d_Fp_unfairOf_29 (fun y29 => ?_)
      refine aw_iload_n d_Fp_unfairOf_32 1 rfl ?_
      refine aw_icmp_ne (tgt := 47) d_Fp_unfairOf_33 rfl (fun q33 => ?_) (fun q33 => ?_)
      · refine aw_aload_n d_Fp_unfairOf_36 0 rfl ?_
        refine aw_iload_n d_Fp_unfairOf_37 3 rfl ?_
        refine aw_V_p (As := [.int v3_4]) (m_Fp_missing) cv_Fp_289 kd_4 rfl rfl rfl (Nat.le_of_ble_eq_true rfl) ⟨Nat.le_of_ble_eq_true rfl, Nat.le_of_ble_eq_true rfl⟩ ⟨Nat.le_refl _, Nat.le_refl _⟩ d_Fp_unfairOf_38 (fun y38 => ?_)
        refine aw_if_lt (tgt := 47) d_Fp_unfairOf_41 rfl (fun q41 => ?_) (fun q41 => ?_)
        · refine aw_iinc (v := (v3_4 + (1 : Int32))) (lo' := [(3, .int (v3_4 + (1 : Int32))), (0, .ref 4), (1, .int a1), (2, .int v2_4)]) d_Fp_unfairOf_47 3 rfl (by rw [show Int32.ofInt (1) = (1 : Int32) from by decide]) (by decide) rfl ?_
          refine aw_goto (tgt := 4) d_Fp_unfairOf_50 rfl ?_
          refine aw_sub (lo' := [(0, .ref 4), (1, .int a1), (2, .int v2_4), (3, .int (v3_4 + (1 : Int32)))]) [1, 2, 3, 0] rfl ?_
          exact ih _ _
        · refine aw_iinc (v := (v2_4 + (1 : Int32))) (lo' := [(2, .int (v2_4 + (1 : Int32))), (0, .ref 4), (1, .int a1), (3, .int v3_4)]) d_Fp_unfairOf_44 2 rfl (by rw [show Int32.ofInt (1) = (1 : Int32) from by decide]) (by decide) rfl ?_
          refine aw_iinc (v := (v3_4 + (1 : Int32))) (lo' := [(3, .int (v3_4 + (1 : Int32))), (2, .int (v2_4 + (1 : Int32))), (0, .ref 4), (1, .int a1)]) d_Fp_unfairOf_47 3 rfl (by rw [show Int32.ofInt (1) = (1 : Int32) from by decide]) (by decide) rfl ?_
          refine aw_goto (tgt := 4) d_Fp_unfairOf_50 rfl ?_
          refine aw_sub (lo' := [(0, .ref 4), (1, .int a1), (2, .int (v2_4 + (1 : Int32))), (3, .int (v3_4 + (1 : Int32)))]) [2, 3, 1, 0] rfl ?_
          exact ih _ _
      · refine aw_iinc (v := (v3_4 + (1 : Int32))) (lo' := [(3, .int (v3_4 + (1 : Int32))), (0, .ref 4), (1, .int a1), (2, .int v2_4)]) d_Fp_unfairOf_47 3 rfl (by rw [show Int32.ofInt (1) = (1 : Int32) from by decide]) (by decide) rfl ?_
        refine aw_goto (tgt := 4) d_Fp_unfairOf_50 rfl ?_
        refine aw_sub (lo' := [(0, .ref 4), (1, .int a1), (2, .int v2_4), (3, .int (v3_4 + (1 : Int32)))]) [1, 2, 3, 0] rfl ?_
        exact ih _ _
def f_Fp_unfairOf (a1 : Int32) (δ : Dm) : Option Int32 := (lp_Fp_unfairOf_4 (fun v2_4x v3_4x => (some v2_4x)) a1 δ FU (0 : Int32) (0 : Int32))
set_option maxHeartbeats 4000000 in
set_option maxRecDepth 100000 in
theorem m_Fp_unfairOf {a1 : Int32} {δ : Dm} {n : Nat} : ∀ x, f_Fp_unfairOf a1 δ = some x → AMet k_Fp_unfairOf 5 0 0 [.ref 4, .int a1] δ RT n (Kp δ RT n x) := by
  refine aw_start (lo := [(0, .ref 4), (1, .int a1)]) mok_Fp_unfairOf rfl (Nat.le_of_ble_eq_true rfl) ?_
  unfold f_Fp_unfairOf
  refine aw_iconst d_Fp_unfairOf_0 ki_0 ?_
  refine aw_istore_n (lo' := [(2, .int (0 : Int32)), (0, .ref 4), (1, .int a1)]) d_Fp_unfairOf_1 rfl (by decide) rfl ?_
  refine aw_iconst d_Fp_unfairOf_2 ki_0 ?_
  refine aw_istore_n (lo' := [(3, .int (0 : Int32)), (2, .int (0 : Int32)), (0, .ref 4), (1, .int a1)]) d_Fp_unfairOf_3 rfl (by decide) rfl ?_
  refine aw_sub (lo' := [(0, .ref 4), (1, .int a1), (2, .int (0 : Int32)), (3, .int (0 : Int32))]) [2, 3, 1, 0] rfl ?_
  refine tl_Fp_unfairOf_4 _ _ _ (fun v2_4x v3_4x => ?_) FU _ _
  · refine aw_iload_n d_Fp_unfairOf_53 2 rfl ?_
    exact aw_iret rfl rfl ⟨Nat.le_refl _, Nat.le_refl _⟩ d_Fp_unfairOf_54
def lp_Fp_suspect_29 (kx29_62 : Int32 → Int32 → Int32 → Option Int32) (a1 : Int32) (δ : Dm) : Nat → Int32 → Int32 → Int32 → Option Int32
  | 0, _, _, _ => none
  | f + 1, v2_29, v3_29, v4_29 => (if (32 : Int32) ≤ v4_29 then (kx29_62 v2_29 v3_29 v4_29) else ((f_Fp_unfairOf v4_29 δ).bind (fun y39 => (if y39 ≤ v3_29 then (lp_Fp_suspect_29 kx29_62 a1 δ f v2_29 v3_29 (v4_29 + (1 : Int32))) else (lp_Fp_suspect_29 kx29_62 a1 δ f v4_29 y39 (v4_29 + (1 : Int32)))))))
set_option maxHeartbeats 4000000 in
set_option maxRecDepth 100000 in
theorem tl_Fp_suspect_29 {n : Nat} (kx29_62 : Int32 → Int32 → Int32 → Option Int32) (a1 : Int32) (δ : Dm) (hkx29_62 : ∀ v2_29k v3_29k v4_29k, AWo k_Fp_suspect 6 0 0 62 [(0, .ref 4), (1, .int a1), (2, .int v2_29k), (3, .int v3_29k), (4, .int v4_29k)] [] δ RT n 0 0 (Kp δ RT n) (kx29_62 v2_29k v3_29k v4_29k)) : ∀ (f : Nat) (v2_29 : Int32) (v3_29 : Int32) (v4_29 : Int32), AWo k_Fp_suspect 6 0 0 29 [(0, .ref 4), (1, .int a1), (2, .int v2_29), (3, .int v3_29), (4, .int v4_29)] [] δ RT n 0 0 (Kp δ RT n) (lp_Fp_suspect_29 kx29_62 a1 δ f v2_29 v3_29 v4_29) := by
  intro f
  induction f with
  | zero => intro _ _ _; exact aw_none
  | succ f ih =>
    intro v2_29 v3_29 v4_29
    rw [lp_Fp_suspect_29]
    refine aw_iload d_Fp_suspect_29 4 rfl ?_
    refine aw_bipush d_Fp_suspect_31 kb_32 ?_
    refine aw_icmp_ge (tgt := 62) d_Fp_suspect_33 rfl (fun q33 => ?_) (fun q33 => ?_)
    · refine aw_sub (lo' := [(0, .ref 4), (1, .int a1), (2, .int v2_29), (3, .int v3_29), (4, .int v4_29)]) [0, 1, 2, 3, 4] rfl ?_
      exact hkx29_62 _ _ _
    · refine aw_aload_n d_Fp_suspect_36 0 rfl ?_
      refine aw_iload d_Fp_suspect_37 4 rfl ?_
      refine aw_V_p (As := [.int v4_29]) (m_Fp_unfairOf) cv_Fp_300 kd_4 rfl rfl rfl (Nat.le_of_ble_eq_true rfl) ⟨Nat.le_of_ble_eq_true rfl, Nat.le_of_ble_eq_true rfl⟩ ⟨Nat.le_refl _, Nat.le_refl _⟩ d_Fp_suspect_39 (fun y39 => ?_)
      refine aw_istore (lo' := [(5, .int y39), (0, .ref 4), (1, .int a1), (2, .int v2_29), (3, .int v3_29), (4, .int v4_29)]) d_Fp_suspect_42 (by decide) rfl ?_
      refine aw_iload d_Fp_suspect_44 0 rfl ?_
      refine aw_iload_n d_Fp_suspect_46 4 rfl ?_
      refine aw_icmp_le (tgt := 56) d_Fp_suspect_47 rfl (fun q47 => ?_) (fun q47 => ?_)
      · refine aw_iinc (v := (v4_29 + (1 : Int32))) (lo' := [(4, .int (v4_29 + (1 : Int32))), (5, .int y39), (0, .ref 4), (1, .int a1), (2, .int v2_29), (3, .int v3_29)]) d_Fp_suspect_56 5 rfl (by rw [show Int32.ofInt (1) = (1 : Int32) from by decide]) (by decide) rfl ?_
        refine aw_goto (tgt := 29) d_Fp_suspect_59 rfl ?_
        refine aw_sub (lo' := [(0, .ref 4), (1, .int a1), (2, .int v2_29), (3, .int v3_29), (4, .int (v4_29 + (1 : Int32)))]) [2, 3, 4, 5, 0] rfl ?_
        exact ih _ _ _
      · refine aw_iload d_Fp_suspect_50 0 rfl ?_
        refine aw_istore_n (lo' := [(3, .int y39), (5, .int y39), (0, .ref 4), (1, .int a1), (2, .int v2_29), (4, .int v4_29)]) d_Fp_suspect_52 rfl (by decide) rfl ?_
        refine aw_iload d_Fp_suspect_53 5 rfl ?_
        refine aw_istore_n (lo' := [(2, .int v4_29), (3, .int y39), (5, .int y39), (0, .ref 4), (1, .int a1), (4, .int v4_29)]) d_Fp_suspect_55 rfl (by decide) rfl ?_
        refine aw_iinc (v := (v4_29 + (1 : Int32))) (lo' := [(4, .int (v4_29 + (1 : Int32))), (2, .int v4_29), (3, .int y39), (5, .int y39), (0, .ref 4), (1, .int a1)]) d_Fp_suspect_56 5 rfl (by rw [show Int32.ofInt (1) = (1 : Int32) from by decide]) (by decide) rfl ?_
        refine aw_goto (tgt := 29) d_Fp_suspect_59 rfl ?_
        refine aw_sub (lo' := [(0, .ref 4), (1, .int a1), (2, .int v4_29), (3, .int y39), (4, .int (v4_29 + (1 : Int32)))]) [4, 5, 1, 2, 0] rfl ?_
        exact ih _ _ _
def f_Fp_suspect (a1 : Int32) (δ : Dm) : Option Int32 := ((f_Fp_within a1 (0 : Int32) (2 : Int32) δ).bind (fun y3 => (if y3 = 0 then (some (-1 : Int32)) else (if a1 = (2 : Int32) then ((f_Fp_twice δ).bind (fun y17 => (some y17))) else (lp_Fp_suspect_29 (fun v2_29x v3_29x v4_29x => (if a1 = 0 then (some v2_29x) else (some v3_29x))) a1 δ FU (-2 : Int32) (0 : Int32) (0 : Int32))))))
set_option maxHeartbeats 4000000 in
set_option maxRecDepth 100000 in
theorem m_Fp_suspect {a1 : Int32} {δ : Dm} {n : Nat} : ∀ x, f_Fp_suspect a1 δ = some x → AMet k_Fp_suspect 6 0 0 [.ref 4, .int a1] δ RT n (Kp δ RT n x) := by
  refine aw_start (lo := [(0, .ref 4), (1, .int a1)]) mok_Fp_suspect rfl (Nat.le_of_ble_eq_true rfl) ?_
  unfold f_Fp_suspect
  refine aw_iload_n d_Fp_suspect_0 1 rfl ?_
  refine aw_iconst d_Fp_suspect_1 ki_0 ?_
  refine aw_iconst d_Fp_suspect_2 ki_2 ?_
  refine aw_S_p (As := [.int a1, .int (0 : Int32), .int (2 : Int32)]) (m_Fp_within) cs_Fp_70 rfl rfl (Nat.le_of_ble_eq_true rfl) ⟨Nat.le_of_ble_eq_true rfl, Nat.le_of_ble_eq_true rfl⟩ ⟨Nat.le_refl _, Nat.le_refl _⟩ d_Fp_suspect_3 (fun y3 => ?_)
  refine aw_if_ne (tgt := 11) d_Fp_suspect_6 rfl (fun q6 => ?_) (fun q6 => ?_)
  · refine aw_iconst d_Fp_suspect_9 ki_m1 ?_
    exact aw_iret rfl rfl ⟨Nat.le_refl _, Nat.le_refl _⟩ d_Fp_suspect_10
  · refine aw_iload_n d_Fp_suspect_11 1 rfl ?_
    refine aw_iconst d_Fp_suspect_12 ki_2 ?_
    refine aw_icmp_ne (tgt := 21) d_Fp_suspect_13 rfl (fun q13 => ?_) (fun q13 => ?_)
    · refine aw_aload_n d_Fp_suspect_16 0 rfl ?_
      refine aw_V_p (As := []) (m_Fp_twice) cv_Fp_296 kd_4 rfl rfl rfl (Nat.le_of_ble_eq_true rfl) ⟨Nat.le_of_ble_eq_true rfl, Nat.le_of_ble_eq_true rfl⟩ ⟨Nat.le_refl _, Nat.le_refl _⟩ d_Fp_suspect_17 (fun y17 => ?_)
      exact aw_iret rfl rfl ⟨Nat.le_refl _, Nat.le_refl _⟩ d_Fp_suspect_20
    · refine aw_bipush d_Fp_suspect_21 kb_m2 ?_
      refine aw_istore_n (lo' := [(2, .int (-2 : Int32)), (0, .ref 4), (1, .int a1)]) d_Fp_suspect_23 rfl (by decide) rfl ?_
      refine aw_iconst d_Fp_suspect_24 ki_0 ?_
      refine aw_istore_n (lo' := [(3, .int (0 : Int32)), (2, .int (-2 : Int32)), (0, .ref 4), (1, .int a1)]) d_Fp_suspect_25 rfl (by decide) rfl ?_
      refine aw_iconst d_Fp_suspect_26 ki_0 ?_
      refine aw_istore (lo' := [(4, .int (0 : Int32)), (3, .int (0 : Int32)), (2, .int (-2 : Int32)), (0, .ref 4), (1, .int a1)]) d_Fp_suspect_27 (by decide) rfl ?_
      refine aw_sub (lo' := [(0, .ref 4), (1, .int a1), (2, .int (-2 : Int32)), (3, .int (0 : Int32)), (4, .int (0 : Int32))]) [3, 4, 2, 1, 0] rfl ?_
      refine tl_Fp_suspect_29 _ _ _ (fun v2_29x v3_29x v4_29x => ?_) FU _ _ _
      · refine aw_iload_n d_Fp_suspect_62 1 rfl ?_
        refine aw_if_ne (tgt := 70) d_Fp_suspect_63 rfl (fun q63 => ?_) (fun q63 => ?_)
        · refine aw_iload_n d_Fp_suspect_66 2 rfl ?_
          refine aw_goto (tgt := 71) d_Fp_suspect_67 rfl ?_
          exact aw_iret rfl rfl ⟨Nat.le_refl _, Nat.le_refl _⟩ d_Fp_suspect_71
        · refine aw_iload_n d_Fp_suspect_70 3 rfl ?_
          exact aw_iret rfl rfl ⟨Nat.le_refl _, Nat.le_refl _⟩ d_Fp_suspect_71
def f_Fp_isRefused (a1 : Nat) (a2 : Int32) (δ : Dm) : Option (Int32 × Dm) := ((f_Fp_get 35 a2 δ).bind (fun y17 => ((f_To_boothAt y17 δ).bind (fun o20 => ocs o20 (some ((0 : Int32), δ)) (fun t20 => if isB t20 = true then ((f_Fp_get 37 a2 δ).bind (fun y35 => (if y35 = 0 then ((f_Fp_get 36 a2 δ).bind (fun y58 => ((f_Fa_open t20 y58 δ).bind (fun y61 => ((f_Fp_get 38 a2 y61).bind (fun y73 => ((f_Fp_get 39 a2 y61).bind (fun y81 => ((f_Fa_pose y73 y81 y61).bind (fun y84 => ((f_La_holds a1 (14 : Int32) y84).bind (fun y94 => bnd y94.1 (fun v94 => bnd y94.2 (fun δ_94 => (if v94 = 0 ∨ v94 = 1 then (some (v94, δ_94)) else none))))))))))))))) else (some ((0 : Int32), δ))))) else none)))))
set_option maxHeartbeats 4000000 in
set_option maxRecDepth 100000 in
theorem m_Fp_isRefused {a1 : Nat} {a2 : Int32} {δ : Dm} {n : Nat} (ha1 : isL a1 = true) : ∀ x, f_Fp_isRefused a1 a2 δ = some x → AMet k_Fp_isRefused 4 0 0 [.ref 4, .ref a1, .int a2] δ RT n (Km RT n x) := by
  refine aw_start (lo := [(0, .ref 4), (1, .ref a1), (2, .int a2)]) mok_Fp_isRefused rfl (Nat.le_of_ble_eq_true rfl) ?_
  unfold f_Fp_isRefused
  refine aw_aload_n d_Fp_isRefused_0 0 rfl ?_
  refine aw_getR (t := 29) fl_Fp_57 kd_4 rt_4_9 d_Fp_isRefused_1 ?_
  refine aw_getR (t := 34) fl_Fp_148 kd_29 rt_29_7 d_Fp_isRefused_4 ?_
  refine aw_astore_n (lo' := [(3, .ref 34), (0, .ref 4), (1, .ref a1), (2, .int a2)]) d_Fp_isRefused_7 rfl (by decide) rfl ?_
  refine aw_aload_n d_Fp_isRefused_8 1 rfl ?_
  refine aw_getR (t := 29) fl_Fp_57 kd_4 rt_4_9 d_Fp_isRefused_9 ?_
  refine aw_aload_n d_Fp_isRefused_12 0 rfl ?_
  refine aw_getR (t := 35) fl_Fp_307 kd_34 rt_34_3 d_Fp_isRefused_13 ?_
  refine aw_iload_n d_Fp_isRefused_16 3 rfl ?_
  refine aw_S_p (As := [.ref 35, .int a2]) (m_Fp_get (congrArg Prod.fst kd_35)) cs_Fp_98 rfl rfl (Nat.le_of_ble_eq_true rfl) ⟨Nat.le_of_ble_eq_true rfl, Nat.le_of_ble_eq_true rfl⟩ ⟨Nat.le_refl _, Nat.le_refl _⟩ d_Fp_isRefused_17 (fun y17 => ?_)
  refine aw_V_r (As := [.int y17]) (m_To_boothAt) cv_Fp_139 kd_29 rfl rfl rfl (Nat.le_of_ble_eq_true rfl) ⟨Nat.le_of_ble_eq_true rfl, Nat.le_of_ble_eq_true rfl⟩ ⟨Nat.le_refl _, Nat.le_refl _⟩ d_Fp_isRefused_20 ?_ (fun t20 => ?_)
  · refine aw_astoreN (lo' := [(4, .null), (3, .ref 34), (0, .ref 4), (1, .ref a1), (2, .int a2)]) d_Fp_isRefused_23 (by decide) rfl ?_
    refine aw_aloadN d_Fp_isRefused_25 0 rfl ?_
    refine aw_ifnullN (tgt := 41) d_Fp_isRefused_27 rfl ?_
    refine aw_iconst d_Fp_isRefused_41 ki_0 ?_
    exact aw_zret rfl rfl rfl ⟨Nat.le_refl _, Nat.le_refl _⟩ d_Fp_isRefused_42
  · refine aw_grd (fun ht20 => ?_)
    refine aw_astore (lo' := [(4, .ref t20), (3, .ref 34), (0, .ref 4), (1, .ref a1), (2, .int a2)]) d_Fp_isRefused_23 (by decide) rfl ?_
    refine aw_aload d_Fp_isRefused_25 0 rfl ?_
    refine aw_ifnull d_Fp_isRefused_27 ?_
    refine aw_aload_n d_Fp_isRefused_30 1 rfl ?_
    refine aw_getR (t := 37) fl_Fp_228 kd_34 rt_34_5 d_Fp_isRefused_31 ?_
    refine aw_iload_n d_Fp_isRefused_34 4 rfl ?_
    refine aw_S_p (As := [.ref 37, .int a2]) (m_Fp_get (congrArg Prod.fst kd_37)) cs_Fp_98 rfl rfl (Nat.le_of_ble_eq_true rfl) ⟨Nat.le_of_ble_eq_true rfl, Nat.le_of_ble_eq_true rfl⟩ ⟨Nat.le_refl _, Nat.le_refl _⟩ d_Fp_isRefused_35 (fun y35 => ?_)
    refine aw_if_eq (tgt := 43) d_Fp_isRefused_38 rfl (fun q38 => ?_) (fun q38 => ?_)
    · refine aw_aload_n d_Fp_isRefused_43 2 rfl ?_
      refine aw_getR (t := 19) fl_Fp_29 kd_4 rt_4_5 d_Fp_isRefused_44 ?_
      refine aw_aload_n d_Fp_isRefused_47 2 rfl ?_
      refine aw_getR (t := 29) fl_Fp_57 kd_4 rt_4_9 d_Fp_isRefused_48 ?_
      refine aw_aload d_Fp_isRefused_51 0 rfl ?_
      refine aw_aload_n d_Fp_isRefused_53 1 rfl ?_
      refine aw_getR (t := 36) fl_Fp_395 kd_34 rt_34_4 d_Fp_isRefused_54 ?_
      refine aw_iload_n d_Fp_isRefused_57 4 rfl ?_
      refine aw_S_p (As := [.ref 36, .int a2]) (m_Fp_get (congrArg Prod.fst kd_36)) cs_Fp_98 rfl rfl (Nat.le_of_ble_eq_true rfl) ⟨Nat.le_of_ble_eq_true rfl, Nat.le_of_ble_eq_true rfl⟩ ⟨Nat.le_refl _, Nat.le_refl _⟩ d_Fp_isRefused_58 (fun y58 => ?_)
      refine aw_V_v (As := [.ref 29, .ref t20, .int y58]) (m_Fa_open ht20) cv_Fp_160 kd_19 rfl rfl rfl (Nat.le_of_ble_eq_true rfl) ⟨Nat.le_of_ble_eq_true rfl, Nat.le_of_ble_eq_true rfl⟩ ⟨Nat.le_refl _, Nat.le_refl _⟩ d_Fp_isRefused_61 (fun y61 => ?_)
      refine aw_aload_n d_Fp_isRefused_64 2 rfl ?_
      refine aw_getR (t := 19) fl_Fp_29 kd_4 rt_4_5 d_Fp_isRefused_65 ?_
      refine aw_aload_n d_Fp_isRefused_68 1 rfl ?_
      refine aw_getR (t := 38) fl_Fp_398 kd_34 rt_34_6 d_Fp_isRefused_69 ?_
      refine aw_iload_n d_Fp_isRefused_72 4 rfl ?_
      refine aw_S_p (As := [.ref 38, .int a2]) (m_Fp_get (congrArg Prod.fst kd_38)) cs_Fp_98 rfl rfl (Nat.le_of_ble_eq_true rfl) ⟨Nat.le_of_ble_eq_true rfl, Nat.le_of_ble_eq_true rfl⟩ ⟨Nat.le_refl _, Nat.le_refl _⟩ d_Fp_isRefused_73 (fun y73 => ?_)
      refine aw_aload_n d_Fp_isRefused_76 1 rfl ?_
      refine aw_getR (t := 39) fl_Fp_401 kd_34 rt_34_7 d_Fp_isRefused_77 ?_
      refine aw_iload_n d_Fp_isRefused_80 4 rfl ?_
      refine aw_S_p (As := [.ref 39, .int a2]) (m_Fp_get (congrArg Prod.fst kd_39)) cs_Fp_98 rfl rfl (Nat.le_of_ble_eq_true rfl) ⟨Nat.le_of_ble_eq_true rfl, Nat.le_of_ble_eq_true rfl⟩ ⟨Nat.le_refl _, Nat.le_refl _⟩ d_Fp_isRefused_81 (fun y81 => ?_)
      refine aw_V_v (As := [.int y73, .int y81]) (m_Fa_pose) cv_Fp_164 kd_19 rfl rfl rfl (Nat.le_of_ble_eq_true rfl) ⟨Nat.le_of_ble_eq_true rfl, Nat.le_of_ble_eq_true rfl⟩ ⟨Nat.le_refl _, Nat.le_refl _⟩ d_Fp_isRefused_84 (fun y84 => ?_)
      refine aw_aload_n d_Fp_isRefused_87 3 rfl ?_
      refine aw_bipush d_Fp_isRefused_88 kb_14 ?_
      refine aw_aload_n d_Fp_isRefused_90 2 rfl ?_
      refine aw_getR (t := 19) fl_Fp_29 kd_4 rt_4_5 d_Fp_isRefused_91 ?_
      refine aw_V_m (As := [.int (14 : Int32), .ref 19]) (m_La_holds ha1) cv_Fp_388 (fx_isLK ha1 0 (by decide)) rfl rfl rfl (Nat.le_of_ble_eq_true rfl) ⟨Nat.le_of_ble_eq_true rfl, Nat.le_of_ble_eq_true rfl⟩ ⟨Nat.le_refl _, Nat.le_refl _⟩ d_Fp_isRefused_94 (fun y94 => ?_)
      refine aw_bI (fun v94 => ?_)
      refine aw_bD (fun δ_94 => ?_)
      exact aw_zr2 rfl rfl ⟨Nat.le_refl _, Nat.le_refl _⟩ d_Fp_isRefused_97
    · refine aw_iconst d_Fp_isRefused_41 ki_0 ?_
      exact aw_zret rfl rfl rfl ⟨Nat.le_refl _, Nat.le_refl _⟩ d_Fp_isRefused_42
def lp_Fp_refused_29 (kx29_79 : Int32 → Int32 → Dm → Option (Int32 × Dm)) (a1 : Int32) (a2 : Int32) (t2 : Nat) : Nat → Int32 → Int32 → Dm → Option (Int32 × Dm)
  | 0, _, _, _ => none
  | f + 1, v4_29, v5_29, δ29 => (if (gI δ29 34 0) ≤ v5_29 then (kx29_79 v4_29 v5_29 δ29) else ((f_Di_isOf v5_29 a2 δ29).bind (fun y54 => (if y54 = 0 then (lp_Fp_refused_29 kx29_79 a1 a2 t2 f v4_29 (v5_29 + (1 : Int32)) δ29) else ((f_Fp_isRefused t2 v5_29 δ29).bind (fun y64 => bnd y64.1 (fun v64 => bnd y64.2 (fun δ_64 => (if v64 = 0 then (lp_Fp_refused_29 kx29_79 a1 a2 t2 f v4_29 (v5_29 + (1 : Int32)) δ_64) else (lp_Fp_refused_29 kx29_79 a1 a2 t2 f (v4_29 + (1 : Int32)) (v5_29 + (1 : Int32)) δ_64))))))))))
set_option maxHeartbeats 4000000 in
set_option maxRecDepth 100000 in
theorem tl_Fp_refused_29 {n : Nat} (kx29_79 : Int32 → Int32 → Dm → Option (Int32 × Dm)) (a1 : Int32) (a2 : Int32) (t2 : Nat) (ht2 : isL t2 = true) (hkx29_79 : ∀ v4_29k v5_29k δ29k, AWo k_Fp_refused 5 0 0 79 [(0, .ref 4), (1, .int a1), (2, .int a2), (3, .ref t2), (4, .int v4_29k), (5, .int v5_29k)] [] δ29k RT n 0 0 (Km RT n) (kx29_79 v4_29k v5_29k δ29k)) : ∀ (f : Nat) (v4_29 : Int32) (v5_29 : Int32) (δ29 : Dm), AWo k_Fp_refused 5 0 0 29 [(0, .ref 4), (1, .int a1), (2, .int a2), (3, .ref t2), (4, .int v4_29), (5, .int v5_29)] [] δ29 RT n 0 0 (Km RT n) (lp_Fp_refused_29 kx29_79 a1 a2 t2 f v4_29 v5_29 δ29) := by
  intro f
  induction f with
  | zero => intro _ _ _; exact aw_none
  | succ f ih =>
    intro v4_29 v5_29 δ29
    rw [lp_Fp_refused_29]
    refine aw_iload d_Fp_refused_29 5 rfl ?_
    refine aw_aload_n d_Fp_refused_31 0 rfl ?_
    refine aw_getR (t := 29) fl_Fp_57 kd_4 rt_4_9 d_Fp_refused_32 ?_
    refine aw_getR (t := 34) fl_Fp_148 kd_29 rt_29_7 d_Fp_refused_35 ?_
    refine aw_getI fl_Fp_152 kd_34 d_Fp_refused_38 ?_
    refine aw_icmp_ge (tgt := 79) d_Fp_refused_41 rfl (fun q41 => ?_) (fun q41 => ?_)
    · refine aw_sub (lo' := [(0, .ref 4), (1, .int a1), (2, .int a2), (3, .ref t2), (4, .int v4_29), (5, .int v5_29)]) [0, 1, 2, 3, 4, 5] rfl ?_
      exact hkx29_79 _ _ _
    · refine aw_aload_n d_Fp_refused_44 0 rfl ?_
      refine aw_getR (t := 29) fl_Fp_57 kd_4 rt_4_9 d_Fp_refused_45 ?_
      refine aw_getR (t := 34) fl_Fp_148 kd_29 rt_29_7 d_Fp_refused_48 ?_
      refine aw_iload d_Fp_refused_51 5 rfl ?_
      refine aw_iload_n d_Fp_refused_53 2 rfl ?_
      refine aw_V_p (As := [.int v5_29, .int a2]) (m_Di_isOf) cv_Fp_224 kd_34 rfl rfl rfl (Nat.le_of_ble_eq_true rfl) ⟨Nat.le_of_ble_eq_true rfl, Nat.le_of_ble_eq_true rfl⟩ ⟨Nat.le_refl _, Nat.le_refl _⟩ d_Fp_refused_54 (fun y54 => ?_)
      refine aw_if_eq (tgt := 73) d_Fp_refused_57 rfl (fun q57 => ?_) (fun q57 => ?_)
      · refine aw_iinc (v := (v5_29 + (1 : Int32))) (lo' := [(5, .int (v5_29 + (1 : Int32))), (0, .ref 4), (1, .int a1), (2, .int a2), (3, .ref t2), (4, .int v4_29)]) d_Fp_refused_73 5 rfl (by rw [show Int32.ofInt (1) = (1 : Int32) from by decide]) (by decide) rfl ?_
        refine aw_goto (tgt := 29) d_Fp_refused_76 rfl ?_
        refine aw_sub (lo' := [(0, .ref 4), (1, .int a1), (2, .int a2), (3, .ref t2), (4, .int v4_29), (5, .int (v5_29 + (1 : Int32)))]) [1, 2, 3, 4, 5, 0] rfl ?_
        exact ih _ _ _
      · refine aw_aload_n d_Fp_refused_60 0 rfl ?_
        refine aw_aload_n d_Fp_refused_61 3 rfl ?_
        refine aw_iload d_Fp_refused_62 5 rfl ?_
        refine aw_V_m (As := [.ref t2, .int v5_29]) (m_Fp_isRefused ht2) cv_Fp_303 kd_4 rfl rfl rfl (Nat.le_of_ble_eq_true rfl) ⟨Nat.le_of_ble_eq_true rfl, Nat.le_of_ble_eq_true rfl⟩ ⟨Nat.le_refl _, Nat.le_refl _⟩ d_Fp_refused_64 (fun y64 => ?_)
        refine aw_bI (fun v64 => ?_)
        refine aw_bD (fun δ_64 => ?_)
        refine aw_if_eq (tgt := 73) d_Fp_refused_67 rfl (fun q67 => ?_) (fun q67 => ?_)
        · refine aw_iinc (v := (v5_29 + (1 : Int32))) (lo' := [(5, .int (v5_29 + (1 : Int32))), (0, .ref 4), (1, .int a1), (2, .int a2), (3, .ref t2), (4, .int v4_29)]) d_Fp_refused_73 5 rfl (by rw [show Int32.ofInt (1) = (1 : Int32) from by decide]) (by decide) rfl ?_
          refine aw_goto (tgt := 29) d_Fp_refused_76 rfl ?_
          refine aw_sub (lo' := [(0, .ref 4), (1, .int a1), (2, .int a2), (3, .ref t2), (4, .int v4_29), (5, .int (v5_29 + (1 : Int32)))]) [1, 2, 3, 4, 5, 0] rfl ?_
          exact ih _ _ _
        · refine aw_iinc (v := (v4_29 + (1 : Int32))) (lo' := [(4, .int (v4_29 + (1 : Int32))), (0, .ref 4), (1, .int a1), (2, .int a2), (3, .ref t2), (5, .int v5_29)]) d_Fp_refused_70 4 rfl (by rw [show Int32.ofInt (1) = (1 : Int32) from by decide]) (by decide) rfl ?_
          refine aw_iinc (v := (v5_29 + (1 : Int32))) (lo' := [(5, .int (v5_29 + (1 : Int32))), (4, .int (v4_29 + (1 : Int32))), (0, .ref 4), (1, .int a1), (2, .int a2), (3, .ref t2)]) d_Fp_refused_73 5 rfl (by rw [show Int32.ofInt (1) = (1 : Int32) from by decide]) (by decide) rfl ?_
          refine aw_goto (tgt := 29) d_Fp_refused_76 rfl ?_
          refine aw_sub (lo' := [(0, .ref 4), (1, .int a1), (2, .int a2), (3, .ref t2), (4, .int (v4_29 + (1 : Int32))), (5, .int (v5_29 + (1 : Int32)))]) [2, 3, 4, 5, 1, 0] rfl ?_
          exact ih _ _ _
def f_Fp_refused (a1 : Int32) (a2 : Int32) (δ : Dm) : Option (Int32 × Dm) := ((f_Fp_lawAt a1 δ).bind (fun o2 => ocs o2 (some ((-1 : Int32), δ)) (fun t2 => if isL t2 = true then ((f_To_isBoothOrAll a2 δ).bind (fun y15 => (if y15 = 0 then (some ((-1 : Int32), δ)) else (lp_Fp_refused_29 (fun v4_29x v5_29x δ29x => (some (v4_29x, δ29x))) a1 a2 t2 FU (0 : Int32) (0 : Int32) δ)))) else none)))
set_option maxHeartbeats 4000000 in
set_option maxRecDepth 100000 in
theorem m_Fp_refused {a1 : Int32} {a2 : Int32} {δ : Dm} {n : Nat} : ∀ x, f_Fp_refused a1 a2 δ = some x → AMet k_Fp_refused 5 0 0 [.ref 4, .int a1, .int a2] δ RT n (Km RT n x) := by
  refine aw_start (lo := [(0, .ref 4), (1, .int a1), (2, .int a2)]) mok_Fp_refused rfl (Nat.le_of_ble_eq_true rfl) ?_
  unfold f_Fp_refused
  refine aw_aload_n d_Fp_refused_0 0 rfl ?_
  refine aw_iload_n d_Fp_refused_1 1 rfl ?_
  refine aw_V_r (As := [.int a1]) (m_Fp_lawAt) cv_Fp_126 kd_4 rfl rfl rfl (Nat.le_of_ble_eq_true rfl) ⟨Nat.le_of_ble_eq_true rfl, Nat.le_of_ble_eq_true rfl⟩ ⟨Nat.le_refl _, Nat.le_refl _⟩ d_Fp_refused_2 ?_ (fun t2 => ?_)
  · refine aw_astoreN_n (lo' := [(3, .null), (0, .ref 4), (1, .int a1), (2, .int a2)]) d_Fp_refused_5 rfl (by decide) rfl ?_
    refine aw_aloadN_n d_Fp_refused_6 0 rfl ?_
    refine aw_ifnullN (tgt := 21) d_Fp_refused_7 rfl ?_
    refine aw_iconst d_Fp_refused_21 ki_m1 ?_
    exact aw_iret rfl rfl ⟨Nat.le_refl _, Nat.le_refl _⟩ d_Fp_refused_22
  · refine aw_grd (fun ht2 => ?_)
    refine aw_astore_n (lo' := [(3, .ref t2), (0, .ref 4), (1, .int a1), (2, .int a2)]) d_Fp_refused_5 rfl (by decide) rfl ?_
    refine aw_aload_n d_Fp_refused_6 0 rfl ?_
    refine aw_ifnull d_Fp_refused_7 ?_
    refine aw_aload_n d_Fp_refused_10 1 rfl ?_
    refine aw_getR (t := 29) fl_Fp_57 kd_4 rt_4_9 d_Fp_refused_11 ?_
    refine aw_iload_n d_Fp_refused_14 3 rfl ?_
    refine aw_V_p (As := [.int a2]) (m_To_isBoothOrAll) cv_Fp_218 kd_29 rfl rfl rfl (Nat.le_of_ble_eq_true rfl) ⟨Nat.le_of_ble_eq_true rfl, Nat.le_of_ble_eq_true rfl⟩ ⟨Nat.le_refl _, Nat.le_refl _⟩ d_Fp_refused_15 (fun y15 => ?_)
    refine aw_if_ne (tgt := 23) d_Fp_refused_18 rfl (fun q18 => ?_) (fun q18 => ?_)
    · refine aw_iconst d_Fp_refused_21 ki_m1 ?_
      exact aw_iret rfl rfl ⟨Nat.le_refl _, Nat.le_refl _⟩ d_Fp_refused_22
    · refine aw_iconst d_Fp_refused_23 ki_0 ?_
      refine aw_istore (lo' := [(4, .int (0 : Int32)), (3, .ref t2), (0, .ref 4), (1, .int a1), (2, .int a2)]) d_Fp_refused_24 (by decide) rfl ?_
      refine aw_iconst d_Fp_refused_26 ki_0 ?_
      refine aw_istore (lo' := [(5, .int (0 : Int32)), (4, .int (0 : Int32)), (3, .ref t2), (0, .ref 4), (1, .int a1), (2, .int a2)]) d_Fp_refused_27 (by decide) rfl ?_
      refine aw_sub (lo' := [(0, .ref 4), (1, .int a1), (2, .int a2), (3, .ref t2), (4, .int (0 : Int32)), (5, .int (0 : Int32))]) [3, 4, 5, 2, 1, 0] rfl ?_
      refine tl_Fp_refused_29 _ _ _ _ ht2 (fun v4_29x v5_29x δ29x => ?_) FU _ _ _
      · refine aw_iload d_Fp_refused_79 4 rfl ?_
        exact aw_iret rfl rfl ⟨Nat.le_refl _, Nat.le_refl _⟩ d_Fp_refused_81
def jp_Fp_newer_100 (kr32 : Int32 → Int32 → Dm → Option (Int32 × Dm)) (kx32_134 : Int32 → Int32 → Dm → Option (Int32 × Dm)) (a1 : Int32) (a2 : Int32) (t2 : Nat) (t8_1 : Nat) (v5_32 : Int32) (v6_32 : Int32) (t66 : Nat) (δ_85 : Dm) (s0_100 : Int32) : Option (Int32 × Dm) := (bnd (v5_32 + s0_100) (fun v101 => ((f_Fp_isRefused t8_1 v6_32 δ_85).bind (fun y110 => bnd y110.1 (fun v110 => bnd y110.2 (fun δ_110 => (if v110 = 0 then (bnd (v101 - (0 : Int32)) (fun v126 => (kr32 v126 (v6_32 + (1 : Int32)) δ_110))) else (bnd (v101 - (gI δ_110 t66 1)) (fun v126_1 => (kr32 v126_1 (v6_32 + (1 : Int32)) δ_110))))))))))
set_option maxHeartbeats 4000000 in
set_option maxRecDepth 100000 in
theorem tj_Fp_newer_100 {n : Nat} (kr32 : Int32 → Int32 → Dm → Option (Int32 × Dm)) (kx32_134 : Int32 → Int32 → Dm → Option (Int32 × Dm)) (a1 : Int32) (a2 : Int32) (t2 : Nat) (t8_1 : Nat) (v5_32 : Int32) (v6_32 : Int32) (t66 : Nat) (δ_85 : Dm) (s0_100 : Int32) (ht2 : isL t2 = true) (ht8_1 : isL t8_1 = true) (ht66 : isB t66 = true) (hkr32 : ∀ v5_32k v6_32k δ32k, AWo k_Fp_newer 5 0 0 32 [(0, .ref 4), (1, .int a1), (2, .int a2), (3, .ref t2), (4, .ref t8_1), (5, .int v5_32k), (6, .int v6_32k)] [] δ32k RT n 0 0 (Km RT n) (kr32 v5_32k v6_32k δ32k)) (hkx32_134 : ∀ v5_32k v6_32k δ32k, AWo k_Fp_newer 5 0 0 134 [(0, .ref 4), (1, .int a1), (2, .int a2), (3, .ref t2), (4, .ref t8_1), (5, .int v5_32k), (6, .int v6_32k)] [] δ32k RT n 0 0 (Km RT n) (kx32_134 v5_32k v6_32k δ32k)) : AWo k_Fp_newer 5 0 0 100 [(0, .ref 4), (1, .int a1), (2, .int a2), (3, .ref t2), (4, .ref t8_1), (5, .int v5_32), (6, .int v6_32), (7, .ref t66)] [.int s0_100, .int v5_32] δ_85 RT n 0 0 (Km RT n) (jp_Fp_newer_100 kr32 kx32_134 a1 a2 t2 t8_1 v5_32 v6_32 t66 δ_85 s0_100) := by
  unfold jp_Fp_newer_100
  refine aw_iadd d_Fp_newer_100 ?_
  refine aw_bI (fun v101 => ?_)
  refine aw_istore (lo' := [(5, .int v101), (0, .ref 4), (1, .int a1), (2, .int a2), (3, .ref t2), (4, .ref t8_1), (6, .int v6_32), (7, .ref t66)]) d_Fp_newer_101 (by decide) rfl ?_
  refine aw_iload d_Fp_newer_103 0 rfl ?_
  refine aw_aload_n d_Fp_newer_105 1 rfl ?_
  refine aw_aload d_Fp_newer_106 5 rfl ?_
  refine aw_iload d_Fp_newer_108 6 rfl ?_
  refine aw_V_m (As := [.ref t8_1, .int v6_32]) (m_Fp_isRefused ht8_1) cv_Fp_303 kd_4 rfl rfl rfl (Nat.le_of_ble_eq_true rfl) ⟨Nat.le_of_ble_eq_true rfl, Nat.le_of_ble_eq_true rfl⟩ ⟨Nat.le_refl _, Nat.le_refl _⟩ d_Fp_newer_110 (fun y110 => ?_)
  refine aw_bI (fun v110 => ?_)
  refine aw_bD (fun δ_110 => ?_)
  refine aw_if_eq (tgt := 124) d_Fp_newer_113 rfl (fun q113 => ?_) (fun q113 => ?_)
  · refine aw_iconst d_Fp_newer_124 ki_0 ?_
    refine aw_isub d_Fp_newer_125 ?_
    refine aw_bI (fun v126 => ?_)
    refine aw_istore (lo' := [(5, .int v126), (0, .ref 4), (1, .int a1), (2, .int a2), (3, .ref t2), (4, .ref t8_1), (6, .int v6_32), (7, .ref t66)]) d_Fp_newer_126 (by decide) rfl ?_
    refine aw_iinc (v := (v6_32 + (1 : Int32))) (lo' := [(6, .int (v6_32 + (1 : Int32))), (5, .int v126), (0, .ref 4), (1, .int a1), (2, .int a2), (3, .ref t2), (4, .ref t8_1), (7, .ref t66)]) d_Fp_newer_128 6 rfl (by rw [show Int32.ofInt (1) = (1 : Int32) from by decide]) (by decide) rfl ?_
    refine aw_goto (tgt := 32) d_Fp_newer_131 rfl ?_
    refine aw_sub (lo' := [(0, .ref 4), (1, .int a1), (2, .int a2), (3, .ref t2), (4, .ref t8_1), (5, .int v126), (6, .int (v6_32 + (1 : Int32)))]) [2, 3, 4, 5, 6, 1, 0] rfl ?_
    exact hkr32 _ _ _
  · refine aw_aload d_Fp_newer_116 7 rfl ?_
    refine aw_getI fl_Fp_197 (fx_isBK ht66 0 (by decide)) d_Fp_newer_118 ?_
    refine aw_goto (tgt := 125) d_Fp_newer_121 rfl ?_
    refine aw_isub d_Fp_newer_125 ?_
    refine aw_bI (fun v126_1 => ?_)
    refine aw_istore (lo' := [(5, .int v126_1), (0, .ref 4), (1, .int a1), (2, .int a2), (3, .ref t2), (4, .ref t8_1), (6, .int v6_32), (7, .ref t66)]) d_Fp_newer_126 (by decide) rfl ?_
    refine aw_iinc (v := (v6_32 + (1 : Int32))) (lo' := [(6, .int (v6_32 + (1 : Int32))), (5, .int v126_1), (0, .ref 4), (1, .int a1), (2, .int a2), (3, .ref t2), (4, .ref t8_1), (7, .ref t66)]) d_Fp_newer_128 6 rfl (by rw [show Int32.ofInt (1) = (1 : Int32) from by decide]) (by decide) rfl ?_
    refine aw_goto (tgt := 32) d_Fp_newer_131 rfl ?_
    refine aw_sub (lo' := [(0, .ref 4), (1, .int a1), (2, .int a2), (3, .ref t2), (4, .ref t8_1), (5, .int v126_1), (6, .int (v6_32 + (1 : Int32)))]) [2, 3, 4, 5, 6, 1, 0] rfl ?_
    exact hkr32 _ _ _
def lp_Fp_newer_32 (kx32_134 : Int32 → Int32 → Dm → Option (Int32 × Dm)) (a1 : Int32) (a2 : Int32) (t2 : Nat) (t8_1 : Nat) : Nat → Int32 → Int32 → Dm → Option (Int32 × Dm)
  | 0, _, _, _ => none
  | f + 1, v5_32, v6_32, δ32 => (if (gI δ32 34 0) ≤ v6_32 then (kx32_134 v5_32 v6_32 δ32) else ((f_Fp_get 35 v6_32 δ32).bind (fun y63 => ((f_To_boothAt y63 δ32).bind (fun o66 => ocs o66 (lp_Fp_newer_32 kx32_134 a1 a2 t2 t8_1 f v5_32 (v6_32 + (1 : Int32)) δ32) (fun t66 => if isB t66 = true then ((f_Fp_isRefused t2 v6_32 δ32).bind (fun y85 => bnd y85.1 (fun v85 => bnd y85.2 (fun δ_85 => (if v85 = 0 then (jp_Fp_newer_100 (lp_Fp_newer_32 kx32_134 a1 a2 t2 t8_1 f) kx32_134 a1 a2 t2 t8_1 v5_32 v6_32 t66 δ_85 (0 : Int32)) else (jp_Fp_newer_100 (lp_Fp_newer_32 kx32_134 a1 a2 t2 t8_1 f) kx32_134 a1 a2 t2 t8_1 v5_32 v6_32 t66 δ_85 (gI δ_85 t66 1))))))) else none))))))
set_option maxHeartbeats 4000000 in
set_option maxRecDepth 100000 in
theorem tl_Fp_newer_32 {n : Nat} (kx32_134 : Int32 → Int32 → Dm → Option (Int32 × Dm)) (a1 : Int32) (a2 : Int32) (t2 : Nat) (t8_1 : Nat) (ht2 : isL t2 = true) (ht8_1 : isL t8_1 = true) (hkx32_134 : ∀ v5_32k v6_32k δ32k, AWo k_Fp_newer 5 0 0 134 [(0, .ref 4), (1, .int a1), (2, .int a2), (3, .ref t2), (4, .ref t8_1), (5, .int v5_32k), (6, .int v6_32k)] [] δ32k RT n 0 0 (Km RT n) (kx32_134 v5_32k v6_32k δ32k)) : ∀ (f : Nat) (v5_32 : Int32) (v6_32 : Int32) (δ32 : Dm), AWo k_Fp_newer 5 0 0 32 [(0, .ref 4), (1, .int a1), (2, .int a2), (3, .ref t2), (4, .ref t8_1), (5, .int v5_32), (6, .int v6_32)] [] δ32 RT n 0 0 (Km RT n) (lp_Fp_newer_32 kx32_134 a1 a2 t2 t8_1 f v5_32 v6_32 δ32) := by
  intro f
  induction f with
  | zero => intro _ _ _; exact aw_none
  | succ f ih =>
    intro v5_32 v6_32 δ32
    rw [lp_Fp_newer_32]
    refine aw_iload d_Fp_newer_32 6 rfl ?_
    refine aw_aload_n d_Fp_newer_34 0 rfl ?_
    refine aw_getR (t := 29) fl_Fp_57 kd_4 rt_4_9 d_Fp_newer_35 ?_
    refine aw_getR (t := 34) fl_Fp_148 kd_29 rt_29_7 d_Fp_newer_38 ?_
    refine aw_getI fl_Fp_152 kd_34 d_Fp_newer_41 ?_
    refine aw_icmp_ge (tgt := 134) d_Fp_newer_44 rfl (fun q44 => ?_) (fun q44 => ?_)
    · refine aw_sub (lo' := [(0, .ref 4), (1, .int a1), (2, .int a2), (3, .ref t2), (4, .ref t8_1), (5, .int v5_32), (6, .int v6_32)]) [0, 1, 2, 3, 4, 5, 6] rfl ?_
      exact hkx32_134 _ _ _
    · refine aw_aload_n d_Fp_newer_47 0 rfl ?_
      refine aw_getR (t := 29) fl_Fp_57 kd_4 rt_4_9 d_Fp_newer_48 ?_
      refine aw_aload_n d_Fp_newer_51 0 rfl ?_
      refine aw_getR (t := 29) fl_Fp_57 kd_4 rt_4_9 d_Fp_newer_52 ?_
      refine aw_getR (t := 34) fl_Fp_148 kd_29 rt_29_7 d_Fp_newer_55 ?_
      refine aw_getR (t := 35) fl_Fp_307 kd_34 rt_34_3 d_Fp_newer_58 ?_
      refine aw_iload d_Fp_newer_61 6 rfl ?_
      refine aw_S_p (As := [.ref 35, .int v6_32]) (m_Fp_get (congrArg Prod.fst kd_35)) cs_Fp_98 rfl rfl (Nat.le_of_ble_eq_true rfl) ⟨Nat.le_of_ble_eq_true rfl, Nat.le_of_ble_eq_true rfl⟩ ⟨Nat.le_refl _, Nat.le_refl _⟩ d_Fp_newer_63 (fun y63 => ?_)
      refine aw_V_r (As := [.int y63]) (m_To_boothAt) cv_Fp_139 kd_29 rfl rfl rfl (Nat.le_of_ble_eq_true rfl) ⟨Nat.le_of_ble_eq_true rfl, Nat.le_of_ble_eq_true rfl⟩ ⟨Nat.le_refl _, Nat.le_refl _⟩ d_Fp_newer_66 ?_ (fun t66 => ?_)
      · refine aw_astoreN (lo' := [(7, .null), (0, .ref 4), (1, .int a1), (2, .int a2), (3, .ref t2), (4, .ref t8_1), (5, .int v5_32), (6, .int v6_32)]) d_Fp_newer_69 (by decide) rfl ?_
        refine aw_aloadN d_Fp_newer_71 0 rfl ?_
        refine aw_ifnonnullN d_Fp_newer_73 ?_
        refine aw_goto (tgt := 128) d_Fp_newer_76 rfl ?_
        refine aw_iinc (v := (v6_32 + (1 : Int32))) (lo' := [(6, .int (v6_32 + (1 : Int32))), (7, .null), (0, .ref 4), (1, .int a1), (2, .int a2), (3, .ref t2), (4, .ref t8_1), (5, .int v5_32)]) d_Fp_newer_128 7 rfl (by rw [show Int32.ofInt (1) = (1 : Int32) from by decide]) (by decide) rfl ?_
        refine aw_goto (tgt := 32) d_Fp_newer_131 rfl ?_
        refine aw_sub (lo' := [(0, .ref 4), (1, .int a1), (2, .int a2), (3, .ref t2), (4, .ref t8_1), (5, .int v5_32), (6, .int (v6_32 + (1 : Int32)))]) [2, 3, 4, 5, 6, 7, 0] rfl ?_
        exact ih _ _ _
      · refine aw_grd (fun ht66 => ?_)
        refine aw_astore (lo' := [(7, .ref t66), (0, .ref 4), (1, .int a1), (2, .int a2), (3, .ref t2), (4, .ref t8_1), (5, .int v5_32), (6, .int v6_32)]) d_Fp_newer_69 (by decide) rfl ?_
        refine aw_aload d_Fp_newer_71 0 rfl ?_
        refine aw_ifnonnull (tgt := 79) d_Fp_newer_73 rfl ?_
        refine aw_iload d_Fp_newer_79 6 rfl ?_
        refine aw_aload_n d_Fp_newer_81 1 rfl ?_
        refine aw_aload_n d_Fp_newer_82 4 rfl ?_
        refine aw_iload d_Fp_newer_83 7 rfl ?_
        refine aw_V_m (As := [.ref t2, .int v6_32]) (m_Fp_isRefused ht2) cv_Fp_303 kd_4 rfl rfl rfl (Nat.le_of_ble_eq_true rfl) ⟨Nat.le_of_ble_eq_true rfl, Nat.le_of_ble_eq_true rfl⟩ ⟨Nat.le_refl _, Nat.le_refl _⟩ d_Fp_newer_85 (fun y85 => ?_)
        refine aw_bI (fun v85 => ?_)
        refine aw_bD (fun δ_85 => ?_)
        refine aw_if_eq (tgt := 99) d_Fp_newer_88 rfl (fun q88 => ?_) (fun q88 => ?_)
        · refine aw_iconst d_Fp_newer_99 ki_0 ?_
          refine aw_sub (lo' := [(0, .ref 4), (1, .int a1), (2, .int a2), (3, .ref t2), (4, .ref t8_1), (5, .int v5_32), (6, .int v6_32), (7, .ref t66)]) [1, 2, 3, 4, 5, 6, 7, 0] rfl ?_
          exact tj_Fp_newer_100 _ _ _ _ _ _ _ _ _ _ _ ht2 ht8_1 ht66 ih hkx32_134
        · refine aw_aload d_Fp_newer_91 0 rfl ?_
          refine aw_getI fl_Fp_197 (fx_isBK ht66 0 (by decide)) d_Fp_newer_93 ?_
          refine aw_goto (tgt := 100) d_Fp_newer_96 rfl ?_
          refine aw_sub (lo' := [(0, .ref 4), (1, .int a1), (2, .int a2), (3, .ref t2), (4, .ref t8_1), (5, .int v5_32), (6, .int v6_32), (7, .ref t66)]) [1, 2, 3, 4, 5, 6, 7, 0] rfl ?_
          exact tj_Fp_newer_100 _ _ _ _ _ _ _ _ _ _ _ ht2 ht8_1 ht66 ih hkx32_134
def f_Fp_newer (a1 : Int32) (a2 : Int32) (δ : Dm) : Option (Int32 × Dm) := ((f_Fp_lawAt a1 δ).bind (fun o2 => ocs o2 ((f_Fp_lawAt a2 δ).bind (fun o8 => ocs o8 (some ((-1000000000 : Int32), δ)) (fun t8 => if isL t8 = true then (some ((-1000000000 : Int32), δ)) else none))) (fun t2 => if isL t2 = true then ((f_Fp_lawAt a2 δ).bind (fun o8_1 => ocs o8_1 (some ((-1000000000 : Int32), δ)) (fun t8_1 => if isL t8_1 = true then (lp_Fp_newer_32 (fun v5_32x v6_32x δ32x => (some (v5_32x, δ32x))) a1 a2 t2 t8_1 FU (0 : Int32) (0 : Int32) δ) else none))) else none)))
set_option maxHeartbeats 4000000 in
set_option maxRecDepth 100000 in
theorem m_Fp_newer {a1 : Int32} {a2 : Int32} {δ : Dm} {n : Nat} : ∀ x, f_Fp_newer a1 a2 δ = some x → AMet k_Fp_newer 5 0 0 [.ref 4, .int a1, .int a2] δ RT n (Km RT n x) := by
  refine aw_start (lo := [(0, .ref 4), (1, .int a1), (2, .int a2)]) mok_Fp_newer rfl (Nat.le_of_ble_eq_true rfl) ?_
  unfold f_Fp_newer
  refine aw_aload_n d_Fp_newer_0 0 rfl ?_
  refine aw_iload_n d_Fp_newer_1 1 rfl ?_
  refine aw_V_r (As := [.int a1]) (m_Fp_lawAt) cv_Fp_126 kd_4 rfl rfl rfl (Nat.le_of_ble_eq_true rfl) ⟨Nat.le_of_ble_eq_true rfl, Nat.le_of_ble_eq_true rfl⟩ ⟨Nat.le_refl _, Nat.le_refl _⟩ d_Fp_newer_2 ?_ (fun t2 => ?_)
  · refine aw_astoreN_n (lo' := [(3, .null), (0, .ref 4), (1, .int a1), (2, .int a2)]) d_Fp_newer_5 rfl (by decide) rfl ?_
    refine aw_aload_n d_Fp_newer_6 1 rfl ?_
    refine aw_iload_n d_Fp_newer_7 3 rfl ?_
    refine aw_V_r (As := [.int a2]) (m_Fp_lawAt) cv_Fp_126 kd_4 rfl rfl rfl (Nat.le_of_ble_eq_true rfl) ⟨Nat.le_of_ble_eq_true rfl, Nat.le_of_ble_eq_true rfl⟩ ⟨Nat.le_refl _, Nat.le_refl _⟩ d_Fp_newer_8 ?_ (fun t8 => ?_)
    · refine aw_astoreN (lo' := [(4, .null), (3, .null), (0, .ref 4), (1, .int a1), (2, .int a2)]) d_Fp_newer_11 (by decide) rfl ?_
      refine aw_aloadN_n d_Fp_newer_13 1 rfl ?_
      refine aw_ifnullN (tgt := 22) d_Fp_newer_14 rfl ?_
      refine aw_ldcw (v := (-1000000000 : Int32)) d_Fp_newer_22 kc_Fp_270 ?_
      exact aw_iret rfl rfl ⟨Nat.le_refl _, Nat.le_refl _⟩ d_Fp_newer_25
    · refine aw_grd (fun ht8 => ?_)
      refine aw_astore (lo' := [(4, .ref t8), (3, .null), (0, .ref 4), (1, .int a1), (2, .int a2)]) d_Fp_newer_11 (by decide) rfl ?_
      refine aw_aloadN_n d_Fp_newer_13 1 rfl ?_
      refine aw_ifnullN (tgt := 22) d_Fp_newer_14 rfl ?_
      refine aw_ldcw (v := (-1000000000 : Int32)) d_Fp_newer_22 kc_Fp_270 ?_
      exact aw_iret rfl rfl ⟨Nat.le_refl _, Nat.le_refl _⟩ d_Fp_newer_25
  · refine aw_grd (fun ht2 => ?_)
    refine aw_astore_n (lo' := [(3, .ref t2), (0, .ref 4), (1, .int a1), (2, .int a2)]) d_Fp_newer_5 rfl (by decide) rfl ?_
    refine aw_aload_n d_Fp_newer_6 1 rfl ?_
    refine aw_iload_n d_Fp_newer_7 3 rfl ?_
    refine aw_V_r (As := [.int a2]) (m_Fp_lawAt) cv_Fp_126 kd_4 rfl rfl rfl (Nat.le_of_ble_eq_true rfl) ⟨Nat.le_of_ble_eq_true rfl, Nat.le_of_ble_eq_true rfl⟩ ⟨Nat.le_refl _, Nat.le_refl _⟩ d_Fp_newer_8 ?_ (fun t8_1 => ?_)
    · refine aw_astoreN (lo' := [(4, .null), (3, .ref t2), (0, .ref 4), (1, .int a1), (2, .int a2)]) d_Fp_newer_11 (by decide) rfl ?_
      refine aw_aload_n d_Fp_newer_13 1 rfl ?_
      refine aw_ifnull d_Fp_newer_14 ?_
      refine aw_aloadN d_Fp_newer_17 0 rfl ?_
      refine aw_ifnonnullN d_Fp_newer_19 ?_
      refine aw_ldcw (v := (-1000000000 : Int32)) d_Fp_newer_22 kc_Fp_270 ?_
      exact aw_iret rfl rfl ⟨Nat.le_refl _, Nat.le_refl _⟩ d_Fp_newer_25
    · refine aw_grd (fun ht8_1 => ?_)
      refine aw_astore (lo' := [(4, .ref t8_1), (3, .ref t2), (0, .ref 4), (1, .int a1), (2, .int a2)]) d_Fp_newer_11 (by decide) rfl ?_
      refine aw_aload_n d_Fp_newer_13 1 rfl ?_
      refine aw_ifnull d_Fp_newer_14 ?_
      refine aw_aload d_Fp_newer_17 0 rfl ?_
      refine aw_ifnonnull (tgt := 26) d_Fp_newer_19 rfl ?_
      refine aw_iconst d_Fp_newer_26 ki_0 ?_
      refine aw_istore (lo' := [(5, .int (0 : Int32)), (4, .ref t8_1), (3, .ref t2), (0, .ref 4), (1, .int a1), (2, .int a2)]) d_Fp_newer_27 (by decide) rfl ?_
      refine aw_iconst d_Fp_newer_29 ki_0 ?_
      refine aw_istore (lo' := [(6, .int (0 : Int32)), (5, .int (0 : Int32)), (4, .ref t8_1), (3, .ref t2), (0, .ref 4), (1, .int a1), (2, .int a2)]) d_Fp_newer_30 (by decide) rfl ?_
      refine aw_sub (lo' := [(0, .ref 4), (1, .int a1), (2, .int a2), (3, .ref t2), (4, .ref t8_1), (5, .int (0 : Int32)), (6, .int (0 : Int32))]) [4, 5, 6, 3, 2, 1, 0] rfl ?_
      refine tl_Fp_newer_32 _ _ _ _ _ ht2 ht8_1 (fun v5_32x v6_32x δ32x => ?_) FU _ _ _
      · refine aw_iload d_Fp_newer_134 5 rfl ?_
        exact aw_iret rfl rfl ⟨Nat.le_refl _, Nat.le_refl _⟩ d_Fp_newer_136
def f_Fp_isSpan (a0 : Int32) (a1 : Int32) (δ : Dm) : Option Int32 := ((f_Fp_isDay a0 δ).bind (fun y1 => (if y1 = 0 then (some (0 : Int32)) else ((f_Fp_isDay a1 δ).bind (fun y8 => (if y8 = 0 then (some (0 : Int32)) else (if a1 < a0 then (some (0 : Int32)) else (some (1 : Int32)))))))))
set_option maxHeartbeats 4000000 in
set_option maxRecDepth 100000 in
theorem m_Fp_isSpan {a0 : Int32} {a1 : Int32} {δ : Dm} {n : Nat} : ∀ x, f_Fp_isSpan a0 a1 δ = some x → AMet k_Fp_isSpan 3 0 0 [.int a0, .int a1] δ RT n (Kp δ RT n x) := by
  refine aw_start (lo := [(0, .int a0), (1, .int a1)]) mok_Fp_isSpan rfl (Nat.le_of_ble_eq_true rfl) ?_
  unfold f_Fp_isSpan
  refine aw_iload_n d_Fp_isSpan_0 0 rfl ?_
  refine aw_S_p (As := [.int a0]) (m_Fp_isDay) cs_Fp_92 rfl rfl (Nat.le_of_ble_eq_true rfl) ⟨Nat.le_of_ble_eq_true rfl, Nat.le_of_ble_eq_true rfl⟩ ⟨Nat.le_refl _, Nat.le_refl _⟩ d_Fp_isSpan_1 (fun y1 => ?_)
  refine aw_if_eq (tgt := 23) d_Fp_isSpan_4 rfl (fun q4 => ?_) (fun q4 => ?_)
  · refine aw_iconst d_Fp_isSpan_23 ki_0 ?_
    exact aw_zret rfl rfl rfl ⟨Nat.le_refl _, Nat.le_refl _⟩ d_Fp_isSpan_24
  · refine aw_iload_n d_Fp_isSpan_7 1 rfl ?_
    refine aw_S_p (As := [.int a1]) (m_Fp_isDay) cs_Fp_92 rfl rfl (Nat.le_of_ble_eq_true rfl) ⟨Nat.le_of_ble_eq_true rfl, Nat.le_of_ble_eq_true rfl⟩ ⟨Nat.le_refl _, Nat.le_refl _⟩ d_Fp_isSpan_8 (fun y8 => ?_)
    refine aw_if_eq (tgt := 23) d_Fp_isSpan_11 rfl (fun q11 => ?_) (fun q11 => ?_)
    · refine aw_iconst d_Fp_isSpan_23 ki_0 ?_
      exact aw_zret rfl rfl rfl ⟨Nat.le_refl _, Nat.le_refl _⟩ d_Fp_isSpan_24
    · refine aw_iload_n d_Fp_isSpan_14 0 rfl ?_
      refine aw_iload_n d_Fp_isSpan_15 1 rfl ?_
      refine aw_icmp_gt (tgt := 23) d_Fp_isSpan_16 rfl (fun q16 => ?_) (fun q16 => ?_)
      · refine aw_iconst d_Fp_isSpan_23 ki_0 ?_
        exact aw_zret rfl rfl rfl ⟨Nat.le_refl _, Nat.le_refl _⟩ d_Fp_isSpan_24
      · refine aw_iconst d_Fp_isSpan_19 ki_1 ?_
        refine aw_goto (tgt := 24) d_Fp_isSpan_20 rfl ?_
        exact aw_zret rfl rfl rfl ⟨Nat.le_refl _, Nat.le_refl _⟩ d_Fp_isSpan_24
def f_Fp_rentBy (a1 : Nat) (a2 : Int32) (a3 : Int32) (a4 : Int32) (δ : Dm) : Option (Int32 × Dm) := ((f_To_boothAt a2 δ).bind (fun o5 => ocs o5 (some ((0 : Int32), δ)) (fun t5 => if isB t5 = true then ((f_Di_stripsIn a2 a3 a4 δ).bind (fun y28 => ((f_Fa_open t5 a4 δ).bind (fun y45 => ((f_Fa_till y28 ((gI y45 t5 1) * y28) y45).bind (fun y62 => ((f_La_total a1 (16 : Int32) (0 : Int32) y62).bind (fun y73 => bnd y73.1 (fun v73 => bnd y73.2 (fun δ_73 => ((f_Fp_held v73 (-99999999 : Int64) (99999999 : Int64) δ_73).bind (fun y82 => (some (((y82).toInt32), δ_73)))))))))))))) else none)))
set_option maxHeartbeats 4000000 in
set_option maxRecDepth 100000 in
theorem m_Fp_rentBy {a1 : Nat} {a2 : Int32} {a3 : Int32} {a4 : Int32} {δ : Dm} {n : Nat} (ha1 : isL a1 = true) : ∀ x, f_Fp_rentBy a1 a2 a3 a4 δ = some x → AMet k_Fp_rentBy 4 0 0 [.ref 4, .ref a1, .int a2, .int a3, .int a4] δ RT n (Km RT n x) := by
  refine aw_start (lo := [(0, .ref 4), (1, .ref a1), (2, .int a2), (3, .int a3), (4, .int a4)]) mok_Fp_rentBy rfl (Nat.le_of_ble_eq_true rfl) ?_
  unfold f_Fp_rentBy
  refine aw_aload_n d_Fp_rentBy_0 0 rfl ?_
  refine aw_getR (t := 29) fl_Fp_57 kd_4 rt_4_9 d_Fp_rentBy_1 ?_
  refine aw_iload_n d_Fp_rentBy_4 2 rfl ?_
  refine aw_V_r (As := [.int a2]) (m_To_boothAt) cv_Fp_139 kd_29 rfl rfl rfl (Nat.le_of_ble_eq_true rfl) ⟨Nat.le_of_ble_eq_true rfl, Nat.le_of_ble_eq_true rfl⟩ ⟨Nat.le_refl _, Nat.le_refl _⟩ d_Fp_rentBy_5 ?_ (fun t5 => ?_)
  · refine aw_astoreN (lo' := [(5, .null), (0, .ref 4), (1, .ref a1), (2, .int a2), (3, .int a3), (4, .int a4)]) d_Fp_rentBy_8 (by decide) rfl ?_
    refine aw_aloadN d_Fp_rentBy_10 0 rfl ?_
    refine aw_ifnonnullN d_Fp_rentBy_12 ?_
    refine aw_iconst d_Fp_rentBy_15 ki_0 ?_
    exact aw_iret rfl rfl ⟨Nat.le_refl _, Nat.le_refl _⟩ d_Fp_rentBy_16
  · refine aw_grd (fun ht5 => ?_)
    refine aw_astore (lo' := [(5, .ref t5), (0, .ref 4), (1, .ref a1), (2, .int a2), (3, .int a3), (4, .int a4)]) d_Fp_rentBy_8 (by decide) rfl ?_
    refine aw_aload d_Fp_rentBy_10 0 rfl ?_
    refine aw_ifnonnull (tgt := 17) d_Fp_rentBy_12 rfl ?_
    refine aw_aload_n d_Fp_rentBy_17 1 rfl ?_
    refine aw_getR (t := 29) fl_Fp_57 kd_4 rt_4_9 d_Fp_rentBy_18 ?_
    refine aw_getR (t := 34) fl_Fp_148 kd_29 rt_29_7 d_Fp_rentBy_21 ?_
    refine aw_iload_n d_Fp_rentBy_24 3 rfl ?_
    refine aw_iload_n d_Fp_rentBy_25 4 rfl ?_
    refine aw_iload d_Fp_rentBy_26 5 rfl ?_
    refine aw_V_p (As := [.int a2, .int a3, .int a4]) (m_Di_stripsIn) cv_Fp_274 kd_34 rfl rfl rfl (Nat.le_of_ble_eq_true rfl) ⟨Nat.le_of_ble_eq_true rfl, Nat.le_of_ble_eq_true rfl⟩ ⟨Nat.le_refl _, Nat.le_refl _⟩ d_Fp_rentBy_28 (fun y28 => ?_)
    refine aw_istore (lo' := [(6, .int y28), (5, .ref t5), (0, .ref 4), (1, .ref a1), (2, .int a2), (3, .int a3), (4, .int a4)]) d_Fp_rentBy_31 (by decide) rfl ?_
    refine aw_aload_n d_Fp_rentBy_33 2 rfl ?_
    refine aw_getR (t := 19) fl_Fp_29 kd_4 rt_4_5 d_Fp_rentBy_34 ?_
    refine aw_aload_n d_Fp_rentBy_37 2 rfl ?_
    refine aw_getR (t := 29) fl_Fp_57 kd_4 rt_4_9 d_Fp_rentBy_38 ?_
    refine aw_aload d_Fp_rentBy_41 1 rfl ?_
    refine aw_iload d_Fp_rentBy_43 6 rfl ?_
    refine aw_V_v (As := [.ref 29, .ref t5, .int a4]) (m_Fa_open ht5) cv_Fp_160 kd_19 rfl rfl rfl (Nat.le_of_ble_eq_true rfl) ⟨Nat.le_of_ble_eq_true rfl, Nat.le_of_ble_eq_true rfl⟩ ⟨Nat.le_refl _, Nat.le_refl _⟩ d_Fp_rentBy_45 (fun y45 => ?_)
    refine aw_aload_n d_Fp_rentBy_48 2 rfl ?_
    refine aw_getR (t := 19) fl_Fp_29 kd_4 rt_4_5 d_Fp_rentBy_49 ?_
    refine aw_iload d_Fp_rentBy_52 0 rfl ?_
    refine aw_aload d_Fp_rentBy_54 1 rfl ?_
    refine aw_getI fl_Fp_197 (fx_isBK ht5 0 (by decide)) d_Fp_rentBy_56 ?_
    refine aw_iload d_Fp_rentBy_59 0 rfl ?_
    refine aw_imul d_Fp_rentBy_61 ?_
    refine aw_V_v (As := [.int y28, .int ((gI y45 t5 1) * y28)]) (m_Fa_till) cv_Fp_174 kd_19 rfl rfl rfl (Nat.le_of_ble_eq_true rfl) ⟨Nat.le_of_ble_eq_true rfl, Nat.le_of_ble_eq_true rfl⟩ ⟨Nat.le_refl _, Nat.le_refl _⟩ d_Fp_rentBy_62 (fun y62 => ?_)
    refine aw_aload_n d_Fp_rentBy_65 3 rfl ?_
    refine aw_bipush d_Fp_rentBy_66 kb_16 ?_
    refine aw_iconst d_Fp_rentBy_68 ki_0 ?_
    refine aw_aload_n d_Fp_rentBy_69 2 rfl ?_
    refine aw_getR (t := 19) fl_Fp_29 kd_4 rt_4_5 d_Fp_rentBy_70 ?_
    refine aw_V_n (As := [.int (16 : Int32), .int (0 : Int32), .ref 19]) (m_La_total ha1) cv_Fp_404 (fx_isLK ha1 0 (by decide)) rfl rfl rfl (Nat.le_of_ble_eq_true rfl) ⟨Nat.le_of_ble_eq_true rfl, Nat.le_of_ble_eq_true rfl⟩ ⟨Nat.le_refl _, Nat.le_refl _⟩ d_Fp_rentBy_73 (fun y73 => ?_)
    refine aw_bL (fun v73 => ?_)
    refine aw_bD (fun δ_73 => ?_)
    refine aw_ldc2 (v := (-99999999 : Int64)) d_Fp_rentBy_76 kc_Fp_408 ?_
    refine aw_ldc2 (v := (99999999 : Int64)) d_Fp_rentBy_79 kc_Fp_410 ?_
    refine aw_S_l (As := [.long v73, .long (-99999999 : Int64), .long (99999999 : Int64)]) (m_Fp_held) cs_Fp_412 rfl rfl (Nat.le_of_ble_eq_true rfl) ⟨Nat.le_of_ble_eq_true rfl, Nat.le_of_ble_eq_true rfl⟩ ⟨Nat.le_refl _, Nat.le_refl _⟩ d_Fp_rentBy_82 (fun y82 => ?_)
    refine aw_l2i d_Fp_rentBy_85 ?_
    exact aw_iret rfl rfl ⟨Nat.le_refl _, Nat.le_refl _⟩ d_Fp_rentBy_86
def f_Fp_rent (a1 : Int32) (a2 : Int32) (a3 : Int32) (a4 : Int32) (δ : Dm) : Option (Int32 × Dm) := ((f_Fp_lawAt a1 δ).bind (fun o2 => ocs o2 (some ((-1000000000 : Int32), δ)) (fun t2 => if isL t2 = true then ((f_To_boothAt a2 δ).bind (fun o17 => ocs o17 (some ((-1000000000 : Int32), δ)) (fun t17 => if isB t17 = true then ((f_Fp_isSpan a3 a4 δ).bind (fun y26 => (if y26 = 0 then (some ((-1000000000 : Int32), δ)) else ((f_Fp_rentBy t2 a2 a3 a4 δ).bind (fun y43 => bnd y43.1 (fun v43 => bnd y43.2 (fun δ_43 => (some (v43, δ_43))))))))) else none))) else none)))
set_option maxHeartbeats 4000000 in
set_option maxRecDepth 100000 in
theorem m_Fp_rent {a1 : Int32} {a2 : Int32} {a3 : Int32} {a4 : Int32} {δ : Dm} {n : Nat} : ∀ x, f_Fp_rent a1 a2 a3 a4 δ = some x → AMet k_Fp_rent 5 0 0 [.ref 4, .int a1, .int a2, .int a3, .int a4] δ RT n (Km RT n x) := by
  refine aw_start (lo := [(0, .ref 4), (1, .int a1), (2, .int a2), (3, .int a3), (4, .int a4)]) mok_Fp_rent rfl (Nat.le_of_ble_eq_true rfl) ?_
  unfold f_Fp_rent
  refine aw_aload_n d_Fp_rent_0 0 rfl ?_
  refine aw_iload_n d_Fp_rent_1 1 rfl ?_
  refine aw_V_r (As := [.int a1]) (m_Fp_lawAt) cv_Fp_126 kd_4 rfl rfl rfl (Nat.le_of_ble_eq_true rfl) ⟨Nat.le_of_ble_eq_true rfl, Nat.le_of_ble_eq_true rfl⟩ ⟨Nat.le_refl _, Nat.le_refl _⟩ d_Fp_rent_2 ?_ (fun t2 => ?_)
  · refine aw_astoreN (lo' := [(5, .null), (0, .ref 4), (1, .int a1), (2, .int a2), (3, .int a3), (4, .int a4)]) d_Fp_rent_5 (by decide) rfl ?_
    refine aw_aloadN d_Fp_rent_7 0 rfl ?_
    refine aw_ifnullN (tgt := 32) d_Fp_rent_9 rfl ?_
    refine aw_ldcw (v := (-1000000000 : Int32)) d_Fp_rent_32 kc_Fp_270 ?_
    exact aw_iret rfl rfl ⟨Nat.le_refl _, Nat.le_refl _⟩ d_Fp_rent_35
  · refine aw_grd (fun ht2 => ?_)
    refine aw_astore (lo' := [(5, .ref t2), (0, .ref 4), (1, .int a1), (2, .int a2), (3, .int a3), (4, .int a4)]) d_Fp_rent_5 (by decide) rfl ?_
    refine aw_aload d_Fp_rent_7 0 rfl ?_
    refine aw_ifnull d_Fp_rent_9 ?_
    refine aw_aload_n d_Fp_rent_12 1 rfl ?_
    refine aw_getR (t := 29) fl_Fp_57 kd_4 rt_4_9 d_Fp_rent_13 ?_
    refine aw_iload_n d_Fp_rent_16 3 rfl ?_
    refine aw_V_r (As := [.int a2]) (m_To_boothAt) cv_Fp_139 kd_29 rfl rfl rfl (Nat.le_of_ble_eq_true rfl) ⟨Nat.le_of_ble_eq_true rfl, Nat.le_of_ble_eq_true rfl⟩ ⟨Nat.le_refl _, Nat.le_refl _⟩ d_Fp_rent_17 ?_ (fun t17 => ?_)
    · refine aw_ifnullN (tgt := 32) d_Fp_rent_20 rfl ?_
      refine aw_ldcw (v := (-1000000000 : Int32)) d_Fp_rent_32 kc_Fp_270 ?_
      exact aw_iret rfl rfl ⟨Nat.le_refl _, Nat.le_refl _⟩ d_Fp_rent_35
    · refine aw_grd (fun ht17 => ?_)
      refine aw_ifnull d_Fp_rent_20 ?_
      refine aw_iload_n d_Fp_rent_23 4 rfl ?_
      refine aw_iload d_Fp_rent_24 5 rfl ?_
      refine aw_S_p (As := [.int a3, .int a4]) (m_Fp_isSpan) cs_Fp_310 rfl rfl (Nat.le_of_ble_eq_true rfl) ⟨Nat.le_of_ble_eq_true rfl, Nat.le_of_ble_eq_true rfl⟩ ⟨Nat.le_refl _, Nat.le_refl _⟩ d_Fp_rent_26 (fun y26 => ?_)
      refine aw_if_ne (tgt := 36) d_Fp_rent_29 rfl (fun q29 => ?_) (fun q29 => ?_)
      · refine aw_ldcw (v := (-1000000000 : Int32)) d_Fp_rent_32 kc_Fp_270 ?_
        exact aw_iret rfl rfl ⟨Nat.le_refl _, Nat.le_refl _⟩ d_Fp_rent_35
      · refine aw_aload_n d_Fp_rent_36 1 rfl ?_
        refine aw_aload d_Fp_rent_37 0 rfl ?_
        refine aw_iload_n d_Fp_rent_39 3 rfl ?_
        refine aw_iload_n d_Fp_rent_40 4 rfl ?_
        refine aw_iload d_Fp_rent_41 5 rfl ?_
        refine aw_V_m (As := [.ref t2, .int a2, .int a3, .int a4]) (m_Fp_rentBy ht2) cv_Fp_313 kd_4 rfl rfl rfl (Nat.le_of_ble_eq_true rfl) ⟨Nat.le_of_ble_eq_true rfl, Nat.le_of_ble_eq_true rfl⟩ ⟨Nat.le_refl _, Nat.le_refl _⟩ d_Fp_rent_43 (fun y43 => ?_)
        refine aw_bI (fun v43 => ?_)
        refine aw_bD (fun δ_43 => ?_)
        exact aw_iret rfl rfl ⟨Nat.le_refl _, Nat.le_refl _⟩ d_Fp_rent_46
def jp_Fp_cheapest_68 (kr32 : Int32 → Int32 → Int32 → Dm → Option (Int32 × Dm)) (kx32_91 : Int32 → Int32 → Int32 → Dm → Option (Int32 × Dm)) (a1 : Int32) (a2 : Int32) (a3 : Int32) (v4_32 : Int32) (v5_32 : Int32) (v6_32 : Int32) (s0_68 : Int32) (δ68 : Dm) : Option (Int32 × Dm) := (if v5_32 ≤ s0_68 then (kr32 v4_32 v5_32 (v6_32 + (1 : Int32)) δ68) else (kr32 v6_32 s0_68 (v6_32 + (1 : Int32)) δ68))
set_option maxHeartbeats 4000000 in
set_option maxRecDepth 100000 in
theorem tj_Fp_cheapest_68 {n : Nat} (kr32 : Int32 → Int32 → Int32 → Dm → Option (Int32 × Dm)) (kx32_91 : Int32 → Int32 → Int32 → Dm → Option (Int32 × Dm)) (a1 : Int32) (a2 : Int32) (a3 : Int32) (v4_32 : Int32) (v5_32 : Int32) (v6_32 : Int32) (s0_68 : Int32) (δ68 : Dm) (hkr32 : ∀ v4_32k v5_32k v6_32k δ32k, AWo k_Fp_cheapest 5 0 0 32 [(0, .ref 4), (1, .int a1), (2, .int a2), (3, .int a3), (4, .int v4_32k), (5, .int v5_32k), (6, .int v6_32k)] [] δ32k RT n 0 0 (Km RT n) (kr32 v4_32k v5_32k v6_32k δ32k)) (hkx32_91 : ∀ v4_32k v5_32k v6_32k δ32k, AWo k_Fp_cheapest 5 0 0 91 [(0, .ref 4), (1, .int a1), (2, .int a2), (3, .int a3), (4, .int v4_32k), (5, .int v5_32k), (6, .int v6_32k)] [] δ32k RT n 0 0 (Km RT n) (kx32_91 v4_32k v5_32k v6_32k δ32k)) : AWo k_Fp_cheapest 5 0 0 68 [(0, .ref 4), (1, .int a1), (2, .int a2), (3, .int a3), (4, .int v4_32), (5, .int v5_32), (6, .int v6_32)] [.int s0_68] δ68 RT n 0 0 (Km RT n) (jp_Fp_cheapest_68 kr32 kx32_91 a1 a2 a3 v4_32 v5_32 v6_32 s0_68 δ68) := by
  unfold jp_Fp_cheapest_68
  refine aw_istore (lo' := [(8, .int s0_68), (0, .ref 4), (1, .int a1), (2, .int a2), (3, .int a3), (4, .int v4_32), (5, .int v5_32), (6, .int v6_32)]) d_Fp_cheapest_68 (by decide) rfl ?_
  refine aw_iload d_Fp_cheapest_70 0 rfl ?_
  refine aw_iload d_Fp_cheapest_72 6 rfl ?_
  refine aw_icmp_ge (tgt := 85) d_Fp_cheapest_74 rfl (fun q74 => ?_) (fun q74 => ?_)
  · refine aw_iinc (v := (v6_32 + (1 : Int32))) (lo' := [(6, .int (v6_32 + (1 : Int32))), (8, .int s0_68), (0, .ref 4), (1, .int a1), (2, .int a2), (3, .int a3), (4, .int v4_32), (5, .int v5_32)]) d_Fp_cheapest_85 7 rfl (by rw [show Int32.ofInt (1) = (1 : Int32) from by decide]) (by decide) rfl ?_
    refine aw_goto (tgt := 32) d_Fp_cheapest_88 rfl ?_
    refine aw_sub (lo' := [(0, .ref 4), (1, .int a1), (2, .int a2), (3, .int a3), (4, .int v4_32), (5, .int v5_32), (6, .int (v6_32 + (1 : Int32)))]) [2, 3, 4, 5, 6, 7, 0] rfl ?_
    exact hkr32 _ _ _ _
  · refine aw_iload d_Fp_cheapest_77 0 rfl ?_
    refine aw_istore (lo' := [(5, .int s0_68), (8, .int s0_68), (0, .ref 4), (1, .int a1), (2, .int a2), (3, .int a3), (4, .int v4_32), (6, .int v6_32)]) d_Fp_cheapest_79 (by decide) rfl ?_
    refine aw_iload d_Fp_cheapest_81 7 rfl ?_
    refine aw_istore (lo' := [(4, .int v6_32), (5, .int s0_68), (8, .int s0_68), (0, .ref 4), (1, .int a1), (2, .int a2), (3, .int a3), (6, .int v6_32)]) d_Fp_cheapest_83 (by decide) rfl ?_
    refine aw_iinc (v := (v6_32 + (1 : Int32))) (lo' := [(6, .int (v6_32 + (1 : Int32))), (4, .int v6_32), (5, .int s0_68), (8, .int s0_68), (0, .ref 4), (1, .int a1), (2, .int a2), (3, .int a3)]) d_Fp_cheapest_85 7 rfl (by rw [show Int32.ofInt (1) = (1 : Int32) from by decide]) (by decide) rfl ?_
    refine aw_goto (tgt := 32) d_Fp_cheapest_88 rfl ?_
    refine aw_sub (lo' := [(0, .ref 4), (1, .int a1), (2, .int a2), (3, .int a3), (4, .int v6_32), (5, .int s0_68), (6, .int (v6_32 + (1 : Int32)))]) [4, 5, 6, 7, 1, 2, 0] rfl ?_
    exact hkr32 _ _ _ _
def lp_Fp_cheapest_32 (kx32_91 : Int32 → Int32 → Int32 → Dm → Option (Int32 × Dm)) (a1 : Int32) (a2 : Int32) (a3 : Int32) : Nat → Int32 → Int32 → Int32 → Dm → Option (Int32 × Dm)
  | 0, _, _, _, _ => none
  | f + 1, v4_32, v5_32, v6_32, δ32 => (if (gI δ32 4 3) ≤ v6_32 then (kx32_91 v4_32 v5_32 v6_32 δ32) else ((f_Fp_lawAt v6_32 δ32).bind (fun o44 => ocs o44 (jp_Fp_cheapest_68 (lp_Fp_cheapest_32 kx32_91 a1 a2 a3 f) kx32_91 a1 a2 a3 v4_32 v5_32 v6_32 v5_32 δ32) (fun t44 => if isL t44 = true then ((f_Fp_rentBy t44 a1 a2 a3 δ32).bind (fun y65 => bnd y65.1 (fun v65 => bnd y65.2 (fun δ_65 => (jp_Fp_cheapest_68 (lp_Fp_cheapest_32 kx32_91 a1 a2 a3 f) kx32_91 a1 a2 a3 v4_32 v5_32 v6_32 v65 δ_65))))) else none))))
set_option maxHeartbeats 4000000 in
set_option maxRecDepth 100000 in
theorem tl_Fp_cheapest_32 {n : Nat} (kx32_91 : Int32 → Int32 → Int32 → Dm → Option (Int32 × Dm)) (a1 : Int32) (a2 : Int32) (a3 : Int32) (hkx32_91 : ∀ v4_32k v5_32k v6_32k δ32k, AWo k_Fp_cheapest 5 0 0 91 [(0, .ref 4), (1, .int a1), (2, .int a2), (3, .int a3), (4, .int v4_32k), (5, .int v5_32k), (6, .int v6_32k)] [] δ32k RT n 0 0 (Km RT n) (kx32_91 v4_32k v5_32k v6_32k δ32k)) : ∀ (f : Nat) (v4_32 : Int32) (v5_32 : Int32) (v6_32 : Int32) (δ32 : Dm), AWo k_Fp_cheapest 5 0 0 32 [(0, .ref 4), (1, .int a1), (2, .int a2), (3, .int a3), (4, .int v4_32), (5, .int v5_32), (6, .int v6_32)] [] δ32 RT n 0 0 (Km RT n) (lp_Fp_cheapest_32 kx32_91 a1 a2 a3 f v4_32 v5_32 v6_32 δ32) := by
  intro f
  induction f with
  | zero => intro _ _ _ _; exact aw_none
  | succ f ih =>
    intro v4_32 v5_32 v6_32 δ32
    rw [lp_Fp_cheapest_32]
    refine aw_iload d_Fp_cheapest_32 6 rfl ?_
    refine aw_aload_n d_Fp_cheapest_34 0 rfl ?_
    refine aw_getI fl_Fp_109 kd_4 d_Fp_cheapest_35 ?_
    refine aw_icmp_ge (tgt := 91) d_Fp_cheapest_38 rfl (fun q38 => ?_) (fun q38 => ?_)
    · refine aw_sub (lo' := [(0, .ref 4), (1, .int a1), (2, .int a2), (3, .int a3), (4, .int v4_32), (5, .int v5_32), (6, .int v6_32)]) [0, 1, 2, 3, 4, 5, 6] rfl ?_
      exact hkx32_91 _ _ _ _
    · refine aw_aload_n d_Fp_cheapest_41 0 rfl ?_
      refine aw_iload d_Fp_cheapest_42 6 rfl ?_
      refine aw_V_r (As := [.int v6_32]) (m_Fp_lawAt) cv_Fp_126 kd_4 rfl rfl rfl (Nat.le_of_ble_eq_true rfl) ⟨Nat.le_of_ble_eq_true rfl, Nat.le_of_ble_eq_true rfl⟩ ⟨Nat.le_refl _, Nat.le_refl _⟩ d_Fp_cheapest_44 ?_ (fun t44 => ?_)
      · refine aw_astoreN (lo' := [(7, .null), (0, .ref 4), (1, .int a1), (2, .int a2), (3, .int a3), (4, .int v4_32), (5, .int v5_32), (6, .int v6_32)]) d_Fp_cheapest_47 (by decide) rfl ?_
        refine aw_aloadN d_Fp_cheapest_49 0 rfl ?_
        refine aw_ifnonnullN d_Fp_cheapest_51 ?_
        refine aw_iload d_Fp_cheapest_54 6 rfl ?_
        refine aw_goto (tgt := 68) d_Fp_cheapest_56 rfl ?_
        refine aw_sub (lo' := [(0, .ref 4), (1, .int a1), (2, .int a2), (3, .int a3), (4, .int v4_32), (5, .int v5_32), (6, .int v6_32)]) [1, 2, 3, 4, 5, 6, 7] rfl ?_
        exact tj_Fp_cheapest_68 _ _ _ _ _ _ _ _ _ _ ih hkx32_91
      · refine aw_grd (fun ht44 => ?_)
        refine aw_astore (lo' := [(7, .ref t44), (0, .ref 4), (1, .int a1), (2, .int a2), (3, .int a3), (4, .int v4_32), (5, .int v5_32), (6, .int v6_32)]) d_Fp_cheapest_47 (by decide) rfl ?_
        refine aw_aload d_Fp_cheapest_49 0 rfl ?_
        refine aw_ifnonnull (tgt := 59) d_Fp_cheapest_51 rfl ?_
        refine aw_aload_n d_Fp_cheapest_59 1 rfl ?_
        refine aw_aload d_Fp_cheapest_60 0 rfl ?_
        refine aw_iload_n d_Fp_cheapest_62 2 rfl ?_
        refine aw_iload_n d_Fp_cheapest_63 3 rfl ?_
        refine aw_iload_n d_Fp_cheapest_64 4 rfl ?_
        refine aw_V_m (As := [.ref t44, .int a1, .int a2, .int a3]) (m_Fp_rentBy ht44) cv_Fp_313 kd_4 rfl rfl rfl (Nat.le_of_ble_eq_true rfl) ⟨Nat.le_of_ble_eq_true rfl, Nat.le_of_ble_eq_true rfl⟩ ⟨Nat.le_refl _, Nat.le_refl _⟩ d_Fp_cheapest_65 (fun y65 => ?_)
        refine aw_bI (fun v65 => ?_)
        refine aw_bD (fun δ_65 => ?_)
        refine aw_sub (lo' := [(0, .ref 4), (1, .int a1), (2, .int a2), (3, .int a3), (4, .int v4_32), (5, .int v5_32), (6, .int v6_32)]) [1, 2, 3, 4, 5, 6, 7] rfl ?_
        exact tj_Fp_cheapest_68 _ _ _ _ _ _ _ _ _ _ ih hkx32_91
def f_Fp_cheapest (a1 : Int32) (a2 : Int32) (a3 : Int32) (δ : Dm) : Option (Int32 × Dm) := ((f_To_boothAt a1 δ).bind (fun o5 => ocs o5 (some ((-1 : Int32), δ)) (fun t5 => if isB t5 = true then ((f_Fp_isSpan a2 a3 δ).bind (fun y13 => (if y13 = 0 then (some ((-1 : Int32), δ)) else (lp_Fp_cheapest_32 (fun v4_32x v5_32x v6_32x δ32x => (some (v4_32x, δ32x))) a1 a2 a3 FU (-1 : Int32) (100000000 : Int32) (0 : Int32) δ)))) else none)))
set_option maxHeartbeats 4000000 in
set_option maxRecDepth 100000 in
theorem m_Fp_cheapest {a1 : Int32} {a2 : Int32} {a3 : Int32} {δ : Dm} {n : Nat} : ∀ x, f_Fp_cheapest a1 a2 a3 δ = some x → AMet k_Fp_cheapest 5 0 0 [.ref 4, .int a1, .int a2, .int a3] δ RT n (Km RT n x) := by
  refine aw_start (lo := [(0, .ref 4), (1, .int a1), (2, .int a2), (3, .int a3)]) mok_Fp_cheapest rfl (Nat.le_of_ble_eq_true rfl) ?_
  unfold f_Fp_cheapest
  refine aw_aload_n d_Fp_cheapest_0 0 rfl ?_
  refine aw_getR (t := 29) fl_Fp_57 kd_4 rt_4_9 d_Fp_cheapest_1 ?_
  refine aw_iload_n d_Fp_cheapest_4 1 rfl ?_
  refine aw_V_r (As := [.int a1]) (m_To_boothAt) cv_Fp_139 kd_29 rfl rfl rfl (Nat.le_of_ble_eq_true rfl) ⟨Nat.le_of_ble_eq_true rfl, Nat.le_of_ble_eq_true rfl⟩ ⟨Nat.le_refl _, Nat.le_refl _⟩ d_Fp_cheapest_5 ?_ (fun t5 => ?_)
  · refine aw_ifnullN (tgt := 19) d_Fp_cheapest_8 rfl ?_
    refine aw_iconst d_Fp_cheapest_19 ki_m1 ?_
    exact aw_iret rfl rfl ⟨Nat.le_refl _, Nat.le_refl _⟩ d_Fp_cheapest_20
  · refine aw_grd (fun ht5 => ?_)
    refine aw_ifnull d_Fp_cheapest_8 ?_
    refine aw_iload_n d_Fp_cheapest_11 2 rfl ?_
    refine aw_iload_n d_Fp_cheapest_12 3 rfl ?_
    refine aw_S_p (As := [.int a2, .int a3]) (m_Fp_isSpan) cs_Fp_310 rfl rfl (Nat.le_of_ble_eq_true rfl) ⟨Nat.le_of_ble_eq_true rfl, Nat.le_of_ble_eq_true rfl⟩ ⟨Nat.le_refl _, Nat.le_refl _⟩ d_Fp_cheapest_13 (fun y13 => ?_)
    refine aw_if_ne (tgt := 21) d_Fp_cheapest_16 rfl (fun q16 => ?_) (fun q16 => ?_)
    · refine aw_iconst d_Fp_cheapest_19 ki_m1 ?_
      exact aw_iret rfl rfl ⟨Nat.le_refl _, Nat.le_refl _⟩ d_Fp_cheapest_20
    · refine aw_iconst d_Fp_cheapest_21 ki_m1 ?_
      refine aw_istore (lo' := [(4, .int (-1 : Int32)), (0, .ref 4), (1, .int a1), (2, .int a2), (3, .int a3)]) d_Fp_cheapest_22 (by decide) rfl ?_
      refine aw_ldcw (v := (100000000 : Int32)) d_Fp_cheapest_24 kc_Fp_317 ?_
      refine aw_istore (lo' := [(5, .int (100000000 : Int32)), (4, .int (-1 : Int32)), (0, .ref 4), (1, .int a1), (2, .int a2), (3, .int a3)]) d_Fp_cheapest_27 (by decide) rfl ?_
      refine aw_iconst d_Fp_cheapest_29 ki_0 ?_
      refine aw_istore (lo' := [(6, .int (0 : Int32)), (5, .int (100000000 : Int32)), (4, .int (-1 : Int32)), (0, .ref 4), (1, .int a1), (2, .int a2), (3, .int a3)]) d_Fp_cheapest_30 (by decide) rfl ?_
      refine aw_sub (lo' := [(0, .ref 4), (1, .int a1), (2, .int a2), (3, .int a3), (4, .int (-1 : Int32)), (5, .int (100000000 : Int32)), (6, .int (0 : Int32))]) [3, 4, 5, 6, 2, 1, 0] rfl ?_
      refine tl_Fp_cheapest_32 _ _ _ _ (fun v4_32x v5_32x v6_32x δ32x => ?_) FU _ _ _ _
      · refine aw_iload d_Fp_cheapest_91 4 rfl ?_
        exact aw_iret rfl rfl ⟨Nat.le_refl _, Nat.le_refl _⟩ d_Fp_cheapest_93
def f_To_spotOf (a1 : Int32) (δ : Dm) : Option Int32 := ((f_To_slot 29 a1 δ).bind (fun o2 => ocs o2 (some (0 : Int32)) (fun t2 => if isB t2 = true then (some (gI δ t2 0)) else none)))
set_option maxHeartbeats 4000000 in
set_option maxRecDepth 100000 in
theorem m_To_spotOf {a1 : Int32} {δ : Dm} {n : Nat} : ∀ x, f_To_spotOf a1 δ = some x → AMet k_To_spotOf 2 0 0 [.ref 29, .int a1] δ RT n (Kp δ RT n x) := by
  refine aw_start (lo := [(0, .ref 29), (1, .int a1)]) mok_To_spotOf rfl (Nat.le_of_ble_eq_true rfl) ?_
  unfold f_To_spotOf
  refine aw_aload_n d_To_spotOf_0 0 rfl ?_
  refine aw_iload_n d_To_spotOf_1 1 rfl ?_
  refine aw_V_r (As := [.int a1]) (m_To_slot (by decide)) cv_To_69 kd_29 rfl rfl rfl (Nat.le_of_ble_eq_true rfl) ⟨Nat.le_of_ble_eq_true rfl, Nat.le_of_ble_eq_true rfl⟩ ⟨Nat.le_refl _, Nat.le_refl _⟩ d_To_spotOf_2 ?_ (fun t2 => ?_)
  · refine aw_astoreN_n (lo' := [(2, .null), (0, .ref 29), (1, .int a1)]) d_To_spotOf_5 rfl (by decide) rfl ?_
    refine aw_aloadN_n d_To_spotOf_6 0 rfl ?_
    refine aw_ifnonnullN d_To_spotOf_7 ?_
    refine aw_iconst d_To_spotOf_10 ki_0 ?_
    refine aw_goto (tgt := 18) d_To_spotOf_11 rfl ?_
    exact aw_iret rfl rfl ⟨Nat.le_refl _, Nat.le_refl _⟩ d_To_spotOf_18
  · refine aw_grd (fun ht2 => ?_)
    refine aw_astore_n (lo' := [(2, .ref t2), (0, .ref 29), (1, .int a1)]) d_To_spotOf_5 rfl (by decide) rfl ?_
    refine aw_aload_n d_To_spotOf_6 0 rfl ?_
    refine aw_ifnonnull (tgt := 14) d_To_spotOf_7 rfl ?_
    refine aw_aload_n d_To_spotOf_14 0 rfl ?_
    refine aw_getI fl_To_76 (fx_isBK ht2 0 (by decide)) d_To_spotOf_15 ?_
    exact aw_iret rfl rfl ⟨Nat.le_refl _, Nat.le_refl _⟩ d_To_spotOf_18
def f_Ro_milesBy (a2 : Int32) (a3 : Int32) (a4 : Int32) (δ : Dm) : Option Int32 := (bnd (a3 &&& (((1 : Int32) <<< (a4 &&& 31)) ^^^ (-1 : Int32))) (fun v8 => ((f_To_spotOf a4 δ).bind (fun y15 => ((f_To_between a2 y15 δ).bind (fun y18 => ((f_Fp_get 26 ((v8 * (8 : Int32)) + a4) δ).bind (fun y33 => (some (y18 + y33))))))))))
set_option maxHeartbeats 4000000 in
set_option maxRecDepth 100000 in
theorem m_Ro_milesBy {a2 : Int32} {a3 : Int32} {a4 : Int32} {δ : Dm} {n : Nat} : ∀ x, f_Ro_milesBy a2 a3 a4 δ = some x → AMet k_Ro_milesBy 3 0 0 [.ref 25, .ref 29, .int a2, .int a3, .int a4] δ RT n (Kp δ RT n x) := by
  refine aw_start (lo := [(0, .ref 25), (1, .ref 29), (2, .int a2), (3, .int a3), (4, .int a4)]) mok_Ro_milesBy rfl (Nat.le_of_ble_eq_true rfl) ?_
  unfold f_Ro_milesBy
  refine aw_iload_n d_Ro_milesBy_0 3 rfl ?_
  refine aw_iconst d_Ro_milesBy_1 ki_1 ?_
  refine aw_iload d_Ro_milesBy_2 4 rfl ?_
  refine aw_ishl d_Ro_milesBy_4 ?_
  refine aw_iconst d_Ro_milesBy_5 ki_m1 ?_
  refine aw_ixor d_Ro_milesBy_6 ?_
  refine aw_iand d_Ro_milesBy_7 ?_
  refine aw_bI (fun v8 => ?_)
  refine aw_istore (lo' := [(5, .int v8), (0, .ref 25), (1, .ref 29), (2, .int a2), (3, .int a3), (4, .int a4)]) d_Ro_milesBy_8 (by decide) rfl ?_
  refine aw_aload_n d_Ro_milesBy_10 2 rfl ?_
  refine aw_iload_n d_Ro_milesBy_11 3 rfl ?_
  refine aw_aload_n d_Ro_milesBy_12 2 rfl ?_
  refine aw_iload d_Ro_milesBy_13 5 rfl ?_
  refine aw_V_p (As := [.int a4]) (m_To_spotOf) cv_Ro_21 kd_29 rfl rfl rfl (Nat.le_of_ble_eq_true rfl) ⟨Nat.le_of_ble_eq_true rfl, Nat.le_of_ble_eq_true rfl⟩ ⟨Nat.le_refl _, Nat.le_refl _⟩ d_Ro_milesBy_15 (fun y15 => ?_)
  refine aw_V_p (As := [.int a2, .int y15]) (m_To_between) cv_Ro_25 kd_29 rfl rfl rfl (Nat.le_of_ble_eq_true rfl) ⟨Nat.le_of_ble_eq_true rfl, Nat.le_of_ble_eq_true rfl⟩ ⟨Nat.le_refl _, Nat.le_refl _⟩ d_Ro_milesBy_18 (fun y18 => ?_)
  refine aw_aload_n d_Ro_milesBy_21 1 rfl ?_
  refine aw_getR (t := 26) fl_Ro_9 kd_25 rt_25_0 d_Ro_milesBy_22 ?_
  refine aw_iload d_Ro_milesBy_25 0 rfl ?_
  refine aw_bipush d_Ro_milesBy_27 kb_8 ?_
  refine aw_imul d_Ro_milesBy_29 ?_
  refine aw_iload d_Ro_milesBy_30 5 rfl ?_
  refine aw_iadd d_Ro_milesBy_32 ?_
  refine aw_SN_p (As := [.ref 26, .int ((v8 * (8 : Int32)) + a4)]) (m_Fp_get (congrArg Prod.fst kd_26)) cs_Ro_47 rfl rfl (Nat.le_of_ble_eq_true rfl) ⟨Nat.le_of_ble_eq_true rfl, Nat.le_of_ble_eq_true rfl⟩ ⟨Nat.le_refl _, Nat.le_refl _⟩ d_Ro_milesBy_33 (fun y33 => ?_)
  refine aw_iadd d_Ro_milesBy_36 ?_
  exact aw_iret rfl rfl ⟨Nat.le_refl _, Nat.le_refl _⟩ d_Ro_milesBy_37
def lp_Ro_leastFrom_15 (kx15_56 : Int32 → Int32 → Option Int32) (a2 : Int32) (a3 : Int32) (δ : Dm) : Nat → Int32 → Int32 → Option Int32
  | 0, _, _ => none
  | f + 1, v4_15, v5_15 => (if (gI δ 29 2) ≤ v5_15 then (kx15_56 v4_15 v5_15) else (if ((a3 >>> (v5_15 &&& 31)) &&& (1 : Int32)) = (1 : Int32) then ((f_Ro_milesBy a2 a3 v5_15 δ).bind (fun y42 => (bnd (if y42 < v4_15 then y42 else v4_15) (fun v48 => (lp_Ro_leastFrom_15 kx15_56 a2 a3 δ f v48 (v5_15 + (1 : Int32))))))) else (lp_Ro_leastFrom_15 kx15_56 a2 a3 δ f v4_15 (v5_15 + (1 : Int32)))))
set_option maxHeartbeats 4000000 in
set_option maxRecDepth 100000 in
theorem tl_Ro_leastFrom_15 {n : Nat} (kx15_56 : Int32 → Int32 → Option Int32) (a2 : Int32) (a3 : Int32) (δ : Dm) (hkx15_56 : ∀ v4_15k v5_15k, AWo k_Ro_leastFrom 4 0 0 56 [(0, .ref 25), (1, .ref 29), (2, .int a2), (3, .int a3), (4, .int v4_15k), (5, .int v5_15k)] [] δ RT n 0 0 (Kp δ RT n) (kx15_56 v4_15k v5_15k)) : ∀ (f : Nat) (v4_15 : Int32) (v5_15 : Int32), AWo k_Ro_leastFrom 4 0 0 15 [(0, .ref 25), (1, .ref 29), (2, .int a2), (3, .int a3), (4, .int v4_15), (5, .int v5_15)] [] δ RT n 0 0 (Kp δ RT n) (lp_Ro_leastFrom_15 kx15_56 a2 a3 δ f v4_15 v5_15) := by
  intro f
  induction f with
  | zero => intro _ _; exact aw_none
  | succ f ih =>
    intro v4_15 v5_15
    rw [lp_Ro_leastFrom_15]
    refine aw_iload d_Ro_leastFrom_15 5 rfl ?_
    refine aw_aload_n d_Ro_leastFrom_17 1 rfl ?_
    refine aw_getI fl_Ro_15 kd_29 d_Ro_leastFrom_18 ?_
    refine aw_icmp_ge (tgt := 56) d_Ro_leastFrom_21 rfl (fun q21 => ?_) (fun q21 => ?_)
    · refine aw_sub (lo' := [(0, .ref 25), (1, .ref 29), (2, .int a2), (3, .int a3), (4, .int v4_15), (5, .int v5_15)]) [0, 1, 2, 3, 4, 5] rfl ?_
      exact hkx15_56 _ _
    · refine aw_iload_n d_Ro_leastFrom_24 3 rfl ?_
      refine aw_iload d_Ro_leastFrom_25 5 rfl ?_
      refine aw_ishr d_Ro_leastFrom_27 ?_
      refine aw_iconst d_Ro_leastFrom_28 ki_1 ?_
      refine aw_iand d_Ro_leastFrom_29 ?_
      refine aw_iconst d_Ro_leastFrom_30 ki_1 ?_
      refine aw_icmp_ne (tgt := 50) d_Ro_leastFrom_31 rfl (fun q31 => ?_) (fun q31 => ?_)
      · refine aw_iload d_Ro_leastFrom_34 4 rfl ?_
        refine aw_aload_n d_Ro_leastFrom_36 0 rfl ?_
        refine aw_aload_n d_Ro_leastFrom_37 1 rfl ?_
        refine aw_iload_n d_Ro_leastFrom_38 2 rfl ?_
        refine aw_iload_n d_Ro_leastFrom_39 3 rfl ?_
        refine aw_iload d_Ro_leastFrom_40 5 rfl ?_
        refine aw_V_p (As := [.ref 29, .int a2, .int a3, .int v5_15]) (m_Ro_milesBy) cv_Ro_38 kd_25 rfl rfl rfl (Nat.le_of_ble_eq_true rfl) ⟨Nat.le_of_ble_eq_true rfl, Nat.le_of_ble_eq_true rfl⟩ ⟨Nat.le_refl _, Nat.le_refl _⟩ d_Ro_leastFrom_42 (fun y42 => ?_)
        refine aw_minI ml_Ro_42 ms_minI mi_Ma mx_minI (Nat.le_of_ble_eq_true rfl) (Nat.le_of_ble_eq_true rfl) ⟨Nat.le_refl _, Nat.le_refl _⟩ d_Ro_leastFrom_45 ?_
        refine aw_bI (fun v48 => ?_)
        refine aw_istore (lo' := [(4, .int v48), (0, .ref 25), (1, .ref 29), (2, .int a2), (3, .int a3), (5, .int v5_15)]) d_Ro_leastFrom_48 (by decide) rfl ?_
        refine aw_iinc (v := (v5_15 + (1 : Int32))) (lo' := [(5, .int (v5_15 + (1 : Int32))), (4, .int v48), (0, .ref 25), (1, .ref 29), (2, .int a2), (3, .int a3)]) d_Ro_leastFrom_50 5 rfl (by rw [show Int32.ofInt (1) = (1 : Int32) from by decide]) (by decide) rfl ?_
        refine aw_goto (tgt := 15) d_Ro_leastFrom_53 rfl ?_
        refine aw_sub (lo' := [(0, .ref 25), (1, .ref 29), (2, .int a2), (3, .int a3), (4, .int v48), (5, .int (v5_15 + (1 : Int32)))]) [2, 3, 4, 5, 1, 0] rfl ?_
        exact ih _ _
      · refine aw_iinc (v := (v5_15 + (1 : Int32))) (lo' := [(5, .int (v5_15 + (1 : Int32))), (0, .ref 25), (1, .ref 29), (2, .int a2), (3, .int a3), (4, .int v4_15)]) d_Ro_leastFrom_50 5 rfl (by rw [show Int32.ofInt (1) = (1 : Int32) from by decide]) (by decide) rfl ?_
        refine aw_goto (tgt := 15) d_Ro_leastFrom_53 rfl ?_
        refine aw_sub (lo' := [(0, .ref 25), (1, .ref 29), (2, .int a2), (3, .int a3), (4, .int v4_15), (5, .int (v5_15 + (1 : Int32)))]) [1, 2, 3, 4, 5, 0] rfl ?_
        exact ih _ _
def jp_Ro_leastFrom_10 (a2 : Int32) (a3 : Int32) (δ : Dm) (s0_10 : Int32) : Option Int32 := (lp_Ro_leastFrom_15 (fun v4_15x v5_15x => (some v4_15x)) a2 a3 δ FU s0_10 (0 : Int32))
set_option maxHeartbeats 4000000 in
set_option maxRecDepth 100000 in
theorem tj_Ro_leastFrom_10 {n : Nat} (a2 : Int32) (a3 : Int32) (δ : Dm) (s0_10 : Int32) : AWo k_Ro_leastFrom 4 0 0 10 [(0, .ref 25), (1, .ref 29), (2, .int a2), (3, .int a3)] [.int s0_10] δ RT n 0 0 (Kp δ RT n) (jp_Ro_leastFrom_10 a2 a3 δ s0_10) := by
  unfold jp_Ro_leastFrom_10
  refine aw_istore (lo' := [(4, .int s0_10), (0, .ref 25), (1, .ref 29), (2, .int a2), (3, .int a3)]) d_Ro_leastFrom_10 (by decide) rfl ?_
  refine aw_iconst d_Ro_leastFrom_12 ki_0 ?_
  refine aw_istore (lo' := [(5, .int (0 : Int32)), (4, .int s0_10), (0, .ref 25), (1, .ref 29), (2, .int a2), (3, .int a3)]) d_Ro_leastFrom_13 (by decide) rfl ?_
  refine aw_sub (lo' := [(0, .ref 25), (1, .ref 29), (2, .int a2), (3, .int a3), (4, .int s0_10), (5, .int (0 : Int32))]) [2, 3, 4, 5, 1, 0] rfl ?_
  refine tl_Ro_leastFrom_15 _ _ _ _ (fun v4_15x v5_15x => ?_) FU _ _
  · refine aw_iload d_Ro_leastFrom_56 4 rfl ?_
    exact aw_iret rfl rfl ⟨Nat.le_refl _, Nat.le_refl _⟩ d_Ro_leastFrom_58
def f_Ro_leastFrom (a2 : Int32) (a3 : Int32) (δ : Dm) : Option Int32 := (if a3 = 0 then (jp_Ro_leastFrom_10 a2 a3 δ (0 : Int32)) else (jp_Ro_leastFrom_10 a2 a3 δ (1000000 : Int32)))
set_option maxHeartbeats 4000000 in
set_option maxRecDepth 100000 in
theorem m_Ro_leastFrom {a2 : Int32} {a3 : Int32} {δ : Dm} {n : Nat} : ∀ x, f_Ro_leastFrom a2 a3 δ = some x → AMet k_Ro_leastFrom 4 0 0 [.ref 25, .ref 29, .int a2, .int a3] δ RT n (Kp δ RT n x) := by
  refine aw_start (lo := [(0, .ref 25), (1, .ref 29), (2, .int a2), (3, .int a3)]) mok_Ro_leastFrom rfl (Nat.le_of_ble_eq_true rfl) ?_
  unfold f_Ro_leastFrom
  refine aw_iload_n d_Ro_leastFrom_0 3 rfl ?_
  refine aw_if_ne (tgt := 8) d_Ro_leastFrom_1 rfl (fun q1 => ?_) (fun q1 => ?_)
  · refine aw_iconst d_Ro_leastFrom_4 ki_0 ?_
    refine aw_goto (tgt := 10) d_Ro_leastFrom_5 rfl ?_
    refine aw_sub (lo' := [(0, .ref 25), (1, .ref 29), (2, .int a2), (3, .int a3)]) [0, 1, 2, 3] rfl ?_
    exact tj_Ro_leastFrom_10 _ _ _ _
  · refine aw_ldc (v := (1000000 : Int32)) d_Ro_leastFrom_8 kc_Ro_37 ?_
    refine aw_sub (lo' := [(0, .ref 25), (1, .ref 29), (2, .int a2), (3, .int a3)]) [0, 1, 2, 3] rfl ?_
    exact tj_Ro_leastFrom_10 _ _ _ _
def jp_Ro_plan_54 (kr15 : Int32 → Dm → Option Dm) (kx15_78 : Int32 → Dm → Option Dm) (a2 : Int32) (v3_2 : Int32) (v4_15 : Int32) (y27 : Int32) (δ15 : Dm) (s0_54 : Int32) : Option Dm := ((f_Fp_put 26 ((v3_2 * (8 : Int32)) + v4_15) s0_54 δ15).bind (fun y69 => (kr15 (v4_15 + (1 : Int32)) y69)))
set_option maxHeartbeats 4000000 in
set_option maxRecDepth 100000 in
theorem tj_Ro_plan_54 {n : Nat} (kr15 : Int32 → Dm → Option Dm) (kx15_78 : Int32 → Dm → Option Dm) (a2 : Int32) (v3_2 : Int32) (v4_15 : Int32) (y27 : Int32) (δ15 : Dm) (s0_54 : Int32) (hkr15 : ∀ v4_15k δ15k, AWo k_Ro_plan 5 0 0 15 [(0, .ref 25), (1, .ref 29), (2, .int a2), (3, .int v3_2), (4, .int v4_15k)] [] δ15k RT n 0 0 (Kv RT n) (kr15 v4_15k δ15k)) (hkx15_78 : ∀ v4_15k δ15k, AWo k_Ro_plan 5 0 0 78 [(0, .ref 25), (1, .ref 29), (2, .int a2), (3, .int v3_2), (4, .int v4_15k)] [] δ15k RT n 0 0 (Kv RT n) (kx15_78 v4_15k δ15k)) : AWo k_Ro_plan 5 0 0 54 [(0, .ref 25), (1, .ref 29), (2, .int a2), (3, .int v3_2), (4, .int v4_15), (5, .int y27)] [.int s0_54] δ15 RT n 0 0 (Kv RT n) (jp_Ro_plan_54 kr15 kx15_78 a2 v3_2 v4_15 y27 δ15 s0_54) := by
  unfold jp_Ro_plan_54
  refine aw_istore (lo' := [(6, .int s0_54), (0, .ref 25), (1, .ref 29), (2, .int a2), (3, .int v3_2), (4, .int v4_15), (5, .int y27)]) d_Ro_plan_54 (by decide) rfl ?_
  refine aw_aload_n d_Ro_plan_56 1 rfl ?_
  refine aw_getR (t := 26) fl_Ro_9 kd_25 rt_25_0 d_Ro_plan_57 ?_
  refine aw_iload_n d_Ro_plan_60 4 rfl ?_
  refine aw_bipush d_Ro_plan_61 kb_8 ?_
  refine aw_imul d_Ro_plan_63 ?_
  refine aw_iload d_Ro_plan_64 5 rfl ?_
  refine aw_iadd d_Ro_plan_66 ?_
  refine aw_iload d_Ro_plan_67 0 rfl ?_
  refine aw_SN_v (As := [.ref 26, .int ((v3_2 * (8 : Int32)) + v4_15), .int s0_54]) (m_Fp_put (congrArg Prod.fst kd_26)) cs_Ro_33 rfl rfl (Nat.le_of_ble_eq_true rfl) ⟨Nat.le_of_ble_eq_true rfl, Nat.le_of_ble_eq_true rfl⟩ ⟨Nat.le_refl _, Nat.le_refl _⟩ d_Ro_plan_69 (fun y69 => ?_)
  refine aw_iinc (v := (v4_15 + (1 : Int32))) (lo' := [(4, .int (v4_15 + (1 : Int32))), (6, .int s0_54), (0, .ref 25), (1, .ref 29), (2, .int a2), (3, .int v3_2), (5, .int y27)]) d_Ro_plan_72 5 rfl (by rw [show Int32.ofInt (1) = (1 : Int32) from by decide]) (by decide) rfl ?_
  refine aw_goto (tgt := 15) d_Ro_plan_75 rfl ?_
  refine aw_sub (lo' := [(0, .ref 25), (1, .ref 29), (2, .int a2), (3, .int v3_2), (4, .int (v4_15 + (1 : Int32)))]) [2, 3, 4, 5, 0] rfl ?_
  exact hkr15 _ _
def lp_Ro_plan_15 (kx15_78 : Int32 → Dm → Option Dm) (a2 : Int32) (v3_2 : Int32) : Nat → Int32 → Dm → Option Dm
  | 0, _, _ => none
  | f + 1, v4_15, δ15 => (if (gI δ15 29 2) ≤ v4_15 then (kx15_78 v4_15 δ15) else ((f_To_spotOf v4_15 δ15).bind (fun y27 => (if v3_2 = 0 then ((f_To_between y27 a2 δ15).bind (fun y40 => (jp_Ro_plan_54 (lp_Ro_plan_15 kx15_78 a2 v3_2 f) kx15_78 a2 v3_2 v4_15 y27 δ15 y40))) else ((f_Ro_leastFrom y27 v3_2 δ15).bind (fun y51 => (jp_Ro_plan_54 (lp_Ro_plan_15 kx15_78 a2 v3_2 f) kx15_78 a2 v3_2 v4_15 y27 δ15 y51)))))))
set_option maxHeartbeats 4000000 in
set_option maxRecDepth 100000 in
theorem tl_Ro_plan_15 {n : Nat} (kx15_78 : Int32 → Dm → Option Dm) (a2 : Int32) (v3_2 : Int32) (hkx15_78 : ∀ v4_15k δ15k, AWo k_Ro_plan 5 0 0 78 [(0, .ref 25), (1, .ref 29), (2, .int a2), (3, .int v3_2), (4, .int v4_15k)] [] δ15k RT n 0 0 (Kv RT n) (kx15_78 v4_15k δ15k)) : ∀ (f : Nat) (v4_15 : Int32) (δ15 : Dm), AWo k_Ro_plan 5 0 0 15 [(0, .ref 25), (1, .ref 29), (2, .int a2), (3, .int v3_2), (4, .int v4_15)] [] δ15 RT n 0 0 (Kv RT n) (lp_Ro_plan_15 kx15_78 a2 v3_2 f v4_15 δ15) := by
  intro f
  induction f with
  | zero => intro _ _; exact aw_none
  | succ f ih =>
    intro v4_15 δ15
    rw [lp_Ro_plan_15]
    refine aw_iload d_Ro_plan_15 4 rfl ?_
    refine aw_aload_n d_Ro_plan_17 1 rfl ?_
    refine aw_getI fl_Ro_15 kd_29 d_Ro_plan_18 ?_
    refine aw_icmp_ge (tgt := 78) d_Ro_plan_21 rfl (fun q21 => ?_) (fun q21 => ?_)
    · refine aw_sub (lo' := [(0, .ref 25), (1, .ref 29), (2, .int a2), (3, .int v3_2), (4, .int v4_15)]) [0, 1, 2, 3, 4] rfl ?_
      exact hkx15_78 _ _
    · refine aw_aload_n d_Ro_plan_24 1 rfl ?_
      refine aw_iload d_Ro_plan_25 4 rfl ?_
      refine aw_V_p (As := [.int v4_15]) (m_To_spotOf) cv_Ro_21 kd_29 rfl rfl rfl (Nat.le_of_ble_eq_true rfl) ⟨Nat.le_of_ble_eq_true rfl, Nat.le_of_ble_eq_true rfl⟩ ⟨Nat.le_refl _, Nat.le_refl _⟩ d_Ro_plan_27 (fun y27 => ?_)
      refine aw_istore (lo' := [(5, .int y27), (0, .ref 25), (1, .ref 29), (2, .int a2), (3, .int v3_2), (4, .int v4_15)]) d_Ro_plan_30 (by decide) rfl ?_
      refine aw_iload_n d_Ro_plan_32 4 rfl ?_
      refine aw_if_ne (tgt := 46) d_Ro_plan_33 rfl (fun q33 => ?_) (fun q33 => ?_)
      · refine aw_aload_n d_Ro_plan_36 2 rfl ?_
        refine aw_iload d_Ro_plan_37 0 rfl ?_
        refine aw_iload_n d_Ro_plan_39 3 rfl ?_
        refine aw_V_p (As := [.int y27, .int a2]) (m_To_between) cv_Ro_25 kd_29 rfl rfl rfl (Nat.le_of_ble_eq_true rfl) ⟨Nat.le_of_ble_eq_true rfl, Nat.le_of_ble_eq_true rfl⟩ ⟨Nat.le_refl _, Nat.le_refl _⟩ d_Ro_plan_40 (fun y40 => ?_)
        refine aw_goto (tgt := 54) d_Ro_plan_43 rfl ?_
        refine aw_sub (lo' := [(0, .ref 25), (1, .ref 29), (2, .int a2), (3, .int v3_2), (4, .int v4_15), (5, .int y27)]) [1, 2, 3, 4, 5, 0] rfl ?_
        exact tj_Ro_plan_54 _ _ _ _ _ _ _ _ ih hkx15_78
      · refine aw_aload_n d_Ro_plan_46 1 rfl ?_
        refine aw_aload_n d_Ro_plan_47 2 rfl ?_
        refine aw_iload d_Ro_plan_48 0 rfl ?_
        refine aw_iload_n d_Ro_plan_50 4 rfl ?_
        refine aw_V_p (As := [.ref 29, .int y27, .int v3_2]) (m_Ro_leastFrom) cv_Ro_29 kd_25 rfl rfl rfl (Nat.le_of_ble_eq_true rfl) ⟨Nat.le_of_ble_eq_true rfl, Nat.le_of_ble_eq_true rfl⟩ ⟨Nat.le_refl _, Nat.le_refl _⟩ d_Ro_plan_51 (fun y51 => ?_)
        refine aw_sub (lo' := [(0, .ref 25), (1, .ref 29), (2, .int a2), (3, .int v3_2), (4, .int v4_15), (5, .int y27)]) [1, 2, 3, 4, 5, 0] rfl ?_
        exact tj_Ro_plan_54 _ _ _ _ _ _ _ _ ih hkx15_78
def lp_Ro_plan_2 (kx2_84 : Int32 → Dm → Option Dm) (a2 : Int32) : Nat → Int32 → Dm → Option Dm
  | 0, _, _ => none
  | f + 1, v3_2, δ2 => (if ((1 : Int32) <<< ((gI δ2 29 2) &&& 31)) ≤ v3_2 then (kx2_84 v3_2 δ2) else (lp_Ro_plan_15 (fun v4_15x δ15x => (lp_Ro_plan_2 kx2_84 a2 f (v3_2 + (1 : Int32)) δ15x)) a2 v3_2 FU (0 : Int32) δ2))
set_option maxHeartbeats 4000000 in
set_option maxRecDepth 100000 in
theorem tl_Ro_plan_2 {n : Nat} (kx2_84 : Int32 → Dm → Option Dm) (a2 : Int32) (hkx2_84 : ∀ v3_2k δ2k, AWo k_Ro_plan 5 0 0 84 [(0, .ref 25), (1, .ref 29), (2, .int a2), (3, .int v3_2k)] [] δ2k RT n 0 0 (Kv RT n) (kx2_84 v3_2k δ2k)) : ∀ (f : Nat) (v3_2 : Int32) (δ2 : Dm), AWo k_Ro_plan 5 0 0 2 [(0, .ref 25), (1, .ref 29), (2, .int a2), (3, .int v3_2)] [] δ2 RT n 0 0 (Kv RT n) (lp_Ro_plan_2 kx2_84 a2 f v3_2 δ2) := by
  intro f
  induction f with
  | zero => intro _ _; exact aw_none
  | succ f ih =>
    intro v3_2 δ2
    rw [lp_Ro_plan_2]
    refine aw_iload_n d_Ro_plan_2 3 rfl ?_
    refine aw_iconst d_Ro_plan_3 ki_1 ?_
    refine aw_aload_n d_Ro_plan_4 1 rfl ?_
    refine aw_getI fl_Ro_15 kd_29 d_Ro_plan_5 ?_
    refine aw_ishl d_Ro_plan_8 ?_
    refine aw_icmp_ge (tgt := 84) d_Ro_plan_9 rfl (fun q9 => ?_) (fun q9 => ?_)
    · refine aw_sub (lo' := [(0, .ref 25), (1, .ref 29), (2, .int a2), (3, .int v3_2)]) [0, 1, 2, 3] rfl ?_
      exact hkx2_84 _ _
    · refine aw_iconst d_Ro_plan_12 ki_0 ?_
      refine aw_istore (lo' := [(4, .int (0 : Int32)), (0, .ref 25), (1, .ref 29), (2, .int a2), (3, .int v3_2)]) d_Ro_plan_13 (by decide) rfl ?_
      refine aw_sub (lo' := [(0, .ref 25), (1, .ref 29), (2, .int a2), (3, .int v3_2), (4, .int (0 : Int32))]) [1, 2, 3, 4, 0] rfl ?_
      refine tl_Ro_plan_15 _ _ _ (fun v4_15x δ15x => ?_) FU _ _
      · refine aw_iinc (v := (v3_2 + (1 : Int32))) (lo' := [(3, .int (v3_2 + (1 : Int32))), (0, .ref 25), (1, .ref 29), (2, .int a2), (4, .int v4_15x)]) d_Ro_plan_78 3 rfl (by rw [show Int32.ofInt (1) = (1 : Int32) from by decide]) (by decide) rfl ?_
        refine aw_goto (tgt := 2) d_Ro_plan_81 rfl ?_
        refine aw_sub (lo' := [(0, .ref 25), (1, .ref 29), (2, .int a2), (3, .int (v3_2 + (1 : Int32)))]) [1, 2, 3, 0] rfl ?_
        exact ih _ _
def f_Ro_plan (a2 : Int32) (δ : Dm) : Option Dm := (lp_Ro_plan_2 (fun v3_2x δ2x => (some δ2x)) a2 FU (0 : Int32) δ)
set_option maxHeartbeats 4000000 in
set_option maxRecDepth 100000 in
theorem m_Ro_plan {a2 : Int32} {δ : Dm} {n : Nat} : ∀ x, f_Ro_plan a2 δ = some x → AMet k_Ro_plan 5 0 0 [.ref 25, .ref 29, .int a2] δ RT n (Kv RT n x) := by
  refine aw_start (lo := [(0, .ref 25), (1, .ref 29), (2, .int a2)]) mok_Ro_plan rfl (Nat.le_of_ble_eq_true rfl) ?_
  unfold f_Ro_plan
  refine aw_iconst d_Ro_plan_0 ki_0 ?_
  refine aw_istore_n (lo' := [(3, .int (0 : Int32)), (0, .ref 25), (1, .ref 29), (2, .int a2)]) d_Ro_plan_1 rfl (by decide) rfl ?_
  refine aw_sub (lo' := [(0, .ref 25), (1, .ref 29), (2, .int a2), (3, .int (0 : Int32))]) [1, 2, 3, 0] rfl ?_
  refine tl_Ro_plan_2 _ _ (fun v3_2x δ2x => ?_) FU _ _
  · exact aw_vret rfl rfl ⟨Nat.le_refl _, Nat.le_refl _⟩ d_Ro_plan_84
def lp_Ro_firstOf_12 (kx12_54 : Int32 → Option Int32) (a2 : Int32) (a3 : Int32) (y4 : Int32) (δ : Dm) : Nat → Int32 → Option Int32
  | 0, _ => none
  | f + 1, v5_12 => (if (gI δ 29 2) ≤ v5_12 then (kx12_54 v5_12) else (if ((a3 >>> (v5_12 &&& 31)) &&& (1 : Int32)) = (1 : Int32) then ((f_Ro_milesBy a2 a3 v5_12 δ).bind (fun y37 => (if y37 = y4 then (some v5_12) else (lp_Ro_firstOf_12 kx12_54 a2 a3 y4 δ f (v5_12 + (1 : Int32)))))) else (lp_Ro_firstOf_12 kx12_54 a2 a3 y4 δ f (v5_12 + (1 : Int32)))))
set_option maxHeartbeats 4000000 in
set_option maxRecDepth 100000 in
theorem tl_Ro_firstOf_12 {n : Nat} (kx12_54 : Int32 → Option Int32) (a2 : Int32) (a3 : Int32) (y4 : Int32) (δ : Dm) (hkx12_54 : ∀ v5_12k, AWo k_Ro_firstOf 5 0 0 54 [(0, .ref 25), (1, .ref 29), (2, .int a2), (3, .int a3), (4, .int y4), (5, .int v5_12k)] [] δ RT n 0 0 (Kp δ RT n) (kx12_54 v5_12k)) : ∀ (f : Nat) (v5_12 : Int32), AWo k_Ro_firstOf 5 0 0 12 [(0, .ref 25), (1, .ref 29), (2, .int a2), (3, .int a3), (4, .int y4), (5, .int v5_12)] [] δ RT n 0 0 (Kp δ RT n) (lp_Ro_firstOf_12 kx12_54 a2 a3 y4 δ f v5_12) := by
  intro f
  induction f with
  | zero => intro _; exact aw_none
  | succ f ih =>
    intro v5_12
    rw [lp_Ro_firstOf_12]
    refine aw_iload d_Ro_firstOf_12 5 rfl ?_
    refine aw_aload_n d_Ro_firstOf_14 1 rfl ?_
    refine aw_getI fl_Ro_15 kd_29 d_Ro_firstOf_15 ?_
    refine aw_icmp_ge (tgt := 54) d_Ro_firstOf_18 rfl (fun q18 => ?_) (fun q18 => ?_)
    · refine aw_sub (lo' := [(0, .ref 25), (1, .ref 29), (2, .int a2), (3, .int a3), (4, .int y4), (5, .int v5_12)]) [0, 1, 2, 3, 4, 5] rfl ?_
      exact hkx12_54 _
    · refine aw_iload_n d_Ro_firstOf_21 3 rfl ?_
      refine aw_iload d_Ro_firstOf_22 5 rfl ?_
      refine aw_ishr d_Ro_firstOf_24 ?_
      refine aw_iconst d_Ro_firstOf_25 ki_1 ?_
      refine aw_iand d_Ro_firstOf_26 ?_
      refine aw_iconst d_Ro_firstOf_27 ki_1 ?_
      refine aw_icmp_ne (tgt := 48) d_Ro_firstOf_28 rfl (fun q28 => ?_) (fun q28 => ?_)
      · refine aw_aload_n d_Ro_firstOf_31 0 rfl ?_
        refine aw_aload_n d_Ro_firstOf_32 1 rfl ?_
        refine aw_iload_n d_Ro_firstOf_33 2 rfl ?_
        refine aw_iload_n d_Ro_firstOf_34 3 rfl ?_
        refine aw_iload d_Ro_firstOf_35 5 rfl ?_
        refine aw_V_p (As := [.ref 29, .int a2, .int a3, .int v5_12]) (m_Ro_milesBy) cv_Ro_38 kd_25 rfl rfl rfl (Nat.le_of_ble_eq_true rfl) ⟨Nat.le_of_ble_eq_true rfl, Nat.le_of_ble_eq_true rfl⟩ ⟨Nat.le_refl _, Nat.le_refl _⟩ d_Ro_firstOf_37 (fun y37 => ?_)
        refine aw_iload d_Ro_firstOf_40 4 rfl ?_
        refine aw_icmp_ne (tgt := 48) d_Ro_firstOf_42 rfl (fun q42 => ?_) (fun q42 => ?_)
        · refine aw_iload d_Ro_firstOf_45 5 rfl ?_
          exact aw_iret rfl rfl ⟨Nat.le_refl _, Nat.le_refl _⟩ d_Ro_firstOf_47
        · refine aw_iinc (v := (v5_12 + (1 : Int32))) (lo' := [(5, .int (v5_12 + (1 : Int32))), (0, .ref 25), (1, .ref 29), (2, .int a2), (3, .int a3), (4, .int y4)]) d_Ro_firstOf_48 5 rfl (by rw [show Int32.ofInt (1) = (1 : Int32) from by decide]) (by decide) rfl ?_
          refine aw_goto (tgt := 12) d_Ro_firstOf_51 rfl ?_
          refine aw_sub (lo' := [(0, .ref 25), (1, .ref 29), (2, .int a2), (3, .int a3), (4, .int y4), (5, .int (v5_12 + (1 : Int32)))]) [1, 2, 3, 4, 5, 0] rfl ?_
          exact ih _
      · refine aw_iinc (v := (v5_12 + (1 : Int32))) (lo' := [(5, .int (v5_12 + (1 : Int32))), (0, .ref 25), (1, .ref 29), (2, .int a2), (3, .int a3), (4, .int y4)]) d_Ro_firstOf_48 5 rfl (by rw [show Int32.ofInt (1) = (1 : Int32) from by decide]) (by decide) rfl ?_
        refine aw_goto (tgt := 12) d_Ro_firstOf_51 rfl ?_
        refine aw_sub (lo' := [(0, .ref 25), (1, .ref 29), (2, .int a2), (3, .int a3), (4, .int y4), (5, .int (v5_12 + (1 : Int32)))]) [1, 2, 3, 4, 5, 0] rfl ?_
        exact ih _
def f_Ro_firstOf (a2 : Int32) (a3 : Int32) (δ : Dm) : Option Int32 := ((f_Ro_leastFrom a2 a3 δ).bind (fun y4 => (lp_Ro_firstOf_12 (fun v5_12x => (some (-1 : Int32))) a2 a3 y4 δ FU (0 : Int32))))
set_option maxHeartbeats 4000000 in
set_option maxRecDepth 100000 in
theorem m_Ro_firstOf {a2 : Int32} {a3 : Int32} {δ : Dm} {n : Nat} : ∀ x, f_Ro_firstOf a2 a3 δ = some x → AMet k_Ro_firstOf 5 0 0 [.ref 25, .ref 29, .int a2, .int a3] δ RT n (Kp δ RT n x) := by
  refine aw_start (lo := [(0, .ref 25), (1, .ref 29), (2, .int a2), (3, .int a3)]) mok_Ro_firstOf rfl (Nat.le_of_ble_eq_true rfl) ?_
  unfold f_Ro_firstOf
  refine aw_aload_n d_Ro_firstOf_0 0 rfl ?_
  refine aw_aload_n d_Ro_firstOf_1 1 rfl ?_
  refine aw_iload_n d_Ro_firstOf_2 2 rfl ?_
  refine aw_iload_n d_Ro_firstOf_3 3 rfl ?_
  refine aw_V_p (As := [.ref 29, .int a2, .int a3]) (m_Ro_leastFrom) cv_Ro_29 kd_25 rfl rfl rfl (Nat.le_of_ble_eq_true rfl) ⟨Nat.le_of_ble_eq_true rfl, Nat.le_of_ble_eq_true rfl⟩ ⟨Nat.le_refl _, Nat.le_refl _⟩ d_Ro_firstOf_4 (fun y4 => ?_)
  refine aw_istore (lo' := [(4, .int y4), (0, .ref 25), (1, .ref 29), (2, .int a2), (3, .int a3)]) d_Ro_firstOf_7 (by decide) rfl ?_
  refine aw_iconst d_Ro_firstOf_9 ki_0 ?_
  refine aw_istore (lo' := [(5, .int (0 : Int32)), (4, .int y4), (0, .ref 25), (1, .ref 29), (2, .int a2), (3, .int a3)]) d_Ro_firstOf_10 (by decide) rfl ?_
  refine aw_sub (lo' := [(0, .ref 25), (1, .ref 29), (2, .int a2), (3, .int a3), (4, .int y4), (5, .int (0 : Int32))]) [2, 3, 4, 5, 1, 0] rfl ?_
  refine tl_Ro_firstOf_12 _ _ _ _ _ (fun v5_12x => ?_) FU _
  · refine aw_iconst d_Ro_firstOf_54 ki_m1 ?_
    exact aw_iret rfl rfl ⟨Nat.le_refl _, Nat.le_refl _⟩ d_Ro_firstOf_55
def lp_Ro_stop_12 (kx12_63 : Int32 → Int32 → Int32 → Int32 → Option Int32) (a2 : Int32) (a3 : Int32) (a4 : Int32) (δ : Dm) : Nat → Int32 → Int32 → Int32 → Int32 → Option Int32
  | 0, _, _, _, _ => none
  | f + 1, v5_12, v6_12, v7_12, v8_12 => (if a4 < v8_12 then (kx12_63 v5_12 v6_12 v7_12 v8_12) else ((f_Ro_firstOf v5_12 v6_12 δ).bind (fun y25 => (if y25 = (-1 : Int32) then (some (-1 : Int32)) else ((f_To_spotOf y25 δ).bind (fun y41 => (bnd (v6_12 &&& (((1 : Int32) <<< (y25 &&& 31)) ^^^ (-1 : Int32))) (fun v55 => (lp_Ro_stop_12 kx12_63 a2 a3 a4 δ f y41 v55 y25 (v8_12 + (1 : Int32)))))))))))
set_option maxHeartbeats 4000000 in
set_option maxRecDepth 100000 in
theorem tl_Ro_stop_12 {n : Nat} (kx12_63 : Int32 → Int32 → Int32 → Int32 → Option Int32) (a2 : Int32) (a3 : Int32) (a4 : Int32) (δ : Dm) (hkx12_63 : ∀ v5_12k v6_12k v7_12k v8_12k, AWo k_Ro_stop 6 0 0 63 [(0, .ref 25), (1, .ref 29), (2, .int a2), (3, .int a3), (4, .int a4), (5, .int v5_12k), (6, .int v6_12k), (7, .int v7_12k), (8, .int v8_12k)] [] δ RT n 0 0 (Kp δ RT n) (kx12_63 v5_12k v6_12k v7_12k v8_12k)) : ∀ (f : Nat) (v5_12 : Int32) (v6_12 : Int32) (v7_12 : Int32) (v8_12 : Int32), AWo k_Ro_stop 6 0 0 12 [(0, .ref 25), (1, .ref 29), (2, .int a2), (3, .int a3), (4, .int a4), (5, .int v5_12), (6, .int v6_12), (7, .int v7_12), (8, .int v8_12)] [] δ RT n 0 0 (Kp δ RT n) (lp_Ro_stop_12 kx12_63 a2 a3 a4 δ f v5_12 v6_12 v7_12 v8_12) := by
  intro f
  induction f with
  | zero => intro _ _ _ _; exact aw_none
  | succ f ih =>
    intro v5_12 v6_12 v7_12 v8_12
    rw [lp_Ro_stop_12]
    refine aw_iload d_Ro_stop_12 8 rfl ?_
    refine aw_iload d_Ro_stop_14 4 rfl ?_
    refine aw_icmp_gt (tgt := 63) d_Ro_stop_16 rfl (fun q16 => ?_) (fun q16 => ?_)
    · refine aw_sub (lo' := [(0, .ref 25), (1, .ref 29), (2, .int a2), (3, .int a3), (4, .int a4), (5, .int v5_12), (6, .int v6_12), (7, .int v7_12), (8, .int v8_12)]) [0, 1, 2, 3, 4, 5, 6, 7, 8] rfl ?_
      exact hkx12_63 _ _ _ _
    · refine aw_aload_n d_Ro_stop_19 0 rfl ?_
      refine aw_aload_n d_Ro_stop_20 1 rfl ?_
      refine aw_iload d_Ro_stop_21 5 rfl ?_
      refine aw_iload d_Ro_stop_23 6 rfl ?_
      refine aw_V_p (As := [.ref 29, .int v5_12, .int v6_12]) (m_Ro_firstOf) cv_Ro_51 kd_25 rfl rfl rfl (Nat.le_of_ble_eq_true rfl) ⟨Nat.le_of_ble_eq_true rfl, Nat.le_of_ble_eq_true rfl⟩ ⟨Nat.le_refl _, Nat.le_refl _⟩ d_Ro_stop_25 (fun y25 => ?_)
      refine aw_istore (lo' := [(7, .int y25), (0, .ref 25), (1, .ref 29), (2, .int a2), (3, .int a3), (4, .int a4), (5, .int v5_12), (6, .int v6_12), (8, .int v8_12)]) d_Ro_stop_28 (by decide) rfl ?_
      refine aw_iload d_Ro_stop_30 0 rfl ?_
      refine aw_iconst d_Ro_stop_32 ki_m1 ?_
      refine aw_icmp_ne (tgt := 38) d_Ro_stop_33 rfl (fun q33 => ?_) (fun q33 => ?_)
      · refine aw_iconst d_Ro_stop_36 ki_m1 ?_
        exact aw_iret rfl rfl ⟨Nat.le_refl _, Nat.le_refl _⟩ d_Ro_stop_37
      · refine aw_aload_n d_Ro_stop_38 2 rfl ?_
        refine aw_iload d_Ro_stop_39 0 rfl ?_
        refine aw_V_p (As := [.int y25]) (m_To_spotOf) cv_Ro_21 kd_29 rfl rfl rfl (Nat.le_of_ble_eq_true rfl) ⟨Nat.le_of_ble_eq_true rfl, Nat.le_of_ble_eq_true rfl⟩ ⟨Nat.le_refl _, Nat.le_refl _⟩ d_Ro_stop_41 (fun y41 => ?_)
        refine aw_istore (lo' := [(5, .int y41), (7, .int y25), (0, .ref 25), (1, .ref 29), (2, .int a2), (3, .int a3), (4, .int a4), (6, .int v6_12), (8, .int v8_12)]) d_Ro_stop_44 (by decide) rfl ?_
        refine aw_iload d_Ro_stop_46 7 rfl ?_
        refine aw_iconst d_Ro_stop_48 ki_1 ?_
        refine aw_iload d_Ro_stop_49 1 rfl ?_
        refine aw_ishl d_Ro_stop_51 ?_
        refine aw_iconst d_Ro_stop_52 ki_m1 ?_
        refine aw_ixor d_Ro_stop_53 ?_
        refine aw_iand d_Ro_stop_54 ?_
        refine aw_bI (fun v55 => ?_)
        refine aw_istore (lo' := [(6, .int v55), (5, .int y41), (7, .int y25), (0, .ref 25), (1, .ref 29), (2, .int a2), (3, .int a3), (4, .int a4), (8, .int v8_12)]) d_Ro_stop_55 (by decide) rfl ?_
        refine aw_iinc (v := (v8_12 + (1 : Int32))) (lo' := [(8, .int (v8_12 + (1 : Int32))), (6, .int v55), (5, .int y41), (7, .int y25), (0, .ref 25), (1, .ref 29), (2, .int a2), (3, .int a3), (4, .int a4)]) d_Ro_stop_57 8 rfl (by rw [show Int32.ofInt (1) = (1 : Int32) from by decide]) (by decide) rfl ?_
        refine aw_goto (tgt := 12) d_Ro_stop_60 rfl ?_
        refine aw_sub (lo' := [(0, .ref 25), (1, .ref 29), (2, .int a2), (3, .int a3), (4, .int a4), (5, .int y41), (6, .int v55), (7, .int y25), (8, .int (v8_12 + (1 : Int32)))]) [4, 5, 6, 7, 8, 2, 1, 3, 0] rfl ?_
        exact ih _ _ _ _
def f_Ro_stop (a2 : Int32) (a3 : Int32) (a4 : Int32) (δ : Dm) : Option Int32 := (lp_Ro_stop_12 (fun v5_12x v6_12x v7_12x v8_12x => (some v7_12x)) a2 a3 a4 δ FU a2 a3 (-1 : Int32) (0 : Int32))
set_option maxHeartbeats 4000000 in
set_option maxRecDepth 100000 in
theorem m_Ro_stop {a2 : Int32} {a3 : Int32} {a4 : Int32} {δ : Dm} {n : Nat} : ∀ x, f_Ro_stop a2 a3 a4 δ = some x → AMet k_Ro_stop 6 0 0 [.ref 25, .ref 29, .int a2, .int a3, .int a4] δ RT n (Kp δ RT n x) := by
  refine aw_start (lo := [(0, .ref 25), (1, .ref 29), (2, .int a2), (3, .int a3), (4, .int a4)]) mok_Ro_stop rfl (Nat.le_of_ble_eq_true rfl) ?_
  unfold f_Ro_stop
  refine aw_iload_n d_Ro_stop_0 2 rfl ?_
  refine aw_istore (lo' := [(5, .int a2), (0, .ref 25), (1, .ref 29), (2, .int a2), (3, .int a3), (4, .int a4)]) d_Ro_stop_1 (by decide) rfl ?_
  refine aw_iload_n d_Ro_stop_3 4 rfl ?_
  refine aw_istore (lo' := [(6, .int a3), (5, .int a2), (0, .ref 25), (1, .ref 29), (2, .int a2), (3, .int a3), (4, .int a4)]) d_Ro_stop_4 (by decide) rfl ?_
  refine aw_iconst d_Ro_stop_6 ki_m1 ?_
  refine aw_istore (lo' := [(7, .int (-1 : Int32)), (6, .int a3), (5, .int a2), (0, .ref 25), (1, .ref 29), (2, .int a2), (3, .int a3), (4, .int a4)]) d_Ro_stop_7 (by decide) rfl ?_
  refine aw_iconst d_Ro_stop_9 ki_0 ?_
  refine aw_istore (lo' := [(8, .int (0 : Int32)), (7, .int (-1 : Int32)), (6, .int a3), (5, .int a2), (0, .ref 25), (1, .ref 29), (2, .int a2), (3, .int a3), (4, .int a4)]) d_Ro_stop_10 (by decide) rfl ?_
  refine aw_sub (lo' := [(0, .ref 25), (1, .ref 29), (2, .int a2), (3, .int a3), (4, .int a4), (5, .int a2), (6, .int a3), (7, .int (-1 : Int32)), (8, .int (0 : Int32))]) [4, 5, 6, 7, 8, 3, 2, 1, 0] rfl ?_
  refine tl_Ro_stop_12 _ _ _ _ _ (fun v5_12x v6_12x v7_12x v8_12x => ?_) FU _ _ _ _
  · refine aw_iload d_Ro_stop_63 7 rfl ?_
    exact aw_iret rfl rfl ⟨Nat.le_refl _, Nat.le_refl _⟩ d_Ro_stop_65
def f_Fp_round (a1 : Int32) (a2 : Int32) (a3 : Int32) (δ : Dm) : Option (Int32 × Dm) := ((f_Fp_within a1 (0 : Int32) (((1 : Int32) <<< ((gI δ 29 2) &&& 31)) - (1 : Int32)) δ).bind (fun y13 => (if y13 = 0 then (some ((-2 : Int32), δ)) else ((f_To_hasPlace a2 δ).bind (fun y28 => (if y28 = 0 then (some ((-2 : Int32), δ)) else ((f_Fp_within a3 (-1 : Int32) (7 : Int32) δ).bind (fun y38 => (if y38 = 0 then (some ((-2 : Int32), δ)) else ((f_Ro_plan a2 δ).bind (fun y56 => (if a3 = (-1 : Int32) then ((f_Ro_leastFrom a2 a1 y56).bind (fun y74 => (some (y74, y56)))) else ((f_Ro_stop a2 a1 a3 y56).bind (fun y91 => (some (y91, y56))))))))))))))))
set_option maxHeartbeats 4000000 in
set_option maxRecDepth 100000 in
theorem m_Fp_round {a1 : Int32} {a2 : Int32} {a3 : Int32} {δ : Dm} {n : Nat} : ∀ x, f_Fp_round a1 a2 a3 δ = some x → AMet k_Fp_round 7 0 0 [.ref 4, .int a1, .int a2, .int a3] δ RT n (Km RT n x) := by
  refine aw_start (lo := [(0, .ref 4), (1, .int a1), (2, .int a2), (3, .int a3)]) mok_Fp_round rfl (Nat.le_of_ble_eq_true rfl) ?_
  unfold f_Fp_round
  refine aw_iload_n d_Fp_round_0 1 rfl ?_
  refine aw_iconst d_Fp_round_1 ki_0 ?_
  refine aw_iconst d_Fp_round_2 ki_1 ?_
  refine aw_aload_n d_Fp_round_3 0 rfl ?_
  refine aw_getR (t := 29) fl_Fp_57 kd_4 rt_4_9 d_Fp_round_4 ?_
  refine aw_getI fl_Fp_116 kd_29 d_Fp_round_7 ?_
  refine aw_ishl d_Fp_round_10 ?_
  refine aw_iconst d_Fp_round_11 ki_1 ?_
  refine aw_isub d_Fp_round_12 ?_
  refine aw_S_p (As := [.int a1, .int (0 : Int32), .int (((1 : Int32) <<< ((gI δ 29 2) &&& 31)) - (1 : Int32))]) (m_Fp_within) cs_Fp_70 rfl rfl (Nat.le_of_ble_eq_true rfl) ⟨Nat.le_of_ble_eq_true rfl, Nat.le_of_ble_eq_true rfl⟩ ⟨Nat.le_refl _, Nat.le_refl _⟩ d_Fp_round_13 (fun y13 => ?_)
  refine aw_istore (lo' := [(4, .int y13), (0, .ref 4), (1, .int a1), (2, .int a2), (3, .int a3)]) d_Fp_round_16 (by decide) rfl ?_
  refine aw_iload d_Fp_round_18 0 rfl ?_
  refine aw_if_eq (tgt := 44) d_Fp_round_20 rfl (fun q20 => ?_) (fun q20 => ?_)
  · refine aw_bipush d_Fp_round_44 kb_m2 ?_
    exact aw_iret rfl rfl ⟨Nat.le_refl _, Nat.le_refl _⟩ d_Fp_round_46
  · refine aw_aload_n d_Fp_round_23 1 rfl ?_
    refine aw_getR (t := 29) fl_Fp_57 kd_4 rt_4_9 d_Fp_round_24 ?_
    refine aw_iload_n d_Fp_round_27 3 rfl ?_
    refine aw_V_p (As := [.int a2]) (m_To_hasPlace) cv_Fp_81 kd_29 rfl rfl rfl (Nat.le_of_ble_eq_true rfl) ⟨Nat.le_of_ble_eq_true rfl, Nat.le_of_ble_eq_true rfl⟩ ⟨Nat.le_refl _, Nat.le_refl _⟩ d_Fp_round_28 (fun y28 => ?_)
    refine aw_if_eq (tgt := 44) d_Fp_round_31 rfl (fun q31 => ?_) (fun q31 => ?_)
    · refine aw_bipush d_Fp_round_44 kb_m2 ?_
      exact aw_iret rfl rfl ⟨Nat.le_refl _, Nat.le_refl _⟩ d_Fp_round_46
    · refine aw_iload_n d_Fp_round_34 4 rfl ?_
      refine aw_iconst d_Fp_round_35 ki_m1 ?_
      refine aw_bipush d_Fp_round_36 kb_7 ?_
      refine aw_S_p (As := [.int a3, .int (-1 : Int32), .int (7 : Int32)]) (m_Fp_within) cs_Fp_70 rfl rfl (Nat.le_of_ble_eq_true rfl) ⟨Nat.le_of_ble_eq_true rfl, Nat.le_of_ble_eq_true rfl⟩ ⟨Nat.le_refl _, Nat.le_refl _⟩ d_Fp_round_38 (fun y38 => ?_)
      refine aw_if_ne (tgt := 47) d_Fp_round_41 rfl (fun q41 => ?_) (fun q41 => ?_)
      · refine aw_bipush d_Fp_round_44 kb_m2 ?_
        exact aw_iret rfl rfl ⟨Nat.le_refl _, Nat.le_refl _⟩ d_Fp_round_46
      · refine aw_aload_n d_Fp_round_47 1 rfl ?_
        refine aw_getR (t := 25) fl_Fp_43 kd_4 rt_4_7 d_Fp_round_48 ?_
        refine aw_aload_n d_Fp_round_51 1 rfl ?_
        refine aw_getR (t := 29) fl_Fp_57 kd_4 rt_4_9 d_Fp_round_52 ?_
        refine aw_iload_n d_Fp_round_55 3 rfl ?_
        refine aw_V_v (As := [.ref 29, .int a2]) (m_Ro_plan) cv_Fp_318 kd_25 rfl rfl rfl (Nat.le_of_ble_eq_true rfl) ⟨Nat.le_of_ble_eq_true rfl, Nat.le_of_ble_eq_true rfl⟩ ⟨Nat.le_refl _, Nat.le_refl _⟩ d_Fp_round_56 (fun y56 => ?_)
        refine aw_iload_n d_Fp_round_59 4 rfl ?_
        refine aw_iconst d_Fp_round_60 ki_m1 ?_
        refine aw_icmp_ne (tgt := 80) d_Fp_round_61 rfl (fun q61 => ?_) (fun q61 => ?_)
        · refine aw_aload_n d_Fp_round_64 1 rfl ?_
          refine aw_getR (t := 25) fl_Fp_43 kd_4 rt_4_7 d_Fp_round_65 ?_
          refine aw_aload_n d_Fp_round_68 1 rfl ?_
          refine aw_getR (t := 29) fl_Fp_57 kd_4 rt_4_9 d_Fp_round_69 ?_
          refine aw_iload_n d_Fp_round_72 3 rfl ?_
          refine aw_iload_n d_Fp_round_73 2 rfl ?_
          refine aw_V_p (As := [.ref 29, .int a2, .int a1]) (m_Ro_leastFrom) cv_Fp_322 kd_25 rfl rfl rfl (Nat.le_of_ble_eq_true rfl) ⟨Nat.le_of_ble_eq_true rfl, Nat.le_of_ble_eq_true rfl⟩ ⟨Nat.le_refl _, Nat.le_refl _⟩ d_Fp_round_74 (fun y74 => ?_)
          refine aw_goto (tgt := 94) d_Fp_round_77 rfl ?_
          exact aw_iret rfl rfl ⟨Nat.le_refl _, Nat.le_refl _⟩ d_Fp_round_94
        · refine aw_aload_n d_Fp_round_80 1 rfl ?_
          refine aw_getR (t := 25) fl_Fp_43 kd_4 rt_4_7 d_Fp_round_81 ?_
          refine aw_aload_n d_Fp_round_84 1 rfl ?_
          refine aw_getR (t := 29) fl_Fp_57 kd_4 rt_4_9 d_Fp_round_85 ?_
          refine aw_iload_n d_Fp_round_88 3 rfl ?_
          refine aw_iload_n d_Fp_round_89 2 rfl ?_
          refine aw_iload_n d_Fp_round_90 4 rfl ?_
          refine aw_V_p (As := [.ref 29, .int a2, .int a1, .int a3]) (m_Ro_stop) cv_Fp_326 kd_25 rfl rfl rfl (Nat.le_of_ble_eq_true rfl) ⟨Nat.le_of_ble_eq_true rfl, Nat.le_of_ble_eq_true rfl⟩ ⟨Nat.le_refl _, Nat.le_refl _⟩ d_Fp_round_91 (fun y91 => ?_)
          exact aw_iret rfl rfl ⟨Nat.le_refl _, Nat.le_refl _⟩ d_Fp_round_94
def f_Fp_call (a1 : Int32) (a2 : Int32) (δ : Dm) : Option (Int32 × Dm) := ((f_To_boothAt a1 δ).bind (fun o5 => ocs o5 (some ((-1 : Int32), δ)) (fun t5 => if isB t5 = true then ((f_Fp_within a2 (0 : Int32) (9999 : Int32) δ).bind (fun y18 => (if y18 = 0 then (some ((-1 : Int32), δ)) else (bnd (gI δ t5 8) (fun v30 => (bnd (sI δ t5 8 a2) (fun δ_34 => (some (v30, δ_34))))))))) else none)))
set_option maxHeartbeats 4000000 in
set_option maxRecDepth 100000 in
theorem m_Fp_call {a1 : Int32} {a2 : Int32} {δ : Dm} {n : Nat} : ∀ x, f_Fp_call a1 a2 δ = some x → AMet k_Fp_call 3 0 0 [.ref 4, .int a1, .int a2] δ RT n (Km RT n x) := by
  refine aw_start (lo := [(0, .ref 4), (1, .int a1), (2, .int a2)]) mok_Fp_call rfl (Nat.le_of_ble_eq_true rfl) ?_
  unfold f_Fp_call
  refine aw_aload_n d_Fp_call_0 0 rfl ?_
  refine aw_getR (t := 29) fl_Fp_57 kd_4 rt_4_9 d_Fp_call_1 ?_
  refine aw_iload_n d_Fp_call_4 1 rfl ?_
  refine aw_V_r (As := [.int a1]) (m_To_boothAt) cv_Fp_139 kd_29 rfl rfl rfl (Nat.le_of_ble_eq_true rfl) ⟨Nat.le_of_ble_eq_true rfl, Nat.le_of_ble_eq_true rfl⟩ ⟨Nat.le_refl _, Nat.le_refl _⟩ d_Fp_call_5 ?_ (fun t5 => ?_)
  · refine aw_astoreN_n (lo' := [(3, .null), (0, .ref 4), (1, .int a1), (2, .int a2)]) d_Fp_call_8 rfl (by decide) rfl ?_
    refine aw_aloadN_n d_Fp_call_9 0 rfl ?_
    refine aw_ifnullN (tgt := 24) d_Fp_call_10 rfl ?_
    refine aw_iconst d_Fp_call_24 ki_m1 ?_
    exact aw_iret rfl rfl ⟨Nat.le_refl _, Nat.le_refl _⟩ d_Fp_call_25
  · refine aw_grd (fun ht5 => ?_)
    refine aw_astore_n (lo' := [(3, .ref t5), (0, .ref 4), (1, .int a1), (2, .int a2)]) d_Fp_call_8 rfl (by decide) rfl ?_
    refine aw_aload_n d_Fp_call_9 0 rfl ?_
    refine aw_ifnull d_Fp_call_10 ?_
    refine aw_iload_n d_Fp_call_13 3 rfl ?_
    refine aw_iconst d_Fp_call_14 ki_0 ?_
    refine aw_sipush d_Fp_call_15 ks_9999 ?_
    refine aw_S_p (As := [.int a2, .int (0 : Int32), .int (9999 : Int32)]) (m_Fp_within) cs_Fp_70 rfl rfl (Nat.le_of_ble_eq_true rfl) ⟨Nat.le_of_ble_eq_true rfl, Nat.le_of_ble_eq_true rfl⟩ ⟨Nat.le_refl _, Nat.le_refl _⟩ d_Fp_call_18 (fun y18 => ?_)
    refine aw_if_ne (tgt := 26) d_Fp_call_21 rfl (fun q21 => ?_) (fun q21 => ?_)
    · refine aw_iconst d_Fp_call_24 ki_m1 ?_
      exact aw_iret rfl rfl ⟨Nat.le_refl _, Nat.le_refl _⟩ d_Fp_call_25
    · refine aw_aload_n d_Fp_call_26 0 rfl ?_
      refine aw_getI fl_Fp_330 (fx_isBK ht5 0 (by decide)) d_Fp_call_27 ?_
      refine aw_bI (fun v30 => ?_)
      refine aw_istore (lo' := [(4, .int v30), (3, .ref t5), (0, .ref 4), (1, .int a1), (2, .int a2)]) d_Fp_call_30 (by decide) rfl ?_
      refine aw_aload_n d_Fp_call_32 1 rfl ?_
      refine aw_iload_n d_Fp_call_33 4 rfl ?_
      refine aw_putI pf_Fp_330 (fx_isBK ht5 0 (by decide)) d_Fp_call_34 ?_
      refine aw_bD (fun δ_34 => ?_)
      refine aw_iload d_Fp_call_37 0 rfl ?_
      exact aw_iret rfl rfl ⟨Nat.le_refl _, Nat.le_refl _⟩ d_Fp_call_39
def lp_To_worthOf_4 (kx4_47 : Int32 → Int32 → Option Int32) (a1 : Int32) (δ : Dm) : Nat → Int32 → Int32 → Option Int32
  | 0, _, _ => none
  | f + 1, v2_4, v3_4 => (if (gI δ 29 2) ≤ v3_4 then (kx4_47 v2_4 v3_4) else ((f_To_slot 29 v3_4 δ).bind (fun o14 => ocs o14 (lp_To_worthOf_4 kx4_47 a1 δ f v2_4 (v3_4 + (1 : Int32))) (fun t14 => if isB t14 = true then (if ((a1 >>> (v3_4 &&& 31)) &&& (1 : Int32)) = (1 : Int32) then (bnd (v2_4 + (gI δ t14 8)) (fun v40 => (lp_To_worthOf_4 kx4_47 a1 δ f v40 (v3_4 + (1 : Int32))))) else (lp_To_worthOf_4 kx4_47 a1 δ f v2_4 (v3_4 + (1 : Int32)))) else none))))
set_option maxHeartbeats 4000000 in
set_option maxRecDepth 100000 in
theorem tl_To_worthOf_4 {n : Nat} (kx4_47 : Int32 → Int32 → Option Int32) (a1 : Int32) (δ : Dm) (hkx4_47 : ∀ v2_4k v3_4k, AWo k_To_worthOf 2 0 0 47 [(0, .ref 29), (1, .int a1), (2, .int v2_4k), (3, .int v3_4k)] [] δ RT n 0 0 (Kp δ RT n) (kx4_47 v2_4k v3_4k)) : ∀ (f : Nat) (v2_4 : Int32) (v3_4 : Int32), AWo k_To_worthOf 2 0 0 4 [(0, .ref 29), (1, .int a1), (2, .int v2_4), (3, .int v3_4)] [] δ RT n 0 0 (Kp δ RT n) (lp_To_worthOf_4 kx4_47 a1 δ f v2_4 v3_4) := by
  intro f
  induction f with
  | zero => intro _ _; exact aw_none
  | succ f ih =>
    intro v2_4 v3_4
    rw [lp_To_worthOf_4]
    refine aw_iload_n d_To_worthOf_4 3 rfl ?_
    refine aw_aload_n d_To_worthOf_5 0 rfl ?_
    refine aw_getI fl_To_55 kd_29 d_To_worthOf_6 ?_
    refine aw_icmp_ge (tgt := 47) d_To_worthOf_9 rfl (fun q9 => ?_) (fun q9 => ?_)
    · refine aw_sub (lo' := [(0, .ref 29), (1, .int a1), (2, .int v2_4), (3, .int v3_4)]) [0, 1, 2, 3] rfl ?_
      exact hkx4_47 _ _
    · refine aw_aload_n d_To_worthOf_12 0 rfl ?_
      refine aw_iload_n d_To_worthOf_13 3 rfl ?_
      refine aw_V_r (As := [.int v3_4]) (m_To_slot (by decide)) cv_To_69 kd_29 rfl rfl rfl (Nat.le_of_ble_eq_true rfl) ⟨Nat.le_of_ble_eq_true rfl, Nat.le_of_ble_eq_true rfl⟩ ⟨Nat.le_refl _, Nat.le_refl _⟩ d_To_worthOf_14 ?_ (fun t14 => ?_)
      · refine aw_astoreN (lo' := [(4, .null), (0, .ref 29), (1, .int a1), (2, .int v2_4), (3, .int v3_4)]) d_To_worthOf_17 (by decide) rfl ?_
        refine aw_aloadN d_To_worthOf_19 0 rfl ?_
        refine aw_ifnullN (tgt := 41) d_To_worthOf_21 rfl ?_
        refine aw_iinc (v := (v3_4 + (1 : Int32))) (lo' := [(3, .int (v3_4 + (1 : Int32))), (4, .null), (0, .ref 29), (1, .int a1), (2, .int v2_4)]) d_To_worthOf_41 4 rfl (by rw [show Int32.ofInt (1) = (1 : Int32) from by decide]) (by decide) rfl ?_
        refine aw_goto (tgt := 4) d_To_worthOf_44 rfl ?_
        refine aw_sub (lo' := [(0, .ref 29), (1, .int a1), (2, .int v2_4), (3, .int (v3_4 + (1 : Int32)))]) [2, 3, 4, 0] rfl ?_
        exact ih _ _
      · refine aw_grd (fun ht14 => ?_)
        refine aw_astore (lo' := [(4, .ref t14), (0, .ref 29), (1, .int a1), (2, .int v2_4), (3, .int v3_4)]) d_To_worthOf_17 (by decide) rfl ?_
        refine aw_aload d_To_worthOf_19 0 rfl ?_
        refine aw_ifnull d_To_worthOf_21 ?_
        refine aw_iload_n d_To_worthOf_24 2 rfl ?_
        refine aw_iload_n d_To_worthOf_25 4 rfl ?_
        refine aw_ishr d_To_worthOf_26 ?_
        refine aw_iconst d_To_worthOf_27 ki_1 ?_
        refine aw_iand d_To_worthOf_28 ?_
        refine aw_iconst d_To_worthOf_29 ki_1 ?_
        refine aw_icmp_ne (tgt := 41) d_To_worthOf_30 rfl (fun q30 => ?_) (fun q30 => ?_)
        · refine aw_iload_n d_To_worthOf_33 3 rfl ?_
          refine aw_aload d_To_worthOf_34 0 rfl ?_
          refine aw_getI fl_To_90 (fx_isBK ht14 0 (by decide)) d_To_worthOf_36 ?_
          refine aw_iadd d_To_worthOf_39 ?_
          refine aw_bI (fun v40 => ?_)
          refine aw_istore_n (lo' := [(2, .int v40), (4, .ref t14), (0, .ref 29), (1, .int a1), (3, .int v3_4)]) d_To_worthOf_40 rfl (by decide) rfl ?_
          refine aw_iinc (v := (v3_4 + (1 : Int32))) (lo' := [(3, .int (v3_4 + (1 : Int32))), (2, .int v40), (4, .ref t14), (0, .ref 29), (1, .int a1)]) d_To_worthOf_41 4 rfl (by rw [show Int32.ofInt (1) = (1 : Int32) from by decide]) (by decide) rfl ?_
          refine aw_goto (tgt := 4) d_To_worthOf_44 rfl ?_
          refine aw_sub (lo' := [(0, .ref 29), (1, .int a1), (2, .int v40), (3, .int (v3_4 + (1 : Int32)))]) [3, 4, 1, 0] rfl ?_
          exact ih _ _
        · refine aw_iinc (v := (v3_4 + (1 : Int32))) (lo' := [(3, .int (v3_4 + (1 : Int32))), (4, .ref t14), (0, .ref 29), (1, .int a1), (2, .int v2_4)]) d_To_worthOf_41 4 rfl (by rw [show Int32.ofInt (1) = (1 : Int32) from by decide]) (by decide) rfl ?_
          refine aw_goto (tgt := 4) d_To_worthOf_44 rfl ?_
          refine aw_sub (lo' := [(0, .ref 29), (1, .int a1), (2, .int v2_4), (3, .int (v3_4 + (1 : Int32)))]) [2, 3, 4, 0] rfl ?_
          exact ih _ _
def f_To_worthOf (a1 : Int32) (δ : Dm) : Option Int32 := (lp_To_worthOf_4 (fun v2_4x v3_4x => (some v2_4x)) a1 δ FU (0 : Int32) (0 : Int32))
set_option maxHeartbeats 4000000 in
set_option maxRecDepth 100000 in
theorem m_To_worthOf {a1 : Int32} {δ : Dm} {n : Nat} : ∀ x, f_To_worthOf a1 δ = some x → AMet k_To_worthOf 2 0 0 [.ref 29, .int a1] δ RT n (Kp δ RT n x) := by
  refine aw_start (lo := [(0, .ref 29), (1, .int a1)]) mok_To_worthOf rfl (Nat.le_of_ble_eq_true rfl) ?_
  unfold f_To_worthOf
  refine aw_iconst d_To_worthOf_0 ki_0 ?_
  refine aw_istore_n (lo' := [(2, .int (0 : Int32)), (0, .ref 29), (1, .int a1)]) d_To_worthOf_1 rfl (by decide) rfl ?_
  refine aw_iconst d_To_worthOf_2 ki_0 ?_
  refine aw_istore_n (lo' := [(3, .int (0 : Int32)), (2, .int (0 : Int32)), (0, .ref 29), (1, .int a1)]) d_To_worthOf_3 rfl (by decide) rfl ?_
  refine aw_sub (lo' := [(0, .ref 29), (1, .int a1), (2, .int (0 : Int32)), (3, .int (0 : Int32))]) [2, 3, 1, 0] rfl ?_
  refine tl_To_worthOf_4 _ _ _ (fun v2_4x v3_4x => ?_) FU _ _
  · refine aw_iload_n d_To_worthOf_47 2 rfl ?_
    exact aw_iret rfl rfl ⟨Nat.le_refl _, Nat.le_refl _⟩ d_To_worthOf_48
end
