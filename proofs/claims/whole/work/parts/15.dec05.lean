noncomputable section
def lp_Fp_worthy_53 (kx53_116 : Int32 → Int32 → Int32 → Option (Int32 × Dm)) (a1 : Int32) (a2 : Int32) (a3 : Int32) (y41 : Dm) : Nat → Int32 → Int32 → Int32 → Option (Int32 × Dm)
  | 0, _, _, _ => none
  | f + 1, v4_53, v5_53, v6_53 => (if ((1 : Int32) <<< ((gI y41 29 2) &&& 31)) ≤ v6_53 then (kx53_116 v4_53 v5_53 v6_53) else ((f_To_worthOf v6_53 y41).bind (fun y73 => ((f_Ro_leastFrom a1 v6_53 y41).bind (fun y88 => (bnd (y73 - (a2 * y88)) (fun v93 => (if v93 ≤ v5_53 then (lp_Fp_worthy_53 kx53_116 a1 a2 a3 y41 f v4_53 v5_53 (v6_53 + (1 : Int32))) else (lp_Fp_worthy_53 kx53_116 a1 a2 a3 y41 f v6_53 v93 (v6_53 + (1 : Int32)))))))))))
set_option maxHeartbeats 4000000 in
set_option maxRecDepth 100000 in
theorem tl_Fp_worthy_53 {n : Nat} (kx53_116 : Int32 → Int32 → Int32 → Option (Int32 × Dm)) (a1 : Int32) (a2 : Int32) (a3 : Int32) (y41 : Dm) (hkx53_116 : ∀ v4_53k v5_53k v6_53k, AWo k_Fp_worthy 6 0 0 116 [(0, .ref 4), (1, .int a1), (2, .int a2), (3, .int a3), (4, .int v4_53k), (5, .int v5_53k), (6, .int v6_53k)] [] y41 RT n 0 0 (Km RT n) (kx53_116 v4_53k v5_53k v6_53k)) : ∀ (f : Nat) (v4_53 : Int32) (v5_53 : Int32) (v6_53 : Int32), AWo k_Fp_worthy 6 0 0 53 [(0, .ref 4), (1, .int a1), (2, .int a2), (3, .int a3), (4, .int v4_53), (5, .int v5_53), (6, .int v6_53)] [] y41 RT n 0 0 (Km RT n) (lp_Fp_worthy_53 kx53_116 a1 a2 a3 y41 f v4_53 v5_53 v6_53) := by
  intro f
  induction f with
  | zero => intro _ _ _; exact aw_none
  | succ f ih =>
    intro v4_53 v5_53 v6_53
    rw [lp_Fp_worthy_53]
    refine aw_iload d_Fp_worthy_53 6 rfl ?_
    refine aw_iconst d_Fp_worthy_55 ki_1 ?_
    refine aw_aload_n d_Fp_worthy_56 0 rfl ?_
    refine aw_getR (t := 29) fl_Fp_57 kd_4 rt_4_9 d_Fp_worthy_57 ?_
    refine aw_getI fl_Fp_116 kd_29 d_Fp_worthy_60 ?_
    refine aw_ishl d_Fp_worthy_63 ?_
    refine aw_icmp_ge (tgt := 116) d_Fp_worthy_64 rfl (fun q64 => ?_) (fun q64 => ?_)
    · refine aw_sub (lo' := [(0, .ref 4), (1, .int a1), (2, .int a2), (3, .int a3), (4, .int v4_53), (5, .int v5_53), (6, .int v6_53)]) [0, 1, 2, 3, 4, 5, 6] rfl ?_
      exact hkx53_116 _ _ _
    · refine aw_aload_n d_Fp_worthy_67 0 rfl ?_
      refine aw_getR (t := 29) fl_Fp_57 kd_4 rt_4_9 d_Fp_worthy_68 ?_
      refine aw_iload d_Fp_worthy_71 6 rfl ?_
      refine aw_V_p (As := [.int v6_53]) (m_To_worthOf) cv_Fp_333 kd_29 rfl rfl rfl (Nat.le_of_ble_eq_true rfl) ⟨Nat.le_of_ble_eq_true rfl, Nat.le_of_ble_eq_true rfl⟩ ⟨Nat.le_refl _, Nat.le_refl _⟩ d_Fp_worthy_73 (fun y73 => ?_)
      refine aw_iload_n d_Fp_worthy_76 2 rfl ?_
      refine aw_aload_n d_Fp_worthy_77 0 rfl ?_
      refine aw_getR (t := 25) fl_Fp_43 kd_4 rt_4_7 d_Fp_worthy_78 ?_
      refine aw_aload_n d_Fp_worthy_81 0 rfl ?_
      refine aw_getR (t := 29) fl_Fp_57 kd_4 rt_4_9 d_Fp_worthy_82 ?_
      refine aw_iload_n d_Fp_worthy_85 1 rfl ?_
      refine aw_iload d_Fp_worthy_86 6 rfl ?_
      refine aw_V_p (As := [.ref 29, .int a1, .int v6_53]) (m_Ro_leastFrom) cv_Fp_322 kd_25 rfl rfl rfl (Nat.le_of_ble_eq_true rfl) ⟨Nat.le_of_ble_eq_true rfl, Nat.le_of_ble_eq_true rfl⟩ ⟨Nat.le_refl _, Nat.le_refl _⟩ d_Fp_worthy_88 (fun y88 => ?_)
      refine aw_imul d_Fp_worthy_91 ?_
      refine aw_isub d_Fp_worthy_92 ?_
      refine aw_bI (fun v93 => ?_)
      refine aw_istore (lo' := [(7, .int v93), (0, .ref 4), (1, .int a1), (2, .int a2), (3, .int a3), (4, .int v4_53), (5, .int v5_53), (6, .int v6_53)]) d_Fp_worthy_93 (by decide) rfl ?_
      refine aw_iload d_Fp_worthy_95 0 rfl ?_
      refine aw_iload d_Fp_worthy_97 6 rfl ?_
      refine aw_icmp_le (tgt := 110) d_Fp_worthy_99 rfl (fun q99 => ?_) (fun q99 => ?_)
      · refine aw_iinc (v := (v6_53 + (1 : Int32))) (lo' := [(6, .int (v6_53 + (1 : Int32))), (7, .int v93), (0, .ref 4), (1, .int a1), (2, .int a2), (3, .int a3), (4, .int v4_53), (5, .int v5_53)]) d_Fp_worthy_110 7 rfl (by rw [show Int32.ofInt (1) = (1 : Int32) from by decide]) (by decide) rfl ?_
        refine aw_goto (tgt := 53) d_Fp_worthy_113 rfl ?_
        refine aw_sub (lo' := [(0, .ref 4), (1, .int a1), (2, .int a2), (3, .int a3), (4, .int v4_53), (5, .int v5_53), (6, .int (v6_53 + (1 : Int32)))]) [2, 3, 4, 5, 6, 7, 0] rfl ?_
        exact ih _ _ _
      · refine aw_iload d_Fp_worthy_102 0 rfl ?_
        refine aw_istore (lo' := [(5, .int v93), (7, .int v93), (0, .ref 4), (1, .int a1), (2, .int a2), (3, .int a3), (4, .int v4_53), (6, .int v6_53)]) d_Fp_worthy_104 (by decide) rfl ?_
        refine aw_iload d_Fp_worthy_106 7 rfl ?_
        refine aw_istore (lo' := [(4, .int v6_53), (5, .int v93), (7, .int v93), (0, .ref 4), (1, .int a1), (2, .int a2), (3, .int a3), (6, .int v6_53)]) d_Fp_worthy_108 (by decide) rfl ?_
        refine aw_iinc (v := (v6_53 + (1 : Int32))) (lo' := [(6, .int (v6_53 + (1 : Int32))), (4, .int v6_53), (5, .int v93), (7, .int v93), (0, .ref 4), (1, .int a1), (2, .int a2), (3, .int a3)]) d_Fp_worthy_110 7 rfl (by rw [show Int32.ofInt (1) = (1 : Int32) from by decide]) (by decide) rfl ?_
        refine aw_goto (tgt := 53) d_Fp_worthy_113 rfl ?_
        refine aw_sub (lo' := [(0, .ref 4), (1, .int a1), (2, .int a2), (3, .int a3), (4, .int v6_53), (5, .int v93), (6, .int (v6_53 + (1 : Int32)))]) [4, 5, 6, 7, 1, 2, 0] rfl ?_
        exact ih _ _ _
def f_Fp_worthy (a1 : Int32) (a2 : Int32) (a3 : Int32) (δ : Dm) : Option (Int32 × Dm) := ((f_To_hasPlace a1 δ).bind (fun y5 => (if y5 = 0 then (some ((-1 : Int32), δ)) else ((f_Fp_within a2 (0 : Int32) (99 : Int32) δ).bind (fun y15 => (if y15 = 0 then (some ((-1 : Int32), δ)) else ((f_Fp_within a3 (0 : Int32) (1 : Int32) δ).bind (fun y24 => (if y24 = 0 then (some ((-1 : Int32), δ)) else ((f_Ro_plan a1 δ).bind (fun y41 => (lp_Fp_worthy_53 (fun v4_53x v5_53x v6_53x => (if a3 = 0 then (some (v4_53x, y41)) else (some (v5_53x, y41)))) a1 a2 a3 y41 FU (0 : Int32) (0 : Int32) (1 : Int32)))))))))))))
set_option maxHeartbeats 4000000 in
set_option maxRecDepth 100000 in
theorem m_Fp_worthy {a1 : Int32} {a2 : Int32} {a3 : Int32} {δ : Dm} {n : Nat} : ∀ x, f_Fp_worthy a1 a2 a3 δ = some x → AMet k_Fp_worthy 6 0 0 [.ref 4, .int a1, .int a2, .int a3] δ RT n (Km RT n x) := by
  refine aw_start (lo := [(0, .ref 4), (1, .int a1), (2, .int a2), (3, .int a3)]) mok_Fp_worthy rfl (Nat.le_of_ble_eq_true rfl) ?_
  unfold f_Fp_worthy
  refine aw_aload_n d_Fp_worthy_0 0 rfl ?_
  refine aw_getR (t := 29) fl_Fp_57 kd_4 rt_4_9 d_Fp_worthy_1 ?_
  refine aw_iload_n d_Fp_worthy_4 1 rfl ?_
  refine aw_V_p (As := [.int a1]) (m_To_hasPlace) cv_Fp_81 kd_29 rfl rfl rfl (Nat.le_of_ble_eq_true rfl) ⟨Nat.le_of_ble_eq_true rfl, Nat.le_of_ble_eq_true rfl⟩ ⟨Nat.le_refl _, Nat.le_refl _⟩ d_Fp_worthy_5 (fun y5 => ?_)
  refine aw_if_eq (tgt := 30) d_Fp_worthy_8 rfl (fun q8 => ?_) (fun q8 => ?_)
  · refine aw_iconst d_Fp_worthy_30 ki_m1 ?_
    exact aw_iret rfl rfl ⟨Nat.le_refl _, Nat.le_refl _⟩ d_Fp_worthy_31
  · refine aw_iload_n d_Fp_worthy_11 2 rfl ?_
    refine aw_iconst d_Fp_worthy_12 ki_0 ?_
    refine aw_bipush d_Fp_worthy_13 kb_99 ?_
    refine aw_S_p (As := [.int a2, .int (0 : Int32), .int (99 : Int32)]) (m_Fp_within) cs_Fp_70 rfl rfl (Nat.le_of_ble_eq_true rfl) ⟨Nat.le_of_ble_eq_true rfl, Nat.le_of_ble_eq_true rfl⟩ ⟨Nat.le_refl _, Nat.le_refl _⟩ d_Fp_worthy_15 (fun y15 => ?_)
    refine aw_if_eq (tgt := 30) d_Fp_worthy_18 rfl (fun q18 => ?_) (fun q18 => ?_)
    · refine aw_iconst d_Fp_worthy_30 ki_m1 ?_
      exact aw_iret rfl rfl ⟨Nat.le_refl _, Nat.le_refl _⟩ d_Fp_worthy_31
    · refine aw_iload_n d_Fp_worthy_21 3 rfl ?_
      refine aw_iconst d_Fp_worthy_22 ki_0 ?_
      refine aw_iconst d_Fp_worthy_23 ki_1 ?_
      refine aw_S_p (As := [.int a3, .int (0 : Int32), .int (1 : Int32)]) (m_Fp_within) cs_Fp_70 rfl rfl (Nat.le_of_ble_eq_true rfl) ⟨Nat.le_of_ble_eq_true rfl, Nat.le_of_ble_eq_true rfl⟩ ⟨Nat.le_refl _, Nat.le_refl _⟩ d_Fp_worthy_24 (fun y24 => ?_)
      refine aw_if_ne (tgt := 32) d_Fp_worthy_27 rfl (fun q27 => ?_) (fun q27 => ?_)
      · refine aw_iconst d_Fp_worthy_30 ki_m1 ?_
        exact aw_iret rfl rfl ⟨Nat.le_refl _, Nat.le_refl _⟩ d_Fp_worthy_31
      · refine aw_aload_n d_Fp_worthy_32 0 rfl ?_
        refine aw_getR (t := 25) fl_Fp_43 kd_4 rt_4_7 d_Fp_worthy_33 ?_
        refine aw_aload_n d_Fp_worthy_36 0 rfl ?_
        refine aw_getR (t := 29) fl_Fp_57 kd_4 rt_4_9 d_Fp_worthy_37 ?_
        refine aw_iload_n d_Fp_worthy_40 1 rfl ?_
        refine aw_V_v (As := [.ref 29, .int a1]) (m_Ro_plan) cv_Fp_318 kd_25 rfl rfl rfl (Nat.le_of_ble_eq_true rfl) ⟨Nat.le_of_ble_eq_true rfl, Nat.le_of_ble_eq_true rfl⟩ ⟨Nat.le_refl _, Nat.le_refl _⟩ d_Fp_worthy_41 (fun y41 => ?_)
        refine aw_iconst d_Fp_worthy_44 ki_0 ?_
        refine aw_istore (lo' := [(4, .int (0 : Int32)), (0, .ref 4), (1, .int a1), (2, .int a2), (3, .int a3)]) d_Fp_worthy_45 (by decide) rfl ?_
        refine aw_iconst d_Fp_worthy_47 ki_0 ?_
        refine aw_istore (lo' := [(5, .int (0 : Int32)), (4, .int (0 : Int32)), (0, .ref 4), (1, .int a1), (2, .int a2), (3, .int a3)]) d_Fp_worthy_48 (by decide) rfl ?_
        refine aw_iconst d_Fp_worthy_50 ki_1 ?_
        refine aw_istore (lo' := [(6, .int (1 : Int32)), (5, .int (0 : Int32)), (4, .int (0 : Int32)), (0, .ref 4), (1, .int a1), (2, .int a2), (3, .int a3)]) d_Fp_worthy_51 (by decide) rfl ?_
        refine aw_sub (lo' := [(0, .ref 4), (1, .int a1), (2, .int a2), (3, .int a3), (4, .int (0 : Int32)), (5, .int (0 : Int32)), (6, .int (1 : Int32))]) [3, 4, 5, 6, 2, 1, 0] rfl ?_
        refine tl_Fp_worthy_53 _ _ _ _ _ (fun v4_53x v5_53x v6_53x => ?_) FU _ _ _
        · refine aw_iload_n d_Fp_worthy_116 3 rfl ?_
          refine aw_if_ne (tgt := 125) d_Fp_worthy_117 rfl (fun q117 => ?_) (fun q117 => ?_)
          · refine aw_iload d_Fp_worthy_120 4 rfl ?_
            refine aw_goto (tgt := 127) d_Fp_worthy_122 rfl ?_
            exact aw_iret rfl rfl ⟨Nat.le_refl _, Nat.le_refl _⟩ d_Fp_worthy_127
          · refine aw_iload d_Fp_worthy_125 5 rfl ?_
            exact aw_iret rfl rfl ⟨Nat.le_refl _, Nat.le_refl _⟩ d_Fp_worthy_127
def f_Fp_takes (a1 : Int32) (a2 : Int32) (a3 : Int32) (a4 : Int32) (δ : Dm) : Option (Int32 × Dm) := ((f_To_boothAt a1 δ).bind (fun o5 => ocs o5 (some ((0 : Int32), δ)) (fun t5 => if isB t5 = true then ((f_To_hasPlace a2 δ).bind (fun y20 => (if y20 = 0 then (some ((0 : Int32), δ)) else ((f_Fp_within a3 (0 : Int32) (9999 : Int32) δ).bind (fun y31 => (if y31 = 0 then (some ((0 : Int32), δ)) else ((f_Fp_within a4 a3 (9999 : Int32) δ).bind (fun y43 => (if y43 = 0 then (some ((0 : Int32), δ)) else ((f_Fp_put (t5 + 2) a2 a3 δ).bind (fun y58 => ((f_Fp_put (t5 + 3) a2 a4 y58).bind (fun y69 => (some ((1 : Int32), y69))))))))))))))) else none)))
set_option maxHeartbeats 4000000 in
set_option maxRecDepth 100000 in
theorem m_Fp_takes {a1 : Int32} {a2 : Int32} {a3 : Int32} {a4 : Int32} {δ : Dm} {n : Nat} : ∀ x, f_Fp_takes a1 a2 a3 a4 δ = some x → AMet k_Fp_takes 3 0 0 [.ref 4, .int a1, .int a2, .int a3, .int a4] δ RT n (Km RT n x) := by
  refine aw_start (lo := [(0, .ref 4), (1, .int a1), (2, .int a2), (3, .int a3), (4, .int a4)]) mok_Fp_takes rfl (Nat.le_of_ble_eq_true rfl) ?_
  unfold f_Fp_takes
  refine aw_aload_n d_Fp_takes_0 0 rfl ?_
  refine aw_getR (t := 29) fl_Fp_57 kd_4 rt_4_9 d_Fp_takes_1 ?_
  refine aw_iload_n d_Fp_takes_4 1 rfl ?_
  refine aw_V_r (As := [.int a1]) (m_To_boothAt) cv_Fp_139 kd_29 rfl rfl rfl (Nat.le_of_ble_eq_true rfl) ⟨Nat.le_of_ble_eq_true rfl, Nat.le_of_ble_eq_true rfl⟩ ⟨Nat.le_refl _, Nat.le_refl _⟩ d_Fp_takes_5 ?_ (fun t5 => ?_)
  · refine aw_astoreN (lo' := [(5, .null), (0, .ref 4), (1, .int a1), (2, .int a2), (3, .int a3), (4, .int a4)]) d_Fp_takes_8 (by decide) rfl ?_
    refine aw_aloadN d_Fp_takes_10 0 rfl ?_
    refine aw_ifnullN (tgt := 49) d_Fp_takes_12 rfl ?_
    refine aw_iconst d_Fp_takes_49 ki_0 ?_
    exact aw_zret rfl rfl rfl ⟨Nat.le_refl _, Nat.le_refl _⟩ d_Fp_takes_50
  · refine aw_grd (fun ht5 => ?_)
    refine aw_astore (lo' := [(5, .ref t5), (0, .ref 4), (1, .int a1), (2, .int a2), (3, .int a3), (4, .int a4)]) d_Fp_takes_8 (by decide) rfl ?_
    refine aw_aload d_Fp_takes_10 0 rfl ?_
    refine aw_ifnull d_Fp_takes_12 ?_
    refine aw_aload_n d_Fp_takes_15 1 rfl ?_
    refine aw_getR (t := 29) fl_Fp_57 kd_4 rt_4_9 d_Fp_takes_16 ?_
    refine aw_iload_n d_Fp_takes_19 3 rfl ?_
    refine aw_V_p (As := [.int a2]) (m_To_hasPlace) cv_Fp_81 kd_29 rfl rfl rfl (Nat.le_of_ble_eq_true rfl) ⟨Nat.le_of_ble_eq_true rfl, Nat.le_of_ble_eq_true rfl⟩ ⟨Nat.le_refl _, Nat.le_refl _⟩ d_Fp_takes_20 (fun y20 => ?_)
    refine aw_if_eq (tgt := 49) d_Fp_takes_23 rfl (fun q23 => ?_) (fun q23 => ?_)
    · refine aw_iconst d_Fp_takes_49 ki_0 ?_
      exact aw_zret rfl rfl rfl ⟨Nat.le_refl _, Nat.le_refl _⟩ d_Fp_takes_50
    · refine aw_iload_n d_Fp_takes_26 4 rfl ?_
      refine aw_iconst d_Fp_takes_27 ki_0 ?_
      refine aw_sipush d_Fp_takes_28 ks_9999 ?_
      refine aw_S_p (As := [.int a3, .int (0 : Int32), .int (9999 : Int32)]) (m_Fp_within) cs_Fp_70 rfl rfl (Nat.le_of_ble_eq_true rfl) ⟨Nat.le_of_ble_eq_true rfl, Nat.le_of_ble_eq_true rfl⟩ ⟨Nat.le_refl _, Nat.le_refl _⟩ d_Fp_takes_31 (fun y31 => ?_)
      refine aw_if_eq (tgt := 49) d_Fp_takes_34 rfl (fun q34 => ?_) (fun q34 => ?_)
      · refine aw_iconst d_Fp_takes_49 ki_0 ?_
        exact aw_zret rfl rfl rfl ⟨Nat.le_refl _, Nat.le_refl _⟩ d_Fp_takes_50
      · refine aw_iload d_Fp_takes_37 5 rfl ?_
        refine aw_iload_n d_Fp_takes_39 4 rfl ?_
        refine aw_sipush d_Fp_takes_40 ks_9999 ?_
        refine aw_S_p (As := [.int a4, .int a3, .int (9999 : Int32)]) (m_Fp_within) cs_Fp_70 rfl rfl (Nat.le_of_ble_eq_true rfl) ⟨Nat.le_of_ble_eq_true rfl, Nat.le_of_ble_eq_true rfl⟩ ⟨Nat.le_refl _, Nat.le_refl _⟩ d_Fp_takes_43 (fun y43 => ?_)
        refine aw_if_ne (tgt := 51) d_Fp_takes_46 rfl (fun q46 => ?_) (fun q46 => ?_)
        · refine aw_iconst d_Fp_takes_49 ki_0 ?_
          exact aw_zret rfl rfl rfl ⟨Nat.le_refl _, Nat.le_refl _⟩ d_Fp_takes_50
        · refine aw_aload d_Fp_takes_51 0 rfl ?_
          refine aw_getR (t := (t5 + 2)) fl_Fp_336 (fx_isBK ht5 0 (by decide)) (fx_isBR ht5 0 10 (by decide) (by decide)) d_Fp_takes_53 ?_
          refine aw_iload_n d_Fp_takes_56 3 rfl ?_
          refine aw_iload_n d_Fp_takes_57 4 rfl ?_
          refine aw_S_v (As := [.ref (t5 + 2), .int a2, .int a3]) (m_Fp_put (congrArg Prod.fst (fx_isBK ht5 2 (by decide)))) cs_Fp_77 rfl rfl (Nat.le_of_ble_eq_true rfl) ⟨Nat.le_of_ble_eq_true rfl, Nat.le_of_ble_eq_true rfl⟩ ⟨Nat.le_refl _, Nat.le_refl _⟩ d_Fp_takes_58 (fun y58 => ?_)
          refine aw_aload d_Fp_takes_61 0 rfl ?_
          refine aw_getR (t := (t5 + 3)) fl_Fp_339 (fx_isBK ht5 0 (by decide)) (fx_isBR ht5 0 11 (by decide) (by decide)) d_Fp_takes_63 ?_
          refine aw_iload_n d_Fp_takes_66 3 rfl ?_
          refine aw_iload d_Fp_takes_67 5 rfl ?_
          refine aw_S_v (As := [.ref (t5 + 3), .int a2, .int a4]) (m_Fp_put (congrArg Prod.fst (fx_isBK ht5 3 (by decide)))) cs_Fp_77 rfl rfl (Nat.le_of_ble_eq_true rfl) ⟨Nat.le_of_ble_eq_true rfl, Nat.le_of_ble_eq_true rfl⟩ ⟨Nat.le_refl _, Nat.le_refl _⟩ d_Fp_takes_69 (fun y69 => ?_)
          refine aw_iconst d_Fp_takes_72 ki_1 ?_
          exact aw_zret rfl rfl rfl ⟨Nat.le_refl _, Nat.le_refl _⟩ d_Fp_takes_73
def f_In_bitCount (a0 : Int32) (δ : Dm) : Option Int32 := (bnd (a0 - ((((a0).toUInt32 >>> (((1 : Int32)).toUInt32 &&& Int32.toUInt32 31)).toInt32) &&& (1431655765 : Int32))) (fun v9 => (bnd ((v9 &&& (858993459 : Int32)) + ((((v9).toUInt32 >>> (((2 : Int32)).toUInt32 &&& Int32.toUInt32 31)).toInt32) &&& (858993459 : Int32))) (fun v23 => (bnd ((v23 + (((v23).toUInt32 >>> (((4 : Int32)).toUInt32 &&& Int32.toUInt32 31)).toInt32)) &&& (252645135 : Int32)) (fun v33 => (bnd (v33 + (((v33).toUInt32 >>> (((8 : Int32)).toUInt32 &&& Int32.toUInt32 31)).toInt32)) (fun v40 => (bnd (v40 + (((v40).toUInt32 >>> (((16 : Int32)).toUInt32 &&& Int32.toUInt32 31)).toInt32)) (fun v47 => (some (v47 &&& (63 : Int32)))))))))))))
set_option maxHeartbeats 4000000 in
set_option maxRecDepth 100000 in
theorem m_In_bitCount {a0 : Int32} {δ : Dm} {n : Nat} : ∀ x, f_In_bitCount a0 δ = some x → AMet k_In_bitCount 1 0 0 [.int a0] δ RT n (Kp δ RT n x) := by
  refine aw_start (lo := [(0, .int a0)]) mok_In_bitCount rfl (Nat.le_of_ble_eq_true rfl) ?_
  unfold f_In_bitCount
  refine aw_iload_n d_In_bitCount_0 0 rfl ?_
  refine aw_iload_n d_In_bitCount_1 0 rfl ?_
  refine aw_iconst d_In_bitCount_2 ki_1 ?_
  refine aw_iushr d_In_bitCount_3 ?_
  refine aw_ldcw (v := (1431655765 : Int32)) d_In_bitCount_4 kc_In_265 ?_
  refine aw_iand d_In_bitCount_7 ?_
  refine aw_isub d_In_bitCount_8 ?_
  refine aw_bI (fun v9 => ?_)
  refine aw_istore_n (lo' := [(0, .int v9)]) d_In_bitCount_9 rfl (by decide) rfl ?_
  refine aw_iload_n d_In_bitCount_10 0 rfl ?_
  refine aw_ldcw (v := (858993459 : Int32)) d_In_bitCount_11 kc_In_266 ?_
  refine aw_iand d_In_bitCount_14 ?_
  refine aw_iload_n d_In_bitCount_15 0 rfl ?_
  refine aw_iconst d_In_bitCount_16 ki_2 ?_
  refine aw_iushr d_In_bitCount_17 ?_
  refine aw_ldcw (v := (858993459 : Int32)) d_In_bitCount_18 kc_In_266 ?_
  refine aw_iand d_In_bitCount_21 ?_
  refine aw_iadd d_In_bitCount_22 ?_
  refine aw_bI (fun v23 => ?_)
  refine aw_istore_n (lo' := [(0, .int v23)]) d_In_bitCount_23 rfl (by decide) rfl ?_
  refine aw_iload_n d_In_bitCount_24 0 rfl ?_
  refine aw_iload_n d_In_bitCount_25 0 rfl ?_
  refine aw_iconst d_In_bitCount_26 ki_4 ?_
  refine aw_iushr d_In_bitCount_27 ?_
  refine aw_iadd d_In_bitCount_28 ?_
  refine aw_ldcw (v := (252645135 : Int32)) d_In_bitCount_29 kc_In_267 ?_
  refine aw_iand d_In_bitCount_32 ?_
  refine aw_bI (fun v33 => ?_)
  refine aw_istore_n (lo' := [(0, .int v33)]) d_In_bitCount_33 rfl (by decide) rfl ?_
  refine aw_iload_n d_In_bitCount_34 0 rfl ?_
  refine aw_iload_n d_In_bitCount_35 0 rfl ?_
  refine aw_bipush d_In_bitCount_36 kb_8 ?_
  refine aw_iushr d_In_bitCount_38 ?_
  refine aw_iadd d_In_bitCount_39 ?_
  refine aw_bI (fun v40 => ?_)
  refine aw_istore_n (lo' := [(0, .int v40)]) d_In_bitCount_40 rfl (by decide) rfl ?_
  refine aw_iload_n d_In_bitCount_41 0 rfl ?_
  refine aw_iload_n d_In_bitCount_42 0 rfl ?_
  refine aw_bipush d_In_bitCount_43 kb_16 ?_
  refine aw_iushr d_In_bitCount_45 ?_
  refine aw_iadd d_In_bitCount_46 ?_
  refine aw_bI (fun v47 => ?_)
  refine aw_istore_n (lo' := [(0, .int v47)]) d_In_bitCount_47 rfl (by decide) rfl ?_
  refine aw_iload_n d_In_bitCount_48 0 rfl ?_
  refine aw_bipush d_In_bitCount_49 kb_63 ?_
  refine aw_iand d_In_bitCount_51 ?_
  exact aw_iret rfl rfl ⟨Nat.le_refl _, Nat.le_refl _⟩ d_In_bitCount_52
def jp_Cr_coinsBy_59 (a2 : Int32) (a3 : Int32) (a4 : Int32) (t2 : Nat) (δ : Dm) (v6_59 : Int32) (s0_59 : Int32) : Option Int32 := ((f_Fp_get 28 (a3 ||| ((1 : Int32) <<< (a4 &&& 31))) δ).bind (fun y76 => (some ((v6_59 - s0_59) + y76))))
set_option maxHeartbeats 4000000 in
set_option maxRecDepth 100000 in
theorem tj_Cr_coinsBy_59 {n : Nat} (a2 : Int32) (a3 : Int32) (a4 : Int32) (t2 : Nat) (δ : Dm) (v6_59 : Int32) (s0_59 : Int32) (ht2 : isB t2 = true) : AWo k_Cr_coinsBy 3 0 0 59 [(0, .ref 27), (1, .ref 29), (2, .int a2), (3, .int a3), (4, .int a4), (5, .ref t2), (6, .int v6_59)] [.int s0_59] δ RT n 0 0 (Kp δ RT n) (jp_Cr_coinsBy_59 a2 a3 a4 t2 δ v6_59 s0_59) := by
  unfold jp_Cr_coinsBy_59
  refine aw_istore (lo' := [(7, .int s0_59), (0, .ref 27), (1, .ref 29), (2, .int a2), (3, .int a3), (4, .int a4), (5, .ref t2), (6, .int v6_59)]) d_Cr_coinsBy_59 (by decide) rfl ?_
  refine aw_iload d_Cr_coinsBy_61 7 rfl ?_
  refine aw_iload d_Cr_coinsBy_63 0 rfl ?_
  refine aw_isub d_Cr_coinsBy_65 ?_
  refine aw_aload_n d_Cr_coinsBy_66 1 rfl ?_
  refine aw_getR (t := 28) fl_Cr_9 kd_27 rt_27_0 d_Cr_coinsBy_67 ?_
  refine aw_iload_n d_Cr_coinsBy_70 4 rfl ?_
  refine aw_iconst d_Cr_coinsBy_71 ki_1 ?_
  refine aw_iload d_Cr_coinsBy_72 5 rfl ?_
  refine aw_ishl d_Cr_coinsBy_74 ?_
  refine aw_ior d_Cr_coinsBy_75 ?_
  refine aw_SN_p (As := [.ref 28, .int (a3 ||| ((1 : Int32) <<< (a4 &&& 31)))]) (m_Fp_get (congrArg Prod.fst kd_28)) cs_Cr_68 rfl rfl (Nat.le_of_ble_eq_true rfl) ⟨Nat.le_of_ble_eq_true rfl, Nat.le_of_ble_eq_true rfl⟩ ⟨Nat.le_refl _, Nat.le_refl _⟩ d_Cr_coinsBy_76 (fun y76 => ?_)
  refine aw_iadd d_Cr_coinsBy_79 ?_
  exact aw_iret rfl rfl ⟨Nat.le_refl _, Nat.le_refl _⟩ d_Cr_coinsBy_80
def f_Cr_coinsBy (a2 : Int32) (a3 : Int32) (a4 : Int32) (δ : Dm) : Option Int32 := ((f_To_boothAt a2 δ).bind (fun o2 => ocs o2 (some (0 : Int32)) (fun t2 => if isB t2 = true then (if (gI δ 27 1) = 0 then ((f_Fp_get (t2 + 2) a4 δ).bind (fun y36 => (if (gI δ t2 0) = a4 then (jp_Cr_coinsBy_59 a2 a3 a4 t2 δ y36 (0 : Int32)) else (jp_Cr_coinsBy_59 a2 a3 a4 t2 δ y36 (gI δ 27 2))))) else ((f_Fp_get (t2 + 3) a4 δ).bind (fun y36_1 => (if (gI δ t2 0) = a4 then (jp_Cr_coinsBy_59 a2 a3 a4 t2 δ y36_1 (0 : Int32)) else (jp_Cr_coinsBy_59 a2 a3 a4 t2 δ y36_1 (gI δ 27 2)))))) else none)))
set_option maxHeartbeats 4000000 in
set_option maxRecDepth 100000 in
theorem m_Cr_coinsBy {a2 : Int32} {a3 : Int32} {a4 : Int32} {δ : Dm} {n : Nat} : ∀ x, f_Cr_coinsBy a2 a3 a4 δ = some x → AMet k_Cr_coinsBy 3 0 0 [.ref 27, .ref 29, .int a2, .int a3, .int a4] δ RT n (Kp δ RT n x) := by
  refine aw_start (lo := [(0, .ref 27), (1, .ref 29), (2, .int a2), (3, .int a3), (4, .int a4)]) mok_Cr_coinsBy rfl (Nat.le_of_ble_eq_true rfl) ?_
  unfold f_Cr_coinsBy
  refine aw_aload_n d_Cr_coinsBy_0 1 rfl ?_
  refine aw_iload_n d_Cr_coinsBy_1 2 rfl ?_
  refine aw_V_r (As := [.int a2]) (m_To_boothAt) cv_Cr_56 kd_29 rfl rfl rfl (Nat.le_of_ble_eq_true rfl) ⟨Nat.le_of_ble_eq_true rfl, Nat.le_of_ble_eq_true rfl⟩ ⟨Nat.le_refl _, Nat.le_refl _⟩ d_Cr_coinsBy_2 ?_ (fun t2 => ?_)
  · refine aw_astoreN (lo' := [(5, .null), (0, .ref 27), (1, .ref 29), (2, .int a2), (3, .int a3), (4, .int a4)]) d_Cr_coinsBy_5 (by decide) rfl ?_
    refine aw_aloadN d_Cr_coinsBy_7 0 rfl ?_
    refine aw_ifnonnullN d_Cr_coinsBy_9 ?_
    refine aw_iconst d_Cr_coinsBy_12 ki_0 ?_
    exact aw_iret rfl rfl ⟨Nat.le_refl _, Nat.le_refl _⟩ d_Cr_coinsBy_13
  · refine aw_grd (fun ht2 => ?_)
    refine aw_astore (lo' := [(5, .ref t2), (0, .ref 27), (1, .ref 29), (2, .int a2), (3, .int a3), (4, .int a4)]) d_Cr_coinsBy_5 (by decide) rfl ?_
    refine aw_aload d_Cr_coinsBy_7 0 rfl ?_
    refine aw_ifnonnull (tgt := 14) d_Cr_coinsBy_9 rfl ?_
    refine aw_aload_n d_Cr_coinsBy_14 1 rfl ?_
    refine aw_getI fl_Cr_15 kd_27 d_Cr_coinsBy_15 ?_
    refine aw_if_eq (tgt := 29) d_Cr_coinsBy_18 rfl (fun q18 => ?_) (fun q18 => ?_)
    · refine aw_aload d_Cr_coinsBy_29 0 rfl ?_
      refine aw_getR (t := (t2 + 2)) fl_Cr_65 (fx_isBK ht2 0 (by decide)) (fx_isBR ht2 0 10 (by decide) (by decide)) d_Cr_coinsBy_31 ?_
      refine aw_iload d_Cr_coinsBy_34 5 rfl ?_
      refine aw_SN_p (As := [.ref (t2 + 2), .int a4]) (m_Fp_get (congrArg Prod.fst (fx_isBK ht2 2 (by decide)))) cs_Cr_68 rfl rfl (Nat.le_of_ble_eq_true rfl) ⟨Nat.le_of_ble_eq_true rfl, Nat.le_of_ble_eq_true rfl⟩ ⟨Nat.le_refl _, Nat.le_refl _⟩ d_Cr_coinsBy_36 (fun y36 => ?_)
      refine aw_istore (lo' := [(6, .int y36), (5, .ref t2), (0, .ref 27), (1, .ref 29), (2, .int a2), (3, .int a3), (4, .int a4)]) d_Cr_coinsBy_39 (by decide) rfl ?_
      refine aw_aload d_Cr_coinsBy_41 1 rfl ?_
      refine aw_getI fl_Cr_72 (fx_isBK ht2 0 (by decide)) d_Cr_coinsBy_43 ?_
      refine aw_iload d_Cr_coinsBy_46 6 rfl ?_
      refine aw_icmp_ne (tgt := 55) d_Cr_coinsBy_48 rfl (fun q48 => ?_) (fun q48 => ?_)
      · refine aw_iconst d_Cr_coinsBy_51 ki_0 ?_
        refine aw_goto (tgt := 59) d_Cr_coinsBy_52 rfl ?_
        refine aw_sub (lo' := [(0, .ref 27), (1, .ref 29), (2, .int a2), (3, .int a3), (4, .int a4), (5, .ref t2), (6, .int y36)]) [2, 3, 4, 5, 6, 1, 0] rfl ?_
        exact tj_Cr_coinsBy_59 _ _ _ _ _ _ _ ht2
      · refine aw_aload_n d_Cr_coinsBy_55 2 rfl ?_
        refine aw_getI fl_Cr_19 kd_27 d_Cr_coinsBy_56 ?_
        refine aw_sub (lo' := [(0, .ref 27), (1, .ref 29), (2, .int a2), (3, .int a3), (4, .int a4), (5, .ref t2), (6, .int y36)]) [2, 3, 4, 5, 6, 1, 0] rfl ?_
        exact tj_Cr_coinsBy_59 _ _ _ _ _ _ _ ht2
    · refine aw_aload d_Cr_coinsBy_21 0 rfl ?_
      refine aw_getR (t := (t2 + 3)) fl_Cr_60 (fx_isBK ht2 0 (by decide)) (fx_isBR ht2 0 11 (by decide) (by decide)) d_Cr_coinsBy_23 ?_
      refine aw_goto (tgt := 34) d_Cr_coinsBy_26 rfl ?_
      refine aw_iload d_Cr_coinsBy_34 5 rfl ?_
      refine aw_SN_p (As := [.ref (t2 + 3), .int a4]) (m_Fp_get (congrArg Prod.fst (fx_isBK ht2 3 (by decide)))) cs_Cr_68 rfl rfl (Nat.le_of_ble_eq_true rfl) ⟨Nat.le_of_ble_eq_true rfl, Nat.le_of_ble_eq_true rfl⟩ ⟨Nat.le_refl _, Nat.le_refl _⟩ d_Cr_coinsBy_36 (fun y36_1 => ?_)
      refine aw_istore (lo' := [(6, .int y36_1), (5, .ref t2), (0, .ref 27), (1, .ref 29), (2, .int a2), (3, .int a3), (4, .int a4)]) d_Cr_coinsBy_39 (by decide) rfl ?_
      refine aw_aload d_Cr_coinsBy_41 1 rfl ?_
      refine aw_getI fl_Cr_72 (fx_isBK ht2 0 (by decide)) d_Cr_coinsBy_43 ?_
      refine aw_iload d_Cr_coinsBy_46 6 rfl ?_
      refine aw_icmp_ne (tgt := 55) d_Cr_coinsBy_48 rfl (fun q48 => ?_) (fun q48 => ?_)
      · refine aw_iconst d_Cr_coinsBy_51 ki_0 ?_
        refine aw_goto (tgt := 59) d_Cr_coinsBy_52 rfl ?_
        refine aw_sub (lo' := [(0, .ref 27), (1, .ref 29), (2, .int a2), (3, .int a3), (4, .int a4), (5, .ref t2), (6, .int y36_1)]) [2, 3, 4, 5, 6, 1, 0] rfl ?_
        exact tj_Cr_coinsBy_59 _ _ _ _ _ _ _ ht2
      · refine aw_aload_n d_Cr_coinsBy_55 2 rfl ?_
        refine aw_getI fl_Cr_19 kd_27 d_Cr_coinsBy_56 ?_
        refine aw_sub (lo' := [(0, .ref 27), (1, .ref 29), (2, .int a2), (3, .int a3), (4, .int a4), (5, .ref t2), (6, .int y36_1)]) [2, 3, 4, 5, 6, 1, 0] rfl ?_
        exact tj_Cr_coinsBy_59 _ _ _ _ _ _ _ ht2
def lp_Cr_mostOf_7 (kx7_47 : Int32 → Int32 → Option Int32) (a2 : Int32) (a3 : Int32) (δ : Dm) : Nat → Int32 → Int32 → Option Int32
  | 0, _, _ => none
  | f + 1, v4_7, v5_7 => (if (gI δ 29 1) ≤ v5_7 then (kx7_47 v4_7 v5_7) else (if ((a3 >>> (v5_7 &&& 31)) &&& (1 : Int32)) = 0 then ((f_Cr_coinsBy a2 a3 v5_7 δ).bind (fun y33 => (bnd (if v4_7 < y33 then y33 else v4_7) (fun v39 => (lp_Cr_mostOf_7 kx7_47 a2 a3 δ f v39 (v5_7 + (1 : Int32))))))) else (lp_Cr_mostOf_7 kx7_47 a2 a3 δ f v4_7 (v5_7 + (1 : Int32)))))
set_option maxHeartbeats 4000000 in
set_option maxRecDepth 100000 in
theorem tl_Cr_mostOf_7 {n : Nat} (kx7_47 : Int32 → Int32 → Option Int32) (a2 : Int32) (a3 : Int32) (δ : Dm) (hkx7_47 : ∀ v4_7k v5_7k, AWo k_Cr_mostOf 4 0 0 47 [(0, .ref 27), (1, .ref 29), (2, .int a2), (3, .int a3), (4, .int v4_7k), (5, .int v5_7k)] [] δ RT n 0 0 (Kp δ RT n) (kx7_47 v4_7k v5_7k)) : ∀ (f : Nat) (v4_7 : Int32) (v5_7 : Int32), AWo k_Cr_mostOf 4 0 0 7 [(0, .ref 27), (1, .ref 29), (2, .int a2), (3, .int a3), (4, .int v4_7), (5, .int v5_7)] [] δ RT n 0 0 (Kp δ RT n) (lp_Cr_mostOf_7 kx7_47 a2 a3 δ f v4_7 v5_7) := by
  intro f
  induction f with
  | zero => intro _ _; exact aw_none
  | succ f ih =>
    intro v4_7 v5_7
    rw [lp_Cr_mostOf_7]
    refine aw_iload d_Cr_mostOf_7 5 rfl ?_
    refine aw_aload_n d_Cr_mostOf_9 1 rfl ?_
    refine aw_getI fl_Cr_23 kd_29 d_Cr_mostOf_10 ?_
    refine aw_icmp_ge (tgt := 47) d_Cr_mostOf_13 rfl (fun q13 => ?_) (fun q13 => ?_)
    · refine aw_sub (lo' := [(0, .ref 27), (1, .ref 29), (2, .int a2), (3, .int a3), (4, .int v4_7), (5, .int v5_7)]) [0, 1, 2, 3, 4, 5] rfl ?_
      exact hkx7_47 _ _
    · refine aw_iload_n d_Cr_mostOf_16 3 rfl ?_
      refine aw_iload d_Cr_mostOf_17 5 rfl ?_
      refine aw_ishr d_Cr_mostOf_19 ?_
      refine aw_iconst d_Cr_mostOf_20 ki_1 ?_
      refine aw_iand d_Cr_mostOf_21 ?_
      refine aw_if_ne (tgt := 41) d_Cr_mostOf_22 rfl (fun q22 => ?_) (fun q22 => ?_)
      · refine aw_iload d_Cr_mostOf_25 4 rfl ?_
        refine aw_aload_n d_Cr_mostOf_27 0 rfl ?_
        refine aw_aload_n d_Cr_mostOf_28 1 rfl ?_
        refine aw_iload_n d_Cr_mostOf_29 2 rfl ?_
        refine aw_iload_n d_Cr_mostOf_30 3 rfl ?_
        refine aw_iload d_Cr_mostOf_31 5 rfl ?_
        refine aw_V_p (As := [.ref 29, .int a2, .int a3, .int v5_7]) (m_Cr_coinsBy) cv_Cr_46 kd_27 rfl rfl rfl (Nat.le_of_ble_eq_true rfl) ⟨Nat.le_of_ble_eq_true rfl, Nat.le_of_ble_eq_true rfl⟩ ⟨Nat.le_refl _, Nat.le_refl _⟩ d_Cr_mostOf_33 (fun y33 => ?_)
        refine aw_maxI ml_Cr_50 ms_maxI mi_Ma mx_maxI (Nat.le_of_ble_eq_true rfl) (Nat.le_of_ble_eq_true rfl) ⟨Nat.le_refl _, Nat.le_refl _⟩ d_Cr_mostOf_36 ?_
        refine aw_bI (fun v39 => ?_)
        refine aw_istore (lo' := [(4, .int v39), (0, .ref 27), (1, .ref 29), (2, .int a2), (3, .int a3), (5, .int v5_7)]) d_Cr_mostOf_39 (by decide) rfl ?_
        refine aw_iinc (v := (v5_7 + (1 : Int32))) (lo' := [(5, .int (v5_7 + (1 : Int32))), (4, .int v39), (0, .ref 27), (1, .ref 29), (2, .int a2), (3, .int a3)]) d_Cr_mostOf_41 5 rfl (by rw [show Int32.ofInt (1) = (1 : Int32) from by decide]) (by decide) rfl ?_
        refine aw_goto (tgt := 7) d_Cr_mostOf_44 rfl ?_
        refine aw_sub (lo' := [(0, .ref 27), (1, .ref 29), (2, .int a2), (3, .int a3), (4, .int v39), (5, .int (v5_7 + (1 : Int32)))]) [2, 3, 4, 5, 1, 0] rfl ?_
        exact ih _ _
      · refine aw_iinc (v := (v5_7 + (1 : Int32))) (lo' := [(5, .int (v5_7 + (1 : Int32))), (0, .ref 27), (1, .ref 29), (2, .int a2), (3, .int a3), (4, .int v4_7)]) d_Cr_mostOf_41 5 rfl (by rw [show Int32.ofInt (1) = (1 : Int32) from by decide]) (by decide) rfl ?_
        refine aw_goto (tgt := 7) d_Cr_mostOf_44 rfl ?_
        refine aw_sub (lo' := [(0, .ref 27), (1, .ref 29), (2, .int a2), (3, .int a3), (4, .int v4_7), (5, .int (v5_7 + (1 : Int32)))]) [1, 2, 3, 4, 5, 0] rfl ?_
        exact ih _ _
def f_Cr_mostOf (a2 : Int32) (a3 : Int32) (δ : Dm) : Option Int32 := (lp_Cr_mostOf_7 (fun v4_7x v5_7x => (some v4_7x)) a2 a3 δ FU (-1000000000 : Int32) (0 : Int32))
set_option maxHeartbeats 4000000 in
set_option maxRecDepth 100000 in
theorem m_Cr_mostOf {a2 : Int32} {a3 : Int32} {δ : Dm} {n : Nat} : ∀ x, f_Cr_mostOf a2 a3 δ = some x → AMet k_Cr_mostOf 4 0 0 [.ref 27, .ref 29, .int a2, .int a3] δ RT n (Kp δ RT n x) := by
  refine aw_start (lo := [(0, .ref 27), (1, .ref 29), (2, .int a2), (3, .int a3)]) mok_Cr_mostOf rfl (Nat.le_of_ble_eq_true rfl) ?_
  unfold f_Cr_mostOf
  refine aw_ldc (v := (-1000000000 : Int32)) d_Cr_mostOf_0 kc_Cr_45 ?_
  refine aw_istore (lo' := [(4, .int (-1000000000 : Int32)), (0, .ref 27), (1, .ref 29), (2, .int a2), (3, .int a3)]) d_Cr_mostOf_2 (by decide) rfl ?_
  refine aw_iconst d_Cr_mostOf_4 ki_0 ?_
  refine aw_istore (lo' := [(5, .int (0 : Int32)), (4, .int (-1000000000 : Int32)), (0, .ref 27), (1, .ref 29), (2, .int a2), (3, .int a3)]) d_Cr_mostOf_5 (by decide) rfl ?_
  refine aw_sub (lo' := [(0, .ref 27), (1, .ref 29), (2, .int a2), (3, .int a3), (4, .int (-1000000000 : Int32)), (5, .int (0 : Int32))]) [2, 3, 4, 5, 1, 0] rfl ?_
  refine tl_Cr_mostOf_7 _ _ _ _ (fun v4_7x v5_7x => ?_) FU _ _
  · refine aw_iload d_Cr_mostOf_47 4 rfl ?_
    exact aw_iret rfl rfl ⟨Nat.le_refl _, Nat.le_refl _⟩ d_Cr_mostOf_49
def jp_Cr_plan_60 (kr20 : Int32 → Dm → Option Dm) (kx20_69 : Int32 → Dm → Option Dm) (a2 : Int32) (a3 : Int32) (v4_20 : Int32) (y27 : Int32) (δ20 : Dm) (s0_60 : Int32) : Option Dm := ((f_Fp_put 28 v4_20 s0_60 δ20).bind (fun y60 => (kr20 (v4_20 + (-1 : Int32)) y60)))
set_option maxHeartbeats 4000000 in
set_option maxRecDepth 100000 in
theorem tj_Cr_plan_60 {n : Nat} (kr20 : Int32 → Dm → Option Dm) (kx20_69 : Int32 → Dm → Option Dm) (a2 : Int32) (a3 : Int32) (v4_20 : Int32) (y27 : Int32) (δ20 : Dm) (s0_60 : Int32) (hkr20 : ∀ v4_20k δ20k, AWo k_Cr_plan 5 0 0 20 [(0, .ref 27), (1, .ref 29), (2, .int a2), (3, .int a3), (4, .int v4_20k)] [] δ20k RT n 0 0 (Kv RT n) (kr20 v4_20k δ20k)) (hkx20_69 : ∀ v4_20k δ20k, AWo k_Cr_plan 5 0 0 69 [(0, .ref 27), (1, .ref 29), (2, .int a2), (3, .int a3), (4, .int v4_20k)] [] δ20k RT n 0 0 (Kv RT n) (kx20_69 v4_20k δ20k)) : AWo k_Cr_plan 5 0 0 60 [(0, .ref 27), (1, .ref 29), (2, .int a2), (3, .int a3), (4, .int v4_20), (5, .int y27)] [.int s0_60, .int v4_20, .ref 28] δ20 RT n 0 0 (Kv RT n) (jp_Cr_plan_60 kr20 kx20_69 a2 a3 v4_20 y27 δ20 s0_60) := by
  unfold jp_Cr_plan_60
  refine aw_SN_v (As := [.ref 28, .int v4_20, .int s0_60]) (m_Fp_put (congrArg Prod.fst kd_28)) cs_Cr_41 rfl rfl (Nat.le_of_ble_eq_true rfl) ⟨Nat.le_of_ble_eq_true rfl, Nat.le_of_ble_eq_true rfl⟩ ⟨Nat.le_refl _, Nat.le_refl _⟩ d_Cr_plan_60 (fun y60 => ?_)
  refine aw_iinc (v := (v4_20 + (-1 : Int32))) (lo' := [(4, .int (v4_20 + (-1 : Int32))), (0, .ref 27), (1, .ref 29), (2, .int a2), (3, .int a3), (5, .int y27)]) d_Cr_plan_63 4 rfl (by rw [show Int32.ofInt (-1) = (-1 : Int32) from by decide]) (by decide) rfl ?_
  refine aw_goto (tgt := 20) d_Cr_plan_66 rfl ?_
  refine aw_sub (lo' := [(0, .ref 27), (1, .ref 29), (2, .int a2), (3, .int a3), (4, .int (v4_20 + (-1 : Int32)))]) [1, 2, 3, 4, 0] rfl ?_
  exact hkr20 _ _
def lp_Cr_plan_20 (kx20_69 : Int32 → Dm → Option Dm) (a2 : Int32) (a3 : Int32) : Nat → Int32 → Dm → Option Dm
  | 0, _, _ => none
  | f + 1, v4_20, δ20 => (if v4_20 < 0 then (kx20_69 v4_20 δ20) else ((f_In_bitCount v4_20 δ20).bind (fun y27 => (if (gI δ20 29 2) ≤ y27 then (jp_Cr_plan_60 (lp_Cr_plan_20 kx20_69 a2 a3 f) kx20_69 a2 a3 v4_20 y27 δ20 (0 : Int32)) else ((f_Cr_mostOf y27 v4_20 δ20).bind (fun y53 => (jp_Cr_plan_60 (lp_Cr_plan_20 kx20_69 a2 a3 f) kx20_69 a2 a3 v4_20 y27 δ20 y53)))))))
set_option maxHeartbeats 4000000 in
set_option maxRecDepth 100000 in
theorem tl_Cr_plan_20 {n : Nat} (kx20_69 : Int32 → Dm → Option Dm) (a2 : Int32) (a3 : Int32) (hkx20_69 : ∀ v4_20k δ20k, AWo k_Cr_plan 5 0 0 69 [(0, .ref 27), (1, .ref 29), (2, .int a2), (3, .int a3), (4, .int v4_20k)] [] δ20k RT n 0 0 (Kv RT n) (kx20_69 v4_20k δ20k)) : ∀ (f : Nat) (v4_20 : Int32) (δ20 : Dm), AWo k_Cr_plan 5 0 0 20 [(0, .ref 27), (1, .ref 29), (2, .int a2), (3, .int a3), (4, .int v4_20)] [] δ20 RT n 0 0 (Kv RT n) (lp_Cr_plan_20 kx20_69 a2 a3 f v4_20 δ20) := by
  intro f
  induction f with
  | zero => intro _ _; exact aw_none
  | succ f ih =>
    intro v4_20 δ20
    rw [lp_Cr_plan_20]
    refine aw_iload d_Cr_plan_20 4 rfl ?_
    refine aw_if_lt (tgt := 69) d_Cr_plan_22 rfl (fun q22 => ?_) (fun q22 => ?_)
    · refine aw_sub (lo' := [(0, .ref 27), (1, .ref 29), (2, .int a2), (3, .int a3), (4, .int v4_20)]) [0, 1, 2, 3, 4] rfl ?_
      exact hkx20_69 _ _
    · refine aw_iload d_Cr_plan_25 4 rfl ?_
      refine aw_S_p (As := [.int v4_20]) (m_In_bitCount) cs_Cr_28 rfl rfl (Nat.le_of_ble_eq_true rfl) ⟨Nat.le_of_ble_eq_true rfl, Nat.le_of_ble_eq_true rfl⟩ ⟨Nat.le_refl _, Nat.le_refl _⟩ d_Cr_plan_27 (fun y27 => ?_)
      refine aw_istore (lo' := [(5, .int y27), (0, .ref 27), (1, .ref 29), (2, .int a2), (3, .int a3), (4, .int v4_20)]) d_Cr_plan_30 (by decide) rfl ?_
      refine aw_aload_n d_Cr_plan_32 1 rfl ?_
      refine aw_getR (t := 28) fl_Cr_9 kd_27 rt_27_0 d_Cr_plan_33 ?_
      refine aw_iload d_Cr_plan_36 5 rfl ?_
      refine aw_iload d_Cr_plan_38 0 rfl ?_
      refine aw_aload_n d_Cr_plan_40 2 rfl ?_
      refine aw_getI fl_Cr_34 kd_29 d_Cr_plan_41 ?_
      refine aw_icmp_ge (tgt := 59) d_Cr_plan_44 rfl (fun q44 => ?_) (fun q44 => ?_)
      · refine aw_iconst d_Cr_plan_59 ki_0 ?_
        refine aw_sub (lo' := [(0, .ref 27), (1, .ref 29), (2, .int a2), (3, .int a3), (4, .int v4_20), (5, .int y27)]) [1, 2, 3, 4, 5, 0] rfl ?_
        exact tj_Cr_plan_60 _ _ _ _ _ _ _ _ ih hkx20_69
      · refine aw_aload_n d_Cr_plan_47 1 rfl ?_
        refine aw_aload_n d_Cr_plan_48 2 rfl ?_
        refine aw_iload d_Cr_plan_49 0 rfl ?_
        refine aw_iload d_Cr_plan_51 5 rfl ?_
        refine aw_V_p (As := [.ref 29, .int y27, .int v4_20]) (m_Cr_mostOf) cv_Cr_37 kd_27 rfl rfl rfl (Nat.le_of_ble_eq_true rfl) ⟨Nat.le_of_ble_eq_true rfl, Nat.le_of_ble_eq_true rfl⟩ ⟨Nat.le_refl _, Nat.le_refl _⟩ d_Cr_plan_53 (fun y53 => ?_)
        refine aw_goto (tgt := 60) d_Cr_plan_56 rfl ?_
        refine aw_sub (lo' := [(0, .ref 27), (1, .ref 29), (2, .int a2), (3, .int a3), (4, .int v4_20), (5, .int y27)]) [1, 2, 3, 4, 5, 0] rfl ?_
        exact tj_Cr_plan_60 _ _ _ _ _ _ _ _ ih hkx20_69
def f_Cr_plan (a2 : Int32) (a3 : Int32) (δ : Dm) : Option Dm := (if a2 = 0 ∨ a2 = 1 then bnd (sI δ 27 1 a2) (fun δ_2 => (bnd (sI δ_2 27 2 a3) (fun δ_7 => (bnd (((1 : Int32) <<< ((gI δ_7 29 1) &&& 31)) - (1 : Int32)) (fun v18 => (lp_Cr_plan_20 (fun v4_20x δ20x => (some δ20x)) a2 a3 FU v18 δ_7)))))) else none)
set_option maxHeartbeats 4000000 in
set_option maxRecDepth 100000 in
theorem m_Cr_plan {a2 : Int32} {a3 : Int32} {δ : Dm} {n : Nat} : ∀ x, f_Cr_plan a2 a3 δ = some x → AMet k_Cr_plan 5 0 0 [.ref 27, .ref 29, .int a2, .int a3] δ RT n (Kv RT n x) := by
  refine aw_start (lo := [(0, .ref 27), (1, .ref 29), (2, .int a2), (3, .int a3)]) mok_Cr_plan rfl (Nat.le_of_ble_eq_true rfl) ?_
  unfold f_Cr_plan
  refine aw_aload_n d_Cr_plan_0 0 rfl ?_
  refine aw_iload_n d_Cr_plan_1 2 rfl ?_
  refine aw_putZ pf_Cr_15 kd_27 d_Cr_plan_2 ?_
  refine aw_bD (fun δ_2 => ?_)
  refine aw_aload_n d_Cr_plan_5 0 rfl ?_
  refine aw_iload_n d_Cr_plan_6 3 rfl ?_
  refine aw_putI pf_Cr_19 kd_27 d_Cr_plan_7 ?_
  refine aw_bD (fun δ_7 => ?_)
  refine aw_iconst d_Cr_plan_10 ki_1 ?_
  refine aw_aload_n d_Cr_plan_11 1 rfl ?_
  refine aw_getI fl_Cr_23 kd_29 d_Cr_plan_12 ?_
  refine aw_ishl d_Cr_plan_15 ?_
  refine aw_iconst d_Cr_plan_16 ki_1 ?_
  refine aw_isub d_Cr_plan_17 ?_
  refine aw_bI (fun v18 => ?_)
  refine aw_istore (lo' := [(4, .int v18), (0, .ref 27), (1, .ref 29), (2, .int a2), (3, .int a3)]) d_Cr_plan_18 (by decide) rfl ?_
  refine aw_sub (lo' := [(0, .ref 27), (1, .ref 29), (2, .int a2), (3, .int a3), (4, .int v18)]) [1, 2, 3, 4, 0] rfl ?_
  refine tl_Cr_plan_20 _ _ _ (fun v4_20x δ20x => ?_) FU _ _
  · exact aw_vret rfl rfl ⟨Nat.le_refl _, Nat.le_refl _⟩ d_Cr_plan_69
def f_Cr_together (δ : Dm) : Option Int32 := ((f_Fp_get 28 (0 : Int32) δ).bind (fun y5 => (some y5)))
set_option maxHeartbeats 4000000 in
set_option maxRecDepth 100000 in
theorem m_Cr_together {δ : Dm} {n : Nat} : ∀ x, f_Cr_together δ = some x → AMet k_Cr_together 2 0 0 [.ref 27] δ RT n (Kp δ RT n x) := by
  refine aw_start (lo := [(0, .ref 27)]) mok_Cr_together rfl (Nat.le_of_ble_eq_true rfl) ?_
  unfold f_Cr_together
  refine aw_aload_n d_Cr_together_0 0 rfl ?_
  refine aw_getR (t := 28) fl_Cr_9 kd_27 rt_27_0 d_Cr_together_1 ?_
  refine aw_iconst d_Cr_together_4 ki_0 ?_
  refine aw_SN_p (As := [.ref 28, .int (0 : Int32)]) (m_Fp_get (congrArg Prod.fst kd_28)) cs_Cr_68 rfl rfl (Nat.le_of_ble_eq_true rfl) ⟨Nat.le_of_ble_eq_true rfl, Nat.le_of_ble_eq_true rfl⟩ ⟨Nat.le_refl _, Nat.le_refl _⟩ d_Cr_together_5 (fun y5 => ?_)
  exact aw_iret rfl rfl ⟨Nat.le_refl _, Nat.le_refl _⟩ d_Cr_together_8
def lp_Cr_firstSpot_3 (kx3_50 : Int32 → Option Int32) (a2 : Int32) (a3 : Int32) (δ : Dm) : Nat → Int32 → Option Int32
  | 0, _ => none
  | f + 1, v4_3 => (if (gI δ 29 1) ≤ v4_3 then (kx3_50 v4_3) else (if ((a3 >>> (v4_3 &&& 31)) &&& (1 : Int32)) = 0 then ((f_Cr_coinsBy a2 a3 v4_3 δ).bind (fun y27 => ((f_Fp_get 28 a3 δ).bind (fun y35 => (if y27 = y35 then (some v4_3) else (lp_Cr_firstSpot_3 kx3_50 a2 a3 δ f (v4_3 + (1 : Int32)))))))) else (lp_Cr_firstSpot_3 kx3_50 a2 a3 δ f (v4_3 + (1 : Int32)))))
set_option maxHeartbeats 4000000 in
set_option maxRecDepth 100000 in
theorem tl_Cr_firstSpot_3 {n : Nat} (kx3_50 : Int32 → Option Int32) (a2 : Int32) (a3 : Int32) (δ : Dm) (hkx3_50 : ∀ v4_3k, AWo k_Cr_firstSpot 4 0 0 50 [(0, .ref 27), (1, .ref 29), (2, .int a2), (3, .int a3), (4, .int v4_3k)] [] δ RT n 0 0 (Kp δ RT n) (kx3_50 v4_3k)) : ∀ (f : Nat) (v4_3 : Int32), AWo k_Cr_firstSpot 4 0 0 3 [(0, .ref 27), (1, .ref 29), (2, .int a2), (3, .int a3), (4, .int v4_3)] [] δ RT n 0 0 (Kp δ RT n) (lp_Cr_firstSpot_3 kx3_50 a2 a3 δ f v4_3) := by
  intro f
  induction f with
  | zero => intro _; exact aw_none
  | succ f ih =>
    intro v4_3
    rw [lp_Cr_firstSpot_3]
    refine aw_iload d_Cr_firstSpot_3 4 rfl ?_
    refine aw_aload_n d_Cr_firstSpot_5 1 rfl ?_
    refine aw_getI fl_Cr_23 kd_29 d_Cr_firstSpot_6 ?_
    refine aw_icmp_ge (tgt := 50) d_Cr_firstSpot_9 rfl (fun q9 => ?_) (fun q9 => ?_)
    · refine aw_sub (lo' := [(0, .ref 27), (1, .ref 29), (2, .int a2), (3, .int a3), (4, .int v4_3)]) [0, 1, 2, 3, 4] rfl ?_
      exact hkx3_50 _
    · refine aw_iload_n d_Cr_firstSpot_12 3 rfl ?_
      refine aw_iload d_Cr_firstSpot_13 4 rfl ?_
      refine aw_ishr d_Cr_firstSpot_15 ?_
      refine aw_iconst d_Cr_firstSpot_16 ki_1 ?_
      refine aw_iand d_Cr_firstSpot_17 ?_
      refine aw_if_ne (tgt := 44) d_Cr_firstSpot_18 rfl (fun q18 => ?_) (fun q18 => ?_)
      · refine aw_aload_n d_Cr_firstSpot_21 0 rfl ?_
        refine aw_aload_n d_Cr_firstSpot_22 1 rfl ?_
        refine aw_iload_n d_Cr_firstSpot_23 2 rfl ?_
        refine aw_iload_n d_Cr_firstSpot_24 3 rfl ?_
        refine aw_iload d_Cr_firstSpot_25 4 rfl ?_
        refine aw_V_p (As := [.ref 29, .int a2, .int a3, .int v4_3]) (m_Cr_coinsBy) cv_Cr_46 kd_27 rfl rfl rfl (Nat.le_of_ble_eq_true rfl) ⟨Nat.le_of_ble_eq_true rfl, Nat.le_of_ble_eq_true rfl⟩ ⟨Nat.le_refl _, Nat.le_refl _⟩ d_Cr_firstSpot_27 (fun y27 => ?_)
        refine aw_aload_n d_Cr_firstSpot_30 0 rfl ?_
        refine aw_getR (t := 28) fl_Cr_9 kd_27 rt_27_0 d_Cr_firstSpot_31 ?_
        refine aw_iload_n d_Cr_firstSpot_34 3 rfl ?_
        refine aw_SN_p (As := [.ref 28, .int a3]) (m_Fp_get (congrArg Prod.fst kd_28)) cs_Cr_68 rfl rfl (Nat.le_of_ble_eq_true rfl) ⟨Nat.le_of_ble_eq_true rfl, Nat.le_of_ble_eq_true rfl⟩ ⟨Nat.le_refl _, Nat.le_refl _⟩ d_Cr_firstSpot_35 (fun y35 => ?_)
        refine aw_icmp_ne (tgt := 44) d_Cr_firstSpot_38 rfl (fun q38 => ?_) (fun q38 => ?_)
        · refine aw_iload d_Cr_firstSpot_41 4 rfl ?_
          exact aw_iret rfl rfl ⟨Nat.le_refl _, Nat.le_refl _⟩ d_Cr_firstSpot_43
        · refine aw_iinc (v := (v4_3 + (1 : Int32))) (lo' := [(4, .int (v4_3 + (1 : Int32))), (0, .ref 27), (1, .ref 29), (2, .int a2), (3, .int a3)]) d_Cr_firstSpot_44 4 rfl (by rw [show Int32.ofInt (1) = (1 : Int32) from by decide]) (by decide) rfl ?_
          refine aw_goto (tgt := 3) d_Cr_firstSpot_47 rfl ?_
          refine aw_sub (lo' := [(0, .ref 27), (1, .ref 29), (2, .int a2), (3, .int a3), (4, .int (v4_3 + (1 : Int32)))]) [1, 2, 3, 4, 0] rfl ?_
          exact ih _
      · refine aw_iinc (v := (v4_3 + (1 : Int32))) (lo' := [(4, .int (v4_3 + (1 : Int32))), (0, .ref 27), (1, .ref 29), (2, .int a2), (3, .int a3)]) d_Cr_firstSpot_44 4 rfl (by rw [show Int32.ofInt (1) = (1 : Int32) from by decide]) (by decide) rfl ?_
        refine aw_goto (tgt := 3) d_Cr_firstSpot_47 rfl ?_
        refine aw_sub (lo' := [(0, .ref 27), (1, .ref 29), (2, .int a2), (3, .int a3), (4, .int (v4_3 + (1 : Int32)))]) [1, 2, 3, 4, 0] rfl ?_
        exact ih _
def f_Cr_firstSpot (a2 : Int32) (a3 : Int32) (δ : Dm) : Option Int32 := (lp_Cr_firstSpot_3 (fun v4_3x => (some (-1 : Int32))) a2 a3 δ FU (0 : Int32))
set_option maxHeartbeats 4000000 in
set_option maxRecDepth 100000 in
theorem m_Cr_firstSpot {a2 : Int32} {a3 : Int32} {δ : Dm} {n : Nat} : ∀ x, f_Cr_firstSpot a2 a3 δ = some x → AMet k_Cr_firstSpot 4 0 0 [.ref 27, .ref 29, .int a2, .int a3] δ RT n (Kp δ RT n x) := by
  refine aw_start (lo := [(0, .ref 27), (1, .ref 29), (2, .int a2), (3, .int a3)]) mok_Cr_firstSpot rfl (Nat.le_of_ble_eq_true rfl) ?_
  unfold f_Cr_firstSpot
  refine aw_iconst d_Cr_firstSpot_0 ki_0 ?_
  refine aw_istore (lo' := [(4, .int (0 : Int32)), (0, .ref 27), (1, .ref 29), (2, .int a2), (3, .int a3)]) d_Cr_firstSpot_1 (by decide) rfl ?_
  refine aw_sub (lo' := [(0, .ref 27), (1, .ref 29), (2, .int a2), (3, .int a3), (4, .int (0 : Int32))]) [1, 2, 3, 4, 0] rfl ?_
  refine tl_Cr_firstSpot_3 _ _ _ _ (fun v4_3x => ?_) FU _
  · refine aw_iconst d_Cr_firstSpot_50 ki_m1 ?_
    exact aw_iret rfl rfl ⟨Nat.le_refl _, Nat.le_refl _⟩ d_Cr_firstSpot_51
def lp_Cr_spotOf_8 (kx8_45 : Int32 → Int32 → Int32 → Option Int32) (a2 : Int32) (δ : Dm) : Nat → Int32 → Int32 → Int32 → Option Int32
  | 0, _, _, _ => none
  | f + 1, v3_8, v4_8, v5_8 => (if a2 < v5_8 then (kx8_45 v3_8 v4_8 v5_8) else ((f_Cr_firstSpot v5_8 v3_8 δ).bind (fun y19 => (if y19 = (-1 : Int32) then (some (-1 : Int32)) else (bnd (v3_8 ||| ((1 : Int32) <<< (y19 &&& 31))) (fun v38 => (lp_Cr_spotOf_8 kx8_45 a2 δ f v38 y19 (v5_8 + (1 : Int32)))))))))
set_option maxHeartbeats 4000000 in
set_option maxRecDepth 100000 in
theorem tl_Cr_spotOf_8 {n : Nat} (kx8_45 : Int32 → Int32 → Int32 → Option Int32) (a2 : Int32) (δ : Dm) (hkx8_45 : ∀ v3_8k v4_8k v5_8k, AWo k_Cr_spotOf 5 0 0 45 [(0, .ref 27), (1, .ref 29), (2, .int a2), (3, .int v3_8k), (4, .int v4_8k), (5, .int v5_8k)] [] δ RT n 0 0 (Kp δ RT n) (kx8_45 v3_8k v4_8k v5_8k)) : ∀ (f : Nat) (v3_8 : Int32) (v4_8 : Int32) (v5_8 : Int32), AWo k_Cr_spotOf 5 0 0 8 [(0, .ref 27), (1, .ref 29), (2, .int a2), (3, .int v3_8), (4, .int v4_8), (5, .int v5_8)] [] δ RT n 0 0 (Kp δ RT n) (lp_Cr_spotOf_8 kx8_45 a2 δ f v3_8 v4_8 v5_8) := by
  intro f
  induction f with
  | zero => intro _ _ _; exact aw_none
  | succ f ih =>
    intro v3_8 v4_8 v5_8
    rw [lp_Cr_spotOf_8]
    refine aw_iload d_Cr_spotOf_8 5 rfl ?_
    refine aw_iload_n d_Cr_spotOf_10 2 rfl ?_
    refine aw_icmp_gt (tgt := 45) d_Cr_spotOf_11 rfl (fun q11 => ?_) (fun q11 => ?_)
    · refine aw_sub (lo' := [(0, .ref 27), (1, .ref 29), (2, .int a2), (3, .int v3_8), (4, .int v4_8), (5, .int v5_8)]) [0, 1, 2, 3, 4, 5] rfl ?_
      exact hkx8_45 _ _ _
    · refine aw_aload_n d_Cr_spotOf_14 0 rfl ?_
      refine aw_aload_n d_Cr_spotOf_15 1 rfl ?_
      refine aw_iload d_Cr_spotOf_16 5 rfl ?_
      refine aw_iload_n d_Cr_spotOf_18 3 rfl ?_
      refine aw_V_p (As := [.ref 29, .int v5_8, .int v3_8]) (m_Cr_firstSpot) cv_Cr_75 kd_27 rfl rfl rfl (Nat.le_of_ble_eq_true rfl) ⟨Nat.le_of_ble_eq_true rfl, Nat.le_of_ble_eq_true rfl⟩ ⟨Nat.le_refl _, Nat.le_refl _⟩ d_Cr_spotOf_19 (fun y19 => ?_)
      refine aw_istore (lo' := [(4, .int y19), (0, .ref 27), (1, .ref 29), (2, .int a2), (3, .int v3_8), (5, .int v5_8)]) d_Cr_spotOf_22 (by decide) rfl ?_
      refine aw_iload d_Cr_spotOf_24 0 rfl ?_
      refine aw_iconst d_Cr_spotOf_26 ki_m1 ?_
      refine aw_icmp_ne (tgt := 32) d_Cr_spotOf_27 rfl (fun q27 => ?_) (fun q27 => ?_)
      · refine aw_iconst d_Cr_spotOf_30 ki_m1 ?_
        exact aw_iret rfl rfl ⟨Nat.le_refl _, Nat.le_refl _⟩ d_Cr_spotOf_31
      · refine aw_iload_n d_Cr_spotOf_32 4 rfl ?_
        refine aw_iconst d_Cr_spotOf_33 ki_1 ?_
        refine aw_iload d_Cr_spotOf_34 0 rfl ?_
        refine aw_ishl d_Cr_spotOf_36 ?_
        refine aw_ior d_Cr_spotOf_37 ?_
        refine aw_bI (fun v38 => ?_)
        refine aw_istore_n (lo' := [(3, .int v38), (4, .int y19), (0, .ref 27), (1, .ref 29), (2, .int a2), (5, .int v5_8)]) d_Cr_spotOf_38 rfl (by decide) rfl ?_
        refine aw_iinc (v := (v5_8 + (1 : Int32))) (lo' := [(5, .int (v5_8 + (1 : Int32))), (3, .int v38), (4, .int y19), (0, .ref 27), (1, .ref 29), (2, .int a2)]) d_Cr_spotOf_39 5 rfl (by rw [show Int32.ofInt (1) = (1 : Int32) from by decide]) (by decide) rfl ?_
        refine aw_goto (tgt := 8) d_Cr_spotOf_42 rfl ?_
        refine aw_sub (lo' := [(0, .ref 27), (1, .ref 29), (2, .int a2), (3, .int v38), (4, .int y19), (5, .int (v5_8 + (1 : Int32)))]) [3, 4, 5, 1, 2, 0] rfl ?_
        exact ih _ _ _
def f_Cr_spotOf (a2 : Int32) (δ : Dm) : Option Int32 := (lp_Cr_spotOf_8 (fun v3_8x v4_8x v5_8x => (some v4_8x)) a2 δ FU (0 : Int32) (-1 : Int32) (0 : Int32))
set_option maxHeartbeats 4000000 in
set_option maxRecDepth 100000 in
theorem m_Cr_spotOf {a2 : Int32} {δ : Dm} {n : Nat} : ∀ x, f_Cr_spotOf a2 δ = some x → AMet k_Cr_spotOf 5 0 0 [.ref 27, .ref 29, .int a2] δ RT n (Kp δ RT n x) := by
  refine aw_start (lo := [(0, .ref 27), (1, .ref 29), (2, .int a2)]) mok_Cr_spotOf rfl (Nat.le_of_ble_eq_true rfl) ?_
  unfold f_Cr_spotOf
  refine aw_iconst d_Cr_spotOf_0 ki_0 ?_
  refine aw_istore_n (lo' := [(3, .int (0 : Int32)), (0, .ref 27), (1, .ref 29), (2, .int a2)]) d_Cr_spotOf_1 rfl (by decide) rfl ?_
  refine aw_iconst d_Cr_spotOf_2 ki_m1 ?_
  refine aw_istore (lo' := [(4, .int (-1 : Int32)), (3, .int (0 : Int32)), (0, .ref 27), (1, .ref 29), (2, .int a2)]) d_Cr_spotOf_3 (by decide) rfl ?_
  refine aw_iconst d_Cr_spotOf_5 ki_0 ?_
  refine aw_istore (lo' := [(5, .int (0 : Int32)), (4, .int (-1 : Int32)), (3, .int (0 : Int32)), (0, .ref 27), (1, .ref 29), (2, .int a2)]) d_Cr_spotOf_6 (by decide) rfl ?_
  refine aw_sub (lo' := [(0, .ref 27), (1, .ref 29), (2, .int a2), (3, .int (0 : Int32)), (4, .int (-1 : Int32)), (5, .int (0 : Int32))]) [3, 4, 5, 2, 1, 0] rfl ?_
  refine tl_Cr_spotOf_8 _ _ _ (fun v3_8x v4_8x v5_8x => ?_) FU _ _ _
  · refine aw_iload d_Cr_spotOf_45 4 rfl ?_
    exact aw_iret rfl rfl ⟨Nat.le_refl _, Nat.le_refl _⟩ d_Cr_spotOf_47
def f_Fp_placed (a1 : Int32) (a2 : Int32) (a3 : Int32) (δ : Dm) : Option (Int32 × Dm) := ((f_Fp_within a2 (0 : Int32) (9999 : Int32) δ).bind (fun y5 => (if y5 = 0 then (some ((-1000000000 : Int32), δ)) else ((f_Fp_within a3 (-1 : Int32) ((gI δ 29 2) - (1 : Int32)) δ).bind (fun y22 => (if y22 = 0 then (some ((-1000000000 : Int32), δ)) else ((f_Cr_plan a1 a2 δ).bind (fun y42 => (if a3 = (-1 : Int32) then ((f_Cr_together y42).bind (fun y54 => (some (y54, y42)))) else ((f_Cr_spotOf a3 y42).bind (fun y69 => (some (y69, y42)))))))))))))
set_option maxHeartbeats 4000000 in
set_option maxRecDepth 100000 in
theorem m_Fp_placed {a1 : Int32} {a2 : Int32} {a3 : Int32} {δ : Dm} {n : Nat} : ∀ x, f_Fp_placed a1 a2 a3 δ = some x → AMet k_Fp_placed 6 0 0 [.ref 4, .int a1, .int a2, .int a3] δ RT n (Km RT n x) := by
  refine aw_start (lo := [(0, .ref 4), (1, .int a1), (2, .int a2), (3, .int a3)]) mok_Fp_placed rfl (Nat.le_of_ble_eq_true rfl) ?_
  unfold f_Fp_placed
  refine aw_iload_n d_Fp_placed_0 2 rfl ?_
  refine aw_iconst d_Fp_placed_1 ki_0 ?_
  refine aw_sipush d_Fp_placed_2 ks_9999 ?_
  refine aw_S_p (As := [.int a2, .int (0 : Int32), .int (9999 : Int32)]) (m_Fp_within) cs_Fp_70 rfl rfl (Nat.le_of_ble_eq_true rfl) ⟨Nat.le_of_ble_eq_true rfl, Nat.le_of_ble_eq_true rfl⟩ ⟨Nat.le_refl _, Nat.le_refl _⟩ d_Fp_placed_5 (fun y5 => ?_)
  refine aw_if_eq (tgt := 28) d_Fp_placed_8 rfl (fun q8 => ?_) (fun q8 => ?_)
  · refine aw_ldcw (v := (-1000000000 : Int32)) d_Fp_placed_28 kc_Fp_270 ?_
    exact aw_iret rfl rfl ⟨Nat.le_refl _, Nat.le_refl _⟩ d_Fp_placed_31
  · refine aw_iload_n d_Fp_placed_11 3 rfl ?_
    refine aw_iconst d_Fp_placed_12 ki_m1 ?_
    refine aw_aload_n d_Fp_placed_13 0 rfl ?_
    refine aw_getR (t := 29) fl_Fp_57 kd_4 rt_4_9 d_Fp_placed_14 ?_
    refine aw_getI fl_Fp_116 kd_29 d_Fp_placed_17 ?_
    refine aw_iconst d_Fp_placed_20 ki_1 ?_
    refine aw_isub d_Fp_placed_21 ?_
    refine aw_S_p (As := [.int a3, .int (-1 : Int32), .int ((gI δ 29 2) - (1 : Int32))]) (m_Fp_within) cs_Fp_70 rfl rfl (Nat.le_of_ble_eq_true rfl) ⟨Nat.le_of_ble_eq_true rfl, Nat.le_of_ble_eq_true rfl⟩ ⟨Nat.le_refl _, Nat.le_refl _⟩ d_Fp_placed_22 (fun y22 => ?_)
    refine aw_if_ne (tgt := 32) d_Fp_placed_25 rfl (fun q25 => ?_) (fun q25 => ?_)
    · refine aw_ldcw (v := (-1000000000 : Int32)) d_Fp_placed_28 kc_Fp_270 ?_
      exact aw_iret rfl rfl ⟨Nat.le_refl _, Nat.le_refl _⟩ d_Fp_placed_31
    · refine aw_aload_n d_Fp_placed_32 0 rfl ?_
      refine aw_getR (t := 27) fl_Fp_50 kd_4 rt_4_8 d_Fp_placed_33 ?_
      refine aw_aload_n d_Fp_placed_36 0 rfl ?_
      refine aw_getR (t := 29) fl_Fp_57 kd_4 rt_4_9 d_Fp_placed_37 ?_
      refine aw_iload_n d_Fp_placed_40 1 rfl ?_
      refine aw_iload_n d_Fp_placed_41 2 rfl ?_
      refine aw_V_v (As := [.ref 29, .int a1, .int a2]) (m_Cr_plan) cv_Fp_342 kd_27 rfl rfl rfl (Nat.le_of_ble_eq_true rfl) ⟨Nat.le_of_ble_eq_true rfl, Nat.le_of_ble_eq_true rfl⟩ ⟨Nat.le_refl _, Nat.le_refl _⟩ d_Fp_placed_42 (fun y42 => ?_)
      refine aw_iload_n d_Fp_placed_45 3 rfl ?_
      refine aw_iconst d_Fp_placed_46 ki_m1 ?_
      refine aw_icmp_ne (tgt := 60) d_Fp_placed_47 rfl (fun q47 => ?_) (fun q47 => ?_)
      · refine aw_aload_n d_Fp_placed_50 0 rfl ?_
        refine aw_getR (t := 27) fl_Fp_50 kd_4 rt_4_8 d_Fp_placed_51 ?_
        refine aw_V_p (As := []) (m_Cr_together) cv_Fp_345 kd_27 rfl rfl rfl (Nat.le_of_ble_eq_true rfl) ⟨Nat.le_of_ble_eq_true rfl, Nat.le_of_ble_eq_true rfl⟩ ⟨Nat.le_refl _, Nat.le_refl _⟩ d_Fp_placed_54 (fun y54 => ?_)
        refine aw_goto (tgt := 72) d_Fp_placed_57 rfl ?_
        exact aw_iret rfl rfl ⟨Nat.le_refl _, Nat.le_refl _⟩ d_Fp_placed_72
      · refine aw_aload_n d_Fp_placed_60 0 rfl ?_
        refine aw_getR (t := 27) fl_Fp_50 kd_4 rt_4_8 d_Fp_placed_61 ?_
        refine aw_aload_n d_Fp_placed_64 0 rfl ?_
        refine aw_getR (t := 29) fl_Fp_57 kd_4 rt_4_9 d_Fp_placed_65 ?_
        refine aw_iload_n d_Fp_placed_68 3 rfl ?_
        refine aw_V_p (As := [.ref 29, .int a3]) (m_Cr_spotOf) cv_Fp_348 kd_27 rfl rfl rfl (Nat.le_of_ble_eq_true rfl) ⟨Nat.le_of_ble_eq_true rfl, Nat.le_of_ble_eq_true rfl⟩ ⟨Nat.le_refl _, Nat.le_refl _⟩ d_Fp_placed_69 (fun y69 => ?_)
        exact aw_iret rfl rfl ⟨Nat.le_refl _, Nat.le_refl _⟩ d_Fp_placed_72
def f_Fp_count (a1 : Int32) (δ : Dm) : Option Int32 := (if (a1).toInt = (0 : Int) then (some (gI δ 29 0)) else (if (a1).toInt = (1 : Int) then (some (gI δ 29 1)) else (if (a1).toInt = (2 : Int) then (some (gI δ 4 3)) else (if (a1).toInt = (3 : Int) then (some (gI δ 29 2)) else (if (a1).toInt = (4 : Int) then (some (gI δ 34 0)) else (if (a1).toInt = (5 : Int) then (some (gI δ 34 1)) else (if (a1).toInt = (6 : Int) then (some (gI δ 45 0)) else (if (a1).toInt = (7 : Int) then (some (gI δ 45 1)) else (if (a1).toInt = (8 : Int) then (some (gI δ 4 1)) else (some (-1 : Int32)))))))))))
set_option maxHeartbeats 4000000 in
set_option maxRecDepth 100000 in
theorem m_Fp_count {a1 : Int32} {δ : Dm} {n : Nat} : ∀ x, f_Fp_count a1 δ = some x → AMet k_Fp_count 1 0 0 [.ref 4, .int a1] δ RT n (Kp δ RT n x) := by
  refine aw_start (lo := [(0, .ref 4), (1, .int a1)]) mok_Fp_count rfl (Nat.le_of_ble_eq_true rfl) ?_
  unfold f_Fp_count
  refine aw_iload_n d_Fp_count_0 1 rfl ?_
  refine aw_ite (fun q1 => ?_) (fun q1_0 => ?_)
  · refine aw_tswitch (tgt := 52) d_Fp_count_1 q1 (by decide) (by decide) rfl rfl ?_
    refine aw_aload_n d_Fp_count_52 0 rfl ?_
    refine aw_getR (t := 29) fl_Fp_57 kd_4 rt_4_9 d_Fp_count_53 ?_
    refine aw_getI fl_Fp_130 kd_29 d_Fp_count_56 ?_
    exact aw_iret rfl rfl ⟨Nat.le_refl _, Nat.le_refl _⟩ d_Fp_count_59
  · refine aw_ite (fun q1 => ?_) (fun q1_1 => ?_)
    · refine aw_tswitch (tgt := 60) d_Fp_count_1 q1 (by decide) (by decide) rfl rfl ?_
      refine aw_aload_n d_Fp_count_60 0 rfl ?_
      refine aw_getR (t := 29) fl_Fp_57 kd_4 rt_4_9 d_Fp_count_61 ?_
      refine aw_getI fl_Fp_66 kd_29 d_Fp_count_64 ?_
      exact aw_iret rfl rfl ⟨Nat.le_refl _, Nat.le_refl _⟩ d_Fp_count_67
    · refine aw_ite (fun q1 => ?_) (fun q1_2 => ?_)
      · refine aw_tswitch (tgt := 68) d_Fp_count_1 q1 (by decide) (by decide) rfl rfl ?_
        refine aw_aload_n d_Fp_count_68 0 rfl ?_
        refine aw_getI fl_Fp_109 kd_4 d_Fp_count_69 ?_
        exact aw_iret rfl rfl ⟨Nat.le_refl _, Nat.le_refl _⟩ d_Fp_count_72
      · refine aw_ite (fun q1 => ?_) (fun q1_3 => ?_)
        · refine aw_tswitch (tgt := 73) d_Fp_count_1 q1 (by decide) (by decide) rfl rfl ?_
          refine aw_aload_n d_Fp_count_73 0 rfl ?_
          refine aw_getR (t := 29) fl_Fp_57 kd_4 rt_4_9 d_Fp_count_74 ?_
          refine aw_getI fl_Fp_116 kd_29 d_Fp_count_77 ?_
          exact aw_iret rfl rfl ⟨Nat.le_refl _, Nat.le_refl _⟩ d_Fp_count_80
        · refine aw_ite (fun q1 => ?_) (fun q1_4 => ?_)
          · refine aw_tswitch (tgt := 81) d_Fp_count_1 q1 (by decide) (by decide) rfl rfl ?_
            refine aw_aload_n d_Fp_count_81 0 rfl ?_
            refine aw_getR (t := 29) fl_Fp_57 kd_4 rt_4_9 d_Fp_count_82 ?_
            refine aw_getR (t := 34) fl_Fp_148 kd_29 rt_29_7 d_Fp_count_85 ?_
            refine aw_getI fl_Fp_152 kd_34 d_Fp_count_88 ?_
            exact aw_iret rfl rfl ⟨Nat.le_refl _, Nat.le_refl _⟩ d_Fp_count_91
          · refine aw_ite (fun q1 => ?_) (fun q1_5 => ?_)
            · refine aw_tswitch (tgt := 92) d_Fp_count_1 q1 (by decide) (by decide) rfl rfl ?_
              refine aw_aload_n d_Fp_count_92 0 rfl ?_
              refine aw_getR (t := 29) fl_Fp_57 kd_4 rt_4_9 d_Fp_count_93 ?_
              refine aw_getR (t := 34) fl_Fp_148 kd_29 rt_29_7 d_Fp_count_96 ?_
              refine aw_getI fl_Fp_206 kd_34 d_Fp_count_99 ?_
              exact aw_iret rfl rfl ⟨Nat.le_refl _, Nat.le_refl _⟩ d_Fp_count_102
            · refine aw_ite (fun q1 => ?_) (fun q1_6 => ?_)
              · refine aw_tswitch (tgt := 103) d_Fp_count_1 q1 (by decide) (by decide) rfl rfl ?_
                refine aw_aload_n d_Fp_count_103 0 rfl ?_
                refine aw_getR (t := 29) fl_Fp_57 kd_4 rt_4_9 d_Fp_count_104 ?_
                refine aw_getR (t := 45) fl_Fp_250 kd_29 rt_29_8 d_Fp_count_107 ?_
                refine aw_getI fl_Fp_254 kd_45 d_Fp_count_110 ?_
                exact aw_iret rfl rfl ⟨Nat.le_refl _, Nat.le_refl _⟩ d_Fp_count_113
              · refine aw_ite (fun q1 => ?_) (fun q1_7 => ?_)
                · refine aw_tswitch (tgt := 114) d_Fp_count_1 q1 (by decide) (by decide) rfl rfl ?_
                  refine aw_aload_n d_Fp_count_114 0 rfl ?_
                  refine aw_getR (t := 29) fl_Fp_57 kd_4 rt_4_9 d_Fp_count_115 ?_
                  refine aw_getR (t := 45) fl_Fp_250 kd_29 rt_29_8 d_Fp_count_118 ?_
                  refine aw_getI fl_Fp_283 kd_45 d_Fp_count_121 ?_
                  exact aw_iret rfl rfl ⟨Nat.le_refl _, Nat.le_refl _⟩ d_Fp_count_124
                · refine aw_ite (fun q1 => ?_) (fun q1_8 => ?_)
                  · refine aw_tswitch (tgt := 125) d_Fp_count_1 q1 (by decide) (by decide) rfl rfl ?_
                    refine aw_aload_n d_Fp_count_125 0 rfl ?_
                    refine aw_getI fl_Fp_102 kd_4 d_Fp_count_126 ?_
                    exact aw_iret rfl rfl ⟨Nat.le_refl _, Nat.le_refl _⟩ d_Fp_count_129
                  · refine aw_tdflt (tgt := 130) d_Fp_count_1 (by omega) rfl ?_
                    refine aw_iconst d_Fp_count_130 ki_m1 ?_
                    exact aw_iret rfl rfl ⟨Nat.le_refl _, Nat.le_refl _⟩ d_Fp_count_131
def f_Fp_copy (a0 : Nat) (a1 : Nat) (δ : Dm) : Option Dm := (if 0 ≤ ((if (nI (KD a1).2) < (nI (KD a0).2) then (nI (KD a1).2) else (nI (KD a0).2))).toInt ∧ ((if (nI (KD a1).2) < (nI (KD a0).2) then (nI (KD a1).2) else (nI (KD a0).2))).toInt ≤ ((KD a0).2 : Int) ∧ ((if (nI (KD a1).2) < (nI (KD a0).2) then (nI (KD a1).2) else (nI (KD a0).2))).toInt ≤ ((KD a1).2 : Int) then bnd (cpI δ a0 a1 0 0 (ix (if (nI (KD a1).2) < (nI (KD a0).2) then (nI (KD a1).2) else (nI (KD a0).2)))) (fun δ_11 => (some δ_11)) else none)
set_option maxHeartbeats 4000000 in
set_option maxRecDepth 100000 in
theorem m_Fp_copy {a0 : Nat} {a1 : Nat} {δ : Dm} {n : Nat} (ha0 : (KD a0).1 = 1) (ha1 : (KD a1).1 = 1) : ∀ x, f_Fp_copy a0 a1 δ = some x → AMet k_Fp_copy 1 0 0 [.ref a0, .ref a1] δ RT n (Kv RT n x) := by
  refine aw_start (lo := [(0, .ref a0), (1, .ref a1)]) mok_Fp_copy rfl (Nat.le_of_ble_eq_true rfl) ?_
  unfold f_Fp_copy
  refine aw_aload_n d_Fp_copy_0 0 rfl ?_
  refine aw_iconst d_Fp_copy_1 ki_0 ?_
  refine aw_aload_n d_Fp_copy_2 1 rfl ?_
  refine aw_iconst d_Fp_copy_3 ki_0 ?_
  refine aw_aload_n d_Fp_copy_4 0 rfl ?_
  refine aw_alen (v := (nI (KD a0).2)) (kdE ha0) ⟨by decide, by decide⟩ rfl d_Fp_copy_5 ?_
  refine aw_aload_n d_Fp_copy_6 1 rfl ?_
  refine aw_alen (v := (nI (KD a1).2)) (kdE ha1) ⟨by decide, by decide⟩ rfl d_Fp_copy_7 ?_
  refine aw_minI ml_Fp_356 ms_minI mi_Ma mx_minI (Nat.le_of_ble_eq_true rfl) (Nat.le_of_ble_eq_true rfl) ⟨Nat.le_refl _, Nat.le_refl _⟩ d_Fp_copy_8 ?_
  refine aw_copyI (kdE ha0) (kdE ha1) ay_1 (Nat.le_of_ble_eq_true rfl) (Nat.le_of_ble_eq_true rfl) d_Fp_copy_11 ?_
  refine aw_bD (fun δ_11 => ?_)
  exact aw_vret rfl rfl ⟨Nat.le_refl _, Nat.le_refl _⟩ d_Fp_copy_14
def f_Di_become (a0 : Nat) (a1 : Nat) (δ : Dm) : Option Dm := (bnd (sI δ (a0 + 5) 0 (gI δ (a1 + 5) 0)) (fun δ_5 => (bnd (sI δ_5 (a0 + 5) 1 (gI δ_5 (a1 + 5) 1)) (fun δ_13 => (bnd (sI δ_13 (a0 + 5) 2 (gI δ_13 (a1 + 5) 2)) (fun δ_21 => ((f_Fp_copy (a1 + 6) (a0 + 6) δ_21).bind (fun y32 => ((f_Fp_copy (a1 + 7) (a0 + 7) y32).bind (fun y43 => ((f_Fp_copy (a1 + 8) (a0 + 8) y43).bind (fun y54 => ((f_Fp_copy (a1 + 9) (a0 + 9) y54).bind (fun y65 => ((f_Fp_copy (a1 + 10) (a0 + 10) y65).bind (fun y76 => ((f_Fp_copy (a1 + 11) (a0 + 11) y76).bind (fun y87 => ((f_Fp_copy (a1 + 12) (a0 + 12) y87).bind (fun y98 => ((f_Fp_copy (a1 + 13) (a0 + 13) y98).bind (fun y109 => ((f_Fp_copy (a1 + 14) (a0 + 14) y109).bind (fun y120 => ((f_Fp_copy (a1 + 15) (a0 + 15) y120).bind (fun y131 => (some y131)))))))))))))))))))))))))))
set_option maxHeartbeats 4000000 in
set_option maxRecDepth 100000 in
theorem m_Di_become {a0 : Nat} {a1 : Nat} {δ : Dm} {n : Nat} (ha0 : isT a0 = true) (ha1 : isT a1 = true) : ∀ x, f_Di_become a0 a1 δ = some x → AMet k_Di_become 2 0 0 [.ref (a0 + 5), .ref (a1 + 5)] δ RT n (Kv RT n x) := by
  refine aw_start (lo := [(0, .ref (a0 + 5)), (1, .ref (a1 + 5))]) mok_Di_become rfl (Nat.le_of_ble_eq_true rfl) ?_
  unfold f_Di_become
  refine aw_aload_n d_Di_become_0 0 rfl ?_
  refine aw_aload_n d_Di_become_1 1 rfl ?_
  refine aw_getI fl_Di_42 (fx_isTK ha1 5 (by decide)) d_Di_become_2 ?_
  refine aw_putI pf_Di_42 (fx_isTK ha0 5 (by decide)) d_Di_become_5 ?_
  refine aw_bD (fun δ_5 => ?_)
  refine aw_aload_n d_Di_become_8 0 rfl ?_
  refine aw_aload_n d_Di_become_9 1 rfl ?_
  refine aw_getI fl_Di_46 (fx_isTK ha1 5 (by decide)) d_Di_become_10 ?_
  refine aw_putI pf_Di_46 (fx_isTK ha0 5 (by decide)) d_Di_become_13 ?_
  refine aw_bD (fun δ_13 => ?_)
  refine aw_aload_n d_Di_become_16 0 rfl ?_
  refine aw_aload_n d_Di_become_17 1 rfl ?_
  refine aw_getI fl_Di_49 (fx_isTK ha1 5 (by decide)) d_Di_become_18 ?_
  refine aw_putI pf_Di_49 (fx_isTK ha0 5 (by decide)) d_Di_become_21 ?_
  refine aw_bD (fun δ_21 => ?_)
  refine aw_aload_n d_Di_become_24 1 rfl ?_
  refine aw_getR (t := (a1 + 6)) fl_Di_11 (fx_isTK ha1 5 (by decide)) (fx_isTR ha1 5 3 (by decide) (by decide)) d_Di_become_25 ?_
  refine aw_aload_n d_Di_become_28 0 rfl ?_
  refine aw_getR (t := (a0 + 6)) fl_Di_11 (fx_isTK ha0 5 (by decide)) (fx_isTR ha0 5 3 (by decide) (by decide)) d_Di_become_29 ?_
  refine aw_SN_v (As := [.ref (a1 + 6), .ref (a0 + 6)]) (m_Fp_copy (congrArg Prod.fst (fx_isTK ha1 6 (by decide))) (congrArg Prod.fst (fx_isTK ha0 6 (by decide)))) cs_Di_52 rfl rfl (Nat.le_of_ble_eq_true rfl) ⟨Nat.le_of_ble_eq_true rfl, Nat.le_of_ble_eq_true rfl⟩ ⟨Nat.le_refl _, Nat.le_refl _⟩ d_Di_become_32 (fun y32 => ?_)
  refine aw_aload_n d_Di_become_35 1 rfl ?_
  refine aw_getR (t := (a1 + 7)) fl_Di_15 (fx_isTK ha1 5 (by decide)) (fx_isTR ha1 5 4 (by decide) (by decide)) d_Di_become_36 ?_
  refine aw_aload_n d_Di_become_39 0 rfl ?_
  refine aw_getR (t := (a0 + 7)) fl_Di_15 (fx_isTK ha0 5 (by decide)) (fx_isTR ha0 5 4 (by decide) (by decide)) d_Di_become_40 ?_
  refine aw_SN_v (As := [.ref (a1 + 7), .ref (a0 + 7)]) (m_Fp_copy (congrArg Prod.fst (fx_isTK ha1 7 (by decide))) (congrArg Prod.fst (fx_isTK ha0 7 (by decide)))) cs_Di_52 rfl rfl (Nat.le_of_ble_eq_true rfl) ⟨Nat.le_of_ble_eq_true rfl, Nat.le_of_ble_eq_true rfl⟩ ⟨Nat.le_refl _, Nat.le_refl _⟩ d_Di_become_43 (fun y43 => ?_)
  refine aw_aload_n d_Di_become_46 1 rfl ?_
  refine aw_getR (t := (a1 + 8)) fl_Di_18 (fx_isTK ha1 5 (by decide)) (fx_isTR ha1 5 5 (by decide) (by decide)) d_Di_become_47 ?_
  refine aw_aload_n d_Di_become_50 0 rfl ?_
  refine aw_getR (t := (a0 + 8)) fl_Di_18 (fx_isTK ha0 5 (by decide)) (fx_isTR ha0 5 5 (by decide) (by decide)) d_Di_become_51 ?_
  refine aw_SN_v (As := [.ref (a1 + 8), .ref (a0 + 8)]) (m_Fp_copy (congrArg Prod.fst (fx_isTK ha1 8 (by decide))) (congrArg Prod.fst (fx_isTK ha0 8 (by decide)))) cs_Di_52 rfl rfl (Nat.le_of_ble_eq_true rfl) ⟨Nat.le_of_ble_eq_true rfl, Nat.le_of_ble_eq_true rfl⟩ ⟨Nat.le_refl _, Nat.le_refl _⟩ d_Di_become_54 (fun y54 => ?_)
  refine aw_aload_n d_Di_become_57 1 rfl ?_
  refine aw_getR (t := (a1 + 9)) fl_Di_21 (fx_isTK ha1 5 (by decide)) (fx_isTR ha1 5 6 (by decide) (by decide)) d_Di_become_58 ?_
  refine aw_aload_n d_Di_become_61 0 rfl ?_
  refine aw_getR (t := (a0 + 9)) fl_Di_21 (fx_isTK ha0 5 (by decide)) (fx_isTR ha0 5 6 (by decide) (by decide)) d_Di_become_62 ?_
  refine aw_SN_v (As := [.ref (a1 + 9), .ref (a0 + 9)]) (m_Fp_copy (congrArg Prod.fst (fx_isTK ha1 9 (by decide))) (congrArg Prod.fst (fx_isTK ha0 9 (by decide)))) cs_Di_52 rfl rfl (Nat.le_of_ble_eq_true rfl) ⟨Nat.le_of_ble_eq_true rfl, Nat.le_of_ble_eq_true rfl⟩ ⟨Nat.le_refl _, Nat.le_refl _⟩ d_Di_become_65 (fun y65 => ?_)
  refine aw_aload_n d_Di_become_68 1 rfl ?_
  refine aw_getR (t := (a1 + 10)) fl_Di_24 (fx_isTK ha1 5 (by decide)) (fx_isTR ha1 5 7 (by decide) (by decide)) d_Di_become_69 ?_
  refine aw_aload_n d_Di_become_72 0 rfl ?_
  refine aw_getR (t := (a0 + 10)) fl_Di_24 (fx_isTK ha0 5 (by decide)) (fx_isTR ha0 5 7 (by decide) (by decide)) d_Di_become_73 ?_
  refine aw_SN_v (As := [.ref (a1 + 10), .ref (a0 + 10)]) (m_Fp_copy (congrArg Prod.fst (fx_isTK ha1 10 (by decide))) (congrArg Prod.fst (fx_isTK ha0 10 (by decide)))) cs_Di_52 rfl rfl (Nat.le_of_ble_eq_true rfl) ⟨Nat.le_of_ble_eq_true rfl, Nat.le_of_ble_eq_true rfl⟩ ⟨Nat.le_refl _, Nat.le_refl _⟩ d_Di_become_76 (fun y76 => ?_)
  refine aw_aload_n d_Di_become_79 1 rfl ?_
  refine aw_getR (t := (a1 + 11)) fl_Di_27 (fx_isTK ha1 5 (by decide)) (fx_isTR ha1 5 8 (by decide) (by decide)) d_Di_become_80 ?_
  refine aw_aload_n d_Di_become_83 0 rfl ?_
  refine aw_getR (t := (a0 + 11)) fl_Di_27 (fx_isTK ha0 5 (by decide)) (fx_isTR ha0 5 8 (by decide) (by decide)) d_Di_become_84 ?_
  refine aw_SN_v (As := [.ref (a1 + 11), .ref (a0 + 11)]) (m_Fp_copy (congrArg Prod.fst (fx_isTK ha1 11 (by decide))) (congrArg Prod.fst (fx_isTK ha0 11 (by decide)))) cs_Di_52 rfl rfl (Nat.le_of_ble_eq_true rfl) ⟨Nat.le_of_ble_eq_true rfl, Nat.le_of_ble_eq_true rfl⟩ ⟨Nat.le_refl _, Nat.le_refl _⟩ d_Di_become_87 (fun y87 => ?_)
  refine aw_aload_n d_Di_become_90 1 rfl ?_
  refine aw_getR (t := (a1 + 12)) fl_Di_30 (fx_isTK ha1 5 (by decide)) (fx_isTR ha1 5 9 (by decide) (by decide)) d_Di_become_91 ?_
  refine aw_aload_n d_Di_become_94 0 rfl ?_
  refine aw_getR (t := (a0 + 12)) fl_Di_30 (fx_isTK ha0 5 (by decide)) (fx_isTR ha0 5 9 (by decide) (by decide)) d_Di_become_95 ?_
  refine aw_SN_v (As := [.ref (a1 + 12), .ref (a0 + 12)]) (m_Fp_copy (congrArg Prod.fst (fx_isTK ha1 12 (by decide))) (congrArg Prod.fst (fx_isTK ha0 12 (by decide)))) cs_Di_52 rfl rfl (Nat.le_of_ble_eq_true rfl) ⟨Nat.le_of_ble_eq_true rfl, Nat.le_of_ble_eq_true rfl⟩ ⟨Nat.le_refl _, Nat.le_refl _⟩ d_Di_become_98 (fun y98 => ?_)
  refine aw_aload_n d_Di_become_101 1 rfl ?_
  refine aw_getR (t := (a1 + 13)) fl_Di_33 (fx_isTK ha1 5 (by decide)) (fx_isTR ha1 5 10 (by decide) (by decide)) d_Di_become_102 ?_
  refine aw_aload_n d_Di_become_105 0 rfl ?_
  refine aw_getR (t := (a0 + 13)) fl_Di_33 (fx_isTK ha0 5 (by decide)) (fx_isTR ha0 5 10 (by decide) (by decide)) d_Di_become_106 ?_
  refine aw_SN_v (As := [.ref (a1 + 13), .ref (a0 + 13)]) (m_Fp_copy (congrArg Prod.fst (fx_isTK ha1 13 (by decide))) (congrArg Prod.fst (fx_isTK ha0 13 (by decide)))) cs_Di_52 rfl rfl (Nat.le_of_ble_eq_true rfl) ⟨Nat.le_of_ble_eq_true rfl, Nat.le_of_ble_eq_true rfl⟩ ⟨Nat.le_refl _, Nat.le_refl _⟩ d_Di_become_109 (fun y109 => ?_)
  refine aw_aload_n d_Di_become_112 1 rfl ?_
  refine aw_getR (t := (a1 + 14)) fl_Di_36 (fx_isTK ha1 5 (by decide)) (fx_isTR ha1 5 11 (by decide) (by decide)) d_Di_become_113 ?_
  refine aw_aload_n d_Di_become_116 0 rfl ?_
  refine aw_getR (t := (a0 + 14)) fl_Di_36 (fx_isTK ha0 5 (by decide)) (fx_isTR ha0 5 11 (by decide) (by decide)) d_Di_become_117 ?_
  refine aw_SN_v (As := [.ref (a1 + 14), .ref (a0 + 14)]) (m_Fp_copy (congrArg Prod.fst (fx_isTK ha1 14 (by decide))) (congrArg Prod.fst (fx_isTK ha0 14 (by decide)))) cs_Di_52 rfl rfl (Nat.le_of_ble_eq_true rfl) ⟨Nat.le_of_ble_eq_true rfl, Nat.le_of_ble_eq_true rfl⟩ ⟨Nat.le_refl _, Nat.le_refl _⟩ d_Di_become_120 (fun y120 => ?_)
  refine aw_aload_n d_Di_become_123 1 rfl ?_
  refine aw_getR (t := (a1 + 15)) fl_Di_39 (fx_isTK ha1 5 (by decide)) (fx_isTR ha1 5 12 (by decide) (by decide)) d_Di_become_124 ?_
  refine aw_aload_n d_Di_become_127 0 rfl ?_
  refine aw_getR (t := (a0 + 15)) fl_Di_39 (fx_isTK ha0 5 (by decide)) (fx_isTR ha0 5 12 (by decide) (by decide)) d_Di_become_128 ?_
  refine aw_SN_v (As := [.ref (a1 + 15), .ref (a0 + 15)]) (m_Fp_copy (congrArg Prod.fst (fx_isTK ha1 15 (by decide))) (congrArg Prod.fst (fx_isTK ha0 15 (by decide)))) cs_Di_52 rfl rfl (Nat.le_of_ble_eq_true rfl) ⟨Nat.le_of_ble_eq_true rfl, Nat.le_of_ble_eq_true rfl⟩ ⟨Nat.le_refl _, Nat.le_refl _⟩ d_Di_become_131 (fun y131 => ?_)
  exact aw_vret rfl rfl ⟨Nat.le_refl _, Nat.le_refl _⟩ d_Di_become_134
def f_Po_become (a0 : Nat) (a1 : Nat) (δ : Dm) : Option Dm := (bnd (sI δ (a0 + 16) 0 (gI δ (a1 + 16) 0)) (fun δ_5 => (bnd (sI δ_5 (a0 + 16) 1 (gI δ_5 (a1 + 16) 1)) (fun δ_13 => ((f_Fp_copy (a1 + 17) (a0 + 17) δ_13).bind (fun y24 => ((f_Fp_copy (a1 + 18) (a0 + 18) y24).bind (fun y35 => ((f_Fp_copy (a1 + 19) (a0 + 19) y35).bind (fun y46 => ((f_Fp_copy (a1 + 20) (a0 + 20) y46).bind (fun y57 => ((f_Fp_copy (a1 + 21) (a0 + 21) y57).bind (fun y68 => ((f_Fp_copy (a1 + 22) (a0 + 22) y68).bind (fun y79 => ((f_Fp_copy (a1 + 23) (a0 + 23) y79).bind (fun y90 => ((f_Fp_copy (a1 + 24) (a0 + 24) y90).bind (fun y101 => (some y101)))))))))))))))))))))
set_option maxHeartbeats 4000000 in
set_option maxRecDepth 100000 in
theorem m_Po_become {a0 : Nat} {a1 : Nat} {δ : Dm} {n : Nat} (ha0 : isT a0 = true) (ha1 : isT a1 = true) : ∀ x, f_Po_become a0 a1 δ = some x → AMet k_Po_become 2 0 0 [.ref (a0 + 16), .ref (a1 + 16)] δ RT n (Kv RT n x) := by
  refine aw_start (lo := [(0, .ref (a0 + 16)), (1, .ref (a1 + 16))]) mok_Po_become rfl (Nat.le_of_ble_eq_true rfl) ?_
  unfold f_Po_become
  refine aw_aload_n d_Po_become_0 0 rfl ?_
  refine aw_aload_n d_Po_become_1 1 rfl ?_
  refine aw_getI fl_Po_36 (fx_isTK ha1 16 (by decide)) d_Po_become_2 ?_
  refine aw_putI pf_Po_36 (fx_isTK ha0 16 (by decide)) d_Po_become_5 ?_
  refine aw_bD (fun δ_5 => ?_)
  refine aw_aload_n d_Po_become_8 0 rfl ?_
  refine aw_aload_n d_Po_become_9 1 rfl ?_
  refine aw_getI fl_Po_40 (fx_isTK ha1 16 (by decide)) d_Po_become_10 ?_
  refine aw_putI pf_Po_40 (fx_isTK ha0 16 (by decide)) d_Po_become_13 ?_
  refine aw_bD (fun δ_13 => ?_)
  refine aw_aload_n d_Po_become_16 1 rfl ?_
  refine aw_getR (t := (a1 + 17)) fl_Po_9 (fx_isTK ha1 16 (by decide)) (fx_isTR ha1 16 2 (by decide) (by decide)) d_Po_become_17 ?_
  refine aw_aload_n d_Po_become_20 0 rfl ?_
  refine aw_getR (t := (a0 + 17)) fl_Po_9 (fx_isTK ha0 16 (by decide)) (fx_isTR ha0 16 2 (by decide) (by decide)) d_Po_become_21 ?_
  refine aw_SN_v (As := [.ref (a1 + 17), .ref (a0 + 17)]) (m_Fp_copy (congrArg Prod.fst (fx_isTK ha1 17 (by decide))) (congrArg Prod.fst (fx_isTK ha0 17 (by decide)))) cs_Po_43 rfl rfl (Nat.le_of_ble_eq_true rfl) ⟨Nat.le_of_ble_eq_true rfl, Nat.le_of_ble_eq_true rfl⟩ ⟨Nat.le_refl _, Nat.le_refl _⟩ d_Po_become_24 (fun y24 => ?_)
  refine aw_aload_n d_Po_become_27 1 rfl ?_
  refine aw_getR (t := (a1 + 18)) fl_Po_15 (fx_isTK ha1 16 (by decide)) (fx_isTR ha1 16 3 (by decide) (by decide)) d_Po_become_28 ?_
  refine aw_aload_n d_Po_become_31 0 rfl ?_
  refine aw_getR (t := (a0 + 18)) fl_Po_15 (fx_isTK ha0 16 (by decide)) (fx_isTR ha0 16 3 (by decide) (by decide)) d_Po_become_32 ?_
  refine aw_SN_v (As := [.ref (a1 + 18), .ref (a0 + 18)]) (m_Fp_copy (congrArg Prod.fst (fx_isTK ha1 18 (by decide))) (congrArg Prod.fst (fx_isTK ha0 18 (by decide)))) cs_Po_43 rfl rfl (Nat.le_of_ble_eq_true rfl) ⟨Nat.le_of_ble_eq_true rfl, Nat.le_of_ble_eq_true rfl⟩ ⟨Nat.le_refl _, Nat.le_refl _⟩ d_Po_become_35 (fun y35 => ?_)
  refine aw_aload_n d_Po_become_38 1 rfl ?_
  refine aw_getR (t := (a1 + 19)) fl_Po_18 (fx_isTK ha1 16 (by decide)) (fx_isTR ha1 16 4 (by decide) (by decide)) d_Po_become_39 ?_
  refine aw_aload_n d_Po_become_42 0 rfl ?_
  refine aw_getR (t := (a0 + 19)) fl_Po_18 (fx_isTK ha0 16 (by decide)) (fx_isTR ha0 16 4 (by decide) (by decide)) d_Po_become_43 ?_
  refine aw_SN_v (As := [.ref (a1 + 19), .ref (a0 + 19)]) (m_Fp_copy (congrArg Prod.fst (fx_isTK ha1 19 (by decide))) (congrArg Prod.fst (fx_isTK ha0 19 (by decide)))) cs_Po_43 rfl rfl (Nat.le_of_ble_eq_true rfl) ⟨Nat.le_of_ble_eq_true rfl, Nat.le_of_ble_eq_true rfl⟩ ⟨Nat.le_refl _, Nat.le_refl _⟩ d_Po_become_46 (fun y46 => ?_)
  refine aw_aload_n d_Po_become_49 1 rfl ?_
  refine aw_getR (t := (a1 + 20)) fl_Po_21 (fx_isTK ha1 16 (by decide)) (fx_isTR ha1 16 5 (by decide) (by decide)) d_Po_become_50 ?_
  refine aw_aload_n d_Po_become_53 0 rfl ?_
  refine aw_getR (t := (a0 + 20)) fl_Po_21 (fx_isTK ha0 16 (by decide)) (fx_isTR ha0 16 5 (by decide) (by decide)) d_Po_become_54 ?_
  refine aw_SN_v (As := [.ref (a1 + 20), .ref (a0 + 20)]) (m_Fp_copy (congrArg Prod.fst (fx_isTK ha1 20 (by decide))) (congrArg Prod.fst (fx_isTK ha0 20 (by decide)))) cs_Po_43 rfl rfl (Nat.le_of_ble_eq_true rfl) ⟨Nat.le_of_ble_eq_true rfl, Nat.le_of_ble_eq_true rfl⟩ ⟨Nat.le_refl _, Nat.le_refl _⟩ d_Po_become_57 (fun y57 => ?_)
  refine aw_aload_n d_Po_become_60 1 rfl ?_
  refine aw_getR (t := (a1 + 21)) fl_Po_24 (fx_isTK ha1 16 (by decide)) (fx_isTR ha1 16 6 (by decide) (by decide)) d_Po_become_61 ?_
  refine aw_aload_n d_Po_become_64 0 rfl ?_
  refine aw_getR (t := (a0 + 21)) fl_Po_24 (fx_isTK ha0 16 (by decide)) (fx_isTR ha0 16 6 (by decide) (by decide)) d_Po_become_65 ?_
  refine aw_SN_v (As := [.ref (a1 + 21), .ref (a0 + 21)]) (m_Fp_copy (congrArg Prod.fst (fx_isTK ha1 21 (by decide))) (congrArg Prod.fst (fx_isTK ha0 21 (by decide)))) cs_Po_43 rfl rfl (Nat.le_of_ble_eq_true rfl) ⟨Nat.le_of_ble_eq_true rfl, Nat.le_of_ble_eq_true rfl⟩ ⟨Nat.le_refl _, Nat.le_refl _⟩ d_Po_become_68 (fun y68 => ?_)
  refine aw_aload_n d_Po_become_71 1 rfl ?_
  refine aw_getR (t := (a1 + 22)) fl_Po_27 (fx_isTK ha1 16 (by decide)) (fx_isTR ha1 16 7 (by decide) (by decide)) d_Po_become_72 ?_
  refine aw_aload_n d_Po_become_75 0 rfl ?_
  refine aw_getR (t := (a0 + 22)) fl_Po_27 (fx_isTK ha0 16 (by decide)) (fx_isTR ha0 16 7 (by decide) (by decide)) d_Po_become_76 ?_
  refine aw_SN_v (As := [.ref (a1 + 22), .ref (a0 + 22)]) (m_Fp_copy (congrArg Prod.fst (fx_isTK ha1 22 (by decide))) (congrArg Prod.fst (fx_isTK ha0 22 (by decide)))) cs_Po_43 rfl rfl (Nat.le_of_ble_eq_true rfl) ⟨Nat.le_of_ble_eq_true rfl, Nat.le_of_ble_eq_true rfl⟩ ⟨Nat.le_refl _, Nat.le_refl _⟩ d_Po_become_79 (fun y79 => ?_)
  refine aw_aload_n d_Po_become_82 1 rfl ?_
  refine aw_getR (t := (a1 + 23)) fl_Po_30 (fx_isTK ha1 16 (by decide)) (fx_isTR ha1 16 8 (by decide) (by decide)) d_Po_become_83 ?_
  refine aw_aload_n d_Po_become_86 0 rfl ?_
  refine aw_getR (t := (a0 + 23)) fl_Po_30 (fx_isTK ha0 16 (by decide)) (fx_isTR ha0 16 8 (by decide) (by decide)) d_Po_become_87 ?_
  refine aw_SN_v (As := [.ref (a1 + 23), .ref (a0 + 23)]) (m_Fp_copy (congrArg Prod.fst (fx_isTK ha1 23 (by decide))) (congrArg Prod.fst (fx_isTK ha0 23 (by decide)))) cs_Po_43 rfl rfl (Nat.le_of_ble_eq_true rfl) ⟨Nat.le_of_ble_eq_true rfl, Nat.le_of_ble_eq_true rfl⟩ ⟨Nat.le_refl _, Nat.le_refl _⟩ d_Po_become_90 (fun y90 => ?_)
  refine aw_aload_n d_Po_become_93 1 rfl ?_
  refine aw_getR (t := (a1 + 24)) fl_Po_33 (fx_isTK ha1 16 (by decide)) (fx_isTR ha1 16 9 (by decide) (by decide)) d_Po_become_94 ?_
  refine aw_aload_n d_Po_become_97 0 rfl ?_
  refine aw_getR (t := (a0 + 24)) fl_Po_33 (fx_isTK ha0 16 (by decide)) (fx_isTR ha0 16 9 (by decide) (by decide)) d_Po_become_98 ?_
  refine aw_SN_v (As := [.ref (a1 + 24), .ref (a0 + 24)]) (m_Fp_copy (congrArg Prod.fst (fx_isTK ha1 24 (by decide))) (congrArg Prod.fst (fx_isTK ha0 24 (by decide)))) cs_Po_43 rfl rfl (Nat.le_of_ble_eq_true rfl) ⟨Nat.le_of_ble_eq_true rfl, Nat.le_of_ble_eq_true rfl⟩ ⟨Nat.le_refl _, Nat.le_refl _⟩ d_Po_become_101 (fun y101 => ?_)
  exact aw_vret rfl rfl ⟨Nat.le_refl _, Nat.le_refl _⟩ d_Po_become_104
def f_Bo_become (a0 : Nat) (a1 : Nat) (δ : Dm) : Option Dm := (bnd (sI δ a0 0 (gI δ a1 0)) (fun δ_5 => (bnd (sI δ_5 a0 1 (gI δ_5 a1 1)) (fun δ_13 => (bnd (sI δ_13 a0 2 (gI δ_13 a1 2)) (fun δ_21 => (bnd (sI δ_21 a0 3 (gI δ_21 a1 3)) (fun δ_29 => (bnd (sI δ_29 a0 4 (gI δ_29 a1 4)) (fun δ_37 => (bnd (sI δ_37 a0 5 (gI δ_37 a1 5)) (fun δ_45 => (bnd (sI δ_45 a0 6 (gI δ_45 a1 6)) (fun δ_53 => (bnd (sI δ_53 a0 7 (gI δ_53 a1 7)) (fun δ_61 => (bnd (sI δ_61 a0 8 (gI δ_61 a1 8)) (fun δ_69 => ((f_Fp_copy (a1 + 1) (a0 + 1) δ_69).bind (fun y80 => ((f_Fp_copy (a1 + 2) (a0 + 2) y80).bind (fun y91 => ((f_Fp_copy (a1 + 3) (a0 + 3) y91).bind (fun y102 => (some y102)))))))))))))))))))))))))
set_option maxHeartbeats 4000000 in
set_option maxRecDepth 100000 in
theorem m_Bo_become {a0 : Nat} {a1 : Nat} {δ : Dm} {n : Nat} (ha0 : isB a0 = true) (ha1 : isB a1 = true) : ∀ x, f_Bo_become a0 a1 δ = some x → AMet k_Bo_become 2 0 0 [.ref a0, .ref a1] δ RT n (Kv RT n x) := by
  refine aw_start (lo := [(0, .ref a0), (1, .ref a1)]) mok_Bo_become rfl (Nat.le_of_ble_eq_true rfl) ?_
  unfold f_Bo_become
  refine aw_aload_n d_Bo_become_0 0 rfl ?_
  refine aw_aload_n d_Bo_become_1 1 rfl ?_
  refine aw_getI fl_Bo_21 (fx_isBK ha1 0 (by decide)) d_Bo_become_2 ?_
  refine aw_putI pf_Bo_21 (fx_isBK ha0 0 (by decide)) d_Bo_become_5 ?_
  refine aw_bD (fun δ_5 => ?_)
  refine aw_aload_n d_Bo_become_8 0 rfl ?_
  refine aw_aload_n d_Bo_become_9 1 rfl ?_
  refine aw_getI fl_Bo_25 (fx_isBK ha1 0 (by decide)) d_Bo_become_10 ?_
  refine aw_putI pf_Bo_25 (fx_isBK ha0 0 (by decide)) d_Bo_become_13 ?_
  refine aw_bD (fun δ_13 => ?_)
  refine aw_aload_n d_Bo_become_16 0 rfl ?_
  refine aw_aload_n d_Bo_become_17 1 rfl ?_
  refine aw_getI fl_Bo_28 (fx_isBK ha1 0 (by decide)) d_Bo_become_18 ?_
  refine aw_putI pf_Bo_28 (fx_isBK ha0 0 (by decide)) d_Bo_become_21 ?_
  refine aw_bD (fun δ_21 => ?_)
  refine aw_aload_n d_Bo_become_24 0 rfl ?_
  refine aw_aload_n d_Bo_become_25 1 rfl ?_
  refine aw_getI fl_Bo_31 (fx_isBK ha1 0 (by decide)) d_Bo_become_26 ?_
  refine aw_putI pf_Bo_31 (fx_isBK ha0 0 (by decide)) d_Bo_become_29 ?_
  refine aw_bD (fun δ_29 => ?_)
  refine aw_aload_n d_Bo_become_32 0 rfl ?_
  refine aw_aload_n d_Bo_become_33 1 rfl ?_
  refine aw_getI fl_Bo_34 (fx_isBK ha1 0 (by decide)) d_Bo_become_34 ?_
  refine aw_putI pf_Bo_34 (fx_isBK ha0 0 (by decide)) d_Bo_become_37 ?_
  refine aw_bD (fun δ_37 => ?_)
  refine aw_aload_n d_Bo_become_40 0 rfl ?_
  refine aw_aload_n d_Bo_become_41 1 rfl ?_
  refine aw_getI fl_Bo_37 (fx_isBK ha1 0 (by decide)) d_Bo_become_42 ?_
  refine aw_putI pf_Bo_37 (fx_isBK ha0 0 (by decide)) d_Bo_become_45 ?_
  refine aw_bD (fun δ_45 => ?_)
  refine aw_aload_n d_Bo_become_48 0 rfl ?_
  refine aw_aload_n d_Bo_become_49 1 rfl ?_
  refine aw_getI fl_Bo_40 (fx_isBK ha1 0 (by decide)) d_Bo_become_50 ?_
  refine aw_putI pf_Bo_40 (fx_isBK ha0 0 (by decide)) d_Bo_become_53 ?_
  refine aw_bD (fun δ_53 => ?_)
  refine aw_aload_n d_Bo_become_56 0 rfl ?_
  refine aw_aload_n d_Bo_become_57 1 rfl ?_
  refine aw_getI fl_Bo_43 (fx_isBK ha1 0 (by decide)) d_Bo_become_58 ?_
  refine aw_putI pf_Bo_43 (fx_isBK ha0 0 (by decide)) d_Bo_become_61 ?_
  refine aw_bD (fun δ_61 => ?_)
  refine aw_aload_n d_Bo_become_64 0 rfl ?_
  refine aw_aload_n d_Bo_become_65 1 rfl ?_
  refine aw_getI fl_Bo_46 (fx_isBK ha1 0 (by decide)) d_Bo_become_66 ?_
  refine aw_putI pf_Bo_46 (fx_isBK ha0 0 (by decide)) d_Bo_become_69 ?_
  refine aw_bD (fun δ_69 => ?_)
  refine aw_aload_n d_Bo_become_72 1 rfl ?_
  refine aw_getR (t := (a1 + 1)) fl_Bo_9 (fx_isBK ha1 0 (by decide)) (fx_isBR ha1 0 9 (by decide) (by decide)) d_Bo_become_73 ?_
  refine aw_aload_n d_Bo_become_76 0 rfl ?_
  refine aw_getR (t := (a0 + 1)) fl_Bo_9 (fx_isBK ha0 0 (by decide)) (fx_isBR ha0 0 9 (by decide) (by decide)) d_Bo_become_77 ?_
  refine aw_SN_v (As := [.ref (a1 + 1), .ref (a0 + 1)]) (m_Fp_copy (congrArg Prod.fst (fx_isBK ha1 1 (by decide))) (congrArg Prod.fst (fx_isBK ha0 1 (by decide)))) cs_Bo_55 rfl rfl (Nat.le_of_ble_eq_true rfl) ⟨Nat.le_of_ble_eq_true rfl, Nat.le_of_ble_eq_true rfl⟩ ⟨Nat.le_refl _, Nat.le_refl _⟩ d_Bo_become_80 (fun y80 => ?_)
  refine aw_aload_n d_Bo_become_83 1 rfl ?_
  refine aw_getR (t := (a1 + 2)) fl_Bo_15 (fx_isBK ha1 0 (by decide)) (fx_isBR ha1 0 10 (by decide) (by decide)) d_Bo_become_84 ?_
  refine aw_aload_n d_Bo_become_87 0 rfl ?_
  refine aw_getR (t := (a0 + 2)) fl_Bo_15 (fx_isBK ha0 0 (by decide)) (fx_isBR ha0 0 10 (by decide) (by decide)) d_Bo_become_88 ?_
  refine aw_SN_v (As := [.ref (a1 + 2), .ref (a0 + 2)]) (m_Fp_copy (congrArg Prod.fst (fx_isBK ha1 2 (by decide))) (congrArg Prod.fst (fx_isBK ha0 2 (by decide)))) cs_Bo_55 rfl rfl (Nat.le_of_ble_eq_true rfl) ⟨Nat.le_of_ble_eq_true rfl, Nat.le_of_ble_eq_true rfl⟩ ⟨Nat.le_refl _, Nat.le_refl _⟩ d_Bo_become_91 (fun y91 => ?_)
  refine aw_aload_n d_Bo_become_94 1 rfl ?_
  refine aw_getR (t := (a1 + 3)) fl_Bo_18 (fx_isBK ha1 0 (by decide)) (fx_isBR ha1 0 11 (by decide) (by decide)) d_Bo_become_95 ?_
  refine aw_aload_n d_Bo_become_98 0 rfl ?_
  refine aw_getR (t := (a0 + 3)) fl_Bo_18 (fx_isBK ha0 0 (by decide)) (fx_isBR ha0 0 11 (by decide) (by decide)) d_Bo_become_99 ?_
  refine aw_SN_v (As := [.ref (a1 + 3), .ref (a0 + 3)]) (m_Fp_copy (congrArg Prod.fst (fx_isBK ha1 3 (by decide))) (congrArg Prod.fst (fx_isBK ha0 3 (by decide)))) cs_Bo_55 rfl rfl (Nat.le_of_ble_eq_true rfl) ⟨Nat.le_of_ble_eq_true rfl, Nat.le_of_ble_eq_true rfl⟩ ⟨Nat.le_refl _, Nat.le_refl _⟩ d_Bo_become_102 (fun y102 => ?_)
  exact aw_vret rfl rfl ⟨Nat.le_refl _, Nat.le_refl _⟩ d_Bo_become_105
def lp_To_become_81 (kx81_124 : Int32 → Dm → Option Dm) (a0 : Nat) (a1 : Nat) : Nat → Int32 → Dm → Option Dm
  | 0, _, _ => none
  | f + 1, v2_81, δ81 => (if (8 : Int32) ≤ v2_81 then (kx81_124 v2_81 δ81) else ((f_To_slot a0 v2_81 δ81).bind (fun o92 => ocs o92 ((f_To_slot a1 v2_81 δ81).bind (fun o98 => ocs o98 (lp_To_become_81 kx81_124 a0 a1 f (v2_81 + (1 : Int32)) δ81) (fun t98 => if isB t98 = true then (lp_To_become_81 kx81_124 a0 a1 f (v2_81 + (1 : Int32)) δ81) else none))) (fun t92 => if isB t92 = true then ((f_To_slot a1 v2_81 δ81).bind (fun o98_1 => ocs o98_1 (lp_To_become_81 kx81_124 a0 a1 f (v2_81 + (1 : Int32)) δ81) (fun t98_1 => if isB t98_1 = true then ((f_Bo_become t92 t98_1 δ81).bind (fun y115 => (lp_To_become_81 kx81_124 a0 a1 f (v2_81 + (1 : Int32)) y115))) else none))) else none))))
set_option maxHeartbeats 4000000 in
set_option maxRecDepth 100000 in
theorem tl_To_become_81 {n : Nat} (kx81_124 : Int32 → Dm → Option Dm) (a0 : Nat) (a1 : Nat) (ha0 : isT a0 = true) (ha1 : isT a1 = true) (hkx81_124 : ∀ v2_81k δ81k, AWo k_To_become 3 0 0 124 [(0, .ref a0), (1, .ref a1), (2, .int v2_81k)] [] δ81k RT n 0 0 (Kv RT n) (kx81_124 v2_81k δ81k)) : ∀ (f : Nat) (v2_81 : Int32) (δ81 : Dm), AWo k_To_become 3 0 0 81 [(0, .ref a0), (1, .ref a1), (2, .int v2_81)] [] δ81 RT n 0 0 (Kv RT n) (lp_To_become_81 kx81_124 a0 a1 f v2_81 δ81) := by
  intro f
  induction f with
  | zero => intro _ _; exact aw_none
  | succ f ih =>
    intro v2_81 δ81
    rw [lp_To_become_81]
    refine aw_iload_n d_To_become_81 2 rfl ?_
    refine aw_aload_n d_To_become_82 0 rfl ?_
    refine aw_getR (t := (a0 + 4)) fl_To_23 (fx_isTK ha0 0 (by decide)) (fx_isTR ha0 0 6 (by decide) (by decide)) d_To_become_83 ?_
    refine aw_alen (v := (8 : Int32)) (fx_isTK ha0 4 (by decide)) ⟨by decide, by decide⟩ (by decide) d_To_become_86 ?_
    refine aw_icmp_ge (tgt := 124) d_To_become_87 rfl (fun q87 => ?_) (fun q87 => ?_)
    · refine aw_sub (lo' := [(0, .ref a0), (1, .ref a1), (2, .int v2_81)]) [0, 1, 2] rfl ?_
      exact hkx81_124 _ _
    · refine aw_aload_n d_To_become_90 0 rfl ?_
      refine aw_iload_n d_To_become_91 2 rfl ?_
      refine aw_V_r (As := [.int v2_81]) (m_To_slot ha0) cv_To_69 (fx_isTK ha0 0 (by decide)) rfl rfl rfl (Nat.le_of_ble_eq_true rfl) ⟨Nat.le_of_ble_eq_true rfl, Nat.le_of_ble_eq_true rfl⟩ ⟨Nat.le_refl _, Nat.le_refl _⟩ d_To_become_92 ?_ (fun t92 => ?_)
      · refine aw_astoreN_n (lo' := [(3, .null), (0, .ref a0), (1, .ref a1), (2, .int v2_81)]) d_To_become_95 rfl (by decide) rfl ?_
        refine aw_aload_n d_To_become_96 2 rfl ?_
        refine aw_iload_n d_To_become_97 3 rfl ?_
        refine aw_V_r (As := [.int v2_81]) (m_To_slot ha1) cv_To_69 (fx_isTK ha1 0 (by decide)) rfl rfl rfl (Nat.le_of_ble_eq_true rfl) ⟨Nat.le_of_ble_eq_true rfl, Nat.le_of_ble_eq_true rfl⟩ ⟨Nat.le_refl _, Nat.le_refl _⟩ d_To_become_98 ?_ (fun t98 => ?_)
        · refine aw_astoreN (lo' := [(4, .null), (3, .null), (0, .ref a0), (1, .ref a1), (2, .int v2_81)]) d_To_become_101 (by decide) rfl ?_
          refine aw_aloadN_n d_To_become_103 1 rfl ?_
          refine aw_ifnullN (tgt := 118) d_To_become_104 rfl ?_
          refine aw_iinc (v := (v2_81 + (1 : Int32))) (lo' := [(2, .int (v2_81 + (1 : Int32))), (4, .null), (3, .null), (0, .ref a0), (1, .ref a1)]) d_To_become_118 4 rfl (by rw [show Int32.ofInt (1) = (1 : Int32) from by decide]) (by decide) rfl ?_
          refine aw_goto (tgt := 81) d_To_become_121 rfl ?_
          refine aw_sub (lo' := [(0, .ref a0), (1, .ref a1), (2, .int (v2_81 + (1 : Int32)))]) [3, 4, 0] rfl ?_
          exact ih _ _
        · refine aw_grd (fun ht98 => ?_)
          refine aw_astore (lo' := [(4, .ref t98), (3, .null), (0, .ref a0), (1, .ref a1), (2, .int v2_81)]) d_To_become_101 (by decide) rfl ?_
          refine aw_aloadN_n d_To_become_103 1 rfl ?_
          refine aw_ifnullN (tgt := 118) d_To_become_104 rfl ?_
          refine aw_iinc (v := (v2_81 + (1 : Int32))) (lo' := [(2, .int (v2_81 + (1 : Int32))), (4, .ref t98), (3, .null), (0, .ref a0), (1, .ref a1)]) d_To_become_118 4 rfl (by rw [show Int32.ofInt (1) = (1 : Int32) from by decide]) (by decide) rfl ?_
          refine aw_goto (tgt := 81) d_To_become_121 rfl ?_
          refine aw_sub (lo' := [(0, .ref a0), (1, .ref a1), (2, .int (v2_81 + (1 : Int32)))]) [3, 4, 0] rfl ?_
          exact ih _ _
      · refine aw_grd (fun ht92 => ?_)
        refine aw_astore_n (lo' := [(3, .ref t92), (0, .ref a0), (1, .ref a1), (2, .int v2_81)]) d_To_become_95 rfl (by decide) rfl ?_
        refine aw_aload_n d_To_become_96 2 rfl ?_
        refine aw_iload_n d_To_become_97 3 rfl ?_
        refine aw_V_r (As := [.int v2_81]) (m_To_slot ha1) cv_To_69 (fx_isTK ha1 0 (by decide)) rfl rfl rfl (Nat.le_of_ble_eq_true rfl) ⟨Nat.le_of_ble_eq_true rfl, Nat.le_of_ble_eq_true rfl⟩ ⟨Nat.le_refl _, Nat.le_refl _⟩ d_To_become_98 ?_ (fun t98_1 => ?_)
        · refine aw_astoreN (lo' := [(4, .null), (3, .ref t92), (0, .ref a0), (1, .ref a1), (2, .int v2_81)]) d_To_become_101 (by decide) rfl ?_
          refine aw_aload_n d_To_become_103 1 rfl ?_
          refine aw_ifnull d_To_become_104 ?_
          refine aw_aloadN d_To_become_107 0 rfl ?_
          refine aw_ifnullN (tgt := 118) d_To_become_109 rfl ?_
          refine aw_iinc (v := (v2_81 + (1 : Int32))) (lo' := [(2, .int (v2_81 + (1 : Int32))), (4, .null), (3, .ref t92), (0, .ref a0), (1, .ref a1)]) d_To_become_118 4 rfl (by rw [show Int32.ofInt (1) = (1 : Int32) from by decide]) (by decide) rfl ?_
          refine aw_goto (tgt := 81) d_To_become_121 rfl ?_
          refine aw_sub (lo' := [(0, .ref a0), (1, .ref a1), (2, .int (v2_81 + (1 : Int32)))]) [3, 4, 0] rfl ?_
          exact ih _ _
        · refine aw_grd (fun ht98_1 => ?_)
          refine aw_astore (lo' := [(4, .ref t98_1), (3, .ref t92), (0, .ref a0), (1, .ref a1), (2, .int v2_81)]) d_To_become_101 (by decide) rfl ?_
          refine aw_aload_n d_To_become_103 1 rfl ?_
          refine aw_ifnull d_To_become_104 ?_
          refine aw_aload d_To_become_107 0 rfl ?_
          refine aw_ifnull d_To_become_109 ?_
          refine aw_aload_n d_To_become_112 1 rfl ?_
          refine aw_aload d_To_become_113 0 rfl ?_
          refine aw_V_v (As := [.ref t98_1]) (m_Bo_become ht92 ht98_1) cv_To_73 (fx_isBK ht92 0 (by decide)) rfl rfl rfl (Nat.le_of_ble_eq_true rfl) ⟨Nat.le_of_ble_eq_true rfl, Nat.le_of_ble_eq_true rfl⟩ ⟨Nat.le_refl _, Nat.le_refl _⟩ d_To_become_115 (fun y115 => ?_)
          refine aw_iinc (v := (v2_81 + (1 : Int32))) (lo' := [(2, .int (v2_81 + (1 : Int32))), (4, .ref t98_1), (3, .ref t92), (0, .ref a0), (1, .ref a1)]) d_To_become_118 4 rfl (by rw [show Int32.ofInt (1) = (1 : Int32) from by decide]) (by decide) rfl ?_
          refine aw_goto (tgt := 81) d_To_become_121 rfl ?_
          refine aw_sub (lo' := [(0, .ref a0), (1, .ref a1), (2, .int (v2_81 + (1 : Int32)))]) [3, 4, 0] rfl ?_
          exact ih _ _
def f_To_become (a0 : Nat) (a1 : Nat) (δ : Dm) : Option Dm := (bnd (sI δ a0 0 (gI δ a1 0)) (fun δ_5 => (bnd (sI δ_5 a0 1 (gI δ_5 a1 1)) (fun δ_13 => (bnd (sI δ_13 a0 2 (gI δ_13 a1 2)) (fun δ_21 => ((f_Fp_copy (a1 + 1) (a0 + 1) δ_21).bind (fun y32 => ((f_Fp_copy (a1 + 2) (a0 + 2) y32).bind (fun y43 => ((f_Fp_copy (a1 + 3) (a0 + 3) y43).bind (fun y54 => ((f_Di_become a0 a1 y54).bind (fun y65 => ((f_Po_become a0 a1 y65).bind (fun y76 => (lp_To_become_81 (fun v2_81x δ81x => (some δ81x)) a0 a1 FU (0 : Int32) y76)))))))))))))))))
set_option maxHeartbeats 4000000 in
set_option maxRecDepth 100000 in
theorem m_To_become {a0 : Nat} {a1 : Nat} {δ : Dm} {n : Nat} (ha0 : isT a0 = true) (ha1 : isT a1 = true) : ∀ x, f_To_become a0 a1 δ = some x → AMet k_To_become 3 0 0 [.ref a0, .ref a1] δ RT n (Kv RT n x) := by
  refine aw_start (lo := [(0, .ref a0), (1, .ref a1)]) mok_To_become rfl (Nat.le_of_ble_eq_true rfl) ?_
  unfold f_To_become
  refine aw_aload_n d_To_become_0 0 rfl ?_
  refine aw_aload_n d_To_become_1 1 rfl ?_
  refine aw_getI fl_To_48 (fx_isTK ha1 0 (by decide)) d_To_become_2 ?_
  refine aw_putI pf_To_48 (fx_isTK ha0 0 (by decide)) d_To_become_5 ?_
  refine aw_bD (fun δ_5 => ?_)
  refine aw_aload_n d_To_become_8 0 rfl ?_
  refine aw_aload_n d_To_become_9 1 rfl ?_
  refine aw_getI fl_To_52 (fx_isTK ha1 0 (by decide)) d_To_become_10 ?_
  refine aw_putI pf_To_52 (fx_isTK ha0 0 (by decide)) d_To_become_13 ?_
  refine aw_bD (fun δ_13 => ?_)
  refine aw_aload_n d_To_become_16 0 rfl ?_
  refine aw_aload_n d_To_become_17 1 rfl ?_
  refine aw_getI fl_To_55 (fx_isTK ha1 0 (by decide)) d_To_become_18 ?_
  refine aw_putI pf_To_55 (fx_isTK ha0 0 (by decide)) d_To_become_21 ?_
  refine aw_bD (fun δ_21 => ?_)
  refine aw_aload_n d_To_become_24 1 rfl ?_
  refine aw_getR (t := (a1 + 1)) fl_To_9 (fx_isTK ha1 0 (by decide)) (fx_isTR ha1 0 3 (by decide) (by decide)) d_To_become_25 ?_
  refine aw_aload_n d_To_become_28 0 rfl ?_
  refine aw_getR (t := (a0 + 1)) fl_To_9 (fx_isTK ha0 0 (by decide)) (fx_isTR ha0 0 3 (by decide) (by decide)) d_To_become_29 ?_
  refine aw_SN_v (As := [.ref (a1 + 1), .ref (a0 + 1)]) (m_Fp_copy (congrArg Prod.fst (fx_isTK ha1 1 (by decide))) (congrArg Prod.fst (fx_isTK ha0 1 (by decide)))) cs_To_58 rfl rfl (Nat.le_of_ble_eq_true rfl) ⟨Nat.le_of_ble_eq_true rfl, Nat.le_of_ble_eq_true rfl⟩ ⟨Nat.le_refl _, Nat.le_refl _⟩ d_To_become_32 (fun y32 => ?_)
  refine aw_aload_n d_To_become_35 1 rfl ?_
  refine aw_getR (t := (a1 + 2)) fl_To_15 (fx_isTK ha1 0 (by decide)) (fx_isTR ha1 0 4 (by decide) (by decide)) d_To_become_36 ?_
  refine aw_aload_n d_To_become_39 0 rfl ?_
  refine aw_getR (t := (a0 + 2)) fl_To_15 (fx_isTK ha0 0 (by decide)) (fx_isTR ha0 0 4 (by decide) (by decide)) d_To_become_40 ?_
  refine aw_SN_v (As := [.ref (a1 + 2), .ref (a0 + 2)]) (m_Fp_copy (congrArg Prod.fst (fx_isTK ha1 2 (by decide))) (congrArg Prod.fst (fx_isTK ha0 2 (by decide)))) cs_To_58 rfl rfl (Nat.le_of_ble_eq_true rfl) ⟨Nat.le_of_ble_eq_true rfl, Nat.le_of_ble_eq_true rfl⟩ ⟨Nat.le_refl _, Nat.le_refl _⟩ d_To_become_43 (fun y43 => ?_)
  refine aw_aload_n d_To_become_46 1 rfl ?_
  refine aw_getR (t := (a1 + 3)) fl_To_18 (fx_isTK ha1 0 (by decide)) (fx_isTR ha1 0 5 (by decide) (by decide)) d_To_become_47 ?_
  refine aw_aload_n d_To_become_50 0 rfl ?_
  refine aw_getR (t := (a0 + 3)) fl_To_18 (fx_isTK ha0 0 (by decide)) (fx_isTR ha0 0 5 (by decide) (by decide)) d_To_become_51 ?_
  refine aw_SN_v (As := [.ref (a1 + 3), .ref (a0 + 3)]) (m_Fp_copy (congrArg Prod.fst (fx_isTK ha1 3 (by decide))) (congrArg Prod.fst (fx_isTK ha0 3 (by decide)))) cs_To_58 rfl rfl (Nat.le_of_ble_eq_true rfl) ⟨Nat.le_of_ble_eq_true rfl, Nat.le_of_ble_eq_true rfl⟩ ⟨Nat.le_refl _, Nat.le_refl _⟩ d_To_become_54 (fun y54 => ?_)
  refine aw_aload_n d_To_become_57 0 rfl ?_
  refine aw_getR (t := (a0 + 5)) fl_To_30 (fx_isTK ha0 0 (by decide)) (fx_isTR ha0 0 7 (by decide) (by decide)) d_To_become_58 ?_
  refine aw_aload_n d_To_become_61 1 rfl ?_
  refine aw_getR (t := (a1 + 5)) fl_To_30 (fx_isTK ha1 0 (by decide)) (fx_isTR ha1 0 7 (by decide) (by decide)) d_To_become_62 ?_
  refine aw_V_v (As := [.ref (a1 + 5)]) (m_Di_become ha0 ha1) cv_To_62 (fx_isTK ha0 5 (by decide)) rfl rfl rfl (Nat.le_of_ble_eq_true rfl) ⟨Nat.le_of_ble_eq_true rfl, Nat.le_of_ble_eq_true rfl⟩ ⟨Nat.le_refl _, Nat.le_refl _⟩ d_To_become_65 (fun y65 => ?_)
  refine aw_aload_n d_To_become_68 0 rfl ?_
  refine aw_getR (t := (a0 + 16)) fl_To_37 (fx_isTK ha0 0 (by decide)) (fx_isTR ha0 0 8 (by decide) (by decide)) d_To_become_69 ?_
  refine aw_aload_n d_To_become_72 1 rfl ?_
  refine aw_getR (t := (a1 + 16)) fl_To_37 (fx_isTK ha1 0 (by decide)) (fx_isTR ha1 0 8 (by decide) (by decide)) d_To_become_73 ?_
  refine aw_V_v (As := [.ref (a1 + 16)]) (m_Po_become ha0 ha1) cv_To_66 (fx_isTK ha0 16 (by decide)) rfl rfl rfl (Nat.le_of_ble_eq_true rfl) ⟨Nat.le_of_ble_eq_true rfl, Nat.le_of_ble_eq_true rfl⟩ ⟨Nat.le_refl _, Nat.le_refl _⟩ d_To_become_76 (fun y76 => ?_)
  refine aw_iconst d_To_become_79 ki_0 ?_
  refine aw_istore_n (lo' := [(2, .int (0 : Int32)), (0, .ref a0), (1, .ref a1)]) d_To_become_80 rfl (by decide) rfl ?_
  refine aw_sub (lo' := [(0, .ref a0), (1, .ref a1), (2, .int (0 : Int32))]) [1, 2, 0] rfl ?_
  refine tl_To_become_81 _ _ _ ha0 ha1 (fun v2_81x δ81x => ?_) FU _ _
  · exact aw_vret rfl rfl ⟨Nat.le_refl _, Nat.le_refl _⟩ d_To_become_124
def f_Fp_back (a1 : Int32) (δ : Dm) : Option (Int32 × Dm) := (if a1 < 0 then (some ((-1 : Int32), δ)) else (if a1 < (4 : Int32) then (if inb a1 4 then ocs (dR (gI δ 86 (ix a1))) (some ((-1 : Int32), δ)) (fun t20 => if isT t20 = true then ((f_To_become 29 t20 δ).bind (fun y33 => (some ((gI y33 29 0), y33)))) else none) else none) else (some ((-1 : Int32), δ))))
set_option maxHeartbeats 4000000 in
set_option maxRecDepth 100000 in
theorem m_Fp_back {a1 : Int32} {δ : Dm} {n : Nat} : ∀ x, f_Fp_back a1 δ = some x → AMet k_Fp_back 4 0 0 [.ref 4, .int a1] δ RT n (Km RT n x) := by
  refine aw_start (lo := [(0, .ref 4), (1, .int a1)]) mok_Fp_back rfl (Nat.le_of_ble_eq_true rfl) ?_
  unfold f_Fp_back
  refine aw_iload_n d_Fp_back_0 1 rfl ?_
  refine aw_if_lt (tgt := 13) d_Fp_back_1 rfl (fun q1 => ?_) (fun q1 => ?_)
  · refine aw_iconst d_Fp_back_13 ki_m1 ?_
    exact aw_iret rfl rfl ⟨Nat.le_refl _, Nat.le_refl _⟩ d_Fp_back_14
  · refine aw_iload_n d_Fp_back_4 1 rfl ?_
    refine aw_aload_n d_Fp_back_5 0 rfl ?_
    refine aw_getR (t := 86) fl_Fp_61 kd_4 rt_4_10 d_Fp_back_6 ?_
    refine aw_alen (v := (4 : Int32)) kd_86 ⟨by decide, by decide⟩ (by decide) d_Fp_back_9 ?_
    refine aw_icmp_lt (tgt := 15) d_Fp_back_10 rfl (fun q10 => ?_) (fun q10 => ?_)
    · refine aw_aload_n d_Fp_back_15 0 rfl ?_
      refine aw_getR (t := 86) fl_Fp_61 kd_4 rt_4_10 d_Fp_back_16 ?_
      refine aw_iload_n d_Fp_back_19 1 rfl ?_
      refine aw_aald7 kd_86 d_Fp_back_20 ?_ (fun t20 => ?_)
      · refine aw_astoreN_n (lo' := [(2, .null), (0, .ref 4), (1, .int a1)]) d_Fp_back_21 rfl (by decide) rfl ?_
        refine aw_aloadN_n d_Fp_back_22 0 rfl ?_
        refine aw_ifnonnullN d_Fp_back_23 ?_
        refine aw_iconst d_Fp_back_26 ki_m1 ?_
        exact aw_iret rfl rfl ⟨Nat.le_refl _, Nat.le_refl _⟩ d_Fp_back_27
      · refine aw_grd (fun ht20 => ?_)
        refine aw_astore_n (lo' := [(2, .ref t20), (0, .ref 4), (1, .int a1)]) d_Fp_back_21 rfl (by decide) rfl ?_
        refine aw_aload_n d_Fp_back_22 0 rfl ?_
        refine aw_ifnonnull (tgt := 28) d_Fp_back_23 rfl ?_
        refine aw_aload_n d_Fp_back_28 1 rfl ?_
        refine aw_getR (t := 29) fl_Fp_57 kd_4 rt_4_9 d_Fp_back_29 ?_
        refine aw_aload_n d_Fp_back_32 0 rfl ?_
        refine aw_V_v (As := [.ref t20]) (m_To_become (by decide) ht20) cv_Fp_352 kd_29 rfl rfl rfl (Nat.le_of_ble_eq_true rfl) ⟨Nat.le_of_ble_eq_true rfl, Nat.le_of_ble_eq_true rfl⟩ ⟨Nat.le_refl _, Nat.le_refl _⟩ d_Fp_back_33 (fun y33 => ?_)
        refine aw_aload_n d_Fp_back_36 1 rfl ?_
        refine aw_getR (t := 29) fl_Fp_57 kd_4 rt_4_9 d_Fp_back_37 ?_
        refine aw_getI fl_Fp_130 kd_29 d_Fp_back_40 ?_
        exact aw_iret rfl rfl ⟨Nat.le_refl _, Nat.le_refl _⟩ d_Fp_back_43
    · refine aw_iconst d_Fp_back_13 ki_m1 ?_
      exact aw_iret rfl rfl ⟨Nat.le_refl _, Nat.le_refl _⟩ d_Fp_back_14
def f_Mo_in (a0 : Int64) (a2 : Int64) (a4 : Int64) (δ : Dm) : Option Int32 := (if (lg_cmp a0 a2) < 0 then (some (0 : Int32)) else (if 0 < (lg_cmp a0 a4) then (some (0 : Int32)) else (some (1 : Int32))))
set_option maxHeartbeats 4000000 in
set_option maxRecDepth 100000 in
theorem m_Mo_in {a0 : Int64} {a2 : Int64} {a4 : Int64} {δ : Dm} {n : Nat} : ∀ x, f_Mo_in a0 a2 a4 δ = some x → AMet k_Mo_in 1 0 0 [.long a0, .long a2, .long a4] δ RT n (Kp δ RT n x) := by
  refine aw_start (lo := [(0, .long a0), (2, .long a2), (4, .long a4)]) mok_Mo_in rfl (Nat.le_of_ble_eq_true rfl) ?_
  unfold f_Mo_in
  refine aw_lload_n d_Mo_in_0 0 rfl ?_
  refine aw_lload_n d_Mo_in_1 1 rfl ?_
  refine aw_lcmp d_Mo_in_2 ?_
  refine aw_if_lt (tgt := 17) d_Mo_in_3 rfl (fun q3 => ?_) (fun q3 => ?_)
  · refine aw_iconst d_Mo_in_17 ki_0 ?_
    exact aw_zret rfl rfl rfl ⟨Nat.le_refl _, Nat.le_refl _⟩ d_Mo_in_18
  · refine aw_lload_n d_Mo_in_6 0 rfl ?_
    refine aw_lload d_Mo_in_7 2 rfl ?_
    refine aw_lcmp d_Mo_in_9 ?_
    refine aw_if_gt (tgt := 17) d_Mo_in_10 rfl (fun q10 => ?_) (fun q10 => ?_)
    · refine aw_iconst d_Mo_in_17 ki_0 ?_
      exact aw_zret rfl rfl rfl ⟨Nat.le_refl _, Nat.le_refl _⟩ d_Mo_in_18
    · refine aw_iconst d_Mo_in_13 ki_1 ?_
      refine aw_goto (tgt := 18) d_Mo_in_14 rfl ?_
      exact aw_zret rfl rfl rfl ⟨Nat.le_refl _, Nat.le_refl _⟩ d_Mo_in_18
def lp_Mo_place_91 (kx91_141 : Int32 → Dm → Option (Int32 × Dm)) (a1 : Int32) (v31 : Int32) : Nat → Int32 → Dm → Option (Int32 × Dm)
  | 0, _, _ => none
  | f + 1, v3_91, δ91 => (if (8 : Int32) ≤ v3_91 then (kx91_141 v3_91 δ91) else (if inb ((8726 : Int32) + ((2 : Int32) * (((12 : Int32) * v3_91) + v31))) 8918 then bnd (sI δ91 152 (ix ((8726 : Int32) + ((2 : Int32) * (((12 : Int32) * v3_91) + v31)))) (0 : Int32)) (fun δ_114 => (if inb (((8726 : Int32) + ((2 : Int32) * (((12 : Int32) * v3_91) + v31))) + (1 : Int32)) 8918 then bnd (sI δ_114 152 (ix (((8726 : Int32) + ((2 : Int32) * (((12 : Int32) * v3_91) + v31))) + (1 : Int32))) (0 : Int32)) (fun δ_134 => (lp_Mo_place_91 kx91_141 a1 v31 f (v3_91 + (1 : Int32)) δ_134)) else none)) else none))
set_option maxHeartbeats 4000000 in
set_option maxRecDepth 100000 in
theorem tl_Mo_place_91 {n : Nat} (kx91_141 : Int32 → Dm → Option (Int32 × Dm)) (a1 : Int32) (v31 : Int32) (hkx91_141 : ∀ v3_91k δ91k, AWo k_Mo_place 2 0 0 141 [(0, .ref 151), (1, .int a1), (2, .int v31), (3, .int v3_91k)] [] δ91k RT n 0 0 (Km RT n) (kx91_141 v3_91k δ91k)) : ∀ (f : Nat) (v3_91 : Int32) (δ91 : Dm), AWo k_Mo_place 2 0 0 91 [(0, .ref 151), (1, .int a1), (2, .int v31), (3, .int v3_91)] [] δ91 RT n 0 0 (Km RT n) (lp_Mo_place_91 kx91_141 a1 v31 f v3_91 δ91) := by
  intro f
  induction f with
  | zero => intro _ _; exact aw_none
  | succ f ih =>
    intro v3_91 δ91
    rw [lp_Mo_place_91]
    refine aw_iload_n d_Mo_place_91 3 rfl ?_
    refine aw_bipush d_Mo_place_92 kb_8 ?_
    refine aw_icmp_ge (tgt := 141) d_Mo_place_94 rfl (fun q94 => ?_) (fun q94 => ?_)
    · refine aw_sub (lo' := [(0, .ref 151), (1, .int a1), (2, .int v31), (3, .int v3_91)]) [0, 1, 2, 3] rfl ?_
      exact hkx91_141 _ _
    · refine aw_aload_n d_Mo_place_97 0 rfl ?_
      refine aw_getR (t := 152) fl_Mo_7 kd_151 rt_151_0 d_Mo_place_98 ?_
      refine aw_sipush d_Mo_place_101 ks_8726 ?_
      refine aw_iconst d_Mo_place_104 ki_2 ?_
      refine aw_bipush d_Mo_place_105 kb_12 ?_
      refine aw_iload_n d_Mo_place_107 3 rfl ?_
      refine aw_imul d_Mo_place_108 ?_
      refine aw_iload_n d_Mo_place_109 2 rfl ?_
      refine aw_iadd d_Mo_place_110 ?_
      refine aw_imul d_Mo_place_111 ?_
      refine aw_iadd d_Mo_place_112 ?_
      refine aw_iconst d_Mo_place_113 ki_0 ?_
      refine aw_iast kd_152 d_Mo_place_114 ?_
      refine aw_bD (fun δ_114 => ?_)
      refine aw_aload_n d_Mo_place_115 0 rfl ?_
      refine aw_getR (t := 152) fl_Mo_7 kd_151 rt_151_0 d_Mo_place_116 ?_
      refine aw_sipush d_Mo_place_119 ks_8726 ?_
      refine aw_iconst d_Mo_place_122 ki_2 ?_
      refine aw_bipush d_Mo_place_123 kb_12 ?_
      refine aw_iload_n d_Mo_place_125 3 rfl ?_
      refine aw_imul d_Mo_place_126 ?_
      refine aw_iload_n d_Mo_place_127 2 rfl ?_
      refine aw_iadd d_Mo_place_128 ?_
      refine aw_imul d_Mo_place_129 ?_
      refine aw_iadd d_Mo_place_130 ?_
      refine aw_iconst d_Mo_place_131 ki_1 ?_
      refine aw_iadd d_Mo_place_132 ?_
      refine aw_iconst d_Mo_place_133 ki_0 ?_
      refine aw_iast kd_152 d_Mo_place_134 ?_
      refine aw_bD (fun δ_134 => ?_)
      refine aw_iinc (v := (v3_91 + (1 : Int32))) (lo' := [(3, .int (v3_91 + (1 : Int32))), (0, .ref 151), (1, .int a1), (2, .int v31)]) d_Mo_place_135 3 rfl (by rw [show Int32.ofInt (1) = (1 : Int32) from by decide]) (by decide) rfl ?_
      refine aw_goto (tgt := 91) d_Mo_place_138 rfl ?_
      refine aw_sub (lo' := [(0, .ref 151), (1, .int a1), (2, .int v31), (3, .int (v3_91 + (1 : Int32)))]) [1, 2, 3, 0] rfl ?_
      exact ih _ _
def lp_Mo_place_45 (kx45_89 : Int32 → Dm → Option (Int32 × Dm)) (a1 : Int32) (v31 : Int32) : Nat → Int32 → Dm → Option (Int32 × Dm)
  | 0, _, _ => none
  | f + 1, v3_45, δ45 => (if (12 : Int32) ≤ v3_45 then (kx45_89 v3_45 δ45) else (if inb (((422 : Int32) + ((12 : Int32) * v31)) + v3_45) 8918 then bnd (sI δ45 152 (ix (((422 : Int32) + ((12 : Int32) * v31)) + v3_45)) (0 : Int32)) (fun δ_66 => (if inb (((422 : Int32) + ((12 : Int32) * v3_45)) + v31) 8918 then bnd (sI δ_66 152 (ix (((422 : Int32) + ((12 : Int32) * v3_45)) + v31)) (0 : Int32)) (fun δ_82 => (lp_Mo_place_45 kx45_89 a1 v31 f (v3_45 + (1 : Int32)) δ_82)) else none)) else none))
set_option maxHeartbeats 4000000 in
set_option maxRecDepth 100000 in
theorem tl_Mo_place_45 {n : Nat} (kx45_89 : Int32 → Dm → Option (Int32 × Dm)) (a1 : Int32) (v31 : Int32) (hkx45_89 : ∀ v3_45k δ45k, AWo k_Mo_place 2 0 0 89 [(0, .ref 151), (1, .int a1), (2, .int v31), (3, .int v3_45k)] [] δ45k RT n 0 0 (Km RT n) (kx45_89 v3_45k δ45k)) : ∀ (f : Nat) (v3_45 : Int32) (δ45 : Dm), AWo k_Mo_place 2 0 0 45 [(0, .ref 151), (1, .int a1), (2, .int v31), (3, .int v3_45)] [] δ45 RT n 0 0 (Km RT n) (lp_Mo_place_45 kx45_89 a1 v31 f v3_45 δ45) := by
  intro f
  induction f with
  | zero => intro _ _; exact aw_none
  | succ f ih =>
    intro v3_45 δ45
    rw [lp_Mo_place_45]
    refine aw_iload_n d_Mo_place_45 3 rfl ?_
    refine aw_bipush d_Mo_place_46 kb_12 ?_
    refine aw_icmp_ge (tgt := 89) d_Mo_place_48 rfl (fun q48 => ?_) (fun q48 => ?_)
    · refine aw_sub (lo' := [(0, .ref 151), (1, .int a1), (2, .int v31), (3, .int v3_45)]) [0, 1, 2, 3] rfl ?_
      exact hkx45_89 _ _
    · refine aw_aload_n d_Mo_place_51 0 rfl ?_
      refine aw_getR (t := 152) fl_Mo_7 kd_151 rt_151_0 d_Mo_place_52 ?_
      refine aw_sipush d_Mo_place_55 ks_422 ?_
      refine aw_bipush d_Mo_place_58 kb_12 ?_
      refine aw_iload_n d_Mo_place_60 2 rfl ?_
      refine aw_imul d_Mo_place_61 ?_
      refine aw_iadd d_Mo_place_62 ?_
      refine aw_iload_n d_Mo_place_63 3 rfl ?_
      refine aw_iadd d_Mo_place_64 ?_
      refine aw_iconst d_Mo_place_65 ki_0 ?_
      refine aw_iast kd_152 d_Mo_place_66 ?_
      refine aw_bD (fun δ_66 => ?_)
      refine aw_aload_n d_Mo_place_67 0 rfl ?_
      refine aw_getR (t := 152) fl_Mo_7 kd_151 rt_151_0 d_Mo_place_68 ?_
      refine aw_sipush d_Mo_place_71 ks_422 ?_
      refine aw_bipush d_Mo_place_74 kb_12 ?_
      refine aw_iload_n d_Mo_place_76 3 rfl ?_
      refine aw_imul d_Mo_place_77 ?_
      refine aw_iadd d_Mo_place_78 ?_
      refine aw_iload_n d_Mo_place_79 2 rfl ?_
      refine aw_iadd d_Mo_place_80 ?_
      refine aw_iconst d_Mo_place_81 ki_0 ?_
      refine aw_iast kd_152 d_Mo_place_82 ?_
      refine aw_bD (fun δ_82 => ?_)
      refine aw_iinc (v := (v3_45 + (1 : Int32))) (lo' := [(3, .int (v3_45 + (1 : Int32))), (0, .ref 151), (1, .int a1), (2, .int v31)]) d_Mo_place_83 3 rfl (by rw [show Int32.ofInt (1) = (1 : Int32) from by decide]) (by decide) rfl ?_
      refine aw_goto (tgt := 45) d_Mo_place_86 rfl ?_
      refine aw_sub (lo' := [(0, .ref 151), (1, .int a1), (2, .int v31), (3, .int (v3_45 + (1 : Int32)))]) [1, 2, 3, 0] rfl ?_
      exact ih _ _
def f_Mo_place (a1 : Int32) (δ : Dm) : Option (Int32 × Dm) := (if inb (1 : Int32) 8918 then (if (gI δ 152 (ix (1 : Int32))) = (12 : Int32) then (some ((-1 : Int32), δ)) else ((f_Mo_in ((a1).toInt64) (0 : Int64) (99 : Int64) δ).bind (fun y17 => (if y17 = 0 then (some ((-1 : Int32), δ)) else (if inb (1 : Int32) 8918 then (bnd (gI δ 152 (ix (1 : Int32))) (fun v31 => (if inb ((410 : Int32) + v31) 8918 then bnd (sI δ 152 (ix ((410 : Int32) + v31)) a1) (fun δ_42 => (lp_Mo_place_45 (fun v3_45x δ45x => (lp_Mo_place_91 (fun v3_91x δ91x => (if inb (1 : Int32) 8918 then (if inb (1 : Int32) 8918 then bnd (sI δ91x 152 (ix (1 : Int32)) ((gI δ91x 152 (ix (1 : Int32))) + (1 : Int32))) (fun δ_150 => (some (v31, δ_150))) else none) else none)) a1 v31 FU (0 : Int32) δ45x)) a1 v31 FU (0 : Int32) δ_42)) else none))) else none))))) else none)
set_option maxHeartbeats 4000000 in
set_option maxRecDepth 100000 in
theorem m_Mo_place {a1 : Int32} {δ : Dm} {n : Nat} : ∀ x, f_Mo_place a1 δ = some x → AMet k_Mo_place 2 0 0 [.ref 151, .int a1] δ RT n (Km RT n x) := by
  refine aw_start (lo := [(0, .ref 151), (1, .int a1)]) mok_Mo_place rfl (Nat.le_of_ble_eq_true rfl) ?_
  unfold f_Mo_place
  refine aw_aload_n d_Mo_place_0 0 rfl ?_
  refine aw_getR (t := 152) fl_Mo_7 kd_151 rt_151_0 d_Mo_place_1 ?_
  refine aw_iconst d_Mo_place_4 ki_1 ?_
  refine aw_iald kd_152 d_Mo_place_5 ?_
  refine aw_bipush d_Mo_place_6 kb_12 ?_
  refine aw_icmp_eq (tgt := 23) d_Mo_place_8 rfl (fun q8 => ?_) (fun q8 => ?_)
  · refine aw_iconst d_Mo_place_23 ki_m1 ?_
    exact aw_iret rfl rfl ⟨Nat.le_refl _, Nat.le_refl _⟩ d_Mo_place_24
  · refine aw_iload_n d_Mo_place_11 1 rfl ?_
    refine aw_i2l d_Mo_place_12 ?_
    refine aw_lconst d_Mo_place_13 kl_0 ?_
    refine aw_ldc2 (v := (99 : Int64)) d_Mo_place_14 kc_Mo_62 ?_
    refine aw_S_p (As := [.long ((a1).toInt64), .long (0 : Int64), .long (99 : Int64)]) (m_Mo_in) cs_Mo_64 rfl rfl (Nat.le_of_ble_eq_true rfl) ⟨Nat.le_of_ble_eq_true rfl, Nat.le_of_ble_eq_true rfl⟩ ⟨Nat.le_refl _, Nat.le_refl _⟩ d_Mo_place_17 (fun y17 => ?_)
    refine aw_if_ne (tgt := 25) d_Mo_place_20 rfl (fun q20 => ?_) (fun q20 => ?_)
    · refine aw_iconst d_Mo_place_23 ki_m1 ?_
      exact aw_iret rfl rfl ⟨Nat.le_refl _, Nat.le_refl _⟩ d_Mo_place_24
    · refine aw_aload_n d_Mo_place_25 0 rfl ?_
      refine aw_getR (t := 152) fl_Mo_7 kd_151 rt_151_0 d_Mo_place_26 ?_
      refine aw_iconst d_Mo_place_29 ki_1 ?_
      refine aw_iald kd_152 d_Mo_place_30 ?_
      refine aw_bI (fun v31 => ?_)
      refine aw_istore_n (lo' := [(2, .int v31), (0, .ref 151), (1, .int a1)]) d_Mo_place_31 rfl (by decide) rfl ?_
      refine aw_aload_n d_Mo_place_32 1 rfl ?_
      refine aw_getR (t := 152) fl_Mo_7 kd_151 rt_151_0 d_Mo_place_33 ?_
      refine aw_sipush d_Mo_place_36 ks_410 ?_
      refine aw_iload_n d_Mo_place_39 0 rfl ?_
      refine aw_iadd d_Mo_place_40 ?_
      refine aw_iload_n d_Mo_place_41 2 rfl ?_
      refine aw_iast kd_152 d_Mo_place_42 ?_
      refine aw_bD (fun δ_42 => ?_)
      refine aw_iconst d_Mo_place_43 ki_0 ?_
      refine aw_istore_n (lo' := [(3, .int (0 : Int32)), (2, .int v31), (0, .ref 151), (1, .int a1)]) d_Mo_place_44 rfl (by decide) rfl ?_
      refine aw_sub (lo' := [(0, .ref 151), (1, .int a1), (2, .int v31), (3, .int (0 : Int32))]) [2, 3, 1, 0] rfl ?_
      refine tl_Mo_place_45 _ _ _ (fun v3_45x δ45x => ?_) FU _ _
      · refine aw_iconst d_Mo_place_89 ki_0 ?_
        refine aw_istore_n (lo' := [(3, .int (0 : Int32)), (0, .ref 151), (1, .int a1), (2, .int v31)]) d_Mo_place_90 rfl (by decide) rfl ?_
        refine aw_sub (lo' := [(0, .ref 151), (1, .int a1), (2, .int v31), (3, .int (0 : Int32))]) [1, 2, 3, 0] rfl ?_
        refine tl_Mo_place_91 _ _ _ (fun v3_91x δ91x => ?_) FU _ _
        · refine aw_aload_n d_Mo_place_141 0 rfl ?_
          refine aw_getR (t := 152) fl_Mo_7 kd_151 rt_151_0 d_Mo_place_142 ?_
          refine aw_iconst d_Mo_place_145 ki_1 ?_
          refine aw_dup2 d_Mo_place_146 rfl rfl ?_
          refine aw_iald kd_152 d_Mo_place_147 ?_
          refine aw_iconst d_Mo_place_148 ki_1 ?_
          refine aw_iadd d_Mo_place_149 ?_
          refine aw_iast kd_152 d_Mo_place_150 ?_
          refine aw_bD (fun δ_150 => ?_)
          refine aw_iload_n d_Mo_place_151 2 rfl ?_
          exact aw_iret rfl rfl ⟨Nat.le_refl _, Nat.le_refl _⟩ d_Mo_place_152
def f_Mo_isPlace (a1 : Int32) (δ : Dm) : Option Int32 := (if a1 < 0 then (some (0 : Int32)) else (if inb (1 : Int32) 8918 then (if (gI δ 152 (ix (1 : Int32))) ≤ a1 then (some (0 : Int32)) else (some (1 : Int32))) else none))
set_option maxHeartbeats 4000000 in
set_option maxRecDepth 100000 in
theorem m_Mo_isPlace {a1 : Int32} {δ : Dm} {n : Nat} : ∀ x, f_Mo_isPlace a1 δ = some x → AMet k_Mo_isPlace 1 0 0 [.ref 151, .int a1] δ RT n (Kp δ RT n x) := by
  refine aw_start (lo := [(0, .ref 151), (1, .int a1)]) mok_Mo_isPlace rfl (Nat.le_of_ble_eq_true rfl) ?_
  unfold f_Mo_isPlace
  refine aw_iload_n d_Mo_isPlace_0 1 rfl ?_
  refine aw_if_lt (tgt := 18) d_Mo_isPlace_1 rfl (fun q1 => ?_) (fun q1 => ?_)
  · refine aw_iconst d_Mo_isPlace_18 ki_0 ?_
    exact aw_zret rfl rfl rfl ⟨Nat.le_refl _, Nat.le_refl _⟩ d_Mo_isPlace_19
  · refine aw_iload_n d_Mo_isPlace_4 1 rfl ?_
    refine aw_aload_n d_Mo_isPlace_5 0 rfl ?_
    refine aw_getR (t := 152) fl_Mo_7 kd_151 rt_151_0 d_Mo_isPlace_6 ?_
    refine aw_iconst d_Mo_isPlace_9 ki_1 ?_
    refine aw_iald kd_152 d_Mo_isPlace_10 ?_
    refine aw_icmp_ge (tgt := 18) d_Mo_isPlace_11 rfl (fun q11 => ?_) (fun q11 => ?_)
    · refine aw_iconst d_Mo_isPlace_18 ki_0 ?_
      exact aw_zret rfl rfl rfl ⟨Nat.le_refl _, Nat.le_refl _⟩ d_Mo_isPlace_19
    · refine aw_iconst d_Mo_isPlace_14 ki_1 ?_
      refine aw_goto (tgt := 19) d_Mo_isPlace_15 rfl ?_
      exact aw_zret rfl rfl rfl ⟨Nat.le_refl _, Nat.le_refl _⟩ d_Mo_isPlace_19
def f_Mo_miles (a1 : Int32) (a2 : Int32) (a3 : Int32) (δ : Dm) : Option (Int32 × Dm) := ((f_Mo_isPlace a1 δ).bind (fun y2 => (if y2 = 0 then (some ((-1 : Int32), δ)) else ((f_Mo_isPlace a2 δ).bind (fun y10 => (if y10 = 0 then (some ((-1 : Int32), δ)) else (if a1 = a2 then (some ((-1 : Int32), δ)) else ((f_Mo_in ((a3).toInt64) (0 : Int64) (999 : Int64) δ).bind (fun y27 => (if y27 = 0 then (some ((-1 : Int32), δ)) else (if inb (((422 : Int32) + ((12 : Int32) * a1)) + a2) 8918 then (bnd (gI δ 152 (ix (((422 : Int32) + ((12 : Int32) * a1)) + a2))) (fun v50 => (if inb (((422 : Int32) + ((12 : Int32) * a1)) + a2) 8918 then bnd (sI δ 152 (ix (((422 : Int32) + ((12 : Int32) * a1)) + a2)) a3) (fun δ_67 => (if inb (((422 : Int32) + ((12 : Int32) * a2)) + a1) 8918 then bnd (sI δ_67 152 (ix (((422 : Int32) + ((12 : Int32) * a2)) + a1)) a3) (fun δ_83 => (some (v50, δ_83))) else none)) else none))) else none)))))))))))
set_option maxHeartbeats 4000000 in
set_option maxRecDepth 100000 in
theorem m_Mo_miles {a1 : Int32} {a2 : Int32} {a3 : Int32} {δ : Dm} {n : Nat} : ∀ x, f_Mo_miles a1 a2 a3 δ = some x → AMet k_Mo_miles 2 0 0 [.ref 151, .int a1, .int a2, .int a3] δ RT n (Km RT n x) := by
  refine aw_start (lo := [(0, .ref 151), (1, .int a1), (2, .int a2), (3, .int a3)]) mok_Mo_miles rfl (Nat.le_of_ble_eq_true rfl) ?_
  unfold f_Mo_miles
  refine aw_aload_n d_Mo_miles_0 0 rfl ?_
  refine aw_iload_n d_Mo_miles_1 1 rfl ?_
  refine aw_V_p (As := [.int a1]) (m_Mo_isPlace) cv_Mo_68 kd_151 rfl rfl rfl (Nat.le_of_ble_eq_true rfl) ⟨Nat.le_of_ble_eq_true rfl, Nat.le_of_ble_eq_true rfl⟩ ⟨Nat.le_refl _, Nat.le_refl _⟩ d_Mo_miles_2 (fun y2 => ?_)
  refine aw_if_eq (tgt := 33) d_Mo_miles_5 rfl (fun q5 => ?_) (fun q5 => ?_)
  · refine aw_iconst d_Mo_miles_33 ki_m1 ?_
    exact aw_iret rfl rfl ⟨Nat.le_refl _, Nat.le_refl _⟩ d_Mo_miles_34
  · refine aw_aload_n d_Mo_miles_8 0 rfl ?_
    refine aw_iload_n d_Mo_miles_9 2 rfl ?_
    refine aw_V_p (As := [.int a2]) (m_Mo_isPlace) cv_Mo_68 kd_151 rfl rfl rfl (Nat.le_of_ble_eq_true rfl) ⟨Nat.le_of_ble_eq_true rfl, Nat.le_of_ble_eq_true rfl⟩ ⟨Nat.le_refl _, Nat.le_refl _⟩ d_Mo_miles_10 (fun y10 => ?_)
    refine aw_if_eq (tgt := 33) d_Mo_miles_13 rfl (fun q13 => ?_) (fun q13 => ?_)
    · refine aw_iconst d_Mo_miles_33 ki_m1 ?_
      exact aw_iret rfl rfl ⟨Nat.le_refl _, Nat.le_refl _⟩ d_Mo_miles_34
    · refine aw_iload_n d_Mo_miles_16 1 rfl ?_
      refine aw_iload_n d_Mo_miles_17 2 rfl ?_
      refine aw_icmp_eq (tgt := 33) d_Mo_miles_18 rfl (fun q18 => ?_) (fun q18 => ?_)
      · refine aw_iconst d_Mo_miles_33 ki_m1 ?_
        exact aw_iret rfl rfl ⟨Nat.le_refl _, Nat.le_refl _⟩ d_Mo_miles_34
      · refine aw_iload_n d_Mo_miles_21 3 rfl ?_
        refine aw_i2l d_Mo_miles_22 ?_
        refine aw_lconst d_Mo_miles_23 kl_0 ?_
        refine aw_ldc2 (v := (999 : Int64)) d_Mo_miles_24 kc_Mo_72 ?_
        refine aw_S_p (As := [.long ((a3).toInt64), .long (0 : Int64), .long (999 : Int64)]) (m_Mo_in) cs_Mo_64 rfl rfl (Nat.le_of_ble_eq_true rfl) ⟨Nat.le_of_ble_eq_true rfl, Nat.le_of_ble_eq_true rfl⟩ ⟨Nat.le_refl _, Nat.le_refl _⟩ d_Mo_miles_27 (fun y27 => ?_)
        refine aw_if_ne (tgt := 35) d_Mo_miles_30 rfl (fun q30 => ?_) (fun q30 => ?_)
        · refine aw_iconst d_Mo_miles_33 ki_m1 ?_
          exact aw_iret rfl rfl ⟨Nat.le_refl _, Nat.le_refl _⟩ d_Mo_miles_34
        · refine aw_aload_n d_Mo_miles_35 0 rfl ?_
          refine aw_getR (t := 152) fl_Mo_7 kd_151 rt_151_0 d_Mo_miles_36 ?_
          refine aw_sipush d_Mo_miles_39 ks_422 ?_
          refine aw_bipush d_Mo_miles_42 kb_12 ?_
          refine aw_iload_n d_Mo_miles_44 1 rfl ?_
          refine aw_imul d_Mo_miles_45 ?_
          refine aw_iadd d_Mo_miles_46 ?_
          refine aw_iload_n d_Mo_miles_47 2 rfl ?_
          refine aw_iadd d_Mo_miles_48 ?_
          refine aw_iald kd_152 d_Mo_miles_49 ?_
          refine aw_bI (fun v50 => ?_)
          refine aw_istore (lo' := [(4, .int v50), (0, .ref 151), (1, .int a1), (2, .int a2), (3, .int a3)]) d_Mo_miles_50 (by decide) rfl ?_
          refine aw_aload_n d_Mo_miles_52 1 rfl ?_
          refine aw_getR (t := 152) fl_Mo_7 kd_151 rt_151_0 d_Mo_miles_53 ?_
          refine aw_sipush d_Mo_miles_56 ks_422 ?_
          refine aw_bipush d_Mo_miles_59 kb_12 ?_
          refine aw_iload_n d_Mo_miles_61 2 rfl ?_
          refine aw_imul d_Mo_miles_62 ?_
          refine aw_iadd d_Mo_miles_63 ?_
          refine aw_iload_n d_Mo_miles_64 3 rfl ?_
          refine aw_iadd d_Mo_miles_65 ?_
          refine aw_iload_n d_Mo_miles_66 4 rfl ?_
          refine aw_iast kd_152 d_Mo_miles_67 ?_
          refine aw_bD (fun δ_67 => ?_)
          refine aw_aload_n d_Mo_miles_68 1 rfl ?_
          refine aw_getR (t := 152) fl_Mo_7 kd_151 rt_151_0 d_Mo_miles_69 ?_
          refine aw_sipush d_Mo_miles_72 ks_422 ?_
          refine aw_bipush d_Mo_miles_75 kb_12 ?_
          refine aw_iload_n d_Mo_miles_77 3 rfl ?_
          refine aw_imul d_Mo_miles_78 ?_
          refine aw_iadd d_Mo_miles_79 ?_
          refine aw_iload_n d_Mo_miles_80 2 rfl ?_
          refine aw_iadd d_Mo_miles_81 ?_
          refine aw_iload_n d_Mo_miles_82 4 rfl ?_
          refine aw_iast kd_152 d_Mo_miles_83 ?_
          refine aw_bD (fun δ_83 => ?_)
          refine aw_iload d_Mo_miles_84 0 rfl ?_
          exact aw_iret rfl rfl ⟨Nat.le_refl _, Nat.le_refl _⟩ d_Mo_miles_86
def f_Mo_isDay (a0 : Int32) (δ : Dm) : Option Int32 := (if a0 < 0 then (some (0 : Int32)) else (if (400 : Int32) ≤ a0 then (some (0 : Int32)) else (some (1 : Int32))))
set_option maxHeartbeats 4000000 in
set_option maxRecDepth 100000 in
theorem m_Mo_isDay {a0 : Int32} {δ : Dm} {n : Nat} : ∀ x, f_Mo_isDay a0 δ = some x → AMet k_Mo_isDay 1 0 0 [.int a0] δ RT n (Kp δ RT n x) := by
  refine aw_start (lo := [(0, .int a0)]) mok_Mo_isDay rfl (Nat.le_of_ble_eq_true rfl) ?_
  unfold f_Mo_isDay
  refine aw_iload_n d_Mo_isDay_0 0 rfl ?_
  refine aw_if_lt (tgt := 15) d_Mo_isDay_1 rfl (fun q1 => ?_) (fun q1 => ?_)
  · refine aw_iconst d_Mo_isDay_15 ki_0 ?_
    exact aw_zret rfl rfl rfl ⟨Nat.le_refl _, Nat.le_refl _⟩ d_Mo_isDay_16
  · refine aw_iload_n d_Mo_isDay_4 0 rfl ?_
    refine aw_sipush d_Mo_isDay_5 ks_400 ?_
    refine aw_icmp_ge (tgt := 15) d_Mo_isDay_8 rfl (fun q8 => ?_) (fun q8 => ?_)
    · refine aw_iconst d_Mo_isDay_15 ki_0 ?_
      exact aw_zret rfl rfl rfl ⟨Nat.le_refl _, Nat.le_refl _⟩ d_Mo_isDay_16
    · refine aw_iconst d_Mo_isDay_11 ki_1 ?_
      refine aw_goto (tgt := 16) d_Mo_isDay_12 rfl ?_
      exact aw_zret rfl rfl rfl ⟨Nat.le_refl _, Nat.le_refl _⟩ d_Mo_isDay_16
def f_Mo_heat (a1 : Int32) (a2 : Int32) (δ : Dm) : Option (Int32 × Dm) := ((f_Mo_isDay a1 δ).bind (fun y1 => (if y1 = 0 then (some ((-1 : Int32), δ)) else ((f_Mo_in ((a2).toInt64) (0 : Int64) (40 : Int64) δ).bind (fun y13 => (if y13 = 0 then (some ((-1 : Int32), δ)) else (if inb ((10 : Int32) + a1) 8918 then (bnd (gI δ 152 (ix ((10 : Int32) + a1))) (fun v30 => (if inb ((10 : Int32) + a1) 8918 then bnd (sI δ 152 (ix ((10 : Int32) + a1)) a2) (fun δ_40 => (some (v30, δ_40))) else none))) else none)))))))
set_option maxHeartbeats 4000000 in
set_option maxRecDepth 100000 in
theorem m_Mo_heat {a1 : Int32} {a2 : Int32} {δ : Dm} {n : Nat} : ∀ x, f_Mo_heat a1 a2 δ = some x → AMet k_Mo_heat 2 0 0 [.ref 151, .int a1, .int a2] δ RT n (Km RT n x) := by
  refine aw_start (lo := [(0, .ref 151), (1, .int a1), (2, .int a2)]) mok_Mo_heat rfl (Nat.le_of_ble_eq_true rfl) ?_
  unfold f_Mo_heat
  refine aw_iload_n d_Mo_heat_0 1 rfl ?_
  refine aw_S_p (As := [.int a1]) (m_Mo_isDay) cs_Mo_74 rfl rfl (Nat.le_of_ble_eq_true rfl) ⟨Nat.le_of_ble_eq_true rfl, Nat.le_of_ble_eq_true rfl⟩ ⟨Nat.le_refl _, Nat.le_refl _⟩ d_Mo_heat_1 (fun y1 => ?_)
  refine aw_if_eq (tgt := 19) d_Mo_heat_4 rfl (fun q4 => ?_) (fun q4 => ?_)
  · refine aw_iconst d_Mo_heat_19 ki_m1 ?_
    exact aw_iret rfl rfl ⟨Nat.le_refl _, Nat.le_refl _⟩ d_Mo_heat_20
  · refine aw_iload_n d_Mo_heat_7 2 rfl ?_
    refine aw_i2l d_Mo_heat_8 ?_
    refine aw_lconst d_Mo_heat_9 kl_0 ?_
    refine aw_ldc2 (v := (40 : Int64)) d_Mo_heat_10 kc_Mo_77 ?_
    refine aw_S_p (As := [.long ((a2).toInt64), .long (0 : Int64), .long (40 : Int64)]) (m_Mo_in) cs_Mo_64 rfl rfl (Nat.le_of_ble_eq_true rfl) ⟨Nat.le_of_ble_eq_true rfl, Nat.le_of_ble_eq_true rfl⟩ ⟨Nat.le_refl _, Nat.le_refl _⟩ d_Mo_heat_13 (fun y13 => ?_)
    refine aw_if_ne (tgt := 21) d_Mo_heat_16 rfl (fun q16 => ?_) (fun q16 => ?_)
    · refine aw_iconst d_Mo_heat_19 ki_m1 ?_
      exact aw_iret rfl rfl ⟨Nat.le_refl _, Nat.le_refl _⟩ d_Mo_heat_20
    · refine aw_aload_n d_Mo_heat_21 0 rfl ?_
      refine aw_getR (t := 152) fl_Mo_7 kd_151 rt_151_0 d_Mo_heat_22 ?_
      refine aw_bipush d_Mo_heat_25 kb_10 ?_
      refine aw_iload_n d_Mo_heat_27 1 rfl ?_
      refine aw_iadd d_Mo_heat_28 ?_
      refine aw_iald kd_152 d_Mo_heat_29 ?_
      refine aw_bI (fun v30 => ?_)
      refine aw_istore_n (lo' := [(3, .int v30), (0, .ref 151), (1, .int a1), (2, .int a2)]) d_Mo_heat_30 rfl (by decide) rfl ?_
      refine aw_aload_n d_Mo_heat_31 1 rfl ?_
      refine aw_getR (t := 152) fl_Mo_7 kd_151 rt_151_0 d_Mo_heat_32 ?_
      refine aw_bipush d_Mo_heat_35 kb_10 ?_
      refine aw_iload_n d_Mo_heat_37 2 rfl ?_
      refine aw_iadd d_Mo_heat_38 ?_
      refine aw_iload_n d_Mo_heat_39 3 rfl ?_
      refine aw_iast kd_152 d_Mo_heat_40 ?_
      refine aw_bD (fun δ_40 => ?_)
      refine aw_iload_n d_Mo_heat_41 0 rfl ?_
      exact aw_iret rfl rfl ⟨Nat.le_refl _, Nat.le_refl _⟩ d_Mo_heat_42
def lp_Mo_four_3 (kx3_36 : Int32 → Dm → Option Dm) (a1 : Int32) : Nat → Int32 → Dm → Option Dm
  | 0, _, _ => none
  | f + 1, v2_3, δ3 => (if v2_3 < 0 then (kx3_36 v2_3 δ3) else (if inb (gI δ3 151 2) 400 then bnd (sI δ3 153 (ix (gI δ3 151 2)) (((((a1 >>> (v2_3 &&& 31))).toInt8.toInt32)).toInt8.toInt32)) (fun δ_19 => (bnd (sI δ_19 151 2 ((gI δ_19 151 2) + (1 : Int32))) (fun δ_27 => (lp_Mo_four_3 kx3_36 a1 f (v2_3 + (-8 : Int32)) δ_27)))) else none))
set_option maxHeartbeats 4000000 in
set_option maxRecDepth 100000 in
theorem tl_Mo_four_3 {n : Nat} (kx3_36 : Int32 → Dm → Option Dm) (a1 : Int32) (hkx3_36 : ∀ v2_3k δ3k, AWo k_Mo_four 1 0 0 36 [(0, .ref 151), (1, .int a1), (2, .int v2_3k)] [] δ3k RT n 0 0 (Kv RT n) (kx3_36 v2_3k δ3k)) : ∀ (f : Nat) (v2_3 : Int32) (δ3 : Dm), AWo k_Mo_four 1 0 0 3 [(0, .ref 151), (1, .int a1), (2, .int v2_3)] [] δ3 RT n 0 0 (Kv RT n) (lp_Mo_four_3 kx3_36 a1 f v2_3 δ3) := by
  intro f
  induction f with
  | zero => intro _ _; exact aw_none
  | succ f ih =>
    intro v2_3 δ3
    rw [lp_Mo_four_3]
    refine aw_iload_n d_Mo_four_3 2 rfl ?_
    refine aw_if_lt (tgt := 36) d_Mo_four_4 rfl (fun q4 => ?_) (fun q4 => ?_)
    · refine aw_sub (lo' := [(0, .ref 151), (1, .int a1), (2, .int v2_3)]) [0, 1, 2] rfl ?_
      exact hkx3_36 _ _
    · refine aw_aload_n d_Mo_four_7 0 rfl ?_
      refine aw_getR (t := 153) fl_Mo_13 kd_151 rt_151_1 d_Mo_four_8 ?_
      refine aw_aload_n d_Mo_four_11 0 rfl ?_
      refine aw_getI fl_Mo_79 kd_151 d_Mo_four_12 ?_
      refine aw_iload_n d_Mo_four_15 1 rfl ?_
      refine aw_iload_n d_Mo_four_16 2 rfl ?_
      refine aw_ishr d_Mo_four_17 ?_
      refine aw_i2b d_Mo_four_18 ?_
      refine aw_bast kd_153 d_Mo_four_19 ?_
      refine aw_bD (fun δ_19 => ?_)
      refine aw_aload_n d_Mo_four_20 0 rfl ?_
      refine aw_dup d_Mo_four_21 rfl ?_
      refine aw_getI fl_Mo_79 kd_151 d_Mo_four_22 ?_
      refine aw_iconst d_Mo_four_25 ki_1 ?_
      refine aw_iadd d_Mo_four_26 ?_
      refine aw_putI pf_Mo_79 kd_151 d_Mo_four_27 ?_
      refine aw_bD (fun δ_27 => ?_)
      refine aw_iinc (v := (v2_3 + (-8 : Int32))) (lo' := [(2, .int (v2_3 + (-8 : Int32))), (0, .ref 151), (1, .int a1)]) d_Mo_four_30 2 rfl (by rw [show Int32.ofInt (-8) = (-8 : Int32) from by decide]) (by decide) rfl ?_
      refine aw_goto (tgt := 3) d_Mo_four_33 rfl ?_
      refine aw_sub (lo' := [(0, .ref 151), (1, .int a1), (2, .int (v2_3 + (-8 : Int32)))]) [1, 2, 0] rfl ?_
      exact ih _ _
def f_Mo_four (a1 : Int32) (δ : Dm) : Option Dm := (lp_Mo_four_3 (fun v2_3x δ3x => (some δ3x)) a1 FU (24 : Int32) δ)
set_option maxHeartbeats 4000000 in
set_option maxRecDepth 100000 in
theorem m_Mo_four {a1 : Int32} {δ : Dm} {n : Nat} : ∀ x, f_Mo_four a1 δ = some x → AMet k_Mo_four 1 0 0 [.ref 151, .int a1] δ RT n (Kv RT n x) := by
  refine aw_start (lo := [(0, .ref 151), (1, .int a1)]) mok_Mo_four rfl (Nat.le_of_ble_eq_true rfl) ?_
  unfold f_Mo_four
  refine aw_bipush d_Mo_four_0 kb_24 ?_
  refine aw_istore_n (lo' := [(2, .int (24 : Int32)), (0, .ref 151), (1, .int a1)]) d_Mo_four_2 rfl (by decide) rfl ?_
  refine aw_sub (lo' := [(0, .ref 151), (1, .int a1), (2, .int (24 : Int32))]) [1, 2, 0] rfl ?_
  refine tl_Mo_four_3 _ _ (fun v2_3x δ3x => ?_) FU _ _
  · exact aw_vret rfl rfl ⟨Nat.le_refl _, Nat.le_refl _⟩ d_Mo_four_36
def f_Mo_feed (a1 : Int32) (a2 : Int32) (a3 : Int32) (a4 : Int32) (a5 : Int32) (δ : Dm) : Option (Int32 × Dm) := (if ((gI δ 151 2) + (20 : Int32)) ≤ (400 : Int32) then ((f_Mo_four a1 δ).bind (fun y17 => ((f_Mo_four a2 y17).bind (fun y22 => ((f_Mo_four a3 y22).bind (fun y27 => ((f_Mo_four a4 y27).bind (fun y33 => ((f_Mo_four a5 y33).bind (fun y39 => (some ((gI y39 151 2), y39)))))))))))) else (some ((-1 : Int32), δ)))
set_option maxHeartbeats 4000000 in
set_option maxRecDepth 100000 in
theorem m_Mo_feed {a1 : Int32} {a2 : Int32} {a3 : Int32} {a4 : Int32} {a5 : Int32} {δ : Dm} {n : Nat} : ∀ x, f_Mo_feed a1 a2 a3 a4 a5 δ = some x → AMet k_Mo_feed 2 0 0 [.ref 151, .int a1, .int a2, .int a3, .int a4, .int a5] δ RT n (Km RT n x) := by
  refine aw_start (lo := [(0, .ref 151), (1, .int a1), (2, .int a2), (3, .int a3), (4, .int a4), (5, .int a5)]) mok_Mo_feed rfl (Nat.le_of_ble_eq_true rfl) ?_
  unfold f_Mo_feed
  refine aw_aload_n d_Mo_feed_0 0 rfl ?_
  refine aw_getI fl_Mo_79 kd_151 d_Mo_feed_1 ?_
  refine aw_bipush d_Mo_feed_4 kb_20 ?_
  refine aw_iadd d_Mo_feed_6 ?_
  refine aw_sipush d_Mo_feed_7 ks_400 ?_
  refine aw_icmp_le (tgt := 15) d_Mo_feed_10 rfl (fun q10 => ?_) (fun q10 => ?_)
  · refine aw_aload_n d_Mo_feed_15 0 rfl ?_
    refine aw_iload_n d_Mo_feed_16 1 rfl ?_
    refine aw_V_v (As := [.int a1]) (m_Mo_four) cv_Mo_83 kd_151 rfl rfl rfl (Nat.le_of_ble_eq_true rfl) ⟨Nat.le_of_ble_eq_true rfl, Nat.le_of_ble_eq_true rfl⟩ ⟨Nat.le_refl _, Nat.le_refl _⟩ d_Mo_feed_17 (fun y17 => ?_)
    refine aw_aload_n d_Mo_feed_20 0 rfl ?_
    refine aw_iload_n d_Mo_feed_21 2 rfl ?_
    refine aw_V_v (As := [.int a2]) (m_Mo_four) cv_Mo_83 kd_151 rfl rfl rfl (Nat.le_of_ble_eq_true rfl) ⟨Nat.le_of_ble_eq_true rfl, Nat.le_of_ble_eq_true rfl⟩ ⟨Nat.le_refl _, Nat.le_refl _⟩ d_Mo_feed_22 (fun y22 => ?_)
    refine aw_aload_n d_Mo_feed_25 0 rfl ?_
    refine aw_iload_n d_Mo_feed_26 3 rfl ?_
    refine aw_V_v (As := [.int a3]) (m_Mo_four) cv_Mo_83 kd_151 rfl rfl rfl (Nat.le_of_ble_eq_true rfl) ⟨Nat.le_of_ble_eq_true rfl, Nat.le_of_ble_eq_true rfl⟩ ⟨Nat.le_refl _, Nat.le_refl _⟩ d_Mo_feed_27 (fun y27 => ?_)
    refine aw_aload_n d_Mo_feed_30 0 rfl ?_
    refine aw_iload d_Mo_feed_31 4 rfl ?_
    refine aw_V_v (As := [.int a4]) (m_Mo_four) cv_Mo_83 kd_151 rfl rfl rfl (Nat.le_of_ble_eq_true rfl) ⟨Nat.le_of_ble_eq_true rfl, Nat.le_of_ble_eq_true rfl⟩ ⟨Nat.le_refl _, Nat.le_refl _⟩ d_Mo_feed_33 (fun y33 => ?_)
    refine aw_aload_n d_Mo_feed_36 0 rfl ?_
    refine aw_iload d_Mo_feed_37 5 rfl ?_
    refine aw_V_v (As := [.int a5]) (m_Mo_four) cv_Mo_83 kd_151 rfl rfl rfl (Nat.le_of_ble_eq_true rfl) ⟨Nat.le_of_ble_eq_true rfl, Nat.le_of_ble_eq_true rfl⟩ ⟨Nat.le_refl _, Nat.le_refl _⟩ d_Mo_feed_39 (fun y39 => ?_)
    refine aw_aload_n d_Mo_feed_42 0 rfl ?_
    refine aw_getI fl_Mo_79 kd_151 d_Mo_feed_43 ?_
    exact aw_iret rfl rfl ⟨Nat.le_refl _, Nat.le_refl _⟩ d_Mo_feed_46
  · refine aw_iconst d_Mo_feed_13 ki_m1 ?_
    exact aw_iret rfl rfl ⟨Nat.le_refl _, Nat.le_refl _⟩ d_Mo_feed_14
def f_Mo_end (a1 : Int32) (δ : Dm) : Option (Int32 × Dm) := (if a1 < 0 then (some ((-1 : Int32), δ)) else (if a1 ≤ (gI δ 151 2) then (bnd (sI δ 151 2 a1) (fun δ_16 => (some (a1, δ_16)))) else (some ((-1 : Int32), δ))))
set_option maxHeartbeats 4000000 in
set_option maxRecDepth 100000 in
theorem m_Mo_end {a1 : Int32} {δ : Dm} {n : Nat} : ∀ x, f_Mo_end a1 δ = some x → AMet k_Mo_end 1 0 0 [.ref 151, .int a1] δ RT n (Km RT n x) := by
  refine aw_start (lo := [(0, .ref 151), (1, .int a1)]) mok_Mo_end rfl (Nat.le_of_ble_eq_true rfl) ?_
  unfold f_Mo_end
  refine aw_iload_n d_Mo_end_0 1 rfl ?_
  refine aw_if_lt (tgt := 12) d_Mo_end_1 rfl (fun q1 => ?_) (fun q1 => ?_)
  · refine aw_iconst d_Mo_end_12 ki_m1 ?_
    exact aw_iret rfl rfl ⟨Nat.le_refl _, Nat.le_refl _⟩ d_Mo_end_13
  · refine aw_iload_n d_Mo_end_4 1 rfl ?_
    refine aw_aload_n d_Mo_end_5 0 rfl ?_
    refine aw_getI fl_Mo_79 kd_151 d_Mo_end_6 ?_
    refine aw_icmp_le (tgt := 14) d_Mo_end_9 rfl (fun q9 => ?_) (fun q9 => ?_)
    · refine aw_aload_n d_Mo_end_14 0 rfl ?_
      refine aw_iload_n d_Mo_end_15 1 rfl ?_
      refine aw_putI pf_Mo_79 kd_151 d_Mo_end_16 ?_
      refine aw_bD (fun δ_16 => ?_)
      refine aw_iload_n d_Mo_end_19 1 rfl ?_
      exact aw_iret rfl rfl ⟨Nat.le_refl _, Nat.le_refl _⟩ d_Mo_end_20
    · refine aw_iconst d_Mo_end_12 ki_m1 ?_
      exact aw_iret rfl rfl ⟨Nat.le_refl _, Nat.le_refl _⟩ d_Mo_end_13
def lp_Mo_see_0 (kx0_38 : Dm → Option (Int32 × Dm)) : Nat → Dm → Option (Int32 × Dm)
  | 0, _ => none
  | f + 1, δ0 => (if (gI δ0 151 2) ≤ (gI δ0 151 9) then (kx0_38 δ0) else (if inb (gI δ0 151 9) 400 then (if (gI δ0 153 (ix (gI δ0 151 9))) = (32 : Int32) then (bnd (sI δ0 151 9 ((gI δ0 151 9) + (1 : Int32))) (fun δ_32 => (lp_Mo_see_0 kx0_38 f δ_32))) else (kx0_38 δ0)) else none))
set_option maxHeartbeats 4000000 in
set_option maxRecDepth 100000 in
theorem tl_Mo_see_0 {n : Nat} (kx0_38 : Dm → Option (Int32 × Dm)) (hkx0_38 : ∀ δ0k, AWo k_Mo_see 1 0 0 38 [(0, .ref 151)] [] δ0k RT n 0 0 (Km RT n) (kx0_38 δ0k)) : ∀ (f : Nat) (δ0 : Dm), AWo k_Mo_see 1 0 0 0 [(0, .ref 151)] [] δ0 RT n 0 0 (Km RT n) (lp_Mo_see_0 kx0_38 f δ0) := by
  intro f
  induction f with
  | zero => intro _; exact aw_none
  | succ f ih =>
    intro δ0
    rw [lp_Mo_see_0]
    refine aw_aload_n d_Mo_see_0 0 rfl ?_
    refine aw_getI fl_Mo_90 kd_151 d_Mo_see_1 ?_
    refine aw_aload_n d_Mo_see_4 0 rfl ?_
    refine aw_getI fl_Mo_79 kd_151 d_Mo_see_5 ?_
    refine aw_icmp_ge (tgt := 38) d_Mo_see_8 rfl (fun q8 => ?_) (fun q8 => ?_)
    · refine aw_sub (lo' := [(0, .ref 151)]) [0] rfl ?_
      exact hkx0_38 _
    · refine aw_aload_n d_Mo_see_11 0 rfl ?_
      refine aw_getR (t := 153) fl_Mo_13 kd_151 rt_151_1 d_Mo_see_12 ?_
      refine aw_aload_n d_Mo_see_15 0 rfl ?_
      refine aw_getI fl_Mo_90 kd_151 d_Mo_see_16 ?_
      refine aw_bald kd_153 d_Mo_see_19 ?_
      refine aw_bipush d_Mo_see_20 kb_32 ?_
      refine aw_icmp_ne (tgt := 38) d_Mo_see_22 rfl (fun q22 => ?_) (fun q22 => ?_)
      · refine aw_aload_n d_Mo_see_25 0 rfl ?_
        refine aw_dup d_Mo_see_26 rfl ?_
        refine aw_getI fl_Mo_90 kd_151 d_Mo_see_27 ?_
        refine aw_iconst d_Mo_see_30 ki_1 ?_
        refine aw_iadd d_Mo_see_31 ?_
        refine aw_putI pf_Mo_90 kd_151 d_Mo_see_32 ?_
        refine aw_bD (fun δ_32 => ?_)
        refine aw_goto (tgt := 0) d_Mo_see_35 rfl ?_
        refine aw_sub (lo' := [(0, .ref 151)]) [0] rfl ?_
        exact ih _
      · refine aw_sub (lo' := [(0, .ref 151)]) [0] rfl ?_
        exact hkx0_38 _
def f_Mo_see (δ : Dm) : Option (Int32 × Dm) := (lp_Mo_see_0 (fun δ0x => (if (gI δ0x 151 2) ≤ (gI δ0x 151 9) then (some ((-1 : Int32), δ0x)) else (if inb (gI δ0x 151 9) 400 then (some (((gI δ0x 153 (ix (gI δ0x 151 9))) &&& (255 : Int32)), δ0x)) else none))) FU δ)
set_option maxHeartbeats 4000000 in
set_option maxRecDepth 100000 in
theorem m_Mo_see {δ : Dm} {n : Nat} : ∀ x, f_Mo_see δ = some x → AMet k_Mo_see 1 0 0 [.ref 151] δ RT n (Km RT n x) := by
  refine aw_start (lo := [(0, .ref 151)]) mok_Mo_see rfl (Nat.le_of_ble_eq_true rfl) ?_
  unfold f_Mo_see
  refine aw_sub (lo' := [(0, .ref 151)]) [0] rfl ?_
  refine tl_Mo_see_0 _ (fun δ0x => ?_) FU _
  · refine aw_aload_n d_Mo_see_38 0 rfl ?_
    refine aw_getI fl_Mo_90 kd_151 d_Mo_see_39 ?_
    refine aw_aload_n d_Mo_see_42 0 rfl ?_
    refine aw_getI fl_Mo_79 kd_151 d_Mo_see_43 ?_
    refine aw_icmp_ge (tgt := 65) d_Mo_see_46 rfl (fun q46 => ?_) (fun q46 => ?_)
    · refine aw_iconst d_Mo_see_65 ki_m1 ?_
      exact aw_iret rfl rfl ⟨Nat.le_refl _, Nat.le_refl _⟩ d_Mo_see_66
    · refine aw_aload_n d_Mo_see_49 0 rfl ?_
      refine aw_getR (t := 153) fl_Mo_13 kd_151 rt_151_1 d_Mo_see_50 ?_
      refine aw_aload_n d_Mo_see_53 0 rfl ?_
      refine aw_getI fl_Mo_90 kd_151 d_Mo_see_54 ?_
      refine aw_bald kd_153 d_Mo_see_57 ?_
      refine aw_sipush d_Mo_see_58 ks_255 ?_
      refine aw_iand d_Mo_see_61 ?_
      refine aw_goto (tgt := 66) d_Mo_see_62 rfl ?_
      exact aw_iret rfl rfl ⟨Nat.le_refl _, Nat.le_refl _⟩ d_Mo_see_66
def f_Mo_isLetter (a1 : Int32) (δ : Dm) : Option Int32 := (if (gI δ 151 2) ≤ a1 then (some (0 : Int32)) else (if inb a1 400 then (if (gI δ 153 (ix a1)) < (97 : Int32) then (some (0 : Int32)) else (if inb a1 400 then (if (122 : Int32) < (gI δ 153 (ix a1)) then (some (0 : Int32)) else (some (1 : Int32))) else none)) else none))
set_option maxHeartbeats 4000000 in
set_option maxRecDepth 100000 in
theorem m_Mo_isLetter {a1 : Int32} {δ : Dm} {n : Nat} : ∀ x, f_Mo_isLetter a1 δ = some x → AMet k_Mo_isLetter 1 0 0 [.ref 151, .int a1] δ RT n (Kp δ RT n x) := by
  refine aw_start (lo := [(0, .ref 151), (1, .int a1)]) mok_Mo_isLetter rfl (Nat.le_of_ble_eq_true rfl) ?_
  unfold f_Mo_isLetter
  refine aw_iload_n d_Mo_isLetter_0 1 rfl ?_
  refine aw_aload_n d_Mo_isLetter_1 0 rfl ?_
  refine aw_getI fl_Mo_79 kd_151 d_Mo_isLetter_2 ?_
  refine aw_icmp_ge (tgt := 34) d_Mo_isLetter_5 rfl (fun q5 => ?_) (fun q5 => ?_)
  · refine aw_iconst d_Mo_isLetter_34 ki_0 ?_
    exact aw_zret rfl rfl rfl ⟨Nat.le_refl _, Nat.le_refl _⟩ d_Mo_isLetter_35
  · refine aw_aload_n d_Mo_isLetter_8 0 rfl ?_
    refine aw_getR (t := 153) fl_Mo_13 kd_151 rt_151_1 d_Mo_isLetter_9 ?_
    refine aw_iload_n d_Mo_isLetter_12 1 rfl ?_
    refine aw_bald kd_153 d_Mo_isLetter_13 ?_
    refine aw_bipush d_Mo_isLetter_14 kb_97 ?_
    refine aw_icmp_lt (tgt := 34) d_Mo_isLetter_16 rfl (fun q16 => ?_) (fun q16 => ?_)
    · refine aw_iconst d_Mo_isLetter_34 ki_0 ?_
      exact aw_zret rfl rfl rfl ⟨Nat.le_refl _, Nat.le_refl _⟩ d_Mo_isLetter_35
    · refine aw_aload_n d_Mo_isLetter_19 0 rfl ?_
      refine aw_getR (t := 153) fl_Mo_13 kd_151 rt_151_1 d_Mo_isLetter_20 ?_
      refine aw_iload_n d_Mo_isLetter_23 1 rfl ?_
      refine aw_bald kd_153 d_Mo_isLetter_24 ?_
      refine aw_bipush d_Mo_isLetter_25 kb_122 ?_
      refine aw_icmp_gt (tgt := 34) d_Mo_isLetter_27 rfl (fun q27 => ?_) (fun q27 => ?_)
      · refine aw_iconst d_Mo_isLetter_34 ki_0 ?_
        exact aw_zret rfl rfl rfl ⟨Nat.le_refl _, Nat.le_refl _⟩ d_Mo_isLetter_35
      · refine aw_iconst d_Mo_isLetter_30 ki_1 ?_
        refine aw_goto (tgt := 35) d_Mo_isLetter_31 rfl ?_
        exact aw_zret rfl rfl rfl ⟨Nat.le_refl _, Nat.le_refl _⟩ d_Mo_isLetter_35
def lp_Mo_isWord_10 (kx10_56 : Int64 → Int32 → Option (Int32 × Dm)) (a1 : Int64) (δ_1 : Dm) : Nat → Int64 → Int32 → Option (Int32 × Dm)
  | 0, _, _ => none
  | f + 1, v3_10, v5_10 => ((f_Mo_isLetter ((gI δ_1 151 9) + v5_10) δ_1).bind (fun y18 => (if y18 = 0 then (kx10_56 v3_10 v5_10) else (if (8 : Int32) ≤ v5_10 then (lp_Mo_isWord_10 kx10_56 a1 δ_1 f v3_10 (v5_10 + (1 : Int32))) else (if inb ((gI δ_1 151 9) + v5_10) 400 then (bnd ((v3_10 <<< (((8 : Int32)).toInt64 &&& 63)) ||| (((gI δ_1 153 (ix ((gI δ_1 151 9) + v5_10)))).toInt64)) (fun v49 => (lp_Mo_isWord_10 kx10_56 a1 δ_1 f v49 (v5_10 + (1 : Int32))))) else none)))))
set_option maxHeartbeats 4000000 in
set_option maxRecDepth 100000 in
theorem tl_Mo_isWord_10 {n : Nat} (kx10_56 : Int64 → Int32 → Option (Int32 × Dm)) (a1 : Int64) (δ_1 : Dm) (hkx10_56 : ∀ v3_10k v5_10k, AWo k_Mo_isWord 2 0 0 56 [(0, .ref 151), (1, .long a1), (3, .long v3_10k), (5, .int v5_10k)] [] δ_1 RT n 0 0 (Km RT n) (kx10_56 v3_10k v5_10k)) : ∀ (f : Nat) (v3_10 : Int64) (v5_10 : Int32), AWo k_Mo_isWord 2 0 0 10 [(0, .ref 151), (1, .long a1), (3, .long v3_10), (5, .int v5_10)] [] δ_1 RT n 0 0 (Km RT n) (lp_Mo_isWord_10 kx10_56 a1 δ_1 f v3_10 v5_10) := by
  intro f
  induction f with
  | zero => intro _ _; exact aw_none
  | succ f ih =>
    intro v3_10 v5_10
    rw [lp_Mo_isWord_10]
    refine aw_aload_n d_Mo_isWord_10 0 rfl ?_
    refine aw_aload_n d_Mo_isWord_11 0 rfl ?_
    refine aw_getI fl_Mo_90 kd_151 d_Mo_isWord_12 ?_
    refine aw_iload d_Mo_isWord_15 3 rfl ?_
    refine aw_iadd d_Mo_isWord_17 ?_
    refine aw_V_p (As := [.int ((gI δ_1 151 9) + v5_10)]) (m_Mo_isLetter) cv_Mo_97 kd_151 rfl rfl rfl (Nat.le_of_ble_eq_true rfl) ⟨Nat.le_of_ble_eq_true rfl, Nat.le_of_ble_eq_true rfl⟩ ⟨Nat.le_refl _, Nat.le_refl _⟩ d_Mo_isWord_18 (fun y18 => ?_)
    refine aw_if_eq (tgt := 56) d_Mo_isWord_21 rfl (fun q21 => ?_) (fun q21 => ?_)
    · refine aw_sub (lo' := [(0, .ref 151), (1, .long a1), (3, .long v3_10), (5, .int v5_10)]) [0, 1, 2, 3] rfl ?_
      exact hkx10_56 _ _
    · refine aw_iload d_Mo_isWord_24 3 rfl ?_
      refine aw_bipush d_Mo_isWord_26 kb_8 ?_
      refine aw_icmp_ge (tgt := 50) d_Mo_isWord_28 rfl (fun q28 => ?_) (fun q28 => ?_)
      · refine aw_iinc (v := (v5_10 + (1 : Int32))) (lo' := [(5, .int (v5_10 + (1 : Int32))), (0, .ref 151), (1, .long a1), (3, .long v3_10)]) d_Mo_isWord_50 3 rfl (by rw [show Int32.ofInt (1) = (1 : Int32) from by decide]) (by decide) rfl ?_
        refine aw_goto (tgt := 10) d_Mo_isWord_53 rfl ?_
        refine aw_sub (lo' := [(0, .ref 151), (1, .long a1), (3, .long v3_10), (5, .int (v5_10 + (1 : Int32)))]) [1, 2, 3, 0] rfl ?_
        exact ih _ _
      · refine aw_lload_n d_Mo_isWord_31 2 rfl ?_
        refine aw_bipush d_Mo_isWord_32 kb_8 ?_
        refine aw_lshl d_Mo_isWord_34 ?_
        refine aw_aload_n d_Mo_isWord_35 0 rfl ?_
        refine aw_getR (t := 153) fl_Mo_13 kd_151 rt_151_1 d_Mo_isWord_36 ?_
        refine aw_aload_n d_Mo_isWord_39 0 rfl ?_
        refine aw_getI fl_Mo_90 kd_151 d_Mo_isWord_40 ?_
        refine aw_iload d_Mo_isWord_43 3 rfl ?_
        refine aw_iadd d_Mo_isWord_45 ?_
        refine aw_bald kd_153 d_Mo_isWord_46 ?_
        refine aw_i2l d_Mo_isWord_47 ?_
        refine aw_lor d_Mo_isWord_48 ?_
        refine aw_bL (fun v49 => ?_)
        refine aw_lstore_n (lo' := [(3, .long v49), (0, .ref 151), (1, .long a1), (5, .int v5_10)]) d_Mo_isWord_49 rfl (by decide) rfl ?_
        refine aw_iinc (v := (v5_10 + (1 : Int32))) (lo' := [(5, .int (v5_10 + (1 : Int32))), (3, .long v49), (0, .ref 151), (1, .long a1)]) d_Mo_isWord_50 3 rfl (by rw [show Int32.ofInt (1) = (1 : Int32) from by decide]) (by decide) rfl ?_
        refine aw_goto (tgt := 10) d_Mo_isWord_53 rfl ?_
        refine aw_sub (lo' := [(0, .ref 151), (1, .long a1), (3, .long v49), (5, .int (v5_10 + (1 : Int32)))]) [2, 3, 1, 0] rfl ?_
        exact ih _ _
def f_Mo_isWord (a1 : Int64) (δ : Dm) : Option (Int32 × Dm) := ((f_Mo_see δ).bind (fun y1 => bnd y1.1 (fun v1 => bnd y1.2 (fun δ_1 => (lp_Mo_isWord_10 (fun v3_10x v5_10x => (if v5_10x ≤ 0 then (some ((0 : Int32), δ_1)) else (if (9 : Int32) ≤ v5_10x then (some ((0 : Int32), δ_1)) else (if (lg_cmp v3_10x a1) = 0 then (some ((1 : Int32), δ_1)) else (some ((0 : Int32), δ_1)))))) a1 δ_1 FU (0 : Int64) (0 : Int32))))))
set_option maxHeartbeats 4000000 in
set_option maxRecDepth 100000 in
theorem m_Mo_isWord {a1 : Int64} {δ : Dm} {n : Nat} : ∀ x, f_Mo_isWord a1 δ = some x → AMet k_Mo_isWord 2 0 0 [.ref 151, .long a1] δ RT n (Km RT n x) := by
  refine aw_start (lo := [(0, .ref 151), (1, .long a1)]) mok_Mo_isWord rfl (Nat.le_of_ble_eq_true rfl) ?_
  unfold f_Mo_isWord
  refine aw_aload_n d_Mo_isWord_0 0 rfl ?_
  refine aw_V_m (As := []) (m_Mo_see) cv_Mo_93 kd_151 rfl rfl rfl (Nat.le_of_ble_eq_true rfl) ⟨Nat.le_of_ble_eq_true rfl, Nat.le_of_ble_eq_true rfl⟩ ⟨Nat.le_refl _, Nat.le_refl _⟩ d_Mo_isWord_1 (fun y1 => ?_)
  refine aw_bI (fun v1 => ?_)
  refine aw_bD (fun δ_1 => ?_)
  refine aw_pop d_Mo_isWord_4 rfl ?_
  refine aw_lconst d_Mo_isWord_5 kl_0 ?_
  refine aw_lstore_n (lo' := [(3, .long (0 : Int64)), (0, .ref 151), (1, .long a1)]) d_Mo_isWord_6 rfl (by decide) rfl ?_
  refine aw_iconst d_Mo_isWord_7 ki_0 ?_
  refine aw_istore (lo' := [(5, .int (0 : Int32)), (3, .long (0 : Int64)), (0, .ref 151), (1, .long a1)]) d_Mo_isWord_8 (by decide) rfl ?_
  refine aw_sub (lo' := [(0, .ref 151), (1, .long a1), (3, .long (0 : Int64)), (5, .int (0 : Int32))]) [2, 3, 1, 0] rfl ?_
  refine tl_Mo_isWord_10 _ _ _ (fun v3_10x v5_10x => ?_) FU _ _
  · refine aw_iload d_Mo_isWord_56 3 rfl ?_
    refine aw_if_le (tgt := 78) d_Mo_isWord_58 rfl (fun q58 => ?_) (fun q58 => ?_)
    · refine aw_iconst d_Mo_isWord_78 ki_0 ?_
      exact aw_zret rfl rfl rfl ⟨Nat.le_refl _, Nat.le_refl _⟩ d_Mo_isWord_79
    · refine aw_iload d_Mo_isWord_61 3 rfl ?_
      refine aw_bipush d_Mo_isWord_63 kb_9 ?_
      refine aw_icmp_ge (tgt := 78) d_Mo_isWord_65 rfl (fun q65 => ?_) (fun q65 => ?_)
      · refine aw_iconst d_Mo_isWord_78 ki_0 ?_
        exact aw_zret rfl rfl rfl ⟨Nat.le_refl _, Nat.le_refl _⟩ d_Mo_isWord_79
      · refine aw_lload_n d_Mo_isWord_68 2 rfl ?_
        refine aw_lload_n d_Mo_isWord_69 1 rfl ?_
        refine aw_lcmp d_Mo_isWord_70 ?_
        refine aw_if_ne (tgt := 78) d_Mo_isWord_71 rfl (fun q71 => ?_) (fun q71 => ?_)
        · refine aw_iconst d_Mo_isWord_74 ki_1 ?_
          refine aw_goto (tgt := 79) d_Mo_isWord_75 rfl ?_
          exact aw_zret rfl rfl rfl ⟨Nat.le_refl _, Nat.le_refl _⟩ d_Mo_isWord_79
        · refine aw_iconst d_Mo_isWord_78 ki_0 ?_
          exact aw_zret rfl rfl rfl ⟨Nat.le_refl _, Nat.le_refl _⟩ d_Mo_isWord_79
end
