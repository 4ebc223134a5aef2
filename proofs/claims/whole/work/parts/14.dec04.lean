def f_Fp_rentBy (a1 : Nat) (a2 : Int32) (a3 : Int32) (a4 : Int32) (δ : Dm) : Option (Int32 × Dm) := ((f_To_boothAt a2 δ).bind (fun o5 => ocs o5 (some ((0 : Int32), δ)) (fun t5 => if isB t5 = true then ((f_Di_stripsIn a2 a3 a4 δ).bind (fun y28 => ((f_Fa_open t5 a4 δ).bind (fun y45 => ((f_Fa_till y28 ((gI y45 t5 1) * y28) y45).bind (fun y62 => ((f_La_total a1 (16 : Int32) (0 : Int32) y62).bind (fun y73 => bnd y73.1 (fun v73 => bnd y73.2 (fun δ_73 => ((f_Fp_held v73 (-99999999 : Int64) (99999999 : Int64) δ_73).bind (fun y82 => (some (((y82).toInt32), δ_73)))))))))))))) else none)))
set_option maxHeartbeats 4000000 in
set_option maxRecDepth 100000 in
theorem m_Fp_rentBy {a1 : Nat} {a2 : Int32} {a3 : Int32} {a4 : Int32} {δ : Dm} {n : Nat} (ha1 : isL a1 = true) : ∀ x, f_Fp_rentBy a1 a2 a3 a4 δ = some x → AMet k_Fp_rentBy 4 0 0 [.ref 4, .ref a1, .int a2, .int a3, .int a4] δ RT n (Km RT n x) := by
  refine aw_start (lo := [(0, .ref 4), (1, .ref a1), (2, .int a2), (3, .int a3), (4, .int a4)]) mok_Fp_rentBy rfl (Nat.le_of_ble_eq_true rfl) ?_
  unfold f_Fp_rentBy
  refine aw_aload_n d_Fp_rentBy_0 0 rfl ?_
  refine aw_getR (t := 29) fl_Fp_57 kd_4 rt_4_9 d_Fp_rentBy_1 ?_
  refine aw_iload_n d_Fp_rentBy_4 2 rfl ?_
  refine aw_V_r (As := [.int a2]) (m_To_boothAt) cv_Fp_139 kd_29 rfl rfl rfl (Nat.le_of_ble_eq_true rfl) ⟨Nat.le_of_ble_eq_true rfl, Nat.le_of_ble_eq_true rfl⟩ ⟨Nat.le_refl _, Nat.le_refl _⟩ d_Fp_rentBy_5 ?_ (fun t5 => ?_)
  · refine aw_astoreN (lo' := [(5, .null), (0, .ref 4), (1, .ref a1), (2, .int a2), (3, .int a3), (4, .int a4)]) d_Fp_rentBy_8 (by decide) rfl ?_
    refine aw_aloadN d_Fp_rentBy_10 0 rfl ?_
    refine aw_ifnonnullN d_Fp_rentBy_12 ?_
    refine aw_iconst d_Fp_rentBy_15 ki_0 ?_
    exact aw_iret rfl rfl ⟨Nat.le_refl _, Nat.le_refl _⟩ d_Fp_rentBy_16
  · refine aw_grd (fun ht5 => ?_)
    refine aw_astore (lo' := [(5, .ref t5), (0, .ref 4), (1, .ref a1), (2, .int a2), (3, .int a3), (4, .int a4)]) d_Fp_rentBy_8 (by decide) rfl ?_
    refine aw_aload d_Fp_rentBy_10 0 rfl ?_
    refine aw_ifnonnull (tgt := 17) d_Fp_rentBy_12 rfl ?_
    refine aw_aload_n d_Fp_rentBy_17 1 rfl ?_
    refine aw_getR (t := 29) fl_Fp_57 kd_4 rt_4_9 d_Fp_rentBy_18 ?_
    refine aw_getR (t := 34) fl_Fp_148 kd_29 rt_29_7 d_Fp_rentBy_21 ?_
    refine aw_iload_n d_Fp_rentBy_24 3 rfl ?_
    refine aw_iload_n d_Fp_rentBy_25 4 rfl ?_
    refine aw_iload d_Fp_rentBy_26 5 rfl ?_
    refine aw_V_p (As := [.int a2, .int a3, .int a4]) (m_Di_stripsIn) cv_Fp_274 kd_34 rfl rfl rfl (Nat.le_of_ble_eq_true rfl) ⟨Nat.le_of_ble_eq_true rfl, Nat.le_of_ble_eq_true rfl⟩ ⟨Nat.le_refl _, Nat.le_refl _⟩ d_Fp_rentBy_28 (fun y28 => ?_)
    refine aw_istore (lo' := [(6, .int y28), (5, .ref t5), (0, .ref 4), (1, .ref a1), (2, .int a2), (3, .int a3), (4, .int a4)]) d_Fp_rentBy_31 (by decide) rfl ?_
    refine aw_aload_n d_Fp_rentBy_33 2 rfl ?_
    refine aw_getR (t := 19) fl_Fp_29 kd_4 rt_4_5 d_Fp_rentBy_34 ?_
    refine aw_aload_n d_Fp_rentBy_37 2 rfl ?_
    refine aw_getR (t := 29) fl_Fp_57 kd_4 rt_4_9 d_Fp_rentBy_38 ?_
    refine aw_aload d_Fp_rentBy_41 1 rfl ?_
    refine aw_iload d_Fp_rentBy_43 6 rfl ?_
    refine aw_V_v (As := [.ref 29, .ref t5, .int a4]) (m_Fa_open ht5) cv_Fp_160 kd_19 rfl rfl rfl (Nat.le_of_ble_eq_true rfl) ⟨Nat.le_of_ble_eq_true rfl, Nat.le_of_ble_eq_true rfl⟩ ⟨Nat.le_refl _, Nat.le_refl _⟩ d_Fp_rentBy_45 (fun y45 => ?_)
    refine aw_aload_n d_Fp_rentBy_48 2 rfl ?_
    refine aw_getR (t := 19) fl_Fp_29 kd_4 rt_4_5 d_Fp_rentBy_49 ?_
    refine aw_iload d_Fp_rentBy_52 0 rfl ?_
    refine aw_aload d_Fp_rentBy_54 1 rfl ?_
    refine aw_getI fl_Fp_197 (fx_isBK ht5 0 (by decide)) d_Fp_rentBy_56 ?_
    refine aw_iload d_Fp_rentBy_59 0 rfl ?_
    refine aw_imul d_Fp_rentBy_61 ?_
    refine aw_V_v (As := [.int y28, .int ((gI y45 t5 1) * y28)]) (m_Fa_till) cv_Fp_174 kd_19 rfl rfl rfl (Nat.le_of_ble_eq_true rfl) ⟨Nat.le_of_ble_eq_true rfl, Nat.le_of_ble_eq_true rfl⟩ ⟨Nat.le_refl _, Nat.le_refl _⟩ d_Fp_rentBy_62 (fun y62 => ?_)
    refine aw_aload_n d_Fp_rentBy_65 3 rfl ?_
    refine aw_bipush d_Fp_rentBy_66 kb_16 ?_
    refine aw_iconst d_Fp_rentBy_68 ki_0 ?_
    refine aw_aload_n d_Fp_rentBy_69 2 rfl ?_
    refine aw_getR (t := 19) fl_Fp_29 kd_4 rt_4_5 d_Fp_rentBy_70 ?_
    refine aw_V_n (As := [.int (16 : Int32), .int (0 : Int32), .ref 19]) (m_La_total ha1) cv_Fp_404 (fx_isLK ha1 0 (by decide)) rfl rfl rfl (Nat.le_of_ble_eq_true rfl) ⟨Nat.le_of_ble_eq_true rfl, Nat.le_of_ble_eq_true rfl⟩ ⟨Nat.le_refl _, Nat.le_refl _⟩ d_Fp_rentBy_73 (fun y73 => ?_)
    refine aw_bL (fun v73 => ?_)
    refine aw_bD (fun δ_73 => ?_)
    refine aw_ldc2 (v := (-99999999 : Int64)) d_Fp_rentBy_76 kc_Fp_408 ?_
    refine aw_ldc2 (v := (99999999 : Int64)) d_Fp_rentBy_79 kc_Fp_410 ?_
    refine aw_S_l (As := [.long v73, .long (-99999999 : Int64), .long (99999999 : Int64)]) (m_Fp_held) cs_Fp_412 rfl rfl (Nat.le_of_ble_eq_true rfl) ⟨Nat.le_of_ble_eq_true rfl, Nat.le_of_ble_eq_true rfl⟩ ⟨Nat.le_refl _, Nat.le_refl _⟩ d_Fp_rentBy_82 (fun y82 => ?_)
    refine aw_l2i d_Fp_rentBy_85 ?_
    exact aw_iret rfl rfl ⟨Nat.le_refl _, Nat.le_refl _⟩ d_Fp_rentBy_86
def f_Fp_rent (a1 : Int32) (a2 : Int32) (a3 : Int32) (a4 : Int32) (δ : Dm) : Option (Int32 × Dm) := ((f_Fp_lawAt a1 δ).bind (fun o2 => ocs o2 (some ((-1000000000 : Int32), δ)) (fun t2 => if isL t2 = true then ((f_To_boothAt a2 δ).bind (fun o17 => ocs o17 (some ((-1000000000 : Int32), δ)) (fun t17 => if isB t17 = true then ((f_Fp_isSpan a3 a4 δ).bind (fun y26 => (if y26 = 0 then (some ((-1000000000 : Int32), δ)) else ((f_Fp_rentBy t2 a2 a3 a4 δ).bind (fun y43 => bnd y43.1 (fun v43 => bnd y43.2 (fun δ_43 => (some (v43, δ_43))))))))) else none))) else none)))
set_option maxHeartbeats 4000000 in
set_option maxRecDepth 100000 in
theorem m_Fp_rent {a1 : Int32} {a2 : Int32} {a3 : Int32} {a4 : Int32} {δ : Dm} {n : Nat} : ∀ x, f_Fp_rent a1 a2 a3 a4 δ = some x → AMet k_Fp_rent 5 0 0 [.ref 4, .int a1, .int a2, .int a3, .int a4] δ RT n (Km RT n x) := by
  refine aw_start (lo := [(0, .ref 4), (1, .int a1), (2, .int a2), (3, .int a3), (4, .int a4)]) mok_Fp_rent rfl (Nat.le_of_ble_eq_true rfl) ?_
  unfold f_Fp_rent
  refine aw_aload_n d_Fp_rent_0 0 rfl ?_
  refine aw_iload_n d_Fp_rent_1 1 rfl ?_
  refine aw_V_r (As := [.int a1]) (m_Fp_lawAt) cv_Fp_126 kd_4 rfl rfl rfl (Nat.le_of_ble_eq_true rfl) ⟨Nat.le_of_ble_eq_true rfl, Nat.le_of_ble_eq_true rfl⟩ ⟨Nat.le_refl _, Nat.le_refl _⟩ d_Fp_rent_2 ?_ (fun t2 => ?_)
  · refine aw_astoreN (lo' := [(5, .null), (0, .ref 4), (1, .int a1), (2, .int a2), (3, .int a3), (4, .int a4)]) d_Fp_rent_5 (by decide) rfl ?_
    refine aw_aloadN d_Fp_rent_7 0 rfl ?_
    refine aw_ifnullN (tgt := 32) d_Fp_rent_9 rfl ?_
    refine aw_ldcw (v := (-1000000000 : Int32)) d_Fp_rent_32 kc_Fp_270 ?_
    exact aw_iret rfl rfl ⟨Nat.le_refl _, Nat.le_refl _⟩ d_Fp_rent_35
  · refine aw_grd (fun ht2 => ?_)
    refine aw_astore (lo' := [(5, .ref t2), (0, .ref 4), (1, .int a1), (2, .int a2), (3, .int a3), (4, .int a4)]) d_Fp_rent_5 (by decide) rfl ?_
    refine aw_aload d_Fp_rent_7 0 rfl ?_
    refine aw_ifnull d_Fp_rent_9 ?_
    refine aw_aload_n d_Fp_rent_12 1 rfl ?_
    refine aw_getR (t := 29) fl_Fp_57 kd_4 rt_4_9 d_Fp_rent_13 ?_
    refine aw_iload_n d_Fp_rent_16 3 rfl ?_
    refine aw_V_r (As := [.int a2]) (m_To_boothAt) cv_Fp_139 kd_29 rfl rfl rfl (Nat.le_of_ble_eq_true rfl) ⟨Nat.le_of_ble_eq_true rfl, Nat.le_of_ble_eq_true rfl⟩ ⟨Nat.le_refl _, Nat.le_refl _⟩ d_Fp_rent_17 ?_ (fun t17 => ?_)
    · refine aw_ifnullN (tgt := 32) d_Fp_rent_20 rfl ?_
      refine aw_ldcw (v := (-1000000000 : Int32)) d_Fp_rent_32 kc_Fp_270 ?_
      exact aw_iret rfl rfl ⟨Nat.le_refl _, Nat.le_refl _⟩ d_Fp_rent_35
    · refine aw_grd (fun ht17 => ?_)
      refine aw_ifnull d_Fp_rent_20 ?_
      refine aw_iload_n d_Fp_rent_23 4 rfl ?_
      refine aw_iload d_Fp_rent_24 5 rfl ?_
      refine aw_S_p (As := [.int a3, .int a4]) (m_Fp_isSpan) cs_Fp_310 rfl rfl (Nat.le_of_ble_eq_true rfl) ⟨Nat.le_of_ble_eq_true rfl, Nat.le_of_ble_eq_true rfl⟩ ⟨Nat.le_refl _, Nat.le_refl _⟩ d_Fp_rent_26 (fun y26 => ?_)
      refine aw_if_ne (tgt := 36) d_Fp_rent_29 rfl (fun q29 => ?_) (fun q29 => ?_)
      · refine aw_ldcw (v := (-1000000000 : Int32)) d_Fp_rent_32 kc_Fp_270 ?_
        exact aw_iret rfl rfl ⟨Nat.le_refl _, Nat.le_refl _⟩ d_Fp_rent_35
      · refine aw_aload_n d_Fp_rent_36 1 rfl ?_
        refine aw_aload d_Fp_rent_37 0 rfl ?_
        refine aw_iload_n d_Fp_rent_39 3 rfl ?_
        refine aw_iload_n d_Fp_rent_40 4 rfl ?_
        refine aw_iload d_Fp_rent_41 5 rfl ?_
        refine aw_V_m (As := [.ref t2, .int a2, .int a3, .int a4]) (m_Fp_rentBy ht2) cv_Fp_313 kd_4 rfl rfl rfl (Nat.le_of_ble_eq_true rfl) ⟨Nat.le_of_ble_eq_true rfl, Nat.le_of_ble_eq_true rfl⟩ ⟨Nat.le_refl _, Nat.le_refl _⟩ d_Fp_rent_43 (fun y43 => ?_)
        refine aw_bI (fun v43 => ?_)
        refine aw_bD (fun δ_43 => ?_)
        exact aw_iret rfl rfl ⟨Nat.le_refl _, Nat.le_refl _⟩ d_Fp_rent_46
def jp_Fp_cheapest_68 (kr32 : Int32 → Int32 → Int32 → Dm → Option (Int32 × Dm)) (kx32_91 : Int32 → Int32 → Int32 → Dm → Option (Int32 × Dm)) (a1 : Int32) (a2 : Int32) (a3 : Int32) (v4_32 : Int32) (v5_32 : Int32) (v6_32 : Int32) (s0_68 : Int32) (δ68 : Dm) : Option (Int32 × Dm) := (if v5_32 ≤ s0_68 then (kr32 v4_32 v5_32 (v6_32 + (1 : Int32)) δ68) else (kr32 v6_32 s0_68 (v6_32 + (1 : Int32)) δ68))
set_option maxHeartbeats 4000000 in
set_option maxRecDepth 100000 in
theorem tj_Fp_cheapest_68 {n : Nat} (kr32 : Int32 → Int32 → Int32 → Dm → Option (Int32 × Dm)) (kx32_91 : Int32 → Int32 → Int32 → Dm → Option (Int32 × Dm)) (a1 : Int32) (a2 : Int32) (a3 : Int32) (v4_32 : Int32) (v5_32 : Int32) (v6_32 : Int32) (s0_68 : Int32) (δ68 : Dm) (hkr32 : ∀ v4_32k v5_32k v6_32k δ32k, AWo k_Fp_cheapest 5 0 0 32 [(0, .ref 4), (1, .int a1), (2, .int a2), (3, .int a3), (4, .int v4_32k), (5, .int v5_32k), (6, .int v6_32k)] [] δ32k RT n 0 0 (Km RT n) (kr32 v4_32k v5_32k v6_32k δ32k)) (hkx32_91 : ∀ v4_32k v5_32k v6_32k δ32k, AWo k_Fp_cheapest 5 0 0 91 [(0, .ref 4), (1, .int a1), (2, .int a2), (3, .int a3), (4, .int v4_32k), (5, .int v5_32k), (6, .int v6_32k)] [] δ32k RT n 0 0 (Km RT n) (kx32_91 v4_32k v5_32k v6_32k δ32k)) : AWo k_Fp_cheapest 5 0 0 68 [(0, .ref 4), (1, .int a1), (2, .int a2), (3, .int a3), (4, .int v4_32), (5, .int v5_32), (6, .int v6_32)] [.int s0_68] δ68 RT n 0 0 (Km RT n) (jp_Fp_cheapest_68 kr32 kx32_91 a1 a2 a3 v4_32 v5_32 v6_32 s0_68 δ68) := by
  unfold jp_Fp_cheapest_68
  refine aw_istore (lo' := [(8, .int s0_68), (0, .ref 4), (1, .int a1), (2, .int a2), (3, .int a3), (4, .int v4_32), (5, .int v5_32), (6, .int v6_32)]) d_Fp_cheapest_68 (by decide) rfl ?_
  refine aw_iload d_Fp_cheapest_70 0 rfl ?_
  refine aw_iload d_Fp_cheapest_72 6 rfl ?_
  refine aw_icmp_ge (tgt := 85) d_Fp_cheapest_74 rfl (fun q74 => ?_) (fun q74 => ?_)
  · refine aw_iinc (v := (v6_32 + (1 : Int32))) (lo' := [(6, .int (v6_32 + (1 : Int32))), (8, .int s0_68), (0, .ref 4), (1, .int a1), (2, .int a2), (3, .int a3), (4, .int v4_32), (5, .int v5_32)]) d_Fp_cheapest_85 7 rfl (by rw [show Int32.ofInt (1) = (1 : Int32) from by decide]) (by decide) rfl ?_
    refine aw_goto (tgt := 32) d_Fp_cheapest_88 rfl ?_
    refine aw_sub (lo' := [(0, .ref 4), (1, .int a1), (2, .int a2), (3, .int a3), (4, .int v4_32), (5, .int v5_32), (6, .int (v6_32 + (1 : Int32)))]) [2, 3, 4, 5, 6, 7, 0] rfl ?_
    exact hkr32 _ _ _ _
  · refine aw_iload d_Fp_cheapest_77 0 rfl ?_
    refine aw_istore (lo' := [(5, .int s0_68), (8, .int s0_68), (0, .ref 4), (1, .int a1), (2, .int a2), (3, .int a3), (4, .int v4_32), (6, .int v6_32)]) d_Fp_cheapest_79 (by decide) rfl ?_
    refine aw_iload d_Fp_cheapest_81 7 rfl ?_
    refine aw_istore (lo' := [(4, .int v6_32), (5, .int s0_68), (8, .int s0_68), (0, .ref 4), (1, .int a1), (2, .int a2), (3, .int a3), (6, .int v6_32)]) d_Fp_cheapest_83 (by decide) rfl ?_
    refine aw_iinc (v := (v6_32 + (1 : Int32))) (lo' := [(6, .int (v6_32 + (1 : Int32))), (4, .int v6_32), (5, .int s0_68), (8, .int s0_68), (0, .ref 4), (1, .int a1), (2, .int a2), (3, .int a3)]) d_Fp_cheapest_85 7 rfl (by rw [show Int32.ofInt (1) = (1 : Int32) from by decide]) (by decide) rfl ?_
    refine aw_goto (tgt := 32) d_Fp_cheapest_88 rfl ?_
    refine aw_sub (lo' := [(0, .ref 4), (1, .int a1), (2, .int a2), (3, .int a3), (4, .int v6_32), (5, .int s0_68), (6, .int (v6_32 + (1 : Int32)))]) [4, 5, 6, 7, 1, 2, 0] rfl ?_
    exact hkr32 _ _ _ _
def lp_Fp_cheapest_32 (kx32_91 : Int32 → Int32 → Int32 → Dm → Option (Int32 × Dm)) (a1 : Int32) (a2 : Int32) (a3 : Int32) : Nat → Int32 → Int32 → Int32 → Dm → Option (Int32 × Dm)
  | 0, _, _, _, _ => none
  | f + 1, v4_32, v5_32, v6_32, δ32 => (if (gI δ32 4 3) ≤ v6_32 then (kx32_91 v4_32 v5_32 v6_32 δ32) else ((f_Fp_lawAt v6_32 δ32).bind (fun o44 => ocs o44 (jp_Fp_cheapest_68 (lp_Fp_cheapest_32 kx32_91 a1 a2 a3 f) kx32_91 a1 a2 a3 v4_32 v5_32 v6_32 v5_32 δ32) (fun t44 => if isL t44 = true then ((f_Fp_rentBy t44 a1 a2 a3 δ32).bind (fun y65 => bnd y65.1 (fun v65 => bnd y65.2 (fun δ_65 => (jp_Fp_cheapest_68 (lp_Fp_cheapest_32 kx32_91 a1 a2 a3 f) kx32_91 a1 a2 a3 v4_32 v5_32 v6_32 v65 δ_65))))) else none))))
set_option maxHeartbeats 4000000 in
set_option maxRecDepth 100000 in
theorem tl_Fp_cheapest_32 {n : Nat} (kx32_91 : Int32 → Int32 → Int32 → Dm → Option (Int32 × Dm)) (a1 : Int32) (a2 : Int32) (a3 : Int32) (hkx32_91 : ∀ v4_32k v5_32k v6_32k δ32k, AWo k_Fp_cheapest 5 0 0 91 [(0, .ref 4), (1, .int a1), (2, .int a2), (3, .int a3), (4, .int v4_32k), (5, .int v5_32k), (6, .int v6_32k)] [] δ32k RT n 0 0 (Km RT n) (kx32_91 v4_32k v5_32k v6_32k δ32k)) : ∀ (f : Nat) (v4_32 : Int32) (v5_32 : Int32) (v6_32 : Int32) (δ32 : Dm), AWo k_Fp_cheapest 5 0 0 32 [(0, .ref 4), (1, .int a1), (2, .int a2), (3, .int a3), (4, .int v4_32), (5, .int v5_32), (6, .int v6_32)] [] δ32 RT n 0 0 (Km RT n) (lp_Fp_cheapest_32 kx32_91 a1 a2 a3 f v4_32 v5_32 v6_32 δ32) := by
  intro f
  induction f with
  | zero => intro _ _ _ _; exact aw_none
  | succ f ih =>
    intro v4_32 v5_32 v6_32 δ32
    rw [lp_Fp_cheapest_32]
    refine aw_iload d_Fp_cheapest_32 6 rfl ?_
    refine aw_aload_n d_Fp_cheapest_34 0 rfl ?_
    refine aw_getI fl_Fp_109 kd_4 d_Fp_cheapest_35 ?_
    refine aw_icmp_ge (tgt := 91) d_Fp_cheapest_38 rfl (fun q38 => ?_) (fun q38 => ?_)
    · refine aw_sub (lo' := [(0, .ref 4), (1, .int a1), (2, .int a2), (3, .int a3), (4, .int v4_32), (5, .int v5_32), (6, .int v6_32)]) [0, 1, 2, 3, 4, 5, 6] rfl ?_
      exact hkx32_91 _ _ _ _
    · refine aw_aload_n d_Fp_cheapest_41 0 rfl ?_
      refine aw_iload d_Fp_cheapest_42 6 rfl ?_
      refine aw_V_r (As := [.int v6_32]) (m_Fp_lawAt) cv_Fp_126 kd_4 rfl rfl rfl (Nat.le_of_ble_eq_true rfl) ⟨Nat.le_of_ble_eq_true rfl, Nat.le_of_ble_eq_true rfl⟩ ⟨Nat.le_refl _, Nat.le_refl _⟩ d_Fp_cheapest_44 ?_ (fun t44 => ?_)
      · refine aw_astoreN (lo' := [(7, .null), (0, .ref 4), (1, .int a1), (2, .int a2), (3, .int a3), (4, .int v4_32), (5, .int v5_32), (6, .int v6_32)]) d_Fp_cheapest_47 (by decide) rfl ?_
        refine aw_aloadN d_Fp_cheapest_49 0 rfl ?_
        refine aw_ifnonnullN d_Fp_cheapest_51 ?_
        refine aw_iload d_Fp_cheapest_54 6 rfl ?_
        refine aw_goto (tgt := 68) d_Fp_cheapest_56 rfl ?_
        refine aw_sub (lo' := [(0, .ref 4), (1, .int a1), (2, .int a2), (3, .int a3), (4, .int v4_32), (5, .int v5_32), (6, .int v6_32)]) [1, 2, 3, 4, 5, 6, 7] rfl ?_
        exact tj_Fp_cheapest_68 _ _ _ _ _ _ _ _ _ _ ih hkx32_91
      · refine aw_grd (fun ht44 => ?_)
        refine aw_astore (lo' := [(7, .ref t44), (0, .ref 4), (1, .int a1), (2, .int a2), (3, .int a3), (4, .int v4_32), (5, .int v5_32), (6, .int v6_32)]) d_Fp_cheapest_47 (by decide) rfl ?_
        refine aw_aload d_Fp_cheapest_49 0 rfl ?_
        refine aw_ifnonnull (tgt := 59) d_Fp_cheapest_51 rfl ?_
        refine aw_aload_n d_Fp_cheapest_59 1 rfl ?_
        refine aw_aload d_Fp_cheapest_60 0 rfl ?_
        refine aw_iload_n d_Fp_cheapest_62 2 rfl ?_
        refine aw_iload_n d_Fp_cheapest_63 3 rfl ?_
        refine aw_iload_n d_Fp_cheapest_64 4 rfl ?_
        refine aw_V_m (As := [.ref t44, .int a1, .int a2, .int a3]) (m_Fp_rentBy ht44) cv_Fp_313 kd_4 rfl rfl rfl (Nat.le_of_ble_eq_true rfl) ⟨Nat.le_of_ble_eq_true rfl, Nat.le_of_ble_eq_true rfl⟩ ⟨Nat.le_refl _, Nat.le_refl _⟩ d_Fp_cheapest_65 (fun y65 => ?_)
        refine aw_bI (fun v65 => ?_)
        refine aw_bD (fun δ_65 => ?_)
        refine aw_sub (lo' := [(0, .ref 4), (1, .int a1), (2, .int a2), (3, .int a3), (4, .int v4_32), (5, .int v5_32), (6, .int v6_32)]) [1, 2, 3, 4, 5, 6, 7] rfl ?_
        exact tj_Fp_cheapest_68 _ _ _ _ _ _ _ _ _ _ ih hkx32_91
def f_Fp_cheapest (a1 : Int32) (a2 : Int32) (a3 : Int32) (δ : Dm) : Option (Int32 × Dm) := ((f_To_boothAt a1 δ).bind (fun o5 => ocs o5 (some ((-1 : Int32), δ)) (fun t5 => if isB t5 = true then ((f_Fp_isSpan a2 a3 δ).bind (fun y13 => (if y13 = 0 then (some ((-1 : Int32), δ)) else (lp_Fp_cheapest_32 (fun v4_32x v5_32x v6_32x δ32x => (some (v4_32x, δ32x))) a1 a2 a3 FU (-1 : Int32) (100000000 : Int32) (0 : Int32) δ)))) else none)))
set_option maxHeartbeats 4000000 in
set_option maxRecDepth 100000 in
theorem m_Fp_cheapest {a1 : Int32} {a2 : Int32} {a3 : Int32} {δ : Dm} {n : Nat} : ∀ x, f_Fp_cheapest a1 a2 a3 δ = some x → AMet k_Fp_cheapest 5 0 0 [.ref 4, .int a1, .int a2, .int a3] δ RT n (Km RT n x) := by
  refine aw_start (lo := [(0, .ref 4), (1, .int a1), (2, .int a2), (3, .int a3)]) mok_Fp_cheapest rfl (Nat.le_of_ble_eq_true rfl) ?_
  unfold f_Fp_cheapest
  refine aw_aload_n d_Fp_cheapest_0 0 rfl ?_
  refine aw_getR (t := 29) fl_Fp_57 kd_4 rt_4_9 d_Fp_cheapest_1 ?_
  refine aw_iload_n d_Fp_cheapest_4 1 rfl ?_
  refine aw_V_r (As := [.int a1]) (m_To_boothAt) cv_Fp_139 kd_29 rfl rfl rfl (Nat.le_of_ble_eq_true rfl) ⟨Nat.le_of_ble_eq_true rfl, Nat.le_of_ble_eq_true rfl⟩ ⟨Nat.le_refl _, Nat.le_refl _⟩ d_Fp_cheapest_5 ?_ (fun t5 => ?_)
  · refine aw_ifnullN (tgt := 19) d_Fp_cheapest_8 rfl ?_
    refine aw_iconst d_Fp_cheapest_19 ki_m1 ?_
    exact aw_iret rfl rfl ⟨Nat.le_refl _, Nat.le_refl _⟩ d_Fp_cheapest_20
  · refine aw_grd (fun ht5 => ?_)
    refine aw_ifnull d_Fp_cheapest_8 ?_
    refine aw_iload_n d_Fp_cheapest_11 2 rfl ?_
    refine aw_iload_n d_Fp_cheapest_12 3 rfl ?_
    refine aw_S_p (As := [.int a2, .int a3]) (m_Fp_isSpan) cs_Fp_310 rfl rfl (Nat.le_of_ble_eq_true rfl) ⟨Nat.le_of_ble_eq_true rfl, Nat.le_of_ble_eq_true rfl⟩ ⟨Nat.le_refl _, Nat.le_refl _⟩ d_Fp_cheapest_13 (fun y13 => ?_)
    refine aw_if_ne (tgt := 21) d_Fp_cheapest_16 rfl (fun q16 => ?_) (fun q16 => ?_)
    · refine aw_iconst d_Fp_cheapest_19 ki_m1 ?_
      exact aw_iret rfl rfl ⟨Nat.le_refl _, Nat.le_refl _⟩ d_Fp_cheapest_20
    · refine aw_iconst d_Fp_cheapest_21 ki_m1 ?_
      refine aw_istore (lo' := [(4, .int (-1 : Int32)), (0, .ref 4), (1, .int a1), (2, .int a2), (3, .int a3)]) d_Fp_cheapest_22 (by decide) rfl ?_
      refine aw_ldcw (v := (100000000 : Int32)) d_Fp_cheapest_24 kc_Fp_317 ?_
      refine aw_istore (lo' := [(5, .int (100000000 : Int32)), (4, .int (-1 : Int32)), (0, .ref 4), (1, .int a1), (2, .int a2), (3, .int a3)]) d_Fp_cheapest_27 (by decide) rfl ?_
      refine aw_iconst d_Fp_cheapest_29 ki_0 ?_
      refine aw_istore (lo' := [(6, .int (0 : Int32)), (5, .int (100000000 : Int32)), (4, .int (-1 : Int32)), (0, .ref 4), (1, .int a1), (2, .int a2), (3, .int a3)]) d_Fp_cheapest_30 (by decide) rfl ?_
      refine aw_sub (lo' := [(0, .ref 4), (1, .int a1), (2, .int a2), (3, .int a3), (4, .int (-1 : Int32)), (5, .int (100000000 : Int32)), (6, .int (0 : Int32))]) [3, 4, 5, 6, 2, 1, 0] rfl ?_
      refine tl_Fp_cheapest_32 _ _ _ _ (fun v4_32x v5_32x v6_32x δ32x => ?_) FU _ _ _ _
      · refine aw_iload d_Fp_cheapest_91 4 rfl ?_
        exact aw_iret rfl rfl ⟨Nat.le_refl _, Nat.le_refl _⟩ d_Fp_cheapest_93
def f_To_spotOf (a1 : Int32) (δ : Dm) : Option Int32 := ((f_To_slot 29 a1 δ).bind (fun o2 => ocs o2 (some (0 : Int32)) (fun t2 => if isB t2 = true then (some (gI δ t2 0)) else none)))
set_option maxHeartbeats 4000000 in
set_option maxRecDepth 100000 in
theorem m_To_spotOf {a1 : Int32} {δ : Dm} {n : Nat} : ∀ x, f_To_spotOf a1 δ = some x → AMet k_To_spotOf 2 0 0 [.ref 29, .int a1] δ RT n (Kp δ RT n x) := by
  refine aw_start (lo := [(0, .ref 29), (1, .int a1)]) mok_To_spotOf rfl (Nat.le_of_ble_eq_true rfl) ?_
  unfold f_To_spotOf
  refine aw_aload_n d_To_spotOf_0 0 rfl ?_
  refine aw_iload_n d_To_spotOf_1 1 rfl ?_
  refine aw_V_r (As := [.int a1]) (m_To_slot (by decide)) cv_To_69 kd_29 rfl rfl rfl (Nat.le_of_ble_eq_true rfl) ⟨Nat.le_of_ble_eq_true rfl, Nat.le_of_ble_eq_true rfl⟩ ⟨Nat.le_refl _, Nat.le_refl _⟩ d_To_spotOf_2 ?_ (fun t2 => ?_)
  · refine aw_astoreN_n (lo' := [(2, .null), (0, .ref 29), (1, .int a1)]) d_To_spotOf_5 rfl (by decide) rfl ?_
    refine aw_aloadN_n d_To_spotOf_6 0 rfl ?_
    refine aw_ifnonnullN d_To_spotOf_7 ?_
    refine aw_iconst d_To_spotOf_10 ki_0 ?_
    refine aw_goto (tgt := 18) d_To_spotOf_11 rfl ?_
    exact aw_iret rfl rfl ⟨Nat.le_refl _, Nat.le_refl _⟩ d_To_spotOf_18
  · refine aw_grd (fun ht2 => ?_)
    refine aw_astore_n (lo' := [(2, .ref t2), (0, .ref 29), (1, .int a1)]) d_To_spotOf_5 rfl (by decide) rfl ?_
    refine aw_aload_n d_To_spotOf_6 0 rfl ?_
    refine aw_ifnonnull (tgt := 14) d_To_spotOf_7 rfl ?_
    refine aw_aload_n d_To_spotOf_14 0 rfl ?_
    refine aw_getI fl_To_76 (fx_isBK ht2 0 (by decide)) d_To_spotOf_15 ?_
    exact aw_iret rfl rfl ⟨Nat.le_refl _, Nat.le_refl _⟩ d_To_spotOf_18
def f_Ro_milesBy (a2 : Int32) (a3 : Int32) (a4 : Int32) (δ : Dm) : Option Int32 := (bnd (a3 &&& (((1 : Int32) <<< (a4 &&& 31)) ^^^ (-1 : Int32))) (fun v8 => ((f_To_spotOf a4 δ).bind (fun y15 => ((f_To_between a2 y15 δ).bind (fun y18 => ((f_Fp_get 26 ((v8 * (8 : Int32)) + a4) δ).bind (fun y33 => (some (y18 + y33))))))))))
set_option maxHeartbeats 4000000 in
set_option maxRecDepth 100000 in
theorem m_Ro_milesBy {a2 : Int32} {a3 : Int32} {a4 : Int32} {δ : Dm} {n : Nat} : ∀ x, f_Ro_milesBy a2 a3 a4 δ = some x → AMet k_Ro_milesBy 3 0 0 [.ref 25, .ref 29, .int a2, .int a3, .int a4] δ RT n (Kp δ RT n x) := by
  refine aw_start (lo := [(0, .ref 25), (1, .ref 29), (2, .int a2), (3, .int a3), (4, .int a4)]) mok_Ro_milesBy rfl (Nat.le_of_ble_eq_true rfl) ?_
  unfold f_Ro_milesBy
  refine aw_iload_n d_Ro_milesBy_0 3 rfl ?_
  refine aw_iconst d_Ro_milesBy_1 ki_1 ?_
  refine aw_iload d_Ro_milesBy_2 4 rfl ?_
  refine aw_ishl d_Ro_milesBy_4 ?_
  refine aw_iconst d_Ro_milesBy_5 ki_m1 ?_
  refine aw_ixor d_Ro_milesBy_6 ?_
  refine aw_iand d_Ro_milesBy_7 ?_
  refine aw_bI (fun v8 => ?_)
  refine aw_istore (lo' := [(5, .int v8), (0, .ref 25), (1, .ref 29), (2, .int a2), (3, .int a3), (4, .int a4)]) d_Ro_milesBy_8 (by decide) rfl ?_
  refine aw_aload_n d_Ro_milesBy_10 2 rfl ?_
  refine aw_iload_n d_Ro_milesBy_11 3 rfl ?_
  refine aw_aload_n d_Ro_milesBy_12 2 rfl ?_
  refine aw_iload d_Ro_milesBy_13 5 rfl ?_
  refine aw_V_p (As := [.int a4]) (m_To_spotOf) cv_Ro_21 kd_29 rfl rfl rfl (Nat.le_of_ble_eq_true rfl) ⟨Nat.le_of_ble_eq_true rfl, Nat.le_of_ble_eq_true rfl⟩ ⟨Nat.le_refl _, Nat.le_refl _⟩ d_Ro_milesBy_15 (fun y15 => ?_)
  refine aw_V_p (As := [.int a2, .int y15]) (m_To_between) cv_Ro_25 kd_29 rfl rfl rfl (Nat.le_of_ble_eq_true rfl) ⟨Nat.le_of_ble_eq_true rfl, Nat.le_of_ble_eq_true rfl⟩ ⟨Nat.le_refl _, Nat.le_refl _⟩ d_Ro_milesBy_18 (fun y18 => ?_)
  refine aw_aload_n d_Ro_milesBy_21 1 rfl ?_
  refine aw_getR (t := 26) fl_Ro_9 kd_25 rt_25_0 d_Ro_milesBy_22 ?_
  refine aw_iload d_Ro_milesBy_25 0 rfl ?_
  refine aw_bipush d_Ro_milesBy_27 kb_8 ?_
  refine aw_imul d_Ro_milesBy_29 ?_
  refine aw_iload d_Ro_milesBy_30 5 rfl ?_
  refine aw_iadd d_Ro_milesBy_32 ?_
  refine aw_SN_p (As := [.ref 26, .int ((v8 * (8 : Int32)) + a4)]) (m_Fp_get (congrArg Prod.fst kd_26)) cs_Ro_47 rfl rfl (Nat.le_of_ble_eq_true rfl) ⟨Nat.le_of_ble_eq_true rfl, Nat.le_of_ble_eq_true rfl⟩ ⟨Nat.le_refl _, Nat.le_refl _⟩ d_Ro_milesBy_33 (fun y33 => ?_)
  refine aw_iadd d_Ro_milesBy_36 ?_
  exact aw_iret rfl rfl ⟨Nat.le_refl _, Nat.le_refl _⟩ d_Ro_milesBy_37
def lp_Ro_leastFrom_15 (kx15_56 : Int32 → Int32 → Option Int32) (a2 : Int32) (a3 : Int32) (δ : Dm) : Nat → Int32 → Int32 → Option Int32
  | 0, _, _ => none
  | f + 1, v4_15, v5_15 => (if (gI δ 29 2) ≤ v5_15 then (kx15_56 v4_15 v5_15) else (if ((a3 >>> (v5_15 &&& 31)) &&& (1 : Int32)) = (1 : Int32) then ((f_Ro_milesBy a2 a3 v5_15 δ).bind (fun y42 => (bnd (if y42 < v4_15 then y42 else v4_15) (fun v48 => (lp_Ro_leastFrom_15 kx15_56 a2 a3 δ f v48 (v5_15 + (1 : Int32))))))) else (lp_Ro_leastFrom_15 kx15_56 a2 a3 δ f v4_15 (v5_15 + (1 : Int32)))))
set_option maxHeartbeats 4000000 in
set_option maxRecDepth 100000 in
theorem tl_Ro_leastFrom_15 {n : Nat} (kx15_56 : Int32 → Int32 → Option Int32) (a2 : Int32) (a3 : Int32) (δ : Dm) (hkx15_56 : ∀ v4_15k v5_15k, AWo k_Ro_leastFrom 4 0 0 56 [(0, .ref 25), (1, .ref 29), (2, .int a2), (3, .int a3), (4, .int v4_15k), (5, .int v5_15k)] [] δ RT n 0 0 (Kp δ RT n) (kx15_56 v4_15k v5_15k)) : ∀ (f : Nat) (v4_15 : Int32) (v5_15 : Int32), AWo k_Ro_leastFrom 4 0 0 15 [(0, .ref 25), (1, .ref 29), (2, .int a2), (3, .int a3), (4, .int v4_15), (5, .int v5_15)] [] δ RT n 0 0 (Kp δ RT n) (lp_Ro_leastFrom_15 kx15_56 a2 a3 δ f v4_15 v5_15) := by
  intro f
  induction f with
  | zero => intro _ _; exact aw_none
  | succ f ih =>
    intro v4_15 v5_15
    rw [lp_Ro_leastFrom_15]
    refine aw_iload d_Ro_leastFrom_15 5 rfl ?_
    refine aw_aload_n d_Ro_leastFrom_17 1 rfl ?_
    refine aw_getI fl_Ro_15 kd_29 d_Ro_leastFrom_18 ?_
    refine aw_icmp_ge (tgt := 56) d_Ro_leastFrom_21 rfl (fun q21 => ?_) (fun q21 => ?_)
    · refine aw_sub (lo' := [(0, .ref 25), (1, .ref 29), (2, .int a2), (3, .int a3), (4, .int v4_15), (5, .int v5_15)]) [0, 1, 2, 3, 4, 5] rfl ?_
      exact hkx15_56 _ _
    · refine aw_iload_n d_Ro_leastFrom_24 3 rfl ?_
      refine aw_iload d_Ro_leastFrom_25 5 rfl ?_
      refine aw_ishr d_Ro_leastFrom_27 ?_
      refine aw_iconst d_Ro_leastFrom_28 ki_1 ?_
      refine aw_iand d_Ro_leastFrom_29 ?_
      refine aw_iconst d_Ro_leastFrom_30 ki_1 ?_
      refine aw_icmp_ne (tgt := 50) d_Ro_leastFrom_31 rfl (fun q31 => ?_) (fun q31 => ?_)
      · refine aw_iload d_Ro_leastFrom_34 4 rfl ?_
        refine aw_aload_n d_Ro_leastFrom_36 0 rfl ?_
        refine aw_aload_n d_Ro_leastFrom_37 1 rfl ?_
        refine aw_iload_n d_Ro_leastFrom_38 2 rfl ?_
        refine aw_iload_n d_Ro_leastFrom_39 3 rfl ?_
        refine aw_iload d_Ro_leastFrom_40 5 rfl ?_
        refine aw_V_p (As := [.ref 29, .int a2, .int a3, .int v5_15]) (m_Ro_milesBy) cv_Ro_38 kd_25 rfl rfl rfl (Nat.le_of_ble_eq_true rfl) ⟨Nat.le_of_ble_eq_true rfl, Nat.le_of_ble_eq_true rfl⟩ ⟨Nat.le_refl _, Nat.le_refl _⟩ d_Ro_leastFrom_42 (fun y42 => ?_)
        refine aw_minI ml_Ro_42 ms_minI mi_Ma mx_minI (Nat.le_of_ble_eq_true rfl) (Nat.le_of_ble_eq_true rfl) ⟨Nat.le_refl _, Nat.le_refl _⟩ d_Ro_leastFrom_45 ?_
        refine aw_bI (fun v48 => ?_)
        refine aw_istore (lo' := [(4, .int v48), (0, .ref 25), (1, .ref 29), (2, .int a2), (3, .int a3), (5, .int v5_15)]) d_Ro_leastFrom_48 (by decide) rfl ?_
        refine aw_iinc (v := (v5_15 + (1 : Int32))) (lo' := [(5, .int (v5_15 + (1 : Int32))), (4, .int v48), (0, .ref 25), (1, .ref 29), (2, .int a2), (3, .int a3)]) d_Ro_leastFrom_50 5 rfl (by rw [show Int32.ofInt (1) = (1 : Int32) from by decide]) (by decide) rfl ?_
        refine aw_goto (tgt := 15) d_Ro_leastFrom_53 rfl ?_
        refine aw_sub (lo' := [(0, .ref 25), (1, .ref 29), (2, .int a2), (3, .int a3), (4, .int v48), (5, .int (v5_15 + (1 : Int32)))]) [2, 3, 4, 5, 1, 0] rfl ?_
        exact ih _ _
      · refine aw_iinc (v := (v5_15 + (1 : Int32))) (lo' := [(5, .int (v5_15 + (1 : Int32))), (0, .ref 25), (1, .ref 29), (2, .int a2), (3, .int a3), (4, .int v4_15)]) d_Ro_leastFrom_50 5 rfl (by rw [show Int32.ofInt (1) = (1 : Int32) from by decide]) (by decide) rfl ?_
        refine aw_goto (tgt := 15) d_Ro_leastFrom_53 rfl ?_
        refine aw_sub (lo' := [(0, .ref 25), (1, .ref 29), (2, .int a2), (3, .int a3), (4, .int v4_15), (5, .int (v5_15 + (1 : Int32)))]) [1, 2, 3, 4, 5, 0] rfl ?_
        exact ih _ _
def jp_Ro_leastFrom_10 (a2 : Int32) (a3 : Int32) (δ : Dm) (s0_10 : Int32) : Option Int32 := (lp_Ro_leastFrom_15 (fun v4_15x v5_15x => (some v4_15x)) a2 a3 δ FU s0_10 (0 : Int32))
set_option maxHeartbeats 4000000 in
set_option maxRecDepth 100000 in
theorem tj_Ro_leastFrom_10 {n : Nat} (a2 : Int32) (a3 : Int32) (δ : Dm) (s0_10 : Int32) : AWo k_Ro_leastFrom 4 0 0 10 [(0, .ref 25), (1, .ref 29), (2, .int a2), (3, .int a3)] [.int s0_10] δ RT n 0 0 (Kp δ RT n) (jp_Ro_leastFrom_10 a2 a3 δ s0_10) := by
  unfold jp_Ro_leastFrom_10
  refine aw_istore (lo' := [(4, .int s0_10), (0, .ref 25), (1, .ref 29), (2, .int a2), (3, .int a3)]) d_Ro_leastFrom_10 (by decide) rfl ?_
  refine aw_iconst d_Ro_leastFrom_12 ki_0 ?_
  refine aw_istore (lo' := [(5, .int (0 : Int32)), (4, .int s0_10), (0, .ref 25), (1, .ref 29), (2, .int a2), (3, .int a3)]) d_Ro_leastFrom_13 (by decide) rfl ?_
  refine aw_sub (lo' := [(0, .ref 25), (1, .ref 29), (2, .int a2), (3, .int a3), (4, .int s0_10), (5, .int (0 : Int32))]) [2, 3, 4, 5, 1, 0] rfl ?_
  refine tl_Ro_leastFrom_15 _ _ _ _ (fun v4_15x v5_15x => ?_) FU _ _
  · refine aw_iload d_Ro_leastFrom_56 4 rfl ?_
    exact aw_iret rfl rfl ⟨Nat.le_refl _, Nat.le_refl _⟩ d_Ro_leastFrom_58
def f_Ro_leastFrom (a2 : Int32) (a3 : Int32) (δ : Dm) : Option Int32 := (if a3 = 0 then (jp_Ro_leastFrom_10 a2 a3 δ (0 : Int32)) else (jp_Ro_leastFrom_10 a2 a3 δ (1000000 : Int32)))
set_option maxHeartbeats 4000000 in
set_option maxRecDepth 100000 in
theorem m_Ro_leastFrom {a2 : Int32} {a3 : Int32} {δ : Dm} {n : Nat} : ∀ x, f_Ro_leastFrom a2 a3 δ = some x → AMet k_Ro_leastFrom 4 0 0 [.ref 25, .ref 29, .int a2, .int a3] δ RT n (Kp δ RT n x) := by
  refine aw_start (lo := [(0, .ref 25), (1, .ref 29), (2, .int a2), (3, .int a3)]) mok_Ro_leastFrom rfl (Nat.le_of_ble_eq_true rfl) ?_
  unfold f_Ro_leastFrom
  refine aw_iload_n d_Ro_leastFrom_0 3 rfl ?_
  refine aw_if_ne (tgt := 8) d_Ro_leastFrom_1 rfl (fun q1 => ?_) (fun q1 => ?_)
  · refine aw_iconst d_Ro_leastFrom_4 ki_0 ?_
    refine aw_goto (tgt := 10) d_Ro_leastFrom_5 rfl ?_
    refine aw_sub (lo' := [(0, .ref 25), (1, .ref 29), (2, .int a2), (3, .int a3)]) [0, 1, 2, 3] rfl ?_
    exact tj_Ro_leastFrom_10 _ _ _ _
  · refine aw_ldc (v := (1000000 : Int32)) d_Ro_leastFrom_8 kc_Ro_37 ?_
    refine aw_sub (lo' := [(0, .ref 25), (1, .ref 29), (2, .int a2), (3, .int a3)]) [0, 1, 2, 3] rfl ?_
    exact tj_Ro_leastFrom_10 _ _ _ _
def jp_Ro_plan_54 (kr15 : Int32 → Dm → Option Dm) (kx15_78 : Int32 → Dm → Option Dm) (a2 : Int32) (v3_2 : Int32) (v4_15 : Int32) (y27 : Int32) (δ15 : Dm) (s0_54 : Int32) : Option Dm := ((f_Fp_put 26 ((v3_2 * (8 : Int32)) + v4_15) s0_54 δ15).bind (fun y69 => (kr15 (v4_15 + (1 : Int32)) y69)))
set_option maxHeartbeats 4000000 in
set_option maxRecDepth 100000 in
theorem tj_Ro_plan_54 {n : Nat} (kr15 : Int32 → Dm → Option Dm) (kx15_78 : Int32 → Dm → Option Dm) (a2 : Int32) (v3_2 : Int32) (v4_15 : Int32) (y27 : Int32) (δ15 : Dm) (s0_54 : Int32) (hkr15 : ∀ v4_15k δ15k, AWo k_Ro_plan 5 0 0 15 [(0, .ref 25), (1, .ref 29), (2, .int a2), (3, .int v3_2), (4, .int v4_15k)] [] δ15k RT n 0 0 (Kv RT n) (kr15 v4_15k δ15k)) (hkx15_78 : ∀ v4_15k δ15k, AWo k_Ro_plan 5 0 0 78 [(0, .ref 25), (1, .ref 29), (2, .int a2), (3, .int v3_2), (4, .int v4_15k)] [] δ15k RT n 0 0 (Kv RT n) (kx15_78 v4_15k δ15k)) : AWo k_Ro_plan 5 0 0 54 [(0, .ref 25), (1, .ref 29), (2, .int a2), (3, .int v3_2), (4, .int v4_15), (5, .int y27)] [.int s0_54] δ15 RT n 0 0 (Kv RT n) (jp_Ro_plan_54 kr15 kx15_78 a2 v3_2 v4_15 y27 δ15 s0_54) := by
  unfold jp_Ro_plan_54
  refine aw_istore (lo' := [(6, .int s0_54), (0, .ref 25), (1, .ref 29), (2, .int a2), (3, .int v3_2), (4, .int v4_15), (5, .int y27)]) d_Ro_plan_54 (by decide) rfl ?_
  refine aw_aload_n d_Ro_plan_56 1 rfl ?_
  refine aw_getR (t := 26) fl_Ro_9 kd_25 rt_25_0 d_Ro_plan_57 ?_
  refine aw_iload_n d_Ro_plan_60 4 rfl ?_
  refine aw_bipush d_Ro_plan_61 kb_8 ?_
  refine aw_imul d_Ro_plan_63 ?_
  refine aw_iload d_Ro_plan_64 5 rfl ?_
  refine aw_iadd d_Ro_plan_66 ?_
  refine aw_iload d_Ro_plan_67 0 rfl ?_
  refine aw_SN_v (As := [.ref 26, .int ((v3_2 * (8 : Int32)) + v4_15), .int s0_54]) (m_Fp_put (congrArg Prod.fst kd_26)) cs_Ro_33 rfl rfl (Nat.le_of_ble_eq_true rfl) ⟨Nat.le_of_ble_eq_true rfl, Nat.le_of_ble_eq_true rfl⟩ ⟨Nat.le_refl _, Nat.le_refl _⟩ d_Ro_plan_69 (fun y69 => ?_)
  refine aw_iinc (v := (v4_15 + (1 : Int32))) (lo' := [(4, .int (v4_15 + (1 : Int32))), (6, .int s0_54), (0, .ref 25), (1, .ref 29), (2, .int a2), (3, .int v3_2), (5, .int y27)]) d_Ro_plan_72 5 rfl (by rw [show Int32.ofInt (1) = (1 : Int32) from by decide]) (by decide) rfl ?_
  refine aw_goto (tgt := 15) d_Ro_plan_75 rfl ?_
  refine aw_sub (lo' := [(0, .ref 25), (1, .ref 29), (2, .int a2), (3, .int v3_2), (4, .int (v4_15 + (1 : Int32)))]) [2, 3, 4, 5, 0] rfl ?_
  exact hkr15 _ _
def lp_Ro_plan_15 (kx15_78 : Int32 → Dm → Option Dm) (a2 : Int32) (v3_2 : Int32) : Nat → Int32 → Dm → Option Dm
  | 0, _, _ => none
  | f + 1, v4_15, δ15 => (if (gI δ15 29 2) ≤ v4_15 then (kx15_78 v4_15 δ15) else ((f_To_spotOf v4_15 δ15).bind (fun y27 => (if v3_2 = 0 then ((f_To_between y27 a2 δ15).bind (fun y40 => (jp_Ro_plan_54 (lp_Ro_plan_15 kx15_78 a2 v3_2 f) kx15_78 a2 v3_2 v4_15 y27 δ15 y40))) else ((f_Ro_leastFrom y27 v3_2 δ15).bind (fun y51 => (jp_Ro_plan_54 (lp_Ro_plan_15 kx15_78 a2 v3_2 f) kx15_78 a2 v3_2 v4_15 y27 δ15 y51)))))))
set_option maxHeartbeats 4000000 in
set_option maxRecDepth 100000 in
theorem tl_Ro_plan_15 {n : Nat} (kx15_78 : Int32 → Dm → Option Dm) (a2 : Int32) (v3_2 : Int32) (hkx15_78 : ∀ v4_15k δ15k, AWo k_Ro_plan 5 0 0 78 [(0, .ref 25), (1, .ref 29), (2, .int a2), (3, .int v3_2), (4, .int v4_15k)] [] δ15k RT n 0 0 (Kv RT n) (kx15_78 v4_15k δ15k)) : ∀ (f : Nat) (v4_15 : Int32) (δ15 : Dm), AWo k_Ro_plan 5 0 0 15 [(0, .ref 25), (1, .ref 29), (2, .int a2), (3, .int v3_2), (4, .int v4_15)] [] δ15 RT n 0 0 (Kv RT n) (lp_Ro_plan_15 kx15_78 a2 v3_2 f v4_15 δ15) := by
  intro f
  induction f with
  | zero => intro _ _; exact aw_none
  | succ f ih =>
    intro v4_15 δ15
    rw [lp_Ro_plan_15]
    refine aw_iload d_Ro_plan_15 4 rfl ?_
    refine aw_aload_n d_Ro_plan_17 1 rfl ?_
    refine aw_getI fl_Ro_15 kd_29 d_Ro_plan_18 ?_
    refine aw_icmp_ge (tgt := 78) d_Ro_plan_21 rfl (fun q21 => ?_) (fun q21 => ?_)
    · refine aw_sub (lo' := [(0, .ref 25), (1, .ref 29), (2, .int a2), (3, .int v3_2), (4, .int v4_15)]) [0, 1, 2, 3, 4] rfl ?_
      exact hkx15_78 _ _
    · refine aw_aload_n d_Ro_plan_24 1 rfl ?_
      refine aw_iload d_Ro_plan_25 4 rfl ?_
      refine aw_V_p (As := [.int v4_15]) (m_To_spotOf) cv_Ro_21 kd_29 rfl rfl rfl (Nat.le_of_ble_eq_true rfl) ⟨Nat.le_of_ble_eq_true rfl, Nat.le_of_ble_eq_true rfl⟩ ⟨Nat.le_refl _, Nat.le_refl _⟩ d_Ro_plan_27 (fun y27 => ?_)
      refine aw_istore (lo' := [(5, .int y27), (0, .ref 25), (1, .ref 29), (2, .int a2), (3, .int v3_2), (4, .int v4_15)]) d_Ro_plan_30 (by decide) rfl ?_
      refine aw_iload_n d_Ro_plan_32 4 rfl ?_
      refine aw_if_ne (tgt := 46) d_Ro_plan_33 rfl (fun q33 => ?_) (fun q33 => ?_)
      · refine aw_aload_n d_Ro_plan_36 2 rfl ?_
        refine aw_iload d_Ro_plan_37 0 rfl ?_
        refine aw_iload_n d_Ro_plan_39 3 rfl ?_
        refine aw_V_p (As := [.int y27, .int a2]) (m_To_between) cv_Ro_25 kd_29 rfl rfl rfl (Nat.le_of_ble_eq_true rfl) ⟨Nat.le_of_ble_eq_true rfl, Nat.le_of_ble_eq_true rfl⟩ ⟨Nat.le_refl _, Nat.le_refl _⟩ d_Ro_plan_40 (fun y40 => ?_)
        refine aw_goto (tgt := 54) d_Ro_plan_43 rfl ?_
        refine aw_sub (lo' := [(0, .ref 25), (1, .ref 29), (2, .int a2), (3, .int v3_2), (4, .int v4_15), (5, .int y27)]) [1, 2, 3, 4, 5, 0] rfl ?_
        exact tj_Ro_plan_54 _ _ _ _ _ _ _ _ ih hkx15_78
      · refine aw_aload_n d_Ro_plan_46 1 rfl ?_
        refine aw_aload_n d_Ro_plan_47 2 rfl ?_
        refine aw_iload d_Ro_plan_48 0 rfl ?_
        refine aw_iload_n d_Ro_plan_50 4 rfl ?_
        refine aw_V_p (As := [.ref 29, .int y27, .int v3_2]) (m_Ro_leastFrom) cv_Ro_29 kd_25 rfl rfl rfl (Nat.le_of_ble_eq_true rfl) ⟨Nat.le_of_ble_eq_true rfl, Nat.le_of_ble_eq_true rfl⟩ ⟨Nat.le_refl _, Nat.le_refl _⟩ d_Ro_plan_51 (fun y51 => ?_)
        refine aw_sub (lo' := [(0, .ref 25), (1, .ref 29), (2, .int a2), (3, .int v3_2), (4, .int v4_15), (5, .int y27)]) [1, 2, 3, 4, 5, 0] rfl ?_
        exact tj_Ro_plan_54 _ _ _ _ _ _ _ _ ih hkx15_78
def lp_Ro_plan_2 (kx2_84 : Int32 → Dm → Option Dm) (a2 : Int32) : Nat → Int32 → Dm → Option Dm
  | 0, _, _ => none
  | f + 1, v3_2, δ2 => (if ((1 : Int32) <<< ((gI δ2 29 2) &&& 31)) ≤ v3_2 then (kx2_84 v3_2 δ2) else (lp_Ro_plan_15 (fun v4_15x δ15x => (lp_Ro_plan_2 kx2_84 a2 f (v3_2 + (1 : Int32)) δ15x)) a2 v3_2 FU (0 : Int32) δ2))
set_option maxHeartbeats 4000000 in
set_option maxRecDepth 100000 in
theorem tl_Ro_plan_2 {n : Nat} (kx2_84 : Int32 → Dm → Option Dm) (a2 : Int32) (hkx2_84 : ∀ v3_2k δ2k, AWo k_Ro_plan 5 0 0 84 [(0, .ref 25), (1, .ref 29), (2, .int a2), (3, .int v3_2k)] [] δ2k RT n 0 0 (Kv RT n) (kx2_84 v3_2k δ2k)) : ∀ (f : Nat) (v3_2 : Int32) (δ2 : Dm), AWo k_Ro_plan 5 0 0 2 [(0, .ref 25), (1, .ref 29), (2, .int a2), (3, .int v3_2)] [] δ2 RT n 0 0 (Kv RT n) (lp_Ro_plan_2 kx2_84 a2 f v3_2 δ2) := by
  intro f
  induction f with
  | zero => intro _ _; exact aw_none
  | succ f ih =>
    intro v3_2 δ2
    rw [lp_Ro_plan_2]
    refine aw_iload_n d_Ro_plan_2 3 rfl ?_
    refine aw_iconst d_Ro_plan_3 ki_1 ?_
    refine aw_aload_n d_Ro_plan_4 1 rfl ?_
    refine aw_getI fl_Ro_15 kd_29 d_Ro_plan_5 ?_
    refine aw_ishl d_Ro_plan_8 ?_
    refine aw_icmp_ge (tgt := 84) d_Ro_plan_9 rfl (fun q9 => ?_) (fun q9 => ?_)
    · refine aw_sub (lo' := [(0, .ref 25), (1, .ref 29), (2, .int a2), (3, .int v3_2)]) [0, 1, 2, 3] rfl ?_
      exact hkx2_84 _ _
    · refine aw_iconst d_Ro_plan_12 ki_0 ?_
      refine aw_istore (lo' := [(4, .int (0 : Int32)), (0, .ref 25), (1, .ref 29), (2, .int a2), (3, .int v3_2)]) d_Ro_plan_13 (by decide) rfl ?_
      refine aw_sub (lo' := [(0, .ref 25), (1, .ref 29), (2, .int a2), (3, .int v3_2), (4, .int (0 : Int32))]) [1, 2, 3, 4, 0] rfl ?_
      refine tl_Ro_plan_15 _ _ _ (fun v4_15x δ15x => ?_) FU _ _
      · refine aw_iinc (v := (v3_2 + (1 : Int32))) (lo' := [(3, .int (v3_2 + (1 : Int32))), (0, .ref 25), (1, .ref 29), (2, .int a2), (4, .int v4_15x)]) d_Ro_plan_78 3 rfl (by rw [show Int32.ofInt (1) = (1 : Int32) from by decide]) (by decide) rfl ?_
        refine aw_goto (tgt := 2) d_Ro_plan_81 rfl ?_
        refine aw_sub (lo' := [(0, .ref 25), (1, .ref 29), (2, .int a2), (3, .int (v3_2 + (1 : Int32)))]) [1, 2, 3, 0] rfl ?_
        exact ih _ _
def f_Ro_plan (a2 : Int32) (δ : Dm) : Option Dm := (lp_Ro_plan_2 (fun v3_2x δ2x => (some δ2x)) a2 FU (0 : Int32) δ)
set_option maxHeartbeats 4000000 in
set_option maxRecDepth 100000 in
theorem m_Ro_plan {a2 : Int32} {δ : Dm} {n : Nat} : ∀ x, f_Ro_plan a2 δ = some x → AMet k_Ro_plan 5 0 0 [.ref 25, .ref 29, .int a2] δ RT n (Kv RT n x) := by
  refine aw_start (lo := [(0, .ref 25), (1, .ref 29), (2, .int a2)]) mok_Ro_plan rfl (Nat.le_of_ble_eq_true rfl) ?_
  unfold f_Ro_plan
  refine aw_iconst d_Ro_plan_0 ki_0 ?_
  refine aw_istore_n (lo' := [(3, .int (0 : Int32)), (0, .ref 25), (1, .ref 29), (2, .int a2)]) d_Ro_plan_1 rfl (by decide) rfl ?_
  refine aw_sub (lo' := [(0, .ref 25), (1, .ref 29), (2, .int a2), (3, .int (0 : Int32))]) [1, 2, 3, 0] rfl ?_
  refine tl_Ro_plan_2 _ _ (fun v3_2x δ2x => ?_) FU _ _
  · exact aw_vret rfl rfl ⟨Nat.le_refl _, Nat.le_refl _⟩ d_Ro_plan_84
def lp_Ro_firstOf_12 (kx12_54 : Int32 → Option Int32) (a2 : Int32) (a3 : Int32) (y4 : Int32) (δ : Dm) : Nat → Int32 → Option Int32
  | 0, _ => none
  | f + 1, v5_12 => (if (gI δ 29 2) ≤ v5_12 then (kx12_54 v5_12) else (if ((a3 >>> (v5_12 &&& 31)) &&& (1 : Int32)) = (1 : Int32) then ((f_Ro_milesBy a2 a3 v5_12 δ).bind (fun y37 => (if y37 = y4 then (some v5_12) else (lp_Ro_firstOf_12 kx12_54 a2 a3 y4 δ f (v5_12 + (1 : Int32)))))) else (lp_Ro_firstOf_12 kx12_54 a2 a3 y4 δ f (v5_12 + (1 : Int32)))))
set_option maxHeartbeats 4000000 in
set_option maxRecDepth 100000 in
theorem tl_Ro_firstOf_12 {n : Nat} (kx12_54 : Int32 → Option Int32) (a2 : Int32) (a3 : Int32) (y4 : Int32) (δ : Dm) (hkx12_54 : ∀ v5_12k, AWo k_Ro_firstOf 5 0 0 54 [(0, .ref 25), (1, .ref 29), (2, .int a2), (3, .int a3), (4, .int y4), (5, .int v5_12k)] [] δ RT n 0 0 (Kp δ RT n) (kx12_54 v5_12k)) : ∀ (f : Nat) (v5_12 : Int32), AWo k_Ro_firstOf 5 0 0 12 [(0, .ref 25), (1, .ref 29), (2, .int a2), (3, .int a3), (4, .int y4), (5, .int v5_12)] [] δ RT n 0 0 (Kp δ RT n) (lp_Ro_firstOf_12 kx12_54 a2 a3 y4 δ f v5_12) := by
  intro f
  induction f with
  | zero => intro _; exact aw_none
  | succ f ih =>
    intro v5_12
    rw [lp_Ro_firstOf_12]
    refine aw_iload d_Ro_firstOf_12 5 rfl ?_
    refine aw_aload_n d_Ro_firstOf_14 1 rfl ?_
    refine aw_getI fl_Ro_15 kd_29 d_Ro_firstOf_15 ?_
    refine aw_icmp_ge (tgt := 54) d_Ro_firstOf_18 rfl (fun q18 => ?_) (fun q18 => ?_)
    · refine aw_sub (lo' := [(0, .ref 25), (1, .ref 29), (2, .int a2), (3, .int a3), (4, .int y4), (5, .int v5_12)]) [0, 1, 2, 3, 4, 5] rfl ?_
      exact hkx12_54 _
    · refine aw_iload_n d_Ro_firstOf_21 3 rfl ?_
      refine aw_iload d_Ro_firstOf_22 5 rfl ?_
      refine aw_ishr d_Ro_firstOf_24 ?_
      refine aw_iconst d_Ro_firstOf_25 ki_1 ?_
      refine aw_iand d_Ro_firstOf_26 ?_
      refine aw_iconst d_Ro_firstOf_27 ki_1 ?_
      refine aw_icmp_ne (tgt := 48) d_Ro_firstOf_28 rfl (fun q28 => ?_) (fun q28 => ?_)
      · refine aw_aload_n d_Ro_firstOf_31 0 rfl ?_
        refine aw_aload_n d_Ro_firstOf_32 1 rfl ?_
        refine aw_iload_n d_Ro_firstOf_33 2 rfl ?_
        refine aw_iload_n d_Ro_firstOf_34 3 rfl ?_
        refine aw_iload d_Ro_firstOf_35 5 rfl ?_
        refine aw_V_p (As := [.ref 29, .int a2, .int a3, .int v5_12]) (m_Ro_milesBy) cv_Ro_38 kd_25 rfl rfl rfl (Nat.le_of_ble_eq_true rfl) ⟨Nat.le_of_ble_eq_true rfl, Nat.le_of_ble_eq_true rfl⟩ ⟨Nat.le_refl _, Nat.le_refl _⟩ d_Ro_firstOf_37 (fun y37 => ?_)
        refine aw_iload d_Ro_firstOf_40 4 rfl ?_
        refine aw_icmp_ne (tgt := 48) d_Ro_firstOf_42 rfl (fun q42 => ?_) (fun q42 => ?_)
        · refine aw_iload d_Ro_firstOf_45 5 rfl ?_
          exact aw_iret rfl rfl ⟨Nat.le_refl _, Nat.le_refl _⟩ d_Ro_firstOf_47
        · refine aw_iinc (v := (v5_12 + (1 : Int32))) (lo' := [(5, .int (v5_12 + (1 : Int32))), (0, .ref 25), (1, .ref 29), (2, .int a2), (3, .int a3), (4, .int y4)]) d_Ro_firstOf_48 5 rfl (by rw [show Int32.ofInt (1) = (1 : Int32) from by decide]) (by decide) rfl ?_
          refine aw_goto (tgt := 12) d_Ro_firstOf_51 rfl ?_
          refine aw_sub (lo' := [(0, .ref 25), (1, .ref 29), (2, .int a2), (3, .int a3), (4, .int y4), (5, .int (v5_12 + (1 : Int32)))]) [1, 2, 3, 4, 5, 0] rfl ?_
          exact ih _
      · refine aw_iinc (v := (v5_12 + (1 : Int32))) (lo' := [(5, .int (v5_12 + (1 : Int32))), (0, .ref 25), (1, .ref 29), (2, .int a2), (3, .int a3), (4, .int y4)]) d_Ro_firstOf_48 5 rfl (by rw [show Int32.ofInt (1) = (1 : Int32) from by decide]) (by decide) rfl ?_
        refine aw_goto (tgt := 12) d_Ro_firstOf_51 rfl ?_
        refine aw_sub (lo' := [(0, .ref 25), (1, .ref 29), (2, .int a2), (3, .int a3), (4, .int y4), (5, .int (v5_12 + (1 : Int32)))]) [1, 2, 3, 4, 5, 0] rfl ?_
        exact ih _
def f_Ro_firstOf (a2 : Int32) (a3 : Int32) (δ : Dm) : Option Int32 := ((f_Ro_leastFrom a2 a3 δ).bind (fun y4 => (lp_Ro_firstOf_12 (fun v5_12x => (some (-1 : Int32))) a2 a3 y4 δ FU (0 : Int32))))
set_option maxHeartbeats 4000000 in
set_option maxRecDepth 100000 in
theorem m_Ro_firstOf {a2 : Int32} {a3 : Int32} {δ : Dm} {n : Nat} : ∀ x, f_Ro_firstOf a2 a3 δ = some x → AMet k_Ro_firstOf 5 0 0 [.ref 25, .ref 29, .int a2, .int a3] δ RT n (Kp δ RT n x) := by
  refine aw_start (lo := [(0, .ref 25), (1, .ref 29), (2, .int a2), (3, .int a3)]) mok_Ro_firstOf rfl (Nat.le_of_ble_eq_true rfl) ?_
  unfold f_Ro_firstOf
  refine aw_aload_n d_Ro_firstOf_0 0 rfl ?_
  refine aw_aload_n d_Ro_firstOf_1 1 rfl ?_
  refine aw_iload_n d_Ro_firstOf_2 2 rfl ?_
  refine aw_iload_n d_Ro_firstOf_3 3 rfl ?_
  refine aw_V_p (As := [.ref 29, .int a2, .int a3]) (m_Ro_leastFrom) cv_Ro_29 kd_25 rfl rfl rfl (Nat.le_of_ble_eq_true rfl) ⟨Nat.le_of_ble_eq_true rfl, Nat.le_of_ble_eq_true rfl⟩ ⟨Nat.le_refl _, Nat.le_refl _⟩ d_Ro_firstOf_4 (fun y4 => ?_)
  refine aw_istore (lo' := [(4, .int y4), (0, .ref 25), (1, .ref 29), (2, .int a2), (3, .int a3)]) d_Ro_firstOf_7 (by decide) rfl ?_
  refine aw_iconst d_Ro_firstOf_9 ki_0 ?_
  refine aw_istore (lo' := [(5, .int (0 : Int32)), (4, .int y4), (0, .ref 25), (1, .ref 29), (2, .int a2), (3, .int a3)]) d_Ro_firstOf_10 (by decide) rfl ?_
  refine aw_sub (lo' := [(0, .ref 25), (1, .ref 29), (2, .int a2), (3, .int a3), (4, .int y4), (5, .int (0 : Int32))]) [2, 3, 4, 5, 1, 0] rfl ?_
  refine tl_Ro_firstOf_12 _ _ _ _ _ (fun v5_12x => ?_) FU _
  · refine aw_iconst d_Ro_firstOf_54 ki_m1 ?_
    exact aw_iret rfl rfl ⟨Nat.le_refl _, Nat.le_refl _⟩ d_Ro_firstOf_55
def lp_Ro_stop_12 (kx12_63 : Int32 → Int32 → Int32 → Int32 → Option Int32) (a2 : Int32) (a3 : Int32) (a4 : Int32) (δ : Dm) : Nat → Int32 → Int32 → Int32 → Int32 → Option Int32
  | 0, _, _, _, _ => none
  | f + 1, v5_12, v6_12, v7_12, v8_12 => (if a4 < v8_12 then (kx12_63 v5_12 v6_12 v7_12 v8_12) else ((f_Ro_firstOf v5_12 v6_12 δ).bind (fun y25 => (if y25 = (-1 : Int32) then (some (-1 : Int32)) else ((f_To_spotOf y25 δ).bind (fun y41 => (bnd (v6_12 &&& (((1 : Int32) <<< (y25 &&& 31)) ^^^ (-1 : Int32))) (fun v55 => (lp_Ro_stop_12 kx12_63 a2 a3 a4 δ f y41 v55 y25 (v8_12 + (1 : Int32)))))))))))
set_option maxHeartbeats 4000000 in
set_option maxRecDepth 100000 in
theorem tl_Ro_stop_12 {n : Nat} (kx12_63 : Int32 → Int32 → Int32 → Int32 → Option Int32) (a2 : Int32) (a3 : Int32) (a4 : Int32) (δ : Dm) (hkx12_63 : ∀ v5_12k v6_12k v7_12k v8_12k, AWo k_Ro_stop 6 0 0 63 [(0, .ref 25), (1, .ref 29), (2, .int a2), (3, .int a3), (4, .int a4), (5, .int v5_12k), (6, .int v6_12k), (7, .int v7_12k), (8, .int v8_12k)] [] δ RT n 0 0 (Kp δ RT n) (kx12_63 v5_12k v6_12k v7_12k v8_12k)) : ∀ (f : Nat) (v5_12 : Int32) (v6_12 : Int32) (v7_12 : Int32) (v8_12 : Int32), AWo k_Ro_stop 6 0 0 12 [(0, .ref 25), (1, .ref 29), (2, .int a2), (3, .int a3), (4, .int a4), (5, .int v5_12), (6, .int v6_12), (7, .int v7_12), (8, .int v8_12)] [] δ RT n 0 0 (Kp δ RT n) (lp_Ro_stop_12 kx12_63 a2 a3 a4 δ f v5_12 v6_12 v7_12 v8_12) := by
  intro f
  induction f with
  | zero => intro _ _ _ _; exact aw_none
  | succ f ih =>
    intro v5_12 v6_12 v7_12 v8_12
    rw [lp_Ro_stop_12]
    refine aw_iload d_Ro_stop_12 8 rfl ?_
    refine aw_iload d_Ro_stop_14 4 rfl ?_
    refine aw_icmp_gt (tgt := 63) d_Ro_stop_16 rfl (fun q16 => ?_) (fun q16 => ?_)
    · refine aw_sub (lo' := [(0, .ref 25), (1, .ref 29), (2, .int a2), (3, .int a3), (4, .int a4), (5, .int v5_12), (6, .int v6_12), (7, .int v7_12), (8, .int v8_12)]) [0, 1, 2, 3, 4, 5, 6, 7, 8] rfl ?_
      exact hkx12_63 _ _ _ _
    · refine aw_aload_n d_Ro_stop_19 0 rfl ?_
      refine aw_aload_n d_Ro_stop_20 1 rfl ?_
      refine aw_iload d_Ro_stop_21 5 rfl ?_
      refine aw_iload d_Ro_stop_23 6 rfl ?_
      refine aw_V_p (As := [.ref 29, .int v5_12, .int v6_12]) (m_Ro_firstOf) cv_Ro_51 kd_25 rfl rfl rfl (Nat.le_of_ble_eq_true rfl) ⟨Nat.le_of_ble_eq_true rfl, Nat.le_of_ble_eq_true rfl⟩ ⟨Nat.le_refl _, Nat.le_refl _⟩ d_Ro_stop_25 (fun y25 => ?_)
      refine aw_istore (lo' := [(7, .int y25), (0, .ref 25), (1, .ref 29), (2, .int a2), (3, .int a3), (4, .int a4), (5, .int v5_12), (6, .int v6_12), (8, .int v8_12)]) d_Ro_stop_28 (by decide) rfl ?_
      refine aw_iload d_Ro_stop_30 0 rfl ?_
      refine aw_iconst d_Ro_stop_32 ki_m1 ?_
      refine aw_icmp_ne (tgt := 38) d_Ro_stop_33 rfl (fun q33 => ?_) (fun q33 => ?_)
      · refine aw_iconst d_Ro_stop_36 ki_m1 ?_
        exact aw_iret rfl rfl ⟨Nat.le_refl _, Nat.le_refl _⟩ d_Ro_stop_37
      · refine aw_aload_n d_Ro_stop_38 2 rfl ?_
        refine aw_iload d_Ro_stop_39 0 rfl ?_
        refine aw_V_p (As := [.int y25]) (m_To_spotOf) cv_Ro_21 kd_29 rfl rfl rfl (Nat.le_of_ble_eq_true rfl) ⟨Nat.le_of_ble_eq_true rfl, Nat.le_of_ble_eq_true rfl⟩ ⟨Nat.le_refl _, Nat.le_refl _⟩ d_Ro_stop_41 (fun y41 => ?_)
        refine aw_istore (lo' := [(5, .int y41), (7, .int y25), (0, .ref 25), (1, .ref 29), (2, .int a2), (3, .int a3), (4, .int a4), (6, .int v6_12), (8, .int v8_12)]) d_Ro_stop_44 (by decide) rfl ?_
        refine aw_iload d_Ro_stop_46 7 rfl ?_
        refine aw_iconst d_Ro_stop_48 ki_1 ?_
        refine aw_iload d_Ro_stop_49 1 rfl ?_
        refine aw_ishl d_Ro_stop_51 ?_
        refine aw_iconst d_Ro_stop_52 ki_m1 ?_
        refine aw_ixor d_Ro_stop_53 ?_
        refine aw_iand d_Ro_stop_54 ?_
        refine aw_bI (fun v55 => ?_)
        refine aw_istore (lo' := [(6, .int v55), (5, .int y41), (7, .int y25), (0, .ref 25), (1, .ref 29), (2, .int a2), (3, .int a3), (4, .int a4), (8, .int v8_12)]) d_Ro_stop_55 (by decide) rfl ?_
        refine aw_iinc (v := (v8_12 + (1 : Int32))) (lo' := [(8, .int (v8_12 + (1 : Int32))), (6, .int v55), (5, .int y41), (7, .int y25), (0, .ref 25), (1, .ref 29), (2, .int a2), (3, .int a3), (4, .int a4)]) d_Ro_stop_57 8 rfl (by rw [show Int32.ofInt (1) = (1 : Int32) from by decide]) (by decide) rfl ?_
        refine aw_goto (tgt := 12) d_Ro_stop_60 rfl ?_
        refine aw_sub (lo' := [(0, .ref 25), (1, .ref 29), (2, .int a2), (3, .int a3), (4, .int a4), (5, .int y41), (6, .int v55), (7, .int y25), (8, .int (v8_12 + (1 : Int32)))]) [4, 5, 6, 7, 8, 2, 1, 3, 0] rfl ?_
        exact ih _ _ _ _
def f_Ro_stop (a2 : Int32) (a3 : Int32) (a4 : Int32) (δ : Dm) : Option Int32 := (lp_Ro_stop_12 (fun v5_12x v6_12x v7_12x v8_12x => (some v7_12x)) a2 a3 a4 δ FU a2 a3 (-1 : Int32) (0 : Int32))
set_option maxHeartbeats 4000000 in
set_option maxRecDepth 100000 in
theorem m_Ro_stop {a2 : Int32} {a3 : Int32} {a4 : Int32} {δ : Dm} {n : Nat} : ∀ x, f_Ro_stop a2 a3 a4 δ = some x → AMet k_Ro_stop 6 0 0 [.ref 25, .ref 29, .int a2, .int a3, .int a4] δ RT n (Kp δ RT n x) := by
  refine aw_start (lo := [(0, .ref 25), (1, .ref 29), (2, .int a2), (3, .int a3), (4, .int a4)]) mok_Ro_stop rfl (Nat.le_of_ble_eq_true rfl) ?_
  unfold f_Ro_stop
  refine aw_iload_n d_Ro_stop_0 2 rfl ?_
  refine aw_istore (lo' := [(5, .int a2), (0, .ref 25), (1, .ref 29), (2, .int a2), (3, .int a3), (4, .int a4)]) d_Ro_stop_1 (by decide) rfl ?_
  refine aw_iload_n d_Ro_stop_3 4 rfl ?_
  refine aw_istore (lo' := [(6, .int a3), (5, .int a2), (0, .ref 25), (1, .ref 29), (2, .int a2), (3, .int a3), (4, .int a4)]) d_Ro_stop_4 (by decide) rfl ?_
  refine aw_iconst d_Ro_stop_6 ki_m1 ?_
  refine aw_istore (lo' := [(7, .int (-1 : Int32)), (6, .int a3), (5, .int a2), (0, .ref 25), (1, .ref 29), (2, .int a2), (3, .int a3), (4, .int a4)]) d_Ro_stop_7 (by decide) rfl ?_
  refine aw_iconst d_Ro_stop_9 ki_0 ?_
  refine aw_istore (lo' := [(8, .int (0 : Int32)), (7, .int (-1 : Int32)), (6, .int a3), (5, .int a2), (0, .ref 25), (1, .ref 29), (2, .int a2), (3, .int a3), (4, .int a4)]) d_Ro_stop_10 (by decide) rfl ?_
  refine aw_sub (lo' := [(0, .ref 25), (1, .ref 29), (2, .int a2), (3, .int a3), (4, .int a4), (5, .int a2), (6, .int a3), (7, .int (-1 : Int32)), (8, .int (0 : Int32))]) [4, 5, 6, 7, 8, 3, 2, 1, 0] rfl ?_
  refine tl_Ro_stop_12 _ _ _ _ _ (fun v5_12x v6_12x v7_12x v8_12x => ?_) FU _ _ _ _
  · refine aw_iload d_Ro_stop_63 7 rfl ?_
    exact aw_iret rfl rfl ⟨Nat.le_refl _, Nat.le_refl _⟩ d_Ro_stop_65
def f_Fp_round (a1 : Int32) (a2 : Int32) (a3 : Int32) (δ : Dm) : Option (Int32 × Dm) := ((f_Fp_within a1 (0 : Int32) (((1 : Int32) <<< ((gI δ 29 2) &&& 31)) - (1 : Int32)) δ).bind (fun y13 => (if y13 = 0 then (some ((-2 : Int32), δ)) else ((f_To_hasPlace a2 δ).bind (fun y28 => (if y28 = 0 then (some ((-2 : Int32), δ)) else ((f_Fp_within a3 (-1 : Int32) (7 : Int32) δ).bind (fun y38 => (if y38 = 0 then (some ((-2 : Int32), δ)) else ((f_Ro_plan a2 δ).bind (fun y56 => (if a3 = (-1 : Int32) then ((f_Ro_leastFrom a2 a1 y56).bind (fun y74 => (some (y74, y56)))) else ((f_Ro_stop a2 a1 a3 y56).bind (fun y91 => (some (y91, y56))))))))))))))))
set_option maxHeartbeats 4000000 in
set_option maxRecDepth 100000 in
theorem m_Fp_round {a1 : Int32} {a2 : Int32} {a3 : Int32} {δ : Dm} {n : Nat} : ∀ x, f_Fp_round a1 a2 a3 δ = some x → AMet k_Fp_round 7 0 0 [.ref 4, .int a1, .int a2, .int a3] δ RT n (Km RT n x) := by
  refine aw_start (lo := [(0, .ref 4), (1, .int a1), (2, .int a2), (3, .int a3)]) mok_Fp_round rfl (Nat.le_of_ble_eq_true rfl) ?_
  unfold f_Fp_round
  refine aw_iload_n d_Fp_round_0 1 rfl ?_
  refine aw_iconst d_Fp_round_1 ki_0 ?_
  refine aw_iconst d_Fp_round_2 ki_1 ?_
  refine aw_aload_n d_Fp_round_3 0 rfl ?_
  refine aw_getR (t := 29) fl_Fp_57 kd_4 rt_4_9 d_Fp_round_4 ?_
  refine aw_getI fl_Fp_116 kd_29 d_Fp_round_7 ?_
  refine aw_ishl d_Fp_round_10 ?_
  refine aw_iconst d_Fp_round_11 ki_1 ?_
  refine aw_isub d_Fp_round_12 ?_
  refine aw_S_p (As := [.int a1, .int (0 : Int32), .int (((1 : Int32) <<< ((gI δ 29 2) &&& 31)) - (1 : Int32))]) (m_Fp_within) cs_Fp_70 rfl rfl (Nat.le_of_ble_eq_true rfl) ⟨Nat.le_of_ble_eq_true rfl, Nat.le_of_ble_eq_true rfl⟩ ⟨Nat.le_refl _, Nat.le_refl _⟩ d_Fp_round_13 (fun y13 => ?_)
  refine aw_istore (lo' := [(4, .int y13), (0, .ref 4), (1, .int a1), (2, .int a2), (3, .int a3)]) d_Fp_round_16 (by decide) rfl ?_
  refine aw_iload d_Fp_round_18 0 rfl ?_
  refine aw_if_eq (tgt := 44) d_Fp_round_20 rfl (fun q20 => ?_) (fun q20 => ?_)
  · refine aw_bipush d_Fp_round_44 kb_m2 ?_
    exact aw_iret rfl rfl ⟨Nat.le_refl _, Nat.le_refl _⟩ d_Fp_round_46
  · refine aw_aload_n d_Fp_round_23 1 rfl ?_
    refine aw_getR (t := 29) fl_Fp_57 kd_4 rt_4_9 d_Fp_round_24 ?_
    refine aw_iload_n d_Fp_round_27 3 rfl ?_
    refine aw_V_p (As := [.int a2]) (m_To_hasPlace) cv_Fp_81 kd_29 rfl rfl rfl (Nat.le_of_ble_eq_true rfl) ⟨Nat.le_of_ble_eq_true rfl, Nat.le_of_ble_eq_true rfl⟩ ⟨Nat.le_refl _, Nat.le_refl _⟩ d_Fp_round_28 (fun y28 => ?_)
    refine aw_if_eq (tgt := 44) d_Fp_round_31 rfl (fun q31 => ?_) (fun q31 => ?_)
    · refine aw_bipush d_Fp_round_44 kb_m2 ?_
      exact aw_iret rfl rfl ⟨Nat.le_refl _, Nat.le_refl _⟩ d_Fp_round_46
    · refine aw_iload_n d_Fp_round_34 4 rfl ?_
      refine aw_iconst d_Fp_round_35 ki_m1 ?_
      refine aw_bipush d_Fp_round_36 kb_7 ?_
      refine aw_S_p (As := [.int a3, .int (-1 : Int32), .int (7 : Int32)]) (m_Fp_within) cs_Fp_70 rfl rfl (Nat.le_of_ble_eq_true rfl) ⟨Nat.le_of_ble_eq_true rfl, Nat.le_of_ble_eq_true rfl⟩ ⟨Nat.le_refl _, Nat.le_refl _⟩ d_Fp_round_38 (fun y38 => ?_)
      refine aw_if_ne (tgt := 47) d_Fp_round_41 rfl (fun q41 => ?_) (fun q41 => ?_)
      · refine aw_bipush d_Fp_round_44 kb_m2 ?_
        exact aw_iret rfl rfl ⟨Nat.le_refl _, Nat.le_refl _⟩ d_Fp_round_46
      · refine aw_aload_n d_Fp_round_47 1 rfl ?_
        refine aw_getR (t := 25) fl_Fp_43 kd_4 rt_4_7 d_Fp_round_48 ?_
        refine aw_aload_n d_Fp_round_51 1 rfl ?_
        refine aw_getR (t := 29) fl_Fp_57 kd_4 rt_4_9 d_Fp_round_52 ?_
        refine aw_iload_n d_Fp_round_55 3 rfl ?_
        refine aw_V_v (As := [.ref 29, .int a2]) (m_Ro_plan) cv_Fp_318 kd_25 rfl rfl rfl (Nat.le_of_ble_eq_true rfl) ⟨Nat.le_of_ble_eq_true rfl, Nat.le_of_ble_eq_true rfl⟩ ⟨Nat.le_refl _, Nat.le_refl _⟩ d_Fp_round_56 (fun y56 => ?_)
        refine aw_iload_n d_Fp_round_59 4 rfl ?_
        refine aw_iconst d_Fp_round_60 ki_m1 ?_
        refine aw_icmp_ne (tgt := 80) d_Fp_round_61 rfl (fun q61 => ?_) (fun q61 => ?_)
        · refine aw_aload_n d_Fp_round_64 1 rfl ?_
          refine aw_getR (t := 25) fl_Fp_43 kd_4 rt_4_7 d_Fp_round_65 ?_
          refine aw_aload_n d_Fp_round_68 1 rfl ?_
          refine aw_getR (t := 29) fl_Fp_57 kd_4 rt_4_9 d_Fp_round_69 ?_
          refine aw_iload_n d_Fp_round_72 3 rfl ?_
          refine aw_iload_n d_Fp_round_73 2 rfl ?_
          refine aw_V_p (As := [.ref 29, .int a2, .int a1]) (m_Ro_leastFrom) cv_Fp_322 kd_25 rfl rfl rfl (Nat.le_of_ble_eq_true rfl) ⟨Nat.le_of_ble_eq_true rfl, Nat.le_of_ble_eq_true rfl⟩ ⟨Nat.le_refl _, Nat.le_refl _⟩ d_Fp_round_74 (fun y74 => ?_)
          refine aw_goto (tgt := 94) d_Fp_round_77 rfl ?_
          exact aw_iret rfl rfl ⟨Nat.le_refl _, Nat.le_refl _⟩ d_Fp_round_94
        · refine aw_aload_n d_Fp_round_80 1 rfl ?_
          refine aw_getR (t := 25) fl_Fp_43 kd_4 rt_4_7 d_Fp_round_81 ?_
          refine aw_aload_n d_Fp_round_84 1 rfl ?_
          refine aw_getR (t := 29) fl_Fp_57 kd_4 rt_4_9 d_Fp_round_85 ?_
          refine aw_iload_n d_Fp_round_88 3 rfl ?_
          refine aw_iload_n d_Fp_round_89 2 rfl ?_
          refine aw_iload_n d_Fp_round_90 4 rfl ?_
          refine aw_V_p (As := [.ref 29, .int a2, .int a1, .int a3]) (m_Ro_stop) cv_Fp_326 kd_25 rfl rfl rfl (Nat.le_of_ble_eq_true rfl) ⟨Nat.le_of_ble_eq_true rfl, Nat.le_of_ble_eq_true rfl⟩ ⟨Nat.le_refl _, Nat.le_refl _⟩ d_Fp_round_91 (fun y91 => ?_)
          exact aw_iret rfl rfl ⟨Nat.le_refl _, Nat.le_refl _⟩ d_Fp_round_94
def f_Fp_call (a1 : Int32) (a2 : Int32) (δ : Dm) : Option (Int32 × Dm) := ((f_To_boothAt a1 δ).bind (fun o5 => ocs o5 (some ((-1 : Int32), δ)) (fun t5 => if isB t5 = true then ((f_Fp_within a2 (0 : Int32) (9999 : Int32) δ).bind (fun y18 => (if y18 = 0 then (some ((-1 : Int32), δ)) else (bnd (gI δ t5 8) (fun v30 => (bnd (sI δ t5 8 a2) (fun δ_34 => (some (v30, δ_34))))))))) else none)))
set_option maxHeartbeats 4000000 in
set_option maxRecDepth 100000 in
theorem m_Fp_call {a1 : Int32} {a2 : Int32} {δ : Dm} {n : Nat} : ∀ x, f_Fp_call a1 a2 δ = some x → AMet k_Fp_call 3 0 0 [.ref 4, .int a1, .int a2] δ RT n (Km RT n x) := by
  refine aw_start (lo := [(0, .ref 4), (1, .int a1), (2, .int a2)]) mok_Fp_call rfl (Nat.le_of_ble_eq_true rfl) ?_
  unfold f_Fp_call
  refine aw_aload_n d_Fp_call_0 0 rfl ?_
  refine aw_getR (t := 29) fl_Fp_57 kd_4 rt_4_9 d_Fp_call_1 ?_
  refine aw_iload_n d_Fp_call_4 1 rfl ?_
  refine aw_V_r (As := [.int a1]) (m_To_boothAt) cv_Fp_139 kd_29 rfl rfl rfl (Nat.le_of_ble_eq_true rfl) ⟨Nat.le_of_ble_eq_true rfl, Nat.le_of_ble_eq_true rfl⟩ ⟨Nat.le_refl _, Nat.le_refl _⟩ d_Fp_call_5 ?_ (fun t5 => ?_)
  · refine aw_astoreN_n (lo' := [(3, .null), (0, .ref 4), (1, .int a1), (2, .int a2)]) d_Fp_call_8 rfl (by decide) rfl ?_
    refine aw_aloadN_n d_Fp_call_9 0 rfl ?_
    refine aw_ifnullN (tgt := 24) d_Fp_call_10 rfl ?_
    refine aw_iconst d_Fp_call_24 ki_m1 ?_
    exact aw_iret rfl rfl ⟨Nat.le_refl _, Nat.le_refl _⟩ d_Fp_call_25
  · refine aw_grd (fun ht5 => ?_)
    refine aw_astore_n (lo' := [(3, .ref t5), (0, .ref 4), (1, .int a1), (2, .int a2)]) d_Fp_call_8 rfl (by decide) rfl ?_
    refine aw_aload_n d_Fp_call_9 0 rfl ?_
    refine aw_ifnull d_Fp_call_10 ?_
    refine aw_iload_n d_Fp_call_13 3 rfl ?_
    refine aw_iconst d_Fp_call_14 ki_0 ?_
    refine aw_sipush d_Fp_call_15 ks_9999 ?_
    refine aw_S_p (As := [.int a2, .int (0 : Int32), .int (9999 : Int32)]) (m_Fp_within) cs_Fp_70 rfl rfl (Nat.le_of_ble_eq_true rfl) ⟨Nat.le_of_ble_eq_true rfl, Nat.le_of_ble_eq_true rfl⟩ ⟨Nat.le_refl _, Nat.le_refl _⟩ d_Fp_call_18 (fun y18 => ?_)
    refine aw_if_ne (tgt := 26) d_Fp_call_21 rfl (fun q21 => ?_) (fun q21 => ?_)
    · refine aw_iconst d_Fp_call_24 ki_m1 ?_
      exact aw_iret rfl rfl ⟨Nat.le_refl _, Nat.le_refl _⟩ d_Fp_call_25
    · refine aw_aload_n d_Fp_call_26 0 rfl ?_
      refine aw_getI fl_Fp_330 (fx_isBK ht5 0 (by decide)) d_Fp_call_27 ?_
      refine aw_bI (fun v30 => ?_)
      refine aw_istore (lo' := [(4, .int v30), (3, .ref t5), (0, .ref 4), (1, .int a1), (2, .int a2)]) d_Fp_call_30 (by decide) rfl ?_
      refine aw_aload_n d_Fp_call_32 1 rfl ?_
      refine aw_iload_n d_Fp_call_33 4 rfl ?_
      refine aw_putI pf_Fp_330 (fx_isBK ht5 0 (by decide)) d_Fp_call_34 ?_
      refine aw_bD (fun δ_34 => ?_)
      refine aw_iload d_Fp_call_37 0 rfl ?_
      exact aw_iret rfl rfl ⟨Nat.le_refl _, Nat.le_refl _⟩ d_Fp_call_39
def lp_To_worthOf_4 (kx4_47 : Int32 → Int32 → Option Int32) (a1 : Int32) (δ : Dm) : Nat → Int32 → Int32 → Option Int32
  | 0, _, _ => none
  | f + 1, v2_4, v3_4 => (if (gI δ 29 2) ≤ v3_4 then (kx4_47 v2_4 v3_4) else ((f_To_slot 29 v3_4 δ).bind (fun o14 => ocs o14 (lp_To_worthOf_4 kx4_47 a1 δ f v2_4 (v3_4 + (1 : Int32))) (fun t14 => if isB t14 = true then (if ((a1 >>> (v3_4 &&& 31)) &&& (1 : Int32)) = (1 : Int32) then (bnd (v2_4 + (gI δ t14 8)) (fun v40 => (lp_To_worthOf_4 kx4_47 a1 δ f v40 (v3_4 + (1 : Int32))))) else (lp_To_worthOf_4 kx4_47 a1 δ f v2_4 (v3_4 + (1 : Int32)))) else none))))
set_option maxHeartbeats 4000000 in
set_option maxRecDepth 100000 in
theorem tl_To_worthOf_4 {n : Nat} (kx4_47 : Int32 → Int32 → Option Int32) (a1 : Int32) (δ : Dm) (hkx4_47 : ∀ v2_4k v3_4k, AWo k_To_worthOf 2 0 0 47 [(0, .ref 29), (1, .int a1), (2, .int v2_4k), (3, .int v3_4k)] [] δ RT n 0 0 (Kp δ RT n) (kx4_47 v2_4k v3_4k)) : ∀ (f : Nat) (v2_4 : Int32) (v3_4 : Int32), AWo k_To_worthOf 2 0 0 4 [(0, .ref 29), (1, .int a1), (2, .int v2_4), (3, .int v3_4)] [] δ RT n 0 0 (Kp δ RT n) (lp_To_worthOf_4 kx4_47 a1 δ f v2_4 v3_4) := by
  intro f
  induction f with
  | zero => intro _ _; exact aw_none
  | succ f ih =>
    intro v2_4 v3_4
    rw [lp_To_worthOf_4]
    refine aw_iload_n d_To_worthOf_4 3 rfl ?_
    refine aw_aload_n d_To_worthOf_5 0 rfl ?_
    refine aw_getI fl_To_55 kd_29 d_To_worthOf_6 ?_
    refine aw_icmp_ge (tgt := 47) d_To_worthOf_9 rfl (fun q9 => ?_) (fun q9 => ?_)
    · refine aw_sub (lo' := [(0, .ref 29), (1, .int a1), (2, .int v2_4), (3, .int v3_4)]) [0, 1, 2, 3] rfl ?_
      exact hkx4_47 _ _
    · refine aw_aload_n d_To_worthOf_12 0 rfl ?_
      refine aw_iload_n d_To_worthOf_13 3 rfl ?_
      refine aw_V_r (As := [.int v3_4]) (m_To_slot (by decide)) cv_To_69 kd_29 rfl rfl rfl (Nat.le_of_ble_eq_true rfl) ⟨Nat.le_of_ble_eq_true rfl, Nat.le_of_ble_eq_true rfl⟩ ⟨Nat.le_refl _, Nat.le_refl _⟩ d_To_worthOf_14 ?_ (fun t14 => ?_)
      · refine aw_astoreN (lo' := [(4, .null), (0, .ref 29), (1, .int a1), (2, .int v2_4), (3, .int v3_4)]) d_To_worthOf_17 (by decide) rfl ?_
        refine aw_aloadN d_To_worthOf_19 0 rfl ?_
        refine aw_ifnullN (tgt := 41) d_To_worthOf_21 rfl ?_
        refine aw_iinc (v := (v3_4 + (1 : Int32))) (lo' := [(3, .int (v3_4 + (1 : Int32))), (4, .null), (0, .ref 29), (1, .int a1), (2, .int v2_4)]) d_To_worthOf_41 4 rfl (by rw [show Int32.ofInt (1) = (1 : Int32) from by decide]) (by decide) rfl ?_
        refine aw_goto (tgt := 4) d_To_worthOf_44 rfl ?_
        refine aw_sub (lo' := [(0, .ref 29), (1, .int a1), (2, .int v2_4), (3, .int (v3_4 + (1 : Int32)))]) [2, 3, 4, 0] rfl ?_
        exact ih _ _
      · refine aw_grd (fun ht14 => ?_)
        refine aw_astore (lo' := [(4, .ref t14), (0, .ref 29), (1, .int a1), (2, .int v2_4), (3, .int v3_4)]) d_To_worthOf_17 (by decide) rfl ?_
        refine aw_aload d_To_worthOf_19 0 rfl ?_
        refine aw_ifnull d_To_worthOf_21 ?_
        refine aw_iload_n d_To_worthOf_24 2 rfl ?_
        refine aw_iload_n d_To_worthOf_25 4 rfl ?_
        refine aw_ishr d_To_worthOf_26 ?_
        refine aw_iconst d_To_worthOf_27 ki_1 ?_
        refine aw_iand d_To_worthOf_28 ?_
        refine aw_iconst d_To_worthOf_29 ki_1 ?_
        refine aw_icmp_ne (tgt := 41) d_To_worthOf_30 rfl (fun q30 => ?_) (fun q30 => ?_)
        · refine aw_iload_n d_To_worthOf_33 3 rfl ?_
          refine aw_aload d_To_worthOf_34 0 rfl ?_
          refine aw_getI fl_To_90 (fx_isBK ht14 0 (by decide)) d_To_worthOf_36 ?_
          refine aw_iadd d_To_worthOf_39 ?_
          refine aw_bI (fun v40 => ?_)
          refine aw_istore_n (lo' := [(2, .int v40), (4, .ref t14), (0, .ref 29), (1, .int a1), (3, .int v3_4)]) d_To_worthOf_40 rfl (by decide) rfl ?_
          refine aw_iinc (v := (v3_4 + (1 : Int32))) (lo' := [(3, .int (v3_4 + (1 : Int32))), (2, .int v40), (4, .ref t14), (0, .ref 29), (1, .int a1)]) d_To_worthOf_41 4 rfl (by rw [show Int32.ofInt (1) = (1 : Int32) from by decide]) (by decide) rfl ?_
          refine aw_goto (tgt := 4) d_To_worthOf_44 rfl ?_
          refine aw_sub (lo' := [(0, .ref 29), (1, .int a1), (2, .int v40), (3, .int (v3_4 + (1 : Int32)))]) [3, 4, 1, 0] rfl ?_
          exact ih _ _
        · refine aw_iinc (v := (v3_4 + (1 : Int32))) (lo' := [(3, .int (v3_4 + (1 : Int32))), (4, .ref t14), (0, .ref 29), (1, .int a1), (2, .int v2_4)]) d_To_worthOf_41 4 rfl (by rw [show Int32.ofInt (1) = (1 : Int32) from by decide]) (by decide) rfl ?_
          refine aw_goto (tgt := 4) d_To_worthOf_44 rfl ?_
          refine aw_sub (lo' := [(0, .ref 29), (1, .int a1), (2, .int v2_4), (3, .int (v3_4 + (1 : Int32)))]) [2, 3, 4, 0] rfl ?_
          exact ih _ _
def f_To_worthOf (a1 : Int32) (δ : Dm) : Option Int32 := (lp_To_worthOf_4 (fun v2_4x v3_4x => (some v2_4x)) a1 δ FU (0 : Int32) (0 : Int32))
set_option maxHeartbeats 4000000 in
set_option maxRecDepth 100000 in
theorem m_To_worthOf {a1 : Int32} {δ : Dm} {n : Nat} : ∀ x, f_To_worthOf a1 δ = some x → AMet k_To_worthOf 2 0 0 [.ref 29, .int a1] δ RT n (Kp δ RT n x) := by
  refine aw_start (lo := [(0, .ref 29), (1, .int a1)]) mok_To_worthOf rfl (Nat.le_of_ble_eq_true rfl) ?_
  unfold f_To_worthOf
  refine aw_iconst d_To_worthOf_0 ki_0 ?_
  refine aw_istore_n (lo' := [(2, .int (0 : Int32)), (0, .ref 29), (1, .int a1)]) d_To_worthOf_1 rfl (by decide) rfl ?_
  refine aw_iconst d_To_worthOf_2 ki_0 ?_
  refine aw_istore_n (lo' := [(3, .int (0 : Int32)), (2, .int (0 : Int32)), (0, .ref 29), (1, .int a1)]) d_To_worthOf_3 rfl (by decide) rfl ?_
  refine aw_sub (lo' := [(0, .ref 29), (1, .int a1), (2, .int (0 : Int32)), (3, .int (0 : Int32))]) [2, 3, 1, 0] rfl ?_
  refine tl_To_worthOf_4 _ _ _ (fun v2_4x v3_4x => ?_) FU _ _
  · refine aw_iload_n d_To_worthOf_47 2 rfl ?_
    exact aw_iret rfl rfl ⟨Nat.le_refl _, Nat.le_refl _⟩ d_To_worthOf_48
def lp_Fp_worthy_53 (kx53_116 : Int32 → Int32 → Int32 → Option (Int32 × Dm)) (a1 : Int32) (a2 : Int32) (a3 : Int32) (y41 : Dm) : Nat → Int32 → Int32 → Int32 → Option (Int32 × Dm)
  | 0, _, _, _ => none
  | f + 1, v4_53, v5_53, v6_53 => (if ((1 : Int32) <<< ((gI y41 29 2) &&& 31)) ≤ v6_53 then (kx53_116 v4_53 v5_53 v6_53) else ((f_To_worthOf v6_53 y41).bind (fun y73 => ((f_Ro_leastFrom a1 v6_53 y41).bind (fun y88 => (bnd (y73 - (a2 * y88)) (fun v93 => (if v93 ≤ v5_53 then (lp_Fp_worthy_53 kx53_116 a1 a2 a3 y41 f v4_53 v5_53 (v6_53 + (1 : Int32))) else (lp_Fp_worthy_53 kx53_116 a1 a2 a3 y41 f v6_53 v93 (v6_53 + (1 : Int32)))))))))))
set_option maxHeartbeats 4000000 in
set_option maxRecDepth 100000 in
theorem tl_Fp_worthy_53 {n : Nat} (kx53_116 : Int32 → Int32 → Int32 → Option (Int32 × Dm)) (a1 : Int32) (a2 : Int32) (a3 : Int32) (y41 : Dm) (hkx53_116 : ∀ v4_53k v5_53k v6_53k, AWo k_Fp_worthy 6 0 0 116 [(0, .ref 4), (1, .int a1), (2, .int a2), (3, .int a3), (4, .int v4_53k), (5, .int v5_53k), (6, .int v6_53k)] [] y41 RT n 0 0 (Km RT n) (kx53_116 v4_53k v5_53k v6_53k)) : ∀ (f : Nat) (v4_53 : Int32) (v5_53 : Int32) (v6_53 : Int32), AWo k_Fp_worthy 6 0 0 53 [(0, .ref 4), (1, .int a1), (2, .int a2), (3, .int a3), (4, .int v4_53), (5, .int v5_53), (6, .int v6_53)] [] y41 RT n 0 0 (Km RT n) (lp_Fp_worthy_53 kx53_116 a1 a2 a3 y41 f v4_53 v5_53 v6_53) := by
  intro f
  induction f with
  | zero => intro _ _ _; exact aw_none
  | succ f ih =>
    intro v4_53 v5_53 v6_53
    rw [lp_Fp_worthy_53]
    refine aw_iload d_Fp_worthy_53 6 rfl ?_
    refine aw_iconst d_Fp_worthy_55 ki_1 ?_
    refine aw_aload_n d_Fp_worthy_56 0 rfl ?_
    refine aw_getR (t := 29) fl_Fp_57 kd_4 rt_4_9 d_Fp_worthy_57 ?_
    refine aw_getI fl_Fp_116 kd_29 d_Fp_worthy_60 ?_
    refine aw_ishl d_Fp_worthy_63 ?_
    refine aw_icmp_ge (tgt := 116) d_Fp_worthy_64 rfl (fun q64 => ?_) (fun q64 => ?_)
    · refine aw_sub (lo' := [(0, .ref 4), (1, .int a1), (2, .int a2), (3, .int a3), (4, .int v4_53), (5, .int v5_53), (6, .int v6_53)]) [0, 1, 2, 3, 4, 5, 6] rfl ?_
      exact hkx53_116 _ _ _
    · refine aw_aload_n d_Fp_worthy_67 0 rfl ?_
      refine aw_getR (t := 29) fl_Fp_57 kd_4 rt_4_9 d_Fp_worthy_68 ?_
      refine aw_iload d_Fp_worthy_71 6 rfl ?_
      refine aw_V_p (As := [.int v6_53]) (m_To_worthOf) cv_Fp_333 kd_29 rfl rfl rfl (Nat.le_of_ble_eq_true rfl) ⟨Nat.le_of_ble_eq_true rfl, Nat.le_of_ble_eq_true rfl⟩ ⟨Nat.le_refl _, Nat.le_refl _⟩ d_Fp_worthy_73 (fun y73 => ?_)
      refine aw_iload_n d_Fp_worthy_76 2 rfl ?_
      refine aw_aload_n d_Fp_worthy_77 0 rfl ?_
      refine aw_getR (t := 25) fl_Fp_43 kd_4 rt_4_7 d_Fp_worthy_78 ?_
      refine aw_aload_n d_Fp_worthy_81 0 rfl ?_
      refine aw_getR (t := 29) fl_Fp_57 kd_4 rt_4_9 d_Fp_worthy_82 ?_
      refine aw_iload_n d_Fp_worthy_85 1 rfl ?_
      refine aw_iload d_Fp_worthy_86 6 rfl ?_
      refine aw_V_p (As := [.ref 29, .int a1, .int v6_53]) (m_Ro_leastFrom) cv_Fp_322 kd_25 rfl rfl rfl (Nat.le_of_ble_eq_true rfl) ⟨Nat.le_of_ble_eq_true rfl, Nat.le_of_ble_eq_true rfl⟩ ⟨Nat.le_refl _, Nat.le_refl _⟩ d_Fp_worthy_88 (fun y88 => ?_)
      refine aw_imul d_Fp_worthy_91 ?_
      refine aw_isub d_Fp_worthy_92 ?_
      refine aw_bI (fun v93 => ?_)
      refine aw_istore (lo' := [(7, .int v93), (0, .ref 4), (1, .int a1), (2, .int a2), (3, .int a3), (4, .int v4_53), (5, .int v5_53), (6, .int v6_53)]) d_Fp_worthy_93 (by decide) rfl ?_
      refine aw_iload d_Fp_worthy_95 0 rfl ?_
      refine aw_iload d_Fp_worthy_97 6 rfl ?_
      refine aw_icmp_le (tgt := 110) d_Fp_worthy_99 rfl (fun q99 => ?_) (fun q99 => ?_)
      · refine aw_iinc (v := (v6_53 + (1 : Int32))) (lo' := [(6, .int (v6_53 + (1 : Int32))), (7, .int v93), (0, .ref 4), (1, .int a1), (2, .int a2), (3, .int a3), (4, .int v4_53), (5, .int v5_53)]) d_Fp_worthy_110 7 rfl (by rw [show Int32.ofInt (1) = (1 : Int32) from by decide]) (by decide) rfl ?_
        refine aw_goto (tgt := 53) d_Fp_worthy_113 rfl ?_
        refine aw_sub (lo' := [(0, .ref 4), (1, .int a1), (2, .int a2), (3, .int a3), (4, .int v4_53), (5, .int v5_53), (6, .int (v6_53 + (1 : Int32)))]) [2, 3, 4, 5, 6, 7, 0] rfl ?_
        exact ih _ _ _
      · refine aw_iload d_Fp_worthy_102 0 rfl ?_
        refine aw_istore (lo' := [(5, .int v93), (7, .int v93), (0, .ref 4), (1, .int a1), (2, .int a2), (3, .int a3), (4, .int v4_53), (6, .int v6_53)]) d_Fp_worthy_104 (by decide) rfl ?_
        refine aw_iload d_Fp_worthy_106 7 rfl ?_
        refine aw_istore (lo' := [(4, .int v6_53), (5, .int v93), (7, .int v93), (0, .ref 4), (1, .int a1), (2, .int a2), (3, .int a3), (6, .int v6_53)]) d_Fp_worthy_108 (by decide) rfl ?_
        refine aw_iinc (v := (v6_53 + (1 : Int32))) (lo' := [(6, .int (v6_53 + (1 : Int32))), (4, .int v6_53), (5, .int v93), (7, .int v93), (0, .ref 4), (1, .int a1), (2, .int a2), (3, .int a3)]) d_Fp_worthy_110 7 rfl (by rw [show Int32.ofInt (1) = (1 : Int32) from by decide]) (by decide) rfl ?_
        refine aw_goto (tgt := 53) d_Fp_worthy_113 rfl ?_
        refine aw_sub (lo' := [(0, .ref 4), (1, .int a1), (2, .int a2), (3, .int a3), (4, .int v6_53), (5, .int v93), (6, .int (v6_53 + (1 : Int32)))]) [4, 5, 6, 7, 1, 2, 0] rfl ?_
        exact ih _ _ _
def f_Fp_worthy (a1 : Int32) (a2 : Int32) (a3 : Int32) (δ : Dm) : Option (Int32 × Dm) := ((f_To_hasPlace a1 δ).bind (fun y5 => (if y5 = 0 then (some ((-1 : Int32), δ)) else ((f_Fp_within a2 (0 : Int32) (99 : Int32) δ).bind (fun y15 => (if y15 = 0 then (some ((-1 : Int32), δ)) else ((f_Fp_within a3 (0 : Int32) (1 : Int32) δ).bind (fun y24 => (if y24 = 0 then (some ((-1 : Int32), δ)) else ((f_Ro_plan a1 δ).bind (fun y41 => (lp_Fp_worthy_53 (fun v4_53x v5_53x v6_53x => (if a3 = 0 then (some (v4_53x, y41)) else (some (v5_53x, y41)))) a1 a2 a3 y41 FU (0 : Int32) (0 : Int32) (1 : Int32)))))))))))))
set_option maxHeartbeats 4000000 in
set_option maxRecDepth 100000 in
theorem m_Fp_worthy {a1 : Int32} {a2 : Int32} {a3 : Int32} {δ : Dm} {n : Nat} : ∀ x, f_Fp_worthy a1 a2 a3 δ = some x → AMet k_Fp_worthy 6 0 0 [.ref 4, .int a1, .int a2, .int a3] δ RT n (Km RT n x) := by
  refine aw_start (lo := [(0, .ref 4), (1, .int a1), (2, .int a2), (3, .int a3)]) mok_Fp_worthy rfl (Nat.le_of_ble_eq_true rfl) ?_
  unfold f_Fp_worthy
  refine aw_aload_n d_Fp_worthy_0 0 rfl ?_
  refine aw_getR (t := 29) fl_Fp_57 kd_4 rt_4_9 d_Fp_worthy_1 ?_
  refine aw_iload_n d_Fp_worthy_4 1 rfl ?_
  refine aw_V_p (As := [.int a1]) (m_To_hasPlace) cv_Fp_81 kd_29 rfl rfl rfl (Nat.le_of_ble_eq_true rfl) ⟨Nat.le_of_ble_eq_true rfl, Nat.le_of_ble_eq_true rfl⟩ ⟨Nat.le_refl _, Nat.le_refl _⟩ d_Fp_worthy_5 (fun y5 => ?_)
  refine aw_if_eq (tgt := 30) d_Fp_worthy_8 rfl (fun q8 => ?_) (fun q8 => ?_)
  · refine aw_iconst d_Fp_worthy_30 ki_m1 ?_
    exact aw_iret rfl rfl ⟨Nat.le_refl _, Nat.le_refl _⟩ d_Fp_worthy_31
  · refine aw_iload_n d_Fp_worthy_11 2 rfl ?_
    refine aw_iconst d_Fp_worthy_12 ki_0 ?_
    refine aw_bipush d_Fp_worthy_13 kb_99 ?_
    refine aw_S_p (As := [.int a2, .int (0 : Int32), .int (99 : Int32)]) (m_Fp_within) cs_Fp_70 rfl rfl (Nat.le_of_ble_eq_true rfl) ⟨Nat.le_of_ble_eq_true rfl, Nat.le_of_ble_eq_true rfl⟩ ⟨Nat.le_refl _, Nat.le_refl _⟩ d_Fp_worthy_15 (fun y15 => ?_)
    refine aw_if_eq (tgt := 30) d_Fp_worthy_18 rfl (fun q18 => ?_) (fun q18 => ?_)
    · refine aw_iconst d_Fp_worthy_30 ki_m1 ?_
      exact aw_iret rfl rfl ⟨Nat.le_refl _, Nat.le_refl _⟩ d_Fp_worthy_31
    · refine aw_iload_n d_Fp_worthy_21 3 rfl ?_
      refine aw_iconst d_Fp_worthy_22 ki_0 ?_
      refine aw_iconst d_Fp_worthy_23 ki_1 ?_
      refine aw_S_p (As := [.int a3, .int (0 : Int32), .int (1 : Int32)]) (m_Fp_within) cs_Fp_70 rfl rfl (Nat.le_of_ble_eq_true rfl) ⟨Nat.le_of_ble_eq_true rfl, Nat.le_of_ble_eq_true rfl⟩ ⟨Nat.le_refl _, Nat.le_refl _⟩ d_Fp_worthy_24 (fun y24 => ?_)
      refine aw_if_ne (tgt := 32) d_Fp_worthy_27 rfl (fun q27 => ?_) (fun q27 => ?_)
      · refine aw_iconst d_Fp_worthy_30 ki_m1 ?_
        exact aw_iret rfl rfl ⟨Nat.le_refl _, Nat.le_refl _⟩ d_Fp_worthy_31
      · refine aw_aload_n d_Fp_worthy_32 0 rfl ?_
        refine aw_getR (t := 25) fl_Fp_43 kd_4 rt_4_7 d_Fp_worthy_33 ?_
        refine aw_aload_n d_Fp_worthy_36 0 rfl ?_
        refine aw_getR (t := 29) fl_Fp_57 kd_4 rt_4_9 d_Fp_worthy_37 ?_
        refine aw_iload_n d_Fp_worthy_40 1 rfl ?_
        refine aw_V_v (As := [.ref 29, .int a1]) (m_Ro_plan) cv_Fp_318 kd_25 rfl rfl rfl (Nat.le_of_ble_eq_true rfl) ⟨Nat.le_of_ble_eq_true rfl, Nat.le_of_ble_eq_true rfl⟩ ⟨Nat.le_refl _, Nat.le_refl _⟩ d_Fp_worthy_41 (fun y41 => ?_)
        refine aw_iconst d_Fp_worthy_44 ki_0 ?_
        refine aw_istore (lo' := [(4, .int (0 : Int32)), (0, .ref 4), (1, .int a1), (2, .int a2), (3, .int a3)]) d_Fp_worthy_45 (by decide) rfl ?_
        refine aw_iconst d_Fp_worthy_47 ki_0 ?_
        refine aw_istore (lo' := [(5, .int (0 : Int32)), (4, .int (0 : Int32)), (0, .ref 4), (1, .int a1), (2, .int a2), (3, .int a3)]) d_Fp_worthy_48 (by decide) rfl ?_
        refine aw_iconst d_Fp_worthy_50 ki_1 ?_
        refine aw_istore (lo' := [(6, .int (1 : Int32)), (5, .int (0 : Int32)), (4, .int (0 : Int32)), (0, .ref 4), (1, .int a1), (2, .int a2), (3, .int a3)]) d_Fp_worthy_51 (by decide) rfl ?_
        refine aw_sub (lo' := [(0, .ref 4), (1, .int a1), (2, .int a2), (3, .int a3), (4, .int (0 : Int32)), (5, .int (0 : Int32)), (6, .int (1 : Int32))]) [3, 4, 5, 6, 2, 1, 0] rfl ?_
        refine tl_Fp_worthy_53 _ _ _ _ _ (fun v4_53x v5_53x v6_53x => ?_) FU _ _ _
        · refine aw_iload_n d_Fp_worthy_116 3 rfl ?_
          refine aw_if_ne (tgt := 125) d_Fp_worthy_117 rfl (fun q117 => ?_) (fun q117 => ?_)
          · refine aw_iload d_Fp_worthy_120 4 rfl ?_
            refine aw_goto (tgt := 127) d_Fp_worthy_122 rfl ?_
            exact aw_iret rfl rfl ⟨Nat.le_refl _, Nat.le_refl _⟩ d_Fp_worthy_127
          · refine aw_iload d_Fp_worthy_125 5 rfl ?_
            exact aw_iret rfl rfl ⟨Nat.le_refl _, Nat.le_refl _⟩ d_Fp_worthy_127
def f_Fp_takes (a1 : Int32) (a2 : Int32) (a3 : Int32) (a4 : Int32) (δ : Dm) : Option (Int32 × Dm) := ((f_To_boothAt a1 δ).bind (fun o5 => ocs o5 (some ((0 : Int32), δ)) (fun t5 => if isB t5 = true then ((f_To_hasPlace a2 δ).bind (fun y20 => (if y20 = 0 then (some ((0 : Int32), δ)) else ((f_Fp_within a3 (0 : Int32) (9999 : Int32) δ).bind (fun y31 => (if y31 = 0 then (some ((0 : Int32), δ)) else ((f_Fp_within a4 a3 (9999 : Int32) δ).bind (fun y43 => (if y43 = 0 then (some ((0 : Int32), δ)) else ((f_Fp_put (t5 + 2) a2 a3 δ).bind (fun y58 => ((f_Fp_put (t5 + 3) a2 a4 y58).bind (fun y69 => (some ((1 : Int32), y69))))))))))))))) else none)))
set_option maxHeartbeats 4000000 in
set_option maxRecDepth 100000 in
theorem m_Fp_takes {a1 : Int32} {a2 : Int32} {a3 : Int32} {a4 : Int32} {δ : Dm} {n : Nat} : ∀ x, f_Fp_takes a1 a2 a3 a4 δ = some x → AMet k_Fp_takes 3 0 0 [.ref 4, .int a1, .int a2, .int a3, .int a4] δ RT n (Km RT n x) := by
  refine aw_start (lo := [(0, .ref 4), (1, .int a1), (2, .int a2), (3, .int a3), (4, .int a4)]) mok_Fp_takes rfl (Nat.le_of_ble_eq_true rfl) ?_
  unfold f_Fp_takes
  refine aw_aload_n d_Fp_takes_0 0 rfl ?_
  refine aw_getR (t := 29) fl_Fp_57 kd_4 rt_4_9 d_Fp_takes_1 ?_
  refine aw_iload_n d_Fp_takes_4 1 rfl ?_
  refine aw_V_r (As := [.int a1]) (m_To_boothAt) cv_Fp_139 kd_29 rfl rfl rfl (Nat.le_of_ble_eq_true rfl) ⟨Nat.le_of_ble_eq_true rfl, Nat.le_of_ble_eq_true rfl⟩ ⟨Nat.le_refl _, Nat.le_refl _⟩ d_Fp_takes_5 ?_ (fun t5 => ?_)
  · refine aw_astoreN (lo' := [(5, .null), (0, .ref 4), (1, .int a1), (2, .int a2), (3, .int a3), (4, .int a4)]) d_Fp_takes_8 (by decide) rfl ?_
    refine aw_aloadN d_Fp_takes_10 0 rfl ?_
    refine aw_ifnullN (tgt := 49) d_Fp_takes_12 rfl ?_
    refine aw_iconst d_Fp_takes_49 ki_0 ?_
    exact aw_zret rfl rfl rfl ⟨Nat.le_refl _, Nat.le_refl _⟩ d_Fp_takes_50
  · refine aw_grd (fun ht5 => ?_)
    refine aw_astore (lo' := [(5, .ref t5), (0, .ref 4), (1, .int a1), (2, .int a2), (3, .int a3), (4, .int a4)]) d_Fp_takes_8 (by decide) rfl ?_
    refine aw_aload d_Fp_takes_10 0 rfl ?_
    refine aw_ifnull d_Fp_takes_12 ?_
    refine aw_aload_n d_Fp_takes_15 1 rfl ?_
    refine aw_getR (t := 29) fl_Fp_57 kd_4 rt_4_9 d_Fp_takes_16 ?_
    refine aw_iload_n d_Fp_takes_19 3 rfl ?_
    refine aw_V_p (As := [.int a2]) (m_To_hasPlace) cv_Fp_81 kd_29 rfl rfl rfl (Nat.le_of_ble_eq_true rfl) ⟨Nat.le_of_ble_eq_true rfl, Nat.le_of_ble_eq_true rfl⟩ ⟨Nat.le_refl _, Nat.le_refl _⟩ d_Fp_takes_20 (fun y20 => ?_)
    refine aw_if_eq (tgt := 49) d_Fp_takes_23 rfl (fun q23 => ?_) (fun q23 => ?_)
    · refine aw_iconst d_Fp_takes_49 ki_0 ?_
      exact aw_zret rfl rfl rfl ⟨Nat.le_refl _, Nat.le_refl _⟩ d_Fp_takes_50
    · refine aw_iload_n d_Fp_takes_26 4 rfl ?_
      refine aw_iconst d_Fp_takes_27 ki_0 ?_
      refine aw_sipush d_Fp_takes_28 ks_9999 ?_
      refine aw_S_p (As := [.int a3, .int (0 : Int32), .int (9999 : Int32)]) (m_Fp_within) cs_Fp_70 rfl rfl (Nat.le_of_ble_eq_true rfl) ⟨Nat.le_of_ble_eq_true rfl, Nat.le_of_ble_eq_true rfl⟩ ⟨Nat.le_refl _, Nat.le_refl _⟩ d_Fp_takes_31 (fun y31 => ?_)
      refine aw_if_eq (tgt := 49) d_Fp_takes_34 rfl (fun q34 => ?_) (fun q34 => ?_)
      · refine aw_iconst d_Fp_takes_49 ki_0 ?_
        exact aw_zret rfl rfl rfl ⟨Nat.le_refl _, Nat.le_refl _⟩ d_Fp_takes_50
      · refine aw_iload d_Fp_takes_37 5 rfl ?_
        refine aw_iload_n d_Fp_takes_39 4 rfl ?_
        refine aw_sipush d_Fp_takes_40 ks_9999 ?_
        refine aw_S_p (As := [.int a4, .int a3, .int (9999 : Int32)]) (m_Fp_within) cs_Fp_70 rfl rfl (Nat.le_of_ble_eq_true rfl) ⟨Nat.le_of_ble_eq_true rfl, Nat.le_of_ble_eq_true rfl⟩ ⟨Nat.le_refl _, Nat.le_refl _⟩ d_Fp_takes_43 (fun y43 => ?_)
        refine aw_if_ne (tgt := 51) d_Fp_takes_46 rfl (fun q46 => ?_) (fun q46 => ?_)
        · refine aw_iconst d_Fp_takes_49 ki_0 ?_
          exact aw_zret rfl rfl rfl ⟨Nat.le_refl _, Nat.le_refl _⟩ d_Fp_takes_50
        · refine aw_aload d_Fp_takes_51 0 rfl ?_
          refine aw_getR (t := (t5 + 2)) fl_Fp_336 (fx_isBK ht5 0 (by decide)) (fx_isBR ht5 0 10 (by decide) (by decide)) d_Fp_takes_53 ?_
          refine aw_iload_n d_Fp_takes_56 3 rfl ?_
          refine aw_iload_n d_Fp_takes_57 4 rfl ?_
          refine aw_S_v (As := [.ref (t5 + 2), .int a2, .int a3]) (m_Fp_put (congrArg Prod.fst (fx_isBK ht5 2 (by decide)))) cs_Fp_77 rfl rfl (Nat.le_of_ble_eq_true rfl) ⟨Nat.le_of_ble_eq_true rfl, Nat.le_of_ble_eq_true rfl⟩ ⟨Nat.le_refl _, Nat.le_refl _⟩ d_Fp_takes_58 (fun y58 => ?_)
          refine aw_aload d_Fp_takes_61 0 rfl ?_
          refine aw_getR (t := (t5 + 3)) fl_Fp_339 (fx_isBK ht5 0 (by decide)) (fx_isBR ht5 0 11 (by decide) (by decide)) d_Fp_takes_63 ?_
          refine aw_iload_n d_Fp_takes_66 3 rfl ?_
          refine aw_iload d_Fp_takes_67 5 rfl ?_
          refine aw_S_v (As := [.ref (t5 + 3), .int a2, .int a4]) (m_Fp_put (congrArg Prod.fst (fx_isBK ht5 3 (by decide)))) cs_Fp_77 rfl rfl (Nat.le_of_ble_eq_true rfl) ⟨Nat.le_of_ble_eq_true rfl, Nat.le_of_ble_eq_true rfl⟩ ⟨Nat.le_refl _, Nat.le_refl _⟩ d_Fp_takes_69 (fun y69 => ?_)
          refine aw_iconst d_Fp_takes_72 ki_1 ?_
          exact aw_zret rfl rfl rfl ⟨Nat.le_refl _, Nat.le_refl _⟩ d_Fp_takes_73
def f_In_bitCount (a0 : Int32) (δ : Dm) : Option Int32 := (bnd (a0 - ((((a0).toUInt32 >>> (((1 : Int32)).toUInt32 &&& Int32.toUInt32 31)).toInt32) &&& (1431655765 : Int32))) (fun v9 => (bnd ((v9 &&& (858993459 : Int32)) + ((((v9).toUInt32 >>> (((2 : Int32)).toUInt32 &&& Int32.toUInt32 31)).toInt32) &&& (858993459 : Int32))) (fun v23 => (bnd ((v23 + (((v23).toUInt32 >>> (((4 : Int32)).toUInt32 &&& Int32.toUInt32 31)).toInt32)) &&& (252645135 : Int32)) (fun v33 => (bnd (v33 + (((v33).toUInt32 >>> (((8 : Int32)).toUInt32 &&& Int32.toUInt32 31)).toInt32)) (fun v40 => (bnd (v40 + (((v40).toUInt32 >>> (((16 : Int32)).toUInt32 &&& Int32.toUInt32 31)).toInt32)) (fun v47 => (some (v47 &&& (63 : Int32)))))))))))))
set_option maxHeartbeats 4000000 in
set_option maxRecDepth 100000 in
theorem m_In_bitCount {a0 : Int32} {δ : Dm} {n : Nat} : ∀ x, f_In_bitCount a0 δ = some x → AMet k_In_bitCount 1 0 0 [.int a0] δ RT n (Kp δ RT n x) := by
  refine aw_start (lo := [(0, .int a0)]) mok_In_bitCount rfl (Nat.le_of_ble_eq_true rfl) ?_
  unfold f_In_bitCount
  refine aw_iload_n d_In_bitCount_0 0 rfl ?_
  refine aw_iload_n d_In_bitCount_1 0 rfl ?_
  refine aw_iconst d_In_bitCount_2 ki_1 ?_
  refine aw_iushr d_In_bitCount_3 ?_
  refine aw_ldcw (v := (1431655765 : Int32)) d_In_bitCount_4 kc_In_265 ?_
  refine aw_iand d_In_bitCount_7 ?_
  refine aw_isub d_In_bitCount_8 ?_
  refine aw_bI (fun v9 => ?_)
  refine aw_istore_n (lo' := [(0, .int v9)]) d_In_bitCount_9 rfl (by decide) rfl ?_
  refine aw_iload_n d_In_bitCount_10 0 rfl ?_
  refine aw_ldcw (v := (858993459 : Int32)) d_In_bitCount_11 kc_In_266 ?_
  refine aw_iand d_In_bitCount_14 ?_
  refine aw_iload_n d_In_bitCount_15 0 rfl ?_
  refine aw_iconst d_In_bitCount_16 ki_2 ?_
  refine aw_iushr d_In_bitCount_17 ?_
  refine aw_ldcw (v := (858993459 : Int32)) d_In_bitCount_18 kc_In_266 ?_
  refine aw_iand d_In_bitCount_21 ?_
  refine aw_iadd d_In_bitCount_22 ?_
  refine aw_bI (fun v23 => ?_)
  refine aw_istore_n (lo' := [(0, .int v23)]) d_In_bitCount_23 rfl (by decide) rfl ?_
  refine aw_iload_n d_In_bitCount_24 0 rfl ?_
  refine aw_iload_n d_In_bitCount_25 0 rfl ?_
  refine aw_iconst d_In_bitCount_26 ki_4 ?_
  refine aw_iushr d_In_bitCount_27 ?_
  refine aw_iadd d_In_bitCount_28 ?_
  refine aw_ldcw (v := (252645135 : Int32)) d_In_bitCount_29 kc_In_267 ?_
  refine aw_iand d_In_bitCount_32 ?_
  refine aw_bI (fun v33 => ?_)
  refine aw_istore_n (lo' := [(0, .int v33)]) d_In_bitCount_33 rfl (by decide) rfl ?_
  refine aw_iload_n d_In_bitCount_34 0 rfl ?_
  refine aw_iload_n d_In_bitCount_35 0 rfl ?_
  refine aw_bipush d_In_bitCount_36 kb_8 ?_
  refine aw_iushr d_In_bitCount_38 ?_
  refine aw_iadd d_In_bitCount_39 ?_
  refine aw_bI (fun v40 => ?_)
  refine aw_istore_n (lo' := [(0, .int v40)]) d_In_bitCount_40 rfl (by decide) rfl ?_
  refine aw_iload_n d_In_bitCount_41 0 rfl ?_
  refine aw_iload_n d_In_bitCount_42 0 rfl ?_
  refine aw_bipush d_In_bitCount_43 kb_16 ?_
  refine aw_iushr d_In_bitCount_45 ?_
  refine aw_iadd d_In_bitCount_46 ?_
  refine aw_bI (fun v47 => ?_)
  refine aw_istore_n (lo' := [(0, .int v47)]) d_In_bitCount_47 rfl (by decide) rfl ?_
  refine aw_iload_n d_In_bitCount_48 0 rfl ?_
  refine aw_bipush d_In_bitCount_49 kb_63 ?_
  refine aw_iand d_In_bitCount_51 ?_
  exact aw_iret rfl rfl ⟨Nat.le_refl _, Nat.le_refl _⟩ d_In_bitCount_52
def jp_Cr_coinsBy_59 (a2 : Int32) (a3 : Int32) (a4 : Int32) (t2 : Nat) (δ : Dm) (v6_59 : Int32) (s0_59 : Int32) : Option Int32 := ((f_Fp_get 28 (a3 ||| ((1 : Int32) <<< (a4 &&& 31))) δ).bind (fun y76 => (some ((v6_59 - s0_59) + y76))))
set_option maxHeartbeats 4000000 in
set_option maxRecDepth 100000 in
theorem tj_Cr_coinsBy_59 {n : Nat} (a2 : Int32) (a3 : Int32) (a4 : Int32) (t2 : Nat) (δ : Dm) (v6_59 : Int32) (s0_59 : Int32) (ht2 : isB t2 = true) : AWo k_Cr_coinsBy 3 0 0 59 [(0, .ref 27), (1, .ref 29), (2, .int a2), (3, .int a3), (4, .int a4), (5, .ref t2), (6, .int v6_59)] [.int s0_59] δ RT n 0 0 (Kp δ RT n) (jp_Cr_coinsBy_59 a2 a3 a4 t2 δ v6_59 s0_59) := by
  unfold jp_Cr_coinsBy_59
  refine aw_istore (lo' := [(7, .int s0_59), (0, .ref 27), (1, .ref 29), (2, .int a2), (3, .int a3), (4, .int a4), (5, .ref t2), (6, .int v6_59)]) d_Cr_coinsBy_59 (by decide) rfl ?_
  refine aw_iload d_Cr_coinsBy_61 7 rfl ?_
  refine aw_iload d_Cr_coinsBy_63 0 rfl ?_
  refine aw_isub d_Cr_coinsBy_65 ?_
  refine aw_aload_n d_Cr_coinsBy_66 1 rfl ?_
  refine aw_getR (t := 28) fl_Cr_9 kd_27 rt_27_0 d_Cr_coinsBy_67 ?_
  refine aw_iload_n d_Cr_coinsBy_70 4 rfl ?_
  refine aw_iconst d_Cr_coinsBy_71 ki_1 ?_
  refine aw_iload d_Cr_coinsBy_72 5 rfl ?_
  refine aw_ishl d_Cr_coinsBy_74 ?_
  refine aw_ior d_Cr_coinsBy_75 ?_
  refine aw_SN_p (As := [.ref 28, .int (a3 ||| ((1 : Int32) <<< (a4 &&& 31)))]) (m_Fp_get (congrArg Prod.fst kd_28)) cs_Cr_68 rfl rfl (Nat.le_of_ble_eq_true rfl) ⟨Nat.le_of_ble_eq_true rfl, Nat.le_of_ble_eq_true rfl⟩ ⟨Nat.le_refl _, Nat.le_refl _⟩ d_Cr_coinsBy_76 (fun y76 => ?_)
  refine aw_iadd d_Cr_coinsBy_79 ?_
  exact aw_iret rfl rfl ⟨Nat.le_refl _, Nat.le_refl _⟩ d_Cr_coinsBy_80
def f_Cr_coinsBy (a2 : Int32) (a3 : Int32) (a4 : Int32) (δ : Dm) : Option Int32 := ((f_To_boothAt a2 δ).bind (fun o2 => ocs o2 (some (0 : Int32)) (fun t2 => if isB t2 = true then (if (gI δ 27 1) = 0 then ((f_Fp_get (t2 + 2) a4 δ).bind (fun y36 => (if (gI δ t2 0) = a4 then (jp_Cr_coinsBy_59 a2 a3 a4 t2 δ y36 (0 : Int32)) else (jp_Cr_coinsBy_59 a2 a3 a4 t2 δ y36 (gI δ 27 2))))) else ((f_Fp_get (t2 + 3) a4 δ).bind (fun y36_1 => (if (gI δ t2 0) = a4 then (jp_Cr_coinsBy_59 a2 a3 a4 t2 δ y36_1 (0 : Int32)) else (jp_Cr_coinsBy_59 a2 a3 a4 t2 δ y36_1 (gI δ 27 2)))))) else none)))
set_option maxHeartbeats 4000000 in
set_option maxRecDepth 100000 in
theorem m_Cr_coinsBy {a2 : Int32} {a3 : Int32} {a4 : Int32} {δ : Dm} {n : Nat} : ∀ x, f_Cr_coinsBy a2 a3 a4 δ = some x → AMet k_Cr_coinsBy 3 0 0 [.ref 27, .ref 29, .int a2, .int a3, .int a4] δ RT n (Kp δ RT n x) := by
  refine aw_start (lo := [(0, .ref 27), (1, .ref 29), (2, .int a2), (3, .int a3), (4, .int a4)]) mok_Cr_coinsBy rfl (Nat.le_of_ble_eq_true rfl) ?_
  unfold f_Cr_coinsBy
  refine aw_aload_n d_Cr_coinsBy_0 1 rfl ?_
  refine aw_iload_n d_Cr_coinsBy_1 2 rfl ?_
  refine aw_V_r (As := [.int a2]) (m_To_boothAt) cv_Cr_56 kd_29 rfl rfl rfl (Nat.le_of_ble_eq_true rfl) ⟨Nat.le_of_ble_eq_true rfl, Nat.le_of_ble_eq_true rfl⟩ ⟨Nat.le_refl _, Nat.le_refl _⟩ d_Cr_coinsBy_2 ?_ (fun t2 => ?_)
  · refine aw_astoreN (lo' := [(5, .null), (0, .ref 27), (1, .ref 29), (2, .int a2), (3, .int a3), (4, .int a4)]) d_Cr_coinsBy_5 (by decide) rfl ?_
    refine aw_aloadN d_Cr_coinsBy_7 0 rfl ?_
    refine aw_ifnonnullN d_Cr_coinsBy_9 ?_
    refine aw_iconst d_Cr_coinsBy_12 ki_0 ?_
    exact aw_iret rfl rfl ⟨Nat.le_refl _, Nat.le_refl _⟩ d_Cr_coinsBy_13
  · refine aw_grd (fun ht2 => ?_)
    refine aw_astore (lo' := [(5, .ref t2), (0, .ref 27), (1, .ref 29), (2, .int a2), (3, .int a3), (4, .int a4)]) d_Cr_coinsBy_5 (by decide) rfl ?_
    refine aw_aload d_Cr_coinsBy_7 0 rfl ?_
    refine aw_ifnonnull (tgt := 14) d_Cr_coinsBy_9 rfl ?_
    refine aw_aload_n d_Cr_coinsBy_14 1 rfl ?_
    refine aw_getI fl_Cr_15 kd_27 d_Cr_coinsBy_15 ?_
    refine aw_if_eq (tgt := 29) d_Cr_coinsBy_18 rfl (fun q18 => ?_) (fun q18 => ?_)
    · refine aw_aload d_Cr_coinsBy_29 0 rfl ?_
      refine aw_getR (t := (t2 + 2)) fl_Cr_65 (fx_isBK ht2 0 (by decide)) (fx_isBR ht2 0 10 (by decide) (by decide)) d_Cr_coinsBy_31 ?_
      refine aw_iload d_Cr_coinsBy_34 5 rfl ?_
      refine aw_SN_p (As := [.ref (t2 + 2), .int a4]) (m_Fp_get (congrArg Prod.fst (fx_isBK ht2 2 (by decide)))) cs_Cr_68 rfl rfl (Nat.le_of_ble_eq_true rfl) ⟨Nat.le_of_ble_eq_true rfl, Nat.le_of_ble_eq_true rfl⟩ ⟨Nat.le_refl _, Nat.le_refl _⟩ d_Cr_coinsBy_36 (fun y36 => ?_)
      refine aw_istore (lo' := [(6, .int y36), (5, .ref t2), (0, .ref 27), (1, .ref 29), (2, .int a2), (3, .int a3), (4, .int a4)]) d_Cr_coinsBy_39 (by decide) rfl ?_
      refine aw_aload d_Cr_coinsBy_41 1 rfl ?_
      refine aw_getI fl_Cr_72 (fx_isBK ht2 0 (by decide)) d_Cr_coinsBy_43 ?_
      refine aw_iload d_Cr_coinsBy_46 6 rfl ?_
      refine aw_icmp_ne (tgt := 55) d_Cr_coinsBy_48 rfl (fun q48 => ?_) (fun q48 => ?_)
      · refine aw_iconst d_Cr_coinsBy_51 ki_0 ?_
        refine aw_goto (tgt := 59) d_Cr_coinsBy_52 rfl ?_
        refine aw_sub (lo' := [(0, .ref 27), (1, .ref 29), (2, .int a2), (3, .int a3), (4, .int a4), (5, .ref t2), (6, .int y36)]) [2, 3, 4, 5, 6, 1, 0] rfl ?_
        exact tj_Cr_coinsBy_59 _ _ _ _ _ _ _ ht2
      · refine aw_aload_n d_Cr_coinsBy_55 2 rfl ?_
        refine aw_getI fl_Cr_19 kd_27 d_Cr_coinsBy_56 ?_
        refine aw_sub (lo' := [(0, .ref 27), (1, .ref 29), (2, .int a2), (3, .int a3), (4, .int a4), (5, .ref t2), (6, .int y36)]) [2, 3, 4, 5, 6, 1, 0] rfl ?_
        exact tj_Cr_coinsBy_59 _ _ _ _ _ _ _ ht2
    · refine aw_aload d_Cr_coinsBy_21 0 rfl ?_
      refine aw_getR (t := (t2 + 3)) fl_Cr_60 (fx_isBK ht2 0 (by decide)) (fx_isBR ht2 0 11 (by decide) (by decide)) d_Cr_coinsBy_23 ?_
      refine aw_goto (tgt := 34) d_Cr_coinsBy_26 rfl ?_
      refine aw_iload d_Cr_coinsBy_34 5 rfl ?_
      refine aw_SN_p (As := [.ref (t2 + 3), .int a4]) (m_Fp_get (congrArg Prod.fst (fx_isBK ht2 3 (by decide)))) cs_Cr_68 rfl rfl (Nat.le_of_ble_eq_true rfl) ⟨Nat.le_of_ble_eq_true rfl, Nat.le_of_ble_eq_true rfl⟩ ⟨Nat.le_refl _, Nat.le_refl _⟩ d_Cr_coinsBy_36 (fun y36_1 => ?_)
      refine aw_istore (lo' := [(6, .int y36_1), (5, .ref t2), (0, .ref 27), (1, .ref 29), (2, .int a2), (3, .int a3), (4, .int a4)]) d_Cr_coinsBy_39 (by decide) rfl ?_
      refine aw_aload d_Cr_coinsBy_41 1 rfl ?_
      refine aw_getI fl_Cr_72 (fx_isBK ht2 0 (by decide)) d_Cr_coinsBy_43 ?_
      refine aw_iload d_Cr_coinsBy_46 6 rfl ?_
      refine aw_icmp_ne (tgt := 55) d_Cr_coinsBy_48 rfl (fun q48 => ?_) (fun q48 => ?_)
      · refine aw_iconst d_Cr_coinsBy_51 ki_0 ?_
        refine aw_goto (tgt := 59) d_Cr_coinsBy_52 rfl ?_
        refine aw_sub (lo' := [(0, .ref 27), (1, .ref 29), (2, .int a2), (3, .int a3), (4, .int a4), (5, .ref t2), (6, .int y36_1)]) [2, 3, 4, 5, 6, 1, 0] rfl ?_
        exact tj_Cr_coinsBy_59 _ _ _ _ _ _ _ ht2
      · refine aw_aload_n d_Cr_coinsBy_55 2 rfl ?_
        refine aw_getI fl_Cr_19 kd_27 d_Cr_coinsBy_56 ?_
        refine aw_sub (lo' := [(0, .ref 27), (1, .ref 29), (2, .int a2), (3, .int a3), (4, .int a4), (5, .ref t2), (6, .int y36_1)]) [2, 3, 4, 5, 6, 1, 0] rfl ?_
        exact tj_Cr_coinsBy_59 _ _ _ _ _ _ _ ht2
def lp_Cr_mostOf_7 (kx7_47 : Int32 → Int32 → Option Int32) (a2 : Int32) (a3 : Int32) (δ : Dm) : Nat → Int32 → Int32 → Option Int32
  | 0, _, _ => none
  | f + 1, v4_7, v5_7 => (if (gI δ 29 1) ≤ v5_7 then (kx7_47 v4_7 v5_7) else (if ((a3 >>> (v5_7 &&& 31)) &&& (1 : Int32)) = 0 then ((f_Cr_coinsBy a2 a3 v5_7 δ).bind (fun y33 => (bnd (if v4_7 < y33 then y33 else v4_7) (fun v39 => (lp_Cr_mostOf_7 kx7_47 a2 a3 δ f v39 (v5_7 + (1 : Int32))))))) else (lp_Cr_mostOf_7 kx7_47 a2 a3 δ f v4_7 (v5_7 + (1 : Int32)))))
set_option maxHeartbeats 4000000 in
set_option maxRecDepth 100000 in
theorem tl_Cr_mostOf_7 {n : Nat} (kx7_47 : Int32 → Int32 → Option Int32) (a2 : Int32) (a3 : Int32) (δ : Dm) (hkx7_47 : ∀ v4_7k v5_7k, AWo k_Cr_mostOf 4 0 0 47 [(0, .ref 27), (1, .ref 29), (2, .int a2), (3, .int a3), (4, .int v4_7k), (5, .int v5_7k)] [] δ RT n 0 0 (Kp δ RT n) (kx7_47 v4_7k v5_7k)) : ∀ (f : Nat) (v4_7 : Int32) (v5_7 : Int32), AWo k_Cr_mostOf 4 0 0 7 [(0, .ref 27), (1, .ref 29), (2, .int a2), (3, .int a3), (4, .int v4_7), (5, .int v5_7)] [] δ RT n 0 0 (Kp δ RT n) (lp_Cr_mostOf_7 kx7_47 a2 a3 δ f v4_7 v5_7) := by
  intro f
  induction f with
  | zero => intro _ _; exact aw_none
  | succ f ih =>
    intro v4_7 v5_7
    rw [lp_Cr_mostOf_7]
    refine aw_iload d_Cr_mostOf_7 5 rfl ?_
    refine aw_aload_n d_Cr_mostOf_9 1 rfl ?_
    refine aw_getI fl_Cr_23 kd_29 d_Cr_mostOf_10 ?_
    refine aw_icmp_ge (tgt := 47) d_Cr_mostOf_13 rfl (fun q13 => ?_) (fun q13 => ?_)
    · refine aw_sub (lo' := [(0, .ref 27), (1, .ref 29), (2, .int a2), (3, .int a3), (4, .int v4_7), (5, .int v5_7)]) [0, 1, 2, 3, 4, 5] rfl ?_
      exact hkx7_47 _ _
    · refine aw_iload_n d_Cr_mostOf_16 3 rfl ?_
      refine aw_iload d_Cr_mostOf_17 5 rfl ?_
      refine aw_ishr d_Cr_mostOf_19 ?_
      refine aw_iconst d_Cr_mostOf_20 ki_1 ?_
      refine aw_iand d_Cr_mostOf_21 ?_
      refine aw_if_ne (tgt := 41) d_Cr_mostOf_22 rfl (fun q22 => ?_) (fun q22 => ?_)
      · refine aw_iload d_Cr_mostOf_25 4 rfl ?_
        refine aw_aload_n d_Cr_mostOf_27 0 rfl ?_
        refine aw_aload_n d_Cr_mostOf_28 1 rfl ?_
        refine aw_iload_n d_Cr_mostOf_29 2 rfl ?_
        refine aw_iload_n d_Cr_mostOf_30 3 rfl ?_
        refine aw_iload d_Cr_mostOf_31 5 rfl ?_
        refine aw_V_p (As := [.ref 29, .int a2, .int a3, .int v5_7]) (m_Cr_coinsBy) cv_Cr_46 kd_27 rfl rfl rfl (Nat.le_of_ble_eq_true rfl) ⟨Nat.le_of_ble_eq_true rfl, Nat.le_of_ble_eq_true rfl⟩ ⟨Nat.le_refl _, Nat.le_refl _⟩ d_Cr_mostOf_33 (fun y33 => ?_)
        refine aw_maxI ml_Cr_50 ms_maxI mi_Ma mx_maxI (Nat.le_of_ble_eq_true rfl) (Nat.le_of_ble_eq_true rfl) ⟨Nat.le_refl _, Nat.le_refl _⟩ d_Cr_mostOf_36 ?_
        refine aw_bI (fun v39 => ?_)
        refine aw_istore (lo' := [(4, .int v39), (0, .ref 27), (1, .ref 29), (2, .int a2), (3, .int a3), (5, .int v5_7)]) d_Cr_mostOf_39 (by decide) rfl ?_
        refine aw_iinc (v := (v5_7 + (1 : Int32))) (lo' := [(5, .int (v5_7 + (1 : Int32))), (4, .int v39), (0, .ref 27), (1, .ref 29), (2, .int a2), (3, .int a3)]) d_Cr_mostOf_41 5 rfl (by rw [show Int32.ofInt (1) = (1 : Int32) from by decide]) (by decide) rfl ?_
        refine aw_goto (tgt := 7) d_Cr_mostOf_44 rfl ?_
        refine aw_sub (lo' := [(0, .ref 27), (1, .ref 29), (2, .int a2), (3, .int a3), (4, .int v39), (5, .int (v5_7 + (1 : Int32)))]) [2, 3, 4, 5, 1, 0] rfl ?_
        exact ih _ _
      · refine aw_iinc (v := (v5_7 + (1 : Int32))) (lo' := [(5, .int (v5_7 + (1 : Int32))), (0, .ref 27), (1, .ref 29), (2, .int a2), (3, .int a3), (4, .int v4_7)]) d_Cr_mostOf_41 5 rfl (by rw [show Int32.ofInt (1) = (1 : Int32) from by decide]) (by decide) rfl ?_
        refine aw_goto (tgt := 7) d_Cr_mostOf_44 rfl ?_
        refine aw_sub (lo' := [(0, .ref 27), (1, .ref 29), (2, .int a2), (3, .int a3), (4, .int v4_7), (5, .int (v5_7 + (1 : Int32)))]) [1, 2, 3, 4, 5, 0] rfl ?_
        exact ih _ _
def f_Cr_mostOf (a2 : Int32) (a3 : Int32) (δ : Dm) : Option Int32 := (lp_Cr_mostOf_7 (fun v4_7x v5_7x => (some v4_7x)) a2 a3 δ FU (-1000000000 : Int32) (0 : Int32))
set_option maxHeartbeats 4000000 in
set_option maxRecDepth 100000 in
theorem m_Cr_mostOf {a2 : Int32} {a3 : Int32} {δ : Dm} {n : Nat} : ∀ x, f_Cr_mostOf a2 a3 δ = some x → AMet k_Cr_mostOf 4 0 0 [.ref 27, .ref 29, .int a2, .int a3] δ RT n (Kp δ RT n x) := by
  refine aw_start (lo := [(0, .ref 27), (1, .ref 29), (2, .int a2), (3, .int a3)]) mok_Cr_mostOf rfl (Nat.le_of_ble_eq_true rfl) ?_
  unfold f_Cr_mostOf
  refine aw_ldc (v := (-1000000000 : Int32)) d_Cr_mostOf_0 kc_Cr_45 ?_
  refine aw_istore (lo' := [(4, .int (-1000000000 : Int32)), (0, .ref 27), (1, .ref 29), (2, .int a2), (3, .int a3)]) d_Cr_mostOf_2 (by decide) rfl ?_
  refine aw_iconst d_Cr_mostOf_4 ki_0 ?_
  refine aw_istore (lo' := [(5, .int (0 : Int32)), (4, .int (-1000000000 : Int32)), (0, .ref 27), (1, .ref 29), (2, .int a2), (3, .int a3)]) d_Cr_mostOf_5 (by decide) rfl ?_
  refine aw_sub (lo' := [(0, .ref 27), (1, .ref 29), (2, .int a2), (3, .int a3), (4, .int (-1000000000 : Int32)), (5, .int (0 : Int32))]) [2, 3, 4, 5, 1, 0] rfl ?_
  refine tl_Cr_mostOf_7 _ _ _ _ (fun v4_7x v5_7x => ?_) FU _ _
  · refine aw_iload d_Cr_mostOf_47 4 rfl ?_
    exact aw_iret rfl rfl ⟨Nat.le_refl _, Nat.le_refl _⟩ d_Cr_mostOf_49
def jp_Cr_plan_60 (kr20 : Int32 → Dm → Option Dm) (kx20_69 : Int32 → Dm → Option Dm) (a2 : Int32) (a3 : Int32) (v4_20 : Int32) (y27 : Int32) (δ20 : Dm) (s0_60 : Int32) : Option Dm := ((f_Fp_put 28 v4_20 s0_60 δ20).bind (fun y60 => (kr20 (v4_20 + (-1 : Int32)) y60)))
set_option maxHeartbeats 4000000 in
set_option maxRecDepth 100000 in
theorem tj_Cr_plan_60 {n : Nat} (kr20 : Int32 → Dm → Option Dm) (kx20_69 : Int32 → Dm → Option Dm) (a2 : Int32) (a3 : Int32) (v4_20 : Int32) (y27 : Int32) (δ20 : Dm) (s0_60 : Int32) (hkr20 : ∀ v4_20k δ20k, AWo k_Cr_plan 5 0 0 20 [(0, .ref 27), (1, .ref 29), (2, .int a2), (3, .int a3), (4, .int v4_20k)] [] δ20k RT n 0 0 (Kv RT n) (kr20 v4_20k δ20k)) (hkx20_69 : ∀ v4_20k δ20k, AWo k_Cr_plan 5 0 0 69 [(0, .ref 27), (1, .ref 29), (2, .int a2), (3, .int a3), (4, .int v4_20k)] [] δ20k RT n 0 0 (Kv RT n) (kx20_69 v4_20k δ20k)) : AWo k_Cr_plan 5 0 0 60 [(0, .ref 27), (1, .ref 29), (2, .int a2), (3, .int a3), (4, .int v4_20), (5, .int y27)] [.int s0_60, .int v4_20, .ref 28] δ20 RT n 0 0 (Kv RT n) (jp_Cr_plan_60 kr20 kx20_69 a2 a3 v4_20 y27 δ20 s0_60) := by
  unfold jp_Cr_plan_60
  refine aw_SN_v (As := [.ref 28, .int v4_20, .int s0_60]) (m_Fp_put (congrArg Prod.fst kd_28)) cs_Cr_41 rfl rfl (Nat.le_of_ble_eq_true rfl) ⟨Nat.le_of_ble_eq_true rfl, Nat.le_of_ble_eq_true rfl⟩ ⟨Nat.le_refl _, Nat.le_refl _⟩ d_Cr_plan_60 (fun y60 => ?_)
  refine aw_iinc (v := (v4_20 + (-1 : Int32))) (lo' := [(4, .int (v4_20 + (-1 : Int32))), (0, .ref 27), (1, .ref 29), (2, .int a2), (3, .int a3), (5, .int y27)]) d_Cr_plan_63 4 rfl (by rw [show Int32.ofInt (-1) = (-1 : Int32) from by decide]) (by decide) rfl ?_
  refine aw_goto (tgt := 20) d_Cr_plan_66 rfl ?_
  refine aw_sub (lo' := [(0, .ref 27), (1, .ref 29), (2, .int a2), (3, .int a3), (4, .int (v4_20 + (-1 : Int32)))]) [1, 2, 3, 4, 0] rfl ?_
  exact hkr20 _ _
def lp_Cr_plan_20 (kx20_69 : Int32 → Dm → Option Dm) (a2 : Int32) (a3 : Int32) : Nat → Int32 → Dm → Option Dm
  | 0, _, _ => none
  | f + 1, v4_20, δ20 => (if v4_20 < 0 then (kx20_69 v4_20 δ20) else ((f_In_bitCount v4_20 δ20).bind (fun y27 => (if (gI δ20 29 2) ≤ y27 then (jp_Cr_plan_60 (lp_Cr_plan_20 kx20_69 a2 a3 f) kx20_69 a2 a3 v4_20 y27 δ20 (0 : Int32)) else ((f_Cr_mostOf y27 v4_20 δ20).bind (fun y53 => (jp_Cr_plan_60 (lp_Cr_plan_20 kx20_69 a2 a3 f) kx20_69 a2 a3 v4_20 y27 δ20 y53)))))))
set_option maxHeartbeats 4000000 in
set_option maxRecDepth 100000 in
theorem tl_Cr_plan_20 {n : Nat} (kx20_69 : Int32 → Dm → Option Dm) (a2 : Int32) (a3 : Int32) (hkx20_69 : ∀ v4_20k δ20k, AWo k_Cr_plan 5 0 0 69 [(0, .ref 27), (1, .ref 29), (2, .int a2), (3, .int a3), (4, .int v4_20k)] [] δ20k RT n 0 0 (Kv RT n) (kx20_69 v4_20k δ20k)) : ∀ (f : Nat) (v4_20 : Int32) (δ20 : Dm), AWo k_Cr_plan 5 0 0 20 [(0, .ref 27), (1, .ref 29), (2, .int a2), (3, .int a3), (4, .int v4_20)] [] δ20 RT n 0 0 (Kv RT n) (lp_Cr_plan_20 kx20_69 a2 a3 f v4_20 δ20) := by
  intro f
  induction f with
  | zero => intro _ _; exact aw_none
  | succ f ih =>
    intro v4_20 δ20
    rw [lp_Cr_plan_20]
    refine aw_iload d_Cr_plan_20 4 rfl ?_
    refine aw_if_lt (tgt := 69) d_Cr_plan_22 rfl (fun q22 => ?_) (fun q22 => ?_)
    · refine aw_sub (lo' := [(0, .ref 27), (1, .ref 29), (2, .int a2), (3, .int a3), (4, .int v4_20)]) [0, 1, 2, 3, 4] rfl ?_
      exact hkx20_69 _ _
    · refine aw_iload d_Cr_plan_25 4 rfl ?_
      refine aw_S_p (As := [.int v4_20]) (m_In_bitCount) cs_Cr_28 rfl rfl (Nat.le_of_ble_eq_true rfl) ⟨Nat.le_of_ble_eq_true rfl, Nat.le_of_ble_eq_true rfl⟩ ⟨Nat.le_refl _, Nat.le_refl _⟩ d_Cr_plan_27 (fun y27 => ?_)
      refine aw_istore (lo' := [(5, .int y27), (0, .ref 27), (1, .ref 29), (2, .int a2), (3, .int a3), (4, .int v4_20)]) d_Cr_plan_30 (by decide) rfl ?_
      refine aw_aload_n d_Cr_plan_32 1 rfl ?_
      refine aw_getR (t := 28) fl_Cr_9 kd_27 rt_27_0 d_Cr_plan_33 ?_
      refine aw_iload d_Cr_plan_36 5 rfl ?_
      refine aw_iload d_Cr_plan_38 0 rfl ?_
      refine aw_aload_n d_Cr_plan_40 2 rfl ?_
      refine aw_getI fl_Cr_34 kd_29 d_Cr_plan_41 ?_
      refine aw_icmp_ge (tgt := 59) d_Cr_plan_44 rfl (fun q44 => ?_) (fun q44 => ?_)
      · refine aw_iconst d_Cr_plan_59 ki_0 ?_
        refine aw_sub (lo' := [(0, .ref 27), (1, .ref 29), (2, .int a2), (3, .int a3), (4, .int v4_20), (5, .int y27)]) [1, 2, 3, 4, 5, 0] rfl ?_
        exact tj_Cr_plan_60 _ _ _ _ _ _ _ _ ih hkx20_69
      · refine aw_aload_n d_Cr_plan_47 1 rfl ?_
        refine aw_aload_n d_Cr_plan_48 2 rfl ?_
        refine aw_iload d_Cr_plan_49 0 rfl ?_
        refine aw_iload d_Cr_plan_51 5 rfl ?_
        refine aw_V_p (As := [.ref 29, .int y27, .int v4_20]) (m_Cr_mostOf) cv_Cr_37 kd_27 rfl rfl rfl (Nat.le_of_ble_eq_true rfl) ⟨Nat.le_of_ble_eq_true rfl, Nat.le_of_ble_eq_true rfl⟩ ⟨Nat.le_refl _, Nat.le_refl _⟩ d_Cr_plan_53 (fun y53 => ?_)
        refine aw_goto (tgt := 60) d_Cr_plan_56 rfl ?_
        refine aw_sub (lo' := [(0, .ref 27), (1, .ref 29), (2, .int a2), (3, .int a3), (4, .int v4_20), (5, .int y27)]) [1, 2, 3, 4, 5, 0] rfl ?_
        exact tj_Cr_plan_60 _ _ _ _ _ _ _ _ ih hkx20_69
def f_Cr_plan (a2 : Int32) (a3 : Int32) (δ : Dm) : Option Dm := (if a2 = 0 ∨ a2 = 1 then bnd (sI δ 27 1 a2) (fun δ_2 => (bnd (sI δ_2 27 2 a3) (fun δ_7 => (bnd (((1 : Int32) <<< ((gI δ_7 29 1) &&& 31)) - (1 : Int32)) (fun v18 => (lp_Cr_plan_20 (fun v4_20x δ20x => (some δ20x)) a2 a3 FU v18 δ_7)))))) else none)
set_option maxHeartbeats 4000000 in
set_option maxRecDepth 100000 in
theorem m_Cr_plan {a2 : Int32} {a3 : Int32} {δ : Dm} {n : Nat} : ∀ x, f_Cr_plan a2 a3 δ = some x → AMet k_Cr_plan 5 0 0 [.ref 27, .ref 29, .int a2, .int a3] δ RT n (Kv RT n x) := by
  refine aw_start (lo := [(0, .ref 27), (1, .ref 29), (2, .int a2), (3, .int a3)]) mok_Cr_plan rfl (Nat.le_of_ble_eq_true rfl) ?_
  unfold f_Cr_plan
  refine aw_aload_n d_Cr_plan_0 0 rfl ?_
  refine aw_iload_n d_Cr_plan_1 2 rfl ?_
  refine aw_putZ pf_Cr_15 kd_27 d_Cr_plan_2 ?_
  refine aw_bD (fun δ_2 => ?_)
  refine aw_aload_n d_Cr_plan_5 0 rfl ?_
  refine aw_iload_n d_Cr_plan_6 3 rfl ?_
  refine aw_putI pf_Cr_19 kd_27 d_Cr_plan_7 ?_
  refine aw_bD (fun δ_7 => ?_)
  refine aw_iconst d_Cr_plan_10 ki_1 ?_
  refine aw_aload_n d_Cr_plan_11 1 rfl ?_
  refine aw_getI fl_Cr_23 kd_29 d_Cr_plan_12 ?_
  refine aw_ishl d_Cr_plan_15 ?_
  refine aw_iconst d_Cr_plan_16 ki_1 ?_
  refine aw_isub d_Cr_plan_17 ?_
  refine aw_bI (fun v18 => ?_)
  refine aw_istore (lo' := [(4, .int v18), (0, .ref 27), (1, .ref 29), (2, .int a2), (3, .int a3)]) d_Cr_plan_18 (by decide) rfl ?_
  refine aw_sub (lo' := [(0, .ref 27), (1, .ref 29), (2, .int a2), (3, .int a3), (4, .int v18)]) [1, 2, 3, 4, 0] rfl ?_
  refine tl_Cr_plan_20 _ _ _ (fun v4_20x δ20x => ?_) FU _ _
  · exact aw_vret rfl rfl ⟨Nat.le_refl _, Nat.le_refl _⟩ d_Cr_plan_69
def f_Cr_together (δ : Dm) : Option Int32 := ((f_Fp_get 28 (0 : Int32) δ).bind (fun y5 => (some y5)))
set_option maxHeartbeats 4000000 in
set_option maxRecDepth 100000 in
theorem m_Cr_together {δ : Dm} {n : Nat} : ∀ x, f_Cr_together δ = some x → AMet k_Cr_together 2 0 0 [.ref 27] δ RT n (Kp δ RT n x) := by
  refine aw_start (lo := [(0, .ref 27)]) mok_Cr_together rfl (Nat.le_of_ble_eq_true rfl) ?_
  unfold f_Cr_together
  refine aw_aload_n d_Cr_together_0 0 rfl ?_
  refine aw_getR (t := 28) fl_Cr_9 kd_27 rt_27_0 d_Cr_together_1 ?_
  refine aw_iconst d_Cr_together_4 ki_0 ?_
  refine aw_SN_p (As := [.ref 28, .int (0 : Int32)]) (m_Fp_get (congrArg Prod.fst kd_28)) cs_Cr_68 rfl rfl (Nat.le_of_ble_eq_true rfl) ⟨Nat.le_of_ble_eq_true rfl, Nat.le_of_ble_eq_true rfl⟩ ⟨Nat.le_refl _, Nat.le_refl _⟩ d_Cr_together_5 (fun y5 => ?_)
  exact aw_iret rfl rfl ⟨Nat.le_refl _, Nat.le_refl _⟩ d_Cr_together_8
def lp_Cr_firstSpot_3 (kx3_50 : Int32 → Option Int32) (a2 : Int32) (a3 : Int32) (δ : Dm) : Nat → Int32 → Option Int32
  | 0, _ => none
  | f + 1, v4_3 => (if (gI δ 29 1) ≤ v4_3 then (kx3_50 v4_3) else (if ((a3 >>> (v4_3 &&& 31)) &&& (1 : Int32)) = 0 then ((f_Cr_coinsBy a2 a3 v4_3 δ).bind (fun y27 => ((f_Fp_get 28 a3 δ).bind (fun y35 => (if y27 = y35 then (some v4_3) else (lp_Cr_firstSpot_3 kx3_50 a2 a3 δ f (v4_3 + (1 : Int32)))))))) else (lp_Cr_firstSpot_3 kx3_50 a2 a3 δ f (v4_3 + (1 : Int32)))))
set_option maxHeartbeats 4000000 in
set_option maxRecDepth 100000 in
theorem tl_Cr_firstSpot_3 {n : Nat} (kx3_50 : Int32 → Option Int32) (a2 : Int32) (a3 : Int32) (δ : Dm) (hkx3_50 : ∀ v4_3k, AWo k_Cr_firstSpot 4 0 0 50 [(0, .ref 27), (1, .ref 29), (2, .int a2), (3, .int a3), (4, .int v4_3k)] [] δ RT n 0 0 (Kp δ RT n) (kx3_50 v4_3k)) : ∀ (f : Nat) (v4_3 : Int32), AWo k_Cr_firstSpot 4 0 0 3 [(0, .ref 27), (1, .ref 29), (2, .int a2), (3, .int a3), (4, .int v4_3)] [] δ RT n 0 0 (Kp δ RT n) (lp_Cr_firstSpot_3 kx3_50 a2 a3 δ f v4_3) := by
  intro f
  induction f with
  | zero => intro _; exact aw_none
  | succ f ih =>
    intro v4_3
    rw [lp_Cr_firstSpot_3]
    refine aw_iload d_Cr_firstSpot_3 4 rfl ?_
    refine aw_aload_n d_Cr_firstSpot_5 1 rfl ?_
    refine aw_getI fl_Cr_23 kd_29 d_Cr_firstSpot_6 ?_
    refine aw_icmp_ge (tgt := 50) d_Cr_firstSpot_9 rfl (fun q9 => ?_) (fun q9 => ?_)
    · refine aw_sub (lo' := [(0, .ref 27), (1, .ref 29), (2, .int a2), (3, .int a3), (4, .int v4_3)]) [0, 1, 2, 3, 4] rfl ?_
      exact hkx3_50 _
    · refine aw_iload_n d_Cr_firstSpot_12 3 rfl ?_
      refine aw_iload d_Cr_firstSpot_13 4 rfl ?_
      refine aw_ishr d_Cr_firstSpot_15 ?_
      refine aw_iconst d_Cr_firstSpot_16 ki_1 ?_
      refine aw_iand d_Cr_firstSpot_17 ?_
      refine aw_if_ne (tgt := 44) d_Cr_firstSpot_18 rfl (fun q18 => ?_) (fun q18 => ?_)
      · refine aw_aload_n d_Cr_firstSpot_21 0 rfl ?_
        refine aw_aload_n d_Cr_firstSpot_22 1 rfl ?_
        refine aw_iload_n d_Cr_firstSpot_23 2 rfl ?_
        refine aw_iload_n d_Cr_firstSpot_24 3 rfl ?_
        refine aw_iload d_Cr_firstSpot_25 4 rfl ?_
        refine aw_V_p (As := [.ref 29, .int a2, .int a3, .int v4_3]) (m_Cr_coinsBy) cv_Cr_46 kd_27 rfl rfl rfl (Nat.le_of_ble_eq_true rfl) ⟨Nat.le_of_ble_eq_true rfl, Nat.le_of_ble_eq_true rfl⟩ ⟨Nat.le_refl _, Nat.le_refl _⟩ d_Cr_firstSpot_27 (fun y27 => ?_)
        refine aw_aload_n d_Cr_firstSpot_30 0 rfl ?_
        refine aw_getR (t := 28) fl_Cr_9 kd_27 rt_27_0 d_Cr_firstSpot_31 ?_
        refine aw_iload_n d_Cr_firstSpot_34 3 rfl ?_
        refine aw_SN_p (As := [.ref 28, .int a3]) (m_Fp_get (congrArg Prod.fst kd_28)) cs_Cr_68 rfl rfl (Nat.le_of_ble_eq_true rfl) ⟨Nat.le_of_ble_eq_true rfl, Nat.le_of_ble_eq_true rfl⟩ ⟨Nat.le_refl _, Nat.le_refl _⟩ d_Cr_firstSpot_35 (fun y35 => ?_)
        refine aw_icmp_ne (tgt := 44) d_Cr_firstSpot_38 rfl (fun q38 => ?_) (fun q38 => ?_)
        · refine aw_iload d_Cr_firstSpot_41 4 rfl ?_
          exact aw_iret rfl rfl ⟨Nat.le_refl _, Nat.le_refl _⟩ d_Cr_firstSpot_43
        · refine aw_iinc (v := (v4_3 + (1 : Int32))) (lo' := [(4, .int (v4_3 + (1 : Int32))), (0, .ref 27), (1, .ref 29), (2, .int a2), (3, .int a3)]) d_Cr_firstSpot_44 4 rfl (by rw [show Int32.ofInt (1) = (1 : Int32) from by decide]) (by decide) rfl ?_
          refine aw_goto (tgt := 3) d_Cr_firstSpot_47 rfl ?_
          refine aw_sub (lo' := [(0, .ref 27), (1, .ref 29), (2, .int a2), (3, .int a3), (4, .int (v4_3 + (1 : Int32)))]) [1, 2, 3, 4, 0] rfl ?_
          exact ih _
      · refine aw_iinc (v := (v4_3 + (1 : Int32))) (lo' := [(4, .int (v4_3 + (1 : Int32))), (0, .ref 27), (1, .ref 29), (2, .int a2), (3, .int a3)]) d_Cr_firstSpot_44 4 rfl (by rw [show Int32.ofInt (1) = (1 : Int32) from by decide]) (by decide) rfl ?_
        refine aw_goto (tgt := 3) d_Cr_firstSpot_47 rfl ?_
        refine aw_sub (lo' := [(0, .ref 27), (1, .ref 29), (2, .int a2), (3, .int a3), (4, .int (v4_3 + (1 : Int32)))]) [1, 2, 3, 4, 0] rfl ?_
        exact ih _
def f_Cr_firstSpot (a2 : Int32) (a3 : Int32) (δ : Dm) : Option Int32 := (lp_Cr_firstSpot_3 (fun v4_3x => (some (-1 : Int32))) a2 a3 δ FU (0 : Int32))
set_option maxHeartbeats 4000000 in
set_option maxRecDepth 100000 in
theorem m_Cr_firstSpot {a2 : Int32} {a3 : Int32} {δ : Dm} {n : Nat} : ∀ x, f_Cr_firstSpot a2 a3 δ = some x → AMet k_Cr_firstSpot 4 0 0 [.ref 27, .ref 29, .int a2, .int a3] δ RT n (Kp δ RT n x) := by
  refine aw_start (lo := [(0, .ref 27), (1, .ref 29), (2, .int a2), (3, .int a3)]) mok_Cr_firstSpot rfl (Nat.le_of_ble_eq_true rfl) ?_
  unfold f_Cr_firstSpot
  refine aw_iconst d_Cr_firstSpot_0 ki_0 ?_
  refine aw_istore (lo' := [(4, .int (0 : Int32)), (0, .ref 27), (1, .ref 29), (2, .int a2), (3, .int a3)]) d_Cr_firstSpot_1 (by decide) rfl ?_
  refine aw_sub (lo' := [(0, .ref 27), (1, .ref 29), (2, .int a2), (3, .int a3), (4, .int (0 : Int32))]) [1, 2, 3, 4, 0] rfl ?_
  refine tl_Cr_firstSpot_3 _ _ _ _ (fun v4_3x => ?_) FU _
  · refine aw_iconst d_Cr_firstSpot_50 ki_m1 ?_
    exact aw_iret rfl rfl ⟨Nat.le_refl _, Nat.le_refl _⟩ d_Cr_firstSpot_51
def lp_Cr_spotOf_8 (kx8_45 : Int32 → Int32 → Int32 → Option Int32) (a2 : Int32) (δ : Dm) : Nat → Int32 → Int32 → Int32 → Option Int32
  | 0, _, _, _ => none
  | f + 1, v3_8, v4_8, v5_8 => (if a2 < v5_8 then (kx8_45 v3_8 v4_8 v5_8) else ((f_Cr_firstSpot v5_8 v3_8 δ).bind (fun y19 => (if y19 = (-1 : Int32) then (some (-1 : Int32)) else (bnd (v3_8 ||| ((1 : Int32) <<< (y19 &&& 31))) (fun v38 => (lp_Cr_spotOf_8 kx8_45 a2 δ f v38 y19 (v5_8 + (1 : Int32)))))))))
set_option maxHeartbeats 4000000 in
set_option maxRecDepth 100000 in
theorem tl_Cr_spotOf_8 {n : Nat} (kx8_45 : Int32 → Int32 → Int32 → Option Int32) (a2 : Int32) (δ : Dm) (hkx8_45 : ∀ v3_8k v4_8k v5_8k, AWo k_Cr_spotOf 5 0 0 45 [(0, .ref 27), (1, .ref 29), (2, .int a2), (3, .int v3_8k), (4, .int v4_8k), (5, .int v5_8k)] [] δ RT n 0 0 (Kp δ RT n) (kx8_45 v3_8k v4_8k v5_8k)) : ∀ (f : Nat) (v3_8 : Int32) (v4_8 : Int32) (v5_8 : Int32), AWo k_Cr_spotOf 5 0 0 8 [(0, .ref 27), (1, .ref 29), (2, .int a2), (3, .int v3_8), (4, .int v4_8), (5, .int v5_8)] [] δ RT n 0 0 (Kp δ RT n) (lp_Cr_spotOf_8 kx8_45 a2 δ f v3_8 v4_8 v5_8) := by
  intro f
  induction f with
  | zero => intro _ _ _; exact aw_none
  | succ f ih =>
    intro v3_8 v4_8 v5_8
    rw [lp_Cr_spotOf_8]
    refine aw_iload d_Cr_spotOf_8 5 rfl ?_
    refine aw_iload_n d_Cr_spotOf_10 2 rfl ?_
    refine aw_icmp_gt (tgt := 45) d_Cr_spotOf_11 rfl (fun q11 => ?_) (fun q11 => ?_)
    · refine aw_sub (lo' := [(0, .ref 27), (1, .ref 29), (2, .int a2), (3, .int v3_8), (4, .int v4_8), (5, .int v5_8)]) [0, 1, 2, 3, 4, 5] rfl ?_
      exact hkx8_45 _ _ _
    · refine aw_aload_n d_Cr_spotOf_14 0 rfl ?_
      refine aw_aload_n d_Cr_spotOf_15 1 rfl ?_
      refine aw_iload d_Cr_spotOf_16 5 rfl ?_
      refine aw_iload_n d_Cr_spotOf_18 3 rfl ?_
      refine aw_V_p (As := [.ref 29, .int v5_8, .int v3_8]) (m_Cr_firstSpot) cv_Cr_75 kd_27 rfl rfl rfl (Nat.le_of_ble_eq_true rfl) ⟨Nat.le_of_ble_eq_true rfl, Nat.le_of_ble_eq_true rfl⟩ ⟨Nat.le_refl _, Nat.le_refl _⟩ d_Cr_spotOf_19 (fun y19 => ?_)
      refine aw_istore (lo' := [(4, .int y19), (0, .ref 27), (1, .ref 29), (2, .int a2), (3, .int v3_8), (5, .int v5_8)]) d_Cr_spotOf_22 (by decide) rfl ?_
      refine aw_iload d_Cr_spotOf_24 0 rfl ?_
      refine aw_iconst d_Cr_spotOf_26 ki_m1 ?_
      refine aw_icmp_ne (tgt := 32) d_Cr_spotOf_27 rfl (fun q27 => ?_) (fun q27 => ?_)
      · refine aw_iconst d_Cr_spotOf_30 ki_m1 ?_
        exact aw_iret rfl rfl ⟨Nat.le_refl _, Nat.le_refl _⟩ d_Cr_spotOf_31
      · refine aw_iload_n d_Cr_spotOf_32 4 rfl ?_
        refine aw_iconst d_Cr_spotOf_33 ki_1 ?_
        refine aw_iload d_Cr_spotOf_34 0 rfl ?_
        refine aw_ishl d_Cr_spotOf_36 ?_
        refine aw_ior d_Cr_spotOf_37 ?_
        refine aw_bI (fun v38 => ?_)
        refine aw_istore_n (lo' := [(3, .int v38), (4, .int y19), (0, .ref 27), (1, .ref 29), (2, .int a2), (5, .int v5_8)]) d_Cr_spotOf_38 rfl (by decide) rfl ?_
        refine aw_iinc (v := (v5_8 + (1 : Int32))) (lo' := [(5, .int (v5_8 + (1 : Int32))), (3, .int v38), (4, .int y19), (0, .ref 27), (1, .ref 29), (2, .int a2)]) d_Cr_spotOf_39 5 rfl (by rw [show Int32.ofInt (1) = (1 : Int32) from by decide]) (by decide) rfl ?_
        refine aw_goto (tgt := 8) d_Cr_spotOf_42 rfl ?_
        refine aw_sub (lo' := [(0, .ref 27), (1, .ref 29), (2, .int a2), (3, .int v38), (4, .int y19), (5, .int (v5_8 + (1 : Int32)))]) [3, 4, 5, 1, 2, 0] rfl ?_
        exact ih _ _ _
def f_Cr_spotOf (a2 : Int32) (δ : Dm) : Option Int32 := (lp_Cr_spotOf_8 (fun v3_8x v4_8x v5_8x => (some v4_8x)) a2 δ FU (0 : Int32) (-1 : Int32) (0 : Int32))
set_option maxHeartbeats 4000000 in
set_option maxRecDepth 100000 in
theorem m_Cr_spotOf {a2 : Int32} {δ : Dm} {n : Nat} : ∀ x, f_Cr_spotOf a2 δ = some x → AMet k_Cr_spotOf 5 0 0 [.ref 27, .ref 29, .int a2] δ RT n (Kp δ RT n x) := by
  refine aw_start (lo := [(0, .ref 27), (1, .ref 29), (2, .int a2)]) mok_Cr_spotOf rfl (Nat.le_of_ble_eq_true rfl) ?_
  unfold f_Cr_spotOf
  refine aw_iconst d_Cr_spotOf_0 ki_0 ?_
  refine aw_istore_n (lo' := [(3, .int (0 : Int32)), (0, .ref 27), (1, .ref 29), (2, .int a2)]) d_Cr_spotOf_1 rfl (by decide) rfl ?_
  refine aw_iconst d_Cr_spotOf_2 ki_m1 ?_
  refine aw_istore (lo' := [(4, .int (-1 : Int32)), (3, .int (0 : Int32)), (0, .ref 27), (1, .ref 29), (2, .int a2)]) d_Cr_spotOf_3 (by decide) rfl ?_
  refine aw_iconst d_Cr_spotOf_5 ki_0 ?_
  refine aw_istore (lo' := [(5, .int (0 : Int32)), (4, .int (-1 : Int32)), (3, .int (0 : Int32)), (0, .ref 27), (1, .ref 29), (2, .int a2)]) d_Cr_spotOf_6 (by decide) rfl ?_
  refine aw_sub (lo' := [(0, .ref 27), (1, .ref 29), (2, .int a2), (3, .int (0 : Int32)), (4, .int (-1 : Int32)), (5, .int (0 : Int32))]) [3, 4, 5, 2, 1, 0] rfl ?_
  refine tl_Cr_spotOf_8 _ _ _ (fun v3_8x v4_8x v5_8x => ?_) FU _ _ _
  · refine aw_iload d_Cr_spotOf_45 4 rfl ?_
    exact aw_iret rfl rfl ⟨Nat.le_refl _, Nat.le_refl _⟩ d_Cr_spotOf_47
def f_Fp_placed (a1 : Int32) (a2 : Int32) (a3 : Int32) (δ : Dm) : Option (Int32 × Dm) := ((f_Fp_within a2 (0 : Int32) (9999 : Int32) δ).bind (fun y5 => (if y5 = 0 then (some ((-1000000000 : Int32), δ)) else ((f_Fp_within a3 (-1 : Int32) ((gI δ 29 2) - (1 : Int32)) δ).bind (fun y22 => (if y22 = 0 then (some ((-1000000000 : Int32), δ)) else ((f_Cr_plan a1 a2 δ).bind (fun y42 => (if a3 = (-1 : Int32) then ((f_Cr_together y42).bind (fun y54 => (some (y54, y42)))) else ((f_Cr_spotOf a3 y42).bind (fun y69 => (some (y69, y42)))))))))))))
set_option maxHeartbeats 4000000 in
set_option maxRecDepth 100000 in
theorem m_Fp_placed {a1 : Int32} {a2 : Int32} {a3 : Int32} {δ : Dm} {n : Nat} : ∀ x, f_Fp_placed a1 a2 a3 δ = some x → AMet k_Fp_placed 6 0 0 [.ref 4, .int a1, .int a2, .int a3] δ RT n (Km RT n x) := by
  refine aw_start (lo := [(0, .ref 4), (1, .int a1), (2, .int a2), (3, .int a3)]) mok_Fp_placed rfl (Nat.le_of_ble_eq_true rfl) ?_
  unfold f_Fp_placed
  refine aw_iload_n d_Fp_placed_0 2 rfl ?_
  refine aw_iconst d_Fp_placed_1 ki_0 ?_
  refine aw_sipush d_Fp_placed_2 ks_9999 ?_
  refine aw_S_p (As := [.int a2, .int (0 : Int32), .int (9999 : Int32)]) (m_Fp_within) cs_Fp_70 rfl rfl (Nat.le_of_ble_eq_true rfl) ⟨Nat.le_of_ble_eq_true rfl, Nat.le_of_ble_eq_true rfl⟩ ⟨Nat.le_refl _, Nat.le_refl _⟩ d_Fp_placed_5 (fun y5 => ?_)
  refine aw_if_eq (tgt := 28) d_Fp_placed_8 rfl (fun q8 => ?_) (fun q8 => ?_)
  · refine aw_ldcw (v := (-1000000000 : Int32)) d_Fp_placed_28 kc_Fp_270 ?_
    exact aw_iret rfl rfl ⟨Nat.le_refl _, Nat.le_refl _⟩ d_Fp_placed_31
  · refine aw_iload_n d_Fp_placed_11 3 rfl ?_
    refine aw_iconst d_Fp_placed_12 ki_m1 ?_
    refine aw_aload_n d_Fp_placed_13 0 rfl ?_
    refine aw_getR (t := 29) fl_Fp_57 kd_4 rt_4_9 d_Fp_placed_14 ?_
    refine aw_getI fl_Fp_116 kd_29 d_Fp_placed_17 ?_
    refine aw_iconst d_Fp_placed_20 ki_1 ?_
    refine aw_isub d_Fp_placed_21 ?_
    refine aw_S_p (As := [.int a3, .int (-1 : Int32), .int ((gI δ 29 2) - (1 : Int32))]) (m_Fp_within) cs_Fp_70 rfl rfl (Nat.le_of_ble_eq_true rfl) ⟨Nat.le_of_ble_eq_true rfl, Nat.le_of_ble_eq_true rfl⟩ ⟨Nat.le_refl _, Nat.le_refl _⟩ d_Fp_placed_22 (fun y22 => ?_)
    refine aw_if_ne (tgt := 32) d_Fp_placed_25 rfl (fun q25 => ?_) (fun q25 => ?_)
    · refine aw_ldcw (v := (-1000000000 : Int32)) d_Fp_placed_28 kc_Fp_270 ?_
      exact aw_iret rfl rfl ⟨Nat.le_refl _, Nat.le_refl _⟩ d_Fp_placed_31
    · refine aw_aload_n d_Fp_placed_32 0 rfl ?_
      refine aw_getR (t := 27) fl_Fp_50 kd_4 rt_4_8 d_Fp_placed_33 ?_
      refine aw_aload_n d_Fp_placed_36 0 rfl ?_
      refine aw_getR (t := 29) fl_Fp_57 kd_4 rt_4_9 d_Fp_placed_37 ?_
      refine aw_iload_n d_Fp_placed_40 1 rfl ?_
      refine aw_iload_n d_Fp_placed_41 2 rfl ?_
      refine aw_V_v (As := [.ref 29, .int a1, .int a2]) (m_Cr_plan) cv_Fp_342 kd_27 rfl rfl rfl (Nat.le_of_ble_eq_true rfl) ⟨Nat.le_of_ble_eq_true rfl, Nat.le_of_ble_eq_true rfl⟩ ⟨Nat.le_refl _, Nat.le_refl _⟩ d_Fp_placed_42 (fun y42 => ?_)
      refine aw_iload_n d_Fp_placed_45 3 rfl ?_
      refine aw_iconst d_Fp_placed_46 ki_m1 ?_
      refine aw_icmp_ne (tgt := 60) d_Fp_placed_47 rfl (fun q47 => ?_) (fun q47 => ?_)
      · refine aw_aload_n d_Fp_placed_50 0 rfl ?_
        refine aw_getR (t := 27) fl_Fp_50 kd_4 rt_4_8 d_Fp_placed_51 ?_
        refine aw_V_p (As := []) (m_Cr_together) cv_Fp_345 kd_27 rfl rfl rfl (Nat.le_of_ble_eq_true rfl) ⟨Nat.le_of_ble_eq_true rfl, Nat.le_of_ble_eq_true rfl⟩ ⟨Nat.le_refl _, Nat.le_refl _⟩ d_Fp_placed_54 (fun y54 => ?_)
        refine aw_goto (tgt := 72) d_Fp_placed_57 rfl ?_
        exact aw_iret rfl rfl ⟨Nat.le_refl _, Nat.le_refl _⟩ d_Fp_placed_72
      · refine aw_aload_n d_Fp_placed_60 0 rfl ?_
        refine aw_getR (t := 27) fl_Fp_50 kd_4 rt_4_8 d_Fp_placed_61 ?_
        refine aw_aload_n d_Fp_placed_64 0 rfl ?_
        refine aw_getR (t := 29) fl_Fp_57 kd_4 rt_4_9 d_Fp_placed_65 ?_
        refine aw_iload_n d_Fp_placed_68 3 rfl ?_
        refine aw_V_p (As := [.ref 29, .int a3]) (m_Cr_spotOf) cv_Fp_348 kd_27 rfl rfl rfl (Nat.le_of_ble_eq_true rfl) ⟨Nat.le_of_ble_eq_true rfl, Nat.le_of_ble_eq_true rfl⟩ ⟨Nat.le_refl _, Nat.le_refl _⟩ d_Fp_placed_69 (fun y69 => ?_)
        exact aw_iret rfl rfl ⟨Nat.le_refl _, Nat.le_refl _⟩ d_Fp_placed_72
def f_Fp_count (a1 : Int32) (δ : Dm) : Option Int32 := (if (a1).toInt = (0 : Int) then (some (gI δ 29 0)) else (if (a1).toInt = (1 : Int) then (some (gI δ 29 1)) else (if (a1).toInt = (2 : Int) then (some (gI δ 4 3)) else (if (a1).toInt = (3 : Int) then (some (gI δ 29 2)) else (if (a1).toInt = (4 : Int) then (some (gI δ 34 0)) else (if (a1).toInt = (5 : Int) then (some (gI δ 34 1)) else (if (a1).toInt = (6 : Int) then (some (gI δ 45 0)) else (if (a1).toInt = (7 : Int) then (some (gI δ 45 1)) else (if (a1).toInt = (8 : Int) then (some (gI δ 4 1)) else (some (-1 : Int32)))))))))))
set_option maxHeartbeats 4000000 in
set_option maxRecDepth 100000 in
theorem m_Fp_count {a1 : Int32} {δ : Dm} {n : Nat} : ∀ x, f_Fp_count a1 δ = some x → AMet k_Fp_count 1 0 0 [.ref 4, .int a1] δ RT n (Kp δ RT n x) := by
  refine aw_start (lo := [(0, .ref 4), (1, .int a1)]) mok_Fp_count rfl (Nat.le_of_ble_eq_true rfl) ?_
  unfold f_Fp_count
  refine aw_iload_n d_Fp_count_0 1 rfl ?_
  refine aw_ite (fun q1 => ?_) (fun q1_0 => ?_)
  · refine aw_tswitch (tgt := 52) d_Fp_count_1 q1 (by decide) (by decide) rfl rfl ?_
    refine aw_aload_n d_Fp_count_52 0 rfl ?_
    refine aw_getR (t := 29) fl_Fp_57 kd_4 rt_4_9 d_Fp_count_53 ?_
    refine aw_getI fl_Fp_130 kd_29 d_Fp_count_56 ?_
    exact aw_iret rfl rfl ⟨Nat.le_refl _, Nat.le_refl _⟩ d_Fp_count_59
  · refine aw_ite (fun q1 => ?_) (fun q1_1 => ?_)
    · refine aw_tswitch (tgt := 60) d_Fp_count_1 q1 (by decide) (by decide) rfl rfl ?_
      refine aw_aload_n d_Fp_count_60 0 rfl ?_
      refine aw_getR (t := 29) fl_Fp_57 kd_4 rt_4_9 d_Fp_count_61 ?_
      refine aw_getI fl_Fp_66 kd_29 d_Fp_count_64 ?_
      exact aw_iret rfl rfl ⟨Nat.le_refl _, Nat.le_refl _⟩ d_Fp_count_67
    · refine aw_ite (fun q1 => ?_) (fun q1_2 => ?_)
      · refine aw_tswitch (tgt := 68) d_Fp_count_1 q1 (by decide) (by decide) rfl rfl ?_
        refine aw_aload_n d_Fp_count_68 0 rfl ?_
        refine aw_getI fl_Fp_109 kd_4 d_Fp_count_69 ?_
        exact aw_iret rfl rfl ⟨Nat.le_refl _, Nat.le_refl _⟩ d_Fp_count_72
      · refine aw_ite (fun q1 => ?_) (fun q1_3 => ?_)
        · refine aw_tswitch (tgt := 73) d_Fp_count_1 q1 (by decide) (by decide) rfl rfl ?_
          refine aw_aload_n d_Fp_count_73 0 rfl ?_
          refine aw_getR (t := 29) fl_Fp_57 kd_4 rt_4_9 d_Fp_count_74 ?_
          refine aw_getI fl_Fp_116 kd_29 d_Fp_count_77 ?_
          exact aw_iret rfl rfl ⟨Nat.le_refl _, Nat.le_refl _⟩ d_Fp_count_80
        · refine aw_ite (fun q1 => ?_) (fun q1_4 => ?_)
          · refine aw_tswitch (tgt := 81) d_Fp_count_1 q1 (by decide) (by decide) rfl rfl ?_
            refine aw_aload_n d_Fp_count_81 0 rfl ?_
            refine aw_getR (t := 29) fl_Fp_57 kd_4 rt_4_9 d_Fp_count_82 ?_
            refine aw_getR (t := 34) fl_Fp_148 kd_29 rt_29_7 d_Fp_count_85 ?_
            refine aw_getI fl_Fp_152 kd_34 d_Fp_count_88 ?_
            exact aw_iret rfl rfl ⟨Nat.le_refl _, Nat.le_refl _⟩ d_Fp_count_91
          · refine aw_ite (fun q1 => ?_) (fun q1_5 => ?_)
            · refine aw_tswitch (tgt := 92) d_Fp_count_1 q1 (by decide) (by decide) rfl rfl ?_
              refine aw_aload_n d_Fp_count_92 0 rfl ?_
              refine aw_getR (t := 29) fl_Fp_57 kd_4 rt_4_9 d_Fp_count_93 ?_
              refine aw_getR (t := 34) fl_Fp_148 kd_29 rt_29_7 d_Fp_count_96 ?_
              refine aw_getI fl_Fp_206 kd_34 d_Fp_count_99 ?_
              exact aw_iret rfl rfl ⟨Nat.le_refl _, Nat.le_refl _⟩ d_Fp_count_102
            · refine aw_ite (fun q1 => ?_) (fun q1_6 => ?_)
              · refine aw_tswitch (tgt := 103) d_Fp_count_1 q1 (by decide) (by decide) rfl rfl ?_
                refine aw_aload_n d_Fp_count_103 0 rfl ?_
                refine aw_getR (t := 29) fl_Fp_57 kd_4 rt_4_9 d_Fp_count_104 ?_
                refine aw_getR (t := 45) fl_Fp_250 kd_29 rt_29_8 d_Fp_count_107 ?_
                refine aw_getI fl_Fp_254 kd_45 d_Fp_count_110 ?_
                exact aw_iret rfl rfl ⟨Nat.le_refl _, Nat.le_refl _⟩ d_Fp_count_113
              · refine aw_ite (fun q1 => ?_) (fun q1_7 => ?_)
                · refine aw_tswitch (tgt := 114) d_Fp_count_1 q1 (by decide) (by decide) rfl rfl ?_
                  refine aw_aload_n d_Fp_count_114 0 rfl ?_
                  refine aw_getR (t := 29) fl_Fp_57 kd_4 rt_4_9 d_Fp_count_115 ?_
                  refine aw_getR (t := 45) fl_Fp_250 kd_29 rt_29_8 d_Fp_count_118 ?_
                  refine aw_getI fl_Fp_283 kd_45 d_Fp_count_121 ?_
                  exact aw_iret rfl rfl ⟨Nat.le_refl _, Nat.le_refl _⟩ d_Fp_count_124
                · refine aw_ite (fun q1 => ?_) (fun q1_8 => ?_)
                  · refine aw_tswitch (tgt := 125) d_Fp_count_1 q1 (by decide) (by decide) rfl rfl ?_
                    refine aw_aload_n d_Fp_count_125 0 rfl ?_
                    refine aw_getI fl_Fp_102 kd_4 d_Fp_count_126 ?_
                    exact aw_iret rfl rfl ⟨Nat.le_refl _, Nat.le_refl _⟩ d_Fp_count_129
                  · refine aw_tdflt (tgt := 130) d_Fp_count_1 (by omega) rfl ?_
                    refine aw_iconst d_Fp_count_130 ki_m1 ?_
                    exact aw_iret rfl rfl ⟨Nat.le_refl _, Nat.le_refl _⟩ d_Fp_count_131
def f_Fp_copy (a0 : Nat) (a1 : Nat) (δ : Dm) : Option Dm := (if 0 ≤ ((if (nI (KD a1).2) < (nI (KD a0).2) then (nI (KD a1).2) else (nI (KD a0).2))).toInt ∧ ((if (nI (KD a1).2) < (nI (KD a0).2) then (nI (KD a1).2) else (nI (KD a0).2))).toInt ≤ ((KD a0).2 : Int) ∧ ((if (nI (KD a1).2) < (nI (KD a0).2) then (nI (KD a1).2) else (nI (KD a0).2))).toInt ≤ ((KD a1).2 : Int) then bnd (cpI δ a0 a1 0 0 (ix (if (nI (KD a1).2) < (nI (KD a0).2) then (nI (KD a1).2) else (nI (KD a0).2)))) (fun δ_11 => (some δ_11)) else none)
set_option maxHeartbeats 4000000 in
set_option maxRecDepth 100000 in
theorem m_Fp_copy {a0 : Nat} {a1 : Nat} {δ : Dm} {n : Nat} (ha0 : (KD a0).1 = 1) (ha1 : (KD a1).1 = 1) : ∀ x, f_Fp_copy a0 a1 δ = some x → AMet k_Fp_copy 1 0 0 [.ref a0, .ref a1] δ RT n (Kv RT n x) := by
  refine aw_start (lo := [(0, .ref a0), (1, .ref a1)]) mok_Fp_copy rfl (Nat.le_of_ble_eq_true rfl) ?_
  unfold f_Fp_copy
  refine aw_aload_n d_Fp_copy_0 0 rfl ?_
  refine aw_iconst d_Fp_copy_1 ki_0 ?_
  refine aw_aload_n d_Fp_copy_2 1 rfl ?_
  refine aw_iconst d_Fp_copy_3 ki_0 ?_
  refine aw_aload_n d_Fp_copy_4 0 rfl ?_
  refine aw_alen (v := (nI (KD a0).2)) (kdE ha0) ⟨by decide, by decide⟩ rfl d_Fp_copy_5 ?_
  refine aw_aload_n d_Fp_copy_6 1 rfl ?_
  refine aw_alen (v := (nI (KD a1).2)) (kdE ha1) ⟨by decide, by decide⟩ rfl d_Fp_copy_7 ?_
  refine aw_minI ml_Fp_356 ms_minI mi_Ma mx_minI (Nat.le_of_ble_eq_true rfl) (Nat.le_of_ble_eq_true rfl) ⟨Nat.le_refl _, Nat.le_refl _⟩ d_Fp_copy_8 ?_
  refine aw_copyI (kdE ha0) (kdE ha1) ay_1 (Nat.le_of_ble_eq_true rfl) (Nat.le_of_ble_eq_true rfl) d_Fp_copy_11 ?_
  refine aw_bD (fun δ_11 => ?_)
  exact aw_vret rfl rfl ⟨Nat.le_refl _, Nat.le_refl _⟩ d_Fp_copy_14
def f_Di_become (a0 : Nat) (a1 : Nat) (δ : Dm) : Option Dm := (bnd (sI δ (a0 + 5) 0 (gI δ (a1 + 5) 0)) (fun δ_5 => (bnd (sI δ_5 (a0 + 5) 1 (gI δ_5 (a1 + 5) 1)) (fun δ_13 => (bnd (sI δ_13 (a0 + 5) 2 (gI δ_13 (a1 + 5) 2)) (fun δ_21 => ((f_Fp_copy (a1 + 6) (a0 + 6) δ_21).bind (fun y32 => ((f_Fp_copy (a1 + 7) (a0 + 7) y32).bind (fun y43 => ((f_Fp_copy (a1 + 8) (a0 + 8) y43).bind (fun y54 => ((f_Fp_copy (a1 + 9) (a0 + 9) y54).bind (fun y65 => ((f_Fp_copy (a1 + 10) (a0 + 10) y65).bind (fun y76 => ((f_Fp_copy (a1 + 11) (a0 + 11) y76).bind (fun y87 => ((f_Fp_copy (a1 + 12) (a0 + 12) y87).bind (fun y98 => ((f_Fp_copy (a1 + 13) (a0 + 13) y98).bind (fun y109 => ((f_Fp_copy (a1 + 14) (a0 + 14) y109).bind (fun y120 => ((f_Fp_copy (a1 + 15) (a0 + 15) y120).bind (fun y131 => (some y131)))))))))))))))))))))))))))
set_option maxHeartbeats 4000000 in
set_option maxRecDepth 100000 in
theorem m_Di_become {a0 : Nat} {a1 : Nat} {δ : Dm} {n : Nat} (ha0 : isT a0 = true) (ha1 : isT a1 = true) : ∀ x, f_Di_become a0 a1 δ = some x → AMet k_Di_become 2 0 0 [.ref (a0 + 5), .ref (a1 + 5)] δ RT n (Kv RT n x) := by
  refine aw_start (lo := [(0, .ref (a0 + 5)), (1, .ref (a1 + 5))]) mok_Di_become rfl (Nat.le_of_ble_eq_true rfl) ?_
  unfold f_Di_become
  refine aw_aload_n d_Di_become_0 0 rfl ?_
  refine aw_aload_n d_Di_become_1 1 rfl ?_
  refine aw_getI fl_Di_42 (fx_isTK ha1 5 (by decide)) d_Di_become_2 ?_
  refine aw_putI pf_Di_42 (fx_isTK ha0 5 (by decide)) d_Di_become_5 ?_
  refine aw_bD (fun δ_5 => ?_)
  refine aw_aload_n d_Di_become_8 0 rfl ?_
  refine aw_aload_n d_Di_become_9 1 rfl ?_
  refine aw_getI fl_Di_46 (fx_isTK ha1 5 (by decide)) d_Di_become_10 ?_
  refine aw_putI pf_Di_46 (fx_isTK ha0 5 (by decide)) d_Di_become_13 ?_
  refine aw_bD (fun δ_13 => ?_)
  refine aw_aload_n d_Di_become_16 0 rfl ?_
  refine aw_aload_n d_Di_become_17 1 rfl ?_
  refine aw_getI fl_Di_49 (fx_isTK ha1 5 (by decide)) d_Di_become_18 ?_
  refine aw_putI pf_Di_49 (fx_isTK ha0 5 (by decide)) d_Di_become_21 ?_
  refine aw_bD (fun δ_21 => ?_)
  refine aw_aload_n d_Di_become_24 1 rfl ?_
  refine aw_getR (t := (a1 + 6)) fl_Di_11 (fx_isTK ha1 5 (by decide)) (fx_isTR ha1 5 3 (by decide) (by decide)) d_Di_become_25 ?_
  refine aw_aload_n d_Di_become_28 0 rfl ?_
  refine aw_getR (t := (a0 + 6)) fl_Di_11 (fx_isTK ha0 5 (by decide)) (fx_isTR ha0 5 3 (by decide) (by decide)) d_Di_become_29 ?_
  refine aw_SN_v (As := [.ref (a1 + 6), .ref (a0 + 6)]) (m_Fp_copy (congrArg Prod.fst (fx_isTK ha1 6 (by decide))) (congrArg Prod.fst (fx_isTK ha0 6 (by decide)))) cs_Di_52 rfl rfl (Nat.le_of_ble_eq_true rfl) ⟨Nat.le_of_ble_eq_true rfl, Nat.le_of_ble_eq_true rfl⟩ ⟨Nat.le_refl _, Nat.le_refl _⟩ d_Di_become_32 (fun y32 => ?_)
  refine aw_aload_n d_Di_become_35 1 rfl ?_
  refine aw_getR (t := (a1 + 7)) fl_Di_15 (fx_isTK ha1 5 (by decide)) (fx_isTR ha1 5 4 (by decide) (by decide)) d_Di_become_36 ?_
  refine aw_aload_n d_Di_become_39 0 rfl ?_
  refine aw_getR (t := (a0 + 7)) fl_Di_15 (fx_isTK ha0 5 (by decide)) (fx_isTR ha0 5 4 (by decide) (by decide)) d_Di_become_40 ?_
  refine aw_SN_v (As := [.ref (a1 + 7), .ref (a0 + 7)]) (m_Fp_copy (congrArg Prod.fst (fx_isTK ha1 7 (by decide))) (congrArg Prod.fst (fx_isTK ha0 7 (by decide)))) cs_Di_52 rfl rfl (Nat.le_of_ble_eq_true rfl) ⟨Nat.le_of_ble_eq_true rfl, Nat.le_of_ble_eq_true rfl⟩ ⟨Nat.le_refl _, Nat.le_refl _⟩ d_Di_become_43 (fun y43 => ?_)
  refine aw_aload_n d_Di_become_46 1 rfl ?_
  refine aw_getR (t := (a1 + 8)) fl_Di_18 (fx_isTK ha1 5 (by decide)) (fx_isTR ha1 5 5 (by decide) (by decide)) d_Di_become_47 ?_
  refine aw_aload_n d_Di_become_50 0 rfl ?_
  refine aw_getR (t := (a0 + 8)) fl_Di_18 (fx_isTK ha0 5 (by decide)) (fx_isTR ha0 5 5 (by decide) (by decide)) d_Di_become_51 ?_
  refine aw_SN_v (As := [.ref (a1 + 8), .ref (a0 + 8)]) (m_Fp_copy (congrArg Prod.fst (fx_isTK ha1 8 (by decide))) (congrArg Prod.fst (fx_isTK ha0 8 (by decide)))) cs_Di_52 rfl rfl (Nat.le_of_ble_eq_true rfl) ⟨Nat.le_of_ble_eq_true rfl, Nat.le_of_ble_eq_true rfl⟩ ⟨Nat.le_refl _, Nat.le_refl _⟩ d_Di_become_54 (fun y54 => ?_)
  refine aw_aload_n d_Di_become_57 1 rfl ?_
  refine aw_getR (t := (a1 + 9)) fl_Di_21 (fx_isTK ha1 5 (by decide)) (fx_isTR ha1 5 6 (by decide) (by decide)) d_Di_become_58 ?_
  refine aw_aload_n d_Di_become_61 0 rfl ?_
  refine aw_getR (t := (a0 + 9)) fl_Di_21 (fx_isTK ha0 5 (by decide)) (fx_isTR ha0 5 6 (by decide) (by decide)) d_Di_become_62 ?_
  refine aw_SN_v (As := [.ref (a1 + 9), .ref (a0 + 9)]) (m_Fp_copy (congrArg Prod.fst (fx_isTK ha1 9 (by decide))) (congrArg Prod.fst (fx_isTK ha0 9 (by decide)))) cs_Di_52 rfl rfl (Nat.le_of_ble_eq_true rfl) ⟨Nat.le_of_ble_eq_true rfl, Nat.le_of_ble_eq_true rfl⟩ ⟨Nat.le_refl _, Nat.le_refl _⟩ d_Di_become_65 (fun y65 => ?_)
  refine aw_aload_n d_Di_become_68 1 rfl ?_
  refine aw_getR (t := (a1 + 10)) fl_Di_24 (fx_isTK ha1 5 (by decide)) (fx_isTR ha1 5 7 (by decide) (by decide)) d_Di_become_69 ?_
  refine aw_aload_n d_Di_become_72 0 rfl ?_
  refine aw_getR (t := (a0 + 10)) fl_Di_24 (fx_isTK ha0 5 (by decide)) (fx_isTR ha0 5 7 (by decide) (by decide)) d_Di_become_73 ?_
  refine aw_SN_v (As := [.ref (a1 + 10), .ref (a0 + 10)]) (m_Fp_copy (congrArg Prod.fst (fx_isTK ha1 10 (by decide))) (congrArg Prod.fst (fx_isTK ha0 10 (by decide)))) cs_Di_52 rfl rfl (Nat.le_of_ble_eq_true rfl) ⟨Nat.le_of_ble_eq_true rfl, Nat.le_of_ble_eq_true rfl⟩ ⟨Nat.le_refl _, Nat.le_refl _⟩ d_Di_become_76 (fun y76 => ?_)
  refine aw_aload_n d_Di_become_79 1 rfl ?_
  refine aw_getR (t := (a1 + 11)) fl_Di_27 (fx_isTK ha1 5 (by decide)) (fx_isTR ha1 5 8 (by decide) (by decide)) d_Di_become_80 ?_
  refine aw_aload_n d_Di_become_83 0 rfl ?_
  refine aw_getR (t := (a0 + 11)) fl_Di_27 (fx_isTK ha0 5 (by decide)) (fx_isTR ha0 5 8 (by decide) (by decide)) d_Di_become_84 ?_
  refine aw_SN_v (As := [.ref (a1 + 11), .ref (a0 + 11)]) (m_Fp_copy (congrArg Prod.fst (fx_isTK ha1 11 (by decide))) (congrArg Prod.fst (fx_isTK ha0 11 (by decide)))) cs_Di_52 rfl rfl (Nat.le_of_ble_eq_true rfl) ⟨Nat.le_of_ble_eq_true rfl, Nat.le_of_ble_eq_true rfl⟩ ⟨Nat.le_refl _, Nat.le_refl _⟩ d_Di_become_87 (fun y87 => ?_)
  refine aw_aload_n d_Di_become_90 1 rfl ?_
  refine aw_getR (t := (a1 + 12)) fl_Di_30 (fx_isTK ha1 5 (by decide)) (fx_isTR ha1 5 9 (by decide) (by decide)) d_Di_become_91 ?_
  refine aw_aload_n d_Di_become_94 0 rfl ?_
  refine aw_getR (t := (a0 + 12)) fl_Di_30 (fx_isTK ha0 5 (by decide)) (fx_isTR ha0 5 9 (by decide) (by decide)) d_Di_become_95 ?_
  refine aw_SN_v (As := [.ref (a1 + 12), .ref (a0 + 12)]) (m_Fp_copy (congrArg Prod.fst (fx_isTK ha1 12 (by decide))) (congrArg Prod.fst (fx_isTK ha0 12 (by decide)))) cs_Di_52 rfl rfl (Nat.le_of_ble_eq_true rfl) ⟨Nat.le_of_ble_eq_true rfl, Nat.le_of_ble_eq_true rfl⟩ ⟨Nat.le_refl _, Nat.le_refl _⟩ d_Di_become_98 (fun y98 => ?_)
  refine aw_aload_n d_Di_become_101 1 rfl ?_
  refine aw_getR (t := (a1 + 13)) fl_Di_33 (fx_isTK ha1 5 (by decide)) (fx_isTR ha1 5 10 (by decide) (by decide)) d_Di_become_102 ?_
  refine aw_aload_n d_Di_become_105 0 rfl ?_
  refine aw_getR (t := (a0 + 13)) fl_Di_33 (fx_isTK ha0 5 (by decide)) (fx_isTR ha0 5 10 (by decide) (by decide)) d_Di_become_106 ?_
  refine aw_SN_v (As := [.ref (a1 + 13), .ref (a0 + 13)]) (m_Fp_copy (congrArg Prod.fst (fx_isTK ha1 13 (by decide))) (congrArg Prod.fst (fx_isTK ha0 13 (by decide)))) cs_Di_52 rfl rfl (Nat.le_of_ble_eq_true rfl) ⟨Nat.le_of_ble_eq_true rfl, Nat.le_of_ble_eq_true rfl⟩ ⟨Nat.le_refl _, Nat.le_refl _⟩ d_Di_become_109 (fun y109 => ?_)
  refine aw_aload_n d_Di_become_112 1 rfl ?_
  refine aw_getR (t := (a1 + 14)) fl_Di_36 (fx_isTK ha1 5 (by decide)) (fx_isTR ha1 5 11 (by decide) (by decide)) d_Di_become_113 ?_
  refine aw_aload_n d_Di_become_116 0 rfl ?_
  refine aw_getR (t := (a0 + 14)) fl_Di_36 (fx_isTK ha0 5 (by decide)) (fx_isTR ha0 5 11 (by decide) (by decide)) d_Di_become_117 ?_
  refine aw_SN_v (As := [.ref (a1 + 14), .ref (a0 + 14)]) (m_Fp_copy (congrArg Prod.fst (fx_isTK ha1 14 (by decide))) (congrArg Prod.fst (fx_isTK ha0 14 (by decide)))) cs_Di_52 rfl rfl (Nat.le_of_ble_eq_true rfl) ⟨Nat.le_of_ble_eq_true rfl, Nat.le_of_ble_eq_true rfl⟩ ⟨Nat.le_refl _, Nat.le_refl _⟩ d_Di_become_120 (fun y120 => ?_)
  refine aw_aload_n d_Di_become_123 1 rfl ?_
  refine aw_getR (t := (a1 + 15)) fl_Di_39 (fx_isTK ha1 5 (by decide)) (fx_isTR ha1 5 12 (by decide) (by decide)) d_Di_become_124 ?_
  refine aw_aload_n d_Di_become_127 0 rfl ?_
  refine aw_getR (t := (a0 + 15)) fl_Di_39 (fx_isTK ha0 5 (by decide)) (fx_isTR ha0 5 12 (by decide) (by decide)) d_Di_become_128 ?_
  refine aw_SN_v (As := [.ref (a1 + 15), .ref (a0 + 15)]) (m_Fp_copy (congrArg Prod.fst (fx_isTK ha1 15 (by decide))) (congrArg Prod.fst (fx_isTK ha0 15 (by decide)))) cs_Di_52 rfl rfl (Nat.le_of_ble_eq_true rfl) ⟨Nat.le_of_ble_eq_true rfl, Nat.le_of_ble_eq_true rfl⟩ ⟨Nat.le_refl _, Nat.le_refl _⟩ d_Di_become_131 (fun y131 => ?_)
  exact aw_vret rfl rfl ⟨Nat.le_refl _, Nat.le_refl _⟩ d_Di_become_134
