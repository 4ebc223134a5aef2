def f_Mo_count (a1 : Int32) (δ : Dm) : Option Int32 := (if (a1).toInt = (0 : Int) then (if inb (0 : Int32) 8918 then (some (gI δ 152 (ix (0 : Int32)))) else none) else (if (a1).toInt = (1 : Int) then (if inb (1 : Int32) 8918 then (some (gI δ 152 (ix (1 : Int32)))) else none) else (if (a1).toInt = (2 : Int) then (some (gI δ 151 3)) else (if (a1).toInt = (3 : Int) then (if inb (2 : Int32) 8918 then (some (gI δ 152 (ix (2 : Int32)))) else none) else (if (a1).toInt = (4 : Int) then (if inb (3 : Int32) 8918 then (some (gI δ 152 (ix (3 : Int32)))) else none) else (if (a1).toInt = (5 : Int) then (if inb (4 : Int32) 8918 then (some (gI δ 152 (ix (4 : Int32)))) else none) else (if (a1).toInt = (6 : Int) then (if inb (5 : Int32) 8918 then (some (gI δ 152 (ix (5 : Int32)))) else none) else (if (a1).toInt = (7 : Int) then (if inb (6 : Int32) 8918 then (some (gI δ 152 (ix (6 : Int32)))) else none) else (if (a1).toInt = (8 : Int) then (some (gI δ 151 2)) else (some (-1 : Int32)))))))))))
set_option maxHeartbeats 4000000 in
set_option maxRecDepth 100000 in
theorem m_Mo_count {a1 : Int32} {δ : Dm} {n : Nat} : ∀ x, f_Mo_count a1 δ = some x → AMet k_Mo_count 1 0 0 [.ref 151, .int a1] δ RT n (Kp δ RT n x) := by
  refine aw_start (lo := [(0, .ref 151), (1, .int a1)]) mok_Mo_count rfl (Nat.le_of_ble_eq_true rfl) ?_
  unfold f_Mo_count
  refine aw_iload_n d_Mo_count_0 1 rfl ?_
  refine aw_ite (fun q1 => ?_) (fun q1_0 => ?_)
  · refine aw_tswitch (tgt := 52) d_Mo_count_1 q1 (by decide) (by decide) rfl rfl ?_
    refine aw_aload_n d_Mo_count_52 0 rfl ?_
    refine aw_getR (t := 152) fl_Mo_7 kd_151 rt_151_0 d_Mo_count_53 ?_
    refine aw_iconst d_Mo_count_56 ki_0 ?_
    refine aw_iald kd_152 d_Mo_count_57 ?_
    exact aw_iret rfl rfl ⟨Nat.le_refl _, Nat.le_refl _⟩ d_Mo_count_58
  · refine aw_ite (fun q1 => ?_) (fun q1_1 => ?_)
    · refine aw_tswitch (tgt := 59) d_Mo_count_1 q1 (by decide) (by decide) rfl rfl ?_
      refine aw_aload_n d_Mo_count_59 0 rfl ?_
      refine aw_getR (t := 152) fl_Mo_7 kd_151 rt_151_0 d_Mo_count_60 ?_
      refine aw_iconst d_Mo_count_63 ki_1 ?_
      refine aw_iald kd_152 d_Mo_count_64 ?_
      exact aw_iret rfl rfl ⟨Nat.le_refl _, Nat.le_refl _⟩ d_Mo_count_65
    · refine aw_ite (fun q1 => ?_) (fun q1_2 => ?_)
      · refine aw_tswitch (tgt := 66) d_Mo_count_1 q1 (by decide) (by decide) rfl rfl ?_
        refine aw_aload_n d_Mo_count_66 0 rfl ?_
        refine aw_getI fl_Mo_236 kd_151 d_Mo_count_67 ?_
        exact aw_iret rfl rfl ⟨Nat.le_refl _, Nat.le_refl _⟩ d_Mo_count_70
      · refine aw_ite (fun q1 => ?_) (fun q1_3 => ?_)
        · refine aw_tswitch (tgt := 71) d_Mo_count_1 q1 (by decide) (by decide) rfl rfl ?_
          refine aw_aload_n d_Mo_count_71 0 rfl ?_
          refine aw_getR (t := 152) fl_Mo_7 kd_151 rt_151_0 d_Mo_count_72 ?_
          refine aw_iconst d_Mo_count_75 ki_2 ?_
          refine aw_iald kd_152 d_Mo_count_76 ?_
          exact aw_iret rfl rfl ⟨Nat.le_refl _, Nat.le_refl _⟩ d_Mo_count_77
        · refine aw_ite (fun q1 => ?_) (fun q1_4 => ?_)
          · refine aw_tswitch (tgt := 78) d_Mo_count_1 q1 (by decide) (by decide) rfl rfl ?_
            refine aw_aload_n d_Mo_count_78 0 rfl ?_
            refine aw_getR (t := 152) fl_Mo_7 kd_151 rt_151_0 d_Mo_count_79 ?_
            refine aw_iconst d_Mo_count_82 ki_3 ?_
            refine aw_iald kd_152 d_Mo_count_83 ?_
            exact aw_iret rfl rfl ⟨Nat.le_refl _, Nat.le_refl _⟩ d_Mo_count_84
          · refine aw_ite (fun q1 => ?_) (fun q1_5 => ?_)
            · refine aw_tswitch (tgt := 85) d_Mo_count_1 q1 (by decide) (by decide) rfl rfl ?_
              refine aw_aload_n d_Mo_count_85 0 rfl ?_
              refine aw_getR (t := 152) fl_Mo_7 kd_151 rt_151_0 d_Mo_count_86 ?_
              refine aw_iconst d_Mo_count_89 ki_4 ?_
              refine aw_iald kd_152 d_Mo_count_90 ?_
              exact aw_iret rfl rfl ⟨Nat.le_refl _, Nat.le_refl _⟩ d_Mo_count_91
            · refine aw_ite (fun q1 => ?_) (fun q1_6 => ?_)
              · refine aw_tswitch (tgt := 92) d_Mo_count_1 q1 (by decide) (by decide) rfl rfl ?_
                refine aw_aload_n d_Mo_count_92 0 rfl ?_
                refine aw_getR (t := 152) fl_Mo_7 kd_151 rt_151_0 d_Mo_count_93 ?_
                refine aw_iconst d_Mo_count_96 ki_5 ?_
                refine aw_iald kd_152 d_Mo_count_97 ?_
                exact aw_iret rfl rfl ⟨Nat.le_refl _, Nat.le_refl _⟩ d_Mo_count_98
              · refine aw_ite (fun q1 => ?_) (fun q1_7 => ?_)
                · refine aw_tswitch (tgt := 99) d_Mo_count_1 q1 (by decide) (by decide) rfl rfl ?_
                  refine aw_aload_n d_Mo_count_99 0 rfl ?_
                  refine aw_getR (t := 152) fl_Mo_7 kd_151 rt_151_0 d_Mo_count_100 ?_
                  refine aw_bipush d_Mo_count_103 kb_6 ?_
                  refine aw_iald kd_152 d_Mo_count_105 ?_
                  exact aw_iret rfl rfl ⟨Nat.le_refl _, Nat.le_refl _⟩ d_Mo_count_106
                · refine aw_ite (fun q1 => ?_) (fun q1_8 => ?_)
                  · refine aw_tswitch (tgt := 107) d_Mo_count_1 q1 (by decide) (by decide) rfl rfl ?_
                    refine aw_aload_n d_Mo_count_107 0 rfl ?_
                    refine aw_getI fl_Mo_79 kd_151 d_Mo_count_108 ?_
                    exact aw_iret rfl rfl ⟨Nat.le_refl _, Nat.le_refl _⟩ d_Mo_count_111
                  · refine aw_tdflt (tgt := 112) d_Mo_count_1 (by omega) rfl ?_
                    refine aw_iconst d_Mo_count_112 ki_m1 ?_
                    exact aw_iret rfl rfl ⟨Nat.le_refl _, Nat.le_refl _⟩ d_Mo_count_113
def lp_Mo_image_23 (kx23_54 : Int32 → Dm → Option (Int32 × Dm)) (a1 : Int32) : Nat → Int32 → Dm → Option (Int32 × Dm)
  | 0, _, _ => none
  | f + 1, v2_23, δ23 => (if (8918 : Int32) ≤ v2_23 then (kx23_54 v2_23 δ23) else (if inb v2_23 8918 then (if inb (((8918 : Int32) * a1) + v2_23) 35672 then bnd (sI δ23 166 (ix (((8918 : Int32) * a1) + v2_23)) (gI δ23 152 (ix v2_23))) (fun δ_47 => (lp_Mo_image_23 kx23_54 a1 f (v2_23 + (1 : Int32)) δ_47)) else none) else none))
set_option maxHeartbeats 4000000 in
set_option maxRecDepth 100000 in
theorem tl_Mo_image_23 {n : Nat} (kx23_54 : Int32 → Dm → Option (Int32 × Dm)) (a1 : Int32) (hkx23_54 : ∀ v2_23k δ23k, AWo k_Mo_image 2 0 0 54 [(0, .ref 151), (1, .int a1), (2, .int v2_23k)] [] δ23k RT n 0 0 (Km RT n) (kx23_54 v2_23k δ23k)) : ∀ (f : Nat) (v2_23 : Int32) (δ23 : Dm), AWo k_Mo_image 2 0 0 23 [(0, .ref 151), (1, .int a1), (2, .int v2_23)] [] δ23 RT n 0 0 (Km RT n) (lp_Mo_image_23 kx23_54 a1 f v2_23 δ23) := by
  intro f
  induction f with
  | zero => intro _ _; exact aw_none
  | succ f ih =>
    intro v2_23 δ23
    rw [lp_Mo_image_23]
    refine aw_iload_n d_Mo_image_23 2 rfl ?_
    refine aw_sipush d_Mo_image_24 ks_8918 ?_
    refine aw_icmp_ge (tgt := 54) d_Mo_image_27 rfl (fun q27 => ?_) (fun q27 => ?_)
    · refine aw_sub (lo' := [(0, .ref 151), (1, .int a1), (2, .int v2_23)]) [0, 1, 2] rfl ?_
      exact hkx23_54 _ _
    · refine aw_aload_n d_Mo_image_30 0 rfl ?_
      refine aw_getR (t := 166) fl_Mo_55 kd_151 rt_151_25 d_Mo_image_31 ?_
      refine aw_sipush d_Mo_image_34 ks_8918 ?_
      refine aw_iload_n d_Mo_image_37 1 rfl ?_
      refine aw_imul d_Mo_image_38 ?_
      refine aw_iload_n d_Mo_image_39 2 rfl ?_
      refine aw_iadd d_Mo_image_40 ?_
      refine aw_aload_n d_Mo_image_41 0 rfl ?_
      refine aw_getR (t := 152) fl_Mo_7 kd_151 rt_151_0 d_Mo_image_42 ?_
      refine aw_iload_n d_Mo_image_45 2 rfl ?_
      refine aw_iald kd_152 d_Mo_image_46 ?_
      refine aw_iast kd_166 d_Mo_image_47 ?_
      refine aw_bD (fun δ_47 => ?_)
      refine aw_iinc (v := (v2_23 + (1 : Int32))) (lo' := [(2, .int (v2_23 + (1 : Int32))), (0, .ref 151), (1, .int a1)]) d_Mo_image_48 2 rfl (by rw [show Int32.ofInt (1) = (1 : Int32) from by decide]) (by decide) rfl ?_
      refine aw_goto (tgt := 23) d_Mo_image_51 rfl ?_
      refine aw_sub (lo' := [(0, .ref 151), (1, .int a1), (2, .int (v2_23 + (1 : Int32)))]) [1, 2, 0] rfl ?_
      exact ih _ _
def f_Mo_image (a1 : Int32) (δ : Dm) : Option (Int32 × Dm) := ((f_Mo_in ((a1).toInt64) (0 : Int64) (3 : Int64) δ).bind (fun y6 => (if y6 = 0 then (some ((-1 : Int32), δ)) else (if inb a1 4 then bnd (sI δ 167 (ix a1) (vp_nar .boolean (1 : Int32))) (fun δ_20 => (lp_Mo_image_23 (fun v2_23x δ23x => (if inb (0 : Int32) 8918 then (some ((gI δ23x 152 (ix (0 : Int32))), δ23x)) else none)) a1 FU (0 : Int32) δ_20)) else none))))
set_option maxHeartbeats 4000000 in
set_option maxRecDepth 100000 in
theorem m_Mo_image {a1 : Int32} {δ : Dm} {n : Nat} : ∀ x, f_Mo_image a1 δ = some x → AMet k_Mo_image 2 0 0 [.ref 151, .int a1] δ RT n (Km RT n x) := by
  refine aw_start (lo := [(0, .ref 151), (1, .int a1)]) mok_Mo_image rfl (Nat.le_of_ble_eq_true rfl) ?_
  unfold f_Mo_image
  refine aw_iload_n d_Mo_image_0 1 rfl ?_
  refine aw_i2l d_Mo_image_1 ?_
  refine aw_lconst d_Mo_image_2 kl_0 ?_
  refine aw_ldc2 (v := (3 : Int64)) d_Mo_image_3 kc_Mo_389 ?_
  refine aw_S_p (As := [.long ((a1).toInt64), .long (0 : Int64), .long (3 : Int64)]) (m_Mo_in) cs_Mo_64 rfl rfl (Nat.le_of_ble_eq_true rfl) ⟨Nat.le_of_ble_eq_true rfl, Nat.le_of_ble_eq_true rfl⟩ ⟨Nat.le_refl _, Nat.le_refl _⟩ d_Mo_image_6 (fun y6 => ?_)
  refine aw_if_ne (tgt := 14) d_Mo_image_9 rfl (fun q9 => ?_) (fun q9 => ?_)
  · refine aw_iconst d_Mo_image_12 ki_m1 ?_
    exact aw_iret rfl rfl ⟨Nat.le_refl _, Nat.le_refl _⟩ d_Mo_image_13
  · refine aw_aload_n d_Mo_image_14 0 rfl ?_
    refine aw_getR (t := 167) fl_Mo_58 kd_151 rt_151_26 d_Mo_image_15 ?_
    refine aw_iload_n d_Mo_image_18 1 rfl ?_
    refine aw_iconst d_Mo_image_19 ki_1 ?_
    refine aw_zast kd_167 d_Mo_image_20 ?_
    refine aw_bD (fun δ_20 => ?_)
    refine aw_iconst d_Mo_image_21 ki_0 ?_
    refine aw_istore_n (lo' := [(2, .int (0 : Int32)), (0, .ref 151), (1, .int a1)]) d_Mo_image_22 rfl (by decide) rfl ?_
    refine aw_sub (lo' := [(0, .ref 151), (1, .int a1), (2, .int (0 : Int32))]) [1, 2, 0] rfl ?_
    refine tl_Mo_image_23 _ _ (fun v2_23x δ23x => ?_) FU _ _
    · refine aw_aload_n d_Mo_image_54 0 rfl ?_
      refine aw_getR (t := 152) fl_Mo_7 kd_151 rt_151_0 d_Mo_image_55 ?_
      refine aw_iconst d_Mo_image_58 ki_0 ?_
      refine aw_iald kd_152 d_Mo_image_59 ?_
      exact aw_iret rfl rfl ⟨Nat.le_refl _, Nat.le_refl _⟩ d_Mo_image_60
def lp_Mo_back_25 (kx25_56 : Int32 → Dm → Option (Int32 × Dm)) (a1 : Int32) : Nat → Int32 → Dm → Option (Int32 × Dm)
  | 0, _, _ => none
  | f + 1, v2_25, δ25 => (if (8918 : Int32) ≤ v2_25 then (kx25_56 v2_25 δ25) else (if inb (((8918 : Int32) * a1) + v2_25) 35672 then (if inb v2_25 8918 then bnd (sI δ25 152 (ix v2_25) (gI δ25 166 (ix (((8918 : Int32) * a1) + v2_25)))) (fun δ_49 => (lp_Mo_back_25 kx25_56 a1 f (v2_25 + (1 : Int32)) δ_49)) else none) else none))
set_option maxHeartbeats 4000000 in
set_option maxRecDepth 100000 in
theorem tl_Mo_back_25 {n : Nat} (kx25_56 : Int32 → Dm → Option (Int32 × Dm)) (a1 : Int32) (hkx25_56 : ∀ v2_25k δ25k, AWo k_Mo_back 2 0 0 56 [(0, .ref 151), (1, .int a1), (2, .int v2_25k)] [] δ25k RT n 0 0 (Km RT n) (kx25_56 v2_25k δ25k)) : ∀ (f : Nat) (v2_25 : Int32) (δ25 : Dm), AWo k_Mo_back 2 0 0 25 [(0, .ref 151), (1, .int a1), (2, .int v2_25)] [] δ25 RT n 0 0 (Km RT n) (lp_Mo_back_25 kx25_56 a1 f v2_25 δ25) := by
  intro f
  induction f with
  | zero => intro _ _; exact aw_none
  | succ f ih =>
    intro v2_25 δ25
    rw [lp_Mo_back_25]
    refine aw_iload_n d_Mo_back_25 2 rfl ?_
    refine aw_sipush d_Mo_back_26 ks_8918 ?_
    refine aw_icmp_ge (tgt := 56) d_Mo_back_29 rfl (fun q29 => ?_) (fun q29 => ?_)
    · refine aw_sub (lo' := [(0, .ref 151), (1, .int a1), (2, .int v2_25)]) [0, 1, 2] rfl ?_
      exact hkx25_56 _ _
    · refine aw_aload_n d_Mo_back_32 0 rfl ?_
      refine aw_getR (t := 152) fl_Mo_7 kd_151 rt_151_0 d_Mo_back_33 ?_
      refine aw_iload_n d_Mo_back_36 2 rfl ?_
      refine aw_aload_n d_Mo_back_37 0 rfl ?_
      refine aw_getR (t := 166) fl_Mo_55 kd_151 rt_151_25 d_Mo_back_38 ?_
      refine aw_sipush d_Mo_back_41 ks_8918 ?_
      refine aw_iload_n d_Mo_back_44 1 rfl ?_
      refine aw_imul d_Mo_back_45 ?_
      refine aw_iload_n d_Mo_back_46 2 rfl ?_
      refine aw_iadd d_Mo_back_47 ?_
      refine aw_iald kd_166 d_Mo_back_48 ?_
      refine aw_iast kd_152 d_Mo_back_49 ?_
      refine aw_bD (fun δ_49 => ?_)
      refine aw_iinc (v := (v2_25 + (1 : Int32))) (lo' := [(2, .int (v2_25 + (1 : Int32))), (0, .ref 151), (1, .int a1)]) d_Mo_back_50 2 rfl (by rw [show Int32.ofInt (1) = (1 : Int32) from by decide]) (by decide) rfl ?_
      refine aw_goto (tgt := 25) d_Mo_back_53 rfl ?_
      refine aw_sub (lo' := [(0, .ref 151), (1, .int a1), (2, .int (v2_25 + (1 : Int32)))]) [1, 2, 0] rfl ?_
      exact ih _ _
def f_Mo_back (a1 : Int32) (δ : Dm) : Option (Int32 × Dm) := ((f_Mo_in ((a1).toInt64) (0 : Int64) (3 : Int64) δ).bind (fun y6 => (if y6 = 0 then (some ((-1 : Int32), δ)) else (if inb a1 4 then (if (gI δ 167 (ix a1)) = 0 then (some ((-1 : Int32), δ)) else (lp_Mo_back_25 (fun v2_25x δ25x => (if inb (0 : Int32) 8918 then (some ((gI δ25x 152 (ix (0 : Int32))), δ25x)) else none)) a1 FU (0 : Int32) δ)) else none))))
set_option maxHeartbeats 4000000 in
set_option maxRecDepth 100000 in
theorem m_Mo_back {a1 : Int32} {δ : Dm} {n : Nat} : ∀ x, f_Mo_back a1 δ = some x → AMet k_Mo_back 2 0 0 [.ref 151, .int a1] δ RT n (Km RT n x) := by
  refine aw_start (lo := [(0, .ref 151), (1, .int a1)]) mok_Mo_back rfl (Nat.le_of_ble_eq_true rfl) ?_
  unfold f_Mo_back
  refine aw_iload_n d_Mo_back_0 1 rfl ?_
  refine aw_i2l d_Mo_back_1 ?_
  refine aw_lconst d_Mo_back_2 kl_0 ?_
  refine aw_ldc2 (v := (3 : Int64)) d_Mo_back_3 kc_Mo_389 ?_
  refine aw_S_p (As := [.long ((a1).toInt64), .long (0 : Int64), .long (3 : Int64)]) (m_Mo_in) cs_Mo_64 rfl rfl (Nat.le_of_ble_eq_true rfl) ⟨Nat.le_of_ble_eq_true rfl, Nat.le_of_ble_eq_true rfl⟩ ⟨Nat.le_refl _, Nat.le_refl _⟩ d_Mo_back_6 (fun y6 => ?_)
  refine aw_if_eq (tgt := 21) d_Mo_back_9 rfl (fun q9 => ?_) (fun q9 => ?_)
  · refine aw_iconst d_Mo_back_21 ki_m1 ?_
    exact aw_iret rfl rfl ⟨Nat.le_refl _, Nat.le_refl _⟩ d_Mo_back_22
  · refine aw_aload_n d_Mo_back_12 0 rfl ?_
    refine aw_getR (t := 167) fl_Mo_58 kd_151 rt_151_26 d_Mo_back_13 ?_
    refine aw_iload_n d_Mo_back_16 1 rfl ?_
    refine aw_zald kd_167 d_Mo_back_17 ?_
    refine aw_if_ne (tgt := 23) d_Mo_back_18 rfl (fun q18 => ?_) (fun q18 => ?_)
    · refine aw_iconst d_Mo_back_21 ki_m1 ?_
      exact aw_iret rfl rfl ⟨Nat.le_refl _, Nat.le_refl _⟩ d_Mo_back_22
    · refine aw_iconst d_Mo_back_23 ki_0 ?_
      refine aw_istore_n (lo' := [(2, .int (0 : Int32)), (0, .ref 151), (1, .int a1)]) d_Mo_back_24 rfl (by decide) rfl ?_
      refine aw_sub (lo' := [(0, .ref 151), (1, .int a1), (2, .int (0 : Int32))]) [1, 2, 0] rfl ?_
      refine tl_Mo_back_25 _ _ (fun v2_25x δ25x => ?_) FU _ _
      · refine aw_aload_n d_Mo_back_56 0 rfl ?_
        refine aw_getR (t := 152) fl_Mo_7 kd_151 rt_151_0 d_Mo_back_57 ?_
        refine aw_iconst d_Mo_back_60 ki_0 ?_
        refine aw_iald kd_152 d_Mo_back_61 ?_
        exact aw_iret rfl rfl ⟨Nat.le_refl _, Nat.le_refl _⟩ d_Mo_back_62
