def f_Po_become (a0 : Nat) (a1 : Nat) (δ : Dm) : Option Dm := (bnd (sI δ (a0 + 16) 0 (gI δ (a1 + 16) 0)) (fun δ_5 => (bnd (sI δ_5 (a0 + 16) 1 (gI δ_5 (a1 + 16) 1)) (fun δ_13 => ((f_Fp_copy (a1 + 17) (a0 + 17) δ_13).bind (fun y24 => ((f_Fp_copy (a1 + 18) (a0 + 18) y24).bind (fun y35 => ((f_Fp_copy (a1 + 19) (a0 + 19) y35).bind (fun y46 => ((f_Fp_copy (a1 + 20) (a0 + 20) y46).bind (fun y57 => ((f_Fp_copy (a1 + 21) (a0 + 21) y57).bind (fun y68 => ((f_Fp_copy (a1 + 22) (a0 + 22) y68).bind (fun y79 => ((f_Fp_copy (a1 + 23) (a0 + 23) y79).bind (fun y90 => ((f_Fp_copy (a1 + 24) (a0 + 24) y90).bind (fun y101 => (some y101)))))))))))))))))))))
set_option maxHeartbeats 4000000 in
set_option maxRecDepth 100000 in
theorem m_Po_become {a0 : Nat} {a1 : Nat} {δ : Dm} {n : Nat} (ha0 : isT a0 = true) (ha1 : isT a1 = true) : ∀ x, f_Po_become a0 a1 δ = some x → AMet k_Po_become 2 0 0 [.ref (a0 + 16), .ref (a1 + 16)] δ RT n (Kv RT n x) := by
  refine aw_start (lo := [(0, .ref (a0 + 16)), (1, .ref (a1 + 16))]) mok_Po_become rfl (Nat.le_of_ble_eq_true rfl) ?_
  unfold f_Po_become
  refine aw_aload_n d_Po_become_0 0 rfl ?_
  refine aw_aload_n d_Po_become_1 1 rfl ?_
  refine aw_getI fl_Po_36 (fx_isTK ha1 16 (by decide)) d_Po_become_2 ?_
  refine aw_putI pf_Po_36 (fx_isTK ha0 16 (by decide)) d_Po_become_5 ?_
  refine aw_bD (fun δ_5 => ?_)
  refine aw_aload_n d_Po_become_8 0 rfl ?_
  refine aw_aload_n d_Po_become_9 1 rfl ?_
  refine aw_getI fl_Po_40 (fx_isTK ha1 16 (by decide)) d_Po_become_10 ?_
  refine aw_putI pf_Po_40 (fx_isTK ha0 16 (by decide)) d_Po_become_13 ?_
  refine aw_bD (fun δ_13 => ?_)
  refine aw_aload_n d_Po_become_16 1 rfl ?_
  refine aw_getR (t := (a1 + 17)) fl_Po_9 (fx_isTK ha1 16 (by decide)) (fx_isTR ha1 16 2 (by decide) (by decide)) d_Po_become_17 ?_
  refine aw_aload_n d_Po_become_20 0 rfl ?_
  refine aw_getR (t := (a0 + 17)) fl_Po_9 (fx_isTK ha0 16 (by decide)) (fx_isTR ha0 16 2 (by decide) (by decide)) d_Po_become_21 ?_
  refine aw_SN_v (As := [.ref (a1 + 17), .ref (a0 + 17)]) (m_Fp_copy (congrArg Prod.fst (fx_isTK ha1 17 (by decide))) (congrArg Prod.fst (fx_isTK ha0 17 (by decide)))) cs_Po_43 rfl rfl (Nat.le_of_ble_eq_true rfl) ⟨Nat.le_of_ble_eq_true rfl, Nat.le_of_ble_eq_true rfl⟩ ⟨Nat.le_refl _, Nat.le_refl _⟩ d_Po_become_24 (fun y24 => ?_)
  refine aw_aload_n d_Po_become_27 1 rfl ?_
  refine aw_getR (t := (a1 + 18)) fl_Po_15 (fx_isTK ha1 16 (by decide)) (fx_isTR ha1 16 3 (by decide) (by decide)) d_Po_become_28 ?_
  refine aw_aload_n d_Po_become_31 0 rfl ?_
  refine aw_getR (t := (a0 + 18)) fl_Po_15 (fx_isTK ha0 16 (by decide)) (fx_isTR ha0 16 3 (by decide) (by decide)) d_Po_become_32 ?_
  refine aw_SN_v (As := [.ref (a1 + 18), .ref (a0 + 18)]) (m_Fp_copy (congrArg Prod.fst (fx_isTK ha1 18 (by decide))) (congrArg Prod.fst (fx_isTK ha0 18 (by decide)))) cs_Po_43 rfl rfl (Nat.le_of_ble_eq_true rfl) ⟨Nat.le_of_ble_eq_true rfl, Nat.le_of_ble_eq_true rfl⟩ ⟨Nat.le_refl _, Nat.le_refl _⟩ d_Po_become_35 (fun y35 => ?_)
  refine aw_aload_n d_Po_become_38 1 rfl ?_
  refine aw_getR (t := (a1 + 19)) fl_Po_18 (fx_isTK ha1 16 (by decide)) (fx_isTR ha1 16 4 (by decide) (by decide)) d_Po_become_39 ?_
  refine aw_aload_n d_Po_become_42 0 rfl ?_
  refine aw_getR (t := (a0 + 19)) fl_Po_18 (fx_isTK ha0 16 (by decide)) (fx_isTR ha0 16 4 (by decide) (by decide)) d_Po_become_43 ?_
  refine aw_SN_v (As := [.ref (a1 + 19), .ref (a0 + 19)]) (m_Fp_copy (congrArg Prod.fst (fx_isTK ha1 19 (by decide))) (congrArg Prod.fst (fx_isTK ha0 19 (by decide)))) cs_Po_43 rfl rfl (Nat.le_of_ble_eq_true rfl) ⟨Nat.le_of_ble_eq_true rfl, Nat.le_of_ble_eq_true rfl⟩ ⟨Nat.le_refl _, Nat.le_refl _⟩ d_Po_become_46 (fun y46 => ?_)
  refine aw_aload_n d_Po_become_49 1 rfl ?_
  refine aw_getR (t := (a1 + 20)) fl_Po_21 (fx_isTK ha1 16 (by decide)) (fx_isTR ha1 16 5 (by decide) (by decide)) d_Po_become_50 ?_
  refine aw_aload_n d_Po_become_53 0 rfl ?_
  refine aw_getR (t := (a0 + 20)) fl_Po_21 (fx_isTK ha0 16 (by decide)) (fx_isTR ha0 16 5 (by decide) (by decide)) d_Po_become_54 ?_
  refine aw_SN_v (As := [.ref (a1 + 20), .ref (a0 + 20)]) (m_Fp_copy (congrArg Prod.fst (fx_isTK ha1 20 (by decide))) (congrArg Prod.fst (fx_isTK ha0 20 (by decide)))) cs_Po_43 rfl rfl (Nat.le_of_ble_eq_true rfl) ⟨Nat.le_of_ble_eq_true rfl, Nat.le_of_ble_eq_true rfl⟩ ⟨Nat.le_refl _, Nat.le_refl _⟩ d_Po_become_57 (fun y57 => ?_)
  refine aw_aload_n d_Po_become_60 1 rfl ?_
  refine aw_getR (t := (a1 + 21)) fl_Po_24 (fx_isTK ha1 16 (by decide)) (fx_isTR ha1 16 6 (by decide) (by decide)) d_Po_become_61 ?_
  refine aw_aload_n d_Po_become_64 0 rfl ?_
  refine aw_getR (t := (a0 + 21)) fl_Po_24 (fx_isTK ha0 16 (by decide)) (fx_isTR ha0 16 6 (by decide) (by decide)) d_Po_become_65 ?_
  refine aw_SN_v (As := [.ref (a1 + 21), .ref (a0 + 21)]) (m_Fp_copy (congrArg Prod.fst (fx_isTK ha1 21 (by decide))) (congrArg Prod.fst (fx_isTK ha0 21 (by decide)))) cs_Po_43 rfl rfl (Nat.le_of_ble_eq_true rfl) ⟨Nat.le_of_ble_eq_true rfl, Nat.le_of_ble_eq_true rfl⟩ ⟨Nat.le_refl _, Nat.le_refl _⟩ d_Po_become_68 (fun y68 => ?_)
  refine aw_aload_n d_Po_become_71 1 rfl ?_
  refine aw_getR (t := (a1 + 22)) fl_Po_27 (fx_isTK ha1 16 (by decide)) (fx_isTR ha1 16 7 (by decide) (by decide)) d_Po_become_72 ?_
  refine aw_aload_n d_Po_become_75 0 rfl ?_
  refine aw_getR (t := (a0 + 22)) fl_Po_27 (fx_isTK ha0 16 (by decide)) (fx_isTR ha0 16 7 (by decide) (by decide)) d_Po_become_76 ?_
  refine aw_SN_v (As := [.ref (a1 + 22), .ref (a0 + 22)]) (m_Fp_copy (congrArg Prod.fst (fx_isTK ha1 22 (by decide))) (congrArg Prod.fst (fx_isTK ha0 22 (by decide)))) cs_Po_43 rfl rfl (Nat.le_of_ble_eq_true rfl) ⟨Nat.le_of_ble_eq_true rfl, Nat.le_of_ble_eq_true rfl⟩ ⟨Nat.le_refl _, Nat.le_refl _⟩ d_Po_become_79 (fun y79 => ?_)
  refine aw_aload_n d_Po_become_82 1 rfl ?_
  refine aw_getR (t := (a1 + 23)) fl_Po_30 (fx_isTK ha1 16 (by decide)) (fx_isTR ha1 16 8 (by decide) (by decide)) d_Po_become_83 ?_
  refine aw_aload_n d_Po_become_86 0 rfl ?_
  refine aw_getR (t := (a0 + 23)) fl_Po_30 (fx_isTK ha0 16 (by decide)) (fx_isTR ha0 16 8 (by decide) (by decide)) d_Po_become_87 ?_
  refine aw_SN_v (As := [.ref (a1 + 23), .ref (a0 + 23)]) (m_Fp_copy (congrArg Prod.fst (fx_isTK ha1 23 (by decide))) (congrArg Prod.fst (fx_isTK ha0 23 (by decide)))) cs_Po_43 rfl rfl (Nat.le_of_ble_eq_true rfl) ⟨Nat.le_of_ble_eq_true rfl, Nat.le_of_ble_eq_true rfl⟩ ⟨Nat.le_refl _, Nat.le_refl _⟩ d_Po_become_90 (fun y90 => ?_)
  refine aw_aload_n d_Po_become_93 1 rfl ?_
  refine aw_getR (t := (a1 + 24)) fl_Po_33 (fx_isTK ha1 16 (by decide)) (fx_isTR ha1 16 9 (by decide) (by decide)) d_Po_become_94 ?_
  refine aw_aload_n d_Po_become_97 0 rfl ?_
  refine aw_getR (t := (a0 + 24)) fl_Po_33 (fx_isTK ha0 16 (by decide)) (fx_isTR ha0 16 9 (by decide) (by decide)) d_Po_become_98 ?_
  refine aw_SN_v (As := [.ref (a1 + 24), .ref (a0 + 24)]) (m_Fp_copy (congrArg Prod.fst (fx_isTK ha1 24 (by decide))) (congrArg Prod.fst (fx_isTK ha0 24 (by decide)))) cs_Po_43 rfl rfl (Nat.le_of_ble_eq_true rfl) ⟨Nat.le_of_ble_eq_true rfl, Nat.le_of_ble_eq_true rfl⟩ ⟨Nat.le_refl _, Nat.le_refl _⟩ d_Po_become_101 (fun y101 => ?_)
  exact aw_vret rfl rfl ⟨Nat.le_refl _, Nat.le_refl _⟩ d_Po_become_104
def f_Bo_become (a0 : Nat) (a1 : Nat) (δ : Dm) : Option Dm := (bnd (sI δ a0 0 (gI δ a1 0)) (fun δ_5 => (bnd (sI δ_5 a0 1 (gI δ_5 a1 1)) (fun δ_13 => (bnd (sI δ_13 a0 2 (gI δ_13 a1 2)) (fun δ_21 => (bnd (sI δ_21 a0 3 (gI δ_21 a1 3)) (fun δ_29 => (bnd (sI δ_29 a0 4 (gI δ_29 a1 4)) (fun δ_37 => (bnd (sI δ_37 a0 5 (gI δ_37 a1 5)) (fun δ_45 => (bnd (sI δ_45 a0 6 (gI δ_45 a1 6)) (fun δ_53 => (bnd (sI δ_53 a0 7 (gI δ_53 a1 7)) (fun δ_61 => (bnd (sI δ_61 a0 8 (gI δ_61 a1 8)) (fun δ_69 => ((f_Fp_copy (a1 + 1) (a0 + 1) δ_69).bind (fun y80 => ((f_Fp_copy (a1 + 2) (a0 + 2) y80).bind (fun y91 => ((f_Fp_copy (a1 + 3) (a0 + 3) y91).bind (fun y102 => (some y102)))))))))))))))))))))))))
set_option maxHeartbeats 4000000 in
set_option maxRecDepth 100000 in
theorem m_Bo_become {a0 : Nat} {a1 : Nat} {δ : Dm} {n : Nat} (ha0 : isB a0 = true) (ha1 : isB a1 = true) : ∀ x, f_Bo_become a0 a1 δ = some x → AMet k_Bo_become 2 0 0 [.ref a0, .ref a1] δ RT n (Kv RT n x) := by
  refine aw_start (lo := [(0, .ref a0), (1, .ref a1)]) mok_Bo_become rfl (Nat.le_of_ble_eq_true rfl) ?_
  unfold f_Bo_become
  refine aw_aload_n d_Bo_become_0 0 rfl ?_
  refine aw_aload_n d_Bo_become_1 1 rfl ?_
  refine aw_getI fl_Bo_21 (fx_isBK ha1 0 (by decide)) d_Bo_become_2 ?_
  refine aw_putI pf_Bo_21 (fx_isBK ha0 0 (by decide)) d_Bo_become_5 ?_
  refine aw_bD (fun δ_5 => ?_)
  refine aw_aload_n d_Bo_become_8 0 rfl ?_
  refine aw_aload_n d_Bo_become_9 1 rfl ?_
  refine aw_getI fl_Bo_25 (fx_isBK ha1 0 (by decide)) d_Bo_become_10 ?_
  refine aw_putI pf_Bo_25 (fx_isBK ha0 0 (by decide)) d_Bo_become_13 ?_
  refine aw_bD (fun δ_13 => ?_)
  refine aw_aload_n d_Bo_become_16 0 rfl ?_
  refine aw_aload_n d_Bo_become_17 1 rfl ?_
  refine aw_getI fl_Bo_28 (fx_isBK ha1 0 (by decide)) d_Bo_become_18 ?_
  refine aw_putI pf_Bo_28 (fx_isBK ha0 0 (by decide)) d_Bo_become_21 ?_
  refine aw_bD (fun δ_21 => ?_)
  refine aw_aload_n d_Bo_become_24 0 rfl ?_
  refine aw_aload_n d_Bo_become_25 1 rfl ?_
  refine aw_getI fl_Bo_31 (fx_isBK ha1 0 (by decide)) d_Bo_become_26 ?_
  refine aw_putI pf_Bo_31 (fx_isBK ha0 0 (by decide)) d_Bo_become_29 ?_
  refine aw_bD (fun δ_29 => ?_)
  refine aw_aload_n d_Bo_become_32 0 rfl ?_
  refine aw_aload_n d_Bo_become_33 1 rfl ?_
  refine aw_getI fl_Bo_34 (fx_isBK ha1 0 (by decide)) d_Bo_become_34 ?_
  refine aw_putI pf_Bo_34 (fx_isBK ha0 0 (by decide)) d_Bo_become_37 ?_
  refine aw_bD (fun δ_37 => ?_)
  refine aw_aload_n d_Bo_become_40 0 rfl ?_
  refine aw_aload_n d_Bo_become_41 1 rfl ?_
  refine aw_getI fl_Bo_37 (fx_isBK ha1 0 (by decide)) d_Bo_become_42 ?_
  refine aw_putI pf_Bo_37 (fx_isBK ha0 0 (by decide)) d_Bo_become_45 ?_
  refine aw_bD (fun δ_45 => ?_)
  refine aw_aload_n d_Bo_become_48 0 rfl ?_
  refine aw_aload_n d_Bo_become_49 1 rfl ?_
  refine aw_getI fl_Bo_40 (fx_isBK ha1 0 (by decide)) d_Bo_become_50 ?_
  refine aw_putI pf_Bo_40 (fx_isBK ha0 0 (by decide)) d_Bo_become_53 ?_
  refine aw_bD (fun δ_53 => ?_)
  refine aw_aload_n d_Bo_become_56 0 rfl ?_
  refine aw_aload_n d_Bo_become_57 1 rfl ?_
  refine aw_getI fl_Bo_43 (fx_isBK ha1 0 (by decide)) d_Bo_become_58 ?_
  refine aw_putI pf_Bo_43 (fx_isBK ha0 0 (by decide)) d_Bo_become_61 ?_
  refine aw_bD (fun δ_61 => ?_)
  refine aw_aload_n d_Bo_become_64 0 rfl ?_
  refine aw_aload_n d_Bo_become_65 1 rfl ?_
  refine aw_getI fl_Bo_46 (fx_isBK ha1 0 (by decide)) d_Bo_become_66 ?_
  refine aw_putI pf_Bo_46 (fx_isBK ha0 0 (by decide)) d_Bo_become_69 ?_
  refine aw_bD (fun δ_69 => ?_)
  refine aw_aload_n d_Bo_become_72 1 rfl ?_
  refine aw_getR (t := (a1 + 1)) fl_Bo_9 (fx_isBK ha1 0 (by decide)) (fx_isBR ha1 0 9 (by decide) (by decide)) d_Bo_become_73 ?_
  refine aw_aload_n d_Bo_become_76 0 rfl ?_
  refine aw_getR (t := (a0 + 1)) fl_Bo_9 (fx_isBK ha0 0 (by decide)) (fx_isBR ha0 0 9 (by decide) (by decide)) d_Bo_become_77 ?_
  refine aw_SN_v (As := [.ref (a1 + 1), .ref (a0 + 1)]) (m_Fp_copy (congrArg Prod.fst (fx_isBK ha1 1 (by decide))) (congrArg Prod.fst (fx_isBK ha0 1 (by decide)))) cs_Bo_55 rfl rfl (Nat.le_of_ble_eq_true rfl) ⟨Nat.le_of_ble_eq_true rfl, Nat.le_of_ble_eq_true rfl⟩ ⟨Nat.le_refl _, Nat.le_refl _⟩ d_Bo_become_80 (fun y80 => ?_)
  refine aw_aload_n d_Bo_become_83 1 rfl ?_
  refine aw_getR (t := (a1 + 2)) fl_Bo_15 (fx_isBK ha1 0 (by decide)) (fx_isBR ha1 0 10 (by decide) (by decide)) d_Bo_become_84 ?_
  refine aw_aload_n d_Bo_become_87 0 rfl ?_
  refine aw_getR (t := (a0 + 2)) fl_Bo_15 (fx_isBK ha0 0 (by decide)) (fx_isBR ha0 0 10 (by decide) (by decide)) d_Bo_become_88 ?_
  refine aw_SN_v (As := [.ref (a1 + 2), .ref (a0 + 2)]) (m_Fp_copy (congrArg Prod.fst (fx_isBK ha1 2 (by decide))) (congrArg Prod.fst (fx_isBK ha0 2 (by decide)))) cs_Bo_55 rfl rfl (Nat.le_of_ble_eq_true rfl) ⟨Nat.le_of_ble_eq_true rfl, Nat.le_of_ble_eq_true rfl⟩ ⟨Nat.le_refl _, Nat.le_refl _⟩ d_Bo_become_91 (fun y91 => ?_)
  refine aw_aload_n d_Bo_become_94 1 rfl ?_
  refine aw_getR (t := (a1 + 3)) fl_Bo_18 (fx_isBK ha1 0 (by decide)) (fx_isBR ha1 0 11 (by decide) (by decide)) d_Bo_become_95 ?_
  refine aw_aload_n d_Bo_become_98 0 rfl ?_
  refine aw_getR (t := (a0 + 3)) fl_Bo_18 (fx_isBK ha0 0 (by decide)) (fx_isBR ha0 0 11 (by decide) (by decide)) d_Bo_become_99 ?_
  refine aw_SN_v (As := [.ref (a1 + 3), .ref (a0 + 3)]) (m_Fp_copy (congrArg Prod.fst (fx_isBK ha1 3 (by decide))) (congrArg Prod.fst (fx_isBK ha0 3 (by decide)))) cs_Bo_55 rfl rfl (Nat.le_of_ble_eq_true rfl) ⟨Nat.le_of_ble_eq_true rfl, Nat.le_of_ble_eq_true rfl⟩ ⟨Nat.le_refl _, Nat.le_refl _⟩ d_Bo_become_102 (fun y102 => ?_)
  exact aw_vret rfl rfl ⟨Nat.le_refl _, Nat.le_refl _⟩ d_Bo_become_105
def lp_To_become_81 (kx81_124 : Int32 → Dm → Option Dm) (a0 : Nat) (a1 : Nat) : Nat → Int32 → Dm → Option Dm
  | 0, _, _ => none
  | f + 1, v2_81, δ81 => (if (8 : Int32) ≤ v2_81 then (kx81_124 v2_81 δ81) else ((f_To_slot a0 v2_81 δ81).bind (fun o92 => ocs o92 ((f_To_slot a1 v2_81 δ81).bind (fun o98 => ocs o98 (lp_To_become_81 kx81_124 a0 a1 f (v2_81 + (1 : Int32)) δ81) (fun t98 => if isB t98 = true then (lp_To_become_81 kx81_124 a0 a1 f (v2_81 + (1 : Int32)) δ81) else none))) (fun t92 => if isB t92 = true then ((f_To_slot a1 v2_81 δ81).bind (fun o98_1 => ocs o98_1 (lp_To_become_81 kx81_124 a0 a1 f (v2_81 + (1 : Int32)) δ81) (fun t98_1 => if isB t98_1 = true then ((f_Bo_become t92 t98_1 δ81).bind (fun y115 => (lp_To_become_81 kx81_124 a0 a1 f (v2_81 + (1 : Int32)) y115))) else none))) else none))))
set_option maxHeartbeats 4000000 in
set_option maxRecDepth 100000 in
theorem tl_To_become_81 {n : Nat} (kx81_124 : Int32 → Dm → Option Dm) (a0 : Nat) (a1 : Nat) (ha0 : isT a0 = true) (ha1 : isT a1 = true) (hkx81_124 : ∀ v2_81k δ81k, AWo k_To_become 3 0 0 124 [(0, .ref a0), (1, .ref a1), (2, .int v2_81k)] [] δ81k RT n 0 0 (Kv RT n) (kx81_124 v2_81k δ81k)) : ∀ (f : Nat) (v2_81 : Int32) (δ81 : Dm), AWo k_To_become 3 0 0 81 [(0, .ref a0), (1, .ref a1), (2, .int v2_81)] [] δ81 RT n 0 0 (Kv RT n) (lp_To_become_81 kx81_124 a0 a1 f v2_81 δ81) := by
  intro f
  induction f with
  | zero => intro _ _; exact aw_none
  | succ f ih =>
    intro v2_81 δ81
    rw [lp_To_become_81]
    refine aw_iload_n d_To_become_81 2 rfl ?_
    refine aw_aload_n d_To_become_82 0 rfl ?_
    refine aw_getR (t := (a0 + 4)) fl_To_23 (fx_isTK ha0 0 (by decide)) (fx_isTR ha0 0 6 (by decide) (by decide)) d_To_become_83 ?_
    refine aw_alen (v := (8 : Int32)) (fx_isTK ha0 4 (by decide)) ⟨by decide, by decide⟩ (by decide) d_To_become_86 ?_
    refine aw_icmp_ge (tgt := 124) d_To_become_87 rfl (fun q87 => ?_) (fun q87 => ?_)
    · refine aw_sub (lo' := [(0, .ref a0), (1, .ref a1), (2, .int v2_81)]) [0, 1, 2] rfl ?_
      exact hkx81_124 _ _
    · refine aw_aload_n d_To_become_90 0 rfl ?_
      refine aw_iload_n d_To_become_91 2 rfl ?_
      refine aw_V_r (As := [.int v2_81]) (m_To_slot ha0) cv_To_69 (fx_isTK ha0 0 (by decide)) rfl rfl rfl (Nat.le_of_ble_eq_true rfl) ⟨Nat.le_of_ble_eq_true rfl, Nat.le_of_ble_eq_true rfl⟩ ⟨Nat.le_refl _, Nat.le_refl _⟩ d_To_become_92 ?_ (fun t92 => ?_)
      · refine aw_astoreN_n (lo' := [(3, .null), (0, .ref a0), (1, .ref a1), (2, .int v2_81)]) d_To_become_95 rfl (by decide) rfl ?_
        refine aw_aload_n d_To_become_96 2 rfl ?_
        refine aw_iload_n d_To_become_97 3 rfl ?_
        refine aw_V_r (As := [.int v2_81]) (m_To_slot ha1) cv_To_69 (fx_isTK ha1 0 (by decide)) rfl rfl rfl (Nat.le_of_ble_eq_true rfl) ⟨Nat.le_of_ble_eq_true rfl, Nat.le_of_ble_eq_true rfl⟩ ⟨Nat.le_refl _, Nat.le_refl _⟩ d_To_become_98 ?_ (fun t98 => ?_)
        · refine aw_astoreN (lo' := [(4, .null), (3, .null), (0, .ref a0), (1, .ref a1), (2, .int v2_81)]) d_To_become_101 (by decide) rfl ?_
          refine aw_aloadN_n d_To_become_103 1 rfl ?_
          refine aw_ifnullN (tgt := 118) d_To_become_104 rfl ?_
          refine aw_iinc (v := (v2_81 + (1 : Int32))) (lo' := [(2, .int (v2_81 + (1 : Int32))), (4, .null), (3, .null), (0, .ref a0), (1, .ref a1)]) d_To_become_118 4 rfl (by rw [show Int32.ofInt (1) = (1 : Int32) from by decide]) (by decide) rfl ?_
          refine aw_goto (tgt := 81) d_To_become_121 rfl ?_
          refine aw_sub (lo' := [(0, .ref a0), (1, .ref a1), (2, .int (v2_81 + (1 : Int32)))]) [3, 4, 0] rfl ?_
          exact ih _ _
        · refine aw_grd (fun ht98 => ?_)
          refine aw_astore (lo' := [(4, .ref t98), (3, .null), (0, .ref a0), (1, .ref a1), (2, .int v2_81)]) d_To_become_101 (by decide) rfl ?_
          refine aw_aloadN_n d_To_become_103 1 rfl ?_
          refine aw_ifnullN (tgt := 118) d_To_become_104 rfl ?_
          refine aw_iinc (v := (v2_81 + (1 : Int32))) (lo' := [(2, .int (v2_81 + (1 : Int32))), (4, .ref t98), (3, .null), (0, .ref a0), (1, .ref a1)]) d_To_become_118 4 rfl (by rw [show Int32.ofInt (1) = (1 : Int32) from by decide]) (by decide) rfl ?_
          refine aw_goto (tgt := 81) d_To_become_121 rfl ?_
          refine aw_sub (lo' := [(0, .ref a0), (1, .ref a1), (2, .int (v2_81 + (1 : Int32)))]) [3, 4, 0] rfl ?_
          exact ih _ _
      · refine aw_grd (fun ht92 => ?_)
        refine aw_astore_n (lo' := [(3, .ref t92), (0, .ref a0), (1, .ref a1), (2, .int v2_81)]) d_To_become_95 rfl (by decide) rfl ?_
        refine aw_aload_n d_To_become_96 2 rfl ?_
        refine aw_iload_n d_To_become_97 3 rfl ?_
        refine aw_V_r (As := [.int v2_81]) (m_To_slot ha1) cv_To_69 (fx_isTK ha1 0 (by decide)) rfl rfl rfl (Nat.le_of_ble_eq_true rfl) ⟨Nat.le_of_ble_eq_true rfl, Nat.le_of_ble_eq_true rfl⟩ ⟨Nat.le_refl _, Nat.le_refl _⟩ d_To_become_98 ?_ (fun t98_1 => ?_)
        · refine aw_astoreN (lo' := [(4, .null), (3, .ref t92), (0, .ref a0), (1, .ref a1), (2, .int v2_81)]) d_To_become_101 (by decide) rfl ?_
          refine aw_aload_n d_To_become_103 1 rfl ?_
          refine aw_ifnull d_To_become_104 ?_
          refine aw_aloadN d_To_become_107 0 rfl ?_
          refine aw_ifnullN (tgt := 118) d_To_become_109 rfl ?_
          refine aw_iinc (v := (v2_81 + (1 : Int32))) (lo' := [(2, .int (v2_81 + (1 : Int32))), (4, .null), (3, .ref t92), (0, .ref a0), (1, .ref a1)]) d_To_become_118 4 rfl (by rw [show Int32.ofInt (1) = (1 : Int32) from by decide]) (by decide) rfl ?_
          refine aw_goto (tgt := 81) d_To_become_121 rfl ?_
          refine aw_sub (lo' := [(0, .ref a0), (1, .ref a1), (2, .int (v2_81 + (1 : Int32)))]) [3, 4, 0] rfl ?_
          exact ih _ _
        · refine aw_grd (fun ht98_1 => ?_)
          refine aw_astore (lo' := [(4, .ref t98_1), (3, .ref t92), (0, .ref a0), (1, .ref a1), (2, .int v2_81)]) d_To_become_101 (by decide) rfl ?_
          refine aw_aload_n d_To_become_103 1 rfl ?_
          refine aw_ifnull d_To_become_104 ?_
          refine aw_aload d_To_become_107 0 rfl ?_
          refine aw_ifnull d_To_become_109 ?_
          refine aw_aload_n d_To_become_112 1 rfl ?_
          refine aw_aload d_To_become_113 0 rfl ?_
          refine aw_V_v (As := [.ref t98_1]) (m_Bo_become ht92 ht98_1) cv_To_73 (fx_isBK ht92 0 (by decide)) rfl rfl rfl (Nat.le_of_ble_eq_true rfl) ⟨Nat.le_of_ble_eq_true rfl, Nat.le_of_ble_eq_true rfl⟩ ⟨Nat.le_refl _, Nat.le_refl _⟩ d_To_become_115 (fun y115 => ?_)
          refine aw_iinc (v := (v2_81 + (1 : Int32))) (lo' := [(2, .int (v2_81 + (1 : Int32))), (4, .ref t98_1), (3, .ref t92), (0, .ref a0), (1, .ref a1)]) d_To_become_118 4 rfl (by rw [show Int32.ofInt (1) = (1 : Int32) from by decide]) (by decide) rfl ?_
          refine aw_goto (tgt := 81) d_To_become_121 rfl ?_
          refine aw_sub (lo' := [(0, .ref a0), (1, .ref a1), (2, .int (v2_81 + (1 : Int32)))]) [3, 4, 0] rfl ?_
          exact ih _ _
def f_To_become (a0 : Nat) (a1 : Nat) (δ : Dm) : Option Dm := (bnd (sI δ a0 0 (gI δ a1 0)) (fun δ_5 => (bnd (sI δ_5 a0 1 (gI δ_5 a1 1)) (fun δ_13 => (bnd (sI δ_13 a0 2 (gI δ_13 a1 2)) (fun δ_21 => ((f_Fp_copy (a1 + 1) (a0 + 1) δ_21).bind (fun y32 => ((f_Fp_copy (a1 + 2) (a0 + 2) y32).bind (fun y43 => ((f_Fp_copy (a1 + 3) (a0 + 3) y43).bind (fun y54 => ((f_Di_become a0 a1 y54).bind (fun y65 => ((f_Po_become a0 a1 y65).bind (fun y76 => (lp_To_become_81 (fun v2_81x δ81x => (some δ81x)) a0 a1 FU (0 : Int32) y76)))))))))))))))))
set_option maxHeartbeats 4000000 in
set_option maxRecDepth 100000 in
theorem m_To_become {a0 : Nat} {a1 : Nat} {δ : Dm} {n : Nat} (ha0 : isT a0 = true) (ha1 : isT a1 = true) : ∀ x, f_To_become a0 a1 δ = some x → AMet k_To_become 3 0 0 [.ref a0, .ref a1] δ RT n (Kv RT n x) := by
  refine aw_start (lo := [(0, .ref a0), (1, .ref a1)]) mok_To_become rfl (Nat.le_of_ble_eq_true rfl) ?_
  unfold f_To_become
  refine aw_aload_n d_To_become_0 0 rfl ?_
  refine aw_aload_n d_To_become_1 1 rfl ?_
  refine aw_getI fl_To_48 (fx_isTK ha1 0 (by decide)) d_To_become_2 ?_
  refine aw_putI pf_To_48 (fx_isTK ha0 0 (by decide)) d_To_become_5 ?_
  refine aw_bD (fun δ_5 => ?_)
  refine aw_aload_n d_To_become_8 0 rfl ?_
  refine aw_aload_n d_To_become_9 1 rfl ?_
  refine aw_getI fl_To_52 (fx_isTK ha1 0 (by decide)) d_To_become_10 ?_
  refine aw_putI pf_To_52 (fx_isTK ha0 0 (by decide)) d_To_become_13 ?_
  refine aw_bD (fun δ_13 => ?_)
  refine aw_aload_n d_To_become_16 0 rfl ?_
  refine aw_aload_n d_To_become_17 1 rfl ?_
  refine aw_getI fl_To_55 (fx_isTK ha1 0 (by decide)) d_To_become_18 ?_
  refine aw_putI pf_To_55 (fx_isTK ha0 0 (by decide)) d_To_become_21 ?_
  refine aw_bD (fun δ_21 => ?_)
  refine aw_aload_n d_To_become_24 1 rfl ?_
  refine aw_getR (t := (a1 + 1)) fl_To_9 (fx_isTK ha1 0 (by decide)) (fx_isTR ha1 0 3 (by decide) (by decide)) d_To_become_25 ?_
  refine aw_aload_n d_To_become_28 0 rfl ?_
  refine aw_getR (t := (a0 + 1)) fl_To_9 (fx_isTK ha0 0 (by decide)) (fx_isTR ha0 0 3 (by decide) (by decide)) d_To_become_29 ?_
  refine aw_SN_v (As := [.ref (a1 + 1), .ref (a0 + 1)]) (m_Fp_copy (congrArg Prod.fst (fx_isTK ha1 1 (by decide))) (congrArg Prod.fst (fx_isTK ha0 1 (by decide)))) cs_To_58 rfl rfl (Nat.le_of_ble_eq_true rfl) ⟨Nat.le_of_ble_eq_true rfl, Nat.le_of_ble_eq_true rfl⟩ ⟨Nat.le_refl _, Nat.le_refl _⟩ d_To_become_32 (fun y32 => ?_)
  refine aw_aload_n d_To_become_35 1 rfl ?_
  refine aw_getR (t := (a1 + 2)) fl_To_15 (fx_isTK ha1 0 (by decide)) (fx_isTR ha1 0 4 (by decide) (by decide)) d_To_become_36 ?_
  refine aw_aload_n d_To_become_39 0 rfl ?_
  refine aw_getR (t := (a0 + 2)) fl_To_15 (fx_isTK ha0 0 (by decide)) (fx_isTR ha0 0 4 (by decide) (by decide)) d_To_become_40 ?_
  refine aw_SN_v (As := [.ref (a1 + 2), .ref (a0 + 2)]) (m_Fp_copy (congrArg Prod.fst (fx_isTK ha1 2 (by decide))) (congrArg Prod.fst (fx_isTK ha0 2 (by decide)))) cs_To_58 rfl rfl (Nat.le_of_ble_eq_true rfl) ⟨Nat.le_of_ble_eq_true rfl, Nat.le_of_ble_eq_true rfl⟩ ⟨Nat.le_refl _, Nat.le_refl _⟩ d_To_become_43 (fun y43 => ?_)
  refine aw_aload_n d_To_become_46 1 rfl ?_
  refine aw_getR (t := (a1 + 3)) fl_To_18 (fx_isTK ha1 0 (by decide)) (fx_isTR ha1 0 5 (by decide) (by decide)) d_To_become_47 ?_
  refine aw_aload_n d_To_become_50 0 rfl ?_
  refine aw_getR (t := (a0 + 3)) fl_To_18 (fx_isTK ha0 0 (by decide)) (fx_isTR ha0 0 5 (by decide) (by decide)) d_To_become_51 ?_
  refine aw_SN_v (As := [.ref (a1 + 3), .ref (a0 + 3)]) (m_Fp_copy (congrArg Prod.fst (fx_isTK ha1 3 (by decide))) (congrArg Prod.fst (fx_isTK ha0 3 (by decide)))) cs_To_58 rfl rfl (Nat.le_of_ble_eq_true rfl) ⟨Nat.le_of_ble_eq_true rfl, Nat.le_of_ble_eq_true rfl⟩ ⟨Nat.le_refl _, Nat.le_refl _⟩ d_To_become_54 (fun y54 => ?_)
  refine aw_aload_n d_To_become_57 0 rfl ?_
  refine aw_getR (t := (a0 + 5)) fl_To_30 (fx_isTK ha0 0 (by decide)) (fx_isTR ha0 0 7 (by decide) (by decide)) d_To_become_58 ?_
  refine aw_aload_n d_To_become_61 1 rfl ?_
  refine aw_getR (t := (a1 + 5)) fl_To_30 (fx_isTK ha1 0 (by decide)) (fx_isTR ha1 0 7 (by decide) (by decide)) d_To_become_62 ?_
  refine aw_V_v (As := [.ref (a1 + 5)]) (m_Di_become ha0 ha1) cv_To_62 (fx_isTK ha0 5 (by decide)) rfl rfl rfl (Nat.le_of_ble_eq_true rfl) ⟨Nat.le_of_ble_eq_true rfl, Nat.le_of_ble_eq_true rfl⟩ ⟨Nat.le_refl _, Nat.le_refl _⟩ d_To_become_65 (fun y65 => ?_)
  refine aw_aload_n d_To_become_68 0 rfl ?_
  refine aw_getR (t := (a0 + 16)) fl_To_37 (fx_isTK ha0 0 (by decide)) (fx_isTR ha0 0 8 (by decide) (by decide)) d_To_become_69 ?_
  refine aw_aload_n d_To_become_72 1 rfl ?_
  refine aw_getR (t := (a1 + 16)) fl_To_37 (fx_isTK ha1 0 (by decide)) (fx_isTR ha1 0 8 (by decide) (by decide)) d_To_become_73 ?_
  refine aw_V_v (As := [.ref (a1 + 16)]) (m_Po_become ha0 ha1) cv_To_66 (fx_isTK ha0 16 (by decide)) rfl rfl rfl (Nat.le_of_ble_eq_true rfl) ⟨Nat.le_of_ble_eq_true rfl, Nat.le_of_ble_eq_true rfl⟩ ⟨Nat.le_refl _, Nat.le_refl _⟩ d_To_become_76 (fun y76 => ?_)
  refine aw_iconst d_To_become_79 ki_0 ?_
  refine aw_istore_n (lo' := [(2, .int (0 : Int32)), (0, .ref a0), (1, .ref a1)]) d_To_become_80 rfl (by decide) rfl ?_
  refine aw_sub (lo' := [(0, .ref a0), (1, .ref a1), (2, .int (0 : Int32))]) [1, 2, 0] rfl ?_
  refine tl_To_become_81 _ _ _ ha0 ha1 (fun v2_81x δ81x => ?_) FU _ _
  · exact aw_vret rfl rfl ⟨Nat.le_refl _, Nat.le_refl _⟩ d_To_become_124
def f_Fp_back (a1 : Int32) (δ : Dm) : Option (Int32 × Dm) := (if a1 < 0 then (some ((-1 : Int32), δ)) else (if a1 < (4 : Int32) then (if inb a1 4 then ocs (dR (gI δ 86 (ix a1))) (some ((-1 : Int32), δ)) (fun t20 => if isT t20 = true then ((f_To_become 29 t20 δ).bind (fun y33 => (some ((gI y33 29 0), y33)))) else none) else none) else (some ((-1 : Int32), δ))))
set_option maxHeartbeats 4000000 in
set_option maxRecDepth 100000 in
theorem m_Fp_back {a1 : Int32} {δ : Dm} {n : Nat} : ∀ x, f_Fp_back a1 δ = some x → AMet k_Fp_back 4 0 0 [.ref 4, .int a1] δ RT n (Km RT n x) := by
  refine aw_start (lo := [(0, .ref 4), (1, .int a1)]) mok_Fp_back rfl (Nat.le_of_ble_eq_true rfl) ?_
  unfold f_Fp_back
  refine aw_iload_n d_Fp_back_0 1 rfl ?_
  refine aw_if_lt (tgt := 13) d_Fp_back_1 rfl (fun q1 => ?_) (fun q1 => ?_)
  · refine aw_iconst d_Fp_back_13 ki_m1 ?_
    exact aw_iret rfl rfl ⟨Nat.le_refl _, Nat.le_refl _⟩ d_Fp_back_14
  · refine aw_iload_n d_Fp_back_4 1 rfl ?_
    refine aw_aload_n d_Fp_back_5 0 rfl ?_
    refine aw_getR (t := 86) fl_Fp_61 kd_4 rt_4_10 d_Fp_back_6 ?_
    refine aw_alen (v := (4 : Int32)) kd_86 ⟨by decide, by decide⟩ (by decide) d_Fp_back_9 ?_
    refine aw_icmp_lt (tgt := 15) d_Fp_back_10 rfl (fun q10 => ?_) (fun q10 => ?_)
    · refine aw_aload_n d_Fp_back_15 0 rfl ?_
      refine aw_getR (t := 86) fl_Fp_61 kd_4 rt_4_10 d_Fp_back_16 ?_
      refine aw_iload_n d_Fp_back_19 1 rfl ?_
      refine aw_aald7 kd_86 d_Fp_back_20 ?_ (fun t20 => ?_)
      · refine aw_astoreN_n (lo' := [(2, .null), (0, .ref 4), (1, .int a1)]) d_Fp_back_21 rfl (by decide) rfl ?_
        refine aw_aloadN_n d_Fp_back_22 0 rfl ?_
        refine aw_ifnonnullN d_Fp_back_23 ?_
        refine aw_iconst d_Fp_back_26 ki_m1 ?_
        exact aw_iret rfl rfl ⟨Nat.le_refl _, Nat.le_refl _⟩ d_Fp_back_27
      · refine aw_grd (fun ht20 => ?_)
        refine aw_astore_n (lo' := [(2, .ref t20), (0, .ref 4), (1, .int a1)]) d_Fp_back_21 rfl (by decide) rfl ?_
        refine aw_aload_n d_Fp_back_22 0 rfl ?_
        refine aw_ifnonnull (tgt := 28) d_Fp_back_23 rfl ?_
        refine aw_aload_n d_Fp_back_28 1 rfl ?_
        refine aw_getR (t := 29) fl_Fp_57 kd_4 rt_4_9 d_Fp_back_29 ?_
        refine aw_aload_n d_Fp_back_32 0 rfl ?_
        refine aw_V_v (As := [.ref t20]) (m_To_become (by decide) ht20) cv_Fp_352 kd_29 rfl rfl rfl (Nat.le_of_ble_eq_true rfl) ⟨Nat.le_of_ble_eq_true rfl, Nat.le_of_ble_eq_true rfl⟩ ⟨Nat.le_refl _, Nat.le_refl _⟩ d_Fp_back_33 (fun y33 => ?_)
        refine aw_aload_n d_Fp_back_36 1 rfl ?_
        refine aw_getR (t := 29) fl_Fp_57 kd_4 rt_4_9 d_Fp_back_37 ?_
        refine aw_getI fl_Fp_130 kd_29 d_Fp_back_40 ?_
        exact aw_iret rfl rfl ⟨Nat.le_refl _, Nat.le_refl _⟩ d_Fp_back_43
    · refine aw_iconst d_Fp_back_13 ki_m1 ?_
      exact aw_iret rfl rfl ⟨Nat.le_refl _, Nat.le_refl _⟩ d_Fp_back_14
def f_Mo_in (a0 : Int64) (a2 : Int64) (a4 : Int64) (δ : Dm) : Option Int32 := (if (lg_cmp a0 a2) < 0 then (some (0 : Int32)) else (if 0 < (lg_cmp a0 a4) then (some (0 : Int32)) else (some (1 : Int32))))
set_option maxHeartbeats 4000000 in
set_option maxRecDepth 100000 in
theorem m_Mo_in {a0 : Int64} {a2 : Int64} {a4 : Int64} {δ : Dm} {n : Nat} : ∀ x, f_Mo_in a0 a2 a4 δ = some x → AMet k_Mo_in 1 0 0 [.long a0, .long a2, .long a4] δ RT n (Kp δ RT n x) := by
  refine aw_start (lo := [(0, .long a0), (2, .long a2), (4, .long a4)]) mok_Mo_in rfl (Nat.le_of_ble_eq_true rfl) ?_
  unfold f_Mo_in
  refine aw_lload_n d_Mo_in_0 0 rfl ?_
  refine aw_lload_n d_Mo_in_1 1 rfl ?_
  refine aw_lcmp d_Mo_in_2 ?_
  refine aw_if_lt (tgt := 17) d_Mo_in_3 rfl (fun q3 => ?_) (fun q3 => ?_)
  · refine aw_iconst d_Mo_in_17 ki_0 ?_
    exact aw_zret rfl rfl rfl ⟨Nat.le_refl _, Nat.le_refl _⟩ d_Mo_in_18
  · refine aw_lload_n d_Mo_in_6 0 rfl ?_
    refine aw_lload d_Mo_in_7 2 rfl ?_
    refine aw_lcmp d_Mo_in_9 ?_
    refine aw_if_gt (tgt := 17) d_Mo_in_10 rfl (fun q10 => ?_) (fun q10 => ?_)
    · refine aw_iconst d_Mo_in_17 ki_0 ?_
      exact aw_zret rfl rfl rfl ⟨Nat.le_refl _, Nat.le_refl _⟩ d_Mo_in_18
    · refine aw_iconst d_Mo_in_13 ki_1 ?_
      refine aw_goto (tgt := 18) d_Mo_in_14 rfl ?_
      exact aw_zret rfl rfl rfl ⟨Nat.le_refl _, Nat.le_refl _⟩ d_Mo_in_18
def lp_Mo_place_91 (kx91_141 : Int32 → Dm → Option (Int32 × Dm)) (a1 : Int32) (v31 : Int32) : Nat → Int32 → Dm → Option (Int32 × Dm)
  | 0, _, _ => none
  | f + 1, v3_91, δ91 => (if (8 : Int32) ≤ v3_91 then (kx91_141 v3_91 δ91) else (if inb ((8726 : Int32) + ((2 : Int32) * (((12 : Int32) * v3_91) + v31))) 8918 then bnd (sI δ91 152 (ix ((8726 : Int32) + ((2 : Int32) * (((12 : Int32) * v3_91) + v31)))) (0 : Int32)) (fun δ_114 => (if inb (((8726 : Int32) + ((2 : Int32) * (((12 : Int32) * v3_91) + v31))) + (1 : Int32)) 8918 then bnd (sI δ_114 152 (ix (((8726 : Int32) + ((2 : Int32) * (((12 : Int32) * v3_91) + v31))) + (1 : Int32))) (0 : Int32)) (fun δ_134 => (lp_Mo_place_91 kx91_141 a1 v31 f (v3_91 + (1 : Int32)) δ_134)) else none)) else none))
set_option maxHeartbeats 4000000 in
set_option maxRecDepth 100000 in
theorem tl_Mo_place_91 {n : Nat} (kx91_141 : Int32 → Dm → Option (Int32 × Dm)) (a1 : Int32) (v31 : Int32) (hkx91_141 : ∀ v3_91k δ91k, AWo k_Mo_place 2 0 0 141 [(0, .ref 151), (1, .int a1), (2, .int v31), (3, .int v3_91k)] [] δ91k RT n 0 0 (Km RT n) (kx91_141 v3_91k δ91k)) : ∀ (f : Nat) (v3_91 : Int32) (δ91 : Dm), AWo k_Mo_place 2 0 0 91 [(0, .ref 151), (1, .int a1), (2, .int v31), (3, .int v3_91)] [] δ91 RT n 0 0 (Km RT n) (lp_Mo_place_91 kx91_141 a1 v31 f v3_91 δ91) := by
  intro f
  induction f with
  | zero => intro _ _; exact aw_none
  | succ f ih =>
    intro v3_91 δ91
    rw [lp_Mo_place_91]
    refine aw_iload_n d_Mo_place_91 3 rfl ?_
    refine aw_bipush d_Mo_place_92 kb_8 ?_
    refine aw_icmp_ge (tgt := 141) d_Mo_place_94 rfl (fun q94 => ?_) (fun q94 => ?_)
    · refine aw_sub (lo' := [(0, .ref 151), (1, .int a1), (2, .int v31), (3, .int v3_91)]) [0, 1, 2, 3] rfl ?_
      exact hkx91_141 _ _
    · refine aw_aload_n d_Mo_place_97 0 rfl ?_
      refine aw_getR (t := 152) fl_Mo_7 kd_151 rt_151_0 d_Mo_place_98 ?_
      refine aw_sipush d_Mo_place_101 ks_8726 ?_
      refine aw_iconst d_Mo_place_104 ki_2 ?_
      refine aw_bipush d_Mo_place_105 kb_12 ?_
      refine aw_iload_n d_Mo_place_107 3 rfl ?_
      refine aw_imul d_Mo_place_108 ?_
      refine aw_iload_n d_Mo_place_109 2 rfl ?_
      refine aw_iadd d_Mo_place_110 ?_
      refine aw_imul d_Mo_place_111 ?_
      refine aw_iadd d_Mo_place_112 ?_
      refine aw_iconst d_Mo_place_113 ki_0 ?_
      refine aw_iast kd_152 d_Mo_place_114 ?_
      refine aw_bD (fun δ_114 => ?_)
      refine aw_aload_n d_Mo_place_115 0 rfl ?_
      refine aw_getR (t := 152) fl_Mo_7 kd_151 rt_151_0 d_Mo_place_116 ?_
      refine aw_sipush d_Mo_place_119 ks_8726 ?_
      refine aw_iconst d_Mo_place_122 ki_2 ?_
      refine aw_bipush d_Mo_place_123 kb_12 ?_
      refine aw_iload_n d_Mo_place_125 3 rfl ?_
      refine aw_imul d_Mo_place_126 ?_
      refine aw_iload_n d_Mo_place_127 2 rfl ?_
      refine aw_iadd d_Mo_place_128 ?_
      refine aw_imul d_Mo_place_129 ?_
      refine aw_iadd d_Mo_place_130 ?_
      refine aw_iconst d_Mo_place_131 ki_1 ?_
      refine aw_iadd d_Mo_place_132 ?_
      refine aw_iconst d_Mo_place_133 ki_0 ?_
      refine aw_iast kd_152 d_Mo_place_134 ?_
      refine aw_bD (fun δ_134 => ?_)
      refine aw_iinc (v := (v3_91 + (1 : Int32))) (lo' := [(3, .int (v3_91 + (1 : Int32))), (0, .ref 151), (1, .int a1), (2, .int v31)]) d_Mo_place_135 3 rfl (by rw [show Int32.ofInt (1) = (1 : Int32) from by decide]) (by decide) rfl ?_
      refine aw_goto (tgt := 91) d_Mo_place_138 rfl ?_
      refine aw_sub (lo' := [(0, .ref 151), (1, .int a1), (2, .int v31), (3, .int (v3_91 + (1 : Int32)))]) [1, 2, 3, 0] rfl ?_
      exact ih _ _
def lp_Mo_place_45 (kx45_89 : Int32 → Dm → Option (Int32 × Dm)) (a1 : Int32) (v31 : Int32) : Nat → Int32 → Dm → Option (Int32 × Dm)
  | 0, _, _ => none
  | f + 1, v3_45, δ45 => (if (12 : Int32) ≤ v3_45 then (kx45_89 v3_45 δ45) else (if inb (((422 : Int32) + ((12 : Int32) * v31)) + v3_45) 8918 then bnd (sI δ45 152 (ix (((422 : Int32) + ((12 : Int32) * v31)) + v3_45)) (0 : Int32)) (fun δ_66 => (if inb (((422 : Int32) + ((12 : Int32) * v3_45)) + v31) 8918 then bnd (sI δ_66 152 (ix (((422 : Int32) + ((12 : Int32) * v3_45)) + v31)) (0 : Int32)) (fun δ_82 => (lp_Mo_place_45 kx45_89 a1 v31 f (v3_45 + (1 : Int32)) δ_82)) else none)) else none))
set_option maxHeartbeats 4000000 in
set_option maxRecDepth 100000 in
theorem tl_Mo_place_45 {n : Nat} (kx45_89 : Int32 → Dm → Option (Int32 × Dm)) (a1 : Int32) (v31 : Int32) (hkx45_89 : ∀ v3_45k δ45k, AWo k_Mo_place 2 0 0 89 [(0, .ref 151), (1, .int a1), (2, .int v31), (3, .int v3_45k)] [] δ45k RT n 0 0 (Km RT n) (kx45_89 v3_45k δ45k)) : ∀ (f : Nat) (v3_45 : Int32) (δ45 : Dm), AWo k_Mo_place 2 0 0 45 [(0, .ref 151), (1, .int a1), (2, .int v31), (3, .int v3_45)] [] δ45 RT n 0 0 (Km RT n) (lp_Mo_place_45 kx45_89 a1 v31 f v3_45 δ45) := by
  intro f
  induction f with
  | zero => intro _ _; exact aw_none
  | succ f ih =>
    intro v3_45 δ45
    rw [lp_Mo_place_45]
    refine aw_iload_n d_Mo_place_45 3 rfl ?_
    refine aw_bipush d_Mo_place_46 kb_12 ?_
    refine aw_icmp_ge (tgt := 89) d_Mo_place_48 rfl (fun q48 => ?_) (fun q48 => ?_)
    · refine aw_sub (lo' := [(0, .ref 151), (1, .int a1), (2, .int v31), (3, .int v3_45)]) [0, 1, 2, 3] rfl ?_
      exact hkx45_89 _ _
    · refine aw_aload_n d_Mo_place_51 0 rfl ?_
      refine aw_getR (t := 152) fl_Mo_7 kd_151 rt_151_0 d_Mo_place_52 ?_
      refine aw_sipush d_Mo_place_55 ks_422 ?_
      refine aw_bipush d_Mo_place_58 kb_12 ?_
      refine aw_iload_n d_Mo_place_60 2 rfl ?_
      refine aw_imul d_Mo_place_61 ?_
      refine aw_iadd d_Mo_place_62 ?_
      refine aw_iload_n d_Mo_place_63 3 rfl ?_
      refine aw_iadd d_Mo_place_64 ?_
      refine aw_iconst d_Mo_place_65 ki_0 ?_
      refine aw_iast kd_152 d_Mo_place_66 ?_
      refine aw_bD (fun δ_66 => ?_)
      refine aw_aload_n d_Mo_place_67 0 rfl ?_
      refine aw_getR (t := 152) fl_Mo_7 kd_151 rt_151_0 d_Mo_place_68 ?_
      refine aw_sipush d_Mo_place_71 ks_422 ?_
      refine aw_bipush d_Mo_place_74 kb_12 ?_
      refine aw_iload_n d_Mo_place_76 3 rfl ?_
      refine aw_imul d_Mo_place_77 ?_
      refine aw_iadd d_Mo_place_78 ?_
      refine aw_iload_n d_Mo_place_79 2 rfl ?_
      refine aw_iadd d_Mo_place_80 ?_
      refine aw_iconst d_Mo_place_81 ki_0 ?_
      refine aw_iast kd_152 d_Mo_place_82 ?_
      refine aw_bD (fun δ_82 => ?_)
      refine aw_iinc (v := (v3_45 + (1 : Int32))) (lo' := [(3, .int (v3_45 + (1 : Int32))), (0, .ref 151), (1, .int a1), (2, .int v31)]) d_Mo_place_83 3 rfl (by rw [show Int32.ofInt (1) = (1 : Int32) from by decide]) (by decide) rfl ?_
      refine aw_goto (tgt := 45) d_Mo_place_86 rfl ?_
      refine aw_sub (lo' := [(0, .ref 151), (1, .int a1), (2, .int v31), (3, .int (v3_45 + (1 : Int32)))]) [1, 2, 3, 0] rfl ?_
      exact ih _ _
def f_Mo_place (a1 : Int32) (δ : Dm) : Option (Int32 × Dm) := (if inb (1 : Int32) 8918 then (if (gI δ 152 (ix (1 : Int32))) = (12 : Int32) then (some ((-1 : Int32), δ)) else ((f_Mo_in ((a1).toInt64) (0 : Int64) (99 : Int64) δ).bind (fun y17 => (if y17 = 0 then (some ((-1 : Int32), δ)) else (if inb (1 : Int32) 8918 then (bnd (gI δ 152 (ix (1 : Int32))) (fun v31 => (if inb ((410 : Int32) + v31) 8918 then bnd (sI δ 152 (ix ((410 : Int32) + v31)) a1) (fun δ_42 => (lp_Mo_place_45 (fun v3_45x δ45x => (lp_Mo_place_91 (fun v3_91x δ91x => (if inb (1 : Int32) 8918 then (if inb (1 : Int32) 8918 then bnd (sI δ91x 152 (ix (1 : Int32)) ((gI δ91x 152 (ix (1 : Int32))) + (1 : Int32))) (fun δ_150 => (some (v31, δ_150))) else none) else none)) a1 v31 FU (0 : Int32) δ45x)) a1 v31 FU (0 : Int32) δ_42)) else none))) else none))))) else none)
set_option maxHeartbeats 4000000 in
set_option maxRecDepth 100000 in
theorem m_Mo_place {a1 : Int32} {δ : Dm} {n : Nat} : ∀ x, f_Mo_place a1 δ = some x → AMet k_Mo_place 2 0 0 [.ref 151, .int a1] δ RT n (Km RT n x) := by
  refine aw_start (lo := [(0, .ref 151), (1, .int a1)]) mok_Mo_place rfl (Nat.le_of_ble_eq_true rfl) ?_
  unfold f_Mo_place
  refine aw_aload_n d_Mo_place_0 0 rfl ?_
  refine aw_getR (t := 152) fl_Mo_7 kd_151 rt_151_0 d_Mo_place_1 ?_
  refine aw_iconst d_Mo_place_4 ki_1 ?_
  refine aw_iald kd_152 d_Mo_place_5 ?_
  refine aw_bipush d_Mo_place_6 kb_12 ?_
  refine aw_icmp_eq (tgt := 23) d_Mo_place_8 rfl (fun q8 => ?_) (fun q8 => ?_)
  · refine aw_iconst d_Mo_place_23 ki_m1 ?_
    exact aw_iret rfl rfl ⟨Nat.le_refl _, Nat.le_refl _⟩ d_Mo_place_24
  · refine aw_iload_n d_Mo_place_11 1 rfl ?_
    refine aw_i2l d_Mo_place_12 ?_
    refine aw_lconst d_Mo_place_13 kl_0 ?_
    refine aw_ldc2 (v := (99 : Int64)) d_Mo_place_14 kc_Mo_62 ?_
    refine aw_S_p (As := [.long ((a1).toInt64), .long (0 : Int64), .long (99 : Int64)]) (m_Mo_in) cs_Mo_64 rfl rfl (Nat.le_of_ble_eq_true rfl) ⟨Nat.le_of_ble_eq_true rfl, Nat.le_of_ble_eq_true rfl⟩ ⟨Nat.le_refl _, Nat.le_refl _⟩ d_Mo_place_17 (fun y17 => ?_)
    refine aw_if_ne (tgt := 25) d_Mo_place_20 rfl (fun q20 => ?_) (fun q20 => ?_)
    · refine aw_iconst d_Mo_place_23 ki_m1 ?_
      exact aw_iret rfl rfl ⟨Nat.le_refl _, Nat.le_refl _⟩ d_Mo_place_24
    · refine aw_aload_n d_Mo_place_25 0 rfl ?_
      refine aw_getR (t := 152) fl_Mo_7 kd_151 rt_151_0 d_Mo_place_26 ?_
      refine aw_iconst d_Mo_place_29 ki_1 ?_
      refine aw_iald kd_152 d_Mo_place_30 ?_
      refine aw_bI (fun v31 => ?_)
      refine aw_istore_n (lo' := [(2, .int v31), (0, .ref 151), (1, .int a1)]) d_Mo_place_31 rfl (by decide) rfl ?_
      refine aw_aload_n d_Mo_place_32 1 rfl ?_
      refine aw_getR (t := 152) fl_Mo_7 kd_151 rt_151_0 d_Mo_place_33 ?_
      refine aw_sipush d_Mo_place_36 ks_410 ?_
      refine aw_iload_n d_Mo_place_39 0 rfl ?_
      refine aw_iadd d_Mo_place_40 ?_
      refine aw_iload_n d_Mo_place_41 2 rfl ?_
      refine aw_iast kd_152 d_Mo_place_42 ?_
      refine aw_bD (fun δ_42 => ?_)
      refine aw_iconst d_Mo_place_43 ki_0 ?_
      refine aw_istore_n (lo' := [(3, .int (0 : Int32)), (2, .int v31), (0, .ref 151), (1, .int a1)]) d_Mo_place_44 rfl (by decide) rfl ?_
      refine aw_sub (lo' := [(0, .ref 151), (1, .int a1), (2, .int v31), (3, .int (0 : Int32))]) [2, 3, 1, 0] rfl ?_
      refine tl_Mo_place_45 _ _ _ (fun v3_45x δ45x => ?_) FU _ _
      · refine aw_iconst d_Mo_place_89 ki_0 ?_
        refine aw_istore_n (lo' := [(3, .int (0 : Int32)), (0, .ref 151), (1, .int a1), (2, .int v31)]) d_Mo_place_90 rfl (by decide) rfl ?_
        refine aw_sub (lo' := [(0, .ref 151), (1, .int a1), (2, .int v31), (3, .int (0 : Int32))]) [1, 2, 3, 0] rfl ?_
        refine tl_Mo_place_91 _ _ _ (fun v3_91x δ91x => ?_) FU _ _
        · refine aw_aload_n d_Mo_place_141 0 rfl ?_
          refine aw_getR (t := 152) fl_Mo_7 kd_151 rt_151_0 d_Mo_place_142 ?_
          refine aw_iconst d_Mo_place_145 ki_1 ?_
          refine aw_dup2 d_Mo_place_146 rfl rfl ?_
          refine aw_iald kd_152 d_Mo_place_147 ?_
          refine aw_iconst d_Mo_place_148 ki_1 ?_
          refine aw_iadd d_Mo_place_149 ?_
          refine aw_iast kd_152 d_Mo_place_150 ?_
          refine aw_bD (fun δ_150 => ?_)
          refine aw_iload_n d_Mo_place_151 2 rfl ?_
          exact aw_iret rfl rfl ⟨Nat.le_refl _, Nat.le_refl _⟩ d_Mo_place_152
def f_Mo_isPlace (a1 : Int32) (δ : Dm) : Option Int32 := (if a1 < 0 then (some (0 : Int32)) else (if inb (1 : Int32) 8918 then (if (gI δ 152 (ix (1 : Int32))) ≤ a1 then (some (0 : Int32)) else (some (1 : Int32))) else none))
set_option maxHeartbeats 4000000 in
set_option maxRecDepth 100000 in
theorem m_Mo_isPlace {a1 : Int32} {δ : Dm} {n : Nat} : ∀ x, f_Mo_isPlace a1 δ = some x → AMet k_Mo_isPlace 1 0 0 [.ref 151, .int a1] δ RT n (Kp δ RT n x) := by
  refine aw_start (lo := [(0, .ref 151), (1, .int a1)]) mok_Mo_isPlace rfl (Nat.le_of_ble_eq_true rfl) ?_
  unfold f_Mo_isPlace
  refine aw_iload_n d_Mo_isPlace_0 1 rfl ?_
  refine aw_if_lt (tgt := 18) d_Mo_isPlace_1 rfl (fun q1 => ?_) (fun q1 => ?_)
  · refine aw_iconst d_Mo_isPlace_18 ki_0 ?_
    exact aw_zret rfl rfl rfl ⟨Nat.le_refl _, Nat.le_refl _⟩ d_Mo_isPlace_19
  · refine aw_iload_n d_Mo_isPlace_4 1 rfl ?_
    refine aw_aload_n d_Mo_isPlace_5 0 rfl ?_
    refine aw_getR (t := 152) fl_Mo_7 kd_151 rt_151_0 d_Mo_isPlace_6 ?_
    refine aw_iconst d_Mo_isPlace_9 ki_1 ?_
    refine aw_iald kd_152 d_Mo_isPlace_10 ?_
    refine aw_icmp_ge (tgt := 18) d_Mo_isPlace_11 rfl (fun q11 => ?_) (fun q11 => ?_)
    · refine aw_iconst d_Mo_isPlace_18 ki_0 ?_
      exact aw_zret rfl rfl rfl ⟨Nat.le_refl _, Nat.le_refl _⟩ d_Mo_isPlace_19
    · refine aw_iconst d_Mo_isPlace_14 ki_1 ?_
      refine aw_goto (tgt := 19) d_Mo_isPlace_15 rfl ?_
      exact aw_zret rfl rfl rfl ⟨Nat.le_refl _, Nat.le_refl _⟩ d_Mo_isPlace_19
def f_Mo_miles (a1 : Int32) (a2 : Int32) (a3 : Int32) (δ : Dm) : Option (Int32 × Dm) := ((f_Mo_isPlace a1 δ).bind (fun y2 => (if y2 = 0 then (some ((-1 : Int32), δ)) else ((f_Mo_isPlace a2 δ).bind (fun y10 => (if y10 = 0 then (some ((-1 : Int32), δ)) else (if a1 = a2 then (some ((-1 : Int32), δ)) else ((f_Mo_in ((a3).toInt64) (0 : Int64) (999 : Int64) δ).bind (fun y27 => (if y27 = 0 then (some ((-1 : Int32), δ)) else (if inb (((422 : Int32) + ((12 : Int32) * a1)) + a2) 8918 then (bnd (gI δ 152 (ix (((422 : Int32) + ((12 : Int32) * a1)) + a2))) (fun v50 => (if inb (((422 : Int32) + ((12 : Int32) * a1)) + a2) 8918 then bnd (sI δ 152 (ix (((422 : Int32) + ((12 : Int32) * a1)) + a2)) a3) (fun δ_67 => (if inb (((422 : Int32) + ((12 : Int32) * a2)) + a1) 8918 then bnd (sI δ_67 152 (ix (((422 : Int32) + ((12 : Int32) * a2)) + a1)) a3) (fun δ_83 => (some (v50, δ_83))) else none)) else none))) else none)))))))))))
set_option maxHeartbeats 4000000 in
set_option maxRecDepth 100000 in
theorem m_Mo_miles {a1 : Int32} {a2 : Int32} {a3 : Int32} {δ : Dm} {n : Nat} : ∀ x, f_Mo_miles a1 a2 a3 δ = some x → AMet k_Mo_miles 2 0 0 [.ref 151, .int a1, .int a2, .int a3] δ RT n (Km RT n x) := by
  refine aw_start (lo := [(0, .ref 151), (1, .int a1), (2, .int a2), (3, .int a3)]) mok_Mo_miles rfl (Nat.le_of_ble_eq_true rfl) ?_
  unfold f_Mo_miles
  refine aw_aload_n d_Mo_miles_0 0 rfl ?_
  refine aw_iload_n d_Mo_miles_1 1 rfl ?_
  refine aw_V_p (As := [.int a1]) (m_Mo_isPlace) cv_Mo_68 kd_151 rfl rfl rfl (Nat.le_of_ble_eq_true rfl) ⟨Nat.le_of_ble_eq_true rfl, Nat.le_of_ble_eq_true rfl⟩ ⟨Nat.le_refl _, Nat.le_refl _⟩ d_Mo_miles_2 (fun y2 => ?_)
  refine aw_if_eq (tgt := 33) d_Mo_miles_5 rfl (fun q5 => ?_) (fun q5 => ?_)
  · refine aw_iconst d_Mo_miles_33 ki_m1 ?_
    exact aw_iret rfl rfl ⟨Nat.le_refl _, Nat.le_refl _⟩ d_Mo_miles_34
  · refine aw_aload_n d_Mo_miles_8 0 rfl ?_
    refine aw_iload_n d_Mo_miles_9 2 rfl ?_
    refine aw_V_p (As := [.int a2]) (m_Mo_isPlace) cv_Mo_68 kd_151 rfl rfl rfl (Nat.le_of_ble_eq_true rfl) ⟨Nat.le_of_ble_eq_true rfl, Nat.le_of_ble_eq_true rfl⟩ ⟨Nat.le_refl _, Nat.le_refl _⟩ d_Mo_miles_10 (fun y10 => ?_)
    refine aw_if_eq (tgt := 33) d_Mo_miles_13 rfl (fun q13 => ?_) (fun q13 => ?_)
    · refine aw_iconst d_Mo_miles_33 ki_m1 ?_
      exact aw_iret rfl rfl ⟨Nat.le_refl _, Nat.le_refl _⟩ d_Mo_miles_34
    · refine aw_iload_n d_Mo_miles_16 1 rfl ?_
      refine aw_iload_n d_Mo_miles_17 2 rfl ?_
      refine aw_icmp_eq (tgt := 33) d_Mo_miles_18 rfl (fun q18 => ?_) (fun q18 => ?_)
      · refine aw_iconst d_Mo_miles_33 ki_m1 ?_
        exact aw_iret rfl rfl ⟨Nat.le_refl _, Nat.le_refl _⟩ d_Mo_miles_34
      · refine aw_iload_n d_Mo_miles_21 3 rfl ?_
        refine aw_i2l d_Mo_miles_22 ?_
        refine aw_lconst d_Mo_miles_23 kl_0 ?_
        refine aw_ldc2 (v := (999 : Int64)) d_Mo_miles_24 kc_Mo_72 ?_
        refine aw_S_p (As := [.long ((a3).toInt64), .long (0 : Int64), .long (999 : Int64)]) (m_Mo_in) cs_Mo_64 rfl rfl (Nat.le_of_ble_eq_true rfl) ⟨Nat.le_of_ble_eq_true rfl, Nat.le_of_ble_eq_true rfl⟩ ⟨Nat.le_refl _, Nat.le_refl _⟩ d_Mo_miles_27 (fun y27 => ?_)
        refine aw_if_ne (tgt := 35) d_Mo_miles_30 rfl (fun q30 => ?_) (fun q30 => ?_)
        · refine aw_iconst d_Mo_miles_33 ki_m1 ?_
          exact aw_iret rfl rfl ⟨Nat.le_refl _, Nat.le_refl _⟩ d_Mo_miles_34
        · refine aw_aload_n d_Mo_miles_35 0 rfl ?_
          refine aw_getR (t := 152) fl_Mo_7 kd_151 rt_151_0 d_Mo_miles_36 ?_
          refine aw_sipush d_Mo_miles_39 ks_422 ?_
          refine aw_bipush d_Mo_miles_42 kb_12 ?_
          refine aw_iload_n d_Mo_miles_44 1 rfl ?_
          refine aw_imul d_Mo_miles_45 ?_
          refine aw_iadd d_Mo_miles_46 ?_
          refine aw_iload_n d_Mo_miles_47 2 rfl ?_
          refine aw_iadd d_Mo_miles_48 ?_
          refine aw_iald kd_152 d_Mo_miles_49 ?_
          refine aw_bI (fun v50 => ?_)
          refine aw_istore (lo' := [(4, .int v50), (0, .ref 151), (1, .int a1), (2, .int a2), (3, .int a3)]) d_Mo_miles_50 (by decide) rfl ?_
          refine aw_aload_n d_Mo_miles_52 1 rfl ?_
          refine aw_getR (t := 152) fl_Mo_7 kd_151 rt_151_0 d_Mo_miles_53 ?_
          refine aw_sipush d_Mo_miles_56 ks_422 ?_
          refine aw_bipush d_Mo_miles_59 kb_12 ?_
          refine aw_iload_n d_Mo_miles_61 2 rfl ?_
          refine aw_imul d_Mo_miles_62 ?_
          refine aw_iadd d_Mo_miles_63 ?_
          refine aw_iload_n d_Mo_miles_64 3 rfl ?_
          refine aw_iadd d_Mo_miles_65 ?_
          refine aw_iload_n d_Mo_miles_66 4 rfl ?_
          refine aw_iast kd_152 d_Mo_miles_67 ?_
          refine aw_bD (fun δ_67 => ?_)
          refine aw_aload_n d_Mo_miles_68 1 rfl ?_
          refine aw_getR (t := 152) fl_Mo_7 kd_151 rt_151_0 d_Mo_miles_69 ?_
          refine aw_sipush d_Mo_miles_72 ks_422 ?_
          refine aw_bipush d_Mo_miles_75 kb_12 ?_
          refine aw_iload_n d_Mo_miles_77 3 rfl ?_
          refine aw_imul d_Mo_miles_78 ?_
          refine aw_iadd d_Mo_miles_79 ?_
          refine aw_iload_n d_Mo_miles_80 2 rfl ?_
          refine aw_iadd d_Mo_miles_81 ?_
          refine aw_iload_n d_Mo_miles_82 4 rfl ?_
          refine aw_iast kd_152 d_Mo_miles_83 ?_
          refine aw_bD (fun δ_83 => ?_)
          refine aw_iload d_Mo_miles_84 0 rfl ?_
          exact aw_iret rfl rfl ⟨Nat.le_refl _, Nat.le_refl _⟩ d_Mo_miles_86
def f_Mo_isDay (a0 : Int32) (δ : Dm) : Option Int32 := (if a0 < 0 then (some (0 : Int32)) else (if (400 : Int32) ≤ a0 then (some (0 : Int32)) else (some (1 : Int32))))
set_option maxHeartbeats 4000000 in
set_option maxRecDepth 100000 in
theorem m_Mo_isDay {a0 : Int32} {δ : Dm} {n : Nat} : ∀ x, f_Mo_isDay a0 δ = some x → AMet k_Mo_isDay 1 0 0 [.int a0] δ RT n (Kp δ RT n x) := by
  refine aw_start (lo := [(0, .int a0)]) mok_Mo_isDay rfl (Nat.le_of_ble_eq_true rfl) ?_
  unfold f_Mo_isDay
  refine aw_iload_n d_Mo_isDay_0 0 rfl ?_
  refine aw_if_lt (tgt := 15) d_Mo_isDay_1 rfl (fun q1 => ?_) (fun q1 => ?_)
  · refine aw_iconst d_Mo_isDay_15 ki_0 ?_
    exact aw_zret rfl rfl rfl ⟨Nat.le_refl _, Nat.le_refl _⟩ d_Mo_isDay_16
  · refine aw_iload_n d_Mo_isDay_4 0 rfl ?_
    refine aw_sipush d_Mo_isDay_5 ks_400 ?_
    refine aw_icmp_ge (tgt := 15) d_Mo_isDay_8 rfl (fun q8 => ?_) (fun q8 => ?_)
    · refine aw_iconst d_Mo_isDay_15 ki_0 ?_
      exact aw_zret rfl rfl rfl ⟨Nat.le_refl _, Nat.le_refl _⟩ d_Mo_isDay_16
    · refine aw_iconst d_Mo_isDay_11 ki_1 ?_
      refine aw_goto (tgt := 16) d_Mo_isDay_12 rfl ?_
      exact aw_zret rfl rfl rfl ⟨Nat.le_refl _, Nat.le_refl _⟩ d_Mo_isDay_16
def f_Mo_heat (a1 : Int32) (a2 : Int32) (δ : Dm) : Option (Int32 × Dm) := ((f_Mo_isDay a1 δ).bind (fun y1 => (if y1 = 0 then (some ((-1 : Int32), δ)) else ((f_Mo_in ((a2).toInt64) (0 : Int64) (40 : Int64) δ).bind (fun y13 => (if y13 = 0 then (some ((-1 : Int32), δ)) else (if inb ((10 : Int32) + a1) 8918 then (bnd (gI δ 152 (ix ((10 : Int32) + a1))) (fun v30 => (if inb ((10 : Int32) + a1) 8918 then bnd (sI δ 152 (ix ((10 : Int32) + a1)) a2) (fun δ_40 => (some (v30, δ_40))) else none))) else none)))))))
set_option maxHeartbeats 4000000 in
set_option maxRecDepth 100000 in
theorem m_Mo_heat {a1 : Int32} {a2 : Int32} {δ : Dm} {n : Nat} : ∀ x, f_Mo_heat a1 a2 δ = some x → AMet k_Mo_heat 2 0 0 [.ref 151, .int a1, .int a2] δ RT n (Km RT n x) := by
  refine aw_start (lo := [(0, .ref 151), (1, .int a1), (2, .int a2)]) mok_Mo_heat rfl (Nat.le_of_ble_eq_true rfl) ?_
  unfold f_Mo_heat
  refine aw_iload_n d_Mo_heat_0 1 rfl ?_
  refine aw_S_p (As := [.int a1]) (m_Mo_isDay) cs_Mo_74 rfl rfl (Nat.le_of_ble_eq_true rfl) ⟨Nat.le_of_ble_eq_true rfl, Nat.le_of_ble_eq_true rfl⟩ ⟨Nat.le_refl _, Nat.le_refl _⟩ d_Mo_heat_1 (fun y1 => ?_)
  refine aw_if_eq (tgt := 19) d_Mo_heat_4 rfl (fun q4 => ?_) (fun q4 => ?_)
  · refine aw_iconst d_Mo_heat_19 ki_m1 ?_
    exact aw_iret rfl rfl ⟨Nat.le_refl _, Nat.le_refl _⟩ d_Mo_heat_20
  · refine aw_iload_n d_Mo_heat_7 2 rfl ?_
    refine aw_i2l d_Mo_heat_8 ?_
    refine aw_lconst d_Mo_heat_9 kl_0 ?_
    refine aw_ldc2 (v := (40 : Int64)) d_Mo_heat_10 kc_Mo_77 ?_
    refine aw_S_p (As := [.long ((a2).toInt64), .long (0 : Int64), .long (40 : Int64)]) (m_Mo_in) cs_Mo_64 rfl rfl (Nat.le_of_ble_eq_true rfl) ⟨Nat.le_of_ble_eq_true rfl, Nat.le_of_ble_eq_true rfl⟩ ⟨Nat.le_refl _, Nat.le_refl _⟩ d_Mo_heat_13 (fun y13 => ?_)
    refine aw_if_ne (tgt := 21) d_Mo_heat_16 rfl (fun q16 => ?_) (fun q16 => ?_)
    · refine aw_iconst d_Mo_heat_19 ki_m1 ?_
      exact aw_iret rfl rfl ⟨Nat.le_refl _, Nat.le_refl _⟩ d_Mo_heat_20
    · refine aw_aload_n d_Mo_heat_21 0 rfl ?_
      refine aw_getR (t := 152) fl_Mo_7 kd_151 rt_151_0 d_Mo_heat_22 ?_
      refine aw_bipush d_Mo_heat_25 kb_10 ?_
      refine aw_iload_n d_Mo_heat_27 1 rfl ?_
      refine aw_iadd d_Mo_heat_28 ?_
      refine aw_iald kd_152 d_Mo_heat_29 ?_
      refine aw_bI (fun v30 => ?_)
      refine aw_istore_n (lo' := [(3, .int v30), (0, .ref 151), (1, .int a1), (2, .int a2)]) d_Mo_heat_30 rfl (by decide) rfl ?_
      refine aw_aload_n d_Mo_heat_31 1 rfl ?_
      refine aw_getR (t := 152) fl_Mo_7 kd_151 rt_151_0 d_Mo_heat_32 ?_
      refine aw_bipush d_Mo_heat_35 kb_10 ?_
      refine aw_iload_n d_Mo_heat_37 2 rfl ?_
      refine aw_iadd d_Mo_heat_38 ?_
      refine aw_iload_n d_Mo_heat_39 3 rfl ?_
      refine aw_iast kd_152 d_Mo_heat_40 ?_
      refine aw_bD (fun δ_40 => ?_)
      refine aw_iload_n d_Mo_heat_41 0 rfl ?_
      exact aw_iret rfl rfl ⟨Nat.le_refl _, Nat.le_refl _⟩ d_Mo_heat_42
def lp_Mo_four_3 (kx3_36 : Int32 → Dm → Option Dm) (a1 : Int32) : Nat → Int32 → Dm → Option Dm
  | 0, _, _ => none
  | f + 1, v2_3, δ3 => (if v2_3 < 0 then (kx3_36 v2_3 δ3) else (if inb (gI δ3 151 2) 400 then bnd (sI δ3 153 (ix (gI δ3 151 2)) (((((a1 >>> (v2_3 &&& 31))).toInt8.toInt32)).toInt8.toInt32)) (fun δ_19 => (bnd (sI δ_19 151 2 ((gI δ_19 151 2) + (1 : Int32))) (fun δ_27 => (lp_Mo_four_3 kx3_36 a1 f (v2_3 + (-8 : Int32)) δ_27)))) else none))
set_option maxHeartbeats 4000000 in
set_option maxRecDepth 100000 in
theorem tl_Mo_four_3 {n : Nat} (kx3_36 : Int32 → Dm → Option Dm) (a1 : Int32) (hkx3_36 : ∀ v2_3k δ3k, AWo k_Mo_four 1 0 0 36 [(0, .ref 151), (1, .int a1), (2, .int v2_3k)] [] δ3k RT n 0 0 (Kv RT n) (kx3_36 v2_3k δ3k)) : ∀ (f : Nat) (v2_3 : Int32) (δ3 : Dm), AWo k_Mo_four 1 0 0 3 [(0, .ref 151), (1, .int a1), (2, .int v2_3)] [] δ3 RT n 0 0 (Kv RT n) (lp_Mo_four_3 kx3_36 a1 f v2_3 δ3) := by
  intro f
  induction f with
  | zero => intro _ _; exact aw_none
  | succ f ih =>
    intro v2_3 δ3
    rw [lp_Mo_four_3]
    refine aw_iload_n d_Mo_four_3 2 rfl ?_
    refine aw_if_lt (tgt := 36) d_Mo_four_4 rfl (fun q4 => ?_) (fun q4 => ?_)
    · refine aw_sub (lo' := [(0, .ref 151), (1, .int a1), (2, .int v2_3)]) [0, 1, 2] rfl ?_
      exact hkx3_36 _ _
    · refine aw_aload_n d_Mo_four_7 0 rfl ?_
      refine aw_getR (t := 153) fl_Mo_13 kd_151 rt_151_1 d_Mo_four_8 ?_
      refine aw_aload_n d_Mo_four_11 0 rfl ?_
      refine aw_getI fl_Mo_79 kd_151 d_Mo_four_12 ?_
      refine aw_iload_n d_Mo_four_15 1 rfl ?_
      refine aw_iload_n d_Mo_four_16 2 rfl ?_
      refine aw_ishr d_Mo_four_17 ?_
      refine aw_i2b d_Mo_four_18 ?_
      refine aw_bast kd_153 d_Mo_four_19 ?_
      refine aw_bD (fun δ_19 => ?_)
      refine aw_aload_n d_Mo_four_20 0 rfl ?_
      refine aw_dup d_Mo_four_21 rfl ?_
      refine aw_getI fl_Mo_79 kd_151 d_Mo_four_22 ?_
      refine aw_iconst d_Mo_four_25 ki_1 ?_
      refine aw_iadd d_Mo_four_26 ?_
      refine aw_putI pf_Mo_79 kd_151 d_Mo_four_27 ?_
      refine aw_bD (fun δ_27 => ?_)
      refine aw_iinc (v := (v2_3 + (-8 : Int32))) (lo' := [(2, .int (v2_3 + (-8 : Int32))), (0, .ref 151), (1, .int a1)]) d_Mo_four_30 2 rfl (by rw [show Int32.ofInt (-8) = (-8 : Int32) from by decide]) (by decide) rfl ?_
      refine aw_goto (tgt := 3) d_Mo_four_33 rfl ?_
      refine aw_sub (lo' := [(0, .ref 151), (1, .int a1), (2, .int (v2_3 + (-8 : Int32)))]) [1, 2, 0] rfl ?_
      exact ih _ _
def f_Mo_four (a1 : Int32) (δ : Dm) : Option Dm := (lp_Mo_four_3 (fun v2_3x δ3x => (some δ3x)) a1 FU (24 : Int32) δ)
set_option maxHeartbeats 4000000 in
set_option maxRecDepth 100000 in
theorem m_Mo_four {a1 : Int32} {δ : Dm} {n : Nat} : ∀ x, f_Mo_four a1 δ = some x → AMet k_Mo_four 1 0 0 [.ref 151, .int a1] δ RT n (Kv RT n x) := by
  refine aw_start (lo := [(0, .ref 151), (1, .int a1)]) mok_Mo_four rfl (Nat.le_of_ble_eq_true rfl) ?_
  unfold f_Mo_four
  refine aw_bipush d_Mo_four_0 kb_24 ?_
  refine aw_istore_n (lo' := [(2, .int (24 : Int32)), (0, .ref 151), (1, .int a1)]) d_Mo_four_2 rfl (by decide) rfl ?_
  refine aw_sub (lo' := [(0, .ref 151), (1, .int a1), (2, .int (24 : Int32))]) [1, 2, 0] rfl ?_
  refine tl_Mo_four_3 _ _ (fun v2_3x δ3x => ?_) FU _ _
  · exact aw_vret rfl rfl ⟨Nat.le_refl _, Nat.le_refl _⟩ d_Mo_four_36
def f_Mo_feed (a1 : Int32) (a2 : Int32) (a3 : Int32) (a4 : Int32) (a5 : Int32) (δ : Dm) : Option (Int32 × Dm) := (if ((gI δ 151 2) + (20 : Int32)) ≤ (400 : Int32) then ((f_Mo_four a1 δ).bind (fun y17 => ((f_Mo_four a2 y17).bind (fun y22 => ((f_Mo_four a3 y22).bind (fun y27 => ((f_Mo_four a4 y27).bind (fun y33 => ((f_Mo_four a5 y33).bind (fun y39 => (some ((gI y39 151 2), y39)))))))))))) else (some ((-1 : Int32), δ)))
set_option maxHeartbeats 4000000 in
set_option maxRecDepth 100000 in
theorem m_Mo_feed {a1 : Int32} {a2 : Int32} {a3 : Int32} {a4 : Int32} {a5 : Int32} {δ : Dm} {n : Nat} : ∀ x, f_Mo_feed a1 a2 a3 a4 a5 δ = some x → AMet k_Mo_feed 2 0 0 [.ref 151, .int a1, .int a2, .int a3, .int a4, .int a5] δ RT n (Km RT n x) := by
  refine aw_start (lo := [(0, .ref 151), (1, .int a1), (2, .int a2), (3, .int a3), (4, .int a4), (5, .int a5)]) mok_Mo_feed rfl (Nat.le_of_ble_eq_true rfl) ?_
  unfold f_Mo_feed
  refine aw_aload_n d_Mo_feed_0 0 rfl ?_
  refine aw_getI fl_Mo_79 kd_151 d_Mo_feed_1 ?_
  refine aw_bipush d_Mo_feed_4 kb_20 ?_
  refine aw_iadd d_Mo_feed_6 ?_
  refine aw_sipush d_Mo_feed_7 ks_400 ?_
  refine aw_icmp_le (tgt := 15) d_Mo_feed_10 rfl (fun q10 => ?_) (fun q10 => ?_)
  · refine aw_aload_n d_Mo_feed_15 0 rfl ?_
    refine aw_iload_n d_Mo_feed_16 1 rfl ?_
    refine aw_V_v (As := [.int a1]) (m_Mo_four) cv_Mo_83 kd_151 rfl rfl rfl (Nat.le_of_ble_eq_true rfl) ⟨Nat.le_of_ble_eq_true rfl, Nat.le_of_ble_eq_true rfl⟩ ⟨Nat.le_refl _, Nat.le_refl _⟩ d_Mo_feed_17 (fun y17 => ?_)
    refine aw_aload_n d_Mo_feed_20 0 rfl ?_
    refine aw_iload_n d_Mo_feed_21 2 rfl ?_
    refine aw_V_v (As := [.int a2]) (m_Mo_four) cv_Mo_83 kd_151 rfl rfl rfl (Nat.le_of_ble_eq_true rfl) ⟨Nat.le_of_ble_eq_true rfl, Nat.le_of_ble_eq_true rfl⟩ ⟨Nat.le_refl _, Nat.le_refl _⟩ d_Mo_feed_22 (fun y22 => ?_)
    refine aw_aload_n d_Mo_feed_25 0 rfl ?_
    refine aw_iload_n d_Mo_feed_26 3 rfl ?_
    refine aw_V_v (As := [.int a3]) (m_Mo_four) cv_Mo_83 kd_151 rfl rfl rfl (Nat.le_of_ble_eq_true rfl) ⟨Nat.le_of_ble_eq_true rfl, Nat.le_of_ble_eq_true rfl⟩ ⟨Nat.le_refl _, Nat.le_refl _⟩ d_Mo_feed_27 (fun y27 => ?_)
    refine aw_aload_n d_Mo_feed_30 0 rfl ?_
    refine aw_iload d_Mo_feed_31 4 rfl ?_
    refine aw_V_v (As := [.int a4]) (m_Mo_four) cv_Mo_83 kd_151 rfl rfl rfl (Nat.le_of_ble_eq_true rfl) ⟨Nat.le_of_ble_eq_true rfl, Nat.le_of_ble_eq_true rfl⟩ ⟨Nat.le_refl _, Nat.le_refl _⟩ d_Mo_feed_33 (fun y33 => ?_)
    refine aw_aload_n d_Mo_feed_36 0 rfl ?_
    refine aw_iload d_Mo_feed_37 5 rfl ?_
    refine aw_V_v (As := [.int a5]) (m_Mo_four) cv_Mo_83 kd_151 rfl rfl rfl (Nat.le_of_ble_eq_true rfl) ⟨Nat.le_of_ble_eq_true rfl, Nat.le_of_ble_eq_true rfl⟩ ⟨Nat.le_refl _, Nat.le_refl _⟩ d_Mo_feed_39 (fun y39 => ?_)
    refine aw_aload_n d_Mo_feed_42 0 rfl ?_
    refine aw_getI fl_Mo_79 kd_151 d_Mo_feed_43 ?_
    exact aw_iret rfl rfl ⟨Nat.le_refl _, Nat.le_refl _⟩ d_Mo_feed_46
  · refine aw_iconst d_Mo_feed_13 ki_m1 ?_
    exact aw_iret rfl rfl ⟨Nat.le_refl _, Nat.le_refl _⟩ d_Mo_feed_14
def f_Mo_end (a1 : Int32) (δ : Dm) : Option (Int32 × Dm) := (if a1 < 0 then (some ((-1 : Int32), δ)) else (if a1 ≤ (gI δ 151 2) then (bnd (sI δ 151 2 a1) (fun δ_16 => (some (a1, δ_16)))) else (some ((-1 : Int32), δ))))
set_option maxHeartbeats 4000000 in
set_option maxRecDepth 100000 in
theorem m_Mo_end {a1 : Int32} {δ : Dm} {n : Nat} : ∀ x, f_Mo_end a1 δ = some x → AMet k_Mo_end 1 0 0 [.ref 151, .int a1] δ RT n (Km RT n x) := by
  refine aw_start (lo := [(0, .ref 151), (1, .int a1)]) mok_Mo_end rfl (Nat.le_of_ble_eq_true rfl) ?_
  unfold f_Mo_end
  refine aw_iload_n d_Mo_end_0 1 rfl ?_
  refine aw_if_lt (tgt := 12) d_Mo_end_1 rfl (fun q1 => ?_) (fun q1 => ?_)
  · refine aw_iconst d_Mo_end_12 ki_m1 ?_
    exact aw_iret rfl rfl ⟨Nat.le_refl _, Nat.le_refl _⟩ d_Mo_end_13
  · refine aw_iload_n d_Mo_end_4 1 rfl ?_
    refine aw_aload_n d_Mo_end_5 0 rfl ?_
    refine aw_getI fl_Mo_79 kd_151 d_Mo_end_6 ?_
    refine aw_icmp_le (tgt := 14) d_Mo_end_9 rfl (fun q9 => ?_) (fun q9 => ?_)
    · refine aw_aload_n d_Mo_end_14 0 rfl ?_
      refine aw_iload_n d_Mo_end_15 1 rfl ?_
      refine aw_putI pf_Mo_79 kd_151 d_Mo_end_16 ?_
      refine aw_bD (fun δ_16 => ?_)
      refine aw_iload_n d_Mo_end_19 1 rfl ?_
      exact aw_iret rfl rfl ⟨Nat.le_refl _, Nat.le_refl _⟩ d_Mo_end_20
    · refine aw_iconst d_Mo_end_12 ki_m1 ?_
      exact aw_iret rfl rfl ⟨Nat.le_refl _, Nat.le_refl _⟩ d_Mo_end_13
def lp_Mo_see_0 (kx0_38 : Dm → Option (Int32 × Dm)) : Nat → Dm → Option (Int32 × Dm)
  | 0, _ => none
  | f + 1, δ0 => (if (gI δ0 151 2) ≤ (gI δ0 151 9) then (kx0_38 δ0) else (if inb (gI δ0 151 9) 400 then (if (gI δ0 153 (ix (gI δ0 151 9))) = (32 : Int32) then (bnd (sI δ0 151 9 ((gI δ0 151 9) + (1 : Int32))) (fun δ_32 => (lp_Mo_see_0 kx0_38 f δ_32))) else (kx0_38 δ0)) else none))
set_option maxHeartbeats 4000000 in
set_option maxRecDepth 100000 in
theorem tl_Mo_see_0 {n : Nat} (kx0_38 : Dm → Option (Int32 × Dm)) (hkx0_38 : ∀ δ0k, AWo k_Mo_see 1 0 0 38 [(0, .ref 151)] [] δ0k RT n 0 0 (Km RT n) (kx0_38 δ0k)) : ∀ (f : Nat) (δ0 : Dm), AWo k_Mo_see 1 0 0 0 [(0, .ref 151)] [] δ0 RT n 0 0 (Km RT n) (lp_Mo_see_0 kx0_38 f δ0) := by
  intro f
  induction f with
  | zero => intro _; exact aw_none
  | succ f ih =>
    intro δ0
    rw [lp_Mo_see_0]
    refine aw_aload_n d_Mo_see_0 0 rfl ?_
    refine aw_getI fl_Mo_90 kd_151 d_Mo_see_1 ?_
    refine aw_aload_n d_Mo_see_4 0 rfl ?_
    refine aw_getI fl_Mo_79 kd_151 d_Mo_see_5 ?_
    refine aw_icmp_ge (tgt := 38) d_Mo_see_8 rfl (fun q8 => ?_) (fun q8 => ?_)
    · refine aw_sub (lo' := [(0, .ref 151)]) [0] rfl ?_
      exact hkx0_38 _
    · refine aw_aload_n d_Mo_see_11 0 rfl ?_
      refine aw_getR (t := 153) fl_Mo_13 kd_151 rt_151_1 d_Mo_see_12 ?_
      refine aw_aload_n d_Mo_see_15 0 rfl ?_
      refine aw_getI fl_Mo_90 kd_151 d_Mo_see_16 ?_
      refine aw_bald kd_153 d_Mo_see_19 ?_
      refine aw_bipush d_Mo_see_20 kb_32 ?_
      refine aw_icmp_ne (tgt := 38) d_Mo_see_22 rfl (fun q22 => ?_) (fun q22 => ?_)
      · refine aw_aload_n d_Mo_see_25 0 rfl ?_
        refine aw_dup d_Mo_see_26 rfl ?_
        refine aw_getI fl_Mo_90 kd_151 d_Mo_see_27 ?_
        refine aw_iconst d_Mo_see_30 ki_1 ?_
        refine aw_iadd d_Mo_see_31 ?_
        refine aw_putI pf_Mo_90 kd_151 d_Mo_see_32 ?_
        refine aw_bD (fun δ_32 => ?_)
        refine aw_goto (tgt := 0) d_Mo_see_35 rfl ?_
        refine aw_sub (lo' := [(0, .ref 151)]) [0] rfl ?_
        exact ih _
      · refine aw_sub (lo' := [(0, .ref 151)]) [0] rfl ?_
        exact hkx0_38 _
def f_Mo_see (δ : Dm) : Option (Int32 × Dm) := (lp_Mo_see_0 (fun δ0x => (if (gI δ0x 151 2) ≤ (gI δ0x 151 9) then (some ((-1 : Int32), δ0x)) else (if inb (gI δ0x 151 9) 400 then (some (((gI δ0x 153 (ix (gI δ0x 151 9))) &&& (255 : Int32)), δ0x)) else none))) FU δ)
set_option maxHeartbeats 4000000 in
set_option maxRecDepth 100000 in
theorem m_Mo_see {δ : Dm} {n : Nat} : ∀ x, f_Mo_see δ = some x → AMet k_Mo_see 1 0 0 [.ref 151] δ RT n (Km RT n x) := by
  refine aw_start (lo := [(0, .ref 151)]) mok_Mo_see rfl (Nat.le_of_ble_eq_true rfl) ?_
  unfold f_Mo_see
  refine aw_sub (lo' := [(0, .ref 151)]) [0] rfl ?_
  refine tl_Mo_see_0 _ (fun δ0x => ?_) FU _
  · refine aw_aload_n d_Mo_see_38 0 rfl ?_
    refine aw_getI fl_Mo_90 kd_151 d_Mo_see_39 ?_
    refine aw_aload_n d_Mo_see_42 0 rfl ?_
    refine aw_getI fl_Mo_79 kd_151 d_Mo_see_43 ?_
    refine aw_icmp_ge (tgt := 65) d_Mo_see_46 rfl (fun q46 => ?_) (fun q46 => ?_)
    · refine aw_iconst d_Mo_see_65 ki_m1 ?_
      exact aw_iret rfl rfl ⟨Nat.le_refl _, Nat.le_refl _⟩ d_Mo_see_66
    · refine aw_aload_n d_Mo_see_49 0 rfl ?_
      refine aw_getR (t := 153) fl_Mo_13 kd_151 rt_151_1 d_Mo_see_50 ?_
      refine aw_aload_n d_Mo_see_53 0 rfl ?_
      refine aw_getI fl_Mo_90 kd_151 d_Mo_see_54 ?_
      refine aw_bald kd_153 d_Mo_see_57 ?_
      refine aw_sipush d_Mo_see_58 ks_255 ?_
      refine aw_iand d_Mo_see_61 ?_
      refine aw_goto (tgt := 66) d_Mo_see_62 rfl ?_
      exact aw_iret rfl rfl ⟨Nat.le_refl _, Nat.le_refl _⟩ d_Mo_see_66
def f_Mo_isLetter (a1 : Int32) (δ : Dm) : Option Int32 := (if (gI δ 151 2) ≤ a1 then (some (0 : Int32)) else (if inb a1 400 then (if (gI δ 153 (ix a1)) < (97 : Int32) then (some (0 : Int32)) else (if inb a1 400 then (if (122 : Int32) < (gI δ 153 (ix a1)) then (some (0 : Int32)) else (some (1 : Int32))) else none)) else none))
set_option maxHeartbeats 4000000 in
set_option maxRecDepth 100000 in
theorem m_Mo_isLetter {a1 : Int32} {δ : Dm} {n : Nat} : ∀ x, f_Mo_isLetter a1 δ = some x → AMet k_Mo_isLetter 1 0 0 [.ref 151, .int a1] δ RT n (Kp δ RT n x) := by
  refine aw_start (lo := [(0, .ref 151), (1, .int a1)]) mok_Mo_isLetter rfl (Nat.le_of_ble_eq_true rfl) ?_
  unfold f_Mo_isLetter
  refine aw_iload_n d_Mo_isLetter_0 1 rfl ?_
  refine aw_aload_n d_Mo_isLetter_1 0 rfl ?_
  refine aw_getI fl_Mo_79 kd_151 d_Mo_isLetter_2 ?_
  refine aw_icmp_ge (tgt := 34) d_Mo_isLetter_5 rfl (fun q5 => ?_) (fun q5 => ?_)
  · refine aw_iconst d_Mo_isLetter_34 ki_0 ?_
    exact aw_zret rfl rfl rfl ⟨Nat.le_refl _, Nat.le_refl _⟩ d_Mo_isLetter_35
  · refine aw_aload_n d_Mo_isLetter_8 0 rfl ?_
    refine aw_getR (t := 153) fl_Mo_13 kd_151 rt_151_1 d_Mo_isLetter_9 ?_
    refine aw_iload_n d_Mo_isLetter_12 1 rfl ?_
    refine aw_bald kd_153 d_Mo_isLetter_13 ?_
    refine aw_bipush d_Mo_isLetter_14 kb_97 ?_
    refine aw_icmp_lt (tgt := 34) d_Mo_isLetter_16 rfl (fun q16 => ?_) (fun q16 => ?_)
    · refine aw_iconst d_Mo_isLetter_34 ki_0 ?_
      exact aw_zret rfl rfl rfl ⟨Nat.le_refl _, Nat.le_refl _⟩ d_Mo_isLetter_35
    · refine aw_aload_n d_Mo_isLetter_19 0 rfl ?_
      refine aw_getR (t := 153) fl_Mo_13 kd_151 rt_151_1 d_Mo_isLetter_20 ?_
      refine aw_iload_n d_Mo_isLetter_23 1 rfl ?_
      refine aw_bald kd_153 d_Mo_isLetter_24 ?_
      refine aw_bipush d_Mo_isLetter_25 kb_122 ?_
      refine aw_icmp_gt (tgt := 34) d_Mo_isLetter_27 rfl (fun q27 => ?_) (fun q27 => ?_)
      · refine aw_iconst d_Mo_isLetter_34 ki_0 ?_
        exact aw_zret rfl rfl rfl ⟨Nat.le_refl _, Nat.le_refl _⟩ d_Mo_isLetter_35
      · refine aw_iconst d_Mo_isLetter_30 ki_1 ?_
        refine aw_goto (tgt := 35) d_Mo_isLetter_31 rfl ?_
        exact aw_zret rfl rfl rfl ⟨Nat.le_refl _, Nat.le_refl _⟩ d_Mo_isLetter_35
def lp_Mo_isWord_10 (kx10_56 : Int64 → Int32 → Option (Int32 × Dm)) (a1 : Int64) (δ_1 : Dm) : Nat → Int64 → Int32 → Option (Int32 × Dm)
  | 0, _, _ => none
  | f + 1, v3_10, v5_10 => ((f_Mo_isLetter ((gI δ_1 151 9) + v5_10) δ_1).bind (fun y18 => (if y18 = 0 then (kx10_56 v3_10 v5_10) else (if (8 : Int32) ≤ v5_10 then (lp_Mo_isWord_10 kx10_56 a1 δ_1 f v3_10 (v5_10 + (1 : Int32))) else (if inb ((gI δ_1 151 9) + v5_10) 400 then (bnd ((v3_10 <<< (((8 : Int32)).toInt64 &&& 63)) ||| (((gI δ_1 153 (ix ((gI δ_1 151 9) + v5_10)))).toInt64)) (fun v49 => (lp_Mo_isWord_10 kx10_56 a1 δ_1 f v49 (v5_10 + (1 : Int32))))) else none)))))
set_option maxHeartbeats 4000000 in
set_option maxRecDepth 100000 in
theorem tl_Mo_isWord_10 {n : Nat} (kx10_56 : Int64 → Int32 → Option (Int32 × Dm)) (a1 : Int64) (δ_1 : Dm) (hkx10_56 : ∀ v3_10k v5_10k, AWo k_Mo_isWord 2 0 0 56 [(0, .ref 151), (1, .long a1), (3, .long v3_10k), (5, .int v5_10k)] [] δ_1 RT n 0 0 (Km RT n) (kx10_56 v3_10k v5_10k)) : ∀ (f : Nat) (v3_10 : Int64) (v5_10 : Int32), AWo k_Mo_isWord 2 0 0 10 [(0, .ref 151), (1, .long a1), (3, .long v3_10), (5, .int v5_10)] [] δ_1 RT n 0 0 (Km RT n) (lp_Mo_isWord_10 kx10_56 a1 δ_1 f v3_10 v5_10) := by
  intro f
  induction f with
  | zero => intro _ _; exact aw_none
  | succ f ih =>
    intro v3_10 v5_10
    rw [lp_Mo_isWord_10]
    refine aw_aload_n d_Mo_isWord_10 0 rfl ?_
    refine aw_aload_n d_Mo_isWord_11 0 rfl ?_
    refine aw_getI fl_Mo_90 kd_151 d_Mo_isWord_12 ?_
    refine aw_iload d_Mo_isWord_15 3 rfl ?_
    refine aw_iadd d_Mo_isWord_17 ?_
    refine aw_V_p (As := [.int ((gI δ_1 151 9) + v5_10)]) (m_Mo_isLetter) cv_Mo_97 kd_151 rfl rfl rfl (Nat.le_of_ble_eq_true rfl) ⟨Nat.le_of_ble_eq_true rfl, Nat.le_of_ble_eq_true rfl⟩ ⟨Nat.le_refl _, Nat.le_refl _⟩ d_Mo_isWord_18 (fun y18 => ?_)
    refine aw_if_eq (tgt := 56) d_Mo_isWord_21 rfl (fun q21 => ?_) (fun q21 => ?_)
    · refine aw_sub (lo' := [(0, .ref 151), (1, .long a1), (3, .long v3_10), (5, .int v5_10)]) [0, 1, 2, 3] rfl ?_
      exact hkx10_56 _ _
    · refine aw_iload d_Mo_isWord_24 3 rfl ?_
      refine aw_bipush d_Mo_isWord_26 kb_8 ?_
      refine aw_icmp_ge (tgt := 50) d_Mo_isWord_28 rfl (fun q28 => ?_) (fun q28 => ?_)
      · refine aw_iinc (v := (v5_10 + (1 : Int32))) (lo' := [(5, .int (v5_10 + (1 : Int32))), (0, .ref 151), (1, .long a1), (3, .long v3_10)]) d_Mo_isWord_50 3 rfl (by rw [show Int32.ofInt (1) = (1 : Int32) from by decide]) (by decide) rfl ?_
        refine aw_goto (tgt := 10) d_Mo_isWord_53 rfl ?_
        refine aw_sub (lo' := [(0, .ref 151), (1, .long a1), (3, .long v3_10), (5, .int (v5_10 + (1 : Int32)))]) [1, 2, 3, 0] rfl ?_
        exact ih _ _
      · refine aw_lload_n d_Mo_isWord_31 2 rfl ?_
        refine aw_bipush d_Mo_isWord_32 kb_8 ?_
        refine aw_lshl d_Mo_isWord_34 ?_
        refine aw_aload_n d_Mo_isWord_35 0 rfl ?_
        refine aw_getR (t := 153) fl_Mo_13 kd_151 rt_151_1 d_Mo_isWord_36 ?_
        refine aw_aload_n d_Mo_isWord_39 0 rfl ?_
        refine aw_getI fl_Mo_90 kd_151 d_Mo_isWord_40 ?_
        refine aw_iload d_Mo_isWord_43 3 rfl ?_
        refine aw_iadd d_Mo_isWord_45 ?_
        refine aw_bald kd_153 d_Mo_isWord_46 ?_
        refine aw_i2l d_Mo_isWord_47 ?_
        refine aw_lor d_Mo_isWord_48 ?_
        refine aw_bL (fun v49 => ?_)
        refine aw_lstore_n (lo' := [(3, .long v49), (0, .ref 151), (1, .long a1), (5, .int v5_10)]) d_Mo_isWord_49 rfl (by decide) rfl ?_
        refine aw_iinc (v := (v5_10 + (1 : Int32))) (lo' := [(5, .int (v5_10 + (1 : Int32))), (3, .long v49), (0, .ref 151), (1, .long a1)]) d_Mo_isWord_50 3 rfl (by rw [show Int32.ofInt (1) = (1 : Int32) from by decide]) (by decide) rfl ?_
        refine aw_goto (tgt := 10) d_Mo_isWord_53 rfl ?_
        refine aw_sub (lo' := [(0, .ref 151), (1, .long a1), (3, .long v49), (5, .int (v5_10 + (1 : Int32)))]) [2, 3, 1, 0] rfl ?_
        exact ih _ _
def f_Mo_isWord (a1 : Int64) (δ : Dm) : Option (Int32 × Dm) := ((f_Mo_see δ).bind (fun y1 => bnd y1.1 (fun v1 => bnd y1.2 (fun δ_1 => (lp_Mo_isWord_10 (fun v3_10x v5_10x => (if v5_10x ≤ 0 then (some ((0 : Int32), δ_1)) else (if (9 : Int32) ≤ v5_10x then (some ((0 : Int32), δ_1)) else (if (lg_cmp v3_10x a1) = 0 then (some ((1 : Int32), δ_1)) else (some ((0 : Int32), δ_1)))))) a1 δ_1 FU (0 : Int64) (0 : Int32))))))
set_option maxHeartbeats 4000000 in
set_option maxRecDepth 100000 in
theorem m_Mo_isWord {a1 : Int64} {δ : Dm} {n : Nat} : ∀ x, f_Mo_isWord a1 δ = some x → AMet k_Mo_isWord 2 0 0 [.ref 151, .long a1] δ RT n (Km RT n x) := by
  refine aw_start (lo := [(0, .ref 151), (1, .long a1)]) mok_Mo_isWord rfl (Nat.le_of_ble_eq_true rfl) ?_
  unfold f_Mo_isWord
  refine aw_aload_n d_Mo_isWord_0 0 rfl ?_
  refine aw_V_m (As := []) (m_Mo_see) cv_Mo_93 kd_151 rfl rfl rfl (Nat.le_of_ble_eq_true rfl) ⟨Nat.le_of_ble_eq_true rfl, Nat.le_of_ble_eq_true rfl⟩ ⟨Nat.le_refl _, Nat.le_refl _⟩ d_Mo_isWord_1 (fun y1 => ?_)
  refine aw_bI (fun v1 => ?_)
  refine aw_bD (fun δ_1 => ?_)
  refine aw_pop d_Mo_isWord_4 rfl ?_
  refine aw_lconst d_Mo_isWord_5 kl_0 ?_
  refine aw_lstore_n (lo' := [(3, .long (0 : Int64)), (0, .ref 151), (1, .long a1)]) d_Mo_isWord_6 rfl (by decide) rfl ?_
  refine aw_iconst d_Mo_isWord_7 ki_0 ?_
  refine aw_istore (lo' := [(5, .int (0 : Int32)), (3, .long (0 : Int64)), (0, .ref 151), (1, .long a1)]) d_Mo_isWord_8 (by decide) rfl ?_
  refine aw_sub (lo' := [(0, .ref 151), (1, .long a1), (3, .long (0 : Int64)), (5, .int (0 : Int32))]) [2, 3, 1, 0] rfl ?_
  refine tl_Mo_isWord_10 _ _ _ (fun v3_10x v5_10x => ?_) FU _ _
  · refine aw_iload d_Mo_isWord_56 3 rfl ?_
    refine aw_if_le (tgt := 78) d_Mo_isWord_58 rfl (fun q58 => ?_) (fun q58 => ?_)
    · refine aw_iconst d_Mo_isWord_78 ki_0 ?_
      exact aw_zret rfl rfl rfl ⟨Nat.le_refl _, Nat.le_refl _⟩ d_Mo_isWord_79
    · refine aw_iload d_Mo_isWord_61 3 rfl ?_
      refine aw_bipush d_Mo_isWord_63 kb_9 ?_
      refine aw_icmp_ge (tgt := 78) d_Mo_isWord_65 rfl (fun q65 => ?_) (fun q65 => ?_)
      · refine aw_iconst d_Mo_isWord_78 ki_0 ?_
        exact aw_zret rfl rfl rfl ⟨Nat.le_refl _, Nat.le_refl _⟩ d_Mo_isWord_79
      · refine aw_lload_n d_Mo_isWord_68 2 rfl ?_
        refine aw_lload_n d_Mo_isWord_69 1 rfl ?_
        refine aw_lcmp d_Mo_isWord_70 ?_
        refine aw_if_ne (tgt := 78) d_Mo_isWord_71 rfl (fun q71 => ?_) (fun q71 => ?_)
        · refine aw_iconst d_Mo_isWord_74 ki_1 ?_
          refine aw_goto (tgt := 79) d_Mo_isWord_75 rfl ?_
          exact aw_zret rfl rfl rfl ⟨Nat.le_refl _, Nat.le_refl _⟩ d_Mo_isWord_79
        · refine aw_iconst d_Mo_isWord_78 ki_0 ?_
          exact aw_zret rfl rfl rfl ⟨Nat.le_refl _, Nat.le_refl _⟩ d_Mo_isWord_79
def f_Mo_fails (a1 : Int32) (a2 : Int32) (δ : Dm) : Option (Int32 × Dm) := (if (gI δ 151 10) = 0 then (bnd (sI δ 151 10 (((1 : Int32) + ((8 : Int32) * a2)) + a1)) (fun δ_16 => (some ((0 : Int32), δ_16)))) else (some ((0 : Int32), δ)))
set_option maxHeartbeats 4000000 in
set_option maxRecDepth 100000 in
theorem m_Mo_fails {a1 : Int32} {a2 : Int32} {δ : Dm} {n : Nat} : ∀ x, f_Mo_fails a1 a2 δ = some x → AMet k_Mo_fails 1 0 0 [.ref 151, .int a1, .int a2] δ RT n (Km RT n x) := by
  refine aw_start (lo := [(0, .ref 151), (1, .int a1), (2, .int a2)]) mok_Mo_fails rfl (Nat.le_of_ble_eq_true rfl) ?_
  unfold f_Mo_fails
  refine aw_aload_n d_Mo_fails_0 0 rfl ?_
  refine aw_getI fl_Mo_87 kd_151 d_Mo_fails_1 ?_
  refine aw_if_ne (tgt := 19) d_Mo_fails_4 rfl (fun q4 => ?_) (fun q4 => ?_)
  · refine aw_aload_n d_Mo_fails_7 0 rfl ?_
    refine aw_iconst d_Mo_fails_8 ki_1 ?_
    refine aw_bipush d_Mo_fails_9 kb_8 ?_
    refine aw_iload_n d_Mo_fails_11 2 rfl ?_
    refine aw_imul d_Mo_fails_12 ?_
    refine aw_iadd d_Mo_fails_13 ?_
    refine aw_iload_n d_Mo_fails_14 1 rfl ?_
    refine aw_iadd d_Mo_fails_15 ?_
    refine aw_putI pf_Mo_87 kd_151 d_Mo_fails_16 ?_
    refine aw_bD (fun δ_16 => ?_)
    refine aw_iconst d_Mo_fails_19 ki_0 ?_
    exact aw_zret rfl rfl rfl ⟨Nat.le_refl _, Nat.le_refl _⟩ d_Mo_fails_20
  · refine aw_iconst d_Mo_fails_19 ki_0 ?_
    exact aw_zret rfl rfl rfl ⟨Nat.le_refl _, Nat.le_refl _⟩ d_Mo_fails_20
def lp_Mo_passWord_0 (kx0_24 : Dm → Option Dm) : Nat → Dm → Option Dm
  | 0, _ => none
  | f + 1, δ0 => ((f_Mo_isLetter (gI δ0 151 9) δ0).bind (fun y5 => (if y5 = 0 then (kx0_24 δ0) else (bnd (sI δ0 151 9 ((gI δ0 151 9) + (1 : Int32))) (fun δ_18 => (lp_Mo_passWord_0 kx0_24 f δ_18))))))
set_option maxHeartbeats 4000000 in
set_option maxRecDepth 100000 in
theorem tl_Mo_passWord_0 {n : Nat} (kx0_24 : Dm → Option Dm) (hkx0_24 : ∀ δ0k, AWo k_Mo_passWord 2 0 0 24 [(0, .ref 151)] [] δ0k RT n 0 0 (Kv RT n) (kx0_24 δ0k)) : ∀ (f : Nat) (δ0 : Dm), AWo k_Mo_passWord 2 0 0 0 [(0, .ref 151)] [] δ0 RT n 0 0 (Kv RT n) (lp_Mo_passWord_0 kx0_24 f δ0) := by
  intro f
  induction f with
  | zero => intro _; exact aw_none
  | succ f ih =>
    intro δ0
    rw [lp_Mo_passWord_0]
    refine aw_aload_n d_Mo_passWord_0 0 rfl ?_
    refine aw_aload_n d_Mo_passWord_1 0 rfl ?_
    refine aw_getI fl_Mo_90 kd_151 d_Mo_passWord_2 ?_
    refine aw_V_p (As := [.int (gI δ0 151 9)]) (m_Mo_isLetter) cv_Mo_97 kd_151 rfl rfl rfl (Nat.le_of_ble_eq_true rfl) ⟨Nat.le_of_ble_eq_true rfl, Nat.le_of_ble_eq_true rfl⟩ ⟨Nat.le_refl _, Nat.le_refl _⟩ d_Mo_passWord_5 (fun y5 => ?_)
    refine aw_if_eq (tgt := 24) d_Mo_passWord_8 rfl (fun q8 => ?_) (fun q8 => ?_)
    · refine aw_sub (lo' := [(0, .ref 151)]) [0] rfl ?_
      exact hkx0_24 _
    · refine aw_aload_n d_Mo_passWord_11 0 rfl ?_
      refine aw_dup d_Mo_passWord_12 rfl ?_
      refine aw_getI fl_Mo_90 kd_151 d_Mo_passWord_13 ?_
      refine aw_iconst d_Mo_passWord_16 ki_1 ?_
      refine aw_iadd d_Mo_passWord_17 ?_
      refine aw_putI pf_Mo_90 kd_151 d_Mo_passWord_18 ?_
      refine aw_bD (fun δ_18 => ?_)
      refine aw_goto (tgt := 0) d_Mo_passWord_21 rfl ?_
      refine aw_sub (lo' := [(0, .ref 151)]) [0] rfl ?_
      exact ih _
def f_Mo_passWord (δ : Dm) : Option Dm := (lp_Mo_passWord_0 (fun δ0x => (some δ0x)) FU δ)
set_option maxHeartbeats 4000000 in
set_option maxRecDepth 100000 in
theorem m_Mo_passWord {δ : Dm} {n : Nat} : ∀ x, f_Mo_passWord δ = some x → AMet k_Mo_passWord 2 0 0 [.ref 151] δ RT n (Kv RT n x) := by
  refine aw_start (lo := [(0, .ref 151)]) mok_Mo_passWord rfl (Nat.le_of_ble_eq_true rfl) ?_
  unfold f_Mo_passWord
  refine aw_sub (lo' := [(0, .ref 151)]) [0] rfl ?_
  refine tl_Mo_passWord_0 _ (fun δ0x => ?_) FU _
  · exact aw_vret rfl rfl ⟨Nat.le_refl _, Nat.le_refl _⟩ d_Mo_passWord_24
def f_Mo_isDigit (a1 : Int32) (δ : Dm) : Option Int32 := (if (gI δ 151 2) ≤ a1 then (some (0 : Int32)) else (if inb a1 400 then (if (gI δ 153 (ix a1)) < (48 : Int32) then (some (0 : Int32)) else (if inb a1 400 then (if (57 : Int32) < (gI δ 153 (ix a1)) then (some (0 : Int32)) else (some (1 : Int32))) else none)) else none))
set_option maxHeartbeats 4000000 in
set_option maxRecDepth 100000 in
theorem m_Mo_isDigit {a1 : Int32} {δ : Dm} {n : Nat} : ∀ x, f_Mo_isDigit a1 δ = some x → AMet k_Mo_isDigit 1 0 0 [.ref 151, .int a1] δ RT n (Kp δ RT n x) := by
  refine aw_start (lo := [(0, .ref 151), (1, .int a1)]) mok_Mo_isDigit rfl (Nat.le_of_ble_eq_true rfl) ?_
  unfold f_Mo_isDigit
  refine aw_iload_n d_Mo_isDigit_0 1 rfl ?_
  refine aw_aload_n d_Mo_isDigit_1 0 rfl ?_
  refine aw_getI fl_Mo_79 kd_151 d_Mo_isDigit_2 ?_
  refine aw_icmp_ge (tgt := 34) d_Mo_isDigit_5 rfl (fun q5 => ?_) (fun q5 => ?_)
  · refine aw_iconst d_Mo_isDigit_34 ki_0 ?_
    exact aw_zret rfl rfl rfl ⟨Nat.le_refl _, Nat.le_refl _⟩ d_Mo_isDigit_35
  · refine aw_aload_n d_Mo_isDigit_8 0 rfl ?_
    refine aw_getR (t := 153) fl_Mo_13 kd_151 rt_151_1 d_Mo_isDigit_9 ?_
    refine aw_iload_n d_Mo_isDigit_12 1 rfl ?_
    refine aw_bald kd_153 d_Mo_isDigit_13 ?_
    refine aw_bipush d_Mo_isDigit_14 kb_48 ?_
    refine aw_icmp_lt (tgt := 34) d_Mo_isDigit_16 rfl (fun q16 => ?_) (fun q16 => ?_)
    · refine aw_iconst d_Mo_isDigit_34 ki_0 ?_
      exact aw_zret rfl rfl rfl ⟨Nat.le_refl _, Nat.le_refl _⟩ d_Mo_isDigit_35
    · refine aw_aload_n d_Mo_isDigit_19 0 rfl ?_
      refine aw_getR (t := 153) fl_Mo_13 kd_151 rt_151_1 d_Mo_isDigit_20 ?_
      refine aw_iload_n d_Mo_isDigit_23 1 rfl ?_
      refine aw_bald kd_153 d_Mo_isDigit_24 ?_
      refine aw_bipush d_Mo_isDigit_25 kb_57 ?_
      refine aw_icmp_gt (tgt := 34) d_Mo_isDigit_27 rfl (fun q27 => ?_) (fun q27 => ?_)
      · refine aw_iconst d_Mo_isDigit_34 ki_0 ?_
        exact aw_zret rfl rfl rfl ⟨Nat.le_refl _, Nat.le_refl _⟩ d_Mo_isDigit_35
      · refine aw_iconst d_Mo_isDigit_30 ki_1 ?_
        refine aw_goto (tgt := 35) d_Mo_isDigit_31 rfl ?_
        exact aw_zret rfl rfl rfl ⟨Nat.le_refl _, Nat.le_refl _⟩ d_Mo_isDigit_35
def jp_Mo_number_114 (a1 : Int32) (v30 : Int32) (v3_33x : Int32) (δ114 : Dm) : Option (Int32 × Dm) := (some ((1 : Int32), δ114))
set_option maxHeartbeats 4000000 in
set_option maxRecDepth 100000 in
theorem tj_Mo_number_114 {n : Nat} (a1 : Int32) (v30 : Int32) (v3_33x : Int32) (δ114 : Dm) : AWo k_Mo_number 2 0 0 114 [(0, .ref 151), (1, .int a1), (2, .int v30), (3, .int v3_33x)] [] δ114 RT n 0 0 (Km RT n) (jp_Mo_number_114 a1 v30 v3_33x δ114) := by
  unfold jp_Mo_number_114
  refine aw_iconst d_Mo_number_114 ki_1 ?_
  refine aw_goto (tgt := 119) d_Mo_number_115 rfl ?_
  exact aw_zret rfl rfl rfl ⟨Nat.le_refl _, Nat.le_refl _⟩ d_Mo_number_119
def jp_Mo_number_105 (a1 : Int32) (v30 : Int32) (v3_33x : Int32) (δ_87 : Dm) : Option (Int32 × Dm) := ((f_Mo_fails (1 : Int32) v30 δ_87).bind (fun y108 => bnd y108.1 (fun v108 => bnd y108.2 (fun δ_108 => (if v108 = 0 then (some ((0 : Int32), δ_108)) else (jp_Mo_number_114 a1 v30 v3_33x δ_108))))))
set_option maxHeartbeats 4000000 in
set_option maxRecDepth 100000 in
theorem tj_Mo_number_105 {n : Nat} (a1 : Int32) (v30 : Int32) (v3_33x : Int32) (δ_87 : Dm) : AWo k_Mo_number 2 0 0 105 [(0, .ref 151), (1, .int a1), (2, .int v30), (3, .int v3_33x)] [] δ_87 RT n 0 0 (Km RT n) (jp_Mo_number_105 a1 v30 v3_33x δ_87) := by
  unfold jp_Mo_number_105
  refine aw_aload_n d_Mo_number_105 0 rfl ?_
  refine aw_iconst d_Mo_number_106 ki_1 ?_
  refine aw_iload_n d_Mo_number_107 2 rfl ?_
  refine aw_V_m (As := [.int (1 : Int32), .int v30]) (m_Mo_fails) cv_Mo_110 kd_151 rfl rfl rfl (Nat.le_of_ble_eq_true rfl) ⟨Nat.le_of_ble_eq_true rfl, Nat.le_of_ble_eq_true rfl⟩ ⟨Nat.le_refl _, Nat.le_refl _⟩ d_Mo_number_108 (fun y108 => ?_)
  refine aw_bI (fun v108 => ?_)
  refine aw_bD (fun δ_108 => ?_)
  refine aw_if_eq (tgt := 118) d_Mo_number_111 rfl (fun q111 => ?_) (fun q111 => ?_)
  · refine aw_iconst d_Mo_number_118 ki_0 ?_
    exact aw_zret rfl rfl rfl ⟨Nat.le_refl _, Nat.le_refl _⟩ d_Mo_number_119
  · refine aw_sub (lo' := [(0, .ref 151), (1, .int a1), (2, .int v30), (3, .int v3_33x)]) [0, 1, 2, 3] rfl ?_
    exact tj_Mo_number_114 _ _ _ _
def jp_Mo_number_72 (kr33 : Int32 → Dm → Option (Int32 × Dm)) (kx33_85 : Int32 → Dm → Option (Int32 × Dm)) (a1 : Int32) (v30 : Int32) (δ33 : Dm) (v3_72 : Int32) : Option (Int32 × Dm) := (bnd (sI δ33 151 9 ((gI δ33 151 9) + (1 : Int32))) (fun δ_79 => (kr33 v3_72 δ_79)))
set_option maxHeartbeats 4000000 in
set_option maxRecDepth 100000 in
theorem tj_Mo_number_72 {n : Nat} (kr33 : Int32 → Dm → Option (Int32 × Dm)) (kx33_85 : Int32 → Dm → Option (Int32 × Dm)) (a1 : Int32) (v30 : Int32) (δ33 : Dm) (v3_72 : Int32) (hkr33 : ∀ v3_33k δ33k, AWo k_Mo_number 2 0 0 33 [(0, .ref 151), (1, .int a1), (2, .int v30), (3, .int v3_33k)] [] δ33k RT n 0 0 (Km RT n) (kr33 v3_33k δ33k)) (hkx33_85 : ∀ v3_33k δ33k, AWo k_Mo_number 2 0 0 85 [(0, .ref 151), (1, .int a1), (2, .int v30), (3, .int v3_33k)] [] δ33k RT n 0 0 (Km RT n) (kx33_85 v3_33k δ33k)) : AWo k_Mo_number 2 0 0 72 [(0, .ref 151), (1, .int a1), (2, .int v30), (3, .int v3_72)] [] δ33 RT n 0 0 (Km RT n) (jp_Mo_number_72 kr33 kx33_85 a1 v30 δ33 v3_72) := by
  unfold jp_Mo_number_72
  refine aw_aload_n d_Mo_number_72 0 rfl ?_
  refine aw_dup d_Mo_number_73 rfl ?_
  refine aw_getI fl_Mo_90 kd_151 d_Mo_number_74 ?_
  refine aw_iconst d_Mo_number_77 ki_1 ?_
  refine aw_iadd d_Mo_number_78 ?_
  refine aw_putI pf_Mo_90 kd_151 d_Mo_number_79 ?_
  refine aw_bD (fun δ_79 => ?_)
  refine aw_goto (tgt := 33) d_Mo_number_82 rfl ?_
  refine aw_sub (lo' := [(0, .ref 151), (1, .int a1), (2, .int v30), (3, .int v3_72)]) [0, 1, 2, 3] rfl ?_
  exact hkr33 _ _
def lp_Mo_number_33 (kx33_85 : Int32 → Dm → Option (Int32 × Dm)) (a1 : Int32) (v30 : Int32) : Nat → Int32 → Dm → Option (Int32 × Dm)
  | 0, _, _ => none
  | f + 1, v3_33, δ33 => ((f_Mo_isDigit (gI δ33 151 9) δ33).bind (fun y38 => (if y38 = 0 then (kx33_85 v3_33 δ33) else (if (5 : Int32) ≤ ((gI δ33 151 9) - v30) then (jp_Mo_number_72 (lp_Mo_number_33 kx33_85 a1 v30 f) kx33_85 a1 v30 δ33 v3_33) else (if inb (gI δ33 151 9) 400 then (bnd ((((10 : Int32) * v3_33) + (gI δ33 153 (ix (gI δ33 151 9)))) - (48 : Int32)) (fun v71 => (jp_Mo_number_72 (lp_Mo_number_33 kx33_85 a1 v30 f) kx33_85 a1 v30 δ33 v71))) else none)))))
set_option maxHeartbeats 4000000 in
set_option maxRecDepth 100000 in
theorem tl_Mo_number_33 {n : Nat} (kx33_85 : Int32 → Dm → Option (Int32 × Dm)) (a1 : Int32) (v30 : Int32) (hkx33_85 : ∀ v3_33k δ33k, AWo k_Mo_number 2 0 0 85 [(0, .ref 151), (1, .int a1), (2, .int v30), (3, .int v3_33k)] [] δ33k RT n 0 0 (Km RT n) (kx33_85 v3_33k δ33k)) : ∀ (f : Nat) (v3_33 : Int32) (δ33 : Dm), AWo k_Mo_number 2 0 0 33 [(0, .ref 151), (1, .int a1), (2, .int v30), (3, .int v3_33)] [] δ33 RT n 0 0 (Km RT n) (lp_Mo_number_33 kx33_85 a1 v30 f v3_33 δ33) := by
  intro f
  induction f with
  | zero => intro _ _; exact aw_none
  | succ f ih =>
    intro v3_33 δ33
    rw [lp_Mo_number_33]
    refine aw_aload_n d_Mo_number_33 0 rfl ?_
    refine aw_aload_n d_Mo_number_34 0 rfl ?_
    refine aw_getI fl_Mo_90 kd_151 d_Mo_number_35 ?_
    refine aw_V_p (As := [.int (gI δ33 151 9)]) (m_Mo_isDigit) cv_Mo_107 kd_151 rfl rfl rfl (Nat.le_of_ble_eq_true rfl) ⟨Nat.le_of_ble_eq_true rfl, Nat.le_of_ble_eq_true rfl⟩ ⟨Nat.le_refl _, Nat.le_refl _⟩ d_Mo_number_38 (fun y38 => ?_)
    refine aw_if_eq (tgt := 85) d_Mo_number_41 rfl (fun q41 => ?_) (fun q41 => ?_)
    · refine aw_sub (lo' := [(0, .ref 151), (1, .int a1), (2, .int v30), (3, .int v3_33)]) [0, 1, 2, 3] rfl ?_
      exact hkx33_85 _ _
    · refine aw_aload_n d_Mo_number_44 0 rfl ?_
      refine aw_getI fl_Mo_90 kd_151 d_Mo_number_45 ?_
      refine aw_iload_n d_Mo_number_48 2 rfl ?_
      refine aw_isub d_Mo_number_49 ?_
      refine aw_iconst d_Mo_number_50 ki_5 ?_
      refine aw_icmp_ge (tgt := 72) d_Mo_number_51 rfl (fun q51 => ?_) (fun q51 => ?_)
      · refine aw_sub (lo' := [(0, .ref 151), (1, .int a1), (2, .int v30), (3, .int v3_33)]) [0, 1, 2, 3] rfl ?_
        exact tj_Mo_number_72 _ _ _ _ _ _ ih hkx33_85
      · refine aw_bipush d_Mo_number_54 kb_10 ?_
        refine aw_iload_n d_Mo_number_56 3 rfl ?_
        refine aw_imul d_Mo_number_57 ?_
        refine aw_aload_n d_Mo_number_58 0 rfl ?_
        refine aw_getR (t := 153) fl_Mo_13 kd_151 rt_151_1 d_Mo_number_59 ?_
        refine aw_aload_n d_Mo_number_62 0 rfl ?_
        refine aw_getI fl_Mo_90 kd_151 d_Mo_number_63 ?_
        refine aw_bald kd_153 d_Mo_number_66 ?_
        refine aw_iadd d_Mo_number_67 ?_
        refine aw_bipush d_Mo_number_68 kb_48 ?_
        refine aw_isub d_Mo_number_70 ?_
        refine aw_bI (fun v71 => ?_)
        refine aw_istore_n (lo' := [(3, .int v71), (0, .ref 151), (1, .int a1), (2, .int v30)]) d_Mo_number_71 rfl (by decide) rfl ?_
        refine aw_sub (lo' := [(0, .ref 151), (1, .int a1), (2, .int v30), (3, .int v71)]) [1, 2, 3, 0] rfl ?_
        exact tj_Mo_number_72 _ _ _ _ _ _ ih hkx33_85
def f_Mo_number (a1 : Int32) (δ : Dm) : Option (Int32 × Dm) := ((f_Mo_see δ).bind (fun y1 => bnd y1.1 (fun v1 => bnd y1.2 (fun δ_1 => ((f_Mo_isDigit (gI δ_1 151 9) δ_1).bind (fun y10 => (if y10 = 0 then ((f_Mo_fails (0 : Int32) (gI δ_1 151 9) δ_1).bind (fun y22 => bnd y22.1 (fun v22 => bnd y22.2 (fun δ_22 => (if v22 = 0 ∨ v22 = 1 then (some (v22, δ_22)) else none))))) else (bnd (gI δ_1 151 9) (fun v30 => (lp_Mo_number_33 (fun v3_33x δ33x => (bnd (sI δ33x 151 11 v3_33x) (fun δ_87 => (if (5 : Int32) < ((gI δ_87 151 9) - v30) then (jp_Mo_number_105 a1 v30 v3_33x δ_87) else (if v3_33x ≤ a1 then (jp_Mo_number_114 a1 v30 v3_33x δ_87) else (jp_Mo_number_105 a1 v30 v3_33x δ_87)))))) a1 v30 FU (0 : Int32) δ_1))))))))))
set_option maxHeartbeats 4000000 in
set_option maxRecDepth 100000 in
theorem m_Mo_number {a1 : Int32} {δ : Dm} {n : Nat} : ∀ x, f_Mo_number a1 δ = some x → AMet k_Mo_number 2 0 0 [.ref 151, .int a1] δ RT n (Km RT n x) := by
  refine aw_start (lo := [(0, .ref 151), (1, .int a1)]) mok_Mo_number rfl (Nat.le_of_ble_eq_true rfl) ?_
  unfold f_Mo_number
  refine aw_aload_n d_Mo_number_0 0 rfl ?_
  refine aw_V_m (As := []) (m_Mo_see) cv_Mo_93 kd_151 rfl rfl rfl (Nat.le_of_ble_eq_true rfl) ⟨Nat.le_of_ble_eq_true rfl, Nat.le_of_ble_eq_true rfl⟩ ⟨Nat.le_refl _, Nat.le_refl _⟩ d_Mo_number_1 (fun y1 => ?_)
  refine aw_bI (fun v1 => ?_)
  refine aw_bD (fun δ_1 => ?_)
  refine aw_pop d_Mo_number_4 rfl ?_
  refine aw_aload_n d_Mo_number_5 0 rfl ?_
  refine aw_aload_n d_Mo_number_6 0 rfl ?_
  refine aw_getI fl_Mo_90 kd_151 d_Mo_number_7 ?_
  refine aw_V_p (As := [.int (gI δ_1 151 9)]) (m_Mo_isDigit) cv_Mo_107 kd_151 rfl rfl rfl (Nat.le_of_ble_eq_true rfl) ⟨Nat.le_of_ble_eq_true rfl, Nat.le_of_ble_eq_true rfl⟩ ⟨Nat.le_refl _, Nat.le_refl _⟩ d_Mo_number_10 (fun y10 => ?_)
  refine aw_if_ne (tgt := 26) d_Mo_number_13 rfl (fun q13 => ?_) (fun q13 => ?_)
  · refine aw_aload_n d_Mo_number_16 0 rfl ?_
    refine aw_iconst d_Mo_number_17 ki_0 ?_
    refine aw_aload_n d_Mo_number_18 0 rfl ?_
    refine aw_getI fl_Mo_90 kd_151 d_Mo_number_19 ?_
    refine aw_V_m (As := [.int (0 : Int32), .int (gI δ_1 151 9)]) (m_Mo_fails) cv_Mo_110 kd_151 rfl rfl rfl (Nat.le_of_ble_eq_true rfl) ⟨Nat.le_of_ble_eq_true rfl, Nat.le_of_ble_eq_true rfl⟩ ⟨Nat.le_refl _, Nat.le_refl _⟩ d_Mo_number_22 (fun y22 => ?_)
    refine aw_bI (fun v22 => ?_)
    refine aw_bD (fun δ_22 => ?_)
    exact aw_zr2 rfl rfl ⟨Nat.le_refl _, Nat.le_refl _⟩ d_Mo_number_25
  · refine aw_aload_n d_Mo_number_26 0 rfl ?_
    refine aw_getI fl_Mo_90 kd_151 d_Mo_number_27 ?_
    refine aw_bI (fun v30 => ?_)
    refine aw_istore_n (lo' := [(2, .int v30), (0, .ref 151), (1, .int a1)]) d_Mo_number_30 rfl (by decide) rfl ?_
    refine aw_iconst d_Mo_number_31 ki_0 ?_
    refine aw_istore_n (lo' := [(3, .int (0 : Int32)), (2, .int v30), (0, .ref 151), (1, .int a1)]) d_Mo_number_32 rfl (by decide) rfl ?_
    refine aw_sub (lo' := [(0, .ref 151), (1, .int a1), (2, .int v30), (3, .int (0 : Int32))]) [2, 3, 1, 0] rfl ?_
    refine tl_Mo_number_33 _ _ _ (fun v3_33x δ33x => ?_) FU _ _
    · refine aw_aload_n d_Mo_number_85 0 rfl ?_
      refine aw_iload_n d_Mo_number_86 3 rfl ?_
      refine aw_putI pf_Mo_114 kd_151 d_Mo_number_87 ?_
      refine aw_bD (fun δ_87 => ?_)
      refine aw_aload_n d_Mo_number_90 0 rfl ?_
      refine aw_getI fl_Mo_90 kd_151 d_Mo_number_91 ?_
      refine aw_iload_n d_Mo_number_94 2 rfl ?_
      refine aw_isub d_Mo_number_95 ?_
      refine aw_iconst d_Mo_number_96 ki_5 ?_
      refine aw_icmp_gt (tgt := 105) d_Mo_number_97 rfl (fun q97 => ?_) (fun q97 => ?_)
      · refine aw_sub (lo' := [(0, .ref 151), (1, .int a1), (2, .int v30), (3, .int v3_33x)]) [0, 1, 2, 3] rfl ?_
        exact tj_Mo_number_105 _ _ _ _
      · refine aw_iload_n d_Mo_number_100 3 rfl ?_
        refine aw_iload_n d_Mo_number_101 1 rfl ?_
        refine aw_icmp_le (tgt := 114) d_Mo_number_102 rfl (fun q102 => ?_) (fun q102 => ?_)
        · refine aw_sub (lo' := [(0, .ref 151), (1, .int a1), (2, .int v30), (3, .int v3_33x)]) [0, 1, 2, 3] rfl ?_
          exact tj_Mo_number_114 _ _ _ _
        · refine aw_sub (lo' := [(0, .ref 151), (1, .int a1), (2, .int v30), (3, .int v3_33x)]) [0, 1, 2, 3] rfl ?_
          exact tj_Mo_number_105 _ _ _ _
def f_Mo_weakHere (δ : Dm) : Option (Int32 × Dm) := ((f_Mo_passWord δ).bind (fun y1 => ((f_Mo_see y1).bind (fun y5 => bnd y5.1 (fun v5 => bnd y5.2 (fun δ_5 => (bnd (gI δ_5 151 9) (fun v13 => ((f_Mo_number (2 : Int32) δ_5).bind (fun y16 => bnd y16.1 (fun v16 => bnd y16.2 (fun δ_16 => (if v16 = 0 then (some ((0 : Int32), δ_16)) else (bnd (((3 : Int32) * (gI δ_16 151 12)) + (gI δ_16 151 11)) (fun v35 => (if inb v35 24 then (if (gI δ_16 158 (ix v35)) < 0 then ((f_Mo_number (999 : Int32) δ_16).bind (fun y56 => bnd y56.1 (fun v56 => bnd y56.2 (fun δ_56 => (if v56 = 0 then (some ((0 : Int32), δ_56)) else (if inb v35 24 then bnd (sI δ_56 158 (ix v35) (gI δ_56 151 11)) (fun δ_73 => (some ((1 : Int32), δ_73))) else none)))))) else ((f_Mo_fails (4 : Int32) v13 δ_16).bind (fun y48 => bnd y48.1 (fun v48 => bnd y48.2 (fun δ_48 => (if v48 = 0 ∨ v48 = 1 then (some (v48, δ_48)) else none)))))) else none))))))))))))))))
set_option maxHeartbeats 4000000 in
set_option maxRecDepth 100000 in
theorem m_Mo_weakHere {δ : Dm} {n : Nat} : ∀ x, f_Mo_weakHere δ = some x → AMet k_Mo_weakHere 3 0 0 [.ref 151] δ RT n (Km RT n x) := by
  refine aw_start (lo := [(0, .ref 151)]) mok_Mo_weakHere rfl (Nat.le_of_ble_eq_true rfl) ?_
  unfold f_Mo_weakHere
  refine aw_aload_n d_Mo_weakHere_0 0 rfl ?_
  refine aw_V_v (As := []) (m_Mo_passWord) cv_Mo_104 kd_151 rfl rfl rfl (Nat.le_of_ble_eq_true rfl) ⟨Nat.le_of_ble_eq_true rfl, Nat.le_of_ble_eq_true rfl⟩ ⟨Nat.le_refl _, Nat.le_refl _⟩ d_Mo_weakHere_1 (fun y1 => ?_)
  refine aw_aload_n d_Mo_weakHere_4 0 rfl ?_
  refine aw_V_m (As := []) (m_Mo_see) cv_Mo_93 kd_151 rfl rfl rfl (Nat.le_of_ble_eq_true rfl) ⟨Nat.le_of_ble_eq_true rfl, Nat.le_of_ble_eq_true rfl⟩ ⟨Nat.le_refl _, Nat.le_refl _⟩ d_Mo_weakHere_5 (fun y5 => ?_)
  refine aw_bI (fun v5 => ?_)
  refine aw_bD (fun δ_5 => ?_)
  refine aw_pop d_Mo_weakHere_8 rfl ?_
  refine aw_aload_n d_Mo_weakHere_9 0 rfl ?_
  refine aw_getI fl_Mo_90 kd_151 d_Mo_weakHere_10 ?_
  refine aw_bI (fun v13 => ?_)
  refine aw_istore_n (lo' := [(1, .int v13), (0, .ref 151)]) d_Mo_weakHere_13 rfl (by decide) rfl ?_
  refine aw_aload_n d_Mo_weakHere_14 1 rfl ?_
  refine aw_iconst d_Mo_weakHere_15 ki_2 ?_
  refine aw_V_m (As := [.int (2 : Int32)]) (m_Mo_number) cv_Mo_156 kd_151 rfl rfl rfl (Nat.le_of_ble_eq_true rfl) ⟨Nat.le_of_ble_eq_true rfl, Nat.le_of_ble_eq_true rfl⟩ ⟨Nat.le_refl _, Nat.le_refl _⟩ d_Mo_weakHere_16 (fun y16 => ?_)
  refine aw_bI (fun v16 => ?_)
  refine aw_bD (fun δ_16 => ?_)
  refine aw_if_ne (tgt := 24) d_Mo_weakHere_19 rfl (fun q19 => ?_) (fun q19 => ?_)
  · refine aw_iconst d_Mo_weakHere_22 ki_0 ?_
    exact aw_zret rfl rfl rfl ⟨Nat.le_refl _, Nat.le_refl _⟩ d_Mo_weakHere_23
  · refine aw_iconst d_Mo_weakHere_24 ki_3 ?_
    refine aw_aload_n d_Mo_weakHere_25 1 rfl ?_
    refine aw_getI fl_Mo_135 kd_151 d_Mo_weakHere_26 ?_
    refine aw_imul d_Mo_weakHere_29 ?_
    refine aw_aload_n d_Mo_weakHere_30 1 rfl ?_
    refine aw_getI fl_Mo_114 kd_151 d_Mo_weakHere_31 ?_
    refine aw_iadd d_Mo_weakHere_34 ?_
    refine aw_bI (fun v35 => ?_)
    refine aw_istore_n (lo' := [(2, .int v35), (1, .int v13), (0, .ref 151)]) d_Mo_weakHere_35 rfl (by decide) rfl ?_
    refine aw_aload_n d_Mo_weakHere_36 2 rfl ?_
    refine aw_getR (t := 158) fl_Mo_29 kd_151 rt_151_8 d_Mo_weakHere_37 ?_
    refine aw_iload_n d_Mo_weakHere_40 0 rfl ?_
    refine aw_iald kd_158 d_Mo_weakHere_41 ?_
    refine aw_if_lt (tgt := 52) d_Mo_weakHere_42 rfl (fun q42 => ?_) (fun q42 => ?_)
    · refine aw_aload_n d_Mo_weakHere_52 2 rfl ?_
      refine aw_sipush d_Mo_weakHere_53 ks_999 ?_
      refine aw_V_m (As := [.int (999 : Int32)]) (m_Mo_number) cv_Mo_156 kd_151 rfl rfl rfl (Nat.le_of_ble_eq_true rfl) ⟨Nat.le_of_ble_eq_true rfl, Nat.le_of_ble_eq_true rfl⟩ ⟨Nat.le_refl _, Nat.le_refl _⟩ d_Mo_weakHere_56 (fun y56 => ?_)
      refine aw_bI (fun v56 => ?_)
      refine aw_bD (fun δ_56 => ?_)
      refine aw_if_ne (tgt := 64) d_Mo_weakHere_59 rfl (fun q59 => ?_) (fun q59 => ?_)
      · refine aw_iconst d_Mo_weakHere_62 ki_0 ?_
        exact aw_zret rfl rfl rfl ⟨Nat.le_refl _, Nat.le_refl _⟩ d_Mo_weakHere_63
      · refine aw_aload_n d_Mo_weakHere_64 2 rfl ?_
        refine aw_getR (t := 158) fl_Mo_29 kd_151 rt_151_8 d_Mo_weakHere_65 ?_
        refine aw_iload_n d_Mo_weakHere_68 0 rfl ?_
        refine aw_aload_n d_Mo_weakHere_69 2 rfl ?_
        refine aw_getI fl_Mo_114 kd_151 d_Mo_weakHere_70 ?_
        refine aw_iast kd_158 d_Mo_weakHere_73 ?_
        refine aw_bD (fun δ_73 => ?_)
        refine aw_iconst d_Mo_weakHere_74 ki_1 ?_
        exact aw_zret rfl rfl rfl ⟨Nat.le_refl _, Nat.le_refl _⟩ d_Mo_weakHere_75
    · refine aw_aload_n d_Mo_weakHere_45 2 rfl ?_
      refine aw_iconst d_Mo_weakHere_46 ki_4 ?_
      refine aw_iload_n d_Mo_weakHere_47 1 rfl ?_
      refine aw_V_m (As := [.int (4 : Int32), .int v13]) (m_Mo_fails) cv_Mo_110 kd_151 rfl rfl rfl (Nat.le_of_ble_eq_true rfl) ⟨Nat.le_of_ble_eq_true rfl, Nat.le_of_ble_eq_true rfl⟩ ⟨Nat.le_refl _, Nat.le_refl _⟩ d_Mo_weakHere_48 (fun y48 => ?_)
      refine aw_bI (fun v48 => ?_)
      refine aw_bD (fun δ_48 => ?_)
      exact aw_zr2 rfl rfl ⟨Nat.le_refl _, Nat.le_refl _⟩ d_Mo_weakHere_51
def f_Mo_bathHere (δ : Dm) : Option (Int32 × Dm) := ((f_Mo_passWord δ).bind (fun y1 => ((f_Mo_number (2 : Int32) y1).bind (fun y6 => bnd y6.1 (fun v6 => bnd y6.2 (fun δ_6 => (if v6 = 0 ∨ v6 = 1 then (some (v6, δ_6)) else none)))))))
set_option maxHeartbeats 4000000 in
set_option maxRecDepth 100000 in
theorem m_Mo_bathHere {δ : Dm} {n : Nat} : ∀ x, f_Mo_bathHere δ = some x → AMet k_Mo_bathHere 3 0 0 [.ref 151] δ RT n (Km RT n x) := by
  refine aw_start (lo := [(0, .ref 151)]) mok_Mo_bathHere rfl (Nat.le_of_ble_eq_true rfl) ?_
  unfold f_Mo_bathHere
  refine aw_aload_n d_Mo_bathHere_0 0 rfl ?_
  refine aw_V_v (As := []) (m_Mo_passWord) cv_Mo_104 kd_151 rfl rfl rfl (Nat.le_of_ble_eq_true rfl) ⟨Nat.le_of_ble_eq_true rfl, Nat.le_of_ble_eq_true rfl⟩ ⟨Nat.le_refl _, Nat.le_refl _⟩ d_Mo_bathHere_1 (fun y1 => ?_)
  refine aw_aload_n d_Mo_bathHere_4 0 rfl ?_
  refine aw_iconst d_Mo_bathHere_5 ki_2 ?_
  refine aw_V_m (As := [.int (2 : Int32)]) (m_Mo_number) cv_Mo_156 kd_151 rfl rfl rfl (Nat.le_of_ble_eq_true rfl) ⟨Nat.le_of_ble_eq_true rfl, Nat.le_of_ble_eq_true rfl⟩ ⟨Nat.le_refl _, Nat.le_refl _⟩ d_Mo_bathHere_6 (fun y6 => ?_)
  refine aw_bI (fun v6 => ?_)
  refine aw_bD (fun δ_6 => ?_)
  exact aw_zr2 rfl rfl ⟨Nat.le_refl _, Nat.le_refl _⟩ d_Mo_bathHere_9
def f_Mo_makes (a1 : Int32) (δ : Dm) : Option (Int32 × Dm) := (if (gI δ 151 13) = (60 : Int32) then ((f_Mo_fails (3 : Int32) a1 δ).bind (fun y12 => bnd y12.1 (fun v12 => bnd y12.2 (fun δ_12 => (if v12 = 0 ∨ v12 = 1 then (some (v12, δ_12)) else none))))) else (bnd (sI δ 151 13 ((gI δ 151 13) + (1 : Int32))) (fun δ_23 => (some ((1 : Int32), δ_23)))))
set_option maxHeartbeats 4000000 in
set_option maxRecDepth 100000 in
theorem m_Mo_makes {a1 : Int32} {δ : Dm} {n : Nat} : ∀ x, f_Mo_makes a1 δ = some x → AMet k_Mo_makes 2 0 0 [.ref 151, .int a1] δ RT n (Km RT n x) := by
  refine aw_start (lo := [(0, .ref 151), (1, .int a1)]) mok_Mo_makes rfl (Nat.le_of_ble_eq_true rfl) ?_
  unfold f_Mo_makes
  refine aw_aload_n d_Mo_makes_0 0 rfl ?_
  refine aw_getI fl_Mo_138 kd_151 d_Mo_makes_1 ?_
  refine aw_bipush d_Mo_makes_4 kb_60 ?_
  refine aw_icmp_ne (tgt := 16) d_Mo_makes_6 rfl (fun q6 => ?_) (fun q6 => ?_)
  · refine aw_aload_n d_Mo_makes_9 0 rfl ?_
    refine aw_iconst d_Mo_makes_10 ki_3 ?_
    refine aw_iload_n d_Mo_makes_11 1 rfl ?_
    refine aw_V_m (As := [.int (3 : Int32), .int a1]) (m_Mo_fails) cv_Mo_110 kd_151 rfl rfl rfl (Nat.le_of_ble_eq_true rfl) ⟨Nat.le_of_ble_eq_true rfl, Nat.le_of_ble_eq_true rfl⟩ ⟨Nat.le_refl _, Nat.le_refl _⟩ d_Mo_makes_12 (fun y12 => ?_)
    refine aw_bI (fun v12 => ?_)
    refine aw_bD (fun δ_12 => ?_)
    exact aw_zr2 rfl rfl ⟨Nat.le_refl _, Nat.le_refl _⟩ d_Mo_makes_15
  · refine aw_aload_n d_Mo_makes_16 0 rfl ?_
    refine aw_dup d_Mo_makes_17 rfl ?_
    refine aw_getI fl_Mo_138 kd_151 d_Mo_makes_18 ?_
    refine aw_iconst d_Mo_makes_21 ki_1 ?_
    refine aw_iadd d_Mo_makes_22 ?_
    refine aw_putI pf_Mo_138 kd_151 d_Mo_makes_23 ?_
    refine aw_bD (fun δ_23 => ?_)
    refine aw_iconst d_Mo_makes_26 ki_1 ?_
    exact aw_zret rfl rfl rfl ⟨Nat.le_refl _, Nat.le_refl _⟩ d_Mo_makes_27
def f_Mo_puts (a1 : Int32) (a2 : Int32) (δ : Dm) : Option Dm := (if inb (gI δ 151 12) 8 then (if inb (((400 : Int32) * (gI δ 151 12)) + (gI δ 155 (ix (gI δ 151 12)))) 3200 then bnd (sI δ 154 (ix (((400 : Int32) * (gI δ 151 12)) + (gI δ 155 (ix (gI δ 151 12))))) (a1 + ((16 : Int32) * a2))) (fun δ_28 => (if inb (gI δ_28 151 12) 8 then (if inb (gI δ_28 151 12) 8 then bnd (sI δ_28 155 (ix (gI δ_28 151 12)) ((gI δ_28 155 (ix (gI δ_28 151 12))) + (1 : Int32))) (fun δ_41 => (some δ_41)) else none) else none)) else none) else none)
set_option maxHeartbeats 4000000 in
set_option maxRecDepth 100000 in
theorem m_Mo_puts {a1 : Int32} {a2 : Int32} {δ : Dm} {n : Nat} : ∀ x, f_Mo_puts a1 a2 δ = some x → AMet k_Mo_puts 1 0 0 [.ref 151, .int a1, .int a2] δ RT n (Kv RT n x) := by
  refine aw_start (lo := [(0, .ref 151), (1, .int a1), (2, .int a2)]) mok_Mo_puts rfl (Nat.le_of_ble_eq_true rfl) ?_
  unfold f_Mo_puts
  refine aw_aload_n d_Mo_puts_0 0 rfl ?_
  refine aw_getR (t := 154) fl_Mo_17 kd_151 rt_151_4 d_Mo_puts_1 ?_
  refine aw_sipush d_Mo_puts_4 ks_400 ?_
  refine aw_aload_n d_Mo_puts_7 0 rfl ?_
  refine aw_getI fl_Mo_135 kd_151 d_Mo_puts_8 ?_
  refine aw_imul d_Mo_puts_11 ?_
  refine aw_aload_n d_Mo_puts_12 0 rfl ?_
  refine aw_getR (t := 155) fl_Mo_20 kd_151 rt_151_5 d_Mo_puts_13 ?_
  refine aw_aload_n d_Mo_puts_16 0 rfl ?_
  refine aw_getI fl_Mo_135 kd_151 d_Mo_puts_17 ?_
  refine aw_iald kd_155 d_Mo_puts_20 ?_
  refine aw_iadd d_Mo_puts_21 ?_
  refine aw_iload_n d_Mo_puts_22 1 rfl ?_
  refine aw_bipush d_Mo_puts_23 kb_16 ?_
  refine aw_iload_n d_Mo_puts_25 2 rfl ?_
  refine aw_imul d_Mo_puts_26 ?_
  refine aw_iadd d_Mo_puts_27 ?_
  refine aw_iast kd_154 d_Mo_puts_28 ?_
  refine aw_bD (fun δ_28 => ?_)
  refine aw_aload_n d_Mo_puts_29 0 rfl ?_
  refine aw_getR (t := 155) fl_Mo_20 kd_151 rt_151_5 d_Mo_puts_30 ?_
  refine aw_aload_n d_Mo_puts_33 0 rfl ?_
  refine aw_getI fl_Mo_135 kd_151 d_Mo_puts_34 ?_
  refine aw_dup2 d_Mo_puts_37 rfl rfl ?_
  refine aw_iald kd_155 d_Mo_puts_38 ?_
  refine aw_iconst d_Mo_puts_39 ki_1 ?_
  refine aw_iadd d_Mo_puts_40 ?_
  refine aw_iast kd_155 d_Mo_puts_41 ?_
  refine aw_bD (fun δ_41 => ?_)
  exact aw_vret rfl rfl ⟨Nat.le_refl _, Nat.le_refl _⟩ d_Mo_puts_42
def f_Mo_wordHere (δ : Dm) : Option (Int32 × Dm) := ((f_Mo_isWord (1751474532 : Int64) δ).bind (fun y4 => bnd y4.1 (fun v4 => bnd y4.2 (fun δ_4 => (if v4 = 0 then ((f_Mo_isWord (495874699116 : Int64) δ_4).bind (fun y16 => bnd y16.1 (fun v16 => bnd y16.2 (fun δ_16 => (if v16 = 0 then ((f_Mo_isWord (465624852596 : Int64) δ_16).bind (fun y28 => bnd y28.1 (fun v28 => bnd y28.2 (fun δ_28 => (if v28 = 0 then ((f_Mo_isWord (1751474548 : Int64) δ_28).bind (fun y40 => bnd y40.1 (fun v40 => bnd y40.2 (fun δ_40 => (if v40 = 0 then ((f_Mo_isWord (6578553 : Int64) δ_40).bind (fun y52 => bnd y52.1 (fun v52 => bnd y52.2 (fun δ_52 => (if v52 = 0 then ((f_Mo_isWord (8319400191629685864 : Int64) δ_52).bind (fun y64 => bnd y64.1 (fun v64 => bnd y64.2 (fun δ_64 => (if v64 = 0 then ((f_Mo_isWord (126943972913267 : Int64) δ_64).bind (fun y76 => bnd y76.1 (fun v76 => bnd y76.2 (fun δ_76 => (if v76 = 0 then ((f_Mo_isWord (6451064 : Int64) δ_76).bind (fun y89 => bnd y89.1 (fun v89 => bnd y89.2 (fun δ_89 => (if v89 = 0 then ((f_Mo_isWord (482854658917 : Int64) δ_89).bind (fun y102 => bnd y102.1 (fun v102 => bnd y102.2 (fun δ_102 => (if v102 = 0 then (some ((-1 : Int32), δ_102)) else (some ((8 : Int32), δ_102))))))) else (some ((7 : Int32), δ_89))))))) else (some ((6 : Int32), δ_76))))))) else (some ((5 : Int32), δ_64))))))) else (some ((4 : Int32), δ_52))))))) else (some ((3 : Int32), δ_40))))))) else (some ((2 : Int32), δ_28))))))) else (some ((1 : Int32), δ_16))))))) else (some ((0 : Int32), δ_4)))))))
set_option maxHeartbeats 4000000 in
set_option maxRecDepth 100000 in
theorem m_Mo_wordHere {δ : Dm} {n : Nat} : ∀ x, f_Mo_wordHere δ = some x → AMet k_Mo_wordHere 3 0 0 [.ref 151] δ RT n (Km RT n x) := by
  refine aw_start (lo := [(0, .ref 151)]) mok_Mo_wordHere rfl (Nat.le_of_ble_eq_true rfl) ?_
  unfold f_Mo_wordHere
  refine aw_aload_n d_Mo_wordHere_0 0 rfl ?_
  refine aw_ldc2 (v := (1751474532 : Int64)) d_Mo_wordHere_1 kc_Mo_117 ?_
  refine aw_V_m (As := [.long (1751474532 : Int64)]) (m_Mo_isWord) cv_Mo_100 kd_151 rfl rfl rfl (Nat.le_of_ble_eq_true rfl) ⟨Nat.le_of_ble_eq_true rfl, Nat.le_of_ble_eq_true rfl⟩ ⟨Nat.le_refl _, Nat.le_refl _⟩ d_Mo_wordHere_4 (fun y4 => ?_)
  refine aw_bI (fun v4 => ?_)
  refine aw_bD (fun δ_4 => ?_)
  refine aw_if_eq (tgt := 12) d_Mo_wordHere_7 rfl (fun q7 => ?_) (fun q7 => ?_)
  · refine aw_aload_n d_Mo_wordHere_12 0 rfl ?_
    refine aw_ldc2 (v := (495874699116 : Int64)) d_Mo_wordHere_13 kc_Mo_119 ?_
    refine aw_V_m (As := [.long (495874699116 : Int64)]) (m_Mo_isWord) cv_Mo_100 kd_151 rfl rfl rfl (Nat.le_of_ble_eq_true rfl) ⟨Nat.le_of_ble_eq_true rfl, Nat.le_of_ble_eq_true rfl⟩ ⟨Nat.le_refl _, Nat.le_refl _⟩ d_Mo_wordHere_16 (fun y16 => ?_)
    refine aw_bI (fun v16 => ?_)
    refine aw_bD (fun δ_16 => ?_)
    refine aw_if_eq (tgt := 24) d_Mo_wordHere_19 rfl (fun q19 => ?_) (fun q19 => ?_)
    · refine aw_aload_n d_Mo_wordHere_24 0 rfl ?_
      refine aw_ldc2 (v := (465624852596 : Int64)) d_Mo_wordHere_25 kc_Mo_121 ?_
      refine aw_V_m (As := [.long (465624852596 : Int64)]) (m_Mo_isWord) cv_Mo_100 kd_151 rfl rfl rfl (Nat.le_of_ble_eq_true rfl) ⟨Nat.le_of_ble_eq_true rfl, Nat.le_of_ble_eq_true rfl⟩ ⟨Nat.le_refl _, Nat.le_refl _⟩ d_Mo_wordHere_28 (fun y28 => ?_)
      refine aw_bI (fun v28 => ?_)
      refine aw_bD (fun δ_28 => ?_)
      refine aw_if_eq (tgt := 36) d_Mo_wordHere_31 rfl (fun q31 => ?_) (fun q31 => ?_)
      · refine aw_aload_n d_Mo_wordHere_36 0 rfl ?_
        refine aw_ldc2 (v := (1751474548 : Int64)) d_Mo_wordHere_37 kc_Mo_123 ?_
        refine aw_V_m (As := [.long (1751474548 : Int64)]) (m_Mo_isWord) cv_Mo_100 kd_151 rfl rfl rfl (Nat.le_of_ble_eq_true rfl) ⟨Nat.le_of_ble_eq_true rfl, Nat.le_of_ble_eq_true rfl⟩ ⟨Nat.le_refl _, Nat.le_refl _⟩ d_Mo_wordHere_40 (fun y40 => ?_)
        refine aw_bI (fun v40 => ?_)
        refine aw_bD (fun δ_40 => ?_)
        refine aw_if_eq (tgt := 48) d_Mo_wordHere_43 rfl (fun q43 => ?_) (fun q43 => ?_)
        · refine aw_aload_n d_Mo_wordHere_48 0 rfl ?_
          refine aw_ldc2 (v := (6578553 : Int64)) d_Mo_wordHere_49 kc_Mo_125 ?_
          refine aw_V_m (As := [.long (6578553 : Int64)]) (m_Mo_isWord) cv_Mo_100 kd_151 rfl rfl rfl (Nat.le_of_ble_eq_true rfl) ⟨Nat.le_of_ble_eq_true rfl, Nat.le_of_ble_eq_true rfl⟩ ⟨Nat.le_refl _, Nat.le_refl _⟩ d_Mo_wordHere_52 (fun y52 => ?_)
          refine aw_bI (fun v52 => ?_)
          refine aw_bD (fun δ_52 => ?_)
          refine aw_if_eq (tgt := 60) d_Mo_wordHere_55 rfl (fun q55 => ?_) (fun q55 => ?_)
          · refine aw_aload_n d_Mo_wordHere_60 0 rfl ?_
            refine aw_ldc2 (v := (8319400191629685864 : Int64)) d_Mo_wordHere_61 kc_Mo_127 ?_
            refine aw_V_m (As := [.long (8319400191629685864 : Int64)]) (m_Mo_isWord) cv_Mo_100 kd_151 rfl rfl rfl (Nat.le_of_ble_eq_true rfl) ⟨Nat.le_of_ble_eq_true rfl, Nat.le_of_ble_eq_true rfl⟩ ⟨Nat.le_refl _, Nat.le_refl _⟩ d_Mo_wordHere_64 (fun y64 => ?_)
            refine aw_bI (fun v64 => ?_)
            refine aw_bD (fun δ_64 => ?_)
            refine aw_if_eq (tgt := 72) d_Mo_wordHere_67 rfl (fun q67 => ?_) (fun q67 => ?_)
            · refine aw_aload_n d_Mo_wordHere_72 0 rfl ?_
              refine aw_ldc2 (v := (126943972913267 : Int64)) d_Mo_wordHere_73 kc_Mo_129 ?_
              refine aw_V_m (As := [.long (126943972913267 : Int64)]) (m_Mo_isWord) cv_Mo_100 kd_151 rfl rfl rfl (Nat.le_of_ble_eq_true rfl) ⟨Nat.le_of_ble_eq_true rfl, Nat.le_of_ble_eq_true rfl⟩ ⟨Nat.le_refl _, Nat.le_refl _⟩ d_Mo_wordHere_76 (fun y76 => ?_)
              refine aw_bI (fun v76 => ?_)
              refine aw_bD (fun δ_76 => ?_)
              refine aw_if_eq (tgt := 85) d_Mo_wordHere_79 rfl (fun q79 => ?_) (fun q79 => ?_)
              · refine aw_aload_n d_Mo_wordHere_85 0 rfl ?_
                refine aw_ldc2 (v := (6451064 : Int64)) d_Mo_wordHere_86 kc_Mo_131 ?_
                refine aw_V_m (As := [.long (6451064 : Int64)]) (m_Mo_isWord) cv_Mo_100 kd_151 rfl rfl rfl (Nat.le_of_ble_eq_true rfl) ⟨Nat.le_of_ble_eq_true rfl, Nat.le_of_ble_eq_true rfl⟩ ⟨Nat.le_refl _, Nat.le_refl _⟩ d_Mo_wordHere_89 (fun y89 => ?_)
                refine aw_bI (fun v89 => ?_)
                refine aw_bD (fun δ_89 => ?_)
                refine aw_if_eq (tgt := 98) d_Mo_wordHere_92 rfl (fun q92 => ?_) (fun q92 => ?_)
                · refine aw_aload_n d_Mo_wordHere_98 0 rfl ?_
                  refine aw_ldc2 (v := (482854658917 : Int64)) d_Mo_wordHere_99 kc_Mo_133 ?_
                  refine aw_V_m (As := [.long (482854658917 : Int64)]) (m_Mo_isWord) cv_Mo_100 kd_151 rfl rfl rfl (Nat.le_of_ble_eq_true rfl) ⟨Nat.le_of_ble_eq_true rfl, Nat.le_of_ble_eq_true rfl⟩ ⟨Nat.le_refl _, Nat.le_refl _⟩ d_Mo_wordHere_102 (fun y102 => ?_)
                  refine aw_bI (fun v102 => ?_)
                  refine aw_bD (fun δ_102 => ?_)
                  refine aw_if_eq (tgt := 113) d_Mo_wordHere_105 rfl (fun q105 => ?_) (fun q105 => ?_)
                  · refine aw_iconst d_Mo_wordHere_113 ki_m1 ?_
                    exact aw_iret rfl rfl ⟨Nat.le_refl _, Nat.le_refl _⟩ d_Mo_wordHere_114
                  · refine aw_bipush d_Mo_wordHere_108 kb_8 ?_
                    refine aw_goto (tgt := 114) d_Mo_wordHere_110 rfl ?_
                    exact aw_iret rfl rfl ⟨Nat.le_refl _, Nat.le_refl _⟩ d_Mo_wordHere_114
                · refine aw_bipush d_Mo_wordHere_95 kb_7 ?_
                  exact aw_iret rfl rfl ⟨Nat.le_refl _, Nat.le_refl _⟩ d_Mo_wordHere_97
              · refine aw_bipush d_Mo_wordHere_82 kb_6 ?_
                exact aw_iret rfl rfl ⟨Nat.le_refl _, Nat.le_refl _⟩ d_Mo_wordHere_84
            · refine aw_iconst d_Mo_wordHere_70 ki_5 ?_
              exact aw_iret rfl rfl ⟨Nat.le_refl _, Nat.le_refl _⟩ d_Mo_wordHere_71
          · refine aw_iconst d_Mo_wordHere_58 ki_4 ?_
            exact aw_iret rfl rfl ⟨Nat.le_refl _, Nat.le_refl _⟩ d_Mo_wordHere_59
        · refine aw_iconst d_Mo_wordHere_46 ki_3 ?_
          exact aw_iret rfl rfl ⟨Nat.le_refl _, Nat.le_refl _⟩ d_Mo_wordHere_47
      · refine aw_iconst d_Mo_wordHere_34 ki_2 ?_
        exact aw_iret rfl rfl ⟨Nat.le_refl _, Nat.le_refl _⟩ d_Mo_wordHere_35
    · refine aw_iconst d_Mo_wordHere_22 ki_1 ?_
      exact aw_iret rfl rfl ⟨Nat.le_refl _, Nat.le_refl _⟩ d_Mo_wordHere_23
  · refine aw_iconst d_Mo_wordHere_10 ki_0 ?_
    exact aw_iret rfl rfl ⟨Nat.le_refl _, Nat.le_refl _⟩ d_Mo_wordHere_11
def f_Mo_value (δ : Dm) : Option (Int32 × Dm) := ((f_Mo_see δ).bind (fun y1 => bnd y1.1 (fun v1 => bnd y1.2 (fun δ_1 => (bnd (gI δ_1 151 9) (fun v9 => ((f_Mo_isDigit (gI δ_1 151 9) δ_1).bind (fun y15 => (if y15 = 0 then ((f_Mo_wordHere δ_1).bind (fun y52 => bnd y52.1 (fun v52 => bnd y52.2 (fun δ_52 => (if 0 ≤ v52 then ((f_Mo_makes v9 δ_52).bind (fun y69 => bnd y69.1 (fun v69 => bnd y69.2 (fun δ_69 => (if v69 = 0 then (some ((0 : Int32), δ_69)) else ((f_Mo_passWord δ_69).bind (fun y78 => ((f_Mo_puts (1 : Int32) v52 y78).bind (fun y84 => (some ((1 : Int32), y84))))))))))) else ((f_Mo_fails (0 : Int32) v9 δ_52).bind (fun y63 => bnd y63.1 (fun v63 => bnd y63.2 (fun δ_63 => (if v63 = 0 ∨ v63 = 1 then (some (v63, δ_63)) else none)))))))))) else ((f_Mo_number (99999 : Int32) δ_1).bind (fun y24 => bnd y24.1 (fun v24 => bnd y24.2 (fun δ_24 => (if v24 = 0 then (some ((0 : Int32), δ_24)) else ((f_Mo_makes v9 δ_24).bind (fun y32 => bnd y32.1 (fun v32 => bnd y32.2 (fun δ_32 => (if v32 = 0 then (some ((0 : Int32), δ_32)) else ((f_Mo_puts (0 : Int32) (gI δ_32 151 11) δ_32).bind (fun y46 => (some ((1 : Int32), y46)))))))))))))))))))))))
set_option maxHeartbeats 4000000 in
set_option maxRecDepth 100000 in
theorem m_Mo_value {δ : Dm} {n : Nat} : ∀ x, f_Mo_value δ = some x → AMet k_Mo_value 4 0 0 [.ref 151] δ RT n (Km RT n x) := by
  refine aw_start (lo := [(0, .ref 151)]) mok_Mo_value rfl (Nat.le_of_ble_eq_true rfl) ?_
  unfold f_Mo_value
  refine aw_aload_n d_Mo_value_0 0 rfl ?_
  refine aw_V_m (As := []) (m_Mo_see) cv_Mo_93 kd_151 rfl rfl rfl (Nat.le_of_ble_eq_true rfl) ⟨Nat.le_of_ble_eq_true rfl, Nat.le_of_ble_eq_true rfl⟩ ⟨Nat.le_refl _, Nat.le_refl _⟩ d_Mo_value_1 (fun y1 => ?_)
  refine aw_bI (fun v1 => ?_)
  refine aw_bD (fun δ_1 => ?_)
  refine aw_pop d_Mo_value_4 rfl ?_
  refine aw_aload_n d_Mo_value_5 0 rfl ?_
  refine aw_getI fl_Mo_90 kd_151 d_Mo_value_6 ?_
  refine aw_bI (fun v9 => ?_)
  refine aw_istore_n (lo' := [(1, .int v9), (0, .ref 151)]) d_Mo_value_9 rfl (by decide) rfl ?_
  refine aw_aload_n d_Mo_value_10 1 rfl ?_
  refine aw_aload_n d_Mo_value_11 1 rfl ?_
  refine aw_getI fl_Mo_90 kd_151 d_Mo_value_12 ?_
  refine aw_V_p (As := [.int (gI δ_1 151 9)]) (m_Mo_isDigit) cv_Mo_107 kd_151 rfl rfl rfl (Nat.le_of_ble_eq_true rfl) ⟨Nat.le_of_ble_eq_true rfl, Nat.le_of_ble_eq_true rfl⟩ ⟨Nat.le_refl _, Nat.le_refl _⟩ d_Mo_value_15 (fun y15 => ?_)
  refine aw_if_eq (tgt := 51) d_Mo_value_18 rfl (fun q18 => ?_) (fun q18 => ?_)
  · refine aw_aload_n d_Mo_value_51 1 rfl ?_
    refine aw_V_m (As := []) (m_Mo_wordHere) cv_Mo_162 kd_151 rfl rfl rfl (Nat.le_of_ble_eq_true rfl) ⟨Nat.le_of_ble_eq_true rfl, Nat.le_of_ble_eq_true rfl⟩ ⟨Nat.le_refl _, Nat.le_refl _⟩ d_Mo_value_52 (fun y52 => ?_)
    refine aw_bI (fun v52 => ?_)
    refine aw_bD (fun δ_52 => ?_)
    refine aw_istore_n (lo' := [(2, .int v52), (1, .int v9), (0, .ref 151)]) d_Mo_value_55 rfl (by decide) rfl ?_
    refine aw_iload_n d_Mo_value_56 0 rfl ?_
    refine aw_if_ge (tgt := 67) d_Mo_value_57 rfl (fun q57 => ?_) (fun q57 => ?_)
    · refine aw_aload_n d_Mo_value_67 2 rfl ?_
      refine aw_iload_n d_Mo_value_68 1 rfl ?_
      refine aw_V_m (As := [.int v9]) (m_Mo_makes) cv_Mo_159 kd_151 rfl rfl rfl (Nat.le_of_ble_eq_true rfl) ⟨Nat.le_of_ble_eq_true rfl, Nat.le_of_ble_eq_true rfl⟩ ⟨Nat.le_refl _, Nat.le_refl _⟩ d_Mo_value_69 (fun y69 => ?_)
      refine aw_bI (fun v69 => ?_)
      refine aw_bD (fun δ_69 => ?_)
      refine aw_if_ne (tgt := 77) d_Mo_value_72 rfl (fun q72 => ?_) (fun q72 => ?_)
      · refine aw_iconst d_Mo_value_75 ki_0 ?_
        exact aw_zret rfl rfl rfl ⟨Nat.le_refl _, Nat.le_refl _⟩ d_Mo_value_76
      · refine aw_aload_n d_Mo_value_77 2 rfl ?_
        refine aw_V_v (As := []) (m_Mo_passWord) cv_Mo_104 kd_151 rfl rfl rfl (Nat.le_of_ble_eq_true rfl) ⟨Nat.le_of_ble_eq_true rfl, Nat.le_of_ble_eq_true rfl⟩ ⟨Nat.le_refl _, Nat.le_refl _⟩ d_Mo_value_78 (fun y78 => ?_)
        refine aw_aload_n d_Mo_value_81 2 rfl ?_
        refine aw_iconst d_Mo_value_82 ki_1 ?_
        refine aw_iload_n d_Mo_value_83 0 rfl ?_
        refine aw_V_v (As := [.int (1 : Int32), .int v52]) (m_Mo_puts) cv_Mo_151 kd_151 rfl rfl rfl (Nat.le_of_ble_eq_true rfl) ⟨Nat.le_of_ble_eq_true rfl, Nat.le_of_ble_eq_true rfl⟩ ⟨Nat.le_refl _, Nat.le_refl _⟩ d_Mo_value_84 (fun y84 => ?_)
        refine aw_iconst d_Mo_value_87 ki_1 ?_
        exact aw_zret rfl rfl rfl ⟨Nat.le_refl _, Nat.le_refl _⟩ d_Mo_value_88
    · refine aw_aload_n d_Mo_value_60 2 rfl ?_
      refine aw_iconst d_Mo_value_61 ki_0 ?_
      refine aw_iload_n d_Mo_value_62 1 rfl ?_
      refine aw_V_m (As := [.int (0 : Int32), .int v9]) (m_Mo_fails) cv_Mo_110 kd_151 rfl rfl rfl (Nat.le_of_ble_eq_true rfl) ⟨Nat.le_of_ble_eq_true rfl, Nat.le_of_ble_eq_true rfl⟩ ⟨Nat.le_refl _, Nat.le_refl _⟩ d_Mo_value_63 (fun y63 => ?_)
      refine aw_bI (fun v63 => ?_)
      refine aw_bD (fun δ_63 => ?_)
      exact aw_zr2 rfl rfl ⟨Nat.le_refl _, Nat.le_refl _⟩ d_Mo_value_66
  · refine aw_aload_n d_Mo_value_21 1 rfl ?_
    refine aw_ldc (v := (99999 : Int32)) d_Mo_value_22 kc_Mo_155 ?_
    refine aw_V_m (As := [.int (99999 : Int32)]) (m_Mo_number) cv_Mo_156 kd_151 rfl rfl rfl (Nat.le_of_ble_eq_true rfl) ⟨Nat.le_of_ble_eq_true rfl, Nat.le_of_ble_eq_true rfl⟩ ⟨Nat.le_refl _, Nat.le_refl _⟩ d_Mo_value_24 (fun y24 => ?_)
    refine aw_bI (fun v24 => ?_)
    refine aw_bD (fun δ_24 => ?_)
    refine aw_if_eq (tgt := 38) d_Mo_value_27 rfl (fun q27 => ?_) (fun q27 => ?_)
    · refine aw_iconst d_Mo_value_38 ki_0 ?_
      exact aw_zret rfl rfl rfl ⟨Nat.le_refl _, Nat.le_refl _⟩ d_Mo_value_39
    · refine aw_aload_n d_Mo_value_30 1 rfl ?_
      refine aw_iload_n d_Mo_value_31 0 rfl ?_
      refine aw_V_m (As := [.int v9]) (m_Mo_makes) cv_Mo_159 kd_151 rfl rfl rfl (Nat.le_of_ble_eq_true rfl) ⟨Nat.le_of_ble_eq_true rfl, Nat.le_of_ble_eq_true rfl⟩ ⟨Nat.le_refl _, Nat.le_refl _⟩ d_Mo_value_32 (fun y32 => ?_)
      refine aw_bI (fun v32 => ?_)
      refine aw_bD (fun δ_32 => ?_)
      refine aw_if_ne (tgt := 40) d_Mo_value_35 rfl (fun q35 => ?_) (fun q35 => ?_)
      · refine aw_iconst d_Mo_value_38 ki_0 ?_
        exact aw_zret rfl rfl rfl ⟨Nat.le_refl _, Nat.le_refl _⟩ d_Mo_value_39
      · refine aw_aload_n d_Mo_value_40 1 rfl ?_
        refine aw_iconst d_Mo_value_41 ki_0 ?_
        refine aw_aload_n d_Mo_value_42 1 rfl ?_
        refine aw_getI fl_Mo_114 kd_151 d_Mo_value_43 ?_
        refine aw_V_v (As := [.int (0 : Int32), .int (gI δ_32 151 11)]) (m_Mo_puts) cv_Mo_151 kd_151 rfl rfl rfl (Nat.le_of_ble_eq_true rfl) ⟨Nat.le_of_ble_eq_true rfl, Nat.le_of_ble_eq_true rfl⟩ ⟨Nat.le_refl _, Nat.le_refl _⟩ d_Mo_value_46 (fun y46 => ?_)
        refine aw_iconst d_Mo_value_49 ki_1 ?_
        exact aw_zret rfl rfl rfl ⟨Nat.le_refl _, Nat.le_refl _⟩ d_Mo_value_50
def jp_Mo_term_46 (kr9 : Dm → Option (Int32 × Dm)) (kx9_75 : Dm → Option (Int32 × Dm)) (δ27 : Dm) (s0_46 : Int32) : Option (Int32 × Dm) := (bnd (sI δ27 151 9 ((gI δ27 151 9) + (1 : Int32))) (fun δ_54 => ((f_Mo_value δ_54).bind (fun y58 => bnd y58.1 (fun v58 => bnd y58.2 (fun δ_58 => (if v58 = 0 then (some ((0 : Int32), δ_58)) else ((f_Mo_puts s0_46 (0 : Int32) δ_58).bind (fun y69 => (kr9 y69))))))))))
set_option maxHeartbeats 4000000 in
set_option maxRecDepth 100000 in
theorem tj_Mo_term_46 {n : Nat} (kr9 : Dm → Option (Int32 × Dm)) (kx9_75 : Dm → Option (Int32 × Dm)) (δ27 : Dm) (s0_46 : Int32) (hkr9 : ∀ δ9k, AWo k_Mo_term 5 0 0 9 [(0, .ref 151)] [] δ9k RT n 0 0 (Km RT n) (kr9 δ9k)) (hkx9_75 : ∀ δ9k, AWo k_Mo_term 5 0 0 75 [(0, .ref 151)] [] δ9k RT n 0 0 (Km RT n) (kx9_75 δ9k)) : AWo k_Mo_term 5 0 0 46 [(0, .ref 151)] [.int s0_46] δ27 RT n 0 0 (Km RT n) (jp_Mo_term_46 kr9 kx9_75 δ27 s0_46) := by
  unfold jp_Mo_term_46
  refine aw_istore_n (lo' := [(1, .int s0_46), (0, .ref 151)]) d_Mo_term_46 rfl (by decide) rfl ?_
  refine aw_aload_n d_Mo_term_47 1 rfl ?_
  refine aw_dup d_Mo_term_48 rfl ?_
  refine aw_getI fl_Mo_90 kd_151 d_Mo_term_49 ?_
  refine aw_iconst d_Mo_term_52 ki_1 ?_
  refine aw_iadd d_Mo_term_53 ?_
  refine aw_putI pf_Mo_90 kd_151 d_Mo_term_54 ?_
  refine aw_bD (fun δ_54 => ?_)
  refine aw_aload_n d_Mo_term_57 1 rfl ?_
  refine aw_V_m (As := []) (m_Mo_value) cv_Mo_165 kd_151 rfl rfl rfl (Nat.le_of_ble_eq_true rfl) ⟨Nat.le_of_ble_eq_true rfl, Nat.le_of_ble_eq_true rfl⟩ ⟨Nat.le_refl _, Nat.le_refl _⟩ d_Mo_term_58 (fun y58 => ?_)
  refine aw_bI (fun v58 => ?_)
  refine aw_bD (fun δ_58 => ?_)
  refine aw_if_ne (tgt := 66) d_Mo_term_61 rfl (fun q61 => ?_) (fun q61 => ?_)
  · refine aw_iconst d_Mo_term_64 ki_0 ?_
    exact aw_zret rfl rfl rfl ⟨Nat.le_refl _, Nat.le_refl _⟩ d_Mo_term_65
  · refine aw_aload_n d_Mo_term_66 1 rfl ?_
    refine aw_iload_n d_Mo_term_67 0 rfl ?_
    refine aw_iconst d_Mo_term_68 ki_0 ?_
    refine aw_V_v (As := [.int s0_46, .int (0 : Int32)]) (m_Mo_puts) cv_Mo_151 kd_151 rfl rfl rfl (Nat.le_of_ble_eq_true rfl) ⟨Nat.le_of_ble_eq_true rfl, Nat.le_of_ble_eq_true rfl⟩ ⟨Nat.le_refl _, Nat.le_refl _⟩ d_Mo_term_69 (fun y69 => ?_)
    refine aw_goto (tgt := 9) d_Mo_term_72 rfl ?_
    refine aw_sub (lo' := [(0, .ref 151)]) [1] rfl ?_
    exact hkr9 _
def jp_Mo_term_27 (kr9 : Dm → Option (Int32 × Dm)) (kx9_75 : Dm → Option (Int32 × Dm)) (δ27 : Dm) : Option (Int32 × Dm) := (if inb (gI δ27 151 9) 400 then (if (gI δ27 153 (ix (gI δ27 151 9))) = (42 : Int32) then (jp_Mo_term_46 kr9 kx9_75 δ27 (4 : Int32)) else (jp_Mo_term_46 kr9 kx9_75 δ27 (5 : Int32))) else none)
set_option maxHeartbeats 4000000 in
set_option maxRecDepth 100000 in
theorem tj_Mo_term_27 {n : Nat} (kr9 : Dm → Option (Int32 × Dm)) (kx9_75 : Dm → Option (Int32 × Dm)) (δ27 : Dm) (hkr9 : ∀ δ9k, AWo k_Mo_term 5 0 0 9 [(0, .ref 151)] [] δ9k RT n 0 0 (Km RT n) (kr9 δ9k)) (hkx9_75 : ∀ δ9k, AWo k_Mo_term 5 0 0 75 [(0, .ref 151)] [] δ9k RT n 0 0 (Km RT n) (kx9_75 δ9k)) : AWo k_Mo_term 5 0 0 27 [(0, .ref 151)] [] δ27 RT n 0 0 (Km RT n) (jp_Mo_term_27 kr9 kx9_75 δ27) := by
  unfold jp_Mo_term_27
  refine aw_aload_n d_Mo_term_27 0 rfl ?_
  refine aw_getR (t := 153) fl_Mo_13 kd_151 rt_151_1 d_Mo_term_28 ?_
  refine aw_aload_n d_Mo_term_31 0 rfl ?_
  refine aw_getI fl_Mo_90 kd_151 d_Mo_term_32 ?_
  refine aw_bald kd_153 d_Mo_term_35 ?_
  refine aw_bipush d_Mo_term_36 kb_42 ?_
  refine aw_icmp_ne (tgt := 45) d_Mo_term_38 rfl (fun q38 => ?_) (fun q38 => ?_)
  · refine aw_iconst d_Mo_term_41 ki_4 ?_
    refine aw_goto (tgt := 46) d_Mo_term_42 rfl ?_
    refine aw_sub (lo' := [(0, .ref 151)]) [0] rfl ?_
    exact tj_Mo_term_46 _ _ _ _ hkr9 hkx9_75
  · refine aw_iconst d_Mo_term_45 ki_5 ?_
    refine aw_sub (lo' := [(0, .ref 151)]) [0] rfl ?_
    exact tj_Mo_term_46 _ _ _ _ hkr9 hkx9_75
def lp_Mo_term_9 (kx9_75 : Dm → Option (Int32 × Dm)) : Nat → Dm → Option (Int32 × Dm)
  | 0, _ => none
  | f + 1, δ9 => ((f_Mo_see δ9).bind (fun y10 => bnd y10.1 (fun v10 => bnd y10.2 (fun δ_10 => (if v10 = (42 : Int32) then (jp_Mo_term_27 (lp_Mo_term_9 kx9_75 f) kx9_75 δ_10) else ((f_Mo_see δ_10).bind (fun y19 => bnd y19.1 (fun v19 => bnd y19.2 (fun δ_19 => (if v19 = (47 : Int32) then (jp_Mo_term_27 (lp_Mo_term_9 kx9_75 f) kx9_75 δ_19) else (kx9_75 δ_19)))))))))))
set_option maxHeartbeats 4000000 in
set_option maxRecDepth 100000 in
theorem tl_Mo_term_9 {n : Nat} (kx9_75 : Dm → Option (Int32 × Dm)) (hkx9_75 : ∀ δ9k, AWo k_Mo_term 5 0 0 75 [(0, .ref 151)] [] δ9k RT n 0 0 (Km RT n) (kx9_75 δ9k)) : ∀ (f : Nat) (δ9 : Dm), AWo k_Mo_term 5 0 0 9 [(0, .ref 151)] [] δ9 RT n 0 0 (Km RT n) (lp_Mo_term_9 kx9_75 f δ9) := by
  intro f
  induction f with
  | zero => intro _; exact aw_none
  | succ f ih =>
    intro δ9
    rw [lp_Mo_term_9]
    refine aw_aload_n d_Mo_term_9 0 rfl ?_
    refine aw_V_m (As := []) (m_Mo_see) cv_Mo_93 kd_151 rfl rfl rfl (Nat.le_of_ble_eq_true rfl) ⟨Nat.le_of_ble_eq_true rfl, Nat.le_of_ble_eq_true rfl⟩ ⟨Nat.le_refl _, Nat.le_refl _⟩ d_Mo_term_10 (fun y10 => ?_)
    refine aw_bI (fun v10 => ?_)
    refine aw_bD (fun δ_10 => ?_)
    refine aw_bipush d_Mo_term_13 kb_42 ?_
    refine aw_icmp_eq (tgt := 27) d_Mo_term_15 rfl (fun q15 => ?_) (fun q15 => ?_)
    · refine aw_sub (lo' := [(0, .ref 151)]) [0] rfl ?_
      exact tj_Mo_term_27 _ _ _ ih hkx9_75
    · refine aw_aload_n d_Mo_term_18 0 rfl ?_
      refine aw_V_m (As := []) (m_Mo_see) cv_Mo_93 kd_151 rfl rfl rfl (Nat.le_of_ble_eq_true rfl) ⟨Nat.le_of_ble_eq_true rfl, Nat.le_of_ble_eq_true rfl⟩ ⟨Nat.le_refl _, Nat.le_refl _⟩ d_Mo_term_19 (fun y19 => ?_)
      refine aw_bI (fun v19 => ?_)
      refine aw_bD (fun δ_19 => ?_)
      refine aw_bipush d_Mo_term_22 kb_47 ?_
      refine aw_icmp_ne (tgt := 75) d_Mo_term_24 rfl (fun q24 => ?_) (fun q24 => ?_)
      · refine aw_sub (lo' := [(0, .ref 151)]) [0] rfl ?_
        exact tj_Mo_term_27 _ _ _ ih hkx9_75
      · refine aw_sub (lo' := [(0, .ref 151)]) [0] rfl ?_
        exact hkx9_75 _
def f_Mo_term (δ : Dm) : Option (Int32 × Dm) := ((f_Mo_value δ).bind (fun y1 => bnd y1.1 (fun v1 => bnd y1.2 (fun δ_1 => (if v1 = 0 then (some ((0 : Int32), δ_1)) else (lp_Mo_term_9 (fun δ9x => (some ((1 : Int32), δ9x))) FU δ_1))))))
set_option maxHeartbeats 4000000 in
set_option maxRecDepth 100000 in
theorem m_Mo_term {δ : Dm} {n : Nat} : ∀ x, f_Mo_term δ = some x → AMet k_Mo_term 5 0 0 [.ref 151] δ RT n (Km RT n x) := by
  refine aw_start (lo := [(0, .ref 151)]) mok_Mo_term rfl (Nat.le_of_ble_eq_true rfl) ?_
  unfold f_Mo_term
  refine aw_aload_n d_Mo_term_0 0 rfl ?_
  refine aw_V_m (As := []) (m_Mo_value) cv_Mo_165 kd_151 rfl rfl rfl (Nat.le_of_ble_eq_true rfl) ⟨Nat.le_of_ble_eq_true rfl, Nat.le_of_ble_eq_true rfl⟩ ⟨Nat.le_refl _, Nat.le_refl _⟩ d_Mo_term_1 (fun y1 => ?_)
  refine aw_bI (fun v1 => ?_)
  refine aw_bD (fun δ_1 => ?_)
  refine aw_if_ne (tgt := 9) d_Mo_term_4 rfl (fun q4 => ?_) (fun q4 => ?_)
  · refine aw_iconst d_Mo_term_7 ki_0 ?_
    exact aw_zret rfl rfl rfl ⟨Nat.le_refl _, Nat.le_refl _⟩ d_Mo_term_8
  · refine aw_sub (lo' := [(0, .ref 151)]) [0] rfl ?_
    refine tl_Mo_term_9 _ (fun δ9x => ?_) FU _
    · refine aw_iconst d_Mo_term_75 ki_1 ?_
      exact aw_zret rfl rfl rfl ⟨Nat.le_refl _, Nat.le_refl _⟩ d_Mo_term_76
def jp_Mo_sum_46 (kr9 : Dm → Option (Int32 × Dm)) (kx9_75 : Dm → Option (Int32 × Dm)) (δ27 : Dm) (s0_46 : Int32) : Option (Int32 × Dm) := (bnd (sI δ27 151 9 ((gI δ27 151 9) + (1 : Int32))) (fun δ_54 => ((f_Mo_term δ_54).bind (fun y58 => bnd y58.1 (fun v58 => bnd y58.2 (fun δ_58 => (if v58 = 0 then (some ((0 : Int32), δ_58)) else ((f_Mo_puts s0_46 (0 : Int32) δ_58).bind (fun y69 => (kr9 y69))))))))))
set_option maxHeartbeats 4000000 in
set_option maxRecDepth 100000 in
theorem tj_Mo_sum_46 {n : Nat} (kr9 : Dm → Option (Int32 × Dm)) (kx9_75 : Dm → Option (Int32 × Dm)) (δ27 : Dm) (s0_46 : Int32) (hkr9 : ∀ δ9k, AWo k_Mo_sum 6 0 0 9 [(0, .ref 151)] [] δ9k RT n 0 0 (Km RT n) (kr9 δ9k)) (hkx9_75 : ∀ δ9k, AWo k_Mo_sum 6 0 0 75 [(0, .ref 151)] [] δ9k RT n 0 0 (Km RT n) (kx9_75 δ9k)) : AWo k_Mo_sum 6 0 0 46 [(0, .ref 151)] [.int s0_46] δ27 RT n 0 0 (Km RT n) (jp_Mo_sum_46 kr9 kx9_75 δ27 s0_46) := by
  unfold jp_Mo_sum_46
  refine aw_istore_n (lo' := [(1, .int s0_46), (0, .ref 151)]) d_Mo_sum_46 rfl (by decide) rfl ?_
  refine aw_aload_n d_Mo_sum_47 1 rfl ?_
  refine aw_dup d_Mo_sum_48 rfl ?_
  refine aw_getI fl_Mo_90 kd_151 d_Mo_sum_49 ?_
  refine aw_iconst d_Mo_sum_52 ki_1 ?_
  refine aw_iadd d_Mo_sum_53 ?_
  refine aw_putI pf_Mo_90 kd_151 d_Mo_sum_54 ?_
  refine aw_bD (fun δ_54 => ?_)
  refine aw_aload_n d_Mo_sum_57 1 rfl ?_
  refine aw_V_m (As := []) (m_Mo_term) cv_Mo_169 kd_151 rfl rfl rfl (Nat.le_of_ble_eq_true rfl) ⟨Nat.le_of_ble_eq_true rfl, Nat.le_of_ble_eq_true rfl⟩ ⟨Nat.le_refl _, Nat.le_refl _⟩ d_Mo_sum_58 (fun y58 => ?_)
  refine aw_bI (fun v58 => ?_)
  refine aw_bD (fun δ_58 => ?_)
  refine aw_if_ne (tgt := 66) d_Mo_sum_61 rfl (fun q61 => ?_) (fun q61 => ?_)
  · refine aw_iconst d_Mo_sum_64 ki_0 ?_
    exact aw_zret rfl rfl rfl ⟨Nat.le_refl _, Nat.le_refl _⟩ d_Mo_sum_65
  · refine aw_aload_n d_Mo_sum_66 1 rfl ?_
    refine aw_iload_n d_Mo_sum_67 0 rfl ?_
    refine aw_iconst d_Mo_sum_68 ki_0 ?_
    refine aw_V_v (As := [.int s0_46, .int (0 : Int32)]) (m_Mo_puts) cv_Mo_151 kd_151 rfl rfl rfl (Nat.le_of_ble_eq_true rfl) ⟨Nat.le_of_ble_eq_true rfl, Nat.le_of_ble_eq_true rfl⟩ ⟨Nat.le_refl _, Nat.le_refl _⟩ d_Mo_sum_69 (fun y69 => ?_)
    refine aw_goto (tgt := 9) d_Mo_sum_72 rfl ?_
    refine aw_sub (lo' := [(0, .ref 151)]) [1] rfl ?_
    exact hkr9 _
def jp_Mo_sum_27 (kr9 : Dm → Option (Int32 × Dm)) (kx9_75 : Dm → Option (Int32 × Dm)) (δ27 : Dm) : Option (Int32 × Dm) := (if inb (gI δ27 151 9) 400 then (if (gI δ27 153 (ix (gI δ27 151 9))) = (43 : Int32) then (jp_Mo_sum_46 kr9 kx9_75 δ27 (2 : Int32)) else (jp_Mo_sum_46 kr9 kx9_75 δ27 (3 : Int32))) else none)
set_option maxHeartbeats 4000000 in
set_option maxRecDepth 100000 in
theorem tj_Mo_sum_27 {n : Nat} (kr9 : Dm → Option (Int32 × Dm)) (kx9_75 : Dm → Option (Int32 × Dm)) (δ27 : Dm) (hkr9 : ∀ δ9k, AWo k_Mo_sum 6 0 0 9 [(0, .ref 151)] [] δ9k RT n 0 0 (Km RT n) (kr9 δ9k)) (hkx9_75 : ∀ δ9k, AWo k_Mo_sum 6 0 0 75 [(0, .ref 151)] [] δ9k RT n 0 0 (Km RT n) (kx9_75 δ9k)) : AWo k_Mo_sum 6 0 0 27 [(0, .ref 151)] [] δ27 RT n 0 0 (Km RT n) (jp_Mo_sum_27 kr9 kx9_75 δ27) := by
  unfold jp_Mo_sum_27
  refine aw_aload_n d_Mo_sum_27 0 rfl ?_
  refine aw_getR (t := 153) fl_Mo_13 kd_151 rt_151_1 d_Mo_sum_28 ?_
  refine aw_aload_n d_Mo_sum_31 0 rfl ?_
  refine aw_getI fl_Mo_90 kd_151 d_Mo_sum_32 ?_
  refine aw_bald kd_153 d_Mo_sum_35 ?_
  refine aw_bipush d_Mo_sum_36 kb_43 ?_
  refine aw_icmp_ne (tgt := 45) d_Mo_sum_38 rfl (fun q38 => ?_) (fun q38 => ?_)
  · refine aw_iconst d_Mo_sum_41 ki_2 ?_
    refine aw_goto (tgt := 46) d_Mo_sum_42 rfl ?_
    refine aw_sub (lo' := [(0, .ref 151)]) [0] rfl ?_
    exact tj_Mo_sum_46 _ _ _ _ hkr9 hkx9_75
  · refine aw_iconst d_Mo_sum_45 ki_3 ?_
    refine aw_sub (lo' := [(0, .ref 151)]) [0] rfl ?_
    exact tj_Mo_sum_46 _ _ _ _ hkr9 hkx9_75
def lp_Mo_sum_9 (kx9_75 : Dm → Option (Int32 × Dm)) : Nat → Dm → Option (Int32 × Dm)
  | 0, _ => none
  | f + 1, δ9 => ((f_Mo_see δ9).bind (fun y10 => bnd y10.1 (fun v10 => bnd y10.2 (fun δ_10 => (if v10 = (43 : Int32) then (jp_Mo_sum_27 (lp_Mo_sum_9 kx9_75 f) kx9_75 δ_10) else ((f_Mo_see δ_10).bind (fun y19 => bnd y19.1 (fun v19 => bnd y19.2 (fun δ_19 => (if v19 = (45 : Int32) then (jp_Mo_sum_27 (lp_Mo_sum_9 kx9_75 f) kx9_75 δ_19) else (kx9_75 δ_19)))))))))))
set_option maxHeartbeats 4000000 in
set_option maxRecDepth 100000 in
theorem tl_Mo_sum_9 {n : Nat} (kx9_75 : Dm → Option (Int32 × Dm)) (hkx9_75 : ∀ δ9k, AWo k_Mo_sum 6 0 0 75 [(0, .ref 151)] [] δ9k RT n 0 0 (Km RT n) (kx9_75 δ9k)) : ∀ (f : Nat) (δ9 : Dm), AWo k_Mo_sum 6 0 0 9 [(0, .ref 151)] [] δ9 RT n 0 0 (Km RT n) (lp_Mo_sum_9 kx9_75 f δ9) := by
  intro f
  induction f with
  | zero => intro _; exact aw_none
  | succ f ih =>
    intro δ9
    rw [lp_Mo_sum_9]
    refine aw_aload_n d_Mo_sum_9 0 rfl ?_
    refine aw_V_m (As := []) (m_Mo_see) cv_Mo_93 kd_151 rfl rfl rfl (Nat.le_of_ble_eq_true rfl) ⟨Nat.le_of_ble_eq_true rfl, Nat.le_of_ble_eq_true rfl⟩ ⟨Nat.le_refl _, Nat.le_refl _⟩ d_Mo_sum_10 (fun y10 => ?_)
    refine aw_bI (fun v10 => ?_)
    refine aw_bD (fun δ_10 => ?_)
    refine aw_bipush d_Mo_sum_13 kb_43 ?_
    refine aw_icmp_eq (tgt := 27) d_Mo_sum_15 rfl (fun q15 => ?_) (fun q15 => ?_)
    · refine aw_sub (lo' := [(0, .ref 151)]) [0] rfl ?_
      exact tj_Mo_sum_27 _ _ _ ih hkx9_75
    · refine aw_aload_n d_Mo_sum_18 0 rfl ?_
      refine aw_V_m (As := []) (m_Mo_see) cv_Mo_93 kd_151 rfl rfl rfl (Nat.le_of_ble_eq_true rfl) ⟨Nat.le_of_ble_eq_true rfl, Nat.le_of_ble_eq_true rfl⟩ ⟨Nat.le_refl _, Nat.le_refl _⟩ d_Mo_sum_19 (fun y19 => ?_)
      refine aw_bI (fun v19 => ?_)
      refine aw_bD (fun δ_19 => ?_)
      refine aw_bipush d_Mo_sum_22 kb_45 ?_
      refine aw_icmp_ne (tgt := 75) d_Mo_sum_24 rfl (fun q24 => ?_) (fun q24 => ?_)
      · refine aw_sub (lo' := [(0, .ref 151)]) [0] rfl ?_
        exact tj_Mo_sum_27 _ _ _ ih hkx9_75
      · refine aw_sub (lo' := [(0, .ref 151)]) [0] rfl ?_
        exact hkx9_75 _
def f_Mo_sum (δ : Dm) : Option (Int32 × Dm) := ((f_Mo_term δ).bind (fun y1 => bnd y1.1 (fun v1 => bnd y1.2 (fun δ_1 => (if v1 = 0 then (some ((0 : Int32), δ_1)) else (lp_Mo_sum_9 (fun δ9x => (some ((1 : Int32), δ9x))) FU δ_1))))))
set_option maxHeartbeats 4000000 in
set_option maxRecDepth 100000 in
theorem m_Mo_sum {δ : Dm} {n : Nat} : ∀ x, f_Mo_sum δ = some x → AMet k_Mo_sum 6 0 0 [.ref 151] δ RT n (Km RT n x) := by
  refine aw_start (lo := [(0, .ref 151)]) mok_Mo_sum rfl (Nat.le_of_ble_eq_true rfl) ?_
  unfold f_Mo_sum
  refine aw_aload_n d_Mo_sum_0 0 rfl ?_
  refine aw_V_m (As := []) (m_Mo_term) cv_Mo_169 kd_151 rfl rfl rfl (Nat.le_of_ble_eq_true rfl) ⟨Nat.le_of_ble_eq_true rfl, Nat.le_of_ble_eq_true rfl⟩ ⟨Nat.le_refl _, Nat.le_refl _⟩ d_Mo_sum_1 (fun y1 => ?_)
  refine aw_bI (fun v1 => ?_)
  refine aw_bD (fun δ_1 => ?_)
  refine aw_if_ne (tgt := 9) d_Mo_sum_4 rfl (fun q4 => ?_) (fun q4 => ?_)
  · refine aw_iconst d_Mo_sum_7 ki_0 ?_
    exact aw_zret rfl rfl rfl ⟨Nat.le_refl _, Nat.le_refl _⟩ d_Mo_sum_8
  · refine aw_sub (lo' := [(0, .ref 151)]) [0] rfl ?_
    refine tl_Mo_sum_9 _ (fun δ9x => ?_) FU _
    · refine aw_iconst d_Mo_sum_75 ki_1 ?_
      exact aw_zret rfl rfl rfl ⟨Nat.le_refl _, Nat.le_refl _⟩ d_Mo_sum_76
def f_Mo_takesWord (a1 : Int64) (δ : Dm) : Option (Int32 × Dm) := ((f_Mo_isWord a1 δ).bind (fun y2 => bnd y2.1 (fun v2 => bnd y2.2 (fun δ_2 => (if v2 = 0 then (some ((0 : Int32), δ_2)) else ((f_Mo_passWord δ_2).bind (fun y11 => (some ((1 : Int32), y11)))))))))
set_option maxHeartbeats 4000000 in
set_option maxRecDepth 100000 in
theorem m_Mo_takesWord {a1 : Int64} {δ : Dm} {n : Nat} : ∀ x, f_Mo_takesWord a1 δ = some x → AMet k_Mo_takesWord 3 0 0 [.ref 151, .long a1] δ RT n (Km RT n x) := by
  refine aw_start (lo := [(0, .ref 151), (1, .long a1)]) mok_Mo_takesWord rfl (Nat.le_of_ble_eq_true rfl) ?_
  unfold f_Mo_takesWord
  refine aw_aload_n d_Mo_takesWord_0 0 rfl ?_
  refine aw_lload_n d_Mo_takesWord_1 1 rfl ?_
  refine aw_V_m (As := [.long a1]) (m_Mo_isWord) cv_Mo_100 kd_151 rfl rfl rfl (Nat.le_of_ble_eq_true rfl) ⟨Nat.le_of_ble_eq_true rfl, Nat.le_of_ble_eq_true rfl⟩ ⟨Nat.le_refl _, Nat.le_refl _⟩ d_Mo_takesWord_2 (fun y2 => ?_)
  refine aw_bI (fun v2 => ?_)
  refine aw_bD (fun δ_2 => ?_)
  refine aw_if_ne (tgt := 10) d_Mo_takesWord_5 rfl (fun q5 => ?_) (fun q5 => ?_)
  · refine aw_iconst d_Mo_takesWord_8 ki_0 ?_
    exact aw_zret rfl rfl rfl ⟨Nat.le_refl _, Nat.le_refl _⟩ d_Mo_takesWord_9
  · refine aw_aload_n d_Mo_takesWord_10 0 rfl ?_
    refine aw_V_v (As := []) (m_Mo_passWord) cv_Mo_104 kd_151 rfl rfl rfl (Nat.le_of_ble_eq_true rfl) ⟨Nat.le_of_ble_eq_true rfl, Nat.le_of_ble_eq_true rfl⟩ ⟨Nat.le_refl _, Nat.le_refl _⟩ d_Mo_takesWord_11 (fun y11 => ?_)
    refine aw_iconst d_Mo_takesWord_14 ki_1 ?_
    exact aw_zret rfl rfl rfl ⟨Nat.le_refl _, Nat.le_refl _⟩ d_Mo_takesWord_15
def f_Mo_opens (a1 : Int32) (δ : Dm) : Option (Int32 × Dm) := (if (gI δ 151 14) = (10 : Int32) then ((f_Mo_fails (2 : Int32) (gI δ 151 9) δ).bind (fun y15 => bnd y15.1 (fun v15 => bnd y15.2 (fun δ_15 => (if v15 = 0 ∨ v15 = 1 then (some (v15, δ_15)) else none))))) else (bnd (sI δ 151 14 ((gI δ 151 14) + (1 : Int32))) (fun δ_26 => (if inb (gI δ_26 151 17) 400 then bnd (sI δ_26 159 (ix (gI δ_26 151 17)) a1) (fun δ_38 => (bnd (sI δ_38 151 17 ((gI δ_38 151 17) + (1 : Int32))) (fun δ_46 => (some ((1 : Int32), δ_46))))) else none))))
set_option maxHeartbeats 4000000 in
set_option maxRecDepth 100000 in
theorem m_Mo_opens {a1 : Int32} {δ : Dm} {n : Nat} : ∀ x, f_Mo_opens a1 δ = some x → AMet k_Mo_opens 2 0 0 [.ref 151, .int a1] δ RT n (Km RT n x) := by
  refine aw_start (lo := [(0, .ref 151), (1, .int a1)]) mok_Mo_opens rfl (Nat.le_of_ble_eq_true rfl) ?_
  unfold f_Mo_opens
  refine aw_aload_n d_Mo_opens_0 0 rfl ?_
  refine aw_getI fl_Mo_141 kd_151 d_Mo_opens_1 ?_
  refine aw_bipush d_Mo_opens_4 kb_10 ?_
  refine aw_icmp_ne (tgt := 19) d_Mo_opens_6 rfl (fun q6 => ?_) (fun q6 => ?_)
  · refine aw_aload_n d_Mo_opens_9 0 rfl ?_
    refine aw_iconst d_Mo_opens_10 ki_2 ?_
    refine aw_aload_n d_Mo_opens_11 0 rfl ?_
    refine aw_getI fl_Mo_90 kd_151 d_Mo_opens_12 ?_
    refine aw_V_m (As := [.int (2 : Int32), .int (gI δ 151 9)]) (m_Mo_fails) cv_Mo_110 kd_151 rfl rfl rfl (Nat.le_of_ble_eq_true rfl) ⟨Nat.le_of_ble_eq_true rfl, Nat.le_of_ble_eq_true rfl⟩ ⟨Nat.le_refl _, Nat.le_refl _⟩ d_Mo_opens_15 (fun y15 => ?_)
    refine aw_bI (fun v15 => ?_)
    refine aw_bD (fun δ_15 => ?_)
    exact aw_zr2 rfl rfl ⟨Nat.le_refl _, Nat.le_refl _⟩ d_Mo_opens_18
  · refine aw_aload_n d_Mo_opens_19 0 rfl ?_
    refine aw_dup d_Mo_opens_20 rfl ?_
    refine aw_getI fl_Mo_141 kd_151 d_Mo_opens_21 ?_
    refine aw_iconst d_Mo_opens_24 ki_1 ?_
    refine aw_iadd d_Mo_opens_25 ?_
    refine aw_putI pf_Mo_141 kd_151 d_Mo_opens_26 ?_
    refine aw_bD (fun δ_26 => ?_)
    refine aw_aload_n d_Mo_opens_29 0 rfl ?_
    refine aw_getR (t := 159) fl_Mo_32 kd_151 rt_151_16 d_Mo_opens_30 ?_
    refine aw_aload_n d_Mo_opens_33 0 rfl ?_
    refine aw_getI fl_Mo_144 kd_151 d_Mo_opens_34 ?_
    refine aw_iload_n d_Mo_opens_37 1 rfl ?_
    refine aw_iast kd_159 d_Mo_opens_38 ?_
    refine aw_bD (fun δ_38 => ?_)
    refine aw_aload_n d_Mo_opens_39 0 rfl ?_
    refine aw_dup d_Mo_opens_40 rfl ?_
    refine aw_getI fl_Mo_144 kd_151 d_Mo_opens_41 ?_
    refine aw_iconst d_Mo_opens_44 ki_1 ?_
    refine aw_iadd d_Mo_opens_45 ?_
    refine aw_putI pf_Mo_144 kd_151 d_Mo_opens_46 ?_
    refine aw_bD (fun δ_46 => ?_)
    refine aw_iconst d_Mo_opens_49 ki_1 ?_
    exact aw_zret rfl rfl rfl ⟨Nat.le_refl _, Nat.le_refl _⟩ d_Mo_opens_50
