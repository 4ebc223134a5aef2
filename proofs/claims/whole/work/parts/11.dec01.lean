def jp_Re_readClause_125 (a1 : Int32) (v4 : Int32) (δ125 : Dm) : Option Dm := (ocs (dR (gI δ125 7 8)) none (fun t126 => if isL t126 = true then ((f_La_endClause t126 δ125).bind (fun y129 => (some y129))) else none))
set_option maxHeartbeats 4000000 in
set_option maxRecDepth 100000 in
theorem tj_Re_readClause_125 {n : Nat} (a1 : Int32) (v4 : Int32) (δ125 : Dm) : AWo k_Re_readClause 38 0 0 125 [(0, .ref 7), (1, .int a1), (2, .int v4)] [] δ125 RT n 0 0 (Kv RT n) (jp_Re_readClause_125 a1 v4 δ125) := by
  unfold jp_Re_readClause_125
  refine aw_aload_n d_Re_readClause_125 0 rfl ?_
  refine aw_getD fl_Re_24 kd_7 d_Re_readClause_126 aw_none (fun t126 => ?_)
  refine aw_grd (fun ht126 => ?_)
  refine aw_V_v (As := []) (m_La_endClause ht126) cv_Re_141 (fx_isLK ht126 0 (by decide)) rfl rfl rfl (Nat.le_of_ble_eq_true rfl) ⟨Nat.le_of_ble_eq_true rfl, Nat.le_of_ble_eq_true rfl⟩ ⟨Nat.le_refl _, Nat.le_refl _⟩ d_Re_readClause_129 (fun y129 => ?_)
  exact aw_vret rfl rfl ⟨Nat.le_refl _, Nat.le_refl _⟩ d_Re_readClause_132
def jp_Re_readClause_88 (a1 : Int32) (v4 : Int32) (δ57 : Dm) : Option Dm := ((f_Re_readSum δ57).bind (fun y89 => (ocs (dR (gI y89 7 8)) none (fun t93 => if isL t93 = true then ((f_La_endSum t93 y89).bind (fun y96 => (if (gI y96 7 5) = (17 : Int32) then ((f_Re_step y96).bind (fun y109 => ((f_Re_readTest (f_Re_readFact 12) (0 : Int32) y109).bind (fun y114 => (jp_Re_readClause_125 a1 v4 y114))))) else (jp_Re_readClause_125 a1 v4 y96)))) else none))))
set_option maxHeartbeats 4000000 in
set_option maxRecDepth 100000 in
theorem tj_Re_readClause_88 {n : Nat} (a1 : Int32) (v4 : Int32) (δ57 : Dm) : AWo k_Re_readClause 38 0 0 88 [(0, .ref 7), (1, .int a1), (2, .int v4)] [] δ57 RT n 0 0 (Kv RT n) (jp_Re_readClause_88 a1 v4 δ57) := by
  unfold jp_Re_readClause_88
  refine aw_aload_n d_Re_readClause_88 0 rfl ?_
  refine aw_V_v (As := []) (m_Re_readSum) cv_Re_132 kd_7 rfl rfl rfl (Nat.le_of_ble_eq_true rfl) ⟨Nat.le_of_ble_eq_true rfl, Nat.le_of_ble_eq_true rfl⟩ ⟨Nat.le_refl _, Nat.le_refl _⟩ d_Re_readClause_89 (fun y89 => ?_)
  refine aw_aload_n d_Re_readClause_92 0 rfl ?_
  refine aw_getD fl_Re_24 kd_7 d_Re_readClause_93 aw_none (fun t93 => ?_)
  refine aw_grd (fun ht93 => ?_)
  refine aw_V_v (As := []) (m_La_endSum ht93) cv_Re_135 (fx_isLK ht93 0 (by decide)) rfl rfl rfl (Nat.le_of_ble_eq_true rfl) ⟨Nat.le_of_ble_eq_true rfl, Nat.le_of_ble_eq_true rfl⟩ ⟨Nat.le_refl _, Nat.le_refl _⟩ d_Re_readClause_96 (fun y96 => ?_)
  refine aw_aload_n d_Re_readClause_99 0 rfl ?_
  refine aw_getI fl_Re_52 kd_7 d_Re_readClause_100 ?_
  refine aw_bipush d_Re_readClause_103 kb_17 ?_
  refine aw_icmp_ne (tgt := 125) d_Re_readClause_105 rfl (fun q105 => ?_) (fun q105 => ?_)
  · refine aw_aload_n d_Re_readClause_108 0 rfl ?_
    refine aw_V_v (As := []) (m_Re_step) cv_Re_45 kd_7 rfl rfl rfl (Nat.le_of_ble_eq_true rfl) ⟨Nat.le_of_ble_eq_true rfl, Nat.le_of_ble_eq_true rfl⟩ ⟨Nat.le_refl _, Nat.le_refl _⟩ d_Re_readClause_109 (fun y109 => ?_)
    refine aw_aload_n d_Re_readClause_112 0 rfl ?_
    refine aw_iconst d_Re_readClause_113 ki_0 ?_
    refine aw_V_v (As := [.int (0 : Int32)]) (m_Re_readTest (dF := 36) (by decide) (f_Re_readFact 12) (m_Re_readFact 12)) cv_Re_138 kd_7 rfl rfl rfl (Nat.le_of_ble_eq_true rfl) ⟨Nat.le_of_ble_eq_true rfl, Nat.le_of_ble_eq_true rfl⟩ ⟨Nat.le_refl _, Nat.le_refl _⟩ d_Re_readClause_114 (fun y114 => ?_)
    refine aw_goto (tgt := 125) d_Re_readClause_117 rfl ?_
    refine aw_sub (lo' := [(0, .ref 7), (1, .int a1), (2, .int v4)]) [0, 1, 2] rfl ?_
    exact tj_Re_readClause_125 _ _ _
  · refine aw_sub (lo' := [(0, .ref 7), (1, .int a1), (2, .int v4)]) [0, 1, 2] rfl ?_
    exact tj_Re_readClause_125 _ _ _
def jp_Re_readClause_57 (a1 : Int32) (v4 : Int32) (δ57 : Dm) : Option Dm := (if v4 = (11 : Int32) then ((f_Re_readWeak δ57).bind (fun y64 => (jp_Re_readClause_125 a1 v4 y64))) else (if v4 = (9 : Int32) then (jp_Re_readClause_88 a1 v4 δ57) else (if v4 = (10 : Int32) then (jp_Re_readClause_88 a1 v4 δ57) else (if v4 = (16 : Int32) then (jp_Re_readClause_88 a1 v4 δ57) else ((f_Re_readTest (f_Re_readFact 12) (0 : Int32) δ57).bind (fun y122 => (jp_Re_readClause_125 a1 v4 y122)))))))
set_option maxHeartbeats 4000000 in
set_option maxRecDepth 100000 in
theorem tj_Re_readClause_57 {n : Nat} (a1 : Int32) (v4 : Int32) (δ57 : Dm) : AWo k_Re_readClause 38 0 0 57 [(0, .ref 7), (1, .int a1), (2, .int v4)] [] δ57 RT n 0 0 (Kv RT n) (jp_Re_readClause_57 a1 v4 δ57) := by
  unfold jp_Re_readClause_57
  refine aw_iload_n d_Re_readClause_57 2 rfl ?_
  refine aw_bipush d_Re_readClause_58 kb_11 ?_
  refine aw_icmp_ne (tgt := 70) d_Re_readClause_60 rfl (fun q60 => ?_) (fun q60 => ?_)
  · refine aw_aload_n d_Re_readClause_63 0 rfl ?_
    refine aw_V_v (As := []) (m_Re_readWeak) cv_Re_129 kd_7 rfl rfl rfl (Nat.le_of_ble_eq_true rfl) ⟨Nat.le_of_ble_eq_true rfl, Nat.le_of_ble_eq_true rfl⟩ ⟨Nat.le_refl _, Nat.le_refl _⟩ d_Re_readClause_64 (fun y64 => ?_)
    refine aw_goto (tgt := 125) d_Re_readClause_67 rfl ?_
    refine aw_sub (lo' := [(0, .ref 7), (1, .int a1), (2, .int v4)]) [0, 1, 2] rfl ?_
    exact tj_Re_readClause_125 _ _ _
  · refine aw_iload_n d_Re_readClause_70 2 rfl ?_
    refine aw_bipush d_Re_readClause_71 kb_9 ?_
    refine aw_icmp_eq (tgt := 88) d_Re_readClause_73 rfl (fun q73 => ?_) (fun q73 => ?_)
    · refine aw_sub (lo' := [(0, .ref 7), (1, .int a1), (2, .int v4)]) [0, 1, 2] rfl ?_
      exact tj_Re_readClause_88 _ _ _
    · refine aw_iload_n d_Re_readClause_76 2 rfl ?_
      refine aw_bipush d_Re_readClause_77 kb_10 ?_
      refine aw_icmp_eq (tgt := 88) d_Re_readClause_79 rfl (fun q79 => ?_) (fun q79 => ?_)
      · refine aw_sub (lo' := [(0, .ref 7), (1, .int a1), (2, .int v4)]) [0, 1, 2] rfl ?_
        exact tj_Re_readClause_88 _ _ _
      · refine aw_iload_n d_Re_readClause_82 2 rfl ?_
        refine aw_bipush d_Re_readClause_83 kb_16 ?_
        refine aw_icmp_ne (tgt := 120) d_Re_readClause_85 rfl (fun q85 => ?_) (fun q85 => ?_)
        · refine aw_sub (lo' := [(0, .ref 7), (1, .int a1), (2, .int v4)]) [0, 1, 2] rfl ?_
          exact tj_Re_readClause_88 _ _ _
        · refine aw_aload_n d_Re_readClause_120 0 rfl ?_
          refine aw_iconst d_Re_readClause_121 ki_0 ?_
          refine aw_V_v (As := [.int (0 : Int32)]) (m_Re_readTest (dF := 36) (by decide) (f_Re_readFact 12) (m_Re_readFact 12)) cv_Re_138 kd_7 rfl rfl rfl (Nat.le_of_ble_eq_true rfl) ⟨Nat.le_of_ble_eq_true rfl, Nat.le_of_ble_eq_true rfl⟩ ⟨Nat.le_refl _, Nat.le_refl _⟩ d_Re_readClause_122 (fun y122 => ?_)
          refine aw_sub (lo' := [(0, .ref 7), (1, .int a1), (2, .int v4)]) [0, 1, 2] rfl ?_
          exact tj_Re_readClause_125 _ _ _
def f_Re_readClause (a1 : Int32) (δ : Dm) : Option Dm := (bnd (gI δ 7 5) (fun v4 => ((f_Fp_within v4 (9 : Int32) (16 : Int32) δ).bind (fun y10 => (if y10 = 0 then ((f_Re_fail (0 : Int32) δ).bind (fun y18 => (some y18))) else (if a1 < (14 : Int32) then ((f_Re_step δ).bind (fun y35 => (ocs (dR (gI y35 7 8)) none (fun t39 => if isL t39 = true then ((f_La_beginClause t39 v4 y35).bind (fun y43 => (if (11 : Int32) < v4 then (jp_Re_readClause_57 a1 v4 y43) else ((f_Re_readBath v4 y43).bind (fun y54 => (jp_Re_readClause_57 a1 v4 y54)))))) else none)))) else ((f_Re_fail (4 : Int32) δ).bind (fun y30 => (some y30)))))))))
set_option maxHeartbeats 4000000 in
set_option maxRecDepth 100000 in
theorem m_Re_readClause {a1 : Int32} {δ : Dm} {n : Nat} : ∀ x, f_Re_readClause a1 δ = some x → AMet k_Re_readClause 38 0 0 [.ref 7, .int a1] δ RT n (Kv RT n x) := by
  refine aw_start (lo := [(0, .ref 7), (1, .int a1)]) mok_Re_readClause rfl (Nat.le_of_ble_eq_true rfl) ?_
  unfold f_Re_readClause
  refine aw_aload_n d_Re_readClause_0 0 rfl ?_
  refine aw_getI fl_Re_52 kd_7 d_Re_readClause_1 ?_
  refine aw_bI (fun v4 => ?_)
  refine aw_istore_n (lo' := [(2, .int v4), (0, .ref 7), (1, .int a1)]) d_Re_readClause_4 rfl (by decide) rfl ?_
  refine aw_iload_n d_Re_readClause_5 0 rfl ?_
  refine aw_bipush d_Re_readClause_6 kb_9 ?_
  refine aw_bipush d_Re_readClause_8 kb_16 ?_
  refine aw_SN_p (As := [.int v4, .int (9 : Int32), .int (16 : Int32)]) (m_Fp_within) cs_Re_103 rfl rfl (Nat.le_of_ble_eq_true rfl) ⟨Nat.le_of_ble_eq_true rfl, Nat.le_of_ble_eq_true rfl⟩ ⟨Nat.le_refl _, Nat.le_refl _⟩ d_Re_readClause_10 (fun y10 => ?_)
  refine aw_if_ne (tgt := 22) d_Re_readClause_13 rfl (fun q13 => ?_) (fun q13 => ?_)
  · refine aw_aload_n d_Re_readClause_16 1 rfl ?_
    refine aw_iconst d_Re_readClause_17 ki_0 ?_
    refine aw_V_v (As := [.int (0 : Int32)]) (m_Re_fail) cv_Re_57 kd_7 rfl rfl rfl (Nat.le_of_ble_eq_true rfl) ⟨Nat.le_of_ble_eq_true rfl, Nat.le_of_ble_eq_true rfl⟩ ⟨Nat.le_refl _, Nat.le_refl _⟩ d_Re_readClause_18 (fun y18 => ?_)
    exact aw_vret rfl rfl ⟨Nat.le_refl _, Nat.le_refl _⟩ d_Re_readClause_21
  · refine aw_iload_n d_Re_readClause_22 2 rfl ?_
    refine aw_bipush d_Re_readClause_23 kb_14 ?_
    refine aw_icmp_lt (tgt := 34) d_Re_readClause_25 rfl (fun q25 => ?_) (fun q25 => ?_)
    · refine aw_aload_n d_Re_readClause_34 1 rfl ?_
      refine aw_V_v (As := []) (m_Re_step) cv_Re_45 kd_7 rfl rfl rfl (Nat.le_of_ble_eq_true rfl) ⟨Nat.le_of_ble_eq_true rfl, Nat.le_of_ble_eq_true rfl⟩ ⟨Nat.le_refl _, Nat.le_refl _⟩ d_Re_readClause_35 (fun y35 => ?_)
      refine aw_aload_n d_Re_readClause_38 1 rfl ?_
      refine aw_getD fl_Re_24 kd_7 d_Re_readClause_39 aw_none (fun t39 => ?_)
      refine aw_grd (fun ht39 => ?_)
      refine aw_iload_n d_Re_readClause_42 0 rfl ?_
      refine aw_V_v (As := [.int v4]) (m_La_beginClause ht39) cv_Re_123 (fx_isLK ht39 0 (by decide)) rfl rfl rfl (Nat.le_of_ble_eq_true rfl) ⟨Nat.le_of_ble_eq_true rfl, Nat.le_of_ble_eq_true rfl⟩ ⟨Nat.le_refl _, Nat.le_refl _⟩ d_Re_readClause_43 (fun y43 => ?_)
      refine aw_iload_n d_Re_readClause_46 0 rfl ?_
      refine aw_bipush d_Re_readClause_47 kb_11 ?_
      refine aw_icmp_gt (tgt := 57) d_Re_readClause_49 rfl (fun q49 => ?_) (fun q49 => ?_)
      · refine aw_sub (lo' := [(0, .ref 7), (1, .int a1), (2, .int v4)]) [1, 2, 0] rfl ?_
        exact tj_Re_readClause_57 _ _ _
      · refine aw_aload_n d_Re_readClause_52 1 rfl ?_
        refine aw_iload_n d_Re_readClause_53 0 rfl ?_
        refine aw_V_v (As := [.int v4]) (m_Re_readBath) cv_Re_126 kd_7 rfl rfl rfl (Nat.le_of_ble_eq_true rfl) ⟨Nat.le_of_ble_eq_true rfl, Nat.le_of_ble_eq_true rfl⟩ ⟨Nat.le_refl _, Nat.le_refl _⟩ d_Re_readClause_54 (fun y54 => ?_)
        refine aw_sub (lo' := [(0, .ref 7), (1, .int a1), (2, .int v4)]) [1, 2, 0] rfl ?_
        exact tj_Re_readClause_57 _ _ _
    · refine aw_aload_n d_Re_readClause_28 1 rfl ?_
      refine aw_iconst d_Re_readClause_29 ki_4 ?_
      refine aw_V_v (As := [.int (4 : Int32)]) (m_Re_fail) cv_Re_57 kd_7 rfl rfl rfl (Nat.le_of_ble_eq_true rfl) ⟨Nat.le_of_ble_eq_true rfl, Nat.le_of_ble_eq_true rfl⟩ ⟨Nat.le_refl _, Nat.le_refl _⟩ d_Re_readClause_30 (fun y30 => ?_)
      exact aw_vret rfl rfl ⟨Nat.le_refl _, Nat.le_refl _⟩ d_Re_readClause_33
def f_To_slot (a0 : Nat) (a1 : Int32) (δ : Dm) : Option (Option Nat) := (if a1 < 0 then (some none) else (if (8 : Int32) ≤ a1 then (some none) else (if inb a1 8 then ocs (RT (a0 + 4) (ix a1)) (some none) (fun t18 => if isB t18 = true then (some (some t18)) else none) else none)))
set_option maxHeartbeats 4000000 in
set_option maxRecDepth 100000 in
theorem m_To_slot {a0 : Nat} {a1 : Int32} {δ : Dm} {n : Nat} (ha0 : isT a0 = true) : ∀ x, f_To_slot a0 a1 δ = some x → AMet k_To_slot 1 0 0 [.ref a0, .int a1] δ RT n (Kr δ RT n x) := by
  refine aw_start (lo := [(0, .ref a0), (1, .int a1)]) mok_To_slot rfl (Nat.le_of_ble_eq_true rfl) ?_
  unfold f_To_slot
  refine aw_iload_n d_To_slot_0 1 rfl ?_
  refine aw_if_lt (tgt := 22) d_To_slot_1 rfl (fun q1 => ?_) (fun q1 => ?_)
  · refine aw_null d_To_slot_22 ?_
    exact aw_aretN rfl rfl ⟨Nat.le_refl _, Nat.le_refl _⟩ d_To_slot_23
  · refine aw_iload_n d_To_slot_4 1 rfl ?_
    refine aw_aload_n d_To_slot_5 0 rfl ?_
    refine aw_getR (t := (a0 + 4)) fl_To_23 (fx_isTK ha0 0 (by decide)) (fx_isTR ha0 0 6 (by decide) (by decide)) d_To_slot_6 ?_
    refine aw_alen (v := (8 : Int32)) (fx_isTK ha0 4 (by decide)) ⟨by decide, by decide⟩ (by decide) d_To_slot_9 ?_
    refine aw_icmp_ge (tgt := 22) d_To_slot_10 rfl (fun q10 => ?_) (fun q10 => ?_)
    · refine aw_null d_To_slot_22 ?_
      exact aw_aretN rfl rfl ⟨Nat.le_refl _, Nat.le_refl _⟩ d_To_slot_23
    · refine aw_aload_n d_To_slot_13 0 rfl ?_
      refine aw_getR (t := (a0 + 4)) fl_To_23 (fx_isTK ha0 0 (by decide)) (fx_isTR ha0 0 6 (by decide) (by decide)) d_To_slot_14 ?_
      refine aw_iload_n d_To_slot_17 1 rfl ?_
      refine aw_aald6 (fx_isTK ha0 4 (by decide)) d_To_slot_18 ?_ (fun t18 => ?_)
      · refine aw_goto (tgt := 23) d_To_slot_19 rfl ?_
        exact aw_aretN rfl rfl ⟨Nat.le_refl _, Nat.le_refl _⟩ d_To_slot_23
      · refine aw_grd (fun ht18 => ?_)
        refine aw_goto (tgt := 23) d_To_slot_19 rfl ?_
        exact aw_aret rfl rfl ⟨Nat.le_refl _, Nat.le_refl _⟩ d_To_slot_23
def lp_To_isFree_2 (kx2_36 : Int32 → Option Int32) (a1 : Int32) (δ : Dm) : Nat → Int32 → Option Int32
  | 0, _ => none
  | f + 1, v2_2 => (if (gI δ 29 2) ≤ v2_2 then (kx2_36 v2_2) else ((f_To_slot 29 v2_2 δ).bind (fun o12 => ocs o12 (lp_To_isFree_2 kx2_36 a1 δ f (v2_2 + (1 : Int32))) (fun t12 => if isB t12 = true then (if (gI δ t12 0) = a1 then (some (0 : Int32)) else (lp_To_isFree_2 kx2_36 a1 δ f (v2_2 + (1 : Int32)))) else none))))
set_option maxHeartbeats 4000000 in
set_option maxRecDepth 100000 in
theorem tl_To_isFree_2 {n : Nat} (kx2_36 : Int32 → Option Int32) (a1 : Int32) (δ : Dm) (hkx2_36 : ∀ v2_2k, AWo k_To_isFree 2 0 0 36 [(0, .ref 29), (1, .int a1), (2, .int v2_2k)] [] δ RT n 0 0 (Kp δ RT n) (kx2_36 v2_2k)) : ∀ (f : Nat) (v2_2 : Int32), AWo k_To_isFree 2 0 0 2 [(0, .ref 29), (1, .int a1), (2, .int v2_2)] [] δ RT n 0 0 (Kp δ RT n) (lp_To_isFree_2 kx2_36 a1 δ f v2_2) := by
  intro f
  induction f with
  | zero => intro _; exact aw_none
  | succ f ih =>
    intro v2_2
    rw [lp_To_isFree_2]
    refine aw_iload_n d_To_isFree_2 2 rfl ?_
    refine aw_aload_n d_To_isFree_3 0 rfl ?_
    refine aw_getI fl_To_55 kd_29 d_To_isFree_4 ?_
    refine aw_icmp_ge (tgt := 36) d_To_isFree_7 rfl (fun q7 => ?_) (fun q7 => ?_)
    · refine aw_sub (lo' := [(0, .ref 29), (1, .int a1), (2, .int v2_2)]) [0, 1, 2] rfl ?_
      exact hkx2_36 _
    · refine aw_aload_n d_To_isFree_10 0 rfl ?_
      refine aw_iload_n d_To_isFree_11 2 rfl ?_
      refine aw_V_r (As := [.int v2_2]) (m_To_slot (by decide)) cv_To_69 kd_29 rfl rfl rfl (Nat.le_of_ble_eq_true rfl) ⟨Nat.le_of_ble_eq_true rfl, Nat.le_of_ble_eq_true rfl⟩ ⟨Nat.le_refl _, Nat.le_refl _⟩ d_To_isFree_12 ?_ (fun t12 => ?_)
      · refine aw_astoreN_n (lo' := [(3, .null), (0, .ref 29), (1, .int a1), (2, .int v2_2)]) d_To_isFree_15 rfl (by decide) rfl ?_
        refine aw_aloadN_n d_To_isFree_16 0 rfl ?_
        refine aw_ifnullN (tgt := 30) d_To_isFree_17 rfl ?_
        refine aw_iinc (v := (v2_2 + (1 : Int32))) (lo' := [(2, .int (v2_2 + (1 : Int32))), (3, .null), (0, .ref 29), (1, .int a1)]) d_To_isFree_30 3 rfl (by rw [show Int32.ofInt (1) = (1 : Int32) from by decide]) (by decide) rfl ?_
        refine aw_goto (tgt := 2) d_To_isFree_33 rfl ?_
        refine aw_sub (lo' := [(0, .ref 29), (1, .int a1), (2, .int (v2_2 + (1 : Int32)))]) [2, 3, 0] rfl ?_
        exact ih _
      · refine aw_grd (fun ht12 => ?_)
        refine aw_astore_n (lo' := [(3, .ref t12), (0, .ref 29), (1, .int a1), (2, .int v2_2)]) d_To_isFree_15 rfl (by decide) rfl ?_
        refine aw_aload_n d_To_isFree_16 0 rfl ?_
        refine aw_ifnull d_To_isFree_17 ?_
        refine aw_aload_n d_To_isFree_20 0 rfl ?_
        refine aw_getI fl_To_76 (fx_isBK ht12 0 (by decide)) d_To_isFree_21 ?_
        refine aw_iload_n d_To_isFree_24 2 rfl ?_
        refine aw_icmp_ne (tgt := 30) d_To_isFree_25 rfl (fun q25 => ?_) (fun q25 => ?_)
        · refine aw_iconst d_To_isFree_28 ki_0 ?_
          exact aw_zret rfl rfl rfl ⟨Nat.le_refl _, Nat.le_refl _⟩ d_To_isFree_29
        · refine aw_iinc (v := (v2_2 + (1 : Int32))) (lo' := [(2, .int (v2_2 + (1 : Int32))), (3, .ref t12), (0, .ref 29), (1, .int a1)]) d_To_isFree_30 3 rfl (by rw [show Int32.ofInt (1) = (1 : Int32) from by decide]) (by decide) rfl ?_
          refine aw_goto (tgt := 2) d_To_isFree_33 rfl ?_
          refine aw_sub (lo' := [(0, .ref 29), (1, .int a1), (2, .int (v2_2 + (1 : Int32)))]) [2, 3, 0] rfl ?_
          exact ih _
def f_To_isFree (a1 : Int32) (δ : Dm) : Option Int32 := (lp_To_isFree_2 (fun v2_2x => ((f_To_hasPlace a1 δ).bind (fun y38 => (if y38 = 0 ∨ y38 = 1 then (some y38) else none)))) a1 δ FU (0 : Int32))
set_option maxHeartbeats 4000000 in
set_option maxRecDepth 100000 in
theorem m_To_isFree {a1 : Int32} {δ : Dm} {n : Nat} : ∀ x, f_To_isFree a1 δ = some x → AMet k_To_isFree 2 0 0 [.ref 29, .int a1] δ RT n (Kp δ RT n x) := by
  refine aw_start (lo := [(0, .ref 29), (1, .int a1)]) mok_To_isFree rfl (Nat.le_of_ble_eq_true rfl) ?_
  unfold f_To_isFree
  refine aw_iconst d_To_isFree_0 ki_0 ?_
  refine aw_istore_n (lo' := [(2, .int (0 : Int32)), (0, .ref 29), (1, .int a1)]) d_To_isFree_1 rfl (by decide) rfl ?_
  refine aw_sub (lo' := [(0, .ref 29), (1, .int a1), (2, .int (0 : Int32))]) [1, 2, 0] rfl ?_
  refine tl_To_isFree_2 _ _ _ (fun v2_2x => ?_) FU _
  · refine aw_aload_n d_To_isFree_36 0 rfl ?_
    refine aw_iload_n d_To_isFree_37 1 rfl ?_
    refine aw_V_p (As := [.int a1]) (m_To_hasPlace) cv_To_79 kd_29 rfl rfl rfl (Nat.le_of_ble_eq_true rfl) ⟨Nat.le_of_ble_eq_true rfl, Nat.le_of_ble_eq_true rfl⟩ ⟨Nat.le_refl _, Nat.le_refl _⟩ d_To_isFree_38 (fun y38 => ?_)
    exact aw_zr2 rfl rfl ⟨Nat.le_refl _, Nat.le_refl _⟩ d_To_isFree_41
def f_Fp_lawAt (a1 : Int32) (δ : Dm) : Option (Option Nat) := (if a1 < 0 then (some none) else (if (gI δ 4 3) ≤ a1 then (some none) else (if (8 : Int32) ≤ a1 then (some none) else (if inb a1 8 then ocs (RT 6 (ix a1)) (some none) (fun t26 => if isL t26 = true then (some (some t26)) else none) else none))))
set_option maxHeartbeats 4000000 in
set_option maxRecDepth 100000 in
theorem m_Fp_lawAt {a1 : Int32} {δ : Dm} {n : Nat} : ∀ x, f_Fp_lawAt a1 δ = some x → AMet k_Fp_lawAt 1 0 0 [.ref 4, .int a1] δ RT n (Kr δ RT n x) := by
  refine aw_start (lo := [(0, .ref 4), (1, .int a1)]) mok_Fp_lawAt rfl (Nat.le_of_ble_eq_true rfl) ?_
  unfold f_Fp_lawAt
  refine aw_iload_n d_Fp_lawAt_0 1 rfl ?_
  refine aw_if_lt (tgt := 30) d_Fp_lawAt_1 rfl (fun q1 => ?_) (fun q1 => ?_)
  · refine aw_null d_Fp_lawAt_30 ?_
    exact aw_aretN rfl rfl ⟨Nat.le_refl _, Nat.le_refl _⟩ d_Fp_lawAt_31
  · refine aw_iload_n d_Fp_lawAt_4 1 rfl ?_
    refine aw_aload_n d_Fp_lawAt_5 0 rfl ?_
    refine aw_getI fl_Fp_109 kd_4 d_Fp_lawAt_6 ?_
    refine aw_icmp_ge (tgt := 30) d_Fp_lawAt_9 rfl (fun q9 => ?_) (fun q9 => ?_)
    · refine aw_null d_Fp_lawAt_30 ?_
      exact aw_aretN rfl rfl ⟨Nat.le_refl _, Nat.le_refl _⟩ d_Fp_lawAt_31
    · refine aw_iload_n d_Fp_lawAt_12 1 rfl ?_
      refine aw_aload_n d_Fp_lawAt_13 0 rfl ?_
      refine aw_getR (t := 6) fl_Fp_15 kd_4 rt_4_2 d_Fp_lawAt_14 ?_
      refine aw_alen (v := (8 : Int32)) kd_6 ⟨by decide, by decide⟩ (by decide) d_Fp_lawAt_17 ?_
      refine aw_icmp_ge (tgt := 30) d_Fp_lawAt_18 rfl (fun q18 => ?_) (fun q18 => ?_)
      · refine aw_null d_Fp_lawAt_30 ?_
        exact aw_aretN rfl rfl ⟨Nat.le_refl _, Nat.le_refl _⟩ d_Fp_lawAt_31
      · refine aw_aload_n d_Fp_lawAt_21 0 rfl ?_
        refine aw_getR (t := 6) fl_Fp_15 kd_4 rt_4_2 d_Fp_lawAt_22 ?_
        refine aw_iload_n d_Fp_lawAt_25 1 rfl ?_
        refine aw_aald5 kd_6 d_Fp_lawAt_26 ?_ (fun t26 => ?_)
        · refine aw_goto (tgt := 31) d_Fp_lawAt_27 rfl ?_
          exact aw_aretN rfl rfl ⟨Nat.le_refl _, Nat.le_refl _⟩ d_Fp_lawAt_31
        · refine aw_grd (fun ht26 => ?_)
          refine aw_goto (tgt := 31) d_Fp_lawAt_27 rfl ?_
          exact aw_aret rfl rfl ⟨Nat.le_refl _, Nat.le_refl _⟩ d_Fp_lawAt_31
def f_Bo_begin (a0 : Nat) (a1 : Int32) (a2 : Int32) (a3 : Int32) (a4 : Int32) (δ : Dm) : Option Dm := (bnd (sI δ a0 0 a1) (fun δ_2 => (bnd (sI δ_2 a0 1 a2) (fun δ_7 => (bnd (sI δ_7 a0 2 a3) (fun δ_12 => (bnd (sI δ_12 a0 3 a4) (fun δ_18 => (bnd (sI δ_18 a0 4 (0 : Int32)) (fun δ_23 => (bnd (sI δ_23 a0 5 (0 : Int32)) (fun δ_28 => (bnd (sI δ_28 a0 6 (0 : Int32)) (fun δ_33 => (bnd (sI δ_33 a0 7 (0 : Int32)) (fun δ_38 => (bnd (sI δ_38 a0 8 (0 : Int32)) (fun δ_43 => ((f_Ar_fill_II (a0 + 1) (1000 : Int32) δ_43).bind (fun y53 => ((f_Ar_fill_II (a0 + 2) (0 : Int32) y53).bind (fun y61 => ((f_Ar_fill_II (a0 + 3) (0 : Int32) y61).bind (fun y69 => (some y69)))))))))))))))))))))))))
set_option maxHeartbeats 4000000 in
set_option maxRecDepth 100000 in
theorem m_Bo_begin {a0 : Nat} {a1 : Int32} {a2 : Int32} {a3 : Int32} {a4 : Int32} {δ : Dm} {n : Nat} (ha0 : isB a0 = true) : ∀ x, f_Bo_begin a0 a1 a2 a3 a4 δ = some x → AMet k_Bo_begin 2 0 0 [.ref a0, .int a1, .int a2, .int a3, .int a4] δ RT n (Kv RT n x) := by
  refine aw_start (lo := [(0, .ref a0), (1, .int a1), (2, .int a2), (3, .int a3), (4, .int a4)]) mok_Bo_begin rfl (Nat.le_of_ble_eq_true rfl) ?_
  unfold f_Bo_begin
  refine aw_aload_n d_Bo_begin_0 0 rfl ?_
  refine aw_iload_n d_Bo_begin_1 1 rfl ?_
  refine aw_putI pf_Bo_21 (fx_isBK ha0 0 (by decide)) d_Bo_begin_2 ?_
  refine aw_bD (fun δ_2 => ?_)
  refine aw_aload_n d_Bo_begin_5 0 rfl ?_
  refine aw_iload_n d_Bo_begin_6 2 rfl ?_
  refine aw_putI pf_Bo_25 (fx_isBK ha0 0 (by decide)) d_Bo_begin_7 ?_
  refine aw_bD (fun δ_7 => ?_)
  refine aw_aload_n d_Bo_begin_10 0 rfl ?_
  refine aw_iload_n d_Bo_begin_11 3 rfl ?_
  refine aw_putI pf_Bo_28 (fx_isBK ha0 0 (by decide)) d_Bo_begin_12 ?_
  refine aw_bD (fun δ_12 => ?_)
  refine aw_aload_n d_Bo_begin_15 0 rfl ?_
  refine aw_iload d_Bo_begin_16 4 rfl ?_
  refine aw_putI pf_Bo_31 (fx_isBK ha0 0 (by decide)) d_Bo_begin_18 ?_
  refine aw_bD (fun δ_18 => ?_)
  refine aw_aload_n d_Bo_begin_21 0 rfl ?_
  refine aw_iconst d_Bo_begin_22 ki_0 ?_
  refine aw_putI pf_Bo_34 (fx_isBK ha0 0 (by decide)) d_Bo_begin_23 ?_
  refine aw_bD (fun δ_23 => ?_)
  refine aw_aload_n d_Bo_begin_26 0 rfl ?_
  refine aw_iconst d_Bo_begin_27 ki_0 ?_
  refine aw_putI pf_Bo_37 (fx_isBK ha0 0 (by decide)) d_Bo_begin_28 ?_
  refine aw_bD (fun δ_28 => ?_)
  refine aw_aload_n d_Bo_begin_31 0 rfl ?_
  refine aw_iconst d_Bo_begin_32 ki_0 ?_
  refine aw_putI pf_Bo_40 (fx_isBK ha0 0 (by decide)) d_Bo_begin_33 ?_
  refine aw_bD (fun δ_33 => ?_)
  refine aw_aload_n d_Bo_begin_36 0 rfl ?_
  refine aw_iconst d_Bo_begin_37 ki_0 ?_
  refine aw_putI pf_Bo_43 (fx_isBK ha0 0 (by decide)) d_Bo_begin_38 ?_
  refine aw_bD (fun δ_38 => ?_)
  refine aw_aload_n d_Bo_begin_41 0 rfl ?_
  refine aw_iconst d_Bo_begin_42 ki_0 ?_
  refine aw_putI pf_Bo_46 (fx_isBK ha0 0 (by decide)) d_Bo_begin_43 ?_
  refine aw_bD (fun δ_43 => ?_)
  refine aw_aload_n d_Bo_begin_46 0 rfl ?_
  refine aw_getR (t := (a0 + 1)) fl_Bo_9 (fx_isBK ha0 0 (by decide)) (fx_isBR ha0 0 9 (by decide) (by decide)) d_Bo_begin_47 ?_
  refine aw_sipush d_Bo_begin_50 ks_1000 ?_
  refine aw_S_v (As := [.ref (a0 + 1), .int (1000 : Int32)]) (m_Ar_fill_II (congrArg Prod.fst (fx_isBK ha0 1 (by decide)))) cs_Bo_49 rfl rfl (Nat.le_of_ble_eq_true rfl) ⟨Nat.le_of_ble_eq_true rfl, Nat.le_of_ble_eq_true rfl⟩ ⟨Nat.le_refl _, Nat.le_refl _⟩ d_Bo_begin_53 (fun y53 => ?_)
  refine aw_aload_n d_Bo_begin_56 0 rfl ?_
  refine aw_getR (t := (a0 + 2)) fl_Bo_15 (fx_isBK ha0 0 (by decide)) (fx_isBR ha0 0 10 (by decide) (by decide)) d_Bo_begin_57 ?_
  refine aw_iconst d_Bo_begin_60 ki_0 ?_
  refine aw_S_v (As := [.ref (a0 + 2), .int (0 : Int32)]) (m_Ar_fill_II (congrArg Prod.fst (fx_isBK ha0 2 (by decide)))) cs_Bo_49 rfl rfl (Nat.le_of_ble_eq_true rfl) ⟨Nat.le_of_ble_eq_true rfl, Nat.le_of_ble_eq_true rfl⟩ ⟨Nat.le_refl _, Nat.le_refl _⟩ d_Bo_begin_61 (fun y61 => ?_)
  refine aw_aload_n d_Bo_begin_64 0 rfl ?_
  refine aw_getR (t := (a0 + 3)) fl_Bo_18 (fx_isBK ha0 0 (by decide)) (fx_isBR ha0 0 11 (by decide) (by decide)) d_Bo_begin_65 ?_
  refine aw_iconst d_Bo_begin_68 ki_0 ?_
  refine aw_S_v (As := [.ref (a0 + 3), .int (0 : Int32)]) (m_Ar_fill_II (congrArg Prod.fst (fx_isBK ha0 3 (by decide)))) cs_Bo_49 rfl rfl (Nat.le_of_ble_eq_true rfl) ⟨Nat.le_of_ble_eq_true rfl, Nat.le_of_ble_eq_true rfl⟩ ⟨Nat.le_refl _, Nat.le_refl _⟩ d_Bo_begin_69 (fun y69 => ?_)
  exact aw_vret rfl rfl ⟨Nat.le_refl _, Nat.le_refl _⟩ d_Bo_begin_72
def f_Fp_booth (a1 : Int32) (a2 : Int32) (a3 : Int32) (δ : Dm) : Option (Int32 × Dm) := ((f_To_slot 29 (gI δ 29 2) δ).bind (fun o11 => ocs o11 (some ((-1 : Int32), δ)) (fun t11 => if isB t11 = true then ((f_To_isFree a1 δ).bind (fun y26 => (if y26 = 0 then (some ((-1 : Int32), δ)) else ((f_Fp_within a2 (1 : Int32) (999 : Int32) δ).bind (fun y37 => (if y37 = 0 then (some ((-1 : Int32), δ)) else ((f_Fp_lawAt a3 δ).bind (fun o45 => ocs o45 (some ((-1 : Int32), δ)) (fun t45 => if isL t45 = true then ((f_Bo_begin t11 a1 a2 a3 (gI δ 29 0) δ).bind (fun y65 => (bnd (sI y65 29 2 ((gI y65 29 2) + (1 : Int32))) (fun δ_78 => (some (((gI δ_78 29 2) - (1 : Int32)), δ_78)))))) else none))))))))) else none)))
set_option maxHeartbeats 4000000 in
set_option maxRecDepth 100000 in
theorem m_Fp_booth {a1 : Int32} {a2 : Int32} {a3 : Int32} {δ : Dm} {n : Nat} : ∀ x, f_Fp_booth a1 a2 a3 δ = some x → AMet k_Fp_booth 3 0 0 [.ref 4, .int a1, .int a2, .int a3] δ RT n (Km RT n x) := by
  refine aw_start (lo := [(0, .ref 4), (1, .int a1), (2, .int a2), (3, .int a3)]) mok_Fp_booth rfl (Nat.le_of_ble_eq_true rfl) ?_
  unfold f_Fp_booth
  refine aw_aload_n d_Fp_booth_0 0 rfl ?_
  refine aw_getR (t := 29) fl_Fp_57 kd_4 rt_4_9 d_Fp_booth_1 ?_
  refine aw_aload_n d_Fp_booth_4 0 rfl ?_
  refine aw_getR (t := 29) fl_Fp_57 kd_4 rt_4_9 d_Fp_booth_5 ?_
  refine aw_getI fl_Fp_116 kd_29 d_Fp_booth_8 ?_
  refine aw_V_r (As := [.int (gI δ 29 2)]) (m_To_slot (by decide)) cv_Fp_119 kd_29 rfl rfl rfl (Nat.le_of_ble_eq_true rfl) ⟨Nat.le_of_ble_eq_true rfl, Nat.le_of_ble_eq_true rfl⟩ ⟨Nat.le_refl _, Nat.le_refl _⟩ d_Fp_booth_11 ?_ (fun t11 => ?_)
  · refine aw_astoreN (lo' := [(4, .null), (0, .ref 4), (1, .int a1), (2, .int a2), (3, .int a3)]) d_Fp_booth_14 (by decide) rfl ?_
    refine aw_aloadN d_Fp_booth_16 0 rfl ?_
    refine aw_ifnullN (tgt := 51) d_Fp_booth_18 rfl ?_
    refine aw_iconst d_Fp_booth_51 ki_m1 ?_
    exact aw_iret rfl rfl ⟨Nat.le_refl _, Nat.le_refl _⟩ d_Fp_booth_52
  · refine aw_grd (fun ht11 => ?_)
    refine aw_astore (lo' := [(4, .ref t11), (0, .ref 4), (1, .int a1), (2, .int a2), (3, .int a3)]) d_Fp_booth_14 (by decide) rfl ?_
    refine aw_aload d_Fp_booth_16 0 rfl ?_
    refine aw_ifnull d_Fp_booth_18 ?_
    refine aw_aload_n d_Fp_booth_21 1 rfl ?_
    refine aw_getR (t := 29) fl_Fp_57 kd_4 rt_4_9 d_Fp_booth_22 ?_
    refine aw_iload_n d_Fp_booth_25 2 rfl ?_
    refine aw_V_p (As := [.int a1]) (m_To_isFree) cv_Fp_123 kd_29 rfl rfl rfl (Nat.le_of_ble_eq_true rfl) ⟨Nat.le_of_ble_eq_true rfl, Nat.le_of_ble_eq_true rfl⟩ ⟨Nat.le_refl _, Nat.le_refl _⟩ d_Fp_booth_26 (fun y26 => ?_)
    refine aw_if_eq (tgt := 51) d_Fp_booth_29 rfl (fun q29 => ?_) (fun q29 => ?_)
    · refine aw_iconst d_Fp_booth_51 ki_m1 ?_
      exact aw_iret rfl rfl ⟨Nat.le_refl _, Nat.le_refl _⟩ d_Fp_booth_52
    · refine aw_iload_n d_Fp_booth_32 3 rfl ?_
      refine aw_iconst d_Fp_booth_33 ki_1 ?_
      refine aw_sipush d_Fp_booth_34 ks_999 ?_
      refine aw_S_p (As := [.int a2, .int (1 : Int32), .int (999 : Int32)]) (m_Fp_within) cs_Fp_70 rfl rfl (Nat.le_of_ble_eq_true rfl) ⟨Nat.le_of_ble_eq_true rfl, Nat.le_of_ble_eq_true rfl⟩ ⟨Nat.le_refl _, Nat.le_refl _⟩ d_Fp_booth_37 (fun y37 => ?_)
      refine aw_if_eq (tgt := 51) d_Fp_booth_40 rfl (fun q40 => ?_) (fun q40 => ?_)
      · refine aw_iconst d_Fp_booth_51 ki_m1 ?_
        exact aw_iret rfl rfl ⟨Nat.le_refl _, Nat.le_refl _⟩ d_Fp_booth_52
      · refine aw_aload_n d_Fp_booth_43 1 rfl ?_
        refine aw_iload_n d_Fp_booth_44 4 rfl ?_
        refine aw_V_r (As := [.int a3]) (m_Fp_lawAt) cv_Fp_126 kd_4 rfl rfl rfl (Nat.le_of_ble_eq_true rfl) ⟨Nat.le_of_ble_eq_true rfl, Nat.le_of_ble_eq_true rfl⟩ ⟨Nat.le_refl _, Nat.le_refl _⟩ d_Fp_booth_45 ?_ (fun t45 => ?_)
        · refine aw_ifnonnullN d_Fp_booth_48 ?_
          refine aw_iconst d_Fp_booth_51 ki_m1 ?_
          exact aw_iret rfl rfl ⟨Nat.le_refl _, Nat.le_refl _⟩ d_Fp_booth_52
        · refine aw_grd (fun ht45 => ?_)
          refine aw_ifnonnull (tgt := 53) d_Fp_booth_48 rfl ?_
          refine aw_aload d_Fp_booth_53 0 rfl ?_
          refine aw_iload_n d_Fp_booth_55 2 rfl ?_
          refine aw_iload_n d_Fp_booth_56 3 rfl ?_
          refine aw_iload_n d_Fp_booth_57 4 rfl ?_
          refine aw_aload_n d_Fp_booth_58 1 rfl ?_
          refine aw_getR (t := 29) fl_Fp_57 kd_4 rt_4_9 d_Fp_booth_59 ?_
          refine aw_getI fl_Fp_130 kd_29 d_Fp_booth_62 ?_
          refine aw_V_v (As := [.int a1, .int a2, .int a3, .int (gI δ 29 0)]) (m_Bo_begin ht11) cv_Fp_133 (fx_isBK ht11 0 (by decide)) rfl rfl rfl (Nat.le_of_ble_eq_true rfl) ⟨Nat.le_of_ble_eq_true rfl, Nat.le_of_ble_eq_true rfl⟩ ⟨Nat.le_refl _, Nat.le_refl _⟩ d_Fp_booth_65 (fun y65 => ?_)
          refine aw_aload_n d_Fp_booth_68 1 rfl ?_
          refine aw_getR (t := 29) fl_Fp_57 kd_4 rt_4_9 d_Fp_booth_69 ?_
          refine aw_dup d_Fp_booth_72 rfl ?_
          refine aw_getI fl_Fp_116 kd_29 d_Fp_booth_73 ?_
          refine aw_iconst d_Fp_booth_76 ki_1 ?_
          refine aw_iadd d_Fp_booth_77 ?_
          refine aw_putI pf_Fp_116 kd_29 d_Fp_booth_78 ?_
          refine aw_bD (fun δ_78 => ?_)
          refine aw_aload_n d_Fp_booth_81 1 rfl ?_
          refine aw_getR (t := 29) fl_Fp_57 kd_4 rt_4_9 d_Fp_booth_82 ?_
          refine aw_getI fl_Fp_116 kd_29 d_Fp_booth_85 ?_
          refine aw_iconst d_Fp_booth_88 ki_1 ?_
          refine aw_isub d_Fp_booth_89 ?_
          exact aw_iret rfl rfl ⟨Nat.le_refl _, Nat.le_refl _⟩ d_Fp_booth_90
def f_To_boothAt (a1 : Int32) (δ : Dm) : Option (Option Nat) := (if (gI δ 29 2) ≤ a1 then (some none) else ((f_To_slot 29 a1 δ).bind (fun o10 => ocs o10 (some none) (fun t10 => if isB t10 = true then (some (some t10)) else none))))
set_option maxHeartbeats 4000000 in
set_option maxRecDepth 100000 in
theorem m_To_boothAt {a1 : Int32} {δ : Dm} {n : Nat} : ∀ x, f_To_boothAt a1 δ = some x → AMet k_To_boothAt 2 0 0 [.ref 29, .int a1] δ RT n (Kr δ RT n x) := by
  refine aw_start (lo := [(0, .ref 29), (1, .int a1)]) mok_To_boothAt rfl (Nat.le_of_ble_eq_true rfl) ?_
  unfold f_To_boothAt
  refine aw_iload_n d_To_boothAt_0 1 rfl ?_
  refine aw_aload_n d_To_boothAt_1 0 rfl ?_
  refine aw_getI fl_To_55 kd_29 d_To_boothAt_2 ?_
  refine aw_icmp_ge (tgt := 16) d_To_boothAt_5 rfl (fun q5 => ?_) (fun q5 => ?_)
  · refine aw_null d_To_boothAt_16 ?_
    exact aw_aretN rfl rfl ⟨Nat.le_refl _, Nat.le_refl _⟩ d_To_boothAt_17
  · refine aw_aload_n d_To_boothAt_8 0 rfl ?_
    refine aw_iload_n d_To_boothAt_9 1 rfl ?_
    refine aw_V_r (As := [.int a1]) (m_To_slot (by decide)) cv_To_69 kd_29 rfl rfl rfl (Nat.le_of_ble_eq_true rfl) ⟨Nat.le_of_ble_eq_true rfl, Nat.le_of_ble_eq_true rfl⟩ ⟨Nat.le_refl _, Nat.le_refl _⟩ d_To_boothAt_10 ?_ (fun t10 => ?_)
    · refine aw_goto (tgt := 17) d_To_boothAt_13 rfl ?_
      exact aw_aretN rfl rfl ⟨Nat.le_refl _, Nat.le_refl _⟩ d_To_boothAt_17
    · refine aw_grd (fun ht10 => ?_)
      refine aw_goto (tgt := 17) d_To_boothAt_13 rfl ?_
      exact aw_aret rfl rfl ⟨Nat.le_refl _, Nat.le_refl _⟩ d_To_boothAt_17
def f_Fp_move (a1 : Int32) (a2 : Int32) (δ : Dm) : Option (Int32 × Dm) := ((f_To_boothAt a1 δ).bind (fun o5 => ocs o5 (some ((-1 : Int32), δ)) (fun t5 => if isB t5 = true then ((f_To_isFree a2 δ).bind (fun y18 => (if y18 = 0 then (some ((-1 : Int32), δ)) else (bnd (gI δ t5 0) (fun v30 => (bnd (sI δ t5 0 a2) (fun δ_34 => (some (v30, δ_34))))))))) else none)))
set_option maxHeartbeats 4000000 in
set_option maxRecDepth 100000 in
theorem m_Fp_move {a1 : Int32} {a2 : Int32} {δ : Dm} {n : Nat} : ∀ x, f_Fp_move a1 a2 δ = some x → AMet k_Fp_move 3 0 0 [.ref 4, .int a1, .int a2] δ RT n (Km RT n x) := by
  refine aw_start (lo := [(0, .ref 4), (1, .int a1), (2, .int a2)]) mok_Fp_move rfl (Nat.le_of_ble_eq_true rfl) ?_
  unfold f_Fp_move
  refine aw_aload_n d_Fp_move_0 0 rfl ?_
  refine aw_getR (t := 29) fl_Fp_57 kd_4 rt_4_9 d_Fp_move_1 ?_
  refine aw_iload_n d_Fp_move_4 1 rfl ?_
  refine aw_V_r (As := [.int a1]) (m_To_boothAt) cv_Fp_139 kd_29 rfl rfl rfl (Nat.le_of_ble_eq_true rfl) ⟨Nat.le_of_ble_eq_true rfl, Nat.le_of_ble_eq_true rfl⟩ ⟨Nat.le_refl _, Nat.le_refl _⟩ d_Fp_move_5 ?_ (fun t5 => ?_)
  · refine aw_astoreN_n (lo' := [(3, .null), (0, .ref 4), (1, .int a1), (2, .int a2)]) d_Fp_move_8 rfl (by decide) rfl ?_
    refine aw_aloadN_n d_Fp_move_9 0 rfl ?_
    refine aw_ifnullN (tgt := 24) d_Fp_move_10 rfl ?_
    refine aw_iconst d_Fp_move_24 ki_m1 ?_
    exact aw_iret rfl rfl ⟨Nat.le_refl _, Nat.le_refl _⟩ d_Fp_move_25
  · refine aw_grd (fun ht5 => ?_)
    refine aw_astore_n (lo' := [(3, .ref t5), (0, .ref 4), (1, .int a1), (2, .int a2)]) d_Fp_move_8 rfl (by decide) rfl ?_
    refine aw_aload_n d_Fp_move_9 0 rfl ?_
    refine aw_ifnull d_Fp_move_10 ?_
    refine aw_aload_n d_Fp_move_13 1 rfl ?_
    refine aw_getR (t := 29) fl_Fp_57 kd_4 rt_4_9 d_Fp_move_14 ?_
    refine aw_iload_n d_Fp_move_17 3 rfl ?_
    refine aw_V_p (As := [.int a2]) (m_To_isFree) cv_Fp_123 kd_29 rfl rfl rfl (Nat.le_of_ble_eq_true rfl) ⟨Nat.le_of_ble_eq_true rfl, Nat.le_of_ble_eq_true rfl⟩ ⟨Nat.le_refl _, Nat.le_refl _⟩ d_Fp_move_18 (fun y18 => ?_)
    refine aw_if_ne (tgt := 26) d_Fp_move_21 rfl (fun q21 => ?_) (fun q21 => ?_)
    · refine aw_iconst d_Fp_move_24 ki_m1 ?_
      exact aw_iret rfl rfl ⟨Nat.le_refl _, Nat.le_refl _⟩ d_Fp_move_25
    · refine aw_aload_n d_Fp_move_26 0 rfl ?_
      refine aw_getI fl_Fp_142 (fx_isBK ht5 0 (by decide)) d_Fp_move_27 ?_
      refine aw_bI (fun v30 => ?_)
      refine aw_istore (lo' := [(4, .int v30), (3, .ref t5), (0, .ref 4), (1, .int a1), (2, .int a2)]) d_Fp_move_30 (by decide) rfl ?_
      refine aw_aload_n d_Fp_move_32 1 rfl ?_
      refine aw_iload_n d_Fp_move_33 4 rfl ?_
      refine aw_putI pf_Fp_142 (fx_isBK ht5 0 (by decide)) d_Fp_move_34 ?_
      refine aw_bD (fun δ_34 => ?_)
      refine aw_iload d_Fp_move_37 0 rfl ?_
      exact aw_iret rfl rfl ⟨Nat.le_refl _, Nat.le_refl _⟩ d_Fp_move_39
def f_Fp_paper (a1 : Int32) (a2 : Int32) (δ : Dm) : Option (Int32 × Dm) := ((f_To_boothAt a1 δ).bind (fun o5 => ocs o5 (some ((-1 : Int32), δ)) (fun t5 => if isB t5 = true then ((f_Fp_within a2 (1 : Int32) (9999 : Int32) δ).bind (fun y18 => (if y18 = 0 then (some ((-1 : Int32), δ)) else (if ((gI δ t5 4) + a2) ≤ (9999 : Int32) then (bnd (sI δ t5 4 ((gI δ t5 4) + a2)) (fun δ_45 => (some ((gI δ_45 t5 4), δ_45)))) else (some ((-1 : Int32), δ)))))) else none)))
set_option maxHeartbeats 4000000 in
set_option maxRecDepth 100000 in
theorem m_Fp_paper {a1 : Int32} {a2 : Int32} {δ : Dm} {n : Nat} : ∀ x, f_Fp_paper a1 a2 δ = some x → AMet k_Fp_paper 3 0 0 [.ref 4, .int a1, .int a2] δ RT n (Km RT n x) := by
  refine aw_start (lo := [(0, .ref 4), (1, .int a1), (2, .int a2)]) mok_Fp_paper rfl (Nat.le_of_ble_eq_true rfl) ?_
  unfold f_Fp_paper
  refine aw_aload_n d_Fp_paper_0 0 rfl ?_
  refine aw_getR (t := 29) fl_Fp_57 kd_4 rt_4_9 d_Fp_paper_1 ?_
  refine aw_iload_n d_Fp_paper_4 1 rfl ?_
  refine aw_V_r (As := [.int a1]) (m_To_boothAt) cv_Fp_139 kd_29 rfl rfl rfl (Nat.le_of_ble_eq_true rfl) ⟨Nat.le_of_ble_eq_true rfl, Nat.le_of_ble_eq_true rfl⟩ ⟨Nat.le_refl _, Nat.le_refl _⟩ d_Fp_paper_5 ?_ (fun t5 => ?_)
  · refine aw_astoreN_n (lo' := [(3, .null), (0, .ref 4), (1, .int a1), (2, .int a2)]) d_Fp_paper_8 rfl (by decide) rfl ?_
    refine aw_aloadN_n d_Fp_paper_9 0 rfl ?_
    refine aw_ifnullN (tgt := 36) d_Fp_paper_10 rfl ?_
    refine aw_iconst d_Fp_paper_36 ki_m1 ?_
    exact aw_iret rfl rfl ⟨Nat.le_refl _, Nat.le_refl _⟩ d_Fp_paper_37
  · refine aw_grd (fun ht5 => ?_)
    refine aw_astore_n (lo' := [(3, .ref t5), (0, .ref 4), (1, .int a1), (2, .int a2)]) d_Fp_paper_8 rfl (by decide) rfl ?_
    refine aw_aload_n d_Fp_paper_9 0 rfl ?_
    refine aw_ifnull d_Fp_paper_10 ?_
    refine aw_iload_n d_Fp_paper_13 3 rfl ?_
    refine aw_iconst d_Fp_paper_14 ki_1 ?_
    refine aw_sipush d_Fp_paper_15 ks_9999 ?_
    refine aw_S_p (As := [.int a2, .int (1 : Int32), .int (9999 : Int32)]) (m_Fp_within) cs_Fp_70 rfl rfl (Nat.le_of_ble_eq_true rfl) ⟨Nat.le_of_ble_eq_true rfl, Nat.le_of_ble_eq_true rfl⟩ ⟨Nat.le_refl _, Nat.le_refl _⟩ d_Fp_paper_18 (fun y18 => ?_)
    refine aw_if_eq (tgt := 36) d_Fp_paper_21 rfl (fun q21 => ?_) (fun q21 => ?_)
    · refine aw_iconst d_Fp_paper_36 ki_m1 ?_
      exact aw_iret rfl rfl ⟨Nat.le_refl _, Nat.le_refl _⟩ d_Fp_paper_37
    · refine aw_aload_n d_Fp_paper_24 0 rfl ?_
      refine aw_getI fl_Fp_145 (fx_isBK ht5 0 (by decide)) d_Fp_paper_25 ?_
      refine aw_iload_n d_Fp_paper_28 3 rfl ?_
      refine aw_iadd d_Fp_paper_29 ?_
      refine aw_sipush d_Fp_paper_30 ks_9999 ?_
      refine aw_icmp_le (tgt := 38) d_Fp_paper_33 rfl (fun q33 => ?_) (fun q33 => ?_)
      · refine aw_aload_n d_Fp_paper_38 0 rfl ?_
        refine aw_dup d_Fp_paper_39 rfl ?_
        refine aw_getI fl_Fp_145 (fx_isBK ht5 0 (by decide)) d_Fp_paper_40 ?_
        refine aw_iload_n d_Fp_paper_43 3 rfl ?_
        refine aw_iadd d_Fp_paper_44 ?_
        refine aw_putI pf_Fp_145 (fx_isBK ht5 0 (by decide)) d_Fp_paper_45 ?_
        refine aw_bD (fun δ_45 => ?_)
        refine aw_aload_n d_Fp_paper_48 0 rfl ?_
        refine aw_getI fl_Fp_145 (fx_isBK ht5 0 (by decide)) d_Fp_paper_49 ?_
        exact aw_iret rfl rfl ⟨Nat.le_refl _, Nat.le_refl _⟩ d_Fp_paper_52
      · refine aw_iconst d_Fp_paper_36 ki_m1 ?_
        exact aw_iret rfl rfl ⟨Nat.le_refl _, Nat.le_refl _⟩ d_Fp_paper_37
def lp_Ar_fill_JJ_6 (kx6_22 : Int32 → Dm → Option Dm) (a0 : Nat) (a1 : Int64) (v4 : Int32) : Nat → Int32 → Dm → Option Dm
  | 0, _, _ => none
  | f + 1, v3_6, δ6 => (if v4 ≤ v3_6 then (kx6_22 v3_6 δ6) else (if inb v3_6 (KD a0).2 then bnd (sL δ6 a0 (ix v3_6) a1) (fun δ_15 => (lp_Ar_fill_JJ_6 kx6_22 a0 a1 v4 f (v3_6 + (1 : Int32)) δ_15)) else none))
set_option maxHeartbeats 4000000 in
set_option maxRecDepth 100000 in
theorem tl_Ar_fill_JJ_6 {n : Nat} (kx6_22 : Int32 → Dm → Option Dm) (a0 : Nat) (a1 : Int64) (v4 : Int32) (ha0 : (KD a0).1 = 4) (hkx6_22 : ∀ v3_6k δ6k, AWo k_Ar_fill_JJ 1 0 0 22 [(0, .ref a0), (1, .long a1), (3, .int v3_6k), (4, .int v4)] [] δ6k RT n 0 0 (Kv RT n) (kx6_22 v3_6k δ6k)) : ∀ (f : Nat) (v3_6 : Int32) (δ6 : Dm), AWo k_Ar_fill_JJ 1 0 0 6 [(0, .ref a0), (1, .long a1), (3, .int v3_6), (4, .int v4)] [] δ6 RT n 0 0 (Kv RT n) (lp_Ar_fill_JJ_6 kx6_22 a0 a1 v4 f v3_6 δ6) := by
  intro f
  induction f with
  | zero => intro _ _; exact aw_none
  | succ f ih =>
    intro v3_6 δ6
    rw [lp_Ar_fill_JJ_6]
    refine aw_iload_n d_Ar_fill_JJ_6 2 rfl ?_
    refine aw_iload d_Ar_fill_JJ_7 3 rfl ?_
    refine aw_icmp_ge (tgt := 22) d_Ar_fill_JJ_9 rfl (fun q9 => ?_) (fun q9 => ?_)
    · refine aw_sub (lo' := [(0, .ref a0), (1, .long a1), (3, .int v3_6), (4, .int v4)]) [0, 1, 2, 3] rfl ?_
      exact hkx6_22 _ _
    · refine aw_aload_n d_Ar_fill_JJ_12 0 rfl ?_
      refine aw_iload_n d_Ar_fill_JJ_13 2 rfl ?_
      refine aw_lload_n d_Ar_fill_JJ_14 1 rfl ?_
      refine aw_last (kdE ha0) d_Ar_fill_JJ_15 ?_
      refine aw_bD (fun δ_15 => ?_)
      refine aw_iinc (v := (v3_6 + (1 : Int32))) (lo' := [(3, .int (v3_6 + (1 : Int32))), (0, .ref a0), (1, .long a1), (4, .int v4)]) d_Ar_fill_JJ_16 2 rfl (by rw [show Int32.ofInt (1) = (1 : Int32) from by decide]) (by decide) rfl ?_
      refine aw_goto (tgt := 6) d_Ar_fill_JJ_19 rfl ?_
      refine aw_sub (lo' := [(0, .ref a0), (1, .long a1), (3, .int (v3_6 + (1 : Int32))), (4, .int v4)]) [1, 2, 0, 3] rfl ?_
      exact ih _ _
def f_Ar_fill_JJ (a0 : Nat) (a1 : Int64) (δ : Dm) : Option Dm := (bnd (nI (KD a0).2) (fun v4 => (lp_Ar_fill_JJ_6 (fun v3_6x δ6x => (some δ6x)) a0 a1 v4 FU (0 : Int32) δ)))
set_option maxHeartbeats 4000000 in
set_option maxRecDepth 100000 in
theorem m_Ar_fill_JJ {a0 : Nat} {a1 : Int64} {δ : Dm} {n : Nat} (ha0 : (KD a0).1 = 4) : ∀ x, f_Ar_fill_JJ a0 a1 δ = some x → AMet k_Ar_fill_JJ 1 0 0 [.ref a0, .long a1] δ RT n (Kv RT n x) := by
  refine aw_start (lo := [(0, .ref a0), (1, .long a1)]) mok_Ar_fill_JJ rfl (Nat.le_of_ble_eq_true rfl) ?_
  unfold f_Ar_fill_JJ
  refine aw_iconst d_Ar_fill_JJ_0 ki_0 ?_
  refine aw_istore_n (lo' := [(3, .int (0 : Int32)), (0, .ref a0), (1, .long a1)]) d_Ar_fill_JJ_1 rfl (by decide) rfl ?_
  refine aw_aload_n d_Ar_fill_JJ_2 1 rfl ?_
  refine aw_alen (v := (nI (KD a0).2)) (kdE ha0) ⟨by decide, by decide⟩ rfl d_Ar_fill_JJ_3 ?_
  refine aw_bI (fun v4 => ?_)
  refine aw_istore (lo' := [(4, .int v4), (3, .int (0 : Int32)), (0, .ref a0), (1, .long a1)]) d_Ar_fill_JJ_4 (by decide) rfl ?_
  refine aw_sub (lo' := [(0, .ref a0), (1, .long a1), (3, .int (0 : Int32)), (4, .int v4)]) [2, 3, 1, 0] rfl ?_
  refine tl_Ar_fill_JJ_6 _ _ _ _ ha0 (fun v3_6x δ6x => ?_) FU _ _
  · exact aw_vret rfl rfl ⟨Nat.le_refl _, Nat.le_refl _⟩ d_Ar_fill_JJ_22
def f_Fa_tell (a1 : Int32) (a2 : Int64) (δ : Dm) : Option Dm := (if a1 < 0 then (some δ) else (if (9 : Int32) ≤ a1 then (some δ) else (if inb a1 9 then bnd (sL δ 20 (ix a1) a2) (fun δ_19 => (some δ_19)) else none)))
set_option maxHeartbeats 4000000 in
set_option maxRecDepth 100000 in
theorem m_Fa_tell {a1 : Int32} {a2 : Int64} {δ : Dm} {n : Nat} : ∀ x, f_Fa_tell a1 a2 δ = some x → AMet k_Fa_tell 1 0 0 [.ref 19, .int a1, .long a2] δ RT n (Kv RT n x) := by
  refine aw_start (lo := [(0, .ref 19), (1, .int a1), (2, .long a2)]) mok_Fa_tell rfl (Nat.le_of_ble_eq_true rfl) ?_
  unfold f_Fa_tell
  refine aw_iload_n d_Fa_tell_0 1 rfl ?_
  refine aw_if_lt (tgt := 20) d_Fa_tell_1 rfl (fun q1 => ?_) (fun q1 => ?_)
  · exact aw_vret rfl rfl ⟨Nat.le_refl _, Nat.le_refl _⟩ d_Fa_tell_20
  · refine aw_iload_n d_Fa_tell_4 1 rfl ?_
    refine aw_aload_n d_Fa_tell_5 0 rfl ?_
    refine aw_getR (t := 20) fl_Fa_9 kd_19 rt_19_0 d_Fa_tell_6 ?_
    refine aw_alen (v := (9 : Int32)) kd_20 ⟨by decide, by decide⟩ (by decide) d_Fa_tell_9 ?_
    refine aw_icmp_ge (tgt := 20) d_Fa_tell_10 rfl (fun q10 => ?_) (fun q10 => ?_)
    · exact aw_vret rfl rfl ⟨Nat.le_refl _, Nat.le_refl _⟩ d_Fa_tell_20
    · refine aw_aload_n d_Fa_tell_13 0 rfl ?_
      refine aw_getR (t := 20) fl_Fa_9 kd_19 rt_19_0 d_Fa_tell_14 ?_
      refine aw_iload_n d_Fa_tell_17 1 rfl ?_
      refine aw_lload_n d_Fa_tell_18 2 rfl ?_
      refine aw_last kd_20 d_Fa_tell_19 ?_
      refine aw_bD (fun δ_19 => ?_)
      exact aw_vret rfl rfl ⟨Nat.le_refl _, Nat.le_refl _⟩ d_Fa_tell_20
def f_Fa_open (a2 : Nat) (a3 : Int32) (δ : Dm) : Option Dm := ((f_Ar_fill_JJ 20 (0 : Int64) δ).bind (fun y5 => ((f_Fa_tell (8 : Int32) (((gI y5 a2 0)).toInt64) y5).bind (fun y16 => ((f_Fp_get 31 (gI y16 a2 0) y16).bind (fun y29 => ((f_Fa_tell (2 : Int32) ((y29).toInt64) y16).bind (fun y33 => ((f_Fa_tell (4 : Int32) ((a3).toInt64) y33).bind (fun y40 => ((f_Fp_get 30 a3 y40).bind (fun y50 => ((f_Fa_tell (3 : Int32) ((y50).toInt64) y40).bind (fun y54 => (some y54)))))))))))))))
set_option maxHeartbeats 4000000 in
set_option maxRecDepth 100000 in
theorem m_Fa_open {a2 : Nat} {a3 : Int32} {δ : Dm} {n : Nat} (ha2 : isB a2 = true) : ∀ x, f_Fa_open a2 a3 δ = some x → AMet k_Fa_open 2 0 0 [.ref 19, .ref 29, .ref a2, .int a3] δ RT n (Kv RT n x) := by
  refine aw_start (lo := [(0, .ref 19), (1, .ref 29), (2, .ref a2), (3, .int a3)]) mok_Fa_open rfl (Nat.le_of_ble_eq_true rfl) ?_
  unfold f_Fa_open
  refine aw_aload_n d_Fa_open_0 0 rfl ?_
  refine aw_getR (t := 20) fl_Fa_9 kd_19 rt_19_0 d_Fa_open_1 ?_
  refine aw_lconst d_Fa_open_4 kl_0 ?_
  refine aw_S_v (As := [.ref 20, .long (0 : Int64)]) (m_Ar_fill_JJ (congrArg Prod.fst kd_20)) cs_Fa_20 rfl rfl (Nat.le_of_ble_eq_true rfl) ⟨Nat.le_of_ble_eq_true rfl, Nat.le_of_ble_eq_true rfl⟩ ⟨Nat.le_refl _, Nat.le_refl _⟩ d_Fa_open_5 (fun y5 => ?_)
  refine aw_aload_n d_Fa_open_8 0 rfl ?_
  refine aw_bipush d_Fa_open_9 kb_8 ?_
  refine aw_aload_n d_Fa_open_11 2 rfl ?_
  refine aw_getI fl_Fa_26 (fx_isBK ha2 0 (by decide)) d_Fa_open_12 ?_
  refine aw_i2l d_Fa_open_15 ?_
  refine aw_V_v (As := [.int (8 : Int32), .long (((gI y5 a2 0)).toInt64)]) (m_Fa_tell) cv_Fa_32 kd_19 rfl rfl rfl (Nat.le_of_ble_eq_true rfl) ⟨Nat.le_of_ble_eq_true rfl, Nat.le_of_ble_eq_true rfl⟩ ⟨Nat.le_refl _, Nat.le_refl _⟩ d_Fa_open_16 (fun y16 => ?_)
  refine aw_aload_n d_Fa_open_19 0 rfl ?_
  refine aw_iconst d_Fa_open_20 ki_2 ?_
  refine aw_aload_n d_Fa_open_21 1 rfl ?_
  refine aw_getR (t := 31) fl_Fa_36 kd_29 rt_29_4 d_Fa_open_22 ?_
  refine aw_aload_n d_Fa_open_25 2 rfl ?_
  refine aw_getI fl_Fa_26 (fx_isBK ha2 0 (by decide)) d_Fa_open_26 ?_
  refine aw_SN_p (As := [.ref 31, .int (gI y16 a2 0)]) (m_Fp_get (congrArg Prod.fst kd_31)) cs_Fa_42 rfl rfl (Nat.le_of_ble_eq_true rfl) ⟨Nat.le_of_ble_eq_true rfl, Nat.le_of_ble_eq_true rfl⟩ ⟨Nat.le_refl _, Nat.le_refl _⟩ d_Fa_open_29 (fun y29 => ?_)
  refine aw_i2l d_Fa_open_32 ?_
  refine aw_V_v (As := [.int (2 : Int32), .long ((y29).toInt64)]) (m_Fa_tell) cv_Fa_32 kd_19 rfl rfl rfl (Nat.le_of_ble_eq_true rfl) ⟨Nat.le_of_ble_eq_true rfl, Nat.le_of_ble_eq_true rfl⟩ ⟨Nat.le_refl _, Nat.le_refl _⟩ d_Fa_open_33 (fun y33 => ?_)
  refine aw_aload_n d_Fa_open_36 0 rfl ?_
  refine aw_iconst d_Fa_open_37 ki_4 ?_
  refine aw_iload_n d_Fa_open_38 3 rfl ?_
  refine aw_i2l d_Fa_open_39 ?_
  refine aw_V_v (As := [.int (4 : Int32), .long ((a3).toInt64)]) (m_Fa_tell) cv_Fa_32 kd_19 rfl rfl rfl (Nat.le_of_ble_eq_true rfl) ⟨Nat.le_of_ble_eq_true rfl, Nat.le_of_ble_eq_true rfl⟩ ⟨Nat.le_refl _, Nat.le_refl _⟩ d_Fa_open_40 (fun y40 => ?_)
  refine aw_aload_n d_Fa_open_43 0 rfl ?_
  refine aw_iconst d_Fa_open_44 ki_3 ?_
  refine aw_aload_n d_Fa_open_45 1 rfl ?_
  refine aw_getR (t := 30) fl_Fa_48 kd_29 rt_29_3 d_Fa_open_46 ?_
  refine aw_iload_n d_Fa_open_49 3 rfl ?_
  refine aw_SN_p (As := [.ref 30, .int a3]) (m_Fp_get (congrArg Prod.fst kd_30)) cs_Fa_42 rfl rfl (Nat.le_of_ble_eq_true rfl) ⟨Nat.le_of_ble_eq_true rfl, Nat.le_of_ble_eq_true rfl⟩ ⟨Nat.le_refl _, Nat.le_refl _⟩ d_Fa_open_50 (fun y50 => ?_)
  refine aw_i2l d_Fa_open_53 ?_
  refine aw_V_v (As := [.int (3 : Int32), .long ((y50).toInt64)]) (m_Fa_tell) cv_Fa_32 kd_19 rfl rfl rfl (Nat.le_of_ble_eq_true rfl) ⟨Nat.le_of_ble_eq_true rfl, Nat.le_of_ble_eq_true rfl⟩ ⟨Nat.le_refl _, Nat.le_refl _⟩ d_Fa_open_54 (fun y54 => ?_)
  exact aw_vret rfl rfl ⟨Nat.le_refl _, Nat.le_refl _⟩ d_Fa_open_57
def f_Fa_pose (a1 : Int32) (a2 : Int32) (δ : Dm) : Option Dm := ((f_Fa_tell (0 : Int32) ((a1).toInt64) δ).bind (fun y4 => ((f_Fa_tell (1 : Int32) ((a2).toInt64) y4).bind (fun y11 => (some y11)))))
set_option maxHeartbeats 4000000 in
set_option maxRecDepth 100000 in
theorem m_Fa_pose {a1 : Int32} {a2 : Int32} {δ : Dm} {n : Nat} : ∀ x, f_Fa_pose a1 a2 δ = some x → AMet k_Fa_pose 2 0 0 [.ref 19, .int a1, .int a2] δ RT n (Kv RT n x) := by
  refine aw_start (lo := [(0, .ref 19), (1, .int a1), (2, .int a2)]) mok_Fa_pose rfl (Nat.le_of_ble_eq_true rfl) ?_
  unfold f_Fa_pose
  refine aw_aload_n d_Fa_pose_0 0 rfl ?_
  refine aw_iconst d_Fa_pose_1 ki_0 ?_
  refine aw_iload_n d_Fa_pose_2 1 rfl ?_
  refine aw_i2l d_Fa_pose_3 ?_
  refine aw_V_v (As := [.int (0 : Int32), .long ((a1).toInt64)]) (m_Fa_tell) cv_Fa_32 kd_19 rfl rfl rfl (Nat.le_of_ble_eq_true rfl) ⟨Nat.le_of_ble_eq_true rfl, Nat.le_of_ble_eq_true rfl⟩ ⟨Nat.le_refl _, Nat.le_refl _⟩ d_Fa_pose_4 (fun y4 => ?_)
  refine aw_aload_n d_Fa_pose_7 0 rfl ?_
  refine aw_iconst d_Fa_pose_8 ki_1 ?_
  refine aw_iload_n d_Fa_pose_9 2 rfl ?_
  refine aw_i2l d_Fa_pose_10 ?_
  refine aw_V_v (As := [.int (1 : Int32), .long ((a2).toInt64)]) (m_Fa_tell) cv_Fa_32 kd_19 rfl rfl rfl (Nat.le_of_ble_eq_true rfl) ⟨Nat.le_of_ble_eq_true rfl, Nat.le_of_ble_eq_true rfl⟩ ⟨Nat.le_refl _, Nat.le_refl _⟩ d_Fa_pose_11 (fun y11 => ?_)
  exact aw_vret rfl rfl ⟨Nat.le_refl _, Nat.le_refl _⟩ d_Fa_pose_14
def f_Fa_till (a1 : Int32) (a2 : Int32) (δ : Dm) : Option Dm := ((f_Fa_tell (6 : Int32) ((a1).toInt64) δ).bind (fun y5 => ((f_Fa_tell (7 : Int32) ((a2).toInt64) y5).bind (fun y13 => (some y13)))))
set_option maxHeartbeats 4000000 in
set_option maxRecDepth 100000 in
theorem m_Fa_till {a1 : Int32} {a2 : Int32} {δ : Dm} {n : Nat} : ∀ x, f_Fa_till a1 a2 δ = some x → AMet k_Fa_till 2 0 0 [.ref 19, .int a1, .int a2] δ RT n (Kv RT n x) := by
  refine aw_start (lo := [(0, .ref 19), (1, .int a1), (2, .int a2)]) mok_Fa_till rfl (Nat.le_of_ble_eq_true rfl) ?_
  unfold f_Fa_till
  refine aw_aload_n d_Fa_till_0 0 rfl ?_
  refine aw_bipush d_Fa_till_1 kb_6 ?_
  refine aw_iload_n d_Fa_till_3 1 rfl ?_
  refine aw_i2l d_Fa_till_4 ?_
  refine aw_V_v (As := [.int (6 : Int32), .long ((a1).toInt64)]) (m_Fa_tell) cv_Fa_32 kd_19 rfl rfl rfl (Nat.le_of_ble_eq_true rfl) ⟨Nat.le_of_ble_eq_true rfl, Nat.le_of_ble_eq_true rfl⟩ ⟨Nat.le_refl _, Nat.le_refl _⟩ d_Fa_till_5 (fun y5 => ?_)
  refine aw_aload_n d_Fa_till_8 0 rfl ?_
  refine aw_bipush d_Fa_till_9 kb_7 ?_
  refine aw_iload_n d_Fa_till_11 2 rfl ?_
  refine aw_i2l d_Fa_till_12 ?_
  refine aw_V_v (As := [.int (7 : Int32), .long ((a2).toInt64)]) (m_Fa_tell) cv_Fa_32 kd_19 rfl rfl rfl (Nat.le_of_ble_eq_true rfl) ⟨Nat.le_of_ble_eq_true rfl, Nat.le_of_ble_eq_true rfl⟩ ⟨Nat.le_refl _, Nat.le_refl _⟩ d_Fa_till_13 (fun y13 => ?_)
  exact aw_vret rfl rfl ⟨Nat.le_refl _, Nat.le_refl _⟩ d_Fa_till_16
def f_La_isWeak (a0 : Nat) (a1 : Int32) (a2 : Int32) (δ : Dm) : Option Int32 := ((f_Fp_get (a0 + 6) a1 δ).bind (fun y6 => (if y6 ≤ a2 then (some (0 : Int32)) else (some (1 : Int32)))))
set_option maxHeartbeats 4000000 in
set_option maxRecDepth 100000 in
theorem m_La_isWeak {a0 : Nat} {a1 : Int32} {a2 : Int32} {δ : Dm} {n : Nat} (ha0 : isL a0 = true) : ∀ x, f_La_isWeak a0 a1 a2 δ = some x → AMet k_La_isWeak 2 0 0 [.ref a0, .int a1, .int a2] δ RT n (Kp δ RT n x) := by
  refine aw_start (lo := [(0, .ref a0), (1, .int a1), (2, .int a2)]) mok_La_isWeak rfl (Nat.le_of_ble_eq_true rfl) ?_
  unfold f_La_isWeak
  refine aw_iload_n d_La_isWeak_0 2 rfl ?_
  refine aw_aload_n d_La_isWeak_1 0 rfl ?_
  refine aw_getR (t := (a0 + 6)) fl_La_27 (fx_isLK ha0 0 (by decide)) (fx_isLR ha0 0 7 (by decide) (by decide)) d_La_isWeak_2 ?_
  refine aw_iload_n d_La_isWeak_5 1 rfl ?_
  refine aw_SN_p (As := [.ref (a0 + 6), .int a1]) (m_Fp_get (congrArg Prod.fst (fx_isLK ha0 6 (by decide)))) cs_La_50 rfl rfl (Nat.le_of_ble_eq_true rfl) ⟨Nat.le_of_ble_eq_true rfl, Nat.le_of_ble_eq_true rfl⟩ ⟨Nat.le_refl _, Nat.le_refl _⟩ d_La_isWeak_6 (fun y6 => ?_)
  refine aw_icmp_ge (tgt := 16) d_La_isWeak_9 rfl (fun q9 => ?_) (fun q9 => ?_)
  · refine aw_iconst d_La_isWeak_16 ki_0 ?_
    exact aw_zret rfl rfl rfl ⟨Nat.le_refl _, Nat.le_refl _⟩ d_La_isWeak_17
  · refine aw_iconst d_La_isWeak_12 ki_1 ?_
    refine aw_goto (tgt := 17) d_La_isWeak_13 rfl ?_
    exact aw_zret rfl rfl rfl ⟨Nat.le_refl _, Nat.le_refl _⟩ d_La_isWeak_17
def f_Fa_push (a1 : Int32) (a2 : Int64) (δ : Dm) : Option (Int32 × Dm) := (if a1 < 0 then (some (a1, δ)) else (if a1 < (60 : Int32) then (if inb a1 60 then bnd (sL δ 21 (ix a1) a2) (fun δ_21 => (some ((a1 + (1 : Int32)), δ_21))) else none) else (some (a1, δ))))
set_option maxHeartbeats 4000000 in
set_option maxRecDepth 100000 in
theorem m_Fa_push {a1 : Int32} {a2 : Int64} {δ : Dm} {n : Nat} : ∀ x, f_Fa_push a1 a2 δ = some x → AMet k_Fa_push 1 0 0 [.ref 19, .int a1, .long a2] δ RT n (Km RT n x) := by
  refine aw_start (lo := [(0, .ref 19), (1, .int a1), (2, .long a2)]) mok_Fa_push rfl (Nat.le_of_ble_eq_true rfl) ?_
  unfold f_Fa_push
  refine aw_iload_n d_Fa_push_0 1 rfl ?_
  refine aw_if_lt (tgt := 13) d_Fa_push_1 rfl (fun q1 => ?_) (fun q1 => ?_)
  · refine aw_iload_n d_Fa_push_13 1 rfl ?_
    exact aw_iret rfl rfl ⟨Nat.le_refl _, Nat.le_refl _⟩ d_Fa_push_14
  · refine aw_iload_n d_Fa_push_4 1 rfl ?_
    refine aw_aload_n d_Fa_push_5 0 rfl ?_
    refine aw_getR (t := 21) fl_Fa_17 kd_19 rt_19_1 d_Fa_push_6 ?_
    refine aw_alen (v := (60 : Int32)) kd_21 ⟨by decide, by decide⟩ (by decide) d_Fa_push_9 ?_
    refine aw_icmp_lt (tgt := 15) d_Fa_push_10 rfl (fun q10 => ?_) (fun q10 => ?_)
    · refine aw_aload_n d_Fa_push_15 0 rfl ?_
      refine aw_getR (t := 21) fl_Fa_17 kd_19 rt_19_1 d_Fa_push_16 ?_
      refine aw_iload_n d_Fa_push_19 1 rfl ?_
      refine aw_lload_n d_Fa_push_20 2 rfl ?_
      refine aw_last kd_21 d_Fa_push_21 ?_
      refine aw_bD (fun δ_21 => ?_)
      refine aw_iload_n d_Fa_push_22 1 rfl ?_
      refine aw_iconst d_Fa_push_23 ki_1 ?_
      refine aw_iadd d_Fa_push_24 ?_
      exact aw_iret rfl rfl ⟨Nat.le_refl _, Nat.le_refl _⟩ d_Fa_push_25
    · refine aw_iload_n d_Fa_push_13 1 rfl ?_
      exact aw_iret rfl rfl ⟨Nat.le_refl _, Nat.le_refl _⟩ d_Fa_push_14
def f_Fa_meaning (a1 : Int32) (δ : Dm) : Option Int64 := (if a1 < 0 then (some (0 : Int64)) else (if (9 : Int32) ≤ a1 then (some (0 : Int64)) else (if inb a1 9 then (some (gL δ 20 (ix a1))) else none)))
set_option maxHeartbeats 4000000 in
set_option maxRecDepth 100000 in
theorem m_Fa_meaning {a1 : Int32} {δ : Dm} {n : Nat} : ∀ x, f_Fa_meaning a1 δ = some x → AMet k_Fa_meaning 1 0 0 [.ref 19, .int a1] δ RT n (Kl δ RT n x) := by
  refine aw_start (lo := [(0, .ref 19), (1, .int a1)]) mok_Fa_meaning rfl (Nat.le_of_ble_eq_true rfl) ?_
  unfold f_Fa_meaning
  refine aw_iload_n d_Fa_meaning_0 1 rfl ?_
  refine aw_if_lt (tgt := 22) d_Fa_meaning_1 rfl (fun q1 => ?_) (fun q1 => ?_)
  · refine aw_lconst d_Fa_meaning_22 kl_0 ?_
    exact aw_lret rfl rfl ⟨Nat.le_refl _, Nat.le_refl _⟩ d_Fa_meaning_23
  · refine aw_iload_n d_Fa_meaning_4 1 rfl ?_
    refine aw_aload_n d_Fa_meaning_5 0 rfl ?_
    refine aw_getR (t := 20) fl_Fa_9 kd_19 rt_19_0 d_Fa_meaning_6 ?_
    refine aw_alen (v := (9 : Int32)) kd_20 ⟨by decide, by decide⟩ (by decide) d_Fa_meaning_9 ?_
    refine aw_icmp_ge (tgt := 22) d_Fa_meaning_10 rfl (fun q10 => ?_) (fun q10 => ?_)
    · refine aw_lconst d_Fa_meaning_22 kl_0 ?_
      exact aw_lret rfl rfl ⟨Nat.le_refl _, Nat.le_refl _⟩ d_Fa_meaning_23
    · refine aw_aload_n d_Fa_meaning_13 0 rfl ?_
      refine aw_getR (t := 20) fl_Fa_9 kd_19 rt_19_0 d_Fa_meaning_14 ?_
      refine aw_iload_n d_Fa_meaning_17 1 rfl ?_
      refine aw_lald kd_20 d_Fa_meaning_18 ?_
      refine aw_goto (tgt := 23) d_Fa_meaning_19 rfl ?_
      exact aw_lret rfl rfl ⟨Nat.le_refl _, Nat.le_refl _⟩ d_Fa_meaning_23
def f_Fa_flip (a1 : Int32) (δ : Dm) : Option Dm := (if a1 < (1 : Int32) then (some δ) else (if (60 : Int32) < a1 then (some δ) else (if inb (a1 - (1 : Int32)) 60 then (if inb (a1 - (1 : Int32)) 60 then bnd (sL δ 21 (ix (a1 - (1 : Int32))) ((1 : Int64) - (gL δ 21 (ix (a1 - (1 : Int32)))))) (fun δ_31 => (some δ_31)) else none) else none)))
set_option maxHeartbeats 4000000 in
set_option maxRecDepth 100000 in
theorem m_Fa_flip {a1 : Int32} {δ : Dm} {n : Nat} : ∀ x, f_Fa_flip a1 δ = some x → AMet k_Fa_flip 1 0 0 [.ref 19, .int a1] δ RT n (Kv RT n x) := by
  refine aw_start (lo := [(0, .ref 19), (1, .int a1)]) mok_Fa_flip rfl (Nat.le_of_ble_eq_true rfl) ?_
  unfold f_Fa_flip
  refine aw_iload_n d_Fa_flip_0 1 rfl ?_
  refine aw_iconst d_Fa_flip_1 ki_1 ?_
  refine aw_icmp_lt (tgt := 32) d_Fa_flip_2 rfl (fun q2 => ?_) (fun q2 => ?_)
  · exact aw_vret rfl rfl ⟨Nat.le_refl _, Nat.le_refl _⟩ d_Fa_flip_32
  · refine aw_iload_n d_Fa_flip_5 1 rfl ?_
    refine aw_aload_n d_Fa_flip_6 0 rfl ?_
    refine aw_getR (t := 21) fl_Fa_17 kd_19 rt_19_1 d_Fa_flip_7 ?_
    refine aw_alen (v := (60 : Int32)) kd_21 ⟨by decide, by decide⟩ (by decide) d_Fa_flip_10 ?_
    refine aw_icmp_gt (tgt := 32) d_Fa_flip_11 rfl (fun q11 => ?_) (fun q11 => ?_)
    · exact aw_vret rfl rfl ⟨Nat.le_refl _, Nat.le_refl _⟩ d_Fa_flip_32
    · refine aw_aload_n d_Fa_flip_14 0 rfl ?_
      refine aw_getR (t := 21) fl_Fa_17 kd_19 rt_19_1 d_Fa_flip_15 ?_
      refine aw_iload_n d_Fa_flip_18 1 rfl ?_
      refine aw_iconst d_Fa_flip_19 ki_1 ?_
      refine aw_isub d_Fa_flip_20 ?_
      refine aw_lconst d_Fa_flip_21 kl_1 ?_
      refine aw_aload_n d_Fa_flip_22 0 rfl ?_
      refine aw_getR (t := 21) fl_Fa_17 kd_19 rt_19_1 d_Fa_flip_23 ?_
      refine aw_iload_n d_Fa_flip_26 1 rfl ?_
      refine aw_iconst d_Fa_flip_27 ki_1 ?_
      refine aw_isub d_Fa_flip_28 ?_
      refine aw_lald kd_21 d_Fa_flip_29 ?_
      refine aw_lsub d_Fa_flip_30 ?_
      refine aw_last kd_21 d_Fa_flip_31 ?_
      refine aw_bD (fun δ_31 => ?_)
      exact aw_vret rfl rfl ⟨Nat.le_refl _, Nat.le_refl _⟩ d_Fa_flip_32
def jp_Fa_join_254 (a1 : Int32) (a2 : Int32) (v24 : Int64) (v33 : Int64) (δ : Dm) (v7_254 : Int64) : Option (Int32 × Dm) := (if inb (a1 - (2 : Int32)) 60 then bnd (sL δ 21 (ix (a1 - (2 : Int32))) v7_254) (fun δ_263 => (some ((a1 - (1 : Int32)), δ_263))) else none)
set_option maxHeartbeats 4000000 in
set_option maxRecDepth 100000 in
theorem tj_Fa_join_254 {n : Nat} (a1 : Int32) (a2 : Int32) (v24 : Int64) (v33 : Int64) (δ : Dm) (v7_254 : Int64) : AWo k_Fa_join 1 0 0 254 [(0, .ref 19), (1, .int a1), (2, .int a2), (3, .long v24), (5, .long v33), (7, .long v7_254)] [] δ RT n 0 0 (Km RT n) (jp_Fa_join_254 a1 a2 v24 v33 δ v7_254) := by
  unfold jp_Fa_join_254
  refine aw_aload_n d_Fa_join_254 0 rfl ?_
  refine aw_getR (t := 21) fl_Fa_17 kd_19 rt_19_1 d_Fa_join_255 ?_
  refine aw_iload_n d_Fa_join_258 1 rfl ?_
  refine aw_iconst d_Fa_join_259 ki_2 ?_
  refine aw_isub d_Fa_join_260 ?_
  refine aw_lload d_Fa_join_261 5 rfl ?_
  refine aw_last kd_21 d_Fa_join_263 ?_
  refine aw_bD (fun δ_263 => ?_)
  refine aw_iload_n d_Fa_join_264 1 rfl ?_
  refine aw_iconst d_Fa_join_265 ki_1 ?_
  refine aw_isub d_Fa_join_266 ?_
  exact aw_iret rfl rfl ⟨Nat.le_refl _, Nat.le_refl _⟩ d_Fa_join_267
def jp_Fa_join_231 (a1 : Int32) (a2 : Int32) (v24 : Int64) (v33 : Int64) (δ : Dm) (s0_231 : Int64) : Option (Int32 × Dm) := (jp_Fa_join_254 a1 a2 v24 v33 δ s0_231)
set_option maxHeartbeats 4000000 in
set_option maxRecDepth 100000 in
theorem tj_Fa_join_231 {n : Nat} (a1 : Int32) (a2 : Int32) (v24 : Int64) (v33 : Int64) (δ : Dm) (s0_231 : Int64) : AWo k_Fa_join 1 0 0 231 [(0, .ref 19), (1, .int a1), (2, .int a2), (3, .long v24), (5, .long v33), (7, .long (0 : Int64))] [.long s0_231] δ RT n 0 0 (Km RT n) (jp_Fa_join_231 a1 a2 v24 v33 δ s0_231) := by
  unfold jp_Fa_join_231
  refine aw_lstore (lo' := [(7, .long s0_231), (0, .ref 19), (1, .int a1), (2, .int a2), (3, .long v24), (5, .long v33)]) d_Fa_join_231 (by decide) rfl ?_
  refine aw_goto (tgt := 254) d_Fa_join_233 rfl ?_
  refine aw_sub (lo' := [(0, .ref 19), (1, .int a1), (2, .int a2), (3, .long v24), (5, .long v33), (7, .long s0_231)]) [1, 2, 3, 4, 5, 0] rfl ?_
  exact tj_Fa_join_254 _ _ _ _ _ _
def jp_Fa_join_214 (a1 : Int32) (a2 : Int32) (v24 : Int64) (v33 : Int64) (δ : Dm) (s0_214 : Int64) : Option (Int32 × Dm) := (jp_Fa_join_254 a1 a2 v24 v33 δ s0_214)
set_option maxHeartbeats 4000000 in
set_option maxRecDepth 100000 in
theorem tj_Fa_join_214 {n : Nat} (a1 : Int32) (a2 : Int32) (v24 : Int64) (v33 : Int64) (δ : Dm) (s0_214 : Int64) : AWo k_Fa_join 1 0 0 214 [(0, .ref 19), (1, .int a1), (2, .int a2), (3, .long v24), (5, .long v33), (7, .long (0 : Int64))] [.long s0_214] δ RT n 0 0 (Km RT n) (jp_Fa_join_214 a1 a2 v24 v33 δ s0_214) := by
  unfold jp_Fa_join_214
  refine aw_lstore (lo' := [(7, .long s0_214), (0, .ref 19), (1, .int a1), (2, .int a2), (3, .long v24), (5, .long v33)]) d_Fa_join_214 (by decide) rfl ?_
  refine aw_goto (tgt := 254) d_Fa_join_216 rfl ?_
  refine aw_sub (lo' := [(0, .ref 19), (1, .int a1), (2, .int a2), (3, .long v24), (5, .long v33), (7, .long s0_214)]) [1, 2, 3, 4, 5, 0] rfl ?_
  exact tj_Fa_join_254 _ _ _ _ _ _
def jp_Fa_join_197 (a1 : Int32) (a2 : Int32) (v24 : Int64) (v33 : Int64) (δ : Dm) (s0_197 : Int64) : Option (Int32 × Dm) := (jp_Fa_join_254 a1 a2 v24 v33 δ s0_197)
set_option maxHeartbeats 4000000 in
set_option maxRecDepth 100000 in
theorem tj_Fa_join_197 {n : Nat} (a1 : Int32) (a2 : Int32) (v24 : Int64) (v33 : Int64) (δ : Dm) (s0_197 : Int64) : AWo k_Fa_join 1 0 0 197 [(0, .ref 19), (1, .int a1), (2, .int a2), (3, .long v24), (5, .long v33), (7, .long (0 : Int64))] [.long s0_197] δ RT n 0 0 (Km RT n) (jp_Fa_join_197 a1 a2 v24 v33 δ s0_197) := by
  unfold jp_Fa_join_197
  refine aw_lstore (lo' := [(7, .long s0_197), (0, .ref 19), (1, .int a1), (2, .int a2), (3, .long v24), (5, .long v33)]) d_Fa_join_197 (by decide) rfl ?_
  refine aw_goto (tgt := 254) d_Fa_join_199 rfl ?_
  refine aw_sub (lo' := [(0, .ref 19), (1, .int a1), (2, .int a2), (3, .long v24), (5, .long v33), (7, .long s0_197)]) [1, 2, 3, 4, 5, 0] rfl ?_
  exact tj_Fa_join_254 _ _ _ _ _ _
def jp_Fa_join_180 (a1 : Int32) (a2 : Int32) (v24 : Int64) (v33 : Int64) (δ : Dm) (s0_180 : Int64) : Option (Int32 × Dm) := (jp_Fa_join_254 a1 a2 v24 v33 δ s0_180)
set_option maxHeartbeats 4000000 in
set_option maxRecDepth 100000 in
theorem tj_Fa_join_180 {n : Nat} (a1 : Int32) (a2 : Int32) (v24 : Int64) (v33 : Int64) (δ : Dm) (s0_180 : Int64) : AWo k_Fa_join 1 0 0 180 [(0, .ref 19), (1, .int a1), (2, .int a2), (3, .long v24), (5, .long v33), (7, .long (0 : Int64))] [.long s0_180] δ RT n 0 0 (Km RT n) (jp_Fa_join_180 a1 a2 v24 v33 δ s0_180) := by
  unfold jp_Fa_join_180
  refine aw_lstore (lo' := [(7, .long s0_180), (0, .ref 19), (1, .int a1), (2, .int a2), (3, .long v24), (5, .long v33)]) d_Fa_join_180 (by decide) rfl ?_
  refine aw_goto (tgt := 254) d_Fa_join_182 rfl ?_
  refine aw_sub (lo' := [(0, .ref 19), (1, .int a1), (2, .int a2), (3, .long v24), (5, .long v33), (7, .long s0_180)]) [1, 2, 3, 4, 5, 0] rfl ?_
  exact tj_Fa_join_254 _ _ _ _ _ _
def jp_Fa_join_163 (a1 : Int32) (a2 : Int32) (v24 : Int64) (v33 : Int64) (δ : Dm) (s0_163 : Int64) : Option (Int32 × Dm) := (jp_Fa_join_254 a1 a2 v24 v33 δ s0_163)
set_option maxHeartbeats 4000000 in
set_option maxRecDepth 100000 in
theorem tj_Fa_join_163 {n : Nat} (a1 : Int32) (a2 : Int32) (v24 : Int64) (v33 : Int64) (δ : Dm) (s0_163 : Int64) : AWo k_Fa_join 1 0 0 163 [(0, .ref 19), (1, .int a1), (2, .int a2), (3, .long v24), (5, .long v33), (7, .long (0 : Int64))] [.long s0_163] δ RT n 0 0 (Km RT n) (jp_Fa_join_163 a1 a2 v24 v33 δ s0_163) := by
  unfold jp_Fa_join_163
  refine aw_lstore (lo' := [(7, .long s0_163), (0, .ref 19), (1, .int a1), (2, .int a2), (3, .long v24), (5, .long v33)]) d_Fa_join_163 (by decide) rfl ?_
  refine aw_goto (tgt := 254) d_Fa_join_165 rfl ?_
  refine aw_sub (lo' := [(0, .ref 19), (1, .int a1), (2, .int a2), (3, .long v24), (5, .long v33), (7, .long s0_163)]) [1, 2, 3, 4, 5, 0] rfl ?_
  exact tj_Fa_join_254 _ _ _ _ _ _
def jp_Fa_join_146 (a1 : Int32) (a2 : Int32) (v24 : Int64) (v33 : Int64) (δ : Dm) (s0_146 : Int64) : Option (Int32 × Dm) := (jp_Fa_join_254 a1 a2 v24 v33 δ s0_146)
set_option maxHeartbeats 4000000 in
set_option maxRecDepth 100000 in
theorem tj_Fa_join_146 {n : Nat} (a1 : Int32) (a2 : Int32) (v24 : Int64) (v33 : Int64) (δ : Dm) (s0_146 : Int64) : AWo k_Fa_join 1 0 0 146 [(0, .ref 19), (1, .int a1), (2, .int a2), (3, .long v24), (5, .long v33), (7, .long (0 : Int64))] [.long s0_146] δ RT n 0 0 (Km RT n) (jp_Fa_join_146 a1 a2 v24 v33 δ s0_146) := by
  unfold jp_Fa_join_146
  refine aw_lstore (lo' := [(7, .long s0_146), (0, .ref 19), (1, .int a1), (2, .int a2), (3, .long v24), (5, .long v33)]) d_Fa_join_146 (by decide) rfl ?_
  refine aw_goto (tgt := 254) d_Fa_join_148 rfl ?_
  refine aw_sub (lo' := [(0, .ref 19), (1, .int a1), (2, .int a2), (3, .long v24), (5, .long v33), (7, .long s0_146)]) [1, 2, 3, 4, 5, 0] rfl ?_
  exact tj_Fa_join_254 _ _ _ _ _ _
def f_Fa_join (a1 : Int32) (a2 : Int32) (δ : Dm) : Option (Int32 × Dm) := (if a1 < (2 : Int32) then (some (a1, δ)) else (if a1 ≤ (60 : Int32) then (if inb (a1 - (2 : Int32)) 60 then (bnd (gL δ 21 (ix (a1 - (2 : Int32)))) (fun v24 => (if inb (a1 - (1 : Int32)) 60 then (bnd (gL δ 21 (ix (a1 - (1 : Int32)))) (fun v33 => (if (a2).toInt = (18 : Int) then (bnd (v24 ||| v33) (fun v249 => (jp_Fa_join_254 a1 a2 v24 v33 δ v249))) else (if (a2).toInt = (19 : Int) then (bnd (v24 &&& v33) (fun v240 => (jp_Fa_join_254 a1 a2 v24 v33 δ v240))) else (if (a2).toInt = (20 : Int) then (jp_Fa_join_254 a1 a2 v24 v33 δ (0 : Int64)) else (if (a2).toInt = (21 : Int) then (jp_Fa_join_254 a1 a2 v24 v33 δ (0 : Int64)) else (if (a2).toInt = (22 : Int) then (bnd (v24 + v33) (fun v108 => (jp_Fa_join_254 a1 a2 v24 v33 δ v108))) else (if (a2).toInt = (23 : Int) then (bnd (v24 - v33) (fun v117 => (jp_Fa_join_254 a1 a2 v24 v33 δ v117))) else (if (a2).toInt = (24 : Int) then (bnd (v24 * v33) (fun v126 => (jp_Fa_join_254 a1 a2 v24 v33 δ v126))) else (if (a2).toInt = (25 : Int) then (if (lg_cmp v33 (0 : Int64)) = 0 then (jp_Fa_join_146 a1 a2 v24 v33 δ (0 : Int64)) else (if v33 = 0 then none else (jp_Fa_join_146 a1 a2 v24 v33 δ (v24 / v33)))) else (if (a2).toInt = (26 : Int) then (if 0 ≤ (lg_cmp v24 v33) then (jp_Fa_join_163 a1 a2 v24 v33 δ (0 : Int64)) else (jp_Fa_join_163 a1 a2 v24 v33 δ (1 : Int64))) else (if (a2).toInt = (27 : Int) then (if 0 < (lg_cmp v24 v33) then (jp_Fa_join_180 a1 a2 v24 v33 δ (0 : Int64)) else (jp_Fa_join_180 a1 a2 v24 v33 δ (1 : Int64))) else (if (a2).toInt = (28 : Int) then (if (lg_cmp v24 v33) = 0 then (jp_Fa_join_197 a1 a2 v24 v33 δ (1 : Int64)) else (jp_Fa_join_197 a1 a2 v24 v33 δ (0 : Int64))) else (if (a2).toInt = (29 : Int) then (if (lg_cmp v24 v33) < 0 then (jp_Fa_join_214 a1 a2 v24 v33 δ (0 : Int64)) else (jp_Fa_join_214 a1 a2 v24 v33 δ (1 : Int64))) else (if (a2).toInt = (30 : Int) then (if (lg_cmp v24 v33) ≤ 0 then (jp_Fa_join_231 a1 a2 v24 v33 δ (0 : Int64)) else (jp_Fa_join_231 a1 a2 v24 v33 δ (1 : Int64))) else (jp_Fa_join_254 a1 a2 v24 v33 δ (0 : Int64))))))))))))))))) else none))) else none) else (some (a1, δ))))
set_option maxHeartbeats 4000000 in
set_option maxRecDepth 100000 in
theorem m_Fa_join {a1 : Int32} {a2 : Int32} {δ : Dm} {n : Nat} : ∀ x, f_Fa_join a1 a2 δ = some x → AMet k_Fa_join 1 0 0 [.ref 19, .int a1, .int a2] δ RT n (Km RT n x) := by
  refine aw_start (lo := [(0, .ref 19), (1, .int a1), (2, .int a2)]) mok_Fa_join rfl (Nat.le_of_ble_eq_true rfl) ?_
  unfold f_Fa_join
  refine aw_iload_n d_Fa_join_0 1 rfl ?_
  refine aw_iconst d_Fa_join_1 ki_2 ?_
  refine aw_icmp_lt (tgt := 14) d_Fa_join_2 rfl (fun q2 => ?_) (fun q2 => ?_)
  · refine aw_iload_n d_Fa_join_14 1 rfl ?_
    exact aw_iret rfl rfl ⟨Nat.le_refl _, Nat.le_refl _⟩ d_Fa_join_15
  · refine aw_iload_n d_Fa_join_5 1 rfl ?_
    refine aw_aload_n d_Fa_join_6 0 rfl ?_
    refine aw_getR (t := 21) fl_Fa_17 kd_19 rt_19_1 d_Fa_join_7 ?_
    refine aw_alen (v := (60 : Int32)) kd_21 ⟨by decide, by decide⟩ (by decide) d_Fa_join_10 ?_
    refine aw_icmp_le (tgt := 16) d_Fa_join_11 rfl (fun q11 => ?_) (fun q11 => ?_)
    · refine aw_aload_n d_Fa_join_16 0 rfl ?_
      refine aw_getR (t := 21) fl_Fa_17 kd_19 rt_19_1 d_Fa_join_17 ?_
      refine aw_iload_n d_Fa_join_20 1 rfl ?_
      refine aw_iconst d_Fa_join_21 ki_2 ?_
      refine aw_isub d_Fa_join_22 ?_
      refine aw_lald kd_21 d_Fa_join_23 ?_
      refine aw_bL (fun v24 => ?_)
      refine aw_lstore_n (lo' := [(3, .long v24), (0, .ref 19), (1, .int a1), (2, .int a2)]) d_Fa_join_24 rfl (by decide) rfl ?_
      refine aw_aload_n d_Fa_join_25 1 rfl ?_
      refine aw_getR (t := 21) fl_Fa_17 kd_19 rt_19_1 d_Fa_join_26 ?_
      refine aw_iload_n d_Fa_join_29 2 rfl ?_
      refine aw_iconst d_Fa_join_30 ki_1 ?_
      refine aw_isub d_Fa_join_31 ?_
      refine aw_lald kd_21 d_Fa_join_32 ?_
      refine aw_bL (fun v33 => ?_)
      refine aw_lstore (lo' := [(5, .long v33), (3, .long v24), (0, .ref 19), (1, .int a1), (2, .int a2)]) d_Fa_join_33 (by decide) rfl ?_
      refine aw_lconst d_Fa_join_35 kl_0 ?_
      refine aw_lstore (lo' := [(7, .long (0 : Int64)), (5, .long v33), (3, .long v24), (0, .ref 19), (1, .int a1), (2, .int a2)]) d_Fa_join_36 (by decide) rfl ?_
      refine aw_iload_n d_Fa_join_38 5 rfl ?_
      refine aw_ite (fun q39 => ?_) (fun q39_0 => ?_)
      · refine aw_tswitch (tgt := 245) d_Fa_join_39 q39 (by decide) (by decide) rfl rfl ?_
        refine aw_lload_n d_Fa_join_245 2 rfl ?_
        refine aw_lload d_Fa_join_246 1 rfl ?_
        refine aw_lor d_Fa_join_248 ?_
        refine aw_bL (fun v249 => ?_)
        refine aw_lstore (lo' := [(7, .long v249), (5, .long v33), (3, .long v24), (0, .ref 19), (1, .int a1), (2, .int a2)]) d_Fa_join_249 (by decide) rfl ?_
        refine aw_goto (tgt := 254) d_Fa_join_251 rfl ?_
        refine aw_sub (lo' := [(0, .ref 19), (1, .int a1), (2, .int a2), (3, .long v24), (5, .long v33), (7, .long v249)]) [3, 4, 5, 2, 1, 0] rfl ?_
        exact tj_Fa_join_254 _ _ _ _ _ _
      · refine aw_ite (fun q39 => ?_) (fun q39_1 => ?_)
        · refine aw_tswitch (tgt := 236) d_Fa_join_39 q39 (by decide) (by decide) rfl rfl ?_
          refine aw_lload_n d_Fa_join_236 2 rfl ?_
          refine aw_lload d_Fa_join_237 1 rfl ?_
          refine aw_land d_Fa_join_239 ?_
          refine aw_bL (fun v240 => ?_)
          refine aw_lstore (lo' := [(7, .long v240), (5, .long v33), (3, .long v24), (0, .ref 19), (1, .int a1), (2, .int a2)]) d_Fa_join_240 (by decide) rfl ?_
          refine aw_goto (tgt := 254) d_Fa_join_242 rfl ?_
          refine aw_sub (lo' := [(0, .ref 19), (1, .int a1), (2, .int a2), (3, .long v24), (5, .long v33), (7, .long v240)]) [3, 4, 5, 2, 1, 0] rfl ?_
          exact tj_Fa_join_254 _ _ _ _ _ _
        · refine aw_ite (fun q39 => ?_) (fun q39_2 => ?_)
          · refine aw_tswitch (tgt := 254) d_Fa_join_39 q39 (by decide) (by decide) rfl rfl ?_
            refine aw_sub (lo' := [(0, .ref 19), (1, .int a1), (2, .int a2), (3, .long v24), (5, .long v33), (7, .long (0 : Int64))]) [3, 4, 5, 2, 1, 0] rfl ?_
            exact tj_Fa_join_254 _ _ _ _ _ _
          · refine aw_ite (fun q39 => ?_) (fun q39_3 => ?_)
            · refine aw_tswitch (tgt := 254) d_Fa_join_39 q39 (by decide) (by decide) rfl rfl ?_
              refine aw_sub (lo' := [(0, .ref 19), (1, .int a1), (2, .int a2), (3, .long v24), (5, .long v33), (7, .long (0 : Int64))]) [3, 4, 5, 2, 1, 0] rfl ?_
              exact tj_Fa_join_254 _ _ _ _ _ _
            · refine aw_ite (fun q39 => ?_) (fun q39_4 => ?_)
              · refine aw_tswitch (tgt := 104) d_Fa_join_39 q39 (by decide) (by decide) rfl rfl ?_
                refine aw_lload_n d_Fa_join_104 2 rfl ?_
                refine aw_lload d_Fa_join_105 1 rfl ?_
                refine aw_ladd d_Fa_join_107 ?_
                refine aw_bL (fun v108 => ?_)
                refine aw_lstore (lo' := [(7, .long v108), (5, .long v33), (3, .long v24), (0, .ref 19), (1, .int a1), (2, .int a2)]) d_Fa_join_108 (by decide) rfl ?_
                refine aw_goto (tgt := 254) d_Fa_join_110 rfl ?_
                refine aw_sub (lo' := [(0, .ref 19), (1, .int a1), (2, .int a2), (3, .long v24), (5, .long v33), (7, .long v108)]) [3, 4, 5, 2, 1, 0] rfl ?_
                exact tj_Fa_join_254 _ _ _ _ _ _
              · refine aw_ite (fun q39 => ?_) (fun q39_5 => ?_)
                · refine aw_tswitch (tgt := 113) d_Fa_join_39 q39 (by decide) (by decide) rfl rfl ?_
                  refine aw_lload_n d_Fa_join_113 2 rfl ?_
                  refine aw_lload d_Fa_join_114 1 rfl ?_
                  refine aw_lsub d_Fa_join_116 ?_
                  refine aw_bL (fun v117 => ?_)
                  refine aw_lstore (lo' := [(7, .long v117), (5, .long v33), (3, .long v24), (0, .ref 19), (1, .int a1), (2, .int a2)]) d_Fa_join_117 (by decide) rfl ?_
                  refine aw_goto (tgt := 254) d_Fa_join_119 rfl ?_
                  refine aw_sub (lo' := [(0, .ref 19), (1, .int a1), (2, .int a2), (3, .long v24), (5, .long v33), (7, .long v117)]) [3, 4, 5, 2, 1, 0] rfl ?_
                  exact tj_Fa_join_254 _ _ _ _ _ _
                · refine aw_ite (fun q39 => ?_) (fun q39_6 => ?_)
                  · refine aw_tswitch (tgt := 122) d_Fa_join_39 q39 (by decide) (by decide) rfl rfl ?_
                    refine aw_lload_n d_Fa_join_122 2 rfl ?_
                    refine aw_lload d_Fa_join_123 1 rfl ?_
                    refine aw_lmul d_Fa_join_125 ?_
                    refine aw_bL (fun v126 => ?_)
                    refine aw_lstore (lo' := [(7, .long v126), (5, .long v33), (3, .long v24), (0, .ref 19), (1, .int a1), (2, .int a2)]) d_Fa_join_126 (by decide) rfl ?_
                    refine aw_goto (tgt := 254) d_Fa_join_128 rfl ?_
                    refine aw_sub (lo' := [(0, .ref 19), (1, .int a1), (2, .int a2), (3, .long v24), (5, .long v33), (7, .long v126)]) [3, 4, 5, 2, 1, 0] rfl ?_
                    exact tj_Fa_join_254 _ _ _ _ _ _
                  · refine aw_ite (fun q39 => ?_) (fun q39_7 => ?_)
                    · refine aw_tswitch (tgt := 131) d_Fa_join_39 q39 (by decide) (by decide) rfl rfl ?_
                      refine aw_lload d_Fa_join_131 1 rfl ?_
                      refine aw_lconst d_Fa_join_133 kl_0 ?_
                      refine aw_lcmp d_Fa_join_134 ?_
                      refine aw_if_ne (tgt := 142) d_Fa_join_135 rfl (fun q135 => ?_) (fun q135 => ?_)
                      · refine aw_lconst d_Fa_join_138 kl_0 ?_
                        refine aw_goto (tgt := 146) d_Fa_join_139 rfl ?_
                        refine aw_sub (lo' := [(0, .ref 19), (1, .int a1), (2, .int a2), (3, .long v24), (5, .long v33), (7, .long (0 : Int64))]) [3, 4, 5, 2, 1, 0] rfl ?_
                        exact tj_Fa_join_146 _ _ _ _ _ _
                      · refine aw_lload_n d_Fa_join_142 2 rfl ?_
                        refine aw_lload d_Fa_join_143 1 rfl ?_
                        refine aw_ldiv d_Fa_join_145 ?_
                        refine aw_sub (lo' := [(0, .ref 19), (1, .int a1), (2, .int a2), (3, .long v24), (5, .long v33), (7, .long (0 : Int64))]) [3, 4, 5, 2, 1, 0] rfl ?_
                        exact tj_Fa_join_146 _ _ _ _ _ _
                    · refine aw_ite (fun q39 => ?_) (fun q39_8 => ?_)
                      · refine aw_tswitch (tgt := 151) d_Fa_join_39 q39 (by decide) (by decide) rfl rfl ?_
                        refine aw_lload_n d_Fa_join_151 2 rfl ?_
                        refine aw_lload d_Fa_join_152 1 rfl ?_
                        refine aw_lcmp d_Fa_join_154 ?_
                        refine aw_if_ge (tgt := 162) d_Fa_join_155 rfl (fun q155 => ?_) (fun q155 => ?_)
                        · refine aw_lconst d_Fa_join_162 kl_0 ?_
                          refine aw_sub (lo' := [(0, .ref 19), (1, .int a1), (2, .int a2), (3, .long v24), (5, .long v33), (7, .long (0 : Int64))]) [3, 4, 5, 2, 1, 0] rfl ?_
                          exact tj_Fa_join_163 _ _ _ _ _ _
                        · refine aw_lconst d_Fa_join_158 kl_1 ?_
                          refine aw_goto (tgt := 163) d_Fa_join_159 rfl ?_
                          refine aw_sub (lo' := [(0, .ref 19), (1, .int a1), (2, .int a2), (3, .long v24), (5, .long v33), (7, .long (0 : Int64))]) [3, 4, 5, 2, 1, 0] rfl ?_
                          exact tj_Fa_join_163 _ _ _ _ _ _
                      · refine aw_ite (fun q39 => ?_) (fun q39_9 => ?_)
                        · refine aw_tswitch (tgt := 168) d_Fa_join_39 q39 (by decide) (by decide) rfl rfl ?_
                          refine aw_lload_n d_Fa_join_168 2 rfl ?_
                          refine aw_lload d_Fa_join_169 1 rfl ?_
                          refine aw_lcmp d_Fa_join_171 ?_
                          refine aw_if_gt (tgt := 179) d_Fa_join_172 rfl (fun q172 => ?_) (fun q172 => ?_)
                          · refine aw_lconst d_Fa_join_179 kl_0 ?_
                            refine aw_sub (lo' := [(0, .ref 19), (1, .int a1), (2, .int a2), (3, .long v24), (5, .long v33), (7, .long (0 : Int64))]) [3, 4, 5, 2, 1, 0] rfl ?_
                            exact tj_Fa_join_180 _ _ _ _ _ _
                          · refine aw_lconst d_Fa_join_175 kl_1 ?_
                            refine aw_goto (tgt := 180) d_Fa_join_176 rfl ?_
                            refine aw_sub (lo' := [(0, .ref 19), (1, .int a1), (2, .int a2), (3, .long v24), (5, .long v33), (7, .long (0 : Int64))]) [3, 4, 5, 2, 1, 0] rfl ?_
                            exact tj_Fa_join_180 _ _ _ _ _ _
                        · refine aw_ite (fun q39 => ?_) (fun q39_10 => ?_)
                          · refine aw_tswitch (tgt := 185) d_Fa_join_39 q39 (by decide) (by decide) rfl rfl ?_
                            refine aw_lload_n d_Fa_join_185 2 rfl ?_
                            refine aw_lload d_Fa_join_186 1 rfl ?_
                            refine aw_lcmp d_Fa_join_188 ?_
                            refine aw_if_ne (tgt := 196) d_Fa_join_189 rfl (fun q189 => ?_) (fun q189 => ?_)
                            · refine aw_lconst d_Fa_join_192 kl_1 ?_
                              refine aw_goto (tgt := 197) d_Fa_join_193 rfl ?_
                              refine aw_sub (lo' := [(0, .ref 19), (1, .int a1), (2, .int a2), (3, .long v24), (5, .long v33), (7, .long (0 : Int64))]) [3, 4, 5, 2, 1, 0] rfl ?_
                              exact tj_Fa_join_197 _ _ _ _ _ _
                            · refine aw_lconst d_Fa_join_196 kl_0 ?_
                              refine aw_sub (lo' := [(0, .ref 19), (1, .int a1), (2, .int a2), (3, .long v24), (5, .long v33), (7, .long (0 : Int64))]) [3, 4, 5, 2, 1, 0] rfl ?_
                              exact tj_Fa_join_197 _ _ _ _ _ _
                          · refine aw_ite (fun q39 => ?_) (fun q39_11 => ?_)
                            · refine aw_tswitch (tgt := 202) d_Fa_join_39 q39 (by decide) (by decide) rfl rfl ?_
                              refine aw_lload_n d_Fa_join_202 2 rfl ?_
                              refine aw_lload d_Fa_join_203 1 rfl ?_
                              refine aw_lcmp d_Fa_join_205 ?_
                              refine aw_if_lt (tgt := 213) d_Fa_join_206 rfl (fun q206 => ?_) (fun q206 => ?_)
                              · refine aw_lconst d_Fa_join_213 kl_0 ?_
                                refine aw_sub (lo' := [(0, .ref 19), (1, .int a1), (2, .int a2), (3, .long v24), (5, .long v33), (7, .long (0 : Int64))]) [3, 4, 5, 2, 1, 0] rfl ?_
                                exact tj_Fa_join_214 _ _ _ _ _ _
                              · refine aw_lconst d_Fa_join_209 kl_1 ?_
                                refine aw_goto (tgt := 214) d_Fa_join_210 rfl ?_
                                refine aw_sub (lo' := [(0, .ref 19), (1, .int a1), (2, .int a2), (3, .long v24), (5, .long v33), (7, .long (0 : Int64))]) [3, 4, 5, 2, 1, 0] rfl ?_
                                exact tj_Fa_join_214 _ _ _ _ _ _
                            · refine aw_ite (fun q39 => ?_) (fun q39_12 => ?_)
                              · refine aw_tswitch (tgt := 219) d_Fa_join_39 q39 (by decide) (by decide) rfl rfl ?_
                                refine aw_lload_n d_Fa_join_219 2 rfl ?_
                                refine aw_lload d_Fa_join_220 1 rfl ?_
                                refine aw_lcmp d_Fa_join_222 ?_
                                refine aw_if_le (tgt := 230) d_Fa_join_223 rfl (fun q223 => ?_) (fun q223 => ?_)
                                · refine aw_lconst d_Fa_join_230 kl_0 ?_
                                  refine aw_sub (lo' := [(0, .ref 19), (1, .int a1), (2, .int a2), (3, .long v24), (5, .long v33), (7, .long (0 : Int64))]) [3, 4, 5, 2, 1, 0] rfl ?_
                                  exact tj_Fa_join_231 _ _ _ _ _ _
                                · refine aw_lconst d_Fa_join_226 kl_1 ?_
                                  refine aw_goto (tgt := 231) d_Fa_join_227 rfl ?_
                                  refine aw_sub (lo' := [(0, .ref 19), (1, .int a1), (2, .int a2), (3, .long v24), (5, .long v33), (7, .long (0 : Int64))]) [3, 4, 5, 2, 1, 0] rfl ?_
                                  exact tj_Fa_join_231 _ _ _ _ _ _
                              · refine aw_tdflt (tgt := 254) d_Fa_join_39 (by omega) rfl ?_
                                refine aw_sub (lo' := [(0, .ref 19), (1, .int a1), (2, .int a2), (3, .long v24), (5, .long v33), (7, .long (0 : Int64))]) [3, 4, 5, 2, 1, 0] rfl ?_
                                exact tj_Fa_join_254 _ _ _ _ _ _
    · refine aw_iload_n d_Fa_join_14 1 rfl ?_
      exact aw_iret rfl rfl ⟨Nat.le_refl _, Nat.le_refl _⟩ d_Fa_join_15
def f_Fa_result (a1 : Int32) (δ : Dm) : Option Int64 := (if a1 < (1 : Int32) then (some (0 : Int64)) else (if (60 : Int32) < a1 then (some (0 : Int64)) else (if inb (a1 - (1 : Int32)) 60 then (some (gL δ 21 (ix (a1 - (1 : Int32))))) else none)))
set_option maxHeartbeats 4000000 in
set_option maxRecDepth 100000 in
theorem m_Fa_result {a1 : Int32} {δ : Dm} {n : Nat} : ∀ x, f_Fa_result a1 δ = some x → AMet k_Fa_result 1 0 0 [.ref 19, .int a1] δ RT n (Kl δ RT n x) := by
  refine aw_start (lo := [(0, .ref 19), (1, .int a1)]) mok_Fa_result rfl (Nat.le_of_ble_eq_true rfl) ?_
  unfold f_Fa_result
  refine aw_iload_n d_Fa_result_0 1 rfl ?_
  refine aw_iconst d_Fa_result_1 ki_1 ?_
  refine aw_icmp_lt (tgt := 25) d_Fa_result_2 rfl (fun q2 => ?_) (fun q2 => ?_)
  · refine aw_lconst d_Fa_result_25 kl_0 ?_
    exact aw_lret rfl rfl ⟨Nat.le_refl _, Nat.le_refl _⟩ d_Fa_result_26
  · refine aw_iload_n d_Fa_result_5 1 rfl ?_
    refine aw_aload_n d_Fa_result_6 0 rfl ?_
    refine aw_getR (t := 21) fl_Fa_17 kd_19 rt_19_1 d_Fa_result_7 ?_
    refine aw_alen (v := (60 : Int32)) kd_21 ⟨by decide, by decide⟩ (by decide) d_Fa_result_10 ?_
    refine aw_icmp_gt (tgt := 25) d_Fa_result_11 rfl (fun q11 => ?_) (fun q11 => ?_)
    · refine aw_lconst d_Fa_result_25 kl_0 ?_
      exact aw_lret rfl rfl ⟨Nat.le_refl _, Nat.le_refl _⟩ d_Fa_result_26
    · refine aw_aload_n d_Fa_result_14 0 rfl ?_
      refine aw_getR (t := 21) fl_Fa_17 kd_19 rt_19_1 d_Fa_result_15 ?_
      refine aw_iload_n d_Fa_result_18 1 rfl ?_
      refine aw_iconst d_Fa_result_19 ki_1 ?_
      refine aw_isub d_Fa_result_20 ?_
      refine aw_lald kd_21 d_Fa_result_21 ?_
      refine aw_goto (tgt := 26) d_Fa_result_22 rfl ?_
      exact aw_lret rfl rfl ⟨Nat.le_refl _, Nat.le_refl _⟩ d_Fa_result_26
def lp_La_run_6 (kx6_104 : Int32 → Int32 → Dm → Option (Int64 × Dm)) (a0 : Nat) (a1 : Int32) (a2 : Int32) : Nat → Int32 → Int32 → Dm → Option (Int64 × Dm)
  | 0, _, _, _ => none
  | f + 1, v4_6, v5_6, δ6 => (if a2 ≤ v5_6 then (kx6_104 v4_6 v5_6 δ6) else ((f_Fp_get (a0 + 7) v5_6 δ6).bind (fun y18 => (bnd ((-1 : Int32) - y18) (fun v27 => (if y18 < 0 then (if (8 : Int32) < v27 then (if v27 = (20 : Int32) then ((f_Fa_flip v4_6 δ6).bind (fun y82 => (lp_La_run_6 kx6_104 a0 a1 a2 f v4_6 (v5_6 + (1 : Int32)) y82))) else ((f_Fa_join v4_6 v27 δ6).bind (fun y93 => bnd y93.1 (fun v93 => bnd y93.2 (fun δ_93 => (lp_La_run_6 kx6_104 a0 a1 a2 f v93 (v5_6 + (1 : Int32)) δ_93)))))) else ((f_Fa_meaning v27 δ6).bind (fun y61 => ((f_Fa_push v4_6 y61 δ6).bind (fun y64 => bnd y64.1 (fun v64 => bnd y64.2 (fun δ_64 => (lp_La_run_6 kx6_104 a0 a1 a2 f v64 (v5_6 + (1 : Int32)) δ_64)))))))) else ((f_Fa_push v4_6 ((y18).toInt64) δ6).bind (fun y40 => bnd y40.1 (fun v40 => bnd y40.2 (fun δ_40 => (lp_La_run_6 kx6_104 a0 a1 a2 f v40 (v5_6 + (1 : Int32)) δ_40)))))))))))
set_option maxHeartbeats 4000000 in
set_option maxRecDepth 100000 in
theorem tl_La_run_6 {n : Nat} (kx6_104 : Int32 → Int32 → Dm → Option (Int64 × Dm)) (a0 : Nat) (a1 : Int32) (a2 : Int32) (ha0 : isL a0 = true) (hkx6_104 : ∀ v4_6k v5_6k δ6k, AWo k_La_run 2 0 0 104 [(0, .ref a0), (1, .int a1), (2, .int a2), (3, .ref 19), (4, .int v4_6k), (5, .int v5_6k)] [] δ6k RT n 0 0 (Kn RT n) (kx6_104 v4_6k v5_6k δ6k)) : ∀ (f : Nat) (v4_6 : Int32) (v5_6 : Int32) (δ6 : Dm), AWo k_La_run 2 0 0 6 [(0, .ref a0), (1, .int a1), (2, .int a2), (3, .ref 19), (4, .int v4_6), (5, .int v5_6)] [] δ6 RT n 0 0 (Kn RT n) (lp_La_run_6 kx6_104 a0 a1 a2 f v4_6 v5_6 δ6) := by
  intro f
  induction f with
  | zero => intro _ _ _; exact aw_none
  | succ f ih =>
    intro v4_6 v5_6 δ6
    rw [lp_La_run_6]
    refine aw_iload d_La_run_6 5 rfl ?_
    refine aw_iload_n d_La_run_8 2 rfl ?_
    refine aw_icmp_ge (tgt := 104) d_La_run_9 rfl (fun q9 => ?_) (fun q9 => ?_)
    · refine aw_sub (lo' := [(0, .ref a0), (1, .int a1), (2, .int a2), (3, .ref 19), (4, .int v4_6), (5, .int v5_6)]) [0, 1, 2, 3, 4, 5] rfl ?_
      exact hkx6_104 _ _ _
    · refine aw_aload_n d_La_run_12 0 rfl ?_
      refine aw_getR (t := (a0 + 7)) fl_La_30 (fx_isLK ha0 0 (by decide)) (fx_isLR ha0 0 8 (by decide) (by decide)) d_La_run_13 ?_
      refine aw_iload d_La_run_16 5 rfl ?_
      refine aw_SN_p (As := [.ref (a0 + 7), .int v5_6]) (m_Fp_get (congrArg Prod.fst (fx_isLK ha0 7 (by decide)))) cs_La_50 rfl rfl (Nat.le_of_ble_eq_true rfl) ⟨Nat.le_of_ble_eq_true rfl, Nat.le_of_ble_eq_true rfl⟩ ⟨Nat.le_refl _, Nat.le_refl _⟩ d_La_run_18 (fun y18 => ?_)
      refine aw_istore (lo' := [(6, .int y18), (0, .ref a0), (1, .int a1), (2, .int a2), (3, .ref 19), (4, .int v4_6), (5, .int v5_6)]) d_La_run_21 (by decide) rfl ?_
      refine aw_iconst d_La_run_23 ki_m1 ?_
      refine aw_iload d_La_run_24 0 rfl ?_
      refine aw_isub d_La_run_26 ?_
      refine aw_bI (fun v27 => ?_)
      refine aw_istore (lo' := [(7, .int v27), (6, .int y18), (0, .ref a0), (1, .int a1), (2, .int a2), (3, .ref 19), (4, .int v4_6), (5, .int v5_6)]) d_La_run_27 (by decide) rfl ?_
      refine aw_iload d_La_run_29 1 rfl ?_
      refine aw_if_lt (tgt := 48) d_La_run_31 rfl (fun q31 => ?_) (fun q31 => ?_)
      · refine aw_iload d_La_run_48 0 rfl ?_
        refine aw_bipush d_La_run_50 kb_8 ?_
        refine aw_icmp_gt (tgt := 72) d_La_run_52 rfl (fun q52 => ?_) (fun q52 => ?_)
        · refine aw_iload d_La_run_72 0 rfl ?_
          refine aw_bipush d_La_run_74 kb_20 ?_
          refine aw_icmp_ne (tgt := 88) d_La_run_76 rfl (fun q76 => ?_) (fun q76 => ?_)
          · refine aw_aload_n d_La_run_79 5 rfl ?_
            refine aw_iload d_La_run_80 6 rfl ?_
            refine aw_V_v (As := [.int v4_6]) (m_Fa_flip) cv_La_105 kd_19 rfl rfl rfl (Nat.le_of_ble_eq_true rfl) ⟨Nat.le_of_ble_eq_true rfl, Nat.le_of_ble_eq_true rfl⟩ ⟨Nat.le_refl _, Nat.le_refl _⟩ d_La_run_82 (fun y82 => ?_)
            refine aw_goto (tgt := 98) d_La_run_85 rfl ?_
            refine aw_iinc (v := (v5_6 + (1 : Int32))) (lo' := [(5, .int (v5_6 + (1 : Int32))), (7, .int v27), (6, .int y18), (0, .ref a0), (1, .int a1), (2, .int a2), (3, .ref 19), (4, .int v4_6)]) d_La_run_98 7 rfl (by rw [show Int32.ofInt (1) = (1 : Int32) from by decide]) (by decide) rfl ?_
            refine aw_goto (tgt := 6) d_La_run_101 rfl ?_
            refine aw_sub (lo' := [(0, .ref a0), (1, .int a1), (2, .int a2), (3, .ref 19), (4, .int v4_6), (5, .int (v5_6 + (1 : Int32)))]) [3, 4, 5, 6, 7, 0] rfl ?_
            exact ih _ _ _
          · refine aw_aload_n d_La_run_88 5 rfl ?_
            refine aw_iload d_La_run_89 6 rfl ?_
            refine aw_iload d_La_run_91 0 rfl ?_
            refine aw_V_m (As := [.int v4_6, .int v27]) (m_Fa_join) cv_La_109 kd_19 rfl rfl rfl (Nat.le_of_ble_eq_true rfl) ⟨Nat.le_of_ble_eq_true rfl, Nat.le_of_ble_eq_true rfl⟩ ⟨Nat.le_refl _, Nat.le_refl _⟩ d_La_run_93 (fun y93 => ?_)
            refine aw_bI (fun v93 => ?_)
            refine aw_bD (fun δ_93 => ?_)
            refine aw_istore (lo' := [(4, .int v93), (7, .int v27), (6, .int y18), (0, .ref a0), (1, .int a1), (2, .int a2), (3, .ref 19), (5, .int v5_6)]) d_La_run_96 (by decide) rfl ?_
            refine aw_iinc (v := (v5_6 + (1 : Int32))) (lo' := [(5, .int (v5_6 + (1 : Int32))), (4, .int v93), (7, .int v27), (6, .int y18), (0, .ref a0), (1, .int a1), (2, .int a2), (3, .ref 19)]) d_La_run_98 7 rfl (by rw [show Int32.ofInt (1) = (1 : Int32) from by decide]) (by decide) rfl ?_
            refine aw_goto (tgt := 6) d_La_run_101 rfl ?_
            refine aw_sub (lo' := [(0, .ref a0), (1, .int a1), (2, .int a2), (3, .ref 19), (4, .int v93), (5, .int (v5_6 + (1 : Int32)))]) [4, 5, 6, 7, 1, 0] rfl ?_
            exact ih _ _ _
        · refine aw_aload_n d_La_run_55 5 rfl ?_
          refine aw_iload d_La_run_56 6 rfl ?_
          refine aw_aload_n d_La_run_58 5 rfl ?_
          refine aw_iload d_La_run_59 0 rfl ?_
          refine aw_V_l (As := [.int v27]) (m_Fa_meaning) cv_La_101 kd_19 rfl rfl rfl (Nat.le_of_ble_eq_true rfl) ⟨Nat.le_of_ble_eq_true rfl, Nat.le_of_ble_eq_true rfl⟩ ⟨Nat.le_refl _, Nat.le_refl _⟩ d_La_run_61 (fun y61 => ?_)
          refine aw_V_m (As := [.int v4_6, .long y61]) (m_Fa_push) cv_La_97 kd_19 rfl rfl rfl (Nat.le_of_ble_eq_true rfl) ⟨Nat.le_of_ble_eq_true rfl, Nat.le_of_ble_eq_true rfl⟩ ⟨Nat.le_refl _, Nat.le_refl _⟩ d_La_run_64 (fun y64 => ?_)
          refine aw_bI (fun v64 => ?_)
          refine aw_bD (fun δ_64 => ?_)
          refine aw_istore (lo' := [(4, .int v64), (7, .int v27), (6, .int y18), (0, .ref a0), (1, .int a1), (2, .int a2), (3, .ref 19), (5, .int v5_6)]) d_La_run_67 (by decide) rfl ?_
          refine aw_goto (tgt := 98) d_La_run_69 rfl ?_
          refine aw_iinc (v := (v5_6 + (1 : Int32))) (lo' := [(5, .int (v5_6 + (1 : Int32))), (4, .int v64), (7, .int v27), (6, .int y18), (0, .ref a0), (1, .int a1), (2, .int a2), (3, .ref 19)]) d_La_run_98 7 rfl (by rw [show Int32.ofInt (1) = (1 : Int32) from by decide]) (by decide) rfl ?_
          refine aw_goto (tgt := 6) d_La_run_101 rfl ?_
          refine aw_sub (lo' := [(0, .ref a0), (1, .int a1), (2, .int a2), (3, .ref 19), (4, .int v64), (5, .int (v5_6 + (1 : Int32)))]) [4, 5, 6, 7, 1, 0] rfl ?_
          exact ih _ _ _
      · refine aw_aload_n d_La_run_34 5 rfl ?_
        refine aw_iload d_La_run_35 6 rfl ?_
        refine aw_iload d_La_run_37 1 rfl ?_
        refine aw_i2l d_La_run_39 ?_
        refine aw_V_m (As := [.int v4_6, .long ((y18).toInt64)]) (m_Fa_push) cv_La_97 kd_19 rfl rfl rfl (Nat.le_of_ble_eq_true rfl) ⟨Nat.le_of_ble_eq_true rfl, Nat.le_of_ble_eq_true rfl⟩ ⟨Nat.le_refl _, Nat.le_refl _⟩ d_La_run_40 (fun y40 => ?_)
        refine aw_bI (fun v40 => ?_)
        refine aw_bD (fun δ_40 => ?_)
        refine aw_istore (lo' := [(4, .int v40), (7, .int v27), (6, .int y18), (0, .ref a0), (1, .int a1), (2, .int a2), (3, .ref 19), (5, .int v5_6)]) d_La_run_43 (by decide) rfl ?_
        refine aw_goto (tgt := 98) d_La_run_45 rfl ?_
        refine aw_iinc (v := (v5_6 + (1 : Int32))) (lo' := [(5, .int (v5_6 + (1 : Int32))), (4, .int v40), (7, .int v27), (6, .int y18), (0, .ref a0), (1, .int a1), (2, .int a2), (3, .ref 19)]) d_La_run_98 7 rfl (by rw [show Int32.ofInt (1) = (1 : Int32) from by decide]) (by decide) rfl ?_
        refine aw_goto (tgt := 6) d_La_run_101 rfl ?_
        refine aw_sub (lo' := [(0, .ref a0), (1, .int a1), (2, .int a2), (3, .ref 19), (4, .int v40), (5, .int (v5_6 + (1 : Int32)))]) [4, 5, 6, 7, 1, 0] rfl ?_
        exact ih _ _ _
def f_La_run (a0 : Nat) (a1 : Int32) (a2 : Int32) (δ : Dm) : Option (Int64 × Dm) := (lp_La_run_6 (fun v4_6x v5_6x δ6x => ((f_Fa_result v4_6x δ6x).bind (fun y107 => (some (y107, δ6x))))) a0 a1 a2 FU (0 : Int32) a1 δ)
set_option maxHeartbeats 4000000 in
set_option maxRecDepth 100000 in
theorem m_La_run {a0 : Nat} {a1 : Int32} {a2 : Int32} {δ : Dm} {n : Nat} (ha0 : isL a0 = true) : ∀ x, f_La_run a0 a1 a2 δ = some x → AMet k_La_run 2 0 0 [.ref a0, .int a1, .int a2, .ref 19] δ RT n (Kn RT n x) := by
  refine aw_start (lo := [(0, .ref a0), (1, .int a1), (2, .int a2), (3, .ref 19)]) mok_La_run rfl (Nat.le_of_ble_eq_true rfl) ?_
  unfold f_La_run
  refine aw_iconst d_La_run_0 ki_0 ?_
  refine aw_istore (lo' := [(4, .int (0 : Int32)), (0, .ref a0), (1, .int a1), (2, .int a2), (3, .ref 19)]) d_La_run_1 (by decide) rfl ?_
  refine aw_iload_n d_La_run_3 2 rfl ?_
  refine aw_istore (lo' := [(5, .int a1), (4, .int (0 : Int32)), (0, .ref a0), (1, .int a1), (2, .int a2), (3, .ref 19)]) d_La_run_4 (by decide) rfl ?_
  refine aw_sub (lo' := [(0, .ref a0), (1, .int a1), (2, .int a2), (3, .ref 19), (4, .int (0 : Int32)), (5, .int a1)]) [2, 3, 4, 5, 1, 0] rfl ?_
  refine tl_La_run_6 _ _ _ _ ha0 (fun v4_6x v5_6x δ6x => ?_) FU _ _ _
  · refine aw_aload_n d_La_run_104 3 rfl ?_
    refine aw_iload d_La_run_105 4 rfl ?_
    refine aw_V_l (As := [.int v4_6x]) (m_Fa_result) cv_La_112 kd_19 rfl rfl rfl (Nat.le_of_ble_eq_true rfl) ⟨Nat.le_of_ble_eq_true rfl, Nat.le_of_ble_eq_true rfl⟩ ⟨Nat.le_refl _, Nat.le_refl _⟩ d_La_run_107 (fun y107 => ?_)
    exact aw_lret rfl rfl ⟨Nat.le_refl _, Nat.le_refl _⟩ d_La_run_110
def lp_La_holds_2 (kx2_56 : Int32 → Dm → Option (Int32 × Dm)) (a0 : Nat) (a1 : Int32) : Nat → Int32 → Dm → Option (Int32 × Dm)
  | 0, _, _ => none
  | f + 1, v3_2, δ2 => (if (gI δ2 a0 0) ≤ v3_2 then (kx2_56 v3_2 δ2) else ((f_Fp_get (a0 + 1) v3_2 δ2).bind (fun y15 => (if y15 = a1 then ((f_Fp_get (a0 + 4) v3_2 δ2).bind (fun y28 => ((f_Fp_get (a0 + 5) v3_2 δ2).bind (fun y36 => ((f_La_run a0 y28 y36 δ2).bind (fun y40 => bnd y40.1 (fun v40 => bnd y40.2 (fun δ_40 => (if (lg_cmp v40 (0 : Int64)) = 0 then (lp_La_holds_2 kx2_56 a0 a1 f (v3_2 + (1 : Int32)) δ_40) else (some ((1 : Int32), δ_40))))))))))) else (lp_La_holds_2 kx2_56 a0 a1 f (v3_2 + (1 : Int32)) δ2)))))
set_option maxHeartbeats 4000000 in
set_option maxRecDepth 100000 in
theorem tl_La_holds_2 {n : Nat} (kx2_56 : Int32 → Dm → Option (Int32 × Dm)) (a0 : Nat) (a1 : Int32) (ha0 : isL a0 = true) (hkx2_56 : ∀ v3_2k δ2k, AWo k_La_holds 3 0 0 56 [(0, .ref a0), (1, .int a1), (2, .ref 19), (3, .int v3_2k)] [] δ2k RT n 0 0 (Km RT n) (kx2_56 v3_2k δ2k)) : ∀ (f : Nat) (v3_2 : Int32) (δ2 : Dm), AWo k_La_holds 3 0 0 2 [(0, .ref a0), (1, .int a1), (2, .ref 19), (3, .int v3_2)] [] δ2 RT n 0 0 (Km RT n) (lp_La_holds_2 kx2_56 a0 a1 f v3_2 δ2) := by
  intro f
  induction f with
  | zero => intro _ _; exact aw_none
  | succ f ih =>
    intro v3_2 δ2
    rw [lp_La_holds_2]
    refine aw_iload_n d_La_holds_2 3 rfl ?_
    refine aw_aload_n d_La_holds_3 0 rfl ?_
    refine aw_getI fl_La_33 (fx_isLK ha0 0 (by decide)) d_La_holds_4 ?_
    refine aw_icmp_ge (tgt := 56) d_La_holds_7 rfl (fun q7 => ?_) (fun q7 => ?_)
    · refine aw_sub (lo' := [(0, .ref a0), (1, .int a1), (2, .ref 19), (3, .int v3_2)]) [0, 1, 2, 3] rfl ?_
      exact hkx2_56 _ _
    · refine aw_aload_n d_La_holds_10 0 rfl ?_
      refine aw_getR (t := (a0 + 1)) fl_La_11 (fx_isLK ha0 0 (by decide)) (fx_isLR ha0 0 2 (by decide) (by decide)) d_La_holds_11 ?_
      refine aw_iload_n d_La_holds_14 3 rfl ?_
      refine aw_SN_p (As := [.ref (a0 + 1), .int v3_2]) (m_Fp_get (congrArg Prod.fst (fx_isLK ha0 1 (by decide)))) cs_La_50 rfl rfl (Nat.le_of_ble_eq_true rfl) ⟨Nat.le_of_ble_eq_true rfl, Nat.le_of_ble_eq_true rfl⟩ ⟨Nat.le_refl _, Nat.le_refl _⟩ d_La_holds_15 (fun y15 => ?_)
      refine aw_iload_n d_La_holds_18 1 rfl ?_
      refine aw_icmp_ne (tgt := 50) d_La_holds_19 rfl (fun q19 => ?_) (fun q19 => ?_)
      · refine aw_aload_n d_La_holds_22 0 rfl ?_
        refine aw_aload_n d_La_holds_23 0 rfl ?_
        refine aw_getR (t := (a0 + 4)) fl_La_21 (fx_isLK ha0 0 (by decide)) (fx_isLR ha0 0 5 (by decide) (by decide)) d_La_holds_24 ?_
        refine aw_iload_n d_La_holds_27 3 rfl ?_
        refine aw_SN_p (As := [.ref (a0 + 4), .int v3_2]) (m_Fp_get (congrArg Prod.fst (fx_isLK ha0 4 (by decide)))) cs_La_50 rfl rfl (Nat.le_of_ble_eq_true rfl) ⟨Nat.le_of_ble_eq_true rfl, Nat.le_of_ble_eq_true rfl⟩ ⟨Nat.le_refl _, Nat.le_refl _⟩ d_La_holds_28 (fun y28 => ?_)
        refine aw_aload_n d_La_holds_31 0 rfl ?_
        refine aw_getR (t := (a0 + 5)) fl_La_24 (fx_isLK ha0 0 (by decide)) (fx_isLR ha0 0 6 (by decide) (by decide)) d_La_holds_32 ?_
        refine aw_iload_n d_La_holds_35 3 rfl ?_
        refine aw_SN_p (As := [.ref (a0 + 5), .int v3_2]) (m_Fp_get (congrArg Prod.fst (fx_isLK ha0 5 (by decide)))) cs_La_50 rfl rfl (Nat.le_of_ble_eq_true rfl) ⟨Nat.le_of_ble_eq_true rfl, Nat.le_of_ble_eq_true rfl⟩ ⟨Nat.le_refl _, Nat.le_refl _⟩ d_La_holds_36 (fun y36 => ?_)
        refine aw_aload_n d_La_holds_39 2 rfl ?_
        refine aw_V_n (As := [.int y28, .int y36, .ref 19]) (m_La_run ha0) cv_La_94 (fx_isLK ha0 0 (by decide)) rfl rfl rfl (Nat.le_of_ble_eq_true rfl) ⟨Nat.le_of_ble_eq_true rfl, Nat.le_of_ble_eq_true rfl⟩ ⟨Nat.le_refl _, Nat.le_refl _⟩ d_La_holds_40 (fun y40 => ?_)
        refine aw_bL (fun v40 => ?_)
        refine aw_bD (fun δ_40 => ?_)
        refine aw_lconst d_La_holds_43 kl_0 ?_
        refine aw_lcmp d_La_holds_44 ?_
        refine aw_if_eq (tgt := 50) d_La_holds_45 rfl (fun q45 => ?_) (fun q45 => ?_)
        · refine aw_iinc (v := (v3_2 + (1 : Int32))) (lo' := [(3, .int (v3_2 + (1 : Int32))), (0, .ref a0), (1, .int a1), (2, .ref 19)]) d_La_holds_50 3 rfl (by rw [show Int32.ofInt (1) = (1 : Int32) from by decide]) (by decide) rfl ?_
          refine aw_goto (tgt := 2) d_La_holds_53 rfl ?_
          refine aw_sub (lo' := [(0, .ref a0), (1, .int a1), (2, .ref 19), (3, .int (v3_2 + (1 : Int32)))]) [1, 2, 3, 0] rfl ?_
          exact ih _ _
        · refine aw_iconst d_La_holds_48 ki_1 ?_
          exact aw_zret rfl rfl rfl ⟨Nat.le_refl _, Nat.le_refl _⟩ d_La_holds_49
      · refine aw_iinc (v := (v3_2 + (1 : Int32))) (lo' := [(3, .int (v3_2 + (1 : Int32))), (0, .ref a0), (1, .int a1), (2, .ref 19)]) d_La_holds_50 3 rfl (by rw [show Int32.ofInt (1) = (1 : Int32) from by decide]) (by decide) rfl ?_
        refine aw_goto (tgt := 2) d_La_holds_53 rfl ?_
        refine aw_sub (lo' := [(0, .ref a0), (1, .int a1), (2, .ref 19), (3, .int (v3_2 + (1 : Int32)))]) [1, 2, 3, 0] rfl ?_
        exact ih _ _
def f_La_holds (a0 : Nat) (a1 : Int32) (δ : Dm) : Option (Int32 × Dm) := (lp_La_holds_2 (fun v3_2x δ2x => (some ((0 : Int32), δ2x))) a0 a1 FU (0 : Int32) δ)
set_option maxHeartbeats 4000000 in
set_option maxRecDepth 100000 in
theorem m_La_holds {a0 : Nat} {a1 : Int32} {δ : Dm} {n : Nat} (ha0 : isL a0 = true) : ∀ x, f_La_holds a0 a1 δ = some x → AMet k_La_holds 3 0 0 [.ref a0, .int a1, .ref 19] δ RT n (Km RT n x) := by
  refine aw_start (lo := [(0, .ref a0), (1, .int a1), (2, .ref 19)]) mok_La_holds rfl (Nat.le_of_ble_eq_true rfl) ?_
  unfold f_La_holds
  refine aw_iconst d_La_holds_0 ki_0 ?_
  refine aw_istore_n (lo' := [(3, .int (0 : Int32)), (0, .ref a0), (1, .int a1), (2, .ref 19)]) d_La_holds_1 rfl (by decide) rfl ?_
  refine aw_sub (lo' := [(0, .ref a0), (1, .int a1), (2, .ref 19), (3, .int (0 : Int32))]) [1, 2, 3, 0] rfl ?_
  refine tl_La_holds_2 _ _ _ ha0 (fun v3_2x δ2x => ?_) FU _ _
  · refine aw_iconst d_La_holds_56 ki_0 ?_
    exact aw_zret rfl rfl rfl ⟨Nat.le_refl _, Nat.le_refl _⟩ d_La_holds_57
def f_La_spoilerBesideBaths (a0 : Nat) (δ : Dm) : Option (Int32 × Dm) := ((f_La_holds a0 (12 : Int32) δ).bind (fun y4 => bnd y4.1 (fun v4 => bnd y4.2 (fun δ_4 => (if v4 = 0 then ((f_La_holds a0 (13 : Int32) δ_4).bind (fun y16 => bnd y16.1 (fun v16 => bnd y16.2 (fun δ_16 => (if v16 = 0 then (some ((0 : Int32), δ_16)) else (some ((5 : Int32), δ_16))))))) else (some ((4 : Int32), δ_4)))))))
set_option maxHeartbeats 4000000 in
set_option maxRecDepth 100000 in
theorem m_La_spoilerBesideBaths {a0 : Nat} {δ : Dm} {n : Nat} (ha0 : isL a0 = true) : ∀ x, f_La_spoilerBesideBaths a0 δ = some x → AMet k_La_spoilerBesideBaths 4 0 0 [.ref a0, .ref 19] δ RT n (Km RT n x) := by
  refine aw_start (lo := [(0, .ref a0), (1, .ref 19)]) mok_La_spoilerBesideBaths rfl (Nat.le_of_ble_eq_true rfl) ?_
  unfold f_La_spoilerBesideBaths
  refine aw_aload_n d_La_spoilerBesideBaths_0 0 rfl ?_
  refine aw_bipush d_La_spoilerBesideBaths_1 kb_12 ?_
  refine aw_aload_n d_La_spoilerBesideBaths_3 1 rfl ?_
  refine aw_V_m (As := [.int (12 : Int32), .ref 19]) (m_La_holds ha0) cv_La_64 (fx_isLK ha0 0 (by decide)) rfl rfl rfl (Nat.le_of_ble_eq_true rfl) ⟨Nat.le_of_ble_eq_true rfl, Nat.le_of_ble_eq_true rfl⟩ ⟨Nat.le_refl _, Nat.le_refl _⟩ d_La_spoilerBesideBaths_4 (fun y4 => ?_)
  refine aw_bI (fun v4 => ?_)
  refine aw_bD (fun δ_4 => ?_)
  refine aw_if_eq (tgt := 12) d_La_spoilerBesideBaths_7 rfl (fun q7 => ?_) (fun q7 => ?_)
  · refine aw_aload_n d_La_spoilerBesideBaths_12 0 rfl ?_
    refine aw_bipush d_La_spoilerBesideBaths_13 kb_13 ?_
    refine aw_aload_n d_La_spoilerBesideBaths_15 1 rfl ?_
    refine aw_V_m (As := [.int (13 : Int32), .ref 19]) (m_La_holds ha0) cv_La_64 (fx_isLK ha0 0 (by decide)) rfl rfl rfl (Nat.le_of_ble_eq_true rfl) ⟨Nat.le_of_ble_eq_true rfl, Nat.le_of_ble_eq_true rfl⟩ ⟨Nat.le_refl _, Nat.le_refl _⟩ d_La_spoilerBesideBaths_16 (fun y16 => ?_)
    refine aw_bI (fun v16 => ?_)
    refine aw_bD (fun δ_16 => ?_)
    refine aw_if_eq (tgt := 26) d_La_spoilerBesideBaths_19 rfl (fun q19 => ?_) (fun q19 => ?_)
    · refine aw_iconst d_La_spoilerBesideBaths_26 ki_0 ?_
      exact aw_iret rfl rfl ⟨Nat.le_refl _, Nat.le_refl _⟩ d_La_spoilerBesideBaths_27
    · refine aw_iconst d_La_spoilerBesideBaths_22 ki_5 ?_
      refine aw_goto (tgt := 27) d_La_spoilerBesideBaths_23 rfl ?_
      exact aw_iret rfl rfl ⟨Nat.le_refl _, Nat.le_refl _⟩ d_La_spoilerBesideBaths_27
  · refine aw_iconst d_La_spoilerBesideBaths_10 ki_4 ?_
    exact aw_iret rfl rfl ⟨Nat.le_refl _, Nat.le_refl _⟩ d_La_spoilerBesideBaths_11
def lp_La_spoiler_2 (kx2_30 : Int32 → Option (Int32 × Dm)) (a0 : Nat) (a1 : Nat) (δ : Dm) : Nat → Int32 → Option (Int32 × Dm)
  | 0, _ => none
  | f + 1, v3_2 => (if (3 : Int32) ≤ v3_2 then (kx2_30 v3_2) else ((f_Fp_get a1 v3_2 δ).bind (fun y11 => ((f_La_isWeak a0 v3_2 y11 δ).bind (fun y14 => (if y14 = 0 then (lp_La_spoiler_2 kx2_30 a0 a1 δ f (v3_2 + (1 : Int32))) else (some ((v3_2 + (1 : Int32)), δ))))))))
set_option maxHeartbeats 4000000 in
set_option maxRecDepth 100000 in
theorem tl_La_spoiler_2 {n : Nat} (kx2_30 : Int32 → Option (Int32 × Dm)) (a0 : Nat) (a1 : Nat) (δ : Dm) (ha0 : isL a0 = true) (ha1 : (KD a1).1 = 1) (hkx2_30 : ∀ v3_2k, AWo k_La_spoiler 5 0 0 30 [(0, .ref a0), (1, .ref a1), (2, .ref 19), (3, .int v3_2k)] [] δ RT n 0 0 (Km RT n) (kx2_30 v3_2k)) : ∀ (f : Nat) (v3_2 : Int32), AWo k_La_spoiler 5 0 0 2 [(0, .ref a0), (1, .ref a1), (2, .ref 19), (3, .int v3_2)] [] δ RT n 0 0 (Km RT n) (lp_La_spoiler_2 kx2_30 a0 a1 δ f v3_2) := by
  intro f
  induction f with
  | zero => intro _; exact aw_none
  | succ f ih =>
    intro v3_2
    rw [lp_La_spoiler_2]
    refine aw_iload_n d_La_spoiler_2 3 rfl ?_
    refine aw_iconst d_La_spoiler_3 ki_3 ?_
    refine aw_icmp_ge (tgt := 30) d_La_spoiler_4 rfl (fun q4 => ?_) (fun q4 => ?_)
    · refine aw_sub (lo' := [(0, .ref a0), (1, .ref a1), (2, .ref 19), (3, .int v3_2)]) [0, 1, 2, 3] rfl ?_
      exact hkx2_30 _
    · refine aw_aload_n d_La_spoiler_7 0 rfl ?_
      refine aw_iload_n d_La_spoiler_8 3 rfl ?_
      refine aw_aload_n d_La_spoiler_9 1 rfl ?_
      refine aw_iload_n d_La_spoiler_10 3 rfl ?_
      refine aw_SN_p (As := [.ref a1, .int v3_2]) (m_Fp_get ha1) cs_La_50 rfl rfl (Nat.le_of_ble_eq_true rfl) ⟨Nat.le_of_ble_eq_true rfl, Nat.le_of_ble_eq_true rfl⟩ ⟨Nat.le_refl _, Nat.le_refl _⟩ d_La_spoiler_11 (fun y11 => ?_)
      refine aw_V_p (As := [.int v3_2, .int y11]) (m_La_isWeak ha0) cv_La_54 (fx_isLK ha0 0 (by decide)) rfl rfl rfl (Nat.le_of_ble_eq_true rfl) ⟨Nat.le_of_ble_eq_true rfl, Nat.le_of_ble_eq_true rfl⟩ ⟨Nat.le_refl _, Nat.le_refl _⟩ d_La_spoiler_14 (fun y14 => ?_)
      refine aw_if_eq (tgt := 24) d_La_spoiler_17 rfl (fun q17 => ?_) (fun q17 => ?_)
      · refine aw_iinc (v := (v3_2 + (1 : Int32))) (lo' := [(3, .int (v3_2 + (1 : Int32))), (0, .ref a0), (1, .ref a1), (2, .ref 19)]) d_La_spoiler_24 3 rfl (by rw [show Int32.ofInt (1) = (1 : Int32) from by decide]) (by decide) rfl ?_
        refine aw_goto (tgt := 2) d_La_spoiler_27 rfl ?_
        refine aw_sub (lo' := [(0, .ref a0), (1, .ref a1), (2, .ref 19), (3, .int (v3_2 + (1 : Int32)))]) [1, 2, 3, 0] rfl ?_
        exact ih _
      · refine aw_iload_n d_La_spoiler_20 3 rfl ?_
        refine aw_iconst d_La_spoiler_21 ki_1 ?_
        refine aw_iadd d_La_spoiler_22 ?_
        exact aw_iret rfl rfl ⟨Nat.le_refl _, Nat.le_refl _⟩ d_La_spoiler_23
def f_La_spoiler (a0 : Nat) (a1 : Nat) (δ : Dm) : Option (Int32 × Dm) := (lp_La_spoiler_2 (fun v3_2x => ((f_La_spoilerBesideBaths a0 δ).bind (fun y32 => bnd y32.1 (fun v32 => bnd y32.2 (fun δ_32 => (some (v32, δ_32))))))) a0 a1 δ FU (0 : Int32))
set_option maxHeartbeats 4000000 in
set_option maxRecDepth 100000 in
theorem m_La_spoiler {a0 : Nat} {a1 : Nat} {δ : Dm} {n : Nat} (ha0 : isL a0 = true) (ha1 : (KD a1).1 = 1) : ∀ x, f_La_spoiler a0 a1 δ = some x → AMet k_La_spoiler 5 0 0 [.ref a0, .ref a1, .ref 19] δ RT n (Km RT n x) := by
  refine aw_start (lo := [(0, .ref a0), (1, .ref a1), (2, .ref 19)]) mok_La_spoiler rfl (Nat.le_of_ble_eq_true rfl) ?_
  unfold f_La_spoiler
  refine aw_iconst d_La_spoiler_0 ki_0 ?_
  refine aw_istore_n (lo' := [(3, .int (0 : Int32)), (0, .ref a0), (1, .ref a1), (2, .ref 19)]) d_La_spoiler_1 rfl (by decide) rfl ?_
  refine aw_sub (lo' := [(0, .ref a0), (1, .ref a1), (2, .ref 19), (3, .int (0 : Int32))]) [1, 2, 3, 0] rfl ?_
  refine tl_La_spoiler_2 _ _ _ _ ha0 ha1 (fun v3_2x => ?_) FU _
  · refine aw_aload_n d_La_spoiler_30 0 rfl ?_
    refine aw_aload_n d_La_spoiler_31 2 rfl ?_
    refine aw_V_m (As := [.ref 19]) (m_La_spoilerBesideBaths ha0) cv_La_58 (fx_isLK ha0 0 (by decide)) rfl rfl rfl (Nat.le_of_ble_eq_true rfl) ⟨Nat.le_of_ble_eq_true rfl, Nat.le_of_ble_eq_true rfl⟩ ⟨Nat.le_refl _, Nat.le_refl _⟩ d_La_spoiler_32 (fun y32 => ?_)
    refine aw_bI (fun v32 => ?_)
    refine aw_bD (fun δ_32 => ?_)
    exact aw_iret rfl rfl ⟨Nat.le_refl _, Nat.le_refl _⟩ d_La_spoiler_35
def jp_La_total_87 (kr3 : Int32 → Dm → Option (Int64 × Dm)) (kx3_110 : Int32 → Dm → Option (Int64 × Dm)) (a0 : Nat) (a1 : Int32) (a2 : Int32) (v4_3 : Int32) (y47 : Int32) (δ87 : Dm) : Option (Int64 × Dm) := ((f_Fp_get (a0 + 3) v4_3 δ87).bind (fun y94 => ((f_La_run a0 y94 y47 δ87).bind (fun y100 => bnd y100.1 (fun v100 => bnd y100.2 (fun δ_100 => (some (v100, δ_100))))))))
set_option maxHeartbeats 4000000 in
set_option maxRecDepth 100000 in
theorem tj_La_total_87 {n : Nat} (kr3 : Int32 → Dm → Option (Int64 × Dm)) (kx3_110 : Int32 → Dm → Option (Int64 × Dm)) (a0 : Nat) (a1 : Int32) (a2 : Int32) (v4_3 : Int32) (y47 : Int32) (δ87 : Dm) (ha0 : isL a0 = true) (hkr3 : ∀ v4_3k δ3k, AWo k_La_total 3 0 0 3 [(0, .ref a0), (1, .int a1), (2, .int a2), (3, .ref 19), (4, .int v4_3k)] [] δ3k RT n 0 0 (Kn RT n) (kr3 v4_3k δ3k)) (hkx3_110 : ∀ v4_3k δ3k, AWo k_La_total 3 0 0 110 [(0, .ref a0), (1, .int a1), (2, .int a2), (3, .ref 19), (4, .int v4_3k)] [] δ3k RT n 0 0 (Kn RT n) (kx3_110 v4_3k δ3k)) : AWo k_La_total 3 0 0 87 [(0, .ref a0), (1, .int a1), (2, .int a2), (3, .ref 19), (4, .int v4_3), (5, .int y47)] [] δ87 RT n 0 0 (Kn RT n) (jp_La_total_87 kr3 kx3_110 a0 a1 a2 v4_3 y47 δ87) := by
  unfold jp_La_total_87
  refine aw_aload_n d_La_total_87 0 rfl ?_
  refine aw_aload_n d_La_total_88 0 rfl ?_
  refine aw_getR (t := (a0 + 3)) fl_La_18 (fx_isLK ha0 0 (by decide)) (fx_isLR ha0 0 4 (by decide) (by decide)) d_La_total_89 ?_
  refine aw_iload d_La_total_92 4 rfl ?_
  refine aw_SN_p (As := [.ref (a0 + 3), .int v4_3]) (m_Fp_get (congrArg Prod.fst (fx_isLK ha0 3 (by decide)))) cs_La_50 rfl rfl (Nat.le_of_ble_eq_true rfl) ⟨Nat.le_of_ble_eq_true rfl, Nat.le_of_ble_eq_true rfl⟩ ⟨Nat.le_refl _, Nat.le_refl _⟩ d_La_total_94 (fun y94 => ?_)
  refine aw_iload d_La_total_97 5 rfl ?_
  refine aw_aload_n d_La_total_99 3 rfl ?_
  refine aw_V_n (As := [.int y94, .int y47, .ref 19]) (m_La_run ha0) cv_La_94 (fx_isLK ha0 0 (by decide)) rfl rfl rfl (Nat.le_of_ble_eq_true rfl) ⟨Nat.le_of_ble_eq_true rfl, Nat.le_of_ble_eq_true rfl⟩ ⟨Nat.le_refl _, Nat.le_refl _⟩ d_La_total_100 (fun y100 => ?_)
  refine aw_bL (fun v100 => ?_)
  refine aw_bD (fun δ_100 => ?_)
  exact aw_lret rfl rfl ⟨Nat.le_refl _, Nat.le_refl _⟩ d_La_total_103
def lp_La_total_3 (kx3_110 : Int32 → Dm → Option (Int64 × Dm)) (a0 : Nat) (a1 : Int32) (a2 : Int32) : Nat → Int32 → Dm → Option (Int64 × Dm)
  | 0, _, _ => none
  | f + 1, v4_3, δ3 => (if (gI δ3 a0 0) ≤ v4_3 then (kx3_110 v4_3 δ3) else ((f_Fp_get (a0 + 1) v4_3 δ3).bind (fun y18 => (if y18 = a1 then ((f_Fp_get (a0 + 2) v4_3 δ3).bind (fun y31 => (if y31 = a2 then ((f_Fp_get (a0 + 4) v4_3 δ3).bind (fun y47 => ((f_Fp_get (a0 + 5) v4_3 δ3).bind (fun y60 => (if y47 = y60 then (jp_La_total_87 (lp_La_total_3 kx3_110 a0 a1 a2 f) kx3_110 a0 a1 a2 v4_3 y47 δ3) else ((f_Fp_get (a0 + 5) v4_3 δ3).bind (fun y75 => ((f_La_run a0 y47 y75 δ3).bind (fun y79 => bnd y79.1 (fun v79 => bnd y79.2 (fun δ_79 => (if (lg_cmp v79 (0 : Int64)) = 0 then (lp_La_total_3 kx3_110 a0 a1 a2 f (v4_3 + (1 : Int32)) δ_79) else (jp_La_total_87 (lp_La_total_3 kx3_110 a0 a1 a2 f) kx3_110 a0 a1 a2 v4_3 y47 δ_79))))))))))))) else (lp_La_total_3 kx3_110 a0 a1 a2 f (v4_3 + (1 : Int32)) δ3)))) else (lp_La_total_3 kx3_110 a0 a1 a2 f (v4_3 + (1 : Int32)) δ3)))))
set_option maxHeartbeats 4000000 in
set_option maxRecDepth 100000 in
theorem tl_La_total_3 {n : Nat} (kx3_110 : Int32 → Dm → Option (Int64 × Dm)) (a0 : Nat) (a1 : Int32) (a2 : Int32) (ha0 : isL a0 = true) (hkx3_110 : ∀ v4_3k δ3k, AWo k_La_total 3 0 0 110 [(0, .ref a0), (1, .int a1), (2, .int a2), (3, .ref 19), (4, .int v4_3k)] [] δ3k RT n 0 0 (Kn RT n) (kx3_110 v4_3k δ3k)) : ∀ (f : Nat) (v4_3 : Int32) (δ3 : Dm), AWo k_La_total 3 0 0 3 [(0, .ref a0), (1, .int a1), (2, .int a2), (3, .ref 19), (4, .int v4_3)] [] δ3 RT n 0 0 (Kn RT n) (lp_La_total_3 kx3_110 a0 a1 a2 f v4_3 δ3) := by
  intro f
  induction f with
  | zero => intro _ _; exact aw_none
  | succ f ih =>
    intro v4_3 δ3
    rw [lp_La_total_3]
    refine aw_iload d_La_total_3 4 rfl ?_
    refine aw_aload_n d_La_total_5 0 rfl ?_
    refine aw_getI fl_La_33 (fx_isLK ha0 0 (by decide)) d_La_total_6 ?_
    refine aw_icmp_ge (tgt := 110) d_La_total_9 rfl (fun q9 => ?_) (fun q9 => ?_)
    · refine aw_sub (lo' := [(0, .ref a0), (1, .int a1), (2, .int a2), (3, .ref 19), (4, .int v4_3)]) [0, 1, 2, 3, 4] rfl ?_
      exact hkx3_110 _ _
    · refine aw_aload_n d_La_total_12 0 rfl ?_
      refine aw_getR (t := (a0 + 1)) fl_La_11 (fx_isLK ha0 0 (by decide)) (fx_isLR ha0 0 2 (by decide) (by decide)) d_La_total_13 ?_
      refine aw_iload d_La_total_16 4 rfl ?_
      refine aw_SN_p (As := [.ref (a0 + 1), .int v4_3]) (m_Fp_get (congrArg Prod.fst (fx_isLK ha0 1 (by decide)))) cs_La_50 rfl rfl (Nat.le_of_ble_eq_true rfl) ⟨Nat.le_of_ble_eq_true rfl, Nat.le_of_ble_eq_true rfl⟩ ⟨Nat.le_refl _, Nat.le_refl _⟩ d_La_total_18 (fun y18 => ?_)
      refine aw_iload_n d_La_total_21 1 rfl ?_
      refine aw_icmp_ne (tgt := 104) d_La_total_22 rfl (fun q22 => ?_) (fun q22 => ?_)
      · refine aw_aload_n d_La_total_25 0 rfl ?_
        refine aw_getR (t := (a0 + 2)) fl_La_15 (fx_isLK ha0 0 (by decide)) (fx_isLR ha0 0 3 (by decide) (by decide)) d_La_total_26 ?_
        refine aw_iload d_La_total_29 4 rfl ?_
        refine aw_SN_p (As := [.ref (a0 + 2), .int v4_3]) (m_Fp_get (congrArg Prod.fst (fx_isLK ha0 2 (by decide)))) cs_La_50 rfl rfl (Nat.le_of_ble_eq_true rfl) ⟨Nat.le_of_ble_eq_true rfl, Nat.le_of_ble_eq_true rfl⟩ ⟨Nat.le_refl _, Nat.le_refl _⟩ d_La_total_31 (fun y31 => ?_)
        refine aw_iload_n d_La_total_34 2 rfl ?_
        refine aw_icmp_eq (tgt := 41) d_La_total_35 rfl (fun q35 => ?_) (fun q35 => ?_)
        · refine aw_aload_n d_La_total_41 0 rfl ?_
          refine aw_getR (t := (a0 + 4)) fl_La_21 (fx_isLK ha0 0 (by decide)) (fx_isLR ha0 0 5 (by decide) (by decide)) d_La_total_42 ?_
          refine aw_iload d_La_total_45 4 rfl ?_
          refine aw_SN_p (As := [.ref (a0 + 4), .int v4_3]) (m_Fp_get (congrArg Prod.fst (fx_isLK ha0 4 (by decide)))) cs_La_50 rfl rfl (Nat.le_of_ble_eq_true rfl) ⟨Nat.le_of_ble_eq_true rfl, Nat.le_of_ble_eq_true rfl⟩ ⟨Nat.le_refl _, Nat.le_refl _⟩ d_La_total_47 (fun y47 => ?_)
          refine aw_istore (lo' := [(5, .int y47), (0, .ref a0), (1, .int a1), (2, .int a2), (3, .ref 19), (4, .int v4_3)]) d_La_total_50 (by decide) rfl ?_
          refine aw_iload d_La_total_52 0 rfl ?_
          refine aw_aload_n d_La_total_54 1 rfl ?_
          refine aw_getR (t := (a0 + 5)) fl_La_24 (fx_isLK ha0 0 (by decide)) (fx_isLR ha0 0 6 (by decide) (by decide)) d_La_total_55 ?_
          refine aw_iload d_La_total_58 5 rfl ?_
          refine aw_SN_p (As := [.ref (a0 + 5), .int v4_3]) (m_Fp_get (congrArg Prod.fst (fx_isLK ha0 5 (by decide)))) cs_La_50 rfl rfl (Nat.le_of_ble_eq_true rfl) ⟨Nat.le_of_ble_eq_true rfl, Nat.le_of_ble_eq_true rfl⟩ ⟨Nat.le_refl _, Nat.le_refl _⟩ d_La_total_60 (fun y60 => ?_)
          refine aw_icmp_eq (tgt := 87) d_La_total_63 rfl (fun q63 => ?_) (fun q63 => ?_)
          · refine aw_sub (lo' := [(0, .ref a0), (1, .int a1), (2, .int a2), (3, .ref 19), (4, .int v4_3), (5, .int y47)]) [1, 2, 3, 4, 5, 0] rfl ?_
            exact tj_La_total_87 _ _ _ _ _ _ _ _ ha0 ih hkx3_110
          · refine aw_aload_n d_La_total_66 1 rfl ?_
            refine aw_iload d_La_total_67 0 rfl ?_
            refine aw_aload_n d_La_total_69 1 rfl ?_
            refine aw_getR (t := (a0 + 5)) fl_La_24 (fx_isLK ha0 0 (by decide)) (fx_isLR ha0 0 6 (by decide) (by decide)) d_La_total_70 ?_
            refine aw_iload d_La_total_73 5 rfl ?_
            refine aw_SN_p (As := [.ref (a0 + 5), .int v4_3]) (m_Fp_get (congrArg Prod.fst (fx_isLK ha0 5 (by decide)))) cs_La_50 rfl rfl (Nat.le_of_ble_eq_true rfl) ⟨Nat.le_of_ble_eq_true rfl, Nat.le_of_ble_eq_true rfl⟩ ⟨Nat.le_refl _, Nat.le_refl _⟩ d_La_total_75 (fun y75 => ?_)
            refine aw_aload_n d_La_total_78 4 rfl ?_
            refine aw_V_n (As := [.int y47, .int y75, .ref 19]) (m_La_run ha0) cv_La_94 (fx_isLK ha0 0 (by decide)) rfl rfl rfl (Nat.le_of_ble_eq_true rfl) ⟨Nat.le_of_ble_eq_true rfl, Nat.le_of_ble_eq_true rfl⟩ ⟨Nat.le_refl _, Nat.le_refl _⟩ d_La_total_79 (fun y79 => ?_)
            refine aw_bL (fun v79 => ?_)
            refine aw_bD (fun δ_79 => ?_)
            refine aw_lconst d_La_total_82 kl_0 ?_
            refine aw_lcmp d_La_total_83 ?_
            refine aw_if_eq (tgt := 104) d_La_total_84 rfl (fun q84 => ?_) (fun q84 => ?_)
            · refine aw_iinc (v := (v4_3 + (1 : Int32))) (lo' := [(4, .int (v4_3 + (1 : Int32))), (5, .int y47), (0, .ref a0), (1, .int a1), (2, .int a2), (3, .ref 19)]) d_La_total_104 5 rfl (by rw [show Int32.ofInt (1) = (1 : Int32) from by decide]) (by decide) rfl ?_
              refine aw_goto (tgt := 3) d_La_total_107 rfl ?_
              refine aw_sub (lo' := [(0, .ref a0), (1, .int a1), (2, .int a2), (3, .ref 19), (4, .int (v4_3 + (1 : Int32)))]) [2, 3, 4, 5, 0] rfl ?_
              exact ih _ _
            · refine aw_sub (lo' := [(0, .ref a0), (1, .int a1), (2, .int a2), (3, .ref 19), (4, .int v4_3), (5, .int y47)]) [1, 2, 3, 4, 5, 0] rfl ?_
              exact tj_La_total_87 _ _ _ _ _ _ _ _ ha0 ih hkx3_110
        · refine aw_goto (tgt := 104) d_La_total_38 rfl ?_
          refine aw_iinc (v := (v4_3 + (1 : Int32))) (lo' := [(4, .int (v4_3 + (1 : Int32))), (0, .ref a0), (1, .int a1), (2, .int a2), (3, .ref 19)]) d_La_total_104 4 rfl (by rw [show Int32.ofInt (1) = (1 : Int32) from by decide]) (by decide) rfl ?_
          refine aw_goto (tgt := 3) d_La_total_107 rfl ?_
          refine aw_sub (lo' := [(0, .ref a0), (1, .int a1), (2, .int a2), (3, .ref 19), (4, .int (v4_3 + (1 : Int32)))]) [1, 2, 3, 4, 0] rfl ?_
          exact ih _ _
      · refine aw_iinc (v := (v4_3 + (1 : Int32))) (lo' := [(4, .int (v4_3 + (1 : Int32))), (0, .ref a0), (1, .int a1), (2, .int a2), (3, .ref 19)]) d_La_total_104 4 rfl (by rw [show Int32.ofInt (1) = (1 : Int32) from by decide]) (by decide) rfl ?_
        refine aw_goto (tgt := 3) d_La_total_107 rfl ?_
        refine aw_sub (lo' := [(0, .ref a0), (1, .int a1), (2, .int a2), (3, .ref 19), (4, .int (v4_3 + (1 : Int32)))]) [1, 2, 3, 4, 0] rfl ?_
        exact ih _ _
def f_La_total (a0 : Nat) (a1 : Int32) (a2 : Int32) (δ : Dm) : Option (Int64 × Dm) := (lp_La_total_3 (fun v4_3x δ3x => (some ((0 : Int64), δ3x))) a0 a1 a2 FU (0 : Int32) δ)
set_option maxHeartbeats 4000000 in
set_option maxRecDepth 100000 in
theorem m_La_total {a0 : Nat} {a1 : Int32} {a2 : Int32} {δ : Dm} {n : Nat} (ha0 : isL a0 = true) : ∀ x, f_La_total a0 a1 a2 δ = some x → AMet k_La_total 3 0 0 [.ref a0, .int a1, .int a2, .ref 19] δ RT n (Kn RT n x) := by
  refine aw_start (lo := [(0, .ref a0), (1, .int a1), (2, .int a2), (3, .ref 19)]) mok_La_total rfl (Nat.le_of_ble_eq_true rfl) ?_
  unfold f_La_total
  refine aw_iconst d_La_total_0 ki_0 ?_
  refine aw_istore (lo' := [(4, .int (0 : Int32)), (0, .ref a0), (1, .int a1), (2, .int a2), (3, .ref 19)]) d_La_total_1 (by decide) rfl ?_
  refine aw_sub (lo' := [(0, .ref a0), (1, .int a1), (2, .int a2), (3, .ref 19), (4, .int (0 : Int32))]) [1, 2, 3, 4, 0] rfl ?_
  refine tl_La_total_3 _ _ _ _ ha0 (fun v4_3x δ3x => ?_) FU _ _
  · refine aw_lconst d_La_total_110 kl_0 ?_
    exact aw_lret rfl rfl ⟨Nat.le_refl _, Nat.le_refl _⟩ d_La_total_111
def f_Fp_held (a0 : Int64) (a2 : Int64) (a4 : Int64) (δ : Dm) : Option Int64 := (some (if (if a0 < a4 then a0 else a4) < a2 then a2 else (if a0 < a4 then a0 else a4)))
set_option maxHeartbeats 4000000 in
set_option maxRecDepth 100000 in
theorem m_Fp_held {a0 : Int64} {a2 : Int64} {a4 : Int64} {δ : Dm} {n : Nat} : ∀ x, f_Fp_held a0 a2 a4 δ = some x → AMet k_Fp_held 1 0 0 [.long a0, .long a2, .long a4] δ RT n (Kl δ RT n x) := by
  refine aw_start (lo := [(0, .long a0), (2, .long a2), (4, .long a4)]) mok_Fp_held rfl (Nat.le_of_ble_eq_true rfl) ?_
  unfold f_Fp_held
  refine aw_lload_n d_Fp_held_0 1 rfl ?_
  refine aw_lload d_Fp_held_1 2 rfl ?_
  refine aw_lload_n d_Fp_held_3 0 rfl ?_
  refine aw_minL ml_Fp_367 ms_minL mi_Ma mx_minL (Nat.le_of_ble_eq_true rfl) (Nat.le_of_ble_eq_true rfl) ⟨Nat.le_refl _, Nat.le_refl _⟩ d_Fp_held_4 ?_
  refine aw_maxL ml_Fp_370 ms_maxL mi_Ma mx_maxL (Nat.le_of_ble_eq_true rfl) (Nat.le_of_ble_eq_true rfl) ⟨Nat.le_refl _, Nat.le_refl _⟩ d_Fp_held_7 ?_
  exact aw_lret rfl rfl ⟨Nat.le_refl _, Nat.le_refl _⟩ d_Fp_held_10
def f_La_worn (a0 : Nat) (a1 : Int32) (a2 : Int32) (a3 : Int32) (δ : Dm) : Option (Int32 × Dm) := ((f_Fa_tell (5 : Int32) ((a3).toInt64) δ).bind (fun y5 => ((f_La_total a0 a1 a2 y5).bind (fun y13 => bnd y13.1 (fun v13 => bnd y13.2 (fun δ_13 => ((f_Fp_held v13 (0 : Int64) (1000 : Int64) δ_13).bind (fun y20 => (bnd ((y20).toInt32) (fun v24 => ((f_Fa_tell (5 : Int32) (0 : Int64) δ_13).bind (fun y30 => (some ((if (0 : Int32) < (a3 - v24) then (a3 - v24) else (0 : Int32)), y30))))))))))))))
set_option maxHeartbeats 4000000 in
set_option maxRecDepth 100000 in
theorem m_La_worn {a0 : Nat} {a1 : Int32} {a2 : Int32} {a3 : Int32} {δ : Dm} {n : Nat} (ha0 : isL a0 = true) : ∀ x, f_La_worn a0 a1 a2 a3 δ = some x → AMet k_La_worn 4 0 0 [.ref a0, .int a1, .int a2, .int a3, .ref 19] δ RT n (Km RT n x) := by
  refine aw_start (lo := [(0, .ref a0), (1, .int a1), (2, .int a2), (3, .int a3), (4, .ref 19)]) mok_La_worn rfl (Nat.le_of_ble_eq_true rfl) ?_
  unfold f_La_worn
  refine aw_aload d_La_worn_0 4 rfl ?_
  refine aw_iconst d_La_worn_2 ki_5 ?_
  refine aw_iload_n d_La_worn_3 3 rfl ?_
  refine aw_i2l d_La_worn_4 ?_
  refine aw_V_v (As := [.int (5 : Int32), .long ((a3).toInt64)]) (m_Fa_tell) cv_La_72 kd_19 rfl rfl rfl (Nat.le_of_ble_eq_true rfl) ⟨Nat.le_of_ble_eq_true rfl, Nat.le_of_ble_eq_true rfl⟩ ⟨Nat.le_refl _, Nat.le_refl _⟩ d_La_worn_5 (fun y5 => ?_)
  refine aw_aload_n d_La_worn_8 0 rfl ?_
  refine aw_iload_n d_La_worn_9 1 rfl ?_
  refine aw_iload_n d_La_worn_10 2 rfl ?_
  refine aw_aload d_La_worn_11 4 rfl ?_
  refine aw_V_n (As := [.int a1, .int a2, .ref 19]) (m_La_total ha0) cv_La_78 (fx_isLK ha0 0 (by decide)) rfl rfl rfl (Nat.le_of_ble_eq_true rfl) ⟨Nat.le_of_ble_eq_true rfl, Nat.le_of_ble_eq_true rfl⟩ ⟨Nat.le_refl _, Nat.le_refl _⟩ d_La_worn_13 (fun y13 => ?_)
  refine aw_bL (fun v13 => ?_)
  refine aw_bD (fun δ_13 => ?_)
  refine aw_lconst d_La_worn_16 kl_0 ?_
  refine aw_ldc2 (v := (1000 : Int64)) d_La_worn_17 kc_La_82 ?_
  refine aw_SN_l (As := [.long v13, .long (0 : Int64), .long (1000 : Int64)]) (m_Fp_held) cs_La_84 rfl rfl (Nat.le_of_ble_eq_true rfl) ⟨Nat.le_of_ble_eq_true rfl, Nat.le_of_ble_eq_true rfl⟩ ⟨Nat.le_refl _, Nat.le_refl _⟩ d_La_worn_20 (fun y20 => ?_)
  refine aw_l2i d_La_worn_23 ?_
  refine aw_bI (fun v24 => ?_)
  refine aw_istore (lo' := [(5, .int v24), (0, .ref a0), (1, .int a1), (2, .int a2), (3, .int a3), (4, .ref 19)]) d_La_worn_24 (by decide) rfl ?_
  refine aw_aload d_La_worn_26 5 rfl ?_
  refine aw_iconst d_La_worn_28 ki_5 ?_
  refine aw_lconst d_La_worn_29 kl_0 ?_
  refine aw_V_v (As := [.int (5 : Int32), .long (0 : Int64)]) (m_Fa_tell) cv_La_72 kd_19 rfl rfl rfl (Nat.le_of_ble_eq_true rfl) ⟨Nat.le_of_ble_eq_true rfl, Nat.le_of_ble_eq_true rfl⟩ ⟨Nat.le_refl _, Nat.le_refl _⟩ d_La_worn_30 (fun y30 => ?_)
  refine aw_iconst d_La_worn_33 ki_0 ?_
  refine aw_iload_n d_La_worn_34 4 rfl ?_
  refine aw_iload d_La_worn_35 0 rfl ?_
  refine aw_isub d_La_worn_37 ?_
  refine aw_maxI ml_La_88 ms_maxI mi_Ma mx_maxI (Nat.le_of_ble_eq_true rfl) (Nat.le_of_ble_eq_true rfl) ⟨Nat.le_refl _, Nat.le_refl _⟩ d_La_worn_38 ?_
  exact aw_iret rfl rfl ⟨Nat.le_refl _, Nat.le_refl _⟩ d_La_worn_41
def lp_La_wear_3 (kx3_35 : Int32 → Dm → Option Dm) (a0 : Nat) (a1 : Int32) (a2 : Nat) : Nat → Int32 → Dm → Option Dm
  | 0, _, _ => none
  | f + 1, v4_3, δ3 => (if (3 : Int32) ≤ v4_3 then (kx3_35 v4_3 δ3) else ((f_Fp_get a2 v4_3 δ3).bind (fun y19 => ((f_La_worn a0 a1 v4_3 y19 δ3).bind (fun y23 => bnd y23.1 (fun v23 => bnd y23.2 (fun δ_23 => ((f_Fp_put a2 v4_3 v23 δ_23).bind (fun y26 => (lp_La_wear_3 kx3_35 a0 a1 a2 f (v4_3 + (1 : Int32)) y26))))))))))
set_option maxHeartbeats 4000000 in
set_option maxRecDepth 100000 in
theorem tl_La_wear_3 {n : Nat} (kx3_35 : Int32 → Dm → Option Dm) (a0 : Nat) (a1 : Int32) (a2 : Nat) (ha0 : isL a0 = true) (ha2 : (KD a2).1 = 1) (hkx3_35 : ∀ v4_3k δ3k, AWo k_La_wear 5 0 0 35 [(0, .ref a0), (1, .int a1), (2, .ref a2), (3, .ref 19), (4, .int v4_3k)] [] δ3k RT n 0 0 (Kv RT n) (kx3_35 v4_3k δ3k)) : ∀ (f : Nat) (v4_3 : Int32) (δ3 : Dm), AWo k_La_wear 5 0 0 3 [(0, .ref a0), (1, .int a1), (2, .ref a2), (3, .ref 19), (4, .int v4_3)] [] δ3 RT n 0 0 (Kv RT n) (lp_La_wear_3 kx3_35 a0 a1 a2 f v4_3 δ3) := by
  intro f
  induction f with
  | zero => intro _ _; exact aw_none
  | succ f ih =>
    intro v4_3 δ3
    rw [lp_La_wear_3]
    refine aw_iload d_La_wear_3 4 rfl ?_
    refine aw_iconst d_La_wear_5 ki_3 ?_
    refine aw_icmp_ge (tgt := 35) d_La_wear_6 rfl (fun q6 => ?_) (fun q6 => ?_)
    · refine aw_sub (lo' := [(0, .ref a0), (1, .int a1), (2, .ref a2), (3, .ref 19), (4, .int v4_3)]) [0, 1, 2, 3, 4] rfl ?_
      exact hkx3_35 _ _
    · refine aw_aload_n d_La_wear_9 2 rfl ?_
      refine aw_iload d_La_wear_10 4 rfl ?_
      refine aw_aload_n d_La_wear_12 0 rfl ?_
      refine aw_iload_n d_La_wear_13 1 rfl ?_
      refine aw_iload d_La_wear_14 4 rfl ?_
      refine aw_aload_n d_La_wear_16 2 rfl ?_
      refine aw_iload d_La_wear_17 4 rfl ?_
      refine aw_SN_p (As := [.ref a2, .int v4_3]) (m_Fp_get ha2) cs_La_50 rfl rfl (Nat.le_of_ble_eq_true rfl) ⟨Nat.le_of_ble_eq_true rfl, Nat.le_of_ble_eq_true rfl⟩ ⟨Nat.le_refl _, Nat.le_refl _⟩ d_La_wear_19 (fun y19 => ?_)
      refine aw_aload_n d_La_wear_22 3 rfl ?_
      refine aw_V_m (As := [.int a1, .int v4_3, .int y19, .ref 19]) (m_La_worn ha0) cv_La_68 (fx_isLK ha0 0 (by decide)) rfl rfl rfl (Nat.le_of_ble_eq_true rfl) ⟨Nat.le_of_ble_eq_true rfl, Nat.le_of_ble_eq_true rfl⟩ ⟨Nat.le_refl _, Nat.le_refl _⟩ d_La_wear_23 (fun y23 => ?_)
      refine aw_bI (fun v23 => ?_)
      refine aw_bD (fun δ_23 => ?_)
      refine aw_SN_v (As := [.ref a2, .int v4_3, .int v23]) (m_Fp_put ha2) cs_La_46 rfl rfl (Nat.le_of_ble_eq_true rfl) ⟨Nat.le_of_ble_eq_true rfl, Nat.le_of_ble_eq_true rfl⟩ ⟨Nat.le_refl _, Nat.le_refl _⟩ d_La_wear_26 (fun y26 => ?_)
      refine aw_iinc (v := (v4_3 + (1 : Int32))) (lo' := [(4, .int (v4_3 + (1 : Int32))), (0, .ref a0), (1, .int a1), (2, .ref a2), (3, .ref 19)]) d_La_wear_29 4 rfl (by rw [show Int32.ofInt (1) = (1 : Int32) from by decide]) (by decide) rfl ?_
      refine aw_goto (tgt := 3) d_La_wear_32 rfl ?_
      refine aw_sub (lo' := [(0, .ref a0), (1, .int a1), (2, .ref a2), (3, .ref 19), (4, .int (v4_3 + (1 : Int32)))]) [1, 2, 3, 4, 0] rfl ?_
      exact ih _ _
def f_La_wear (a0 : Nat) (a1 : Int32) (a2 : Nat) (δ : Dm) : Option Dm := (lp_La_wear_3 (fun v4_3x δ3x => (some δ3x)) a0 a1 a2 FU (0 : Int32) δ)
set_option maxHeartbeats 4000000 in
set_option maxRecDepth 100000 in
theorem m_La_wear {a0 : Nat} {a1 : Int32} {a2 : Nat} {δ : Dm} {n : Nat} (ha0 : isL a0 = true) (ha2 : (KD a2).1 = 1) : ∀ x, f_La_wear a0 a1 a2 δ = some x → AMet k_La_wear 5 0 0 [.ref a0, .int a1, .ref a2, .ref 19] δ RT n (Kv RT n x) := by
  refine aw_start (lo := [(0, .ref a0), (1, .int a1), (2, .ref a2), (3, .ref 19)]) mok_La_wear rfl (Nat.le_of_ble_eq_true rfl) ?_
  unfold f_La_wear
  refine aw_iconst d_La_wear_0 ki_0 ?_
  refine aw_istore (lo' := [(4, .int (0 : Int32)), (0, .ref a0), (1, .int a1), (2, .ref a2), (3, .ref 19)]) d_La_wear_1 (by decide) rfl ?_
  refine aw_sub (lo' := [(0, .ref a0), (1, .int a1), (2, .ref a2), (3, .ref 19), (4, .int (0 : Int32))]) [1, 2, 3, 4, 0] rfl ?_
  refine tl_La_wear_3 _ _ _ _ ha0 ha2 (fun v4_3x δ3x => ?_) FU _ _
  · exact aw_vret rfl rfl ⟨Nat.le_refl _, Nat.le_refl _⟩ d_La_wear_35
def f_Di_addEvent (a1 : Int32) (a2 : Int32) (a3 : Int32) (δ : Dm) : Option Dm := (if (900 : Int32) ≤ (gI δ 34 2) then (some δ) else ((f_Fp_put 42 (gI δ 34 2) a1 δ).bind (fun y19 => ((f_Fp_put 43 (gI y19 34 2) a2 y19).bind (fun y31 => ((f_Fp_put 44 (gI y31 34 2) a3 y31).bind (fun y43 => (bnd (sI y43 34 2 ((gI y43 34 2) + (1 : Int32))) (fun δ_53 => (some δ_53))))))))))
set_option maxHeartbeats 4000000 in
set_option maxRecDepth 100000 in
theorem m_Di_addEvent {a1 : Int32} {a2 : Int32} {a3 : Int32} {δ : Dm} {n : Nat} : ∀ x, f_Di_addEvent a1 a2 a3 δ = some x → AMet k_Di_addEvent 2 0 0 [.ref 34, .int a1, .int a2, .int a3] δ RT n (Kv RT n x) := by
  refine aw_start (lo := [(0, .ref 34), (1, .int a1), (2, .int a2), (3, .int a3)]) mok_Di_addEvent rfl (Nat.le_of_ble_eq_true rfl) ?_
  unfold f_Di_addEvent
  refine aw_aload_n d_Di_addEvent_0 0 rfl ?_
  refine aw_getI fl_Di_49 kd_34 d_Di_addEvent_1 ?_
  refine aw_sipush d_Di_addEvent_4 ks_900 ?_
  refine aw_icmp_ge (tgt := 56) d_Di_addEvent_7 rfl (fun q7 => ?_) (fun q7 => ?_)
  · exact aw_vret rfl rfl ⟨Nat.le_refl _, Nat.le_refl _⟩ d_Di_addEvent_56
  · refine aw_aload_n d_Di_addEvent_10 0 rfl ?_
    refine aw_getR (t := 42) fl_Di_33 kd_34 rt_34_10 d_Di_addEvent_11 ?_
    refine aw_aload_n d_Di_addEvent_14 0 rfl ?_
    refine aw_getI fl_Di_49 kd_34 d_Di_addEvent_15 ?_
    refine aw_iload_n d_Di_addEvent_18 1 rfl ?_
    refine aw_SN_v (As := [.ref 42, .int (gI δ 34 2), .int a1]) (m_Fp_put (congrArg Prod.fst kd_42)) cs_Di_56 rfl rfl (Nat.le_of_ble_eq_true rfl) ⟨Nat.le_of_ble_eq_true rfl, Nat.le_of_ble_eq_true rfl⟩ ⟨Nat.le_refl _, Nat.le_refl _⟩ d_Di_addEvent_19 (fun y19 => ?_)
    refine aw_aload_n d_Di_addEvent_22 0 rfl ?_
    refine aw_getR (t := 43) fl_Di_36 kd_34 rt_34_11 d_Di_addEvent_23 ?_
    refine aw_aload_n d_Di_addEvent_26 0 rfl ?_
    refine aw_getI fl_Di_49 kd_34 d_Di_addEvent_27 ?_
    refine aw_iload_n d_Di_addEvent_30 2 rfl ?_
    refine aw_SN_v (As := [.ref 43, .int (gI y19 34 2), .int a2]) (m_Fp_put (congrArg Prod.fst kd_43)) cs_Di_56 rfl rfl (Nat.le_of_ble_eq_true rfl) ⟨Nat.le_of_ble_eq_true rfl, Nat.le_of_ble_eq_true rfl⟩ ⟨Nat.le_refl _, Nat.le_refl _⟩ d_Di_addEvent_31 (fun y31 => ?_)
    refine aw_aload_n d_Di_addEvent_34 0 rfl ?_
    refine aw_getR (t := 44) fl_Di_39 kd_34 rt_34_12 d_Di_addEvent_35 ?_
    refine aw_aload_n d_Di_addEvent_38 0 rfl ?_
    refine aw_getI fl_Di_49 kd_34 d_Di_addEvent_39 ?_
    refine aw_iload_n d_Di_addEvent_42 3 rfl ?_
    refine aw_SN_v (As := [.ref 44, .int (gI y31 34 2), .int a3]) (m_Fp_put (congrArg Prod.fst kd_44)) cs_Di_56 rfl rfl (Nat.le_of_ble_eq_true rfl) ⟨Nat.le_of_ble_eq_true rfl, Nat.le_of_ble_eq_true rfl⟩ ⟨Nat.le_refl _, Nat.le_refl _⟩ d_Di_addEvent_43 (fun y43 => ?_)
    refine aw_aload_n d_Di_addEvent_46 0 rfl ?_
    refine aw_dup d_Di_addEvent_47 rfl ?_
    refine aw_getI fl_Di_49 kd_34 d_Di_addEvent_48 ?_
    refine aw_iconst d_Di_addEvent_51 ki_1 ?_
    refine aw_iadd d_Di_addEvent_52 ?_
    refine aw_putI pf_Di_49 kd_34 d_Di_addEvent_53 ?_
    refine aw_bD (fun δ_53 => ?_)
    exact aw_vret rfl rfl ⟨Nat.le_refl _, Nat.le_refl _⟩ d_Di_addEvent_56
def f_Di_addStrip (a1 : Int32) (a2 : Int32) (a3 : Int32) (δ : Dm) : Option Dm := ((f_Fp_put 35 (gI δ 34 0) a1 δ).bind (fun y9 => ((f_Fp_put 36 (gI y9 34 0) a2 y9).bind (fun y21 => ((f_Fp_put 37 (gI y21 34 0) a3 y21).bind (fun y33 => ((f_Di_addEvent a1 a2 (gI y33 34 0) y33).bind (fun y43 => (bnd (sI y43 34 0 ((gI y43 34 0) + (1 : Int32))) (fun δ_53 => (some δ_53)))))))))))
set_option maxHeartbeats 4000000 in
set_option maxRecDepth 100000 in
theorem m_Di_addStrip {a1 : Int32} {a2 : Int32} {a3 : Int32} {δ : Dm} {n : Nat} : ∀ x, f_Di_addStrip a1 a2 a3 δ = some x → AMet k_Di_addStrip 3 0 0 [.ref 34, .int a1, .int a2, .int a3] δ RT n (Kv RT n x) := by
  refine aw_start (lo := [(0, .ref 34), (1, .int a1), (2, .int a2), (3, .int a3)]) mok_Di_addStrip rfl (Nat.le_of_ble_eq_true rfl) ?_
  unfold f_Di_addStrip
  refine aw_aload_n d_Di_addStrip_0 0 rfl ?_
  refine aw_getR (t := 35) fl_Di_11 kd_34 rt_34_3 d_Di_addStrip_1 ?_
  refine aw_aload_n d_Di_addStrip_4 0 rfl ?_
  refine aw_getI fl_Di_42 kd_34 d_Di_addStrip_5 ?_
  refine aw_iload_n d_Di_addStrip_8 1 rfl ?_
  refine aw_SN_v (As := [.ref 35, .int (gI δ 34 0), .int a1]) (m_Fp_put (congrArg Prod.fst kd_35)) cs_Di_56 rfl rfl (Nat.le_of_ble_eq_true rfl) ⟨Nat.le_of_ble_eq_true rfl, Nat.le_of_ble_eq_true rfl⟩ ⟨Nat.le_refl _, Nat.le_refl _⟩ d_Di_addStrip_9 (fun y9 => ?_)
  refine aw_aload_n d_Di_addStrip_12 0 rfl ?_
  refine aw_getR (t := 36) fl_Di_15 kd_34 rt_34_4 d_Di_addStrip_13 ?_
  refine aw_aload_n d_Di_addStrip_16 0 rfl ?_
  refine aw_getI fl_Di_42 kd_34 d_Di_addStrip_17 ?_
  refine aw_iload_n d_Di_addStrip_20 2 rfl ?_
  refine aw_SN_v (As := [.ref 36, .int (gI y9 34 0), .int a2]) (m_Fp_put (congrArg Prod.fst kd_36)) cs_Di_56 rfl rfl (Nat.le_of_ble_eq_true rfl) ⟨Nat.le_of_ble_eq_true rfl, Nat.le_of_ble_eq_true rfl⟩ ⟨Nat.le_refl _, Nat.le_refl _⟩ d_Di_addStrip_21 (fun y21 => ?_)
  refine aw_aload_n d_Di_addStrip_24 0 rfl ?_
  refine aw_getR (t := 37) fl_Di_18 kd_34 rt_34_5 d_Di_addStrip_25 ?_
  refine aw_aload_n d_Di_addStrip_28 0 rfl ?_
  refine aw_getI fl_Di_42 kd_34 d_Di_addStrip_29 ?_
  refine aw_iload_n d_Di_addStrip_32 3 rfl ?_
  refine aw_SN_v (As := [.ref 37, .int (gI y21 34 0), .int a3]) (m_Fp_put (congrArg Prod.fst kd_37)) cs_Di_56 rfl rfl (Nat.le_of_ble_eq_true rfl) ⟨Nat.le_of_ble_eq_true rfl, Nat.le_of_ble_eq_true rfl⟩ ⟨Nat.le_refl _, Nat.le_refl _⟩ d_Di_addStrip_33 (fun y33 => ?_)
  refine aw_aload_n d_Di_addStrip_36 0 rfl ?_
  refine aw_iload_n d_Di_addStrip_37 1 rfl ?_
  refine aw_iload_n d_Di_addStrip_38 2 rfl ?_
  refine aw_aload_n d_Di_addStrip_39 0 rfl ?_
  refine aw_getI fl_Di_42 kd_34 d_Di_addStrip_40 ?_
  refine aw_V_v (As := [.int a1, .int a2, .int (gI y33 34 0)]) (m_Di_addEvent) cv_Di_60 kd_34 rfl rfl rfl (Nat.le_of_ble_eq_true rfl) ⟨Nat.le_of_ble_eq_true rfl, Nat.le_of_ble_eq_true rfl⟩ ⟨Nat.le_refl _, Nat.le_refl _⟩ d_Di_addStrip_43 (fun y43 => ?_)
  refine aw_aload_n d_Di_addStrip_46 0 rfl ?_
  refine aw_dup d_Di_addStrip_47 rfl ?_
  refine aw_getI fl_Di_42 kd_34 d_Di_addStrip_48 ?_
  refine aw_iconst d_Di_addStrip_51 ki_1 ?_
  refine aw_iadd d_Di_addStrip_52 ?_
  refine aw_putI pf_Di_42 kd_34 d_Di_addStrip_53 ?_
  refine aw_bD (fun δ_53 => ?_)
  exact aw_vret rfl rfl ⟨Nat.le_refl _, Nat.le_refl _⟩ d_Di_addStrip_56
def f_Di_tellStrip (a1 : Int32) (a2 : Int32) (a3 : Int32) (a4 : Int32) (δ : Dm) : Option Dm := ((f_Fp_put 38 ((gI δ 34 0) - (1 : Int32)) a1 δ).bind (fun y11 => ((f_Fp_put 39 ((gI y11 34 0) - (1 : Int32)) a2 y11).bind (fun y25 => ((f_Fp_put 40 ((gI y25 34 0) - (1 : Int32)) a3 y25).bind (fun y39 => ((f_Fp_put 41 ((gI y39 34 0) - (1 : Int32)) a4 y39).bind (fun y54 => (some y54)))))))))
set_option maxHeartbeats 4000000 in
set_option maxRecDepth 100000 in
theorem m_Di_tellStrip {a1 : Int32} {a2 : Int32} {a3 : Int32} {a4 : Int32} {δ : Dm} {n : Nat} : ∀ x, f_Di_tellStrip a1 a2 a3 a4 δ = some x → AMet k_Di_tellStrip 2 0 0 [.ref 34, .int a1, .int a2, .int a3, .int a4] δ RT n (Kv RT n x) := by
  refine aw_start (lo := [(0, .ref 34), (1, .int a1), (2, .int a2), (3, .int a3), (4, .int a4)]) mok_Di_tellStrip rfl (Nat.le_of_ble_eq_true rfl) ?_
  unfold f_Di_tellStrip
  refine aw_aload_n d_Di_tellStrip_0 0 rfl ?_
  refine aw_getR (t := 38) fl_Di_21 kd_34 rt_34_6 d_Di_tellStrip_1 ?_
  refine aw_aload_n d_Di_tellStrip_4 0 rfl ?_
  refine aw_getI fl_Di_42 kd_34 d_Di_tellStrip_5 ?_
  refine aw_iconst d_Di_tellStrip_8 ki_1 ?_
  refine aw_isub d_Di_tellStrip_9 ?_
  refine aw_iload_n d_Di_tellStrip_10 1 rfl ?_
  refine aw_SN_v (As := [.ref 38, .int ((gI δ 34 0) - (1 : Int32)), .int a1]) (m_Fp_put (congrArg Prod.fst kd_38)) cs_Di_56 rfl rfl (Nat.le_of_ble_eq_true rfl) ⟨Nat.le_of_ble_eq_true rfl, Nat.le_of_ble_eq_true rfl⟩ ⟨Nat.le_refl _, Nat.le_refl _⟩ d_Di_tellStrip_11 (fun y11 => ?_)
  refine aw_aload_n d_Di_tellStrip_14 0 rfl ?_
  refine aw_getR (t := 39) fl_Di_24 kd_34 rt_34_7 d_Di_tellStrip_15 ?_
  refine aw_aload_n d_Di_tellStrip_18 0 rfl ?_
  refine aw_getI fl_Di_42 kd_34 d_Di_tellStrip_19 ?_
  refine aw_iconst d_Di_tellStrip_22 ki_1 ?_
  refine aw_isub d_Di_tellStrip_23 ?_
  refine aw_iload_n d_Di_tellStrip_24 2 rfl ?_
  refine aw_SN_v (As := [.ref 39, .int ((gI y11 34 0) - (1 : Int32)), .int a2]) (m_Fp_put (congrArg Prod.fst kd_39)) cs_Di_56 rfl rfl (Nat.le_of_ble_eq_true rfl) ⟨Nat.le_of_ble_eq_true rfl, Nat.le_of_ble_eq_true rfl⟩ ⟨Nat.le_refl _, Nat.le_refl _⟩ d_Di_tellStrip_25 (fun y25 => ?_)
  refine aw_aload_n d_Di_tellStrip_28 0 rfl ?_
  refine aw_getR (t := 40) fl_Di_27 kd_34 rt_34_8 d_Di_tellStrip_29 ?_
  refine aw_aload_n d_Di_tellStrip_32 0 rfl ?_
  refine aw_getI fl_Di_42 kd_34 d_Di_tellStrip_33 ?_
  refine aw_iconst d_Di_tellStrip_36 ki_1 ?_
  refine aw_isub d_Di_tellStrip_37 ?_
  refine aw_iload_n d_Di_tellStrip_38 3 rfl ?_
  refine aw_SN_v (As := [.ref 40, .int ((gI y25 34 0) - (1 : Int32)), .int a3]) (m_Fp_put (congrArg Prod.fst kd_40)) cs_Di_56 rfl rfl (Nat.le_of_ble_eq_true rfl) ⟨Nat.le_of_ble_eq_true rfl, Nat.le_of_ble_eq_true rfl⟩ ⟨Nat.le_refl _, Nat.le_refl _⟩ d_Di_tellStrip_39 (fun y39 => ?_)
  refine aw_aload_n d_Di_tellStrip_42 0 rfl ?_
  refine aw_getR (t := 41) fl_Di_30 kd_34 rt_34_9 d_Di_tellStrip_43 ?_
  refine aw_aload_n d_Di_tellStrip_46 0 rfl ?_
  refine aw_getI fl_Di_42 kd_34 d_Di_tellStrip_47 ?_
  refine aw_iconst d_Di_tellStrip_50 ki_1 ?_
  refine aw_isub d_Di_tellStrip_51 ?_
  refine aw_iload d_Di_tellStrip_52 4 rfl ?_
  refine aw_SN_v (As := [.ref 41, .int ((gI y39 34 0) - (1 : Int32)), .int a4]) (m_Fp_put (congrArg Prod.fst kd_41)) cs_Di_56 rfl rfl (Nat.le_of_ble_eq_true rfl) ⟨Nat.le_of_ble_eq_true rfl, Nat.le_of_ble_eq_true rfl⟩ ⟨Nat.le_refl _, Nat.le_refl _⟩ d_Di_tellStrip_54 (fun y54 => ?_)
  exact aw_vret rfl rfl ⟨Nat.le_refl _, Nat.le_refl _⟩ d_Di_tellStrip_57
