noncomputable section
def jp_Re_readSum_106 (kr5 : Int32 → Int32 → Dm → Option Dm) (kx5_116 : Int32 → Int32 → Dm → Option Dm) (v92 : Int32) (v2_5 : Int32) (v3_18x : Int32) (δ88 : Dm) : Option Dm := ((f_Re_step δ88).bind (fun y107 => (kr5 v92 (v2_5 + (1 : Int32)) y107)))
set_option maxHeartbeats 4000000 in
set_option maxRecDepth 100000 in
theorem tj_Re_readSum_106 {n : Nat} (kr5 : Int32 → Int32 → Dm → Option Dm) (kx5_116 : Int32 → Int32 → Dm → Option Dm) (v92 : Int32) (v2_5 : Int32) (v3_18x : Int32) (δ88 : Dm) (hkr5 : ∀ v1_5k v2_5k δ5k, AWo k_Re_readSum 3 0 0 5 [(0, .ref 7), (1, .int v1_5k), (2, .int v2_5k)] [] δ5k RT n 0 0 (Kv RT n) (kr5 v1_5k v2_5k δ5k)) (hkx5_116 : ∀ v1_5k v2_5k δ5k, AWo k_Re_readSum 3 0 0 116 [(0, .ref 7), (1, .int v1_5k), (2, .int v2_5k)] [] δ5k RT n 0 0 (Kv RT n) (kx5_116 v1_5k v2_5k δ5k)) : AWo k_Re_readSum 3 0 0 106 [(0, .ref 7), (1, .int v92), (2, .int v2_5), (3, .int v3_18x)] [] δ88 RT n 0 0 (Kv RT n) (jp_Re_readSum_106 kr5 kx5_116 v92 v2_5 v3_18x δ88) := by
  unfold jp_Re_readSum_106
  refine aw_aload_n d_Re_readSum_106 0 rfl ?_
  refine aw_V_v (As := []) (m_Re_step) cv_Re_45 kd_7 rfl rfl rfl (Nat.le_of_ble_eq_true rfl) ⟨Nat.le_of_ble_eq_true rfl, Nat.le_of_ble_eq_true rfl⟩ ⟨Nat.le_refl _, Nat.le_refl _⟩ d_Re_readSum_107 (fun y107 => ?_)
  refine aw_iinc (v := (v2_5 + (1 : Int32))) (lo' := [(2, .int (v2_5 + (1 : Int32))), (0, .ref 7), (1, .int v92), (3, .int v3_18x)]) d_Re_readSum_110 2 rfl (by rw [show Int32.ofInt (1) = (1 : Int32) from by decide]) (by decide) rfl ?_
  refine aw_goto (tgt := 5) d_Re_readSum_113 rfl ?_
  refine aw_sub (lo' := [(0, .ref 7), (1, .int v92), (2, .int (v2_5 + (1 : Int32)))]) [1, 2, 0] rfl ?_
  exact hkr5 _ _ _
def jp_Re_readSum_88 (kr5 : Int32 → Int32 → Dm → Option Dm) (kx5_116 : Int32 → Int32 → Dm → Option Dm) (v1_5 : Int32) (v2_5 : Int32) (v3_18x : Int32) (δ88 : Dm) : Option Dm := (bnd (gI δ88 7 5) (fun v92 => (if v92 = (22 : Int32) then (jp_Re_readSum_106 kr5 kx5_116 v92 v2_5 v3_18x δ88) else (if v92 = (23 : Int32) then (jp_Re_readSum_106 kr5 kx5_116 v92 v2_5 v3_18x δ88) else (some δ88)))))
set_option maxHeartbeats 4000000 in
set_option maxRecDepth 100000 in
theorem tj_Re_readSum_88 {n : Nat} (kr5 : Int32 → Int32 → Dm → Option Dm) (kx5_116 : Int32 → Int32 → Dm → Option Dm) (v1_5 : Int32) (v2_5 : Int32) (v3_18x : Int32) (δ88 : Dm) (hkr5 : ∀ v1_5k v2_5k δ5k, AWo k_Re_readSum 3 0 0 5 [(0, .ref 7), (1, .int v1_5k), (2, .int v2_5k)] [] δ5k RT n 0 0 (Kv RT n) (kr5 v1_5k v2_5k δ5k)) (hkx5_116 : ∀ v1_5k v2_5k δ5k, AWo k_Re_readSum 3 0 0 116 [(0, .ref 7), (1, .int v1_5k), (2, .int v2_5k)] [] δ5k RT n 0 0 (Kv RT n) (kx5_116 v1_5k v2_5k δ5k)) : AWo k_Re_readSum 3 0 0 88 [(0, .ref 7), (1, .int v1_5), (2, .int v2_5), (3, .int v3_18x)] [] δ88 RT n 0 0 (Kv RT n) (jp_Re_readSum_88 kr5 kx5_116 v1_5 v2_5 v3_18x δ88) := by
  unfold jp_Re_readSum_88
  refine aw_aload_n d_Re_readSum_88 0 rfl ?_
  refine aw_getI fl_Re_52 kd_7 d_Re_readSum_89 ?_
  refine aw_bI (fun v92 => ?_)
  refine aw_istore_n (lo' := [(1, .int v92), (0, .ref 7), (2, .int v2_5), (3, .int v3_18x)]) d_Re_readSum_92 rfl (by decide) rfl ?_
  refine aw_iload_n d_Re_readSum_93 0 rfl ?_
  refine aw_bipush d_Re_readSum_94 kb_22 ?_
  refine aw_icmp_eq (tgt := 106) d_Re_readSum_96 rfl (fun q96 => ?_) (fun q96 => ?_)
  · refine aw_sub (lo' := [(0, .ref 7), (1, .int v92), (2, .int v2_5), (3, .int v3_18x)]) [1, 0, 2, 3] rfl ?_
    exact tj_Re_readSum_106 _ _ _ _ _ _ hkr5 hkx5_116
  · refine aw_iload_n d_Re_readSum_99 0 rfl ?_
    refine aw_bipush d_Re_readSum_100 kb_23 ?_
    refine aw_icmp_eq (tgt := 106) d_Re_readSum_102 rfl (fun q102 => ?_) (fun q102 => ?_)
    · refine aw_sub (lo' := [(0, .ref 7), (1, .int v92), (2, .int v2_5), (3, .int v3_18x)]) [1, 0, 2, 3] rfl ?_
      exact tj_Re_readSum_106 _ _ _ _ _ _ hkr5 hkx5_116
    · exact aw_vret rfl rfl ⟨Nat.le_refl _, Nat.le_refl _⟩ d_Re_readSum_105
def jp_Re_readSum_43 (kr18 : Int32 → Dm → Option Dm) (kx18_74 : Int32 → Dm → Option Dm) (v1_5 : Int32) (v2_5 : Int32) (v3_18 : Int32) (δ18 : Dm) : Option Dm := (bnd (gI δ18 7 5) (fun v47 => ((f_Re_step δ18).bind (fun y50 => ((f_Re_readValue y50).bind (fun y54 => (ocs (dR (gI y54 7 8)) none (fun t58 => if isL t58 = true then ((f_La_emit t58 ((-1 : Int32) - v47) y54).bind (fun y65 => (kr18 (v3_18 + (1 : Int32)) y65))) else none))))))))
set_option maxHeartbeats 4000000 in
set_option maxRecDepth 100000 in
theorem tj_Re_readSum_43 {n : Nat} (kr18 : Int32 → Dm → Option Dm) (kx18_74 : Int32 → Dm → Option Dm) (v1_5 : Int32) (v2_5 : Int32) (v3_18 : Int32) (δ18 : Dm) (hkr18 : ∀ v3_18k δ18k, AWo k_Re_readSum 3 0 0 18 [(0, .ref 7), (1, .int v1_5), (2, .int v2_5), (3, .int v3_18k)] [] δ18k RT n 0 0 (Kv RT n) (kr18 v3_18k δ18k)) (hkx18_74 : ∀ v3_18k δ18k, AWo k_Re_readSum 3 0 0 74 [(0, .ref 7), (1, .int v1_5), (2, .int v2_5), (3, .int v3_18k)] [] δ18k RT n 0 0 (Kv RT n) (kx18_74 v3_18k δ18k)) : AWo k_Re_readSum 3 0 0 43 [(0, .ref 7), (1, .int v1_5), (2, .int v2_5), (3, .int v3_18)] [] δ18 RT n 0 0 (Kv RT n) (jp_Re_readSum_43 kr18 kx18_74 v1_5 v2_5 v3_18 δ18) := by
  unfold jp_Re_readSum_43
  refine aw_aload_n d_Re_readSum_43 0 rfl ?_
  refine aw_getI fl_Re_52 kd_7 d_Re_readSum_44 ?_
  refine aw_bI (fun v47 => ?_)
  refine aw_istore (lo' := [(4, .int v47), (0, .ref 7), (1, .int v1_5), (2, .int v2_5), (3, .int v3_18)]) d_Re_readSum_47 (by decide) rfl ?_
  refine aw_aload_n d_Re_readSum_49 1 rfl ?_
  refine aw_V_v (As := []) (m_Re_step) cv_Re_45 kd_7 rfl rfl rfl (Nat.le_of_ble_eq_true rfl) ⟨Nat.le_of_ble_eq_true rfl, Nat.le_of_ble_eq_true rfl⟩ ⟨Nat.le_refl _, Nat.le_refl _⟩ d_Re_readSum_50 (fun y50 => ?_)
  refine aw_aload_n d_Re_readSum_53 1 rfl ?_
  refine aw_V_v (As := []) (m_Re_readValue) cv_Re_162 kd_7 rfl rfl rfl (Nat.le_of_ble_eq_true rfl) ⟨Nat.le_of_ble_eq_true rfl, Nat.le_of_ble_eq_true rfl⟩ ⟨Nat.le_refl _, Nat.le_refl _⟩ d_Re_readSum_54 (fun y54 => ?_)
  refine aw_aload_n d_Re_readSum_57 1 rfl ?_
  refine aw_getD fl_Re_24 kd_7 d_Re_readSum_58 aw_none (fun t58 => ?_)
  refine aw_grd (fun ht58 => ?_)
  refine aw_iconst d_Re_readSum_61 ki_m1 ?_
  refine aw_iload d_Re_readSum_62 0 rfl ?_
  refine aw_isub d_Re_readSum_64 ?_
  refine aw_V_v (As := [.int ((-1 : Int32) - v47)]) (m_La_emit ht58) cv_Re_159 (fx_isLK ht58 0 (by decide)) rfl rfl rfl (Nat.le_of_ble_eq_true rfl) ⟨Nat.le_of_ble_eq_true rfl, Nat.le_of_ble_eq_true rfl⟩ ⟨Nat.le_refl _, Nat.le_refl _⟩ d_Re_readSum_65 (fun y65 => ?_)
  refine aw_iinc (v := (v3_18 + (1 : Int32))) (lo' := [(3, .int (v3_18 + (1 : Int32))), (4, .int v47), (0, .ref 7), (1, .int v1_5), (2, .int v2_5)]) d_Re_readSum_68 4 rfl (by rw [show Int32.ofInt (1) = (1 : Int32) from by decide]) (by decide) rfl ?_
  refine aw_goto (tgt := 18) d_Re_readSum_71 rfl ?_
  refine aw_sub (lo' := [(0, .ref 7), (1, .int v1_5), (2, .int v2_5), (3, .int (v3_18 + (1 : Int32)))]) [2, 3, 4, 0] rfl ?_
  exact hkr18 _ _
def lp_Re_readSum_18 (kx18_74 : Int32 → Dm → Option Dm) (v1_5 : Int32) (v2_5 : Int32) : Nat → Int32 → Dm → Option Dm
  | 0, _, _ => none
  | f + 1, v3_18, δ18 => (if (400 : Int32) ≤ v3_18 then (kx18_74 v3_18 δ18) else (if (gI δ18 7 5) = (24 : Int32) then (jp_Re_readSum_43 (lp_Re_readSum_18 kx18_74 v1_5 v2_5 f) kx18_74 v1_5 v2_5 v3_18 δ18) else (if (gI δ18 7 5) = (25 : Int32) then (jp_Re_readSum_43 (lp_Re_readSum_18 kx18_74 v1_5 v2_5 f) kx18_74 v1_5 v2_5 v3_18 δ18) else (kx18_74 v3_18 δ18))))
set_option maxHeartbeats 4000000 in
set_option maxRecDepth 100000 in
theorem tl_Re_readSum_18 {n : Nat} (kx18_74 : Int32 → Dm → Option Dm) (v1_5 : Int32) (v2_5 : Int32) (hkx18_74 : ∀ v3_18k δ18k, AWo k_Re_readSum 3 0 0 74 [(0, .ref 7), (1, .int v1_5), (2, .int v2_5), (3, .int v3_18k)] [] δ18k RT n 0 0 (Kv RT n) (kx18_74 v3_18k δ18k)) : ∀ (f : Nat) (v3_18 : Int32) (δ18 : Dm), AWo k_Re_readSum 3 0 0 18 [(0, .ref 7), (1, .int v1_5), (2, .int v2_5), (3, .int v3_18)] [] δ18 RT n 0 0 (Kv RT n) (lp_Re_readSum_18 kx18_74 v1_5 v2_5 f v3_18 δ18) := by
  intro f
  induction f with
  | zero => intro _ _; exact aw_none
  | succ f ih =>
    intro v3_18 δ18
    rw [lp_Re_readSum_18]
    refine aw_iload_n d_Re_readSum_18 3 rfl ?_
    refine aw_sipush d_Re_readSum_19 ks_400 ?_
    refine aw_icmp_ge (tgt := 74) d_Re_readSum_22 rfl (fun q22 => ?_) (fun q22 => ?_)
    · refine aw_sub (lo' := [(0, .ref 7), (1, .int v1_5), (2, .int v2_5), (3, .int v3_18)]) [0, 1, 2, 3] rfl ?_
      exact hkx18_74 _ _
    · refine aw_aload_n d_Re_readSum_25 0 rfl ?_
      refine aw_getI fl_Re_52 kd_7 d_Re_readSum_26 ?_
      refine aw_bipush d_Re_readSum_29 kb_24 ?_
      refine aw_icmp_eq (tgt := 43) d_Re_readSum_31 rfl (fun q31 => ?_) (fun q31 => ?_)
      · refine aw_sub (lo' := [(0, .ref 7), (1, .int v1_5), (2, .int v2_5), (3, .int v3_18)]) [0, 1, 2, 3] rfl ?_
        exact tj_Re_readSum_43 _ _ _ _ _ _ ih hkx18_74
      · refine aw_aload_n d_Re_readSum_34 0 rfl ?_
        refine aw_getI fl_Re_52 kd_7 d_Re_readSum_35 ?_
        refine aw_bipush d_Re_readSum_38 kb_25 ?_
        refine aw_icmp_ne (tgt := 74) d_Re_readSum_40 rfl (fun q40 => ?_) (fun q40 => ?_)
        · refine aw_sub (lo' := [(0, .ref 7), (1, .int v1_5), (2, .int v2_5), (3, .int v3_18)]) [0, 1, 2, 3] rfl ?_
          exact tj_Re_readSum_43 _ _ _ _ _ _ ih hkx18_74
        · refine aw_sub (lo' := [(0, .ref 7), (1, .int v1_5), (2, .int v2_5), (3, .int v3_18)]) [0, 1, 2, 3] rfl ?_
          exact hkx18_74 _ _
def lp_Re_readSum_5 (kx5_116 : Int32 → Int32 → Dm → Option Dm) : Nat → Int32 → Int32 → Dm → Option Dm
  | 0, _, _, _ => none
  | f + 1, v1_5, v2_5, δ5 => (if (400 : Int32) < v2_5 then (kx5_116 v1_5 v2_5 δ5) else ((f_Re_readValue δ5).bind (fun y13 => (lp_Re_readSum_18 (fun v3_18x δ18x => (if v2_5 ≤ 0 then (jp_Re_readSum_88 (lp_Re_readSum_5 kx5_116 f) kx5_116 v1_5 v2_5 v3_18x δ18x) else (ocs (dR (gI δ18x 7 8)) none (fun t79 => if isL t79 = true then ((f_La_emit t79 ((-1 : Int32) - v1_5) δ18x).bind (fun y85 => (jp_Re_readSum_88 (lp_Re_readSum_5 kx5_116 f) kx5_116 v1_5 v2_5 v3_18x y85))) else none)))) v1_5 v2_5 FU (0 : Int32) y13))))
set_option maxHeartbeats 4000000 in
set_option maxRecDepth 100000 in
theorem tl_Re_readSum_5 {n : Nat} (kx5_116 : Int32 → Int32 → Dm → Option Dm) (hkx5_116 : ∀ v1_5k v2_5k δ5k, AWo k_Re_readSum 3 0 0 116 [(0, .ref 7), (1, .int v1_5k), (2, .int v2_5k)] [] δ5k RT n 0 0 (Kv RT n) (kx5_116 v1_5k v2_5k δ5k)) : ∀ (f : Nat) (v1_5 : Int32) (v2_5 : Int32) (δ5 : Dm), AWo k_Re_readSum 3 0 0 5 [(0, .ref 7), (1, .int v1_5), (2, .int v2_5)] [] δ5 RT n 0 0 (Kv RT n) (lp_Re_readSum_5 kx5_116 f v1_5 v2_5 δ5) := by
  intro f
  induction f with
  | zero => intro _ _ _; exact aw_none
  | succ f ih =>
    intro v1_5 v2_5 δ5
    rw [lp_Re_readSum_5]
    refine aw_iload_n d_Re_readSum_5 2 rfl ?_
    refine aw_sipush d_Re_readSum_6 ks_400 ?_
    refine aw_icmp_gt (tgt := 116) d_Re_readSum_9 rfl (fun q9 => ?_) (fun q9 => ?_)
    · refine aw_sub (lo' := [(0, .ref 7), (1, .int v1_5), (2, .int v2_5)]) [0, 1, 2] rfl ?_
      exact hkx5_116 _ _ _
    · refine aw_aload_n d_Re_readSum_12 0 rfl ?_
      refine aw_V_v (As := []) (m_Re_readValue) cv_Re_162 kd_7 rfl rfl rfl (Nat.le_of_ble_eq_true rfl) ⟨Nat.le_of_ble_eq_true rfl, Nat.le_of_ble_eq_true rfl⟩ ⟨Nat.le_refl _, Nat.le_refl _⟩ d_Re_readSum_13 (fun y13 => ?_)
      refine aw_iconst d_Re_readSum_16 ki_0 ?_
      refine aw_istore_n (lo' := [(3, .int (0 : Int32)), (0, .ref 7), (1, .int v1_5), (2, .int v2_5)]) d_Re_readSum_17 rfl (by decide) rfl ?_
      refine aw_sub (lo' := [(0, .ref 7), (1, .int v1_5), (2, .int v2_5), (3, .int (0 : Int32))]) [1, 2, 3, 0] rfl ?_
      refine tl_Re_readSum_18 _ _ _ (fun v3_18x δ18x => ?_) FU _ _
      · refine aw_iload_n d_Re_readSum_74 2 rfl ?_
        refine aw_if_le (tgt := 88) d_Re_readSum_75 rfl (fun q75 => ?_) (fun q75 => ?_)
        · refine aw_sub (lo' := [(0, .ref 7), (1, .int v1_5), (2, .int v2_5), (3, .int v3_18x)]) [0, 1, 2, 3] rfl ?_
          exact tj_Re_readSum_88 _ _ _ _ _ _ ih hkx5_116
        · refine aw_aload_n d_Re_readSum_78 0 rfl ?_
          refine aw_getD fl_Re_24 kd_7 d_Re_readSum_79 aw_none (fun t79 => ?_)
          refine aw_grd (fun ht79 => ?_)
          refine aw_iconst d_Re_readSum_82 ki_m1 ?_
          refine aw_iload_n d_Re_readSum_83 1 rfl ?_
          refine aw_isub d_Re_readSum_84 ?_
          refine aw_V_v (As := [.int ((-1 : Int32) - v1_5)]) (m_La_emit ht79) cv_Re_159 (fx_isLK ht79 0 (by decide)) rfl rfl rfl (Nat.le_of_ble_eq_true rfl) ⟨Nat.le_of_ble_eq_true rfl, Nat.le_of_ble_eq_true rfl⟩ ⟨Nat.le_refl _, Nat.le_refl _⟩ d_Re_readSum_85 (fun y85 => ?_)
          refine aw_sub (lo' := [(0, .ref 7), (1, .int v1_5), (2, .int v2_5), (3, .int v3_18x)]) [0, 1, 2, 3] rfl ?_
          exact tj_Re_readSum_88 _ _ _ _ _ _ ih hkx5_116
def f_Re_readSum (δ : Dm) : Option Dm := (lp_Re_readSum_5 (fun v1_5x v2_5x δ5x => (some δ5x)) FU (35 : Int32) (0 : Int32) δ)
set_option maxHeartbeats 4000000 in
set_option maxRecDepth 100000 in
theorem m_Re_readSum {δ : Dm} {n : Nat} : ∀ x, f_Re_readSum δ = some x → AMet k_Re_readSum 3 0 0 [.ref 7] δ RT n (Kv RT n x) := by
  refine aw_start (lo := [(0, .ref 7)]) mok_Re_readSum rfl (Nat.le_of_ble_eq_true rfl) ?_
  unfold f_Re_readSum
  refine aw_bipush d_Re_readSum_0 kb_35 ?_
  refine aw_istore_n (lo' := [(1, .int (35 : Int32)), (0, .ref 7)]) d_Re_readSum_2 rfl (by decide) rfl ?_
  refine aw_iconst d_Re_readSum_3 ki_0 ?_
  refine aw_istore_n (lo' := [(2, .int (0 : Int32)), (1, .int (35 : Int32)), (0, .ref 7)]) d_Re_readSum_4 rfl (by decide) rfl ?_
  refine aw_sub (lo' := [(0, .ref 7), (1, .int (35 : Int32)), (2, .int (0 : Int32))]) [2, 1, 0] rfl ?_
  refine tl_Re_readSum_5 _ (fun v1_5x v2_5x δ5x => ?_) FU _ _ _
  · exact aw_vret rfl rfl ⟨Nat.le_refl _, Nat.le_refl _⟩ d_Re_readSum_116
def f_La_endSum (a0 : Nat) (δ : Dm) : Option Dm := ((f_Fp_put (a0 + 4) (gI δ a0 0) (gI δ a0 1) δ).bind (fun y12 => (some y12)))
set_option maxHeartbeats 4000000 in
set_option maxRecDepth 100000 in
theorem m_La_endSum {a0 : Nat} {δ : Dm} {n : Nat} (ha0 : isL a0 = true) : ∀ x, f_La_endSum a0 δ = some x → AMet k_La_endSum 2 0 0 [.ref a0] δ RT n (Kv RT n x) := by
  refine aw_start (lo := [(0, .ref a0)]) mok_La_endSum rfl (Nat.le_of_ble_eq_true rfl) ?_
  unfold f_La_endSum
  refine aw_aload_n d_La_endSum_0 0 rfl ?_
  refine aw_getR (t := (a0 + 4)) fl_La_21 (fx_isLK ha0 0 (by decide)) (fx_isLR ha0 0 5 (by decide) (by decide)) d_La_endSum_1 ?_
  refine aw_aload_n d_La_endSum_4 0 rfl ?_
  refine aw_getI fl_La_33 (fx_isLK ha0 0 (by decide)) d_La_endSum_5 ?_
  refine aw_aload_n d_La_endSum_8 0 rfl ?_
  refine aw_getI fl_La_37 (fx_isLK ha0 0 (by decide)) d_La_endSum_9 ?_
  refine aw_SN_v (As := [.ref (a0 + 4), .int (gI δ a0 0), .int (gI δ a0 1)]) (m_Fp_put (congrArg Prod.fst (fx_isLK ha0 4 (by decide)))) cs_La_46 rfl rfl (Nat.le_of_ble_eq_true rfl) ⟨Nat.le_of_ble_eq_true rfl, Nat.le_of_ble_eq_true rfl⟩ ⟨Nat.le_refl _, Nat.le_refl _⟩ d_La_endSum_12 (fun y12 => ?_)
  exact aw_vret rfl rfl ⟨Nat.le_refl _, Nat.le_refl _⟩ d_La_endSum_15
def jp_Re_readTest_69 (rf : Int32 → Dm → Option Dm) (kr2 : Int32 → Dm → Option Dm) (kx2_89 : Int32 → Dm → Option Dm) (a1 : Int32) (v2_2 : Int32) (v3_16x : Int32) (δ69 : Dm) : Option Dm := (if (gI δ69 7 5) = (18 : Int32) then ((f_Re_step δ69).bind (fun y80 => (kr2 (v2_2 + (1 : Int32)) y80))) else (some δ69))
set_option maxHeartbeats 4000000 in
set_option maxRecDepth 100000 in
theorem tj_Re_readTest_69 {dF : Nat} (hdF : 12 ≤ dF) (rf : Int32 → Dm → Option Dm) (hrf : ∀ a1 δ n x, rf a1 δ = some x → AMet k_Re_readFact dF 0 0 [.ref 7, .int a1] δ RT n (Kv RT n x)) {n : Nat} (kr2 : Int32 → Dm → Option Dm) (kx2_89 : Int32 → Dm → Option Dm) (a1 : Int32) (v2_2 : Int32) (v3_16x : Int32) (δ69 : Dm) (hkr2 : ∀ v2_2k δ2k, AWo k_Re_readTest (dF + 1) 0 0 2 [(0, .ref 7), (1, .int a1), (2, .int v2_2k)] [] δ2k RT n 0 0 (Kv RT n) (kr2 v2_2k δ2k)) (hkx2_89 : ∀ v2_2k δ2k, AWo k_Re_readTest (dF + 1) 0 0 89 [(0, .ref 7), (1, .int a1), (2, .int v2_2k)] [] δ2k RT n 0 0 (Kv RT n) (kx2_89 v2_2k δ2k)) : AWo k_Re_readTest (dF + 1) 0 0 69 [(0, .ref 7), (1, .int a1), (2, .int v2_2), (3, .int v3_16x)] [] δ69 RT n 0 0 (Kv RT n) (jp_Re_readTest_69 rf kr2 kx2_89 a1 v2_2 v3_16x δ69) := by
  unfold jp_Re_readTest_69
  refine aw_aload_n d_Re_readTest_69 0 rfl ?_
  refine aw_getI fl_Re_52 kd_7 d_Re_readTest_70 ?_
  refine aw_bipush d_Re_readTest_73 kb_18 ?_
  refine aw_icmp_eq (tgt := 79) d_Re_readTest_75 rfl (fun q75 => ?_) (fun q75 => ?_)
  · refine aw_aload_n d_Re_readTest_79 0 rfl ?_
    refine aw_V_v (As := []) (m_Re_step) cv_Re_45 kd_7 rfl rfl rfl (Nat.le_of_ble_eq_true rfl) ⟨by omega, Nat.le_of_ble_eq_true rfl⟩ ⟨Nat.le_refl _, Nat.le_refl _⟩ d_Re_readTest_80 (fun y80 => ?_)
    refine aw_iinc (v := (v2_2 + (1 : Int32))) (lo' := [(2, .int (v2_2 + (1 : Int32))), (0, .ref 7), (1, .int a1), (3, .int v3_16x)]) d_Re_readTest_83 2 rfl (by rw [show Int32.ofInt (1) = (1 : Int32) from by decide]) (by decide) rfl ?_
    refine aw_goto (tgt := 2) d_Re_readTest_86 rfl ?_
    refine aw_sub (lo' := [(0, .ref 7), (1, .int a1), (2, .int (v2_2 + (1 : Int32)))]) [1, 2, 0] rfl ?_
    exact hkr2 _ _
  · exact aw_vret rfl rfl ⟨Nat.le_refl _, Nat.le_refl _⟩ d_Re_readTest_78
def lp_Re_readTest_16 (rf : Int32 → Dm → Option Dm) (kx16_56 : Int32 → Dm → Option Dm) (a1 : Int32) (v2_2 : Int32) : Nat → Int32 → Dm → Option Dm
  | 0, _, _ => none
  | f + 1, v3_16, δ16 => (if (400 : Int32) ≤ v3_16 then (kx16_56 v3_16 δ16) else (if (gI δ16 7 5) = (19 : Int32) then ((f_Re_step δ16).bind (fun y33 => ((rf a1 y33).bind (fun y38 => (ocs (dR (gI y38 7 8)) none (fun t42 => if isL t42 = true then ((f_La_emit t42 (-20 : Int32) y38).bind (fun y47 => (lp_Re_readTest_16 rf kx16_56 a1 v2_2 f (v3_16 + (1 : Int32)) y47))) else none)))))) else (kx16_56 v3_16 δ16)))
set_option maxHeartbeats 4000000 in
set_option maxRecDepth 100000 in
theorem tl_Re_readTest_16 {dF : Nat} (hdF : 12 ≤ dF) (rf : Int32 → Dm → Option Dm) (hrf : ∀ a1 δ n x, rf a1 δ = some x → AMet k_Re_readFact dF 0 0 [.ref 7, .int a1] δ RT n (Kv RT n x)) {n : Nat} (kx16_56 : Int32 → Dm → Option Dm) (a1 : Int32) (v2_2 : Int32) (hkx16_56 : ∀ v3_16k δ16k, AWo k_Re_readTest (dF + 1) 0 0 56 [(0, .ref 7), (1, .int a1), (2, .int v2_2), (3, .int v3_16k)] [] δ16k RT n 0 0 (Kv RT n) (kx16_56 v3_16k δ16k)) : ∀ (f : Nat) (v3_16 : Int32) (δ16 : Dm), AWo k_Re_readTest (dF + 1) 0 0 16 [(0, .ref 7), (1, .int a1), (2, .int v2_2), (3, .int v3_16)] [] δ16 RT n 0 0 (Kv RT n) (lp_Re_readTest_16 rf kx16_56 a1 v2_2 f v3_16 δ16) := by
  intro f
  induction f with
  | zero => intro _ _; exact aw_none
  | succ f ih =>
    intro v3_16 δ16
    rw [lp_Re_readTest_16]
    refine aw_iload_n d_Re_readTest_16 3 rfl ?_
    refine aw_sipush d_Re_readTest_17 ks_400 ?_
    refine aw_icmp_ge (tgt := 56) d_Re_readTest_20 rfl (fun q20 => ?_) (fun q20 => ?_)
    · refine aw_sub (lo' := [(0, .ref 7), (1, .int a1), (2, .int v2_2), (3, .int v3_16)]) [0, 1, 2, 3] rfl ?_
      exact hkx16_56 _ _
    · refine aw_aload_n d_Re_readTest_23 0 rfl ?_
      refine aw_getI fl_Re_52 kd_7 d_Re_readTest_24 ?_
      refine aw_bipush d_Re_readTest_27 kb_19 ?_
      refine aw_icmp_ne (tgt := 56) d_Re_readTest_29 rfl (fun q29 => ?_) (fun q29 => ?_)
      · refine aw_aload_n d_Re_readTest_32 0 rfl ?_
        refine aw_V_v (As := []) (m_Re_step) cv_Re_45 kd_7 rfl rfl rfl (Nat.le_of_ble_eq_true rfl) ⟨by omega, Nat.le_of_ble_eq_true rfl⟩ ⟨Nat.le_refl _, Nat.le_refl _⟩ d_Re_readTest_33 (fun y33 => ?_)
        refine aw_aload_n d_Re_readTest_36 0 rfl ?_
        refine aw_iload_n d_Re_readTest_37 1 rfl ?_
        refine aw_V_v (As := [.int a1]) (hrf _ _ _) cv_Re_156 kd_7 rfl rfl rfl (Nat.le_of_ble_eq_true rfl) ⟨by omega, Nat.le_of_ble_eq_true rfl⟩ ⟨Nat.le_refl _, Nat.le_refl _⟩ d_Re_readTest_38 (fun y38 => ?_)
        refine aw_aload_n d_Re_readTest_41 0 rfl ?_
        refine aw_getD fl_Re_24 kd_7 d_Re_readTest_42 aw_none (fun t42 => ?_)
        refine aw_grd (fun ht42 => ?_)
        refine aw_bipush d_Re_readTest_45 kb_m20 ?_
        refine aw_V_v (As := [.int (-20 : Int32)]) (m_La_emit ht42) cv_Re_159 (fx_isLK ht42 0 (by decide)) rfl rfl rfl (Nat.le_of_ble_eq_true rfl) ⟨by omega, Nat.le_of_ble_eq_true rfl⟩ ⟨Nat.le_refl _, Nat.le_refl _⟩ d_Re_readTest_47 (fun y47 => ?_)
        refine aw_iinc (v := (v3_16 + (1 : Int32))) (lo' := [(3, .int (v3_16 + (1 : Int32))), (0, .ref 7), (1, .int a1), (2, .int v2_2)]) d_Re_readTest_50 3 rfl (by rw [show Int32.ofInt (1) = (1 : Int32) from by decide]) (by decide) rfl ?_
        refine aw_goto (tgt := 16) d_Re_readTest_53 rfl ?_
        refine aw_sub (lo' := [(0, .ref 7), (1, .int a1), (2, .int v2_2), (3, .int (v3_16 + (1 : Int32)))]) [1, 2, 3, 0] rfl ?_
        exact ih _ _
      · refine aw_sub (lo' := [(0, .ref 7), (1, .int a1), (2, .int v2_2), (3, .int v3_16)]) [0, 1, 2, 3] rfl ?_
        exact hkx16_56 _ _
def lp_Re_readTest_2 (rf : Int32 → Dm → Option Dm) (kx2_89 : Int32 → Dm → Option Dm) (a1 : Int32) : Nat → Int32 → Dm → Option Dm
  | 0, _, _ => none
  | f + 1, v2_2, δ2 => (if (400 : Int32) < v2_2 then (kx2_89 v2_2 δ2) else ((rf a1 δ2).bind (fun y11 => (lp_Re_readTest_16 rf (fun v3_16x δ16x => (if v2_2 ≤ 0 then (jp_Re_readTest_69 rf (lp_Re_readTest_2 rf kx2_89 a1 f) kx2_89 a1 v2_2 v3_16x δ16x) else (ocs (dR (gI δ16x 7 8)) none (fun t61 => if isL t61 = true then ((f_La_emit t61 (-19 : Int32) δ16x).bind (fun y66 => (jp_Re_readTest_69 rf (lp_Re_readTest_2 rf kx2_89 a1 f) kx2_89 a1 v2_2 v3_16x y66))) else none)))) a1 v2_2 FU (0 : Int32) y11))))
set_option maxHeartbeats 4000000 in
set_option maxRecDepth 100000 in
theorem tl_Re_readTest_2 {dF : Nat} (hdF : 12 ≤ dF) (rf : Int32 → Dm → Option Dm) (hrf : ∀ a1 δ n x, rf a1 δ = some x → AMet k_Re_readFact dF 0 0 [.ref 7, .int a1] δ RT n (Kv RT n x)) {n : Nat} (kx2_89 : Int32 → Dm → Option Dm) (a1 : Int32) (hkx2_89 : ∀ v2_2k δ2k, AWo k_Re_readTest (dF + 1) 0 0 89 [(0, .ref 7), (1, .int a1), (2, .int v2_2k)] [] δ2k RT n 0 0 (Kv RT n) (kx2_89 v2_2k δ2k)) : ∀ (f : Nat) (v2_2 : Int32) (δ2 : Dm), AWo k_Re_readTest (dF + 1) 0 0 2 [(0, .ref 7), (1, .int a1), (2, .int v2_2)] [] δ2 RT n 0 0 (Kv RT n) (lp_Re_readTest_2 rf kx2_89 a1 f v2_2 δ2) := by
  intro f
  induction f with
  | zero => intro _ _; exact aw_none
  | succ f ih =>
    intro v2_2 δ2
    rw [lp_Re_readTest_2]
    refine aw_iload_n d_Re_readTest_2 2 rfl ?_
    refine aw_sipush d_Re_readTest_3 ks_400 ?_
    refine aw_icmp_gt (tgt := 89) d_Re_readTest_6 rfl (fun q6 => ?_) (fun q6 => ?_)
    · refine aw_sub (lo' := [(0, .ref 7), (1, .int a1), (2, .int v2_2)]) [0, 1, 2] rfl ?_
      exact hkx2_89 _ _
    · refine aw_aload_n d_Re_readTest_9 0 rfl ?_
      refine aw_iload_n d_Re_readTest_10 1 rfl ?_
      refine aw_V_v (As := [.int a1]) (hrf _ _ _) cv_Re_156 kd_7 rfl rfl rfl (Nat.le_of_ble_eq_true rfl) ⟨by omega, Nat.le_of_ble_eq_true rfl⟩ ⟨Nat.le_refl _, Nat.le_refl _⟩ d_Re_readTest_11 (fun y11 => ?_)
      refine aw_iconst d_Re_readTest_14 ki_0 ?_
      refine aw_istore_n (lo' := [(3, .int (0 : Int32)), (0, .ref 7), (1, .int a1), (2, .int v2_2)]) d_Re_readTest_15 rfl (by decide) rfl ?_
      refine aw_sub (lo' := [(0, .ref 7), (1, .int a1), (2, .int v2_2), (3, .int (0 : Int32))]) [1, 2, 3, 0] rfl ?_
      refine tl_Re_readTest_16 hdF rf hrf _ _ _ (fun v3_16x δ16x => ?_) FU _ _
      · refine aw_iload_n d_Re_readTest_56 2 rfl ?_
        refine aw_if_le (tgt := 69) d_Re_readTest_57 rfl (fun q57 => ?_) (fun q57 => ?_)
        · refine aw_sub (lo' := [(0, .ref 7), (1, .int a1), (2, .int v2_2), (3, .int v3_16x)]) [0, 1, 2, 3] rfl ?_
          exact tj_Re_readTest_69 hdF rf hrf _ _ _ _ _ _ ih hkx2_89
        · refine aw_aload_n d_Re_readTest_60 0 rfl ?_
          refine aw_getD fl_Re_24 kd_7 d_Re_readTest_61 aw_none (fun t61 => ?_)
          refine aw_grd (fun ht61 => ?_)
          refine aw_bipush d_Re_readTest_64 kb_m19 ?_
          refine aw_V_v (As := [.int (-19 : Int32)]) (m_La_emit ht61) cv_Re_159 (fx_isLK ht61 0 (by decide)) rfl rfl rfl (Nat.le_of_ble_eq_true rfl) ⟨by omega, Nat.le_of_ble_eq_true rfl⟩ ⟨Nat.le_refl _, Nat.le_refl _⟩ d_Re_readTest_66 (fun y66 => ?_)
          refine aw_sub (lo' := [(0, .ref 7), (1, .int a1), (2, .int v2_2), (3, .int v3_16x)]) [0, 1, 2, 3] rfl ?_
          exact tj_Re_readTest_69 hdF rf hrf _ _ _ _ _ _ ih hkx2_89
def f_Re_readTest (rf : Int32 → Dm → Option Dm) (a1 : Int32) (δ : Dm) : Option Dm := (lp_Re_readTest_2 rf (fun v2_2x δ2x => (some δ2x)) a1 FU (0 : Int32) δ)
set_option maxHeartbeats 4000000 in
set_option maxRecDepth 100000 in
theorem m_Re_readTest {dF : Nat} (hdF : 12 ≤ dF) (rf : Int32 → Dm → Option Dm) (hrf : ∀ a1 δ n x, rf a1 δ = some x → AMet k_Re_readFact dF 0 0 [.ref 7, .int a1] δ RT n (Kv RT n x)) {a1 : Int32} {δ : Dm} {n : Nat} : ∀ x, f_Re_readTest rf a1 δ = some x → AMet k_Re_readTest (dF + 1) 0 0 [.ref 7, .int a1] δ RT n (Kv RT n x) := by
  refine aw_start (lo := [(0, .ref 7), (1, .int a1)]) mok_Re_readTest rfl (Nat.le_of_ble_eq_true rfl) ?_
  unfold f_Re_readTest
  refine aw_iconst d_Re_readTest_0 ki_0 ?_
  refine aw_istore_n (lo' := [(2, .int (0 : Int32)), (0, .ref 7), (1, .int a1)]) d_Re_readTest_1 rfl (by decide) rfl ?_
  refine aw_sub (lo' := [(0, .ref 7), (1, .int a1), (2, .int (0 : Int32))]) [1, 2, 0] rfl ?_
  refine tl_Re_readTest_2 hdF rf hrf _ _ (fun v2_2x δ2x => ?_) FU _ _
  · exact aw_vret rfl rfl ⟨Nat.le_refl _, Nat.le_refl _⟩ d_Re_readTest_89
def jp_Re_readFact_149 (rf : Int32 → Dm → Option Dm) (a1 : Int32) (v4 : Int32) (s0_22 : Int32) (v114 : Int32) (δ149 : Dm) : Option Dm := (bnd (sI δ149 7 6 ((gI δ149 7 6) + (1 : Int32))) (fun δ_156 => ((f_Re_step δ_156).bind (fun y160 => ((f_Re_readSum y160).bind (fun y164 => (ocs (dR (gI y164 7 8)) none (fun t168 => if isL t168 = true then ((f_La_emit t168 ((-1 : Int32) - v114) y164).bind (fun y175 => (some y175))) else none))))))))
set_option maxHeartbeats 4000000 in
set_option maxRecDepth 100000 in
theorem tj_Re_readFact_149 {dF : Nat} (hdF : 12 ≤ dF) (rf : Int32 → Dm → Option Dm) (hrf : ∀ a1 δ n x, rf a1 δ = some x → AMet k_Re_readFact dF 0 0 [.ref 7, .int a1] δ RT n (Kv RT n x)) {n : Nat} (a1 : Int32) (v4 : Int32) (s0_22 : Int32) (v114 : Int32) (δ149 : Dm) : AWo k_Re_readFact (dF + 2) 0 0 149 [(0, .ref 7), (1, .int a1), (2, .int v4), (3, .int s0_22), (4, .int v114)] [] δ149 RT n 0 0 (Kv RT n) (jp_Re_readFact_149 rf a1 v4 s0_22 v114 δ149) := by
  unfold jp_Re_readFact_149
  refine aw_aload_n d_Re_readFact_149 0 rfl ?_
  refine aw_dup d_Re_readFact_150 rfl ?_
  refine aw_getI fl_Re_35 kd_7 d_Re_readFact_151 ?_
  refine aw_iconst d_Re_readFact_154 ki_1 ?_
  refine aw_iadd d_Re_readFact_155 ?_
  refine aw_putI pf_Re_35 kd_7 d_Re_readFact_156 ?_
  refine aw_bD (fun δ_156 => ?_)
  refine aw_aload_n d_Re_readFact_159 0 rfl ?_
  refine aw_V_v (As := []) (m_Re_step) cv_Re_45 kd_7 rfl rfl rfl (Nat.le_of_ble_eq_true rfl) ⟨by omega, Nat.le_of_ble_eq_true rfl⟩ ⟨Nat.le_refl _, Nat.le_refl _⟩ d_Re_readFact_160 (fun y160 => ?_)
  refine aw_aload_n d_Re_readFact_163 0 rfl ?_
  refine aw_V_v (As := []) (m_Re_readSum) cv_Re_132 kd_7 rfl rfl rfl (Nat.le_of_ble_eq_true rfl) ⟨by omega, Nat.le_of_ble_eq_true rfl⟩ ⟨Nat.le_refl _, Nat.le_refl _⟩ d_Re_readFact_164 (fun y164 => ?_)
  refine aw_aload_n d_Re_readFact_167 0 rfl ?_
  refine aw_getD fl_Re_24 kd_7 d_Re_readFact_168 aw_none (fun t168 => ?_)
  refine aw_grd (fun ht168 => ?_)
  refine aw_iconst d_Re_readFact_171 ki_m1 ?_
  refine aw_iload d_Re_readFact_172 4 rfl ?_
  refine aw_isub d_Re_readFact_174 ?_
  refine aw_V_v (As := [.int ((-1 : Int32) - v114)]) (m_La_emit ht168) cv_Re_159 (fx_isLK ht168 0 (by decide)) rfl rfl rfl (Nat.le_of_ble_eq_true rfl) ⟨by omega, Nat.le_of_ble_eq_true rfl⟩ ⟨Nat.le_refl _, Nat.le_refl _⟩ d_Re_readFact_175 (fun y175 => ?_)
  exact aw_vret rfl rfl ⟨Nat.le_refl _, Nat.le_refl _⟩ d_Re_readFact_178
def jp_Re_readFact_135 (rf : Int32 → Dm → Option Dm) (a1 : Int32) (v4 : Int32) (s0_22 : Int32) (v114 : Int32) (δ135 : Dm) : Option Dm := (if (gI δ135 7 6) < (60 : Int32) then (jp_Re_readFact_149 rf a1 v4 s0_22 v114 δ135) else ((f_Re_fail (3 : Int32) δ135).bind (fun y146 => (jp_Re_readFact_149 rf a1 v4 s0_22 v114 y146))))
set_option maxHeartbeats 4000000 in
set_option maxRecDepth 100000 in
theorem tj_Re_readFact_135 {dF : Nat} (hdF : 12 ≤ dF) (rf : Int32 → Dm → Option Dm) (hrf : ∀ a1 δ n x, rf a1 δ = some x → AMet k_Re_readFact dF 0 0 [.ref 7, .int a1] δ RT n (Kv RT n x)) {n : Nat} (a1 : Int32) (v4 : Int32) (s0_22 : Int32) (v114 : Int32) (δ135 : Dm) : AWo k_Re_readFact (dF + 2) 0 0 135 [(0, .ref 7), (1, .int a1), (2, .int v4), (3, .int s0_22), (4, .int v114)] [] δ135 RT n 0 0 (Kv RT n) (jp_Re_readFact_135 rf a1 v4 s0_22 v114 δ135) := by
  unfold jp_Re_readFact_135
  refine aw_aload_n d_Re_readFact_135 0 rfl ?_
  refine aw_getI fl_Re_35 kd_7 d_Re_readFact_136 ?_
  refine aw_bipush d_Re_readFact_139 kb_60 ?_
  refine aw_icmp_lt (tgt := 149) d_Re_readFact_141 rfl (fun q141 => ?_) (fun q141 => ?_)
  · refine aw_sub (lo' := [(0, .ref 7), (1, .int a1), (2, .int v4), (3, .int s0_22), (4, .int v114)]) [0, 1, 2, 3, 4] rfl ?_
    exact tj_Re_readFact_149 hdF rf hrf _ _ _ _ _
  · refine aw_aload_n d_Re_readFact_144 0 rfl ?_
    refine aw_iconst d_Re_readFact_145 ki_3 ?_
    refine aw_V_v (As := [.int (3 : Int32)]) (m_Re_fail) cv_Re_57 kd_7 rfl rfl rfl (Nat.le_of_ble_eq_true rfl) ⟨by omega, Nat.le_of_ble_eq_true rfl⟩ ⟨Nat.le_refl _, Nat.le_refl _⟩ d_Re_readFact_146 (fun y146 => ?_)
    refine aw_sub (lo' := [(0, .ref 7), (1, .int a1), (2, .int v4), (3, .int s0_22), (4, .int v114)]) [0, 1, 2, 3, 4] rfl ?_
    exact tj_Re_readFact_149 hdF rf hrf _ _ _ _ _
def jp_Re_readFact_130 (rf : Int32 → Dm → Option Dm) (a1 : Int32) (v4 : Int32) (s0_22 : Int32) (v114 : Int32) (y107 : Dm) : Option Dm := ((f_Re_fail (0 : Int32) y107).bind (fun y132 => (jp_Re_readFact_135 rf a1 v4 s0_22 v114 y132)))
set_option maxHeartbeats 4000000 in
set_option maxRecDepth 100000 in
theorem tj_Re_readFact_130 {dF : Nat} (hdF : 12 ≤ dF) (rf : Int32 → Dm → Option Dm) (hrf : ∀ a1 δ n x, rf a1 δ = some x → AMet k_Re_readFact dF 0 0 [.ref 7, .int a1] δ RT n (Kv RT n x)) {n : Nat} (a1 : Int32) (v4 : Int32) (s0_22 : Int32) (v114 : Int32) (y107 : Dm) : AWo k_Re_readFact (dF + 2) 0 0 130 [(0, .ref 7), (1, .int a1), (2, .int v4), (3, .int s0_22), (4, .int v114)] [] y107 RT n 0 0 (Kv RT n) (jp_Re_readFact_130 rf a1 v4 s0_22 v114 y107) := by
  unfold jp_Re_readFact_130
  refine aw_aload_n d_Re_readFact_130 0 rfl ?_
  refine aw_iconst d_Re_readFact_131 ki_0 ?_
  refine aw_V_v (As := [.int (0 : Int32)]) (m_Re_fail) cv_Re_57 kd_7 rfl rfl rfl (Nat.le_of_ble_eq_true rfl) ⟨by omega, Nat.le_of_ble_eq_true rfl⟩ ⟨Nat.le_refl _, Nat.le_refl _⟩ d_Re_readFact_132 (fun y132 => ?_)
  refine aw_sub (lo' := [(0, .ref 7), (1, .int a1), (2, .int v4), (3, .int s0_22), (4, .int v114)]) [0, 1, 2, 3, 4] rfl ?_
  exact tj_Re_readFact_135 hdF rf hrf _ _ _ _ _
def jp_Re_readFact_99 (rf : Int32 → Dm → Option Dm) (a1 : Int32) (v4 : Int32) (s0_22 : Int32) (δ99 : Dm) : Option Dm := ((f_Re_step δ99).bind (fun y100 => (some y100)))
set_option maxHeartbeats 4000000 in
set_option maxRecDepth 100000 in
theorem tj_Re_readFact_99 {dF : Nat} (hdF : 12 ≤ dF) (rf : Int32 → Dm → Option Dm) (hrf : ∀ a1 δ n x, rf a1 δ = some x → AMet k_Re_readFact dF 0 0 [.ref 7, .int a1] δ RT n (Kv RT n x)) {n : Nat} (a1 : Int32) (v4 : Int32) (s0_22 : Int32) (δ99 : Dm) : AWo k_Re_readFact (dF + 2) 0 0 99 [(0, .ref 7), (1, .int a1), (2, .int v4), (3, .int s0_22)] [] δ99 RT n 0 0 (Kv RT n) (jp_Re_readFact_99 rf a1 v4 s0_22 δ99) := by
  unfold jp_Re_readFact_99
  refine aw_aload_n d_Re_readFact_99 0 rfl ?_
  refine aw_V_v (As := []) (m_Re_step) cv_Re_45 kd_7 rfl rfl rfl (Nat.le_of_ble_eq_true rfl) ⟨by omega, Nat.le_of_ble_eq_true rfl⟩ ⟨Nat.le_refl _, Nat.le_refl _⟩ d_Re_readFact_100 (fun y100 => ?_)
  refine aw_goto (tgt := 178) d_Re_readFact_103 rfl ?_
  exact aw_vret rfl rfl ⟨Nat.le_refl _, Nat.le_refl _⟩ d_Re_readFact_178
def jp_Re_readFact_39 (rf : Int32 → Dm → Option Dm) (a1 : Int32) (v4 : Int32) (s0_22 : Int32) (δ : Dm) : Option Dm := (if v4 = (20 : Int32) then ((f_Re_step δ).bind (fun y46 => ((rf (a1 + (1 : Int32)) y46).bind (fun y53 => (ocs (dR (gI y53 7 8)) none (fun t57 => if isL t57 = true then ((f_La_emit t57 (-21 : Int32) y53).bind (fun y62 => (some y62))) else none)))))) else (if v4 = (31 : Int32) then ((f_Re_step δ).bind (fun y75 => ((f_Re_readTest rf (a1 + (1 : Int32)) y75).bind (fun y82 => (if (gI y82 7 5) = (32 : Int32) then (jp_Re_readFact_99 rf a1 v4 s0_22 y82) else ((f_Re_fail (0 : Int32) y82).bind (fun y96 => (jp_Re_readFact_99 rf a1 v4 s0_22 y96)))))))) else ((f_Re_readSum δ).bind (fun y107 => (bnd (gI y107 7 5) (fun v114 => (if v114 < (26 : Int32) then (jp_Re_readFact_130 rf a1 v4 s0_22 v114 y107) else (if v114 ≤ (30 : Int32) then (jp_Re_readFact_135 rf a1 v4 s0_22 v114 y107) else (jp_Re_readFact_130 rf a1 v4 s0_22 v114 y107)))))))))
set_option maxHeartbeats 4000000 in
set_option maxRecDepth 100000 in
theorem tj_Re_readFact_39 {dF : Nat} (hdF : 12 ≤ dF) (rf : Int32 → Dm → Option Dm) (hrf : ∀ a1 δ n x, rf a1 δ = some x → AMet k_Re_readFact dF 0 0 [.ref 7, .int a1] δ RT n (Kv RT n x)) {n : Nat} (a1 : Int32) (v4 : Int32) (s0_22 : Int32) (δ : Dm) : AWo k_Re_readFact (dF + 2) 0 0 39 [(0, .ref 7), (1, .int a1), (2, .int v4), (3, .int s0_22)] [] δ RT n 0 0 (Kv RT n) (jp_Re_readFact_39 rf a1 v4 s0_22 δ) := by
  unfold jp_Re_readFact_39
  refine aw_iload_n d_Re_readFact_39 2 rfl ?_
  refine aw_bipush d_Re_readFact_40 kb_20 ?_
  refine aw_icmp_ne (tgt := 68) d_Re_readFact_42 rfl (fun q42 => ?_) (fun q42 => ?_)
  · refine aw_aload_n d_Re_readFact_45 0 rfl ?_
    refine aw_V_v (As := []) (m_Re_step) cv_Re_45 kd_7 rfl rfl rfl (Nat.le_of_ble_eq_true rfl) ⟨by omega, Nat.le_of_ble_eq_true rfl⟩ ⟨Nat.le_refl _, Nat.le_refl _⟩ d_Re_readFact_46 (fun y46 => ?_)
    refine aw_aload_n d_Re_readFact_49 0 rfl ?_
    refine aw_iload_n d_Re_readFact_50 1 rfl ?_
    refine aw_iconst d_Re_readFact_51 ki_1 ?_
    refine aw_iadd d_Re_readFact_52 ?_
    refine aw_V_v (As := [.int (a1 + (1 : Int32))]) (hrf _ _ _) cv_Re_156 kd_7 rfl rfl rfl (Nat.le_of_ble_eq_true rfl) ⟨by omega, Nat.le_of_ble_eq_true rfl⟩ ⟨Nat.le_refl _, Nat.le_refl _⟩ d_Re_readFact_53 (fun y53 => ?_)
    refine aw_aload_n d_Re_readFact_56 0 rfl ?_
    refine aw_getD fl_Re_24 kd_7 d_Re_readFact_57 aw_none (fun t57 => ?_)
    refine aw_grd (fun ht57 => ?_)
    refine aw_bipush d_Re_readFact_60 kb_m21 ?_
    refine aw_V_v (As := [.int (-21 : Int32)]) (m_La_emit ht57) cv_Re_159 (fx_isLK ht57 0 (by decide)) rfl rfl rfl (Nat.le_of_ble_eq_true rfl) ⟨by omega, Nat.le_of_ble_eq_true rfl⟩ ⟨Nat.le_refl _, Nat.le_refl _⟩ d_Re_readFact_62 (fun y62 => ?_)
    refine aw_goto (tgt := 178) d_Re_readFact_65 rfl ?_
    exact aw_vret rfl rfl ⟨Nat.le_refl _, Nat.le_refl _⟩ d_Re_readFact_178
  · refine aw_iload_n d_Re_readFact_68 2 rfl ?_
    refine aw_bipush d_Re_readFact_69 kb_31 ?_
    refine aw_icmp_ne (tgt := 106) d_Re_readFact_71 rfl (fun q71 => ?_) (fun q71 => ?_)
    · refine aw_aload_n d_Re_readFact_74 0 rfl ?_
      refine aw_V_v (As := []) (m_Re_step) cv_Re_45 kd_7 rfl rfl rfl (Nat.le_of_ble_eq_true rfl) ⟨by omega, Nat.le_of_ble_eq_true rfl⟩ ⟨Nat.le_refl _, Nat.le_refl _⟩ d_Re_readFact_75 (fun y75 => ?_)
      refine aw_aload_n d_Re_readFact_78 0 rfl ?_
      refine aw_iload_n d_Re_readFact_79 1 rfl ?_
      refine aw_iconst d_Re_readFact_80 ki_1 ?_
      refine aw_iadd d_Re_readFact_81 ?_
      refine aw_V_v (As := [.int (a1 + (1 : Int32))]) (m_Re_readTest hdF rf hrf) cv_Re_138 kd_7 rfl rfl rfl (Nat.le_of_ble_eq_true rfl) ⟨by omega, Nat.le_of_ble_eq_true rfl⟩ ⟨Nat.le_refl _, Nat.le_refl _⟩ d_Re_readFact_82 (fun y82 => ?_)
      refine aw_aload_n d_Re_readFact_85 0 rfl ?_
      refine aw_getI fl_Re_52 kd_7 d_Re_readFact_86 ?_
      refine aw_bipush d_Re_readFact_89 kb_32 ?_
      refine aw_icmp_eq (tgt := 99) d_Re_readFact_91 rfl (fun q91 => ?_) (fun q91 => ?_)
      · refine aw_sub (lo' := [(0, .ref 7), (1, .int a1), (2, .int v4), (3, .int s0_22)]) [0, 1, 2, 3] rfl ?_
        exact tj_Re_readFact_99 hdF rf hrf _ _ _ _
      · refine aw_aload_n d_Re_readFact_94 0 rfl ?_
        refine aw_iconst d_Re_readFact_95 ki_0 ?_
        refine aw_V_v (As := [.int (0 : Int32)]) (m_Re_fail) cv_Re_57 kd_7 rfl rfl rfl (Nat.le_of_ble_eq_true rfl) ⟨by omega, Nat.le_of_ble_eq_true rfl⟩ ⟨Nat.le_refl _, Nat.le_refl _⟩ d_Re_readFact_96 (fun y96 => ?_)
        refine aw_sub (lo' := [(0, .ref 7), (1, .int a1), (2, .int v4), (3, .int s0_22)]) [0, 1, 2, 3] rfl ?_
        exact tj_Re_readFact_99 hdF rf hrf _ _ _ _
    · refine aw_aload_n d_Re_readFact_106 0 rfl ?_
      refine aw_V_v (As := []) (m_Re_readSum) cv_Re_132 kd_7 rfl rfl rfl (Nat.le_of_ble_eq_true rfl) ⟨by omega, Nat.le_of_ble_eq_true rfl⟩ ⟨Nat.le_refl _, Nat.le_refl _⟩ d_Re_readFact_107 (fun y107 => ?_)
      refine aw_aload_n d_Re_readFact_110 0 rfl ?_
      refine aw_getI fl_Re_52 kd_7 d_Re_readFact_111 ?_
      refine aw_bI (fun v114 => ?_)
      refine aw_istore (lo' := [(4, .int v114), (0, .ref 7), (1, .int a1), (2, .int v4), (3, .int s0_22)]) d_Re_readFact_114 (by decide) rfl ?_
      refine aw_iload d_Re_readFact_116 0 rfl ?_
      refine aw_bipush d_Re_readFact_118 kb_26 ?_
      refine aw_icmp_lt (tgt := 130) d_Re_readFact_120 rfl (fun q120 => ?_) (fun q120 => ?_)
      · refine aw_sub (lo' := [(0, .ref 7), (1, .int a1), (2, .int v4), (3, .int s0_22), (4, .int v114)]) [1, 2, 3, 4, 0] rfl ?_
        exact tj_Re_readFact_130 hdF rf hrf _ _ _ _ _
      · refine aw_iload d_Re_readFact_123 0 rfl ?_
        refine aw_bipush d_Re_readFact_125 kb_30 ?_
        refine aw_icmp_le (tgt := 135) d_Re_readFact_127 rfl (fun q127 => ?_) (fun q127 => ?_)
        · refine aw_sub (lo' := [(0, .ref 7), (1, .int a1), (2, .int v4), (3, .int s0_22), (4, .int v114)]) [1, 2, 3, 4, 0] rfl ?_
          exact tj_Re_readFact_135 hdF rf hrf _ _ _ _ _
        · refine aw_sub (lo' := [(0, .ref 7), (1, .int a1), (2, .int v4), (3, .int s0_22), (4, .int v114)]) [1, 2, 3, 4, 0] rfl ?_
          exact tj_Re_readFact_130 hdF rf hrf _ _ _ _ _
def jp_Re_readFact_22 (rf : Int32 → Dm → Option Dm) (a1 : Int32) (v4 : Int32) (δ : Dm) (s0_22 : Int32) : Option Dm := (if s0_22 = 0 then (jp_Re_readFact_39 rf a1 v4 s0_22 δ) else (if a1 < (10 : Int32) then (jp_Re_readFact_39 rf a1 v4 s0_22 δ) else ((f_Re_fail (2 : Int32) δ).bind (fun y35 => (some y35)))))
set_option maxHeartbeats 4000000 in
set_option maxRecDepth 100000 in
theorem tj_Re_readFact_22 {dF : Nat} (hdF : 12 ≤ dF) (rf : Int32 → Dm → Option Dm) (hrf : ∀ a1 δ n x, rf a1 δ = some x → AMet k_Re_readFact dF 0 0 [.ref 7, .int a1] δ RT n (Kv RT n x)) {n : Nat} (a1 : Int32) (v4 : Int32) (δ : Dm) (s0_22 : Int32) : AWo k_Re_readFact (dF + 2) 0 0 22 [(0, .ref 7), (1, .int a1), (2, .int v4)] [.int s0_22] δ RT n 0 0 (Kv RT n) (jp_Re_readFact_22 rf a1 v4 δ s0_22) := by
  unfold jp_Re_readFact_22
  refine aw_istore_n (lo' := [(3, .int s0_22), (0, .ref 7), (1, .int a1), (2, .int v4)]) d_Re_readFact_22 rfl (by decide) rfl ?_
  refine aw_iload_n d_Re_readFact_23 0 rfl ?_
  refine aw_if_eq (tgt := 39) d_Re_readFact_24 rfl (fun q24 => ?_) (fun q24 => ?_)
  · refine aw_sub (lo' := [(0, .ref 7), (1, .int a1), (2, .int v4), (3, .int s0_22)]) [1, 2, 3, 0] rfl ?_
    exact tj_Re_readFact_39 hdF rf hrf _ _ _ _
  · refine aw_iload_n d_Re_readFact_27 2 rfl ?_
    refine aw_bipush d_Re_readFact_28 kb_10 ?_
    refine aw_icmp_lt (tgt := 39) d_Re_readFact_30 rfl (fun q30 => ?_) (fun q30 => ?_)
    · refine aw_sub (lo' := [(0, .ref 7), (1, .int a1), (2, .int v4), (3, .int s0_22)]) [1, 2, 3, 0] rfl ?_
      exact tj_Re_readFact_39 hdF rf hrf _ _ _ _
    · refine aw_aload_n d_Re_readFact_33 1 rfl ?_
      refine aw_iconst d_Re_readFact_34 ki_2 ?_
      refine aw_V_v (As := [.int (2 : Int32)]) (m_Re_fail) cv_Re_57 kd_7 rfl rfl rfl (Nat.le_of_ble_eq_true rfl) ⟨by omega, Nat.le_of_ble_eq_true rfl⟩ ⟨Nat.le_refl _, Nat.le_refl _⟩ d_Re_readFact_35 (fun y35 => ?_)
      exact aw_vret rfl rfl ⟨Nat.le_refl _, Nat.le_refl _⟩ d_Re_readFact_38
def jp_Re_readFact_17 (rf : Int32 → Dm → Option Dm) (a1 : Int32) (v4 : Int32) (δ : Dm) : Option Dm := (jp_Re_readFact_22 rf a1 v4 δ (1 : Int32))
set_option maxHeartbeats 4000000 in
set_option maxRecDepth 100000 in
theorem tj_Re_readFact_17 {dF : Nat} (hdF : 12 ≤ dF) (rf : Int32 → Dm → Option Dm) (hrf : ∀ a1 δ n x, rf a1 δ = some x → AMet k_Re_readFact dF 0 0 [.ref 7, .int a1] δ RT n (Kv RT n x)) {n : Nat} (a1 : Int32) (v4 : Int32) (δ : Dm) : AWo k_Re_readFact (dF + 2) 0 0 17 [(0, .ref 7), (1, .int a1), (2, .int v4)] [] δ RT n 0 0 (Kv RT n) (jp_Re_readFact_17 rf a1 v4 δ) := by
  unfold jp_Re_readFact_17
  refine aw_iconst d_Re_readFact_17 ki_1 ?_
  refine aw_goto (tgt := 22) d_Re_readFact_18 rfl ?_
  refine aw_sub (lo' := [(0, .ref 7), (1, .int a1), (2, .int v4)]) [0, 1, 2] rfl ?_
  exact tj_Re_readFact_22 hdF rf hrf _ _ _ _
def f_Re_readFactB (rf : Int32 → Dm → Option Dm) (a1 : Int32) (δ : Dm) : Option Dm := (bnd (gI δ 7 5) (fun v4 => (if v4 = (20 : Int32) then (jp_Re_readFact_17 rf a1 v4 δ) else (if v4 = (31 : Int32) then (jp_Re_readFact_17 rf a1 v4 δ) else (jp_Re_readFact_22 rf a1 v4 δ (0 : Int32))))))
set_option maxHeartbeats 4000000 in
set_option maxRecDepth 100000 in
theorem m_Re_readFactB {dF : Nat} (hdF : 12 ≤ dF) (rf : Int32 → Dm → Option Dm) (hrf : ∀ a1 δ n x, rf a1 δ = some x → AMet k_Re_readFact dF 0 0 [.ref 7, .int a1] δ RT n (Kv RT n x)) {a1 : Int32} {δ : Dm} {n : Nat} : ∀ x, f_Re_readFactB rf a1 δ = some x → AMet k_Re_readFact (dF + 2) 0 0 [.ref 7, .int a1] δ RT n (Kv RT n x) := by
  refine aw_start (lo := [(0, .ref 7), (1, .int a1)]) mok_Re_readFact rfl (Nat.le_of_ble_eq_true rfl) ?_
  unfold f_Re_readFactB
  refine aw_aload_n d_Re_readFact_0 0 rfl ?_
  refine aw_getI fl_Re_52 kd_7 d_Re_readFact_1 ?_
  refine aw_bI (fun v4 => ?_)
  refine aw_istore_n (lo' := [(2, .int v4), (0, .ref 7), (1, .int a1)]) d_Re_readFact_4 rfl (by decide) rfl ?_
  refine aw_iload_n d_Re_readFact_5 0 rfl ?_
  refine aw_bipush d_Re_readFact_6 kb_20 ?_
  refine aw_icmp_eq (tgt := 17) d_Re_readFact_8 rfl (fun q8 => ?_) (fun q8 => ?_)
  · refine aw_sub (lo' := [(0, .ref 7), (1, .int a1), (2, .int v4)]) [1, 2, 0] rfl ?_
    exact tj_Re_readFact_17 hdF rf hrf _ _ _
  · refine aw_iload_n d_Re_readFact_11 0 rfl ?_
    refine aw_bipush d_Re_readFact_12 kb_31 ?_
    refine aw_icmp_ne (tgt := 21) d_Re_readFact_14 rfl (fun q14 => ?_) (fun q14 => ?_)
    · refine aw_sub (lo' := [(0, .ref 7), (1, .int a1), (2, .int v4)]) [1, 2, 0] rfl ?_
      exact tj_Re_readFact_17 hdF rf hrf _ _ _
    · refine aw_iconst d_Re_readFact_21 ki_0 ?_
      refine aw_sub (lo' := [(0, .ref 7), (1, .int a1), (2, .int v4)]) [1, 2, 0] rfl ?_
      exact tj_Re_readFact_22 hdF rf hrf _ _ _ _
def f_Re_readFact : Nat → Int32 → Dm → Option Dm
  | 0 => fun _ _ => none
  | g + 1 => f_Re_readFactB (f_Re_readFact g)
theorem m_Re_readFact : ∀ (g : Nat) (a1 : Int32) (δ : Dm) (n : Nat) (x : Dm), f_Re_readFact g a1 δ = some x → AMet k_Re_readFact (12 + 2 * g) 0 0 [.ref 7, .int a1] δ RT n (Kv RT n x) := by
  intro g
  induction g with
  | zero => intro a1 δ n x h; cases h
  | succ g ih => intro a1 δ n x h; exact m_Re_readFactB (dF := 12 + 2 * g) (by omega) (f_Re_readFact g) ih x h
def f_La_endClause (a0 : Nat) (δ : Dm) : Option Dm := ((f_Fp_put (a0 + 5) (gI δ a0 0) (gI δ a0 1) δ).bind (fun y12 => (bnd (sI y12 a0 0 ((gI y12 a0 0) + (1 : Int32))) (fun δ_22 => (some δ_22)))))
set_option maxHeartbeats 4000000 in
set_option maxRecDepth 100000 in
theorem m_La_endClause {a0 : Nat} {δ : Dm} {n : Nat} (ha0 : isL a0 = true) : ∀ x, f_La_endClause a0 δ = some x → AMet k_La_endClause 2 0 0 [.ref a0] δ RT n (Kv RT n x) := by
  refine aw_start (lo := [(0, .ref a0)]) mok_La_endClause rfl (Nat.le_of_ble_eq_true rfl) ?_
  unfold f_La_endClause
  refine aw_aload_n d_La_endClause_0 0 rfl ?_
  refine aw_getR (t := (a0 + 5)) fl_La_24 (fx_isLK ha0 0 (by decide)) (fx_isLR ha0 0 6 (by decide) (by decide)) d_La_endClause_1 ?_
  refine aw_aload_n d_La_endClause_4 0 rfl ?_
  refine aw_getI fl_La_33 (fx_isLK ha0 0 (by decide)) d_La_endClause_5 ?_
  refine aw_aload_n d_La_endClause_8 0 rfl ?_
  refine aw_getI fl_La_37 (fx_isLK ha0 0 (by decide)) d_La_endClause_9 ?_
  refine aw_SN_v (As := [.ref (a0 + 5), .int (gI δ a0 0), .int (gI δ a0 1)]) (m_Fp_put (congrArg Prod.fst (fx_isLK ha0 5 (by decide)))) cs_La_46 rfl rfl (Nat.le_of_ble_eq_true rfl) ⟨Nat.le_of_ble_eq_true rfl, Nat.le_of_ble_eq_true rfl⟩ ⟨Nat.le_refl _, Nat.le_refl _⟩ d_La_endClause_12 (fun y12 => ?_)
  refine aw_aload_n d_La_endClause_15 0 rfl ?_
  refine aw_dup d_La_endClause_16 rfl ?_
  refine aw_getI fl_La_33 (fx_isLK ha0 0 (by decide)) d_La_endClause_17 ?_
  refine aw_iconst d_La_endClause_20 ki_1 ?_
  refine aw_iadd d_La_endClause_21 ?_
  refine aw_putI pf_La_33 (fx_isLK ha0 0 (by decide)) d_La_endClause_22 ?_
  refine aw_bD (fun δ_22 => ?_)
  exact aw_vret rfl rfl ⟨Nat.le_refl _, Nat.le_refl _⟩ d_La_endClause_25
def jp_Re_readClause_125 (a1 : Int32) (v4 : Int32) (δ125 : Dm) : Option Dm := (ocs (dR (gI δ125 7 8)) none (fun t126 => if isL t126 = true then ((f_La_endClause t126 δ125).bind (fun y129 => (some y129))) else none))
set_option maxHeartbeats 4000000 in
set_option maxRecDepth 100000 in
theorem tj_Re_readClause_125 {n : Nat} (a1 : Int32) (v4 : Int32) (δ125 : Dm) : AWo k_Re_readClause 38 0 0 125 [(0, .ref 7), (1, .int a1), (2, .int v4)] [] δ125 RT n 0 0 (Kv RT n) (jp_Re_readClause_125 a1 v4 δ125) := by
  unfold jp_Re_readClause_125
  refine aw_aload_n d_Re_readClause_125 0 rfl ?_
  refine aw_getD fl_Re_24 kd_7 d_Re_readClause_126 aw_none (fun t126 => ?_)
  refine aw_grd (fun ht126 => ?_)
  refine aw_V_v (As := []) (m_La_endClause ht126) cv_Re_141 (fx_isLK ht126 0 (by decide)) rfl rfl rfl (Nat.le_of_ble_eq_true rfl) ⟨Nat.le_of_ble_eq_true rfl, Nat.le_of_ble_eq_true rfl⟩ ⟨Nat.le_refl _, Nat.le_refl _⟩ d_Re_readClause_129 (fun y129 => ?_)
  exact aw_vret rfl rfl ⟨Nat.le_refl _, Nat.le_refl _⟩ d_Re_readClause_132
def jp_Re_readClause_88 (a1 : Int32) (v4 : Int32) (δ57 : Dm) : Option Dm := ((f_Re_readSum δ57).bind (fun y89 => (ocs (dR (gI y89 7 8)) none (fun t93 => if isL t93 = true then ((f_La_endSum t93 y89).bind (fun y96 => (if (gI y96 7 5) = (17 : Int32) then ((f_Re_step y96).bind (fun y109 => ((f_Re_readTest (f_Re_readFact 12) (0 : Int32) y109).bind (fun y114 => (jp_Re_readClause_125 a1 v4 y114))))) else (jp_Re_readClause_125 a1 v4 y96)))) else none))))
set_option maxHeartbeats 4000000 in
set_option maxRecDepth 100000 in
theorem tj_Re_readClause_88 {n : Nat} (a1 : Int32) (v4 : Int32) (δ57 : Dm) : AWo k_Re_readClause 38 0 0 88 [(0, .ref 7), (1, .int a1), (2, .int v4)] [] δ57 RT n 0 0 (Kv RT n) (jp_Re_readClause_88 a1 v4 δ57) := by
  unfold jp_Re_readClause_88
  refine aw_aload_n d_Re_readClause_88 0 rfl ?_
  refine aw_V_v (As := []) (m_Re_readSum) cv_Re_132 kd_7 rfl rfl rfl (Nat.le_of_ble_eq_true rfl) ⟨Nat.le_of_ble_eq_true rfl, Nat.le_of_ble_eq_true rfl⟩ ⟨Nat.le_refl _, Nat.le_refl _⟩ d_Re_readClause_89 (fun y89 => ?_)
  refine aw_aload_n d_Re_readClause_92 0 rfl ?_
  refine aw_getD fl_Re_24 kd_7 d_Re_readClause_93 aw_none (fun t93 => ?_)
  refine aw_grd (fun ht93 => ?_)
  refine aw_V_v (As := []) (m_La_endSum ht93) cv_Re_135 (fx_isLK ht93 0 (by decide)) rfl rfl rfl (Nat.le_of_ble_eq_true rfl) ⟨Nat.le_of_ble_eq_true rfl, Nat.le_of_ble_eq_true rfl⟩ ⟨Nat.le_refl _, Nat.le_refl _⟩ d_Re_readClause_96 (fun y96 => ?_)
  refine aw_aload_n d_Re_readClause_99 0 rfl ?_
  refine aw_getI fl_Re_52 kd_7 d_Re_readClause_100 ?_
  refine aw_bipush d_Re_readClause_103 kb_17 ?_
  refine aw_icmp_ne (tgt := 125) d_Re_readClause_105 rfl (fun q105 => ?_) (fun q105 => ?_)
  · refine aw_aload_n d_Re_readClause_108 0 rfl ?_
    refine aw_V_v (As := []) (m_Re_step) cv_Re_45 kd_7 rfl rfl rfl (Nat.le_of_ble_eq_true rfl) ⟨Nat.le_of_ble_eq_true rfl, Nat.le_of_ble_eq_true rfl⟩ ⟨Nat.le_refl _, Nat.le_refl _⟩ d_Re_readClause_109 (fun y109 => ?_)
    refine aw_aload_n d_Re_readClause_112 0 rfl ?_
    refine aw_iconst d_Re_readClause_113 ki_0 ?_
    refine aw_V_v (As := [.int (0 : Int32)]) (m_Re_readTest (dF := 36) (by decide) (f_Re_readFact 12) (m_Re_readFact 12)) cv_Re_138 kd_7 rfl rfl rfl (Nat.le_of_ble_eq_true rfl) ⟨Nat.le_of_ble_eq_true rfl, Nat.le_of_ble_eq_true rfl⟩ ⟨Nat.le_refl _, Nat.le_refl _⟩ d_Re_readClause_114 (fun y114 => ?_)
    refine aw_goto (tgt := 125) d_Re_readClause_117 rfl ?_
    refine aw_sub (lo' := [(0, .ref 7), (1, .int a1), (2, .int v4)]) [0, 1, 2] rfl ?_
    exact tj_Re_readClause_125 _ _ _
  · refine aw_sub (lo' := [(0, .ref 7), (1, .int a1), (2, .int v4)]) [0, 1, 2] rfl ?_
    exact tj_Re_readClause_125 _ _ _
def jp_Re_readClause_57 (a1 : Int32) (v4 : Int32) (δ57 : Dm) : Option Dm := (if v4 = (11 : Int32) then ((f_Re_readWeak δ57).bind (fun y64 => (jp_Re_readClause_125 a1 v4 y64))) else (if v4 = (9 : Int32) then (jp_Re_readClause_88 a1 v4 δ57) else (if v4 = (10 : Int32) then (jp_Re_readClause_88 a1 v4 δ57) else (if v4 = (16 : Int32) then (jp_Re_readClause_88 a1 v4 δ57) else ((f_Re_readTest (f_Re_readFact 12) (0 : Int32) δ57).bind (fun y122 => (jp_Re_readClause_125 a1 v4 y122)))))))
set_option maxHeartbeats 4000000 in
set_option maxRecDepth 100000 in
theorem tj_Re_readClause_57 {n : Nat} (a1 : Int32) (v4 : Int32) (δ57 : Dm) : AWo k_Re_readClause 38 0 0 57 [(0, .ref 7), (1, .int a1), (2, .int v4)] [] δ57 RT n 0 0 (Kv RT n) (jp_Re_readClause_57 a1 v4 δ57) := by
  unfold jp_Re_readClause_57
  refine aw_iload_n d_Re_readClause_57 2 rfl ?_
  refine aw_bipush d_Re_readClause_58 kb_11 ?_
  refine aw_icmp_ne (tgt := 70) d_Re_readClause_60 rfl (fun q60 => ?_) (fun q60 => ?_)
  · refine aw_aload_n d_Re_readClause_63 0 rfl ?_
    refine aw_V_v (As := []) (m_Re_readWeak) cv_Re_129 kd_7 rfl rfl rfl (Nat.le_of_ble_eq_true rfl) ⟨Nat.le_of_ble_eq_true rfl, Nat.le_of_ble_eq_true rfl⟩ ⟨Nat.le_refl _, Nat.le_refl _⟩ d_Re_readClause_64 (fun y64 => ?_)
    refine aw_goto (tgt := 125) d_Re_readClause_67 rfl ?_
    refine aw_sub (lo' := [(0, .ref 7), (1, .int a1), (2, .int v4)]) [0, 1, 2] rfl ?_
    exact tj_Re_readClause_125 _ _ _
  · refine aw_iload_n d_Re_readClause_70 2 rfl ?_
    refine aw_bipush d_Re_readClause_71 kb_9 ?_
    refine aw_icmp_eq (tgt := 88) d_Re_readClause_73 rfl (fun q73 => ?_) (fun q73 => ?_)
    · refine aw_sub (lo' := [(0, .ref 7), (1, .int a1), (2, .int v4)]) [0, 1, 2] rfl ?_
      exact tj_Re_readClause_88 _ _ _
    · refine aw_iload_n d_Re_readClause_76 2 rfl ?_
      refine aw_bipush d_Re_readClause_77 kb_10 ?_
      refine aw_icmp_eq (tgt := 88) d_Re_readClause_79 rfl (fun q79 => ?_) (fun q79 => ?_)
      · refine aw_sub (lo' := [(0, .ref 7), (1, .int a1), (2, .int v4)]) [0, 1, 2] rfl ?_
        exact tj_Re_readClause_88 _ _ _
      · refine aw_iload_n d_Re_readClause_82 2 rfl ?_
        refine aw_bipush d_Re_readClause_83 kb_16 ?_
        refine aw_icmp_ne (tgt := 120) d_Re_readClause_85 rfl (fun q85 => ?_) (fun q85 => ?_)
        · refine aw_sub (lo' := [(0, .ref 7), (1, .int a1), (2, .int v4)]) [0, 1, 2] rfl ?_
          exact tj_Re_readClause_88 _ _ _
        · refine aw_aload_n d_Re_readClause_120 0 rfl ?_
          refine aw_iconst d_Re_readClause_121 ki_0 ?_
          refine aw_V_v (As := [.int (0 : Int32)]) (m_Re_readTest (dF := 36) (by decide) (f_Re_readFact 12) (m_Re_readFact 12)) cv_Re_138 kd_7 rfl rfl rfl (Nat.le_of_ble_eq_true rfl) ⟨Nat.le_of_ble_eq_true rfl, Nat.le_of_ble_eq_true rfl⟩ ⟨Nat.le_refl _, Nat.le_refl _⟩ d_Re_readClause_122 (fun y122 => ?_)
          refine aw_sub (lo' := [(0, .ref 7), (1, .int a1), (2, .int v4)]) [0, 1, 2] rfl ?_
          exact tj_Re_readClause_125 _ _ _
def f_Re_readClause (a1 : Int32) (δ : Dm) : Option Dm := (bnd (gI δ 7 5) (fun v4 => ((f_Fp_within v4 (9 : Int32) (16 : Int32) δ).bind (fun y10 => (if y10 = 0 then ((f_Re_fail (0 : Int32) δ).bind (fun y18 => (some y18))) else (if a1 < (14 : Int32) then ((f_Re_step δ).bind (fun y35 => (ocs (dR (gI y35 7 8)) none (fun t39 => if isL t39 = true then ((f_La_beginClause t39 v4 y35).bind (fun y43 => (if (11 : Int32) < v4 then (jp_Re_readClause_57 a1 v4 y43) else ((f_Re_readBath v4 y43).bind (fun y54 => (jp_Re_readClause_57 a1 v4 y54)))))) else none)))) else ((f_Re_fail (4 : Int32) δ).bind (fun y30 => (some y30)))))))))
set_option maxHeartbeats 4000000 in
set_option maxRecDepth 100000 in
theorem m_Re_readClause {a1 : Int32} {δ : Dm} {n : Nat} : ∀ x, f_Re_readClause a1 δ = some x → AMet k_Re_readClause 38 0 0 [.ref 7, .int a1] δ RT n (Kv RT n x) := by
  refine aw_start (lo := [(0, .ref 7), (1, .int a1)]) mok_Re_readClause rfl (Nat.le_of_ble_eq_true rfl) ?_
  unfold f_Re_readClause
  refine aw_aload_n d_Re_readClause_0 0 rfl ?_
  refine aw_getI fl_Re_52 kd_7 d_Re_readClause_1 ?_
  refine aw_bI (fun v4 => ?_)
  refine aw_istore_n (lo' := [(2, .int v4), (0, .ref 7), (1, .int a1)]) d_Re_readClause_4 rfl (by decide) rfl ?_
  refine aw_iload_n d_Re_readClause_5 0 rfl ?_
  refine aw_bipush d_Re_readClause_6 kb_9 ?_
  refine aw_bipush d_Re_readClause_8 kb_16 ?_
  refine aw_SN_p (As := [.int v4, .int (9 : Int32), .int (16 : Int32)]) (m_Fp_within) cs_Re_103 rfl rfl (Nat.le_of_ble_eq_true rfl) ⟨Nat.le_of_ble_eq_true rfl, Nat.le_of_ble_eq_true rfl⟩ ⟨Nat.le_refl _, Nat.le_refl _⟩ d_Re_readClause_10 (fun y10 => ?_)
  refine aw_if_ne (tgt := 22) d_Re_readClause_13 rfl (fun q13 => ?_) (fun q13 => ?_)
  · refine aw_aload_n d_Re_readClause_16 1 rfl ?_
    refine aw_iconst d_Re_readClause_17 ki_0 ?_
    refine aw_V_v (As := [.int (0 : Int32)]) (m_Re_fail) cv_Re_57 kd_7 rfl rfl rfl (Nat.le_of_ble_eq_true rfl) ⟨Nat.le_of_ble_eq_true rfl, Nat.le_of_ble_eq_true rfl⟩ ⟨Nat.le_refl _, Nat.le_refl _⟩ d_Re_readClause_18 (fun y18 => ?_)
    exact aw_vret rfl rfl ⟨Nat.le_refl _, Nat.le_refl _⟩ d_Re_readClause_21
  · refine aw_iload_n d_Re_readClause_22 2 rfl ?_
    refine aw_bipush d_Re_readClause_23 kb_14 ?_
    refine aw_icmp_lt (tgt := 34) d_Re_readClause_25 rfl (fun q25 => ?_) (fun q25 => ?_)
    · refine aw_aload_n d_Re_readClause_34 1 rfl ?_
      refine aw_V_v (As := []) (m_Re_step) cv_Re_45 kd_7 rfl rfl rfl (Nat.le_of_ble_eq_true rfl) ⟨Nat.le_of_ble_eq_true rfl, Nat.le_of_ble_eq_true rfl⟩ ⟨Nat.le_refl _, Nat.le_refl _⟩ d_Re_readClause_35 (fun y35 => ?_)
      refine aw_aload_n d_Re_readClause_38 1 rfl ?_
      refine aw_getD fl_Re_24 kd_7 d_Re_readClause_39 aw_none (fun t39 => ?_)
      refine aw_grd (fun ht39 => ?_)
      refine aw_iload_n d_Re_readClause_42 0 rfl ?_
      refine aw_V_v (As := [.int v4]) (m_La_beginClause ht39) cv_Re_123 (fx_isLK ht39 0 (by decide)) rfl rfl rfl (Nat.le_of_ble_eq_true rfl) ⟨Nat.le_of_ble_eq_true rfl, Nat.le_of_ble_eq_true rfl⟩ ⟨Nat.le_refl _, Nat.le_refl _⟩ d_Re_readClause_43 (fun y43 => ?_)
      refine aw_iload_n d_Re_readClause_46 0 rfl ?_
      refine aw_bipush d_Re_readClause_47 kb_11 ?_
      refine aw_icmp_gt (tgt := 57) d_Re_readClause_49 rfl (fun q49 => ?_) (fun q49 => ?_)
      · refine aw_sub (lo' := [(0, .ref 7), (1, .int a1), (2, .int v4)]) [1, 2, 0] rfl ?_
        exact tj_Re_readClause_57 _ _ _
      · refine aw_aload_n d_Re_readClause_52 1 rfl ?_
        refine aw_iload_n d_Re_readClause_53 0 rfl ?_
        refine aw_V_v (As := [.int v4]) (m_Re_readBath) cv_Re_126 kd_7 rfl rfl rfl (Nat.le_of_ble_eq_true rfl) ⟨Nat.le_of_ble_eq_true rfl, Nat.le_of_ble_eq_true rfl⟩ ⟨Nat.le_refl _, Nat.le_refl _⟩ d_Re_readClause_54 (fun y54 => ?_)
        refine aw_sub (lo' := [(0, .ref 7), (1, .int a1), (2, .int v4)]) [1, 2, 0] rfl ?_
        exact tj_Re_readClause_57 _ _ _
    · refine aw_aload_n d_Re_readClause_28 1 rfl ?_
      refine aw_iconst d_Re_readClause_29 ki_4 ?_
      refine aw_V_v (As := [.int (4 : Int32)]) (m_Re_fail) cv_Re_57 kd_7 rfl rfl rfl (Nat.le_of_ble_eq_true rfl) ⟨Nat.le_of_ble_eq_true rfl, Nat.le_of_ble_eq_true rfl⟩ ⟨Nat.le_refl _, Nat.le_refl _⟩ d_Re_readClause_30 (fun y30 => ?_)
      exact aw_vret rfl rfl ⟨Nat.le_refl _, Nat.le_refl _⟩ d_Re_readClause_33
def lp_Re_read_40 (kx40_75 : Int32 → Dm → Option (Int32 × Dm)) (a2 : Int32) (a3 : Nat) : Nat → Int32 → Dm → Option (Int32 × Dm)
  | 0, _, _ => none
  | f + 1, v4_40, δ40 => (if (14 : Int32) < v4_40 then (kx40_75 v4_40 δ40) else ((f_Re_readClause v4_40 δ40).bind (fun y50 => (if (gI y50 7 5) = (33 : Int32) then ((f_Re_step y50).bind (fun y66 => (lp_Re_read_40 kx40_75 a2 a3 f (v4_40 + (1 : Int32)) y66))) else (kx40_75 v4_40 y50)))))
set_option maxHeartbeats 4000000 in
set_option maxRecDepth 100000 in
theorem tl_Re_read_40 {n : Nat} (kx40_75 : Int32 → Dm → Option (Int32 × Dm)) (a2 : Int32) (a3 : Nat) (ha3 : isL a3 = true) (hkx40_75 : ∀ v4_40k δ40k, AWo k_Re_read 39 0 0 75 [(0, .ref 7), (1, .ref 5), (2, .int a2), (3, .ref a3), (4, .int v4_40k)] [] δ40k RT n 0 0 (Km RT n) (kx40_75 v4_40k δ40k)) : ∀ (f : Nat) (v4_40 : Int32) (δ40 : Dm), AWo k_Re_read 39 0 0 40 [(0, .ref 7), (1, .ref 5), (2, .int a2), (3, .ref a3), (4, .int v4_40)] [] δ40 RT n 0 0 (Km RT n) (lp_Re_read_40 kx40_75 a2 a3 f v4_40 δ40) := by
  intro f
  induction f with
  | zero => intro _ _; exact aw_none
  | succ f ih =>
    intro v4_40 δ40
    rw [lp_Re_read_40]
    refine aw_iload d_Re_read_40 4 rfl ?_
    refine aw_bipush d_Re_read_42 kb_14 ?_
    refine aw_icmp_gt (tgt := 75) d_Re_read_44 rfl (fun q44 => ?_) (fun q44 => ?_)
    · refine aw_sub (lo' := [(0, .ref 7), (1, .ref 5), (2, .int a2), (3, .ref a3), (4, .int v4_40)]) [0, 1, 2, 3, 4] rfl ?_
      exact hkx40_75 _ _
    · refine aw_aload_n d_Re_read_47 0 rfl ?_
      refine aw_iload d_Re_read_48 4 rfl ?_
      refine aw_V_v (As := [.int v4_40]) (m_Re_readClause) cv_Re_48 kd_7 rfl rfl rfl (Nat.le_of_ble_eq_true rfl) ⟨Nat.le_of_ble_eq_true rfl, Nat.le_of_ble_eq_true rfl⟩ ⟨Nat.le_refl _, Nat.le_refl _⟩ d_Re_read_50 (fun y50 => ?_)
      refine aw_aload_n d_Re_read_53 0 rfl ?_
      refine aw_getI fl_Re_52 kd_7 d_Re_read_54 ?_
      refine aw_bipush d_Re_read_57 kb_33 ?_
      refine aw_icmp_eq (tgt := 65) d_Re_read_59 rfl (fun q59 => ?_) (fun q59 => ?_)
      · refine aw_aload_n d_Re_read_65 0 rfl ?_
        refine aw_V_v (As := []) (m_Re_step) cv_Re_45 kd_7 rfl rfl rfl (Nat.le_of_ble_eq_true rfl) ⟨Nat.le_of_ble_eq_true rfl, Nat.le_of_ble_eq_true rfl⟩ ⟨Nat.le_refl _, Nat.le_refl _⟩ d_Re_read_66 (fun y66 => ?_)
        refine aw_iinc (v := (v4_40 + (1 : Int32))) (lo' := [(4, .int (v4_40 + (1 : Int32))), (0, .ref 7), (1, .ref 5), (2, .int a2), (3, .ref a3)]) d_Re_read_69 4 rfl (by rw [show Int32.ofInt (1) = (1 : Int32) from by decide]) (by decide) rfl ?_
        refine aw_goto (tgt := 40) d_Re_read_72 rfl ?_
        refine aw_sub (lo' := [(0, .ref 7), (1, .ref 5), (2, .int a2), (3, .ref a3), (4, .int (v4_40 + (1 : Int32)))]) [1, 2, 3, 4, 0] rfl ?_
        exact ih _ _
      · refine aw_goto (tgt := 75) d_Re_read_62 rfl ?_
        refine aw_sub (lo' := [(0, .ref 7), (1, .ref 5), (2, .int a2), (3, .ref a3), (4, .int v4_40)]) [0, 1, 2, 3, 4] rfl ?_
        exact hkx40_75 _ _
def f_Re_read (a2 : Int32) (a3 : Nat) (δ : Dm) : Option (Int32 × Dm) := ((f_Re_scan a2 δ).bind (fun y3 => (bnd (sI y3 7 8 (nI a3)) (fun δ_8 => (ocs (dR (gI δ_8 7 8)) none (fun t12 => if isL t12 = true then ((f_La_clear t12 δ_8).bind (fun y15 => (bnd (sI y15 7 6 (0 : Int32)) (fun δ_20 => (bnd (sI δ_20 7 7 (0 : Int32)) (fun δ_25 => (bnd (sI δ_25 7 4 (-1 : Int32)) (fun δ_30 => ((f_Re_step δ_30).bind (fun y34 => (lp_Re_read_40 (fun v4_40x δ40x => (if (gI δ40x 7 5) = (34 : Int32) then (some ((gI δ40x 7 7), δ40x)) else ((f_Re_fail (0 : Int32) δ40x).bind (fun y86 => (some ((gI y86 7 7), y86)))))) a2 a3 FU (0 : Int32) y34))))))))))) else none))))))
set_option maxHeartbeats 4000000 in
set_option maxRecDepth 100000 in
theorem m_Re_read {a2 : Int32} {a3 : Nat} {δ : Dm} {n : Nat} (ha3 : isL a3 = true) : ∀ x, f_Re_read a2 a3 δ = some x → AMet k_Re_read 39 0 0 [.ref 7, .ref 5, .int a2, .ref a3] δ RT n (Km RT n x) := by
  refine aw_start (lo := [(0, .ref 7), (1, .ref 5), (2, .int a2), (3, .ref a3)]) mok_Re_read rfl (Nat.le_of_ble_eq_true rfl) ?_
  unfold f_Re_read
  refine aw_aload_n d_Re_read_0 0 rfl ?_
  refine aw_aload_n d_Re_read_1 1 rfl ?_
  refine aw_iload_n d_Re_read_2 2 rfl ?_
  refine aw_V_v (As := [.ref 5, .int a2]) (m_Re_scan) cv_Re_28 kd_7 rfl rfl rfl (Nat.le_of_ble_eq_true rfl) ⟨Nat.le_of_ble_eq_true rfl, Nat.le_of_ble_eq_true rfl⟩ ⟨Nat.le_refl _, Nat.le_refl _⟩ d_Re_read_3 (fun y3 => ?_)
  refine aw_aload_n d_Re_read_6 0 rfl ?_
  refine aw_aload_n d_Re_read_7 3 rfl ?_
  refine aw_putD pf_Re_24 (fun _ => rfl) (fun _ => rfl) (KD_lo (by rw [show KD a3 = _ from (fx_isLK ha3 0 (by decide))]; decide)) (Nat.lt_trans (fx_isLlt ha3) (by decide)) kd_7 d_Re_read_8 ?_
  refine aw_bD (fun δ_8 => ?_)
  refine aw_aload_n d_Re_read_11 0 rfl ?_
  refine aw_getD fl_Re_24 kd_7 d_Re_read_12 aw_none (fun t12 => ?_)
  refine aw_grd (fun ht12 => ?_)
  refine aw_V_v (As := []) (m_La_clear ht12) cv_Re_32 (fx_isLK ht12 0 (by decide)) rfl rfl rfl (Nat.le_of_ble_eq_true rfl) ⟨Nat.le_of_ble_eq_true rfl, Nat.le_of_ble_eq_true rfl⟩ ⟨Nat.le_refl _, Nat.le_refl _⟩ d_Re_read_15 (fun y15 => ?_)
  refine aw_aload_n d_Re_read_18 0 rfl ?_
  refine aw_iconst d_Re_read_19 ki_0 ?_
  refine aw_putI pf_Re_35 kd_7 d_Re_read_20 ?_
  refine aw_bD (fun δ_20 => ?_)
  refine aw_aload_n d_Re_read_23 0 rfl ?_
  refine aw_iconst d_Re_read_24 ki_0 ?_
  refine aw_putI pf_Re_39 kd_7 d_Re_read_25 ?_
  refine aw_bD (fun δ_25 => ?_)
  refine aw_aload_n d_Re_read_28 0 rfl ?_
  refine aw_iconst d_Re_read_29 ki_m1 ?_
  refine aw_putI pf_Re_42 kd_7 d_Re_read_30 ?_
  refine aw_bD (fun δ_30 => ?_)
  refine aw_aload_n d_Re_read_33 0 rfl ?_
  refine aw_V_v (As := []) (m_Re_step) cv_Re_45 kd_7 rfl rfl rfl (Nat.le_of_ble_eq_true rfl) ⟨Nat.le_of_ble_eq_true rfl, Nat.le_of_ble_eq_true rfl⟩ ⟨Nat.le_refl _, Nat.le_refl _⟩ d_Re_read_34 (fun y34 => ?_)
  refine aw_iconst d_Re_read_37 ki_0 ?_
  refine aw_istore (lo' := [(4, .int (0 : Int32)), (0, .ref 7), (1, .ref 5), (2, .int a2), (3, .ref a3)]) d_Re_read_38 (by decide) rfl ?_
  refine aw_sub (lo' := [(0, .ref 7), (1, .ref 5), (2, .int a2), (3, .ref a3), (4, .int (0 : Int32))]) [1, 2, 3, 4, 0] rfl ?_
  refine tl_Re_read_40 _ _ _ ha3 (fun v4_40x δ40x => ?_) FU _ _
  · refine aw_aload_n d_Re_read_75 0 rfl ?_
    refine aw_getI fl_Re_52 kd_7 d_Re_read_76 ?_
    refine aw_bipush d_Re_read_79 kb_34 ?_
    refine aw_icmp_eq (tgt := 89) d_Re_read_81 rfl (fun q81 => ?_) (fun q81 => ?_)
    · refine aw_aload_n d_Re_read_89 0 rfl ?_
      refine aw_getI fl_Re_39 kd_7 d_Re_read_90 ?_
      exact aw_iret rfl rfl ⟨Nat.le_refl _, Nat.le_refl _⟩ d_Re_read_93
    · refine aw_aload_n d_Re_read_84 0 rfl ?_
      refine aw_iconst d_Re_read_85 ki_0 ?_
      refine aw_V_v (As := [.int (0 : Int32)]) (m_Re_fail) cv_Re_57 kd_7 rfl rfl rfl (Nat.le_of_ble_eq_true rfl) ⟨Nat.le_of_ble_eq_true rfl, Nat.le_of_ble_eq_true rfl⟩ ⟨Nat.le_refl _, Nat.le_refl _⟩ d_Re_read_86 (fun y86 => ?_)
      refine aw_aload_n d_Re_read_89 0 rfl ?_
      refine aw_getI fl_Re_39 kd_7 d_Re_read_90 ?_
      exact aw_iret rfl rfl ⟨Nat.le_refl _, Nat.le_refl _⟩ d_Re_read_93
def f_Fp_law (δ : Dm) : Option (Int32 × Dm) := (if (gI δ 4 3) < 0 then (some ((-1 : Int32), δ)) else (if (gI δ 4 3) < (8 : Int32) then (if inb (gI δ 4 3) 8 then ocs (RT 6 (ix (gI δ 4 3))) (some ((-1 : Int32), δ)) (fun t29 => if isL t29 = true then ((f_Re_read (gI δ 4 1) t29 δ).bind (fun y50 => bnd y50.1 (fun v50 => bnd y50.2 (fun δ_50 => (bnd (sI δ_50 4 1 (0 : Int32)) (fun δ_56 => (if v50 ≤ 0 then (bnd (sI δ_56 4 3 ((gI δ_56 4 3) + (1 : Int32))) (fun δ_75 => (some (((gI δ_75 4 3) - (1 : Int32)), δ_75)))) else (some (((-2 : Int32) - v50), δ_56))))))))) else none) else none) else (some ((-1 : Int32), δ))))
set_option maxHeartbeats 4000000 in
set_option maxRecDepth 100000 in
theorem m_Fp_law {δ : Dm} {n : Nat} : ∀ x, f_Fp_law δ = some x → AMet k_Fp_law 40 0 0 [.ref 4] δ RT n (Km RT n x) := by
  refine aw_start (lo := [(0, .ref 4)]) mok_Fp_law rfl (Nat.le_of_ble_eq_true rfl) ?_
  unfold f_Fp_law
  refine aw_aload_n d_Fp_law_0 0 rfl ?_
  refine aw_getI fl_Fp_109 kd_4 d_Fp_law_1 ?_
  refine aw_if_lt (tgt := 19) d_Fp_law_4 rfl (fun q4 => ?_) (fun q4 => ?_)
  · refine aw_iconst d_Fp_law_19 ki_m1 ?_
    exact aw_iret rfl rfl ⟨Nat.le_refl _, Nat.le_refl _⟩ d_Fp_law_20
  · refine aw_aload_n d_Fp_law_7 0 rfl ?_
    refine aw_getI fl_Fp_109 kd_4 d_Fp_law_8 ?_
    refine aw_aload_n d_Fp_law_11 0 rfl ?_
    refine aw_getR (t := 6) fl_Fp_15 kd_4 rt_4_2 d_Fp_law_12 ?_
    refine aw_alen (v := (8 : Int32)) kd_6 ⟨by decide, by decide⟩ (by decide) d_Fp_law_15 ?_
    refine aw_icmp_lt (tgt := 21) d_Fp_law_16 rfl (fun q16 => ?_) (fun q16 => ?_)
    · refine aw_aload_n d_Fp_law_21 0 rfl ?_
      refine aw_getR (t := 6) fl_Fp_15 kd_4 rt_4_2 d_Fp_law_22 ?_
      refine aw_aload_n d_Fp_law_25 0 rfl ?_
      refine aw_getI fl_Fp_109 kd_4 d_Fp_law_26 ?_
      refine aw_aald5 kd_6 d_Fp_law_29 ?_ (fun t29 => ?_)
      · refine aw_astoreN_n (lo' := [(1, .null), (0, .ref 4)]) d_Fp_law_30 rfl (by decide) rfl ?_
        refine aw_aloadN_n d_Fp_law_31 0 rfl ?_
        refine aw_ifnonnullN d_Fp_law_32 ?_
        refine aw_iconst d_Fp_law_35 ki_m1 ?_
        exact aw_iret rfl rfl ⟨Nat.le_refl _, Nat.le_refl _⟩ d_Fp_law_36
      · refine aw_grd (fun ht29 => ?_)
        refine aw_astore_n (lo' := [(1, .ref t29), (0, .ref 4)]) d_Fp_law_30 rfl (by decide) rfl ?_
        refine aw_aload_n d_Fp_law_31 0 rfl ?_
        refine aw_ifnonnull (tgt := 37) d_Fp_law_32 rfl ?_
        refine aw_aload_n d_Fp_law_37 1 rfl ?_
        refine aw_getR (t := 7) fl_Fp_22 kd_4 rt_4_4 d_Fp_law_38 ?_
        refine aw_aload_n d_Fp_law_41 1 rfl ?_
        refine aw_getR (t := 5) fl_Fp_9 kd_4 rt_4_0 d_Fp_law_42 ?_
        refine aw_aload_n d_Fp_law_45 1 rfl ?_
        refine aw_getI fl_Fp_102 kd_4 d_Fp_law_46 ?_
        refine aw_aload_n d_Fp_law_49 0 rfl ?_
        refine aw_V_m (As := [.ref 5, .int (gI δ 4 1), .ref t29]) (m_Re_read ht29) cv_Fp_112 kd_7 rfl rfl rfl (Nat.le_of_ble_eq_true rfl) ⟨Nat.le_of_ble_eq_true rfl, Nat.le_of_ble_eq_true rfl⟩ ⟨Nat.le_refl _, Nat.le_refl _⟩ d_Fp_law_50 (fun y50 => ?_)
        refine aw_bI (fun v50 => ?_)
        refine aw_bD (fun δ_50 => ?_)
        refine aw_istore_n (lo' := [(2, .int v50), (1, .ref t29), (0, .ref 4)]) d_Fp_law_53 rfl (by decide) rfl ?_
        refine aw_aload_n d_Fp_law_54 2 rfl ?_
        refine aw_iconst d_Fp_law_55 ki_0 ?_
        refine aw_putI pf_Fp_102 kd_4 d_Fp_law_56 ?_
        refine aw_bD (fun δ_56 => ?_)
        refine aw_iload_n d_Fp_law_59 0 rfl ?_
        refine aw_if_le (tgt := 68) d_Fp_law_60 rfl (fun q60 => ?_) (fun q60 => ?_)
        · refine aw_aload_n d_Fp_law_68 2 rfl ?_
          refine aw_dup d_Fp_law_69 rfl ?_
          refine aw_getI fl_Fp_109 kd_4 d_Fp_law_70 ?_
          refine aw_iconst d_Fp_law_73 ki_1 ?_
          refine aw_iadd d_Fp_law_74 ?_
          refine aw_putI pf_Fp_109 kd_4 d_Fp_law_75 ?_
          refine aw_bD (fun δ_75 => ?_)
          refine aw_aload_n d_Fp_law_78 2 rfl ?_
          refine aw_getI fl_Fp_109 kd_4 d_Fp_law_79 ?_
          refine aw_iconst d_Fp_law_82 ki_1 ?_
          refine aw_isub d_Fp_law_83 ?_
          exact aw_iret rfl rfl ⟨Nat.le_refl _, Nat.le_refl _⟩ d_Fp_law_84
        · refine aw_bipush d_Fp_law_63 kb_m2 ?_
          refine aw_iload_n d_Fp_law_65 0 rfl ?_
          refine aw_isub d_Fp_law_66 ?_
          exact aw_iret rfl rfl ⟨Nat.le_refl _, Nat.le_refl _⟩ d_Fp_law_67
    · refine aw_iconst d_Fp_law_19 ki_m1 ?_
      exact aw_iret rfl rfl ⟨Nat.le_refl _, Nat.le_refl _⟩ d_Fp_law_20
def f_To_slot (a0 : Nat) (a1 : Int32) (δ : Dm) : Option (Option Nat) := (if a1 < 0 then (some none) else (if (8 : Int32) ≤ a1 then (some none) else (if inb a1 8 then ocs (RT (a0 + 4) (ix a1)) (some none) (fun t18 => if isB t18 = true then (some (some t18)) else none) else none)))
set_option maxHeartbeats 4000000 in
set_option maxRecDepth 100000 in
theorem m_To_slot {a0 : Nat} {a1 : Int32} {δ : Dm} {n : Nat} (ha0 : isT a0 = true) : ∀ x, f_To_slot a0 a1 δ = some x → AMet k_To_slot 1 0 0 [.ref a0, .int a1] δ RT n (Kr δ RT n x) := by
  refine aw_start (lo := [(0, .ref a0), (1, .int a1)]) mok_To_slot rfl (Nat.le_of_ble_eq_true rfl) ?_
  unfold f_To_slot
  refine aw_iload_n d_To_slot_0 1 rfl ?_
  refine aw_if_lt (tgt := 22) d_To_slot_1 rfl (fun q1 => ?_) (fun q1 => ?_)
  · refine aw_null d_To_slot_22 ?_
    exact aw_aretN rfl rfl ⟨Nat.le_refl _, Nat.le_refl _⟩ d_To_slot_23
  · refine aw_iload_n d_To_slot_4 1 rfl ?_
    refine aw_aload_n d_To_slot_5 0 rfl ?_
    refine aw_getR (t := (a0 + 4)) fl_To_23 (fx_isTK ha0 0 (by decide)) (fx_isTR ha0 0 6 (by decide) (by decide)) d_To_slot_6 ?_
    refine aw_alen (v := (8 : Int32)) (fx_isTK ha0 4 (by decide)) ⟨by decide, by decide⟩ (by decide) d_To_slot_9 ?_
    refine aw_icmp_ge (tgt := 22) d_To_slot_10 rfl (fun q10 => ?_) (fun q10 => ?_)
    · refine aw_null d_To_slot_22 ?_
      exact aw_aretN rfl rfl ⟨Nat.le_refl _, Nat.le_refl _⟩ d_To_slot_23
    · refine aw_aload_n d_To_slot_13 0 rfl ?_
      refine aw_getR (t := (a0 + 4)) fl_To_23 (fx_isTK ha0 0 (by decide)) (fx_isTR ha0 0 6 (by decide) (by decide)) d_To_slot_14 ?_
      refine aw_iload_n d_To_slot_17 1 rfl ?_
      refine aw_aald6 (fx_isTK ha0 4 (by decide)) d_To_slot_18 ?_ (fun t18 => ?_)
      · refine aw_goto (tgt := 23) d_To_slot_19 rfl ?_
        exact aw_aretN rfl rfl ⟨Nat.le_refl _, Nat.le_refl _⟩ d_To_slot_23
      · refine aw_grd (fun ht18 => ?_)
        refine aw_goto (tgt := 23) d_To_slot_19 rfl ?_
        exact aw_aret rfl rfl ⟨Nat.le_refl _, Nat.le_refl _⟩ d_To_slot_23
def lp_To_isFree_2 (kx2_36 : Int32 → Option Int32) (a1 : Int32) (δ : Dm) : Nat → Int32 → Option Int32
  | 0, _ => none
  | f + 1, v2_2 => (if (gI δ 29 2) ≤ v2_2 then (kx2_36 v2_2) else ((f_To_slot 29 v2_2 δ).bind (fun o12 => ocs o12 (lp_To_isFree_2 kx2_36 a1 δ f (v2_2 + (1 : Int32))) (fun t12 => if isB t12 = true then (if (gI δ t12 0) = a1 then (some (0 : Int32)) else (lp_To_isFree_2 kx2_36 a1 δ f (v2_2 + (1 : Int32)))) else none))))
set_option maxHeartbeats 4000000 in
set_option maxRecDepth 100000 in
theorem tl_To_isFree_2 {n : Nat} (kx2_36 : Int32 → Option Int32) (a1 : Int32) (δ : Dm) (hkx2_36 : ∀ v2_2k, AWo k_To_isFree 2 0 0 36 [(0, .ref 29), (1, .int a1), (2, .int v2_2k)] [] δ RT n 0 0 (Kp δ RT n) (kx2_36 v2_2k)) : ∀ (f : Nat) (v2_2 : Int32), AWo k_To_isFree 2 0 0 2 [(0, .ref 29), (1, .int a1), (2, .int v2_2)] [] δ RT n 0 0 (Kp δ RT n) (lp_To_isFree_2 kx2_36 a1 δ f v2_2) := by
  intro f
  induction f with
  | zero => intro _; exact aw_none
  | succ f ih =>
    intro v2_2
    rw [lp_To_isFree_2]
    refine aw_iload_n d_To_isFree_2 2 rfl ?_
    refine aw_aload_n d_To_isFree_3 0 rfl ?_
    refine aw_getI fl_To_55 kd_29 d_To_isFree_4 ?_
    refine aw_icmp_ge (tgt := 36) d_To_isFree_7 rfl (fun q7 => ?_) (fun q7 => ?_)
    · refine aw_sub (lo' := [(0, .ref 29), (1, .int a1), (2, .int v2_2)]) [0, 1, 2] rfl ?_
      exact hkx2_36 _
    · refine aw_aload_n d_To_isFree_10 0 rfl ?_
      refine aw_iload_n d_To_isFree_11 2 rfl ?_
      refine aw_V_r (As := [.int v2_2]) (m_To_slot (by decide)) cv_To_69 kd_29 rfl rfl rfl (Nat.le_of_ble_eq_true rfl) ⟨Nat.le_of_ble_eq_true rfl, Nat.le_of_ble_eq_true rfl⟩ ⟨Nat.le_refl _, Nat.le_refl _⟩ d_To_isFree_12 ?_ (fun t12 => ?_)
      · refine aw_astoreN_n (lo' := [(3, .null), (0, .ref 29), (1, .int a1), (2, .int v2_2)]) d_To_isFree_15 rfl (by decide) rfl ?_
        refine aw_aloadN_n d_To_isFree_16 0 rfl ?_
        refine aw_ifnullN (tgt := 30) d_To_isFree_17 rfl ?_
        refine aw_iinc (v := (v2_2 + (1 : Int32))) (lo' := [(2, .int (v2_2 + (1 : Int32))), (3, .null), (0, .ref 29), (1, .int a1)]) d_To_isFree_30 3 rfl (by rw [show Int32.ofInt (1) = (1 : Int32) from by decide]) (by decide) rfl ?_
        refine aw_goto (tgt := 2) d_To_isFree_33 rfl ?_
        refine aw_sub (lo' := [(0, .ref 29), (1, .int a1), (2, .int (v2_2 + (1 : Int32)))]) [2, 3, 0] rfl ?_
        exact ih _
      · refine aw_grd (fun ht12 => ?_)
        refine aw_astore_n (lo' := [(3, .ref t12), (0, .ref 29), (1, .int a1), (2, .int v2_2)]) d_To_isFree_15 rfl (by decide) rfl ?_
        refine aw_aload_n d_To_isFree_16 0 rfl ?_
        refine aw_ifnull d_To_isFree_17 ?_
        refine aw_aload_n d_To_isFree_20 0 rfl ?_
        refine aw_getI fl_To_76 (fx_isBK ht12 0 (by decide)) d_To_isFree_21 ?_
        refine aw_iload_n d_To_isFree_24 2 rfl ?_
        refine aw_icmp_ne (tgt := 30) d_To_isFree_25 rfl (fun q25 => ?_) (fun q25 => ?_)
        · refine aw_iconst d_To_isFree_28 ki_0 ?_
          exact aw_zret rfl rfl rfl ⟨Nat.le_refl _, Nat.le_refl _⟩ d_To_isFree_29
        · refine aw_iinc (v := (v2_2 + (1 : Int32))) (lo' := [(2, .int (v2_2 + (1 : Int32))), (3, .ref t12), (0, .ref 29), (1, .int a1)]) d_To_isFree_30 3 rfl (by rw [show Int32.ofInt (1) = (1 : Int32) from by decide]) (by decide) rfl ?_
          refine aw_goto (tgt := 2) d_To_isFree_33 rfl ?_
          refine aw_sub (lo' := [(0, .ref 29), (1, .int a1), (2, .int (v2_2 + (1 : Int32)))]) [2, 3, 0] rfl ?_
          exact ih _
def f_To_isFree (a1 : Int32) (δ : Dm) : Option Int32 := (lp_To_isFree_2 (fun v2_2x => ((f_To_hasPlace a1 δ).bind (fun y38 => (if y38 = 0 ∨ y38 = 1 then (some y38) else none)))) a1 δ FU (0 : Int32))
set_option maxHeartbeats 4000000 in
set_option maxRecDepth 100000 in
theorem m_To_isFree {a1 : Int32} {δ : Dm} {n : Nat} : ∀ x, f_To_isFree a1 δ = some x → AMet k_To_isFree 2 0 0 [.ref 29, .int a1] δ RT n (Kp δ RT n x) := by
  refine aw_start (lo := [(0, .ref 29), (1, .int a1)]) mok_To_isFree rfl (Nat.le_of_ble_eq_true rfl) ?_
  unfold f_To_isFree
  refine aw_iconst d_To_isFree_0 ki_0 ?_
  refine aw_istore_n (lo' := [(2, .int (0 : Int32)), (0, .ref 29), (1, .int a1)]) d_To_isFree_1 rfl (by decide) rfl ?_
  refine aw_sub (lo' := [(0, .ref 29), (1, .int a1), (2, .int (0 : Int32))]) [1, 2, 0] rfl ?_
  refine tl_To_isFree_2 _ _ _ (fun v2_2x => ?_) FU _
  · refine aw_aload_n d_To_isFree_36 0 rfl ?_
    refine aw_iload_n d_To_isFree_37 1 rfl ?_
    refine aw_V_p (As := [.int a1]) (m_To_hasPlace) cv_To_79 kd_29 rfl rfl rfl (Nat.le_of_ble_eq_true rfl) ⟨Nat.le_of_ble_eq_true rfl, Nat.le_of_ble_eq_true rfl⟩ ⟨Nat.le_refl _, Nat.le_refl _⟩ d_To_isFree_38 (fun y38 => ?_)
    exact aw_zr2 rfl rfl ⟨Nat.le_refl _, Nat.le_refl _⟩ d_To_isFree_41
def f_Fp_lawAt (a1 : Int32) (δ : Dm) : Option (Option Nat) := (if a1 < 0 then (some none) else (if (gI δ 4 3) ≤ a1 then (some none) else (if (8 : Int32) ≤ a1 then (some none) else (if inb a1 8 then ocs (RT 6 (ix a1)) (some none) (fun t26 => if isL t26 = true then (some (some t26)) else none) else none))))
set_option maxHeartbeats 4000000 in
set_option maxRecDepth 100000 in
theorem m_Fp_lawAt {a1 : Int32} {δ : Dm} {n : Nat} : ∀ x, f_Fp_lawAt a1 δ = some x → AMet k_Fp_lawAt 1 0 0 [.ref 4, .int a1] δ RT n (Kr δ RT n x) := by
  refine aw_start (lo := [(0, .ref 4), (1, .int a1)]) mok_Fp_lawAt rfl (Nat.le_of_ble_eq_true rfl) ?_
  unfold f_Fp_lawAt
  refine aw_iload_n d_Fp_lawAt_0 1 rfl ?_
  refine aw_if_lt (tgt := 30) d_Fp_lawAt_1 rfl (fun q1 => ?_) (fun q1 => ?_)
  · refine aw_null d_Fp_lawAt_30 ?_
    exact aw_aretN rfl rfl ⟨Nat.le_refl _, Nat.le_refl _⟩ d_Fp_lawAt_31
  · refine aw_iload_n d_Fp_lawAt_4 1 rfl ?_
    refine aw_aload_n d_Fp_lawAt_5 0 rfl ?_
    refine aw_getI fl_Fp_109 kd_4 d_Fp_lawAt_6 ?_
    refine aw_icmp_ge (tgt := 30) d_Fp_lawAt_9 rfl (fun q9 => ?_) (fun q9 => ?_)
    · refine aw_null d_Fp_lawAt_30 ?_
      exact aw_aretN rfl rfl ⟨Nat.le_refl _, Nat.le_refl _⟩ d_Fp_lawAt_31
    · refine aw_iload_n d_Fp_lawAt_12 1 rfl ?_
      refine aw_aload_n d_Fp_lawAt_13 0 rfl ?_
      refine aw_getR (t := 6) fl_Fp_15 kd_4 rt_4_2 d_Fp_lawAt_14 ?_
      refine aw_alen (v := (8 : Int32)) kd_6 ⟨by decide, by decide⟩ (by decide) d_Fp_lawAt_17 ?_
      refine aw_icmp_ge (tgt := 30) d_Fp_lawAt_18 rfl (fun q18 => ?_) (fun q18 => ?_)
      · refine aw_null d_Fp_lawAt_30 ?_
        exact aw_aretN rfl rfl ⟨Nat.le_refl _, Nat.le_refl _⟩ d_Fp_lawAt_31
      · refine aw_aload_n d_Fp_lawAt_21 0 rfl ?_
        refine aw_getR (t := 6) fl_Fp_15 kd_4 rt_4_2 d_Fp_lawAt_22 ?_
        refine aw_iload_n d_Fp_lawAt_25 1 rfl ?_
        refine aw_aald5 kd_6 d_Fp_lawAt_26 ?_ (fun t26 => ?_)
        · refine aw_goto (tgt := 31) d_Fp_lawAt_27 rfl ?_
          exact aw_aretN rfl rfl ⟨Nat.le_refl _, Nat.le_refl _⟩ d_Fp_lawAt_31
        · refine aw_grd (fun ht26 => ?_)
          refine aw_goto (tgt := 31) d_Fp_lawAt_27 rfl ?_
          exact aw_aret rfl rfl ⟨Nat.le_refl _, Nat.le_refl _⟩ d_Fp_lawAt_31
def f_Bo_begin (a0 : Nat) (a1 : Int32) (a2 : Int32) (a3 : Int32) (a4 : Int32) (δ : Dm) : Option Dm := (bnd (sI δ a0 0 a1) (fun δ_2 => (bnd (sI δ_2 a0 1 a2) (fun δ_7 => (bnd (sI δ_7 a0 2 a3) (fun δ_12 => (bnd (sI δ_12 a0 3 a4) (fun δ_18 => (bnd (sI δ_18 a0 4 (0 : Int32)) (fun δ_23 => (bnd (sI δ_23 a0 5 (0 : Int32)) (fun δ_28 => (bnd (sI δ_28 a0 6 (0 : Int32)) (fun δ_33 => (bnd (sI δ_33 a0 7 (0 : Int32)) (fun δ_38 => (bnd (sI δ_38 a0 8 (0 : Int32)) (fun δ_43 => ((f_Ar_fill_II (a0 + 1) (1000 : Int32) δ_43).bind (fun y53 => ((f_Ar_fill_II (a0 + 2) (0 : Int32) y53).bind (fun y61 => ((f_Ar_fill_II (a0 + 3) (0 : Int32) y61).bind (fun y69 => (some y69)))))))))))))))))))))))))
set_option maxHeartbeats 4000000 in
set_option maxRecDepth 100000 in
theorem m_Bo_begin {a0 : Nat} {a1 : Int32} {a2 : Int32} {a3 : Int32} {a4 : Int32} {δ : Dm} {n : Nat} (ha0 : isB a0 = true) : ∀ x, f_Bo_begin a0 a1 a2 a3 a4 δ = some x → AMet k_Bo_begin 2 0 0 [.ref a0, .int a1, .int a2, .int a3, .int a4] δ RT n (Kv RT n x) := by
  refine aw_start (lo := [(0, .ref a0), (1, .int a1), (2, .int a2), (3, .int a3), (4, .int a4)]) mok_Bo_begin rfl (Nat.le_of_ble_eq_true rfl) ?_
  unfold f_Bo_begin
  refine aw_aload_n d_Bo_begin_0 0 rfl ?_
  refine aw_iload_n d_Bo_begin_1 1 rfl ?_
  refine aw_putI pf_Bo_21 (fx_isBK ha0 0 (by decide)) d_Bo_begin_2 ?_
  refine aw_bD (fun δ_2 => ?_)
  refine aw_aload_n d_Bo_begin_5 0 rfl ?_
  refine aw_iload_n d_Bo_begin_6 2 rfl ?_
  refine aw_putI pf_Bo_25 (fx_isBK ha0 0 (by decide)) d_Bo_begin_7 ?_
  refine aw_bD (fun δ_7 => ?_)
  refine aw_aload_n d_Bo_begin_10 0 rfl ?_
  refine aw_iload_n d_Bo_begin_11 3 rfl ?_
  refine aw_putI pf_Bo_28 (fx_isBK ha0 0 (by decide)) d_Bo_begin_12 ?_
  refine aw_bD (fun δ_12 => ?_)
  refine aw_aload_n d_Bo_begin_15 0 rfl ?_
  refine aw_iload d_Bo_begin_16 4 rfl ?_
  refine aw_putI pf_Bo_31 (fx_isBK ha0 0 (by decide)) d_Bo_begin_18 ?_
  refine aw_bD (fun δ_18 => ?_)
  refine aw_aload_n d_Bo_begin_21 0 rfl ?_
  refine aw_iconst d_Bo_begin_22 ki_0 ?_
  refine aw_putI pf_Bo_34 (fx_isBK ha0 0 (by decide)) d_Bo_begin_23 ?_
  refine aw_bD (fun δ_23 => ?_)
  refine aw_aload_n d_Bo_begin_26 0 rfl ?_
  refine aw_iconst d_Bo_begin_27 ki_0 ?_
  refine aw_putI pf_Bo_37 (fx_isBK ha0 0 (by decide)) d_Bo_begin_28 ?_
  refine aw_bD (fun δ_28 => ?_)
  refine aw_aload_n d_Bo_begin_31 0 rfl ?_
  refine aw_iconst d_Bo_begin_32 ki_0 ?_
  refine aw_putI pf_Bo_40 (fx_isBK ha0 0 (by decide)) d_Bo_begin_33 ?_
  refine aw_bD (fun δ_33 => ?_)
  refine aw_aload_n d_Bo_begin_36 0 rfl ?_
  refine aw_iconst d_Bo_begin_37 ki_0 ?_
  refine aw_putI pf_Bo_43 (fx_isBK ha0 0 (by decide)) d_Bo_begin_38 ?_
  refine aw_bD (fun δ_38 => ?_)
  refine aw_aload_n d_Bo_begin_41 0 rfl ?_
  refine aw_iconst d_Bo_begin_42 ki_0 ?_
  refine aw_putI pf_Bo_46 (fx_isBK ha0 0 (by decide)) d_Bo_begin_43 ?_
  refine aw_bD (fun δ_43 => ?_)
  refine aw_aload_n d_Bo_begin_46 0 rfl ?_
  refine aw_getR (t := (a0 + 1)) fl_Bo_9 (fx_isBK ha0 0 (by decide)) (fx_isBR ha0 0 9 (by decide) (by decide)) d_Bo_begin_47 ?_
  refine aw_sipush d_Bo_begin_50 ks_1000 ?_
  refine aw_S_v (As := [.ref (a0 + 1), .int (1000 : Int32)]) (m_Ar_fill_II (congrArg Prod.fst (fx_isBK ha0 1 (by decide)))) cs_Bo_49 rfl rfl (Nat.le_of_ble_eq_true rfl) ⟨Nat.le_of_ble_eq_true rfl, Nat.le_of_ble_eq_true rfl⟩ ⟨Nat.le_refl _, Nat.le_refl _⟩ d_Bo_begin_53 (fun y53 => ?_)
  refine aw_aload_n d_Bo_begin_56 0 rfl ?_
  refine aw_getR (t := (a0 + 2)) fl_Bo_15 (fx_isBK ha0 0 (by decide)) (fx_isBR ha0 0 10 (by decide) (by decide)) d_Bo_begin_57 ?_
  refine aw_iconst d_Bo_begin_60 ki_0 ?_
  refine aw_S_v (As := [.ref (a0 + 2), .int (0 : Int32)]) (m_Ar_fill_II (congrArg Prod.fst (fx_isBK ha0 2 (by decide)))) cs_Bo_49 rfl rfl (Nat.le_of_ble_eq_true rfl) ⟨Nat.le_of_ble_eq_true rfl, Nat.le_of_ble_eq_true rfl⟩ ⟨Nat.le_refl _, Nat.le_refl _⟩ d_Bo_begin_61 (fun y61 => ?_)
  refine aw_aload_n d_Bo_begin_64 0 rfl ?_
  refine aw_getR (t := (a0 + 3)) fl_Bo_18 (fx_isBK ha0 0 (by decide)) (fx_isBR ha0 0 11 (by decide) (by decide)) d_Bo_begin_65 ?_
  refine aw_iconst d_Bo_begin_68 ki_0 ?_
  refine aw_S_v (As := [.ref (a0 + 3), .int (0 : Int32)]) (m_Ar_fill_II (congrArg Prod.fst (fx_isBK ha0 3 (by decide)))) cs_Bo_49 rfl rfl (Nat.le_of_ble_eq_true rfl) ⟨Nat.le_of_ble_eq_true rfl, Nat.le_of_ble_eq_true rfl⟩ ⟨Nat.le_refl _, Nat.le_refl _⟩ d_Bo_begin_69 (fun y69 => ?_)
  exact aw_vret rfl rfl ⟨Nat.le_refl _, Nat.le_refl _⟩ d_Bo_begin_72
def f_Fp_booth (a1 : Int32) (a2 : Int32) (a3 : Int32) (δ : Dm) : Option (Int32 × Dm) := ((f_To_slot 29 (gI δ 29 2) δ).bind (fun o11 => ocs o11 (some ((-1 : Int32), δ)) (fun t11 => if isB t11 = true then ((f_To_isFree a1 δ).bind (fun y26 => (if y26 = 0 then (some ((-1 : Int32), δ)) else ((f_Fp_within a2 (1 : Int32) (999 : Int32) δ).bind (fun y37 => (if y37 = 0 then (some ((-1 : Int32), δ)) else ((f_Fp_lawAt a3 δ).bind (fun o45 => ocs o45 (some ((-1 : Int32), δ)) (fun t45 => if isL t45 = true then ((f_Bo_begin t11 a1 a2 a3 (gI δ 29 0) δ).bind (fun y65 => (bnd (sI y65 29 2 ((gI y65 29 2) + (1 : Int32))) (fun δ_78 => (some (((gI δ_78 29 2) - (1 : Int32)), δ_78)))))) else none))))))))) else none)))
set_option maxHeartbeats 4000000 in
set_option maxRecDepth 100000 in
theorem m_Fp_booth {a1 : Int32} {a2 : Int32} {a3 : Int32} {δ : Dm} {n : Nat} : ∀ x, f_Fp_booth a1 a2 a3 δ = some x → AMet k_Fp_booth 3 0 0 [.ref 4, .int a1, .int a2, .int a3] δ RT n (Km RT n x) := by
  refine aw_start (lo := [(0, .ref 4), (1, .int a1), (2, .int a2), (3, .int a3)]) mok_Fp_booth rfl (Nat.le_of_ble_eq_true rfl) ?_
  unfold f_Fp_booth
  refine aw_aload_n d_Fp_booth_0 0 rfl ?_
  refine aw_getR (t := 29) fl_Fp_57 kd_4 rt_4_9 d_Fp_booth_1 ?_
  refine aw_aload_n d_Fp_booth_4 0 rfl ?_
  refine aw_getR (t := 29) fl_Fp_57 kd_4 rt_4_9 d_Fp_booth_5 ?_
  refine aw_getI fl_Fp_116 kd_29 d_Fp_booth_8 ?_
  refine aw_V_r (As := [.int (gI δ 29 2)]) (m_To_slot (by decide)) cv_Fp_119 kd_29 rfl rfl rfl (Nat.le_of_ble_eq_true rfl) ⟨Nat.le_of_ble_eq_true rfl, Nat.le_of_ble_eq_true rfl⟩ ⟨Nat.le_refl _, Nat.le_refl _⟩ d_Fp_booth_11 ?_ (fun t11 => ?_)
  · refine aw_astoreN (lo' := [(4, .null), (0, .ref 4), (1, .int a1), (2, .int a2), (3, .int a3)]) d_Fp_booth_14 (by decide) rfl ?_
    refine aw_aloadN d_Fp_booth_16 0 rfl ?_
    refine aw_ifnullN (tgt := 51) d_Fp_booth_18 rfl ?_
    refine aw_iconst d_Fp_booth_51 ki_m1 ?_
    exact aw_iret rfl rfl ⟨Nat.le_refl _, Nat.le_refl _⟩ d_Fp_booth_52
  · refine aw_grd (fun ht11 => ?_)
    refine aw_astore (lo' := [(4, .ref t11), (0, .ref 4), (1, .int a1), (2, .int a2), (3, .int a3)]) d_Fp_booth_14 (by decide) rfl ?_
    refine aw_aload d_Fp_booth_16 0 rfl ?_
    refine aw_ifnull d_Fp_booth_18 ?_
    refine aw_aload_n d_Fp_booth_21 1 rfl ?_
    refine aw_getR (t := 29) fl_Fp_57 kd_4 rt_4_9 d_Fp_booth_22 ?_
    refine aw_iload_n d_Fp_booth_25 2 rfl ?_
    refine aw_V_p (As := [.int a1]) (m_To_isFree) cv_Fp_123 kd_29 rfl rfl rfl (Nat.le_of_ble_eq_true rfl) ⟨Nat.le_of_ble_eq_true rfl, Nat.le_of_ble_eq_true rfl⟩ ⟨Nat.le_refl _, Nat.le_refl _⟩ d_Fp_booth_26 (fun y26 => ?_)
    refine aw_if_eq (tgt := 51) d_Fp_booth_29 rfl (fun q29 => ?_) (fun q29 => ?_)
    · refine aw_iconst d_Fp_booth_51 ki_m1 ?_
      exact aw_iret rfl rfl ⟨Nat.le_refl _, Nat.le_refl _⟩ d_Fp_booth_52
    · refine aw_iload_n d_Fp_booth_32 3 rfl ?_
      refine aw_iconst d_Fp_booth_33 ki_1 ?_
      refine aw_sipush d_Fp_booth_34 ks_999 ?_
      refine aw_S_p (As := [.int a2, .int (1 : Int32), .int (999 : Int32)]) (m_Fp_within) cs_Fp_70 rfl rfl (Nat.le_of_ble_eq_true rfl) ⟨Nat.le_of_ble_eq_true rfl, Nat.le_of_ble_eq_true rfl⟩ ⟨Nat.le_refl _, Nat.le_refl _⟩ d_Fp_booth_37 (fun y37 => ?_)
      refine aw_if_eq (tgt := 51) d_Fp_booth_40 rfl (fun q40 => ?_) (fun q40 => ?_)
      · refine aw_iconst d_Fp_booth_51 ki_m1 ?_
        exact aw_iret rfl rfl ⟨Nat.le_refl _, Nat.le_refl _⟩ d_Fp_booth_52
      · refine aw_aload_n d_Fp_booth_43 1 rfl ?_
        refine aw_iload_n d_Fp_booth_44 4 rfl ?_
        refine aw_V_r (As := [.int a3]) (m_Fp_lawAt) cv_Fp_126 kd_4 rfl rfl rfl (Nat.le_of_ble_eq_true rfl) ⟨Nat.le_of_ble_eq_true rfl, Nat.le_of_ble_eq_true rfl⟩ ⟨Nat.le_refl _, Nat.le_refl _⟩ d_Fp_booth_45 ?_ (fun t45 => ?_)
        · refine aw_ifnonnullN d_Fp_booth_48 ?_
          refine aw_iconst d_Fp_booth_51 ki_m1 ?_
          exact aw_iret rfl rfl ⟨Nat.le_refl _, Nat.le_refl _⟩ d_Fp_booth_52
        · refine aw_grd (fun ht45 => ?_)
          refine aw_ifnonnull (tgt := 53) d_Fp_booth_48 rfl ?_
          refine aw_aload d_Fp_booth_53 0 rfl ?_
          refine aw_iload_n d_Fp_booth_55 2 rfl ?_
          refine aw_iload_n d_Fp_booth_56 3 rfl ?_
          refine aw_iload_n d_Fp_booth_57 4 rfl ?_
          refine aw_aload_n d_Fp_booth_58 1 rfl ?_
          refine aw_getR (t := 29) fl_Fp_57 kd_4 rt_4_9 d_Fp_booth_59 ?_
          refine aw_getI fl_Fp_130 kd_29 d_Fp_booth_62 ?_
          refine aw_V_v (As := [.int a1, .int a2, .int a3, .int (gI δ 29 0)]) (m_Bo_begin ht11) cv_Fp_133 (fx_isBK ht11 0 (by decide)) rfl rfl rfl (Nat.le_of_ble_eq_true rfl) ⟨Nat.le_of_ble_eq_true rfl, Nat.le_of_ble_eq_true rfl⟩ ⟨Nat.le_refl _, Nat.le_refl _⟩ d_Fp_booth_65 (fun y65 => ?_)
          refine aw_aload_n d_Fp_booth_68 1 rfl ?_
          refine aw_getR (t := 29) fl_Fp_57 kd_4 rt_4_9 d_Fp_booth_69 ?_
          refine aw_dup d_Fp_booth_72 rfl ?_
          refine aw_getI fl_Fp_116 kd_29 d_Fp_booth_73 ?_
          refine aw_iconst d_Fp_booth_76 ki_1 ?_
          refine aw_iadd d_Fp_booth_77 ?_
          refine aw_putI pf_Fp_116 kd_29 d_Fp_booth_78 ?_
          refine aw_bD (fun δ_78 => ?_)
          refine aw_aload_n d_Fp_booth_81 1 rfl ?_
          refine aw_getR (t := 29) fl_Fp_57 kd_4 rt_4_9 d_Fp_booth_82 ?_
          refine aw_getI fl_Fp_116 kd_29 d_Fp_booth_85 ?_
          refine aw_iconst d_Fp_booth_88 ki_1 ?_
          refine aw_isub d_Fp_booth_89 ?_
          exact aw_iret rfl rfl ⟨Nat.le_refl _, Nat.le_refl _⟩ d_Fp_booth_90
def f_To_boothAt (a1 : Int32) (δ : Dm) : Option (Option Nat) := (if (gI δ 29 2) ≤ a1 then (some none) else ((f_To_slot 29 a1 δ).bind (fun o10 => ocs o10 (some none) (fun t10 => if isB t10 = true then (some (some t10)) else none))))
set_option maxHeartbeats 4000000 in
set_option maxRecDepth 100000 in
theorem m_To_boothAt {a1 : Int32} {δ : Dm} {n : Nat} : ∀ x, f_To_boothAt a1 δ = some x → AMet k_To_boothAt 2 0 0 [.ref 29, .int a1] δ RT n (Kr δ RT n x) := by
  refine aw_start (lo := [(0, .ref 29), (1, .int a1)]) mok_To_boothAt rfl (Nat.le_of_ble_eq_true rfl) ?_
  unfold f_To_boothAt
  refine aw_iload_n d_To_boothAt_0 1 rfl ?_
  refine aw_aload_n d_To_boothAt_1 0 rfl ?_
  refine aw_getI fl_To_55 kd_29 d_To_boothAt_2 ?_
  refine aw_icmp_ge (tgt := 16) d_To_boothAt_5 rfl (fun q5 => ?_) (fun q5 => ?_)
  · refine aw_null d_To_boothAt_16 ?_
    exact aw_aretN rfl rfl ⟨Nat.le_refl _, Nat.le_refl _⟩ d_To_boothAt_17
  · refine aw_aload_n d_To_boothAt_8 0 rfl ?_
    refine aw_iload_n d_To_boothAt_9 1 rfl ?_
    refine aw_V_r (As := [.int a1]) (m_To_slot (by decide)) cv_To_69 kd_29 rfl rfl rfl (Nat.le_of_ble_eq_true rfl) ⟨Nat.le_of_ble_eq_true rfl, Nat.le_of_ble_eq_true rfl⟩ ⟨Nat.le_refl _, Nat.le_refl _⟩ d_To_boothAt_10 ?_ (fun t10 => ?_)
    · refine aw_goto (tgt := 17) d_To_boothAt_13 rfl ?_
      exact aw_aretN rfl rfl ⟨Nat.le_refl _, Nat.le_refl _⟩ d_To_boothAt_17
    · refine aw_grd (fun ht10 => ?_)
      refine aw_goto (tgt := 17) d_To_boothAt_13 rfl ?_
      exact aw_aret rfl rfl ⟨Nat.le_refl _, Nat.le_refl _⟩ d_To_boothAt_17
def f_Fp_move (a1 : Int32) (a2 : Int32) (δ : Dm) : Option (Int32 × Dm) := ((f_To_boothAt a1 δ).bind (fun o5 => ocs o5 (some ((-1 : Int32), δ)) (fun t5 => if isB t5 = true then ((f_To_isFree a2 δ).bind (fun y18 => (if y18 = 0 then (some ((-1 : Int32), δ)) else (bnd (gI δ t5 0) (fun v30 => (bnd (sI δ t5 0 a2) (fun δ_34 => (some (v30, δ_34))))))))) else none)))
set_option maxHeartbeats 4000000 in
set_option maxRecDepth 100000 in
theorem m_Fp_move {a1 : Int32} {a2 : Int32} {δ : Dm} {n : Nat} : ∀ x, f_Fp_move a1 a2 δ = some x → AMet k_Fp_move 3 0 0 [.ref 4, .int a1, .int a2] δ RT n (Km RT n x) := by
  refine aw_start (lo := [(0, .ref 4), (1, .int a1), (2, .int a2)]) mok_Fp_move rfl (Nat.le_of_ble_eq_true rfl) ?_
  unfold f_Fp_move
  refine aw_aload_n d_Fp_move_0 0 rfl ?_
  refine aw_getR (t := 29) fl_Fp_57 kd_4 rt_4_9 d_Fp_move_1 ?_
  refine aw_iload_n d_Fp_move_4 1 rfl ?_
  refine aw_V_r (As := [.int a1]) (m_To_boothAt) cv_Fp_139 kd_29 rfl rfl rfl (Nat.le_of_ble_eq_true rfl) ⟨Nat.le_of_ble_eq_true rfl, Nat.le_of_ble_eq_true rfl⟩ ⟨Nat.le_refl _, Nat.le_refl _⟩ d_Fp_move_5 ?_ (fun t5 => ?_)
  · refine aw_astoreN_n (lo' := [(3, .null), (0, .ref 4), (1, .int a1), (2, .int a2)]) d_Fp_move_8 rfl (by decide) rfl ?_
    refine aw_aloadN_n d_Fp_move_9 0 rfl ?_
    refine aw_ifnullN (tgt := 24) d_Fp_move_10 rfl ?_
    refine aw_iconst d_Fp_move_24 ki_m1 ?_
    exact aw_iret rfl rfl ⟨Nat.le_refl _, Nat.le_refl _⟩ d_Fp_move_25
  · refine aw_grd (fun ht5 => ?_)
    refine aw_astore_n (lo' := [(3, .ref t5), (0, .ref 4), (1, .int a1), (2, .int a2)]) d_Fp_move_8 rfl (by decide) rfl ?_
    refine aw_aload_n d_Fp_move_9 0 rfl ?_
    refine aw_ifnull d_Fp_move_10 ?_
    refine aw_aload_n d_Fp_move_13 1 rfl ?_
    refine aw_getR (t := 29) fl_Fp_57 kd_4 rt_4_9 d_Fp_move_14 ?_
    refine aw_iload_n d_Fp_move_17 3 rfl ?_
    refine aw_V_p (As := [.int a2]) (m_To_isFree) cv_Fp_123 kd_29 rfl rfl rfl (Nat.le_of_ble_eq_true rfl) ⟨Nat.le_of_ble_eq_true rfl, Nat.le_of_ble_eq_true rfl⟩ ⟨Nat.le_refl _, Nat.le_refl _⟩ d_Fp_move_18 (fun y18 => ?_)
    refine aw_if_ne (tgt := 26) d_Fp_move_21 rfl (fun q21 => ?_) (fun q21 => ?_)
    · refine aw_iconst d_Fp_move_24 ki_m1 ?_
      exact aw_iret rfl rfl ⟨Nat.le_refl _, Nat.le_refl _⟩ d_Fp_move_25
    · refine aw_aload_n d_Fp_move_26 0 rfl ?_
      refine aw_getI fl_Fp_142 (fx_isBK ht5 0 (by decide)) d_Fp_move_27 ?_
      refine aw_bI (fun v30 => ?_)
      refine aw_istore (lo' := [(4, .int v30), (3, .ref t5), (0, .ref 4), (1, .int a1), (2, .int a2)]) d_Fp_move_30 (by decide) rfl ?_
      refine aw_aload_n d_Fp_move_32 1 rfl ?_
      refine aw_iload_n d_Fp_move_33 4 rfl ?_
      refine aw_putI pf_Fp_142 (fx_isBK ht5 0 (by decide)) d_Fp_move_34 ?_
      refine aw_bD (fun δ_34 => ?_)
      refine aw_iload d_Fp_move_37 0 rfl ?_
      exact aw_iret rfl rfl ⟨Nat.le_refl _, Nat.le_refl _⟩ d_Fp_move_39
def f_Fp_paper (a1 : Int32) (a2 : Int32) (δ : Dm) : Option (Int32 × Dm) := ((f_To_boothAt a1 δ).bind (fun o5 => ocs o5 (some ((-1 : Int32), δ)) (fun t5 => if isB t5 = true then ((f_Fp_within a2 (1 : Int32) (9999 : Int32) δ).bind (fun y18 => (if y18 = 0 then (some ((-1 : Int32), δ)) else (if ((gI δ t5 4) + a2) ≤ (9999 : Int32) then (bnd (sI δ t5 4 ((gI δ t5 4) + a2)) (fun δ_45 => (some ((gI δ_45 t5 4), δ_45)))) else (some ((-1 : Int32), δ)))))) else none)))
set_option maxHeartbeats 4000000 in
set_option maxRecDepth 100000 in
theorem m_Fp_paper {a1 : Int32} {a2 : Int32} {δ : Dm} {n : Nat} : ∀ x, f_Fp_paper a1 a2 δ = some x → AMet k_Fp_paper 3 0 0 [.ref 4, .int a1, .int a2] δ RT n (Km RT n x) := by
  refine aw_start (lo := [(0, .ref 4), (1, .int a1), (2, .int a2)]) mok_Fp_paper rfl (Nat.le_of_ble_eq_true rfl) ?_
  unfold f_Fp_paper
  refine aw_aload_n d_Fp_paper_0 0 rfl ?_
  refine aw_getR (t := 29) fl_Fp_57 kd_4 rt_4_9 d_Fp_paper_1 ?_
  refine aw_iload_n d_Fp_paper_4 1 rfl ?_
  refine aw_V_r (As := [.int a1]) (m_To_boothAt) cv_Fp_139 kd_29 rfl rfl rfl (Nat.le_of_ble_eq_true rfl) ⟨Nat.le_of_ble_eq_true rfl, Nat.le_of_ble_eq_true rfl⟩ ⟨Nat.le_refl _, Nat.le_refl _⟩ d_Fp_paper_5 ?_ (fun t5 => ?_)
  · refine aw_astoreN_n (lo' := [(3, .null), (0, .ref 4), (1, .int a1), (2, .int a2)]) d_Fp_paper_8 rfl (by decide) rfl ?_
    refine aw_aloadN_n d_Fp_paper_9 0 rfl ?_
    refine aw_ifnullN (tgt := 36) d_Fp_paper_10 rfl ?_
    refine aw_iconst d_Fp_paper_36 ki_m1 ?_
    exact aw_iret rfl rfl ⟨Nat.le_refl _, Nat.le_refl _⟩ d_Fp_paper_37
  · refine aw_grd (fun ht5 => ?_)
    refine aw_astore_n (lo' := [(3, .ref t5), (0, .ref 4), (1, .int a1), (2, .int a2)]) d_Fp_paper_8 rfl (by decide) rfl ?_
    refine aw_aload_n d_Fp_paper_9 0 rfl ?_
    refine aw_ifnull d_Fp_paper_10 ?_
    refine aw_iload_n d_Fp_paper_13 3 rfl ?_
    refine aw_iconst d_Fp_paper_14 ki_1 ?_
    refine aw_sipush d_Fp_paper_15 ks_9999 ?_
    refine aw_S_p (As := [.int a2, .int (1 : Int32), .int (9999 : Int32)]) (m_Fp_within) cs_Fp_70 rfl rfl (Nat.le_of_ble_eq_true rfl) ⟨Nat.le_of_ble_eq_true rfl, Nat.le_of_ble_eq_true rfl⟩ ⟨Nat.le_refl _, Nat.le_refl _⟩ d_Fp_paper_18 (fun y18 => ?_)
    refine aw_if_eq (tgt := 36) d_Fp_paper_21 rfl (fun q21 => ?_) (fun q21 => ?_)
    · refine aw_iconst d_Fp_paper_36 ki_m1 ?_
      exact aw_iret rfl rfl ⟨Nat.le_refl _, Nat.le_refl _⟩ d_Fp_paper_37
    · refine aw_aload_n d_Fp_paper_24 0 rfl ?_
      refine aw_getI fl_Fp_145 (fx_isBK ht5 0 (by decide)) d_Fp_paper_25 ?_
      refine aw_iload_n d_Fp_paper_28 3 rfl ?_
      refine aw_iadd d_Fp_paper_29 ?_
      refine aw_sipush d_Fp_paper_30 ks_9999 ?_
      refine aw_icmp_le (tgt := 38) d_Fp_paper_33 rfl (fun q33 => ?_) (fun q33 => ?_)
      · refine aw_aload_n d_Fp_paper_38 0 rfl ?_
        refine aw_dup d_Fp_paper_39 rfl ?_
        refine aw_getI fl_Fp_145 (fx_isBK ht5 0 (by decide)) d_Fp_paper_40 ?_
        refine aw_iload_n d_Fp_paper_43 3 rfl ?_
        refine aw_iadd d_Fp_paper_44 ?_
        refine aw_putI pf_Fp_145 (fx_isBK ht5 0 (by decide)) d_Fp_paper_45 ?_
        refine aw_bD (fun δ_45 => ?_)
        refine aw_aload_n d_Fp_paper_48 0 rfl ?_
        refine aw_getI fl_Fp_145 (fx_isBK ht5 0 (by decide)) d_Fp_paper_49 ?_
        exact aw_iret rfl rfl ⟨Nat.le_refl _, Nat.le_refl _⟩ d_Fp_paper_52
      · refine aw_iconst d_Fp_paper_36 ki_m1 ?_
        exact aw_iret rfl rfl ⟨Nat.le_refl _, Nat.le_refl _⟩ d_Fp_paper_37
def lp_Ar_fill_JJ_6 (kx6_22 : Int32 → Dm → Option Dm) (a0 : Nat) (a1 : Int64) (v4 : Int32) : Nat → Int32 → Dm → Option Dm
  | 0, _, _ => none
  | f + 1, v3_6, δ6 => (if v4 ≤ v3_6 then (kx6_22 v3_6 δ6) else (if inb v3_6 (KD a0).2 then bnd (sL δ6 a0 (ix v3_6) a1) (fun δ_15 => (lp_Ar_fill_JJ_6 kx6_22 a0 a1 v4 f (v3_6 + (1 : Int32)) δ_15)) else none))
set_option maxHeartbeats 4000000 in
set_option maxRecDepth 100000 in
theorem tl_Ar_fill_JJ_6 {n : Nat} (kx6_22 : Int32 → Dm → Option Dm) (a0 : Nat) (a1 : Int64) (v4 : Int32) (ha0 : (KD a0).1 = 4) (hkx6_22 : ∀ v3_6k δ6k, AWo k_Ar_fill_JJ 1 0 0 22 [(0, .ref a0), (1, .long a1), (3, .int v3_6k), (4, .int v4)] [] δ6k RT n 0 0 (Kv RT n) (kx6_22 v3_6k δ6k)) : ∀ (f : Nat) (v3_6 : Int32) (δ6 : Dm), AWo k_Ar_fill_JJ 1 0 0 6 [(0, .ref a0), (1, .long a1), (3, .int v3_6), (4, .int v4)] [] δ6 RT n 0 0 (Kv RT n) (lp_Ar_fill_JJ_6 kx6_22 a0 a1 v4 f v3_6 δ6) := by
  intro f
  induction f with
  | zero => intro _ _; exact aw_none
  | succ f ih =>
    intro v3_6 δ6
    rw [lp_Ar_fill_JJ_6]
    refine aw_iload_n d_Ar_fill_JJ_6 2 rfl ?_
    refine aw_iload d_Ar_fill_JJ_7 3 rfl ?_
    refine aw_icmp_ge (tgt := 22) d_Ar_fill_JJ_9 rfl (fun q9 => ?_) (fun q9 => ?_)
    · refine aw_sub (lo' := [(0, .ref a0), (1, .long a1), (3, .int v3_6), (4, .int v4)]) [0, 1, 2, 3] rfl ?_
      exact hkx6_22 _ _
    · refine aw_aload_n d_Ar_fill_JJ_12 0 rfl ?_
      refine aw_iload_n d_Ar_fill_JJ_13 2 rfl ?_
      refine aw_lload_n d_Ar_fill_JJ_14 1 rfl ?_
      refine aw_last (kdE ha0) d_Ar_fill_JJ_15 ?_
      refine aw_bD (fun δ_15 => ?_)
      refine aw_iinc (v := (v3_6 + (1 : Int32))) (lo' := [(3, .int (v3_6 + (1 : Int32))), (0, .ref a0), (1, .long a1), (4, .int v4)]) d_Ar_fill_JJ_16 2 rfl (by rw [show Int32.ofInt (1) = (1 : Int32) from by decide]) (by decide) rfl ?_
      refine aw_goto (tgt := 6) d_Ar_fill_JJ_19 rfl ?_
      refine aw_sub (lo' := [(0, .ref a0), (1, .long a1), (3, .int (v3_6 + (1 : Int32))), (4, .int v4)]) [1, 2, 0, 3] rfl ?_
      exact ih _ _
def f_Ar_fill_JJ (a0 : Nat) (a1 : Int64) (δ : Dm) : Option Dm := (bnd (nI (KD a0).2) (fun v4 => (lp_Ar_fill_JJ_6 (fun v3_6x δ6x => (some δ6x)) a0 a1 v4 FU (0 : Int32) δ)))
set_option maxHeartbeats 4000000 in
set_option maxRecDepth 100000 in
theorem m_Ar_fill_JJ {a0 : Nat} {a1 : Int64} {δ : Dm} {n : Nat} (ha0 : (KD a0).1 = 4) : ∀ x, f_Ar_fill_JJ a0 a1 δ = some x → AMet k_Ar_fill_JJ 1 0 0 [.ref a0, .long a1] δ RT n (Kv RT n x) := by
  refine aw_start (lo := [(0, .ref a0), (1, .long a1)]) mok_Ar_fill_JJ rfl (Nat.le_of_ble_eq_true rfl) ?_
  unfold f_Ar_fill_JJ
  refine aw_iconst d_Ar_fill_JJ_0 ki_0 ?_
  refine aw_istore_n (lo' := [(3, .int (0 : Int32)), (0, .ref a0), (1, .long a1)]) d_Ar_fill_JJ_1 rfl (by decide) rfl ?_
  refine aw_aload_n d_Ar_fill_JJ_2 1 rfl ?_
  refine aw_alen (v := (nI (KD a0).2)) (kdE ha0) ⟨by decide, by decide⟩ rfl d_Ar_fill_JJ_3 ?_
  refine aw_bI (fun v4 => ?_)
  refine aw_istore (lo' := [(4, .int v4), (3, .int (0 : Int32)), (0, .ref a0), (1, .long a1)]) d_Ar_fill_JJ_4 (by decide) rfl ?_
  refine aw_sub (lo' := [(0, .ref a0), (1, .long a1), (3, .int (0 : Int32)), (4, .int v4)]) [2, 3, 1, 0] rfl ?_
  refine tl_Ar_fill_JJ_6 _ _ _ _ ha0 (fun v3_6x δ6x => ?_) FU _ _
  · exact aw_vret rfl rfl ⟨Nat.le_refl _, Nat.le_refl _⟩ d_Ar_fill_JJ_22
def f_Fa_tell (a1 : Int32) (a2 : Int64) (δ : Dm) : Option Dm := (if a1 < 0 then (some δ) else (if (9 : Int32) ≤ a1 then (some δ) else (if inb a1 9 then bnd (sL δ 20 (ix a1) a2) (fun δ_19 => (some δ_19)) else none)))
set_option maxHeartbeats 4000000 in
set_option maxRecDepth 100000 in
theorem m_Fa_tell {a1 : Int32} {a2 : Int64} {δ : Dm} {n : Nat} : ∀ x, f_Fa_tell a1 a2 δ = some x → AMet k_Fa_tell 1 0 0 [.ref 19, .int a1, .long a2] δ RT n (Kv RT n x) := by
  refine aw_start (lo := [(0, .ref 19), (1, .int a1), (2, .long a2)]) mok_Fa_tell rfl (Nat.le_of_ble_eq_true rfl) ?_
  unfold f_Fa_tell
  refine aw_iload_n d_Fa_tell_0 1 rfl ?_
  refine aw_if_lt (tgt := 20) d_Fa_tell_1 rfl (fun q1 => ?_) (fun q1 => ?_)
  · exact aw_vret rfl rfl ⟨Nat.le_refl _, Nat.le_refl _⟩ d_Fa_tell_20
  · refine aw_iload_n d_Fa_tell_4 1 rfl ?_
    refine aw_aload_n d_Fa_tell_5 0 rfl ?_
    refine aw_getR (t := 20) fl_Fa_9 kd_19 rt_19_0 d_Fa_tell_6 ?_
    refine aw_alen (v := (9 : Int32)) kd_20 ⟨by decide, by decide⟩ (by decide) d_Fa_tell_9 ?_
    refine aw_icmp_ge (tgt := 20) d_Fa_tell_10 rfl (fun q10 => ?_) (fun q10 => ?_)
    · exact aw_vret rfl rfl ⟨Nat.le_refl _, Nat.le_refl _⟩ d_Fa_tell_20
    · refine aw_aload_n d_Fa_tell_13 0 rfl ?_
      refine aw_getR (t := 20) fl_Fa_9 kd_19 rt_19_0 d_Fa_tell_14 ?_
      refine aw_iload_n d_Fa_tell_17 1 rfl ?_
      refine aw_lload_n d_Fa_tell_18 2 rfl ?_
      refine aw_last kd_20 d_Fa_tell_19 ?_
      refine aw_bD (fun δ_19 => ?_)
      exact aw_vret rfl rfl ⟨Nat.le_refl _, Nat.le_refl _⟩ d_Fa_tell_20
def f_Fa_open (a2 : Nat) (a3 : Int32) (δ : Dm) : Option Dm := ((f_Ar_fill_JJ 20 (0 : Int64) δ).bind (fun y5 => ((f_Fa_tell (8 : Int32) (((gI y5 a2 0)).toInt64) y5).bind (fun y16 => ((f_Fp_get 31 (gI y16 a2 0) y16).bind (fun y29 => ((f_Fa_tell (2 : Int32) ((y29).toInt64) y16).bind (fun y33 => ((f_Fa_tell (4 : Int32) ((a3).toInt64) y33).bind (fun y40 => ((f_Fp_get 30 a3 y40).bind (fun y50 => ((f_Fa_tell (3 : Int32) ((y50).toInt64) y40).bind (fun y54 => (some y54)))))))))))))))
set_option maxHeartbeats 4000000 in
set_option maxRecDepth 100000 in
theorem m_Fa_open {a2 : Nat} {a3 : Int32} {δ : Dm} {n : Nat} (ha2 : isB a2 = true) : ∀ x, f_Fa_open a2 a3 δ = some x → AMet k_Fa_open 2 0 0 [.ref 19, .ref 29, .ref a2, .int a3] δ RT n (Kv RT n x) := by
  refine aw_start (lo := [(0, .ref 19), (1, .ref 29), (2, .ref a2), (3, .int a3)]) mok_Fa_open rfl (Nat.le_of_ble_eq_true rfl) ?_
  unfold f_Fa_open
  refine aw_aload_n d_Fa_open_0 0 rfl ?_
  refine aw_getR (t := 20) fl_Fa_9 kd_19 rt_19_0 d_Fa_open_1 ?_
  refine aw_lconst d_Fa_open_4 kl_0 ?_
  refine aw_S_v (As := [.ref 20, .long (0 : Int64)]) (m_Ar_fill_JJ (congrArg Prod.fst kd_20)) cs_Fa_20 rfl rfl (Nat.le_of_ble_eq_true rfl) ⟨Nat.le_of_ble_eq_true rfl, Nat.le_of_ble_eq_true rfl⟩ ⟨Nat.le_refl _, Nat.le_refl _⟩ d_Fa_open_5 (fun y5 => ?_)
  refine aw_aload_n d_Fa_open_8 0 rfl ?_
  refine aw_bipush d_Fa_open_9 kb_8 ?_
  refine aw_aload_n d_Fa_open_11 2 rfl ?_
  refine aw_getI fl_Fa_26 (fx_isBK ha2 0 (by decide)) d_Fa_open_12 ?_
  refine aw_i2l d_Fa_open_15 ?_
  refine aw_V_v (As := [.int (8 : Int32), .long (((gI y5 a2 0)).toInt64)]) (m_Fa_tell) cv_Fa_32 kd_19 rfl rfl rfl (Nat.le_of_ble_eq_true rfl) ⟨Nat.le_of_ble_eq_true rfl, Nat.le_of_ble_eq_true rfl⟩ ⟨Nat.le_refl _, Nat.le_refl _⟩ d_Fa_open_16 (fun y16 => ?_)
  refine aw_aload_n d_Fa_open_19 0 rfl ?_
  refine aw_iconst d_Fa_open_20 ki_2 ?_
  refine aw_aload_n d_Fa_open_21 1 rfl ?_
  refine aw_getR (t := 31) fl_Fa_36 kd_29 rt_29_4 d_Fa_open_22 ?_
  refine aw_aload_n d_Fa_open_25 2 rfl ?_
  refine aw_getI fl_Fa_26 (fx_isBK ha2 0 (by decide)) d_Fa_open_26 ?_
  refine aw_SN_p (As := [.ref 31, .int (gI y16 a2 0)]) (m_Fp_get (congrArg Prod.fst kd_31)) cs_Fa_42 rfl rfl (Nat.le_of_ble_eq_true rfl) ⟨Nat.le_of_ble_eq_true rfl, Nat.le_of_ble_eq_true rfl⟩ ⟨Nat.le_refl _, Nat.le_refl _⟩ d_Fa_open_29 (fun y29 => ?_)
  refine aw_i2l d_Fa_open_32 ?_
  refine aw_V_v (As := [.int (2 : Int32), .long ((y29).toInt64)]) (m_Fa_tell) cv_Fa_32 kd_19 rfl rfl rfl (Nat.le_of_ble_eq_true rfl) ⟨Nat.le_of_ble_eq_true rfl, Nat.le_of_ble_eq_true rfl⟩ ⟨Nat.le_refl _, Nat.le_refl _⟩ d_Fa_open_33 (fun y33 => ?_)
  refine aw_aload_n d_Fa_open_36 0 rfl ?_
  refine aw_iconst d_Fa_open_37 ki_4 ?_
  refine aw_iload_n d_Fa_open_38 3 rfl ?_
  refine aw_i2l d_Fa_open_39 ?_
  refine aw_V_v (As := [.int (4 : Int32), .long ((a3).toInt64)]) (m_Fa_tell) cv_Fa_32 kd_19 rfl rfl rfl (Nat.le_of_ble_eq_true rfl) ⟨Nat.le_of_ble_eq_true rfl, Nat.le_of_ble_eq_true rfl⟩ ⟨Nat.le_refl _, Nat.le_refl _⟩ d_Fa_open_40 (fun y40 => ?_)
  refine aw_aload_n d_Fa_open_43 0 rfl ?_
  refine aw_iconst d_Fa_open_44 ki_3 ?_
  refine aw_aload_n d_Fa_open_45 1 rfl ?_
  refine aw_getR (t := 30) fl_Fa_48 kd_29 rt_29_3 d_Fa_open_46 ?_
  refine aw_iload_n d_Fa_open_49 3 rfl ?_
  refine aw_SN_p (As := [.ref 30, .int a3]) (m_Fp_get (congrArg Prod.fst kd_30)) cs_Fa_42 rfl rfl (Nat.le_of_ble_eq_true rfl) ⟨Nat.le_of_ble_eq_true rfl, Nat.le_of_ble_eq_true rfl⟩ ⟨Nat.le_refl _, Nat.le_refl _⟩ d_Fa_open_50 (fun y50 => ?_)
  refine aw_i2l d_Fa_open_53 ?_
  refine aw_V_v (As := [.int (3 : Int32), .long ((y50).toInt64)]) (m_Fa_tell) cv_Fa_32 kd_19 rfl rfl rfl (Nat.le_of_ble_eq_true rfl) ⟨Nat.le_of_ble_eq_true rfl, Nat.le_of_ble_eq_true rfl⟩ ⟨Nat.le_refl _, Nat.le_refl _⟩ d_Fa_open_54 (fun y54 => ?_)
  exact aw_vret rfl rfl ⟨Nat.le_refl _, Nat.le_refl _⟩ d_Fa_open_57
def f_Fa_pose (a1 : Int32) (a2 : Int32) (δ : Dm) : Option Dm := ((f_Fa_tell (0 : Int32) ((a1).toInt64) δ).bind (fun y4 => ((f_Fa_tell (1 : Int32) ((a2).toInt64) y4).bind (fun y11 => (some y11)))))
set_option maxHeartbeats 4000000 in
set_option maxRecDepth 100000 in
theorem m_Fa_pose {a1 : Int32} {a2 : Int32} {δ : Dm} {n : Nat} : ∀ x, f_Fa_pose a1 a2 δ = some x → AMet k_Fa_pose 2 0 0 [.ref 19, .int a1, .int a2] δ RT n (Kv RT n x) := by
  refine aw_start (lo := [(0, .ref 19), (1, .int a1), (2, .int a2)]) mok_Fa_pose rfl (Nat.le_of_ble_eq_true rfl) ?_
  unfold f_Fa_pose
  refine aw_aload_n d_Fa_pose_0 0 rfl ?_
  refine aw_iconst d_Fa_pose_1 ki_0 ?_
  refine aw_iload_n d_Fa_pose_2 1 rfl ?_
  refine aw_i2l d_Fa_pose_3 ?_
  refine aw_V_v (As := [.int (0 : Int32), .long ((a1).toInt64)]) (m_Fa_tell) cv_Fa_32 kd_19 rfl rfl rfl (Nat.le_of_ble_eq_true rfl) ⟨Nat.le_of_ble_eq_true rfl, Nat.le_of_ble_eq_true rfl⟩ ⟨Nat.le_refl _, Nat.le_refl _⟩ d_Fa_pose_4 (fun y4 => ?_)
  refine aw_aload_n d_Fa_pose_7 0 rfl ?_
  refine aw_iconst d_Fa_pose_8 ki_1 ?_
  refine aw_iload_n d_Fa_pose_9 2 rfl ?_
  refine aw_i2l d_Fa_pose_10 ?_
  refine aw_V_v (As := [.int (1 : Int32), .long ((a2).toInt64)]) (m_Fa_tell) cv_Fa_32 kd_19 rfl rfl rfl (Nat.le_of_ble_eq_true rfl) ⟨Nat.le_of_ble_eq_true rfl, Nat.le_of_ble_eq_true rfl⟩ ⟨Nat.le_refl _, Nat.le_refl _⟩ d_Fa_pose_11 (fun y11 => ?_)
  exact aw_vret rfl rfl ⟨Nat.le_refl _, Nat.le_refl _⟩ d_Fa_pose_14
def f_Fa_till (a1 : Int32) (a2 : Int32) (δ : Dm) : Option Dm := ((f_Fa_tell (6 : Int32) ((a1).toInt64) δ).bind (fun y5 => ((f_Fa_tell (7 : Int32) ((a2).toInt64) y5).bind (fun y13 => (some y13)))))
set_option maxHeartbeats 4000000 in
set_option maxRecDepth 100000 in
theorem m_Fa_till {a1 : Int32} {a2 : Int32} {δ : Dm} {n : Nat} : ∀ x, f_Fa_till a1 a2 δ = some x → AMet k_Fa_till 2 0 0 [.ref 19, .int a1, .int a2] δ RT n (Kv RT n x) := by
  refine aw_start (lo := [(0, .ref 19), (1, .int a1), (2, .int a2)]) mok_Fa_till rfl (Nat.le_of_ble_eq_true rfl) ?_
  unfold f_Fa_till
  refine aw_aload_n d_Fa_till_0 0 rfl ?_
  refine aw_bipush d_Fa_till_1 kb_6 ?_
  refine aw_iload_n d_Fa_till_3 1 rfl ?_
  refine aw_i2l d_Fa_till_4 ?_
  refine aw_V_v (As := [.int (6 : Int32), .long ((a1).toInt64)]) (m_Fa_tell) cv_Fa_32 kd_19 rfl rfl rfl (Nat.le_of_ble_eq_true rfl) ⟨Nat.le_of_ble_eq_true rfl, Nat.le_of_ble_eq_true rfl⟩ ⟨Nat.le_refl _, Nat.le_refl _⟩ d_Fa_till_5 (fun y5 => ?_)
  refine aw_aload_n d_Fa_till_8 0 rfl ?_
  refine aw_bipush d_Fa_till_9 kb_7 ?_
  refine aw_iload_n d_Fa_till_11 2 rfl ?_
  refine aw_i2l d_Fa_till_12 ?_
  refine aw_V_v (As := [.int (7 : Int32), .long ((a2).toInt64)]) (m_Fa_tell) cv_Fa_32 kd_19 rfl rfl rfl (Nat.le_of_ble_eq_true rfl) ⟨Nat.le_of_ble_eq_true rfl, Nat.le_of_ble_eq_true rfl⟩ ⟨Nat.le_refl _, Nat.le_refl _⟩ d_Fa_till_13 (fun y13 => ?_)
  exact aw_vret rfl rfl ⟨Nat.le_refl _, Nat.le_refl _⟩ d_Fa_till_16
def f_La_isWeak (a0 : Nat) (a1 : Int32) (a2 : Int32) (δ : Dm) : Option Int32 := ((f_Fp_get (a0 + 6) a1 δ).bind (fun y6 => (if y6 ≤ a2 then (some (0 : Int32)) else (some (1 : Int32)))))
set_option maxHeartbeats 4000000 in
set_option maxRecDepth 100000 in
theorem m_La_isWeak {a0 : Nat} {a1 : Int32} {a2 : Int32} {δ : Dm} {n : Nat} (ha0 : isL a0 = true) : ∀ x, f_La_isWeak a0 a1 a2 δ = some x → AMet k_La_isWeak 2 0 0 [.ref a0, .int a1, .int a2] δ RT n (Kp δ RT n x) := by
  refine aw_start (lo := [(0, .ref a0), (1, .int a1), (2, .int a2)]) mok_La_isWeak rfl (Nat.le_of_ble_eq_true rfl) ?_
  unfold f_La_isWeak
  refine aw_iload_n d_La_isWeak_0 2 rfl ?_
  refine aw_aload_n d_La_isWeak_1 0 rfl ?_
  refine aw_getR (t := (a0 + 6)) fl_La_27 (fx_isLK ha0 0 (by decide)) (fx_isLR ha0 0 7 (by decide) (by decide)) d_La_isWeak_2 ?_
  refine aw_iload_n d_La_isWeak_5 1 rfl ?_
  refine aw_SN_p (As := [.ref (a0 + 6), .int a1]) (m_Fp_get (congrArg Prod.fst (fx_isLK ha0 6 (by decide)))) cs_La_50 rfl rfl (Nat.le_of_ble_eq_true rfl) ⟨Nat.le_of_ble_eq_true rfl, Nat.le_of_ble_eq_true rfl⟩ ⟨Nat.le_refl _, Nat.le_refl _⟩ d_La_isWeak_6 (fun y6 => ?_)
  refine aw_icmp_ge (tgt := 16) d_La_isWeak_9 rfl (fun q9 => ?_) (fun q9 => ?_)
  · refine aw_iconst d_La_isWeak_16 ki_0 ?_
    exact aw_zret rfl rfl rfl ⟨Nat.le_refl _, Nat.le_refl _⟩ d_La_isWeak_17
  · refine aw_iconst d_La_isWeak_12 ki_1 ?_
    refine aw_goto (tgt := 17) d_La_isWeak_13 rfl ?_
    exact aw_zret rfl rfl rfl ⟨Nat.le_refl _, Nat.le_refl _⟩ d_La_isWeak_17
def f_Fa_push (a1 : Int32) (a2 : Int64) (δ : Dm) : Option (Int32 × Dm) := (if a1 < 0 then (some (a1, δ)) else (if a1 < (60 : Int32) then (if inb a1 60 then bnd (sL δ 21 (ix a1) a2) (fun δ_21 => (some ((a1 + (1 : Int32)), δ_21))) else none) else (some (a1, δ))))
set_option maxHeartbeats 4000000 in
set_option maxRecDepth 100000 in
theorem m_Fa_push {a1 : Int32} {a2 : Int64} {δ : Dm} {n : Nat} : ∀ x, f_Fa_push a1 a2 δ = some x → AMet k_Fa_push 1 0 0 [.ref 19, .int a1, .long a2] δ RT n (Km RT n x) := by
  refine aw_start (lo := [(0, .ref 19), (1, .int a1), (2, .long a2)]) mok_Fa_push rfl (Nat.le_of_ble_eq_true rfl) ?_
  unfold f_Fa_push
  refine aw_iload_n d_Fa_push_0 1 rfl ?_
  refine aw_if_lt (tgt := 13) d_Fa_push_1 rfl (fun q1 => ?_) (fun q1 => ?_)
  · refine aw_iload_n d_Fa_push_13 1 rfl ?_
    exact aw_iret rfl rfl ⟨Nat.le_refl _, Nat.le_refl _⟩ d_Fa_push_14
  · refine aw_iload_n d_Fa_push_4 1 rfl ?_
    refine aw_aload_n d_Fa_push_5 0 rfl ?_
    refine aw_getR (t := 21) fl_Fa_17 kd_19 rt_19_1 d_Fa_push_6 ?_
    refine aw_alen (v := (60 : Int32)) kd_21 ⟨by decide, by decide⟩ (by decide) d_Fa_push_9 ?_
    refine aw_icmp_lt (tgt := 15) d_Fa_push_10 rfl (fun q10 => ?_) (fun q10 => ?_)
    · refine aw_aload_n d_Fa_push_15 0 rfl ?_
      refine aw_getR (t := 21) fl_Fa_17 kd_19 rt_19_1 d_Fa_push_16 ?_
      refine aw_iload_n d_Fa_push_19 1 rfl ?_
      refine aw_lload_n d_Fa_push_20 2 rfl ?_
      refine aw_last kd_21 d_Fa_push_21 ?_
      refine aw_bD (fun δ_21 => ?_)
      refine aw_iload_n d_Fa_push_22 1 rfl ?_
      refine aw_iconst d_Fa_push_23 ki_1 ?_
      refine aw_iadd d_Fa_push_24 ?_
      exact aw_iret rfl rfl ⟨Nat.le_refl _, Nat.le_refl _⟩ d_Fa_push_25
    · refine aw_iload_n d_Fa_push_13 1 rfl ?_
      exact aw_iret rfl rfl ⟨Nat.le_refl _, Nat.le_refl _⟩ d_Fa_push_14
def f_Fa_meaning (a1 : Int32) (δ : Dm) : Option Int64 := (if a1 < 0 then (some (0 : Int64)) else (if (9 : Int32) ≤ a1 then (some (0 : Int64)) else (if inb a1 9 then (some (gL δ 20 (ix a1))) else none)))
set_option maxHeartbeats 4000000 in
set_option maxRecDepth 100000 in
theorem m_Fa_meaning {a1 : Int32} {δ : Dm} {n : Nat} : ∀ x, f_Fa_meaning a1 δ = some x → AMet k_Fa_meaning 1 0 0 [.ref 19, .int a1] δ RT n (Kl δ RT n x) := by
  refine aw_start (lo := [(0, .ref 19), (1, .int a1)]) mok_Fa_meaning rfl (Nat.le_of_ble_eq_true rfl) ?_
  unfold f_Fa_meaning
  refine aw_iload_n d_Fa_meaning_0 1 rfl ?_
  refine aw_if_lt (tgt := 22) d_Fa_meaning_1 rfl (fun q1 => ?_) (fun q1 => ?_)
  · refine aw_lconst d_Fa_meaning_22 kl_0 ?_
    exact aw_lret rfl rfl ⟨Nat.le_refl _, Nat.le_refl _⟩ d_Fa_meaning_23
  · refine aw_iload_n d_Fa_meaning_4 1 rfl ?_
    refine aw_aload_n d_Fa_meaning_5 0 rfl ?_
    refine aw_getR (t := 20) fl_Fa_9 kd_19 rt_19_0 d_Fa_meaning_6 ?_
    refine aw_alen (v := (9 : Int32)) kd_20 ⟨by decide, by decide⟩ (by decide) d_Fa_meaning_9 ?_
    refine aw_icmp_ge (tgt := 22) d_Fa_meaning_10 rfl (fun q10 => ?_) (fun q10 => ?_)
    · refine aw_lconst d_Fa_meaning_22 kl_0 ?_
      exact aw_lret rfl rfl ⟨Nat.le_refl _, Nat.le_refl _⟩ d_Fa_meaning_23
    · refine aw_aload_n d_Fa_meaning_13 0 rfl ?_
      refine aw_getR (t := 20) fl_Fa_9 kd_19 rt_19_0 d_Fa_meaning_14 ?_
      refine aw_iload_n d_Fa_meaning_17 1 rfl ?_
      refine aw_lald kd_20 d_Fa_meaning_18 ?_
      refine aw_goto (tgt := 23) d_Fa_meaning_19 rfl ?_
      exact aw_lret rfl rfl ⟨Nat.le_refl _, Nat.le_refl _⟩ d_Fa_meaning_23
def f_Fa_flip (a1 : Int32) (δ : Dm) : Option Dm := (if a1 < (1 : Int32) then (some δ) else (if (60 : Int32) < a1 then (some δ) else (if inb (a1 - (1 : Int32)) 60 then (if inb (a1 - (1 : Int32)) 60 then bnd (sL δ 21 (ix (a1 - (1 : Int32))) ((1 : Int64) - (gL δ 21 (ix (a1 - (1 : Int32)))))) (fun δ_31 => (some δ_31)) else none) else none)))
set_option maxHeartbeats 4000000 in
set_option maxRecDepth 100000 in
theorem m_Fa_flip {a1 : Int32} {δ : Dm} {n : Nat} : ∀ x, f_Fa_flip a1 δ = some x → AMet k_Fa_flip 1 0 0 [.ref 19, .int a1] δ RT n (Kv RT n x) := by
  refine aw_start (lo := [(0, .ref 19), (1, .int a1)]) mok_Fa_flip rfl (Nat.le_of_ble_eq_true rfl) ?_
  unfold f_Fa_flip
  refine aw_iload_n d_Fa_flip_0 1 rfl ?_
  refine aw_iconst d_Fa_flip_1 ki_1 ?_
  refine aw_icmp_lt (tgt := 32) d_Fa_flip_2 rfl (fun q2 => ?_) (fun q2 => ?_)
  · exact aw_vret rfl rfl ⟨Nat.le_refl _, Nat.le_refl _⟩ d_Fa_flip_32
  · refine aw_iload_n d_Fa_flip_5 1 rfl ?_
    refine aw_aload_n d_Fa_flip_6 0 rfl ?_
    refine aw_getR (t := 21) fl_Fa_17 kd_19 rt_19_1 d_Fa_flip_7 ?_
    refine aw_alen (v := (60 : Int32)) kd_21 ⟨by decide, by decide⟩ (by decide) d_Fa_flip_10 ?_
    refine aw_icmp_gt (tgt := 32) d_Fa_flip_11 rfl (fun q11 => ?_) (fun q11 => ?_)
    · exact aw_vret rfl rfl ⟨Nat.le_refl _, Nat.le_refl _⟩ d_Fa_flip_32
    · refine aw_aload_n d_Fa_flip_14 0 rfl ?_
      refine aw_getR (t := 21) fl_Fa_17 kd_19 rt_19_1 d_Fa_flip_15 ?_
      refine aw_iload_n d_Fa_flip_18 1 rfl ?_
      refine aw_iconst d_Fa_flip_19 ki_1 ?_
      refine aw_isub d_Fa_flip_20 ?_
      refine aw_lconst d_Fa_flip_21 kl_1 ?_
      refine aw_aload_n d_Fa_flip_22 0 rfl ?_
      refine aw_getR (t := 21) fl_Fa_17 kd_19 rt_19_1 d_Fa_flip_23 ?_
      refine aw_iload_n d_Fa_flip_26 1 rfl ?_
      refine aw_iconst d_Fa_flip_27 ki_1 ?_
      refine aw_isub d_Fa_flip_28 ?_
      refine aw_lald kd_21 d_Fa_flip_29 ?_
      refine aw_lsub d_Fa_flip_30 ?_
      refine aw_last kd_21 d_Fa_flip_31 ?_
      refine aw_bD (fun δ_31 => ?_)
      exact aw_vret rfl rfl ⟨Nat.le_refl _, Nat.le_refl _⟩ d_Fa_flip_32
def jp_Fa_join_254 (a1 : Int32) (a2 : Int32) (v24 : Int64) (v33 : Int64) (δ : Dm) (v7_254 : Int64) : Option (Int32 × Dm) := (if inb (a1 - (2 : Int32)) 60 then bnd (sL δ 21 (ix (a1 - (2 : Int32))) v7_254) (fun δ_263 => (some ((a1 - (1 : Int32)), δ_263))) else none)
set_option maxHeartbeats 4000000 in
set_option maxRecDepth 100000 in
theorem tj_Fa_join_254 {n : Nat} (a1 : Int32) (a2 : Int32) (v24 : Int64) (v33 : Int64) (δ : Dm) (v7_254 : Int64) : AWo k_Fa_join 1 0 0 254 [(0, .ref 19), (1, .int a1), (2, .int a2), (3, .long v24), (5, .long v33), (7, .long v7_254)] [] δ RT n 0 0 (Km RT n) (jp_Fa_join_254 a1 a2 v24 v33 δ v7_254) := by
  unfold jp_Fa_join_254
  refine aw_aload_n d_Fa_join_254 0 rfl ?_
  refine aw_getR (t := 21) fl_Fa_17 kd_19 rt_19_1 d_Fa_join_255 ?_
  refine aw_iload_n d_Fa_join_258 1 rfl ?_
  refine aw_iconst d_Fa_join_259 ki_2 ?_
  refine aw_isub d_Fa_join_260 ?_
  refine aw_lload d_Fa_join_261 5 rfl ?_
  refine aw_last kd_21 d_Fa_join_263 ?_
  refine aw_bD (fun δ_263 => ?_)
  refine aw_iload_n d_Fa_join_264 1 rfl ?_
  refine aw_iconst d_Fa_join_265 ki_1 ?_
  refine aw_isub d_Fa_join_266 ?_
  exact aw_iret rfl rfl ⟨Nat.le_refl _, Nat.le_refl _⟩ d_Fa_join_267
def jp_Fa_join_231 (a1 : Int32) (a2 : Int32) (v24 : Int64) (v33 : Int64) (δ : Dm) (s0_231 : Int64) : Option (Int32 × Dm) := (jp_Fa_join_254 a1 a2 v24 v33 δ s0_231)
set_option maxHeartbeats 4000000 in
set_option maxRecDepth 100000 in
theorem tj_Fa_join_231 {n : Nat} (a1 : Int32) (a2 : Int32) (v24 : Int64) (v33 : Int64) (δ : Dm) (s0_231 : Int64) : AWo k_Fa_join 1 0 0 231 [(0, .ref 19), (1, .int a1), (2, .int a2), (3, .long v24), (5, .long v33), (7, .long (0 : Int64))] [.long s0_231] δ RT n 0 0 (Km RT n) (jp_Fa_join_231 a1 a2 v24 v33 δ s0_231) := by
  unfold jp_Fa_join_231
  refine aw_lstore (lo' := [(7, .long s0_231), (0, .ref 19), (1, .int a1), (2, .int a2), (3, .long v24), (5, .long v33)]) d_Fa_join_231 (by decide) rfl ?_
  refine aw_goto (tgt := 254) d_Fa_join_233 rfl ?_
  refine aw_sub (lo' := [(0, .ref 19), (1, .int a1), (2, .int a2), (3, .long v24), (5, .long v33), (7, .long s0_231)]) [1, 2, 3, 4, 5, 0] rfl ?_
  exact tj_Fa_join_254 _ _ _ _ _ _
def jp_Fa_join_214 (a1 : Int32) (a2 : Int32) (v24 : Int64) (v33 : Int64) (δ : Dm) (s0_214 : Int64) : Option (Int32 × Dm) := (jp_Fa_join_254 a1 a2 v24 v33 δ s0_214)
set_option maxHeartbeats 4000000 in
set_option maxRecDepth 100000 in
theorem tj_Fa_join_214 {n : Nat} (a1 : Int32) (a2 : Int32) (v24 : Int64) (v33 : Int64) (δ : Dm) (s0_214 : Int64) : AWo k_Fa_join 1 0 0 214 [(0, .ref 19), (1, .int a1), (2, .int a2), (3, .long v24), (5, .long v33), (7, .long (0 : Int64))] [.long s0_214] δ RT n 0 0 (Km RT n) (jp_Fa_join_214 a1 a2 v24 v33 δ s0_214) := by
  unfold jp_Fa_join_214
  refine aw_lstore (lo' := [(7, .long s0_214), (0, .ref 19), (1, .int a1), (2, .int a2), (3, .long v24), (5, .long v33)]) d_Fa_join_214 (by decide) rfl ?_
  refine aw_goto (tgt := 254) d_Fa_join_216 rfl ?_
  refine aw_sub (lo' := [(0, .ref 19), (1, .int a1), (2, .int a2), (3, .long v24), (5, .long v33), (7, .long s0_214)]) [1, 2, 3, 4, 5, 0] rfl ?_
  exact tj_Fa_join_254 _ _ _ _ _ _
def jp_Fa_join_197 (a1 : Int32) (a2 : Int32) (v24 : Int64) (v33 : Int64) (δ : Dm) (s0_197 : Int64) : Option (Int32 × Dm) := (jp_Fa_join_254 a1 a2 v24 v33 δ s0_197)
set_option maxHeartbeats 4000000 in
set_option maxRecDepth 100000 in
theorem tj_Fa_join_197 {n : Nat} (a1 : Int32) (a2 : Int32) (v24 : Int64) (v33 : Int64) (δ : Dm) (s0_197 : Int64) : AWo k_Fa_join 1 0 0 197 [(0, .ref 19), (1, .int a1), (2, .int a2), (3, .long v24), (5, .long v33), (7, .long (0 : Int64))] [.long s0_197] δ RT n 0 0 (Km RT n) (jp_Fa_join_197 a1 a2 v24 v33 δ s0_197) := by
  unfold jp_Fa_join_197
  refine aw_lstore (lo' := [(7, .long s0_197), (0, .ref 19), (1, .int a1), (2, .int a2), (3, .long v24), (5, .long v33)]) d_Fa_join_197 (by decide) rfl ?_
  refine aw_goto (tgt := 254) d_Fa_join_199 rfl ?_
  refine aw_sub (lo' := [(0, .ref 19), (1, .int a1), (2, .int a2), (3, .long v24), (5, .long v33), (7, .long s0_197)]) [1, 2, 3, 4, 5, 0] rfl ?_
  exact tj_Fa_join_254 _ _ _ _ _ _
def jp_Fa_join_180 (a1 : Int32) (a2 : Int32) (v24 : Int64) (v33 : Int64) (δ : Dm) (s0_180 : Int64) : Option (Int32 × Dm) := (jp_Fa_join_254 a1 a2 v24 v33 δ s0_180)
set_option maxHeartbeats 4000000 in
set_option maxRecDepth 100000 in
theorem tj_Fa_join_180 {n : Nat} (a1 : Int32) (a2 : Int32) (v24 : Int64) (v33 : Int64) (δ : Dm) (s0_180 : Int64) : AWo k_Fa_join 1 0 0 180 [(0, .ref 19), (1, .int a1), (2, .int a2), (3, .long v24), (5, .long v33), (7, .long (0 : Int64))] [.long s0_180] δ RT n 0 0 (Km RT n) (jp_Fa_join_180 a1 a2 v24 v33 δ s0_180) := by
  unfold jp_Fa_join_180
  refine aw_lstore (lo' := [(7, .long s0_180), (0, .ref 19), (1, .int a1), (2, .int a2), (3, .long v24), (5, .long v33)]) d_Fa_join_180 (by decide) rfl ?_
  refine aw_goto (tgt := 254) d_Fa_join_182 rfl ?_
  refine aw_sub (lo' := [(0, .ref 19), (1, .int a1), (2, .int a2), (3, .long v24), (5, .long v33), (7, .long s0_180)]) [1, 2, 3, 4, 5, 0] rfl ?_
  exact tj_Fa_join_254 _ _ _ _ _ _
def jp_Fa_join_163 (a1 : Int32) (a2 : Int32) (v24 : Int64) (v33 : Int64) (δ : Dm) (s0_163 : Int64) : Option (Int32 × Dm) := (jp_Fa_join_254 a1 a2 v24 v33 δ s0_163)
set_option maxHeartbeats 4000000 in
set_option maxRecDepth 100000 in
theorem tj_Fa_join_163 {n : Nat} (a1 : Int32) (a2 : Int32) (v24 : Int64) (v33 : Int64) (δ : Dm) (s0_163 : Int64) : AWo k_Fa_join 1 0 0 163 [(0, .ref 19), (1, .int a1), (2, .int a2), (3, .long v24), (5, .long v33), (7, .long (0 : Int64))] [.long s0_163] δ RT n 0 0 (Km RT n) (jp_Fa_join_163 a1 a2 v24 v33 δ s0_163) := by
  unfold jp_Fa_join_163
  refine aw_lstore (lo' := [(7, .long s0_163), (0, .ref 19), (1, .int a1), (2, .int a2), (3, .long v24), (5, .long v33)]) d_Fa_join_163 (by decide) rfl ?_
  refine aw_goto (tgt := 254) d_Fa_join_165 rfl ?_
  refine aw_sub (lo' := [(0, .ref 19), (1, .int a1), (2, .int a2), (3, .long v24), (5, .long v33), (7, .long s0_163)]) [1, 2, 3, 4, 5, 0] rfl ?_
  exact tj_Fa_join_254 _ _ _ _ _ _
def jp_Fa_join_146 (a1 : Int32) (a2 : Int32) (v24 : Int64) (v33 : Int64) (δ : Dm) (s0_146 : Int64) : Option (Int32 × Dm) := (jp_Fa_join_254 a1 a2 v24 v33 δ s0_146)
set_option maxHeartbeats 4000000 in
set_option maxRecDepth 100000 in
theorem tj_Fa_join_146 {n : Nat} (a1 : Int32) (a2 : Int32) (v24 : Int64) (v33 : Int64) (δ : Dm) (s0_146 : Int64) : AWo k_Fa_join 1 0 0 146 [(0, .ref 19), (1, .int a1), (2, .int a2), (3, .long v24), (5, .long v33), (7, .long (0 : Int64))] [.long s0_146] δ RT n 0 0 (Km RT n) (jp_Fa_join_146 a1 a2 v24 v33 δ s0_146) := by
  unfold jp_Fa_join_146
  refine aw_lstore (lo' := [(7, .long s0_146), (0, .ref 19), (1, .int a1), (2, .int a2), (3, .long v24), (5, .long v33)]) d_Fa_join_146 (by decide) rfl ?_
  refine aw_goto (tgt := 254) d_Fa_join_148 rfl ?_
  refine aw_sub (lo' := [(0, .ref 19), (1, .int a1), (2, .int a2), (3, .long v24), (5, .long v33), (7, .long s0_146)]) [1, 2, 3, 4, 5, 0] rfl ?_
  exact tj_Fa_join_254 _ _ _ _ _ _
def f_Fa_join (a1 : Int32) (a2 : Int32) (δ : Dm) : Option (Int32 × Dm) := (if a1 < (2 : Int32) then (some (a1, δ)) else (if a1 ≤ (60 : Int32) then (if inb (a1 - (2 : Int32)) 60 then (bnd (gL δ 21 (ix (a1 - (2 : Int32)))) (fun v24 => (if inb (a1 - (1 : Int32)) 60 then (bnd (gL δ 21 (ix (a1 - (1 : Int32)))) (fun v33 => (if (a2).toInt = (18 : Int) then (bnd (v24 ||| v33) (fun v249 => (jp_Fa_join_254 a1 a2 v24 v33 δ v249))) else (if (a2).toInt = (19 : Int) then (bnd (v24 &&& v33) (fun v240 => (jp_Fa_join_254 a1 a2 v24 v33 δ v240))) else (if (a2).toInt = (20 : Int) then (jp_Fa_join_254 a1 a2 v24 v33 δ (0 : Int64)) else (if (a2).toInt = (21 : Int) then (jp_Fa_join_254 a1 a2 v24 v33 δ (0 : Int64)) else (if (a2).toInt = (22 : Int) then (bnd (v24 + v33) (fun v108 => (jp_Fa_join_254 a1 a2 v24 v33 δ v108))) else (if (a2).toInt = (23 : Int) then (bnd (v24 - v33) (fun v117 => (jp_Fa_join_254 a1 a2 v24 v33 δ v117))) else (if (a2).toInt = (24 : Int) then (bnd (v24 * v33) (fun v126 => (jp_Fa_join_254 a1 a2 v24 v33 δ v126))) else (if (a2).toInt = (25 : Int) then (if (lg_cmp v33 (0 : Int64)) = 0 then (jp_Fa_join_146 a1 a2 v24 v33 δ (0 : Int64)) else (if v33 = 0 then none else (jp_Fa_join_146 a1 a2 v24 v33 δ (v24 / v33)))) else (if (a2).toInt = (26 : Int) then (if 0 ≤ (lg_cmp v24 v33) then (jp_Fa_join_163 a1 a2 v24 v33 δ (0 : Int64)) else (jp_Fa_join_163 a1 a2 v24 v33 δ (1 : Int64))) else (if (a2).toInt = (27 : Int) then (if 0 < (lg_cmp v24 v33) then (jp_Fa_join_180 a1 a2 v24 v33 δ (0 : Int64)) else (jp_Fa_join_180 a1 a2 v24 v33 δ (1 : Int64))) else (if (a2).toInt = (28 : Int) then (if (lg_cmp v24 v33) = 0 then (jp_Fa_join_197 a1 a2 v24 v33 δ (1 : Int64)) else (jp_Fa_join_197 a1 a2 v24 v33 δ (0 : Int64))) else (if (a2).toInt = (29 : Int) then (if (lg_cmp v24 v33) < 0 then (jp_Fa_join_214 a1 a2 v24 v33 δ (0 : Int64)) else (jp_Fa_join_214 a1 a2 v24 v33 δ (1 : Int64))) else (if (a2).toInt = (30 : Int) then (if (lg_cmp v24 v33) ≤ 0 then (jp_Fa_join_231 a1 a2 v24 v33 δ (0 : Int64)) else (jp_Fa_join_231 a1 a2 v24 v33 δ (1 : Int64))) else (jp_Fa_join_254 a1 a2 v24 v33 δ (0 : Int64))))))))))))))))) else none))) else none) else (some (a1, δ))))
set_option maxHeartbeats 4000000 in
set_option maxRecDepth 100000 in
theorem m_Fa_join {a1 : Int32} {a2 : Int32} {δ : Dm} {n : Nat} : ∀ x, f_Fa_join a1 a2 δ = some x → AMet k_Fa_join 1 0 0 [.ref 19, .int a1, .int a2] δ RT n (Km RT n x) := by
  refine aw_start (lo := [(0, .ref 19), (1, .int a1), (2, .int a2)]) mok_Fa_join rfl (Nat.le_of_ble_eq_true rfl) ?_
  unfold f_Fa_join
  refine aw_iload_n d_Fa_join_0 1 rfl ?_
  refine aw_iconst d_Fa_join_1 ki_2 ?_
  refine aw_icmp_lt (tgt := 14) d_Fa_join_2 rfl (fun q2 => ?_) (fun q2 => ?_)
  · refine aw_iload_n d_Fa_join_14 1 rfl ?_
    exact aw_iret rfl rfl ⟨Nat.le_refl _, Nat.le_refl _⟩ d_Fa_join_15
  · refine aw_iload_n d_Fa_join_5 1 rfl ?_
    refine aw_aload_n d_Fa_join_6 0 rfl ?_
    refine aw_getR (t := 21) fl_Fa_17 kd_19 rt_19_1 d_Fa_join_7 ?_
    refine aw_alen (v := (60 : Int32)) kd_21 ⟨by decide, by decide⟩ (by decide) d_Fa_join_10 ?_
    refine aw_icmp_le (tgt := 16) d_Fa_join_11 rfl (fun q11 => ?_) (fun q11 => ?_)
    · refine aw_aload_n d_Fa_join_16 0 rfl ?_
      refine aw_getR (t := 21) fl_Fa_17 kd_19 rt_19_1 d_Fa_join_17 ?_
      refine aw_iload_n d_Fa_join_20 1 rfl ?_
      refine aw_iconst d_Fa_join_21 ki_2 ?_
      refine aw_isub d_Fa_join_22 ?_
      refine aw_lald kd_21 d_Fa_join_23 ?_
      refine aw_bL (fun v24 => ?_)
      refine aw_lstore_n (lo' := [(3, .long v24), (0, .ref 19), (1, .int a1), (2, .int a2)]) d_Fa_join_24 rfl (by decide) rfl ?_
      refine aw_aload_n d_Fa_join_25 1 rfl ?_
      refine aw_getR (t := 21) fl_Fa_17 kd_19 rt_19_1 d_Fa_join_26 ?_
      refine aw_iload_n d_Fa_join_29 2 rfl ?_
      refine aw_iconst d_Fa_join_30 ki_1 ?_
      refine aw_isub d_Fa_join_31 ?_
      refine aw_lald kd_21 d_Fa_join_32 ?_
      refine aw_bL (fun v33 => ?_)
      refine aw_lstore (lo' := [(5, .long v33), (3, .long v24), (0, .ref 19), (1, .int a1), (2, .int a2)]) d_Fa_join_33 (by decide) rfl ?_
      refine aw_lconst d_Fa_join_35 kl_0 ?_
      refine aw_lstore (lo' := [(7, .long (0 : Int64)), (5, .long v33), (3, .long v24), (0, .ref 19), (1, .int a1), (2, .int a2)]) d_Fa_join_36 (by decide) rfl ?_
      refine aw_iload_n d_Fa_join_38 5 rfl ?_
      refine aw_ite (fun q39 => ?_) (fun q39_0 => ?_)
      · refine aw_tswitch (tgt := 245) d_Fa_join_39 q39 (by decide) (by decide) rfl rfl ?_
        refine aw_lload_n d_Fa_join_245 2 rfl ?_
        refine aw_lload d_Fa_join_246 1 rfl ?_
        refine aw_lor d_Fa_join_248 ?_
        refine aw_bL (fun v249 => ?_)
        refine aw_lstore (lo' := [(7, .long v249), (5, .long v33), (3, .long v24), (0, .ref 19), (1, .int a1), (2, .int a2)]) d_Fa_join_249 (by decide) rfl ?_
        refine aw_goto (tgt := 254) d_Fa_join_251 rfl ?_
        refine aw_sub (lo' := [(0, .ref 19), (1, .int a1), (2, .int a2), (3, .long v24), (5, .long v33), (7, .long v249)]) [3, 4, 5, 2, 1, 0] rfl ?_
        exact tj_Fa_join_254 _ _ _ _ _ _
      · refine aw_ite (fun q39 => ?_) (fun q39_1 => ?_)
        · refine aw_tswitch (tgt := 236) d_Fa_join_39 q39 (by decide) (by decide) rfl rfl ?_
          refine aw_lload_n d_Fa_join_236 2 rfl ?_
          refine aw_lload d_Fa_join_237 1 rfl ?_
          refine aw_land d_Fa_join_239 ?_
          refine aw_bL (fun v240 => ?_)
          refine aw_lstore (lo' := [(7, .long v240), (5, .long v33), (3, .long v24), (0, .ref 19), (1, .int a1), (2, .int a2)]) d_Fa_join_240 (by decide) rfl ?_
          refine aw_goto (tgt := 254) d_Fa_join_242 rfl ?_
          refine aw_sub (lo' := [(0, .ref 19), (1, .int a1), (2, .int a2), (3, .long v24), (5, .long v33), (7, .long v240)]) [3, 4, 5, 2, 1, 0] rfl ?_
          exact tj_Fa_join_254 _ _ _ _ _ _
        · refine aw_ite (fun q39 => ?_) (fun q39_2 => ?_)
          · refine aw_tswitch (tgt := 254) d_Fa_join_39 q39 (by decide) (by decide) rfl rfl ?_
            refine aw_sub (lo' := [(0, .ref 19), (1, .int a1), (2, .int a2), (3, .long v24), (5, .long v33), (7, .long (0 : Int64))]) [3, 4, 5, 2, 1, 0] rfl ?_
            exact tj_Fa_join_254 _ _ _ _ _ _
          · refine aw_ite (fun q39 => ?_) (fun q39_3 => ?_)
            · refine aw_tswitch (tgt := 254) d_Fa_join_39 q39 (by decide) (by decide) rfl rfl ?_
              refine aw_sub (lo' := [(0, .ref 19), (1, .int a1), (2, .int a2), (3, .long v24), (5, .long v33), (7, .long (0 : Int64))]) [3, 4, 5, 2, 1, 0] rfl ?_
              exact tj_Fa_join_254 _ _ _ _ _ _
            · refine aw_ite (fun q39 => ?_) (fun q39_4 => ?_)
              · refine aw_tswitch (tgt := 104) d_Fa_join_39 q39 (by decide) (by decide) rfl rfl ?_
                refine aw_lload_n d_Fa_join_104 2 rfl ?_
                refine aw_lload d_Fa_join_105 1 rfl ?_
                refine aw_ladd d_Fa_join_107 ?_
                refine aw_bL (fun v108 => ?_)
                refine aw_lstore (lo' := [(7, .long v108), (5, .long v33), (3, .long v24), (0, .ref 19), (1, .int a1), (2, .int a2)]) d_Fa_join_108 (by decide) rfl ?_
                refine aw_goto (tgt := 254) d_Fa_join_110 rfl ?_
                refine aw_sub (lo' := [(0, .ref 19), (1, .int a1), (2, .int a2), (3, .long v24), (5, .long v33), (7, .long v108)]) [3, 4, 5, 2, 1, 0] rfl ?_
                exact tj_Fa_join_254 _ _ _ _ _ _
              · refine aw_ite (fun q39 => ?_) (fun q39_5 => ?_)
                · refine aw_tswitch (tgt := 113) d_Fa_join_39 q39 (by decide) (by decide) rfl rfl ?_
                  refine aw_lload_n d_Fa_join_113 2 rfl ?_
                  refine aw_lload d_Fa_join_114 1 rfl ?_
                  refine aw_lsub d_Fa_join_116 ?_
                  refine aw_bL (fun v117 => ?_)
                  refine aw_lstore (lo' := [(7, .long v117), (5, .long v33), (3, .long v24), (0, .ref 19), (1, .int a1), (2, .int a2)]) d_Fa_join_117 (by decide) rfl ?_
                  refine aw_goto (tgt := 254) d_Fa_join_119 rfl ?_
                  refine aw_sub (lo' := [(0, .ref 19), (1, .int a1), (2, .int a2), (3, .long v24), (5, .long v33), (7, .long v117)]) [3, 4, 5, 2, 1, 0] rfl ?_
                  exact tj_Fa_join_254 _ _ _ _ _ _
                · refine aw_ite (fun q39 => ?_) (fun q39_6 => ?_)
                  · refine aw_tswitch (tgt := 122) d_Fa_join_39 q39 (by decide) (by decide) rfl rfl ?_
                    refine aw_lload_n d_Fa_join_122 2 rfl ?_
                    refine aw_lload d_Fa_join_123 1 rfl ?_
                    refine aw_lmul d_Fa_join_125 ?_
                    refine aw_bL (fun v126 => ?_)
                    refine aw_lstore (lo' := [(7, .long v126), (5, .long v33), (3, .long v24), (0, .ref 19), (1, .int a1), (2, .int a2)]) d_Fa_join_126 (by decide) rfl ?_
                    refine aw_goto (tgt := 254) d_Fa_join_128 rfl ?_
                    refine aw_sub (lo' := [(0, .ref 19), (1, .int a1), (2, .int a2), (3, .long v24), (5, .long v33), (7, .long v126)]) [3, 4, 5, 2, 1, 0] rfl ?_
                    exact tj_Fa_join_254 _ _ _ _ _ _
                  · refine aw_ite (fun q39 => ?_) (fun q39_7 => ?_)
                    · refine aw_tswitch (tgt := 131) d_Fa_join_39 q39 (by decide) (by decide) rfl rfl ?_
                      refine aw_lload d_Fa_join_131 1 rfl ?_
                      refine aw_lconst d_Fa_join_133 kl_0 ?_
                      refine aw_lcmp d_Fa_join_134 ?_
                      refine aw_if_ne (tgt := 142) d_Fa_join_135 rfl (fun q135 => ?_) (fun q135 => ?_)
                      · refine aw_lconst d_Fa_join_138 kl_0 ?_
                        refine aw_goto (tgt := 146) d_Fa_join_139 rfl ?_
                        refine aw_sub (lo' := [(0, .ref 19), (1, .int a1), (2, .int a2), (3, .long v24), (5, .long v33), (7, .long (0 : Int64))]) [3, 4, 5, 2, 1, 0] rfl ?_
                        exact tj_Fa_join_146 _ _ _ _ _ _
                      · refine aw_lload_n d_Fa_join_142 2 rfl ?_
                        refine aw_lload d_Fa_join_143 1 rfl ?_
                        refine aw_ldiv d_Fa_join_145 ?_
                        refine aw_sub (lo' := [(0, .ref 19), (1, .int a1), (2, .int a2), (3, .long v24), (5, .long v33), (7, .long (0 : Int64))]) [3, 4, 5, 2, 1, 0] rfl ?_
                        exact tj_Fa_join_146 _ _ _ _ _ _
                    · refine aw_ite (fun q39 => ?_) (fun q39_8 => ?_)
                      · refine aw_tswitch (tgt := 151) d_Fa_join_39 q39 (by decide) (by decide) rfl rfl ?_
                        refine aw_lload_n d_Fa_join_151 2 rfl ?_
                        refine aw_lload d_Fa_join_152 1 rfl ?_
                        refine aw_lcmp d_Fa_join_154 ?_
                        refine aw_if_ge (tgt := 162) d_Fa_join_155 rfl (fun q155 => ?_) (fun q155 => ?_)
                        · refine aw_lconst d_Fa_join_162 kl_0 ?_
                          refine aw_sub (lo' := [(0, .ref 19), (1, .int a1), (2, .int a2), (3, .long v24), (5, .long v33), (7, .long (0 : Int64))]) [3, 4, 5, 2, 1, 0] rfl ?_
                          exact tj_Fa_join_163 _ _ _ _ _ _
                        · refine aw_lconst d_Fa_join_158 kl_1 ?_
                          refine aw_goto (tgt := 163) d_Fa_join_159 rfl ?_
                          refine aw_sub (lo' := [(0, .ref 19), (1, .int a1), (2, .int a2), (3, .long v24), (5, .long v33), (7, .long (0 : Int64))]) [3, 4, 5, 2, 1, 0] rfl ?_
                          exact tj_Fa_join_163 _ _ _ _ _ _
                      · refine aw_ite (fun q39 => ?_) (fun q39_9 => ?_)
                        · refine aw_tswitch (tgt := 168) d_Fa_join_39 q39 (by decide) (by decide) rfl rfl ?_
                          refine aw_lload_n d_Fa_join_168 2 rfl ?_
                          refine aw_lload d_Fa_join_169 1 rfl ?_
                          refine aw_lcmp d_Fa_join_171 ?_
                          refine aw_if_gt (tgt := 179) d_Fa_join_172 rfl (fun q172 => ?_) (fun q172 => ?_)
                          · refine aw_lconst d_Fa_join_179 kl_0 ?_
                            refine aw_sub (lo' := [(0, .ref 19), (1, .int a1), (2, .int a2), (3, .long v24), (5, .long v33), (7, .long (0 : Int64))]) [3, 4, 5, 2, 1, 0] rfl ?_
                            exact tj_Fa_join_180 _ _ _ _ _ _
                          · refine aw_lconst d_Fa_join_175 kl_1 ?_
                            refine aw_goto (tgt := 180) d_Fa_join_176 rfl ?_
                            refine aw_sub (lo' := [(0, .ref 19), (1, .int a1), (2, .int a2), (3, .long v24), (5, .long v33), (7, .long (0 : Int64))]) [3, 4, 5, 2, 1, 0] rfl ?_
                            exact tj_Fa_join_180 _ _ _ _ _ _
                        · refine aw_ite (fun q39 => ?_) (fun q39_10 => ?_)
                          · refine aw_tswitch (tgt := 185) d_Fa_join_39 q39 (by decide) (by decide) rfl rfl ?_
                            refine aw_lload_n d_Fa_join_185 2 rfl ?_
                            refine aw_lload d_Fa_join_186 1 rfl ?_
                            refine aw_lcmp d_Fa_join_188 ?_
                            refine aw_if_ne (tgt := 196) d_Fa_join_189 rfl (fun q189 => ?_) (fun q189 => ?_)
                            · refine aw_lconst d_Fa_join_192 kl_1 ?_
                              refine aw_goto (tgt := 197) d_Fa_join_193 rfl ?_
                              refine aw_sub (lo' := [(0, .ref 19), (1, .int a1), (2, .int a2), (3, .long v24), (5, .long v33), (7, .long (0 : Int64))]) [3, 4, 5, 2, 1, 0] rfl ?_
                              exact tj_Fa_join_197 _ _ _ _ _ _
                            · refine aw_lconst d_Fa_join_196 kl_0 ?_
                              refine aw_sub (lo' := [(0, .ref 19), (1, .int a1), (2, .int a2), (3, .long v24), (5, .long v33), (7, .long (0 : Int64))]) [3, 4, 5, 2, 1, 0] rfl ?_
                              exact tj_Fa_join_197 _ _ _ _ _ _
                          · refine aw_ite (fun q39 => ?_) (fun q39_11 => ?_)
                            · refine aw_tswitch (tgt := 202) d_Fa_join_39 q39 (by decide) (by decide) rfl rfl ?_
                              refine aw_lload_n d_Fa_join_202 2 rfl ?_
                              refine aw_lload d_Fa_join_203 1 rfl ?_
                              refine aw_lcmp d_Fa_join_205 ?_
                              refine aw_if_lt (tgt := 213) d_Fa_join_206 rfl (fun q206 => ?_) (fun q206 => ?_)
                              · refine aw_lconst d_Fa_join_213 kl_0 ?_
                                refine aw_sub (lo' := [(0, .ref 19), (1, .int a1), (2, .int a2), (3, .long v24), (5, .long v33), (7, .long (0 : Int64))]) [3, 4, 5, 2, 1, 0] rfl ?_
                                exact tj_Fa_join_214 _ _ _ _ _ _
                              · refine aw_lconst d_Fa_join_209 kl_1 ?_
                                refine aw_goto (tgt := 214) d_Fa_join_210 rfl ?_
                                refine aw_sub (lo' := [(0, .ref 19), (1, .int a1), (2, .int a2), (3, .long v24), (5, .long v33), (7, .long (0 : Int64))]) [3, 4, 5, 2, 1, 0] rfl ?_
                                exact tj_Fa_join_214 _ _ _ _ _ _
                            · refine aw_ite (fun q39 => ?_) (fun q39_12 => ?_)
                              · refine aw_tswitch (tgt := 219) d_Fa_join_39 q39 (by decide) (by decide) rfl rfl ?_
                                refine aw_lload_n d_Fa_join_219 2 rfl ?_
                                refine aw_lload d_Fa_join_220 1 rfl ?_
                                refine aw_lcmp d_Fa_join_222 ?_
                                refine aw_if_le (tgt := 230) d_Fa_join_223 rfl (fun q223 => ?_) (fun q223 => ?_)
                                · refine aw_lconst d_Fa_join_230 kl_0 ?_
                                  refine aw_sub (lo' := [(0, .ref 19), (1, .int a1), (2, .int a2), (3, .long v24), (5, .long v33), (7, .long (0 : Int64))]) [3, 4, 5, 2, 1, 0] rfl ?_
                                  exact tj_Fa_join_231 _ _ _ _ _ _
                                · refine aw_lconst d_Fa_join_226 kl_1 ?_
                                  refine aw_goto (tgt := 231) d_Fa_join_227 rfl ?_
                                  refine aw_sub (lo' := [(0, .ref 19), (1, .int a1), (2, .int a2), (3, .long v24), (5, .long v33), (7, .long (0 : Int64))]) [3, 4, 5, 2, 1, 0] rfl ?_
                                  exact tj_Fa_join_231 _ _ _ _ _ _
                              · refine aw_tdflt (tgt := 254) d_Fa_join_39 (by omega) rfl ?_
                                refine aw_sub (lo' := [(0, .ref 19), (1, .int a1), (2, .int a2), (3, .long v24), (5, .long v33), (7, .long (0 : Int64))]) [3, 4, 5, 2, 1, 0] rfl ?_
                                exact tj_Fa_join_254 _ _ _ _ _ _
    · refine aw_iload_n d_Fa_join_14 1 rfl ?_
      exact aw_iret rfl rfl ⟨Nat.le_refl _, Nat.le_refl _⟩ d_Fa_join_15
def f_Fa_result (a1 : Int32) (δ : Dm) : Option Int64 := (if a1 < (1 : Int32) then (some (0 : Int64)) else (if (60 : Int32) < a1 then (some (0 : Int64)) else (if inb (a1 - (1 : Int32)) 60 then (some (gL δ 21 (ix (a1 - (1 : Int32))))) else none)))
set_option maxHeartbeats 4000000 in
set_option maxRecDepth 100000 in
theorem m_Fa_result {a1 : Int32} {δ : Dm} {n : Nat} : ∀ x, f_Fa_result a1 δ = some x → AMet k_Fa_result 1 0 0 [.ref 19, .int a1] δ RT n (Kl δ RT n x) := by
  refine aw_start (lo := [(0, .ref 19), (1, .int a1)]) mok_Fa_result rfl (Nat.le_of_ble_eq_true rfl) ?_
  unfold f_Fa_result
  refine aw_iload_n d_Fa_result_0 1 rfl ?_
  refine aw_iconst d_Fa_result_1 ki_1 ?_
  refine aw_icmp_lt (tgt := 25) d_Fa_result_2 rfl (fun q2 => ?_) (fun q2 => ?_)
  · refine aw_lconst d_Fa_result_25 kl_0 ?_
    exact aw_lret rfl rfl ⟨Nat.le_refl _, Nat.le_refl _⟩ d_Fa_result_26
  · refine aw_iload_n d_Fa_result_5 1 rfl ?_
    refine aw_aload_n d_Fa_result_6 0 rfl ?_
    refine aw_getR (t := 21) fl_Fa_17 kd_19 rt_19_1 d_Fa_result_7 ?_
    refine aw_alen (v := (60 : Int32)) kd_21 ⟨by decide, by decide⟩ (by decide) d_Fa_result_10 ?_
    refine aw_icmp_gt (tgt := 25) d_Fa_result_11 rfl (fun q11 => ?_) (fun q11 => ?_)
    · refine aw_lconst d_Fa_result_25 kl_0 ?_
      exact aw_lret rfl rfl ⟨Nat.le_refl _, Nat.le_refl _⟩ d_Fa_result_26
    · refine aw_aload_n d_Fa_result_14 0 rfl ?_
      refine aw_getR (t := 21) fl_Fa_17 kd_19 rt_19_1 d_Fa_result_15 ?_
      refine aw_iload_n d_Fa_result_18 1 rfl ?_
      refine aw_iconst d_Fa_result_19 ki_1 ?_
      refine aw_isub d_Fa_result_20 ?_
      refine aw_lald kd_21 d_Fa_result_21 ?_
      refine aw_goto (tgt := 26) d_Fa_result_22 rfl ?_
      exact aw_lret rfl rfl ⟨Nat.le_refl _, Nat.le_refl _⟩ d_Fa_result_26
end
