noncomputable section
def f_Mo_fails (a1 : Int32) (a2 : Int32) (δ : Dm) : Option (Int32 × Dm) := (if (gI δ 151 10) = 0 then (bnd (sI δ 151 10 (((1 : Int32) + ((8 : Int32) * a2)) + a1)) (fun δ_16 => (some ((0 : Int32), δ_16)))) else (some ((0 : Int32), δ)))
set_option maxHeartbeats 4000000 in
set_option maxRecDepth 100000 in
theorem m_Mo_fails {a1 : Int32} {a2 : Int32} {δ : Dm} {n : Nat} : ∀ x, f_Mo_fails a1 a2 δ = some x → AMet k_Mo_fails 1 0 0 [.ref 151, .int a1, .int a2] δ RT n (Km RT n x) := by
  refine aw_start (lo := [(0, .ref 151), (1, .int a1), (2, .int a2)]) mok_Mo_fails rfl (Nat.le_of_ble_eq_true rfl) ?_
  unfold f_Mo_fails
  refine aw_aload_n d_Mo_fails_0 0 rfl ?_
  refine aw_getI fl_Mo_87 kd_151 d_Mo_fails_1 ?_
  refine aw_if_ne (tgt := 19) d_Mo_fails_4 rfl (fun q4 => ?_) (fun q4 => ?_)
  · refine aw_aload_n d_Mo_fails_7 0 rfl ?_
    refine aw_iconst d_Mo_fails_8 ki_1 ?_
    refine aw_bipush d_Mo_fails_9 kb_8 ?_
    refine aw_iload_n d_Mo_fails_11 2 rfl ?_
    refine aw_imul d_Mo_fails_12 ?_
    refine aw_iadd d_Mo_fails_13 ?_
    refine aw_iload_n d_Mo_fails_14 1 rfl ?_
    refine aw_iadd d_Mo_fails_15 ?_
    refine aw_putI pf_Mo_87 kd_151 d_Mo_fails_16 ?_
    refine aw_bD (fun δ_16 => ?_)
    refine aw_iconst d_Mo_fails_19 ki_0 ?_
    exact aw_zret rfl rfl rfl ⟨Nat.le_refl _, Nat.le_refl _⟩ d_Mo_fails_20
  · refine aw_iconst d_Mo_fails_19 ki_0 ?_
    exact aw_zret rfl rfl rfl ⟨Nat.le_refl _, Nat.le_refl _⟩ d_Mo_fails_20
def lp_Mo_passWord_0 (kx0_24 : Dm → Option Dm) : Nat → Dm → Option Dm
  | 0, _ => none
  | f + 1, δ0 => ((f_Mo_isLetter (gI δ0 151 9) δ0).bind (fun y5 => (if y5 = 0 then (kx0_24 δ0) else (bnd (sI δ0 151 9 ((gI δ0 151 9) + (1 : Int32))) (fun δ_18 => (lp_Mo_passWord_0 kx0_24 f δ_18))))))
set_option maxHeartbeats 4000000 in
set_option maxRecDepth 100000 in
theorem tl_Mo_passWord_0 {n : Nat} (kx0_24 : Dm → Option Dm) (hkx0_24 : ∀ δ0k, AWo k_Mo_passWord 2 0 0 24 [(0, .ref 151)] [] δ0k RT n 0 0 (Kv RT n) (kx0_24 δ0k)) : ∀ (f : Nat) (δ0 : Dm), AWo k_Mo_passWord 2 0 0 0 [(0, .ref 151)] [] δ0 RT n 0 0 (Kv RT n) (lp_Mo_passWord_0 kx0_24 f δ0) := by
  intro f
  induction f with
  | zero => intro _; exact aw_none
  | succ f ih =>
    intro δ0
    rw [lp_Mo_passWord_0]
    refine aw_aload_n d_Mo_passWord_0 0 rfl ?_
    refine aw_aload_n d_Mo_passWord_1 0 rfl ?_
    refine aw_getI fl_Mo_90 kd_151 d_Mo_passWord_2 ?_
    refine aw_V_p (As := [.int (gI δ0 151 9)]) (m_Mo_isLetter) cv_Mo_97 kd_151 rfl rfl rfl (Nat.le_of_ble_eq_true rfl) ⟨Nat.le_of_ble_eq_true rfl, Nat.le_of_ble_eq_true rfl⟩ ⟨Nat.le_refl _, Nat.le_refl _⟩ d_Mo_passWord_5 (fun y5 => ?_)
    refine aw_if_eq (tgt := 24) d_Mo_passWord_8 rfl (fun q8 => ?_) (fun q8 => ?_)
    · refine aw_sub (lo' := [(0, .ref 151)]) [0] rfl ?_
      exact hkx0_24 _
    · refine aw_aload_n d_Mo_passWord_11 0 rfl ?_
      refine aw_dup d_Mo_passWord_12 rfl ?_
      refine aw_getI fl_Mo_90 kd_151 d_Mo_passWord_13 ?_
      refine aw_iconst d_Mo_passWord_16 ki_1 ?_
      refine aw_iadd d_Mo_passWord_17 ?_
      refine aw_putI pf_Mo_90 kd_151 d_Mo_passWord_18 ?_
      refine aw_bD (fun δ_18 => ?_)
      refine aw_goto (tgt := 0) d_Mo_passWord_21 rfl ?_
      refine aw_sub (lo' := [(0, .ref 151)]) [0] rfl ?_
      exact ih _
def f_Mo_passWord (δ : Dm) : Option Dm := (lp_Mo_passWord_0 (fun δ0x => (some δ0x)) FU δ)
set_option maxHeartbeats 4000000 in
set_option maxRecDepth 100000 in
theorem m_Mo_passWord {δ : Dm} {n : Nat} : ∀ x, f_Mo_passWord δ = some x → AMet k_Mo_passWord 2 0 0 [.ref 151] δ RT n (Kv RT n x) := by
  refine aw_start (lo := [(0, .ref 151)]) mok_Mo_passWord rfl (Nat.le_of_ble_eq_true rfl) ?_
  unfold f_Mo_passWord
  refine aw_sub (lo' := [(0, .ref 151)]) [0] rfl ?_
  refine tl_Mo_passWord_0 _ (fun δ0x => ?_) FU _
  · exact aw_vret rfl rfl ⟨Nat.le_refl _, Nat.le_refl _⟩ d_Mo_passWord_24
def f_Mo_isDigit (a1 : Int32) (δ : Dm) : Option Int32 := (if (gI δ 151 2) ≤ a1 then (some (0 : Int32)) else (if inb a1 400 then (if (gI δ 153 (ix a1)) < (48 : Int32) then (some (0 : Int32)) else (if inb a1 400 then (if (57 : Int32) < (gI δ 153 (ix a1)) then (some (0 : Int32)) else (some (1 : Int32))) else none)) else none))
set_option maxHeartbeats 4000000 in
set_option maxRecDepth 100000 in
theorem m_Mo_isDigit {a1 : Int32} {δ : Dm} {n : Nat} : ∀ x, f_Mo_isDigit a1 δ = some x → AMet k_Mo_isDigit 1 0 0 [.ref 151, .int a1] δ RT n (Kp δ RT n x) := by
  refine aw_start (lo := [(0, .ref 151), (1, .int a1)]) mok_Mo_isDigit rfl (Nat.le_of_ble_eq_true rfl) ?_
  unfold f_Mo_isDigit
  refine aw_iload_n d_Mo_isDigit_0 1 rfl ?_
  refine aw_aload_n d_Mo_isDigit_1 0 rfl ?_
  refine aw_getI fl_Mo_79 kd_151 d_Mo_isDigit_2 ?_
  refine aw_icmp_ge (tgt := 34) d_Mo_isDigit_5 rfl (fun q5 => ?_) (fun q5 => ?_)
  · refine aw_iconst d_Mo_isDigit_34 ki_0 ?_
    exact aw_zret rfl rfl rfl ⟨Nat.le_refl _, Nat.le_refl _⟩ d_Mo_isDigit_35
  · refine aw_aload_n d_Mo_isDigit_8 0 rfl ?_
    refine aw_getR (t := 153) fl_Mo_13 kd_151 rt_151_1 d_Mo_isDigit_9 ?_
    refine aw_iload_n d_Mo_isDigit_12 1 rfl ?_
    refine aw_bald kd_153 d_Mo_isDigit_13 ?_
    refine aw_bipush d_Mo_isDigit_14 kb_48 ?_
    refine aw_icmp_lt (tgt := 34) d_Mo_isDigit_16 rfl (fun q16 => ?_) (fun q16 => ?_)
    · refine aw_iconst d_Mo_isDigit_34 ki_0 ?_
      exact aw_zret rfl rfl rfl ⟨Nat.le_refl _, Nat.le_refl _⟩ d_Mo_isDigit_35
    · refine aw_aload_n d_Mo_isDigit_19 0 rfl ?_
      refine aw_getR (t := 153) fl_Mo_13 kd_151 rt_151_1 d_Mo_isDigit_20 ?_
      refine aw_iload_n d_Mo_isDigit_23 1 rfl ?_
      refine aw_bald kd_153 d_Mo_isDigit_24 ?_
      refine aw_bipush d_Mo_isDigit_25 kb_57 ?_
      refine aw_icmp_gt (tgt := 34) d_Mo_isDigit_27 rfl (fun q27 => ?_) (fun q27 => ?_)
      · refine aw_iconst d_Mo_isDigit_34 ki_0 ?_
        exact aw_zret rfl rfl rfl ⟨Nat.le_refl _, Nat.le_refl _⟩ d_Mo_isDigit_35
      · refine aw_iconst d_Mo_isDigit_30 ki_1 ?_
        refine aw_goto (tgt := 35) d_Mo_isDigit_31 rfl ?_
        exact aw_zret rfl rfl rfl ⟨Nat.le_refl _, Nat.le_refl _⟩ d_Mo_isDigit_35
def jp_Mo_number_114 (a1 : Int32) (v30 : Int32) (v3_33x : Int32) (δ114 : Dm) : Option (Int32 × Dm) := (some ((1 : Int32), δ114))
set_option maxHeartbeats 4000000 in
set_option maxRecDepth 100000 in
theorem tj_Mo_number_114 {n : Nat} (a1 : Int32) (v30 : Int32) (v3_33x : Int32) (δ114 : Dm) : AWo k_Mo_number 2 0 0 114 [(0, .ref 151), (1, .int a1), (2, .int v30), (3, .int v3_33x)] [] δ114 RT n 0 0 (Km RT n) (jp_Mo_number_114 a1 v30 v3_33x δ114) := by
  unfold jp_Mo_number_114
  refine aw_iconst d_Mo_number_114 ki_1 ?_
  refine aw_goto (tgt := 119) d_Mo_number_115 rfl ?_
  exact aw_zret rfl rfl rfl ⟨Nat.le_refl _, Nat.le_refl _⟩ d_Mo_number_119
def jp_Mo_number_105 (a1 : Int32) (v30 : Int32) (v3_33x : Int32) (δ_87 : Dm) : Option (Int32 × Dm) := ((f_Mo_fails (1 : Int32) v30 δ_87).bind (fun y108 => bnd y108.1 (fun v108 => bnd y108.2 (fun δ_108 => (if v108 = 0 then (some ((0 : Int32), δ_108)) else (jp_Mo_number_114 a1 v30 v3_33x δ_108))))))
set_option maxHeartbeats 4000000 in
set_option maxRecDepth 100000 in
theorem tj_Mo_number_105 {n : Nat} (a1 : Int32) (v30 : Int32) (v3_33x : Int32) (δ_87 : Dm) : AWo k_Mo_number 2 0 0 105 [(0, .ref 151), (1, .int a1), (2, .int v30), (3, .int v3_33x)] [] δ_87 RT n 0 0 (Km RT n) (jp_Mo_number_105 a1 v30 v3_33x δ_87) := by
  unfold jp_Mo_number_105
  refine aw_aload_n d_Mo_number_105 0 rfl ?_
  refine aw_iconst d_Mo_number_106 ki_1 ?_
  refine aw_iload_n d_Mo_number_107 2 rfl ?_
  refine aw_V_m (As := [.int (1 : Int32), .int v30]) (m_Mo_fails) cv_Mo_110 kd_151 rfl rfl rfl (Nat.le_of_ble_eq_true rfl) ⟨Nat.le_of_ble_eq_true rfl, Nat.le_of_ble_eq_true rfl⟩ ⟨Nat.le_refl _, Nat.le_refl _⟩ d_Mo_number_108 (fun y108 => ?_)
  refine aw_bI (fun v108 => ?_)
  refine aw_bD (fun δ_108 => ?_)
  refine aw_if_eq (tgt := 118) d_Mo_number_111 rfl (fun q111 => ?_) (fun q111 => ?_)
  · refine aw_iconst d_Mo_number_118 ki_0 ?_
    exact aw_zret rfl rfl rfl ⟨Nat.le_refl _, Nat.le_refl _⟩ d_Mo_number_119
  · refine aw_sub (lo' := [(0, .ref 151), (1, .int a1), (2, .int v30), (3, .int v3_33x)]) [0, 1, 2, 3] rfl ?_
    exact tj_Mo_number_114 _ _ _ _
def jp_Mo_number_72 (kr33 : Int32 → Dm → Option (Int32 × Dm)) (kx33_85 : Int32 → Dm → Option (Int32 × Dm)) (a1 : Int32) (v30 : Int32) (δ33 : Dm) (v3_72 : Int32) : Option (Int32 × Dm) := (bnd (sI δ33 151 9 ((gI δ33 151 9) + (1 : Int32))) (fun δ_79 => (kr33 v3_72 δ_79)))
set_option maxHeartbeats 4000000 in
set_option maxRecDepth 100000 in
theorem tj_Mo_number_72 {n : Nat} (kr33 : Int32 → Dm → Option (Int32 × Dm)) (kx33_85 : Int32 → Dm → Option (Int32 × Dm)) (a1 : Int32) (v30 : Int32) (δ33 : Dm) (v3_72 : Int32) (hkr33 : ∀ v3_33k δ33k, AWo k_Mo_number 2 0 0 33 [(0, .ref 151), (1, .int a1), (2, .int v30), (3, .int v3_33k)] [] δ33k RT n 0 0 (Km RT n) (kr33 v3_33k δ33k)) (hkx33_85 : ∀ v3_33k δ33k, AWo k_Mo_number 2 0 0 85 [(0, .ref 151), (1, .int a1), (2, .int v30), (3, .int v3_33k)] [] δ33k RT n 0 0 (Km RT n) (kx33_85 v3_33k δ33k)) : AWo k_Mo_number 2 0 0 72 [(0, .ref 151), (1, .int a1), (2, .int v30), (3, .int v3_72)] [] δ33 RT n 0 0 (Km RT n) (jp_Mo_number_72 kr33 kx33_85 a1 v30 δ33 v3_72) := by
  unfold jp_Mo_number_72
  refine aw_aload_n d_Mo_number_72 0 rfl ?_
  refine aw_dup d_Mo_number_73 rfl ?_
  refine aw_getI fl_Mo_90 kd_151 d_Mo_number_74 ?_
  refine aw_iconst d_Mo_number_77 ki_1 ?_
  refine aw_iadd d_Mo_number_78 ?_
  refine aw_putI pf_Mo_90 kd_151 d_Mo_number_79 ?_
  refine aw_bD (fun δ_79 => ?_)
  refine aw_goto (tgt := 33) d_Mo_number_82 rfl ?_
  refine aw_sub (lo' := [(0, .ref 151), (1, .int a1), (2, .int v30), (3, .int v3_72)]) [0, 1, 2, 3] rfl ?_
  exact hkr33 _ _
def lp_Mo_number_33 (kx33_85 : Int32 → Dm → Option (Int32 × Dm)) (a1 : Int32) (v30 : Int32) : Nat → Int32 → Dm → Option (Int32 × Dm)
  | 0, _, _ => none
  | f + 1, v3_33, δ33 => ((f_Mo_isDigit (gI δ33 151 9) δ33).bind (fun y38 => (if y38 = 0 then (kx33_85 v3_33 δ33) else (if (5 : Int32) ≤ ((gI δ33 151 9) - v30) then (jp_Mo_number_72 (lp_Mo_number_33 kx33_85 a1 v30 f) kx33_85 a1 v30 δ33 v3_33) else (if inb (gI δ33 151 9) 400 then (bnd ((((10 : Int32) * v3_33) + (gI δ33 153 (ix (gI δ33 151 9)))) - (48 : Int32)) (fun v71 => (jp_Mo_number_72 (lp_Mo_number_33 kx33_85 a1 v30 f) kx33_85 a1 v30 δ33 v71))) else none)))))
set_option maxHeartbeats 4000000 in
set_option maxRecDepth 100000 in
theorem tl_Mo_number_33 {n : Nat} (kx33_85 : Int32 → Dm → Option (Int32 × Dm)) (a1 : Int32) (v30 : Int32) (hkx33_85 : ∀ v3_33k δ33k, AWo k_Mo_number 2 0 0 85 [(0, .ref 151), (1, .int a1), (2, .int v30), (3, .int v3_33k)] [] δ33k RT n 0 0 (Km RT n) (kx33_85 v3_33k δ33k)) : ∀ (f : Nat) (v3_33 : Int32) (δ33 : Dm), AWo k_Mo_number 2 0 0 33 [(0, .ref 151), (1, .int a1), (2, .int v30), (3, .int v3_33)] [] δ33 RT n 0 0 (Km RT n) (lp_Mo_number_33 kx33_85 a1 v30 f v3_33 δ33) := by
  intro f
  induction f with
  | zero => intro _ _; exact aw_none
  | succ f ih =>
    intro v3_33 δ33
    rw [lp_Mo_number_33]
    refine aw_aload_n d_Mo_number_33 0 rfl ?_
    refine aw_aload_n d_Mo_number_34 0 rfl ?_
    refine aw_getI fl_Mo_90 kd_151 d_Mo_number_35 ?_
    refine aw_V_p (As := [.int (gI δ33 151 9)]) (m_Mo_isDigit) cv_Mo_107 kd_151 rfl rfl rfl (Nat.le_of_ble_eq_true rfl) ⟨Nat.le_of_ble_eq_true rfl, Nat.le_of_ble_eq_true rfl⟩ ⟨Nat.le_refl _, Nat.le_refl _⟩ d_Mo_number_38 (fun y38 => ?_)
    refine aw_if_eq (tgt := 85) d_Mo_number_41 rfl (fun q41 => ?_) (fun q41 => ?_)
    · refine aw_sub (lo' := [(0, .ref 151), (1, .int a1), (2, .int v30), (3, .int v3_33)]) [0, 1, 2, 3] rfl ?_
      exact hkx33_85 _ _
    · refine aw_aload_n d_Mo_number_44 0 rfl ?_
      refine aw_getI fl_Mo_90 kd_151 d_Mo_number_45 ?_
      refine aw_iload_n d_Mo_number_48 2 rfl ?_
      refine aw_isub d_Mo_number_49 ?_
      refine aw_iconst d_Mo_number_50 ki_5 ?_
      refine aw_icmp_ge (tgt := 72) d_Mo_number_51 rfl (fun q51 => ?_) (fun q51 => ?_)
      · refine aw_sub (lo' := [(0, .ref 151), (1, .int a1), (2, .int v30), (3, .int v3_33)]) [0, 1, 2, 3] rfl ?_
        exact tj_Mo_number_72 _ _ _ _ _ _ ih hkx33_85
      · refine aw_bipush d_Mo_number_54 kb_10 ?_
        refine aw_iload_n d_Mo_number_56 3 rfl ?_
        refine aw_imul d_Mo_number_57 ?_
        refine aw_aload_n d_Mo_number_58 0 rfl ?_
        refine aw_getR (t := 153) fl_Mo_13 kd_151 rt_151_1 d_Mo_number_59 ?_
        refine aw_aload_n d_Mo_number_62 0 rfl ?_
        refine aw_getI fl_Mo_90 kd_151 d_Mo_number_63 ?_
        refine aw_bald kd_153 d_Mo_number_66 ?_
        refine aw_iadd d_Mo_number_67 ?_
        refine aw_bipush d_Mo_number_68 kb_48 ?_
        refine aw_isub d_Mo_number_70 ?_
        refine aw_bI (fun v71 => ?_)
        refine aw_istore_n (lo' := [(3, .int v71), (0, .ref 151), (1, .int a1), (2, .int v30)]) d_Mo_number_71 rfl (by decide) rfl ?_
        refine aw_sub (lo' := [(0, .ref 151), (1, .int a1), (2, .int v30), (3, .int v71)]) [1, 2, 3, 0] rfl ?_
        exact tj_Mo_number_72 _ _ _ _ _ _ ih hkx33_85
def f_Mo_number (a1 : Int32) (δ : Dm) : Option (Int32 × Dm) := ((f_Mo_see δ).bind (fun y1 => bnd y1.1 (fun v1 => bnd y1.2 (fun δ_1 => ((f_Mo_isDigit (gI δ_1 151 9) δ_1).bind (fun y10 => (if y10 = 0 then ((f_Mo_fails (0 : Int32) (gI δ_1 151 9) δ_1).bind (fun y22 => bnd y22.1 (fun v22 => bnd y22.2 (fun δ_22 => (if v22 = 0 ∨ v22 = 1 then (some (v22, δ_22)) else none))))) else (bnd (gI δ_1 151 9) (fun v30 => (lp_Mo_number_33 (fun v3_33x δ33x => (bnd (sI δ33x 151 11 v3_33x) (fun δ_87 => (if (5 : Int32) < ((gI δ_87 151 9) - v30) then (jp_Mo_number_105 a1 v30 v3_33x δ_87) else (if v3_33x ≤ a1 then (jp_Mo_number_114 a1 v30 v3_33x δ_87) else (jp_Mo_number_105 a1 v30 v3_33x δ_87)))))) a1 v30 FU (0 : Int32) δ_1))))))))))
set_option maxHeartbeats 4000000 in
set_option maxRecDepth 100000 in
theorem m_Mo_number {a1 : Int32} {δ : Dm} {n : Nat} : ∀ x, f_Mo_number a1 δ = some x → AMet k_Mo_number 2 0 0 [.ref 151, .int a1] δ RT n (Km RT n x) := by
  refine aw_start (lo := [(0, .ref 151), (1, .int a1)]) mok_Mo_number rfl (Nat.le_of_ble_eq_true rfl) ?_
  unfold f_Mo_number
  refine aw_aload_n d_Mo_number_0 0 rfl ?_
  refine aw_V_m (As := []) (m_Mo_see) cv_Mo_93 kd_151 rfl rfl rfl (Nat.le_of_ble_eq_true rfl) ⟨Nat.le_of_ble_eq_true rfl, Nat.le_of_ble_eq_true rfl⟩ ⟨Nat.le_refl _, Nat.le_refl _⟩ d_Mo_number_1 (fun y1 => ?_)
  refine aw_bI (fun v1 => ?_)
  refine aw_bD (fun δ_1 => ?_)
  refine aw_pop d_Mo_number_4 rfl ?_
  refine aw_aload_n d_Mo_number_5 0 rfl ?_
  refine aw_aload_n d_Mo_number_6 0 rfl ?_
  refine aw_getI fl_Mo_90 kd_151 d_Mo_number_7 ?_
  refine aw_V_p (As := [.int (gI δ_1 151 9)]) (m_Mo_isDigit) cv_Mo_107 kd_151 rfl rfl rfl (Nat.le_of_ble_eq_true rfl) ⟨Nat.le_of_ble_eq_true rfl, Nat.le_of_ble_eq_true rfl⟩ ⟨Nat.le_refl _, Nat.le_refl _⟩ d_Mo_number_10 (fun y10 => ?_)
  refine aw_if_ne (tgt := 26) d_Mo_number_13 rfl (fun q13 => ?_) (fun q13 => ?_)
  · refine aw_aload_n d_Mo_number_16 0 rfl ?_
    refine aw_iconst d_Mo_number_17 ki_0 ?_
    refine aw_aload_n d_Mo_number_18 0 rfl ?_
    refine aw_getI fl_Mo_90 kd_151 d_Mo_number_19 ?_
    refine aw_V_m (As := [.int (0 : Int32), .int (gI δ_1 151 9)]) (m_Mo_fails) cv_Mo_110 kd_151 rfl rfl rfl (Nat.le_of_ble_eq_true rfl) ⟨Nat.le_of_ble_eq_true rfl, Nat.le_of_ble_eq_true rfl⟩ ⟨Nat.le_refl _, Nat.le_refl _⟩ d_Mo_number_22 (fun y22 => ?_)
    refine aw_bI (fun v22 => ?_)
    refine aw_bD (fun δ_22 => ?_)
    exact aw_zr2 rfl rfl ⟨Nat.le_refl _, Nat.le_refl _⟩ d_Mo_number_25
  · refine aw_aload_n d_Mo_number_26 0 rfl ?_
    refine aw_getI fl_Mo_90 kd_151 d_Mo_number_27 ?_
    refine aw_bI (fun v30 => ?_)
    refine aw_istore_n (lo' := [(2, .int v30), (0, .ref 151), (1, .int a1)]) d_Mo_number_30 rfl (by decide) rfl ?_
    refine aw_iconst d_Mo_number_31 ki_0 ?_
    refine aw_istore_n (lo' := [(3, .int (0 : Int32)), (2, .int v30), (0, .ref 151), (1, .int a1)]) d_Mo_number_32 rfl (by decide) rfl ?_
    refine aw_sub (lo' := [(0, .ref 151), (1, .int a1), (2, .int v30), (3, .int (0 : Int32))]) [2, 3, 1, 0] rfl ?_
    refine tl_Mo_number_33 _ _ _ (fun v3_33x δ33x => ?_) FU _ _
    · refine aw_aload_n d_Mo_number_85 0 rfl ?_
      refine aw_iload_n d_Mo_number_86 3 rfl ?_
      refine aw_putI pf_Mo_114 kd_151 d_Mo_number_87 ?_
      refine aw_bD (fun δ_87 => ?_)
      refine aw_aload_n d_Mo_number_90 0 rfl ?_
      refine aw_getI fl_Mo_90 kd_151 d_Mo_number_91 ?_
      refine aw_iload_n d_Mo_number_94 2 rfl ?_
      refine aw_isub d_Mo_number_95 ?_
      refine aw_iconst d_Mo_number_96 ki_5 ?_
      refine aw_icmp_gt (tgt := 105) d_Mo_number_97 rfl (fun q97 => ?_) (fun q97 => ?_)
      · refine aw_sub (lo' := [(0, .ref 151), (1, .int a1), (2, .int v30), (3, .int v3_33x)]) [0, 1, 2, 3] rfl ?_
        exact tj_Mo_number_105 _ _ _ _
      · refine aw_iload_n d_Mo_number_100 3 rfl ?_
        refine aw_iload_n d_Mo_number_101 1 rfl ?_
        refine aw_icmp_le (tgt := 114) d_Mo_number_102 rfl (fun q102 => ?_) (fun q102 => ?_)
        · refine aw_sub (lo' := [(0, .ref 151), (1, .int a1), (2, .int v30), (3, .int v3_33x)]) [0, 1, 2, 3] rfl ?_
          exact tj_Mo_number_114 _ _ _ _
        · refine aw_sub (lo' := [(0, .ref 151), (1, .int a1), (2, .int v30), (3, .int v3_33x)]) [0, 1, 2, 3] rfl ?_
          exact tj_Mo_number_105 _ _ _ _
def f_Mo_weakHere (δ : Dm) : Option (Int32 × Dm) := ((f_Mo_passWord δ).bind (fun y1 => ((f_Mo_see y1).bind (fun y5 => bnd y5.1 (fun v5 => bnd y5.2 (fun δ_5 => (bnd (gI δ_5 151 9) (fun v13 => ((f_Mo_number (2 : Int32) δ_5).bind (fun y16 => bnd y16.1 (fun v16 => bnd y16.2 (fun δ_16 => (if v16 = 0 then (some ((0 : Int32), δ_16)) else (bnd (((3 : Int32) * (gI δ_16 151 12)) + (gI δ_16 151 11)) (fun v35 => (if inb v35 24 then (if (gI δ_16 158 (ix v35)) < 0 then ((f_Mo_number (999 : Int32) δ_16).bind (fun y56 => bnd y56.1 (fun v56 => bnd y56.2 (fun δ_56 => (if v56 = 0 then (some ((0 : Int32), δ_56)) else (if inb v35 24 then bnd (sI δ_56 158 (ix v35) (gI δ_56 151 11)) (fun δ_73 => (some ((1 : Int32), δ_73))) else none)))))) else ((f_Mo_fails (4 : Int32) v13 δ_16).bind (fun y48 => bnd y48.1 (fun v48 => bnd y48.2 (fun δ_48 => (if v48 = 0 ∨ v48 = 1 then (some (v48, δ_48)) else none)))))) else none))))))))))))))))
set_option maxHeartbeats 4000000 in
set_option maxRecDepth 100000 in
theorem m_Mo_weakHere {δ : Dm} {n : Nat} : ∀ x, f_Mo_weakHere δ = some x → AMet k_Mo_weakHere 3 0 0 [.ref 151] δ RT n (Km RT n x) := by
  refine aw_start (lo := [(0, .ref 151)]) mok_Mo_weakHere rfl (Nat.le_of_ble_eq_true rfl) ?_
  unfold f_Mo_weakHere
  refine aw_aload_n d_Mo_weakHere_0 0 rfl ?_
  refine aw_V_v (As := []) (m_Mo_passWord) cv_Mo_104 kd_151 rfl rfl rfl (Nat.le_of_ble_eq_true rfl) ⟨Nat.le_of_ble_eq_true rfl, Nat.le_of_ble_eq_true rfl⟩ ⟨Nat.le_refl _, Nat.le_refl _⟩ d_Mo_weakHere_1 (fun y1 => ?_)
  refine aw_aload_n d_Mo_weakHere_4 0 rfl ?_
  refine aw_V_m (As := []) (m_Mo_see) cv_Mo_93 kd_151 rfl rfl rfl (Nat.le_of_ble_eq_true rfl) ⟨Nat.le_of_ble_eq_true rfl, Nat.le_of_ble_eq_true rfl⟩ ⟨Nat.le_refl _, Nat.le_refl _⟩ d_Mo_weakHere_5 (fun y5 => ?_)
  refine aw_bI (fun v5 => ?_)
  refine aw_bD (fun δ_5 => ?_)
  refine aw_pop d_Mo_weakHere_8 rfl ?_
  refine aw_aload_n d_Mo_weakHere_9 0 rfl ?_
  refine aw_getI fl_Mo_90 kd_151 d_Mo_weakHere_10 ?_
  refine aw_bI (fun v13 => ?_)
  refine aw_istore_n (lo' := [(1, .int v13), (0, .ref 151)]) d_Mo_weakHere_13 rfl (by decide) rfl ?_
  refine aw_aload_n d_Mo_weakHere_14 1 rfl ?_
  refine aw_iconst d_Mo_weakHere_15 ki_2 ?_
  refine aw_V_m (As := [.int (2 : Int32)]) (m_Mo_number) cv_Mo_156 kd_151 rfl rfl rfl (Nat.le_of_ble_eq_true rfl) ⟨Nat.le_of_ble_eq_true rfl, Nat.le_of_ble_eq_true rfl⟩ ⟨Nat.le_refl _, Nat.le_refl _⟩ d_Mo_weakHere_16 (fun y16 => ?_)
  refine aw_bI (fun v16 => ?_)
  refine aw_bD (fun δ_16 => ?_)
  refine aw_if_ne (tgt := 24) d_Mo_weakHere_19 rfl (fun q19 => ?_) (fun q19 => ?_)
  · refine aw_iconst d_Mo_weakHere_22 ki_0 ?_
    exact aw_zret rfl rfl rfl ⟨Nat.le_refl _, Nat.le_refl _⟩ d_Mo_weakHere_23
  · refine aw_iconst d_Mo_weakHere_24 ki_3 ?_
    refine aw_aload_n d_Mo_weakHere_25 1 rfl ?_
    refine aw_getI fl_Mo_135 kd_151 d_Mo_weakHere_26 ?_
    refine aw_imul d_Mo_weakHere_29 ?_
    refine aw_aload_n d_Mo_weakHere_30 1 rfl ?_
    refine aw_getI fl_Mo_114 kd_151 d_Mo_weakHere_31 ?_
    refine aw_iadd d_Mo_weakHere_34 ?_
    refine aw_bI (fun v35 => ?_)
    refine aw_istore_n (lo' := [(2, .int v35), (1, .int v13), (0, .ref 151)]) d_Mo_weakHere_35 rfl (by decide) rfl ?_
    refine aw_aload_n d_Mo_weakHere_36 2 rfl ?_
    refine aw_getR (t := 158) fl_Mo_29 kd_151 rt_151_8 d_Mo_weakHere_37 ?_
    refine aw_iload_n d_Mo_weakHere_40 0 rfl ?_
    refine aw_iald kd_158 d_Mo_weakHere_41 ?_
    refine aw_if_lt (tgt := 52) d_Mo_weakHere_42 rfl (fun q42 => ?_) (fun q42 => ?_)
    · refine aw_aload_n d_Mo_weakHere_52 2 rfl ?_
      refine aw_sipush d_Mo_weakHere_53 ks_999 ?_
      refine aw_V_m (As := [.int (999 : Int32)]) (m_Mo_number) cv_Mo_156 kd_151 rfl rfl rfl (Nat.le_of_ble_eq_true rfl) ⟨Nat.le_of_ble_eq_true rfl, Nat.le_of_ble_eq_true rfl⟩ ⟨Nat.le_refl _, Nat.le_refl _⟩ d_Mo_weakHere_56 (fun y56 => ?_)
      refine aw_bI (fun v56 => ?_)
      refine aw_bD (fun δ_56 => ?_)
      refine aw_if_ne (tgt := 64) d_Mo_weakHere_59 rfl (fun q59 => ?_) (fun q59 => ?_)
      · refine aw_iconst d_Mo_weakHere_62 ki_0 ?_
        exact aw_zret rfl rfl rfl ⟨Nat.le_refl _, Nat.le_refl _⟩ d_Mo_weakHere_63
      · refine aw_aload_n d_Mo_weakHere_64 2 rfl ?_
        refine aw_getR (t := 158) fl_Mo_29 kd_151 rt_151_8 d_Mo_weakHere_65 ?_
        refine aw_iload_n d_Mo_weakHere_68 0 rfl ?_
        refine aw_aload_n d_Mo_weakHere_69 2 rfl ?_
        refine aw_getI fl_Mo_114 kd_151 d_Mo_weakHere_70 ?_
        refine aw_iast kd_158 d_Mo_weakHere_73 ?_
        refine aw_bD (fun δ_73 => ?_)
        refine aw_iconst d_Mo_weakHere_74 ki_1 ?_
        exact aw_zret rfl rfl rfl ⟨Nat.le_refl _, Nat.le_refl _⟩ d_Mo_weakHere_75
    · refine aw_aload_n d_Mo_weakHere_45 2 rfl ?_
      refine aw_iconst d_Mo_weakHere_46 ki_4 ?_
      refine aw_iload_n d_Mo_weakHere_47 1 rfl ?_
      refine aw_V_m (As := [.int (4 : Int32), .int v13]) (m_Mo_fails) cv_Mo_110 kd_151 rfl rfl rfl (Nat.le_of_ble_eq_true rfl) ⟨Nat.le_of_ble_eq_true rfl, Nat.le_of_ble_eq_true rfl⟩ ⟨Nat.le_refl _, Nat.le_refl _⟩ d_Mo_weakHere_48 (fun y48 => ?_)
      refine aw_bI (fun v48 => ?_)
      refine aw_bD (fun δ_48 => ?_)
      exact aw_zr2 rfl rfl ⟨Nat.le_refl _, Nat.le_refl _⟩ d_Mo_weakHere_51
def f_Mo_bathHere (δ : Dm) : Option (Int32 × Dm) := ((f_Mo_passWord δ).bind (fun y1 => ((f_Mo_number (2 : Int32) y1).bind (fun y6 => bnd y6.1 (fun v6 => bnd y6.2 (fun δ_6 => (if v6 = 0 ∨ v6 = 1 then (some (v6, δ_6)) else none)))))))
set_option maxHeartbeats 4000000 in
set_option maxRecDepth 100000 in
theorem m_Mo_bathHere {δ : Dm} {n : Nat} : ∀ x, f_Mo_bathHere δ = some x → AMet k_Mo_bathHere 3 0 0 [.ref 151] δ RT n (Km RT n x) := by
  refine aw_start (lo := [(0, .ref 151)]) mok_Mo_bathHere rfl (Nat.le_of_ble_eq_true rfl) ?_
  unfold f_Mo_bathHere
  refine aw_aload_n d_Mo_bathHere_0 0 rfl ?_
  refine aw_V_v (As := []) (m_Mo_passWord) cv_Mo_104 kd_151 rfl rfl rfl (Nat.le_of_ble_eq_true rfl) ⟨Nat.le_of_ble_eq_true rfl, Nat.le_of_ble_eq_true rfl⟩ ⟨Nat.le_refl _, Nat.le_refl _⟩ d_Mo_bathHere_1 (fun y1 => ?_)
  refine aw_aload_n d_Mo_bathHere_4 0 rfl ?_
  refine aw_iconst d_Mo_bathHere_5 ki_2 ?_
  refine aw_V_m (As := [.int (2 : Int32)]) (m_Mo_number) cv_Mo_156 kd_151 rfl rfl rfl (Nat.le_of_ble_eq_true rfl) ⟨Nat.le_of_ble_eq_true rfl, Nat.le_of_ble_eq_true rfl⟩ ⟨Nat.le_refl _, Nat.le_refl _⟩ d_Mo_bathHere_6 (fun y6 => ?_)
  refine aw_bI (fun v6 => ?_)
  refine aw_bD (fun δ_6 => ?_)
  exact aw_zr2 rfl rfl ⟨Nat.le_refl _, Nat.le_refl _⟩ d_Mo_bathHere_9
def f_Mo_makes (a1 : Int32) (δ : Dm) : Option (Int32 × Dm) := (if (gI δ 151 13) = (60 : Int32) then ((f_Mo_fails (3 : Int32) a1 δ).bind (fun y12 => bnd y12.1 (fun v12 => bnd y12.2 (fun δ_12 => (if v12 = 0 ∨ v12 = 1 then (some (v12, δ_12)) else none))))) else (bnd (sI δ 151 13 ((gI δ 151 13) + (1 : Int32))) (fun δ_23 => (some ((1 : Int32), δ_23)))))
set_option maxHeartbeats 4000000 in
set_option maxRecDepth 100000 in
theorem m_Mo_makes {a1 : Int32} {δ : Dm} {n : Nat} : ∀ x, f_Mo_makes a1 δ = some x → AMet k_Mo_makes 2 0 0 [.ref 151, .int a1] δ RT n (Km RT n x) := by
  refine aw_start (lo := [(0, .ref 151), (1, .int a1)]) mok_Mo_makes rfl (Nat.le_of_ble_eq_true rfl) ?_
  unfold f_Mo_makes
  refine aw_aload_n d_Mo_makes_0 0 rfl ?_
  refine aw_getI fl_Mo_138 kd_151 d_Mo_makes_1 ?_
  refine aw_bipush d_Mo_makes_4 kb_60 ?_
  refine aw_icmp_ne (tgt := 16) d_Mo_makes_6 rfl (fun q6 => ?_) (fun q6 => ?_)
  · refine aw_aload_n d_Mo_makes_9 0 rfl ?_
    refine aw_iconst d_Mo_makes_10 ki_3 ?_
    refine aw_iload_n d_Mo_makes_11 1 rfl ?_
    refine aw_V_m (As := [.int (3 : Int32), .int a1]) (m_Mo_fails) cv_Mo_110 kd_151 rfl rfl rfl (Nat.le_of_ble_eq_true rfl) ⟨Nat.le_of_ble_eq_true rfl, Nat.le_of_ble_eq_true rfl⟩ ⟨Nat.le_refl _, Nat.le_refl _⟩ d_Mo_makes_12 (fun y12 => ?_)
    refine aw_bI (fun v12 => ?_)
    refine aw_bD (fun δ_12 => ?_)
    exact aw_zr2 rfl rfl ⟨Nat.le_refl _, Nat.le_refl _⟩ d_Mo_makes_15
  · refine aw_aload_n d_Mo_makes_16 0 rfl ?_
    refine aw_dup d_Mo_makes_17 rfl ?_
    refine aw_getI fl_Mo_138 kd_151 d_Mo_makes_18 ?_
    refine aw_iconst d_Mo_makes_21 ki_1 ?_
    refine aw_iadd d_Mo_makes_22 ?_
    refine aw_putI pf_Mo_138 kd_151 d_Mo_makes_23 ?_
    refine aw_bD (fun δ_23 => ?_)
    refine aw_iconst d_Mo_makes_26 ki_1 ?_
    exact aw_zret rfl rfl rfl ⟨Nat.le_refl _, Nat.le_refl _⟩ d_Mo_makes_27
def f_Mo_puts (a1 : Int32) (a2 : Int32) (δ : Dm) : Option Dm := (if inb (gI δ 151 12) 8 then (if inb (((400 : Int32) * (gI δ 151 12)) + (gI δ 155 (ix (gI δ 151 12)))) 3200 then bnd (sI δ 154 (ix (((400 : Int32) * (gI δ 151 12)) + (gI δ 155 (ix (gI δ 151 12))))) (a1 + ((16 : Int32) * a2))) (fun δ_28 => (if inb (gI δ_28 151 12) 8 then (if inb (gI δ_28 151 12) 8 then bnd (sI δ_28 155 (ix (gI δ_28 151 12)) ((gI δ_28 155 (ix (gI δ_28 151 12))) + (1 : Int32))) (fun δ_41 => (some δ_41)) else none) else none)) else none) else none)
set_option maxHeartbeats 4000000 in
set_option maxRecDepth 100000 in
theorem m_Mo_puts {a1 : Int32} {a2 : Int32} {δ : Dm} {n : Nat} : ∀ x, f_Mo_puts a1 a2 δ = some x → AMet k_Mo_puts 1 0 0 [.ref 151, .int a1, .int a2] δ RT n (Kv RT n x) := by
  refine aw_start (lo := [(0, .ref 151), (1, .int a1), (2, .int a2)]) mok_Mo_puts rfl (Nat.le_of_ble_eq_true rfl) ?_
  unfold f_Mo_puts
  refine aw_aload_n d_Mo_puts_0 0 rfl ?_
  refine aw_getR (t := 154) fl_Mo_17 kd_151 rt_151_4 d_Mo_puts_1 ?_
  refine aw_sipush d_Mo_puts_4 ks_400 ?_
  refine aw_aload_n d_Mo_puts_7 0 rfl ?_
  refine aw_getI fl_Mo_135 kd_151 d_Mo_puts_8 ?_
  refine aw_imul d_Mo_puts_11 ?_
  refine aw_aload_n d_Mo_puts_12 0 rfl ?_
  refine aw_getR (t := 155) fl_Mo_20 kd_151 rt_151_5 d_Mo_puts_13 ?_
  refine aw_aload_n d_Mo_puts_16 0 rfl ?_
  refine aw_getI fl_Mo_135 kd_151 d_Mo_puts_17 ?_
  refine aw_iald kd_155 d_Mo_puts_20 ?_
  refine aw_iadd d_Mo_puts_21 ?_
  refine aw_iload_n d_Mo_puts_22 1 rfl ?_
  refine aw_bipush d_Mo_puts_23 kb_16 ?_
  refine aw_iload_n d_Mo_puts_25 2 rfl ?_
  refine aw_imul d_Mo_puts_26 ?_
  refine aw_iadd d_Mo_puts_27 ?_
  refine aw_iast kd_154 d_Mo_puts_28 ?_
  refine aw_bD (fun δ_28 => ?_)
  refine aw_aload_n d_Mo_puts_29 0 rfl ?_
  refine aw_getR (t := 155) fl_Mo_20 kd_151 rt_151_5 d_Mo_puts_30 ?_
  refine aw_aload_n d_Mo_puts_33 0 rfl ?_
  refine aw_getI fl_Mo_135 kd_151 d_Mo_puts_34 ?_
  refine aw_dup2 d_Mo_puts_37 rfl rfl ?_
  refine aw_iald kd_155 d_Mo_puts_38 ?_
  refine aw_iconst d_Mo_puts_39 ki_1 ?_
  refine aw_iadd d_Mo_puts_40 ?_
  refine aw_iast kd_155 d_Mo_puts_41 ?_
  refine aw_bD (fun δ_41 => ?_)
  exact aw_vret rfl rfl ⟨Nat.le_refl _, Nat.le_refl _⟩ d_Mo_puts_42
def f_Mo_wordHere (δ : Dm) : Option (Int32 × Dm) := ((f_Mo_isWord (1751474532 : Int64) δ).bind (fun y4 => bnd y4.1 (fun v4 => bnd y4.2 (fun δ_4 => (if v4 = 0 then ((f_Mo_isWord (495874699116 : Int64) δ_4).bind (fun y16 => bnd y16.1 (fun v16 => bnd y16.2 (fun δ_16 => (if v16 = 0 then ((f_Mo_isWord (465624852596 : Int64) δ_16).bind (fun y28 => bnd y28.1 (fun v28 => bnd y28.2 (fun δ_28 => (if v28 = 0 then ((f_Mo_isWord (1751474548 : Int64) δ_28).bind (fun y40 => bnd y40.1 (fun v40 => bnd y40.2 (fun δ_40 => (if v40 = 0 then ((f_Mo_isWord (6578553 : Int64) δ_40).bind (fun y52 => bnd y52.1 (fun v52 => bnd y52.2 (fun δ_52 => (if v52 = 0 then ((f_Mo_isWord (8319400191629685864 : Int64) δ_52).bind (fun y64 => bnd y64.1 (fun v64 => bnd y64.2 (fun δ_64 => (if v64 = 0 then ((f_Mo_isWord (126943972913267 : Int64) δ_64).bind (fun y76 => bnd y76.1 (fun v76 => bnd y76.2 (fun δ_76 => (if v76 = 0 then ((f_Mo_isWord (6451064 : Int64) δ_76).bind (fun y89 => bnd y89.1 (fun v89 => bnd y89.2 (fun δ_89 => (if v89 = 0 then ((f_Mo_isWord (482854658917 : Int64) δ_89).bind (fun y102 => bnd y102.1 (fun v102 => bnd y102.2 (fun δ_102 => (if v102 = 0 then (some ((-1 : Int32), δ_102)) else (some ((8 : Int32), δ_102))))))) else (some ((7 : Int32), δ_89))))))) else (some ((6 : Int32), δ_76))))))) else (some ((5 : Int32), δ_64))))))) else (some ((4 : Int32), δ_52))))))) else (some ((3 : Int32), δ_40))))))) else (some ((2 : Int32), δ_28))))))) else (some ((1 : Int32), δ_16))))))) else (some ((0 : Int32), δ_4)))))))
set_option maxHeartbeats 4000000 in
set_option maxRecDepth 100000 in
theorem m_Mo_wordHere {δ : Dm} {n : Nat} : ∀ x, f_Mo_wordHere δ = some x → AMet k_Mo_wordHere 3 0 0 [.ref 151] δ RT n (Km RT n x) := by
  refine aw_start (lo := [(0, .ref 151)]) mok_Mo_wordHere rfl (Nat.le_of_ble_eq_true rfl) ?_
  unfold f_Mo_wordHere
  refine aw_aload_n d_Mo_wordHere_0 0 rfl ?_
  refine aw_ldc2 (v := (1751474532 : Int64)) d_Mo_wordHere_1 kc_Mo_117 ?_
  refine aw_V_m (As := [.long (1751474532 : Int64)]) (m_Mo_isWord) cv_Mo_100 kd_151 rfl rfl rfl (Nat.le_of_ble_eq_true rfl) ⟨Nat.le_of_ble_eq_true rfl, Nat.le_of_ble_eq_true rfl⟩ ⟨Nat.le_refl _, Nat.le_refl _⟩ d_Mo_wordHere_4 (fun y4 => ?_)
  refine aw_bI (fun v4 => ?_)
  refine aw_bD (fun δ_4 => ?_)
  refine aw_if_eq (tgt := 12) d_Mo_wordHere_7 rfl (fun q7 => ?_) (fun q7 => ?_)
  · refine aw_aload_n d_Mo_wordHere_12 0 rfl ?_
    refine aw_ldc2 (v := (495874699116 : Int64)) d_Mo_wordHere_13 kc_Mo_119 ?_
    refine aw_V_m (As := [.long (495874699116 : Int64)]) (m_Mo_isWord) cv_Mo_100 kd_151 rfl rfl rfl (Nat.le_of_ble_eq_true rfl) ⟨Nat.le_of_ble_eq_true rfl, Nat.le_of_ble_eq_true rfl⟩ ⟨Nat.le_refl _, Nat.le_refl _⟩ d_Mo_wordHere_16 (fun y16 => ?_)
    refine aw_bI (fun v16 => ?_)
    refine aw_bD (fun δ_16 => ?_)
    refine aw_if_eq (tgt := 24) d_Mo_wordHere_19 rfl (fun q19 => ?_) (fun q19 => ?_)
    · refine aw_aload_n d_Mo_wordHere_24 0 rfl ?_
      refine aw_ldc2 (v := (465624852596 : Int64)) d_Mo_wordHere_25 kc_Mo_121 ?_
      refine aw_V_m (As := [.long (465624852596 : Int64)]) (m_Mo_isWord) cv_Mo_100 kd_151 rfl rfl rfl (Nat.le_of_ble_eq_true rfl) ⟨Nat.le_of_ble_eq_true rfl, Nat.le_of_ble_eq_true rfl⟩ ⟨Nat.le_refl _, Nat.le_refl _⟩ d_Mo_wordHere_28 (fun y28 => ?_)
      refine aw_bI (fun v28 => ?_)
      refine aw_bD (fun δ_28 => ?_)
      refine aw_if_eq (tgt := 36) d_Mo_wordHere_31 rfl (fun q31 => ?_) (fun q31 => ?_)
      · refine aw_aload_n d_Mo_wordHere_36 0 rfl ?_
        refine aw_ldc2 (v := (1751474548 : Int64)) d_Mo_wordHere_37 kc_Mo_123 ?_
        refine aw_V_m (As := [.long (1751474548 : Int64)]) (m_Mo_isWord) cv_Mo_100 kd_151 rfl rfl rfl (Nat.le_of_ble_eq_true rfl) ⟨Nat.le_of_ble_eq_true rfl, Nat.le_of_ble_eq_true rfl⟩ ⟨Nat.le_refl _, Nat.le_refl _⟩ d_Mo_wordHere_40 (fun y40 => ?_)
        refine aw_bI (fun v40 => ?_)
        refine aw_bD (fun δ_40 => ?_)
        refine aw_if_eq (tgt := 48) d_Mo_wordHere_43 rfl (fun q43 => ?_) (fun q43 => ?_)
        · refine aw_aload_n d_Mo_wordHere_48 0 rfl ?_
          refine aw_ldc2 (v := (6578553 : Int64)) d_Mo_wordHere_49 kc_Mo_125 ?_
          refine aw_V_m (As := [.long (6578553 : Int64)]) (m_Mo_isWord) cv_Mo_100 kd_151 rfl rfl rfl (Nat.le_of_ble_eq_true rfl) ⟨Nat.le_of_ble_eq_true rfl, Nat.le_of_ble_eq_true rfl⟩ ⟨Nat.le_refl _, Nat.le_refl _⟩ d_Mo_wordHere_52 (fun y52 => ?_)
          refine aw_bI (fun v52 => ?_)
          refine aw_bD (fun δ_52 => ?_)
          refine aw_if_eq (tgt := 60) d_Mo_wordHere_55 rfl (fun q55 => ?_) (fun q55 => ?_)
          · refine aw_aload_n d_Mo_wordHere_60 0 rfl ?_
            refine aw_ldc2 (v := (8319400191629685864 : Int64)) d_Mo_wordHere_61 kc_Mo_127 ?_
            refine aw_V_m (As := [.long (8319400191629685864 : Int64)]) (m_Mo_isWord) cv_Mo_100 kd_151 rfl rfl rfl (Nat.le_of_ble_eq_true rfl) ⟨Nat.le_of_ble_eq_true rfl, Nat.le_of_ble_eq_true rfl⟩ ⟨Nat.le_refl _, Nat.le_refl _⟩ d_Mo_wordHere_64 (fun y64 => ?_)
            refine aw_bI (fun v64 => ?_)
            refine aw_bD (fun δ_64 => ?_)
            refine aw_if_eq (tgt := 72) d_Mo_wordHere_67 rfl (fun q67 => ?_) (fun q67 => ?_)
            · refine aw_aload_n d_Mo_wordHere_72 0 rfl ?_
              refine aw_ldc2 (v := (126943972913267 : Int64)) d_Mo_wordHere_73 kc_Mo_129 ?_
              refine aw_V_m (As := [.long (126943972913267 : Int64)]) (m_Mo_isWord) cv_Mo_100 kd_151 rfl rfl rfl (Nat.le_of_ble_eq_true rfl) ⟨Nat.le_of_ble_eq_true rfl, Nat.le_of_ble_eq_true rfl⟩ ⟨Nat.le_refl _, Nat.le_refl _⟩ d_Mo_wordHere_76 (fun y76 => ?_)
              refine aw_bI (fun v76 => ?_)
              refine aw_bD (fun δ_76 => ?_)
              refine aw_if_eq (tgt := 85) d_Mo_wordHere_79 rfl (fun q79 => ?_) (fun q79 => ?_)
              · refine aw_aload_n d_Mo_wordHere_85 0 rfl ?_
                refine aw_ldc2 (v := (6451064 : Int64)) d_Mo_wordHere_86 kc_Mo_131 ?_
                refine aw_V_m (As := [.long (6451064 : Int64)]) (m_Mo_isWord) cv_Mo_100 kd_151 rfl rfl rfl (Nat.le_of_ble_eq_true rfl) ⟨Nat.le_of_ble_eq_true rfl, Nat.le_of_ble_eq_true rfl⟩ ⟨Nat.le_refl _, Nat.le_refl _⟩ d_Mo_wordHere_89 (fun y89 => ?_)
                refine aw_bI (fun v89 => ?_)
                refine aw_bD (fun δ_89 => ?_)
                refine aw_if_eq (tgt := 98) d_Mo_wordHere_92 rfl (fun q92 => ?_) (fun q92 => ?_)
                · refine aw_aload_n d_Mo_wordHere_98 0 rfl ?_
                  refine aw_ldc2 (v := (482854658917 : Int64)) d_Mo_wordHere_99 kc_Mo_133 ?_
                  refine aw_V_m (As := [.long (482854658917 : Int64)]) (m_Mo_isWord) cv_Mo_100 kd_151 rfl rfl rfl (Nat.le_of_ble_eq_true rfl) ⟨Nat.le_of_ble_eq_true rfl, Nat.le_of_ble_eq_true rfl⟩ ⟨Nat.le_refl _, Nat.le_refl _⟩ d_Mo_wordHere_102 (fun y102 => ?_)
                  refine aw_bI (fun v102 => ?_)
                  refine aw_bD (fun δ_102 => ?_)
                  refine aw_if_eq (tgt := 113) d_Mo_wordHere_105 rfl (fun q105 => ?_) (fun q105 => ?_)
                  · refine aw_iconst d_Mo_wordHere_113 ki_m1 ?_
                    exact aw_iret rfl rfl ⟨Nat.le_refl _, Nat.le_refl _⟩ d_Mo_wordHere_114
                  · refine aw_bipush d_Mo_wordHere_108 kb_8 ?_
                    refine aw_goto (tgt := 114) d_Mo_wordHere_110 rfl ?_
                    exact aw_iret rfl rfl ⟨Nat.le_refl _, Nat.le_refl _⟩ d_Mo_wordHere_114
                · refine aw_bipush d_Mo_wordHere_95 kb_7 ?_
                  exact aw_iret rfl rfl ⟨Nat.le_refl _, Nat.le_refl _⟩ d_Mo_wordHere_97
              · refine aw_bipush d_Mo_wordHere_82 kb_6 ?_
                exact aw_iret rfl rfl ⟨Nat.le_refl _, Nat.le_refl _⟩ d_Mo_wordHere_84
            · refine aw_iconst d_Mo_wordHere_70 ki_5 ?_
              exact aw_iret rfl rfl ⟨Nat.le_refl _, Nat.le_refl _⟩ d_Mo_wordHere_71
          · refine aw_iconst d_Mo_wordHere_58 ki_4 ?_
            exact aw_iret rfl rfl ⟨Nat.le_refl _, Nat.le_refl _⟩ d_Mo_wordHere_59
        · refine aw_iconst d_Mo_wordHere_46 ki_3 ?_
          exact aw_iret rfl rfl ⟨Nat.le_refl _, Nat.le_refl _⟩ d_Mo_wordHere_47
      · refine aw_iconst d_Mo_wordHere_34 ki_2 ?_
        exact aw_iret rfl rfl ⟨Nat.le_refl _, Nat.le_refl _⟩ d_Mo_wordHere_35
    · refine aw_iconst d_Mo_wordHere_22 ki_1 ?_
      exact aw_iret rfl rfl ⟨Nat.le_refl _, Nat.le_refl _⟩ d_Mo_wordHere_23
  · refine aw_iconst d_Mo_wordHere_10 ki_0 ?_
    exact aw_iret rfl rfl ⟨Nat.le_refl _, Nat.le_refl _⟩ d_Mo_wordHere_11
def f_Mo_value (δ : Dm) : Option (Int32 × Dm) := ((f_Mo_see δ).bind (fun y1 => bnd y1.1 (fun v1 => bnd y1.2 (fun δ_1 => (bnd (gI δ_1 151 9) (fun v9 => ((f_Mo_isDigit (gI δ_1 151 9) δ_1).bind (fun y15 => (if y15 = 0 then ((f_Mo_wordHere δ_1).bind (fun y52 => bnd y52.1 (fun v52 => bnd y52.2 (fun δ_52 => (if 0 ≤ v52 then ((f_Mo_makes v9 δ_52).bind (fun y69 => bnd y69.1 (fun v69 => bnd y69.2 (fun δ_69 => (if v69 = 0 then (some ((0 : Int32), δ_69)) else ((f_Mo_passWord δ_69).bind (fun y78 => ((f_Mo_puts (1 : Int32) v52 y78).bind (fun y84 => (some ((1 : Int32), y84))))))))))) else ((f_Mo_fails (0 : Int32) v9 δ_52).bind (fun y63 => bnd y63.1 (fun v63 => bnd y63.2 (fun δ_63 => (if v63 = 0 ∨ v63 = 1 then (some (v63, δ_63)) else none)))))))))) else ((f_Mo_number (99999 : Int32) δ_1).bind (fun y24 => bnd y24.1 (fun v24 => bnd y24.2 (fun δ_24 => (if v24 = 0 then (some ((0 : Int32), δ_24)) else ((f_Mo_makes v9 δ_24).bind (fun y32 => bnd y32.1 (fun v32 => bnd y32.2 (fun δ_32 => (if v32 = 0 then (some ((0 : Int32), δ_32)) else ((f_Mo_puts (0 : Int32) (gI δ_32 151 11) δ_32).bind (fun y46 => (some ((1 : Int32), y46)))))))))))))))))))))))
set_option maxHeartbeats 4000000 in
set_option maxRecDepth 100000 in
theorem m_Mo_value {δ : Dm} {n : Nat} : ∀ x, f_Mo_value δ = some x → AMet k_Mo_value 4 0 0 [.ref 151] δ RT n (Km RT n x) := by
  refine aw_start (lo := [(0, .ref 151)]) mok_Mo_value rfl (Nat.le_of_ble_eq_true rfl) ?_
  unfold f_Mo_value
  refine aw_aload_n d_Mo_value_0 0 rfl ?_
  refine aw_V_m (As := []) (m_Mo_see) cv_Mo_93 kd_151 rfl rfl rfl (Nat.le_of_ble_eq_true rfl) ⟨Nat.le_of_ble_eq_true rfl, Nat.le_of_ble_eq_true rfl⟩ ⟨Nat.le_refl _, Nat.le_refl _⟩ d_Mo_value_1 (fun y1 => ?_)
  refine aw_bI (fun v1 => ?_)
  refine aw_bD (fun δ_1 => ?_)
  refine aw_pop d_Mo_value_4 rfl ?_
  refine aw_aload_n d_Mo_value_5 0 rfl ?_
  refine aw_getI fl_Mo_90 kd_151 d_Mo_value_6 ?_
  refine aw_bI (fun v9 => ?_)
  refine aw_istore_n (lo' := [(1, .int v9), (0, .ref 151)]) d_Mo_value_9 rfl (by decide) rfl ?_
  refine aw_aload_n d_Mo_value_10 1 rfl ?_
  refine aw_aload_n d_Mo_value_11 1 rfl ?_
  refine aw_getI fl_Mo_90 kd_151 d_Mo_value_12 ?_
  refine aw_V_p (As := [.int (gI δ_1 151 9)]) (m_Mo_isDigit) cv_Mo_107 kd_151 rfl rfl rfl (Nat.le_of_ble_eq_true rfl) ⟨Nat.le_of_ble_eq_true rfl, Nat.le_of_ble_eq_true rfl⟩ ⟨Nat.le_refl _, Nat.le_refl _⟩ d_Mo_value_15 (fun y15 => ?_)
  refine aw_if_eq (tgt := 51) d_Mo_value_18 rfl (fun q18 => ?_) (fun q18 => ?_)
  · refine aw_aload_n d_Mo_value_51 1 rfl ?_
    refine aw_V_m (As := []) (m_Mo_wordHere) cv_Mo_162 kd_151 rfl rfl rfl (Nat.le_of_ble_eq_true rfl) ⟨Nat.le_of_ble_eq_true rfl, Nat.le_of_ble_eq_true rfl⟩ ⟨Nat.le_refl _, Nat.le_refl _⟩ d_Mo_value_52 (fun y52 => ?_)
    refine aw_bI (fun v52 => ?_)
    refine aw_bD (fun δ_52 => ?_)
    refine aw_istore_n (lo' := [(2, .int v52), (1, .int v9), (0, .ref 151)]) d_Mo_value_55 rfl (by decide) rfl ?_
    refine aw_iload_n d_Mo_value_56 0 rfl ?_
    refine aw_if_ge (tgt := 67) d_Mo_value_57 rfl (fun q57 => ?_) (fun q57 => ?_)
    · refine aw_aload_n d_Mo_value_67 2 rfl ?_
      refine aw_iload_n d_Mo_value_68 1 rfl ?_
      refine aw_V_m (As := [.int v9]) (m_Mo_makes) cv_Mo_159 kd_151 rfl rfl rfl (Nat.le_of_ble_eq_true rfl) ⟨Nat.le_of_ble_eq_true rfl, Nat.le_of_ble_eq_true rfl⟩ ⟨Nat.le_refl _, Nat.le_refl _⟩ d_Mo_value_69 (fun y69 => ?_)
      refine aw_bI (fun v69 => ?_)
      refine aw_bD (fun δ_69 => ?_)
      refine aw_if_ne (tgt := 77) d_Mo_value_72 rfl (fun q72 => ?_) (fun q72 => ?_)
      · refine aw_iconst d_Mo_value_75 ki_0 ?_
        exact aw_zret rfl rfl rfl ⟨Nat.le_refl _, Nat.le_refl _⟩ d_Mo_value_76
      · refine aw_aload_n d_Mo_value_77 2 rfl ?_
        refine aw_V_v (As := []) (m_Mo_passWord) cv_Mo_104 kd_151 rfl rfl rfl (Nat.le_of_ble_eq_true rfl) ⟨Nat.le_of_ble_eq_true rfl, Nat.le_of_ble_eq_true rfl⟩ ⟨Nat.le_refl _, Nat.le_refl _⟩ d_Mo_value_78 (fun y78 => ?_)
        refine aw_aload_n d_Mo_value_81 2 rfl ?_
        refine aw_iconst d_Mo_value_82 ki_1 ?_
        refine aw_iload_n d_Mo_value_83 0 rfl ?_
        refine aw_V_v (As := [.int (1 : Int32), .int v52]) (m_Mo_puts) cv_Mo_151 kd_151 rfl rfl rfl (Nat.le_of_ble_eq_true rfl) ⟨Nat.le_of_ble_eq_true rfl, Nat.le_of_ble_eq_true rfl⟩ ⟨Nat.le_refl _, Nat.le_refl _⟩ d_Mo_value_84 (fun y84 => ?_)
        refine aw_iconst d_Mo_value_87 ki_1 ?_
        exact aw_zret rfl rfl rfl ⟨Nat.le_refl _, Nat.le_refl _⟩ d_Mo_value_88
    · refine aw_aload_n d_Mo_value_60 2 rfl ?_
      refine aw_iconst d_Mo_value_61 ki_0 ?_
      refine aw_iload_n d_Mo_value_62 1 rfl ?_
      refine aw_V_m (As := [.int (0 : Int32), .int v9]) (m_Mo_fails) cv_Mo_110 kd_151 rfl rfl rfl (Nat.le_of_ble_eq_true rfl) ⟨Nat.le_of_ble_eq_true rfl, Nat.le_of_ble_eq_true rfl⟩ ⟨Nat.le_refl _, Nat.le_refl _⟩ d_Mo_value_63 (fun y63 => ?_)
      refine aw_bI (fun v63 => ?_)
      refine aw_bD (fun δ_63 => ?_)
      exact aw_zr2 rfl rfl ⟨Nat.le_refl _, Nat.le_refl _⟩ d_Mo_value_66
  · refine aw_aload_n d_Mo_value_21 1 rfl ?_
    refine aw_ldc (v := (99999 : Int32)) d_Mo_value_22 kc_Mo_155 ?_
    refine aw_V_m (As := [.int (99999 : Int32)]) (m_Mo_number) cv_Mo_156 kd_151 rfl rfl rfl (Nat.le_of_ble_eq_true rfl) ⟨Nat.le_of_ble_eq_true rfl, Nat.le_of_ble_eq_true rfl⟩ ⟨Nat.le_refl _, Nat.le_refl _⟩ d_Mo_value_24 (fun y24 => ?_)
    refine aw_bI (fun v24 => ?_)
    refine aw_bD (fun δ_24 => ?_)
    refine aw_if_eq (tgt := 38) d_Mo_value_27 rfl (fun q27 => ?_) (fun q27 => ?_)
    · refine aw_iconst d_Mo_value_38 ki_0 ?_
      exact aw_zret rfl rfl rfl ⟨Nat.le_refl _, Nat.le_refl _⟩ d_Mo_value_39
    · refine aw_aload_n d_Mo_value_30 1 rfl ?_
      refine aw_iload_n d_Mo_value_31 0 rfl ?_
      refine aw_V_m (As := [.int v9]) (m_Mo_makes) cv_Mo_159 kd_151 rfl rfl rfl (Nat.le_of_ble_eq_true rfl) ⟨Nat.le_of_ble_eq_true rfl, Nat.le_of_ble_eq_true rfl⟩ ⟨Nat.le_refl _, Nat.le_refl _⟩ d_Mo_value_32 (fun y32 => ?_)
      refine aw_bI (fun v32 => ?_)
      refine aw_bD (fun δ_32 => ?_)
      refine aw_if_ne (tgt := 40) d_Mo_value_35 rfl (fun q35 => ?_) (fun q35 => ?_)
      · refine aw_iconst d_Mo_value_38 ki_0 ?_
        exact aw_zret rfl rfl rfl ⟨Nat.le_refl _, Nat.le_refl _⟩ d_Mo_value_39
      · refine aw_aload_n d_Mo_value_40 1 rfl ?_
        refine aw_iconst d_Mo_value_41 ki_0 ?_
        refine aw_aload_n d_Mo_value_42 1 rfl ?_
        refine aw_getI fl_Mo_114 kd_151 d_Mo_value_43 ?_
        refine aw_V_v (As := [.int (0 : Int32), .int (gI δ_32 151 11)]) (m_Mo_puts) cv_Mo_151 kd_151 rfl rfl rfl (Nat.le_of_ble_eq_true rfl) ⟨Nat.le_of_ble_eq_true rfl, Nat.le_of_ble_eq_true rfl⟩ ⟨Nat.le_refl _, Nat.le_refl _⟩ d_Mo_value_46 (fun y46 => ?_)
        refine aw_iconst d_Mo_value_49 ki_1 ?_
        exact aw_zret rfl rfl rfl ⟨Nat.le_refl _, Nat.le_refl _⟩ d_Mo_value_50
def jp_Mo_term_46 (kr9 : Dm → Option (Int32 × Dm)) (kx9_75 : Dm → Option (Int32 × Dm)) (δ27 : Dm) (s0_46 : Int32) : Option (Int32 × Dm) := (bnd (sI δ27 151 9 ((gI δ27 151 9) + (1 : Int32))) (fun δ_54 => ((f_Mo_value δ_54).bind (fun y58 => bnd y58.1 (fun v58 => bnd y58.2 (fun δ_58 => (if v58 = 0 then (some ((0 : Int32), δ_58)) else ((f_Mo_puts s0_46 (0 : Int32) δ_58).bind (fun y69 => (kr9 y69))))))))))
set_option maxHeartbeats 4000000 in
set_option maxRecDepth 100000 in
theorem tj_Mo_term_46 {n : Nat} (kr9 : Dm → Option (Int32 × Dm)) (kx9_75 : Dm → Option (Int32 × Dm)) (δ27 : Dm) (s0_46 : Int32) (hkr9 : ∀ δ9k, AWo k_Mo_term 5 0 0 9 [(0, .ref 151)] [] δ9k RT n 0 0 (Km RT n) (kr9 δ9k)) (hkx9_75 : ∀ δ9k, AWo k_Mo_term 5 0 0 75 [(0, .ref 151)] [] δ9k RT n 0 0 (Km RT n) (kx9_75 δ9k)) : AWo k_Mo_term 5 0 0 46 [(0, .ref 151)] [.int s0_46] δ27 RT n 0 0 (Km RT n) (jp_Mo_term_46 kr9 kx9_75 δ27 s0_46) := by
  unfold jp_Mo_term_46
  refine aw_istore_n (lo' := [(1, .int s0_46), (0, .ref 151)]) d_Mo_term_46 rfl (by decide) rfl ?_
  refine aw_aload_n d_Mo_term_47 1 rfl ?_
  refine aw_dup d_Mo_term_48 rfl ?_
  refine aw_getI fl_Mo_90 kd_151 d_Mo_term_49 ?_
  refine aw_iconst d_Mo_term_52 ki_1 ?_
  refine aw_iadd d_Mo_term_53 ?_
  refine aw_putI pf_Mo_90 kd_151 d_Mo_term_54 ?_
  refine aw_bD (fun δ_54 => ?_)
  refine aw_aload_n d_Mo_term_57 1 rfl ?_
  refine aw_V_m (As := []) (m_Mo_value) cv_Mo_165 kd_151 rfl rfl rfl (Nat.le_of_ble_eq_true rfl) ⟨Nat.le_of_ble_eq_true rfl, Nat.le_of_ble_eq_true rfl⟩ ⟨Nat.le_refl _, Nat.le_refl _⟩ d_Mo_term_58 (fun y58 => ?_)
  refine aw_bI (fun v58 => ?_)
  refine aw_bD (fun δ_58 => ?_)
  refine aw_if_ne (tgt := 66) d_Mo_term_61 rfl (fun q61 => ?_) (fun q61 => ?_)
  · refine aw_iconst d_Mo_term_64 ki_0 ?_
    exact aw_zret rfl rfl rfl ⟨Nat.le_refl _, Nat.le_refl _⟩ d_Mo_term_65
  · refine aw_aload_n d_Mo_term_66 1 rfl ?_
    refine aw_iload_n d_Mo_term_67 0 rfl ?_
    refine aw_iconst d_Mo_term_68 ki_0 ?_
    refine aw_V_v (As := [.int s0_46, .int (0 : Int32)]) (m_Mo_puts) cv_Mo_151 kd_151 rfl rfl rfl (Nat.le_of_ble_eq_true rfl) ⟨Nat.le_of_ble_eq_true rfl, Nat.le_of_ble_eq_true rfl⟩ ⟨Nat.le_refl _, Nat.le_refl _⟩ d_Mo_term_69 (fun y69 => ?_)
    refine aw_goto (tgt := 9) d_Mo_term_72 rfl ?_
    refine aw_sub (lo' := [(0, .ref 151)]) [1] rfl ?_
    exact hkr9 _
def jp_Mo_term_27 (kr9 : Dm → Option (Int32 × Dm)) (kx9_75 : Dm → Option (Int32 × Dm)) (δ27 : Dm) : Option (Int32 × Dm) := (if inb (gI δ27 151 9) 400 then (if (gI δ27 153 (ix (gI δ27 151 9))) = (42 : Int32) then (jp_Mo_term_46 kr9 kx9_75 δ27 (4 : Int32)) else (jp_Mo_term_46 kr9 kx9_75 δ27 (5 : Int32))) else none)
set_option maxHeartbeats 4000000 in
set_option maxRecDepth 100000 in
theorem tj_Mo_term_27 {n : Nat} (kr9 : Dm → Option (Int32 × Dm)) (kx9_75 : Dm → Option (Int32 × Dm)) (δ27 : Dm) (hkr9 : ∀ δ9k, AWo k_Mo_term 5 0 0 9 [(0, .ref 151)] [] δ9k RT n 0 0 (Km RT n) (kr9 δ9k)) (hkx9_75 : ∀ δ9k, AWo k_Mo_term 5 0 0 75 [(0, .ref 151)] [] δ9k RT n 0 0 (Km RT n) (kx9_75 δ9k)) : AWo k_Mo_term 5 0 0 27 [(0, .ref 151)] [] δ27 RT n 0 0 (Km RT n) (jp_Mo_term_27 kr9 kx9_75 δ27) := by
  unfold jp_Mo_term_27
  refine aw_aload_n d_Mo_term_27 0 rfl ?_
  refine aw_getR (t := 153) fl_Mo_13 kd_151 rt_151_1 d_Mo_term_28 ?_
  refine aw_aload_n d_Mo_term_31 0 rfl ?_
  refine aw_getI fl_Mo_90 kd_151 d_Mo_term_32 ?_
  refine aw_bald kd_153 d_Mo_term_35 ?_
  refine aw_bipush d_Mo_term_36 kb_42 ?_
  refine aw_icmp_ne (tgt := 45) d_Mo_term_38 rfl (fun q38 => ?_) (fun q38 => ?_)
  · refine aw_iconst d_Mo_term_41 ki_4 ?_
    refine aw_goto (tgt := 46) d_Mo_term_42 rfl ?_
    refine aw_sub (lo' := [(0, .ref 151)]) [0] rfl ?_
    exact tj_Mo_term_46 _ _ _ _ hkr9 hkx9_75
  · refine aw_iconst d_Mo_term_45 ki_5 ?_
    refine aw_sub (lo' := [(0, .ref 151)]) [0] rfl ?_
    exact tj_Mo_term_46 _ _ _ _ hkr9 hkx9_75
def lp_Mo_term_9 (kx9_75 : Dm → Option (Int32 × Dm)) : Nat → Dm → Option (Int32 × Dm)
  | 0, _ => none
  | f + 1, δ9 => ((f_Mo_see δ9).bind (fun y10 => bnd y10.1 (fun v10 => bnd y10.2 (fun δ_10 => (if v10 = (42 : Int32) then (jp_Mo_term_27 (lp_Mo_term_9 kx9_75 f) kx9_75 δ_10) else ((f_Mo_see δ_10).bind (fun y19 => bnd y19.1 (fun v19 => bnd y19.2 (fun δ_19 => (if v19 = (47 : Int32) then (jp_Mo_term_27 (lp_Mo_term_9 kx9_75 f) kx9_75 δ_19) else (kx9_75 δ_19)))))))))))
set_option maxHeartbeats 4000000 in
set_option maxRecDepth 100000 in
theorem tl_Mo_term_9 {n : Nat} (kx9_75 : Dm → Option (Int32 × Dm)) (hkx9_75 : ∀ δ9k, AWo k_Mo_term 5 0 0 75 [(0, .ref 151)] [] δ9k RT n 0 0 (Km RT n) (kx9_75 δ9k)) : ∀ (f : Nat) (δ9 : Dm), AWo k_Mo_term 5 0 0 9 [(0, .ref 151)] [] δ9 RT n 0 0 (Km RT n) (lp_Mo_term_9 kx9_75 f δ9) := by
  intro f
  induction f with
  | zero => intro _; exact aw_none
  | succ f ih =>
    intro δ9
    rw [lp_Mo_term_9]
    refine aw_aload_n d_Mo_term_9 0 rfl ?_
    refine aw_V_m (As := []) (m_Mo_see) cv_Mo_93 kd_151 rfl rfl rfl (Nat.le_of_ble_eq_true rfl) ⟨Nat.le_of_ble_eq_true rfl, Nat.le_of_ble_eq_true rfl⟩ ⟨Nat.le_refl _, Nat.le_refl _⟩ d_Mo_term_10 (fun y10 => ?_)
    refine aw_bI (fun v10 => ?_)
    refine aw_bD (fun δ_10 => ?_)
    refine aw_bipush d_Mo_term_13 kb_42 ?_
    refine aw_icmp_eq (tgt := 27) d_Mo_term_15 rfl (fun q15 => ?_) (fun q15 => ?_)
    · refine aw_sub (lo' := [(0, .ref 151)]) [0] rfl ?_
      exact tj_Mo_term_27 _ _ _ ih hkx9_75
    · refine aw_aload_n d_Mo_term_18 0 rfl ?_
      refine aw_V_m (As := []) (m_Mo_see) cv_Mo_93 kd_151 rfl rfl rfl (Nat.le_of_ble_eq_true rfl) ⟨Nat.le_of_ble_eq_true rfl, Nat.le_of_ble_eq_true rfl⟩ ⟨Nat.le_refl _, Nat.le_refl _⟩ d_Mo_term_19 (fun y19 => ?_)
      refine aw_bI (fun v19 => ?_)
      refine aw_bD (fun δ_19 => ?_)
      refine aw_bipush d_Mo_term_22 kb_47 ?_
      refine aw_icmp_ne (tgt := 75) d_Mo_term_24 rfl (fun q24 => ?_) (fun q24 => ?_)
      · refine aw_sub (lo' := [(0, .ref 151)]) [0] rfl ?_
        exact tj_Mo_term_27 _ _ _ ih hkx9_75
      · refine aw_sub (lo' := [(0, .ref 151)]) [0] rfl ?_
        exact hkx9_75 _
def f_Mo_term (δ : Dm) : Option (Int32 × Dm) := ((f_Mo_value δ).bind (fun y1 => bnd y1.1 (fun v1 => bnd y1.2 (fun δ_1 => (if v1 = 0 then (some ((0 : Int32), δ_1)) else (lp_Mo_term_9 (fun δ9x => (some ((1 : Int32), δ9x))) FU δ_1))))))
set_option maxHeartbeats 4000000 in
set_option maxRecDepth 100000 in
theorem m_Mo_term {δ : Dm} {n : Nat} : ∀ x, f_Mo_term δ = some x → AMet k_Mo_term 5 0 0 [.ref 151] δ RT n (Km RT n x) := by
  refine aw_start (lo := [(0, .ref 151)]) mok_Mo_term rfl (Nat.le_of_ble_eq_true rfl) ?_
  unfold f_Mo_term
  refine aw_aload_n d_Mo_term_0 0 rfl ?_
  refine aw_V_m (As := []) (m_Mo_value) cv_Mo_165 kd_151 rfl rfl rfl (Nat.le_of_ble_eq_true rfl) ⟨Nat.le_of_ble_eq_true rfl, Nat.le_of_ble_eq_true rfl⟩ ⟨Nat.le_refl _, Nat.le_refl _⟩ d_Mo_term_1 (fun y1 => ?_)
  refine aw_bI (fun v1 => ?_)
  refine aw_bD (fun δ_1 => ?_)
  refine aw_if_ne (tgt := 9) d_Mo_term_4 rfl (fun q4 => ?_) (fun q4 => ?_)
  · refine aw_iconst d_Mo_term_7 ki_0 ?_
    exact aw_zret rfl rfl rfl ⟨Nat.le_refl _, Nat.le_refl _⟩ d_Mo_term_8
  · refine aw_sub (lo' := [(0, .ref 151)]) [0] rfl ?_
    refine tl_Mo_term_9 _ (fun δ9x => ?_) FU _
    · refine aw_iconst d_Mo_term_75 ki_1 ?_
      exact aw_zret rfl rfl rfl ⟨Nat.le_refl _, Nat.le_refl _⟩ d_Mo_term_76
def jp_Mo_sum_46 (kr9 : Dm → Option (Int32 × Dm)) (kx9_75 : Dm → Option (Int32 × Dm)) (δ27 : Dm) (s0_46 : Int32) : Option (Int32 × Dm) := (bnd (sI δ27 151 9 ((gI δ27 151 9) + (1 : Int32))) (fun δ_54 => ((f_Mo_term δ_54).bind (fun y58 => bnd y58.1 (fun v58 => bnd y58.2 (fun δ_58 => (if v58 = 0 then (some ((0 : Int32), δ_58)) else ((f_Mo_puts s0_46 (0 : Int32) δ_58).bind (fun y69 => (kr9 y69))))))))))
set_option maxHeartbeats 4000000 in
set_option maxRecDepth 100000 in
theorem tj_Mo_sum_46 {n : Nat} (kr9 : Dm → Option (Int32 × Dm)) (kx9_75 : Dm → Option (Int32 × Dm)) (δ27 : Dm) (s0_46 : Int32) (hkr9 : ∀ δ9k, AWo k_Mo_sum 6 0 0 9 [(0, .ref 151)] [] δ9k RT n 0 0 (Km RT n) (kr9 δ9k)) (hkx9_75 : ∀ δ9k, AWo k_Mo_sum 6 0 0 75 [(0, .ref 151)] [] δ9k RT n 0 0 (Km RT n) (kx9_75 δ9k)) : AWo k_Mo_sum 6 0 0 46 [(0, .ref 151)] [.int s0_46] δ27 RT n 0 0 (Km RT n) (jp_Mo_sum_46 kr9 kx9_75 δ27 s0_46) := by
  unfold jp_Mo_sum_46
  refine aw_istore_n (lo' := [(1, .int s0_46), (0, .ref 151)]) d_Mo_sum_46 rfl (by decide) rfl ?_
  refine aw_aload_n d_Mo_sum_47 1 rfl ?_
  refine aw_dup d_Mo_sum_48 rfl ?_
  refine aw_getI fl_Mo_90 kd_151 d_Mo_sum_49 ?_
  refine aw_iconst d_Mo_sum_52 ki_1 ?_
  refine aw_iadd d_Mo_sum_53 ?_
  refine aw_putI pf_Mo_90 kd_151 d_Mo_sum_54 ?_
  refine aw_bD (fun δ_54 => ?_)
  refine aw_aload_n d_Mo_sum_57 1 rfl ?_
  refine aw_V_m (As := []) (m_Mo_term) cv_Mo_169 kd_151 rfl rfl rfl (Nat.le_of_ble_eq_true rfl) ⟨Nat.le_of_ble_eq_true rfl, Nat.le_of_ble_eq_true rfl⟩ ⟨Nat.le_refl _, Nat.le_refl _⟩ d_Mo_sum_58 (fun y58 => ?_)
  refine aw_bI (fun v58 => ?_)
  refine aw_bD (fun δ_58 => ?_)
  refine aw_if_ne (tgt := 66) d_Mo_sum_61 rfl (fun q61 => ?_) (fun q61 => ?_)
  · refine aw_iconst d_Mo_sum_64 ki_0 ?_
    exact aw_zret rfl rfl rfl ⟨Nat.le_refl _, Nat.le_refl _⟩ d_Mo_sum_65
  · refine aw_aload_n d_Mo_sum_66 1 rfl ?_
    refine aw_iload_n d_Mo_sum_67 0 rfl ?_
    refine aw_iconst d_Mo_sum_68 ki_0 ?_
    refine aw_V_v (As := [.int s0_46, .int (0 : Int32)]) (m_Mo_puts) cv_Mo_151 kd_151 rfl rfl rfl (Nat.le_of_ble_eq_true rfl) ⟨Nat.le_of_ble_eq_true rfl, Nat.le_of_ble_eq_true rfl⟩ ⟨Nat.le_refl _, Nat.le_refl _⟩ d_Mo_sum_69 (fun y69 => ?_)
    refine aw_goto (tgt := 9) d_Mo_sum_72 rfl ?_
    refine aw_sub (lo' := [(0, .ref 151)]) [1] rfl ?_
    exact hkr9 _
def jp_Mo_sum_27 (kr9 : Dm → Option (Int32 × Dm)) (kx9_75 : Dm → Option (Int32 × Dm)) (δ27 : Dm) : Option (Int32 × Dm) := (if inb (gI δ27 151 9) 400 then (if (gI δ27 153 (ix (gI δ27 151 9))) = (43 : Int32) then (jp_Mo_sum_46 kr9 kx9_75 δ27 (2 : Int32)) else (jp_Mo_sum_46 kr9 kx9_75 δ27 (3 : Int32))) else none)
set_option maxHeartbeats 4000000 in
set_option maxRecDepth 100000 in
theorem tj_Mo_sum_27 {n : Nat} (kr9 : Dm → Option (Int32 × Dm)) (kx9_75 : Dm → Option (Int32 × Dm)) (δ27 : Dm) (hkr9 : ∀ δ9k, AWo k_Mo_sum 6 0 0 9 [(0, .ref 151)] [] δ9k RT n 0 0 (Km RT n) (kr9 δ9k)) (hkx9_75 : ∀ δ9k, AWo k_Mo_sum 6 0 0 75 [(0, .ref 151)] [] δ9k RT n 0 0 (Km RT n) (kx9_75 δ9k)) : AWo k_Mo_sum 6 0 0 27 [(0, .ref 151)] [] δ27 RT n 0 0 (Km RT n) (jp_Mo_sum_27 kr9 kx9_75 δ27) := by
  unfold jp_Mo_sum_27
  refine aw_aload_n d_Mo_sum_27 0 rfl ?_
  refine aw_getR (t := 153) fl_Mo_13 kd_151 rt_151_1 d_Mo_sum_28 ?_
  refine aw_aload_n d_Mo_sum_31 0 rfl ?_
  refine aw_getI fl_Mo_90 kd_151 d_Mo_sum_32 ?_
  refine aw_bald kd_153 d_Mo_sum_35 ?_
  refine aw_bipush d_Mo_sum_36 kb_43 ?_
  refine aw_icmp_ne (tgt := 45) d_Mo_sum_38 rfl (fun q38 => ?_) (fun q38 => ?_)
  · refine aw_iconst d_Mo_sum_41 ki_2 ?_
    refine aw_goto (tgt := 46) d_Mo_sum_42 rfl ?_
    refine aw_sub (lo' := [(0, .ref 151)]) [0] rfl ?_
    exact tj_Mo_sum_46 _ _ _ _ hkr9 hkx9_75
  · refine aw_iconst d_Mo_sum_45 ki_3 ?_
    refine aw_sub (lo' := [(0, .ref 151)]) [0] rfl ?_
    exact tj_Mo_sum_46 _ _ _ _ hkr9 hkx9_75
def lp_Mo_sum_9 (kx9_75 : Dm → Option (Int32 × Dm)) : Nat → Dm → Option (Int32 × Dm)
  | 0, _ => none
  | f + 1, δ9 => ((f_Mo_see δ9).bind (fun y10 => bnd y10.1 (fun v10 => bnd y10.2 (fun δ_10 => (if v10 = (43 : Int32) then (jp_Mo_sum_27 (lp_Mo_sum_9 kx9_75 f) kx9_75 δ_10) else ((f_Mo_see δ_10).bind (fun y19 => bnd y19.1 (fun v19 => bnd y19.2 (fun δ_19 => (if v19 = (45 : Int32) then (jp_Mo_sum_27 (lp_Mo_sum_9 kx9_75 f) kx9_75 δ_19) else (kx9_75 δ_19)))))))))))
set_option maxHeartbeats 4000000 in
set_option maxRecDepth 100000 in
theorem tl_Mo_sum_9 {n : Nat} (kx9_75 : Dm → Option (Int32 × Dm)) (hkx9_75 : ∀ δ9k, AWo k_Mo_sum 6 0 0 75 [(0, .ref 151)] [] δ9k RT n 0 0 (Km RT n) (kx9_75 δ9k)) : ∀ (f : Nat) (δ9 : Dm), AWo k_Mo_sum 6 0 0 9 [(0, .ref 151)] [] δ9 RT n 0 0 (Km RT n) (lp_Mo_sum_9 kx9_75 f δ9) := by
  intro f
  induction f with
  | zero => intro _; exact aw_none
  | succ f ih =>
    intro δ9
    rw [lp_Mo_sum_9]
    refine aw_aload_n d_Mo_sum_9 0 rfl ?_
    refine aw_V_m (As := []) (m_Mo_see) cv_Mo_93 kd_151 rfl rfl rfl (Nat.le_of_ble_eq_true rfl) ⟨Nat.le_of_ble_eq_true rfl, Nat.le_of_ble_eq_true rfl⟩ ⟨Nat.le_refl _, Nat.le_refl _⟩ d_Mo_sum_10 (fun y10 => ?_)
    refine aw_bI (fun v10 => ?_)
    refine aw_bD (fun δ_10 => ?_)
    refine aw_bipush d_Mo_sum_13 kb_43 ?_
    refine aw_icmp_eq (tgt := 27) d_Mo_sum_15 rfl (fun q15 => ?_) (fun q15 => ?_)
    · refine aw_sub (lo' := [(0, .ref 151)]) [0] rfl ?_
      exact tj_Mo_sum_27 _ _ _ ih hkx9_75
    · refine aw_aload_n d_Mo_sum_18 0 rfl ?_
      refine aw_V_m (As := []) (m_Mo_see) cv_Mo_93 kd_151 rfl rfl rfl (Nat.le_of_ble_eq_true rfl) ⟨Nat.le_of_ble_eq_true rfl, Nat.le_of_ble_eq_true rfl⟩ ⟨Nat.le_refl _, Nat.le_refl _⟩ d_Mo_sum_19 (fun y19 => ?_)
      refine aw_bI (fun v19 => ?_)
      refine aw_bD (fun δ_19 => ?_)
      refine aw_bipush d_Mo_sum_22 kb_45 ?_
      refine aw_icmp_ne (tgt := 75) d_Mo_sum_24 rfl (fun q24 => ?_) (fun q24 => ?_)
      · refine aw_sub (lo' := [(0, .ref 151)]) [0] rfl ?_
        exact tj_Mo_sum_27 _ _ _ ih hkx9_75
      · refine aw_sub (lo' := [(0, .ref 151)]) [0] rfl ?_
        exact hkx9_75 _
def f_Mo_sum (δ : Dm) : Option (Int32 × Dm) := ((f_Mo_term δ).bind (fun y1 => bnd y1.1 (fun v1 => bnd y1.2 (fun δ_1 => (if v1 = 0 then (some ((0 : Int32), δ_1)) else (lp_Mo_sum_9 (fun δ9x => (some ((1 : Int32), δ9x))) FU δ_1))))))
set_option maxHeartbeats 4000000 in
set_option maxRecDepth 100000 in
theorem m_Mo_sum {δ : Dm} {n : Nat} : ∀ x, f_Mo_sum δ = some x → AMet k_Mo_sum 6 0 0 [.ref 151] δ RT n (Km RT n x) := by
  refine aw_start (lo := [(0, .ref 151)]) mok_Mo_sum rfl (Nat.le_of_ble_eq_true rfl) ?_
  unfold f_Mo_sum
  refine aw_aload_n d_Mo_sum_0 0 rfl ?_
  refine aw_V_m (As := []) (m_Mo_term) cv_Mo_169 kd_151 rfl rfl rfl (Nat.le_of_ble_eq_true rfl) ⟨Nat.le_of_ble_eq_true rfl, Nat.le_of_ble_eq_true rfl⟩ ⟨Nat.le_refl _, Nat.le_refl _⟩ d_Mo_sum_1 (fun y1 => ?_)
  refine aw_bI (fun v1 => ?_)
  refine aw_bD (fun δ_1 => ?_)
  refine aw_if_ne (tgt := 9) d_Mo_sum_4 rfl (fun q4 => ?_) (fun q4 => ?_)
  · refine aw_iconst d_Mo_sum_7 ki_0 ?_
    exact aw_zret rfl rfl rfl ⟨Nat.le_refl _, Nat.le_refl _⟩ d_Mo_sum_8
  · refine aw_sub (lo' := [(0, .ref 151)]) [0] rfl ?_
    refine tl_Mo_sum_9 _ (fun δ9x => ?_) FU _
    · refine aw_iconst d_Mo_sum_75 ki_1 ?_
      exact aw_zret rfl rfl rfl ⟨Nat.le_refl _, Nat.le_refl _⟩ d_Mo_sum_76
def f_Mo_takesWord (a1 : Int64) (δ : Dm) : Option (Int32 × Dm) := ((f_Mo_isWord a1 δ).bind (fun y2 => bnd y2.1 (fun v2 => bnd y2.2 (fun δ_2 => (if v2 = 0 then (some ((0 : Int32), δ_2)) else ((f_Mo_passWord δ_2).bind (fun y11 => (some ((1 : Int32), y11)))))))))
set_option maxHeartbeats 4000000 in
set_option maxRecDepth 100000 in
theorem m_Mo_takesWord {a1 : Int64} {δ : Dm} {n : Nat} : ∀ x, f_Mo_takesWord a1 δ = some x → AMet k_Mo_takesWord 3 0 0 [.ref 151, .long a1] δ RT n (Km RT n x) := by
  refine aw_start (lo := [(0, .ref 151), (1, .long a1)]) mok_Mo_takesWord rfl (Nat.le_of_ble_eq_true rfl) ?_
  unfold f_Mo_takesWord
  refine aw_aload_n d_Mo_takesWord_0 0 rfl ?_
  refine aw_lload_n d_Mo_takesWord_1 1 rfl ?_
  refine aw_V_m (As := [.long a1]) (m_Mo_isWord) cv_Mo_100 kd_151 rfl rfl rfl (Nat.le_of_ble_eq_true rfl) ⟨Nat.le_of_ble_eq_true rfl, Nat.le_of_ble_eq_true rfl⟩ ⟨Nat.le_refl _, Nat.le_refl _⟩ d_Mo_takesWord_2 (fun y2 => ?_)
  refine aw_bI (fun v2 => ?_)
  refine aw_bD (fun δ_2 => ?_)
  refine aw_if_ne (tgt := 10) d_Mo_takesWord_5 rfl (fun q5 => ?_) (fun q5 => ?_)
  · refine aw_iconst d_Mo_takesWord_8 ki_0 ?_
    exact aw_zret rfl rfl rfl ⟨Nat.le_refl _, Nat.le_refl _⟩ d_Mo_takesWord_9
  · refine aw_aload_n d_Mo_takesWord_10 0 rfl ?_
    refine aw_V_v (As := []) (m_Mo_passWord) cv_Mo_104 kd_151 rfl rfl rfl (Nat.le_of_ble_eq_true rfl) ⟨Nat.le_of_ble_eq_true rfl, Nat.le_of_ble_eq_true rfl⟩ ⟨Nat.le_refl _, Nat.le_refl _⟩ d_Mo_takesWord_11 (fun y11 => ?_)
    refine aw_iconst d_Mo_takesWord_14 ki_1 ?_
    exact aw_zret rfl rfl rfl ⟨Nat.le_refl _, Nat.le_refl _⟩ d_Mo_takesWord_15
def f_Mo_opens (a1 : Int32) (δ : Dm) : Option (Int32 × Dm) := (if (gI δ 151 14) = (10 : Int32) then ((f_Mo_fails (2 : Int32) (gI δ 151 9) δ).bind (fun y15 => bnd y15.1 (fun v15 => bnd y15.2 (fun δ_15 => (if v15 = 0 ∨ v15 = 1 then (some (v15, δ_15)) else none))))) else (bnd (sI δ 151 14 ((gI δ 151 14) + (1 : Int32))) (fun δ_26 => (if inb (gI δ_26 151 17) 400 then bnd (sI δ_26 159 (ix (gI δ_26 151 17)) a1) (fun δ_38 => (bnd (sI δ_38 151 17 ((gI δ_38 151 17) + (1 : Int32))) (fun δ_46 => (some ((1 : Int32), δ_46))))) else none))))
set_option maxHeartbeats 4000000 in
set_option maxRecDepth 100000 in
theorem m_Mo_opens {a1 : Int32} {δ : Dm} {n : Nat} : ∀ x, f_Mo_opens a1 δ = some x → AMet k_Mo_opens 2 0 0 [.ref 151, .int a1] δ RT n (Km RT n x) := by
  refine aw_start (lo := [(0, .ref 151), (1, .int a1)]) mok_Mo_opens rfl (Nat.le_of_ble_eq_true rfl) ?_
  unfold f_Mo_opens
  refine aw_aload_n d_Mo_opens_0 0 rfl ?_
  refine aw_getI fl_Mo_141 kd_151 d_Mo_opens_1 ?_
  refine aw_bipush d_Mo_opens_4 kb_10 ?_
  refine aw_icmp_ne (tgt := 19) d_Mo_opens_6 rfl (fun q6 => ?_) (fun q6 => ?_)
  · refine aw_aload_n d_Mo_opens_9 0 rfl ?_
    refine aw_iconst d_Mo_opens_10 ki_2 ?_
    refine aw_aload_n d_Mo_opens_11 0 rfl ?_
    refine aw_getI fl_Mo_90 kd_151 d_Mo_opens_12 ?_
    refine aw_V_m (As := [.int (2 : Int32), .int (gI δ 151 9)]) (m_Mo_fails) cv_Mo_110 kd_151 rfl rfl rfl (Nat.le_of_ble_eq_true rfl) ⟨Nat.le_of_ble_eq_true rfl, Nat.le_of_ble_eq_true rfl⟩ ⟨Nat.le_refl _, Nat.le_refl _⟩ d_Mo_opens_15 (fun y15 => ?_)
    refine aw_bI (fun v15 => ?_)
    refine aw_bD (fun δ_15 => ?_)
    exact aw_zr2 rfl rfl ⟨Nat.le_refl _, Nat.le_refl _⟩ d_Mo_opens_18
  · refine aw_aload_n d_Mo_opens_19 0 rfl ?_
    refine aw_dup d_Mo_opens_20 rfl ?_
    refine aw_getI fl_Mo_141 kd_151 d_Mo_opens_21 ?_
    refine aw_iconst d_Mo_opens_24 ki_1 ?_
    refine aw_iadd d_Mo_opens_25 ?_
    refine aw_putI pf_Mo_141 kd_151 d_Mo_opens_26 ?_
    refine aw_bD (fun δ_26 => ?_)
    refine aw_aload_n d_Mo_opens_29 0 rfl ?_
    refine aw_getR (t := 159) fl_Mo_32 kd_151 rt_151_16 d_Mo_opens_30 ?_
    refine aw_aload_n d_Mo_opens_33 0 rfl ?_
    refine aw_getI fl_Mo_144 kd_151 d_Mo_opens_34 ?_
    refine aw_iload_n d_Mo_opens_37 1 rfl ?_
    refine aw_iast kd_159 d_Mo_opens_38 ?_
    refine aw_bD (fun δ_38 => ?_)
    refine aw_aload_n d_Mo_opens_39 0 rfl ?_
    refine aw_dup d_Mo_opens_40 rfl ?_
    refine aw_getI fl_Mo_144 kd_151 d_Mo_opens_41 ?_
    refine aw_iconst d_Mo_opens_44 ki_1 ?_
    refine aw_iadd d_Mo_opens_45 ?_
    refine aw_putI pf_Mo_144 kd_151 d_Mo_opens_46 ?_
    refine aw_bD (fun δ_46 => ?_)
    refine aw_iconst d_Mo_opens_49 ki_1 ?_
    exact aw_zret rfl rfl rfl ⟨Nat.le_refl _, Nat.le_refl _⟩ d_Mo_opens_50
def jp_Mo_compare_152 (v10 : Int32) (v18 : Int32) (s0_90 : Int32) (δ_107 : Dm) (s0_152 : Int32) : Option (Int32 × Dm) := ((f_Mo_sum δ_107).bind (fun y155 => bnd y155.1 (fun v155 => bnd y155.2 (fun δ_155 => (if v155 = 0 then (some ((0 : Int32), δ_155)) else ((f_Mo_puts ((6 : Int32) + s0_152) (0 : Int32) δ_155).bind (fun y170 => (some ((1 : Int32), y170)))))))))
set_option maxHeartbeats 4000000 in
set_option maxRecDepth 100000 in
theorem tj_Mo_compare_152 {n : Nat} (v10 : Int32) (v18 : Int32) (s0_90 : Int32) (δ_107 : Dm) (s0_152 : Int32) : AWo k_Mo_compare 7 0 0 152 [(0, .ref 151), (1, .int v10), (2, .int v18), (3, .int s0_90)] [.int s0_152] δ_107 RT n 0 0 (Km RT n) (jp_Mo_compare_152 v10 v18 s0_90 δ_107 s0_152) := by
  unfold jp_Mo_compare_152
  refine aw_istore (lo' := [(4, .int s0_152), (0, .ref 151), (1, .int v10), (2, .int v18), (3, .int s0_90)]) d_Mo_compare_152 (by decide) rfl ?_
  refine aw_aload_n d_Mo_compare_154 1 rfl ?_
  refine aw_V_m (As := []) (m_Mo_sum) cv_Mo_172 kd_151 rfl rfl rfl (Nat.le_of_ble_eq_true rfl) ⟨Nat.le_of_ble_eq_true rfl, Nat.le_of_ble_eq_true rfl⟩ ⟨Nat.le_refl _, Nat.le_refl _⟩ d_Mo_compare_155 (fun y155 => ?_)
  refine aw_bI (fun v155 => ?_)
  refine aw_bD (fun δ_155 => ?_)
  refine aw_if_ne (tgt := 163) d_Mo_compare_158 rfl (fun q158 => ?_) (fun q158 => ?_)
  · refine aw_iconst d_Mo_compare_161 ki_0 ?_
    exact aw_zret rfl rfl rfl ⟨Nat.le_refl _, Nat.le_refl _⟩ d_Mo_compare_162
  · refine aw_aload_n d_Mo_compare_163 1 rfl ?_
    refine aw_bipush d_Mo_compare_164 kb_6 ?_
    refine aw_iload d_Mo_compare_166 0 rfl ?_
    refine aw_iadd d_Mo_compare_168 ?_
    refine aw_iconst d_Mo_compare_169 ki_0 ?_
    refine aw_V_v (As := [.int ((6 : Int32) + s0_152), .int (0 : Int32)]) (m_Mo_puts) cv_Mo_151 kd_151 rfl rfl rfl (Nat.le_of_ble_eq_true rfl) ⟨Nat.le_of_ble_eq_true rfl, Nat.le_of_ble_eq_true rfl⟩ ⟨Nat.le_refl _, Nat.le_refl _⟩ d_Mo_compare_170 (fun y170 => ?_)
    refine aw_iconst d_Mo_compare_173 ki_1 ?_
    exact aw_zret rfl rfl rfl ⟨Nat.le_refl _, Nat.le_refl _⟩ d_Mo_compare_174
def jp_Mo_compare_105 (v10 : Int32) (v18 : Int32) (s0_90 : Int32) (δ105 : Dm) : Option (Int32 × Dm) := ((f_Mo_makes v18 δ105).bind (fun y107 => bnd y107.1 (fun v107 => bnd y107.2 (fun δ_107 => (if v107 = 0 then (some ((0 : Int32), δ_107)) else (if v10 = (60 : Int32) then (if s0_90 = 0 then (jp_Mo_compare_152 v10 v18 s0_90 δ_107 (0 : Int32)) else (jp_Mo_compare_152 v10 v18 s0_90 δ_107 (1 : Int32))) else (if v10 = (61 : Int32) then (jp_Mo_compare_152 v10 v18 s0_90 δ_107 (2 : Int32)) else (if s0_90 = 0 then (jp_Mo_compare_152 v10 v18 s0_90 δ_107 (4 : Int32)) else (jp_Mo_compare_152 v10 v18 s0_90 δ_107 (3 : Int32))))))))))
set_option maxHeartbeats 4000000 in
set_option maxRecDepth 100000 in
theorem tj_Mo_compare_105 {n : Nat} (v10 : Int32) (v18 : Int32) (s0_90 : Int32) (δ105 : Dm) : AWo k_Mo_compare 7 0 0 105 [(0, .ref 151), (1, .int v10), (2, .int v18), (3, .int s0_90)] [] δ105 RT n 0 0 (Km RT n) (jp_Mo_compare_105 v10 v18 s0_90 δ105) := by
  unfold jp_Mo_compare_105
  refine aw_aload_n d_Mo_compare_105 0 rfl ?_
  refine aw_iload_n d_Mo_compare_106 2 rfl ?_
  refine aw_V_m (As := [.int v18]) (m_Mo_makes) cv_Mo_159 kd_151 rfl rfl rfl (Nat.le_of_ble_eq_true rfl) ⟨Nat.le_of_ble_eq_true rfl, Nat.le_of_ble_eq_true rfl⟩ ⟨Nat.le_refl _, Nat.le_refl _⟩ d_Mo_compare_107 (fun y107 => ?_)
  refine aw_bI (fun v107 => ?_)
  refine aw_bD (fun δ_107 => ?_)
  refine aw_if_ne (tgt := 115) d_Mo_compare_110 rfl (fun q110 => ?_) (fun q110 => ?_)
  · refine aw_iconst d_Mo_compare_113 ki_0 ?_
    exact aw_zret rfl rfl rfl ⟨Nat.le_refl _, Nat.le_refl _⟩ d_Mo_compare_114
  · refine aw_iload_n d_Mo_compare_115 1 rfl ?_
    refine aw_bipush d_Mo_compare_116 kb_60 ?_
    refine aw_icmp_ne (tgt := 133) d_Mo_compare_118 rfl (fun q118 => ?_) (fun q118 => ?_)
    · refine aw_iload_n d_Mo_compare_121 3 rfl ?_
      refine aw_if_eq (tgt := 129) d_Mo_compare_122 rfl (fun q122 => ?_) (fun q122 => ?_)
      · refine aw_iconst d_Mo_compare_129 ki_0 ?_
        refine aw_goto (tgt := 152) d_Mo_compare_130 rfl ?_
        refine aw_sub (lo' := [(0, .ref 151), (1, .int v10), (2, .int v18), (3, .int s0_90)]) [0, 1, 2, 3] rfl ?_
        exact tj_Mo_compare_152 _ _ _ _ _
      · refine aw_iconst d_Mo_compare_125 ki_1 ?_
        refine aw_goto (tgt := 152) d_Mo_compare_126 rfl ?_
        refine aw_sub (lo' := [(0, .ref 151), (1, .int v10), (2, .int v18), (3, .int s0_90)]) [0, 1, 2, 3] rfl ?_
        exact tj_Mo_compare_152 _ _ _ _ _
    · refine aw_iload_n d_Mo_compare_133 1 rfl ?_
      refine aw_bipush d_Mo_compare_134 kb_61 ?_
      refine aw_icmp_ne (tgt := 143) d_Mo_compare_136 rfl (fun q136 => ?_) (fun q136 => ?_)
      · refine aw_iconst d_Mo_compare_139 ki_2 ?_
        refine aw_goto (tgt := 152) d_Mo_compare_140 rfl ?_
        refine aw_sub (lo' := [(0, .ref 151), (1, .int v10), (2, .int v18), (3, .int s0_90)]) [0, 1, 2, 3] rfl ?_
        exact tj_Mo_compare_152 _ _ _ _ _
      · refine aw_iload_n d_Mo_compare_143 3 rfl ?_
        refine aw_if_eq (tgt := 151) d_Mo_compare_144 rfl (fun q144 => ?_) (fun q144 => ?_)
        · refine aw_iconst d_Mo_compare_151 ki_4 ?_
          refine aw_sub (lo' := [(0, .ref 151), (1, .int v10), (2, .int v18), (3, .int s0_90)]) [0, 1, 2, 3] rfl ?_
          exact tj_Mo_compare_152 _ _ _ _ _
        · refine aw_iconst d_Mo_compare_147 ki_3 ?_
          refine aw_goto (tgt := 152) d_Mo_compare_148 rfl ?_
          refine aw_sub (lo' := [(0, .ref 151), (1, .int v10), (2, .int v18), (3, .int s0_90)]) [0, 1, 2, 3] rfl ?_
          exact tj_Mo_compare_152 _ _ _ _ _
def jp_Mo_compare_90 (v10 : Int32) (v18 : Int32) (δ_51 : Dm) (s0_90 : Int32) : Option (Int32 × Dm) := (if s0_90 = 0 then (jp_Mo_compare_105 v10 v18 s0_90 δ_51) else (bnd (sI δ_51 151 9 ((gI δ_51 151 9) + (1 : Int32))) (fun δ_102 => (jp_Mo_compare_105 v10 v18 s0_90 δ_102))))
set_option maxHeartbeats 4000000 in
set_option maxRecDepth 100000 in
theorem tj_Mo_compare_90 {n : Nat} (v10 : Int32) (v18 : Int32) (δ_51 : Dm) (s0_90 : Int32) : AWo k_Mo_compare 7 0 0 90 [(0, .ref 151), (1, .int v10), (2, .int v18)] [.int s0_90] δ_51 RT n 0 0 (Km RT n) (jp_Mo_compare_90 v10 v18 δ_51 s0_90) := by
  unfold jp_Mo_compare_90
  refine aw_istore_n (lo' := [(3, .int s0_90), (0, .ref 151), (1, .int v10), (2, .int v18)]) d_Mo_compare_90 rfl (by decide) rfl ?_
  refine aw_iload_n d_Mo_compare_91 0 rfl ?_
  refine aw_if_eq (tgt := 105) d_Mo_compare_92 rfl (fun q92 => ?_) (fun q92 => ?_)
  · refine aw_sub (lo' := [(0, .ref 151), (1, .int v10), (2, .int v18), (3, .int s0_90)]) [1, 2, 3, 0] rfl ?_
    exact tj_Mo_compare_105 _ _ _ _
  · refine aw_aload_n d_Mo_compare_95 1 rfl ?_
    refine aw_dup d_Mo_compare_96 rfl ?_
    refine aw_getI fl_Mo_90 kd_151 d_Mo_compare_97 ?_
    refine aw_iconst d_Mo_compare_100 ki_1 ?_
    refine aw_iadd d_Mo_compare_101 ?_
    refine aw_putI pf_Mo_90 kd_151 d_Mo_compare_102 ?_
    refine aw_bD (fun δ_102 => ?_)
    refine aw_sub (lo' := [(0, .ref 151), (1, .int v10), (2, .int v18), (3, .int s0_90)]) [1, 2, 3, 0] rfl ?_
    exact tj_Mo_compare_105 _ _ _ _
def jp_Mo_compare_89 (v10 : Int32) (v18 : Int32) (δ_51 : Dm) : Option (Int32 × Dm) := (jp_Mo_compare_90 v10 v18 δ_51 (0 : Int32))
set_option maxHeartbeats 4000000 in
set_option maxRecDepth 100000 in
theorem tj_Mo_compare_89 {n : Nat} (v10 : Int32) (v18 : Int32) (δ_51 : Dm) : AWo k_Mo_compare 7 0 0 89 [(0, .ref 151), (1, .int v10), (2, .int v18)] [] δ_51 RT n 0 0 (Km RT n) (jp_Mo_compare_89 v10 v18 δ_51) := by
  unfold jp_Mo_compare_89
  refine aw_iconst d_Mo_compare_89 ki_0 ?_
  refine aw_sub (lo' := [(0, .ref 151), (1, .int v10), (2, .int v18)]) [0, 1, 2] rfl ?_
  exact tj_Mo_compare_90 _ _ _ _
def jp_Mo_compare_44 (v10 : Int32) (v18 : Int32) (δ_10 : Dm) : Option (Int32 × Dm) := (bnd (sI δ_10 151 9 ((gI δ_10 151 9) + (1 : Int32))) (fun δ_51 => (if v10 = (61 : Int32) then (jp_Mo_compare_89 v10 v18 δ_51) else (if (gI δ_51 151 2) ≤ (gI δ_51 151 9) then (jp_Mo_compare_89 v10 v18 δ_51) else (if inb (gI δ_51 151 9) 400 then (if (gI δ_51 153 (ix (gI δ_51 151 9))) = (61 : Int32) then (jp_Mo_compare_90 v10 v18 δ_51 (1 : Int32)) else (jp_Mo_compare_89 v10 v18 δ_51)) else none)))))
set_option maxHeartbeats 4000000 in
set_option maxRecDepth 100000 in
theorem tj_Mo_compare_44 {n : Nat} (v10 : Int32) (v18 : Int32) (δ_10 : Dm) : AWo k_Mo_compare 7 0 0 44 [(0, .ref 151), (1, .int v10), (2, .int v18)] [] δ_10 RT n 0 0 (Km RT n) (jp_Mo_compare_44 v10 v18 δ_10) := by
  unfold jp_Mo_compare_44
  refine aw_aload_n d_Mo_compare_44 0 rfl ?_
  refine aw_dup d_Mo_compare_45 rfl ?_
  refine aw_getI fl_Mo_90 kd_151 d_Mo_compare_46 ?_
  refine aw_iconst d_Mo_compare_49 ki_1 ?_
  refine aw_iadd d_Mo_compare_50 ?_
  refine aw_putI pf_Mo_90 kd_151 d_Mo_compare_51 ?_
  refine aw_bD (fun δ_51 => ?_)
  refine aw_iload_n d_Mo_compare_54 1 rfl ?_
  refine aw_bipush d_Mo_compare_55 kb_61 ?_
  refine aw_icmp_eq (tgt := 89) d_Mo_compare_57 rfl (fun q57 => ?_) (fun q57 => ?_)
  · refine aw_sub (lo' := [(0, .ref 151), (1, .int v10), (2, .int v18)]) [0, 1, 2] rfl ?_
    exact tj_Mo_compare_89 _ _ _
  · refine aw_aload_n d_Mo_compare_60 0 rfl ?_
    refine aw_getI fl_Mo_90 kd_151 d_Mo_compare_61 ?_
    refine aw_aload_n d_Mo_compare_64 0 rfl ?_
    refine aw_getI fl_Mo_79 kd_151 d_Mo_compare_65 ?_
    refine aw_icmp_ge (tgt := 89) d_Mo_compare_68 rfl (fun q68 => ?_) (fun q68 => ?_)
    · refine aw_sub (lo' := [(0, .ref 151), (1, .int v10), (2, .int v18)]) [0, 1, 2] rfl ?_
      exact tj_Mo_compare_89 _ _ _
    · refine aw_aload_n d_Mo_compare_71 0 rfl ?_
      refine aw_getR (t := 153) fl_Mo_13 kd_151 rt_151_1 d_Mo_compare_72 ?_
      refine aw_aload_n d_Mo_compare_75 0 rfl ?_
      refine aw_getI fl_Mo_90 kd_151 d_Mo_compare_76 ?_
      refine aw_bald kd_153 d_Mo_compare_79 ?_
      refine aw_bipush d_Mo_compare_80 kb_61 ?_
      refine aw_icmp_ne (tgt := 89) d_Mo_compare_82 rfl (fun q82 => ?_) (fun q82 => ?_)
      · refine aw_iconst d_Mo_compare_85 ki_1 ?_
        refine aw_goto (tgt := 90) d_Mo_compare_86 rfl ?_
        refine aw_sub (lo' := [(0, .ref 151), (1, .int v10), (2, .int v18)]) [0, 1, 2] rfl ?_
        exact tj_Mo_compare_90 _ _ _ _
      · refine aw_sub (lo' := [(0, .ref 151), (1, .int v10), (2, .int v18)]) [0, 1, 2] rfl ?_
        exact tj_Mo_compare_89 _ _ _
def f_Mo_compare (δ : Dm) : Option (Int32 × Dm) := ((f_Mo_sum δ).bind (fun y1 => bnd y1.1 (fun v1 => bnd y1.2 (fun δ_1 => (if v1 = 0 then (some ((0 : Int32), δ_1)) else ((f_Mo_see δ_1).bind (fun y10 => bnd y10.1 (fun v10 => bnd y10.2 (fun δ_10 => (bnd (gI δ_10 151 9) (fun v18 => (if v10 = (60 : Int32) then (jp_Mo_compare_44 v10 v18 δ_10) else (if v10 = (61 : Int32) then (jp_Mo_compare_44 v10 v18 δ_10) else (if v10 = (62 : Int32) then (jp_Mo_compare_44 v10 v18 δ_10) else ((f_Mo_fails (0 : Int32) v18 δ_10).bind (fun y40 => bnd y40.1 (fun v40 => bnd y40.2 (fun δ_40 => (if v40 = 0 ∨ v40 = 1 then (some (v40, δ_40)) else none)))))))))))))))))))
set_option maxHeartbeats 4000000 in
set_option maxRecDepth 100000 in
theorem m_Mo_compare {δ : Dm} {n : Nat} : ∀ x, f_Mo_compare δ = some x → AMet k_Mo_compare 7 0 0 [.ref 151] δ RT n (Km RT n x) := by
  refine aw_start (lo := [(0, .ref 151)]) mok_Mo_compare rfl (Nat.le_of_ble_eq_true rfl) ?_
  unfold f_Mo_compare
  refine aw_aload_n d_Mo_compare_0 0 rfl ?_
  refine aw_V_m (As := []) (m_Mo_sum) cv_Mo_172 kd_151 rfl rfl rfl (Nat.le_of_ble_eq_true rfl) ⟨Nat.le_of_ble_eq_true rfl, Nat.le_of_ble_eq_true rfl⟩ ⟨Nat.le_refl _, Nat.le_refl _⟩ d_Mo_compare_1 (fun y1 => ?_)
  refine aw_bI (fun v1 => ?_)
  refine aw_bD (fun δ_1 => ?_)
  refine aw_if_ne (tgt := 9) d_Mo_compare_4 rfl (fun q4 => ?_) (fun q4 => ?_)
  · refine aw_iconst d_Mo_compare_7 ki_0 ?_
    exact aw_zret rfl rfl rfl ⟨Nat.le_refl _, Nat.le_refl _⟩ d_Mo_compare_8
  · refine aw_aload_n d_Mo_compare_9 0 rfl ?_
    refine aw_V_m (As := []) (m_Mo_see) cv_Mo_93 kd_151 rfl rfl rfl (Nat.le_of_ble_eq_true rfl) ⟨Nat.le_of_ble_eq_true rfl, Nat.le_of_ble_eq_true rfl⟩ ⟨Nat.le_refl _, Nat.le_refl _⟩ d_Mo_compare_10 (fun y10 => ?_)
    refine aw_bI (fun v10 => ?_)
    refine aw_bD (fun δ_10 => ?_)
    refine aw_istore_n (lo' := [(1, .int v10), (0, .ref 151)]) d_Mo_compare_13 rfl (by decide) rfl ?_
    refine aw_aload_n d_Mo_compare_14 1 rfl ?_
    refine aw_getI fl_Mo_90 kd_151 d_Mo_compare_15 ?_
    refine aw_bI (fun v18 => ?_)
    refine aw_istore_n (lo' := [(2, .int v18), (1, .int v10), (0, .ref 151)]) d_Mo_compare_18 rfl (by decide) rfl ?_
    refine aw_iload_n d_Mo_compare_19 1 rfl ?_
    refine aw_bipush d_Mo_compare_20 kb_60 ?_
    refine aw_icmp_eq (tgt := 44) d_Mo_compare_22 rfl (fun q22 => ?_) (fun q22 => ?_)
    · refine aw_sub (lo' := [(0, .ref 151), (1, .int v10), (2, .int v18)]) [2, 1, 0] rfl ?_
      exact tj_Mo_compare_44 _ _ _
    · refine aw_iload_n d_Mo_compare_25 1 rfl ?_
      refine aw_bipush d_Mo_compare_26 kb_61 ?_
      refine aw_icmp_eq (tgt := 44) d_Mo_compare_28 rfl (fun q28 => ?_) (fun q28 => ?_)
      · refine aw_sub (lo' := [(0, .ref 151), (1, .int v10), (2, .int v18)]) [2, 1, 0] rfl ?_
        exact tj_Mo_compare_44 _ _ _
      · refine aw_iload_n d_Mo_compare_31 1 rfl ?_
        refine aw_bipush d_Mo_compare_32 kb_62 ?_
        refine aw_icmp_eq (tgt := 44) d_Mo_compare_34 rfl (fun q34 => ?_) (fun q34 => ?_)
        · refine aw_sub (lo' := [(0, .ref 151), (1, .int v10), (2, .int v18)]) [2, 1, 0] rfl ?_
          exact tj_Mo_compare_44 _ _ _
        · refine aw_aload_n d_Mo_compare_37 2 rfl ?_
          refine aw_iconst d_Mo_compare_38 ki_0 ?_
          refine aw_iload_n d_Mo_compare_39 0 rfl ?_
          refine aw_V_m (As := [.int (0 : Int32), .int v18]) (m_Mo_fails) cv_Mo_110 kd_151 rfl rfl rfl (Nat.le_of_ble_eq_true rfl) ⟨Nat.le_of_ble_eq_true rfl, Nat.le_of_ble_eq_true rfl⟩ ⟨Nat.le_refl _, Nat.le_refl _⟩ d_Mo_compare_40 (fun y40 => ?_)
          refine aw_bI (fun v40 => ?_)
          refine aw_bD (fun δ_40 => ?_)
          exact aw_zr2 rfl rfl ⟨Nat.le_refl _, Nat.le_refl _⟩ d_Mo_compare_43
def lp_Mo_fact_2 (kx2_75 : Int32 → Dm → Option (Int32 × Dm)) : Nat → Int32 → Dm → Option (Int32 × Dm)
  | 0, _, _ => none
  | f + 1, v1_2, δ2 => (if v1_2 = 0 then (kx2_75 v1_2 δ2) else ((f_Mo_see δ2).bind (fun y9 => bnd y9.1 (fun v9 => bnd y9.2 (fun δ_9 => ((f_Mo_isWord (7237492 : Int64) δ_9).bind (fun y17 => bnd y17.1 (fun v17 => bnd y17.2 (fun δ_17 => (if v17 = 0 then (if v9 = (91 : Int32) then ((f_Mo_opens (91 : Int32) δ_17).bind (fun y52 => bnd y52.1 (fun v52 => bnd y52.2 (fun δ_52 => (if v52 = 0 then (some ((0 : Int32), δ_52)) else (bnd (sI δ_52 151 9 ((gI δ_52 151 9) + (1 : Int32))) (fun δ_67 => (lp_Mo_fact_2 kx2_75 f (1 : Int32) δ_67)))))))) else (lp_Mo_fact_2 kx2_75 f (0 : Int32) δ_17)) else ((f_Mo_opens (11 : Int32) δ_17).bind (fun y26 => bnd y26.1 (fun v26 => bnd y26.2 (fun δ_26 => (if v26 = 0 then (some ((0 : Int32), δ_26)) else ((f_Mo_passWord δ_26).bind (fun y35 => (lp_Mo_fact_2 kx2_75 f (1 : Int32) y35))))))))))))))))))
set_option maxHeartbeats 4000000 in
set_option maxRecDepth 100000 in
theorem tl_Mo_fact_2 {n : Nat} (kx2_75 : Int32 → Dm → Option (Int32 × Dm)) (hkx2_75 : ∀ v1_2k δ2k, AWo k_Mo_fact 8 0 0 75 [(0, .ref 151), (1, .int v1_2k)] [] δ2k RT n 0 0 (Km RT n) (kx2_75 v1_2k δ2k)) : ∀ (f : Nat) (v1_2 : Int32) (δ2 : Dm), AWo k_Mo_fact 8 0 0 2 [(0, .ref 151), (1, .int v1_2)] [] δ2 RT n 0 0 (Km RT n) (lp_Mo_fact_2 kx2_75 f v1_2 δ2) := by
  intro f
  induction f with
  | zero => intro _ _; exact aw_none
  | succ f ih =>
    intro v1_2 δ2
    rw [lp_Mo_fact_2]
    refine aw_iload_n d_Mo_fact_2 1 rfl ?_
    refine aw_if_eq (tgt := 75) d_Mo_fact_3 rfl (fun q3 => ?_) (fun q3 => ?_)
    · refine aw_sub (lo' := [(0, .ref 151), (1, .int v1_2)]) [0, 1] rfl ?_
      exact hkx2_75 _ _
    · refine aw_iconst d_Mo_fact_6 ki_0 ?_
      refine aw_istore_n (lo' := [(1, .int (0 : Int32)), (0, .ref 151)]) d_Mo_fact_7 rfl (by decide) rfl ?_
      refine aw_aload_n d_Mo_fact_8 1 rfl ?_
      refine aw_V_m (As := []) (m_Mo_see) cv_Mo_93 kd_151 rfl rfl rfl (Nat.le_of_ble_eq_true rfl) ⟨Nat.le_of_ble_eq_true rfl, Nat.le_of_ble_eq_true rfl⟩ ⟨Nat.le_refl _, Nat.le_refl _⟩ d_Mo_fact_9 (fun y9 => ?_)
      refine aw_bI (fun v9 => ?_)
      refine aw_bD (fun δ_9 => ?_)
      refine aw_istore_n (lo' := [(2, .int v9), (1, .int (0 : Int32)), (0, .ref 151)]) d_Mo_fact_12 rfl (by decide) rfl ?_
      refine aw_aload_n d_Mo_fact_13 2 rfl ?_
      refine aw_ldc2 (v := (7237492 : Int64)) d_Mo_fact_14 kc_Mo_175 ?_
      refine aw_V_m (As := [.long (7237492 : Int64)]) (m_Mo_isWord) cv_Mo_100 kd_151 rfl rfl rfl (Nat.le_of_ble_eq_true rfl) ⟨Nat.le_of_ble_eq_true rfl, Nat.le_of_ble_eq_true rfl⟩ ⟨Nat.le_refl _, Nat.le_refl _⟩ d_Mo_fact_17 (fun y17 => ?_)
      refine aw_bI (fun v17 => ?_)
      refine aw_bD (fun δ_17 => ?_)
      refine aw_if_eq (tgt := 43) d_Mo_fact_20 rfl (fun q20 => ?_) (fun q20 => ?_)
      · refine aw_iload_n d_Mo_fact_43 0 rfl ?_
        refine aw_bipush d_Mo_fact_44 kb_91 ?_
        refine aw_icmp_ne (tgt := 72) d_Mo_fact_46 rfl (fun q46 => ?_) (fun q46 => ?_)
        · refine aw_aload_n d_Mo_fact_49 2 rfl ?_
          refine aw_bipush d_Mo_fact_50 kb_91 ?_
          refine aw_V_m (As := [.int (91 : Int32)]) (m_Mo_opens) cv_Mo_177 kd_151 rfl rfl rfl (Nat.le_of_ble_eq_true rfl) ⟨Nat.le_of_ble_eq_true rfl, Nat.le_of_ble_eq_true rfl⟩ ⟨Nat.le_refl _, Nat.le_refl _⟩ d_Mo_fact_52 (fun y52 => ?_)
          refine aw_bI (fun v52 => ?_)
          refine aw_bD (fun δ_52 => ?_)
          refine aw_if_ne (tgt := 60) d_Mo_fact_55 rfl (fun q55 => ?_) (fun q55 => ?_)
          · refine aw_iconst d_Mo_fact_58 ki_0 ?_
            exact aw_zret rfl rfl rfl ⟨Nat.le_refl _, Nat.le_refl _⟩ d_Mo_fact_59
          · refine aw_aload_n d_Mo_fact_60 2 rfl ?_
            refine aw_dup d_Mo_fact_61 rfl ?_
            refine aw_getI fl_Mo_90 kd_151 d_Mo_fact_62 ?_
            refine aw_iconst d_Mo_fact_65 ki_1 ?_
            refine aw_iadd d_Mo_fact_66 ?_
            refine aw_putI pf_Mo_90 kd_151 d_Mo_fact_67 ?_
            refine aw_bD (fun δ_67 => ?_)
            refine aw_iconst d_Mo_fact_70 ki_1 ?_
            refine aw_istore_n (lo' := [(1, .int (1 : Int32)), (2, .int v9), (0, .ref 151)]) d_Mo_fact_71 rfl (by decide) rfl ?_
            refine aw_goto (tgt := 2) d_Mo_fact_72 rfl ?_
            refine aw_sub (lo' := [(0, .ref 151), (1, .int (1 : Int32))]) [2, 0] rfl ?_
            exact ih _ _
        · refine aw_goto (tgt := 2) d_Mo_fact_72 rfl ?_
          refine aw_sub (lo' := [(0, .ref 151), (1, .int (0 : Int32))]) [2, 1] rfl ?_
          exact ih _ _
      · refine aw_aload_n d_Mo_fact_23 2 rfl ?_
        refine aw_bipush d_Mo_fact_24 kb_11 ?_
        refine aw_V_m (As := [.int (11 : Int32)]) (m_Mo_opens) cv_Mo_177 kd_151 rfl rfl rfl (Nat.le_of_ble_eq_true rfl) ⟨Nat.le_of_ble_eq_true rfl, Nat.le_of_ble_eq_true rfl⟩ ⟨Nat.le_refl _, Nat.le_refl _⟩ d_Mo_fact_26 (fun y26 => ?_)
        refine aw_bI (fun v26 => ?_)
        refine aw_bD (fun δ_26 => ?_)
        refine aw_if_ne (tgt := 34) d_Mo_fact_29 rfl (fun q29 => ?_) (fun q29 => ?_)
        · refine aw_iconst d_Mo_fact_32 ki_0 ?_
          exact aw_zret rfl rfl rfl ⟨Nat.le_refl _, Nat.le_refl _⟩ d_Mo_fact_33
        · refine aw_aload_n d_Mo_fact_34 2 rfl ?_
          refine aw_V_v (As := []) (m_Mo_passWord) cv_Mo_104 kd_151 rfl rfl rfl (Nat.le_of_ble_eq_true rfl) ⟨Nat.le_of_ble_eq_true rfl, Nat.le_of_ble_eq_true rfl⟩ ⟨Nat.le_refl _, Nat.le_refl _⟩ d_Mo_fact_35 (fun y35 => ?_)
          refine aw_iconst d_Mo_fact_38 ki_1 ?_
          refine aw_istore_n (lo' := [(1, .int (1 : Int32)), (2, .int v9), (0, .ref 151)]) d_Mo_fact_39 rfl (by decide) rfl ?_
          refine aw_goto (tgt := 72) d_Mo_fact_40 rfl ?_
          refine aw_goto (tgt := 2) d_Mo_fact_72 rfl ?_
          refine aw_sub (lo' := [(0, .ref 151), (1, .int (1 : Int32))]) [2, 0] rfl ?_
          exact ih _ _
def f_Mo_fact (δ : Dm) : Option (Int32 × Dm) := (lp_Mo_fact_2 (fun v1_2x δ2x => ((f_Mo_compare δ2x).bind (fun y76 => bnd y76.1 (fun v76 => bnd y76.2 (fun δ_76 => (if v76 = 0 ∨ v76 = 1 then (some (v76, δ_76)) else none)))))) FU (1 : Int32) δ)
set_option maxHeartbeats 4000000 in
set_option maxRecDepth 100000 in
theorem m_Mo_fact {δ : Dm} {n : Nat} : ∀ x, f_Mo_fact δ = some x → AMet k_Mo_fact 8 0 0 [.ref 151] δ RT n (Km RT n x) := by
  refine aw_start (lo := [(0, .ref 151)]) mok_Mo_fact rfl (Nat.le_of_ble_eq_true rfl) ?_
  unfold f_Mo_fact
  refine aw_iconst d_Mo_fact_0 ki_1 ?_
  refine aw_istore_n (lo' := [(1, .int (1 : Int32)), (0, .ref 151)]) d_Mo_fact_1 rfl (by decide) rfl ?_
  refine aw_sub (lo' := [(0, .ref 151), (1, .int (1 : Int32))]) [1, 0] rfl ?_
  refine tl_Mo_fact_2 _ (fun v1_2x δ2x => ?_) FU _ _
  · refine aw_aload_n d_Mo_fact_75 0 rfl ?_
    refine aw_V_m (As := []) (m_Mo_compare) cv_Mo_180 kd_151 rfl rfl rfl (Nat.le_of_ble_eq_true rfl) ⟨Nat.le_of_ble_eq_true rfl, Nat.le_of_ble_eq_true rfl⟩ ⟨Nat.le_refl _, Nat.le_refl _⟩ d_Mo_fact_76 (fun y76 => ?_)
    refine aw_bI (fun v76 => ?_)
    refine aw_bD (fun δ_76 => ?_)
    exact aw_zr2 rfl rfl ⟨Nat.le_refl _, Nat.le_refl _⟩ d_Mo_fact_79
def f_Mo_strength (a0 : Int32) (δ : Dm) : Option Int32 := (if a0 = (13 : Int32) then (some (1 : Int32)) else (if a0 = (12 : Int32) then (some (2 : Int32)) else (if a0 = (11 : Int32) then (some (3 : Int32)) else (some (0 : Int32)))))
set_option maxHeartbeats 4000000 in
set_option maxRecDepth 100000 in
theorem m_Mo_strength {a0 : Int32} {δ : Dm} {n : Nat} : ∀ x, f_Mo_strength a0 δ = some x → AMet k_Mo_strength 1 0 0 [.int a0] δ RT n (Kp δ RT n x) := by
  refine aw_start (lo := [(0, .int a0)]) mok_Mo_strength rfl (Nat.le_of_ble_eq_true rfl) ?_
  unfold f_Mo_strength
  refine aw_iload_n d_Mo_strength_0 0 rfl ?_
  refine aw_bipush d_Mo_strength_1 kb_13 ?_
  refine aw_icmp_ne (tgt := 10) d_Mo_strength_3 rfl (fun q3 => ?_) (fun q3 => ?_)
  · refine aw_iconst d_Mo_strength_6 ki_1 ?_
    refine aw_goto (tgt := 31) d_Mo_strength_7 rfl ?_
    exact aw_iret rfl rfl ⟨Nat.le_refl _, Nat.le_refl _⟩ d_Mo_strength_31
  · refine aw_iload_n d_Mo_strength_10 0 rfl ?_
    refine aw_bipush d_Mo_strength_11 kb_12 ?_
    refine aw_icmp_ne (tgt := 20) d_Mo_strength_13 rfl (fun q13 => ?_) (fun q13 => ?_)
    · refine aw_iconst d_Mo_strength_16 ki_2 ?_
      refine aw_goto (tgt := 31) d_Mo_strength_17 rfl ?_
      exact aw_iret rfl rfl ⟨Nat.le_refl _, Nat.le_refl _⟩ d_Mo_strength_31
    · refine aw_iload_n d_Mo_strength_20 0 rfl ?_
      refine aw_bipush d_Mo_strength_21 kb_11 ?_
      refine aw_icmp_ne (tgt := 30) d_Mo_strength_23 rfl (fun q23 => ?_) (fun q23 => ?_)
      · refine aw_iconst d_Mo_strength_26 ki_3 ?_
        refine aw_goto (tgt := 31) d_Mo_strength_27 rfl ?_
        exact aw_iret rfl rfl ⟨Nat.le_refl _, Nat.le_refl _⟩ d_Mo_strength_31
      · refine aw_iconst d_Mo_strength_30 ki_0 ?_
        exact aw_iret rfl rfl ⟨Nat.le_refl _, Nat.le_refl _⟩ d_Mo_strength_31
def lp_Mo_settles_0 (kx0_76 : Dm → Option Dm) (a1 : Int32) : Nat → Dm → Option Dm
  | 0, _ => none
  | f + 1, δ0 => (if (gI δ0 151 17) ≤ 0 then (kx0_76 δ0) else (if inb ((gI δ0 151 17) - (1 : Int32)) 400 then ((f_Mo_strength (gI δ0 159 (ix ((gI δ0 151 17) - (1 : Int32)))) δ0).bind (fun y18 => (if y18 < a1 then (kx0_76 δ0) else (bnd (sI δ0 151 17 ((gI δ0 151 17) - (1 : Int32))) (fun δ_32 => (if inb (gI δ_32 151 17) 400 then ((f_Mo_puts (gI δ_32 159 (ix (gI δ_32 151 17))) (0 : Int32) δ_32).bind (fun y46 => (if inb (gI y46 151 17) 400 then (if (gI y46 159 (ix (gI y46 151 17))) = (11 : Int32) then (bnd (sI y46 151 14 ((gI y46 151 14) - (1 : Int32))) (fun δ_70 => (lp_Mo_settles_0 kx0_76 a1 f δ_70))) else (lp_Mo_settles_0 kx0_76 a1 f y46)) else none))) else none)))))) else none))
set_option maxHeartbeats 4000000 in
set_option maxRecDepth 100000 in
theorem tl_Mo_settles_0 {n : Nat} (kx0_76 : Dm → Option Dm) (a1 : Int32) (hkx0_76 : ∀ δ0k, AWo k_Mo_settles 2 0 0 76 [(0, .ref 151), (1, .int a1)] [] δ0k RT n 0 0 (Kv RT n) (kx0_76 δ0k)) : ∀ (f : Nat) (δ0 : Dm), AWo k_Mo_settles 2 0 0 0 [(0, .ref 151), (1, .int a1)] [] δ0 RT n 0 0 (Kv RT n) (lp_Mo_settles_0 kx0_76 a1 f δ0) := by
  intro f
  induction f with
  | zero => intro _; exact aw_none
  | succ f ih =>
    intro δ0
    rw [lp_Mo_settles_0]
    refine aw_aload_n d_Mo_settles_0 0 rfl ?_
    refine aw_getI fl_Mo_144 kd_151 d_Mo_settles_1 ?_
    refine aw_if_le (tgt := 76) d_Mo_settles_4 rfl (fun q4 => ?_) (fun q4 => ?_)
    · refine aw_sub (lo' := [(0, .ref 151), (1, .int a1)]) [0, 1] rfl ?_
      exact hkx0_76 _
    · refine aw_aload_n d_Mo_settles_7 0 rfl ?_
      refine aw_getR (t := 159) fl_Mo_32 kd_151 rt_151_16 d_Mo_settles_8 ?_
      refine aw_aload_n d_Mo_settles_11 0 rfl ?_
      refine aw_getI fl_Mo_144 kd_151 d_Mo_settles_12 ?_
      refine aw_iconst d_Mo_settles_15 ki_1 ?_
      refine aw_isub d_Mo_settles_16 ?_
      refine aw_iald kd_159 d_Mo_settles_17 ?_
      refine aw_S_p (As := [.int (gI δ0 159 (ix ((gI δ0 151 17) - (1 : Int32))))]) (m_Mo_strength) cs_Mo_147 rfl rfl (Nat.le_of_ble_eq_true rfl) ⟨Nat.le_of_ble_eq_true rfl, Nat.le_of_ble_eq_true rfl⟩ ⟨Nat.le_refl _, Nat.le_refl _⟩ d_Mo_settles_18 (fun y18 => ?_)
      refine aw_iload_n d_Mo_settles_21 1 rfl ?_
      refine aw_icmp_lt (tgt := 76) d_Mo_settles_22 rfl (fun q22 => ?_) (fun q22 => ?_)
      · refine aw_sub (lo' := [(0, .ref 151), (1, .int a1)]) [0, 1] rfl ?_
        exact hkx0_76 _
      · refine aw_aload_n d_Mo_settles_25 0 rfl ?_
        refine aw_dup d_Mo_settles_26 rfl ?_
        refine aw_getI fl_Mo_144 kd_151 d_Mo_settles_27 ?_
        refine aw_iconst d_Mo_settles_30 ki_1 ?_
        refine aw_isub d_Mo_settles_31 ?_
        refine aw_putI pf_Mo_144 kd_151 d_Mo_settles_32 ?_
        refine aw_bD (fun δ_32 => ?_)
        refine aw_aload_n d_Mo_settles_35 0 rfl ?_
        refine aw_aload_n d_Mo_settles_36 0 rfl ?_
        refine aw_getR (t := 159) fl_Mo_32 kd_151 rt_151_16 d_Mo_settles_37 ?_
        refine aw_aload_n d_Mo_settles_40 0 rfl ?_
        refine aw_getI fl_Mo_144 kd_151 d_Mo_settles_41 ?_
        refine aw_iald kd_159 d_Mo_settles_44 ?_
        refine aw_iconst d_Mo_settles_45 ki_0 ?_
        refine aw_V_v (As := [.int (gI δ_32 159 (ix (gI δ_32 151 17))), .int (0 : Int32)]) (m_Mo_puts) cv_Mo_151 kd_151 rfl rfl rfl (Nat.le_of_ble_eq_true rfl) ⟨Nat.le_of_ble_eq_true rfl, Nat.le_of_ble_eq_true rfl⟩ ⟨Nat.le_refl _, Nat.le_refl _⟩ d_Mo_settles_46 (fun y46 => ?_)
        refine aw_aload_n d_Mo_settles_49 0 rfl ?_
        refine aw_getR (t := 159) fl_Mo_32 kd_151 rt_151_16 d_Mo_settles_50 ?_
        refine aw_aload_n d_Mo_settles_53 0 rfl ?_
        refine aw_getI fl_Mo_144 kd_151 d_Mo_settles_54 ?_
        refine aw_iald kd_159 d_Mo_settles_57 ?_
        refine aw_bipush d_Mo_settles_58 kb_11 ?_
        refine aw_icmp_ne (tgt := 0) d_Mo_settles_60 rfl (fun q60 => ?_) (fun q60 => ?_)
        · refine aw_aload_n d_Mo_settles_63 0 rfl ?_
          refine aw_dup d_Mo_settles_64 rfl ?_
          refine aw_getI fl_Mo_141 kd_151 d_Mo_settles_65 ?_
          refine aw_iconst d_Mo_settles_68 ki_1 ?_
          refine aw_isub d_Mo_settles_69 ?_
          refine aw_putI pf_Mo_141 kd_151 d_Mo_settles_70 ?_
          refine aw_bD (fun δ_70 => ?_)
          refine aw_goto (tgt := 0) d_Mo_settles_73 rfl ?_
          refine aw_sub (lo' := [(0, .ref 151), (1, .int a1)]) [0, 1] rfl ?_
          exact ih _
        · refine aw_sub (lo' := [(0, .ref 151), (1, .int a1)]) [0, 1] rfl ?_
          exact ih _
def f_Mo_settles (a1 : Int32) (δ : Dm) : Option Dm := (lp_Mo_settles_0 (fun δ0x => (some δ0x)) a1 FU δ)
set_option maxHeartbeats 4000000 in
set_option maxRecDepth 100000 in
theorem m_Mo_settles {a1 : Int32} {δ : Dm} {n : Nat} : ∀ x, f_Mo_settles a1 δ = some x → AMet k_Mo_settles 2 0 0 [.ref 151, .int a1] δ RT n (Kv RT n x) := by
  refine aw_start (lo := [(0, .ref 151), (1, .int a1)]) mok_Mo_settles rfl (Nat.le_of_ble_eq_true rfl) ?_
  unfold f_Mo_settles
  refine aw_sub (lo' := [(0, .ref 151), (1, .int a1)]) [0, 1] rfl ?_
  refine tl_Mo_settles_0 _ _ (fun δ0x => ?_) FU _
  · exact aw_vret rfl rfl ⟨Nat.le_refl _, Nat.le_refl _⟩ d_Mo_settles_76
def lp_Mo_isInside_2 (kx2_29 : Int32 → Option Int32) (δ : Dm) : Nat → Int32 → Option Int32
  | 0, _ => none
  | f + 1, v1_2 => (if (gI δ 151 17) ≤ v1_2 then (kx2_29 v1_2) else (if inb v1_2 400 then (if (gI δ 159 (ix v1_2)) = (91 : Int32) then (some (1 : Int32)) else (lp_Mo_isInside_2 kx2_29 δ f (v1_2 + (1 : Int32)))) else none))
set_option maxHeartbeats 4000000 in
set_option maxRecDepth 100000 in
theorem tl_Mo_isInside_2 {n : Nat} (kx2_29 : Int32 → Option Int32) (δ : Dm) (hkx2_29 : ∀ v1_2k, AWo k_Mo_isInside 1 0 0 29 [(0, .ref 151), (1, .int v1_2k)] [] δ RT n 0 0 (Kp δ RT n) (kx2_29 v1_2k)) : ∀ (f : Nat) (v1_2 : Int32), AWo k_Mo_isInside 1 0 0 2 [(0, .ref 151), (1, .int v1_2)] [] δ RT n 0 0 (Kp δ RT n) (lp_Mo_isInside_2 kx2_29 δ f v1_2) := by
  intro f
  induction f with
  | zero => intro _; exact aw_none
  | succ f ih =>
    intro v1_2
    rw [lp_Mo_isInside_2]
    refine aw_iload_n d_Mo_isInside_2 1 rfl ?_
    refine aw_aload_n d_Mo_isInside_3 0 rfl ?_
    refine aw_getI fl_Mo_144 kd_151 d_Mo_isInside_4 ?_
    refine aw_icmp_ge (tgt := 29) d_Mo_isInside_7 rfl (fun q7 => ?_) (fun q7 => ?_)
    · refine aw_sub (lo' := [(0, .ref 151), (1, .int v1_2)]) [0, 1] rfl ?_
      exact hkx2_29 _
    · refine aw_aload_n d_Mo_isInside_10 0 rfl ?_
      refine aw_getR (t := 159) fl_Mo_32 kd_151 rt_151_16 d_Mo_isInside_11 ?_
      refine aw_iload_n d_Mo_isInside_14 1 rfl ?_
      refine aw_iald kd_159 d_Mo_isInside_15 ?_
      refine aw_bipush d_Mo_isInside_16 kb_91 ?_
      refine aw_icmp_ne (tgt := 23) d_Mo_isInside_18 rfl (fun q18 => ?_) (fun q18 => ?_)
      · refine aw_iconst d_Mo_isInside_21 ki_1 ?_
        exact aw_zret rfl rfl rfl ⟨Nat.le_refl _, Nat.le_refl _⟩ d_Mo_isInside_22
      · refine aw_iinc (v := (v1_2 + (1 : Int32))) (lo' := [(1, .int (v1_2 + (1 : Int32))), (0, .ref 151)]) d_Mo_isInside_23 1 rfl (by rw [show Int32.ofInt (1) = (1 : Int32) from by decide]) (by decide) rfl ?_
        refine aw_goto (tgt := 2) d_Mo_isInside_26 rfl ?_
        refine aw_sub (lo' := [(0, .ref 151), (1, .int (v1_2 + (1 : Int32)))]) [1, 0] rfl ?_
        exact ih _
def f_Mo_isInside (δ : Dm) : Option Int32 := (lp_Mo_isInside_2 (fun v1_2x => (some (0 : Int32))) δ FU (0 : Int32))
set_option maxHeartbeats 4000000 in
set_option maxRecDepth 100000 in
theorem m_Mo_isInside {δ : Dm} {n : Nat} : ∀ x, f_Mo_isInside δ = some x → AMet k_Mo_isInside 1 0 0 [.ref 151] δ RT n (Kp δ RT n x) := by
  refine aw_start (lo := [(0, .ref 151)]) mok_Mo_isInside rfl (Nat.le_of_ble_eq_true rfl) ?_
  unfold f_Mo_isInside
  refine aw_iconst d_Mo_isInside_0 ki_0 ?_
  refine aw_istore_n (lo' := [(1, .int (0 : Int32)), (0, .ref 151)]) d_Mo_isInside_1 rfl (by decide) rfl ?_
  refine aw_sub (lo' := [(0, .ref 151), (1, .int (0 : Int32))]) [1, 0] rfl ?_
  refine tl_Mo_isInside_2 _ _ (fun v1_2x => ?_) FU _
  · refine aw_iconst d_Mo_isInside_29 ki_0 ?_
    exact aw_zret rfl rfl rfl ⟨Nat.le_refl _, Nat.le_refl _⟩ d_Mo_isInside_30
def lp_Mo_closes_5 (kx5_64 : Dm → Option Dm) : Nat → Dm → Option Dm
  | 0, _ => none
  | f + 1, δ5 => ((f_Mo_see δ5).bind (fun y6 => bnd y6.1 (fun v6 => bnd y6.2 (fun δ_6 => (if v6 = (93 : Int32) then ((f_Mo_isInside δ_6).bind (fun y15 => (if y15 = 0 then (kx5_64 δ_6) else ((f_Mo_settles (1 : Int32) δ_6).bind (fun y23 => (bnd (sI y23 151 17 ((gI y23 151 17) - (1 : Int32))) (fun δ_33 => (bnd (sI δ_33 151 14 ((gI δ_33 151 14) - (1 : Int32))) (fun δ_43 => (bnd (sI δ_43 151 9 ((gI δ_43 151 9) + (1 : Int32))) (fun δ_53 => ((f_Mo_settles (3 : Int32) δ_53).bind (fun y58 => (lp_Mo_closes_5 kx5_64 f y58)))))))))))))) else (kx5_64 δ_6))))))
set_option maxHeartbeats 4000000 in
set_option maxRecDepth 100000 in
theorem tl_Mo_closes_5 {n : Nat} (kx5_64 : Dm → Option Dm) (hkx5_64 : ∀ δ5k, AWo k_Mo_closes 3 0 0 64 [(0, .ref 151)] [] δ5k RT n 0 0 (Kv RT n) (kx5_64 δ5k)) : ∀ (f : Nat) (δ5 : Dm), AWo k_Mo_closes 3 0 0 5 [(0, .ref 151)] [] δ5 RT n 0 0 (Kv RT n) (lp_Mo_closes_5 kx5_64 f δ5) := by
  intro f
  induction f with
  | zero => intro _; exact aw_none
  | succ f ih =>
    intro δ5
    rw [lp_Mo_closes_5]
    refine aw_aload_n d_Mo_closes_5 0 rfl ?_
    refine aw_V_m (As := []) (m_Mo_see) cv_Mo_93 kd_151 rfl rfl rfl (Nat.le_of_ble_eq_true rfl) ⟨Nat.le_of_ble_eq_true rfl, Nat.le_of_ble_eq_true rfl⟩ ⟨Nat.le_refl _, Nat.le_refl _⟩ d_Mo_closes_6 (fun y6 => ?_)
    refine aw_bI (fun v6 => ?_)
    refine aw_bD (fun δ_6 => ?_)
    refine aw_bipush d_Mo_closes_9 kb_93 ?_
    refine aw_icmp_ne (tgt := 64) d_Mo_closes_11 rfl (fun q11 => ?_) (fun q11 => ?_)
    · refine aw_aload_n d_Mo_closes_14 0 rfl ?_
      refine aw_V_p (As := []) (m_Mo_isInside) cv_Mo_186 kd_151 rfl rfl rfl (Nat.le_of_ble_eq_true rfl) ⟨Nat.le_of_ble_eq_true rfl, Nat.le_of_ble_eq_true rfl⟩ ⟨Nat.le_refl _, Nat.le_refl _⟩ d_Mo_closes_15 (fun y15 => ?_)
      refine aw_if_eq (tgt := 64) d_Mo_closes_18 rfl (fun q18 => ?_) (fun q18 => ?_)
      · refine aw_sub (lo' := [(0, .ref 151)]) [0] rfl ?_
        exact hkx5_64 _
      · refine aw_aload_n d_Mo_closes_21 0 rfl ?_
        refine aw_iconst d_Mo_closes_22 ki_1 ?_
        refine aw_V_v (As := [.int (1 : Int32)]) (m_Mo_settles) cv_Mo_183 kd_151 rfl rfl rfl (Nat.le_of_ble_eq_true rfl) ⟨Nat.le_of_ble_eq_true rfl, Nat.le_of_ble_eq_true rfl⟩ ⟨Nat.le_refl _, Nat.le_refl _⟩ d_Mo_closes_23 (fun y23 => ?_)
        refine aw_aload_n d_Mo_closes_26 0 rfl ?_
        refine aw_dup d_Mo_closes_27 rfl ?_
        refine aw_getI fl_Mo_144 kd_151 d_Mo_closes_28 ?_
        refine aw_iconst d_Mo_closes_31 ki_1 ?_
        refine aw_isub d_Mo_closes_32 ?_
        refine aw_putI pf_Mo_144 kd_151 d_Mo_closes_33 ?_
        refine aw_bD (fun δ_33 => ?_)
        refine aw_aload_n d_Mo_closes_36 0 rfl ?_
        refine aw_dup d_Mo_closes_37 rfl ?_
        refine aw_getI fl_Mo_141 kd_151 d_Mo_closes_38 ?_
        refine aw_iconst d_Mo_closes_41 ki_1 ?_
        refine aw_isub d_Mo_closes_42 ?_
        refine aw_putI pf_Mo_141 kd_151 d_Mo_closes_43 ?_
        refine aw_bD (fun δ_43 => ?_)
        refine aw_aload_n d_Mo_closes_46 0 rfl ?_
        refine aw_dup d_Mo_closes_47 rfl ?_
        refine aw_getI fl_Mo_90 kd_151 d_Mo_closes_48 ?_
        refine aw_iconst d_Mo_closes_51 ki_1 ?_
        refine aw_iadd d_Mo_closes_52 ?_
        refine aw_putI pf_Mo_90 kd_151 d_Mo_closes_53 ?_
        refine aw_bD (fun δ_53 => ?_)
        refine aw_aload_n d_Mo_closes_56 0 rfl ?_
        refine aw_iconst d_Mo_closes_57 ki_3 ?_
        refine aw_V_v (As := [.int (3 : Int32)]) (m_Mo_settles) cv_Mo_183 kd_151 rfl rfl rfl (Nat.le_of_ble_eq_true rfl) ⟨Nat.le_of_ble_eq_true rfl, Nat.le_of_ble_eq_true rfl⟩ ⟨Nat.le_refl _, Nat.le_refl _⟩ d_Mo_closes_58 (fun y58 => ?_)
        refine aw_goto (tgt := 5) d_Mo_closes_61 rfl ?_
        refine aw_sub (lo' := [(0, .ref 151)]) [0] rfl ?_
        exact ih _
    · refine aw_sub (lo' := [(0, .ref 151)]) [0] rfl ?_
      exact hkx5_64 _
def f_Mo_closes (δ : Dm) : Option Dm := ((f_Mo_settles (3 : Int32) δ).bind (fun y2 => (lp_Mo_closes_5 (fun δ5x => (some δ5x)) FU y2)))
set_option maxHeartbeats 4000000 in
set_option maxRecDepth 100000 in
theorem m_Mo_closes {δ : Dm} {n : Nat} : ∀ x, f_Mo_closes δ = some x → AMet k_Mo_closes 3 0 0 [.ref 151] δ RT n (Kv RT n x) := by
  refine aw_start (lo := [(0, .ref 151)]) mok_Mo_closes rfl (Nat.le_of_ble_eq_true rfl) ?_
  unfold f_Mo_closes
  refine aw_aload_n d_Mo_closes_0 0 rfl ?_
  refine aw_iconst d_Mo_closes_1 ki_3 ?_
  refine aw_V_v (As := [.int (3 : Int32)]) (m_Mo_settles) cv_Mo_183 kd_151 rfl rfl rfl (Nat.le_of_ble_eq_true rfl) ⟨Nat.le_of_ble_eq_true rfl, Nat.le_of_ble_eq_true rfl⟩ ⟨Nat.le_refl _, Nat.le_refl _⟩ d_Mo_closes_2 (fun y2 => ?_)
  refine aw_sub (lo' := [(0, .ref 151)]) [0] rfl ?_
  refine tl_Mo_closes_5 _ (fun δ5x => ?_) FU _
  · exact aw_vret rfl rfl ⟨Nat.le_refl _, Nat.le_refl _⟩ d_Mo_closes_64
def jp_Mo_tested_76 (kr12 : Int32 → Dm → Option (Int32 × Dm)) (kx12_112 : Int32 → Dm → Option (Int32 × Dm)) (s0_54 : Int32) (δ_63 : Dm) (s0_76 : Int32) : Option (Int32 × Dm) := ((f_Mo_passWord δ_63).bind (fun y78 => ((f_Mo_strength s0_76 y78).bind (fun y83 => ((f_Mo_settles y83 y78).bind (fun y86 => (if inb (gI y86 151 17) 400 then bnd (sI y86 159 (ix (gI y86 151 17)) s0_76) (fun δ_98 => (bnd (sI δ_98 151 17 ((gI δ_98 151 17) + (1 : Int32))) (fun δ_106 => (kr12 s0_54 δ_106)))) else none)))))))
set_option maxHeartbeats 4000000 in
set_option maxRecDepth 100000 in
theorem tj_Mo_tested_76 {n : Nat} (kr12 : Int32 → Dm → Option (Int32 × Dm)) (kx12_112 : Int32 → Dm → Option (Int32 × Dm)) (s0_54 : Int32) (δ_63 : Dm) (s0_76 : Int32) (hkr12 : ∀ v1_12k δ12k, AWo k_Mo_tested 9 0 0 12 [(0, .ref 151), (1, .int v1_12k)] [] δ12k RT n 0 0 (Km RT n) (kr12 v1_12k δ12k)) (hkx12_112 : ∀ v1_12k δ12k, AWo k_Mo_tested 9 0 0 112 [(0, .ref 151), (1, .int v1_12k)] [] δ12k RT n 0 0 (Km RT n) (kx12_112 v1_12k δ12k)) : AWo k_Mo_tested 9 0 0 76 [(0, .ref 151), (1, .int s0_54)] [.int s0_76] δ_63 RT n 0 0 (Km RT n) (jp_Mo_tested_76 kr12 kx12_112 s0_54 δ_63 s0_76) := by
  unfold jp_Mo_tested_76
  refine aw_istore_n (lo' := [(2, .int s0_76), (0, .ref 151), (1, .int s0_54)]) d_Mo_tested_76 rfl (by decide) rfl ?_
  refine aw_aload_n d_Mo_tested_77 1 rfl ?_
  refine aw_V_v (As := []) (m_Mo_passWord) cv_Mo_104 kd_151 rfl rfl rfl (Nat.le_of_ble_eq_true rfl) ⟨Nat.le_of_ble_eq_true rfl, Nat.le_of_ble_eq_true rfl⟩ ⟨Nat.le_refl _, Nat.le_refl _⟩ d_Mo_tested_78 (fun y78 => ?_)
  refine aw_aload_n d_Mo_tested_81 1 rfl ?_
  refine aw_iload_n d_Mo_tested_82 0 rfl ?_
  refine aw_S_p (As := [.int s0_76]) (m_Mo_strength) cs_Mo_147 rfl rfl (Nat.le_of_ble_eq_true rfl) ⟨Nat.le_of_ble_eq_true rfl, Nat.le_of_ble_eq_true rfl⟩ ⟨Nat.le_refl _, Nat.le_refl _⟩ d_Mo_tested_83 (fun y83 => ?_)
  refine aw_V_v (As := [.int y83]) (m_Mo_settles) cv_Mo_183 kd_151 rfl rfl rfl (Nat.le_of_ble_eq_true rfl) ⟨Nat.le_of_ble_eq_true rfl, Nat.le_of_ble_eq_true rfl⟩ ⟨Nat.le_refl _, Nat.le_refl _⟩ d_Mo_tested_86 (fun y86 => ?_)
  refine aw_aload_n d_Mo_tested_89 1 rfl ?_
  refine aw_getR (t := 159) fl_Mo_32 kd_151 rt_151_16 d_Mo_tested_90 ?_
  refine aw_aload_n d_Mo_tested_93 1 rfl ?_
  refine aw_getI fl_Mo_144 kd_151 d_Mo_tested_94 ?_
  refine aw_iload_n d_Mo_tested_97 0 rfl ?_
  refine aw_iast kd_159 d_Mo_tested_98 ?_
  refine aw_bD (fun δ_98 => ?_)
  refine aw_aload_n d_Mo_tested_99 1 rfl ?_
  refine aw_dup d_Mo_tested_100 rfl ?_
  refine aw_getI fl_Mo_144 kd_151 d_Mo_tested_101 ?_
  refine aw_iconst d_Mo_tested_104 ki_1 ?_
  refine aw_iadd d_Mo_tested_105 ?_
  refine aw_putI pf_Mo_144 kd_151 d_Mo_tested_106 ?_
  refine aw_bD (fun δ_106 => ?_)
  refine aw_goto (tgt := 12) d_Mo_tested_109 rfl ?_
  refine aw_sub (lo' := [(0, .ref 151), (1, .int s0_54)]) [1, 2] rfl ?_
  exact hkr12 _ _
def jp_Mo_tested_54 (kr12 : Int32 → Dm → Option (Int32 × Dm)) (kx12_112 : Int32 → Dm → Option (Int32 × Dm)) (v1_12 : Int32) (s0_54 : Int32) (δ54 : Dm) : Option (Int32 × Dm) := (if s0_54 = 0 then (kr12 s0_54 δ54) else ((f_Mo_isWord (6385252 : Int64) δ54).bind (fun y63 => bnd y63.1 (fun v63 => bnd y63.2 (fun δ_63 => (if v63 = 0 then (jp_Mo_tested_76 kr12 kx12_112 s0_54 δ_63 (13 : Int32)) else (jp_Mo_tested_76 kr12 kx12_112 s0_54 δ_63 (12 : Int32))))))))
set_option maxHeartbeats 4000000 in
set_option maxRecDepth 100000 in
theorem tj_Mo_tested_54 {n : Nat} (kr12 : Int32 → Dm → Option (Int32 × Dm)) (kx12_112 : Int32 → Dm → Option (Int32 × Dm)) (v1_12 : Int32) (s0_54 : Int32) (δ54 : Dm) (hkr12 : ∀ v1_12k δ12k, AWo k_Mo_tested 9 0 0 12 [(0, .ref 151), (1, .int v1_12k)] [] δ12k RT n 0 0 (Km RT n) (kr12 v1_12k δ12k)) (hkx12_112 : ∀ v1_12k δ12k, AWo k_Mo_tested 9 0 0 112 [(0, .ref 151), (1, .int v1_12k)] [] δ12k RT n 0 0 (Km RT n) (kx12_112 v1_12k δ12k)) : AWo k_Mo_tested 9 0 0 54 [(0, .ref 151), (1, .int v1_12)] [.int s0_54] δ54 RT n 0 0 (Km RT n) (jp_Mo_tested_54 kr12 kx12_112 v1_12 s0_54 δ54) := by
  unfold jp_Mo_tested_54
  refine aw_istore_n (lo' := [(1, .int s0_54), (0, .ref 151)]) d_Mo_tested_54 rfl (by decide) rfl ?_
  refine aw_iload_n d_Mo_tested_55 0 rfl ?_
  refine aw_if_eq (tgt := 12) d_Mo_tested_56 rfl (fun q56 => ?_) (fun q56 => ?_)
  · refine aw_sub (lo' := [(0, .ref 151), (1, .int s0_54)]) [1, 0] rfl ?_
    exact hkr12 _ _
  · refine aw_aload_n d_Mo_tested_59 1 rfl ?_
    refine aw_ldc2 (v := (6385252 : Int64)) d_Mo_tested_60 kc_Mo_195 ?_
    refine aw_V_m (As := [.long (6385252 : Int64)]) (m_Mo_isWord) cv_Mo_100 kd_151 rfl rfl rfl (Nat.le_of_ble_eq_true rfl) ⟨Nat.le_of_ble_eq_true rfl, Nat.le_of_ble_eq_true rfl⟩ ⟨Nat.le_refl _, Nat.le_refl _⟩ d_Mo_tested_63 (fun y63 => ?_)
    refine aw_bI (fun v63 => ?_)
    refine aw_bD (fun δ_63 => ?_)
    refine aw_if_eq (tgt := 74) d_Mo_tested_66 rfl (fun q66 => ?_) (fun q66 => ?_)
    · refine aw_bipush d_Mo_tested_74 kb_13 ?_
      refine aw_sub (lo' := [(0, .ref 151), (1, .int s0_54)]) [1, 0] rfl ?_
      exact tj_Mo_tested_76 _ _ _ _ _ hkr12 hkx12_112
    · refine aw_bipush d_Mo_tested_69 kb_12 ?_
      refine aw_goto (tgt := 76) d_Mo_tested_71 rfl ?_
      refine aw_sub (lo' := [(0, .ref 151), (1, .int s0_54)]) [1, 0] rfl ?_
      exact tj_Mo_tested_76 _ _ _ _ _ hkr12 hkx12_112
def jp_Mo_tested_49 (kr12 : Int32 → Dm → Option (Int32 × Dm)) (kx12_112 : Int32 → Dm → Option (Int32 × Dm)) (v1_12 : Int32) (δ49 : Dm) : Option (Int32 × Dm) := (jp_Mo_tested_54 kr12 kx12_112 v1_12 (1 : Int32) δ49)
set_option maxHeartbeats 4000000 in
set_option maxRecDepth 100000 in
theorem tj_Mo_tested_49 {n : Nat} (kr12 : Int32 → Dm → Option (Int32 × Dm)) (kx12_112 : Int32 → Dm → Option (Int32 × Dm)) (v1_12 : Int32) (δ49 : Dm) (hkr12 : ∀ v1_12k δ12k, AWo k_Mo_tested 9 0 0 12 [(0, .ref 151), (1, .int v1_12k)] [] δ12k RT n 0 0 (Km RT n) (kr12 v1_12k δ12k)) (hkx12_112 : ∀ v1_12k δ12k, AWo k_Mo_tested 9 0 0 112 [(0, .ref 151), (1, .int v1_12k)] [] δ12k RT n 0 0 (Km RT n) (kx12_112 v1_12k δ12k)) : AWo k_Mo_tested 9 0 0 49 [(0, .ref 151), (1, .int v1_12)] [] δ49 RT n 0 0 (Km RT n) (jp_Mo_tested_49 kr12 kx12_112 v1_12 δ49) := by
  unfold jp_Mo_tested_49
  refine aw_iconst d_Mo_tested_49 ki_1 ?_
  refine aw_goto (tgt := 54) d_Mo_tested_50 rfl ?_
  refine aw_sub (lo' := [(0, .ref 151), (1, .int v1_12)]) [0, 1] rfl ?_
  exact tj_Mo_tested_54 _ _ _ _ _ hkr12 hkx12_112
def lp_Mo_tested_12 (kx12_112 : Int32 → Dm → Option (Int32 × Dm)) : Nat → Int32 → Dm → Option (Int32 × Dm)
  | 0, _, _ => none
  | f + 1, v1_12, δ12 => (if v1_12 = 0 then (kx12_112 v1_12 δ12) else ((f_Mo_fact δ12).bind (fun y17 => bnd y17.1 (fun v17 => bnd y17.2 (fun δ_17 => (if v17 = 0 then (some ((0 : Int32), δ_17)) else ((f_Mo_closes δ_17).bind (fun y26 => ((f_Mo_isWord (6385252 : Int64) y26).bind (fun y33 => bnd y33.1 (fun v33 => bnd y33.2 (fun δ_33 => (if v33 = 0 then ((f_Mo_isWord (28530 : Int64) δ_33).bind (fun y43 => bnd y43.1 (fun v43 => bnd y43.2 (fun δ_43 => (if v43 = 0 then (jp_Mo_tested_54 (lp_Mo_tested_12 kx12_112 f) kx12_112 v1_12 (0 : Int32) δ_43) else (jp_Mo_tested_49 (lp_Mo_tested_12 kx12_112 f) kx12_112 v1_12 δ_43)))))) else (jp_Mo_tested_49 (lp_Mo_tested_12 kx12_112 f) kx12_112 v1_12 δ_33))))))))))))))
set_option maxHeartbeats 4000000 in
set_option maxRecDepth 100000 in
theorem tl_Mo_tested_12 {n : Nat} (kx12_112 : Int32 → Dm → Option (Int32 × Dm)) (hkx12_112 : ∀ v1_12k δ12k, AWo k_Mo_tested 9 0 0 112 [(0, .ref 151), (1, .int v1_12k)] [] δ12k RT n 0 0 (Km RT n) (kx12_112 v1_12k δ12k)) : ∀ (f : Nat) (v1_12 : Int32) (δ12 : Dm), AWo k_Mo_tested 9 0 0 12 [(0, .ref 151), (1, .int v1_12)] [] δ12 RT n 0 0 (Km RT n) (lp_Mo_tested_12 kx12_112 f v1_12 δ12) := by
  intro f
  induction f with
  | zero => intro _ _; exact aw_none
  | succ f ih =>
    intro v1_12 δ12
    rw [lp_Mo_tested_12]
    refine aw_iload_n d_Mo_tested_12 1 rfl ?_
    refine aw_if_eq (tgt := 112) d_Mo_tested_13 rfl (fun q13 => ?_) (fun q13 => ?_)
    · refine aw_sub (lo' := [(0, .ref 151), (1, .int v1_12)]) [0, 1] rfl ?_
      exact hkx12_112 _ _
    · refine aw_aload_n d_Mo_tested_16 0 rfl ?_
      refine aw_V_m (As := []) (m_Mo_fact) cv_Mo_189 kd_151 rfl rfl rfl (Nat.le_of_ble_eq_true rfl) ⟨Nat.le_of_ble_eq_true rfl, Nat.le_of_ble_eq_true rfl⟩ ⟨Nat.le_refl _, Nat.le_refl _⟩ d_Mo_tested_17 (fun y17 => ?_)
      refine aw_bI (fun v17 => ?_)
      refine aw_bD (fun δ_17 => ?_)
      refine aw_if_ne (tgt := 25) d_Mo_tested_20 rfl (fun q20 => ?_) (fun q20 => ?_)
      · refine aw_iconst d_Mo_tested_23 ki_0 ?_
        exact aw_zret rfl rfl rfl ⟨Nat.le_refl _, Nat.le_refl _⟩ d_Mo_tested_24
      · refine aw_aload_n d_Mo_tested_25 0 rfl ?_
        refine aw_V_v (As := []) (m_Mo_closes) cv_Mo_192 kd_151 rfl rfl rfl (Nat.le_of_ble_eq_true rfl) ⟨Nat.le_of_ble_eq_true rfl, Nat.le_of_ble_eq_true rfl⟩ ⟨Nat.le_refl _, Nat.le_refl _⟩ d_Mo_tested_26 (fun y26 => ?_)
        refine aw_aload_n d_Mo_tested_29 0 rfl ?_
        refine aw_ldc2 (v := (6385252 : Int64)) d_Mo_tested_30 kc_Mo_195 ?_
        refine aw_V_m (As := [.long (6385252 : Int64)]) (m_Mo_isWord) cv_Mo_100 kd_151 rfl rfl rfl (Nat.le_of_ble_eq_true rfl) ⟨Nat.le_of_ble_eq_true rfl, Nat.le_of_ble_eq_true rfl⟩ ⟨Nat.le_refl _, Nat.le_refl _⟩ d_Mo_tested_33 (fun y33 => ?_)
        refine aw_bI (fun v33 => ?_)
        refine aw_bD (fun δ_33 => ?_)
        refine aw_if_ne (tgt := 49) d_Mo_tested_36 rfl (fun q36 => ?_) (fun q36 => ?_)
        · refine aw_aload_n d_Mo_tested_39 0 rfl ?_
          refine aw_ldc2 (v := (28530 : Int64)) d_Mo_tested_40 kc_Mo_197 ?_
          refine aw_V_m (As := [.long (28530 : Int64)]) (m_Mo_isWord) cv_Mo_100 kd_151 rfl rfl rfl (Nat.le_of_ble_eq_true rfl) ⟨Nat.le_of_ble_eq_true rfl, Nat.le_of_ble_eq_true rfl⟩ ⟨Nat.le_refl _, Nat.le_refl _⟩ d_Mo_tested_43 (fun y43 => ?_)
          refine aw_bI (fun v43 => ?_)
          refine aw_bD (fun δ_43 => ?_)
          refine aw_if_eq (tgt := 53) d_Mo_tested_46 rfl (fun q46 => ?_) (fun q46 => ?_)
          · refine aw_iconst d_Mo_tested_53 ki_0 ?_
            refine aw_sub (lo' := [(0, .ref 151), (1, .int v1_12)]) [0, 1] rfl ?_
            exact tj_Mo_tested_54 _ _ _ _ _ ih hkx12_112
          · refine aw_sub (lo' := [(0, .ref 151), (1, .int v1_12)]) [0, 1] rfl ?_
            exact tj_Mo_tested_49 _ _ _ _ ih hkx12_112
        · refine aw_sub (lo' := [(0, .ref 151), (1, .int v1_12)]) [0, 1] rfl ?_
          exact tj_Mo_tested_49 _ _ _ _ ih hkx12_112
def f_Mo_tested (δ : Dm) : Option (Int32 × Dm) := (bnd (sI δ 151 17 (0 : Int32)) (fun δ_2 => (bnd (sI δ_2 151 14 (0 : Int32)) (fun δ_7 => (lp_Mo_tested_12 (fun v1_12x δ12x => ((f_Mo_isInside δ12x).bind (fun y113 => (if y113 = 0 then ((f_Mo_settles (1 : Int32) δ12x).bind (fun y136 => (some ((1 : Int32), y136)))) else ((f_Mo_see δ12x).bind (fun y120 => bnd y120.1 (fun v120 => bnd y120.2 (fun δ_120 => ((f_Mo_fails (0 : Int32) (gI δ_120 151 9) δ_120).bind (fun y130 => bnd y130.1 (fun v130 => bnd y130.2 (fun δ_130 => (if v130 = 0 ∨ v130 = 1 then (some (v130, δ_130)) else none))))))))))))) FU (1 : Int32) δ_7)))))
set_option maxHeartbeats 4000000 in
set_option maxRecDepth 100000 in
theorem m_Mo_tested {δ : Dm} {n : Nat} : ∀ x, f_Mo_tested δ = some x → AMet k_Mo_tested 9 0 0 [.ref 151] δ RT n (Km RT n x) := by
  refine aw_start (lo := [(0, .ref 151)]) mok_Mo_tested rfl (Nat.le_of_ble_eq_true rfl) ?_
  unfold f_Mo_tested
  refine aw_aload_n d_Mo_tested_0 0 rfl ?_
  refine aw_iconst d_Mo_tested_1 ki_0 ?_
  refine aw_putI pf_Mo_144 kd_151 d_Mo_tested_2 ?_
  refine aw_bD (fun δ_2 => ?_)
  refine aw_aload_n d_Mo_tested_5 0 rfl ?_
  refine aw_iconst d_Mo_tested_6 ki_0 ?_
  refine aw_putI pf_Mo_141 kd_151 d_Mo_tested_7 ?_
  refine aw_bD (fun δ_7 => ?_)
  refine aw_iconst d_Mo_tested_10 ki_1 ?_
  refine aw_istore_n (lo' := [(1, .int (1 : Int32)), (0, .ref 151)]) d_Mo_tested_11 rfl (by decide) rfl ?_
  refine aw_sub (lo' := [(0, .ref 151), (1, .int (1 : Int32))]) [1, 0] rfl ?_
  refine tl_Mo_tested_12 _ (fun v1_12x δ12x => ?_) FU _ _
  · refine aw_aload_n d_Mo_tested_112 0 rfl ?_
    refine aw_V_p (As := []) (m_Mo_isInside) cv_Mo_186 kd_151 rfl rfl rfl (Nat.le_of_ble_eq_true rfl) ⟨Nat.le_of_ble_eq_true rfl, Nat.le_of_ble_eq_true rfl⟩ ⟨Nat.le_refl _, Nat.le_refl _⟩ d_Mo_tested_113 (fun y113 => ?_)
    refine aw_if_eq (tgt := 134) d_Mo_tested_116 rfl (fun q116 => ?_) (fun q116 => ?_)
    · refine aw_aload_n d_Mo_tested_134 0 rfl ?_
      refine aw_iconst d_Mo_tested_135 ki_1 ?_
      refine aw_V_v (As := [.int (1 : Int32)]) (m_Mo_settles) cv_Mo_183 kd_151 rfl rfl rfl (Nat.le_of_ble_eq_true rfl) ⟨Nat.le_of_ble_eq_true rfl, Nat.le_of_ble_eq_true rfl⟩ ⟨Nat.le_refl _, Nat.le_refl _⟩ d_Mo_tested_136 (fun y136 => ?_)
      refine aw_iconst d_Mo_tested_139 ki_1 ?_
      exact aw_zret rfl rfl rfl ⟨Nat.le_refl _, Nat.le_refl _⟩ d_Mo_tested_140
    · refine aw_aload_n d_Mo_tested_119 0 rfl ?_
      refine aw_V_m (As := []) (m_Mo_see) cv_Mo_93 kd_151 rfl rfl rfl (Nat.le_of_ble_eq_true rfl) ⟨Nat.le_of_ble_eq_true rfl, Nat.le_of_ble_eq_true rfl⟩ ⟨Nat.le_refl _, Nat.le_refl _⟩ d_Mo_tested_120 (fun y120 => ?_)
      refine aw_bI (fun v120 => ?_)
      refine aw_bD (fun δ_120 => ?_)
      refine aw_pop d_Mo_tested_123 rfl ?_
      refine aw_aload_n d_Mo_tested_124 0 rfl ?_
      refine aw_iconst d_Mo_tested_125 ki_0 ?_
      refine aw_aload_n d_Mo_tested_126 0 rfl ?_
      refine aw_getI fl_Mo_90 kd_151 d_Mo_tested_127 ?_
      refine aw_V_m (As := [.int (0 : Int32), .int (gI δ_120 151 9)]) (m_Mo_fails) cv_Mo_110 kd_151 rfl rfl rfl (Nat.le_of_ble_eq_true rfl) ⟨Nat.le_of_ble_eq_true rfl, Nat.le_of_ble_eq_true rfl⟩ ⟨Nat.le_refl _, Nat.le_refl _⟩ d_Mo_tested_130 (fun y130 => ?_)
      refine aw_bI (fun v130 => ?_)
      refine aw_bD (fun δ_130 => ?_)
      exact aw_zr2 rfl rfl ⟨Nat.le_refl _, Nat.le_refl _⟩ d_Mo_tested_133
def jp_Mo_clauseOf_123 (a1 : Int32) (a2 : Int32) (v19 : Int32) (δ123 : Dm) : Option (Int32 × Dm) := (if inb (gI δ123 151 12) 8 then (if inb (v19 + (4 : Int32)) 560 then bnd (sI δ123 156 (ix (v19 + (4 : Int32))) (gI δ123 155 (ix (gI δ123 151 12)))) (fun δ_139 => (if inb (gI δ_139 151 12) 8 then (if inb (gI δ_139 151 12) 8 then bnd (sI δ_139 157 (ix (gI δ_139 151 12)) ((gI δ_139 157 (ix (gI δ_139 151 12))) + (1 : Int32))) (fun δ_152 => (some ((1 : Int32), δ_152))) else none) else none)) else none) else none)
set_option maxHeartbeats 4000000 in
set_option maxRecDepth 100000 in
theorem tj_Mo_clauseOf_123 {n : Nat} (a1 : Int32) (a2 : Int32) (v19 : Int32) (δ123 : Dm) : AWo k_Mo_clauseOf 10 0 0 123 [(0, .ref 151), (1, .int a1), (2, .int a2), (3, .int v19)] [] δ123 RT n 0 0 (Km RT n) (jp_Mo_clauseOf_123 a1 a2 v19 δ123) := by
  unfold jp_Mo_clauseOf_123
  refine aw_aload_n d_Mo_clauseOf_123 0 rfl ?_
  refine aw_getR (t := 156) fl_Mo_23 kd_151 rt_151_6 d_Mo_clauseOf_124 ?_
  refine aw_iload_n d_Mo_clauseOf_127 3 rfl ?_
  refine aw_iconst d_Mo_clauseOf_128 ki_4 ?_
  refine aw_iadd d_Mo_clauseOf_129 ?_
  refine aw_aload_n d_Mo_clauseOf_130 0 rfl ?_
  refine aw_getR (t := 155) fl_Mo_20 kd_151 rt_151_5 d_Mo_clauseOf_131 ?_
  refine aw_aload_n d_Mo_clauseOf_134 0 rfl ?_
  refine aw_getI fl_Mo_135 kd_151 d_Mo_clauseOf_135 ?_
  refine aw_iald kd_155 d_Mo_clauseOf_138 ?_
  refine aw_iast kd_156 d_Mo_clauseOf_139 ?_
  refine aw_bD (fun δ_139 => ?_)
  refine aw_aload_n d_Mo_clauseOf_140 0 rfl ?_
  refine aw_getR (t := 157) fl_Mo_26 kd_151 rt_151_7 d_Mo_clauseOf_141 ?_
  refine aw_aload_n d_Mo_clauseOf_144 0 rfl ?_
  refine aw_getI fl_Mo_135 kd_151 d_Mo_clauseOf_145 ?_
  refine aw_dup2 d_Mo_clauseOf_148 rfl rfl ?_
  refine aw_iald kd_157 d_Mo_clauseOf_149 ?_
  refine aw_iconst d_Mo_clauseOf_150 ki_1 ?_
  refine aw_iadd d_Mo_clauseOf_151 ?_
  refine aw_iast kd_157 d_Mo_clauseOf_152 ?_
  refine aw_bD (fun δ_152 => ?_)
  refine aw_iconst d_Mo_clauseOf_153 ki_1 ?_
  exact aw_zret rfl rfl rfl ⟨Nat.le_refl _, Nat.le_refl _⟩ d_Mo_clauseOf_154
def jp_Mo_clauseOf_97 (a1 : Int32) (a2 : Int32) (v19 : Int32) (δ97 : Dm) : Option (Int32 × Dm) := (if inb (gI δ97 151 12) 8 then (if inb (v19 + (3 : Int32)) 560 then bnd (sI δ97 156 (ix (v19 + (3 : Int32))) (gI δ97 155 (ix (gI δ97 151 12)))) (fun δ_113 => ((f_Mo_tested δ_113).bind (fun y115 => bnd y115.1 (fun v115 => bnd y115.2 (fun δ_115 => (if v115 = 0 then (some ((0 : Int32), δ_115)) else (jp_Mo_clauseOf_123 a1 a2 v19 δ_115))))))) else none) else none)
set_option maxHeartbeats 4000000 in
set_option maxRecDepth 100000 in
theorem tj_Mo_clauseOf_97 {n : Nat} (a1 : Int32) (a2 : Int32) (v19 : Int32) (δ97 : Dm) : AWo k_Mo_clauseOf 10 0 0 97 [(0, .ref 151), (1, .int a1), (2, .int a2), (3, .int v19)] [] δ97 RT n 0 0 (Km RT n) (jp_Mo_clauseOf_97 a1 a2 v19 δ97) := by
  unfold jp_Mo_clauseOf_97
  refine aw_aload_n d_Mo_clauseOf_97 0 rfl ?_
  refine aw_getR (t := 156) fl_Mo_23 kd_151 rt_151_6 d_Mo_clauseOf_98 ?_
  refine aw_iload_n d_Mo_clauseOf_101 3 rfl ?_
  refine aw_iconst d_Mo_clauseOf_102 ki_3 ?_
  refine aw_iadd d_Mo_clauseOf_103 ?_
  refine aw_aload_n d_Mo_clauseOf_104 0 rfl ?_
  refine aw_getR (t := 155) fl_Mo_20 kd_151 rt_151_5 d_Mo_clauseOf_105 ?_
  refine aw_aload_n d_Mo_clauseOf_108 0 rfl ?_
  refine aw_getI fl_Mo_135 kd_151 d_Mo_clauseOf_109 ?_
  refine aw_iald kd_155 d_Mo_clauseOf_112 ?_
  refine aw_iast kd_156 d_Mo_clauseOf_113 ?_
  refine aw_bD (fun δ_113 => ?_)
  refine aw_aload_n d_Mo_clauseOf_114 0 rfl ?_
  refine aw_V_m (As := []) (m_Mo_tested) cv_Mo_204 kd_151 rfl rfl rfl (Nat.le_of_ble_eq_true rfl) ⟨Nat.le_of_ble_eq_true rfl, Nat.le_of_ble_eq_true rfl⟩ ⟨Nat.le_refl _, Nat.le_refl _⟩ d_Mo_clauseOf_115 (fun y115 => ?_)
  refine aw_bI (fun v115 => ?_)
  refine aw_bD (fun δ_115 => ?_)
  refine aw_if_ne (tgt := 123) d_Mo_clauseOf_118 rfl (fun q118 => ?_) (fun q118 => ?_)
  · refine aw_iconst d_Mo_clauseOf_121 ki_0 ?_
    exact aw_zret rfl rfl rfl ⟨Nat.le_refl _, Nat.le_refl _⟩ d_Mo_clauseOf_122
  · refine aw_sub (lo' := [(0, .ref 151), (1, .int a1), (2, .int a2), (3, .int v19)]) [0, 1, 2, 3] rfl ?_
    exact tj_Mo_clauseOf_123 _ _ _ _
def jp_Mo_clauseOf_57 (a1 : Int32) (a2 : Int32) (v19 : Int32) (δ57 : Dm) : Option (Int32 × Dm) := (if inb (gI δ57 151 12) 8 then (if inb (v19 + (2 : Int32)) 560 then bnd (sI δ57 156 (ix (v19 + (2 : Int32))) (gI δ57 155 (ix (gI δ57 151 12)))) (fun δ_73 => (if inb (v19 + (3 : Int32)) 560 then bnd (sI δ_73 156 (ix (v19 + (3 : Int32))) (-1 : Int32)) (fun δ_82 => (if a2 = 0 then (jp_Mo_clauseOf_97 a1 a2 v19 δ_82) else ((f_Mo_takesWord (26982 : Int64) δ_82).bind (fun y91 => bnd y91.1 (fun v91 => bnd y91.2 (fun δ_91 => (if v91 = 0 then (jp_Mo_clauseOf_123 a1 a2 v19 δ_91) else (jp_Mo_clauseOf_97 a1 a2 v19 δ_91)))))))) else none)) else none) else none)
set_option maxHeartbeats 4000000 in
set_option maxRecDepth 100000 in
theorem tj_Mo_clauseOf_57 {n : Nat} (a1 : Int32) (a2 : Int32) (v19 : Int32) (δ57 : Dm) : AWo k_Mo_clauseOf 10 0 0 57 [(0, .ref 151), (1, .int a1), (2, .int a2), (3, .int v19)] [] δ57 RT n 0 0 (Km RT n) (jp_Mo_clauseOf_57 a1 a2 v19 δ57) := by
  unfold jp_Mo_clauseOf_57
  refine aw_aload_n d_Mo_clauseOf_57 0 rfl ?_
  refine aw_getR (t := 156) fl_Mo_23 kd_151 rt_151_6 d_Mo_clauseOf_58 ?_
  refine aw_iload_n d_Mo_clauseOf_61 3 rfl ?_
  refine aw_iconst d_Mo_clauseOf_62 ki_2 ?_
  refine aw_iadd d_Mo_clauseOf_63 ?_
  refine aw_aload_n d_Mo_clauseOf_64 0 rfl ?_
  refine aw_getR (t := 155) fl_Mo_20 kd_151 rt_151_5 d_Mo_clauseOf_65 ?_
  refine aw_aload_n d_Mo_clauseOf_68 0 rfl ?_
  refine aw_getI fl_Mo_135 kd_151 d_Mo_clauseOf_69 ?_
  refine aw_iald kd_155 d_Mo_clauseOf_72 ?_
  refine aw_iast kd_156 d_Mo_clauseOf_73 ?_
  refine aw_bD (fun δ_73 => ?_)
  refine aw_aload_n d_Mo_clauseOf_74 0 rfl ?_
  refine aw_getR (t := 156) fl_Mo_23 kd_151 rt_151_6 d_Mo_clauseOf_75 ?_
  refine aw_iload_n d_Mo_clauseOf_78 3 rfl ?_
  refine aw_iconst d_Mo_clauseOf_79 ki_3 ?_
  refine aw_iadd d_Mo_clauseOf_80 ?_
  refine aw_iconst d_Mo_clauseOf_81 ki_m1 ?_
  refine aw_iast kd_156 d_Mo_clauseOf_82 ?_
  refine aw_bD (fun δ_82 => ?_)
  refine aw_iload_n d_Mo_clauseOf_83 2 rfl ?_
  refine aw_if_eq (tgt := 97) d_Mo_clauseOf_84 rfl (fun q84 => ?_) (fun q84 => ?_)
  · refine aw_sub (lo' := [(0, .ref 151), (1, .int a1), (2, .int a2), (3, .int v19)]) [0, 1, 2, 3] rfl ?_
    exact tj_Mo_clauseOf_97 _ _ _ _
  · refine aw_aload_n d_Mo_clauseOf_87 0 rfl ?_
    refine aw_ldc2 (v := (26982 : Int64)) d_Mo_clauseOf_88 kc_Mo_199 ?_
    refine aw_V_m (As := [.long (26982 : Int64)]) (m_Mo_takesWord) cv_Mo_201 kd_151 rfl rfl rfl (Nat.le_of_ble_eq_true rfl) ⟨Nat.le_of_ble_eq_true rfl, Nat.le_of_ble_eq_true rfl⟩ ⟨Nat.le_refl _, Nat.le_refl _⟩ d_Mo_clauseOf_91 (fun y91 => ?_)
    refine aw_bI (fun v91 => ?_)
    refine aw_bD (fun δ_91 => ?_)
    refine aw_if_eq (tgt := 123) d_Mo_clauseOf_94 rfl (fun q94 => ?_) (fun q94 => ?_)
    · refine aw_sub (lo' := [(0, .ref 151), (1, .int a1), (2, .int a2), (3, .int v19)]) [0, 1, 2, 3] rfl ?_
      exact tj_Mo_clauseOf_123 _ _ _ _
    · refine aw_sub (lo' := [(0, .ref 151), (1, .int a1), (2, .int a2), (3, .int v19)]) [0, 1, 2, 3] rfl ?_
      exact tj_Mo_clauseOf_97 _ _ _ _
def f_Mo_clauseOf (a1 : Int32) (a2 : Int32) (δ : Dm) : Option (Int32 × Dm) := (if inb (gI δ 151 12) 8 then (bnd (((70 : Int32) * (gI δ 151 12)) + ((5 : Int32) * (gI δ 157 (ix (gI δ 151 12))))) (fun v19 => (if inb v19 560 then bnd (sI δ 156 (ix v19) a1) (fun δ_26 => (if inb (gI δ_26 151 12) 8 then (if inb (v19 + (1 : Int32)) 560 then bnd (sI δ_26 156 (ix (v19 + (1 : Int32))) (gI δ_26 155 (ix (gI δ_26 151 12)))) (fun δ_43 => (if a2 = 0 then (jp_Mo_clauseOf_57 a1 a2 v19 δ_43) else ((f_Mo_sum δ_43).bind (fun y49 => bnd y49.1 (fun v49 => bnd y49.2 (fun δ_49 => (if v49 = 0 then (some ((0 : Int32), δ_49)) else (jp_Mo_clauseOf_57 a1 a2 v19 δ_49)))))))) else none) else none)) else none))) else none)
set_option maxHeartbeats 4000000 in
set_option maxRecDepth 100000 in
theorem m_Mo_clauseOf {a1 : Int32} {a2 : Int32} {δ : Dm} {n : Nat} : ∀ x, f_Mo_clauseOf a1 a2 δ = some x → AMet k_Mo_clauseOf 10 0 0 [.ref 151, .int a1, .int a2] δ RT n (Km RT n x) := by
  refine aw_start (lo := [(0, .ref 151), (1, .int a1), (2, .int a2)]) mok_Mo_clauseOf rfl (Nat.le_of_ble_eq_true rfl) ?_
  unfold f_Mo_clauseOf
  refine aw_bipush d_Mo_clauseOf_0 kb_70 ?_
  refine aw_aload_n d_Mo_clauseOf_2 0 rfl ?_
  refine aw_getI fl_Mo_135 kd_151 d_Mo_clauseOf_3 ?_
  refine aw_imul d_Mo_clauseOf_6 ?_
  refine aw_iconst d_Mo_clauseOf_7 ki_5 ?_
  refine aw_aload_n d_Mo_clauseOf_8 0 rfl ?_
  refine aw_getR (t := 157) fl_Mo_26 kd_151 rt_151_7 d_Mo_clauseOf_9 ?_
  refine aw_aload_n d_Mo_clauseOf_12 0 rfl ?_
  refine aw_getI fl_Mo_135 kd_151 d_Mo_clauseOf_13 ?_
  refine aw_iald kd_157 d_Mo_clauseOf_16 ?_
  refine aw_imul d_Mo_clauseOf_17 ?_
  refine aw_iadd d_Mo_clauseOf_18 ?_
  refine aw_bI (fun v19 => ?_)
  refine aw_istore_n (lo' := [(3, .int v19), (0, .ref 151), (1, .int a1), (2, .int a2)]) d_Mo_clauseOf_19 rfl (by decide) rfl ?_
  refine aw_aload_n d_Mo_clauseOf_20 1 rfl ?_
  refine aw_getR (t := 156) fl_Mo_23 kd_151 rt_151_6 d_Mo_clauseOf_21 ?_
  refine aw_iload_n d_Mo_clauseOf_24 0 rfl ?_
  refine aw_iload_n d_Mo_clauseOf_25 2 rfl ?_
  refine aw_iast kd_156 d_Mo_clauseOf_26 ?_
  refine aw_bD (fun δ_26 => ?_)
  refine aw_aload_n d_Mo_clauseOf_27 1 rfl ?_
  refine aw_getR (t := 156) fl_Mo_23 kd_151 rt_151_6 d_Mo_clauseOf_28 ?_
  refine aw_iload_n d_Mo_clauseOf_31 0 rfl ?_
  refine aw_iconst d_Mo_clauseOf_32 ki_1 ?_
  refine aw_iadd d_Mo_clauseOf_33 ?_
  refine aw_aload_n d_Mo_clauseOf_34 1 rfl ?_
  refine aw_getR (t := 155) fl_Mo_20 kd_151 rt_151_5 d_Mo_clauseOf_35 ?_
  refine aw_aload_n d_Mo_clauseOf_38 1 rfl ?_
  refine aw_getI fl_Mo_135 kd_151 d_Mo_clauseOf_39 ?_
  refine aw_iald kd_155 d_Mo_clauseOf_42 ?_
  refine aw_iast kd_156 d_Mo_clauseOf_43 ?_
  refine aw_bD (fun δ_43 => ?_)
  refine aw_iload_n d_Mo_clauseOf_44 3 rfl ?_
  refine aw_if_eq (tgt := 57) d_Mo_clauseOf_45 rfl (fun q45 => ?_) (fun q45 => ?_)
  · refine aw_sub (lo' := [(0, .ref 151), (1, .int a1), (2, .int a2), (3, .int v19)]) [1, 2, 3, 0] rfl ?_
    exact tj_Mo_clauseOf_57 _ _ _ _
  · refine aw_aload_n d_Mo_clauseOf_48 1 rfl ?_
    refine aw_V_m (As := []) (m_Mo_sum) cv_Mo_172 kd_151 rfl rfl rfl (Nat.le_of_ble_eq_true rfl) ⟨Nat.le_of_ble_eq_true rfl, Nat.le_of_ble_eq_true rfl⟩ ⟨Nat.le_refl _, Nat.le_refl _⟩ d_Mo_clauseOf_49 (fun y49 => ?_)
    refine aw_bI (fun v49 => ?_)
    refine aw_bD (fun δ_49 => ?_)
    refine aw_if_ne (tgt := 57) d_Mo_clauseOf_52 rfl (fun q52 => ?_) (fun q52 => ?_)
    · refine aw_iconst d_Mo_clauseOf_55 ki_0 ?_
      exact aw_zret rfl rfl rfl ⟨Nat.le_refl _, Nat.le_refl _⟩ d_Mo_clauseOf_56
    · refine aw_sub (lo' := [(0, .ref 151), (1, .int a1), (2, .int a2), (3, .int v19)]) [1, 2, 3, 0] rfl ?_
      exact tj_Mo_clauseOf_57 _ _ _ _
end
