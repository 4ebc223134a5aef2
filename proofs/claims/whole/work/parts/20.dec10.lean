noncomputable section
def jp_Mo_milesOf_80 (kr13 : Int32 → Int32 → Option Int32) (kx13_93 : Int32 → Int32 → Option Int32) (a1 : Int32) (a2 : Int32) (v3_13 : Int32) (v4_13 : Int32) (v68 : Int32) (δ : Dm) : Option Int32 := (kr13 v68 (v4_13 + (1 : Int32)))
set_option maxHeartbeats 4000000 in
set_option maxRecDepth 100000 in
theorem tj_Mo_milesOf_80 {n : Nat} (kr13 : Int32 → Int32 → Option Int32) (kx13_93 : Int32 → Int32 → Option Int32) (a1 : Int32) (a2 : Int32) (v3_13 : Int32) (v4_13 : Int32) (v68 : Int32) (δ : Dm) (hkr13 : ∀ v3_13k v4_13k, AWo k_Mo_milesOf 2 0 0 13 [(0, .ref 151), (1, .int a1), (2, .int a2), (3, .int v3_13k), (4, .int v4_13k)] [] δ RT n 0 0 (Kp δ RT n) (kr13 v3_13k v4_13k)) (hkx13_93 : ∀ v3_13k v4_13k, AWo k_Mo_milesOf 2 0 0 93 [(0, .ref 151), (1, .int a1), (2, .int a2), (3, .int v3_13k), (4, .int v4_13k)] [] δ RT n 0 0 (Kp δ RT n) (kx13_93 v3_13k v4_13k)) : AWo k_Mo_milesOf 2 0 0 80 [(0, .ref 151), (1, .int a1), (2, .int a2), (3, .int v3_13), (4, .int v4_13), (5, .int v68)] [] δ RT n 0 0 (Kp δ RT n) (jp_Mo_milesOf_80 kr13 kx13_93 a1 a2 v3_13 v4_13 v68 δ) := by
  unfold jp_Mo_milesOf_80
  refine aw_iload d_Mo_milesOf_80 5 rfl ?_
  refine aw_goto (tgt := 86) d_Mo_milesOf_82 rfl ?_
  refine aw_istore_n (lo' := [(3, .int v68), (0, .ref 151), (1, .int a1), (2, .int a2), (4, .int v4_13), (5, .int v68)]) d_Mo_milesOf_86 rfl (by decide) rfl ?_
  refine aw_iinc (v := (v4_13 + (1 : Int32))) (lo' := [(4, .int (v4_13 + (1 : Int32))), (3, .int v68), (0, .ref 151), (1, .int a1), (2, .int a2), (5, .int v68)]) d_Mo_milesOf_87 4 rfl (by rw [show Int32.ofInt (1) = (1 : Int32) from by decide]) (by decide) rfl ?_
  refine aw_goto (tgt := 13) d_Mo_milesOf_90 rfl ?_
  refine aw_sub (lo' := [(0, .ref 151), (1, .int a1), (2, .int a2), (3, .int v68), (4, .int (v4_13 + (1 : Int32)))]) [2, 3, 4, 1, 0] rfl ?_
  exact hkr13 _ _
def lp_Mo_milesOf_13 (kx13_93 : Int32 → Int32 → Option Int32) (a1 : Int32) (a2 : Int32) (δ : Dm) : Nat → Int32 → Int32 → Option Int32
  | 0, _, _ => none
  | f + 1, v3_13, v4_13 => (if inb (2 : Int32) 8918 then (if (gI δ 152 (ix (2 : Int32))) ≤ v4_13 then (kx13_93 v3_13 v4_13) else (if ((a1 >>> (v4_13 &&& 31)) &&& (1 : Int32)) = 0 then (lp_Mo_milesOf_13 kx13_93 a1 a2 δ f v3_13 (v4_13 + (1 : Int32))) else ((f_Mo_cell v4_13 (0 : Int32) δ).bind (fun y42 => ((f_Mo_mile a2 y42 δ).bind (fun y45 => (if inb (((8 : Int32) * (a1 &&& (((1 : Int32) <<< (v4_13 &&& 31)) ^^^ (-1 : Int32)))) + v4_13) 2048 then (bnd (y45 + (gI δ 164 (ix (((8 : Int32) * (a1 &&& (((1 : Int32) <<< (v4_13 &&& 31)) ^^^ (-1 : Int32)))) + v4_13)))) (fun v68 => (if v3_13 < 0 then (jp_Mo_milesOf_80 (lp_Mo_milesOf_13 kx13_93 a1 a2 δ f) kx13_93 a1 a2 v3_13 v4_13 v68 δ) else (if v3_13 ≤ v68 then (lp_Mo_milesOf_13 kx13_93 a1 a2 δ f v3_13 (v4_13 + (1 : Int32))) else (jp_Mo_milesOf_80 (lp_Mo_milesOf_13 kx13_93 a1 a2 δ f) kx13_93 a1 a2 v3_13 v4_13 v68 δ))))) else none))))))) else none)
set_option maxHeartbeats 4000000 in
set_option maxRecDepth 100000 in
theorem tl_Mo_milesOf_13 {n : Nat} (kx13_93 : Int32 → Int32 → Option Int32) (a1 : Int32) (a2 : Int32) (δ : Dm) (hkx13_93 : ∀ v3_13k v4_13k, AWo k_Mo_milesOf 2 0 0 93 [(0, .ref 151), (1, .int a1), (2, .int a2), (3, .int v3_13k), (4, .int v4_13k)] [] δ RT n 0 0 (Kp δ RT n) (kx13_93 v3_13k v4_13k)) : ∀ (f : Nat) (v3_13 : Int32) (v4_13 : Int32), AWo k_Mo_milesOf 2 0 0 13 [(0, .ref 151), (1, .int a1), (2, .int a2), (3, .int v3_13), (4, .int v4_13)] [] δ RT n 0 0 (Kp δ RT n) (lp_Mo_milesOf_13 kx13_93 a1 a2 δ f v3_13 v4_13) := by
  intro f
  induction f with
  | zero => intro _ _; exact aw_none
  | succ f ih =>
    intro v3_13 v4_13
    rw [lp_Mo_milesOf_13]
    refine aw_iload d_Mo_milesOf_13 4 rfl ?_
    refine aw_aload_n d_Mo_milesOf_15 0 rfl ?_
    refine aw_getR (t := 152) fl_Mo_7 kd_151 rt_151_0 d_Mo_milesOf_16 ?_
    refine aw_iconst d_Mo_milesOf_19 ki_2 ?_
    refine aw_iald kd_152 d_Mo_milesOf_20 ?_
    refine aw_icmp_ge (tgt := 93) d_Mo_milesOf_21 rfl (fun q21 => ?_) (fun q21 => ?_)
    · refine aw_sub (lo' := [(0, .ref 151), (1, .int a1), (2, .int a2), (3, .int v3_13), (4, .int v4_13)]) [0, 1, 2, 3, 4] rfl ?_
      exact hkx13_93 _ _
    · refine aw_iload_n d_Mo_milesOf_24 1 rfl ?_
      refine aw_iload d_Mo_milesOf_25 4 rfl ?_
      refine aw_ishr d_Mo_milesOf_27 ?_
      refine aw_iconst d_Mo_milesOf_28 ki_1 ?_
      refine aw_iand d_Mo_milesOf_29 ?_
      refine aw_if_ne (tgt := 36) d_Mo_milesOf_30 rfl (fun q30 => ?_) (fun q30 => ?_)
      · refine aw_goto (tgt := 87) d_Mo_milesOf_33 rfl ?_
        refine aw_iinc (v := (v4_13 + (1 : Int32))) (lo' := [(4, .int (v4_13 + (1 : Int32))), (0, .ref 151), (1, .int a1), (2, .int a2), (3, .int v3_13)]) d_Mo_milesOf_87 4 rfl (by rw [show Int32.ofInt (1) = (1 : Int32) from by decide]) (by decide) rfl ?_
        refine aw_goto (tgt := 13) d_Mo_milesOf_90 rfl ?_
        refine aw_sub (lo' := [(0, .ref 151), (1, .int a1), (2, .int a2), (3, .int v3_13), (4, .int (v4_13 + (1 : Int32)))]) [1, 2, 3, 4, 0] rfl ?_
        exact ih _ _
      · refine aw_aload_n d_Mo_milesOf_36 0 rfl ?_
        refine aw_iload_n d_Mo_milesOf_37 2 rfl ?_
        refine aw_aload_n d_Mo_milesOf_38 0 rfl ?_
        refine aw_iload d_Mo_milesOf_39 4 rfl ?_
        refine aw_iconst d_Mo_milesOf_41 ki_0 ?_
        refine aw_V_p (As := [.int v4_13, .int (0 : Int32)]) (m_Mo_cell) cv_Mo_265 kd_151 rfl rfl rfl (Nat.le_of_ble_eq_true rfl) ⟨Nat.le_of_ble_eq_true rfl, Nat.le_of_ble_eq_true rfl⟩ ⟨Nat.le_refl _, Nat.le_refl _⟩ d_Mo_milesOf_42 (fun y42 => ?_)
        refine aw_V_p (As := [.int a2, .int y42]) (m_Mo_mile) cv_Mo_368 kd_151 rfl rfl rfl (Nat.le_of_ble_eq_true rfl) ⟨Nat.le_of_ble_eq_true rfl, Nat.le_of_ble_eq_true rfl⟩ ⟨Nat.le_refl _, Nat.le_refl _⟩ d_Mo_milesOf_45 (fun y45 => ?_)
        refine aw_aload_n d_Mo_milesOf_48 0 rfl ?_
        refine aw_getR (t := 164) fl_Mo_48 kd_151 rt_151_23 d_Mo_milesOf_49 ?_
        refine aw_bipush d_Mo_milesOf_52 kb_8 ?_
        refine aw_iload_n d_Mo_milesOf_54 1 rfl ?_
        refine aw_iconst d_Mo_milesOf_55 ki_1 ?_
        refine aw_iload d_Mo_milesOf_56 4 rfl ?_
        refine aw_ishl d_Mo_milesOf_58 ?_
        refine aw_iconst d_Mo_milesOf_59 ki_m1 ?_
        refine aw_ixor d_Mo_milesOf_60 ?_
        refine aw_iand d_Mo_milesOf_61 ?_
        refine aw_imul d_Mo_milesOf_62 ?_
        refine aw_iload d_Mo_milesOf_63 4 rfl ?_
        refine aw_iadd d_Mo_milesOf_65 ?_
        refine aw_iald kd_164 d_Mo_milesOf_66 ?_
        refine aw_iadd d_Mo_milesOf_67 ?_
        refine aw_bI (fun v68 => ?_)
        refine aw_istore (lo' := [(5, .int v68), (0, .ref 151), (1, .int a1), (2, .int a2), (3, .int v3_13), (4, .int v4_13)]) d_Mo_milesOf_68 (by decide) rfl ?_
        refine aw_iload_n d_Mo_milesOf_70 4 rfl ?_
        refine aw_if_lt (tgt := 80) d_Mo_milesOf_71 rfl (fun q71 => ?_) (fun q71 => ?_)
        · refine aw_sub (lo' := [(0, .ref 151), (1, .int a1), (2, .int a2), (3, .int v3_13), (4, .int v4_13), (5, .int v68)]) [1, 2, 3, 4, 5, 0] rfl ?_
          exact tj_Mo_milesOf_80 _ _ _ _ _ _ _ _ ih hkx13_93
        · refine aw_iload d_Mo_milesOf_74 0 rfl ?_
          refine aw_iload_n d_Mo_milesOf_76 4 rfl ?_
          refine aw_icmp_ge (tgt := 85) d_Mo_milesOf_77 rfl (fun q77 => ?_) (fun q77 => ?_)
          · refine aw_iload_n d_Mo_milesOf_85 4 rfl ?_
            refine aw_istore_n (lo' := [(3, .int v3_13), (5, .int v68), (0, .ref 151), (1, .int a1), (2, .int a2), (4, .int v4_13)]) d_Mo_milesOf_86 rfl (by decide) rfl ?_
            refine aw_iinc (v := (v4_13 + (1 : Int32))) (lo' := [(4, .int (v4_13 + (1 : Int32))), (3, .int v3_13), (5, .int v68), (0, .ref 151), (1, .int a1), (2, .int a2)]) d_Mo_milesOf_87 5 rfl (by rw [show Int32.ofInt (1) = (1 : Int32) from by decide]) (by decide) rfl ?_
            refine aw_goto (tgt := 13) d_Mo_milesOf_90 rfl ?_
            refine aw_sub (lo' := [(0, .ref 151), (1, .int a1), (2, .int a2), (3, .int v3_13), (4, .int (v4_13 + (1 : Int32)))]) [3, 4, 5, 1, 0] rfl ?_
            exact ih _ _
          · refine aw_sub (lo' := [(0, .ref 151), (1, .int a1), (2, .int a2), (3, .int v3_13), (4, .int v4_13), (5, .int v68)]) [1, 2, 3, 4, 5, 0] rfl ?_
            exact tj_Mo_milesOf_80 _ _ _ _ _ _ _ _ ih hkx13_93
def jp_Mo_milesOf_9 (a1 : Int32) (a2 : Int32) (δ : Dm) (s0_9 : Int32) : Option Int32 := (lp_Mo_milesOf_13 (fun v3_13x v4_13x => (some v3_13x)) a1 a2 δ FU s0_9 (0 : Int32))
set_option maxHeartbeats 4000000 in
set_option maxRecDepth 100000 in
theorem tj_Mo_milesOf_9 {n : Nat} (a1 : Int32) (a2 : Int32) (δ : Dm) (s0_9 : Int32) : AWo k_Mo_milesOf 2 0 0 9 [(0, .ref 151), (1, .int a1), (2, .int a2)] [.int s0_9] δ RT n 0 0 (Kp δ RT n) (jp_Mo_milesOf_9 a1 a2 δ s0_9) := by
  unfold jp_Mo_milesOf_9
  refine aw_istore_n (lo' := [(3, .int s0_9), (0, .ref 151), (1, .int a1), (2, .int a2)]) d_Mo_milesOf_9 rfl (by decide) rfl ?_
  refine aw_iconst d_Mo_milesOf_10 ki_0 ?_
  refine aw_istore (lo' := [(4, .int (0 : Int32)), (3, .int s0_9), (0, .ref 151), (1, .int a1), (2, .int a2)]) d_Mo_milesOf_11 (by decide) rfl ?_
  refine aw_sub (lo' := [(0, .ref 151), (1, .int a1), (2, .int a2), (3, .int s0_9), (4, .int (0 : Int32))]) [2, 3, 4, 1, 0] rfl ?_
  refine tl_Mo_milesOf_13 _ _ _ _ (fun v3_13x v4_13x => ?_) FU _ _
  · refine aw_iload_n d_Mo_milesOf_93 3 rfl ?_
    exact aw_iret rfl rfl ⟨Nat.le_refl _, Nat.le_refl _⟩ d_Mo_milesOf_94
def f_Mo_milesOf (a1 : Int32) (a2 : Int32) (δ : Dm) : Option Int32 := (if a1 = 0 then (jp_Mo_milesOf_9 a1 a2 δ (0 : Int32)) else (jp_Mo_milesOf_9 a1 a2 δ (-1 : Int32)))
set_option maxHeartbeats 4000000 in
set_option maxRecDepth 100000 in
theorem m_Mo_milesOf {a1 : Int32} {a2 : Int32} {δ : Dm} {n : Nat} : ∀ x, f_Mo_milesOf a1 a2 δ = some x → AMet k_Mo_milesOf 2 0 0 [.ref 151, .int a1, .int a2] δ RT n (Kp δ RT n x) := by
  refine aw_start (lo := [(0, .ref 151), (1, .int a1), (2, .int a2)]) mok_Mo_milesOf rfl (Nat.le_of_ble_eq_true rfl) ?_
  unfold f_Mo_milesOf
  refine aw_iload_n d_Mo_milesOf_0 1 rfl ?_
  refine aw_if_ne (tgt := 8) d_Mo_milesOf_1 rfl (fun q1 => ?_) (fun q1 => ?_)
  · refine aw_iconst d_Mo_milesOf_4 ki_0 ?_
    refine aw_goto (tgt := 9) d_Mo_milesOf_5 rfl ?_
    refine aw_sub (lo' := [(0, .ref 151), (1, .int a1), (2, .int a2)]) [0, 1, 2] rfl ?_
    exact tj_Mo_milesOf_9 _ _ _ _
  · refine aw_iconst d_Mo_milesOf_8 ki_m1 ?_
    refine aw_sub (lo' := [(0, .ref 151), (1, .int a1), (2, .int a2)]) [0, 1, 2] rfl ?_
    exact tj_Mo_milesOf_9 _ _ _ _
def lp_Mo_round_94 (kx94_149 : Int32 → Option (Int32 × Dm)) (a1 : Int32) (a2 : Int32) (a3 : Int32) (v4_78 : Int32) (v5_78 : Int32) (v6_78 : Int32) (v8_78 : Int32) (y47 : Dm) : Nat → Int32 → Option (Int32 × Dm)
  | 0, _ => none
  | f + 1, v7_94 => (if ((v5_78 >>> (v7_94 &&& 31)) &&& (1 : Int32)) = 0 then (lp_Mo_round_94 kx94_149 a1 a2 a3 v4_78 v5_78 v6_78 v8_78 y47 f (v7_94 + (1 : Int32))) else ((f_Mo_cell v7_94 (0 : Int32) y47).bind (fun y111 => ((f_Mo_mile v6_78 y111 y47).bind (fun y114 => (if inb (((8 : Int32) * (v5_78 &&& (((1 : Int32) <<< (v7_94 &&& 31)) ^^^ (-1 : Int32)))) + v7_94) 2048 then (if (y114 + (gI y47 164 (ix (((8 : Int32) * (v5_78 &&& (((1 : Int32) <<< (v7_94 &&& 31)) ^^^ (-1 : Int32)))) + v7_94)))) = v4_78 then (kx94_149 v7_94) else (lp_Mo_round_94 kx94_149 a1 a2 a3 v4_78 v5_78 v6_78 v8_78 y47 f (v7_94 + (1 : Int32)))) else none))))))
set_option maxHeartbeats 4000000 in
set_option maxRecDepth 100000 in
theorem tl_Mo_round_94 {n : Nat} (kx94_149 : Int32 → Option (Int32 × Dm)) (a1 : Int32) (a2 : Int32) (a3 : Int32) (v4_78 : Int32) (v5_78 : Int32) (v6_78 : Int32) (v8_78 : Int32) (y47 : Dm) (hkx94_149 : ∀ v7_94k, AWo k_Mo_round 4 0 0 149 [(0, .ref 151), (1, .int a1), (2, .int a2), (3, .int a3), (4, .int v4_78), (5, .int v5_78), (6, .int v6_78), (7, .int v7_94k), (8, .int v8_78)] [] y47 RT n 0 0 (Km RT n) (kx94_149 v7_94k)) : ∀ (f : Nat) (v7_94 : Int32), AWo k_Mo_round 4 0 0 94 [(0, .ref 151), (1, .int a1), (2, .int a2), (3, .int a3), (4, .int v4_78), (5, .int v5_78), (6, .int v6_78), (7, .int v7_94), (8, .int v8_78)] [] y47 RT n 0 0 (Km RT n) (lp_Mo_round_94 kx94_149 a1 a2 a3 v4_78 v5_78 v6_78 v8_78 y47 f v7_94) := by
  intro f
  induction f with
  | zero => intro _; exact aw_none
  | succ f ih =>
    intro v7_94
    rw [lp_Mo_round_94]
    refine aw_iload d_Mo_round_94 5 rfl ?_
    refine aw_iload d_Mo_round_96 7 rfl ?_
    refine aw_ishr d_Mo_round_98 ?_
    refine aw_iconst d_Mo_round_99 ki_1 ?_
    refine aw_iand d_Mo_round_100 ?_
    refine aw_if_eq (tgt := 143) d_Mo_round_101 rfl (fun q101 => ?_) (fun q101 => ?_)
    · refine aw_iinc (v := (v7_94 + (1 : Int32))) (lo' := [(7, .int (v7_94 + (1 : Int32))), (0, .ref 151), (1, .int a1), (2, .int a2), (3, .int a3), (4, .int v4_78), (5, .int v5_78), (6, .int v6_78), (8, .int v8_78)]) d_Mo_round_143 7 rfl (by rw [show Int32.ofInt (1) = (1 : Int32) from by decide]) (by decide) rfl ?_
      refine aw_goto (tgt := 94) d_Mo_round_146 rfl ?_
      refine aw_sub (lo' := [(0, .ref 151), (1, .int a1), (2, .int a2), (3, .int a3), (4, .int v4_78), (5, .int v5_78), (6, .int v6_78), (7, .int (v7_94 + (1 : Int32))), (8, .int v8_78)]) [1, 2, 3, 4, 5, 6, 7, 0, 8] rfl ?_
      exact ih _
    · refine aw_aload_n d_Mo_round_104 0 rfl ?_
      refine aw_iload d_Mo_round_105 6 rfl ?_
      refine aw_aload_n d_Mo_round_107 0 rfl ?_
      refine aw_iload d_Mo_round_108 7 rfl ?_
      refine aw_iconst d_Mo_round_110 ki_0 ?_
      refine aw_V_p (As := [.int v7_94, .int (0 : Int32)]) (m_Mo_cell) cv_Mo_265 kd_151 rfl rfl rfl (Nat.le_of_ble_eq_true rfl) ⟨Nat.le_of_ble_eq_true rfl, Nat.le_of_ble_eq_true rfl⟩ ⟨Nat.le_refl _, Nat.le_refl _⟩ d_Mo_round_111 (fun y111 => ?_)
      refine aw_V_p (As := [.int v6_78, .int y111]) (m_Mo_mile) cv_Mo_368 kd_151 rfl rfl rfl (Nat.le_of_ble_eq_true rfl) ⟨Nat.le_of_ble_eq_true rfl, Nat.le_of_ble_eq_true rfl⟩ ⟨Nat.le_refl _, Nat.le_refl _⟩ d_Mo_round_114 (fun y114 => ?_)
      refine aw_aload_n d_Mo_round_117 0 rfl ?_
      refine aw_getR (t := 164) fl_Mo_48 kd_151 rt_151_23 d_Mo_round_118 ?_
      refine aw_bipush d_Mo_round_121 kb_8 ?_
      refine aw_iload d_Mo_round_123 5 rfl ?_
      refine aw_iconst d_Mo_round_125 ki_1 ?_
      refine aw_iload d_Mo_round_126 7 rfl ?_
      refine aw_ishl d_Mo_round_128 ?_
      refine aw_iconst d_Mo_round_129 ki_m1 ?_
      refine aw_ixor d_Mo_round_130 ?_
      refine aw_iand d_Mo_round_131 ?_
      refine aw_imul d_Mo_round_132 ?_
      refine aw_iload d_Mo_round_133 7 rfl ?_
      refine aw_iadd d_Mo_round_135 ?_
      refine aw_iald kd_164 d_Mo_round_136 ?_
      refine aw_iadd d_Mo_round_137 ?_
      refine aw_iload d_Mo_round_138 4 rfl ?_
      refine aw_icmp_eq (tgt := 149) d_Mo_round_140 rfl (fun q140 => ?_) (fun q140 => ?_)
      · refine aw_sub (lo' := [(0, .ref 151), (1, .int a1), (2, .int a2), (3, .int a3), (4, .int v4_78), (5, .int v5_78), (6, .int v6_78), (7, .int v7_94), (8, .int v8_78)]) [0, 1, 2, 3, 4, 5, 6, 7, 8] rfl ?_
        exact hkx94_149 _
      · refine aw_iinc (v := (v7_94 + (1 : Int32))) (lo' := [(7, .int (v7_94 + (1 : Int32))), (0, .ref 151), (1, .int a1), (2, .int a2), (3, .int a3), (4, .int v4_78), (5, .int v5_78), (6, .int v6_78), (8, .int v8_78)]) d_Mo_round_143 7 rfl (by rw [show Int32.ofInt (1) = (1 : Int32) from by decide]) (by decide) rfl ?_
        refine aw_goto (tgt := 94) d_Mo_round_146 rfl ?_
        refine aw_sub (lo' := [(0, .ref 151), (1, .int a1), (2, .int a2), (3, .int a3), (4, .int v4_78), (5, .int v5_78), (6, .int v6_78), (7, .int (v7_94 + (1 : Int32))), (8, .int v8_78)]) [1, 2, 3, 4, 5, 6, 7, 0, 8] rfl ?_
        exact ih _
def lp_Mo_round_78 (kx78_193 : Int32 → Int32 → Int32 → Int32 → Int32 → Option (Int32 × Dm)) (a1 : Int32) (a2 : Int32) (a3 : Int32) (y47 : Dm) : Nat → Int32 → Int32 → Int32 → Int32 → Int32 → Option (Int32 × Dm)
  | 0, _, _, _, _, _ => none
  | f + 1, v4_78, v5_78, v6_78, v7_78, v8_78 => (if a3 < v8_78 then (kx78_193 v4_78 v5_78 v6_78 v7_78 v8_78) else (if v5_78 = 0 then (some ((-1 : Int32), y47)) else (lp_Mo_round_94 (fun v7_94x => ((f_Mo_cell v7_94x (0 : Int32) y47).bind (fun y158 => ((f_Mo_mile v6_78 y158 y47).bind (fun y161 => (bnd (v4_78 - y161) (fun v165 => ((f_Mo_cell v7_94x (0 : Int32) y47).bind (fun y171 => (bnd (v5_78 &&& (((1 : Int32) <<< (v7_94x &&& 31)) ^^^ (-1 : Int32))) (fun v185 => (lp_Mo_round_78 kx78_193 a1 a2 a3 y47 f v165 v185 y171 v7_94x (v8_78 + (1 : Int32)))))))))))))) a1 a2 a3 v4_78 v5_78 v6_78 v8_78 y47 FU (0 : Int32))))
set_option maxHeartbeats 4000000 in
set_option maxRecDepth 100000 in
theorem tl_Mo_round_78 {n : Nat} (kx78_193 : Int32 → Int32 → Int32 → Int32 → Int32 → Option (Int32 × Dm)) (a1 : Int32) (a2 : Int32) (a3 : Int32) (y47 : Dm) (hkx78_193 : ∀ v4_78k v5_78k v6_78k v7_78k v8_78k, AWo k_Mo_round 4 0 0 193 [(0, .ref 151), (1, .int a1), (2, .int a2), (3, .int a3), (4, .int v4_78k), (5, .int v5_78k), (6, .int v6_78k), (7, .int v7_78k), (8, .int v8_78k)] [] y47 RT n 0 0 (Km RT n) (kx78_193 v4_78k v5_78k v6_78k v7_78k v8_78k)) : ∀ (f : Nat) (v4_78 : Int32) (v5_78 : Int32) (v6_78 : Int32) (v7_78 : Int32) (v8_78 : Int32), AWo k_Mo_round 4 0 0 78 [(0, .ref 151), (1, .int a1), (2, .int a2), (3, .int a3), (4, .int v4_78), (5, .int v5_78), (6, .int v6_78), (7, .int v7_78), (8, .int v8_78)] [] y47 RT n 0 0 (Km RT n) (lp_Mo_round_78 kx78_193 a1 a2 a3 y47 f v4_78 v5_78 v6_78 v7_78 v8_78) := by
  intro f
  induction f with
  | zero => intro _ _ _ _ _; exact aw_none
  | succ f ih =>
    intro v4_78 v5_78 v6_78 v7_78 v8_78
    rw [lp_Mo_round_78]
    refine aw_iload d_Mo_round_78 8 rfl ?_
    refine aw_iload_n d_Mo_round_80 3 rfl ?_
    refine aw_icmp_gt (tgt := 193) d_Mo_round_81 rfl (fun q81 => ?_) (fun q81 => ?_)
    · refine aw_sub (lo' := [(0, .ref 151), (1, .int a1), (2, .int a2), (3, .int a3), (4, .int v4_78), (5, .int v5_78), (6, .int v6_78), (7, .int v7_78), (8, .int v8_78)]) [0, 1, 2, 3, 4, 5, 6, 7, 8] rfl ?_
      exact hkx78_193 _ _ _ _ _
    · refine aw_iload d_Mo_round_84 5 rfl ?_
      refine aw_if_ne (tgt := 91) d_Mo_round_86 rfl (fun q86 => ?_) (fun q86 => ?_)
      · refine aw_iconst d_Mo_round_89 ki_m1 ?_
        exact aw_iret rfl rfl ⟨Nat.le_refl _, Nat.le_refl _⟩ d_Mo_round_90
      · refine aw_iconst d_Mo_round_91 ki_0 ?_
        refine aw_istore (lo' := [(7, .int (0 : Int32)), (0, .ref 151), (1, .int a1), (2, .int a2), (3, .int a3), (4, .int v4_78), (5, .int v5_78), (6, .int v6_78), (8, .int v8_78)]) d_Mo_round_92 (by decide) rfl ?_
        refine aw_sub (lo' := [(0, .ref 151), (1, .int a1), (2, .int a2), (3, .int a3), (4, .int v4_78), (5, .int v5_78), (6, .int v6_78), (7, .int (0 : Int32)), (8, .int v8_78)]) [1, 2, 3, 4, 5, 6, 7, 0, 8] rfl ?_
        refine tl_Mo_round_94 _ _ _ _ _ _ _ _ _ (fun v7_94x => ?_) FU _
        · refine aw_iload d_Mo_round_149 4 rfl ?_
          refine aw_aload_n d_Mo_round_151 0 rfl ?_
          refine aw_iload d_Mo_round_152 6 rfl ?_
          refine aw_aload_n d_Mo_round_154 0 rfl ?_
          refine aw_iload d_Mo_round_155 7 rfl ?_
          refine aw_iconst d_Mo_round_157 ki_0 ?_
          refine aw_V_p (As := [.int v7_94x, .int (0 : Int32)]) (m_Mo_cell) cv_Mo_265 kd_151 rfl rfl rfl (Nat.le_of_ble_eq_true rfl) ⟨Nat.le_of_ble_eq_true rfl, Nat.le_of_ble_eq_true rfl⟩ ⟨Nat.le_refl _, Nat.le_refl _⟩ d_Mo_round_158 (fun y158 => ?_)
          refine aw_V_p (As := [.int v6_78, .int y158]) (m_Mo_mile) cv_Mo_368 kd_151 rfl rfl rfl (Nat.le_of_ble_eq_true rfl) ⟨Nat.le_of_ble_eq_true rfl, Nat.le_of_ble_eq_true rfl⟩ ⟨Nat.le_refl _, Nat.le_refl _⟩ d_Mo_round_161 (fun y161 => ?_)
          refine aw_isub d_Mo_round_164 ?_
          refine aw_bI (fun v165 => ?_)
          refine aw_istore (lo' := [(4, .int v165), (0, .ref 151), (1, .int a1), (2, .int a2), (3, .int a3), (5, .int v5_78), (6, .int v6_78), (7, .int v7_94x), (8, .int v8_78)]) d_Mo_round_165 (by decide) rfl ?_
          refine aw_aload_n d_Mo_round_167 1 rfl ?_
          refine aw_iload d_Mo_round_168 7 rfl ?_
          refine aw_iconst d_Mo_round_170 ki_0 ?_
          refine aw_V_p (As := [.int v7_94x, .int (0 : Int32)]) (m_Mo_cell) cv_Mo_265 kd_151 rfl rfl rfl (Nat.le_of_ble_eq_true rfl) ⟨Nat.le_of_ble_eq_true rfl, Nat.le_of_ble_eq_true rfl⟩ ⟨Nat.le_refl _, Nat.le_refl _⟩ d_Mo_round_171 (fun y171 => ?_)
          refine aw_istore (lo' := [(6, .int y171), (4, .int v165), (0, .ref 151), (1, .int a1), (2, .int a2), (3, .int a3), (5, .int v5_78), (7, .int v7_94x), (8, .int v8_78)]) d_Mo_round_174 (by decide) rfl ?_
          refine aw_iload d_Mo_round_176 6 rfl ?_
          refine aw_iconst d_Mo_round_178 ki_1 ?_
          refine aw_iload d_Mo_round_179 7 rfl ?_
          refine aw_ishl d_Mo_round_181 ?_
          refine aw_iconst d_Mo_round_182 ki_m1 ?_
          refine aw_ixor d_Mo_round_183 ?_
          refine aw_iand d_Mo_round_184 ?_
          refine aw_bI (fun v185 => ?_)
          refine aw_istore (lo' := [(5, .int v185), (6, .int y171), (4, .int v165), (0, .ref 151), (1, .int a1), (2, .int a2), (3, .int a3), (7, .int v7_94x), (8, .int v8_78)]) d_Mo_round_185 (by decide) rfl ?_
          refine aw_iinc (v := (v8_78 + (1 : Int32))) (lo' := [(8, .int (v8_78 + (1 : Int32))), (5, .int v185), (6, .int y171), (4, .int v165), (0, .ref 151), (1, .int a1), (2, .int a2), (3, .int a3), (7, .int v7_94x)]) d_Mo_round_187 8 rfl (by rw [show Int32.ofInt (1) = (1 : Int32) from by decide]) (by decide) rfl ?_
          refine aw_goto (tgt := 78) d_Mo_round_190 rfl ?_
          refine aw_sub (lo' := [(0, .ref 151), (1, .int a1), (2, .int a2), (3, .int a3), (4, .int v165), (5, .int v185), (6, .int y171), (7, .int v7_94x), (8, .int (v8_78 + (1 : Int32)))]) [4, 5, 6, 7, 3, 1, 2, 8, 0] rfl ?_
          exact ih _ _ _ _ _
def f_Mo_round (a1 : Int32) (a2 : Int32) (a3 : Int32) (δ : Dm) : Option (Int32 × Dm) := (if inb (2 : Int32) 8918 then ((f_Mo_in ((a1).toInt64) (0 : Int64) (((((1 : Int32) <<< ((gI δ 152 (ix (2 : Int32))) &&& 31)) - (1 : Int32))).toInt64) δ).bind (fun y14 => (if y14 = 0 then (some ((-2 : Int32), δ)) else ((f_Mo_isPlace a2 δ).bind (fun y22 => (if y22 = 0 then (some ((-2 : Int32), δ)) else ((f_Mo_in ((a3).toInt64) (-1 : Int64) (7 : Int64) δ).bind (fun y36 => (if y36 = 0 then (some ((-2 : Int32), δ)) else ((f_Mo_walks a2 δ).bind (fun y47 => ((f_Mo_milesOf a1 a2 y47).bind (fun y53 => (if a3 = (-1 : Int32) then (some (y53, y47)) else (lp_Mo_round_78 (fun v4_78x v5_78x v6_78x v7_78x v8_78x => (some (v7_78x, y47))) a1 a2 a3 y47 FU y53 a1 a2 (-1 : Int32) (0 : Int32)))))))))))))))) else none)
set_option maxHeartbeats 4000000 in
set_option maxRecDepth 100000 in
theorem m_Mo_round {a1 : Int32} {a2 : Int32} {a3 : Int32} {δ : Dm} {n : Nat} : ∀ x, f_Mo_round a1 a2 a3 δ = some x → AMet k_Mo_round 4 0 0 [.ref 151, .int a1, .int a2, .int a3] δ RT n (Km RT n x) := by
  refine aw_start (lo := [(0, .ref 151), (1, .int a1), (2, .int a2), (3, .int a3)]) mok_Mo_round rfl (Nat.le_of_ble_eq_true rfl) ?_
  unfold f_Mo_round
  refine aw_iload_n d_Mo_round_0 1 rfl ?_
  refine aw_i2l d_Mo_round_1 ?_
  refine aw_lconst d_Mo_round_2 kl_0 ?_
  refine aw_iconst d_Mo_round_3 ki_1 ?_
  refine aw_aload_n d_Mo_round_4 0 rfl ?_
  refine aw_getR (t := 152) fl_Mo_7 kd_151 rt_151_0 d_Mo_round_5 ?_
  refine aw_iconst d_Mo_round_8 ki_2 ?_
  refine aw_iald kd_152 d_Mo_round_9 ?_
  refine aw_ishl d_Mo_round_10 ?_
  refine aw_iconst d_Mo_round_11 ki_1 ?_
  refine aw_isub d_Mo_round_12 ?_
  refine aw_i2l d_Mo_round_13 ?_
  refine aw_S_p (As := [.long ((a1).toInt64), .long (0 : Int64), .long (((((1 : Int32) <<< ((gI δ 152 (ix (2 : Int32))) &&& 31)) - (1 : Int32))).toInt64)]) (m_Mo_in) cs_Mo_64 rfl rfl (Nat.le_of_ble_eq_true rfl) ⟨Nat.le_of_ble_eq_true rfl, Nat.le_of_ble_eq_true rfl⟩ ⟨Nat.le_refl _, Nat.le_refl _⟩ d_Mo_round_14 (fun y14 => ?_)
  refine aw_if_eq (tgt := 42) d_Mo_round_17 rfl (fun q17 => ?_) (fun q17 => ?_)
  · refine aw_bipush d_Mo_round_42 kb_m2 ?_
    exact aw_iret rfl rfl ⟨Nat.le_refl _, Nat.le_refl _⟩ d_Mo_round_44
  · refine aw_aload_n d_Mo_round_20 0 rfl ?_
    refine aw_iload_n d_Mo_round_21 2 rfl ?_
    refine aw_V_p (As := [.int a2]) (m_Mo_isPlace) cv_Mo_68 kd_151 rfl rfl rfl (Nat.le_of_ble_eq_true rfl) ⟨Nat.le_of_ble_eq_true rfl, Nat.le_of_ble_eq_true rfl⟩ ⟨Nat.le_refl _, Nat.le_refl _⟩ d_Mo_round_22 (fun y22 => ?_)
    refine aw_if_eq (tgt := 42) d_Mo_round_25 rfl (fun q25 => ?_) (fun q25 => ?_)
    · refine aw_bipush d_Mo_round_42 kb_m2 ?_
      exact aw_iret rfl rfl ⟨Nat.le_refl _, Nat.le_refl _⟩ d_Mo_round_44
    · refine aw_iload_n d_Mo_round_28 3 rfl ?_
      refine aw_i2l d_Mo_round_29 ?_
      refine aw_ldc2 (v := (-1 : Int64)) d_Mo_round_30 kc_Mo_374 ?_
      refine aw_ldc2 (v := (7 : Int64)) d_Mo_round_33 kc_Mo_316 ?_
      refine aw_S_p (As := [.long ((a3).toInt64), .long (-1 : Int64), .long (7 : Int64)]) (m_Mo_in) cs_Mo_64 rfl rfl (Nat.le_of_ble_eq_true rfl) ⟨Nat.le_of_ble_eq_true rfl, Nat.le_of_ble_eq_true rfl⟩ ⟨Nat.le_refl _, Nat.le_refl _⟩ d_Mo_round_36 (fun y36 => ?_)
      refine aw_if_ne (tgt := 45) d_Mo_round_39 rfl (fun q39 => ?_) (fun q39 => ?_)
      · refine aw_bipush d_Mo_round_42 kb_m2 ?_
        exact aw_iret rfl rfl ⟨Nat.le_refl _, Nat.le_refl _⟩ d_Mo_round_44
      · refine aw_aload_n d_Mo_round_45 0 rfl ?_
        refine aw_iload_n d_Mo_round_46 2 rfl ?_
        refine aw_V_v (As := [.int a2]) (m_Mo_walks) cv_Mo_376 kd_151 rfl rfl rfl (Nat.le_of_ble_eq_true rfl) ⟨Nat.le_of_ble_eq_true rfl, Nat.le_of_ble_eq_true rfl⟩ ⟨Nat.le_refl _, Nat.le_refl _⟩ d_Mo_round_47 (fun y47 => ?_)
        refine aw_aload_n d_Mo_round_50 0 rfl ?_
        refine aw_iload_n d_Mo_round_51 1 rfl ?_
        refine aw_iload_n d_Mo_round_52 2 rfl ?_
        refine aw_V_p (As := [.int a1, .int a2]) (m_Mo_milesOf) cv_Mo_379 kd_151 rfl rfl rfl (Nat.le_of_ble_eq_true rfl) ⟨Nat.le_of_ble_eq_true rfl, Nat.le_of_ble_eq_true rfl⟩ ⟨Nat.le_refl _, Nat.le_refl _⟩ d_Mo_round_53 (fun y53 => ?_)
        refine aw_istore (lo' := [(4, .int y53), (0, .ref 151), (1, .int a1), (2, .int a2), (3, .int a3)]) d_Mo_round_56 (by decide) rfl ?_
        refine aw_iload_n d_Mo_round_58 4 rfl ?_
        refine aw_iconst d_Mo_round_59 ki_m1 ?_
        refine aw_icmp_ne (tgt := 66) d_Mo_round_60 rfl (fun q60 => ?_) (fun q60 => ?_)
        · refine aw_iload d_Mo_round_63 0 rfl ?_
          exact aw_iret rfl rfl ⟨Nat.le_refl _, Nat.le_refl _⟩ d_Mo_round_65
        · refine aw_iload_n d_Mo_round_66 2 rfl ?_
          refine aw_istore (lo' := [(5, .int a1), (4, .int y53), (0, .ref 151), (1, .int a1), (2, .int a2), (3, .int a3)]) d_Mo_round_67 (by decide) rfl ?_
          refine aw_iload_n d_Mo_round_69 4 rfl ?_
          refine aw_istore (lo' := [(6, .int a2), (5, .int a1), (4, .int y53), (0, .ref 151), (1, .int a1), (2, .int a2), (3, .int a3)]) d_Mo_round_70 (by decide) rfl ?_
          refine aw_iconst d_Mo_round_72 ki_m1 ?_
          refine aw_istore (lo' := [(7, .int (-1 : Int32)), (6, .int a2), (5, .int a1), (4, .int y53), (0, .ref 151), (1, .int a1), (2, .int a2), (3, .int a3)]) d_Mo_round_73 (by decide) rfl ?_
          refine aw_iconst d_Mo_round_75 ki_0 ?_
          refine aw_istore (lo' := [(8, .int (0 : Int32)), (7, .int (-1 : Int32)), (6, .int a2), (5, .int a1), (4, .int y53), (0, .ref 151), (1, .int a1), (2, .int a2), (3, .int a3)]) d_Mo_round_76 (by decide) rfl ?_
          refine aw_sub (lo' := [(0, .ref 151), (1, .int a1), (2, .int a2), (3, .int a3), (4, .int y53), (5, .int a1), (6, .int a2), (7, .int (-1 : Int32)), (8, .int (0 : Int32))]) [5, 6, 7, 8, 4, 3, 2, 1, 0] rfl ?_
          refine tl_Mo_round_78 _ _ _ _ _ (fun v4_78x v5_78x v6_78x v7_78x v8_78x => ?_) FU _ _ _ _ _
          · refine aw_iload d_Mo_round_193 7 rfl ?_
            exact aw_iret rfl rfl ⟨Nat.le_refl _, Nat.le_refl _⟩ d_Mo_round_195
def f_Mo_call (a1 : Int32) (a2 : Int32) (δ : Dm) : Option (Int32 × Dm) := ((f_Mo_isBooth a1 δ).bind (fun y2 => (if y2 = 0 then (some ((-1 : Int32), δ)) else ((f_Mo_in ((a2).toInt64) (0 : Int64) (9999 : Int64) δ).bind (fun y14 => (if y14 = 0 then (some ((-1 : Int32), δ)) else ((f_Mo_cell a1 (11 : Int32) δ).bind (fun y26 => ((f_Mo_sets a1 (11 : Int32) a2 δ).bind (fun y35 => (some (y26, y35))))))))))))
set_option maxHeartbeats 4000000 in
set_option maxRecDepth 100000 in
theorem m_Mo_call {a1 : Int32} {a2 : Int32} {δ : Dm} {n : Nat} : ∀ x, f_Mo_call a1 a2 δ = some x → AMet k_Mo_call 2 0 0 [.ref 151, .int a1, .int a2] δ RT n (Km RT n x) := by
  refine aw_start (lo := [(0, .ref 151), (1, .int a1), (2, .int a2)]) mok_Mo_call rfl (Nat.le_of_ble_eq_true rfl) ?_
  unfold f_Mo_call
  refine aw_aload_n d_Mo_call_0 0 rfl ?_
  refine aw_iload_n d_Mo_call_1 1 rfl ?_
  refine aw_V_p (As := [.int a1]) (m_Mo_isBooth) cv_Mo_278 kd_151 rfl rfl rfl (Nat.le_of_ble_eq_true rfl) ⟨Nat.le_of_ble_eq_true rfl, Nat.le_of_ble_eq_true rfl⟩ ⟨Nat.le_refl _, Nat.le_refl _⟩ d_Mo_call_2 (fun y2 => ?_)
  refine aw_if_eq (tgt := 20) d_Mo_call_5 rfl (fun q5 => ?_) (fun q5 => ?_)
  · refine aw_iconst d_Mo_call_20 ki_m1 ?_
    exact aw_iret rfl rfl ⟨Nat.le_refl _, Nat.le_refl _⟩ d_Mo_call_21
  · refine aw_iload_n d_Mo_call_8 2 rfl ?_
    refine aw_i2l d_Mo_call_9 ?_
    refine aw_lconst d_Mo_call_10 kl_0 ?_
    refine aw_ldc2 (v := (9999 : Int64)) d_Mo_call_11 kc_Mo_281 ?_
    refine aw_S_p (As := [.long ((a2).toInt64), .long (0 : Int64), .long (9999 : Int64)]) (m_Mo_in) cs_Mo_64 rfl rfl (Nat.le_of_ble_eq_true rfl) ⟨Nat.le_of_ble_eq_true rfl, Nat.le_of_ble_eq_true rfl⟩ ⟨Nat.le_refl _, Nat.le_refl _⟩ d_Mo_call_14 (fun y14 => ?_)
    refine aw_if_ne (tgt := 22) d_Mo_call_17 rfl (fun q17 => ?_) (fun q17 => ?_)
    · refine aw_iconst d_Mo_call_20 ki_m1 ?_
      exact aw_iret rfl rfl ⟨Nat.le_refl _, Nat.le_refl _⟩ d_Mo_call_21
    · refine aw_aload_n d_Mo_call_22 0 rfl ?_
      refine aw_iload_n d_Mo_call_23 1 rfl ?_
      refine aw_bipush d_Mo_call_24 kb_11 ?_
      refine aw_V_p (As := [.int a1, .int (11 : Int32)]) (m_Mo_cell) cv_Mo_265 kd_151 rfl rfl rfl (Nat.le_of_ble_eq_true rfl) ⟨Nat.le_of_ble_eq_true rfl, Nat.le_of_ble_eq_true rfl⟩ ⟨Nat.le_refl _, Nat.le_refl _⟩ d_Mo_call_26 (fun y26 => ?_)
      refine aw_istore_n (lo' := [(3, .int y26), (0, .ref 151), (1, .int a1), (2, .int a2)]) d_Mo_call_29 rfl (by decide) rfl ?_
      refine aw_aload_n d_Mo_call_30 1 rfl ?_
      refine aw_iload_n d_Mo_call_31 2 rfl ?_
      refine aw_bipush d_Mo_call_32 kb_11 ?_
      refine aw_iload_n d_Mo_call_34 3 rfl ?_
      refine aw_V_v (As := [.int a1, .int (11 : Int32), .int a2]) (m_Mo_sets) cv_Mo_274 kd_151 rfl rfl rfl (Nat.le_of_ble_eq_true rfl) ⟨Nat.le_of_ble_eq_true rfl, Nat.le_of_ble_eq_true rfl⟩ ⟨Nat.le_refl _, Nat.le_refl _⟩ d_Mo_call_35 (fun y35 => ?_)
      refine aw_iload_n d_Mo_call_38 0 rfl ?_
      exact aw_iret rfl rfl ⟨Nat.le_refl _, Nat.le_refl _⟩ d_Mo_call_39
def lp_Mo_worthy_74 (kx74_119 : Int32 → Int32 → Option (Int32 × Dm)) (a1 : Int32) (a2 : Int32) (a3 : Int32) (v4_46 : Int32) (v5_46 : Int32) (v6_46 : Int32) (y34 : Dm) : Nat → Int32 → Int32 → Option (Int32 × Dm)
  | 0, _, _ => none
  | f + 1, v7_74, v8_74 => (if inb (2 : Int32) 8918 then (if (gI y34 152 (ix (2 : Int32))) ≤ v8_74 then (kx74_119 v7_74 v8_74) else (if ((v6_46 >>> (v8_74 &&& 31)) &&& (1 : Int32)) = (1 : Int32) then ((f_Mo_cell v8_74 (11 : Int32) y34).bind (fun y103 => (bnd (v7_74 + y103) (fun v111 => (lp_Mo_worthy_74 kx74_119 a1 a2 a3 v4_46 v5_46 v6_46 y34 f v111 (v8_74 + (1 : Int32))))))) else (bnd (v7_74 + (0 : Int32)) (fun v111_1 => (lp_Mo_worthy_74 kx74_119 a1 a2 a3 v4_46 v5_46 v6_46 y34 f v111_1 (v8_74 + (1 : Int32))))))) else none)
set_option maxHeartbeats 4000000 in
set_option maxRecDepth 100000 in
theorem tl_Mo_worthy_74 {n : Nat} (kx74_119 : Int32 → Int32 → Option (Int32 × Dm)) (a1 : Int32) (a2 : Int32) (a3 : Int32) (v4_46 : Int32) (v5_46 : Int32) (v6_46 : Int32) (y34 : Dm) (hkx74_119 : ∀ v7_74k v8_74k, AWo k_Mo_worthy 4 0 0 119 [(0, .ref 151), (1, .int a1), (2, .int a2), (3, .int a3), (4, .int v4_46), (5, .int v5_46), (6, .int v6_46), (7, .int v7_74k), (8, .int v8_74k)] [] y34 RT n 0 0 (Km RT n) (kx74_119 v7_74k v8_74k)) : ∀ (f : Nat) (v7_74 : Int32) (v8_74 : Int32), AWo k_Mo_worthy 4 0 0 74 [(0, .ref 151), (1, .int a1), (2, .int a2), (3, .int a3), (4, .int v4_46), (5, .int v5_46), (6, .int v6_46), (7, .int v7_74), (8, .int v8_74)] [] y34 RT n 0 0 (Km RT n) (lp_Mo_worthy_74 kx74_119 a1 a2 a3 v4_46 v5_46 v6_46 y34 f v7_74 v8_74) := by
  intro f
  induction f with
  | zero => intro _ _; exact aw_none
  | succ f ih =>
    intro v7_74 v8_74
    rw [lp_Mo_worthy_74]
    refine aw_iload d_Mo_worthy_74 8 rfl ?_
    refine aw_aload_n d_Mo_worthy_76 0 rfl ?_
    refine aw_getR (t := 152) fl_Mo_7 kd_151 rt_151_0 d_Mo_worthy_77 ?_
    refine aw_iconst d_Mo_worthy_80 ki_2 ?_
    refine aw_iald kd_152 d_Mo_worthy_81 ?_
    refine aw_icmp_ge (tgt := 119) d_Mo_worthy_82 rfl (fun q82 => ?_) (fun q82 => ?_)
    · refine aw_sub (lo' := [(0, .ref 151), (1, .int a1), (2, .int a2), (3, .int a3), (4, .int v4_46), (5, .int v5_46), (6, .int v6_46), (7, .int v7_74), (8, .int v8_74)]) [0, 1, 2, 3, 4, 5, 6, 7, 8] rfl ?_
      exact hkx74_119 _ _
    · refine aw_iload d_Mo_worthy_85 7 rfl ?_
      refine aw_iload d_Mo_worthy_87 6 rfl ?_
      refine aw_iload d_Mo_worthy_89 8 rfl ?_
      refine aw_ishr d_Mo_worthy_91 ?_
      refine aw_iconst d_Mo_worthy_92 ki_1 ?_
      refine aw_iand d_Mo_worthy_93 ?_
      refine aw_iconst d_Mo_worthy_94 ki_1 ?_
      refine aw_icmp_ne (tgt := 109) d_Mo_worthy_95 rfl (fun q95 => ?_) (fun q95 => ?_)
      · refine aw_aload_n d_Mo_worthy_98 0 rfl ?_
        refine aw_iload d_Mo_worthy_99 8 rfl ?_
        refine aw_bipush d_Mo_worthy_101 kb_11 ?_
        refine aw_V_p (As := [.int v8_74, .int (11 : Int32)]) (m_Mo_cell) cv_Mo_265 kd_151 rfl rfl rfl (Nat.le_of_ble_eq_true rfl) ⟨Nat.le_of_ble_eq_true rfl, Nat.le_of_ble_eq_true rfl⟩ ⟨Nat.le_refl _, Nat.le_refl _⟩ d_Mo_worthy_103 (fun y103 => ?_)
        refine aw_goto (tgt := 110) d_Mo_worthy_106 rfl ?_
        refine aw_iadd d_Mo_worthy_110 ?_
        refine aw_bI (fun v111 => ?_)
        refine aw_istore (lo' := [(7, .int v111), (0, .ref 151), (1, .int a1), (2, .int a2), (3, .int a3), (4, .int v4_46), (5, .int v5_46), (6, .int v6_46), (8, .int v8_74)]) d_Mo_worthy_111 (by decide) rfl ?_
        refine aw_iinc (v := (v8_74 + (1 : Int32))) (lo' := [(8, .int (v8_74 + (1 : Int32))), (7, .int v111), (0, .ref 151), (1, .int a1), (2, .int a2), (3, .int a3), (4, .int v4_46), (5, .int v5_46), (6, .int v6_46)]) d_Mo_worthy_113 8 rfl (by rw [show Int32.ofInt (1) = (1 : Int32) from by decide]) (by decide) rfl ?_
        refine aw_goto (tgt := 74) d_Mo_worthy_116 rfl ?_
        refine aw_sub (lo' := [(0, .ref 151), (1, .int a1), (2, .int a2), (3, .int a3), (4, .int v4_46), (5, .int v5_46), (6, .int v6_46), (7, .int v111), (8, .int (v8_74 + (1 : Int32)))]) [2, 3, 4, 5, 6, 7, 8, 1, 0] rfl ?_
        exact ih _ _
      · refine aw_iconst d_Mo_worthy_109 ki_0 ?_
        refine aw_iadd d_Mo_worthy_110 ?_
        refine aw_bI (fun v111_1 => ?_)
        refine aw_istore (lo' := [(7, .int v111_1), (0, .ref 151), (1, .int a1), (2, .int a2), (3, .int a3), (4, .int v4_46), (5, .int v5_46), (6, .int v6_46), (8, .int v8_74)]) d_Mo_worthy_111 (by decide) rfl ?_
        refine aw_iinc (v := (v8_74 + (1 : Int32))) (lo' := [(8, .int (v8_74 + (1 : Int32))), (7, .int v111_1), (0, .ref 151), (1, .int a1), (2, .int a2), (3, .int a3), (4, .int v4_46), (5, .int v5_46), (6, .int v6_46)]) d_Mo_worthy_113 8 rfl (by rw [show Int32.ofInt (1) = (1 : Int32) from by decide]) (by decide) rfl ?_
        refine aw_goto (tgt := 74) d_Mo_worthy_116 rfl ?_
        refine aw_sub (lo' := [(0, .ref 151), (1, .int a1), (2, .int a2), (3, .int a3), (4, .int v4_46), (5, .int v5_46), (6, .int v6_46), (7, .int v111_1), (8, .int (v8_74 + (1 : Int32)))]) [2, 3, 4, 5, 6, 7, 8, 1, 0] rfl ?_
        exact ih _ _
def lp_Mo_worthy_46 (kx46_143 : Int32 → Int32 → Int32 → Option (Int32 × Dm)) (a1 : Int32) (a2 : Int32) (a3 : Int32) (y34 : Dm) : Nat → Int32 → Int32 → Int32 → Option (Int32 × Dm)
  | 0, _, _, _ => none
  | f + 1, v4_46, v5_46, v6_46 => (if inb (2 : Int32) 8918 then (if ((1 : Int32) <<< ((gI y34 152 (ix (2 : Int32))) &&& 31)) ≤ v6_46 then (kx46_143 v4_46 v5_46 v6_46) else ((f_Mo_milesOf v6_46 a1 y34).bind (fun y65 => (bnd ((-a2) * y65) (fun v69 => (lp_Mo_worthy_74 (fun v7_74x v8_74x => (if v5_46 < v7_74x then (lp_Mo_worthy_46 kx46_143 a1 a2 a3 y34 f v6_46 v7_74x (v6_46 + (1 : Int32))) else (lp_Mo_worthy_46 kx46_143 a1 a2 a3 y34 f v4_46 v5_46 (v6_46 + (1 : Int32))))) a1 a2 a3 v4_46 v5_46 v6_46 y34 FU v69 (0 : Int32))))))) else none)
set_option maxHeartbeats 4000000 in
set_option maxRecDepth 100000 in
theorem tl_Mo_worthy_46 {n : Nat} (kx46_143 : Int32 → Int32 → Int32 → Option (Int32 × Dm)) (a1 : Int32) (a2 : Int32) (a3 : Int32) (y34 : Dm) (hkx46_143 : ∀ v4_46k v5_46k v6_46k, AWo k_Mo_worthy 4 0 0 143 [(0, .ref 151), (1, .int a1), (2, .int a2), (3, .int a3), (4, .int v4_46k), (5, .int v5_46k), (6, .int v6_46k)] [] y34 RT n 0 0 (Km RT n) (kx46_143 v4_46k v5_46k v6_46k)) : ∀ (f : Nat) (v4_46 : Int32) (v5_46 : Int32) (v6_46 : Int32), AWo k_Mo_worthy 4 0 0 46 [(0, .ref 151), (1, .int a1), (2, .int a2), (3, .int a3), (4, .int v4_46), (5, .int v5_46), (6, .int v6_46)] [] y34 RT n 0 0 (Km RT n) (lp_Mo_worthy_46 kx46_143 a1 a2 a3 y34 f v4_46 v5_46 v6_46) := by
  intro f
  induction f with
  | zero => intro _ _ _; exact aw_none
  | succ f ih =>
    intro v4_46 v5_46 v6_46
    rw [lp_Mo_worthy_46]
    refine aw_iload d_Mo_worthy_46 6 rfl ?_
    refine aw_iconst d_Mo_worthy_48 ki_1 ?_
    refine aw_aload_n d_Mo_worthy_49 0 rfl ?_
    refine aw_getR (t := 152) fl_Mo_7 kd_151 rt_151_0 d_Mo_worthy_50 ?_
    refine aw_iconst d_Mo_worthy_53 ki_2 ?_
    refine aw_iald kd_152 d_Mo_worthy_54 ?_
    refine aw_ishl d_Mo_worthy_55 ?_
    refine aw_icmp_ge (tgt := 143) d_Mo_worthy_56 rfl (fun q56 => ?_) (fun q56 => ?_)
    · refine aw_sub (lo' := [(0, .ref 151), (1, .int a1), (2, .int a2), (3, .int a3), (4, .int v4_46), (5, .int v5_46), (6, .int v6_46)]) [0, 1, 2, 3, 4, 5, 6] rfl ?_
      exact hkx46_143 _ _ _
    · refine aw_iload_n d_Mo_worthy_59 2 rfl ?_
      refine aw_ineg d_Mo_worthy_60 ?_
      refine aw_aload_n d_Mo_worthy_61 0 rfl ?_
      refine aw_iload d_Mo_worthy_62 6 rfl ?_
      refine aw_iload_n d_Mo_worthy_64 1 rfl ?_
      refine aw_V_p (As := [.int v6_46, .int a1]) (m_Mo_milesOf) cv_Mo_379 kd_151 rfl rfl rfl (Nat.le_of_ble_eq_true rfl) ⟨Nat.le_of_ble_eq_true rfl, Nat.le_of_ble_eq_true rfl⟩ ⟨Nat.le_refl _, Nat.le_refl _⟩ d_Mo_worthy_65 (fun y65 => ?_)
      refine aw_imul d_Mo_worthy_68 ?_
      refine aw_bI (fun v69 => ?_)
      refine aw_istore (lo' := [(7, .int v69), (0, .ref 151), (1, .int a1), (2, .int a2), (3, .int a3), (4, .int v4_46), (5, .int v5_46), (6, .int v6_46)]) d_Mo_worthy_69 (by decide) rfl ?_
      refine aw_iconst d_Mo_worthy_71 ki_0 ?_
      refine aw_istore (lo' := [(8, .int (0 : Int32)), (7, .int v69), (0, .ref 151), (1, .int a1), (2, .int a2), (3, .int a3), (4, .int v4_46), (5, .int v5_46), (6, .int v6_46)]) d_Mo_worthy_72 (by decide) rfl ?_
      refine aw_sub (lo' := [(0, .ref 151), (1, .int a1), (2, .int a2), (3, .int a3), (4, .int v4_46), (5, .int v5_46), (6, .int v6_46), (7, .int v69), (8, .int (0 : Int32))]) [2, 3, 4, 5, 6, 7, 8, 1, 0] rfl ?_
      refine tl_Mo_worthy_74 _ _ _ _ _ _ _ _ (fun v7_74x v8_74x => ?_) FU _ _
      · refine aw_iload d_Mo_worthy_119 7 rfl ?_
        refine aw_iload d_Mo_worthy_121 5 rfl ?_
        refine aw_icmp_gt (tgt := 129) d_Mo_worthy_123 rfl (fun q123 => ?_) (fun q123 => ?_)
        · refine aw_iload d_Mo_worthy_129 7 rfl ?_
          refine aw_istore (lo' := [(5, .int v7_74x), (0, .ref 151), (1, .int a1), (2, .int a2), (3, .int a3), (4, .int v4_46), (6, .int v6_46), (7, .int v7_74x), (8, .int v8_74x)]) d_Mo_worthy_131 (by decide) rfl ?_
          refine aw_iload d_Mo_worthy_133 6 rfl ?_
          refine aw_istore (lo' := [(4, .int v6_46), (5, .int v7_74x), (0, .ref 151), (1, .int a1), (2, .int a2), (3, .int a3), (6, .int v6_46), (7, .int v7_74x), (8, .int v8_74x)]) d_Mo_worthy_135 (by decide) rfl ?_
          refine aw_iinc (v := (v6_46 + (1 : Int32))) (lo' := [(6, .int (v6_46 + (1 : Int32))), (4, .int v6_46), (5, .int v7_74x), (0, .ref 151), (1, .int a1), (2, .int a2), (3, .int a3), (7, .int v7_74x), (8, .int v8_74x)]) d_Mo_worthy_137 6 rfl (by rw [show Int32.ofInt (1) = (1 : Int32) from by decide]) (by decide) rfl ?_
          refine aw_goto (tgt := 46) d_Mo_worthy_140 rfl ?_
          refine aw_sub (lo' := [(0, .ref 151), (1, .int a1), (2, .int a2), (3, .int a3), (4, .int v6_46), (5, .int v7_74x), (6, .int (v6_46 + (1 : Int32)))]) [3, 4, 5, 6, 1, 2, 0] rfl ?_
          exact ih _ _ _
        · refine aw_goto (tgt := 137) d_Mo_worthy_126 rfl ?_
          refine aw_iinc (v := (v6_46 + (1 : Int32))) (lo' := [(6, .int (v6_46 + (1 : Int32))), (0, .ref 151), (1, .int a1), (2, .int a2), (3, .int a3), (4, .int v4_46), (5, .int v5_46), (7, .int v7_74x), (8, .int v8_74x)]) d_Mo_worthy_137 6 rfl (by rw [show Int32.ofInt (1) = (1 : Int32) from by decide]) (by decide) rfl ?_
          refine aw_goto (tgt := 46) d_Mo_worthy_140 rfl ?_
          refine aw_sub (lo' := [(0, .ref 151), (1, .int a1), (2, .int a2), (3, .int a3), (4, .int v4_46), (5, .int v5_46), (6, .int (v6_46 + (1 : Int32)))]) [1, 2, 3, 4, 5, 6, 0] rfl ?_
          exact ih _ _ _
def f_Mo_worthy (a1 : Int32) (a2 : Int32) (a3 : Int32) (δ : Dm) : Option (Int32 × Dm) := ((f_Mo_isPlace a1 δ).bind (fun y2 => (if y2 = 0 then (some ((-1 : Int32), δ)) else ((f_Mo_in ((a2).toInt64) (0 : Int64) (99 : Int64) δ).bind (fun y14 => (if y14 = 0 then (some ((-1 : Int32), δ)) else ((f_Mo_in ((a3).toInt64) (0 : Int64) (1 : Int64) δ).bind (fun y24 => (if y24 = 0 then (some ((-1 : Int32), δ)) else ((f_Mo_walks a1 δ).bind (fun y34 => (lp_Mo_worthy_46 (fun v4_46x v5_46x v6_46x => (if a3 = 0 then (some (v4_46x, y34)) else (some (v5_46x, y34)))) a1 a2 a3 y34 FU (0 : Int32) (0 : Int32) (1 : Int32)))))))))))))
set_option maxHeartbeats 4000000 in
set_option maxRecDepth 100000 in
theorem m_Mo_worthy {a1 : Int32} {a2 : Int32} {a3 : Int32} {δ : Dm} {n : Nat} : ∀ x, f_Mo_worthy a1 a2 a3 δ = some x → AMet k_Mo_worthy 4 0 0 [.ref 151, .int a1, .int a2, .int a3] δ RT n (Km RT n x) := by
  refine aw_start (lo := [(0, .ref 151), (1, .int a1), (2, .int a2), (3, .int a3)]) mok_Mo_worthy rfl (Nat.le_of_ble_eq_true rfl) ?_
  unfold f_Mo_worthy
  refine aw_aload_n d_Mo_worthy_0 0 rfl ?_
  refine aw_iload_n d_Mo_worthy_1 1 rfl ?_
  refine aw_V_p (As := [.int a1]) (m_Mo_isPlace) cv_Mo_68 kd_151 rfl rfl rfl (Nat.le_of_ble_eq_true rfl) ⟨Nat.le_of_ble_eq_true rfl, Nat.le_of_ble_eq_true rfl⟩ ⟨Nat.le_refl _, Nat.le_refl _⟩ d_Mo_worthy_2 (fun y2 => ?_)
  refine aw_if_eq (tgt := 30) d_Mo_worthy_5 rfl (fun q5 => ?_) (fun q5 => ?_)
  · refine aw_iconst d_Mo_worthy_30 ki_m1 ?_
    exact aw_iret rfl rfl ⟨Nat.le_refl _, Nat.le_refl _⟩ d_Mo_worthy_31
  · refine aw_iload_n d_Mo_worthy_8 2 rfl ?_
    refine aw_i2l d_Mo_worthy_9 ?_
    refine aw_lconst d_Mo_worthy_10 kl_0 ?_
    refine aw_ldc2 (v := (99 : Int64)) d_Mo_worthy_11 kc_Mo_62 ?_
    refine aw_S_p (As := [.long ((a2).toInt64), .long (0 : Int64), .long (99 : Int64)]) (m_Mo_in) cs_Mo_64 rfl rfl (Nat.le_of_ble_eq_true rfl) ⟨Nat.le_of_ble_eq_true rfl, Nat.le_of_ble_eq_true rfl⟩ ⟨Nat.le_refl _, Nat.le_refl _⟩ d_Mo_worthy_14 (fun y14 => ?_)
    refine aw_if_eq (tgt := 30) d_Mo_worthy_17 rfl (fun q17 => ?_) (fun q17 => ?_)
    · refine aw_iconst d_Mo_worthy_30 ki_m1 ?_
      exact aw_iret rfl rfl ⟨Nat.le_refl _, Nat.le_refl _⟩ d_Mo_worthy_31
    · refine aw_iload_n d_Mo_worthy_20 3 rfl ?_
      refine aw_i2l d_Mo_worthy_21 ?_
      refine aw_lconst d_Mo_worthy_22 kl_0 ?_
      refine aw_lconst d_Mo_worthy_23 kl_1 ?_
      refine aw_S_p (As := [.long ((a3).toInt64), .long (0 : Int64), .long (1 : Int64)]) (m_Mo_in) cs_Mo_64 rfl rfl (Nat.le_of_ble_eq_true rfl) ⟨Nat.le_of_ble_eq_true rfl, Nat.le_of_ble_eq_true rfl⟩ ⟨Nat.le_refl _, Nat.le_refl _⟩ d_Mo_worthy_24 (fun y24 => ?_)
      refine aw_if_ne (tgt := 32) d_Mo_worthy_27 rfl (fun q27 => ?_) (fun q27 => ?_)
      · refine aw_iconst d_Mo_worthy_30 ki_m1 ?_
        exact aw_iret rfl rfl ⟨Nat.le_refl _, Nat.le_refl _⟩ d_Mo_worthy_31
      · refine aw_aload_n d_Mo_worthy_32 0 rfl ?_
        refine aw_iload_n d_Mo_worthy_33 1 rfl ?_
        refine aw_V_v (As := [.int a1]) (m_Mo_walks) cv_Mo_376 kd_151 rfl rfl rfl (Nat.le_of_ble_eq_true rfl) ⟨Nat.le_of_ble_eq_true rfl, Nat.le_of_ble_eq_true rfl⟩ ⟨Nat.le_refl _, Nat.le_refl _⟩ d_Mo_worthy_34 (fun y34 => ?_)
        refine aw_iconst d_Mo_worthy_37 ki_0 ?_
        refine aw_istore (lo' := [(4, .int (0 : Int32)), (0, .ref 151), (1, .int a1), (2, .int a2), (3, .int a3)]) d_Mo_worthy_38 (by decide) rfl ?_
        refine aw_iconst d_Mo_worthy_40 ki_0 ?_
        refine aw_istore (lo' := [(5, .int (0 : Int32)), (4, .int (0 : Int32)), (0, .ref 151), (1, .int a1), (2, .int a2), (3, .int a3)]) d_Mo_worthy_41 (by decide) rfl ?_
        refine aw_iconst d_Mo_worthy_43 ki_1 ?_
        refine aw_istore (lo' := [(6, .int (1 : Int32)), (5, .int (0 : Int32)), (4, .int (0 : Int32)), (0, .ref 151), (1, .int a1), (2, .int a2), (3, .int a3)]) d_Mo_worthy_44 (by decide) rfl ?_
        refine aw_sub (lo' := [(0, .ref 151), (1, .int a1), (2, .int a2), (3, .int a3), (4, .int (0 : Int32)), (5, .int (0 : Int32)), (6, .int (1 : Int32))]) [3, 4, 5, 6, 2, 1, 0] rfl ?_
        refine tl_Mo_worthy_46 _ _ _ _ _ (fun v4_46x v5_46x v6_46x => ?_) FU _ _ _
        · refine aw_iload_n d_Mo_worthy_143 3 rfl ?_
          refine aw_if_ne (tgt := 152) d_Mo_worthy_144 rfl (fun q144 => ?_) (fun q144 => ?_)
          · refine aw_iload d_Mo_worthy_147 4 rfl ?_
            refine aw_goto (tgt := 154) d_Mo_worthy_149 rfl ?_
            exact aw_iret rfl rfl ⟨Nat.le_refl _, Nat.le_refl _⟩ d_Mo_worthy_154
          · refine aw_iload d_Mo_worthy_152 5 rfl ?_
            exact aw_iret rfl rfl ⟨Nat.le_refl _, Nat.le_refl _⟩ d_Mo_worthy_154
def f_Mo_takes (a1 : Int32) (a2 : Int32) (a3 : Int32) (a4 : Int32) (δ : Dm) : Option (Int32 × Dm) := ((f_Mo_isBooth a1 δ).bind (fun y2 => (if y2 = 0 then (some ((0 : Int32), δ)) else ((f_Mo_isPlace a2 δ).bind (fun y10 => (if y10 = 0 then (some ((0 : Int32), δ)) else ((f_Mo_in ((a3).toInt64) (0 : Int64) (9999 : Int64) δ).bind (fun y22 => (if y22 = 0 then (some ((0 : Int32), δ)) else ((f_Mo_in ((a4).toInt64) ((a3).toInt64) (9999 : Int64) δ).bind (fun y36 => (if y36 = 0 then (some ((0 : Int32), δ)) else (if inb ((8726 : Int32) + ((2 : Int32) * (((12 : Int32) * a1) + a2))) 8918 then bnd (sI δ 152 (ix ((8726 : Int32) + ((2 : Int32) * (((12 : Int32) * a1) + a2)))) a3) (fun δ_61 => (if inb (((8726 : Int32) + ((2 : Int32) * (((12 : Int32) * a1) + a2))) + (1 : Int32)) 8918 then bnd (sI δ_61 152 (ix (((8726 : Int32) + ((2 : Int32) * (((12 : Int32) * a1) + a2))) + (1 : Int32))) a4) (fun δ_82 => (some ((1 : Int32), δ_82))) else none)) else none)))))))))))))
set_option maxHeartbeats 4000000 in
set_option maxRecDepth 100000 in
theorem m_Mo_takes {a1 : Int32} {a2 : Int32} {a3 : Int32} {a4 : Int32} {δ : Dm} {n : Nat} : ∀ x, f_Mo_takes a1 a2 a3 a4 δ = some x → AMet k_Mo_takes 2 0 0 [.ref 151, .int a1, .int a2, .int a3, .int a4] δ RT n (Km RT n x) := by
  refine aw_start (lo := [(0, .ref 151), (1, .int a1), (2, .int a2), (3, .int a3), (4, .int a4)]) mok_Mo_takes rfl (Nat.le_of_ble_eq_true rfl) ?_
  unfold f_Mo_takes
  refine aw_aload_n d_Mo_takes_0 0 rfl ?_
  refine aw_iload_n d_Mo_takes_1 1 rfl ?_
  refine aw_V_p (As := [.int a1]) (m_Mo_isBooth) cv_Mo_278 kd_151 rfl rfl rfl (Nat.le_of_ble_eq_true rfl) ⟨Nat.le_of_ble_eq_true rfl, Nat.le_of_ble_eq_true rfl⟩ ⟨Nat.le_refl _, Nat.le_refl _⟩ d_Mo_takes_2 (fun y2 => ?_)
  refine aw_if_eq (tgt := 42) d_Mo_takes_5 rfl (fun q5 => ?_) (fun q5 => ?_)
  · refine aw_iconst d_Mo_takes_42 ki_0 ?_
    exact aw_zret rfl rfl rfl ⟨Nat.le_refl _, Nat.le_refl _⟩ d_Mo_takes_43
  · refine aw_aload_n d_Mo_takes_8 0 rfl ?_
    refine aw_iload_n d_Mo_takes_9 2 rfl ?_
    refine aw_V_p (As := [.int a2]) (m_Mo_isPlace) cv_Mo_68 kd_151 rfl rfl rfl (Nat.le_of_ble_eq_true rfl) ⟨Nat.le_of_ble_eq_true rfl, Nat.le_of_ble_eq_true rfl⟩ ⟨Nat.le_refl _, Nat.le_refl _⟩ d_Mo_takes_10 (fun y10 => ?_)
    refine aw_if_eq (tgt := 42) d_Mo_takes_13 rfl (fun q13 => ?_) (fun q13 => ?_)
    · refine aw_iconst d_Mo_takes_42 ki_0 ?_
      exact aw_zret rfl rfl rfl ⟨Nat.le_refl _, Nat.le_refl _⟩ d_Mo_takes_43
    · refine aw_iload_n d_Mo_takes_16 3 rfl ?_
      refine aw_i2l d_Mo_takes_17 ?_
      refine aw_lconst d_Mo_takes_18 kl_0 ?_
      refine aw_ldc2 (v := (9999 : Int64)) d_Mo_takes_19 kc_Mo_281 ?_
      refine aw_S_p (As := [.long ((a3).toInt64), .long (0 : Int64), .long (9999 : Int64)]) (m_Mo_in) cs_Mo_64 rfl rfl (Nat.le_of_ble_eq_true rfl) ⟨Nat.le_of_ble_eq_true rfl, Nat.le_of_ble_eq_true rfl⟩ ⟨Nat.le_refl _, Nat.le_refl _⟩ d_Mo_takes_22 (fun y22 => ?_)
      refine aw_if_eq (tgt := 42) d_Mo_takes_25 rfl (fun q25 => ?_) (fun q25 => ?_)
      · refine aw_iconst d_Mo_takes_42 ki_0 ?_
        exact aw_zret rfl rfl rfl ⟨Nat.le_refl _, Nat.le_refl _⟩ d_Mo_takes_43
      · refine aw_iload d_Mo_takes_28 4 rfl ?_
        refine aw_i2l d_Mo_takes_30 ?_
        refine aw_iload_n d_Mo_takes_31 3 rfl ?_
        refine aw_i2l d_Mo_takes_32 ?_
        refine aw_ldc2 (v := (9999 : Int64)) d_Mo_takes_33 kc_Mo_281 ?_
        refine aw_S_p (As := [.long ((a4).toInt64), .long ((a3).toInt64), .long (9999 : Int64)]) (m_Mo_in) cs_Mo_64 rfl rfl (Nat.le_of_ble_eq_true rfl) ⟨Nat.le_of_ble_eq_true rfl, Nat.le_of_ble_eq_true rfl⟩ ⟨Nat.le_refl _, Nat.le_refl _⟩ d_Mo_takes_36 (fun y36 => ?_)
        refine aw_if_ne (tgt := 44) d_Mo_takes_39 rfl (fun q39 => ?_) (fun q39 => ?_)
        · refine aw_iconst d_Mo_takes_42 ki_0 ?_
          exact aw_zret rfl rfl rfl ⟨Nat.le_refl _, Nat.le_refl _⟩ d_Mo_takes_43
        · refine aw_aload_n d_Mo_takes_44 0 rfl ?_
          refine aw_getR (t := 152) fl_Mo_7 kd_151 rt_151_0 d_Mo_takes_45 ?_
          refine aw_sipush d_Mo_takes_48 ks_8726 ?_
          refine aw_iconst d_Mo_takes_51 ki_2 ?_
          refine aw_bipush d_Mo_takes_52 kb_12 ?_
          refine aw_iload_n d_Mo_takes_54 1 rfl ?_
          refine aw_imul d_Mo_takes_55 ?_
          refine aw_iload_n d_Mo_takes_56 2 rfl ?_
          refine aw_iadd d_Mo_takes_57 ?_
          refine aw_imul d_Mo_takes_58 ?_
          refine aw_iadd d_Mo_takes_59 ?_
          refine aw_iload_n d_Mo_takes_60 3 rfl ?_
          refine aw_iast kd_152 d_Mo_takes_61 ?_
          refine aw_bD (fun δ_61 => ?_)
          refine aw_aload_n d_Mo_takes_62 0 rfl ?_
          refine aw_getR (t := 152) fl_Mo_7 kd_151 rt_151_0 d_Mo_takes_63 ?_
          refine aw_sipush d_Mo_takes_66 ks_8726 ?_
          refine aw_iconst d_Mo_takes_69 ki_2 ?_
          refine aw_bipush d_Mo_takes_70 kb_12 ?_
          refine aw_iload_n d_Mo_takes_72 1 rfl ?_
          refine aw_imul d_Mo_takes_73 ?_
          refine aw_iload_n d_Mo_takes_74 2 rfl ?_
          refine aw_iadd d_Mo_takes_75 ?_
          refine aw_imul d_Mo_takes_76 ?_
          refine aw_iadd d_Mo_takes_77 ?_
          refine aw_iconst d_Mo_takes_78 ki_1 ?_
          refine aw_iadd d_Mo_takes_79 ?_
          refine aw_iload d_Mo_takes_80 4 rfl ?_
          refine aw_iast kd_152 d_Mo_takes_82 ?_
          refine aw_bD (fun δ_82 => ?_)
          refine aw_iconst d_Mo_takes_83 ki_1 ?_
          exact aw_zret rfl rfl rfl ⟨Nat.le_refl _, Nat.le_refl _⟩ d_Mo_takes_84
def lp_Mo_bits_4 (kx4_20 : Int32 → Int32 → Option Int32) (a0 : Int32) (δ : Dm) : Nat → Int32 → Int32 → Option Int32
  | 0, _, _ => none
  | f + 1, v1_4, v2_4 => (if v2_4 = 0 then (kx4_20 v1_4 v2_4) else (bnd (v2_4 &&& (v2_4 - (1 : Int32))) (fun v16 => (lp_Mo_bits_4 kx4_20 a0 δ f (v1_4 + (1 : Int32)) v16))))
set_option maxHeartbeats 4000000 in
set_option maxRecDepth 100000 in
theorem tl_Mo_bits_4 {n : Nat} (kx4_20 : Int32 → Int32 → Option Int32) (a0 : Int32) (δ : Dm) (hkx4_20 : ∀ v1_4k v2_4k, AWo k_Mo_bits 1 0 0 20 [(0, .int a0), (1, .int v1_4k), (2, .int v2_4k)] [] δ RT n 0 0 (Kp δ RT n) (kx4_20 v1_4k v2_4k)) : ∀ (f : Nat) (v1_4 : Int32) (v2_4 : Int32), AWo k_Mo_bits 1 0 0 4 [(0, .int a0), (1, .int v1_4), (2, .int v2_4)] [] δ RT n 0 0 (Kp δ RT n) (lp_Mo_bits_4 kx4_20 a0 δ f v1_4 v2_4) := by
  intro f
  induction f with
  | zero => intro _ _; exact aw_none
  | succ f ih =>
    intro v1_4 v2_4
    rw [lp_Mo_bits_4]
    refine aw_iload_n d_Mo_bits_4 2 rfl ?_
    refine aw_if_eq (tgt := 20) d_Mo_bits_5 rfl (fun q5 => ?_) (fun q5 => ?_)
    · refine aw_sub (lo' := [(0, .int a0), (1, .int v1_4), (2, .int v2_4)]) [0, 1, 2] rfl ?_
      exact hkx4_20 _ _
    · refine aw_iinc (v := (v1_4 + (1 : Int32))) (lo' := [(1, .int (v1_4 + (1 : Int32))), (0, .int a0), (2, .int v2_4)]) d_Mo_bits_8 1 rfl (by rw [show Int32.ofInt (1) = (1 : Int32) from by decide]) (by decide) rfl ?_
      refine aw_iload_n d_Mo_bits_11 2 rfl ?_
      refine aw_iload_n d_Mo_bits_12 2 rfl ?_
      refine aw_iconst d_Mo_bits_13 ki_1 ?_
      refine aw_isub d_Mo_bits_14 ?_
      refine aw_iand d_Mo_bits_15 ?_
      refine aw_bI (fun v16 => ?_)
      refine aw_istore_n (lo' := [(2, .int v16), (1, .int (v1_4 + (1 : Int32))), (0, .int a0)]) d_Mo_bits_16 rfl (by decide) rfl ?_
      refine aw_goto (tgt := 4) d_Mo_bits_17 rfl ?_
      refine aw_sub (lo' := [(0, .int a0), (1, .int (v1_4 + (1 : Int32))), (2, .int v16)]) [2, 1, 0] rfl ?_
      exact ih _ _
def f_Mo_bits (a0 : Int32) (δ : Dm) : Option Int32 := (lp_Mo_bits_4 (fun v1_4x v2_4x => (some v1_4x)) a0 δ FU (0 : Int32) a0)
set_option maxHeartbeats 4000000 in
set_option maxRecDepth 100000 in
theorem m_Mo_bits {a0 : Int32} {δ : Dm} {n : Nat} : ∀ x, f_Mo_bits a0 δ = some x → AMet k_Mo_bits 1 0 0 [.int a0] δ RT n (Kp δ RT n x) := by
  refine aw_start (lo := [(0, .int a0)]) mok_Mo_bits rfl (Nat.le_of_ble_eq_true rfl) ?_
  unfold f_Mo_bits
  refine aw_iconst d_Mo_bits_0 ki_0 ?_
  refine aw_istore_n (lo' := [(1, .int (0 : Int32)), (0, .int a0)]) d_Mo_bits_1 rfl (by decide) rfl ?_
  refine aw_iload_n d_Mo_bits_2 1 rfl ?_
  refine aw_istore_n (lo' := [(2, .int a0), (1, .int (0 : Int32)), (0, .int a0)]) d_Mo_bits_3 rfl (by decide) rfl ?_
  refine aw_sub (lo' := [(0, .int a0), (1, .int (0 : Int32)), (2, .int a0)]) [2, 1, 0] rfl ?_
  refine tl_Mo_bits_4 _ _ _ (fun v1_4x v2_4x => ?_) FU _ _
  · refine aw_iload_n d_Mo_bits_20 1 rfl ?_
    exact aw_iret rfl rfl ⟨Nat.le_refl _, Nat.le_refl _⟩ d_Mo_bits_21
def jp_Mo_takesAt_25 (a1 : Int32) (a2 : Int32) (a3 : Int32) (a4 : Int32) (δ : Dm) (s0_25 : Int32) (s1_25 : Int32) : Option Int32 := (if inb (s1_25 + s0_25) 8918 then ((f_Mo_cell a1 (0 : Int32) δ).bind (fun y30 => (if y30 = a2 then (some ((gI δ 152 (ix (s1_25 + s0_25))) - (0 : Int32))) else (some ((gI δ 152 (ix (s1_25 + s0_25))) - a4))))) else none)
set_option maxHeartbeats 4000000 in
set_option maxRecDepth 100000 in
theorem tj_Mo_takesAt_25 {n : Nat} (a1 : Int32) (a2 : Int32) (a3 : Int32) (a4 : Int32) (δ : Dm) (s0_25 : Int32) (s1_25 : Int32) : AWo k_Mo_takesAt 2 0 0 25 [(0, .ref 151), (1, .int a1), (2, .int a2), (3, .int a3), (4, .int a4)] [.int s0_25, .int s1_25, .ref 152] δ RT n 0 0 (Kp δ RT n) (jp_Mo_takesAt_25 a1 a2 a3 a4 δ s0_25 s1_25) := by
  unfold jp_Mo_takesAt_25
  refine aw_iadd d_Mo_takesAt_25 ?_
  refine aw_iald kd_152 d_Mo_takesAt_26 ?_
  refine aw_aload_n d_Mo_takesAt_27 0 rfl ?_
  refine aw_iload_n d_Mo_takesAt_28 1 rfl ?_
  refine aw_iconst d_Mo_takesAt_29 ki_0 ?_
  refine aw_V_p (As := [.int a1, .int (0 : Int32)]) (m_Mo_cell) cv_Mo_265 kd_151 rfl rfl rfl (Nat.le_of_ble_eq_true rfl) ⟨Nat.le_of_ble_eq_true rfl, Nat.le_of_ble_eq_true rfl⟩ ⟨Nat.le_refl _, Nat.le_refl _⟩ d_Mo_takesAt_30 (fun y30 => ?_)
  refine aw_iload_n d_Mo_takesAt_33 2 rfl ?_
  refine aw_icmp_ne (tgt := 41) d_Mo_takesAt_34 rfl (fun q34 => ?_) (fun q34 => ?_)
  · refine aw_iconst d_Mo_takesAt_37 ki_0 ?_
    refine aw_goto (tgt := 43) d_Mo_takesAt_38 rfl ?_
    refine aw_isub d_Mo_takesAt_43 ?_
    exact aw_iret rfl rfl ⟨Nat.le_refl _, Nat.le_refl _⟩ d_Mo_takesAt_44
  · refine aw_iload d_Mo_takesAt_41 4 rfl ?_
    refine aw_isub d_Mo_takesAt_43 ?_
    exact aw_iret rfl rfl ⟨Nat.le_refl _, Nat.le_refl _⟩ d_Mo_takesAt_44
def f_Mo_takesAt (a1 : Int32) (a2 : Int32) (a3 : Int32) (a4 : Int32) (δ : Dm) : Option Int32 := (if a3 = 0 then (jp_Mo_takesAt_25 a1 a2 a3 a4 δ (0 : Int32) ((8726 : Int32) + ((2 : Int32) * (((12 : Int32) * a1) + a2)))) else (jp_Mo_takesAt_25 a1 a2 a3 a4 δ (1 : Int32) ((8726 : Int32) + ((2 : Int32) * (((12 : Int32) * a1) + a2)))))
set_option maxHeartbeats 4000000 in
set_option maxRecDepth 100000 in
theorem m_Mo_takesAt {a1 : Int32} {a2 : Int32} {a3 : Int32} {a4 : Int32} {δ : Dm} {n : Nat} : ∀ x, f_Mo_takesAt a1 a2 a3 a4 δ = some x → AMet k_Mo_takesAt 2 0 0 [.ref 151, .int a1, .int a2, .int a3, .int a4] δ RT n (Kp δ RT n x) := by
  refine aw_start (lo := [(0, .ref 151), (1, .int a1), (2, .int a2), (3, .int a3), (4, .int a4)]) mok_Mo_takesAt rfl (Nat.le_of_ble_eq_true rfl) ?_
  unfold f_Mo_takesAt
  refine aw_aload_n d_Mo_takesAt_0 0 rfl ?_
  refine aw_getR (t := 152) fl_Mo_7 kd_151 rt_151_0 d_Mo_takesAt_1 ?_
  refine aw_sipush d_Mo_takesAt_4 ks_8726 ?_
  refine aw_iconst d_Mo_takesAt_7 ki_2 ?_
  refine aw_bipush d_Mo_takesAt_8 kb_12 ?_
  refine aw_iload_n d_Mo_takesAt_10 1 rfl ?_
  refine aw_imul d_Mo_takesAt_11 ?_
  refine aw_iload_n d_Mo_takesAt_12 2 rfl ?_
  refine aw_iadd d_Mo_takesAt_13 ?_
  refine aw_imul d_Mo_takesAt_14 ?_
  refine aw_iadd d_Mo_takesAt_15 ?_
  refine aw_iload_n d_Mo_takesAt_16 3 rfl ?_
  refine aw_if_eq (tgt := 24) d_Mo_takesAt_17 rfl (fun q17 => ?_) (fun q17 => ?_)
  · refine aw_iconst d_Mo_takesAt_24 ki_0 ?_
    refine aw_sub (lo' := [(0, .ref 151), (1, .int a1), (2, .int a2), (3, .int a3), (4, .int a4)]) [0, 1, 2, 3, 4] rfl ?_
    exact tj_Mo_takesAt_25 _ _ _ _ _ _ _
  · refine aw_iconst d_Mo_takesAt_20 ki_1 ?_
    refine aw_goto (tgt := 25) d_Mo_takesAt_21 rfl ?_
    refine aw_sub (lo' := [(0, .ref 151), (1, .int a1), (2, .int a2), (3, .int a3), (4, .int a4)]) [0, 1, 2, 3, 4] rfl ?_
    exact tj_Mo_takesAt_25 _ _ _ _ _ _ _
def lp_Mo_placed_236 (kx236_286 : Int32 → Option (Int32 × Dm)) (a1 : Int32) (a2 : Int32) (a3 : Int32) (v4_227 : Int32) (v6_227 : Int32) (δ48x : Dm) : Nat → Int32 → Option (Int32 × Dm)
  | 0, _ => none
  | f + 1, v5_236 => (if ((v4_227 >>> (v5_236 &&& 31)) &&& (1 : Int32)) = (1 : Int32) then (lp_Mo_placed_236 kx236_286 a1 a2 a3 v4_227 v6_227 δ48x f (v5_236 + (1 : Int32))) else ((f_Mo_takesAt v6_227 v5_236 a1 a2 δ48x).bind (fun y254 => (if inb (v4_227 ||| ((1 : Int32) <<< (v5_236 &&& 31))) 4096 then (if inb v4_227 4096 then (if (y254 + (gI δ48x 165 (ix (v4_227 ||| ((1 : Int32) <<< (v5_236 &&& 31)))))) = (gI δ48x 165 (ix v4_227)) then (kx236_286 v5_236) else (lp_Mo_placed_236 kx236_286 a1 a2 a3 v4_227 v6_227 δ48x f (v5_236 + (1 : Int32)))) else none) else none))))
set_option maxHeartbeats 4000000 in
set_option maxRecDepth 100000 in
theorem tl_Mo_placed_236 {n : Nat} (kx236_286 : Int32 → Option (Int32 × Dm)) (a1 : Int32) (a2 : Int32) (a3 : Int32) (v4_227 : Int32) (v6_227 : Int32) (δ48x : Dm) (hkx236_286 : ∀ v5_236k, AWo k_Mo_placed 3 0 0 286 [(0, .ref 151), (1, .int a1), (2, .int a2), (3, .int a3), (4, .int v4_227), (5, .int v5_236k), (6, .int v6_227)] [] δ48x RT n 0 0 (Km RT n) (kx236_286 v5_236k)) : ∀ (f : Nat) (v5_236 : Int32), AWo k_Mo_placed 3 0 0 236 [(0, .ref 151), (1, .int a1), (2, .int a2), (3, .int a3), (4, .int v4_227), (5, .int v5_236), (6, .int v6_227)] [] δ48x RT n 0 0 (Km RT n) (lp_Mo_placed_236 kx236_286 a1 a2 a3 v4_227 v6_227 δ48x f v5_236) := by
  intro f
  induction f with
  | zero => intro _; exact aw_none
  | succ f ih =>
    intro v5_236
    rw [lp_Mo_placed_236]
    refine aw_iload d_Mo_placed_236 4 rfl ?_
    refine aw_iload d_Mo_placed_238 5 rfl ?_
    refine aw_ishr d_Mo_placed_240 ?_
    refine aw_iconst d_Mo_placed_241 ki_1 ?_
    refine aw_iand d_Mo_placed_242 ?_
    refine aw_iconst d_Mo_placed_243 ki_1 ?_
    refine aw_icmp_eq (tgt := 280) d_Mo_placed_244 rfl (fun q244 => ?_) (fun q244 => ?_)
    · refine aw_iinc (v := (v5_236 + (1 : Int32))) (lo' := [(5, .int (v5_236 + (1 : Int32))), (0, .ref 151), (1, .int a1), (2, .int a2), (3, .int a3), (4, .int v4_227), (6, .int v6_227)]) d_Mo_placed_280 5 rfl (by rw [show Int32.ofInt (1) = (1 : Int32) from by decide]) (by decide) rfl ?_
      refine aw_goto (tgt := 236) d_Mo_placed_283 rfl ?_
      refine aw_sub (lo' := [(0, .ref 151), (1, .int a1), (2, .int a2), (3, .int a3), (4, .int v4_227), (5, .int (v5_236 + (1 : Int32))), (6, .int v6_227)]) [1, 2, 3, 4, 5, 0, 6] rfl ?_
      exact ih _
    · refine aw_aload_n d_Mo_placed_247 0 rfl ?_
      refine aw_iload d_Mo_placed_248 6 rfl ?_
      refine aw_iload d_Mo_placed_250 5 rfl ?_
      refine aw_iload_n d_Mo_placed_252 1 rfl ?_
      refine aw_iload_n d_Mo_placed_253 2 rfl ?_
      refine aw_V_p (As := [.int v6_227, .int v5_236, .int a1, .int a2]) (m_Mo_takesAt) cv_Mo_385 kd_151 rfl rfl rfl (Nat.le_of_ble_eq_true rfl) ⟨Nat.le_of_ble_eq_true rfl, Nat.le_of_ble_eq_true rfl⟩ ⟨Nat.le_refl _, Nat.le_refl _⟩ d_Mo_placed_254 (fun y254 => ?_)
      refine aw_aload_n d_Mo_placed_257 0 rfl ?_
      refine aw_getR (t := 165) fl_Mo_51 kd_151 rt_151_24 d_Mo_placed_258 ?_
      refine aw_iload d_Mo_placed_261 4 rfl ?_
      refine aw_iconst d_Mo_placed_263 ki_1 ?_
      refine aw_iload d_Mo_placed_264 5 rfl ?_
      refine aw_ishl d_Mo_placed_266 ?_
      refine aw_ior d_Mo_placed_267 ?_
      refine aw_iald kd_165 d_Mo_placed_268 ?_
      refine aw_iadd d_Mo_placed_269 ?_
      refine aw_aload_n d_Mo_placed_270 0 rfl ?_
      refine aw_getR (t := 165) fl_Mo_51 kd_151 rt_151_24 d_Mo_placed_271 ?_
      refine aw_iload d_Mo_placed_274 4 rfl ?_
      refine aw_iald kd_165 d_Mo_placed_276 ?_
      refine aw_icmp_eq (tgt := 286) d_Mo_placed_277 rfl (fun q277 => ?_) (fun q277 => ?_)
      · refine aw_sub (lo' := [(0, .ref 151), (1, .int a1), (2, .int a2), (3, .int a3), (4, .int v4_227), (5, .int v5_236), (6, .int v6_227)]) [0, 1, 2, 3, 4, 5, 6] rfl ?_
        exact hkx236_286 _
      · refine aw_iinc (v := (v5_236 + (1 : Int32))) (lo' := [(5, .int (v5_236 + (1 : Int32))), (0, .ref 151), (1, .int a1), (2, .int a2), (3, .int a3), (4, .int v4_227), (6, .int v6_227)]) d_Mo_placed_280 5 rfl (by rw [show Int32.ofInt (1) = (1 : Int32) from by decide]) (by decide) rfl ?_
        refine aw_goto (tgt := 236) d_Mo_placed_283 rfl ?_
        refine aw_sub (lo' := [(0, .ref 151), (1, .int a1), (2, .int a2), (3, .int a3), (4, .int v4_227), (5, .int (v5_236 + (1 : Int32))), (6, .int v6_227)]) [1, 2, 3, 4, 5, 0, 6] rfl ?_
        exact ih _
def lp_Mo_placed_227 (kx227_301 : Int32 → Int32 → Int32 → Option (Int32 × Dm)) (a1 : Int32) (a2 : Int32) (a3 : Int32) (δ48x : Dm) : Nat → Int32 → Int32 → Int32 → Option (Int32 × Dm)
  | 0, _, _, _ => none
  | f + 1, v4_227, v5_227, v6_227 => (if a3 < v6_227 then (kx227_301 v4_227 v5_227 v6_227) else (lp_Mo_placed_236 (fun v5_236x => (bnd (v4_227 ||| ((1 : Int32) <<< (v5_236x &&& 31))) (fun v293 => (lp_Mo_placed_227 kx227_301 a1 a2 a3 δ48x f v293 v5_236x (v6_227 + (1 : Int32)))))) a1 a2 a3 v4_227 v6_227 δ48x FU (0 : Int32)))
set_option maxHeartbeats 4000000 in
set_option maxRecDepth 100000 in
theorem tl_Mo_placed_227 {n : Nat} (kx227_301 : Int32 → Int32 → Int32 → Option (Int32 × Dm)) (a1 : Int32) (a2 : Int32) (a3 : Int32) (δ48x : Dm) (hkx227_301 : ∀ v4_227k v5_227k v6_227k, AWo k_Mo_placed 3 0 0 301 [(0, .ref 151), (1, .int a1), (2, .int a2), (3, .int a3), (4, .int v4_227k), (5, .int v5_227k), (6, .int v6_227k)] [] δ48x RT n 0 0 (Km RT n) (kx227_301 v4_227k v5_227k v6_227k)) : ∀ (f : Nat) (v4_227 : Int32) (v5_227 : Int32) (v6_227 : Int32), AWo k_Mo_placed 3 0 0 227 [(0, .ref 151), (1, .int a1), (2, .int a2), (3, .int a3), (4, .int v4_227), (5, .int v5_227), (6, .int v6_227)] [] δ48x RT n 0 0 (Km RT n) (lp_Mo_placed_227 kx227_301 a1 a2 a3 δ48x f v4_227 v5_227 v6_227) := by
  intro f
  induction f with
  | zero => intro _ _ _; exact aw_none
  | succ f ih =>
    intro v4_227 v5_227 v6_227
    rw [lp_Mo_placed_227]
    refine aw_iload d_Mo_placed_227 6 rfl ?_
    refine aw_iload_n d_Mo_placed_229 3 rfl ?_
    refine aw_icmp_gt (tgt := 301) d_Mo_placed_230 rfl (fun q230 => ?_) (fun q230 => ?_)
    · refine aw_sub (lo' := [(0, .ref 151), (1, .int a1), (2, .int a2), (3, .int a3), (4, .int v4_227), (5, .int v5_227), (6, .int v6_227)]) [0, 1, 2, 3, 4, 5, 6] rfl ?_
      exact hkx227_301 _ _ _
    · refine aw_iconst d_Mo_placed_233 ki_0 ?_
      refine aw_istore (lo' := [(5, .int (0 : Int32)), (0, .ref 151), (1, .int a1), (2, .int a2), (3, .int a3), (4, .int v4_227), (6, .int v6_227)]) d_Mo_placed_234 (by decide) rfl ?_
      refine aw_sub (lo' := [(0, .ref 151), (1, .int a1), (2, .int a2), (3, .int a3), (4, .int v4_227), (5, .int (0 : Int32)), (6, .int v6_227)]) [1, 2, 3, 4, 5, 0, 6] rfl ?_
      refine tl_Mo_placed_236 _ _ _ _ _ _ _ (fun v5_236x => ?_) FU _
      · refine aw_iload d_Mo_placed_286 4 rfl ?_
        refine aw_iconst d_Mo_placed_288 ki_1 ?_
        refine aw_iload d_Mo_placed_289 5 rfl ?_
        refine aw_ishl d_Mo_placed_291 ?_
        refine aw_ior d_Mo_placed_292 ?_
        refine aw_bI (fun v293 => ?_)
        refine aw_istore (lo' := [(4, .int v293), (0, .ref 151), (1, .int a1), (2, .int a2), (3, .int a3), (5, .int v5_236x), (6, .int v6_227)]) d_Mo_placed_293 (by decide) rfl ?_
        refine aw_iinc (v := (v6_227 + (1 : Int32))) (lo' := [(6, .int (v6_227 + (1 : Int32))), (4, .int v293), (0, .ref 151), (1, .int a1), (2, .int a2), (3, .int a3), (5, .int v5_236x)]) d_Mo_placed_295 6 rfl (by rw [show Int32.ofInt (1) = (1 : Int32) from by decide]) (by decide) rfl ?_
        refine aw_goto (tgt := 227) d_Mo_placed_298 rfl ?_
        refine aw_sub (lo' := [(0, .ref 151), (1, .int a1), (2, .int a2), (3, .int a3), (4, .int v293), (5, .int v5_236x), (6, .int (v6_227 + (1 : Int32)))]) [2, 3, 4, 5, 1, 6, 0] rfl ?_
        exact ih _ _ _
def jp_Mo_placed_193 (kr102 : Int32 → Dm → Option (Int32 × Dm)) (kx102_200 : Int32 → Dm → Option (Int32 × Dm)) (a1 : Int32) (a2 : Int32) (a3 : Int32) (v4_48 : Int32) (y55 : Int32) (v6_102 : Int32) (v161 : Int32) (δ102 : Dm) (s0_193 : Int32) : Option (Int32 × Dm) := (if inb v4_48 4096 then bnd (sI δ102 165 (ix v4_48) s0_193) (fun δ_193 => (kr102 (v6_102 + (1 : Int32)) δ_193)) else none)
set_option maxHeartbeats 4000000 in
set_option maxRecDepth 100000 in
theorem tj_Mo_placed_193 {n : Nat} (kr102 : Int32 → Dm → Option (Int32 × Dm)) (kx102_200 : Int32 → Dm → Option (Int32 × Dm)) (a1 : Int32) (a2 : Int32) (a3 : Int32) (v4_48 : Int32) (y55 : Int32) (v6_102 : Int32) (v161 : Int32) (δ102 : Dm) (s0_193 : Int32) (hkr102 : ∀ v6_102k δ102k, AWo k_Mo_placed 3 0 0 102 [(0, .ref 151), (1, .int a1), (2, .int a2), (3, .int a3), (4, .int v4_48), (5, .int y55), (6, .int v6_102k)] [] δ102k RT n 0 0 (Km RT n) (kr102 v6_102k δ102k)) (hkx102_200 : ∀ v6_102k δ102k, AWo k_Mo_placed 3 0 0 200 [(0, .ref 151), (1, .int a1), (2, .int a2), (3, .int a3), (4, .int v4_48), (5, .int y55), (6, .int v6_102k)] [] δ102k RT n 0 0 (Km RT n) (kx102_200 v6_102k δ102k)) : AWo k_Mo_placed 3 0 0 193 [(0, .ref 151), (1, .int a1), (2, .int a2), (3, .int a3), (4, .int v4_48), (5, .int y55), (6, .int v6_102), (7, .int v161)] [.int s0_193, .int v4_48, .ref 165] δ102 RT n 0 0 (Km RT n) (jp_Mo_placed_193 kr102 kx102_200 a1 a2 a3 v4_48 y55 v6_102 v161 δ102 s0_193) := by
  unfold jp_Mo_placed_193
  refine aw_iast kd_165 d_Mo_placed_193 ?_
  refine aw_bD (fun δ_193 => ?_)
  refine aw_iinc (v := (v6_102 + (1 : Int32))) (lo' := [(6, .int (v6_102 + (1 : Int32))), (0, .ref 151), (1, .int a1), (2, .int a2), (3, .int a3), (4, .int v4_48), (5, .int y55), (7, .int v161)]) d_Mo_placed_194 6 rfl (by rw [show Int32.ofInt (1) = (1 : Int32) from by decide]) (by decide) rfl ?_
  refine aw_goto (tgt := 102) d_Mo_placed_197 rfl ?_
  refine aw_sub (lo' := [(0, .ref 151), (1, .int a1), (2, .int a2), (3, .int a3), (4, .int v4_48), (5, .int y55), (6, .int (v6_102 + (1 : Int32)))]) [1, 2, 3, 4, 5, 6, 0] rfl ?_
  exact hkr102 _ _
def lp_Mo_placed_102 (kx102_200 : Int32 → Dm → Option (Int32 × Dm)) (a1 : Int32) (a2 : Int32) (a3 : Int32) (v4_48 : Int32) (y55 : Int32) : Nat → Int32 → Dm → Option (Int32 × Dm)
  | 0, _, _ => none
  | f + 1, v6_102, δ102 => (if inb (1 : Int32) 8918 then (if (gI δ102 152 (ix (1 : Int32))) ≤ v6_102 then (kx102_200 v6_102 δ102) else (if inb (2 : Int32) 8918 then (if (gI δ102 152 (ix (2 : Int32))) ≤ y55 then (kx102_200 v6_102 δ102) else (if ((v4_48 >>> (v6_102 &&& 31)) &&& (1 : Int32)) = (1 : Int32) then (lp_Mo_placed_102 kx102_200 a1 a2 a3 v4_48 y55 f (v6_102 + (1 : Int32)) δ102) else ((f_Mo_takesAt y55 v6_102 a1 a2 δ102).bind (fun y145 => (if inb (v4_48 ||| ((1 : Int32) <<< (v6_102 &&& 31))) 4096 then (bnd (y145 + (gI δ102 165 (ix (v4_48 ||| ((1 : Int32) <<< (v6_102 &&& 31)))))) (fun v161 => (if inb v4_48 4096 then (if v161 ≤ (gI δ102 165 (ix v4_48)) then (if inb v4_48 4096 then (jp_Mo_placed_193 (lp_Mo_placed_102 kx102_200 a1 a2 a3 v4_48 y55 f) kx102_200 a1 a2 a3 v4_48 y55 v6_102 v161 δ102 (gI δ102 165 (ix v4_48))) else none) else (jp_Mo_placed_193 (lp_Mo_placed_102 kx102_200 a1 a2 a3 v4_48 y55 f) kx102_200 a1 a2 a3 v4_48 y55 v6_102 v161 δ102 v161)) else none))) else none))))) else none)) else none)
set_option maxHeartbeats 4000000 in
set_option maxRecDepth 100000 in
theorem tl_Mo_placed_102 {n : Nat} (kx102_200 : Int32 → Dm → Option (Int32 × Dm)) (a1 : Int32) (a2 : Int32) (a3 : Int32) (v4_48 : Int32) (y55 : Int32) (hkx102_200 : ∀ v6_102k δ102k, AWo k_Mo_placed 3 0 0 200 [(0, .ref 151), (1, .int a1), (2, .int a2), (3, .int a3), (4, .int v4_48), (5, .int y55), (6, .int v6_102k)] [] δ102k RT n 0 0 (Km RT n) (kx102_200 v6_102k δ102k)) : ∀ (f : Nat) (v6_102 : Int32) (δ102 : Dm), AWo k_Mo_placed 3 0 0 102 [(0, .ref 151), (1, .int a1), (2, .int a2), (3, .int a3), (4, .int v4_48), (5, .int y55), (6, .int v6_102)] [] δ102 RT n 0 0 (Km RT n) (lp_Mo_placed_102 kx102_200 a1 a2 a3 v4_48 y55 f v6_102 δ102) := by
  intro f
  induction f with
  | zero => intro _ _; exact aw_none
  | succ f ih =>
    intro v6_102 δ102
    rw [lp_Mo_placed_102]
    refine aw_iload d_Mo_placed_102 6 rfl ?_
    refine aw_aload_n d_Mo_placed_104 0 rfl ?_
    refine aw_getR (t := 152) fl_Mo_7 kd_151 rt_151_0 d_Mo_placed_105 ?_
    refine aw_iconst d_Mo_placed_108 ki_1 ?_
    refine aw_iald kd_152 d_Mo_placed_109 ?_
    refine aw_icmp_ge (tgt := 200) d_Mo_placed_110 rfl (fun q110 => ?_) (fun q110 => ?_)
    · refine aw_sub (lo' := [(0, .ref 151), (1, .int a1), (2, .int a2), (3, .int a3), (4, .int v4_48), (5, .int y55), (6, .int v6_102)]) [0, 1, 2, 3, 4, 5, 6] rfl ?_
      exact hkx102_200 _ _
    · refine aw_iload d_Mo_placed_113 5 rfl ?_
      refine aw_aload_n d_Mo_placed_115 0 rfl ?_
      refine aw_getR (t := 152) fl_Mo_7 kd_151 rt_151_0 d_Mo_placed_116 ?_
      refine aw_iconst d_Mo_placed_119 ki_2 ?_
      refine aw_iald kd_152 d_Mo_placed_120 ?_
      refine aw_icmp_ge (tgt := 200) d_Mo_placed_121 rfl (fun q121 => ?_) (fun q121 => ?_)
      · refine aw_sub (lo' := [(0, .ref 151), (1, .int a1), (2, .int a2), (3, .int a3), (4, .int v4_48), (5, .int y55), (6, .int v6_102)]) [0, 1, 2, 3, 4, 5, 6] rfl ?_
        exact hkx102_200 _ _
      · refine aw_iload d_Mo_placed_124 4 rfl ?_
        refine aw_iload d_Mo_placed_126 6 rfl ?_
        refine aw_ishr d_Mo_placed_128 ?_
        refine aw_iconst d_Mo_placed_129 ki_1 ?_
        refine aw_iand d_Mo_placed_130 ?_
        refine aw_iconst d_Mo_placed_131 ki_1 ?_
        refine aw_icmp_ne (tgt := 138) d_Mo_placed_132 rfl (fun q132 => ?_) (fun q132 => ?_)
        · refine aw_goto (tgt := 194) d_Mo_placed_135 rfl ?_
          refine aw_iinc (v := (v6_102 + (1 : Int32))) (lo' := [(6, .int (v6_102 + (1 : Int32))), (0, .ref 151), (1, .int a1), (2, .int a2), (3, .int a3), (4, .int v4_48), (5, .int y55)]) d_Mo_placed_194 6 rfl (by rw [show Int32.ofInt (1) = (1 : Int32) from by decide]) (by decide) rfl ?_
          refine aw_goto (tgt := 102) d_Mo_placed_197 rfl ?_
          refine aw_sub (lo' := [(0, .ref 151), (1, .int a1), (2, .int a2), (3, .int a3), (4, .int v4_48), (5, .int y55), (6, .int (v6_102 + (1 : Int32)))]) [1, 2, 3, 4, 5, 6, 0] rfl ?_
          exact ih _ _
        · refine aw_aload_n d_Mo_placed_138 0 rfl ?_
          refine aw_iload d_Mo_placed_139 5 rfl ?_
          refine aw_iload d_Mo_placed_141 6 rfl ?_
          refine aw_iload_n d_Mo_placed_143 1 rfl ?_
          refine aw_iload_n d_Mo_placed_144 2 rfl ?_
          refine aw_V_p (As := [.int y55, .int v6_102, .int a1, .int a2]) (m_Mo_takesAt) cv_Mo_385 kd_151 rfl rfl rfl (Nat.le_of_ble_eq_true rfl) ⟨Nat.le_of_ble_eq_true rfl, Nat.le_of_ble_eq_true rfl⟩ ⟨Nat.le_refl _, Nat.le_refl _⟩ d_Mo_placed_145 (fun y145 => ?_)
          refine aw_aload_n d_Mo_placed_148 0 rfl ?_
          refine aw_getR (t := 165) fl_Mo_51 kd_151 rt_151_24 d_Mo_placed_149 ?_
          refine aw_iload d_Mo_placed_152 4 rfl ?_
          refine aw_iconst d_Mo_placed_154 ki_1 ?_
          refine aw_iload d_Mo_placed_155 6 rfl ?_
          refine aw_ishl d_Mo_placed_157 ?_
          refine aw_ior d_Mo_placed_158 ?_
          refine aw_iald kd_165 d_Mo_placed_159 ?_
          refine aw_iadd d_Mo_placed_160 ?_
          refine aw_bI (fun v161 => ?_)
          refine aw_istore (lo' := [(7, .int v161), (0, .ref 151), (1, .int a1), (2, .int a2), (3, .int a3), (4, .int v4_48), (5, .int y55), (6, .int v6_102)]) d_Mo_placed_161 (by decide) rfl ?_
          refine aw_aload_n d_Mo_placed_163 1 rfl ?_
          refine aw_getR (t := 165) fl_Mo_51 kd_151 rt_151_24 d_Mo_placed_164 ?_
          refine aw_iload d_Mo_placed_167 5 rfl ?_
          refine aw_iload d_Mo_placed_169 0 rfl ?_
          refine aw_aload_n d_Mo_placed_171 1 rfl ?_
          refine aw_getR (t := 165) fl_Mo_51 kd_151 rt_151_24 d_Mo_placed_172 ?_
          refine aw_iload d_Mo_placed_175 5 rfl ?_
          refine aw_iald kd_165 d_Mo_placed_177 ?_
          refine aw_icmp_le (tgt := 186) d_Mo_placed_178 rfl (fun q178 => ?_) (fun q178 => ?_)
          · refine aw_aload_n d_Mo_placed_186 1 rfl ?_
            refine aw_getR (t := 165) fl_Mo_51 kd_151 rt_151_24 d_Mo_placed_187 ?_
            refine aw_iload d_Mo_placed_190 5 rfl ?_
            refine aw_iald kd_165 d_Mo_placed_192 ?_
            refine aw_sub (lo' := [(0, .ref 151), (1, .int a1), (2, .int a2), (3, .int a3), (4, .int v4_48), (5, .int y55), (6, .int v6_102), (7, .int v161)]) [1, 2, 3, 4, 5, 6, 7, 0] rfl ?_
            exact tj_Mo_placed_193 _ _ _ _ _ _ _ _ _ _ _ ih hkx102_200
          · refine aw_iload d_Mo_placed_181 0 rfl ?_
            refine aw_goto (tgt := 193) d_Mo_placed_183 rfl ?_
            refine aw_sub (lo' := [(0, .ref 151), (1, .int a1), (2, .int a2), (3, .int a3), (4, .int v4_48), (5, .int y55), (6, .int v6_102), (7, .int v161)]) [1, 2, 3, 4, 5, 6, 7, 0] rfl ?_
            exact tj_Mo_placed_193 _ _ _ _ _ _ _ _ _ _ _ ih hkx102_200
def jp_Mo_placed_98 (kr48 : Int32 → Dm → Option (Int32 × Dm)) (kx48_206 : Int32 → Dm → Option (Int32 × Dm)) (a1 : Int32) (a2 : Int32) (a3 : Int32) (v4_48 : Int32) (y55 : Int32) (δ48 : Dm) (s0_98 : Int32) : Option (Int32 × Dm) := (if inb v4_48 4096 then bnd (sI δ48 165 (ix v4_48) s0_98) (fun δ_98 => (lp_Mo_placed_102 (fun v6_102x δ102x => (kr48 (v4_48 + (-1 : Int32)) δ102x)) a1 a2 a3 v4_48 y55 FU (0 : Int32) δ_98)) else none)
set_option maxHeartbeats 4000000 in
set_option maxRecDepth 100000 in
theorem tj_Mo_placed_98 {n : Nat} (kr48 : Int32 → Dm → Option (Int32 × Dm)) (kx48_206 : Int32 → Dm → Option (Int32 × Dm)) (a1 : Int32) (a2 : Int32) (a3 : Int32) (v4_48 : Int32) (y55 : Int32) (δ48 : Dm) (s0_98 : Int32) (hkr48 : ∀ v4_48k δ48k, AWo k_Mo_placed 3 0 0 48 [(0, .ref 151), (1, .int a1), (2, .int a2), (3, .int a3), (4, .int v4_48k)] [] δ48k RT n 0 0 (Km RT n) (kr48 v4_48k δ48k)) (hkx48_206 : ∀ v4_48k δ48k, AWo k_Mo_placed 3 0 0 206 [(0, .ref 151), (1, .int a1), (2, .int a2), (3, .int a3), (4, .int v4_48k)] [] δ48k RT n 0 0 (Km RT n) (kx48_206 v4_48k δ48k)) : AWo k_Mo_placed 3 0 0 98 [(0, .ref 151), (1, .int a1), (2, .int a2), (3, .int a3), (4, .int v4_48), (5, .int y55)] [.int s0_98, .int v4_48, .ref 165] δ48 RT n 0 0 (Km RT n) (jp_Mo_placed_98 kr48 kx48_206 a1 a2 a3 v4_48 y55 δ48 s0_98) := by
  unfold jp_Mo_placed_98
  refine aw_iast kd_165 d_Mo_placed_98 ?_
  refine aw_bD (fun δ_98 => ?_)
  refine aw_iconst d_Mo_placed_99 ki_0 ?_
  refine aw_istore (lo' := [(6, .int (0 : Int32)), (0, .ref 151), (1, .int a1), (2, .int a2), (3, .int a3), (4, .int v4_48), (5, .int y55)]) d_Mo_placed_100 (by decide) rfl ?_
  refine aw_sub (lo' := [(0, .ref 151), (1, .int a1), (2, .int a2), (3, .int a3), (4, .int v4_48), (5, .int y55), (6, .int (0 : Int32))]) [1, 2, 3, 4, 5, 6, 0] rfl ?_
  refine tl_Mo_placed_102 _ _ _ _ _ _ (fun v6_102x δ102x => ?_) FU _ _
  · refine aw_iinc (v := (v4_48 + (-1 : Int32))) (lo' := [(4, .int (v4_48 + (-1 : Int32))), (0, .ref 151), (1, .int a1), (2, .int a2), (3, .int a3), (5, .int y55), (6, .int v6_102x)]) d_Mo_placed_200 4 rfl (by rw [show Int32.ofInt (-1) = (-1 : Int32) from by decide]) (by decide) rfl ?_
    refine aw_goto (tgt := 48) d_Mo_placed_203 rfl ?_
    refine aw_sub (lo' := [(0, .ref 151), (1, .int a1), (2, .int a2), (3, .int a3), (4, .int (v4_48 + (-1 : Int32)))]) [1, 2, 3, 4, 0] rfl ?_
    exact hkr48 _ _
def lp_Mo_placed_48 (kx48_206 : Int32 → Dm → Option (Int32 × Dm)) (a1 : Int32) (a2 : Int32) (a3 : Int32) : Nat → Int32 → Dm → Option (Int32 × Dm)
  | 0, _, _ => none
  | f + 1, v4_48, δ48 => (if v4_48 < 0 then (kx48_206 v4_48 δ48) else ((f_Mo_bits v4_48 δ48).bind (fun y55 => (if inb (2 : Int32) 8918 then (if y55 ≤ (gI δ48 152 (ix (2 : Int32))) then (if inb (2 : Int32) 8918 then (if y55 = (gI δ48 152 (ix (2 : Int32))) then (jp_Mo_placed_98 (lp_Mo_placed_48 kx48_206 a1 a2 a3 f) kx48_206 a1 a2 a3 v4_48 y55 δ48 (0 : Int32)) else (jp_Mo_placed_98 (lp_Mo_placed_48 kx48_206 a1 a2 a3 f) kx48_206 a1 a2 a3 v4_48 y55 δ48 (-2000000000 : Int32))) else none) else (lp_Mo_placed_48 kx48_206 a1 a2 a3 f (v4_48 + (-1 : Int32)) δ48)) else none))))
set_option maxHeartbeats 4000000 in
set_option maxRecDepth 100000 in
theorem tl_Mo_placed_48 {n : Nat} (kx48_206 : Int32 → Dm → Option (Int32 × Dm)) (a1 : Int32) (a2 : Int32) (a3 : Int32) (hkx48_206 : ∀ v4_48k δ48k, AWo k_Mo_placed 3 0 0 206 [(0, .ref 151), (1, .int a1), (2, .int a2), (3, .int a3), (4, .int v4_48k)] [] δ48k RT n 0 0 (Km RT n) (kx48_206 v4_48k δ48k)) : ∀ (f : Nat) (v4_48 : Int32) (δ48 : Dm), AWo k_Mo_placed 3 0 0 48 [(0, .ref 151), (1, .int a1), (2, .int a2), (3, .int a3), (4, .int v4_48)] [] δ48 RT n 0 0 (Km RT n) (lp_Mo_placed_48 kx48_206 a1 a2 a3 f v4_48 δ48) := by
  intro f
  induction f with
  | zero => intro _ _; exact aw_none
  | succ f ih =>
    intro v4_48 δ48
    rw [lp_Mo_placed_48]
    refine aw_iload d_Mo_placed_48 4 rfl ?_
    refine aw_if_lt (tgt := 206) d_Mo_placed_50 rfl (fun q50 => ?_) (fun q50 => ?_)
    · refine aw_sub (lo' := [(0, .ref 151), (1, .int a1), (2, .int a2), (3, .int a3), (4, .int v4_48)]) [0, 1, 2, 3, 4] rfl ?_
      exact hkx48_206 _ _
    · refine aw_iload d_Mo_placed_53 4 rfl ?_
      refine aw_S_p (As := [.int v4_48]) (m_Mo_bits) cs_Mo_382 rfl rfl (Nat.le_of_ble_eq_true rfl) ⟨Nat.le_of_ble_eq_true rfl, Nat.le_of_ble_eq_true rfl⟩ ⟨Nat.le_refl _, Nat.le_refl _⟩ d_Mo_placed_55 (fun y55 => ?_)
      refine aw_istore (lo' := [(5, .int y55), (0, .ref 151), (1, .int a1), (2, .int a2), (3, .int a3), (4, .int v4_48)]) d_Mo_placed_58 (by decide) rfl ?_
      refine aw_iload d_Mo_placed_60 0 rfl ?_
      refine aw_aload_n d_Mo_placed_62 1 rfl ?_
      refine aw_getR (t := 152) fl_Mo_7 kd_151 rt_151_0 d_Mo_placed_63 ?_
      refine aw_iconst d_Mo_placed_66 ki_2 ?_
      refine aw_iald kd_152 d_Mo_placed_67 ?_
      refine aw_icmp_le (tgt := 74) d_Mo_placed_68 rfl (fun q68 => ?_) (fun q68 => ?_)
      · refine aw_aload_n d_Mo_placed_74 1 rfl ?_
        refine aw_getR (t := 165) fl_Mo_51 kd_151 rt_151_24 d_Mo_placed_75 ?_
        refine aw_iload d_Mo_placed_78 5 rfl ?_
        refine aw_iload d_Mo_placed_80 0 rfl ?_
        refine aw_aload_n d_Mo_placed_82 1 rfl ?_
        refine aw_getR (t := 152) fl_Mo_7 kd_151 rt_151_0 d_Mo_placed_83 ?_
        refine aw_iconst d_Mo_placed_86 ki_2 ?_
        refine aw_iald kd_152 d_Mo_placed_87 ?_
        refine aw_icmp_ne (tgt := 95) d_Mo_placed_88 rfl (fun q88 => ?_) (fun q88 => ?_)
        · refine aw_iconst d_Mo_placed_91 ki_0 ?_
          refine aw_goto (tgt := 98) d_Mo_placed_92 rfl ?_
          refine aw_sub (lo' := [(0, .ref 151), (1, .int a1), (2, .int a2), (3, .int a3), (4, .int v4_48), (5, .int y55)]) [1, 2, 3, 4, 5, 0] rfl ?_
          exact tj_Mo_placed_98 _ _ _ _ _ _ _ _ _ ih hkx48_206
        · refine aw_ldcw (v := (-2000000000 : Int32)) d_Mo_placed_95 kc_Mo_341 ?_
          refine aw_sub (lo' := [(0, .ref 151), (1, .int a1), (2, .int a2), (3, .int a3), (4, .int v4_48), (5, .int y55)]) [1, 2, 3, 4, 5, 0] rfl ?_
          exact tj_Mo_placed_98 _ _ _ _ _ _ _ _ _ ih hkx48_206
      · refine aw_goto (tgt := 200) d_Mo_placed_71 rfl ?_
        refine aw_iinc (v := (v4_48 + (-1 : Int32))) (lo' := [(4, .int (v4_48 + (-1 : Int32))), (5, .int y55), (0, .ref 151), (1, .int a1), (2, .int a2), (3, .int a3)]) d_Mo_placed_200 5 rfl (by rw [show Int32.ofInt (-1) = (-1 : Int32) from by decide]) (by decide) rfl ?_
        refine aw_goto (tgt := 48) d_Mo_placed_203 rfl ?_
        refine aw_sub (lo' := [(0, .ref 151), (1, .int a1), (2, .int a2), (3, .int a3), (4, .int (v4_48 + (-1 : Int32)))]) [2, 3, 4, 5, 0] rfl ?_
        exact ih _ _
def f_Mo_placed (a1 : Int32) (a2 : Int32) (a3 : Int32) (δ : Dm) : Option (Int32 × Dm) := ((f_Mo_in ((a2).toInt64) (0 : Int64) (9999 : Int64) δ).bind (fun y6 => (if y6 = 0 then (some ((-1000000000 : Int32), δ)) else (if inb (2 : Int32) 8918 then ((f_Mo_in ((a3).toInt64) (-1 : Int64) ((((gI δ 152 (ix (2 : Int32))) - (1 : Int32))).toInt64) δ).bind (fun y26 => (if y26 = 0 then (some ((-1000000000 : Int32), δ)) else (if inb (1 : Int32) 8918 then (bnd (((1 : Int32) <<< ((gI δ 152 (ix (1 : Int32))) &&& 31)) - (1 : Int32)) (fun v46 => (lp_Mo_placed_48 (fun v4_48x δ48x => (if a3 = (-1 : Int32) then (if inb (0 : Int32) 4096 then (some ((gI δ48x 165 (ix (0 : Int32))), δ48x)) else none) else (lp_Mo_placed_227 (fun v4_227x v5_227x v6_227x => (some (v5_227x, δ48x))) a1 a2 a3 δ48x FU (0 : Int32) (0 : Int32) (0 : Int32)))) a1 a2 a3 FU v46 δ))) else none)))) else none))))
set_option maxHeartbeats 4000000 in
set_option maxRecDepth 100000 in
theorem m_Mo_placed {a1 : Int32} {a2 : Int32} {a3 : Int32} {δ : Dm} {n : Nat} : ∀ x, f_Mo_placed a1 a2 a3 δ = some x → AMet k_Mo_placed 3 0 0 [.ref 151, .int a1, .int a2, .int a3] δ RT n (Km RT n x) := by
  refine aw_start (lo := [(0, .ref 151), (1, .int a1), (2, .int a2), (3, .int a3)]) mok_Mo_placed rfl (Nat.le_of_ble_eq_true rfl) ?_
  unfold f_Mo_placed
  refine aw_iload_n d_Mo_placed_0 2 rfl ?_
  refine aw_i2l d_Mo_placed_1 ?_
  refine aw_lconst d_Mo_placed_2 kl_0 ?_
  refine aw_ldc2 (v := (9999 : Int64)) d_Mo_placed_3 kc_Mo_281 ?_
  refine aw_S_p (As := [.long ((a2).toInt64), .long (0 : Int64), .long (9999 : Int64)]) (m_Mo_in) cs_Mo_64 rfl rfl (Nat.le_of_ble_eq_true rfl) ⟨Nat.le_of_ble_eq_true rfl, Nat.le_of_ble_eq_true rfl⟩ ⟨Nat.le_refl _, Nat.le_refl _⟩ d_Mo_placed_6 (fun y6 => ?_)
  refine aw_if_eq (tgt := 32) d_Mo_placed_9 rfl (fun q9 => ?_) (fun q9 => ?_)
  · refine aw_ldcw (v := (-1000000000 : Int32)) d_Mo_placed_32 kc_Mo_345 ?_
    exact aw_iret rfl rfl ⟨Nat.le_refl _, Nat.le_refl _⟩ d_Mo_placed_35
  · refine aw_iload_n d_Mo_placed_12 3 rfl ?_
    refine aw_i2l d_Mo_placed_13 ?_
    refine aw_ldc2 (v := (-1 : Int64)) d_Mo_placed_14 kc_Mo_374 ?_
    refine aw_aload_n d_Mo_placed_17 0 rfl ?_
    refine aw_getR (t := 152) fl_Mo_7 kd_151 rt_151_0 d_Mo_placed_18 ?_
    refine aw_iconst d_Mo_placed_21 ki_2 ?_
    refine aw_iald kd_152 d_Mo_placed_22 ?_
    refine aw_iconst d_Mo_placed_23 ki_1 ?_
    refine aw_isub d_Mo_placed_24 ?_
    refine aw_i2l d_Mo_placed_25 ?_
    refine aw_S_p (As := [.long ((a3).toInt64), .long (-1 : Int64), .long ((((gI δ 152 (ix (2 : Int32))) - (1 : Int32))).toInt64)]) (m_Mo_in) cs_Mo_64 rfl rfl (Nat.le_of_ble_eq_true rfl) ⟨Nat.le_of_ble_eq_true rfl, Nat.le_of_ble_eq_true rfl⟩ ⟨Nat.le_refl _, Nat.le_refl _⟩ d_Mo_placed_26 (fun y26 => ?_)
    refine aw_if_ne (tgt := 36) d_Mo_placed_29 rfl (fun q29 => ?_) (fun q29 => ?_)
    · refine aw_ldcw (v := (-1000000000 : Int32)) d_Mo_placed_32 kc_Mo_345 ?_
      exact aw_iret rfl rfl ⟨Nat.le_refl _, Nat.le_refl _⟩ d_Mo_placed_35
    · refine aw_iconst d_Mo_placed_36 ki_1 ?_
      refine aw_aload_n d_Mo_placed_37 0 rfl ?_
      refine aw_getR (t := 152) fl_Mo_7 kd_151 rt_151_0 d_Mo_placed_38 ?_
      refine aw_iconst d_Mo_placed_41 ki_1 ?_
      refine aw_iald kd_152 d_Mo_placed_42 ?_
      refine aw_ishl d_Mo_placed_43 ?_
      refine aw_iconst d_Mo_placed_44 ki_1 ?_
      refine aw_isub d_Mo_placed_45 ?_
      refine aw_bI (fun v46 => ?_)
      refine aw_istore (lo' := [(4, .int v46), (0, .ref 151), (1, .int a1), (2, .int a2), (3, .int a3)]) d_Mo_placed_46 (by decide) rfl ?_
      refine aw_sub (lo' := [(0, .ref 151), (1, .int a1), (2, .int a2), (3, .int a3), (4, .int v46)]) [1, 2, 3, 4, 0] rfl ?_
      refine tl_Mo_placed_48 _ _ _ _ (fun v4_48x δ48x => ?_) FU _ _
      · refine aw_iload_n d_Mo_placed_206 3 rfl ?_
        refine aw_iconst d_Mo_placed_207 ki_m1 ?_
        refine aw_icmp_ne (tgt := 218) d_Mo_placed_208 rfl (fun q208 => ?_) (fun q208 => ?_)
        · refine aw_aload_n d_Mo_placed_211 0 rfl ?_
          refine aw_getR (t := 165) fl_Mo_51 kd_151 rt_151_24 d_Mo_placed_212 ?_
          refine aw_iconst d_Mo_placed_215 ki_0 ?_
          refine aw_iald kd_165 d_Mo_placed_216 ?_
          exact aw_iret rfl rfl ⟨Nat.le_refl _, Nat.le_refl _⟩ d_Mo_placed_217
        · refine aw_iconst d_Mo_placed_218 ki_0 ?_
          refine aw_istore (lo' := [(4, .int (0 : Int32)), (0, .ref 151), (1, .int a1), (2, .int a2), (3, .int a3)]) d_Mo_placed_219 (by decide) rfl ?_
          refine aw_iconst d_Mo_placed_221 ki_0 ?_
          refine aw_istore (lo' := [(5, .int (0 : Int32)), (4, .int (0 : Int32)), (0, .ref 151), (1, .int a1), (2, .int a2), (3, .int a3)]) d_Mo_placed_222 (by decide) rfl ?_
          refine aw_iconst d_Mo_placed_224 ki_0 ?_
          refine aw_istore (lo' := [(6, .int (0 : Int32)), (5, .int (0 : Int32)), (4, .int (0 : Int32)), (0, .ref 151), (1, .int a1), (2, .int a2), (3, .int a3)]) d_Mo_placed_225 (by decide) rfl ?_
          refine aw_sub (lo' := [(0, .ref 151), (1, .int a1), (2, .int a2), (3, .int a3), (4, .int (0 : Int32)), (5, .int (0 : Int32)), (6, .int (0 : Int32))]) [3, 4, 5, 6, 2, 1, 0] rfl ?_
          refine tl_Mo_placed_227 _ _ _ _ _ (fun v4_227x v5_227x v6_227x => ?_) FU _ _ _
          · refine aw_iload d_Mo_placed_301 5 rfl ?_
            exact aw_iret rfl rfl ⟨Nat.le_refl _, Nat.le_refl _⟩ d_Mo_placed_303
def f_Mo_count (a1 : Int32) (δ : Dm) : Option Int32 := (if (a1).toInt = (0 : Int) then (if inb (0 : Int32) 8918 then (some (gI δ 152 (ix (0 : Int32)))) else none) else (if (a1).toInt = (1 : Int) then (if inb (1 : Int32) 8918 then (some (gI δ 152 (ix (1 : Int32)))) else none) else (if (a1).toInt = (2 : Int) then (some (gI δ 151 3)) else (if (a1).toInt = (3 : Int) then (if inb (2 : Int32) 8918 then (some (gI δ 152 (ix (2 : Int32)))) else none) else (if (a1).toInt = (4 : Int) then (if inb (3 : Int32) 8918 then (some (gI δ 152 (ix (3 : Int32)))) else none) else (if (a1).toInt = (5 : Int) then (if inb (4 : Int32) 8918 then (some (gI δ 152 (ix (4 : Int32)))) else none) else (if (a1).toInt = (6 : Int) then (if inb (5 : Int32) 8918 then (some (gI δ 152 (ix (5 : Int32)))) else none) else (if (a1).toInt = (7 : Int) then (if inb (6 : Int32) 8918 then (some (gI δ 152 (ix (6 : Int32)))) else none) else (if (a1).toInt = (8 : Int) then (some (gI δ 151 2)) else (some (-1 : Int32)))))))))))
set_option maxHeartbeats 4000000 in
set_option maxRecDepth 100000 in
theorem m_Mo_count {a1 : Int32} {δ : Dm} {n : Nat} : ∀ x, f_Mo_count a1 δ = some x → AMet k_Mo_count 1 0 0 [.ref 151, .int a1] δ RT n (Kp δ RT n x) := by
  refine aw_start (lo := [(0, .ref 151), (1, .int a1)]) mok_Mo_count rfl (Nat.le_of_ble_eq_true rfl) ?_
  unfold f_Mo_count
  refine aw_iload_n d_Mo_count_0 1 rfl ?_
  refine aw_ite (fun q1 => ?_) (fun q1_0 => ?_)
  · refine aw_tswitch (tgt := 52) d_Mo_count_1 q1 (by decide) (by decide) rfl rfl ?_
    refine aw_aload_n d_Mo_count_52 0 rfl ?_
    refine aw_getR (t := 152) fl_Mo_7 kd_151 rt_151_0 d_Mo_count_53 ?_
    refine aw_iconst d_Mo_count_56 ki_0 ?_
    refine aw_iald kd_152 d_Mo_count_57 ?_
    exact aw_iret rfl rfl ⟨Nat.le_refl _, Nat.le_refl _⟩ d_Mo_count_58
  · refine aw_ite (fun q1 => ?_) (fun q1_1 => ?_)
    · refine aw_tswitch (tgt := 59) d_Mo_count_1 q1 (by decide) (by decide) rfl rfl ?_
      refine aw_aload_n d_Mo_count_59 0 rfl ?_
      refine aw_getR (t := 152) fl_Mo_7 kd_151 rt_151_0 d_Mo_count_60 ?_
      refine aw_iconst d_Mo_count_63 ki_1 ?_
      refine aw_iald kd_152 d_Mo_count_64 ?_
      exact aw_iret rfl rfl ⟨Nat.le_refl _, Nat.le_refl _⟩ d_Mo_count_65
    · refine aw_ite (fun q1 => ?_) (fun q1_2 => ?_)
      · refine aw_tswitch (tgt := 66) d_Mo_count_1 q1 (by decide) (by decide) rfl rfl ?_
        refine aw_aload_n d_Mo_count_66 0 rfl ?_
        refine aw_getI fl_Mo_236 kd_151 d_Mo_count_67 ?_
        exact aw_iret rfl rfl ⟨Nat.le_refl _, Nat.le_refl _⟩ d_Mo_count_70
      · refine aw_ite (fun q1 => ?_) (fun q1_3 => ?_)
        · refine aw_tswitch (tgt := 71) d_Mo_count_1 q1 (by decide) (by decide) rfl rfl ?_
          refine aw_aload_n d_Mo_count_71 0 rfl ?_
          refine aw_getR (t := 152) fl_Mo_7 kd_151 rt_151_0 d_Mo_count_72 ?_
          refine aw_iconst d_Mo_count_75 ki_2 ?_
          refine aw_iald kd_152 d_Mo_count_76 ?_
          exact aw_iret rfl rfl ⟨Nat.le_refl _, Nat.le_refl _⟩ d_Mo_count_77
        · refine aw_ite (fun q1 => ?_) (fun q1_4 => ?_)
          · refine aw_tswitch (tgt := 78) d_Mo_count_1 q1 (by decide) (by decide) rfl rfl ?_
            refine aw_aload_n d_Mo_count_78 0 rfl ?_
            refine aw_getR (t := 152) fl_Mo_7 kd_151 rt_151_0 d_Mo_count_79 ?_
            refine aw_iconst d_Mo_count_82 ki_3 ?_
            refine aw_iald kd_152 d_Mo_count_83 ?_
            exact aw_iret rfl rfl ⟨Nat.le_refl _, Nat.le_refl _⟩ d_Mo_count_84
          · refine aw_ite (fun q1 => ?_) (fun q1_5 => ?_)
            · refine aw_tswitch (tgt := 85) d_Mo_count_1 q1 (by decide) (by decide) rfl rfl ?_
              refine aw_aload_n d_Mo_count_85 0 rfl ?_
              refine aw_getR (t := 152) fl_Mo_7 kd_151 rt_151_0 d_Mo_count_86 ?_
              refine aw_iconst d_Mo_count_89 ki_4 ?_
              refine aw_iald kd_152 d_Mo_count_90 ?_
              exact aw_iret rfl rfl ⟨Nat.le_refl _, Nat.le_refl _⟩ d_Mo_count_91
            · refine aw_ite (fun q1 => ?_) (fun q1_6 => ?_)
              · refine aw_tswitch (tgt := 92) d_Mo_count_1 q1 (by decide) (by decide) rfl rfl ?_
                refine aw_aload_n d_Mo_count_92 0 rfl ?_
                refine aw_getR (t := 152) fl_Mo_7 kd_151 rt_151_0 d_Mo_count_93 ?_
                refine aw_iconst d_Mo_count_96 ki_5 ?_
                refine aw_iald kd_152 d_Mo_count_97 ?_
                exact aw_iret rfl rfl ⟨Nat.le_refl _, Nat.le_refl _⟩ d_Mo_count_98
              · refine aw_ite (fun q1 => ?_) (fun q1_7 => ?_)
                · refine aw_tswitch (tgt := 99) d_Mo_count_1 q1 (by decide) (by decide) rfl rfl ?_
                  refine aw_aload_n d_Mo_count_99 0 rfl ?_
                  refine aw_getR (t := 152) fl_Mo_7 kd_151 rt_151_0 d_Mo_count_100 ?_
                  refine aw_bipush d_Mo_count_103 kb_6 ?_
                  refine aw_iald kd_152 d_Mo_count_105 ?_
                  exact aw_iret rfl rfl ⟨Nat.le_refl _, Nat.le_refl _⟩ d_Mo_count_106
                · refine aw_ite (fun q1 => ?_) (fun q1_8 => ?_)
                  · refine aw_tswitch (tgt := 107) d_Mo_count_1 q1 (by decide) (by decide) rfl rfl ?_
                    refine aw_aload_n d_Mo_count_107 0 rfl ?_
                    refine aw_getI fl_Mo_79 kd_151 d_Mo_count_108 ?_
                    exact aw_iret rfl rfl ⟨Nat.le_refl _, Nat.le_refl _⟩ d_Mo_count_111
                  · refine aw_tdflt (tgt := 112) d_Mo_count_1 (by omega) rfl ?_
                    refine aw_iconst d_Mo_count_112 ki_m1 ?_
                    exact aw_iret rfl rfl ⟨Nat.le_refl _, Nat.le_refl _⟩ d_Mo_count_113
def lp_Mo_image_23 (kx23_54 : Int32 → Dm → Option (Int32 × Dm)) (a1 : Int32) : Nat → Int32 → Dm → Option (Int32 × Dm)
  | 0, _, _ => none
  | f + 1, v2_23, δ23 => (if (8918 : Int32) ≤ v2_23 then (kx23_54 v2_23 δ23) else (if inb v2_23 8918 then (if inb (((8918 : Int32) * a1) + v2_23) 35672 then bnd (sI δ23 166 (ix (((8918 : Int32) * a1) + v2_23)) (gI δ23 152 (ix v2_23))) (fun δ_47 => (lp_Mo_image_23 kx23_54 a1 f (v2_23 + (1 : Int32)) δ_47)) else none) else none))
set_option maxHeartbeats 4000000 in
set_option maxRecDepth 100000 in
theorem tl_Mo_image_23 {n : Nat} (kx23_54 : Int32 → Dm → Option (Int32 × Dm)) (a1 : Int32) (hkx23_54 : ∀ v2_23k δ23k, AWo k_Mo_image 2 0 0 54 [(0, .ref 151), (1, .int a1), (2, .int v2_23k)] [] δ23k RT n 0 0 (Km RT n) (kx23_54 v2_23k δ23k)) : ∀ (f : Nat) (v2_23 : Int32) (δ23 : Dm), AWo k_Mo_image 2 0 0 23 [(0, .ref 151), (1, .int a1), (2, .int v2_23)] [] δ23 RT n 0 0 (Km RT n) (lp_Mo_image_23 kx23_54 a1 f v2_23 δ23) := by
  intro f
  induction f with
  | zero => intro _ _; exact aw_none
  | succ f ih =>
    intro v2_23 δ23
    rw [lp_Mo_image_23]
    refine aw_iload_n d_Mo_image_23 2 rfl ?_
    refine aw_sipush d_Mo_image_24 ks_8918 ?_
    refine aw_icmp_ge (tgt := 54) d_Mo_image_27 rfl (fun q27 => ?_) (fun q27 => ?_)
    · refine aw_sub (lo' := [(0, .ref 151), (1, .int a1), (2, .int v2_23)]) [0, 1, 2] rfl ?_
      exact hkx23_54 _ _
    · refine aw_aload_n d_Mo_image_30 0 rfl ?_
      refine aw_getR (t := 166) fl_Mo_55 kd_151 rt_151_25 d_Mo_image_31 ?_
      refine aw_sipush d_Mo_image_34 ks_8918 ?_
      refine aw_iload_n d_Mo_image_37 1 rfl ?_
      refine aw_imul d_Mo_image_38 ?_
      refine aw_iload_n d_Mo_image_39 2 rfl ?_
      refine aw_iadd d_Mo_image_40 ?_
      refine aw_aload_n d_Mo_image_41 0 rfl ?_
      refine aw_getR (t := 152) fl_Mo_7 kd_151 rt_151_0 d_Mo_image_42 ?_
      refine aw_iload_n d_Mo_image_45 2 rfl ?_
      refine aw_iald kd_152 d_Mo_image_46 ?_
      refine aw_iast kd_166 d_Mo_image_47 ?_
      refine aw_bD (fun δ_47 => ?_)
      refine aw_iinc (v := (v2_23 + (1 : Int32))) (lo' := [(2, .int (v2_23 + (1 : Int32))), (0, .ref 151), (1, .int a1)]) d_Mo_image_48 2 rfl (by rw [show Int32.ofInt (1) = (1 : Int32) from by decide]) (by decide) rfl ?_
      refine aw_goto (tgt := 23) d_Mo_image_51 rfl ?_
      refine aw_sub (lo' := [(0, .ref 151), (1, .int a1), (2, .int (v2_23 + (1 : Int32)))]) [1, 2, 0] rfl ?_
      exact ih _ _
def f_Mo_image (a1 : Int32) (δ : Dm) : Option (Int32 × Dm) := ((f_Mo_in ((a1).toInt64) (0 : Int64) (3 : Int64) δ).bind (fun y6 => (if y6 = 0 then (some ((-1 : Int32), δ)) else (if inb a1 4 then bnd (sI δ 167 (ix a1) (vp_nar .boolean (1 : Int32))) (fun δ_20 => (lp_Mo_image_23 (fun v2_23x δ23x => (if inb (0 : Int32) 8918 then (some ((gI δ23x 152 (ix (0 : Int32))), δ23x)) else none)) a1 FU (0 : Int32) δ_20)) else none))))
set_option maxHeartbeats 4000000 in
set_option maxRecDepth 100000 in
theorem m_Mo_image {a1 : Int32} {δ : Dm} {n : Nat} : ∀ x, f_Mo_image a1 δ = some x → AMet k_Mo_image 2 0 0 [.ref 151, .int a1] δ RT n (Km RT n x) := by
  refine aw_start (lo := [(0, .ref 151), (1, .int a1)]) mok_Mo_image rfl (Nat.le_of_ble_eq_true rfl) ?_
  unfold f_Mo_image
  refine aw_iload_n d_Mo_image_0 1 rfl ?_
  refine aw_i2l d_Mo_image_1 ?_
  refine aw_lconst d_Mo_image_2 kl_0 ?_
  refine aw_ldc2 (v := (3 : Int64)) d_Mo_image_3 kc_Mo_389 ?_
  refine aw_S_p (As := [.long ((a1).toInt64), .long (0 : Int64), .long (3 : Int64)]) (m_Mo_in) cs_Mo_64 rfl rfl (Nat.le_of_ble_eq_true rfl) ⟨Nat.le_of_ble_eq_true rfl, Nat.le_of_ble_eq_true rfl⟩ ⟨Nat.le_refl _, Nat.le_refl _⟩ d_Mo_image_6 (fun y6 => ?_)
  refine aw_if_ne (tgt := 14) d_Mo_image_9 rfl (fun q9 => ?_) (fun q9 => ?_)
  · refine aw_iconst d_Mo_image_12 ki_m1 ?_
    exact aw_iret rfl rfl ⟨Nat.le_refl _, Nat.le_refl _⟩ d_Mo_image_13
  · refine aw_aload_n d_Mo_image_14 0 rfl ?_
    refine aw_getR (t := 167) fl_Mo_58 kd_151 rt_151_26 d_Mo_image_15 ?_
    refine aw_iload_n d_Mo_image_18 1 rfl ?_
    refine aw_iconst d_Mo_image_19 ki_1 ?_
    refine aw_zast kd_167 d_Mo_image_20 ?_
    refine aw_bD (fun δ_20 => ?_)
    refine aw_iconst d_Mo_image_21 ki_0 ?_
    refine aw_istore_n (lo' := [(2, .int (0 : Int32)), (0, .ref 151), (1, .int a1)]) d_Mo_image_22 rfl (by decide) rfl ?_
    refine aw_sub (lo' := [(0, .ref 151), (1, .int a1), (2, .int (0 : Int32))]) [1, 2, 0] rfl ?_
    refine tl_Mo_image_23 _ _ (fun v2_23x δ23x => ?_) FU _ _
    · refine aw_aload_n d_Mo_image_54 0 rfl ?_
      refine aw_getR (t := 152) fl_Mo_7 kd_151 rt_151_0 d_Mo_image_55 ?_
      refine aw_iconst d_Mo_image_58 ki_0 ?_
      refine aw_iald kd_152 d_Mo_image_59 ?_
      exact aw_iret rfl rfl ⟨Nat.le_refl _, Nat.le_refl _⟩ d_Mo_image_60
def lp_Mo_back_25 (kx25_56 : Int32 → Dm → Option (Int32 × Dm)) (a1 : Int32) : Nat → Int32 → Dm → Option (Int32 × Dm)
  | 0, _, _ => none
  | f + 1, v2_25, δ25 => (if (8918 : Int32) ≤ v2_25 then (kx25_56 v2_25 δ25) else (if inb (((8918 : Int32) * a1) + v2_25) 35672 then (if inb v2_25 8918 then bnd (sI δ25 152 (ix v2_25) (gI δ25 166 (ix (((8918 : Int32) * a1) + v2_25)))) (fun δ_49 => (lp_Mo_back_25 kx25_56 a1 f (v2_25 + (1 : Int32)) δ_49)) else none) else none))
set_option maxHeartbeats 4000000 in
set_option maxRecDepth 100000 in
theorem tl_Mo_back_25 {n : Nat} (kx25_56 : Int32 → Dm → Option (Int32 × Dm)) (a1 : Int32) (hkx25_56 : ∀ v2_25k δ25k, AWo k_Mo_back 2 0 0 56 [(0, .ref 151), (1, .int a1), (2, .int v2_25k)] [] δ25k RT n 0 0 (Km RT n) (kx25_56 v2_25k δ25k)) : ∀ (f : Nat) (v2_25 : Int32) (δ25 : Dm), AWo k_Mo_back 2 0 0 25 [(0, .ref 151), (1, .int a1), (2, .int v2_25)] [] δ25 RT n 0 0 (Km RT n) (lp_Mo_back_25 kx25_56 a1 f v2_25 δ25) := by
  intro f
  induction f with
  | zero => intro _ _; exact aw_none
  | succ f ih =>
    intro v2_25 δ25
    rw [lp_Mo_back_25]
    refine aw_iload_n d_Mo_back_25 2 rfl ?_
    refine aw_sipush d_Mo_back_26 ks_8918 ?_
    refine aw_icmp_ge (tgt := 56) d_Mo_back_29 rfl (fun q29 => ?_) (fun q29 => ?_)
    · refine aw_sub (lo' := [(0, .ref 151), (1, .int a1), (2, .int v2_25)]) [0, 1, 2] rfl ?_
      exact hkx25_56 _ _
    · refine aw_aload_n d_Mo_back_32 0 rfl ?_
      refine aw_getR (t := 152) fl_Mo_7 kd_151 rt_151_0 d_Mo_back_33 ?_
      refine aw_iload_n d_Mo_back_36 2 rfl ?_
      refine aw_aload_n d_Mo_back_37 0 rfl ?_
      refine aw_getR (t := 166) fl_Mo_55 kd_151 rt_151_25 d_Mo_back_38 ?_
      refine aw_sipush d_Mo_back_41 ks_8918 ?_
      refine aw_iload_n d_Mo_back_44 1 rfl ?_
      refine aw_imul d_Mo_back_45 ?_
      refine aw_iload_n d_Mo_back_46 2 rfl ?_
      refine aw_iadd d_Mo_back_47 ?_
      refine aw_iald kd_166 d_Mo_back_48 ?_
      refine aw_iast kd_152 d_Mo_back_49 ?_
      refine aw_bD (fun δ_49 => ?_)
      refine aw_iinc (v := (v2_25 + (1 : Int32))) (lo' := [(2, .int (v2_25 + (1 : Int32))), (0, .ref 151), (1, .int a1)]) d_Mo_back_50 2 rfl (by rw [show Int32.ofInt (1) = (1 : Int32) from by decide]) (by decide) rfl ?_
      refine aw_goto (tgt := 25) d_Mo_back_53 rfl ?_
      refine aw_sub (lo' := [(0, .ref 151), (1, .int a1), (2, .int (v2_25 + (1 : Int32)))]) [1, 2, 0] rfl ?_
      exact ih _ _
def f_Mo_back (a1 : Int32) (δ : Dm) : Option (Int32 × Dm) := ((f_Mo_in ((a1).toInt64) (0 : Int64) (3 : Int64) δ).bind (fun y6 => (if y6 = 0 then (some ((-1 : Int32), δ)) else (if inb a1 4 then (if (gI δ 167 (ix a1)) = 0 then (some ((-1 : Int32), δ)) else (lp_Mo_back_25 (fun v2_25x δ25x => (if inb (0 : Int32) 8918 then (some ((gI δ25x 152 (ix (0 : Int32))), δ25x)) else none)) a1 FU (0 : Int32) δ)) else none))))
set_option maxHeartbeats 4000000 in
set_option maxRecDepth 100000 in
theorem m_Mo_back {a1 : Int32} {δ : Dm} {n : Nat} : ∀ x, f_Mo_back a1 δ = some x → AMet k_Mo_back 2 0 0 [.ref 151, .int a1] δ RT n (Km RT n x) := by
  refine aw_start (lo := [(0, .ref 151), (1, .int a1)]) mok_Mo_back rfl (Nat.le_of_ble_eq_true rfl) ?_
  unfold f_Mo_back
  refine aw_iload_n d_Mo_back_0 1 rfl ?_
  refine aw_i2l d_Mo_back_1 ?_
  refine aw_lconst d_Mo_back_2 kl_0 ?_
  refine aw_ldc2 (v := (3 : Int64)) d_Mo_back_3 kc_Mo_389 ?_
  refine aw_S_p (As := [.long ((a1).toInt64), .long (0 : Int64), .long (3 : Int64)]) (m_Mo_in) cs_Mo_64 rfl rfl (Nat.le_of_ble_eq_true rfl) ⟨Nat.le_of_ble_eq_true rfl, Nat.le_of_ble_eq_true rfl⟩ ⟨Nat.le_refl _, Nat.le_refl _⟩ d_Mo_back_6 (fun y6 => ?_)
  refine aw_if_eq (tgt := 21) d_Mo_back_9 rfl (fun q9 => ?_) (fun q9 => ?_)
  · refine aw_iconst d_Mo_back_21 ki_m1 ?_
    exact aw_iret rfl rfl ⟨Nat.le_refl _, Nat.le_refl _⟩ d_Mo_back_22
  · refine aw_aload_n d_Mo_back_12 0 rfl ?_
    refine aw_getR (t := 167) fl_Mo_58 kd_151 rt_151_26 d_Mo_back_13 ?_
    refine aw_iload_n d_Mo_back_16 1 rfl ?_
    refine aw_zald kd_167 d_Mo_back_17 ?_
    refine aw_if_ne (tgt := 23) d_Mo_back_18 rfl (fun q18 => ?_) (fun q18 => ?_)
    · refine aw_iconst d_Mo_back_21 ki_m1 ?_
      exact aw_iret rfl rfl ⟨Nat.le_refl _, Nat.le_refl _⟩ d_Mo_back_22
    · refine aw_iconst d_Mo_back_23 ki_0 ?_
      refine aw_istore_n (lo' := [(2, .int (0 : Int32)), (0, .ref 151), (1, .int a1)]) d_Mo_back_24 rfl (by decide) rfl ?_
      refine aw_sub (lo' := [(0, .ref 151), (1, .int a1), (2, .int (0 : Int32))]) [1, 2, 0] rfl ?_
      refine tl_Mo_back_25 _ _ (fun v2_25x δ25x => ?_) FU _ _
      · refine aw_aload_n d_Mo_back_56 0 rfl ?_
        refine aw_getR (t := 152) fl_Mo_7 kd_151 rt_151_0 d_Mo_back_57 ?_
        refine aw_iconst d_Mo_back_60 ki_0 ?_
        refine aw_iald kd_152 d_Mo_back_61 ?_
        exact aw_iret rfl rfl ⟨Nat.le_refl _, Nat.le_refl _⟩ d_Mo_back_62
end
