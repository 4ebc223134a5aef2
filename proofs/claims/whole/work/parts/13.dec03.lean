noncomputable section
def jp_Rp_runBath_186 (kr37 : Int32 → Int32 → Int32 → Int32 → Int32 → Dm → Option Dm) (kx37_254 : Int32 → Int32 → Int32 → Int32 → Int32 → Dm → Option Dm) (a2 : Int32) (a3 : Nat) (a4 : Int32) (a5 : Int32) (t2 : Nat) (v10_37 : Int32) (v11_37 : Int32) (v12_76x : Int32) (v13_37 : Int32) (y71 : Int32) (y129 : Int32) (v9_186 : Int32) (δ186 : Dm) : Option Dm := ((f_Fp_get 40 y129 δ186).bind (fun y193 => (bnd (y193 + (1 : Int32)) (fun v198 => ((f_Fp_get 41 y129 δ186).bind (fun y207 => (bnd (y207 + (gI δ186 t2 1)) (fun v216 => (kr37 v9_186 v198 v216 v12_76x (v13_37 + (1 : Int32)) δ186)))))))))
set_option maxHeartbeats 4000000 in
set_option maxRecDepth 100000 in
theorem tj_Rp_runBath_186 {n : Nat} (kr37 : Int32 → Int32 → Int32 → Int32 → Int32 → Dm → Option Dm) (kx37_254 : Int32 → Int32 → Int32 → Int32 → Int32 → Dm → Option Dm) (a2 : Int32) (a3 : Nat) (a4 : Int32) (a5 : Int32) (t2 : Nat) (v10_37 : Int32) (v11_37 : Int32) (v12_76x : Int32) (v13_37 : Int32) (y71 : Int32) (y129 : Int32) (v9_186 : Int32) (δ186 : Dm) (ha3 : isL a3 = true) (ht2 : isB t2 = true) (hkr37 : ∀ v9_37k v10_37k v11_37k v12_37k v13_37k δ37k, AWo k_Rp_runBath 5 0 0 37 [(0, .ref 22), (1, .ref 29), (2, .int a2), (3, .ref a3), (4, .int a4), (5, .int a5), (6, .ref 19), (7, .ref t2), (8, .ref 34), (9, .int v9_37k), (10, .int v10_37k), (11, .int v11_37k), (12, .int v12_37k), (13, .int v13_37k)] [] δ37k RT n 0 0 (Kv RT n) (kr37 v9_37k v10_37k v11_37k v12_37k v13_37k δ37k)) (hkx37_254 : ∀ v9_37k v10_37k v11_37k v12_37k v13_37k δ37k, AWo k_Rp_runBath 5 0 0 254 [(0, .ref 22), (1, .ref 29), (2, .int a2), (3, .ref a3), (4, .int a4), (5, .int a5), (6, .ref 19), (7, .ref t2), (8, .ref 34), (9, .int v9_37k), (10, .int v10_37k), (11, .int v11_37k), (12, .int v12_37k), (13, .int v13_37k)] [] δ37k RT n 0 0 (Kv RT n) (kx37_254 v9_37k v10_37k v11_37k v12_37k v13_37k δ37k)) : AWo k_Rp_runBath 5 0 0 186 [(0, .ref 22), (1, .ref 29), (2, .int a2), (3, .ref a3), (4, .int a4), (5, .int a5), (6, .ref 19), (7, .ref t2), (8, .ref 34), (9, .int v9_186), (10, .int v10_37), (11, .int v11_37), (12, .int v12_76x), (13, .int v13_37), (14, .int y71), (15, .int y129)] [] δ186 RT n 0 0 (Kv RT n) (jp_Rp_runBath_186 kr37 kx37_254 a2 a3 a4 a5 t2 v10_37 v11_37 v12_76x v13_37 y71 y129 v9_186 δ186) := by
  unfold jp_Rp_runBath_186
  refine aw_aload d_Rp_runBath_186 8 rfl ?_
  refine aw_getR (t := 40) fl_Rp_84 kd_34 rt_34_8 d_Rp_runBath_188 ?_
  refine aw_iload d_Rp_runBath_191 15 rfl ?_
  refine aw_SN_p (As := [.ref 40, .int y129]) (m_Fp_get (congrArg Prod.fst kd_40)) cs_Rp_64 rfl rfl (Nat.le_of_ble_eq_true rfl) ⟨Nat.le_of_ble_eq_true rfl, Nat.le_of_ble_eq_true rfl⟩ ⟨Nat.le_refl _, Nat.le_refl _⟩ d_Rp_runBath_193 (fun y193 => ?_)
  refine aw_iconst d_Rp_runBath_196 ki_1 ?_
  refine aw_iadd d_Rp_runBath_197 ?_
  refine aw_bI (fun v198 => ?_)
  refine aw_istore (lo' := [(10, .int v198), (0, .ref 22), (1, .ref 29), (2, .int a2), (3, .ref a3), (4, .int a4), (5, .int a5), (6, .ref 19), (7, .ref t2), (8, .ref 34), (9, .int v9_186), (11, .int v11_37), (12, .int v12_76x), (13, .int v13_37), (14, .int y71), (15, .int y129)]) d_Rp_runBath_198 (by decide) rfl ?_
  refine aw_aload d_Rp_runBath_200 9 rfl ?_
  refine aw_getR (t := 41) fl_Rp_87 kd_34 rt_34_9 d_Rp_runBath_202 ?_
  refine aw_iload d_Rp_runBath_205 15 rfl ?_
  refine aw_SN_p (As := [.ref 41, .int y129]) (m_Fp_get (congrArg Prod.fst kd_41)) cs_Rp_64 rfl rfl (Nat.le_of_ble_eq_true rfl) ⟨Nat.le_of_ble_eq_true rfl, Nat.le_of_ble_eq_true rfl⟩ ⟨Nat.le_refl _, Nat.le_refl _⟩ d_Rp_runBath_207 (fun y207 => ?_)
  refine aw_aload d_Rp_runBath_210 8 rfl ?_
  refine aw_getI fl_Rp_118 (fx_isBK ht2 0 (by decide)) d_Rp_runBath_212 ?_
  refine aw_iadd d_Rp_runBath_215 ?_
  refine aw_bI (fun v216 => ?_)
  refine aw_istore (lo' := [(11, .int v216), (10, .int v198), (0, .ref 22), (1, .ref 29), (2, .int a2), (3, .ref a3), (4, .int a4), (5, .int a5), (6, .ref 19), (7, .ref t2), (8, .ref 34), (9, .int v9_186), (12, .int v12_76x), (13, .int v13_37), (14, .int y71), (15, .int y129)]) d_Rp_runBath_216 (by decide) rfl ?_
  refine aw_goto (tgt := 248) d_Rp_runBath_218 rfl ?_
  refine aw_iinc (v := (v13_37 + (1 : Int32))) (lo' := [(13, .int (v13_37 + (1 : Int32))), (11, .int v216), (10, .int v198), (0, .ref 22), (1, .ref 29), (2, .int a2), (3, .ref a3), (4, .int a4), (5, .int a5), (6, .ref 19), (7, .ref t2), (8, .ref 34), (9, .int v9_186), (12, .int v12_76x), (14, .int y71), (15, .int y129)]) d_Rp_runBath_248 13 rfl (by rw [show Int32.ofInt (1) = (1 : Int32) from by decide]) (by decide) rfl ?_
  refine aw_goto (tgt := 37) d_Rp_runBath_251 rfl ?_
  refine aw_sub (lo' := [(0, .ref 22), (1, .ref 29), (2, .int a2), (3, .ref a3), (4, .int a4), (5, .int a5), (6, .ref 19), (7, .ref t2), (8, .ref 34), (9, .int v9_186), (10, .int v198), (11, .int v216), (12, .int v12_76x), (13, .int (v13_37 + (1 : Int32)))]) [3, 4, 5, 6, 7, 8, 9, 10, 11, 12, 2, 1, 13, 0] rfl ?_
  exact hkr37 _ _ _ _ _ _
def lp_Rp_runBath_76 (kx76_122 : Int32 → Int32 → Dm → Option Dm) (a2 : Int32) (a3 : Nat) (a4 : Int32) (a5 : Int32) (t2 : Nat) (v10_37 : Int32) (v11_37 : Int32) (v13_37 : Int32) (y71 : Int32) : Nat → Int32 → Int32 → Dm → Option Dm
  | 0, _, _, _ => none
  | f + 1, v9_76, v12_76, δ76 => (if y71 ≤ v12_76 then (kx76_122 v9_76 v12_76 δ76) else ((f_Fa_open t2 v12_76 δ76).bind (fun y90 => ((f_Fa_till v10_37 v11_37 y90).bind (fun y99 => ((f_La_worn a3 (10 : Int32) a4 v9_76 y99).bind (fun y111 => bnd y111.1 (fun v111 => bnd y111.2 (fun δ_111 => (lp_Rp_runBath_76 kx76_122 a2 a3 a4 a5 t2 v10_37 v11_37 v13_37 y71 f v111 (v12_76 + (1 : Int32)) δ_111))))))))))
set_option maxHeartbeats 4000000 in
set_option maxRecDepth 100000 in
theorem tl_Rp_runBath_76 {n : Nat} (kx76_122 : Int32 → Int32 → Dm → Option Dm) (a2 : Int32) (a3 : Nat) (a4 : Int32) (a5 : Int32) (t2 : Nat) (v10_37 : Int32) (v11_37 : Int32) (v13_37 : Int32) (y71 : Int32) (ha3 : isL a3 = true) (ht2 : isB t2 = true) (hkx76_122 : ∀ v9_76k v12_76k δ76k, AWo k_Rp_runBath 5 0 0 122 [(0, .ref 22), (1, .ref 29), (2, .int a2), (3, .ref a3), (4, .int a4), (5, .int a5), (6, .ref 19), (7, .ref t2), (8, .ref 34), (9, .int v9_76k), (10, .int v10_37), (11, .int v11_37), (12, .int v12_76k), (13, .int v13_37), (14, .int y71)] [] δ76k RT n 0 0 (Kv RT n) (kx76_122 v9_76k v12_76k δ76k)) : ∀ (f : Nat) (v9_76 : Int32) (v12_76 : Int32) (δ76 : Dm), AWo k_Rp_runBath 5 0 0 76 [(0, .ref 22), (1, .ref 29), (2, .int a2), (3, .ref a3), (4, .int a4), (5, .int a5), (6, .ref 19), (7, .ref t2), (8, .ref 34), (9, .int v9_76), (10, .int v10_37), (11, .int v11_37), (12, .int v12_76), (13, .int v13_37), (14, .int y71)] [] δ76 RT n 0 0 (Kv RT n) (lp_Rp_runBath_76 kx76_122 a2 a3 a4 a5 t2 v10_37 v11_37 v13_37 y71 f v9_76 v12_76 δ76) := by
  intro f
  induction f with
  | zero => intro _ _ _; exact aw_none
  | succ f ih =>
    intro v9_76 v12_76 δ76
    rw [lp_Rp_runBath_76]
    refine aw_iload d_Rp_runBath_76 12 rfl ?_
    refine aw_iload d_Rp_runBath_78 14 rfl ?_
    refine aw_icmp_ge (tgt := 122) d_Rp_runBath_80 rfl (fun q80 => ?_) (fun q80 => ?_)
    · refine aw_sub (lo' := [(0, .ref 22), (1, .ref 29), (2, .int a2), (3, .ref a3), (4, .int a4), (5, .int a5), (6, .ref 19), (7, .ref t2), (8, .ref 34), (9, .int v9_76), (10, .int v10_37), (11, .int v11_37), (12, .int v12_76), (13, .int v13_37), (14, .int y71)]) [0, 1, 2, 3, 4, 5, 6, 7, 8, 9, 10, 11, 12, 13, 14] rfl ?_
      exact hkx76_122 _ _ _
    · refine aw_aload d_Rp_runBath_83 6 rfl ?_
      refine aw_aload_n d_Rp_runBath_85 1 rfl ?_
      refine aw_aload d_Rp_runBath_86 7 rfl ?_
      refine aw_iload d_Rp_runBath_88 12 rfl ?_
      refine aw_V_v (As := [.ref 29, .ref t2, .int v12_76]) (m_Fa_open ht2) cv_Rp_68 kd_19 rfl rfl rfl (Nat.le_of_ble_eq_true rfl) ⟨Nat.le_of_ble_eq_true rfl, Nat.le_of_ble_eq_true rfl⟩ ⟨Nat.le_refl _, Nat.le_refl _⟩ d_Rp_runBath_90 (fun y90 => ?_)
      refine aw_aload d_Rp_runBath_93 6 rfl ?_
      refine aw_iload d_Rp_runBath_95 10 rfl ?_
      refine aw_iload d_Rp_runBath_97 11 rfl ?_
      refine aw_V_v (As := [.int v10_37, .int v11_37]) (m_Fa_till) cv_Rp_90 kd_19 rfl rfl rfl (Nat.le_of_ble_eq_true rfl) ⟨Nat.le_of_ble_eq_true rfl, Nat.le_of_ble_eq_true rfl⟩ ⟨Nat.le_refl _, Nat.le_refl _⟩ d_Rp_runBath_99 (fun y99 => ?_)
      refine aw_aload_n d_Rp_runBath_102 3 rfl ?_
      refine aw_bipush d_Rp_runBath_103 kb_10 ?_
      refine aw_iload d_Rp_runBath_105 4 rfl ?_
      refine aw_iload d_Rp_runBath_107 9 rfl ?_
      refine aw_aload d_Rp_runBath_109 6 rfl ?_
      refine aw_V_m (As := [.int (10 : Int32), .int a4, .int v9_76, .ref 19]) (m_La_worn ha3) cv_Rp_104 (fx_isLK ha3 0 (by decide)) rfl rfl rfl (Nat.le_of_ble_eq_true rfl) ⟨Nat.le_of_ble_eq_true rfl, Nat.le_of_ble_eq_true rfl⟩ ⟨Nat.le_refl _, Nat.le_refl _⟩ d_Rp_runBath_111 (fun y111 => ?_)
      refine aw_bI (fun v111 => ?_)
      refine aw_bD (fun δ_111 => ?_)
      refine aw_istore (lo' := [(9, .int v111), (0, .ref 22), (1, .ref 29), (2, .int a2), (3, .ref a3), (4, .int a4), (5, .int a5), (6, .ref 19), (7, .ref t2), (8, .ref 34), (10, .int v10_37), (11, .int v11_37), (12, .int v12_76), (13, .int v13_37), (14, .int y71)]) d_Rp_runBath_114 (by decide) rfl ?_
      refine aw_iinc (v := (v12_76 + (1 : Int32))) (lo' := [(12, .int (v12_76 + (1 : Int32))), (9, .int v111), (0, .ref 22), (1, .ref 29), (2, .int a2), (3, .ref a3), (4, .int a4), (5, .int a5), (6, .ref 19), (7, .ref t2), (8, .ref 34), (10, .int v10_37), (11, .int v11_37), (13, .int v13_37), (14, .int y71)]) d_Rp_runBath_116 12 rfl (by rw [show Int32.ofInt (1) = (1 : Int32) from by decide]) (by decide) rfl ?_
      refine aw_goto (tgt := 76) d_Rp_runBath_119 rfl ?_
      refine aw_sub (lo' := [(0, .ref 22), (1, .ref 29), (2, .int a2), (3, .ref a3), (4, .int a4), (5, .int a5), (6, .ref 19), (7, .ref t2), (8, .ref 34), (9, .int v111), (10, .int v10_37), (11, .int v11_37), (12, .int (v12_76 + (1 : Int32))), (13, .int v13_37), (14, .int y71)]) [2, 3, 4, 5, 6, 7, 8, 9, 10, 1, 11, 12, 0, 13, 14] rfl ?_
      exact ih _ _ _
def lp_Rp_runBath_37 (kx37_254 : Int32 → Int32 → Int32 → Int32 → Int32 → Dm → Option Dm) (a2 : Int32) (a3 : Nat) (a4 : Int32) (a5 : Int32) (t2 : Nat) : Nat → Int32 → Int32 → Int32 → Int32 → Int32 → Dm → Option Dm
  | 0, _, _, _, _, _, _ => none
  | f + 1, v9_37, v10_37, v11_37, v12_37, v13_37, δ37 => (if (gI δ37 34 2) ≤ v13_37 then (kx37_254 v9_37 v10_37 v11_37 v12_37 v13_37 δ37) else ((f_Fp_get 42 v13_37 δ37).bind (fun y54 => (if y54 = a2 then ((f_Fp_get 43 v13_37 δ37).bind (fun y71 => (lp_Rp_runBath_76 (fun v9_76x v12_76x δ76x => ((f_Fp_get 44 v13_37 δ76x).bind (fun y129 => (if y129 < 0 then (if y129 = (-4 : Int32) then (lp_Rp_runBath_37 kx37_254 a2 a3 a4 a5 t2 f v9_76x v10_37 (0 : Int32) v12_76x (v13_37 + (1 : Int32)) δ76x) else (if y129 = ((-1 : Int32) - a4) then (lp_Rp_runBath_37 kx37_254 a2 a3 a4 a5 t2 f (1000 : Int32) v10_37 v11_37 v12_76x (v13_37 + (1 : Int32)) δ76x) else (lp_Rp_runBath_37 kx37_254 a2 a3 a4 a5 t2 f v9_76x v10_37 v11_37 v12_76x (v13_37 + (1 : Int32)) δ76x))) else (if y71 < a5 then (jp_Rp_runBath_186 (lp_Rp_runBath_37 kx37_254 a2 a3 a4 a5 t2 f) kx37_254 a2 a3 a4 a5 t2 v10_37 v11_37 v12_76x v13_37 y71 y129 v9_76x δ76x) else ((f_Rp_openStrip t2 y129 δ76x).bind (fun y153 => ((f_La_isWeak a3 a4 v9_76x y153).bind (fun y166 => ((f_Rp_mark y129 a4 y166 y153).bind (fun y169 => ((f_La_worn a3 (9 : Int32) a4 v9_76x y169).bind (fun y181 => bnd y181.1 (fun v181 => bnd y181.2 (fun δ_181 => (jp_Rp_runBath_186 (lp_Rp_runBath_37 kx37_254 a2 a3 a4 a5 t2 f) kx37_254 a2 a3 a4 a5 t2 v10_37 v11_37 v12_76x v13_37 y71 y129 v181 δ_181)))))))))))))))) a2 a3 a4 a5 t2 v10_37 v11_37 v13_37 y71 FU v9_37 v12_37 δ37))) else (lp_Rp_runBath_37 kx37_254 a2 a3 a4 a5 t2 f v9_37 v10_37 v11_37 v12_37 (v13_37 + (1 : Int32)) δ37)))))
set_option maxHeartbeats 4000000 in
set_option maxRecDepth 100000 in
theorem tl_Rp_runBath_37 {n : Nat} (kx37_254 : Int32 → Int32 → Int32 → Int32 → Int32 → Dm → Option Dm) (a2 : Int32) (a3 : Nat) (a4 : Int32) (a5 : Int32) (t2 : Nat) (ha3 : isL a3 = true) (ht2 : isB t2 = true) (hkx37_254 : ∀ v9_37k v10_37k v11_37k v12_37k v13_37k δ37k, AWo k_Rp_runBath 5 0 0 254 [(0, .ref 22), (1, .ref 29), (2, .int a2), (3, .ref a3), (4, .int a4), (5, .int a5), (6, .ref 19), (7, .ref t2), (8, .ref 34), (9, .int v9_37k), (10, .int v10_37k), (11, .int v11_37k), (12, .int v12_37k), (13, .int v13_37k)] [] δ37k RT n 0 0 (Kv RT n) (kx37_254 v9_37k v10_37k v11_37k v12_37k v13_37k δ37k)) : ∀ (f : Nat) (v9_37 : Int32) (v10_37 : Int32) (v11_37 : Int32) (v12_37 : Int32) (v13_37 : Int32) (δ37 : Dm), AWo k_Rp_runBath 5 0 0 37 [(0, .ref 22), (1, .ref 29), (2, .int a2), (3, .ref a3), (4, .int a4), (5, .int a5), (6, .ref 19), (7, .ref t2), (8, .ref 34), (9, .int v9_37), (10, .int v10_37), (11, .int v11_37), (12, .int v12_37), (13, .int v13_37)] [] δ37 RT n 0 0 (Kv RT n) (lp_Rp_runBath_37 kx37_254 a2 a3 a4 a5 t2 f v9_37 v10_37 v11_37 v12_37 v13_37 δ37) := by
  intro f
  induction f with
  | zero => intro _ _ _ _ _ _; exact aw_none
  | succ f ih =>
    intro v9_37 v10_37 v11_37 v12_37 v13_37 δ37
    rw [lp_Rp_runBath_37]
    refine aw_iload d_Rp_runBath_37 13 rfl ?_
    refine aw_aload d_Rp_runBath_39 8 rfl ?_
    refine aw_getI fl_Rp_93 kd_34 d_Rp_runBath_41 ?_
    refine aw_icmp_ge (tgt := 254) d_Rp_runBath_44 rfl (fun q44 => ?_) (fun q44 => ?_)
    · refine aw_sub (lo' := [(0, .ref 22), (1, .ref 29), (2, .int a2), (3, .ref a3), (4, .int a4), (5, .int a5), (6, .ref 19), (7, .ref t2), (8, .ref 34), (9, .int v9_37), (10, .int v10_37), (11, .int v11_37), (12, .int v12_37), (13, .int v13_37)]) [0, 1, 2, 3, 4, 5, 6, 7, 8, 9, 10, 11, 12, 13] rfl ?_
      exact hkx37_254 _ _ _ _ _ _
    · refine aw_aload d_Rp_runBath_47 8 rfl ?_
      refine aw_getR (t := 42) fl_Rp_96 kd_34 rt_34_10 d_Rp_runBath_49 ?_
      refine aw_iload d_Rp_runBath_52 13 rfl ?_
      refine aw_SN_p (As := [.ref 42, .int v13_37]) (m_Fp_get (congrArg Prod.fst kd_42)) cs_Rp_64 rfl rfl (Nat.le_of_ble_eq_true rfl) ⟨Nat.le_of_ble_eq_true rfl, Nat.le_of_ble_eq_true rfl⟩ ⟨Nat.le_refl _, Nat.le_refl _⟩ d_Rp_runBath_54 (fun y54 => ?_)
      refine aw_iload_n d_Rp_runBath_57 2 rfl ?_
      refine aw_icmp_eq (tgt := 64) d_Rp_runBath_58 rfl (fun q58 => ?_) (fun q58 => ?_)
      · refine aw_aload d_Rp_runBath_64 8 rfl ?_
        refine aw_getR (t := 43) fl_Rp_99 kd_34 rt_34_11 d_Rp_runBath_66 ?_
        refine aw_iload d_Rp_runBath_69 13 rfl ?_
        refine aw_SN_p (As := [.ref 43, .int v13_37]) (m_Fp_get (congrArg Prod.fst kd_43)) cs_Rp_64 rfl rfl (Nat.le_of_ble_eq_true rfl) ⟨Nat.le_of_ble_eq_true rfl, Nat.le_of_ble_eq_true rfl⟩ ⟨Nat.le_refl _, Nat.le_refl _⟩ d_Rp_runBath_71 (fun y71 => ?_)
        refine aw_istore (lo' := [(14, .int y71), (0, .ref 22), (1, .ref 29), (2, .int a2), (3, .ref a3), (4, .int a4), (5, .int a5), (6, .ref 19), (7, .ref t2), (8, .ref 34), (9, .int v9_37), (10, .int v10_37), (11, .int v11_37), (12, .int v12_37), (13, .int v13_37)]) d_Rp_runBath_74 (by decide) rfl ?_
        refine aw_sub (lo' := [(0, .ref 22), (1, .ref 29), (2, .int a2), (3, .ref a3), (4, .int a4), (5, .int a5), (6, .ref 19), (7, .ref t2), (8, .ref 34), (9, .int v9_37), (10, .int v10_37), (11, .int v11_37), (12, .int v12_37), (13, .int v13_37), (14, .int y71)]) [1, 2, 3, 4, 5, 6, 7, 8, 9, 10, 11, 12, 13, 14, 0] rfl ?_
        refine tl_Rp_runBath_76 _ _ _ _ _ _ _ _ _ _ ha3 ht2 (fun v9_76x v12_76x δ76x => ?_) FU _ _ _
        · refine aw_aload d_Rp_runBath_122 8 rfl ?_
          refine aw_getR (t := 44) fl_Rp_108 kd_34 rt_34_12 d_Rp_runBath_124 ?_
          refine aw_iload d_Rp_runBath_127 13 rfl ?_
          refine aw_SN_p (As := [.ref 44, .int v13_37]) (m_Fp_get (congrArg Prod.fst kd_44)) cs_Rp_64 rfl rfl (Nat.le_of_ble_eq_true rfl) ⟨Nat.le_of_ble_eq_true rfl, Nat.le_of_ble_eq_true rfl⟩ ⟨Nat.le_refl _, Nat.le_refl _⟩ d_Rp_runBath_129 (fun y129 => ?_)
          refine aw_istore (lo' := [(15, .int y129), (0, .ref 22), (1, .ref 29), (2, .int a2), (3, .ref a3), (4, .int a4), (5, .int a5), (6, .ref 19), (7, .ref t2), (8, .ref 34), (9, .int v9_76x), (10, .int v10_37), (11, .int v11_37), (12, .int v12_76x), (13, .int v13_37), (14, .int y71)]) d_Rp_runBath_132 (by decide) rfl ?_
          refine aw_iload d_Rp_runBath_134 0 rfl ?_
          refine aw_if_lt (tgt := 221) d_Rp_runBath_136 rfl (fun q136 => ?_) (fun q136 => ?_)
          · refine aw_iload d_Rp_runBath_221 0 rfl ?_
            refine aw_bipush d_Rp_runBath_223 kb_m4 ?_
            refine aw_icmp_ne (tgt := 234) d_Rp_runBath_225 rfl (fun q225 => ?_) (fun q225 => ?_)
            · refine aw_iconst d_Rp_runBath_228 ki_0 ?_
              refine aw_istore (lo' := [(11, .int (0 : Int32)), (15, .int y129), (0, .ref 22), (1, .ref 29), (2, .int a2), (3, .ref a3), (4, .int a4), (5, .int a5), (6, .ref 19), (7, .ref t2), (8, .ref 34), (9, .int v9_76x), (10, .int v10_37), (12, .int v12_76x), (13, .int v13_37), (14, .int y71)]) d_Rp_runBath_229 (by decide) rfl ?_
              refine aw_goto (tgt := 248) d_Rp_runBath_231 rfl ?_
              refine aw_iinc (v := (v13_37 + (1 : Int32))) (lo' := [(13, .int (v13_37 + (1 : Int32))), (11, .int (0 : Int32)), (15, .int y129), (0, .ref 22), (1, .ref 29), (2, .int a2), (3, .ref a3), (4, .int a4), (5, .int a5), (6, .ref 19), (7, .ref t2), (8, .ref 34), (9, .int v9_76x), (10, .int v10_37), (12, .int v12_76x), (14, .int y71)]) d_Rp_runBath_248 14 rfl (by rw [show Int32.ofInt (1) = (1 : Int32) from by decide]) (by decide) rfl ?_
              refine aw_goto (tgt := 37) d_Rp_runBath_251 rfl ?_
              refine aw_sub (lo' := [(0, .ref 22), (1, .ref 29), (2, .int a2), (3, .ref a3), (4, .int a4), (5, .int a5), (6, .ref 19), (7, .ref t2), (8, .ref 34), (9, .int v9_76x), (10, .int v10_37), (11, .int (0 : Int32)), (12, .int v12_76x), (13, .int (v13_37 + (1 : Int32)))]) [3, 4, 5, 6, 7, 8, 9, 10, 11, 12, 13, 1, 14, 0] rfl ?_
              exact ih _ _ _ _ _ _
            · refine aw_iload d_Rp_runBath_234 0 rfl ?_
              refine aw_iconst d_Rp_runBath_236 ki_m1 ?_
              refine aw_iload d_Rp_runBath_237 5 rfl ?_
              refine aw_isub d_Rp_runBath_239 ?_
              refine aw_icmp_ne (tgt := 248) d_Rp_runBath_240 rfl (fun q240 => ?_) (fun q240 => ?_)
              · refine aw_sipush d_Rp_runBath_243 ks_1000 ?_
                refine aw_istore (lo' := [(9, .int (1000 : Int32)), (15, .int y129), (0, .ref 22), (1, .ref 29), (2, .int a2), (3, .ref a3), (4, .int a4), (5, .int a5), (6, .ref 19), (7, .ref t2), (8, .ref 34), (10, .int v10_37), (11, .int v11_37), (12, .int v12_76x), (13, .int v13_37), (14, .int y71)]) d_Rp_runBath_246 (by decide) rfl ?_
                refine aw_iinc (v := (v13_37 + (1 : Int32))) (lo' := [(13, .int (v13_37 + (1 : Int32))), (9, .int (1000 : Int32)), (15, .int y129), (0, .ref 22), (1, .ref 29), (2, .int a2), (3, .ref a3), (4, .int a4), (5, .int a5), (6, .ref 19), (7, .ref t2), (8, .ref 34), (10, .int v10_37), (11, .int v11_37), (12, .int v12_76x), (14, .int y71)]) d_Rp_runBath_248 14 rfl (by rw [show Int32.ofInt (1) = (1 : Int32) from by decide]) (by decide) rfl ?_
                refine aw_goto (tgt := 37) d_Rp_runBath_251 rfl ?_
                refine aw_sub (lo' := [(0, .ref 22), (1, .ref 29), (2, .int a2), (3, .ref a3), (4, .int a4), (5, .int a5), (6, .ref 19), (7, .ref t2), (8, .ref 34), (9, .int (1000 : Int32)), (10, .int v10_37), (11, .int v11_37), (12, .int v12_76x), (13, .int (v13_37 + (1 : Int32)))]) [3, 4, 5, 6, 7, 8, 9, 10, 11, 1, 12, 13, 14, 0] rfl ?_
                exact ih _ _ _ _ _ _
              · refine aw_iinc (v := (v13_37 + (1 : Int32))) (lo' := [(13, .int (v13_37 + (1 : Int32))), (15, .int y129), (0, .ref 22), (1, .ref 29), (2, .int a2), (3, .ref a3), (4, .int a4), (5, .int a5), (6, .ref 19), (7, .ref t2), (8, .ref 34), (9, .int v9_76x), (10, .int v10_37), (11, .int v11_37), (12, .int v12_76x), (14, .int y71)]) d_Rp_runBath_248 14 rfl (by rw [show Int32.ofInt (1) = (1 : Int32) from by decide]) (by decide) rfl ?_
                refine aw_goto (tgt := 37) d_Rp_runBath_251 rfl ?_
                refine aw_sub (lo' := [(0, .ref 22), (1, .ref 29), (2, .int a2), (3, .ref a3), (4, .int a4), (5, .int a5), (6, .ref 19), (7, .ref t2), (8, .ref 34), (9, .int v9_76x), (10, .int v10_37), (11, .int v11_37), (12, .int v12_76x), (13, .int (v13_37 + (1 : Int32)))]) [2, 3, 4, 5, 6, 7, 8, 9, 10, 11, 12, 13, 14, 0] rfl ?_
                exact ih _ _ _ _ _ _
          · refine aw_iload d_Rp_runBath_139 15 rfl ?_
            refine aw_iload d_Rp_runBath_141 6 rfl ?_
            refine aw_icmp_lt (tgt := 186) d_Rp_runBath_143 rfl (fun q143 => ?_) (fun q143 => ?_)
            · refine aw_sub (lo' := [(0, .ref 22), (1, .ref 29), (2, .int a2), (3, .ref a3), (4, .int a4), (5, .int a5), (6, .ref 19), (7, .ref t2), (8, .ref 34), (9, .int v9_76x), (10, .int v10_37), (11, .int v11_37), (12, .int v12_76x), (13, .int v13_37), (14, .int y71), (15, .int y129)]) [1, 2, 3, 4, 5, 6, 7, 8, 9, 10, 11, 12, 13, 14, 15, 0] rfl ?_
              exact tj_Rp_runBath_186 _ _ _ _ _ _ _ _ _ _ _ _ _ _ _ ha3 ht2 ih hkx37_254
            · refine aw_aload_n d_Rp_runBath_146 2 rfl ?_
              refine aw_aload d_Rp_runBath_147 8 rfl ?_
              refine aw_iload d_Rp_runBath_149 0 rfl ?_
              refine aw_aload d_Rp_runBath_151 7 rfl ?_
              refine aw_S_v (As := [.ref 29, .ref t2, .int y129, .ref 19]) (m_Rp_openStrip ht2) cs_Rp_38 rfl rfl (Nat.le_of_ble_eq_true rfl) ⟨Nat.le_of_ble_eq_true rfl, Nat.le_of_ble_eq_true rfl⟩ ⟨Nat.le_refl _, Nat.le_refl _⟩ d_Rp_runBath_153 (fun y153 => ?_)
              refine aw_aload_n d_Rp_runBath_156 1 rfl ?_
              refine aw_iload d_Rp_runBath_157 0 rfl ?_
              refine aw_iload d_Rp_runBath_159 5 rfl ?_
              refine aw_aload_n d_Rp_runBath_161 4 rfl ?_
              refine aw_iload d_Rp_runBath_162 5 rfl ?_
              refine aw_iload d_Rp_runBath_164 10 rfl ?_
              refine aw_V_p (As := [.int a4, .int v9_76x]) (m_La_isWeak ha3) cv_Rp_111 (fx_isLK ha3 0 (by decide)) rfl rfl rfl (Nat.le_of_ble_eq_true rfl) ⟨Nat.le_of_ble_eq_true rfl, Nat.le_of_ble_eq_true rfl⟩ ⟨Nat.le_refl _, Nat.le_refl _⟩ d_Rp_runBath_166 (fun y166 => ?_)
              refine aw_V_v (As := [.int y129, .int a4, .int y166]) (m_Rp_mark) cv_Rp_114 kd_22 rfl rfl rfl (Nat.le_of_ble_eq_true rfl) ⟨Nat.le_of_ble_eq_true rfl, Nat.le_of_ble_eq_true rfl⟩ ⟨Nat.le_refl _, Nat.le_refl _⟩ d_Rp_runBath_169 (fun y169 => ?_)
              refine aw_aload_n d_Rp_runBath_172 4 rfl ?_
              refine aw_bipush d_Rp_runBath_173 kb_9 ?_
              refine aw_iload d_Rp_runBath_175 5 rfl ?_
              refine aw_iload d_Rp_runBath_177 10 rfl ?_
              refine aw_aload d_Rp_runBath_179 7 rfl ?_
              refine aw_V_m (As := [.int (9 : Int32), .int a4, .int v9_76x, .ref 19]) (m_La_worn ha3) cv_Rp_104 (fx_isLK ha3 0 (by decide)) rfl rfl rfl (Nat.le_of_ble_eq_true rfl) ⟨Nat.le_of_ble_eq_true rfl, Nat.le_of_ble_eq_true rfl⟩ ⟨Nat.le_refl _, Nat.le_refl _⟩ d_Rp_runBath_181 (fun y181 => ?_)
              refine aw_bI (fun v181 => ?_)
              refine aw_bD (fun δ_181 => ?_)
              refine aw_istore (lo' := [(9, .int v181), (15, .int y129), (0, .ref 22), (1, .ref 29), (2, .int a2), (3, .ref a3), (4, .int a4), (5, .int a5), (6, .ref 19), (7, .ref t2), (8, .ref 34), (10, .int v10_37), (11, .int v11_37), (12, .int v12_76x), (13, .int v13_37), (14, .int y71)]) d_Rp_runBath_184 (by decide) rfl ?_
              refine aw_sub (lo' := [(0, .ref 22), (1, .ref 29), (2, .int a2), (3, .ref a3), (4, .int a4), (5, .int a5), (6, .ref 19), (7, .ref t2), (8, .ref 34), (9, .int v181), (10, .int v10_37), (11, .int v11_37), (12, .int v12_76x), (13, .int v13_37), (14, .int y71), (15, .int y129)]) [2, 3, 4, 5, 6, 7, 8, 9, 10, 0, 11, 12, 13, 14, 15, 1] rfl ?_
              exact tj_Rp_runBath_186 _ _ _ _ _ _ _ _ _ _ _ _ _ _ _ ha3 ht2 ih hkx37_254
      · refine aw_goto (tgt := 248) d_Rp_runBath_61 rfl ?_
        refine aw_iinc (v := (v13_37 + (1 : Int32))) (lo' := [(13, .int (v13_37 + (1 : Int32))), (0, .ref 22), (1, .ref 29), (2, .int a2), (3, .ref a3), (4, .int a4), (5, .int a5), (6, .ref 19), (7, .ref t2), (8, .ref 34), (9, .int v9_37), (10, .int v10_37), (11, .int v11_37), (12, .int v12_37)]) d_Rp_runBath_248 13 rfl (by rw [show Int32.ofInt (1) = (1 : Int32) from by decide]) (by decide) rfl ?_
        refine aw_goto (tgt := 37) d_Rp_runBath_251 rfl ?_
        refine aw_sub (lo' := [(0, .ref 22), (1, .ref 29), (2, .int a2), (3, .ref a3), (4, .int a4), (5, .int a5), (6, .ref 19), (7, .ref t2), (8, .ref 34), (9, .int v9_37), (10, .int v10_37), (11, .int v11_37), (12, .int v12_37), (13, .int (v13_37 + (1 : Int32)))]) [1, 2, 3, 4, 5, 6, 7, 8, 9, 10, 11, 12, 13, 0] rfl ?_
        exact ih _ _ _ _ _ _
def f_Rp_runBath (a2 : Int32) (a3 : Nat) (a4 : Int32) (a5 : Int32) (δ : Dm) : Option Dm := ((f_To_boothAt a2 δ).bind (fun o2 => ocs o2 (some δ) (fun t2 => if isB t2 = true then (lp_Rp_runBath_37 (fun v9_37x v10_37x v11_37x v12_37x v13_37x δ37x => (some δ37x)) a2 a3 a4 a5 t2 FU (1000 : Int32) (0 : Int32) (0 : Int32) a5 (0 : Int32) δ) else none)))
set_option maxHeartbeats 4000000 in
set_option maxRecDepth 100000 in
theorem m_Rp_runBath {a2 : Int32} {a3 : Nat} {a4 : Int32} {a5 : Int32} {δ : Dm} {n : Nat} (ha3 : isL a3 = true) : ∀ x, f_Rp_runBath a2 a3 a4 a5 δ = some x → AMet k_Rp_runBath 5 0 0 [.ref 22, .ref 29, .int a2, .ref a3, .int a4, .int a5, .ref 19] δ RT n (Kv RT n x) := by
  refine aw_start (lo := [(0, .ref 22), (1, .ref 29), (2, .int a2), (3, .ref a3), (4, .int a4), (5, .int a5), (6, .ref 19)]) mok_Rp_runBath rfl (Nat.le_of_ble_eq_true rfl) ?_
  unfold f_Rp_runBath
  refine aw_aload_n d_Rp_runBath_0 1 rfl ?_
  refine aw_iload_n d_Rp_runBath_1 2 rfl ?_
  refine aw_V_r (As := [.int a2]) (m_To_boothAt) cv_Rp_18 kd_29 rfl rfl rfl (Nat.le_of_ble_eq_true rfl) ⟨Nat.le_of_ble_eq_true rfl, Nat.le_of_ble_eq_true rfl⟩ ⟨Nat.le_refl _, Nat.le_refl _⟩ d_Rp_runBath_2 ?_ (fun t2 => ?_)
  · refine aw_astoreN (lo' := [(7, .null), (0, .ref 22), (1, .ref 29), (2, .int a2), (3, .ref a3), (4, .int a4), (5, .int a5), (6, .ref 19)]) d_Rp_runBath_5 (by decide) rfl ?_
    refine aw_aloadN d_Rp_runBath_7 0 rfl ?_
    refine aw_ifnonnullN d_Rp_runBath_9 ?_
    exact aw_vret rfl rfl ⟨Nat.le_refl _, Nat.le_refl _⟩ d_Rp_runBath_12
  · refine aw_grd (fun ht2 => ?_)
    refine aw_astore (lo' := [(7, .ref t2), (0, .ref 22), (1, .ref 29), (2, .int a2), (3, .ref a3), (4, .int a4), (5, .int a5), (6, .ref 19)]) d_Rp_runBath_5 (by decide) rfl ?_
    refine aw_aload d_Rp_runBath_7 0 rfl ?_
    refine aw_ifnonnull (tgt := 13) d_Rp_runBath_9 rfl ?_
    refine aw_aload_n d_Rp_runBath_13 2 rfl ?_
    refine aw_getR (t := 34) fl_Rp_24 kd_29 rt_29_7 d_Rp_runBath_14 ?_
    refine aw_astore (lo' := [(8, .ref 34), (7, .ref t2), (0, .ref 22), (1, .ref 29), (2, .int a2), (3, .ref a3), (4, .int a4), (5, .int a5), (6, .ref 19)]) d_Rp_runBath_17 (by decide) rfl ?_
    refine aw_sipush d_Rp_runBath_19 ks_1000 ?_
    refine aw_istore (lo' := [(9, .int (1000 : Int32)), (8, .ref 34), (7, .ref t2), (0, .ref 22), (1, .ref 29), (2, .int a2), (3, .ref a3), (4, .int a4), (5, .int a5), (6, .ref 19)]) d_Rp_runBath_22 (by decide) rfl ?_
    refine aw_iconst d_Rp_runBath_24 ki_0 ?_
    refine aw_istore (lo' := [(10, .int (0 : Int32)), (9, .int (1000 : Int32)), (8, .ref 34), (7, .ref t2), (0, .ref 22), (1, .ref 29), (2, .int a2), (3, .ref a3), (4, .int a4), (5, .int a5), (6, .ref 19)]) d_Rp_runBath_25 (by decide) rfl ?_
    refine aw_iconst d_Rp_runBath_27 ki_0 ?_
    refine aw_istore (lo' := [(11, .int (0 : Int32)), (10, .int (0 : Int32)), (9, .int (1000 : Int32)), (8, .ref 34), (7, .ref t2), (0, .ref 22), (1, .ref 29), (2, .int a2), (3, .ref a3), (4, .int a4), (5, .int a5), (6, .ref 19)]) d_Rp_runBath_28 (by decide) rfl ?_
    refine aw_iload d_Rp_runBath_30 10 rfl ?_
    refine aw_istore (lo' := [(12, .int a5), (11, .int (0 : Int32)), (10, .int (0 : Int32)), (9, .int (1000 : Int32)), (8, .ref 34), (7, .ref t2), (0, .ref 22), (1, .ref 29), (2, .int a2), (3, .ref a3), (4, .int a4), (5, .int a5), (6, .ref 19)]) d_Rp_runBath_32 (by decide) rfl ?_
    refine aw_iconst d_Rp_runBath_34 ki_0 ?_
    refine aw_istore (lo' := [(13, .int (0 : Int32)), (12, .int a5), (11, .int (0 : Int32)), (10, .int (0 : Int32)), (9, .int (1000 : Int32)), (8, .ref 34), (7, .ref t2), (0, .ref 22), (1, .ref 29), (2, .int a2), (3, .ref a3), (4, .int a4), (5, .int a5), (6, .ref 19)]) d_Rp_runBath_35 (by decide) rfl ?_
    refine aw_sub (lo' := [(0, .ref 22), (1, .ref 29), (2, .int a2), (3, .ref a3), (4, .int a4), (5, .int a5), (6, .ref 19), (7, .ref t2), (8, .ref 34), (9, .int (1000 : Int32)), (10, .int (0 : Int32)), (11, .int (0 : Int32)), (12, .int a5), (13, .int (0 : Int32))]) [7, 8, 9, 10, 11, 12, 13, 6, 5, 4, 3, 2, 1, 0] rfl ?_
    refine tl_Rp_runBath_37 _ _ _ _ _ _ ha3 ht2 (fun v9_37x v10_37x v11_37x v12_37x v13_37x δ37x => ?_) FU _ _ _ _ _ _
    · exact aw_vret rfl rfl ⟨Nat.le_refl _, Nat.le_refl _⟩ d_Rp_runBath_254
def lp_Rp_runAll_77 (kx77_105 : Int32 → Dm → Option Dm) (a2 : Int32) (a3 : Nat) (t2 : Nat) : Nat → Int32 → Dm → Option Dm
  | 0, _, _ => none
  | f + 1, v7_77, δ77 => (if (3 : Int32) ≤ v7_77 then (kx77_105 v7_77 δ77) else ((f_Rp_runBath a2 a3 v7_77 (gI δ77 t2 3) δ77).bind (fun y96 => (lp_Rp_runAll_77 kx77_105 a2 a3 t2 f (v7_77 + (1 : Int32)) y96))))
set_option maxHeartbeats 4000000 in
set_option maxRecDepth 100000 in
theorem tl_Rp_runAll_77 {n : Nat} (kx77_105 : Int32 → Dm → Option Dm) (a2 : Int32) (a3 : Nat) (t2 : Nat) (ha3 : isL a3 = true) (ht2 : isB t2 = true) (hkx77_105 : ∀ v7_77k δ77k, AWo k_Rp_runAll 6 0 0 105 [(0, .ref 22), (1, .ref 29), (2, .int a2), (3, .ref a3), (4, .ref 19), (5, .ref t2), (6, .ref 34), (7, .int v7_77k)] [] δ77k RT n 0 0 (Kv RT n) (kx77_105 v7_77k δ77k)) : ∀ (f : Nat) (v7_77 : Int32) (δ77 : Dm), AWo k_Rp_runAll 6 0 0 77 [(0, .ref 22), (1, .ref 29), (2, .int a2), (3, .ref a3), (4, .ref 19), (5, .ref t2), (6, .ref 34), (7, .int v7_77)] [] δ77 RT n 0 0 (Kv RT n) (lp_Rp_runAll_77 kx77_105 a2 a3 t2 f v7_77 δ77) := by
  intro f
  induction f with
  | zero => intro _ _; exact aw_none
  | succ f ih =>
    intro v7_77 δ77
    rw [lp_Rp_runAll_77]
    refine aw_iload d_Rp_runAll_77 7 rfl ?_
    refine aw_iconst d_Rp_runAll_79 ki_3 ?_
    refine aw_icmp_ge (tgt := 105) d_Rp_runAll_80 rfl (fun q80 => ?_) (fun q80 => ?_)
    · refine aw_sub (lo' := [(0, .ref 22), (1, .ref 29), (2, .int a2), (3, .ref a3), (4, .ref 19), (5, .ref t2), (6, .ref 34), (7, .int v7_77)]) [0, 1, 2, 3, 4, 5, 6, 7] rfl ?_
      exact hkx77_105 _ _
    · refine aw_aload_n d_Rp_runAll_83 0 rfl ?_
      refine aw_aload_n d_Rp_runAll_84 1 rfl ?_
      refine aw_iload_n d_Rp_runAll_85 2 rfl ?_
      refine aw_aload_n d_Rp_runAll_86 3 rfl ?_
      refine aw_iload d_Rp_runAll_87 7 rfl ?_
      refine aw_aload d_Rp_runAll_89 5 rfl ?_
      refine aw_getI fl_Rp_52 (fx_isBK ht2 0 (by decide)) d_Rp_runAll_91 ?_
      refine aw_aload d_Rp_runAll_94 4 rfl ?_
      refine aw_V_v (As := [.ref 29, .int a2, .ref a3, .int v7_77, .int (gI δ77 t2 3), .ref 19]) (m_Rp_runBath ha3) cv_Rp_57 kd_22 rfl rfl rfl (Nat.le_of_ble_eq_true rfl) ⟨Nat.le_of_ble_eq_true rfl, Nat.le_of_ble_eq_true rfl⟩ ⟨Nat.le_refl _, Nat.le_refl _⟩ d_Rp_runAll_96 (fun y96 => ?_)
      refine aw_iinc (v := (v7_77 + (1 : Int32))) (lo' := [(7, .int (v7_77 + (1 : Int32))), (0, .ref 22), (1, .ref 29), (2, .int a2), (3, .ref a3), (4, .ref 19), (5, .ref t2), (6, .ref 34)]) d_Rp_runAll_99 7 rfl (by rw [show Int32.ofInt (1) = (1 : Int32) from by decide]) (by decide) rfl ?_
      refine aw_goto (tgt := 77) d_Rp_runAll_102 rfl ?_
      refine aw_sub (lo' := [(0, .ref 22), (1, .ref 29), (2, .int a2), (3, .ref a3), (4, .ref 19), (5, .ref t2), (6, .ref 34), (7, .int (v7_77 + (1 : Int32)))]) [1, 2, 3, 4, 5, 6, 7, 0] rfl ?_
      exact ih _ _
def lp_Rp_runAll_22 (kx22_74 : Int32 → Dm → Option Dm) (a2 : Int32) (a3 : Nat) (t2 : Nat) : Nat → Int32 → Dm → Option Dm
  | 0, _, _ => none
  | f + 1, v7_22, δ22 => (if (gI δ22 34 0) ≤ v7_22 then (kx22_74 v7_22 δ22) else ((f_Di_isOf v7_22 a2 δ22).bind (fun y37 => (if y37 = 0 then (lp_Rp_runAll_22 kx22_74 a2 a3 t2 f (v7_22 + (1 : Int32)) δ22) else ((f_Rp_openStrip t2 v7_22 δ22).bind (fun y50 => ((f_La_spoilerBesideBaths a3 y50).bind (fun y62 => bnd y62.1 (fun v62 => bnd y62.2 (fun δ_62 => ((f_Fp_put 24 v7_22 v62 δ_62).bind (fun y65 => (lp_Rp_runAll_22 kx22_74 a2 a3 t2 f (v7_22 + (1 : Int32)) y65)))))))))))))
set_option maxHeartbeats 4000000 in
set_option maxRecDepth 100000 in
theorem tl_Rp_runAll_22 {n : Nat} (kx22_74 : Int32 → Dm → Option Dm) (a2 : Int32) (a3 : Nat) (t2 : Nat) (ha3 : isL a3 = true) (ht2 : isB t2 = true) (hkx22_74 : ∀ v7_22k δ22k, AWo k_Rp_runAll 6 0 0 74 [(0, .ref 22), (1, .ref 29), (2, .int a2), (3, .ref a3), (4, .ref 19), (5, .ref t2), (6, .ref 34), (7, .int v7_22k)] [] δ22k RT n 0 0 (Kv RT n) (kx22_74 v7_22k δ22k)) : ∀ (f : Nat) (v7_22 : Int32) (δ22 : Dm), AWo k_Rp_runAll 6 0 0 22 [(0, .ref 22), (1, .ref 29), (2, .int a2), (3, .ref a3), (4, .ref 19), (5, .ref t2), (6, .ref 34), (7, .int v7_22)] [] δ22 RT n 0 0 (Kv RT n) (lp_Rp_runAll_22 kx22_74 a2 a3 t2 f v7_22 δ22) := by
  intro f
  induction f with
  | zero => intro _ _; exact aw_none
  | succ f ih =>
    intro v7_22 δ22
    rw [lp_Rp_runAll_22]
    refine aw_iload d_Rp_runAll_22 7 rfl ?_
    refine aw_aload d_Rp_runAll_24 6 rfl ?_
    refine aw_getI fl_Rp_28 kd_34 d_Rp_runAll_26 ?_
    refine aw_icmp_ge (tgt := 74) d_Rp_runAll_29 rfl (fun q29 => ?_) (fun q29 => ?_)
    · refine aw_sub (lo' := [(0, .ref 22), (1, .ref 29), (2, .int a2), (3, .ref a3), (4, .ref 19), (5, .ref t2), (6, .ref 34), (7, .int v7_22)]) [0, 1, 2, 3, 4, 5, 6, 7] rfl ?_
      exact hkx22_74 _ _
    · refine aw_aload d_Rp_runAll_32 6 rfl ?_
      refine aw_iload d_Rp_runAll_34 7 rfl ?_
      refine aw_iload_n d_Rp_runAll_36 2 rfl ?_
      refine aw_V_p (As := [.int v7_22, .int a2]) (m_Di_isOf) cv_Rp_34 kd_34 rfl rfl rfl (Nat.le_of_ble_eq_true rfl) ⟨Nat.le_of_ble_eq_true rfl, Nat.le_of_ble_eq_true rfl⟩ ⟨Nat.le_refl _, Nat.le_refl _⟩ d_Rp_runAll_37 (fun y37 => ?_)
      refine aw_if_eq (tgt := 68) d_Rp_runAll_40 rfl (fun q40 => ?_) (fun q40 => ?_)
      · refine aw_iinc (v := (v7_22 + (1 : Int32))) (lo' := [(7, .int (v7_22 + (1 : Int32))), (0, .ref 22), (1, .ref 29), (2, .int a2), (3, .ref a3), (4, .ref 19), (5, .ref t2), (6, .ref 34)]) d_Rp_runAll_68 7 rfl (by rw [show Int32.ofInt (1) = (1 : Int32) from by decide]) (by decide) rfl ?_
        refine aw_goto (tgt := 22) d_Rp_runAll_71 rfl ?_
        refine aw_sub (lo' := [(0, .ref 22), (1, .ref 29), (2, .int a2), (3, .ref a3), (4, .ref 19), (5, .ref t2), (6, .ref 34), (7, .int (v7_22 + (1 : Int32)))]) [1, 2, 3, 4, 5, 6, 7, 0] rfl ?_
        exact ih _ _
      · refine aw_aload_n d_Rp_runAll_43 1 rfl ?_
        refine aw_aload d_Rp_runAll_44 5 rfl ?_
        refine aw_iload d_Rp_runAll_46 7 rfl ?_
        refine aw_aload d_Rp_runAll_48 4 rfl ?_
        refine aw_S_v (As := [.ref 29, .ref t2, .int v7_22, .ref 19]) (m_Rp_openStrip ht2) cs_Rp_38 rfl rfl (Nat.le_of_ble_eq_true rfl) ⟨Nat.le_of_ble_eq_true rfl, Nat.le_of_ble_eq_true rfl⟩ ⟨Nat.le_refl _, Nat.le_refl _⟩ d_Rp_runAll_50 (fun y50 => ?_)
        refine aw_aload_n d_Rp_runAll_53 0 rfl ?_
        refine aw_getR (t := 24) fl_Rp_15 kd_22 rt_22_1 d_Rp_runAll_54 ?_
        refine aw_iload d_Rp_runAll_57 7 rfl ?_
        refine aw_aload_n d_Rp_runAll_59 3 rfl ?_
        refine aw_aload d_Rp_runAll_60 4 rfl ?_
        refine aw_V_m (As := [.ref 19]) (m_La_spoilerBesideBaths ha3) cv_Rp_42 (fx_isLK ha3 0 (by decide)) rfl rfl rfl (Nat.le_of_ble_eq_true rfl) ⟨Nat.le_of_ble_eq_true rfl, Nat.le_of_ble_eq_true rfl⟩ ⟨Nat.le_refl _, Nat.le_refl _⟩ d_Rp_runAll_62 (fun y62 => ?_)
        refine aw_bI (fun v62 => ?_)
        refine aw_bD (fun δ_62 => ?_)
        refine aw_SN_v (As := [.ref 24, .int v7_22, .int v62]) (m_Fp_put (congrArg Prod.fst kd_24)) cs_Rp_48 rfl rfl (Nat.le_of_ble_eq_true rfl) ⟨Nat.le_of_ble_eq_true rfl, Nat.le_of_ble_eq_true rfl⟩ ⟨Nat.le_refl _, Nat.le_refl _⟩ d_Rp_runAll_65 (fun y65 => ?_)
        refine aw_iinc (v := (v7_22 + (1 : Int32))) (lo' := [(7, .int (v7_22 + (1 : Int32))), (0, .ref 22), (1, .ref 29), (2, .int a2), (3, .ref a3), (4, .ref 19), (5, .ref t2), (6, .ref 34)]) d_Rp_runAll_68 7 rfl (by rw [show Int32.ofInt (1) = (1 : Int32) from by decide]) (by decide) rfl ?_
        refine aw_goto (tgt := 22) d_Rp_runAll_71 rfl ?_
        refine aw_sub (lo' := [(0, .ref 22), (1, .ref 29), (2, .int a2), (3, .ref a3), (4, .ref 19), (5, .ref t2), (6, .ref 34), (7, .int (v7_22 + (1 : Int32)))]) [1, 2, 3, 4, 5, 6, 7, 0] rfl ?_
        exact ih _ _
def f_Rp_runAll (a2 : Int32) (a3 : Nat) (δ : Dm) : Option Dm := ((f_To_boothAt a2 δ).bind (fun o2 => ocs o2 (some δ) (fun t2 => if isB t2 = true then (lp_Rp_runAll_22 (fun v7_22x δ22x => (lp_Rp_runAll_77 (fun v7_77x δ77x => (some δ77x)) a2 a3 t2 FU (0 : Int32) δ22x)) a2 a3 t2 FU (0 : Int32) δ) else none)))
set_option maxHeartbeats 4000000 in
set_option maxRecDepth 100000 in
theorem m_Rp_runAll {a2 : Int32} {a3 : Nat} {δ : Dm} {n : Nat} (ha3 : isL a3 = true) : ∀ x, f_Rp_runAll a2 a3 δ = some x → AMet k_Rp_runAll 6 0 0 [.ref 22, .ref 29, .int a2, .ref a3, .ref 19] δ RT n (Kv RT n x) := by
  refine aw_start (lo := [(0, .ref 22), (1, .ref 29), (2, .int a2), (3, .ref a3), (4, .ref 19)]) mok_Rp_runAll rfl (Nat.le_of_ble_eq_true rfl) ?_
  unfold f_Rp_runAll
  refine aw_aload_n d_Rp_runAll_0 1 rfl ?_
  refine aw_iload_n d_Rp_runAll_1 2 rfl ?_
  refine aw_V_r (As := [.int a2]) (m_To_boothAt) cv_Rp_18 kd_29 rfl rfl rfl (Nat.le_of_ble_eq_true rfl) ⟨Nat.le_of_ble_eq_true rfl, Nat.le_of_ble_eq_true rfl⟩ ⟨Nat.le_refl _, Nat.le_refl _⟩ d_Rp_runAll_2 ?_ (fun t2 => ?_)
  · refine aw_astoreN (lo' := [(5, .null), (0, .ref 22), (1, .ref 29), (2, .int a2), (3, .ref a3), (4, .ref 19)]) d_Rp_runAll_5 (by decide) rfl ?_
    refine aw_aloadN d_Rp_runAll_7 0 rfl ?_
    refine aw_ifnonnullN d_Rp_runAll_9 ?_
    exact aw_vret rfl rfl ⟨Nat.le_refl _, Nat.le_refl _⟩ d_Rp_runAll_12
  · refine aw_grd (fun ht2 => ?_)
    refine aw_astore (lo' := [(5, .ref t2), (0, .ref 22), (1, .ref 29), (2, .int a2), (3, .ref a3), (4, .ref 19)]) d_Rp_runAll_5 (by decide) rfl ?_
    refine aw_aload d_Rp_runAll_7 0 rfl ?_
    refine aw_ifnonnull (tgt := 13) d_Rp_runAll_9 rfl ?_
    refine aw_aload_n d_Rp_runAll_13 2 rfl ?_
    refine aw_getR (t := 34) fl_Rp_24 kd_29 rt_29_7 d_Rp_runAll_14 ?_
    refine aw_astore (lo' := [(6, .ref 34), (5, .ref t2), (0, .ref 22), (1, .ref 29), (2, .int a2), (3, .ref a3), (4, .ref 19)]) d_Rp_runAll_17 (by decide) rfl ?_
    refine aw_iconst d_Rp_runAll_19 ki_0 ?_
    refine aw_istore (lo' := [(7, .int (0 : Int32)), (6, .ref 34), (5, .ref t2), (0, .ref 22), (1, .ref 29), (2, .int a2), (3, .ref a3), (4, .ref 19)]) d_Rp_runAll_20 (by decide) rfl ?_
    refine aw_sub (lo' := [(0, .ref 22), (1, .ref 29), (2, .int a2), (3, .ref a3), (4, .ref 19), (5, .ref t2), (6, .ref 34), (7, .int (0 : Int32))]) [3, 4, 5, 6, 7, 2, 1, 0] rfl ?_
    refine tl_Rp_runAll_22 _ _ _ _ ha3 ht2 (fun v7_22x δ22x => ?_) FU _ _
    · refine aw_iconst d_Rp_runAll_74 ki_0 ?_
      refine aw_istore (lo' := [(7, .int (0 : Int32)), (0, .ref 22), (1, .ref 29), (2, .int a2), (3, .ref a3), (4, .ref 19), (5, .ref t2), (6, .ref 34)]) d_Rp_runAll_75 (by decide) rfl ?_
      refine aw_sub (lo' := [(0, .ref 22), (1, .ref 29), (2, .int a2), (3, .ref a3), (4, .ref 19), (5, .ref t2), (6, .ref 34), (7, .int (0 : Int32))]) [1, 2, 3, 4, 5, 6, 7, 0] rfl ?_
      refine tl_Rp_runAll_77 _ _ _ _ ha3 ht2 (fun v7_77x δ77x => ?_) FU _ _
      · exact aw_vret rfl rfl ⟨Nat.le_refl _, Nat.le_refl _⟩ d_Rp_runAll_105
def lp_Rp_spoilerOf_11 (kx11_35 : Int32 → Option Int32) (a1 : Int32) (y5 : Int32) (δ : Dm) : Nat → Int32 → Option Int32
  | 0, _ => none
  | f + 1, v3_11 => (if (3 : Int32) ≤ v3_11 then (kx11_35 v3_11) else (if ((y5 >>> (v3_11 &&& 31)) &&& (1 : Int32)) = (1 : Int32) then (some (v3_11 + (1 : Int32))) else (lp_Rp_spoilerOf_11 kx11_35 a1 y5 δ f (v3_11 + (1 : Int32)))))
set_option maxHeartbeats 4000000 in
set_option maxRecDepth 100000 in
theorem tl_Rp_spoilerOf_11 {n : Nat} (kx11_35 : Int32 → Option Int32) (a1 : Int32) (y5 : Int32) (δ : Dm) (hkx11_35 : ∀ v3_11k, AWo k_Rp_spoilerOf 2 0 0 35 [(0, .ref 22), (1, .int a1), (2, .int y5), (3, .int v3_11k)] [] δ RT n 0 0 (Kp δ RT n) (kx11_35 v3_11k)) : ∀ (f : Nat) (v3_11 : Int32), AWo k_Rp_spoilerOf 2 0 0 11 [(0, .ref 22), (1, .int a1), (2, .int y5), (3, .int v3_11)] [] δ RT n 0 0 (Kp δ RT n) (lp_Rp_spoilerOf_11 kx11_35 a1 y5 δ f v3_11) := by
  intro f
  induction f with
  | zero => intro _; exact aw_none
  | succ f ih =>
    intro v3_11
    rw [lp_Rp_spoilerOf_11]
    refine aw_iload_n d_Rp_spoilerOf_11 3 rfl ?_
    refine aw_iconst d_Rp_spoilerOf_12 ki_3 ?_
    refine aw_icmp_ge (tgt := 35) d_Rp_spoilerOf_13 rfl (fun q13 => ?_) (fun q13 => ?_)
    · refine aw_sub (lo' := [(0, .ref 22), (1, .int a1), (2, .int y5), (3, .int v3_11)]) [0, 1, 2, 3] rfl ?_
      exact hkx11_35 _
    · refine aw_iload_n d_Rp_spoilerOf_16 2 rfl ?_
      refine aw_iload_n d_Rp_spoilerOf_17 3 rfl ?_
      refine aw_ishr d_Rp_spoilerOf_18 ?_
      refine aw_iconst d_Rp_spoilerOf_19 ki_1 ?_
      refine aw_iand d_Rp_spoilerOf_20 ?_
      refine aw_iconst d_Rp_spoilerOf_21 ki_1 ?_
      refine aw_icmp_ne (tgt := 29) d_Rp_spoilerOf_22 rfl (fun q22 => ?_) (fun q22 => ?_)
      · refine aw_iload_n d_Rp_spoilerOf_25 3 rfl ?_
        refine aw_iconst d_Rp_spoilerOf_26 ki_1 ?_
        refine aw_iadd d_Rp_spoilerOf_27 ?_
        exact aw_iret rfl rfl ⟨Nat.le_refl _, Nat.le_refl _⟩ d_Rp_spoilerOf_28
      · refine aw_iinc (v := (v3_11 + (1 : Int32))) (lo' := [(3, .int (v3_11 + (1 : Int32))), (0, .ref 22), (1, .int a1), (2, .int y5)]) d_Rp_spoilerOf_29 3 rfl (by rw [show Int32.ofInt (1) = (1 : Int32) from by decide]) (by decide) rfl ?_
        refine aw_goto (tgt := 11) d_Rp_spoilerOf_32 rfl ?_
        refine aw_sub (lo' := [(0, .ref 22), (1, .int a1), (2, .int y5), (3, .int (v3_11 + (1 : Int32)))]) [1, 2, 3, 0] rfl ?_
        exact ih _
def f_Rp_spoilerOf (a1 : Int32) (δ : Dm) : Option Int32 := ((f_Fp_get 23 a1 δ).bind (fun y5 => (lp_Rp_spoilerOf_11 (fun v3_11x => ((f_Fp_get 24 a1 δ).bind (fun y40 => (some y40)))) a1 y5 δ FU (0 : Int32))))
set_option maxHeartbeats 4000000 in
set_option maxRecDepth 100000 in
theorem m_Rp_spoilerOf {a1 : Int32} {δ : Dm} {n : Nat} : ∀ x, f_Rp_spoilerOf a1 δ = some x → AMet k_Rp_spoilerOf 2 0 0 [.ref 22, .int a1] δ RT n (Kp δ RT n x) := by
  refine aw_start (lo := [(0, .ref 22), (1, .int a1)]) mok_Rp_spoilerOf rfl (Nat.le_of_ble_eq_true rfl) ?_
  unfold f_Rp_spoilerOf
  refine aw_aload_n d_Rp_spoilerOf_0 0 rfl ?_
  refine aw_getR (t := 23) fl_Rp_9 kd_22 rt_22_0 d_Rp_spoilerOf_1 ?_
  refine aw_iload_n d_Rp_spoilerOf_4 1 rfl ?_
  refine aw_SN_p (As := [.ref 23, .int a1]) (m_Fp_get (congrArg Prod.fst kd_23)) cs_Rp_64 rfl rfl (Nat.le_of_ble_eq_true rfl) ⟨Nat.le_of_ble_eq_true rfl, Nat.le_of_ble_eq_true rfl⟩ ⟨Nat.le_refl _, Nat.le_refl _⟩ d_Rp_spoilerOf_5 (fun y5 => ?_)
  refine aw_istore_n (lo' := [(2, .int y5), (0, .ref 22), (1, .int a1)]) d_Rp_spoilerOf_8 rfl (by decide) rfl ?_
  refine aw_iconst d_Rp_spoilerOf_9 ki_0 ?_
  refine aw_istore_n (lo' := [(3, .int (0 : Int32)), (2, .int y5), (0, .ref 22), (1, .int a1)]) d_Rp_spoilerOf_10 rfl (by decide) rfl ?_
  refine aw_sub (lo' := [(0, .ref 22), (1, .int a1), (2, .int y5), (3, .int (0 : Int32))]) [2, 3, 1, 0] rfl ?_
  refine tl_Rp_spoilerOf_11 _ _ _ _ (fun v3_11x => ?_) FU _
  · refine aw_aload_n d_Rp_spoilerOf_35 0 rfl ?_
    refine aw_getR (t := 24) fl_Rp_15 kd_22 rt_22_1 d_Rp_spoilerOf_36 ?_
    refine aw_iload_n d_Rp_spoilerOf_39 1 rfl ?_
    refine aw_SN_p (As := [.ref 24, .int a1]) (m_Fp_get (congrArg Prod.fst kd_24)) cs_Rp_64 rfl rfl (Nat.le_of_ble_eq_true rfl) ⟨Nat.le_of_ble_eq_true rfl, Nat.le_of_ble_eq_true rfl⟩ ⟨Nat.le_refl _, Nat.le_refl _⟩ d_Rp_spoilerOf_40 (fun y40 => ?_)
    exact aw_iret rfl rfl ⟨Nat.le_refl _, Nat.le_refl _⟩ d_Rp_spoilerOf_43
def lp_Rp_tally_6 (kx6_44 : Int32 → Int32 → Option Int32) (a2 : Int32) (a3 : Int32) (δ : Dm) : Nat → Int32 → Int32 → Option Int32
  | 0, _, _ => none
  | f + 1, v4_6, v5_6 => (if (gI δ 34 0) ≤ v5_6 then (kx6_44 v4_6 v5_6) else ((f_Di_isOf v5_6 a2 δ).bind (fun y19 => (if y19 = 0 then (lp_Rp_tally_6 kx6_44 a2 a3 δ f v4_6 (v5_6 + (1 : Int32))) else ((f_Rp_spoilerOf v5_6 δ).bind (fun y28 => (if y28 = a3 then (lp_Rp_tally_6 kx6_44 a2 a3 δ f (v4_6 + (1 : Int32)) (v5_6 + (1 : Int32))) else (lp_Rp_tally_6 kx6_44 a2 a3 δ f v4_6 (v5_6 + (1 : Int32))))))))))
set_option maxHeartbeats 4000000 in
set_option maxRecDepth 100000 in
theorem tl_Rp_tally_6 {n : Nat} (kx6_44 : Int32 → Int32 → Option Int32) (a2 : Int32) (a3 : Int32) (δ : Dm) (hkx6_44 : ∀ v4_6k v5_6k, AWo k_Rp_tally 3 0 0 44 [(0, .ref 22), (1, .ref 34), (2, .int a2), (3, .int a3), (4, .int v4_6k), (5, .int v5_6k)] [] δ RT n 0 0 (Kp δ RT n) (kx6_44 v4_6k v5_6k)) : ∀ (f : Nat) (v4_6 : Int32) (v5_6 : Int32), AWo k_Rp_tally 3 0 0 6 [(0, .ref 22), (1, .ref 34), (2, .int a2), (3, .int a3), (4, .int v4_6), (5, .int v5_6)] [] δ RT n 0 0 (Kp δ RT n) (lp_Rp_tally_6 kx6_44 a2 a3 δ f v4_6 v5_6) := by
  intro f
  induction f with
  | zero => intro _ _; exact aw_none
  | succ f ih =>
    intro v4_6 v5_6
    rw [lp_Rp_tally_6]
    refine aw_iload d_Rp_tally_6 5 rfl ?_
    refine aw_aload_n d_Rp_tally_8 1 rfl ?_
    refine aw_getI fl_Rp_28 kd_34 d_Rp_tally_9 ?_
    refine aw_icmp_ge (tgt := 44) d_Rp_tally_12 rfl (fun q12 => ?_) (fun q12 => ?_)
    · refine aw_sub (lo' := [(0, .ref 22), (1, .ref 34), (2, .int a2), (3, .int a3), (4, .int v4_6), (5, .int v5_6)]) [0, 1, 2, 3, 4, 5] rfl ?_
      exact hkx6_44 _ _
    · refine aw_aload_n d_Rp_tally_15 1 rfl ?_
      refine aw_iload d_Rp_tally_16 5 rfl ?_
      refine aw_iload_n d_Rp_tally_18 2 rfl ?_
      refine aw_V_p (As := [.int v5_6, .int a2]) (m_Di_isOf) cv_Rp_34 kd_34 rfl rfl rfl (Nat.le_of_ble_eq_true rfl) ⟨Nat.le_of_ble_eq_true rfl, Nat.le_of_ble_eq_true rfl⟩ ⟨Nat.le_refl _, Nat.le_refl _⟩ d_Rp_tally_19 (fun y19 => ?_)
      refine aw_if_eq (tgt := 38) d_Rp_tally_22 rfl (fun q22 => ?_) (fun q22 => ?_)
      · refine aw_iinc (v := (v5_6 + (1 : Int32))) (lo' := [(5, .int (v5_6 + (1 : Int32))), (0, .ref 22), (1, .ref 34), (2, .int a2), (3, .int a3), (4, .int v4_6)]) d_Rp_tally_38 5 rfl (by rw [show Int32.ofInt (1) = (1 : Int32) from by decide]) (by decide) rfl ?_
        refine aw_goto (tgt := 6) d_Rp_tally_41 rfl ?_
        refine aw_sub (lo' := [(0, .ref 22), (1, .ref 34), (2, .int a2), (3, .int a3), (4, .int v4_6), (5, .int (v5_6 + (1 : Int32)))]) [1, 2, 3, 4, 5, 0] rfl ?_
        exact ih _ _
      · refine aw_aload_n d_Rp_tally_25 0 rfl ?_
        refine aw_iload d_Rp_tally_26 5 rfl ?_
        refine aw_V_p (As := [.int v5_6]) (m_Rp_spoilerOf) cv_Rp_121 kd_22 rfl rfl rfl (Nat.le_of_ble_eq_true rfl) ⟨Nat.le_of_ble_eq_true rfl, Nat.le_of_ble_eq_true rfl⟩ ⟨Nat.le_refl _, Nat.le_refl _⟩ d_Rp_tally_28 (fun y28 => ?_)
        refine aw_iload_n d_Rp_tally_31 3 rfl ?_
        refine aw_icmp_ne (tgt := 38) d_Rp_tally_32 rfl (fun q32 => ?_) (fun q32 => ?_)
        · refine aw_iinc (v := (v4_6 + (1 : Int32))) (lo' := [(4, .int (v4_6 + (1 : Int32))), (0, .ref 22), (1, .ref 34), (2, .int a2), (3, .int a3), (5, .int v5_6)]) d_Rp_tally_35 4 rfl (by rw [show Int32.ofInt (1) = (1 : Int32) from by decide]) (by decide) rfl ?_
          refine aw_iinc (v := (v5_6 + (1 : Int32))) (lo' := [(5, .int (v5_6 + (1 : Int32))), (4, .int (v4_6 + (1 : Int32))), (0, .ref 22), (1, .ref 34), (2, .int a2), (3, .int a3)]) d_Rp_tally_38 5 rfl (by rw [show Int32.ofInt (1) = (1 : Int32) from by decide]) (by decide) rfl ?_
          refine aw_goto (tgt := 6) d_Rp_tally_41 rfl ?_
          refine aw_sub (lo' := [(0, .ref 22), (1, .ref 34), (2, .int a2), (3, .int a3), (4, .int (v4_6 + (1 : Int32))), (5, .int (v5_6 + (1 : Int32)))]) [2, 3, 4, 5, 1, 0] rfl ?_
          exact ih _ _
        · refine aw_iinc (v := (v5_6 + (1 : Int32))) (lo' := [(5, .int (v5_6 + (1 : Int32))), (0, .ref 22), (1, .ref 34), (2, .int a2), (3, .int a3), (4, .int v4_6)]) d_Rp_tally_38 5 rfl (by rw [show Int32.ofInt (1) = (1 : Int32) from by decide]) (by decide) rfl ?_
          refine aw_goto (tgt := 6) d_Rp_tally_41 rfl ?_
          refine aw_sub (lo' := [(0, .ref 22), (1, .ref 34), (2, .int a2), (3, .int a3), (4, .int v4_6), (5, .int (v5_6 + (1 : Int32)))]) [1, 2, 3, 4, 5, 0] rfl ?_
          exact ih _ _
def f_Rp_tally (a2 : Int32) (a3 : Int32) (δ : Dm) : Option Int32 := (lp_Rp_tally_6 (fun v4_6x v5_6x => (some v4_6x)) a2 a3 δ FU (0 : Int32) (0 : Int32))
set_option maxHeartbeats 4000000 in
set_option maxRecDepth 100000 in
theorem m_Rp_tally {a2 : Int32} {a3 : Int32} {δ : Dm} {n : Nat} : ∀ x, f_Rp_tally a2 a3 δ = some x → AMet k_Rp_tally 3 0 0 [.ref 22, .ref 34, .int a2, .int a3] δ RT n (Kp δ RT n x) := by
  refine aw_start (lo := [(0, .ref 22), (1, .ref 34), (2, .int a2), (3, .int a3)]) mok_Rp_tally rfl (Nat.le_of_ble_eq_true rfl) ?_
  unfold f_Rp_tally
  refine aw_iconst d_Rp_tally_0 ki_0 ?_
  refine aw_istore (lo' := [(4, .int (0 : Int32)), (0, .ref 22), (1, .ref 34), (2, .int a2), (3, .int a3)]) d_Rp_tally_1 (by decide) rfl ?_
  refine aw_iconst d_Rp_tally_3 ki_0 ?_
  refine aw_istore (lo' := [(5, .int (0 : Int32)), (4, .int (0 : Int32)), (0, .ref 22), (1, .ref 34), (2, .int a2), (3, .int a3)]) d_Rp_tally_4 (by decide) rfl ?_
  refine aw_sub (lo' := [(0, .ref 22), (1, .ref 34), (2, .int a2), (3, .int a3), (4, .int (0 : Int32)), (5, .int (0 : Int32))]) [2, 3, 4, 5, 1, 0] rfl ?_
  refine tl_Rp_tally_6 _ _ _ _ (fun v4_6x v5_6x => ?_) FU _ _
  · refine aw_iload d_Rp_tally_44 4 rfl ?_
    exact aw_iret rfl rfl ⟨Nat.le_refl _, Nat.le_refl _⟩ d_Rp_tally_46
def f_Fp_again (a1 : Int32) (a2 : Int32) (a3 : Int32) (δ : Dm) : Option (Int32 × Dm) := ((f_Fp_lawAt a2 δ).bind (fun o2 => ocs o2 ((f_To_boothAt a1 δ).bind (fun o12 => ocs o12 (some ((-1 : Int32), δ)) (fun t12 => if isB t12 = true then (some ((-1 : Int32), δ)) else none))) (fun t2 => if isL t2 = true then ((f_To_boothAt a1 δ).bind (fun o12_1 => ocs o12_1 (some ((-1 : Int32), δ)) (fun t12_1 => if isB t12_1 = true then ((f_Fp_isSpoiler a3 δ).bind (fun y24 => (if y24 = 0 then (some ((-1 : Int32), δ)) else ((f_Rp_runAll a1 t2 δ).bind (fun y47 => ((f_Rp_tally a1 a3 y47).bind (fun y63 => (some (y63, y47))))))))) else none))) else none)))
set_option maxHeartbeats 4000000 in
set_option maxRecDepth 100000 in
theorem m_Fp_again {a1 : Int32} {a2 : Int32} {a3 : Int32} {δ : Dm} {n : Nat} : ∀ x, f_Fp_again a1 a2 a3 δ = some x → AMet k_Fp_again 7 0 0 [.ref 4, .int a1, .int a2, .int a3] δ RT n (Km RT n x) := by
  refine aw_start (lo := [(0, .ref 4), (1, .int a1), (2, .int a2), (3, .int a3)]) mok_Fp_again rfl (Nat.le_of_ble_eq_true rfl) ?_
  unfold f_Fp_again
  refine aw_aload_n d_Fp_again_0 0 rfl ?_
  refine aw_iload_n d_Fp_again_1 2 rfl ?_
  refine aw_V_r (As := [.int a2]) (m_Fp_lawAt) cv_Fp_126 kd_4 rfl rfl rfl (Nat.le_of_ble_eq_true rfl) ⟨Nat.le_of_ble_eq_true rfl, Nat.le_of_ble_eq_true rfl⟩ ⟨Nat.le_refl _, Nat.le_refl _⟩ d_Fp_again_2 ?_ (fun t2 => ?_)
  · refine aw_astoreN (lo' := [(4, .null), (0, .ref 4), (1, .int a1), (2, .int a2), (3, .int a3)]) d_Fp_again_5 (by decide) rfl ?_
    refine aw_aload_n d_Fp_again_7 1 rfl ?_
    refine aw_getR (t := 29) fl_Fp_57 kd_4 rt_4_9 d_Fp_again_8 ?_
    refine aw_iload_n d_Fp_again_11 2 rfl ?_
    refine aw_V_r (As := [.int a1]) (m_To_boothAt) cv_Fp_139 kd_29 rfl rfl rfl (Nat.le_of_ble_eq_true rfl) ⟨Nat.le_of_ble_eq_true rfl, Nat.le_of_ble_eq_true rfl⟩ ⟨Nat.le_refl _, Nat.le_refl _⟩ d_Fp_again_12 ?_ (fun t12 => ?_)
    · refine aw_ifnullN (tgt := 30) d_Fp_again_15 rfl ?_
      refine aw_iconst d_Fp_again_30 ki_m1 ?_
      exact aw_iret rfl rfl ⟨Nat.le_refl _, Nat.le_refl _⟩ d_Fp_again_31
    · refine aw_grd (fun ht12 => ?_)
      refine aw_ifnull d_Fp_again_15 ?_
      refine aw_aloadN d_Fp_again_18 0 rfl ?_
      refine aw_ifnullN (tgt := 30) d_Fp_again_20 rfl ?_
      refine aw_iconst d_Fp_again_30 ki_m1 ?_
      exact aw_iret rfl rfl ⟨Nat.le_refl _, Nat.le_refl _⟩ d_Fp_again_31
  · refine aw_grd (fun ht2 => ?_)
    refine aw_astore (lo' := [(4, .ref t2), (0, .ref 4), (1, .int a1), (2, .int a2), (3, .int a3)]) d_Fp_again_5 (by decide) rfl ?_
    refine aw_aload_n d_Fp_again_7 1 rfl ?_
    refine aw_getR (t := 29) fl_Fp_57 kd_4 rt_4_9 d_Fp_again_8 ?_
    refine aw_iload_n d_Fp_again_11 2 rfl ?_
    refine aw_V_r (As := [.int a1]) (m_To_boothAt) cv_Fp_139 kd_29 rfl rfl rfl (Nat.le_of_ble_eq_true rfl) ⟨Nat.le_of_ble_eq_true rfl, Nat.le_of_ble_eq_true rfl⟩ ⟨Nat.le_refl _, Nat.le_refl _⟩ d_Fp_again_12 ?_ (fun t12_1 => ?_)
    · refine aw_ifnullN (tgt := 30) d_Fp_again_15 rfl ?_
      refine aw_iconst d_Fp_again_30 ki_m1 ?_
      exact aw_iret rfl rfl ⟨Nat.le_refl _, Nat.le_refl _⟩ d_Fp_again_31
    · refine aw_grd (fun ht12_1 => ?_)
      refine aw_ifnull d_Fp_again_15 ?_
      refine aw_aload d_Fp_again_18 0 rfl ?_
      refine aw_ifnull d_Fp_again_20 ?_
      refine aw_iload_n d_Fp_again_23 4 rfl ?_
      refine aw_S_p (As := [.int a3]) (m_Fp_isSpoiler) cs_Fp_221 rfl rfl (Nat.le_of_ble_eq_true rfl) ⟨Nat.le_of_ble_eq_true rfl, Nat.le_of_ble_eq_true rfl⟩ ⟨Nat.le_refl _, Nat.le_refl _⟩ d_Fp_again_24 (fun y24 => ?_)
      refine aw_if_ne (tgt := 32) d_Fp_again_27 rfl (fun q27 => ?_) (fun q27 => ?_)
      · refine aw_iconst d_Fp_again_30 ki_m1 ?_
        exact aw_iret rfl rfl ⟨Nat.le_refl _, Nat.le_refl _⟩ d_Fp_again_31
      · refine aw_aload_n d_Fp_again_32 1 rfl ?_
        refine aw_getR (t := 22) fl_Fp_36 kd_4 rt_4_6 d_Fp_again_33 ?_
        refine aw_aload_n d_Fp_again_36 1 rfl ?_
        refine aw_getR (t := 29) fl_Fp_57 kd_4 rt_4_9 d_Fp_again_37 ?_
        refine aw_iload_n d_Fp_again_40 2 rfl ?_
        refine aw_aload d_Fp_again_41 0 rfl ?_
        refine aw_aload_n d_Fp_again_43 1 rfl ?_
        refine aw_getR (t := 19) fl_Fp_29 kd_4 rt_4_5 d_Fp_again_44 ?_
        refine aw_V_v (As := [.ref 29, .int a1, .ref t2, .ref 19]) (m_Rp_runAll ht2) cv_Fp_231 kd_22 rfl rfl rfl (Nat.le_of_ble_eq_true rfl) ⟨Nat.le_of_ble_eq_true rfl, Nat.le_of_ble_eq_true rfl⟩ ⟨Nat.le_refl _, Nat.le_refl _⟩ d_Fp_again_47 (fun y47 => ?_)
        refine aw_aload_n d_Fp_again_50 1 rfl ?_
        refine aw_getR (t := 22) fl_Fp_36 kd_4 rt_4_6 d_Fp_again_51 ?_
        refine aw_aload_n d_Fp_again_54 1 rfl ?_
        refine aw_getR (t := 29) fl_Fp_57 kd_4 rt_4_9 d_Fp_again_55 ?_
        refine aw_getR (t := 34) fl_Fp_148 kd_29 rt_29_7 d_Fp_again_58 ?_
        refine aw_iload_n d_Fp_again_61 2 rfl ?_
        refine aw_iload_n d_Fp_again_62 4 rfl ?_
        refine aw_V_p (As := [.ref 34, .int a1, .int a3]) (m_Rp_tally) cv_Fp_235 kd_22 rfl rfl rfl (Nat.le_of_ble_eq_true rfl) ⟨Nat.le_of_ble_eq_true rfl, Nat.le_of_ble_eq_true rfl⟩ ⟨Nat.le_refl _, Nat.le_refl _⟩ d_Fp_again_63 (fun y63 => ?_)
        exact aw_iret rfl rfl ⟨Nat.le_refl _, Nat.le_refl _⟩ d_Fp_again_66
def lp_Rp_tallySpoilt_5 (kx5_42 : Int32 → Int32 → Option Int32) (a2 : Int32) (δ : Dm) : Nat → Int32 → Int32 → Option Int32
  | 0, _, _ => none
  | f + 1, v3_5, v4_5 => (if (gI δ 34 0) ≤ v4_5 then (kx5_42 v3_5 v4_5) else ((f_Di_isOf v4_5 a2 δ).bind (fun y18 => (if y18 = 0 then (lp_Rp_tallySpoilt_5 kx5_42 a2 δ f v3_5 (v4_5 + (1 : Int32))) else ((f_Rp_spoilerOf v4_5 δ).bind (fun y27 => (if y27 = 0 then (lp_Rp_tallySpoilt_5 kx5_42 a2 δ f v3_5 (v4_5 + (1 : Int32))) else (lp_Rp_tallySpoilt_5 kx5_42 a2 δ f (v3_5 + (1 : Int32)) (v4_5 + (1 : Int32))))))))))
set_option maxHeartbeats 4000000 in
set_option maxRecDepth 100000 in
theorem tl_Rp_tallySpoilt_5 {n : Nat} (kx5_42 : Int32 → Int32 → Option Int32) (a2 : Int32) (δ : Dm) (hkx5_42 : ∀ v3_5k v4_5k, AWo k_Rp_tallySpoilt 3 0 0 42 [(0, .ref 22), (1, .ref 34), (2, .int a2), (3, .int v3_5k), (4, .int v4_5k)] [] δ RT n 0 0 (Kp δ RT n) (kx5_42 v3_5k v4_5k)) : ∀ (f : Nat) (v3_5 : Int32) (v4_5 : Int32), AWo k_Rp_tallySpoilt 3 0 0 5 [(0, .ref 22), (1, .ref 34), (2, .int a2), (3, .int v3_5), (4, .int v4_5)] [] δ RT n 0 0 (Kp δ RT n) (lp_Rp_tallySpoilt_5 kx5_42 a2 δ f v3_5 v4_5) := by
  intro f
  induction f with
  | zero => intro _ _; exact aw_none
  | succ f ih =>
    intro v3_5 v4_5
    rw [lp_Rp_tallySpoilt_5]
    refine aw_iload d_Rp_tallySpoilt_5 4 rfl ?_
    refine aw_aload_n d_Rp_tallySpoilt_7 1 rfl ?_
    refine aw_getI fl_Rp_28 kd_34 d_Rp_tallySpoilt_8 ?_
    refine aw_icmp_ge (tgt := 42) d_Rp_tallySpoilt_11 rfl (fun q11 => ?_) (fun q11 => ?_)
    · refine aw_sub (lo' := [(0, .ref 22), (1, .ref 34), (2, .int a2), (3, .int v3_5), (4, .int v4_5)]) [0, 1, 2, 3, 4] rfl ?_
      exact hkx5_42 _ _
    · refine aw_aload_n d_Rp_tallySpoilt_14 1 rfl ?_
      refine aw_iload d_Rp_tallySpoilt_15 4 rfl ?_
      refine aw_iload_n d_Rp_tallySpoilt_17 2 rfl ?_
      refine aw_V_p (As := [.int v4_5, .int a2]) (m_Di_isOf) cv_Rp_34 kd_34 rfl rfl rfl (Nat.le_of_ble_eq_true rfl) ⟨Nat.le_of_ble_eq_true rfl, Nat.le_of_ble_eq_true rfl⟩ ⟨Nat.le_refl _, Nat.le_refl _⟩ d_Rp_tallySpoilt_18 (fun y18 => ?_)
      refine aw_if_eq (tgt := 36) d_Rp_tallySpoilt_21 rfl (fun q21 => ?_) (fun q21 => ?_)
      · refine aw_iinc (v := (v4_5 + (1 : Int32))) (lo' := [(4, .int (v4_5 + (1 : Int32))), (0, .ref 22), (1, .ref 34), (2, .int a2), (3, .int v3_5)]) d_Rp_tallySpoilt_36 4 rfl (by rw [show Int32.ofInt (1) = (1 : Int32) from by decide]) (by decide) rfl ?_
        refine aw_goto (tgt := 5) d_Rp_tallySpoilt_39 rfl ?_
        refine aw_sub (lo' := [(0, .ref 22), (1, .ref 34), (2, .int a2), (3, .int v3_5), (4, .int (v4_5 + (1 : Int32)))]) [1, 2, 3, 4, 0] rfl ?_
        exact ih _ _
      · refine aw_aload_n d_Rp_tallySpoilt_24 0 rfl ?_
        refine aw_iload d_Rp_tallySpoilt_25 4 rfl ?_
        refine aw_V_p (As := [.int v4_5]) (m_Rp_spoilerOf) cv_Rp_121 kd_22 rfl rfl rfl (Nat.le_of_ble_eq_true rfl) ⟨Nat.le_of_ble_eq_true rfl, Nat.le_of_ble_eq_true rfl⟩ ⟨Nat.le_refl _, Nat.le_refl _⟩ d_Rp_tallySpoilt_27 (fun y27 => ?_)
        refine aw_if_eq (tgt := 36) d_Rp_tallySpoilt_30 rfl (fun q30 => ?_) (fun q30 => ?_)
        · refine aw_iinc (v := (v4_5 + (1 : Int32))) (lo' := [(4, .int (v4_5 + (1 : Int32))), (0, .ref 22), (1, .ref 34), (2, .int a2), (3, .int v3_5)]) d_Rp_tallySpoilt_36 4 rfl (by rw [show Int32.ofInt (1) = (1 : Int32) from by decide]) (by decide) rfl ?_
          refine aw_goto (tgt := 5) d_Rp_tallySpoilt_39 rfl ?_
          refine aw_sub (lo' := [(0, .ref 22), (1, .ref 34), (2, .int a2), (3, .int v3_5), (4, .int (v4_5 + (1 : Int32)))]) [1, 2, 3, 4, 0] rfl ?_
          exact ih _ _
        · refine aw_iinc (v := (v3_5 + (1 : Int32))) (lo' := [(3, .int (v3_5 + (1 : Int32))), (0, .ref 22), (1, .ref 34), (2, .int a2), (4, .int v4_5)]) d_Rp_tallySpoilt_33 3 rfl (by rw [show Int32.ofInt (1) = (1 : Int32) from by decide]) (by decide) rfl ?_
          refine aw_iinc (v := (v4_5 + (1 : Int32))) (lo' := [(4, .int (v4_5 + (1 : Int32))), (3, .int (v3_5 + (1 : Int32))), (0, .ref 22), (1, .ref 34), (2, .int a2)]) d_Rp_tallySpoilt_36 4 rfl (by rw [show Int32.ofInt (1) = (1 : Int32) from by decide]) (by decide) rfl ?_
          refine aw_goto (tgt := 5) d_Rp_tallySpoilt_39 rfl ?_
          refine aw_sub (lo' := [(0, .ref 22), (1, .ref 34), (2, .int a2), (3, .int (v3_5 + (1 : Int32))), (4, .int (v4_5 + (1 : Int32)))]) [2, 3, 4, 1, 0] rfl ?_
          exact ih _ _
def f_Rp_tallySpoilt (a2 : Int32) (δ : Dm) : Option Int32 := (lp_Rp_tallySpoilt_5 (fun v3_5x v4_5x => (some v3_5x)) a2 δ FU (0 : Int32) (0 : Int32))
set_option maxHeartbeats 4000000 in
set_option maxRecDepth 100000 in
theorem m_Rp_tallySpoilt {a2 : Int32} {δ : Dm} {n : Nat} : ∀ x, f_Rp_tallySpoilt a2 δ = some x → AMet k_Rp_tallySpoilt 3 0 0 [.ref 22, .ref 34, .int a2] δ RT n (Kp δ RT n x) := by
  refine aw_start (lo := [(0, .ref 22), (1, .ref 34), (2, .int a2)]) mok_Rp_tallySpoilt rfl (Nat.le_of_ble_eq_true rfl) ?_
  unfold f_Rp_tallySpoilt
  refine aw_iconst d_Rp_tallySpoilt_0 ki_0 ?_
  refine aw_istore_n (lo' := [(3, .int (0 : Int32)), (0, .ref 22), (1, .ref 34), (2, .int a2)]) d_Rp_tallySpoilt_1 rfl (by decide) rfl ?_
  refine aw_iconst d_Rp_tallySpoilt_2 ki_0 ?_
  refine aw_istore (lo' := [(4, .int (0 : Int32)), (3, .int (0 : Int32)), (0, .ref 22), (1, .ref 34), (2, .int a2)]) d_Rp_tallySpoilt_3 (by decide) rfl ?_
  refine aw_sub (lo' := [(0, .ref 22), (1, .ref 34), (2, .int a2), (3, .int (0 : Int32)), (4, .int (0 : Int32))]) [2, 3, 4, 1, 0] rfl ?_
  refine tl_Rp_tallySpoilt_5 _ _ _ (fun v3_5x v4_5x => ?_) FU _ _
  · refine aw_iload_n d_Rp_tallySpoilt_42 3 rfl ?_
    exact aw_iret rfl rfl ⟨Nat.le_refl _, Nat.le_refl _⟩ d_Rp_tallySpoilt_43
def f_Fp_with (a1 : Int32) (a2 : Int32) (a3 : Int32) (δ : Dm) : Option (Int32 × Dm) := ((f_To_boothAt a1 δ).bind (fun o5 => ocs o5 (some ((-1 : Int32), δ)) (fun t5 => if isB t5 = true then ((f_Fp_isBath a2 δ).bind (fun y16 => (if y16 = 0 then (some ((-1 : Int32), δ)) else ((f_Fp_within a3 (gI δ t5 3) (gI δ 29 0) δ).bind (fun y35 => (if y35 = 0 then (some ((-1 : Int32), δ)) else ((f_Fp_lawAt (gI δ t5 2) δ).bind (fun o49 => ocs o49 (some ((-1 : Int32), δ)) (fun t49 => if isL t49 = true then ((f_Rp_runAll a1 t49 δ).bind (fun y76 => ((f_Rp_runBath a1 t49 a2 a3 y76).bind (fun y96 => ((f_Rp_tallySpoilt a1 y96).bind (fun y111 => (some (y111, y96)))))))) else none))))))))) else none)))
set_option maxHeartbeats 4000000 in
set_option maxRecDepth 100000 in
theorem m_Fp_with {a1 : Int32} {a2 : Int32} {a3 : Int32} {δ : Dm} {n : Nat} : ∀ x, f_Fp_with a1 a2 a3 δ = some x → AMet k_Fp_with 7 0 0 [.ref 4, .int a1, .int a2, .int a3] δ RT n (Km RT n x) := by
  refine aw_start (lo := [(0, .ref 4), (1, .int a1), (2, .int a2), (3, .int a3)]) mok_Fp_with rfl (Nat.le_of_ble_eq_true rfl) ?_
  unfold f_Fp_with
  refine aw_aload_n d_Fp_with_0 0 rfl ?_
  refine aw_getR (t := 29) fl_Fp_57 kd_4 rt_4_9 d_Fp_with_1 ?_
  refine aw_iload_n d_Fp_with_4 1 rfl ?_
  refine aw_V_r (As := [.int a1]) (m_To_boothAt) cv_Fp_139 kd_29 rfl rfl rfl (Nat.le_of_ble_eq_true rfl) ⟨Nat.le_of_ble_eq_true rfl, Nat.le_of_ble_eq_true rfl⟩ ⟨Nat.le_refl _, Nat.le_refl _⟩ d_Fp_with_5 ?_ (fun t5 => ?_)
  · refine aw_astoreN (lo' := [(4, .null), (0, .ref 4), (1, .int a1), (2, .int a2), (3, .int a3)]) d_Fp_with_8 (by decide) rfl ?_
    refine aw_aloadN d_Fp_with_10 0 rfl ?_
    refine aw_ifnullN (tgt := 41) d_Fp_with_12 rfl ?_
    refine aw_iconst d_Fp_with_41 ki_m1 ?_
    exact aw_iret rfl rfl ⟨Nat.le_refl _, Nat.le_refl _⟩ d_Fp_with_42
  · refine aw_grd (fun ht5 => ?_)
    refine aw_astore (lo' := [(4, .ref t5), (0, .ref 4), (1, .int a1), (2, .int a2), (3, .int a3)]) d_Fp_with_8 (by decide) rfl ?_
    refine aw_aload d_Fp_with_10 0 rfl ?_
    refine aw_ifnull d_Fp_with_12 ?_
    refine aw_iload_n d_Fp_with_15 3 rfl ?_
    refine aw_S_p (As := [.int a2]) (m_Fp_isBath) cs_Fp_203 rfl rfl (Nat.le_of_ble_eq_true rfl) ⟨Nat.le_of_ble_eq_true rfl, Nat.le_of_ble_eq_true rfl⟩ ⟨Nat.le_refl _, Nat.le_refl _⟩ d_Fp_with_16 (fun y16 => ?_)
    refine aw_if_eq (tgt := 41) d_Fp_with_19 rfl (fun q19 => ?_) (fun q19 => ?_)
    · refine aw_iconst d_Fp_with_41 ki_m1 ?_
      exact aw_iret rfl rfl ⟨Nat.le_refl _, Nat.le_refl _⟩ d_Fp_with_42
    · refine aw_iload_n d_Fp_with_22 4 rfl ?_
      refine aw_aload d_Fp_with_23 0 rfl ?_
      refine aw_getI fl_Fp_239 (fx_isBK ht5 0 (by decide)) d_Fp_with_25 ?_
      refine aw_aload_n d_Fp_with_28 1 rfl ?_
      refine aw_getR (t := 29) fl_Fp_57 kd_4 rt_4_9 d_Fp_with_29 ?_
      refine aw_getI fl_Fp_130 kd_29 d_Fp_with_32 ?_
      refine aw_S_p (As := [.int a3, .int (gI δ t5 3), .int (gI δ 29 0)]) (m_Fp_within) cs_Fp_70 rfl rfl (Nat.le_of_ble_eq_true rfl) ⟨Nat.le_of_ble_eq_true rfl, Nat.le_of_ble_eq_true rfl⟩ ⟨Nat.le_refl _, Nat.le_refl _⟩ d_Fp_with_35 (fun y35 => ?_)
      refine aw_if_ne (tgt := 43) d_Fp_with_38 rfl (fun q38 => ?_) (fun q38 => ?_)
      · refine aw_iconst d_Fp_with_41 ki_m1 ?_
        exact aw_iret rfl rfl ⟨Nat.le_refl _, Nat.le_refl _⟩ d_Fp_with_42
      · refine aw_aload_n d_Fp_with_43 1 rfl ?_
        refine aw_aload d_Fp_with_44 0 rfl ?_
        refine aw_getI fl_Fp_157 (fx_isBK ht5 0 (by decide)) d_Fp_with_46 ?_
        refine aw_V_r (As := [.int (gI δ t5 2)]) (m_Fp_lawAt) cv_Fp_126 kd_4 rfl rfl rfl (Nat.le_of_ble_eq_true rfl) ⟨Nat.le_of_ble_eq_true rfl, Nat.le_of_ble_eq_true rfl⟩ ⟨Nat.le_refl _, Nat.le_refl _⟩ d_Fp_with_49 ?_ (fun t49 => ?_)
        · refine aw_astoreN (lo' := [(5, .null), (4, .ref t5), (0, .ref 4), (1, .int a1), (2, .int a2), (3, .int a3)]) d_Fp_with_52 (by decide) rfl ?_
          refine aw_aloadN d_Fp_with_54 0 rfl ?_
          refine aw_ifnonnullN d_Fp_with_56 ?_
          refine aw_iconst d_Fp_with_59 ki_m1 ?_
          exact aw_iret rfl rfl ⟨Nat.le_refl _, Nat.le_refl _⟩ d_Fp_with_60
        · refine aw_grd (fun ht49 => ?_)
          refine aw_astore (lo' := [(5, .ref t49), (4, .ref t5), (0, .ref 4), (1, .int a1), (2, .int a2), (3, .int a3)]) d_Fp_with_52 (by decide) rfl ?_
          refine aw_aload d_Fp_with_54 0 rfl ?_
          refine aw_ifnonnull (tgt := 61) d_Fp_with_56 rfl ?_
          refine aw_aload_n d_Fp_with_61 2 rfl ?_
          refine aw_getR (t := 22) fl_Fp_36 kd_4 rt_4_6 d_Fp_with_62 ?_
          refine aw_aload_n d_Fp_with_65 2 rfl ?_
          refine aw_getR (t := 29) fl_Fp_57 kd_4 rt_4_9 d_Fp_with_66 ?_
          refine aw_iload_n d_Fp_with_69 3 rfl ?_
          refine aw_aload d_Fp_with_70 0 rfl ?_
          refine aw_aload_n d_Fp_with_72 2 rfl ?_
          refine aw_getR (t := 19) fl_Fp_29 kd_4 rt_4_5 d_Fp_with_73 ?_
          refine aw_V_v (As := [.ref 29, .int a1, .ref t49, .ref 19]) (m_Rp_runAll ht49) cv_Fp_231 kd_22 rfl rfl rfl (Nat.le_of_ble_eq_true rfl) ⟨Nat.le_of_ble_eq_true rfl, Nat.le_of_ble_eq_true rfl⟩ ⟨Nat.le_refl _, Nat.le_refl _⟩ d_Fp_with_76 (fun y76 => ?_)
          refine aw_aload_n d_Fp_with_79 2 rfl ?_
          refine aw_getR (t := 22) fl_Fp_36 kd_4 rt_4_6 d_Fp_with_80 ?_
          refine aw_aload_n d_Fp_with_83 2 rfl ?_
          refine aw_getR (t := 29) fl_Fp_57 kd_4 rt_4_9 d_Fp_with_84 ?_
          refine aw_iload_n d_Fp_with_87 3 rfl ?_
          refine aw_aload d_Fp_with_88 0 rfl ?_
          refine aw_iload_n d_Fp_with_90 4 rfl ?_
          refine aw_iload_n d_Fp_with_91 5 rfl ?_
          refine aw_aload_n d_Fp_with_92 2 rfl ?_
          refine aw_getR (t := 19) fl_Fp_29 kd_4 rt_4_5 d_Fp_with_93 ?_
          refine aw_V_v (As := [.ref 29, .int a1, .ref t49, .int a2, .int a3, .ref 19]) (m_Rp_runBath ht49) cv_Fp_242 kd_22 rfl rfl rfl (Nat.le_of_ble_eq_true rfl) ⟨Nat.le_of_ble_eq_true rfl, Nat.le_of_ble_eq_true rfl⟩ ⟨Nat.le_refl _, Nat.le_refl _⟩ d_Fp_with_96 (fun y96 => ?_)
          refine aw_aload_n d_Fp_with_99 2 rfl ?_
          refine aw_getR (t := 22) fl_Fp_36 kd_4 rt_4_6 d_Fp_with_100 ?_
          refine aw_aload_n d_Fp_with_103 2 rfl ?_
          refine aw_getR (t := 29) fl_Fp_57 kd_4 rt_4_9 d_Fp_with_104 ?_
          refine aw_getR (t := 34) fl_Fp_148 kd_29 rt_29_7 d_Fp_with_107 ?_
          refine aw_iload_n d_Fp_with_110 3 rfl ?_
          refine aw_V_p (As := [.ref 34, .int a1]) (m_Rp_tallySpoilt) cv_Fp_246 kd_22 rfl rfl rfl (Nat.le_of_ble_eq_true rfl) ⟨Nat.le_of_ble_eq_true rfl, Nat.le_of_ble_eq_true rfl⟩ ⟨Nat.le_refl _, Nat.le_refl _⟩ d_Fp_with_111 (fun y111 => ?_)
          exact aw_iret rfl rfl ⟨Nat.le_refl _, Nat.le_refl _⟩ d_Fp_with_114
def lp_Fp_finest_74 (kx74_142 : Int32 → Int32 → Int32 → Dm → Option (Int32 × Dm)) (a1 : Int32) (a2 : Int32) (t5 : Nat) (t27 : Nat) : Nat → Int32 → Int32 → Int32 → Dm → Option (Int32 × Dm)
  | 0, _, _, _, _ => none
  | f + 1, v5_74, v6_74, v7_74, δ74 => (if v7_74 < (gI δ74 t5 3) then (kx74_142 v5_74 v6_74 v7_74 δ74) else ((f_Rp_runBath a1 t27 a2 v7_74 δ74).bind (fun y101 => ((f_Rp_tallySpoilt a1 y101).bind (fun y116 => (if v6_74 < y116 then (lp_Fp_finest_74 kx74_142 a1 a2 t5 t27 f v5_74 v6_74 (v7_74 + (-1 : Int32)) y101) else (lp_Fp_finest_74 kx74_142 a1 a2 t5 t27 f v7_74 y116 (v7_74 + (-1 : Int32)) y101)))))))
set_option maxHeartbeats 4000000 in
set_option maxRecDepth 100000 in
theorem tl_Fp_finest_74 {n : Nat} (kx74_142 : Int32 → Int32 → Int32 → Dm → Option (Int32 × Dm)) (a1 : Int32) (a2 : Int32) (t5 : Nat) (t27 : Nat) (ht5 : isB t5 = true) (ht27 : isL t27 = true) (hkx74_142 : ∀ v5_74k v6_74k v7_74k δ74k, AWo k_Fp_finest 7 0 0 142 [(0, .ref 4), (1, .int a1), (2, .int a2), (3, .ref t5), (4, .ref t27), (5, .int v5_74k), (6, .int v6_74k), (7, .int v7_74k)] [] δ74k RT n 0 0 (Km RT n) (kx74_142 v5_74k v6_74k v7_74k δ74k)) : ∀ (f : Nat) (v5_74 : Int32) (v6_74 : Int32) (v7_74 : Int32) (δ74 : Dm), AWo k_Fp_finest 7 0 0 74 [(0, .ref 4), (1, .int a1), (2, .int a2), (3, .ref t5), (4, .ref t27), (5, .int v5_74), (6, .int v6_74), (7, .int v7_74)] [] δ74 RT n 0 0 (Km RT n) (lp_Fp_finest_74 kx74_142 a1 a2 t5 t27 f v5_74 v6_74 v7_74 δ74) := by
  intro f
  induction f with
  | zero => intro _ _ _ _; exact aw_none
  | succ f ih =>
    intro v5_74 v6_74 v7_74 δ74
    rw [lp_Fp_finest_74]
    refine aw_iload d_Fp_finest_74 7 rfl ?_
    refine aw_aload_n d_Fp_finest_76 3 rfl ?_
    refine aw_getI fl_Fp_239 (fx_isBK ht5 0 (by decide)) d_Fp_finest_77 ?_
    refine aw_icmp_lt (tgt := 142) d_Fp_finest_80 rfl (fun q80 => ?_) (fun q80 => ?_)
    · refine aw_sub (lo' := [(0, .ref 4), (1, .int a1), (2, .int a2), (3, .ref t5), (4, .ref t27), (5, .int v5_74), (6, .int v6_74), (7, .int v7_74)]) [0, 1, 2, 3, 4, 5, 6, 7] rfl ?_
      exact hkx74_142 _ _ _ _
    · refine aw_aload_n d_Fp_finest_83 0 rfl ?_
      refine aw_getR (t := 22) fl_Fp_36 kd_4 rt_4_6 d_Fp_finest_84 ?_
      refine aw_aload_n d_Fp_finest_87 0 rfl ?_
      refine aw_getR (t := 29) fl_Fp_57 kd_4 rt_4_9 d_Fp_finest_88 ?_
      refine aw_iload_n d_Fp_finest_91 1 rfl ?_
      refine aw_aload d_Fp_finest_92 4 rfl ?_
      refine aw_iload_n d_Fp_finest_94 2 rfl ?_
      refine aw_iload d_Fp_finest_95 7 rfl ?_
      refine aw_aload_n d_Fp_finest_97 0 rfl ?_
      refine aw_getR (t := 19) fl_Fp_29 kd_4 rt_4_5 d_Fp_finest_98 ?_
      refine aw_V_v (As := [.ref 29, .int a1, .ref t27, .int a2, .int v7_74, .ref 19]) (m_Rp_runBath ht27) cv_Fp_242 kd_22 rfl rfl rfl (Nat.le_of_ble_eq_true rfl) ⟨Nat.le_of_ble_eq_true rfl, Nat.le_of_ble_eq_true rfl⟩ ⟨Nat.le_refl _, Nat.le_refl _⟩ d_Fp_finest_101 (fun y101 => ?_)
      refine aw_aload_n d_Fp_finest_104 0 rfl ?_
      refine aw_getR (t := 22) fl_Fp_36 kd_4 rt_4_6 d_Fp_finest_105 ?_
      refine aw_aload_n d_Fp_finest_108 0 rfl ?_
      refine aw_getR (t := 29) fl_Fp_57 kd_4 rt_4_9 d_Fp_finest_109 ?_
      refine aw_getR (t := 34) fl_Fp_148 kd_29 rt_29_7 d_Fp_finest_112 ?_
      refine aw_iload_n d_Fp_finest_115 1 rfl ?_
      refine aw_V_p (As := [.ref 34, .int a1]) (m_Rp_tallySpoilt) cv_Fp_246 kd_22 rfl rfl rfl (Nat.le_of_ble_eq_true rfl) ⟨Nat.le_of_ble_eq_true rfl, Nat.le_of_ble_eq_true rfl⟩ ⟨Nat.le_refl _, Nat.le_refl _⟩ d_Fp_finest_116 (fun y116 => ?_)
      refine aw_istore (lo' := [(8, .int y116), (0, .ref 4), (1, .int a1), (2, .int a2), (3, .ref t5), (4, .ref t27), (5, .int v5_74), (6, .int v6_74), (7, .int v7_74)]) d_Fp_finest_119 (by decide) rfl ?_
      refine aw_iload d_Fp_finest_121 0 rfl ?_
      refine aw_iload d_Fp_finest_123 7 rfl ?_
      refine aw_icmp_gt (tgt := 136) d_Fp_finest_125 rfl (fun q125 => ?_) (fun q125 => ?_)
      · refine aw_iinc (v := (v7_74 + (-1 : Int32))) (lo' := [(7, .int (v7_74 + (-1 : Int32))), (8, .int y116), (0, .ref 4), (1, .int a1), (2, .int a2), (3, .ref t5), (4, .ref t27), (5, .int v5_74), (6, .int v6_74)]) d_Fp_finest_136 8 rfl (by rw [show Int32.ofInt (-1) = (-1 : Int32) from by decide]) (by decide) rfl ?_
        refine aw_goto (tgt := 74) d_Fp_finest_139 rfl ?_
        refine aw_sub (lo' := [(0, .ref 4), (1, .int a1), (2, .int a2), (3, .ref t5), (4, .ref t27), (5, .int v5_74), (6, .int v6_74), (7, .int (v7_74 + (-1 : Int32)))]) [2, 3, 4, 5, 6, 7, 8, 0] rfl ?_
        exact ih _ _ _ _
      · refine aw_iload d_Fp_finest_128 0 rfl ?_
        refine aw_istore (lo' := [(6, .int y116), (8, .int y116), (0, .ref 4), (1, .int a1), (2, .int a2), (3, .ref t5), (4, .ref t27), (5, .int v5_74), (7, .int v7_74)]) d_Fp_finest_130 (by decide) rfl ?_
        refine aw_iload d_Fp_finest_132 8 rfl ?_
        refine aw_istore (lo' := [(5, .int v7_74), (6, .int y116), (8, .int y116), (0, .ref 4), (1, .int a1), (2, .int a2), (3, .ref t5), (4, .ref t27), (7, .int v7_74)]) d_Fp_finest_134 (by decide) rfl ?_
        refine aw_iinc (v := (v7_74 + (-1 : Int32))) (lo' := [(7, .int (v7_74 + (-1 : Int32))), (5, .int v7_74), (6, .int y116), (8, .int y116), (0, .ref 4), (1, .int a1), (2, .int a2), (3, .ref t5), (4, .ref t27)]) d_Fp_finest_136 8 rfl (by rw [show Int32.ofInt (-1) = (-1 : Int32) from by decide]) (by decide) rfl ?_
        refine aw_goto (tgt := 74) d_Fp_finest_139 rfl ?_
        refine aw_sub (lo' := [(0, .ref 4), (1, .int a1), (2, .int a2), (3, .ref t5), (4, .ref t27), (5, .int v7_74), (6, .int y116), (7, .int (v7_74 + (-1 : Int32)))]) [4, 5, 6, 7, 8, 1, 2, 0] rfl ?_
        exact ih _ _ _ _
def f_Fp_finest (a1 : Int32) (a2 : Int32) (δ : Dm) : Option (Int32 × Dm) := ((f_To_boothAt a1 δ).bind (fun o5 => ocs o5 (some ((-1 : Int32), δ)) (fun t5 => if isB t5 = true then ((f_Fp_isBath a2 δ).bind (fun y14 => (if y14 = 0 then (some ((-1 : Int32), δ)) else ((f_Fp_lawAt (gI δ t5 2) δ).bind (fun o27 => ocs o27 (some ((-1 : Int32), δ)) (fun t27 => if isL t27 = true then ((f_Rp_runAll a1 t27 δ).bind (fun y54 => (bnd (gI y54 29 0) (fun v72 => (lp_Fp_finest_74 (fun v5_74x v6_74x v7_74x δ74x => (some (v5_74x, δ74x))) a1 a2 t5 t27 FU (-1 : Int32) (401 : Int32) v72 y54))))) else none)))))) else none)))
set_option maxHeartbeats 4000000 in
set_option maxRecDepth 100000 in
theorem m_Fp_finest {a1 : Int32} {a2 : Int32} {δ : Dm} {n : Nat} : ∀ x, f_Fp_finest a1 a2 δ = some x → AMet k_Fp_finest 7 0 0 [.ref 4, .int a1, .int a2] δ RT n (Km RT n x) := by
  refine aw_start (lo := [(0, .ref 4), (1, .int a1), (2, .int a2)]) mok_Fp_finest rfl (Nat.le_of_ble_eq_true rfl) ?_
  unfold f_Fp_finest
  refine aw_aload_n d_Fp_finest_0 0 rfl ?_
  refine aw_getR (t := 29) fl_Fp_57 kd_4 rt_4_9 d_Fp_finest_1 ?_
  refine aw_iload_n d_Fp_finest_4 1 rfl ?_
  refine aw_V_r (As := [.int a1]) (m_To_boothAt) cv_Fp_139 kd_29 rfl rfl rfl (Nat.le_of_ble_eq_true rfl) ⟨Nat.le_of_ble_eq_true rfl, Nat.le_of_ble_eq_true rfl⟩ ⟨Nat.le_refl _, Nat.le_refl _⟩ d_Fp_finest_5 ?_ (fun t5 => ?_)
  · refine aw_astoreN_n (lo' := [(3, .null), (0, .ref 4), (1, .int a1), (2, .int a2)]) d_Fp_finest_8 rfl (by decide) rfl ?_
    refine aw_aloadN_n d_Fp_finest_9 0 rfl ?_
    refine aw_ifnullN (tgt := 20) d_Fp_finest_10 rfl ?_
    refine aw_iconst d_Fp_finest_20 ki_m1 ?_
    exact aw_iret rfl rfl ⟨Nat.le_refl _, Nat.le_refl _⟩ d_Fp_finest_21
  · refine aw_grd (fun ht5 => ?_)
    refine aw_astore_n (lo' := [(3, .ref t5), (0, .ref 4), (1, .int a1), (2, .int a2)]) d_Fp_finest_8 rfl (by decide) rfl ?_
    refine aw_aload_n d_Fp_finest_9 0 rfl ?_
    refine aw_ifnull d_Fp_finest_10 ?_
    refine aw_iload_n d_Fp_finest_13 3 rfl ?_
    refine aw_S_p (As := [.int a2]) (m_Fp_isBath) cs_Fp_203 rfl rfl (Nat.le_of_ble_eq_true rfl) ⟨Nat.le_of_ble_eq_true rfl, Nat.le_of_ble_eq_true rfl⟩ ⟨Nat.le_refl _, Nat.le_refl _⟩ d_Fp_finest_14 (fun y14 => ?_)
    refine aw_if_ne (tgt := 22) d_Fp_finest_17 rfl (fun q17 => ?_) (fun q17 => ?_)
    · refine aw_iconst d_Fp_finest_20 ki_m1 ?_
      exact aw_iret rfl rfl ⟨Nat.le_refl _, Nat.le_refl _⟩ d_Fp_finest_21
    · refine aw_aload_n d_Fp_finest_22 1 rfl ?_
      refine aw_aload_n d_Fp_finest_23 0 rfl ?_
      refine aw_getI fl_Fp_157 (fx_isBK ht5 0 (by decide)) d_Fp_finest_24 ?_
      refine aw_V_r (As := [.int (gI δ t5 2)]) (m_Fp_lawAt) cv_Fp_126 kd_4 rfl rfl rfl (Nat.le_of_ble_eq_true rfl) ⟨Nat.le_of_ble_eq_true rfl, Nat.le_of_ble_eq_true rfl⟩ ⟨Nat.le_refl _, Nat.le_refl _⟩ d_Fp_finest_27 ?_ (fun t27 => ?_)
      · refine aw_astoreN (lo' := [(4, .null), (3, .ref t5), (0, .ref 4), (1, .int a1), (2, .int a2)]) d_Fp_finest_30 (by decide) rfl ?_
        refine aw_aloadN d_Fp_finest_32 0 rfl ?_
        refine aw_ifnonnullN d_Fp_finest_34 ?_
        refine aw_iconst d_Fp_finest_37 ki_m1 ?_
        exact aw_iret rfl rfl ⟨Nat.le_refl _, Nat.le_refl _⟩ d_Fp_finest_38
      · refine aw_grd (fun ht27 => ?_)
        refine aw_astore (lo' := [(4, .ref t27), (3, .ref t5), (0, .ref 4), (1, .int a1), (2, .int a2)]) d_Fp_finest_30 (by decide) rfl ?_
        refine aw_aload d_Fp_finest_32 0 rfl ?_
        refine aw_ifnonnull (tgt := 39) d_Fp_finest_34 rfl ?_
        refine aw_aload_n d_Fp_finest_39 2 rfl ?_
        refine aw_getR (t := 22) fl_Fp_36 kd_4 rt_4_6 d_Fp_finest_40 ?_
        refine aw_aload_n d_Fp_finest_43 2 rfl ?_
        refine aw_getR (t := 29) fl_Fp_57 kd_4 rt_4_9 d_Fp_finest_44 ?_
        refine aw_iload_n d_Fp_finest_47 3 rfl ?_
        refine aw_aload d_Fp_finest_48 0 rfl ?_
        refine aw_aload_n d_Fp_finest_50 2 rfl ?_
        refine aw_getR (t := 19) fl_Fp_29 kd_4 rt_4_5 d_Fp_finest_51 ?_
        refine aw_V_v (As := [.ref 29, .int a1, .ref t27, .ref 19]) (m_Rp_runAll ht27) cv_Fp_231 kd_22 rfl rfl rfl (Nat.le_of_ble_eq_true rfl) ⟨Nat.le_of_ble_eq_true rfl, Nat.le_of_ble_eq_true rfl⟩ ⟨Nat.le_refl _, Nat.le_refl _⟩ d_Fp_finest_54 (fun y54 => ?_)
        refine aw_iconst d_Fp_finest_57 ki_m1 ?_
        refine aw_istore (lo' := [(5, .int (-1 : Int32)), (4, .ref t27), (3, .ref t5), (0, .ref 4), (1, .int a1), (2, .int a2)]) d_Fp_finest_58 (by decide) rfl ?_
        refine aw_sipush d_Fp_finest_60 ks_401 ?_
        refine aw_istore (lo' := [(6, .int (401 : Int32)), (5, .int (-1 : Int32)), (4, .ref t27), (3, .ref t5), (0, .ref 4), (1, .int a1), (2, .int a2)]) d_Fp_finest_63 (by decide) rfl ?_
        refine aw_aload_n d_Fp_finest_65 4 rfl ?_
        refine aw_getR (t := 29) fl_Fp_57 kd_4 rt_4_9 d_Fp_finest_66 ?_
        refine aw_getI fl_Fp_130 kd_29 d_Fp_finest_69 ?_
        refine aw_bI (fun v72 => ?_)
        refine aw_istore (lo' := [(7, .int v72), (6, .int (401 : Int32)), (5, .int (-1 : Int32)), (4, .ref t27), (3, .ref t5), (0, .ref 4), (1, .int a1), (2, .int a2)]) d_Fp_finest_72 (by decide) rfl ?_
        refine aw_sub (lo' := [(0, .ref 4), (1, .int a1), (2, .int a2), (3, .ref t5), (4, .ref t27), (5, .int (-1 : Int32)), (6, .int (401 : Int32)), (7, .int v72)]) [5, 6, 7, 4, 3, 2, 1, 0] rfl ?_
        refine tl_Fp_finest_74 _ _ _ _ _ ht5 ht27 (fun v5_74x v6_74x v7_74x δ74x => ?_) FU _ _ _ _
        · refine aw_iload d_Fp_finest_142 5 rfl ?_
          exact aw_iret rfl rfl ⟨Nat.le_refl _, Nat.le_refl _⟩ d_Fp_finest_144
def f_Po_addReading (a1 : Int32) (a2 : Int32) (a3 : Int32) (a4 : Int32) (a5 : Int32) (δ : Dm) : Option Dm := ((f_Fp_put 46 (gI δ 45 0) a1 δ).bind (fun y9 => ((f_Fp_put 47 (gI y9 45 0) a2 y9).bind (fun y21 => ((f_Fp_put 48 (gI y21 45 0) a3 y21).bind (fun y33 => ((f_Fp_put 49 (gI y33 45 0) a4 y33).bind (fun y46 => ((f_Fp_put 50 (gI y46 45 0) a5 y46).bind (fun y59 => (bnd (sI y59 45 0 ((gI y59 45 0) + (1 : Int32))) (fun δ_69 => (some δ_69)))))))))))))
set_option maxHeartbeats 4000000 in
set_option maxRecDepth 100000 in
theorem m_Po_addReading {a1 : Int32} {a2 : Int32} {a3 : Int32} {a4 : Int32} {a5 : Int32} {δ : Dm} {n : Nat} : ∀ x, f_Po_addReading a1 a2 a3 a4 a5 δ = some x → AMet k_Po_addReading 2 0 0 [.ref 45, .int a1, .int a2, .int a3, .int a4, .int a5] δ RT n (Kv RT n x) := by
  refine aw_start (lo := [(0, .ref 45), (1, .int a1), (2, .int a2), (3, .int a3), (4, .int a4), (5, .int a5)]) mok_Po_addReading rfl (Nat.le_of_ble_eq_true rfl) ?_
  unfold f_Po_addReading
  refine aw_aload_n d_Po_addReading_0 0 rfl ?_
  refine aw_getR (t := 46) fl_Po_9 kd_45 rt_45_2 d_Po_addReading_1 ?_
  refine aw_aload_n d_Po_addReading_4 0 rfl ?_
  refine aw_getI fl_Po_36 kd_45 d_Po_addReading_5 ?_
  refine aw_iload_n d_Po_addReading_8 1 rfl ?_
  refine aw_SN_v (As := [.ref 46, .int (gI δ 45 0), .int a1]) (m_Fp_put (congrArg Prod.fst kd_46)) cs_Po_47 rfl rfl (Nat.le_of_ble_eq_true rfl) ⟨Nat.le_of_ble_eq_true rfl, Nat.le_of_ble_eq_true rfl⟩ ⟨Nat.le_refl _, Nat.le_refl _⟩ d_Po_addReading_9 (fun y9 => ?_)
  refine aw_aload_n d_Po_addReading_12 0 rfl ?_
  refine aw_getR (t := 47) fl_Po_15 kd_45 rt_45_3 d_Po_addReading_13 ?_
  refine aw_aload_n d_Po_addReading_16 0 rfl ?_
  refine aw_getI fl_Po_36 kd_45 d_Po_addReading_17 ?_
  refine aw_iload_n d_Po_addReading_20 2 rfl ?_
  refine aw_SN_v (As := [.ref 47, .int (gI y9 45 0), .int a2]) (m_Fp_put (congrArg Prod.fst kd_47)) cs_Po_47 rfl rfl (Nat.le_of_ble_eq_true rfl) ⟨Nat.le_of_ble_eq_true rfl, Nat.le_of_ble_eq_true rfl⟩ ⟨Nat.le_refl _, Nat.le_refl _⟩ d_Po_addReading_21 (fun y21 => ?_)
  refine aw_aload_n d_Po_addReading_24 0 rfl ?_
  refine aw_getR (t := 48) fl_Po_18 kd_45 rt_45_4 d_Po_addReading_25 ?_
  refine aw_aload_n d_Po_addReading_28 0 rfl ?_
  refine aw_getI fl_Po_36 kd_45 d_Po_addReading_29 ?_
  refine aw_iload_n d_Po_addReading_32 3 rfl ?_
  refine aw_SN_v (As := [.ref 48, .int (gI y21 45 0), .int a3]) (m_Fp_put (congrArg Prod.fst kd_48)) cs_Po_47 rfl rfl (Nat.le_of_ble_eq_true rfl) ⟨Nat.le_of_ble_eq_true rfl, Nat.le_of_ble_eq_true rfl⟩ ⟨Nat.le_refl _, Nat.le_refl _⟩ d_Po_addReading_33 (fun y33 => ?_)
  refine aw_aload_n d_Po_addReading_36 0 rfl ?_
  refine aw_getR (t := 49) fl_Po_21 kd_45 rt_45_5 d_Po_addReading_37 ?_
  refine aw_aload_n d_Po_addReading_40 0 rfl ?_
  refine aw_getI fl_Po_36 kd_45 d_Po_addReading_41 ?_
  refine aw_iload d_Po_addReading_44 4 rfl ?_
  refine aw_SN_v (As := [.ref 49, .int (gI y33 45 0), .int a4]) (m_Fp_put (congrArg Prod.fst kd_49)) cs_Po_47 rfl rfl (Nat.le_of_ble_eq_true rfl) ⟨Nat.le_of_ble_eq_true rfl, Nat.le_of_ble_eq_true rfl⟩ ⟨Nat.le_refl _, Nat.le_refl _⟩ d_Po_addReading_46 (fun y46 => ?_)
  refine aw_aload_n d_Po_addReading_49 0 rfl ?_
  refine aw_getR (t := 50) fl_Po_24 kd_45 rt_45_6 d_Po_addReading_50 ?_
  refine aw_aload_n d_Po_addReading_53 0 rfl ?_
  refine aw_getI fl_Po_36 kd_45 d_Po_addReading_54 ?_
  refine aw_iload d_Po_addReading_57 5 rfl ?_
  refine aw_SN_v (As := [.ref 50, .int (gI y46 45 0), .int a5]) (m_Fp_put (congrArg Prod.fst kd_50)) cs_Po_47 rfl rfl (Nat.le_of_ble_eq_true rfl) ⟨Nat.le_of_ble_eq_true rfl, Nat.le_of_ble_eq_true rfl⟩ ⟨Nat.le_refl _, Nat.le_refl _⟩ d_Po_addReading_59 (fun y59 => ?_)
  refine aw_aload_n d_Po_addReading_62 0 rfl ?_
  refine aw_dup d_Po_addReading_63 rfl ?_
  refine aw_getI fl_Po_36 kd_45 d_Po_addReading_64 ?_
  refine aw_iconst d_Po_addReading_67 ki_1 ?_
  refine aw_iadd d_Po_addReading_68 ?_
  refine aw_putI pf_Po_36 kd_45 d_Po_addReading_69 ?_
  refine aw_bD (fun δ_69 => ?_)
  exact aw_vret rfl rfl ⟨Nat.le_refl _, Nat.le_refl _⟩ d_Po_addReading_72
def f_Fp_reading (a1 : Int32) (a2 : Int32) (a3 : Int32) (a4 : Int32) (δ : Dm) : Option (Int32 × Dm) := ((f_To_boothAt a1 δ).bind (fun o14 => ocs o14 (some ((-1 : Int32), δ)) (fun t14 => if isB t14 = true then ((f_Fp_within a2 (0 : Int32) (gI δ 29 0) δ).bind (fun y29 => (if y29 = 0 then (some ((-1 : Int32), δ)) else (if (gI δ 45 0) < (100 : Int32) then ((f_Fp_within a3 (0 : Int32) (99999 : Int32) δ).bind (fun y52 => (if y52 = 0 then (some ((-1 : Int32), δ)) else ((f_Fp_within a4 (0 : Int32) (99999999 : Int32) δ).bind (fun y64 => (if y64 = 0 then (some ((-1 : Int32), δ)) else ((f_Po_addReading a1 a2 a3 a4 (gI δ 29 0) δ).bind (fun y86 => (some ((gI y86 45 0), y86)))))))))) else (some ((-1 : Int32), δ)))))) else none)))
set_option maxHeartbeats 4000000 in
set_option maxRecDepth 100000 in
theorem m_Fp_reading {a1 : Int32} {a2 : Int32} {a3 : Int32} {a4 : Int32} {δ : Dm} {n : Nat} : ∀ x, f_Fp_reading a1 a2 a3 a4 δ = some x → AMet k_Fp_reading 3 0 0 [.ref 4, .int a1, .int a2, .int a3, .int a4] δ RT n (Km RT n x) := by
  refine aw_start (lo := [(0, .ref 4), (1, .int a1), (2, .int a2), (3, .int a3), (4, .int a4)]) mok_Fp_reading rfl (Nat.le_of_ble_eq_true rfl) ?_
  unfold f_Fp_reading
  refine aw_aload_n d_Fp_reading_0 0 rfl ?_
  refine aw_getR (t := 29) fl_Fp_57 kd_4 rt_4_9 d_Fp_reading_1 ?_
  refine aw_getR (t := 45) fl_Fp_250 kd_29 rt_29_8 d_Fp_reading_4 ?_
  refine aw_astore (lo' := [(5, .ref 45), (0, .ref 4), (1, .int a1), (2, .int a2), (3, .int a3), (4, .int a4)]) d_Fp_reading_7 (by decide) rfl ?_
  refine aw_aload_n d_Fp_reading_9 1 rfl ?_
  refine aw_getR (t := 29) fl_Fp_57 kd_4 rt_4_9 d_Fp_reading_10 ?_
  refine aw_iload_n d_Fp_reading_13 2 rfl ?_
  refine aw_V_r (As := [.int a1]) (m_To_boothAt) cv_Fp_139 kd_29 rfl rfl rfl (Nat.le_of_ble_eq_true rfl) ⟨Nat.le_of_ble_eq_true rfl, Nat.le_of_ble_eq_true rfl⟩ ⟨Nat.le_refl _, Nat.le_refl _⟩ d_Fp_reading_14 ?_ (fun t14 => ?_)
  · refine aw_ifnullN (tgt := 45) d_Fp_reading_17 rfl ?_
    refine aw_iconst d_Fp_reading_45 ki_m1 ?_
    exact aw_iret rfl rfl ⟨Nat.le_refl _, Nat.le_refl _⟩ d_Fp_reading_46
  · refine aw_grd (fun ht14 => ?_)
    refine aw_ifnull d_Fp_reading_17 ?_
    refine aw_iload_n d_Fp_reading_20 3 rfl ?_
    refine aw_iconst d_Fp_reading_21 ki_0 ?_
    refine aw_aload_n d_Fp_reading_22 1 rfl ?_
    refine aw_getR (t := 29) fl_Fp_57 kd_4 rt_4_9 d_Fp_reading_23 ?_
    refine aw_getI fl_Fp_130 kd_29 d_Fp_reading_26 ?_
    refine aw_S_p (As := [.int a2, .int (0 : Int32), .int (gI δ 29 0)]) (m_Fp_within) cs_Fp_70 rfl rfl (Nat.le_of_ble_eq_true rfl) ⟨Nat.le_of_ble_eq_true rfl, Nat.le_of_ble_eq_true rfl⟩ ⟨Nat.le_refl _, Nat.le_refl _⟩ d_Fp_reading_29 (fun y29 => ?_)
    refine aw_if_eq (tgt := 45) d_Fp_reading_32 rfl (fun q32 => ?_) (fun q32 => ?_)
    · refine aw_iconst d_Fp_reading_45 ki_m1 ?_
      exact aw_iret rfl rfl ⟨Nat.le_refl _, Nat.le_refl _⟩ d_Fp_reading_46
    · refine aw_aload d_Fp_reading_35 0 rfl ?_
      refine aw_getI fl_Fp_254 kd_45 d_Fp_reading_37 ?_
      refine aw_bipush d_Fp_reading_40 kb_100 ?_
      refine aw_icmp_lt (tgt := 47) d_Fp_reading_42 rfl (fun q42 => ?_) (fun q42 => ?_)
      · refine aw_iload_n d_Fp_reading_47 4 rfl ?_
        refine aw_iconst d_Fp_reading_48 ki_0 ?_
        refine aw_ldcw (v := (99999 : Int32)) d_Fp_reading_49 kc_Fp_259 ?_
        refine aw_S_p (As := [.int a3, .int (0 : Int32), .int (99999 : Int32)]) (m_Fp_within) cs_Fp_70 rfl rfl (Nat.le_of_ble_eq_true rfl) ⟨Nat.le_of_ble_eq_true rfl, Nat.le_of_ble_eq_true rfl⟩ ⟨Nat.le_refl _, Nat.le_refl _⟩ d_Fp_reading_52 (fun y52 => ?_)
        refine aw_if_eq (tgt := 70) d_Fp_reading_55 rfl (fun q55 => ?_) (fun q55 => ?_)
        · refine aw_iconst d_Fp_reading_70 ki_m1 ?_
          exact aw_iret rfl rfl ⟨Nat.le_refl _, Nat.le_refl _⟩ d_Fp_reading_71
        · refine aw_iload d_Fp_reading_58 5 rfl ?_
          refine aw_iconst d_Fp_reading_60 ki_0 ?_
          refine aw_ldcw (v := (99999999 : Int32)) d_Fp_reading_61 kc_Fp_260 ?_
          refine aw_S_p (As := [.int a4, .int (0 : Int32), .int (99999999 : Int32)]) (m_Fp_within) cs_Fp_70 rfl rfl (Nat.le_of_ble_eq_true rfl) ⟨Nat.le_of_ble_eq_true rfl, Nat.le_of_ble_eq_true rfl⟩ ⟨Nat.le_refl _, Nat.le_refl _⟩ d_Fp_reading_64 (fun y64 => ?_)
          refine aw_if_ne (tgt := 72) d_Fp_reading_67 rfl (fun q67 => ?_) (fun q67 => ?_)
          · refine aw_iconst d_Fp_reading_70 ki_m1 ?_
            exact aw_iret rfl rfl ⟨Nat.le_refl _, Nat.le_refl _⟩ d_Fp_reading_71
          · refine aw_aload d_Fp_reading_72 0 rfl ?_
            refine aw_iload_n d_Fp_reading_74 2 rfl ?_
            refine aw_iload_n d_Fp_reading_75 3 rfl ?_
            refine aw_iload_n d_Fp_reading_76 4 rfl ?_
            refine aw_iload d_Fp_reading_77 5 rfl ?_
            refine aw_aload_n d_Fp_reading_79 1 rfl ?_
            refine aw_getR (t := 29) fl_Fp_57 kd_4 rt_4_9 d_Fp_reading_80 ?_
            refine aw_getI fl_Fp_130 kd_29 d_Fp_reading_83 ?_
            refine aw_V_v (As := [.int a1, .int a2, .int a3, .int a4, .int (gI δ 29 0)]) (m_Po_addReading) cv_Fp_261 kd_45 rfl rfl rfl (Nat.le_of_ble_eq_true rfl) ⟨Nat.le_of_ble_eq_true rfl, Nat.le_of_ble_eq_true rfl⟩ ⟨Nat.le_refl _, Nat.le_refl _⟩ d_Fp_reading_86 (fun y86 => ?_)
            refine aw_aload d_Fp_reading_89 0 rfl ?_
            refine aw_getI fl_Fp_254 kd_45 d_Fp_reading_91 ?_
            exact aw_iret rfl rfl ⟨Nat.le_refl _, Nat.le_refl _⟩ d_Fp_reading_94
      · refine aw_iconst d_Fp_reading_45 ki_m1 ?_
        exact aw_iret rfl rfl ⟨Nat.le_refl _, Nat.le_refl _⟩ d_Fp_reading_46
def jp_Po_latestReading_66 (kr9 : Int32 → Int32 → Int32 → Option Int32) (kx9_94 : Int32 → Int32 → Int32 → Option Int32) (a1 : Int32) (a2 : Int32) (a3 : Int32) (v4_9 : Int32) (v5_9 : Int32) (v6_9 : Int32) (y24 : Int32) (δ : Dm) (s0_66 : Int32) : Option Int32 := (if s0_66 = 0 then (kr9 v4_9 v5_9 (v6_9 + (1 : Int32))) else (if y24 < v5_9 then (kr9 v4_9 v5_9 (v6_9 + (1 : Int32))) else (kr9 v6_9 y24 (v6_9 + (1 : Int32)))))
set_option maxHeartbeats 4000000 in
set_option maxRecDepth 100000 in
theorem tj_Po_latestReading_66 {n : Nat} (kr9 : Int32 → Int32 → Int32 → Option Int32) (kx9_94 : Int32 → Int32 → Int32 → Option Int32) (a1 : Int32) (a2 : Int32) (a3 : Int32) (v4_9 : Int32) (v5_9 : Int32) (v6_9 : Int32) (y24 : Int32) (δ : Dm) (s0_66 : Int32) (hkr9 : ∀ v4_9k v5_9k v6_9k, AWo k_Po_latestReading 2 0 0 9 [(0, .ref 45), (1, .int a1), (2, .int a2), (3, .int a3), (4, .int v4_9k), (5, .int v5_9k), (6, .int v6_9k)] [] δ RT n 0 0 (Kp δ RT n) (kr9 v4_9k v5_9k v6_9k)) (hkx9_94 : ∀ v4_9k v5_9k v6_9k, AWo k_Po_latestReading 2 0 0 94 [(0, .ref 45), (1, .int a1), (2, .int a2), (3, .int a3), (4, .int v4_9k), (5, .int v5_9k), (6, .int v6_9k)] [] δ RT n 0 0 (Kp δ RT n) (kx9_94 v4_9k v5_9k v6_9k)) : AWo k_Po_latestReading 2 0 0 66 [(0, .ref 45), (1, .int a1), (2, .int a2), (3, .int a3), (4, .int v4_9), (5, .int v5_9), (6, .int v6_9), (7, .int y24)] [.int s0_66] δ RT n 0 0 (Kp δ RT n) (jp_Po_latestReading_66 kr9 kx9_94 a1 a2 a3 v4_9 v5_9 v6_9 y24 δ s0_66) := by
  unfold jp_Po_latestReading_66
  refine aw_istore (lo' := [(8, .int s0_66), (0, .ref 45), (1, .int a1), (2, .int a2), (3, .int a3), (4, .int v4_9), (5, .int v5_9), (6, .int v6_9), (7, .int y24)]) d_Po_latestReading_66 (by decide) rfl ?_
  refine aw_iload d_Po_latestReading_68 0 rfl ?_
  refine aw_if_eq (tgt := 88) d_Po_latestReading_70 rfl (fun q70 => ?_) (fun q70 => ?_)
  · refine aw_iinc (v := (v6_9 + (1 : Int32))) (lo' := [(6, .int (v6_9 + (1 : Int32))), (8, .int s0_66), (0, .ref 45), (1, .int a1), (2, .int a2), (3, .int a3), (4, .int v4_9), (5, .int v5_9), (7, .int y24)]) d_Po_latestReading_88 7 rfl (by rw [show Int32.ofInt (1) = (1 : Int32) from by decide]) (by decide) rfl ?_
    refine aw_goto (tgt := 9) d_Po_latestReading_91 rfl ?_
    refine aw_sub (lo' := [(0, .ref 45), (1, .int a1), (2, .int a2), (3, .int a3), (4, .int v4_9), (5, .int v5_9), (6, .int (v6_9 + (1 : Int32)))]) [2, 3, 4, 5, 6, 7, 0] rfl ?_
    exact hkr9 _ _ _
  · refine aw_iload d_Po_latestReading_73 8 rfl ?_
    refine aw_iload d_Po_latestReading_75 6 rfl ?_
    refine aw_icmp_lt (tgt := 88) d_Po_latestReading_77 rfl (fun q77 => ?_) (fun q77 => ?_)
    · refine aw_iinc (v := (v6_9 + (1 : Int32))) (lo' := [(6, .int (v6_9 + (1 : Int32))), (8, .int s0_66), (0, .ref 45), (1, .int a1), (2, .int a2), (3, .int a3), (4, .int v4_9), (5, .int v5_9), (7, .int y24)]) d_Po_latestReading_88 7 rfl (by rw [show Int32.ofInt (1) = (1 : Int32) from by decide]) (by decide) rfl ?_
      refine aw_goto (tgt := 9) d_Po_latestReading_91 rfl ?_
      refine aw_sub (lo' := [(0, .ref 45), (1, .int a1), (2, .int a2), (3, .int a3), (4, .int v4_9), (5, .int v5_9), (6, .int (v6_9 + (1 : Int32)))]) [2, 3, 4, 5, 6, 7, 0] rfl ?_
      exact hkr9 _ _ _
    · refine aw_iload d_Po_latestReading_80 8 rfl ?_
      refine aw_istore (lo' := [(5, .int y24), (8, .int s0_66), (0, .ref 45), (1, .int a1), (2, .int a2), (3, .int a3), (4, .int v4_9), (6, .int v6_9), (7, .int y24)]) d_Po_latestReading_82 (by decide) rfl ?_
      refine aw_iload d_Po_latestReading_84 7 rfl ?_
      refine aw_istore (lo' := [(4, .int v6_9), (5, .int y24), (8, .int s0_66), (0, .ref 45), (1, .int a1), (2, .int a2), (3, .int a3), (6, .int v6_9), (7, .int y24)]) d_Po_latestReading_86 (by decide) rfl ?_
      refine aw_iinc (v := (v6_9 + (1 : Int32))) (lo' := [(6, .int (v6_9 + (1 : Int32))), (4, .int v6_9), (5, .int y24), (8, .int s0_66), (0, .ref 45), (1, .int a1), (2, .int a2), (3, .int a3), (7, .int y24)]) d_Po_latestReading_88 7 rfl (by rw [show Int32.ofInt (1) = (1 : Int32) from by decide]) (by decide) rfl ?_
      refine aw_goto (tgt := 9) d_Po_latestReading_91 rfl ?_
      refine aw_sub (lo' := [(0, .ref 45), (1, .int a1), (2, .int a2), (3, .int a3), (4, .int v6_9), (5, .int y24), (6, .int (v6_9 + (1 : Int32)))]) [4, 5, 6, 7, 1, 2, 0] rfl ?_
      exact hkr9 _ _ _
def jp_Po_latestReading_65 (kr9 : Int32 → Int32 → Int32 → Option Int32) (kx9_94 : Int32 → Int32 → Int32 → Option Int32) (a1 : Int32) (a2 : Int32) (a3 : Int32) (v4_9 : Int32) (v5_9 : Int32) (v6_9 : Int32) (y24 : Int32) (δ : Dm) : Option Int32 := (jp_Po_latestReading_66 kr9 kx9_94 a1 a2 a3 v4_9 v5_9 v6_9 y24 δ (0 : Int32))
set_option maxHeartbeats 4000000 in
set_option maxRecDepth 100000 in
theorem tj_Po_latestReading_65 {n : Nat} (kr9 : Int32 → Int32 → Int32 → Option Int32) (kx9_94 : Int32 → Int32 → Int32 → Option Int32) (a1 : Int32) (a2 : Int32) (a3 : Int32) (v4_9 : Int32) (v5_9 : Int32) (v6_9 : Int32) (y24 : Int32) (δ : Dm) (hkr9 : ∀ v4_9k v5_9k v6_9k, AWo k_Po_latestReading 2 0 0 9 [(0, .ref 45), (1, .int a1), (2, .int a2), (3, .int a3), (4, .int v4_9k), (5, .int v5_9k), (6, .int v6_9k)] [] δ RT n 0 0 (Kp δ RT n) (kr9 v4_9k v5_9k v6_9k)) (hkx9_94 : ∀ v4_9k v5_9k v6_9k, AWo k_Po_latestReading 2 0 0 94 [(0, .ref 45), (1, .int a1), (2, .int a2), (3, .int a3), (4, .int v4_9k), (5, .int v5_9k), (6, .int v6_9k)] [] δ RT n 0 0 (Kp δ RT n) (kx9_94 v4_9k v5_9k v6_9k)) : AWo k_Po_latestReading 2 0 0 65 [(0, .ref 45), (1, .int a1), (2, .int a2), (3, .int a3), (4, .int v4_9), (5, .int v5_9), (6, .int v6_9), (7, .int y24)] [] δ RT n 0 0 (Kp δ RT n) (jp_Po_latestReading_65 kr9 kx9_94 a1 a2 a3 v4_9 v5_9 v6_9 y24 δ) := by
  unfold jp_Po_latestReading_65
  refine aw_iconst d_Po_latestReading_65 ki_0 ?_
  refine aw_sub (lo' := [(0, .ref 45), (1, .int a1), (2, .int a2), (3, .int a3), (4, .int v4_9), (5, .int v5_9), (6, .int v6_9), (7, .int y24)]) [0, 1, 2, 3, 4, 5, 6, 7] rfl ?_
  exact tj_Po_latestReading_66 _ _ _ _ _ _ _ _ _ _ _ hkr9 hkx9_94
def lp_Po_latestReading_9 (kx9_94 : Int32 → Int32 → Int32 → Option Int32) (a1 : Int32) (a2 : Int32) (a3 : Int32) (δ : Dm) : Nat → Int32 → Int32 → Int32 → Option Int32
  | 0, _, _, _ => none
  | f + 1, v4_9, v5_9, v6_9 => (if (gI δ 45 0) ≤ v6_9 then (kx9_94 v4_9 v5_9 v6_9) else ((f_Fp_get 47 v6_9 δ).bind (fun y24 => ((f_Fp_get 46 v6_9 δ).bind (fun y35 => (if y35 = a1 then ((f_Fp_get 50 v6_9 δ).bind (fun y48 => (if a2 < y48 then (jp_Po_latestReading_65 (lp_Po_latestReading_9 kx9_94 a1 a2 a3 δ f) kx9_94 a1 a2 a3 v4_9 v5_9 v6_9 y24 δ) else (if a3 ≤ y24 then (jp_Po_latestReading_65 (lp_Po_latestReading_9 kx9_94 a1 a2 a3 δ f) kx9_94 a1 a2 a3 v4_9 v5_9 v6_9 y24 δ) else (jp_Po_latestReading_66 (lp_Po_latestReading_9 kx9_94 a1 a2 a3 δ f) kx9_94 a1 a2 a3 v4_9 v5_9 v6_9 y24 δ (1 : Int32)))))) else (jp_Po_latestReading_65 (lp_Po_latestReading_9 kx9_94 a1 a2 a3 δ f) kx9_94 a1 a2 a3 v4_9 v5_9 v6_9 y24 δ)))))))
set_option maxHeartbeats 4000000 in
set_option maxRecDepth 100000 in
theorem tl_Po_latestReading_9 {n : Nat} (kx9_94 : Int32 → Int32 → Int32 → Option Int32) (a1 : Int32) (a2 : Int32) (a3 : Int32) (δ : Dm) (hkx9_94 : ∀ v4_9k v5_9k v6_9k, AWo k_Po_latestReading 2 0 0 94 [(0, .ref 45), (1, .int a1), (2, .int a2), (3, .int a3), (4, .int v4_9k), (5, .int v5_9k), (6, .int v6_9k)] [] δ RT n 0 0 (Kp δ RT n) (kx9_94 v4_9k v5_9k v6_9k)) : ∀ (f : Nat) (v4_9 : Int32) (v5_9 : Int32) (v6_9 : Int32), AWo k_Po_latestReading 2 0 0 9 [(0, .ref 45), (1, .int a1), (2, .int a2), (3, .int a3), (4, .int v4_9), (5, .int v5_9), (6, .int v6_9)] [] δ RT n 0 0 (Kp δ RT n) (lp_Po_latestReading_9 kx9_94 a1 a2 a3 δ f v4_9 v5_9 v6_9) := by
  intro f
  induction f with
  | zero => intro _ _ _; exact aw_none
  | succ f ih =>
    intro v4_9 v5_9 v6_9
    rw [lp_Po_latestReading_9]
    refine aw_iload d_Po_latestReading_9 6 rfl ?_
    refine aw_aload_n d_Po_latestReading_11 0 rfl ?_
    refine aw_getI fl_Po_36 kd_45 d_Po_latestReading_12 ?_
    refine aw_icmp_ge (tgt := 94) d_Po_latestReading_15 rfl (fun q15 => ?_) (fun q15 => ?_)
    · refine aw_sub (lo' := [(0, .ref 45), (1, .int a1), (2, .int a2), (3, .int a3), (4, .int v4_9), (5, .int v5_9), (6, .int v6_9)]) [0, 1, 2, 3, 4, 5, 6] rfl ?_
      exact hkx9_94 _ _ _
    · refine aw_aload_n d_Po_latestReading_18 0 rfl ?_
      refine aw_getR (t := 47) fl_Po_15 kd_45 rt_45_3 d_Po_latestReading_19 ?_
      refine aw_iload d_Po_latestReading_22 6 rfl ?_
      refine aw_SN_p (As := [.ref 47, .int v6_9]) (m_Fp_get (congrArg Prod.fst kd_47)) cs_Po_51 rfl rfl (Nat.le_of_ble_eq_true rfl) ⟨Nat.le_of_ble_eq_true rfl, Nat.le_of_ble_eq_true rfl⟩ ⟨Nat.le_refl _, Nat.le_refl _⟩ d_Po_latestReading_24 (fun y24 => ?_)
      refine aw_istore (lo' := [(7, .int y24), (0, .ref 45), (1, .int a1), (2, .int a2), (3, .int a3), (4, .int v4_9), (5, .int v5_9), (6, .int v6_9)]) d_Po_latestReading_27 (by decide) rfl ?_
      refine aw_aload_n d_Po_latestReading_29 1 rfl ?_
      refine aw_getR (t := 46) fl_Po_9 kd_45 rt_45_2 d_Po_latestReading_30 ?_
      refine aw_iload d_Po_latestReading_33 7 rfl ?_
      refine aw_SN_p (As := [.ref 46, .int v6_9]) (m_Fp_get (congrArg Prod.fst kd_46)) cs_Po_51 rfl rfl (Nat.le_of_ble_eq_true rfl) ⟨Nat.le_of_ble_eq_true rfl, Nat.le_of_ble_eq_true rfl⟩ ⟨Nat.le_refl _, Nat.le_refl _⟩ d_Po_latestReading_35 (fun y35 => ?_)
      refine aw_iload_n d_Po_latestReading_38 2 rfl ?_
      refine aw_icmp_ne (tgt := 65) d_Po_latestReading_39 rfl (fun q39 => ?_) (fun q39 => ?_)
      · refine aw_aload_n d_Po_latestReading_42 1 rfl ?_
        refine aw_getR (t := 50) fl_Po_24 kd_45 rt_45_6 d_Po_latestReading_43 ?_
        refine aw_iload d_Po_latestReading_46 7 rfl ?_
        refine aw_SN_p (As := [.ref 50, .int v6_9]) (m_Fp_get (congrArg Prod.fst kd_50)) cs_Po_51 rfl rfl (Nat.le_of_ble_eq_true rfl) ⟨Nat.le_of_ble_eq_true rfl, Nat.le_of_ble_eq_true rfl⟩ ⟨Nat.le_refl _, Nat.le_refl _⟩ d_Po_latestReading_48 (fun y48 => ?_)
        refine aw_iload_n d_Po_latestReading_51 3 rfl ?_
        refine aw_icmp_gt (tgt := 65) d_Po_latestReading_52 rfl (fun q52 => ?_) (fun q52 => ?_)
        · refine aw_sub (lo' := [(0, .ref 45), (1, .int a1), (2, .int a2), (3, .int a3), (4, .int v4_9), (5, .int v5_9), (6, .int v6_9), (7, .int y24)]) [1, 2, 3, 4, 5, 6, 7, 0] rfl ?_
          exact tj_Po_latestReading_65 _ _ _ _ _ _ _ _ _ _ ih hkx9_94
        · refine aw_iload d_Po_latestReading_55 0 rfl ?_
          refine aw_iload_n d_Po_latestReading_57 4 rfl ?_
          refine aw_icmp_ge (tgt := 65) d_Po_latestReading_58 rfl (fun q58 => ?_) (fun q58 => ?_)
          · refine aw_sub (lo' := [(0, .ref 45), (1, .int a1), (2, .int a2), (3, .int a3), (4, .int v4_9), (5, .int v5_9), (6, .int v6_9), (7, .int y24)]) [1, 2, 3, 4, 5, 6, 7, 0] rfl ?_
            exact tj_Po_latestReading_65 _ _ _ _ _ _ _ _ _ _ ih hkx9_94
          · refine aw_iconst d_Po_latestReading_61 ki_1 ?_
            refine aw_goto (tgt := 66) d_Po_latestReading_62 rfl ?_
            refine aw_sub (lo' := [(0, .ref 45), (1, .int a1), (2, .int a2), (3, .int a3), (4, .int v4_9), (5, .int v5_9), (6, .int v6_9), (7, .int y24)]) [1, 2, 3, 4, 5, 6, 7, 0] rfl ?_
            exact tj_Po_latestReading_66 _ _ _ _ _ _ _ _ _ _ _ ih hkx9_94
      · refine aw_sub (lo' := [(0, .ref 45), (1, .int a1), (2, .int a2), (3, .int a3), (4, .int v4_9), (5, .int v5_9), (6, .int v6_9), (7, .int y24)]) [1, 2, 3, 4, 5, 6, 7, 0] rfl ?_
        exact tj_Po_latestReading_65 _ _ _ _ _ _ _ _ _ _ ih hkx9_94
def f_Po_latestReading (a1 : Int32) (a2 : Int32) (a3 : Int32) (δ : Dm) : Option Int32 := (lp_Po_latestReading_9 (fun v4_9x v5_9x v6_9x => (some v4_9x)) a1 a2 a3 δ FU (-1 : Int32) (0 : Int32) (0 : Int32))
set_option maxHeartbeats 4000000 in
set_option maxRecDepth 100000 in
theorem m_Po_latestReading {a1 : Int32} {a2 : Int32} {a3 : Int32} {δ : Dm} {n : Nat} : ∀ x, f_Po_latestReading a1 a2 a3 δ = some x → AMet k_Po_latestReading 2 0 0 [.ref 45, .int a1, .int a2, .int a3] δ RT n (Kp δ RT n x) := by
  refine aw_start (lo := [(0, .ref 45), (1, .int a1), (2, .int a2), (3, .int a3)]) mok_Po_latestReading rfl (Nat.le_of_ble_eq_true rfl) ?_
  unfold f_Po_latestReading
  refine aw_iconst d_Po_latestReading_0 ki_m1 ?_
  refine aw_istore (lo' := [(4, .int (-1 : Int32)), (0, .ref 45), (1, .int a1), (2, .int a2), (3, .int a3)]) d_Po_latestReading_1 (by decide) rfl ?_
  refine aw_iconst d_Po_latestReading_3 ki_0 ?_
  refine aw_istore (lo' := [(5, .int (0 : Int32)), (4, .int (-1 : Int32)), (0, .ref 45), (1, .int a1), (2, .int a2), (3, .int a3)]) d_Po_latestReading_4 (by decide) rfl ?_
  refine aw_iconst d_Po_latestReading_6 ki_0 ?_
  refine aw_istore (lo' := [(6, .int (0 : Int32)), (5, .int (0 : Int32)), (4, .int (-1 : Int32)), (0, .ref 45), (1, .int a1), (2, .int a2), (3, .int a3)]) d_Po_latestReading_7 (by decide) rfl ?_
  refine aw_sub (lo' := [(0, .ref 45), (1, .int a1), (2, .int a2), (3, .int a3), (4, .int (-1 : Int32)), (5, .int (0 : Int32)), (6, .int (0 : Int32))]) [3, 4, 5, 6, 2, 1, 0] rfl ?_
  refine tl_Po_latestReading_9 _ _ _ _ _ (fun v4_9x v5_9x v6_9x => ?_) FU _ _ _
  · refine aw_iload d_Po_latestReading_94 4 rfl ?_
    exact aw_iret rfl rfl ⟨Nat.le_refl _, Nat.le_refl _⟩ d_Po_latestReading_96
def lp_Di_stripsIn_6 (kx6_51 : Int32 → Int32 → Option Int32) (a1 : Int32) (a2 : Int32) (a3 : Int32) (δ : Dm) : Nat → Int32 → Int32 → Option Int32
  | 0, _, _ => none
  | f + 1, v4_6, v5_6 => (if (gI δ 34 0) ≤ v5_6 then (kx6_51 v4_6 v5_6) else ((f_Di_isOf v5_6 a1 δ).bind (fun y19 => (if y19 = 0 then (lp_Di_stripsIn_6 kx6_51 a1 a2 a3 δ f v4_6 (v5_6 + (1 : Int32))) else ((f_Fp_get 36 v5_6 δ).bind (fun y31 => ((f_Fp_within y31 a2 a3 δ).bind (fun y36 => (if y36 = 0 then (lp_Di_stripsIn_6 kx6_51 a1 a2 a3 δ f v4_6 (v5_6 + (1 : Int32))) else (lp_Di_stripsIn_6 kx6_51 a1 a2 a3 δ f (v4_6 + (1 : Int32)) (v5_6 + (1 : Int32))))))))))))
set_option maxHeartbeats 4000000 in
set_option maxRecDepth 100000 in
theorem tl_Di_stripsIn_6 {n : Nat} (kx6_51 : Int32 → Int32 → Option Int32) (a1 : Int32) (a2 : Int32) (a3 : Int32) (δ : Dm) (hkx6_51 : ∀ v4_6k v5_6k, AWo k_Di_stripsIn 3 0 0 51 [(0, .ref 34), (1, .int a1), (2, .int a2), (3, .int a3), (4, .int v4_6k), (5, .int v5_6k)] [] δ RT n 0 0 (Kp δ RT n) (kx6_51 v4_6k v5_6k)) : ∀ (f : Nat) (v4_6 : Int32) (v5_6 : Int32), AWo k_Di_stripsIn 3 0 0 6 [(0, .ref 34), (1, .int a1), (2, .int a2), (3, .int a3), (4, .int v4_6), (5, .int v5_6)] [] δ RT n 0 0 (Kp δ RT n) (lp_Di_stripsIn_6 kx6_51 a1 a2 a3 δ f v4_6 v5_6) := by
  intro f
  induction f with
  | zero => intro _ _; exact aw_none
  | succ f ih =>
    intro v4_6 v5_6
    rw [lp_Di_stripsIn_6]
    refine aw_iload d_Di_stripsIn_6 5 rfl ?_
    refine aw_aload_n d_Di_stripsIn_8 0 rfl ?_
    refine aw_getI fl_Di_42 kd_34 d_Di_stripsIn_9 ?_
    refine aw_icmp_ge (tgt := 51) d_Di_stripsIn_12 rfl (fun q12 => ?_) (fun q12 => ?_)
    · refine aw_sub (lo' := [(0, .ref 34), (1, .int a1), (2, .int a2), (3, .int a3), (4, .int v4_6), (5, .int v5_6)]) [0, 1, 2, 3, 4, 5] rfl ?_
      exact hkx6_51 _ _
    · refine aw_aload_n d_Di_stripsIn_15 0 rfl ?_
      refine aw_iload d_Di_stripsIn_16 5 rfl ?_
      refine aw_iload_n d_Di_stripsIn_18 1 rfl ?_
      refine aw_V_p (As := [.int v5_6, .int a1]) (m_Di_isOf) cv_Di_68 kd_34 rfl rfl rfl (Nat.le_of_ble_eq_true rfl) ⟨Nat.le_of_ble_eq_true rfl, Nat.le_of_ble_eq_true rfl⟩ ⟨Nat.le_refl _, Nat.le_refl _⟩ d_Di_stripsIn_19 (fun y19 => ?_)
      refine aw_if_eq (tgt := 45) d_Di_stripsIn_22 rfl (fun q22 => ?_) (fun q22 => ?_)
      · refine aw_iinc (v := (v5_6 + (1 : Int32))) (lo' := [(5, .int (v5_6 + (1 : Int32))), (0, .ref 34), (1, .int a1), (2, .int a2), (3, .int a3), (4, .int v4_6)]) d_Di_stripsIn_45 5 rfl (by rw [show Int32.ofInt (1) = (1 : Int32) from by decide]) (by decide) rfl ?_
        refine aw_goto (tgt := 6) d_Di_stripsIn_48 rfl ?_
        refine aw_sub (lo' := [(0, .ref 34), (1, .int a1), (2, .int a2), (3, .int a3), (4, .int v4_6), (5, .int (v5_6 + (1 : Int32)))]) [1, 2, 3, 4, 5, 0] rfl ?_
        exact ih _ _
      · refine aw_aload_n d_Di_stripsIn_25 0 rfl ?_
        refine aw_getR (t := 36) fl_Di_15 kd_34 rt_34_4 d_Di_stripsIn_26 ?_
        refine aw_iload d_Di_stripsIn_29 5 rfl ?_
        refine aw_SN_p (As := [.ref 36, .int v5_6]) (m_Fp_get (congrArg Prod.fst kd_36)) cs_Di_64 rfl rfl (Nat.le_of_ble_eq_true rfl) ⟨Nat.le_of_ble_eq_true rfl, Nat.le_of_ble_eq_true rfl⟩ ⟨Nat.le_refl _, Nat.le_refl _⟩ d_Di_stripsIn_31 (fun y31 => ?_)
        refine aw_iload_n d_Di_stripsIn_34 2 rfl ?_
        refine aw_iload_n d_Di_stripsIn_35 3 rfl ?_
        refine aw_SN_p (As := [.int y31, .int a2, .int a3]) (m_Fp_within) cs_Di_72 rfl rfl (Nat.le_of_ble_eq_true rfl) ⟨Nat.le_of_ble_eq_true rfl, Nat.le_of_ble_eq_true rfl⟩ ⟨Nat.le_refl _, Nat.le_refl _⟩ d_Di_stripsIn_36 (fun y36 => ?_)
        refine aw_if_eq (tgt := 45) d_Di_stripsIn_39 rfl (fun q39 => ?_) (fun q39 => ?_)
        · refine aw_iinc (v := (v5_6 + (1 : Int32))) (lo' := [(5, .int (v5_6 + (1 : Int32))), (0, .ref 34), (1, .int a1), (2, .int a2), (3, .int a3), (4, .int v4_6)]) d_Di_stripsIn_45 5 rfl (by rw [show Int32.ofInt (1) = (1 : Int32) from by decide]) (by decide) rfl ?_
          refine aw_goto (tgt := 6) d_Di_stripsIn_48 rfl ?_
          refine aw_sub (lo' := [(0, .ref 34), (1, .int a1), (2, .int a2), (3, .int a3), (4, .int v4_6), (5, .int (v5_6 + (1 : Int32)))]) [1, 2, 3, 4, 5, 0] rfl ?_
          exact ih _ _
        · refine aw_iinc (v := (v4_6 + (1 : Int32))) (lo' := [(4, .int (v4_6 + (1 : Int32))), (0, .ref 34), (1, .int a1), (2, .int a2), (3, .int a3), (5, .int v5_6)]) d_Di_stripsIn_42 4 rfl (by rw [show Int32.ofInt (1) = (1 : Int32) from by decide]) (by decide) rfl ?_
          refine aw_iinc (v := (v5_6 + (1 : Int32))) (lo' := [(5, .int (v5_6 + (1 : Int32))), (4, .int (v4_6 + (1 : Int32))), (0, .ref 34), (1, .int a1), (2, .int a2), (3, .int a3)]) d_Di_stripsIn_45 5 rfl (by rw [show Int32.ofInt (1) = (1 : Int32) from by decide]) (by decide) rfl ?_
          refine aw_goto (tgt := 6) d_Di_stripsIn_48 rfl ?_
          refine aw_sub (lo' := [(0, .ref 34), (1, .int a1), (2, .int a2), (3, .int a3), (4, .int (v4_6 + (1 : Int32))), (5, .int (v5_6 + (1 : Int32)))]) [2, 3, 4, 5, 1, 0] rfl ?_
          exact ih _ _
def f_Di_stripsIn (a1 : Int32) (a2 : Int32) (a3 : Int32) (δ : Dm) : Option Int32 := (lp_Di_stripsIn_6 (fun v4_6x v5_6x => (some v4_6x)) a1 a2 a3 δ FU (0 : Int32) (0 : Int32))
set_option maxHeartbeats 4000000 in
set_option maxRecDepth 100000 in
theorem m_Di_stripsIn {a1 : Int32} {a2 : Int32} {a3 : Int32} {δ : Dm} {n : Nat} : ∀ x, f_Di_stripsIn a1 a2 a3 δ = some x → AMet k_Di_stripsIn 3 0 0 [.ref 34, .int a1, .int a2, .int a3] δ RT n (Kp δ RT n x) := by
  refine aw_start (lo := [(0, .ref 34), (1, .int a1), (2, .int a2), (3, .int a3)]) mok_Di_stripsIn rfl (Nat.le_of_ble_eq_true rfl) ?_
  unfold f_Di_stripsIn
  refine aw_iconst d_Di_stripsIn_0 ki_0 ?_
  refine aw_istore (lo' := [(4, .int (0 : Int32)), (0, .ref 34), (1, .int a1), (2, .int a2), (3, .int a3)]) d_Di_stripsIn_1 (by decide) rfl ?_
  refine aw_iconst d_Di_stripsIn_3 ki_0 ?_
  refine aw_istore (lo' := [(5, .int (0 : Int32)), (4, .int (0 : Int32)), (0, .ref 34), (1, .int a1), (2, .int a2), (3, .int a3)]) d_Di_stripsIn_4 (by decide) rfl ?_
  refine aw_sub (lo' := [(0, .ref 34), (1, .int a1), (2, .int a2), (3, .int a3), (4, .int (0 : Int32)), (5, .int (0 : Int32))]) [2, 3, 4, 5, 1, 0] rfl ?_
  refine tl_Di_stripsIn_6 _ _ _ _ _ (fun v4_6x v5_6x => ?_) FU _ _
  · refine aw_iload d_Di_stripsIn_51 4 rfl ?_
    exact aw_iret rfl rfl ⟨Nat.le_refl _, Nat.le_refl _⟩ d_Di_stripsIn_53
def f_Fp_agree (a1 : Int32) (a2 : Int32) (a3 : Int32) (δ : Dm) : Option Int32 := ((f_To_boothAt a1 δ).bind (fun o5 => ocs o5 (some (-2000000000 : Int32)) (fun t5 => if isB t5 = true then ((f_Fp_isDay a2 δ).bind (fun y16 => (if y16 = 0 then (some (-2000000000 : Int32)) else ((f_Fp_within a3 (0 : Int32) (1 : Int32) δ).bind (fun y25 => (if y25 = 0 then (some (-2000000000 : Int32)) else ((f_Po_latestReading a1 a2 (400 : Int32) δ).bind (fun y51 => (if y51 = (-1 : Int32) then (some (-1000000000 : Int32)) else ((f_Fp_get 47 y51 δ).bind (fun y73 => ((f_Po_latestReading a1 a2 y73 δ).bind (fun y84 => (if y84 = (-1 : Int32) then (some (-1000000000 : Int32)) else ((f_Fp_get 47 y84 δ).bind (fun y114 => ((f_Di_stripsIn a1 (y114 + (1 : Int32)) y73 δ).bind (fun y121 => (if a3 = 0 then ((f_Fp_get 48 y51 δ).bind (fun y137 => ((f_Fp_get 48 y84 δ).bind (fun y147 => (some ((y137 - y147) - y121)))))) else ((f_Fp_get 49 y51 δ).bind (fun y162 => ((f_Fp_get 49 y84 δ).bind (fun y172 => (some ((y162 - y172) - ((gI δ t5 1) * y121)))))))))))))))))))))))))) else none)))
set_option maxHeartbeats 4000000 in
set_option maxRecDepth 100000 in
theorem m_Fp_agree {a1 : Int32} {a2 : Int32} {a3 : Int32} {δ : Dm} {n : Nat} : ∀ x, f_Fp_agree a1 a2 a3 δ = some x → AMet k_Fp_agree 4 0 0 [.ref 4, .int a1, .int a2, .int a3] δ RT n (Kp δ RT n x) := by
  refine aw_start (lo := [(0, .ref 4), (1, .int a1), (2, .int a2), (3, .int a3)]) mok_Fp_agree rfl (Nat.le_of_ble_eq_true rfl) ?_
  unfold f_Fp_agree
  refine aw_aload_n d_Fp_agree_0 0 rfl ?_
  refine aw_getR (t := 29) fl_Fp_57 kd_4 rt_4_9 d_Fp_agree_1 ?_
  refine aw_iload_n d_Fp_agree_4 1 rfl ?_
  refine aw_V_r (As := [.int a1]) (m_To_boothAt) cv_Fp_139 kd_29 rfl rfl rfl (Nat.le_of_ble_eq_true rfl) ⟨Nat.le_of_ble_eq_true rfl, Nat.le_of_ble_eq_true rfl⟩ ⟨Nat.le_refl _, Nat.le_refl _⟩ d_Fp_agree_5 ?_ (fun t5 => ?_)
  · refine aw_astoreN (lo' := [(4, .null), (0, .ref 4), (1, .int a1), (2, .int a2), (3, .int a3)]) d_Fp_agree_8 (by decide) rfl ?_
    refine aw_aloadN d_Fp_agree_10 0 rfl ?_
    refine aw_ifnullN (tgt := 31) d_Fp_agree_12 rfl ?_
    refine aw_ldcw (v := (-2000000000 : Int32)) d_Fp_agree_31 kc_Fp_265 ?_
    exact aw_iret rfl rfl ⟨Nat.le_refl _, Nat.le_refl _⟩ d_Fp_agree_34
  · refine aw_grd (fun ht5 => ?_)
    refine aw_astore (lo' := [(4, .ref t5), (0, .ref 4), (1, .int a1), (2, .int a2), (3, .int a3)]) d_Fp_agree_8 (by decide) rfl ?_
    refine aw_aload d_Fp_agree_10 0 rfl ?_
    refine aw_ifnull d_Fp_agree_12 ?_
    refine aw_iload_n d_Fp_agree_15 3 rfl ?_
    refine aw_S_p (As := [.int a2]) (m_Fp_isDay) cs_Fp_92 rfl rfl (Nat.le_of_ble_eq_true rfl) ⟨Nat.le_of_ble_eq_true rfl, Nat.le_of_ble_eq_true rfl⟩ ⟨Nat.le_refl _, Nat.le_refl _⟩ d_Fp_agree_16 (fun y16 => ?_)
    refine aw_if_eq (tgt := 31) d_Fp_agree_19 rfl (fun q19 => ?_) (fun q19 => ?_)
    · refine aw_ldcw (v := (-2000000000 : Int32)) d_Fp_agree_31 kc_Fp_265 ?_
      exact aw_iret rfl rfl ⟨Nat.le_refl _, Nat.le_refl _⟩ d_Fp_agree_34
    · refine aw_iload_n d_Fp_agree_22 4 rfl ?_
      refine aw_iconst d_Fp_agree_23 ki_0 ?_
      refine aw_iconst d_Fp_agree_24 ki_1 ?_
      refine aw_S_p (As := [.int a3, .int (0 : Int32), .int (1 : Int32)]) (m_Fp_within) cs_Fp_70 rfl rfl (Nat.le_of_ble_eq_true rfl) ⟨Nat.le_of_ble_eq_true rfl, Nat.le_of_ble_eq_true rfl⟩ ⟨Nat.le_refl _, Nat.le_refl _⟩ d_Fp_agree_25 (fun y25 => ?_)
      refine aw_if_ne (tgt := 35) d_Fp_agree_28 rfl (fun q28 => ?_) (fun q28 => ?_)
      · refine aw_ldcw (v := (-2000000000 : Int32)) d_Fp_agree_31 kc_Fp_265 ?_
        exact aw_iret rfl rfl ⟨Nat.le_refl _, Nat.le_refl _⟩ d_Fp_agree_34
      · refine aw_aload_n d_Fp_agree_35 1 rfl ?_
        refine aw_getR (t := 29) fl_Fp_57 kd_4 rt_4_9 d_Fp_agree_36 ?_
        refine aw_getR (t := 45) fl_Fp_250 kd_29 rt_29_8 d_Fp_agree_39 ?_
        refine aw_astore (lo' := [(5, .ref 45), (4, .ref t5), (0, .ref 4), (1, .int a1), (2, .int a2), (3, .int a3)]) d_Fp_agree_42 (by decide) rfl ?_
        refine aw_aload d_Fp_agree_44 0 rfl ?_
        refine aw_iload_n d_Fp_agree_46 3 rfl ?_
        refine aw_iload_n d_Fp_agree_47 4 rfl ?_
        refine aw_sipush d_Fp_agree_48 ks_400 ?_
        refine aw_V_p (As := [.int a1, .int a2, .int (400 : Int32)]) (m_Po_latestReading) cv_Fp_266 kd_45 rfl rfl rfl (Nat.le_of_ble_eq_true rfl) ⟨Nat.le_of_ble_eq_true rfl, Nat.le_of_ble_eq_true rfl⟩ ⟨Nat.le_refl _, Nat.le_refl _⟩ d_Fp_agree_51 (fun y51 => ?_)
        refine aw_istore (lo' := [(6, .int y51), (5, .ref 45), (4, .ref t5), (0, .ref 4), (1, .int a1), (2, .int a2), (3, .int a3)]) d_Fp_agree_54 (by decide) rfl ?_
        refine aw_iload d_Fp_agree_56 0 rfl ?_
        refine aw_iconst d_Fp_agree_58 ki_m1 ?_
        refine aw_icmp_ne (tgt := 66) d_Fp_agree_59 rfl (fun q59 => ?_) (fun q59 => ?_)
        · refine aw_ldcw (v := (-1000000000 : Int32)) d_Fp_agree_62 kc_Fp_270 ?_
          exact aw_iret rfl rfl ⟨Nat.le_refl _, Nat.le_refl _⟩ d_Fp_agree_65
        · refine aw_aload d_Fp_agree_66 1 rfl ?_
          refine aw_getR (t := 47) fl_Fp_271 kd_45 rt_45_3 d_Fp_agree_68 ?_
          refine aw_iload d_Fp_agree_71 0 rfl ?_
          refine aw_S_p (As := [.ref 47, .int y51]) (m_Fp_get (congrArg Prod.fst kd_47)) cs_Fp_98 rfl rfl (Nat.le_of_ble_eq_true rfl) ⟨Nat.le_of_ble_eq_true rfl, Nat.le_of_ble_eq_true rfl⟩ ⟨Nat.le_refl _, Nat.le_refl _⟩ d_Fp_agree_73 (fun y73 => ?_)
          refine aw_istore (lo' := [(7, .int y73), (6, .int y51), (5, .ref 45), (4, .ref t5), (0, .ref 4), (1, .int a1), (2, .int a2), (3, .int a3)]) d_Fp_agree_76 (by decide) rfl ?_
          refine aw_aload d_Fp_agree_78 2 rfl ?_
          refine aw_iload_n d_Fp_agree_80 5 rfl ?_
          refine aw_iload_n d_Fp_agree_81 6 rfl ?_
          refine aw_iload d_Fp_agree_82 0 rfl ?_
          refine aw_V_p (As := [.int a1, .int a2, .int y73]) (m_Po_latestReading) cv_Fp_266 kd_45 rfl rfl rfl (Nat.le_of_ble_eq_true rfl) ⟨Nat.le_of_ble_eq_true rfl, Nat.le_of_ble_eq_true rfl⟩ ⟨Nat.le_refl _, Nat.le_refl _⟩ d_Fp_agree_84 (fun y84 => ?_)
          refine aw_istore (lo' := [(8, .int y84), (7, .int y73), (6, .int y51), (5, .ref 45), (4, .ref t5), (0, .ref 4), (1, .int a1), (2, .int a2), (3, .int a3)]) d_Fp_agree_87 (by decide) rfl ?_
          refine aw_iload d_Fp_agree_89 0 rfl ?_
          refine aw_iconst d_Fp_agree_91 ki_m1 ?_
          refine aw_icmp_ne (tgt := 99) d_Fp_agree_92 rfl (fun q92 => ?_) (fun q92 => ?_)
          · refine aw_ldcw (v := (-1000000000 : Int32)) d_Fp_agree_95 kc_Fp_270 ?_
            exact aw_iret rfl rfl ⟨Nat.le_refl _, Nat.le_refl _⟩ d_Fp_agree_98
          · refine aw_aload_n d_Fp_agree_99 5 rfl ?_
            refine aw_getR (t := 29) fl_Fp_57 kd_4 rt_4_9 d_Fp_agree_100 ?_
            refine aw_getR (t := 34) fl_Fp_148 kd_29 rt_29_7 d_Fp_agree_103 ?_
            refine aw_iload_n d_Fp_agree_106 6 rfl ?_
            refine aw_aload d_Fp_agree_107 3 rfl ?_
            refine aw_getR (t := 47) fl_Fp_271 kd_45 rt_45_3 d_Fp_agree_109 ?_
            refine aw_iload d_Fp_agree_112 0 rfl ?_
            refine aw_S_p (As := [.ref 47, .int y84]) (m_Fp_get (congrArg Prod.fst kd_47)) cs_Fp_98 rfl rfl (Nat.le_of_ble_eq_true rfl) ⟨Nat.le_of_ble_eq_true rfl, Nat.le_of_ble_eq_true rfl⟩ ⟨Nat.le_refl _, Nat.le_refl _⟩ d_Fp_agree_114 (fun y114 => ?_)
            refine aw_iconst d_Fp_agree_117 ki_1 ?_
            refine aw_iadd d_Fp_agree_118 ?_
            refine aw_iload d_Fp_agree_119 1 rfl ?_
            refine aw_V_p (As := [.int a1, .int (y114 + (1 : Int32)), .int y73]) (m_Di_stripsIn) cv_Fp_274 kd_34 rfl rfl rfl (Nat.le_of_ble_eq_true rfl) ⟨Nat.le_of_ble_eq_true rfl, Nat.le_of_ble_eq_true rfl⟩ ⟨Nat.le_refl _, Nat.le_refl _⟩ d_Fp_agree_121 (fun y121 => ?_)
            refine aw_istore (lo' := [(9, .int y121), (8, .int y84), (7, .int y73), (6, .int y51), (5, .ref 45), (4, .ref t5), (0, .ref 4), (1, .int a1), (2, .int a2), (3, .int a3)]) d_Fp_agree_124 (by decide) rfl ?_
            refine aw_iload_n d_Fp_agree_126 9 rfl ?_
            refine aw_if_ne (tgt := 155) d_Fp_agree_127 rfl (fun q127 => ?_) (fun q127 => ?_)
            · refine aw_aload d_Fp_agree_130 4 rfl ?_
              refine aw_getR (t := 48) fl_Fp_277 kd_45 rt_45_4 d_Fp_agree_132 ?_
              refine aw_iload d_Fp_agree_135 3 rfl ?_
              refine aw_S_p (As := [.ref 48, .int y51]) (m_Fp_get (congrArg Prod.fst kd_48)) cs_Fp_98 rfl rfl (Nat.le_of_ble_eq_true rfl) ⟨Nat.le_of_ble_eq_true rfl, Nat.le_of_ble_eq_true rfl⟩ ⟨Nat.le_refl _, Nat.le_refl _⟩ d_Fp_agree_137 (fun y137 => ?_)
              refine aw_aload d_Fp_agree_140 4 rfl ?_
              refine aw_getR (t := 48) fl_Fp_277 kd_45 rt_45_4 d_Fp_agree_142 ?_
              refine aw_iload d_Fp_agree_145 1 rfl ?_
              refine aw_S_p (As := [.ref 48, .int y84]) (m_Fp_get (congrArg Prod.fst kd_48)) cs_Fp_98 rfl rfl (Nat.le_of_ble_eq_true rfl) ⟨Nat.le_of_ble_eq_true rfl, Nat.le_of_ble_eq_true rfl⟩ ⟨Nat.le_refl _, Nat.le_refl _⟩ d_Fp_agree_147 (fun y147 => ?_)
              refine aw_isub d_Fp_agree_150 ?_
              refine aw_iload d_Fp_agree_151 0 rfl ?_
              refine aw_isub d_Fp_agree_153 ?_
              exact aw_iret rfl rfl ⟨Nat.le_refl _, Nat.le_refl _⟩ d_Fp_agree_154
            · refine aw_aload d_Fp_agree_155 4 rfl ?_
              refine aw_getR (t := 49) fl_Fp_280 kd_45 rt_45_5 d_Fp_agree_157 ?_
              refine aw_iload d_Fp_agree_160 3 rfl ?_
              refine aw_S_p (As := [.ref 49, .int y51]) (m_Fp_get (congrArg Prod.fst kd_49)) cs_Fp_98 rfl rfl (Nat.le_of_ble_eq_true rfl) ⟨Nat.le_of_ble_eq_true rfl, Nat.le_of_ble_eq_true rfl⟩ ⟨Nat.le_refl _, Nat.le_refl _⟩ d_Fp_agree_162 (fun y162 => ?_)
              refine aw_aload d_Fp_agree_165 4 rfl ?_
              refine aw_getR (t := 49) fl_Fp_280 kd_45 rt_45_5 d_Fp_agree_167 ?_
              refine aw_iload d_Fp_agree_170 1 rfl ?_
              refine aw_S_p (As := [.ref 49, .int y84]) (m_Fp_get (congrArg Prod.fst kd_49)) cs_Fp_98 rfl rfl (Nat.le_of_ble_eq_true rfl) ⟨Nat.le_of_ble_eq_true rfl, Nat.le_of_ble_eq_true rfl⟩ ⟨Nat.le_refl _, Nat.le_refl _⟩ d_Fp_agree_172 (fun y172 => ?_)
              refine aw_isub d_Fp_agree_175 ?_
              refine aw_aload d_Fp_agree_176 5 rfl ?_
              refine aw_getI fl_Fp_197 (fx_isBK ht5 0 (by decide)) d_Fp_agree_178 ?_
              refine aw_iload d_Fp_agree_181 0 rfl ?_
              refine aw_imul d_Fp_agree_183 ?_
              refine aw_isub d_Fp_agree_184 ?_
              exact aw_iret rfl rfl ⟨Nat.le_refl _, Nat.le_refl _⟩ d_Fp_agree_185
def f_Po_addClaim (a1 : Int32) (a2 : Int32) (a3 : Int32) (δ : Dm) : Option Dm := ((f_Fp_put 51 (gI δ 45 1) a1 δ).bind (fun y9 => ((f_Fp_put 52 (gI y9 45 1) a2 y9).bind (fun y21 => ((f_Fp_put 53 (gI y21 45 1) a3 y21).bind (fun y33 => (bnd (sI y33 45 1 ((gI y33 45 1) + (1 : Int32))) (fun δ_43 => (some δ_43)))))))))
set_option maxHeartbeats 4000000 in
set_option maxRecDepth 100000 in
theorem m_Po_addClaim {a1 : Int32} {a2 : Int32} {a3 : Int32} {δ : Dm} {n : Nat} : ∀ x, f_Po_addClaim a1 a2 a3 δ = some x → AMet k_Po_addClaim 2 0 0 [.ref 45, .int a1, .int a2, .int a3] δ RT n (Kv RT n x) := by
  refine aw_start (lo := [(0, .ref 45), (1, .int a1), (2, .int a2), (3, .int a3)]) mok_Po_addClaim rfl (Nat.le_of_ble_eq_true rfl) ?_
  unfold f_Po_addClaim
  refine aw_aload_n d_Po_addClaim_0 0 rfl ?_
  refine aw_getR (t := 51) fl_Po_27 kd_45 rt_45_7 d_Po_addClaim_1 ?_
  refine aw_aload_n d_Po_addClaim_4 0 rfl ?_
  refine aw_getI fl_Po_40 kd_45 d_Po_addClaim_5 ?_
  refine aw_iload_n d_Po_addClaim_8 1 rfl ?_
  refine aw_SN_v (As := [.ref 51, .int (gI δ 45 1), .int a1]) (m_Fp_put (congrArg Prod.fst kd_51)) cs_Po_47 rfl rfl (Nat.le_of_ble_eq_true rfl) ⟨Nat.le_of_ble_eq_true rfl, Nat.le_of_ble_eq_true rfl⟩ ⟨Nat.le_refl _, Nat.le_refl _⟩ d_Po_addClaim_9 (fun y9 => ?_)
  refine aw_aload_n d_Po_addClaim_12 0 rfl ?_
  refine aw_getR (t := 52) fl_Po_30 kd_45 rt_45_8 d_Po_addClaim_13 ?_
  refine aw_aload_n d_Po_addClaim_16 0 rfl ?_
  refine aw_getI fl_Po_40 kd_45 d_Po_addClaim_17 ?_
  refine aw_iload_n d_Po_addClaim_20 2 rfl ?_
  refine aw_SN_v (As := [.ref 52, .int (gI y9 45 1), .int a2]) (m_Fp_put (congrArg Prod.fst kd_52)) cs_Po_47 rfl rfl (Nat.le_of_ble_eq_true rfl) ⟨Nat.le_of_ble_eq_true rfl, Nat.le_of_ble_eq_true rfl⟩ ⟨Nat.le_refl _, Nat.le_refl _⟩ d_Po_addClaim_21 (fun y21 => ?_)
  refine aw_aload_n d_Po_addClaim_24 0 rfl ?_
  refine aw_getR (t := 53) fl_Po_33 kd_45 rt_45_9 d_Po_addClaim_25 ?_
  refine aw_aload_n d_Po_addClaim_28 0 rfl ?_
  refine aw_getI fl_Po_40 kd_45 d_Po_addClaim_29 ?_
  refine aw_iload_n d_Po_addClaim_32 3 rfl ?_
  refine aw_SN_v (As := [.ref 53, .int (gI y21 45 1), .int a3]) (m_Fp_put (congrArg Prod.fst kd_53)) cs_Po_47 rfl rfl (Nat.le_of_ble_eq_true rfl) ⟨Nat.le_of_ble_eq_true rfl, Nat.le_of_ble_eq_true rfl⟩ ⟨Nat.le_refl _, Nat.le_refl _⟩ d_Po_addClaim_33 (fun y33 => ?_)
  refine aw_aload_n d_Po_addClaim_36 0 rfl ?_
  refine aw_dup d_Po_addClaim_37 rfl ?_
  refine aw_getI fl_Po_40 kd_45 d_Po_addClaim_38 ?_
  refine aw_iconst d_Po_addClaim_41 ki_1 ?_
  refine aw_iadd d_Po_addClaim_42 ?_
  refine aw_putI pf_Po_40 kd_45 d_Po_addClaim_43 ?_
  refine aw_bD (fun δ_43 => ?_)
  exact aw_vret rfl rfl ⟨Nat.le_refl _, Nat.le_refl _⟩ d_Po_addClaim_46
def f_Fp_claim (a1 : Int32) (a2 : Int32) (a3 : Int32) (δ : Dm) : Option (Int32 × Dm) := ((f_To_boothAt a2 δ).bind (fun o14 => ocs o14 (some ((-1 : Int32), δ)) (fun t14 => if isB t14 = true then ((f_Fp_within a3 (0 : Int32) (gI δ 29 0) δ).bind (fun y29 => (if y29 = 0 then (some ((-1 : Int32), δ)) else (if (gI δ 45 1) < (100 : Int32) then ((f_Fp_within a1 (0 : Int32) (31 : Int32) δ).bind (fun y51 => (if y51 = 0 then (some ((-1 : Int32), δ)) else ((f_Po_addClaim a1 a2 a3 δ).bind (fun y64 => (some (((gI y64 45 1) - (1 : Int32)), y64))))))) else (some ((-1 : Int32), δ)))))) else none)))
set_option maxHeartbeats 4000000 in
set_option maxRecDepth 100000 in
theorem m_Fp_claim {a1 : Int32} {a2 : Int32} {a3 : Int32} {δ : Dm} {n : Nat} : ∀ x, f_Fp_claim a1 a2 a3 δ = some x → AMet k_Fp_claim 3 0 0 [.ref 4, .int a1, .int a2, .int a3] δ RT n (Km RT n x) := by
  refine aw_start (lo := [(0, .ref 4), (1, .int a1), (2, .int a2), (3, .int a3)]) mok_Fp_claim rfl (Nat.le_of_ble_eq_true rfl) ?_
  unfold f_Fp_claim
  refine aw_aload_n d_Fp_claim_0 0 rfl ?_
  refine aw_getR (t := 29) fl_Fp_57 kd_4 rt_4_9 d_Fp_claim_1 ?_
  refine aw_getR (t := 45) fl_Fp_250 kd_29 rt_29_8 d_Fp_claim_4 ?_
  refine aw_astore (lo' := [(4, .ref 45), (0, .ref 4), (1, .int a1), (2, .int a2), (3, .int a3)]) d_Fp_claim_7 (by decide) rfl ?_
  refine aw_aload_n d_Fp_claim_9 1 rfl ?_
  refine aw_getR (t := 29) fl_Fp_57 kd_4 rt_4_9 d_Fp_claim_10 ?_
  refine aw_iload_n d_Fp_claim_13 3 rfl ?_
  refine aw_V_r (As := [.int a2]) (m_To_boothAt) cv_Fp_139 kd_29 rfl rfl rfl (Nat.le_of_ble_eq_true rfl) ⟨Nat.le_of_ble_eq_true rfl, Nat.le_of_ble_eq_true rfl⟩ ⟨Nat.le_refl _, Nat.le_refl _⟩ d_Fp_claim_14 ?_ (fun t14 => ?_)
  · refine aw_ifnullN (tgt := 45) d_Fp_claim_17 rfl ?_
    refine aw_iconst d_Fp_claim_45 ki_m1 ?_
    exact aw_iret rfl rfl ⟨Nat.le_refl _, Nat.le_refl _⟩ d_Fp_claim_46
  · refine aw_grd (fun ht14 => ?_)
    refine aw_ifnull d_Fp_claim_17 ?_
    refine aw_iload_n d_Fp_claim_20 4 rfl ?_
    refine aw_iconst d_Fp_claim_21 ki_0 ?_
    refine aw_aload_n d_Fp_claim_22 1 rfl ?_
    refine aw_getR (t := 29) fl_Fp_57 kd_4 rt_4_9 d_Fp_claim_23 ?_
    refine aw_getI fl_Fp_130 kd_29 d_Fp_claim_26 ?_
    refine aw_S_p (As := [.int a3, .int (0 : Int32), .int (gI δ 29 0)]) (m_Fp_within) cs_Fp_70 rfl rfl (Nat.le_of_ble_eq_true rfl) ⟨Nat.le_of_ble_eq_true rfl, Nat.le_of_ble_eq_true rfl⟩ ⟨Nat.le_refl _, Nat.le_refl _⟩ d_Fp_claim_29 (fun y29 => ?_)
    refine aw_if_eq (tgt := 45) d_Fp_claim_32 rfl (fun q32 => ?_) (fun q32 => ?_)
    · refine aw_iconst d_Fp_claim_45 ki_m1 ?_
      exact aw_iret rfl rfl ⟨Nat.le_refl _, Nat.le_refl _⟩ d_Fp_claim_46
    · refine aw_aload d_Fp_claim_35 0 rfl ?_
      refine aw_getI fl_Fp_283 kd_45 d_Fp_claim_37 ?_
      refine aw_bipush d_Fp_claim_40 kb_100 ?_
      refine aw_icmp_lt (tgt := 47) d_Fp_claim_42 rfl (fun q42 => ?_) (fun q42 => ?_)
      · refine aw_iload_n d_Fp_claim_47 2 rfl ?_
        refine aw_iconst d_Fp_claim_48 ki_0 ?_
        refine aw_bipush d_Fp_claim_49 kb_31 ?_
        refine aw_S_p (As := [.int a1, .int (0 : Int32), .int (31 : Int32)]) (m_Fp_within) cs_Fp_70 rfl rfl (Nat.le_of_ble_eq_true rfl) ⟨Nat.le_of_ble_eq_true rfl, Nat.le_of_ble_eq_true rfl⟩ ⟨Nat.le_refl _, Nat.le_refl _⟩ d_Fp_claim_51 (fun y51 => ?_)
        refine aw_if_ne (tgt := 59) d_Fp_claim_54 rfl (fun q54 => ?_) (fun q54 => ?_)
        · refine aw_iconst d_Fp_claim_57 ki_m1 ?_
          exact aw_iret rfl rfl ⟨Nat.le_refl _, Nat.le_refl _⟩ d_Fp_claim_58
        · refine aw_aload d_Fp_claim_59 0 rfl ?_
          refine aw_iload_n d_Fp_claim_61 2 rfl ?_
          refine aw_iload_n d_Fp_claim_62 3 rfl ?_
          refine aw_iload_n d_Fp_claim_63 4 rfl ?_
          refine aw_V_v (As := [.int a1, .int a2, .int a3]) (m_Po_addClaim) cv_Fp_286 kd_45 rfl rfl rfl (Nat.le_of_ble_eq_true rfl) ⟨Nat.le_of_ble_eq_true rfl, Nat.le_of_ble_eq_true rfl⟩ ⟨Nat.le_refl _, Nat.le_refl _⟩ d_Fp_claim_64 (fun y64 => ?_)
          refine aw_aload d_Fp_claim_67 0 rfl ?_
          refine aw_getI fl_Fp_283 kd_45 d_Fp_claim_69 ?_
          refine aw_iconst d_Fp_claim_72 ki_1 ?_
          refine aw_isub d_Fp_claim_73 ?_
          exact aw_iret rfl rfl ⟨Nat.le_refl _, Nat.le_refl _⟩ d_Fp_claim_74
      · refine aw_iconst d_Fp_claim_45 ki_m1 ?_
        exact aw_iret rfl rfl ⟨Nat.le_refl _, Nat.le_refl _⟩ d_Fp_claim_46
def lp_Di_spoiltOn_5 (kx5_58 : Int32 → Int32 → Option Int32) (a1 : Int32) (a2 : Int32) (δ : Dm) : Nat → Int32 → Int32 → Option Int32
  | 0, _, _ => none
  | f + 1, v3_5, v4_5 => (if (gI δ 34 0) ≤ v4_5 then (kx5_58 v3_5 v4_5) else ((f_Di_isOf v4_5 a1 δ).bind (fun y18 => (if y18 = 0 then (lp_Di_spoiltOn_5 kx5_58 a1 a2 δ f v3_5 (v4_5 + (1 : Int32))) else ((f_Fp_get 36 v4_5 δ).bind (fun y30 => (if y30 = a2 then ((f_Fp_get 37 v4_5 δ).bind (fun y43 => (if y43 = 0 then (lp_Di_spoiltOn_5 kx5_58 a1 a2 δ f v3_5 (v4_5 + (1 : Int32))) else (lp_Di_spoiltOn_5 kx5_58 a1 a2 δ f (v3_5 + (1 : Int32)) (v4_5 + (1 : Int32)))))) else (lp_Di_spoiltOn_5 kx5_58 a1 a2 δ f v3_5 (v4_5 + (1 : Int32))))))))))
set_option maxHeartbeats 4000000 in
set_option maxRecDepth 100000 in
theorem tl_Di_spoiltOn_5 {n : Nat} (kx5_58 : Int32 → Int32 → Option Int32) (a1 : Int32) (a2 : Int32) (δ : Dm) (hkx5_58 : ∀ v3_5k v4_5k, AWo k_Di_spoiltOn 3 0 0 58 [(0, .ref 34), (1, .int a1), (2, .int a2), (3, .int v3_5k), (4, .int v4_5k)] [] δ RT n 0 0 (Kp δ RT n) (kx5_58 v3_5k v4_5k)) : ∀ (f : Nat) (v3_5 : Int32) (v4_5 : Int32), AWo k_Di_spoiltOn 3 0 0 5 [(0, .ref 34), (1, .int a1), (2, .int a2), (3, .int v3_5), (4, .int v4_5)] [] δ RT n 0 0 (Kp δ RT n) (lp_Di_spoiltOn_5 kx5_58 a1 a2 δ f v3_5 v4_5) := by
  intro f
  induction f with
  | zero => intro _ _; exact aw_none
  | succ f ih =>
    intro v3_5 v4_5
    rw [lp_Di_spoiltOn_5]
    refine aw_iload d_Di_spoiltOn_5 4 rfl ?_
    refine aw_aload_n d_Di_spoiltOn_7 0 rfl ?_
    refine aw_getI fl_Di_42 kd_34 d_Di_spoiltOn_8 ?_
    refine aw_icmp_ge (tgt := 58) d_Di_spoiltOn_11 rfl (fun q11 => ?_) (fun q11 => ?_)
    · refine aw_sub (lo' := [(0, .ref 34), (1, .int a1), (2, .int a2), (3, .int v3_5), (4, .int v4_5)]) [0, 1, 2, 3, 4] rfl ?_
      exact hkx5_58 _ _
    · refine aw_aload_n d_Di_spoiltOn_14 0 rfl ?_
      refine aw_iload d_Di_spoiltOn_15 4 rfl ?_
      refine aw_iload_n d_Di_spoiltOn_17 1 rfl ?_
      refine aw_V_p (As := [.int v4_5, .int a1]) (m_Di_isOf) cv_Di_68 kd_34 rfl rfl rfl (Nat.le_of_ble_eq_true rfl) ⟨Nat.le_of_ble_eq_true rfl, Nat.le_of_ble_eq_true rfl⟩ ⟨Nat.le_refl _, Nat.le_refl _⟩ d_Di_spoiltOn_18 (fun y18 => ?_)
      refine aw_if_eq (tgt := 52) d_Di_spoiltOn_21 rfl (fun q21 => ?_) (fun q21 => ?_)
      · refine aw_iinc (v := (v4_5 + (1 : Int32))) (lo' := [(4, .int (v4_5 + (1 : Int32))), (0, .ref 34), (1, .int a1), (2, .int a2), (3, .int v3_5)]) d_Di_spoiltOn_52 4 rfl (by rw [show Int32.ofInt (1) = (1 : Int32) from by decide]) (by decide) rfl ?_
        refine aw_goto (tgt := 5) d_Di_spoiltOn_55 rfl ?_
        refine aw_sub (lo' := [(0, .ref 34), (1, .int a1), (2, .int a2), (3, .int v3_5), (4, .int (v4_5 + (1 : Int32)))]) [1, 2, 3, 4, 0] rfl ?_
        exact ih _ _
      · refine aw_aload_n d_Di_spoiltOn_24 0 rfl ?_
        refine aw_getR (t := 36) fl_Di_15 kd_34 rt_34_4 d_Di_spoiltOn_25 ?_
        refine aw_iload d_Di_spoiltOn_28 4 rfl ?_
        refine aw_SN_p (As := [.ref 36, .int v4_5]) (m_Fp_get (congrArg Prod.fst kd_36)) cs_Di_64 rfl rfl (Nat.le_of_ble_eq_true rfl) ⟨Nat.le_of_ble_eq_true rfl, Nat.le_of_ble_eq_true rfl⟩ ⟨Nat.le_refl _, Nat.le_refl _⟩ d_Di_spoiltOn_30 (fun y30 => ?_)
        refine aw_iload_n d_Di_spoiltOn_33 2 rfl ?_
        refine aw_icmp_ne (tgt := 52) d_Di_spoiltOn_34 rfl (fun q34 => ?_) (fun q34 => ?_)
        · refine aw_aload_n d_Di_spoiltOn_37 0 rfl ?_
          refine aw_getR (t := 37) fl_Di_18 kd_34 rt_34_5 d_Di_spoiltOn_38 ?_
          refine aw_iload d_Di_spoiltOn_41 4 rfl ?_
          refine aw_SN_p (As := [.ref 37, .int v4_5]) (m_Fp_get (congrArg Prod.fst kd_37)) cs_Di_64 rfl rfl (Nat.le_of_ble_eq_true rfl) ⟨Nat.le_of_ble_eq_true rfl, Nat.le_of_ble_eq_true rfl⟩ ⟨Nat.le_refl _, Nat.le_refl _⟩ d_Di_spoiltOn_43 (fun y43 => ?_)
          refine aw_if_eq (tgt := 52) d_Di_spoiltOn_46 rfl (fun q46 => ?_) (fun q46 => ?_)
          · refine aw_iinc (v := (v4_5 + (1 : Int32))) (lo' := [(4, .int (v4_5 + (1 : Int32))), (0, .ref 34), (1, .int a1), (2, .int a2), (3, .int v3_5)]) d_Di_spoiltOn_52 4 rfl (by rw [show Int32.ofInt (1) = (1 : Int32) from by decide]) (by decide) rfl ?_
            refine aw_goto (tgt := 5) d_Di_spoiltOn_55 rfl ?_
            refine aw_sub (lo' := [(0, .ref 34), (1, .int a1), (2, .int a2), (3, .int v3_5), (4, .int (v4_5 + (1 : Int32)))]) [1, 2, 3, 4, 0] rfl ?_
            exact ih _ _
          · refine aw_iinc (v := (v3_5 + (1 : Int32))) (lo' := [(3, .int (v3_5 + (1 : Int32))), (0, .ref 34), (1, .int a1), (2, .int a2), (4, .int v4_5)]) d_Di_spoiltOn_49 3 rfl (by rw [show Int32.ofInt (1) = (1 : Int32) from by decide]) (by decide) rfl ?_
            refine aw_iinc (v := (v4_5 + (1 : Int32))) (lo' := [(4, .int (v4_5 + (1 : Int32))), (3, .int (v3_5 + (1 : Int32))), (0, .ref 34), (1, .int a1), (2, .int a2)]) d_Di_spoiltOn_52 4 rfl (by rw [show Int32.ofInt (1) = (1 : Int32) from by decide]) (by decide) rfl ?_
            refine aw_goto (tgt := 5) d_Di_spoiltOn_55 rfl ?_
            refine aw_sub (lo' := [(0, .ref 34), (1, .int a1), (2, .int a2), (3, .int (v3_5 + (1 : Int32))), (4, .int (v4_5 + (1 : Int32)))]) [2, 3, 4, 1, 0] rfl ?_
            exact ih _ _
        · refine aw_iinc (v := (v4_5 + (1 : Int32))) (lo' := [(4, .int (v4_5 + (1 : Int32))), (0, .ref 34), (1, .int a1), (2, .int a2), (3, .int v3_5)]) d_Di_spoiltOn_52 4 rfl (by rw [show Int32.ofInt (1) = (1 : Int32) from by decide]) (by decide) rfl ?_
          refine aw_goto (tgt := 5) d_Di_spoiltOn_55 rfl ?_
          refine aw_sub (lo' := [(0, .ref 34), (1, .int a1), (2, .int a2), (3, .int v3_5), (4, .int (v4_5 + (1 : Int32)))]) [1, 2, 3, 4, 0] rfl ?_
          exact ih _ _
def f_Di_spoiltOn (a1 : Int32) (a2 : Int32) (δ : Dm) : Option Int32 := (lp_Di_spoiltOn_5 (fun v3_5x v4_5x => (some v3_5x)) a1 a2 δ FU (0 : Int32) (0 : Int32))
set_option maxHeartbeats 4000000 in
set_option maxRecDepth 100000 in
theorem m_Di_spoiltOn {a1 : Int32} {a2 : Int32} {δ : Dm} {n : Nat} : ∀ x, f_Di_spoiltOn a1 a2 δ = some x → AMet k_Di_spoiltOn 3 0 0 [.ref 34, .int a1, .int a2] δ RT n (Kp δ RT n x) := by
  refine aw_start (lo := [(0, .ref 34), (1, .int a1), (2, .int a2)]) mok_Di_spoiltOn rfl (Nat.le_of_ble_eq_true rfl) ?_
  unfold f_Di_spoiltOn
  refine aw_iconst d_Di_spoiltOn_0 ki_0 ?_
  refine aw_istore_n (lo' := [(3, .int (0 : Int32)), (0, .ref 34), (1, .int a1), (2, .int a2)]) d_Di_spoiltOn_1 rfl (by decide) rfl ?_
  refine aw_iconst d_Di_spoiltOn_2 ki_0 ?_
  refine aw_istore (lo' := [(4, .int (0 : Int32)), (3, .int (0 : Int32)), (0, .ref 34), (1, .int a1), (2, .int a2)]) d_Di_spoiltOn_3 (by decide) rfl ?_
  refine aw_sub (lo' := [(0, .ref 34), (1, .int a1), (2, .int a2), (3, .int (0 : Int32)), (4, .int (0 : Int32))]) [2, 3, 4, 1, 0] rfl ?_
  refine tl_Di_spoiltOn_5 _ _ _ _ (fun v3_5x v4_5x => ?_) FU _ _
  · refine aw_iload_n d_Di_spoiltOn_58 3 rfl ?_
    exact aw_iret rfl rfl ⟨Nat.le_refl _, Nat.le_refl _⟩ d_Di_spoiltOn_59
def jp_Po_claimsAhead_33 (kr4 : Int32 → Int32 → Option Int32) (kx4_68 : Int32 → Int32 → Option Int32) (a1 : Int32) (v2_4 : Int32) (v3_4 : Int32) (δ : Dm) (s0_33 : Int32) : Option Int32 := (if s0_33 = 0 then (kr4 v2_4 (v3_4 + (1 : Int32))) else ((f_Fp_get 53 v3_4 δ).bind (fun y45 => ((f_Fp_get 53 a1 δ).bind (fun y53 => (if y45 = y53 then (kr4 (v2_4 + (1 : Int32)) (v3_4 + (1 : Int32))) else (kr4 v2_4 (v3_4 + (1 : Int32)))))))))
set_option maxHeartbeats 4000000 in
set_option maxRecDepth 100000 in
theorem tj_Po_claimsAhead_33 {n : Nat} (kr4 : Int32 → Int32 → Option Int32) (kx4_68 : Int32 → Int32 → Option Int32) (a1 : Int32) (v2_4 : Int32) (v3_4 : Int32) (δ : Dm) (s0_33 : Int32) (hkr4 : ∀ v2_4k v3_4k, AWo k_Po_claimsAhead 2 0 0 4 [(0, .ref 45), (1, .int a1), (2, .int v2_4k), (3, .int v3_4k)] [] δ RT n 0 0 (Kp δ RT n) (kr4 v2_4k v3_4k)) (hkx4_68 : ∀ v2_4k v3_4k, AWo k_Po_claimsAhead 2 0 0 68 [(0, .ref 45), (1, .int a1), (2, .int v2_4k), (3, .int v3_4k)] [] δ RT n 0 0 (Kp δ RT n) (kx4_68 v2_4k v3_4k)) : AWo k_Po_claimsAhead 2 0 0 33 [(0, .ref 45), (1, .int a1), (2, .int v2_4), (3, .int v3_4)] [.int s0_33] δ RT n 0 0 (Kp δ RT n) (jp_Po_claimsAhead_33 kr4 kx4_68 a1 v2_4 v3_4 δ s0_33) := by
  unfold jp_Po_claimsAhead_33
  refine aw_istore (lo' := [(4, .int s0_33), (0, .ref 45), (1, .int a1), (2, .int v2_4), (3, .int v3_4)]) d_Po_claimsAhead_33 (by decide) rfl ?_
  refine aw_iload d_Po_claimsAhead_35 0 rfl ?_
  refine aw_if_eq (tgt := 62) d_Po_claimsAhead_37 rfl (fun q37 => ?_) (fun q37 => ?_)
  · refine aw_iinc (v := (v3_4 + (1 : Int32))) (lo' := [(3, .int (v3_4 + (1 : Int32))), (4, .int s0_33), (0, .ref 45), (1, .int a1), (2, .int v2_4)]) d_Po_claimsAhead_62 4 rfl (by rw [show Int32.ofInt (1) = (1 : Int32) from by decide]) (by decide) rfl ?_
    refine aw_goto (tgt := 4) d_Po_claimsAhead_65 rfl ?_
    refine aw_sub (lo' := [(0, .ref 45), (1, .int a1), (2, .int v2_4), (3, .int (v3_4 + (1 : Int32)))]) [2, 3, 4, 0] rfl ?_
    exact hkr4 _ _
  · refine aw_aload_n d_Po_claimsAhead_40 1 rfl ?_
    refine aw_getR (t := 53) fl_Po_33 kd_45 rt_45_9 d_Po_claimsAhead_41 ?_
    refine aw_iload_n d_Po_claimsAhead_44 4 rfl ?_
    refine aw_SN_p (As := [.ref 53, .int v3_4]) (m_Fp_get (congrArg Prod.fst kd_53)) cs_Po_51 rfl rfl (Nat.le_of_ble_eq_true rfl) ⟨Nat.le_of_ble_eq_true rfl, Nat.le_of_ble_eq_true rfl⟩ ⟨Nat.le_refl _, Nat.le_refl _⟩ d_Po_claimsAhead_45 (fun y45 => ?_)
    refine aw_aload_n d_Po_claimsAhead_48 1 rfl ?_
    refine aw_getR (t := 53) fl_Po_33 kd_45 rt_45_9 d_Po_claimsAhead_49 ?_
    refine aw_iload_n d_Po_claimsAhead_52 2 rfl ?_
    refine aw_SN_p (As := [.ref 53, .int a1]) (m_Fp_get (congrArg Prod.fst kd_53)) cs_Po_51 rfl rfl (Nat.le_of_ble_eq_true rfl) ⟨Nat.le_of_ble_eq_true rfl, Nat.le_of_ble_eq_true rfl⟩ ⟨Nat.le_refl _, Nat.le_refl _⟩ d_Po_claimsAhead_53 (fun y53 => ?_)
    refine aw_icmp_ne (tgt := 62) d_Po_claimsAhead_56 rfl (fun q56 => ?_) (fun q56 => ?_)
    · refine aw_iinc (v := (v2_4 + (1 : Int32))) (lo' := [(2, .int (v2_4 + (1 : Int32))), (4, .int s0_33), (0, .ref 45), (1, .int a1), (3, .int v3_4)]) d_Po_claimsAhead_59 3 rfl (by rw [show Int32.ofInt (1) = (1 : Int32) from by decide]) (by decide) rfl ?_
      refine aw_iinc (v := (v3_4 + (1 : Int32))) (lo' := [(3, .int (v3_4 + (1 : Int32))), (2, .int (v2_4 + (1 : Int32))), (4, .int s0_33), (0, .ref 45), (1, .int a1)]) d_Po_claimsAhead_62 4 rfl (by rw [show Int32.ofInt (1) = (1 : Int32) from by decide]) (by decide) rfl ?_
      refine aw_goto (tgt := 4) d_Po_claimsAhead_65 rfl ?_
      refine aw_sub (lo' := [(0, .ref 45), (1, .int a1), (2, .int (v2_4 + (1 : Int32))), (3, .int (v3_4 + (1 : Int32)))]) [3, 4, 1, 0] rfl ?_
      exact hkr4 _ _
    · refine aw_iinc (v := (v3_4 + (1 : Int32))) (lo' := [(3, .int (v3_4 + (1 : Int32))), (4, .int s0_33), (0, .ref 45), (1, .int a1), (2, .int v2_4)]) d_Po_claimsAhead_62 4 rfl (by rw [show Int32.ofInt (1) = (1 : Int32) from by decide]) (by decide) rfl ?_
      refine aw_goto (tgt := 4) d_Po_claimsAhead_65 rfl ?_
      refine aw_sub (lo' := [(0, .ref 45), (1, .int a1), (2, .int v2_4), (3, .int (v3_4 + (1 : Int32)))]) [2, 3, 4, 0] rfl ?_
      exact hkr4 _ _
def lp_Po_claimsAhead_4 (kx4_68 : Int32 → Int32 → Option Int32) (a1 : Int32) (δ : Dm) : Nat → Int32 → Int32 → Option Int32
  | 0, _, _ => none
  | f + 1, v2_4, v3_4 => (if a1 ≤ v3_4 then (kx4_68 v2_4 v3_4) else ((f_Fp_get 52 v3_4 δ).bind (fun y14 => ((f_Fp_get 52 a1 δ).bind (fun y22 => (if y14 = y22 then (jp_Po_claimsAhead_33 (lp_Po_claimsAhead_4 kx4_68 a1 δ f) kx4_68 a1 v2_4 v3_4 δ (1 : Int32)) else (jp_Po_claimsAhead_33 (lp_Po_claimsAhead_4 kx4_68 a1 δ f) kx4_68 a1 v2_4 v3_4 δ (0 : Int32))))))))
set_option maxHeartbeats 4000000 in
set_option maxRecDepth 100000 in
theorem tl_Po_claimsAhead_4 {n : Nat} (kx4_68 : Int32 → Int32 → Option Int32) (a1 : Int32) (δ : Dm) (hkx4_68 : ∀ v2_4k v3_4k, AWo k_Po_claimsAhead 2 0 0 68 [(0, .ref 45), (1, .int a1), (2, .int v2_4k), (3, .int v3_4k)] [] δ RT n 0 0 (Kp δ RT n) (kx4_68 v2_4k v3_4k)) : ∀ (f : Nat) (v2_4 : Int32) (v3_4 : Int32), AWo k_Po_claimsAhead 2 0 0 4 [(0, .ref 45), (1, .int a1), (2, .int v2_4), (3, .int v3_4)] [] δ RT n 0 0 (Kp δ RT n) (lp_Po_claimsAhead_4 kx4_68 a1 δ f v2_4 v3_4) := by
  intro f
  induction f with
  | zero => intro _ _; exact aw_none
  | succ f ih =>
    intro v2_4 v3_4
    rw [lp_Po_claimsAhead_4]
    refine aw_iload_n d_Po_claimsAhead_4 3 rfl ?_
    refine aw_iload_n d_Po_claimsAhead_5 1 rfl ?_
    refine aw_icmp_ge (tgt := 68) d_Po_claimsAhead_6 rfl (fun q6 => ?_) (fun q6 => ?_)
    · refine aw_sub (lo' := [(0, .ref 45), (1, .int a1), (2, .int v2_4), (3, .int v3_4)]) [0, 1, 2, 3] rfl ?_
      exact hkx4_68 _ _
    · refine aw_aload_n d_Po_claimsAhead_9 0 rfl ?_
      refine aw_getR (t := 52) fl_Po_30 kd_45 rt_45_8 d_Po_claimsAhead_10 ?_
      refine aw_iload_n d_Po_claimsAhead_13 3 rfl ?_
      refine aw_SN_p (As := [.ref 52, .int v3_4]) (m_Fp_get (congrArg Prod.fst kd_52)) cs_Po_51 rfl rfl (Nat.le_of_ble_eq_true rfl) ⟨Nat.le_of_ble_eq_true rfl, Nat.le_of_ble_eq_true rfl⟩ ⟨Nat.le_refl _, Nat.le_refl _⟩ d_Po_claimsAhead_14 (fun y14 => ?_)
      refine aw_aload_n d_Po_claimsAhead_17 0 rfl ?_
      refine aw_getR (t := 52) fl_Po_30 kd_45 rt_45_8 d_Po_claimsAhead_18 ?_
      refine aw_iload_n d_Po_claimsAhead_21 1 rfl ?_
      refine aw_SN_p (As := [.ref 52, .int a1]) (m_Fp_get (congrArg Prod.fst kd_52)) cs_Po_51 rfl rfl (Nat.le_of_ble_eq_true rfl) ⟨Nat.le_of_ble_eq_true rfl, Nat.le_of_ble_eq_true rfl⟩ ⟨Nat.le_refl _, Nat.le_refl _⟩ d_Po_claimsAhead_22 (fun y22 => ?_)
      refine aw_icmp_ne (tgt := 32) d_Po_claimsAhead_25 rfl (fun q25 => ?_) (fun q25 => ?_)
      · refine aw_iconst d_Po_claimsAhead_28 ki_1 ?_
        refine aw_goto (tgt := 33) d_Po_claimsAhead_29 rfl ?_
        refine aw_sub (lo' := [(0, .ref 45), (1, .int a1), (2, .int v2_4), (3, .int v3_4)]) [0, 1, 2, 3] rfl ?_
        exact tj_Po_claimsAhead_33 _ _ _ _ _ _ _ ih hkx4_68
      · refine aw_iconst d_Po_claimsAhead_32 ki_0 ?_
        refine aw_sub (lo' := [(0, .ref 45), (1, .int a1), (2, .int v2_4), (3, .int v3_4)]) [0, 1, 2, 3] rfl ?_
        exact tj_Po_claimsAhead_33 _ _ _ _ _ _ _ ih hkx4_68
def f_Po_claimsAhead (a1 : Int32) (δ : Dm) : Option Int32 := (lp_Po_claimsAhead_4 (fun v2_4x v3_4x => (some v2_4x)) a1 δ FU (0 : Int32) (0 : Int32))
set_option maxHeartbeats 4000000 in
set_option maxRecDepth 100000 in
theorem m_Po_claimsAhead {a1 : Int32} {δ : Dm} {n : Nat} : ∀ x, f_Po_claimsAhead a1 δ = some x → AMet k_Po_claimsAhead 2 0 0 [.ref 45, .int a1] δ RT n (Kp δ RT n x) := by
  refine aw_start (lo := [(0, .ref 45), (1, .int a1)]) mok_Po_claimsAhead rfl (Nat.le_of_ble_eq_true rfl) ?_
  unfold f_Po_claimsAhead
  refine aw_iconst d_Po_claimsAhead_0 ki_0 ?_
  refine aw_istore_n (lo' := [(2, .int (0 : Int32)), (0, .ref 45), (1, .int a1)]) d_Po_claimsAhead_1 rfl (by decide) rfl ?_
  refine aw_iconst d_Po_claimsAhead_2 ki_0 ?_
  refine aw_istore_n (lo' := [(3, .int (0 : Int32)), (2, .int (0 : Int32)), (0, .ref 45), (1, .int a1)]) d_Po_claimsAhead_3 rfl (by decide) rfl ?_
  refine aw_sub (lo' := [(0, .ref 45), (1, .int a1), (2, .int (0 : Int32)), (3, .int (0 : Int32))]) [2, 3, 1, 0] rfl ?_
  refine tl_Po_claimsAhead_4 _ _ _ (fun v2_4x v3_4x => ?_) FU _ _
  · refine aw_iload_n d_Po_claimsAhead_68 2 rfl ?_
    exact aw_iret rfl rfl ⟨Nat.le_refl _, Nat.le_refl _⟩ d_Po_claimsAhead_69
end
