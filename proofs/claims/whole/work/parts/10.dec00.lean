noncomputable section
def lp_Ar_fill_II_5 (kx5_20 : Int32 → Dm → Option Dm) (a0 : Nat) (a1 : Int32) (v4 : Int32) : Nat → Int32 → Dm → Option Dm
  | 0, _, _ => none
  | f + 1, v2_5, δ5 => (if v4 ≤ v2_5 then (kx5_20 v2_5 δ5) else (if inb v2_5 (KD a0).2 then bnd (sI δ5 a0 (ix v2_5) a1) (fun δ_13 => (lp_Ar_fill_II_5 kx5_20 a0 a1 v4 f (v2_5 + (1 : Int32)) δ_13)) else none))
set_option maxHeartbeats 4000000 in
set_option maxRecDepth 100000 in
theorem tl_Ar_fill_II_5 {n : Nat} (kx5_20 : Int32 → Dm → Option Dm) (a0 : Nat) (a1 : Int32) (v4 : Int32) (ha0 : (KD a0).1 = 1) (hkx5_20 : ∀ v2_5k δ5k, AWo k_Ar_fill_II 1 0 0 20 [(0, .ref a0), (1, .int a1), (2, .int v2_5k), (3, .int v4)] [] δ5k RT n 0 0 (Kv RT n) (kx5_20 v2_5k δ5k)) : ∀ (f : Nat) (v2_5 : Int32) (δ5 : Dm), AWo k_Ar_fill_II 1 0 0 5 [(0, .ref a0), (1, .int a1), (2, .int v2_5), (3, .int v4)] [] δ5 RT n 0 0 (Kv RT n) (lp_Ar_fill_II_5 kx5_20 a0 a1 v4 f v2_5 δ5) := by
  intro f
  induction f with
  | zero => intro _ _; exact aw_none
  | succ f ih =>
    intro v2_5 δ5
    rw [lp_Ar_fill_II_5]
    refine aw_iload_n d_Ar_fill_II_5 2 rfl ?_
    refine aw_iload_n d_Ar_fill_II_6 3 rfl ?_
    refine aw_icmp_ge (tgt := 20) d_Ar_fill_II_7 rfl (fun q7 => ?_) (fun q7 => ?_)
    · refine aw_sub (lo' := [(0, .ref a0), (1, .int a1), (2, .int v2_5), (3, .int v4)]) [0, 1, 2, 3] rfl ?_
      exact hkx5_20 _ _
    · refine aw_aload_n d_Ar_fill_II_10 0 rfl ?_
      refine aw_iload_n d_Ar_fill_II_11 2 rfl ?_
      refine aw_iload_n d_Ar_fill_II_12 1 rfl ?_
      refine aw_iast (kdE ha0) d_Ar_fill_II_13 ?_
      refine aw_bD (fun δ_13 => ?_)
      refine aw_iinc (v := (v2_5 + (1 : Int32))) (lo' := [(2, .int (v2_5 + (1 : Int32))), (0, .ref a0), (1, .int a1), (3, .int v4)]) d_Ar_fill_II_14 2 rfl (by rw [show Int32.ofInt (1) = (1 : Int32) from by decide]) (by decide) rfl ?_
      refine aw_goto (tgt := 5) d_Ar_fill_II_17 rfl ?_
      refine aw_sub (lo' := [(0, .ref a0), (1, .int a1), (2, .int (v2_5 + (1 : Int32))), (3, .int v4)]) [1, 2, 0, 3] rfl ?_
      exact ih _ _
def f_Ar_fill_II (a0 : Nat) (a1 : Int32) (δ : Dm) : Option Dm := (bnd (nI (KD a0).2) (fun v4 => (lp_Ar_fill_II_5 (fun v2_5x δ5x => (some δ5x)) a0 a1 v4 FU (0 : Int32) δ)))
set_option maxHeartbeats 4000000 in
set_option maxRecDepth 100000 in
theorem m_Ar_fill_II {a0 : Nat} {a1 : Int32} {δ : Dm} {n : Nat} (ha0 : (KD a0).1 = 1) : ∀ x, f_Ar_fill_II a0 a1 δ = some x → AMet k_Ar_fill_II 1 0 0 [.ref a0, .int a1] δ RT n (Kv RT n x) := by
  refine aw_start (lo := [(0, .ref a0), (1, .int a1)]) mok_Ar_fill_II rfl (Nat.le_of_ble_eq_true rfl) ?_
  unfold f_Ar_fill_II
  refine aw_iconst d_Ar_fill_II_0 ki_0 ?_
  refine aw_istore_n (lo' := [(2, .int (0 : Int32)), (0, .ref a0), (1, .int a1)]) d_Ar_fill_II_1 rfl (by decide) rfl ?_
  refine aw_aload_n d_Ar_fill_II_2 1 rfl ?_
  refine aw_alen (v := (nI (KD a0).2)) (kdE ha0) ⟨by decide, by decide⟩ rfl d_Ar_fill_II_3 ?_
  refine aw_bI (fun v4 => ?_)
  refine aw_istore_n (lo' := [(3, .int v4), (2, .int (0 : Int32)), (0, .ref a0), (1, .int a1)]) d_Ar_fill_II_4 rfl (by decide) rfl ?_
  refine aw_sub (lo' := [(0, .ref a0), (1, .int a1), (2, .int (0 : Int32)), (3, .int v4)]) [2, 3, 1, 0] rfl ?_
  refine tl_Ar_fill_II_5 _ _ _ _ ha0 (fun v2_5x δ5x => ?_) FU _ _
  · exact aw_vret rfl rfl ⟨Nat.le_refl _, Nat.le_refl _⟩ d_Ar_fill_II_20
def f_Fp_within (a0 : Int32) (a1 : Int32) (a2 : Int32) (δ : Dm) : Option Int32 := (if a0 < a1 then (some (0 : Int32)) else (if a2 < a0 then (some (0 : Int32)) else (some (1 : Int32))))
set_option maxHeartbeats 4000000 in
set_option maxRecDepth 100000 in
theorem m_Fp_within {a0 : Int32} {a1 : Int32} {a2 : Int32} {δ : Dm} {n : Nat} : ∀ x, f_Fp_within a0 a1 a2 δ = some x → AMet k_Fp_within 1 0 0 [.int a0, .int a1, .int a2] δ RT n (Kp δ RT n x) := by
  refine aw_start (lo := [(0, .int a0), (1, .int a1), (2, .int a2)]) mok_Fp_within rfl (Nat.le_of_ble_eq_true rfl) ?_
  unfold f_Fp_within
  refine aw_iload_n d_Fp_within_0 0 rfl ?_
  refine aw_iload_n d_Fp_within_1 1 rfl ?_
  refine aw_icmp_lt (tgt := 14) d_Fp_within_2 rfl (fun q2 => ?_) (fun q2 => ?_)
  · refine aw_iconst d_Fp_within_14 ki_0 ?_
    exact aw_zret rfl rfl rfl ⟨Nat.le_refl _, Nat.le_refl _⟩ d_Fp_within_15
  · refine aw_iload_n d_Fp_within_5 0 rfl ?_
    refine aw_iload_n d_Fp_within_6 2 rfl ?_
    refine aw_icmp_gt (tgt := 14) d_Fp_within_7 rfl (fun q7 => ?_) (fun q7 => ?_)
    · refine aw_iconst d_Fp_within_14 ki_0 ?_
      exact aw_zret rfl rfl rfl ⟨Nat.le_refl _, Nat.le_refl _⟩ d_Fp_within_15
    · refine aw_iconst d_Fp_within_10 ki_1 ?_
      refine aw_goto (tgt := 15) d_Fp_within_11 rfl ?_
      exact aw_zret rfl rfl rfl ⟨Nat.le_refl _, Nat.le_refl _⟩ d_Fp_within_15
def f_Fp_put (a0 : Nat) (a1 : Int32) (a2 : Int32) (δ : Dm) : Option Dm := (if a1 < 0 then (some δ) else (if (nI (KD a0).2) ≤ a1 then (some δ) else (if inb a1 (KD a0).2 then bnd (sI δ a0 (ix a1) a2) (fun δ_13 => (some δ_13)) else none)))
set_option maxHeartbeats 4000000 in
set_option maxRecDepth 100000 in
theorem m_Fp_put {a0 : Nat} {a1 : Int32} {a2 : Int32} {δ : Dm} {n : Nat} (ha0 : (KD a0).1 = 1) : ∀ x, f_Fp_put a0 a1 a2 δ = some x → AMet k_Fp_put 1 0 0 [.ref a0, .int a1, .int a2] δ RT n (Kv RT n x) := by
  refine aw_start (lo := [(0, .ref a0), (1, .int a1), (2, .int a2)]) mok_Fp_put rfl (Nat.le_of_ble_eq_true rfl) ?_
  unfold f_Fp_put
  refine aw_iload_n d_Fp_put_0 1 rfl ?_
  refine aw_if_lt (tgt := 14) d_Fp_put_1 rfl (fun q1 => ?_) (fun q1 => ?_)
  · exact aw_vret rfl rfl ⟨Nat.le_refl _, Nat.le_refl _⟩ d_Fp_put_14
  · refine aw_iload_n d_Fp_put_4 1 rfl ?_
    refine aw_aload_n d_Fp_put_5 0 rfl ?_
    refine aw_alen (v := (nI (KD a0).2)) (kdE ha0) ⟨by decide, by decide⟩ rfl d_Fp_put_6 ?_
    refine aw_icmp_ge (tgt := 14) d_Fp_put_7 rfl (fun q7 => ?_) (fun q7 => ?_)
    · exact aw_vret rfl rfl ⟨Nat.le_refl _, Nat.le_refl _⟩ d_Fp_put_14
    · refine aw_aload_n d_Fp_put_10 0 rfl ?_
      refine aw_iload_n d_Fp_put_11 1 rfl ?_
      refine aw_iload_n d_Fp_put_12 2 rfl ?_
      refine aw_iast (kdE ha0) d_Fp_put_13 ?_
      refine aw_bD (fun δ_13 => ?_)
      exact aw_vret rfl rfl ⟨Nat.le_refl _, Nat.le_refl _⟩ d_Fp_put_14
def f_Fp_place (a1 : Int32) (δ : Dm) : Option (Int32 × Dm) := (if (12 : Int32) ≤ (gI δ 29 1) then (some ((-1 : Int32), δ)) else ((f_Fp_within a1 (0 : Int32) (99 : Int32) δ).bind (fun y16 => (if y16 = 0 then (some ((-1 : Int32), δ)) else ((f_Fp_put 31 (gI δ 29 1) a1 δ).bind (fun y39 => (bnd (sI y39 29 1 ((gI y39 29 1) + (1 : Int32))) (fun δ_52 => (some (((gI δ_52 29 1) - (1 : Int32)), δ_52))))))))))
set_option maxHeartbeats 4000000 in
set_option maxRecDepth 100000 in
theorem m_Fp_place {a1 : Int32} {δ : Dm} {n : Nat} : ∀ x, f_Fp_place a1 δ = some x → AMet k_Fp_place 2 0 0 [.ref 4, .int a1] δ RT n (Km RT n x) := by
  refine aw_start (lo := [(0, .ref 4), (1, .int a1)]) mok_Fp_place rfl (Nat.le_of_ble_eq_true rfl) ?_
  unfold f_Fp_place
  refine aw_aload_n d_Fp_place_0 0 rfl ?_
  refine aw_getR (t := 29) fl_Fp_57 kd_4 rt_4_9 d_Fp_place_1 ?_
  refine aw_getI fl_Fp_66 kd_29 d_Fp_place_4 ?_
  refine aw_bipush d_Fp_place_7 kb_12 ?_
  refine aw_icmp_ge (tgt := 22) d_Fp_place_9 rfl (fun q9 => ?_) (fun q9 => ?_)
  · refine aw_iconst d_Fp_place_22 ki_m1 ?_
    exact aw_iret rfl rfl ⟨Nat.le_refl _, Nat.le_refl _⟩ d_Fp_place_23
  · refine aw_iload_n d_Fp_place_12 1 rfl ?_
    refine aw_iconst d_Fp_place_13 ki_0 ?_
    refine aw_bipush d_Fp_place_14 kb_99 ?_
    refine aw_S_p (As := [.int a1, .int (0 : Int32), .int (99 : Int32)]) (m_Fp_within) cs_Fp_70 rfl rfl (Nat.le_of_ble_eq_true rfl) ⟨Nat.le_of_ble_eq_true rfl, Nat.le_of_ble_eq_true rfl⟩ ⟨Nat.le_refl _, Nat.le_refl _⟩ d_Fp_place_16 (fun y16 => ?_)
    refine aw_if_ne (tgt := 24) d_Fp_place_19 rfl (fun q19 => ?_) (fun q19 => ?_)
    · refine aw_iconst d_Fp_place_22 ki_m1 ?_
      exact aw_iret rfl rfl ⟨Nat.le_refl _, Nat.le_refl _⟩ d_Fp_place_23
    · refine aw_aload_n d_Fp_place_24 0 rfl ?_
      refine aw_getR (t := 29) fl_Fp_57 kd_4 rt_4_9 d_Fp_place_25 ?_
      refine aw_getR (t := 31) fl_Fp_74 kd_29 rt_29_4 d_Fp_place_28 ?_
      refine aw_aload_n d_Fp_place_31 0 rfl ?_
      refine aw_getR (t := 29) fl_Fp_57 kd_4 rt_4_9 d_Fp_place_32 ?_
      refine aw_getI fl_Fp_66 kd_29 d_Fp_place_35 ?_
      refine aw_iload_n d_Fp_place_38 1 rfl ?_
      refine aw_S_v (As := [.ref 31, .int (gI δ 29 1), .int a1]) (m_Fp_put (congrArg Prod.fst kd_31)) cs_Fp_77 rfl rfl (Nat.le_of_ble_eq_true rfl) ⟨Nat.le_of_ble_eq_true rfl, Nat.le_of_ble_eq_true rfl⟩ ⟨Nat.le_refl _, Nat.le_refl _⟩ d_Fp_place_39 (fun y39 => ?_)
      refine aw_aload_n d_Fp_place_42 0 rfl ?_
      refine aw_getR (t := 29) fl_Fp_57 kd_4 rt_4_9 d_Fp_place_43 ?_
      refine aw_dup d_Fp_place_46 rfl ?_
      refine aw_getI fl_Fp_66 kd_29 d_Fp_place_47 ?_
      refine aw_iconst d_Fp_place_50 ki_1 ?_
      refine aw_iadd d_Fp_place_51 ?_
      refine aw_putI pf_Fp_66 kd_29 d_Fp_place_52 ?_
      refine aw_bD (fun δ_52 => ?_)
      refine aw_aload_n d_Fp_place_55 0 rfl ?_
      refine aw_getR (t := 29) fl_Fp_57 kd_4 rt_4_9 d_Fp_place_56 ?_
      refine aw_getI fl_Fp_66 kd_29 d_Fp_place_59 ?_
      refine aw_iconst d_Fp_place_62 ki_1 ?_
      refine aw_isub d_Fp_place_63 ?_
      exact aw_iret rfl rfl ⟨Nat.le_refl _, Nat.le_refl _⟩ d_Fp_place_64
def f_To_hasPlace (a1 : Int32) (δ : Dm) : Option Int32 := (if a1 < 0 then (some (0 : Int32)) else (if (gI δ 29 1) ≤ a1 then (some (0 : Int32)) else (some (1 : Int32))))
set_option maxHeartbeats 4000000 in
set_option maxRecDepth 100000 in
theorem m_To_hasPlace {a1 : Int32} {δ : Dm} {n : Nat} : ∀ x, f_To_hasPlace a1 δ = some x → AMet k_To_hasPlace 1 0 0 [.ref 29, .int a1] δ RT n (Kp δ RT n x) := by
  refine aw_start (lo := [(0, .ref 29), (1, .int a1)]) mok_To_hasPlace rfl (Nat.le_of_ble_eq_true rfl) ?_
  unfold f_To_hasPlace
  refine aw_iload_n d_To_hasPlace_0 1 rfl ?_
  refine aw_if_lt (tgt := 16) d_To_hasPlace_1 rfl (fun q1 => ?_) (fun q1 => ?_)
  · refine aw_iconst d_To_hasPlace_16 ki_0 ?_
    exact aw_zret rfl rfl rfl ⟨Nat.le_refl _, Nat.le_refl _⟩ d_To_hasPlace_17
  · refine aw_iload_n d_To_hasPlace_4 1 rfl ?_
    refine aw_aload_n d_To_hasPlace_5 0 rfl ?_
    refine aw_getI fl_To_52 kd_29 d_To_hasPlace_6 ?_
    refine aw_icmp_ge (tgt := 16) d_To_hasPlace_9 rfl (fun q9 => ?_) (fun q9 => ?_)
    · refine aw_iconst d_To_hasPlace_16 ki_0 ?_
      exact aw_zret rfl rfl rfl ⟨Nat.le_refl _, Nat.le_refl _⟩ d_To_hasPlace_17
    · refine aw_iconst d_To_hasPlace_12 ki_1 ?_
      refine aw_goto (tgt := 17) d_To_hasPlace_13 rfl ?_
      exact aw_zret rfl rfl rfl ⟨Nat.le_refl _, Nat.le_refl _⟩ d_To_hasPlace_17
def f_Fp_get (a0 : Nat) (a1 : Int32) (δ : Dm) : Option Int32 := (if a1 < 0 then (some (0 : Int32)) else (if (nI (KD a0).2) ≤ a1 then (some (0 : Int32)) else (if inb a1 (KD a0).2 then (some (gI δ a0 (ix a1))) else none)))
set_option maxHeartbeats 4000000 in
set_option maxRecDepth 100000 in
theorem m_Fp_get {a0 : Nat} {a1 : Int32} {δ : Dm} {n : Nat} (ha0 : (KD a0).1 = 1) : ∀ x, f_Fp_get a0 a1 δ = some x → AMet k_Fp_get 1 0 0 [.ref a0, .int a1] δ RT n (Kp δ RT n x) := by
  refine aw_start (lo := [(0, .ref a0), (1, .int a1)]) mok_Fp_get rfl (Nat.le_of_ble_eq_true rfl) ?_
  unfold f_Fp_get
  refine aw_iload_n d_Fp_get_0 1 rfl ?_
  refine aw_if_lt (tgt := 16) d_Fp_get_1 rfl (fun q1 => ?_) (fun q1 => ?_)
  · refine aw_iconst d_Fp_get_16 ki_0 ?_
    exact aw_iret rfl rfl ⟨Nat.le_refl _, Nat.le_refl _⟩ d_Fp_get_17
  · refine aw_iload_n d_Fp_get_4 1 rfl ?_
    refine aw_aload_n d_Fp_get_5 0 rfl ?_
    refine aw_alen (v := (nI (KD a0).2)) (kdE ha0) ⟨by decide, by decide⟩ rfl d_Fp_get_6 ?_
    refine aw_icmp_ge (tgt := 16) d_Fp_get_7 rfl (fun q7 => ?_) (fun q7 => ?_)
    · refine aw_iconst d_Fp_get_16 ki_0 ?_
      exact aw_iret rfl rfl ⟨Nat.le_refl _, Nat.le_refl _⟩ d_Fp_get_17
    · refine aw_aload_n d_Fp_get_10 0 rfl ?_
      refine aw_iload_n d_Fp_get_11 1 rfl ?_
      refine aw_iald (kdE ha0) d_Fp_get_12 ?_
      refine aw_goto (tgt := 17) d_Fp_get_13 rfl ?_
      exact aw_iret rfl rfl ⟨Nat.le_refl _, Nat.le_refl _⟩ d_Fp_get_17
def f_To_between (a1 : Int32) (a2 : Int32) (δ : Dm) : Option Int32 := ((f_Fp_get 32 ((a1 * (12 : Int32)) + a2) δ).bind (fun y10 => (some y10)))
set_option maxHeartbeats 4000000 in
set_option maxRecDepth 100000 in
theorem m_To_between {a1 : Int32} {a2 : Int32} {δ : Dm} {n : Nat} : ∀ x, f_To_between a1 a2 δ = some x → AMet k_To_between 2 0 0 [.ref 29, .int a1, .int a2] δ RT n (Kp δ RT n x) := by
  refine aw_start (lo := [(0, .ref 29), (1, .int a1), (2, .int a2)]) mok_To_between rfl (Nat.le_of_ble_eq_true rfl) ?_
  unfold f_To_between
  refine aw_aload_n d_To_between_0 0 rfl ?_
  refine aw_getR (t := 32) fl_To_18 kd_29 rt_29_5 d_To_between_1 ?_
  refine aw_iload_n d_To_between_4 1 rfl ?_
  refine aw_bipush d_To_between_5 kb_12 ?_
  refine aw_imul d_To_between_7 ?_
  refine aw_iload_n d_To_between_8 2 rfl ?_
  refine aw_iadd d_To_between_9 ?_
  refine aw_SN_p (As := [.ref 32, .int ((a1 * (12 : Int32)) + a2)]) (m_Fp_get (congrArg Prod.fst kd_32)) cs_To_83 rfl rfl (Nat.le_of_ble_eq_true rfl) ⟨Nat.le_of_ble_eq_true rfl, Nat.le_of_ble_eq_true rfl⟩ ⟨Nat.le_refl _, Nat.le_refl _⟩ d_To_between_10 (fun y10 => ?_)
  exact aw_iret rfl rfl ⟨Nat.le_refl _, Nat.le_refl _⟩ d_To_between_13
def f_Fp_miles (a1 : Int32) (a2 : Int32) (a3 : Int32) (δ : Dm) : Option (Int32 × Dm) := ((f_To_hasPlace a1 δ).bind (fun y5 => (if y5 = 0 then (some ((-1 : Int32), δ)) else ((f_To_hasPlace a2 δ).bind (fun y16 => (if y16 = 0 then (some ((-1 : Int32), δ)) else (if a1 = a2 then (some ((-1 : Int32), δ)) else ((f_Fp_within a3 (0 : Int32) (999 : Int32) δ).bind (fun y32 => (if y32 = 0 then (some ((-1 : Int32), δ)) else ((f_To_between a1 a2 δ).bind (fun y46 => ((f_Fp_put 32 ((a1 * (12 : Int32)) + a2) a3 δ).bind (fun y65 => ((f_Fp_put 32 ((a2 * (12 : Int32)) + a1) a3 y65).bind (fun y82 => (some (y46, y82))))))))))))))))))
set_option maxHeartbeats 4000000 in
set_option maxRecDepth 100000 in
theorem m_Fp_miles {a1 : Int32} {a2 : Int32} {a3 : Int32} {δ : Dm} {n : Nat} : ∀ x, f_Fp_miles a1 a2 a3 δ = some x → AMet k_Fp_miles 3 0 0 [.ref 4, .int a1, .int a2, .int a3] δ RT n (Km RT n x) := by
  refine aw_start (lo := [(0, .ref 4), (1, .int a1), (2, .int a2), (3, .int a3)]) mok_Fp_miles rfl (Nat.le_of_ble_eq_true rfl) ?_
  unfold f_Fp_miles
  refine aw_aload_n d_Fp_miles_0 0 rfl ?_
  refine aw_getR (t := 29) fl_Fp_57 kd_4 rt_4_9 d_Fp_miles_1 ?_
  refine aw_iload_n d_Fp_miles_4 1 rfl ?_
  refine aw_V_p (As := [.int a1]) (m_To_hasPlace) cv_Fp_81 kd_29 rfl rfl rfl (Nat.le_of_ble_eq_true rfl) ⟨Nat.le_of_ble_eq_true rfl, Nat.le_of_ble_eq_true rfl⟩ ⟨Nat.le_refl _, Nat.le_refl _⟩ d_Fp_miles_5 (fun y5 => ?_)
  refine aw_if_eq (tgt := 38) d_Fp_miles_8 rfl (fun q8 => ?_) (fun q8 => ?_)
  · refine aw_iconst d_Fp_miles_38 ki_m1 ?_
    exact aw_iret rfl rfl ⟨Nat.le_refl _, Nat.le_refl _⟩ d_Fp_miles_39
  · refine aw_aload_n d_Fp_miles_11 0 rfl ?_
    refine aw_getR (t := 29) fl_Fp_57 kd_4 rt_4_9 d_Fp_miles_12 ?_
    refine aw_iload_n d_Fp_miles_15 2 rfl ?_
    refine aw_V_p (As := [.int a2]) (m_To_hasPlace) cv_Fp_81 kd_29 rfl rfl rfl (Nat.le_of_ble_eq_true rfl) ⟨Nat.le_of_ble_eq_true rfl, Nat.le_of_ble_eq_true rfl⟩ ⟨Nat.le_refl _, Nat.le_refl _⟩ d_Fp_miles_16 (fun y16 => ?_)
    refine aw_if_eq (tgt := 38) d_Fp_miles_19 rfl (fun q19 => ?_) (fun q19 => ?_)
    · refine aw_iconst d_Fp_miles_38 ki_m1 ?_
      exact aw_iret rfl rfl ⟨Nat.le_refl _, Nat.le_refl _⟩ d_Fp_miles_39
    · refine aw_iload_n d_Fp_miles_22 1 rfl ?_
      refine aw_iload_n d_Fp_miles_23 2 rfl ?_
      refine aw_icmp_eq (tgt := 38) d_Fp_miles_24 rfl (fun q24 => ?_) (fun q24 => ?_)
      · refine aw_iconst d_Fp_miles_38 ki_m1 ?_
        exact aw_iret rfl rfl ⟨Nat.le_refl _, Nat.le_refl _⟩ d_Fp_miles_39
      · refine aw_iload_n d_Fp_miles_27 3 rfl ?_
        refine aw_iconst d_Fp_miles_28 ki_0 ?_
        refine aw_sipush d_Fp_miles_29 ks_999 ?_
        refine aw_S_p (As := [.int a3, .int (0 : Int32), .int (999 : Int32)]) (m_Fp_within) cs_Fp_70 rfl rfl (Nat.le_of_ble_eq_true rfl) ⟨Nat.le_of_ble_eq_true rfl, Nat.le_of_ble_eq_true rfl⟩ ⟨Nat.le_refl _, Nat.le_refl _⟩ d_Fp_miles_32 (fun y32 => ?_)
        refine aw_if_ne (tgt := 40) d_Fp_miles_35 rfl (fun q35 => ?_) (fun q35 => ?_)
        · refine aw_iconst d_Fp_miles_38 ki_m1 ?_
          exact aw_iret rfl rfl ⟨Nat.le_refl _, Nat.le_refl _⟩ d_Fp_miles_39
        · refine aw_aload_n d_Fp_miles_40 0 rfl ?_
          refine aw_getR (t := 29) fl_Fp_57 kd_4 rt_4_9 d_Fp_miles_41 ?_
          refine aw_iload_n d_Fp_miles_44 1 rfl ?_
          refine aw_iload_n d_Fp_miles_45 2 rfl ?_
          refine aw_V_p (As := [.int a1, .int a2]) (m_To_between) cv_Fp_85 kd_29 rfl rfl rfl (Nat.le_of_ble_eq_true rfl) ⟨Nat.le_of_ble_eq_true rfl, Nat.le_of_ble_eq_true rfl⟩ ⟨Nat.le_refl _, Nat.le_refl _⟩ d_Fp_miles_46 (fun y46 => ?_)
          refine aw_istore (lo' := [(4, .int y46), (0, .ref 4), (1, .int a1), (2, .int a2), (3, .int a3)]) d_Fp_miles_49 (by decide) rfl ?_
          refine aw_aload_n d_Fp_miles_51 1 rfl ?_
          refine aw_getR (t := 29) fl_Fp_57 kd_4 rt_4_9 d_Fp_miles_52 ?_
          refine aw_getR (t := 32) fl_Fp_89 kd_29 rt_29_5 d_Fp_miles_55 ?_
          refine aw_iload_n d_Fp_miles_58 2 rfl ?_
          refine aw_bipush d_Fp_miles_59 kb_12 ?_
          refine aw_imul d_Fp_miles_61 ?_
          refine aw_iload_n d_Fp_miles_62 3 rfl ?_
          refine aw_iadd d_Fp_miles_63 ?_
          refine aw_iload_n d_Fp_miles_64 4 rfl ?_
          refine aw_S_v (As := [.ref 32, .int ((a1 * (12 : Int32)) + a2), .int a3]) (m_Fp_put (congrArg Prod.fst kd_32)) cs_Fp_77 rfl rfl (Nat.le_of_ble_eq_true rfl) ⟨Nat.le_of_ble_eq_true rfl, Nat.le_of_ble_eq_true rfl⟩ ⟨Nat.le_refl _, Nat.le_refl _⟩ d_Fp_miles_65 (fun y65 => ?_)
          refine aw_aload_n d_Fp_miles_68 1 rfl ?_
          refine aw_getR (t := 29) fl_Fp_57 kd_4 rt_4_9 d_Fp_miles_69 ?_
          refine aw_getR (t := 32) fl_Fp_89 kd_29 rt_29_5 d_Fp_miles_72 ?_
          refine aw_iload_n d_Fp_miles_75 3 rfl ?_
          refine aw_bipush d_Fp_miles_76 kb_12 ?_
          refine aw_imul d_Fp_miles_78 ?_
          refine aw_iload_n d_Fp_miles_79 2 rfl ?_
          refine aw_iadd d_Fp_miles_80 ?_
          refine aw_iload_n d_Fp_miles_81 4 rfl ?_
          refine aw_S_v (As := [.ref 32, .int ((a2 * (12 : Int32)) + a1), .int a3]) (m_Fp_put (congrArg Prod.fst kd_32)) cs_Fp_77 rfl rfl (Nat.le_of_ble_eq_true rfl) ⟨Nat.le_of_ble_eq_true rfl, Nat.le_of_ble_eq_true rfl⟩ ⟨Nat.le_refl _, Nat.le_refl _⟩ d_Fp_miles_82 (fun y82 => ?_)
          refine aw_iload d_Fp_miles_85 0 rfl ?_
          exact aw_iret rfl rfl ⟨Nat.le_refl _, Nat.le_refl _⟩ d_Fp_miles_87
def f_Fp_isDay (a0 : Int32) (δ : Dm) : Option Int32 := ((f_Fp_within a0 (0 : Int32) (399 : Int32) δ).bind (fun y5 => (if y5 = 0 ∨ y5 = 1 then (some y5) else none)))
set_option maxHeartbeats 4000000 in
set_option maxRecDepth 100000 in
theorem m_Fp_isDay {a0 : Int32} {δ : Dm} {n : Nat} : ∀ x, f_Fp_isDay a0 δ = some x → AMet k_Fp_isDay 2 0 0 [.int a0] δ RT n (Kp δ RT n x) := by
  refine aw_start (lo := [(0, .int a0)]) mok_Fp_isDay rfl (Nat.le_of_ble_eq_true rfl) ?_
  unfold f_Fp_isDay
  refine aw_iload_n d_Fp_isDay_0 0 rfl ?_
  refine aw_iconst d_Fp_isDay_1 ki_0 ?_
  refine aw_sipush d_Fp_isDay_2 ks_399 ?_
  refine aw_S_p (As := [.int a0, .int (0 : Int32), .int (399 : Int32)]) (m_Fp_within) cs_Fp_70 rfl rfl (Nat.le_of_ble_eq_true rfl) ⟨Nat.le_of_ble_eq_true rfl, Nat.le_of_ble_eq_true rfl⟩ ⟨Nat.le_refl _, Nat.le_refl _⟩ d_Fp_isDay_5 (fun y5 => ?_)
  exact aw_zr2 rfl rfl ⟨Nat.le_refl _, Nat.le_refl _⟩ d_Fp_isDay_8
def f_Fp_heat (a1 : Int32) (a2 : Int32) (δ : Dm) : Option (Int32 × Dm) := ((f_Fp_isDay a1 δ).bind (fun y1 => (if y1 = 0 then (some ((-1 : Int32), δ)) else ((f_Fp_within a2 (0 : Int32) (40 : Int32) δ).bind (fun y11 => (if y11 = 0 then (some ((-1 : Int32), δ)) else ((f_Fp_get 30 a1 δ).bind (fun y27 => ((f_Fp_put 30 a1 a2 δ).bind (fun y40 => (some (y27, y40))))))))))))
set_option maxHeartbeats 4000000 in
set_option maxRecDepth 100000 in
theorem m_Fp_heat {a1 : Int32} {a2 : Int32} {δ : Dm} {n : Nat} : ∀ x, f_Fp_heat a1 a2 δ = some x → AMet k_Fp_heat 3 0 0 [.ref 4, .int a1, .int a2] δ RT n (Km RT n x) := by
  refine aw_start (lo := [(0, .ref 4), (1, .int a1), (2, .int a2)]) mok_Fp_heat rfl (Nat.le_of_ble_eq_true rfl) ?_
  unfold f_Fp_heat
  refine aw_iload_n d_Fp_heat_0 1 rfl ?_
  refine aw_S_p (As := [.int a1]) (m_Fp_isDay) cs_Fp_92 rfl rfl (Nat.le_of_ble_eq_true rfl) ⟨Nat.le_of_ble_eq_true rfl, Nat.le_of_ble_eq_true rfl⟩ ⟨Nat.le_refl _, Nat.le_refl _⟩ d_Fp_heat_1 (fun y1 => ?_)
  refine aw_if_eq (tgt := 17) d_Fp_heat_4 rfl (fun q4 => ?_) (fun q4 => ?_)
  · refine aw_iconst d_Fp_heat_17 ki_m1 ?_
    exact aw_iret rfl rfl ⟨Nat.le_refl _, Nat.le_refl _⟩ d_Fp_heat_18
  · refine aw_iload_n d_Fp_heat_7 2 rfl ?_
    refine aw_iconst d_Fp_heat_8 ki_0 ?_
    refine aw_bipush d_Fp_heat_9 kb_40 ?_
    refine aw_S_p (As := [.int a2, .int (0 : Int32), .int (40 : Int32)]) (m_Fp_within) cs_Fp_70 rfl rfl (Nat.le_of_ble_eq_true rfl) ⟨Nat.le_of_ble_eq_true rfl, Nat.le_of_ble_eq_true rfl⟩ ⟨Nat.le_refl _, Nat.le_refl _⟩ d_Fp_heat_11 (fun y11 => ?_)
    refine aw_if_ne (tgt := 19) d_Fp_heat_14 rfl (fun q14 => ?_) (fun q14 => ?_)
    · refine aw_iconst d_Fp_heat_17 ki_m1 ?_
      exact aw_iret rfl rfl ⟨Nat.le_refl _, Nat.le_refl _⟩ d_Fp_heat_18
    · refine aw_aload_n d_Fp_heat_19 0 rfl ?_
      refine aw_getR (t := 29) fl_Fp_57 kd_4 rt_4_9 d_Fp_heat_20 ?_
      refine aw_getR (t := 30) fl_Fp_95 kd_29 rt_29_3 d_Fp_heat_23 ?_
      refine aw_iload_n d_Fp_heat_26 1 rfl ?_
      refine aw_S_p (As := [.ref 30, .int a1]) (m_Fp_get (congrArg Prod.fst kd_30)) cs_Fp_98 rfl rfl (Nat.le_of_ble_eq_true rfl) ⟨Nat.le_of_ble_eq_true rfl, Nat.le_of_ble_eq_true rfl⟩ ⟨Nat.le_refl _, Nat.le_refl _⟩ d_Fp_heat_27 (fun y27 => ?_)
      refine aw_istore_n (lo' := [(3, .int y27), (0, .ref 4), (1, .int a1), (2, .int a2)]) d_Fp_heat_30 rfl (by decide) rfl ?_
      refine aw_aload_n d_Fp_heat_31 1 rfl ?_
      refine aw_getR (t := 29) fl_Fp_57 kd_4 rt_4_9 d_Fp_heat_32 ?_
      refine aw_getR (t := 30) fl_Fp_95 kd_29 rt_29_3 d_Fp_heat_35 ?_
      refine aw_iload_n d_Fp_heat_38 2 rfl ?_
      refine aw_iload_n d_Fp_heat_39 3 rfl ?_
      refine aw_S_v (As := [.ref 30, .int a1, .int a2]) (m_Fp_put (congrArg Prod.fst kd_30)) cs_Fp_77 rfl rfl (Nat.le_of_ble_eq_true rfl) ⟨Nat.le_of_ble_eq_true rfl, Nat.le_of_ble_eq_true rfl⟩ ⟨Nat.le_refl _, Nat.le_refl _⟩ d_Fp_heat_40 (fun y40 => ?_)
      refine aw_iload_n d_Fp_heat_43 0 rfl ?_
      exact aw_iret rfl rfl ⟨Nat.le_refl _, Nat.le_refl _⟩ d_Fp_heat_44
def lp_Fp_append_3 (kx3_41 : Int32 → Dm → Option Dm) (a1 : Int32) : Nat → Int32 → Dm → Option Dm
  | 0, _, _ => none
  | f + 1, v2_3, δ3 => (if v2_3 < 0 then (kx3_41 v2_3 δ3) else ((f_Fp_put 5 (gI δ3 4 1) ((a1 >>> (v2_3 &&& 31)) &&& (255 : Int32)) δ3).bind (fun y22 => (bnd (sI y22 4 1 ((gI y22 4 1) + (1 : Int32))) (fun δ_32 => (lp_Fp_append_3 kx3_41 a1 f (v2_3 + (-8 : Int32)) δ_32))))))
set_option maxHeartbeats 4000000 in
set_option maxRecDepth 100000 in
theorem tl_Fp_append_3 {n : Nat} (kx3_41 : Int32 → Dm → Option Dm) (a1 : Int32) (hkx3_41 : ∀ v2_3k δ3k, AWo k_Fp_append 2 0 0 41 [(0, .ref 4), (1, .int a1), (2, .int v2_3k)] [] δ3k RT n 0 0 (Kv RT n) (kx3_41 v2_3k δ3k)) : ∀ (f : Nat) (v2_3 : Int32) (δ3 : Dm), AWo k_Fp_append 2 0 0 3 [(0, .ref 4), (1, .int a1), (2, .int v2_3)] [] δ3 RT n 0 0 (Kv RT n) (lp_Fp_append_3 kx3_41 a1 f v2_3 δ3) := by
  intro f
  induction f with
  | zero => intro _ _; exact aw_none
  | succ f ih =>
    intro v2_3 δ3
    rw [lp_Fp_append_3]
    refine aw_iload_n d_Fp_append_3 2 rfl ?_
    refine aw_if_lt (tgt := 41) d_Fp_append_4 rfl (fun q4 => ?_) (fun q4 => ?_)
    · refine aw_sub (lo' := [(0, .ref 4), (1, .int a1), (2, .int v2_3)]) [0, 1, 2] rfl ?_
      exact hkx3_41 _ _
    · refine aw_aload_n d_Fp_append_7 0 rfl ?_
      refine aw_getR (t := 5) fl_Fp_9 kd_4 rt_4_0 d_Fp_append_8 ?_
      refine aw_aload_n d_Fp_append_11 0 rfl ?_
      refine aw_getI fl_Fp_102 kd_4 d_Fp_append_12 ?_
      refine aw_iload_n d_Fp_append_15 1 rfl ?_
      refine aw_iload_n d_Fp_append_16 2 rfl ?_
      refine aw_ishr d_Fp_append_17 ?_
      refine aw_sipush d_Fp_append_18 ks_255 ?_
      refine aw_iand d_Fp_append_21 ?_
      refine aw_S_v (As := [.ref 5, .int (gI δ3 4 1), .int ((a1 >>> (v2_3 &&& 31)) &&& (255 : Int32))]) (m_Fp_put (congrArg Prod.fst kd_5)) cs_Fp_77 rfl rfl (Nat.le_of_ble_eq_true rfl) ⟨Nat.le_of_ble_eq_true rfl, Nat.le_of_ble_eq_true rfl⟩ ⟨Nat.le_refl _, Nat.le_refl _⟩ d_Fp_append_22 (fun y22 => ?_)
      refine aw_aload_n d_Fp_append_25 0 rfl ?_
      refine aw_dup d_Fp_append_26 rfl ?_
      refine aw_getI fl_Fp_102 kd_4 d_Fp_append_27 ?_
      refine aw_iconst d_Fp_append_30 ki_1 ?_
      refine aw_iadd d_Fp_append_31 ?_
      refine aw_putI pf_Fp_102 kd_4 d_Fp_append_32 ?_
      refine aw_bD (fun δ_32 => ?_)
      refine aw_iinc (v := (v2_3 + (-8 : Int32))) (lo' := [(2, .int (v2_3 + (-8 : Int32))), (0, .ref 4), (1, .int a1)]) d_Fp_append_35 2 rfl (by rw [show Int32.ofInt (-8) = (-8 : Int32) from by decide]) (by decide) rfl ?_
      refine aw_goto (tgt := 3) d_Fp_append_38 rfl ?_
      refine aw_sub (lo' := [(0, .ref 4), (1, .int a1), (2, .int (v2_3 + (-8 : Int32)))]) [1, 2, 0] rfl ?_
      exact ih _ _
def f_Fp_append (a1 : Int32) (δ : Dm) : Option Dm := (lp_Fp_append_3 (fun v2_3x δ3x => (some δ3x)) a1 FU (24 : Int32) δ)
set_option maxHeartbeats 4000000 in
set_option maxRecDepth 100000 in
theorem m_Fp_append {a1 : Int32} {δ : Dm} {n : Nat} : ∀ x, f_Fp_append a1 δ = some x → AMet k_Fp_append 2 0 0 [.ref 4, .int a1] δ RT n (Kv RT n x) := by
  refine aw_start (lo := [(0, .ref 4), (1, .int a1)]) mok_Fp_append rfl (Nat.le_of_ble_eq_true rfl) ?_
  unfold f_Fp_append
  refine aw_bipush d_Fp_append_0 kb_24 ?_
  refine aw_istore_n (lo' := [(2, .int (24 : Int32)), (0, .ref 4), (1, .int a1)]) d_Fp_append_2 rfl (by decide) rfl ?_
  refine aw_sub (lo' := [(0, .ref 4), (1, .int a1), (2, .int (24 : Int32))]) [1, 2, 0] rfl ?_
  refine tl_Fp_append_3 _ _ (fun v2_3x δ3x => ?_) FU _ _
  · exact aw_vret rfl rfl ⟨Nat.le_refl _, Nat.le_refl _⟩ d_Fp_append_41
def f_Fp_feed (a1 : Int32) (a2 : Int32) (a3 : Int32) (a4 : Int32) (a5 : Int32) (δ : Dm) : Option (Int32 × Dm) := (if (gI δ 4 1) ≤ (380 : Int32) then ((f_Fp_append a1 δ).bind (fun y14 => ((f_Fp_append a2 y14).bind (fun y19 => ((f_Fp_append a3 y19).bind (fun y24 => ((f_Fp_append a4 y24).bind (fun y30 => ((f_Fp_append a5 y30).bind (fun y36 => (some ((gI y36 4 1), y36)))))))))))) else (some ((-1 : Int32), δ)))
set_option maxHeartbeats 4000000 in
set_option maxRecDepth 100000 in
theorem m_Fp_feed {a1 : Int32} {a2 : Int32} {a3 : Int32} {a4 : Int32} {a5 : Int32} {δ : Dm} {n : Nat} : ∀ x, f_Fp_feed a1 a2 a3 a4 a5 δ = some x → AMet k_Fp_feed 3 0 0 [.ref 4, .int a1, .int a2, .int a3, .int a4, .int a5] δ RT n (Km RT n x) := by
  refine aw_start (lo := [(0, .ref 4), (1, .int a1), (2, .int a2), (3, .int a3), (4, .int a4), (5, .int a5)]) mok_Fp_feed rfl (Nat.le_of_ble_eq_true rfl) ?_
  unfold f_Fp_feed
  refine aw_aload_n d_Fp_feed_0 0 rfl ?_
  refine aw_getI fl_Fp_102 kd_4 d_Fp_feed_1 ?_
  refine aw_sipush d_Fp_feed_4 ks_380 ?_
  refine aw_icmp_le (tgt := 12) d_Fp_feed_7 rfl (fun q7 => ?_) (fun q7 => ?_)
  · refine aw_aload_n d_Fp_feed_12 0 rfl ?_
    refine aw_iload_n d_Fp_feed_13 1 rfl ?_
    refine aw_V_v (As := [.int a1]) (m_Fp_append) cv_Fp_105 kd_4 rfl rfl rfl (Nat.le_of_ble_eq_true rfl) ⟨Nat.le_of_ble_eq_true rfl, Nat.le_of_ble_eq_true rfl⟩ ⟨Nat.le_refl _, Nat.le_refl _⟩ d_Fp_feed_14 (fun y14 => ?_)
    refine aw_aload_n d_Fp_feed_17 0 rfl ?_
    refine aw_iload_n d_Fp_feed_18 2 rfl ?_
    refine aw_V_v (As := [.int a2]) (m_Fp_append) cv_Fp_105 kd_4 rfl rfl rfl (Nat.le_of_ble_eq_true rfl) ⟨Nat.le_of_ble_eq_true rfl, Nat.le_of_ble_eq_true rfl⟩ ⟨Nat.le_refl _, Nat.le_refl _⟩ d_Fp_feed_19 (fun y19 => ?_)
    refine aw_aload_n d_Fp_feed_22 0 rfl ?_
    refine aw_iload_n d_Fp_feed_23 3 rfl ?_
    refine aw_V_v (As := [.int a3]) (m_Fp_append) cv_Fp_105 kd_4 rfl rfl rfl (Nat.le_of_ble_eq_true rfl) ⟨Nat.le_of_ble_eq_true rfl, Nat.le_of_ble_eq_true rfl⟩ ⟨Nat.le_refl _, Nat.le_refl _⟩ d_Fp_feed_24 (fun y24 => ?_)
    refine aw_aload_n d_Fp_feed_27 0 rfl ?_
    refine aw_iload d_Fp_feed_28 4 rfl ?_
    refine aw_V_v (As := [.int a4]) (m_Fp_append) cv_Fp_105 kd_4 rfl rfl rfl (Nat.le_of_ble_eq_true rfl) ⟨Nat.le_of_ble_eq_true rfl, Nat.le_of_ble_eq_true rfl⟩ ⟨Nat.le_refl _, Nat.le_refl _⟩ d_Fp_feed_30 (fun y30 => ?_)
    refine aw_aload_n d_Fp_feed_33 0 rfl ?_
    refine aw_iload d_Fp_feed_34 5 rfl ?_
    refine aw_V_v (As := [.int a5]) (m_Fp_append) cv_Fp_105 kd_4 rfl rfl rfl (Nat.le_of_ble_eq_true rfl) ⟨Nat.le_of_ble_eq_true rfl, Nat.le_of_ble_eq_true rfl⟩ ⟨Nat.le_refl _, Nat.le_refl _⟩ d_Fp_feed_36 (fun y36 => ?_)
    refine aw_aload_n d_Fp_feed_39 0 rfl ?_
    refine aw_getI fl_Fp_102 kd_4 d_Fp_feed_40 ?_
    exact aw_iret rfl rfl ⟨Nat.le_refl _, Nat.le_refl _⟩ d_Fp_feed_43
  · refine aw_iconst d_Fp_feed_10 ki_m1 ?_
    exact aw_iret rfl rfl ⟨Nat.le_refl _, Nat.le_refl _⟩ d_Fp_feed_11
def f_Fp_end (a1 : Int32) (δ : Dm) : Option (Int32 × Dm) := ((f_Fp_within a1 (0 : Int32) (gI δ 4 1) δ).bind (fun y6 => (if y6 = 0 then (some ((-1 : Int32), δ)) else (bnd (sI δ 4 1 a1) (fun δ_16 => (some (a1, δ_16)))))))
set_option maxHeartbeats 4000000 in
set_option maxRecDepth 100000 in
theorem m_Fp_end {a1 : Int32} {δ : Dm} {n : Nat} : ∀ x, f_Fp_end a1 δ = some x → AMet k_Fp_end 2 0 0 [.ref 4, .int a1] δ RT n (Km RT n x) := by
  refine aw_start (lo := [(0, .ref 4), (1, .int a1)]) mok_Fp_end rfl (Nat.le_of_ble_eq_true rfl) ?_
  unfold f_Fp_end
  refine aw_iload_n d_Fp_end_0 1 rfl ?_
  refine aw_iconst d_Fp_end_1 ki_0 ?_
  refine aw_aload_n d_Fp_end_2 0 rfl ?_
  refine aw_getI fl_Fp_102 kd_4 d_Fp_end_3 ?_
  refine aw_S_p (As := [.int a1, .int (0 : Int32), .int (gI δ 4 1)]) (m_Fp_within) cs_Fp_70 rfl rfl (Nat.le_of_ble_eq_true rfl) ⟨Nat.le_of_ble_eq_true rfl, Nat.le_of_ble_eq_true rfl⟩ ⟨Nat.le_refl _, Nat.le_refl _⟩ d_Fp_end_6 (fun y6 => ?_)
  refine aw_if_ne (tgt := 14) d_Fp_end_9 rfl (fun q9 => ?_) (fun q9 => ?_)
  · refine aw_iconst d_Fp_end_12 ki_m1 ?_
    exact aw_iret rfl rfl ⟨Nat.le_refl _, Nat.le_refl _⟩ d_Fp_end_13
  · refine aw_aload_n d_Fp_end_14 0 rfl ?_
    refine aw_iload_n d_Fp_end_15 1 rfl ?_
    refine aw_putI pf_Fp_102 kd_4 d_Fp_end_16 ?_
    refine aw_bD (fun δ_16 => ?_)
    refine aw_iload_n d_Fp_end_19 1 rfl ?_
    exact aw_iret rfl rfl ⟨Nat.le_refl _, Nat.le_refl _⟩ d_Fp_end_20
def f_Re_isDigit (a0 : Int32) (δ : Dm) : Option Int32 := ((f_Fp_within a0 (48 : Int32) (57 : Int32) δ).bind (fun y5 => (if y5 = 0 ∨ y5 = 1 then (some y5) else none)))
set_option maxHeartbeats 4000000 in
set_option maxRecDepth 100000 in
theorem m_Re_isDigit {a0 : Int32} {δ : Dm} {n : Nat} : ∀ x, f_Re_isDigit a0 δ = some x → AMet k_Re_isDigit 2 0 0 [.int a0] δ RT n (Kp δ RT n x) := by
  refine aw_start (lo := [(0, .int a0)]) mok_Re_isDigit rfl (Nat.le_of_ble_eq_true rfl) ?_
  unfold f_Re_isDigit
  refine aw_iload_n d_Re_isDigit_0 0 rfl ?_
  refine aw_bipush d_Re_isDigit_1 kb_48 ?_
  refine aw_bipush d_Re_isDigit_3 kb_57 ?_
  refine aw_SN_p (As := [.int a0, .int (48 : Int32), .int (57 : Int32)]) (m_Fp_within) cs_Re_103 rfl rfl (Nat.le_of_ble_eq_true rfl) ⟨Nat.le_of_ble_eq_true rfl, Nat.le_of_ble_eq_true rfl⟩ ⟨Nat.le_refl _, Nat.le_refl _⟩ d_Re_isDigit_5 (fun y5 => ?_)
  exact aw_zr2 rfl rfl ⟨Nat.le_refl _, Nat.le_refl _⟩ d_Re_isDigit_8
def lp_Re_runOf_5 (kx5_32 : Int32 → Option Int32) (a1 : Int32) (a2 : Int32) (a3 : Int32) (a4 : Int32) (δ : Dm) : Nat → Int32 → Option Int32
  | 0, _ => none
  | f + 1, v5_5 => (if a2 ≤ v5_5 then (kx5_32 v5_5) else ((f_Fp_get 5 v5_5 δ).bind (fun y14 => ((f_Fp_within y14 a3 a4 δ).bind (fun y20 => (if y20 = 0 then (kx5_32 v5_5) else (lp_Re_runOf_5 kx5_32 a1 a2 a3 a4 δ f (v5_5 + (1 : Int32)))))))))
set_option maxHeartbeats 4000000 in
set_option maxRecDepth 100000 in
theorem tl_Re_runOf_5 {n : Nat} (kx5_32 : Int32 → Option Int32) (a1 : Int32) (a2 : Int32) (a3 : Int32) (a4 : Int32) (δ : Dm) (hkx5_32 : ∀ v5_5k, AWo k_Re_runOf 2 0 0 32 [(0, .ref 5), (1, .int a1), (2, .int a2), (3, .int a3), (4, .int a4), (5, .int v5_5k)] [] δ RT n 0 0 (Kp δ RT n) (kx5_32 v5_5k)) : ∀ (f : Nat) (v5_5 : Int32), AWo k_Re_runOf 2 0 0 5 [(0, .ref 5), (1, .int a1), (2, .int a2), (3, .int a3), (4, .int a4), (5, .int v5_5)] [] δ RT n 0 0 (Kp δ RT n) (lp_Re_runOf_5 kx5_32 a1 a2 a3 a4 δ f v5_5) := by
  intro f
  induction f with
  | zero => intro _; exact aw_none
  | succ f ih =>
    intro v5_5
    rw [lp_Re_runOf_5]
    refine aw_iload d_Re_runOf_5 5 rfl ?_
    refine aw_iload_n d_Re_runOf_7 2 rfl ?_
    refine aw_icmp_ge (tgt := 32) d_Re_runOf_8 rfl (fun q8 => ?_) (fun q8 => ?_)
    · refine aw_sub (lo' := [(0, .ref 5), (1, .int a1), (2, .int a2), (3, .int a3), (4, .int a4), (5, .int v5_5)]) [0, 1, 2, 3, 4, 5] rfl ?_
      exact hkx5_32 _
    · refine aw_aload_n d_Re_runOf_11 0 rfl ?_
      refine aw_iload d_Re_runOf_12 5 rfl ?_
      refine aw_SN_p (As := [.ref 5, .int v5_5]) (m_Fp_get (congrArg Prod.fst kd_5)) cs_Re_63 rfl rfl (Nat.le_of_ble_eq_true rfl) ⟨Nat.le_of_ble_eq_true rfl, Nat.le_of_ble_eq_true rfl⟩ ⟨Nat.le_refl _, Nat.le_refl _⟩ d_Re_runOf_14 (fun y14 => ?_)
      refine aw_iload_n d_Re_runOf_17 3 rfl ?_
      refine aw_iload d_Re_runOf_18 4 rfl ?_
      refine aw_SN_p (As := [.int y14, .int a3, .int a4]) (m_Fp_within) cs_Re_103 rfl rfl (Nat.le_of_ble_eq_true rfl) ⟨Nat.le_of_ble_eq_true rfl, Nat.le_of_ble_eq_true rfl⟩ ⟨Nat.le_refl _, Nat.le_refl _⟩ d_Re_runOf_20 (fun y20 => ?_)
      refine aw_if_eq (tgt := 32) d_Re_runOf_23 rfl (fun q23 => ?_) (fun q23 => ?_)
      · refine aw_sub (lo' := [(0, .ref 5), (1, .int a1), (2, .int a2), (3, .int a3), (4, .int a4), (5, .int v5_5)]) [0, 1, 2, 3, 4, 5] rfl ?_
        exact hkx5_32 _
      · refine aw_iinc (v := (v5_5 + (1 : Int32))) (lo' := [(5, .int (v5_5 + (1 : Int32))), (0, .ref 5), (1, .int a1), (2, .int a2), (3, .int a3), (4, .int a4)]) d_Re_runOf_26 5 rfl (by rw [show Int32.ofInt (1) = (1 : Int32) from by decide]) (by decide) rfl ?_
        refine aw_goto (tgt := 5) d_Re_runOf_29 rfl ?_
        refine aw_sub (lo' := [(0, .ref 5), (1, .int a1), (2, .int a2), (3, .int a3), (4, .int a4), (5, .int (v5_5 + (1 : Int32)))]) [1, 2, 3, 4, 5, 0] rfl ?_
        exact ih _
def f_Re_runOf (a1 : Int32) (a2 : Int32) (a3 : Int32) (a4 : Int32) (δ : Dm) : Option Int32 := (bnd (a1 + (1 : Int32)) (fun v3 => (lp_Re_runOf_5 (fun v5_5x => (some (v5_5x - a1))) a1 a2 a3 a4 δ FU v3)))
set_option maxHeartbeats 4000000 in
set_option maxRecDepth 100000 in
theorem m_Re_runOf {a1 : Int32} {a2 : Int32} {a3 : Int32} {a4 : Int32} {δ : Dm} {n : Nat} : ∀ x, f_Re_runOf a1 a2 a3 a4 δ = some x → AMet k_Re_runOf 2 0 0 [.ref 5, .int a1, .int a2, .int a3, .int a4] δ RT n (Kp δ RT n x) := by
  refine aw_start (lo := [(0, .ref 5), (1, .int a1), (2, .int a2), (3, .int a3), (4, .int a4)]) mok_Re_runOf rfl (Nat.le_of_ble_eq_true rfl) ?_
  unfold f_Re_runOf
  refine aw_iload_n d_Re_runOf_0 1 rfl ?_
  refine aw_iconst d_Re_runOf_1 ki_1 ?_
  refine aw_iadd d_Re_runOf_2 ?_
  refine aw_bI (fun v3 => ?_)
  refine aw_istore (lo' := [(5, .int v3), (0, .ref 5), (1, .int a1), (2, .int a2), (3, .int a3), (4, .int a4)]) d_Re_runOf_3 (by decide) rfl ?_
  refine aw_sub (lo' := [(0, .ref 5), (1, .int a1), (2, .int a2), (3, .int a3), (4, .int a4), (5, .int v3)]) [1, 2, 3, 4, 5, 0] rfl ?_
  refine tl_Re_runOf_5 _ _ _ _ _ _ (fun v5_5x => ?_) FU _
  · refine aw_iload d_Re_runOf_32 5 rfl ?_
    refine aw_iload_n d_Re_runOf_34 1 rfl ?_
    refine aw_isub d_Re_runOf_35 ?_
    exact aw_iret rfl rfl ⟨Nat.le_refl _, Nat.le_refl _⟩ d_Re_runOf_36
def lp_Re_numberIn_12 (kx12_41 : Int32 → Int32 → Option Int32) (a1 : Int32) (a2 : Int32) (δ : Dm) : Nat → Int32 → Int32 → Option Int32
  | 0, _, _ => none
  | f + 1, v3_12, v4_12 => (if a2 ≤ v4_12 then (kx12_41 v3_12 v4_12) else ((f_Fp_get 5 (a1 + v4_12) δ).bind (fun y27 => (bnd (((v3_12 * (10 : Int32)) + y27) - (48 : Int32)) (fun v34 => (lp_Re_numberIn_12 kx12_41 a1 a2 δ f v34 (v4_12 + (1 : Int32))))))))
set_option maxHeartbeats 4000000 in
set_option maxRecDepth 100000 in
theorem tl_Re_numberIn_12 {n : Nat} (kx12_41 : Int32 → Int32 → Option Int32) (a1 : Int32) (a2 : Int32) (δ : Dm) (hkx12_41 : ∀ v3_12k v4_12k, AWo k_Re_numberIn 2 0 0 41 [(0, .ref 5), (1, .int a1), (2, .int a2), (3, .int v3_12k), (4, .int v4_12k)] [] δ RT n 0 0 (Kp δ RT n) (kx12_41 v3_12k v4_12k)) : ∀ (f : Nat) (v3_12 : Int32) (v4_12 : Int32), AWo k_Re_numberIn 2 0 0 12 [(0, .ref 5), (1, .int a1), (2, .int a2), (3, .int v3_12), (4, .int v4_12)] [] δ RT n 0 0 (Kp δ RT n) (lp_Re_numberIn_12 kx12_41 a1 a2 δ f v3_12 v4_12) := by
  intro f
  induction f with
  | zero => intro _ _; exact aw_none
  | succ f ih =>
    intro v3_12 v4_12
    rw [lp_Re_numberIn_12]
    refine aw_iload d_Re_numberIn_12 4 rfl ?_
    refine aw_iload_n d_Re_numberIn_14 2 rfl ?_
    refine aw_icmp_ge (tgt := 41) d_Re_numberIn_15 rfl (fun q15 => ?_) (fun q15 => ?_)
    · refine aw_sub (lo' := [(0, .ref 5), (1, .int a1), (2, .int a2), (3, .int v3_12), (4, .int v4_12)]) [0, 1, 2, 3, 4] rfl ?_
      exact hkx12_41 _ _
    · refine aw_iload_n d_Re_numberIn_18 3 rfl ?_
      refine aw_bipush d_Re_numberIn_19 kb_10 ?_
      refine aw_imul d_Re_numberIn_21 ?_
      refine aw_aload_n d_Re_numberIn_22 0 rfl ?_
      refine aw_iload_n d_Re_numberIn_23 1 rfl ?_
      refine aw_iload d_Re_numberIn_24 4 rfl ?_
      refine aw_iadd d_Re_numberIn_26 ?_
      refine aw_SN_p (As := [.ref 5, .int (a1 + v4_12)]) (m_Fp_get (congrArg Prod.fst kd_5)) cs_Re_63 rfl rfl (Nat.le_of_ble_eq_true rfl) ⟨Nat.le_of_ble_eq_true rfl, Nat.le_of_ble_eq_true rfl⟩ ⟨Nat.le_refl _, Nat.le_refl _⟩ d_Re_numberIn_27 (fun y27 => ?_)
      refine aw_iadd d_Re_numberIn_30 ?_
      refine aw_bipush d_Re_numberIn_31 kb_48 ?_
      refine aw_isub d_Re_numberIn_33 ?_
      refine aw_bI (fun v34 => ?_)
      refine aw_istore_n (lo' := [(3, .int v34), (0, .ref 5), (1, .int a1), (2, .int a2), (4, .int v4_12)]) d_Re_numberIn_34 rfl (by decide) rfl ?_
      refine aw_iinc (v := (v4_12 + (1 : Int32))) (lo' := [(4, .int (v4_12 + (1 : Int32))), (3, .int v34), (0, .ref 5), (1, .int a1), (2, .int a2)]) d_Re_numberIn_35 4 rfl (by rw [show Int32.ofInt (1) = (1 : Int32) from by decide]) (by decide) rfl ?_
      refine aw_goto (tgt := 12) d_Re_numberIn_38 rfl ?_
      refine aw_sub (lo' := [(0, .ref 5), (1, .int a1), (2, .int a2), (3, .int v34), (4, .int (v4_12 + (1 : Int32)))]) [2, 3, 4, 1, 0] rfl ?_
      exact ih _ _
def f_Re_numberIn (a1 : Int32) (a2 : Int32) (δ : Dm) : Option Int32 := (if a2 ≤ (5 : Int32) then (lp_Re_numberIn_12 (fun v3_12x v4_12x => (some v3_12x)) a1 a2 δ FU (0 : Int32) (0 : Int32)) else (some (-1 : Int32)))
set_option maxHeartbeats 4000000 in
set_option maxRecDepth 100000 in
theorem m_Re_numberIn {a1 : Int32} {a2 : Int32} {δ : Dm} {n : Nat} : ∀ x, f_Re_numberIn a1 a2 δ = some x → AMet k_Re_numberIn 2 0 0 [.ref 5, .int a1, .int a2] δ RT n (Kp δ RT n x) := by
  refine aw_start (lo := [(0, .ref 5), (1, .int a1), (2, .int a2)]) mok_Re_numberIn rfl (Nat.le_of_ble_eq_true rfl) ?_
  unfold f_Re_numberIn
  refine aw_iload_n d_Re_numberIn_0 2 rfl ?_
  refine aw_iconst d_Re_numberIn_1 ki_5 ?_
  refine aw_icmp_le (tgt := 7) d_Re_numberIn_2 rfl (fun q2 => ?_) (fun q2 => ?_)
  · refine aw_iconst d_Re_numberIn_7 ki_0 ?_
    refine aw_istore_n (lo' := [(3, .int (0 : Int32)), (0, .ref 5), (1, .int a1), (2, .int a2)]) d_Re_numberIn_8 rfl (by decide) rfl ?_
    refine aw_iconst d_Re_numberIn_9 ki_0 ?_
    refine aw_istore (lo' := [(4, .int (0 : Int32)), (3, .int (0 : Int32)), (0, .ref 5), (1, .int a1), (2, .int a2)]) d_Re_numberIn_10 (by decide) rfl ?_
    refine aw_sub (lo' := [(0, .ref 5), (1, .int a1), (2, .int a2), (3, .int (0 : Int32)), (4, .int (0 : Int32))]) [2, 3, 4, 1, 0] rfl ?_
    refine tl_Re_numberIn_12 _ _ _ _ (fun v3_12x v4_12x => ?_) FU _ _
    · refine aw_iload_n d_Re_numberIn_41 3 rfl ?_
      exact aw_iret rfl rfl ⟨Nat.le_refl _, Nat.le_refl _⟩ d_Re_numberIn_42
  · refine aw_iconst d_Re_numberIn_5 ki_m1 ?_
    exact aw_iret rfl rfl ⟨Nat.le_refl _, Nat.le_refl _⟩ d_Re_numberIn_6
def f_Re_addToken (a1 : Int32) (a2 : Int32) (a3 : Int32) (δ : Dm) : Option Dm := ((f_Fp_put 8 (gI δ 7 3) a1 δ).bind (fun y9 => ((f_Fp_put 9 (gI y9 7 3) a2 y9).bind (fun y21 => ((f_Fp_put 10 (gI y21 7 3) a3 y21).bind (fun y33 => (bnd (sI y33 7 3 ((gI y33 7 3) + (1 : Int32))) (fun δ_43 => (some δ_43)))))))))
set_option maxHeartbeats 4000000 in
set_option maxRecDepth 100000 in
theorem m_Re_addToken {a1 : Int32} {a2 : Int32} {a3 : Int32} {δ : Dm} {n : Nat} : ∀ x, f_Re_addToken a1 a2 a3 δ = some x → AMet k_Re_addToken 2 0 0 [.ref 7, .int a1, .int a2, .int a3] δ RT n (Kv RT n x) := by
  refine aw_start (lo := [(0, .ref 7), (1, .int a1), (2, .int a2), (3, .int a3)]) mok_Re_addToken rfl (Nat.le_of_ble_eq_true rfl) ?_
  unfold f_Re_addToken
  refine aw_aload_n d_Re_addToken_0 0 rfl ?_
  refine aw_getR (t := 8) fl_Re_11 kd_7 rt_7_0 d_Re_addToken_1 ?_
  refine aw_aload_n d_Re_addToken_4 0 rfl ?_
  refine aw_getI fl_Re_60 kd_7 d_Re_addToken_5 ?_
  refine aw_iload_n d_Re_addToken_8 1 rfl ?_
  refine aw_SN_v (As := [.ref 8, .int (gI δ 7 3), .int a1]) (m_Fp_put (congrArg Prod.fst kd_8)) cs_Re_99 rfl rfl (Nat.le_of_ble_eq_true rfl) ⟨Nat.le_of_ble_eq_true rfl, Nat.le_of_ble_eq_true rfl⟩ ⟨Nat.le_refl _, Nat.le_refl _⟩ d_Re_addToken_9 (fun y9 => ?_)
  refine aw_aload_n d_Re_addToken_12 0 rfl ?_
  refine aw_getR (t := 9) fl_Re_15 kd_7 rt_7_1 d_Re_addToken_13 ?_
  refine aw_aload_n d_Re_addToken_16 0 rfl ?_
  refine aw_getI fl_Re_60 kd_7 d_Re_addToken_17 ?_
  refine aw_iload_n d_Re_addToken_20 2 rfl ?_
  refine aw_SN_v (As := [.ref 9, .int (gI y9 7 3), .int a2]) (m_Fp_put (congrArg Prod.fst kd_9)) cs_Re_99 rfl rfl (Nat.le_of_ble_eq_true rfl) ⟨Nat.le_of_ble_eq_true rfl, Nat.le_of_ble_eq_true rfl⟩ ⟨Nat.le_refl _, Nat.le_refl _⟩ d_Re_addToken_21 (fun y21 => ?_)
  refine aw_aload_n d_Re_addToken_24 0 rfl ?_
  refine aw_getR (t := 10) fl_Re_18 kd_7 rt_7_2 d_Re_addToken_25 ?_
  refine aw_aload_n d_Re_addToken_28 0 rfl ?_
  refine aw_getI fl_Re_60 kd_7 d_Re_addToken_29 ?_
  refine aw_iload_n d_Re_addToken_32 3 rfl ?_
  refine aw_SN_v (As := [.ref 10, .int (gI y21 7 3), .int a3]) (m_Fp_put (congrArg Prod.fst kd_10)) cs_Re_99 rfl rfl (Nat.le_of_ble_eq_true rfl) ⟨Nat.le_of_ble_eq_true rfl, Nat.le_of_ble_eq_true rfl⟩ ⟨Nat.le_refl _, Nat.le_refl _⟩ d_Re_addToken_33 (fun y33 => ?_)
  refine aw_aload_n d_Re_addToken_36 0 rfl ?_
  refine aw_dup d_Re_addToken_37 rfl ?_
  refine aw_getI fl_Re_60 kd_7 d_Re_addToken_38 ?_
  refine aw_iconst d_Re_addToken_41 ki_1 ?_
  refine aw_iadd d_Re_addToken_42 ?_
  refine aw_putI pf_Re_60 kd_7 d_Re_addToken_43 ?_
  refine aw_bD (fun δ_43 => ?_)
  exact aw_vret rfl rfl ⟨Nat.le_refl _, Nat.le_refl _⟩ d_Re_addToken_46
def f_Re_isLetter (a0 : Int32) (δ : Dm) : Option Int32 := ((f_Fp_within a0 (97 : Int32) (122 : Int32) δ).bind (fun y5 => (if y5 = 0 ∨ y5 = 1 then (some y5) else none)))
set_option maxHeartbeats 4000000 in
set_option maxRecDepth 100000 in
theorem m_Re_isLetter {a0 : Int32} {δ : Dm} {n : Nat} : ∀ x, f_Re_isLetter a0 δ = some x → AMet k_Re_isLetter 2 0 0 [.int a0] δ RT n (Kp δ RT n x) := by
  refine aw_start (lo := [(0, .int a0)]) mok_Re_isLetter rfl (Nat.le_of_ble_eq_true rfl) ?_
  unfold f_Re_isLetter
  refine aw_iload_n d_Re_isLetter_0 0 rfl ?_
  refine aw_bipush d_Re_isLetter_1 kb_97 ?_
  refine aw_bipush d_Re_isLetter_3 kb_122 ?_
  refine aw_SN_p (As := [.int a0, .int (97 : Int32), .int (122 : Int32)]) (m_Fp_within) cs_Re_103 rfl rfl (Nat.le_of_ble_eq_true rfl) ⟨Nat.le_of_ble_eq_true rfl, Nat.le_of_ble_eq_true rfl⟩ ⟨Nat.le_refl _, Nat.le_refl _⟩ d_Re_isLetter_5 (fun y5 => ?_)
  exact aw_zr2 rfl rfl ⟨Nat.le_refl _, Nat.le_refl _⟩ d_Re_isLetter_8
def f_St_coder (δ : Dm) : Option Int32 := (if (1 : Int32) = 0 then (some (1 : Int32)) else (some (0 : Int32)))
set_option maxHeartbeats 4000000 in
set_option maxRecDepth 100000 in
theorem m_St_coder {δ : Dm} {n : Nat} : ∀ x, f_St_coder δ = some x → AMet k_St_coder 1 0 0 [.ref 1] δ RT n (Kp δ RT n x) := by
  refine aw_start (lo := [(0, .ref 1)]) mok_St_coder rfl (Nat.le_of_ble_eq_true rfl) ?_
  unfold f_St_coder
  refine aw_gets1 sf_38 d_St_coder_0 ?_
  refine aw_if_eq (tgt := 13) d_St_coder_3 rfl (fun q3 => ?_) (fun q3 => ?_)
  · refine aw_iconst d_St_coder_13 ki_1 ?_
    exact aw_zret rfl rfl rfl ⟨Nat.le_refl _, Nat.le_refl _⟩ d_St_coder_14
  · refine aw_aload_n d_St_coder_6 0 rfl ?_
    refine aw_getSc sf_15 d_St_coder_7 ?_
    refine aw_goto (tgt := 14) d_St_coder_10 rfl ?_
    exact aw_zret rfl rfl rfl ⟨Nat.le_refl _, Nat.le_refl _⟩ d_St_coder_14
def f_St_length (δ : Dm) : Option Int32 := ((f_St_coder δ).bind (fun y6 => (some ((108 : Int32) >>> (y6 &&& 31)))))
set_option maxHeartbeats 4000000 in
set_option maxRecDepth 100000 in
theorem m_St_length {δ : Dm} {n : Nat} : ∀ x, f_St_length δ = some x → AMet k_St_length 2 0 0 [.ref 1] δ RT n (Kp δ RT n x) := by
  refine aw_start (lo := [(0, .ref 1)]) mok_St_length rfl (Nat.le_of_ble_eq_true rfl) ?_
  unfold f_St_length
  refine aw_aload_n d_St_length_0 0 rfl ?_
  refine aw_getSv sf_9 d_St_length_1 ?_
  refine aw_alenS d_St_length_4 ?_
  refine aw_aload_n d_St_length_5 0 rfl ?_
  refine aw_VS (K1 := Kp δ RT n) (As := []) (m_St_coder) cv_St_335 rfl rfl rfl (Nat.le_of_ble_eq_true rfl) ⟨Nat.le_of_ble_eq_true rfl, Nat.le_of_ble_eq_true rfl⟩ ⟨Nat.le_refl _, Nat.le_refl _⟩ d_St_length_6 (fun y6 => ?_)
  refine aw_ishr d_St_length_9 ?_
  exact aw_iret rfl rfl ⟨Nat.le_refl _, Nat.le_refl _⟩ d_St_length_10
def f_St_isLatin1 (δ : Dm) : Option Int32 := (if (1 : Int32) = 0 then (some (0 : Int32)) else (if (0 : Int32) = 0 then (some (1 : Int32)) else (some (0 : Int32))))
set_option maxHeartbeats 4000000 in
set_option maxRecDepth 100000 in
theorem m_St_isLatin1 {δ : Dm} {n : Nat} : ∀ x, f_St_isLatin1 δ = some x → AMet k_St_isLatin1 1 0 0 [.ref 1] δ RT n (Kp δ RT n x) := by
  refine aw_start (lo := [(0, .ref 1)]) mok_St_isLatin1 rfl (Nat.le_of_ble_eq_true rfl) ?_
  unfold f_St_isLatin1
  refine aw_gets1 sf_38 d_St_isLatin1_0 ?_
  refine aw_if_eq (tgt := 17) d_St_isLatin1_3 rfl (fun q3 => ?_) (fun q3 => ?_)
  · refine aw_iconst d_St_isLatin1_17 ki_0 ?_
    exact aw_zret rfl rfl rfl ⟨Nat.le_refl _, Nat.le_refl _⟩ d_St_isLatin1_18
  · refine aw_aload_n d_St_isLatin1_6 0 rfl ?_
    refine aw_getSc sf_15 d_St_isLatin1_7 ?_
    refine aw_if_ne (tgt := 17) d_St_isLatin1_10 rfl (fun q10 => ?_) (fun q10 => ?_)
    · refine aw_iconst d_St_isLatin1_13 ki_1 ?_
      refine aw_goto (tgt := 18) d_St_isLatin1_14 rfl ?_
      exact aw_zret rfl rfl rfl ⟨Nat.le_refl _, Nat.le_refl _⟩ d_St_isLatin1_18
    · refine aw_iconst d_St_isLatin1_17 ki_0 ?_
      exact aw_zret rfl rfl rfl ⟨Nat.le_refl _, Nat.le_refl _⟩ d_St_isLatin1_18
def f_Pr_checkIndex (a0 : Int32) (a1 : Int32) (δ : Dm) : Option Int32 := (if a0 < 0 then none else (if a0 < a1 then (some a0) else none))
set_option maxHeartbeats 4000000 in
set_option maxRecDepth 100000 in
theorem m_Pr_checkIndex {a0 : Int32} {a1 : Int32} {δ : Dm} {n : Nat} : ∀ x, f_Pr_checkIndex a0 a1 δ = some x → AMet k_Pr_checkIndex 1 0 0 [.int a0, .int a1, .ref 3] δ RT n (Kp δ RT n x) := by
  refine aw_start (lo := [(0, .int a0), (1, .int a1), (2, .ref 3)]) mok_Pr_checkIndex rfl (Nat.le_of_ble_eq_true rfl) ?_
  unfold f_Pr_checkIndex
  refine aw_iload_n d_Pr_checkIndex_0 0 rfl ?_
  refine aw_if_lt (tgt := 9) d_Pr_checkIndex_1 rfl (fun q1 => ?_) (fun q1 => ?_)
  · refine aw_aload_n d_Pr_checkIndex_9 2 rfl ?_
    refine aw_iload_n d_Pr_checkIndex_10 0 rfl ?_
    refine aw_iload_n d_Pr_checkIndex_11 1 rfl ?_
    exact aw_none
  · refine aw_iload_n d_Pr_checkIndex_4 0 rfl ?_
    refine aw_iload_n d_Pr_checkIndex_5 1 rfl ?_
    refine aw_icmp_lt (tgt := 16) d_Pr_checkIndex_6 rfl (fun q6 => ?_) (fun q6 => ?_)
    · refine aw_iload_n d_Pr_checkIndex_16 0 rfl ?_
      exact aw_iret rfl rfl ⟨Nat.le_refl _, Nat.le_refl _⟩ d_Pr_checkIndex_17
    · refine aw_aload_n d_Pr_checkIndex_9 2 rfl ?_
      refine aw_iload_n d_Pr_checkIndex_10 0 rfl ?_
      refine aw_iload_n d_Pr_checkIndex_11 1 rfl ?_
      exact aw_none
set_option maxHeartbeats 4000000 in
set_option maxRecDepth 100000 in
theorem m_Pr_checkIndexN {a0 : Int32} {a1 : Int32} {δ : Dm} {n : Nat} : ∀ x, f_Pr_checkIndex a0 a1 δ = some x → AMet k_Pr_checkIndex 1 0 0 [.int a0, .int a1, .null] δ RT n (Kp δ RT n x) := by
  refine aw_start (lo := [(0, .int a0), (1, .int a1), (2, .null)]) mok_Pr_checkIndex rfl (Nat.le_of_ble_eq_true rfl) ?_
  unfold f_Pr_checkIndex
  refine aw_iload_n d_Pr_checkIndex_0 0 rfl ?_
  refine aw_if_lt (tgt := 9) d_Pr_checkIndex_1 rfl (fun q1 => ?_) (fun q1 => ?_)
  · refine aw_aloadN_n d_Pr_checkIndex_9 2 rfl ?_
    refine aw_iload_n d_Pr_checkIndex_10 0 rfl ?_
    refine aw_iload_n d_Pr_checkIndex_11 1 rfl ?_
    exact aw_none
  · refine aw_iload_n d_Pr_checkIndex_4 0 rfl ?_
    refine aw_iload_n d_Pr_checkIndex_5 1 rfl ?_
    refine aw_icmp_lt (tgt := 16) d_Pr_checkIndex_6 rfl (fun q6 => ?_) (fun q6 => ?_)
    · refine aw_iload_n d_Pr_checkIndex_16 0 rfl ?_
      exact aw_iret rfl rfl ⟨Nat.le_refl _, Nat.le_refl _⟩ d_Pr_checkIndex_17
    · refine aw_aloadN_n d_Pr_checkIndex_9 2 rfl ?_
      refine aw_iload_n d_Pr_checkIndex_10 0 rfl ?_
      refine aw_iload_n d_Pr_checkIndex_11 1 rfl ?_
      exact aw_none
def f_St_checkIndex (a0 : Int32) (a1 : Int32) (δ : Dm) : Option Unit := ((f_Pr_checkIndex a0 a1 δ).bind (fun y5 => (some ())))
set_option maxHeartbeats 4000000 in
set_option maxRecDepth 100000 in
theorem m_St_checkIndex {a0 : Int32} {a1 : Int32} {δ : Dm} {n : Nat} : ∀ x, f_St_checkIndex a0 a1 δ = some x → AMet k_St_checkIndex 2 0 0 [.int a0, .int a1] δ RT n (Kz δ RT n x) := by
  refine aw_start (lo := [(0, .int a0), (1, .int a1)]) mok_St_checkIndex rfl (Nat.le_of_ble_eq_true rfl) ?_
  unfold f_St_checkIndex
  refine aw_iload_n d_St_checkIndex_0 0 rfl ?_
  refine aw_iload_n d_St_checkIndex_1 1 rfl ?_
  refine aw_getsF sf_1053 d_St_checkIndex_2 ?_ ?_
  · refine aw_S_p (As := [.int a0, .int a1, .ref 3]) (m_Pr_checkIndex) cs_St_1059 rfl rfl (Nat.le_of_ble_eq_true rfl) ⟨Nat.le_of_ble_eq_true rfl, Nat.le_of_ble_eq_true rfl⟩ ⟨Nat.le_refl _, Nat.le_refl _⟩ d_St_checkIndex_5 (fun y5 => ?_)
    refine aw_pop d_St_checkIndex_8 rfl ?_
    exact aw_vret rfl rfl ⟨Nat.le_refl _, Nat.le_refl _⟩ d_St_checkIndex_9
  · refine aw_S_p (As := [.int a0, .int a1, .null]) (m_Pr_checkIndexN) cs_St_1059 rfl rfl (Nat.le_of_ble_eq_true rfl) ⟨Nat.le_of_ble_eq_true rfl, Nat.le_of_ble_eq_true rfl⟩ ⟨Nat.le_refl _, Nat.le_refl _⟩ d_St_checkIndex_5 (fun y5_1 => ?_)
    refine aw_pop d_St_checkIndex_8 rfl ?_
    exact aw_vret rfl rfl ⟨Nat.le_refl _, Nat.le_refl _⟩ d_St_checkIndex_9
def f_S1_charAt (a1 : Int32) (δ : Dm) : Option Int32 := ((f_St_checkIndex a1 (108 : Int32) δ).bind (fun _ => (if inb a1 108 then (some (((((byW (ix a1)) &&& (255 : Int32))).toUInt32 % 65536).toInt32)) else none)))
set_option maxHeartbeats 4000000 in
set_option maxRecDepth 100000 in
theorem m_S1_charAt {a1 : Int32} {δ : Dm} {n : Nat} : ∀ x, f_S1_charAt a1 δ = some x → AMet k_S1_charAt 3 0 0 [.ref 2, .int a1] δ RT n (Kp δ RT n x) := by
  refine aw_start (lo := [(0, .ref 2), (1, .int a1)]) mok_S1_charAt rfl (Nat.le_of_ble_eq_true rfl) ?_
  unfold f_S1_charAt
  refine aw_iload_n d_S1_charAt_0 1 rfl ?_
  refine aw_aload_n d_S1_charAt_1 0 rfl ?_
  refine aw_alenS d_S1_charAt_2 ?_
  refine aw_S_z (As := [.int a1, .int (108 : Int32)]) (m_St_checkIndex) cs_S1_9 rfl rfl (Nat.le_of_ble_eq_true rfl) ⟨Nat.le_of_ble_eq_true rfl, Nat.le_of_ble_eq_true rfl⟩ ⟨Nat.le_refl _, Nat.le_refl _⟩ d_S1_charAt_3 (fun _ => ?_)
  refine aw_aload_n d_S1_charAt_6 0 rfl ?_
  refine aw_iload_n d_S1_charAt_7 1 rfl ?_
  refine aw_baldS d_S1_charAt_8 ?_
  refine aw_sipush d_S1_charAt_9 ks_255 ?_
  refine aw_iand d_S1_charAt_12 ?_
  refine aw_i2c d_S1_charAt_13 ?_
  exact aw_zret rfl rfl (pk_nc _) ⟨Nat.le_refl _, Nat.le_refl _⟩ d_S1_charAt_14
def f_St_charAt (a1 : Int32) (δ : Dm) : Option Int32 := ((f_St_isLatin1 δ).bind (fun y1 => (if y1 = 0 then none else ((f_S1_charAt a1 δ).bind (fun y12 => (if ((y12).toUInt32 % 65536).toInt32 = y12 then (some y12) else none))))))
set_option maxHeartbeats 4000000 in
set_option maxRecDepth 100000 in
theorem m_St_charAt {a1 : Int32} {δ : Dm} {n : Nat} : ∀ x, f_St_charAt a1 δ = some x → AMet k_St_charAt 4 0 0 [.ref 1, .int a1] δ RT n (Kp δ RT n x) := by
  refine aw_start (lo := [(0, .ref 1), (1, .int a1)]) mok_St_charAt rfl (Nat.le_of_ble_eq_true rfl) ?_
  unfold f_St_charAt
  refine aw_aload_n d_St_charAt_0 0 rfl ?_
  refine aw_VS (K1 := Kp δ RT n) (As := []) (m_St_isLatin1) cv_St_492 rfl rfl rfl (Nat.le_of_ble_eq_true rfl) ⟨Nat.le_of_ble_eq_true rfl, Nat.le_of_ble_eq_true rfl⟩ ⟨Nat.le_refl _, Nat.le_refl _⟩ d_St_charAt_1 (fun y1 => ?_)
  refine aw_if_eq (tgt := 16) d_St_charAt_4 rfl (fun q4 => ?_) (fun q4 => ?_)
  · refine aw_aload_n d_St_charAt_16 0 rfl ?_
    refine aw_getSv sf_9 d_St_charAt_17 ?_
    refine aw_iload_n d_St_charAt_20 1 rfl ?_
    exact aw_none
  · refine aw_aload_n d_St_charAt_7 0 rfl ?_
    refine aw_getSv sf_9 d_St_charAt_8 ?_
    refine aw_iload_n d_St_charAt_11 1 rfl ?_
    refine aw_S_p (As := [.ref 2, .int a1]) (m_S1_charAt) cs_St_495 rfl rfl (Nat.le_of_ble_eq_true rfl) ⟨Nat.le_of_ble_eq_true rfl, Nat.le_of_ble_eq_true rfl⟩ ⟨Nat.le_refl _, Nat.le_refl _⟩ d_St_charAt_12 (fun y12 => ?_)
    exact aw_cr2 rfl rfl ⟨Nat.le_refl _, Nat.le_refl _⟩ d_St_charAt_15
def lp_Re_isWordAt_3 (kx3_56 : Int32 → Option Int32) (a1 : Int32) (a2 : Int32) (a3 : Int32) (δ : Dm) : Nat → Int32 → Option Int32
  | 0, _ => none
  | f + 1, v4_3 => (if a3 ≤ v4_3 then (kx3_56 v4_3) else (bnd (a2 + v4_3) (fun v13 => (if v13 < 0 then (some (0 : Int32)) else ((f_St_length δ).bind (fun y24 => (if y24 ≤ v13 then (some (0 : Int32)) else ((f_St_charAt v13 δ).bind (fun y34 => ((f_Fp_get 5 (a1 + v4_3) δ).bind (fun y42 => (if y34 = y42 then (lp_Re_isWordAt_3 kx3_56 a1 a2 a3 δ f (v4_3 + (1 : Int32))) else (some (0 : Int32))))))))))))))
set_option maxHeartbeats 4000000 in
set_option maxRecDepth 100000 in
theorem tl_Re_isWordAt_3 {n : Nat} (kx3_56 : Int32 → Option Int32) (a1 : Int32) (a2 : Int32) (a3 : Int32) (δ : Dm) (hkx3_56 : ∀ v4_3k, AWo k_Re_isWordAt 5 0 0 56 [(0, .ref 5), (1, .int a1), (2, .int a2), (3, .int a3), (4, .int v4_3k)] [] δ RT n 0 0 (Kp δ RT n) (kx3_56 v4_3k)) : ∀ (f : Nat) (v4_3 : Int32), AWo k_Re_isWordAt 5 0 0 3 [(0, .ref 5), (1, .int a1), (2, .int a2), (3, .int a3), (4, .int v4_3)] [] δ RT n 0 0 (Kp δ RT n) (lp_Re_isWordAt_3 kx3_56 a1 a2 a3 δ f v4_3) := by
  intro f
  induction f with
  | zero => intro _; exact aw_none
  | succ f ih =>
    intro v4_3
    rw [lp_Re_isWordAt_3]
    refine aw_iload d_Re_isWordAt_3 4 rfl ?_
    refine aw_iload_n d_Re_isWordAt_5 3 rfl ?_
    refine aw_icmp_ge (tgt := 56) d_Re_isWordAt_6 rfl (fun q6 => ?_) (fun q6 => ?_)
    · refine aw_sub (lo' := [(0, .ref 5), (1, .int a1), (2, .int a2), (3, .int a3), (4, .int v4_3)]) [0, 1, 2, 3, 4] rfl ?_
      exact hkx3_56 _
    · refine aw_iload_n d_Re_isWordAt_9 2 rfl ?_
      refine aw_iload d_Re_isWordAt_10 4 rfl ?_
      refine aw_iadd d_Re_isWordAt_12 ?_
      refine aw_bI (fun v13 => ?_)
      refine aw_istore (lo' := [(5, .int v13), (0, .ref 5), (1, .int a1), (2, .int a2), (3, .int a3), (4, .int v4_3)]) d_Re_isWordAt_13 (by decide) rfl ?_
      refine aw_iload d_Re_isWordAt_15 0 rfl ?_
      refine aw_if_lt (tgt := 48) d_Re_isWordAt_17 rfl (fun q17 => ?_) (fun q17 => ?_)
      · refine aw_iconst d_Re_isWordAt_48 ki_0 ?_
        exact aw_zret rfl rfl rfl ⟨Nat.le_refl _, Nat.le_refl _⟩ d_Re_isWordAt_49
      · refine aw_iload d_Re_isWordAt_20 0 rfl ?_
        refine aw_ldcS rfl d_Re_isWordAt_22 ?_
        refine aw_VS (K1 := Kp δ RT n) (As := []) (m_St_length) cv_Re_109 rfl rfl rfl (Nat.le_of_ble_eq_true rfl) ⟨Nat.le_of_ble_eq_true rfl, Nat.le_of_ble_eq_true rfl⟩ ⟨Nat.le_refl _, Nat.le_refl _⟩ d_Re_isWordAt_24 (fun y24 => ?_)
        refine aw_icmp_ge (tgt := 48) d_Re_isWordAt_27 rfl (fun q27 => ?_) (fun q27 => ?_)
        · refine aw_iconst d_Re_isWordAt_48 ki_0 ?_
          exact aw_zret rfl rfl rfl ⟨Nat.le_refl _, Nat.le_refl _⟩ d_Re_isWordAt_49
        · refine aw_ldcS rfl d_Re_isWordAt_30 ?_
          refine aw_iload d_Re_isWordAt_32 0 rfl ?_
          refine aw_VS (K1 := Kp δ RT n) (As := [.int v13]) (m_St_charAt) cv_Re_115 rfl rfl rfl (Nat.le_of_ble_eq_true rfl) ⟨Nat.le_of_ble_eq_true rfl, Nat.le_of_ble_eq_true rfl⟩ ⟨Nat.le_refl _, Nat.le_refl _⟩ d_Re_isWordAt_34 (fun y34 => ?_)
          refine aw_aload_n d_Re_isWordAt_37 1 rfl ?_
          refine aw_iload_n d_Re_isWordAt_38 2 rfl ?_
          refine aw_iload d_Re_isWordAt_39 5 rfl ?_
          refine aw_iadd d_Re_isWordAt_41 ?_
          refine aw_SN_p (As := [.ref 5, .int (a1 + v4_3)]) (m_Fp_get (congrArg Prod.fst kd_5)) cs_Re_63 rfl rfl (Nat.le_of_ble_eq_true rfl) ⟨Nat.le_of_ble_eq_true rfl, Nat.le_of_ble_eq_true rfl⟩ ⟨Nat.le_refl _, Nat.le_refl _⟩ d_Re_isWordAt_42 (fun y42 => ?_)
          refine aw_icmp_eq (tgt := 50) d_Re_isWordAt_45 rfl (fun q45 => ?_) (fun q45 => ?_)
          · refine aw_iinc (v := (v4_3 + (1 : Int32))) (lo' := [(4, .int (v4_3 + (1 : Int32))), (5, .int v13), (0, .ref 5), (1, .int a1), (2, .int a2), (3, .int a3)]) d_Re_isWordAt_50 5 rfl (by rw [show Int32.ofInt (1) = (1 : Int32) from by decide]) (by decide) rfl ?_
            refine aw_goto (tgt := 3) d_Re_isWordAt_53 rfl ?_
            refine aw_sub (lo' := [(0, .ref 5), (1, .int a1), (2, .int a2), (3, .int a3), (4, .int (v4_3 + (1 : Int32)))]) [2, 3, 4, 5, 0] rfl ?_
            exact ih _
          · refine aw_iconst d_Re_isWordAt_48 ki_0 ?_
            exact aw_zret rfl rfl rfl ⟨Nat.le_refl _, Nat.le_refl _⟩ d_Re_isWordAt_49
def f_Re_isWordAt (a1 : Int32) (a2 : Int32) (a3 : Int32) (δ : Dm) : Option Int32 := (lp_Re_isWordAt_3 (fun v4_3x => (some (1 : Int32))) a1 a2 a3 δ FU (0 : Int32))
set_option maxHeartbeats 4000000 in
set_option maxRecDepth 100000 in
theorem m_Re_isWordAt {a1 : Int32} {a2 : Int32} {a3 : Int32} {δ : Dm} {n : Nat} : ∀ x, f_Re_isWordAt a1 a2 a3 δ = some x → AMet k_Re_isWordAt 5 0 0 [.ref 5, .int a1, .int a2, .int a3] δ RT n (Kp δ RT n x) := by
  refine aw_start (lo := [(0, .ref 5), (1, .int a1), (2, .int a2), (3, .int a3)]) mok_Re_isWordAt rfl (Nat.le_of_ble_eq_true rfl) ?_
  unfold f_Re_isWordAt
  refine aw_iconst d_Re_isWordAt_0 ki_0 ?_
  refine aw_istore (lo' := [(4, .int (0 : Int32)), (0, .ref 5), (1, .int a1), (2, .int a2), (3, .int a3)]) d_Re_isWordAt_1 (by decide) rfl ?_
  refine aw_sub (lo' := [(0, .ref 5), (1, .int a1), (2, .int a2), (3, .int a3), (4, .int (0 : Int32))]) [1, 2, 3, 4, 0] rfl ?_
  refine tl_Re_isWordAt_3 _ _ _ _ _ (fun v4_3x => ?_) FU _
  · refine aw_iconst d_Re_isWordAt_56 ki_1 ?_
    exact aw_zret rfl rfl rfl ⟨Nat.le_refl _, Nat.le_refl _⟩ d_Re_isWordAt_57
def lp_Re_wordIn_8 (kx8_70 : Int32 → Int32 → Int32 → Option Int32) (a1 : Int32) (a2 : Int32) (δ : Dm) : Nat → Int32 → Int32 → Int32 → Option Int32
  | 0, _, _, _ => none
  | f + 1, v3_8, v4_8, v5_8 => ((f_St_length δ).bind (fun y12 => (if y12 ≤ v5_8 then (kx8_70 v3_8 v4_8 v5_8) else ((f_St_charAt v5_8 δ).bind (fun y22 => (if y22 = (32 : Int32) then (if (v5_8 - v4_8) = a2 then ((f_Re_isWordAt a1 v4_8 a2 δ).bind (fun y47 => (if y47 = 0 then (bnd (v5_8 + (1 : Int32)) (fun v62 => (lp_Re_wordIn_8 kx8_70 a1 a2 δ f (v3_8 + (1 : Int32)) v62 (v5_8 + (1 : Int32))))) else (some v3_8)))) else (bnd (v5_8 + (1 : Int32)) (fun v62_1 => (lp_Re_wordIn_8 kx8_70 a1 a2 δ f (v3_8 + (1 : Int32)) v62_1 (v5_8 + (1 : Int32)))))) else (lp_Re_wordIn_8 kx8_70 a1 a2 δ f v3_8 v4_8 (v5_8 + (1 : Int32)))))))))
set_option maxHeartbeats 4000000 in
set_option maxRecDepth 100000 in
theorem tl_Re_wordIn_8 {n : Nat} (kx8_70 : Int32 → Int32 → Int32 → Option Int32) (a1 : Int32) (a2 : Int32) (δ : Dm) (hkx8_70 : ∀ v3_8k v4_8k v5_8k, AWo k_Re_wordIn 6 0 0 70 [(0, .ref 5), (1, .int a1), (2, .int a2), (3, .int v3_8k), (4, .int v4_8k), (5, .int v5_8k)] [] δ RT n 0 0 (Kp δ RT n) (kx8_70 v3_8k v4_8k v5_8k)) : ∀ (f : Nat) (v3_8 : Int32) (v4_8 : Int32) (v5_8 : Int32), AWo k_Re_wordIn 6 0 0 8 [(0, .ref 5), (1, .int a1), (2, .int a2), (3, .int v3_8), (4, .int v4_8), (5, .int v5_8)] [] δ RT n 0 0 (Kp δ RT n) (lp_Re_wordIn_8 kx8_70 a1 a2 δ f v3_8 v4_8 v5_8) := by
  intro f
  induction f with
  | zero => intro _ _ _; exact aw_none
  | succ f ih =>
    intro v3_8 v4_8 v5_8
    rw [lp_Re_wordIn_8]
    refine aw_iload d_Re_wordIn_8 5 rfl ?_
    refine aw_ldcS rfl d_Re_wordIn_10 ?_
    refine aw_VS (K1 := Kp δ RT n) (As := []) (m_St_length) cv_Re_109 rfl rfl rfl (Nat.le_of_ble_eq_true rfl) ⟨Nat.le_of_ble_eq_true rfl, Nat.le_of_ble_eq_true rfl⟩ ⟨Nat.le_refl _, Nat.le_refl _⟩ d_Re_wordIn_12 (fun y12 => ?_)
    refine aw_icmp_ge (tgt := 70) d_Re_wordIn_15 rfl (fun q15 => ?_) (fun q15 => ?_)
    · refine aw_sub (lo' := [(0, .ref 5), (1, .int a1), (2, .int a2), (3, .int v3_8), (4, .int v4_8), (5, .int v5_8)]) [0, 1, 2, 3, 4, 5] rfl ?_
      exact hkx8_70 _ _ _
    · refine aw_ldcS rfl d_Re_wordIn_18 ?_
      refine aw_iload d_Re_wordIn_20 5 rfl ?_
      refine aw_VS (K1 := Kp δ RT n) (As := [.int v5_8]) (m_St_charAt) cv_Re_115 rfl rfl rfl (Nat.le_of_ble_eq_true rfl) ⟨Nat.le_of_ble_eq_true rfl, Nat.le_of_ble_eq_true rfl⟩ ⟨Nat.le_refl _, Nat.le_refl _⟩ d_Re_wordIn_22 (fun y22 => ?_)
      refine aw_bipush d_Re_wordIn_25 kb_32 ?_
      refine aw_icmp_eq (tgt := 33) d_Re_wordIn_27 rfl (fun q27 => ?_) (fun q27 => ?_)
      · refine aw_iload d_Re_wordIn_33 5 rfl ?_
        refine aw_iload d_Re_wordIn_35 4 rfl ?_
        refine aw_isub d_Re_wordIn_37 ?_
        refine aw_iload_n d_Re_wordIn_38 2 rfl ?_
        refine aw_icmp_ne (tgt := 55) d_Re_wordIn_39 rfl (fun q39 => ?_) (fun q39 => ?_)
        · refine aw_aload_n d_Re_wordIn_42 0 rfl ?_
          refine aw_iload_n d_Re_wordIn_43 1 rfl ?_
          refine aw_iload d_Re_wordIn_44 4 rfl ?_
          refine aw_iload_n d_Re_wordIn_46 2 rfl ?_
          refine aw_S_p (As := [.ref 5, .int a1, .int v4_8, .int a2]) (m_Re_isWordAt) cs_Re_119 rfl rfl (Nat.le_of_ble_eq_true rfl) ⟨Nat.le_of_ble_eq_true rfl, Nat.le_of_ble_eq_true rfl⟩ ⟨Nat.le_refl _, Nat.le_refl _⟩ d_Re_wordIn_47 (fun y47 => ?_)
          refine aw_if_eq (tgt := 55) d_Re_wordIn_50 rfl (fun q50 => ?_) (fun q50 => ?_)
          · refine aw_iinc (v := (v3_8 + (1 : Int32))) (lo' := [(3, .int (v3_8 + (1 : Int32))), (0, .ref 5), (1, .int a1), (2, .int a2), (4, .int v4_8), (5, .int v5_8)]) d_Re_wordIn_55 3 rfl (by rw [show Int32.ofInt (1) = (1 : Int32) from by decide]) (by decide) rfl ?_
            refine aw_iload d_Re_wordIn_58 5 rfl ?_
            refine aw_iconst d_Re_wordIn_60 ki_1 ?_
            refine aw_iadd d_Re_wordIn_61 ?_
            refine aw_bI (fun v62 => ?_)
            refine aw_istore (lo' := [(4, .int v62), (3, .int (v3_8 + (1 : Int32))), (0, .ref 5), (1, .int a1), (2, .int a2), (5, .int v5_8)]) d_Re_wordIn_62 (by decide) rfl ?_
            refine aw_iinc (v := (v5_8 + (1 : Int32))) (lo' := [(5, .int (v5_8 + (1 : Int32))), (4, .int v62), (3, .int (v3_8 + (1 : Int32))), (0, .ref 5), (1, .int a1), (2, .int a2)]) d_Re_wordIn_64 5 rfl (by rw [show Int32.ofInt (1) = (1 : Int32) from by decide]) (by decide) rfl ?_
            refine aw_goto (tgt := 8) d_Re_wordIn_67 rfl ?_
            refine aw_sub (lo' := [(0, .ref 5), (1, .int a1), (2, .int a2), (3, .int (v3_8 + (1 : Int32))), (4, .int v62), (5, .int (v5_8 + (1 : Int32)))]) [3, 4, 5, 2, 1, 0] rfl ?_
            exact ih _ _ _
          · refine aw_iload_n d_Re_wordIn_53 3 rfl ?_
            exact aw_iret rfl rfl ⟨Nat.le_refl _, Nat.le_refl _⟩ d_Re_wordIn_54
        · refine aw_iinc (v := (v3_8 + (1 : Int32))) (lo' := [(3, .int (v3_8 + (1 : Int32))), (0, .ref 5), (1, .int a1), (2, .int a2), (4, .int v4_8), (5, .int v5_8)]) d_Re_wordIn_55 3 rfl (by rw [show Int32.ofInt (1) = (1 : Int32) from by decide]) (by decide) rfl ?_
          refine aw_iload d_Re_wordIn_58 5 rfl ?_
          refine aw_iconst d_Re_wordIn_60 ki_1 ?_
          refine aw_iadd d_Re_wordIn_61 ?_
          refine aw_bI (fun v62_1 => ?_)
          refine aw_istore (lo' := [(4, .int v62_1), (3, .int (v3_8 + (1 : Int32))), (0, .ref 5), (1, .int a1), (2, .int a2), (5, .int v5_8)]) d_Re_wordIn_62 (by decide) rfl ?_
          refine aw_iinc (v := (v5_8 + (1 : Int32))) (lo' := [(5, .int (v5_8 + (1 : Int32))), (4, .int v62_1), (3, .int (v3_8 + (1 : Int32))), (0, .ref 5), (1, .int a1), (2, .int a2)]) d_Re_wordIn_64 5 rfl (by rw [show Int32.ofInt (1) = (1 : Int32) from by decide]) (by decide) rfl ?_
          refine aw_goto (tgt := 8) d_Re_wordIn_67 rfl ?_
          refine aw_sub (lo' := [(0, .ref 5), (1, .int a1), (2, .int a2), (3, .int (v3_8 + (1 : Int32))), (4, .int v62_1), (5, .int (v5_8 + (1 : Int32)))]) [3, 4, 5, 2, 1, 0] rfl ?_
          exact ih _ _ _
      · refine aw_goto (tgt := 64) d_Re_wordIn_30 rfl ?_
        refine aw_iinc (v := (v5_8 + (1 : Int32))) (lo' := [(5, .int (v5_8 + (1 : Int32))), (0, .ref 5), (1, .int a1), (2, .int a2), (3, .int v3_8), (4, .int v4_8)]) d_Re_wordIn_64 5 rfl (by rw [show Int32.ofInt (1) = (1 : Int32) from by decide]) (by decide) rfl ?_
        refine aw_goto (tgt := 8) d_Re_wordIn_67 rfl ?_
        refine aw_sub (lo' := [(0, .ref 5), (1, .int a1), (2, .int a2), (3, .int v3_8), (4, .int v4_8), (5, .int (v5_8 + (1 : Int32)))]) [1, 2, 3, 4, 5, 0] rfl ?_
        exact ih _ _ _
def f_Re_wordIn (a1 : Int32) (a2 : Int32) (δ : Dm) : Option Int32 := (lp_Re_wordIn_8 (fun v3_8x v4_8x v5_8x => (some (35 : Int32))) a1 a2 δ FU (0 : Int32) (0 : Int32) (0 : Int32))
set_option maxHeartbeats 4000000 in
set_option maxRecDepth 100000 in
theorem m_Re_wordIn {a1 : Int32} {a2 : Int32} {δ : Dm} {n : Nat} : ∀ x, f_Re_wordIn a1 a2 δ = some x → AMet k_Re_wordIn 6 0 0 [.ref 5, .int a1, .int a2] δ RT n (Kp δ RT n x) := by
  refine aw_start (lo := [(0, .ref 5), (1, .int a1), (2, .int a2)]) mok_Re_wordIn rfl (Nat.le_of_ble_eq_true rfl) ?_
  unfold f_Re_wordIn
  refine aw_iconst d_Re_wordIn_0 ki_0 ?_
  refine aw_istore_n (lo' := [(3, .int (0 : Int32)), (0, .ref 5), (1, .int a1), (2, .int a2)]) d_Re_wordIn_1 rfl (by decide) rfl ?_
  refine aw_iconst d_Re_wordIn_2 ki_0 ?_
  refine aw_istore (lo' := [(4, .int (0 : Int32)), (3, .int (0 : Int32)), (0, .ref 5), (1, .int a1), (2, .int a2)]) d_Re_wordIn_3 (by decide) rfl ?_
  refine aw_iconst d_Re_wordIn_5 ki_0 ?_
  refine aw_istore (lo' := [(5, .int (0 : Int32)), (4, .int (0 : Int32)), (3, .int (0 : Int32)), (0, .ref 5), (1, .int a1), (2, .int a2)]) d_Re_wordIn_6 (by decide) rfl ?_
  refine aw_sub (lo' := [(0, .ref 5), (1, .int a1), (2, .int a2), (3, .int (0 : Int32)), (4, .int (0 : Int32)), (5, .int (0 : Int32))]) [3, 4, 5, 2, 1, 0] rfl ?_
  refine tl_Re_wordIn_8 _ _ _ _ (fun v3_8x v4_8x v5_8x => ?_) FU _ _ _
  · refine aw_bipush d_Re_wordIn_70 kb_35 ?_
    exact aw_iret rfl rfl ⟨Nat.le_refl _, Nat.le_refl _⟩ d_Re_wordIn_72
def f_Re_signToken (a0 : Int32) (δ : Dm) : Option Int32 := (if (a0).toInt = (42 : Int) then (some (24 : Int32)) else (if (a0).toInt = (43 : Int) then (some (22 : Int32)) else (if (a0).toInt = (45 : Int) then (some (23 : Int32)) else (if (a0).toInt = (47 : Int) then (some (25 : Int32)) else (if (a0).toInt = (59 : Int) then (some (33 : Int32)) else (if (a0).toInt = (60 : Int) then (some (26 : Int32)) else (if (a0).toInt = (61 : Int) then (some (28 : Int32)) else (if (a0).toInt = (62 : Int) then (some (30 : Int32)) else (if (a0).toInt = (91 : Int) then (some (31 : Int32)) else (if (a0).toInt = (93 : Int) then (some (32 : Int32)) else (some (35 : Int32))))))))))))
set_option maxHeartbeats 4000000 in
set_option maxRecDepth 100000 in
theorem m_Re_signToken {a0 : Int32} {δ : Dm} {n : Nat} : ∀ x, f_Re_signToken a0 δ = some x → AMet k_Re_signToken 1 0 0 [.int a0] δ RT n (Kp δ RT n x) := by
  refine aw_start (lo := [(0, .int a0)]) mok_Re_signToken rfl (Nat.le_of_ble_eq_true rfl) ?_
  unfold f_Re_signToken
  refine aw_iload_n d_Re_signToken_0 0 rfl ?_
  refine aw_ite (fun q1 => ?_) (fun q1_0 => ?_)
  · refine aw_lswitch (off := 97) (tgt := 98) d_Re_signToken_1 (by decide) (by rw [q1]; decide) rfl ?_
    refine aw_bipush d_Re_signToken_98 kb_24 ?_
    exact aw_iret rfl rfl ⟨Nat.le_refl _, Nat.le_refl _⟩ d_Re_signToken_100
  · refine aw_ite (fun q1 => ?_) (fun q1_1 => ?_)
    · refine aw_lswitch (off := 91) (tgt := 92) d_Re_signToken_1 (by decide) (by rw [q1]; decide) rfl ?_
      refine aw_bipush d_Re_signToken_92 kb_22 ?_
      exact aw_iret rfl rfl ⟨Nat.le_refl _, Nat.le_refl _⟩ d_Re_signToken_94
    · refine aw_ite (fun q1 => ?_) (fun q1_2 => ?_)
      · refine aw_lswitch (off := 94) (tgt := 95) d_Re_signToken_1 (by decide) (by rw [q1]; decide) rfl ?_
        refine aw_bipush d_Re_signToken_95 kb_23 ?_
        exact aw_iret rfl rfl ⟨Nat.le_refl _, Nat.le_refl _⟩ d_Re_signToken_97
      · refine aw_ite (fun q1 => ?_) (fun q1_3 => ?_)
        · refine aw_lswitch (off := 100) (tgt := 101) d_Re_signToken_1 (by decide) (by rw [q1]; decide) rfl ?_
          refine aw_bipush d_Re_signToken_101 kb_25 ?_
          exact aw_iret rfl rfl ⟨Nat.le_refl _, Nat.le_refl _⟩ d_Re_signToken_103
        · refine aw_ite (fun q1 => ?_) (fun q1_4 => ?_)
          · refine aw_lswitch (off := 118) (tgt := 119) d_Re_signToken_1 (by decide) (by rw [q1]; decide) rfl ?_
            refine aw_bipush d_Re_signToken_119 kb_33 ?_
            exact aw_iret rfl rfl ⟨Nat.le_refl _, Nat.le_refl _⟩ d_Re_signToken_121
          · refine aw_ite (fun q1 => ?_) (fun q1_5 => ?_)
            · refine aw_lswitch (off := 103) (tgt := 104) d_Re_signToken_1 (by decide) (by rw [q1]; decide) rfl ?_
              refine aw_bipush d_Re_signToken_104 kb_26 ?_
              exact aw_iret rfl rfl ⟨Nat.le_refl _, Nat.le_refl _⟩ d_Re_signToken_106
            · refine aw_ite (fun q1 => ?_) (fun q1_6 => ?_)
              · refine aw_lswitch (off := 106) (tgt := 107) d_Re_signToken_1 (by decide) (by rw [q1]; decide) rfl ?_
                refine aw_bipush d_Re_signToken_107 kb_28 ?_
                exact aw_iret rfl rfl ⟨Nat.le_refl _, Nat.le_refl _⟩ d_Re_signToken_109
              · refine aw_ite (fun q1 => ?_) (fun q1_7 => ?_)
                · refine aw_lswitch (off := 109) (tgt := 110) d_Re_signToken_1 (by decide) (by rw [q1]; decide) rfl ?_
                  refine aw_bipush d_Re_signToken_110 kb_30 ?_
                  exact aw_iret rfl rfl ⟨Nat.le_refl _, Nat.le_refl _⟩ d_Re_signToken_112
                · refine aw_ite (fun q1 => ?_) (fun q1_8 => ?_)
                  · refine aw_lswitch (off := 112) (tgt := 113) d_Re_signToken_1 (by decide) (by rw [q1]; decide) rfl ?_
                    refine aw_bipush d_Re_signToken_113 kb_31 ?_
                    exact aw_iret rfl rfl ⟨Nat.le_refl _, Nat.le_refl _⟩ d_Re_signToken_115
                  · refine aw_ite (fun q1 => ?_) (fun q1_9 => ?_)
                    · refine aw_lswitch (off := 115) (tgt := 116) d_Re_signToken_1 (by decide) (by rw [q1]; decide) rfl ?_
                      refine aw_bipush d_Re_signToken_116 kb_32 ?_
                      exact aw_iret rfl rfl ⟨Nat.le_refl _, Nat.le_refl _⟩ d_Re_signToken_118
                    · refine aw_lswitch (off := 121) (tgt := 122) d_Re_signToken_1 (by decide) (by simp [Op.lookupswitch.offset]; repeat (rw [if_neg (by omega)])) rfl ?_
                      refine aw_bipush d_Re_signToken_122 kb_35 ?_
                      exact aw_iret rfl rfl ⟨Nat.le_refl _, Nat.le_refl _⟩ d_Re_signToken_124
def jp_Re_scan_181 (kr10 : Int32 → Int32 → Dm → Option Dm) (kx10_194 : Int32 → Int32 → Dm → Option Dm) (a2 : Int32) (v4_10 : Int32) (y19 : Int32) (v3_181 : Int32) (δ181 : Dm) : Option Dm := (bnd (v4_10 + (if (1 : Int32) < v3_181 then v3_181 else (1 : Int32))) (fun v189 => (kr10 v3_181 v189 δ181)))
set_option maxHeartbeats 4000000 in
set_option maxRecDepth 100000 in
theorem tj_Re_scan_181 {n : Nat} (kr10 : Int32 → Int32 → Dm → Option Dm) (kx10_194 : Int32 → Int32 → Dm → Option Dm) (a2 : Int32) (v4_10 : Int32) (y19 : Int32) (v3_181 : Int32) (δ181 : Dm) (hkr10 : ∀ v3_10k v4_10k δ10k, AWo k_Re_scan 7 0 0 10 [(0, .ref 7), (1, .ref 5), (2, .int a2), (3, .int v3_10k), (4, .int v4_10k)] [] δ10k RT n 0 0 (Kv RT n) (kr10 v3_10k v4_10k δ10k)) (hkx10_194 : ∀ v3_10k v4_10k δ10k, AWo k_Re_scan 7 0 0 194 [(0, .ref 7), (1, .ref 5), (2, .int a2), (3, .int v3_10k), (4, .int v4_10k)] [] δ10k RT n 0 0 (Kv RT n) (kx10_194 v3_10k v4_10k δ10k)) : AWo k_Re_scan 7 0 0 181 [(0, .ref 7), (1, .ref 5), (2, .int a2), (3, .int v3_181), (4, .int v4_10), (5, .int y19)] [] δ181 RT n 0 0 (Kv RT n) (jp_Re_scan_181 kr10 kx10_194 a2 v4_10 y19 v3_181 δ181) := by
  unfold jp_Re_scan_181
  refine aw_iload d_Re_scan_181 4 rfl ?_
  refine aw_iconst d_Re_scan_183 ki_1 ?_
  refine aw_iload_n d_Re_scan_184 3 rfl ?_
  refine aw_maxI ml_Re_93 ms_maxI mi_Ma mx_maxI (Nat.le_of_ble_eq_true rfl) (Nat.le_of_ble_eq_true rfl) ⟨Nat.le_refl _, Nat.le_refl _⟩ d_Re_scan_185 ?_
  refine aw_iadd d_Re_scan_188 ?_
  refine aw_bI (fun v189 => ?_)
  refine aw_istore (lo' := [(4, .int v189), (0, .ref 7), (1, .ref 5), (2, .int a2), (3, .int v3_181), (5, .int y19)]) d_Re_scan_189 (by decide) rfl ?_
  refine aw_goto (tgt := 10) d_Re_scan_191 rfl ?_
  refine aw_sub (lo' := [(0, .ref 7), (1, .ref 5), (2, .int a2), (3, .int v3_181), (4, .int v189)]) [1, 2, 3, 4, 0] rfl ?_
  exact hkr10 _ _ _
def jp_Re_scan_162 (kr10 : Int32 → Int32 → Dm → Option Dm) (kx10_194 : Int32 → Int32 → Dm → Option Dm) (a2 : Int32) (v4_10 : Int32) (y19 : Int32) (δ10 : Dm) : Option Dm := (if y19 = (32 : Int32) then (jp_Re_scan_181 kr10 kx10_194 a2 v4_10 y19 (1 : Int32) δ10) else ((f_Re_signToken y19 δ10).bind (fun y172 => ((f_Re_addToken y172 v4_10 (0 : Int32) δ10).bind (fun y178 => (jp_Re_scan_181 kr10 kx10_194 a2 v4_10 y19 (1 : Int32) y178))))))
set_option maxHeartbeats 4000000 in
set_option maxRecDepth 100000 in
theorem tj_Re_scan_162 {n : Nat} (kr10 : Int32 → Int32 → Dm → Option Dm) (kx10_194 : Int32 → Int32 → Dm → Option Dm) (a2 : Int32) (v4_10 : Int32) (y19 : Int32) (δ10 : Dm) (hkr10 : ∀ v3_10k v4_10k δ10k, AWo k_Re_scan 7 0 0 10 [(0, .ref 7), (1, .ref 5), (2, .int a2), (3, .int v3_10k), (4, .int v4_10k)] [] δ10k RT n 0 0 (Kv RT n) (kr10 v3_10k v4_10k δ10k)) (hkx10_194 : ∀ v3_10k v4_10k δ10k, AWo k_Re_scan 7 0 0 194 [(0, .ref 7), (1, .ref 5), (2, .int a2), (3, .int v3_10k), (4, .int v4_10k)] [] δ10k RT n 0 0 (Kv RT n) (kx10_194 v3_10k v4_10k δ10k)) : AWo k_Re_scan 7 0 0 162 [(0, .ref 7), (1, .ref 5), (2, .int a2), (3, .int (1 : Int32)), (4, .int v4_10), (5, .int y19)] [] δ10 RT n 0 0 (Kv RT n) (jp_Re_scan_162 kr10 kx10_194 a2 v4_10 y19 δ10) := by
  unfold jp_Re_scan_162
  refine aw_iload d_Re_scan_162 5 rfl ?_
  refine aw_bipush d_Re_scan_164 kb_32 ?_
  refine aw_icmp_eq (tgt := 181) d_Re_scan_166 rfl (fun q166 => ?_) (fun q166 => ?_)
  · refine aw_sub (lo' := [(0, .ref 7), (1, .ref 5), (2, .int a2), (3, .int (1 : Int32)), (4, .int v4_10), (5, .int y19)]) [0, 1, 2, 3, 4, 5] rfl ?_
    exact tj_Re_scan_181 _ _ _ _ _ _ _ hkr10 hkx10_194
  · refine aw_aload_n d_Re_scan_169 0 rfl ?_
    refine aw_iload d_Re_scan_170 5 rfl ?_
    refine aw_S_p (As := [.int y19]) (m_Re_signToken) cs_Re_89 rfl rfl (Nat.le_of_ble_eq_true rfl) ⟨Nat.le_of_ble_eq_true rfl, Nat.le_of_ble_eq_true rfl⟩ ⟨Nat.le_refl _, Nat.le_refl _⟩ d_Re_scan_172 (fun y172 => ?_)
    refine aw_iload d_Re_scan_175 4 rfl ?_
    refine aw_iconst d_Re_scan_177 ki_0 ?_
    refine aw_V_v (As := [.int y172, .int v4_10, .int (0 : Int32)]) (m_Re_addToken) cv_Re_79 kd_7 rfl rfl rfl (Nat.le_of_ble_eq_true rfl) ⟨Nat.le_of_ble_eq_true rfl, Nat.le_of_ble_eq_true rfl⟩ ⟨Nat.le_refl _, Nat.le_refl _⟩ d_Re_scan_178 (fun y178 => ?_)
    refine aw_sub (lo' := [(0, .ref 7), (1, .ref 5), (2, .int a2), (3, .int (1 : Int32)), (4, .int v4_10), (5, .int y19)]) [0, 1, 2, 3, 4, 5] rfl ?_
    exact tj_Re_scan_181 _ _ _ _ _ _ _ hkr10 hkx10_194
def jp_Re_scan_153 (kr10 : Int32 → Int32 → Dm → Option Dm) (kx10_194 : Int32 → Int32 → Dm → Option Dm) (a2 : Int32) (v4_10 : Int32) (y19 : Int32) (δ10 : Dm) (s0_153 : Int32) : Option Dm := ((f_Re_addToken s0_153 v4_10 (0 : Int32) δ10).bind (fun y156 => (jp_Re_scan_181 kr10 kx10_194 a2 v4_10 y19 (2 : Int32) y156)))
set_option maxHeartbeats 4000000 in
set_option maxRecDepth 100000 in
theorem tj_Re_scan_153 {n : Nat} (kr10 : Int32 → Int32 → Dm → Option Dm) (kx10_194 : Int32 → Int32 → Dm → Option Dm) (a2 : Int32) (v4_10 : Int32) (y19 : Int32) (δ10 : Dm) (s0_153 : Int32) (hkr10 : ∀ v3_10k v4_10k δ10k, AWo k_Re_scan 7 0 0 10 [(0, .ref 7), (1, .ref 5), (2, .int a2), (3, .int v3_10k), (4, .int v4_10k)] [] δ10k RT n 0 0 (Kv RT n) (kr10 v3_10k v4_10k δ10k)) (hkx10_194 : ∀ v3_10k v4_10k δ10k, AWo k_Re_scan 7 0 0 194 [(0, .ref 7), (1, .ref 5), (2, .int a2), (3, .int v3_10k), (4, .int v4_10k)] [] δ10k RT n 0 0 (Kv RT n) (kx10_194 v3_10k v4_10k δ10k)) : AWo k_Re_scan 7 0 0 153 [(0, .ref 7), (1, .ref 5), (2, .int a2), (3, .int (2 : Int32)), (4, .int v4_10), (5, .int y19)] [.int s0_153, .ref 7] δ10 RT n 0 0 (Kv RT n) (jp_Re_scan_153 kr10 kx10_194 a2 v4_10 y19 δ10 s0_153) := by
  unfold jp_Re_scan_153
  refine aw_iload d_Re_scan_153 4 rfl ?_
  refine aw_iconst d_Re_scan_155 ki_0 ?_
  refine aw_V_v (As := [.int s0_153, .int v4_10, .int (0 : Int32)]) (m_Re_addToken) cv_Re_79 kd_7 rfl rfl rfl (Nat.le_of_ble_eq_true rfl) ⟨Nat.le_of_ble_eq_true rfl, Nat.le_of_ble_eq_true rfl⟩ ⟨Nat.le_refl _, Nat.le_refl _⟩ d_Re_scan_156 (fun y156 => ?_)
  refine aw_goto (tgt := 181) d_Re_scan_159 rfl ?_
  refine aw_sub (lo' := [(0, .ref 7), (1, .ref 5), (2, .int a2), (3, .int (2 : Int32)), (4, .int v4_10), (5, .int y19)]) [0, 1, 2, 3, 4, 5] rfl ?_
  exact tj_Re_scan_181 _ _ _ _ _ _ _ hkr10 hkx10_194
def jp_Re_scan_115 (kr10 : Int32 → Int32 → Dm → Option Dm) (kx10_194 : Int32 → Int32 → Dm → Option Dm) (a2 : Int32) (v4_10 : Int32) (y19 : Int32) (δ10 : Dm) : Option Dm := (if a2 ≤ (v4_10 + (1 : Int32)) then (jp_Re_scan_162 kr10 kx10_194 a2 v4_10 y19 δ10) else ((f_Fp_get 5 (v4_10 + (1 : Int32)) δ10).bind (fun y128 => (if y128 = (61 : Int32) then (if y19 = (60 : Int32) then (jp_Re_scan_153 kr10 kx10_194 a2 v4_10 y19 δ10 (27 : Int32)) else (jp_Re_scan_153 kr10 kx10_194 a2 v4_10 y19 δ10 (29 : Int32))) else (jp_Re_scan_162 kr10 kx10_194 a2 v4_10 y19 δ10)))))
set_option maxHeartbeats 4000000 in
set_option maxRecDepth 100000 in
theorem tj_Re_scan_115 {n : Nat} (kr10 : Int32 → Int32 → Dm → Option Dm) (kx10_194 : Int32 → Int32 → Dm → Option Dm) (a2 : Int32) (v4_10 : Int32) (y19 : Int32) (δ10 : Dm) (hkr10 : ∀ v3_10k v4_10k δ10k, AWo k_Re_scan 7 0 0 10 [(0, .ref 7), (1, .ref 5), (2, .int a2), (3, .int v3_10k), (4, .int v4_10k)] [] δ10k RT n 0 0 (Kv RT n) (kr10 v3_10k v4_10k δ10k)) (hkx10_194 : ∀ v3_10k v4_10k δ10k, AWo k_Re_scan 7 0 0 194 [(0, .ref 7), (1, .ref 5), (2, .int a2), (3, .int v3_10k), (4, .int v4_10k)] [] δ10k RT n 0 0 (Kv RT n) (kx10_194 v3_10k v4_10k δ10k)) : AWo k_Re_scan 7 0 0 115 [(0, .ref 7), (1, .ref 5), (2, .int a2), (3, .int (1 : Int32)), (4, .int v4_10), (5, .int y19)] [] δ10 RT n 0 0 (Kv RT n) (jp_Re_scan_115 kr10 kx10_194 a2 v4_10 y19 δ10) := by
  unfold jp_Re_scan_115
  refine aw_iload d_Re_scan_115 4 rfl ?_
  refine aw_iconst d_Re_scan_117 ki_1 ?_
  refine aw_iadd d_Re_scan_118 ?_
  refine aw_iload_n d_Re_scan_119 2 rfl ?_
  refine aw_icmp_ge (tgt := 162) d_Re_scan_120 rfl (fun q120 => ?_) (fun q120 => ?_)
  · refine aw_sub (lo' := [(0, .ref 7), (1, .ref 5), (2, .int a2), (3, .int (1 : Int32)), (4, .int v4_10), (5, .int y19)]) [0, 1, 2, 3, 4, 5] rfl ?_
    exact tj_Re_scan_162 _ _ _ _ _ _ hkr10 hkx10_194
  · refine aw_aload_n d_Re_scan_123 1 rfl ?_
    refine aw_iload d_Re_scan_124 4 rfl ?_
    refine aw_iconst d_Re_scan_126 ki_1 ?_
    refine aw_iadd d_Re_scan_127 ?_
    refine aw_SN_p (As := [.ref 5, .int (v4_10 + (1 : Int32))]) (m_Fp_get (congrArg Prod.fst kd_5)) cs_Re_63 rfl rfl (Nat.le_of_ble_eq_true rfl) ⟨Nat.le_of_ble_eq_true rfl, Nat.le_of_ble_eq_true rfl⟩ ⟨Nat.le_refl _, Nat.le_refl _⟩ d_Re_scan_128 (fun y128 => ?_)
    refine aw_bipush d_Re_scan_131 kb_61 ?_
    refine aw_icmp_ne (tgt := 162) d_Re_scan_133 rfl (fun q133 => ?_) (fun q133 => ?_)
    · refine aw_iconst d_Re_scan_136 ki_2 ?_
      refine aw_istore_n (lo' := [(3, .int (2 : Int32)), (0, .ref 7), (1, .ref 5), (2, .int a2), (4, .int v4_10), (5, .int y19)]) d_Re_scan_137 rfl (by decide) rfl ?_
      refine aw_aload_n d_Re_scan_138 1 rfl ?_
      refine aw_iload d_Re_scan_139 5 rfl ?_
      refine aw_bipush d_Re_scan_141 kb_60 ?_
      refine aw_icmp_ne (tgt := 151) d_Re_scan_143 rfl (fun q143 => ?_) (fun q143 => ?_)
      · refine aw_bipush d_Re_scan_146 kb_27 ?_
        refine aw_goto (tgt := 153) d_Re_scan_148 rfl ?_
        refine aw_sub (lo' := [(0, .ref 7), (1, .ref 5), (2, .int a2), (3, .int (2 : Int32)), (4, .int v4_10), (5, .int y19)]) [1, 2, 3, 0, 4, 5] rfl ?_
        exact tj_Re_scan_153 _ _ _ _ _ _ _ hkr10 hkx10_194
      · refine aw_bipush d_Re_scan_151 kb_29 ?_
        refine aw_sub (lo' := [(0, .ref 7), (1, .ref 5), (2, .int a2), (3, .int (2 : Int32)), (4, .int v4_10), (5, .int y19)]) [1, 2, 3, 0, 4, 5] rfl ?_
        exact tj_Re_scan_153 _ _ _ _ _ _ _ hkr10 hkx10_194
    · refine aw_sub (lo' := [(0, .ref 7), (1, .ref 5), (2, .int a2), (3, .int (1 : Int32)), (4, .int v4_10), (5, .int y19)]) [0, 1, 2, 3, 4, 5] rfl ?_
      exact tj_Re_scan_162 _ _ _ _ _ _ hkr10 hkx10_194
def lp_Re_scan_10 (kx10_194 : Int32 → Int32 → Dm → Option Dm) (a2 : Int32) : Nat → Int32 → Int32 → Dm → Option Dm
  | 0, _, _, _ => none
  | f + 1, v3_10, v4_10, δ10 => (if a2 ≤ v4_10 then (kx10_194 v3_10 v4_10 δ10) else ((f_Fp_get 5 v4_10 δ10).bind (fun y19 => ((f_Re_isDigit y19 δ10).bind (fun y28 => (if y28 = 0 then ((f_Re_isLetter y19 δ10).bind (fun y66 => (if y66 = 0 then (if y19 = (60 : Int32) then (jp_Re_scan_115 (lp_Re_scan_10 kx10_194 a2 f) kx10_194 a2 v4_10 y19 δ10) else (if y19 = (62 : Int32) then (jp_Re_scan_115 (lp_Re_scan_10 kx10_194 a2 f) kx10_194 a2 v4_10 y19 δ10) else (jp_Re_scan_162 (lp_Re_scan_10 kx10_194 a2 f) kx10_194 a2 v4_10 y19 δ10))) else ((f_Re_runOf v4_10 a2 (97 : Int32) (122 : Int32) δ10).bind (fun y80 => ((f_Re_wordIn v4_10 y80 δ10).bind (fun y89 => ((f_Re_addToken y89 v4_10 (0 : Int32) δ10).bind (fun y95 => (jp_Re_scan_181 (lp_Re_scan_10 kx10_194 a2 f) kx10_194 a2 v4_10 y19 y80 y95)))))))))) else ((f_Re_runOf v4_10 a2 (48 : Int32) (57 : Int32) δ10).bind (fun y42 => ((f_Re_numberIn v4_10 y42 δ10).bind (fun y55 => ((f_Re_addToken (21 : Int32) v4_10 y55 δ10).bind (fun y58 => (jp_Re_scan_181 (lp_Re_scan_10 kx10_194 a2 f) kx10_194 a2 v4_10 y19 y42 y58)))))))))))))
set_option maxHeartbeats 4000000 in
set_option maxRecDepth 100000 in
theorem tl_Re_scan_10 {n : Nat} (kx10_194 : Int32 → Int32 → Dm → Option Dm) (a2 : Int32) (hkx10_194 : ∀ v3_10k v4_10k δ10k, AWo k_Re_scan 7 0 0 194 [(0, .ref 7), (1, .ref 5), (2, .int a2), (3, .int v3_10k), (4, .int v4_10k)] [] δ10k RT n 0 0 (Kv RT n) (kx10_194 v3_10k v4_10k δ10k)) : ∀ (f : Nat) (v3_10 : Int32) (v4_10 : Int32) (δ10 : Dm), AWo k_Re_scan 7 0 0 10 [(0, .ref 7), (1, .ref 5), (2, .int a2), (3, .int v3_10), (4, .int v4_10)] [] δ10 RT n 0 0 (Kv RT n) (lp_Re_scan_10 kx10_194 a2 f v3_10 v4_10 δ10) := by
  intro f
  induction f with
  | zero => intro _ _ _; exact aw_none
  | succ f ih =>
    intro v3_10 v4_10 δ10
    rw [lp_Re_scan_10]
    refine aw_iload d_Re_scan_10 4 rfl ?_
    refine aw_iload_n d_Re_scan_12 2 rfl ?_
    refine aw_icmp_ge (tgt := 194) d_Re_scan_13 rfl (fun q13 => ?_) (fun q13 => ?_)
    · refine aw_sub (lo' := [(0, .ref 7), (1, .ref 5), (2, .int a2), (3, .int v3_10), (4, .int v4_10)]) [0, 1, 2, 3, 4] rfl ?_
      exact hkx10_194 _ _ _
    · refine aw_aload_n d_Re_scan_16 1 rfl ?_
      refine aw_iload d_Re_scan_17 4 rfl ?_
      refine aw_SN_p (As := [.ref 5, .int v4_10]) (m_Fp_get (congrArg Prod.fst kd_5)) cs_Re_63 rfl rfl (Nat.le_of_ble_eq_true rfl) ⟨Nat.le_of_ble_eq_true rfl, Nat.le_of_ble_eq_true rfl⟩ ⟨Nat.le_refl _, Nat.le_refl _⟩ d_Re_scan_19 (fun y19 => ?_)
      refine aw_istore (lo' := [(5, .int y19), (0, .ref 7), (1, .ref 5), (2, .int a2), (3, .int v3_10), (4, .int v4_10)]) d_Re_scan_22 (by decide) rfl ?_
      refine aw_iconst d_Re_scan_24 ki_1 ?_
      refine aw_istore_n (lo' := [(3, .int (1 : Int32)), (5, .int y19), (0, .ref 7), (1, .ref 5), (2, .int a2), (4, .int v4_10)]) d_Re_scan_25 rfl (by decide) rfl ?_
      refine aw_iload d_Re_scan_26 1 rfl ?_
      refine aw_S_p (As := [.int y19]) (m_Re_isDigit) cs_Re_67 rfl rfl (Nat.le_of_ble_eq_true rfl) ⟨Nat.le_of_ble_eq_true rfl, Nat.le_of_ble_eq_true rfl⟩ ⟨Nat.le_refl _, Nat.le_refl _⟩ d_Re_scan_28 (fun y28 => ?_)
      refine aw_if_eq (tgt := 64) d_Re_scan_31 rfl (fun q31 => ?_) (fun q31 => ?_)
      · refine aw_iload d_Re_scan_64 1 rfl ?_
        refine aw_S_p (As := [.int y19]) (m_Re_isLetter) cs_Re_83 rfl rfl (Nat.le_of_ble_eq_true rfl) ⟨Nat.le_of_ble_eq_true rfl, Nat.le_of_ble_eq_true rfl⟩ ⟨Nat.le_refl _, Nat.le_refl _⟩ d_Re_scan_66 (fun y66 => ?_)
        refine aw_if_eq (tgt := 101) d_Re_scan_69 rfl (fun q69 => ?_) (fun q69 => ?_)
        · refine aw_iload d_Re_scan_101 1 rfl ?_
          refine aw_bipush d_Re_scan_103 kb_60 ?_
          refine aw_icmp_eq (tgt := 115) d_Re_scan_105 rfl (fun q105 => ?_) (fun q105 => ?_)
          · refine aw_sub (lo' := [(0, .ref 7), (1, .ref 5), (2, .int a2), (3, .int (1 : Int32)), (4, .int v4_10), (5, .int y19)]) [2, 3, 4, 0, 5, 1] rfl ?_
            exact tj_Re_scan_115 _ _ _ _ _ _ ih hkx10_194
          · refine aw_iload d_Re_scan_108 1 rfl ?_
            refine aw_bipush d_Re_scan_110 kb_62 ?_
            refine aw_icmp_ne (tgt := 162) d_Re_scan_112 rfl (fun q112 => ?_) (fun q112 => ?_)
            · refine aw_sub (lo' := [(0, .ref 7), (1, .ref 5), (2, .int a2), (3, .int (1 : Int32)), (4, .int v4_10), (5, .int y19)]) [2, 3, 4, 0, 5, 1] rfl ?_
              exact tj_Re_scan_115 _ _ _ _ _ _ ih hkx10_194
            · refine aw_sub (lo' := [(0, .ref 7), (1, .ref 5), (2, .int a2), (3, .int (1 : Int32)), (4, .int v4_10), (5, .int y19)]) [2, 3, 4, 0, 5, 1] rfl ?_
              exact tj_Re_scan_162 _ _ _ _ _ _ ih hkx10_194
        · refine aw_aload_n d_Re_scan_72 3 rfl ?_
          refine aw_iload d_Re_scan_73 5 rfl ?_
          refine aw_iload_n d_Re_scan_75 4 rfl ?_
          refine aw_bipush d_Re_scan_76 kb_97 ?_
          refine aw_bipush d_Re_scan_78 kb_122 ?_
          refine aw_S_p (As := [.ref 5, .int v4_10, .int a2, .int (97 : Int32), .int (122 : Int32)]) (m_Re_runOf) cs_Re_71 rfl rfl (Nat.le_of_ble_eq_true rfl) ⟨Nat.le_of_ble_eq_true rfl, Nat.le_of_ble_eq_true rfl⟩ ⟨Nat.le_refl _, Nat.le_refl _⟩ d_Re_scan_80 (fun y80 => ?_)
          refine aw_istore_n (lo' := [(3, .int y80), (5, .int y19), (0, .ref 7), (1, .ref 5), (2, .int a2), (4, .int v4_10)]) d_Re_scan_83 rfl (by decide) rfl ?_
          refine aw_aload_n d_Re_scan_84 2 rfl ?_
          refine aw_aload_n d_Re_scan_85 3 rfl ?_
          refine aw_iload d_Re_scan_86 5 rfl ?_
          refine aw_iload_n d_Re_scan_88 0 rfl ?_
          refine aw_S_p (As := [.ref 5, .int v4_10, .int y80]) (m_Re_wordIn) cs_Re_86 rfl rfl (Nat.le_of_ble_eq_true rfl) ⟨Nat.le_of_ble_eq_true rfl, Nat.le_of_ble_eq_true rfl⟩ ⟨Nat.le_refl _, Nat.le_refl _⟩ d_Re_scan_89 (fun y89 => ?_)
          refine aw_iload d_Re_scan_92 5 rfl ?_
          refine aw_iconst d_Re_scan_94 ki_0 ?_
          refine aw_V_v (As := [.int y89, .int v4_10, .int (0 : Int32)]) (m_Re_addToken) cv_Re_79 kd_7 rfl rfl rfl (Nat.le_of_ble_eq_true rfl) ⟨Nat.le_of_ble_eq_true rfl, Nat.le_of_ble_eq_true rfl⟩ ⟨Nat.le_refl _, Nat.le_refl _⟩ d_Re_scan_95 (fun y95 => ?_)
          refine aw_goto (tgt := 181) d_Re_scan_98 rfl ?_
          refine aw_sub (lo' := [(0, .ref 7), (1, .ref 5), (2, .int a2), (3, .int y80), (4, .int v4_10), (5, .int y19)]) [2, 3, 4, 0, 5, 1] rfl ?_
          exact tj_Re_scan_181 _ _ _ _ _ _ _ ih hkx10_194
      · refine aw_aload_n d_Re_scan_34 3 rfl ?_
        refine aw_iload d_Re_scan_35 5 rfl ?_
        refine aw_iload_n d_Re_scan_37 4 rfl ?_
        refine aw_bipush d_Re_scan_38 kb_48 ?_
        refine aw_bipush d_Re_scan_40 kb_57 ?_
        refine aw_S_p (As := [.ref 5, .int v4_10, .int a2, .int (48 : Int32), .int (57 : Int32)]) (m_Re_runOf) cs_Re_71 rfl rfl (Nat.le_of_ble_eq_true rfl) ⟨Nat.le_of_ble_eq_true rfl, Nat.le_of_ble_eq_true rfl⟩ ⟨Nat.le_refl _, Nat.le_refl _⟩ d_Re_scan_42 (fun y42 => ?_)
        refine aw_istore_n (lo' := [(3, .int y42), (5, .int y19), (0, .ref 7), (1, .ref 5), (2, .int a2), (4, .int v4_10)]) d_Re_scan_45 rfl (by decide) rfl ?_
        refine aw_aload_n d_Re_scan_46 2 rfl ?_
        refine aw_bipush d_Re_scan_47 kb_21 ?_
        refine aw_iload d_Re_scan_49 5 rfl ?_
        refine aw_aload_n d_Re_scan_51 3 rfl ?_
        refine aw_iload d_Re_scan_52 5 rfl ?_
        refine aw_iload_n d_Re_scan_54 0 rfl ?_
        refine aw_S_p (As := [.ref 5, .int v4_10, .int y42]) (m_Re_numberIn) cs_Re_75 rfl rfl (Nat.le_of_ble_eq_true rfl) ⟨Nat.le_of_ble_eq_true rfl, Nat.le_of_ble_eq_true rfl⟩ ⟨Nat.le_refl _, Nat.le_refl _⟩ d_Re_scan_55 (fun y55 => ?_)
        refine aw_V_v (As := [.int (21 : Int32), .int v4_10, .int y55]) (m_Re_addToken) cv_Re_79 kd_7 rfl rfl rfl (Nat.le_of_ble_eq_true rfl) ⟨Nat.le_of_ble_eq_true rfl, Nat.le_of_ble_eq_true rfl⟩ ⟨Nat.le_refl _, Nat.le_refl _⟩ d_Re_scan_58 (fun y58 => ?_)
        refine aw_goto (tgt := 181) d_Re_scan_61 rfl ?_
        refine aw_sub (lo' := [(0, .ref 7), (1, .ref 5), (2, .int a2), (3, .int y42), (4, .int v4_10), (5, .int y19)]) [2, 3, 4, 0, 5, 1] rfl ?_
        exact tj_Re_scan_181 _ _ _ _ _ _ _ ih hkx10_194
def f_Re_scan (a2 : Int32) (δ : Dm) : Option Dm := (bnd (sI δ 7 3 (0 : Int32)) (fun δ_2 => (lp_Re_scan_10 (fun v3_10x v4_10x δ10x => ((f_Re_addToken (34 : Int32) a2 (0 : Int32) δ10x).bind (fun y199 => (some y199)))) a2 FU (1 : Int32) (0 : Int32) δ_2)))
set_option maxHeartbeats 4000000 in
set_option maxRecDepth 100000 in
theorem m_Re_scan {a2 : Int32} {δ : Dm} {n : Nat} : ∀ x, f_Re_scan a2 δ = some x → AMet k_Re_scan 7 0 0 [.ref 7, .ref 5, .int a2] δ RT n (Kv RT n x) := by
  refine aw_start (lo := [(0, .ref 7), (1, .ref 5), (2, .int a2)]) mok_Re_scan rfl (Nat.le_of_ble_eq_true rfl) ?_
  unfold f_Re_scan
  refine aw_aload_n d_Re_scan_0 0 rfl ?_
  refine aw_iconst d_Re_scan_1 ki_0 ?_
  refine aw_putI pf_Re_60 kd_7 d_Re_scan_2 ?_
  refine aw_bD (fun δ_2 => ?_)
  refine aw_iconst d_Re_scan_5 ki_1 ?_
  refine aw_istore_n (lo' := [(3, .int (1 : Int32)), (0, .ref 7), (1, .ref 5), (2, .int a2)]) d_Re_scan_6 rfl (by decide) rfl ?_
  refine aw_iconst d_Re_scan_7 ki_0 ?_
  refine aw_istore (lo' := [(4, .int (0 : Int32)), (3, .int (1 : Int32)), (0, .ref 7), (1, .ref 5), (2, .int a2)]) d_Re_scan_8 (by decide) rfl ?_
  refine aw_sub (lo' := [(0, .ref 7), (1, .ref 5), (2, .int a2), (3, .int (1 : Int32)), (4, .int (0 : Int32))]) [2, 3, 4, 1, 0] rfl ?_
  refine tl_Re_scan_10 _ _ (fun v3_10x v4_10x δ10x => ?_) FU _ _ _
  · refine aw_aload_n d_Re_scan_194 0 rfl ?_
    refine aw_bipush d_Re_scan_195 kb_34 ?_
    refine aw_iload_n d_Re_scan_197 2 rfl ?_
    refine aw_iconst d_Re_scan_198 ki_0 ?_
    refine aw_V_v (As := [.int (34 : Int32), .int a2, .int (0 : Int32)]) (m_Re_addToken) cv_Re_79 kd_7 rfl rfl rfl (Nat.le_of_ble_eq_true rfl) ⟨Nat.le_of_ble_eq_true rfl, Nat.le_of_ble_eq_true rfl⟩ ⟨Nat.le_refl _, Nat.le_refl _⟩ d_Re_scan_199 (fun y199 => ?_)
    exact aw_vret rfl rfl ⟨Nat.le_refl _, Nat.le_refl _⟩ d_Re_scan_202
def f_La_clear (a0 : Nat) (δ : Dm) : Option Dm := (bnd (sI δ a0 0 (0 : Int32)) (fun δ_2 => (bnd (sI δ_2 a0 1 (0 : Int32)) (fun δ_7 => ((f_Ar_fill_II (a0 + 6) (-1 : Int32) δ_7).bind (fun y15 => (some y15)))))))
set_option maxHeartbeats 4000000 in
set_option maxRecDepth 100000 in
theorem m_La_clear {a0 : Nat} {δ : Dm} {n : Nat} (ha0 : isL a0 = true) : ∀ x, f_La_clear a0 δ = some x → AMet k_La_clear 2 0 0 [.ref a0] δ RT n (Kv RT n x) := by
  refine aw_start (lo := [(0, .ref a0)]) mok_La_clear rfl (Nat.le_of_ble_eq_true rfl) ?_
  unfold f_La_clear
  refine aw_aload_n d_La_clear_0 0 rfl ?_
  refine aw_iconst d_La_clear_1 ki_0 ?_
  refine aw_putI pf_La_33 (fx_isLK ha0 0 (by decide)) d_La_clear_2 ?_
  refine aw_bD (fun δ_2 => ?_)
  refine aw_aload_n d_La_clear_5 0 rfl ?_
  refine aw_iconst d_La_clear_6 ki_0 ?_
  refine aw_putI pf_La_37 (fx_isLK ha0 0 (by decide)) d_La_clear_7 ?_
  refine aw_bD (fun δ_7 => ?_)
  refine aw_aload_n d_La_clear_10 0 rfl ?_
  refine aw_getR (t := (a0 + 6)) fl_La_27 (fx_isLK ha0 0 (by decide)) (fx_isLR ha0 0 7 (by decide) (by decide)) d_La_clear_11 ?_
  refine aw_iconst d_La_clear_14 ki_m1 ?_
  refine aw_S_v (As := [.ref (a0 + 6), .int (-1 : Int32)]) (m_Ar_fill_II (congrArg Prod.fst (fx_isLK ha0 6 (by decide)))) cs_La_40 rfl rfl (Nat.le_of_ble_eq_true rfl) ⟨Nat.le_of_ble_eq_true rfl, Nat.le_of_ble_eq_true rfl⟩ ⟨Nat.le_refl _, Nat.le_refl _⟩ d_La_clear_15 (fun y15 => ?_)
  exact aw_vret rfl rfl ⟨Nat.le_refl _, Nat.le_refl _⟩ d_La_clear_18
def jp_Re_step_72 (s0_52 : Int32) (δ_7 : Dm) (s0_72 : Int32) : Option Dm := (bnd (sI δ_7 7 5 s0_72) (fun δ_72 => (some δ_72)))
set_option maxHeartbeats 4000000 in
set_option maxRecDepth 100000 in
theorem tj_Re_step_72 {n : Nat} (s0_52 : Int32) (δ_7 : Dm) (s0_72 : Int32) : AWo k_Re_step 1 0 0 72 [(0, .ref 7), (1, .int s0_52)] [.int s0_72, .ref 7] δ_7 RT n 0 0 (Kv RT n) (jp_Re_step_72 s0_52 δ_7 s0_72) := by
  unfold jp_Re_step_72
  refine aw_putI pf_Re_52 kd_7 d_Re_step_72 ?_
  refine aw_bD (fun δ_72 => ?_)
  exact aw_vret rfl rfl ⟨Nat.le_refl _, Nat.le_refl _⟩ d_Re_step_75
def jp_Re_step_52 (δ_7 : Dm) (s0_52 : Int32) : Option Dm := (if s0_52 = 0 then (jp_Re_step_72 s0_52 δ_7 (35 : Int32)) else (if inb (gI δ_7 7 4) 401 then (jp_Re_step_72 s0_52 δ_7 (gI δ_7 8 (ix (gI δ_7 7 4)))) else none))
set_option maxHeartbeats 4000000 in
set_option maxRecDepth 100000 in
theorem tj_Re_step_52 {n : Nat} (δ_7 : Dm) (s0_52 : Int32) : AWo k_Re_step 1 0 0 52 [(0, .ref 7)] [.int s0_52] δ_7 RT n 0 0 (Kv RT n) (jp_Re_step_52 δ_7 s0_52) := by
  unfold jp_Re_step_52
  refine aw_istore_n (lo' := [(1, .int s0_52), (0, .ref 7)]) d_Re_step_52 rfl (by decide) rfl ?_
  refine aw_aload_n d_Re_step_53 1 rfl ?_
  refine aw_iload_n d_Re_step_54 0 rfl ?_
  refine aw_if_eq (tgt := 70) d_Re_step_55 rfl (fun q55 => ?_) (fun q55 => ?_)
  · refine aw_bipush d_Re_step_70 kb_35 ?_
    refine aw_sub (lo' := [(0, .ref 7), (1, .int s0_52)]) [1, 0] rfl ?_
    exact tj_Re_step_72 _ _ _
  · refine aw_aload_n d_Re_step_58 1 rfl ?_
    refine aw_getR (t := 8) fl_Re_11 kd_7 rt_7_0 d_Re_step_59 ?_
    refine aw_aload_n d_Re_step_62 1 rfl ?_
    refine aw_getI fl_Re_42 kd_7 d_Re_step_63 ?_
    refine aw_iald kd_8 d_Re_step_66 ?_
    refine aw_goto (tgt := 72) d_Re_step_67 rfl ?_
    refine aw_sub (lo' := [(0, .ref 7), (1, .int s0_52)]) [1, 0] rfl ?_
    exact tj_Re_step_72 _ _ _
def jp_Re_step_51 (δ_7 : Dm) : Option Dm := (jp_Re_step_52 δ_7 (0 : Int32))
set_option maxHeartbeats 4000000 in
set_option maxRecDepth 100000 in
theorem tj_Re_step_51 {n : Nat} (δ_7 : Dm) : AWo k_Re_step 1 0 0 51 [(0, .ref 7)] [] δ_7 RT n 0 0 (Kv RT n) (jp_Re_step_51 δ_7) := by
  unfold jp_Re_step_51
  refine aw_iconst d_Re_step_51 ki_0 ?_
  refine aw_sub (lo' := [(0, .ref 7)]) [0] rfl ?_
  exact tj_Re_step_52 _ _
def f_Re_step (δ : Dm) : Option Dm := (bnd (sI δ 7 4 ((gI δ 7 4) + (1 : Int32))) (fun δ_7 => (if (gI δ_7 7 7) = 0 then (if (gI δ_7 7 4) < 0 then (jp_Re_step_51 δ_7) else (if (gI δ_7 7 3) ≤ (gI δ_7 7 4) then (jp_Re_step_51 δ_7) else (if (401 : Int32) ≤ (gI δ_7 7 4) then (jp_Re_step_51 δ_7) else (jp_Re_step_52 δ_7 (1 : Int32))))) else (jp_Re_step_51 δ_7))))
set_option maxHeartbeats 4000000 in
set_option maxRecDepth 100000 in
theorem m_Re_step {δ : Dm} {n : Nat} : ∀ x, f_Re_step δ = some x → AMet k_Re_step 1 0 0 [.ref 7] δ RT n (Kv RT n x) := by
  refine aw_start (lo := [(0, .ref 7)]) mok_Re_step rfl (Nat.le_of_ble_eq_true rfl) ?_
  unfold f_Re_step
  refine aw_aload_n d_Re_step_0 0 rfl ?_
  refine aw_dup d_Re_step_1 rfl ?_
  refine aw_getI fl_Re_42 kd_7 d_Re_step_2 ?_
  refine aw_iconst d_Re_step_5 ki_1 ?_
  refine aw_iadd d_Re_step_6 ?_
  refine aw_putI pf_Re_42 kd_7 d_Re_step_7 ?_
  refine aw_bD (fun δ_7 => ?_)
  refine aw_aload_n d_Re_step_10 0 rfl ?_
  refine aw_getI fl_Re_39 kd_7 d_Re_step_11 ?_
  refine aw_if_ne (tgt := 51) d_Re_step_14 rfl (fun q14 => ?_) (fun q14 => ?_)
  · refine aw_aload_n d_Re_step_17 0 rfl ?_
    refine aw_getI fl_Re_42 kd_7 d_Re_step_18 ?_
    refine aw_if_lt (tgt := 51) d_Re_step_21 rfl (fun q21 => ?_) (fun q21 => ?_)
    · refine aw_sub (lo' := [(0, .ref 7)]) [0] rfl ?_
      exact tj_Re_step_51 _
    · refine aw_aload_n d_Re_step_24 0 rfl ?_
      refine aw_getI fl_Re_42 kd_7 d_Re_step_25 ?_
      refine aw_aload_n d_Re_step_28 0 rfl ?_
      refine aw_getI fl_Re_60 kd_7 d_Re_step_29 ?_
      refine aw_icmp_ge (tgt := 51) d_Re_step_32 rfl (fun q32 => ?_) (fun q32 => ?_)
      · refine aw_sub (lo' := [(0, .ref 7)]) [0] rfl ?_
        exact tj_Re_step_51 _
      · refine aw_aload_n d_Re_step_35 0 rfl ?_
        refine aw_getI fl_Re_42 kd_7 d_Re_step_36 ?_
        refine aw_aload_n d_Re_step_39 0 rfl ?_
        refine aw_getR (t := 8) fl_Re_11 kd_7 rt_7_0 d_Re_step_40 ?_
        refine aw_alen (v := (401 : Int32)) kd_8 ⟨by decide, by decide⟩ (by decide) d_Re_step_43 ?_
        refine aw_icmp_ge (tgt := 51) d_Re_step_44 rfl (fun q44 => ?_) (fun q44 => ?_)
        · refine aw_sub (lo' := [(0, .ref 7)]) [0] rfl ?_
          exact tj_Re_step_51 _
        · refine aw_iconst d_Re_step_47 ki_1 ?_
          refine aw_goto (tgt := 52) d_Re_step_48 rfl ?_
          refine aw_sub (lo' := [(0, .ref 7)]) [0] rfl ?_
          exact tj_Re_step_52 _ _
  · refine aw_sub (lo' := [(0, .ref 7)]) [0] rfl ?_
    exact tj_Re_step_51 _
def jp_Re_fail_52 (a1 : Int32) (δ52 : Dm) : Option Dm := (bnd (sI δ52 7 5 (35 : Int32)) (fun δ_55 => (some δ_55)))
set_option maxHeartbeats 4000000 in
set_option maxRecDepth 100000 in
theorem tj_Re_fail_52 {n : Nat} (a1 : Int32) (δ52 : Dm) : AWo k_Re_fail 1 0 0 52 [(0, .ref 7), (1, .int a1)] [] δ52 RT n 0 0 (Kv RT n) (jp_Re_fail_52 a1 δ52) := by
  unfold jp_Re_fail_52
  refine aw_aload_n d_Re_fail_52 0 rfl ?_
  refine aw_bipush d_Re_fail_53 kb_35 ?_
  refine aw_putI pf_Re_52 kd_7 d_Re_fail_55 ?_
  refine aw_bD (fun δ_55 => ?_)
  exact aw_vret rfl rfl ⟨Nat.le_refl _, Nat.le_refl _⟩ d_Re_fail_58
def jp_Re_fail_39 (a1 : Int32) (δ : Dm) (s0_39 : Int32) : Option Dm := (bnd (sI δ 7 7 (((1 : Int32) + ((8 : Int32) * s0_39)) + a1)) (fun δ_49 => (jp_Re_fail_52 a1 δ_49)))
set_option maxHeartbeats 4000000 in
set_option maxRecDepth 100000 in
theorem tj_Re_fail_39 {n : Nat} (a1 : Int32) (δ : Dm) (s0_39 : Int32) : AWo k_Re_fail 1 0 0 39 [(0, .ref 7), (1, .int a1)] [.int s0_39] δ RT n 0 0 (Kv RT n) (jp_Re_fail_39 a1 δ s0_39) := by
  unfold jp_Re_fail_39
  refine aw_istore_n (lo' := [(2, .int s0_39), (0, .ref 7), (1, .int a1)]) d_Re_fail_39 rfl (by decide) rfl ?_
  refine aw_aload_n d_Re_fail_40 1 rfl ?_
  refine aw_iconst d_Re_fail_41 ki_1 ?_
  refine aw_bipush d_Re_fail_42 kb_8 ?_
  refine aw_iload_n d_Re_fail_44 0 rfl ?_
  refine aw_imul d_Re_fail_45 ?_
  refine aw_iadd d_Re_fail_46 ?_
  refine aw_iload_n d_Re_fail_47 2 rfl ?_
  refine aw_iadd d_Re_fail_48 ?_
  refine aw_putI pf_Re_39 kd_7 d_Re_fail_49 ?_
  refine aw_bD (fun δ_49 => ?_)
  refine aw_sub (lo' := [(0, .ref 7), (1, .int a1)]) [1, 2] rfl ?_
  exact tj_Re_fail_52 _ _
def jp_Re_fail_38 (a1 : Int32) (δ : Dm) : Option Dm := (jp_Re_fail_39 a1 δ (0 : Int32))
set_option maxHeartbeats 4000000 in
set_option maxRecDepth 100000 in
theorem tj_Re_fail_38 {n : Nat} (a1 : Int32) (δ : Dm) : AWo k_Re_fail 1 0 0 38 [(0, .ref 7), (1, .int a1)] [] δ RT n 0 0 (Kv RT n) (jp_Re_fail_38 a1 δ) := by
  unfold jp_Re_fail_38
  refine aw_iconst d_Re_fail_38 ki_0 ?_
  refine aw_sub (lo' := [(0, .ref 7), (1, .int a1)]) [0, 1] rfl ?_
  exact tj_Re_fail_39 _ _ _
def f_Re_fail (a1 : Int32) (δ : Dm) : Option Dm := (if (gI δ 7 7) = 0 then (if (gI δ 7 4) < 0 then (jp_Re_fail_38 a1 δ) else (if (401 : Int32) ≤ (gI δ 7 4) then (jp_Re_fail_38 a1 δ) else (if inb (gI δ 7 4) 401 then (jp_Re_fail_39 a1 δ (gI δ 9 (ix (gI δ 7 4)))) else none))) else (jp_Re_fail_52 a1 δ))
set_option maxHeartbeats 4000000 in
set_option maxRecDepth 100000 in
theorem m_Re_fail {a1 : Int32} {δ : Dm} {n : Nat} : ∀ x, f_Re_fail a1 δ = some x → AMet k_Re_fail 1 0 0 [.ref 7, .int a1] δ RT n (Kv RT n x) := by
  refine aw_start (lo := [(0, .ref 7), (1, .int a1)]) mok_Re_fail rfl (Nat.le_of_ble_eq_true rfl) ?_
  unfold f_Re_fail
  refine aw_aload_n d_Re_fail_0 0 rfl ?_
  refine aw_getI fl_Re_39 kd_7 d_Re_fail_1 ?_
  refine aw_if_ne (tgt := 52) d_Re_fail_4 rfl (fun q4 => ?_) (fun q4 => ?_)
  · refine aw_aload_n d_Re_fail_7 0 rfl ?_
    refine aw_getI fl_Re_42 kd_7 d_Re_fail_8 ?_
    refine aw_if_lt (tgt := 38) d_Re_fail_11 rfl (fun q11 => ?_) (fun q11 => ?_)
    · refine aw_sub (lo' := [(0, .ref 7), (1, .int a1)]) [0, 1] rfl ?_
      exact tj_Re_fail_38 _ _
    · refine aw_aload_n d_Re_fail_14 0 rfl ?_
      refine aw_getI fl_Re_42 kd_7 d_Re_fail_15 ?_
      refine aw_aload_n d_Re_fail_18 0 rfl ?_
      refine aw_getR (t := 9) fl_Re_15 kd_7 rt_7_1 d_Re_fail_19 ?_
      refine aw_alen (v := (401 : Int32)) kd_9 ⟨by decide, by decide⟩ (by decide) d_Re_fail_22 ?_
      refine aw_icmp_ge (tgt := 38) d_Re_fail_23 rfl (fun q23 => ?_) (fun q23 => ?_)
      · refine aw_sub (lo' := [(0, .ref 7), (1, .int a1)]) [0, 1] rfl ?_
        exact tj_Re_fail_38 _ _
      · refine aw_aload_n d_Re_fail_26 0 rfl ?_
        refine aw_getR (t := 9) fl_Re_15 kd_7 rt_7_1 d_Re_fail_27 ?_
        refine aw_aload_n d_Re_fail_30 0 rfl ?_
        refine aw_getI fl_Re_42 kd_7 d_Re_fail_31 ?_
        refine aw_iald kd_9 d_Re_fail_34 ?_
        refine aw_goto (tgt := 39) d_Re_fail_35 rfl ?_
        refine aw_sub (lo' := [(0, .ref 7), (1, .int a1)]) [0, 1] rfl ?_
        exact tj_Re_fail_39 _ _ _
  · refine aw_sub (lo' := [(0, .ref 7), (1, .int a1)]) [0, 1] rfl ?_
    exact tj_Re_fail_52 _ _
def f_La_beginClause (a0 : Nat) (a1 : Int32) (δ : Dm) : Option Dm := ((f_Fp_put (a0 + 1) (gI δ a0 0) a1 δ).bind (fun y9 => ((f_Fp_put (a0 + 2) (gI y9 a0 0) (0 : Int32) y9).bind (fun y21 => ((f_Fp_put (a0 + 3) (gI y21 a0 0) (gI y21 a0 1) y21).bind (fun y36 => ((f_Fp_put (a0 + 4) (gI y36 a0 0) (gI y36 a0 1) y36).bind (fun y51 => ((f_Fp_put (a0 + 5) (gI y51 a0 0) (gI y51 a0 1) y51).bind (fun y66 => (some y66)))))))))))
set_option maxHeartbeats 4000000 in
set_option maxRecDepth 100000 in
theorem m_La_beginClause {a0 : Nat} {a1 : Int32} {δ : Dm} {n : Nat} (ha0 : isL a0 = true) : ∀ x, f_La_beginClause a0 a1 δ = some x → AMet k_La_beginClause 2 0 0 [.ref a0, .int a1] δ RT n (Kv RT n x) := by
  refine aw_start (lo := [(0, .ref a0), (1, .int a1)]) mok_La_beginClause rfl (Nat.le_of_ble_eq_true rfl) ?_
  unfold f_La_beginClause
  refine aw_aload_n d_La_beginClause_0 0 rfl ?_
  refine aw_getR (t := (a0 + 1)) fl_La_11 (fx_isLK ha0 0 (by decide)) (fx_isLR ha0 0 2 (by decide) (by decide)) d_La_beginClause_1 ?_
  refine aw_aload_n d_La_beginClause_4 0 rfl ?_
  refine aw_getI fl_La_33 (fx_isLK ha0 0 (by decide)) d_La_beginClause_5 ?_
  refine aw_iload_n d_La_beginClause_8 1 rfl ?_
  refine aw_SN_v (As := [.ref (a0 + 1), .int (gI δ a0 0), .int a1]) (m_Fp_put (congrArg Prod.fst (fx_isLK ha0 1 (by decide)))) cs_La_46 rfl rfl (Nat.le_of_ble_eq_true rfl) ⟨Nat.le_of_ble_eq_true rfl, Nat.le_of_ble_eq_true rfl⟩ ⟨Nat.le_refl _, Nat.le_refl _⟩ d_La_beginClause_9 (fun y9 => ?_)
  refine aw_aload_n d_La_beginClause_12 0 rfl ?_
  refine aw_getR (t := (a0 + 2)) fl_La_15 (fx_isLK ha0 0 (by decide)) (fx_isLR ha0 0 3 (by decide) (by decide)) d_La_beginClause_13 ?_
  refine aw_aload_n d_La_beginClause_16 0 rfl ?_
  refine aw_getI fl_La_33 (fx_isLK ha0 0 (by decide)) d_La_beginClause_17 ?_
  refine aw_iconst d_La_beginClause_20 ki_0 ?_
  refine aw_SN_v (As := [.ref (a0 + 2), .int (gI y9 a0 0), .int (0 : Int32)]) (m_Fp_put (congrArg Prod.fst (fx_isLK ha0 2 (by decide)))) cs_La_46 rfl rfl (Nat.le_of_ble_eq_true rfl) ⟨Nat.le_of_ble_eq_true rfl, Nat.le_of_ble_eq_true rfl⟩ ⟨Nat.le_refl _, Nat.le_refl _⟩ d_La_beginClause_21 (fun y21 => ?_)
  refine aw_aload_n d_La_beginClause_24 0 rfl ?_
  refine aw_getR (t := (a0 + 3)) fl_La_18 (fx_isLK ha0 0 (by decide)) (fx_isLR ha0 0 4 (by decide) (by decide)) d_La_beginClause_25 ?_
  refine aw_aload_n d_La_beginClause_28 0 rfl ?_
  refine aw_getI fl_La_33 (fx_isLK ha0 0 (by decide)) d_La_beginClause_29 ?_
  refine aw_aload_n d_La_beginClause_32 0 rfl ?_
  refine aw_getI fl_La_37 (fx_isLK ha0 0 (by decide)) d_La_beginClause_33 ?_
  refine aw_SN_v (As := [.ref (a0 + 3), .int (gI y21 a0 0), .int (gI y21 a0 1)]) (m_Fp_put (congrArg Prod.fst (fx_isLK ha0 3 (by decide)))) cs_La_46 rfl rfl (Nat.le_of_ble_eq_true rfl) ⟨Nat.le_of_ble_eq_true rfl, Nat.le_of_ble_eq_true rfl⟩ ⟨Nat.le_refl _, Nat.le_refl _⟩ d_La_beginClause_36 (fun y36 => ?_)
  refine aw_aload_n d_La_beginClause_39 0 rfl ?_
  refine aw_getR (t := (a0 + 4)) fl_La_21 (fx_isLK ha0 0 (by decide)) (fx_isLR ha0 0 5 (by decide) (by decide)) d_La_beginClause_40 ?_
  refine aw_aload_n d_La_beginClause_43 0 rfl ?_
  refine aw_getI fl_La_33 (fx_isLK ha0 0 (by decide)) d_La_beginClause_44 ?_
  refine aw_aload_n d_La_beginClause_47 0 rfl ?_
  refine aw_getI fl_La_37 (fx_isLK ha0 0 (by decide)) d_La_beginClause_48 ?_
  refine aw_SN_v (As := [.ref (a0 + 4), .int (gI y36 a0 0), .int (gI y36 a0 1)]) (m_Fp_put (congrArg Prod.fst (fx_isLK ha0 4 (by decide)))) cs_La_46 rfl rfl (Nat.le_of_ble_eq_true rfl) ⟨Nat.le_of_ble_eq_true rfl, Nat.le_of_ble_eq_true rfl⟩ ⟨Nat.le_refl _, Nat.le_refl _⟩ d_La_beginClause_51 (fun y51 => ?_)
  refine aw_aload_n d_La_beginClause_54 0 rfl ?_
  refine aw_getR (t := (a0 + 5)) fl_La_24 (fx_isLK ha0 0 (by decide)) (fx_isLR ha0 0 6 (by decide) (by decide)) d_La_beginClause_55 ?_
  refine aw_aload_n d_La_beginClause_58 0 rfl ?_
  refine aw_getI fl_La_33 (fx_isLK ha0 0 (by decide)) d_La_beginClause_59 ?_
  refine aw_aload_n d_La_beginClause_62 0 rfl ?_
  refine aw_getI fl_La_37 (fx_isLK ha0 0 (by decide)) d_La_beginClause_63 ?_
  refine aw_SN_v (As := [.ref (a0 + 5), .int (gI y51 a0 0), .int (gI y51 a0 1)]) (m_Fp_put (congrArg Prod.fst (fx_isLK ha0 5 (by decide)))) cs_La_46 rfl rfl (Nat.le_of_ble_eq_true rfl) ⟨Nat.le_of_ble_eq_true rfl, Nat.le_of_ble_eq_true rfl⟩ ⟨Nat.le_refl _, Nat.le_refl _⟩ d_La_beginClause_66 (fun y66 => ?_)
  exact aw_vret rfl rfl ⟨Nat.le_refl _, Nat.le_refl _⟩ d_La_beginClause_69
def f_Re_numberHere (a1 : Int32) (δ : Dm) : Option (Int32 × Dm) := (if (gI δ 7 5) = (21 : Int32) then ((f_Fp_get 10 (gI δ 7 4) δ).bind (fun y24 => ((f_Fp_within y24 (0 : Int32) a1 δ).bind (fun y31 => (if y31 = 0 then ((f_Re_fail (1 : Int32) δ).bind (fun y39 => (some ((0 : Int32), y39)))) else (some (y24, δ))))))) else ((f_Re_fail (0 : Int32) δ).bind (fun y11 => (some ((0 : Int32), y11)))))
set_option maxHeartbeats 4000000 in
set_option maxRecDepth 100000 in
theorem m_Re_numberHere {a1 : Int32} {δ : Dm} {n : Nat} : ∀ x, f_Re_numberHere a1 δ = some x → AMet k_Re_numberHere 2 0 0 [.ref 7, .int a1] δ RT n (Km RT n x) := by
  refine aw_start (lo := [(0, .ref 7), (1, .int a1)]) mok_Re_numberHere rfl (Nat.le_of_ble_eq_true rfl) ?_
  unfold f_Re_numberHere
  refine aw_aload_n d_Re_numberHere_0 0 rfl ?_
  refine aw_getI fl_Re_52 kd_7 d_Re_numberHere_1 ?_
  refine aw_bipush d_Re_numberHere_4 kb_21 ?_
  refine aw_icmp_eq (tgt := 16) d_Re_numberHere_6 rfl (fun q6 => ?_) (fun q6 => ?_)
  · refine aw_aload_n d_Re_numberHere_16 0 rfl ?_
    refine aw_getR (t := 10) fl_Re_18 kd_7 rt_7_2 d_Re_numberHere_17 ?_
    refine aw_aload_n d_Re_numberHere_20 0 rfl ?_
    refine aw_getI fl_Re_42 kd_7 d_Re_numberHere_21 ?_
    refine aw_SN_p (As := [.ref 10, .int (gI δ 7 4)]) (m_Fp_get (congrArg Prod.fst kd_10)) cs_Re_63 rfl rfl (Nat.le_of_ble_eq_true rfl) ⟨Nat.le_of_ble_eq_true rfl, Nat.le_of_ble_eq_true rfl⟩ ⟨Nat.le_refl _, Nat.le_refl _⟩ d_Re_numberHere_24 (fun y24 => ?_)
    refine aw_istore_n (lo' := [(2, .int y24), (0, .ref 7), (1, .int a1)]) d_Re_numberHere_27 rfl (by decide) rfl ?_
    refine aw_iload_n d_Re_numberHere_28 0 rfl ?_
    refine aw_iconst d_Re_numberHere_29 ki_0 ?_
    refine aw_iload_n d_Re_numberHere_30 2 rfl ?_
    refine aw_SN_p (As := [.int y24, .int (0 : Int32), .int a1]) (m_Fp_within) cs_Re_103 rfl rfl (Nat.le_of_ble_eq_true rfl) ⟨Nat.le_of_ble_eq_true rfl, Nat.le_of_ble_eq_true rfl⟩ ⟨Nat.le_refl _, Nat.le_refl _⟩ d_Re_numberHere_31 (fun y31 => ?_)
    refine aw_if_ne (tgt := 44) d_Re_numberHere_34 rfl (fun q34 => ?_) (fun q34 => ?_)
    · refine aw_aload_n d_Re_numberHere_37 1 rfl ?_
      refine aw_iconst d_Re_numberHere_38 ki_1 ?_
      refine aw_V_v (As := [.int (1 : Int32)]) (m_Re_fail) cv_Re_57 kd_7 rfl rfl rfl (Nat.le_of_ble_eq_true rfl) ⟨Nat.le_of_ble_eq_true rfl, Nat.le_of_ble_eq_true rfl⟩ ⟨Nat.le_refl _, Nat.le_refl _⟩ d_Re_numberHere_39 (fun y39 => ?_)
      refine aw_iconst d_Re_numberHere_42 ki_0 ?_
      exact aw_iret rfl rfl ⟨Nat.le_refl _, Nat.le_refl _⟩ d_Re_numberHere_43
    · refine aw_iload_n d_Re_numberHere_44 0 rfl ?_
      exact aw_iret rfl rfl ⟨Nat.le_refl _, Nat.le_refl _⟩ d_Re_numberHere_45
  · refine aw_aload_n d_Re_numberHere_9 0 rfl ?_
    refine aw_iconst d_Re_numberHere_10 ki_0 ?_
    refine aw_V_v (As := [.int (0 : Int32)]) (m_Re_fail) cv_Re_57 kd_7 rfl rfl rfl (Nat.le_of_ble_eq_true rfl) ⟨Nat.le_of_ble_eq_true rfl, Nat.le_of_ble_eq_true rfl⟩ ⟨Nat.le_refl _, Nat.le_refl _⟩ d_Re_numberHere_11 (fun y11 => ?_)
    refine aw_iconst d_Re_numberHere_14 ki_0 ?_
    exact aw_iret rfl rfl ⟨Nat.le_refl _, Nat.le_refl _⟩ d_Re_numberHere_15
def jp_Re_readBath_32 (a1 : Int32) (v2 : Int32) (δ32 : Dm) : Option Dm := (ocs (dR (gI δ32 7 8)) none (fun t33 => if isL t33 = true then (ocs (dR (gI δ32 7 8)) none (fun t40 => if isL t40 = true then ((f_Fp_put (t33 + 2) (gI δ32 t40 0) v2 δ32).bind (fun y47 => ((f_Re_step y47).bind (fun y51 => (some y51))))) else none)) else none))
set_option maxHeartbeats 4000000 in
set_option maxRecDepth 100000 in
theorem tj_Re_readBath_32 {n : Nat} (a1 : Int32) (v2 : Int32) (δ32 : Dm) : AWo k_Re_readBath 3 0 0 32 [(0, .ref 7), (1, .int a1), (2, .int v2)] [] δ32 RT n 0 0 (Kv RT n) (jp_Re_readBath_32 a1 v2 δ32) := by
  unfold jp_Re_readBath_32
  refine aw_aload_n d_Re_readBath_32 0 rfl ?_
  refine aw_getD fl_Re_24 kd_7 d_Re_readBath_33 aw_none (fun t33 => ?_)
  refine aw_grd (fun ht33 => ?_)
  refine aw_getR (t := (t33 + 2)) fl_Re_150 (fx_isLK ht33 0 (by decide)) (fx_isLR ht33 0 3 (by decide) (by decide)) d_Re_readBath_36 ?_
  refine aw_aload_n d_Re_readBath_39 0 rfl ?_
  refine aw_getD fl_Re_24 kd_7 d_Re_readBath_40 aw_none (fun t40 => ?_)
  refine aw_grd (fun ht40 => ?_)
  refine aw_getI fl_Re_153 (fx_isLK ht40 0 (by decide)) d_Re_readBath_43 ?_
  refine aw_iload_n d_Re_readBath_46 2 rfl ?_
  refine aw_SN_v (As := [.ref (t33 + 2), .int (gI δ32 t40 0), .int v2]) (m_Fp_put (congrArg Prod.fst (fx_isLK ht33 2 (by decide)))) cs_Re_99 rfl rfl (Nat.le_of_ble_eq_true rfl) ⟨Nat.le_of_ble_eq_true rfl, Nat.le_of_ble_eq_true rfl⟩ ⟨Nat.le_refl _, Nat.le_refl _⟩ d_Re_readBath_47 (fun y47 => ?_)
  refine aw_aload_n d_Re_readBath_50 0 rfl ?_
  refine aw_V_v (As := []) (m_Re_step) cv_Re_45 kd_7 rfl rfl rfl (Nat.le_of_ble_eq_true rfl) ⟨Nat.le_of_ble_eq_true rfl, Nat.le_of_ble_eq_true rfl⟩ ⟨Nat.le_refl _, Nat.le_refl _⟩ d_Re_readBath_51 (fun y51 => ?_)
  exact aw_vret rfl rfl ⟨Nat.le_refl _, Nat.le_refl _⟩ d_Re_readBath_54
def f_Re_readBath (a1 : Int32) (δ : Dm) : Option Dm := ((f_Re_numberHere (2 : Int32) δ).bind (fun y2 => bnd y2.1 (fun v2 => bnd y2.2 (fun δ_2 => (if a1 = (11 : Int32) then (ocs (dR (gI δ_2 7 8)) none (fun t13 => if isL t13 = true then ((f_Fp_get (t13 + 6) v2 δ_2).bind (fun y20 => (if y20 = (-1 : Int32) then (jp_Re_readBath_32 a1 v2 δ_2) else ((f_Re_fail (4 : Int32) δ_2).bind (fun y29 => (jp_Re_readBath_32 a1 v2 y29)))))) else none)) else (jp_Re_readBath_32 a1 v2 δ_2))))))
set_option maxHeartbeats 4000000 in
set_option maxRecDepth 100000 in
theorem m_Re_readBath {a1 : Int32} {δ : Dm} {n : Nat} : ∀ x, f_Re_readBath a1 δ = some x → AMet k_Re_readBath 3 0 0 [.ref 7, .int a1] δ RT n (Kv RT n x) := by
  refine aw_start (lo := [(0, .ref 7), (1, .int a1)]) mok_Re_readBath rfl (Nat.le_of_ble_eq_true rfl) ?_
  unfold f_Re_readBath
  refine aw_aload_n d_Re_readBath_0 0 rfl ?_
  refine aw_iconst d_Re_readBath_1 ki_2 ?_
  refine aw_V_m (As := [.int (2 : Int32)]) (m_Re_numberHere) cv_Re_144 kd_7 rfl rfl rfl (Nat.le_of_ble_eq_true rfl) ⟨Nat.le_of_ble_eq_true rfl, Nat.le_of_ble_eq_true rfl⟩ ⟨Nat.le_refl _, Nat.le_refl _⟩ d_Re_readBath_2 (fun y2 => ?_)
  refine aw_bI (fun v2 => ?_)
  refine aw_bD (fun δ_2 => ?_)
  refine aw_istore_n (lo' := [(2, .int v2), (0, .ref 7), (1, .int a1)]) d_Re_readBath_5 rfl (by decide) rfl ?_
  refine aw_iload_n d_Re_readBath_6 2 rfl ?_
  refine aw_bipush d_Re_readBath_7 kb_11 ?_
  refine aw_icmp_ne (tgt := 32) d_Re_readBath_9 rfl (fun q9 => ?_) (fun q9 => ?_)
  · refine aw_aload_n d_Re_readBath_12 1 rfl ?_
    refine aw_getD fl_Re_24 kd_7 d_Re_readBath_13 aw_none (fun t13 => ?_)
    refine aw_grd (fun ht13 => ?_)
    refine aw_getR (t := (t13 + 6)) fl_Re_147 (fx_isLK ht13 0 (by decide)) (fx_isLR ht13 0 7 (by decide) (by decide)) d_Re_readBath_16 ?_
    refine aw_iload_n d_Re_readBath_19 0 rfl ?_
    refine aw_SN_p (As := [.ref (t13 + 6), .int v2]) (m_Fp_get (congrArg Prod.fst (fx_isLK ht13 6 (by decide)))) cs_Re_63 rfl rfl (Nat.le_of_ble_eq_true rfl) ⟨Nat.le_of_ble_eq_true rfl, Nat.le_of_ble_eq_true rfl⟩ ⟨Nat.le_refl _, Nat.le_refl _⟩ d_Re_readBath_20 (fun y20 => ?_)
    refine aw_iconst d_Re_readBath_23 ki_m1 ?_
    refine aw_icmp_eq (tgt := 32) d_Re_readBath_24 rfl (fun q24 => ?_) (fun q24 => ?_)
    · refine aw_sub (lo' := [(0, .ref 7), (1, .int a1), (2, .int v2)]) [1, 2, 0] rfl ?_
      exact tj_Re_readBath_32 _ _ _
    · refine aw_aload_n d_Re_readBath_27 1 rfl ?_
      refine aw_iconst d_Re_readBath_28 ki_4 ?_
      refine aw_V_v (As := [.int (4 : Int32)]) (m_Re_fail) cv_Re_57 kd_7 rfl rfl rfl (Nat.le_of_ble_eq_true rfl) ⟨Nat.le_of_ble_eq_true rfl, Nat.le_of_ble_eq_true rfl⟩ ⟨Nat.le_refl _, Nat.le_refl _⟩ d_Re_readBath_29 (fun y29 => ?_)
      refine aw_sub (lo' := [(0, .ref 7), (1, .int a1), (2, .int v2)]) [1, 2, 0] rfl ?_
      exact tj_Re_readBath_32 _ _ _
  · refine aw_sub (lo' := [(0, .ref 7), (1, .int a1), (2, .int v2)]) [1, 2, 0] rfl ?_
    exact tj_Re_readBath_32 _ _ _
def f_Re_readWeak (δ : Dm) : Option Dm := (ocs (dR (gI δ 7 8)) none (fun t1 => if isL t1 = true then (ocs (dR (gI δ 7 8)) none (fun t8 => if isL t8 = true then (ocs (dR (gI δ 7 8)) none (fun t15 => if isL t15 = true then ((f_Fp_get (t8 + 2) (gI δ t15 0) δ).bind (fun y21 => ((f_Re_numberHere (999 : Int32) δ).bind (fun y28 => bnd y28.1 (fun v28 => bnd y28.2 (fun δ_28 => ((f_Fp_put (t1 + 6) y21 v28 δ_28).bind (fun y31 => ((f_Re_step y31).bind (fun y35 => (some y35))))))))))) else none)) else none)) else none))
set_option maxHeartbeats 4000000 in
set_option maxRecDepth 100000 in
theorem m_Re_readWeak {δ : Dm} {n : Nat} : ∀ x, f_Re_readWeak δ = some x → AMet k_Re_readWeak 3 0 0 [.ref 7] δ RT n (Kv RT n x) := by
  refine aw_start (lo := [(0, .ref 7)]) mok_Re_readWeak rfl (Nat.le_of_ble_eq_true rfl) ?_
  unfold f_Re_readWeak
  refine aw_aload_n d_Re_readWeak_0 0 rfl ?_
  refine aw_getD fl_Re_24 kd_7 d_Re_readWeak_1 aw_none (fun t1 => ?_)
  refine aw_grd (fun ht1 => ?_)
  refine aw_getR (t := (t1 + 6)) fl_Re_147 (fx_isLK ht1 0 (by decide)) (fx_isLR ht1 0 7 (by decide) (by decide)) d_Re_readWeak_4 ?_
  refine aw_aload_n d_Re_readWeak_7 0 rfl ?_
  refine aw_getD fl_Re_24 kd_7 d_Re_readWeak_8 aw_none (fun t8 => ?_)
  refine aw_grd (fun ht8 => ?_)
  refine aw_getR (t := (t8 + 2)) fl_Re_150 (fx_isLK ht8 0 (by decide)) (fx_isLR ht8 0 3 (by decide) (by decide)) d_Re_readWeak_11 ?_
  refine aw_aload_n d_Re_readWeak_14 0 rfl ?_
  refine aw_getD fl_Re_24 kd_7 d_Re_readWeak_15 aw_none (fun t15 => ?_)
  refine aw_grd (fun ht15 => ?_)
  refine aw_getI fl_Re_153 (fx_isLK ht15 0 (by decide)) d_Re_readWeak_18 ?_
  refine aw_SN_p (As := [.ref (t8 + 2), .int (gI δ t15 0)]) (m_Fp_get (congrArg Prod.fst (fx_isLK ht8 2 (by decide)))) cs_Re_63 rfl rfl (Nat.le_of_ble_eq_true rfl) ⟨Nat.le_of_ble_eq_true rfl, Nat.le_of_ble_eq_true rfl⟩ ⟨Nat.le_refl _, Nat.le_refl _⟩ d_Re_readWeak_21 (fun y21 => ?_)
  refine aw_aload_n d_Re_readWeak_24 0 rfl ?_
  refine aw_sipush d_Re_readWeak_25 ks_999 ?_
  refine aw_V_m (As := [.int (999 : Int32)]) (m_Re_numberHere) cv_Re_144 kd_7 rfl rfl rfl (Nat.le_of_ble_eq_true rfl) ⟨Nat.le_of_ble_eq_true rfl, Nat.le_of_ble_eq_true rfl⟩ ⟨Nat.le_refl _, Nat.le_refl _⟩ d_Re_readWeak_28 (fun y28 => ?_)
  refine aw_bI (fun v28 => ?_)
  refine aw_bD (fun δ_28 => ?_)
  refine aw_SN_v (As := [.ref (t1 + 6), .int y21, .int v28]) (m_Fp_put (congrArg Prod.fst (fx_isLK ht1 6 (by decide)))) cs_Re_99 rfl rfl (Nat.le_of_ble_eq_true rfl) ⟨Nat.le_of_ble_eq_true rfl, Nat.le_of_ble_eq_true rfl⟩ ⟨Nat.le_refl _, Nat.le_refl _⟩ d_Re_readWeak_31 (fun y31 => ?_)
  refine aw_aload_n d_Re_readWeak_34 0 rfl ?_
  refine aw_V_v (As := []) (m_Re_step) cv_Re_45 kd_7 rfl rfl rfl (Nat.le_of_ble_eq_true rfl) ⟨Nat.le_of_ble_eq_true rfl, Nat.le_of_ble_eq_true rfl⟩ ⟨Nat.le_refl _, Nat.le_refl _⟩ d_Re_readWeak_35 (fun y35 => ?_)
  exact aw_vret rfl rfl ⟨Nat.le_refl _, Nat.le_refl _⟩ d_Re_readWeak_38
def f_La_emit (a0 : Nat) (a1 : Int32) (δ : Dm) : Option Dm := (if (gI δ a0 1) < 0 then (some δ) else (if (400 : Int32) ≤ (gI δ a0 1) then (some δ) else (if inb (gI δ a0 1) 400 then bnd (sI δ (a0 + 7) (ix (gI δ a0 1)) a1) (fun δ_28 => (bnd (sI δ_28 a0 1 ((gI δ_28 a0 1) + (1 : Int32))) (fun δ_36 => (some δ_36)))) else none)))
set_option maxHeartbeats 4000000 in
set_option maxRecDepth 100000 in
theorem m_La_emit {a0 : Nat} {a1 : Int32} {δ : Dm} {n : Nat} (ha0 : isL a0 = true) : ∀ x, f_La_emit a0 a1 δ = some x → AMet k_La_emit 1 0 0 [.ref a0, .int a1] δ RT n (Kv RT n x) := by
  refine aw_start (lo := [(0, .ref a0), (1, .int a1)]) mok_La_emit rfl (Nat.le_of_ble_eq_true rfl) ?_
  unfold f_La_emit
  refine aw_aload_n d_La_emit_0 0 rfl ?_
  refine aw_getI fl_La_37 (fx_isLK ha0 0 (by decide)) d_La_emit_1 ?_
  refine aw_if_lt (tgt := 39) d_La_emit_4 rfl (fun q4 => ?_) (fun q4 => ?_)
  · exact aw_vret rfl rfl ⟨Nat.le_refl _, Nat.le_refl _⟩ d_La_emit_39
  · refine aw_aload_n d_La_emit_7 0 rfl ?_
    refine aw_getI fl_La_37 (fx_isLK ha0 0 (by decide)) d_La_emit_8 ?_
    refine aw_aload_n d_La_emit_11 0 rfl ?_
    refine aw_getR (t := (a0 + 7)) fl_La_30 (fx_isLK ha0 0 (by decide)) (fx_isLR ha0 0 8 (by decide) (by decide)) d_La_emit_12 ?_
    refine aw_alen (v := (400 : Int32)) (fx_isLK ha0 7 (by decide)) ⟨by decide, by decide⟩ (by decide) d_La_emit_15 ?_
    refine aw_icmp_ge (tgt := 39) d_La_emit_16 rfl (fun q16 => ?_) (fun q16 => ?_)
    · exact aw_vret rfl rfl ⟨Nat.le_refl _, Nat.le_refl _⟩ d_La_emit_39
    · refine aw_aload_n d_La_emit_19 0 rfl ?_
      refine aw_getR (t := (a0 + 7)) fl_La_30 (fx_isLK ha0 0 (by decide)) (fx_isLR ha0 0 8 (by decide) (by decide)) d_La_emit_20 ?_
      refine aw_aload_n d_La_emit_23 0 rfl ?_
      refine aw_getI fl_La_37 (fx_isLK ha0 0 (by decide)) d_La_emit_24 ?_
      refine aw_iload_n d_La_emit_27 1 rfl ?_
      refine aw_iast (fx_isLK ha0 7 (by decide)) d_La_emit_28 ?_
      refine aw_bD (fun δ_28 => ?_)
      refine aw_aload_n d_La_emit_29 0 rfl ?_
      refine aw_dup d_La_emit_30 rfl ?_
      refine aw_getI fl_La_37 (fx_isLK ha0 0 (by decide)) d_La_emit_31 ?_
      refine aw_iconst d_La_emit_34 ki_1 ?_
      refine aw_iadd d_La_emit_35 ?_
      refine aw_putI pf_La_37 (fx_isLK ha0 0 (by decide)) d_La_emit_36 ?_
      refine aw_bD (fun δ_36 => ?_)
      exact aw_vret rfl rfl ⟨Nat.le_refl _, Nat.le_refl _⟩ d_La_emit_39
def jp_Re_readValue_96 (v1_82 : Int32) (δ96 : Dm) : Option Dm := (bnd (sI δ96 7 6 ((gI δ96 7 6) + (1 : Int32))) (fun δ_103 => (ocs (dR (gI δ_103 7 8)) none (fun t107 => if isL t107 = true then ((f_La_emit t107 v1_82 δ_103).bind (fun y111 => ((f_Re_step y111).bind (fun y115 => (some y115))))) else none))))
set_option maxHeartbeats 4000000 in
set_option maxRecDepth 100000 in
theorem tj_Re_readValue_96 {n : Nat} (v1_82 : Int32) (δ96 : Dm) : AWo k_Re_readValue 2 0 0 96 [(0, .ref 7), (1, .int v1_82)] [] δ96 RT n 0 0 (Kv RT n) (jp_Re_readValue_96 v1_82 δ96) := by
  unfold jp_Re_readValue_96
  refine aw_aload_n d_Re_readValue_96 0 rfl ?_
  refine aw_dup d_Re_readValue_97 rfl ?_
  refine aw_getI fl_Re_35 kd_7 d_Re_readValue_98 ?_
  refine aw_iconst d_Re_readValue_101 ki_1 ?_
  refine aw_iadd d_Re_readValue_102 ?_
  refine aw_putI pf_Re_35 kd_7 d_Re_readValue_103 ?_
  refine aw_bD (fun δ_103 => ?_)
  refine aw_aload_n d_Re_readValue_106 0 rfl ?_
  refine aw_getD fl_Re_24 kd_7 d_Re_readValue_107 aw_none (fun t107 => ?_)
  refine aw_grd (fun ht107 => ?_)
  refine aw_iload_n d_Re_readValue_110 1 rfl ?_
  refine aw_V_v (As := [.int v1_82]) (m_La_emit ht107) cv_Re_159 (fx_isLK ht107 0 (by decide)) rfl rfl rfl (Nat.le_of_ble_eq_true rfl) ⟨Nat.le_of_ble_eq_true rfl, Nat.le_of_ble_eq_true rfl⟩ ⟨Nat.le_refl _, Nat.le_refl _⟩ d_Re_readValue_111 (fun y111 => ?_)
  refine aw_aload_n d_Re_readValue_114 0 rfl ?_
  refine aw_V_v (As := []) (m_Re_step) cv_Re_45 kd_7 rfl rfl rfl (Nat.le_of_ble_eq_true rfl) ⟨Nat.le_of_ble_eq_true rfl, Nat.le_of_ble_eq_true rfl⟩ ⟨Nat.le_refl _, Nat.le_refl _⟩ d_Re_readValue_115 (fun y115 => ?_)
  exact aw_vret rfl rfl ⟨Nat.le_refl _, Nat.le_refl _⟩ d_Re_readValue_118
def jp_Re_readValue_82 (v1_82 : Int32) (δ82 : Dm) : Option Dm := (if (gI δ82 7 6) < (60 : Int32) then (jp_Re_readValue_96 v1_82 δ82) else ((f_Re_fail (3 : Int32) δ82).bind (fun y93 => (jp_Re_readValue_96 v1_82 y93))))
set_option maxHeartbeats 4000000 in
set_option maxRecDepth 100000 in
theorem tj_Re_readValue_82 {n : Nat} (v1_82 : Int32) (δ82 : Dm) : AWo k_Re_readValue 2 0 0 82 [(0, .ref 7), (1, .int v1_82)] [] δ82 RT n 0 0 (Kv RT n) (jp_Re_readValue_82 v1_82 δ82) := by
  unfold jp_Re_readValue_82
  refine aw_aload_n d_Re_readValue_82 0 rfl ?_
  refine aw_getI fl_Re_35 kd_7 d_Re_readValue_83 ?_
  refine aw_bipush d_Re_readValue_86 kb_60 ?_
  refine aw_icmp_lt (tgt := 96) d_Re_readValue_88 rfl (fun q88 => ?_) (fun q88 => ?_)
  · refine aw_sub (lo' := [(0, .ref 7), (1, .int v1_82)]) [0, 1] rfl ?_
    exact tj_Re_readValue_96 _ _
  · refine aw_aload_n d_Re_readValue_91 0 rfl ?_
    refine aw_iconst d_Re_readValue_92 ki_3 ?_
    refine aw_V_v (As := [.int (3 : Int32)]) (m_Re_fail) cv_Re_57 kd_7 rfl rfl rfl (Nat.le_of_ble_eq_true rfl) ⟨Nat.le_of_ble_eq_true rfl, Nat.le_of_ble_eq_true rfl⟩ ⟨Nat.le_refl _, Nat.le_refl _⟩ d_Re_readValue_93 (fun y93 => ?_)
    refine aw_sub (lo' := [(0, .ref 7), (1, .int v1_82)]) [0, 1] rfl ?_
    exact tj_Re_readValue_96 _ _
def jp_Re_readValue_77 (v6 : Int32) (δ : Dm) : Option Dm := ((f_Re_fail (0 : Int32) δ).bind (fun y79 => (jp_Re_readValue_82 v6 y79)))
set_option maxHeartbeats 4000000 in
set_option maxRecDepth 100000 in
theorem tj_Re_readValue_77 {n : Nat} (v6 : Int32) (δ : Dm) : AWo k_Re_readValue 2 0 0 77 [(0, .ref 7), (1, .int v6)] [] δ RT n 0 0 (Kv RT n) (jp_Re_readValue_77 v6 δ) := by
  unfold jp_Re_readValue_77
  refine aw_aload_n d_Re_readValue_77 0 rfl ?_
  refine aw_iconst d_Re_readValue_78 ki_0 ?_
  refine aw_V_v (As := [.int (0 : Int32)]) (m_Re_fail) cv_Re_57 kd_7 rfl rfl rfl (Nat.le_of_ble_eq_true rfl) ⟨Nat.le_of_ble_eq_true rfl, Nat.le_of_ble_eq_true rfl⟩ ⟨Nat.le_refl _, Nat.le_refl _⟩ d_Re_readValue_79 (fun y79 => ?_)
  refine aw_sub (lo' := [(0, .ref 7), (1, .int v6)]) [0, 1] rfl ?_
  exact tj_Re_readValue_82 _ _
def jp_Re_readValue_48 (v6 : Int32) (δ : Dm) (s0_48 : Int32) : Option Dm := (if 0 ≤ s0_48 then (jp_Re_readValue_82 s0_48 δ) else ((f_Re_fail (1 : Int32) δ).bind (fun y55 => (jp_Re_readValue_82 s0_48 y55))))
set_option maxHeartbeats 4000000 in
set_option maxRecDepth 100000 in
theorem tj_Re_readValue_48 {n : Nat} (v6 : Int32) (δ : Dm) (s0_48 : Int32) : AWo k_Re_readValue 2 0 0 48 [(0, .ref 7), (1, .int v6)] [.int s0_48] δ RT n 0 0 (Kv RT n) (jp_Re_readValue_48 v6 δ s0_48) := by
  unfold jp_Re_readValue_48
  refine aw_istore_n (lo' := [(1, .int s0_48), (0, .ref 7)]) d_Re_readValue_48 rfl (by decide) rfl ?_
  refine aw_iload_n d_Re_readValue_49 0 rfl ?_
  refine aw_if_ge (tgt := 82) d_Re_readValue_50 rfl (fun q50 => ?_) (fun q50 => ?_)
  · refine aw_sub (lo' := [(0, .ref 7), (1, .int s0_48)]) [1, 0] rfl ?_
    exact tj_Re_readValue_82 _ _
  · refine aw_aload_n d_Re_readValue_53 1 rfl ?_
    refine aw_iconst d_Re_readValue_54 ki_1 ?_
    refine aw_V_v (As := [.int (1 : Int32)]) (m_Re_fail) cv_Re_57 kd_7 rfl rfl rfl (Nat.le_of_ble_eq_true rfl) ⟨Nat.le_of_ble_eq_true rfl, Nat.le_of_ble_eq_true rfl⟩ ⟨Nat.le_refl _, Nat.le_refl _⟩ d_Re_readValue_55 (fun y55 => ?_)
    refine aw_goto (tgt := 82) d_Re_readValue_58 rfl ?_
    refine aw_sub (lo' := [(0, .ref 7), (1, .int s0_48)]) [1, 0] rfl ?_
    exact tj_Re_readValue_82 _ _
def jp_Re_readValue_47 (v6 : Int32) (δ : Dm) : Option Dm := (jp_Re_readValue_48 v6 δ (-1 : Int32))
set_option maxHeartbeats 4000000 in
set_option maxRecDepth 100000 in
theorem tj_Re_readValue_47 {n : Nat} (v6 : Int32) (δ : Dm) : AWo k_Re_readValue 2 0 0 47 [(0, .ref 7), (1, .int v6)] [] δ RT n 0 0 (Kv RT n) (jp_Re_readValue_47 v6 δ) := by
  unfold jp_Re_readValue_47
  refine aw_iconst d_Re_readValue_47 ki_m1 ?_
  refine aw_sub (lo' := [(0, .ref 7), (1, .int v6)]) [0, 1] rfl ?_
  exact tj_Re_readValue_48 _ _ _
def f_Re_readValue (δ : Dm) : Option Dm := (bnd ((-1 : Int32) - (gI δ 7 5)) (fun v6 => (if (gI δ 7 5) = (21 : Int32) then (if (gI δ 7 4) < 0 then (jp_Re_readValue_47 v6 δ) else (if (401 : Int32) ≤ (gI δ 7 4) then (jp_Re_readValue_47 v6 δ) else (if inb (gI δ 7 4) 401 then (jp_Re_readValue_48 v6 δ (gI δ 10 (ix (gI δ 7 4)))) else none))) else (if (gI δ 7 5) < 0 then (jp_Re_readValue_77 v6 δ) else (if (gI δ 7 5) ≤ (8 : Int32) then (jp_Re_readValue_82 v6 δ) else (jp_Re_readValue_77 v6 δ))))))
set_option maxHeartbeats 4000000 in
set_option maxRecDepth 100000 in
theorem m_Re_readValue {δ : Dm} {n : Nat} : ∀ x, f_Re_readValue δ = some x → AMet k_Re_readValue 2 0 0 [.ref 7] δ RT n (Kv RT n x) := by
  refine aw_start (lo := [(0, .ref 7)]) mok_Re_readValue rfl (Nat.le_of_ble_eq_true rfl) ?_
  unfold f_Re_readValue
  refine aw_iconst d_Re_readValue_0 ki_m1 ?_
  refine aw_aload_n d_Re_readValue_1 0 rfl ?_
  refine aw_getI fl_Re_52 kd_7 d_Re_readValue_2 ?_
  refine aw_isub d_Re_readValue_5 ?_
  refine aw_bI (fun v6 => ?_)
  refine aw_istore_n (lo' := [(1, .int v6), (0, .ref 7)]) d_Re_readValue_6 rfl (by decide) rfl ?_
  refine aw_aload_n d_Re_readValue_7 1 rfl ?_
  refine aw_getI fl_Re_52 kd_7 d_Re_readValue_8 ?_
  refine aw_bipush d_Re_readValue_11 kb_21 ?_
  refine aw_icmp_ne (tgt := 61) d_Re_readValue_13 rfl (fun q13 => ?_) (fun q13 => ?_)
  · refine aw_aload_n d_Re_readValue_16 1 rfl ?_
    refine aw_getI fl_Re_42 kd_7 d_Re_readValue_17 ?_
    refine aw_if_lt (tgt := 47) d_Re_readValue_20 rfl (fun q20 => ?_) (fun q20 => ?_)
    · refine aw_sub (lo' := [(0, .ref 7), (1, .int v6)]) [1, 0] rfl ?_
      exact tj_Re_readValue_47 _ _
    · refine aw_aload_n d_Re_readValue_23 1 rfl ?_
      refine aw_getI fl_Re_42 kd_7 d_Re_readValue_24 ?_
      refine aw_aload_n d_Re_readValue_27 1 rfl ?_
      refine aw_getR (t := 10) fl_Re_18 kd_7 rt_7_2 d_Re_readValue_28 ?_
      refine aw_alen (v := (401 : Int32)) kd_10 ⟨by decide, by decide⟩ (by decide) d_Re_readValue_31 ?_
      refine aw_icmp_ge (tgt := 47) d_Re_readValue_32 rfl (fun q32 => ?_) (fun q32 => ?_)
      · refine aw_sub (lo' := [(0, .ref 7), (1, .int v6)]) [1, 0] rfl ?_
        exact tj_Re_readValue_47 _ _
      · refine aw_aload_n d_Re_readValue_35 1 rfl ?_
        refine aw_getR (t := 10) fl_Re_18 kd_7 rt_7_2 d_Re_readValue_36 ?_
        refine aw_aload_n d_Re_readValue_39 1 rfl ?_
        refine aw_getI fl_Re_42 kd_7 d_Re_readValue_40 ?_
        refine aw_iald kd_10 d_Re_readValue_43 ?_
        refine aw_goto (tgt := 48) d_Re_readValue_44 rfl ?_
        refine aw_sub (lo' := [(0, .ref 7), (1, .int v6)]) [1, 0] rfl ?_
        exact tj_Re_readValue_48 _ _ _
  · refine aw_aload_n d_Re_readValue_61 1 rfl ?_
    refine aw_getI fl_Re_52 kd_7 d_Re_readValue_62 ?_
    refine aw_if_lt (tgt := 77) d_Re_readValue_65 rfl (fun q65 => ?_) (fun q65 => ?_)
    · refine aw_sub (lo' := [(0, .ref 7), (1, .int v6)]) [1, 0] rfl ?_
      exact tj_Re_readValue_77 _ _
    · refine aw_aload_n d_Re_readValue_68 1 rfl ?_
      refine aw_getI fl_Re_52 kd_7 d_Re_readValue_69 ?_
      refine aw_bipush d_Re_readValue_72 kb_8 ?_
      refine aw_icmp_le (tgt := 82) d_Re_readValue_74 rfl (fun q74 => ?_) (fun q74 => ?_)
      · refine aw_sub (lo' := [(0, .ref 7), (1, .int v6)]) [1, 0] rfl ?_
        exact tj_Re_readValue_82 _ _
      · refine aw_sub (lo' := [(0, .ref 7), (1, .int v6)]) [1, 0] rfl ?_
        exact tj_Re_readValue_77 _ _
end
