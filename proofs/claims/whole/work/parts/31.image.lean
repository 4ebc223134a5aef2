/-! image -/
/-- what lies beyond the cells that there are doesn't matter -/
def cut (δ : Dm) (n : Nat) : Dm := (fun b j => if b < n then δ.1 b j else 0, fun b j => if b < n then δ.2 b j else 0)
theorem cut_ZR {δ : Dm} {n : Nat} : ZR (cut δ n) n := fun b j hb => ⟨if_neg (by omega), if_neg (by omega)⟩
theorem gI_cut {δ : Dm} {n b j : Nat} (h : b < n) : gI (cut δ n) b j = gI δ b j := if_pos h
theorem gL_cut {δ : Dm} {n b j : Nat} (h : b < n) : gL (cut δ n) b j = gL δ b j := if_pos h
theorem val_cut {E : EV} {δ : Dm} {R : Rm} {n a : Nat} (h : a < n) : val E (cut δ n) R a = val E δ R a := by
  funext j; simp only [val, gI_cut h, gL_cut h]
theorem Vw_cut {E : EV} {δ : Dm} {R : Rm} {n : Nat} {H : Heap} (hV : Vw E δ R n H) : Vw E (cut δ n) R n H := by
  obtain ⟨v1, v2, v3, v4, v5, v6⟩ := hV
  refine ⟨v1, v2, fun a h4 ha => cat_kept (v3 a h4 ha) rfl (val_cut ha), v4, ⟨v5.1, fun a j v h4 ha hd hv => v5.2 a j v h4 ha hd (by rw [gI_cut ha] at hv; exact hv)⟩, ⟨fun j hj => by rw [gI_cut (by omega)]; exact v6.1 j hj, by rw [gI_cut (by omega)]; exact v6.2⟩⟩
theorem aw_cut {α : Type} {k : MI} {d mc ms pc nc ns n : Nat} {lo : List (Nat × Value)} {st : List Value} {δ : Dm} {R : Rm} {KK : α → Ans} {res : Option α} (h : AWo k d mc ms pc lo st (cut δ n) R n nc ns KK res) : AWo k d mc ms pc lo st δ R n nc ns KK res :=
  fun r hr p l e s m args below meth c E B H locs ls hl hV hS ho hs => h r hr p l e s m args below meth c E B H locs ls hl (Vw_cut hV) hS ho hs
noncomputable def f_Fp_image (a1 : Int32) (δ : Dm) (n : Nat) : Option (Int32 × Dm × Nat) :=
  if a1 < 0 then some (-1, δ, n) else if a1 < 4 then (if inb a1 4 then ocs (dR (gI δ 86 (ix a1))) (if isT n = true then (if inb a1 4 then (bnd (sI (flI (cut δ n) (n + 1) 400 15) 86 (ix a1) (nI n)) (fun δ1 => (f_To_become n 29 δ1).bind (fun δ2 => some (gI δ2 29 0, δ2, n + 57)))) else none) else none) (fun t => if isT t = true then (f_To_become t 29 δ).bind (fun δ2 => some (gI δ2 29 0, δ2, n)) else none) else none) else some (-1, δ, n)
set_option maxHeartbeats 4000000 in
set_option maxRecDepth 100000 in
theorem m_Fp_image {a1 : Int32} {δ : Dm} {n : Nat} : ∀ x, f_Fp_image a1 δ n = some x → AMet k_Fp_image 5 57 7208 [.ref 4, .int a1] δ RT n (Ki RT x) := by
  refine aw_start (lo := [(0, .ref 4), (1, .int a1)]) mok_Fp_image rfl (Nat.le_of_ble_eq_true rfl) ?_
  unfold f_Fp_image
  refine aw_iload_n d_Fp_image_0 1 rfl ?_
  refine aw_if_lt (tgt := 13) d_Fp_image_1 rfl (fun q => ?_) (fun q => ?_)
  · refine aw_iconst d_Fp_image_13 ki_m1 ?_
    exact aw_iret rfl rfl ⟨Nat.zero_le _, Nat.zero_le _⟩ d_Fp_image_14
  refine aw_iload_n d_Fp_image_4 1 rfl ?_
  refine aw_aload_n d_Fp_image_5 0 rfl ?_
  refine aw_getR (t := 86) fl_Fp_61 kd_4 rt_4_10 d_Fp_image_6 ?_
  refine aw_alen (v := (4 : Int32)) kd_86 ⟨by decide, by decide⟩ (by decide) d_Fp_image_9 ?_
  refine aw_icmp_lt (tgt := 15) d_Fp_image_10 rfl (fun q => ?_) (fun q => ?_)
  · refine aw_aload_n d_Fp_image_15 0 rfl ?_
    refine aw_getR (t := 86) fl_Fp_61 kd_4 rt_4_10 d_Fp_image_16 ?_
    refine aw_iload_n d_Fp_image_19 1 rfl ?_
    refine aw_aald7 kd_86 d_Fp_image_20 ?_ (fun t => ?_)
    · refine aw_grd (fun hn => ?_)
      refine aw_astoreN_n (lo' := [(2, .null), (0, .ref 4), (1, .int a1)]) d_Fp_image_21 rfl (by decide) rfl ?_
      refine aw_aloadN_n d_Fp_image_22 0 rfl ?_
      refine aw_ifnonnullN d_Fp_image_23 ?_
      refine aw_cut ?_
      refine aw_new nw_Fp_54 (fx_isTK hn 0 (by decide)) rfl (Nat.le_of_ble_eq_true rfl) (Nat.le_of_ble_eq_true rfl) d_Fp_image_26 ?_
      refine aw_cD (zr_id cut_ZR) ?_
      refine aw_dup d_Fp_image_29 rfl ?_
      refine aw_Iu (As := []) (mi_To hn cut_ZR (R := RT) (fun _ _ _ _ => rfl)) cc_Fp_56 rfl rfl rfl (Nat.le_of_ble_eq_true rfl) ⟨Nat.le_of_ble_eq_true rfl, Nat.le_of_ble_eq_true rfl⟩ ⟨Nat.le_of_ble_eq_true rfl, Nat.le_of_ble_eq_true rfl⟩ d_Fp_image_30 ?_
      refine aw_astore_n (lo' := [(2, .ref n), (0, .ref 4), (1, .int a1)]) d_Fp_image_33 rfl (by decide) rfl ?_
      refine aw_aload_n d_Fp_image_34 1 rfl ?_
      refine aw_getR (t := 86) fl_Fp_61 kd_4 rt_4_10 d_Fp_image_35 ?_
      refine aw_iload_n d_Fp_image_38 2 rfl ?_
      refine aw_aload_n d_Fp_image_39 0 rfl ?_
      refine aw_aast7 kd_86 (fx_isTK hn 0 (by decide)) (Nat.lt_trans (fx_isTlt hn) (by decide)) d_Fp_image_40 ?_
      refine aw_bD (fun δ1 => ?_)
      refine aw_aload_n d_Fp_image_41 0 rfl ?_
      refine aw_aload_n d_Fp_image_42 1 rfl ?_
      refine aw_getR (t := 29) fl_Fp_57 kd_4 rt_4_9 d_Fp_image_43 ?_
      refine aw_V_v (As := [.ref 29]) (m_To_become hn (by decide)) cv_Fp_352 (fx_isTK hn 0 (by decide)) rfl rfl rfl (Nat.le_of_ble_eq_true rfl) ⟨Nat.le_of_ble_eq_true rfl, Nat.le_of_ble_eq_true rfl⟩ ⟨Nat.le_of_ble_eq_true rfl, Nat.le_of_ble_eq_true rfl⟩ d_Fp_image_46 (fun δ2 => ?_)
      refine aw_aload_n d_Fp_image_49 1 rfl ?_
      refine aw_getR (t := 29) fl_Fp_57 kd_4 rt_4_9 d_Fp_image_50 ?_
      refine aw_getI fl_Fp_130 kd_29 d_Fp_image_53 ?_
      exact aw_iret rfl rfl ⟨Nat.le_of_ble_eq_true rfl, Nat.le_of_ble_eq_true rfl⟩ d_Fp_image_56
    · refine aw_grd (fun ht => ?_)
      refine aw_astore_n (lo' := [(2, .ref t), (0, .ref 4), (1, .int a1)]) d_Fp_image_21 rfl (by decide) rfl ?_
      refine aw_aload_n d_Fp_image_22 0 rfl ?_
      refine aw_ifnonnull (tgt := 41) d_Fp_image_23 rfl ?_
      refine aw_aload_n d_Fp_image_41 0 rfl ?_
      refine aw_aload_n d_Fp_image_42 1 rfl ?_
      refine aw_getR (t := 29) fl_Fp_57 kd_4 rt_4_9 d_Fp_image_43 ?_
      refine aw_V_v (As := [.ref 29]) (m_To_become ht (by decide)) cv_Fp_352 (fx_isTK ht 0 (by decide)) rfl rfl rfl (Nat.le_of_ble_eq_true rfl) ⟨Nat.le_of_ble_eq_true rfl, Nat.le_of_ble_eq_true rfl⟩ ⟨Nat.le_of_ble_eq_true rfl, Nat.le_of_ble_eq_true rfl⟩ d_Fp_image_46 (fun δ2 => ?_)
      refine aw_aload_n d_Fp_image_49 1 rfl ?_
      refine aw_getR (t := 29) fl_Fp_57 kd_4 rt_4_9 d_Fp_image_50 ?_
      refine aw_getI fl_Fp_130 kd_29 d_Fp_image_53 ?_
      exact aw_iret rfl rfl ⟨Nat.le_of_ble_eq_true rfl, Nat.le_of_ble_eq_true rfl⟩ d_Fp_image_56
  · refine aw_iconst d_Fp_image_13 ki_m1 ?_
    exact aw_iret rfl rfl ⟨Nat.zero_le _, Nat.zero_le _⟩ d_Fp_image_14
