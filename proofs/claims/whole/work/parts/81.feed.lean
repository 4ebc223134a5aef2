/-! feed -/
def byN (v : Int32) (s : Nat) : Nat := (v >>> (nI s &&& 31)).toBitVec.toNat % 256
theorem byN_lt {v : Int32} {s : Nat} : byN v s < 256 := Nat.mod_lt _ (by decide)
theorem by_c {v : Int32} {s : Nat} : (v >>> (nI s &&& 31)) &&& 255 = nI (byN v s) := pk_and _ 8 (by decide)
theorem i8_mod (x : Int32) : x.toInt8 = (nI (x.toBitVec.toNat % 256)).toInt8 := by
  apply Int8.toBitVec_inj.mp
  rw [Int32.toBitVec_toInt8, Int32.toBitVec_toInt8, BitVec.signExtend_eq_setWidth_of_le _ (by decide), BitVec.signExtend_eq_setWidth_of_le _ (by decide)]
  apply BitVec.eq_of_toNat_eq
  rw [BitVec.toNat_setWidth, BitVec.toNat_setWidth, pk_tn (Nat.lt_trans (Nat.mod_lt _ (by decide)) (by decide))]
  omega
theorem by_m {v : Int32} {s : Nat} : ((v >>> (nI s &&& 31)).toInt8.toInt32).toInt8.toInt32 = (nI (byN v s)).toInt8.toInt32 := by
  rw [Int8.toInt8_toInt32, i8_mod]; rfl
def apB (S : St) (b : Nat) : St := (S.1, S.2.1, up S.2.2.1 S.2.2.2.1 b, S.2.2.2.1 + 1, S.2.2.2.2)
theorem apC {δ : Dm} {n b : Nat} {S : St} (h : RepC δ n S) : RepC (sI (sI δ 5 (sN S) (nI b)) 4 1 (nI (sN S + 1))) n (apB S b) := by
  obtain ⟨h1, h2, h3, h4, h5, h6, h7, h8⟩ := h
  have e : ∀ a j, a ≠ 5 → ¬ (a = 4 ∧ j = 1) → gI (sI (sI δ 5 (sN S) (nI b)) 4 1 (nI (sN S + 1))) a j = gI δ a j := fun a j q r => by rw [gs, if_neg r, gsr q]
  refine ⟨RC_keep h1 (fun o j ho => e _ _ (by omega) (by omega)), by rw [e _ _ (by decide) (by omega)]; exact h2, fun i L q => LC_keep (h3 i L q) (fun o k ho => e _ _ (by omega) (by omega)), gss, fun j hj => ?_, h6, fun j q hq => ?_, fun k a b => by rw [e _ _ (by decide) (by omega)]; exact h8 k a b⟩
  · have hj : j < sN S + 1 := hj
    rw [gsr (by decide)]
    show gI (sI δ 5 (sN S) (nI b)) 5 j = nI (up (sP S) (sN S) b j)
    by_cases q : j = sN S
    · subst q; rw [gss, up_s]
    · rw [gsc q, up_n q]; exact h5 j (by omega)
  · obtain ⟨a1, a2⟩ := h7 j q hq
    exact ⟨by rw [e _ _ (by decide) (by omega)]; exact a1, RC_keep a2 (fun o k ho => e _ _ (by omega) (by omega))⟩
theorem apM {δ : Dm} {b : Nat} {S : St} (h : RepM δ S) : RepM (sI (sI δ 153 (sN S) ((nI b).toInt8.toInt32)) 151 2 (nI (sN S + 1))) (apB S b) := by
  obtain ⟨h1, h2, h3, h4, h5, h6, h7⟩ := h
  have e : ∀ a j, a ≠ 153 → ¬ (a = 151 ∧ j = 2) → gI (sI (sI δ 153 (sN S) ((nI b).toInt8.toInt32)) 151 2 (nI (sN S + 1))) a j = gI δ a j := fun a j q r => by rw [gs, if_neg r, gsr q]
  refine ⟨RM_row h1 (fun k => e _ _ (by decide) (by omega)), by rw [e _ _ (by decide) (by omega)]; exact h2, fun i L q => LM_keep2 (h3 i L q) (fun b k a1 a2 => e _ _ (by omega) (by omega)), gss, fun j hj => ?_, fun q hq => RM_row (h6 q hq) (fun k => e _ _ (by decide) (by omega)), fun k hk => by rw [e _ _ (by decide) (by omega)]; exact h7 k hk⟩
  have hj : j < sN S + 1 := hj
  rw [gsr (by decide)]
  show gI (sI δ 153 (sN S) ((nI b).toInt8.toInt32)) 153 j = (nI (up (sP S) (sN S) b j)).toInt8.toInt32
  by_cases q : j = sN S
  · subst q; rw [gss, up_s]
  · rw [gsc q, up_n q]; exact h5 j (by omega)
def ap4 (S : St) (v : Int32) : St := apB (apB (apB (apB S (byN v 24)) (byN v 16)) (byN v 8)) (byN v 0)
theorem append_eq {δ : Dm} {n : Nat} {S : St} {v : Int32} (h : RepC δ n S) (hN : sN S + 4 ≤ 400) : ∃ δ', f_Fp_append v δ = some δ' ∧ RepC δ' n (ap4 S v) ∧ KM δ δ' := by
  have step : ∀ (d : Dm) (T : St) (s : Nat) (f : Nat) (z : Int32), RepC d n T → sN T < 400 → KM δ d → s < 25 → nI s + (-8) = z → ∃ d', RepC d' n (apB T (byN v s)) ∧ KM δ d' ∧ lp_Fp_append_3 (fun v2_3x δ3x => (some δ3x)) v (f + 1) (nI s) d = lp_Fp_append_3 (fun v2_3x δ3x => (some δ3x)) v f z d' := fun d T s f z hC hT hK hs hz => by
    have g : gI d 4 1 = nI (sN T) := hC.2.2.2.1
    refine ⟨_, apC (b := byN v s) hC, KMs (KMs hK (by decide)) (by decide), ?_⟩
    simp only [lp_Fp_append_3]
    rw [if_neg (nI_pos (by omega)), g, by_c, put_in (show (KD 5).2 = 400 by decide) hT, Option.bind_some, bndE, gsr (by decide), g, nI_1, hz]
  have h5 : 5 < FU := FU_gt (by decide)
  obtain ⟨F, hF⟩ : ∃ F, FU = F + 1 + 1 + 1 + 1 + 1 := ⟨FU - 5, by omega⟩
  unfold f_Fp_append
  rw [hF, show (24 : Int32) = nI 24 from rfl]
  obtain ⟨d1, a1, a2, a3⟩ := step δ S 24 (F + 1 + 1 + 1 + 1) (nI 16) h (by omega) (KM.refl δ) (by decide) (by decide)
  obtain ⟨d2, b1, b2, b3⟩ := step d1 _ 16 (F + 1 + 1 + 1) (nI 8) a1 (by show sN S + 1 < 400; omega) a2 (by decide) (by decide)
  obtain ⟨d3, c1, c2, c3⟩ := step d2 _ 8 (F + 1 + 1) (nI 0) b1 (by show sN S + 1 + 1 < 400; omega) b2 (by decide) (by decide)
  obtain ⟨d4, e1, e2, e3⟩ := step d3 _ 0 (F + 1) (-8) c1 (by show sN S + 1 + 1 + 1 < 400; omega) c2 (by decide) (by decide)
  refine ⟨d4, ?_, e1, e2⟩
  rw [a3, b3, c3, e3]
  simp only [lp_Fp_append_3]
  rw [if_pos (by decide)]
theorem four_eq {δ : Dm} {S : St} {v : Int32} (h : RepM δ S) (hN : sN S + 4 ≤ 400) : ∃ δ', f_Mo_four v δ = some δ' ∧ RepM δ' (ap4 S v) ∧ KC δ δ' := by
  have step : ∀ (d : Dm) (T : St) (s : Nat) (f : Nat) (z : Int32), RepM d T → sN T < 400 → KC δ d → s < 25 → nI s + (-8) = z → ∃ d', RepM d' (apB T (byN v s)) ∧ KC δ d' ∧ lp_Mo_four_3 (fun v2_3x δ3x => (some δ3x)) v (f + 1) (nI s) d = lp_Mo_four_3 (fun v2_3x δ3x => (some δ3x)) v f z d' := fun d T s f z hC hT hK hs hz => by
    have g : gI d 151 2 = nI (sN T) := hC.2.2.2.1
    refine ⟨_, apM (b := byN v s) hC, KCs (KCs hK (by decide)) (by decide), ?_⟩
    simp only [lp_Mo_four_3]
    rw [if_neg (nI_pos (by omega)), g, if_pos (inb_i hT (by decide)), ixN (show sN T < 2147483648 by omega), by_m]
    simp only [bndE]
    rw [gsr (by decide), g, nI_1, hz]
  have h5 : 5 < FU := FU_gt (by decide)
  obtain ⟨F, hF⟩ : ∃ F, FU = F + 1 + 1 + 1 + 1 + 1 := ⟨FU - 5, by omega⟩
  unfold f_Mo_four
  rw [hF, show (24 : Int32) = nI 24 from rfl]
  obtain ⟨d1, a1, a2, a3⟩ := step δ S 24 (F + 1 + 1 + 1 + 1) (nI 16) h (by omega) (KC.refl δ) (by decide) (by decide)
  obtain ⟨d2, b1, b2, b3⟩ := step d1 _ 16 (F + 1 + 1 + 1) (nI 8) a1 (by show sN S + 1 < 400; omega) a2 (by decide) (by decide)
  obtain ⟨d3, c1, c2, c3⟩ := step d2 _ 8 (F + 1 + 1) (nI 0) b1 (by show sN S + 1 + 1 < 400; omega) b2 (by decide) (by decide)
  obtain ⟨d4, e1, e2, e3⟩ := step d3 _ 0 (F + 1) (-8) c1 (by show sN S + 1 + 1 + 1 < 400; omega) c2 (by decide) (by decide)
  refine ⟨d4, ?_, e1, e2⟩
  rw [a3, b3, c3, e3]
  simp only [lp_Mo_four_3]
  rw [if_pos (by decide)]
theorem apB_lt {S : St} {b : Nat} (hb : b < 256) (h : ∀ j, sP S j < 256) : ∀ j, sP (apB S b) j < 256 := fun j => by
  show up (sP S) (sN S) b j < 256
  unfold up
  split
  · exact hb
  · exact h j
theorem ok_apB {S : St} {b : Nat} (ok : Ok S) (hN : sN S < 400) (hb : b < 256) : Ok (apB S b) := ⟨ok.1, ok.2.1, ok.2.2.1, hN, apB_lt hb ok.2.2.2.2.1, ok.2.2.2.2.2⟩
theorem apB_N {S : St} {b : Nat} : sN (apB S b) = sN S + 1 := rfl
theorem ok_ap4 {S : St} {v : Int32} (ok : Ok S) (hN : sN S + 4 ≤ 400) : Ok (ap4 S v) ∧ sN (ap4 S v) = sN S + 4 := by
  have o1 := ok_apB ok (by omega) (byN_lt (v := v) (s := 24))
  have n1 : sN (apB S (byN v 24)) = sN S + 1 := apB_N
  have o2 := ok_apB o1 (by omega) (byN_lt (v := v) (s := 16))
  have n2 : sN (apB (apB S (byN v 24)) (byN v 16)) = sN (apB S (byN v 24)) + 1 := apB_N
  have o3 := ok_apB o2 (by omega) (byN_lt (v := v) (s := 8))
  have n3 : sN (apB (apB (apB S (byN v 24)) (byN v 16)) (byN v 8)) = sN (apB (apB S (byN v 24)) (byN v 16)) + 1 := apB_N
  have o4 := ok_apB o3 (by omega) (byN_lt (v := v) (s := 0))
  have n4 : sN (apB (apB (apB (apB S (byN v 24)) (byN v 16)) (byN v 8)) (byN v 0)) = sN (apB (apB (apB S (byN v 24)) (byN v 16)) (byN v 8)) + 1 := apB_N
  exact ⟨o4, by unfold ap4; omega⟩
theorem op_feed (a1 a2 a3 a4 a5 : Int32) : OpG (f_Fp_feed a1 a2 a3 a4 a5) (f_Mo_feed a1 a2 a3 a4 a5) := mk_op fun n S ok => by
  have hN : sN S ≤ 400 := ok.2.2.2.1
  by_cases h1 : sN S ≤ 380
  · obtain ⟨S1, e1⟩ : ∃ S1, ap4 S a1 = S1 := ⟨_, rfl⟩
    obtain ⟨o1, n1⟩ := ok_ap4 (v := a1) ok (by omega)
    rw [e1] at o1 n1
    obtain ⟨S2, e2⟩ : ∃ S2, ap4 S1 a2 = S2 := ⟨_, rfl⟩
    obtain ⟨o2, n2⟩ := ok_ap4 (v := a2) o1 (by omega)
    rw [e2] at o2 n2
    obtain ⟨S3, e3⟩ : ∃ S3, ap4 S2 a3 = S3 := ⟨_, rfl⟩
    obtain ⟨o3, n3⟩ := ok_ap4 (v := a3) o2 (by omega)
    rw [e3] at o3 n3
    obtain ⟨S4, e4⟩ : ∃ S4, ap4 S3 a4 = S4 := ⟨_, rfl⟩
    obtain ⟨o4, n4⟩ := ok_ap4 (v := a4) o3 (by omega)
    rw [e4] at o4 n4
    obtain ⟨S5, e5⟩ : ∃ S5, ap4 S4 a5 = S5 := ⟨_, rfl⟩
    obtain ⟨o5, n5⟩ := ok_ap4 (v := a5) o4 (by omega)
    rw [e5] at o5 n5
    have n20 : sN S5 = sN S + 20 := by omega
    refine ⟨nI (sN S + 20), S5, fun δ h => ?_, fun δ h => ?_, o5⟩
    · obtain ⟨d1, q1, r1, s1⟩ := append_eq (v := a1) h (by omega)
      rw [e1] at r1
      obtain ⟨d2, q2, r2, s2⟩ := append_eq (v := a2) r1 (by omega)
      rw [e2] at r2
      obtain ⟨d3, q3, r3, s3⟩ := append_eq (v := a3) r2 (by omega)
      rw [e3] at r3
      obtain ⟨d4, q4, r4, s4⟩ := append_eq (v := a4) r3 (by omega)
      rw [e4] at r4
      obtain ⟨d5, q5, r5, s5⟩ := append_eq (v := a5) r4 (by omega)
      rw [e5] at r5
      refine ⟨d5, ?_, r5, (((s1.trans s2).trans s3).trans s4).trans s5⟩
      unfold f_Fp_feed
      rw [show gI δ 4 1 = nI (sN S) from h.2.2.2.1, if_pos (show nI (sN S) ≤ (380 : Int32) from nI_le (b := 380) h1 (by decide)), q1, Option.bind_some, q2, Option.bind_some, q3, Option.bind_some, q4, Option.bind_some, q5, Option.bind_some, r5.2.2.2.1, n20]
    · obtain ⟨d1, q1, r1, s1⟩ := four_eq (v := a1) h (by omega)
      rw [e1] at r1
      obtain ⟨d2, q2, r2, s2⟩ := four_eq (v := a2) r1 (by omega)
      rw [e2] at r2
      obtain ⟨d3, q3, r3, s3⟩ := four_eq (v := a3) r2 (by omega)
      rw [e3] at r3
      obtain ⟨d4, q4, r4, s4⟩ := four_eq (v := a4) r3 (by omega)
      rw [e4] at r4
      obtain ⟨d5, q5, r5, s5⟩ := four_eq (v := a5) r4 (by omega)
      rw [e5] at r5
      refine ⟨d5, ?_, r5, (((s1.trans s2).trans s3).trans s4).trans s5⟩
      unfold f_Mo_feed
      rw [show gI δ 151 2 = nI (sN S) from h.2.2.2.1, show nI (sN S) + 20 = nI (sN S + 20) from nI_add _ 20, if_pos (show nI (sN S + 20) ≤ (400 : Int32) from nI_le (b := 400) (by omega) (by decide)), q1, Option.bind_some, q2, Option.bind_some, q3, Option.bind_some, q4, Option.bind_some, q5, Option.bind_some, r5.2.2.2.1, n20]
  · refine nop (-1) ok (fun δ h => ?_) (fun δ h => ?_)
    · unfold f_Fp_feed
      rw [show gI δ 4 1 = nI (sN S) from h.2.2.2.1, if_neg (show ¬ nI (sN S) ≤ (380 : Int32) from nI_ge (a := 380) (by omega) (by omega))]
    · unfold f_Mo_feed
      rw [show gI δ 151 2 = nI (sN S) from h.2.2.2.1, show nI (sN S) + 20 = nI (sN S + 20) from nI_add _ 20, if_neg (show ¬ nI (sN S + 20) ≤ (400 : Int32) from nI_ge (a := 400) (by omega) (by omega))]
