/-! what makes cells: the constructors -/
def ZR (δ : Dm) (n : Nat) : Prop := ∀ b j, n ≤ b → gI δ b j = 0 ∧ gL δ b j = 0
theorem ZR.up {δ : Dm} {n m : Nat} (h : ZR δ n) (hm : n ≤ m) : ZR δ m := fun b j hb => h b j (Nat.le_trans hm hb)
theorem ZR.si {δ : Dm} {n a i : Nat} {v : Int32} (h : ZR δ n) (ha : a < n) : ZR (sI δ a i v) n := fun b j hb => ⟨by rw [gI_sI, if_neg (by omega)]; exact (h b j hb).1, (h b j hb).2⟩
theorem ZR.fl {δ : Dm} {n a N : Nat} {v : Int32} (h : ZR δ n) (ha : a < n) : ZR (flI δ a N v) n := fun b j hb => ⟨by show (if b = a ∧ j < N then v else δ.1 b j) = 0; rw [if_neg (by omega)]; exact (h b j hb).1, (h b j hb).2⟩
theorem zr_id {δ : Dm} {n : Nat} (h : ZR δ n) : zr δ n = δ := by
  refine Prod.ext ?_ ?_
  · funext b j
    show (if b = n then 0 else δ.1 b j) = δ.1 b j
    by_cases e : b = n
    · rw [if_pos e, e]; exact (h n j (Nat.le_refl _)).1.symm
    · rw [if_neg e]
  · funext b j
    show (if b = n then 0 else δ.2 b j) = δ.2 b j
    by_cases e : b = n
    · rw [if_pos e, e]; exact (h n j (Nat.le_refl _)).2.symm
    · rw [if_neg e]
/-- a row of references of which some are not there yet -/
def pr (R : Rm) (t : Nat) (L : List Nat) : Rm := fun b j => if b = t ∧ j ∈ L then none else R b j
theorem pr_ne {R : Rm} {t : Nat} {L : List Nat} {b : Nat} (j : Nat) (h : b ≠ t) : pr R t L b j = R b j := by simp [pr, h]
theorem pr_0 {R : Rm} {t : Nat} : pr R t [] = R := by funext b j; simp [pr]
theorem pr_clr {R : Rm} {t : Nat} (L : List Nat) (h : ∀ j, j ∉ L → R t j = none) : clr R t = pr R t L := by
  funext b j
  by_cases e : b = t
  · subst e
    by_cases hj : j ∈ L
    · simp [clr, pr, hj]
    · simp [clr, pr, hj, h j hj]
  · simp [clr, pr, e]
theorem pr_put {R : Rm} {t j v : Nat} {L : List Nat} (hv : R t j = some v) (hj : j ∉ L) : uR (pr R t (j :: L)) t j v = pr R t L := by
  funext b i
  by_cases e : b = t
  · subst e
    by_cases ei : i = j
    · subst ei; simp [uR, pr, hj, hv]
    · simp [uR, pr, ei]
  · simp [uR, pr, e]
theorem pr_put2 {R : Rm} {t w j v : Nat} {L M : List Nat} (hw : t ≠ w) (hv : R t j = some v) (hj : j ∉ L) : uR (pr (pr R t (j :: L)) w M) t j v = pr (pr R t L) w M := by
  funext b i
  by_cases e : b = t
  · subst e
    by_cases ei : i = j
    · subst ei; simp [uR, pr, hj, hv, hw]
    · simp [uR, pr, ei, hw]
  · by_cases e2 : b = w
    · subst e2; simp [uR, pr, e]
    · simp [uR, pr, e, e2]
theorem pr_new {R : Rm} {n : Nat} (h : ∀ j, R n j = none) : clr R n = R := by
  funext b j
  by_cases e : b = n
  · subst e; simp [clr, h]
  · simp [clr, e]
theorem gd_hi {α : Type} {l : List α} {j : Nat} {x : α} (h : l.length ≤ j) : l.getD j x = x := by simp [List.getD, h]
theorem RT_hi {t j : Nat} (ht : t ≠ 151) (h : 13 ≤ j) : RT t j = none := by
  have h1 : ∀ k, k < 164 → k ≠ 147 → (rtL.getD k []).length ≤ 13 := by decide +kernel
  have h2 : ∀ k, k < 57 → (rtT.getD k []).length ≤ 13 := by decide +kernel
  unfold RT
  by_cases q1 : t < 4
  · rw [if_pos q1]
  · rw [if_neg q1]
    by_cases q2 : t < 168
    · rw [if_pos q2]; exact gd_hi (Nat.le_trans (h1 (t - 4) (by omega) (by omega)) h)
    · rw [if_neg q2]
      by_cases q3 : t < 396
      · rw [if_pos q3, gd_hi (Nat.le_trans (h2 _ (Nat.mod_lt _ (by decide))) h)]; rfl
      · rw [if_neg q3]
theorem RT_hi2 {j : Nat} (h : 27 ≤ j) : RT 151 j = none := gd_hi (Nat.le_trans (by decide +kernel : (rtL.getD 147 []).length ≤ 27) h)
theorem rn_lit (a : Nat) (ha : a ≠ 151) (L : List Nat) (hL : ∀ j, j < 13 → j ∉ L → RT a j = none) : ∀ j, j ∉ L → RT a j = none := fun j hj => by
  rcases Nat.lt_or_ge j 13 with q | q
  · exact hL j q hj
  · exact RT_hi ha q
theorem rn_151 (L : List Nat) (hL : ∀ j, j < 27 → j ∉ L → RT 151 j = none) : ∀ j, j ∉ L → RT 151 j = none := fun j hj => by
  rcases Nat.lt_or_ge j 27 with q | q
  · exact hL j q hj
  · exact RT_hi2 q
theorem pr_get {R : Rm} {t j v : Nat} {L : List Nat} (hj : j ∉ L) (h : R t j = some v) : pr R t L t j = some v := by simp [pr, hj, h]
theorem pr_get2 {R : Rm} {t w j v : Nat} {L M : List Nat} (hw : t ≠ w) (hj : j ∉ L) (h : R t j = some v) : pr (pr R t L) w M t j = some v := by simp [pr, hj, h, hw]
theorem pr_get3 {R : Rm} {t w j v : Nat} {M : List Nat} (hw : t ≠ w) (h : R t j = some v) : pr R w M t j = some v := by simp [pr, h, hw]
section AMK
variable {α : Type} {k : MI} {d mc ms pc nc ns n n' : Nat} {lo : List (Nat × Value)} {st : List Value} {δ δ' : Dm} {R R' : Rm} {KK : α → Ans} {res : Option α}
theorem aw_cn (h : n = n') (hk : AWo k d mc ms pc lo st δ R n' nc ns KK res) : AWo k d mc ms pc lo st δ R n nc ns KK res := h ▸ hk
theorem aw_cD (h : δ = δ') (hk : AWo k d mc ms pc lo st δ' R n nc ns KK res) : AWo k d mc ms pc lo st δ R n nc ns KK res := h ▸ hk
theorem aw_cR (h : R = R') (hk : AWo k d mc ms pc lo st δ R' n nc ns KK res) : AWo k d mc ms pc lo st δ R n nc ns KK res := h ▸ hk
theorem aw_same {c : Prop} [Decidable c] (h : AWo k d mc ms pc lo st δ R n nc ns KK (if c then res else res)) : AWo k d mc ms pc lo st δ R n nc ns KK res := by rwa [ite_self] at h
theorem aw_tru {c : Prop} [Decidable c] (hc : c) (h : AWo k d mc ms pc lo st δ R n nc ns KK (if c then res else none)) : AWo k d mc ms pc lo st δ R n nc ns KK res := by rwa [if_pos hc] at h
end AMK
theorem rn_isL {t : Nat} (h : isL t = true) (i : Nat) (hi : i < 8) (L : List Nat) (hL : ∀ j, j < 13 → j ∉ L → (rt_isL.getD i []).getD j none = none) : ∀ j, j ∉ L → RT (t + i) j = none := fun j hj => by
  rcases Nat.lt_or_ge j 13 with q | q
  · rw [fx_isLR h i j hi q, hL j q hj]; rfl
  · exact RT_hi (by have := fx_isLlt h; simp only [isL, Bool.or_eq_true, Bool.and_eq_true, decide_eq_true_eq, beq_iff_eq] at h; omega) q
theorem rn_isB {t : Nat} (h : isB t = true) (i : Nat) (hi : i < 4) (L : List Nat) (hL : ∀ j, j < 13 → j ∉ L → (rt_isB.getD i []).getD j none = none) : ∀ j, j ∉ L → RT (t + i) j = none := fun j hj => by
  rcases Nat.lt_or_ge j 13 with q | q
  · rw [fx_isBR h i j hi q, hL j q hj]; rfl
  · exact RT_hi (by have := fx_isBlt h; simp only [isB, Bool.or_eq_true, Bool.and_eq_true, decide_eq_true_eq, beq_iff_eq] at h; omega) q
theorem rn_isT {t : Nat} (h : isT t = true) (i : Nat) (hi : i < 57) (L : List Nat) (hL : ∀ j, j < 13 → j ∉ L → (rt_isT.getD i []).getD j none = none) : ∀ j, j ∉ L → RT (t + i) j = none := fun j hj => by
  rcases Nat.lt_or_ge j 13 with q | q
  · rw [fx_isTR h i j hi q, hL j q hj]; rfl
  · exact RT_hi (by have := fx_isTlt h; simp only [isT, Bool.or_eq_true, Bool.and_eq_true, decide_eq_true_eq, beq_iff_eq] at h; omega) q
theorem isT_B : ∀ t, t < 396 → isT t = true → ∀ i, i < 8 → isB (t + 25 + 4 * i) = true := by decide +kernel
theorem isT_B2 {t : Nat} (h : isT t = true) (i : Nat) (hi : i < 8) : isB (t + 25 + 4 * i) = true := isT_B t (fx_isTlt h) h i hi
theorem aw_INu {α : Type} {k k1 : MI} {d d1 mc ms mc1 ms1 pc nc ns n idx np a n2 : Nat} {lo : List (Nat × Value)} {st st0 : List Value} {δ δ2 : Dm} {R R2 : Rm} {KK : α → Ans} {res : Option α} (As : List Value) (hM : AMet k1 d1 mc1 ms1 (.ref a :: As) δ R n (none, δ2, R2, n2)) (hc : CIn k.1.cls idx k1 np) (hret : k1.2.2.2 = none) (hn : As.length = np) (hst : st0 = (Value.ref a :: As).reverse ++ st) (hW : (st.map fun v => v.category).sum ≤ 8) (hd : d1 + 1 ≤ d ∧ k1.2.2.1 ≤ 40) (hm : nc + mc1 ≤ mc ∧ ns + ms1 ≤ ms) (hdg : decode k.2.1 pc = .ok (.invokespecial idx, 3)) (h : AWo k d mc ms (pc + 3) lo st δ2 R2 n2 (nc + mc1) (ns + ms1) KK res) : AWo k d mc ms pc lo st0 δ R n nc ns KK res :=
  aw_IN (f := some ()) (rest := fun _ => res) (K1 := fun _ : Unit => (none, δ2, R2, n2)) As (fun _ _ => hM) hc hret hn hst hW hd hm hdg (fun _ => h)
theorem aw_Iu {α : Type} {k k1 : MI} {d d1 mc ms mc1 ms1 pc nc ns n idx np a n2 : Nat} {lo : List (Nat × Value)} {st st0 : List Value} {δ δ2 : Dm} {R R2 : Rm} {KK : α → Ans} {res : Option α} (As : List Value) (hM : AMet k1 d1 mc1 ms1 (.ref a :: As) δ R n (none, δ2, R2, n2)) (hc : CIt k.1.cls idx k1 np) (hret : k1.2.2.2 = none) (hn : As.length = np) (hst : st0 = (Value.ref a :: As).reverse ++ st) (hW : (st.map fun v => v.category).sum ≤ 8) (hd : d1 + 1 ≤ d ∧ k1.2.2.1 ≤ 40) (hm : nc + mc1 ≤ mc ∧ ns + ms1 ≤ ms) (hdg : decode k.2.1 pc = .ok (.invokespecial idx, 3)) (h : AWo k d mc ms (pc + 3) lo st δ2 R2 n2 (nc + mc1) (ns + ms1) KK res) : AWo k d mc ms pc lo st0 δ R n nc ns KK res :=
  aw_I (f := some ()) (rest := fun _ => res) (K1 := fun _ : Unit => (none, δ2, R2, n2)) As (fun _ _ => hM) hc hret hn hst hW hd hm hdg (fun _ => h)
theorem aw_Su {α : Type} {k k1 : MI} {d d1 mc ms mc1 ms1 pc nc ns n idx np a n2 : Nat} {lo : List (Nat × Value)} {st st0 : List Value} {δ δ2 : Dm} {R R2 : Rm} {KK : α → Ans} {res : Option α} (As : List Value) (hM : AMet k1 d1 mc1 ms1 As δ R n (none, δ2, R2, n2)) (hc : CSt k.1.cls idx k1 np) (hn : As.length = np) (hst : st0 = As.reverse ++ st) (hW : (st.map fun v => v.category).sum ≤ 8) (hd : d1 + 1 ≤ d ∧ k1.2.2.1 ≤ 40) (hm : nc + mc1 ≤ mc ∧ ns + ms1 ≤ ms) (hdg : decode k.2.1 pc = .ok (.invokestatic idx, 3)) (h : AWo k d mc ms (pc + 3) lo st δ2 R2 n2 (nc + mc1) (ns + ms1) KK res) : AWo k d mc ms pc lo st0 δ R n nc ns KK res :=
  aw_S (f := some ()) (rest := fun _ => res) (K1 := fun _ : Unit => (none, δ2, R2, n2)) As (fun _ _ => hM) hc hn hst hW hd hm hdg (fun _ => h)
set_option maxHeartbeats 8000000 in
set_option maxRecDepth 100000 in
theorem mi_La {t : Nat} (ht : isL t = true) {δ : Dm} (hz : ZR δ t) {R : Rm} (hR : ∀ b j, t ≤ b → b < (t + 8) → R b j = RT b j) : AMet k_La_init 2 7 473 [.ref t] δ (clr R t) (t + 1) (none, δ, R, (t + 8)) := by
  have h4 : 4 ≤ t := KD_lo (by rw [show KD t = _ from fx_isLK ht 0 (by decide)]; decide)
  refine aw_start (KK := fun _ : Unit => (none, δ, R, (t + 8))) (res := some ()) (lo := [(0, .ref t)]) mok_La_init rfl (Nat.le_of_ble_eq_true rfl) ?_ () rfl
  refine aw_cR (pr_clr [2, 3, 4, 5, 6, 7, 8] (fun j hj => (hR _ j (by omega) (by omega)).trans ((rn_isL ht 0 (by decide) [2, 3, 4, 5, 6, 7, 8] (by decide)) j hj))) ?_
  refine aw_aload_n d_La_init_0 0 rfl ?_
  refine aw_objInit (own := "") oi_La_3 ob_1 ob_2 (Nat.le_of_ble_eq_true rfl) (by decide) d_La_init_1 ?_
  refine aw_aload_n d_La_init_4 0 rfl ?_
  refine aw_bipush d_La_init_5 kb_14 ?_
  refine aw_newa_int (fx_isLK ht 1 (by decide)) (by decide) (by decide) (Nat.le_of_ble_eq_true rfl) (Nat.le_of_ble_eq_true rfl) (Nat.le_of_ble_eq_true rfl) ac_int d_La_init_7 ?_
  refine aw_cD (zr_id (hz.up (by omega))) ?_
  refine aw_cR (pr_new (fun j => (pr_ne j (by omega)).trans ((hR _ j (by omega) (by omega)).trans ((rn_isL ht 1 (by decide) [] (by decide)) j (by simp))))) ?_
  refine aw_cn (n' := (t + 2)) (by omega) ?_
  refine aw_putR pf_La_11 (fun _ => rfl) (fun _ => rfl) (fun _ => rfl) (by omega) (fx_isLK ht 0 (by decide)) d_La_init_9 ?_
  refine aw_cR (pr_put ((hR _ _ (by omega) (by omega)).trans (fx_isLR ht 0 2 (by decide) (by decide))) (by decide)) ?_
  refine aw_aload_n d_La_init_12 0 rfl ?_
  refine aw_bipush d_La_init_13 kb_14 ?_
  refine aw_newa_int (fx_isLK ht 2 (by decide)) (by decide) (by decide) (Nat.le_of_ble_eq_true rfl) (Nat.le_of_ble_eq_true rfl) (Nat.le_of_ble_eq_true rfl) ac_int d_La_init_15 ?_
  refine aw_cD (zr_id (hz.up (by omega))) ?_
  refine aw_cR (pr_new (fun j => (pr_ne j (by omega)).trans ((hR _ j (by omega) (by omega)).trans ((rn_isL ht 2 (by decide) [] (by decide)) j (by simp))))) ?_
  refine aw_cn (n' := (t + 3)) (by omega) ?_
  refine aw_putR pf_La_15 (fun _ => rfl) (fun _ => rfl) (fun _ => rfl) (by omega) (fx_isLK ht 0 (by decide)) d_La_init_17 ?_
  refine aw_cR (pr_put ((hR _ _ (by omega) (by omega)).trans (fx_isLR ht 0 3 (by decide) (by decide))) (by decide)) ?_
  refine aw_aload_n d_La_init_20 0 rfl ?_
  refine aw_bipush d_La_init_21 kb_14 ?_
  refine aw_newa_int (fx_isLK ht 3 (by decide)) (by decide) (by decide) (Nat.le_of_ble_eq_true rfl) (Nat.le_of_ble_eq_true rfl) (Nat.le_of_ble_eq_true rfl) ac_int d_La_init_23 ?_
  refine aw_cD (zr_id (hz.up (by omega))) ?_
  refine aw_cR (pr_new (fun j => (pr_ne j (by omega)).trans ((hR _ j (by omega) (by omega)).trans ((rn_isL ht 3 (by decide) [] (by decide)) j (by simp))))) ?_
  refine aw_cn (n' := (t + 4)) (by omega) ?_
  refine aw_putR pf_La_18 (fun _ => rfl) (fun _ => rfl) (fun _ => rfl) (by omega) (fx_isLK ht 0 (by decide)) d_La_init_25 ?_
  refine aw_cR (pr_put ((hR _ _ (by omega) (by omega)).trans (fx_isLR ht 0 4 (by decide) (by decide))) (by decide)) ?_
  refine aw_aload_n d_La_init_28 0 rfl ?_
  refine aw_bipush d_La_init_29 kb_14 ?_
  refine aw_newa_int (fx_isLK ht 4 (by decide)) (by decide) (by decide) (Nat.le_of_ble_eq_true rfl) (Nat.le_of_ble_eq_true rfl) (Nat.le_of_ble_eq_true rfl) ac_int d_La_init_31 ?_
  refine aw_cD (zr_id (hz.up (by omega))) ?_
  refine aw_cR (pr_new (fun j => (pr_ne j (by omega)).trans ((hR _ j (by omega) (by omega)).trans ((rn_isL ht 4 (by decide) [] (by decide)) j (by simp))))) ?_
  refine aw_cn (n' := (t + 5)) (by omega) ?_
  refine aw_putR pf_La_21 (fun _ => rfl) (fun _ => rfl) (fun _ => rfl) (by omega) (fx_isLK ht 0 (by decide)) d_La_init_33 ?_
  refine aw_cR (pr_put ((hR _ _ (by omega) (by omega)).trans (fx_isLR ht 0 5 (by decide) (by decide))) (by decide)) ?_
  refine aw_aload_n d_La_init_36 0 rfl ?_
  refine aw_bipush d_La_init_37 kb_14 ?_
  refine aw_newa_int (fx_isLK ht 5 (by decide)) (by decide) (by decide) (Nat.le_of_ble_eq_true rfl) (Nat.le_of_ble_eq_true rfl) (Nat.le_of_ble_eq_true rfl) ac_int d_La_init_39 ?_
  refine aw_cD (zr_id (hz.up (by omega))) ?_
  refine aw_cR (pr_new (fun j => (pr_ne j (by omega)).trans ((hR _ j (by omega) (by omega)).trans ((rn_isL ht 5 (by decide) [] (by decide)) j (by simp))))) ?_
  refine aw_cn (n' := (t + 6)) (by omega) ?_
  refine aw_putR pf_La_24 (fun _ => rfl) (fun _ => rfl) (fun _ => rfl) (by omega) (fx_isLK ht 0 (by decide)) d_La_init_41 ?_
  refine aw_cR (pr_put ((hR _ _ (by omega) (by omega)).trans (fx_isLR ht 0 6 (by decide) (by decide))) (by decide)) ?_
  refine aw_aload_n d_La_init_44 0 rfl ?_
  refine aw_iconst d_La_init_45 ki_3 ?_
  refine aw_newa_int (fx_isLK ht 6 (by decide)) (by decide) (by decide) (Nat.le_of_ble_eq_true rfl) (Nat.le_of_ble_eq_true rfl) (Nat.le_of_ble_eq_true rfl) ac_int d_La_init_46 ?_
  refine aw_cD (zr_id (hz.up (by omega))) ?_
  refine aw_cR (pr_new (fun j => (pr_ne j (by omega)).trans ((hR _ j (by omega) (by omega)).trans ((rn_isL ht 6 (by decide) [] (by decide)) j (by simp))))) ?_
  refine aw_cn (n' := (t + 7)) (by omega) ?_
  refine aw_putR pf_La_27 (fun _ => rfl) (fun _ => rfl) (fun _ => rfl) (by omega) (fx_isLK ht 0 (by decide)) d_La_init_48 ?_
  refine aw_cR (pr_put ((hR _ _ (by omega) (by omega)).trans (fx_isLR ht 0 7 (by decide) (by decide))) (by decide)) ?_
  refine aw_aload_n d_La_init_51 0 rfl ?_
  refine aw_sipush d_La_init_52 ks_400 ?_
  refine aw_newa_int (fx_isLK ht 7 (by decide)) (by decide) (by decide) (Nat.le_of_ble_eq_true rfl) (Nat.le_of_ble_eq_true rfl) (Nat.le_of_ble_eq_true rfl) ac_int d_La_init_55 ?_
  refine aw_cD (zr_id (hz.up (by omega))) ?_
  refine aw_cR (pr_new (fun j => (pr_ne j (by omega)).trans ((hR _ j (by omega) (by omega)).trans ((rn_isL ht 7 (by decide) [] (by decide)) j (by simp))))) ?_
  refine aw_cn (n' := (t + 8)) (by omega) ?_
  refine aw_putR pf_La_30 (fun _ => rfl) (fun _ => rfl) (fun _ => rfl) (by omega) (fx_isLK ht 0 (by decide)) d_La_init_57 ?_
  refine aw_cR (pr_put ((hR _ _ (by omega) (by omega)).trans (fx_isLR ht 0 8 (by decide) (by decide))) (by decide)) ?_
  refine aw_cR pr_0 ?_
  exact aw_vret rfl rfl ⟨Nat.le_of_ble_eq_true rfl, Nat.le_of_ble_eq_true rfl⟩ d_La_init_60

set_option maxHeartbeats 8000000 in
set_option maxRecDepth 100000 in
theorem mi_La11 {δ : Dm} (hz : ZR δ 11) {R : Rm} (hR : ∀ b j, 11 ≤ b → b < 19 → R b j = RT b j) : AMet k_La_init 2 7 473 [.ref 11] δ (clr R 11) 12 (none, δ, R, 19) := by
  refine aw_start (KK := fun _ : Unit => (none, δ, R, 19)) (res := some ()) (lo := [(0, .ref 11)]) mok_La_init rfl (Nat.le_of_ble_eq_true rfl) ?_ () rfl
  refine aw_cR (pr_clr [2, 3, 4, 5, 6, 7, 8] (fun j hj => (hR _ j (by omega) (by omega)).trans ((rn_lit 11 (by decide) [2, 3, 4, 5, 6, 7, 8] (by decide +kernel)) j hj))) ?_
  refine aw_aload_n d_La_init_0 0 rfl ?_
  refine aw_objInit (own := "") oi_La_3 ob_1 ob_2 (Nat.le_of_ble_eq_true rfl) (by decide) d_La_init_1 ?_
  refine aw_aload_n d_La_init_4 0 rfl ?_
  refine aw_bipush d_La_init_5 kb_14 ?_
  refine aw_newa_int kd_12 (by decide) (by decide) (Nat.le_of_ble_eq_true rfl) (Nat.le_of_ble_eq_true rfl) (Nat.le_of_ble_eq_true rfl) ac_int d_La_init_7 ?_
  refine aw_cD (zr_id (hz.up (by omega))) ?_
  refine aw_cR (pr_new (fun j => (pr_ne j (by omega)).trans ((hR _ j (by omega) (by omega)).trans ((rn_lit 12 (by decide) [] (by decide +kernel)) j (by simp))))) ?_
  refine aw_cn (n' := 13) (by omega) ?_
  refine aw_putR pf_La_11 (fun _ => rfl) (fun _ => rfl) (fun _ => rfl) (by omega) kd_11 d_La_init_9 ?_
  refine aw_cR (pr_put ((hR _ _ (by omega) (by omega)).trans rt_11_2) (by decide)) ?_
  refine aw_aload_n d_La_init_12 0 rfl ?_
  refine aw_bipush d_La_init_13 kb_14 ?_
  refine aw_newa_int kd_13 (by decide) (by decide) (Nat.le_of_ble_eq_true rfl) (Nat.le_of_ble_eq_true rfl) (Nat.le_of_ble_eq_true rfl) ac_int d_La_init_15 ?_
  refine aw_cD (zr_id (hz.up (by omega))) ?_
  refine aw_cR (pr_new (fun j => (pr_ne j (by omega)).trans ((hR _ j (by omega) (by omega)).trans ((rn_lit 13 (by decide) [] (by decide +kernel)) j (by simp))))) ?_
  refine aw_cn (n' := 14) (by omega) ?_
  refine aw_putR pf_La_15 (fun _ => rfl) (fun _ => rfl) (fun _ => rfl) (by omega) kd_11 d_La_init_17 ?_
  refine aw_cR (pr_put ((hR _ _ (by omega) (by omega)).trans rt_11_3) (by decide)) ?_
  refine aw_aload_n d_La_init_20 0 rfl ?_
  refine aw_bipush d_La_init_21 kb_14 ?_
  refine aw_newa_int kd_14 (by decide) (by decide) (Nat.le_of_ble_eq_true rfl) (Nat.le_of_ble_eq_true rfl) (Nat.le_of_ble_eq_true rfl) ac_int d_La_init_23 ?_
  refine aw_cD (zr_id (hz.up (by omega))) ?_
  refine aw_cR (pr_new (fun j => (pr_ne j (by omega)).trans ((hR _ j (by omega) (by omega)).trans ((rn_lit 14 (by decide) [] (by decide +kernel)) j (by simp))))) ?_
  refine aw_cn (n' := 15) (by omega) ?_
  refine aw_putR pf_La_18 (fun _ => rfl) (fun _ => rfl) (fun _ => rfl) (by omega) kd_11 d_La_init_25 ?_
  refine aw_cR (pr_put ((hR _ _ (by omega) (by omega)).trans rt_11_4) (by decide)) ?_
  refine aw_aload_n d_La_init_28 0 rfl ?_
  refine aw_bipush d_La_init_29 kb_14 ?_
  refine aw_newa_int kd_15 (by decide) (by decide) (Nat.le_of_ble_eq_true rfl) (Nat.le_of_ble_eq_true rfl) (Nat.le_of_ble_eq_true rfl) ac_int d_La_init_31 ?_
  refine aw_cD (zr_id (hz.up (by omega))) ?_
  refine aw_cR (pr_new (fun j => (pr_ne j (by omega)).trans ((hR _ j (by omega) (by omega)).trans ((rn_lit 15 (by decide) [] (by decide +kernel)) j (by simp))))) ?_
  refine aw_cn (n' := 16) (by omega) ?_
  refine aw_putR pf_La_21 (fun _ => rfl) (fun _ => rfl) (fun _ => rfl) (by omega) kd_11 d_La_init_33 ?_
  refine aw_cR (pr_put ((hR _ _ (by omega) (by omega)).trans rt_11_5) (by decide)) ?_
  refine aw_aload_n d_La_init_36 0 rfl ?_
  refine aw_bipush d_La_init_37 kb_14 ?_
  refine aw_newa_int kd_16 (by decide) (by decide) (Nat.le_of_ble_eq_true rfl) (Nat.le_of_ble_eq_true rfl) (Nat.le_of_ble_eq_true rfl) ac_int d_La_init_39 ?_
  refine aw_cD (zr_id (hz.up (by omega))) ?_
  refine aw_cR (pr_new (fun j => (pr_ne j (by omega)).trans ((hR _ j (by omega) (by omega)).trans ((rn_lit 16 (by decide) [] (by decide +kernel)) j (by simp))))) ?_
  refine aw_cn (n' := 17) (by omega) ?_
  refine aw_putR pf_La_24 (fun _ => rfl) (fun _ => rfl) (fun _ => rfl) (by omega) kd_11 d_La_init_41 ?_
  refine aw_cR (pr_put ((hR _ _ (by omega) (by omega)).trans rt_11_6) (by decide)) ?_
  refine aw_aload_n d_La_init_44 0 rfl ?_
  refine aw_iconst d_La_init_45 ki_3 ?_
  refine aw_newa_int kd_17 (by decide) (by decide) (Nat.le_of_ble_eq_true rfl) (Nat.le_of_ble_eq_true rfl) (Nat.le_of_ble_eq_true rfl) ac_int d_La_init_46 ?_
  refine aw_cD (zr_id (hz.up (by omega))) ?_
  refine aw_cR (pr_new (fun j => (pr_ne j (by omega)).trans ((hR _ j (by omega) (by omega)).trans ((rn_lit 17 (by decide) [] (by decide +kernel)) j (by simp))))) ?_
  refine aw_cn (n' := 18) (by omega) ?_
  refine aw_putR pf_La_27 (fun _ => rfl) (fun _ => rfl) (fun _ => rfl) (by omega) kd_11 d_La_init_48 ?_
  refine aw_cR (pr_put ((hR _ _ (by omega) (by omega)).trans rt_11_7) (by decide)) ?_
  refine aw_aload_n d_La_init_51 0 rfl ?_
  refine aw_sipush d_La_init_52 ks_400 ?_
  refine aw_newa_int kd_18 (by decide) (by decide) (Nat.le_of_ble_eq_true rfl) (Nat.le_of_ble_eq_true rfl) (Nat.le_of_ble_eq_true rfl) ac_int d_La_init_55 ?_
  refine aw_cD (zr_id (hz.up (by omega))) ?_
  refine aw_cR (pr_new (fun j => (pr_ne j (by omega)).trans ((hR _ j (by omega) (by omega)).trans ((rn_lit 18 (by decide) [] (by decide +kernel)) j (by simp))))) ?_
  refine aw_cn (n' := 19) (by omega) ?_
  refine aw_putR pf_La_30 (fun _ => rfl) (fun _ => rfl) (fun _ => rfl) (by omega) kd_11 d_La_init_57 ?_
  refine aw_cR (pr_put ((hR _ _ (by omega) (by omega)).trans rt_11_8) (by decide)) ?_
  refine aw_cR pr_0 ?_
  exact aw_vret rfl rfl ⟨Nat.le_of_ble_eq_true rfl, Nat.le_of_ble_eq_true rfl⟩ d_La_init_60

set_option maxHeartbeats 8000000 in
set_option maxRecDepth 100000 in
theorem mi_Bo {t : Nat} (ht : isB t = true) {δ : Dm} (hz : ZR δ t) {R : Rm} (hR : ∀ b j, t ≤ b → b < (t + 4) → R b j = RT b j) : AMet k_Bo_init 2 3 27 [.ref t] δ (clr R t) (t + 1) (none, δ, R, (t + 4)) := by
  have h4 : 4 ≤ t := KD_lo (by rw [show KD t = _ from fx_isBK ht 0 (by decide)]; decide)
  refine aw_start (KK := fun _ : Unit => (none, δ, R, (t + 4))) (res := some ()) (lo := [(0, .ref t)]) mok_Bo_init rfl (Nat.le_of_ble_eq_true rfl) ?_ () rfl
  refine aw_cR (pr_clr [9, 10, 11] (fun j hj => (hR _ j (by omega) (by omega)).trans ((rn_isB ht 0 (by decide) [9, 10, 11] (by decide)) j hj))) ?_
  refine aw_aload_n d_Bo_init_0 0 rfl ?_
  refine aw_objInit (own := "") oi_Bo_3 ob_1 ob_2 (Nat.le_of_ble_eq_true rfl) (by decide) d_Bo_init_1 ?_
  refine aw_aload_n d_Bo_init_4 0 rfl ?_
  refine aw_iconst d_Bo_init_5 ki_3 ?_
  refine aw_newa_int (fx_isBK ht 1 (by decide)) (by decide) (by decide) (Nat.le_of_ble_eq_true rfl) (Nat.le_of_ble_eq_true rfl) (Nat.le_of_ble_eq_true rfl) ac_int d_Bo_init_6 ?_
  refine aw_cD (zr_id (hz.up (by omega))) ?_
  refine aw_cR (pr_new (fun j => (pr_ne j (by omega)).trans ((hR _ j (by omega) (by omega)).trans ((rn_isB ht 1 (by decide) [] (by decide)) j (by simp))))) ?_
  refine aw_cn (n' := (t + 2)) (by omega) ?_
  refine aw_putR pf_Bo_9 (fun _ => rfl) (fun _ => rfl) (fun _ => rfl) (by omega) (fx_isBK ht 0 (by decide)) d_Bo_init_8 ?_
  refine aw_cR (pr_put ((hR _ _ (by omega) (by omega)).trans (fx_isBR ht 0 9 (by decide) (by decide))) (by decide)) ?_
  refine aw_aload_n d_Bo_init_11 0 rfl ?_
  refine aw_bipush d_Bo_init_12 kb_12 ?_
  refine aw_newa_int (fx_isBK ht 2 (by decide)) (by decide) (by decide) (Nat.le_of_ble_eq_true rfl) (Nat.le_of_ble_eq_true rfl) (Nat.le_of_ble_eq_true rfl) ac_int d_Bo_init_14 ?_
  refine aw_cD (zr_id (hz.up (by omega))) ?_
  refine aw_cR (pr_new (fun j => (pr_ne j (by omega)).trans ((hR _ j (by omega) (by omega)).trans ((rn_isB ht 2 (by decide) [] (by decide)) j (by simp))))) ?_
  refine aw_cn (n' := (t + 3)) (by omega) ?_
  refine aw_putR pf_Bo_15 (fun _ => rfl) (fun _ => rfl) (fun _ => rfl) (by omega) (fx_isBK ht 0 (by decide)) d_Bo_init_16 ?_
  refine aw_cR (pr_put ((hR _ _ (by omega) (by omega)).trans (fx_isBR ht 0 10 (by decide) (by decide))) (by decide)) ?_
  refine aw_aload_n d_Bo_init_19 0 rfl ?_
  refine aw_bipush d_Bo_init_20 kb_12 ?_
  refine aw_newa_int (fx_isBK ht 3 (by decide)) (by decide) (by decide) (Nat.le_of_ble_eq_true rfl) (Nat.le_of_ble_eq_true rfl) (Nat.le_of_ble_eq_true rfl) ac_int d_Bo_init_22 ?_
  refine aw_cD (zr_id (hz.up (by omega))) ?_
  refine aw_cR (pr_new (fun j => (pr_ne j (by omega)).trans ((hR _ j (by omega) (by omega)).trans ((rn_isB ht 3 (by decide) [] (by decide)) j (by simp))))) ?_
  refine aw_cn (n' := (t + 4)) (by omega) ?_
  refine aw_putR pf_Bo_18 (fun _ => rfl) (fun _ => rfl) (fun _ => rfl) (by omega) (fx_isBK ht 0 (by decide)) d_Bo_init_24 ?_
  refine aw_cR (pr_put ((hR _ _ (by omega) (by omega)).trans (fx_isBR ht 0 11 (by decide) (by decide))) (by decide)) ?_
  refine aw_cR pr_0 ?_
  exact aw_vret rfl rfl ⟨Nat.le_of_ble_eq_true rfl, Nat.le_of_ble_eq_true rfl⟩ d_Bo_init_27

set_option maxHeartbeats 8000000 in
set_option maxRecDepth 100000 in
theorem mi_Di {t : Nat} (ht : isT t = true) {δ : Dm} (hz : ZR δ (t + 5)) {R : Rm} (hR : ∀ b j, (t + 5) ≤ b → b < (t + 16) → R b j = RT b j) : AMet k_Di_init 2 10 5500 [.ref (t + 5)] δ (clr R (t + 5)) (t + 6) (none, δ, R, (t + 16)) := by
  have h4 : 4 ≤ t := KD_lo (by rw [show KD t = _ from fx_isTK ht 0 (by decide)]; decide)
  refine aw_start (KK := fun _ : Unit => (none, δ, R, (t + 16))) (res := some ()) (lo := [(0, .ref (t + 5))]) mok_Di_init rfl (Nat.le_of_ble_eq_true rfl) ?_ () rfl
  refine aw_cR (pr_clr [3, 4, 5, 6, 7, 8, 9, 10, 11, 12] (fun j hj => (hR _ j (by omega) (by omega)).trans ((rn_isT ht 5 (by decide) [3, 4, 5, 6, 7, 8, 9, 10, 11, 12] (by decide)) j hj))) ?_
  refine aw_aload_n d_Di_init_0 0 rfl ?_
  refine aw_objInit (own := "") oi_Di_5 ob_1 ob_2 (Nat.le_of_ble_eq_true rfl) (by decide) d_Di_init_1 ?_
  refine aw_aload_n d_Di_init_4 0 rfl ?_
  refine aw_sipush d_Di_init_5 ks_400 ?_
  refine aw_newa_int (fx_isTK ht 6 (by decide)) (by decide) (by decide) (Nat.le_of_ble_eq_true rfl) (Nat.le_of_ble_eq_true rfl) (Nat.le_of_ble_eq_true rfl) ac_int d_Di_init_8 ?_
  refine aw_cD (zr_id (hz.up (by omega))) ?_
  refine aw_cR (pr_new (fun j => (pr_ne j (by omega)).trans ((hR _ j (by omega) (by omega)).trans ((rn_isT ht 6 (by decide) [] (by decide)) j (by simp))))) ?_
  refine aw_cn (n' := (t + 7)) (by omega) ?_
  refine aw_putR pf_Di_11 (fun _ => rfl) (fun _ => rfl) (fun _ => rfl) (by omega) (fx_isTK ht 5 (by decide)) d_Di_init_10 ?_
  refine aw_cR (pr_put ((hR _ _ (by omega) (by omega)).trans (fx_isTR ht 5 3 (by decide) (by decide))) (by decide)) ?_
  refine aw_aload_n d_Di_init_13 0 rfl ?_
  refine aw_sipush d_Di_init_14 ks_400 ?_
  refine aw_newa_int (fx_isTK ht 7 (by decide)) (by decide) (by decide) (Nat.le_of_ble_eq_true rfl) (Nat.le_of_ble_eq_true rfl) (Nat.le_of_ble_eq_true rfl) ac_int d_Di_init_17 ?_
  refine aw_cD (zr_id (hz.up (by omega))) ?_
  refine aw_cR (pr_new (fun j => (pr_ne j (by omega)).trans ((hR _ j (by omega) (by omega)).trans ((rn_isT ht 7 (by decide) [] (by decide)) j (by simp))))) ?_
  refine aw_cn (n' := (t + 8)) (by omega) ?_
  refine aw_putR pf_Di_15 (fun _ => rfl) (fun _ => rfl) (fun _ => rfl) (by omega) (fx_isTK ht 5 (by decide)) d_Di_init_19 ?_
  refine aw_cR (pr_put ((hR _ _ (by omega) (by omega)).trans (fx_isTR ht 5 4 (by decide) (by decide))) (by decide)) ?_
  refine aw_aload_n d_Di_init_22 0 rfl ?_
  refine aw_sipush d_Di_init_23 ks_400 ?_
  refine aw_newa_int (fx_isTK ht 8 (by decide)) (by decide) (by decide) (Nat.le_of_ble_eq_true rfl) (Nat.le_of_ble_eq_true rfl) (Nat.le_of_ble_eq_true rfl) ac_int d_Di_init_26 ?_
  refine aw_cD (zr_id (hz.up (by omega))) ?_
  refine aw_cR (pr_new (fun j => (pr_ne j (by omega)).trans ((hR _ j (by omega) (by omega)).trans ((rn_isT ht 8 (by decide) [] (by decide)) j (by simp))))) ?_
  refine aw_cn (n' := (t + 9)) (by omega) ?_
  refine aw_putR pf_Di_18 (fun _ => rfl) (fun _ => rfl) (fun _ => rfl) (by omega) (fx_isTK ht 5 (by decide)) d_Di_init_28 ?_
  refine aw_cR (pr_put ((hR _ _ (by omega) (by omega)).trans (fx_isTR ht 5 5 (by decide) (by decide))) (by decide)) ?_
  refine aw_aload_n d_Di_init_31 0 rfl ?_
  refine aw_sipush d_Di_init_32 ks_400 ?_
  refine aw_newa_int (fx_isTK ht 9 (by decide)) (by decide) (by decide) (Nat.le_of_ble_eq_true rfl) (Nat.le_of_ble_eq_true rfl) (Nat.le_of_ble_eq_true rfl) ac_int d_Di_init_35 ?_
  refine aw_cD (zr_id (hz.up (by omega))) ?_
  refine aw_cR (pr_new (fun j => (pr_ne j (by omega)).trans ((hR _ j (by omega) (by omega)).trans ((rn_isT ht 9 (by decide) [] (by decide)) j (by simp))))) ?_
  refine aw_cn (n' := (t + 10)) (by omega) ?_
  refine aw_putR pf_Di_21 (fun _ => rfl) (fun _ => rfl) (fun _ => rfl) (by omega) (fx_isTK ht 5 (by decide)) d_Di_init_37 ?_
  refine aw_cR (pr_put ((hR _ _ (by omega) (by omega)).trans (fx_isTR ht 5 6 (by decide) (by decide))) (by decide)) ?_
  refine aw_aload_n d_Di_init_40 0 rfl ?_
  refine aw_sipush d_Di_init_41 ks_400 ?_
  refine aw_newa_int (fx_isTK ht 10 (by decide)) (by decide) (by decide) (Nat.le_of_ble_eq_true rfl) (Nat.le_of_ble_eq_true rfl) (Nat.le_of_ble_eq_true rfl) ac_int d_Di_init_44 ?_
  refine aw_cD (zr_id (hz.up (by omega))) ?_
  refine aw_cR (pr_new (fun j => (pr_ne j (by omega)).trans ((hR _ j (by omega) (by omega)).trans ((rn_isT ht 10 (by decide) [] (by decide)) j (by simp))))) ?_
  refine aw_cn (n' := (t + 11)) (by omega) ?_
  refine aw_putR pf_Di_24 (fun _ => rfl) (fun _ => rfl) (fun _ => rfl) (by omega) (fx_isTK ht 5 (by decide)) d_Di_init_46 ?_
  refine aw_cR (pr_put ((hR _ _ (by omega) (by omega)).trans (fx_isTR ht 5 7 (by decide) (by decide))) (by decide)) ?_
  refine aw_aload_n d_Di_init_49 0 rfl ?_
  refine aw_sipush d_Di_init_50 ks_400 ?_
  refine aw_newa_int (fx_isTK ht 11 (by decide)) (by decide) (by decide) (Nat.le_of_ble_eq_true rfl) (Nat.le_of_ble_eq_true rfl) (Nat.le_of_ble_eq_true rfl) ac_int d_Di_init_53 ?_
  refine aw_cD (zr_id (hz.up (by omega))) ?_
  refine aw_cR (pr_new (fun j => (pr_ne j (by omega)).trans ((hR _ j (by omega) (by omega)).trans ((rn_isT ht 11 (by decide) [] (by decide)) j (by simp))))) ?_
  refine aw_cn (n' := (t + 12)) (by omega) ?_
  refine aw_putR pf_Di_27 (fun _ => rfl) (fun _ => rfl) (fun _ => rfl) (by omega) (fx_isTK ht 5 (by decide)) d_Di_init_55 ?_
  refine aw_cR (pr_put ((hR _ _ (by omega) (by omega)).trans (fx_isTR ht 5 8 (by decide) (by decide))) (by decide)) ?_
  refine aw_aload_n d_Di_init_58 0 rfl ?_
  refine aw_sipush d_Di_init_59 ks_400 ?_
  refine aw_newa_int (fx_isTK ht 12 (by decide)) (by decide) (by decide) (Nat.le_of_ble_eq_true rfl) (Nat.le_of_ble_eq_true rfl) (Nat.le_of_ble_eq_true rfl) ac_int d_Di_init_62 ?_
  refine aw_cD (zr_id (hz.up (by omega))) ?_
  refine aw_cR (pr_new (fun j => (pr_ne j (by omega)).trans ((hR _ j (by omega) (by omega)).trans ((rn_isT ht 12 (by decide) [] (by decide)) j (by simp))))) ?_
  refine aw_cn (n' := (t + 13)) (by omega) ?_
  refine aw_putR pf_Di_30 (fun _ => rfl) (fun _ => rfl) (fun _ => rfl) (by omega) (fx_isTK ht 5 (by decide)) d_Di_init_64 ?_
  refine aw_cR (pr_put ((hR _ _ (by omega) (by omega)).trans (fx_isTR ht 5 9 (by decide) (by decide))) (by decide)) ?_
  refine aw_aload_n d_Di_init_67 0 rfl ?_
  refine aw_sipush d_Di_init_68 ks_900 ?_
  refine aw_newa_int (fx_isTK ht 13 (by decide)) (by decide) (by decide) (Nat.le_of_ble_eq_true rfl) (Nat.le_of_ble_eq_true rfl) (Nat.le_of_ble_eq_true rfl) ac_int d_Di_init_71 ?_
  refine aw_cD (zr_id (hz.up (by omega))) ?_
  refine aw_cR (pr_new (fun j => (pr_ne j (by omega)).trans ((hR _ j (by omega) (by omega)).trans ((rn_isT ht 13 (by decide) [] (by decide)) j (by simp))))) ?_
  refine aw_cn (n' := (t + 14)) (by omega) ?_
  refine aw_putR pf_Di_33 (fun _ => rfl) (fun _ => rfl) (fun _ => rfl) (by omega) (fx_isTK ht 5 (by decide)) d_Di_init_73 ?_
  refine aw_cR (pr_put ((hR _ _ (by omega) (by omega)).trans (fx_isTR ht 5 10 (by decide) (by decide))) (by decide)) ?_
  refine aw_aload_n d_Di_init_76 0 rfl ?_
  refine aw_sipush d_Di_init_77 ks_900 ?_
  refine aw_newa_int (fx_isTK ht 14 (by decide)) (by decide) (by decide) (Nat.le_of_ble_eq_true rfl) (Nat.le_of_ble_eq_true rfl) (Nat.le_of_ble_eq_true rfl) ac_int d_Di_init_80 ?_
  refine aw_cD (zr_id (hz.up (by omega))) ?_
  refine aw_cR (pr_new (fun j => (pr_ne j (by omega)).trans ((hR _ j (by omega) (by omega)).trans ((rn_isT ht 14 (by decide) [] (by decide)) j (by simp))))) ?_
  refine aw_cn (n' := (t + 15)) (by omega) ?_
  refine aw_putR pf_Di_36 (fun _ => rfl) (fun _ => rfl) (fun _ => rfl) (by omega) (fx_isTK ht 5 (by decide)) d_Di_init_82 ?_
  refine aw_cR (pr_put ((hR _ _ (by omega) (by omega)).trans (fx_isTR ht 5 11 (by decide) (by decide))) (by decide)) ?_
  refine aw_aload_n d_Di_init_85 0 rfl ?_
  refine aw_sipush d_Di_init_86 ks_900 ?_
  refine aw_newa_int (fx_isTK ht 15 (by decide)) (by decide) (by decide) (Nat.le_of_ble_eq_true rfl) (Nat.le_of_ble_eq_true rfl) (Nat.le_of_ble_eq_true rfl) ac_int d_Di_init_89 ?_
  refine aw_cD (zr_id (hz.up (by omega))) ?_
  refine aw_cR (pr_new (fun j => (pr_ne j (by omega)).trans ((hR _ j (by omega) (by omega)).trans ((rn_isT ht 15 (by decide) [] (by decide)) j (by simp))))) ?_
  refine aw_cn (n' := (t + 16)) (by omega) ?_
  refine aw_putR pf_Di_39 (fun _ => rfl) (fun _ => rfl) (fun _ => rfl) (by omega) (fx_isTK ht 5 (by decide)) d_Di_init_91 ?_
  refine aw_cR (pr_put ((hR _ _ (by omega) (by omega)).trans (fx_isTR ht 5 12 (by decide) (by decide))) (by decide)) ?_
  refine aw_cR pr_0 ?_
  exact aw_vret rfl rfl ⟨Nat.le_of_ble_eq_true rfl, Nat.le_of_ble_eq_true rfl⟩ d_Di_init_94

set_option maxHeartbeats 8000000 in
set_option maxRecDepth 100000 in
theorem mi_Po {t : Nat} (ht : isT t = true) {δ : Dm} (hz : ZR δ (t + 16)) {R : Rm} (hR : ∀ b j, (t + 16) ≤ b → b < (t + 25) → R b j = RT b j) : AMet k_Po_init 2 8 800 [.ref (t + 16)] δ (clr R (t + 16)) (t + 17) (none, δ, R, (t + 25)) := by
  have h4 : 4 ≤ t := KD_lo (by rw [show KD t = _ from fx_isTK ht 0 (by decide)]; decide)
  refine aw_start (KK := fun _ : Unit => (none, δ, R, (t + 25))) (res := some ()) (lo := [(0, .ref (t + 16))]) mok_Po_init rfl (Nat.le_of_ble_eq_true rfl) ?_ () rfl
  refine aw_cR (pr_clr [2, 3, 4, 5, 6, 7, 8, 9] (fun j hj => (hR _ j (by omega) (by omega)).trans ((rn_isT ht 16 (by decide) [2, 3, 4, 5, 6, 7, 8, 9] (by decide)) j hj))) ?_
  refine aw_aload_n d_Po_init_0 0 rfl ?_
  refine aw_objInit (own := "") oi_Po_3 ob_1 ob_2 (Nat.le_of_ble_eq_true rfl) (by decide) d_Po_init_1 ?_
  refine aw_aload_n d_Po_init_4 0 rfl ?_
  refine aw_bipush d_Po_init_5 kb_100 ?_
  refine aw_newa_int (fx_isTK ht 17 (by decide)) (by decide) (by decide) (Nat.le_of_ble_eq_true rfl) (Nat.le_of_ble_eq_true rfl) (Nat.le_of_ble_eq_true rfl) ac_int d_Po_init_7 ?_
  refine aw_cD (zr_id (hz.up (by omega))) ?_
  refine aw_cR (pr_new (fun j => (pr_ne j (by omega)).trans ((hR _ j (by omega) (by omega)).trans ((rn_isT ht 17 (by decide) [] (by decide)) j (by simp))))) ?_
  refine aw_cn (n' := (t + 18)) (by omega) ?_
  refine aw_putR pf_Po_9 (fun _ => rfl) (fun _ => rfl) (fun _ => rfl) (by omega) (fx_isTK ht 16 (by decide)) d_Po_init_9 ?_
  refine aw_cR (pr_put ((hR _ _ (by omega) (by omega)).trans (fx_isTR ht 16 2 (by decide) (by decide))) (by decide)) ?_
  refine aw_aload_n d_Po_init_12 0 rfl ?_
  refine aw_bipush d_Po_init_13 kb_100 ?_
  refine aw_newa_int (fx_isTK ht 18 (by decide)) (by decide) (by decide) (Nat.le_of_ble_eq_true rfl) (Nat.le_of_ble_eq_true rfl) (Nat.le_of_ble_eq_true rfl) ac_int d_Po_init_15 ?_
  refine aw_cD (zr_id (hz.up (by omega))) ?_
  refine aw_cR (pr_new (fun j => (pr_ne j (by omega)).trans ((hR _ j (by omega) (by omega)).trans ((rn_isT ht 18 (by decide) [] (by decide)) j (by simp))))) ?_
  refine aw_cn (n' := (t + 19)) (by omega) ?_
  refine aw_putR pf_Po_15 (fun _ => rfl) (fun _ => rfl) (fun _ => rfl) (by omega) (fx_isTK ht 16 (by decide)) d_Po_init_17 ?_
  refine aw_cR (pr_put ((hR _ _ (by omega) (by omega)).trans (fx_isTR ht 16 3 (by decide) (by decide))) (by decide)) ?_
  refine aw_aload_n d_Po_init_20 0 rfl ?_
  refine aw_bipush d_Po_init_21 kb_100 ?_
  refine aw_newa_int (fx_isTK ht 19 (by decide)) (by decide) (by decide) (Nat.le_of_ble_eq_true rfl) (Nat.le_of_ble_eq_true rfl) (Nat.le_of_ble_eq_true rfl) ac_int d_Po_init_23 ?_
  refine aw_cD (zr_id (hz.up (by omega))) ?_
  refine aw_cR (pr_new (fun j => (pr_ne j (by omega)).trans ((hR _ j (by omega) (by omega)).trans ((rn_isT ht 19 (by decide) [] (by decide)) j (by simp))))) ?_
  refine aw_cn (n' := (t + 20)) (by omega) ?_
  refine aw_putR pf_Po_18 (fun _ => rfl) (fun _ => rfl) (fun _ => rfl) (by omega) (fx_isTK ht 16 (by decide)) d_Po_init_25 ?_
  refine aw_cR (pr_put ((hR _ _ (by omega) (by omega)).trans (fx_isTR ht 16 4 (by decide) (by decide))) (by decide)) ?_
  refine aw_aload_n d_Po_init_28 0 rfl ?_
  refine aw_bipush d_Po_init_29 kb_100 ?_
  refine aw_newa_int (fx_isTK ht 20 (by decide)) (by decide) (by decide) (Nat.le_of_ble_eq_true rfl) (Nat.le_of_ble_eq_true rfl) (Nat.le_of_ble_eq_true rfl) ac_int d_Po_init_31 ?_
  refine aw_cD (zr_id (hz.up (by omega))) ?_
  refine aw_cR (pr_new (fun j => (pr_ne j (by omega)).trans ((hR _ j (by omega) (by omega)).trans ((rn_isT ht 20 (by decide) [] (by decide)) j (by simp))))) ?_
  refine aw_cn (n' := (t + 21)) (by omega) ?_
  refine aw_putR pf_Po_21 (fun _ => rfl) (fun _ => rfl) (fun _ => rfl) (by omega) (fx_isTK ht 16 (by decide)) d_Po_init_33 ?_
  refine aw_cR (pr_put ((hR _ _ (by omega) (by omega)).trans (fx_isTR ht 16 5 (by decide) (by decide))) (by decide)) ?_
  refine aw_aload_n d_Po_init_36 0 rfl ?_
  refine aw_bipush d_Po_init_37 kb_100 ?_
  refine aw_newa_int (fx_isTK ht 21 (by decide)) (by decide) (by decide) (Nat.le_of_ble_eq_true rfl) (Nat.le_of_ble_eq_true rfl) (Nat.le_of_ble_eq_true rfl) ac_int d_Po_init_39 ?_
  refine aw_cD (zr_id (hz.up (by omega))) ?_
  refine aw_cR (pr_new (fun j => (pr_ne j (by omega)).trans ((hR _ j (by omega) (by omega)).trans ((rn_isT ht 21 (by decide) [] (by decide)) j (by simp))))) ?_
  refine aw_cn (n' := (t + 22)) (by omega) ?_
  refine aw_putR pf_Po_24 (fun _ => rfl) (fun _ => rfl) (fun _ => rfl) (by omega) (fx_isTK ht 16 (by decide)) d_Po_init_41 ?_
  refine aw_cR (pr_put ((hR _ _ (by omega) (by omega)).trans (fx_isTR ht 16 6 (by decide) (by decide))) (by decide)) ?_
  refine aw_aload_n d_Po_init_44 0 rfl ?_
  refine aw_bipush d_Po_init_45 kb_100 ?_
  refine aw_newa_int (fx_isTK ht 22 (by decide)) (by decide) (by decide) (Nat.le_of_ble_eq_true rfl) (Nat.le_of_ble_eq_true rfl) (Nat.le_of_ble_eq_true rfl) ac_int d_Po_init_47 ?_
  refine aw_cD (zr_id (hz.up (by omega))) ?_
  refine aw_cR (pr_new (fun j => (pr_ne j (by omega)).trans ((hR _ j (by omega) (by omega)).trans ((rn_isT ht 22 (by decide) [] (by decide)) j (by simp))))) ?_
  refine aw_cn (n' := (t + 23)) (by omega) ?_
  refine aw_putR pf_Po_27 (fun _ => rfl) (fun _ => rfl) (fun _ => rfl) (by omega) (fx_isTK ht 16 (by decide)) d_Po_init_49 ?_
  refine aw_cR (pr_put ((hR _ _ (by omega) (by omega)).trans (fx_isTR ht 16 7 (by decide) (by decide))) (by decide)) ?_
  refine aw_aload_n d_Po_init_52 0 rfl ?_
  refine aw_bipush d_Po_init_53 kb_100 ?_
  refine aw_newa_int (fx_isTK ht 23 (by decide)) (by decide) (by decide) (Nat.le_of_ble_eq_true rfl) (Nat.le_of_ble_eq_true rfl) (Nat.le_of_ble_eq_true rfl) ac_int d_Po_init_55 ?_
  refine aw_cD (zr_id (hz.up (by omega))) ?_
  refine aw_cR (pr_new (fun j => (pr_ne j (by omega)).trans ((hR _ j (by omega) (by omega)).trans ((rn_isT ht 23 (by decide) [] (by decide)) j (by simp))))) ?_
  refine aw_cn (n' := (t + 24)) (by omega) ?_
  refine aw_putR pf_Po_30 (fun _ => rfl) (fun _ => rfl) (fun _ => rfl) (by omega) (fx_isTK ht 16 (by decide)) d_Po_init_57 ?_
  refine aw_cR (pr_put ((hR _ _ (by omega) (by omega)).trans (fx_isTR ht 16 8 (by decide) (by decide))) (by decide)) ?_
  refine aw_aload_n d_Po_init_60 0 rfl ?_
  refine aw_bipush d_Po_init_61 kb_100 ?_
  refine aw_newa_int (fx_isTK ht 24 (by decide)) (by decide) (by decide) (Nat.le_of_ble_eq_true rfl) (Nat.le_of_ble_eq_true rfl) (Nat.le_of_ble_eq_true rfl) ac_int d_Po_init_63 ?_
  refine aw_cD (zr_id (hz.up (by omega))) ?_
  refine aw_cR (pr_new (fun j => (pr_ne j (by omega)).trans ((hR _ j (by omega) (by omega)).trans ((rn_isT ht 24 (by decide) [] (by decide)) j (by simp))))) ?_
  refine aw_cn (n' := (t + 25)) (by omega) ?_
  refine aw_putR pf_Po_33 (fun _ => rfl) (fun _ => rfl) (fun _ => rfl) (by omega) (fx_isTK ht 16 (by decide)) d_Po_init_65 ?_
  refine aw_cR (pr_put ((hR _ _ (by omega) (by omega)).trans (fx_isTR ht 16 9 (by decide) (by decide))) (by decide)) ?_
  refine aw_cR pr_0 ?_
  exact aw_vret rfl rfl ⟨Nat.le_of_ble_eq_true rfl, Nat.le_of_ble_eq_true rfl⟩ d_Po_init_68

set_option maxHeartbeats 8000000 in
set_option maxRecDepth 100000 in
theorem mi_Fa {δ : Dm} (hz : ZR δ 19) {R : Rm} (hR : ∀ b j, 19 ≤ b → b < 22 → R b j = RT b j) : AMet k_Fa_init 2 2 69 [.ref 19] δ (clr R 19) 20 (none, δ, R, 22) := by
  refine aw_start (KK := fun _ : Unit => (none, δ, R, 22)) (res := some ()) (lo := [(0, .ref 19)]) mok_Fa_init rfl (Nat.le_of_ble_eq_true rfl) ?_ () rfl
  refine aw_cR (pr_clr [0, 1] (fun j hj => (hR _ j (by omega) (by omega)).trans ((rn_lit 19 (by decide) [0, 1] (by decide +kernel)) j hj))) ?_
  refine aw_aload_n d_Fa_init_0 0 rfl ?_
  refine aw_objInit (own := "") oi_Fa_1 ob_1 ob_2 (Nat.le_of_ble_eq_true rfl) (by decide) d_Fa_init_1 ?_
  refine aw_aload_n d_Fa_init_4 0 rfl ?_
  refine aw_bipush d_Fa_init_5 kb_9 ?_
  refine aw_newa_long kd_20 (by decide) (by decide) (Nat.le_of_ble_eq_true rfl) (Nat.le_of_ble_eq_true rfl) (Nat.le_of_ble_eq_true rfl) ac_long d_Fa_init_7 ?_
  refine aw_cD (zr_id (hz.up (by omega))) ?_
  refine aw_cR (pr_new (fun j => (pr_ne j (by omega)).trans ((hR _ j (by omega) (by omega)).trans ((rn_lit 20 (by decide) [] (by decide +kernel)) j (by simp))))) ?_
  refine aw_cn (n' := 21) (by omega) ?_
  refine aw_putR pf_Fa_9 (fun _ => rfl) (fun _ => rfl) (fun _ => rfl) (by omega) kd_19 d_Fa_init_9 ?_
  refine aw_cR (pr_put ((hR _ _ (by omega) (by omega)).trans rt_19_0) (by decide)) ?_
  refine aw_aload_n d_Fa_init_12 0 rfl ?_
  refine aw_bipush d_Fa_init_13 kb_60 ?_
  refine aw_newa_long kd_21 (by decide) (by decide) (Nat.le_of_ble_eq_true rfl) (Nat.le_of_ble_eq_true rfl) (Nat.le_of_ble_eq_true rfl) ac_long d_Fa_init_15 ?_
  refine aw_cD (zr_id (hz.up (by omega))) ?_
  refine aw_cR (pr_new (fun j => (pr_ne j (by omega)).trans ((hR _ j (by omega) (by omega)).trans ((rn_lit 21 (by decide) [] (by decide +kernel)) j (by simp))))) ?_
  refine aw_cn (n' := 22) (by omega) ?_
  refine aw_putR pf_Fa_17 (fun _ => rfl) (fun _ => rfl) (fun _ => rfl) (by omega) kd_19 d_Fa_init_17 ?_
  refine aw_cR (pr_put ((hR _ _ (by omega) (by omega)).trans rt_19_1) (by decide)) ?_
  refine aw_cR pr_0 ?_
  exact aw_vret rfl rfl ⟨Nat.le_of_ble_eq_true rfl, Nat.le_of_ble_eq_true rfl⟩ d_Fa_init_20

set_option maxHeartbeats 8000000 in
set_option maxRecDepth 100000 in
theorem mi_Rp {δ : Dm} (hz : ZR δ 22) {R : Rm} (hR : ∀ b j, 22 ≤ b → b < 25 → R b j = RT b j) : AMet k_Rp_init 2 2 800 [.ref 22] δ (clr R 22) 23 (none, δ, R, 25) := by
  refine aw_start (KK := fun _ : Unit => (none, δ, R, 25)) (res := some ()) (lo := [(0, .ref 22)]) mok_Rp_init rfl (Nat.le_of_ble_eq_true rfl) ?_ () rfl
  refine aw_cR (pr_clr [0, 1] (fun j hj => (hR _ j (by omega) (by omega)).trans ((rn_lit 22 (by decide) [0, 1] (by decide +kernel)) j hj))) ?_
  refine aw_aload_n d_Rp_init_0 0 rfl ?_
  refine aw_objInit (own := "") oi_Rp_3 ob_1 ob_2 (Nat.le_of_ble_eq_true rfl) (by decide) d_Rp_init_1 ?_
  refine aw_aload_n d_Rp_init_4 0 rfl ?_
  refine aw_sipush d_Rp_init_5 ks_400 ?_
  refine aw_newa_int kd_23 (by decide) (by decide) (Nat.le_of_ble_eq_true rfl) (Nat.le_of_ble_eq_true rfl) (Nat.le_of_ble_eq_true rfl) ac_int d_Rp_init_8 ?_
  refine aw_cD (zr_id (hz.up (by omega))) ?_
  refine aw_cR (pr_new (fun j => (pr_ne j (by omega)).trans ((hR _ j (by omega) (by omega)).trans ((rn_lit 23 (by decide) [] (by decide +kernel)) j (by simp))))) ?_
  refine aw_cn (n' := 24) (by omega) ?_
  refine aw_putR pf_Rp_9 (fun _ => rfl) (fun _ => rfl) (fun _ => rfl) (by omega) kd_22 d_Rp_init_10 ?_
  refine aw_cR (pr_put ((hR _ _ (by omega) (by omega)).trans rt_22_0) (by decide)) ?_
  refine aw_aload_n d_Rp_init_13 0 rfl ?_
  refine aw_sipush d_Rp_init_14 ks_400 ?_
  refine aw_newa_int kd_24 (by decide) (by decide) (Nat.le_of_ble_eq_true rfl) (Nat.le_of_ble_eq_true rfl) (Nat.le_of_ble_eq_true rfl) ac_int d_Rp_init_17 ?_
  refine aw_cD (zr_id (hz.up (by omega))) ?_
  refine aw_cR (pr_new (fun j => (pr_ne j (by omega)).trans ((hR _ j (by omega) (by omega)).trans ((rn_lit 24 (by decide) [] (by decide +kernel)) j (by simp))))) ?_
  refine aw_cn (n' := 25) (by omega) ?_
  refine aw_putR pf_Rp_15 (fun _ => rfl) (fun _ => rfl) (fun _ => rfl) (by omega) kd_22 d_Rp_init_19 ?_
  refine aw_cR (pr_put ((hR _ _ (by omega) (by omega)).trans rt_22_1) (by decide)) ?_
  refine aw_cR pr_0 ?_
  exact aw_vret rfl rfl ⟨Nat.le_of_ble_eq_true rfl, Nat.le_of_ble_eq_true rfl⟩ d_Rp_init_22

set_option maxHeartbeats 8000000 in
set_option maxRecDepth 100000 in
theorem mi_Ro {δ : Dm} (hz : ZR δ 25) {R : Rm} (hR : ∀ b j, 25 ≤ b → b < 27 → R b j = RT b j) : AMet k_Ro_init 2 1 2048 [.ref 25] δ (clr R 25) 26 (none, δ, R, 27) := by
  refine aw_start (KK := fun _ : Unit => (none, δ, R, 27)) (res := some ()) (lo := [(0, .ref 25)]) mok_Ro_init rfl (Nat.le_of_ble_eq_true rfl) ?_ () rfl
  refine aw_cR (pr_clr [0] (fun j hj => (hR _ j (by omega) (by omega)).trans ((rn_lit 25 (by decide) [0] (by decide +kernel)) j hj))) ?_
  refine aw_aload_n d_Ro_init_0 0 rfl ?_
  refine aw_objInit (own := "") oi_Ro_3 ob_1 ob_2 (Nat.le_of_ble_eq_true rfl) (by decide) d_Ro_init_1 ?_
  refine aw_aload_n d_Ro_init_4 0 rfl ?_
  refine aw_sipush d_Ro_init_5 ks_2048 ?_
  refine aw_newa_int kd_26 (by decide) (by decide) (Nat.le_of_ble_eq_true rfl) (Nat.le_of_ble_eq_true rfl) (Nat.le_of_ble_eq_true rfl) ac_int d_Ro_init_8 ?_
  refine aw_cD (zr_id (hz.up (by omega))) ?_
  refine aw_cR (pr_new (fun j => (pr_ne j (by omega)).trans ((hR _ j (by omega) (by omega)).trans ((rn_lit 26 (by decide) [] (by decide +kernel)) j (by simp))))) ?_
  refine aw_cn (n' := 27) (by omega) ?_
  refine aw_putR pf_Ro_9 (fun _ => rfl) (fun _ => rfl) (fun _ => rfl) (by omega) kd_25 d_Ro_init_10 ?_
  refine aw_cR (pr_put ((hR _ _ (by omega) (by omega)).trans rt_25_0) (by decide)) ?_
  refine aw_cR pr_0 ?_
  exact aw_vret rfl rfl ⟨Nat.le_of_ble_eq_true rfl, Nat.le_of_ble_eq_true rfl⟩ d_Ro_init_13

set_option maxHeartbeats 8000000 in
set_option maxRecDepth 100000 in
theorem mi_Cr {δ : Dm} (hz : ZR δ 27) {R : Rm} (hR : ∀ b j, 27 ≤ b → b < 29 → R b j = RT b j) : AMet k_Cr_init 2 1 4096 [.ref 27] δ (clr R 27) 28 (none, δ, R, 29) := by
  refine aw_start (KK := fun _ : Unit => (none, δ, R, 29)) (res := some ()) (lo := [(0, .ref 27)]) mok_Cr_init rfl (Nat.le_of_ble_eq_true rfl) ?_ () rfl
  refine aw_cR (pr_clr [0] (fun j hj => (hR _ j (by omega) (by omega)).trans ((rn_lit 27 (by decide) [0] (by decide +kernel)) j hj))) ?_
  refine aw_aload_n d_Cr_init_0 0 rfl ?_
  refine aw_objInit (own := "") oi_Cr_3 ob_1 ob_2 (Nat.le_of_ble_eq_true rfl) (by decide) d_Cr_init_1 ?_
  refine aw_aload_n d_Cr_init_4 0 rfl ?_
  refine aw_sipush d_Cr_init_5 ks_4096 ?_
  refine aw_newa_int kd_28 (by decide) (by decide) (Nat.le_of_ble_eq_true rfl) (Nat.le_of_ble_eq_true rfl) (Nat.le_of_ble_eq_true rfl) ac_int d_Cr_init_8 ?_
  refine aw_cD (zr_id (hz.up (by omega))) ?_
  refine aw_cR (pr_new (fun j => (pr_ne j (by omega)).trans ((hR _ j (by omega) (by omega)).trans ((rn_lit 28 (by decide) [] (by decide +kernel)) j (by simp))))) ?_
  refine aw_cn (n' := 29) (by omega) ?_
  refine aw_putR pf_Cr_9 (fun _ => rfl) (fun _ => rfl) (fun _ => rfl) (by omega) kd_27 d_Cr_init_10 ?_
  refine aw_cR (pr_put ((hR _ _ (by omega) (by omega)).trans rt_27_0) (by decide)) ?_
  refine aw_cR pr_0 ?_
  exact aw_vret rfl rfl ⟨Nat.le_of_ble_eq_true rfl, Nat.le_of_ble_eq_true rfl⟩ d_Cr_init_13

set_option maxHeartbeats 8000000 in
set_option maxRecDepth 100000 in
theorem mi_Re {δ : Dm} (hz : ZR δ 7) {R : Rm} (hR : ∀ b j, 7 ≤ b → b < 19 → R b j = RT b j) : AMet k_Re_init 3 11 1685 [.ref 7] δ (clr R 7) 8 (none, (sI δ 7 8 (nI 11)), R, 19) := by
  refine aw_start (KK := fun _ : Unit => (none, (sI δ 7 8 (nI 11)), R, 19)) (res := some ()) (lo := [(0, .ref 7)]) mok_Re_init rfl (Nat.le_of_ble_eq_true rfl) ?_ () rfl
  refine aw_cR (pr_clr [0, 1, 2] (fun j hj => (hR _ j (by omega) (by omega)).trans ((rn_lit 7 (by decide) [0, 1, 2] (by decide +kernel)) j hj))) ?_
  refine aw_aload_n d_Re_init_0 0 rfl ?_
  refine aw_objInit (own := "") oi_Re_3 ob_1 ob_2 (Nat.le_of_ble_eq_true rfl) (by decide) d_Re_init_1 ?_
  refine aw_aload_n d_Re_init_4 0 rfl ?_
  refine aw_sipush d_Re_init_5 ks_401 ?_
  refine aw_newa_int kd_8 (by decide) (by decide) (Nat.le_of_ble_eq_true rfl) (Nat.le_of_ble_eq_true rfl) (Nat.le_of_ble_eq_true rfl) ac_int d_Re_init_8 ?_
  refine aw_cD (zr_id (hz.up (by omega))) ?_
  refine aw_cR (pr_new (fun j => (pr_ne j (by omega)).trans ((hR _ j (by omega) (by omega)).trans ((rn_lit 8 (by decide) [] (by decide +kernel)) j (by simp))))) ?_
  refine aw_cn (n' := 9) (by omega) ?_
  refine aw_putR pf_Re_11 (fun _ => rfl) (fun _ => rfl) (fun _ => rfl) (by omega) kd_7 d_Re_init_10 ?_
  refine aw_cR (pr_put ((hR _ _ (by omega) (by omega)).trans rt_7_0) (by decide)) ?_
  refine aw_aload_n d_Re_init_13 0 rfl ?_
  refine aw_sipush d_Re_init_14 ks_401 ?_
  refine aw_newa_int kd_9 (by decide) (by decide) (Nat.le_of_ble_eq_true rfl) (Nat.le_of_ble_eq_true rfl) (Nat.le_of_ble_eq_true rfl) ac_int d_Re_init_17 ?_
  refine aw_cD (zr_id (hz.up (by omega))) ?_
  refine aw_cR (pr_new (fun j => (pr_ne j (by omega)).trans ((hR _ j (by omega) (by omega)).trans ((rn_lit 9 (by decide) [] (by decide +kernel)) j (by simp))))) ?_
  refine aw_cn (n' := 10) (by omega) ?_
  refine aw_putR pf_Re_15 (fun _ => rfl) (fun _ => rfl) (fun _ => rfl) (by omega) kd_7 d_Re_init_19 ?_
  refine aw_cR (pr_put ((hR _ _ (by omega) (by omega)).trans rt_7_1) (by decide)) ?_
  refine aw_aload_n d_Re_init_22 0 rfl ?_
  refine aw_sipush d_Re_init_23 ks_401 ?_
  refine aw_newa_int kd_10 (by decide) (by decide) (Nat.le_of_ble_eq_true rfl) (Nat.le_of_ble_eq_true rfl) (Nat.le_of_ble_eq_true rfl) ac_int d_Re_init_26 ?_
  refine aw_cD (zr_id (hz.up (by omega))) ?_
  refine aw_cR (pr_new (fun j => (pr_ne j (by omega)).trans ((hR _ j (by omega) (by omega)).trans ((rn_lit 10 (by decide) [] (by decide +kernel)) j (by simp))))) ?_
  refine aw_cn (n' := 11) (by omega) ?_
  refine aw_putR pf_Re_18 (fun _ => rfl) (fun _ => rfl) (fun _ => rfl) (by omega) kd_7 d_Re_init_28 ?_
  refine aw_cR (pr_put ((hR _ _ (by omega) (by omega)).trans rt_7_2) (by decide)) ?_
  refine aw_cR pr_0 ?_
  refine aw_aload_n d_Re_init_31 0 rfl ?_
  refine aw_new nw_Re_21 kd_11 rfl (Nat.le_of_ble_eq_true rfl) (Nat.le_of_ble_eq_true rfl) d_Re_init_32 ?_
  refine aw_cD (zr_id (hz.up (by omega))) ?_
  refine aw_cn (n' := 12) (by omega) ?_
  refine aw_dup d_Re_init_35 rfl ?_
  refine aw_INu (As := []) (mi_La11 (δ := δ) (hz.up (by omega)) (R := R) (fun b j h1 h2 => hR b j (by omega) (by omega))) cc_Re_23 rfl rfl rfl (Nat.le_of_ble_eq_true rfl) ⟨Nat.le_of_ble_eq_true rfl, Nat.le_of_ble_eq_true rfl⟩ ⟨Nat.le_of_ble_eq_true rfl, Nat.le_of_ble_eq_true rfl⟩ d_Re_init_36 ?_
  refine aw_putD pf_Re_24 (fun _ => rfl) (fun _ => rfl) (by decide) (by decide) kd_7 d_Re_init_39 ?_
  exact aw_vret rfl rfl ⟨Nat.le_of_ble_eq_true rfl, Nat.le_of_ble_eq_true rfl⟩ d_Re_init_42

set_option maxHeartbeats 8000000 in
set_option maxRecDepth 100000 in
theorem mi_To {t : Nat} (ht : isT t = true) {δ : Dm} (hz : ZR δ t) {R : Rm} (hR : ∀ b j, t ≤ b → b < (t + 57) → R b j = RT b j) : AMet k_To_init 3 56 7199 [.ref t] δ (clr R t) (t + 1) (none, (flI δ (t + 1) 400 15), R, (t + 57)) := by
  have h4 : 4 ≤ t := KD_lo (by rw [show KD t = _ from fx_isTK ht 0 (by decide)]; decide)
  refine aw_start (KK := fun _ : Unit => (none, (flI δ (t + 1) 400 15), R, (t + 57))) (res := some ()) (lo := [(0, .ref t)]) mok_To_init rfl (Nat.le_of_ble_eq_true rfl) ?_ () rfl
  refine aw_cR (pr_clr [3, 4, 5, 6, 7, 8] (fun j hj => (hR _ j (by omega) (by omega)).trans ((rn_isT ht 0 (by decide) [3, 4, 5, 6, 7, 8] (by decide)) j hj))) ?_
  refine aw_aload_n d_To_init_0 0 rfl ?_
  refine aw_objInit (own := "") oi_To_3 ob_1 ob_2 (Nat.le_of_ble_eq_true rfl) (by decide) d_To_init_1 ?_
  refine aw_aload_n d_To_init_4 0 rfl ?_
  refine aw_sipush d_To_init_5 ks_400 ?_
  refine aw_newa_int (fx_isTK ht 1 (by decide)) (by decide) (by decide) (Nat.le_of_ble_eq_true rfl) (Nat.le_of_ble_eq_true rfl) (Nat.le_of_ble_eq_true rfl) ac_int d_To_init_8 ?_
  refine aw_cD (zr_id (hz.up (by omega))) ?_
  refine aw_cR (pr_new (fun j => (pr_ne j (by omega)).trans ((hR _ j (by omega) (by omega)).trans ((rn_isT ht 1 (by decide) [] (by decide)) j (by simp))))) ?_
  refine aw_cn (n' := (t + 2)) (by omega) ?_
  refine aw_putR pf_To_9 (fun _ => rfl) (fun _ => rfl) (fun _ => rfl) (by omega) (fx_isTK ht 0 (by decide)) d_To_init_10 ?_
  refine aw_cR (pr_put ((hR _ _ (by omega) (by omega)).trans (fx_isTR ht 0 3 (by decide) (by decide))) (by decide)) ?_
  refine aw_aload_n d_To_init_13 0 rfl ?_
  refine aw_bipush d_To_init_14 kb_12 ?_
  refine aw_newa_int (fx_isTK ht 2 (by decide)) (by decide) (by decide) (Nat.le_of_ble_eq_true rfl) (Nat.le_of_ble_eq_true rfl) (Nat.le_of_ble_eq_true rfl) ac_int d_To_init_16 ?_
  refine aw_cD (zr_id (hz.up (by omega))) ?_
  refine aw_cR (pr_new (fun j => (pr_ne j (by omega)).trans ((hR _ j (by omega) (by omega)).trans ((rn_isT ht 2 (by decide) [] (by decide)) j (by simp))))) ?_
  refine aw_cn (n' := (t + 3)) (by omega) ?_
  refine aw_putR pf_To_15 (fun _ => rfl) (fun _ => rfl) (fun _ => rfl) (by omega) (fx_isTK ht 0 (by decide)) d_To_init_18 ?_
  refine aw_cR (pr_put ((hR _ _ (by omega) (by omega)).trans (fx_isTR ht 0 4 (by decide) (by decide))) (by decide)) ?_
  refine aw_aload_n d_To_init_21 0 rfl ?_
  refine aw_sipush d_To_init_22 ks_144 ?_
  refine aw_newa_int (fx_isTK ht 3 (by decide)) (by decide) (by decide) (Nat.le_of_ble_eq_true rfl) (Nat.le_of_ble_eq_true rfl) (Nat.le_of_ble_eq_true rfl) ac_int d_To_init_25 ?_
  refine aw_cD (zr_id (hz.up (by omega))) ?_
  refine aw_cR (pr_new (fun j => (pr_ne j (by omega)).trans ((hR _ j (by omega) (by omega)).trans ((rn_isT ht 3 (by decide) [] (by decide)) j (by simp))))) ?_
  refine aw_cn (n' := (t + 4)) (by omega) ?_
  refine aw_putR pf_To_18 (fun _ => rfl) (fun _ => rfl) (fun _ => rfl) (by omega) (fx_isTK ht 0 (by decide)) d_To_init_27 ?_
  refine aw_cR (pr_put ((hR _ _ (by omega) (by omega)).trans (fx_isTR ht 0 5 (by decide) (by decide))) (by decide)) ?_
  refine aw_aload_n d_To_init_30 0 rfl ?_
  refine aw_bipush d_To_init_31 kb_8 ?_
  refine aw_newq6 (fx_isTK ht 4 (by decide)) (by decide) (by decide) (Nat.le_of_ble_eq_true rfl) (Nat.le_of_ble_eq_true rfl) (Nat.le_of_ble_eq_true rfl) cl_To_21 d_To_init_33 ?_
  refine aw_cD (zr_id (hz.up (by omega))) ?_
  refine aw_cR (pr_clr [0, 1, 2, 3, 4, 5, 6, 7] (fun j hj => (pr_ne j (by omega)).trans ((hR _ j (by omega) (by omega)).trans ((rn_isT ht 4 (by decide) [0, 1, 2, 3, 4, 5, 6, 7] (by decide)) j hj)))) ?_
  refine aw_cn (n' := (t + 5)) (by omega) ?_
  refine aw_putR pf_To_23 (fun _ => rfl) (fun _ => rfl) (fun _ => rfl) (by omega) (fx_isTK ht 0 (by decide)) d_To_init_36 ?_
  refine aw_cR (pr_put2 (by omega) ((hR _ _ (by omega) (by omega)).trans (fx_isTR ht 0 6 (by decide) (by decide))) (by decide)) ?_
  refine aw_aload_n d_To_init_39 0 rfl ?_
  refine aw_new nw_To_27 (fx_isTK ht 5 (by decide)) rfl (Nat.le_of_ble_eq_true rfl) (Nat.le_of_ble_eq_true rfl) d_To_init_40 ?_
  refine aw_cD (zr_id (hz.up (by omega))) ?_
  refine aw_cn (n' := (t + 6)) (by omega) ?_
  refine aw_dup d_To_init_43 rfl ?_
  refine aw_INu (As := []) (mi_Di ht (δ := δ) (hz.up (by omega)) (R := (pr (pr R t [7, 8]) (t + 4) [0, 1, 2, 3, 4, 5, 6, 7])) (fun b j h1 h2 => (pr_ne j (by omega)).trans ((pr_ne j (by omega)).trans (hR b j (by omega) (by omega))))) cc_To_29 rfl rfl rfl (Nat.le_of_ble_eq_true rfl) ⟨Nat.le_of_ble_eq_true rfl, Nat.le_of_ble_eq_true rfl⟩ ⟨Nat.le_of_ble_eq_true rfl, Nat.le_of_ble_eq_true rfl⟩ d_To_init_44 ?_
  refine aw_putR pf_To_30 (fun _ => rfl) (fun _ => rfl) (fun _ => rfl) (by omega) (fx_isTK ht 0 (by decide)) d_To_init_47 ?_
  refine aw_cR (pr_put2 (by omega) ((hR _ _ (by omega) (by omega)).trans (fx_isTR ht 0 7 (by decide) (by decide))) (by decide)) ?_
  refine aw_aload_n d_To_init_50 0 rfl ?_
  refine aw_new nw_To_34 (fx_isTK ht 16 (by decide)) rfl (Nat.le_of_ble_eq_true rfl) (Nat.le_of_ble_eq_true rfl) d_To_init_51 ?_
  refine aw_cD (zr_id (hz.up (by omega))) ?_
  refine aw_cn (n' := (t + 17)) (by omega) ?_
  refine aw_dup d_To_init_54 rfl ?_
  refine aw_INu (As := []) (mi_Po ht (δ := δ) (hz.up (by omega)) (R := (pr (pr R t [8]) (t + 4) [0, 1, 2, 3, 4, 5, 6, 7])) (fun b j h1 h2 => (pr_ne j (by omega)).trans ((pr_ne j (by omega)).trans (hR b j (by omega) (by omega))))) cc_To_36 rfl rfl rfl (Nat.le_of_ble_eq_true rfl) ⟨Nat.le_of_ble_eq_true rfl, Nat.le_of_ble_eq_true rfl⟩ ⟨Nat.le_of_ble_eq_true rfl, Nat.le_of_ble_eq_true rfl⟩ d_To_init_55 ?_
  refine aw_putR pf_To_37 (fun _ => rfl) (fun _ => rfl) (fun _ => rfl) (by omega) (fx_isTK ht 0 (by decide)) d_To_init_58 ?_
  refine aw_cR (pr_put2 (by omega) ((hR _ _ (by omega) (by omega)).trans (fx_isTR ht 0 8 (by decide) (by decide))) (by decide)) ?_
  refine aw_cR (R' := (pr R (t + 4) [0, 1, 2, 3, 4, 5, 6, 7])) (by rw [pr_0]) ?_
  refine aw_aload_n d_To_init_61 0 rfl ?_
  refine aw_getR (t := (t + 1)) fl_To_9 (fx_isTK ht 0 (by decide)) (pr_get3 (by omega) ((hR _ _ (by omega) (by omega)).trans (fx_isTR ht 0 3 (by decide) (by decide)))) d_To_init_62 ?_
  refine aw_bipush d_To_init_65 kb_15 ?_
  refine aw_Su (a := 0) (As := [.ref (t + 1), .int 15]) (m_fillC (a := (t + 1)) (N := 400) (v := 15) (fx_isTK ht 1 (by decide))) cs_To_41 rfl rfl (Nat.le_of_ble_eq_true rfl) ⟨Nat.le_of_ble_eq_true rfl, Nat.le_of_ble_eq_true rfl⟩ ⟨Nat.le_of_ble_eq_true rfl, Nat.le_of_ble_eq_true rfl⟩ d_To_init_67 ?_
  refine aw_iconst d_To_init_70 ki_0 ?_
  refine aw_istore_n (lo' := [(1, .int (0 : Int32)), (0, .ref t)]) d_To_init_71 rfl (by decide) rfl ?_
  refine aw_iload_n d_To_init_72 0 rfl ?_
  refine aw_aload_n d_To_init_73 1 rfl ?_
  refine aw_getR (t := (t + 4)) fl_To_23 (fx_isTK ht 0 (by decide)) (pr_get3 (by omega) ((hR _ _ (by omega) (by omega)).trans (fx_isTR ht 0 6 (by decide) (by decide)))) d_To_init_74 ?_
  refine aw_alen (v := (8 : Int32)) (fx_isTK ht 4 (by decide)) ⟨by decide, by decide⟩ (by decide) d_To_init_77 ?_
  refine aw_same (c := (8 : Int32) ≤ (0 : Int32)) (aw_icmp_ge (tgt := 100) d_To_init_78 rfl (fun q => absurd q (by decide)) (fun q => ?_))
  refine aw_aload_n d_To_init_81 1 rfl ?_
  refine aw_getR (t := (t + 4)) fl_To_23 (fx_isTK ht 0 (by decide)) (pr_get3 (by omega) ((hR _ _ (by omega) (by omega)).trans (fx_isTR ht 0 6 (by decide) (by decide)))) d_To_init_82 ?_
  refine aw_iload_n d_To_init_85 0 rfl ?_
  refine aw_new nw_To_21 (fx_isTK ht 25 (by decide)) rfl (Nat.le_of_ble_eq_true rfl) (Nat.le_of_ble_eq_true rfl) d_To_init_86 ?_
  refine aw_cD (zr_id (ZR.fl (hz.up (by omega)) (by omega))) ?_
  refine aw_cn (n' := (t + 26)) (by omega) ?_
  refine aw_dup d_To_init_89 rfl ?_
  refine aw_INu (As := []) (mi_Bo (t := (t + 25)) (isT_B2 ht 0 (by decide)) (δ := (flI δ (t + 1) 400 15)) (ZR.fl (hz.up (by omega)) (by omega)) (R := (pr R (t + 4) [0, 1, 2, 3, 4, 5, 6, 7])) (fun b j h1 h2 => (pr_ne j (by omega)).trans (hR b j (by omega) (by omega)))) cc_To_47 rfl rfl rfl (Nat.le_of_ble_eq_true rfl) ⟨Nat.le_of_ble_eq_true rfl, Nat.le_of_ble_eq_true rfl⟩ ⟨Nat.le_of_ble_eq_true rfl, Nat.le_of_ble_eq_true rfl⟩ d_To_init_90 ?_
  refine aw_tru (c := inb (0 : Int32) 8) (by decide) (aw_aast6 (fx_isTK ht 4 (by decide)) (fx_isTK ht 25 (by decide)) d_To_init_93 ?_)
  refine aw_cR (pr_put ((hR _ _ (by omega) (by omega)).trans (fx_isTR ht 4 0 (by decide) (by decide))) (by decide)) ?_
  refine aw_iinc (v := (1 : Int32)) (lo' := [(1, .int (1 : Int32)), (0, .ref t)]) d_To_init_94 0 rfl (by decide) (by decide) rfl ?_
  refine aw_goto (tgt := 72) d_To_init_97 rfl ?_
  refine aw_iload_n d_To_init_72 0 rfl ?_
  refine aw_aload_n d_To_init_73 1 rfl ?_
  refine aw_getR (t := (t + 4)) fl_To_23 (fx_isTK ht 0 (by decide)) (pr_get3 (by omega) ((hR _ _ (by omega) (by omega)).trans (fx_isTR ht 0 6 (by decide) (by decide)))) d_To_init_74 ?_
  refine aw_alen (v := (8 : Int32)) (fx_isTK ht 4 (by decide)) ⟨by decide, by decide⟩ (by decide) d_To_init_77 ?_
  refine aw_same (c := (8 : Int32) ≤ (1 : Int32)) (aw_icmp_ge (tgt := 100) d_To_init_78 rfl (fun q => absurd q (by decide)) (fun q => ?_))
  refine aw_aload_n d_To_init_81 1 rfl ?_
  refine aw_getR (t := (t + 4)) fl_To_23 (fx_isTK ht 0 (by decide)) (pr_get3 (by omega) ((hR _ _ (by omega) (by omega)).trans (fx_isTR ht 0 6 (by decide) (by decide)))) d_To_init_82 ?_
  refine aw_iload_n d_To_init_85 0 rfl ?_
  refine aw_new nw_To_21 (fx_isTK ht 29 (by decide)) rfl (Nat.le_of_ble_eq_true rfl) (Nat.le_of_ble_eq_true rfl) d_To_init_86 ?_
  refine aw_cD (zr_id (ZR.fl (hz.up (by omega)) (by omega))) ?_
  refine aw_cn (n' := (t + 30)) (by omega) ?_
  refine aw_dup d_To_init_89 rfl ?_
  refine aw_INu (As := []) (mi_Bo (t := (t + 29)) (isT_B2 ht 1 (by decide)) (δ := (flI δ (t + 1) 400 15)) (ZR.fl (hz.up (by omega)) (by omega)) (R := (pr R (t + 4) [1, 2, 3, 4, 5, 6, 7])) (fun b j h1 h2 => (pr_ne j (by omega)).trans (hR b j (by omega) (by omega)))) cc_To_47 rfl rfl rfl (Nat.le_of_ble_eq_true rfl) ⟨Nat.le_of_ble_eq_true rfl, Nat.le_of_ble_eq_true rfl⟩ ⟨Nat.le_of_ble_eq_true rfl, Nat.le_of_ble_eq_true rfl⟩ d_To_init_90 ?_
  refine aw_tru (c := inb (1 : Int32) 8) (by decide) (aw_aast6 (fx_isTK ht 4 (by decide)) (fx_isTK ht 29 (by decide)) d_To_init_93 ?_)
  refine aw_cR (pr_put ((hR _ _ (by omega) (by omega)).trans (fx_isTR ht 4 1 (by decide) (by decide))) (by decide)) ?_
  refine aw_iinc (v := (2 : Int32)) (lo' := [(1, .int (2 : Int32)), (0, .ref t)]) d_To_init_94 0 rfl (by decide) (by decide) rfl ?_
  refine aw_goto (tgt := 72) d_To_init_97 rfl ?_
  refine aw_iload_n d_To_init_72 0 rfl ?_
  refine aw_aload_n d_To_init_73 1 rfl ?_
  refine aw_getR (t := (t + 4)) fl_To_23 (fx_isTK ht 0 (by decide)) (pr_get3 (by omega) ((hR _ _ (by omega) (by omega)).trans (fx_isTR ht 0 6 (by decide) (by decide)))) d_To_init_74 ?_
  refine aw_alen (v := (8 : Int32)) (fx_isTK ht 4 (by decide)) ⟨by decide, by decide⟩ (by decide) d_To_init_77 ?_
  refine aw_same (c := (8 : Int32) ≤ (2 : Int32)) (aw_icmp_ge (tgt := 100) d_To_init_78 rfl (fun q => absurd q (by decide)) (fun q => ?_))
  refine aw_aload_n d_To_init_81 1 rfl ?_
  refine aw_getR (t := (t + 4)) fl_To_23 (fx_isTK ht 0 (by decide)) (pr_get3 (by omega) ((hR _ _ (by omega) (by omega)).trans (fx_isTR ht 0 6 (by decide) (by decide)))) d_To_init_82 ?_
  refine aw_iload_n d_To_init_85 0 rfl ?_
  refine aw_new nw_To_21 (fx_isTK ht 33 (by decide)) rfl (Nat.le_of_ble_eq_true rfl) (Nat.le_of_ble_eq_true rfl) d_To_init_86 ?_
  refine aw_cD (zr_id (ZR.fl (hz.up (by omega)) (by omega))) ?_
  refine aw_cn (n' := (t + 34)) (by omega) ?_
  refine aw_dup d_To_init_89 rfl ?_
  refine aw_INu (As := []) (mi_Bo (t := (t + 33)) (isT_B2 ht 2 (by decide)) (δ := (flI δ (t + 1) 400 15)) (ZR.fl (hz.up (by omega)) (by omega)) (R := (pr R (t + 4) [2, 3, 4, 5, 6, 7])) (fun b j h1 h2 => (pr_ne j (by omega)).trans (hR b j (by omega) (by omega)))) cc_To_47 rfl rfl rfl (Nat.le_of_ble_eq_true rfl) ⟨Nat.le_of_ble_eq_true rfl, Nat.le_of_ble_eq_true rfl⟩ ⟨Nat.le_of_ble_eq_true rfl, Nat.le_of_ble_eq_true rfl⟩ d_To_init_90 ?_
  refine aw_tru (c := inb (2 : Int32) 8) (by decide) (aw_aast6 (fx_isTK ht 4 (by decide)) (fx_isTK ht 33 (by decide)) d_To_init_93 ?_)
  refine aw_cR (pr_put ((hR _ _ (by omega) (by omega)).trans (fx_isTR ht 4 2 (by decide) (by decide))) (by decide)) ?_
  refine aw_iinc (v := (3 : Int32)) (lo' := [(1, .int (3 : Int32)), (0, .ref t)]) d_To_init_94 0 rfl (by decide) (by decide) rfl ?_
  refine aw_goto (tgt := 72) d_To_init_97 rfl ?_
  refine aw_iload_n d_To_init_72 0 rfl ?_
  refine aw_aload_n d_To_init_73 1 rfl ?_
  refine aw_getR (t := (t + 4)) fl_To_23 (fx_isTK ht 0 (by decide)) (pr_get3 (by omega) ((hR _ _ (by omega) (by omega)).trans (fx_isTR ht 0 6 (by decide) (by decide)))) d_To_init_74 ?_
  refine aw_alen (v := (8 : Int32)) (fx_isTK ht 4 (by decide)) ⟨by decide, by decide⟩ (by decide) d_To_init_77 ?_
  refine aw_same (c := (8 : Int32) ≤ (3 : Int32)) (aw_icmp_ge (tgt := 100) d_To_init_78 rfl (fun q => absurd q (by decide)) (fun q => ?_))
  refine aw_aload_n d_To_init_81 1 rfl ?_
  refine aw_getR (t := (t + 4)) fl_To_23 (fx_isTK ht 0 (by decide)) (pr_get3 (by omega) ((hR _ _ (by omega) (by omega)).trans (fx_isTR ht 0 6 (by decide) (by decide)))) d_To_init_82 ?_
  refine aw_iload_n d_To_init_85 0 rfl ?_
  refine aw_new nw_To_21 (fx_isTK ht 37 (by decide)) rfl (Nat.le_of_ble_eq_true rfl) (Nat.le_of_ble_eq_true rfl) d_To_init_86 ?_
  refine aw_cD (zr_id (ZR.fl (hz.up (by omega)) (by omega))) ?_
  refine aw_cn (n' := (t + 38)) (by omega) ?_
  refine aw_dup d_To_init_89 rfl ?_
  refine aw_INu (As := []) (mi_Bo (t := (t + 37)) (isT_B2 ht 3 (by decide)) (δ := (flI δ (t + 1) 400 15)) (ZR.fl (hz.up (by omega)) (by omega)) (R := (pr R (t + 4) [3, 4, 5, 6, 7])) (fun b j h1 h2 => (pr_ne j (by omega)).trans (hR b j (by omega) (by omega)))) cc_To_47 rfl rfl rfl (Nat.le_of_ble_eq_true rfl) ⟨Nat.le_of_ble_eq_true rfl, Nat.le_of_ble_eq_true rfl⟩ ⟨Nat.le_of_ble_eq_true rfl, Nat.le_of_ble_eq_true rfl⟩ d_To_init_90 ?_
  refine aw_tru (c := inb (3 : Int32) 8) (by decide) (aw_aast6 (fx_isTK ht 4 (by decide)) (fx_isTK ht 37 (by decide)) d_To_init_93 ?_)
  refine aw_cR (pr_put ((hR _ _ (by omega) (by omega)).trans (fx_isTR ht 4 3 (by decide) (by decide))) (by decide)) ?_
  refine aw_iinc (v := (4 : Int32)) (lo' := [(1, .int (4 : Int32)), (0, .ref t)]) d_To_init_94 0 rfl (by decide) (by decide) rfl ?_
  refine aw_goto (tgt := 72) d_To_init_97 rfl ?_
  refine aw_iload_n d_To_init_72 0 rfl ?_
  refine aw_aload_n d_To_init_73 1 rfl ?_
  refine aw_getR (t := (t + 4)) fl_To_23 (fx_isTK ht 0 (by decide)) (pr_get3 (by omega) ((hR _ _ (by omega) (by omega)).trans (fx_isTR ht 0 6 (by decide) (by decide)))) d_To_init_74 ?_
  refine aw_alen (v := (8 : Int32)) (fx_isTK ht 4 (by decide)) ⟨by decide, by decide⟩ (by decide) d_To_init_77 ?_
  refine aw_same (c := (8 : Int32) ≤ (4 : Int32)) (aw_icmp_ge (tgt := 100) d_To_init_78 rfl (fun q => absurd q (by decide)) (fun q => ?_))
  refine aw_aload_n d_To_init_81 1 rfl ?_
  refine aw_getR (t := (t + 4)) fl_To_23 (fx_isTK ht 0 (by decide)) (pr_get3 (by omega) ((hR _ _ (by omega) (by omega)).trans (fx_isTR ht 0 6 (by decide) (by decide)))) d_To_init_82 ?_
  refine aw_iload_n d_To_init_85 0 rfl ?_
  refine aw_new nw_To_21 (fx_isTK ht 41 (by decide)) rfl (Nat.le_of_ble_eq_true rfl) (Nat.le_of_ble_eq_true rfl) d_To_init_86 ?_
  refine aw_cD (zr_id (ZR.fl (hz.up (by omega)) (by omega))) ?_
  refine aw_cn (n' := (t + 42)) (by omega) ?_
  refine aw_dup d_To_init_89 rfl ?_
  refine aw_INu (As := []) (mi_Bo (t := (t + 41)) (isT_B2 ht 4 (by decide)) (δ := (flI δ (t + 1) 400 15)) (ZR.fl (hz.up (by omega)) (by omega)) (R := (pr R (t + 4) [4, 5, 6, 7])) (fun b j h1 h2 => (pr_ne j (by omega)).trans (hR b j (by omega) (by omega)))) cc_To_47 rfl rfl rfl (Nat.le_of_ble_eq_true rfl) ⟨Nat.le_of_ble_eq_true rfl, Nat.le_of_ble_eq_true rfl⟩ ⟨Nat.le_of_ble_eq_true rfl, Nat.le_of_ble_eq_true rfl⟩ d_To_init_90 ?_
  refine aw_tru (c := inb (4 : Int32) 8) (by decide) (aw_aast6 (fx_isTK ht 4 (by decide)) (fx_isTK ht 41 (by decide)) d_To_init_93 ?_)
  refine aw_cR (pr_put ((hR _ _ (by omega) (by omega)).trans (fx_isTR ht 4 4 (by decide) (by decide))) (by decide)) ?_
  refine aw_iinc (v := (5 : Int32)) (lo' := [(1, .int (5 : Int32)), (0, .ref t)]) d_To_init_94 0 rfl (by decide) (by decide) rfl ?_
  refine aw_goto (tgt := 72) d_To_init_97 rfl ?_
  refine aw_iload_n d_To_init_72 0 rfl ?_
  refine aw_aload_n d_To_init_73 1 rfl ?_
  refine aw_getR (t := (t + 4)) fl_To_23 (fx_isTK ht 0 (by decide)) (pr_get3 (by omega) ((hR _ _ (by omega) (by omega)).trans (fx_isTR ht 0 6 (by decide) (by decide)))) d_To_init_74 ?_
  refine aw_alen (v := (8 : Int32)) (fx_isTK ht 4 (by decide)) ⟨by decide, by decide⟩ (by decide) d_To_init_77 ?_
  refine aw_same (c := (8 : Int32) ≤ (5 : Int32)) (aw_icmp_ge (tgt := 100) d_To_init_78 rfl (fun q => absurd q (by decide)) (fun q => ?_))
  refine aw_aload_n d_To_init_81 1 rfl ?_
  refine aw_getR (t := (t + 4)) fl_To_23 (fx_isTK ht 0 (by decide)) (pr_get3 (by omega) ((hR _ _ (by omega) (by omega)).trans (fx_isTR ht 0 6 (by decide) (by decide)))) d_To_init_82 ?_
  refine aw_iload_n d_To_init_85 0 rfl ?_
  refine aw_new nw_To_21 (fx_isTK ht 45 (by decide)) rfl (Nat.le_of_ble_eq_true rfl) (Nat.le_of_ble_eq_true rfl) d_To_init_86 ?_
  refine aw_cD (zr_id (ZR.fl (hz.up (by omega)) (by omega))) ?_
  refine aw_cn (n' := (t + 46)) (by omega) ?_
  refine aw_dup d_To_init_89 rfl ?_
  refine aw_INu (As := []) (mi_Bo (t := (t + 45)) (isT_B2 ht 5 (by decide)) (δ := (flI δ (t + 1) 400 15)) (ZR.fl (hz.up (by omega)) (by omega)) (R := (pr R (t + 4) [5, 6, 7])) (fun b j h1 h2 => (pr_ne j (by omega)).trans (hR b j (by omega) (by omega)))) cc_To_47 rfl rfl rfl (Nat.le_of_ble_eq_true rfl) ⟨Nat.le_of_ble_eq_true rfl, Nat.le_of_ble_eq_true rfl⟩ ⟨Nat.le_of_ble_eq_true rfl, Nat.le_of_ble_eq_true rfl⟩ d_To_init_90 ?_
  refine aw_tru (c := inb (5 : Int32) 8) (by decide) (aw_aast6 (fx_isTK ht 4 (by decide)) (fx_isTK ht 45 (by decide)) d_To_init_93 ?_)
  refine aw_cR (pr_put ((hR _ _ (by omega) (by omega)).trans (fx_isTR ht 4 5 (by decide) (by decide))) (by decide)) ?_
  refine aw_iinc (v := (6 : Int32)) (lo' := [(1, .int (6 : Int32)), (0, .ref t)]) d_To_init_94 0 rfl (by decide) (by decide) rfl ?_
  refine aw_goto (tgt := 72) d_To_init_97 rfl ?_
  refine aw_iload_n d_To_init_72 0 rfl ?_
  refine aw_aload_n d_To_init_73 1 rfl ?_
  refine aw_getR (t := (t + 4)) fl_To_23 (fx_isTK ht 0 (by decide)) (pr_get3 (by omega) ((hR _ _ (by omega) (by omega)).trans (fx_isTR ht 0 6 (by decide) (by decide)))) d_To_init_74 ?_
  refine aw_alen (v := (8 : Int32)) (fx_isTK ht 4 (by decide)) ⟨by decide, by decide⟩ (by decide) d_To_init_77 ?_
  refine aw_same (c := (8 : Int32) ≤ (6 : Int32)) (aw_icmp_ge (tgt := 100) d_To_init_78 rfl (fun q => absurd q (by decide)) (fun q => ?_))
  refine aw_aload_n d_To_init_81 1 rfl ?_
  refine aw_getR (t := (t + 4)) fl_To_23 (fx_isTK ht 0 (by decide)) (pr_get3 (by omega) ((hR _ _ (by omega) (by omega)).trans (fx_isTR ht 0 6 (by decide) (by decide)))) d_To_init_82 ?_
  refine aw_iload_n d_To_init_85 0 rfl ?_
  refine aw_new nw_To_21 (fx_isTK ht 49 (by decide)) rfl (Nat.le_of_ble_eq_true rfl) (Nat.le_of_ble_eq_true rfl) d_To_init_86 ?_
  refine aw_cD (zr_id (ZR.fl (hz.up (by omega)) (by omega))) ?_
  refine aw_cn (n' := (t + 50)) (by omega) ?_
  refine aw_dup d_To_init_89 rfl ?_
  refine aw_INu (As := []) (mi_Bo (t := (t + 49)) (isT_B2 ht 6 (by decide)) (δ := (flI δ (t + 1) 400 15)) (ZR.fl (hz.up (by omega)) (by omega)) (R := (pr R (t + 4) [6, 7])) (fun b j h1 h2 => (pr_ne j (by omega)).trans (hR b j (by omega) (by omega)))) cc_To_47 rfl rfl rfl (Nat.le_of_ble_eq_true rfl) ⟨Nat.le_of_ble_eq_true rfl, Nat.le_of_ble_eq_true rfl⟩ ⟨Nat.le_of_ble_eq_true rfl, Nat.le_of_ble_eq_true rfl⟩ d_To_init_90 ?_
  refine aw_tru (c := inb (6 : Int32) 8) (by decide) (aw_aast6 (fx_isTK ht 4 (by decide)) (fx_isTK ht 49 (by decide)) d_To_init_93 ?_)
  refine aw_cR (pr_put ((hR _ _ (by omega) (by omega)).trans (fx_isTR ht 4 6 (by decide) (by decide))) (by decide)) ?_
  refine aw_iinc (v := (7 : Int32)) (lo' := [(1, .int (7 : Int32)), (0, .ref t)]) d_To_init_94 0 rfl (by decide) (by decide) rfl ?_
  refine aw_goto (tgt := 72) d_To_init_97 rfl ?_
  refine aw_iload_n d_To_init_72 0 rfl ?_
  refine aw_aload_n d_To_init_73 1 rfl ?_
  refine aw_getR (t := (t + 4)) fl_To_23 (fx_isTK ht 0 (by decide)) (pr_get3 (by omega) ((hR _ _ (by omega) (by omega)).trans (fx_isTR ht 0 6 (by decide) (by decide)))) d_To_init_74 ?_
  refine aw_alen (v := (8 : Int32)) (fx_isTK ht 4 (by decide)) ⟨by decide, by decide⟩ (by decide) d_To_init_77 ?_
  refine aw_same (c := (8 : Int32) ≤ (7 : Int32)) (aw_icmp_ge (tgt := 100) d_To_init_78 rfl (fun q => absurd q (by decide)) (fun q => ?_))
  refine aw_aload_n d_To_init_81 1 rfl ?_
  refine aw_getR (t := (t + 4)) fl_To_23 (fx_isTK ht 0 (by decide)) (pr_get3 (by omega) ((hR _ _ (by omega) (by omega)).trans (fx_isTR ht 0 6 (by decide) (by decide)))) d_To_init_82 ?_
  refine aw_iload_n d_To_init_85 0 rfl ?_
  refine aw_new nw_To_21 (fx_isTK ht 53 (by decide)) rfl (Nat.le_of_ble_eq_true rfl) (Nat.le_of_ble_eq_true rfl) d_To_init_86 ?_
  refine aw_cD (zr_id (ZR.fl (hz.up (by omega)) (by omega))) ?_
  refine aw_cn (n' := (t + 54)) (by omega) ?_
  refine aw_dup d_To_init_89 rfl ?_
  refine aw_INu (As := []) (mi_Bo (t := (t + 53)) (isT_B2 ht 7 (by decide)) (δ := (flI δ (t + 1) 400 15)) (ZR.fl (hz.up (by omega)) (by omega)) (R := (pr R (t + 4) [7])) (fun b j h1 h2 => (pr_ne j (by omega)).trans (hR b j (by omega) (by omega)))) cc_To_47 rfl rfl rfl (Nat.le_of_ble_eq_true rfl) ⟨Nat.le_of_ble_eq_true rfl, Nat.le_of_ble_eq_true rfl⟩ ⟨Nat.le_of_ble_eq_true rfl, Nat.le_of_ble_eq_true rfl⟩ d_To_init_90 ?_
  refine aw_tru (c := inb (7 : Int32) 8) (by decide) (aw_aast6 (fx_isTK ht 4 (by decide)) (fx_isTK ht 53 (by decide)) d_To_init_93 ?_)
  refine aw_cR (pr_put ((hR _ _ (by omega) (by omega)).trans (fx_isTR ht 4 7 (by decide) (by decide))) (by decide)) ?_
  refine aw_cR pr_0 ?_
  refine aw_iinc (v := (8 : Int32)) (lo' := [(1, .int (8 : Int32)), (0, .ref t)]) d_To_init_94 0 rfl (by decide) (by decide) rfl ?_
  refine aw_goto (tgt := 72) d_To_init_97 rfl ?_
  refine aw_iload_n d_To_init_72 0 rfl ?_
  refine aw_aload_n d_To_init_73 1 rfl ?_
  refine aw_getR (t := (t + 4)) fl_To_23 (fx_isTK ht 0 (by decide)) ((hR _ _ (by omega) (by omega)).trans (fx_isTR ht 0 6 (by decide) (by decide))) d_To_init_74 ?_
  refine aw_alen (v := (8 : Int32)) (fx_isTK ht 4 (by decide)) ⟨by decide, by decide⟩ (by decide) d_To_init_77 ?_
  refine aw_same (c := (8 : Int32) ≤ (8 : Int32)) (aw_icmp_ge (tgt := 100) d_To_init_78 rfl (fun q => ?_) (fun q => absurd (by decide) q))
  exact aw_vret rfl rfl ⟨Nat.le_of_ble_eq_true rfl, Nat.le_of_ble_eq_true rfl⟩ d_To_init_100

set_option maxHeartbeats 8000000 in
set_option maxRecDepth 100000 in
theorem mi_Fp {δ : Dm} (hz : ZR δ 4) {R : Rm} (hR : ∀ b j, 4 ≤ b → b < 151 → R b j = RT b j) : AMet k_Fp_init 4 146 20191 [.ref 4] δ (clr R 4) 5 (none, (flI (sI δ 7 8 (nI 11)) 30 400 15), R, 151) := by
  refine aw_start (KK := fun _ : Unit => (none, (flI (sI δ 7 8 (nI 11)) 30 400 15), R, 151)) (res := some ()) (lo := [(0, .ref 4)]) mok_Fp_init rfl (Nat.le_of_ble_eq_true rfl) ?_ () rfl
  refine aw_cR (pr_clr [0, 2, 4, 5, 6, 7, 8, 9, 10] (fun j hj => (hR _ j (by omega) (by omega)).trans ((rn_lit 4 (by decide) [0, 2, 4, 5, 6, 7, 8, 9, 10] (by decide +kernel)) j hj))) ?_
  refine aw_aload_n d_Fp_init_0 0 rfl ?_
  refine aw_objInit (own := "") oi_Fp_1 ob_1 ob_2 (Nat.le_of_ble_eq_true rfl) (by decide) d_Fp_init_1 ?_
  refine aw_aload_n d_Fp_init_4 0 rfl ?_
  refine aw_sipush d_Fp_init_5 ks_400 ?_
  refine aw_newa_int kd_5 (by decide) (by decide) (Nat.le_of_ble_eq_true rfl) (Nat.le_of_ble_eq_true rfl) (Nat.le_of_ble_eq_true rfl) ac_int d_Fp_init_8 ?_
  refine aw_cD (zr_id (hz.up (by omega))) ?_
  refine aw_cR (pr_new (fun j => (pr_ne j (by omega)).trans ((hR _ j (by omega) (by omega)).trans ((rn_lit 5 (by decide) [] (by decide +kernel)) j (by simp))))) ?_
  refine aw_cn (n' := 6) (by omega) ?_
  refine aw_putR pf_Fp_9 (fun _ => rfl) (fun _ => rfl) (fun _ => rfl) (by omega) kd_4 d_Fp_init_10 ?_
  refine aw_cR (pr_put ((hR _ _ (by omega) (by omega)).trans rt_4_0) (by decide)) ?_
  refine aw_aload_n d_Fp_init_13 0 rfl ?_
  refine aw_bipush d_Fp_init_14 kb_8 ?_
  refine aw_newq5 kd_6 (by decide) (by decide) (Nat.le_of_ble_eq_true rfl) (Nat.le_of_ble_eq_true rfl) (Nat.le_of_ble_eq_true rfl) cl_Fp_13 d_Fp_init_16 ?_
  refine aw_cD (zr_id (hz.up (by omega))) ?_
  refine aw_cR (pr_clr [0, 1, 2, 3, 4, 5, 6, 7] (fun j hj => (pr_ne j (by omega)).trans ((hR _ j (by omega) (by omega)).trans ((rn_lit 6 (by decide) [0, 1, 2, 3, 4, 5, 6, 7] (by decide +kernel)) j hj)))) ?_
  refine aw_cn (n' := 7) (by omega) ?_
  refine aw_putR pf_Fp_15 (fun _ => rfl) (fun _ => rfl) (fun _ => rfl) (by omega) kd_4 d_Fp_init_19 ?_
  refine aw_cR (pr_put2 (by omega) ((hR _ _ (by omega) (by omega)).trans rt_4_2) (by decide)) ?_
  refine aw_aload_n d_Fp_init_22 0 rfl ?_
  refine aw_new nw_Fp_19 kd_7 rfl (Nat.le_of_ble_eq_true rfl) (Nat.le_of_ble_eq_true rfl) d_Fp_init_23 ?_
  refine aw_cD (zr_id (hz.up (by omega))) ?_
  refine aw_cn (n' := 8) (by omega) ?_
  refine aw_dup d_Fp_init_26 rfl ?_
  refine aw_INu (As := []) (mi_Re (δ := δ) (hz.up (by omega)) (R := (pr (pr R 4 [4, 5, 6, 7, 8, 9, 10]) 6 [0, 1, 2, 3, 4, 5, 6, 7])) (fun b j h1 h2 => (pr_ne j (by omega)).trans ((pr_ne j (by omega)).trans (hR b j (by omega) (by omega))))) cc_Fp_21 rfl rfl rfl (Nat.le_of_ble_eq_true rfl) ⟨Nat.le_of_ble_eq_true rfl, Nat.le_of_ble_eq_true rfl⟩ ⟨Nat.le_of_ble_eq_true rfl, Nat.le_of_ble_eq_true rfl⟩ d_Fp_init_27 ?_
  refine aw_putR pf_Fp_22 (fun _ => rfl) (fun _ => rfl) (fun _ => rfl) (by omega) kd_4 d_Fp_init_30 ?_
  refine aw_cR (pr_put2 (by omega) ((hR _ _ (by omega) (by omega)).trans rt_4_4) (by decide)) ?_
  refine aw_aload_n d_Fp_init_33 0 rfl ?_
  refine aw_new nw_Fp_26 kd_19 rfl (Nat.le_of_ble_eq_true rfl) (Nat.le_of_ble_eq_true rfl) d_Fp_init_34 ?_
  refine aw_cD (zr_id (ZR.si (hz.up (by omega)) (by omega))) ?_
  refine aw_cn (n' := 20) (by omega) ?_
  refine aw_dup d_Fp_init_37 rfl ?_
  refine aw_INu (As := []) (mi_Fa (δ := (sI δ 7 8 (nI 11))) (ZR.si (hz.up (by omega)) (by omega)) (R := (pr (pr R 4 [5, 6, 7, 8, 9, 10]) 6 [0, 1, 2, 3, 4, 5, 6, 7])) (fun b j h1 h2 => (pr_ne j (by omega)).trans ((pr_ne j (by omega)).trans (hR b j (by omega) (by omega))))) cc_Fp_28 rfl rfl rfl (Nat.le_of_ble_eq_true rfl) ⟨Nat.le_of_ble_eq_true rfl, Nat.le_of_ble_eq_true rfl⟩ ⟨Nat.le_of_ble_eq_true rfl, Nat.le_of_ble_eq_true rfl⟩ d_Fp_init_38 ?_
  refine aw_putR pf_Fp_29 (fun _ => rfl) (fun _ => rfl) (fun _ => rfl) (by omega) kd_4 d_Fp_init_41 ?_
  refine aw_cR (pr_put2 (by omega) ((hR _ _ (by omega) (by omega)).trans rt_4_5) (by decide)) ?_
  refine aw_aload_n d_Fp_init_44 0 rfl ?_
  refine aw_new nw_Fp_33 kd_22 rfl (Nat.le_of_ble_eq_true rfl) (Nat.le_of_ble_eq_true rfl) d_Fp_init_45 ?_
  refine aw_cD (zr_id (ZR.si (hz.up (by omega)) (by omega))) ?_
  refine aw_cn (n' := 23) (by omega) ?_
  refine aw_dup d_Fp_init_48 rfl ?_
  refine aw_INu (As := []) (mi_Rp (δ := (sI δ 7 8 (nI 11))) (ZR.si (hz.up (by omega)) (by omega)) (R := (pr (pr R 4 [6, 7, 8, 9, 10]) 6 [0, 1, 2, 3, 4, 5, 6, 7])) (fun b j h1 h2 => (pr_ne j (by omega)).trans ((pr_ne j (by omega)).trans (hR b j (by omega) (by omega))))) cc_Fp_35 rfl rfl rfl (Nat.le_of_ble_eq_true rfl) ⟨Nat.le_of_ble_eq_true rfl, Nat.le_of_ble_eq_true rfl⟩ ⟨Nat.le_of_ble_eq_true rfl, Nat.le_of_ble_eq_true rfl⟩ d_Fp_init_49 ?_
  refine aw_putR pf_Fp_36 (fun _ => rfl) (fun _ => rfl) (fun _ => rfl) (by omega) kd_4 d_Fp_init_52 ?_
  refine aw_cR (pr_put2 (by omega) ((hR _ _ (by omega) (by omega)).trans rt_4_6) (by decide)) ?_
  refine aw_aload_n d_Fp_init_55 0 rfl ?_
  refine aw_new nw_Fp_40 kd_25 rfl (Nat.le_of_ble_eq_true rfl) (Nat.le_of_ble_eq_true rfl) d_Fp_init_56 ?_
  refine aw_cD (zr_id (ZR.si (hz.up (by omega)) (by omega))) ?_
  refine aw_cn (n' := 26) (by omega) ?_
  refine aw_dup d_Fp_init_59 rfl ?_
  refine aw_INu (As := []) (mi_Ro (δ := (sI δ 7 8 (nI 11))) (ZR.si (hz.up (by omega)) (by omega)) (R := (pr (pr R 4 [7, 8, 9, 10]) 6 [0, 1, 2, 3, 4, 5, 6, 7])) (fun b j h1 h2 => (pr_ne j (by omega)).trans ((pr_ne j (by omega)).trans (hR b j (by omega) (by omega))))) cc_Fp_42 rfl rfl rfl (Nat.le_of_ble_eq_true rfl) ⟨Nat.le_of_ble_eq_true rfl, Nat.le_of_ble_eq_true rfl⟩ ⟨Nat.le_of_ble_eq_true rfl, Nat.le_of_ble_eq_true rfl⟩ d_Fp_init_60 ?_
  refine aw_putR pf_Fp_43 (fun _ => rfl) (fun _ => rfl) (fun _ => rfl) (by omega) kd_4 d_Fp_init_63 ?_
  refine aw_cR (pr_put2 (by omega) ((hR _ _ (by omega) (by omega)).trans rt_4_7) (by decide)) ?_
  refine aw_aload_n d_Fp_init_66 0 rfl ?_
  refine aw_new nw_Fp_47 kd_27 rfl (Nat.le_of_ble_eq_true rfl) (Nat.le_of_ble_eq_true rfl) d_Fp_init_67 ?_
  refine aw_cD (zr_id (ZR.si (hz.up (by omega)) (by omega))) ?_
  refine aw_cn (n' := 28) (by omega) ?_
  refine aw_dup d_Fp_init_70 rfl ?_
  refine aw_INu (As := []) (mi_Cr (δ := (sI δ 7 8 (nI 11))) (ZR.si (hz.up (by omega)) (by omega)) (R := (pr (pr R 4 [8, 9, 10]) 6 [0, 1, 2, 3, 4, 5, 6, 7])) (fun b j h1 h2 => (pr_ne j (by omega)).trans ((pr_ne j (by omega)).trans (hR b j (by omega) (by omega))))) cc_Fp_49 rfl rfl rfl (Nat.le_of_ble_eq_true rfl) ⟨Nat.le_of_ble_eq_true rfl, Nat.le_of_ble_eq_true rfl⟩ ⟨Nat.le_of_ble_eq_true rfl, Nat.le_of_ble_eq_true rfl⟩ d_Fp_init_71 ?_
  refine aw_putR pf_Fp_50 (fun _ => rfl) (fun _ => rfl) (fun _ => rfl) (by omega) kd_4 d_Fp_init_74 ?_
  refine aw_cR (pr_put2 (by omega) ((hR _ _ (by omega) (by omega)).trans rt_4_8) (by decide)) ?_
  refine aw_aload_n d_Fp_init_77 0 rfl ?_
  refine aw_new nw_Fp_54 kd_29 rfl (Nat.le_of_ble_eq_true rfl) (Nat.le_of_ble_eq_true rfl) d_Fp_init_78 ?_
  refine aw_cD (zr_id (ZR.si (hz.up (by omega)) (by omega))) ?_
  refine aw_cn (n' := 30) (by omega) ?_
  refine aw_dup d_Fp_init_81 rfl ?_
  refine aw_Iu (As := []) (mi_To (t := 29) (by decide) (δ := (sI δ 7 8 (nI 11))) (ZR.si (hz.up (by omega)) (by omega)) (R := (pr (pr R 4 [9, 10]) 6 [0, 1, 2, 3, 4, 5, 6, 7])) (fun b j h1 h2 => (pr_ne j (by omega)).trans ((pr_ne j (by omega)).trans (hR b j (by omega) (by omega))))) cc_Fp_56 rfl rfl rfl (Nat.le_of_ble_eq_true rfl) ⟨Nat.le_of_ble_eq_true rfl, Nat.le_of_ble_eq_true rfl⟩ ⟨Nat.le_of_ble_eq_true rfl, Nat.le_of_ble_eq_true rfl⟩ d_Fp_init_82 ?_
  refine aw_putR pf_Fp_57 (fun _ => rfl) (fun _ => rfl) (fun _ => rfl) (by omega) kd_4 d_Fp_init_85 ?_
  refine aw_cR (pr_put2 (by omega) ((hR _ _ (by omega) (by omega)).trans rt_4_9) (by decide)) ?_
  refine aw_aload_n d_Fp_init_88 0 rfl ?_
  refine aw_iconst d_Fp_init_89 ki_4 ?_
  refine aw_newq7 kd_86 (by decide) (by decide) (Nat.le_of_ble_eq_true rfl) (Nat.le_of_ble_eq_true rfl) (Nat.le_of_ble_eq_true rfl) cl_Fp_54 d_Fp_init_90 ?_
  refine aw_cD (zr_id (ZR.fl (ZR.si (hz.up (by omega)) (by omega)) (by omega))) ?_
  refine aw_cR (pr_new (fun j => (pr_ne j (by omega)).trans ((pr_ne j (by omega)).trans ((hR _ j (by omega) (by omega)).trans ((rn_lit 86 (by decide) [] (by decide +kernel)) j (by simp)))))) ?_
  refine aw_cn (n' := 87) (by omega) ?_
  refine aw_putR pf_Fp_61 (fun _ => rfl) (fun _ => rfl) (fun _ => rfl) (by omega) kd_4 d_Fp_init_93 ?_
  refine aw_cR (pr_put2 (by omega) ((hR _ _ (by omega) (by omega)).trans rt_4_10) (by decide)) ?_
  refine aw_cR (R' := (pr R 6 [0, 1, 2, 3, 4, 5, 6, 7])) (by rw [pr_0]) ?_
  refine aw_iconst d_Fp_init_96 ki_0 ?_
  refine aw_istore_n (lo' := [(1, .int (0 : Int32)), (0, .ref 4)]) d_Fp_init_97 rfl (by decide) rfl ?_
  refine aw_iload_n d_Fp_init_98 0 rfl ?_
  refine aw_aload_n d_Fp_init_99 1 rfl ?_
  refine aw_getR (t := 6) fl_Fp_15 kd_4 (pr_get3 (by omega) ((hR _ _ (by omega) (by omega)).trans rt_4_2)) d_Fp_init_100 ?_
  refine aw_alen (v := (8 : Int32)) kd_6 ⟨by decide, by decide⟩ (by decide) d_Fp_init_103 ?_
  refine aw_same (c := (8 : Int32) ≤ (0 : Int32)) (aw_icmp_ge (tgt := 126) d_Fp_init_104 rfl (fun q => absurd q (by decide)) (fun q => ?_))
  refine aw_aload_n d_Fp_init_107 1 rfl ?_
  refine aw_getR (t := 6) fl_Fp_15 kd_4 (pr_get3 (by omega) ((hR _ _ (by omega) (by omega)).trans rt_4_2)) d_Fp_init_108 ?_
  refine aw_iload_n d_Fp_init_111 0 rfl ?_
  refine aw_new nw_Fp_13 kd_87 rfl (Nat.le_of_ble_eq_true rfl) (Nat.le_of_ble_eq_true rfl) d_Fp_init_112 ?_
  refine aw_cD (zr_id (ZR.fl (ZR.si (hz.up (by omega)) (by omega)) (by omega))) ?_
  refine aw_cn (n' := 88) (by omega) ?_
  refine aw_dup d_Fp_init_115 rfl ?_
  refine aw_INu (As := []) (mi_La (t := 87) (by decide) (δ := (flI (sI δ 7 8 (nI 11)) 30 400 15)) (ZR.fl (ZR.si (hz.up (by omega)) (by omega)) (by omega)) (R := (pr R 6 [0, 1, 2, 3, 4, 5, 6, 7])) (fun b j h1 h2 => (pr_ne j (by omega)).trans (hR b j (by omega) (by omega)))) cc_Fp_65 rfl rfl rfl (Nat.le_of_ble_eq_true rfl) ⟨Nat.le_of_ble_eq_true rfl, Nat.le_of_ble_eq_true rfl⟩ ⟨Nat.le_of_ble_eq_true rfl, Nat.le_of_ble_eq_true rfl⟩ d_Fp_init_116 ?_
  refine aw_tru (c := inb (0 : Int32) 8) (by decide) (aw_aast5 kd_6 kd_87 d_Fp_init_119 ?_)
  refine aw_cR (pr_put ((hR _ _ (by omega) (by omega)).trans rt_6_0) (by decide)) ?_
  refine aw_iinc (v := (1 : Int32)) (lo' := [(1, .int (1 : Int32)), (0, .ref 4)]) d_Fp_init_120 0 rfl (by decide) (by decide) rfl ?_
  refine aw_goto (tgt := 98) d_Fp_init_123 rfl ?_
  refine aw_iload_n d_Fp_init_98 0 rfl ?_
  refine aw_aload_n d_Fp_init_99 1 rfl ?_
  refine aw_getR (t := 6) fl_Fp_15 kd_4 (pr_get3 (by omega) ((hR _ _ (by omega) (by omega)).trans rt_4_2)) d_Fp_init_100 ?_
  refine aw_alen (v := (8 : Int32)) kd_6 ⟨by decide, by decide⟩ (by decide) d_Fp_init_103 ?_
  refine aw_same (c := (8 : Int32) ≤ (1 : Int32)) (aw_icmp_ge (tgt := 126) d_Fp_init_104 rfl (fun q => absurd q (by decide)) (fun q => ?_))
  refine aw_aload_n d_Fp_init_107 1 rfl ?_
  refine aw_getR (t := 6) fl_Fp_15 kd_4 (pr_get3 (by omega) ((hR _ _ (by omega) (by omega)).trans rt_4_2)) d_Fp_init_108 ?_
  refine aw_iload_n d_Fp_init_111 0 rfl ?_
  refine aw_new nw_Fp_13 kd_95 rfl (Nat.le_of_ble_eq_true rfl) (Nat.le_of_ble_eq_true rfl) d_Fp_init_112 ?_
  refine aw_cD (zr_id (ZR.fl (ZR.si (hz.up (by omega)) (by omega)) (by omega))) ?_
  refine aw_cn (n' := 96) (by omega) ?_
  refine aw_dup d_Fp_init_115 rfl ?_
  refine aw_INu (As := []) (mi_La (t := 95) (by decide) (δ := (flI (sI δ 7 8 (nI 11)) 30 400 15)) (ZR.fl (ZR.si (hz.up (by omega)) (by omega)) (by omega)) (R := (pr R 6 [1, 2, 3, 4, 5, 6, 7])) (fun b j h1 h2 => (pr_ne j (by omega)).trans (hR b j (by omega) (by omega)))) cc_Fp_65 rfl rfl rfl (Nat.le_of_ble_eq_true rfl) ⟨Nat.le_of_ble_eq_true rfl, Nat.le_of_ble_eq_true rfl⟩ ⟨Nat.le_of_ble_eq_true rfl, Nat.le_of_ble_eq_true rfl⟩ d_Fp_init_116 ?_
  refine aw_tru (c := inb (1 : Int32) 8) (by decide) (aw_aast5 kd_6 kd_95 d_Fp_init_119 ?_)
  refine aw_cR (pr_put ((hR _ _ (by omega) (by omega)).trans rt_6_1) (by decide)) ?_
  refine aw_iinc (v := (2 : Int32)) (lo' := [(1, .int (2 : Int32)), (0, .ref 4)]) d_Fp_init_120 0 rfl (by decide) (by decide) rfl ?_
  refine aw_goto (tgt := 98) d_Fp_init_123 rfl ?_
  refine aw_iload_n d_Fp_init_98 0 rfl ?_
  refine aw_aload_n d_Fp_init_99 1 rfl ?_
  refine aw_getR (t := 6) fl_Fp_15 kd_4 (pr_get3 (by omega) ((hR _ _ (by omega) (by omega)).trans rt_4_2)) d_Fp_init_100 ?_
  refine aw_alen (v := (8 : Int32)) kd_6 ⟨by decide, by decide⟩ (by decide) d_Fp_init_103 ?_
  refine aw_same (c := (8 : Int32) ≤ (2 : Int32)) (aw_icmp_ge (tgt := 126) d_Fp_init_104 rfl (fun q => absurd q (by decide)) (fun q => ?_))
  refine aw_aload_n d_Fp_init_107 1 rfl ?_
  refine aw_getR (t := 6) fl_Fp_15 kd_4 (pr_get3 (by omega) ((hR _ _ (by omega) (by omega)).trans rt_4_2)) d_Fp_init_108 ?_
  refine aw_iload_n d_Fp_init_111 0 rfl ?_
  refine aw_new nw_Fp_13 kd_103 rfl (Nat.le_of_ble_eq_true rfl) (Nat.le_of_ble_eq_true rfl) d_Fp_init_112 ?_
  refine aw_cD (zr_id (ZR.fl (ZR.si (hz.up (by omega)) (by omega)) (by omega))) ?_
  refine aw_cn (n' := 104) (by omega) ?_
  refine aw_dup d_Fp_init_115 rfl ?_
  refine aw_INu (As := []) (mi_La (t := 103) (by decide) (δ := (flI (sI δ 7 8 (nI 11)) 30 400 15)) (ZR.fl (ZR.si (hz.up (by omega)) (by omega)) (by omega)) (R := (pr R 6 [2, 3, 4, 5, 6, 7])) (fun b j h1 h2 => (pr_ne j (by omega)).trans (hR b j (by omega) (by omega)))) cc_Fp_65 rfl rfl rfl (Nat.le_of_ble_eq_true rfl) ⟨Nat.le_of_ble_eq_true rfl, Nat.le_of_ble_eq_true rfl⟩ ⟨Nat.le_of_ble_eq_true rfl, Nat.le_of_ble_eq_true rfl⟩ d_Fp_init_116 ?_
  refine aw_tru (c := inb (2 : Int32) 8) (by decide) (aw_aast5 kd_6 kd_103 d_Fp_init_119 ?_)
  refine aw_cR (pr_put ((hR _ _ (by omega) (by omega)).trans rt_6_2) (by decide)) ?_
  refine aw_iinc (v := (3 : Int32)) (lo' := [(1, .int (3 : Int32)), (0, .ref 4)]) d_Fp_init_120 0 rfl (by decide) (by decide) rfl ?_
  refine aw_goto (tgt := 98) d_Fp_init_123 rfl ?_
  refine aw_iload_n d_Fp_init_98 0 rfl ?_
  refine aw_aload_n d_Fp_init_99 1 rfl ?_
  refine aw_getR (t := 6) fl_Fp_15 kd_4 (pr_get3 (by omega) ((hR _ _ (by omega) (by omega)).trans rt_4_2)) d_Fp_init_100 ?_
  refine aw_alen (v := (8 : Int32)) kd_6 ⟨by decide, by decide⟩ (by decide) d_Fp_init_103 ?_
  refine aw_same (c := (8 : Int32) ≤ (3 : Int32)) (aw_icmp_ge (tgt := 126) d_Fp_init_104 rfl (fun q => absurd q (by decide)) (fun q => ?_))
  refine aw_aload_n d_Fp_init_107 1 rfl ?_
  refine aw_getR (t := 6) fl_Fp_15 kd_4 (pr_get3 (by omega) ((hR _ _ (by omega) (by omega)).trans rt_4_2)) d_Fp_init_108 ?_
  refine aw_iload_n d_Fp_init_111 0 rfl ?_
  refine aw_new nw_Fp_13 kd_111 rfl (Nat.le_of_ble_eq_true rfl) (Nat.le_of_ble_eq_true rfl) d_Fp_init_112 ?_
  refine aw_cD (zr_id (ZR.fl (ZR.si (hz.up (by omega)) (by omega)) (by omega))) ?_
  refine aw_cn (n' := 112) (by omega) ?_
  refine aw_dup d_Fp_init_115 rfl ?_
  refine aw_INu (As := []) (mi_La (t := 111) (by decide) (δ := (flI (sI δ 7 8 (nI 11)) 30 400 15)) (ZR.fl (ZR.si (hz.up (by omega)) (by omega)) (by omega)) (R := (pr R 6 [3, 4, 5, 6, 7])) (fun b j h1 h2 => (pr_ne j (by omega)).trans (hR b j (by omega) (by omega)))) cc_Fp_65 rfl rfl rfl (Nat.le_of_ble_eq_true rfl) ⟨Nat.le_of_ble_eq_true rfl, Nat.le_of_ble_eq_true rfl⟩ ⟨Nat.le_of_ble_eq_true rfl, Nat.le_of_ble_eq_true rfl⟩ d_Fp_init_116 ?_
  refine aw_tru (c := inb (3 : Int32) 8) (by decide) (aw_aast5 kd_6 kd_111 d_Fp_init_119 ?_)
  refine aw_cR (pr_put ((hR _ _ (by omega) (by omega)).trans rt_6_3) (by decide)) ?_
  refine aw_iinc (v := (4 : Int32)) (lo' := [(1, .int (4 : Int32)), (0, .ref 4)]) d_Fp_init_120 0 rfl (by decide) (by decide) rfl ?_
  refine aw_goto (tgt := 98) d_Fp_init_123 rfl ?_
  refine aw_iload_n d_Fp_init_98 0 rfl ?_
  refine aw_aload_n d_Fp_init_99 1 rfl ?_
  refine aw_getR (t := 6) fl_Fp_15 kd_4 (pr_get3 (by omega) ((hR _ _ (by omega) (by omega)).trans rt_4_2)) d_Fp_init_100 ?_
  refine aw_alen (v := (8 : Int32)) kd_6 ⟨by decide, by decide⟩ (by decide) d_Fp_init_103 ?_
  refine aw_same (c := (8 : Int32) ≤ (4 : Int32)) (aw_icmp_ge (tgt := 126) d_Fp_init_104 rfl (fun q => absurd q (by decide)) (fun q => ?_))
  refine aw_aload_n d_Fp_init_107 1 rfl ?_
  refine aw_getR (t := 6) fl_Fp_15 kd_4 (pr_get3 (by omega) ((hR _ _ (by omega) (by omega)).trans rt_4_2)) d_Fp_init_108 ?_
  refine aw_iload_n d_Fp_init_111 0 rfl ?_
  refine aw_new nw_Fp_13 kd_119 rfl (Nat.le_of_ble_eq_true rfl) (Nat.le_of_ble_eq_true rfl) d_Fp_init_112 ?_
  refine aw_cD (zr_id (ZR.fl (ZR.si (hz.up (by omega)) (by omega)) (by omega))) ?_
  refine aw_cn (n' := 120) (by omega) ?_
  refine aw_dup d_Fp_init_115 rfl ?_
  refine aw_INu (As := []) (mi_La (t := 119) (by decide) (δ := (flI (sI δ 7 8 (nI 11)) 30 400 15)) (ZR.fl (ZR.si (hz.up (by omega)) (by omega)) (by omega)) (R := (pr R 6 [4, 5, 6, 7])) (fun b j h1 h2 => (pr_ne j (by omega)).trans (hR b j (by omega) (by omega)))) cc_Fp_65 rfl rfl rfl (Nat.le_of_ble_eq_true rfl) ⟨Nat.le_of_ble_eq_true rfl, Nat.le_of_ble_eq_true rfl⟩ ⟨Nat.le_of_ble_eq_true rfl, Nat.le_of_ble_eq_true rfl⟩ d_Fp_init_116 ?_
  refine aw_tru (c := inb (4 : Int32) 8) (by decide) (aw_aast5 kd_6 kd_119 d_Fp_init_119 ?_)
  refine aw_cR (pr_put ((hR _ _ (by omega) (by omega)).trans rt_6_4) (by decide)) ?_
  refine aw_iinc (v := (5 : Int32)) (lo' := [(1, .int (5 : Int32)), (0, .ref 4)]) d_Fp_init_120 0 rfl (by decide) (by decide) rfl ?_
  refine aw_goto (tgt := 98) d_Fp_init_123 rfl ?_
  refine aw_iload_n d_Fp_init_98 0 rfl ?_
  refine aw_aload_n d_Fp_init_99 1 rfl ?_
  refine aw_getR (t := 6) fl_Fp_15 kd_4 (pr_get3 (by omega) ((hR _ _ (by omega) (by omega)).trans rt_4_2)) d_Fp_init_100 ?_
  refine aw_alen (v := (8 : Int32)) kd_6 ⟨by decide, by decide⟩ (by decide) d_Fp_init_103 ?_
  refine aw_same (c := (8 : Int32) ≤ (5 : Int32)) (aw_icmp_ge (tgt := 126) d_Fp_init_104 rfl (fun q => absurd q (by decide)) (fun q => ?_))
  refine aw_aload_n d_Fp_init_107 1 rfl ?_
  refine aw_getR (t := 6) fl_Fp_15 kd_4 (pr_get3 (by omega) ((hR _ _ (by omega) (by omega)).trans rt_4_2)) d_Fp_init_108 ?_
  refine aw_iload_n d_Fp_init_111 0 rfl ?_
  refine aw_new nw_Fp_13 kd_127 rfl (Nat.le_of_ble_eq_true rfl) (Nat.le_of_ble_eq_true rfl) d_Fp_init_112 ?_
  refine aw_cD (zr_id (ZR.fl (ZR.si (hz.up (by omega)) (by omega)) (by omega))) ?_
  refine aw_cn (n' := 128) (by omega) ?_
  refine aw_dup d_Fp_init_115 rfl ?_
  refine aw_INu (As := []) (mi_La (t := 127) (by decide) (δ := (flI (sI δ 7 8 (nI 11)) 30 400 15)) (ZR.fl (ZR.si (hz.up (by omega)) (by omega)) (by omega)) (R := (pr R 6 [5, 6, 7])) (fun b j h1 h2 => (pr_ne j (by omega)).trans (hR b j (by omega) (by omega)))) cc_Fp_65 rfl rfl rfl (Nat.le_of_ble_eq_true rfl) ⟨Nat.le_of_ble_eq_true rfl, Nat.le_of_ble_eq_true rfl⟩ ⟨Nat.le_of_ble_eq_true rfl, Nat.le_of_ble_eq_true rfl⟩ d_Fp_init_116 ?_
  refine aw_tru (c := inb (5 : Int32) 8) (by decide) (aw_aast5 kd_6 kd_127 d_Fp_init_119 ?_)
  refine aw_cR (pr_put ((hR _ _ (by omega) (by omega)).trans rt_6_5) (by decide)) ?_
  refine aw_iinc (v := (6 : Int32)) (lo' := [(1, .int (6 : Int32)), (0, .ref 4)]) d_Fp_init_120 0 rfl (by decide) (by decide) rfl ?_
  refine aw_goto (tgt := 98) d_Fp_init_123 rfl ?_
  refine aw_iload_n d_Fp_init_98 0 rfl ?_
  refine aw_aload_n d_Fp_init_99 1 rfl ?_
  refine aw_getR (t := 6) fl_Fp_15 kd_4 (pr_get3 (by omega) ((hR _ _ (by omega) (by omega)).trans rt_4_2)) d_Fp_init_100 ?_
  refine aw_alen (v := (8 : Int32)) kd_6 ⟨by decide, by decide⟩ (by decide) d_Fp_init_103 ?_
  refine aw_same (c := (8 : Int32) ≤ (6 : Int32)) (aw_icmp_ge (tgt := 126) d_Fp_init_104 rfl (fun q => absurd q (by decide)) (fun q => ?_))
  refine aw_aload_n d_Fp_init_107 1 rfl ?_
  refine aw_getR (t := 6) fl_Fp_15 kd_4 (pr_get3 (by omega) ((hR _ _ (by omega) (by omega)).trans rt_4_2)) d_Fp_init_108 ?_
  refine aw_iload_n d_Fp_init_111 0 rfl ?_
  refine aw_new nw_Fp_13 kd_135 rfl (Nat.le_of_ble_eq_true rfl) (Nat.le_of_ble_eq_true rfl) d_Fp_init_112 ?_
  refine aw_cD (zr_id (ZR.fl (ZR.si (hz.up (by omega)) (by omega)) (by omega))) ?_
  refine aw_cn (n' := 136) (by omega) ?_
  refine aw_dup d_Fp_init_115 rfl ?_
  refine aw_INu (As := []) (mi_La (t := 135) (by decide) (δ := (flI (sI δ 7 8 (nI 11)) 30 400 15)) (ZR.fl (ZR.si (hz.up (by omega)) (by omega)) (by omega)) (R := (pr R 6 [6, 7])) (fun b j h1 h2 => (pr_ne j (by omega)).trans (hR b j (by omega) (by omega)))) cc_Fp_65 rfl rfl rfl (Nat.le_of_ble_eq_true rfl) ⟨Nat.le_of_ble_eq_true rfl, Nat.le_of_ble_eq_true rfl⟩ ⟨Nat.le_of_ble_eq_true rfl, Nat.le_of_ble_eq_true rfl⟩ d_Fp_init_116 ?_
  refine aw_tru (c := inb (6 : Int32) 8) (by decide) (aw_aast5 kd_6 kd_135 d_Fp_init_119 ?_)
  refine aw_cR (pr_put ((hR _ _ (by omega) (by omega)).trans rt_6_6) (by decide)) ?_
  refine aw_iinc (v := (7 : Int32)) (lo' := [(1, .int (7 : Int32)), (0, .ref 4)]) d_Fp_init_120 0 rfl (by decide) (by decide) rfl ?_
  refine aw_goto (tgt := 98) d_Fp_init_123 rfl ?_
  refine aw_iload_n d_Fp_init_98 0 rfl ?_
  refine aw_aload_n d_Fp_init_99 1 rfl ?_
  refine aw_getR (t := 6) fl_Fp_15 kd_4 (pr_get3 (by omega) ((hR _ _ (by omega) (by omega)).trans rt_4_2)) d_Fp_init_100 ?_
  refine aw_alen (v := (8 : Int32)) kd_6 ⟨by decide, by decide⟩ (by decide) d_Fp_init_103 ?_
  refine aw_same (c := (8 : Int32) ≤ (7 : Int32)) (aw_icmp_ge (tgt := 126) d_Fp_init_104 rfl (fun q => absurd q (by decide)) (fun q => ?_))
  refine aw_aload_n d_Fp_init_107 1 rfl ?_
  refine aw_getR (t := 6) fl_Fp_15 kd_4 (pr_get3 (by omega) ((hR _ _ (by omega) (by omega)).trans rt_4_2)) d_Fp_init_108 ?_
  refine aw_iload_n d_Fp_init_111 0 rfl ?_
  refine aw_new nw_Fp_13 kd_143 rfl (Nat.le_of_ble_eq_true rfl) (Nat.le_of_ble_eq_true rfl) d_Fp_init_112 ?_
  refine aw_cD (zr_id (ZR.fl (ZR.si (hz.up (by omega)) (by omega)) (by omega))) ?_
  refine aw_cn (n' := 144) (by omega) ?_
  refine aw_dup d_Fp_init_115 rfl ?_
  refine aw_INu (As := []) (mi_La (t := 143) (by decide) (δ := (flI (sI δ 7 8 (nI 11)) 30 400 15)) (ZR.fl (ZR.si (hz.up (by omega)) (by omega)) (by omega)) (R := (pr R 6 [7])) (fun b j h1 h2 => (pr_ne j (by omega)).trans (hR b j (by omega) (by omega)))) cc_Fp_65 rfl rfl rfl (Nat.le_of_ble_eq_true rfl) ⟨Nat.le_of_ble_eq_true rfl, Nat.le_of_ble_eq_true rfl⟩ ⟨Nat.le_of_ble_eq_true rfl, Nat.le_of_ble_eq_true rfl⟩ d_Fp_init_116 ?_
  refine aw_tru (c := inb (7 : Int32) 8) (by decide) (aw_aast5 kd_6 kd_143 d_Fp_init_119 ?_)
  refine aw_cR (pr_put ((hR _ _ (by omega) (by omega)).trans rt_6_7) (by decide)) ?_
  refine aw_cR pr_0 ?_
  refine aw_iinc (v := (8 : Int32)) (lo' := [(1, .int (8 : Int32)), (0, .ref 4)]) d_Fp_init_120 0 rfl (by decide) (by decide) rfl ?_
  refine aw_goto (tgt := 98) d_Fp_init_123 rfl ?_
  refine aw_iload_n d_Fp_init_98 0 rfl ?_
  refine aw_aload_n d_Fp_init_99 1 rfl ?_
  refine aw_getR (t := 6) fl_Fp_15 kd_4 ((hR _ _ (by omega) (by omega)).trans rt_4_2) d_Fp_init_100 ?_
  refine aw_alen (v := (8 : Int32)) kd_6 ⟨by decide, by decide⟩ (by decide) d_Fp_init_103 ?_
  refine aw_same (c := (8 : Int32) ≤ (8 : Int32)) (aw_icmp_ge (tgt := 126) d_Fp_init_104 rfl (fun q => ?_) (fun q => absurd (by decide) q))
  exact aw_vret rfl rfl ⟨Nat.le_of_ble_eq_true rfl, Nat.le_of_ble_eq_true rfl⟩ d_Fp_init_126

def moF (δ : Dm) (i : Nat) : Dm := (fun b j => if b = 152 ∧ 10 ≤ j ∧ j < 10 + i then 15 else δ.1 b j, δ.2)
theorem moF_0 {δ : Dm} : moF δ 0 = δ := by
  refine Prod.ext ?_ rfl
  funext b j
  show (if b = 152 ∧ 10 ≤ j ∧ j < 10 + 0 then 15 else δ.1 b j) = δ.1 b j
  rw [if_neg (by omega)]
theorem moF_s {δ : Dm} {i : Nat} (hi : i < 400) : sI (moF δ i) 152 (ix (10 + nI i)) 15 = moF δ (i + 1) := by
  have e : ix (10 + nI i) = 10 + i := by
    rw [show (10 : Int32) = nI 10 from rfl, nI_add]
    exact nI_clamp (by omega)
  rw [e]
  refine Prod.ext ?_ rfl
  funext b j
  show (if b = 152 ∧ j = 10 + i then 15 else if b = 152 ∧ 10 ≤ j ∧ j < 10 + i then 15 else δ.1 b j) = if b = 152 ∧ 10 ≤ j ∧ j < 10 + (i + 1) then 15 else δ.1 b j
  by_cases h1 : b = 152 ∧ j = 10 + i
  · rw [if_pos h1, if_pos (by omega)]
  · rw [if_neg h1]
    by_cases h2 : b = 152 ∧ 10 ≤ j ∧ j < 10 + i
    · rw [if_pos h2, if_pos (by omega)]
    · rw [if_neg h2, if_neg (by omega)]
set_option maxHeartbeats 4000000 in
set_option maxRecDepth 100000 in
theorem mo_loop {δ : Dm} {R : Rm} {nc ns : Nat} (hc : nc ≤ 16 ∧ ns ≤ 55420) (hR : R 151 0 = some 152) : ∀ (k i : Nat), i + k = 400 → AWo k_Mo_init 2 16 55420 139 [(0, .ref 151), (1, .int (nI i))] [] (moF δ i) R 168 nc ns (fun _ : Unit => (none, moF δ 400, R, 168)) (some ()) := by
  intro k
  induction k with
  | zero =>
    intro i hi
    have hi : i = 400 := by omega
    subst hi
    refine aw_iload_n d_Mo_init_139 1 rfl ?_
    refine aw_sipush d_Mo_init_140 ks_400 ?_
    refine aw_same (c := (400 : Int32) ≤ nI 400) (aw_icmp_ge (tgt := 163) d_Mo_init_143 rfl (fun q => ?_) (fun q => absurd (by decide) q))
    exact aw_vret rfl rfl hc d_Mo_init_163
  | succ k ih =>
    intro i hi
    refine aw_iload_n d_Mo_init_139 1 rfl ?_
    refine aw_sipush d_Mo_init_140 ks_400 ?_
    refine aw_same (c := (400 : Int32) ≤ nI i) (aw_icmp_ge (tgt := 163) d_Mo_init_143 rfl (fun q => absurd q (nI_ge (a := i) (b := 400) (by omega) (by decide))) (fun q => ?_))
    refine aw_aload_n d_Mo_init_146 0 rfl ?_
    refine aw_getR (t := 152) fl_Mo_7 kd_151 hR d_Mo_init_147 ?_
    refine aw_bipush d_Mo_init_150 kb_10 ?_
    refine aw_iload_n d_Mo_init_152 1 rfl ?_
    refine aw_iadd d_Mo_init_153 ?_
    refine aw_bipush d_Mo_init_154 kb_15 ?_
    refine aw_tru (c := inb (10 + nI i) 8918) ?_ (aw_iast kd_152 d_Mo_init_156 ?_)
    · rw [show (10 : Int32) = nI 10 from rfl, nI_add]
      have := nI_toInt (n := 10 + i) (by omega)
      exact ⟨by omega, by omega⟩
    refine aw_cD (moF_s (by omega)) ?_
    refine aw_iinc (v := nI (i + 1)) (lo' := [(1, .int (nI (i + 1))), (0, .ref 151)]) d_Mo_init_157 1 rfl (by rw [nI_succ]; rfl) (by decide) rfl ?_
    refine aw_goto (tgt := 139) d_Mo_init_160 rfl ?_
    refine aw_sub (lo' := [(0, .ref 151), (1, .int (nI (i + 1)))]) [1, 0] rfl ?_
    exact ih (i + 1) (by omega)

set_option maxHeartbeats 8000000 in
set_option maxRecDepth 100000 in
theorem mi_Mo {δ : Dm} (hz : ZR δ 151) {R : Rm} (hR : ∀ b j, 151 ≤ b → b < 168 → R b j = RT b j) : AMet k_Mo_init 2 16 55420 [.ref 151] δ (clr R 151) 152 (none, (moF δ 400), R, 168) := by
  refine aw_start (KK := fun _ : Unit => (none, (moF δ 400), R, 168)) (res := some ()) (lo := [(0, .ref 151)]) mok_Mo_init rfl (Nat.le_of_ble_eq_true rfl) ?_ () rfl
  refine aw_cR (pr_clr [0, 1, 4, 5, 6, 7, 8, 16, 18, 20, 21, 22, 23, 24, 25, 26] (fun j hj => (hR _ j (by omega) (by omega)).trans ((rn_151 [0, 1, 4, 5, 6, 7, 8, 16, 18, 20, 21, 22, 23, 24, 25, 26] (by decide +kernel)) j hj))) ?_
  refine aw_aload_n d_Mo_init_0 0 rfl ?_
  refine aw_objInit (own := "") oi_Mo_1 ob_1 ob_2 (Nat.le_of_ble_eq_true rfl) (by decide) d_Mo_init_1 ?_
  refine aw_aload_n d_Mo_init_4 0 rfl ?_
  refine aw_sipush d_Mo_init_5 ks_8918 ?_
  refine aw_newa_int kd_152 (by decide) (by decide) (Nat.le_of_ble_eq_true rfl) (Nat.le_of_ble_eq_true rfl) (Nat.le_of_ble_eq_true rfl) ac_int d_Mo_init_8 ?_
  refine aw_cD (zr_id (hz.up (by omega))) ?_
  refine aw_cR (pr_new (fun j => (pr_ne j (by omega)).trans ((hR _ j (by omega) (by omega)).trans ((rn_lit 152 (by decide) [] (by decide +kernel)) j (by simp))))) ?_
  refine aw_cn (n' := 153) (by omega) ?_
  refine aw_putR pf_Mo_7 (fun _ => rfl) (fun _ => rfl) (fun _ => rfl) (by omega) kd_151 d_Mo_init_10 ?_
  refine aw_cR (pr_put ((hR _ _ (by omega) (by omega)).trans rt_151_0) (by decide)) ?_
  refine aw_aload_n d_Mo_init_13 0 rfl ?_
  refine aw_sipush d_Mo_init_14 ks_400 ?_
  refine aw_newa_byte kd_153 (by decide) (by decide) (Nat.le_of_ble_eq_true rfl) (Nat.le_of_ble_eq_true rfl) (Nat.le_of_ble_eq_true rfl) ac_byte d_Mo_init_17 ?_
  refine aw_cD (zr_id (hz.up (by omega))) ?_
  refine aw_cR (pr_new (fun j => (pr_ne j (by omega)).trans ((hR _ j (by omega) (by omega)).trans ((rn_lit 153 (by decide) [] (by decide +kernel)) j (by simp))))) ?_
  refine aw_cn (n' := 154) (by omega) ?_
  refine aw_putR pf_Mo_13 (fun _ => rfl) (fun _ => rfl) (fun _ => rfl) (by omega) kd_151 d_Mo_init_19 ?_
  refine aw_cR (pr_put ((hR _ _ (by omega) (by omega)).trans rt_151_1) (by decide)) ?_
  refine aw_aload_n d_Mo_init_22 0 rfl ?_
  refine aw_sipush d_Mo_init_23 ks_3200 ?_
  refine aw_newa_int kd_154 (by decide) (by decide) (Nat.le_of_ble_eq_true rfl) (Nat.le_of_ble_eq_true rfl) (Nat.le_of_ble_eq_true rfl) ac_int d_Mo_init_26 ?_
  refine aw_cD (zr_id (hz.up (by omega))) ?_
  refine aw_cR (pr_new (fun j => (pr_ne j (by omega)).trans ((hR _ j (by omega) (by omega)).trans ((rn_lit 154 (by decide) [] (by decide +kernel)) j (by simp))))) ?_
  refine aw_cn (n' := 155) (by omega) ?_
  refine aw_putR pf_Mo_17 (fun _ => rfl) (fun _ => rfl) (fun _ => rfl) (by omega) kd_151 d_Mo_init_28 ?_
  refine aw_cR (pr_put ((hR _ _ (by omega) (by omega)).trans rt_151_4) (by decide)) ?_
  refine aw_aload_n d_Mo_init_31 0 rfl ?_
  refine aw_bipush d_Mo_init_32 kb_8 ?_
  refine aw_newa_int kd_155 (by decide) (by decide) (Nat.le_of_ble_eq_true rfl) (Nat.le_of_ble_eq_true rfl) (Nat.le_of_ble_eq_true rfl) ac_int d_Mo_init_34 ?_
  refine aw_cD (zr_id (hz.up (by omega))) ?_
  refine aw_cR (pr_new (fun j => (pr_ne j (by omega)).trans ((hR _ j (by omega) (by omega)).trans ((rn_lit 155 (by decide) [] (by decide +kernel)) j (by simp))))) ?_
  refine aw_cn (n' := 156) (by omega) ?_
  refine aw_putR pf_Mo_20 (fun _ => rfl) (fun _ => rfl) (fun _ => rfl) (by omega) kd_151 d_Mo_init_36 ?_
  refine aw_cR (pr_put ((hR _ _ (by omega) (by omega)).trans rt_151_5) (by decide)) ?_
  refine aw_aload_n d_Mo_init_39 0 rfl ?_
  refine aw_sipush d_Mo_init_40 ks_560 ?_
  refine aw_newa_int kd_156 (by decide) (by decide) (Nat.le_of_ble_eq_true rfl) (Nat.le_of_ble_eq_true rfl) (Nat.le_of_ble_eq_true rfl) ac_int d_Mo_init_43 ?_
  refine aw_cD (zr_id (hz.up (by omega))) ?_
  refine aw_cR (pr_new (fun j => (pr_ne j (by omega)).trans ((hR _ j (by omega) (by omega)).trans ((rn_lit 156 (by decide) [] (by decide +kernel)) j (by simp))))) ?_
  refine aw_cn (n' := 157) (by omega) ?_
  refine aw_putR pf_Mo_23 (fun _ => rfl) (fun _ => rfl) (fun _ => rfl) (by omega) kd_151 d_Mo_init_45 ?_
  refine aw_cR (pr_put ((hR _ _ (by omega) (by omega)).trans rt_151_6) (by decide)) ?_
  refine aw_aload_n d_Mo_init_48 0 rfl ?_
  refine aw_bipush d_Mo_init_49 kb_8 ?_
  refine aw_newa_int kd_157 (by decide) (by decide) (Nat.le_of_ble_eq_true rfl) (Nat.le_of_ble_eq_true rfl) (Nat.le_of_ble_eq_true rfl) ac_int d_Mo_init_51 ?_
  refine aw_cD (zr_id (hz.up (by omega))) ?_
  refine aw_cR (pr_new (fun j => (pr_ne j (by omega)).trans ((hR _ j (by omega) (by omega)).trans ((rn_lit 157 (by decide) [] (by decide +kernel)) j (by simp))))) ?_
  refine aw_cn (n' := 158) (by omega) ?_
  refine aw_putR pf_Mo_26 (fun _ => rfl) (fun _ => rfl) (fun _ => rfl) (by omega) kd_151 d_Mo_init_53 ?_
  refine aw_cR (pr_put ((hR _ _ (by omega) (by omega)).trans rt_151_7) (by decide)) ?_
  refine aw_aload_n d_Mo_init_56 0 rfl ?_
  refine aw_bipush d_Mo_init_57 kb_24 ?_
  refine aw_newa_int kd_158 (by decide) (by decide) (Nat.le_of_ble_eq_true rfl) (Nat.le_of_ble_eq_true rfl) (Nat.le_of_ble_eq_true rfl) ac_int d_Mo_init_59 ?_
  refine aw_cD (zr_id (hz.up (by omega))) ?_
  refine aw_cR (pr_new (fun j => (pr_ne j (by omega)).trans ((hR _ j (by omega) (by omega)).trans ((rn_lit 158 (by decide) [] (by decide +kernel)) j (by simp))))) ?_
  refine aw_cn (n' := 159) (by omega) ?_
  refine aw_putR pf_Mo_29 (fun _ => rfl) (fun _ => rfl) (fun _ => rfl) (by omega) kd_151 d_Mo_init_61 ?_
  refine aw_cR (pr_put ((hR _ _ (by omega) (by omega)).trans rt_151_8) (by decide)) ?_
  refine aw_aload_n d_Mo_init_64 0 rfl ?_
  refine aw_sipush d_Mo_init_65 ks_400 ?_
  refine aw_newa_int kd_159 (by decide) (by decide) (Nat.le_of_ble_eq_true rfl) (Nat.le_of_ble_eq_true rfl) (Nat.le_of_ble_eq_true rfl) ac_int d_Mo_init_68 ?_
  refine aw_cD (zr_id (hz.up (by omega))) ?_
  refine aw_cR (pr_new (fun j => (pr_ne j (by omega)).trans ((hR _ j (by omega) (by omega)).trans ((rn_lit 159 (by decide) [] (by decide +kernel)) j (by simp))))) ?_
  refine aw_cn (n' := 160) (by omega) ?_
  refine aw_putR pf_Mo_32 (fun _ => rfl) (fun _ => rfl) (fun _ => rfl) (by omega) kd_151 d_Mo_init_70 ?_
  refine aw_cR (pr_put ((hR _ _ (by omega) (by omega)).trans rt_151_16) (by decide)) ?_
  refine aw_aload_n d_Mo_init_73 0 rfl ?_
  refine aw_bipush d_Mo_init_74 kb_64 ?_
  refine aw_newa_long kd_160 (by decide) (by decide) (Nat.le_of_ble_eq_true rfl) (Nat.le_of_ble_eq_true rfl) (Nat.le_of_ble_eq_true rfl) ac_long d_Mo_init_76 ?_
  refine aw_cD (zr_id (hz.up (by omega))) ?_
  refine aw_cR (pr_new (fun j => (pr_ne j (by omega)).trans ((hR _ j (by omega) (by omega)).trans ((rn_lit 160 (by decide) [] (by decide +kernel)) j (by simp))))) ?_
  refine aw_cn (n' := 161) (by omega) ?_
  refine aw_putR pf_Mo_35 (fun _ => rfl) (fun _ => rfl) (fun _ => rfl) (by omega) kd_151 d_Mo_init_78 ?_
  refine aw_cR (pr_put ((hR _ _ (by omega) (by omega)).trans rt_151_18) (by decide)) ?_
  refine aw_aload_n d_Mo_init_81 0 rfl ?_
  refine aw_bipush d_Mo_init_82 kb_9 ?_
  refine aw_newa_long kd_161 (by decide) (by decide) (Nat.le_of_ble_eq_true rfl) (Nat.le_of_ble_eq_true rfl) (Nat.le_of_ble_eq_true rfl) ac_long d_Mo_init_84 ?_
  refine aw_cD (zr_id (hz.up (by omega))) ?_
  refine aw_cR (pr_new (fun j => (pr_ne j (by omega)).trans ((hR _ j (by omega) (by omega)).trans ((rn_lit 161 (by decide) [] (by decide +kernel)) j (by simp))))) ?_
  refine aw_cn (n' := 162) (by omega) ?_
  refine aw_putR pf_Mo_39 (fun _ => rfl) (fun _ => rfl) (fun _ => rfl) (by omega) kd_151 d_Mo_init_86 ?_
  refine aw_cR (pr_put ((hR _ _ (by omega) (by omega)).trans rt_151_20) (by decide)) ?_
  refine aw_aload_n d_Mo_init_89 0 rfl ?_
  refine aw_iconst d_Mo_init_90 ki_3 ?_
  refine aw_newa_int kd_162 (by decide) (by decide) (Nat.le_of_ble_eq_true rfl) (Nat.le_of_ble_eq_true rfl) (Nat.le_of_ble_eq_true rfl) ac_int d_Mo_init_91 ?_
  refine aw_cD (zr_id (hz.up (by omega))) ?_
  refine aw_cR (pr_new (fun j => (pr_ne j (by omega)).trans ((hR _ j (by omega) (by omega)).trans ((rn_lit 162 (by decide) [] (by decide +kernel)) j (by simp))))) ?_
  refine aw_cn (n' := 163) (by omega) ?_
  refine aw_putR pf_Mo_42 (fun _ => rfl) (fun _ => rfl) (fun _ => rfl) (by omega) kd_151 d_Mo_init_93 ?_
  refine aw_cR (pr_put ((hR _ _ (by omega) (by omega)).trans rt_151_21) (by decide)) ?_
  refine aw_aload_n d_Mo_init_96 0 rfl ?_
  refine aw_bipush d_Mo_init_97 kb_6 ?_
  refine aw_newa_int kd_163 (by decide) (by decide) (Nat.le_of_ble_eq_true rfl) (Nat.le_of_ble_eq_true rfl) (Nat.le_of_ble_eq_true rfl) ac_int d_Mo_init_99 ?_
  refine aw_cD (zr_id (hz.up (by omega))) ?_
  refine aw_cR (pr_new (fun j => (pr_ne j (by omega)).trans ((hR _ j (by omega) (by omega)).trans ((rn_lit 163 (by decide) [] (by decide +kernel)) j (by simp))))) ?_
  refine aw_cn (n' := 164) (by omega) ?_
  refine aw_putR pf_Mo_45 (fun _ => rfl) (fun _ => rfl) (fun _ => rfl) (by omega) kd_151 d_Mo_init_101 ?_
  refine aw_cR (pr_put ((hR _ _ (by omega) (by omega)).trans rt_151_22) (by decide)) ?_
  refine aw_aload_n d_Mo_init_104 0 rfl ?_
  refine aw_sipush d_Mo_init_105 ks_2048 ?_
  refine aw_newa_int kd_164 (by decide) (by decide) (Nat.le_of_ble_eq_true rfl) (Nat.le_of_ble_eq_true rfl) (Nat.le_of_ble_eq_true rfl) ac_int d_Mo_init_108 ?_
  refine aw_cD (zr_id (hz.up (by omega))) ?_
  refine aw_cR (pr_new (fun j => (pr_ne j (by omega)).trans ((hR _ j (by omega) (by omega)).trans ((rn_lit 164 (by decide) [] (by decide +kernel)) j (by simp))))) ?_
  refine aw_cn (n' := 165) (by omega) ?_
  refine aw_putR pf_Mo_48 (fun _ => rfl) (fun _ => rfl) (fun _ => rfl) (by omega) kd_151 d_Mo_init_110 ?_
  refine aw_cR (pr_put ((hR _ _ (by omega) (by omega)).trans rt_151_23) (by decide)) ?_
  refine aw_aload_n d_Mo_init_113 0 rfl ?_
  refine aw_sipush d_Mo_init_114 ks_4096 ?_
  refine aw_newa_int kd_165 (by decide) (by decide) (Nat.le_of_ble_eq_true rfl) (Nat.le_of_ble_eq_true rfl) (Nat.le_of_ble_eq_true rfl) ac_int d_Mo_init_117 ?_
  refine aw_cD (zr_id (hz.up (by omega))) ?_
  refine aw_cR (pr_new (fun j => (pr_ne j (by omega)).trans ((hR _ j (by omega) (by omega)).trans ((rn_lit 165 (by decide) [] (by decide +kernel)) j (by simp))))) ?_
  refine aw_cn (n' := 166) (by omega) ?_
  refine aw_putR pf_Mo_51 (fun _ => rfl) (fun _ => rfl) (fun _ => rfl) (by omega) kd_151 d_Mo_init_119 ?_
  refine aw_cR (pr_put ((hR _ _ (by omega) (by omega)).trans rt_151_24) (by decide)) ?_
  refine aw_aload_n d_Mo_init_122 0 rfl ?_
  refine aw_ldc (v := (35672 : Int32)) d_Mo_init_123 kc_Mo_54 ?_
  refine aw_newa_int kd_166 (by decide) (by decide) (Nat.le_of_ble_eq_true rfl) (Nat.le_of_ble_eq_true rfl) (Nat.le_of_ble_eq_true rfl) ac_int d_Mo_init_125 ?_
  refine aw_cD (zr_id (hz.up (by omega))) ?_
  refine aw_cR (pr_new (fun j => (pr_ne j (by omega)).trans ((hR _ j (by omega) (by omega)).trans ((rn_lit 166 (by decide) [] (by decide +kernel)) j (by simp))))) ?_
  refine aw_cn (n' := 167) (by omega) ?_
  refine aw_putR pf_Mo_55 (fun _ => rfl) (fun _ => rfl) (fun _ => rfl) (by omega) kd_151 d_Mo_init_127 ?_
  refine aw_cR (pr_put ((hR _ _ (by omega) (by omega)).trans rt_151_25) (by decide)) ?_
  refine aw_aload_n d_Mo_init_130 0 rfl ?_
  refine aw_iconst d_Mo_init_131 ki_4 ?_
  refine aw_newa_boolean kd_167 (by decide) (by decide) (Nat.le_of_ble_eq_true rfl) (Nat.le_of_ble_eq_true rfl) (Nat.le_of_ble_eq_true rfl) ac_boolean d_Mo_init_132 ?_
  refine aw_cD (zr_id (hz.up (by omega))) ?_
  refine aw_cR (pr_new (fun j => (pr_ne j (by omega)).trans ((hR _ j (by omega) (by omega)).trans ((rn_lit 167 (by decide) [] (by decide +kernel)) j (by simp))))) ?_
  refine aw_cn (n' := 168) (by omega) ?_
  refine aw_putR pf_Mo_58 (fun _ => rfl) (fun _ => rfl) (fun _ => rfl) (by omega) kd_151 d_Mo_init_134 ?_
  refine aw_cR (pr_put ((hR _ _ (by omega) (by omega)).trans rt_151_26) (by decide)) ?_
  refine aw_cR pr_0 ?_
  refine aw_iconst d_Mo_init_137 ki_0 ?_
  refine aw_istore_n (lo' := [(1, .int (0 : Int32)), (0, .ref 151)]) d_Mo_init_138 rfl (by decide) rfl ?_
  refine aw_sub (lo' := [(0, .ref 151), (1, .int (nI 0))]) [1, 0] rfl ?_
  refine aw_cD moF_0.symm ?_
  exact mo_loop ⟨Nat.le_of_ble_eq_true rfl, Nat.le_of_ble_eq_true rfl⟩ ((hR _ _ (by omega) (by omega)).trans rt_151_0) 400 0 rfl

