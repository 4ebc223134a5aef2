/-! fair -/
abbrev cls (S : St) : List Ev := tC S.1
theorem cls_n {S : St} (ok : Ok S) : S.1.1 6 = (cls S).length ∧ (cls S).length ≤ 100 := by
  have h := ok.1.1.2.2.2.2.2.2.2.2.2.1
  have h2 := ok.1.1.2.2.2.2.2.2.2.2.2.2
  have h : S.1.1 6 = (cls S).length := h
  have h2 : S.1.1 6 ≤ 100 := h2
  exact ⟨h, by omega⟩
theorem cls_m {S : St} {k : Nat} {x : Ev} (ok : Ok S) (hx : (cls S)[k]? = some x) : x 0 ≤ 31 ∧ x 1 < S.1.1 2 ∧ x 2 ≤ S.1.1 0 := ok.1.2.2.2.2.2.2 x (List.mem_of_getElem? hx)
theorem cCl {n k j : Nat} {δ : Dm} {S : St} {x : Ev} (h : RepC δ n S) (hx : (cls S)[k]? = some x) (hj : j < 3) : gI δ (51 + j) k = nI (x j) := by
  have := h.1.2.2.2.2.2 k x hx j hj
  rw [show 29 + 22 + j = 51 + j by omega] at this; exact this
theorem mCl {k j : Nat} {δ : Dm} {S : St} {x : Ev} (h : RepM δ S) (hx : (cls S)[k]? = some x) (hj : j < 3) : gI δ 152 (8426 + 3 * k + j) = nI (x j) := by
  have := h.1.2.2.2.2 k x hx j hj
  rw [Nat.zero_add] at this; exact this
def sameK (y z : Ev) : Bool := nI (z 1) == nI (y 1) && nI (z 2) == nI (y 2)
def sameW (y z : Ev) : Bool := nI (z 0) == nI (y 0)
def spB (a d : Int32) (x : Ev) : Bool := ofD a x && (nI (x 2) == d && !(x 5 == 0))
def ahP (S : St) (c : Nat) (y : Ev) : Nat := cn (sameK y) ((cls S).take c)
def spN (S : St) (y : Ev) : Nat := cn (spB (nI (y 1)) (nI (y 2))) (sts S)
theorem spoiltOn_eq {n : Nat} {a d : Int32} {δ : Dm} {S : St} (h : RepC δ n S) (ok : Ok S) : f_Di_spoiltOn a d δ = some (nI (cn (spB a d) (sts S))) := by
  have h4 := sts_le ok
  have g : gI δ 34 0 = nI (sts S).length := by rw [← sts_n ok]; exact (cG h.1).2.2.2.1
  unfold f_Di_spoiltOn
  rw [show (0 : Int32) = nI 0 from rfl]
  have Q := for_list (sts S) (by omega) (fun f i (v : Int32) => lp_Di_spoiltOn_5 (fun v3_5x v4_5x => (some v3_5x)) a d δ f v i) (fun v x => if spB a d x = true then v + 1 else v) (fun v => some v)
    (fun f i x v hx => by
      have hi := idx_lt hx
      obtain ⟨m0, m1, m2, m3, m4, m5, m6, m7⟩ := sts_m ok hx
      simp only [lp_Di_spoiltOn_5]
      rw [g, if_neg (nI_ge hi (by omega)), isOf_eq h ok hx, nI_1, Option.bind_some]
      by_cases q : ofD a x = true
      · rw [if_pos q, if_neg (show ¬ (1 : Int32) = 0 by decide), get_in (show (KD 36).2 = 400 by decide) (by omega), show gI δ 36 i = nI (x 2) from (h.1.2.1 i x hx).2.1, Option.bind_some]
        by_cases q2 : nI (x 2) = d
        · rw [if_pos q2, get_in (show (KD 37).2 = 400 by decide) (by omega), show gI δ 37 i = nI (x 5) from (h.1.2.1 i x hx).2.2.1, Option.bind_some]
          by_cases q3 : x 5 = 0
          · rw [if_pos (show nI (x 5) = 0 by rw [q3]; rfl), if_neg (by simp [spB, q3])]
          · rw [if_neg (nI_ne0 (by omega) (by omega)), if_pos (by simp [spB, q, q2, q3])]
        · rw [if_neg q2, if_neg (by simp [spB, q2])]
      · rw [if_neg q, if_pos (show (0 : Int32) = 0 from rfl), if_neg (by simp [spB, q])])
    (fun f v => by
      simp only [lp_Di_spoiltOn_5]
      rw [g, if_pos (nI_le (Nat.le_refl _) (by omega))]) (nI 0)
  refine Q.trans ?_
  rw [fold_cn, Nat.zero_add]
theorem take_at {α : Type} {l : List α} {c i : Nat} {x : α} (h : (l.take c)[i]? = some x) : i < c ∧ l[i]? = some x := by
  rw [List.getElem?_take] at h
  by_cases q : i < c
  · rw [if_pos q] at h; exact ⟨q, h⟩
  · rw [if_neg q] at h; cases h
theorem ahead_eq {n c : Nat} {δ : Dm} {S : St} {y : Ev} (h : RepC δ n S) (ok : Ok S) (hy : (cls S)[c]? = some y) : f_Po_claimsAhead (nI c) δ = some (nI (ahP S c y)) := by
  obtain ⟨r1, r2⟩ := cls_n ok
  have hc := idx_lt hy
  have g1 : gI δ 52 c = nI (y 1) := cCl h hy (j := 1) (by decide)
  have g2 : gI δ 53 c = nI (y 2) := cCl h hy (j := 2) (by decide)
  have hlen : ((cls S).take c).length = c := by rw [List.length_take]; omega
  unfold f_Po_claimsAhead ahP
  rw [show (0 : Int32) = nI 0 from rfl]
  have Q := for_list ((cls S).take c) (by omega) (fun f i (v : Int32) => lp_Po_claimsAhead_4 (fun v2_4x v3_4x => (some v2_4x)) (nI c) δ f v i) (fun v x => if sameK y x = true then v + 1 else v) (fun v => some v)
    (fun f i x v hx => by
      obtain ⟨hi, hx⟩ := take_at hx
      have k1 : gI δ 52 i = nI (x 1) := cCl h hx (j := 1) (by decide)
      have k2 : gI δ 53 i = nI (x 2) := cCl h hx (j := 2) (by decide)
      simp only [lp_Po_claimsAhead_4, jp_Po_claimsAhead_33]
      rw [if_neg (nI_ge hi (by omega)), get_in (show (KD 52).2 = 100 by decide) (by omega), k1, Option.bind_some, get_in (show (KD 52).2 = 100 by decide) (by omega), g1, Option.bind_some, nI_1]
      by_cases q : nI (x 1) = nI (y 1)
      · rw [if_pos q, if_neg (show ¬ (1 : Int32) = 0 by decide), get_in (show (KD 53).2 = 100 by decide) (by omega), k2, Option.bind_some, get_in (show (KD 53).2 = 100 by decide) (by omega), g2, Option.bind_some]
        by_cases q2 : nI (x 2) = nI (y 2)
        · rw [if_pos q2, if_pos (show sameK y x = true by simp [sameK, q, q2])]
        · rw [if_neg q2, if_neg (show ¬ sameK y x = true by simp [sameK, q2])]
      · rw [if_neg q, if_pos True.intro, if_neg (show ¬ sameK y x = true by simp [sameK, q])])
    (fun f v => by
      simp only [lp_Po_claimsAhead_4]
      rw [hlen, if_pos (nI_le (Nat.le_refl _) (by omega))]) (nI 0)
  refine Q.trans ?_
  rw [fold_cn, Nat.zero_add]
theorem ahP_le {S : St} {c : Nat} {y : Ev} (ok : Ok S) : ahP S c y ≤ 100 := by
  have := (cls_n ok).2
  unfold ahP
  refine Nat.le_trans cn_le ?_
  rw [List.length_take]; omega
theorem spN_le {S : St} {y : Ev} (ok : Ok S) : spN S y ≤ 400 := by
  have := sts_le ok
  unfold spN
  exact Nat.le_trans cn_le this
theorem missing_eq {n c : Nat} {δ : Dm} {S : St} {y : Ev} (h : RepC δ n S) (ok : Ok S) (hy : (cls S)[c]? = some y) : f_Fp_missing (nI c) δ = some (nI (ahP S c y) - nI (spN S y)) := by
  obtain ⟨r1, r2⟩ := cls_n ok
  have hc := idx_lt hy
  unfold f_Fp_missing
  rw [get_in (show (KD 52).2 = 100 by decide) (by omega), show gI δ 52 c = nI (y 1) from cCl h hy (j := 1) (by decide), Option.bind_some, get_in (show (KD 53).2 = 100 by decide) (by omega), show gI δ 53 c = nI (y 2) from cCl h hy (j := 2) (by decide), Option.bind_some, spoiltOn_eq h ok, Option.bind_some, ahead_eq h ok hy, Option.bind_some]
  rfl
theorem sub_s {a b : Nat} (ha : a < 1000000) (hb : b < 1000000) : (nI a - nI b < 0 ↔ a < b) ∧ (nI a - nI b ≤ 0 ↔ a ≤ b) := by
  have e := pk_sub_toInt (a := a) (b := b) (by omega) (by omega)
  rw [lt32, le32, e, show (0 : Int32).toInt = 0 from rfl]
  omega
theorem areOne_eq {c i : Nat} {δ : Dm} {S : St} {y z : Ev} (h : RepM δ S) (ok : Ok S) (hy : (cls S)[c]? = some y) (hz : (cls S)[i]? = some z) : f_Mo_areOne (nI c) (nI i) δ = some (if sameK y z = true then 1 else 0) := by
  obtain ⟨r1, r2⟩ := cls_n ok
  have hc := idx_lt hy
  have hi := idx_lt hz
  have a1 := mCl h hy (j := 1) (by decide)
  have a2 := mCl h hy (j := 2) (by decide)
  have b1 := mCl h hz (j := 1) (by decide)
  have b2 := mCl h hz (j := 2) (by decide)
  unfold f_Mo_areOne
  rw [show (((8426 : Int32) + ((3 : Int32) * nI c)) + 1) = nI (8426 + 3 * c + 1) by rw [lit, lit, pk_mul, nI_add, nI_1], show (((8426 : Int32) + ((3 : Int32) * nI c)) + 2) = nI (8426 + 3 * c + 2) by rw [lit, lit, lit, pk_mul, nI_add, nI_add], show (((8426 : Int32) + ((3 : Int32) * nI i)) + 1) = nI (8426 + 3 * i + 1) by rw [lit, lit, pk_mul, nI_add, nI_1], show (((8426 : Int32) + ((3 : Int32) * nI i)) + 2) = nI (8426 + 3 * i + 2) by rw [lit, lit, lit, pk_mul, nI_add, nI_add]]
  rw [if_pos (inb_i (show 8426 + 3 * c + 1 < 8918 by omega) (by decide)), if_pos (inb_i (show 8426 + 3 * i + 1 < 8918 by omega) (by decide)), if_pos (inb_i (show 8426 + 3 * c + 2 < 8918 by omega) (by decide)), if_pos (inb_i (show 8426 + 3 * i + 2 < 8918 by omega) (by decide)), ixN (show 8426 + 3 * c + 1 < 2147483648 by omega), ixN (show 8426 + 3 * i + 1 < 2147483648 by omega), ixN (show 8426 + 3 * c + 2 < 2147483648 by omega), ixN (show 8426 + 3 * i + 2 < 2147483648 by omega), a1, a2, b1, b2]
  by_cases q : nI (y 1) = nI (z 1)
  · rw [if_pos q]
    by_cases q2 : nI (y 2) = nI (z 2)
    · rw [if_pos q2, if_pos (show sameK y z = true by simp [sameK, q, q2])]
    · rw [if_neg q2, if_neg (show ¬ sameK y z = true by simp [sameK]; exact fun _ w => q2 w.symm)]
  · rw [if_neg q, if_neg (show ¬ sameK y z = true by simp [sameK]; exact fun w => absurd w.symm q)]
theorem i32_ss (a b c : Int32) : a - b - c = a - (b + c) := by
  rw [Int32.sub_eq_add_neg, Int32.sub_eq_add_neg, Int32.sub_eq_add_neg, Int32.neg_add, Int32.sub_eq_add_neg, Int32.add_assoc]
theorem fold_sub {P : Ev → Bool} : ∀ (l : List Ev) (v : Int32), l.foldl (fun (a : Int32) x => if P x = true then a - 1 else a) v = v - nI (cn P l) := by
  intro l
  induction l with
  | nil => intro v; show v = v - 0; rw [Int32.sub_zero]
  | cons x l ih =>
    intro v
    rw [List.foldl_cons, ih]
    unfold cn
    by_cases h : P x = true
    · rw [if_pos h, List.filter_cons_of_pos h, List.length_cons, i32_ss, show (1 : Int32) = nI 1 from rfl, nI_add, Nat.add_comm]
    · rw [if_neg h, List.filter_cons_of_neg h]
theorem isFair_eq {c : Nat} {δ : Dm} {S : St} {y : Ev} (h : RepM δ S) (ok : Ok S) (hy : (cls S)[c]? = some y) : f_Mo_isFair (nI c) δ = some (if ahP S c y < spN S y then 1 else 0) := by
  obtain ⟨r1, r2⟩ := cls_n ok
  have hc := idx_lt hy
  have h5 : (vts S).length ≤ 500 := okV ok.1
  have a1 := mCl h hy (j := 1) (by decide)
  have a2 := mCl h hy (j := 2) (by decide)
  have hlen : ((cls S).take c).length = c := by rw [List.length_take]; omega
  have e1 : (((8426 : Int32) + ((3 : Int32) * nI c)) + 1) = nI (8426 + 3 * c + 1) := by rw [lit, lit, pk_mul, nI_add, nI_1]
  have e2 : (((8426 : Int32) + ((3 : Int32) * nI c)) + 2) = nI (8426 + 3 * c + 2) := by rw [lit, lit, lit, pk_mul, nI_add, nI_add]
  have Q2 : ∀ v, lp_Mo_isFair_85 (fun v2_85x v3_85x => (if v2_85x ≤ 0 then (some (0 : Int32)) else (some (1 : Int32)))) (nI c) δ FU v (nI 0) = if v - nI (ahP S c y) ≤ 0 then some 0 else some 1 := fun v => by
    have Q := for_list ((cls S).take c) (by omega) (fun f i (v : Int32) => lp_Mo_isFair_85 (fun v2_85x v3_85x => (if v2_85x ≤ 0 then (some (0 : Int32)) else (some (1 : Int32)))) (nI c) δ f v i) (fun v x => if sameK y x = true then v - 1 else v) (fun v => if v ≤ 0 then (some (0 : Int32)) else (some (1 : Int32)))
      (fun f i x v hx => by
        obtain ⟨hi, hx⟩ := take_at hx
        simp only [lp_Mo_isFair_85]
        rw [if_neg (nI_ge hi (by omega)), areOne_eq h ok hy hx, Option.bind_some, nI_1]
        by_cases q : sameK y x = true
        · rw [if_pos q, if_neg (show ¬ (1 : Int32) = 0 by decide), bndE, if_pos q]
        · rw [if_neg q, if_pos (show (0 : Int32) = 0 from rfl), bndE, if_neg q, Int32.sub_zero])
      (fun f v => by
        simp only [lp_Mo_isFair_85]
        rw [hlen, if_pos (nI_le (Nat.le_refl _) (by omega))]) v
    refine Q.trans ?_
    rw [fold_sub]; rfl
  unfold f_Mo_isFair
  rw [show (0 : Int32) = nI 0 from rfl]
  have Q := for_list (vts S) (by omega) (fun f i (v : Int32) => lp_Mo_isFair_4 (fun v2_4x v3_4x => (lp_Mo_isFair_85 (fun v2_85x v3_85x => (if v2_85x ≤ 0 then (some (0 : Int32)) else (some (1 : Int32)))) (nI c) δ FU v2_4x (nI 0))) (nI c) δ f v i) (fun v x => if isS x = true then (if spB (nI (y 1)) (nI (y 2)) x = true then v + 1 else v) else v) (fun v => if v - nI (ahP S c y) ≤ 0 then some 0 else some 1)
    (fun f i x v hx => by
      have hi := idx_lt hx
      obtain ⟨m1, m2, m3, m4, m5, m6, m7⟩ := vts_m ok hx
      simp only [lp_Mo_isFair_4, j7, x7]
      rw [vts_n h, if_neg (nI_ge hi (by omega)), e1, e2, if_pos (inb_i (show 8426 + 3 * c + 1 < 8918 by omega) (by decide)), ixN (show 8426 + 3 * c + 1 < 2147483648 by omega), a1, isStrip_eq h ok hx, Option.bind_some, nI_1]
      by_cases q0 : isS x = true
      · by_cases q : ofD (nI (y 1)) x = true
        · rw [if_pos (show (isS x && ofD (nI (y 1)) x) = true by simp [q0, q]), if_neg (show ¬ (1 : Int32) = 0 by decide), show f_Mo_event (nI i) 2 δ = _ from event_eq (j := 2) h ok hx (by decide), Option.bind_some, if_pos (inb_i (show 8426 + 3 * c + 2 < 8918 by omega) (by decide)), ixN (show 8426 + 3 * c + 2 < 2147483648 by omega), a2, if_pos q0]
          by_cases q2 : nI (x 2) = nI (y 2)
          · rw [if_pos q2, show f_Mo_event (nI i) 5 δ = _ from event_eq (j := 5) h ok hx (by decide), Option.bind_some]
            by_cases q3 : x 5 = 0
            · rw [if_pos (show nI (x 5) ≤ 0 by rw [q3]; decide), bndE, Int32.add_zero, if_neg (show ¬ spB (nI (y 1)) (nI (y 2)) x = true by simp [spB, q3])]
            · rw [if_neg (nI_nle (by omega) (by omega)), bndE, if_pos (show spB (nI (y 1)) (nI (y 2)) x = true by simp [spB, q, q2, q3])]
          · rw [if_neg q2, bndE, Int32.add_zero, if_neg (show ¬ spB (nI (y 1)) (nI (y 2)) x = true by simp [spB, q2])]
        · rw [if_neg (show ¬ (isS x && ofD (nI (y 1)) x) = true by simp [q]), if_pos (show (0 : Int32) = 0 from rfl), bndE, Int32.add_zero, if_pos q0, if_neg (show ¬ spB (nI (y 1)) (nI (y 2)) x = true by simp [spB, q])]
      · rw [if_neg (show ¬ (isS x && ofD (nI (y 1)) x) = true by simp [q0]), if_pos (show (0 : Int32) = 0 from rfl), bndE, Int32.add_zero, if_neg q0])
    (fun f v => by
      simp only [lp_Mo_isFair_4, j7, x7]
      rw [vts_n h, if_pos (nI_le (Nat.le_refl _) (by omega))]
      exact Q2 v) (nI 0)
  refine Q.trans ?_
  have e := fold_V (g := fun v x => if spB (nI (y 1)) (nI (y 2)) x = true then v + 1 else v) (tE S.1) (nI 0)
  rw [show (vts S).foldl (fun v x => if isS x = true then (if spB (nI (y 1)) (nI (y 2)) x = true then v + 1 else v) else v) (nI 0) = (sts S).foldl (fun v x => if spB (nI (y 1)) (nI (y 2)) x = true then v + 1 else v) (nI 0) from e, fold_cn, Nat.zero_add]
  have q := (sub_s (a := cn (spB (nI (y 1)) (nI (y 2))) (sts S)) (b := ahP S c y) (by have := spN_le (S := S) (y := y) ok; unfold spN at this; omega) (by have := ahP_le (S := S) (c := c) (y := y) ok; omega)).2
  by_cases z : ahP S c y < spN S y
  · rw [if_pos z, if_neg (fun w => by have := q.mp w; unfold spN at z; omega)]
  · rw [if_neg z, if_pos (q.mpr (by unfold spN at z; omega))]; rfl
def refP (L : LawT) (S : St) (c : Nat) (y : Ev) : Bool := holP L (wdG S.1.1 (y 1) (y 2) 0 0 (nI (cn (inD (nI (y 1)) (nI (y 2)) (nI (y 2))) (sts S))) (nI (cn (sameW y) ((cls S).take (c + 1))))) 9
theorem upTo_eq {n c : Nat} {δ : Dm} {S : St} {y : Ev} (h : RepC δ n S) (ok : Ok S) (hy : (cls S)[c]? = some y) : f_Po_claimsUpTo (nI c) δ = some (nI (cn (sameW y) ((cls S).take (c + 1)))) := by
  obtain ⟨r1, r2⟩ := cls_n ok
  have hc := idx_lt hy
  have g1 : gI δ 51 c = nI (y 0) := cCl h hy (j := 0) (by decide)
  have hlen : ((cls S).take (c + 1)).length = c + 1 := by rw [List.length_take]; omega
  unfold f_Po_claimsUpTo
  rw [show (0 : Int32) = nI 0 from rfl]
  have Q := for_list ((cls S).take (c + 1)) (by omega) (fun f i (v : Int32) => lp_Po_claimsUpTo_4 (fun v2_4x v3_4x => (some v2_4x)) (nI c) δ f v i) (fun v x => if sameW y x = true then v + 1 else v) (fun v => some v)
    (fun f i x v hx => by
      obtain ⟨hi, hx⟩ := take_at hx
      have k1 : gI δ 51 i = nI (x 0) := cCl h hx (j := 0) (by decide)
      simp only [lp_Po_claimsUpTo_4]
      rw [if_neg (nI_nlt (by omega) (by omega)), get_in (show (KD 51).2 = 100 by decide) (by omega), k1, Option.bind_some, get_in (show (KD 51).2 = 100 by decide) (by omega), g1, Option.bind_some, nI_1]
      by_cases q : nI (x 0) = nI (y 0)
      · rw [if_pos q, if_pos (show sameW y x = true by simp [sameW, q])]
      · rw [if_neg q, if_neg (show ¬ sameW y x = true by simp [sameW, q])])
    (fun f v => by
      simp only [lp_Po_claimsUpTo_4]
      rw [hlen, if_pos (nI_lt (by omega) (by omega))]) (nI 0)
  refine Q.trans ?_
  rw [fold_cn, Nat.zero_add]
theorem rfnC {n c : Nat} {δ : Dm} {S : St} {y : Ev} {L : LawT} (h : RepC δ n S) (ok : Ok S) (hy : (cls S)[c]? = some y) (hL : (sJ S)[bc S.1.1 (y 1) 2]? = some L) : ∃ δ', δ'.1 = δ.1 ∧ f_Fp_isRefunded (nI c) δ = some (if refP L S c y = true then 1 else 0, δ') := by
  obtain ⟨r1, r2⟩ := cls_n ok
  have hc := idx_lt hy
  obtain ⟨m0, m1, m2⟩ := cls_m ok hy
  have k8 : S.1.1 2 ≤ 8 := ok.1.1.2.2.1
  have kl : (sJ S).length ≤ 8 := ok.2.1
  have hl := idx_lt hL
  obtain ⟨n0, -, -, -, -, -, -, -, -, -, -, hb8, h12, h400⟩ := ok_nums ok m1
  obtain ⟨a, ha⟩ : ∃ a, cn (inD (nI (y 1)) (nI (y 2)) (nI (y 2))) (sts S) = a := ⟨_, rfl⟩
  obtain ⟨e, he⟩ : ∃ e, cn (sameW y) ((cls S).take (c + 1)) = e := ⟨_, rfl⟩
  obtain ⟨d1, a1, a2, a3⟩ := open_S h ok m1 (show y 2 < 400 by omega)
  have hC1 := RepC_E h ok a1
  obtain ⟨d2, b1, b2, b3⟩ := till_eq (sp := nI a) (bx := nI e) a2
  have E2 : d2.1 = δ.1 := b1.trans a1
  obtain ⟨d3, c1, c2⟩ := holdsC (r := 9) (w := wdG S.1.1 (y 1) (y 2) 0 0 (nI a) (nI e)) (LC_E E2 (h.2.2.1 _ L hL)) (ok.2.2.1 L (List.mem_of_getElem? hL)) (LKd_l (by omega)) (by decide) b2
  refine ⟨d3, c1.1.trans E2, ?_⟩
  unfold f_Fp_isRefunded refP
  rw [ha, he, get_in (show (KD 52).2 = 100 by decide) (by omega), show gI δ 52 c = nI (y 1) from cCl h hy (j := 1) (by decide), Option.bind_some, get_in (show (KD 53).2 = 100 by decide) (by omega), show gI δ 53 c = nI (y 2) from cCl h hy (j := 2) (by decide), Option.bind_some, boothAt_eq k8 (cG h.1).2.2.1, if_pos (inb_i m1 (by omega)), ixN (show y 1 < 2147483648 by omega)]
  simp only [Option.bind_some, ocs, if_pos (isB_at _ hb8).1]
  rw [cBs 2 2 rfl h hb8 (by decide) (by decide), lawAt_eq kl h.2.1, if_pos (inb_i hl (by omega)), ixN (show bc S.1.1 (y 1) 2 < 2147483648 by omega)]
  simp only [Option.bind_some, ocs, if_pos (isL_at _ (show bc S.1.1 (y 1) 2 < 8 by omega)).1]
  rw [a3, Option.bind_some, stripsIn_eq hC1 ok, ha, Option.bind_some, upTo_eq hC1 ok hy, he, Option.bind_some, b3, Option.bind_some, show (15 : Int32) = nI (9 + 6) from rfl, c2, Option.bind_some]
  simp only [bndE]
  split
  · rw [if_pos (Or.inr rfl)]
  · rw [if_pos (Or.inl rfl)]
theorem rfnM {c : Nat} {δ : Dm} {S : St} {y : Ev} {L : LawT} {a1 a2 : Int32} (h : RepM δ S) (ok : Ok S) (hy : (cls S)[c]? = some y) (hL : (sJ S)[bc S.1.1 (y 1) 2]? = some L) (ha1 : a1 = nI c) : ∃ δ', FrT δ δ' ∧ lp_Mo_fair_84 (fun v5_84x v6_84x => ((f_Mo_stripsOn (nI (y 1)) (nI (y 2)) (nI (y 2)) δ).bind (fun y146 => ((f_Mo_words (nI (y 1)) (0 : Int32) (0 : Int32) (nI (y 2)) y146 v5_84x δ).bind (fun y151 => ((f_Mo_cell (nI (y 1)) (2 : Int32) y151).bind (fun y158 => ((f_Mo_holds y158 (9 : Int32) y151).bind (fun y163 => bnd y163.1 (fun v163 => bnd y163.2 (fun δ_163 => (if v163 = 0 then (some ((0 : Int32), δ_163)) else (some ((1 : Int32), δ_163)))))))))))))) a1 a2 (nI (y 1)) (nI (y 2)) δ FU (0 : Int32) (0 : Int32) = some (if refP L S c y = true then 1 else 0, δ') := by
  subst ha1
  obtain ⟨r1, r2⟩ := cls_n ok
  have hc := idx_lt hy
  obtain ⟨m0, m1, m2⟩ := cls_m ok hy
  have kl : (sJ S).length ≤ 8 := ok.2.1
  have hl := idx_lt hL
  obtain ⟨n0, -, -, -, -, -, -, -, -, -, -, hb8, h12, h400⟩ := ok_nums ok m1
  have g1 := mCl h hy (j := 0) (by decide)
  have hlen : ((cls S).take (c + 1)).length = c + 1 := by rw [List.length_take]; omega
  obtain ⟨a, ha⟩ : ∃ a, cn (inD (nI (y 1)) (nI (y 2)) (nI (y 2))) (sts S) = a := ⟨_, rfl⟩
  obtain ⟨e, he⟩ : ∃ e, cn (sameW y) ((cls S).take (c + 1)) = e := ⟨_, rfl⟩
  obtain ⟨d1, b1, b2, b3⟩ := words_S (hd := 0) (st := 0) (sp := nI a) (bx := nI e) (RGM_of h.1) ok m1 (show y 2 < 400 by omega)
  obtain ⟨d2, c1, c2⟩ := holdsM (r := 9) (w := wdG S.1.1 (y 1) (y 2) 0 0 (nI a) (nI e)) (LM_keep (h.2.2.1 _ L hL) (fun b j _ _ => gE b1 b j)) (ok.2.2.1 L (List.mem_of_getElem? hL)) (show bc S.1.1 (y 1) 2 < 8 by omega) (by decide) b2
  refine ⟨d2, (FrT_E b1).trans c1.1, ?_⟩
  rw [stripsOn_eq h ok, ha]
  simp only [Option.bind_some]
  unfold refP
  rw [ha, he, show (0 : Int32) = nI 0 from rfl]
  have Q := for_list ((cls S).take (c + 1)) (by omega) (fun f i (v : Int32) => lp_Mo_fair_84 (fun v5_84x v6_84x => ((f_Mo_words (nI (y 1)) (nI 0) (nI 0) (nI (y 2)) (nI a) v5_84x δ).bind (fun y151 => ((f_Mo_cell (nI (y 1)) (2 : Int32) y151).bind (fun y158 => ((f_Mo_holds y158 (9 : Int32) y151).bind (fun y163 => bnd y163.1 (fun v163 => bnd y163.2 (fun δ_163 => (if v163 = nI 0 then (some (nI 0, δ_163)) else (some ((1 : Int32), δ_163)))))))))))) (nI c) a2 (nI (y 1)) (nI (y 2)) δ f v i) (fun v x => if sameW y x = true then v + 1 else v) (fun v5_84x => ((f_Mo_words (nI (y 1)) (nI 0) (nI 0) (nI (y 2)) (nI a) v5_84x δ).bind (fun y151 => ((f_Mo_cell (nI (y 1)) (2 : Int32) y151).bind (fun y158 => ((f_Mo_holds y158 (9 : Int32) y151).bind (fun y163 => bnd y163.1 (fun v163 => bnd y163.2 (fun δ_163 => (if v163 = nI 0 then (some (nI 0, δ_163)) else (some ((1 : Int32), δ_163))))))))))))
    (fun f i x v hx => by
      obtain ⟨hi, hx⟩ := take_at hx
      have k1 := mCl h hx (j := 0) (by decide)
      simp only [lp_Mo_fair_84]
      rw [if_neg (nI_nlt (by omega) (by omega)), show (8426 : Int32) + ((3 : Int32) * nI i) = nI (8426 + 3 * i + 0) by rw [lit, lit, pk_mul, nI_add]; rfl, show (8426 : Int32) + ((3 : Int32) * nI c) = nI (8426 + 3 * c + 0) by rw [lit, lit, pk_mul, nI_add]; rfl, if_pos (inb_i (show 8426 + 3 * i + 0 < 8918 by omega) (by decide)), if_pos (inb_i (show 8426 + 3 * c + 0 < 8918 by omega) (by decide)), ixN (show 8426 + 3 * i + 0 < 2147483648 by omega), ixN (show 8426 + 3 * c + 0 < 2147483648 by omega), g1, k1, nI_1]
      by_cases q : nI (x 0) = nI (y 0)
      · rw [if_pos q, bndE, if_pos (show sameW y x = true by simp [sameW, q])]
      · rw [if_neg q, bndE, Int32.add_zero, if_neg (show ¬ sameW y x = true by simp [sameW, q])])
    (fun f v => by
      simp only [lp_Mo_fair_84]
      rw [hlen, if_pos (nI_lt (by omega) (by omega))]) (nI 0)
  refine Q.trans ?_
  rw [fold_cn, Nat.zero_add, he, show f_Mo_words (nI (y 1)) (nI 0) (nI 0) (nI (y 2)) (nI a) (nI e) δ = some d1 from b3, Option.bind_some, show f_Mo_cell (nI (y 1)) 2 d1 = some (nI (bc S.1.1 (y 1) 2)) from rW (w := 2) (fun i hi => (gE b1 152 i).trans (RGM_of h.1 i hi)) hb8 (by decide), Option.bind_some, show (9 : Int32) = nI 9 from rfl, c2, Option.bind_some]
  simp only [bndE]
  show (if (if holP L (wdG S.1.1 (y 1) (y 2) 0 0 (nI a) (nI e)) 9 = true then (1 : Int32) else 0) = nI 0 then some (nI 0, d2) else some (1, d2)) = some ((if holP L (wdG S.1.1 (y 1) (y 2) 0 0 (nI a) (nI e)) 9 = true then (1 : Int32) else 0), d2)
  by_cases z : holP L (wdG S.1.1 (y 1) (y 2) 0 0 (nI a) (nI e)) 9 = true
  · rw [if_pos z, if_neg (show ¬ (1 : Int32) = nI 0 by decide)]
  · rw [if_neg z, if_pos (show (0 : Int32) = nI 0 from rfl)]; rfl
theorem clm_i {a : Int32} {k : Nat} (hk : k ≤ 100) : ((0 : Int32) ≤ a ∧ a ≤ nI k - 1) ↔ inb a k := by
  have e := pk_sub_toInt (a := k) (b := 1) (by omega) (by decide)
  have e : (nI k - 1).toInt = (k : Int) - 1 := e
  unfold inb
  rw [le32, le32, e, show (0 : Int32).toInt = 0 from rfl]
  omega
theorem op_fair (a1 a2 : Int32) : OpG (f_Fp_fair a1 a2) (f_Mo_fair a1 a2) := mk_op fun n S ok => by
  obtain ⟨r1, r2⟩ := cls_n ok
  have k8 : S.1.1 2 ≤ 8 := ok.1.1.2.2.1
  have d1 : ∀ δ, RepC δ n S → f_Fp_within a1 0 (gI δ 45 1 - 1) δ = some (bI (inb a1 (cls S).length)) := fun δ h => by
    rw [show gI δ 45 1 = nI (S.1.1 6) from (cG h.1).2.2.2.2.2.2, r1, within_eq]; exact congrArg some (bI_c (clm_i r2))
  have d2 : ∀ δ, RepM δ S → f_Mo_in a1.toInt64 0 ((gI δ 152 6 - 1).toInt64) δ = some (bI (inb a1 (cls S).length)) := fun δ h => by
    rw [show gI δ 152 6 = nI (S.1.1 6) from (mS h.1).2.2.2.2.2.2, r1, show (0 : Int64) = (0 : Int32).toInt64 from rfl, in_eq]; exact congrArg some (bI_c (clm_i r2))
  by_cases h1 : inb a1 (cls S).length
  · by_cases h2 : nI 0 ≤ a2 ∧ a2 ≤ nI 1
    · obtain ⟨c, hc, rfl⟩ := inb_ex (by omega) h1
      obtain ⟨y, hy⟩ : ∃ y, (cls S)[c]? = some y := ⟨_, List.getElem?_eq_getElem hc⟩
      obtain ⟨m0, m1, m2⟩ := cls_m ok hy
      obtain ⟨-, -, -, n3, -⟩ := ok_nums ok m1
      obtain ⟨L, hL⟩ : ∃ L, (sJ S)[bc S.1.1 (y 1) 2]? = some L := ⟨_, List.getElem?_eq_getElem n3⟩
      obtain ⟨u, -, hu, rfl⟩ := low_i (by decide) h2 (by decide)
      have q := (sub_s (a := ahP S c y) (b := spN S y) (by have := ahP_le (S := S) (c := c) (y := y) ok; omega) (by have := spN_le (S := S) (y := y) ok; omega)).1
      by_cases hf : ahP S c y < spN S y
      · refine nop 1 ok (fun δ h => ?_) (fun δ h => ?_)
        · simp only [f_Fp_fair, d1 δ h, wl, Option.bind_some, ifb, if_pos h1, if_pos h2, missing_eq h ok hy]
          rw [if_neg (Int32.not_le.mpr (q.mpr hf))]
        · simp only [f_Mo_fair, j6, x6, d2 δ h, il (show 0 < 2147483648 by decide) (show 1 < 2147483648 by decide), Option.bind_some, ifb, if_pos h1, if_pos h2, isFair_eq h ok hy, if_pos hf]
          rw [if_neg (show ¬ (1 : Int32) = 0 by decide)]
      · by_cases hu1 : u = 1
        · subst hu1
          refine mk_same (v := if refP L S c y = true then 1 else 0) ok (fun δ h => ?_) (fun δ h => ?_)
          · obtain ⟨δ', s1, s2⟩ := rfnC h ok hy hL
            refine ⟨δ', ?_, s1⟩
            simp only [f_Fp_fair, d1 δ h, wl, Option.bind_some, ifb, if_pos h1, if_pos h2, missing_eq h ok hy]
            rw [if_pos (Int32.not_lt.mp (fun z => hf (q.mp z))), if_pos (show nI 1 = 1 from rfl), s2, Option.bind_some]
            simp only [bndE]
            by_cases z : refP L S c y = true
            · rw [if_pos z, if_neg (show ¬ (1 : Int32) = 0 by decide)]
            · rw [if_neg z, if_pos (show (0 : Int32) = 0 from rfl)]
          · obtain ⟨δ', s1, s2⟩ := rfnM (a1 := nI c) (a2 := nI 1) h ok hy hL rfl
            refine ⟨δ', ?_, s1⟩
            have g1 := mCl h hy (j := 1) (by decide)
            have g2 := mCl h hy (j := 2) (by decide)
            simp only [f_Mo_fair, j6, x6, d2 δ h, il (show 0 < 2147483648 by decide) (show 1 < 2147483648 by decide), Option.bind_some, ifb, if_pos h1, if_pos h2, isFair_eq h ok hy, if_neg hf]
            rw [if_pos True.intro, if_neg (show ¬ nI 1 = 0 by decide), show (((8426 : Int32) + ((3 : Int32) * nI c)) + 1) = nI (8426 + 3 * c + 1) by rw [lit, lit, pk_mul, nI_add, nI_1], show (((8426 : Int32) + ((3 : Int32) * nI c)) + 2) = nI (8426 + 3 * c + 2) by rw [lit, lit, lit, pk_mul, nI_add, nI_add], if_pos (inb_i (show 8426 + 3 * c + 1 < 8918 by omega) (by decide)), ixN (show 8426 + 3 * c + 1 < 2147483648 by omega), g1, bndE, if_pos (inb_i (show 8426 + 3 * c + 2 < 8918 by omega) (by decide)), ixN (show 8426 + 3 * c + 2 < 2147483648 by omega), g2, bndE]
            exact s2
        · obtain rfl : u = 0 := by omega
          refine nop 0 ok (fun δ h => ?_) (fun δ h => ?_)
          · simp only [f_Fp_fair, d1 δ h, wl, Option.bind_some, ifb, if_pos h1, if_pos h2, missing_eq h ok hy]
            rw [if_pos (Int32.not_lt.mp (fun z => hf (q.mp z))), if_neg (show ¬ nI 0 = 1 by decide)]
          · simp only [f_Mo_fair, j6, x6, d2 δ h, il (show 0 < 2147483648 by decide) (show 1 < 2147483648 by decide), Option.bind_some, ifb, if_pos h1, if_pos h2, isFair_eq h ok hy, if_neg hf]
            rw [if_pos True.intro, if_pos (show nI 0 = 0 from rfl)]
    · refine nop (-1) ok (fun δ h => ?_) (fun δ h => ?_)
      · simp only [f_Fp_fair, d1 δ h, wl, Option.bind_some, ifb, if_pos h1, if_neg h2]
      · simp only [f_Mo_fair, j6, x6, d2 δ h, il (show 0 < 2147483648 by decide) (show 1 < 2147483648 by decide), Option.bind_some, ifb, if_pos h1, if_neg h2]
  · refine nop (-1) ok (fun δ h => ?_) (fun δ h => ?_)
    · simp only [f_Fp_fair, d1 δ h, Option.bind_some, ifb, if_neg h1]
    · simp only [f_Mo_fair, j6, x6, d2 δ h, Option.bind_some, ifb, if_neg h1]
