/-! counting -/
def cn (P : Ev → Bool) (l : List Ev) : Nat := (l.filter P).length
theorem cn_le {P : Ev → Bool} {l : List Ev} : cn P l ≤ l.length := List.length_filter_le ..
theorem fold_cn (P : Ev → Bool) : ∀ (l : List Ev) (n : Nat), l.foldl (fun (a : Int32) x => if P x = true then a + 1 else a) (nI n) = nI (n + cn P l) := by
  intro l
  induction l with
  | nil => intro n; rfl
  | cons x l ih =>
    intro n
    rw [List.foldl_cons]
    by_cases h : P x = true
    · rw [if_pos h, nI_1, ih]
      unfold cn; rw [List.filter_cons_of_pos h, List.length_cons]; congr 1; omega
    · rw [if_neg h, ih]
      unfold cn; rw [List.filter_cons_of_neg h]
theorem cn_V (P : Ev → Bool) : ∀ l : List Ev, cn (fun x => isS x && P x) (l.filter isV) = cn P (l.filter isS) := by
  intro l
  unfold cn
  rw [List.filter_filter, List.filter_filter]
  congr 2
  funext x
  by_cases h : isS x = true
  · have : isV x = true := by
      unfold isS at h; unfold isV; have := eq_of_beq h; rw [this]; rfl
    simp [h, this]
  · have h : isS x = false := by simpa using h
    simp [h]
def ofB (a : Int32) (x : Ev) : Prop := a = -1 ∨ nI (x 1) = a
def ofD (a : Int32) (x : Ev) : Bool := a == -1 || nI (x 1) == a
theorem ofD_i {a : Int32} {x : Ev} : ofD a x = true ↔ ofB a x := by unfold ofD ofB; simp
abbrev sts (S : St) : List Ev := (tE S.1).filter isS
abbrev vts (S : St) : List Ev := (tE S.1).filter isV
theorem sts_le {S : St} (ok : Ok S) : (sts S).length ≤ 400 := by
  obtain ⟨_, _, _, a, b, _⟩ := ok.1.1
  show ((tE (sT S)).filter isS).length ≤ 400; omega
theorem sts_n {S : St} (ok : Ok S) : S.1.1 3 = (sts S).length := ok.1.1.2.2.2.1
theorem idx_lt {α : Type} {l : List α} {i : Nat} {x : α} (h : l[i]? = some x) : i < l.length := (List.getElem?_eq_some_iff.mp h).1
theorem isOf_eq {a : Int32} {δ : Dm} {n s : Nat} {S : St} {x : Ev} (h : RepC δ n S) (ok : Ok S) (hx : (sts S)[s]? = some x) : f_Di_isOf (nI s) a δ = some (if ofD a x = true then 1 else 0) := by
  have hs := idx_lt hx
  have h4 := sts_le ok
  have g := (h.1.2.1 s x hx).1
  unfold f_Di_isOf jp_Di_isOf_17
  by_cases h1 : a = -1
  · rw [if_pos h1, if_pos (ofD_i.mpr (Or.inl h1))]
  · rw [if_neg h1, get_in (show (KD 35).2 = 400 by decide) (by omega)]
    simp only [Option.bind]
    rw [show gI δ 35 s = nI (x 1) from g]
    by_cases h2 : nI (x 1) = a
    · rw [if_pos h2, if_pos (ofD_i.mpr (Or.inr h2))]
    · rw [if_neg h2, if_neg (fun z => (ofD_i.mp z).elim h1 h2)]
theorem event_eq {δ : Dm} {e j : Nat} {S : St} {x : Ev} (h : RepM δ S) (ok : Ok S) (hx : (vts S)[e]? = some x) (hj : j < 8) : f_Mo_event (nI e) (nI j) δ = some (nI (x j)) := by
  have he := idx_lt hx
  have h5 := okV ok.1
  have he : e < ((tE (sT S)).filter isV).length := he
  have g := h.1.2.2.1 e x hx j hj
  unfold f_Mo_event
  rw [show (((3926 : Int32) + ((8 : Int32) * nI e)) + nI j) = nI (3926 + 8 * e + j) by rw [lit, lit, pk_mul, nI_add, nI_add], if_pos (inb_i (by omega) (by decide)), ixN (by omega)]
  rw [Nat.zero_add] at g
  rw [g]
theorem isStrip_eq {a : Int32} {δ : Dm} {e : Nat} {S : St} {x : Ev} (h : RepM δ S) (ok : Ok S) (hx : (vts S)[e]? = some x) : f_Mo_isStrip (nI e) a δ = some (if (isS x && ofD a x) = true then 1 else 0) := by
  have hm : x ∈ tE (sT S) := (List.mem_filter.mp (List.mem_of_getElem? hx)).1
  have r := ok.1.2.2.2.1.1 x hm
  unfold f_Mo_isStrip jp_Mo_isStrip_24
  rw [show (0 : Int32) = nI 0 from rfl, show (1 : Int32) = nI 1 from rfl, event_eq h ok hx (by decide), event_eq h ok hx (by decide)]
  simp only [Option.bind]
  have h0 : (nI (x 0) = nI 0) ↔ (x 0 = 0) := nI_eq (by omega) (by decide)
  unfold isS
  by_cases q : x 0 = 0
  · rw [if_pos (h0.mpr q)]
    simp only [q, beq_self_eq_true, Bool.true_and]
    by_cases h1 : a = -nI 1
    · rw [if_pos h1, if_pos (ofD_i.mpr (Or.inl h1))]
    · rw [if_neg h1]
      by_cases h2 : nI (x 1) = a
      · rw [if_pos h2, if_pos (ofD_i.mpr (Or.inr h2))]
      · rw [if_neg h2, if_neg (fun z => (ofD_i.mp z).elim h1 h2)]
  · rw [if_neg (fun z => q (h0.mp z)), if_neg (by simp [q])]
/-- strips of a booth within days -/
def inD (a b c : Int32) (x : Ev) : Bool := ofD a x && (decide (b ≤ nI (x 2)) && decide (nI (x 2) ≤ c))
theorem stripsIn_eq {a b c : Int32} {δ : Dm} {n : Nat} {S : St} (h : RepC δ n S) (ok : Ok S) : f_Di_stripsIn a b c δ = some (nI (cn (inD a b c) (sts S))) := by
  have h4 := sts_le ok
  have g : gI δ 34 0 = nI (sts S).length := by rw [← sts_n ok]; exact (cG h.1).2.2.2.1
  unfold f_Di_stripsIn
  rw [show (0 : Int32) = nI 0 from rfl]
  have Q := for_list (sts S) (by omega) (fun f i (v : Int32) => lp_Di_stripsIn_6 (fun v4_6x v5_6x => (some v4_6x)) a b c δ f v i) (fun v x => if inD a b c x = true then v + 1 else v) (fun v => some v)
    (fun f i x v hx => by
      have hi := idx_lt hx
      simp only [lp_Di_stripsIn_6]
      rw [g, if_neg (nI_ge hi (by omega)), isOf_eq h ok hx, nI_1]
      simp only [Option.bind]
      by_cases q : ofD a x = true
      · rw [if_pos q, if_neg (by decide), get_in (show (KD 36).2 = 400 by decide) (by omega)]
        simp only [Option.bind, within_eq]
        rw [show gI δ 36 i = nI (x 2) from (h.1.2.1 i x hx).2.1, ifb]
        by_cases q2 : b ≤ nI (x 2) ∧ nI (x 2) ≤ c
        · rw [if_pos q2, if_pos (by simp [inD, q, q2])]
        · rw [if_neg q2, if_neg (by simp [inD, q]; intro z; exact Int32.not_le.mp fun y => q2 ⟨z, y⟩)]
      · rw [if_neg q, if_pos rfl, if_neg (by simp [inD, q])])
    (fun f v => by
      simp only [lp_Di_stripsIn_6]
      rw [g, if_pos (nI_le (Nat.le_refl _) (by omega))]) (nI 0)
  refine Q.trans ?_
  rw [fold_cn, Nat.zero_add]
theorem vts_n {δ : Dm} {S : St} (h : RepM δ S) : gI δ 152 7 = nI (vts S).length := by
  have := h.1.2.1; rw [Nat.zero_add] at this; exact this
theorem stripsOn_eq {a b c : Int32} {δ : Dm} {S : St} (h : RepM δ S) (ok : Ok S) : f_Mo_stripsOn a b c δ = some (nI (cn (inD a b c) (sts S))) := by
  have h5 : (vts S).length ≤ 500 := okV ok.1
  have g := vts_n h
  unfold f_Mo_stripsOn
  rw [show (0 : Int32) = nI 0 from rfl]
  have Q := for_list (vts S) (by omega) (fun f i (v : Int32) => lp_Mo_stripsOn_6 (fun v4_6x v5_6x => (some v4_6x)) a b c δ f v i) (fun v x => if (isS x && inD a b c x) = true then v + 1 else v) (fun v => some v)
    (fun f i x v hx => by
      have hi := idx_lt hx
      simp only [lp_Mo_stripsOn_6, bnd]
      rw [if_pos (show inb (7 : Int32) 8918 by decide), show ix (7 : Int32) = 7 from rfl, g, if_neg (nI_ge hi (by omega)), isStrip_eq h ok hx, nI_1, show (2 : Int32) = nI 2 from rfl, event_eq h ok hx (by decide), Int32.add_zero]
      simp only [Option.bind, in_eq]
      rw [ifb]
      by_cases q : (isS x && ofD a x) = true
      · rw [if_pos q, if_neg (by decide)]
        have q' := (Bool.and_eq_true _ _).mp q
        by_cases q2 : b ≤ nI (x 2) ∧ nI (x 2) ≤ c
        · rw [if_pos q2, if_pos (by simp [inD, q'.1, q'.2, q2])]
        · rw [if_neg q2, if_neg (by simp [inD, q'.1, q'.2]; intro z; exact Int32.not_le.mp fun y => q2 ⟨z, y⟩)]
      · rw [if_neg q, if_pos rfl, if_neg (fun z => q (by simp [inD] at z ⊢; exact ⟨z.1, z.2.1⟩))])
    (fun f v => by
      simp only [lp_Mo_stripsOn_6]
      rw [if_pos (show inb (7 : Int32) 8918 by decide), show ix (7 : Int32) = 7 from rfl, g, if_pos (nI_le (Nat.le_refl _) (by omega))]) (nI 0)
  refine Q.trans ?_
  rw [fold_cn, Nat.zero_add, cn_V]
def byB (a v : Int32) (x : Ev) : Bool := ofD a x && nI (x 5) == v
theorem orAll_eq {a : Int32} {δ : Dm} {n : Nat} {S : St} (h : RepC δ n S) (ok : Ok S) : f_To_isBoothOrAll a δ = some (if a = -1 ∨ inb a (S.1.1 2) then 1 else 0) := by
  have k8 : S.1.1 2 ≤ 8 := ok.1.1.2.2.1
  unfold f_To_isBoothOrAll jp_To_isBoothOrAll_13
  by_cases h1 : a = -1
  · rw [if_pos h1, if_pos (Or.inl h1)]
  · rw [if_neg h1, boothAt_eq k8 (cG h.1).2.2.1]
    by_cases h2 : inb a (S.1.1 2)
    · rw [if_pos (Or.inr h2), if_pos h2]
      simp only [Option.bind, ocs]
      rw [if_pos (isB_ix h2 k8)]
    · rw [if_neg h2, if_neg (fun z => z.elim h1 h2)]
      rfl
theorem op_spoilt (a v : Int32) : OpP (f_Fp_spoilt a v) (f_Mo_spoilt a v) := by
  intro δ n S ⟨hC, hM, ok⟩
  have k8 : S.1.1 2 ≤ 8 := ok.1.1.2.2.1
  have h4 := sts_le ok
  have g : gI δ 34 0 = nI (sts S).length := by rw [← sts_n ok]; exact (cG hC.1).2.2.2.1
  have h5 : (vts S).length ≤ 500 := okV ok.1
  have g7 := vts_n hM
  have b2 : f_Mo_isBooth a δ = some (bI (inb a (S.1.1 2))) := isBooth_eq (by omega) (mS hM.1).2.2.1
  have i5 : f_Mo_in v.toInt64 0 5 δ = some (bI (inb v 6)) := in0 (n := 5) (by decide) rfl
  have QC : lp_Fp_spoilt_34 (fun v4_34x v5_34x => (some v4_34x)) a v δ FU (nI 0) (nI 0) = some (nI (cn (byB a v) (sts S))) := by
    have Q := for_list (sts S) (by omega) (fun f i (c : Int32) => lp_Fp_spoilt_34 (fun v4_34x v5_34x => (some v4_34x)) a v δ f c i) (fun c x => if byB a v x = true then c + 1 else c) (fun c => some c)
      (fun f i x c hx => by
        have hi := idx_lt hx
        simp only [lp_Fp_spoilt_34]
        rw [g, if_neg (nI_ge hi (by omega)), isOf_eq hC ok hx, nI_1]
        simp only [Option.bind]
        by_cases q : ofD a x = true
        · rw [if_pos q, if_neg (by decide), get_in (show (KD 37).2 = 400 by decide) (by omega)]
          simp only [Option.bind]
          rw [show gI δ 37 i = nI (x 5) from (hC.1.2.1 i x hx).2.2.1]
          by_cases q2 : nI (x 5) = v
          · rw [if_pos q2, if_pos (by simp [byB, q, q2])]
          · rw [if_neg q2, if_neg (by simp [byB, q, q2])]
        · rw [if_neg q, if_pos rfl, if_neg (by simp [byB, q])])
      (fun f c => by
        simp only [lp_Fp_spoilt_34]
        rw [g, if_pos (nI_le (Nat.le_refl _) (by omega))]) (nI 0)
    refine Q.trans ?_
    rw [fold_cn, Nat.zero_add]
  have QM : lp_Mo_spoilt_32 (fun v4_34x v5_34x => (some v4_34x)) a v δ FU (nI 0) (nI 0) = some (nI (cn (byB a v) (sts S))) := by
    have Q := for_list (vts S) (by omega) (fun f i (c : Int32) => lp_Mo_spoilt_32 (fun v4_34x v5_34x => (some v4_34x)) a v δ f c i) (fun c x => if (isS x && byB a v x) = true then c + 1 else c) (fun c => some c)
      (fun f i x c hx => by
        have hi := idx_lt hx
        simp only [lp_Mo_spoilt_32, bnd]
        rw [if_pos (show inb (7 : Int32) 8918 by decide), show ix (7 : Int32) = 7 from rfl, g7, if_neg (nI_ge hi (by omega)), isStrip_eq hM ok hx, nI_1, show (5 : Int32) = nI 5 from rfl, event_eq hM ok hx (by decide), Int32.add_zero]
        simp only [Option.bind]
        by_cases q : (isS x && ofD a x) = true
        · rw [if_pos q, if_neg (by decide)]
          have q' := (Bool.and_eq_true _ _).mp q
          by_cases q2 : nI (x 5) = v
          · rw [if_pos q2, if_pos (by simp [byB, q'.1, q'.2, q2])]
          · rw [if_neg q2, if_neg (by simp [byB, q'.1, q'.2, q2])]
        · rw [if_neg q, if_pos rfl, if_neg (fun z => q (by simp [byB] at z ⊢; exact ⟨z.1, z.2.1⟩))])
      (fun f c => by
        simp only [lp_Mo_spoilt_32]
        rw [if_pos (show inb (7 : Int32) 8918 by decide), show ix (7 : Int32) = 7 from rfl, g7, if_pos (nI_le (Nat.le_refl _) (by omega))]) (nI 0)
    refine Q.trans ?_
    rw [fold_cn, Nat.zero_add, cn_V]
  by_cases h1 : a = -1 ∨ inb a (S.1.1 2)
  · by_cases h2 : inb v 6
    · refine ⟨nI (cn (byB a v) (sts S)), ?_, ?_⟩
      · simp only [f_Fp_spoilt, orAll_eq hC ok, if_pos h1, Option.bind, isSpoiler_eq, ifb, if_pos h2]
        rw [if_neg (by decide)]; exact QC
      · simp only [f_Mo_spoilt, jp_Mo_spoilt_13, b2, i5, Option.bind, ifb, if_pos h2]
        by_cases q : a = -1
        · rw [if_pos q]; exact QM
        · rw [if_neg q, if_pos (h1.resolve_left q)]; exact QM
    · refine ⟨-1, ?_, ?_⟩
      · simp only [f_Fp_spoilt, orAll_eq hC ok, if_pos h1, Option.bind, isSpoiler_eq, ifb, if_neg h2]
        rw [if_neg (by decide)]
      · simp only [f_Mo_spoilt, jp_Mo_spoilt_13, b2, i5, Option.bind, ifb, if_neg h2]
        by_cases q : a = -1
        · rw [if_pos q]
        · rw [if_neg q, if_pos (h1.resolve_left q)]
  · refine ⟨-1, ?_, ?_⟩
    · simp only [f_Fp_spoilt, orAll_eq hC ok, if_neg h1, Option.bind]
      rw [if_pos True.intro]
    · simp only [f_Mo_spoilt, b2, Option.bind, ifb, if_neg (fun z => h1 (Or.inl z)), if_neg (fun z => h1 (Or.inr z))]
