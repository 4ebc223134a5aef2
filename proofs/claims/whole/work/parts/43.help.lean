/-! the helpers of both, and cells anew -/
theorem inb_ex {a : Int32} {n : Nat} (hn : n < 2147483648) (h : inb a n) : ∃ k, k < n ∧ a = nI k := vp_in_of (vp_in_iff.mpr h) hn
theorem inb_i {k n : Nat} (h : k < n) (hn : n < 2147483648) : inb (nI k) n := by rw [inbN (by omega)]; exact h
theorem inb0 {a : Int32} {n : Nat} (hn : n < 2147483648) : inb a n ↔ ¬ a < 0 ∧ ¬ nI n ≤ a := by
  unfold inb; rw [lt32, le32, nI_toInt hn, show (0 : Int32).toInt = 0 from rfl]; omega
theorem inb1 {a : Int32} {n : Nat} (hn : n < 2147483647) : inb a (n + 1) ↔ 0 ≤ a ∧ a ≤ nI n := by
  unfold inb; rw [le32, le32, nI_toInt (by omega), show (0 : Int32).toInt = 0 from rfl]; omega
theorem low_i {a : Int32} {l n : Nat} (hn : n < 2147483647) (h : nI l ≤ a ∧ a ≤ nI n) (hl : l < 2147483648) : ∃ k, l ≤ k ∧ k ≤ n ∧ a = nI k := by
  have h1 := le32.mp h.1; have h2 := le32.mp h.2
  rw [nI_toInt (by omega)] at h1 h2
  obtain ⟨k, hk, rfl⟩ := inb_ex (a := a) (n := n + 1) (by omega) ⟨by omega, by omega⟩
  rw [nI_toInt (by omega)] at h1 h2
  exact ⟨k, by omega, by omega, rfl⟩
theorem LM_keep2 {i : Nat} {δ δ' : Dm} {L : LawT} (h : LM i δ L) (hk : ∀ b j, 154 ≤ b → b < 159 → gI δ' b j = gI δ b j) : LM i δ' L := by
  obtain ⟨h1, h2, h3⟩ := h
  refine ⟨by rw [hk 157 _ (by decide) (by decide)]; exact h1, fun c x hx => ?_, fun k q => by rw [hk 158 _ (by decide) (by decide)]; exact h3 k q⟩
  rw [hk 156 _ (by decide) (by decide), hk 156 _ (by decide) (by decide), hk 156 _ (by decide) (by decide), hk 156 _ (by decide) (by decide), hk 156 _ (by decide) (by decide)]
  obtain ⟨a1, a, a2, a3, a4, a5, a6, a7⟩ := h2 c x hx
  exact ⟨a1, a, a2, a3, a4, a5, a6, fun k o q => by rw [hk 154 _ (by decide) (by decide)]; exact a7 k o q⟩
theorem RM_row {r o : Nat} {δ δ' : Dm} {T : Tw} (h : RM r o δ T) (hk : ∀ j, gI δ' r j = gI δ r j) : RM r o δ' T := by
  obtain ⟨h1, h2, h3, h4, h5⟩ := h
  exact ⟨fun i hi => (hk _).trans (h1 i hi), (hk _).trans h2, fun e x hx j hj => (hk _).trans (h3 e x hx j hj), fun k x hx j hj => (hk _).trans (h4 k x hx j hj), fun k x hx j hj => (hk _).trans (h5 k x hx j hj)⟩
def setG (S : St) (i v : Nat) : St := ((up S.1.1 i v, S.1.2), S.2)
def okL (S : St) : Prop := ((tE S.1).filter isV).length ≤ 500 ∧ (tR S.1).length ≤ 100 ∧ (tC S.1).length ≤ 100
theorem okL_of {S : St} (h : Ok S) : okL S := by
  refine ⟨okV h.1, ?_, ?_⟩
  · show (tR (sT S)).length ≤ 100
    obtain ⟨_, _, _, _, _, _, _, a, b, _⟩ := h.1.1; omega
  · show (tC (sT S)).length ≤ 100
    obtain ⟨_, _, _, _, _, _, _, _, _, a, b⟩ := h.1.1; omega
theorem SC_up {δ : Dm} {n : Nat} {S : St} {i v : Nat} (hi : dom i) (hl : (sJ S).length ≤ 8) (h : RepC δ n S) : RepC (sI δ (29 + cr i) (cs i) (nI v)) n (setG S i v) := by
  obtain ⟨h1, h2, h3, h4, h5, h6, h7, h8⟩ := h
  have hc := (ci_at i hi).2.1
  refine ⟨RC_up hi h1, by rw [gsr (by omega)]; exact h2, fun j L q => LC_keep (h3 j L q) (fun o k ho => gsr (by omega)), by rw [gsr (by omega)]; exact h4, fun j hj => by rw [gsr (by omega)]; exact h5 j hj, h6, fun j q hq => ?_, fun k a b => by rw [gsr (by omega)]; exact h8 k a b⟩
  obtain ⟨a1, a2⟩ := h7 j q hq
  exact ⟨by rw [gsr (by omega)]; exact a1, RC_keep a2 (fun o k ho => gsr (by omega))⟩
theorem SM_up {δ : Dm} {S : St} {i v : Nat} (hi : dom i ∨ (726 ≤ i ∧ i < 3926)) (hl : okL S) (h : RepM δ S) : RepM (sI δ 152 i (nI v)) (setG S i v) := by
  obtain ⟨h1, h2, h3, h4, h5, h6, h7⟩ := h
  refine ⟨?_, by rw [gsr (by decide)]; exact h2, fun j L q => LM_keep2 (h3 j L q) (fun b k a1 a2 => gsr (by omega)), by rw [gsr (by decide)]; exact h4, fun j hj => by rw [gsr (by decide)]; exact h5 j hj, fun q hq => RM_row (h6 q hq) (fun k => gsr (by decide)), fun k hk => by rw [gsr (by decide)]; exact h7 k hk⟩
  have h := RM_up (v := v) hi hl.1 hl.2.1 hl.2.2 h1
  rw [Nat.zero_add] at h
  exact h
/-- which cell where -/
theorem dom_h {d : Nat} (h : d < 400) : dom (10 + d) ∧ cr (10 + d) = 1 ∧ cs (10 + d) = d := by
  refine ⟨by unfold dom; omega, ?_, ?_⟩
  · unfold cr; rw [if_neg (by omega), if_neg (by omega), if_neg (by omega), if_pos (by omega)]
  · unfold cs; rw [if_neg (by omega), if_neg (by omega), if_neg (by omega), if_pos (by omega)]; omega
theorem dom_l {p : Nat} (h : p < 12) : dom (410 + p) ∧ cr (410 + p) = 2 ∧ cs (410 + p) = p := by
  refine ⟨by unfold dom; omega, ?_, ?_⟩
  · unfold cr; rw [if_neg (by omega), if_neg (by omega), if_neg (by omega), if_neg (by omega), if_pos (by omega)]
  · unfold cs; rw [if_neg (by omega), if_neg (by omega), if_neg (by omega), if_neg (by omega), if_pos (by omega)]; omega
theorem dom_r {k : Nat} (h : k < 144) : dom (422 + k) ∧ cr (422 + k) = 3 ∧ cs (422 + k) = k := by
  refine ⟨by unfold dom; omega, ?_, ?_⟩
  · unfold cr; rw [if_neg (by omega), if_neg (by omega), if_neg (by omega), if_neg (by omega), if_neg (by omega), if_pos (by omega)]
  · unfold cs; rw [if_neg (by omega), if_neg (by omega), if_neg (by omega), if_neg (by omega), if_neg (by omega), if_pos (by omega)]; omega
theorem dom_b {b w : Nat} (h : b < 8) (hw : w < 12) : dom (566 + (20 * b + w)) ∧ cr (566 + (20 * b + w)) = (if 3 ≤ w ∧ w < 6 then 26 else 25) + 4 * b ∧ cs (566 + (20 * b + w)) = (if 3 ≤ w ∧ w < 6 then w - 3 else bs w) := by
  have e1 : (566 + (20 * b + w) - 566) % 20 = w := by omega
  have e2 : (566 + (20 * b + w) - 566) / 20 = b := by omega
  refine ⟨by unfold dom; omega, ?_, ?_⟩
  · unfold cr; rw [if_neg (by omega), if_neg (by omega), if_neg (by omega), if_neg (by omega), if_neg (by omega), if_neg (by omega), if_pos (by omega), e1, e2]
  · unfold cs; rw [if_neg (by omega), if_neg (by omega), if_neg (by omega), if_neg (by omega), if_neg (by omega), if_neg (by omega), if_pos (by omega), e1]
theorem dom_t {b p m : Nat} (h : b < 8) (hp : p < 12) (hm : m < 2) : dom (8726 + (2 * (12 * b + p) + m)) ∧ cr (8726 + (2 * (12 * b + p) + m)) = 27 + 4 * b + m ∧ cs (8726 + (2 * (12 * b + p) + m)) = p := by
  have e1 : (8726 + (2 * (12 * b + p) + m) - 8726) % 2 = m := by omega
  have e2 : (8726 + (2 * (12 * b + p) + m) - 8726) / 24 = b := by omega
  have e3 : (8726 + (2 * (12 * b + p) + m) - 8726) % 24 / 2 = p := by omega
  refine ⟨by unfold dom; omega, ?_, ?_⟩
  · unfold cr; rw [if_neg (by omega), if_neg (by omega), if_neg (by omega), if_neg (by omega), if_neg (by omega), if_neg (by omega), if_neg (by omega), e1, e2]
  · unfold cs; rw [if_neg (by omega), if_neg (by omega), if_neg (by omega), if_neg (by omega), if_neg (by omega), if_neg (by omega), if_neg (by omega), e3]
/-- reading the class's cells -/
theorem cG {t : Nat} {δ : Dm} {T : Tw} (h : RC t δ T) : gI δ t 0 = nI (T.1 0) ∧ gI δ t 1 = nI (T.1 1) ∧ gI δ t 2 = nI (T.1 2) ∧ gI δ (t + 5) 0 = nI (T.1 3) ∧ gI δ (t + 5) 1 = nI (T.1 4) ∧ gI δ (t + 16) 0 = nI (T.1 5) ∧ gI δ (t + 16) 1 = nI (T.1 6) :=
  ⟨h.1 0 (Or.inl (by decide)), h.1 1 (Or.inl (by decide)), h.1 2 (Or.inl (by decide)), h.1 3 (Or.inl (by decide)), h.1 4 (Or.inl (by decide)), h.1 5 (Or.inl (by decide)), h.1 6 (Or.inl (by decide))⟩
theorem cH {t d : Nat} {δ : Dm} {T : Tw} (h : RC t δ T) (hd : d < 400) : gI δ (t + 1) d = nI (T.1 (10 + d)) := by
  have q := h.1 _ (dom_h hd).1; rw [(dom_h hd).2.1, (dom_h hd).2.2] at q; exact q
theorem cL {t p : Nat} {δ : Dm} {T : Tw} (h : RC t δ T) (hd : p < 12) : gI δ (t + 2) p = nI (T.1 (410 + p)) := by
  have q := h.1 _ (dom_l hd).1; rw [(dom_l hd).2.1, (dom_l hd).2.2] at q; exact q
theorem cR {t k : Nat} {δ : Dm} {T : Tw} (h : RC t δ T) (hd : k < 144) : gI δ (t + 3) k = nI (T.1 (422 + k)) := by
  have q := h.1 _ (dom_r hd).1; rw [(dom_r hd).2.1, (dom_r hd).2.2] at q; exact q
theorem cB {b w : Nat} {δ : Dm} {T : Tw} (h : RC 29 δ T) (hb : b < 8) (hw : w < 12) (hn : ¬ (3 ≤ w ∧ w < 6)) : gI δ (54 + 4 * b) (bs w) = nI (bc T.1 b w) := by
  have q := h.1 _ (dom_b hb hw).1; rw [(dom_b hb hw).2.1, (dom_b hb hw).2.2, if_neg hn, if_neg hn, show 29 + (25 + 4 * b) = 54 + 4 * b by omega] at q; exact q
theorem cS {b k : Nat} {δ : Dm} {T : Tw} (h : RC 29 δ T) (hb : b < 8) (hk : k < 3) : gI δ (54 + 4 * b + 1) k = nI (bc T.1 b (3 + k)) := by
  have q := h.1 _ (dom_b (w := 3 + k) hb (by omega)).1
  rw [(dom_b hb (by omega)).2.1, (dom_b hb (by omega)).2.2, if_pos (by omega), if_pos (by omega), show 29 + (26 + 4 * b) = 54 + 4 * b + 1 by omega, show 3 + k - 3 = k by omega] at q; exact q
theorem cT {b p m : Nat} {δ : Dm} {T : Tw} (h : RC 29 δ T) (hb : b < 8) (hp : p < 12) (hm : m < 2) : gI δ (54 + 4 * b + 2 + m) p = nI (T.1 (8726 + (2 * (12 * b + p) + m))) := by
  have q := h.1 _ (dom_t hb hp hm).1
  rw [(dom_t hb hp hm).2.1, (dom_t hb hp hm).2.2, show 29 + (27 + 4 * b + m) = 54 + 4 * b + 2 + m by omega] at q; exact q
theorem mG {i : Nat} {δ : Dm} {T : Tw} (h : RM 152 0 δ T) (hi : dom i ∨ (726 ≤ i ∧ i < 3926)) : gI δ 152 i = nI (T.1 i) := by
  have q := h.1 i hi; rw [Nat.zero_add] at q; exact q
/-- a cell of the class anew -/
theorem uC {δ : Dm} {n : Nat} {S : St} (a j i v : Nat) (hi : dom i) (ha : a = 29 + cr i) (hj : j = cs i) (hl : (sJ S).length ≤ 8) (h : RepC δ n S) : RepC (sI δ a j (nI v)) n (setG S i v) := by
  subst ha; subst hj; exact SC_up hi hl h
theorem isB_at : ∀ b, b < 8 → isB (54 + 4 * b) = true ∧ RT 33 b = some (54 + 4 * b) := by decide +kernel
theorem isL_at : ∀ b, b < 8 → isL (87 + 8 * b) = true ∧ RT 6 b = some (87 + 8 * b) := by decide +kernel
theorem KD_b : ∀ b, b < 8 → (KD (54 + 4 * b + 1)).2 = 3 ∧ (KD (54 + 4 * b + 2)).2 = 12 ∧ (KD (54 + 4 * b + 3)).2 = 12 := by decide +kernel
theorem KD_l : ∀ b, b < 8 → (KD (87 + 8 * b + 1)).2 = 14 ∧ (KD (87 + 8 * b + 2)).2 = 14 ∧ (KD (87 + 8 * b + 3)).2 = 14 ∧ (KD (87 + 8 * b + 4)).2 = 14 ∧ (KD (87 + 8 * b + 5)).2 = 14 ∧ (KD (87 + 8 * b + 6)).2 = 3 ∧ (KD (87 + 8 * b + 7)).2 = 400 := by decide +kernel
theorem slot_eq {a : Int32} {δ : Dm} : f_To_slot 29 a δ = some (if inb a 8 then some (54 + 4 * ix a) else none) := by
  unfold f_To_slot
  by_cases h : inb a 8
  · obtain ⟨k, hk, rfl⟩ := inb_ex (by decide) h
    rw [if_neg (nI_pos (by omega)), if_neg (by rw [lit]; exact nI_ge hk (by decide)), if_pos h, if_pos h, ixN (by omega), show 29 + 4 = 33 from rfl, (isB_at k hk).2]
    simp only [ocs]
    rw [if_pos (isB_at k hk).1]
  · rw [if_neg h, if_neg h]
    by_cases q : a < 0
    · rw [if_pos q]
    · rw [if_neg q, if_pos]
      rw [inb0 (by decide)] at h
      rw [lit]; exact Classical.byContradiction fun z => h ⟨q, z⟩
theorem boothAt_eq {a : Int32} {δ : Dm} {k : Nat} (hk : k ≤ 8) (h2 : gI δ 29 2 = nI k) : f_To_boothAt a δ = some (if inb a k then some (54 + 4 * ix a) else none) := by
  unfold f_To_boothAt
  rw [h2, slot_eq]
  by_cases h : inb a k
  · obtain ⟨b, hb, rfl⟩ := inb_ex (by omega) h
    rw [if_neg (nI_ge hb (by omega)), if_pos h, if_pos (inb_i (by omega) (by decide)), ixN (by omega)]
    simp only [Option.bind, ocs]
    rw [if_pos (isB_at b (by omega)).1]
  · rw [if_neg h]
    by_cases q : nI k ≤ a
    · rw [if_pos q]
    · rw [if_neg q, if_neg]
      · rfl
      · intro z
        obtain ⟨b, hb, rfl⟩ := inb_ex (by decide) z
        rw [nI_leI (by omega) (by omega)] at q
        exact h (inb_i (by omega) (by omega))
theorem lawAt_eq {a : Int32} {δ : Dm} {k : Nat} (hk : k ≤ 8) (h2 : gI δ 4 3 = nI k) : f_Fp_lawAt a δ = some (if inb a k then some (87 + 8 * ix a) else none) := by
  unfold f_Fp_lawAt
  rw [h2]
  by_cases h : inb a k
  · obtain ⟨b, hb, rfl⟩ := inb_ex (by omega) h
    rw [if_neg (nI_pos (by omega)), if_neg (nI_ge hb (by omega)), if_neg (by rw [lit]; exact nI_ge (by omega) (by decide)), if_pos h, if_pos (inb_i (by omega) (by decide)), ixN (by omega), (isL_at b (by omega)).2]
    simp only [ocs]
    rw [if_pos (isL_at b (by omega)).1]
  · rw [if_neg h]
    by_cases q : a < 0
    · rw [if_pos q]
    · rw [if_neg q, if_pos]
      rw [inb0 (by omega)] at h
      exact Classical.byContradiction fun z => h ⟨q, z⟩
theorem hasPlace_eq {a : Int32} {δ : Dm} {k : Nat} (hk : k < 2147483648) (h2 : gI δ 29 1 = nI k) : f_To_hasPlace a δ = some (bI (inb a k)) := by
  unfold f_To_hasPlace bI
  rw [h2]
  by_cases h : inb a k
  · rw [if_pos h, if_neg ((inb0 hk).mp h).1, if_neg ((inb0 hk).mp h).2]
  · rw [if_neg h]
    by_cases q : a < 0
    · rw [if_pos q]
    · rw [if_neg q, if_pos]
      exact Classical.byContradiction fun z => h ((inb0 hk).mpr ⟨q, z⟩)
theorem isDay_eq {a : Int32} {δ : Dm} : f_Fp_isDay a δ = some (bI (inb a 400)) := by
  unfold f_Fp_isDay
  rw [within_eq, show some (bI (0 ≤ a ∧ a ≤ 399)) = some (bI (inb a 400)) from congrArg some (bI_c (inb1 (n := 399) (by decide)).symm)]
  simp only [Option.bind]
  rw [if_pos bI_01]
theorem isBath_eq {a : Int32} {δ : Dm} : f_Fp_isBath a δ = some (bI (inb a 3)) := by
  unfold f_Fp_isBath
  rw [within_eq, show some (bI (0 ≤ a ∧ a ≤ 2)) = some (bI (inb a 3)) from congrArg some (bI_c (inb1 (n := 2) (by decide)).symm)]
  simp only [Option.bind]
  rw [if_pos bI_01]
theorem isSpoiler_eq {a : Int32} {δ : Dm} : f_Fp_isSpoiler a δ = some (bI (inb a 6)) := by
  unfold f_Fp_isSpoiler
  rw [within_eq, show some (bI (0 ≤ a ∧ a ≤ 5)) = some (bI (inb a 6)) from congrArg some (bI_c (inb1 (n := 5) (by decide)).symm)]
  simp only [Option.bind]
  rw [if_pos bI_01]
theorem within0 {a : Int32} {n : Nat} (hn : n < 2147483647) {δ : Dm} : f_Fp_within a 0 (nI n) δ = some (bI (inb a (n + 1))) := by
  rw [within_eq]; exact congrArg some (bI_c (inb1 hn).symm)
theorem in0 {a : Int32} {n : Nat} (hn : n < 2147483647) {x : Int64} (hx : x = (nI n).toInt64) {δ : Dm} : f_Mo_in a.toInt64 0 x δ = some (bI (inb a (n + 1))) := by
  subst hx
  have h := in_eq a 0 (nI n) δ
  rw [show (0 : Int32).toInt64 = 0 from rfl] at h
  rw [h]; exact congrArg some (bI_c (inb1 hn).symm)
theorem isPlace_eq {a : Int32} {δ : Dm} {k : Nat} (hk : k < 2147483648) (h2 : gI δ 152 1 = nI k) : f_Mo_isPlace a δ = some (bI (inb a k)) := by
  unfold f_Mo_isPlace bI
  rw [if_pos (show inb (1 : Int32) 8918 by decide), show ix (1 : Int32) = 1 from rfl, h2]
  by_cases h : inb a k
  · rw [if_pos h, if_neg ((inb0 hk).mp h).1, if_neg ((inb0 hk).mp h).2]
  · rw [if_neg h]
    by_cases q : a < 0
    · rw [if_pos q]
    · rw [if_neg q, if_pos]
      exact Classical.byContradiction fun z => h ((inb0 hk).mpr ⟨q, z⟩)
theorem isBooth_eq {a : Int32} {δ : Dm} {k : Nat} (hk : k < 2147483648) (h2 : gI δ 152 2 = nI k) : f_Mo_isBooth a δ = some (bI (inb a k)) := by
  unfold f_Mo_isBooth bI
  rw [if_pos (show inb (2 : Int32) 8918 by decide), show ix (2 : Int32) = 2 from rfl, h2]
  by_cases h : inb a k
  · rw [if_pos h, if_neg ((inb0 hk).mp h).1, if_neg ((inb0 hk).mp h).2]
  · rw [if_neg h]
    by_cases q : a < 0
    · rw [if_pos q]
    · rw [if_neg q, if_pos]
      exact Classical.byContradiction fun z => h ((inb0 hk).mpr ⟨q, z⟩)
theorem isLaw_eq {a : Int32} {δ : Dm} {k : Nat} (hk : k < 2147483648) (h2 : gI δ 151 3 = nI k) : f_Mo_isLaw a δ = some (bI (inb a k)) := by
  unfold f_Mo_isLaw bI
  rw [h2]
  by_cases h : inb a k
  · rw [if_pos h, if_neg ((inb0 hk).mp h).1, if_neg ((inb0 hk).mp h).2]
  · rw [if_neg h]
    by_cases q : a < 0
    · rw [if_pos q]
    · rw [if_neg q, if_pos]
      exact Classical.byContradiction fun z => h ((inb0 hk).mpr ⟨q, z⟩)
theorem isDayM_eq {a : Int32} {δ : Dm} : f_Mo_isDay a δ = some (bI (inb a 400)) := by
  unfold f_Mo_isDay bI
  rw [show (400 : Int32) = nI 400 from rfl]
  by_cases h : inb a 400
  · rw [if_pos h, if_neg ((inb0 (by decide)).mp h).1, if_neg ((inb0 (by decide)).mp h).2]
  · rw [if_neg h]
    by_cases q : a < 0
    · rw [if_pos q]
    · rw [if_neg q, if_pos]
      exact Classical.byContradiction fun z => h ((inb0 (by decide)).mpr ⟨q, z⟩)
theorem isPast_eq {a : Int32} {δ : Dm} {k : Nat} (hk : k < 2147483647) (h2 : gI δ 152 0 = nI k) : f_Mo_isPast a δ = some (bI (inb a (k + 1))) := by
  unfold f_Mo_isPast bI
  rw [if_pos (show inb (0 : Int32) 8918 by decide), show ix (0 : Int32) = 0 from rfl, h2]
  by_cases h : inb a (k + 1)
  · obtain ⟨j, hj, rfl⟩ := inb_ex (by omega) h
    rw [if_pos h, if_neg (nI_pos (by omega)), if_neg (nI_nlt (by omega) (by omega))]
  · rw [if_neg h]
    by_cases q : a < 0
    · rw [if_pos q]
    · rw [if_neg q, if_pos]
      refine Classical.byContradiction fun z => h ((inb1 hk).mpr ⟨Int32.not_lt.mp q, Int32.not_lt.mp z⟩)
theorem cell_eq {b w : Nat} {δ : Dm} (hb : b < 8) (hw : w < 20) : f_Mo_cell (nI b) (nI w) δ = some (gI δ 152 (566 + (20 * b + w))) := by
  unfold f_Mo_cell
  rw [show (((566 : Int32) + ((20 : Int32) * nI b)) + nI w) = nI (566 + (20 * b + w)) by rw [lit, lit, pk_mul, nI_add, nI_add]; exact congrArg nI (by omega), if_pos (inb_i (by omega) (by decide)), ixN (by omega)]
theorem sets_eq {b w : Nat} {v : Int32} {δ : Dm} (hb : b < 8) (hw : w < 20) : f_Mo_sets (nI b) (nI w) v δ = some (sI δ 152 (566 + (20 * b + w)) v) := by
  unfold f_Mo_sets bnd
  rw [show (((566 : Int32) + ((20 : Int32) * nI b)) + nI w) = nI (566 + (20 * b + w)) by rw [lit, lit, pk_mul, nI_add, nI_add]; exact congrArg nI (by omega), if_pos (inb_i (by omega) (by decide)), ixN (by omega)]
