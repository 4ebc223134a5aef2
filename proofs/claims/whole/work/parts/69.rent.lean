/-! rent, cheapest -/
def rentP (L : LawT) (S : St) (b from' to : Nat) : Int32 := clI (-99999999) 99999999 (totP L (wdG S.1.1 b to 0 0 (nI (cn (inD (nI b) (nI from') (nI to)) (sts S))) (nI (bc S.1.1 b 1) * nI (cn (inD (nI b) (nI from') (nI to)) (sts S)))) 10)
theorem i32_mc (a b : Int32) : a * b = b * a := Int32.mul_comm a b
theorem rentC {n l b u v : Nat} {d : Dm} {S : St} {L : LawT} (h : RepC d n S) (ok : Ok S) (hL : (sJ S)[l]? = some L) (hb : b < S.1.1 2) (hv : v < 400) : ∃ d', d'.1 = d.1 ∧ f_Fp_rentBy (87 + 8 * l) (nI b) (nI u) (nI v) d = some (rentP L S b u v, d') := by
  obtain ⟨n0, n1, n2, n3, n4, n5, n6, n7, n8, n9, n10, hb8, h12, h400⟩ := ok_nums ok hb
  have k8 : S.1.1 2 ≤ 8 := ok.1.1.2.2.1
  have kl : (sJ S).length ≤ 8 := ok.2.1
  have hl := idx_lt hL
  obtain ⟨c, hc⟩ : ∃ c, cn (inD (nI b) (nI u) (nI v)) (sts S) = c := ⟨_, rfl⟩
  obtain ⟨d1, a1, a2, a3⟩ := open_S h ok hb hv
  obtain ⟨d2, b1, b2, b3⟩ := till_eq (sp := nI c) (bx := nI (bc S.1.1 b 1) * nI c) a2
  have E2 : d2.1 = d.1 := b1.trans a1
  obtain ⟨d3, c1, c2⟩ := totC (r := 10) (w := wdG S.1.1 b v 0 0 (nI c) (nI (bc S.1.1 b 1) * nI c)) (LC_E E2 (h.2.2.1 l L hL)) (ok.2.2.1 L (List.mem_of_getElem? hL)) (LKd_l (by omega)) (Or.inr rfl) b2
  obtain ⟨y, e1, e2⟩ := held_eq (v := totP L (wdG S.1.1 b v 0 0 (nI c) (nI (bc S.1.1 b 1) * nI c)) 10) (lo := -99999999) (hi := 99999999) (l64 := -99999999) (h64 := 99999999) (δ := d3) (by decide) (by decide) (by decide)
  refine ⟨d3, c1.1.trans E2, ?_⟩
  unfold f_Fp_rentBy rentP
  rw [hc, boothAt_eq k8 (cG h.1).2.2.1, if_pos (inb_i hb (by omega)), ixN (show b < 2147483648 by omega)]
  simp only [Option.bind_some, ocs, if_pos (isB_at _ hb8).1]
  rw [stripsIn_eq h ok, hc, Option.bind_some, a3, Option.bind_some, gE a1, cBs 1 1 rfl h hb8 (by decide) (by decide), b3, Option.bind_some, show (16 : Int32) = nI (csort 10) from rfl, show (0 : Int32) = nI (cbath 10) from rfl, c2, Option.bind_some]
  simp only [bndE]
  rw [e1, Option.bind_some, e2]
  rfl
theorem rentM {l b u v : Nat} {d : Dm} {S : St} {L : LawT} (h : RepM d S) (ok : Ok S) (hL : (sJ S)[l]? = some L) (hb : b < S.1.1 2) (hv : v < 400) : ∃ d', FrT d d' ∧ f_Mo_rentBy (nI l) (nI b) (nI u) (nI v) d = some (rentP L S b u v, d') := by
  obtain ⟨n0, n1, n2, n3, n4, n5, n6, n7, n8, n9, n10, hb8, h12, h400⟩ := ok_nums ok hb
  have kl : (sJ S).length ≤ 8 := ok.2.1
  have hl := idx_lt hL
  obtain ⟨c, hc⟩ : ∃ c, cn (inD (nI b) (nI u) (nI v)) (sts S) = c := ⟨_, rfl⟩
  obtain ⟨d1, a1, a2, a3⟩ := words_S (hd := 0) (st := 0) (sp := nI c) (bx := nI (bc S.1.1 b 1) * nI c) (RGM_of h.1) ok hb hv
  obtain ⟨d2, b1, b2⟩ := summed_eq (r := 10) (lo := -99999999) (hi := 99999999) (w := wdG S.1.1 b v 0 0 (nI c) (nI (bc S.1.1 b 1) * nI c)) (by decide) (by decide) (LM_keep (h.2.2.1 l L hL) (fun b j _ _ => gE a1 b j)) (ok.2.2.1 L (List.mem_of_getElem? hL)) (show l < 8 by omega) (Or.inr rfl) a2
  refine ⟨d2, (FrT_E a1).trans b1.1, ?_⟩
  unfold f_Mo_rentBy rentP
  rw [hc, stripsOn_eq h ok, hc, Option.bind_some, show f_Mo_cell (nI b) 1 d = _ from rW (w := 1) (RGM_of h.1) hb8 (by decide), Option.bind_some, i32_mc (nI c), a3, Option.bind_some, show (10 : Int32) = nI 10 from rfl, b2, Option.bind_some]
  simp only [bndE]
theorem span_eq {a b : Int32} {δ : Dm} : f_Fp_isSpan a b δ = some (if inb a 400 ∧ inb b 400 ∧ a ≤ b then 1 else 0) := by
  unfold f_Fp_isSpan
  rw [isDay_eq, Option.bind_some, ifb]
  by_cases h1 : inb a 400
  · rw [if_pos h1, isDay_eq, Option.bind_some, ifb]
    by_cases h2 : inb b 400
    · rw [if_pos h2]
      by_cases h3 : a ≤ b
      · rw [if_neg (Int32.not_lt.mpr h3), if_pos ⟨h1, h2, h3⟩]
      · rw [if_pos (Int32.not_le.mp h3), if_neg (fun z => h3 z.2.2)]
    · rw [if_neg h2, if_neg (fun z => h2 z.2.1)]
  · rw [if_neg h1, if_neg (fun z => h1 z.1)]
theorem op_rent (a1 a2 a3 a4 : Int32) : OpG (f_Fp_rent a1 a2 a3 a4) (f_Mo_rent a1 a2 a3 a4) := mk_op fun n S ok => by
  have k8 : S.1.1 2 ≤ 8 := ok.1.1.2.2.1
  have kl : (sJ S).length ≤ 8 := ok.2.1
  have l1 : ∀ δ, RepC δ n S → f_Fp_lawAt a1 δ = some (if inb a1 (sJ S).length then some (87 + 8 * ix a1) else none) := fun δ h => lawAt_eq kl h.2.1
  have l2 : ∀ δ, RepM δ S → f_Mo_isLaw a1 δ = some (bI (inb a1 (sJ S).length)) := fun δ h => isLaw_eq (by omega) h.2.1
  have b1 : ∀ δ, RepC δ n S → f_To_boothAt a2 δ = some (if inb a2 (S.1.1 2) then some (54 + 4 * ix a2) else none) := fun δ h => boothAt_eq k8 (cG h.1).2.2.1
  have b2 : ∀ δ, RepM δ S → f_Mo_isBooth a2 δ = some (bI (inb a2 (S.1.1 2))) := fun δ h => isBooth_eq (by omega) (mS h.1).2.2.1
  by_cases h1 : inb a1 (sJ S).length
  · obtain ⟨l, hl, rfl⟩ := inb_ex (by omega) h1
    obtain ⟨L, hL⟩ : ∃ L, (sJ S)[l]? = some L := ⟨_, List.getElem?_eq_getElem hl⟩
    by_cases h2 : inb a2 (S.1.1 2)
    · obtain ⟨b, hb, rfl⟩ := inb_ex (by omega) h2
      by_cases h3 : inb a3 400 ∧ inb a4 400 ∧ a3 ≤ a4
      · obtain ⟨u, hu, rfl⟩ := inb_ex (by decide) h3.1
        obtain ⟨v, hv, rfl⟩ := inb_ex (by decide) h3.2.1
        refine mk_same (v := rentP L S b u v) ok (fun δ h => ?_) (fun δ h => ?_)
        · obtain ⟨δ', q1, q2⟩ := rentC (u := u) (v := v) h ok hL hb hv
          refine ⟨δ', ?_, q1⟩
          simp only [f_Fp_rent, l1 δ h, b1 δ h, if_pos h1, if_pos h2, ixN (show l < 2147483648 by omega), ixN (show b < 2147483648 by omega), Option.bind_some, ocs, if_pos (isL_at l (by omega)).1, if_pos (isB_at b (by omega)).1, span_eq, if_pos h3, q2, bndE]
          rw [if_neg (show ¬ (1 : Int32) = 0 by decide)]
        · obtain ⟨δ', q1, q2⟩ := rentM (u := u) (v := v) h ok hL hb hv
          refine ⟨δ', ?_, q1⟩
          simp only [f_Mo_rent, l2 δ h, b2 δ h, isDayM_eq, Option.bind_some, ifb, if_pos h1, if_pos h2, if_pos h3.1, if_pos h3.2.1, if_neg (Int32.not_lt.mpr h3.2.2), q2, bndE]
      · refine nop (-1000000000) ok (fun δ h => ?_) (fun δ h => ?_)
        · simp only [f_Fp_rent, l1 δ h, b1 δ h, if_pos h1, if_pos h2, ixN (show l < 2147483648 by omega), ixN (show b < 2147483648 by omega), Option.bind_some, ocs, if_pos (isL_at l (by omega)).1, if_pos (isB_at b (by omega)).1, span_eq, if_neg h3]
          rw [if_pos True.intro]
        · simp only [f_Mo_rent, l2 δ h, b2 δ h, isDayM_eq, Option.bind_some, ifb, if_pos h1, if_pos h2]
          by_cases q1 : inb a3 400
          · by_cases q2 : inb a4 400
            · rw [if_pos q1, if_pos q2, if_pos (Int32.not_le.mp fun z => h3 ⟨q1, q2, z⟩)]
            · rw [if_pos q1, if_neg q2]
          · rw [if_neg q1]
    · refine nop (-1000000000) ok (fun δ h => ?_) (fun δ h => ?_)
      · simp only [f_Fp_rent, l1 δ h, b1 δ h, if_pos h1, if_neg h2, ixN (show l < 2147483648 by omega), Option.bind_some, ocs, if_pos (isL_at l (by omega)).1]
      · simp only [f_Mo_rent, l2 δ h, b2 δ h, Option.bind_some, ifb, if_pos h1, if_neg h2]
  · refine nop (-1000000000) ok (fun δ h => ?_) (fun δ h => ?_)
    · simp only [f_Fp_rent, l1 δ h, if_neg h1, Option.bind_some, ocs]
    · simp only [f_Mo_rent, l2 δ h, Option.bind_some, ifb, if_neg h1]
/-- the cheapest so far -/
def rvP (S : St) (b u v i : Nat) : Int32 := match (sJ S)[i]? with
  | some L => rentP L S b u v
  | none => 0
def chP (S : St) (b u v : Nat) : Nat → Option (Nat × Int32)
  | 0 => none
  | i + 1 => match chP S b u v i with
    | none => some (i, rvP S b u v i)
    | some q => if q.2 ≤ rvP S b u v i then some q else some (i, rvP S b u v i)
theorem clI_hi {lo hi : Int32} {v : Int64} (h : lo ≤ hi) : clI lo hi v ≤ hi := by
  unfold clI
  split
  · exact h
  · split
    · exact Int32.le_refl _
    · next h1 h2 =>
      have h1 := Int64.not_lt.mp h1
      have h2 := Int64.not_lt.mp h2
      rw [Int64.le_iff_toInt_le, Int32.toInt_toInt64] at h1 h2
      rw [le32, Int64.toInt_toInt32]
      have e1 := Int32.toInt_lt hi
      have e2 := Int32.le_toInt lo
      rw [Int.bmod_eq_of_le (by omega) (by omega)]
      exact h2
theorem rvP_hi {S : St} {b u v i : Nat} : ¬ (100000000 : Int32) ≤ rvP S b u v i := by
  unfold rvP
  cases (sJ S)[i]? with
  | none => show ¬ (100000000 : Int32) ≤ 0; decide
  | some L =>
    show ¬ (100000000 : Int32) ≤ rentP L S b u v
    intro z
    have : rentP L S b u v ≤ 99999999 := clI_hi (by decide)
    have := Int32.le_trans z this
    exact absurd this (by decide)
def chB : Option (Nat × Int32) → Int32
  | none => -1
  | some q => nI q.1
theorem chP_lt {S : St} {b u v : Nat} : ∀ i q, chP S b u v i = some q → q.1 < i := by
  intro i
  induction i with
  | zero => intro q h; cases h
  | succ i ih =>
    intro q h
    unfold chP at h
    cases hc : chP S b u v i with
    | none =>
      rw [hc] at h
      have := Option.some.inj h
      rw [← this]; exact Nat.lt_succ_self i
    | some p =>
      rw [hc] at h
      have hp := ih p hc
      by_cases z : p.2 ≤ rvP S b u v i
      · have h : (if p.2 ≤ rvP S b u v i then some p else some (i, rvP S b u v i)) = some q := h
        rw [if_pos z] at h
        have := Option.some.inj h
        rw [← this]; omega
      · have h : (if p.2 ≤ rvP S b u v i then some p else some (i, rvP S b u v i)) = some q := h
        rw [if_neg z] at h
        have := Option.some.inj h
        rw [← this]; exact Nat.lt_succ_self i
theorem cheap_C {n b u v : Nat} {δ : Dm} {S : St} (h : RepC δ n S) (ok : Ok S) (hb : b < S.1.1 2) (hv : v < 400) : ∃ δ', lp_Fp_cheapest_32 (fun v4_32x v5_32x v6_32x δ32x => (some (v4_32x, δ32x))) (nI b) (nI u) (nI v) FU (-1) 100000000 0 δ = some (chB (chP S b u v (sJ S).length), δ') ∧ δ'.1 = δ.1 := by
  have kl : (sJ S).length ≤ 8 := ok.2.1
  refine for_inv (fun f i (a : Int32 × Int32 × Dm) => lp_Fp_cheapest_32 (fun v4_32x v5_32x v6_32x δ32x => (some (v4_32x, δ32x))) (nI b) (nI u) (nI v) f a.1 a.2.1 i a.2.2) (sJ S).length (by omega) (fun i a => a.1 = chB (chP S b u v i) ∧ a.2.1 = (match chP S b u v i with | none => 100000000 | some q => q.2) ∧ a.2.2.1 = δ.1) (fun r => ∃ δ', r = some (chB (chP S b u v (sJ S).length), δ') ∧ δ'.1 = δ.1) (fun f i a hi hI => ?_) (fun f a hI => ?_) 0 (-1, 100000000, δ) (Nat.zero_le _) ⟨rfl, rfl, rfl⟩
  · obtain ⟨x, y, d⟩ := a
    obtain ⟨i1, i2, i3⟩ := hI
    have i1 : x = chB (chP S b u v i) := i1
    have i2 : y = (match chP S b u v i with | none => 100000000 | some q => q.2) := i2
    have hC := RepC_E h ok i3
    obtain ⟨L, hL⟩ : ∃ L, (sJ S)[i]? = some L := ⟨_, List.getElem?_eq_getElem hi⟩
    obtain ⟨d', q1, q2⟩ := rentC (u := u) (v := v) hC ok hL hb hv
    have er : rvP S b u v i = rentP L S b u v := by unfold rvP; rw [hL]
    rw [← er] at q2
    have hr := rvP_hi (S := S) (b := b) (u := u) (v := v) (i := i)
    simp only [lp_Fp_cheapest_32, jp_Fp_cheapest_68]
    rw [hC.2.1, if_neg (nI_ge hi (by omega)), lawAt_eq kl hC.2.1, if_pos (inb_i hi (by omega)), ixN (show i < 2147483648 by omega)]
    simp only [Option.bind_some, ocs, if_pos (isL_at i (by omega)).1]
    rw [q2, Option.bind_some]
    simp only [bndE, nI_1]
    cases hc : chP S b u v i with
    | none =>
      rw [hc] at i2
      have i2 : y = 100000000 := i2
      have e : chP S b u v (i + 1) = some (i, rvP S b u v i) := by
        rw [chP, hc]
      rw [i2, if_neg hr]
      exact ⟨(nI i, rvP S b u v i, d'), ⟨by rw [e]; rfl, by rw [e], q1.trans i3⟩, rfl⟩
    | some p =>
      rw [hc] at i2 i1
      have i2 : y = p.2 := i2
      have i1 : x = nI p.1 := i1
      have e : chP S b u v (i + 1) = if p.2 ≤ rvP S b u v i then some p else some (i, rvP S b u v i) := by
        rw [chP, hc]
      by_cases z : p.2 ≤ rvP S b u v i
      · rw [if_pos z] at e
        rw [i2, if_pos z]
        exact ⟨(x, p.2, d'), ⟨by rw [e, i1]; rfl, by rw [e], q1.trans i3⟩, rfl⟩
      · rw [if_neg z] at e
        rw [i2, if_neg z]
        exact ⟨(nI i, rvP S b u v i, d'), ⟨by rw [e]; rfl, by rw [e], q1.trans i3⟩, rfl⟩
  · obtain ⟨x, y, d⟩ := a
    obtain ⟨i1, i2, i3⟩ := hI
    simp only [lp_Fp_cheapest_32]
    rw [(RepC_E h ok i3).2.1, if_pos (nI_le (Nat.le_refl _) (by omega))]
    exact ⟨d, by rw [← i1], i3⟩
theorem cheap_M {b u v : Nat} {δ : Dm} {S : St} (h : RepM δ S) (ok : Ok S) (hb : b < S.1.1 2) (hv : v < 400) : ∃ δ', lp_Mo_cheapest_38 (fun v4_38x v5_38x v6_38x δ38x => (some (v4_38x, δ38x))) (nI b) (nI u) (nI v) FU (-1) 0 0 δ = some (chB (chP S b u v (sJ S).length), δ') ∧ FrT δ δ' := by
  have kl : (sJ S).length ≤ 8 := ok.2.1
  refine for_inv (fun f i (a : Int32 × Int32 × Dm) => lp_Mo_cheapest_38 (fun v4_38x v5_38x v6_38x δ38x => (some (v4_38x, δ38x))) (nI b) (nI u) (nI v) f a.1 a.2.1 i a.2.2) (sJ S).length (by omega) (fun i a => a.1 = chB (chP S b u v i) ∧ a.2.1 = (match chP S b u v i with | none => 0 | some q => q.2) ∧ FrT δ a.2.2) (fun r => ∃ δ', r = some (chB (chP S b u v (sJ S).length), δ') ∧ FrT δ δ') (fun f i a hi hI => ?_) (fun f a hI => ?_) 0 (-1, 0, δ) (Nat.zero_le _) ⟨rfl, rfl, fun _ _ _ => rfl⟩
  · obtain ⟨x, y, d⟩ := a
    obtain ⟨i1, i2, i3⟩ := hI
    have i1 : x = chB (chP S b u v i) := i1
    have i2 : y = (match chP S b u v i with | none => 0 | some q => q.2) := i2
    have hC := RepM_T h ok i3
    obtain ⟨L, hL⟩ : ∃ L, (sJ S)[i]? = some L := ⟨_, List.getElem?_eq_getElem hi⟩
    obtain ⟨d', q1, q2⟩ := rentM (u := u) (v := v) hC ok hL hb hv
    have er : rvP S b u v i = rentP L S b u v := by unfold rvP; rw [hL]
    rw [← er] at q2
    simp only [lp_Mo_cheapest_38]
    rw [hC.2.1, if_neg (nI_ge hi (by omega)), q2, Option.bind_some]
    simp only [bndE, nI_1]
    cases hc : chP S b u v i with
    | none =>
      rw [hc] at i1
      have i1 : x = -1 := i1
      have e : chP S b u v (i + 1) = some (i, rvP S b u v i) := by
        rw [chP, hc]
      rw [i1, if_pos (by decide)]
      exact ⟨(nI i, rvP S b u v i, d'), ⟨by rw [e]; rfl, by rw [e], i3.trans q1⟩, rfl⟩
    | some p =>
      have hp := chP_lt i p hc
      rw [hc] at i2 i1
      have i2 : y = p.2 := i2
      have i1 : x = nI p.1 := i1
      have e : chP S b u v (i + 1) = if p.2 ≤ rvP S b u v i then some p else some (i, rvP S b u v i) := by
        rw [chP, hc]
      rw [i1, if_neg (nI_pos (by omega))]
      by_cases z : p.2 ≤ rvP S b u v i
      · rw [if_pos z] at e
        rw [i2, if_neg (Int32.not_lt.mpr z)]
        exact ⟨(nI p.1, p.2, d'), ⟨by rw [e]; rfl, by rw [e], i3.trans q1⟩, rfl⟩
      · rw [if_neg z] at e
        rw [i2, if_pos (Int32.not_le.mp z)]
        exact ⟨(nI i, rvP S b u v i, d'), ⟨by rw [e]; rfl, by rw [e], i3.trans q1⟩, rfl⟩
  · obtain ⟨x, y, d⟩ := a
    obtain ⟨i1, i2, i3⟩ := hI
    simp only [lp_Mo_cheapest_38]
    rw [(RepM_T h ok i3).2.1, if_pos (nI_le (Nat.le_refl _) (by omega))]
    exact ⟨d, by rw [← i1], i3⟩
theorem op_cheapest (a1 a2 a3 : Int32) : OpG (f_Fp_cheapest a1 a2 a3) (f_Mo_cheapest a1 a2 a3) := mk_op fun n S ok => by
  have k8 : S.1.1 2 ≤ 8 := ok.1.1.2.2.1
  have b1 : ∀ δ, RepC δ n S → f_To_boothAt a1 δ = some (if inb a1 (S.1.1 2) then some (54 + 4 * ix a1) else none) := fun δ h => boothAt_eq k8 (cG h.1).2.2.1
  have b2 : ∀ δ, RepM δ S → f_Mo_isBooth a1 δ = some (bI (inb a1 (S.1.1 2))) := fun δ h => isBooth_eq (by omega) (mS h.1).2.2.1
  by_cases h2 : inb a1 (S.1.1 2)
  · obtain ⟨b, hb, rfl⟩ := inb_ex (by omega) h2
    by_cases h3 : inb a2 400 ∧ inb a3 400 ∧ a2 ≤ a3
    · obtain ⟨u, hu, rfl⟩ := inb_ex (by decide) h3.1
      obtain ⟨v, hv, rfl⟩ := inb_ex (by decide) h3.2.1
      refine mk_same (v := chB (chP S b u v (sJ S).length)) ok (fun δ h => ?_) (fun δ h => ?_)
      · obtain ⟨δ', q1, q2⟩ := cheap_C (u := u) h ok hb hv
        refine ⟨δ', ?_, q2⟩
        simp only [f_Fp_cheapest, b1 δ h, if_pos h2, ixN (show b < 2147483648 by omega), Option.bind_some, ocs, if_pos (isB_at b (by omega)).1, span_eq, if_pos h3]
        rw [if_neg (show ¬ (1 : Int32) = 0 by decide)]
        exact q1
      · obtain ⟨δ', q1, q2⟩ := cheap_M (u := u) h ok hb hv
        refine ⟨δ', ?_, q2⟩
        simp only [f_Mo_cheapest, b2 δ h, isDayM_eq, Option.bind_some, ifb, if_pos h2, if_pos h3.1, if_pos h3.2.1, if_pos h3.2.2]
        exact q1
    · refine nop (-1) ok (fun δ h => ?_) (fun δ h => ?_)
      · simp only [f_Fp_cheapest, b1 δ h, if_pos h2, ixN (show b < 2147483648 by omega), Option.bind_some, ocs, if_pos (isB_at b (by omega)).1, span_eq, if_neg h3]
        rw [if_pos True.intro]
      · simp only [f_Mo_cheapest, b2 δ h, isDayM_eq, Option.bind_some, ifb, if_pos h2]
        by_cases q1 : inb a2 400
        · by_cases q2 : inb a3 400
          · rw [if_pos q1, if_pos q2, if_neg (fun z => h3 ⟨q1, q2, z⟩)]
          · rw [if_pos q1, if_neg q2]
        · rw [if_neg q1]
  · refine nop (-1) ok (fun δ h => ?_) (fun δ h => ?_)
    · simp only [f_Fp_cheapest, b1 δ h, if_neg h2, Option.bind_some, ocs]
    · simp only [f_Mo_cheapest, b2 δ h, Option.bind_some, ifb, if_neg h2]
