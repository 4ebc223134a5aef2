/-! round -/
theorem bnd_i {a : Int32} {k : Nat} (hk : k < 1000000) : ((0 : Int32) ≤ a ∧ a ≤ nI k - 1) ↔ inb a k := by
  have e := pk_sub_toInt (a := k) (b := 1) (by omega) (by decide)
  have e : (nI k - 1).toInt = (k : Int) - 1 := e
  unfold inb
  rw [le32, le32, e, show (0 : Int32).toInt = 0 from rfl]
  omega
def fsQ (G : Nat → Nat) (fr n here s q : Nat) : Bool := decide (tb s q) && decide (Rd G here (spt G q) + VV G fr n (s - 2 ^ q) q = lfP G fr n here s)
def fsP (G : Nat → Nat) (fr n here s : Nat) : Option Nat := (List.range n).find? (fsQ G fr n here s)
theorem range_at {n i : Nat} (h : i < n) : (List.range n)[i]? = some i := by
  rw [List.getElem?_eq_getElem (by rw [List.length_range]; exact h), List.getElem_range]
theorem fsP_0 {G : Nat → Nat} {fr n here : Nat} : fsP G fr n here 0 = none := by
  unfold fsP
  refine List.find?_eq_none.mpr (fun q _ h => ?_)
  unfold fsQ at h
  have h := (Bool.and_eq_true _ _).mp h
  have h1 : tb 0 q := of_decide_eq_true h.1
  have h1 : 0 / 2 ^ q % 2 = 1 := h1
  rw [Nat.zero_div] at h1
  exact absurd h1 (by decide)
theorem fsP_m {G : Nat → Nat} {fr n here s q : Nat} (h : fsP G fr n here s = some q) : q < n ∧ tb s q ∧ Rd G here (spt G q) + VV G fr n (s - 2 ^ q) q = lfP G fr n here s := by
  unfold fsP at h
  have h1 := List.find?_some h
  have h2 := List.mem_of_find?_eq_some h
  unfold fsQ at h1
  have h1 := (Bool.and_eq_true _ _).mp h1
  exact ⟨List.mem_range.mp h2, of_decide_eq_true h1.1, of_decide_eq_true h1.2⟩
theorem fsP_s {G : Nat → Nat} {fr n here s : Nat} (h8 : n < 9) (hs : s < 2 ^ n) (h0 : 0 < s) : ∃ q, fsP G fr n here s = some q := by
  obtain ⟨q, q1, q2⟩ := bit_ex n h8 s hs h0
  obtain ⟨m, q', e1, e2, e3, e4⟩ := mnF_s (f := fun q => Rd G here (spt G q) + VV G fr n (s - 2 ^ q) q) (s := s) n ⟨q, q1, q2⟩
  cases hc : fsP G fr n here s with
  | some x => exact ⟨x, rfl⟩
  | none =>
    exfalso
    unfold fsP at hc
    have := List.find?_eq_none.mp hc q' (List.mem_range.mpr e2)
    apply this
    unfold fsQ lfP
    rw [e1]
    show (decide (tb s q') && decide (_ = m)) = true
    rw [decide_eq_true e3, decide_eq_true e4]; rfl
def sqP (G : Nat → Nat) (fr n f0 s0 : Nat) : Nat → Option (Nat × Nat × Int32)
  | 0 => some (f0, s0, -1)
  | i + 1 => match sqP G fr n f0 s0 i with
    | none => none
    | some x => match fsP G fr n x.1 x.2.1 with
      | none => none
      | some q => some (spt G q, x.2.1 - 2 ^ q, nI q)
theorem sqP_n {G : Nat → Nat} {fr n f0 s0 i : Nat} (h : sqP G fr n f0 s0 i = none) : ∀ j, i ≤ j → sqP G fr n f0 s0 j = none := by
  intro j
  induction j with
  | zero =>
    intro hj
    obtain rfl : i = 0 := by omega
    exact h
  | succ j ih =>
    intro hj
    by_cases e : i = j + 1
    · rw [← e]; exact h
    · rw [sqP, ih (by omega)]
theorem sqP_0 {G : Nat → Nat} {fr n f0 s0 i : Nat} {x : Nat × Nat × Int32} (h : sqP G fr n f0 s0 i = some x) (h0 : x.2.1 = 0) : ∀ j, i < j → sqP G fr n f0 s0 j = none := by
  refine sqP_n (i := i + 1) ?_
  rw [sqP, h]
  show (match fsP G fr n x.1 x.2.1 with | none => none | some q => some (spt G q, x.2.1 - 2 ^ q, nI q)) = none
  rw [h0, fsP_0]
theorem sqP_s {G : Nat → Nat} {fr n f0 s0 i q : Nat} {x : Nat × Nat × Int32} (h : sqP G fr n f0 s0 i = some x) (hq : fsP G fr n x.1 x.2.1 = some q) : sqP G fr n f0 s0 (i + 1) = some (spt G q, x.2.1 - 2 ^ q, nI q) := by
  rw [sqP, h]
  show (match fsP G fr n x.1 x.2.1 with | none => none | some q => some (spt G q, x.2.1 - 2 ^ q, nI q)) = _
  rw [hq]
def endI : Option (Nat × Nat × Int32) → Int32
  | none => -1
  | some x => x.2.2
theorem tabC_m {G : Nat → Nat} {fr n k k' : Nat} {d : Dm} (h : tabC G fr n d k) (hk : k' ≤ k) : tabC G fr n d k' := fun s b h1 h2 => h s b (by omega) h2
theorem tabM_m {G : Nat → Nat} {fr n k k' : Nat} {d : Dm} (h : tabM G fr n d k) (hk : k' ≤ k) : tabM G fr n d k' := fun s b h1 h2 => h s b (by omega) h2
def fsI : Option Nat → Int32
  | none => -1
  | some q => nI q
theorem firstOf_eq {n fr here s : Nat} {d : Dm} {S : St} (h : RepC d n S) (ok : Ok S) (hfr : fr < 12) (hh : here < 12) (hs : s < 2 ^ S.1.1 2) (hT : tabC S.1.1 fr (S.1.1 2) d (2 ^ S.1.1 2)) : f_Ro_firstOf (nI here) (nI s) d = some (fsI (fsP S.1.1 fr (S.1.1 2) here s)) := by
  have k8 : S.1.1 2 ≤ 8 := ok.1.1.2.2.1
  have p8 := pow8 (S.1.1 2) (by omega)
  have g2 : gI d 29 2 = nI (S.1.1 2) := (cG h.1).2.2.1
  have r := rdOk_S ok
  have hT' := tabC_m hT (show s ≤ 2 ^ S.1.1 2 by omega)
  have lb : lfP S.1.1 fr (S.1.1 2) here s < 2147483648 := by
    by_cases h0 : s = 0
    · unfold lfP; rw [h0, mnF_0]; decide
    · obtain ⟨q, q1, q2⟩ := bit_ex (S.1.1 2) (by omega) s hs (by omega)
      obtain ⟨m, q', e1, e2, e3, e4⟩ := mnF_s (f := fun q => Rd S.1.1 here (spt S.1.1 q) + VV S.1.1 fr (S.1.1 2) (s - 2 ^ q) q) (s := s) (S.1.1 2) ⟨q, q1, q2⟩
      have := lf_el r hfr hh hs q' e2 e3
      have e4 : Rd S.1.1 here (spt S.1.1 q') + VV S.1.1 fr (S.1.1 2) (s - 2 ^ q') q' = m := e4
      unfold lfP
      rw [e1]
      show m < _
      omega
  unfold f_Ro_firstOf
  rw [least_eq h ok hfr hh hs hT', Option.bind_some]
  refine for_brk (fun f q (_ : Unit) => lp_Ro_firstOf_12 (fun v5_12x => (some (-1 : Int32))) (nI here) (nI s) (nI (lfP S.1.1 fr (S.1.1 2) here s)) d f q) (S.1.1 2) (by omega) (fun q _ => ((List.range (S.1.1 2)).take q).find? (fsQ S.1.1 fr (S.1.1 2) here s) = none) (fun x => x = some (fsI (fsP S.1.1 fr (S.1.1 2) here s))) (fun f q u hq hI => ?_) (fun f u hI => ?_) 0 () (Nat.zero_le _) rfl
  · simp only [lp_Ro_firstOf_12]
    rw [g2, if_neg (nI_ge hq (by omega)), bif1 (by omega) (by omega), nI_1]
    by_cases t : tb s q
    · have le := lf_el r hfr hh hs q hq t
      rw [if_pos t, by_eq h ok hh hs hq t hT', Option.bind_some]
      by_cases y : Rd S.1.1 here (spt S.1.1 q) + VV S.1.1 fr (S.1.1 2) (s - 2 ^ q) q = lfP S.1.1 fr (S.1.1 2) here s
      · left
        rw [if_pos (by rw [y])]
        have e : fsP S.1.1 fr (S.1.1 2) here s = some q := find_at hI (range_at hq) (by unfold fsQ; rw [decide_eq_true t, decide_eq_true y]; rfl)
        rw [e]; rfl
      · right
        rw [if_neg (fun z => y ((nI_eq (by omega) lb).mp z))]
        exact ⟨(), find_nx hI (range_at hq) (by unfold fsQ; rw [decide_eq_false y]; simp), rfl⟩
    · right
      rw [if_neg t]
      exact ⟨(), find_nx hI (range_at hq) (by unfold fsQ; rw [decide_eq_false t]; simp), rfl⟩
  · simp only [lp_Ro_firstOf_12]
    rw [g2, if_pos (nI_le (Nat.le_refl _) (by omega))]
    rw [List.take_of_length_le (by rw [List.length_range]; exact Nat.le_refl _)] at hI
    have e : fsP S.1.1 fr (S.1.1 2) here s = none := hI
    rw [e]; rfl
theorem stop_eq {n fr s w : Nat} {d : Dm} {S : St} (h : RepC d n S) (ok : Ok S) (hfr : fr < 12) (hs : s < 2 ^ S.1.1 2) (hw : w < 8) (hT : tabC S.1.1 fr (S.1.1 2) d (2 ^ S.1.1 2)) : f_Ro_stop (nI fr) (nI s) (nI w) d = some (endI (sqP S.1.1 fr (S.1.1 2) fr s (w + 1))) := by
  have k8 : S.1.1 2 ≤ 8 := ok.1.1.2.2.1
  have p8 := pow8 (S.1.1 2) (by omega)
  have r := rdOk_S ok
  unfold f_Ro_stop
  refine for_brk (fun f i (a : Int32 × Int32 × Int32) => lp_Ro_stop_12 (fun v5_12x v6_12x v7_12x v8_12x => (some v7_12x)) (nI fr) (nI s) (nI w) d f a.1 a.2.1 a.2.2 i) (w + 1) (by omega) (fun i a => ∃ x, sqP S.1.1 fr (S.1.1 2) fr s i = some x ∧ a = (nI x.1, nI x.2.1, x.2.2) ∧ x.1 < 12 ∧ x.2.1 < 2 ^ S.1.1 2) (fun y => y = some (endI (sqP S.1.1 fr (S.1.1 2) fr s (w + 1)))) (fun f i a hi hI => ?_) (fun f a hI => ?_) 0 (nI fr, nI s, -1) (Nat.zero_le _) ⟨(fr, s, -1), rfl, rfl, hfr, hs⟩
  · obtain ⟨x, i1, i2, i3, i4⟩ := hI
    subst i2
    simp only [lp_Ro_stop_12]
    rw [if_neg (nI_nlt (by omega) (by omega)), firstOf_eq h ok hfr i3 i4 hT, Option.bind_some]
    by_cases h0 : x.2.1 = 0
    · left
      rw [h0, fsP_0, if_pos (show fsI none = -1 from rfl), sqP_0 i1 h0 (w + 1) (by omega)]; rfl
    · right
      obtain ⟨q, hq⟩ := fsP_s (G := S.1.1) (fr := fr) (here := x.1) (show S.1.1 2 < 9 by omega) i4 (by omega)
      obtain ⟨q1, q2, q3⟩ := fsP_m hq
      have t := tb_le q2
      rw [hq, show fsI (some q) = nI q from rfl]
      rw [if_neg (nI_nm1 (show q < 2147483648 by omega)), spot_eq h (by omega), Option.bind_some, bndE, clr_k x.2.1 (by omega) q (by omega) q2, nI_1]
      exact ⟨(nI (spt S.1.1 q), nI (x.2.1 - 2 ^ q), nI q), ⟨(spt S.1.1 q, x.2.1 - 2 ^ q, nI q), sqP_s i1 hq, rfl, r.2.2.2 q q1, by show x.2.1 - 2 ^ q < _; omega⟩, rfl⟩
  · obtain ⟨x, i1, i2, i3, i4⟩ := hI
    subst i2
    simp only [lp_Ro_stop_12]
    rw [if_pos (nI_lt (by omega) (by omega)), i1]; rfl
theorem round94 {fr here s q : Nat} {d : Dm} {S : St} {kx : Int32 → Option (Int32 × Dm)} {a1 a2 a3 v8 : Int32} (h : RepM d S) (ok : Ok S) (hfr : fr < 12) (hh : here < 12) (hs : s < 2 ^ S.1.1 2) (hT : tabM S.1.1 fr (S.1.1 2) d (2 ^ S.1.1 2)) (hq : fsP S.1.1 fr (S.1.1 2) here s = some q) : lp_Mo_round_94 kx a1 a2 a3 (nI (lfP S.1.1 fr (S.1.1 2) here s)) (nI s) (nI here) v8 d FU 0 = kx (nI q) := by
  have k8 : S.1.1 2 ≤ 8 := ok.1.1.2.2.1
  have p8 := pow8 (S.1.1 2) (by omega)
  have r := rdOk_S ok
  have hT' := tabM_m hT (show s ≤ 2 ^ S.1.1 2 by omega)
  obtain ⟨f1, f2, f3⟩ := fsP_m hq
  have lb : lfP S.1.1 fr (S.1.1 2) here s < 2147483648 := by
    have := lf_el r hfr hh hs q f1 f2
    omega
  refine for_brk (fun f b (_ : Unit) => lp_Mo_round_94 kx a1 a2 a3 (nI (lfP S.1.1 fr (S.1.1 2) here s)) (nI s) (nI here) v8 d f b) (S.1.1 2) (by omega) (fun b _ => ((List.range (S.1.1 2)).take b).find? (fsQ S.1.1 fr (S.1.1 2) here s) = none) (fun x => x = kx (nI q)) (fun f b u hb hI => ?_) (fun f u hI => ?_) 0 () (Nat.zero_le _) rfl
  · simp only [lp_Mo_round_94]
    rw [bif0 (by omega) (by omega), nI_1]
    by_cases t : tb s b
    · have le := lf_el r hfr hh hs b hb t
      obtain ⟨w1, w2, w3⟩ := wayM hT' k8 (by omega) hb t
      rw [if_pos t, spM_eq h (by omega), Option.bind_some, mile_eq h hh (r.2.2.2 b hb), Option.bind_some, w1, if_pos (inb_i w2 (by decide)), ixN (show 8 * (s - 2 ^ b) + b < 2147483648 by omega), w3, nI_add]
      by_cases y : Rd S.1.1 here (spt S.1.1 b) + VV S.1.1 fr (S.1.1 2) (s - 2 ^ b) b = lfP S.1.1 fr (S.1.1 2) here s
      · left
        rw [if_pos (by rw [y])]
        have e : fsP S.1.1 fr (S.1.1 2) here s = some b := find_at hI (range_at hb) (by unfold fsQ; rw [decide_eq_true t, decide_eq_true y]; rfl)
        rw [hq] at e
        rw [Option.some.inj e]
      · right
        rw [if_neg (fun z => y ((nI_eq (by omega) lb).mp z))]
        exact ⟨(), find_nx hI (range_at hb) (by unfold fsQ; rw [decide_eq_false y]; simp), rfl⟩
    · right
      rw [if_neg t]
      exact ⟨(), find_nx hI (range_at hb) (by unfold fsQ; rw [decide_eq_false t]; simp), rfl⟩
  · exfalso
    rw [List.take_of_length_le (by rw [List.length_range]; exact Nat.le_refl _)] at hI
    have e : fsP S.1.1 fr (S.1.1 2) here s = none := hI
    rw [e] at hq; cases hq
theorem round78 {fr s w : Nat} {d : Dm} {S : St} (h : RepM d S) (ok : Ok S) (hfr : fr < 12) (hs : s < 2 ^ S.1.1 2) (hw : w < 8) (hT : tabM S.1.1 fr (S.1.1 2) d (2 ^ S.1.1 2)) : lp_Mo_round_78 (fun v4_78x v5_78x v6_78x v7_78x v8_78x => (some (v7_78x, d))) (nI s) (nI fr) (nI w) d FU (nI (lfP S.1.1 fr (S.1.1 2) fr s)) (nI s) (nI fr) (-1) 0 = some (endI (sqP S.1.1 fr (S.1.1 2) fr s (w + 1)), d) := by
  have k8 : S.1.1 2 ≤ 8 := ok.1.1.2.2.1
  have p8 := pow8 (S.1.1 2) (by omega)
  have r := rdOk_S ok
  refine for_brk (fun f i (a : Int32 × Int32 × Int32 × Int32) => lp_Mo_round_78 (fun v4_78x v5_78x v6_78x v7_78x v8_78x => (some (v7_78x, d))) (nI s) (nI fr) (nI w) d f a.1 a.2.1 a.2.2.1 a.2.2.2 i) (w + 1) (by omega) (fun i a => ∃ x, sqP S.1.1 fr (S.1.1 2) fr s i = some x ∧ a.2 = (nI x.2.1, nI x.1, x.2.2) ∧ x.1 < 12 ∧ x.2.1 < 2 ^ S.1.1 2 ∧ (x.2.1 ≠ 0 → a.1 = nI (lfP S.1.1 fr (S.1.1 2) x.1 x.2.1))) (fun y => y = some (endI (sqP S.1.1 fr (S.1.1 2) fr s (w + 1)), d)) (fun f i a hi hI => ?_) (fun f a hI => ?_) 0 (nI (lfP S.1.1 fr (S.1.1 2) fr s), nI s, nI fr, -1) (Nat.zero_le _) ⟨(fr, s, -1), rfl, rfl, hfr, hs, fun _ => rfl⟩
  · obtain ⟨x, i1, i2, i3, i4, i5⟩ := hI
    obtain ⟨v4, a⟩ := a
    have i2 : a = (nI x.2.1, nI x.1, x.2.2) := i2
    subst i2
    simp only [lp_Mo_round_78]
    rw [if_neg (nI_nlt (by omega) (by omega))]
    by_cases h0 : x.2.1 = 0
    · left
      rw [if_pos (show nI x.2.1 = 0 by rw [h0]; rfl), sqP_0 i1 h0 (w + 1) (by omega)]; rfl
    · right
      have i5 : v4 = _ := i5 h0
      obtain ⟨q, hq⟩ := fsP_s (G := S.1.1) (fr := fr) (here := x.1) (show S.1.1 2 < 9 by omega) i4 (by omega)
      obtain ⟨q1, q2, q3⟩ := fsP_m hq
      have t := tb_le q2
      rw [if_neg (nI_ne0 (by omega) (by omega)), i5, round94 h ok hfr i3 i4 hT hq, spM_eq h (by omega), Option.bind_some, mile_eq h i3 (r.2.2.2 q q1), Option.bind_some, bndE]
      simp only [bndE]
      rw [Option.bind_some, clr_k x.2.1 (by omega) q (by omega) q2, nI_1, ← q3, pk_sub (by omega)]
      refine ⟨(nI (VV S.1.1 fr (S.1.1 2) (x.2.1 - 2 ^ q) q), nI (x.2.1 - 2 ^ q), nI (spt S.1.1 q), nI q), ⟨(spt S.1.1 q, x.2.1 - 2 ^ q, nI q), sqP_s i1 hq, rfl, r.2.2.2 q q1, by show x.2.1 - 2 ^ q < _; omega, fun z => ?_⟩, ?_⟩
      · have z : x.2.1 - 2 ^ q ≠ 0 := z
        show nI (VV S.1.1 fr (S.1.1 2) (x.2.1 - 2 ^ q) q) = nI (lfP S.1.1 fr (S.1.1 2) (spt S.1.1 q) (x.2.1 - 2 ^ q))
        rw [VV_eq, if_neg z]
      · rw [Nat.add_sub_cancel_left]
  · obtain ⟨x, i1, i2, i3, i4, i5⟩ := hI
    obtain ⟨v4, a⟩ := a
    have i2 : a = (nI x.2.1, nI x.1, x.2.2) := i2
    subst i2
    simp only [lp_Mo_round_78]
    rw [if_pos (nI_lt (by omega) (by omega)), i1]; rfl
theorem mk_same2 {cf mf : Dm → Option (Int32 × Dm)} {n : Nat} {S : St} {v : Int32} (ok : Ok S) (h1 : ∀ δ, RepC δ n S → ∃ δ', cf δ = some (v, δ') ∧ FrP δ δ') (h2 : ∀ δ, RepM δ S → ∃ δ', mf δ = some (v, δ') ∧ FrQ δ δ') : ∃ v S', (∀ δ, RepC δ n S → ∃ δ1, cf δ = some (v, δ1) ∧ RepC δ1 n S' ∧ KM δ δ1) ∧ (∀ δ, RepM δ S → ∃ δ2, mf δ = some (v, δ2) ∧ RepM δ2 S' ∧ KC δ δ2) ∧ Ok S' :=
  ⟨v, S, fun δ h => (h1 δ h).imp fun δ' q => ⟨q.1, RepC_P h ok q.2, fun b j z => q.2 b j (by omega)⟩, fun δ h => (h2 δ h).imp fun δ' q => ⟨q.1, RepM_Q h ok q.2, fun b j z => q.2 b j (by omega)⟩, ok⟩
theorem m1_7 {a : Int32} (h : (-1 : Int32) ≤ a ∧ a ≤ 7) : a = -1 ∨ ∃ w, w < 8 ∧ a = nI w := by
  by_cases q : a = -1
  · exact Or.inl q
  · right
    have h1 := le32.mp h.1
    have h2 := le32.mp h.2
    rw [show (-1 : Int32).toInt = -1 from rfl] at h1
    rw [show (7 : Int32).toInt = 7 from rfl] at h2
    have h3 : a.toInt ≠ -1 := fun z => q (Int32.toInt_inj.mp (by rw [z]; rfl))
    exact inb_ex (n := 8) (by decide) ⟨by omega, by omega⟩
theorem op_round (a1 a2 a3 : Int32) : OpG (f_Fp_round a1 a2 a3) (f_Mo_round a1 a2 a3) := mk_op fun n S ok => by
  have k8 : S.1.1 2 ≤ 8 := ok.1.1.2.2.1
  have k12 : S.1.1 1 ≤ 12 := ok.1.1.2.1
  have p8 := pow8 (S.1.1 2) (by omega)
  have w1 : ∀ δ, RepC δ n S → f_Fp_within a1 0 (((1 : Int32) <<< ((gI δ 29 2) &&& 31)) - 1) δ = some (bI (inb a1 (2 ^ S.1.1 2))) := fun δ h => by
    rw [show gI δ 29 2 = nI (S.1.1 2) from (cG h.1).2.2.1, sh_1 _ (by omega), within_eq]; exact congrArg some (bI_c (bnd_i (by omega)))
  have w2 : ∀ δ, RepM δ S → f_Mo_in a1.toInt64 0 ((((1 : Int32) <<< ((gI δ 152 2) &&& 31)) - 1).toInt64) δ = some (bI (inb a1 (2 ^ S.1.1 2))) := fun δ h => by
    rw [show gI δ 152 2 = nI (S.1.1 2) from (mS h.1).2.2.1, sh_1 _ (by omega), show (0 : Int64) = (0 : Int32).toInt64 from rfl, in_eq]; exact congrArg some (bI_c (bnd_i (by omega)))
  have p1 : ∀ δ, RepC δ n S → f_To_hasPlace a2 δ = some (bI (inb a2 (S.1.1 1))) := fun δ h => hasPlace_eq (by omega) (cG h.1).2.1
  have p2 : ∀ δ, RepM δ S → f_Mo_isPlace a2 δ = some (bI (inb a2 (S.1.1 1))) := fun δ h => isPlace_eq (by omega) (mS h.1).2.1
  have z1 : ∀ δ, f_Fp_within a3 (-1) 7 δ = some (bI ((-1 : Int32) ≤ a3 ∧ a3 ≤ 7)) := fun δ => within_eq _ _ _ _
  have z2 : ∀ δ, f_Mo_in a3.toInt64 (-1) 7 δ = some (bI ((-1 : Int32) ≤ a3 ∧ a3 ≤ 7)) := fun δ => in_eq a3 (-1) 7 δ
  by_cases h1 : inb a1 (2 ^ S.1.1 2)
  · by_cases h2 : inb a2 (S.1.1 1)
    · by_cases h3 : (-1 : Int32) ≤ a3 ∧ a3 ≤ 7
      · obtain ⟨s, hs, rfl⟩ := inb_ex (by omega) h1
        obtain ⟨fr, hfr, rfl⟩ := inb_ex (by omega) h2
        rcases m1_7 h3 with rfl | ⟨w, hw, rfl⟩
        · refine mk_same2 (v := nI (lfP S.1.1 fr (S.1.1 2) fr s)) ok (fun δ h => ?_) (fun δ h => ?_)
          · obtain ⟨d, q1, q2, q3⟩ := plan_eq (fr := fr) h ok (by omega)
            refine ⟨d, ?_, q2⟩
            simp only [f_Fp_round, w1 δ h, p1 δ h, z1, Option.bind_some, ifb, if_pos h1, if_pos h2, if_pos h3, q1]
            rw [if_pos True.intro, least_eq (RepC_P h ok q2) ok (show fr < 12 by omega) (by omega) hs (tabC_m q3 (by omega)), Option.bind_some]
          · obtain ⟨d, q1, q2, q3⟩ := walks_eq (fr := fr) h ok (by omega)
            refine ⟨d, ?_, q2⟩
            simp only [f_Mo_round, j2, x2, w2 δ h, p2 δ h, z2, Option.bind_some, ifb, if_pos h1, if_pos h2, if_pos h3, q1]
            rw [milesM (RepM_Q h ok q2) ok (show fr < 12 by omega) (by omega) hs (tabM_m q3 (by omega)), Option.bind_some, if_pos True.intro]
        · refine mk_same2 (v := endI (sqP S.1.1 fr (S.1.1 2) fr s (w + 1))) ok (fun δ h => ?_) (fun δ h => ?_)
          · obtain ⟨d, q1, q2, q3⟩ := plan_eq (fr := fr) h ok (by omega)
            refine ⟨d, ?_, q2⟩
            simp only [f_Fp_round, w1 δ h, p1 δ h, z1, Option.bind_some, ifb, if_pos h1, if_pos h2, if_pos h3, q1]
            rw [if_neg (nI_nm1 (show w < 2147483648 by omega)), stop_eq (RepC_P h ok q2) ok (show fr < 12 by omega) hs hw q3, Option.bind_some]
          · obtain ⟨d, q1, q2, q3⟩ := walks_eq (fr := fr) h ok (by omega)
            refine ⟨d, ?_, q2⟩
            simp only [f_Mo_round, j2, x2, w2 δ h, p2 δ h, z2, Option.bind_some, ifb, if_pos h1, if_pos h2, if_pos h3, q1]
            rw [milesM (RepM_Q h ok q2) ok (show fr < 12 by omega) (by omega) hs (tabM_m q3 (by omega)), Option.bind_some, if_neg (nI_nm1 (show w < 2147483648 by omega))]
            exact round78 (RepM_Q h ok q2) ok (by omega) hs hw q3
      · refine nop (-2) ok (fun δ h => ?_) (fun δ h => ?_)
        · simp only [f_Fp_round, w1 δ h, p1 δ h, z1, Option.bind_some, ifb, if_pos h1, if_pos h2, if_neg h3]
        · simp only [f_Mo_round, j2, x2, w2 δ h, p2 δ h, z2, Option.bind_some, ifb, if_pos h1, if_pos h2, if_neg h3]
    · refine nop (-2) ok (fun δ h => ?_) (fun δ h => ?_)
      · simp only [f_Fp_round, w1 δ h, p1 δ h, Option.bind_some, ifb, if_pos h1, if_neg h2]
      · simp only [f_Mo_round, j2, x2, w2 δ h, p2 δ h, Option.bind_some, ifb, if_pos h1, if_neg h2]
  · refine nop (-2) ok (fun δ h => ?_) (fun δ h => ?_)
    · simp only [f_Fp_round, w1 δ h, Option.bind_some, ifb, if_neg h1]
    · simp only [f_Mo_round, j2, x2, w2 δ h, Option.bind_some, ifb, if_neg h1]
