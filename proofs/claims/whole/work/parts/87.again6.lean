/-! again, with, finest -/
theorem goes_eq {b t k0 f : Nat} {δ : Dm} {S : St} {L : LawT} {a3 a4 : Int32} (h : RepM δ S) (ok : Ok S) (hb : b < S.1.1 2) (hL : (sJ S)[t]? = some L) (hk : (a3 = -1 ∧ k0 = 3) ∨ (a3 = nI k0 ∧ k0 < 3 ∧ a4 = nI f ∧ f < 400)) (hcf : k0 < 3 → bc S.1.1 b 10 ≤ f) : ∃ d, f_Mo_goesAgain (nI b) (nI t) a3 a4 δ = some d ∧ FrG δ d ∧ ∀ v, v < 6 → gI d 163 v = nI (cntN (qV L S b k0 f (fun u => decide (u = v))) (vts S).length) := by
  have hb8 : b < 8 := (ok_nums ok hb).2.2.2.2.2.2.2.2.2.2.2.1
  unfold f_Mo_goesAgain
  refine for_inv (fun g v d => lp_Mo_goesAgain_3 (fun v5_3x δ3x => (lp_Mo_goesAgain_27 (fun v5_27x δ27x => ((f_Mo_cell (nI b) (10 : Int32) δ27x).bind (fun y53 => (lp_Mo_goesAgain_64 (fun v5_64x v6_64x v7_64x δ64x => (some δ64x)) (nI b) (nI t) a3 a4 FU y53 (0 : Int32) (0 : Int32) δ27x)))) (nI b) (nI t) a3 a4 FU (0 : Int32) δ3x)) (nI b) (nI t) a3 a4 g v d) 6 (by decide) (fun v d => FrG δ d ∧ ∀ u, u < v → u < 6 → gI d 163 u = 0) (fun r => ∃ d, r = some d ∧ FrG δ d ∧ ∀ v, v < 6 → gI d 163 v = nI (cntN (qV L S b k0 f (fun u => decide (u = v))) (vts S).length)) (fun g v d hv hI => ?_) (fun g d hI => ?_) 0 δ (by decide) ⟨fun _ _ _ _ _ => rfl, fun u hu => absurd hu (Nat.not_lt_zero _)⟩
  · obtain ⟨i1, i2⟩ := hI
    refine ⟨sI d 163 v 0, ⟨fun c j q1 q2 q3 => by rw [gs, if_neg (by omega)]; exact i1 c j q1 q2 q3, fun u hu h6 => ?_⟩, ?_⟩
    · by_cases z : u = v
      · subst z; rw [gss]
      · rw [gsc z]; exact i2 u (by omega) h6
    · simp only [lp_Mo_goesAgain_3]
      rw [if_neg (show ¬ (6 : Int32) ≤ nI v from nI_ge hv (by decide)), if_pos (inb_i hv (by decide)), ixN (show v < 2147483648 by omega), bndE, nI_1]
  · obtain ⟨i1, i2⟩ := hI
    simp only [lp_Mo_goesAgain_3]
    rw [if_pos (show (6 : Int32) ≤ nI 6 by decide)]
    refine for_inv (fun g k d => lp_Mo_goesAgain_27 (fun v5_27x δ27x => ((f_Mo_cell (nI b) (10 : Int32) δ27x).bind (fun y53 => (lp_Mo_goesAgain_64 (fun v5_64x v6_64x v7_64x δ64x => (some δ64x)) (nI b) (nI t) a3 a4 FU y53 (0 : Int32) (0 : Int32) δ27x)))) (nI b) (nI t) a3 a4 g k d) 3 (by decide) (fun k e => FrG δ e ∧ (∀ u, u < 6 → gI e 163 u = 0) ∧ ∀ u, u < k → u < 3 → gI e 162 u = nI 1000) (fun r => ∃ d, r = some d ∧ FrG δ d ∧ ∀ v, v < 6 → gI d 163 v = nI (cntN (qV L S b k0 f (fun u => decide (u = v))) (vts S).length)) (fun g k e hk' hJ => ?_) (fun g e hJ => ?_) 0 d (by decide) ⟨i1, fun u hu => i2 u hu hu, fun u hu => absurd hu (Nat.not_lt_zero _)⟩
    · obtain ⟨j1, j2', j3⟩ := hJ
      refine ⟨sI e 162 k (nI 1000), ⟨fun c j q1 q2 q3 => by rw [gs, if_neg (by omega)]; exact j1 c j q1 q2 q3, fun u hu => by rw [gsr (by decide)]; exact j2' u hu, fun u hu h3 => ?_⟩, ?_⟩
      · by_cases z : u = k
        · subst z; rw [gss]
        · rw [gsc z]; exact j3 u (by omega) h3
      · simp only [lp_Mo_goesAgain_27]
        rw [if_neg (show ¬ (3 : Int32) ≤ nI k from nI_ge hk' (by decide)), if_pos (inb_i hk' (by decide)), ixN (show k < 2147483648 by omega), bndE, nI_1]
        rfl
    · obtain ⟨j1, j2', j3⟩ := hJ
      have hE := RepM_G h ok j1
      simp only [lp_Mo_goesAgain_27]
      rw [if_pos (show (3 : Int32) ≤ nI 3 by decide), show f_Mo_cell (nI b) 10 e = _ from rW (w := 10) (RGM_of hE.1) hb8 (by decide), Option.bind_some]
      obtain ⟨d', q1, q2, q3⟩ := goes64 (k0 := k0) (f := f) (a3 := a3) (a4 := a4) hE ok hb hL hk hcf (fun k hk => j3 k hk hk) j2'
      exact ⟨d', q1, fun c j a1 a2 a3 => (q2 c j a1 a2 a3).trans (j1 c j a1 a2 a3), q3⟩
abbrev viN (S : St) (e : Nat) : Nat := (Vp S e).length
theorem Vp_t {S : St} {e : Nat} : Vp S e = (vts S).take (viN S e) := by
  have e1 : vts S = Vp S e ++ ((tE S.1).drop e).filter isV := by
    show (tE S.1).filter isV = ((tE S.1).take e).filter isV ++ _
    rw [← List.filter_append, List.take_append_drop]
  rw [e1, List.take_left]
theorem vi_at {S : St} {e : Nat} {x : Ev} (hx : (tE S.1)[e]? = some x) (hv : isV x = true) : (vts S)[viN S e]? = some x := by
  have he := idx_lt hx
  have e1 : tE S.1 = (tE S.1).take e ++ x :: (tE S.1).drop (e + 1) := by
    have hx' := hx
    rw [List.getElem?_eq_getElem he] at hx'
    rw [← Option.some.inj hx', List.getElem_cons_drop, List.take_append_drop]
  have e2 : vts S = Vp S e ++ x :: ((tE S.1).drop (e + 1)).filter isV := by
    have := congrArg (List.filter isV) e1
    rw [List.filter_append, List.filter_cons_of_pos hv] at this
    exact this
  rw [e2, List.getElem?_append_right (Nat.le_refl _), Nat.sub_self]; rfl
theorem cntN_0 {P : Nat → Bool} : cntN P 0 = 0 := rfl
theorem vi_0 {S : St} : viN S 0 = 0 := rfl
theorem cv_eq {L : LawT} {S : St} {b k0 f : Nat} {c : Nat → Bool} : ∀ e, e ≤ (tE S.1).length → cntN (qB L S b k0 f c) e = cntN (qV L S b k0 f c) (viN S e) := by
  intro e
  induction e with
  | zero => intro _; rw [cntN_0, vi_0, cntN_0]
  | succ e ih =>
    intro he
    obtain ⟨x, hx⟩ : ∃ x, (tE S.1)[e]? = some x := ⟨_, List.getElem?_eq_getElem (by omega)⟩
    have vs := Vp_s hx
    rw [cntN, ih (by omega)]
    by_cases hv : isV x = true
    · rw [if_pos hv] at vs
      have l1 : viN S (e + 1) = viN S e + 1 := by show (Vp S (e + 1)).length = _; rw [vs, List.length_append]; rfl
      rw [l1, cntN]
      congr 1
      have hl : (vts S).take (viN S e) = Vp S e := Vp_t.symm
      have a1 : qB L S b k0 f c e = (decide (x 0 = 0) && (decide (x 1 = b) && c (spW L S b k0 f (Vp S e) x))) := by
        unfold qB
        rw [hx]
      have a2 : qV L S b k0 f c (viN S e) = (decide (x 0 = 0) && (decide (x 1 = b) && c (spW L S b k0 f ((vts S).take (viN S e)) x))) := by
        unfold qV
        rw [vi_at hx hv]
      rw [a1, a2, hl]
    · rw [if_neg hv] at vs
      have l1 : viN S (e + 1) = viN S e := by show (Vp S (e + 1)).length = _; rw [vs]
      have h0 : ¬ x 0 = 0 := fun w => hv (by unfold isV; rw [w]; rfl)
      have a1 : qB L S b k0 f c e = false := by
        unfold qB
        rw [hx]
        show (decide (x 0 = 0) && _) = false
        rw [decide_eq_false h0, Bool.false_and]
      rw [l1, a1, if_neg (by decide), Nat.add_zero]
theorem cv_l {L : LawT} {S : St} {b k0 f : Nat} {c : Nat → Bool} : cntN (qB L S b k0 f c) (tE S.1).length = cntN (qV L S b k0 f c) (vts S).length := by
  rw [cv_eq _ (Nat.le_refl _)]
  congr 1
  show (((tE S.1).take (tE S.1).length).filter isV).length = _
  rw [List.take_length]
theorem mk_same4 {cf mf : Dm → Option (Int32 × Dm)} {n : Nat} {S : St} {v : Int32} (ok : Ok S) (h1 : ∀ δ, RepC δ n S → ∃ δ', cf δ = some (v, δ') ∧ FrZ δ δ') (h2 : ∀ δ, RepM δ S → ∃ δ', mf δ = some (v, δ') ∧ FrG δ δ') : ∃ v S', (∀ δ, RepC δ n S → ∃ δ1, cf δ = some (v, δ1) ∧ RepC δ1 n S' ∧ KM δ δ1) ∧ (∀ δ, RepM δ S → ∃ δ2, mf δ = some (v, δ2) ∧ RepM δ2 S' ∧ KC δ δ2) ∧ Ok S' :=
  ⟨v, S, fun δ h => (h1 δ h).imp fun δ' q => ⟨q.1, RepC_Z h ok q.2, fun b j z => q.2 b j (by omega) (by omega)⟩, fun δ h => (h2 δ h).imp fun δ' q => ⟨q.1, RepM_G h ok q.2, fun b j z => q.2 b j (by omega) (by omega) (by omega)⟩, ok⟩
theorem op_again (a1 a2 a3 : Int32) : OpG (f_Fp_again a1 a2 a3) (f_Mo_again a1 a2 a3) := mk_op fun n S ok => by
  have k8 : S.1.1 2 ≤ 8 := ok.1.1.2.2.1
  have kl : (sJ S).length ≤ 8 := ok.2.1
  have l1 : ∀ δ, RepC δ n S → f_Fp_lawAt a2 δ = some (if inb a2 (sJ S).length then some (87 + 8 * ix a2) else none) := fun δ h => lawAt_eq kl h.2.1
  have l2 : ∀ δ, RepM δ S → f_Mo_isLaw a2 δ = some (bI (inb a2 (sJ S).length)) := fun δ h => isLaw_eq (by omega) h.2.1
  have b1 : ∀ δ, RepC δ n S → f_To_boothAt a1 δ = some (if inb a1 (S.1.1 2) then some (54 + 4 * ix a1) else none) := fun δ h => boothAt_eq k8 (cG h.1).2.2.1
  have b2 : ∀ δ, RepM δ S → f_Mo_isBooth a1 δ = some (bI (inb a1 (S.1.1 2))) := fun δ h => isBooth_eq (by omega) (mS h.1).2.2.1
  have i5 : ∀ δ, f_Mo_in a3.toInt64 0 5 δ = some (bI (inb a3 6)) := fun δ => in0 (n := 5) (by decide) rfl
  by_cases h1 : inb a1 (S.1.1 2)
  · by_cases h2 : inb a2 (sJ S).length
    · obtain ⟨b, hb, rfl⟩ := inb_ex (by omega) h1
      obtain ⟨t, ht, rfl⟩ := inb_ex (by omega) h2
      obtain ⟨L, hL⟩ : ∃ L, (sJ S)[t]? = some L := ⟨_, List.getElem?_eq_getElem ht⟩
      by_cases h3 : inb a3 6
      · obtain ⟨v, hv, rfl⟩ := inb_ex (by decide) h3
        refine mk_same4 (v := nI (cntN (qB L S b 3 0 (fun u => decide (u = v))) (tE S.1).length)) ok (fun δ h => ?_) (fun δ h => ?_)
        · obtain ⟨d, q1, q2, q3⟩ := runAll_eq h ok hb hL
          refine ⟨d, ?_, q2⟩
          simp only [f_Fp_again, l1 δ h, b1 δ h, if_pos h1, if_pos h2, ixN (show b < 2147483648 by omega), ixN (show t < 2147483648 by omega), Option.bind_some, ocs, if_pos (isB_at b (by omega)).1, if_pos (isL_at t (by omega)).1, isSpoiler_eq, ifb, if_pos h3, q1, tally_eq (RepC_Z h ok q2) ok hb q3 hv]
        · obtain ⟨d, q1, q2, q3⟩ := goes_eq (k0 := 3) (f := 0) (a3 := -1) (a4 := -1) h ok hb hL (Or.inl ⟨rfl, rfl⟩) (fun w => absurd w (by decide))
          refine ⟨d, ?_, q2⟩
          simp only [f_Mo_again, l2 δ h, b2 δ h, i5, Option.bind_some, ifb, if_pos h1, if_pos h2, if_pos h3, q1]
          rw [ixN (show v < 2147483648 by omega), q3 v hv, cv_l]
      · refine nop (-1) ok (fun δ h => ?_) (fun δ h => ?_)
        · simp only [f_Fp_again, l1 δ h, b1 δ h, if_pos h1, if_pos h2, ixN (show b < 2147483648 by omega), ixN (show t < 2147483648 by omega), Option.bind_some, ocs, if_pos (isB_at b (by omega)).1, if_pos (isL_at t (by omega)).1, isSpoiler_eq, ifb, if_neg h3]
        · simp only [f_Mo_again, l2 δ h, b2 δ h, i5, Option.bind_some, ifb, if_pos h1, if_pos h2, if_neg h3]
    · refine nop (-1) ok (fun δ h => ?_) (fun δ h => ?_)
      · simp only [f_Fp_again, l1 δ h, b1 δ h, if_pos h1, if_neg h2, Option.bind_some, ocs, if_pos (isB_ix h1 k8)]
      · simp only [f_Mo_again, l2 δ h, b2 δ h, Option.bind_some, ifb, if_pos h1, if_neg h2]
  · refine nop (-1) ok (fun δ h => ?_) (fun δ h => ?_)
    · by_cases h2 : inb a2 (sJ S).length
      · obtain ⟨t, ht, rfl⟩ := inb_ex (by omega) h2
        simp only [f_Fp_again, l1 δ h, b1 δ h, if_neg h1, if_pos h2, ixN (show t < 2147483648 by omega), Option.bind_some, ocs, if_pos (isL_at t (by omega)).1]
      · simp only [f_Fp_again, l1 δ h, b1 δ h, if_neg h1, if_neg h2, Option.bind_some, ocs]
    · simp only [f_Mo_again, b2 δ h, Option.bind_some, ifb, if_neg h1]
/-- all that are spoilt -/
theorem sum5 {L : LawT} {S : St} {b k0 f : Nat} : ∀ n, cntN (qV L S b k0 f (fun u => decide (u = 1))) n + cntN (qV L S b k0 f (fun u => decide (u = 2))) n + cntN (qV L S b k0 f (fun u => decide (u = 3))) n + cntN (qV L S b k0 f (fun u => decide (u = 4))) n + cntN (qV L S b k0 f (fun u => decide (u = 5))) n = cntN (qV L S b k0 f (fun u => decide (u ≠ 0))) n := by
  intro n
  induction n with
  | zero => rfl
  | succ n ih =>
    simp only [cntN]
    rw [← ih]
    cases hx : (vts S)[n]? with
    | none =>
      have q : ∀ c, qV L S b k0 f c n = false := fun c => by unfold qV; rw [hx]
      simp [q]
    | some x =>
      have l5 : spW L S b k0 f ((vts S).take n) x ≤ 5 := spP_le
      obtain ⟨y, hy⟩ : ∃ y, spW L S b k0 f ((vts S).take n) x = y := ⟨_, rfl⟩
      have q : ∀ c, qV L S b k0 f c n = (decide (x 0 = 0) && (decide (x 1 = b) && c y)) := fun c => by
        unfold qV
        rw [hx]
        show (decide (x 0 = 0) && (decide (x 1 = b) && c (spW L S b k0 f ((vts S).take n) x))) = _
        rw [hy]
      rw [hy] at l5
      simp only [q]
      by_cases h : x 0 = 0 ∧ x 1 = b
      · rw [decide_eq_true h.1, decide_eq_true h.2]
        rcases (by omega : y = 0 ∨ y = 1 ∨ y = 2 ∨ y = 3 ∨ y = 4 ∨ y = 5) with rfl | rfl | rfl | rfl | rfl | rfl <;> simp <;> omega
      · have : (decide (x 0 = 0) && decide (x 1 = b)) = false := by
          by_cases h0 : x 0 = 0
          · have : ¬ x 1 = b := fun w => h ⟨h0, w⟩
            simp [this]
          · simp [h0]
        simp only [← Bool.and_assoc, this, Bool.false_and]
        simp
def nW (L : LawT) (S : St) (b k0 f : Nat) : Nat := cntN (qB L S b k0 f (fun u => decide (u ≠ 0))) (tE S.1).length
theorem nW_le {L : LawT} {S : St} {b k0 f : Nat} (ok : Ok S) : nW L S b k0 f ≤ 400 := by
  have main : ∀ e, e ≤ (tE S.1).length → cntN (qB L S b k0 f (fun u => decide (u ≠ 0))) e ≤ siN S e := by
    intro e
    induction e with
    | zero => intro _; exact Nat.zero_le _
    | succ e ih =>
      intro he
      obtain ⟨x, hx⟩ : ∃ x, (tE S.1)[e]? = some x := ⟨_, List.getElem?_eq_getElem (by omega)⟩
      have q := si_s hx
      have i := ih (by omega)
      rw [cntN, q]
      by_cases h0 : x 0 = 0
      · rw [if_pos h0]; split <;> omega
      · rw [if_neg h0, if_neg]
        · omega
        · unfold qB; rw [hx]; simp [h0]
  have := main (tE S.1).length (Nat.le_refl _)
  have e : siN S (tE S.1).length = (sts S).length := by
    show (((tE S.1).take (tE S.1).length).filter isS).length = _
    rw [List.take_length]
  have h4 := sts_le ok
  unfold nW
  omega
theorem swM {b k0 f : Nat} {δ : Dm} {S : St} {L : LawT} (h : RepM δ S) (ok : Ok S) (hb : b < S.1.1 2) (hL : (sJ S)[bc S.1.1 b 2]? = some L) (hk : k0 < 3) (hf : f < 400) (hc : bc S.1.1 b 10 ≤ f) : ∃ d, f_Mo_spoiltWith (nI b) (nI k0) (nI f) δ = some (nI (nW L S b k0 f), d) ∧ FrG δ d := by
  have hb8 : b < 8 := (ok_nums ok hb).2.2.2.2.2.2.2.2.2.2.2.1
  obtain ⟨d, q1, q2, q3⟩ := goes_eq (k0 := k0) (f := f) (a3 := nI k0) (a4 := nI f) h ok hb hL (Or.inr ⟨rfl, hk, rfl, hf⟩) (fun _ => hc)
  refine ⟨d, ?_, q2⟩
  unfold f_Mo_spoiltWith nW
  rw [show f_Mo_cell (nI b) 2 δ = _ from rW (w := 2) (RGM_of h.1) hb8 (by decide), Option.bind_some, q1, Option.bind_some, if_pos (show inb (1 : Int32) 6 by decide), if_pos (show inb (2 : Int32) 6 by decide), if_pos (show inb (3 : Int32) 6 by decide), if_pos (show inb (4 : Int32) 6 by decide), if_pos (show inb (5 : Int32) 6 by decide), show ix (1 : Int32) = 1 from rfl, show ix (2 : Int32) = 2 from rfl, show ix (3 : Int32) = 3 from rfl, show ix (4 : Int32) = 4 from rfl, show ix (5 : Int32) = 5 from rfl, q3 1 (by decide), q3 2 (by decide), q3 3 (by decide), q3 4 (by decide), q3 5 (by decide), nI_add, nI_add, nI_add, nI_add, sum5, cv_l]
theorem op_with (a1 a2 a3 : Int32) : OpG (f_Fp_with a1 a2 a3) (f_Mo_with a1 a2 a3) := mk_op fun n S ok => by
  have k8 : S.1.1 2 ≤ 8 := ok.1.1.2.2.1
  have k00 : S.1.1 0 < 400 := ok.1.1.1
  have kl : (sJ S).length ≤ 8 := ok.2.1
  have b1 : ∀ δ, RepC δ n S → f_To_boothAt a1 δ = some (if inb a1 (S.1.1 2) then some (54 + 4 * ix a1) else none) := fun δ h => boothAt_eq k8 (cG h.1).2.2.1
  have b2 : ∀ δ, RepM δ S → f_Mo_isBooth a1 δ = some (bI (inb a1 (S.1.1 2))) := fun δ h => isBooth_eq (by omega) (mS h.1).2.2.1
  have i2 : ∀ δ, f_Mo_in a2.toInt64 0 2 δ = some (bI (inb a2 3)) := fun δ => in0 (n := 2) (by decide) rfl
  by_cases h1 : inb a1 (S.1.1 2)
  · obtain ⟨b, hb, rfl⟩ := inb_ex (by omega) h1
    obtain ⟨n0, n1, n2, n3, n4, n5, n6, n7, n8, n9, n10, hb8, h12, h400⟩ := ok_nums ok hb
    obtain ⟨L, hL⟩ : ∃ L, (sJ S)[bc S.1.1 b 2]? = some L := ⟨_, List.getElem?_eq_getElem n3⟩
    have w1 : ∀ δ, RepC δ n S → f_Fp_within a3 (gI δ (54 + 4 * b) 3) (gI δ 29 0) δ = some (bI (nI (bc S.1.1 b 10) ≤ a3 ∧ a3 ≤ nI (S.1.1 0))) := fun δ h => by
      rw [cBs 10 3 rfl h hb8 (by decide) (by decide), show gI δ 29 0 = nI (S.1.1 0) from (cG h.1).1, within_eq]
    have c10 : ∀ δ, RepM δ S → f_Mo_cell (nI b) 10 δ = some (nI (bc S.1.1 b 10)) := fun δ h => rW (w := 10) (RGM_of h.1) hb8 (by decide)
    have w2 : ∀ δ, RepM δ S → f_Mo_in a3.toInt64 (nI (bc S.1.1 b 10)).toInt64 (gI δ 152 0).toInt64 δ = some (bI (nI (bc S.1.1 b 10) ≤ a3 ∧ a3 ≤ nI (S.1.1 0))) := fun δ h => by
      rw [show gI δ 152 0 = nI (S.1.1 0) from (mS h.1).1, in_eq]
    by_cases h2 : inb a2 3
    · by_cases h3 : nI (bc S.1.1 b 10) ≤ a3 ∧ a3 ≤ nI (S.1.1 0)
      · obtain ⟨k0, hk, rfl⟩ := inb_ex (by decide) h2
        obtain ⟨f, hf1, hf2, rfl⟩ := low_i (by omega) h3 (by omega)
        refine mk_same4 (v := nI (nW L S b k0 f)) ok (fun δ h => ?_) (fun δ h => ?_)
        · obtain ⟨d, q1, q2, q3⟩ := runAll_eq h ok hb hL
          have hC := RepC_Z h ok q2
          obtain ⟨d2, r1, r2, r3⟩ := rb_eq (f := f) hC ok hb hL hk hf1 (by omega)
          have hC2 := RepC_W hC ok r2
          refine ⟨d2, ?_, fun c j z1 z2 => (r2 c j z1).trans (q2 c j z1 z2)⟩
          simp only [f_Fp_with, b1 δ h, if_pos h1, ixN (show b < 2147483648 by omega), Option.bind_some, ocs, if_pos (isB_at b hb8).1, isBath_eq, ifb, if_pos h2, w1 δ h, if_pos h3]
          rw [cBs 2 2 rfl h hb8 (by decide) (by decide), lawAt_eq kl h.2.1, if_pos (inb_i n3 (by omega)), ixN (show bc S.1.1 b 2 < 2147483648 by omega)]
          simp only [Option.bind_some, ocs, if_pos (isL_at _ (show bc S.1.1 b 2 < 8 by omega)).1, q1, r1]
          rw [tallyS_eq hC2 ok hb (wiM_s (wiM_4 ok q3) (by omega) r3 r2), Option.bind_some]; rfl
        · obtain ⟨d, q1, q2⟩ := swM (k0 := k0) (f := f) h ok hb hL hk (by omega) hf1
          refine ⟨d, ?_, q2⟩
          simp only [f_Mo_with, b2 δ h, i2, c10 δ h, j0, x0, w2 δ h, Option.bind_some, ifb, if_pos h1, if_pos h2, if_pos h3, q1, bndE]
      · refine nop (-1) ok (fun δ h => ?_) (fun δ h => ?_)
        · simp only [f_Fp_with, b1 δ h, if_pos h1, ixN (show b < 2147483648 by omega), Option.bind_some, ocs, if_pos (isB_at b hb8).1, isBath_eq, ifb, if_pos h2, w1 δ h, if_neg h3]
        · simp only [f_Mo_with, b2 δ h, i2, c10 δ h, j0, x0, w2 δ h, Option.bind_some, ifb, if_pos h1, if_pos h2, if_neg h3]
    · refine nop (-1) ok (fun δ h => ?_) (fun δ h => ?_)
      · simp only [f_Fp_with, b1 δ h, if_pos h1, ixN (show b < 2147483648 by omega), Option.bind_some, ocs, if_pos (isB_at b hb8).1, isBath_eq, ifb, if_neg h2]
      · simp only [f_Mo_with, b2 δ h, i2, Option.bind_some, ifb, if_pos h1, if_neg h2]
  · refine nop (-1) ok (fun δ h => ?_) (fun δ h => ?_)
    · simp only [f_Fp_with, b1 δ h, if_neg h1, Option.bind_some, ocs]
    · simp only [f_Mo_with, b2 δ h, Option.bind_some, ifb, if_neg h1]
/-- the earliest of the best days -/
def isBst (g : Nat → Nat) (q lo hi : Nat) : Prop := lo ≤ q ∧ q ≤ hi ∧ ∀ d, lo ≤ d → d ≤ hi → g q ≤ g d ∧ (d < q → g q < g d)
theorem isBst_u {g : Nat → Nat} {q r lo hi : Nat} (h : isBst g q lo hi) (h2 : isBst g r lo hi) : q = r := by
  obtain ⟨a1, a2, a3⟩ := h
  obtain ⟨b1, b2, b3⟩ := h2
  have x := a3 r b1 b2
  have y := b3 q a1 a2
  rcases Nat.lt_trichotomy q r with z | z | z
  · have := y.2 z; omega
  · exact z
  · have := x.2 z; omega
theorem isBst_dn {g : Nat → Nat} {q lo hi : Nat} (h : isBst g q (lo + 1) hi) : isBst g (if g lo ≤ g q then lo else q) lo hi := by
  obtain ⟨a1, a2, a3⟩ := h
  by_cases z : g lo ≤ g q
  · rw [if_pos z]
    refine ⟨Nat.le_refl _, by omega, fun d h1 h2 => ⟨?_, fun w => by omega⟩⟩
    by_cases e : d = lo
    · rw [e]; exact Nat.le_refl _
    · exact Nat.le_trans z (a3 d (by omega) h2).1
  · rw [if_neg z]
    refine ⟨by omega, a2, fun d h1 h2 => ?_⟩
    by_cases e : d = lo
    · rw [e]; exact ⟨by omega, fun _ => by omega⟩
    · exact a3 d (by omega) h2
theorem isBst_up {g : Nat → Nat} {q lo hi : Nat} (h : isBst g q lo hi) : isBst g (if g (hi + 1) < g q then hi + 1 else q) lo (hi + 1) := by
  obtain ⟨a1, a2, a3⟩ := h
  by_cases z : g (hi + 1) < g q
  · rw [if_pos z]
    refine ⟨by omega, Nat.le_refl _, fun d h1 h2 => ?_⟩
    by_cases e : d = hi + 1
    · rw [e]; exact ⟨Nat.le_refl _, fun w => by omega⟩
    · have := (a3 d h1 (by omega)).1
      exact ⟨by omega, fun _ => by omega⟩
  · rw [if_neg z]
    refine ⟨a1, by omega, fun d h1 h2 => ?_⟩
    by_cases e : d = hi + 1
    · rw [e]; exact ⟨by omega, fun w => by omega⟩
    · exact a3 d h1 (by omega)
theorem isBst_1 {g : Nat → Nat} {d : Nat} : isBst g d d d := ⟨Nat.le_refl _, Nat.le_refl _, fun e h1 h2 => by rw [show e = d by omega]; exact ⟨Nat.le_refl _, fun w => by omega⟩⟩
theorem isBst_e {g : Nat → Nat} {lo : Nat} : ∀ hi, lo ≤ hi → ∃ q, isBst g q lo hi := by
  intro hi
  induction hi with
  | zero => intro h; rw [show lo = 0 by omega]; exact ⟨0, isBst_1⟩
  | succ hi ih =>
    intro h
    by_cases z : lo = hi + 1
    · rw [z]; exact ⟨_, isBst_1⟩
    · obtain ⟨q, hq⟩ := ih (by omega)
      exact ⟨_, isBst_up hq⟩
theorem fin_C {n b k0 l : Nat} {δ : Dm} {S : St} {L : LawT} {best : Nat} (h : RepC δ n S) (ok : Ok S) (hb : b < S.1.1 2) (hL : (sJ S)[l]? = some L) (hk : k0 < 3) (hw : wiM L S b k0 400 δ) (hB : isBst (nW L S b k0) best (bc S.1.1 b 10) (S.1.1 0)) : ∃ d, lp_Fp_finest_74 (fun v5_74x v6_74x v7_74x δ74x => (some (v5_74x, δ74x))) (nI b) (nI k0) (54 + 4 * b) (87 + 8 * l) FU (-1) 401 (nI (S.1.1 0)) δ = some (nI best, d) ∧ FrZ δ d := by
  have k00 : S.1.1 0 < 400 := ok.1.1.1
  obtain ⟨n0, n1, n2, n3, n4, n5, n6, n7, n8, n9, n10, hb8, h12, h400⟩ := ok_nums ok hb
  refine whl (fun f (a : Int32 × Int32 × Int32 × Dm) => lp_Fp_finest_74 (fun v5_74x v6_74x v7_74x δ74x => (some (v5_74x, δ74x))) (nI b) (nI k0) (54 + 4 * b) (87 + 8 * l) f a.1 a.2.1 a.2.2.1 a.2.2.2) (fun a => ∃ d f', bc S.1.1 b 10 ≤ d ∧ d ≤ S.1.1 0 + 1 ∧ a.2.2.1 = nI d - 1 ∧ d ≤ f' ∧ wiM L S b k0 f' a.2.2.2 ∧ FrZ δ a.2.2.2 ∧ (d = S.1.1 0 + 1 → a.1 = -1 ∧ a.2.1 = 401) ∧ (d ≤ S.1.1 0 → ∃ q, isBst (nW L S b k0) q d (S.1.1 0) ∧ a.1 = nI q ∧ a.2.1 = nI (nW L S b k0 q))) (fun a => (a.2.2.1.toInt + 1).toNat) (fun r => ∃ d, r = some (nI best, d) ∧ FrZ δ d) (fun f a hI => ?_) (-1, 401, nI (S.1.1 0), δ) ⟨S.1.1 0 + 1, 400, by omega, Nat.le_refl _, (nI_pred _).symm, by omega, hw, fun _ _ _ _ => rfl, fun _ => ⟨rfl, rfl⟩, fun w => by omega⟩ (by show ((nI (S.1.1 0)).toInt + 1).toNat < _; rw [nI_toInt (by omega)]; omega)
  obtain ⟨v5, v6, v7, e⟩ := a
  obtain ⟨d, f', i1, i2, i3, i4, i5, i6, i7, i8⟩ := hI
  have i3 : v7 = nI d - 1 := i3
  have i5 : wiM L S b k0 f' e := i5
  have i6 : FrZ δ e := i6
  have hC := RepC_Z h ok i6
  have td : (nI d - 1).toInt = (d : Int) - 1 := pk_sub_toInt (a := d) (b := 1) (by omega) (by decide)
  simp only [lp_Fp_finest_74]
  rw [cBs 10 3 rfl hC hb8 (by decide) (by decide), i3]
  by_cases z : d = bc S.1.1 b 10
  · left
    rw [if_pos (by rw [lt32, td, nI_toInt (by omega)]; omega)]
    obtain ⟨q, q1, q2, q3⟩ := i8 (by omega)
    have q2 : v5 = nI q := q2
    rw [z] at q1
    rw [q2, isBst_u q1 hB]
    exact ⟨e, rfl, i6⟩
  · right
    obtain ⟨c, rfl⟩ : ∃ c, d = c + 1 := ⟨d - 1, by omega⟩
    rw [nI_pred] at td ⊢
    rw [if_neg (nI_nlt (by omega) (by omega))]
    obtain ⟨d2, r1, r2, r3⟩ := rb_eq (f := c) hC ok hb hL hk (by omega) (by omega)
    have hC2 := RepC_W hC ok r2
    have hw2 := wiM_s i5 (by omega) r3 r2
    have F2 : FrZ δ d2 := fun c j z1 z2 => (r2 c j z1).trans (i6 c j z1 z2)
    have em : nI c + -1 = nI c - 1 := by rw [Int32.sub_eq_add_neg]
    have me : ((nI c - 1).toInt + 1).toNat < ((nI c).toInt + 1).toNat := by
      rw [show (nI c - 1).toInt = (c : Int) - 1 from pk_sub_toInt (a := c) (b := 1) (by omega) (by decide), nI_toInt (by omega)]
      omega
    have nl : ∀ g, nW L S b k0 g ≤ 400 := fun g => nW_le ok
    rw [r1, Option.bind_some, tallyS_eq hC2 ok hb hw2, Option.bind_some, em]
    have hn : nI (cntN (qB L S b k0 c (fun v => decide (v ≠ 0))) (tE S.1).length) = nI (nW L S b k0 c) := rfl
    rw [hn]
    by_cases y : c = S.1.1 0
    · obtain ⟨p1, p2⟩ := i7 (by omega)
      have p2 : v6 = 401 := p2
      have nc := nl c
      rw [p2, if_neg (show ¬ (401 : Int32) < nI (nW L S b k0 c) from nI_nlt (a := 401) (by omega) (by decide))]
      exact ⟨(nI c, nI (nW L S b k0 c), nI c - 1, d2), ⟨c, c, by omega, by omega, rfl, Nat.le_refl _, hw2, F2, fun w => by omega, fun _ => ⟨c, by rw [y]; exact isBst_1, rfl, rfl⟩⟩, me, rfl⟩
    · obtain ⟨q, q1, q2, q3⟩ := i8 (by omega)
      have q2 : v5 = nI q := q2
      have q3 : v6 = nI (nW L S b k0 q) := q3
      have nc := nl c
      have nq := nl q
      have bd := isBst_dn q1
      rw [q3]
      by_cases w : nW L S b k0 c ≤ nW L S b k0 q
      · rw [if_pos w] at bd
        rw [if_neg (nI_nlt w (by omega))]
        exact ⟨(nI c, nI (nW L S b k0 c), nI c - 1, d2), ⟨c, c, by omega, by omega, rfl, Nat.le_refl _, hw2, F2, fun w => by omega, fun _ => ⟨c, bd, rfl, rfl⟩⟩, me, rfl⟩
      · rw [if_neg w] at bd
        rw [if_pos (nI_lt (by omega) (by omega))]
        exact ⟨(v5, nI (nW L S b k0 q), nI c - 1, d2), ⟨c, c, by omega, by omega, rfl, Nat.le_refl _, hw2, F2, fun w => by omega, fun _ => ⟨q, bd, q2, rfl⟩⟩, me, rfl⟩
theorem fin_M {b k0 : Nat} {δ : Dm} {S : St} {L : LawT} {best : Nat} (h : RepM δ S) (ok : Ok S) (hb : b < S.1.1 2) (hL : (sJ S)[bc S.1.1 b 2]? = some L) (hk : k0 < 3) (hB : isBst (nW L S b k0) best (bc S.1.1 b 10) (S.1.1 0)) : ∃ d, lp_Mo_finest_36 (fun v3_36x v4_36x v5_36x δ36x => (some (v3_36x, δ36x))) (nI b) (nI k0) FU (-1) 0 (nI (bc S.1.1 b 10)) δ = some (nI best, d) ∧ FrG δ d := by
  have k00 : S.1.1 0 < 400 := ok.1.1.1
  obtain ⟨n0, n1, n2, n3, n4, n5, n6, n7, n8, n9, n10, hb8, h12, h400⟩ := ok_nums ok hb
  have nl : ∀ g, nW L S b k0 g ≤ 400 := fun g => nW_le ok
  refine for_inv (fun f d (a : Int32 × Int32 × Dm) => lp_Mo_finest_36 (fun v3_36x v4_36x v5_36x δ36x => (some (v3_36x, δ36x))) (nI b) (nI k0) f a.1 a.2.1 d a.2.2) (S.1.1 0 + 1) (by omega) (fun d a => bc S.1.1 b 10 ≤ d ∧ FrG δ a.2.2 ∧ (d = bc S.1.1 b 10 → a.1 = -1) ∧ (bc S.1.1 b 10 < d → ∃ q, isBst (nW L S b k0) q (bc S.1.1 b 10) (d - 1) ∧ a.1 = nI q ∧ a.2.1 = nI (nW L S b k0 q))) (fun r => ∃ d, r = some (nI best, d) ∧ FrG δ d) (fun f d a hd hI => ?_) (fun f a hI => ?_) (bc S.1.1 b 10) (-1, 0, δ) (by omega) ⟨Nat.le_refl _, fun _ _ _ _ _ => rfl, fun _ => rfl, fun w => by omega⟩
  · obtain ⟨v3, v4, e⟩ := a
    obtain ⟨i1, i2, i3, i4⟩ := hI
    have i2 : FrG δ e := i2
    have hM := RepM_G h ok i2
    obtain ⟨d2, q1, q2⟩ := swM (k0 := k0) (f := d) hM ok hb hL hk (by omega) i1
    have F2 : FrG δ d2 := fun c j a1 a2 a3 => (q2 c j a1 a2 a3).trans (i2 c j a1 a2 a3)
    have nd := nl d
    simp only [lp_Mo_finest_36, j0]
    rw [x0, (mS hM.1).1, if_neg (show ¬ nI ((sT S).1 0) < nI d from nI_nlt (by show d ≤ S.1.1 0; omega) (show S.1.1 0 < 2147483648 by omega)), q1, Option.bind_some, nI_1]
    simp only [bndE]
    by_cases z : d = bc S.1.1 b 10
    · have i3 : v3 = -1 := i3 z
      rw [i3, if_pos (by decide)]
      exact ⟨(nI d, nI (nW L S b k0 d), d2), ⟨by omega, F2, fun w => by omega, fun _ => ⟨d, by rw [Nat.add_sub_cancel, ← z]; exact isBst_1, rfl, rfl⟩⟩, rfl⟩
    · obtain ⟨q, r1, r2, r3⟩ := i4 (by omega)
      have r2 : v3 = nI q := r2
      have r3 : v4 = nI (nW L S b k0 q) := r3
      have nq := nl q
      have rq := r1.2.1
      have bu := isBst_up r1
      rw [show d - 1 + 1 = d by omega] at bu
      rw [r2, if_neg (nI_pos (by omega)), r3]
      by_cases w : nW L S b k0 d < nW L S b k0 q
      · rw [if_pos w] at bu
        rw [if_pos (nI_lt w (by omega))]
        exact ⟨(nI d, nI (nW L S b k0 d), d2), ⟨by omega, F2, fun w => by omega, fun _ => ⟨d, by rw [Nat.add_sub_cancel]; exact bu, rfl, rfl⟩⟩, rfl⟩
      · rw [if_neg w] at bu
        rw [if_neg (nI_nlt (by omega) (by omega))]
        exact ⟨(nI q, nI (nW L S b k0 q), d2), ⟨by omega, F2, fun w => by omega, fun _ => ⟨q, by rw [Nat.add_sub_cancel]; exact bu, rfl, rfl⟩⟩, rfl⟩
  · obtain ⟨v3, v4, e⟩ := a
    obtain ⟨i1, i2, i3, i4⟩ := hI
    have i2 : FrG δ e := i2
    have hM := RepM_G h ok i2
    obtain ⟨q, r1, r2, r3⟩ := i4 (by omega)
    have r2 : v3 = nI q := r2
    simp only [lp_Mo_finest_36, j0]
    rw [x0, (mS hM.1).1, if_pos (show nI ((sT S).1 0) < nI (S.1.1 0 + 1) from nI_lt (by show S.1.1 0 < _; omega) (by omega)), r2]
    rw [Nat.add_sub_cancel] at r1
    rw [isBst_u r1 hB]
    exact ⟨e, rfl, i2⟩
theorem op_finest (a1 a2 : Int32) : OpG (f_Fp_finest a1 a2) (f_Mo_finest a1 a2) := mk_op fun n S ok => by
  have k8 : S.1.1 2 ≤ 8 := ok.1.1.2.2.1
  have k00 : S.1.1 0 < 400 := ok.1.1.1
  have kl : (sJ S).length ≤ 8 := ok.2.1
  have b1 : ∀ δ, RepC δ n S → f_To_boothAt a1 δ = some (if inb a1 (S.1.1 2) then some (54 + 4 * ix a1) else none) := fun δ h => boothAt_eq k8 (cG h.1).2.2.1
  have b2 : ∀ δ, RepM δ S → f_Mo_isBooth a1 δ = some (bI (inb a1 (S.1.1 2))) := fun δ h => isBooth_eq (by omega) (mS h.1).2.2.1
  have i2 : ∀ δ, f_Mo_in a2.toInt64 0 2 δ = some (bI (inb a2 3)) := fun δ => in0 (n := 2) (by decide) rfl
  by_cases h1 : inb a1 (S.1.1 2)
  · obtain ⟨b, hb, rfl⟩ := inb_ex (by omega) h1
    obtain ⟨n0, n1, n2, n3, n4, n5, n6, n7, n8, n9, n10, hb8, h12, h400⟩ := ok_nums ok hb
    obtain ⟨L, hL⟩ : ∃ L, (sJ S)[bc S.1.1 b 2]? = some L := ⟨_, List.getElem?_eq_getElem n3⟩
    by_cases h2 : inb a2 3
    · obtain ⟨k0, hk, rfl⟩ := inb_ex (by decide) h2
      obtain ⟨best, hB⟩ := isBst_e (g := nW L S b k0) (lo := bc S.1.1 b 10) (S.1.1 0) n9
      refine mk_same4 (v := nI best) ok (fun δ h => ?_) (fun δ h => ?_)
      · obtain ⟨d, q1, q2, q3⟩ := runAll_eq h ok hb hL
        have hC := RepC_Z h ok q2
        obtain ⟨d2, r1, r2⟩ := fin_C hC ok hb hL hk (wiM_4 ok q3) hB
        refine ⟨d2, ?_, fun c j z1 z2 => (r2 c j z1 z2).trans (q2 c j z1 z2)⟩
        simp only [f_Fp_finest, b1 δ h, if_pos h1, ixN (show b < 2147483648 by omega), Option.bind_some, ocs, if_pos (isB_at b hb8).1, isBath_eq, ifb, if_pos h2]
        rw [cBs 2 2 rfl h hb8 (by decide) (by decide), lawAt_eq kl h.2.1, if_pos (inb_i n3 (by omega)), ixN (show bc S.1.1 b 2 < 2147483648 by omega)]
        simp only [Option.bind_some, ocs, if_pos (isL_at _ (show bc S.1.1 b 2 < 8 by omega)).1, q1, bndE]
        rw [show gI d 29 0 = nI (S.1.1 0) from (cG hC.1).1]
        exact r1
      · obtain ⟨d, q1, q2⟩ := fin_M (k0 := k0) h ok hb hL hk hB
        refine ⟨d, ?_, q2⟩
        simp only [f_Mo_finest, b2 δ h, i2, Option.bind_some, ifb, if_pos h1, if_pos h2]
        rw [show f_Mo_cell (nI b) 10 δ = _ from rW (w := 10) (RGM_of h.1) hb8 (by decide), Option.bind_some]
        exact q1
    · refine nop (-1) ok (fun δ h => ?_) (fun δ h => ?_)
      · simp only [f_Fp_finest, b1 δ h, if_pos h1, ixN (show b < 2147483648 by omega), Option.bind_some, ocs, if_pos (isB_at b hb8).1, isBath_eq, ifb, if_neg h2]
      · simp only [f_Mo_finest, b2 δ h, i2, Option.bind_some, ifb, if_pos h1, if_neg h2]
  · refine nop (-1) ok (fun δ h => ?_) (fun δ h => ?_)
    · simp only [f_Fp_finest, b1 δ h, if_neg h1, Option.bind_some, ocs]
    · simp only [f_Mo_finest, b2 δ h, Option.bind_some, ifb, if_neg h1]
