/-! refused, newer, rent, cheapest -/
theorem mem_list {X ρ : Type} (l : List X) (hl : l.length < 2147483648) (L : Nat → Int32 → Int32 × Dm → ρ) (g : Int32 → X → Int32) (F : Dm → Prop) (Q : ρ → Prop) (v0 : Int32)
    (hs : ∀ f i x v d, l[i]? = some x → F d → ∃ d', F d' ∧ L (f + 1) (nI i) (v, d) = L f (nI (i + 1)) (g v x, d'))
    (he : ∀ f d, F d → Q (L (f + 1) (nI l.length) (l.foldl g v0, d))) (δ : Dm) (h0 : F δ) : Q (L FU (nI 0) (v0, δ)) := by
  refine for_inv L l.length hl (fun i a => a.1 = (l.take i).foldl g v0 ∧ F a.2) Q (fun f i a hi hI => ?_) (fun f a hI => ?_) 0 (v0, δ) (Nat.zero_le _) ⟨by simp, h0⟩
  · obtain ⟨v, d⟩ := a
    obtain ⟨h1, h2⟩ := hI
    have hx : l[i]? = some l[i] := List.getElem?_eq_getElem hi
    obtain ⟨d', q1, q2⟩ := hs f i _ v d hx h2
    refine ⟨_, ⟨?_, q1⟩, q2⟩
    show g v l[i] = (l.take (i + 1)).foldl g v0
    rw [List.take_add_one, hx, List.foldl_append, ← h1]; rfl
  · obtain ⟨v, d⟩ := a
    obtain ⟨h1, h2⟩ := hI
    have h1 : v = (l.take l.length).foldl g v0 := h1
    rw [List.take_length] at h1
    rw [h1]; exact he f d h2
theorem fold_V {g : Int32 → Ev → Int32} : ∀ (l : List Ev) (v : Int32), (l.filter isV).foldl (fun v x => if isS x = true then g v x else v) v = (l.filter isS).foldl g v := by
  intro l
  induction l with
  | nil => intro v; rfl
  | cons x l ih =>
    intro v
    by_cases h : isS x = true
    · have hv : isV x = true := by
        unfold isS at h; unfold isV; have := eq_of_beq h; rw [this]; rfl
      rw [List.filter_cons_of_pos hv, List.filter_cons_of_pos h, List.foldl_cons, List.foldl_cons, if_pos h, ih]
    · rw [List.filter_cons_of_neg h]
      by_cases hv : isV x = true
      · rw [List.filter_cons_of_pos hv, List.foldl_cons, if_neg h, ih]
      · rw [List.filter_cons_of_neg hv, ih]
theorem RepC_E {n : Nat} {δ δ' : Dm} {S : St} (h : RepC δ n S) (ok : Ok S) (e : δ'.1 = δ.1) : RepC δ' n S := RepC_keep h ok.2.1 (fun b j _ => gE e b j)
theorem KM_E {δ δ' : Dm} (e : δ'.1 = δ.1) : KM δ δ' := fun b j _ => gE e b j
def FrT (δ d : Dm) : Prop := ∀ b j, ¬ (b = 151 ∧ j = 19) → gI d b j = gI δ b j
theorem FrT.trans {a b c : Dm} (h : FrT a b) (k : FrT b c) : FrT a c := fun x j q => (k x j q).trans (h x j q)
theorem FrT_E {δ δ' : Dm} (e : δ'.1 = δ.1) : FrT δ δ' := fun b j _ => gE e b j
theorem RepM_T {δ δ' : Dm} {S : St} (h : RepM δ S) (ok : Ok S) (e : FrT δ δ') : RepM δ' S := RepM_keep h ok (fun b j q => e b j (by omega))
theorem KC_T {δ δ' : Dm} (e : FrT δ δ') : KC δ δ' := fun b j q => e b j (by omega)
theorem sts_m {S : St} {s : Nat} {x : Ev} (ok : Ok S) (hx : (sts S)[s]? = some x) : x 0 = 0 ∧ x 1 < S.1.1 2 ∧ x 2 ≤ S.1.1 0 ∧ bc S.1.1 (x 1) 10 ≤ x 2 ∧ x 3 ≤ 99 ∧ x 4 ≤ 20 ∧ x 5 ≤ 5 ∧ s < 400 := by
  obtain ⟨h1, h2⟩ := List.mem_filter.mp (List.mem_of_getElem? hx)
  obtain ⟨a1, a2, a3, a4, a5, a6, a7, -⟩ := ok.1.2.2.2.1.1 x h1
  have hs := idx_lt hx
  have := sts_le ok
  exact ⟨eq_of_beq h2, a2, a3, a4, a5, a6, a7, by omega⟩
theorem vts_m {S : St} {e : Nat} {x : Ev} (ok : Ok S) (hx : (vts S)[e]? = some x) : x 1 < S.1.1 2 ∧ x 2 ≤ S.1.1 0 ∧ bc S.1.1 (x 1) 10 ≤ x 2 ∧ x 3 ≤ 99 ∧ x 4 ≤ 20 ∧ x 5 ≤ 5 ∧ e < 500 := by
  obtain ⟨h1, h2⟩ := List.mem_filter.mp (List.mem_of_getElem? hx)
  obtain ⟨a1, a2, a3, a4, a5, a6, a7, -⟩ := ok.1.2.2.2.1.1 x h1
  have hs := idx_lt hx
  have h5 : (vts S).length ≤ 500 := okV ok.1
  exact ⟨a2, a3, a4, a5, a6, a7, by omega⟩
/-- an office refuses a head -/
def rfP (L : LawT) (G : Nat → Nat) (x : Ev) : Bool := x 5 == 0 && holP L (wdG G (x 1) (x 2) (nI (x 3)) (nI (x 4)) 0 0) 8
theorem isRefC {n s l : Nat} {d : Dm} {S : St} {x : Ev} {L : LawT} (h : RepC d n S) (ok : Ok S) (hx : (sts S)[s]? = some x) (hL : (sJ S)[l]? = some L) : ∃ d', d'.1 = d.1 ∧ f_Fp_isRefused (87 + 8 * l) (nI s) d = some (if rfP L S.1.1 x = true then 1 else 0, d') := by
  obtain ⟨m0, m1, m2, m3, m4, m5, m6, m7⟩ := sts_m ok hx
  have k8 : S.1.1 2 ≤ 8 := ok.1.1.2.2.1
  have k0 : S.1.1 0 < 400 := ok.1.1.1
  have kl : (sJ S).length ≤ 8 := ok.2.1
  have hl := idx_lt hL
  obtain ⟨g1, g2, g3, g4, g5, g6, g7⟩ := h.1.2.1 s x hx
  have g1 : gI d 35 s = nI (x 1) := g1
  have g2 : gI d 36 s = nI (x 2) := g2
  have g3 : gI d 37 s = nI (x 5) := g3
  have g4 : gI d 38 s = nI (x 3) := g4
  have g5 : gI d 39 s = nI (x 4) := g5
  unfold f_Fp_isRefused rfP
  rw [get_in (show (KD 35).2 = 400 by decide) m7, g1, Option.bind_some, boothAt_eq k8 (cG h.1).2.2.1, if_pos (inb_i m1 (by omega)), ixN (show x 1 < 2147483648 by omega)]
  simp only [Option.bind_some, ocs, if_pos (isB_at _ (show x 1 < 8 by omega)).1]
  rw [get_in (show (KD 37).2 = 400 by decide) m7, g3, Option.bind_some]
  by_cases q : x 5 = 0
  · rw [if_pos (by rw [q]; rfl), get_in (show (KD 36).2 = 400 by decide) m7, g2, Option.bind_some]
    obtain ⟨d1, a1, a2, a3⟩ := open_S h ok m1 (show x 2 < 400 by omega)
    obtain ⟨d2, b1, b2, b3⟩ := pose_eq (hd := nI (x 3)) (st := nI (x 4)) a2
    have E2 : d2.1 = d.1 := b1.trans a1
    obtain ⟨d3, c1, c2⟩ := holdsC (r := 8) (w := wdG S.1.1 (x 1) (x 2) (nI (x 3)) (nI (x 4)) 0 0) (LC_E E2 (h.2.2.1 l L hL)) (ok.2.2.1 L (List.mem_of_getElem? hL)) (LKd_l (by omega)) (by decide) b2
    refine ⟨d3, c1.1.trans E2, ?_⟩
    rw [a3, Option.bind_some, get_in (show (KD 38).2 = 400 by decide) m7, gE a1, g4, Option.bind_some, get_in (show (KD 39).2 = 400 by decide) m7, gE a1, g5, Option.bind_some, b3, Option.bind_some, show (14 : Int32) = nI (8 + 6) from rfl, c2, Option.bind_some]
    simp only [bndE, q, beq_self_eq_true, Bool.true_and]
    split
    · rw [if_pos (Or.inr rfl)]
    · rw [if_pos (Or.inl rfl)]
  · rw [if_neg (nI_ne0 (by omega) (by omega))]
    refine ⟨d, rfl, ?_⟩
    have : (x 5 == 0) = false := by simp [q]
    simp only [this, Bool.false_and]; rfl
theorem isRefM {e l : Nat} {d : Dm} {S : St} {x : Ev} {L : LawT} (h : RepM d S) (ok : Ok S) (hx : (vts S)[e]? = some x) (hL : (sJ S)[l]? = some L) : ∃ d', FrT d d' ∧ f_Mo_isRefused (nI l) (nI e) d = some (if rfP L S.1.1 x = true then 1 else 0, d') := by
  obtain ⟨m1, m2, m3, m4, m5, m6, m7⟩ := vts_m ok hx
  have k8 : S.1.1 2 ≤ 8 := ok.1.1.2.2.1
  have k0 : S.1.1 0 < 400 := ok.1.1.1
  have kl : (sJ S).length ≤ 8 := ok.2.1
  have hl := idx_lt hL
  have ev : ∀ j, j < 8 → f_Mo_event (nI e) (nI j) d = some (nI (x j)) := fun j hj => event_eq h ok hx hj
  unfold f_Mo_isRefused rfP
  rw [show f_Mo_event (nI e) 5 d = _ from ev 5 (by decide), Option.bind_some]
  by_cases q : x 5 = 0
  · rw [if_pos (by rw [q]; decide), show f_Mo_event (nI e) 1 d = _ from ev 1 (by decide), Option.bind_some, show f_Mo_event (nI e) 3 d = _ from ev 3 (by decide), Option.bind_some, show f_Mo_event (nI e) 4 d = _ from ev 4 (by decide), Option.bind_some, show f_Mo_event (nI e) 2 d = _ from ev 2 (by decide), Option.bind_some]
    obtain ⟨d1, a1, a2, a3⟩ := words_S (hd := nI (x 3)) (st := nI (x 4)) (sp := 0) (bx := 0) (RGM_of h.1) ok m1 (show x 2 < 400 by omega)
    obtain ⟨d2, b1, b2⟩ := holdsM (r := 8) (w := wdG S.1.1 (x 1) (x 2) (nI (x 3)) (nI (x 4)) 0 0) (LM_keep (h.2.2.1 l L hL) (fun b j _ _ => gE a1 b j)) (ok.2.2.1 L (List.mem_of_getElem? hL)) (show l < 8 by omega) (by decide) a2
    refine ⟨d2, (FrT_E a1).trans b1.1, ?_⟩
    rw [a3, Option.bind_some, show (8 : Int32) = nI 8 from rfl, b2, Option.bind_some]
    simp only [bndE, q, beq_self_eq_true, Bool.true_and]
    split
    · rw [if_pos (Or.inr rfl)]
    · rw [if_pos (Or.inl rfl)]
  · rw [if_neg (nI_nle (by omega) (by omega))]
    refine ⟨d, fun _ _ _ => rfl, ?_⟩
    have : (x 5 == 0) = false := by simp [q]
    simp only [this, Bool.false_and]; rfl
theorem refused_C {n l : Nat} {a1 a2 : Int32} {δ : Dm} {S : St} {L : LawT} (h : RepC δ n S) (ok : Ok S) (hL : (sJ S)[l]? = some L) : ∃ δ', lp_Fp_refused_29 (fun v4_29x v5_29x δ29x => (some (v4_29x, δ29x))) a1 a2 (87 + 8 * l) FU 0 0 δ = some (nI (cn (fun x => ofD a2 x && rfP L S.1.1 x) (sts S)), δ') ∧ δ'.1 = δ.1 := by
  have h4 := sts_le ok
  have Q := mem_list (sts S) (by omega) (fun f i (a : Int32 × Dm) => lp_Fp_refused_29 (fun v4_29x v5_29x δ29x => (some (v4_29x, δ29x))) a1 a2 (87 + 8 * l) f a.1 i a.2) (fun v x => if (ofD a2 x && rfP L S.1.1 x) = true then v + 1 else v) (fun d => d.1 = δ.1) (fun r => ∃ δ', r = some ((sts S).foldl (fun v x => if (ofD a2 x && rfP L S.1.1 x) = true then v + 1 else v) (nI 0), δ') ∧ δ'.1 = δ.1) (nI 0)
    (fun f i x v d hx hF => by
      have hC := RepC_E h ok hF
      have g : gI d 34 0 = nI (sts S).length := by rw [← sts_n ok]; exact (cG hC.1).2.2.2.1
      simp only [lp_Fp_refused_29]
      rw [g, if_neg (nI_ge (idx_lt hx) (by omega)), isOf_eq hC ok hx, Option.bind_some]
      by_cases q : ofD a2 x = true
      · obtain ⟨d', q1, q2⟩ := isRefC hC ok hx hL
        rw [if_pos q, if_neg (show ¬ (1 : Int32) = 0 by decide), q2, Option.bind_some]
        simp only [bndE, nI_1]
        by_cases q3 : rfP L S.1.1 x = true
        · rw [if_pos q3, if_neg (show ¬ (1 : Int32) = 0 by decide), if_pos (show (ofD a2 x && rfP L S.1.1 x) = true by simp [q, q3])]
          exact ⟨d', q1.trans hF, rfl⟩
        · rw [if_neg q3, if_pos (show (0 : Int32) = 0 from rfl), if_neg (show ¬ (ofD a2 x && rfP L S.1.1 x) = true by simp [q3])]
          exact ⟨d', q1.trans hF, rfl⟩
      · rw [if_neg q, if_pos (show (0 : Int32) = 0 from rfl), if_neg (show ¬ (ofD a2 x && rfP L S.1.1 x) = true by simp [q]), nI_1]
        exact ⟨d, hF, rfl⟩)
    (fun f d hF => by
      have g : gI d 34 0 = nI (sts S).length := by rw [← sts_n ok]; exact (cG (RepC_E h ok hF).1).2.2.2.1
      simp only [lp_Fp_refused_29]
      rw [g, if_pos (nI_le (Nat.le_refl _) (by omega))]
      exact ⟨d, rfl, hF⟩) δ rfl
  rw [fold_cn, Nat.zero_add] at Q
  exact Q
theorem refused_M {l : Nat} {a1 a2 : Int32} {δ : Dm} {S : St} {L : LawT} (h : RepM δ S) (ok : Ok S) (hL : (sJ S)[l]? = some L) (ha : a1 = nI l) : ∃ δ', lp_Mo_refused_28 (fun v3_28x v4_28x δ28x => (some (v3_28x, δ28x))) a1 a2 FU 0 0 δ = some (nI (cn (fun x => ofD a2 x && rfP L S.1.1 x) (sts S)), δ') ∧ FrT δ δ' := by
  subst ha
  have h5 : (vts S).length ≤ 500 := okV ok.1
  have Q := mem_list (vts S) (by omega) (fun f i (a : Int32 × Dm) => lp_Mo_refused_28 (fun v3_28x v4_28x δ28x => (some (v3_28x, δ28x))) (nI l) a2 f a.1 i a.2) (fun v x => if isS x = true then (if (ofD a2 x && rfP L S.1.1 x) = true then v + 1 else v) else v) (fun d => FrT δ d) (fun r => ∃ δ', r = some ((vts S).foldl (fun v x => if isS x = true then (if (ofD a2 x && rfP L S.1.1 x) = true then v + 1 else v) else v) (nI 0), δ') ∧ FrT δ δ') (nI 0)
    (fun f i x v d hx hF => by
      have hC := RepM_T h ok hF
      simp only [lp_Mo_refused_28, j7, x7]
      rw [vts_n hC, if_neg (nI_ge (idx_lt hx) (by omega)), isStrip_eq hC ok hx, Option.bind_some]
      by_cases q0 : isS x = true
      · by_cases q : ofD a2 x = true
        · obtain ⟨d', q1, q2⟩ := isRefM hC ok hx hL
          rw [if_pos (show (isS x && ofD a2 x) = true by simp [q0, q]), if_neg (show ¬ (1 : Int32) = 0 by decide), q2, Option.bind_some]
          simp only [bndE, nI_1]
          by_cases q3 : rfP L S.1.1 x = true
          · rw [if_pos q3, if_neg (show ¬ (1 : Int32) = 0 by decide), if_pos q0, if_pos (show (ofD a2 x && rfP L S.1.1 x) = true by simp [q, q3])]
            exact ⟨d', hF.trans q1, rfl⟩
          · rw [if_neg q3, if_pos (show (0 : Int32) = 0 from rfl), if_pos q0, if_neg (show ¬ (ofD a2 x && rfP L S.1.1 x) = true by simp [q3]), Int32.add_zero]
            exact ⟨d', hF.trans q1, rfl⟩
        · rw [if_neg (show ¬ (isS x && ofD a2 x) = true by simp [q]), if_pos (show (0 : Int32) = 0 from rfl), if_pos q0, if_neg (show ¬ (ofD a2 x && rfP L S.1.1 x) = true by simp [q]), nI_1, bndE, Int32.add_zero]
          exact ⟨d, hF, rfl⟩
      · rw [if_neg (show ¬ (isS x && ofD a2 x) = true by simp [q0]), if_pos (show (0 : Int32) = 0 from rfl), if_neg q0, nI_1, bndE, Int32.add_zero]
        exact ⟨d, hF, rfl⟩)
    (fun f d hF => by
      simp only [lp_Mo_refused_28, j7, x7]
      rw [vts_n (RepM_T h ok hF), if_pos (nI_le (Nat.le_refl _) (by omega))]
      exact ⟨d, rfl, hF⟩) δ (fun _ _ _ => rfl)
  have e := fold_V (g := fun v x => if (ofD a2 x && rfP L S.1.1 x) = true then v + 1 else v) (tE S.1) (nI 0)
  rw [show (vts S).foldl (fun v x => if isS x = true then (if (ofD a2 x && rfP L S.1.1 x) = true then v + 1 else v) else v) (nI 0) = (sts S).foldl (fun v x => if (ofD a2 x && rfP L S.1.1 x) = true then v + 1 else v) (nI 0) from e, fold_cn, Nat.zero_add] at Q
  exact Q
/-- calls that leave all as it was -/
theorem mk_same {cf mf : Dm → Option (Int32 × Dm)} {n : Nat} {S : St} {v : Int32} (ok : Ok S) (h1 : ∀ δ, RepC δ n S → ∃ δ', cf δ = some (v, δ') ∧ δ'.1 = δ.1) (h2 : ∀ δ, RepM δ S → ∃ δ', mf δ = some (v, δ') ∧ FrT δ δ') : ∃ v S', (∀ δ, RepC δ n S → ∃ δ1, cf δ = some (v, δ1) ∧ RepC δ1 n S' ∧ KM δ δ1) ∧ (∀ δ, RepM δ S → ∃ δ2, mf δ = some (v, δ2) ∧ RepM δ2 S' ∧ KC δ δ2) ∧ Ok S' :=
  ⟨v, S, fun δ h => (h1 δ h).imp fun δ' q => ⟨q.1, RepC_E h ok q.2, KM_E q.2⟩, fun δ h => (h2 δ h).imp fun δ' q => ⟨q.1, RepM_T h ok q.2, KC_T q.2⟩, ok⟩
theorem op_refused (a1 a2 : Int32) : OpG (f_Fp_refused a1 a2) (f_Mo_refused a1 a2) := mk_op fun n S ok => by
  have k8 : S.1.1 2 ≤ 8 := ok.1.1.2.2.1
  have kl : (sJ S).length ≤ 8 := ok.2.1
  have l1 : ∀ δ, RepC δ n S → f_Fp_lawAt a1 δ = some (if inb a1 (sJ S).length then some (87 + 8 * ix a1) else none) := fun δ h => lawAt_eq kl h.2.1
  have l2 : ∀ δ, RepM δ S → f_Mo_isLaw a1 δ = some (bI (inb a1 (sJ S).length)) := fun δ h => isLaw_eq (by omega) h.2.1
  have b2 : ∀ δ, RepM δ S → f_Mo_isBooth a2 δ = some (bI (inb a2 (S.1.1 2))) := fun δ h => isBooth_eq (by omega) (mS h.1).2.2.1
  by_cases h1 : inb a1 (sJ S).length
  · obtain ⟨l, hl, rfl⟩ := inb_ex (by omega) h1
    obtain ⟨L, hL⟩ : ∃ L, (sJ S)[l]? = some L := ⟨_, List.getElem?_eq_getElem hl⟩
    by_cases h2 : a2 = -1 ∨ inb a2 (S.1.1 2)
    · refine mk_same (v := nI (cn (fun x => ofD a2 x && rfP L S.1.1 x) (sts S))) ok (fun δ h => ?_) (fun δ h => ?_)
      · obtain ⟨δ', q1, q2⟩ := refused_C (a1 := nI l) (a2 := a2) h ok hL
        refine ⟨δ', ?_, q2⟩
        simp only [f_Fp_refused, l1 δ h, if_pos h1, ixN (show l < 2147483648 by omega), Option.bind_some, ocs, if_pos (isL_at l (by omega)).1, orAll_eq h ok, if_pos h2]
        rw [if_neg (show ¬ (1 : Int32) = 0 by decide)]
        exact q1
      · obtain ⟨δ', q1, q2⟩ := refused_M (a1 := nI l) (a2 := a2) h ok hL rfl
        refine ⟨δ', ?_, q2⟩
        simp only [f_Mo_refused, jp_Mo_refused_23, l2 δ h, Option.bind_some, ifb, if_pos h1, b2 δ h]
        by_cases q : a2 = -1
        · rw [if_pos q]; exact q1
        · rw [if_neg q, if_pos (h2.resolve_left q)]; exact q1
    · refine nop (-1) ok (fun δ h => ?_) (fun δ h => ?_)
      · simp only [f_Fp_refused, l1 δ h, if_pos h1, ixN (show l < 2147483648 by omega), Option.bind_some, ocs, if_pos (isL_at l (by omega)).1, orAll_eq h ok, if_neg h2]
        rw [if_pos True.intro]
      · simp only [f_Mo_refused, l2 δ h, Option.bind_some, ifb, if_pos h1, b2 δ h]
        rw [if_neg (fun z => h2 (Or.inl z)), if_neg (fun z => h2 (Or.inr z))]
  · refine nop (-1) ok (fun δ h => ?_) (fun δ h => ?_)
    · simp only [f_Fp_refused, l1 δ h, if_neg h1, Option.bind_some, ocs]
    · simp only [f_Mo_refused, l2 δ h, Option.bind_some, ifb, if_neg h1]
/-- what newer heads would take -/
def nwG (L1 L2 : LawT) (G : Nat → Nat) (v : Int32) (x : Ev) : Int32 := v + ((if rfP L1 G x = true then nI (bc G (x 1) 1) else 0) - (if rfP L2 G x = true then nI (bc G (x 1) 1) else 0))
theorem i32_as (a b c : Int32) : a + b - c = a + (b - c) := by
  rw [Int32.sub_eq_add_neg, Int32.sub_eq_add_neg, Int32.add_assoc]
theorem newer_C {n l m : Nat} {a1 a2 : Int32} {δ : Dm} {S : St} {L L2 : LawT} (h : RepC δ n S) (ok : Ok S) (hL : (sJ S)[l]? = some L) (hL2 : (sJ S)[m]? = some L2) : ∃ δ', lp_Fp_newer_32 (fun v5_32x v6_32x δ32x => (some (v5_32x, δ32x))) a1 a2 (87 + 8 * l) (87 + 8 * m) FU 0 0 δ = some ((sts S).foldl (nwG L L2 S.1.1) 0, δ') ∧ δ'.1 = δ.1 := by
  have h4 := sts_le ok
  have k8 : S.1.1 2 ≤ 8 := ok.1.1.2.2.1
  refine mem_list (sts S) (by omega) (fun f i (a : Int32 × Dm) => lp_Fp_newer_32 (fun v5_32x v6_32x δ32x => (some (v5_32x, δ32x))) a1 a2 (87 + 8 * l) (87 + 8 * m) f a.1 i a.2) (nwG L L2 S.1.1) (fun d => d.1 = δ.1) (fun r => ∃ δ', r = some ((sts S).foldl (nwG L L2 S.1.1) 0, δ') ∧ δ'.1 = δ.1) 0 (fun f i x v d hx hF => ?_) (fun f d hF => ?_) δ rfl
  · have hC := RepC_E h ok hF
    obtain ⟨m0, m1, m2, m3, m4, m5, m6, m7⟩ := sts_m ok hx
    have g : gI d 34 0 = nI (sts S).length := by rw [← sts_n ok]; exact (cG hC.1).2.2.2.1
    obtain ⟨d1, q1, q2⟩ := isRefC hC ok hx hL
    have hC1 := RepC_E hC ok q1
    obtain ⟨d2, r1, r2⟩ := isRefC hC1 ok hx hL2
    have hC2 := RepC_E hC1 ok r1
    have p1 : gI d1 (54 + 4 * x 1) 1 = nI (bc S.1.1 (x 1) 1) := cBs 1 1 rfl hC1 (by omega) (by decide) (by decide)
    have p2 : gI d2 (54 + 4 * x 1) 1 = nI (bc S.1.1 (x 1) 1) := cBs 1 1 rfl hC2 (by omega) (by decide) (by decide)
    refine ⟨d2, r1.trans (q1.trans hF), ?_⟩
    simp only [lp_Fp_newer_32, jp_Fp_newer_100]
    rw [g, if_neg (nI_ge (idx_lt hx) (by omega)), get_in (show (KD 35).2 = 400 by decide) m7, show gI d 35 i = nI (x 1) from (hC.1.2.1 i x hx).1, Option.bind_some, boothAt_eq k8 (cG hC.1).2.2.1, if_pos (inb_i m1 (by omega)), ixN (show x 1 < 2147483648 by omega)]
    simp only [Option.bind_some, ocs, if_pos (isB_at _ (show x 1 < 8 by omega)).1]
    rw [q2, Option.bind_some]
    simp only [bndE]
    unfold nwG
    by_cases z1 : rfP L S.1.1 x = true
    · rw [if_pos z1, if_pos z1, if_neg (show ¬ (1 : Int32) = 0 by decide), r2, Option.bind_some]
      simp only [bndE]
      by_cases z2 : rfP L2 S.1.1 x = true
      · rw [if_pos z2, if_pos z2, if_neg (show ¬ (1 : Int32) = 0 by decide), p1, p2, i32_as, nI_1]
      · rw [if_neg z2, if_neg z2, if_pos (show (0 : Int32) = 0 from rfl), p1, i32_as, nI_1]
    · rw [if_neg z1, if_neg z1, if_pos (show (0 : Int32) = 0 from rfl), r2, Option.bind_some]
      simp only [bndE]
      by_cases z2 : rfP L2 S.1.1 x = true
      · rw [if_pos z2, if_pos z2, if_neg (show ¬ (1 : Int32) = 0 by decide), p2, i32_as, nI_1]
      · rw [if_neg z2, if_neg z2, if_pos (show (0 : Int32) = 0 from rfl), i32_as, nI_1]
  · have g : gI d 34 0 = nI (sts S).length := by rw [← sts_n ok]; exact (cG (RepC_E h ok hF).1).2.2.2.1
    simp only [lp_Fp_newer_32]
    rw [g, if_pos (nI_le (Nat.le_refl _) (by omega))]
    exact ⟨d, rfl, hF⟩
theorem ofD_m (x : Ev) : ofD (-1) x = true := ofD_i.mpr (Or.inl rfl)
theorem newer_M {l m : Nat} {a1 a2 : Int32} {δ : Dm} {S : St} {L L2 : LawT} (h : RepM δ S) (ok : Ok S) (hL : (sJ S)[l]? = some L) (hL2 : (sJ S)[m]? = some L2) (ha1 : a1 = nI l) (ha2 : a2 = nI m) : ∃ δ', lp_Mo_newer_25 (fun v3_25x v4_25x δ25x => (some (v3_25x, δ25x))) a1 a2 FU 0 0 δ = some ((sts S).foldl (nwG L L2 S.1.1) 0, δ') ∧ FrT δ δ' := by
  subst ha1; subst ha2
  have h5 : (vts S).length ≤ 500 := okV ok.1
  have k8 : S.1.1 2 ≤ 8 := ok.1.1.2.2.1
  have e := fold_V (g := nwG L L2 S.1.1) (tE S.1) 0
  rw [← show (vts S).foldl (fun v x => if isS x = true then nwG L L2 S.1.1 v x else v) 0 = (sts S).foldl (nwG L L2 S.1.1) 0 from e]
  refine mem_list (vts S) (by omega) (fun f i (a : Int32 × Dm) => lp_Mo_newer_25 (fun v3_25x v4_25x δ25x => (some (v3_25x, δ25x))) (nI l) (nI m) f a.1 i a.2) (fun v x => if isS x = true then nwG L L2 S.1.1 v x else v) (fun d => FrT δ d) (fun r => ∃ δ', r = some ((vts S).foldl (fun v x => if isS x = true then nwG L L2 S.1.1 v x else v) 0, δ') ∧ FrT δ δ') 0 (fun f i x v d hx hF => ?_) (fun f d hF => ?_) δ (fun _ _ _ => rfl)
  · have hC := RepM_T h ok hF
    obtain ⟨m1, m2, m3, m4, m5, m6, m7⟩ := vts_m ok hx
    simp only [lp_Mo_newer_25, jp_Mo_newer_77, j7, x7]
    rw [vts_n hC, if_neg (nI_ge (idx_lt hx) (by omega)), isStrip_eq hC ok hx, Option.bind_some]
    by_cases q0 : isS x = true
    · obtain ⟨d1, q1, q2⟩ := isRefM hC ok hx hL
      have hC1 := RepM_T hC ok q1
      obtain ⟨d2, r1, r2⟩ := isRefM hC1 ok hx hL2
      have hC2 := RepM_T hC1 ok r1
      have e1 : f_Mo_event (nI i) 1 d1 = some (nI (x 1)) := event_eq (j := 1) hC1 ok hx (by decide)
      have e2 : f_Mo_event (nI i) 1 d2 = some (nI (x 1)) := event_eq (j := 1) hC2 ok hx (by decide)
      have p1 : f_Mo_cell (nI (x 1)) 1 d1 = some (nI (bc S.1.1 (x 1) 1)) := rW (w := 1) (RGM_of hC1.1) (by omega) (by decide)
      have p2 : f_Mo_cell (nI (x 1)) 1 d2 = some (nI (bc S.1.1 (x 1) 1)) := rW (w := 1) (RGM_of hC2.1) (by omega) (by decide)
      refine ⟨d2, hF.trans (q1.trans r1), ?_⟩
      rw [if_pos (show (isS x && ofD (-1) x) = true by simp [q0, ofD_m]), if_neg (show ¬ (1 : Int32) = 0 by decide), q2, Option.bind_some, if_pos q0]
      simp only [bndE]
      unfold nwG
      by_cases z1 : rfP L S.1.1 x = true
      · rw [if_pos z1, if_pos z1, if_neg (show ¬ (1 : Int32) = 0 by decide), e1, Option.bind_some, p1, Option.bind_some, r2, Option.bind_some]
        by_cases z2 : rfP L2 S.1.1 x = true
        · rw [if_pos z2, if_pos z2, if_neg (show ¬ (1 : Int32) = 0 by decide), e2, Option.bind_some, p2, Option.bind_some, nI_1]
        · rw [if_neg z2, if_neg z2, if_pos (show (0 : Int32) = 0 from rfl), nI_1]
      · rw [if_neg z1, if_neg z1, if_pos (show (0 : Int32) = 0 from rfl), r2, Option.bind_some]
        by_cases z2 : rfP L2 S.1.1 x = true
        · rw [if_pos z2, if_pos z2, if_neg (show ¬ (1 : Int32) = 0 by decide), e2, Option.bind_some, p2, Option.bind_some, nI_1]
        · rw [if_neg z2, if_neg z2, if_pos (show (0 : Int32) = 0 from rfl), nI_1]
    · rw [if_neg (show ¬ (isS x && ofD (-1) x) = true by simp [q0]), if_pos (show (0 : Int32) = 0 from rfl), if_neg q0, nI_1]
      exact ⟨d, hF, rfl⟩
  · simp only [lp_Mo_newer_25, j7, x7]
    rw [vts_n (RepM_T h ok hF), if_pos (nI_le (Nat.le_refl _) (by omega))]
    exact ⟨d, rfl, hF⟩
theorem op_newer (a1 a2 : Int32) : OpG (f_Fp_newer a1 a2) (f_Mo_newer a1 a2) := mk_op fun n S ok => by
  have kl : (sJ S).length ≤ 8 := ok.2.1
  have l1 : ∀ a δ, RepC δ n S → f_Fp_lawAt a δ = some (if inb a (sJ S).length then some (87 + 8 * ix a) else none) := fun a δ h => lawAt_eq kl h.2.1
  have l2 : ∀ a δ, RepM δ S → f_Mo_isLaw a δ = some (bI (inb a (sJ S).length)) := fun a δ h => isLaw_eq (by omega) h.2.1
  by_cases h1 : inb a1 (sJ S).length
  · obtain ⟨l, hl, rfl⟩ := inb_ex (by omega) h1
    obtain ⟨L, hL⟩ : ∃ L, (sJ S)[l]? = some L := ⟨_, List.getElem?_eq_getElem hl⟩
    by_cases h2 : inb a2 (sJ S).length
    · obtain ⟨m, hm, rfl⟩ := inb_ex (by omega) h2
      obtain ⟨L2, hL2⟩ : ∃ L, (sJ S)[m]? = some L := ⟨_, List.getElem?_eq_getElem hm⟩
      refine mk_same (v := (sts S).foldl (nwG L L2 S.1.1) 0) ok (fun δ h => ?_) (fun δ h => ?_)
      · obtain ⟨δ', q1, q2⟩ := newer_C (a1 := nI l) (a2 := nI m) h ok hL hL2
        refine ⟨δ', ?_, q2⟩
        simp only [f_Fp_newer, l1 _ δ h, if_pos h1, if_pos h2, ixN (show l < 2147483648 by omega), ixN (show m < 2147483648 by omega), Option.bind_some, ocs, if_pos (isL_at l (by omega)).1, if_pos (isL_at m (by omega)).1]
        exact q1
      · obtain ⟨δ', q1, q2⟩ := newer_M (a1 := nI l) (a2 := nI m) h ok hL hL2 rfl rfl
        refine ⟨δ', ?_, q2⟩
        simp only [f_Mo_newer, l2 _ δ h, Option.bind_some, ifb, if_pos h1, if_pos h2]
        exact q1
    · refine nop (-1000000000) ok (fun δ h => ?_) (fun δ h => ?_)
      · simp only [f_Fp_newer, l1 _ δ h, if_pos h1, if_neg h2, ixN (show l < 2147483648 by omega), Option.bind_some, ocs, if_pos (isL_at l (by omega)).1]
      · simp only [f_Mo_newer, l2 _ δ h, Option.bind_some, ifb, if_pos h1, if_neg h2]
  · refine nop (-1000000000) ok (fun δ h => ?_) (fun δ h => ?_)
    · simp only [f_Fp_newer, l1 _ δ h, if_neg h1, Option.bind_some, ocs]
      by_cases h2 : inb a2 (sJ S).length
      · obtain ⟨m, hm, rfl⟩ := inb_ex (by omega) h2
        simp only [if_pos h2, ixN (show m < 2147483648 by omega), ocs, if_pos (isL_at m (by omega)).1]
      · simp only [if_neg h2, ocs]
    · simp only [f_Mo_newer, l2 _ δ h, Option.bind_some, ifb, if_neg h1]
