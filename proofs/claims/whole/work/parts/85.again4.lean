/-! the class runs all again, and counts -/
def FrZ (δ d : Dm) : Prop := ∀ c j, c ≠ 23 → c ≠ 24 → gI d c j = gI δ c j
theorem RepC_Z {n : Nat} {δ d : Dm} {S : St} (h : RepC δ n S) (ok : Ok S) (e : FrZ δ d) : RepC d n S := RepC_keep h ok.2.1 (fun b j q => e b j (by omega) (by omega))
theorem st_ex {S : St} {s : Nat} {x : Ev} (hx : (sts S)[s]? = some x) : ∃ e, (tE S.1)[e]? = some x ∧ x 0 = 0 ∧ siN S e = s := by
  have main : ∀ n, n ≤ (tE S.1).length → s < siN S n → ∃ e y, (tE S.1)[e]? = some y ∧ y 0 = 0 ∧ siN S e = s := by
    intro n
    induction n with
    | zero => intro _ h; exact absurd h (Nat.not_lt_zero _)
    | succ n ih =>
      intro hn h
      obtain ⟨y, hy⟩ : ∃ y, (tE S.1)[n]? = some y := ⟨_, List.getElem?_eq_getElem (by omega)⟩
      have q := si_s hy
      by_cases z : s < siN S n
      · exact ih (by omega) z
      · by_cases h0 : y 0 = 0
        · rw [if_pos h0] at q
          exact ⟨n, y, hy, h0, by omega⟩
        · rw [if_neg h0] at q; omega
  have hl : siN S (tE S.1).length = (sts S).length := by
    show (((tE S.1).take (tE S.1).length).filter isS).length = _
    rw [List.take_length]
  obtain ⟨e, y, h1, h2, h3⟩ := main (tE S.1).length (Nat.le_refl _) (by rw [hl]; exact idx_lt hx)
  have := si_at h1 h2
  rw [h3, hx] at this
  have := Option.some.inj this
  subst this
  exact ⟨e, h1, h2, h3⟩
def wiM (L : LawT) (S : St) (b k0 f : Nat) (d : Dm) : Prop := ∀ e x, (tE S.1)[e]? = some x → x 0 = 0 → x 1 = b → (∀ j, j < 3 → (tbI (gI d 23 (siN S e)) j ↔ nI (mW L S b k0 f j (Vp S e) (x 2)) < L.2 j)) ∧ gI d 24 (siN S e) = nI (besP L (evW S b x))
theorem wiM_s {L : LawT} {S : St} {b k0 f f' : Nat} {d d' : Dm} (h : wiM L S b k0 f' d) (hf : f ≤ f') (h2 : mkd L S b k0 f d d' (tE S.1).length) (h3 : FrW d d') : wiM L S b k0 f d' := fun e x hx h0 hb => by
  obtain ⟨q1, q2⟩ := h e x hx h0 hb
  refine ⟨fun j hj => ?_, by rw [h3 24 _ (by decide)]; exact q2⟩
  rw [h2 e x (idx_lt hx) hx h0 hb j hj]
  unfold mW
  by_cases z : j = k0 ∧ f ≤ x 2
  · rw [if_pos z, if_pos z, z.1]
  · rw [if_neg z, if_neg z, q1 j hj]
    unfold mW
    rw [if_neg (fun w => z ⟨w.1, by omega⟩)]
theorem wiM_4 {L : LawT} {S : St} {b k0 : Nat} {d : Dm} (ok : Ok S) (h : wiM L S b 3 0 d) : wiM L S b k0 400 d := fun e x hx h0 hb => by
  obtain ⟨q1, q2⟩ := h e x hx h0 hb
  have k00 : S.1.1 0 < 400 := ok.1.1.1
  have m2 : x 2 ≤ S.1.1 0 := (ok.1.2.2.2.1.1 x (List.mem_of_getElem? hx)).2.2.1
  refine ⟨fun j hj => ?_, q2⟩
  rw [q1 j hj]
  unfold mW
  rw [if_neg (by omega), if_neg (by omega)]
theorem runAll_eq {n b l : Nat} {δ : Dm} {S : St} {L : LawT} (h : RepC δ n S) (ok : Ok S) (hb : b < S.1.1 2) (hL : (sJ S)[l]? = some L) : ∃ d, f_Rp_runAll (nI b) (87 + 8 * l) δ = some d ∧ FrZ δ d ∧ wiM L S b 3 0 d := by
  have k8 : S.1.1 2 ≤ 8 := ok.1.1.2.2.1
  have kl : (sJ S).length ≤ 8 := ok.2.1
  have hl := idx_lt hL
  have h4 := sts_le ok
  obtain ⟨n0, n1, n2, n3, n4, n5, n6, n7, n8, n9, n10, hb8, h12, h400⟩ := ok_nums ok hb
  have okL' : LOk L := ok.2.2.1 L (List.mem_of_getElem? hL)
  unfold f_Rp_runAll
  rw [boothAt_eq k8 (cG h.1).2.2.1, if_pos (inb_i hb (by omega)), ixN (show b < 2147483648 by omega)]
  simp only [Option.bind_some, ocs, if_pos (isB_at b hb8).1]
  refine for_inv (fun f s d => lp_Rp_runAll_22 (fun v7_22x δ22x => (lp_Rp_runAll_77 (fun v7_77x δ77x => (some δ77x)) (nI b) (87 + 8 * l) (54 + 4 * b) FU (0 : Int32) δ22x)) (nI b) (87 + 8 * l) (54 + 4 * b) f s d) (sts S).length (by omega) (fun s d => (∀ c j, c ≠ 24 → gI d c j = gI δ c j) ∧ ∀ s' x, s' < s → (sts S)[s']? = some x → x 1 = b → gI d 24 s' = nI (besP L (evW S b x))) (fun r => ∃ d, r = some d ∧ FrZ δ d ∧ wiM L S b 3 0 d) (fun f s d hs hI => ?_) (fun f d hI => ?_) 0 δ (Nat.zero_le _) ⟨fun _ _ _ => rfl, fun s' x hs' => absurd hs' (Nat.not_lt_zero _)⟩
  · obtain ⟨i1, i2⟩ := hI
    have hC := RepC_Z h ok (fun c j _ q => i1 c j q)
    have g : gI d 34 0 = nI (sts S).length := by rw [← sts_n ok]; exact (cG hC.1).2.2.2.1
    obtain ⟨x, hx⟩ : ∃ x, (sts S)[s]? = some x := ⟨_, List.getElem?_eq_getElem hs⟩
    simp only [lp_Rp_runAll_22]
    rw [g, if_neg (nI_ge hs (by omega)), isOf_eq hC ok hx, Option.bind_some, nI_1]
    obtain ⟨e, e1, e2, e3⟩ := st_ex hx
    have m1 := (sts_m ok hx).2.1
    by_cases q : ofD (nI b) x = true
    · have hxb : x 1 = b := by
        rcases ofD_i.mp q with w | w
        · exact absurd w (nI_nm1 (by omega))
        · exact (nI_eq (by omega) (by omega)).mp w
      obtain ⟨d1, o1, o2, o3⟩ := openS_eq hC ok hb e1 e2
      rw [e3] at o3
      obtain ⟨d2, p1, p2⟩ := besC (w := evW S b x) (LC_E o1 (hC.2.2.1 l L hL)) okL' (LKd_l (by omega)) o2
      have E2 : d2.1 = d.1 := p1.1.trans o1
      rw [if_pos q, if_neg (show ¬ (1 : Int32) = 0 by decide), o3, Option.bind_some, p2, Option.bind_some]
      simp only [bndE]
      rw [put_in (show (KD 24).2 = 400 by decide) (by omega), Option.bind_some]
      refine ⟨sI d2 24 s (nI (besP L (evW S b x))), ⟨fun c j z => by rw [gsr z, gE E2]; exact i1 c j z, fun s' y hs' hy hyb => ?_⟩, rfl⟩
      by_cases z : s' = s
      · subst z
        rw [hx] at hy
        rw [gss, Option.some.inj hy]
      · rw [gsc z, gE E2]; exact i2 s' y (by omega) hy hyb
    · rw [if_neg q, if_pos (show (0 : Int32) = 0 from rfl)]
      refine ⟨d, ⟨i1, fun s' y hs' hy hyb => ?_⟩, rfl⟩
      by_cases z : s' = s
      · subst z
        rw [hx] at hy
        rw [← Option.some.inj hy] at hyb
        exact absurd (ofD_i.mpr (Or.inr (by rw [hyb]))) q
      · exact i2 s' y (by omega) hy hyb
  · obtain ⟨i1, i2⟩ := hI
    have hC := RepC_Z h ok (fun c j _ q => i1 c j q)
    have g : gI d 34 0 = nI (sts S).length := by rw [← sts_n ok]; exact (cG hC.1).2.2.2.1
    simp only [lp_Rp_runAll_22]
    rw [g, if_pos (nI_le (Nat.le_refl _) (by omega))]
    refine for_inv (fun f k d => lp_Rp_runAll_77 (fun v7_77x δ77x => (some δ77x)) (nI b) (87 + 8 * l) (54 + 4 * b) f k d) 3 (by decide) (fun k d' => FrW d d' ∧ ∀ e x, (tE S.1)[e]? = some x → x 0 = 0 → x 1 = b → ∀ j, j < k → j < 3 → (tbI (gI d' 23 (siN S e)) j ↔ nI (sAt L S b j (bc S.1.1 b 10) (Vp S e) (x 2)) < L.2 j)) (fun r => ∃ d, r = some d ∧ FrZ δ d ∧ wiM L S b 3 0 d) (fun f k d' hk hJ => ?_) (fun f d' hJ => ?_) 0 d (by decide) ⟨fun _ _ _ => rfl, fun e x _ _ _ j hj => absurd hj (Nat.not_lt_zero _)⟩
    · obtain ⟨j1, j2'⟩ := hJ
      have hC' := RepC_W hC ok j1
      obtain ⟨d2, p1, p2, p3⟩ := rb_eq hC' ok hb hL hk (Nat.le_refl _) (show bc S.1.1 b 10 < 400 by omega)
      refine ⟨d2, ⟨fun c j q => (p2 c j q).trans (j1 c j q), fun e x hx h0 hxb j hj1 hj3 => ?_⟩, ?_⟩
      · have m3 : bc S.1.1 b 10 ≤ x 2 := by rw [← hxb]; exact (ok.1.2.2.2.1.1 x (List.mem_of_getElem? hx)).2.2.2.1
        rw [p3 e x (idx_lt hx) hx h0 hxb j hj3]
        by_cases z : j = k
        · rw [if_pos ⟨z, m3⟩, z]
        · rw [if_neg (fun w => z w.1)]
          exact j2' e x hx h0 hxb j (by omega) hj3
      · simp only [lp_Rp_runAll_77]
        rw [if_neg (show ¬ (3 : Int32) ≤ nI k from nI_ge hk (by decide)), cBs 10 3 rfl hC' hb8 (by decide) (by decide), p1, Option.bind_some, nI_1]
    · obtain ⟨j1, j2'⟩ := hJ
      simp only [lp_Rp_runAll_77]
      rw [if_pos (show (3 : Int32) ≤ nI 3 by decide)]
      refine ⟨d', rfl, fun c j q1 q2 => (j1 c j q1).trans (i1 c j q2), fun e x hx h0 hxb => ⟨fun j hj => ?_, ?_⟩⟩
      · rw [j2' e x hx h0 hxb j hj hj]
        unfold mW
        rw [if_neg (by omega)]
      · rw [j1 24 _ (by decide)]
        exact i2 _ x (idx_lt (si_at hx h0)) (si_at hx h0) hxb
/-- by what it would be spoilt -/
def spW (L : LawT) (S : St) (b k0 f : Nat) (l : List Ev) (x : Ev) : Nat := spP L (evW S b x) (fun k => mW L S b k0 f k l (x 2))
theorem spoilerOf_eq {b k0 f e : Nat} {d : Dm} {S : St} {L : LawT} {x : Ev} (h : wiM L S b k0 f d) (ok : Ok S) (hx : (tE S.1)[e]? = some x) (h0 : x 0 = 0) (hb : x 1 = b) : f_Rp_spoilerOf (nI (siN S e)) d = some (nI (spW L S b k0 f (Vp S e) x)) := by
  have si4 : siN S e < 400 := (sts_m ok (si_at hx h0)).2.2.2.2.2.2.2
  obtain ⟨q1, q2⟩ := h e x hx h0 hb
  have h3 : 3 < FU := FU_gt (by decide)
  obtain ⟨F, hF⟩ : ∃ F, FU = F + 1 + 1 + 1 + 1 := ⟨FU - 4, by omega⟩
  have bt : ∀ (y : Int32) (j : Nat) {α : Type} (A B : α), j < 3 → (if ((y >>> (nI j &&& 31)) &&& 1) = 1 then A else B) = if tbI y j then A else B := fun y j α A B hj => by
    by_cases z : tbI y j
    · rw [if_pos z, if_pos ((tbI_t hj).mpr z)]
    · rw [if_neg z, if_neg (fun w => z ((tbI_t hj).mp w))]
  unfold f_Rp_spoilerOf spW spP
  rw [get_in (show (KD 23).2 = 400 by decide) si4, Option.bind_some, hF, show (0 : Int32) = nI 0 from rfl]
  simp only [lp_Rp_spoilerOf_11]
  rw [if_neg (show ¬ (3 : Int32) ≤ nI 0 by decide), bt _ 0 _ _ (by decide)]
  by_cases z0 : tbI (gI d 23 (siN S e)) 0
  · rw [if_pos z0, if_pos ((q1 0 (by decide)).mp z0)]; rfl
  rw [if_neg z0, if_neg (fun w => z0 ((q1 0 (by decide)).mpr w)), if_neg (show ¬ (3 : Int32) ≤ nI 0 + 1 by decide), show nI 0 + 1 = nI 1 from rfl, bt _ 1 _ _ (by decide)]
  by_cases z1 : tbI (gI d 23 (siN S e)) 1
  · rw [if_pos z1, if_pos ((q1 1 (by decide)).mp z1)]; rfl
  rw [if_neg z1, if_neg (fun w => z1 ((q1 1 (by decide)).mpr w)), if_neg (show ¬ (3 : Int32) ≤ nI 1 + 1 by decide), show nI 1 + 1 = nI 2 from rfl, bt _ 2 _ _ (by decide)]
  by_cases z2 : tbI (gI d 23 (siN S e)) 2
  · rw [if_pos z2, if_pos ((q1 2 (by decide)).mp z2)]; rfl
  rw [if_neg z2, if_neg (fun w => z2 ((q1 2 (by decide)).mpr w)), if_pos (show (3 : Int32) ≤ nI 2 + 1 by decide), get_in (show (KD 24).2 = 400 by decide) si4, q2, Option.bind_some]
/-- how many of the booth -/
def qB (L : LawT) (S : St) (b k0 f : Nat) (c : Nat → Bool) (e : Nat) : Bool := match (tE S.1)[e]? with
  | some x => decide (x 0 = 0) && (decide (x 1 = b) && c (spW L S b k0 f (Vp S e) x))
  | none => false
theorem qB_k {L : LawT} {S : St} {b k0 f : Nat} {c : Nat → Bool} {e : Nat} : ∀ e', e ≤ e' → e' ≤ (tE S.1).length → siN S e = siN S e' → cntN (qB L S b k0 f c) e = cntN (qB L S b k0 f c) e' := by
  intro e'
  induction e' with
  | zero => intro h _ _; rw [show e = 0 by omega]
  | succ e' ih =>
    intro h hl hs
    by_cases z : e = e' + 1
    · rw [z]
    · obtain ⟨y, hy⟩ : ∃ y, (tE S.1)[e']? = some y := ⟨_, List.getElem?_eq_getElem (by omega)⟩
      have q := si_s hy
      have m := si_m (S := S) (show e ≤ e' by omega)
      have h0 : ¬ y 0 = 0 := fun w => by rw [if_pos w] at q; omega
      rw [if_neg h0] at q
      rw [ih (by omega) (by omega) (by omega), cntN, if_neg]
      · rfl
      · unfold qB; rw [hy]; simp [h0]
theorem tal_step {L : LawT} {S : St} {b k0 f s e : Nat} {c : Nat → Bool} {x : Ev} {v v' : Int32} (hx : (tE S.1)[e]? = some x) (h0 : x 0 = 0) (hs : siN S e = s) (hI : ∀ e, e ≤ (tE S.1).length → siN S e = s → v = nI (cntN (qB L S b k0 f c) e)) (hv : v' = if (decide (x 1 = b) && c (spW L S b k0 f (Vp S e) x)) = true then v + 1 else v) : ∀ e', e' ≤ (tE S.1).length → siN S e' = s + 1 → v' = nI (cntN (qB L S b k0 f c) e') := by
  intro e' hl he
  have he1 := idx_lt hx
  have q := si_s hx
  rw [if_pos h0] at q
  have hlt : e + 1 ≤ e' := by
    refine Nat.le_of_not_lt fun z => ?_
    have := si_m (S := S) (show e' ≤ e by omega)
    omega
  rw [← qB_k e' hlt hl (by omega), cntN, hv, hI e (by omega) hs]
  have eq : qB L S b k0 f c e = (decide (x 1 = b) && c (spW L S b k0 f (Vp S e) x)) := by
    unfold qB; rw [hx]; simp [h0]
  rw [eq]
  split
  · rw [nI_1]
  · rfl
theorem tally_eq {n b k0 f by' : Nat} {d : Dm} {S : St} {L : LawT} (h : RepC d n S) (ok : Ok S) (hb : b < S.1.1 2) (hw : wiM L S b k0 f d) (hby : by' < 6) : f_Rp_tally (nI b) (nI by') d = some (nI (cntN (qB L S b k0 f (fun v => decide (v = by'))) (tE S.1).length)) := by
  have h4 := sts_le ok
  have k8 : S.1.1 2 ≤ 8 := ok.1.1.2.2.1
  have g : gI d 34 0 = nI (sts S).length := by rw [← sts_n ok]; exact (cG h.1).2.2.2.1
  unfold f_Rp_tally
  refine for_inv (fun g s (v : Int32) => lp_Rp_tally_6 (fun v4_6x v5_6x => (some v4_6x)) (nI b) (nI by') d g v s) (sts S).length (by omega) (fun s v => ∀ e, e ≤ (tE S.1).length → siN S e = s → v = nI (cntN (qB L S b k0 f (fun v => decide (v = by'))) e)) (fun r => r = some (nI (cntN (qB L S b k0 f (fun v => decide (v = by'))) (tE S.1).length))) (fun g' s v hs hI => ?_) (fun g' v hI => ?_) 0 0 (Nat.zero_le _) (fun e he hs => by rw [← qB_k e (Nat.zero_le _) he (by rw [hs]; rfl)]; rfl)
  · obtain ⟨x, hx⟩ : ∃ x, (sts S)[s]? = some x := ⟨_, List.getElem?_eq_getElem hs⟩
    obtain ⟨e, e1, e2, e3⟩ := st_ex hx
    have m1 := (sts_m ok hx).2.1
    refine ⟨_, tal_step e1 e2 e3 hI rfl, ?_⟩
    simp only [lp_Rp_tally_6]
    rw [g, if_neg (nI_ge hs (by omega)), isOf_eq h ok hx, Option.bind_some, nI_1]
    by_cases q : x 1 = b
    · rw [if_pos (ofD_i.mpr (Or.inr (by rw [q]))), if_neg (show ¬ (1 : Int32) = 0 by decide)]
      have sp := spoilerOf_eq hw ok e1 e2 q
      rw [e3] at sp
      rw [sp, Option.bind_some]
      have l5 : spW L S b k0 f (Vp S e) x ≤ 5 := spP_le
      by_cases z : spW L S b k0 f (Vp S e) x = by'
      · rw [if_pos (by rw [z]), if_pos (by simp [q, z])]
      · rw [if_neg (fun w => z ((nI_eq (by omega) (by omega)).mp w)), if_neg (by simp [z])]
    · rw [if_neg (fun w => (ofD_i.mp w).elim (nI_nm1 (by omega)) (fun u => q ((nI_eq (by omega) (by omega)).mp u))), if_pos (show (0 : Int32) = 0 from rfl), if_neg (by simp [q])]
  · simp only [lp_Rp_tally_6]
    rw [g, if_pos (nI_le (Nat.le_refl _) (by omega)), hI (tE S.1).length (Nat.le_refl _) (by show (((tE S.1).take (tE S.1).length).filter isS).length = _; rw [List.take_length])]
theorem tallyS_eq {n b k0 f : Nat} {d : Dm} {S : St} {L : LawT} (h : RepC d n S) (ok : Ok S) (hb : b < S.1.1 2) (hw : wiM L S b k0 f d) : f_Rp_tallySpoilt (nI b) d = some (nI (cntN (qB L S b k0 f (fun v => decide (v ≠ 0))) (tE S.1).length)) := by
  have h4 := sts_le ok
  have k8 : S.1.1 2 ≤ 8 := ok.1.1.2.2.1
  have g : gI d 34 0 = nI (sts S).length := by rw [← sts_n ok]; exact (cG h.1).2.2.2.1
  unfold f_Rp_tallySpoilt
  refine for_inv (fun g s (v : Int32) => lp_Rp_tallySpoilt_5 (fun v4_6x v5_6x => (some v4_6x)) (nI b) d g v s) (sts S).length (by omega) (fun s v => ∀ e, e ≤ (tE S.1).length → siN S e = s → v = nI (cntN (qB L S b k0 f (fun v => decide (v ≠ 0))) e)) (fun r => r = some (nI (cntN (qB L S b k0 f (fun v => decide (v ≠ 0))) (tE S.1).length))) (fun g' s v hs hI => ?_) (fun g' v hI => ?_) 0 0 (Nat.zero_le _) (fun e he hs => by rw [← qB_k e (Nat.zero_le _) he (by rw [hs]; rfl)]; rfl)
  · obtain ⟨x, hx⟩ : ∃ x, (sts S)[s]? = some x := ⟨_, List.getElem?_eq_getElem hs⟩
    obtain ⟨e, e1, e2, e3⟩ := st_ex hx
    have m1 := (sts_m ok hx).2.1
    refine ⟨_, tal_step e1 e2 e3 hI rfl, ?_⟩
    simp only [lp_Rp_tallySpoilt_5]
    rw [g, if_neg (nI_ge hs (by omega)), isOf_eq h ok hx, Option.bind_some, nI_1]
    by_cases q : x 1 = b
    · rw [if_pos (ofD_i.mpr (Or.inr (by rw [q]))), if_neg (show ¬ (1 : Int32) = 0 by decide)]
      have sp := spoilerOf_eq hw ok e1 e2 q
      rw [e3] at sp
      rw [sp, Option.bind_some]
      have l5 : spW L S b k0 f (Vp S e) x ≤ 5 := spP_le
      by_cases z : spW L S b k0 f (Vp S e) x = 0
      · rw [if_pos (show nI (spW L S b k0 f (Vp S e) x) = 0 by rw [z]; rfl), if_neg (by simp [z])]
      · rw [if_neg (nI_ne0 (by omega) (by omega)), if_pos (by simp [q, z])]
    · rw [if_neg (fun w => (ofD_i.mp w).elim (nI_nm1 (by omega)) (fun u => q ((nI_eq (by omega) (by omega)).mp u))), if_pos (show (0 : Int32) = 0 from rfl), if_neg (by simp [q])]
  · simp only [lp_Rp_tallySpoilt_5]
    rw [g, if_pos (nI_le (Nat.le_refl _) (by omega)), hI (tE S.1).length (Nat.le_refl _) (by show (((tE S.1).take (tE S.1).length).filter isS).length = _; rw [List.take_length])]
