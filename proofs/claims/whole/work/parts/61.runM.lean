/-! a row of code run, the reference's way -/
def FrM (δ δ' : Dm) : Prop := (∀ b j, ¬ (b = 151 ∧ j = 19) → gI δ' b j = gI δ b j) ∧ ∀ j, gL δ' 161 j = gL δ 161 j
theorem FrM.refl (δ : Dm) : FrM δ δ := ⟨fun _ _ _ => rfl, fun _ => rfl⟩
theorem FrM.trans {a b c : Dm} (h : FrM a b) (k : FrM b c) : FrM a c := ⟨fun x j q => (k.1 x j q).trans (h.1 x j q), fun j => (k.2 j).trans (h.2 j)⟩
theorem FrM_t {δ : Dm} {v : Int32} : FrM δ (sI δ 151 19 v) := ⟨fun b j q => by rw [gs, if_neg q], fun _ => rfl⟩
theorem FrM_l {δ : Dm} {k : Nat} {v : Int64} : FrM δ (sL δ 160 k v) := ⟨fun _ _ _ => rfl, fun j => by rw [gLL, if_neg (by omega)]⟩
theorem pushM {d : Nat} {v : Int64} {δ : Dm} (h : d < 64) (ht : gI δ 151 19 = nI d) : f_Mo_push v δ = some (sI (sL δ 160 d v) 151 19 (nI (d + 1))) := by
  unfold f_Mo_push
  rw [ht, if_pos (inb_i h (by decide)), ixN (by omega)]
  simp only [bndE, gIs, ht, nI_1]
theorem popM {d : Nat} {δ : Dm} (h : d < 64) (ht : gI δ 151 19 = nI (d + 1)) : f_Mo_pop δ = some (gL δ 160 d, sI δ 151 19 (nI d)) := by
  unfold f_Mo_pop
  rw [ht, nI_pred]
  simp only [bndE, gss]
  rw [if_pos (inb_i h (by decide)), ixN (by omega), gLs]
theorem one_eq {o : Int32} {x y : Int64} {δ : Dm} (h : op2 o) : f_Mo_one (nI (rsg o)) x y δ = some (bop o x y) := by
  unfold f_Mo_one
  rcases h with rfl | rfl | rfl | rfl | rfl | rfl | rfl | rfl | rfl | rfl | rfl
  · rw [show rsg (-20) = 12 by decide]
    rw [if_neg (by decide), if_neg (by decide), if_neg (by decide), if_neg (by decide), if_neg (by decide), if_neg (by decide), if_neg (by decide), if_neg (by decide), if_neg (by decide), if_neg (by decide), if_pos (by decide), bop_20]
  · rw [show rsg (-19) = 13 by decide]
    rw [if_neg (by decide), if_neg (by decide), if_neg (by decide), if_neg (by decide), if_neg (by decide), if_neg (by decide), if_neg (by decide), if_neg (by decide), if_neg (by decide), if_neg (by decide), if_neg (by decide), bop_19]
  · rw [show rsg (-23) = 2 by decide, if_pos (by decide), bop_23]
  · rw [show rsg (-24) = 3 by decide, if_neg (by decide), if_pos (by decide), bop_24]
  · rw [show rsg (-25) = 4 by decide, if_neg (by decide), if_neg (by decide), if_pos (by decide), bop_25]
  · rw [show rsg (-26) = 5 by decide, if_neg (by decide), if_neg (by decide), if_neg (by decide), if_pos (by decide), bop_26, c_eq]
    by_cases q : y = 0
    · rw [if_pos q, if_pos q]
    · rw [if_neg q, if_neg q, if_neg q]
  · rw [show rsg (-27) = 6 by decide, if_neg (by decide), if_neg (by decide), if_neg (by decide), if_neg (by decide), if_pos (by decide), bop_27, c_lt]
    split <;> rfl
  · rw [show rsg (-28) = 7 by decide, if_neg (by decide), if_neg (by decide), if_neg (by decide), if_neg (by decide), if_neg (by decide), if_pos (by decide), bop_28, c_le]
    split <;> rfl
  · rw [show rsg (-29) = 8 by decide, if_neg (by decide), if_neg (by decide), if_neg (by decide), if_neg (by decide), if_neg (by decide), if_neg (by decide), if_pos (by decide), bop_29, c_eq]
    split <;> rfl
  · rw [show rsg (-30) = 9 by decide, if_neg (by decide), if_neg (by decide), if_neg (by decide), if_neg (by decide), if_neg (by decide), if_neg (by decide), if_neg (by decide), if_pos (by decide), bop_30, c_ge]
    split <;> rfl
  · rw [show rsg (-31) = 10 by decide, if_neg (by decide), if_neg (by decide), if_neg (by decide), if_neg (by decide), if_neg (by decide), if_neg (by decide), if_neg (by decide), if_neg (by decide), if_pos (by decide), bop_31, c_gt]
    split <;> rfl
theorem rsg_2 {o : Int32} (h : op2 o) : rsg o % 16 = rsg o ∧ rsg o < 16 ∧ rsg o ≠ 0 ∧ rsg o ≠ 1 ∧ rsg o ≠ 11 := by
  rcases h with rfl | rfl | rfl | rfl | rfl | rfl | rfl | rfl | rfl | rfl | rfl <;> decide
/-- one step of the reference -/
theorem stepM {w : Nat → Int64} {o : Int32} {s : List Int64} {e : Nat} {δ : Dm} (K : Dm → Option (Int64 × Dm)) (hd : dpt o s.length e) (he : e ≤ 60) (hl : s.length ≤ 60) (ht : gI δ 151 19 = nI s.length) (hs : Stk 160 δ s) (hw : ∀ k, k < 9 → gL δ 161 k = w k) :
    ∃ δ1, FrM δ δ1 ∧ gI δ1 151 19 = nI e ∧ Stk 160 δ1 (st1 w s o) ∧ (st1 w s o).length = e ∧ rsg o < 2000000 ∧
    (if nI (rsg o % 16) = 0 then ((f_Mo_push ((nI (rsg o / 16)).toInt64) δ).bind (fun y58 => K y58)) else (if nI (rsg o % 16) = (1 : Int32) then (if inb (nI (rsg o / 16)) 9 then ((f_Mo_push (gL δ 161 (ix (nI (rsg o / 16)))) δ).bind (fun y78 => K y78)) else none) else (if nI (rsg o % 16) = (11 : Int32) then ((f_Mo_pop δ).bind (fun y94 => bnd y94.1 (fun v94 => bnd y94.2 (fun δ_94 => ((f_Mo_push ((1 : Int64) - v94) δ_94).bind (fun y98 => K y98)))))) else ((f_Mo_pop δ).bind (fun y105 => bnd y105.1 (fun v105 => bnd y105.2 (fun δ_105 => ((f_Mo_pop δ_105).bind (fun y111 => bnd y111.1 (fun v111 => bnd y111.2 (fun δ_111 => ((f_Mo_one (nI (rsg o % 16)) v111 v105 δ_111).bind (fun y123 => ((f_Mo_push y123 δ_111).bind (fun y126 => K y126))))))))))))))) = K δ1 := by
  obtain ⟨hk, hd⟩ := hd
  rcases opk_c hk with ⟨k, hk, rfl⟩ | ⟨k, hk, q, q1, q2⟩ | rfl | q
  · have p1 : -10 < nI k := by
      rw [lt32, nI_toInt (by omega), show (-10 : Int32).toInt = -10 by decide]; omega
    have h1 : e = s.length + 1 := by
      rcases hd with h | h | h
      · exact h.2
      · rw [h.1] at p1; exact absurd p1 (by decide)
      · exact absurd p1 h.1
    subst h1
    have r1 : rsg (nI k) = 16 * k := by
      unfold rsg
      rw [if_pos (nI_pos' (by omega)), ixN (by omega)]
    have e1 : st1 w s (nI k) = (nI k).toInt64 :: s := by
      unfold st1
      rw [if_pos (nI_pos' (by omega))]
    rw [e1, r1, show 16 * k % 16 = 0 by omega, show 16 * k / 16 = k by omega]
    refine ⟨sI (sL δ 160 s.length (nI k).toInt64) 151 19 (nI (s.length + 1)), FrM_l.trans FrM_t, gss, Stk_i ⟨by rw [gLL, if_pos ⟨rfl, rfl⟩], Stk_s hs (Nat.le_refl _)⟩, rfl, by omega, ?_⟩
    rw [if_pos (show nI 0 = 0 from rfl), pushM (by omega) ht, Option.bind_some]
  · have h1 : e = s.length + 1 := by
      rcases hd with h | h | h
      · exact h.2
      · rw [h.1] at q2; exact absurd q2 (by decide)
      · exact absurd q2 h.1
    subst h1
    have e1 : st1 w s o = w k :: s := by
      unfold st1
      rw [if_neg (Int32.not_le.mpr q1), if_pos q2, q, ixN (by omega)]
    have r1 : rsg o = 1 + 16 * k := by
      unfold rsg
      rw [if_neg (Int32.not_le.mpr q1), if_pos q2, q, ixN (by omega)]
    rw [e1, r1, show (1 + 16 * k) % 16 = 1 by omega, show (1 + 16 * k) / 16 = k by omega]
    refine ⟨sI (sL δ 160 s.length (w k)) 151 19 (nI (s.length + 1)), FrM_l.trans FrM_t, gss, Stk_i ⟨by rw [gLL, if_pos ⟨rfl, rfl⟩], Stk_s hs (Nat.le_refl _)⟩, rfl, by omega, ?_⟩
    rw [if_neg (show ¬ nI 1 = 0 by decide), if_pos (show nI 1 = 1 from rfl), if_pos (inb_i hk (by decide)), ixN (by omega), hw k hk, pushM (by omega) ht, Option.bind_some]
  · have h1 : 1 ≤ s.length ∧ e = s.length := by
      rcases hd with h | h | h
      · exact absurd h.1 (by decide)
      · exact h.2
      · exact absurd rfl h.2.1
    obtain ⟨h0, rfl⟩ := h1
    cases s with
    | nil => exact absurd h0 (by decide)
    | cons x r =>
      have r1 : rsg (-21) = 11 := by decide
      simp only [List.length_cons] at he ht ⊢
      have e1 : st1 w (x :: r) (-21) = (1 - x) :: r := rfl
      rw [e1, r1]
      refine ⟨sI (sL (sI δ 151 19 (nI r.length)) 160 r.length (1 - x)) 151 19 (nI (r.length + 1)), FrM_t.trans (FrM_l.trans FrM_t), gss, Stk_i ⟨by rw [gLL, if_pos ⟨rfl, rfl⟩], Stk_s (Stk_i hs.2) (Nat.le_refl _)⟩, rfl, by omega, ?_⟩
      rw [if_neg (show ¬ nI (11 % 16) = 0 by decide), if_neg (show ¬ nI (11 % 16) = 1 by decide), if_pos (show nI (11 % 16) = 11 from rfl), popM (by omega) ht, Option.bind_some]
      simp only [bndE]
      rw [hs.1, pushM (by omega) gss, Option.bind_some]
  · obtain ⟨f1, f2, f3, f4, f5, f6⟩ := op2_f q
    have h1 : 2 ≤ s.length ∧ e + 1 = s.length := by
      rcases hd with h | h | h
      · exact absurd h.1 f2
      · exact absurd h.1 f4
      · exact h.2.2
    obtain ⟨h0, h1⟩ := h1
    match s, h0, h1, hs, hl, ht with
    | x :: y :: r, h0, h1, hs, hl, ht =>
      simp only [List.length_cons] at h1 hl ht
      obtain rfl : e = r.length + 1 := by omega
      have e1 : st1 w (x :: y :: r) o = bop o y x :: r := by
        unfold st1
        rw [if_neg f3, if_neg f2]
        simp only []
        rw [if_neg f4]
      rw [e1]
      obtain ⟨hs1, hs2, hs3⟩ := hs
      simp only [List.length_cons] at hs1
      obtain ⟨r1, r2, r3, r4, r5⟩ := rsg_2 q
      rw [r1]
      refine ⟨sI (sL (sI (sI δ 151 19 (nI (r.length + 1))) 151 19 (nI r.length)) 160 r.length (bop o y x)) 151 19 (nI (r.length + 1)), FrM_t.trans (FrM_t.trans (FrM_l.trans FrM_t)), gss, Stk_i ⟨by rw [gLL, if_pos ⟨rfl, rfl⟩], Stk_s (Stk_i (Stk_i hs3)) (Nat.le_refl _)⟩, rfl, by omega, ?_⟩
      rw [if_neg (show ¬ nI (rsg o) = 0 from fun z => r3 ((nI_eq (b := 0) (by omega) (by decide)).mp z)), if_neg (show ¬ nI (rsg o) = 1 from fun z => r4 ((nI_eq (b := 1) (by omega) (by decide)).mp z)), if_neg (show ¬ nI (rsg o) = 11 from fun z => r5 ((nI_eq (b := 11) (by omega) (by decide)).mp z)), popM (by omega) ht, Option.bind_some]
      simp only [bndE]
      rw [popM (d := r.length) (by omega) gss, Option.bind_some]
      simp only [bndE, gLs]
      rw [hs1, hs2, one_eq q, Option.bind_some, pushM (by omega) gss, Option.bind_some]
theorem runM {t : Nat} {w : Nat → Int64} {kx : Int32 → Dm → Option (Int64 × Dm)} {A : Int32} (ht : t < 8) : ∀ (l : List Int32) (a d' : Nat) (s : List Int64) (δ : Dm) (f : Nat), l.length < f → a + l.length ≤ 400 → (∀ k o, l[k]? = some o → gI δ 154 (400 * t + (a + k)) = nI (rsg o)) → (∀ k, k < 9 → gL δ 161 k = w k) → s.length ≤ 60 → gI δ 151 19 = nI s.length → Stk 160 δ s → dps 60 l s.length d' →
    ∃ δ', FrM δ δ' ∧ gI δ' 151 19 = nI d' ∧ Stk 160 δ' (evs w l s) ∧ (evs w l s).length = d' ∧ lp_Mo_reckons_8 kx (nI t) A (nI (a + l.length)) f (nI a) δ = kx (nI (a + l.length)) δ' := by
  intro l
  induction l with
  | nil =>
    intro a d' s δ f hf ha hc hw hl h19 hs hd
    obtain ⟨g, rfl⟩ : ∃ g, f = g + 1 := ⟨f - 1, by simp at hf; omega⟩
    have hd : s.length = d' := hd
    rw [evs_nil]
    refine ⟨δ, FrM.refl δ, by rw [h19, hd], hs, hd, ?_⟩
    simp only [lp_Mo_reckons_8]
    rw [if_pos (nI_le (show a + ([] : List Int32).length ≤ a from Nat.le_refl _) (by simp at ha; omega))]; rfl
  | cons o l ih =>
    intro a d' s δ f hf ha hc hw hl h19 hs hd
    obtain ⟨g, rfl⟩ : ∃ g, f = g + 1 := ⟨f - 1, by omega⟩
    simp only [List.length_cons] at hf ha
    obtain ⟨e, hd1, he, hd2⟩ := hd
    obtain ⟨δ1, c1, c2, c3, c4, c6, c5⟩ := stepM (fun δ => lp_Mo_reckons_8 kx (nI t) A (nI (a + (l.length + 1))) g (nI a + 1) δ) hd1 he hl h19 hs hw
    rw [← c4] at hd2 c2
    obtain ⟨δ2, b1, b2, b3, b4, b5⟩ := ih (a + 1) d' (st1 w s o) δ1 g (by omega) (by omega) (fun k o' hk => by
      rw [c1.1 _ _ (by omega), show a + 1 + k = a + (k + 1) by omega]; exact hc (k + 1) o' hk) (fun k hk => by rw [c1.2]; exact hw k hk) (by omega) c2 c3 hd2
    rw [evs_cons]
    refine ⟨δ2, c1.trans b1, b2, b3, b4, ?_⟩
    have g0 : gI δ 154 (400 * t + a) = nI (rsg o) := hc 0 o rfl
    have k1 : nI (rsg o) &&& 15 = nI (rsg o % 16) := pk_andN (by omega) 4 (by decide)
    have k2 : nI (rsg o) >>> ((4 : Int32) &&& 31) = nI (rsg o / 16) := pk_shrN (by omega) _ 4 (by decide)
    simp only [lp_Mo_reckons_8, List.length_cons]
    rw [if_neg (nI_ge (show a < a + (l.length + 1) by omega) (by omega)), show ((400 : Int32) * nI t) + nI a = nI (400 * t + a) by rw [lit, pk_mul, nI_add], if_pos (inb_i (by omega) (by decide)), ixN (by omega), g0, k1, k2]
    simp only [bndE] at c5 ⊢
    rw [if_pos (inb_i (by omega) (by decide)), c5, nI_1, show a + (l.length + 1) = a + 1 + l.length by omega]
    exact b5
theorem reckons_eq {t a : Nat} {w : Nat → Int64} {l : List Int32} {δ : Dm} (ht : t < 8) (ha : a + l.length ≤ 400) (hc : ∀ k o, l[k]? = some o → gI δ 154 (400 * t + (a + k)) = nI (rsg o)) (hw : ∀ k, k < 9 → gL δ 161 k = w k) (hl : wfo l) : ∃ δ', FrM δ δ' ∧ f_Mo_reckons (nI t) (nI a) (nI (a + l.length)) δ = some (evl l w, δ') := by
  obtain ⟨δ', b1, b2, b3, b4, b5⟩ := runM (kx := fun v4_8x δ8x => ((f_Mo_pop δ8x).bind (fun y136 => bnd y136.1 (fun v136 => bnd y136.2 (fun δ_136 => (some (v136, δ_136))))))) (A := nI a) ht l a 1 [] (sI δ 151 19 0) FU (FU_gt (by omega)) ha (fun k o q => by rw [gsr (by decide)]; exact hc k o q) hw (by decide) gss trivial hl
  refine ⟨sI δ' 151 19 (nI 0), FrM_t.trans (b1.trans FrM_t), ?_⟩
  unfold f_Mo_reckons
  rw [bndE]
  refine Eq.trans b5 ?_
  rw [popM (d := 0) (by decide) b2, Option.bind_some]
  simp only [bndE]
  unfold evl
  match hq : evs w l [], b3, b4 with
  | [x], b3, b4 =>
    have : gL δ' 160 0 = x := b3.1
    rw [this]; rfl
