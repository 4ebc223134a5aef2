/-! the reference's clause, whole -/
def SR (t : Nat) (X : Tx) (c : Nat) (δ : Dm) (z : Zs) : Prop := RS t X c δ z.1 ∧ gI δ 151 15 = nI z.2.1.length ∧ gI δ 157 t = nI (z.2.1.filter isW).length ∧ CR t δ z.1.2.2 (z.2.1.filter isW) ∧ (∀ k, k < 3 → gI δ 158 (3 * t + k) = z.2.2 k ∧ (z.2.2 k = -1 ∨ ∃ v, v ≤ 999 ∧ z.2.2 k = nI v)) ∧ z.2.1.length ≤ 14
theorem pB_in {X : Tx} {s : Nat} {sm : Bool} {z y : Zs} {q : Qs} (h : pB X s sm z q = .inr y) : y.2.2 = z.2.2 ∧ y.2.1.length = z.2.1.length + 1 := by
  unfold pB at h
  cases h1 : pB1 X sm q with
  | inl w => rw [h1] at h; cases h
  | inr q1 =>
    rw [h1] at h
    have h : rzb (pB2 X sm q1) _ = _ := h
    cases h2 : pB2 X sm q1 with
    | inl w => rw [h2] at h; cases h
    | inr q2 =>
      rw [h2] at h; cases h
      refine ⟨rfl, ?_⟩
      show (z.2.1 ++ [_]).length = _
      rw [List.length_append]; rfl
theorem RS.l {t j : Nat} {X : Tx} {c : Nat} {δ : Dm} {q : Qs} {v : Int32} (h : RS t X c δ q) (hj : j = 11 ∨ 14 ≤ j) : RS t X c (sI δ 151 j v) q := by
  obtain ⟨a1, ⟨p, b1, b2, b3, b4⟩, c1, c2, c3, c4, c5, c6⟩ := h
  exact ⟨a1.fr (gsc (by omega)) (fun j => gsr (by decide)), ⟨p, b1, b2, by rw [gsc (by omega)]; exact b3, b4⟩, by rw [gsc (by omega)]; exact c1, by rw [gsc (by omega)]; exact c2, by rw [gsc (by omega)]; exact c3, c4, by rw [gsr (by decide)]; exact c5, fun k o q => by rw [gsr (by decide)]; exact c6 k o q⟩
/-- a word, then a number -/
theorem num_S {t : Nat} {X : Tx} {c hi p : Nat} {δ : Dm} {q : Qs} (hh : hi < 100000) (h : RS t X c δ q) (h9 : gI δ 151 9 = nI p) (hp : p ≤ X.2) (hs : sp X p = q.1) (hk : kd X q.1 ≠ 34 → True) (hcr : q.2.2.length + c ≤ p) : ∃ v d, f_Mo_number (nI hi) δ = some (v, d) ∧ Fr9 δ d ∧ match pN X hi q with
    | .inl w => v = 0 ∧ gI d 151 10 = nI w
    | .inr k => v = 1 ∧ gI d 151 11 = nI k ∧ k ≤ hi ∧ RS t X c d (nq X q) := by
  obtain ⟨v, d, e1, e2, e3⟩ := num_R (X := X) (p := p) (u := q.2) hh h.1 h9 hp h.2.2.1
  rw [hs] at e3
  refine ⟨v, d, e1, e2, ?_⟩
  have e3 : match pN X hi q with
    | .inl w => v = 0 ∧ gI d 151 10 = nI w
    | .inr k => v = 1 ∧ gI d 151 10 = 0 ∧ gI d 151 9 = nI (te X q.1) ∧ gI d 151 11 = nI k ∧ te X q.1 ≤ X.2 ∧ p < te X q.1 := e3
  cases hc : pN X hi q with
  | inl w => rw [hc] at e3; exact e3
  | inr k =>
    rw [hc] at e3
    obtain ⟨k1, k2, k3, k4, k5, k6⟩ := e3
    refine ⟨k1, k4, pN_le hh hc, ?_⟩
    have := te_gt X q.1
    exact (h.up (d := d) (k := 1) (p' := te X q.1) (q' := nq X q) (h.1.fr (e2 _ _ (by omega)) (fun j => e2 _ _ (by omega))) k5 rfl k3 rfl this k2 (by rw [e2 _ _ (by omega)]; exact h.2.2.2.2.1) h.2.2.2.2.2.1 (e2 _ _ (by omega)) (e2 _ _ (by omega)) (fun j => e2 _ _ (by omega))).mono (Nat.le_add_right c 1)
theorem Fr9.th {t : Nat} {a b : Dm} (h : Fr9 a b) : Fr3 t a b := fun x j q1 q2 q3 _ _ _ _ => h x j (by omega)
theorem bath_R {t : Nat} {X : Tx} {c : Nat} {D : Dm} {q : Qs} (h : RS t X c D q) (h9 : gI D 151 9 = nI q.1) (hk : kd X q.1 ≤ 20) : ∃ v d, f_Mo_bathHere D = some (v, d) ∧ Fr9 D d ∧ match pN X 2 (nq X q) with
    | .inl w => v = 0 ∧ gI d 151 10 = nI w
    | .inr k => v = 1 ∧ gI d 151 11 = nI k ∧ k ≤ 2 ∧ RS t X c d (nq X (nq X q)) := by
  obtain ⟨hq, h4, hsp, hcr⟩ := h.at
  obtain ⟨w1, w2, w3, w4⟩ := word_te hk
  have h1 := (h.mv (k := 1) (p' := enL X q.1) (s := nx X q.1) w4 (by rw [← w1]; rfl) w2).mono (Nat.le_add_right c 1)
  obtain ⟨v, d, e1, e2, e3⟩ := num_S (q := nq X q) (hi := 2) (by decide) h1 gss w4 (by rw [← w1]; rfl) (fun _ => trivial) (by show q.2.2.length + c ≤ _; omega)
  have hv : v = 0 ∨ v = 1 := by
    cases hp : pN X 2 (nq X q) with
    | inl w => rw [hp] at e3; exact Or.inl e3.1
    | inr r => rw [hp] at e3; exact Or.inr e3.1
  refine ⟨v, d, ?_, fun b j q => by rw [e2 b j q, gs, if_neg (by omega)], e3⟩
  unfold f_Mo_bathHere
  rw [pass_R h.1 h9 hq, Option.bind_some]
  exact rbool (x := f_Mo_number 2 _) e1 hv
theorem weak_R {t : Nat} {X : Tx} {c : Nat} {D : Dm} {q : Qs} {W : Nat → Int32} (ht : t < 8) (h : RS t X c D q) (h9 : gI D 151 9 = nI q.1) (hk : kd X q.1 ≤ 20) (hW : ∀ k, k < 3 → gI D 158 (3 * t + k) = W k ∧ (W k = -1 ∨ ∃ v, v ≤ 999 ∧ W k = nI v)) : ∃ v d, f_Mo_weakHere D = some (v, d) ∧ Fr3 t D d ∧ (∀ j, gI d 156 j = gI D 156 j) ∧ (∀ j, gI d 157 j = gI D 157 j) ∧ gI d 151 15 = gI D 151 15 ∧ ((∃ w, v = 0 ∧ gI d 151 10 = nI w ∧ ∀ F : Nat → Nat → Rz, (rzb (pN X 2 (nq X q)) fun b => if W b = -1 then rzb (pN X 999 (nq X (nq X q))) (F b) else .inl (flw (nx X q.1) 4)) = .inl w) ∨ ∃ b u, v = 1 ∧ pN X 2 (nq X q) = .inr b ∧ W b = -1 ∧ pN X 999 (nq X (nq X q)) = .inr u ∧ u ≤ 999 ∧ RS t X c d (nq X (nq X (nq X q))) ∧ ∀ k, k < 3 → gI d 158 (3 * t + k) = if k = b then nI u else W k) := by
  obtain ⟨hq, h4, hsp, hcr⟩ := h.at
  obtain ⟨w1, w2, w3, w4⟩ := word_te hk
  have h1 := (h.mv (k := 1) (p' := enL X q.1) (s := nx X q.1) w4 (by rw [← w1]; rfl) w2).mono (Nat.le_add_right c 1)
  obtain ⟨e1, h2⟩ := h1.see
  rw [sI_sI] at e1 h2
  obtain ⟨E, hE⟩ : ∃ E, sI D 151 9 (nI (nx X q.1)) = E := ⟨_, rfl⟩
  have e1 : f_Mo_see (sI D 151 9 (nI (enL X q.1))) = some (bt X (nx X q.1), E) := by rw [← hE]; exact e1
  have h2 : RS t X c E (nq X q) := by rw [← hE]; exact h2
  have E9 : gI E 151 9 = nI (nx X q.1) := by rw [← hE]; exact gss
  have fE : Fr9 D E := fun b j q => by rw [← hE, gs, if_neg (by omega)]
  have at2 := h2.at
  obtain ⟨v, d, n1, n2, n3⟩ := num_S (q := nq X q) (p := nx X q.1) (hi := 2) (by decide) h2 E9 at2.1 at2.2.2.1 (fun _ => trivial) at2.2.2.2
  unfold f_Mo_weakHere
  rw [pass_R h.1 h9 hq, Option.bind_some, e1, Option.bind_some, bndE, bndE, bndE, E9, show (2 : Int32) = nI 2 from rfl, n1, Option.bind_some, bndE, bndE]
  have fr : ∀ {x : Dm}, Fr9 D x → (∀ j, gI x 156 j = gI D 156 j) ∧ (∀ j, gI x 157 j = gI D 157 j) ∧ gI x 151 15 = gI D 151 15 := fun hx => ⟨fun j => hx _ _ (by omega), fun j => hx _ _ (by omega), hx _ _ (by omega)⟩
  have f2 : Fr9 D d := fun b j q => (n2 b j q).trans (fE b j q)
  have g158 : ∀ k, gI d 158 k = gI D 158 k := fun k => f2 _ _ (by omega)
  cases hp : pN X 2 (nq X q) with
  | inl w =>
    rw [hp] at n3
    obtain ⟨r1, r2⟩ := n3
    rw [r1, if_pos rfl]
    obtain ⟨a, b, e⟩ := fr f2
    exact ⟨0, d, rfl, f2.th, a, b, e, Or.inl ⟨w, rfl, r2, fun F => rfl⟩⟩
  | inr b =>
    rw [hp] at n3
    obtain ⟨r1, r2, r3, r4⟩ := n3
    obtain ⟨-, -, -, x2, -⟩ := id r4
    rw [r1, if_neg (show ¬ (1 : Int32) = 0 by decide), bndE, x2, r2, show (3 : Int32) * nI t = nI (3 * t) from pk_mul 3 _, nI_add, if_pos (inb_i (show 3 * t + b < 24 by omega) (by decide)), ixN (show 3 * t + b < 2147483648 by omega), g158]
    obtain ⟨y1, y2⟩ := hW b (by omega)
    rw [y1]
    have neg : W b < 0 ↔ W b = -1 := by
      rcases y2 with y | ⟨v, v1, v2⟩
      · rw [y]; decide
      · rw [v2]
        exact ⟨fun w => absurd w (nI_pos (by omega)), fun w => absurd w (nI_nm1 (by omega))⟩
    by_cases z : W b = -1
    · rw [if_pos (neg.mpr z)]
      obtain ⟨p, b1, b2, b3, b4⟩ := r4.2.1
      obtain ⟨v', d', m1, m2, m3⟩ := num_S (q := nq X (nq X q)) (p := p) (hi := 999) (by decide) r4 b3 b1 b2 (fun _ => trivial) b4
      rw [show (999 : Int32) = nI 999 from rfl, m1, Option.bind_some, bndE, bndE]
      have f3 : Fr9 D d' := fun b j q => (m2 b j q).trans (f2 b j q)
      cases hp2 : pN X 999 (nq X (nq X q)) with
      | inl w =>
        rw [hp2] at m3
        obtain ⟨s1, s2⟩ := m3
        rw [s1, if_pos rfl]
        obtain ⟨a, b', e⟩ := fr f3
        refine ⟨0, d', rfl, f3.th, a, b', e, Or.inl ⟨w, rfl, s2, fun F => ?_⟩⟩
        show (if W b = -1 then rzb (.inl w) (F b) else _) = _
        rw [if_pos z]; rfl
      | inr u =>
        rw [hp2] at m3
        obtain ⟨s1, s2, s3, s4⟩ := m3
        rw [s1, if_neg (show ¬ (1 : Int32) = 0 by decide), if_pos (inb_i (show 3 * t + b < 24 by omega) (by decide)), s2, bndE]
        refine ⟨1, _, rfl, ?_, fun j => by rw [gsr (by decide)]; exact f3 _ _ (by omega), fun j => by rw [gsr (by decide)]; exact f3 _ _ (by omega), by rw [gsr (by decide)]; exact f3 _ _ (by omega), Or.inr ⟨b, u, rfl, rfl, z, rfl, s3, s4.b (by decide), fun k hk3 => ?_⟩⟩
        · intro x j q1 q2 q3 q4 q5 q6 q7
          rw [gs, if_neg (by omega)]
          exact f3 x j (by omega)
        · by_cases y : k = b
          · rw [y, gss, if_pos rfl]
          · rw [gsc (by omega), if_neg y, f3 _ _ (by omega)]
            exact (hW k hk3).1
    · rw [if_neg (fun w => z (neg.mp w))]
      obtain ⟨a, b', e⟩ := fr f2
      refine ⟨0, _, rbool (x := f_Mo_fails 4 (nI (nx X q.1)) d) (fails_R (n := 4) r4.2.2.1) (Or.inl rfl), f2.th.s (by decide), fun j => by rw [gsr (by decide)]; exact a j, fun j => by rw [gsr (by decide)]; exact b' j, by rw [gsc (by decide)]; exact e, Or.inl ⟨flw (nx X q.1) 4, rfl, gss, fun F => ?_⟩⟩
      show (if W b = -1 then _ else _) = _
      rw [if_neg z]
theorem clauseHere_R {t : Nat} {X : Tx} {c : Nat} {δ : Dm} {z : Zs} (ht : t < 8) (h : SR t X c δ z) : ∃ v d, f_Mo_clauseHere δ = some (v, d) ∧ Fr3 t δ d ∧ match pCl X z with
    | .inl w => v = 0 ∧ gI d 151 10 = nI w
    | .inr y => v = 1 ∧ SR t X c d y := by
  obtain ⟨hR, h15, h157, hC, hW, hl⟩ := h
  obtain ⟨hq, h4, hsp, hcr⟩ := hR.at
  obtain ⟨e1, h1⟩ := hR.see
  obtain ⟨D, hD⟩ : ∃ D, sI δ 151 9 (nI z.1.1) = D := ⟨_, rfl⟩
  rw [hD] at e1 h1
  have D9 : gI D 151 9 = nI z.1.1 := by rw [← hD]; exact gss
  have fD : Fr3 t δ D := by rw [← hD]; exact (Fr3.refl t δ).s (by decide)
  have D15 : gI D 151 15 = nI z.2.1.length := by rw [← hD, gsc (by decide)]; exact h15
  obtain ⟨k, hkk⟩ : ∃ k, kd X z.1.1 = k := ⟨_, rfl⟩
  have ch : f_Mo_clauseHere δ = jp_Mo_clauseHere_95 (nI z.1.1) (if 9 ≤ k ∧ k ≤ 16 then 1 else 0) D := by
    unfold f_Mo_clauseHere jp_Mo_clauseHere_90
    rw [e1, Option.bind_some, bndE, bndE, bndE, D9]
    rw [wIf (k := 9) (by decide) h1.1 D9 hq hsp (by decide +kernel), wIf (k := 10) (by decide) h1.1 D9 hq hsp (by decide +kernel), wIf (k := 11) (by decide) h1.1 D9 hq hsp (by decide +kernel), wIf (k := 12) (by decide) h1.1 D9 hq hsp (by decide +kernel), wIf (k := 13) (by decide) h1.1 D9 hq hsp (by decide +kernel), wIf (k := 14) (by decide) h1.1 D9 hq hsp (by decide +kernel), wIf (k := 15) (by decide) h1.1 D9 hq hsp (by decide +kernel), wIf (k := 16) (by decide) h1.1 D9 hq hsp (by decide +kernel), hkk]
    by_cases y : 9 ≤ k ∧ k ≤ 16
    · rw [if_pos y]
      have : k = 9 ∨ k = 10 ∨ k = 11 ∨ k = 12 ∨ k = 13 ∨ k = 14 ∨ k = 15 ∨ k = 16 := by omega
      rcases this with e | e | e | e | e | e | e | e <;> rw [e] <;> rfl
    · rw [if_neg y, if_neg (by omega), if_neg (by omega), if_neg (by omega), if_neg (by omega), if_neg (by omega), if_neg (by omega), if_neg (by omega), if_neg (by omega)]
  rw [ch]
  unfold jp_Mo_clauseHere_95 pCl
  rw [hkk]
  by_cases y1 : k < 9 ∨ 16 < k
  · rw [if_pos y1, if_neg (show ¬ (9 ≤ k ∧ k ≤ 16) by omega), if_pos rfl]
    exact ⟨0, _, rbool (x := f_Mo_fails 0 (nI z.1.1) D) (fails_R (n := 0) h1.2.2.1) (Or.inl rfl), fD.s (by decide), rfl, gss⟩
  rw [if_neg y1, if_pos (show 9 ≤ k ∧ k ≤ 16 by omega), if_neg (show ¬ (1 : Int32) = 0 by decide), D15]
  obtain ⟨n0, hn0⟩ : ∃ n0, z.2.1.length = n0 := ⟨_, rfl⟩
  rw [hn0] at hl D15 ⊢
  by_cases y2 : 14 ≤ n0
  · rw [if_pos y2, if_pos (show nI n0 = 14 by rw [show n0 = 14 by omega]; rfl)]
    exact ⟨0, _, rbool (x := f_Mo_fails 4 (nI z.1.1) D) (fails_R (n := 4) h1.2.2.1) (Or.inl rfl), fD.s (by decide), rfl, gss⟩
  rw [if_neg y2, if_neg (show ¬ nI n0 = 14 from fun w => by have := (nI_eq (b := 14) (by omega) (by decide)).mp w; omega), bndE, nI_1]
  obtain ⟨E, hE⟩ : ∃ E, sI D 151 15 (nI (n0 + 1)) = E := ⟨_, rfl⟩
  rw [hE]
  have rE : RS t X c E z.1 := by rw [← hE]; exact h1.l (by decide)
  have E9 : gI E 151 9 = nI z.1.1 := by rw [← hE, gsc (by decide)]; exact D9
  have fE : Fr3 t δ E := by rw [← hE]; exact fD.s (by decide)
  have E15 : gI E 151 15 = nI (n0 + 1) := by rw [← hE]; exact gss
  have Eo : ∀ b j, b ≠ 151 → gI E b j = gI δ b j := fun b j q => by rw [← hE, gsr q, ← hD, gsr q]
  obtain ⟨n, hn⟩ : ∃ n, (z.2.1.filter isW).length = n := ⟨_, rfl⟩
  have hn14 : n < 14 := by
    have := List.length_filter_le isW z.2.1
    omega
  rw [hn] at h157
  have W : ∀ {kk : Nat} {w : Int64} {A B : Dm → Option (Int32 × Dm)}, kk < 21 → w = wW kk → (f_Mo_isWord w E).bind (fun y => bnd y.1 (fun v => bnd y.2 (fun d => if v = 0 then A d else B d))) = if k = kk then B E else A E := fun hk hw => by
    rw [wIf hk rE.1 E9 hq hsp hw, hkk]
  rw [W (kk := 11) (by decide) (by decide +kernel), W (kk := 9) (by decide) (by decide +kernel), W (kk := 10) (by decide) (by decide +kernel), W (kk := 12) (by decide) (by decide +kernel), W (kk := 13) (by decide) (by decide +kernel), W (kk := 14) (by decide) (by decide +kernel), W (kk := 15) (by decide) (by decide +kernel)]
  by_cases y3 : k = 11
  · rw [if_pos y3, if_pos y3]
    obtain ⟨v, d, w1, w2, w3, w4, w5, w6⟩ := weak_R (W := z.2.2) ht rE E9 (by omega) (fun k hk3 => by rw [Eo _ _ (by decide)]; exact hW k hk3)
    rcases w6 with ⟨w, v0, v1, v2⟩ | ⟨b, u, v0, v1, v2, v3, v4, v5, v6⟩
    · rw [show (rzb (pN X 2 (nq X z.1)) fun b => if z.2.2 b = -1 then rzb (pN X 999 (nq X (nq X z.1))) fun v => .inr (nq X (nq X (nq X z.1)), z.2.1 ++ [(11, [], [])], fun k => if k = b then nI v else z.2.2 k) else .inl (flw (nx X z.1.1) 4)) = .inl w from v2 _]
      exact ⟨v, d, rbool w1 (Or.inl v0), fE.trans w2, v0, v1⟩
    · rw [v1]
      show ∃ (v' : Int32) (d' : Dm), _ ∧ _ ∧ match (if z.2.2 b = -1 then rzb (pN X 999 (nq X (nq X z.1))) _ else _) with
        | .inl w => v' = 0 ∧ gI d' 151 10 = nI w
        | .inr y => v' = 1 ∧ SR t X c d' y
      rw [if_pos v2, v3]
      refine ⟨v, d, rbool w1 (Or.inr v0), fE.trans w2, v0, v5, ?_, ?_, ?_, fun k hk3 => ?_, ?_⟩
      · rw [w5, E15]
        show nI (n0 + 1) = nI (z.2.1 ++ [_]).length
        rw [List.length_append, hn0]; rfl
      · rw [w4, Eo _ _ (by decide), h157]
        show nI n = nI ((z.2.1 ++ [(11, [], [])]).filter isW).length
        rw [List.filter_append, List.length_append, hn]; rfl
      · show CR t d z.1.2.2 ((z.2.1 ++ [(11, [], [])]).filter isW)
        rw [List.filter_append]
        show CR t d z.1.2.2 (z.2.1.filter isW ++ [])
        rw [List.append_nil]
        intro c' x hx
        rw [w3, w3, w3, w3, w3, Eo _ _ (by decide), Eo _ _ (by decide), Eo _ _ (by decide), Eo _ _ (by decide), Eo _ _ (by decide)]
        exact hC c' x hx
      · refine ⟨v6 k hk3, ?_⟩
        show (if k = b then nI u else z.2.2 k) = -1 ∨ ∃ v, v ≤ 999 ∧ (if k = b then nI u else z.2.2 k) = nI v
        by_cases y : k = b
        · rw [if_pos y]; exact Or.inr ⟨u, v4, rfl⟩
        · rw [if_neg y]; exact (hW k hk3).2
      · show (z.2.1 ++ [_]).length ≤ 14
        rw [List.length_append, hn0]; show n0 + 1 ≤ 14; omega
  rw [if_neg y3, if_neg y3]
  have hC' : ∀ {d : Dm}, (∀ j, gI d 156 j = gI δ 156 j) → CR t d z.1.2.2 (z.2.1.filter isW) := fun hd c' x hx => by
    rw [hd, hd, hd, hd, hd]; exact hC c' x hx
  have fin : ∀ (d0 d : Dm) (v : Int32) (s : Nat) (sm : Bool) (q : Qs), (∀ j, gI d0 158 j = gI δ 158 j) → gI d0 151 15 = nI (n0 + 1) → (∀ k, gI d 158 k = gI d0 158 k) → gI d 151 15 = gI d0 151 15 → (match pB X s sm z q with
      | .inl w => v = 0 ∧ gI d 151 10 = nI w
      | .inr y => v = 1 ∧ RS t X c d y.1 ∧ gI d 157 t = nI (y.2.1.filter isW).length ∧ CR t d y.1.2.2 (y.2.1.filter isW)) → (v = 0 ∨ v = 1) ∧ match pB X s sm z q with
      | .inl w => v = 0 ∧ gI d 151 10 = nI w
      | .inr y => v = 1 ∧ SR t X c d y := fun d0 d v s sm q a158 a15 b158 b15 hm => by
    cases hp : pB X s sm z q with
    | inl w => rw [hp] at hm; exact ⟨Or.inl hm.1, hm⟩
    | inr y =>
      rw [hp] at hm
      obtain ⟨m1, m2, m3, m4⟩ := hm
      obtain ⟨l1, l2⟩ := pB_in hp
      refine ⟨Or.inr m1, m1, m2, by rw [b15, a15, l2, hn0], m3, m4, fun k hk3 => ?_, by rw [l2, hn0]; omega⟩
      rw [l1, b158, a158]
      exact hW k hk3
  by_cases y4 : k < 11
  · rw [if_pos y4]
    obtain ⟨v, d0, g1, g2, g3⟩ := bath_R rE E9 (by omega)
    have f0 : Fr3 t δ d0 := fE.trans g2.th
    have o158 : ∀ j, gI d0 158 j = gI δ 158 j := fun j => by rw [g2 _ _ (by omega)]; exact Eo _ _ (by decide)
    have o157 : gI d0 157 t = nI n := by rw [g2 _ _ (by omega), Eo _ _ (by decide)]; exact h157
    have o156 : ∀ j, gI d0 156 j = gI δ 156 j := fun j => by rw [g2 _ _ (by omega)]; exact Eo _ _ (by decide)
    have o15 : gI d0 151 15 = nI (n0 + 1) := by rw [g2 _ _ (by omega)]; exact E15
    have bt : ∀ kk o, k = kk → (∀ b, b ≤ 2 → o + nI b = nI (3 * (kk - 9) + b)) → kk = 9 ∨ kk = 10 → ∃ (v : Int32) (d : Dm), ((f_Mo_bathHere E).bind (fun y159 => bnd y159.1 (fun v159 => bnd y159.2 (fun δ_159 => (if v159 = 0 then (some ((0 : Int32), δ_159)) else ((f_Mo_clauseOf (o + gI δ_159 151 11) (1 : Int32) δ_159).bind (fun y171 => bnd y171.1 (fun v171 => bnd y171.2 (fun δ_171 => (if v171 = 0 then (some ((0 : Int32), δ_171)) else (some ((1 : Int32), δ_171)))))))))))) = some (v, d) ∧ Fr3 t δ d ∧ match (rzb (pN X 2 (nq X z.1)) fun b => pB X (3 * (k - 9) + b) true z (nq X (nq X z.1))) with
        | .inl w => v = 0 ∧ gI d 151 10 = nI w
        | .inr y => v = 1 ∧ SR t X c d y := fun kk o hk ho h9 => by
      rw [g1, Option.bind_some, bndE, bndE]
      cases hp : pN X 2 (nq X z.1) with
      | inl w =>
        rw [hp] at g3
        obtain ⟨r1, r2⟩ := g3
        rw [r1, if_pos rfl]
        exact ⟨0, d0, rfl, f0, rfl, r2⟩
      | inr b =>
        rw [hp] at g3
        obtain ⟨r1, r2, r3, r4⟩ := g3
        rw [r1, if_neg (show ¬ (1 : Int32) = 0 by decide), r2, ho b r3]
        obtain ⟨v', d, c1, c2, c3, c4, c5⟩ := clauseOf_R (s := 3 * (kk - 9) + b) (sm := true) (z := z) ht (by omega) r4 rfl hn hn14 o157 (hC' o156)
        obtain ⟨u1, u2⟩ := fin d0 d v' _ true _ o158 o15 c2 c3 c5
        rw [hk]
        refine ⟨v', d, ?_, f0.trans c4, u2⟩
        rw [show f_Mo_clauseOf (nI (3 * (kk - 9) + b)) 1 d0 = some (v', d) from c1, Option.bind_some, bndE, bndE]
        rcases u1 with e | e
        · rw [e, if_pos rfl]
        · rw [e, if_neg (show ¬ (1 : Int32) = 0 by decide)]
    by_cases y5 : k = 9
    · rw [if_pos y5]
      have := bt 9 0 y5 (fun b hb => by rw [Int32.zero_add]; show nI b = nI (0 + b); rw [Nat.zero_add]) (Or.inl rfl)
      simp only [Int32.zero_add] at this
      exact this
    · rw [if_neg y5, if_pos (by omega)]
      exact bt 10 3 (by omega) (fun b hb => by rw [show (3 : Int32) = nI 3 from rfl, nI_add]) (Or.inr rfl)
  · rw [if_neg y4, if_neg (by omega), if_neg (by omega)]
    obtain ⟨w1, w2, w3, w4⟩ := word_te (X := X) (s := z.1.1) (by omega)
    have r2 := (rE.mv (k := 1) (p' := enL X z.1.1) (s := nx X z.1.1) w4 (by rw [← w1]; rfl) w2).mono (Nat.le_add_right c 1)
    have f2 : Fr3 t δ (sI E 151 9 (nI (enL X z.1.1))) := fE.s (by decide)
    have tail : ∃ (v : Int32) (d : Dm), jp_Mo_clauseHere_282 (nI z.1.1) 1 (nI (k - 6)) E = some (v, d) ∧ Fr3 t δ d ∧ match pB X (k - 6) (decide (k = 16)) z (nq X z.1) with
        | .inl w => v = 0 ∧ gI d 151 10 = nI w
        | .inr y => v = 1 ∧ SR t X c d y := by
      unfold jp_Mo_clauseHere_282 jp_Mo_clauseHere_300
      rw [pass_R rE.1 E9 hq, Option.bind_some]
      obtain ⟨v', d, c1, c2, c3, c4, c5⟩ := clauseOf_R (s := k - 6) (sm := decide (k = 16)) (z := z) (q := nq X z.1) ht (by omega) r2 rfl hn hn14 (by rw [gsr (by decide), Eo _ _ (by decide)]; exact h157) (hC' (fun j => by rw [gsr (by decide)]; exact Eo _ _ (by decide)))
      obtain ⟨u1, u2⟩ := fin _ d v' _ _ _ (fun j => by rw [gsr (by decide)]; exact Eo _ _ (by decide)) (by rw [gsc (by decide)]; exact E15) c2 c3 c5
      refine ⟨v', d, ?_, f2.trans c4, u2⟩
      by_cases y6 : k = 16
      · rw [decide_eq_true y6] at c1
        rw [if_pos (show nI (k - 6) = 10 by rw [y6]; rfl)]
        exact rbool c1 u1
      · rw [decide_eq_false y6] at c1
        rw [if_neg (show ¬ nI (k - 6) = 10 from fun w => y6 (by have := (nI_eq (b := 10) (by omega) (by decide)).mp w; omega))]
        exact rbool c1 u1
    have : k = 12 ∨ k = 13 ∨ k = 14 ∨ k = 15 ∨ k = 16 := by have := ky_le X z.1.1; omega
    rcases this with e | e | e | e | e <;> rw [e] at tail ⊢ <;> exact tail
