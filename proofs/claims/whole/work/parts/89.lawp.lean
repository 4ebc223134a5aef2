/-! the reference's clauses -/
def Fr3 (t : Nat) (δ d : Dm) : Prop := ∀ b j, ¬ (b = 151 ∧ 9 ≤ j ∧ j ≤ 17 ∧ j ≠ 12) → ¬ (b = 154 ∧ 400 * t ≤ j ∧ j < 400 * t + 400) → ¬ (b = 155 ∧ j = t) → ¬ (b = 156 ∧ 70 * t ≤ j ∧ j < 70 * t + 70) → ¬ (b = 157 ∧ j = t) → ¬ (b = 158 ∧ 3 * t ≤ j ∧ j < 3 * t + 3) → b ≠ 159 → gI d b j = gI δ b j
theorem Fr3.refl (t : Nat) (δ : Dm) : Fr3 t δ δ := fun _ _ _ _ _ _ _ _ _ => rfl
theorem Fr3.trans {t : Nat} {a b c : Dm} (h : Fr3 t a b) (k : Fr3 t b c) : Fr3 t a c := fun x j q1 q2 q3 q4 q5 q6 q7 => (k x j q1 q2 q3 q4 q5 q6 q7).trans (h x j q1 q2 q3 q4 q5 q6 q7)
theorem Fr2.th {t : Nat} {a b : Dm} (h : Fr2 t a b) : Fr3 t a b := fun x j q1 q2 q3 _ _ _ q7 => h x j (by omega) q2 q3 q7
theorem Fr3.c {t j : Nat} {δ d : Dm} {v : Int32} (h : Fr3 t δ d) (hj : 70 * t ≤ j ∧ j < 70 * t + 70) : Fr3 t δ (sI d 156 j v) := fun b i q1 q2 q3 q4 q5 q6 q7 => by
  rw [gs, if_neg (by omega)]; exact h b i q1 q2 q3 q4 q5 q6 q7
theorem Fr3.n {t : Nat} {δ d : Dm} {v : Int32} (h : Fr3 t δ d) : Fr3 t δ (sI d 157 t v) := fun b i q1 q2 q3 q4 q5 q6 q7 => by
  rw [gs, if_neg (by omega)]; exact h b i q1 q2 q3 q4 q5 q6 q7
theorem Fr3.s {t j : Nat} {δ d : Dm} {v : Int32} (h : Fr3 t δ d) (hj : 9 ≤ j ∧ j ≤ 17 ∧ j ≠ 12) : Fr3 t δ (sI d 151 j v) := fun b i q1 q2 q3 q4 q5 q6 q7 => by
  rw [gs, if_neg (by omega)]; exact h b i q1 q2 q3 q4 q5 q6 q7
theorem RS.b {t b i : Nat} {X : Tx} {c : Nat} {δ : Dm} {q : Qs} {v : Int32} (h : RS t X c δ q) (hb : 156 ≤ b) : RS t X c (sI δ b i v) q := by
  obtain ⟨a1, ⟨p, b1, b2, b3, b4⟩, c1, c2, c3, c4, c5, c6⟩ := h
  exact ⟨a1.fr (gsr (by omega)) (fun j => gsr (by omega)), ⟨p, b1, b2, by rw [gsr (by omega)]; exact b3, b4⟩, by rw [gsr (by omega)]; exact c1, by rw [gsr (by omega)]; exact c2, by rw [gsr (by omega)]; exact c3, c4, by rw [gsr (by omega)]; exact c5, fun k o q => by rw [gsr (by omega)]; exact c6 k o q⟩
theorem L123 {t B n : Nat} {X : Tx} {c : Nat} {δ : Dm} {q : Qs} {a1 a2 : Int32} (ht : t < 8) (hB : B + 4 < 560) (h : RS t X c δ q) (h157 : gI δ 157 t = nI n) (hBt : 70 * t ≤ B ∧ B + 4 < 70 * t + 70) : ∃ d, jp_Mo_clauseOf_123 a1 a2 (nI B) δ = some (1, d) ∧ RS t X c d q ∧ gI d 157 t = nI (n + 1) ∧ gI d 156 (B + 4) = nI q.2.2.length ∧ (∀ j, j ≠ B + 4 → gI d 156 j = gI δ 156 j) ∧ (∀ k, gI d 158 k = gI δ 158 k) ∧ gI d 151 15 = gI δ 151 15 ∧ Fr3 t δ d := by
  obtain ⟨a1', ⟨p, b1, b2, b3, b4⟩, c1, c2, c3, c4, c5, c6⟩ := id h
  unfold jp_Mo_clauseOf_123
  rw [c2, if_pos (inb_i ht (by decide)), show nI B + 4 = nI (B + 4) from nI_add _ 4, if_pos (inb_i hB (by decide)), ixN (show B + 4 < 2147483648 by omega), ixN (by omega), c5, bndE, gsr (by decide), c2, if_pos (inb_i ht (by decide)), if_pos (inb_i ht (by decide)), ixN (by omega), gsr (by decide), h157, bndE, nI_1]
  refine ⟨_, rfl, (h.b (by decide)).b (by decide), gss, by rw [gsr (by decide), gss], fun j hj => by rw [gsr (by decide), gsc hj], fun k => by rw [gsr (by decide), gsr (by decide)], by rw [gsr (by decide), gsr (by decide)], ((Fr3.refl t δ).c (by omega)).n⟩
theorem L97 {t B n : Nat} {X : Tx} {c : Nat} {δ : Dm} {q : Qs} {a1 a2 : Int32} (ht : t < 8) (hB : B + 4 < 560) (h : RS t X c δ q) (h157 : gI δ 157 t = nI n) (hBt : 70 * t ≤ B ∧ B + 4 < 70 * t + 70) : ∃ v d, jp_Mo_clauseOf_97 a1 a2 (nI B) δ = some (v, d) ∧ (∀ k, gI d 158 k = gI δ 158 k) ∧ gI d 151 15 = gI δ 151 15 ∧ Fr3 t δ d ∧ match pO X (pF X 12) 0 q with
    | .inl w => v = 0 ∧ gI d 151 10 = nI w
    | .inr q2 => v = 1 ∧ RS t X c d q2 ∧ gI d 157 t = nI (n + 1) ∧ gI d 156 (B + 3) = nI q.2.2.length ∧ gI d 156 (B + 4) = nI q2.2.2.length ∧ ∀ j, j ≠ B + 3 → j ≠ B + 4 → gI d 156 j = gI δ 156 j := by
  obtain ⟨a1', -, c1, c2, c3, c4, c5, c6⟩ := id h
  obtain ⟨D, hD⟩ : ∃ D, sI δ 156 (B + 3) (nI q.2.2.length) = D := ⟨_, rfl⟩
  have hR : RS t X c D q := by rw [← hD]; exact h.b (by decide)
  obtain ⟨v, d, e1, e2, e3⟩ := tested_R ht hR
  have fD : Fr3 t δ D := by rw [← hD]; exact (Fr3.refl t δ).c (by omega)
  have D157 : gI d 157 t = nI n := by rw [e3 _ _ (by omega) (by omega) (by omega) (by omega), ← hD, gsr (by decide)]; exact h157
  have D156 : ∀ j, gI d 156 j = if j = B + 3 then nI q.2.2.length else gI δ 156 j := fun j => by
    rw [e3 _ _ (by omega) (by omega) (by omega) (by omega), ← hD]
    by_cases z : j = B + 3
    · rw [z, gss, if_pos rfl]
    · rw [gsc z, if_neg z]
  have D158 : ∀ k, gI d 158 k = gI δ 158 k := fun k => by rw [e3 _ _ (by omega) (by omega) (by omega) (by omega), ← hD, gsr (by decide)]
  have D15 : gI d 151 15 = gI δ 151 15 := by rw [e3 _ _ (by omega) (by omega) (by omega) (by omega), ← hD, gsr (by decide)]
  unfold jp_Mo_clauseOf_97
  rw [c2, if_pos (inb_i ht (by decide)), show nI B + 3 = nI (B + 3) from nI_add _ 3, if_pos (inb_i (show B + 3 < 560 by omega) (by decide)), ixN (show B + 3 < 2147483648 by omega), ixN (by omega), c5, bndE, hD, e1, Option.bind_some, bndE, bndE]
  cases hp : pO X (pF X 12) 0 q with
  | inl w =>
    rw [hp] at e2
    obtain ⟨r1, r2⟩ := e2
    rw [r1, if_pos rfl]
    exact ⟨0, d, rfl, D158, D15, fD.trans e3.th, rfl, r2⟩
  | inr q2 =>
    rw [hp] at e2
    obtain ⟨r1, r2⟩ := e2
    rw [r1, if_neg (show ¬ (1 : Int32) = 0 by decide)]
    obtain ⟨e, g1, g2, g3, g4, g5, g6, g7, g8⟩ := L123 (a1 := a1) (a2 := a2) ht hB r2 D157 hBt
    rw [g1]
    refine ⟨1, e, rfl, fun k => (g6 k).trans (D158 k), g7.trans D15, (fD.trans e3.th).trans g8, rfl, g2, g3, ?_, g4, fun j q1 q2 => ?_⟩
    · rw [g5 _ (by omega), D156, if_pos rfl]
    · rw [g5 _ q2, D156, if_neg q1]
/-- the reference's memory of the clauses -/
def CR (t : Nat) (δ : Dm) (ops : List Int32) (C : List Cz) : Prop := ∀ c x, C[c]? = some x → gI δ 156 (70 * t + 5 * c) = nI x.1 ∧ ∃ a, a + x.2.1.length + x.2.2.length ≤ ops.length ∧ gI δ 156 (70 * t + 5 * c + 1) = nI a ∧ gI δ 156 (70 * t + 5 * c + 2) = nI (a + x.2.1.length) ∧ gI δ 156 (70 * t + 5 * c + 3) = (if x.2.2 = [] then -1 else nI (a + x.2.1.length)) ∧ gI δ 156 (70 * t + 5 * c + 4) = nI (a + x.2.1.length + x.2.2.length) ∧ ∀ k o, (x.2.1 ++ x.2.2)[k]? = some o → ops[a + k]? = some o
theorem CR_add {t n s : Nat} {δ d : Dm} {ops s1 s2 : List Int32} {C : List Cz} (h : CR t δ ops C) (hc : C.length = n) (hf : ∀ j, j < 70 * t + 5 * n → gI d 156 j = gI δ 156 j) (h0 : gI d 156 (70 * t + 5 * n) = nI s) (h1 : gI d 156 (70 * t + 5 * n + 1) = nI ops.length) (h2 : gI d 156 (70 * t + 5 * n + 2) = nI (ops ++ s1).length) (h3 : gI d 156 (70 * t + 5 * n + 3) = if s2 = [] then -1 else nI (ops ++ s1).length) (h4 : gI d 156 (70 * t + 5 * n + 4) = nI (ops ++ s1 ++ s2).length) : CR t d (ops ++ s1 ++ s2) (C ++ [(s, s1, s2)]) := by
  intro c x hx
  rw [List.getElem?_append] at hx
  by_cases z : c < C.length
  · rw [if_pos z] at hx
    obtain ⟨b1, a, b2, b3, b4, b5, b6, b7⟩ := h c x hx
    rw [hf _ (by omega), hf _ (by omega), hf _ (by omega), hf _ (by omega), hf _ (by omega)]
    refine ⟨b1, a, by rw [List.length_append, List.length_append]; omega, b3, b4, b5, b6, fun k o q => ?_⟩
    have q := b7 k o q
    rw [List.append_assoc]
    exact slice1 q
  · rw [if_neg z] at hx
    have hl := idx_lt hx
    rw [List.length_cons, List.length_nil] at hl
    have e : c = n := by omega
    rw [e, hc, Nat.sub_self] at hx
    subst e
    obtain rfl := Option.some.inj hx
    refine ⟨h0, ops.length, by rw [List.length_append, List.length_append]; exact Nat.le_refl _, h1, by rw [h2, List.length_append], ?_, by rw [h4, List.length_append, List.length_append], fun k o q => ?_⟩
    · rw [h3, List.length_append]
    · rw [List.append_assoc]
      exact slice2 q
theorem filter_add {C : List Cz} {s : Nat} {a b : List Int32} (hs : s ≤ 10) : (C ++ [(s, a, b)]).filter isW = C.filter isW ++ [(s, a, b)] := by
  rw [List.filter_append]
  congr 1
  rw [List.filter_cons, if_pos (by show (s != 11) = true; simp; omega)]; rfl
theorem clauseOf_R {t n s : Nat} {X : Tx} {c : Nat} {sm : Bool} {z : Zs} {q : Qs} {δ : Dm} (ht : t < 8) (hs : s ≤ 10) (h : RS t X c δ q) (hq : q.2.2 = z.1.2.2) (hn : (z.2.1.filter isW).length = n) (hn14 : n < 14) (h157 : gI δ 157 t = nI n) (hC : CR t δ z.1.2.2 (z.2.1.filter isW)) : ∃ v d, f_Mo_clauseOf (nI s) (if sm = true then 1 else 0) δ = some (v, d) ∧ (∀ k, gI d 158 k = gI δ 158 k) ∧ gI d 151 15 = gI δ 151 15 ∧ Fr3 t δ d ∧ match pB X s sm z q with
    | .inl w => v = 0 ∧ gI d 151 10 = nI w
    | .inr y => v = 1 ∧ RS t X c d y.1 ∧ gI d 157 t = nI (y.2.1.filter isW).length ∧ CR t d y.1.2.2 (y.2.1.filter isW) := by
  obtain ⟨a1, -, c1, c2, c3, c4, c5, c6⟩ := id h
  obtain ⟨B, hB⟩ : ∃ B, 70 * t + 5 * n = B := ⟨_, rfl⟩
  obtain ⟨E, hE⟩ : ∃ E, sI (sI δ 156 B (nI s)) 156 (B + 1) (nI q.2.2.length) = E := ⟨_, rfl⟩
  have hR : RS t X c E q := by rw [← hE]; exact (h.b (by decide)).b (by decide)
  have fE : Fr3 t δ E := by rw [← hE]; exact ((Fr3.refl t δ).c (by omega)).c (by omega)
  have E157 : gI E 157 t = nI n := by rw [← hE, gsr (by decide), gsr (by decide)]; exact h157
  have E158 : ∀ k, gI E 158 k = gI δ 158 k := fun k => by rw [← hE, gsr (by decide), gsr (by decide)]
  have E15 : gI E 151 15 = gI δ 151 15 := by rw [← hE, gsr (by decide), gsr (by decide)]
  have E0 : gI E 156 B = nI s := by rw [← hE, gsc (by omega), gss]
  have E1 : gI E 156 (B + 1) = nI q.2.2.length := by rw [← hE, gss]
  have Eo : ∀ j, j < B → gI E 156 j = gI δ 156 j := fun j hj => by rw [← hE, gsc (by omega), gsc (by omega)]
  have key : ∀ q1 d3, pB1 X sm q = .inr q1 → RS t X c d3 q1 → Fr3 t δ d3 → (∀ j, gI d3 156 j = gI E 156 j) → (∀ k, gI d3 158 k = gI δ 158 k) → gI d3 151 15 = gI δ 151 15 → gI d3 157 t = nI n → ∃ v d, jp_Mo_clauseOf_57 (nI s) (if sm = true then 1 else 0) (nI B) d3 = some (v, d) ∧ (∀ k, gI d 158 k = gI δ 158 k) ∧ gI d 151 15 = gI δ 151 15 ∧ Fr3 t δ d ∧ match (rzb (pB2 X sm q1) fun q2 => (.inr (q2, z.2.1 ++ [(s, slc q.2.2 q1.2.2, slc q1.2.2 q2.2.2)], z.2.2) : Rz)) with
      | .inl w => v = 0 ∧ gI d 151 10 = nI w
      | .inr y => v = 1 ∧ RS t X c d y.1 ∧ gI d 157 t = nI (y.2.1.filter isW).length ∧ CR t d y.1.2.2 (y.2.1.filter isW) := fun q1 d3 hp1 r3 f3 g156 g158 g15 g157 => by
    obtain ⟨s1, e1⟩ := pB1_pre hp1
    obtain ⟨-, -, -, x2, -, -, x5, -⟩ := id r3
    obtain ⟨D, hD⟩ : ∃ D, sI (sI d3 156 (B + 2) (nI q1.2.2.length)) 156 (B + 3) (-1) = D := ⟨_, rfl⟩
    have rD : RS t X c D q1 := by rw [← hD]; exact (r3.b (by decide)).b (by decide)
    have fD : Fr3 t δ D := by rw [← hD]; exact (f3.c (by omega)).c (by omega)
    have D157 : gI D 157 t = nI n := by rw [← hD, gsr (by decide), gsr (by decide)]; exact g157
    have D158 : ∀ k, gI D 158 k = gI δ 158 k := fun k => by rw [← hD, gsr (by decide), gsr (by decide)]; exact g158 k
    have D15 : gI D 151 15 = gI δ 151 15 := by rw [← hD, gsr (by decide), gsr (by decide)]; exact g15
    have D2 : gI D 156 (B + 2) = nI q1.2.2.length := by rw [← hD, gsc (by omega), gss]
    have D3 : gI D 156 (B + 3) = -1 := by rw [← hD, gss]
    have Do : ∀ j, j < B + 2 → gI D 156 j = gI E 156 j := fun j hj => by rw [← hD, gsc (by omega), gsc (by omega)]; exact g156 j
    have fin : ∀ (d : Dm) (q2 : Qs) (s2 : List Int32), q2.2.2 = q1.2.2 ++ s2 → RS t X c d q2 → gI d 157 t = nI (n + 1) → (∀ j, j < B + 3 → gI d 156 j = gI D 156 j) → gI d 156 (B + 3) = (if s2 = [] then -1 else nI q1.2.2.length) → gI d 156 (B + 4) = nI q2.2.2.length → (RS t X c d q2 ∧ gI d 157 t = nI ((z.2.1 ++ [(s, slc q.2.2 q1.2.2, slc q1.2.2 q2.2.2)]).filter isW).length ∧ CR t d q2.2.2 ((z.2.1 ++ [(s, slc q.2.2 q1.2.2, slc q1.2.2 q2.2.2)]).filter isW)) := fun d q2 s2 e2 r h1 h2 h3 h4 => by
      have e3 : slc q.2.2 q1.2.2 = s1 := by rw [e1, slc_app]
      have e4 : slc q1.2.2 q2.2.2 = s2 := by rw [e2, slc_app]
      rw [filter_add hs, e3, e4]
      refine ⟨r, by rw [h1, List.length_append, hn]; rfl, ?_⟩
      rw [e2, e1, hq]
      refine CR_add hC hn (fun j hj => ?_) ?_ ?_ ?_ ?_ ?_
      · rw [h2 _ (by omega), Do _ (by omega), Eo _ (by omega)]
      · rw [hB, h2 _ (by omega), Do _ (by omega), E0]
      · rw [hB, h2 _ (by omega), Do _ (by omega), E1, hq]
      · rw [hB, h2 _ (by omega), D2, e1, hq]
      · rw [hB, h3, e1, hq]
      · rw [hB, h4, e2, e1, hq]
    have test : ∀ (D' : Dm) (p : Qs), RS t X c D' p → p.2.2 = q1.2.2 → Fr3 t δ D' → (∀ j, gI D' 156 j = gI D 156 j) → (∀ k, gI D' 158 k = gI δ 158 k) → gI D' 151 15 = gI δ 151 15 → gI D' 157 t = nI n → pB2 X sm q1 = pO X (pF X 12) 0 p → ∃ v d, jp_Mo_clauseOf_97 (nI s) (if sm = true then 1 else 0) (nI B) D' = some (v, d) ∧ (∀ k, gI d 158 k = gI δ 158 k) ∧ gI d 151 15 = gI δ 151 15 ∧ Fr3 t δ d ∧ match (rzb (pB2 X sm q1) fun q2 => (.inr (q2, z.2.1 ++ [(s, slc q.2.2 q1.2.2, slc q1.2.2 q2.2.2)], z.2.2) : Rz)) with
        | .inl w => v = 0 ∧ gI d 151 10 = nI w
        | .inr y => v = 1 ∧ RS t X c d y.1 ∧ gI d 157 t = nI (y.2.1.filter isW).length ∧ CR t d y.1.2.2 (y.2.1.filter isW) := fun D' p r hp' f' i156 i158 i15 i157 hp2 => by
      obtain ⟨v, d, g1, g2, g3, g4, g5⟩ := L97 (B := B) (a1 := nI s) (a2 := if sm = true then 1 else 0) ht (by omega) r i157 (by omega)
      refine ⟨v, d, g1, fun k => (g2 k).trans (i158 k), g3.trans i15, f'.trans g4, ?_⟩
      rw [hp2]
      cases hc : pO X (pF X 12) 0 p with
      | inl w => rw [hc] at g5; exact g5
      | inr q2 =>
        rw [hc] at g5
        obtain ⟨v1, k1, k2, k3, k4, k5⟩ := g5
        have ap := pX_ap hc
        obtain ⟨s2, es⟩ := Ap_pre ap
        obtain ⟨-, ne, -⟩ := Ap_wfo ap
        rw [hp'] at es ne k3
        rw [es, slc_app] at ne
        exact ⟨v1, fin d q2 s2 es k1 k2 (fun j hj => by rw [k5 _ (by omega) (by omega)]; exact i156 j) (by rw [k3, if_neg ne]) k4⟩
    unfold jp_Mo_clauseOf_57
    rw [x2, if_pos (inb_i ht (by decide)), show nI B + 2 = nI (B + 2) from nI_add _ 2, show nI B + 3 = nI (B + 3) from nI_add _ 3, if_pos (inb_i (show B + 2 < 560 by omega) (by decide)), ixN (show B + 2 < 2147483648 by omega), ixN (show t < 2147483648 by omega), x5, bndE, if_pos (inb_i (show B + 3 < 560 by omega) (by decide)), ixN (by omega), bndE, hD]
    cases sm with
    | false =>
      rw [if_pos (show (if false = true then (1 : Int32) else 0) = 0 by decide)]
      exact test D q1 rD rfl fD (fun _ => rfl) D158 D15 D157 rfl
    | true =>
      rw [if_neg (show ¬ (if true = true then (1 : Int32) else 0) = 0 by decide)]
      unfold f_Mo_takesWord
      rw [wIfR (k := 17) (by decide) rD (show (26982 : Int64) = wW 17 by decide +kernel)]
      have rD9 := rD.see.2
      obtain ⟨hq1, h4, hsp, hcr⟩ := rD.at
      by_cases y : kd X q1.1 = 17
      · obtain ⟨w1, w2, w3, w4⟩ := word_te (X := X) (s := q1.1) (by omega)
        rw [if_pos y, pass_R rD9.1 gss hq1, Option.bind_some, Option.bind_some, bndE, bndE, if_neg (show ¬ (1 : Int32) = 0 by decide), sI_sI]
        have rt := (rD.mv (k := 1) (p' := enL X q1.1) (s := nx X q1.1) w4 (by rw [← w1]; rfl) w2).mono (Nat.le_add_right c 1)
        exact test _ (nx X q1.1, q1.2) rt rfl (fD.s (by decide)) (fun j => gsr (by decide)) (fun k => by rw [gsr (by decide)]; exact D158 k) (by rw [gsc (by decide)]; exact D15) (by rw [gsr (by decide)]; exact D157) (by unfold pB2; rw [if_pos rfl, if_pos y]; rfl)
      · rw [if_neg y, Option.bind_some, bndE, bndE, if_pos rfl]
        obtain ⟨e, k1, k2, k3, k4, k5, k6, k7, k8⟩ := L123 (B := B) (n := n) (a1 := nI s) (a2 := if true = true then 1 else 0) ht (by omega) rD9 (by rw [gsr (by decide)]; exact D157) (by omega)
        rw [show pB2 X true q1 = .inr q1 by unfold pB2; rw [if_pos rfl, if_neg y]]
        refine ⟨1, e, k1, fun k => by rw [k6, gsr (by decide)]; exact D158 k, by rw [k7, gsc (by decide)]; exact D15, (fD.s (by decide)).trans k8, rfl, ?_⟩
        exact fin e q1 [] (List.append_nil _).symm k2 k3 (fun j hj => by rw [k5 _ (by omega), gsr (by decide)]) (by rw [k5 _ (by omega), gsr (by decide), D3, if_pos rfl]) k4
  unfold f_Mo_clauseOf
  rw [c2, if_pos (inb_i ht (by decide)), ixN (show t < 2147483648 by omega), h157, show (70 : Int32) * nI t = nI (70 * t) from pk_mul 70 _, show (5 : Int32) * nI n = nI (5 * n) from pk_mul 5 _, nI_add, hB, bndE, if_pos (inb_i (show B < 560 by omega) (by decide)), ixN (show B < 2147483648 by omega), bndE, gsr (by decide), c2, if_pos (inb_i ht (by decide)), nI_1, if_pos (inb_i (show B + 1 < 560 by omega) (by decide)), ixN (show B + 1 < 2147483648 by omega), ixN (show t < 2147483648 by omega), gsr (by decide), c5, bndE, hE]
  unfold pB
  cases sm with
  | false =>
    rw [if_pos (show (if false = true then (1 : Int32) else 0) = 0 by decide)]
    exact key q E rfl hR fE (fun _ => rfl) E158 E15 E157
  | true =>
    rw [if_neg (show ¬ (if true = true then (1 : Int32) else 0) = 0 by decide)]
    obtain ⟨v, d3, e1, e2, e3⟩ := sum_R ht c E q hR
    have e3' := e3.two
    rw [e1, Option.bind_some, bndE, bndE]
    show ∃ (v' : Int32) (d : Dm), _ ∧ _ ∧ _ ∧ _ ∧ match (rzb (pS X q) _) with
      | .inl w => v' = 0 ∧ gI d 151 10 = nI w
      | .inr y => v' = 1 ∧ RS t X c d y.1 ∧ gI d 157 t = nI (y.2.1.filter isW).length ∧ CR t d y.1.2.2 (y.2.1.filter isW)
    have f3 : Fr3 t δ d3 := fE.trans e3'.th
    have g158 : ∀ k, gI d3 158 k = gI δ 158 k := fun k => by rw [e3 _ _ (by omega) (by omega) (by omega)]; exact E158 k
    have g15 : gI d3 151 15 = gI δ 151 15 := by rw [e3 _ _ (by omega) (by omega) (by omega)]; exact E15
    cases hp : pS X q with
    | inl w =>
      rw [hp] at e2
      obtain ⟨r1, r2⟩ := e2
      rw [r1, if_pos rfl]
      exact ⟨0, d3, rfl, g158, g15, f3, rfl, r2⟩
    | inr q1 =>
      rw [hp] at e2
      obtain ⟨r1, r2⟩ := e2
      rw [r1, if_neg (show ¬ (1 : Int32) = 0 by decide)]
      exact key q1 d3 hp r2 f3 (fun j => e3 _ _ (by omega) (by omega) (by omega)) g158 g15 (by rw [e3 _ _ (by omega) (by omega) (by omega)]; exact E157)
