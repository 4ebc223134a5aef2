/-! the reference's values, sums, comparisons -/
def RS (t : Nat) (X : Tx) (c : Nat) (δ : Dm) (q : Qs) : Prop := RX X δ ∧ (∃ p, p ≤ X.2 ∧ sp X p = q.1 ∧ gI δ 151 9 = nI p ∧ q.2.2.length + c ≤ p) ∧ gI δ 151 10 = 0 ∧ gI δ 151 12 = nI t ∧ gI δ 151 13 = nI q.2.1 ∧ q.2.1 ≤ 60 ∧ gI δ 155 t = nI q.2.2.length ∧ ∀ k o, q.2.2[k]? = some o → gI δ 154 (400 * t + k) = nI (rsg o)
def RO (t : Nat) (X : Tx) (c : Nat) (d : Dm) (v : Int32) (r : Rs) : Prop := match r with
  | .inl w => v = 0 ∧ gI d 151 10 = nI w
  | .inr q => v = 1 ∧ RS t X c d q
def Fr1 (t : Nat) (δ d : Dm) : Prop := ∀ b j, ¬ (b = 151 ∧ (j = 9 ∨ j = 10 ∨ j = 11 ∨ j = 13)) → ¬ (b = 154 ∧ 400 * t ≤ j ∧ j < 400 * t + 400) → ¬ (b = 155 ∧ j = t) → gI d b j = gI δ b j
theorem Fr1.refl (t : Nat) (δ : Dm) : Fr1 t δ δ := fun _ _ _ _ _ => rfl
theorem Fr1.trans {t : Nat} {a b c : Dm} (h : Fr1 t a b) (k : Fr1 t b c) : Fr1 t a c := fun x j q1 q2 q3 => (k x j q1 q2 q3).trans (h x j q1 q2 q3)
theorem Fr9.one {t : Nat} {a b : Dm} (h : Fr9 a b) : Fr1 t a b := fun x j q1 q2 q3 => h x j (by omega)
theorem Fr1.s {t j : Nat} {δ d : Dm} {v : Int32} (h : Fr1 t δ d) (hj : j = 9 ∨ j = 10 ∨ j = 11 ∨ j = 13) : Fr1 t δ (sI d 151 j v) := fun b i q1 q2 q3 => by
  rw [gs, if_neg (by omega)]; exact h b i q1 q2 q3
def OR (t : Nat) (X : Tx) (F : Dm → Option (Int32 × Dm)) (p : Qs → Rs) : Prop := ∀ c δ q, RS t X c δ q → ∃ v d, F δ = some (v, d) ∧ RO t X c d v (p q) ∧ Fr1 t δ d
theorem RS.up {t : Nat} {X : Tx} {c k p' : Nat} {δ d : Dm} {q q' : Qs} (h : RS t X c δ q) (hx : RX X d) (hp : p' ≤ X.2) (hs : sp X p' = q'.1) (h9 : gI d 151 9 = nI p') (ho : q'.2.2 = q.2.2) (hk : q.1 + k ≤ p') (h0 : gI d 151 10 = 0) (h13 : gI d 151 13 = nI q'.2.1) (h60 : q'.2.1 ≤ 60) (f12 : gI d 151 12 = gI δ 151 12) (f155 : gI d 155 t = gI δ 155 t) (f154 : ∀ j, gI d 154 j = gI δ 154 j) : RS t X (c + k) d q' := by
  obtain ⟨a1, ⟨p, b1, b2, b3, b4⟩, a2, a3, a4, a5, a6, a7⟩ := h
  have := sp_ge X p
  exact ⟨hx, ⟨p', hp, hs, h9, by rw [ho]; omega⟩, h0, by rw [f12]; exact a3, h13, h60, by rw [f155, ho]; exact a6, fun j o q => by rw [f154]; rw [ho] at q; exact a7 j o q⟩
theorem RS.at {t : Nat} {X : Tx} {c : Nat} {δ : Dm} {q : Qs} (h : RS t X c δ q) : q.1 ≤ X.2 ∧ X.2 ≤ 400 ∧ sp X q.1 = q.1 ∧ q.2.2.length + c ≤ q.1 := by
  obtain ⟨a1, ⟨p, b1, b2, b3, b4⟩, -⟩ := h
  have := sp_ge X p
  exact ⟨by rw [← b2]; exact sp_le b1, a1.1, by rw [← b2]; exact sp_sp X p, by omega⟩
theorem RS.mv {t : Nat} {X : Tx} {c k p' s : Nat} {δ : Dm} {q : Qs} (h : RS t X c δ q) (hp : p' ≤ X.2) (hs : sp X p' = s) (hk : q.1 + k ≤ p') : RS t X (c + k) (sI δ 151 9 (nI p')) (s, q.2) :=
  RS.up (q' := (s, q.2)) h h.1.s9 hp hs gss rfl hk (by rw [gsc (by decide)]; exact h.2.2.1) (by rw [gsc (by decide)]; exact h.2.2.2.2.1) h.2.2.2.2.2.1 (gsc (by decide)) (gsr (by decide)) (fun j => gsr (by decide))
theorem RS.see {t : Nat} {X : Tx} {c : Nat} {δ : Dm} {q : Qs} (h : RS t X c δ q) : f_Mo_see δ = some (bt X q.1, sI δ 151 9 (nI q.1)) ∧ RS t X c (sI δ 151 9 (nI q.1)) q := by
  obtain ⟨h1, -, h3, -⟩ := h.at
  obtain ⟨p, b1, b2, b3, b4⟩ := h.2.1
  refine ⟨by rw [see_R h.1 b3 b1, b2], ?_⟩
  have := h.mv (k := 0) (p' := q.1) (s := q.1) h1 h3 (Nat.le_refl _)
  exact this
theorem RS.mono {t : Nat} {X : Tx} {c c' : Nat} {δ : Dm} {q : Qs} (hc : c' ≤ c) (h : RS t X c δ q) : RS t X c' δ q := by
  obtain ⟨a1, ⟨p, b1, b2, b3, b4⟩, a2⟩ := h
  exact ⟨a1, ⟨p, b1, b2, b3, by omega⟩, a2⟩
/-- signs -/
theorem bt_sg {X : Tx} {s b : Nat} (hX : ∀ j, X.1 j < 256) (hb : b = 42 ∨ b = 43 ∨ b = 45 ∨ b = 47 ∨ b = 59 ∨ b = 61 ∨ b = 91 ∨ b = 93) : bt X s = nI b ↔ kd X s = sk b := by
  have d : ∀ a, a < 256 → sk a = sk b → a = b := by
    rcases hb with rfl | rfl | rfl | rfl | rfl | rfl | rfl | rfl <;> decide +kernel
  have d2 : 22 ≤ sk b ∧ sk b ≤ 33 ∧ sk b ≠ 27 ∧ sk b ≠ 29 := by
    rcases hb with rfl | rfl | rfl | rfl | rfl | rfl | rfl | rfl <;> decide
  unfold bt
  constructor
  · intro h
    by_cases z : s < X.2
    · rw [if_pos z] at h
      have h := (nI_eq (by have := hX s; omega) (by omega)).mp h
      have n1 : ¬ bD X s = true := fun w => by have := of_decide_eq_true w; omega
      have n2 : ¬ bL X s = true := fun w => by have := of_decide_eq_true w; omega
      have n3 : ¬ twP X s = true := fun w => by have := (of_decide_eq_true w).1; omega
      unfold kd
      rw [if_neg (Nat.not_le.mpr z), if_neg n1, if_neg n2, if_neg n3, h]
    · rw [if_neg z] at h
      exact absurd h.symm (nI_nm1 (by omega))
  · intro h
    have z : s < X.2 := ky_lt (by omega)
    rw [if_pos z]
    unfold kd at h
    rw [if_neg (Nat.not_le.mpr z)] at h
    by_cases n1 : bD X s = true
    · rw [if_pos n1] at h; omega
    rw [if_neg n1] at h
    by_cases n2 : bL X s = true
    · rw [if_pos n2] at h
      have := wk_ne (wb X s (enL X s))
      have := this.2.2 (by omega)
      omega
    rw [if_neg n2] at h
    by_cases n3 : twP X s = true
    · rw [if_pos n3] at h
      by_cases n4 : X.1 s = 60
      · rw [if_pos n4] at h; omega
      · rw [if_neg n4] at h; omega
    rw [if_neg n3] at h
    rw [d _ (hX s) h]
theorem te_sg {X : Tx} {s b : Nat} (hX : ∀ j, X.1 j < 256) (hb : b = 42 ∨ b = 43 ∨ b = 45 ∨ b = 47 ∨ b = 59 ∨ b = 61 ∨ b = 91 ∨ b = 93) (h : kd X s = sk b) : te X s = s + 1 ∧ X.1 s = b ∧ s < X.2 := by
  have h := (bt_sg hX hb).mpr h
  unfold bt at h
  by_cases z : s < X.2
  · rw [if_pos z] at h
    have h := (nI_eq (by have := hX s; omega) (by omega)).mp h
    have n1 : ¬ bD X s = true := fun w => by have := of_decide_eq_true w; omega
    have n2 : ¬ bL X s = true := fun w => by have := of_decide_eq_true w; omega
    have n3 : ¬ twP X s = true := fun w => by have := (of_decide_eq_true w).1; omega
    unfold te
    rw [if_neg n1, if_neg n2, if_neg n3]
    exact ⟨rfl, h, z⟩
  · rw [if_neg z] at h
    exact absurd h.symm (nI_nm1 (by omega))
theorem bt_34 {X : Tx} {s : Nat} (hX : ∀ j, X.1 j < 256) : bt X s = -1 ↔ kd X s = 34 := by
  unfold bt
  constructor
  · intro h
    by_cases z : s < X.2
    · rw [if_pos z] at h
      exact absurd h (nI_nm1 (by have := hX s; omega))
    · exact ky_N (by omega)
  · intro h
    rw [if_neg (by have := ky_34 h; omega)]
/-- a word asked for -/
theorem isWs {X : Tx} {s k : Nat} {δ : Dm} (hk : k < 21) (h : RX X δ) (h9 : gI δ 151 9 = nI s) (hs : s ≤ X.2) (hsp : sp X s = s) : f_Mo_isWord (wW k) δ = some (if kd X s = k then 1 else 0, δ) := by
  rw [isWord_R hk h h9 hs, hsp, sI_same h9]
theorem wIf {X : Tx} {s k : Nat} {δ : Dm} {α : Type} {A B : Dm → Option α} {w : Int64} (hk : k < 21) (h : RX X δ) (h9 : gI δ 151 9 = nI s) (hs : s ≤ X.2) (hsp : sp X s = s) (hw : w = wW k) : (f_Mo_isWord w δ).bind (fun y => bnd y.1 (fun v => bnd y.2 (fun d => if v = 0 then A d else B d))) = if kd X s = k then B δ else A δ := by
  rw [hw, isWs hk h h9 hs hsp, Option.bind_some, bndE, bndE]
  by_cases z : kd X s = k
  · rw [if_pos z, if_pos z, if_neg (show ¬ (1 : Int32) = 0 by decide)]
  · rw [if_neg z, if_neg z, if_pos rfl]
theorem wordHere_R {X : Tx} {s : Nat} {δ : Dm} (h : RX X δ) (h9 : gI δ 151 9 = nI s) (hs : s ≤ X.2) (hsp : sp X s = s) : f_Mo_wordHere δ = some (if kd X s ≤ 8 then nI (kd X s) else -1, δ) := by
  unfold f_Mo_wordHere
  rw [wIf (k := 0) (by decide) h h9 hs hsp (by decide +kernel), wIf (k := 1) (by decide) h h9 hs hsp (by decide +kernel), wIf (k := 2) (by decide) h h9 hs hsp (by decide +kernel), wIf (k := 3) (by decide) h h9 hs hsp (by decide +kernel), wIf (k := 4) (by decide) h h9 hs hsp (by decide +kernel), wIf (k := 5) (by decide) h h9 hs hsp (by decide +kernel), wIf (k := 6) (by decide) h h9 hs hsp (by decide +kernel), wIf (k := 7) (by decide) h h9 hs hsp (by decide +kernel), wIf (k := 8) (by decide) h h9 hs hsp (by decide +kernel)]
  obtain ⟨k, hk⟩ : ∃ k, kd X s = k := ⟨_, rfl⟩
  rw [hk]
  by_cases z0 : k = 0
  · subst z0; rfl
  by_cases z1 : k = 1
  · subst z1; rfl
  by_cases z2 : k = 2
  · subst z2; rfl
  by_cases z3 : k = 3
  · subst z3; rfl
  by_cases z4 : k = 4
  · subst z4; rfl
  by_cases z5 : k = 5
  · subst z5; rfl
  by_cases z6 : k = 6
  · subst z6; rfl
  by_cases z7 : k = 7
  · subst z7; rfl
  by_cases z8 : k = 8
  · subst z8; rfl
  rw [if_neg z0, if_neg z1, if_neg z2, if_neg z3, if_neg z4, if_neg z5, if_neg z6, if_neg z7, if_neg z8, if_neg (by omega)]
/-- an op more -/
theorem puts_R {t : Nat} {X : Tx} {c : Nat} {δ : Dm} {q : Qs} {a1 a2 o : Int32} (ht : t < 8) (h : RS t X (c + 1) δ q) (ho : a1 + 16 * a2 = nI (rsg o)) : ∃ d, f_Mo_puts a1 a2 δ = some d ∧ RS t X c d (em q o) ∧ Fr1 t δ d ∧ gI d 151 9 = gI δ 151 9 := by
  obtain ⟨a, ⟨p, b1, b2, b3, b4⟩, c1, c2, c3, c4, c5, c6⟩ := h
  have hX := a.1
  have e : (400 : Int32) * nI t = nI (400 * t) := pk_mul 400 _
  unfold f_Mo_puts
  rw [c2, if_pos (inb_i ht (by decide)), ixN (by omega), c5, e, nI_add, if_pos (inb_i (show 400 * t + q.2.2.length < 3200 by omega) (by decide)), ixN (by omega), ho, bndE, gsr (by decide), c2, if_pos (inb_i ht (by decide)), if_pos (inb_i ht (by decide)), ixN (by omega), gsr (by decide), c5, bndE, nI_1]
  refine ⟨_, rfl, ⟨a.fr (by rw [gsr (by decide), gsr (by decide)]) (fun j => by rw [gsr (by decide), gsr (by decide)]), ⟨p, b1, b2, ?_, ?_⟩, ?_, ?_, ?_, c4, ?_, fun k o' hk => ?_⟩, fun b j q1 q2 q3 => ?_, ?_⟩
  · rw [gsr (by decide), gsr (by decide)]; exact b3
  · show (q.2.2 ++ [o]).length + c ≤ p
    rw [List.length_append, List.length_cons, List.length_nil]; omega
  · rw [gsr (by decide), gsr (by decide)]; exact c1
  · rw [gsr (by decide), gsr (by decide)]; exact c2
  · rw [gsr (by decide), gsr (by decide)]; exact c3
  · rw [gss]
    show nI (q.2.2.length + 1) = nI (q.2.2 ++ [o]).length
    rw [List.length_append]; rfl
  · have hk : (q.2.2 ++ [o])[k]? = some o' := hk
    rw [gsr (by decide)]
    rw [List.getElem?_append] at hk
    by_cases z : k < q.2.2.length
    · rw [if_pos z] at hk
      rw [gsc (by omega)]
      exact c6 k o' hk
    · rw [if_neg z] at hk
      have hk1 := idx_lt hk
      rw [List.length_cons, List.length_nil] at hk1
      have e : k = q.2.2.length := by omega
      rw [e, Nat.sub_self] at hk
      obtain rfl := Option.some.inj hk
      rw [e, gss]
  · rw [gs, if_neg q3, gs, if_neg (by omega)]
  · rw [gsr (by decide), gsr (by decide)]
/-- one more made, or too many -/
theorem makes_R {t : Nat} {X : Tx} {c a : Nat} {δ : Dm} {q : Qs} (h : RS t X c δ q) : (60 ≤ q.2.1 → f_Mo_makes (nI a) δ = some (0, sI δ 151 10 (nI (flw a 3)))) ∧ (q.2.1 < 60 → f_Mo_makes (nI a) δ = some (1, sI δ 151 13 (nI (q.2.1 + 1))) ∧ RS t X c (sI δ 151 13 (nI (q.2.1 + 1))) (q.1, q.2.1 + 1, q.2.2)) := by
  obtain ⟨a1, ⟨p, b1, b2, b3, b4⟩, c1, c2, c3, c4, c5, c6⟩ := id h
  unfold f_Mo_makes
  rw [c3]
  refine ⟨fun z => ?_, fun z => ⟨?_, ?_⟩⟩
  · rw [if_pos (show nI q.2.1 = (60 : Int32) by rw [show q.2.1 = 60 by omega]; rfl)]
    exact rbool (x := f_Mo_fails 3 (nI a) δ) (fails_R (n := 3) c1) (Or.inl rfl)
  · rw [if_neg (show ¬ nI q.2.1 = (60 : Int32) from fun w => by have := (nI_eq (b := 60) (by omega) (by decide)).mp w; omega), bndE, nI_1]
  · exact ⟨a1.fr (gsc (by decide)) (fun j => gsr (by decide)), ⟨p, b1, b2, by rw [gsc (by decide)]; exact b3, b4⟩, by rw [gsc (by decide)]; exact c1, by rw [gsc (by decide)]; exact c2, gss, z, by rw [gsr (by decide)]; exact c5, fun k o q => by rw [gsr (by decide)]; exact c6 k o q⟩
theorem ifI {α : Type} {p : Prop} [Decidable p] {A B : α} : (if (if p then (1 : Int32) else 0) = 0 then A else B) = if p then B else A := by
  by_cases z : p
  · rw [if_pos z, if_pos z, if_neg (by decide)]
  · rw [if_neg z, if_neg z, if_pos rfl]
theorem value_R {t : Nat} {X : Tx} (ht : t < 8) : OR t X f_Mo_value (pV X) := fun c δ q h => by
  obtain ⟨hq, h4, hsp, hcr⟩ := h.at
  obtain ⟨e1, h1⟩ := h.see
  obtain ⟨D, hD⟩ : ∃ D, sI δ 151 9 (nI q.1) = D := ⟨_, rfl⟩
  have D9 : gI D 151 9 = nI q.1 := by rw [← hD]; exact gss
  have fD : Fr1 t δ D := by rw [← hD]; exact (Fr1.refl t δ).s (Or.inl rfl)
  rw [hD] at e1 h1
  unfold f_Mo_value pV
  rw [e1, Option.bind_some, bndE, bndE, bndE, D9, isDig_R h1.1 (by omega), Option.bind_some, ifI]
  by_cases z : kd X q.1 = 21
  · have zb : bD X q.1 = true := (ky_21 (ky_lt (by omega))).mp z
    rw [if_pos z, if_pos zb]
    obtain ⟨v, d, n1, n2, n3⟩ := num_R (X := X) (hi := 99999) (u := q.2) (by decide) h1.1 D9 hq h1.2.2.1
    rw [show (99999 : Int32) = nI 99999 from rfl, n1, Option.bind_some, bndE, bndE]
    unfold pN at n3
    rw [hsp, if_pos z] at n3
    by_cases y : vl X q.1 < 0
    · rw [if_neg (fun w => absurd w.1 (Int32.not_le.mpr y))] at n3
      obtain ⟨n4, n5⟩ := n3
      rw [if_pos y, n4, if_pos rfl]
      exact ⟨0, d, rfl, ⟨rfl, n5⟩, fD.trans n2.one⟩
    · obtain ⟨k, k1, k2⟩ := vl_le z y
      rw [if_pos (by rw [k2]; exact ⟨nI_pos' (by omega), (leN (by omega) (by omega)).mpr k1⟩), k2, ixN (by omega)] at n3
      obtain ⟨n4, n5, n6, n7, n8, n9⟩ := n3
      rw [if_neg y, n4, if_neg (show ¬ (1 : Int32) = 0 by decide)]
      have hd : RS t X (c + 1) d (nx X q.1, q.2) := h1.up (k := 1) (q' := (nx X q.1, q.2)) (h1.1.fr (n2 _ _ (by omega)) (fun j => n2 _ _ (by omega))) n8 rfl n6 rfl n9 n5 (by rw [n2 _ _ (by omega)]; exact h1.2.2.2.2.1) h1.2.2.2.2.2.1 (n2 _ _ (by omega)) (n2 _ _ (by omega)) (fun j => n2 _ _ (by omega))
      obtain ⟨m1, m2⟩ := makes_R (a := q.1) hd
      by_cases x : 60 ≤ q.2.1
      · rw [if_pos x, m1 x, Option.bind_some, bndE, bndE, if_pos rfl]
        exact ⟨_, _, rfl, ⟨rfl, gss⟩, (fD.trans n2.one).s (by decide)⟩
      · obtain ⟨m3, m4⟩ := m2 (show q.2.1 < 60 by omega)
        rw [if_neg x, m3, Option.bind_some, bndE, bndE, if_neg (show ¬ (1 : Int32) = 0 by decide)]
        obtain ⟨d2, p1, p2, p3, -⟩ := puts_R (a1 := 0) (a2 := gI (sI d 151 13 (nI ((nx X q.1, q.2).2.1 + 1))) 151 11) (o := nI k) ht m4 (by
          rw [gsc (by decide), n7, show (16 : Int32) * nI k = nI (16 * k) from pk_mul 16 _]
          unfold rsg
          rw [if_pos (nI_pos' (by omega)), ixN (by omega)]
          exact Int32.zero_add _)
        rw [p1, k2]
        exact ⟨_, _, rfl, ⟨rfl, p2⟩, ((fD.trans n2.one).s (by decide)).trans p3⟩
  · have zb : ¬ bD X q.1 = true := fun w => z ((ky_21 (of_decide_eq_true w).1).mpr w)
    rw [if_neg z, if_neg zb, wordHere_R h1.1 D9 hq hsp, Option.bind_some, bndE, bndE]
    by_cases y : kd X q.1 ≤ 8
    · rw [if_pos y, if_pos y, if_pos (nI_pos' (by omega))]
      obtain ⟨m1, m2⟩ := makes_R (a := q.1) h1
      by_cases x : 60 ≤ q.2.1
      · rw [if_pos x, m1 x, Option.bind_some, bndE, bndE, if_pos rfl]
        exact ⟨_, _, rfl, ⟨rfl, gss⟩, fD.s (by decide)⟩
      · obtain ⟨m3, m4⟩ := m2 (by omega)
        obtain ⟨w1, w2, w3, w4⟩ := ky_w (X := X) (p := q.1) (by omega)
        have hte : te X q.1 = enL X q.1 := by unfold te; rw [if_neg (by rw [w2]; decide), if_pos w3]
        have hgt := run_gt (enL_run X q.1) w3
        have hle := run_le (bL_N X) (enL_run X q.1) hq
        have m9 : gI (sI D 151 13 (nI (q.2.1 + 1))) 151 9 = nI q.1 := by rw [gsc (by decide)]; exact D9
        have m5 := m4.mv (k := 1) (p' := enL X q.1) (s := nx X q.1) hle (by rw [← hte]; rfl) hgt
        rw [if_neg x, m3, Option.bind_some, bndE, bndE, if_neg (show ¬ (1 : Int32) = 0 by decide), pass_R m4.1 m9 hq, Option.bind_some]
        obtain ⟨d2, p1, p2, p3, -⟩ := puts_R (a1 := 1) (a2 := nI (kd X q.1)) (o := -1 - nI (kd X q.1)) ht m5 (by
          have d : ∀ k, k ≤ 8 → 1 + (16 : Int32) * nI k = nI (rsg (-1 - nI k)) := by decide +kernel
          exact d _ y)
        rw [p1]
        exact ⟨_, _, rfl, ⟨rfl, p2⟩, ((fD.s (by decide)).s (by decide)).trans p3⟩
    · rw [if_neg y, if_neg y, if_neg (show ¬ (0 : Int32) ≤ -1 by decide)]
      refine ⟨_, _, rbool (x := f_Mo_fails 0 (nI q.1) D) (fails_R (n := 0) h1.2.2.1) (Or.inl rfl), ⟨rfl, gss⟩, fD.s (by decide)⟩
