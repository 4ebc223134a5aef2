/-! the parser, pure; the class's reader: its steps -/
abbrev Qs : Type := Nat × Nat × List Int32
abbrev Rs : Type := Nat ⊕ Qs
def rbd (r : Rs) (f : Qs → Rs) : Rs := match r with
  | .inl w => .inl w
  | .inr q => f q
theorem rbd_l {w : Nat} {f : Qs → Rs} : rbd (.inl w) f = .inl w := rfl
theorem rbd_r {q : Qs} {f : Qs → Rs} : rbd (.inr q) f = f q := rfl
theorem rbd_rbd {r : Rs} {f g : Qs → Rs} : rbd (rbd r f) g = rbd r (fun q => rbd (f q) g) := by
  cases r <;> rfl
theorem rbd_i {r : Rs} : rbd r Sum.inr = r := by cases r <;> rfl
def flw (p why : Nat) : Nat := 1 + 8 * p + why
def em (q : Qs) (o : Int32) : Qs := (q.1, q.2.1, q.2.2 ++ [o])
def nq (X : Tx) (q : Qs) : Qs := (nx X q.1, q.2)
def pV (X : Tx) (q : Qs) : Rs :=
  if kd X q.1 = 21 then (if vl X q.1 < 0 then .inl (flw q.1 1) else if 60 ≤ q.2.1 then .inl (flw q.1 3) else .inr (nx X q.1, q.2.1 + 1, q.2.2 ++ [vl X q.1]))
  else if kd X q.1 ≤ 8 then (if 60 ≤ q.2.1 then .inl (flw q.1 3) else .inr (nx X q.1, q.2.1 + 1, q.2.2 ++ [-1 - nI (kd X q.1)]))
  else .inl (flw q.1 0)
def pT' (X : Tx) : Nat → Qs → Rs
  | 0, q => .inr q
  | f + 1, q => if kd X q.1 = 24 ∨ kd X q.1 = 25 then rbd (pV X (nq X q)) (fun r => pT' X f (em r (-1 - nI (kd X q.1)))) else .inr q
def pT (X : Tx) (q : Qs) : Rs := rbd (pV X q) (pT' X 401)
def pS' (X : Tx) : Nat → Qs → Rs
  | 0, q => .inr q
  | f + 1, q => if kd X q.1 = 22 ∨ kd X q.1 = 23 then rbd (pT X (nq X q)) (fun r => pS' X f (em r (-1 - nI (kd X q.1)))) else .inr q
def pS (X : Tx) (q : Qs) : Rs := rbd (pT X q) (pS' X 401)
def pC (X : Tx) (q : Qs) : Rs := rbd (pS X q) (fun r =>
  if kd X r.1 < 26 ∨ 30 < kd X r.1 then .inl (flw r.1 0) else if 60 ≤ r.2.1 then .inl (flw r.1 3)
  else rbd (pS X (nx X r.1, r.2.1 + 1, r.2.2)) (fun s => .inr (em s (-1 - nI (kd X r.1)))))
def pA' (X : Tx) (rf : Nat → Qs → Rs) (dep : Nat) : Nat → Qs → Rs
  | 0, q => .inr q
  | f + 1, q => if kd X q.1 = 19 then rbd (rf dep (nq X q)) (fun r => pA' X rf dep f (em r (-20))) else .inr q
def pA (X : Tx) (rf : Nat → Qs → Rs) (dep : Nat) (q : Qs) : Rs := rbd (rf dep q) (pA' X rf dep 401)
def pO' (X : Tx) (rf : Nat → Qs → Rs) (dep : Nat) : Nat → Qs → Rs
  | 0, q => .inr q
  | f + 1, q => if kd X q.1 = 18 then rbd (pA X rf dep (nq X q)) (fun r => pO' X rf dep f (em r (-19))) else .inr q
def pO (X : Tx) (rf : Nat → Qs → Rs) (dep : Nat) (q : Qs) : Rs := rbd (pA X rf dep q) (pO' X rf dep 401)
def pF (X : Tx) : Nat → Nat → Qs → Rs
  | 0, _, _ => .inl 0
  | g + 1, dep, q =>
    if kd X q.1 = 20 then (if 10 ≤ dep then .inl (flw q.1 2) else rbd (pF X g (dep + 1) (nq X q)) (fun r => .inr (em r (-21))))
    else if kd X q.1 = 31 then (if 10 ≤ dep then .inl (flw q.1 2) else rbd (pO X (pF X g) (dep + 1) (nq X q)) (fun r => if kd X r.1 = 32 then .inr (nq X r) else .inl (flw r.1 0)))
    else pC X q
/-- the class's reader -/
def SG (t : Nat) (X : Tx) (m c : Nat) (δ : Dm) (q : Qs) : Prop := ∃ j, j ≤ m ∧ pj X j = q.1 ∧ gI δ 7 4 = nI j ∧ gI δ 7 5 = nI (kd X q.1) ∧ gI δ 7 6 = nI q.2.1 ∧ gI δ 7 7 = 0 ∧ q.2.1 ≤ 60 ∧ gI δ t 1 = nI q.2.2.length ∧ (∀ k o, q.2.2[k]? = some o → gI δ (t + 7) k = o) ∧ q.2.2.length + c ≤ j + 1
def SF (w : Nat) (δ : Dm) : Prop := w ≠ 0 ∧ w < 4000 ∧ gI δ 7 7 = nI w ∧ gI δ 7 5 = 35
def Stt (t : Nat) (X : Tx) (m c : Nat) (δ : Dm) (r : Rs) : Prop := TA X m δ ∧ gI δ 7 8 = nI t ∧ match r with
  | .inl w => SF w δ
  | .inr q => SG t X m c δ q
def FrE (t : Nat) (δ d : Dm) : Prop := ∀ b j, b ≠ 7 → ¬ (b = t ∧ j = 1) → b ≠ t + 7 → gI d b j = gI δ b j
theorem FrE.trans {t : Nat} {a b c : Dm} (h : FrE t a b) (k : FrE t b c) : FrE t a c := fun x j q1 q2 q3 => (k x j q1 q2 q3).trans (h x j q1 q2 q3)
theorem FrE.refl (t : Nat) (a : Dm) : FrE t a a := fun _ _ _ _ _ => rfl
def OC (t : Nat) (X : Tx) (m : Nat) (F : Dm → Option Dm) (p : Qs → Rs) : Prop := ∀ c δ r, 1 ≤ c → Stt t X m c δ r → ∃ d, F δ = some d ∧ Stt t X m c d (rbd r p) ∧ FrE t δ d
theorem isL_r {t : Nat} (h : isL t = true) : 87 ≤ t ∧ t < 151 := by
  unfold isL at h
  rw [Bool.and_eq_true, Bool.and_eq_true] at h
  exact ⟨of_decide_eq_true h.1.1, of_decide_eq_true h.1.2⟩
theorem TA_fr {X : Tx} {m : Nat} {δ d : Dm} (h : TA X m δ) (h3 : gI d 7 3 = gI δ 7 3) (hk : ∀ b j, 8 ≤ b → b ≤ 10 → gI d b j = gI δ b j) : TA X m d := by
  obtain ⟨a0, a1, a2, a3, a4⟩ := h
  exact ⟨a0, a1, by rw [h3]; exact a2, a3, fun j hj => by rw [hk 8 j (by decide) (by decide), hk 9 j (by decide) (by decide), hk 10 j (by decide) (by decide)]; exact a4 j hj⟩
theorem St_w {t : Nat} {X : Tx} {m c c' w : Nat} {δ d : Dm} (h : Stt t X m c δ (.inl w)) (h3 : gI d 7 3 = gI δ 7 3) (h7 : gI d 7 7 = gI δ 7 7) (h8 : gI d 7 8 = gI δ 7 8) (h5 : gI d 7 5 = 35) (hk : ∀ b j, 8 ≤ b → b ≤ 10 → gI d b j = gI δ b j) : Stt t X m c' d (.inl w) := by
  obtain ⟨a, b, c1, c2, c3, -⟩ := h
  exact ⟨TA_fr a h3 hk, by rw [h8]; exact b, c1, c2, by rw [h7]; exact c3, h5⟩
theorem step_f {t : Nat} {X : Tx} {m c c' w : Nat} {δ : Dm} (h : Stt t X m c δ (.inl w)) : ∃ d, f_Re_step δ = some d ∧ Stt t X m c' d (.inl w) ∧ FrE t δ d := by
  have h7 := h.2.2.2.2.1
  have hw : gI δ 7 7 ≠ 0 := by rw [h7]; exact nI_ne0 (by have := h.2.2.1; omega) (by have := h.2.2.2.1; omega)
  unfold f_Re_step
  rw [bndE, gsc (by decide), if_neg hw]
  unfold jp_Re_step_51 jp_Re_step_52
  rw [if_pos rfl]
  unfold jp_Re_step_72
  rw [bndE]
  exact ⟨_, rfl, St_w h (by rw [gsc (by decide), gsc (by decide)]) (by rw [gsc (by decide), gsc (by decide)]) (by rw [gsc (by decide), gsc (by decide)]) gss (fun b j q1 q2 => by rw [gsr (by omega), gsr (by omega)]), fun b j q1 _ _ => by rw [gsr q1, gsr q1]⟩
theorem fail_f {t : Nat} {X : Tx} {m c c' w : Nat} {a1 : Int32} {δ : Dm} (h : Stt t X m c δ (.inl w)) : ∃ d, f_Re_fail a1 δ = some d ∧ Stt t X m c' d (.inl w) ∧ FrE t δ d := by
  have h7 := h.2.2.2.2.1
  have hw : gI δ 7 7 ≠ 0 := by rw [h7]; exact nI_ne0 (by have := h.2.2.1; omega) (by have := h.2.2.2.1; omega)
  unfold f_Re_fail
  rw [if_neg hw]
  unfold jp_Re_fail_52
  rw [bndE]
  exact ⟨_, rfl, St_w h (gsc (by decide)) (gsc (by decide)) (gsc (by decide)) gss (fun b j q1 q2 => gsr (by omega)), fun b j q1 _ _ => gsr q1⟩
theorem emit_f {t : Nat} {X : Tx} {m c c' w : Nat} {o : Int32} {δ : Dm} (ht : isL t = true) (h : Stt t X m c δ (.inl w)) : ∃ d, f_La_emit t o δ = some d ∧ Stt t X m c' d (.inl w) ∧ FrE t δ d := by
  obtain ⟨t1, t2⟩ := isL_r ht
  unfold f_La_emit
  by_cases z1 : gI δ t 1 < 0
  · rw [if_pos z1]; exact ⟨_, rfl, St_w h rfl rfl rfl h.2.2.2.2.2 (fun _ _ _ _ => rfl), FrE.refl _ _⟩
  · rw [if_neg z1]
    by_cases z2 : (400 : Int32) ≤ gI δ t 1
    · rw [if_pos z2]; exact ⟨_, rfl, St_w h rfl rfl rfl h.2.2.2.2.2 (fun _ _ _ _ => rfl), FrE.refl _ _⟩
    · rw [if_neg z2, if_pos ((inb0 (by decide)).mpr ⟨z1, z2⟩), bndE, bndE]
      refine ⟨_, rfl, St_w h ?_ ?_ ?_ ?_ (fun b j q1 q2 => ?_), fun b j q1 q2 q3 => ?_⟩
      · rw [gsr (by omega), gsr (by omega)]
      · rw [gsr (by omega), gsr (by omega)]
      · rw [gsr (by omega), gsr (by omega)]
      · rw [gsr (by omega), gsr (by omega)]; exact h.2.2.2.2.2
      · rw [gsr (by omega), gsr (by omega)]
      · rw [gs, if_neg q2, gsr q3]
theorem step_g {t : Nat} {X : Tx} {m c : Nat} {q : Qs} {δ : Dm} (ht : isL t = true) (h : Stt t X m c δ (.inr q)) (hk : kd X q.1 ≠ 34) : ∃ d, f_Re_step δ = some d ∧ Stt t X m (c + 1) d (.inr (nq X q)) ∧ FrE t δ d := by
  obtain ⟨t1, t2⟩ := isL_r ht
  obtain ⟨hT, h8, j, g1, g2, g3, g4, g5, g6, g7, g8, g9, g10⟩ := h
  obtain ⟨a0, a1, a2, a3, a4⟩ := hT
  have hj : j < m := by
    refine Nat.lt_of_le_of_ne g1 fun z => ?_
    rw [z, a1] at g2
    exact hk (ky_N (by omega))
  have hp : pj X (j + 1) = nx X q.1 := by show nx X (pj X j) = _; rw [g2]
  unfold f_Re_step
  rw [bndE, gsc (by decide), gss, g6, if_pos rfl, g3, show nI j + (1 : Int32) = nI (j + 1) from nI_add j 1, if_neg (nI_pos (by omega)), gsc (by decide), a2, if_neg (nI_ge (by omega) (by omega)), if_neg (show ¬ (401 : Int32) ≤ nI (j + 1) from nI_ge (a := j + 1) (b := 401) (by omega) (by decide))]
  unfold jp_Re_step_52
  rw [if_neg (by decide), gss, if_pos (inb_i (show j + 1 < 401 by omega) (by decide)), ixN (by omega), gsr (by decide), (a4 (j + 1) (by omega)).1]
  unfold jp_Re_step_72
  rw [bndE, hp]
  refine ⟨_, rfl, ⟨TA_fr ⟨a0, a1, a2, a3, a4⟩ (by rw [gsc (by decide), gsc (by decide)]) (fun b j q1 q2 => by rw [gsr (by omega), gsr (by omega)]), by rw [gsc (by decide), gsc (by decide)]; exact h8, j + 1, hj, hp, by rw [gsc (by decide), gss], gss, by rw [gsc (by decide), gsc (by decide)]; exact g5, by rw [gsc (by decide), gsc (by decide)]; exact g6, g7, ?_, fun k o hk => ?_, by show q.2.2.length + (c + 1) ≤ j + 1 + 1; omega⟩, fun b j q1 _ _ => by rw [gsr q1, gsr q1]⟩
  · rw [gsr (by omega), gsr (by omega)]; exact g8
  · rw [gsr (by omega), gsr (by omega)]; exact g9 k o hk
theorem fail_g {t : Nat} {X : Tx} {m c c' why : Nat} {q : Qs} {δ : Dm} (h : Stt t X m c δ (.inr q)) (hw : why ≤ 4) : ∃ d, f_Re_fail (nI why) δ = some d ∧ Stt t X m c' d (.inl (flw q.1 why)) ∧ FrE t δ d := by
  obtain ⟨hT, h8, j, g1, g2, g3, g4, g5, g6, g7, g8, g9, g10⟩ := h
  obtain ⟨a0, a1, a2, a3, a4⟩ := id hT
  have hq : q.1 ≤ 400 := by
    by_cases z : j = m
    · rw [z, a1] at g2; omega
    · have := a3 j (by omega)
      rw [g2] at this; omega
  unfold f_Re_fail
  rw [if_pos g6, g3, if_neg (nI_pos (by omega)), if_neg (show ¬ (401 : Int32) ≤ nI j from nI_ge (a := j) (b := 401) (by omega) (by decide)), if_pos (inb_i (show j < 401 by omega) (by decide)), ixN (by omega), (a4 j g1).2.1, g2]
  unfold jp_Re_fail_39 jp_Re_fail_52
  rw [bndE, bndE, show ((1 : Int32) + ((8 : Int32) * nI q.1)) + nI why = nI (flw q.1 why) by rw [show (8 : Int32) * nI q.1 = nI (8 * q.1) from pk_mul 8 _, show (1 : Int32) + nI (8 * q.1) = nI (1 + 8 * q.1) from nI_add 1 _, nI_add]; rfl]
  refine ⟨_, rfl, ⟨TA_fr hT (by rw [gsc (by decide), gsc (by decide)]) (fun b j q1 q2 => by rw [gsr (by omega), gsr (by omega)]), by rw [gsc (by decide), gsc (by decide)]; exact h8, ?_, ?_, by rw [gsc (by decide), gss], gss⟩, fun b j q1 _ _ => by rw [gsr q1, gsr q1]⟩
  · unfold flw; omega
  · unfold flw; omega
theorem emit_g {t : Nat} {X : Tx} {m c : Nat} {q : Qs} {o : Int32} {δ : Dm} (ht : isL t = true) (h : Stt t X m (c + 1) δ (.inr q)) (hl : 1 ≤ c ∨ kd X q.1 ≠ 34) : ∃ d, f_La_emit t o δ = some d ∧ Stt t X m c d (.inr (em q o)) ∧ FrE t δ d := by
  obtain ⟨t1, t2⟩ := isL_r ht
  obtain ⟨hT, h8, j, g1, g2, g3, g4, g5, g6, g7, g8, g9, g10⟩ := h
  obtain ⟨a0, a1, a2, a3, a4⟩ := id hT
  have hlen : q.2.2.length < 400 := by
    rcases hl with z | z
    · omega
    · have : j ≠ m := fun w => by
        rw [w, a1] at g2
        exact z (ky_N (by omega))
      omega
  unfold f_La_emit
  rw [g8, if_neg (nI_pos (by omega)), if_neg (show ¬ (400 : Int32) ≤ nI q.2.2.length from nI_ge (a := q.2.2.length) (b := 400) (by omega) (by decide)), if_pos (inb_i (show q.2.2.length < 400 by omega) (by decide)), ixN (by omega), bndE, bndE, gsr (by omega), g8]
  refine ⟨_, rfl, ⟨TA_fr hT (by rw [gsr (by omega), gsr (by omega)]) (fun b j q1 q2 => by rw [gsr (by omega), gsr (by omega)]), by rw [gsr (by omega), gsr (by omega)]; exact h8, j, g1, g2, by rw [gsr (by omega), gsr (by omega)]; exact g3, by rw [gsr (by omega), gsr (by omega)]; exact g4, by rw [gsr (by omega), gsr (by omega)]; exact g5, by rw [gsr (by omega), gsr (by omega)]; exact g6, g7, ?_, fun k p hk => ?_, ?_⟩, fun b j q1 q2 q3 => by rw [gs, if_neg q2, gsr q3]⟩
  · rw [gss, nI_1]
    show nI (q.2.2.length + 1) = nI (q.2.2 ++ [o]).length
    rw [List.length_append]; rfl
  · have hk : (q.2.2 ++ [o])[k]? = some p := hk
    rw [gsr (by omega)]
    rw [List.getElem?_append] at hk
    by_cases z : k < q.2.2.length
    · rw [if_pos z] at hk
      rw [gsc (by omega)]
      exact g9 k p hk
    · rw [if_neg z] at hk
      have hk1 := idx_lt hk
      rw [List.length_cons, List.length_nil] at hk1
      have e : k = q.2.2.length := by omega
      rw [e, Nat.sub_self] at hk
      rw [e, gss]
      exact Option.some.inj hk
  · show (q.2.2 ++ [o]).length + c ≤ j + 1
    rw [List.length_append, List.length_cons, List.length_nil]; omega
/-- one more used -/
theorem use_f {t : Nat} {X : Tx} {m c c' w : Nat} {δ : Dm} {v : Int32} (h : Stt t X m c δ (.inl w)) : Stt t X m c' (sI δ 7 6 v) (.inl w) :=
  St_w h (gsc (by decide)) (gsc (by decide)) (gsc (by decide)) (by rw [gsc (by decide)]; exact h.2.2.2.2.2) (fun b j q1 q2 => gsr (by omega))
theorem use_g {t : Nat} {X : Tx} {m c : Nat} {q : Qs} {δ : Dm} (ht : isL t = true) (h : Stt t X m c δ (.inr q)) (hu : q.2.1 < 60) : Stt t X m c (sI δ 7 6 (gI δ 7 6 + 1)) (.inr (q.1, q.2.1 + 1, q.2.2)) := by
  obtain ⟨t1, t2⟩ := isL_r ht
  obtain ⟨hT, h8, j, g1, g2, g3, g4, g5, g6, g7, g8, g9, g10⟩ := h
  refine ⟨TA_fr hT (gsc (by decide)) (fun b j q1 q2 => gsr (by omega)), by rw [gsc (by decide)]; exact h8, j, g1, g2, by rw [gsc (by decide)]; exact g3, by rw [gsc (by decide)]; exact g4, by rw [gss, g5, nI_1], by rw [gsc (by decide)]; exact g6, hu, by rw [gsr (by omega)]; exact g8, fun k o hk => by rw [gsr (by omega)]; exact g9 k o hk, g10⟩
