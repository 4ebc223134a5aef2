/-! the reference's tests go as the machine goes -/
def SK (δ : Dm) (st : List Nat) : Prop := gI δ 151 17 = nI st.length ∧ gI δ 151 14 = nI (dpo st) ∧ dpo st ≤ 10 ∧ (∀ x ∈ st, x = 11 ∨ x = 12 ∨ x = 13 ∨ x = 91) ∧ ∀ i x, st.reverse[i]? = some x → gI δ 159 i = nI x
def RK (t : Nat) (X : Tx) (c : Nat) (δ : Dm) (q : Qs) (st : List Nat) : Prop := RS t X (c + st.length) δ q ∧ SK δ st
def Fr2 (t : Nat) (δ d : Dm) : Prop := ∀ b j, ¬ (b = 151 ∧ (j = 9 ∨ j = 10 ∨ j = 11 ∨ j = 13 ∨ j = 14 ∨ j = 17)) → ¬ (b = 154 ∧ 400 * t ≤ j ∧ j < 400 * t + 400) → ¬ (b = 155 ∧ j = t) → b ≠ 159 → gI d b j = gI δ b j
theorem Fr2.refl (t : Nat) (δ : Dm) : Fr2 t δ δ := fun _ _ _ _ _ _ => rfl
theorem Fr2.trans {t : Nat} {a b c : Dm} (h : Fr2 t a b) (k : Fr2 t b c) : Fr2 t a c := fun x j q1 q2 q3 q4 => (k x j q1 q2 q3 q4).trans (h x j q1 q2 q3 q4)
theorem Fr1.two {t : Nat} {a b : Dm} (h : Fr1 t a b) : Fr2 t a b := fun x j q1 q2 q3 _ => h x j (by omega) q2 q3
theorem Fr2.s {t j : Nat} {δ d : Dm} {v : Int32} (h : Fr2 t δ d) (hj : j = 9 ∨ j = 10 ∨ j = 11 ∨ j = 13 ∨ j = 14 ∨ j = 17) : Fr2 t δ (sI d 151 j v) := fun b i q1 q2 q3 q4 => by
  rw [gs, if_neg (by omega)]; exact h b i q1 q2 q3 q4
theorem SK.fr {δ d : Dm} {st : List Nat} (h : SK δ st) (h17 : gI d 151 17 = gI δ 151 17) (h14 : gI d 151 14 = gI δ 151 14) (h159 : ∀ j, gI d 159 j = gI δ 159 j) : SK d st := by
  obtain ⟨a1, a2, a3, a4, a5⟩ := h
  exact ⟨by rw [h17]; exact a1, by rw [h14]; exact a2, a3, a4, fun i x q => by rw [h159]; exact a5 i x q⟩
theorem SK.one {t : Nat} {δ d : Dm} {st : List Nat} (h : SK δ st) (f : Fr1 t δ d) : SK d st := h.fr (f _ _ (by omega) (by omega) (by omega)) (f _ _ (by omega) (by omega) (by omega)) (fun j => f _ _ (by omega) (by omega) (by omega))
theorem stl_pos {l : Nat} : ∀ st q, (stl l q st).1.1 = q.1 ∧ (stl l q st).1.2.1 = q.2.1 := by
  intro st
  induction st with
  | nil => intro q; exact ⟨rfl, rfl⟩
  | cons x st ih =>
    intro q
    unfold stl
    by_cases z : l ≤ stg x
    · rw [if_pos z]; exact ih (em q (opc x))
    · rw [if_neg z]; exact ⟨rfl, rfl⟩
theorem stl_nq {X : Tx} {l : Nat} : ∀ st q, stl l (nq X q) st = (nq X (stl l q st).1, (stl l q st).2) := by
  intro st
  induction st with
  | nil => intro q; rfl
  | cons x st ih =>
    intro q
    unfold stl
    by_cases z : l ≤ stg x
    · rw [if_pos z, if_pos z]; exact ih (em q (opc x))
    · rw [if_neg z, if_neg z]
theorem stl_top : ∀ st q, (∀ x ∈ st, x = 11 ∨ x = 12 ∨ x = 13 ∨ x = 91) → 91 ∈ st → ∃ y, (stl 1 q st).2 = 91 :: y := by
  intro st
  induction st with
  | nil => intro q _ h; cases h
  | cons x st ih =>
    intro q hx h
    unfold stl
    by_cases z : 1 ≤ stg x
    · rw [if_pos z]
      refine ih (em q (opc x)) (fun y hy => hx y (List.mem_cons_of_mem _ hy)) ?_
      rcases List.mem_cons.mp h with e | e
      · rw [← e] at z; exact absurd z (by decide)
      · exact e
    · rw [if_neg z]
      have := hx x (List.mem_cons_self ..)
      rcases this with e | e | e | e
      · subst e; exact absurd (by decide) z
      · subst e; exact absurd (by decide) z
      · subst e; exact absurd (by decide) z
      · exact ⟨st, by rw [e]⟩
theorem strength_R {x : Nat} {δ : Dm} (h : x = 11 ∨ x = 12 ∨ x = 13 ∨ x = 91) : f_Mo_strength (nI x) δ = some (nI (stg x)) := by
  rcases h with h | h | h | h <;> subst h <;> rfl
theorem stg_le (x : Nat) : stg x ≤ 3 := by
  unfold stg
  repeat' split
  all_goals decide
theorem SK_top {δ : Dm} {x : Nat} {st : List Nat} (h : SK δ (x :: st)) : gI δ 159 st.length = nI x ∧ (x = 11 ∨ x = 12 ∨ x = 13 ∨ x = 91) := by
  refine ⟨h.2.2.2.2 st.length x ?_, h.2.2.2.1 x (List.mem_cons_self ..)⟩
  rw [List.reverse_cons, List.getElem?_append_right (by rw [List.length_reverse]; exact Nat.le_refl _), List.length_reverse, Nat.sub_self]; rfl
theorem SK_tl {δ d : Dm} {x : Nat} {st : List Nat} (h : SK δ (x :: st)) (h17 : gI d 151 17 = nI st.length) (h14 : gI d 151 14 = nI (dpo st)) (h159 : ∀ j, gI d 159 j = gI δ 159 j) : SK d st := by
  obtain ⟨a1, a2, a3, a4, a5⟩ := h
  refine ⟨h17, h14, ?_, fun y hy => a4 y (List.mem_cons_of_mem _ hy), fun i y q => ?_⟩
  · have : dpo st ≤ dpo (x :: st) := by
      unfold dpo
      rw [List.filter_cons]
      by_cases z : (x == 11 || x == 91) = true
      · rw [if_pos z]; exact Nat.le_succ _
      · rw [if_neg z]; exact Nat.le_refl _
    omega
  · rw [h159]
    refine a5 i y ?_
    rw [List.reverse_cons]
    exact slice1 q
theorem SK_ps {δ d : Dm} {x : Nat} {st : List Nat} (h : SK δ st) (hx : x = 11 ∨ x = 12 ∨ x = 13 ∨ x = 91) (h17 : gI d 151 17 = nI (st.length + 1)) (h14 : gI d 151 14 = nI (dpo (x :: st))) (h10 : dpo (x :: st) ≤ 10) (hc : gI d 159 st.length = nI x) (h159 : ∀ j, j ≠ st.length → gI d 159 j = gI δ 159 j) : SK d (x :: st) := by
  obtain ⟨a1, a2, a3, a4, a5⟩ := h
  refine ⟨h17, h14, h10, fun y hy => ?_, fun i y q => ?_⟩
  · rcases List.mem_cons.mp hy with e | e
    · rw [e]; exact hx
    · exact a4 y e
  · rw [List.reverse_cons, List.getElem?_append] at q
    by_cases z : i < st.reverse.length
    · rw [if_pos z] at q
      rw [List.length_reverse] at z
      rw [h159 i (by omega)]
      exact a5 i y q
    · rw [if_neg z] at q
      have hi := idx_lt q
      rw [List.length_cons, List.length_nil] at hi
      rw [List.length_reverse] at z hi q
      have e : i = st.length := by omega
      rw [e, Nat.sub_self] at q
      obtain rfl := Option.some.inj q
      rw [e]; exact hc
theorem settle_L {t : Nat} {X : Tx} {c l : Nat} (ht : t < 8) (hl : 1 ≤ l ∧ l ≤ 3) : ∀ st F δ q, st.length < F → RK t X c δ q st → ∃ d, lp_Mo_settles_0 (fun δ0x => some δ0x) (nI l) F δ = some d ∧ RK t X c d (stl l q st).1 (stl l q st).2 ∧ Fr2 t δ d ∧ gI d 151 9 = gI δ 151 9 := by
  intro st
  induction st with
  | nil =>
    intro F δ q hF h
    obtain ⟨G, rfl⟩ : ∃ G, F = G + 1 := ⟨F - 1, by omega⟩
    rw [lp_Mo_settles_0, h.2.1, if_pos (show nI ([] : List Nat).length ≤ 0 by decide)]
    exact ⟨δ, rfl, h, Fr2.refl _ _, rfl⟩
  | cons x st ih =>
    intro F δ q hF h
    obtain ⟨G, rfl⟩ : ∃ G, F = G + 1 := ⟨F - 1, by omega⟩
    obtain ⟨hR, hS⟩ := h
    obtain ⟨t1, t2⟩ := SK_top hS
    obtain ⟨hq, h4, hsp, hcr⟩ := hR.at
    have hcr : q.2.2.length + (c + (st.length + 1)) ≤ q.1 := hcr
    have s17 : gI δ 151 17 = nI (st.length + 1) := hS.1
    have sl := stg_le x
    have hF : st.length + 1 < G + 1 := hF
    rw [lp_Mo_settles_0, s17, if_neg (nI_nle (by omega) (by omega)), show nI (st.length + 1) - 1 = nI st.length from nI_pred _, if_pos (inb_i (show st.length < 400 by omega) (by decide)), ixN (by omega), t1, strength_R t2, Option.bind_some]
    unfold stl
    by_cases z : l ≤ stg x
    · rw [if_neg (nI_nlt (a := stg x) (b := l) z (by omega)), if_pos z, bndE, gss, if_pos (inb_i (show st.length < 400 by omega) (by decide)), ixN (by omega), gsr (by decide), t1]
      obtain ⟨D, hD⟩ : ∃ D, sI δ 151 17 (nI st.length) = D := ⟨_, rfl⟩
      rw [hD]
      have fD : Fr2 t δ D := by rw [← hD]; exact (Fr2.refl t δ).s (by decide)
      have hRD : RS t X ((c + st.length) + 1) D q := by
        rw [← hD]
        obtain ⟨a1, ⟨p, b1, b2, b3, b4⟩, c1, c2, c3, c4, c5, c6⟩ := hR
        exact ⟨a1.fr (gsc (by decide)) (fun j => gsr (by decide)), ⟨p, b1, b2, by rw [gsc (by decide)]; exact b3, b4⟩, by rw [gsc (by decide)]; exact c1, by rw [gsc (by decide)]; exact c2, by rw [gsc (by decide)]; exact c3, c4, by rw [gsr (by decide)]; exact c5, fun k o q => by rw [gsr (by decide)]; exact c6 k o q⟩
      have hx91 : x ≠ 91 := fun w => by rw [w] at z; have : l ≤ 0 := z; omega
      obtain ⟨d, p1, p2, p3, p4⟩ := puts_R (a1 := nI x) (a2 := 0) (o := opc x) ht hRD (by
        rcases t2 with e | e | e | e
        · rw [e]; decide +kernel
        · rw [e]; decide +kernel
        · rw [e]; decide +kernel
        · exact absurd e hx91)
      have d17 : gI d 151 17 = nI st.length := by rw [p3 _ _ (by omega) (by omega) (by omega), ← hD, gss]
      have d14 : gI d 151 14 = nI (dpo (x :: st)) := by rw [p3 _ _ (by omega) (by omega) (by omega), ← hD, gsc (by decide)]; exact hS.2.1
      have d159 : ∀ j, gI d 159 j = gI δ 159 j := fun j => by rw [p3 _ _ (by omega) (by omega) (by omega), ← hD, gsr (by decide)]
      have d9 : gI d 151 9 = gI δ 151 9 := by rw [p4, ← hD, gsc (by decide)]
      rw [p1, Option.bind_some, d17, if_pos (inb_i (show st.length < 400 by omega) (by decide)), ixN (by omega), d159, t1]
      by_cases y : x = 11
      · rw [if_pos (show nI x = 11 by rw [y]; rfl), bndE, d14, y, dpo_y (Or.inl rfl), nI_pred]
        have h14 : ∀ j v, gI (sI d 151 14 v) 159 j = gI d 159 j := fun j v => gsr (by decide)
        obtain ⟨e, e1, e2, e3, e4⟩ := ih G (sI d 151 14 (nI (dpo st))) (em q (opc 11)) (by omega) ⟨by
          rw [y] at p2
          obtain ⟨a1, ⟨p, b1, b2, b3, b4⟩, c1, c2, c3, c4, c5, c6⟩ := p2
          exact ⟨a1.fr (gsc (by decide)) (fun j => gsr (by decide)), ⟨p, b1, b2, by rw [gsc (by decide)]; exact b3, b4⟩, by rw [gsc (by decide)]; exact c1, by rw [gsc (by decide)]; exact c2, by rw [gsc (by decide)]; exact c3, c4, by rw [gsr (by decide)]; exact c5, fun k o q => by rw [gsr (by decide)]; exact c6 k o q⟩, SK_tl hS (by rw [gsc (by decide)]; exact d17) gss (fun j => by rw [h14]; exact d159 j)⟩
        refine ⟨e, e1, ?_, ((fD.trans p3.two).s (by decide)).trans e3, by rw [e4, gsc (by decide)]; exact d9⟩
        exact e2
      · have hd : dpo (x :: st) = dpo st := dpo_n y hx91
        rw [if_neg (show ¬ nI x = 11 from fun w => y ((nI_eq (b := 11) (by omega) (by decide)).mp w))]
        obtain ⟨e, e1, e2, e3, e4⟩ := ih G d (em q (opc x)) (by omega) ⟨p2, SK_tl hS d17 (by rw [d14, hd]) d159⟩
        refine ⟨e, e1, ?_, (fD.trans p3.two).trans e3, by rw [e4]; exact d9⟩
        exact e2
    · rw [if_pos (nI_lt (a := stg x) (b := l) (by omega) (by omega)), if_neg z]
      exact ⟨δ, rfl, ⟨hR, hS⟩, Fr2.refl _ _, rfl⟩
theorem settle_R {t : Nat} {X : Tx} {c l : Nat} {st : List Nat} {δ : Dm} {q : Qs} (ht : t < 8) (hl : 1 ≤ l ∧ l ≤ 3) (h : RK t X c δ q st) : ∃ d, f_Mo_settles (nI l) δ = some d ∧ RK t X c d (stl l q st).1 (stl l q st).2 ∧ Fr2 t δ d ∧ gI d 151 9 = gI δ 151 9 := by
  have := h.1.at
  exact settle_L ht hl st FU δ q (FU_gt (by omega)) h
theorem inside_R {t : Nat} {X : Tx} {c : Nat} {st : List Nat} {δ : Dm} {q : Qs} (h : RK t X c δ q st) : f_Mo_isInside δ = some (if 91 ∈ st then 1 else 0) := by
  have hat := h.1.at
  obtain ⟨s1, s2, s3, s4, s5⟩ := h.2
  have hrl : st.reverse.length = st.length := List.length_reverse
  unfold f_Mo_isInside
  refine for_brk (fun f i (_ : Unit) => lp_Mo_isInside_2 (fun v1_2x => (some (0 : Int32))) δ f i) st.length (by omega) (fun i _ => ∀ k x, k < i → st.reverse[k]? = some x → x ≠ 91) (fun r => r = some (if 91 ∈ st then 1 else 0)) (fun f i a hi hI => ?_) (fun f a hI => ?_) 0 () (Nat.zero_le _) (fun k x hk => absurd hk (Nat.not_lt_zero _))
  · obtain ⟨x, hx⟩ : ∃ x, st.reverse[i]? = some x := ⟨_, List.getElem?_eq_getElem (by omega)⟩
    have hm : x ∈ st := List.mem_reverse.mp (List.mem_of_getElem? hx)
    have h4 := s4 x hm
    show lp_Mo_isInside_2 _ _ _ _ = _ ∨ ∃ a' : Unit, _ ∧ lp_Mo_isInside_2 _ _ _ _ = lp_Mo_isInside_2 _ _ _ _
    rw [lp_Mo_isInside_2, s1, if_neg (nI_ge hi (by omega)), if_pos (inb_i (show i < 400 by omega) (by decide)), ixN (by omega), s5 i x hx]
    by_cases z : x = 91
    · left
      rw [if_pos (show nI x = 91 by rw [z]; rfl), if_pos (by rw [← z]; exact hm)]
    · right
      rw [if_neg (show ¬ nI x = 91 from fun w => z ((nI_eq (b := 91) (by omega) (by decide)).mp w)), nI_1]
      refine ⟨(), fun k y hk hy => ?_, rfl⟩
      by_cases w : k = i
      · rw [w, hx] at hy; obtain rfl := Option.some.inj hy; exact z
      · exact hI k y (by omega) hy
  · show lp_Mo_isInside_2 _ _ _ _ = _
    rw [lp_Mo_isInside_2, s1, if_pos (nI_le (Nat.le_refl _) (by omega)), if_neg (fun w => ?_)]
    obtain ⟨i, hi, e⟩ := List.mem_iff_getElem.mp (List.mem_reverse.mpr w)
    exact hI i 91 (by omega) (by rw [List.getElem?_eq_getElem hi, e]) rfl
