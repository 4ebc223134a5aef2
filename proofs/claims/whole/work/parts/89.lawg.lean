/-! the class's law; what always holds of a law that was read -/
theorem Ap_wfo {b : Bool} {q r : Qs} (h : Ap b q r) : wfo (slc q.2.2 r.2.2) ∧ slc q.2.2 r.2.2 ≠ [] ∧ (b = true → ∀ w, evl (slc q.2.2 r.2.2) w = 0 ∨ evl (slc q.2.2 r.2.2) w = 1) := by
  obtain ⟨h1, h2, s, h3, h4⟩ := h
  rw [h3, slc_app]
  refine ⟨h4.2.1 0 60 (by omega), wP_ne h4, fun hb w => ?_⟩
  obtain ⟨v, e1, e2⟩ := h4.2.2 w []
  unfold evl
  rw [e1]
  exact e2 hb
def czOk (x : Cz) : Prop := x.1 ≤ 11 ∧ (x.1 = 11 → x.2.1 = [] ∧ x.2.2 = []) ∧ (x.1 < 11 → (6 ≤ x.1 → x.1 < 10 → x.2.1 = [] ∧ x.2.2 ≠ []) ∧ ((x.1 < 6 ∨ x.1 = 10) → wfo x.2.1) ∧ (x.2.2 ≠ [] → wfo x.2.2 ∧ ∀ w, evl x.2.2 w = 0 ∨ evl x.2.2 w = 1))
theorem slc_id (a : List Int32) : slc a a = [] := by unfold slc; rw [List.drop_length]
theorem pB_ok {X : Tx} {s : Nat} {sm : Bool} {z y : Zs} {q : Qs} (hs : s ≤ 10) (hsm : (sm = true ∧ (s < 6 ∨ s = 10)) ∨ (sm = false ∧ 6 ≤ s ∧ s < 10)) (hz : ∀ x ∈ z.2.1, czOk x) (h : pB X s sm z q = .inr y) : ∀ x ∈ y.2.1, czOk x := by
  unfold pB at h
  cases h1 : pB1 X sm q with
  | inl w => rw [h1] at h; cases h
  | inr q1 =>
    rw [h1] at h
    have h : rzb (pB2 X sm q1) _ = _ := h
    cases h2 : pB2 X sm q1 with
    | inl w => rw [h2] at h; cases h
    | inr q2 =>
      rw [h2] at h; cases h
      intro x hx
      rcases List.mem_append.mp hx with hx | hx
      · exact hz x hx
      · obtain rfl := List.mem_singleton.mp hx
        unfold pB1 at h1
        unfold pB2 at h2
        have ht : ∀ {p : Qs}, p.2.2 = q1.2.2 → pO X (pF X 12) 0 p = .inr q2 → wfo (slc q1.2.2 q2.2.2) ∧ slc q1.2.2 q2.2.2 ≠ [] ∧ ∀ w, evl (slc q1.2.2 q2.2.2) w = 0 ∨ evl (slc q1.2.2 q2.2.2) w = 1 := fun e hp => by
          obtain ⟨a, b, c⟩ := Ap_wfo (pX_ap hp)
          rw [e] at a b c
          exact ⟨a, b, c rfl⟩
        rcases hsm with ⟨rfl, h6⟩ | ⟨rfl, h6⟩
        · rw [if_pos rfl] at h1 h2
          refine ⟨by show s ≤ 11; omega, fun e => by have e : s = 11 := e; omega, fun _ => ⟨fun a b => by have a : 6 ≤ s := a; have b : s < 10 := b; omega, fun _ => (Ap_wfo (pS_ap h1)).1, fun ne => ?_⟩⟩
          by_cases y : kd X q1.1 = 17
          · rw [if_pos y] at h2
            have a := ht (p := nq X q1) rfl h2
            exact ⟨a.1, a.2.2⟩
          · rw [if_neg y] at h2; cases h2
            exact absurd (slc_id _) ne
        · rw [if_neg (by decide)] at h1 h2
          cases h1
          have a := ht (p := q) rfl h2
          exact ⟨by show s ≤ 11; omega, fun e => by have e : s = 11 := e; omega, fun _ => ⟨fun _ _ => ⟨slc_id _, a.2.1⟩, fun e => by have e : s < 6 ∨ s = 10 := e; omega, fun _ => ⟨a.1, a.2.2⟩⟩⟩
theorem pN_le {X : Tx} {hi u : Nat} {q : Qs} (hh : hi < 100000) (h : pN X hi q = .inr u) : u ≤ hi := by
  unfold pN at h
  by_cases z : kd X q.1 = 21
  · rw [if_pos z] at h
    by_cases y : 0 ≤ vl X q.1 ∧ vl X q.1 ≤ nI hi
    · rw [if_pos y] at h
      obtain ⟨k, a1, a2⟩ := vl_le z (Int32.not_lt.mpr y.1)
      rw [a2] at y h
      rw [ixN (by omega)] at h
      cases h
      exact (leN (by omega) (by omega)).mp y.2
    · rw [if_neg y] at h; cases h
  · rw [if_neg z] at h; cases h
theorem pCl_ok {X : Tx} {z y : Zs} (hz : ∀ x ∈ z.2.1, czOk x) (h : pCl X z = .inr y) : ∀ x ∈ y.2.1, czOk x := by
  have hkl := ky_le X z.1.1
  unfold pCl at h
  by_cases y1 : kd X z.1.1 < 9 ∨ 16 < kd X z.1.1
  · rw [if_pos y1] at h; cases h
  rw [if_neg y1] at h
  by_cases y2 : 14 ≤ z.2.1.length
  · rw [if_pos y2] at h; cases h
  rw [if_neg y2] at h
  by_cases y3 : kd X z.1.1 = 11
  · rw [if_pos y3] at h
    cases h1 : pN X 2 (nq X z.1) with
    | inl w => rw [h1] at h; cases h
    | inr b =>
      rw [h1] at h
      have h : (if z.2.2 b = -1 then _ else _) = _ := h
      by_cases y4 : z.2.2 b = -1
      · rw [if_pos y4] at h
        cases h2 : pN X 999 (nq X (nq X z.1)) with
        | inl w => rw [h2] at h; cases h
        | inr v =>
          rw [h2] at h; cases h
          intro x hx
          rcases List.mem_append.mp hx with hx | hx
          · exact hz x hx
          · obtain rfl := List.mem_singleton.mp hx
            exact ⟨Nat.le_refl _, fun _ => ⟨rfl, rfl⟩, fun q => absurd q (by decide)⟩
      · rw [if_neg y4] at h; cases h
  rw [if_neg y3] at h
  by_cases y4 : kd X z.1.1 < 11
  · rw [if_pos y4] at h
    cases h1 : pN X 2 (nq X z.1) with
    | inl w => rw [h1] at h; cases h
    | inr b =>
      rw [h1] at h
      have := pN_le (by decide) h1
      exact pB_ok (by omega) (Or.inl ⟨rfl, by omega⟩) hz h
  · rw [if_neg y4] at h
    by_cases y5 : kd X z.1.1 = 16
    · exact pB_ok (by omega) (Or.inl ⟨decide_eq_true y5, by omega⟩) hz h
    · exact pB_ok (by omega) (Or.inr ⟨decide_eq_false y5, by omega, by omega⟩) hz h
theorem pLs_ok {X : Tx} : ∀ g z y, z.2.1.length ≤ 14 → (∀ x ∈ z.2.1, czOk x) → pLs X g z = .inr y → y.2.1.length ≤ 14 ∧ ∀ x ∈ y.2.1, czOk x := by
  intro g
  induction g with
  | zero => intro z y hl hz h; cases h; exact ⟨hl, hz⟩
  | succ g ih =>
    intro z y hl hz h
    have h : rzb (pCl X z) _ = _ := h
    cases h1 : pCl X z with
    | inl w => rw [h1] at h; cases h
    | inr u =>
      rw [h1] at h
      have h : (if kd X u.1.1 = 33 then _ else _) = _ := h
      have hu := pCl_ok hz h1
      obtain ⟨l1, l2⟩ := pCl_len h1
      by_cases z1 : kd X u.1.1 = 33
      · rw [if_pos z1] at h
        exact ih (nq X u.1, u.2) y (by show u.2.1.length ≤ 14; omega) hu h
      · rw [if_neg z1] at h; cases h
        exact ⟨by omega, hu⟩
theorem pLaw_ok {X : Tx} {L : LawT} (h : pLaw X = .inr L) : LOk L := by
  unfold pLaw at h
  cases h1 : pLs X 15 ((sp X 0, 0, []), [], fun _ => -1) with
  | inl w => rw [h1] at h; cases h
  | inr z =>
    rw [h1] at h
    have h : (if kd X z.1.1 = 34 then (.inr z.2 : Nat ⊕ LawT) else .inl (flw z.1.1 0)) = _ := h
    by_cases z1 : kd X z.1.1 = 34
    · rw [if_pos z1] at h; cases h
      exact pLs_ok 15 _ z (Nat.zero_le _) (fun x hx => absurd hx List.not_mem_nil) h1
    · rw [if_neg z1] at h; cases h
theorem okT_up {nl nl' : Nat} {T : Tw} (hl : nl ≤ nl') (h : okT nl T) : okT nl' T := by
  obtain ⟨h1, h2, h3, h4⟩ := h
  refine ⟨h1, h2, fun b hb => ?_, h4⟩
  obtain ⟨a1, a2, a3, a4, a5, a6⟩ := h3 b hb
  exact ⟨a1, a2, a3, a4, by omega, a6⟩
abbrev tX (S : St) : Tx := (sP S, sN S)
def laS (S : St) (r : Nat ⊕ LawT) : St := match r with
  | .inl _ => (S.1, S.2.1, S.2.2.1, 0, S.2.2.2.2)
  | .inr L => (S.1, S.2.1 ++ [L], S.2.2.1, 0, S.2.2.2.2)
def laV (S : St) (r : Nat ⊕ LawT) : Int32 := match r with
  | .inl w => -2 - nI w
  | .inr _ => nI (sJ S).length
theorem ok_laS {S : St} {r : Nat ⊕ LawT} (h : Ok S) (hl : (sJ S).length < 8) (hr : pLaw (tX S) = r) : Ok (laS S r) := by
  obtain ⟨h1, h2, h3, h4, h5, h6, h7⟩ := h
  cases r with
  | inl w => exact ⟨h1, h2, h3, Nat.zero_le _, h5, h6, h7⟩
  | inr L =>
    have e : (sJ S ++ [L]).length = (sJ S).length + 1 := by rw [List.length_append]; rfl
    refine ⟨okT_up (by show (sJ S).length ≤ (sJ S ++ [L]).length; omega) h1, by show (sJ S ++ [L]).length ≤ 8; omega, fun x hx => ?_, Nat.zero_le _, h5, fun q hq => ⟨okT_up (by show (sJ S).length ≤ (sJ S ++ [L]).length; omega) (h6 q hq).1, (h6 q hq).2⟩, h7⟩
    rcases List.mem_append.mp hx with hx | hx
    · exact h3 x hx
    · obtain rfl := List.mem_singleton.mp hx
      exact pLaw_ok hr
theorem law_C {n : Nat} {δ : Dm} {S : St} (h : RepC δ n S) (ok : Ok S) (hl : (sJ S).length < 8) : ∃ d, f_Fp_law δ = some (laV S (pLaw (tX S)), d) ∧ RepC d n (laS S (pLaw (tX S))) ∧ KM δ d := by
  obtain ⟨h1, h2, h3, h4, h5, h6, h7, h8⟩ := h
  obtain ⟨i, hi⟩ : ∃ i, (sJ S).length = i := ⟨_, rfl⟩
  rw [hi] at hl h2
  obtain ⟨t1, t2⟩ := isL_at i hl
  obtain ⟨f, d, e1, fr, e2⟩ := read_C (X := tX S) t1 (LKd_l hl) ⟨ok.2.2.2.1, ok.2.2.2.2.1, h5⟩
  have run : f_Fp_law δ = (if f ≤ 0 then (bnd (sI (sI d 4 1 0) 4 3 ((gI (sI d 4 1 0) 4 3) + (1 : Int32))) (fun δ_75 => (some (((gI δ_75 4 3) - (1 : Int32)), δ_75)))) else (some (((-2 : Int32) - f), sI d 4 1 0))) := by
    unfold f_Fp_law
    rw [h2, if_neg (nI_pos (by omega)), if_pos (show nI i < (8 : Int32) from nI_lt hl (by decide)), if_pos (inb_i hl (by decide)), ixN (by omega), t2]
    simp only [ocs]
    rw [if_pos t1, h4, e1, Option.bind_some, bndE, bndE, bndE]
  have d43 : gI d 4 3 = nI i := by rw [fr 4 3 (by omega) (by omega)]; exact h2
  have fr1 : ∀ b j, (b < 4 ∨ b = 5 ∨ (b = 4 ∧ j ≠ 1 ∧ j ≠ 3) ∨ 10 < b) → (b < 87 + 8 * i ∨ 87 + 8 * i + 8 ≤ b) → ∀ x, gI (sI (sI d 4 1 0) 4 3 x) b j = gI δ b j := fun b j q1 q2 x => by
    rw [gs, if_neg (by omega), gs, if_neg (by omega)]; exact fr b j (by omega) q2
  have fr0 : ∀ b j, (b < 4 ∨ b = 5 ∨ (b = 4 ∧ j ≠ 1) ∨ 10 < b) → (b < 87 + 8 * i ∨ 87 + 8 * i + 8 ≤ b) → gI (sI d 4 1 0) b j = gI δ b j := fun b j q1 q2 => by
    rw [gs, if_neg (by omega)]; exact fr b j (by omega) q2
  obtain ⟨r, hr⟩ : ∃ r, pLaw (tX S) = r := ⟨_, rfl⟩
  rw [run]
  rw [hr] at e2 ⊢
  cases r with
  | inl w =>
    obtain ⟨q1, q2, q3⟩ := e2
    rw [q1, if_neg (show ¬ nI w ≤ 0 from nI_ge (a := 0) (b := w) (by omega) (by omega))]
    refine ⟨_, rfl, ⟨RC_keep h1 (fun o j ho => fr0 _ _ (by omega) (by omega)), by rw [fr0 _ _ (by omega) (by omega), h2, ← hi]; rfl, fun k L q => ?_, gss, fun j hj => absurd hj (Nat.not_lt_zero _), h6, fun j q hq => ?_, fun k a b => by rw [fr0 _ _ (by omega) (by omega)]; exact h8 k a b⟩, fun b j q => fr0 _ _ (by omega) (by omega)⟩
    · have := idx_lt q
      have : k < (sJ S).length := this
      exact LC_keep (h3 k L q) (fun o j ho => fr0 _ _ (by omega) (by omega))
    · obtain ⟨a1, a2⟩ := h7 j q hq
      exact ⟨by rw [fr0 _ _ (by omega) (by omega)]; exact a1, RC_keep a2 (fun o k ho => fr0 _ _ (by omega) (by omega))⟩
  | inr L =>
    obtain ⟨q1, q2⟩ := e2
    rw [q1, if_pos (by decide), bndE, gss, gsc (by decide), d43, nI_1, show nI (i + 1) - 1 = nI i from nI_pred i]
    refine ⟨_, by rw [show laV S (.inr L) = nI i by rw [← hi]; rfl], ⟨RC_keep h1 (fun o j ho => fr1 _ _ (by omega) (by omega) _), ?_, fun k M q => ?_, ?_, fun j hj => absurd hj (Nat.not_lt_zero _), h6, fun j q hq => ?_, fun k a b => by rw [fr1 _ _ (by omega) (by omega)]; exact h8 k a b⟩, fun b j q => fr1 _ _ (by omega) (by omega) _⟩
    · rw [gss]
      show nI (i + 1) = nI (sJ S ++ [L]).length
      rw [List.length_append, hi]; rfl
    · have q : (sJ S ++ [L])[k]? = some M := q
      rw [List.getElem?_append] at q
      by_cases z : k < (sJ S).length
      · rw [if_pos z] at q
        exact LC_keep (h3 k M q) (fun o j ho => fr1 _ _ (by omega) (by omega) _)
      · rw [if_neg z] at q
        have hlt := idx_lt q
        rw [List.length_cons, List.length_nil] at hlt
        have e : k = i := by omega
        rw [e, hi, Nat.sub_self] at q
        obtain rfl := Option.some.inj q
        rw [e]
        exact LC_keep q2 (fun o j ho => by rw [gs, if_neg (by omega), gs, if_neg (by omega)])
    · rw [gsc (by decide), gss]; rfl
    · obtain ⟨a1, a2⟩ := h7 j q hq
      exact ⟨by rw [fr1 _ _ (by omega) (by omega)]; exact a1, RC_keep a2 (fun o k ho => fr1 _ _ (by omega) (by omega) _)⟩
