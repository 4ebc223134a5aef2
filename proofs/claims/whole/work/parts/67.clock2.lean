/-! clock, whole -/
def FrB (δ d : Dm) : Prop := (∀ c j, c ≠ 152 → c ≠ 162 → ¬ (c = 151 ∧ j = 19) → gI d c j = gI δ c j) ∧ (∀ j, j = 7 ∨ (3926 ≤ j ∧ j < 8726) → gI d 152 j = gI δ 152 j)
theorem st3_0 {G : Nat → Nat} {b dy : Nat} {f : Nat → Nat} : st3 (up G 0 dy) b f = up (st3 G b f) 0 dy := by
  funext i
  by_cases h : 566 + 20 * b + 3 ≤ i ∧ i < 566 + 20 * b + 6
  · rw [up_n (by omega)]
    unfold st3
    rw [if_pos h, if_pos h]
  · rw [st3_n h]
    unfold up
    rw [st3_n h]
set_option maxHeartbeats 4000000 in
theorem ageb_M {b dy : Nat} {S : St} {G : Nat → Nat} {δ d : Dm} (h : RepM δ S) (hl : (sJ S).length ≤ 8) (hlo : ∀ L ∈ sJ S, LOk L) (ok : okT (sJ S).length (G, S.1.2)) (hG2 : G 2 = S.1.1 2) (hb : b < G 2) (hd : dy < 400) (hG : RGM d (up G 0 dy)) (hF : FrB δ d) (kx : Int32 → Dm → Option (Int32 × Dm)) (a1 : Int32) (f : Nat) : ∃ d', RGM d' (up (agb (sJ S) dy G b) 0 dy) ∧ FrB δ d' ∧ lp_Mo_clock_32 kx a1 (f + 1) (nI b) d = lp_Mo_clock_32 kx a1 f (nI (b + 1)) d' := by
  have h8 : G 2 ≤ 8 := ok.1.2.2.1
  have h12 : G 1 ≤ 12 := ok.1.2.1
  obtain ⟨b0, b1, b2, b3, b4, b5, -⟩ := ok.2.2.1 b hb
  have b0 : bc G b 0 < G 1 := b0
  have b4 : bc G b 2 < (sJ S).length := b4
  have hb8 : b < 8 := by omega
  obtain ⟨L, hL⟩ : ∃ L, (sJ S)[bc G b 2]? = some L := ⟨_, List.getElem?_eq_getElem b4⟩
  have okL : LOk L := hlo L (List.mem_of_getElem? hL)
  have hLM : LM (bc G b 2) δ L := h.2.2.1 _ _ hL
  have eb : ∀ w, bc (up G 0 dy) b w = bc G b w := fun w => up_n (by omega)
  obtain ⟨d1, a1', a2, a3, a4⟩ := lifts_eq (b := b) (δ := d) hb8
  have hG1 : RGM d1 (up G 0 dy) := fun i hi => by rw [a1' 152 i (by omega)]; exact hG i hi
  have z0 : gI d1 152 0 = nI dy := by rw [hG1 0 (Or.inl (Or.inl (by decide))), up_s]
  have q0 : gI d1 152 (566 + (20 * b + 0)) = nI (bc G b 0) := by rw [hG1 _ (Or.inl (dom_b hb8 (by decide)).1), up_n (by omega)]; rfl
  have q1 : gI d1 152 (410 + bc G b 0) = nI (G (410 + bc G b 0)) := by rw [hG1 _ (Or.inl (dom_l (by omega)).1), up_n (by omega)]
  have q2 : gI d1 152 (10 + dy) = nI (G (10 + dy)) := by rw [hG1 _ (Or.inl (dom_h hd).1), up_n (by omega)]
  obtain ⟨d2, c1, c2, c3⟩ := words_eq (hd := 0) (st := 0) (sp := nI (bc G b 8)) (bx := nI (bc G b 7)) hb8 q0 (by omega) q1 hd q2
  have E2 : ∀ c j, ¬ (c = 162 ∧ j < 3) → gI d2 c j = gI d c j := fun c j q => (gE c1 c j).trans (a1' c j q)
  have hG2' : RGM d2 (up G 0 dy) := fun i hi => by rw [E2 152 i (by omega)]; exact hG i hi
  obtain ⟨d3, f1, f2, f3, f4⟩ := tires_eq (i := bc G b 2) (r0 := 3) (w := agw G dy b) (st := stB G b) (δ := d2) (LM_keep2 hLM (fun b j p1 p2 => (E2 b j (by omega)).trans (hF.1 b j (by omega) (by omega) (by omega)))) okL (by omega) (Or.inr rfl) (fun k hk => ⟨by rw [gE c1, a2 k hk, hG _ (Or.inl (dom_b hb8 (by omega)).1), up_n (by omega)]; rfl, b5 k hk⟩) (fun k hk _ => c2 k hk)
  have E3 : ∀ c j, ¬ (c = 162 ∧ j < 3) → ¬ (c = 151 ∧ j = 19) → gI d3 c j = gI d c j := fun c j q r => (f1 c j r q).trans (E2 c j q)
  obtain ⟨d4, g1, g2, g3, g4⟩ := lays_eq (b := b) (δ := d3) hb8
  have hG3 : RGM d3 (up G 0 dy) := fun i hi => by rw [E3 152 i (by omega) (by omega)]; exact hG i hi
  have hG4 : RGM d4 (st3 (up G 0 dy) b (agf L G dy b)) := RGM_3 hG3 (fun j q => g1 152 j (by omega)) (fun k hk => by rw [g2 k hk]; exact f2 k hk)
  have E4 : ∀ c j, ¬ (c = 162 ∧ j < 3) → ¬ (c = 151 ∧ j = 19) → ¬ (c = 152 ∧ 566 + 20 * b + 3 ≤ j ∧ j < 566 + 20 * b + 6) → gI d4 c j = gI d c j := fun c j q r s => (g1 c j s).trans (E3 c j q r)
  refine ⟨sI d4 152 (726 + (400 * b + dy)) (nI (bc G b 7)), ?_, ⟨fun c j p q r => ?_, fun j q => ?_⟩, ?_⟩
  · have e : up (agb (sJ S) dy G b) 0 dy = up (st3 (up G 0 dy) b (agf L G dy b)) (726 + (400 * b + dy)) (bc G b 7) := by
      unfold agb
      rw [hL, st3_0]
      exact up_c (by omega)
    rw [e]
    exact RGM_up hG4
  · rw [gsr p, E4 c j (by omega) r (by omega)]; exact hF.1 c j p q r
  · rw [gsc (by omega), E4 152 j (by omega) (by omega) (by omega)]; exact hF.2 j q
  · have g20 : gI d 152 2 = nI (G 2) := by rw [hG 2 (Or.inl (Or.inl (by decide))), up_n (by omega)]
    have w8 : f_Mo_cell (nI b) 8 d1 = some (nI (bc G b 8)) := by
      have := rW (w := 8) hG1 hb8 (by decide); rw [eb] at this; exact this
    have w7 : f_Mo_cell (nI b) 7 d1 = some (nI (bc G b 7)) := by
      have := rW (w := 7) hG1 hb8 (by decide); rw [eb] at this; exact this
    have w2 : f_Mo_cell (nI b) 2 d2 = some (nI (bc G b 2)) := by
      have := rW (w := 2) hG2' hb8 (by decide); rw [eb] at this; exact this
    have w74 : f_Mo_cell (nI b) 7 d4 = some (nI (bc G b 7)) := by
      have := rW (w := 7) hG4 hb8 (by decide)
      rw [show bc (st3 (up G 0 dy) b (agf L G dy b)) b 7 = bc G b 7 from (st3_n (by omega)).trans (eb 7)] at this
      exact this
    have z4 : gI d4 152 0 = nI dy := by rw [hG4 0 (Or.inl (Or.inl (by decide))), st3_n (by omega), up_s]
    simp only [lp_Mo_clock_32, j2, x2, j0, x0]
    rw [g20, if_neg (nI_ge hb (by omega)), a4, Option.bind_some, w8, Option.bind_some, w7, Option.bind_some, z0, c3, Option.bind_some, w2, Option.bind_some, show f_Mo_tires (nI (bc G b 2)) 3 d2 = some d3 from f4, Option.bind_some, g4, Option.bind_some, w74, Option.bind_some, z4, show ((726 : Int32) + ((400 : Int32) * nI b)) + nI dy = nI (726 + (400 * b + dy)) by rw [lit, lit, pk_mul, nI_add, nI_add]; exact congrArg nI (by omega), if_pos (inb_i (by omega) (by decide)), ixN (show 726 + (400 * b + dy) < 2147483648 by omega), nI_1]
    simp only [bndE]
theorem ok_agN {dy : Nat} {J : List LawT} {T : Tw} (h : okT J.length T) (hd : T.1 0 ≤ dy) (hd4 : dy < 400) : ∀ n, n ≤ T.1 2 → okT J.length (agN J dy T.1 n, T.2) := by
  have h8 : T.1 2 ≤ 8 := h.1.2.2.1
  intro n
  induction n with
  | zero => intro _; exact h
  | succ n ih =>
    intro hn
    exact ok_agb (T := (agN J dy T.1 n, T.2)) (ih (by omega)) (by show n < agN J dy T.1 n 2; rw [agN_n (by omega) n (by omega) hd4]; omega) (by show agN J dy T.1 n 0 ≤ dy; rw [agN_n (by omega) n (by omega) hd4]; exact hd) hd4
theorem agN_oth {J : List LawT} {dy d b : Nat} {G : Nat → Nat} (hd : d ≠ dy) (hb : b < 8) (h4 : d < 400) (h4' : dy < 400) : ∀ n, n ≤ 8 → agN J dy G n (726 + (400 * b + d)) = G (726 + (400 * b + d)) := by
  intro n
  induction n with
  | zero => intro _; rfl
  | succ n ih =>
    intro hn
    show agb J dy (agN J dy G n) n _ = _
    rw [agb_n (by omega) (by omega)]
    exact ih (by omega)
theorem agN_box {J : List LawT} {dy b : Nat} {T : Tw} (h : okT J.length T) (hd : T.1 0 ≤ dy) (hd4 : dy < 400) : ∀ n, n ≤ T.1 2 → b < n → agN J dy T.1 n (726 + (400 * b + dy)) = bc T.1 b 7 := by
  have h8 : T.1 2 ≤ 8 := h.1.2.2.1
  intro n
  induction n with
  | zero => intro _ z; omega
  | succ n ih =>
    intro hn hb
    show agb J dy (agN J dy T.1 n) n _ = _
    by_cases q : b = n
    · subst q
      have e : ∀ w, w < 20 → ¬ (3 ≤ w ∧ w < 6) → bc (agN J dy T.1 b) b w = bc T.1 b w := fun w hw hn' => agN_n (by omega) b (by omega) hd4
      obtain ⟨-, -, -, -, b4, -⟩ := h.2.2.1 b (by omega)
      obtain ⟨L, hL⟩ : ∃ L, J[bc T.1 b 2]? = some L := ⟨_, List.getElem?_eq_getElem b4⟩
      unfold agb
      rw [e 2 (by decide) (by decide), hL, e 7 (by decide) (by decide)]
      exact up_s
    · rw [agb_n (by omega) (by omega)]
      exact ih (by omega) (by omega)
theorem agD_ok {J : List LawT} {T : Tw} (h : okT J.length T) : ∀ j, T.1 0 + j < 400 → okT J.length (agD J (T.1 2) (T.1 0) T.1 j, T.2) ∧ ∀ b d, b < T.1 2 → T.1 0 ≤ d → d < T.1 0 + j → agD J (T.1 2) (T.1 0) T.1 j (726 + (400 * b + d)) = bc (agD J (T.1 2) (T.1 0) T.1 j) b 7 := by
  have h8 : T.1 2 ≤ 8 := h.1.2.2.1
  intro j
  induction j with
  | zero => intro _; exact ⟨h, fun b d _ h1 h2 => by omega⟩
  | succ j ih =>
    intro hj
    obtain ⟨q1, q2⟩ := ih (by omega)
    have e0 : agD J (T.1 2) (T.1 0) T.1 j 0 = T.1 0 := agD_n (by omega) h8 j (by omega)
    have e2 : agD J (T.1 2) (T.1 0) T.1 j 2 = T.1 2 := agD_n (by omega) h8 j (by omega)
    have q3 := ok_agN (dy := T.1 0 + j) (T := (agD J (T.1 2) (T.1 0) T.1 j, T.2)) q1 (by show agD J (T.1 2) (T.1 0) T.1 j 0 ≤ _; omega) (by omega)
    refine ⟨q3 (T.1 2) (by show T.1 2 ≤ agD J (T.1 2) (T.1 0) T.1 j 2; omega), fun b d hb h1 h2 => ?_⟩
    show agN J (T.1 0 + j) (agD J (T.1 2) (T.1 0) T.1 j) (T.1 2) (726 + (400 * b + d)) = agN J (T.1 0 + j) (agD J (T.1 2) (T.1 0) T.1 j) (T.1 2) (566 + (20 * b + 7))
    rw [agN_n (i := 566 + (20 * b + 7)) (by omega) (T.1 2) h8 (by omega)]
    by_cases q : d = T.1 0 + j
    · subst q
      exact agN_box (T := (agD J (T.1 2) (T.1 0) T.1 j, T.2)) q1 (by show agD J (T.1 2) (T.1 0) T.1 j 0 ≤ _; omega) (by omega) (T.1 2) (by show T.1 2 ≤ agD J (T.1 2) (T.1 0) T.1 j 2; omega) hb
    · rw [agN_oth q (by omega) (by omega) (by omega) (T.1 2) h8]
      exact q2 b d hb h1 (by omega)
theorem ageAll_eq {n dy : Nat} {S : St} {G : Nat → Nat} {δ d : Dm} (h : RepC δ n S) (hl : (sJ S).length ≤ 8) (hlo : ∀ L ∈ sJ S, LOk L) (ok : okT (sJ S).length (G, S.1.2)) (hG2 : G 2 = S.1.1 2) (h0 : G 0 ≤ dy) (hd : dy < 400) (hG : RG 29 d G) (hF : FrA δ d) : ∃ d', RG 29 d' (agN (sJ S) dy G (S.1.1 2)) ∧ FrA δ d' ∧ f_Fp_ageAll (nI dy) d = some d' := by
  have h8 : G 2 ≤ 8 := ok.1.2.2.1
  unfold f_Fp_ageAll
  refine for_inv (fun f b d => lp_Fp_ageAll_2 (fun v2_2x δ2x => (some δ2x)) (nI dy) f b d) (S.1.1 2) (by omega) (fun b d => RG 29 d (agN (sJ S) dy G b) ∧ FrA δ d) (fun r => ∃ d', RG 29 d' (agN (sJ S) dy G (S.1.1 2)) ∧ FrA δ d' ∧ r = some d') (fun f b e hb hI => ?_) (fun f e hI => ?_) 0 d (Nat.zero_le _) ⟨hG, hF⟩
  · have e2 : agN (sJ S) dy G b 2 = G 2 := agN_n (by omega) b (by omega) hd
    obtain ⟨d', q1, q2, q3⟩ := ageb_C (b := b) (G := agN (sJ S) dy G b) h hl hlo (ok_agN (T := (G, S.1.2)) ok h0 hd b (by show b ≤ G 2; omega)) (by rw [e2, hG2]) (by rw [e2]; omega) hd hI.1 hI.2 (fun v2_2x δ2x => (some δ2x)) f
    exact ⟨d', ⟨q1, q2⟩, q3⟩
  · have g2 : gI e 29 2 = nI (S.1.1 2) := by rw [hI.2 29 2 (by omega)]; exact (cG h.1).2.2.1
    simp only [lp_Fp_ageAll_2]
    rw [g2, if_pos (nI_le (Nat.le_refl _) (by omega))]
    exact ⟨e, hI.1, hI.2, rfl⟩
theorem clock_C {n day : Nat} {S : St} {δ : Dm} (h : RepC δ n S) (ok : Ok S) (h0 : S.1.1 0 ≤ day) (hd : day < 400) : ∃ δ', f_Fp_clock (nI day) δ = some (1, δ') ∧ RepC δ' n ((up (agD (sJ S) (S.1.1 2) (S.1.1 0) S.1.1 (day - S.1.1 0)) 0 day, S.1.2), S.2) ∧ KM δ δ' := by
  have h8 : S.1.1 2 ≤ 8 := ok.1.1.2.2.1
  have g0 : gI δ 29 0 = nI (S.1.1 0) := (cG h.1).1
  unfold f_Fp_clock
  rw [within_eq, g0, Option.bind_some, ifb, if_pos ⟨nI_le h0 (by omega), show nI day ≤ (399 : Int32) from nI_le (b := 399) (by omega) (by decide)⟩, bndE]
  refine for_inv (fun f v d => lp_Fp_clock_27 (fun v2_27x δ27x => (bnd (sI δ27x 29 0 (nI day)) (fun δ_48 => (some ((1 : Int32), δ_48))))) (nI day) f v d) day (by omega) (fun v d => S.1.1 0 ≤ v ∧ RG 29 d (agD (sJ S) (S.1.1 2) (S.1.1 0) S.1.1 (v - S.1.1 0)) ∧ FrA δ d) (fun r => ∃ δ', r = some (1, δ') ∧ RepC δ' n ((up (agD (sJ S) (S.1.1 2) (S.1.1 0) S.1.1 (day - S.1.1 0)) 0 day, S.1.2), S.2) ∧ KM δ δ') (fun f v d hv hI => ?_) (fun f d hI => ?_) (S.1.1 0) δ h0 ⟨Nat.le_refl _, by rw [Nat.sub_self]; exact h.1.1, fun _ _ _ => rfl⟩
  · obtain ⟨i1, i2, i3⟩ := hI
    obtain ⟨j, rfl⟩ : ∃ j, v = S.1.1 0 + j := ⟨v - S.1.1 0, by omega⟩
    rw [Nat.add_sub_cancel_left] at i2
    have e0 : agD (sJ S) (S.1.1 2) (S.1.1 0) S.1.1 j 0 = S.1.1 0 := agD_n (by omega) h8 j (by omega)
    have e2 : agD (sJ S) (S.1.1 2) (S.1.1 0) S.1.1 j 2 = S.1.1 2 := agD_n (by omega) h8 j (by omega)
    obtain ⟨d', q1, q2, q3⟩ := ageAll_eq (dy := S.1.1 0 + j) h ok.2.1 ok.2.2.1 ((agD_ok (T := S.1) ok.1 j (by omega)).1) e2 (by omega) (by omega) i2 i3
    refine ⟨d', ⟨by omega, ?_, q2⟩, ?_⟩
    · rw [show S.1.1 0 + j + 1 - S.1.1 0 = j + 1 by omega]; exact q1
    · simp only [lp_Fp_clock_27]
      rw [if_neg (nI_ge hv (by omega)), q3, Option.bind_some, nI_1]
  · obtain ⟨i1, i2, i3⟩ := hI
    simp only [lp_Fp_clock_27]
    rw [if_pos (nI_le (Nat.le_refl _) (by omega)), bndE]
    refine ⟨_, rfl, SC_T h ok.2.1 (RC_G h.1 (RG_up 29 0 0 day (Or.inl (by decide)) rfl rfl i2) (fun o j q => ?_)) (fun a j q => ?_), fun a j q => ?_⟩
    · rw [gsr (by omega)]; exact i3 _ _ (by omega)
    · rw [gsr (by omega)]; exact i3 _ _ (by omega)
    · rw [gsr (by omega)]; exact i3 _ _ (by omega)
theorem clock_M {day : Nat} {S : St} {δ : Dm} (h : RepM δ S) (ok : Ok S) (h0 : S.1.1 0 ≤ day) (hd : day < 400) : ∃ δ', f_Mo_clock (nI day) δ = some (1, δ') ∧ RepM δ' ((up (agD (sJ S) (S.1.1 2) (S.1.1 0) S.1.1 (day - S.1.1 0)) 0 day, S.1.2), S.2) ∧ KC δ δ' := by
  have h8 : S.1.1 2 ≤ 8 := ok.1.1.2.2.1
  have g0 : gI δ 152 0 = nI (S.1.1 0) := (mS h.1).1
  unfold f_Mo_clock
  rw [j0, x0, g0, show (399 : Int64) = (nI 399).toInt64 from rfl, in_eq, Option.bind_some, ifb, if_pos ⟨nI_le h0 (by omega), nI_le (b := 399) (by omega) (by decide)⟩]
  refine for_inv (fun f v d => lp_Mo_clock_20 (fun δ20x => (some ((1 : Int32), δ20x))) (nI day) f d) day (by omega) (fun v d => S.1.1 0 ≤ v ∧ RGM d (up (agD (sJ S) (S.1.1 2) (S.1.1 0) S.1.1 (v - S.1.1 0)) 0 v) ∧ FrB δ d) (fun r => ∃ δ', r = some (1, δ') ∧ RepM δ' ((up (agD (sJ S) (S.1.1 2) (S.1.1 0) S.1.1 (day - S.1.1 0)) 0 day, S.1.2), S.2) ∧ KC δ δ') (fun f v d hv hI => ?_) (fun f d hI => ?_) (S.1.1 0) δ h0 ⟨Nat.le_refl _, ?_, ⟨fun _ _ _ _ _ => rfl, fun _ _ => rfl⟩⟩
  · obtain ⟨i1, i2, i3⟩ := hI
    obtain ⟨j, rfl⟩ : ∃ j, v = S.1.1 0 + j := ⟨v - S.1.1 0, by omega⟩
    rw [Nat.add_sub_cancel_left] at i2
    obtain ⟨G, hG⟩ : ∃ G, agD (sJ S) (S.1.1 2) (S.1.1 0) S.1.1 j = G := ⟨_, rfl⟩
    have e0 : G 0 = S.1.1 0 := by rw [← hG]; exact agD_n (by omega) h8 j (by omega)
    have e2 : G 2 = S.1.1 2 := by rw [← hG]; exact agD_n (by omega) h8 j (by omega)
    have okG : okT (sJ S).length (G, S.1.2) := by rw [← hG]; exact (agD_ok (T := S.1) ok.1 j (by omega)).1
    rw [hG] at i2
    have z0 : gI d 152 0 = nI (S.1.1 0 + j) := by rw [i2 0 (Or.inl (Or.inl (by decide))), up_s]
    have eG : agD (sJ S) (S.1.1 2) (S.1.1 0) S.1.1 (S.1.1 0 + j + 1 - S.1.1 0) = agN (sJ S) (S.1.1 0 + j) G (S.1.1 2) := by
      rw [show S.1.1 0 + j + 1 - S.1.1 0 = j + 1 by omega, ← hG]; rfl
    rw [eG]
    simp only [lp_Mo_clock_20, j0, x0]
    rw [z0, if_neg (nI_ge hv (by omega))]
    refine for_inv (fun f2 b d => lp_Mo_clock_32 (fun v2_32x δ32x => bnd (sI δ32x 152 0 (gI δ32x 152 0 + 1)) fun δ_133 => lp_Mo_clock_20 (fun δ20x => some (1, δ20x)) (nI day) f δ_133) (nI day) f2 b d) (S.1.1 2) (by omega) (fun b d => RGM d (up (agN (sJ S) (S.1.1 0 + j) G b) 0 (S.1.1 0 + j)) ∧ FrB δ d) (fun r => ∃ a', (S.1.1 0 ≤ S.1.1 0 + j + 1 ∧ RGM a' (up (agN (sJ S) (S.1.1 0 + j) G (S.1.1 2)) 0 (S.1.1 0 + j + 1)) ∧ FrB δ a') ∧ r = lp_Mo_clock_20 (fun δ20x => some (1, δ20x)) (nI day) f a') (fun f2 b e hb hI => ?_) (fun f2 e hI => ?_) 0 d (Nat.zero_le _) ⟨i2, i3⟩
    · have e2' : agN (sJ S) (S.1.1 0 + j) G b 2 = G 2 := agN_n (by omega) b (by omega) (by omega)
      obtain ⟨d', q1, q2, q3⟩ := ageb_M (b := b) (G := agN (sJ S) (S.1.1 0 + j) G b) h ok.2.1 ok.2.2.1 (ok_agN (T := (G, S.1.2)) okG (by show G 0 ≤ _; omega) (by omega) b (by show b ≤ G 2; omega)) (by rw [e2', e2]) (by rw [e2']; omega) (by omega) hI.1 hI.2 (fun v2_32x δ32x => bnd (sI δ32x 152 0 (gI δ32x 152 0 + 1)) fun δ_133 => lp_Mo_clock_20 (fun δ20x => some (1, δ20x)) (nI day) f δ_133) (nI day) f2
      exact ⟨d', ⟨q1, q2⟩, q3⟩
    · have g2 : gI e 152 2 = nI (S.1.1 2) := by
        rw [hI.1 2 (Or.inl (Or.inl (by decide))), up_n (by omega), agN_n (by omega) _ h8 (by omega), e2]
      have z0 : gI e 152 0 = nI (S.1.1 0 + j) := by rw [hI.1 0 (Or.inl (Or.inl (by decide))), up_s]
      simp only [lp_Mo_clock_32, j2, x2]
      rw [g2, if_pos (nI_le (Nat.le_refl _) (by omega)), bndE, z0, nI_1]
      refine ⟨_, ⟨by omega, ?_, ?_⟩, rfl⟩
      · refine RGM_ext (RGM_up hI.1) (fun i _ => ?_)
        unfold up
        split <;> rfl
      · exact ⟨fun c k p q r => by rw [gsr p]; exact hI.2.1 c k p q r, fun k q => by rw [gsc (by omega)]; exact hI.2.2 k q⟩
  · obtain ⟨i1, i2, i3⟩ := hI
    have z0 : gI d 152 0 = nI day := by rw [i2 0 (Or.inl (Or.inl (by decide))), up_s]
    simp only [lp_Mo_clock_20, j0, x0]
    rw [z0, if_pos (nI_le (Nat.le_refl _) (by omega))]
    exact ⟨d, rfl, SM_T2 h (RM_G h.1 i2 (okL_of ok).1 (okL_of ok).2.1 (okL_of ok).2.2 i3.2) i3.1, fun a k q => i3.1 a k (by omega) (by omega) (by omega)⟩
  · rw [Nat.sub_self]
    refine RGM_ext (RGM_of h.1) (fun i _ => ?_)
    show up S.1.1 0 (S.1.1 0) i = S.1.1 i
    unfold up
    split
    · next q => rw [q]
    · rfl
theorem op_clock (a1 : Int32) : OpG (f_Fp_clock a1) (f_Mo_clock a1) := mk_op fun n S ok => by
  have k0 : S.1.1 0 < 400 := ok.1.1.1
  have h8 : S.1.1 2 ≤ 8 := ok.1.1.2.2.1
  by_cases h1 : nI (S.1.1 0) ≤ a1 ∧ a1 ≤ nI 399
  · obtain ⟨day, hd1, hd2, rfl⟩ := low_i (by decide) h1 (by omega)
    refine ⟨1, _, fun δ h => clock_C h ok hd1 (by omega), fun δ h => clock_M h ok hd1 (by omega), Ok_T ok ?_⟩
    obtain ⟨j, rfl⟩ : ∃ j, day = S.1.1 0 + j := ⟨day - S.1.1 0, by omega⟩
    rw [Nat.add_sub_cancel_left]
    obtain ⟨q1, q2⟩ := agD_ok (T := S.1) ok.1 j (by omega)
    have e0 : agD (sJ S) (S.1.1 2) (S.1.1 0) S.1.1 j 0 = S.1.1 0 := agD_n (by omega) h8 j (by omega)
    have e2 : agD (sJ S) (S.1.1 2) (S.1.1 0) S.1.1 j 2 = S.1.1 2 := agD_n (by omega) h8 j (by omega)
    refine ok_now (T := (agD (sJ S) (S.1.1 2) (S.1.1 0) S.1.1 j, S.1.2)) q1 (by show agD (sJ S) (S.1.1 2) (S.1.1 0) S.1.1 j 0 ≤ _; omega) (by omega) (fun b d hb h1 h2 => ?_)
    have hb : b < agD (sJ S) (S.1.1 2) (S.1.1 0) S.1.1 j 2 := hb
    have h1 : agD (sJ S) (S.1.1 2) (S.1.1 0) S.1.1 j 0 ≤ d := h1
    exact q2 b d (by omega) (by omega) h2
  · refine nop 0 ok (fun δ h => ?_) (fun δ h => ?_)
    · unfold f_Fp_clock
      rw [within_eq, (cG h.1).1, Option.bind_some, ifb, if_neg (show ¬ (nI ((sT S).1 0) ≤ a1 ∧ a1 ≤ (399 : Int32)) from h1)]
    · unfold f_Mo_clock
      rw [j0, x0, (mS h.1).1, show (399 : Int64) = (nI 399).toInt64 from rfl, in_eq, Option.bind_some, ifb, if_neg h1]
