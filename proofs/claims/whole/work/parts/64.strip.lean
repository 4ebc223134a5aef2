/-! strip -/
theorem lifts_eq {b : Nat} {δ : Dm} (hb : b < 8) : ∃ δ', (∀ c j, ¬ (c = 162 ∧ j < 3) → gI δ' c j = gI δ c j) ∧ (∀ k, k < 3 → gI δ' 162 k = gI δ 152 (566 + (20 * b + (3 + k)))) ∧ δ'.2 = δ.2 ∧ f_Mo_lifts (nI b) δ = some δ' := by
  unfold f_Mo_lifts
  refine for_inv (fun f i (d : Dm) => lp_Mo_lifts_2 (fun v2_2x δ2x => (some δ2x)) (nI b) f i d) 3 (by decide) (fun i d => (∀ c j, ¬ (c = 162 ∧ j < i) → gI d c j = gI δ c j) ∧ (∀ k, k < i → k < 3 → gI d 162 k = gI δ 152 (566 + (20 * b + (3 + k)))) ∧ d.2 = δ.2) (fun x => ∃ δ', (∀ c j, ¬ (c = 162 ∧ j < 3) → gI δ' c j = gI δ c j) ∧ (∀ k, k < 3 → gI δ' 162 k = gI δ 152 (566 + (20 * b + (3 + k)))) ∧ δ'.2 = δ.2 ∧ x = some δ') (fun f i d hi hI => ?_) (fun f d hI => ?_) 0 δ (by decide) ⟨fun _ _ _ => rfl, fun k hk => absurd hk (Nat.not_lt_zero _), rfl⟩
  · obtain ⟨i1, i2, i3⟩ := hI
    refine ⟨sI d 162 i (gI δ 152 (566 + (20 * b + (3 + i)))), ⟨fun c j h => by rw [gs, if_neg (by omega)]; exact i1 c j (by omega), fun k h1 h3 => ?_, i3⟩, ?_⟩
    · by_cases q : k = i
      · subst q; rw [gss]
      · rw [gsc q]; exact i2 k (by omega) h3
    · simp only [lp_Mo_lifts_2]
      rw [if_neg (show ¬ (3 : Int32) ≤ nI i from nI_ge hi (by decide)), show (3 : Int32) + nI i = nI (3 + i) from nI_add 3 i, cell_eq hb (by omega), Option.bind_some, if_pos (inb_i hi (by decide)), ixN (show i < 2147483648 by omega), nI_1, i1 152 _ (by omega)]
      simp only [bndE]
  · simp only [lp_Mo_lifts_2]
    rw [if_pos (show (3 : Int32) ≤ nI 3 by decide)]
    exact ⟨d, hI.1, fun k hk => hI.2.1 k hk hk, hI.2.2, rfl⟩
theorem lays_eq {b : Nat} {δ : Dm} (hb : b < 8) : ∃ δ', (∀ c j, ¬ (c = 152 ∧ 566 + 20 * b + 3 ≤ j ∧ j < 566 + 20 * b + 6) → gI δ' c j = gI δ c j) ∧ (∀ k, k < 3 → gI δ' 152 (566 + (20 * b + (3 + k))) = gI δ 162 k) ∧ δ'.2 = δ.2 ∧ f_Mo_lays (nI b) δ = some δ' := by
  unfold f_Mo_lays
  refine for_inv (fun f i (d : Dm) => lp_Mo_lays_2 (fun v2_2x δ2x => (some δ2x)) (nI b) f i d) 3 (by decide) (fun i d => (∀ c j, ¬ (c = 152 ∧ 566 + 20 * b + 3 ≤ j ∧ j < 566 + 20 * b + 3 + i) → gI d c j = gI δ c j) ∧ (∀ k, k < i → k < 3 → gI d 152 (566 + (20 * b + (3 + k))) = gI δ 162 k) ∧ d.2 = δ.2) (fun x => ∃ δ', (∀ c j, ¬ (c = 152 ∧ 566 + 20 * b + 3 ≤ j ∧ j < 566 + 20 * b + 6) → gI δ' c j = gI δ c j) ∧ (∀ k, k < 3 → gI δ' 152 (566 + (20 * b + (3 + k))) = gI δ 162 k) ∧ δ'.2 = δ.2 ∧ x = some δ') (fun f i d hi hI => ?_) (fun f d hI => ?_) 0 δ (by decide) ⟨fun _ _ _ => rfl, fun k hk => absurd hk (Nat.not_lt_zero _), rfl⟩
  · obtain ⟨i1, i2, i3⟩ := hI
    refine ⟨sI d 152 (566 + (20 * b + (3 + i))) (gI δ 162 i), ⟨fun c j h => by rw [gs, if_neg (by omega)]; exact i1 c j (by omega), fun k h1 h3 => ?_, i3⟩, ?_⟩
    · by_cases q : k = i
      · subst q; rw [gss]
      · rw [gsc (by omega)]; exact i2 k (by omega) h3
    · simp only [lp_Mo_lays_2]
      rw [if_neg (show ¬ (3 : Int32) ≤ nI i from nI_ge hi (by decide)), if_pos (inb_i hi (by decide)), show (3 : Int32) + nI i = nI (3 + i) from nI_add 3 i, ixN (show i < 2147483648 by omega), sets_eq hb (by omega), Option.bind_some, nI_1, i1 162 _ (by omega)]
  · simp only [lp_Mo_lays_2]
    rw [if_pos (show (3 : Int32) ≤ nI 3 by decide)]
    exact ⟨d, fun c j h => hI.1 c j (by omega), fun k hk => hI.2.1 k hk hk, hI.2.2, rfl⟩
/-- three strengths anew -/
def st3 (G : Nat → Nat) (b : Nat) (f : Nat → Nat) : Nat → Nat := fun i => if 566 + 20 * b + 3 ≤ i ∧ i < 566 + 20 * b + 6 then f (i - (566 + 20 * b + 3)) else G i
theorem st3_y {G : Nat → Nat} {b k : Nat} {f : Nat → Nat} (h : k < 3) : st3 G b f (566 + (20 * b + (3 + k))) = f k := by
  unfold st3
  rw [if_pos (by omega), show 566 + (20 * b + (3 + k)) - (566 + 20 * b + 3) = k by omega]
theorem st3_n {G : Nat → Nat} {b i : Nat} {f : Nat → Nat} (h : ¬ (566 + 20 * b + 3 ≤ i ∧ i < 566 + 20 * b + 6)) : st3 G b f i = G i := if_neg h
theorem RG_3 {δ δ' : Dm} {G : Nat → Nat} {b : Nat} {f : Nat → Nat} (hb : b < 8) (h : RG 29 δ G) (h1 : ∀ c j, ¬ (c = 54 + 4 * b + 1 ∧ j < 3) → gI δ' c j = gI δ c j) (h2 : ∀ k, k < 3 → gI δ' (54 + 4 * b + 1) k = nI (f k)) : RG 29 δ' (st3 G b f) := by
  intro i hi
  obtain ⟨a1, a2, a3, a4, a5, a6⟩ := ci_at i hi
  by_cases q : 566 + 20 * b + 3 ≤ i ∧ i < 566 + 20 * b + 6
  · obtain ⟨k, hk, rfl⟩ : ∃ k, k < 3 ∧ i = 566 + (20 * b + (3 + k)) := ⟨i - (566 + 20 * b + 3), by omega, by omega⟩
    have d := dom_b (b := b) (w := 3 + k) hb (by omega)
    rw [if_pos (by omega), if_pos (by omega)] at d
    rw [st3_y hk, d.2.1, d.2.2, show 29 + (26 + 4 * b) = 54 + 4 * b + 1 by omega, show 3 + k - 3 = k by omega]
    exact h2 k hk
  · rw [st3_n q, h1]
    · exact h i hi
    · intro z
      have : cr i = 26 + 4 * b := by omega
      rw [this] at a1
      unfold ci at a1
      rw [if_neg (by omega), if_neg (by omega), if_neg (by omega), if_neg (by omega), if_neg (by omega), if_neg (by omega), if_neg (by omega), if_pos (by omega)] at a1
      omega
theorem RGM_3 {δ δ' : Dm} {G : Nat → Nat} {b : Nat} {f : Nat → Nat} (h : RGM δ G) (h1 : ∀ j, ¬ (566 + 20 * b + 3 ≤ j ∧ j < 566 + 20 * b + 6) → gI δ' 152 j = gI δ 152 j) (h2 : ∀ k, k < 3 → gI δ' 152 (566 + (20 * b + (3 + k))) = nI (f k)) : RGM δ' (st3 G b f) := by
  intro i hi
  by_cases q : 566 + 20 * b + 3 ≤ i ∧ i < 566 + 20 * b + 6
  · obtain ⟨k, hk, rfl⟩ : ∃ k, k < 3 ∧ i = 566 + (20 * b + (3 + k)) := ⟨i - (566 + 20 * b + 3), by omega, by omega⟩
    rw [st3_y hk]; exact h2 k hk
  · rw [st3_n q, h1 i q]; exact h i hi
theorem SM_T2 {δ δ' : Dm} {S : St} {T : Tw} (h : RepM δ S) (hT : RM 152 0 δ' T) (hk : ∀ b j, b ≠ 152 → b ≠ 162 → ¬ (b = 151 ∧ j = 19) → gI δ' b j = gI δ b j) : RepM δ' (T, S.2) := by
  obtain ⟨h1, h2, h3, h4, h5, h6, h7⟩ := h
  exact ⟨hT, by rw [hk 151 3 (by omega) (by omega) (by omega)]; exact h2, fun i L q => LM_keep2 (h3 i L q) (fun b j a c => hk _ _ (by omega) (by omega) (by omega)), by rw [hk 151 2 (by omega) (by omega) (by omega)]; exact h4, fun j q => by rw [hk 153 j (by omega) (by omega) (by omega)]; exact h5 j q, fun q hq => RM_row (h6 q hq) (fun j => hk _ _ (by omega) (by omega) (by omega)), fun k q => by rw [hk 167 k (by omega) (by omega) (by omega)]; exact h7 k q⟩
theorem LKd_l {i : Nat} (h : i < 8) : LKd (87 + 8 * i) := KD_l i h
/-- the facts of a booth on a day -/
def wdG (G : Nat → Nat) (b dy : Nat) (hd st sp bx : Int32) : Nat → Int64 := wdP (nI (bc G b 0)) (nI (G (410 + bc G b 0))) (nI (G (10 + dy))) hd st (nI dy) sp bx
theorem wdG_5 {G : Nat → Nat} {b dy : Nat} {hd st sp bx : Int32} : wdG G b dy hd st sp bx 5 = 0 := rfl
def stB (G : Nat → Nat) (b : Nat) : Nat → Nat := fun k => bc G b (3 + k)
def spG (G : Nat → Nat) (b : Nat) (f : Nat → Nat) : Nat → Nat := up (up (up (up (st3 G b f) (566 + (20 * b + 6)) (bc G b 6 - 1)) (566 + (20 * b + 7)) (bc G b 7 + bc G b 1)) (566 + (20 * b + 8)) (bc G b 8 + 1)) 3 (G 3 + 1)
theorem up_c {G : Nat → Nat} {i j v w : Nat} (h : i ≠ j) : up (up G i v) j w = up (up G j w) i v := by
  funext k
  unfold up
  by_cases h1 : k = i
  · rw [if_pos h1, if_neg (by omega), if_pos h1]
  · rw [if_neg h1, if_neg h1]
theorem spG_n {G : Nat → Nat} {b i : Nat} {f : Nat → Nat} (h3 : i ≠ 3) (h : ¬ (566 + 20 * b + 3 ≤ i ∧ i < 566 + 20 * b + 9)) : spG G b f i = G i := by
  unfold spG
  rw [up_n h3, up_n (by omega), up_n (by omega), up_n (by omega), st3_n (by omega)]
theorem open_S {n b dy : Nat} {S : St} {δ : Dm} (h : RepC δ n S) (ok : Ok S) (hb : b < S.1.1 2) (hd : dy < 400) : ∃ δ', δ'.1 = δ.1 ∧ (∀ k, k < 9 → gL δ' 20 k = wdG S.1.1 b dy 0 0 0 0 k) ∧ f_Fa_open (54 + 4 * b) (nI dy) δ = some δ' := by
  obtain ⟨n0, -, -, -, -, -, -, -, -, -, -, hb8, h12, -⟩ := ok_nums ok hb
  exact open_eq (cBs 0 0 rfl h hb8 (by decide) (by decide)) (by omega) (cL h.1 (by omega)) hd (cH h.1 hd)
theorem words_S {b dy : Nat} {S : St} {δ : Dm} {hd st sp bx : Int32} (h : RGM δ S.1.1) (ok : Ok S) (hb : b < S.1.1 2) (hdy : dy < 400) : ∃ δ', δ'.1 = δ.1 ∧ (∀ k, k < 9 → gL δ' 161 k = wdG S.1.1 b dy hd st sp bx k) ∧ f_Mo_words (nI b) hd st (nI dy) sp bx δ = some δ' := by
  obtain ⟨n0, -, -, -, -, -, -, -, -, -, -, hb8, h12, -⟩ := ok_nums ok hb
  exact words_eq hb8 (h _ (Or.inl (dom_b hb8 (by decide)).1)) (by omega) (h _ (Or.inl (dom_l (by omega)).1)) hdy (h _ (Or.inl (dom_h hdy).1))
set_option maxHeartbeats 4000000 in
theorem strip_C {n b hd st : Nat} {S : St} {δ : Dm} {L : LawT} (h : RepC δ n S) (ok : Ok S) (hb : b < S.1.1 2) (h3 : S.1.1 3 < 400) (hL : (sJ S)[bc S.1.1 b 2]? = some L) (h6 : 1 ≤ bc S.1.1 b 6) (hh : nI 1 ≤ nI hd ∧ nI hd ≤ nI 99) (hs : nI 0 ≤ nI st ∧ nI st ≤ nI 20) (hh1 : hd ≤ 99) (hs1 : st ≤ 20) : ∃ δ', f_Fp_strip (nI b) (nI hd) (nI st) δ = some (nI (spP L (wdG S.1.1 b (S.1.1 0) (nI hd) (nI st) (nI (bc S.1.1 b 8)) (nI (bc S.1.1 b 7))) (stB S.1.1 b)), δ') ∧
    RepC δ' n ((spG S.1.1 b (fun k => wrn L (wdG S.1.1 b (S.1.1 0) (nI hd) (nI st) (nI (bc S.1.1 b 8)) (nI (bc S.1.1 b 7))) k (stB S.1.1 b k)), tE S.1 ++ [evE 0 b (S.1.1 0) hd st (spP L (wdG S.1.1 b (S.1.1 0) (nI hd) (nI st) (nI (bc S.1.1 b 8)) (nI (bc S.1.1 b 7))) (stB S.1.1 b)) (bc S.1.1 b 8) (bc S.1.1 b 7)], tR S.1, tC S.1), S.2) ∧ KM δ δ' := by
  obtain ⟨n0, n1, n2, n3, n4, n5, n6, n7, n8, n9, n10, hb8, h12, h400⟩ := ok_nums ok hb
  have k8 : S.1.1 2 ≤ 8 := ok.1.1.2.2.1
  have kl : (sJ S).length ≤ 8 := ok.2.1
  have hl8 := idx_lt hL
  have k4 : S.1.1 4 ≤ 100 := ok.1.1.2.2.2.2.2.2.1
  have e3 : S.1.1 3 = (sts S).length := sts_n ok
  have hev := ev_len1 ok
  have okL : LOk L := ok.2.2.1 L (List.mem_of_getElem? hL)
  have hLC : LC (87 + 8 * bc S.1.1 b 2) δ L := h.2.2.1 _ _ hL
  obtain ⟨w, hw⟩ : ∃ w, wdG S.1.1 b (S.1.1 0) (nI hd) (nI st) (nI (bc S.1.1 b 8)) (nI (bc S.1.1 b 7)) = w := ⟨_, rfl⟩
  rw [hw]
  obtain ⟨δ1, a1, a2, a3⟩ := open_S h ok hb h400
  obtain ⟨δ2, b1, b2, b3⟩ := pose_eq (hd := nI hd) (st := nI st) a2
  obtain ⟨δ3, c1, c2, c3⟩ := till_eq (sp := nI (bc S.1.1 b 8)) (bx := nI (bc S.1.1 b 7)) b2
  have c2 : ∀ k, k < 9 → gL δ3 20 k = w k := fun k hk => by rw [← hw]; exact c2 k hk
  have E3 : δ3.1 = δ.1 := c1.trans (b1.trans a1)
  have hS : ∀ k, k < 3 → gI δ3 (54 + 4 * b + 1) k = nI (stB S.1.1 b k) := fun k hk => by rw [gE E3]; exact cSs h hb8 hk
  obtain ⟨δ4, d1, d2⟩ := spoilC (LC_E E3 hLC) okL (LKd_l (by omega)) (KD_b b hb8).1 hS c2
  have E4 : δ4.1 = δ.1 := d1.1.trans E3
  obtain ⟨δ5, f1, f2, f3⟩ := wear_eq (r0 := 0) (w := w) (st := stB S.1.1 b) (LC_E E4 hLC) okL (LKd_l (by omega)) (Or.inl rfl) (KD_b b hb8).1 (by omega) (fun k hk => ⟨by rw [gE d1.1]; exact hS k hk, n4 k hk⟩) (fun k hk _ => by rw [d1.2]; exact c2 k hk)
  obtain ⟨by', hby⟩ : ∃ y, spP L w (stB S.1.1 b) = y := ⟨_, rfl⟩
  rw [hby] at d2 ⊢
  have e5 : ∀ c j, ¬ (c = 54 + 4 * b + 1 ∧ j < 3) → gI δ5 c j = gI δ c j := fun c j q => (f1 c j q).trans (gE E4 c j)
  obtain ⟨s, hs'⟩ : ∃ s, S.1.1 3 = s := ⟨_, rfl⟩
  obtain ⟨e, he⟩ : ∃ e, (tE S.1).length = e := ⟨_, rfl⟩
  obtain ⟨d, hd'⟩ : ∃ d, S.1.1 0 = d := ⟨_, rfl⟩
  have g340 : gI δ5 34 0 = nI s := by rw [e5 34 0 (by omega), ← hs']; exact (cG h.1).2.2.2.1
  have g342 : gI δ5 34 2 = nI e := by rw [e5 34 2 (by omega), ← he]; exact h.1.2.2.1
  have g290 : gI δ5 29 0 = nI d := by rw [e5 29 0 (by omega), ← hd']; exact (cG h.1).1
  have gt5 : ∀ w j, bs w = j → w < 12 → ¬ (3 ≤ w ∧ w < 6) → gI δ5 (54 + 4 * b) j = nI (bc S.1.1 b w) := fun w j hj hw hn => by rw [e5 _ _ (by omega)]; exact cBs w j hj h hb8 hw hn
  refine ⟨sI (sI (sI (sI (sI (sI (sI (sI (sI (sI (sI (sI (sI (sI (sI δ5 35 s (nI b)) 36 s (nI d)) 37 s (nI by')) 42 e (nI b)) 43 e (nI d)) 44 e (nI s)) 34 2 (nI (e + 1))) 34 0 (nI (s + 1))) 38 s (nI hd)) 39 s (nI st)) 40 s (nI (bc S.1.1 b 8))) 41 s (nI (bc S.1.1 b 7))) (54 + 4 * b) 4 (nI (bc S.1.1 b 6 - 1))) (54 + 4 * b) 5 (nI (bc S.1.1 b 7 + bc S.1.1 b 1))) (54 + 4 * b) 6 (nI (bc S.1.1 b 8 + 1)), ?_, ?_, fun a j q => ?_⟩
  · simp only [f_Fp_strip, boothAt_eq k8 (cG h.1).2.2.1, if_pos (inb_i hb (show S.1.1 2 < 2147483648 by omega)), ixN (show b < 2147483648 by omega), Option.bind_some, ocs, if_pos (isB_at b hb8).1]
    rw [cBs 6 4 rfl h hb8 (by decide) (by decide), if_neg (show ¬ nI (bc S.1.1 b 6) < (1 : Int32) from nI_nlt (b := 1) h6 (by omega)), show gI δ 34 0 = nI (S.1.1 3) from (cG h.1).2.2.2.1, if_pos (show nI (S.1.1 3) < (400 : Int32) from nI_lt h3 (by decide)), cBs 2 2 rfl h hb8 (by decide) (by decide), lawAt_eq kl h.2.1, if_pos (inb_i hl8 (show (sJ S).length < 2147483648 by omega)), ixN (show bc S.1.1 b 2 < 2147483648 by omega)]
    simp only [Option.bind_some, ocs, if_pos (isL_at _ (show bc S.1.1 b 2 < 8 by omega)).1, wl, ifb, if_pos hh, if_pos hs]
    rw [show gI δ 29 0 = nI (S.1.1 0) from (cG h.1).1, a3, Option.bind_some, b3, Option.bind_some, gE (b1.trans a1), gE (b1.trans a1), cBs 8 6 rfl h hb8 (by decide) (by decide), cBs 7 5 rfl h hb8 (by decide) (by decide), c3, Option.bind_some, d2, Option.bind_some]
    simp only [bndE]
    rw [show (9 : Int32) = nI (csort 0) from rfl, f3, Option.bind_some]
    unfold f_Di_addStrip f_Di_tellStrip
    rw [g340, g290, put_in (show (KD 35).2 = 400 by decide) (by omega), Option.bind_some, gsr (show (34 : Nat) ≠ 35 by decide), g340, put_in (show (KD 36).2 = 400 by decide) (by omega), Option.bind_some, gsr (show (34 : Nat) ≠ 36 by decide), gsr (show (34 : Nat) ≠ 35 by decide), g340, put_in (show (KD 37).2 = 400 by decide) (by omega), Option.bind_some]
    rw [gsr (show (34 : Nat) ≠ 37 by decide), gsr (show (34 : Nat) ≠ 36 by decide), gsr (show (34 : Nat) ≠ 35 by decide), g340, addEv_eq (k := e) (by rw [gsr (show (34 : Nat) ≠ 37 by decide), gsr (show (34 : Nat) ≠ 36 by decide), gsr (show (34 : Nat) ≠ 35 by decide)]; exact g342) (by omega), Option.bind_some]
    simp only [bndE]
    simp (disch := omega) only [gsr, gsc, g340, nI_1]
    rw [Option.bind_some]
    simp (disch := omega) only [gsr, gsc, gss, nI_pred]
    rw [put_in (show (KD 38).2 = 400 by decide) (by omega), Option.bind_some]
    simp (disch := omega) only [gsr, gsc, gss, nI_pred]
    rw [put_in (show (KD 39).2 = 400 by decide) (by omega), Option.bind_some]
    simp (disch := omega) only [gsr, gsc, gss, nI_pred]
    rw [put_in (show (KD 40).2 = 400 by decide) (by omega), Option.bind_some]
    simp (disch := omega) only [gsr, gsc, gss, nI_pred]
    rw [put_in (show (KD 41).2 = 400 by decide) (by omega), Option.bind_some, Option.bind_some]
    simp (disch := omega) only [gsr, gsc, gss]
    rw [gt5 8 6 rfl (by decide) (by decide), gt5 7 5 rfl (by decide) (by decide), gt5 6 4 rfl (by decide) (by decide), gt5 1 1 rfl (by decide) (by decide), nI_add, nI_1, show nI (bc S.1.1 b 6) - 1 = nI (bc S.1.1 b 6 - 1) from pk_sub (b := 1) h6]
  · have hG5 : RG 29 δ5 (st3 S.1.1 b (fun k => wrn L w k (stB S.1.1 b k))) := RG_3 hb8 h.1.1 e5 (fun k hk => by have := f2 k hk; rw [Nat.zero_add] at this; exact this)
    refine SC_T h kl (RC_ev h.1 ?_ (fun o j q1 q2 q3 q4 q5 => ?_) ?_ ?_ ?_ ?_ (fun _ => ?_)) (fun a j q => ?_)
    · have e := RG_w (w := 8) (j := 6) (v := bc S.1.1 b 8 + 1) hb8 (by decide) (by decide) rfl (RG_w (w := 7) (j := 5) (v := bc S.1.1 b 7 + bc S.1.1 b 1) hb8 (by decide) (by decide) rfl (RG_w (w := 6) (j := 4) (v := bc S.1.1 b 6 - 1) hb8 (by decide) (by decide) rfl (RG_off (a := 41) (j := s) (v := nI (bc S.1.1 b 7)) (by omega) (RG_off (a := 40) (j := s) (v := nI (bc S.1.1 b 8)) (by omega) (RG_off (a := 39) (j := s) (v := nI st) (by omega) (RG_off (a := 38) (j := s) (v := nI hd) (by omega) (RG_up 34 0 3 (s + 1) (Or.inl (by decide)) rfl rfl (RG_off (a := 34) (j := 2) (v := nI (e + 1)) (by omega) (RG_off (a := 44) (j := e) (v := nI s) (by omega) (RG_off (a := 43) (j := e) (v := nI d) (by omega) (RG_off (a := 42) (j := e) (v := nI b) (by omega) (RG_off (a := 37) (j := s) (v := nI by') (by omega) (RG_off (a := 36) (j := s) (v := nI d) (by omega) (RG_off (a := 35) (j := s) (v := nI b) (by omega) hG5))))))))))))))
      rw [up_c (i := 3) (by omega), up_c (i := 3) (by omega), up_c (i := 3) (by omega)] at e
      unfold spG
      rw [hs']
      exact e
    · have q5 : ¬ (13 ≤ o ∧ o < 16 ∧ j = e) := by rw [← he]; exact q5
      have q4 : ¬ (o < 13 ∧ j = s) := by rw [← hs', e3]; exact q4
      simp only [gs]
      rw [if_neg (by omega), if_neg (by omega), if_neg (by omega), if_neg (by omega), if_neg (by omega), if_neg (by omega), if_neg (by omega), if_neg (by omega), if_neg (by omega), if_neg (by omega), if_neg (by omega), if_neg (by omega), if_neg (by omega), if_neg (by omega), if_neg (by omega), e5 _ _ (by omega)]
    · show gI _ 34 2 = nI ((tE S.1).length + 1)
      rw [he]
      simp (disch := omega) only [gsr, gsc, gss]
    · show gI _ 42 (tE S.1).length = nI b
      rw [he]
      simp (disch := omega) only [gsr, gsc, gss]
    · show gI _ 43 (tE S.1).length = nI (S.1.1 0)
      rw [he, hd']
      simp (disch := omega) only [gsr, gsc, gss]
    · show gI _ 44 (tE S.1).length = nI (sts S).length
      rw [he, ← e3, hs']
      simp (disch := omega) only [gsr, gsc, gss]
    · show gI _ 35 (sts S).length = nI b ∧ gI _ 36 (sts S).length = nI (S.1.1 0) ∧ gI _ 37 (sts S).length = nI by' ∧ gI _ 38 (sts S).length = nI hd ∧ gI _ 39 (sts S).length = nI st ∧ gI _ 40 (sts S).length = nI (bc S.1.1 b 8) ∧ gI _ 41 (sts S).length = nI (bc S.1.1 b 7)
      rw [← e3, hs', hd']
      refine ⟨?_, ?_, ?_, ?_, ?_, ?_, ?_⟩ <;> simp (disch := omega) only [gsr, gsc, gss]
    · simp only [gs]
      rw [if_neg (by omega), if_neg (by omega), if_neg (by omega), if_neg (by omega), if_neg (by omega), if_neg (by omega), if_neg (by omega), if_neg (by omega), if_neg (by omega), if_neg (by omega), if_neg (by omega), if_neg (by omega), if_neg (by omega), if_neg (by omega), if_neg (by omega), e5 _ _ (by omega)]
  · simp only [gs]
    rw [if_neg (by omega), if_neg (by omega), if_neg (by omega), if_neg (by omega), if_neg (by omega), if_neg (by omega), if_neg (by omega), if_neg (by omega), if_neg (by omega), if_neg (by omega), if_neg (by omega), if_neg (by omega), if_neg (by omega), if_neg (by omega), if_neg (by omega), e5 _ _ (by omega)]
