/-! what always holds, of a state with a cell anew -/
theorem bc_up {G : Nat → Nat} {b c w k v : Nat} (hw : w < 20) (hk : k < 20) : bc (up G (566 + (20 * b + w)) v) c k = if c = b ∧ k = w then v else bc G c k := by
  unfold bc up
  by_cases h : c = b ∧ k = w
  · obtain ⟨rfl, rfl⟩ := h; rw [if_pos rfl, if_pos ⟨rfl, rfl⟩]
  · rw [if_neg (by omega), if_neg h]
theorem okS_c {G G' : Nat → Nat} {R : List Ev × List Ev × List Ev} (h : ∀ k, k < 7 → G' k = G k) (q : okS (G, R)) : okS (G', R) := by
  unfold okS at *
  simp only [h 0 (by decide), h 1 (by decide), h 2 (by decide), h 3 (by decide), h 4 (by decide), h 5 (by decide), h 6 (by decide)]
  exact q
theorem okP_c {G G' : Nat → Nat} {R : List Ev × List Ev × List Ev} (h : ∀ k, k < 7 → G' k = G k) (q : okP (G, R)) : okP (G', R) := by
  unfold okP at *
  simp only [h 0 (by decide), h 2 (by decide)]
  exact q
theorem okB_c {nl : Nat} {G G' : Nat → Nat} {R : List Ev × List Ev × List Ev} (h : ∀ k, k < 7 → G' k = G k) (h2 : ∀ k, 566 ≤ k → k < 726 → G' k = G k) (h8 : G 2 ≤ 8) (q : okB nl (G, R)) : okB nl (G', R) := by
  unfold okB at *
  simp only [h 0 (by decide), h 1 (by decide), h 2 (by decide), h 4 (by decide)]
  intro b hb
  have hb : b < G 2 := hb
  have e : ∀ c w, c < 8 → w < 20 → bc G' c w = bc G c w := fun c w hc hw => h2 _ (by omega) (by omega)
  obtain ⟨a1, a2, a3, a4, a5, a6, a7, a8, a9, a10, a11, a12, a13⟩ := q b hb
  rw [e b 0 (by omega) (by decide), e b 1 (by omega) (by decide), e b 2 (by omega) (by decide), e b 6 (by omega) (by decide), e b 7 (by omega) (by decide), e b 8 (by omega) (by decide), e b 9 (by omega) (by decide), e b 10 (by omega) (by decide), e b 11 (by omega) (by decide)]
  exact ⟨a1, fun c hc hn => by rw [e c 0 (by have : c < G 2 := hc; omega) (by decide)]; exact a2 c hc hn, a3, a4, a5, fun k hk => by rw [e b _ (by omega) (by omega)]; exact a6 k hk, a7, a8, a9, a10, a11, a12, a13⟩
theorem okE_c {G G' : Nat → Nat} {R : List Ev × List Ev × List Ev} (h : ∀ k, k < 7 → G' k = G k) (h2 : ∀ b, b < 8 → bc G' b 10 = bc G b 10) (h8 : G 2 ≤ 8) (q : okE (G, R)) : okE (G', R) := by
  unfold okE at *
  simp only [h 0 (by decide), h 2 (by decide)]
  refine ⟨fun x hx => ?_, q.2⟩
  obtain ⟨a1, a2, a3, a4, a5⟩ := q.1 x hx
  have a2' : x 1 < G 2 := a2
  exact ⟨a1, a2, a3, by rw [h2 _ (by omega)]; exact a4, a5⟩
theorem okH_c {G G' : Nat → Nat} {R : List Ev × List Ev × List Ev} (h : ∀ k, k < 7 → G' k = G k) (h2 : ∀ b, b < 8 → bc G' b 10 = bc G b 10 ∧ bc G' b 1 = bc G b 1) (h3 : ∀ k, 726 ≤ k → k < 3926 → G' k = G k) (h8 : G 2 ≤ 8) (h0 : G 0 < 400) (he : okE (G, R)) (q : okH (G, R)) : okH (G', R) := by
  unfold okH at *
  simp only [h 0 (by decide), h 2 (by decide)]
  refine ⟨fun e x hx => ?_, fun b d hb hd1 hd2 => ?_⟩
  · have hm : x ∈ R.1 := List.mem_of_getElem? hx
    have : x 1 < G 2 := (he.1 x hm).2.1
    rw [(h2 _ (by omega)).2]; exact q.1 e x hx
  · have hb : b < G 2 := hb
    have hd2 : d < G 0 := hd2
    rw [(h2 b (by omega)).1] at hd1
    rw [(h2 b (by omega)).2, h3 _ (by omega) (by omega)]; exact q.2 b d hb hd1 hd2
/-- cells of heats, lights, roads, takes -/
theorem ok_G {nl i v : Nat} {T : Tw} (hi : (10 ≤ i ∧ i < 566) ∨ 8726 ≤ i) (h : okT nl T) (hg : okG (up T.1 i v, T.2)) : okT nl (up T.1 i v, T.2) := by
  obtain ⟨h1, h2, h3, h4, h5, h6⟩ := h
  have h8 : T.1 2 ≤ 8 := h1.2.2.1
  have e : ∀ k, k < 7 → up T.1 i v k = T.1 k := fun k hk => up_n (by omega)
  have eb : ∀ b w, b < 8 → w < 20 → bc (up T.1 i v) b w = bc T.1 b w := fun b w hb hw => up_n (by omega)
  exact ⟨okS_c e h1, hg, okB_c e (fun k a b => up_n (by omega)) h8 h3, okE_c e (fun b hb => eb b 10 hb (by decide)) h8 h4, okH_c e (fun b hb => ⟨eb b 10 hb (by decide), eb b 1 hb (by decide)⟩) (fun k a b => up_n (by omega)) h8 h1.1 h4 h5, okP_c e h6⟩
theorem okG_c {G G' : Nat → Nat} {R R' : List Ev × List Ev × List Ev} (h1 : G' 1 = G 1) (h : ∀ k, (10 ≤ k ∧ k < 566) ∨ 8726 ≤ k → G' k = G k) (q : okG (G, R)) : okG (G', R') := by
  unfold okG at *
  simp only [h1]
  obtain ⟨a1, a2, a3, a4⟩ := q
  exact ⟨fun d hd => by rw [h _ (by omega)]; exact a1 d hd, fun p hp => by rw [h _ (by omega)]; exact a2 p hp, fun a b ha hb => by rw [h _ (by omega)]; exact a3 a b ha hb, fun b p m hb hp hm => by rw [h _ (by omega)]; exact a4 b p m hb hp hm⟩
/-- a booth's cell, neither price, box, counter nor the day of its coming -/
theorem ok_b {nl b w v : Nat} {T : Tw} (h : okT nl T) (hb : b < T.1 2) (hw : w < 12) (hn : w ≠ 1 ∧ w ≠ 7 ∧ w ≠ 8 ∧ w ≠ 10) (c0 : w = 0 → v < T.1 1 ∧ ∀ c, c < T.1 2 → c ≠ b → bc T.1 c 0 ≠ v) (c2 : w = 2 → v < nl) (c3 : 3 ≤ w → w < 6 → v ≤ 1000) (c6 : w = 6 → v ≤ 9999) (c9 : w = 9 → v ≤ 1000 * T.1 4) (c11 : w = 11 → v ≤ 9999) : okT nl (up T.1 (566 + (20 * b + w)) v, T.2) := by
  obtain ⟨h1, h2, h3, h4, h5, h6⟩ := h
  have h8 : T.1 2 ≤ 8 := h1.2.2.1
  have e : ∀ k, k < 7 → up T.1 (566 + (20 * b + w)) v k = T.1 k := fun k hk => up_n (by omega)
  refine ⟨okS_c e h1, okG_c (e 1 (by decide)) (fun k hk => up_n (by omega)) h2, ?_, okE_c e (fun c hc => ?_) h8 h4, okH_c e (fun c hc => ⟨?_, ?_⟩) (fun k a b => up_n (by omega)) h8 h1.1 h4 h5, okP_c e h6⟩
  · intro c hc
    have hc : c < T.1 2 := by have : c < up T.1 (566 + (20 * b + w)) v 2 := hc; rw [e 2 (by decide)] at this; exact this
    obtain ⟨a1, a2, a3, a4, a5, a6, a7, a8, a9, a10, a11, a12, a13⟩ := h3 c hc
    show bc (up T.1 _ v) c 0 < up T.1 _ v 1 ∧ (∀ d, d < up T.1 _ v 2 → d ≠ c → bc (up T.1 _ v) d 0 ≠ bc (up T.1 _ v) c 0) ∧ 1 ≤ bc (up T.1 _ v) c 1 ∧ bc (up T.1 _ v) c 1 ≤ 999 ∧ bc (up T.1 _ v) c 2 < nl ∧ (∀ k, k < 3 → bc (up T.1 _ v) c (3 + k) ≤ 1000) ∧ bc (up T.1 _ v) c 6 ≤ 9999 ∧ bc (up T.1 _ v) c 7 = boxf (bc (up T.1 _ v) c 1) c (tE T) ∧ bc (up T.1 _ v) c 7 ≤ 999 * bc (up T.1 _ v) c 8 ∧ bc (up T.1 _ v) c 8 = cntf c (tE T) ∧ bc (up T.1 _ v) c 9 ≤ 1000 * up T.1 _ v 4 ∧ bc (up T.1 _ v) c 10 ≤ up T.1 _ v 0 ∧ bc (up T.1 _ v) c 11 ≤ 9999
    rw [e 0 (by decide), e 1 (by decide), e 2 (by decide), e 4 (by decide)]
    rw [bc_up (c := c) (k := 0) (by omega) (by decide), bc_up (c := c) (k := 1) (by omega) (by decide), bc_up (c := c) (k := 2) (by omega) (by decide), bc_up (c := c) (k := 6) (by omega) (by decide), bc_up (c := c) (k := 7) (by omega) (by decide), bc_up (c := c) (k := 8) (by omega) (by decide), bc_up (c := c) (k := 9) (by omega) (by decide), bc_up (c := c) (k := 10) (by omega) (by decide), bc_up (c := c) (k := 11) (by omega) (by decide)]
    rw [if_neg (show ¬ (c = b ∧ 1 = w) by omega), if_neg (show ¬ (c = b ∧ 7 = w) by omega), if_neg (show ¬ (c = b ∧ 8 = w) by omega), if_neg (show ¬ (c = b ∧ 10 = w) by omega)]
    refine ⟨?_, fun d hd hdc => ?_, a3, a4, ?_, fun k hk => ?_, ?_, a8, a9, a10, ?_, a12, ?_⟩
    · split
      · next q => exact (c0 q.2.symm).1
      · exact a1
    · rw [bc_up (by omega) (by decide)]
      by_cases q : w = 0
      · have c0 := (c0 q).2
        by_cases q1 : c = b
        · rw [if_neg (by omega), if_pos ⟨q1, q.symm⟩]; exact c0 d hd (by omega)
        · rw [if_neg (show ¬ (c = b ∧ 0 = w) by omega)]
          by_cases q2 : d = b
          · rw [if_pos ⟨q2, q.symm⟩]; exact fun z => c0 c hc q1 z.symm
          · rw [if_neg (by omega)]; exact a2 d hd hdc
      · rw [if_neg (by omega), if_neg (by omega)]; exact a2 d hd hdc
    · split
      · next q => exact c2 q.2.symm
      · exact a5
    · rw [bc_up (by omega) (by omega)]
      split
      · next q => exact c3 (by omega) (by omega)
      · exact a6 k hk
    · split
      · next q => exact c6 q.2.symm
      · exact a7
    · split
      · next q => exact c9 q.2.symm
      · exact a11
    · split
      · next q => exact c11 q.2.symm
      · exact a13
  · rw [bc_up (by omega) (by decide), if_neg (by omega)]
  · rw [bc_up (by omega) (by decide), if_neg (by omega)]
  · rw [bc_up (by omega) (by decide), if_neg (by omega)]
theorem Ok_T {S : St} {T : Tw} (h : Ok S) (ht : okT (sJ S).length T) : Ok (T, S.2) := ⟨ht, h.2⟩
theorem okG_heat {T : Tw} {d v : Nat} (hd : d < 400) (hv : v ≤ 40) (h : okG T) : okG (up T.1 (10 + d) v, T.2) := by
  obtain ⟨a1, a2, a3, a4⟩ := h
  unfold okG; dsimp only
  rw [up_n (k := 1) (by omega)]
  refine ⟨fun k hk => ?_, fun p hp => by rw [up_n (by omega)]; exact a2 p hp, fun a b ha hb => by rw [up_n (by omega)]; exact a3 a b ha hb, fun b p m hb hp hm => by rw [up_n (by omega)]; exact a4 b p m hb hp hm⟩
  by_cases q : k = d
  · subst q; rw [up_s]; exact hv
  · rw [up_n (by omega)]; exact a1 k hk
theorem okG_light {T : Tw} {d v : Nat} (hd : d < 12) (hv : v ≤ 99) (h : okG T) : okG (up T.1 (410 + d) v, T.2) := by
  obtain ⟨a1, a2, a3, a4⟩ := h
  unfold okG; dsimp only
  rw [up_n (k := 1) (by omega)]
  refine ⟨fun k hk => by rw [up_n (by omega)]; exact a1 k hk, fun p hp => ?_, fun a b ha hb => by rw [up_n (by omega)]; exact a3 a b ha hb, fun b p m hb hp hm => by rw [up_n (by omega)]; exact a4 b p m hb hp hm⟩
  by_cases q : p = d
  · subst q; rw [up_s]; exact hv
  · rw [up_n (by omega)]; exact a2 p hp
theorem okG_road {T : Tw} {x y v : Nat} (hx : x < T.1 1) (hy : y < T.1 1) (h1 : T.1 1 ≤ 12) (hv : v ≤ 999) (h : okG T) : okG (up T.1 (422 + (12 * x + y)) v, T.2) := by
  obtain ⟨a1, a2, a3, a4⟩ := h
  unfold okG; dsimp only
  rw [up_n (k := 1) (by omega)]
  refine ⟨fun k hk => by rw [up_n (by omega)]; exact a1 k hk, fun p hp => by rw [up_n (by omega)]; exact a2 p hp, fun a b ha hb => ?_, fun b p m hb hp hm => by rw [up_n (by omega)]; exact a4 b p m hb hp hm⟩
  by_cases q : a = x ∧ b = y
  · obtain ⟨rfl, rfl⟩ := q; rw [up_s]; exact ⟨hv, fun z => by omega⟩
  · rw [up_n (by omega)]; exact a3 a b ha hb
theorem okG_take {T : Tw} {c x k v : Nat} (hx : x < T.1 1) (h1 : T.1 1 ≤ 12) (hk : k < 2) (hv : v ≤ 9999) (h : okG T) : okG (up T.1 (8726 + (2 * (12 * c + x) + k)) v, T.2) := by
  obtain ⟨a1, a2, a3, a4⟩ := h
  unfold okG; dsimp only
  rw [up_n (k := 1) (by omega)]
  refine ⟨fun k hk => by rw [up_n (by omega)]; exact a1 k hk, fun p hp => by rw [up_n (by omega)]; exact a2 p hp, fun a b ha hb => by rw [up_n (by omega)]; exact a3 a b ha hb, fun b p m hb hp hm => ?_⟩
  by_cases q : b = c ∧ p = x ∧ m = k
  · obtain ⟨rfl, rfl, rfl⟩ := q; rw [up_s]; exact ⟨hv, fun z => by omega⟩
  · rw [up_n (by omega)]; exact a4 b p m hb hp hm
theorem okL_s {S : St} {i v : Nat} (h : okL S) : okL (setG S i v) := h
theorem Ok_s {S : St} {i v : Nat} (h : Ok S) (ht : okT (sJ S).length (up S.1.1 i v, S.1.2)) : Ok (setG S i v) := ⟨ht, h.2⟩
theorem sG_n {S : St} {i v k : Nat} (h : k ≠ i) : (setG S i v).1.1 k = S.1.1 k := if_neg h
theorem sG_s {S : St} {i v : Nat} : (setG S i v).1.1 i = v := if_pos rfl
theorem mS {δ : Dm} {T : Tw} (h : RM 152 0 δ T) : gI δ 152 0 = nI (T.1 0) ∧ gI δ 152 1 = nI (T.1 1) ∧ gI δ 152 2 = nI (T.1 2) ∧ gI δ 152 3 = nI (T.1 3) ∧ gI δ 152 4 = nI (T.1 4) ∧ gI δ 152 5 = nI (T.1 5) ∧ gI δ 152 6 = nI (T.1 6) :=
  have e : ∀ i, i < 7 → gI δ 152 i = nI (T.1 i) := fun i hi => mG h (Or.inl (Or.inl hi))
  ⟨e 0 (by decide), e 1 (by decide), e 2 (by decide), e 3 (by decide), e 4 (by decide), e 5 (by decide), e 6 (by decide)⟩
theorem cBs {δ : Dm} {n b : Nat} {S : St} (w j : Nat) (hj : bs w = j) (h : RepC δ n S) (hb : b < 8) (hw : w < 12) (hn : ¬ (3 ≤ w ∧ w < 6)) : gI δ (54 + 4 * b) j = nI (bc S.1.1 b w) := by
  subst hj; exact cB h.1 hb hw hn
theorem mBs {δ : Dm} {b : Nat} {S : St} (w : Nat) (h : RepM δ S) (hb : b < 8) (hw : w < 12) : gI δ 152 (566 + (20 * b + w)) = nI (bc S.1.1 b w) := mG h.1 (Or.inl (dom_b hb hw).1)
