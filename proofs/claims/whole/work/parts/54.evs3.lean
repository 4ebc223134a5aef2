/-! the cells apart; an event more of a booth, and what always holds -/
def RG (t : Nat) (δ : Dm) (G : Nat → Nat) : Prop := ∀ i, dom i → gI δ (t + cr i) (cs i) = nI (G i)
def RGM (δ : Dm) (G : Nat → Nat) : Prop := ∀ i, (dom i ∨ (726 ≤ i ∧ i < 3926)) → gI δ 152 i = nI (G i)
theorem RG_of {t : Nat} {δ : Dm} {T : Tw} (h : RC t δ T) : RG t δ T.1 := h.1
theorem RGM_of {δ : Dm} {T : Tw} (h : RM 152 0 δ T) : RGM δ T.1 := fun i hi => mG h hi
theorem RG_up {t : Nat} {δ : Dm} {G : Nat → Nat} (a j i v : Nat) (hi : dom i) (ha : a = t + cr i) (hj : j = cs i) (h : RG t δ G) : RG t (sI δ a j (nI v)) (up G i v) := by
  intro k hk
  subst ha; subst hj
  by_cases q : k = i
  · subst q; rw [gss, up_s]
  · rw [up_n q]
    refine Eq.trans ?_ (h k hk)
    refine if_neg (fun z => q ?_)
    rw [← (ci_at k hk).1, ← (ci_at i hi).1, show cr k = cr i by omega, z.2]
theorem RG_off {δ : Dm} {G : Nat → Nat} {a j : Nat} {v : Int32} (hn : (35 ≤ a ∧ a < 45) ∨ (46 ≤ a ∧ a < 54) ∨ (a = 34 ∧ j = 2) ∨ a < 29 ∨ 86 ≤ a) (h : RG 29 δ G) : RG 29 (sI δ a j v) G := by
  intro k hk
  refine Eq.trans (if_neg (fun z => ?_)) (h k hk)
  have := ci_at k hk
  omega
theorem RGM_up {δ : Dm} {G : Nat → Nat} {i v : Nat} (h : RGM δ G) : RGM (sI δ 152 i (nI v)) (up G i v) := by
  intro k hk
  by_cases q : k = i
  · subst q; rw [gss, up_s]
  · rw [up_n q, gsc q]; exact h k hk
theorem RGM_off {δ : Dm} {G : Nat → Nat} {j : Nat} {v : Int32} (hn : j = 7 ∨ (3926 ≤ j ∧ j < 8726)) (h : RGM δ G) : RGM (sI δ 152 j v) G := by
  intro k hk
  rw [gsc (by unfold dom at hk; omega)]; exact h k hk
theorem cntf_app {b : Nat} {E : List Ev} {x : Ev} : cntf b (E ++ [x]) = cntf b E + if x 0 = 0 ∧ x 1 = b then 1 else 0 := by
  unfold cntf
  rw [List.filter_append, List.length_append]
  congr 1
  by_cases h : x 0 = 0 ∧ x 1 = b
  · rw [if_pos h]; simp [h.1, h.2]
  · rw [if_neg h]
    by_cases h1 : x 0 = 0
    · have : ¬ x 1 = b := fun z => h ⟨h1, z⟩
      simp [h1, this]
    · simp [h1]
def evE (s b d u v w p q : Nat) : Ev := fun j => if j = 0 then s else if j = 1 then b else if j = 2 then d else if j = 3 then u else if j = 4 then v else if j = 5 then w else if j = 6 then p else q
theorem ok_ev {nl : Nat} {G G' : Nat → Nat} {E R C : List Ev} {x : Ev} {b : Nat} (h : okT nl (G, E, R, C)) (hxb : x 1 = b) (hx1 : b < G 2) (hx2 : x 2 = G 0) (hx0 : x 0 ≤ 2) (hx3 : x 3 ≤ 99) (hx4 : x 4 ≤ 20) (hx5 : x 5 ≤ 5) (hx1' : x 0 = 1 → x 3 < 3)
    (hG : ∀ k, k ≠ 3 → k ≠ 4 → ¬ (566 + 20 * b + 3 ≤ k ∧ k < 566 + 20 * b + 10) → G' k = G k)
    (h3 : G' 3 = G 3 + if x 0 = 0 then 1 else 0) (h4 : G' 4 = G 4 + if x 0 = 1 then 1 else 0) (h3b : G' 3 ≤ 400) (h4b : G' 4 ≤ 100)
    (hs : ∀ k, k < 3 → bc G' b (3 + k) ≤ 1000) (h6 : bc G' b 6 ≤ 9999) (h7 : bc G' b 7 = boxs (bc G b 1) b (bc G b 7) x) (h8 : bc G' b 8 = bc G b 8 + if x 0 = 0 then 1 else 0) (h9 : bc G' b 9 ≤ 1000 * G' 4)
    (he0 : x 0 = 0 → x 6 = bc G b 8 ∧ x 7 = bc G b 7) (he2 : x 0 = 2 → 0 < bc G b 7) : okT nl (G', E ++ [x], R, C) := by
  obtain ⟨o1, o2, o3, o4, o5, o6⟩ := h
  obtain ⟨s1, s2, s3, s4, s5, s6, s7, s8, s9, s10, s11⟩ := o1
  have s1 : G 0 < 400 := s1
  have s2 : G 1 ≤ 12 := s2
  have s3 : G 2 ≤ 8 := s3
  have s4 : G 3 = (E.filter isS).length := s4
  have s6 : G 4 = (E.filter isH).length := s6
  have e0 : G' 0 = G 0 := hG 0 (by omega) (by omega) (by omega)
  have e1 : G' 1 = G 1 := hG 1 (by omega) (by omega) (by omega)
  have e2 : G' 2 = G 2 := hG 2 (by omega) (by omega) (by omega)
  have e5 : G' 5 = G 5 := hG 5 (by omega) (by omega) (by omega)
  have e6 : G' 6 = G 6 := hG 6 (by omega) (by omega) (by omega)
  have eb : ∀ c w, w < 20 → ¬ (c = b ∧ 3 ≤ w ∧ w < 10) → bc G' c w = bc G c w := fun c w hw hn => hG _ (by omega) (by omega) (by omega)
  obtain ⟨b0, b1, b2, b3, b4, b5, b6, b7, b8, b9, b10, b11, b12⟩ := o3 b hx1
  have b7 : bc G b 7 = boxf (bc G b 1) b E := b7
  have b9 : bc G b 8 = cntf b E := b9
  have b8 : bc G b 7 ≤ 999 * bc G b 8 := b8
  have b3 : bc G b 1 ≤ 999 := b3
  have b11 : bc G b 10 ≤ G 0 := b11
  have hl : ∀ c, c ≠ b → boxf (bc G c 1) c (E ++ [x]) = boxf (bc G c 1) c E := fun c hc => by rw [boxf_app, boxs_ne (fun z => hc (by omega))]
  refine ⟨⟨by show G' 0 < 400; omega, by show G' 1 ≤ 12; omega, by show G' 2 ≤ 8; omega, ?_, h3b, ?_, h4b, by show G' 5 = _; rw [e5]; exact s8, by show G' 5 ≤ 100; rw [e5]; exact s9, by show G' 6 = _; rw [e6]; exact s10, by show G' 6 ≤ 100; rw [e6]; exact s11⟩, okG_c e1 (fun k hk => hG k (by omega) (by omega) (by omega)) o2, ?_, ⟨?_, ?_⟩, ⟨?_, ?_⟩, ?_⟩
  · show G' 3 = ((E ++ [x]).filter isS).length
    rw [List.filter_append, List.length_append, h3, s4]
    congr 1
    by_cases q : x 0 = 0 <;> simp [isS, q]
  · show G' 4 = ((E ++ [x]).filter isH).length
    rw [List.filter_append, List.length_append, h4, s6]
    congr 1
    by_cases q : x 0 = 1 <;> simp [isH, q]
  · intro c hc
    have hc : c < G 2 := by rw [← e2]; exact hc
    obtain ⟨a0, a1, a2, a3, a4, a5, a6, a7, a8, a9, a10, a11, a12⟩ := o3 c hc
    show bc G' c 0 < G' 1 ∧ (∀ d, d < G' 2 → d ≠ c → bc G' d 0 ≠ bc G' c 0) ∧ 1 ≤ bc G' c 1 ∧ bc G' c 1 ≤ 999 ∧ bc G' c 2 < nl ∧ (∀ k, k < 3 → bc G' c (3 + k) ≤ 1000) ∧ bc G' c 6 ≤ 9999 ∧ bc G' c 7 = boxf (bc G' c 1) c (E ++ [x]) ∧ bc G' c 7 ≤ 999 * bc G' c 8 ∧ bc G' c 8 = cntf c (E ++ [x]) ∧ bc G' c 9 ≤ 1000 * G' 4 ∧ bc G' c 10 ≤ G' 0 ∧ bc G' c 11 ≤ 9999
    rw [e0, e1, e2, eb c 0 (by omega) (by omega), eb c 1 (by omega) (by omega), eb c 2 (by omega) (by omega), eb c 10 (by omega) (by omega), eb c 11 (by omega) (by omega)]
    refine ⟨a0, fun d hd hn => by rw [eb d 0 (by omega) (by omega)]; exact a1 d hd hn, a2, a3, a4, ?_, ?_, ?_, ?_, ?_, ?_, a11, a12⟩
    · intro k hk
      by_cases q : c = b
      · subst q; exact hs k hk
      · rw [eb c _ (by omega) (by omega)]; exact a5 k hk
    · by_cases q : c = b
      · subst q; exact h6
      · rw [eb c _ (by omega) (by omega)]; exact a6
    · by_cases q : c = b
      · subst q; rw [h7, b7, boxf_app]
      · rw [eb c _ (by omega) (by omega), hl c q]; exact a7
    · by_cases q : c = b
      · subst q
        rw [h7, h8]
        unfold boxs
        rw [if_pos hxb]
        by_cases q0 : x 0 = 0
        · rw [if_pos q0, if_pos q0, (he0 q0).2]; omega
        · rw [if_neg q0, if_neg q0]; split <;> omega
      · rw [eb c _ (by omega) (by omega), eb c _ (by omega) (by omega)]; exact a8
    · by_cases q : c = b
      · subst q
        rw [h8, b9, cntf_app]
        congr 1
        by_cases q0 : x 0 = 0
        · rw [if_pos q0, if_pos ⟨q0, hxb⟩]
        · rw [if_neg q0, if_neg (fun z => q0 z.1)]
      · rw [eb c _ (by omega) (by omega), cntf_app, if_neg (fun z => q (by omega))]; exact a9
    · by_cases q : c = b
      · subst q; exact h9
      · have a10 : bc G c 9 ≤ 1000 * G 4 := a10
        rw [eb c _ (by omega) (by omega), h4]; omega
  · intro y hy
    show y 0 ≤ 2 ∧ y 1 < G' 2 ∧ y 2 ≤ G' 0 ∧ bc G' (y 1) 10 ≤ y 2 ∧ y 3 ≤ 99 ∧ y 4 ≤ 20 ∧ y 5 ≤ 5 ∧ (y 0 = 1 → y 3 < 3)
    rw [e0, e2, eb _ 10 (by omega) (by omega)]
    rcases List.mem_append.mp hy with q | q
    · exact o4.1 y q
    · rw [List.mem_singleton.mp q]
      exact ⟨hx0, by omega, by omega, by rw [hxb]; omega, hx3, hx4, hx5, hx1'⟩
  · show (E ++ [x]).Pairwise _
    refine List.pairwise_append.mpr ⟨o4.2, List.pairwise_singleton .., fun y hy z hz => ?_⟩
    rw [List.mem_singleton.mp hz]
    have : y 2 ≤ G 0 := (o4.1 y hy).2.2.1
    omega
  · intro e y hy
    show (y 0 = 0 → y 6 = cntf (y 1) ((E ++ [x]).take e) ∧ y 7 = boxf (bc G' (y 1) 1) (y 1) ((E ++ [x]).take e)) ∧ (y 0 = 2 → 0 < boxf (bc G' (y 1) 1) (y 1) ((E ++ [x]).take e))
    rw [eb _ 1 (by omega) (by omega)]
    rcases app_at hy with ⟨q1, q2⟩ | ⟨q1, q2⟩
    · rw [List.take_append_of_le_length (by omega)]; exact o5.1 e y q2
    · subst q1
      rw [List.take_left, q2, hxb, ← b7, ← b9]; exact ⟨he0, he2⟩
  · intro c d hc h10 hd
    have hc : c < G 2 := by rw [← e2]; exact hc
    have hd : d < G 0 := by rw [← e0]; exact hd
    show G' (726 + (400 * c + d)) = boxf (bc G' c 1) c ((E ++ [x]).filter (fun x => x 2 ≤ d))
    have h10 : bc G' c 10 ≤ d := h10
    rw [eb c 10 (by omega) (by omega)] at h10
    rw [eb c 1 (by omega) (by omega), hG _ (by omega) (by omega) (by omega), List.filter_append]
    have : [x].filter (fun x => decide (x 2 ≤ d)) = [] := by
      rw [List.filter_cons_of_neg (by simp; omega)]; rfl
    rw [this, List.append_nil]
    exact o5.2 c d hc h10 hd
  · unfold okP at *
    simp only [e0, e2]
    exact o6
/-- the reference writes down what befell -/
def wrE (δ : Dm) (k b d p q : Nat) (a1 a3 a4 a5 : Int32) : Dm := sI (sI (sI (sI (sI (sI (sI (sI (sI δ 152 (3926 + 8 * k) a1) 152 (3926 + 8 * k + 1) (nI b)) 152 (3926 + 8 * k + 2) (nI d)) 152 (3926 + 8 * k + 3) a3) 152 (3926 + 8 * k + 4) a4) 152 (3926 + 8 * k + 5) a5) 152 (3926 + 8 * k + 6) (nI p)) 152 (3926 + 8 * k + 7) (nI q)) 152 7 (nI (k + 1))
theorem j7 {α : Type} {A B : α} : (if inb (7 : Int32) 8918 then A else B) = A := if_pos (by decide)
theorem x7 : ix (7 : Int32) = 7 := rfl
theorem j0 {α : Type} {A B : α} : (if inb (0 : Int32) 8918 then A else B) = A := if_pos (by decide)
theorem x0 : ix (0 : Int32) = 0 := rfl
theorem writes_eq {δ : Dm} {k b d p q : Nat} {a1 a3 a4 a5 : Int32} (hk : gI δ 152 7 = nI k) (hk5 : k < 500) (hb : b < 8) (h0 : gI δ 152 0 = nI d) (h8 : gI δ 152 (566 + (20 * b + 8)) = nI p) (h7 : gI δ 152 (566 + (20 * b + 7)) = nI q) : f_Mo_writes a1 (nI b) a3 a4 a5 δ = some (wrE δ k b d p q a1 a3 a4 a5) := by
  unfold f_Mo_writes
  simp only [j7, x7, j0, x0, hk, bnd]
  simp only [show (3926 : Int32) + ((8 : Int32) * nI k) = nI (3926 + 8 * k) by rw [lit, lit, pk_mul, nI_add], show ∀ a : Nat, nI a + 1 = nI (a + 1) from fun a => nI_1 a, show ∀ a : Nat, nI a + 2 = nI (a + 2) from fun a => nI_add a 2, show ∀ a : Nat, nI a + 3 = nI (a + 3) from fun a => nI_add a 3, show ∀ a : Nat, nI a + 4 = nI (a + 4) from fun a => nI_add a 4, show ∀ a : Nat, nI a + 5 = nI (a + 5) from fun a => nI_add a 5, show ∀ a : Nat, nI a + 6 = nI (a + 6) from fun a => nI_add a 6, show ∀ a : Nat, nI a + 7 = nI (a + 7) from fun a => nI_add a 7]
  rw [if_pos (inb_i (by omega) (by decide)), if_pos (inb_i (by omega) (by decide)), if_pos (inb_i (by omega) (by decide)), if_pos (inb_i (by omega) (by decide)), if_pos (inb_i (by omega) (by decide)), if_pos (inb_i (by omega) (by decide)), ixN (by omega), ixN (by omega), ixN (by omega), ixN (by omega), ixN (by omega), ixN (by omega), ixN (by omega), ixN (by omega)]
  rw [show (8 : Int32) = nI 8 from rfl, show (7 : Int32) = nI 7 from rfl, cell_eq hb (by decide)]
  simp only [Option.bind]
  rw [if_pos (inb_i (by omega) (by decide)), cell_eq hb (by decide)]
  simp only [Option.bind]
  rw [if_pos (inb_i (by omega) (by decide))]
  simp (disch := omega) only [gsc, h0, h7, h8, hk, nI_1]
  rfl
theorem wr_at {δ : Dm} {k b d p q j : Nat} {a1 a3 a4 a5 : Int32} (hj : j ≠ 7) (hk : ¬ (3926 + 8 * k ≤ j ∧ j < 3926 + 8 * k + 8)) : gI (wrE δ k b d p q a1 a3 a4 a5) 152 j = gI δ 152 j := by
  unfold wrE
  simp (disch := omega) only [gsc]
theorem wr_in {δ : Dm} {k s b d u v w p q : Nat} (hk : k < 500) : ∀ j, j < 8 → gI (wrE δ k b d p q (nI s) (nI u) (nI v) (nI w)) 152 (3926 + 8 * k + j) = nI (evE s b d u v w p q j) := by
  intro j hj
  unfold wrE
  rcases (by omega : j = 0 ∨ j = 1 ∨ j = 2 ∨ j = 3 ∨ j = 4 ∨ j = 5 ∨ j = 6 ∨ j = 7) with rfl | rfl | rfl | rfl | rfl | rfl | rfl | rfl
  all_goals simp (disch := omega) only [Nat.add_zero, gsc, gss]
  all_goals rfl
theorem wr_7 {δ : Dm} {k b d p q : Nat} {a1 a3 a4 a5 : Int32} : gI (wrE δ k b d p q a1 a3 a4 a5) 152 7 = nI (k + 1) := gss
theorem wr_o {δ : Dm} {k b d p q c j : Nat} {a1 a3 a4 a5 : Int32} (hc : c ≠ 152) : gI (wrE δ k b d p q a1 a3 a4 a5) c j = gI δ c j := by
  unfold wrE
  simp only [gsr hc]
theorem wr_G {δ : Dm} {G : Nat → Nat} {k b d p q : Nat} {a1 a3 a4 a5 : Int32} (hk : k < 500) (h : RGM δ G) : RGM (wrE δ k b d p q a1 a3 a4 a5) G := by
  intro i hi
  rw [wr_at (by unfold dom at hi; omega) (by unfold dom at hi; omega)]; exact h i hi
