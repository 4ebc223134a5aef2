/-! booth -/
theorem RC_G {t : Nat} {δ δ' : Dm} {T : Tw} {G' : Nat → Nat} (h : RC t δ T) (hG : RG t δ' G') (hf : ∀ o j, (6 ≤ o ∧ o < 25 ∧ o ≠ 16) ∨ (o = 5 ∧ j = 2) → gI δ' (t + o) j = gI δ (t + o) j) : RC t δ' (G', T.2) := by
  obtain ⟨h1, h2, h3, h4, h5, h6⟩ := h
  refine ⟨hG, fun s x hx => ?_, by rw [hf 5 2 (by omega)]; exact h3, fun e x hx => ?_, fun k x hx j hj => ?_, fun k x hx j hj => ?_⟩
  · rw [hf 6 s (by omega), hf 7 s (by omega), hf 8 s (by omega), hf 9 s (by omega), hf 10 s (by omega), hf 11 s (by omega), hf 12 s (by omega)]; exact h2 s x hx
  · rw [hf 13 e (by omega), hf 14 e (by omega), hf 15 e (by omega)]; exact h4 e x hx
  · rw [Nat.add_assoc, hf (17 + j) k (by omega), ← Nat.add_assoc]; exact h5 k x hx j hj
  · rw [Nat.add_assoc, hf (22 + j) k (by omega), ← Nat.add_assoc]; exact h6 k x hx j hj
theorem RM_G {δ δ' : Dm} {T : Tw} {G' : Nat → Nat} (h : RM 152 0 δ T) (hG : RGM δ' G') (hv : ((tE T).filter isV).length ≤ 500) (hr : (tR T).length ≤ 100) (hc : (tC T).length ≤ 100) (hf : ∀ j, j = 7 ∨ (3926 ≤ j ∧ j < 8726) → gI δ' 152 j = gI δ 152 j) : RM 152 0 δ' (G', T.2) := by
  obtain ⟨h1, h2, h3, h4, h5⟩ := h
  simp only [Nat.zero_add] at h1 h2 h3 h4 h5
  refine ⟨fun i hi => ?_, ?_, fun e y hy j hj => ?_, fun i y hy j hj => ?_, fun i y hy j hj => ?_⟩ <;> rw [Nat.zero_add]
  · exact hG i hi
  · rw [hf 7 (by omega)]; exact h2
  · have := idx_lt hy
    have : e < ((tE T).filter isV).length := this
    rw [hf _ (by omega)]; exact h3 e y hy j hj
  · have := idx_lt hy
    have : i < (tR T).length := this
    rw [hf _ (by omega)]; exact h4 i y hy j hj
  · have := idx_lt hy
    have : i < (tC T).length := this
    rw [hf _ (by omega)]; exact h5 i y hy j hj
def boG (G : Nat → Nat) (b p pr l d : Nat) : Nat → Nat := fun i =>
  if i = 2 then b + 1 else
  if i = 566 + 20 * b then p else if i = 566 + 20 * b + 1 then pr else if i = 566 + 20 * b + 2 then l else if 566 + 20 * b + 3 ≤ i ∧ i < 566 + 20 * b + 6 then 1000 else if i = 566 + 20 * b + 10 then d else
  if 566 + 20 * b + 6 ≤ i ∧ i < 566 + 20 * b + 12 then 0 else if 726 + 400 * b ≤ i ∧ i < 726 + 400 * b + 400 then 0 else if 8726 + 24 * b ≤ i ∧ i < 8726 + 24 * b + 24 then 0 else G i
theorem boG_o {G : Nat → Nat} {b p pr l d i : Nat} (h2 : i ≠ 2) (h : ¬ (566 + 20 * b ≤ i ∧ i < 566 + 20 * b + 12)) (h3 : ¬ (726 + 400 * b ≤ i ∧ i < 726 + 400 * b + 400)) (h4 : ¬ (8726 + 24 * b ≤ i ∧ i < 8726 + 24 * b + 24)) : boG G b p pr l d i = G i := by
  unfold boG
  rw [if_neg h2, if_neg (by omega), if_neg (by omega), if_neg (by omega), if_neg (by omega), if_neg (by omega), if_neg (by omega), if_neg (by omega), if_neg (by omega)]
theorem boG_b {G : Nat → Nat} {b p pr l d w : Nat} (hw : w < 12) : bc (boG G b p pr l d) b w = if w = 0 then p else if w = 1 then pr else if w = 2 then l else if w < 6 then 1000 else if w = 10 then d else 0 := by
  unfold bc boG
  rw [if_neg (by omega)]
  by_cases h0 : w = 0
  · rw [if_pos (by omega), if_pos h0]
  · rw [if_neg (by omega), if_neg h0]
    by_cases h1 : w = 1
    · rw [if_pos (by omega), if_pos h1]
    · rw [if_neg (by omega), if_neg h1]
      by_cases h2 : w = 2
      · rw [if_pos (by omega), if_pos h2]
      · rw [if_neg (by omega), if_neg h2]
        by_cases h3 : w < 6
        · rw [if_pos (by omega), if_pos h3]
        · rw [if_neg (by omega), if_neg h3]
          by_cases h4 : w = 10
          · rw [if_pos (by omega), if_pos h4]
          · rw [if_neg (by omega), if_neg h4, if_pos (by omega)]
theorem boG_t {G : Nat → Nat} {b p pr l d i : Nat} (hb : b < 8) (h : 8726 + 24 * b ≤ i) (h2 : i < 8726 + 24 * b + 24) : boG G b p pr l d i = 0 := by
  unfold boG
  rw [if_neg (by omega), if_neg (by omega), if_neg (by omega), if_neg (by omega), if_neg (by omega), if_neg (by omega), if_neg (by omega), if_neg (by omega), if_pos (by omega)]
theorem boG_x {G : Nat → Nat} {b p pr l d i : Nat} (hb : b < 8) (h : 726 + 400 * b ≤ i) (h2 : i < 726 + 400 * b + 400) : boG G b p pr l d i = 0 := by
  unfold boG
  rw [if_neg (by omega), if_neg (by omega), if_neg (by omega), if_neg (by omega), if_neg (by omega), if_neg (by omega), if_neg (by omega), if_pos (by omega)]
theorem box_no {p b : Nat} : ∀ (E : List Ev), (∀ x ∈ E, x 1 ≠ b) → boxf p b E = 0 ∧ cntf b E = 0 := by
  intro E h
  constructor
  · have : ∀ (E : List Ev) c, (∀ x ∈ E, x 1 ≠ b) → E.foldl (boxs p b) c = c := by
      intro E
      induction E with
      | nil => intro c _; rfl
      | cons x E ih =>
        intro c h
        rw [List.foldl_cons, boxs_ne (h x (List.mem_cons_self ..)), ih c (fun y hy => h y (List.mem_cons_of_mem _ hy))]
    exact this E 0 h
  · unfold cntf
    rw [List.filter_eq_nil_iff.mpr (fun x hx => by have := h x hx; simp [this])]
    rfl
theorem ok_booth {nl b p pr l : Nat} {G : Nat → Nat} {R : List Ev × List Ev × List Ev} (h : okT nl (G, R)) (hb : G 2 = b) (hb8 : b < 8) (hp : p < G 1) (hf : ∀ c, c < b → bc G c 0 ≠ p) (h1 : 1 ≤ pr) (h2 : pr ≤ 999) (hl : l < nl) : okT nl (boG G b p pr l (G 0), R) := by
  obtain ⟨E, R, C⟩ := R
  obtain ⟨o1, ⟨g1, g2, g3, g4⟩, o3, o4, o5, o6⟩ := h
  obtain ⟨G', hG'⟩ : ∃ G', boG G b p pr l (G 0) = G' := ⟨_, rfl⟩
  have go : ∀ i, i ≠ 2 → ¬ (566 + 20 * b ≤ i ∧ i < 566 + 20 * b + 12) → ¬ (726 + 400 * b ≤ i ∧ i < 726 + 400 * b + 400) → ¬ (8726 + 24 * b ≤ i ∧ i < 8726 + 24 * b + 24) → G' i = G i := fun i a1 a2 a3 a4 => by rw [← hG']; exact boG_o a1 a2 a3 a4
  have e2 : G' 2 = b + 1 := by rw [← hG']; rfl
  have e : ∀ k, k < 7 → k ≠ 2 → G' k = G k := fun k hk h => go k h (by omega) (by omega) (by omega)
  have eb : ∀ c w, c < b → w < 12 → bc G' c w = bc G c w := fun c w hc hw => go _ (by omega) (by omega) (by omega) (by omega)
  have nb : ∀ w, w < 12 → bc G' b w = if w = 0 then p else if w = 1 then pr else if w = 2 then l else if w < 6 then 1000 else if w = 10 then G 0 else 0 := fun w hw => by
    rw [← hG']
    exact boG_b hw
  have hx : ∀ x ∈ E, x 1 < b := fun x hx => by have := (o4.1 x hx).2.1; have : x 1 < G 2 := this; omega
  obtain ⟨z1, z2⟩ := box_no (p := pr) (b := b) E (fun x h => by have := hx x h; omega)
  rw [hG']
  refine ⟨?_, ⟨fun d hd => ?_, fun d hd => ?_, fun x y hx hy => ?_, fun c q m hc hq hm => ?_⟩, fun c hc => ?_, ⟨fun x h => ?_, o4.2⟩, ⟨fun k x h => ?_, fun c d hc h10 hd => ?_⟩, ?_⟩
  · unfold okS at *
    simp only [e 0 (by decide) (by decide), e 1 (by decide) (by decide), e 3 (by decide) (by decide), e 4 (by decide) (by decide), e 5 (by decide) (by decide), e 6 (by decide) (by decide), e2]
    exact ⟨o1.1, o1.2.1, by omega, o1.2.2.2⟩
  · show G' _ ≤ 40
    rw [go _ (by omega) (by omega) (by omega) (by omega)]; exact g1 d hd
  · show G' _ ≤ 99
    rw [go _ (by omega) (by omega) (by omega) (by omega)]; exact g2 d hd
  · show G' _ ≤ 999 ∧ (G' 1 ≤ x ∨ G' 1 ≤ y → G' _ = 0)
    rw [go _ (by omega) (by omega) (by omega) (by omega), e 1 (by decide) (by decide)]; exact g3 x y hx hy
  · show G' _ ≤ 9999 ∧ (G' 1 ≤ q → G' _ = 0)
    by_cases z : c = b
    · subst z
      have : G' (8726 + (2 * (12 * c + q) + m)) = 0 := by
        rw [← hG']
        exact boG_t hb8 (by omega) (by omega)
      rw [this]; exact ⟨by omega, fun _ => rfl⟩
    · rw [go _ (by omega) (by omega) (by omega) (by omega), e 1 (by decide) (by decide)]; exact g4 c q m hc hq hm
  · have hc : c < b + 1 := by rw [← e2]; exact hc
    show bc G' c 0 < G' 1 ∧ (∀ d, d < G' 2 → d ≠ c → bc G' d 0 ≠ bc G' c 0) ∧ 1 ≤ bc G' c 1 ∧ bc G' c 1 ≤ 999 ∧ bc G' c 2 < nl ∧ (∀ k, k < 3 → bc G' c (3 + k) ≤ 1000) ∧ bc G' c 6 ≤ 9999 ∧ bc G' c 7 = boxf (bc G' c 1) c E ∧ bc G' c 7 ≤ 999 * bc G' c 8 ∧ bc G' c 8 = cntf c E ∧ bc G' c 9 ≤ 1000 * G' 4 ∧ bc G' c 10 ≤ G' 0 ∧ bc G' c 11 ≤ 9999
    rw [e 0 (by decide) (by decide), e 1 (by decide) (by decide), e 4 (by decide) (by decide), e2]
    by_cases z : c = b
    · subst z
      rw [nb 0 (by decide), nb 1 (by decide), nb 2 (by decide), nb 6 (by decide), nb 7 (by decide), nb 8 (by decide), nb 9 (by decide), nb 10 (by decide), nb 11 (by decide)]
      refine ⟨hp, fun d hd hn => ?_, h1, h2, hl, fun k hk => ?_, Nat.zero_le _, z1.symm, Nat.zero_le _, z2.symm, Nat.zero_le _, Nat.le_refl _, Nat.zero_le _⟩
      · rw [eb d 0 (by omega) (by decide)]; exact hf d (by omega)
      · rw [nb _ (by omega), if_neg (by omega), if_neg (by omega), if_neg (by omega), if_pos (by omega)]; omega
    · obtain ⟨a0, a1, a2, a3, a4, a5, a6, a7, a8, a9, a10, a11, a12⟩ := o3 c (by show c < G 2; omega)
      rw [eb c 0 (by omega) (by decide), eb c 1 (by omega) (by decide), eb c 2 (by omega) (by decide), eb c 6 (by omega) (by decide), eb c 7 (by omega) (by decide), eb c 8 (by omega) (by decide), eb c 9 (by omega) (by decide), eb c 10 (by omega) (by decide), eb c 11 (by omega) (by decide)]
      refine ⟨a0, fun d hd hn => ?_, a2, a3, a4, fun k hk => by rw [eb c _ (by omega) (by omega)]; exact a5 k hk, a6, a7, a8, a9, a10, a11, a12⟩
      by_cases q : d = b
      · subst q
        rw [nb 0 (by decide)]
        exact fun q => hf c (by omega) q.symm
      · rw [eb d 0 (by omega) (by decide)]; exact a1 d (by show d < G 2; omega) hn
  · have q := hx x h
    obtain ⟨a1, a2, a3, a4, a5⟩ := o4.1 x h
    show x 0 ≤ 2 ∧ x 1 < G' 2 ∧ x 2 ≤ G' 0 ∧ bc G' (x 1) 10 ≤ x 2 ∧ _
    rw [e2, e 0 (by decide) (by decide), eb _ 10 q (by decide)]
    exact ⟨a1, by omega, a3, a4, a5⟩
  · have q := hx x (List.mem_of_getElem? h)
    show (x 0 = 0 → x 6 = cntf (x 1) (E.take k) ∧ x 7 = boxf (bc G' (x 1) 1) (x 1) (E.take k)) ∧ (x 0 = 2 → 0 < boxf (bc G' (x 1) 1) (x 1) (E.take k))
    rw [eb _ 1 q (by decide)]
    exact o5.1 k x h
  · have hc : c < b + 1 := by rw [← e2]; exact hc
    have hd : d < G 0 := by rw [← e 0 (by decide) (by decide)]; exact hd
    have h10 : bc G' c 10 ≤ d := h10
    show G' (726 + (400 * c + d)) = boxf (bc G' c 1) c (E.filter (fun x => x 2 ≤ d))
    by_cases z : c = b
    · subst z
      rw [nb 10 (by decide)] at h10
      have h10 : G 0 ≤ d := h10
      omega
    · have h400 : G 0 < 400 := o1.1
      rw [eb c 10 (by omega) (by decide)] at h10
      rw [eb c 1 (by omega) (by decide), go _ (by omega) (by omega) (by omega) (by omega)]
      exact o5.2 c d (by show c < G 2; omega) h10 hd
  · unfold okP at *
    simp only [e 0 (by decide) (by decide), e2]
    have hb : G 2 = b := hb
    obtain ⟨q1, q2⟩ := o6
    refine ⟨fun x h => ?_, fun x h => ?_⟩
    · obtain ⟨a1, a2⟩ := q1 x h
      have a1 : x 0 < G 2 := a1
      exact ⟨by omega, a2⟩
    · obtain ⟨a0, a1, a2⟩ := q2 x h
      have a1 : x 1 < G 2 := a1
      exact ⟨a0, by omega, a2⟩
/-- rows filled -/
theorem RG_fs {δ : Dm} {G : Nat → Nat} {b v : Nat} (hb : b < 8) (h : RG 29 δ G) : RG 29 (flI δ (54 + 4 * b + 1) 3 (nI v)) (fun i => if 566 + 20 * b + 3 ≤ i ∧ i < 566 + 20 * b + 6 then v else G i) := by
  intro i hi
  rw [g_flI]
  obtain ⟨a1, a2, a3, a4, a5, a6⟩ := ci_at i hi
  by_cases q : 566 + 20 * b + 3 ≤ i ∧ i < 566 + 20 * b + 6
  · have d := dom_b (b := b) (w := i - 566 - 20 * b) hb (by omega)
    rw [show 566 + (20 * b + (i - 566 - 20 * b)) = i by omega, if_pos (by omega), if_pos (by omega)] at d
    rw [if_pos ⟨by rw [d.2.1]; omega, by rw [d.2.2]; omega⟩]
    show nI v = nI (if _ then _ else _)
    rw [if_pos q]
  · rw [if_neg]
    · show _ = nI (if _ then _ else _)
      rw [if_neg q]; exact h i hi
    · intro z
      have : cr i = 26 + 4 * b := by omega
      rw [this] at a1
      unfold ci at a1
      rw [if_neg (by omega), if_neg (by omega), if_neg (by omega), if_neg (by omega), if_neg (by omega), if_neg (by omega), if_neg (by omega), if_pos (by omega)] at a1
      omega
theorem RG_ft {δ : Dm} {G : Nat → Nat} {b v m : Nat} (hb : b < 8) (hm : m < 2) (h : RG 29 δ G) : RG 29 (flI δ (54 + 4 * b + 2 + m) 12 (nI v)) (fun i => if 8726 + 24 * b ≤ i ∧ i < 8726 + 24 * b + 24 ∧ i % 2 = m then v else G i) := by
  intro i hi
  rw [g_flI]
  obtain ⟨a1, a2, a3, a4, a5, a6⟩ := ci_at i hi
  by_cases q : 8726 + 24 * b ≤ i ∧ i < 8726 + 24 * b + 24 ∧ i % 2 = m
  · have d := dom_t (b := b) (p := (i - 8726 - 24 * b) / 2) (m := m) hb (by omega) hm
    rw [show 8726 + (2 * (12 * b + (i - 8726 - 24 * b) / 2) + m) = i by omega] at d
    rw [if_pos ⟨by rw [d.2.1]; omega, by rw [d.2.2]; omega⟩]
    show nI v = nI (if _ then _ else _)
    rw [if_pos q]
  · rw [if_neg]
    · show _ = nI (if _ then _ else _)
      rw [if_neg q]; exact h i hi
    · intro z
      have : cr i = 27 + 4 * b + m := by omega
      rw [this] at a1
      unfold ci at a1
      rw [if_neg (by omega), if_neg (by omega), if_neg (by omega), if_neg (by omega), if_neg (by omega), if_neg (by omega), if_neg (by omega), if_neg (by omega)] at a1
      split at a1 <;> omega
theorem RG_ext {t : Nat} {δ : Dm} {G G' : Nat → Nat} (h : RG t δ G) (e : ∀ i, dom i → G' i = G i) : RG t δ G' := fun i hi => by rw [e i hi]; exact h i hi
theorem RGM_ext {δ : Dm} {G G' : Nat → Nat} (h : RGM δ G) (e : ∀ i, (dom i ∨ (726 ≤ i ∧ i < 3926)) → G' i = G i) : RGM δ G' := fun i hi => by rw [e i hi]; exact h i hi
