/-! booth, the call -/
theorem j2 {α : Type} {A B : α} : (if inb (2 : Int32) 8918 then A else B) = A := if_pos (by decide)
theorem x2 : ix (2 : Int32) = 2 := rfl
def bfr (δ δ' : Dm) : Prop := ∀ a j, (a ≠ 152 ∨ j = 7 ∨ (3926 ≤ j ∧ j < 8726)) → gI δ' a j = gI δ a j
theorem bfr_s {δ δ' : Dm} {i : Nat} {v : Int32} (h : bfr δ δ') (hi : i ≠ 7 ∧ ¬ (3926 ≤ i ∧ i < 8726)) : bfr δ (sI δ' 152 i v) := fun a j q => by
  rw [gs, if_neg (by omega)]; exact h a j q
def bGA (G : Nat → Nat) (b k : Nat) : Nat → Nat := fun i => if 566 + 20 * b ≤ i ∧ i < 566 + 20 * b + k then 0 else G i
def bGB (G : Nat → Nat) (b p pr l : Nat) : Nat → Nat := up (up (up (bGA G b 12) (566 + (20 * b + 0)) p) (566 + (20 * b + 1)) pr) (566 + (20 * b + 2)) l
def bGC (G : Nat → Nat) (b k : Nat) : Nat → Nat := fun i => if 566 + 20 * b + 3 ≤ i ∧ i < 566 + 20 * b + k then 1000 else G i
def bGE (G : Nat → Nat) (o k : Nat) : Nat → Nat := fun i => if o ≤ i ∧ i < o + k then 0 else G i
theorem bGE_s {G : Nat → Nat} {o k : Nat} : up (bGE G o k) (o + k) 0 = bGE G o (k + 1) := by
  funext i
  unfold up bGE
  by_cases h : i = o + k
  · rw [if_pos h, if_pos (by omega)]
  · rw [if_neg h]
    by_cases h2 : o ≤ i ∧ i < o + k
    · rw [if_pos h2, if_pos (by omega)]
    · rw [if_neg h2, if_neg (by omega)]
theorem bGA_s {G : Nat → Nat} {b k : Nat} : up (bGA G b k) (566 + (20 * b + k)) 0 = bGA G b (k + 1) := by
  funext i
  unfold up bGA
  by_cases h : i = 566 + (20 * b + k)
  · rw [if_pos h, if_pos (by omega)]
  · rw [if_neg h]
    by_cases h2 : 566 + 20 * b ≤ i ∧ i < 566 + 20 * b + k
    · rw [if_pos h2, if_pos (by omega)]
    · rw [if_neg h2, if_neg (by omega)]
theorem bGC_s {G : Nat → Nat} {b k : Nat} (h3 : 3 ≤ k) : up (bGC G b k) (566 + (20 * b + k)) 1000 = bGC G b (k + 1) := by
  funext i
  unfold up bGC
  by_cases h : i = 566 + (20 * b + k)
  · rw [if_pos h, if_pos (by omega)]
  · rw [if_neg h]
    by_cases h2 : 566 + 20 * b + 3 ≤ i ∧ i < 566 + 20 * b + k
    · rw [if_pos h2, if_pos (by omega)]
    · rw [if_neg h2, if_neg (by omega)]
theorem bGA_0 {G : Nat → Nat} {b : Nat} : bGA G b 0 = G := by funext i; unfold bGA; rw [if_neg (by omega)]
theorem bGC_0 {G : Nat → Nat} {b : Nat} : bGC G b 3 = G := by funext i; unfold bGC; rw [if_neg (by omega)]
theorem bGE_0 {G : Nat → Nat} {o : Nat} : bGE G o 0 = G := by funext i; unfold bGE; rw [if_neg (by omega)]
theorem bGA_y {G : Nat → Nat} {b k i : Nat} (h : 566 + 20 * b ≤ i ∧ i < 566 + 20 * b + k) : bGA G b k i = 0 := if_pos h
theorem bGA_n {G : Nat → Nat} {b k i : Nat} (h : ¬ (566 + 20 * b ≤ i ∧ i < 566 + 20 * b + k)) : bGA G b k i = G i := if_neg h
theorem bGC_y {G : Nat → Nat} {b k i : Nat} (h : 566 + 20 * b + 3 ≤ i ∧ i < 566 + 20 * b + k) : bGC G b k i = 1000 := if_pos h
theorem bGC_n {G : Nat → Nat} {b k i : Nat} (h : ¬ (566 + 20 * b + 3 ≤ i ∧ i < 566 + 20 * b + k)) : bGC G b k i = G i := if_neg h
theorem bGE_y {G : Nat → Nat} {o k i : Nat} (h : o ≤ i ∧ i < o + k) : bGE G o k i = 0 := if_pos h
theorem bGE_n {G : Nat → Nat} {o k i : Nat} (h : ¬ (o ≤ i ∧ i < o + k)) : bGE G o k i = G i := if_neg h
theorem bGB_b {G : Nat → Nat} {b p pr l w : Nat} (hw : w < 12) : bGB G b p pr l (566 + (20 * b + w)) = if w = 0 then p else if w = 1 then pr else if w = 2 then l else 0 := by
  unfold bGB up
  by_cases h2 : w = 2
  · subst h2; rw [if_pos rfl]; rfl
  · rw [if_neg (by omega)]
    by_cases h1 : w = 1
    · subst h1; rw [if_pos rfl]; rfl
    · rw [if_neg (by omega)]
      by_cases h0 : w = 0
      · subst h0; rw [if_pos rfl]; rfl
      · rw [if_neg (by omega), if_neg h0, if_neg h1, if_neg h2, bGA_y (by omega)]
theorem boM_G {G : Nat → Nat} {b p pr l d i : Nat} (hb : b < 8) : boG G b p pr l d i = up (bGE (bGE (up (bGC (bGB G b p pr l) b 6) (566 + (20 * b + 10)) d) (726 + 400 * b) 400) (8726 + 24 * b) 24) 2 (b + 1) i := by
  have q : (i = 2 ∨ (566 + 20 * b ≤ i ∧ i < 566 + 20 * b + 12) ∨ (726 + 400 * b ≤ i ∧ i < 726 + 400 * b + 400) ∨ (8726 + 24 * b ≤ i ∧ i < 8726 + 24 * b + 24)) ∨ ¬ (i = 2 ∨ (566 + 20 * b ≤ i ∧ i < 566 + 20 * b + 12) ∨ (726 + 400 * b ≤ i ∧ i < 726 + 400 * b + 400) ∨ (8726 + 24 * b ≤ i ∧ i < 8726 + 24 * b + 24)) := Classical.em _
  rcases q with (q | q | q | q) | q
  · subst q; rfl
  · obtain ⟨w, hw, rfl⟩ : ∃ w, w < 12 ∧ i = 566 + (20 * b + w) := ⟨i - 566 - 20 * b, by omega, by omega⟩
    rw [up_n (by omega), bGE_n (by omega), bGE_n (by omega), show boG G b p pr l d (566 + (20 * b + w)) = bc (boG G b p pr l d) b w from rfl, boG_b hw]
    by_cases h10 : w = 10
    · subst h10; rw [up_s]; rfl
    · rw [up_n (by omega)]
      by_cases h3 : 3 ≤ w ∧ w < 6
      · rw [bGC_y (by omega), if_neg (by omega), if_neg (by omega), if_neg (by omega), if_pos (by omega)]
      · rw [bGC_n (by omega), bGB_b hw]
        by_cases h0 : w = 0
        · rw [if_pos h0, if_pos h0]
        · rw [if_neg h0, if_neg h0]
          by_cases h1 : w = 1
          · rw [if_pos h1, if_pos h1]
          · rw [if_neg h1, if_neg h1]
            by_cases h2 : w = 2
            · rw [if_pos h2, if_pos h2]
            · rw [if_neg h2, if_neg h2, if_neg (by omega), if_neg h10]
  · rw [boG_x hb q.1 q.2, up_n (by omega), bGE_n (by omega), bGE_y q]
  · rw [boG_t hb q.1 q.2, up_n (by omega), bGE_y q]
  · rw [boG_o (by omega) (by omega) (by omega) (by omega), up_n (by omega), bGE_n (by omega), bGE_n (by omega), up_n (by omega), bGC_n (by omega)]
    unfold bGB
    rw [up_n (by omega), up_n (by omega), up_n (by omega), bGA_n (by omega)]
set_option maxHeartbeats 4000000 in
theorem boM {δ : Dm} {G : Nat → Nat} {b p pr l d : Nat} (hb : b < 8) (h : RGM δ G) (hd : G 0 = d) (h2 : G 2 = b) : ∃ δ', lp_Mo_booth_61 (fun v5_61x δ61x => ((f_Mo_sets (nI b) (0 : Int32) (nI p) δ61x).bind (fun y88 => ((f_Mo_sets (nI b) (1 : Int32) (nI pr) y88).bind (fun y96 => ((f_Mo_sets (nI b) (2 : Int32) (nI l) y96).bind (fun y104 => (lp_Mo_booth_110 (fun v5_110x δ110x => (if inb (0 : Int32) 8918 then ((f_Mo_sets (nI b) (10 : Int32) (gI δ110x 152 (ix (0 : Int32))) δ110x).bind (fun y145 => (lp_Mo_booth_151 (fun v5_151x δ151x => (lp_Mo_booth_187 (fun v5_187x δ187x => (if inb (2 : Int32) 8918 then (if inb (2 : Int32) 8918 then bnd (sI δ187x 152 (ix (2 : Int32)) ((gI δ187x 152 (ix (2 : Int32))) + (1 : Int32))) (fun δ_227 => (some (nI b, δ_227))) else none) else none)) (nI p) (nI pr) (nI l) (nI b) FU (0 : Int32) δ151x)) (nI p) (nI pr) (nI l) (nI b) FU (0 : Int32) y145))) else none)) (nI p) (nI pr) (nI l) (nI b) FU (3 : Int32) y104)))))))) (nI p) (nI pr) (nI l) (nI b) FU (0 : Int32) δ = some (nI b, δ') ∧ RGM δ' (boG G b p pr l d) ∧ bfr δ δ' := by
  refine for_inv (fun f i d => lp_Mo_booth_61 _ (nI p) (nI pr) (nI l) (nI b) f i d) 12 (by decide) (fun k e => RGM e (bGA G b k) ∧ bfr δ e) (fun r => ∃ δ', r = some (nI b, δ') ∧ RGM δ' (boG G b p pr l d) ∧ bfr δ δ') (fun f i e hi hI => ?_) (fun f e hI => ?_) 0 _ (by decide) ⟨by rw [bGA_0]; exact h, fun _ _ _ => rfl⟩
  · refine ⟨sI e 152 (566 + (20 * b + i)) (nI 0), ⟨by rw [← bGA_s]; exact RGM_up hI.1, bfr_s hI.2 (by omega)⟩, ?_⟩
    simp only [lp_Mo_booth_61]
    rw [if_neg (show ¬ (12 : Int32) ≤ nI i from nI_ge hi (by decide)), sets_eq hb (by omega), nI_1]
    rfl
  · simp only [lp_Mo_booth_61]
    rw [if_pos (show (12 : Int32) ≤ nI 12 by decide), show (0 : Int32) = nI 0 from rfl, show (1 : Int32) = nI 1 from rfl, show (2 : Int32) = nI 2 from rfl, sets_eq hb (by decide)]
    simp only [Option.bind]
    rw [sets_eq hb (by decide)]
    simp only []
    rw [sets_eq hb (by decide)]
    simp only []
    have hB : RGM (sI (sI (sI e 152 (566 + (20 * b + 0)) (nI p)) 152 (566 + (20 * b + 1)) (nI pr)) 152 (566 + (20 * b + 2)) (nI l)) (bGB G b p pr l) := RGM_up (RGM_up (RGM_up hI.1))
    refine for_inv (fun f i d => lp_Mo_booth_110 _ (nI p) (nI pr) (nI l) (nI b) f i d) 6 (by decide) (fun k e => 3 ≤ k ∧ RGM e (bGC (bGB G b p pr l) b k) ∧ bfr δ e) (fun r => ∃ δ', r = some (nI b, δ') ∧ RGM δ' (boG G b p pr l d) ∧ bfr δ δ') (fun f i e hi hI => ?_) (fun f e hI => ?_) 3 _ (by decide) ⟨by decide, by rw [bGC_0]; exact hB, bfr_s (bfr_s (bfr_s hI.2 (by omega)) (by omega)) (by omega)⟩
    · refine ⟨sI e 152 (566 + (20 * b + i)) (nI 1000), ⟨by omega, by rw [← bGC_s hI.1]; exact RGM_up hI.2.1, bfr_s hI.2.2 (by omega)⟩, ?_⟩
      simp only [lp_Mo_booth_110]
      rw [if_neg (show ¬ (6 : Int32) ≤ nI i from nI_ge hi (by decide)), sets_eq hb (by omega), nI_1]
      rfl
    · simp only [lp_Mo_booth_110]
      have e0 : gI e 152 0 = nI d := by
        rw [hI.2.1 0 (Or.inl (Or.inl (by decide)))]
        unfold bGC bGB
        rw [if_neg (by omega), up_n (by omega), up_n (by omega), up_n (by omega)]
        unfold bGA
        rw [if_neg (by omega), hd]
      rw [if_pos (show (6 : Int32) ≤ nI 6 by decide), show ix (nI 0) = 0 from rfl, if_pos (show inb (nI 0) 8918 by decide), e0, show (10 : Int32) = nI 10 from rfl, sets_eq hb (by decide)]
      simp only []
      refine for_inv (fun f i d => lp_Mo_booth_151 _ (nI p) (nI pr) (nI l) (nI b) f i d) 400 (by decide) (fun k e => RGM e (bGE (up (bGC (bGB G b p pr l) b 6) (566 + (20 * b + 10)) d) (726 + 400 * b) k) ∧ bfr δ e) (fun r => ∃ δ', r = some (nI b, δ') ∧ RGM δ' (boG G b p pr l d) ∧ bfr δ δ') (fun f i e hi hI => ?_) (fun f e hI => ?_) 0 _ (by decide) ⟨by rw [bGE_0]; exact RGM_up hI.2.1, bfr_s hI.2.2 (by omega)⟩
      · refine ⟨sI e 152 (726 + 400 * b + i) (nI 0), ⟨by rw [← bGE_s]; exact RGM_up hI.1, bfr_s hI.2 (by omega)⟩, ?_⟩
        simp only [lp_Mo_booth_151, bnd]
        rw [if_neg (show ¬ (400 : Int32) ≤ nI i from nI_ge hi (by decide)), show ((726 : Int32) + ((400 : Int32) * nI b)) + nI i = nI (726 + 400 * b + i) by rw [lit, lit, pk_mul, nI_add, nI_add], if_pos (inb_i (show 726 + 400 * b + i < 8918 by omega) (by decide)), ixN (show 726 + 400 * b + i < 2147483648 by omega), nI_1]
        rfl
      · simp only [lp_Mo_booth_151]
        rw [if_pos (show (400 : Int32) ≤ nI 400 by decide)]
        refine for_inv (fun f i d => lp_Mo_booth_187 _ (nI p) (nI pr) (nI l) (nI b) f i d) 24 (by decide) (fun k e => RGM e (bGE (bGE (up (bGC (bGB G b p pr l) b 6) (566 + (20 * b + 10)) d) (726 + 400 * b) 400) (8726 + 24 * b) k) ∧ bfr δ e) (fun r => ∃ δ', r = some (nI b, δ') ∧ RGM δ' (boG G b p pr l d) ∧ bfr δ δ') (fun f i e hi hI => ?_) (fun f e hI => ?_) 0 _ (by decide) ⟨by rw [bGE_0]; exact hI.1, hI.2⟩
        · refine ⟨sI e 152 (8726 + 24 * b + i) (nI 0), ⟨by rw [← bGE_s]; exact RGM_up hI.1, bfr_s hI.2 (by omega)⟩, ?_⟩
          simp only [lp_Mo_booth_187, bnd]
          rw [if_neg (show ¬ (24 : Int32) ≤ nI i from nI_ge hi (by decide)), show ((8726 : Int32) + ((24 : Int32) * nI b)) + nI i = nI (8726 + 24 * b + i) by rw [lit, lit, pk_mul, nI_add, nI_add], if_pos (inb_i (show 8726 + 24 * b + i < 8918 by omega) (by decide)), ixN (show 8726 + 24 * b + i < 2147483648 by omega), nI_1]
          rfl
        · simp only [lp_Mo_booth_187, bnd]
          have e2 : gI e 152 2 = nI b := by
            rw [hI.1 2 (Or.inl (Or.inl (by decide)))]
            unfold bGE
            rw [if_neg (by omega), if_neg (by omega), up_n (by omega)]
            unfold bGC bGB
            rw [if_neg (by omega), up_n (by omega), up_n (by omega), up_n (by omega)]
            unfold bGA
            rw [if_neg (by omega), h2]
          rw [if_pos (show (24 : Int32) ≤ nI 24 by decide), show ix (nI 2) = 2 from rfl, if_pos (show inb (nI 2) 8918 by decide), if_pos (show inb (nI 2) 8918 by decide), e2, show nI b + nI 1 = nI (b + 1) from nI_add b 1]
          exact ⟨_, rfl, RGM_ext (RGM_up hI.1) (fun i _ => boM_G hb), bfr_s hI.2 (by omega)⟩
def boC (δ : Dm) (b p pr l d : Nat) : Dm := sI (flI (flI (flI (sI (sI (sI (sI (sI (sI (sI (sI (sI δ (54 + 4 * b) 0 (nI p)) (54 + 4 * b) 1 (nI pr)) (54 + 4 * b) 2 (nI l)) (54 + 4 * b) 3 (nI d)) (54 + 4 * b) 4 (nI 0)) (54 + 4 * b) 5 (nI 0)) (54 + 4 * b) 6 (nI 0)) (54 + 4 * b) 7 (nI 0)) (54 + 4 * b) 8 (nI 0)) (54 + 4 * b + 1) 3 (nI 1000)) (54 + 4 * b + 2 + 0) 12 (nI 0)) (54 + 4 * b + 2 + 1) 12 (nI 0)) 29 2 (nI (b + 1))
theorem boC_o {δ : Dm} {b p pr l d a j : Nat} (h : (a < 54 ∨ 86 ≤ a) ∧ ¬ (a = 29 ∧ j = 2)) (hb : b < 8) : gI (boC δ b p pr l d) a j = gI δ a j := by
  unfold boC
  rw [gs, if_neg (by omega), g_flI, if_neg (by omega), g_flI, if_neg (by omega), g_flI, if_neg (by omega)]
  simp (disch := omega) only [gsr]
theorem boC_1 {δ : Dm} {b p pr l d : Nat} (hb : b < 8) (h2 : gI δ 29 2 = nI b) : (f_Bo_begin (54 + 4 * b) (nI p) (nI pr) (nI l) (nI d) δ).bind (fun y65 => (bnd (sI y65 29 2 ((gI y65 29 2) + (1 : Int32))) (fun δ_78 => (some (((gI δ_78 29 2) - (1 : Int32)), δ_78))))) = some (nI b, boC δ b p pr l d) := by
  simp only [f_Bo_begin, bnd]
  rw [fillI_eq (KD_b b hb).1]
  simp only [Option.bind]
  rw [fillI_eq (KD_b b hb).2.1]
  simp only []
  rw [fillI_eq (KD_b b hb).2.2]
  simp only []
  rw [gss]
  rw [g_flI, if_neg (by omega), g_flI, if_neg (by omega), g_flI, if_neg (by omega)]
  simp (disch := omega) only [gsr]
  rw [h2, nI_1, nI_pred]
  rfl
theorem RG_w {δ : Dm} {G : Nat → Nat} {b w j v : Nat} (hb : b < 8) (hw : w < 12) (hn : ¬ (3 ≤ w ∧ w < 6)) (hj : j = bs w) (h : RG 29 δ G) : RG 29 (sI δ (54 + 4 * b) j (nI v)) (up G (566 + (20 * b + w)) v) := by
  have d := dom_b (b := b) (w := w) hb hw
  exact RG_up _ _ _ _ d.1 (by rw [d.2.1, if_neg hn]; omega) (by rw [d.2.2, if_neg hn]; exact hj) h
set_option maxHeartbeats 4000000 in
theorem boC_G {δ : Dm} {G : Nat → Nat} {b p pr l d : Nat} (hb : b < 8) (h : RG 29 δ G) : RG 29 (boC δ b p pr l d) (boG G b p pr l d) := by
  unfold boC
  refine RG_ext (RG_up 29 2 2 (b + 1) (Or.inl (by decide)) rfl rfl (RG_ft (m := 1) hb (by decide) (RG_ft (m := 0) hb (by decide) (RG_fs hb (RG_w (w := 11) hb (by decide) (by decide) rfl (RG_w (w := 9) hb (by decide) (by decide) rfl (RG_w (w := 8) hb (by decide) (by decide) rfl (RG_w (w := 7) hb (by decide) (by decide) rfl (RG_w (w := 6) hb (by decide) (by decide) rfl (RG_w (w := 10) hb (by decide) (by decide) rfl (RG_w (w := 2) hb (by decide) (by decide) rfl (RG_w (w := 1) hb (by decide) (by decide) rfl (RG_w (w := 0) hb (by decide) (by decide) rfl h))))))))))))) (fun i hi => ?_)
  have hx : ¬ (726 ≤ i ∧ i < 3926) := by unfold dom at hi; omega
  by_cases q2 : i = 2
  · subst q2; rfl
  rw [up_n q2]
  by_cases qt : 8726 + 24 * b ≤ i ∧ i < 8726 + 24 * b + 24
  · rw [boG_t hb qt.1 qt.2]
    by_cases m : i % 2 = 1
    · rw [if_pos ⟨qt.1, qt.2, m⟩]
    · rw [if_neg (fun z => m z.2.2), if_pos ⟨qt.1, qt.2, by omega⟩]
  rw [if_neg (fun z => qt ⟨z.1, z.2.1⟩), if_neg (fun z => qt ⟨z.1, z.2.1⟩)]
  by_cases qb : 566 + 20 * b ≤ i ∧ i < 566 + 20 * b + 12
  · obtain ⟨w, hw, rfl⟩ : ∃ w, w < 12 ∧ i = 566 + (20 * b + w) := ⟨i - 566 - 20 * b, by omega, by omega⟩
    rcases (by omega : w = 0 ∨ w = 1 ∨ w = 2 ∨ (3 ≤ w ∧ w < 6) ∨ w = 6 ∨ w = 7 ∨ w = 8 ∨ w = 9 ∨ w = 10 ∨ w = 11) with rfl | rfl | rfl | q | rfl | rfl | rfl | rfl | rfl | rfl
    case inr.inr.inr.inl => rw [if_pos (by omega), show boG G b p pr l d (566 + (20 * b + w)) = bc (boG G b p pr l d) b w from rfl, boG_b hw, if_neg (by omega), if_neg (by omega), if_neg (by omega), if_pos (by omega)]
    all_goals
      rw [if_neg (by omega)]
      simp (disch := omega) only [up_n, up_s]
      exact boG_b (by decide)
  · rw [if_neg (by omega), boG_o q2 (by omega) (by omega) (by omega)]
    simp (disch := omega) only [up_n]
