/-! worthy -/
def wsN (G : Nat → Nat) (s : Nat) : Nat → Nat
  | 0 => 0
  | q + 1 => if tb s q then wsN G s q + bc G q 11 else wsN G s q
def vlP (G : Nat → Nat) (fr n c s : Nat) : Int32 := nI (wsN G s n) - nI c * nI (lfP G fr n fr s)
def bmW (G : Nat → Nat) (fr n c : Nat) : Nat → Int32 × Int32
  | 0 => (0, 0)
  | j + 1 => if vlP G fr n c (j + 1) ≤ (bmW G fr n c j).2 then bmW G fr n c j else (nI (j + 1), vlP G fr n c (j + 1))
theorem worthOf_eq {n s : Nat} {d : Dm} {S : St} (h : RepC d n S) (ok : Ok S) (hs : s < 2147483648) : f_To_worthOf (nI s) d = some (nI (wsN S.1.1 s (S.1.1 2))) := by
  have k8 : S.1.1 2 ≤ 8 := ok.1.1.2.2.1
  have g2 : gI d 29 2 = nI (S.1.1 2) := (cG h.1).2.2.1
  unfold f_To_worthOf
  refine for_inv (fun f q (v : Int32) => lp_To_worthOf_4 (fun v2_4x v3_4x => (some v2_4x)) (nI s) d f v q) (S.1.1 2) (by omega) (fun q v => v = nI (wsN S.1.1 s q)) (fun x => x = some (nI (wsN S.1.1 s (S.1.1 2)))) (fun f q v hq hI => ?_) (fun f v hI => ?_) 0 0 (Nat.zero_le _) rfl
  · refine ⟨_, rfl, ?_⟩
    subst hI
    simp only [lp_To_worthOf_4]
    rw [g2, if_neg (nI_ge hq (by omega)), slot_eq, if_pos (inb_i (by omega) (by decide)), ixN (show q < 2147483648 by omega), Option.bind_some]
    simp only [ocs, if_pos (isB_at q (show q < 8 by omega)).1]
    rw [bif1 hs (by omega), cBs 11 8 rfl h (by omega) (by decide) (by decide), nI_1, wsN]
    by_cases t : tb s q
    · rw [if_pos t, if_pos t, bndE, nI_add]
    · rw [if_neg t, if_neg t]
  · subst hI
    simp only [lp_To_worthOf_4]
    rw [g2, if_pos (nI_le (Nat.le_refl _) (by omega))]
theorem worth74 {s : Nat} {d : Dm} {S : St} {z a1 a2 a3 v4 v5 : Int32} {kx : Int32 → Int32 → Option (Int32 × Dm)} (h : RepM d S) (ok : Ok S) (hs : s < 2147483648) : lp_Mo_worthy_74 kx a1 a2 a3 v4 v5 (nI s) d FU z 0 = kx (z + nI (wsN S.1.1 s (S.1.1 2))) (nI (S.1.1 2)) := by
  have k8 : S.1.1 2 ≤ 8 := ok.1.1.2.2.1
  have g2 : gI d 152 2 = nI (S.1.1 2) := (mS h.1).2.2.1
  refine for_inv (fun f q (v : Int32) => lp_Mo_worthy_74 kx a1 a2 a3 v4 v5 (nI s) d f v q) (S.1.1 2) (by omega) (fun q v => v = z + nI (wsN S.1.1 s q)) (fun x => x = kx (z + nI (wsN S.1.1 s (S.1.1 2))) (nI (S.1.1 2))) (fun f q v hq hI => ?_) (fun f v hI => ?_) 0 z (Nat.zero_le _) (by show z = z + 0; rw [Int32.add_zero])
  · refine ⟨_, rfl, ?_⟩
    subst hI
    simp only [lp_Mo_worthy_74, j2]
    rw [x2, g2, if_neg (nI_ge hq (by omega)), bif1 hs (by omega), nI_1, wsN]
    by_cases t : tb s q
    · rw [if_pos t, if_pos t, show f_Mo_cell (nI q) 11 d = _ from rW (w := 11) (RGM_of h.1) (by omega) (by decide), Option.bind_some, bndE, Int32.add_assoc, nI_add]
    · rw [if_neg t, if_neg t, bndE, Int32.add_zero]
  · subst hI
    simp only [lp_Mo_worthy_74, j2]
    rw [x2, g2, if_pos (nI_le (Nat.le_refl _) (by omega))]
theorem op_worthy (a1 a2 a3 : Int32) : OpG (f_Fp_worthy a1 a2 a3) (f_Mo_worthy a1 a2 a3) := mk_op fun n S ok => by
  have k8 : S.1.1 2 ≤ 8 := ok.1.1.2.2.1
  have k12 : S.1.1 1 ≤ 12 := ok.1.1.2.1
  have p8 := pow8 (S.1.1 2) (by omega)
  have pp : 1 ≤ 2 ^ S.1.1 2 := Nat.pow_pos (by decide)
  have p1 : ∀ δ, RepC δ n S → f_To_hasPlace a1 δ = some (bI (inb a1 (S.1.1 1))) := fun δ h => hasPlace_eq (by omega) (cG h.1).2.1
  have p2 : ∀ δ, RepM δ S → f_Mo_isPlace a1 δ = some (bI (inb a1 (S.1.1 1))) := fun δ h => isPlace_eq (by omega) (mS h.1).2.1
  by_cases h1 : inb a1 (S.1.1 1)
  · by_cases h2 : nI 0 ≤ a2 ∧ a2 ≤ nI 99
    · by_cases h3 : nI 0 ≤ a3 ∧ a3 ≤ nI 1
      · obtain ⟨fr, hfr, rfl⟩ := inb_ex (by omega) h1
        obtain ⟨c, -, hc, rfl⟩ := low_i (by decide) h2 (by decide)
        refine mk_same2 (v := if a3 = 0 then (bmW S.1.1 fr (S.1.1 2) c (2 ^ S.1.1 2 - 1)).1 else (bmW S.1.1 fr (S.1.1 2) c (2 ^ S.1.1 2 - 1)).2) ok (fun δ h => ?_) (fun δ h => ?_)
        · obtain ⟨d, q1, q2, q3⟩ := plan_eq (fr := fr) h ok (by omega)
          have hC := RepC_P h ok q2
          refine ⟨d, ?_, q2⟩
          simp only [f_Fp_worthy, p1 δ h, wl, Option.bind_some, ifb, if_pos h1, if_pos h2, if_pos h3, q1]
          refine for_inv (fun f s (a : Int32 × Int32) => lp_Fp_worthy_53 (fun v4_53x v5_53x v6_53x => (if a3 = 0 then (some (v4_53x, d)) else (some (v5_53x, d)))) (nI fr) (nI c) a3 d f a.1 a.2 s) (2 ^ S.1.1 2) (by omega) (fun s a => 1 ≤ s ∧ a = bmW S.1.1 fr (S.1.1 2) c (s - 1)) (fun x => x = some (if a3 = 0 then (bmW S.1.1 fr (S.1.1 2) c (2 ^ S.1.1 2 - 1)).1 else (bmW S.1.1 fr (S.1.1 2) c (2 ^ S.1.1 2 - 1)).2, d)) (fun f s a hs hI => ?_) (fun f a hI => ?_) 1 (0, 0) pp ⟨Nat.le_refl _, rfl⟩
          · obtain ⟨i1, i2⟩ := hI
            obtain ⟨j, rfl⟩ : ∃ j, s = j + 1 := ⟨s - 1, by omega⟩
            rw [Nat.add_sub_cancel] at i2
            subst i2
            refine ⟨_, ⟨by omega, rfl⟩, ?_⟩
            simp only [lp_Fp_worthy_53]
            rw [(cG hC.1).2.2.1, show ((1 : Int32) <<< (nI ((sT S).1 2) &&& 31)) = nI (2 ^ S.1.1 2) from sh_1 _ (by show S.1.1 2 < 16; omega), if_neg (nI_ge hs (by omega)), worthOf_eq hC ok (by omega), Option.bind_some, least_eq hC ok (show fr < 12 by omega) (by omega) hs (tabC_m q3 (by omega)), Option.bind_some, bndE, nI_1, Nat.add_sub_cancel]
            have e : bmW S.1.1 fr (S.1.1 2) c (j + 1) = if vlP S.1.1 fr (S.1.1 2) c (j + 1) ≤ (bmW S.1.1 fr (S.1.1 2) c j).2 then bmW S.1.1 fr (S.1.1 2) c j else (nI (j + 1), vlP S.1.1 fr (S.1.1 2) c (j + 1)) := rfl
            rw [e]
            by_cases z : vlP S.1.1 fr (S.1.1 2) c (j + 1) ≤ (bmW S.1.1 fr (S.1.1 2) c j).2
            · rw [if_pos z]
              unfold vlP at z
              rw [if_pos z]
            · rw [if_neg z]
              unfold vlP at z ⊢
              rw [if_neg z]
          · obtain ⟨i1, i2⟩ := hI
            subst i2
            simp only [lp_Fp_worthy_53]
            rw [(cG hC.1).2.2.1, show ((1 : Int32) <<< (nI ((sT S).1 2) &&& 31)) = nI (2 ^ S.1.1 2) from sh_1 _ (by show S.1.1 2 < 16; omega), if_pos (nI_le (Nat.le_refl _) (by omega))]
            split <;> rfl
        · obtain ⟨d, q1, q2, q3⟩ := walks_eq (fr := fr) h ok (by omega)
          have hC := RepM_Q h ok q2
          have g2 : gI d 152 2 = nI (S.1.1 2) := (mS hC.1).2.2.1
          refine ⟨d, ?_, q2⟩
          simp only [f_Mo_worthy, p2 δ h, il (show 0 < 2147483648 by decide) (show 99 < 2147483648 by decide), il (show 0 < 2147483648 by decide) (show 1 < 2147483648 by decide), Option.bind_some, ifb, if_pos h1, if_pos h2, if_pos h3, q1]
          refine for_inv (fun f s (a : Int32 × Int32) => lp_Mo_worthy_46 (fun v4_46x v5_46x v6_46x => (if a3 = 0 then (some (v4_46x, d)) else (some (v5_46x, d)))) (nI fr) (nI c) a3 d f a.1 a.2 s) (2 ^ S.1.1 2) (by omega) (fun s a => 1 ≤ s ∧ a = bmW S.1.1 fr (S.1.1 2) c (s - 1)) (fun x => x = some (if a3 = 0 then (bmW S.1.1 fr (S.1.1 2) c (2 ^ S.1.1 2 - 1)).1 else (bmW S.1.1 fr (S.1.1 2) c (2 ^ S.1.1 2 - 1)).2, d)) (fun f s a hs hI => ?_) (fun f a hI => ?_) 1 (0, 0) pp ⟨Nat.le_refl _, rfl⟩
          · obtain ⟨i1, i2⟩ := hI
            obtain ⟨j, rfl⟩ : ∃ j, s = j + 1 := ⟨s - 1, by omega⟩
            rw [Nat.add_sub_cancel] at i2
            subst i2
            refine ⟨_, ⟨by omega, rfl⟩, ?_⟩
            simp only [lp_Mo_worthy_46, j2]
            rw [x2, g2, sh_1 _ (show S.1.1 2 < 16 by omega), if_neg (nI_ge hs (by omega)), milesM hC ok (show fr < 12 by omega) (by omega) hs (tabM_m q3 (by omega)), Option.bind_some, bndE, worth74 hC ok (by omega), nI_1, Nat.add_sub_cancel]
            have ev : -nI c * nI (lfP S.1.1 fr (S.1.1 2) fr (j + 1)) + nI (wsN S.1.1 (j + 1) (S.1.1 2)) = vlP S.1.1 fr (S.1.1 2) c (j + 1) := by
              unfold vlP
              rw [Int32.neg_mul, Int32.add_comm, ← Int32.sub_eq_add_neg]
            rw [ev]
            have e : bmW S.1.1 fr (S.1.1 2) c (j + 1) = if vlP S.1.1 fr (S.1.1 2) c (j + 1) ≤ (bmW S.1.1 fr (S.1.1 2) c j).2 then bmW S.1.1 fr (S.1.1 2) c j else (nI (j + 1), vlP S.1.1 fr (S.1.1 2) c (j + 1)) := rfl
            rw [e]
            by_cases z : vlP S.1.1 fr (S.1.1 2) c (j + 1) ≤ (bmW S.1.1 fr (S.1.1 2) c j).2
            · rw [if_pos z, if_neg (Int32.not_lt.mpr z)]
            · rw [if_neg z, if_pos (Int32.not_le.mp z)]
          · obtain ⟨i1, i2⟩ := hI
            subst i2
            simp only [lp_Mo_worthy_46, j2]
            rw [x2, g2, sh_1 _ (show S.1.1 2 < 16 by omega), if_pos (nI_le (Nat.le_refl _) (by omega))]
            split <;> rfl
      · refine nop (-1) ok (fun δ h => ?_) (fun δ h => ?_)
        · simp only [f_Fp_worthy, p1 δ h, wl, Option.bind_some, ifb, if_pos h1, if_pos h2, if_neg h3]
        · simp only [f_Mo_worthy, p2 δ h, il (show 0 < 2147483648 by decide) (show 99 < 2147483648 by decide), il (show 0 < 2147483648 by decide) (show 1 < 2147483648 by decide), Option.bind_some, ifb, if_pos h1, if_pos h2, if_neg h3]
    · refine nop (-1) ok (fun δ h => ?_) (fun δ h => ?_)
      · simp only [f_Fp_worthy, p1 δ h, wl, Option.bind_some, ifb, if_pos h1, if_neg h2]
      · simp only [f_Mo_worthy, p2 δ h, il (show 0 < 2147483648 by decide) (show 99 < 2147483648 by decide), Option.bind_some, ifb, if_pos h1, if_neg h2]
  · refine nop (-1) ok (fun δ h => ?_) (fun δ h => ?_)
    · simp only [f_Fp_worthy, p1 δ h, Option.bind_some, ifb, if_neg h1]
    · simp only [f_Mo_worthy, p2 δ h, Option.bind_some, ifb, if_neg h1]
