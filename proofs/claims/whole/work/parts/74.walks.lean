/-! rounds: the reference's table -/
def tabM (G : Nat → Nat) (fr n : Nat) (d : Dm) (k : Nat) : Prop := ∀ s b, s < k → b < n → gI d 164 (8 * s + b) = nI (VV G fr n s b)
def FrQ (δ d : Dm) : Prop := ∀ c j, c ≠ 164 → gI d c j = gI δ c j
theorem RepM_Q {δ d : Dm} {S : St} (h : RepM δ S) (ok : Ok S) (e : FrQ δ d) : RepM d S := RepM_keep h ok (fun b j q => e b j (by omega))
theorem mile_eq {x y : Nat} {d : Dm} {S : St} (h : RepM d S) (hx : x < 12) (hy : y < 12) : f_Mo_mile (nI x) (nI y) d = some (nI (Rd S.1.1 x y)) := by
  unfold f_Mo_mile
  rw [show (((422 : Int32) + ((12 : Int32) * nI x)) + nI y) = nI (422 + (12 * x + y)) by rw [lit, lit, pk_mul, nI_add, nI_add]; exact congrArg nI (by omega), if_pos (inb_i (by omega) (by decide)), ixN (by omega), mG h.1 (Or.inl (dom_r (by omega)).1)]
theorem spM_eq {b : Nat} {d : Dm} {S : St} (h : RepM d S) (hb : b < 8) : f_Mo_cell (nI b) 0 d = some (nI (spt S.1.1 b)) := rW (w := 0) (RGM_of h.1) hb (by decide)
theorem wayM {fr n s b : Nat} {d : Dm} {G : Nat → Nat} (hT : tabM G fr n d s) (h8 : n ≤ 8) (hs : s < 256) (hb : b < n) (ht : tb s b) : (((8 : Int32) * (nI s &&& (((1 : Int32) <<< (nI b &&& 31)) ^^^ (-1 : Int32)))) + nI b) = nI (8 * (s - 2 ^ b) + b) ∧ 8 * (s - 2 ^ b) + b < 2048 ∧ gI d 164 (8 * (s - 2 ^ b) + b) = nI (VV G fr n (s - 2 ^ b) b) := by
  have t := tb_le ht
  rw [clr_k s hs b (by omega) ht]
  exact ⟨by rw [lit, pk_mul, nI_add], by omega, hT _ b (by omega) hb⟩
theorem milesM {fr here s : Nat} {d : Dm} {S : St} (h : RepM d S) (ok : Ok S) (hfr : fr < 12) (hh : here < 12) (hs : s < 2 ^ S.1.1 2) (hT : tabM S.1.1 fr (S.1.1 2) d s) : f_Mo_milesOf (nI s) (nI here) d = some (nI (lfP S.1.1 fr (S.1.1 2) here s)) := by
  have k8 : S.1.1 2 ≤ 8 := ok.1.1.2.2.1
  have p8 := pow8 (S.1.1 2) (by omega)
  have g2 : gI d 152 2 = nI (S.1.1 2) := (mS h.1).2.2.1
  have r := rdOk_S ok
  obtain ⟨F, hF⟩ : ∃ F : Nat → Nat, (fun q => Rd S.1.1 here (spt S.1.1 q) + VV S.1.1 fr (S.1.1 2) (s - 2 ^ q) q) = F := ⟨_, rfl⟩
  have hFb : ∀ q, q < S.1.1 2 → tb s q → F q ≤ 999 * (s + 1) := fun q h1 h2 => by rw [← hF]; exact lf_el r hfr hh hs q h1 h2
  have main : ∀ z : Int32, (s ≠ 0 → z = -1) → jp_Mo_milesOf_9 (nI s) (nI here) d z = some (match mnF F s (S.1.1 2) with | none => z | some m => nI m) := fun z hz => by
    unfold jp_Mo_milesOf_9
    refine for_inv (fun f q (v : Int32) => lp_Mo_milesOf_13 (fun v3_13x v4_13x => (some v3_13x)) (nI s) (nI here) d f v q) (S.1.1 2) (by omega) (fun q v => v = (match mnF F s q with | none => z | some m => nI m) ∧ ∀ m, mnF F s q = some m → m < 1000000) (fun x => x = some (match mnF F s (S.1.1 2) with | none => z | some m => nI m)) (fun f q v hq hI => ?_) (fun f v hI => ?_) 0 z (Nat.zero_le _) ⟨rfl, fun m hm => by cases hm⟩
    · obtain ⟨i1, i2⟩ := hI
      simp only [lp_Mo_milesOf_13, jp_Mo_milesOf_80, j2]
      rw [x2, g2, if_neg (nI_ge hq (by omega)), bif0 (by omega) (by omega), nI_1]
      by_cases t : tb s q
      · have tl := tb_le t
        have hq9 := hFb q hq t
        obtain ⟨w1, w2, w3⟩ := wayM hT k8 (by omega) hq t
        have e : mnF F s (q + 1) = (match mnF F s q with | none => some (F q) | some m => if F q < m then some (F q) else some m) := by rw [mnF, if_pos t]; rfl
        have eF : Rd S.1.1 here (spt S.1.1 q) + VV S.1.1 fr (S.1.1 2) (s - 2 ^ q) q = F q := by rw [← hF]
        rw [if_pos t, spM_eq h (by omega), Option.bind_some, mile_eq h hh (r.2.2.2 q hq), Option.bind_some, w1, if_pos (inb_i w2 (by decide)), ixN (show 8 * (s - 2 ^ q) + q < 2147483648 by omega), w3, bndE, nI_add, eF]
        cases hm : mnF F s q with
        | none =>
          rw [hm] at i1 e
          have i1 : v = z := i1
          refine ⟨nI (F q), ⟨by rw [e], fun m hm' => by rw [e] at hm'; rw [← Option.some.inj hm']; omega⟩, ?_⟩
          rw [i1, hz (by omega), if_pos (show (-1 : Int32) < 0 by decide)]
        | some m =>
          rw [hm] at i1 e
          have i1 : v = nI m := i1
          have hm6 := i2 m hm
          have e : mnF F s (q + 1) = if F q < m then some (F q) else some m := e
          rw [i1, if_neg (nI_pos (by omega))]
          by_cases y : F q < m
          · rw [if_pos y] at e
            refine ⟨nI (F q), ⟨by rw [e], fun m hm' => by rw [e] at hm'; rw [← Option.some.inj hm']; omega⟩, ?_⟩
            rw [if_neg (nI_ge y (by omega))]
          · rw [if_neg y] at e
            refine ⟨nI m, ⟨by rw [e], fun m' hm' => by rw [e] at hm'; rw [← Option.some.inj hm']; omega⟩, ?_⟩
            rw [if_pos (nI_le (by omega) (by omega))]
      · rw [if_neg t]
        have e : mnF F s (q + 1) = mnF F s q := by rw [mnF, if_neg t]
        exact ⟨v, ⟨by rw [e]; exact i1, fun m hm => i2 m (by rw [← e]; exact hm)⟩, rfl⟩
    · simp only [lp_Mo_milesOf_13, j2]
      rw [x2, g2, if_pos (nI_le (Nat.le_refl _) (by omega)), hI.1]
  have el : lfP S.1.1 fr (S.1.1 2) here s = (mnF F s (S.1.1 2)).getD 0 := by unfold lfP; rw [hF]
  unfold f_Mo_milesOf
  rw [el]
  by_cases h0 : s = 0
  · rw [if_pos (show nI s = 0 by rw [h0]; rfl), main 0 (fun z => absurd h0 z), h0, mnF_0]
    rfl
  · rw [if_neg (nI_ne0 (by omega) (by omega)), main (-1) (fun _ => rfl)]
    obtain ⟨q, q1, q2⟩ := bit_ex (S.1.1 2) (by omega) s hs (by omega)
    obtain ⟨m, q', e1, -⟩ := mnF_s (f := F) (s := s) (S.1.1 2) ⟨q, q1, q2⟩
    rw [e1]; rfl
theorem walk50 {fr s b : Nat} {d : Dm} {S : St} {kx : Int32 → Int32 → Option Dm} (h : RepM d S) (ok : Ok S) (hfr : fr < 12) (hb : b < S.1.1 2) (hs : s < 2 ^ S.1.1 2) (hT : tabM S.1.1 fr (S.1.1 2) d s) (z : Int32) (hz0 : s = 0 → z = nI (Rd S.1.1 (spt S.1.1 b) fr)) (hz : s ≠ 0 → z = -1) : lp_Mo_walks_50 kx (nI fr) (nI s) (nI b) d FU z 0 = kx (nI (VV S.1.1 fr (S.1.1 2) s b)) (nI (S.1.1 2)) := by
  have k8 : S.1.1 2 ≤ 8 := ok.1.1.2.2.1
  have p8 := pow8 (S.1.1 2) (by omega)
  have g2 : gI d 152 2 = nI (S.1.1 2) := (mS h.1).2.2.1
  have r := rdOk_S ok
  have hh := r.2.2.2 b hb
  obtain ⟨F, hF⟩ : ∃ F : Nat → Nat, (fun q => Rd S.1.1 (spt S.1.1 b) (spt S.1.1 q) + VV S.1.1 fr (S.1.1 2) (s - 2 ^ q) q) = F := ⟨_, rfl⟩
  have hFb : ∀ q, q < S.1.1 2 → tb s q → F q ≤ 999 * (s + 1) := fun q h1 h2 => by rw [← hF]; exact lf_el r hfr hh hs q h1 h2
  have main : lp_Mo_walks_50 kx (nI fr) (nI s) (nI b) d FU z 0 = kx (match mnF F s (S.1.1 2) with | none => z | some m => nI m) (nI (S.1.1 2)) := by
    refine for_inv (fun f q (v : Int32) => lp_Mo_walks_50 kx (nI fr) (nI s) (nI b) d f v q) (S.1.1 2) (by omega) (fun q v => v = (match mnF F s q with | none => z | some m => nI m) ∧ ∀ m, mnF F s q = some m → m < 1000000) (fun x => x = kx (match mnF F s (S.1.1 2) with | none => z | some m => nI m) (nI (S.1.1 2))) (fun f q v hq hI => ?_) (fun f v hI => ?_) 0 z (Nat.zero_le _) ⟨rfl, fun m hm => by cases hm⟩
    · obtain ⟨i1, i2⟩ := hI
      simp only [lp_Mo_walks_50, jp_Mo_walks_114, j2]
      rw [x2, g2, if_neg (nI_ge hq (by omega)), bif0 (by omega) (by omega), nI_1]
      by_cases t : tb s q
      · have tl := tb_le t
        have hq9 := hFb q hq t
        obtain ⟨w1, w2, w3⟩ := wayM hT k8 (by omega) hq t
        have e : mnF F s (q + 1) = (match mnF F s q with | none => some (F q) | some m => if F q < m then some (F q) else some m) := by rw [mnF, if_pos t]; rfl
        have eF : Rd S.1.1 (spt S.1.1 b) (spt S.1.1 q) + VV S.1.1 fr (S.1.1 2) (s - 2 ^ q) q = F q := by rw [← hF]
        have em : f_Mo_mileOf (nI b) (nI q) d = some (nI (Rd S.1.1 (spt S.1.1 b) (spt S.1.1 q))) := by
          unfold f_Mo_mileOf
          rw [spM_eq h (by omega), Option.bind_some, spM_eq h (by omega), Option.bind_some, mile_eq h hh (r.2.2.2 q hq), Option.bind_some]
        rw [if_pos t, em, Option.bind_some, w1, if_pos (inb_i w2 (by decide)), ixN (show 8 * (s - 2 ^ q) + q < 2147483648 by omega), w3, bndE, nI_add, eF]
        cases hm : mnF F s q with
        | none =>
          rw [hm] at i1 e
          have i1 : v = z := i1
          refine ⟨nI (F q), ⟨by rw [e], fun m hm' => by rw [e] at hm'; rw [← Option.some.inj hm']; omega⟩, ?_⟩
          rw [i1, hz (by omega), if_pos (show (-1 : Int32) < 0 by decide)]
        | some m =>
          rw [hm] at i1 e
          have i1 : v = nI m := i1
          have hm6 := i2 m hm
          have e : mnF F s (q + 1) = if F q < m then some (F q) else some m := e
          rw [i1, if_neg (nI_pos (by omega))]
          by_cases y : F q < m
          · rw [if_pos y] at e
            refine ⟨nI (F q), ⟨by rw [e], fun m hm' => by rw [e] at hm'; rw [← Option.some.inj hm']; omega⟩, ?_⟩
            rw [if_neg (nI_ge y (by omega))]
          · rw [if_neg y] at e
            refine ⟨nI m, ⟨by rw [e], fun m' hm' => by rw [e] at hm'; rw [← Option.some.inj hm']; omega⟩, ?_⟩
            rw [if_pos (nI_le (by omega) (by omega))]
      · rw [if_neg t]
        have e : mnF F s (q + 1) = mnF F s q := by rw [mnF, if_neg t]
        exact ⟨v, ⟨by rw [e]; exact i1, fun m hm => i2 m (by rw [← e]; exact hm)⟩, rfl⟩
    · simp only [lp_Mo_walks_50, j2]
      rw [x2, g2, if_pos (nI_le (Nat.le_refl _) (by omega)), hI.1]
  rw [main, VV_eq]
  by_cases h0 : s = 0
  · rw [if_pos h0, h0, mnF_0, hz0 h0]
  · rw [if_neg h0]
    obtain ⟨q, q1, q2⟩ := bit_ex (S.1.1 2) (by omega) s hs (by omega)
    obtain ⟨m, q', e1, -⟩ := mnF_s (f := F) (s := s) (S.1.1 2) ⟨q, q1, q2⟩
    have el : lfP S.1.1 fr (S.1.1 2) (spt S.1.1 b) s = (mnF F s (S.1.1 2)).getD 0 := by unfold lfP; rw [hF]
    rw [el, e1]; rfl
theorem walks_eq {fr : Nat} {δ : Dm} {S : St} (h : RepM δ S) (ok : Ok S) (hfr : fr < 12) : ∃ d, f_Mo_walks (nI fr) δ = some d ∧ FrQ δ d ∧ tabM S.1.1 fr (S.1.1 2) d (2 ^ S.1.1 2) := by
  have k8 : S.1.1 2 ≤ 8 := ok.1.1.2.2.1
  have p8 := pow8 (S.1.1 2) (by omega)
  have r := rdOk_S ok
  have g2 : ∀ d, FrQ δ d → gI d 152 2 = nI (S.1.1 2) := fun d e => (mS (RepM_Q h ok e).1).2.2.1
  unfold f_Mo_walks
  refine for_inv (fun f s d => lp_Mo_walks_2 (fun v2_2x δ2x => (some δ2x)) (nI fr) f s d) (2 ^ S.1.1 2) (by omega) (fun s d => FrQ δ d ∧ tabM S.1.1 fr (S.1.1 2) d s) (fun x => ∃ d, x = some d ∧ FrQ δ d ∧ tabM S.1.1 fr (S.1.1 2) d (2 ^ S.1.1 2)) (fun f s d hs hI => ?_) (fun f d hI => ?_) 0 δ (Nat.zero_le _) ⟨fun _ _ _ => rfl, fun s b hs => absurd hs (Nat.not_lt_zero _)⟩
  · simp only [lp_Mo_walks_2, j2]
    rw [x2, g2 d hI.1, sh_1 _ (show S.1.1 2 < 16 by omega), if_neg (nI_ge hs (by omega)), nI_1]
    refine for_inv (fun f2 b d => lp_Mo_walks_16 (fun v3_16x δ16x => lp_Mo_walks_2 (fun v2_2x δ2x => some δ2x) (nI fr) f (nI (s + 1)) δ16x) (nI fr) (nI s) f2 b d) (S.1.1 2) (by omega) (fun b d => FrQ δ d ∧ tabM S.1.1 fr (S.1.1 2) d s ∧ ∀ b', b' < b → gI d 164 (8 * s + b') = nI (VV S.1.1 fr (S.1.1 2) s b')) (fun x => ∃ a', (FrQ δ a' ∧ tabM S.1.1 fr (S.1.1 2) a' (s + 1)) ∧ x = lp_Mo_walks_2 (fun v2_2x δ2x => some δ2x) (nI fr) f (nI (s + 1)) a') (fun f2 b e hb hJ => ?_) (fun f2 e hJ => ?_) 0 d (Nat.zero_le _) ⟨hI.1, hI.2, fun b' hb' => absurd hb' (Nat.not_lt_zero _)⟩
    · obtain ⟨j1, j2', j3⟩ := hJ
      have hE := RepM_Q h ok j1
      refine ⟨sI e 164 (8 * s + b) (nI (VV S.1.1 fr (S.1.1 2) s b)), ⟨fun c j q => by rw [gsr q]; exact j1 c j q, fun s' b' h1 h2 => by rw [gsc (by omega)]; exact j2' s' b' h1 h2, fun b' hb' => ?_⟩, ?_⟩
      · by_cases q : b' = b
        · subst q; rw [gss]
        · rw [gsc (by omega)]; exact j3 b' (by omega)
      · simp only [lp_Mo_walks_16, jp_Mo_walks_45, j2]
        rw [x2, g2 e j1, if_neg (nI_ge hb (by omega))]
        have fin : ∀ z : Int32, (s = 0 → z = nI (Rd S.1.1 (spt S.1.1 b) fr)) → (s ≠ 0 → z = -1) → lp_Mo_walks_50 (fun v4_50x v5_50x => (if inb (((8 : Int32) * nI s) + nI b) 2048 then bnd (sI e 164 (ix (((8 : Int32) * nI s) + nI b)) v4_50x) (fun δ_141 => (lp_Mo_walks_16 (fun v3_16x δ16x => lp_Mo_walks_2 (fun v2_2x δ2x => some δ2x) (nI fr) f (nI (s + 1)) δ16x) (nI fr) (nI s) f2 (nI b + (1 : Int32)) δ_141)) else none)) (nI fr) (nI s) (nI b) e FU z 0 = lp_Mo_walks_16 (fun v3_16x δ16x => lp_Mo_walks_2 (fun v2_2x δ2x => some δ2x) (nI fr) f (nI (s + 1)) δ16x) (nI fr) (nI s) f2 (nI (b + 1)) (sI e 164 (8 * s + b) (nI (VV S.1.1 fr (S.1.1 2) s b))) := fun z z1 z2 => by
          rw [walk50 hE ok hfr hb hs j2' z z1 z2, show ((8 : Int32) * nI s) + nI b = nI (8 * s + b) by rw [lit, pk_mul, nI_add], if_pos (inb_i (show 8 * s + b < 2048 by omega) (by decide)), ixN (show 8 * s + b < 2147483648 by omega), bndE, nI_1]
        by_cases h0 : s = 0
        · rw [if_pos (show nI s = 0 by rw [h0]; rfl), spM_eq hE (by omega), Option.bind_some, mile_eq hE (r.2.2.2 b hb) hfr, Option.bind_some]
          exact fin _ (fun _ => rfl) (fun z => absurd h0 z)
        · rw [if_neg (nI_ne0 (by omega) (by omega))]
          exact fin _ (fun z => absurd z h0) (fun _ => rfl)
    · obtain ⟨j1, j2', j3⟩ := hJ
      simp only [lp_Mo_walks_16, j2]
      rw [x2, g2 e j1, if_pos (nI_le (Nat.le_refl _) (by omega))]
      refine ⟨e, ⟨j1, fun s' b' h1 h2 => ?_⟩, rfl⟩
      by_cases q : s' = s
      · subst q; exact j3 b' h2
      · exact j2' s' b' (by omega) h2
  · simp only [lp_Mo_walks_2, j2]
    rw [x2, g2 d hI.1, sh_1 _ (show S.1.1 2 < 16 by omega), if_pos (nI_le (Nat.le_refl _) (by omega))]
    exact ⟨d, rfl, hI.1, hI.2⟩
