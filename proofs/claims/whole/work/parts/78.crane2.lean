/-! the crane, both tables -/
def ctC (G : Nat → Nat) (mo c : Nat) (d : Dm) (k : Nat) : Prop := ∀ s, k ≤ s → s < 2 ^ G 1 → pcN s 12 ≤ G 2 → gI d 28 s = PV G mo c (G 2 - pcN s 12) s
def FrK (δ d : Dm) : Prop := ∀ x j, x ≠ 27 → x ≠ 28 → gI d x j = gI δ x j
theorem RepC_K {n : Nat} {δ d : Dm} {S : St} (h : RepC δ n S) (ok : Ok S) (e : FrK δ d) : RepC d n S := RepC_keep h ok.2.1 (fun b j q => e b j (by omega) (by omega))
theorem pow12 : ∀ n, n < 13 → 2 ^ n ≤ 4096 := by decide
theorem cnb_eq {n mo c s p : Nat} {d : Dm} {S : St} (h : RepC d n S) (ok : Ok S) (pl : plOk S.1.1 mo c) (h1 : gI d 27 1 = nI mo) (h2 : gI d 27 2 = nI c) (hs : s < 2 ^ S.1.1 1) (hk : pcN s 12 < S.1.1 2) (hp : p < S.1.1 1) (ht : ¬ tb s p) (hT : ctC S.1.1 mo c d (s + 1)) : f_Cr_coinsBy (nI (pcN s 12)) (nI s) (nI p) d = some (cand S.1.1 mo c (S.1.1 2 - pcN s 12 - 1) s p) := by
  have k8 : S.1.1 2 ≤ 8 := ok.1.1.2.2.1
  have k12 : S.1.1 1 ≤ 12 := ok.1.1.2.1
  have p12 := pow12 (S.1.1 1) (by omega)
  obtain ⟨b, hb⟩ : ∃ b, pcN s 12 = b := ⟨_, rfl⟩
  rw [hb] at hk ⊢
  have g0 : gI d (54 + 4 * b) 0 = nI (bc S.1.1 b 0) := cBs 0 0 rfl h (by omega) (by decide) (by decide)
  have e1 := or_lt hs hp
  have e2 := or_gt ht
  have e3 := pc_or12 ht (show p < 12 by omega)
  have gt := hT (s ||| 2 ^ p) (by omega) e1 (by omega)
  rw [e3, hb] at gt
  have tl : gI d (54 + 4 * b + 2) p = nI (S.1.1 (8726 + (2 * (12 * b + p) + 0))) := cT (m := 0) h.1 (by omega) (by omega) (by decide)
  have tm : gI d (54 + 4 * b + 3) p = nI (S.1.1 (8726 + (2 * (12 * b + p) + 1))) := cT (m := 1) h.1 (by omega) (by omega) (by decide)
  have b0 := (ok_nums ok hk).1
  have J : ∀ v t : Int32, t = (if bc S.1.1 b 0 = p then 0 else nI c) → v = nI (S.1.1 (8726 + (2 * (12 * b + p) + mo))) → jp_Cr_coinsBy_59 (nI b) (nI s) (nI p) (54 + 4 * b) d v t = some (cand S.1.1 mo c (S.1.1 2 - b - 1) s p) := fun v t hv ht' => by
    unfold jp_Cr_coinsBy_59
    rw [sh_1 p (by omega), or_N, get_in (show (KD 28).2 = 4096 by decide) (by omega), Option.bind_some, gt, hv, ht']
    unfold cand tkV
    rw [show S.1.1 2 - (S.1.1 2 - b - 1 + 1) = b by omega, show S.1.1 2 - (b + 1) = S.1.1 2 - b - 1 by omega]
  unfold f_Cr_coinsBy
  rw [boothAt_eq k8 (cG h.1).2.2.1, if_pos (inb_i hk (by omega)), ixN (show b < 2147483648 by omega)]
  simp only [Option.bind_some, ocs, if_pos (isB_at b (show b < 8 by omega)).1]
  rw [h1, h2, g0]
  have hm : mo = 0 ∨ mo = 1 := by have := pl.2.2.2.1; omega
  have cq : ∀ z : Nat → Int32, (if nI (bc S.1.1 b 0) = nI p then z 0 else z 1) = if bc S.1.1 b 0 = p then z 0 else z 1 := fun z => by
    by_cases q : bc S.1.1 b 0 = p
    · rw [if_pos q, if_pos (by rw [q])]
    · rw [if_neg q, if_neg (fun w => q ((nI_eq (by omega) (by omega)).mp w))]
  rcases hm with rfl | rfl
  · rw [if_pos (show nI 0 = 0 from rfl), get_in (KD_b b (by omega)).2.1 (by omega), tl, Option.bind_some]
    by_cases q : bc S.1.1 b 0 = p
    · rw [if_pos (by rw [q])]; exact J _ _ (by rw [if_pos q]) rfl
    · rw [if_neg (fun w => q ((nI_eq (by omega) (by omega)).mp w))]; exact J _ _ (by rw [if_neg q]) rfl
  · rw [if_neg (show ¬ nI 1 = 0 by decide), get_in (KD_b b (by omega)).2.2 (by omega), tm, Option.bind_some]
    by_cases q : bc S.1.1 b 0 = p
    · rw [if_pos (by rw [q])]; exact J _ _ (by rw [if_pos q]) rfl
    · rw [if_neg (fun w => q ((nI_eq (by omega) (by omega)).mp w))]; exact J _ _ (by rw [if_neg q]) rfl
theorem mostC {n mo c s : Nat} {d : Dm} {S : St} (h : RepC d n S) (ok : Ok S) (pl : plOk S.1.1 mo c) (h1 : gI d 27 1 = nI mo) (h2 : gI d 27 2 = nI c) (hs : s < 2 ^ S.1.1 1) (hk : pcN s 12 < S.1.1 2) (hT : ctC S.1.1 mo c d (s + 1)) : f_Cr_mostOf (nI (pcN s 12)) (nI s) d = some (PV S.1.1 mo c (S.1.1 2 - pcN s 12) s) := by
  have k8 : S.1.1 2 ≤ 8 := ok.1.1.2.2.1
  have k12 : S.1.1 1 ≤ 12 := ok.1.1.2.1
  have p12 := pow12 (S.1.1 1) (by omega)
  have g1 : gI d 29 1 = nI (S.1.1 1) := (cG h.1).2.1
  obtain ⟨k, hkk⟩ : ∃ k, S.1.1 2 - pcN s 12 - 1 = k := ⟨_, rfl⟩
  have main : f_Cr_mostOf (nI (pcN s 12)) (nI s) d = some (match mxF (cand S.1.1 mo c k s) s (S.1.1 1) with | none => -1000000000 | some m => m) := by
    unfold f_Cr_mostOf
    refine for_inv (fun f p (v : Int32) => lp_Cr_mostOf_7 (fun v4_7x v5_7x => (some v4_7x)) (nI (pcN s 12)) (nI s) d f v p) (S.1.1 1) (by omega) (fun p v => v = (match mxF (cand S.1.1 mo c k s) s p with | none => -1000000000 | some m => m)) (fun x => x = some (match mxF (cand S.1.1 mo c k s) s (S.1.1 1) with | none => -1000000000 | some m => m)) (fun f p v hp hI => ?_) (fun f v hI => ?_) 0 _ (Nat.zero_le _) rfl
    · simp only [lp_Cr_mostOf_7]
      rw [g1, if_neg (nI_ge hp (by omega)), bif0 (by omega) (by omega), nI_1]
      by_cases t : tb s p
      · rw [if_pos t]
        refine ⟨v, ?_, rfl⟩
        rw [mxF, if_pos t]; exact hI
      · rw [if_neg t, cnb_eq h ok pl h1 h2 hs hk hp t hT, Option.bind_some, bndE, hkk]
        have cb := cand_b (s := s) pl (show k < S.1.1 2 by omega) hp
        have e : mxF (cand S.1.1 mo c k s) s (p + 1) = (match mxF (cand S.1.1 mo c k s) s p with | none => some (cand S.1.1 mo c k s p) | some m => if m < cand S.1.1 mo c k s p then some (cand S.1.1 mo c k s p) else some m) := by rw [mxF, if_neg t]; rfl
        cases hm : mxF (cand S.1.1 mo c k s) s p with
        | none =>
          rw [hm] at hI e
          have hI : v = -1000000000 := hI
          exact ⟨cand S.1.1 mo c k s p, by rw [e], by rw [hI, if_pos cb]⟩
        | some m =>
          rw [hm] at hI e
          have hI : v = m := hI
          have e : mxF (cand S.1.1 mo c k s) s (p + 1) = if m < cand S.1.1 mo c k s p then some (cand S.1.1 mo c k s p) else some m := e
          by_cases y : m < cand S.1.1 mo c k s p
          · rw [if_pos y] at e
            exact ⟨cand S.1.1 mo c k s p, by rw [e], by rw [hI, if_pos y]⟩
          · rw [if_neg y] at e
            exact ⟨m, by rw [e], by rw [hI, if_neg y]⟩
    · simp only [lp_Cr_mostOf_7]
      rw [g1, if_pos (nI_le (Nat.le_refl _) (by omega)), hI]
  rw [main, show S.1.1 2 - pcN s 12 = k + 1 by omega, PV_s]
  obtain ⟨p, q1, q2⟩ := free_ex (s := s) k12 hk (booths_le ok)
  obtain ⟨m, p', e1, -⟩ := mxF_s (f := cand S.1.1 mo c k s) (s := s) (S.1.1 1) ⟨p, q1, q2⟩
  rw [e1]; rfl
theorem cplan_eq {n mo c : Nat} {δ : Dm} {S : St} (h : RepC δ n S) (ok : Ok S) (pl : plOk S.1.1 mo c) : ∃ d, f_Cr_plan (nI mo) (nI c) δ = some d ∧ FrK δ d ∧ gI d 27 1 = nI mo ∧ gI d 27 2 = nI c ∧ ctC S.1.1 mo c d 0 := by
  have k8 : S.1.1 2 ≤ 8 := ok.1.1.2.2.1
  have k12 : S.1.1 1 ≤ 12 := ok.1.1.2.1
  have p12 := pow12 (S.1.1 1) (by omega)
  have pp : 0 < 2 ^ S.1.1 1 := Nat.pow_pos (by decide)
  have hm : nI mo = 0 ∨ nI mo = 1 := by
    have := pl.2.2.2.1
    rcases (by omega : mo = 0 ∨ mo = 1) with rfl | rfl
    · exact Or.inl rfl
    · exact Or.inr rfl
  have g1 : gI (sI (sI δ 27 1 (nI mo)) 27 2 (nI c)) 29 1 = nI (S.1.1 1) := by rw [gsr (by decide), gsr (by decide)]; exact (cG h.1).2.1
  unfold f_Cr_plan
  rw [if_pos hm]
  simp only [bndE]
  rw [g1, sh_1 _ (show S.1.1 1 < 16 by omega), show nI (2 ^ S.1.1 1) - 1 = nI (2 ^ S.1.1 1 - 1) from pk_sub (b := 1) pp]
  refine whl (fun f (a : Int32 × Dm) => lp_Cr_plan_20 (fun v4_20x δ20x => (some δ20x)) (nI mo) (nI c) f a.1 a.2) (fun a => ∃ k, k ≤ 2 ^ S.1.1 1 ∧ a.1 = nI k - 1 ∧ FrK δ a.2 ∧ gI a.2 27 1 = nI mo ∧ gI a.2 27 2 = nI c ∧ ctC S.1.1 mo c a.2 k) (fun a => (a.1.toInt + 1).toNat) (fun r => ∃ d, r = some d ∧ FrK δ d ∧ gI d 27 1 = nI mo ∧ gI d 27 2 = nI c ∧ ctC S.1.1 mo c d 0) (fun f a hI => ?_) (nI (2 ^ S.1.1 1 - 1), sI (sI δ 27 1 (nI mo)) 27 2 (nI c)) ⟨2 ^ S.1.1 1, Nat.le_refl _, (pk_sub (b := 1) pp).symm, fun x j q1 q2 => by rw [gsr q1, gsr q1], by rw [gsc (by decide), gss], gss, fun s h1 h2 => absurd h2 (by omega)⟩ (by show ((nI (2 ^ S.1.1 1 - 1)).toInt + 1).toNat < _; rw [nI_toInt (by omega)]; omega)
  obtain ⟨k, hk, i1, i2, i3, i4, i5⟩ := hI
  obtain ⟨v, d⟩ := a
  have i1 : v = nI k - 1 := i1
  have i2 : FrK δ d := i2
  have i3 : gI d 27 1 = nI mo := i3
  have i4 : gI d 27 2 = nI c := i4
  have i5 : ctC S.1.1 mo c d k := i5
  have hC := RepC_K h ok i2
  simp only [lp_Cr_plan_20]
  cases k with
  | zero =>
    left
    rw [i1, if_pos (show nI 0 - 1 < 0 by decide)]
    exact ⟨d, rfl, i2, i3, i4, i5⟩
  | succ k =>
    right
    rw [nI_pred] at i1
    subst i1
    rw [if_neg (nI_pos (show k < 2147483648 by omega)), bitC_eq (by omega), Option.bind_some, (cG hC.1).2.2.1]
    have fin : ∀ v : Int32, (pcN k 12 ≤ S.1.1 2 → v = PV S.1.1 mo c (S.1.1 2 - pcN k 12) k) → ∃ a' : Int32 × Dm, (∃ k', k' ≤ 2 ^ S.1.1 1 ∧ a'.1 = nI k' - 1 ∧ FrK δ a'.2 ∧ gI a'.2 27 1 = nI mo ∧ gI a'.2 27 2 = nI c ∧ ctC S.1.1 mo c a'.2 k') ∧ (a'.1.toInt + 1).toNat < ((nI k).toInt + 1).toNat ∧ jp_Cr_plan_60 (lp_Cr_plan_20 (fun v4_20x δ20x => some δ20x) (nI mo) (nI c) f) (fun v4_20x δ20x => some δ20x) (nI mo) (nI c) (nI k) (nI (pcN k 12)) d v = lp_Cr_plan_20 (fun v4_20x δ20x => some δ20x) (nI mo) (nI c) f a'.1 a'.2 := fun v hv => by
      refine ⟨(nI k - 1, sI d 28 k v), ⟨k, by omega, rfl, fun x j q1 q2 => by rw [gsr q2]; exact i2 x j q1 q2, by rw [gsr (by decide)]; exact i3, by rw [gsr (by decide)]; exact i4, fun s h1 h2 h3 => ?_⟩, ?_, ?_⟩
      · by_cases q : s = k
        · subst q; rw [gss]; exact hv h3
        · rw [gsc q]; exact i5 s (by omega) h2 h3
      · show ((nI k - 1).toInt + 1).toNat < ((nI k).toInt + 1).toNat
        rw [show (nI k - 1).toInt = (k : Int) - 1 from pk_sub_toInt (a := k) (b := 1) (by omega) (by decide), nI_toInt (by omega)]
        omega
      · unfold jp_Cr_plan_60
        rw [put_in (show (KD 28).2 = 4096 by decide) (by omega), Option.bind_some]
        show lp_Cr_plan_20 _ _ _ _ (nI k + -1) _ = lp_Cr_plan_20 _ _ _ _ (nI k - 1) _
        rw [Int32.sub_eq_add_neg]
    by_cases z : S.1.1 2 ≤ pcN k 12
    · rw [if_pos (show nI ((sT S).1 2) ≤ nI (pcN k 12) from nI_le z (by have := pcN_le (s := k) 12; omega))]
      exact fin 0 (fun w => by rw [show S.1.1 2 - pcN k 12 = 0 by omega]; rfl)
    · rw [if_neg (show ¬ nI ((sT S).1 2) ≤ nI (pcN k 12) from nI_ge (by show pcN k 12 < S.1.1 2; omega) (show S.1.1 2 < 2147483648 by omega)), mostC hC ok pl i3 i4 (by omega) (by omega) i5, Option.bind_some]
      exact fin _ (fun _ => rfl)
