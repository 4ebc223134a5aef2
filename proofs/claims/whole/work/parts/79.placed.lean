/-! the crane, the reference's table; placed -/
def ctM (G : Nat → Nat) (mo c : Nat) (d : Dm) (k : Nat) : Prop := ∀ s, k ≤ s → s < 2 ^ G 1 → pcN s 12 ≤ G 2 → gI d 165 s = PV G mo c (G 2 - pcN s 12) s
def FrR (δ d : Dm) : Prop := ∀ x j, x ≠ 165 → gI d x j = gI δ x j
theorem RepM_R {δ d : Dm} {S : St} (h : RepM δ S) (ok : Ok S) (e : FrR δ d) : RepM d S := RepM_keep h ok (fun b j q => e b j (by omega))
theorem takesAt_eq {mo c b p : Nat} {d : Dm} {S : St} (h : RepM d S) (hm : mo < 2) (hb : b < 8) (hp : p < 12) (hs : bc S.1.1 b 0 < 12) : f_Mo_takesAt (nI b) (nI p) (nI mo) (nI c) d = some (tkV S.1.1 mo c b p) := by
  have e : ∀ z : Nat, z < 2 → jp_Mo_takesAt_25 (nI b) (nI p) (nI mo) (nI c) d (nI z) ((8726 : Int32) + ((2 : Int32) * (((12 : Int32) * nI b) + nI p))) = some (tkV S.1.1 z c b p) := fun z hz => by
    unfold jp_Mo_takesAt_25 tkV
    rw [show ((8726 : Int32) + ((2 : Int32) * (((12 : Int32) * nI b) + nI p))) + nI z = nI (8726 + (2 * (12 * b + p) + z)) by rw [lit, lit, lit, pk_mul, nI_add, pk_mul, nI_add, nI_add]; exact congrArg nI (by omega), if_pos (inb_i (by omega) (by decide)), ixN (show 8726 + (2 * (12 * b + p) + z) < 2147483648 by omega), spM_eq h hb, Option.bind_some, mG h.1 (Or.inl (dom_t hb hp hz).1)]
    by_cases q : bc S.1.1 b 0 = p
    · rw [if_pos (show nI (spt S.1.1 b) = nI p by show nI (bc S.1.1 b 0) = nI p; rw [q]), if_pos q]
    · rw [if_neg (fun w => q ((nI_eq (by show bc S.1.1 b 0 < _; omega) (by omega)).mp w)), if_neg q]
  unfold f_Mo_takesAt
  rcases (by omega : mo = 0 ∨ mo = 1) with rfl | rfl
  · rw [if_pos (show nI 0 = 0 from rfl)]; exact e 0 (by decide)
  · rw [if_neg (show ¬ nI 1 = 0 by decide)]; exact e 1 (by decide)
theorem cndM {mo c s p : Nat} {d : Dm} {S : St} (h : RepM d S) (ok : Ok S) (pl : plOk S.1.1 mo c) (hs : s < 2 ^ S.1.1 1) (hk : pcN s 12 < S.1.1 2) (hp : p < S.1.1 1) (ht : ¬ tb s p) (hT : ctM S.1.1 mo c d (s + 1)) : f_Mo_takesAt (nI (pcN s 12)) (nI p) (nI mo) (nI c) d = some (tkV S.1.1 mo c (pcN s 12) p) ∧ nI s ||| ((1 : Int32) <<< (nI p &&& 31)) = nI (s ||| 2 ^ p) ∧ s ||| 2 ^ p < 4096 ∧ tkV S.1.1 mo c (pcN s 12) p + gI d 165 (s ||| 2 ^ p) = cand S.1.1 mo c (S.1.1 2 - pcN s 12 - 1) s p := by
  have k8 : S.1.1 2 ≤ 8 := ok.1.1.2.2.1
  have k12 : S.1.1 1 ≤ 12 := ok.1.1.2.1
  have p12 := pow12 (S.1.1 1) (by omega)
  have b0 := (ok_nums ok hk).1
  have e1 := or_lt hs hp
  have e2 := or_gt ht
  have e3 := pc_or12 ht (show p < 12 by omega)
  have gt := hT (s ||| 2 ^ p) (by omega) e1 (by omega)
  refine ⟨takesAt_eq h pl.2.2.2.1 (by omega) (by omega) (by omega), by rw [sh_1 p (by omega), or_N], by omega, ?_⟩
  rw [gt, e3]
  unfold cand
  rw [show S.1.1 2 - (S.1.1 2 - pcN s 12 - 1 + 1) = pcN s 12 by omega, show S.1.1 2 - (pcN s 12 + 1) = S.1.1 2 - pcN s 12 - 1 by omega]
theorem lo_lt {v : Int32} (h : (-1000000000 : Int32) < v) : ¬ v ≤ (-2000000000 : Int32) := by
  rw [le32, show (-2000000000 : Int32).toInt = -2000000000 by decide]
  rw [lt32, show (-1000000000 : Int32).toInt = -1000000000 by decide] at h
  omega
theorem pl102 {mo c s : Nat} {a3 : Int32} {d : Dm} {S : St} {δ : Dm} {kx : Int32 → Dm → Option (Int32 × Dm)} (h : RepM δ S) (ok : Ok S) (pl : plOk S.1.1 mo c) (hF : FrR δ d) (hs : s < 2 ^ S.1.1 1) (hk : pcN s 12 < S.1.1 2) (hT : ctM S.1.1 mo c d (s + 1)) : ∃ d' i, FrR δ d' ∧ ctM S.1.1 mo c d' s ∧ lp_Mo_placed_102 kx (nI mo) (nI c) a3 (nI s) (nI (pcN s 12)) FU 0 (sI d 165 s (-2000000000)) = kx i d' := by
  have k8 : S.1.1 2 ≤ 8 := ok.1.1.2.2.1
  have k12 : S.1.1 1 ≤ 12 := ok.1.1.2.1
  have p12 := pow12 (S.1.1 1) (by omega)
  obtain ⟨k, hkk⟩ : ∃ k, S.1.1 2 - pcN s 12 - 1 = k := ⟨_, rfl⟩
  have main : ∃ d', FrR δ d' ∧ (∀ j, j ≠ s → gI d' 165 j = gI d 165 j) ∧ gI d' 165 s = (match mxF (cand S.1.1 mo c k s) s (S.1.1 1) with | none => -2000000000 | some m => m) ∧ lp_Mo_placed_102 kx (nI mo) (nI c) a3 (nI s) (nI (pcN s 12)) FU 0 (sI d 165 s (-2000000000)) = kx (nI (S.1.1 1)) d' := by
    refine for_inv (fun f p e => lp_Mo_placed_102 kx (nI mo) (nI c) a3 (nI s) (nI (pcN s 12)) f p e) (S.1.1 1) (by omega) (fun p e => FrR δ e ∧ (∀ j, j ≠ s → gI e 165 j = gI d 165 j) ∧ gI e 165 s = (match mxF (cand S.1.1 mo c k s) s p with | none => -2000000000 | some m => m)) (fun x => ∃ d', FrR δ d' ∧ (∀ j, j ≠ s → gI d' 165 j = gI d 165 j) ∧ gI d' 165 s = (match mxF (cand S.1.1 mo c k s) s (S.1.1 1) with | none => -2000000000 | some m => m) ∧ x = kx (nI (S.1.1 1)) d') (fun f p e hp hI => ?_) (fun f e hI => ?_) 0 _ (Nat.zero_le _) ⟨fun x j q => by rw [gsr q]; exact hF x j q, fun j q => gsc q, gss⟩
    · obtain ⟨i1, i2, i3⟩ := hI
      have hM := RepM_R h ok i1
      have hTe : ctM S.1.1 mo c e (s + 1) := fun t h1 h2 h3 => by rw [i2 t (by omega)]; exact hT t h1 h2 h3
      simp only [lp_Mo_placed_102, jp_Mo_placed_193, j2]
      rw [if_pos (show inb (1 : Int32) 8918 by decide), show ix (1 : Int32) = 1 from rfl, (mS hM.1).2.1, if_neg (show ¬ nI ((sT S).1 1) ≤ nI p from nI_ge hp (show S.1.1 1 < 2147483648 by omega)), x2, (mS hM.1).2.2.1, if_neg (show ¬ nI ((sT S).1 2) ≤ nI (pcN s 12) from nI_ge hk (show S.1.1 2 < 2147483648 by omega)), bif1 (by omega) (by omega), nI_1]
      by_cases t : tb s p
      · rw [if_pos t]
        exact ⟨e, ⟨i1, i2, by rw [mxF, if_pos t]; exact i3⟩, rfl⟩
      · obtain ⟨q1, q2, q3, q4⟩ := cndM hM ok pl hs hk hp t hTe
        rw [hkk] at q4
        have cb := cand_b (s := s) pl (show k < S.1.1 2 by omega) hp
        have ee : mxF (cand S.1.1 mo c k s) s (p + 1) = (match mxF (cand S.1.1 mo c k s) s p with | none => some (cand S.1.1 mo c k s p) | some m => if m < cand S.1.1 mo c k s p then some (cand S.1.1 mo c k s p) else some m) := by rw [mxF, if_neg t]; rfl
        rw [if_neg t, q1, Option.bind_some, q2, if_pos (inb_i q3 (by decide)), ixN (show s ||| 2 ^ p < 2147483648 by omega), q4, bndE, if_pos (inb_i (show s < 4096 by omega) (by decide)), if_pos (inb_i (show s < 4096 by omega) (by decide)), if_pos (inb_i (show s < 4096 by omega) (by decide)), if_pos (inb_i (show s < 4096 by omega) (by decide)), ixN (show s < 2147483648 by omega), i3]
        have fin : ∀ v : Int32, v = (match mxF (cand S.1.1 mo c k s) s (p + 1) with | none => -2000000000 | some m => m) → ∃ a', (FrR δ a' ∧ (∀ j, j ≠ s → gI a' 165 j = gI d 165 j) ∧ gI a' 165 s = (match mxF (cand S.1.1 mo c k s) s (p + 1) with | none => -2000000000 | some m => m)) ∧ bnd (sI e 165 s v) (fun δ_193 => lp_Mo_placed_102 kx (nI mo) (nI c) a3 (nI s) (nI (pcN s 12)) f (nI (p + 1)) δ_193) = lp_Mo_placed_102 kx (nI mo) (nI c) a3 (nI s) (nI (pcN s 12)) f (nI (p + 1)) a' := fun v hv => ⟨sI e 165 s v, ⟨fun x j q => by rw [gsr q]; exact i1 x j q, fun j q => by rw [gsc q]; exact i2 j q, by rw [gss, hv]⟩, by rw [bndE]⟩
        cases hm : mxF (cand S.1.1 mo c k s) s p with
        | none =>
          rw [hm] at ee
          have ee : mxF (cand S.1.1 mo c k s) s (p + 1) = some (cand S.1.1 mo c k s p) := ee
          dsimp only
          rw [if_neg (lo_lt cb)]
          exact fin _ (by rw [ee])
        | some m =>
          rw [hm] at ee
          have ee : mxF (cand S.1.1 mo c k s) s (p + 1) = if m < cand S.1.1 mo c k s p then some (cand S.1.1 mo c k s p) else some m := ee
          dsimp only
          by_cases y : m < cand S.1.1 mo c k s p
          · rw [if_pos y] at ee
            rw [if_neg (Int32.not_le.mpr y)]
            exact fin _ (by rw [ee])
          · rw [if_neg y] at ee
            rw [if_pos (Int32.not_lt.mp y)]
            exact fin _ (by rw [ee])
    · obtain ⟨i1, i2, i3⟩ := hI
      have hM := RepM_R h ok i1
      simp only [lp_Mo_placed_102]
      rw [if_pos (show inb (1 : Int32) 8918 by decide), show ix (1 : Int32) = 1 from rfl, (mS hM.1).2.1, if_pos (show nI ((sT S).1 1) ≤ nI (S.1.1 1) from nI_le (Nat.le_refl _) (show S.1.1 1 < 2147483648 by omega))]
      exact ⟨e, i1, i2, i3, rfl⟩
  obtain ⟨d', m1, m2, m3, m4⟩ := main
  refine ⟨d', _, m1, fun t h1 h2 h3 => ?_, m4⟩
  by_cases q : t = s
  · subst q
    rw [m3, show S.1.1 2 - pcN t 12 = k + 1 by omega, PV_s]
    obtain ⟨p, q1, q2⟩ := free_ex (s := t) k12 hk (booths_le ok)
    obtain ⟨m, p', e1, -⟩ := mxF_s (f := cand S.1.1 mo c k t) (s := t) (S.1.1 1) ⟨p, q1, q2⟩
    rw [e1]; rfl
  · rw [m2 t q]; exact hT t (by omega) h2 h3
theorem pl48 {mo c : Nat} {a3 : Int32} {δ : Dm} {S : St} {kx : Int32 → Dm → Option (Int32 × Dm)} (h : RepM δ S) (ok : Ok S) (pl : plOk S.1.1 mo c) : ∃ d i, FrR δ d ∧ ctM S.1.1 mo c d 0 ∧ lp_Mo_placed_48 kx (nI mo) (nI c) a3 FU (nI (2 ^ S.1.1 1) - 1) δ = kx i d := by
  have k8 : S.1.1 2 ≤ 8 := ok.1.1.2.2.1
  have k12 : S.1.1 1 ≤ 12 := ok.1.1.2.1
  have p12 := pow12 (S.1.1 1) (by omega)
  have pp : 0 < 2 ^ S.1.1 1 := Nat.pow_pos (by decide)
  refine whl (fun f (a : Int32 × Dm) => lp_Mo_placed_48 kx (nI mo) (nI c) a3 f a.1 a.2) (fun a => ∃ k, k ≤ 2 ^ S.1.1 1 ∧ a.1 = nI k - 1 ∧ FrR δ a.2 ∧ ctM S.1.1 mo c a.2 k) (fun a => (a.1.toInt + 1).toNat) (fun r => ∃ d i, FrR δ d ∧ ctM S.1.1 mo c d 0 ∧ r = kx i d) (fun f a hI => ?_) (nI (2 ^ S.1.1 1) - 1, δ) ⟨2 ^ S.1.1 1, Nat.le_refl _, rfl, fun x j q => rfl, fun s h1 h2 => absurd h2 (by omega)⟩ (by show ((nI (2 ^ S.1.1 1) - 1).toInt + 1).toNat < _; rw [show (nI (2 ^ S.1.1 1) - 1).toInt = ((2 ^ S.1.1 1 : Nat) : Int) - 1 from pk_sub_toInt (a := 2 ^ S.1.1 1) (b := 1) (by omega) (by decide)]; omega)
  obtain ⟨k, hk, i1, i2, i5⟩ := hI
  obtain ⟨v, d⟩ := a
  have i1 : v = nI k - 1 := i1
  have i2 : FrR δ d := i2
  have i5 : ctM S.1.1 mo c d k := i5
  have hM := RepM_R h ok i2
  simp only [lp_Mo_placed_48, jp_Mo_placed_98, j2]
  cases k with
  | zero =>
    left
    rw [i1, if_pos (show nI 0 - 1 < 0 by decide)]
    exact ⟨d, _, i2, i5, rfl⟩
  | succ k =>
    right
    rw [nI_pred] at i1
    subst i1
    have me : ((nI k - 1).toInt + 1).toNat < ((nI k).toInt + 1).toNat := by
      rw [show (nI k - 1).toInt = (k : Int) - 1 from pk_sub_toInt (a := k) (b := 1) (by omega) (by decide), nI_toInt (by omega)]
      omega
    have em : nI k + -1 = nI k - 1 := by rw [Int32.sub_eq_add_neg]
    have pl12 := pcN_le (s := k) 12
    rw [if_neg (nI_pos (show k < 2147483648 by omega)), bits_eq (by omega), Option.bind_some, x2, (mS hM.1).2.2.1, em]
    by_cases z : pcN k 12 ≤ S.1.1 2
    · rw [if_pos (show nI (pcN k 12) ≤ nI ((sT S).1 2) from nI_le z (show S.1.1 2 < 2147483648 by omega)), if_pos (inb_i (show k < 4096 by omega) (by decide)), if_pos (inb_i (show k < 4096 by omega) (by decide)), ixN (show k < 2147483648 by omega)]
      by_cases y : pcN k 12 = S.1.1 2
      · rw [if_pos (show nI (pcN k 12) = nI ((sT S).1 2) by rw [y]), bndE]
        refine ⟨(nI k - 1, sI d 165 k 0), ⟨k, by omega, rfl, fun x j q => by rw [gsr q]; exact i2 x j q, fun s h1 h2 h3 => ?_⟩, me, ?_⟩
        · by_cases q : s = k
          · subst q
            rw [gss, show S.1.1 2 - pcN s 12 = 0 by omega]; rfl
          · rw [gsc q]; exact i5 s (by omega) h2 h3
        · have h1 : 1 < FU := FU_gt (by decide)
          obtain ⟨F, hF⟩ : ∃ F, FU = F + 1 := ⟨FU - 1, by omega⟩
          have hM2 := RepM_R (d := sI d 165 k 0) h ok (fun x j q => by rw [gsr q]; exact i2 x j q)
          rw [hF]
          simp only [lp_Mo_placed_102, j2]
          rw [if_pos (show inb (1 : Int32) 8918 by decide), show ix (1 : Int32) = 1 from rfl, (mS hM2.1).2.1, x2, (mS hM2.1).2.2.1]
          by_cases w : nI ((sT S).1 1) ≤ 0
          · rw [if_pos w]
          · rw [if_neg w, if_pos (show nI ((sT S).1 2) ≤ nI (pcN k 12) from nI_le (by show S.1.1 2 ≤ _; omega) (by omega))]
      · rw [if_neg (show ¬ nI (pcN k 12) = nI ((sT S).1 2) from fun w => y ((nI_eq (by omega) (show S.1.1 2 < 2147483648 by omega)).mp w)), bndE]
        obtain ⟨d', i, q1, q2, q3⟩ := pl102 (a3 := a3) (kx := fun v6_102x δ102x => (lp_Mo_placed_48 kx (nI mo) (nI c) a3 f (nI k - 1) δ102x)) h ok pl i2 (show k < 2 ^ S.1.1 1 by omega) (by omega) i5
        rw [q3]
        exact ⟨(nI k - 1, d'), ⟨k, by omega, rfl, q1, q2⟩, me, rfl⟩
    · rw [if_neg (show ¬ nI (pcN k 12) ≤ nI ((sT S).1 2) from nI_ge (by show S.1.1 2 < _; omega) (by omega))]
      refine ⟨(nI k - 1, d), ⟨k, by omega, rfl, i2, fun s h1 h2 h3 => ?_⟩, me, rfl⟩
      by_cases q : s = k
      · subst q; exact absurd h3 z
      · exact i5 s (by omega) h2 h3
/-- where they stand -/
def fcQ (G : Nat → Nat) (mo c s p : Nat) : Bool := decide (¬ tb s p) && decide (cand G mo c (G 2 - pcN s 12 - 1) s p = PV G mo c (G 2 - pcN s 12) s)
def fcP (G : Nat → Nat) (mo c s : Nat) : Option Nat := (List.range (G 1)).find? (fcQ G mo c s)
theorem fcP_m {G : Nat → Nat} {mo c s p : Nat} (h : fcP G mo c s = some p) : p < G 1 ∧ ¬ tb s p := by
  unfold fcP at h
  have h1 := List.find?_some h
  have h2 := List.mem_of_find?_eq_some h
  unfold fcQ at h1
  have h1 := (Bool.and_eq_true _ _).mp h1
  exact ⟨List.mem_range.mp h2, of_decide_eq_true h1.1⟩
theorem fcP_s {G : Nat → Nat} {mo c s : Nat} (pl : plOk G mo c) (h : pcN s 12 < G 2) : ∃ p, fcP G mo c s = some p := by
  obtain ⟨p, q1, q2⟩ := free_ex (s := s) pl.1 h pl.2.1
  obtain ⟨m, p', e1, e2, e3, e4⟩ := mxF_s (f := cand G mo c (G 2 - pcN s 12 - 1) s) (s := s) (G 1) ⟨p, q1, q2⟩
  cases hc : fcP G mo c s with
  | some x => exact ⟨x, rfl⟩
  | none =>
    exfalso
    unfold fcP at hc
    have := List.find?_eq_none.mp hc p' (List.mem_range.mpr e2)
    apply this
    unfold fcQ
    have e : PV G mo c (G 2 - pcN s 12) s = m := by
      rw [show G 2 - pcN s 12 = G 2 - pcN s 12 - 1 + 1 by omega, PV_s, e1]; rfl
    rw [e, decide_eq_true e3, decide_eq_true e4]; rfl
def tkS (G : Nat → Nat) (mo c : Nat) : Nat → Nat × Int32
  | 0 => (0, -1)
  | b + 1 => match fcP G mo c (tkS G mo c b).1 with
    | some p => ((tkS G mo c b).1 ||| 2 ^ p, nI p)
    | none => tkS G mo c b
theorem tkS_ok {G : Nat → Nat} {mo c : Nat} (pl : plOk G mo c) : ∀ b, b ≤ G 2 → (tkS G mo c b).1 < 2 ^ G 1 ∧ pcN (tkS G mo c b).1 12 = b := by
  intro b
  induction b with
  | zero => intro _; exact ⟨Nat.pow_pos (by decide), by show pcN 0 12 = 0; exact pcN_0⟩
  | succ b ih =>
    intro hb
    obtain ⟨i1, i2⟩ := ih (by omega)
    obtain ⟨p, hp⟩ := fcP_s (s := (tkS G mo c b).1) pl (by omega)
    obtain ⟨p1, p2⟩ := fcP_m hp
    rw [tkS, hp]
    have h12 := pl.1
    exact ⟨or_lt i1 p1, by rw [pc_or12 p2 (by omega), i2]⟩
theorem fspC {n mo c s p : Nat} {d : Dm} {S : St} (h : RepC d n S) (ok : Ok S) (pl : plOk S.1.1 mo c) (h1 : gI d 27 1 = nI mo) (h2 : gI d 27 2 = nI c) (hs : s < 2 ^ S.1.1 1) (hk : pcN s 12 < S.1.1 2) (hT : ctC S.1.1 mo c d 0) (hq : fcP S.1.1 mo c s = some p) : f_Cr_firstSpot (nI (pcN s 12)) (nI s) d = some (nI p) := by
  have k12 : S.1.1 1 ≤ 12 := ok.1.1.2.1
  have p12 := pow12 (S.1.1 1) (by omega)
  have g1 : gI d 29 1 = nI (S.1.1 1) := (cG h.1).2.1
  have gs' := hT s (Nat.zero_le _) hs (by omega)
  unfold f_Cr_firstSpot
  refine for_brk (fun f q (_ : Unit) => lp_Cr_firstSpot_3 (fun v4_3x => (some (-1 : Int32))) (nI (pcN s 12)) (nI s) d f q) (S.1.1 1) (by omega) (fun q _ => ((List.range (S.1.1 1)).take q).find? (fcQ S.1.1 mo c s) = none) (fun x => x = some (nI p)) (fun f q u hq' hI => ?_) (fun f u hI => ?_) 0 () (Nat.zero_le _) rfl
  · simp only [lp_Cr_firstSpot_3]
    rw [g1, if_neg (nI_ge hq' (by omega)), bif0 (by omega) (by omega), nI_1]
    by_cases t : tb s q
    · right
      rw [if_pos t]
      exact ⟨(), find_nx hI (range_at hq') (by unfold fcQ; rw [decide_eq_false (fun w => w t)]; simp), rfl⟩
    · rw [if_neg t, cnb_eq h ok pl h1 h2 hs hk hq' t (fun z z1 z2 z3 => hT z (Nat.zero_le _) z2 z3), Option.bind_some, get_in (show (KD 28).2 = 4096 by decide) (by omega), gs', Option.bind_some]
      by_cases y : cand S.1.1 mo c (S.1.1 2 - pcN s 12 - 1) s q = PV S.1.1 mo c (S.1.1 2 - pcN s 12) s
      · left
        rw [if_pos y]
        have e : fcP S.1.1 mo c s = some q := find_at hI (range_at hq') (by unfold fcQ; rw [decide_eq_true t, decide_eq_true y]; rfl)
        rw [hq] at e
        rw [Option.some.inj e]
      · right
        rw [if_neg y]
        exact ⟨(), find_nx hI (range_at hq') (by unfold fcQ; rw [decide_eq_false y]; simp), rfl⟩
  · exfalso
    rw [List.take_of_length_le (by rw [List.length_range]; exact Nat.le_refl _)] at hI
    have e : fcP S.1.1 mo c s = none := hI
    rw [e] at hq; cases hq
theorem spotC {n mo c w : Nat} {d : Dm} {S : St} (h : RepC d n S) (ok : Ok S) (pl : plOk S.1.1 mo c) (h1 : gI d 27 1 = nI mo) (h2 : gI d 27 2 = nI c) (hw : w < S.1.1 2) (hT : ctC S.1.1 mo c d 0) : f_Cr_spotOf (nI w) d = some (tkS S.1.1 mo c (w + 1)).2 := by
  have k8 : S.1.1 2 ≤ 8 := ok.1.1.2.2.1
  have k12 : S.1.1 1 ≤ 12 := ok.1.1.2.1
  unfold f_Cr_spotOf
  refine for_inv (fun f b (a : Int32 × Int32) => lp_Cr_spotOf_8 (fun v3_8x v4_8x v5_8x => (some v4_8x)) (nI w) d f a.1 a.2 b) (w + 1) (by omega) (fun b a => a = (nI (tkS S.1.1 mo c b).1, (tkS S.1.1 mo c b).2)) (fun x => x = some (tkS S.1.1 mo c (w + 1)).2) (fun f b a hb hI => ?_) (fun f a hI => ?_) 0 (0, -1) (Nat.zero_le _) rfl
  · subst hI
    obtain ⟨t1, t2⟩ := tkS_ok pl b (by omega)
    obtain ⟨p, hp⟩ := fcP_s (s := (tkS S.1.1 mo c b).1) pl (by omega)
    obtain ⟨p1, p2⟩ := fcP_m hp
    have e := fspC h ok pl h1 h2 t1 (by omega) hT hp
    rw [t2] at e
    simp only [lp_Cr_spotOf_8]
    rw [if_neg (nI_nlt (by omega) (by omega)), e, Option.bind_some, if_neg (nI_nm1 (show p < 2147483648 by omega)), bndE, sh_1 p (by omega), or_N, nI_1]
    refine ⟨_, rfl, ?_⟩
    rw [tkS, hp]
  · subst hI
    simp only [lp_Cr_spotOf_8]
    rw [if_pos (nI_lt (by omega) (by omega))]
theorem fspM {mo c s p : Nat} {d : Dm} {S : St} {a3 : Int32} {kx : Int32 → Option (Int32 × Dm)} (h : RepM d S) (ok : Ok S) (pl : plOk S.1.1 mo c) (hs : s < 2 ^ S.1.1 1) (hk : pcN s 12 < S.1.1 2) (hT : ctM S.1.1 mo c d 0) (hq : fcP S.1.1 mo c s = some p) : lp_Mo_placed_236 kx (nI mo) (nI c) a3 (nI s) (nI (pcN s 12)) d FU 0 = kx (nI p) := by
  have k12 : S.1.1 1 ≤ 12 := ok.1.1.2.1
  have p12 := pow12 (S.1.1 1) (by omega)
  have gs' := hT s (Nat.zero_le _) hs (by omega)
  refine for_brk (fun f q (_ : Unit) => lp_Mo_placed_236 kx (nI mo) (nI c) a3 (nI s) (nI (pcN s 12)) d f q) (S.1.1 1) (by omega) (fun q _ => ((List.range (S.1.1 1)).take q).find? (fcQ S.1.1 mo c s) = none) (fun x => x = kx (nI p)) (fun f q u hq' hI => ?_) (fun f u hI => ?_) 0 () (Nat.zero_le _) rfl
  · simp only [lp_Mo_placed_236]
    rw [bif1 (by omega) (by omega), nI_1]
    by_cases t : tb s q
    · right
      rw [if_pos t]
      exact ⟨(), find_nx hI (range_at hq') (by unfold fcQ; rw [decide_eq_false (fun w => w t)]; simp), rfl⟩
    · obtain ⟨q1, q2, q3, q4⟩ := cndM h ok pl hs hk hq' t (fun z z1 z2 z3 => hT z (Nat.zero_le _) z2 z3)
      rw [if_neg t, q1, Option.bind_some, q2, if_pos (inb_i q3 (by decide)), if_pos (inb_i (show s < 4096 by omega) (by decide)), ixN (show s ||| 2 ^ q < 2147483648 by omega), ixN (show s < 2147483648 by omega), q4, gs']
      by_cases y : cand S.1.1 mo c (S.1.1 2 - pcN s 12 - 1) s q = PV S.1.1 mo c (S.1.1 2 - pcN s 12) s
      · left
        rw [if_pos y]
        have e : fcP S.1.1 mo c s = some q := find_at hI (range_at hq') (by unfold fcQ; rw [decide_eq_true t, decide_eq_true y]; rfl)
        rw [hq] at e
        rw [Option.some.inj e]
      · right
        rw [if_neg y]
        exact ⟨(), find_nx hI (range_at hq') (by unfold fcQ; rw [decide_eq_false y]; simp), rfl⟩
  · exfalso
    rw [List.take_of_length_le (by rw [List.length_range]; exact Nat.le_refl _)] at hI
    have e : fcP S.1.1 mo c s = none := hI
    rw [e] at hq; cases hq
theorem spotM {mo c w : Nat} {d : Dm} {S : St} (h : RepM d S) (ok : Ok S) (pl : plOk S.1.1 mo c) (hw : w < S.1.1 2) (hT : ctM S.1.1 mo c d 0) : lp_Mo_placed_227 (fun v4_227x v5_227x v6_227x => (some (v5_227x, d))) (nI mo) (nI c) (nI w) d FU 0 0 0 = some ((tkS S.1.1 mo c (w + 1)).2, d) := by
  have k8 : S.1.1 2 ≤ 8 := ok.1.1.2.2.1
  have k12 : S.1.1 1 ≤ 12 := ok.1.1.2.1
  refine for_inv (fun f b (a : Int32 × Int32) => lp_Mo_placed_227 (fun v4_227x v5_227x v6_227x => (some (v5_227x, d))) (nI mo) (nI c) (nI w) d f a.1 a.2 b) (w + 1) (by omega) (fun b a => a.1 = nI (tkS S.1.1 mo c b).1 ∧ (0 < b → a.2 = (tkS S.1.1 mo c b).2)) (fun x => x = some ((tkS S.1.1 mo c (w + 1)).2, d)) (fun f b a hb hI => ?_) (fun f a hI => ?_) 0 (0, 0) (Nat.zero_le _) ⟨rfl, fun z => absurd z (Nat.not_lt_zero _)⟩
  · obtain ⟨u, v⟩ := a
    obtain ⟨i1, i2⟩ := hI
    have i1 : u = nI (tkS S.1.1 mo c b).1 := i1
    obtain ⟨t1, t2⟩ := tkS_ok pl b (by omega)
    obtain ⟨p, hp⟩ := fcP_s (s := (tkS S.1.1 mo c b).1) pl (by omega)
    obtain ⟨p1, p2⟩ := fcP_m hp
    have e := fun kx => fspM (a3 := nI w) (kx := kx) h ok pl t1 (by omega) hT hp
    rw [t2] at e
    simp only [lp_Mo_placed_227]
    rw [if_neg (nI_nlt (by omega) (by omega)), i1, e, bndE, sh_1 p (by omega), or_N, nI_1]
    refine ⟨(nI ((tkS S.1.1 mo c b).1 ||| 2 ^ p), nI p), ⟨?_, fun _ => ?_⟩, rfl⟩
    · rw [tkS, hp]
    · rw [tkS, hp]
  · obtain ⟨i1, i2⟩ := hI
    simp only [lp_Mo_placed_227]
    rw [if_pos (nI_lt (by omega) (by omega)), i2 (by omega)]
theorem m1_k {a : Int32} {k : Nat} (hk : k < 1000000) (h : (-1 : Int32) ≤ a ∧ a ≤ nI k - 1) : a = -1 ∨ ∃ w, w < k ∧ a = nI w := by
  by_cases q : a = -1
  · exact Or.inl q
  · right
    have h1 := le32.mp h.1
    have h2 := le32.mp h.2
    have e := pk_sub_toInt (a := k) (b := 1) (by omega) (by decide)
    have e : (nI k - 1).toInt = (k : Int) - 1 := e
    rw [show (-1 : Int32).toInt = -1 from rfl] at h1
    rw [e] at h2
    have h3 : a.toInt ≠ -1 := fun z => q (Int32.toInt_inj.mp (by rw [z]; rfl))
    exact inb_ex (n := k) (by omega) ⟨by omega, by omega⟩
theorem mk_same3 {cf mf : Dm → Option (Int32 × Dm)} {n : Nat} {S : St} {v : Int32} (ok : Ok S) (h1 : ∀ δ, RepC δ n S → ∃ δ', cf δ = some (v, δ') ∧ FrK δ δ') (h2 : ∀ δ, RepM δ S → ∃ δ', mf δ = some (v, δ') ∧ FrR δ δ') : ∃ v S', (∀ δ, RepC δ n S → ∃ δ1, cf δ = some (v, δ1) ∧ RepC δ1 n S' ∧ KM δ δ1) ∧ (∀ δ, RepM δ S → ∃ δ2, mf δ = some (v, δ2) ∧ RepM δ2 S' ∧ KC δ δ2) ∧ Ok S' :=
  ⟨v, S, fun δ h => (h1 δ h).imp fun δ' q => ⟨q.1, RepC_K h ok q.2, fun b j z => q.2 b j (by omega) (by omega)⟩, fun δ h => (h2 δ h).imp fun δ' q => ⟨q.1, RepM_R h ok q.2, fun b j z => q.2 b j (by omega)⟩, ok⟩
theorem op_placed (a1 a2 a3 : Int32) (ha : a1 = 0 ∨ a1 = 1) : OpG (f_Fp_placed a1 a2 a3) (f_Mo_placed a1 a2 a3) := mk_op fun n S ok => by
  have k8 : S.1.1 2 ≤ 8 := ok.1.1.2.2.1
  have k12 : S.1.1 1 ≤ 12 := ok.1.1.2.1
  have w1 : ∀ δ, RepC δ n S → f_Fp_within a3 (-1) (gI δ 29 2 - 1) δ = some (bI ((-1 : Int32) ≤ a3 ∧ a3 ≤ nI (S.1.1 2) - 1)) := fun δ h => by
    rw [show gI δ 29 2 = nI (S.1.1 2) from (cG h.1).2.2.1, within_eq]
  have w2 : ∀ δ, RepM δ S → f_Mo_in a3.toInt64 (-1) ((gI δ 152 2 - 1).toInt64) δ = some (bI ((-1 : Int32) ≤ a3 ∧ a3 ≤ nI (S.1.1 2) - 1)) := fun δ h => by
    rw [show gI δ 152 2 = nI (S.1.1 2) from (mS h.1).2.2.1, show (-1 : Int64) = (-1 : Int32).toInt64 from rfl, in_eq]
  by_cases h2 : nI 0 ≤ a2 ∧ a2 ≤ nI 9999
  · by_cases h3 : (-1 : Int32) ≤ a3 ∧ a3 ≤ nI (S.1.1 2) - 1
    · obtain ⟨c, -, hc, rfl⟩ := low_i (by decide) h2 (by decide)
      obtain ⟨mo, hmo, rfl⟩ : ∃ mo, mo < 2 ∧ a1 = nI mo := by
        rcases ha with rfl | rfl
        · exact ⟨0, by decide, rfl⟩
        · exact ⟨1, by decide, rfl⟩
      have pl := plOk_S ok hmo hc
      have pp : 0 < 2 ^ S.1.1 1 := Nat.pow_pos (by decide)
      rcases m1_k (by omega) h3 with rfl | ⟨w, hw, rfl⟩
      · refine mk_same3 (v := PV S.1.1 mo c (S.1.1 2) 0) ok (fun δ h => ?_) (fun δ h => ?_)
        · obtain ⟨d, q1, q2, q3, q4, q5⟩ := cplan_eq h ok pl
          refine ⟨d, ?_, q2⟩
          have g := q5 0 (Nat.zero_le _) pp (by rw [pcN_0]; exact Nat.zero_le _)
          rw [pcN_0] at g
          simp only [f_Fp_placed, w1 δ h, wl, Option.bind_some, ifb, if_pos h2, if_pos h3, q1, f_Cr_together]
          rw [if_pos True.intro, show (0 : Int32) = nI 0 from rfl, get_in (show (KD 28).2 = 4096 by decide) (by decide), g]
          rfl
        · obtain ⟨d, i, q1, q2, q3⟩ := pl48 (a3 := -1) (kx := fun v4_48x δ48x => (if (-1 : Int32) = (-1 : Int32) then (if inb (0 : Int32) 4096 then (some ((gI δ48x 165 (ix (0 : Int32))), δ48x)) else none) else (lp_Mo_placed_227 (fun v4_227x v5_227x v6_227x => (some (v5_227x, δ48x))) (nI mo) (nI c) (-1) δ48x FU (0 : Int32) (0 : Int32) (0 : Int32)))) h ok pl
          refine ⟨d, ?_, q1⟩
          have g := q2 0 (Nat.zero_le _) pp (by rw [pcN_0]; exact Nat.zero_le _)
          rw [pcN_0] at g
          unfold f_Mo_placed
          rw [il (show 0 < 2147483648 by decide) (show 9999 < 2147483648 by decide), Option.bind_some, ifb, if_pos h2, j2, x2, w2 δ h, Option.bind_some, ifb, if_pos h3, if_pos (show inb (1 : Int32) 8918 by decide), show ix (1 : Int32) = 1 from rfl, (mS h.1).2.1, show ((1 : Int32) <<< (nI ((sT S).1 1) &&& 31)) = nI (2 ^ S.1.1 1) from sh_1 _ (by show S.1.1 1 < 16; omega), bndE]
          refine q3.trans ?_
          rw [if_pos rfl, if_pos (show inb (0 : Int32) 4096 by decide), show ix (0 : Int32) = 0 from rfl, g]
          rfl
      · refine mk_same3 (v := (tkS S.1.1 mo c (w + 1)).2) ok (fun δ h => ?_) (fun δ h => ?_)
        · obtain ⟨d, q1, q2, q3, q4, q5⟩ := cplan_eq h ok pl
          refine ⟨d, ?_, q2⟩
          simp only [f_Fp_placed, w1 δ h, wl, Option.bind_some, ifb, if_pos h2, if_pos h3, q1]
          rw [if_neg (nI_nm1 (show w < 2147483648 by omega)), spotC (RepC_K h ok q2) ok pl q3 q4 hw q5, Option.bind_some]
        · obtain ⟨d, i, q1, q2, q3⟩ := pl48 (a3 := nI w) (kx := fun v4_48x δ48x => (if nI w = (-1 : Int32) then (if inb (0 : Int32) 4096 then (some ((gI δ48x 165 (ix (0 : Int32))), δ48x)) else none) else (lp_Mo_placed_227 (fun v4_227x v5_227x v6_227x => (some (v5_227x, δ48x))) (nI mo) (nI c) (nI w) δ48x FU (0 : Int32) (0 : Int32) (0 : Int32)))) h ok pl
          refine ⟨d, ?_, q1⟩
          unfold f_Mo_placed
          rw [il (show 0 < 2147483648 by decide) (show 9999 < 2147483648 by decide), Option.bind_some, ifb, if_pos h2, j2, x2, w2 δ h, Option.bind_some, ifb, if_pos h3, if_pos (show inb (1 : Int32) 8918 by decide), show ix (1 : Int32) = 1 from rfl, (mS h.1).2.1, show ((1 : Int32) <<< (nI ((sT S).1 1) &&& 31)) = nI (2 ^ S.1.1 1) from sh_1 _ (by show S.1.1 1 < 16; omega), bndE]
          refine q3.trans ?_
          rw [if_neg (nI_nm1 (show w < 2147483648 by omega))]
          exact spotM (RepM_R h ok q1) ok pl hw q2
    · refine nop (-1000000000) ok (fun δ h => ?_) (fun δ h => ?_)
      · simp only [f_Fp_placed, w1 δ h, wl, Option.bind_some, ifb, if_pos h2, if_neg h3]
      · unfold f_Mo_placed
        rw [il (show 0 < 2147483648 by decide) (show 9999 < 2147483648 by decide), Option.bind_some, ifb, if_pos h2, j2, x2, w2 δ h, Option.bind_some, ifb, if_neg h3]
  · refine nop (-1000000000) ok (fun δ h => ?_) (fun δ h => ?_)
    · simp only [f_Fp_placed, wl, Option.bind_some, ifb, if_neg h2]
    · unfold f_Mo_placed
      rw [il (show 0 < 2147483648 by decide) (show 9999 < 2147483648 by decide), Option.bind_some, ifb, if_neg h2]
