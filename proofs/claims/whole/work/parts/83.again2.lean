/-! the class runs a bath again -/
abbrev tbI (x : Int32) (j : Nat) : Prop := x.toBitVec.getLsbD j = true
theorem kb_0 : ∀ k, k < 3 → ∀ j, j < 3 → (((1 : Int32) <<< (nI k &&& 31)) ^^^ (-1 : Int32)).toBitVec.getLsbD j = decide (j ≠ k) := by decide +kernel
theorem kb_1 : ∀ k, k < 3 → ∀ j, j < 3 → ((1 : Int32) <<< (nI k &&& 31)).toBitVec.getLsbD j = decide (j = k) := by decide +kernel
theorem kb_s : ∀ j, j < 3 → (nI j &&& 31).toBitVec.smod 32 = BitVec.ofNat 32 j := by decide +kernel
theorem tbI_clr {x : Int32} {k j : Nat} (hk : k < 3) (hj : j < 3) : tbI (x &&& (((1 : Int32) <<< (nI k &&& 31)) ^^^ (-1 : Int32))) j ↔ j ≠ k ∧ tbI x j := by
  unfold tbI
  rw [Int32.toBitVec_and, BitVec.getLsbD_and, kb_0 k hk j hj, Bool.and_eq_true, decide_eq_true_eq]
  exact And.comm
theorem tbI_set {x : Int32} {k j : Nat} (hk : k < 3) (hj : j < 3) : tbI (x ||| ((1 : Int32) <<< (nI k &&& 31))) j ↔ j = k ∨ tbI x j := by
  unfold tbI
  rw [Int32.toBitVec_or, BitVec.getLsbD_or, kb_1 k hk j hj, Bool.or_eq_true, decide_eq_true_eq]
  exact Or.comm
theorem tbI_t {x : Int32} {j : Nat} (hj : j < 3) : ((x >>> (nI j &&& 31)) &&& 1 = 1) ↔ tbI x j := by
  rw [pk_and _ 1 (by decide)]
  refine (nI_eq (b := 1) (by omega) (by decide)).trans ?_
  have e : (x >>> (nI j &&& 31)).toBitVec = x.toBitVec.sshiftRight j := by
    rw [Int32.toBitVec_shiftRight, kb_s j hj]
    show x.toBitVec.sshiftRight (BitVec.ofNat 32 j).toNat = _
    rw [BitVec.toNat_ofNat, Nat.mod_eq_of_lt (by omega)]
  rw [e]
  have g : (x.toBitVec.sshiftRight j).getLsbD 0 = x.toBitVec.getLsbD j := by
    rw [BitVec.getLsbD_sshiftRight]
    simp
    omega
  unfold tbI
  rw [← g, BitVec.getLsbD, Nat.testBit_zero, decide_eq_true_eq]
def FrW (δ d : Dm) : Prop := ∀ c j, c ≠ 23 → gI d c j = gI δ c j
theorem mark_eq {s k : Nat} {w : Int32} {d : Dm} (hs : s < 400) (hk : k < 3) (hw : w = 0 ∨ w = 1) : ∃ d', f_Rp_mark (nI s) (nI k) w d = some d' ∧ d'.2 = d.2 ∧ (∀ c j, ¬ (c = 23 ∧ j = s) → gI d' c j = gI d c j) ∧ ∀ j, j < 3 → (tbI (gI d' 23 s) j ↔ if j = k then w = 1 else tbI (gI d 23 s) j) := by
  unfold f_Rp_mark jp_Rp_mark_39
  rw [bndE, get_in (show (KD 23).2 = 400 by decide) hs, Option.bind_some, bndE]
  rcases hw with rfl | rfl
  · rw [if_pos rfl, put_in (show (KD 23).2 = 400 by decide) hs, Option.bind_some]
    refine ⟨_, rfl, rfl, fun c j q => by rw [gs, if_neg q], fun j hj => ?_⟩
    rw [gss, tbI_clr hk hj]
    by_cases q : j = k
    · rw [if_pos q]; exact ⟨fun z => absurd q z.1, fun z => absurd z (by decide)⟩
    · rw [if_neg q]; exact ⟨fun z => z.2, fun z => ⟨q, z⟩⟩
  · rw [if_neg (by decide), put_in (show (KD 23).2 = 400 by decide) hs, Option.bind_some]
    refine ⟨_, rfl, rfl, fun c j q => by rw [gs, if_neg q], fun j hj => ?_⟩
    rw [gss, tbI_set hk hj, tbI_clr hk hj]
    by_cases q : j = k
    · rw [if_pos q]; exact ⟨fun _ => rfl, fun _ => Or.inl q⟩
    · rw [if_neg q]; exact ⟨fun z => (z.resolve_left q).2, fun z => Or.inr ⟨q, z⟩⟩
theorem RepC_W {n : Nat} {δ d : Dm} {S : St} (h : RepC δ n S) (ok : Ok S) (e : FrW δ d) : RepC d n S := RepC_keep h ok.2.1 (fun b j q => e b j (by omega))
/-- the number of a strip -/
abbrev siN (S : St) (e : Nat) : Nat := (((tE S.1).take e).filter isS).length
theorem si_at {S : St} {e : Nat} {x : Ev} (hx : (tE S.1)[e]? = some x) (h0 : x 0 = 0) : (sts S)[siN S e]? = some x := by
  have hs : isS x = true := by unfold isS; rw [h0]; rfl
  have he := idx_lt hx
  have e1 : tE S.1 = (tE S.1).take e ++ x :: (tE S.1).drop (e + 1) := by
    have hx' := hx
    rw [List.getElem?_eq_getElem he] at hx'
    rw [← Option.some.inj hx', List.getElem_cons_drop, List.take_append_drop]
  show ((tE S.1).filter isS)[siN S e]? = some x
  have e2 : (tE S.1).filter isS = ((tE S.1).take e).filter isS ++ x :: ((tE S.1).drop (e + 1)).filter isS := by
    have := congrArg (List.filter isS) e1
    rw [List.filter_append, List.filter_cons_of_pos hs] at this
    exact this
  rw [e2, List.getElem?_append_right (Nat.le_refl _), Nat.sub_self]; rfl
theorem si_s {S : St} {e : Nat} {x : Ev} (hx : (tE S.1)[e]? = some x) : siN S (e + 1) = siN S e + if x 0 = 0 then 1 else 0 := by
  show (((tE S.1).take (e + 1)).filter isS).length = _
  rw [List.take_add_one, hx, List.filter_append, List.length_append]
  congr 1
  by_cases q : x 0 = 0 <;> simp [isS, q]
theorem si_m {S : St} {e e' : Nat} (h : e ≤ e') : siN S e ≤ siN S e' := cn_mono (P := isS) h
theorem openS_eq {n b e : Nat} {d : Dm} {S : St} {x : Ev} (h : RepC d n S) (ok : Ok S) (hb : b < S.1.1 2) (hx : (tE S.1)[e]? = some x) (h0 : x 0 = 0) : ∃ d1, d1.1 = d.1 ∧ (∀ k, k < 9 → gL d1 20 k = evW S b x k) ∧ f_Rp_openStrip (54 + 4 * b) (nI (siN S e)) d = some d1 := by
  have hs := si_at hx h0
  obtain ⟨m0, m1, m2, m3, m4, m5, m6, m7⟩ := sts_m ok hs
  have k0 : S.1.1 0 < 400 := ok.1.1.1
  obtain ⟨g1, g2, g3, g4, g5, g6, g7⟩ := h.1.2.1 _ x hs
  have g2 : gI d 36 (siN S e) = nI (x 2) := g2
  have g4 : gI d 38 (siN S e) = nI (x 3) := g4
  have g5 : gI d 39 (siN S e) = nI (x 4) := g5
  have g6 : gI d 40 (siN S e) = nI (x 6) := g6
  have g7 : gI d 41 (siN S e) = nI (x 7) := g7
  obtain ⟨d1, a1, a2, a3⟩ := open_S h ok hb (show x 2 < 400 by omega)
  obtain ⟨d2, b1, b2, b3⟩ := pose_eq (hd := nI (x 3)) (st := nI (x 4)) a2
  obtain ⟨d3, c1, c2, c3⟩ := till_eq (sp := nI (x 6)) (bx := nI (x 7)) b2
  refine ⟨d3, c1.trans (b1.trans a1), c2, ?_⟩
  unfold f_Rp_openStrip
  rw [get_in (show (KD 36).2 = 400 by decide) m7, g2, Option.bind_some, a3, Option.bind_some, get_in (show (KD 38).2 = 400 by decide) m7, gE a1, g4, Option.bind_some, get_in (show (KD 39).2 = 400 by decide) m7, gE a1, g5, Option.bind_some, b3, Option.bind_some, get_in (show (KD 40).2 = 400 by decide) m7, gE (b1.trans a1), g6, Option.bind_some, get_in (show (KD 41).2 = 400 by decide) m7, gE (b1.trans a1), g7, Option.bind_some, c3, Option.bind_some]
/-- ageing, from a day to a day -/
theorem age76u {n b k l e d0 s0 : Nat} {d : Dm} {S : St} {x : Ev} {L : LawT} {a2 a5 c1 c2 v13 : Int32} (h : RepC d n S) (ok : Ok S) (hb : b < S.1.1 2) (hL : (sJ S)[l]? = some L) (hk : k < 3) (hx : (tE S.1)[e]? = some x) (hs0 : s0 ≤ 1000) (hc1 : c1 = nI (cntf b ((tE S.1).take e))) (hc2 : c2 = nI (boxf (bc S.1.1 b 1) b ((tE S.1).take e))) (dy : Nat) (hd0 : d0 ≤ dy) (hdy : dy ≤ x 2) (hA : ∀ y ∈ (tE S.1).take e, y 1 = b → y 2 ≤ dy) :
    ∃ d', d'.1 = d.1 ∧ ∀ kx : Int32 → Int32 → Dm → Option Dm, lp_Rp_runBath_76 kx a2 (87 + 8 * l) (nI k) a5 (54 + 4 * b) c1 c2 v13 (nI (x 2)) FU (nI (agR L S b k d0 (dy - d0) s0)) (nI dy) d = kx (nI (agR L S b k d0 (x 2 - d0) s0)) (nI (x 2)) d' := by
  have k0 : S.1.1 0 < 400 := ok.1.1.1
  have m2 : x 2 ≤ S.1.1 0 := (ok.1.2.2.2.1.1 x (List.mem_of_getElem? hx)).2.2.1
  have kl : (sJ S).length ≤ 8 := ok.2.1
  have hl := idx_lt hL
  refine for_inv (fun f t (a : Int32 × Dm) => fun kx => lp_Rp_runBath_76 kx a2 (87 + 8 * l) (nI k) a5 (54 + 4 * b) c1 c2 v13 (nI (x 2)) f a.1 t a.2) (x 2) (by omega) (fun t a => dy ≤ t ∧ a.1 = nI (agR L S b k d0 (t - d0) s0) ∧ a.2.1 = d.1) (fun r => ∃ d', d'.1 = d.1 ∧ ∀ kx : Int32 → Int32 → Dm → Option Dm, r kx = kx (nI (agR L S b k d0 (x 2 - d0) s0)) (nI (x 2)) d') (fun f t a ht hI => ?_) (fun f a hI => ?_) dy (nI (agR L S b k d0 (dy - d0) s0), d) hdy ⟨Nat.le_refl _, rfl, rfl⟩
  · obtain ⟨v, g⟩ := a
    obtain ⟨i1, i2, i3⟩ := hI
    have i2 : v = nI (agR L S b k d0 (t - d0) s0) := i2
    have i3 : g.1 = d.1 := i3
    have hG := RepC_E h ok i3
    obtain ⟨q1, q2⟩ := cD_e ok hx ht (fun y hy hb' => by have := hA y hy hb'; omega)
    obtain ⟨d1, a1, a2', a3⟩ := open_S hG ok hb (show t < 400 by omega)
    obtain ⟨d2, b1, b2, b3⟩ := till_eq (sp := c1) (bx := c2) a2'
    have E2 : d2.1 = g.1 := b1.trans a1
    have sl := agR_le (L := L) (S := S) (b := b) (k := k) (d := d0) (s := s0) (t - d0)
    obtain ⟨d3, f1, f2, f3, f4⟩ := worn_eq (r := 3 + k) (s := agR L S b k d0 (t - d0) s0) (w := wdG S.1.1 b t 0 0 c1 c2) (LC_E E2 (hG.2.2.1 l L hL)) (ok.2.2.1 L (List.mem_of_getElem? hL)) (LKd_l (by omega)) (by omega) (by omega) (fun k hk _ => b2 k hk)
    have cs : csort (3 + k) = 10 ∧ cbath (3 + k) = k := by
      rcases (by omega : k = 0 ∨ k = 1 ∨ k = 2) with rfl | rfl | rfl <;> decide
    rw [cs.1, cs.2] at f4
    refine ⟨(nI (agR L S b k d0 (t + 1 - d0) s0), d3), ⟨by omega, rfl, f1.trans (E2.trans i3)⟩, ?_⟩
    funext kx
    simp only [lp_Rp_runBath_76]
    rw [if_neg (nI_ge ht (by omega)), a3, Option.bind_some, b3, Option.bind_some, i2, show (10 : Int32) = nI 10 from rfl, f4, Option.bind_some, nI_1]
    simp only [bndE]
    rw [show t + 1 - d0 = (t - d0) + 1 by omega]
    show lp_Rp_runBath_76 kx a2 (87 + 8 * l) (nI k) a5 (54 + 4 * b) c1 c2 v13 (nI (x 2)) f _ _ d3 = lp_Rp_runBath_76 kx a2 (87 + 8 * l) (nI k) a5 (54 + 4 * b) c1 c2 v13 (nI (x 2)) f (nI (agS L S b k (d0 + (t - d0)) (agR L S b k d0 (t - d0) s0))) _ d3
    rw [show d0 + (t - d0) = t by omega]
    unfold agS
    rw [q1, q2, ← hc1, ← hc2]
  · obtain ⟨v, g⟩ := a
    obtain ⟨i1, i2, i3⟩ := hI
    have i2 : v = nI (agR L S b k d0 (x 2 - d0) s0) := i2
    refine ⟨g, i3, fun kx => ?_⟩
    simp only [lp_Rp_runBath_76]
    rw [if_pos (nI_le (Nat.le_refl _) (by omega)), i2]
