/-! the class runs a bath again, whole -/
abbrev Vp (S : St) (i : Nat) : List Ev := ((tE S.1).take i).filter isV
theorem Vp_s {S : St} {i : Nat} {x : Ev} (hx : (tE S.1)[i]? = some x) : Vp S (i + 1) = if isV x = true then Vp S i ++ [x] else Vp S i := by
  show ((tE S.1).take (i + 1)).filter isV = _
  rw [List.take_add_one, hx, List.filter_append]
  by_cases q : isV x = true
  · rw [if_pos q]; simp [q]
  · rw [if_neg q]; simp [q]
theorem Vp_m {S : St} {i : Nat} {y : Ev} (h : y ∈ Vp S i) : y ∈ (tE S.1).take i := (List.mem_filter.mp h).1
theorem tk_s {S : St} {i : Nat} {x : Ev} (hx : (tE S.1)[i]? = some x) : (tE S.1).take (i + 1) = (tE S.1).take i ++ [x] := by
  rw [List.take_add_one, hx]; rfl
/-- what a run of the bath k from the day f leaves marked, of the events ahead of i -/
def mkd (L : LawT) (S : St) (b k f : Nat) (δ d : Dm) (i : Nat) : Prop := ∀ e x, e < i → (tE S.1)[e]? = some x → x 0 = 0 → x 1 = b → ∀ j, j < 3 → (tbI (gI d 23 (siN S e)) j ↔ if j = k ∧ f ≤ x 2 then nI (sAt L S b k f (Vp S e) (x 2)) < L.2 k else tbI (gI δ 23 (siN S e)) j)
theorem mkd_k {L : LawT} {S : St} {b k f i : Nat} {δ d d' : Dm} (h : mkd L S b k f δ d i) (hd : ∀ s, s < siN S i → gI d' 23 s = gI d 23 s) : mkd L S b k f δ d' i := fun e x he hx h0 hb j hj => by
  have q := si_s hx
  rw [if_pos h0] at q
  have m := si_m (S := S) (show e + 1 ≤ i by omega)
  rw [hd _ (by omega)]
  exact h e x he hx h0 hb j hj
set_option maxHeartbeats 4000000 in
theorem rb_eq {n b k f l : Nat} {δ : Dm} {S : St} {L : LawT} (h : RepC δ n S) (ok : Ok S) (hb : b < S.1.1 2) (hL : (sJ S)[l]? = some L) (hk : k < 3) (hf : bc S.1.1 b 10 ≤ f) (hf4 : f < 400) : ∃ d, f_Rp_runBath (nI b) (87 + 8 * l) (nI k) (nI f) δ = some d ∧ FrW δ d ∧ mkd L S b k f δ d (tE S.1).length := by
  have k8 : S.1.1 2 ≤ 8 := ok.1.1.2.2.1
  have k0 : S.1.1 0 < 400 := ok.1.1.1
  have k3 : S.1.1 3 ≤ 400 := ok.1.1.2.2.2.2.1
  have k4 : S.1.1 4 ≤ 100 := ok.1.1.2.2.2.2.2.2.1
  have kl : (sJ S).length ≤ 8 := ok.2.1
  have hl := idx_lt hL
  have hev := ev_len1 ok
  obtain ⟨n0, n1, n2, n3, n4, n5, n6, n7, n8, n9, n10, hb8, h12, h400⟩ := ok_nums ok hb
  have okL' : LOk L := ok.2.2.1 L (List.mem_of_getElem? hL)
  unfold f_Rp_runBath
  rw [boothAt_eq k8 (cG h.1).2.2.1, if_pos (inb_i hb (by omega)), ixN (show b < 2147483648 by omega)]
  simp only [Option.bind_some, ocs, if_pos (isB_at b hb8).1]
  refine for_inv (fun g i (a : Int32 × Int32 × Int32 × Int32 × Dm) => lp_Rp_runBath_37 (fun v9_37x v10_37x v11_37x v12_37x v13_37x δ37x => (some δ37x)) (nI b) (87 + 8 * l) (nI k) (nI f) (54 + 4 * b) g a.1 a.2.1 a.2.2.1 a.2.2.2.1 i a.2.2.2.2) (tE S.1).length (by omega)
    (fun i a => ∃ dy, a.1 = nI (sAt L S b k f (Vp S i) dy) ∧ a.2.1 = nI (cntf b ((tE S.1).take i)) ∧ a.2.2.1 = nI (boxf (bc S.1.1 b 1) b ((tE S.1).take i)) ∧ a.2.2.2.1 = nI dy ∧ f ≤ dy ∧ dy < 400 ∧ (∀ y ∈ (tE S.1).take i, y 1 = b → y 2 ≤ dy) ∧ (∀ m, f ≤ m → (∀ y ∈ (tE S.1).take i, y 1 = b → y 2 ≤ m) → dy ≤ m) ∧ FrW δ a.2.2.2.2 ∧ (∀ s, siN S i ≤ s → gI a.2.2.2.2 23 s = gI δ 23 s) ∧ mkd L S b k f δ a.2.2.2.2 i)
    (fun r => ∃ d, r = some d ∧ FrW δ d ∧ mkd L S b k f δ d (tE S.1).length) (fun g i a hi hI => ?_) (fun g a hI => ?_) 0 (1000, 0, 0, nI f, δ) (Nat.zero_le _) ⟨f, by show (1000 : Int32) = nI (agR L S b k f (f - f) 1000); rw [Nat.sub_self]; rfl, rfl, rfl, rfl, Nat.le_refl _, hf4, (fun y hy => by cases hy), fun m hm _ => hm, fun _ _ _ => rfl, fun _ _ => rfl, fun e x he => absurd he (Nat.not_lt_zero _)⟩
  · obtain ⟨v9, v10, v11, v12, d⟩ := a
    obtain ⟨dy, i1, i2, i3, i4, i5, i6, i7, i8, i9, i10, i11⟩ := hI
    have i1 : v9 = nI (sAt L S b k f (Vp S i) dy) := i1
    have i2 : v10 = nI (cntf b ((tE S.1).take i)) := i2
    have i3 : v11 = nI (boxf (bc S.1.1 b 1) b ((tE S.1).take i)) := i3
    have i4 : v12 = nI dy := i4
    have i9 : FrW δ d := i9
    have i10 : ∀ s, siN S i ≤ s → gI d 23 s = gI δ 23 s := i10
    have i11 : mkd L S b k f δ d i := i11
    have hC := RepC_W h ok i9
    obtain ⟨x, hx⟩ : ∃ x, (tE S.1)[i]? = some x := ⟨_, List.getElem?_eq_getElem hi⟩
    obtain ⟨g1, g2, g3⟩ := hC.1.2.2.2.1 i x hx
    have g1 : gI d 42 i = nI (x 1) := g1
    have g2 : gI d 43 i = nI (x 2) := g2
    have g3 : gI d 44 i = evw ((tE S.1).take i) x := g3
    have xm := ok.1.2.2.2.1.1 x (List.mem_of_getElem? hx)
    obtain ⟨xm0, xm1, xm2, xm3, xm4, xm5, xm6, xm7⟩ := xm
    have xm1 : x 1 < S.1.1 2 := xm1
    have xm2 : x 2 ≤ S.1.1 0 := xm2
    have ts := tk_s hx
    have ss := si_s hx
    simp only [lp_Rp_runBath_37]
    rw [show gI d 34 2 = nI (tE S.1).length from hC.1.2.2.1, if_neg (nI_ge hi (by omega)), get_in (show (KD 42).2 = 900 by decide) (by omega), g1, Option.bind_some]
    by_cases hxb : x 1 = b
    · have spl := ev_split ok hx
      rw [if_pos (by rw [hxb]), get_in (show (KD 43).2 = 900 by decide) (by omega), g2, Option.bind_some, nI_1]
      have xm3 : bc S.1.1 b 10 ≤ x 2 := by rw [← hxb]; exact xm3
      -- the day and the strength behind the ageing
      obtain ⟨d1, dy', q1, q2, q3, q4⟩ : ∃ d1 dy', d1.1 = d.1 ∧ (x 2 < f → dy' = f ∧ sAt L S b k f (Vp S i) dy' = 1000 ∧ ∀ y ∈ Vp S i, y 1 = b → y 2 < f) ∧ (f ≤ x 2 → dy' = x 2) ∧ ∀ kx : Int32 → Int32 → Dm → Option Dm, lp_Rp_runBath_76 kx (nI b) (87 + 8 * l) (nI k) (nI f) (54 + 4 * b) v10 v11 (nI i) (nI (x 2)) FU v9 v12 d = kx (nI (sAt L S b k f (Vp S i) dy')) (nI dy') d1 := by
        by_cases z : f ≤ x 2
        · have hdy : dy ≤ x 2 := i8 (x 2) z (fun y hy _ => spl.2.1 y hy)
          have c1 := (sm_ok (L := L) (S := S) (b := b) (k := k) (f := f) (Vp S i)).2.2.1 dy i5 (fun y hy hb' => i7 y (Vp_m hy) hb')
          -- one memory for all continuations
          have uni : ∃ d1, d1.1 = d.1 ∧ ∀ kx : Int32 → Int32 → Dm → Option Dm, lp_Rp_runBath_76 kx (nI b) (87 + 8 * l) (nI k) (nI f) (54 + 4 * b) v10 v11 (nI i) (nI (x 2)) FU (nI (sAt L S b k f (Vp S i) dy)) (nI dy) d = kx (nI (sAt L S b k f (Vp S i) (x 2))) (nI (x 2)) d1 := age76u hC ok hb hL hk hx (sm_ok (L := L) (S := S) (b := b) (k := k) (f := f) (Vp S i)).2.1 i2 i3 dy c1 hdy i7
          obtain ⟨d1, e1, e2⟩ := uni
          exact ⟨d1, x 2, e1, fun w => absurd z (by omega), fun _ => rfl, fun kx => by rw [i1, i4]; exact e2 kx⟩
        · have hdy : dy = f := by
            have := i8 f (Nat.le_refl _) (fun y hy _ => by have := spl.2.1 y hy; omega)
            omega
          have hlt : ∀ y ∈ Vp S i, y 1 = b → y 2 < f := fun y hy _ => by have := spl.2.1 y (Vp_m hy); omega
          have e1000 : sAt L S b k f (Vp S i) f = 1000 := by
            unfold sAt
            rw [(sm_ok (L := L) (S := S) (b := b) (k := k) (f := f) (Vp S i)).2.2.2 hlt]
            show agR L S b k f (f - f) 1000 = 1000
            rw [Nat.sub_self]; rfl
          refine ⟨d, f, rfl, fun _ => ⟨rfl, e1000, hlt⟩, fun w => absurd w z, fun kx => ?_⟩
          have h1 : 1 < FU := FU_gt (by decide)
          obtain ⟨F, hF⟩ : ∃ F, FU = F + 1 := ⟨FU - 1, by omega⟩
          rw [hF]
          simp only [lp_Rp_runBath_76]
          rw [i4, if_pos (nI_le (by omega) (by omega)), i1, hdy]
      rw [q4, get_in (show (KD 44).2 = 900 by decide) (by omega), gE q1, g3, Option.bind_some]
      have hW1 : FrW δ d1 := fun c j q => (gE q1 c j).trans (i9 c j q)
      have hC1 := RepC_W h ok hW1
      have dyf : f ≤ dy' ∧ dy' < 400 ∧ (∀ y ∈ (tE S.1).take (i + 1), y 1 = b → y 2 ≤ dy') ∧ (∀ m, f ≤ m → (∀ y ∈ (tE S.1).take (i + 1), y 1 = b → y 2 ≤ m) → dy' ≤ m) := by
        by_cases z : x 2 < f
        · obtain ⟨w1, w2, w3⟩ := q2 z
          subst w1
          refine ⟨Nat.le_refl _, hf4, fun y hy hb' => ?_, fun m hm _ => hm⟩
          rw [ts] at hy
          rcases List.mem_append.mp hy with w | w
          · have := spl.2.1 y w; omega
          · rw [List.mem_singleton.mp w]; omega
        · have w1 := q3 (by omega)
          subst w1
          refine ⟨by omega, by omega, fun y hy hb' => ?_, fun m hm hy => hy x (by rw [ts]; simp) hxb⟩
          rw [ts] at hy
          rcases List.mem_append.mp hy with w | w
          · exact spl.2.1 y w
          · rw [List.mem_singleton.mp w]; exact Nat.le_refl _
      obtain ⟨w1, w2, w3, w4⟩ := dyf
      rcases (by omega : x 0 = 0 ∨ x 0 = 1 ∨ x 0 = 2) with h0 | h0 | h0
      · -- a strip
        have hv : isV x = true := by unfold isV; rw [h0]; rfl
        have vs : Vp S (i + 1) = Vp S i ++ [x] := by rw [Vp_s hx, if_pos hv]
        have ew : evw ((tE S.1).take i) x = nI (siN S i) := by unfold evw; rw [if_pos h0]
        have si4 : siN S i < 400 := (sts_m ok (si_at hx h0)).2.2.2.2.2.2.2
        have hs := si_at hx h0
        rw [if_pos h0] at ss
        have hH := (ok.1.2.2.2.2.1.1 i x hx).1 h0
        rw [hxb] at hH
        have cn1 : cntf b ((tE S.1).take (i + 1)) = x 6 + 1 := by rw [ts, cntf_app, if_pos ⟨h0, hxb⟩, hH.1]
        have bx1 : boxf (bc S.1.1 b 1) b ((tE S.1).take (i + 1)) = x 7 + bc S.1.1 b 1 := by rw [ts, boxf_app, boxs, if_pos hxb, if_pos h0]
        have J : ∀ (v : Int32) (d2 : Dm), (∀ c j, ¬ (c = 23 ∧ j = siN S i) → gI d2 c j = gI d c j) → v = nI (sAt L S b k f (Vp S i ++ [x]) dy') → (∀ j, j < 3 → (tbI (gI d2 23 (siN S i)) j ↔ if j = k ∧ f ≤ x 2 then nI (sAt L S b k f (Vp S i) (x 2)) < L.2 k else tbI (gI δ 23 (siN S i)) j)) →
            ∃ a' : Int32 × Int32 × Int32 × Int32 × Dm, (∃ dy, a'.1 = nI (sAt L S b k f (Vp S (i + 1)) dy) ∧ a'.2.1 = nI (cntf b ((tE S.1).take (i + 1))) ∧ a'.2.2.1 = nI (boxf (bc S.1.1 b 1) b ((tE S.1).take (i + 1))) ∧ a'.2.2.2.1 = nI dy ∧ f ≤ dy ∧ dy < 400 ∧ (∀ y ∈ (tE S.1).take (i + 1), y 1 = b → y 2 ≤ dy) ∧ (∀ m, f ≤ m → (∀ y ∈ (tE S.1).take (i + 1), y 1 = b → y 2 ≤ m) → dy ≤ m) ∧ FrW δ a'.2.2.2.2 ∧ (∀ s, siN S (i + 1) ≤ s → gI a'.2.2.2.2 23 s = gI δ 23 s) ∧ mkd L S b k f δ a'.2.2.2.2 (i + 1)) ∧
            jp_Rp_runBath_186 (lp_Rp_runBath_37 (fun v9_37x v10_37x v11_37x v12_37x v13_37x δ37x => (some δ37x)) (nI b) (87 + 8 * l) (nI k) (nI f) (54 + 4 * b) g) (fun v9_37x v10_37x v11_37x v12_37x v13_37x δ37x => (some δ37x)) (nI b) (87 + 8 * l) (nI k) (nI f) (54 + 4 * b) v10 v11 (nI dy') (nI i) (nI (x 2)) (nI (siN S i)) v d2 = lp_Rp_runBath_37 (fun v9_37x v10_37x v11_37x v12_37x v13_37x δ37x => (some δ37x)) (nI b) (87 + 8 * l) (nI k) (nI f) (54 + 4 * b) g a'.1 a'.2.1 a'.2.2.1 a'.2.2.2.1 (nI (i + 1)) a'.2.2.2.2 := fun v d2 e1 e2 e3 => by
          have hW2 : FrW δ d2 := fun c j q => (e1 c j (by omega)).trans (i9 c j q)
          have hC2 := RepC_W h ok hW2
          have g6 : gI d2 40 (siN S i) = nI (x 6) := (hC2.1.2.1 _ x hs).2.2.2.2.2.1
          have g7 : gI d2 41 (siN S i) = nI (x 7) := (hC2.1.2.1 _ x hs).2.2.2.2.2.2
          refine ⟨(v, nI (x 6 + 1), nI (x 7 + bc S.1.1 b 1), nI dy', d2), ⟨dy', by rw [vs]; exact e2, by rw [cn1], by rw [bx1], rfl, w1, w2, w3, w4, hW2, fun s hs' => by rw [e1 _ _ (by omega)]; exact i10 s (by omega), fun e y he hy y0 yb j hj => ?_⟩, ?_⟩
          · by_cases q : e = i
            · subst q
              rw [hx] at hy
              have hy := Option.some.inj hy
              subst hy
              exact e3 j hj
            · exact mkd_k i11 (fun s hs' => e1 23 s (by omega)) e y (by omega) hy y0 yb j hj
          · unfold jp_Rp_runBath_186
            rw [get_in (show (KD 40).2 = 400 by decide) si4, g6, Option.bind_some, bndE, get_in (show (KD 41).2 = 400 by decide) si4, g7, Option.bind_some, bndE, cBs 1 1 rfl hC2 hb8 (by decide) (by decide), nI_add, nI_1, nI_1]
        rw [ew, if_neg (nI_pos (by omega))]
        by_cases z : x 2 < f
        · obtain ⟨y1, y2, y3⟩ := q2 z
          rw [if_pos (nI_lt z (by omega))]
          refine J _ d1 (fun c j q => gE q1 c j) ?_ (fun j hj => ?_)
          · rw [y2, y1]
            congr 1
            unfold sAt
            rw [(sm_ok (L := L) (S := S) (b := b) (k := k) (f := f) (Vp S i ++ [x])).2.2.2 (fun y hy hb' => by
              rcases List.mem_append.mp hy with w | w
              · exact y3 y w hb'
              · rw [List.mem_singleton.mp w]; exact z)]
            show 1000 = agR L S b k f (f - f) 1000
            rw [Nat.sub_self]; rfl
          · rw [if_neg (by omega), gE q1, i10 _ (Nat.le_refl _)]
        · have y1 := q3 (by omega)
          subst y1
          rw [if_neg (nI_nlt (by omega) (by omega))]
          obtain ⟨d2, o1, o2, o3⟩ := openS_eq hC1 ok hb hx h0
          have hC2 := RepC_E hC1 ok o1
          rw [o3, Option.bind_some, isWeak_eq (hC2.2.2.1 l L hL) (LKd_l (by omega)) hk, Option.bind_some]
          obtain ⟨d3, m1, m2, m3, m4⟩ := mark_eq (s := siN S i) (k := k) (w := if nI (sAt L S b k f (Vp S i) (x 2)) < L.2 k then 1 else 0) (d := d2) si4 hk (by split; exact Or.inr rfl; exact Or.inl rfl)
          have hW3 : FrW δ d3 := fun c j q => (m3 c j (by omega)).trans ((gE o1 c j).trans (hW1 c j q))
          have hC3 := RepC_W h ok hW3
          obtain ⟨d4, p1, p2, p3, p4⟩ := worn_eq (r := k) (s := sAt L S b k f (Vp S i) (x 2)) (w := evW S b x) (δ := d3) (hC3.2.2.1 l L hL) okL' (LKd_l (by omega)) (by omega) sAt_le (fun j hj _ => by
            have : gL d3 20 j = gL d2 20 j := congrFun (congrFun m2 20) j
            rw [this]; exact o2 j hj)
          have cs : csort k = 9 ∧ cbath k = k := by
            rcases (by omega : k = 0 ∨ k = 1 ∨ k = 2) with rfl | rfl | rfl <;> decide
          rw [cs.1, cs.2] at p4
          rw [m1, Option.bind_some, show (9 : Int32) = nI 9 from rfl, p4, Option.bind_some]
          simp only [bndE]
          refine J _ d4 (fun c j q => (gE p1 c j).trans ((m3 c j q).trans ((gE o1 c j).trans (gE q1 c j)))) ?_ (fun j hj => ?_)
          · rw [sAt_e hxb (by omega), if_pos h0]; rfl
          · rw [gE p1, m4 j hj]
            by_cases q : j = k
            · rw [if_pos q, if_pos (show j = k ∧ f ≤ x 2 from ⟨q, by omega⟩)]
              by_cases w : nI (sAt L S b k f (Vp S i) (x 2)) < L.2 k
              · rw [if_pos w]; exact ⟨fun _ => w, fun _ => rfl⟩
              · rw [if_neg w]; exact ⟨fun v => absurd v (by decide), fun v => absurd v w⟩
            · rw [if_neg q, if_neg (show ¬ (j = k ∧ f ≤ x 2) from fun v => q v.1), gE o1, gE q1, i10 _ (Nat.le_refl _)]
      · -- a change
        have hv : isV x = true := by unfold isV; rw [h0]; rfl
        have vs : Vp S (i + 1) = Vp S i ++ [x] := by rw [Vp_s hx, if_pos hv]
        have hx3 : x 3 < 3 := xm7 h0
        have ew : evw ((tE S.1).take i) x = -1 - nI (x 3) := by unfold evw; rw [if_neg (by omega), if_pos h0]
        rw [if_neg (by omega), Nat.add_zero] at ss
        have cn1 : cntf b ((tE S.1).take (i + 1)) = cntf b ((tE S.1).take i) := by rw [ts, cntf_app, if_neg (by omega), Nat.add_zero]
        have bx1 : boxf (bc S.1.1 b 1) b ((tE S.1).take (i + 1)) = boxf (bc S.1.1 b 1) b ((tE S.1).take i) := by rw [ts, boxf_app, boxs, if_pos hxb, if_neg (by omega), if_neg (by omega)]
        have n4' : ∀ t, t < 3 → (-1 - nI t < 0 ∧ ¬ -1 - nI t = -4) := by decide
        rw [ew, if_pos (n4' _ hx3).1, if_neg (n4' _ hx3).2]
        have i3' : ∀ t, t < 3 → ∀ u, u < 3 → ((-1 - nI t = -1 - nI u) ↔ t = u) := by decide
        have sx : sAt L S b k f (Vp S i ++ [x]) dy' = if x 3 = k then 1000 else sAt L S b k f (Vp S i) dy' := by
          by_cases z : x 2 < f
          · obtain ⟨y1, y2, y3⟩ := q2 z
            rw [y2, ite_self, y1]
            unfold sAt
            rw [(sm_ok (L := L) (S := S) (b := b) (k := k) (f := f) (Vp S i ++ [x])).2.2.2 (fun y hy hb' => by
              rcases List.mem_append.mp hy with w | w
              · exact y3 y w hb'
              · rw [List.mem_singleton.mp w]; exact z)]
            show agR L S b k f (f - f) 1000 = 1000
            rw [Nat.sub_self]; rfl
          · have y1 := q3 (by omega)
            rw [y1, sAt_e hxb (by omega), if_neg (by omega)]
        have fin : ∀ v : Int32, v = nI (sAt L S b k f (Vp S i ++ [x]) dy') → (∃ a' : Int32 × Int32 × Int32 × Int32 × Dm, (∃ dy, a'.1 = nI (sAt L S b k f (Vp S (i + 1)) dy) ∧ a'.2.1 = nI (cntf b ((tE S.1).take (i + 1))) ∧ a'.2.2.1 = nI (boxf (bc S.1.1 b 1) b ((tE S.1).take (i + 1))) ∧ a'.2.2.2.1 = nI dy ∧ f ≤ dy ∧ dy < 400 ∧ (∀ y ∈ (tE S.1).take (i + 1), y 1 = b → y 2 ≤ dy) ∧ (∀ m, f ≤ m → (∀ y ∈ (tE S.1).take (i + 1), y 1 = b → y 2 ≤ m) → dy ≤ m) ∧ FrW δ a'.2.2.2.2 ∧ (∀ s, siN S (i + 1) ≤ s → gI a'.2.2.2.2 23 s = gI δ 23 s) ∧ mkd L S b k f δ a'.2.2.2.2 (i + 1)) ∧ lp_Rp_runBath_37 (fun v9_37x v10_37x v11_37x v12_37x v13_37x δ37x => (some δ37x)) (nI b) (87 + 8 * l) (nI k) (nI f) (54 + 4 * b) g v v10 v11 (nI dy') (nI (i + 1)) d1 = lp_Rp_runBath_37 (fun v9_37x v10_37x v11_37x v12_37x v13_37x δ37x => (some δ37x)) (nI b) (87 + 8 * l) (nI k) (nI f) (54 + 4 * b) g a'.1 a'.2.1 a'.2.2.1 a'.2.2.2.1 (nI (i + 1)) a'.2.2.2.2) := fun v e2 =>
          ⟨(v, v10, v11, nI dy', d1), ⟨dy', by rw [vs]; exact e2, by rw [cn1]; exact i2, by rw [bx1]; exact i3, rfl, w1, w2, w3, w4, hW1, fun s hs' => by rw [gE q1]; exact i10 s (by omega), fun e y he hy y0 yb j hj => by
            by_cases q : e = i
            · subst q
              rw [hx] at hy
              have hy := Option.some.inj hy
              subst hy
              omega
            · exact mkd_k i11 (fun s _ => gE q1 23 s) e y (by omega) hy y0 yb j hj⟩, rfl⟩
        by_cases z : x 3 = k
        · rw [if_pos ((i3' _ hx3 _ hk).mpr z)]
          exact fin _ (by rw [sx, if_pos z]; rfl)
        · rw [if_neg (fun w => z ((i3' _ hx3 _ hk).mp w))]
          exact fin _ (by rw [sx, if_neg z])
      · -- emptied
        have hv : ¬ isV x = true := by unfold isV; rw [h0]; decide
        have vs : Vp S (i + 1) = Vp S i := by rw [Vp_s hx, if_neg hv]
        have ew : evw ((tE S.1).take i) x = -4 := by unfold evw; rw [if_neg (by omega), if_neg (by omega)]
        rw [if_neg (by omega), Nat.add_zero] at ss
        have cn1 : cntf b ((tE S.1).take (i + 1)) = cntf b ((tE S.1).take i) := by rw [ts, cntf_app, if_neg (by omega), Nat.add_zero]
        have bx1 : boxf (bc S.1.1 b 1) b ((tE S.1).take (i + 1)) = 0 := by rw [ts, boxf_app, boxs, if_pos hxb, if_neg (by omega), if_pos h0]
        rw [ew, if_pos (by decide), if_pos rfl]
        refine ⟨(nI (sAt L S b k f (Vp S i) dy'), v10, 0, nI dy', d1), ⟨dy', by rw [vs], by rw [cn1]; exact i2, by rw [bx1]; rfl, rfl, w1, w2, w3, w4, hW1, fun s hs' => by rw [gE q1]; exact i10 s (by omega), fun e y he hy y0 yb j hj => ?_⟩, rfl⟩
        by_cases q : e = i
        · subst q
          rw [hx] at hy
          have hy := Option.some.inj hy
          subst hy
          omega
        · exact mkd_k i11 (fun s _ => gE q1 23 s) e y (by omega) hy y0 yb j hj
    · rw [if_neg (fun z => hxb ((nI_eq (by omega) (by omega)).mp z)), nI_1]
      have cn1 : cntf b ((tE S.1).take (i + 1)) = cntf b ((tE S.1).take i) := by rw [ts, cntf_app, if_neg (fun z => hxb z.2), Nat.add_zero]
      have bx1 : boxf (bc S.1.1 b 1) b ((tE S.1).take (i + 1)) = boxf (bc S.1.1 b 1) b ((tE S.1).take i) := by rw [ts, boxf_app, boxs_ne hxb]
      have sx : sAt L S b k f (Vp S (i + 1)) dy = sAt L S b k f (Vp S i) dy := by
        rw [Vp_s hx]
        split
        · unfold sAt; rw [sm_o hxb]
        · rfl
      refine ⟨(v9, v10, v11, v12, d), ⟨dy, by rw [sx]; exact i1, by rw [cn1]; exact i2, by rw [bx1]; exact i3, i4, i5, i6, fun y hy hb' => ?_, fun m hm hy => i8 m hm (fun y hy' => hy y (by rw [ts]; exact List.mem_append_left _ hy')), i9, fun s hs' => i10 s (by omega), fun e y he hy y0 yb j hj => ?_⟩, rfl⟩
      · rw [ts] at hy
        rcases List.mem_append.mp hy with w | w
        · exact i7 y w hb'
        · rw [List.mem_singleton.mp w] at hb'; exact absurd hb' hxb
      · by_cases q : e = i
        · subst q
          rw [hx] at hy
          have hy := Option.some.inj hy
          subst hy
          exact absurd yb hxb
        · exact i11 e y (by omega) hy y0 yb j hj
  · obtain ⟨v9, v10, v11, v12, d⟩ := a
    obtain ⟨dy, i1, i2, i3, i4, i5, i6, i7, i8, i9, i10, i11⟩ := hI
    have hC := RepC_W h ok i9
    simp only [lp_Rp_runBath_37]
    rw [show gI d 34 2 = nI (tE S.1).length from hC.1.2.2.1, if_pos (nI_le (Nat.le_refl _) (by omega))]
    exact ⟨d, rfl, i9, i11⟩
