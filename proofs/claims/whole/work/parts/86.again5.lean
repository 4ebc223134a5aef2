/-! the reference goes again -/
def FrG (δ d : Dm) : Prop := ∀ c j, ¬ (c = 151 ∧ j = 19) → ¬ (c = 162 ∧ j < 3) → ¬ (c = 163 ∧ j < 6) → gI d c j = gI δ c j
theorem RepM_G {δ d : Dm} {S : St} (h : RepM δ S) (ok : Ok S) (e : FrG δ d) : RepM d S := RepM_keep h ok (fun b j q => e b j (by omega) (by omega) (by omega))
theorem cntf_V (b : Nat) : ∀ l : List Ev, cntf b (l.filter isV) = cntf b l := by
  intro l
  unfold cntf
  rw [List.filter_filter]
  congr 1
  refine List.filter_congr (fun x _ => ?_)
  by_cases h : x 0 = 0 <;> simp [isV, h]
def qV (L : LawT) (S : St) (b k0 f : Nat) (c : Nat → Bool) (j : Nat) : Bool := match (vts S)[j]? with
  | some x => decide (x 0 = 0) && (decide (x 1 = b) && c (spW L S b k0 f ((vts S).take j) x))
  | none => false
theorem v_split {S : St} {j : Nat} {x : Ev} (ok : Ok S) (hx : (vts S)[j]? = some x) : (∀ y ∈ (vts S).take j, y 2 ≤ x 2) ∧ (∀ y ∈ (vts S).drop j, x 2 ≤ y 2) := by
  have he := idx_lt hx
  have hp : (vts S).Pairwise (fun x y => x 2 ≤ y 2) := List.Pairwise.filter _ ok.1.2.2.2.1.2
  have hd : (vts S).drop j = x :: (vts S).drop (j + 1) := by
    rw [List.getElem?_eq_getElem he] at hx
    rw [← Option.some.inj hx, List.getElem_cons_drop]
  refine ⟨fun y hy => ?_, fun y hy => ?_⟩
  · rw [← List.take_append_drop j (vts S)] at hp
    exact (List.pairwise_append.mp hp).2.2 y hy x (by rw [hd]; exact List.mem_cons_self ..)
  · rw [hd] at hy
    rcases List.mem_cons.mp hy with q | q
    · rw [q]; exact Nat.le_refl _
    · rw [← List.take_append_drop j (vts S), hd] at hp
      have h2 := (List.pairwise_append.mp hp).2.1
      exact (List.pairwise_cons.mp h2).1 y q
theorem cD_v {S : St} {b j d : Nat} {x : Ev} (ok : Ok S) (hx : (vts S)[j]? = some x) (hd : d < x 2) (hA : ∀ y ∈ (vts S).take j, y 1 = b → y 2 ≤ d) : cD S b d = cntf b ((vts S).take j) := by
  have hB : ∀ y ∈ (vts S).drop j, d < y 2 := fun y hy => by have := (v_split ok hx).2 y hy; omega
  have c := cnt_f (b := b) (d := d) hA hB
  rw [List.take_append_drop] at c
  unfold cD
  rw [← c, ← cntf_V b ((tE S.1).filter _)]
  congr 1
  show ((tE S.1).filter (fun x => decide (x 2 ≤ d))).filter isV = ((tE S.1).filter isV).filter (fun x => decide (x 2 ≤ d))
  rw [List.filter_filter, List.filter_filter]
  refine List.filter_congr (fun y _ => Bool.and_comm _ _)
theorem goAge {b t k0 f j : Nat} {d : Dm} {S : St} {x : Ev} {L : LawT} {a3 a4 : Int32} (h : RepM d S) (ok : Ok S) (hb : b < S.1.1 2) (hL : (sJ S)[t]? = some L) (hx : (vts S)[j]? = some x) (hk : (a3 = -1 ∧ k0 = 3) ∨ (a3 = nI k0 ∧ k0 < 3 ∧ a4 = nI f ∧ f < 400)) (nw : Nat) (hc : bc S.1.1 b 10 ≤ nw) (hnw : nw ≤ x 2) (hA : ∀ y ∈ (vts S).take j, y 1 = b → y 2 ≤ nw) (hs : ∀ k, k < 3 → gI d 162 k = nI (mW L S b k0 f k ((vts S).take j) nw)) :
    ∃ d', FrG d d' ∧ (∀ k, k < 3 → gI d' 162 k = nI (mW L S b k0 f k ((vts S).take j) (x 2))) ∧ (∀ v, gI d' 163 v = gI d 163 v) ∧ ∀ kx : Int32 → Dm → Option Dm, lp_Mo_goesAgain_90 kx (nI b) (nI t) a3 a4 (nI (cntf b ((vts S).take j))) (nI j) FU (nI nw) d = kx (nI (x 2)) d' := by
  have k00 : S.1.1 0 < 400 := ok.1.1.1
  obtain ⟨xm1, xm2, -⟩ := vts_m ok hx
  have kl : (sJ S).length ≤ 8 := ok.2.1
  have hl := idx_lt hL
  obtain ⟨n0, n1, n2, n3, n4, n5, n6, n7, n8, n9, n10, hb8, h12, h400⟩ := ok_nums ok hb
  have okL' : LOk L := ok.2.2.1 L (List.mem_of_getElem? hL)
  refine for_inv (fun g dd (e : Dm) => fun kx => lp_Mo_goesAgain_90 kx (nI b) (nI t) a3 a4 (nI (cntf b ((vts S).take j))) (nI j) g dd e) (x 2) (by omega) (fun dd e => nw ≤ dd ∧ FrG d e ∧ (∀ k, k < 3 → gI e 162 k = nI (mW L S b k0 f k ((vts S).take j) dd)) ∧ (∀ v, gI e 163 v = gI d 163 v)) (fun r => ∃ d', FrG d d' ∧ (∀ k, k < 3 → gI d' 162 k = nI (mW L S b k0 f k ((vts S).take j) (x 2))) ∧ (∀ v, gI d' 163 v = gI d 163 v) ∧ ∀ kx : Int32 → Dm → Option Dm, r kx = kx (nI (x 2)) d') (fun g dd e hd hI => ?_) (fun g e hI => ?_) nw d hnw ⟨Nat.le_refl _, fun _ _ _ _ _ => rfl, hs, fun _ => rfl⟩
  · obtain ⟨i1, i2, i3, i4⟩ := hI
    have hE := RepM_G h ok i2
    have cd := cD_v ok hx hd (fun y hy hb' => by have := hA y hy hb'; omega)
    have bx : gI e 152 (726 + (400 * b + dd)) = nI (xD S b dd) := by
      rw [mG hE.1 (Or.inr (by omega))]
      have hH := ok.1.2.2.2.2.1.2 b dd hb (by show bc S.1.1 b 10 ≤ dd; omega) (by show dd < S.1.1 0; omega)
      exact congrArg nI hH
    obtain ⟨e1, a1, a2, a3'⟩ := words_S (hd := 0) (st := 0) (sp := nI (cntf b ((vts S).take j))) (bx := nI (xD S b dd)) (RGM_of hE.1) ok hb (show dd < 400 by omega)
    obtain ⟨e2, c1, c2, c3, c4⟩ := tires_eq (i := t) (r0 := 3) (w := wdG S.1.1 b dd 0 0 (nI (cntf b ((vts S).take j))) (nI (xD S b dd))) (st := fun k => mW L S b k0 f k ((vts S).take j) dd) (δ := e1) (LM_keep (hE.2.2.1 t L hL) (fun b j _ _ => gE a1 b j)) okL' (by omega) (Or.inr rfl) (fun k hk => ⟨by rw [gE a1]; exact i3 k hk, mW_le⟩) (fun k hk _ => a2 k hk)
    have F2 : FrG d e2 := fun c j' q1 q2 q3 => (c1 c j' q1 q2).trans ((gE a1 c j').trans (i2 c j' q1 q2 q3))
    have c2' : ∀ k, k < 3 → gI e2 162 k = nI (agS L S b k dd (mW L S b k0 f k ((vts S).take j) dd)) := fun k hk => by
      rw [c2 k hk]
      unfold agS
      rw [cd]
    have v163 : ∀ v, gI e2 163 v = gI d 163 v := fun v => (c1 163 v (by omega) (by omega)).trans ((gE a1 163 v).trans (i4 v))
    have ms : ∀ k, mW L S b k0 f k ((vts S).take j) (dd + 1) = if k = k0 ∧ dd + 1 = f then 1000 else agS L S b k dd (mW L S b k0 f k ((vts S).take j) dd) := fun k => mW_s (by omega) (fun y hy hb' => by have := hA y hy hb'; omega)
    have ev2 : f_Mo_event (nI j) 2 e = some (nI (x 2)) := event_eq (j := 2) hE ok hx (by decide)
    have st : ∀ kx : Int32 → Dm → Option Dm, lp_Mo_goesAgain_90 kx (nI b) (nI t) a3 a4 (nI (cntf b ((vts S).take j))) (nI j) (g + 1) (nI dd) e = (if a3 < 0 then (lp_Mo_goesAgain_90 kx (nI b) (nI t) a3 a4 (nI (cntf b ((vts S).take j))) (nI j) g (nI (dd + 1)) e2) else (if nI (dd + 1) = a4 then (if inb a3 3 then bnd (sI e2 162 (ix a3) (1000 : Int32)) (fun δ_158 => (lp_Mo_goesAgain_90 kx (nI b) (nI t) a3 a4 (nI (cntf b ((vts S).take j))) (nI j) g (nI (dd + 1)) δ_158)) else none) else (lp_Mo_goesAgain_90 kx (nI b) (nI t) a3 a4 (nI (cntf b ((vts S).take j))) (nI j) g (nI (dd + 1)) e2))) := fun kx => by
      simp only [lp_Mo_goesAgain_90]
      rw [ev2, Option.bind_some, if_neg (nI_ge hd (by omega)), show (((726 : Int32) + ((400 : Int32) * nI b)) + nI dd) = nI (726 + (400 * b + dd)) by rw [lit, lit, pk_mul, nI_add, nI_add]; exact congrArg nI (by omega), if_pos (inb_i (show 726 + (400 * b + dd) < 8918 by omega) (by decide)), ixN (show 726 + (400 * b + dd) < 2147483648 by omega), bx, a3', Option.bind_some, show f_Mo_tires (nI t) 3 e1 = some e2 from c4, Option.bind_some, nI_1]
    rcases hk with ⟨k1, k2⟩ | ⟨k1, k2, k3, k4⟩
    · refine ⟨e2, ⟨by omega, F2, fun k hk => by rw [ms, if_neg (by omega)]; exact c2' k hk, v163⟩, ?_⟩
      funext kx
      rw [st kx, if_pos (by rw [k1]; decide)]
    · by_cases z : dd + 1 = f
      · refine ⟨sI e2 162 k0 1000, ⟨by omega, fun c j' q1 q2 q3 => by rw [gs, if_neg (by omega)]; exact F2 c j' q1 q2 q3, fun k hk => ?_, fun v => by rw [gsr (by decide)]; exact v163 v⟩, ?_⟩
        · rw [ms]
          by_cases y : k = k0
          · rw [if_pos ⟨y, z⟩, y, gss]; rfl
          · rw [if_neg (fun w => y w.1), gsc y]; exact c2' k hk
        · funext kx
          rw [st kx, k1, if_neg (nI_pos (by omega)), if_pos (by rw [k3, z]), if_pos (inb_i k2 (by decide)), ixN (show k0 < 2147483648 by omega), bndE]
      · refine ⟨e2, ⟨by omega, F2, fun k hk => by rw [ms, if_neg (fun w => z w.2)]; exact c2' k hk, v163⟩, ?_⟩
        funext kx
        rw [st kx, k1, if_neg (nI_pos (by omega)), if_neg (by rw [k3]; exact fun w => z ((nI_eq (by omega) (by omega)).mp w))]
  · obtain ⟨i1, i2, i3, i4⟩ := hI
    have hE := RepM_G h ok i2
    have ev2 : f_Mo_event (nI j) 2 e = some (nI (x 2)) := event_eq (j := 2) hE ok hx (by decide)
    refine ⟨e, i2, i3, i4, fun kx => ?_⟩
    simp only [lp_Mo_goesAgain_90]
    rw [ev2, Option.bind_some, if_pos (nI_le (Nat.le_refl _) (by omega))]
theorem vk_s {S : St} {j : Nat} {x : Ev} (hx : (vts S)[j]? = some x) : (vts S).take (j + 1) = (vts S).take j ++ [x] := by
  rw [List.take_add_one, hx]; rfl
set_option maxHeartbeats 4000000 in
theorem goes64 {b t k0 f : Nat} {δ : Dm} {S : St} {L : LawT} {a3 a4 : Int32} (h : RepM δ S) (ok : Ok S) (hb : b < S.1.1 2) (hL : (sJ S)[t]? = some L) (hk : (a3 = -1 ∧ k0 = 3) ∨ (a3 = nI k0 ∧ k0 < 3 ∧ a4 = nI f ∧ f < 400)) (hcf : k0 < 3 → bc S.1.1 b 10 ≤ f) (hs : ∀ k, k < 3 → gI δ 162 k = nI 1000) (hc : ∀ v, v < 6 → gI δ 163 v = 0) :
    ∃ d, lp_Mo_goesAgain_64 (fun v5_64x v6_64x v7_64x δ64x => (some δ64x)) (nI b) (nI t) a3 a4 FU (nI (bc S.1.1 b 10)) 0 0 δ = some d ∧ FrG δ d ∧ ∀ v, v < 6 → gI d 163 v = nI (cntN (qV L S b k0 f (fun u => decide (u = v))) (vts S).length) := by
  have k00 : S.1.1 0 < 400 := ok.1.1.1
  have kl : (sJ S).length ≤ 8 := ok.2.1
  have hl := idx_lt hL
  have h5 : (vts S).length ≤ 500 := okV ok.1
  obtain ⟨n0, n1, n2, n3, n4, n5, n6, n7, n8, n9, n10, hb8, h12, h400⟩ := ok_nums ok hb
  have k8 : S.1.1 2 ≤ 8 := ok.1.1.2.2.1
  have okL' : LOk L := ok.2.2.1 L (List.mem_of_getElem? hL)
  refine for_inv (fun g j (a : Int32 × Int32 × Dm) => lp_Mo_goesAgain_64 (fun v5_64x v6_64x v7_64x δ64x => (some δ64x)) (nI b) (nI t) a3 a4 g a.1 a.2.1 j a.2.2) (vts S).length (by omega)
    (fun j a => ∃ nw, a.1 = nI nw ∧ a.2.1 = nI (cntf b ((vts S).take j)) ∧ bc S.1.1 b 10 ≤ nw ∧ (∀ y ∈ (vts S).take j, y 1 = b → y 2 ≤ nw) ∧ (∀ m, bc S.1.1 b 10 ≤ m → (∀ y ∈ (vts S).take j, y 1 = b → y 2 ≤ m) → nw ≤ m) ∧ FrG δ a.2.2 ∧ (∀ k, k < 3 → gI a.2.2 162 k = nI (mW L S b k0 f k ((vts S).take j) nw)) ∧ ∀ v, v < 6 → gI a.2.2 163 v = nI (cntN (qV L S b k0 f (fun u => decide (u = v))) j))
    (fun r => ∃ d, r = some d ∧ FrG δ d ∧ ∀ v, v < 6 → gI d 163 v = nI (cntN (qV L S b k0 f (fun u => decide (u = v))) (vts S).length)) (fun g j a hj hI => ?_) (fun g a hI => ?_) 0 (nI (bc S.1.1 b 10), 0, δ) (Nat.zero_le _) ⟨bc S.1.1 b 10, rfl, rfl, Nat.le_refl _, (fun y hy => by cases hy), fun m hm _ => hm, fun _ _ _ _ _ => rfl, fun k hk => ?_, fun v hv => hc v hv⟩
  · obtain ⟨v5, v6, d⟩ := a
    obtain ⟨nw, i1, i2, i3, i4, i5, i6, i7, i8⟩ := hI
    have i1 : v5 = nI nw := i1
    have i2 : v6 = nI (cntf b ((vts S).take j)) := i2
    have i6 : FrG δ d := i6
    have i7 : ∀ k, k < 3 → gI d 162 k = nI (mW L S b k0 f k ((vts S).take j) nw) := i7
    have i8 : ∀ v, v < 6 → gI d 163 v = nI (cntN (qV L S b k0 f (fun u => decide (u = v))) j) := i8
    have hM := RepM_G h ok i6
    obtain ⟨x, hx⟩ : ∃ x, (vts S)[j]? = some x := ⟨_, List.getElem?_eq_getElem hj⟩
    obtain ⟨xm1, xm2, xm3, xm4, xm5, xm6, xm7⟩ := vts_m ok hx
    have vk := vk_s hx
    simp only [lp_Mo_goesAgain_64, j7]
    rw [x7, vts_n hM, if_neg (nI_ge hj (by omega)), show f_Mo_event (nI j) 1 d = _ from event_eq (j := 1) hM ok hx (by decide), Option.bind_some]
    by_cases hxb : x 1 = b
    · have xc : bc S.1.1 b 10 ≤ x 2 := by rw [← hxb]; exact xm3
      have hnw : nw ≤ x 2 := i5 (x 2) xc (fun y hy _ => (v_split ok hx).1 y hy)
      obtain ⟨d1, g1, g2, g3, g4⟩ := goAge (k0 := k0) (f := f) (a3 := a3) (a4 := a4) hM ok hb hL hx hk nw i3 hnw i4 i7
      have F1 : FrG δ d1 := fun c j' q1 q2 q3 => (g1 c j' q1 q2 q3).trans (i6 c j' q1 q2 q3)
      have hM1 := RepM_G h ok F1
      have ev : ∀ u, u < 8 → f_Mo_event (nI j) (nI u) d1 = some (nI (x u)) := fun u hu => event_eq hM1 ok hx hu
      rw [if_pos (by rw [hxb]), i1, i2, g4, show f_Mo_event (nI j) 0 d1 = _ from ev 0 (by decide), Option.bind_some]
      have newA : ∀ y ∈ (vts S).take (j + 1), y 1 = b → y 2 ≤ x 2 := fun y hy _ => by
        rw [vk] at hy
        rcases List.mem_append.mp hy with w | w
        · exact (v_split ok hx).1 y w
        · rw [List.mem_singleton.mp w]; exact Nat.le_refl _
      have newM : ∀ m, bc S.1.1 b 10 ≤ m → (∀ y ∈ (vts S).take (j + 1), y 1 = b → y 2 ≤ m) → x 2 ≤ m := fun m _ hy => hy x (by rw [vk]; simp) hxb
      have x02 : x 0 = 0 ∨ x 0 = 1 := by
        obtain ⟨q1, q2⟩ := List.mem_filter.mp (List.mem_of_getElem? hx)
        have : x 0 ≤ 2 := (ok.1.2.2.2.1.1 x q1).1
        unfold isV at q2
        have q3 : x 0 ≠ 2 := by simpa using q2
        omega
      rcases x02 with h0 | h0
      · rw [if_neg (show ¬ nI (x 0) = 1 by rw [h0]; decide), show f_Mo_event (nI j) 3 d1 = _ from ev 3 (by decide), Option.bind_some, show f_Mo_event (nI j) 4 d1 = _ from ev 4 (by decide), Option.bind_some, show f_Mo_event (nI j) 6 d1 = _ from ev 6 (by decide), Option.bind_some, show f_Mo_event (nI j) 7 d1 = _ from ev 7 (by decide), Option.bind_some]
        obtain ⟨d2, a1, a2, a3'⟩ := words_S (hd := nI (x 3)) (st := nI (x 4)) (sp := nI (x 6)) (bx := nI (x 7)) (RGM_of hM1.1) ok hb (show x 2 < 400 by omega)
        obtain ⟨d3, p1, p2, p3⟩ := spoilM (i := t) (w := evW S b x) (st := fun k => mW L S b k0 f k ((vts S).take j) (x 2)) (δ := d2) (LM_keep (hM1.2.2.1 t L hL) (fun b j _ _ => gE a1 b j)) okL' (by omega) (fun k hk => by rw [gE a1]; exact g2 k hk) (fun k hk _ => a2 k hk) rfl
        obtain ⟨sp, hsp, hsp5⟩ : ∃ y, spP L (evW S b x) (fun k => mW L S b k0 f k ((vts S).take j) (x 2)) = y ∧ y ≤ 5 := ⟨_, rfl, spP_le⟩
        rw [hsp] at p3
        obtain ⟨d5, c1, c2, c3, c4⟩ := tires_eq (i := t) (r0 := 0) (w := evW S b x) (st := fun k => mW L S b k0 f k ((vts S).take j) (x 2)) (δ := sI d3 163 sp (gI d3 163 sp + 1)) (LM_keep (hM1.2.2.1 t L hL) (fun b j q1 q2 => by rw [gsr (by omega), p1 b j (by omega), gE a1])) okL' (by omega) (Or.inl rfl) (fun k hk => ⟨by rw [gsr (by decide), p1 162 k (by omega), gE a1]; exact g2 k hk, mW_le⟩) p2
        rw [a3', Option.bind_some, p3, Option.bind_some]
        simp only [bndE]
        rw [if_pos (inb_i (show sp < 6 by omega) (by decide)), if_pos (inb_i (show sp < 6 by omega) (by decide)), ixN (show sp < 2147483648 by omega), show f_Mo_tires (nI t) 0 (sI d3 163 sp (gI d3 163 sp + 1)) = some d5 from c4, Option.bind_some, nI_1, nI_1]
        have cn1 : cntf b ((vts S).take (j + 1)) = cntf b ((vts S).take j) + 1 := by rw [vk, cntf_app, if_pos ⟨h0, hxb⟩]
        refine ⟨(nI (x 2), nI (cntf b ((vts S).take j) + 1), d5), ⟨x 2, rfl, by rw [cn1], xc, newA, newM, fun c j' q1 q2 q3 => ?_, fun k hk3 => ?_, fun v hv => ?_⟩, rfl⟩
        · rw [c1 c j' q1 q2, gs, if_neg (by omega), p1 c j' q1, gE a1]; exact F1 c j' q1 q2 q3
        · rw [c2 k hk3, vk, mW_e hxb xc, if_pos h0, Nat.zero_add]; rfl
        · rw [c1 163 v (by omega) (by omega)]
          have base : gI d3 163 v = nI (cntN (qV L S b k0 f (fun u => decide (u = v))) j) := by rw [p1 163 v (by omega), gE a1, g3]; exact i8 v hv
          have qe : qV L S b k0 f (fun u => decide (u = v)) j = decide (sp = v) := by
            unfold qV
            rw [hx]
            show (decide (x 0 = 0) && (decide (x 1 = b) && decide (spW L S b k0 f ((vts S).take j) x = v))) = _
            rw [show spW L S b k0 f ((vts S).take j) x = sp from hsp, decide_eq_true h0, decide_eq_true hxb]; rfl
          rw [cntN, qe]
          by_cases z : v = sp
          · subst z
            rw [gss, base, nI_1, if_pos (by simp)]
          · rw [gsc z, base, if_neg (by simp; exact fun w => z w.symm)]; rfl
      · have hx3 : x 3 < 3 := by
          have q1 := (List.mem_filter.mp (List.mem_of_getElem? hx)).1
          exact (ok.1.2.2.2.1.1 x q1).2.2.2.2.2.2.2 h0
        rw [if_pos (show nI (x 0) = 1 by rw [h0]; rfl), show f_Mo_event (nI j) 3 d1 = _ from ev 3 (by decide), Option.bind_some, if_pos (inb_i hx3 (by decide)), ixN (show x 3 < 2147483648 by omega), bndE, nI_1]
        have cn1 : cntf b ((vts S).take (j + 1)) = cntf b ((vts S).take j) := by rw [vk, cntf_app, if_neg (by omega), Nat.add_zero]
        refine ⟨(nI (x 2), nI (cntf b ((vts S).take j)), sI d1 162 (x 3) 1000), ⟨x 2, rfl, by rw [cn1], xc, newA, newM, fun c j' q1 q2 q3 => ?_, fun k hk3 => ?_, fun v hv => ?_⟩, rfl⟩
        · rw [gs, if_neg (by omega)]; exact F1 c j' q1 q2 q3
        · rw [vk, mW_e hxb xc, if_neg (by omega)]
          by_cases z : x 3 = k
          · rw [if_pos z, z, gss]; rfl
          · rw [if_neg z, gsc (fun w => z w.symm)]; exact g2 k hk3
        · rw [gsr (by decide), g3, i8 v hv, cntN, if_neg]
          · rfl
          · unfold qV; rw [hx]; simp [h0]
    · rw [if_neg (fun z => hxb ((nI_eq (by omega) (by omega)).mp z)), nI_1]
      have cn1 : cntf b ((vts S).take (j + 1)) = cntf b ((vts S).take j) := by rw [vk, cntf_app, if_neg (fun w => hxb w.2), Nat.add_zero]
      refine ⟨(v5, v6, d), ⟨nw, i1, by rw [cn1]; exact i2, i3, fun y hy hb' => ?_, fun m hm hy => i5 m hm (fun y hy' => hy y (by rw [vk]; exact List.mem_append_left _ hy')), i6, fun k hk3 => by rw [vk, mW_o hxb]; exact i7 k hk3, fun v hv => ?_⟩, rfl⟩
      · rw [vk] at hy
        rcases List.mem_append.mp hy with w | w
        · exact i4 y w hb'
        · rw [List.mem_singleton.mp w] at hb'; exact absurd hb' hxb
      · show gI d 163 v = _
        rw [i8 v hv, cntN, if_neg]
        · rfl
        · unfold qV; rw [hx]; simp [hxb]
  · obtain ⟨v5, v6, d⟩ := a
    obtain ⟨nw, i1, i2, i3, i4, i5, i6, i7, i8⟩ := hI
    have hM := RepM_G h ok i6
    simp only [lp_Mo_goesAgain_64, j7]
    rw [x7, vts_n hM, if_pos (nI_le (Nat.le_refl _) (by omega))]
    exact ⟨d, rfl, i6, i8⟩
  · rw [hs k hk]
    have e : ∀ f', sm L S b k f' ((vts S).take 0) = (f', 1000) := fun f' => rfl
    unfold mW
    split
    · next q =>
      unfold sAt
      rw [e]
      show nI 1000 = nI (agR L S b k f (bc S.1.1 b 10 - f) 1000)
      have : bc S.1.1 b 10 ≤ f := hcf (by omega)
      rw [show bc S.1.1 b 10 - f = 0 by omega]; rfl
    · unfold sAt
      rw [e]
      show nI 1000 = nI (agR L S b k (bc S.1.1 b 10) (bc S.1.1 b 10 - bc S.1.1 b 10) 1000)
      rw [Nat.sub_self]; rfl
