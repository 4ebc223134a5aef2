/-! strip, the reference's side, and whole -/
theorem j3 {α : Type} {A B : α} : (if inb (3 : Int32) 8918 then A else B) = A := if_pos (by decide)
theorem x3 : ix (3 : Int32) = 3 := rfl
set_option maxHeartbeats 4000000 in
theorem strip_M {b hd st : Nat} {S : St} {δ : Dm} {L : LawT} (h : RepM δ S) (ok : Ok S) (hb : b < S.1.1 2) (h3 : S.1.1 3 < 400) (hL : (sJ S)[bc S.1.1 b 2]? = some L) (h6 : 1 ≤ bc S.1.1 b 6) (hh : nI 1 ≤ nI hd ∧ nI hd ≤ nI 99) (hs : nI 0 ≤ nI st ∧ nI st ≤ nI 20) (hh1 : hd ≤ 99) (hs1 : st ≤ 20) : ∃ δ', f_Mo_strip (nI b) (nI hd) (nI st) δ = some (nI (spP L (wdG S.1.1 b (S.1.1 0) (nI hd) (nI st) (nI (bc S.1.1 b 8)) (nI (bc S.1.1 b 7))) (stB S.1.1 b)), δ') ∧
    RepM δ' ((spG S.1.1 b (fun k => wrn L (wdG S.1.1 b (S.1.1 0) (nI hd) (nI st) (nI (bc S.1.1 b 8)) (nI (bc S.1.1 b 7))) k (stB S.1.1 b k)), tE S.1 ++ [evE 0 b (S.1.1 0) hd st (spP L (wdG S.1.1 b (S.1.1 0) (nI hd) (nI st) (nI (bc S.1.1 b 8)) (nI (bc S.1.1 b 7))) (stB S.1.1 b)) (bc S.1.1 b 8) (bc S.1.1 b 7)], tR S.1, tC S.1), S.2) ∧ KC δ δ' := by
  obtain ⟨n0, n1, n2, n3, n4, n5, n6, n7, n8, n9, n10, hb8, h12, h400⟩ := ok_nums ok hb
  have k8 : S.1.1 2 ≤ 8 := ok.1.1.2.2.1
  have kl : (sJ S).length ≤ 8 := ok.2.1
  have hl8 := idx_lt hL
  have okL' : LOk L := ok.2.2.1 L (List.mem_of_getElem? hL)
  have hLM : LM (bc S.1.1 b 2) δ L := h.2.2.1 _ _ hL
  have hv : (vts S).length < 500 := by
    have q1 := cnt_V (tE S.1) (fun x hx => (ok.1.2.2.2.1.1 x hx).1)
    have q2 : S.1.1 3 = ((tE S.1).filter isS).length := ok.1.1.2.2.2.1
    have q3 : S.1.1 4 = ((tE S.1).filter isH).length := ok.1.1.2.2.2.2.2.1
    have q4 : S.1.1 4 ≤ 100 := ok.1.1.2.2.2.2.2.2.1
    show ((tE S.1).filter isV).length < 500
    omega
  obtain ⟨w, hw⟩ : ∃ w, wdG S.1.1 b (S.1.1 0) (nI hd) (nI st) (nI (bc S.1.1 b 8)) (nI (bc S.1.1 b 7)) = w := ⟨_, rfl⟩
  have hG : RGM δ S.1.1 := RGM_of h.1
  obtain ⟨δ1, a1, a2, a3, a4⟩ := lifts_eq (b := b) (δ := δ) hb8
  have hG1 : RGM δ1 S.1.1 := fun i hi => by rw [a1 152 i (by omega)]; exact hG i hi
  obtain ⟨δ2, b1, b2, b3⟩ := words_S (hd := nI hd) (st := nI st) (sp := nI (bc S.1.1 b 8)) (bx := nI (bc S.1.1 b 7)) hG1 ok hb h400
  rw [hw] at b2 ⊢
  have E2 : ∀ c j, ¬ (c = 162 ∧ j < 3) → gI δ2 c j = gI δ c j := fun c j q => (gE b1 c j).trans (a1 c j q)
  have s2 : ∀ k, k < 3 → gI δ2 162 k = nI (stB S.1.1 b k) := fun k hk => by
    rw [gE b1, a2 k hk]; exact mBs (3 + k) h hb8 (by omega)
  obtain ⟨δ3, c1, c2, c3⟩ := spoilM (i := bc S.1.1 b 2) (w := w) (st := stB S.1.1 b) (LM_keep hLM (fun b j q1 q2 => E2 b j (by omega))) okL' (by omega) s2 (fun k hk _ => b2 k hk) (by rw [← hw]; exact wdG_5)
  have E3 : ∀ c j, ¬ (c = 162 ∧ j < 3) → ¬ (c = 151 ∧ j = 19) → gI δ3 c j = gI δ c j := fun c j q r => (c1 c j r).trans (E2 c j q)
  obtain ⟨δ4, d1, d2, d3, d4⟩ := tires_eq (i := bc S.1.1 b 2) (r0 := 0) (w := w) (st := stB S.1.1 b) (LM_keep hLM (fun b j q1 q2 => E3 b j (by omega) (by omega))) okL' (by omega) (Or.inl rfl) (fun k hk => ⟨by rw [c1 162 k (by omega)]; exact s2 k hk, n4 k hk⟩) c2
  have E4 : ∀ c j, ¬ (c = 162 ∧ j < 3) → ¬ (c = 151 ∧ j = 19) → gI δ4 c j = gI δ c j := fun c j q r => (d1 c j r q).trans (E3 c j q r)
  obtain ⟨δ5, f1, f2, f3, f4⟩ := lays_eq (b := b) (δ := δ4) hb8
  have hG4 : RGM δ4 S.1.1 := fun i hi => by rw [E4 152 i (by omega) (by omega)]; exact hG i hi
  have hG5 : RGM δ5 (st3 S.1.1 b (fun k => wrn L w k (stB S.1.1 b k))) := RGM_3 hG4 (fun j q => f1 152 j (by omega)) (fun k hk => by rw [f2 k hk]; have := d2 k hk; rw [Nat.zero_add] at this; exact this)
  have E5 : ∀ c j, c ≠ 152 → ¬ (c = 162 ∧ j < 3) → ¬ (c = 151 ∧ j = 19) → gI δ5 c j = gI δ c j := fun c j p q r => (f1 c j (by omega)).trans (E4 c j q r)
  have E5' : ∀ j, ¬ (566 + 20 * b + 3 ≤ j ∧ j < 566 + 20 * b + 6) → gI δ5 152 j = gI δ 152 j := fun j q => (f1 152 j (by omega)).trans (E4 152 j (by omega) (by omega))
  obtain ⟨by', hby⟩ : ∃ y, spP L w (stB S.1.1 b) = y := ⟨_, rfl⟩
  rw [hby] at c3 ⊢
  have m7 : gI δ 152 7 = nI (vts S).length := by have := h.1.2.1; rw [Nat.zero_add] at this; exact this
  have hwr := writes_eq (δ := δ5) (a1 := nI 0) (a3 := nI hd) (a4 := nI st) (a5 := nI by') (b := b) (by rw [E5' 7 (by omega)]; exact m7) hv hb8 (by rw [E5' 0 (by omega)]; exact (mS h.1).1) (by rw [E5' _ (by omega)]; exact mBs 8 h hb8 (by decide)) (by rw [E5' _ (by omega)]; exact mBs 7 h hb8 (by decide))
  obtain ⟨δ6, h6'⟩ : ∃ d, wrE δ5 (vts S).length b (S.1.1 0) (bc S.1.1 b 8) (bc S.1.1 b 7) (nI 0) (nI hd) (nI st) (nI by') = d := ⟨_, rfl⟩
  rw [h6'] at hwr
  have hG6 : RGM δ6 (st3 S.1.1 b (fun k => wrn L w k (stB S.1.1 b k))) := by rw [← h6']; exact wr_G hv hG5
  have g6 : ∀ w', w' < 12 → ¬ (3 ≤ w' ∧ w' < 6) → gI δ6 152 (566 + (20 * b + w')) = nI (bc S.1.1 b w') := fun w' hw hn => by
    rw [hG6 _ (Or.inl (dom_b hb8 hw).1), st3_n (by omega)]; rfl
  have g63 : gI δ6 152 3 = nI (S.1.1 3) := by rw [hG6 3 (Or.inl (Or.inl (by decide))), st3_n (by omega)]
  refine ⟨sI (sI (sI (sI δ6 152 (566 + (20 * b + 6)) (nI (bc S.1.1 b 6 - 1))) 152 (566 + (20 * b + 7)) (nI (bc S.1.1 b 7 + bc S.1.1 b 1))) 152 (566 + (20 * b + 8)) (nI (bc S.1.1 b 8 + 1))) 152 3 (nI (S.1.1 3 + 1)), ?_, ?_, fun a j q => ?_⟩
  · simp only [f_Mo_strip, j3, x3, j0, x0]
    rw [(mS h.1).2.2.2.1, if_neg (show ¬ nI (S.1.1 3) = (400 : Int32) from fun z => by have := (nI_eq (b := 400) (by omega) (by decide)).mp z; omega), isBooth_eq (k := S.1.1 2) (by omega) (mS h.1).2.2.1]
    simp only [Option.bind_some, ifb, if_pos (inb_i hb (show S.1.1 2 < 2147483648 by omega)), il (show 1 < 2147483648 by decide) (show 99 < 2147483648 by decide), il (show 0 < 2147483648 by decide) (show 20 < 2147483648 by decide), if_pos hh, if_pos hs]
    have cl : ∀ (d : Dm) w', w' < 12 → f_Mo_cell (nI b) (nI w') d = some (gI d 152 (566 + (20 * b + w'))) := fun d w' hw => cell_eq hb8 (by omega)
    rw [show f_Mo_cell (nI b) 6 δ = _ from cl δ 6 (by decide), mBs 6 h hb8 (by decide), Option.bind_some, if_neg (show ¬ nI (bc S.1.1 b 6) = 0 from nI_ne0 h6 (by omega)), show f_Mo_cell (nI b) 2 δ = _ from cl δ 2 (by decide), mBs 2 h hb8 (by decide), Option.bind_some, a4, Option.bind_some, show f_Mo_cell (nI b) 8 δ1 = _ from cl δ1 8 (by decide), hG1 _ (Or.inl (dom_b hb8 (show 8 < 12 by decide)).1), Option.bind_some, show f_Mo_cell (nI b) 7 δ1 = _ from cl δ1 7 (by decide), hG1 _ (Or.inl (dom_b hb8 (show 7 < 12 by decide)).1), Option.bind_some, hG1 0 (Or.inl (Or.inl (by decide)))]
    rw [show f_Mo_words (nI b) (nI hd) (nI st) (nI (S.1.1 0)) (nI (S.1.1 (566 + (20 * b + 8)))) (nI (S.1.1 (566 + (20 * b + 7)))) δ1 = some δ2 from b3, Option.bind_some, c3, Option.bind_some]
    simp only [bndE]
    rw [show f_Mo_tires (nI (bc S.1.1 b 2)) 0 δ3 = some δ4 from d4, Option.bind_some, f4, Option.bind_some, show f_Mo_writes 0 (nI b) (nI hd) (nI st) (nI by') δ5 = some δ6 from hwr, Option.bind_some]
    rw [show f_Mo_cell (nI b) 6 δ6 = _ from cl δ6 6 (by decide), g6 6 (by decide) (by decide), Option.bind_some, show nI (bc S.1.1 b 6) - 1 = nI (bc S.1.1 b 6 - 1) from pk_sub (b := 1) h6, show (6 : Int32) = nI 6 from rfl, sets_eq hb8 (by decide), Option.bind_some]
    rw [show (7 : Int32) = nI 7 from rfl, show (1 : Int32) = nI 1 from rfl, cl _ 7 (by decide), gsc (by omega), g6 7 (by decide) (by decide), Option.bind_some, cl _ 1 (by decide), gsc (by omega), g6 1 (by decide) (by decide), Option.bind_some, nI_add, sets_eq hb8 (by decide), Option.bind_some]
    rw [show (8 : Int32) = nI 8 from rfl, cl _ 8 (by decide), gsc (by omega), gsc (by omega), g6 8 (by decide) (by decide), Option.bind_some, nI_add, sets_eq hb8 (by decide), Option.bind_some, gsc (by omega), gsc (by omega), gsc (by omega), g63, nI_add]
  · refine SM_T2 h (RM_ev h.1 rfl hv (okL_of ok).2.1 (okL_of ok).2.2 rfl (RGM_up (RGM_up (RGM_up (RGM_up hG6)))) ?_ (fun j hj => ?_) (fun j q1 q2 q3 => ?_)) (fun a j p q r => ?_)
    · rw [gsc (by omega), gsc (by omega), gsc (by omega), gsc (by omega), ← h6', wr_7]
    · rw [gsc (by omega), gsc (by omega), gsc (by omega), gsc (by omega), ← h6']
      exact wr_in hv j hj
    · rw [gsc (by omega), gsc (by omega), gsc (by omega), gsc (by omega), ← h6', wr_at (by omega) (by exact q3), E5' j (by omega)]
    · rw [gsr p, gsr p, gsr p, gsr p, ← h6', wr_o p, E5 a j p (by omega) r]
  · have p : a ≠ 152 := by omega
    rw [gsr p, gsr p, gsr p, gsr p, ← h6', wr_o p, E5 a j p (by omega) (by omega)]
theorem op_strip (a1 a2 a3 : Int32) : OpG (f_Fp_strip a1 a2 a3) (f_Mo_strip a1 a2 a3) := mk_op fun n S ok => by
  have k8 : S.1.1 2 ≤ 8 := ok.1.1.2.2.1
  have k3 : S.1.1 3 ≤ 400 := ok.1.1.2.2.2.2.1
  have k4 : S.1.1 4 ≤ 100 := ok.1.1.2.2.2.2.2.2.1
  have kl : (sJ S).length ≤ 8 := ok.2.1
  have b1 : ∀ δ, RepC δ n S → f_To_boothAt a1 δ = some (if inb a1 (S.1.1 2) then some (54 + 4 * ix a1) else none) := fun δ h => boothAt_eq k8 (cG h.1).2.2.1
  have b2 : ∀ δ, RepM δ S → f_Mo_isBooth a1 δ = some (bI (inb a1 (S.1.1 2))) := fun δ h => isBooth_eq (by omega) (mS h.1).2.2.1
  have f1 : ∀ δ, RepC δ n S → gI δ 34 0 = nI (S.1.1 3) := fun δ h => (cG h.1).2.2.2.1
  have f2 : ∀ δ, RepM δ S → gI δ 152 3 = nI (S.1.1 3) := fun δ h => (mS h.1).2.2.2.1
  by_cases h1 : inb a1 (S.1.1 2)
  · obtain ⟨b, hb, rfl⟩ := inb_ex (by omega) h1
    obtain ⟨n0, n1, n2, n3, n4, n5, n6, n7, n8, n9, n10, hb8, h12, h400⟩ := ok_nums ok hb
    have ixb : ix (nI b) = b := ixN (by omega)
    obtain ⟨L, hL⟩ : ∃ L, (sJ S)[bc S.1.1 b 2]? = some L := ⟨_, List.getElem?_eq_getElem n3⟩
    have lw : ∀ δ, RepC δ n S → f_Fp_lawAt (nI (bc S.1.1 b 2)) δ = some (some (87 + 8 * bc S.1.1 b 2)) := fun δ h => by
      rw [lawAt_eq kl h.2.1, if_pos (inb_i n3 (by omega)), ixN (by omega)]
    have g4 : ∀ δ, RepC δ n S → gI δ (54 + 4 * b) 4 = nI (bc S.1.1 b 6) := fun δ h => cBs 6 4 rfl h hb8 (by decide) (by decide)
    have g2 : ∀ δ, RepC δ n S → gI δ (54 + 4 * b) 2 = nI (bc S.1.1 b 2) := fun δ h => cBs 2 2 rfl h hb8 (by decide) (by decide)
    have m6 : ∀ δ, RepM δ S → f_Mo_cell (nI b) 6 δ = some (nI (bc S.1.1 b 6)) := fun δ h => by
      rw [show (6 : Int32) = nI 6 from rfl, cell_eq hb8 (by decide), mBs 6 h hb8 (by decide)]
    by_cases h3 : S.1.1 3 < 400
    · by_cases hh : nI 1 ≤ a2 ∧ a2 ≤ nI 99
      · by_cases hs : nI 0 ≤ a3 ∧ a3 ≤ nI 20
        · by_cases h6 : 1 ≤ bc S.1.1 b 6
          · obtain ⟨hd, -, hd1, rfl⟩ := low_i (by decide) hh (by decide)
            obtain ⟨st, -, st1, rfl⟩ := low_i (by decide) hs (by decide)
            refine ⟨_, _, fun δ h => strip_C h ok hb h3 hL h6 hh hs hd1 st1, fun δ h => strip_M h ok hb h3 hL h6 hh hs hd1 st1, Ok_T ok ?_⟩
            obtain ⟨w, hw⟩ : ∃ w, wdG S.1.1 b (S.1.1 0) (nI hd) (nI st) (nI (bc S.1.1 b 8)) (nI (bc S.1.1 b 7)) = w := ⟨_, rfl⟩
            rw [hw]
            obtain ⟨sp, hsp, hsp5⟩ : ∃ y, spP L w (stB S.1.1 b) = y ∧ y ≤ 5 := ⟨_, rfl, spP_le⟩
            rw [hsp]
            obtain ⟨f, hf⟩ : ∃ f, (fun k => wrn L w k (stB S.1.1 b k)) = f := ⟨_, rfl⟩
            have hf3 : ∀ k, k < 3 → f k ≤ 1000 := fun k hk => by
              rw [← hf]
              have := n4 k hk
              have q : wrn L w k (stB S.1.1 b k) ≤ stB S.1.1 b k := wrn_le
              exact Nat.le_trans q this
            rw [hf]
            have e3 : spG S.1.1 b f 3 = S.1.1 3 + 1 := up_s
            have e4 : spG S.1.1 b f 4 = S.1.1 4 := spG_n (by omega) (by omega)
            have eb : ∀ w', w' < 20 → ¬ (3 ≤ w' ∧ w' < 9) → bc (spG S.1.1 b f) b w' = bc S.1.1 b w' := fun w' h1 h2 => spG_n (by omega) (by omega)
            have e6 : bc (spG S.1.1 b f) b 6 = bc S.1.1 b 6 - 1 := by
              show spG S.1.1 b f (566 + (20 * b + 6)) = _
              unfold spG
              rw [up_n (by omega), up_n (by omega), up_n (by omega), up_s]
            have e7 : bc (spG S.1.1 b f) b 7 = bc S.1.1 b 7 + bc S.1.1 b 1 := by
              show spG S.1.1 b f (566 + (20 * b + 7)) = _
              unfold spG
              rw [up_n (by omega), up_n (by omega), up_s]
            have e8 : bc (spG S.1.1 b f) b 8 = bc S.1.1 b 8 + 1 := by
              show spG S.1.1 b f (566 + (20 * b + 8)) = _
              unfold spG
              rw [up_n (by omega), up_s]
            refine ok_ev (b := b) (h := ok.1) rfl hb rfl (by show (0 : Nat) ≤ 2; omega) (by show hd ≤ 99; omega) (by show st ≤ 20; omega) (by show sp ≤ 5; exact hsp5) (fun z => by cases z) (fun j q3 q4 q => spG_n q3 (by omega)) (by rw [e3]; rfl) (by rw [e4]; rfl) (by rw [e3]; omega) (by rw [e4]; exact k4) (fun j hj => ?_) ?_ ?_ ?_ ?_ (fun _ => ⟨rfl, rfl⟩) (fun z => by cases z)
            · show spG S.1.1 b f (566 + (20 * b + (3 + j))) ≤ 1000
              unfold spG
              rw [up_n (by omega), up_n (by omega), up_n (by omega), up_n (by omega), st3_y hj]
              exact hf3 j hj
            · rw [e6]; omega
            · rw [e7]
              unfold boxs
              rw [if_pos (show evE 0 b (S.1.1 0) hd st sp (bc S.1.1 b 8) (bc S.1.1 b 7) 1 = b from rfl)]; rfl
            · rw [e8]; rfl
            · rw [e4, eb 9 (by omega) (by omega)]
              exact (ok.1.2.2.1 b hb).2.2.2.2.2.2.2.2.2.2.1
          · have z6 : bc S.1.1 b 6 = 0 := by omega
            refine nop (-1) ok (fun δ h => ?_) (fun δ h => ?_)
            · simp only [f_Fp_strip, b1 δ h, ocs, Option.bind_some, if_pos h1, ixb, if_pos (isB_at b hb8).1, g4 δ h, z6]
              rw [if_pos (by decide)]
            · simp only [f_Mo_strip, j3, x3, b2 δ h, m6 δ h, z6, Option.bind_some, ifb, if_pos h1, il (show 1 < 2147483648 by decide) (show 99 < 2147483648 by decide), il (show 0 < 2147483648 by decide) (show 20 < 2147483648 by decide), if_pos hh, if_pos hs]
              rw [if_pos (show nI 0 = 0 from rfl)]
              simp only [ite_self]
        · refine nop (-1) ok (fun δ h => ?_) (fun δ h => ?_)
          · simp only [f_Fp_strip, b1 δ h, ocs, Option.bind_some, if_pos h1, ixb, if_pos (isB_at b hb8).1, g4 δ h, g2 δ h, lw δ h, if_pos (isL_at _ (show bc S.1.1 b 2 < 8 by omega)).1, wl, ifb, if_pos hh, if_neg hs, ite_self]
          · simp only [f_Mo_strip, j3, x3, b2 δ h, Option.bind_some, ifb, if_pos h1, il (show 1 < 2147483648 by decide) (show 99 < 2147483648 by decide), il (show 0 < 2147483648 by decide) (show 20 < 2147483648 by decide), if_pos hh, if_neg hs, ite_self]
      · refine nop (-1) ok (fun δ h => ?_) (fun δ h => ?_)
        · simp only [f_Fp_strip, b1 δ h, ocs, Option.bind_some, if_pos h1, ixb, if_pos (isB_at b hb8).1, g4 δ h, g2 δ h, lw δ h, if_pos (isL_at _ (show bc S.1.1 b 2 < 8 by omega)).1, wl, ifb, if_neg hh, ite_self]
        · simp only [f_Mo_strip, j3, x3, b2 δ h, Option.bind_some, ifb, if_pos h1, il (show 1 < 2147483648 by decide) (show 99 < 2147483648 by decide), if_neg hh, ite_self]
    · refine nop (-1) ok (fun δ h => ?_) (fun δ h => ?_)
      · simp only [f_Fp_strip, b1 δ h, ocs, Option.bind_some, if_pos h1, ixb, if_pos (isB_at b hb8).1, f1 δ h]
        rw [if_neg (show ¬ nI (S.1.1 3) < (400 : Int32) from nI_nlt (a := S.1.1 3) (b := 400) (by omega) (by omega))]
        simp only [ite_self]
      · simp only [f_Mo_strip, j3, x3, f2 δ h]
        rw [if_pos (show nI (S.1.1 3) = (400 : Int32) by rw [show S.1.1 3 = 400 by omega]; rfl)]
  · refine nop (-1) ok (fun δ h => ?_) (fun δ h => ?_)
    · simp only [f_Fp_strip, b1 δ h, ocs, Option.bind_some, if_neg h1]
    · simp only [f_Mo_strip, j3, x3, b2 δ h, Option.bind_some, ifb, if_neg h1, ite_self]
