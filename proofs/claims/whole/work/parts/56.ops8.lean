/-! change -/
def chG (G : Nat → Nat) (b k : Nat) : Nat → Nat := if k = 2 then up (up G (566 + (20 * b + (3 + k))) 1000) (566 + (20 * b + 9)) (bc G b 9 + (1000 - bc G b (3 + k))) else up G (566 + (20 * b + (3 + k))) 1000
theorem dom_4 : dom 4 := Or.inl (by decide)
theorem chC {n b k : Nat} {S : St} {δ δ2 : Dm} {y : Int32} (ok : Ok S) (h : RepC δ n S) (hb : b < S.1.1 2) (hk : k < 3) (h4 : S.1.1 4 < 100) (hG : RG 29 δ2 (chG S.1.1 b k)) (hf : ∀ a j, (a < 54 ∨ 86 ≤ a) → gI δ2 a j = gI δ a j) : ∃ δ', jp_Fp_change_78 (nI b) (nI k) (54 + 4 * b) y δ2 = some (y, δ') ∧ RepC δ' n ((up (chG S.1.1 b k) 4 (S.1.1 4 + 1), tE S.1 ++ [evE 1 b (S.1.1 0) k 0 0 (bc S.1.1 b 8) (bc S.1.1 b 7)], tR S.1, tC S.1), S.2) ∧ KM δ δ' := by
  have k3 : S.1.1 3 ≤ 400 := ok.1.1.2.2.2.2.1
  have hl := ev_len1 ok
  obtain ⟨e, he⟩ : ∃ e, (tE S.1).length = e := ⟨_, rfl⟩
  obtain ⟨d, hd⟩ : ∃ d, S.1.1 0 = d := ⟨_, rfl⟩
  have g0 : gI δ2 34 2 = nI e := by rw [hf 34 2 (by omega), ← he]; exact h.1.2.2.1
  have g1 : gI δ2 34 1 = nI (S.1.1 4) := by rw [hf 34 1 (by omega)]; exact (cG h.1).2.2.2.2.1
  have g2 : gI δ2 29 0 = nI d := by rw [hf 29 0 (by omega), ← hd]; exact (cG h.1).1
  refine ⟨sI (sI (sI (sI (sI δ2 42 e (nI b)) 43 e (nI d)) 44 e (-1 - nI k)) 34 2 (nI (e + 1))) 34 1 (nI (S.1.1 4 + 1)), ?_, SC_T h ok.2.1 (RC_ev h.1 (RG_up 34 1 4 _ dom_4 rfl rfl (RG_off (by omega) (RG_off (by omega) (RG_off (by omega) (RG_off (by omega) hG))))) (fun o j q1 q2 q3 q4 q5 => ?_) ?_ ?_ ?_ ?_ (fun z => ?_)) (fun a j q => ?_), KMs (KMs (KMs (KMs (KMs (fun a j q => hf a j (by omega)) (by omega)) (by omega)) (by omega)) (by omega)) (by omega)⟩
  · simp only [jp_Fp_change_78, f_Di_addChange]
    rw [g2, addEv_eq g0 (by omega)]
    simp only [Option.bind, bnd]
    simp (disch := omega) only [gsr, gsc, g1, nI_1]
  · have q5 : ¬ (13 ≤ o ∧ o < 16 ∧ j = e) := by rw [← he]; exact q5
    simp only [gs]
    rw [if_neg (by omega), if_neg (by omega), if_neg (by omega), if_neg (by omega), if_neg (by omega), hf _ _ (by omega)]
  · show gI _ 34 2 = nI ((tE S.1).length + 1)
    rw [he, gsc (by omega), gss]
  · show gI _ 42 (tE S.1).length = nI b
    rw [he]
    simp (disch := omega) only [gsr, gss]
  · show gI _ 43 (tE S.1).length = nI (S.1.1 0)
    rw [he, hd]
    simp (disch := omega) only [gsr, gss]
  · show gI _ 44 (tE S.1).length = -1 - nI k
    rw [he]
    simp (disch := omega) only [gsr, gss]
  · exact absurd (show (false : Bool) = true from z) (by decide)
  · simp only [gs]
    rw [if_neg (by omega), if_neg (by omega), if_neg (by omega), if_neg (by omega), if_neg (by omega), hf _ _ (by omega)]
theorem j4 {α : Type} {A B : α} : (if inb (4 : Int32) 8918 then A else B) = A := if_pos (by decide)
theorem x4 : ix (4 : Int32) = 4 := rfl
theorem chM {b k : Nat} {S : St} {δ δ1 δ2 : Dm} {y : Int32} (ok : Ok S) (h : RepM δ S) (hk : k < 3) (h4 : S.1.1 4 < 100) (h1 : δ1 = wrE δ (vts S).length b (S.1.1 0) (bc S.1.1 b 8) (bc S.1.1 b 7) (nI 1) (nI k) (nI 0) (nI 0)) (hG : RGM δ2 (chG S.1.1 b k)) (hf : ∀ a j, (a ≠ 152 ∨ j = 7 ∨ 3926 ≤ j) → gI δ2 a j = gI δ1 a j) (hv : (vts S).length < 500) (g4 : chG S.1.1 b k 4 = S.1.1 4) : ∃ δ', jp_Mo_change_87 (nI b) (nI k) y δ2 = some (y, δ') ∧ RepM δ' ((up (chG S.1.1 b k) 4 (S.1.1 4 + 1), tE S.1 ++ [evE 1 b (S.1.1 0) k 0 0 (bc S.1.1 b 8) (bc S.1.1 b 7)], tR S.1, tC S.1), S.2) ∧ KC δ δ' := by
  have f : ∀ a j, a ≠ 152 → gI δ2 a j = gI δ a j := fun a j q => by rw [hf a j (Or.inl q), h1, wr_o q]
  refine ⟨sI δ2 152 4 (nI (S.1.1 4 + 1)), ?_, SM_T h (RM_ev h.1 rfl hv (okL_of ok).2.1 (okL_of ok).2.2 rfl (RGM_up hG) ?_ (fun j hj => ?_) (fun j q1 q2 q3 => ?_)) (fun a j q => ?_), KCs (fun a j q => f a j (by omega)) (by decide)⟩
  · simp only [jp_Mo_change_87, j4, x4, bnd]
    rw [hG 4 (Or.inl dom_4), g4, nI_1]
  · rw [gsc (by omega), hf _ _ (by omega), h1, wr_7]
  · rw [gsc (by omega), hf _ _ (by omega), h1]
    exact wr_in hv j hj
  · rw [gsc (by omega), hf _ _ (by omega), h1, wr_at (by omega) (by exact q3)]
  · rw [gsr q, f a j q]
theorem chG_4 {G : Nat → Nat} {b k : Nat} (hb : b < 8) (hk : k < 3) : ∀ j, ¬ (566 + 20 * b + 3 ≤ j ∧ j < 566 + 20 * b + 10) → chG G b k j = G j := by
  intro j hj
  unfold chG
  split
  · rw [up_n (by omega), up_n (by omega)]
  · rw [up_n (by omega)]
theorem op_change (a1 a2 : Int32) : OpG (f_Fp_change a1 a2) (f_Mo_change a1 a2) := mk_op fun n S ok => by
  have k8 : S.1.1 2 ≤ 8 := ok.1.1.2.2.1
  have k3 : S.1.1 3 ≤ 400 := ok.1.1.2.2.2.2.1
  have k4 : S.1.1 4 ≤ 100 := ok.1.1.2.2.2.2.2.2.1
  have b1 : ∀ δ, RepC δ n S → f_To_boothAt a1 δ = some (if inb a1 (S.1.1 2) then some (54 + 4 * ix a1) else none) := fun δ h => boothAt_eq k8 (cG h.1).2.2.1
  have b2 : ∀ δ, RepM δ S → f_Mo_isBooth a1 δ = some (bI (inb a1 (S.1.1 2))) := fun δ h => isBooth_eq (by omega) (mS h.1).2.2.1
  have c1 : ∀ δ, f_Mo_in a2.toInt64 0 2 δ = some (bI (inb a2 3)) := fun δ => in0 (n := 2) (by decide) rfl
  have f1 : ∀ δ, RepC δ n S → gI δ 34 1 = nI (S.1.1 4) := fun δ h => (cG h.1).2.2.2.2.1
  have f2 : ∀ δ, RepM δ S → gI δ 152 4 = nI (S.1.1 4) := fun δ h => (mS h.1).2.2.2.2.1
  by_cases h1 : inb a1 (S.1.1 2)
  · by_cases h2 : inb a2 3
    · by_cases h3 : S.1.1 4 < 100
      · obtain ⟨b, hb, rfl⟩ := inb_ex (by omega) h1
        obtain ⟨k, hk, rfl⟩ := inb_ex (by omega) h2
        have hb8 : b < 8 := by omega
        obtain ⟨n0, n1, n2, n3, n4, n5, n6, n7, n8, n9, n10, -⟩ := ok_nums ok hb
        have dk := dom_b (b := b) (w := 3 + k) hb8 (by omega)
        have d9 := dom_b (b := b) (w := 9) hb8 (by omega)
        have dka : 54 + 4 * b + 1 = 29 + cr (566 + (20 * b + (3 + k))) := by rw [dk.2.1, if_pos (by omega)]; omega
        have dkb : k = cs (566 + (20 * b + (3 + k))) := by rw [dk.2.2, if_pos (by omega)]; omega
        have d9a : 54 + 4 * b = 29 + cr (566 + (20 * b + 9)) := by rw [d9.2.1, if_neg (by decide)]; omega
        have d9b : 7 = cs (566 + (20 * b + 9)) := by rw [d9.2.2]; rfl
        have hv : (vts S).length < 500 := by
          have q1 := cnt_V (tE S.1) (fun x hx => (ok.1.2.2.2.1.1 x hx).1)
          have q2 : S.1.1 3 = ((tE S.1).filter isS).length := ok.1.1.2.2.2.1
          have q3 : S.1.1 4 = ((tE S.1).filter isH).length := ok.1.1.2.2.2.2.2.1
          show ((tE S.1).filter isV).length < 500
          omega
        have e4 := chG_4 (G := S.1.1) hb8 hk
        have e9 : nI (bc S.1.1 b 9) + (1000 - nI (bc S.1.1 b (3 + k))) = nI (bc S.1.1 b 9 + (1000 - bc S.1.1 b (3 + k))) := by
          rw [show (1000 : Int32) = nI 1000 from rfl, pk_sub (n4 k hk), nI_add]
        have e9' : nI (bc S.1.1 b 9) + 1000 - nI (bc S.1.1 b (3 + k)) = nI (bc S.1.1 b 9 + (1000 - bc S.1.1 b (3 + k))) := by
          have := n4 k hk
          rw [show (1000 : Int32) = nI 1000 from rfl, nI_add, pk_sub (by omega)]; exact congrArg nI (by omega)
        refine ⟨nI (bc S.1.1 b (3 + k)), ((up (chG S.1.1 b k) 4 (S.1.1 4 + 1), tE S.1 ++ [evE 1 b (S.1.1 0) k 0 0 (bc S.1.1 b 8) (bc S.1.1 b 7)], tR S.1, tC S.1), S.2), fun δ h => ?_, fun δ h => ?_, Ok_T ok ?_⟩
        · have hG1 : RG 29 (sI δ (54 + 4 * b + 1) k (nI 1000)) (up S.1.1 (566 + (20 * b + (3 + k))) 1000) := RG_up _ _ _ _ dk.1 dka dkb h.1.1
          simp only [f_Fp_change, b1 δ h, ocs, Option.bind, if_pos h1, ixN (show b < 2147483648 by omega), if_pos (isB_at b hb8).1, isBath_eq, ifb, if_pos h2, f1 δ h]
          rw [if_pos (show nI (S.1.1 4) < (100 : Int32) from nI_lt h3 (by decide)), get_in (KD_b b hb8).1 hk, put_in (KD_b b hb8).1 hk, cSs h hb8 hk]
          simp only []
          by_cases hk2 : k = 2
          · rw [if_pos (show nI k = (2 : Int32) by rw [hk2]; rfl)]
            simp only [bnd]
            rw [gsr (by omega), cBs 9 7 rfl h hb8 (by decide) (by decide), e9]
            refine chC ok h hb hk h3 ?_ (fun a j q => by rw [gsr (by omega), gsr (by omega)])
            unfold chG
            rw [if_pos hk2]
            exact RG_up _ _ _ _ d9.1 d9a d9b hG1
          · rw [if_neg (show ¬ nI k = (2 : Int32) from fun z => hk2 ((nI_eq (b := 2) (by omega) (by decide)).mp z))]
            refine chC ok h hb hk h3 ?_ (fun a j q => by rw [gsr (by omega)])
            unfold chG
            rw [if_neg hk2]
            exact hG1
        · have hw := writes_eq (δ := δ) (a1 := nI 1) (a3 := nI k) (a4 := nI 0) (a5 := nI 0) (b := b) (by have := h.1.2.1; rw [Nat.zero_add] at this; exact this) hv hb8 (mS h.1).1 (mBs 8 h hb8 (by decide)) (mBs 7 h hb8 (by decide))
          have hG0 : RGM (wrE δ (vts S).length b (S.1.1 0) (bc S.1.1 b 8) (bc S.1.1 b 7) (nI 1) (nI k) (nI 0) (nI 0)) S.1.1 := wr_G hv (RGM_of h.1)
          simp only [f_Mo_change, j4, x4, f2 δ h, b2 δ h, c1, Option.bind, ifb, if_pos h1, if_pos h2]
          rw [if_neg (show ¬ nI (S.1.1 4) = (100 : Int32) from fun z => by have := (nI_eq (b := 100) (by omega) (by decide)).mp z; omega), show (3 : Int32) + nI k = nI (3 + k) from nI_add 3 k, cell_eq hb8 (by omega), mBs (3 + k) h hb8 (by omega)]
          simp only []
          rw [show (1 : Int32) = nI 1 from rfl, show (0 : Int32) = nI 0 from rfl, hw]
          simp only []
          rw [show (1000 : Int32) = nI 1000 from rfl, sets_eq hb8 (by omega)]
          simp only []
          have hG1 := RGM_up (i := 566 + (20 * b + (3 + k))) (v := 1000) hG0
          by_cases hk2 : k = 2
          · rw [if_pos (show nI k = (2 : Int32) by rw [hk2]; rfl), show (9 : Int32) = nI 9 from rfl, cell_eq hb8 (by decide)]
            simp only []
            rw [sets_eq hb8 (by decide)]
            simp only []
            rw [gsc (by omega), hG0 (566 + (20 * b + 9)) (Or.inl d9.1), show nI (S.1.1 (566 + (20 * b + 9))) + nI 1000 - nI (bc S.1.1 b (3 + k)) = _ from e9']
            refine chM ok h hk h3 rfl ?_ (fun a j q => ?_) hv (e4 4 (by omega))
            · unfold chG
              rw [if_pos hk2]
              exact RGM_up hG1
            · simp only [gs]
              rw [if_neg (by omega), if_neg (by omega)]
          · rw [if_neg (show ¬ nI k = (2 : Int32) from fun z => hk2 ((nI_eq (b := 2) (by omega) (by decide)).mp z))]
            refine chM ok h hk h3 rfl ?_ (fun a j q => ?_) hv (e4 4 (by omega))
            · unfold chG
              rw [if_neg hk2]
              exact hG1
            · simp only [gs]
              rw [if_neg (by omega)]
        · have z4 : up (chG S.1.1 b k) 4 (S.1.1 4 + 1) 4 = S.1.1 4 + 1 := up_s
          have eb : ∀ w, w < 20 → ¬ (3 ≤ w ∧ w < 6) → w ≠ 9 → bc (up (chG S.1.1 b k) 4 (S.1.1 4 + 1)) b w = bc S.1.1 b w := fun w hw h1 h2 => by
            show up (chG S.1.1 b k) 4 (S.1.1 4 + 1) (566 + (20 * b + w)) = S.1.1 (566 + (20 * b + w))
            rw [up_n (by omega)]
            unfold chG
            split
            · rw [up_n (by omega), up_n (by omega)]
            · rw [up_n (by omega)]
          have s9 := (ok.1.2.2.1 b hb).2.2.2.2.2.2.2.2.2.2.1
          have s9 : bc S.1.1 b 9 ≤ 1000 * S.1.1 4 := s9
          refine ok_ev (b := b) (h := ok.1) rfl hb rfl (by show (1 : Nat) ≤ 2; omega) (by show k ≤ 99; omega) (by show (0 : Nat) ≤ 20; omega) (by show (0 : Nat) ≤ 5; omega) (fun _ => hk) (fun j q3 q4 q => by rw [up_n q4]; exact e4 j q) (by rw [up_n (by omega), e4 3 (by omega)]; rfl) (by rw [z4]; rfl) (by rw [up_n (by omega), e4 3 (by omega)]; exact k3) (by rw [z4]; omega) (fun j hj => ?_) ?_ ?_ ?_ ?_ (fun z => by cases z) (fun z => by cases z)
          · show up (chG S.1.1 b k) 4 (S.1.1 4 + 1) (566 + (20 * b + (3 + j))) ≤ 1000
            rw [up_n (by omega)]
            have nj := n4 j hj
            have nj : S.1.1 (566 + (20 * b + (3 + j))) ≤ 1000 := nj
            unfold chG
            by_cases hjk : j = k
            · subst hjk
              split
              · rw [up_n (by omega), up_s]; exact Nat.le_refl _
              · rw [up_s]; exact Nat.le_refl _
            · split
              · rw [up_n (by omega), up_n (by omega)]; exact nj
              · rw [up_n (by omega)]; exact nj
          · rw [eb 6 (by omega) (by omega) (by omega)]; exact n5
          · rw [eb 7 (by omega) (by omega) (by omega)]
            unfold boxs
            rw [if_pos (show evE 1 b (S.1.1 0) k 0 0 (bc S.1.1 b 8) (bc S.1.1 b 7) 1 = b from rfl)]; rfl
          · rw [eb 8 (by omega) (by omega) (by omega)]; rfl
          · rw [z4]
            show up (chG S.1.1 b k) 4 (S.1.1 4 + 1) (566 + (20 * b + 9)) ≤ _
            rw [up_n (by omega)]
            have s9' : S.1.1 (566 + (20 * b + 9)) ≤ 1000 * S.1.1 4 := s9
            unfold chG
            split
            · rw [up_s]; omega
            · rw [up_n (by omega)]; omega
      · refine nop (-1) ok (fun δ h => ?_) (fun δ h => ?_)
        · simp only [f_Fp_change, b1 δ h, ocs, Option.bind, if_pos h1, isBath_eq, ifb, if_pos h2, f1 δ h, if_pos (isB_ix h1 k8)]
          rw [if_neg (show ¬ nI (S.1.1 4) < (100 : Int32) from nI_nlt (a := S.1.1 4) (b := 100) (by omega) (by omega))]
        · simp only [f_Mo_change, j4, x4, f2 δ h]
          rw [if_pos (show nI (S.1.1 4) = (100 : Int32) by rw [show S.1.1 4 = 100 by omega]; rfl)]
    · refine nop (-1) ok (fun δ h => ?_) (fun δ h => ?_)
      · simp only [f_Fp_change, b1 δ h, ocs, Option.bind, if_pos h1, isBath_eq, ifb, if_neg h2, if_pos (isB_ix h1 k8)]
      · simp only [f_Mo_change, j4, x4, b2 δ h, c1, Option.bind, ifb, if_pos h1, if_neg h2, ite_self]
  · refine nop (-1) ok (fun δ h => ?_) (fun δ h => ?_)
    · simp only [f_Fp_change, b1 δ h, ocs, Option.bind, if_neg h1]
    · simp only [f_Mo_change, j4, x4, b2 δ h, Option.bind, ifb, if_neg h1, ite_self]
