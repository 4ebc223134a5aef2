/-! more plain calls -/
theorem isB_ix {a : Int32} {k : Nat} (h : inb a k) (hk : k ≤ 8) : isB (54 + 4 * ix a) = true := by
  obtain ⟨b, hb, rfl⟩ := inb_ex (by omega) h
  rw [ixN (by omega)]; exact (isB_at b (by omega)).1
theorem wv {a l : Int32} {h : Nat} {δ : Dm} : f_Fp_within a l (no_index (OfNat.ofNat h)) δ = some (bI (l ≤ a ∧ a ≤ nI (OfNat.ofNat h))) := within_eq _ _ _ _
theorem inV {a l : Int32} {δ : Dm} : f_Mo_in a.toInt64 l.toInt64 9999 δ = some (bI (l ≤ a ∧ a ≤ nI 9999)) := in_eq a l (nI 9999) δ
theorem op_call (a1 a2 : Int32) : OpG (f_Fp_call a1 a2) (f_Mo_call a1 a2) := mk_op fun n S ok => by
  have k8 : S.1.1 2 ≤ 8 := ok.1.1.2.2.1
  have b1 : ∀ δ, RepC δ n S → f_To_boothAt a1 δ = some (if inb a1 (S.1.1 2) then some (54 + 4 * ix a1) else none) := fun δ h => boothAt_eq k8 (cG h.1).2.2.1
  have b2 : ∀ δ, RepM δ S → f_Mo_isBooth a1 δ = some (bI (inb a1 (S.1.1 2))) := fun δ h => isBooth_eq (by omega) (mS h.1).2.2.1
  by_cases h_b : inb a1 (S.1.1 2)
  · by_cases h_r : nI 0 ≤ a2 ∧ a2 ≤ nI 9999
    · obtain ⟨b, hb, rfl⟩ := inb_ex (by omega) h_b
      obtain ⟨v, -, hv, rfl⟩ := low_i (by decide) h_r (by decide)
      have d1 := dom_b (b := b) (w := 11) (by omega) (by decide)
      refine ⟨nI (bc S.1.1 b 11), setG S (566 + (20 * b + 11)) v, fun δ h => ⟨sI δ (54 + 4 * b) 8 (nI v), ?_, uC _ _ _ v d1.1 (by rw [d1.2.1, if_neg (by decide)]; omega) (by rw [d1.2.2]; rfl) ok.2.1 h, KMs (KM.refl _) (by omega)⟩, fun δ h => ⟨sI δ 152 (566 + (20 * b + 11)) (nI v), ?_, SM_up (Or.inl d1.1) (okL_of ok) h, KCs (KC.refl _) (by decide)⟩, Ok_s ok (ok_b ok.1 hb (by decide) (by decide) (fun h => absurd h (by decide)) (fun h => absurd h (by decide)) (fun h1 h2 => absurd h2 (by decide)) (fun h => absurd h (by decide)) (fun h => absurd h (by decide)) (fun _ => hv))⟩
      · simp only [f_Fp_call, b1 δ h, wl, ocs, Option.bind, ifb, if_pos h_b, if_pos h_r, bnd, ixN (show b < 2147483648 by omega), if_pos (isB_at b (by omega)).1]
        rw [cBs 11 8 rfl h (by omega) (by decide) (by decide)]
      · simp only [f_Mo_call, b2 δ h, il (show 0 < 2147483648 by decide) (show 9999 < 2147483648 by decide), Option.bind, ifb, if_pos h_b, if_pos h_r]
        simp only [lit]
        rw [cell_eq (by omega) (by decide), sets_eq (by omega) (by decide)]
        simp only []
        rw [mBs 11 h (by omega) (by decide)]
    · refine nop (-1) ok (fun δ h => ?_) (fun δ h => ?_)
      · simp only [f_Fp_call, ocs, Option.bind, ifb, b1 δ h, wl, if_pos h_b, if_neg h_r, if_pos (isB_ix h_b k8)]
      · simp only [f_Mo_call, Option.bind, ifb, b2 δ h, il (show 0 < 2147483648 by decide) (show 9999 < 2147483648 by decide), if_pos h_b, if_neg h_r]
  · refine nop (-1) ok (fun δ h => ?_) (fun δ h => ?_)
    · simp only [f_Fp_call, ocs, Option.bind, ifb, b1 δ h, wl, if_neg h_b]
    · simp only [f_Mo_call, Option.bind, ifb, b2 δ h, il (show 0 < 2147483648 by decide) (show 9999 < 2147483648 by decide), if_neg h_b]
theorem op_paper (a1 a2 : Int32) : OpG (f_Fp_paper a1 a2) (f_Mo_paper a1 a2) := mk_op fun n S ok => by
  have k8 : S.1.1 2 ≤ 8 := ok.1.1.2.2.1
  have b1 : ∀ δ, RepC δ n S → f_To_boothAt a1 δ = some (if inb a1 (S.1.1 2) then some (54 + 4 * ix a1) else none) := fun δ h => boothAt_eq k8 (cG h.1).2.2.1
  have b2 : ∀ δ, RepM δ S → f_Mo_isBooth a1 δ = some (bI (inb a1 (S.1.1 2))) := fun δ h => isBooth_eq (by omega) (mS h.1).2.2.1
  by_cases h_b : inb a1 (S.1.1 2)
  · by_cases h_r : nI 1 ≤ a2 ∧ a2 ≤ nI 9999
    · obtain ⟨b, hb, rfl⟩ := inb_ex (by omega) h_b
      obtain ⟨v, hv0, hv, rfl⟩ := low_i (by decide) h_r (by decide)
      have d1 := dom_b (b := b) (w := 6) (by omega) (by decide)
      have q6 : bc S.1.1 b 6 ≤ 9999 := (ok.1.2.2.1 b hb).2.2.2.2.2.2.1
      by_cases h3 : bc S.1.1 b 6 + v ≤ 9999
      · refine ⟨nI (bc S.1.1 b 6 + v), setG S (566 + (20 * b + 6)) (bc S.1.1 b 6 + v), fun δ h => ⟨sI δ (54 + 4 * b) 4 (nI (bc S.1.1 b 6 + v)), ?_, uC _ _ _ _ d1.1 (by rw [d1.2.1, if_neg (by decide)]; omega) (by rw [d1.2.2]; rfl) ok.2.1 h, KMs (KM.refl _) (by omega)⟩, fun δ h => ⟨sI δ 152 (566 + (20 * b + 6)) (nI (bc S.1.1 b 6 + v)), ?_, SM_up (Or.inl d1.1) (okL_of ok) h, KCs (KC.refl _) (by decide)⟩, Ok_s ok (ok_b ok.1 hb (by decide) (by decide) (fun h => absurd h (by decide)) (fun h => absurd h (by decide)) (fun h1 h2 => absurd h2 (by decide)) (fun _ => h3) (fun h => absurd h (by decide)) (fun h => absurd h (by decide)))⟩
        · simp only [f_Fp_paper, b1 δ h, wl, ocs, Option.bind, ifb, if_pos h_b, if_pos h_r, bnd, ixN (show b < 2147483648 by omega), if_pos (isB_at b (by omega)).1]
          rw [cBs 6 4 rfl h (by omega) (by decide) (by decide), nI_add, lit, if_pos (nI_le h3 (by decide)), gss]
        · simp only [f_Mo_paper, b2 δ h, il (show 1 < 2147483648 by decide) (show 9999 < 2147483648 by decide), Option.bind, ifb, if_pos h_b, if_pos h_r]
          rw [show (6 : Int32) = nI 6 from rfl, show (9999 : Int32) = nI 9999 from rfl, cell_eq (by omega) (by decide)]
          simp only []
          rw [mBs 6 h (by omega) (by decide), nI_add, if_pos (nI_le h3 (by decide)), sets_eq (by omega) (by decide)]
          simp only []
          rw [cell_eq (by omega) (by decide)]
          simp only [gss]
      · refine nop (-1) ok (fun δ h => ?_) (fun δ h => ?_)
        · simp only [f_Fp_paper, b1 δ h, wl, ocs, Option.bind, ifb, if_pos h_b, if_pos h_r, bnd, ixN (show b < 2147483648 by omega), if_pos (isB_at b (by omega)).1]
          rw [cBs 6 4 rfl h (by omega) (by decide) (by decide), nI_add, show (9999 : Int32) = nI 9999 from rfl, if_neg (nI_ge (by omega) (by omega))]
        · simp only [f_Mo_paper, b2 δ h, il (show 1 < 2147483648 by decide) (show 9999 < 2147483648 by decide), Option.bind, ifb, if_pos h_b, if_pos h_r]
          rw [show (6 : Int32) = nI 6 from rfl, show (9999 : Int32) = nI 9999 from rfl, cell_eq (by omega) (by decide)]
          simp only []
          rw [mBs 6 h (by omega) (by decide), nI_add, if_neg (nI_ge (by omega) (by omega))]
    · refine nop (-1) ok (fun δ h => ?_) (fun δ h => ?_)
      · simp only [f_Fp_paper, ocs, Option.bind, ifb, b1 δ h, wl, if_pos h_b, if_neg h_r, if_pos (isB_ix h_b k8)]
      · simp only [f_Mo_paper, Option.bind, ifb, b2 δ h, il (show 1 < 2147483648 by decide) (show 9999 < 2147483648 by decide), if_pos h_b, if_neg h_r]
  · refine nop (-1) ok (fun δ h => ?_) (fun δ h => ?_)
    · simp only [f_Fp_paper, ocs, Option.bind, ifb, b1 δ h, wl, if_neg h_b]
    · simp only [f_Mo_paper, Option.bind, ifb, b2 δ h, il (show 1 < 2147483648 by decide) (show 9999 < 2147483648 by decide), if_neg h_b]
theorem op_takes (a1 a2 a3 a4 : Int32) : OpG (f_Fp_takes a1 a2 a3 a4) (f_Mo_takes a1 a2 a3 a4) := mk_op fun n S ok => by
  have k8 : S.1.1 2 ≤ 8 := ok.1.1.2.2.1
  have k12 : S.1.1 1 ≤ 12 := ok.1.1.2.1
  have b1 : ∀ δ, RepC δ n S → f_To_boothAt a1 δ = some (if inb a1 (S.1.1 2) then some (54 + 4 * ix a1) else none) := fun δ h => boothAt_eq k8 (cG h.1).2.2.1
  have b2 : ∀ δ, RepM δ S → f_Mo_isBooth a1 δ = some (bI (inb a1 (S.1.1 2))) := fun δ h => isBooth_eq (by omega) (mS h.1).2.2.1
  have p1 : ∀ δ, RepC δ n S → f_To_hasPlace a2 δ = some (bI (inb a2 (S.1.1 1))) := fun δ h => hasPlace_eq (by omega) (cG h.1).2.1
  have p2 : ∀ δ, RepM δ S → f_Mo_isPlace a2 δ = some (bI (inb a2 (S.1.1 1))) := fun δ h => isPlace_eq (by omega) (mS h.1).2.1
  by_cases h_b : inb a1 (S.1.1 2)
  · by_cases h_p : inb a2 (S.1.1 1)
    · by_cases h_r : nI 0 ≤ a3 ∧ a3 ≤ nI 9999
      · by_cases h_s : a3 ≤ a4 ∧ a4 ≤ nI 9999
        · obtain ⟨b, hb, rfl⟩ := inb_ex (by omega) h_b
          obtain ⟨p, hp, rfl⟩ := inb_ex (by omega) h_p
          obtain ⟨u, -, hu, rfl⟩ := low_i (by decide) h_r (by decide)
          obtain ⟨v, huv, hv, rfl⟩ := low_i (by decide) h_s (by omega)
          have d1 := dom_t (b := b) (p := p) (m := 0) (by omega) (by omega) (by decide)
          have d2 := dom_t (b := b) (p := p) (m := 1) (by omega) (by omega) (by decide)
          have q1 := Ok_s (v := u) ok (ok_G (Or.inr (by omega)) ok.1 (okG_take (c := b) hp k12 (by decide : 0 < 2) hu ok.1.2.1))
          have e : (setG S (8726 + (2 * (12 * b + p) + 0)) u).1.1 1 = S.1.1 1 := sG_n (by omega)
          refine ⟨1, setG (setG S (8726 + (2 * (12 * b + p) + 0)) u) (8726 + (2 * (12 * b + p) + 1)) v, fun δ h => ⟨sI (sI δ (54 + 4 * b + 2) p (nI u)) (54 + 4 * b + 3) p (nI v), ?_, uC _ _ _ _ d2.1 (by rw [d2.2.1]; omega) d2.2.2.symm ok.2.1 (uC _ _ _ _ d1.1 (by rw [d1.2.1]; omega) d1.2.2.symm ok.2.1 h), KMs (KMs (KM.refl _) (by omega)) (by omega)⟩, fun δ h => ⟨sI (sI δ 152 (8726 + (2 * (12 * b + p) + 0)) (nI u)) 152 (8726 + (2 * (12 * b + p) + 1)) (nI v), ?_, SM_up (Or.inl d2.1) (okL_s (okL_of ok)) (SM_up (Or.inl d1.1) (okL_of ok) h), KCs (KCs (KC.refl _) (by decide)) (by decide)⟩, Ok_s q1 (ok_G (Or.inr (by omega)) q1.1 (okG_take (c := b) (by rw [e]; exact hp) (by rw [e]; exact k12) (by decide : 1 < 2) hv q1.1.2.1))⟩
          · simp only [f_Fp_takes, b1 δ h, p1 δ h, wl, wv, ocs, Option.bind, ifb, if_pos h_b, if_pos h_p, if_pos h_r, if_pos h_s, bnd, ixN (show b < 2147483648 by omega), if_pos (isB_at b (by omega)).1]
            rw [put_in (KD_b b (by omega)).2.1 (by omega)]
            simp only []
            rw [put_in (KD_b b (by omega)).2.2 (by omega)]
          · simp only [f_Mo_takes, b2 δ h, p2 δ h, il (show 0 < 2147483648 by decide) (show 9999 < 2147483648 by decide), inV, Option.bind, ifb, if_pos h_b, if_pos h_p, if_pos h_r, if_pos h_s, bnd]
            simp only [lit, pk_mul, nI_add, Nat.add_assoc]
            rw [if_pos (inb_i (by omega) (by decide)), if_pos (inb_i (by omega) (by decide)), ixN (by omega), ixN (by omega)]
            rfl
        · refine nop 0 ok (fun δ h => ?_) (fun δ h => ?_)
          · simp only [f_Fp_takes, ocs, Option.bind, ifb, b1 δ h, p1 δ h, wl, wv, if_pos h_b, if_pos h_p, if_pos h_r, if_neg h_s, if_pos (isB_ix h_b k8)]
          · simp only [f_Mo_takes, Option.bind, ifb, b2 δ h, p2 δ h, il (show 0 < 2147483648 by decide) (show 9999 < 2147483648 by decide), inV, if_pos h_b, if_pos h_p, if_pos h_r, if_neg h_s]
      · refine nop 0 ok (fun δ h => ?_) (fun δ h => ?_)
        · simp only [f_Fp_takes, ocs, Option.bind, ifb, b1 δ h, p1 δ h, wl, wv, if_pos h_b, if_pos h_p, if_neg h_r, if_pos (isB_ix h_b k8)]
        · simp only [f_Mo_takes, Option.bind, ifb, b2 δ h, p2 δ h, il (show 0 < 2147483648 by decide) (show 9999 < 2147483648 by decide), inV, if_pos h_b, if_pos h_p, if_neg h_r]
    · refine nop 0 ok (fun δ h => ?_) (fun δ h => ?_)
      · simp only [f_Fp_takes, ocs, Option.bind, ifb, b1 δ h, p1 δ h, wl, wv, if_pos h_b, if_neg h_p, if_pos (isB_ix h_b k8)]
      · simp only [f_Mo_takes, Option.bind, ifb, b2 δ h, p2 δ h, il (show 0 < 2147483648 by decide) (show 9999 < 2147483648 by decide), inV, if_pos h_b, if_neg h_p]
  · refine nop 0 ok (fun δ h => ?_) (fun δ h => ?_)
    · simp only [f_Fp_takes, ocs, Option.bind, ifb, b1 δ h, p1 δ h, wl, wv, if_neg h_b]
    · simp only [f_Mo_takes, Option.bind, ifb, b2 δ h, p2 δ h, il (show 0 < 2147483648 by decide) (show 9999 < 2147483648 by decide), inV, if_neg h_b]
