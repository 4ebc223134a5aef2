/-! the plain calls -/
theorem wl {a : Int32} {l h : Nat} {δ : Dm} : f_Fp_within a (no_index (OfNat.ofNat l)) (no_index (OfNat.ofNat h)) δ = some (bI (nI (OfNat.ofNat l) ≤ a ∧ a ≤ nI (OfNat.ofNat h))) := within_eq _ _ _ _
theorem il {a : Int32} {l h : Nat} {δ : Dm} (hl : l < 2147483648) (hh : h < 2147483648) : f_Mo_in a.toInt64 (no_index (OfNat.ofNat l)) (no_index (OfNat.ofNat h)) δ = some (bI (nI (OfNat.ofNat l) ≤ a ∧ a ≤ nI (OfNat.ofNat h))) := by
  have e := in_eq a (nI l) (nI h) δ
  rw [nI_l hl, nI_l hh] at e
  exact e
def OpG (cf mf : Dm → Option (Int32 × Dm)) : Prop := ∀ δ n S, Rep δ n S → ∃ v δ1 δ2 S', cf δ = some (v, δ1) ∧ mf δ1 = some (v, δ2) ∧ Rep δ2 n S' ∧ (∀ b j, b < 4 → gI δ1 b j = gI δ b j) ∧ (∀ b j, b < 4 → gI δ2 b j = gI δ b j)
def OpP (cf mf : Dm → Option Int32) : Prop := ∀ δ n S, Rep δ n S → ∃ v, cf δ = some v ∧ mf δ = some v
theorem mk_op {cf mf : Dm → Option (Int32 × Dm)} (h : ∀ n S, Ok S → ∃ v S', (∀ δ, RepC δ n S → ∃ δ1, cf δ = some (v, δ1) ∧ RepC δ1 n S' ∧ KM δ δ1) ∧ (∀ δ, RepM δ S → ∃ δ2, mf δ = some (v, δ2) ∧ RepM δ2 S' ∧ KC δ δ2) ∧ Ok S') : OpG cf mf := by
  intro δ n S ⟨h1, h2, h3⟩
  obtain ⟨v, S', a, b, c⟩ := h n S h3
  obtain ⟨δ1, a1, a2, a3⟩ := a δ h1
  obtain ⟨δ2, b1, b2, b3⟩ := b δ1 (RepM_keep h2 h3 a3)
  exact ⟨v, δ1, δ2, S', a1, b1, ⟨RepC_keep a2 c.2.1 b3, b2, c⟩, fun x j q => a3 x j (Or.inl q), fun x j q => (b3 x j (Or.inl q)).trans (a3 x j (Or.inl q))⟩
theorem nop {cf mf : Dm → Option (Int32 × Dm)} {n : Nat} {S : St} (v : Int32) (ok : Ok S) (h1 : ∀ δ, RepC δ n S → cf δ = some (v, δ)) (h2 : ∀ δ, RepM δ S → mf δ = some (v, δ)) : ∃ v S', (∀ δ, RepC δ n S → ∃ δ1, cf δ = some (v, δ1) ∧ RepC δ1 n S' ∧ KM δ δ1) ∧ (∀ δ, RepM δ S → ∃ δ2, mf δ = some (v, δ2) ∧ RepM δ2 S' ∧ KC δ δ2) ∧ Ok S' :=
  ⟨v, S, fun δ h => ⟨δ, h1 δ h, h, KM.refl δ⟩, fun δ h => ⟨δ, h2 δ h, h, KC.refl δ⟩, ok⟩
theorem KMs {δ δ' : Dm} {a i : Nat} {v : Int32} (h : KM δ δ') (ha : (4 ≤ a ∧ a < 151) ∨ 168 ≤ a) : KM δ (sI δ' a i v) := fun b j q => (gsr (by omega)).trans (h b j q)
theorem KCs {δ δ' : Dm} {a i : Nat} {v : Int32} (h : KC δ δ') (ha : 151 ≤ a ∧ a < 168) : KC δ (sI δ' a i v) := fun b j q => (gsr (by omega)).trans (h b j q)
theorem ifb {α : Type} {p : Prop} [Decidable p] {A B : α} : (if bI p = 0 then A else B) = if p then B else A := by
  unfold bI; by_cases h : p <;> simp [h]
theorem op_heat (a b : Int32) : OpG (f_Fp_heat a b) (f_Mo_heat a b) := mk_op fun n S ok => by
  have i1 := @il b 0 40
  by_cases h1 : inb a 400
  · by_cases h2 : nI 0 ≤ b ∧ b ≤ nI 40
    · obtain ⟨d, hd, rfl⟩ := inb_ex (by decide) h1
      obtain ⟨v, -, hv, rfl⟩ := low_i (by decide) h2 (by decide)
      refine ⟨nI (S.1.1 (10 + d)), setG S (10 + d) v, fun δ h => ⟨sI δ 30 d (nI v), ?_, uC 30 d (10 + d) v (dom_h hd).1 (by rw [(dom_h hd).2.1]) (dom_h hd).2.2.symm ok.2.1 h, KMs (KM.refl _) (by decide)⟩, fun δ h => ⟨sI δ 152 (10 + d) (nI v), ?_, SM_up (Or.inl (dom_h hd).1) (okL_of ok) h, KCs (KC.refl _) (by decide)⟩, ?_⟩
      · simp only [f_Fp_heat, isDay_eq, wl, Option.bind, ifb, if_pos h1, if_pos h2, get_in (show (KD 30).2 = 400 by decide) hd, put_in (show (KD 30).2 = 400 by decide) hd]
        rw [cH h.1 hd]
      · simp only [f_Mo_heat, isDayM_eq, il (show 0 < 2147483648 by decide) (show 40 < 2147483648 by decide), Option.bind, ifb, if_pos h1, if_pos h2, bnd]
        simp only [lit, nI_add]
        rw [if_pos (inb_i (by omega) (by decide)), if_pos (inb_i (by omega) (by decide)), ixN (by omega), mG h.1 (Or.inl (dom_h hd).1)]
      · exact Ok_T ok (ok_G (Or.inl (by omega)) ok.1 (okG_heat hd hv ok.1.2.1))
    · refine nop (-1) ok (fun δ h => ?_) (fun δ h => ?_)
      · simp only [f_Fp_heat, isDay_eq, wl, Option.bind, ifb, if_pos h1, if_neg h2]
      · simp only [f_Mo_heat, isDayM_eq, il (show 0 < 2147483648 by decide) (show 40 < 2147483648 by decide), Option.bind, ifb, if_pos h1, if_neg h2]
  · refine nop (-1) ok (fun δ h => ?_) (fun δ h => ?_)
    · simp only [f_Fp_heat, isDay_eq, Option.bind, ifb, if_neg h1]
    · simp only [f_Mo_heat, isDayM_eq, Option.bind, ifb, if_neg h1]
theorem op_miles (a b c : Int32) : OpG (f_Fp_miles a b c) (f_Mo_miles a b c) := mk_op fun n S ok => by
  have k1 : S.1.1 1 ≤ 12 := ok.1.1.2.1
  have e1 : ∀ δ, RepC δ n S → f_To_hasPlace a δ = some (bI (inb a (S.1.1 1))) := fun δ h => hasPlace_eq (by omega) (cG h.1).2.1
  have e2 : ∀ δ, RepC δ n S → f_To_hasPlace b δ = some (bI (inb b (S.1.1 1))) := fun δ h => hasPlace_eq (by omega) (cG h.1).2.1
  have e3 : ∀ δ, RepM δ S → f_Mo_isPlace a δ = some (bI (inb a (S.1.1 1))) := fun δ h => isPlace_eq (by omega) (mS h.1).2.1
  have e4 : ∀ δ, RepM δ S → f_Mo_isPlace b δ = some (bI (inb b (S.1.1 1))) := fun δ h => isPlace_eq (by omega) (mS h.1).2.1
  by_cases h1 : inb a (S.1.1 1)
  · by_cases h2 : inb b (S.1.1 1)
    · by_cases h3 : a = b
      · refine nop (-1) ok (fun δ h => ?_) (fun δ h => ?_)
        · simp only [f_Fp_miles, e1 δ h, e2 δ h, Option.bind, ifb, if_pos h1, if_pos h2, if_pos h3]
        · simp only [f_Mo_miles, e3 δ h, e4 δ h, Option.bind, ifb, if_pos h1, if_pos h2, if_pos h3]
      · by_cases h4 : nI 0 ≤ c ∧ c ≤ nI 999
        · obtain ⟨x, hx, rfl⟩ := inb_ex (by omega) h1
          obtain ⟨y, hy, rfl⟩ := inb_ex (by omega) h2
          obtain ⟨v, -, hv, rfl⟩ := low_i (by decide) h4 (by decide)
          have d1 := dom_r (k := 12 * x + y) (by omega)
          have d2 := dom_r (k := 12 * y + x) (by omega)
          refine ⟨nI (S.1.1 (422 + (12 * x + y))), setG (setG S (422 + (12 * x + y)) v) (422 + (12 * y + x)) v, fun δ h => ⟨sI (sI δ 32 (12 * x + y) (nI v)) 32 (12 * y + x) (nI v), ?_, uC 32 _ _ v d2.1 (by rw [d2.2.1]) d2.2.2.symm ok.2.1 (uC 32 _ _ v d1.1 (by rw [d1.2.1]) d1.2.2.symm ok.2.1 h), KMs (KMs (KM.refl _) (by decide)) (by decide)⟩, fun δ h => ⟨sI (sI δ 152 (422 + (12 * x + y)) (nI v)) 152 (422 + (12 * y + x)) (nI v), ?_, SM_up (Or.inl d2.1) (okL_s (okL_of ok)) (SM_up (Or.inl d1.1) (okL_of ok) h), KCs (KCs (KC.refl _) (by decide)) (by decide)⟩, ?_⟩
          · simp only [f_Fp_miles, e1 δ h, e2 δ h, wl, Option.bind, ifb, if_pos h1, if_pos h2, if_neg h3, if_pos h4, f_To_between]
            simp only [lit, pk_mul, nI_add, Nat.mul_comm _ 12]
            rw [get_in (show (KD 32).2 = 144 by decide) (by omega), put_in (show (KD 32).2 = 144 by decide) (by omega)]
            simp only []
            rw [put_in (show (KD 32).2 = 144 by decide) (by omega), cR h.1 (by omega)]
          · simp only [f_Mo_miles, e3 δ h, e4 δ h, il (show 0 < 2147483648 by decide) (show 999 < 2147483648 by decide), Option.bind, ifb, if_pos h1, if_pos h2, if_neg h3, if_pos h4, bnd]
            simp only [lit, pk_mul, nI_add, Nat.add_assoc]
            rw [if_pos (inb_i (by omega) (by decide)), if_pos (inb_i (by omega) (by decide)), if_pos (inb_i (by omega) (by decide)), ixN (by omega), ixN (by omega), mG h.1 (Or.inl d1.1)]
          · have q1 := Ok_s ok (ok_G (Or.inl (by omega)) ok.1 (okG_road (v := v) hx hy k1 hv ok.1.2.1))
            have e : (setG S (422 + (12 * x + y)) v).1.1 1 = S.1.1 1 := sG_n (by omega)
            exact Ok_s q1 (ok_G (Or.inl (by omega)) q1.1 (okG_road (v := v) (by rw [e]; exact hy) (by rw [e]; exact hx) (by rw [e]; exact k1) hv q1.1.2.1))
        · refine nop (-1) ok (fun δ h => ?_) (fun δ h => ?_)
          · simp only [f_Fp_miles, e1 δ h, e2 δ h, wl, Option.bind, ifb, if_pos h1, if_pos h2, if_neg h3, if_neg h4]
          · simp only [f_Mo_miles, e3 δ h, e4 δ h, il (show 0 < 2147483648 by decide) (show 999 < 2147483648 by decide), Option.bind, ifb, if_pos h1, if_pos h2, if_neg h3, if_neg h4]
    · refine nop (-1) ok (fun δ h => ?_) (fun δ h => ?_)
      · simp only [f_Fp_miles, e1 δ h, e2 δ h, Option.bind, ifb, if_pos h1, if_neg h2]
      · simp only [f_Mo_miles, e3 δ h, e4 δ h, Option.bind, ifb, if_pos h1, if_neg h2]
  · refine nop (-1) ok (fun δ h => ?_) (fun δ h => ?_)
    · simp only [f_Fp_miles, e1 δ h, Option.bind, ifb, if_neg h1]
    · simp only [f_Mo_miles, e3 δ h, Option.bind, ifb, if_neg h1]
