/-! end, place -/
theorem SC_n {δ : Dm} {n v : Nat} {S : St} (h : RepC δ n S) (hv : v ≤ sN S) : RepC (sI δ 4 1 (nI v)) n (S.1, S.2.1, S.2.2.1, v, S.2.2.2.2) := by
  obtain ⟨h1, h2, h3, h4, h5, h6, h7, h8⟩ := h
  refine ⟨RC_keep h1 (fun o j ho => gsr (by omega)), by rw [gsc (by decide)]; exact h2, fun i L q => LC_keep (h3 i L q) (fun o k ho => gsr (by omega)), gss, fun j hj => by rw [gsr (by decide)]; exact h5 j (Nat.lt_of_lt_of_le hj hv), h6, fun j q hq => ?_, fun k a b => by rw [gsr (by decide)]; exact h8 k a b⟩
  obtain ⟨a1, a2⟩ := h7 j q hq
  exact ⟨by rw [gsr (by decide)]; exact a1, RC_keep a2 (fun o k ho => gsr (by omega))⟩
theorem SM_n {δ : Dm} {v : Nat} {S : St} (h : RepM δ S) (hv : v ≤ sN S) : RepM (sI δ 151 2 (nI v)) (S.1, S.2.1, S.2.2.1, v, S.2.2.2.2) := by
  obtain ⟨h1, h2, h3, h4, h5, h6, h7⟩ := h
  exact ⟨RM_row h1 (fun k => gsr (by decide)), by rw [gsc (by decide)]; exact h2, fun i L q => LM_keep (h3 i L q) (fun b k a1 a2 => gsr (by omega)), gss, fun j hj => by rw [gsr (by decide)]; exact h5 j (Nat.lt_of_lt_of_le hj hv), fun q hq => RM_row (h6 q hq) (fun k => gsr (by decide)), fun k hk => by rw [gsr (by decide)]; exact h7 k hk⟩
theorem op_end (a : Int32) : OpG (f_Fp_end a) (f_Mo_end a) := mk_op fun n S ok => by
  have hN : sN S ≤ 400 := ok.2.2.2.1
  have e : ∀ δ, RepC δ n S → f_Fp_within a 0 (gI δ 4 1) δ = some (bI (inb a (sN S + 1))) := fun δ h => by rw [h.2.2.2.1]; exact within0 (by omega)
  by_cases h1 : inb a (sN S + 1)
  · obtain ⟨v, hv, rfl⟩ := inb_ex (by omega) h1
    refine ⟨nI v, (S.1, S.2.1, S.2.2.1, v, S.2.2.2.2), fun δ h => ⟨_, ?_, SC_n h (by omega), KMs (KM.refl _) (by decide)⟩, fun δ h => ⟨_, ?_, SM_n h (by omega), KCs (KC.refl _) (by decide)⟩, ⟨ok.1, ok.2.1, ok.2.2.1, by show v ≤ 400; omega, ok.2.2.2.2⟩⟩
    · simp only [f_Fp_end, e δ h, Option.bind, ifb, if_pos h1, bnd]
    · simp only [f_Mo_end, bnd]
      rw [if_neg (nI_pos (by omega)), show gI δ 151 2 = nI (sN S) from h.2.2.2.1, if_pos (nI_le (by omega) (by omega))]
  · refine nop (-1) ok (fun δ h => ?_) (fun δ h => ?_)
    · simp only [f_Fp_end, e δ h, Option.bind, ifb, if_neg h1]
    · simp only [f_Mo_end, bnd]
      by_cases q : a < 0
      · rw [if_pos q]
      · rw [if_neg q, show gI δ 151 2 = nI (sN S) from h.2.2.2.1, if_neg]
        exact fun z => h1 ((inb1 (by omega)).mpr ⟨Int32.not_lt.mp q, z⟩)
