/-! end, place -/
theorem SC_n {δ : Dm} {n v : Nat} {S : St} (h : RepC δ n S) (hv : v ≤ sN S) : RepC (sI δ 4 1 (nI v)) n (S.1, S.2.1, S.2.2.1, v, S.2.2.2.2) := by
  obtain ⟨h1, h2, h3, h4, h5, h6, h7, h8⟩ := h
  refine ⟨RC_keep h1 (fun o j ho => gsr (by omega)), by rw [gsc (by decide)]; exact h2, fun i L q => LC_keep (h3 i L q) (fun o k ho => gsr (by omega)), gss, fun j hj => by rw [gsr (by decide)]; exact h5 j (Nat.lt_of_lt_of_le hj hv), h6, fun j q hq => ?_, fun k a b => by rw [gsr (by decide)]; exact h8 k a b⟩
  obtain ⟨a1, a2⟩ := h7 j q hq
  exact ⟨by rw [gsr (by decide)]; exact a1, RC_keep a2 (fun o k ho => gsr (by omega))⟩
theorem SM_n {δ : Dm} {v : Nat} {S : St} (h : RepM δ S) (hv : v ≤ sN S) : RepM (sI δ 151 2 (nI v)) (S.1, S.2.1, S.2.2.1, v, S.2.2.2.2) := by
  obtain ⟨h1, h2, h3, h4, h5, h6, h7⟩ := h
  exact ⟨RM_row h1 (fun k => gsr (by decide)), by rw [gsc (by decide)]; exact h2, fun i L q => LM_keep (h3 i L q) (fun b k a1 a2 => gsr (by omega)), gss, fun j hj => by rw [gsr (by decide)]; exact h5 j (Nat.lt_of_lt_of_le hj hv), fun q hq => RM_row (h6 q hq) (fun k => gsr (by decide)), fun k hk => by rw [gsr (by decide)]; exact h7 k hk⟩
theorem op_end (a : Int32) : OpG (f_Fp_end a) (f_Mo_end a) := mk_op fun n S ok => by
  have hN : sN S ≤ 400 := ok.2.2.2.1
  have e : ∀ δ, RepC δ n S → f_Fp_within a 0 (gI δ 4 1) δ = some (bI (inb a (sN S + 1))) := fun δ h => by rw [h.2.2.2.1]; exact within0 (by omega)
  by_cases h1 : inb a (sN S + 1)
  · obtain ⟨v, hv, rfl⟩ := inb_ex (by omega) h1
    refine ⟨nI v, (S.1, S.2.1, S.2.2.1, v, S.2.2.2.2), fun δ h => ⟨_, ?_, SC_n h (by omega), KMs (KM.refl _) (by decide)⟩, fun δ h => ⟨_, ?_, SM_n h (by omega), KCs (KC.refl _) (by decide)⟩, ⟨ok.1, ok.2.1, ok.2.2.1, by show v ≤ 400; omega, ok.2.2.2.2⟩⟩
    · simp only [f_Fp_end, e δ h, Option.bind, ifb, if_pos h1, bnd]
    · simp only [f_Mo_end, bnd]
      rw [if_neg (nI_pos (by omega)), show gI δ 151 2 = nI (sN S) from h.2.2.2.1, if_pos (nI_le (by omega) (by omega))]
  · refine nop (-1) ok (fun δ h => ?_) (fun δ h => ?_)
    · simp only [f_Fp_end, e δ h, Option.bind, ifb, if_neg h1]
    · simp only [f_Mo_end, bnd]
      by_cases q : a < 0
      · rw [if_pos q]
      · rw [if_neg q, show gI δ 151 2 = nI (sN S) from h.2.2.2.1, if_neg]
        exact fun z => h1 ((inb1 (by omega)).mpr ⟨Int32.not_lt.mp q, z⟩)
theorem setG_id {S : St} {i v : Nat} (h : S.1.1 i = v) : setG S i v = S := by
  have : up S.1.1 i v = S.1.1 := by
    funext k
    by_cases q : k = i
    · subst q; rw [up_s, h]
    · exact up_n q
  unfold setG; rw [this]
theorem zM {δ : Dm} {S : St} {i : Nat} (hi : dom i ∨ (726 ≤ i ∧ i < 3926)) (hl : okL S) (hz : S.1.1 i = 0) (h : RepM δ S) : RepM (sI δ 152 i 0) S := by
  have q := SM_up (v := 0) hi hl h
  rw [setG_id hz] at q
  exact q
theorem ok_place {nl p : Nat} {T : Tw} (h : okT nl T) (hp : T.1 1 = p) (h12 : p < 12) : okT nl (up T.1 1 (p + 1), T.2) := by
  obtain ⟨G, R⟩ := T
  obtain ⟨o1, ⟨g1, g2, g3, g4⟩, o3, o4, o5, o6⟩ := h
  have hp : G 1 = p := hp
  have en : ∀ k, k ≠ 1 → up G 1 (p + 1) k = G k := fun k hk => up_n hk
  have e1 : up G 1 (p + 1) 1 = p + 1 := up_s
  have eb : ∀ b w, bc (up G 1 (p + 1)) b w = bc G b w := fun b w => en _ (by omega)
  refine ⟨?_, ⟨fun d hd => ?_, fun d hd => ?_, fun x y hx hy => ?_, fun b q m hb hq hm => ?_⟩, fun b hb => ?_, ?_, ?_, ?_⟩
  · obtain ⟨s1, s2, s3, s4⟩ := o1
    unfold okS
    simp only [en 0 (by decide), en 2 (by decide), en 3 (by decide), en 4 (by decide), en 5 (by decide), en 6 (by decide), e1]
    exact ⟨s1, by omega, s3, s4⟩
  · show up G 1 (p + 1) _ ≤ 40
    rw [en _ (by omega)]; exact g1 d hd
  · show up G 1 (p + 1) _ ≤ 99
    rw [en _ (by omega)]; exact g2 d hd
  · show up G 1 (p + 1) _ ≤ 999 ∧ (up G 1 (p + 1) 1 ≤ x ∨ up G 1 (p + 1) 1 ≤ y → up G 1 (p + 1) _ = 0)
    rw [en _ (by omega), e1]
    obtain ⟨q1, q2⟩ := g3 x y hx hy
    exact ⟨q1, fun z => q2 (by show G 1 ≤ x ∨ G 1 ≤ y; omega)⟩
  · show up G 1 (p + 1) _ ≤ 9999 ∧ (up G 1 (p + 1) 1 ≤ q → up G 1 (p + 1) _ = 0)
    rw [en _ (by omega), e1]
    obtain ⟨q1, q2⟩ := g4 b q m hb hq hm
    exact ⟨q1, fun z => q2 (by show G 1 ≤ q; omega)⟩
  · have hb : b < G 2 := by rw [← en 2 (by decide)]; exact hb
    obtain ⟨a1, a2, a3⟩ := o3 b hb
    have a1 : bc G b 0 < G 1 := a1
    simp only [eb, en 0 (by decide), en 2 (by decide), en 4 (by decide), e1]
    exact ⟨by omega, a2, a3⟩
  · unfold okE at *
    simp only [eb, en 0 (by decide), en 2 (by decide)]
    exact o4
  · unfold okH at *
    simp only [eb, en 0 (by decide), en 2 (by decide)]
    exact ⟨o5.1, fun b d hb h1 h2 => by rw [en _ (by omega)]; exact o5.2 b d hb h1 h2⟩
  · unfold okP at *
    simp only [en 0 (by decide), en 2 (by decide)]
    exact o6
theorem op_place (a : Int32) : OpG (f_Fp_place a) (f_Mo_place a) := mk_op fun n S ok => by
  have k12 : S.1.1 1 ≤ 12 := ok.1.1.2.1
  have i1 : f_Mo_in a.toInt64 0 99 = fun δ => some (bI (nI 0 ≤ a ∧ a ≤ nI 99)) := funext fun δ => il (show 0 < 2147483648 by decide) (show 99 < 2147483648 by decide)
  by_cases h1 : S.1.1 1 = 12
  · refine nop (-1) ok (fun δ h => ?_) (fun δ h => ?_)
    · unfold f_Fp_place
      rw [(cG h.1).2.1, show (sT S).1 1 = 12 from h1, if_pos (by decide)]
    · unfold f_Mo_place
      rw [if_pos (show inb (1 : Int32) 8918 by decide), show ix (1 : Int32) = 1 from rfl, (mS h.1).2.1, show (sT S).1 1 = 12 from h1, if_pos (show nI 12 = 12 from rfl)]
  · by_cases h2 : nI 0 ≤ a ∧ a ≤ nI 99
    · obtain ⟨v, -, hv, rfl⟩ := low_i (by decide) h2 (by decide)
      obtain ⟨p, hp⟩ : ∃ p, S.1.1 1 = p := ⟨_, rfl⟩
      have hp12 : p < 12 := by omega
      have d1 := dom_l hp12
      have ok1 : Ok (setG S (410 + p) v) := Ok_s ok (ok_G (Or.inl (by omega)) ok.1 (okG_light hp12 hv ok.1.2.1))
      have e1 : (setG S (410 + p) v).1.1 1 = p := (sG_n (by omega)).trans hp
      have ok2 : Ok (setG (setG S (410 + p) v) 1 (p + 1)) := Ok_s ok1 (ok_place ok1.1 e1 hp12)
      refine ⟨nI p, setG (setG S (410 + p) v) 1 (p + 1), fun δ h => ⟨sI (sI δ 31 p (nI v)) 29 1 (nI (p + 1)), ?_, uC 29 1 1 (p + 1) (Or.inl (by decide)) rfl rfl ok.2.1 (uC _ _ _ v d1.1 (by rw [d1.2.1]) d1.2.2.symm ok.2.1 h), KMs (KMs (KM.refl _) (by decide)) (by decide)⟩, fun δ h => ?_, ok2⟩
      · simp only [f_Fp_place, wl, Option.bind, ifb, if_pos h2, bnd]
        rw [show gI δ 29 1 = nI p from hp ▸ (cG h.1).2.1, if_neg (show ¬ (12 : Int32) ≤ nI p from nI_ge hp12 (by decide)), put_in (show (KD 31).2 = 12 by decide) hp12]
        simp only [gss, gsr (show (29 : Nat) ≠ 31 by decide)]
        rw [show gI δ 29 1 = nI p from hp ▸ (cG h.1).2.1, nI_1, show nI (p + 1) - 1 = nI p from nI_pred p]
      · have g1 : gI δ 152 1 = nI p := hp ▸ (mS h.1).2.1
        have hM1 : RepM (sI δ 152 (410 + p) (nI v)) (setG S (410 + p) v) := SM_up (Or.inl d1.1) (okL_of ok) h
        unfold f_Mo_place bnd
        rw [if_pos (show inb (1 : Int32) 8918 by decide), show ix (1 : Int32) = 1 from rfl, g1, if_neg (show ¬ nI p = 12 from fun z => by have := (nI_eq (b := 12) (by omega) (by decide)).mp z; omega), i1]
        simp only [Option.bind, ifb, if_pos h2]
        rw [if_pos (show inb (1 : Int32) 8918 by decide), show (410 : Int32) + nI p = nI (410 + p) from nI_add 410 p, if_pos (inb_i (by omega) (by decide)), ixN (by omega)]
        refine for_inv (fun f i d => lp_Mo_place_45 _ (nI v) (nI p) f i d) 12 (by decide) (fun _ d => RepM d (setG S (410 + p) v) ∧ KC δ d) (fun r => ∃ δ2, r = some (nI p, δ2) ∧ RepM δ2 (setG (setG S (410 + p) v) 1 (p + 1)) ∧ KC δ δ2) (fun f i d hi hI => ?_) (fun f d hI => ?_) 0 _ (by decide) ⟨hM1, KCs (KC.refl _) (by decide)⟩
        · have z1 := (ok1.1.2.1.2.2.1 p i hp12 hi).2 (Or.inl (by show (setG S (410 + p) v).1.1 1 ≤ p; omega))
          have z2 := (ok1.1.2.1.2.2.1 i p hi hp12).2 (Or.inr (by show (setG S (410 + p) v).1.1 1 ≤ p; omega))
          refine ⟨sI (sI d 152 (422 + (12 * p + i)) 0) 152 (422 + (12 * i + p)) 0, ⟨zM (Or.inl (dom_r (by omega)).1) (okL_of ok1) z2 (zM (Or.inl (dom_r (by omega)).1) (okL_of ok1) z1 hI.1), KCs (KCs hI.2 (by decide)) (by decide)⟩, ?_⟩
          simp only [lp_Mo_place_45, bnd]
          rw [if_neg (show ¬ (12 : Int32) ≤ nI i from nI_ge hi (by decide)), show ((422 : Int32) + ((12 : Int32) * nI p)) + nI i = nI (422 + (12 * p + i)) by rw [lit, lit, pk_mul, nI_add, nI_add]; exact congrArg nI (by omega), show ((422 : Int32) + ((12 : Int32) * nI i)) + nI p = nI (422 + (12 * i + p)) by rw [lit, lit, pk_mul, nI_add, nI_add]; exact congrArg nI (by omega), if_pos (inb_i (by omega) (by decide)), if_pos (inb_i (by omega) (by decide)), ixN (by omega), ixN (by omega), nI_1]
        · simp only [lp_Mo_place_45]
          rw [if_pos (show (12 : Int32) ≤ nI 12 by decide)]
          refine for_inv (fun f i d => lp_Mo_place_91 _ (nI v) (nI p) f i d) 8 (by decide) (fun _ d => RepM d (setG S (410 + p) v) ∧ KC δ d) (fun r => ∃ δ2, r = some (nI p, δ2) ∧ RepM δ2 (setG (setG S (410 + p) v) 1 (p + 1)) ∧ KC δ δ2) (fun f i d hi hI => ?_) (fun f d hI => ?_) 0 _ (by decide) hI
          · have z1 := (ok1.1.2.1.2.2.2 i p 0 hi hp12 (by decide)).2 (by show (setG S (410 + p) v).1.1 1 ≤ p; omega)
            have z2 := (ok1.1.2.1.2.2.2 i p 1 hi hp12 (by decide)).2 (by show (setG S (410 + p) v).1.1 1 ≤ p; omega)
            refine ⟨sI (sI d 152 (8726 + (2 * (12 * i + p) + 0)) 0) 152 (8726 + (2 * (12 * i + p) + 1)) 0, ⟨zM (Or.inl (dom_t hi hp12 (by decide)).1) (okL_of ok1) z2 (zM (Or.inl (dom_t hi hp12 (by decide)).1) (okL_of ok1) z1 hI.1), KCs (KCs hI.2 (by decide)) (by decide)⟩, ?_⟩
            simp only [lp_Mo_place_91, bnd]
            rw [if_neg (show ¬ (8 : Int32) ≤ nI i from nI_ge hi (by decide)), show (8726 : Int32) + ((2 : Int32) * (((12 : Int32) * nI i) + nI p)) = nI (8726 + (2 * (12 * i + p) + 0)) by rw [lit, lit, lit, pk_mul, nI_add, pk_mul, nI_add]; rfl, nI_1, if_pos (inb_i (by omega) (by decide)), if_pos (inb_i (by omega) (by decide)), ixN (by omega), ixN (by omega), nI_1]
            rfl
          · simp only [lp_Mo_place_91]
            rw [if_pos (show (8 : Int32) ≤ nI 8 by decide), if_pos (show inb (1 : Int32) 8918 by decide), if_pos (show inb (1 : Int32) 8918 by decide), (mS hI.1.1).2.1, show (sT (setG S (410 + p) v)).1 1 = p from e1, nI_1]
            exact ⟨_, rfl, SM_up (Or.inl (Or.inl (by decide))) (okL_of ok1) hI.1, KCs hI.2 (by decide)⟩
    · refine nop (-1) ok (fun δ h => ?_) (fun δ h => ?_)
      · simp only [f_Fp_place, wl, Option.bind, ifb, if_neg h2]
        split <;> rfl
      · simp only [f_Mo_place, i1, Option.bind, ifb, if_neg h2]
        rw [if_pos (show inb (1 : Int32) 8918 by decide)]
        split <;> rfl
