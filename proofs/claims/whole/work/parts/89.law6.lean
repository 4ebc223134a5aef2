/-! the class's reader: values and sums -/
theorem kq {k n : Nat} (h : k ≤ 35) (hn : n < 2147483648) : nI k = nI n ↔ k = n := nI_eq (by omega) (by omega)
theorem St_at {t : Nat} {X : Tx} {m c : Nat} {q : Qs} {δ : Dm} (h : Stt t X m c δ (.inr q)) : gI δ 7 5 = nI (kd X q.1) ∧ ∃ j, j ≤ 400 ∧ gI δ 7 4 = nI j ∧ gI δ 7 6 = nI q.2.1 ∧ q.2.1 ≤ 60 ∧ (kd X q.1 = 21 → gI δ 10 j = vl X q.1) := by
  obtain ⟨hT, h8, j, g1, g2, g3, g4, g5, g6, g7, g8, g9, g10⟩ := h
  have := hT.1
  exact ⟨g4, j, by omega, g3, g5, g7, fun z => by rw [← g2] at z ⊢; exact (hT.2.2.2.2 j g1).2.2 z⟩
theorem jp96_g {t : Nat} {X : Tx} {m c : Nat} {q : Qs} {δ : Dm} {o : Int32} (ht : isL t = true) (hc : 1 ≤ c) (h : Stt t X m c δ (.inr q)) (hu : q.2.1 < 60) (hk : kd X q.1 ≠ 34) : ∃ d, jp_Re_readValue_96 o δ = some d ∧ Stt t X m c d (.inr (nx X q.1, q.2.1 + 1, q.2.2 ++ [o])) ∧ FrE t δ d := by
  obtain ⟨t1, t2⟩ := isL_r ht
  obtain ⟨c, rfl⟩ : ∃ k, c = k + 1 := ⟨c - 1, by omega⟩
  have h1 := use_g ht h hu
  unfold jp_Re_readValue_96
  rw [bndE, h1.2.1, dR_i (by omega) (by omega)]
  simp only [ocs]
  rw [if_pos ht]
  obtain ⟨d1, e1, e2, e3⟩ := emit_g (o := o) ht h1 (Or.inr hk)
  obtain ⟨d2, e4, e5, e6⟩ := step_g ht e2 hk
  rw [e1, Option.bind_some, e4]
  exact ⟨d2, rfl, e5, fun b j q1 q2 q3 => ((e3.trans e6) b j q1 q2 q3).trans (gsr q1)⟩
theorem jp96_f {t : Nat} {X : Tx} {m c c' w : Nat} {δ : Dm} {o : Int32} (ht : isL t = true) (h : Stt t X m c δ (.inl w)) : ∃ d, jp_Re_readValue_96 o δ = some d ∧ Stt t X m c' d (.inl w) ∧ FrE t δ d := by
  obtain ⟨t1, t2⟩ := isL_r ht
  have h1 := use_f (c' := c) (v := gI δ 7 6 + 1) h
  unfold jp_Re_readValue_96
  rw [bndE, h1.2.1, dR_i (by omega) (by omega)]
  simp only [ocs]
  rw [if_pos ht]
  obtain ⟨d1, e1, e2, e3⟩ := emit_f (o := o) (c' := c) ht h1
  obtain ⟨d2, e4, e5, e6⟩ := step_f (c' := c') e2
  rw [e1, Option.bind_some, e4]
  exact ⟨d2, rfl, e5, fun b j q1 q2 q3 => ((e3.trans e6) b j q1 q2 q3).trans (gsr q1)⟩
theorem jp82_f {t : Nat} {X : Tx} {m c c' w : Nat} {δ : Dm} {o : Int32} (ht : isL t = true) (h : Stt t X m c δ (.inl w)) : ∃ d, jp_Re_readValue_82 o δ = some d ∧ Stt t X m c' d (.inl w) ∧ FrE t δ d := by
  unfold jp_Re_readValue_82
  by_cases z : gI δ 7 6 < (60 : Int32)
  · rw [if_pos z]; exact jp96_f ht h
  · rw [if_neg z]
    obtain ⟨d1, e1, e2, e3⟩ := fail_f (a1 := 3) (c' := c) h
    obtain ⟨d2, e4, e5, e6⟩ := jp96_f (o := o) (c' := c') ht e2
    rw [e1, Option.bind_some, e4]
    exact ⟨d2, rfl, e5, e3.trans e6⟩
theorem jp82_g {t : Nat} {X : Tx} {m c : Nat} {q : Qs} {δ : Dm} {o : Int32} (ht : isL t = true) (hc : 1 ≤ c) (h : Stt t X m c δ (.inr q)) (hk : kd X q.1 ≠ 34) : ∃ d, jp_Re_readValue_82 o δ = some d ∧ Stt t X m c d (if 60 ≤ q.2.1 then .inl (flw q.1 3) else .inr (nx X q.1, q.2.1 + 1, q.2.2 ++ [o])) ∧ FrE t δ d := by
  obtain ⟨-, j, -, -, k1, k2, -⟩ := St_at h
  unfold jp_Re_readValue_82
  rw [k1]
  by_cases z : 60 ≤ q.2.1
  · rw [if_neg (show ¬ nI q.2.1 < (60 : Int32) from fun w => by have := (nI_ltI (b := 60) (by omega) (by decide)).mp w; omega), if_pos z]
    obtain ⟨d1, e1, e2, e3⟩ := fail_g (why := 3) (c' := c) h (by decide)
    obtain ⟨d2, e4, e5, e6⟩ := jp96_f (o := o) (c' := c) ht e2
    rw [show (3 : Int32) = nI 3 from rfl, e1, Option.bind_some, e4]
    exact ⟨d2, rfl, e5, e3.trans e6⟩
  · rw [if_pos (show nI q.2.1 < (60 : Int32) from nI_lt (b := 60) (by omega) (by decide)), if_neg z]
    exact jp96_g ht hc h (by omega) hk
theorem readValue_C {t : Nat} {X : Tx} {m : Nat} (ht : isL t = true) : OC t X m f_Re_readValue (pV X) := fun c δ r hc h => by
  unfold f_Re_readValue
  rw [bndE]
  cases r with
  | inl w =>
    have hk := h.2.2.2.2.2
    rw [hk, if_neg (by decide), if_neg (by decide), if_neg (by decide)]
    unfold jp_Re_readValue_77
    obtain ⟨d1, e1, e2, e3⟩ := fail_f (a1 := 0) (c' := c) h
    obtain ⟨d2, e4, e5, e6⟩ := jp82_f (o := -1 - 35) (c' := c) ht e2
    rw [e1, Option.bind_some, e4]
    exact ⟨d2, rfl, e5, e3.trans e6⟩
  | inr q =>
    obtain ⟨hk, j, hj, k3, k1, k2, k4⟩ := St_at h
    have hkl := ky_le X q.1
    rw [rbd_r]
    unfold pV
    rw [hk]
    by_cases z : kd X q.1 = 21
    · rw [if_pos z, if_pos (show nI (kd X q.1) = (21 : Int32) by rw [z]; rfl), k3, if_neg (nI_pos (by omega)), if_neg (show ¬ (401 : Int32) ≤ nI j from nI_ge (a := j) (b := 401) (by omega) (by decide)), if_pos (inb_i (show j < 401 by omega) (by decide)), ixN (by omega), k4 z]
      unfold jp_Re_readValue_48
      by_cases y : vl X q.1 < 0
      · rw [if_pos y, if_neg (Int32.not_le.mpr y)]
        obtain ⟨d1, e1, e2, e3⟩ := fail_g (why := 1) (c' := c) h (by decide)
        obtain ⟨d2, e4, e5, e6⟩ := jp82_f (o := vl X q.1) (c' := c) ht e2
        rw [show (1 : Int32) = nI 1 from rfl, e1, Option.bind_some, e4]
        exact ⟨d2, rfl, e5, e3.trans e6⟩
      · rw [if_neg y, if_pos (Int32.not_lt.mp y)]
        exact jp82_g ht hc h (by omega)
    · rw [if_neg z, if_neg (show ¬ nI (kd X q.1) = (21 : Int32) from fun w => z ((kq hkl (by decide)).mp w)), if_neg (nI_pos (by omega))]
      by_cases y : kd X q.1 ≤ 8
      · rw [if_pos y, if_pos (show nI (kd X q.1) ≤ (8 : Int32) from nI_le (b := 8) y (by decide))]
        exact jp82_g ht hc h (by omega)
      · rw [if_neg y, if_neg (show ¬ nI (kd X q.1) ≤ (8 : Int32) from nI_ge (a := 8) (b := kd X q.1) (by omega) (by omega))]
        unfold jp_Re_readValue_77
        obtain ⟨d1, e1, e2, e3⟩ := fail_g (why := 0) (c' := c) h (by decide)
        obtain ⟨d2, e4, e5, e6⟩ := jp82_f (o := -1 - nI (kd X q.1)) (c' := c) ht e2
        rw [show (0 : Int32) = nI 0 from rfl, e1, Option.bind_some, e4]
        exact ⟨d2, rfl, e5, e3.trans e6⟩
