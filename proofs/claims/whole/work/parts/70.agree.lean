/-! agree -/
def ltP (l : List Ev) (P : Ev → Bool) : Nat → Option (Nat × Ev)
  | 0 => none
  | i + 1 => match l[i]? with
    | none => ltP l P i
    | some x => if P x = true then (match ltP l P i with
      | none => some (i, x)
      | some q => if x 1 < q.2 1 then some q else some (i, x)) else ltP l P i
theorem ltP_m {l : List Ev} {P : Ev → Bool} : ∀ i q, ltP l P i = some q → l[q.1]? = some q.2 ∧ q.1 < i ∧ P q.2 = true := by
  intro i
  induction i with
  | zero => intro q h; cases h
  | succ i ih =>
    intro q h
    rw [ltP] at h
    cases hx : l[i]? with
    | none =>
      rw [hx] at h
      obtain ⟨a, b, c⟩ := ih q h
      exact ⟨a, by omega, c⟩
    | some x =>
      rw [hx] at h
      have h : (if P x = true then (match ltP l P i with | none => some (i, x) | some q => if x 1 < q.2 1 then some q else some (i, x)) else ltP l P i) = some q := h
      by_cases p : P x = true
      · rw [if_pos p] at h
        cases hc : ltP l P i with
        | none =>
          rw [hc] at h
          have := Option.some.inj h
          rw [← this]; exact ⟨hx, Nat.lt_succ_self i, p⟩
        | some r =>
          rw [hc] at h
          obtain ⟨a, b, c⟩ := ih r hc
          have h : (if x 1 < r.2 1 then some r else some (i, x)) = some q := h
          by_cases z : x 1 < r.2 1
          · rw [if_pos z] at h
            have := Option.some.inj h
            rw [← this]; exact ⟨a, by omega, c⟩
          · rw [if_neg z] at h
            have := Option.some.inj h
            rw [← this]; exact ⟨hx, Nat.lt_succ_self i, p⟩
      · rw [if_neg p] at h
        obtain ⟨a, b, c⟩ := ih q h
        exact ⟨a, by omega, c⟩
def fitP (a b c : Int32) (x : Ev) : Bool := decide (nI (x 0) = a) && (decide (nI (x 4) ≤ b) && decide (nI (x 1) < c))
theorem fitP_i {a b c : Int32} {x : Ev} : fitP a b c x = true ↔ nI (x 0) = a ∧ nI (x 4) ≤ b ∧ nI (x 1) < c := by unfold fitP; simp
abbrev rds (S : St) : List Ev := tR S.1
theorem rds_n {S : St} (ok : Ok S) : S.1.1 5 = (rds S).length ∧ (rds S).length ≤ 100 := by
  have h := ok.1.1.2.2.2.2.2.2.2.1
  have h2 := ok.1.1.2.2.2.2.2.2.2.2.1
  have h : S.1.1 5 = (rds S).length := h
  have h2 : S.1.1 5 ≤ 100 := h2
  exact ⟨h, by omega⟩
theorem rds_m {S : St} {k : Nat} {x : Ev} (ok : Ok S) (hx : (rds S)[k]? = some x) : x 0 < S.1.1 2 ∧ x 1 ≤ S.1.1 0 ∧ x 2 ≤ 99999 ∧ x 3 ≤ 99999999 ∧ x 4 ≤ S.1.1 0 := ok.1.2.2.2.2.2.1 x (List.mem_of_getElem? hx)
theorem latC {n : Nat} {a b c : Int32} {δ : Dm} {S : St} (h : RepC δ n S) (ok : Ok S) : f_Po_latestReading a b c δ = some (match ltP (rds S) (fitP a b c) (rds S).length with | none => -1 | some q => nI q.1) := by
  obtain ⟨r1, r2⟩ := rds_n ok
  have k0 : S.1.1 0 < 400 := ok.1.1.1
  have g : gI δ 45 0 = nI (rds S).length := by rw [← r1]; exact (cG h.1).2.2.2.2.2.1
  unfold f_Po_latestReading
  refine for_inv (fun f i (v : Int32 × Int32) => lp_Po_latestReading_9 (fun v4_9x v5_9x v6_9x => (some v4_9x)) a b c δ f v.1 v.2 i) (rds S).length (by omega) (fun i v => v.1 = (match ltP (rds S) (fitP a b c) i with | none => -1 | some q => nI q.1) ∧ v.2 = (match ltP (rds S) (fitP a b c) i with | none => 0 | some q => nI (q.2 1))) (fun r => r = some (match ltP (rds S) (fitP a b c) (rds S).length with | none => -1 | some q => nI q.1)) (fun f i v hi hI => ?_) (fun f v hI => ?_) 0 (-1, 0) (Nat.zero_le _) ⟨rfl, rfl⟩
  · obtain ⟨v4, v5⟩ := v
    obtain ⟨i1, i2⟩ := hI
    have i1 : v4 = _ := i1
    have i2 : v5 = _ := i2
    obtain ⟨x, hx⟩ : ∃ x, (rds S)[i]? = some x := ⟨_, List.getElem?_eq_getElem hi⟩
    obtain ⟨m0, m1, m2, m3, m4⟩ := rds_m ok hx
    have gx : ∀ j, j < 5 → gI δ (29 + 17 + j) i = nI (x j) := fun j hj => h.1.2.2.2.2.1 i x hx j hj
    have g0 : gI δ 46 i = nI (x 0) := gx 0 (by decide)
    have g1 : gI δ 47 i = nI (x 1) := gx 1 (by decide)
    have g4 : gI δ 50 i = nI (x 4) := gx 4 (by decide)
    have e : ltP (rds S) (fitP a b c) (i + 1) = if fitP a b c x = true then (match ltP (rds S) (fitP a b c) i with | none => some (i, x) | some q => if x 1 < q.2 1 then some q else some (i, x)) else ltP (rds S) (fitP a b c) i := by
      rw [ltP, hx]
    simp only [lp_Po_latestReading_9, jp_Po_latestReading_65, jp_Po_latestReading_66]
    rw [g, if_neg (nI_ge hi (by omega)), get_in (show (KD 47).2 = 100 by decide) (by omega), g1, Option.bind_some, get_in (show (KD 46).2 = 100 by decide) (by omega), g0, Option.bind_some, if_pos True.intro, nI_1]
    have keep : ¬ fitP a b c x = true → ∃ a' : Int32 × Int32, (a'.1 = (match ltP (rds S) (fitP a b c) (i + 1) with | none => -1 | some q => nI q.1) ∧ a'.2 = (match ltP (rds S) (fitP a b c) (i + 1) with | none => 0 | some q => nI (q.2 1))) ∧ lp_Po_latestReading_9 (fun v4_9x v5_9x v6_9x => (some v4_9x)) a b c δ f v4 v5 (nI (i + 1)) = lp_Po_latestReading_9 (fun v4_9x v5_9x v6_9x => (some v4_9x)) a b c δ f a'.1 a'.2 (nI (i + 1)) := fun z => by
      rw [if_neg z] at e
      rw [e]
      exact ⟨(v4, v5), ⟨i1, i2⟩, rfl⟩
    by_cases q0 : nI (x 0) = a
    · rw [if_pos q0, get_in (show (KD 50).2 = 100 by decide) (by omega), g4, Option.bind_some]
      by_cases q1 : nI (x 4) ≤ b
      · rw [if_neg (Int32.not_lt.mpr q1)]
        by_cases q2 : nI (x 1) < c
        · rw [if_neg (Int32.not_le.mpr q2), if_neg (show ¬ (1 : Int32) = 0 by decide)]
          rw [if_pos (fitP_i.mpr ⟨q0, q1, q2⟩)] at e
          cases hc : ltP (rds S) (fitP a b c) i with
          | none =>
            rw [hc] at i2 e
            have i2 : v5 = 0 := i2
            rw [i2, if_neg (nI_pos (by omega))]
            exact ⟨(nI i, nI (x 1)), by rw [e]; exact ⟨rfl, rfl⟩, rfl⟩
          | some r =>
            rw [hc] at i1 i2 e
            have i2 : v5 = nI (r.2 1) := i2
            have i1 : v4 = nI r.1 := i1
            obtain ⟨p1, p2, p3⟩ := ltP_m i r hc
            have := (rds_m ok p1).2.1
            have e : ltP (rds S) (fitP a b c) (i + 1) = if x 1 < r.2 1 then some r else some (i, x) := e
            by_cases z : x 1 < r.2 1
            · rw [if_pos z] at e
              rw [i2, if_pos (nI_lt z (by omega))]
              exact ⟨(v4, nI (r.2 1)), by rw [e]; exact ⟨i1, rfl⟩, rfl⟩
            · rw [if_neg z] at e
              rw [i2, if_neg (nI_nlt (by omega) (by omega))]
              exact ⟨(nI i, nI (x 1)), by rw [e]; exact ⟨rfl, rfl⟩, rfl⟩
        · rw [if_pos (Int32.not_lt.mp q2)]
          exact keep (fun z => q2 (fitP_i.mp z).2.2)
      · rw [if_pos (Int32.not_le.mp q1)]
        exact keep (fun z => q1 (fitP_i.mp z).2.1)
    · rw [if_neg q0]
      exact keep (fun z => q0 (fitP_i.mp z).1)
  · simp only [lp_Po_latestReading_9]
    rw [g, if_pos (nI_le (Nat.le_refl _) (by omega)), hI.1]
theorem mRd {k j : Nat} {δ : Dm} {S : St} {x : Ev} (h : RepM δ S) (hx : (rds S)[k]? = some x) (hj : j < 5) : gI δ 152 (7926 + 5 * k + j) = nI (x j) := by
  have := h.1.2.2.2.1 k x hx j hj
  rw [Nat.zero_add] at this; exact this
theorem latM {a b c : Int32} {δ : Dm} {S : St} (h : RepM δ S) (ok : Ok S) : f_Mo_latest a b c δ = some (match ltP (rds S) (fitP a b c) (rds S).length with | none => -1 | some q => nI (7926 + 5 * q.1)) := by
  obtain ⟨r1, r2⟩ := rds_n ok
  have k0 : S.1.1 0 < 400 := ok.1.1.1
  have g : gI δ 152 5 = nI (rds S).length := by rw [← r1]; exact (mS h.1).2.2.2.2.2.1
  unfold f_Mo_latest
  refine for_inv (fun f i (v : Int32) => lp_Mo_latest_6 (fun v4_6x v5_6x => (some v4_6x)) a b c δ f v i) (rds S).length (by omega) (fun i v => v = (match ltP (rds S) (fitP a b c) i with | none => -1 | some q => nI (7926 + 5 * q.1))) (fun r => r = some (match ltP (rds S) (fitP a b c) (rds S).length with | none => -1 | some q => nI (7926 + 5 * q.1))) (fun f i v hi hI => ?_) (fun f v hI => ?_) 0 (-1) (Nat.zero_le _) rfl
  · obtain ⟨x, hx⟩ : ∃ x, (rds S)[i]? = some x := ⟨_, List.getElem?_eq_getElem hi⟩
    obtain ⟨m0, m1, m2, m3, m4⟩ := rds_m ok hx
    have g0 : gI δ 152 (7926 + 5 * i) = nI (x 0) := mRd (j := 0) h hx (by decide)
    have g1 : gI δ 152 (7926 + 5 * i + 1) = nI (x 1) := mRd (j := 1) h hx (by decide)
    have g4 : gI δ 152 (7926 + 5 * i + 4) = nI (x 4) := mRd (j := 4) h hx (by decide)
    have e : ltP (rds S) (fitP a b c) (i + 1) = if fitP a b c x = true then (match ltP (rds S) (fitP a b c) i with | none => some (i, x) | some q => if x 1 < q.2 1 then some q else some (i, x)) else ltP (rds S) (fitP a b c) i := by
      rw [ltP, hx]
    simp only [lp_Mo_latest_6, j5, x5, bndE]
    rw [g, if_neg (nI_ge hi (by omega)), show (7926 : Int32) + ((5 : Int32) * nI i) = nI (7926 + 5 * i) by rw [lit, lit, pk_mul, nI_add], if_pos (inb_i (by omega) (by decide)), ixN (show 7926 + 5 * i < 2147483648 by omega), g0, show nI (7926 + 5 * i) + 4 = nI (7926 + 5 * i + 4) from nI_add _ 4, show nI (7926 + 5 * i) + 1 = nI (7926 + 5 * i + 1) from nI_1 _, if_pos (inb_i (show 7926 + 5 * i + 4 < 8918 by omega) (by decide)), ixN (show 7926 + 5 * i + 4 < 2147483648 by omega), g4, if_pos (inb_i (show 7926 + 5 * i + 1 < 8918 by omega) (by decide)), ixN (show 7926 + 5 * i + 1 < 2147483648 by omega), g1, nI_1]
    have keep : ¬ fitP a b c x = true → ∃ a' : Int32, (a' = (match ltP (rds S) (fitP a b c) (i + 1) with | none => -1 | some q => nI (7926 + 5 * q.1))) ∧ lp_Mo_latest_6 (fun v4_6x v5_6x => (some v4_6x)) a b c δ f v (nI (i + 1)) = lp_Mo_latest_6 (fun v4_6x v5_6x => (some v4_6x)) a b c δ f a' (nI (i + 1)) := fun z => by
      rw [if_neg z] at e
      rw [e]
      exact ⟨v, hI, rfl⟩
    by_cases q0 : nI (x 0) = a
    · rw [if_pos q0]
      by_cases q1 : nI (x 4) ≤ b
      · rw [if_neg (Int32.not_lt.mpr q1)]
        by_cases q2 : nI (x 1) < c
        · rw [if_pos q2]
          rw [if_pos (fitP_i.mpr ⟨q0, q1, q2⟩)] at e
          cases hc : ltP (rds S) (fitP a b c) i with
          | none =>
            rw [hc] at hI e
            have hI : v = -1 := hI
            rw [hI, if_pos (show (-1 : Int32) < 0 by decide)]
            exact ⟨nI (7926 + 5 * i), by rw [e], rfl⟩
          | some r =>
            rw [hc] at hI e
            have hI : v = nI (7926 + 5 * r.1) := hI
            obtain ⟨p1, p2, p3⟩ := ltP_m i r hc
            have := (rds_m ok p1).2.1
            have gr : gI δ 152 (7926 + 5 * r.1 + 1) = nI (r.2 1) := mRd (j := 1) h p1 (by decide)
            have e : ltP (rds S) (fitP a b c) (i + 1) = if x 1 < r.2 1 then some r else some (i, x) := e
            rw [hI, if_neg (nI_pos (show 7926 + 5 * r.1 < 2147483648 by omega)), if_pos (inb_i (show 7926 + 5 * i + 1 < 8918 by omega) (by decide)), show nI (7926 + 5 * r.1) + 1 = nI (7926 + 5 * r.1 + 1) from nI_1 _, if_pos (inb_i (show 7926 + 5 * r.1 + 1 < 8918 by omega) (by decide)), ixN (show 7926 + 5 * r.1 + 1 < 2147483648 by omega), gr]
            by_cases z : x 1 < r.2 1
            · rw [if_pos z] at e
              rw [if_pos (nI_lt z (by omega))]
              exact ⟨nI (7926 + 5 * r.1), by rw [e], rfl⟩
            · rw [if_neg z] at e
              rw [if_neg (nI_nlt (by omega) (by omega))]
              exact ⟨nI (7926 + 5 * i), by rw [e], rfl⟩
        · rw [if_neg q2]
          exact keep (fun z => q2 (fitP_i.mp z).2.2)
      · rw [if_pos (Int32.not_le.mp q1)]
        exact keep (fun z => q1 (fitP_i.mp z).2.1)
    · rw [if_neg q0]
      exact keep (fun z => q0 (fitP_i.mp z).1)
  · simp only [lp_Mo_latest_6, j5, x5]
    rw [g, if_pos (nI_le (Nat.le_refl _) (by omega)), hI]
theorem op_agree (a1 a2 a3 : Int32) : OpP (f_Fp_agree a1 a2 a3) (f_Mo_agree a1 a2 a3) := by
  intro δ n S ⟨hC, hM, ok⟩
  have k8 : S.1.1 2 ≤ 8 := ok.1.1.2.2.1
  have k0 : S.1.1 0 < 400 := ok.1.1.1
  obtain ⟨r1, r2⟩ := rds_n ok
  have b1 : f_To_boothAt a1 δ = some (if inb a1 (S.1.1 2) then some (54 + 4 * ix a1) else none) := boothAt_eq k8 (cG hC.1).2.2.1
  have b2 : f_Mo_isBooth a1 δ = some (bI (inb a1 (S.1.1 2))) := isBooth_eq (by omega) (mS hM.1).2.2.1
  by_cases h1 : inb a1 (S.1.1 2)
  · obtain ⟨b, hb, rfl⟩ := inb_ex (by omega) h1
    by_cases h2 : inb a2 400
    · by_cases h3 : nI 0 ≤ a3 ∧ a3 ≤ nI 1
      · unfold f_Fp_agree f_Mo_agree
        rw [b1, b2, if_pos h1, ixN (show b < 2147483648 by omega)]
        simp only [Option.bind_some, ocs, if_pos (isB_at b (show b < 8 by omega)).1, isDay_eq, isDayM_eq, ifb, if_pos h1, if_pos h2, wl, il (show 0 < 2147483648 by decide) (show 1 < 2147483648 by decide), if_pos h3]
        rw [latC hC ok, latM hM ok, Option.bind_some, Option.bind_some]
        cases hl : ltP (rds S) (fitP (nI b) a2 400) (rds S).length with
        | none =>
          refine ⟨-1000000000, ?_, ?_⟩
          · rw [if_pos (show (-1 : Int32) = -1 from rfl)]
          · simp only [jp_Mo_agree_64]
            rw [if_neg (show ¬ (0 : Int32) ≤ -1 by decide), if_neg (show ¬ (0 : Int32) ≤ -1 by decide)]
        | some q =>
          obtain ⟨p1, p2, p3⟩ := ltP_m _ q hl
          have mq := rds_m ok p1
          have gq : ∀ j, j < 5 → gI δ (29 + 17 + j) q.1 = nI (q.2 j) := fun j hj => hC.1.2.2.2.2.1 q.1 q.2 p1 j hj
          have g47 : gI δ 47 q.1 = nI (q.2 1) := gq 1 (by decide)
          have g48 : gI δ 48 q.1 = nI (q.2 2) := gq 2 (by decide)
          have g49 : gI δ 49 q.1 = nI (q.2 3) := gq 3 (by decide)
          have n1 : gI δ 152 (7926 + 5 * q.1 + 1) = nI (q.2 1) := mRd hM p1 (by decide)
          have n2 : gI δ 152 (7926 + 5 * q.1 + 2) = nI (q.2 2) := mRd hM p1 (by decide)
          have n3 : gI δ 152 (7926 + 5 * q.1 + 3) = nI (q.2 3) := mRd hM p1 (by decide)
          dsimp only
          rw [if_neg (nI_nm1 (show q.1 < 2147483648 by omega)), get_in (show (KD 47).2 = 100 by decide) (by omega), g47, Option.bind_some, latC hC ok, Option.bind_some]
          rw [if_pos (nI_pos' (show 7926 + 5 * q.1 < 2147483648 by omega)), show nI (7926 + 5 * q.1) + 1 = nI (7926 + 5 * q.1 + 1) from nI_1 _, if_pos (inb_i (show 7926 + 5 * q.1 + 1 < 8918 by omega) (by decide)), ixN (show 7926 + 5 * q.1 + 1 < 2147483648 by omega), n1, latM hM ok, Option.bind_some]
          unfold jp_Mo_agree_64
          cases hl2 : ltP (rds S) (fitP (nI b) a2 (nI (q.2 1))) (rds S).length with
          | none =>
            refine ⟨-1000000000, ?_, ?_⟩
            · rw [if_pos (show (-1 : Int32) = -1 from rfl)]
            · rw [if_neg (show ¬ (0 : Int32) ≤ -1 by decide)]
          | some r =>
            obtain ⟨s1, s2, s3⟩ := ltP_m _ r hl2
            have mr := rds_m ok s1
            have gr : ∀ j, j < 5 → gI δ (29 + 17 + j) r.1 = nI (r.2 j) := fun j hj => hC.1.2.2.2.2.1 r.1 r.2 s1 j hj
            have h47 : gI δ 47 r.1 = nI (r.2 1) := gr 1 (by decide)
            have h48 : gI δ 48 r.1 = nI (r.2 2) := gr 2 (by decide)
            have h49 : gI δ 49 r.1 = nI (r.2 3) := gr 3 (by decide)
            have l1 : gI δ 152 (7926 + 5 * r.1 + 1) = nI (r.2 1) := mRd hM s1 (by decide)
            have l2 : gI δ 152 (7926 + 5 * r.1 + 2) = nI (r.2 2) := mRd hM s1 (by decide)
            have l3 : gI δ 152 (7926 + 5 * r.1 + 3) = nI (r.2 3) := mRd hM s1 (by decide)
            dsimp only
            rw [if_neg (nI_nm1 (show r.1 < 2147483648 by omega)), get_in (show (KD 47).2 = 100 by decide) (by omega), h47, Option.bind_some, stripsIn_eq hC ok, Option.bind_some]
            rw [if_pos (nI_pos' (show 7926 + 5 * r.1 < 2147483648 by omega)), show nI (7926 + 5 * r.1) + 1 = nI (7926 + 5 * r.1 + 1) from nI_1 _, show nI (7926 + 5 * q.1) + 1 = nI (7926 + 5 * q.1 + 1) from nI_1 _, if_pos (inb_i (show 7926 + 5 * r.1 + 1 < 8918 by omega) (by decide)), if_pos (inb_i (show 7926 + 5 * q.1 + 1 < 8918 by omega) (by decide)), ixN (show 7926 + 5 * r.1 + 1 < 2147483648 by omega), ixN (show 7926 + 5 * q.1 + 1 < 2147483648 by omega), l1, n1, stripsOn_eq hM ok, Option.bind_some]
            by_cases z : a3 = 0
            · rw [if_pos z, if_pos z]
              rw [get_in (show (KD 48).2 = 100 by decide) (by omega), g48, Option.bind_some, get_in (show (KD 48).2 = 100 by decide) (by omega), h48, Option.bind_some]
              rw [show nI (7926 + 5 * q.1) + 2 = nI (7926 + 5 * q.1 + 2) from nI_add _ 2, show nI (7926 + 5 * r.1) + 2 = nI (7926 + 5 * r.1 + 2) from nI_add _ 2, if_pos (inb_i (show 7926 + 5 * q.1 + 2 < 8918 by omega) (by decide)), if_pos (inb_i (show 7926 + 5 * r.1 + 2 < 8918 by omega) (by decide)), ixN (show 7926 + 5 * q.1 + 2 < 2147483648 by omega), ixN (show 7926 + 5 * r.1 + 2 < 2147483648 by omega), n2, l2]
              exact ⟨_, rfl, rfl⟩
            · rw [if_neg z, if_neg z]
              rw [get_in (show (KD 49).2 = 100 by decide) (by omega), g49, Option.bind_some, get_in (show (KD 49).2 = 100 by decide) (by omega), h49, Option.bind_some, cBs 1 1 rfl hC (show b < 8 by omega) (by decide) (by decide)]
              rw [show nI (7926 + 5 * q.1) + 3 = nI (7926 + 5 * q.1 + 3) from nI_add _ 3, show nI (7926 + 5 * r.1) + 3 = nI (7926 + 5 * r.1 + 3) from nI_add _ 3, if_pos (inb_i (show 7926 + 5 * q.1 + 3 < 8918 by omega) (by decide)), if_pos (inb_i (show 7926 + 5 * r.1 + 3 < 8918 by omega) (by decide)), ixN (show 7926 + 5 * q.1 + 3 < 2147483648 by omega), ixN (show 7926 + 5 * r.1 + 3 < 2147483648 by omega), n3, l3, show f_Mo_cell (nI b) 1 δ = _ from rW (w := 1) (RGM_of hM.1) (show b < 8 by omega) (by decide), Option.bind_some]
              exact ⟨_, rfl, rfl⟩
      · refine ⟨-2000000000, ?_, ?_⟩
        · unfold f_Fp_agree
          rw [b1, if_pos h1, ixN (show b < 2147483648 by omega)]
          simp only [Option.bind_some, ocs, if_pos (isB_at b (show b < 8 by omega)).1, isDay_eq, ifb, if_pos h2, wl, if_neg h3]
        · unfold f_Mo_agree
          rw [b2]
          simp only [Option.bind_some, isDayM_eq, ifb, if_pos h1, if_pos h2, il (show 0 < 2147483648 by decide) (show 1 < 2147483648 by decide), if_neg h3]
    · refine ⟨-2000000000, ?_, ?_⟩
      · unfold f_Fp_agree
        rw [b1, if_pos h1, ixN (show b < 2147483648 by omega)]
        simp only [Option.bind_some, ocs, if_pos (isB_at b (show b < 8 by omega)).1, isDay_eq, ifb, if_neg h2]
      · unfold f_Mo_agree
        rw [b2]
        simp only [Option.bind_some, isDayM_eq, ifb, if_pos h1, if_neg h2]
  · refine ⟨-2000000000, ?_, ?_⟩
    · unfold f_Fp_agree
      rw [b1, if_neg h1]
      simp only [Option.bind_some, ocs]
    · unfold f_Mo_agree
      rw [b2]
      simp only [Option.bind_some, ifb, if_neg h1]
