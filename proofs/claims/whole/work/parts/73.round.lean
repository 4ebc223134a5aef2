/-! rounds: the least miles -/
abbrev tb (s q : Nat) : Prop := s / 2 ^ q % 2 = 1
theorem tb_le {s q : Nat} (h : tb s q) : 2 ^ q ≤ s ∧ s - 2 ^ q < s := by
  have hp : 0 < 2 ^ q := Nat.pow_pos (by decide)
  have : 2 ^ q ≤ s := by
    refine Nat.le_of_not_lt fun z => ?_
    have h : s / 2 ^ q % 2 = 1 := h
    rw [Nat.div_eq_of_lt z] at h
    exact absurd h (by decide)
  omega
theorem sh_k : ∀ b, b < 16 → ((nI b &&& 31).toBitVec.smod 32).toNat = b := by decide +kernel
theorem sh_1 : ∀ b, b < 16 → (1 : Int32) <<< (nI b &&& 31) = nI (2 ^ b) := by decide +kernel
theorem bit_eq {s b : Nat} (hs : s < 2147483648) (hb : b < 16) : (nI s >>> (nI b &&& 31)) &&& 1 = nI (s / 2 ^ b % 2) := by
  rw [pk_shrN hs _ b (sh_k b hb), pk_andN (Nat.lt_of_le_of_lt (Nat.div_le_self _ _) (by omega)) 1 (by decide)]
theorem bit_1 {s b : Nat} (hs : s < 2147483648) (hb : b < 16) : ((nI s >>> (nI b &&& 31)) &&& 1 = 1) = tb s b := by
  rw [bit_eq hs hb]
  exact propext (nI_eq (b := 1) (by omega) (by decide))
theorem bit_0 {s b : Nat} (hs : s < 2147483648) (hb : b < 16) : ((nI s >>> (nI b &&& 31)) &&& 1 = 0) = ¬ tb s b := by
  rw [bit_eq hs hb]
  refine propext ((nI_eq (b := 0) (by omega) (by decide)).trans ?_)
  show s / 2 ^ b % 2 = 0 ↔ ¬ (s / 2 ^ b % 2 = 1)
  omega
theorem bif1 {s b : Nat} {α : Type} {A B : α} (hs : s < 2147483648) (hb : b < 16) : (if (nI s >>> (nI b &&& 31)) &&& 1 = 1 then A else B) = if tb s b then A else B := by
  by_cases h : tb s b
  · rw [if_pos h, if_pos (by rw [bit_1 hs hb]; exact h)]
  · rw [if_neg h, if_neg (by rw [bit_1 hs hb]; exact h)]
theorem bif0 {s b : Nat} {α : Type} {A B : α} (hs : s < 2147483648) (hb : b < 16) : (if (nI s >>> (nI b &&& 31)) &&& 1 = 0 then A else B) = if tb s b then B else A := by
  by_cases h : tb s b
  · rw [if_pos h, if_neg (by rw [bit_0 hs hb]; exact fun z => z h)]
  · rw [if_neg h, if_pos (by rw [bit_0 hs hb]; exact h)]
theorem clr_k : ∀ s, s < 256 → ∀ b, b < 8 → s / 2 ^ b % 2 = 1 → nI s &&& (((1 : Int32) <<< (nI b &&& 31)) ^^^ (-1 : Int32)) = nI (s - 2 ^ b) := by decide +kernel
theorem bit_ex : ∀ n, n < 9 → ∀ s, s < 2 ^ n → 0 < s → ∃ q, q < n ∧ s / 2 ^ q % 2 = 1 := by decide +kernel
theorem pow8 : ∀ n, n < 9 → 2 ^ n ≤ 256 := by decide
def mnF (f : Nat → Nat) (s : Nat) : Nat → Option Nat
  | 0 => none
  | q + 1 => if tb s q then (match mnF f s q with
    | none => some (f q)
    | some m => if f q < m then some (f q) else some m) else mnF f s q
theorem mnF_c {f g : Nat → Nat} {s : Nat} : ∀ n, (∀ q, q < n → tb s q → f q = g q) → mnF f s n = mnF g s n := by
  intro n
  induction n with
  | zero => intro _; rfl
  | succ n ih =>
    intro h
    rw [mnF, mnF, ih (fun q hq => h q (by omega))]
    by_cases z : tb s n
    · rw [if_pos z, if_pos z, h n (by omega) z]
    · rw [if_neg z, if_neg z]
theorem mnF_s {f : Nat → Nat} {s : Nat} : ∀ n, (∃ q, q < n ∧ tb s q) → ∃ m q, mnF f s n = some m ∧ q < n ∧ tb s q ∧ f q = m := by
  intro n
  induction n with
  | zero => rintro ⟨q, h, -⟩; exact absurd h (Nat.not_lt_zero _)
  | succ n ih =>
    rintro ⟨q, hq, hb⟩
    rw [mnF]
    by_cases z : tb s n
    · rw [if_pos z]
      cases hm : mnF f s n with
      | none => exact ⟨f n, n, rfl, by omega, z, rfl⟩
      | some m =>
        show ∃ m' q, (if f n < m then some (f n) else some m) = some m' ∧ _
        by_cases y : f n < m
        · rw [if_pos y]; exact ⟨f n, n, rfl, by omega, z, rfl⟩
        · rw [if_neg y]
          have : ∃ q, q < n ∧ tb s q := by
            refine Classical.byContradiction fun w => ?_
            have e : ∀ k, k ≤ n → mnF f s k = none := by
              intro k
              induction k with
              | zero => intro _; rfl
              | succ k ihk =>
                intro hk
                rw [mnF, if_neg (fun x => w ⟨k, by omega, x⟩)]
                exact ihk (by omega)
            rw [e n (Nat.le_refl _)] at hm
            cases hm
          obtain ⟨m', q', e1, e2, e3, e4⟩ := ih this
          rw [hm] at e1
          exact ⟨m, q', rfl, by omega, e3, by rw [e4]; exact (Option.some.inj e1).symm⟩
    · rw [if_neg z]
      have : q < n := by
        by_cases e : q = n
        · subst e; exact absurd hb z
        · omega
      obtain ⟨m', q', e1, e2, e3, e4⟩ := ih ⟨q, this, hb⟩
      exact ⟨m', q', e1, by omega, e3, e4⟩
theorem mnF_0 {f : Nat → Nat} : ∀ n, mnF f 0 n = none := by
  intro n
  induction n with
  | zero => rfl
  | succ n ih =>
    rw [mnF, if_neg, ih]
    show ¬ 0 / 2 ^ n % 2 = 1
    rw [Nat.zero_div]; decide
abbrev Rd (G : Nat → Nat) (x y : Nat) : Nat := G (422 + (12 * x + y))
abbrev spt (G : Nat → Nat) (b : Nat) : Nat := bc G b 0
def VT (G : Nat → Nat) (fr n : Nat) : Nat → Nat → Nat → Nat
  | 0 => fun _ _ => 0
  | k + 1 => fun s b => if s = k then (if s = 0 then Rd G (spt G b) fr else (mnF (fun q => Rd G (spt G b) (spt G q) + VT G fr n k (s - 2 ^ q) q) s n).getD 0) else VT G fr n k s b
def VV (G : Nat → Nat) (fr n s b : Nat) : Nat := VT G fr n (s + 1) s b
theorem VT_lt {G : Nat → Nat} {fr n s b : Nat} : ∀ k, s < k → VT G fr n k s b = VV G fr n s b := by
  intro k
  induction k with
  | zero => intro h; omega
  | succ k ih =>
    intro h
    by_cases e : s = k
    · subst e; rfl
    · show (if s = k then _ else VT G fr n k s b) = _
      rw [if_neg e]; exact ih (by omega)
def lfP (G : Nat → Nat) (fr n here s : Nat) : Nat := (mnF (fun q => Rd G here (spt G q) + VV G fr n (s - 2 ^ q) q) s n).getD 0
theorem VV_eq {G : Nat → Nat} {fr n s b : Nat} : VV G fr n s b = if s = 0 then Rd G (spt G b) fr else lfP G fr n (spt G b) s := by
  unfold VV
  rw [VT]
  dsimp only
  rw [if_pos rfl]
  by_cases h : s = 0
  · rw [if_pos h, if_pos h]
  · rw [if_neg h, if_neg h]
    unfold lfP
    rw [mnF_c (g := fun q => Rd G (spt G b) (spt G q) + VV G fr n (s - 2 ^ q) q) n (fun q _ hb => by
      show Rd G (spt G b) (spt G q) + VT G fr n s (s - 2 ^ q) q = Rd G (spt G b) (spt G q) + VV G fr n (s - 2 ^ q) q
      rw [VT_lt s (tb_le hb).2])]
/-- bounds -/
def rdOk (G : Nat → Nat) (n : Nat) : Prop := G 1 ≤ 12 ∧ n ≤ 8 ∧ (∀ x y, x < 12 → y < 12 → Rd G x y ≤ 999) ∧ ∀ b, b < n → spt G b < 12
theorem rdOk_S {S : St} (ok : Ok S) : rdOk S.1.1 (S.1.1 2) := by
  refine ⟨ok.1.1.2.1, ok.1.1.2.2.1, fun x y hx hy => (ok.1.2.1.2.2.1 x y hx hy).1, fun b hb => ?_⟩
  have := (ok_nums ok hb).1
  have h := ok.1.1.2.1
  have h : S.1.1 1 ≤ 12 := h
  show bc S.1.1 b 0 < 12
  omega
theorem VV_le {G : Nat → Nat} {fr n : Nat} (h : rdOk G n) (hfr : fr < 12) : ∀ k s, s < k → s < 2 ^ n → ∀ b, b < n → VV G fr n s b ≤ 999 * (s + 1) := by
  obtain ⟨h1, h8, h2, h3⟩ := h
  intro k
  induction k with
  | zero => intro s hs; omega
  | succ k ih =>
    intro s hs hn b hb
    rw [VV_eq]
    by_cases h0 : s = 0
    · rw [if_pos h0, h0]
      have := h2 (spt G b) fr (h3 b hb) hfr
      omega
    · rw [if_neg h0]
      unfold lfP
      obtain ⟨q, q1, q2⟩ := bit_ex n (by omega) s hn (by omega)
      obtain ⟨m, q', e1, e2, e3, e4⟩ := mnF_s (f := fun q => Rd G (spt G b) (spt G q) + VV G fr n (s - 2 ^ q) q) (s := s) n ⟨q, q1, q2⟩
      rw [e1]
      show m ≤ _
      rw [← e4]
      have t := tb_le e3
      have a := ih (s - 2 ^ q') (by omega) (by omega) q' e2
      have r := h2 (spt G b) (spt G q') (h3 b hb) (h3 q' e2)
      have : s - 2 ^ q' + 1 ≤ s := by omega
      have : 999 * (s - 2 ^ q' + 1) ≤ 999 * s := Nat.mul_le_mul_left _ this
      show Rd G (spt G b) (spt G q') + VV G fr n (s - 2 ^ q') q' ≤ 999 * (s + 1)
      omega
theorem lf_el {G : Nat → Nat} {fr n here s : Nat} (h : rdOk G n) (hfr : fr < 12) (hh : here < 12) (hn : s < 2 ^ n) : ∀ q, q < n → tb s q → Rd G here (spt G q) + VV G fr n (s - 2 ^ q) q ≤ 999 * (s + 1) := by
  intro q hq hb
  have t := tb_le hb
  have a := VV_le h hfr (s + 1) (s - 2 ^ q) (by omega) (by omega) q hq
  have r := h.2.2.1 here (spt G q) hh (h.2.2.2 q hq)
  have : 999 * (s - 2 ^ q + 1) ≤ 999 * s := Nat.mul_le_mul_left _ (by omega)
  omega
/-- the class's table -/
def tabC (G : Nat → Nat) (fr n : Nat) (d : Dm) (k : Nat) : Prop := ∀ s b, s < k → b < n → gI d 26 (8 * s + b) = nI (VV G fr n s b)
def FrP (δ d : Dm) : Prop := ∀ c j, c ≠ 26 → gI d c j = gI δ c j
theorem RepC_P {n : Nat} {δ d : Dm} {S : St} (h : RepC δ n S) (ok : Ok S) (e : FrP δ d) : RepC d n S := RepC_keep h ok.2.1 (fun b j q => e b j (by omega))
theorem btw_eq {n x y : Nat} {d : Dm} {S : St} (h : RepC d n S) (hx : x < 12) (hy : y < 12) : f_To_between (nI x) (nI y) d = some (nI (Rd S.1.1 x y)) := by
  unfold f_To_between
  rw [show (nI x * 12) + nI y = nI (12 * x + y) by rw [lit, pk_mul, nI_add, Nat.mul_comm], get_in (show (KD 32).2 = 144 by decide) (by omega), Option.bind_some, show gI d 32 (12 * x + y) = nI (S.1.1 (422 + (12 * x + y))) from cR h.1 (by omega)]
theorem spot_eq {n b : Nat} {d : Dm} {S : St} (h : RepC d n S) (hb : b < 8) : f_To_spotOf (nI b) d = some (nI (spt S.1.1 b)) := by
  unfold f_To_spotOf
  rw [slot_eq, if_pos (inb_i hb (by decide)), ixN (show b < 2147483648 by omega), Option.bind_some]
  simp only [ocs, if_pos (isB_at b hb).1]
  rw [cBs 0 0 rfl h hb (by decide) (by decide)]
theorem by_eq {n fr here s b : Nat} {d : Dm} {S : St} (h : RepC d n S) (ok : Ok S) (hh : here < 12) (hs : s < 2 ^ S.1.1 2) (hb : b < S.1.1 2) (ht : tb s b) (hT : tabC S.1.1 fr (S.1.1 2) d s) : f_Ro_milesBy (nI here) (nI s) (nI b) d = some (nI (Rd S.1.1 here (spt S.1.1 b) + VV S.1.1 fr (S.1.1 2) (s - 2 ^ b) b)) := by
  have k8 : S.1.1 2 ≤ 8 := ok.1.1.2.2.1
  have p8 := pow8 (S.1.1 2) (by omega)
  have r := rdOk_S ok
  have t := tb_le ht
  unfold f_Ro_milesBy
  rw [bndE, clr_k s (by omega) b (by omega) ht, spot_eq h (by omega), Option.bind_some, btw_eq h hh (r.2.2.2 b hb), Option.bind_some, show nI (s - 2 ^ b) * 8 + nI b = nI (8 * (s - 2 ^ b) + b) by rw [lit, pk_mul, nI_add, Nat.mul_comm], get_in (show (KD 26).2 = 2048 by decide) (by omega), Option.bind_some, hT _ b (by omega) hb, nI_add]
theorem least_eq {n fr here s : Nat} {d : Dm} {S : St} (h : RepC d n S) (ok : Ok S) (hfr : fr < 12) (hh : here < 12) (hs : s < 2 ^ S.1.1 2) (hT : tabC S.1.1 fr (S.1.1 2) d s) : f_Ro_leastFrom (nI here) (nI s) d = some (nI (lfP S.1.1 fr (S.1.1 2) here s)) := by
  have k8 : S.1.1 2 ≤ 8 := ok.1.1.2.2.1
  have p8 := pow8 (S.1.1 2) (by omega)
  have g2 : gI d 29 2 = nI (S.1.1 2) := (cG h.1).2.2.1
  have r := rdOk_S ok
  obtain ⟨F, hF⟩ : ∃ F : Nat → Nat, (fun q => Rd S.1.1 here (spt S.1.1 q) + VV S.1.1 fr (S.1.1 2) (s - 2 ^ q) q) = F := ⟨_, rfl⟩
  have hFb : ∀ q, q < S.1.1 2 → tb s q → F q ≤ 999 * (s + 1) := fun q h1 h2 => by rw [← hF]; exact lf_el r hfr hh hs q h1 h2
  have main : ∀ z : Int32, (s ≠ 0 → z = 1000000) → jp_Ro_leastFrom_10 (nI here) (nI s) d z = some (match mnF F s (S.1.1 2) with | none => z | some m => nI m) := fun z hz => by
    unfold jp_Ro_leastFrom_10
    refine for_inv (fun f q (v : Int32) => lp_Ro_leastFrom_15 (fun v4_15x v5_15x => (some v4_15x)) (nI here) (nI s) d f v q) (S.1.1 2) (by omega) (fun q v => v = (match mnF F s q with | none => z | some m => nI m) ∧ ∀ m, mnF F s q = some m → m < 1000000) (fun x => x = some (match mnF F s (S.1.1 2) with | none => z | some m => nI m)) (fun f q v hq hI => ?_) (fun f v hI => ?_) 0 z (Nat.zero_le _) ⟨rfl, fun m hm => by cases hm⟩
    · obtain ⟨i1, i2⟩ := hI
      simp only [lp_Ro_leastFrom_15]
      rw [g2, if_neg (nI_ge hq (by omega)), bif1 (by omega) (by omega), nI_1]
      by_cases t : tb s q
      · have tl := tb_le t
        have hq9 := hFb q hq t
        have e : mnF F s (q + 1) = (match mnF F s q with | none => some (F q) | some m => if F q < m then some (F q) else some m) := by rw [mnF, if_pos t]
        rw [if_pos t, by_eq h ok hh hs hq t hT, Option.bind_some, bndE]
        have eF : Rd S.1.1 here (spt S.1.1 q) + VV S.1.1 fr (S.1.1 2) (s - 2 ^ q) q = F q := by rw [← hF]
        rw [eF]
        cases hm : mnF F s q with
        | none =>
          rw [hm] at i1 e
          have i1 : v = z := i1
          refine ⟨nI (F q), ⟨by rw [e], fun m hm' => by rw [e] at hm'; rw [← Option.some.inj hm']; omega⟩, ?_⟩
          rw [i1, hz (by omega), if_pos (show nI (F q) < (1000000 : Int32) from nI_lt (b := 1000000) (by omega) (by decide))]
        | some m =>
          rw [hm] at i1 e
          have i1 : v = nI m := i1
          have hm6 := i2 m hm
          have e : mnF F s (q + 1) = if F q < m then some (F q) else some m := e
          by_cases y : F q < m
          · rw [if_pos y] at e
            refine ⟨nI (F q), ⟨by rw [e], fun m hm' => by rw [e] at hm'; rw [← Option.some.inj hm']; omega⟩, ?_⟩
            rw [i1, if_pos (nI_lt y (by omega))]
          · rw [if_neg y] at e
            refine ⟨nI m, ⟨by rw [e], fun m' hm' => by rw [e] at hm'; rw [← Option.some.inj hm']; omega⟩, ?_⟩
            rw [i1, if_neg (nI_nlt (by omega) (by omega))]
      · rw [if_neg t]
        have e : mnF F s (q + 1) = mnF F s q := by rw [mnF, if_neg t]
        exact ⟨v, ⟨by rw [e]; exact i1, fun m hm => i2 m (by rw [← e]; exact hm)⟩, rfl⟩
    · simp only [lp_Ro_leastFrom_15]
      rw [g2, if_pos (nI_le (Nat.le_refl _) (by omega)), hI.1]
  have el : lfP S.1.1 fr (S.1.1 2) here s = (mnF F s (S.1.1 2)).getD 0 := by unfold lfP; rw [hF]
  unfold f_Ro_leastFrom
  rw [el]
  by_cases h0 : s = 0
  · rw [if_pos (show nI s = 0 by rw [h0]; rfl), main 0 (fun z => absurd h0 z), h0, mnF_0]
    rfl
  · rw [if_neg (nI_ne0 (by omega) (by omega)), main 1000000 (fun _ => rfl)]
    obtain ⟨q, q1, q2⟩ := bit_ex (S.1.1 2) (by omega) s hs (by omega)
    obtain ⟨m, q', e1, -⟩ := mnF_s (f := F) (s := s) (S.1.1 2) ⟨q, q1, q2⟩
    rw [e1]; rfl
theorem plan_eq {n fr : Nat} {δ : Dm} {S : St} (h : RepC δ n S) (ok : Ok S) (hfr : fr < 12) : ∃ d, f_Ro_plan (nI fr) δ = some d ∧ FrP δ d ∧ tabC S.1.1 fr (S.1.1 2) d (2 ^ S.1.1 2) := by
  have k8 : S.1.1 2 ≤ 8 := ok.1.1.2.2.1
  have p8 := pow8 (S.1.1 2) (by omega)
  have r := rdOk_S ok
  unfold f_Ro_plan
  refine for_inv (fun f s d => lp_Ro_plan_2 (fun v3_2x δ2x => (some δ2x)) (nI fr) f s d) (2 ^ S.1.1 2) (by omega) (fun s d => FrP δ d ∧ tabC S.1.1 fr (S.1.1 2) d s) (fun x => ∃ d, x = some d ∧ FrP δ d ∧ tabC S.1.1 fr (S.1.1 2) d (2 ^ S.1.1 2)) (fun f s d hs hI => ?_) (fun f d hI => ?_) 0 δ (Nat.zero_le _) ⟨fun _ _ _ => rfl, fun s b hs => absurd hs (Nat.not_lt_zero _)⟩
  · have hC := RepC_P h ok hI.1
    simp only [lp_Ro_plan_2]
    rw [(cG hC.1).2.2.1, show ((1 : Int32) <<< (nI ((sT S).1 2) &&& 31)) = nI (2 ^ S.1.1 2) from sh_1 _ (by show S.1.1 2 < 16; omega), if_neg (nI_ge hs (by omega)), nI_1]
    refine for_inv (fun f2 b d => lp_Ro_plan_15 (fun v4_15x δ15x => lp_Ro_plan_2 (fun v3_2x δ2x => some δ2x) (nI fr) f (nI (s + 1)) δ15x) (nI fr) (nI s) f2 b d) (S.1.1 2) (by omega) (fun b d => FrP δ d ∧ tabC S.1.1 fr (S.1.1 2) d s ∧ ∀ b', b' < b → gI d 26 (8 * s + b') = nI (VV S.1.1 fr (S.1.1 2) s b')) (fun x => ∃ a', (FrP δ a' ∧ tabC S.1.1 fr (S.1.1 2) a' (s + 1)) ∧ x = lp_Ro_plan_2 (fun v3_2x δ2x => some δ2x) (nI fr) f (nI (s + 1)) a') (fun f2 b e hb hJ => ?_) (fun f2 e hJ => ?_) 0 d (Nat.zero_le _) ⟨hI.1, hI.2, fun b' hb' => absurd hb' (Nat.not_lt_zero _)⟩
    · obtain ⟨j1, j2, j3⟩ := hJ
      have hE := RepC_P h ok j1
      refine ⟨sI e 26 (8 * s + b) (nI (VV S.1.1 fr (S.1.1 2) s b)), ⟨fun c j q => by rw [gsr q]; exact j1 c j q, fun s' b' h1 h2 => by rw [gsc (by omega)]; exact j2 s' b' h1 h2, fun b' hb' => ?_⟩, ?_⟩
      · by_cases q : b' = b
        · subst q; rw [gss]
        · rw [gsc (by omega)]; exact j3 b' (by omega)
      · have fin : ∀ v : Int32, v = nI (VV S.1.1 fr (S.1.1 2) s b) → jp_Ro_plan_54 (lp_Ro_plan_15 (fun v4_15x δ15x => lp_Ro_plan_2 (fun v3_2x δ2x => some δ2x) (nI fr) f (nI (s + 1)) δ15x) (nI fr) (nI s) f2) (fun v4_15x δ15x => lp_Ro_plan_2 (fun v3_2x δ2x => some δ2x) (nI fr) f (nI (s + 1)) δ15x) (nI fr) (nI s) (nI b) (nI (spt S.1.1 b)) e v = lp_Ro_plan_15 (fun v4_15x δ15x => lp_Ro_plan_2 (fun v3_2x δ2x => some δ2x) (nI fr) f (nI (s + 1)) δ15x) (nI fr) (nI s) f2 (nI (b + 1)) (sI e 26 (8 * s + b) (nI (VV S.1.1 fr (S.1.1 2) s b))) := fun v hv => by
          unfold jp_Ro_plan_54
          rw [show (nI s * 8) + nI b = nI (8 * s + b) by rw [lit, pk_mul, nI_add, Nat.mul_comm], put_in (show (KD 26).2 = 2048 by decide) (by omega), Option.bind_some, nI_1, hv]
        simp only [lp_Ro_plan_15]
        rw [(cG hE.1).2.2.1, if_neg (show ¬ nI ((sT S).1 2) ≤ nI b from nI_ge hb (show S.1.1 2 < 2147483648 by omega)), spot_eq hE (by omega), Option.bind_some]
        by_cases h0 : s = 0
        · rw [if_pos (show nI s = 0 by rw [h0]; rfl), btw_eq hE (r.2.2.2 b hb) hfr, Option.bind_some]
          exact fin _ (by rw [VV_eq, if_pos h0])
        · rw [if_neg (nI_ne0 (by omega) (by omega)), least_eq hE ok hfr (r.2.2.2 b hb) hs j2, Option.bind_some]
          exact fin _ (by rw [VV_eq, if_neg h0])
    · obtain ⟨j1, j2, j3⟩ := hJ
      have hE := RepC_P h ok j1
      simp only [lp_Ro_plan_15]
      rw [(cG hE.1).2.2.1, if_pos (show nI ((sT S).1 2) ≤ nI (S.1.1 2) from nI_le (Nat.le_refl _) (show S.1.1 2 < 2147483648 by omega))]
      refine ⟨e, ⟨j1, fun s' b' h1 h2 => ?_⟩, rfl⟩
      by_cases q : s' = s
      · subst q; exact j3 b' h2
      · exact j2 s' b' (by omega) h2
  · have hC := RepC_P h ok hI.1
    simp only [lp_Ro_plan_2]
    rw [(cG hC.1).2.2.1, show ((1 : Int32) <<< (nI ((sT S).1 2) &&& 31)) = nI (2 ^ S.1.1 2) from sh_1 _ (by show S.1.1 2 < 16; omega), if_pos (nI_le (Nat.le_refl _) (by omega))]
    exact ⟨d, rfl, hI.1, hI.2⟩
