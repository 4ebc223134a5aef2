/-! the crane: sets of places, the most they take -/
def pcN (s : Nat) : Nat → Nat
  | 0 => 0
  | q + 1 => pcN s q + if tb s q then 1 else 0
def bcE (a0 : Int32) : Int32 :=
  let v9 := a0 - ((((a0).toUInt32 >>> (((1 : Int32)).toUInt32 &&& Int32.toUInt32 31)).toInt32) &&& (1431655765 : Int32))
  let v23 := (v9 &&& (858993459 : Int32)) + ((((v9).toUInt32 >>> (((2 : Int32)).toUInt32 &&& Int32.toUInt32 31)).toInt32) &&& (858993459 : Int32))
  let v33 := (v23 + (((v23).toUInt32 >>> (((4 : Int32)).toUInt32 &&& Int32.toUInt32 31)).toInt32)) &&& (252645135 : Int32)
  let v40 := v33 + (((v33).toUInt32 >>> (((8 : Int32)).toUInt32 &&& Int32.toUInt32 31)).toInt32)
  let v47 := v40 + (((v40).toUInt32 >>> (((16 : Int32)).toUInt32 &&& Int32.toUInt32 31)).toInt32)
  v47 &&& (63 : Int32)
theorem bc_d : ∀ u, u < 64 → ∀ v, v < 64 → bcE (nI (64 * u + v)) = nI (pcN (64 * u + v) 12) := by decide +kernel
theorem bs_d : ∀ u, u < 64 → ∀ v, v < 64 → 0 < 64 * u + v → ((64 * u + v) &&& (64 * u + v - 1)) < 64 * u + v ∧ pcN ((64 * u + v) &&& (64 * u + v - 1)) 12 + 1 = pcN (64 * u + v) 12 := by decide +kernel
theorem bitC_eq {s : Nat} {δ : Dm} (h : s < 4096) : f_In_bitCount (nI s) δ = some (nI (pcN s 12)) := by
  have q := bc_d (s / 64) (by omega) (s % 64) (by omega)
  rw [show 64 * (s / 64) + s % 64 = s by omega] at q
  rw [← q]
  unfold f_In_bitCount bcE
  simp only [bndE]
theorem and_N (a b : Nat) : nI a &&& nI b = nI (a &&& b) := by
  apply Int32.toBitVec_inj.mp
  rw [Int32.toBitVec_and]
  exact BitVec.ofNat_and.symm
theorem or_N (a b : Nat) : nI a ||| nI b = nI (a ||| b) := by
  apply Int32.toBitVec_inj.mp
  rw [Int32.toBitVec_or]
  exact BitVec.ofNat_or.symm
theorem pcN_0 : pcN 0 12 = 0 := by decide
theorem pcN_le {s : Nat} : ∀ n, pcN s n ≤ n := by
  intro n
  induction n with
  | zero => exact Nat.le_refl _
  | succ n ih => rw [pcN]; split <;> omega
theorem bits_eq {s : Nat} {δ : Dm} (h : s < 4096) : f_Mo_bits (nI s) δ = some (nI (pcN s 12)) := by
  unfold f_Mo_bits
  refine whl (fun f (a : Int32 × Int32) => lp_Mo_bits_4 (fun v1_4x v2_4x => (some v1_4x)) (nI s) δ f a.1 a.2) (fun a => ∃ t c, t < 4096 ∧ a = (nI c, nI t) ∧ c + pcN t 12 = pcN s 12) (fun a => ix a.2) (fun r => r = some (nI (pcN s 12))) (fun f a hI => ?_) (0, nI s) ⟨s, 0, h, rfl, by omega⟩ (by show ix (nI s) < _; rw [ixN (by omega)]; omega)
  obtain ⟨t, c, h1, h2, h3⟩ := hI
  subst h2
  simp only [lp_Mo_bits_4]
  by_cases z : t = 0
  · left
    rw [if_pos (show nI t = 0 by rw [z]; rfl)]
    rw [z, pcN_0, Nat.add_zero] at h3
    rw [h3]
  · right
    have q := bs_d (t / 64) (by omega) (t % 64) (by omega)
    rw [show 64 * (t / 64) + t % 64 = t by omega] at q
    obtain ⟨q1, q2⟩ := q (by omega)
    rw [if_neg (nI_ne0 (by omega) (by omega)), bndE, show nI t - 1 = nI (t - 1) from pk_sub (b := 1) (by omega), and_N, nI_1]
    refine ⟨(nI (c + 1), nI (t &&& (t - 1))), ⟨t &&& (t - 1), c + 1, by omega, rfl, by omega⟩, ?_, rfl⟩
    show ix (nI (t &&& (t - 1))) < ix (nI t)
    rw [ixN (by omega), ixN (by omega)]; exact q1
theorem tb_t {s q : Nat} : s.testBit q = decide (tb s q) := Nat.testBit_eq_decide_div_mod_eq
theorem tb_or {s p q : Nat} : tb (s ||| 2 ^ p) q ↔ tb s q ∨ p = q := by
  have e := Nat.testBit_or s (2 ^ p) q
  rw [Nat.testBit_two_pow, tb_t, tb_t] at e
  have : decide (tb (s ||| 2 ^ p) q) = decide (tb s q ∨ p = q) := by rw [e, Bool.decide_or]
  exact decide_eq_decide.mp this
theorem or_lt {s p n : Nat} (hs : s < 2 ^ n) (hp : p < n) : s ||| 2 ^ p < 2 ^ n := Nat.or_lt_two_pow hs (Nat.pow_lt_pow_right (by decide) hp)
theorem or_gt {s p : Nat} (h : ¬ tb s p) : s < s ||| 2 ^ p := by
  have h1 : s ≤ s ||| 2 ^ p := Nat.left_le_or
  refine Nat.lt_of_le_of_ne h1 fun e => h ?_
  have : tb (s ||| 2 ^ p) p := tb_or.mpr (Or.inr rfl)
  rw [← e] at this; exact this
theorem pc_or {s p : Nat} (h : ¬ tb s p) : ∀ n, pcN (s ||| 2 ^ p) n = pcN s n + if p < n then 1 else 0 := by
  intro n
  induction n with
  | zero => rfl
  | succ n ih =>
    rw [pcN, pcN, ih]
    by_cases e : p = n
    · subst e
      rw [if_neg (by omega), if_pos (tb_or.mpr (Or.inr rfl)), if_neg h, if_pos (by omega)]
    · by_cases q : tb s n
      · rw [if_pos q, if_pos (tb_or.mpr (Or.inl q))]
        by_cases z : p < n
        · rw [if_pos z, if_pos (by omega)]
          all_goals omega
        · rw [if_neg z, if_neg (by omega)]
      · rw [if_neg q, if_neg (fun w => (tb_or.mp w).elim q e)]
        by_cases z : p < n
        · rw [if_pos z, if_pos (by omega)]
        · rw [if_neg z, if_neg (by omega)]
theorem pc_or12 {s p : Nat} (h : ¬ tb s p) (hp : p < 12) : pcN (s ||| 2 ^ p) 12 = pcN s 12 + 1 := by rw [pc_or h, if_pos hp]
/-- a free place -/
theorem pc_all {s : Nat} : ∀ n, (∀ p, p < n → tb s p) → pcN s n = n := by
  intro n
  induction n with
  | zero => intro _; rfl
  | succ n ih => intro h; rw [pcN, ih (fun p hp => h p (by omega)), if_pos (h n (by omega))]
theorem pc_mono {s : Nat} : ∀ n m, n ≤ m → pcN s n ≤ pcN s m := by
  intro n m h
  induction m with
  | zero =>
    obtain rfl : n = 0 := by omega
    exact Nat.le_refl _
  | succ m ih =>
    by_cases e : n = m + 1
    · subst e; exact Nat.le_refl _
    · have := ih (by omega)
      rw [pcN]; omega
theorem free_ex {s n k : Nat} (hn : n ≤ 12) (h : pcN s 12 < k) (hk : k ≤ n) : ∃ p, p < n ∧ ¬ tb s p := by
  refine Classical.byContradiction fun w => ?_
  have e := pc_all (s := s) n (fun p hp => Classical.byContradiction fun z => w ⟨p, hp, z⟩)
  have := pc_mono (s := s) n 12 hn
  omega
theorem pigeon : ∀ (m n : Nat) (f : Nat → Nat), (∀ i, i < n → f i < m) → (∀ i j, i < n → j < n → i ≠ j → f i ≠ f j) → n ≤ m := by
  intro m
  induction m with
  | zero =>
    intro n f h _
    refine Nat.le_of_not_lt fun z => ?_
    exact absurd (h 0 z) (Nat.not_lt_zero _)
  | succ m ih =>
    intro n f h1 h2
    cases n with
    | zero => exact Nat.zero_le _
    | succ n =>
      have := ih n (fun i => if f i = m then f n else f i) (fun i hi => by
        show (if f i = m then f n else f i) < m
        by_cases q : f i = m
        · rw [if_pos q]
          have a := h1 n (by omega)
          have b := h2 i n (by omega) (by omega) (by omega)
          omega
        · rw [if_neg q]
          have a := h1 i (by omega)
          omega) (fun i j hi hj hn => by
        show (if f i = m then f n else f i) ≠ (if f j = m then f n else f j)
        have a := h2 i j (by omega) (by omega) hn
        by_cases q : f i = m
        · rw [if_pos q]
          by_cases q2 : f j = m
          · omega
          · rw [if_neg q2]; exact h2 n j (by omega) (by omega) (by omega)
        · rw [if_neg q]
          by_cases q2 : f j = m
          · rw [if_pos q2]; exact h2 i n (by omega) (by omega) (by omega)
          · rw [if_neg q2]; exact a)
      omega
theorem booths_le {S : St} (ok : Ok S) : S.1.1 2 ≤ S.1.1 1 := by
  refine pigeon (S.1.1 1) (S.1.1 2) (fun b => bc S.1.1 b 0) (fun i hi => (ok.1.2.2.1 i hi).1) (fun i j hi hj hn => ?_)
  exact (ok.1.2.2.1 j hj).2.1 i hi hn
/-- the most over the free places -/
def mxF (f : Nat → Int32) (s : Nat) : Nat → Option Int32
  | 0 => none
  | p + 1 => if tb s p then mxF f s p else (match mxF f s p with
    | none => some (f p)
    | some m => if m < f p then some (f p) else some m)
theorem mxF_s {f : Nat → Int32} {s : Nat} : ∀ n, (∃ p, p < n ∧ ¬ tb s p) → ∃ m p, mxF f s n = some m ∧ p < n ∧ ¬ tb s p ∧ f p = m := by
  intro n
  induction n with
  | zero => rintro ⟨p, h, -⟩; exact absurd h (Nat.not_lt_zero _)
  | succ n ih =>
    rintro ⟨p, hp, hb⟩
    rw [mxF]
    by_cases z : tb s n
    · rw [if_pos z]
      have : p < n := by
        by_cases e : p = n
        · subst e; exact absurd z hb
        · omega
      obtain ⟨m', q', e1, e2, e3, e4⟩ := ih ⟨p, this, hb⟩
      exact ⟨m', q', e1, by omega, e3, e4⟩
    · rw [if_neg z]
      cases hm : mxF f s n with
      | none => exact ⟨f n, n, rfl, by omega, z, rfl⟩
      | some m =>
        show ∃ m' q, (if m < f n then some (f n) else some m) = some m' ∧ _
        by_cases y : m < f n
        · rw [if_pos y]; exact ⟨f n, n, rfl, by omega, z, rfl⟩
        · rw [if_neg y]
          have : ∃ q, q < n ∧ ¬ tb s q := by
            refine Classical.byContradiction fun w => ?_
            have e : ∀ k, k ≤ n → mxF f s k = none := by
              intro k
              induction k with
              | zero => intro _; rfl
              | succ k ihk =>
                intro hk
                rw [mxF, if_pos (Classical.byContradiction fun x => w ⟨k, by omega, x⟩)]
                exact ihk (by omega)
            rw [e n (Nat.le_refl _)] at hm
            cases hm
          obtain ⟨m', q', e1, e2, e3, e4⟩ := ih this
          rw [hm] at e1
          exact ⟨m, q', rfl, by omega, e3, by rw [e4]; exact (Option.some.inj e1).symm⟩
def tkV (G : Nat → Nat) (mo c b p : Nat) : Int32 := nI (G (8726 + (2 * (12 * b + p) + mo))) - (if bc G b 0 = p then 0 else nI c)
/-- with k booths still to place -/
def PV (G : Nat → Nat) (mo c : Nat) : Nat → Nat → Int32
  | 0 => fun _ => 0
  | k + 1 => fun s => (mxF (fun p => tkV G mo c (G 2 - (k + 1)) p + PV G mo c k (s ||| 2 ^ p)) s (G 1)).getD 0
def cand (G : Nat → Nat) (mo c k s p : Nat) : Int32 := tkV G mo c (G 2 - (k + 1)) p + PV G mo c k (s ||| 2 ^ p)
def plOk (G : Nat → Nat) (mo c : Nat) : Prop := G 1 ≤ 12 ∧ G 2 ≤ G 1 ∧ G 2 ≤ 8 ∧ mo < 2 ∧ c ≤ 9999 ∧ ∀ b p, b < 8 → p < 12 → G (8726 + (2 * (12 * b + p) + mo)) ≤ 9999
theorem plOk_S {S : St} {mo c : Nat} (ok : Ok S) (hm : mo < 2) (hc : c ≤ 9999) : plOk S.1.1 mo c :=
  ⟨ok.1.1.2.1, booths_le ok, ok.1.1.2.2.1, hm, hc, fun b p hb hp => (ok.1.2.1.2.2.2 b p mo hb hp hm).1⟩
def tI (v : Int32) : Int := v.toInt
theorem tI_add {a b : Int32} (h1 : -1000000000 ≤ tI a ∧ tI a ≤ 1000000000) (h2 : -1000000000 ≤ tI b ∧ tI b ≤ 1000000000) : tI (a + b) = tI a + tI b := by
  unfold tI at *
  rw [Int32.toInt_add, Int.bmod_eq_of_le (by omega) (by omega)]
theorem tkV_b {G : Nat → Nat} {mo c b p : Nat} (h : plOk G mo c) (hb : b < 8) (hp : p < 12) : -9999 ≤ tI (tkV G mo c b p) ∧ tI (tkV G mo c b p) ≤ 9999 := by
  obtain ⟨-, -, -, -, hc, hg⟩ := h
  have g := hg b p hb hp
  unfold tkV tI
  split
  · rw [Int32.sub_zero, nI_toInt (by omega)]; omega
  · rw [pk_sub_toInt (by omega) (by omega)]; omega
theorem PV_b {G : Nat → Nat} {mo c : Nat} (h : plOk G mo c) : ∀ k s, k ≤ G 2 → -(9999 * (k : Int)) ≤ tI (PV G mo c k s) ∧ tI (PV G mo c k s) ≤ 9999 * (k : Int) := by
  intro k
  induction k with
  | zero => intro s _; show -(9999 * ((0 : Nat) : Int)) ≤ (0 : Int32).toInt ∧ (0 : Int32).toInt ≤ 9999 * ((0 : Nat) : Int); decide
  | succ k ih =>
    intro s hk
    have h8 := h.2.2.1
    show -(9999 * ((k + 1 : Nat) : Int)) ≤ tI ((mxF (fun p => tkV G mo c (G 2 - (k + 1)) p + PV G mo c k (s ||| 2 ^ p)) s (G 1)).getD 0) ∧ tI ((mxF (fun p => tkV G mo c (G 2 - (k + 1)) p + PV G mo c k (s ||| 2 ^ p)) s (G 1)).getD 0) ≤ 9999 * ((k + 1 : Nat) : Int)
    cases hm : mxF (fun p => tkV G mo c (G 2 - (k + 1)) p + PV G mo c k (s ||| 2 ^ p)) s (G 1) with
    | none => show -(9999 * ((k + 1 : Nat) : Int)) ≤ (0 : Int32).toInt ∧ (0 : Int32).toInt ≤ 9999 * ((k + 1 : Nat) : Int); rw [show (0 : Int32).toInt = 0 from rfl]; omega
    | some m =>
      have ex : ∃ p, p < G 1 ∧ ¬ tb s p := by
        refine Classical.byContradiction fun w => ?_
        have e : ∀ j, j ≤ G 1 → mxF (fun p => tkV G mo c (G 2 - (k + 1)) p + PV G mo c k (s ||| 2 ^ p)) s j = none := by
          intro j
          induction j with
          | zero => intro _; rfl
          | succ j ihk =>
            intro hj
            rw [mxF, if_pos (Classical.byContradiction fun x => w ⟨j, by omega, x⟩)]
            exact ihk (by omega)
        rw [e _ (Nat.le_refl _)] at hm
        cases hm
      obtain ⟨m', p, e1, e2, e3, e4⟩ := mxF_s (f := fun p => tkV G mo c (G 2 - (k + 1)) p + PV G mo c k (s ||| 2 ^ p)) (s := s) (G 1) ex
      rw [hm] at e1
      have e1 := Option.some.inj e1
      show -(9999 * ((k + 1 : Nat) : Int)) ≤ tI m ∧ tI m ≤ 9999 * ((k + 1 : Nat) : Int)
      rw [e1, ← e4]
      have a := tkV_b h (show G 2 - (k + 1) < 8 by omega) (show p < 12 by have := h.1; omega)
      have b := ih (s ||| 2 ^ p) (by omega)
      show -(9999 * ((k + 1 : Nat) : Int)) ≤ tI (tkV G mo c (G 2 - (k + 1)) p + PV G mo c k (s ||| 2 ^ p)) ∧ tI (tkV G mo c (G 2 - (k + 1)) p + PV G mo c k (s ||| 2 ^ p)) ≤ 9999 * ((k + 1 : Nat) : Int)
      rw [tI_add (by omega) (by omega)]
      omega
theorem cand_b {G : Nat → Nat} {mo c k s p : Nat} (h : plOk G mo c) (hk : k < G 2) (hp : p < G 1) : (-1000000000 : Int32) < cand G mo c k s p := by
  have h8 := h.2.2.1
  have h12 := h.1
  have a := tkV_b h (show G 2 - (k + 1) < 8 by omega) (show p < 12 by omega)
  have b := PV_b h k (s ||| 2 ^ p) (by omega)
  unfold cand
  rw [lt32, show (-1000000000 : Int32).toInt = -1000000000 by decide]
  have e := tI_add (a := tkV G mo c (G 2 - (k + 1)) p) (b := PV G mo c k (s ||| 2 ^ p)) (by omega) (by omega)
  have e : (tkV G mo c (G 2 - (k + 1)) p + PV G mo c k (s ||| 2 ^ p)).toInt = _ := e
  rw [e]; omega
theorem PV_s {G : Nat → Nat} {mo c k s : Nat} : PV G mo c (k + 1) s = (mxF (cand G mo c k s) s (G 1)).getD 0 := rfl
