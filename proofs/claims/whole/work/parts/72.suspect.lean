/-! suspect -/
def cntN (P : Nat → Bool) : Nat → Nat
  | 0 => 0
  | n + 1 => cntN P n + if P n = true then 1 else 0
theorem cntN_le {P : Nat → Bool} : ∀ n, cntN P n ≤ n := by
  intro n
  induction n with
  | zero => exact Nat.le_refl _
  | succ n ih => rw [cntN]; split <;> omega
theorem cntN_c {P Q : Nat → Bool} : ∀ n, (∀ i, i < n → P i = Q i) → cntN P n = cntN Q n := by
  intro n
  induction n with
  | zero => intro _; rfl
  | succ n ih => intro h; rw [cntN, cntN, ih (fun i hi => h i (by omega)), h n (by omega)]
def sumN (f : Nat → Nat) : Nat → Nat
  | 0 => 0
  | n + 1 => sumN f n + f n
theorem sumN_c {f g : Nat → Nat} : ∀ n, (∀ i, i < n → f i = g i) → sumN f n = sumN g n := by
  intro n
  induction n with
  | zero => intro _; rfl
  | succ n ih => intro h; rw [sumN, sumN, ih (fun i hi => h i (by omega)), h n (by omega)]
theorem sumN_a {f g : Nat → Nat} : ∀ n, sumN (fun i => f i + g i) n = sumN f n + sumN g n := by
  intro n
  induction n with
  | zero => rfl
  | succ n ih => rw [sumN, sumN, sumN, ih]; omega
theorem sumN_1 {k : Nat} {b : Bool} : ∀ n, sumN (fun w => if (decide (w = k) && b) = true then 1 else 0) n = if (decide (k < n) && b) = true then 1 else 0 := by
  intro n
  induction n with
  | zero => rw [sumN, if_neg (by simp)]
  | succ n ih =>
    rw [sumN, ih]
    cases b with
    | false => simp
    | true =>
      by_cases h : n = k
      · subst h; simp
      · by_cases h2 : k < n
        · have : k < n + 1 := by omega
          simp [h, h2, this]
        · have : ¬ k < n + 1 := by omega
          simp [h, h2, this]
theorem sum_cnt {who : Nat → Nat} {P : Nat → Bool} {K : Nat} : ∀ n, (∀ i, i < n → who i < K) → sumN (fun w => cntN (fun i => decide (w = who i) && P i) n) K = cntN P n := by
  intro n
  induction n with
  | zero =>
    intro _
    have : ∀ K, sumN (fun w => cntN (fun i => decide (w = who i) && P i) 0) K = 0 := by
      intro K
      induction K with
      | zero => rfl
      | succ K ih => rw [sumN, ih]; rfl
    rw [this]; rfl
  | succ n ih =>
    intro h
    have e : sumN (fun w => cntN (fun i => decide (w = who i) && P i) (n + 1)) K = sumN (fun w => cntN (fun i => decide (w = who i) && P i) n + (if (decide (w = who n) && P n) = true then 1 else 0)) K := sumN_c K (fun i _ => rfl)
    rw [e, sumN_a, ih (fun i hi => h i (by omega)), sumN_1, cntN]
    have := h n (by omega)
    simp [this]
/-- the claims' numbers -/
def unfB (S : St) (i : Nat) : Bool := match (cls S)[i]? with
  | some y => decide (spN S y ≤ ahP S i y)
  | none => false
def twB (S : St) (i : Nat) : Bool := match (cls S)[i]? with
  | some y => decide (spN S y < ahP S i y)
  | none => false
def fstB (S : St) (i : Nat) : Bool := match (cls S)[i]? with
  | some y => decide (spN S y = ahP S i y)
  | none => false
def whoN (S : St) (i : Nat) : Nat := match (cls S)[i]? with
  | some y => y 0
  | none => 0
def ufP (S : St) (w : Nat) : Nat := cntN (fun i => decide (w = whoN S i) && unfB S i) (cls S).length
theorem cnt_ft {S : St} : ∀ n, cntN (unfB S) n = cntN (fstB S) n + cntN (twB S) n := by
  intro n
  induction n with
  | zero => rfl
  | succ n ih =>
    rw [cntN, cntN, cntN, ih]
    unfold unfB fstB twB
    cases (cls S)[n]? with
    | none => simp
    | some y =>
      dsimp only
      simp only [decide_eq_true_eq]
      repeat' split
      all_goals omega
theorem unfC {n w : Nat} {δ : Dm} {S : St} (h : RepC δ n S) (ok : Ok S) (hw : w < 32) : f_Fp_unfairOf (nI w) δ = some (nI (ufP S w)) := by
  obtain ⟨r1, r2⟩ := cls_n ok
  have g : gI δ 45 1 = nI (cls S).length := by rw [← r1]; exact (cG h.1).2.2.2.2.2.2
  unfold f_Fp_unfairOf ufP
  refine for_inv (fun f i (v : Int32) => lp_Fp_unfairOf_4 (fun v2_4x v3_4x => (some v2_4x)) (nI w) δ f v i) (cls S).length (by omega) (fun i v => v = nI (cntN (fun i => decide (w = whoN S i) && unfB S i) i)) (fun r => r = some (nI (cntN (fun i => decide (w = whoN S i) && unfB S i) (cls S).length))) (fun f i v hi hI => ?_) (fun f v hI => ?_) 0 0 (Nat.zero_le _) rfl
  · obtain ⟨y, hy⟩ : ∃ y, (cls S)[i]? = some y := ⟨_, List.getElem?_eq_getElem hi⟩
    obtain ⟨m0, m1, m2⟩ := cls_m ok hy
    have q := (sub_s (a := ahP S i y) (b := spN S y) (by have := ahP_le (S := S) (c := i) (y := y) ok; omega) (by have := spN_le (S := S) (y := y) ok; omega)).1
    refine ⟨_, rfl, ?_⟩
    rw [cntN]
    have ew : whoN S i = y 0 := by unfold whoN; rw [hy]
    have eu : unfB S i = decide (spN S y ≤ ahP S i y) := by unfold unfB; rw [hy]
    simp only [lp_Fp_unfairOf_4]
    rw [g, if_neg (nI_ge hi (by omega)), get_in (show (KD 51).2 = 100 by decide) (by omega), show gI δ 51 i = nI (y 0) from cCl h hy (j := 0) (by decide), Option.bind_some, nI_1, hI]
    by_cases z : y 0 = w
    · rw [if_pos (by rw [z]), missing_eq h ok hy, Option.bind_some]
      by_cases z2 : ahP S i y < spN S y
      · rw [if_pos (q.mpr z2), if_neg (show ¬ (decide (w = whoN S i) && unfB S i) = true by rw [eu]; simp; intro _; omega)]; rfl
      · rw [if_neg (fun x => z2 (q.mp x)), if_pos (show (decide (w = whoN S i) && unfB S i) = true by rw [eu, ew]; simp [z]; omega), nI_1]
    · rw [if_neg (fun x => z ((nI_eq (by omega) (by omega)).mp x)), if_neg (show ¬ (decide (w = whoN S i) && unfB S i) = true by rw [ew]; simp; intro x; exact absurd x.symm z)]; rfl
  · simp only [lp_Fp_unfairOf_4]
    rw [g, if_pos (nI_le (Nat.le_refl _) (by omega)), hI]
theorem unfM {w : Nat} {δ : Dm} {S : St} (h : RepM δ S) (ok : Ok S) (hw : w < 32) : f_Mo_unfairOf (nI w) δ = some (nI (ufP S w)) := by
  obtain ⟨r1, r2⟩ := cls_n ok
  have g : gI δ 152 6 = nI (cls S).length := by rw [← r1]; exact (mS h.1).2.2.2.2.2.2
  unfold f_Mo_unfairOf ufP
  refine for_inv (fun f i (v : Int32) => lp_Mo_unfairOf_4 (fun v2_4x v3_4x => (some v2_4x)) (nI w) δ f v i) (cls S).length (by omega) (fun i v => v = nI (cntN (fun i => decide (w = whoN S i) && unfB S i) i)) (fun r => r = some (nI (cntN (fun i => decide (w = whoN S i) && unfB S i) (cls S).length))) (fun f i v hi hI => ?_) (fun f v hI => ?_) 0 0 (Nat.zero_le _) rfl
  · obtain ⟨y, hy⟩ : ∃ y, (cls S)[i]? = some y := ⟨_, List.getElem?_eq_getElem hi⟩
    obtain ⟨m0, m1, m2⟩ := cls_m ok hy
    refine ⟨_, rfl, ?_⟩
    rw [cntN]
    have ew : whoN S i = y 0 := by unfold whoN; rw [hy]
    have eu : unfB S i = decide (spN S y ≤ ahP S i y) := by unfold unfB; rw [hy]
    simp only [lp_Mo_unfairOf_4, j6, x6]
    rw [g, if_neg (nI_ge hi (by omega)), show (8426 : Int32) + ((3 : Int32) * nI i) = nI (8426 + 3 * i + 0) by rw [lit, lit, pk_mul, nI_add]; rfl, if_pos (inb_i (show 8426 + 3 * i + 0 < 8918 by omega) (by decide)), ixN (show 8426 + 3 * i + 0 < 2147483648 by omega), mCl h hy (j := 0) (by decide), nI_1, hI]
    by_cases z : y 0 = w
    · rw [if_pos (by rw [z]), isFair_eq h ok hy, Option.bind_some]
      by_cases z2 : ahP S i y < spN S y
      · rw [if_pos z2, if_neg (show ¬ (1 : Int32) = 0 by decide), bndE, Int32.add_zero, if_neg (show ¬ (decide (w = whoN S i) && unfB S i) = true by rw [eu]; simp; intro _; omega)]; rfl
      · rw [if_neg z2, if_pos (show (0 : Int32) = 0 from rfl), bndE, if_pos (show (decide (w = whoN S i) && unfB S i) = true by rw [eu, ew]; simp [z]; omega), nI_1]
    · rw [if_neg (fun x => z ((nI_eq (by omega) (by omega)).mp x)), bndE, Int32.add_zero, if_neg (show ¬ (decide (w = whoN S i) && unfB S i) = true by rw [ew]; simp; intro x; exact absurd x.symm z)]; rfl
  · simp only [lp_Mo_unfairOf_4, j6, x6]
    rw [g, if_pos (nI_le (Nat.le_refl _) (by omega)), hI]
theorem twice_eq {n : Nat} {δ : Dm} {S : St} (h : RepC δ n S) (ok : Ok S) : f_Fp_twice δ = some (nI (cntN (twB S) (cls S).length)) := by
  obtain ⟨r1, r2⟩ := cls_n ok
  have g : gI δ 45 1 = nI (cls S).length := by rw [← r1]; exact (cG h.1).2.2.2.2.2.2
  unfold f_Fp_twice
  refine for_inv (fun f i (v : Int32) => lp_Fp_twice_4 (fun v1_4x v2_4x => (some v1_4x)) δ f v i) (cls S).length (by omega) (fun i v => v = nI (cntN (twB S) i)) (fun r => r = some (nI (cntN (twB S) (cls S).length))) (fun f i v hi hI => ?_) (fun f v hI => ?_) 0 0 (Nat.zero_le _) rfl
  · obtain ⟨y, hy⟩ : ∃ y, (cls S)[i]? = some y := ⟨_, List.getElem?_eq_getElem hi⟩
    have q := (sub_s (a := ahP S i y) (b := spN S y) (by have := ahP_le (S := S) (c := i) (y := y) ok; omega) (by have := spN_le (S := S) (y := y) ok; omega)).2
    have eu : twB S i = decide (spN S y < ahP S i y) := by unfold twB; rw [hy]
    refine ⟨_, rfl, ?_⟩
    rw [cntN, eu]
    simp only [lp_Fp_twice_4]
    rw [g, if_neg (nI_ge hi (by omega)), missing_eq h ok hy, Option.bind_some, nI_1, hI]
    by_cases z : ahP S i y ≤ spN S y
    · rw [if_pos (q.mpr z), if_neg (show ¬ decide (spN S y < ahP S i y) = true by simp; exact z)]; rfl
    · rw [if_neg (fun x => z (q.mp x)), if_pos (show decide (spN S y < ahP S i y) = true by simp; omega), nI_1]
  · simp only [lp_Fp_twice_4]
    rw [g, if_pos (nI_le (Nat.le_refl _) (by omega)), hI]
/-- the first unfair claim of its booth and day -/
theorem cn_take {P : Ev → Bool} {l : List Ev} {i : Nat} {x : Ev} (hx : l[i]? = some x) : cn P (l.take (i + 1)) = cn P (l.take i) + if P x = true then 1 else 0 := by
  unfold cn
  rw [List.take_add_one, hx, List.filter_append, List.length_append]
  congr 1
  show ([x].filter P).length = _
  by_cases h : P x = true
  · rw [if_pos h, List.filter_cons_of_pos h]; rfl
  · rw [if_neg h, List.filter_cons_of_neg h]; rfl
theorem cn_mono {P : Ev → Bool} {l : List Ev} {i j : Nat} (h : i ≤ j) : cn P (l.take i) ≤ cn P (l.take j) := by
  unfold cn
  have : l.take i = (l.take j).take i := by rw [List.take_take, Nat.min_eq_left h]
  rw [this]
  have e : l.take j = (l.take j).take i ++ (l.take j).drop i := (List.take_append_drop _ _).symm
  have e2 : ((l.take j).filter P).length = (((l.take j).take i).filter P).length + (((l.take j).drop i).filter P).length := by
    rw [← List.length_append, ← List.filter_append, List.take_append_drop]
  omega
theorem cn_last {P : Ev → Bool} {l : List Ev} : ∀ c, 0 < cn P (l.take c) → ∃ d x, d < c ∧ l[d]? = some x ∧ P x = true ∧ cn P (l.take d) + 1 = cn P (l.take c) := by
  intro c
  induction c with
  | zero => intro h; simp [cn] at h
  | succ c ih =>
    intro h
    cases hx : l[c]? with
    | none =>
      have : l.take (c + 1) = l.take c := by rw [List.take_add_one, hx]; simp
      rw [this] at h ⊢
      obtain ⟨d, x, q1, q2, q3, q4⟩ := ih h
      exact ⟨d, x, by omega, q2, q3, q4⟩
    | some x =>
      have e := cn_take (P := P) hx
      by_cases p : P x = true
      · rw [if_pos p] at e
        exact ⟨c, x, by omega, hx, p, by omega⟩
      · rw [if_neg p, Nat.add_zero] at e
        rw [e] at h ⊢
        obtain ⟨d, x, q1, q2, q3, q4⟩ := ih h
        exact ⟨d, x, by omega, q2, q3, q4⟩
theorem sameK_i {y z : Ev} : sameK y z = true ↔ nI (z 1) = nI (y 1) ∧ nI (z 2) = nI (y 2) := by unfold sameK; simp
theorem sameK_c {S : St} {y z : Ev} (h : sameK y z = true) : spN S z = spN S y ∧ ∀ d, ahP S d z = ahP S d y := by
  obtain ⟨h1, h2⟩ := sameK_i.mp h
  have e : sameK z = sameK y := by
    funext x
    unfold sameK
    rw [h1, h2]
  unfold spN ahP
  rw [h1, h2, e]
  exact ⟨rfl, fun _ => rfl⟩
theorem first_i {S : St} {c : Nat} {y : Ev} (hy : (cls S)[c]? = some y) (hu : spN S y ≤ ahP S c y) : (∀ d z, d < c → (cls S)[d]? = some z → sameK y z = true → ahP S d z < spN S z) ↔ spN S y = ahP S c y := by
  constructor
  · intro h
    by_cases q : spN S y = ahP S c y
    · exact q
    · exfalso
      have hp : 0 < cn (sameK y) ((cls S).take c) := by
        have : ahP S c y = cn (sameK y) ((cls S).take c) := rfl
        omega
      obtain ⟨d, z, q1, q2, q3, q4⟩ := cn_last c hp
      have := h d z q1 q2 q3
      obtain ⟨s1, s2⟩ := sameK_c (S := S) q3
      rw [s1, s2] at this
      have e1 : ahP S c y = cn (sameK y) ((cls S).take c) := rfl
      have e2 : ahP S d y = cn (sameK y) ((cls S).take d) := rfl
      omega
  · intro h d z hd hz hk
    obtain ⟨s1, s2⟩ := sameK_c (S := S) hk
    rw [s1, s2]
    have e := cn_take (P := sameK y) hz
    rw [if_pos hk] at e
    have m := cn_mono (P := sameK y) (l := cls S) (show d + 1 ≤ c by omega)
    have e1 : ahP S c y = cn (sameK y) ((cls S).take c) := rfl
    have e2 : ahP S d y = cn (sameK y) ((cls S).take d) := rfl
    omega
theorem first_eq {c : Nat} {δ : Dm} {S : St} {y : Ev} {a1 v2 v3 v4 : Int32} {kx : Int32 → Int32 → Option Int32} (h : RepM δ S) (ok : Ok S) (hy : (cls S)[c]? = some y) : ∃ b : Int32, (b = 0 ∨ b = 1) ∧ (b = 1 ↔ ∀ d z, d < c → (cls S)[d]? = some z → sameK y z = true → ahP S d z < spN S z) ∧ lp_Mo_suspect_116 kx a1 v2 v3 v4 (nI c) δ FU 1 0 = kx b (nI c) := by
  obtain ⟨r1, r2⟩ := cls_n ok
  have hc := idx_lt hy
  refine for_inv (fun f i (v : Int32) => lp_Mo_suspect_116 kx a1 v2 v3 v4 (nI c) δ f v i) c (by omega) (fun i v => (v = 0 ∨ v = 1) ∧ (v = 1 ↔ ∀ d z, d < i → (cls S)[d]? = some z → sameK y z = true → ahP S d z < spN S z)) (fun r => ∃ b : Int32, (b = 0 ∨ b = 1) ∧ (b = 1 ↔ ∀ d z, d < c → (cls S)[d]? = some z → sameK y z = true → ahP S d z < spN S z) ∧ r = kx b (nI c)) (fun f i v hi hI => ?_) (fun f v hI => ?_) 0 1 (Nat.zero_le _) ⟨Or.inr rfl, fun _ d z hd => absurd hd (Nat.not_lt_zero _), fun _ => rfl⟩
  · obtain ⟨i1, i2⟩ := hI
    obtain ⟨z, hz⟩ : ∃ z, (cls S)[i]? = some z := ⟨_, List.getElem?_eq_getElem (by omega)⟩
    simp only [lp_Mo_suspect_116, jp_Mo_suspect_148]
    rw [if_neg (nI_ge hi (by omega)), nI_1]
    rcases i1 with i1 | i1
    · rw [if_pos i1]
      refine ⟨0, ⟨Or.inl rfl, fun w => absurd w (by decide), fun w => ?_⟩, rfl⟩
      have : v = 1 := i2.mpr (fun d z hd => w d z (by omega))
      rw [i1] at this; exact absurd this (by decide)
    · have i2' := i2.mp i1
      rw [if_neg (show ¬ v = 0 by rw [i1]; decide), areOne_eq h ok hy hz, Option.bind_some]
      by_cases q : sameK y z = true
      · rw [if_pos q, if_neg (show ¬ (1 : Int32) = 0 by decide), isFair_eq h ok hz, Option.bind_some]
        by_cases q2 : ahP S i z < spN S z
        · rw [if_pos q2, if_neg (show ¬ (1 : Int32) = 0 by decide)]
          refine ⟨1, ⟨Or.inr rfl, fun _ d x hd hx hk => ?_, fun _ => rfl⟩, rfl⟩
          by_cases e : d = i
          · subst e
            rw [hz] at hx
            rw [← Option.some.inj hx]; exact q2
          · exact i2' d x (by omega) hx hk
        · rw [if_neg q2, if_pos (show (0 : Int32) = 0 from rfl)]
          exact ⟨0, ⟨Or.inl rfl, fun w => absurd w (by decide), fun w => absurd (w i z (by omega) hz q) q2⟩, rfl⟩
      · rw [if_neg q, if_pos (show (0 : Int32) = 0 from rfl)]
        refine ⟨1, ⟨Or.inr rfl, fun _ d x hd hx hk => ?_, fun _ => rfl⟩, rfl⟩
        by_cases e : d = i
        · subst e
          rw [hz] at hx
          rw [← Option.some.inj hx] at hk; exact absurd hk q
        · exact i2' d x (by omega) hx hk
  · simp only [lp_Mo_suspect_116]
    rw [if_pos (nI_le (Nat.le_refl _) (by omega))]
    exact ⟨v, hI.1, hI.2, rfl⟩
theorem sus86 {δ : Dm} {S : St} {a1 v2 v3 : Int32} {m : Nat} (h : RepM δ S) (ok : Ok S) : lp_Mo_suspect_86 (fun v4_86x v5_86x => (some v4_86x)) a1 v2 v3 δ FU (nI m) 0 = some (nI m - nI (cntN (fstB S) (cls S).length)) := by
  obtain ⟨r1, r2⟩ := cls_n ok
  have g : gI δ 152 6 = nI (cls S).length := by rw [← r1]; exact (mS h.1).2.2.2.2.2.2
  refine for_inv (fun f i (v : Int32) => lp_Mo_suspect_86 (fun v4_86x v5_86x => (some v4_86x)) a1 v2 v3 δ f v i) (cls S).length (by omega) (fun i v => v = nI m - nI (cntN (fstB S) i)) (fun r => r = some (nI m - nI (cntN (fstB S) (cls S).length))) (fun f i v hi hI => ?_) (fun f v hI => ?_) 0 (nI m) (Nat.zero_le _) (by show nI m = nI m - 0; rw [Int32.sub_zero])
  · obtain ⟨y, hy⟩ : ∃ y, (cls S)[i]? = some y := ⟨_, List.getElem?_eq_getElem hi⟩
    have ef : fstB S i = decide (spN S y = ahP S i y) := by unfold fstB; rw [hy]
    refine ⟨_, rfl, ?_⟩
    rw [cntN, ef]
    simp only [lp_Mo_suspect_86, j6, x6]
    rw [g, if_neg (nI_ge hi (by omega)), isFair_eq h ok hy, Option.bind_some]
    by_cases z : ahP S i y < spN S y
    · rw [if_pos z, if_neg (show ¬ (1 : Int32) = 0 by decide), if_neg (show ¬ decide (spN S y = ahP S i y) = true by simp; omega), nI_1, hI]; rfl
    · rw [if_neg z, if_pos (show (0 : Int32) = 0 from rfl)]
      obtain ⟨b, q1, q2, q3⟩ := first_eq (a1 := a1) (v2 := v2) (v3 := v3) (v4 := v) (kx := fun v6_116x v7_116x => (if v6_116x = 0 then (bnd (v - (0 : Int32)) (fun v174 => (lp_Mo_suspect_86 (fun v4_86x v5_86x => (some v4_86x)) a1 v2 v3 δ f v174 (nI i + (1 : Int32))))) else (bnd (v - (1 : Int32)) (fun v174_1 => (lp_Mo_suspect_86 (fun v4_86x v5_86x => (some v4_86x)) a1 v2 v3 δ f v174_1 (nI i + (1 : Int32))))))) h ok hy
      have q4 := first_i hy (by omega : spN S y ≤ ahP S i y)
      rw [q3]
      by_cases z2 : spN S y = ahP S i y
      · have : b = 1 := q2.mpr (q4.mpr z2)
        rw [if_neg (show ¬ b = 0 by rw [this]; decide), bndE, if_pos (show decide (spN S y = ahP S i y) = true by simp [z2]), nI_1, hI, i32_ss, show (1 : Int32) = nI 1 from rfl, nI_add]
      · have : b = 0 := q1.resolve_right (fun w => z2 (q4.mp (q2.mp w)))
        rw [if_pos this, bndE, Int32.sub_zero, if_neg (show ¬ decide (spN S y = ahP S i y) = true by simp [z2]), nI_1, hI]; rfl
  · simp only [lp_Mo_suspect_86, j6, x6]
    rw [g, if_pos (nI_le (Nat.le_refl _) (by omega)), hI]
/-- who has most -/
def mwP (f : Nat → Nat) : Nat → Option Nat × Nat
  | 0 => (none, 0)
  | w + 1 => if (mwP f w).2 < f w then (some w, f w) else mwP f w
def mwI : Option Nat → Int32
  | none => -2
  | some w => nI w
theorem mwP_le {f : Nat → Nat} {K : Nat} (h : ∀ w, f w ≤ K) : ∀ n, (mwP f n).2 ≤ K := by
  intro n
  induction n with
  | zero => exact Nat.zero_le _
  | succ n ih =>
    rw [mwP]
    by_cases q : (mwP f n).2 < f n
    · rw [if_pos q]; exact h n
    · rw [if_neg q]; exact ih
theorem ufP_le {S : St} (ok : Ok S) (w : Nat) : ufP S w ≤ 100 := by
  have := (cls_n ok).2
  unfold ufP
  exact Nat.le_trans (cntN_le _) this
theorem sumN_le {f : Nat → Nat} {K : Nat} (h : ∀ w, f w ≤ K) : ∀ n, sumN f n ≤ K * n := by
  intro n
  induction n with
  | zero => exact Nat.zero_le _
  | succ n ih => rw [sumN, Nat.mul_succ]; have := h n; omega
theorem susC {n : Nat} {δ : Dm} {S : St} {a1 : Int32} (h : RepC δ n S) (ok : Ok S) : lp_Fp_suspect_29 (fun v2_29x v3_29x v4_29x => (if a1 = 0 then (some v2_29x) else (some v3_29x))) a1 δ FU (-2) 0 0 = if a1 = 0 then some (mwI (mwP (ufP S) 32).1) else some (nI (mwP (ufP S) 32).2) := by
  refine for_inv (fun f i (v : Int32 × Int32) => lp_Fp_suspect_29 (fun v2_29x v3_29x v4_29x => (if a1 = 0 then (some v2_29x) else (some v3_29x))) a1 δ f v.1 v.2 i) 32 (by decide) (fun i v => v = (mwI (mwP (ufP S) i).1, nI (mwP (ufP S) i).2)) (fun r => r = if a1 = 0 then some (mwI (mwP (ufP S) 32).1) else some (nI (mwP (ufP S) 32).2)) (fun f i v hi hI => ?_) (fun f v hI => ?_) 0 (-2, 0) (by decide) rfl
  · refine ⟨_, rfl, ?_⟩
    subst hI
    have u := ufP_le ok i
    have u2 := mwP_le (ufP_le ok) i
    simp only [lp_Fp_suspect_29]
    rw [if_neg (show ¬ (32 : Int32) ≤ nI i from nI_ge hi (by decide)), unfC h ok hi, Option.bind_some, nI_1, mwP]
    by_cases q : (mwP (ufP S) i).2 < ufP S i
    · rw [if_pos q, if_neg (nI_ge q (by omega))]; rfl
    · rw [if_neg q, if_pos (nI_le (by omega) (by omega))]
  · subst hI
    simp only [lp_Fp_suspect_29]
    rw [if_pos (show (32 : Int32) ≤ nI 32 by decide)]
theorem susM {δ : Dm} {S : St} {a1 : Int32} {kx : Int32 → Int32 → Int32 → Int32 → Option Int32} (h : RepM δ S) (ok : Ok S) : lp_Mo_suspect_25 kx a1 δ FU (-2) 0 0 0 = kx (mwI (mwP (ufP S) 32).1) (nI (mwP (ufP S) 32).2) (nI (sumN (ufP S) 32)) (nI 32) := by
  refine for_inv (fun f i (v : Int32 × Int32 × Int32) => lp_Mo_suspect_25 kx a1 δ f v.1 v.2.1 v.2.2 i) 32 (by decide) (fun i v => v = (mwI (mwP (ufP S) i).1, nI (mwP (ufP S) i).2, nI (sumN (ufP S) i))) (fun r => r = kx (mwI (mwP (ufP S) 32).1) (nI (mwP (ufP S) 32).2) (nI (sumN (ufP S) 32)) (nI 32)) (fun f i v hi hI => ?_) (fun f v hI => ?_) 0 (-2, 0, 0) (by decide) rfl
  · refine ⟨_, rfl, ?_⟩
    subst hI
    have u := ufP_le ok i
    have u2 := mwP_le (ufP_le ok) i
    simp only [lp_Mo_suspect_25]
    rw [if_neg (show ¬ (32 : Int32) ≤ nI i from nI_ge hi (by decide)), unfM h ok hi, Option.bind_some, nI_1, mwP, bndE, nI_add, sumN]
    by_cases q : (mwP (ufP S) i).2 < ufP S i
    · rw [if_pos q, if_pos (nI_lt q (by omega))]; rfl
    · rw [if_neg q, if_neg (nI_nlt (by omega) (by omega))]
  · subst hI
    simp only [lp_Mo_suspect_25]
    rw [if_pos (show (32 : Int32) ≤ nI 32 by decide)]
theorem op_suspect (a1 : Int32) : OpP (f_Fp_suspect a1) (f_Mo_suspect a1) := by
  intro δ n S ⟨hC, hM, ok⟩
  obtain ⟨r1, r2⟩ := cls_n ok
  by_cases h1 : nI 0 ≤ a1 ∧ a1 ≤ nI 2
  · obtain ⟨u, -, hu, rfl⟩ := low_i (by decide) h1 (by decide)
    unfold f_Fp_suspect f_Mo_suspect
    rw [wl, il (show 0 < 2147483648 by decide) (show 2 < 2147483648 by decide)]
    simp only [Option.bind_some, ifb]
    rw [if_pos h1, if_pos h1, susM hM ok]
    by_cases q2 : u = 2
    · subst q2
      rw [if_pos (show nI 2 = 2 from rfl), twice_eq hC ok, Option.bind_some, if_pos (show (2 : Int32) ≤ nI 2 by decide), sus86 hM ok]
      refine ⟨_, rfl, ?_⟩
      have e1 : sumN (ufP S) 32 = cntN (unfB S) (cls S).length := sum_cnt (who := whoN S) (P := unfB S) (K := 32) (cls S).length (fun i hi => by
        obtain ⟨y, hy⟩ : ∃ y, (cls S)[i]? = some y := ⟨_, List.getElem?_eq_getElem hi⟩
        have := (cls_m ok hy).1
        unfold whoN; rw [hy]
        show y 0 < 32
        omega)
      rw [e1, cnt_ft, pk_sub (by omega)]
      exact congrArg some (congrArg nI (by omega))
    · rw [if_neg (show ¬ nI u = 2 from fun z => q2 ((nI_eq (b := 2) (by omega) (by decide)).mp z)), if_neg (show ¬ (2 : Int32) ≤ nI u from nI_ge (a := u) (b := 2) (by omega) (by decide)), susC hC ok]
      by_cases q : nI u = 0
      · rw [if_pos q]; exact ⟨_, rfl, rfl⟩
      · rw [if_neg q]; exact ⟨_, rfl, rfl⟩
  · refine ⟨-1, ?_, ?_⟩
    · unfold f_Fp_suspect
      rw [wl]
      simp only [Option.bind_some, ifb]
      rw [if_neg h1]
    · unfold f_Mo_suspect
      rw [il (show 0 < 2147483648 by decide) (show 2 < 2147483648 by decide)]
      simp only [Option.bind_some, ifb]
      rw [if_neg h1]
