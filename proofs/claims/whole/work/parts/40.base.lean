/-! integers, rows, loops: the base of the mathematics -/
theorem lit (n : Nat) : (no_index (OfNat.ofNat n) : Int32) = nI (OfNat.ofNat n) := rfl
def bI (p : Prop) [Decidable p] : Int32 := if p then 1 else 0
theorem bI_0 {p : Prop} [Decidable p] : (bI p = 0) = ¬ p := by
  unfold bI; by_cases h : p <;> simp [h]
theorem bI_1 {p : Prop} [Decidable p] : (bI p = 1) = p := by
  unfold bI; by_cases h : p <;> simp [h]
theorem bI_01 {p : Prop} [Decidable p] : bI p = 0 ∨ bI p = 1 := by
  unfold bI; by_cases h : p <;> simp [h]
theorem bI_c {p q : Prop} [Decidable p] [Decidable q] (h : p ↔ q) : bI p = bI q := by
  unfold bI; by_cases hp : p
  · rw [if_pos hp, if_pos (h.mp hp)]
  · rw [if_neg hp, if_neg (fun x => hp (h.mpr x))]
theorem inbN {k N : Nat} (h : k < 2147483648) : inb (nI k) N = (k < N) := by
  unfold inb; rw [nI_toInt h]; exact propext ⟨fun q => by omega, fun q => by omega⟩
theorem ixN {k : Nat} (h : k < 2147483648) : ix (nI k) = k := nI_clamp h
theorem gs {δ : Dm} {a i b j : Nat} {v : Int32} : gI (sI δ a i v) b j = if b = a ∧ j = i then v else gI δ b j := rfl
theorem gss {δ : Dm} {a i : Nat} {v : Int32} : gI (sI δ a i v) a i = v := if_pos ⟨rfl, rfl⟩
theorem gsr {δ : Dm} {a i b j : Nat} {v : Int32} (h : b ≠ a) : gI (sI δ a i v) b j = gI δ b j := if_neg (fun q => h q.1)
theorem gsc {δ : Dm} {a i b j : Nat} {v : Int32} (h : j ≠ i) : gI (sI δ a i v) b j = gI δ b j := if_neg (fun q => h q.2)
theorem gLs {δ : Dm} {a i b j : Nat} {v : Int32} : gL (sI δ a i v) b j = gL δ b j := rfl
theorem gIs {δ : Dm} {a i b j : Nat} {v : Int64} : gI (sL δ a i v) b j = gI δ b j := rfl
theorem gLL {δ : Dm} {a i b j : Nat} {v : Int64} : gL (sL δ a i v) b j = if b = a ∧ j = i then v else gL δ b j := rfl
theorem g_flI {δ : Dm} {a N b j : Nat} {v : Int32} : gI (flI δ a N v) b j = if b = a ∧ j < N then v else gI δ b j := rfl
theorem gL_flI {δ : Dm} {a N b j : Nat} {v : Int32} : gL (flI δ a N v) b j = gL δ b j := rfl
def flL (δ : Dm) (a N : Nat) (v : Int64) : Dm := (δ.1, fun b j => if b = a ∧ j < N then v else δ.2 b j)
theorem gI_flL {δ : Dm} {a N b j : Nat} {v : Int64} : gI (flL δ a N v) b j = gI δ b j := rfl
theorem gL_flL {δ : Dm} {a N b j : Nat} {v : Int64} : gL (flL δ a N v) b j = if b = a ∧ j < N then v else gL δ b j := rfl
theorem g_cpI {δ : Dm} {a b n x j : Nat} : gI (cpI δ a b 0 0 n) x j = if x = b ∧ j < n then gI δ a j else gI δ x j := by
  unfold cpI gI va_cpy
  by_cases h : x = b
  · subst h; simp
  · simp [h]
theorem gL_cpI {δ : Dm} {a b n x j : Nat} : gL (cpI δ a b 0 0 n) x j = gL δ x j := rfl
/-- loops that count up -/
theorem for_inv {α ρ : Type} (L : Nat → Int32 → α → ρ) (N : Nat) (hN : N < 2147483648) (I : Nat → α → Prop) (Q : ρ → Prop)
    (hs : ∀ f i a, i < N → I i a → ∃ a', I (i + 1) a' ∧ L (f + 1) (nI i) a = L f (nI (i + 1)) a')
    (he : ∀ f a, I N a → Q (L (f + 1) (nI N) a)) : ∀ i a, i ≤ N → I i a → Q (L FU (nI i) a) := by
  have h : ∀ k i a f, i + k = N → k < f → I i a → Q (L f (nI i) a) := by
    intro k
    induction k with
    | zero =>
      intro i a f hi hf hI
      obtain ⟨g, rfl⟩ : ∃ g, f = g + 1 := ⟨f - 1, by omega⟩
      obtain rfl : i = N := by omega
      exact he g a hI
    | succ k ih =>
      intro i a f hi hf hI
      obtain ⟨g, rfl⟩ : ∃ g, f = g + 1 := ⟨f - 1, by omega⟩
      obtain ⟨a', h1, h2⟩ := hs g i a (by omega) hI
      rw [h2]
      exact ih (i + 1) a' g (by omega) (by omega) h1
  exact fun i a hi hI => h (N - i) i a FU (by omega) (FU_gt (by omega)) hI
/-- the same where the body may leave the loop -/
theorem for_brk {α ρ : Type} (L : Nat → Int32 → α → ρ) (N : Nat) (hN : N < 2147483648) (I : Nat → α → Prop) (Q : ρ → Prop)
    (hs : ∀ f i a, i < N → I i a → Q (L (f + 1) (nI i) a) ∨ ∃ a', I (i + 1) a' ∧ L (f + 1) (nI i) a = L f (nI (i + 1)) a')
    (he : ∀ f a, I N a → Q (L (f + 1) (nI N) a)) : ∀ i a, i ≤ N → I i a → Q (L FU (nI i) a) := by
  have h : ∀ k i a f, i + k = N → k < f → I i a → Q (L f (nI i) a) := by
    intro k
    induction k with
    | zero =>
      intro i a f hi hf hI
      obtain ⟨g, rfl⟩ : ∃ g, f = g + 1 := ⟨f - 1, by omega⟩
      obtain rfl : i = N := by omega
      exact he g a hI
    | succ k ih =>
      intro i a f hi hf hI
      obtain ⟨g, rfl⟩ : ∃ g, f = g + 1 := ⟨f - 1, by omega⟩
      rcases hs g i a (by omega) hI with h0 | ⟨a', h1, h2⟩
      · exact h0
      · rw [h2]
        exact ih (i + 1) a' g (by omega) (by omega) h1
  exact fun i a hi hI => h (N - i) i a FU (by omega) (FU_gt (by omega)) hI
/-- over a list: the loop's other variables are folded -/
theorem for_list {X α ρ : Type} (l : List X) (hl : l.length < 2147483648) (L : Nat → Int32 → α → ρ) (g : α → X → α) (res : α → ρ)
    (hs : ∀ f i x a, l[i]? = some x → L (f + 1) (nI i) a = L f (nI (i + 1)) (g a x))
    (he : ∀ f a, L (f + 1) (nI l.length) a = res a) (a : α) : L FU (nI 0) a = res (l.foldl g a) := by
  refine for_inv L l.length hl (fun i b => b = (l.take i).foldl g a) (fun r => r = res (l.foldl g a)) ?_ ?_ 0 a (Nat.zero_le _) (by simp)
  · intro f i b hi hb
    refine ⟨g b l[i], ?_, hs f i _ b (by simp [hi])⟩
    show g b l[i] = (l.take (i + 1)).foldl g a
    rw [List.take_add_one, List.getElem?_eq_getElem hi, List.foldl_append, hb]
    rfl
  · intro f b hb
    rw [he, hb, List.take_length]
/-- while loops: any measure -/
theorem whl {α ρ : Type} (L : Nat → α → ρ) (I : α → Prop) (μ : α → Nat) (Q : ρ → Prop)
    (hs : ∀ f a, I a → Q (L (f + 1) a) ∨ ∃ a', I a' ∧ μ a' < μ a ∧ L (f + 1) a = L f a') : ∀ a, I a → μ a < 4294967296 → Q (L FU a) := by
  have h : ∀ f a, μ a < f → I a → Q (L f a) := by
    intro f
    induction f with
    | zero => intro a h; omega
    | succ f ih =>
      intro a h hI
      rcases hs f a hI with h0 | ⟨a', h1, h2, h3⟩
      · exact h0
      · rw [h3]; exact ih a' (by omega) h1
  exact fun a hI hm => h FU a (FU_gt hm) hI
theorem lt32 {a b : Int32} : a < b ↔ a.toInt < b.toInt := Int32.lt_iff_toInt_lt
theorem le32 {a b : Int32} : a ≤ b ↔ a.toInt ≤ b.toInt := Int32.le_iff_toInt_le
theorem nlt32 {a b : Int32} : ¬ a < b ↔ b ≤ a := Int32.not_lt
theorem within_eq (a lo hi : Int32) (δ : Dm) : f_Fp_within a lo hi δ = some (bI (lo ≤ a ∧ a ≤ hi)) := by
  unfold f_Fp_within bI
  by_cases h1 : a < lo
  · rw [if_pos h1, if_neg (fun q => Int32.not_le.mpr h1 q.1)]
  · rw [if_neg h1]
    by_cases h2 : hi < a
    · rw [if_pos h2, if_neg (fun q => Int32.not_le.mpr h2 q.2)]
    · rw [if_neg h2, if_pos ⟨nlt32.mp h1, nlt32.mp h2⟩]
theorem cmp_lt {x y : Int64} : lg_cmp x y < 0 ↔ x < y := by
  unfold lg_cmp
  by_cases h1 : x > y
  · rw [if_pos h1]; exact ⟨fun q => absurd q (by decide), fun q => absurd q (by have h1 := Int64.lt_iff_toInt_lt.mp h1; rw [Int64.lt_iff_toInt_lt]; omega)⟩
  · rw [if_neg h1]
    by_cases h2 : x = y
    · rw [if_pos h2]; exact ⟨fun q => absurd q (by decide), fun q => absurd q (by rw [h2, Int64.lt_iff_toInt_lt]; omega)⟩
    · rw [if_neg h2]
      refine ⟨fun _ => ?_, fun _ => by decide⟩
      have h1 : ¬ y.toInt < x.toInt := fun q => h1 (Int64.lt_iff_toInt_lt.mpr q)
      have h2 : x.toInt ≠ y.toInt := fun q => h2 (Int64.toInt_inj.mp q)
      rw [Int64.lt_iff_toInt_lt]; omega
theorem cmp_gt {x y : Int64} : 0 < lg_cmp x y ↔ y < x := by
  unfold lg_cmp
  by_cases h1 : x > y
  · rw [if_pos h1]; exact ⟨fun _ => h1, fun _ => by decide⟩
  · rw [if_neg h1]
    by_cases h2 : x = y
    · rw [if_pos h2]; exact ⟨fun q => absurd q (by decide), fun q => absurd q (by rw [h2, Int64.lt_iff_toInt_lt]; omega)⟩
    · rw [if_neg h2]; exact ⟨fun q => absurd q (by decide), fun q => absurd q h1⟩
theorem cmp_eq {x y : Int64} : lg_cmp x y = 0 ↔ x = y := by
  unfold lg_cmp
  by_cases h1 : x > y
  · rw [if_pos h1]; exact ⟨fun q => absurd q (by decide), fun q => absurd h1 (by rw [q]; intro h; have := Int64.lt_iff_toInt_lt.mp h; omega)⟩
  · rw [if_neg h1]
    by_cases h2 : x = y
    · rw [if_pos h2]; exact ⟨fun _ => h2, fun _ => rfl⟩
    · rw [if_neg h2]; exact ⟨fun q => absurd q (by decide), fun q => absurd q h2⟩
theorem in_eqL (a lo hi : Int64) (δ : Dm) : f_Mo_in a lo hi δ = some (bI (lo ≤ a ∧ a ≤ hi)) := by
  unfold f_Mo_in bI
  by_cases h1 : a < lo
  · rw [if_pos (cmp_lt.mpr h1), if_neg (fun q => Int64.not_le.mpr h1 q.1)]
  · rw [if_neg (fun q => h1 (cmp_lt.mp q))]
    by_cases h2 : hi < a
    · rw [if_pos (cmp_gt.mpr h2), if_neg (fun q => Int64.not_le.mpr h2 q.2)]
    · rw [if_neg (fun q => h2 (cmp_gt.mp q)), if_pos ⟨Int64.not_lt.mp h1, Int64.not_lt.mp h2⟩]
theorem le6432 {a b : Int32} : a.toInt64 ≤ b.toInt64 ↔ a ≤ b := by
  rw [Int64.le_iff_toInt_le, Int32.le_iff_toInt_le, Int32.toInt_toInt64, Int32.toInt_toInt64]
theorem in_eq (a lo hi : Int32) (δ : Dm) : f_Mo_in a.toInt64 lo.toInt64 hi.toInt64 δ = some (bI (lo ≤ a ∧ a ≤ hi)) := by
  rw [in_eqL]; exact congrArg some (bI_c (by rw [le6432, le6432]))
theorem get_in {a i N : Nat} {δ : Dm} (hN : (KD a).2 = N) (h : i < N) : f_Fp_get a (nI i) δ = some (gI δ a i) := by
  have hs := KD_small a
  unfold f_Fp_get
  rw [hN] at hs ⊢
  rw [if_neg (nI_pos (by omega)), if_neg (nI_ge h (by omega)), if_pos (by rw [inbN (by omega)]; exact h), ixN (by omega)]
theorem get_out {a i N : Nat} {δ : Dm} (hN : (KD a).2 = N) (h : N ≤ i) (hi : i < 2147483648) : f_Fp_get a (nI i) δ = some 0 := by
  have hs := KD_small a
  unfold f_Fp_get
  rw [hN] at hs ⊢
  rw [if_neg (nI_pos (by omega)), if_pos (nI_le h (by omega))]
theorem put_in {a i N : Nat} {v : Int32} {δ : Dm} (hN : (KD a).2 = N) (h : i < N) : f_Fp_put a (nI i) v δ = some (sI δ a i v) := by
  have hs := KD_small a
  unfold f_Fp_put bnd
  rw [hN] at hs ⊢
  rw [if_neg (nI_pos (by omega)), if_neg (nI_ge h (by omega)), if_pos (by rw [inbN (by omega)]; exact h), ixN (by omega)]
theorem copy_eq {a b N : Nat} {δ : Dm} (ha : (KD a).2 = N) (hb : (KD b).2 = N) : f_Fp_copy a b δ = some (cpI δ a b 0 0 N) := by
  have hs := KD_small a
  unfold f_Fp_copy bnd
  rw [ha] at hs
  rw [ha, hb, if_neg (nI_nlt (Nat.le_refl _) (by omega)), nI_toInt (by omega), if_pos ⟨by omega, by omega, by omega⟩, ixN (by omega)]
theorem fillI_eq {a N : Nat} {v : Int32} {δ : Dm} (hN : (KD a).2 = N) : f_Ar_fill_II a v δ = some (flI δ a N v) := by
  have hs := KD_small a
  rw [hN] at hs
  unfold f_Ar_fill_II bnd
  rw [hN]
  refine for_inv (fun f i δ => lp_Ar_fill_II_5 (fun _ δ5 => some δ5) a v (nI N) f i δ) N (by omega) (fun i d => d = flI δ a i v) (fun r => r = some (flI δ a N v)) ?_ ?_ 0 δ (Nat.zero_le _) flI_0.symm
  · intro f i d hi hd
    refine ⟨_, rfl, ?_⟩
    subst hd
    show lp_Ar_fill_II_5 _ _ _ _ _ _ _ = _
    rw [lp_Ar_fill_II_5, if_neg (nI_ge hi (by omega)), hN, if_pos (by rw [inbN (by omega)]; exact hi), ixN (by omega)]
    unfold bnd
    rw [flI_s, nI_1]
  · intro f d hd
    subst hd
    show lp_Ar_fill_II_5 _ _ _ _ _ _ _ = _
    rw [lp_Ar_fill_II_5, if_pos (nI_le (Nat.le_refl _) (by omega))]
theorem flL_s {δ : Dm} {a i : Nat} {v : Int64} : sL (flL δ a i v) a i v = flL δ a (i + 1) v := by
  refine Prod.ext rfl ?_
  funext b j
  show (if b = a ∧ j = i then v else if b = a ∧ j < i then v else δ.2 b j) = if b = a ∧ j < i + 1 then v else δ.2 b j
  by_cases h1 : b = a ∧ j = i
  · rw [if_pos h1, if_pos (by omega)]
  · rw [if_neg h1]
    by_cases h2 : b = a ∧ j < i
    · rw [if_pos h2, if_pos (by omega)]
    · rw [if_neg h2, if_neg (by omega)]
theorem flL_0 {δ : Dm} {a : Nat} {v : Int64} : flL δ a 0 v = δ := by
  refine Prod.ext rfl ?_
  funext b j
  show (if b = a ∧ j < 0 then v else δ.2 b j) = δ.2 b j
  rw [if_neg (by omega)]
theorem fillJ_eq {a N : Nat} {v : Int64} {δ : Dm} (hN : (KD a).2 = N) : f_Ar_fill_JJ a v δ = some (flL δ a N v) := by
  have hs := KD_small a
  rw [hN] at hs
  unfold f_Ar_fill_JJ bnd
  rw [hN]
  refine for_inv (fun f i δ => lp_Ar_fill_JJ_6 (fun _ δ5 => some δ5) a v (nI N) f i δ) N (by omega) (fun i d => d = flL δ a i v) (fun r => r = some (flL δ a N v)) ?_ ?_ 0 δ (Nat.zero_le _) flL_0.symm
  · intro f i d hi hd
    refine ⟨_, rfl, ?_⟩
    subst hd
    show lp_Ar_fill_JJ_6 _ _ _ _ _ _ _ = _
    rw [lp_Ar_fill_JJ_6, if_neg (nI_ge hi (by omega)), hN, if_pos (by rw [inbN (by omega)]; exact hi), ixN (by omega)]
    unfold bnd
    rw [flL_s, nI_1]
  · intro f d hd
    subst hd
    show lp_Ar_fill_JJ_6 _ _ _ _ _ _ _ = _
    rw [lp_Ar_fill_JJ_6, if_pos (nI_le (Nat.le_refl _) (by omega))]
