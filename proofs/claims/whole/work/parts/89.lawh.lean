/-! the reference's bytes and words -/
def sb (b : Nat) : Int32 := (nI b).toInt8.toInt32
theorem sb_lo {b : Nat} (hb : b < 256) : (sb b < 48 ↔ (b < 48 ∨ 128 ≤ b)) ∧ ((57 : Int32) < sb b ↔ (57 < b ∧ b < 128)) ∧ (sb b < 97 ↔ (b < 97 ∨ 128 ≤ b)) ∧ ((122 : Int32) < sb b ↔ (122 < b ∧ b < 128)) ∧ sb b &&& 255 = nI b ∧ (b < 128 → sb b = nI b) ∧ (128 ≤ b → sb b < 0) := by
  have d : ∀ b, b < 256 → (sb b < 48 ↔ (b < 48 ∨ 128 ≤ b)) ∧ ((57 : Int32) < sb b ↔ (57 < b ∧ b < 128)) ∧ (sb b < 97 ↔ (b < 97 ∨ 128 ≤ b)) ∧ ((122 : Int32) < sb b ↔ (122 < b ∧ b < 128)) ∧ sb b &&& 255 = nI b ∧ (b < 128 → sb b = nI b) ∧ (128 ≤ b → sb b < 0) := by decide +kernel
  exact d b hb
theorem sb_eq {b k : Nat} (hb : b < 256) (hk : k < 128) : sb b = nI k ↔ b = k := by
  obtain ⟨-, -, -, -, -, h1, h2⟩ := sb_lo hb
  constructor
  · intro h
    by_cases z : b < 128
    · rw [h1 z] at h; exact (nI_eq (by omega) (by omega)).mp h
    · have := h2 (by omega)
      rw [h] at this
      exact absurd this (nI_pos (by omega))
  · intro h; subst h; exact h1 hk
theorem sI_same {δ : Dm} {a i : Nat} {v : Int32} (h : gI δ a i = v) : sI δ a i v = δ := by
  refine Prod.ext ?_ rfl
  funext b j
  show (if b = a ∧ j = i then v else δ.1 b j) = δ.1 b j
  by_cases z : b = a ∧ j = i
  · rw [if_pos z, z.1, z.2]; exact h.symm
  · rw [if_neg z]
theorem sI_sI {δ : Dm} {a i : Nat} {v w : Int32} : sI (sI δ a i v) a i w = sI δ a i w := by
  refine Prod.ext ?_ rfl
  funext b j
  show (if b = a ∧ j = i then w else if b = a ∧ j = i then v else δ.1 b j) = if b = a ∧ j = i then w else δ.1 b j
  by_cases z : b = a ∧ j = i
  · rw [if_pos z, if_pos z]
  · rw [if_neg z, if_neg z, if_neg z]
def RX (X : Tx) (δ : Dm) : Prop := X.2 ≤ 400 ∧ (∀ j, X.1 j < 256) ∧ gI δ 151 2 = nI X.2 ∧ ∀ j, j < X.2 → gI δ 153 j = sb (X.1 j)
theorem RX.fr {X : Tx} {δ d : Dm} (h : RX X δ) (h2 : gI d 151 2 = gI δ 151 2) (h3 : ∀ j, gI d 153 j = gI δ 153 j) : RX X d :=
  ⟨h.1, h.2.1, by rw [h2]; exact h.2.2.1, fun j hj => by rw [h3]; exact h.2.2.2 j hj⟩
theorem RX.s9 {X : Tx} {δ : Dm} {v : Int32} (h : RX X δ) : RX X (sI δ 151 9 v) := h.fr (gsc (by decide)) (fun j => gsr (by decide))
def bt (X : Tx) (p : Nat) : Int32 := if p < X.2 then nI (X.1 p) else -1
theorem seeL {X : Tx} {kx : Dm → Option (Int32 × Dm)} : ∀ K f p δ, X.2 ≤ p + K → p ≤ X.2 → K < f → RX X δ → gI δ 151 9 = nI p → lp_Mo_see_0 kx f δ = kx (sI δ 151 9 (nI (sp X p))) := by
  intro K
  induction K with
  | zero =>
    intro f p δ hK hp hf h h9
    obtain ⟨g, rfl⟩ : ∃ g, f = g + 1 := ⟨f - 1, by omega⟩
    obtain rfl : p = X.2 := by omega
    have h4 := h.1
    rw [lp_Mo_see_0, h.2.2.1, h9, if_pos (nI_le (Nat.le_refl _) (by omega)), sp_N, sI_same h9]
  | succ K ih =>
    intro f p δ hK hp hf h h9
    obtain ⟨g, rfl⟩ : ∃ g, f = g + 1 := ⟨f - 1, by omega⟩
    have h4 := h.1
    rw [lp_Mo_see_0, h.2.2.1, h9]
    by_cases z : p = X.2
    · subst z
      rw [if_pos (nI_le (Nat.le_refl _) (by omega)), sp_N, sI_same h9]
    · rw [if_neg (nI_ge (by omega) (by omega)), if_pos (inb_i (show p < 400 by omega) (by decide)), ixN (by omega), h.2.2.2 p (by omega)]
      by_cases y : X.1 p = 32
      · rw [if_pos (show sb (X.1 p) = 32 from (sb_eq (k := 32) (h.2.1 p) (by decide)).mpr y), bndE, nI_1]
        rw [ih g (p + 1) (sI δ 151 9 (nI (p + 1))) (by omega) (by omega) (by omega) h.s9 gss, sI_sI, ← sp_succ (show bS X p = true from decide_eq_true ⟨by omega, y⟩)]
      · rw [if_neg (show ¬ sb (X.1 p) = 32 from fun w => y ((sb_eq (k := 32) (h.2.1 p) (by decide)).mp w)), sp_id (show bS X p = false from decide_eq_false (fun w => y w.2)), sI_same h9]
theorem see_R {X : Tx} {p : Nat} {δ : Dm} (h : RX X δ) (h9 : gI δ 151 9 = nI p) (hp : p ≤ X.2) : f_Mo_see δ = some (bt X (sp X p), sI δ 151 9 (nI (sp X p))) := by
  have h4 := h.1
  have hs := sp_le hp
  unfold f_Mo_see
  rw [seeL X.2 FU p δ (by omega) hp (FU_gt (by omega)) h h9]
  rw [gsc (by decide), h.2.2.1, gss]
  unfold bt
  by_cases z : sp X p < X.2
  · rw [if_neg (nI_ge z (by omega)), if_pos z, if_pos (inb_i (show sp X p < 400 by omega) (by decide)), ixN (by omega), gsr (by decide), h.2.2.2 _ z, (sb_lo (h.2.1 _)).2.2.2.2.1]
  · rw [if_pos (nI_le (by omega) (by omega)), if_neg z]
theorem isDig_R {X : Tx} {k : Nat} {δ : Dm} (h : RX X δ) (hk : k < 2147483648) : f_Mo_isDigit (nI k) δ = some (if bD X k = true then 1 else 0) := by
  have h4 := h.1
  unfold f_Mo_isDigit
  rw [h.2.2.1]
  by_cases z : k < X.2
  · obtain ⟨a1, a2, -⟩ := sb_lo (h.2.1 k)
    rw [if_neg (nI_ge z (by omega)), if_pos (inb_i (show k < 400 by omega) (by decide)), ixN hk, h.2.2.2 k z]
    by_cases y : sb (X.1 k) < 48
    · rw [if_pos y, if_neg (show ¬ bD X k = true from fun w => by have := of_decide_eq_true w; have := a1.mp y; omega)]
    · rw [if_neg y, if_pos (inb_i (show k < 400 by omega) (by decide))]
      by_cases x : (57 : Int32) < sb (X.1 k)
      · rw [if_pos x, if_neg (show ¬ bD X k = true from fun w => by have := of_decide_eq_true w; have := a2.mp x; omega)]
      · have y' : ¬ (X.1 k < 48 ∨ 128 ≤ X.1 k) := fun w => y (a1.mpr w)
        have x' : ¬ (57 < X.1 k ∧ X.1 k < 128) := fun w => x (a2.mpr w)
        rw [if_neg x, if_pos (show bD X k = true from decide_eq_true ⟨z, by omega, by omega⟩)]
  · rw [if_pos (nI_le (by omega) (by omega)), if_neg (show ¬ bD X k = true from fun w => z (of_decide_eq_true w).1)]
theorem isLet_R {X : Tx} {k : Nat} {δ : Dm} (h : RX X δ) (hk : k < 2147483648) : f_Mo_isLetter (nI k) δ = some (if bL X k = true then 1 else 0) := by
  have h4 := h.1
  unfold f_Mo_isLetter
  rw [h.2.2.1]
  by_cases z : k < X.2
  · obtain ⟨-, -, a1, a2, -⟩ := sb_lo (h.2.1 k)
    rw [if_neg (nI_ge z (by omega)), if_pos (inb_i (show k < 400 by omega) (by decide)), ixN hk, h.2.2.2 k z]
    by_cases y : sb (X.1 k) < 97
    · rw [if_pos y, if_neg (show ¬ bL X k = true from fun w => by have := of_decide_eq_true w; have := a1.mp y; omega)]
    · rw [if_neg y, if_pos (inb_i (show k < 400 by omega) (by decide))]
      by_cases x : (122 : Int32) < sb (X.1 k)
      · rw [if_pos x, if_neg (show ¬ bL X k = true from fun w => by have := of_decide_eq_true w; have := a2.mp x; omega)]
      · have y' : ¬ (X.1 k < 97 ∨ 128 ≤ X.1 k) := fun w => y (a1.mpr w)
        have x' : ¬ (122 < X.1 k ∧ X.1 k < 128) := fun w => x (a2.mpr w)
        rw [if_neg x, if_pos (show bL X k = true from decide_eq_true ⟨z, by omega, by omega⟩)]
  · rw [if_pos (nI_le (by omega) (by omega)), if_neg (show ¬ bL X k = true from fun w => z (of_decide_eq_true w).1)]
/-- words as numbers -/
def prd : List Nat → Nat
  | [] => 0
  | b :: l => b + 256 * prd l
theorem prd_lt : ∀ l : List Nat, (∀ b ∈ l, b < 256) → prd l < 256 ^ l.length := by
  intro l
  induction l with
  | nil => intro _; exact Nat.one_pos
  | cons b l ih =>
    intro h
    have a := ih (fun c hc => h c (List.mem_cons_of_mem _ hc))
    have c := h b (List.mem_cons_self ..)
    show b + 256 * prd l < 256 ^ (l.length + 1)
    rw [Nat.pow_succ]; omega
theorem prd_inj : ∀ l m : List Nat, (∀ b ∈ l, 0 < b ∧ b < 256) → (∀ b ∈ m, 0 < b ∧ b < 256) → prd l = prd m → l = m := by
  intro l
  induction l with
  | nil =>
    intro m _ hm h
    cases m with
    | nil => rfl
    | cons c m =>
      have := hm c (List.mem_cons_self ..)
      have h : 0 = c + 256 * prd m := h
      omega
  | cons b l ih =>
    intro m hl hm h
    have hb := hl b (List.mem_cons_self ..)
    cases m with
    | nil =>
      have h : b + 256 * prd l = 0 := h
      omega
    | cons c m =>
      have hc := hm c (List.mem_cons_self ..)
      have h : b + 256 * prd l = c + 256 * prd m := h
      have e : b = c := by omega
      rw [e, ih m (fun x hx => hl x (List.mem_cons_of_mem _ hx)) (fun x hx => hm x (List.mem_cons_of_mem _ hx)) (by omega)]
def pkl (l : List Nat) : Nat := prd l.reverse
def pkN (X : Tx) (s : Nat) : Nat → Nat
  | 0 => 0
  | n + 1 => 256 * pkN X s n + X.1 (s + n)
theorem pkN_eq (X : Tx) (s : Nat) : ∀ n, pkN X s n = pkl (wb X s (s + n)) := by
  intro n
  induction n with
  | zero =>
    show 0 = pkl (wb X s (s + 0))
    unfold wb pkl
    rw [Nat.add_zero, Nat.sub_self]; rfl
  | succ n ih =>
    have e : wb X s (s + (n + 1)) = wb X s (s + n) ++ [X.1 (s + n)] := by
      unfold wb
      rw [show s + (n + 1) - s = n + 1 by omega, show s + n - s = n by omega, List.range_succ, List.map_append]; rfl
    show 256 * pkN X s n + X.1 (s + n) = _
    rw [ih, e]
    unfold pkl
    rw [List.reverse_append]
    show _ = X.1 (s + n) + 256 * prd (wb X s (s + n)).reverse
    omega
theorem lN_inj {a b : Nat} (ha : a < 18446744073709551616) (hb : b < 18446744073709551616) (h : lN a = lN b) : a = b := by
  have h : Int64.ofNat a = Int64.ofNat b := h
  have := congrArg (fun x : Int64 => x.toBitVec.toNat) h
  simp only [Int64.toBitVec_ofNat', BitVec.toNat_ofNat] at this
  omega
def wW (k : Nat) : Int64 := lN (pkl (WL.getD k []))
theorem wW_eq {k : Nat} {l : List Nat} (hk : k < 21) (hl : ∀ b ∈ l, 97 ≤ b ∧ b ≤ 122) (h8 : l.length ≤ 8) : lN (pkl l) = wW k ↔ l = WL.getD k [] := by
  have d : ∀ k, k < 21 → (∀ b ∈ WL.getD k [], 0 < b ∧ b < 256) ∧ pkl (WL.getD k []) < 18446744073709551616 := by decide +kernel
  obtain ⟨d1, d2⟩ := d k hk
  constructor
  · intro h
    have hp : pkl l < 18446744073709551616 := by
      have := prd_lt l.reverse (fun b hb => by have := hl b (List.mem_reverse.mp hb); omega)
      rw [List.length_reverse] at this
      have h5 : 256 ^ l.length ≤ 256 ^ 8 := Nat.pow_le_pow_right (by decide) h8
      have e : (256 : Nat) ^ 8 = 18446744073709551616 := by decide
      unfold pkl
      omega
    have h := lN_inj hp d2 h
    have := prd_inj l.reverse (WL.getD k []).reverse (fun b hb => by have := hl b (List.mem_reverse.mp hb); omega) (fun b hb => d1 b (List.mem_reverse.mp hb)) h
    exact List.reverse_inj.mp this
  · intro h; rw [h]; rfl
theorem shl8 {n b : Nat} (hb : b < 256) : (lN n <<< (((8 : Int32)).toInt64 &&& 63)) ||| lN b = lN (256 * n + b) := by
  rw [show ((8 : Int32)).toInt64 &&& 63 = 8 by decide]
  apply Int64.toBitVec_inj.mp
  rw [Int64.toBitVec_or, Int64.toBitVec_shiftLeft]
  apply BitVec.eq_of_toNat_eq
  rw [show (8 : Int64).toBitVec.smod 64 = 8#64 by decide, BitVec.toNat_or, BitVec.shiftLeft_eq', BitVec.toNat_shiftLeft]
  show (BitVec.ofNat 64 n).toNat <<< 8 % 2 ^ 64 ||| (BitVec.ofNat 64 b).toNat = (BitVec.ofNat 64 (256 * n + b)).toNat
  rw [BitVec.toNat_ofNat, BitVec.toNat_ofNat, BitVec.toNat_ofNat, Nat.shiftLeft_eq]
  have e : n % 2 ^ 64 * 2 ^ 8 % 2 ^ 64 = (n % 2 ^ 56) <<< 8 := by rw [Nat.shiftLeft_eq]; omega
  rw [e, show b % 2 ^ 64 = b by omega, ← Nat.shiftLeft_add_eq_or_of_lt (i := 8) (by omega), Nat.shiftLeft_eq]
  omega
