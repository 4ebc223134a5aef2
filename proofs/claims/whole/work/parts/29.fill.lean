/-! Arrays.fill, for any references -/
noncomputable section
def lp_Ar_fillG_5 (kx5_20 : Int32 → Dm → Option Dm) (a0 : Nat) (a1 : Int32) (v4 : Int32) : Nat → Int32 → Dm → Option Dm
  | 0, _, _ => none
  | f + 1, v2_5, δ5 => (if v4 ≤ v2_5 then (kx5_20 v2_5 δ5) else (if inb v2_5 (KD a0).2 then bnd (sI δ5 a0 (ix v2_5) a1) (fun δ_13 => (lp_Ar_fillG_5 kx5_20 a0 a1 v4 f (v2_5 + (1 : Int32)) δ_13)) else none))
set_option maxHeartbeats 4000000 in
set_option maxRecDepth 100000 in
theorem tl_Ar_fillG_5 {n : Nat} {R : Rm} (kx5_20 : Int32 → Dm → Option Dm) (a0 : Nat) (a1 : Int32) (v4 : Int32) (ha0 : (KD a0).1 = 1) (hkx5_20 : ∀ v2_5k δ5k, AWo k_Ar_fill_II 1 0 0 20 [(0, .ref a0), (1, .int a1), (2, .int v2_5k), (3, .int v4)] [] δ5k R n 0 0 (Kv R n) (kx5_20 v2_5k δ5k)) : ∀ (f : Nat) (v2_5 : Int32) (δ5 : Dm), AWo k_Ar_fill_II 1 0 0 5 [(0, .ref a0), (1, .int a1), (2, .int v2_5), (3, .int v4)] [] δ5 R n 0 0 (Kv R n) (lp_Ar_fillG_5 kx5_20 a0 a1 v4 f v2_5 δ5) := by
  intro f
  induction f with
  | zero => intro _ _; exact aw_none
  | succ f ih =>
    intro v2_5 δ5
    rw [lp_Ar_fillG_5]
    refine aw_iload_n d_Ar_fill_II_5 2 rfl ?_
    refine aw_iload_n d_Ar_fill_II_6 3 rfl ?_
    refine aw_icmp_ge (tgt := 20) d_Ar_fill_II_7 rfl (fun q7 => ?_) (fun q7 => ?_)
    · refine aw_sub (lo' := [(0, .ref a0), (1, .int a1), (2, .int v2_5), (3, .int v4)]) [0, 1, 2, 3] rfl ?_
      exact hkx5_20 _ _
    · refine aw_aload_n d_Ar_fill_II_10 0 rfl ?_
      refine aw_iload_n d_Ar_fill_II_11 2 rfl ?_
      refine aw_iload_n d_Ar_fill_II_12 1 rfl ?_
      refine aw_iast (kdE ha0) d_Ar_fill_II_13 ?_
      refine aw_bD (fun δ_13 => ?_)
      refine aw_iinc (v := (v2_5 + (1 : Int32))) (lo' := [(2, .int (v2_5 + (1 : Int32))), (0, .ref a0), (1, .int a1), (3, .int v4)]) d_Ar_fill_II_14 2 rfl (by rw [show Int32.ofInt (1) = (1 : Int32) from by decide]) (by decide) rfl ?_
      refine aw_goto (tgt := 5) d_Ar_fill_II_17 rfl ?_
      refine aw_sub (lo' := [(0, .ref a0), (1, .int a1), (2, .int (v2_5 + (1 : Int32))), (3, .int v4)]) [1, 2, 0, 3] rfl ?_
      exact ih _ _
def f_Ar_fillG (a0 : Nat) (a1 : Int32) (δ : Dm) : Option Dm := (bnd (nI (KD a0).2) (fun v4 => (lp_Ar_fillG_5 (fun v2_5x δ5x => (some δ5x)) a0 a1 v4 FU (0 : Int32) δ)))
set_option maxHeartbeats 4000000 in
set_option maxRecDepth 100000 in
theorem m_Ar_fillG {a0 : Nat} {a1 : Int32} {δ : Dm} {n : Nat} {R : Rm} (ha0 : (KD a0).1 = 1) : ∀ x, f_Ar_fillG a0 a1 δ = some x → AMet k_Ar_fill_II 1 0 0 [.ref a0, .int a1] δ R n (Kv R n x) := by
  refine aw_start (lo := [(0, .ref a0), (1, .int a1)]) mok_Ar_fill_II rfl (Nat.le_of_ble_eq_true rfl) ?_
  unfold f_Ar_fillG
  refine aw_iconst d_Ar_fill_II_0 ki_0 ?_
  refine aw_istore_n (lo' := [(2, .int (0 : Int32)), (0, .ref a0), (1, .int a1)]) d_Ar_fill_II_1 rfl (by decide) rfl ?_
  refine aw_aload_n d_Ar_fill_II_2 1 rfl ?_
  refine aw_alen (v := (nI (KD a0).2)) (kdE ha0) ⟨by decide, by decide⟩ rfl d_Ar_fill_II_3 ?_
  refine aw_bI (fun v4 => ?_)
  refine aw_istore_n (lo' := [(3, .int v4), (2, .int (0 : Int32)), (0, .ref a0), (1, .int a1)]) d_Ar_fill_II_4 rfl (by decide) rfl ?_
  refine aw_sub (lo' := [(0, .ref a0), (1, .int a1), (2, .int (0 : Int32)), (3, .int v4)]) [2, 3, 1, 0] rfl ?_
  refine tl_Ar_fillG_5 _ _ _ _ ha0 (fun v2_5x δ5x => ?_) FU _ _
  · exact aw_vret rfl rfl ⟨Nat.le_refl _, Nat.le_refl _⟩ d_Ar_fill_II_20
end
def flI (δ : Dm) (a N : Nat) (v : Int32) : Dm := (fun b j => if b = a ∧ j < N then v else δ.1 b j, δ.2)
theorem FU_gt {k : Nat} (h : k < 4294967296) : k < FU := Nat.lt_trans h FU_big
theorem flI_0 {δ : Dm} {a : Nat} {v : Int32} : flI δ a 0 v = δ := by
  refine Prod.ext ?_ rfl
  funext b j
  show (if b = a ∧ j < 0 then v else δ.1 b j) = δ.1 b j
  rw [if_neg (by omega)]
theorem flI_s {δ : Dm} {a i : Nat} {v : Int32} : sI (flI δ a i v) a i v = flI δ a (i + 1) v := by
  refine Prod.ext ?_ rfl
  funext b j
  show (if b = a ∧ j = i then v else if b = a ∧ j < i then v else δ.1 b j) = if b = a ∧ j < i + 1 then v else δ.1 b j
  by_cases h1 : b = a ∧ j = i
  · rw [if_pos h1, if_pos (by omega)]
  · rw [if_neg h1]
    by_cases h2 : b = a ∧ j < i
    · rw [if_pos h2, if_pos (by omega)]
    · rw [if_neg h2, if_neg (by omega)]
theorem KD_small (a : Nat) : (KD a).2 ≤ 35672 := by
  have h1 : ∀ k, k < 164 → (kdL.getD k (0, 0)).2 ≤ 35672 := by decide +kernel
  have h2 : ∀ k, k < 57 → (kdT.getD k (0, 0)).2 ≤ 35672 := by decide +kernel
  unfold KD
  by_cases q1 : a < 4
  · rw [if_pos q1]; decide
  · rw [if_neg q1]
    by_cases q2 : a < 168
    · rw [if_pos q2]; exact h1 _ (by omega)
    · rw [if_neg q2]
      by_cases q3 : a < 396
      · rw [if_pos q3]; exact h2 _ (Nat.mod_lt _ (by decide))
      · rw [if_neg q3]; decide
theorem fillG_loop (kx : Int32 → Dm → Option Dm) (a N : Nat) (v : Int32) (δ : Dm) (hN : (KD a).2 = N) (hs : N < 2147483648) : ∀ (k i f : Nat), i + k = N → k < f → lp_Ar_fillG_5 kx a v (nI N) f (nI i) (flI δ a i v) = kx (nI N) (flI δ a N v) := by
  intro k
  induction k with
  | zero =>
    intro i f hi hf
    obtain ⟨g, rfl⟩ : ∃ g, f = g + 1 := ⟨f - 1, by omega⟩
    have hi : i = N := by omega
    subst hi
    rw [lp_Ar_fillG_5, if_pos (nI_le (Nat.le_refl _) hs)]
  | succ k ih =>
    intro i f hi hf
    obtain ⟨g, rfl⟩ : ∃ g, f = g + 1 := ⟨f - 1, by omega⟩
    rw [lp_Ar_fillG_5, if_neg (nI_ge (by omega) hs), if_pos ⟨by rw [nI_toInt (by omega)]; omega, by rw [nI_toInt (by omega), hN]; omega⟩]
    show lp_Ar_fillG_5 kx a v (nI N) g (nI i + 1) (sI (flI δ a i v) a (ix (nI i)) v) = _
    rw [show ix (nI i) = i from nI_clamp (by omega), flI_s, nI_1]
    exact ih (i + 1) g (by omega) (by omega)
theorem fillG_eq {a N : Nat} {v : Int32} {δ : Dm} (hN : (KD a).2 = N) : f_Ar_fillG a v δ = some (flI δ a N v) := by
  have hs : N < 2147483648 := by have := KD_small a; omega
  have h := fillG_loop (fun _ δ5 => some δ5) a N v δ hN hs N 0 FU (by omega) (FU_gt (by omega))
  rw [flI_0, nI_0] at h
  simp only [f_Ar_fillG, bnd, hN]
  exact h
theorem m_fillC {a N : Nat} {v : Int32} {δ : Dm} {R : Rm} {n : Nat} (ha : KD a = (1, N)) : AMet k_Ar_fill_II 1 0 0 [.ref a, .int v] δ R n (none, flI δ a N v, R, n) :=
  m_Ar_fillG (congrArg Prod.fst ha) _ (fillG_eq (congrArg Prod.snd ha))
