/-! count, of, end, move, place -/
theorem ite_ex {α : Type} {c : Prop} [Decidable c] {A B : Option α} (a : ∃ v, A = some v) (b : ∃ v, B = some v) : ∃ v, (if c then A else B) = some v := by
  by_cases h : c
  · rw [if_pos h]; exact a
  · rw [if_neg h]; exact b
theorem op_count (a : Int32) : OpP (f_Fp_count a) (f_Mo_count a) := by
  intro δ n S ⟨hC, hM, ok⟩
  obtain ⟨c0, c1, c2, c3, c4, c5, c6⟩ := cG hC.1
  obtain ⟨m0, m1, m2, m3, m4, m5, m6⟩ := mS hM.1
  have c3 : gI δ 34 0 = _ := c3
  have c4 : gI δ 34 1 = _ := c4
  have c5 : gI δ 45 0 = _ := c5
  have c6 : gI δ 45 1 = _ := c6
  have e : f_Mo_count a δ = f_Fp_count a δ := by
    simp only [f_Fp_count, f_Mo_count, if_pos (show inb (0 : Int32) 8918 by decide), if_pos (show inb (1 : Int32) 8918 by decide), if_pos (show inb (2 : Int32) 8918 by decide), if_pos (show inb (3 : Int32) 8918 by decide), if_pos (show inb (4 : Int32) 8918 by decide), if_pos (show inb (5 : Int32) 8918 by decide), if_pos (show inb (6 : Int32) 8918 by decide), show ix (0 : Int32) = 0 from rfl, show ix (1 : Int32) = 1 from rfl, show ix (2 : Int32) = 2 from rfl, show ix (3 : Int32) = 3 from rfl, show ix (4 : Int32) = 4 from rfl, show ix (5 : Int32) = 5 from rfl, show ix (6 : Int32) = 6 from rfl, c0, c1, c2, c3, c4, c5, c6, m0, m1, m2, m3, m4, m5, m6, hC.2.1, hC.2.2.2.1, hM.2.1, hM.2.2.2.1]
  rw [e]
  have x : ∃ v, f_Fp_count a δ = some v := by
    unfold f_Fp_count
    exact ite_ex ⟨_, rfl⟩ (ite_ex ⟨_, rfl⟩ (ite_ex ⟨_, rfl⟩ (ite_ex ⟨_, rfl⟩ (ite_ex ⟨_, rfl⟩ (ite_ex ⟨_, rfl⟩ (ite_ex ⟨_, rfl⟩ (ite_ex ⟨_, rfl⟩ (ite_ex ⟨_, rfl⟩ ⟨_, rfl⟩))))))))
  exact x.imp fun v h => ⟨h, h⟩
theorem ti {a : Int32} {k : Nat} (hk : k < 2147483648) : (a.toInt = (k : Int)) = (a = nI k) := by
  refine propext ⟨fun h => ?_, fun h => by rw [h, nI_toInt hk]⟩
  rw [← Int32.toInt_inj, nI_toInt hk]; exact h
theorem cSs {δ : Dm} {n b k : Nat} {S : St} (h : RepC δ n S) (hb : b < 8) (hk : k < 3) : gI δ (54 + 4 * b + 1) k = nI (bc S.1.1 b (3 + k)) := cS h.1 hb hk
theorem op_of (a1 a2 : Int32) : OpP (f_Fp_of a1 a2) (f_Mo_of a1 a2) := by
  intro δ n S ⟨hC, hM, ok⟩
  have k8 : S.1.1 2 ≤ 8 := ok.1.1.2.2.1
  have b1 : f_To_boothAt a1 δ = some (if inb a1 (S.1.1 2) then some (54 + 4 * ix a1) else none) := boothAt_eq k8 (cG hC.1).2.2.1
  have b2 : f_Mo_isBooth a1 δ = some (bI (inb a1 (S.1.1 2))) := isBooth_eq (by omega) (mS hM.1).2.2.1
  by_cases h1 : inb a1 (S.1.1 2)
  · obtain ⟨b, hb, rfl⟩ := inb_ex (by omega) h1
    have hb8 : b < 8 := by omega
    by_cases h2 : nI 0 ≤ a2 ∧ a2 ≤ nI 7
    · obtain ⟨k, -, hk, rfl⟩ := low_i (by decide) h2 (by decide)
      have E : ∀ j : Nat, j < 8 → (((nI k).toInt = (j : Int)) = (k = j)) := fun j hj => by rw [ti (by omega)]; exact propext (nI_eq (by omega) (by omega))
      have E0 := E 0 (by decide); have E1 := E 1 (by decide); have E2 := E 2 (by decide); have E3 := E 3 (by decide); have E4 := E 4 (by decide); have E5 := E 5 (by decide); have E6 := E 6 (by decide); have E7 := E 7 (by decide)
      have F : f_Mo_cell (nI b) (nI k + 3) δ = some (gI δ 152 (566 + (20 * b + (k + 3)))) := by
        rw [show nI k + 3 = nI (k + 3) from nI_add k 3]; exact cell_eq hb8 (by omega)
      refine ⟨if k < 3 then nI (bc S.1.1 b (3 + k)) else if k = 3 then nI (bc S.1.1 b 6) else if k = 4 then nI (bc S.1.1 b 7) else if k = 5 then nI (bc S.1.1 b 8) else if k = 6 then nI (bc S.1.1 b 0) else nI (bc S.1.1 b 9), ?_, ?_⟩
      · simp only [f_Fp_of, b1, ocs, Option.bind, if_pos h1, ixN (show b < 2147483648 by omega), if_pos (isB_at b hb8).1]
        have g : k < 3 → f_Fp_get (54 + 4 * b + 1) (nI k) δ = some (nI (bc S.1.1 b (3 + k))) := fun q => by rw [get_in (KD_b b hb8).1 q, cSs hC hb8 q]
        rw [cBs 6 4 rfl hC hb8 (by decide) (by decide), cBs 7 5 rfl hC hb8 (by decide) (by decide), cBs 8 6 rfl hC hb8 (by decide) (by decide), cBs 0 0 rfl hC hb8 (by decide) (by decide), cBs 9 7 rfl hC hb8 (by decide) (by decide)]
        rcases (by omega : k = 0 ∨ k = 1 ∨ k = 2 ∨ k = 3 ∨ k = 4 ∨ k = 5 ∨ k = 6 ∨ k = 7) with rfl | rfl | rfl | rfl | rfl | rfl | rfl | rfl
        · rw [if_pos (by decide), g (by decide), if_pos (by decide)]
        · rw [if_neg (by decide), if_pos (by decide), g (by decide), if_pos (by decide)]
        · rw [if_neg (by decide), if_neg (by decide), if_pos (by decide), g (by decide), if_pos (by decide)]
        · rfl
        · rfl
        · rfl
        · rfl
        · rfl
      · simp only [f_Mo_of, b2, Option.bind, ifb, if_pos h1, if_pos h2, il (show 0 < 2147483648 by decide) (show 7 < 2147483648 by decide)]
        have c : ∀ w, w < 12 → f_Mo_cell (nI b) (nI w) δ = some (nI (bc S.1.1 b w)) := fun w hw => by rw [cell_eq hb8 (by omega), mBs w hM hb8 hw]
        rcases (by omega : k = 0 ∨ k = 1 ∨ k = 2 ∨ k = 3 ∨ k = 4 ∨ k = 5 ∨ k = 6 ∨ k = 7) with rfl | rfl | rfl | rfl | rfl | rfl | rfl | rfl
        · rw [if_neg (by decide), if_neg (by decide), if_neg (by decide), if_neg (by decide), if_neg (by decide), show (3 : Int32) + nI 0 = nI 3 from rfl, c 3 (by decide)]; rfl
        · rw [if_neg (by decide), if_neg (by decide), if_neg (by decide), if_neg (by decide), if_neg (by decide), show (3 : Int32) + nI 1 = nI 4 from rfl, c 4 (by decide)]; rfl
        · rw [if_neg (by decide), if_neg (by decide), if_neg (by decide), if_neg (by decide), if_neg (by decide), show (3 : Int32) + nI 2 = nI 5 from rfl, c 5 (by decide)]; rfl
        · rw [if_pos (by decide), show (6 : Int32) = nI 6 from rfl, c 6 (by decide)]; rfl
        · rw [if_neg (by decide), if_pos (by decide), show (7 : Int32) = nI 7 from rfl, c 7 (by decide)]; rfl
        · rw [if_neg (by decide), if_neg (by decide), if_pos (by decide), show (8 : Int32) = nI 8 from rfl, c 8 (by decide)]; rfl
        · rw [if_neg (by decide), if_neg (by decide), if_neg (by decide), if_pos (by decide), show (0 : Int32) = nI 0 from rfl, c 0 (by decide)]; rfl
        · rw [if_neg (by decide), if_neg (by decide), if_neg (by decide), if_neg (by decide), if_pos (by decide), show (9 : Int32) = nI 9 from rfl, c 9 (by decide)]; rfl
    · refine ⟨-1, ?_, ?_⟩
      · simp only [f_Fp_of, b1, ocs, Option.bind, if_pos h1, ixN (show b < 2147483648 by omega), if_pos (isB_at b hb8).1]
        have E : ∀ j : Nat, j < 8 → ¬ (a2.toInt = (j : Int)) := fun j hj q => h2 (by
          rw [ti (by omega)] at q; subst q; exact ⟨nI_le (by omega) (by omega), nI_le (by omega) (by omega)⟩)
        rw [if_neg (show ¬ a2.toInt = (0 : Int) from E 0 (by decide)), if_neg (show ¬ a2.toInt = (1 : Int) from E 1 (by decide)), if_neg (show ¬ a2.toInt = (2 : Int) from E 2 (by decide)), if_neg (show ¬ a2.toInt = (3 : Int) from E 3 (by decide)), if_neg (show ¬ a2.toInt = (4 : Int) from E 4 (by decide)), if_neg (show ¬ a2.toInt = (5 : Int) from E 5 (by decide)), if_neg (show ¬ a2.toInt = (6 : Int) from E 6 (by decide)), if_neg (show ¬ a2.toInt = (7 : Int) from E 7 (by decide))]
      · simp only [f_Mo_of, b2, Option.bind, ifb, if_pos h1, if_neg h2, il (show 0 < 2147483648 by decide) (show 7 < 2147483648 by decide)]
  · refine ⟨-1, ?_, ?_⟩
    · simp only [f_Fp_of, b1, ocs, Option.bind, if_neg h1]
    · simp only [f_Mo_of, b2, Option.bind, ifb, if_neg h1]
/-- the free places -/
def frP (G : Nat → Nat) (a : Int32) : Prop := ∀ c, c < G 2 → nI (bc G c 0) ≠ a
theorem isFree_eq {a : Int32} {δ : Dm} {n : Nat} {S : St} (h : RepC δ n S) (ok : Ok S) : (frP S.1.1 a → f_To_isFree a δ = some (bI (inb a (S.1.1 1)))) ∧ (¬ frP S.1.1 a → f_To_isFree a δ = some 0) := by
  have k8 : S.1.1 2 ≤ 8 := ok.1.1.2.2.1
  have k12 : S.1.1 1 ≤ 12 := ok.1.1.2.1
  have hh : f_To_hasPlace a δ = some (bI (inb a (S.1.1 1))) := hasPlace_eq (by omega) (cG h.1).2.1
  have h2 : gI δ 29 2 = nI (S.1.1 2) := (cG h.1).2.2.1
  have Q := for_brk (fun f i (_ : Unit) => lp_To_isFree_2 (fun _ => (f_To_hasPlace a δ).bind (fun y38 => (if y38 = 0 ∨ y38 = 1 then (some y38) else none))) a δ f i) (S.1.1 2) (by omega) (fun i _ => ∀ c, c < i → nI (bc S.1.1 c 0) ≠ a) (fun r => (frP S.1.1 a → r = some (bI (inb a (S.1.1 1)))) ∧ (¬ frP S.1.1 a → r = some 0))
    (fun f i _ hi hI => by
      simp only [lp_To_isFree_2]
      rw [h2, if_neg (nI_ge hi (by omega)), slot_eq, if_pos (inb_i (by omega) (by decide)), ixN (by omega)]
      simp only [Option.bind, ocs]
      rw [if_pos (isB_at i (by omega)).1, cBs 0 0 rfl h (by omega) (by decide) (by decide)]
      by_cases q : nI (bc S.1.1 i 0) = a
      · left
        rw [if_pos q]
        exact ⟨fun z => absurd q (z i hi), fun _ => rfl⟩
      · right
        rw [if_neg q, nI_1]
        refine ⟨(), fun c hc => ?_, rfl⟩
        by_cases hci : c = i
        · subst hci; exact q
        · exact hI c (by omega))
    (fun f _ hI => by
      simp only [lp_To_isFree_2]
      rw [h2, if_pos (nI_le (Nat.le_refl _) (by omega)), hh]
      simp only [Option.bind]
      rw [if_pos bI_01]
      exact ⟨fun _ => rfl, fun z => absurd hI z⟩) 0 () (Nat.zero_le _) (fun c hc => absurd hc (by omega))
  exact Q
theorem at_eq {a : Int32} {δ : Dm} {S : St} (h : RepM δ S) (ok : Ok S) : (frP S.1.1 a → f_Mo_at a δ = some (-1)) ∧ (¬ frP S.1.1 a → ∃ c, c < 8 ∧ f_Mo_at a δ = some (nI c)) := by
  have k8 : S.1.1 2 ≤ 8 := ok.1.1.2.2.1
  have h2 : gI δ 152 2 = nI (S.1.1 2) := (mS h.1).2.2.1
  exact for_brk (fun f i (_ : Unit) => lp_Mo_at_2 (fun _ => (some (-1 : Int32))) a δ f i) (S.1.1 2) (by omega) (fun i _ => ∀ c, c < i → nI (bc S.1.1 c 0) ≠ a) (fun r => (frP S.1.1 a → r = some (-1)) ∧ (¬ frP S.1.1 a → ∃ c, c < 8 ∧ r = some (nI c)))
    (fun f i _ hi hI => by
      simp only [lp_Mo_at_2]
      rw [if_pos (show inb (2 : Int32) 8918 by decide), show ix (2 : Int32) = 2 from rfl, h2, if_neg (nI_ge hi (by omega)), show (0 : Int32) = nI 0 from rfl, cell_eq (by omega) (by decide), mBs 0 h (by omega) (by decide)]
      simp only [Option.bind]
      by_cases q : nI (bc S.1.1 i 0) = a
      · left
        rw [if_pos q]
        exact ⟨fun z => absurd q (z i hi), fun _ => ⟨i, by omega, rfl⟩⟩
      · right
        rw [if_neg q, nI_1]
        refine ⟨(), fun c hc => ?_, rfl⟩
        by_cases hci : c = i
        · subst hci; exact q
        · exact hI c (by omega))
    (fun f _ hI => by
      simp only [lp_Mo_at_2]
      rw [if_pos (show inb (2 : Int32) 8918 by decide), show ix (2 : Int32) = 2 from rfl, h2, if_pos (nI_le (Nat.le_refl _) (by omega))]
      exact ⟨fun _ => rfl, fun z => absurd hI z⟩) 0 () (Nat.zero_le _) (fun c hc => absurd hc (by omega))
theorem nI_nm1 {c : Nat} (h : c < 2147483648) : ¬ nI c = -1 := fun q => by
  have := congrArg Int32.toInt q
  rw [nI_toInt h, show (-1 : Int32).toInt = -1 from rfl] at this; omega
theorem op_move (a1 a2 : Int32) : OpG (f_Fp_move a1 a2) (f_Mo_move a1 a2) := mk_op fun n S ok => by
  have k8 : S.1.1 2 ≤ 8 := ok.1.1.2.2.1
  have k12 : S.1.1 1 ≤ 12 := ok.1.1.2.1
  have b1 : ∀ δ, RepC δ n S → f_To_boothAt a1 δ = some (if inb a1 (S.1.1 2) then some (54 + 4 * ix a1) else none) := fun δ h => boothAt_eq k8 (cG h.1).2.2.1
  have b2 : ∀ δ, RepM δ S → f_Mo_isBooth a1 δ = some (bI (inb a1 (S.1.1 2))) := fun δ h => isBooth_eq (by omega) (mS h.1).2.2.1
  have p2 : ∀ δ, RepM δ S → f_Mo_isPlace a2 δ = some (bI (inb a2 (S.1.1 1))) := fun δ h => isPlace_eq (by omega) (mS h.1).2.1
  by_cases h1 : inb a1 (S.1.1 2)
  · obtain ⟨b, hb, rfl⟩ := inb_ex (by omega) h1
    have hb8 : b < 8 := by omega
    by_cases h2 : frP S.1.1 a2
    · by_cases h3 : inb a2 (S.1.1 1)
      · obtain ⟨p, hp, rfl⟩ := inb_ex (by omega) h3
        have d1 := dom_b (b := b) (w := 0) (by omega) (by decide)
        refine ⟨nI (bc S.1.1 b 0), setG S (566 + (20 * b + 0)) p, fun δ h => ⟨sI δ (54 + 4 * b) 0 (nI p), ?_, uC _ _ _ p d1.1 (by rw [d1.2.1, if_neg (by decide)]; omega) (by rw [d1.2.2]; rfl) ok.2.1 h, KMs (KM.refl _) (by omega)⟩, fun δ h => ⟨sI δ 152 (566 + (20 * b + 0)) (nI p), ?_, SM_up (Or.inl d1.1) (okL_of ok) h, KCs (KC.refl _) (by decide)⟩, Ok_s ok (ok_b ok.1 hb (by decide) (by decide) (fun _ => ⟨hp, fun c hc hcb z => h2 c hc (congrArg nI z)⟩) (fun h => absurd h (by decide)) (fun h1 h2 => absurd h1 (by decide)) (fun h => absurd h (by decide)) (fun h => absurd h (by decide)) (fun h => absurd h (by decide)))⟩
        · simp only [f_Fp_move, b1 δ h, ocs, Option.bind, if_pos h1, ixN (show b < 2147483648 by omega), if_pos (isB_at b hb8).1, (isFree_eq h ok).1 h2, ifb, if_pos h3, bnd]
          rw [cBs 0 0 rfl h hb8 (by decide) (by decide)]
        · simp only [f_Mo_move, b2 δ h, p2 δ h, Option.bind, ifb, if_pos h1, if_pos h3, (at_eq h ok).1 h2]
          rw [if_pos True.intro, show (0 : Int32) = nI 0 from rfl, cell_eq hb8 (by decide), sets_eq hb8 (by decide)]
          simp only []
          rw [mBs 0 h hb8 (by decide)]
      · refine nop (-1) ok (fun δ h => ?_) (fun δ h => ?_)
        · simp only [f_Fp_move, b1 δ h, ocs, Option.bind, if_pos h1, ixN (show b < 2147483648 by omega), if_pos (isB_at b hb8).1, (isFree_eq h ok).1 h2, ifb, if_neg h3]
        · simp only [f_Mo_move, b2 δ h, p2 δ h, Option.bind, ifb, if_pos h1, if_neg h3]
    · refine nop (-1) ok (fun δ h => ?_) (fun δ h => ?_)
      · simp only [f_Fp_move, b1 δ h, ocs, Option.bind, if_pos h1, ixN (show b < 2147483648 by omega), if_pos (isB_at b hb8).1, (isFree_eq h ok).2 h2, if_true]
      · simp only [f_Mo_move, b2 δ h, p2 δ h, Option.bind, ifb, if_pos h1]
        by_cases h3 : inb a2 (S.1.1 1)
        · obtain ⟨c, hc, e⟩ := (at_eq h ok).2 h2
          rw [if_pos h3, e]
          simp only []
          rw [if_neg (nI_nm1 (by omega))]
        · rw [if_neg h3]
  · refine nop (-1) ok (fun δ h => ?_) (fun δ h => ?_)
    · simp only [f_Fp_move, b1 δ h, ocs, Option.bind, if_neg h1]
    · simp only [f_Mo_move, b2 δ h, Option.bind, ifb, if_neg h1]
