/-! image, back -/
def OpI (cf : Dm → Nat → Option (Int32 × Dm × Nat)) (mf : Dm → Option (Int32 × Dm)) : Prop := ∀ δ n S, Rep δ n S → ∃ v δ1 n' δ2 S', cf δ n = some (v, δ1, n') ∧ mf δ1 = some (v, δ2) ∧ Rep δ2 n' S' ∧ (∀ b j, b < 4 → gI δ1 b j = gI δ b j) ∧ (∀ b j, b < 4 → gI δ2 b j = gI δ b j)
theorem isT_im {j : Nat} (h : j < 4) : isT (168 + 57 * j) = true := by
  have d : ∀ j, j < 4 → isT (168 + 57 * j) = true := by decide
  exact d j h
theorem dR_i {a : Nat} (h0 : 0 < a) (h : a < 2147483648) : dR (nI a) = some a := by
  unfold dR
  rw [if_neg (nI_ne0 h0 h), nI_clamp h]
theorem gDe {l : List Nat} {i : Nat} (h : i < l.length) : l.getD i 0 = l[i] := by
  rw [List.getD_eq_getElem?_getD, List.getElem?_eq_getElem h]
  rfl
theorem nd_ne {l : List Nat} (h : l.Nodup) {i j : Nat} (hi : i < l.length) (hj : j < l.length) (hij : i ≠ j) : l[i] ≠ l[j] := by
  have hp := List.pairwise_iff_getElem.mp h
  rcases Nat.lt_or_gt_of_ne hij with z | z
  · exact hp i j hi hj z
  · exact fun q => hp j i hj hi z q.symm
theorem imgs_le {S : St} (ok : Ok S) {k : Nat} (hk : k < 4) (hn : k ∉ (sM S).map Prod.fst) : (sM S).length ≤ 3 := by
  obtain ⟨-, -, -, -, -, h6, h7⟩ := ok
  obtain ⟨l, hl⟩ : ∃ l, (sM S).map Prod.fst = l := ⟨_, rfl⟩
  rw [hl] at h7 hn
  have hlen : l.length = (sM S).length := by rw [← hl, List.length_map]
  have hm : ∀ x ∈ l, x < 4 := fun x hx => by
    rw [← hl] at hx
    obtain ⟨q, hq, rfl⟩ := List.mem_map.mp hx
    exact (h6 q hq).2
  have hnd : (k :: l).Nodup := List.nodup_cons.mpr ⟨hn, h7⟩
  have := pigeon 4 (k :: l).length (fun i => (k :: l).getD i 0) (fun i hi => by
    show (k :: l).getD i 0 < 4
    have e : (k :: l).getD i 0 = (k :: l)[i] := gDe hi
    rw [e]
    rcases List.mem_cons.mp (List.getElem_mem hi) with q | q
    · rw [q]; exact hk
    · exact hm _ q) (fun i j hi hj hij => by
    show (k :: l).getD i 0 ≠ (k :: l).getD j 0
    have e1 : (k :: l).getD i 0 = (k :: l)[i] := gDe hi
    have e2 : (k :: l).getD j 0 = (k :: l)[j] := gDe hj
    rw [e1, e2]
    exact nd_ne hnd hi hj hij)
  rw [List.length_cons] at this
  omega
theorem img4 {S : St} (ok : Ok S) : (sM S).length ≤ 4 := by
  obtain ⟨-, -, -, -, -, h6, h7⟩ := ok
  obtain ⟨l, hl⟩ : ∃ l, (sM S).map Prod.fst = l := ⟨_, rfl⟩
  rw [hl] at h7
  have hlen : l.length = (sM S).length := by rw [← hl, List.length_map]
  have hm : ∀ x ∈ l, x < 4 := fun x hx => by
    rw [← hl] at hx
    obtain ⟨q, hq, rfl⟩ := List.mem_map.mp hx
    exact (h6 q hq).2
  have := pigeon 4 l.length (fun i => l.getD i 0) (fun i hi => by
    show l.getD i 0 < 4
    have e : l.getD i 0 = l[i] := gDe hi
    rw [e]
    exact hm _ (List.getElem_mem hi)) (fun i j hi hj hij => by
    show l.getD i 0 ≠ l.getD j 0
    have e1 : l.getD i 0 = l[i] := gDe hi
    have e2 : l.getD j 0 = l[j] := gDe hj
    rw [e1, e2]
    exact nd_ne h7 hi hj hij)
  omega
/-- back: the reference -/
theorem back_M {k : Nat} {δ : Dm} {S : St} {q : Nat × Tw} (h : RepM δ S) (ok : Ok S) (hk : k < 4) (hq : q ∈ sM S) (hqk : q.1 = k) : ∃ d, f_Mo_back (nI k) δ = some (nI (q.2.1 0), d) ∧ RepM d (q.2, S.2) ∧ KC δ d := by
  have hmade : gI δ 167 k = 1 := by
    have := h.2.2.2.2.2.2 k hk
    rw [this]
    unfold bI
    rw [if_pos (List.mem_map.mpr ⟨q, hq, hqk⟩)]
  have hR := h.2.2.2.2.2.1 q hq
  rw [hqk] at hR
  have okq := (ok.2.2.2.2.2.1 q hq).1
  unfold f_Mo_back
  rw [show f_Mo_in (nI k).toInt64 0 3 δ = some (bI (inb (nI k) 4)) from in0 (n := 3) (by decide) rfl, Option.bind_some, ifb, if_pos (inb_i hk (by decide)), if_pos (inb_i hk (by decide)), ixN (show k < 2147483648 by omega), hmade, if_neg (by decide)]
  refine for_inv (fun f i d => lp_Mo_back_25 (fun v2_25x δ25x => (if inb (0 : Int32) 8918 then (some ((gI δ25x 152 (ix (0 : Int32))), δ25x)) else none)) (nI k) f i d) 8918 (by decide) (fun i d => (∀ c j, c ≠ 152 → gI d c j = gI δ c j) ∧ ∀ j, j < i → gI d 152 j = gI δ 166 (8918 * k + j)) (fun r => ∃ d, r = some (nI (q.2.1 0), d) ∧ RepM d (q.2, S.2) ∧ KC δ d) (fun f i d hi hI => ?_) (fun f d hI => ?_) 0 δ (by decide) ⟨fun _ _ _ => rfl, fun j hj => absurd hj (Nat.not_lt_zero _)⟩
  · obtain ⟨i1, i2⟩ := hI
    refine ⟨sI d 152 i (gI δ 166 (8918 * k + i)), ⟨fun c j z => by rw [gsr z]; exact i1 c j z, fun j hj => ?_⟩, ?_⟩
    · by_cases z : j = i
      · subst z; rw [gss]
      · rw [gsc z]; exact i2 j (by omega)
    · simp only [lp_Mo_back_25]
      rw [if_neg (show ¬ (8918 : Int32) ≤ nI i from nI_ge hi (by decide)), show ((8918 : Int32) * nI k) + nI i = nI (8918 * k + i) by rw [lit, pk_mul, nI_add], if_pos (inb_i (show 8918 * k + i < 35672 by omega) (by decide)), if_pos (inb_i hi (by decide)), ixN (show i < 2147483648 by omega), ixN (show 8918 * k + i < 2147483648 by omega), i1 166 _ (by decide), bndE, nI_1]
  · obtain ⟨i1, i2⟩ := hI
    have hT : RM 152 0 d q.2 := RM_cp hR okq (fun i hi => by rw [Nat.zero_add]; exact i2 i hi)
    simp only [lp_Mo_back_25]
    rw [if_pos (show (8918 : Int32) ≤ nI 8918 by decide), if_pos (show inb (0 : Int32) 8918 by decide), show ix (0 : Int32) = 0 from rfl, mG hT (Or.inl (Or.inl (by decide)))]
    exact ⟨d, rfl, SM_T h hT (fun b j z => i1 b j z), fun b j z => i1 b j (by omega)⟩
theorem back_C {n k j : Nat} {δ : Dm} {S : St} {q : Nat × Tw} (h : RepC δ n S) (ok : Ok S) (hk : k < 4) (hj : (sM S)[j]? = some q) (hqk : q.1 = k) : ∃ d, f_Fp_back (nI k) δ = some (nI (q.2.1 0), d) ∧ RepC d n (q.2, S.2) ∧ KM δ d := by
  have hj4 := idx_lt hj
  have l4 := img4 ok
  obtain ⟨a1, a2⟩ := h.2.2.2.2.2.2.1 j q hj
  rw [hqk] at a1
  have okq := (ok.2.2.2.2.2.1 q (List.mem_of_getElem? hj)).1
  obtain ⟨d, e1, e2, e3⟩ := to_bec (a0 := 29) (a1 := 168 + 57 * j) (δ := δ) (by decide) (isT_im (by omega)) (Or.inl (by omega))
  have hT : RC 29 d q.2 := RC_cp a2 okq e3
  have fr : ∀ b i, (b < 29 ∨ 86 ≤ b) → gI d b i = gI δ b i := fun b i z => e2 b i (fun o ho w => by omega)
  refine ⟨d, ?_, SC_T h ok.2.1 hT fr, fun b i z => fr b i (by omega)⟩
  unfold f_Fp_back
  rw [if_neg (nI_pos (by omega)), if_pos (show nI k < (4 : Int32) from nI_lt hk (by decide)), if_pos (inb_i hk (by decide)), ixN (show k < 2147483648 by omega), a1, dR_i (by omega) (by omega)]
  simp only [ocs]
  rw [if_pos (isT_im (show j < 4 by omega)), e1, Option.bind_some, (cG hT).1]
theorem op_back (a1 : Int32) : OpG (f_Fp_back a1) (f_Mo_back a1) := mk_op fun n S ok => by
  have i3 : ∀ δ, f_Mo_in a1.toInt64 0 3 δ = some (bI (inb a1 4)) := fun δ => in0 (n := 3) (by decide) rfl
  by_cases h1 : inb a1 4
  · obtain ⟨k, hk, rfl⟩ := inb_ex (by decide) h1
    by_cases h2 : k ∈ (sM S).map Prod.fst
    · obtain ⟨q, hq, hqk⟩ := List.mem_map.mp h2
      obtain ⟨j, hj, hjq⟩ := List.mem_iff_getElem.mp hq
      have hj' : (sM S)[j]? = some q := by rw [List.getElem?_eq_getElem hj, hjq]
      exact ⟨nI (q.2.1 0), (q.2, S.2), fun δ h => back_C h ok hk hj' hqk, fun δ h => back_M h ok hk hq hqk, Ok_T ok (ok.2.2.2.2.2.1 q hq).1⟩
    · refine nop (-1) ok (fun δ h => ?_) (fun δ h => ?_)
      · unfold f_Fp_back
        rw [if_neg (nI_pos (by omega)), if_pos (show nI k < (4 : Int32) from nI_lt hk (by decide)), if_pos (inb_i hk (by decide)), ixN (show k < 2147483648 by omega), h.2.2.2.2.2.2.2 k hk h2]
        rfl
      · unfold f_Mo_back
        rw [i3, Option.bind_some, ifb, if_pos h1, if_pos h1, ixN (show k < 2147483648 by omega), h.2.2.2.2.2.2 k hk]
        unfold bI
        rw [if_neg h2, if_pos rfl]
  · refine nop (-1) ok (fun δ h => ?_) (fun δ h => ?_)
    · unfold f_Fp_back
      rw [inb0 (by decide)] at h1
      by_cases z : a1 < 0
      · rw [if_pos z]
      · rw [if_neg z, if_neg (show ¬ a1 < (4 : Int32) from fun w => h1 ⟨z, Int32.not_le.mpr w⟩)]
    · unfold f_Mo_back
      rw [i3, Option.bind_some, ifb, if_neg h1]
