/-! image -/
def setM (S : St) (M : List (Nat × Tw)) : St := (S.1, S.2.1, S.2.2.1, S.2.2.2.1, M)
theorem image_M {k : Nat} {δ : Dm} {S : St} {M : List (Nat × Tw)} (h : RepM δ S) (ok : Ok S) (hk : k < 4) (hM : ∀ q ∈ M, q = (k, S.1) ∨ (q ∈ sM S ∧ q.1 ≠ k)) (hK : ∀ x, x ∈ M.map Prod.fst ↔ x = k ∨ x ∈ (sM S).map Prod.fst) : ∃ d, f_Mo_image (nI k) δ = some (nI (S.1.1 0), d) ∧ RepM d (setM S M) ∧ KC δ d := by
  unfold f_Mo_image
  rw [show f_Mo_in (nI k).toInt64 0 3 δ = some (bI (inb (nI k) 4)) from in0 (n := 3) (by decide) rfl, Option.bind_some, ifb, if_pos (inb_i hk (by decide)), if_pos (inb_i hk (by decide)), ixN (show k < 2147483648 by omega), bndE, show vp_nar .boolean (1 : Int32) = 1 from rfl]
  refine for_inv (fun f i d => lp_Mo_image_23 (fun v2_23x δ23x => (if inb (0 : Int32) 8918 then (some ((gI δ23x 152 (ix (0 : Int32))), δ23x)) else none)) (nI k) f i d) 8918 (by decide) (fun i d => (∀ c j, c ≠ 166 → c ≠ 167 → gI d c j = gI δ c j) ∧ (∀ j, gI d 167 j = if j = k then 1 else gI δ 167 j) ∧ (∀ j, j < i → gI d 166 (8918 * k + j) = gI δ 152 j) ∧ ∀ j, (j < 8918 * k ∨ 8918 * k + 8918 ≤ j) → gI d 166 j = gI δ 166 j) (fun r => ∃ d, r = some (nI (S.1.1 0), d) ∧ RepM d (setM S M) ∧ KC δ d) (fun f i d hi hI => ?_) (fun f d hI => ?_) 0 (sI δ 167 k 1) (by decide) ⟨fun c j _ z => gsr z, fun j => ?_, fun j hj => absurd hj (Nat.not_lt_zero _), fun j _ => gsr (by decide)⟩
  · obtain ⟨i1, i2, i3, i4⟩ := hI
    refine ⟨sI d 166 (8918 * k + i) (gI δ 152 i), ⟨fun c j z z' => by rw [gsr z]; exact i1 c j z z', fun j => by rw [gsr (by decide)]; exact i2 j, fun j hj => ?_, fun j hj => by rw [gsc (by omega)]; exact i4 j hj⟩, ?_⟩
    · by_cases z : j = i
      · subst z; rw [gss]
      · rw [gsc (by omega)]; exact i3 j (by omega)
    · simp only [lp_Mo_image_23]
      rw [if_neg (show ¬ (8918 : Int32) ≤ nI i from nI_ge hi (by decide)), if_pos (inb_i hi (by decide)), show ((8918 : Int32) * nI k) + nI i = nI (8918 * k + i) by rw [lit, pk_mul, nI_add], if_pos (inb_i (show 8918 * k + i < 35672 by omega) (by decide)), ixN (show i < 2147483648 by omega), ixN (show 8918 * k + i < 2147483648 by omega), i1 152 _ (by decide) (by decide), bndE, nI_1]
  · obtain ⟨i1, i2, i3, i4⟩ := hI
    obtain ⟨h1, h2, h3, h4, h5, h6, h7⟩ := h
    simp only [lp_Mo_image_23]
    have hT : RM 152 0 d S.1 := RM_keepO h1 ok.1 (fun j => i1 152 j (by decide) (by decide))
    rw [if_pos (show (8918 : Int32) ≤ nI 8918 by decide), if_pos (show inb (0 : Int32) 8918 by decide), show ix (0 : Int32) = 0 from rfl, mG hT (Or.inl (Or.inl (by decide)))]
    refine ⟨d, rfl, ⟨hT, by rw [i1 151 3 (by decide) (by decide)]; exact h2, fun i L q => LM_keep (h3 i L q) (fun b j a c => i1 b j (by omega) (by omega)), by rw [i1 151 2 (by decide) (by decide)]; exact h4, fun j q => by rw [i1 153 j (by decide) (by decide)]; exact h5 j q, fun q hq => ?_, fun x hx => ?_⟩, fun b j z => i1 b j (by omega) (by omega)⟩
    · rcases hM q hq with rfl | ⟨hq', hn⟩
      · exact RM_cp h1 ok.1 (fun i hi => by rw [Nat.zero_add]; exact i3 i hi)
      · have okq := (ok.2.2.2.2.2.1 q hq').1
        refine RM_cp (h6 q hq') okq (fun i hi => i4 _ ?_)
        omega
    · rw [i2 x]
      show (if x = k then (1 : Int32) else gI δ 167 x) = bI (x ∈ M.map Prod.fst)
      by_cases z : x = k
      · rw [if_pos z]
        unfold bI
        rw [if_pos ((hK x).mpr (Or.inl z))]
      · rw [if_neg z, h7 x hx]
        unfold bI
        by_cases w : x ∈ (sM S).map Prod.fst
        · rw [if_pos w, if_pos ((hK x).mpr (Or.inr w))]
        · rw [if_neg w, if_neg (fun y => ((hK x).mp y).elim z w)]
  · by_cases z : j = k
    · rw [if_pos z, z, gss]
    · rw [if_neg z, gsc z]
theorem image_A {n k j : Nat} {δ : Dm} {S : St} {q : Nat × Tw} (h : RepC δ n S) (ok : Ok S) (hk : k < 4) (hj : (sM S)[j]? = some q) (hqk : q.1 = k) : ∃ d, f_Fp_image (nI k) δ n = some (nI (S.1.1 0), d, n) ∧ RepC d n (setM S ((sM S).set j (k, S.1))) ∧ KM δ d := by
  have hj4 := idx_lt hj
  have l4 := img4 ok
  obtain ⟨h1, h2, h3, h4, h5, h6, h7, h8⟩ := h
  obtain ⟨a1, a2⟩ := h7 j q hj
  rw [hqk] at a1
  obtain ⟨d, e1, e2, e3⟩ := to_bec (a0 := 168 + 57 * j) (a1 := 29) (δ := δ) (isT_im (by omega)) (by decide) (Or.inr (by omega))
  have fr : ∀ b i, (b < 168 + 57 * j ∨ 168 + 57 * j + 57 ≤ b) → gI d b i = gI δ b i := fun b i z => e2 b i (fun o ho w => by omega)
  have hT : RC 29 d S.1 := RC_keep h1 (fun o i ho => fr _ _ (by omega))
  have hnd := ok.2.2.2.2.2.2
  have hkey : ((sM S).set j (k, S.1)).map Prod.fst = (sM S).map Prod.fst := by
    rw [List.map_set]
    refine List.ext_getElem? fun i => ?_
    rw [List.getElem?_set]
    by_cases z : j = i
    · subst z
      rw [if_pos rfl, List.length_map, if_pos hj4, List.getElem?_map, hj]
      show some k = some q.1
      rw [hqk]
    · rw [if_neg z]
  refine ⟨d, ?_, ⟨hT, by rw [fr 4 3 (by omega)]; exact h2, fun i L hi => LC_keep (h3 i L hi) (fun o x ho => fr _ _ ?_), by rw [fr 4 1 (by omega)]; exact h4, fun i hi => by rw [fr 5 i (by omega)]; exact h5 i hi, ?_, fun i p hp => ?_, fun x hx hn => by rw [fr 86 x (by omega)]; rw [show (sM (setM S ((sM S).set j (k, S.1)))).map Prod.fst = (sM S).map Prod.fst from hkey] at hn; exact h8 x hx hn⟩, fun b i z => fr b i (by omega)⟩
  · unfold f_Fp_image
    rw [if_neg (nI_pos (by omega)), if_pos (show nI k < (4 : Int32) from nI_lt hk (by decide)), if_pos (inb_i hk (by decide)), ixN (show k < 2147483648 by omega), a1, dR_i (by omega) (by omega)]
    simp only [ocs]
    rw [if_pos (isT_im (show j < 4 by omega)), e1, Option.bind_some, (cG hT).1]
  · have := (List.getElem?_eq_some_iff.mp hi).1
    have : i < (sJ S).length := this
    have := ok.2.1
    omega
  · show n = 168 + 57 * ((sM S).set j (k, S.1)).length
    rw [List.length_set]; exact h6
  · have hp : ((sM S).set j (k, S.1))[i]? = some p := hp
    rw [List.getElem?_set] at hp
    by_cases z : j = i
    · subst z
      rw [if_pos rfl, if_pos hj4] at hp
      obtain rfl : (k, S.1) = p := Option.some.inj hp
      refine ⟨by rw [fr 86 _ (by omega)]; exact a1, RC_cp h1 ok.1 e3⟩
    · rw [if_neg z] at hp
      obtain ⟨b1, b2⟩ := h7 i p hp
      have := idx_lt hp
      exact ⟨by rw [fr 86 _ (by omega)]; exact b1, RC_keep b2 (fun o x ho => fr _ _ (by omega))⟩
theorem image_B {n k : Nat} {δ : Dm} {S : St} (h : RepC δ n S) (ok : Ok S) (hk : k < 4) (hn : k ∉ (sM S).map Prod.fst) : ∃ d, f_Fp_image (nI k) δ n = some (nI (S.1.1 0), d, n + 57) ∧ RepC d (n + 57) (setM S (sM S ++ [(k, S.1)])) ∧ KM δ d := by
  have l3 := imgs_le ok hk hn
  obtain ⟨h1, h2, h3, h4, h5, h6, h7, h8⟩ := h
  have a1 := h8 k hk hn
  obtain ⟨m, hm⟩ : ∃ m, (sM S).length = m := ⟨_, rfl⟩
  rw [hm] at l3 h6
  obtain ⟨δ1, hδ1⟩ : ∃ δ1, sI (flI (cut δ n) (n + 1) 400 15) 86 k (nI n) = δ1 := ⟨_, rfl⟩
  have f1 : ∀ b i, b < n → gI δ1 b i = if b = 86 ∧ i = k then nI n else gI δ b i := fun b i z => by
    rw [← hδ1, gs]
    by_cases w : b = 86 ∧ i = k
    · rw [if_pos w, if_pos w]
    · rw [if_neg w, if_neg w]
      show (if b = n + 1 ∧ i < 400 then (15 : Int32) else (cut δ n).1 b i) = gI δ b i
      rw [if_neg (by omega)]
      exact gI_cut z
  have hT0 : RC 29 δ1 S.1 := RC_keep h1 (fun o i ho => by rw [f1 _ _ (by omega), if_neg (by omega)])
  obtain ⟨d, e1, e2, e3⟩ := to_bec (a0 := n) (a1 := 29) (δ := δ1) (by rw [h6]; exact isT_im (by omega)) (by decide) (Or.inr (by omega))
  have fr : ∀ b i, b < n → ¬ (b = 86 ∧ i = k) → gI d b i = gI δ b i := fun b i z w => by rw [e2 b i (fun o ho y => by omega), f1 b i z, if_neg w]
  have f86 : gI d 86 k = nI n := by rw [e2 86 k (fun o ho y => by omega), f1 86 k (by omega), if_pos ⟨rfl, rfl⟩]
  have hT : RC 29 d S.1 := RC_keep hT0 (fun o i ho => e2 _ _ (fun o ho y => by omega))
  refine ⟨d, ?_, ⟨hT, by rw [fr 4 3 (by omega) (by omega)]; exact h2, fun i L hi => LC_keep (h3 i L hi) (fun o x ho => ?_), by rw [fr 4 1 (by omega) (by omega)]; exact h4, fun i hi => by rw [fr 5 i (by omega) (by omega)]; exact h5 i hi, ?_, fun i p hp => ?_, fun x hx hn' => ?_⟩, fun b i z => fr b i (by omega) (by omega)⟩
  · unfold f_Fp_image
    rw [if_neg (nI_pos (by omega)), if_pos (show nI k < (4 : Int32) from nI_lt hk (by decide)), if_pos (inb_i hk (by decide)), ixN (show k < 2147483648 by omega), a1, show dR (0 : Int32) = none from if_pos rfl]
    simp only [ocs]
    rw [if_pos (show isT n = true by rw [h6]; exact isT_im (by omega)), if_pos (inb_i hk (by decide)), bndE, hδ1, e1, Option.bind_some, (cG hT).1]
  · have := (List.getElem?_eq_some_iff.mp hi).1
    have : i < (sJ S).length := this
    have := ok.2.1
    exact fr _ _ (by omega) (by omega)
  · show n + 57 = 168 + 57 * (sM S ++ [(k, S.1)]).length
    rw [List.length_append, hm, List.length_cons, List.length_nil]; omega
  · have hp : (sM S ++ [(k, S.1)])[i]? = some p := hp
    rw [List.getElem?_append] at hp
    by_cases z : i < (sM S).length
    · rw [if_pos z] at hp
      obtain ⟨b1, b2⟩ := h7 i p hp
      rw [hm] at z
      have hpk : p.1 ≠ k := fun w => hn (w ▸ List.mem_map.mpr ⟨p, List.mem_of_getElem? hp, rfl⟩)
      exact ⟨by rw [fr 86 _ (by omega) (fun w => hpk w.2)]; exact b1, RC_keep b2 (fun o x ho => fr _ _ (by omega) (by omega))⟩
    · rw [if_neg z, hm] at hp
      rw [hm] at z
      have hi := idx_lt hp
      rw [List.length_cons, List.length_nil] at hi
      have hi' : i = m := by omega
      subst hi'
      rw [Nat.sub_self] at hp
      obtain rfl : (k, S.1) = p := Option.some.inj hp
      rw [← h6]
      exact ⟨f86, RC_cp hT0 ok.1 e3⟩
  · have hn' : x ∉ (sM S ++ [(k, S.1)]).map Prod.fst := hn'
    rw [List.map_append, List.mem_append] at hn'
    have hxk : x ≠ k := fun w => hn' (Or.inr (by rw [w]; exact List.mem_cons_self ..))
    rw [fr 86 x (by omega) (fun w => hxk w.2)]
    exact h8 x hx (fun w => hn' (Or.inl w))
theorem op_image (a1 : Int32) : OpI (f_Fp_image a1) (f_Mo_image a1) := fun δ n S hR => by
  obtain ⟨hC, hM, ok⟩ := hR
  have i3 : ∀ δ, f_Mo_in a1.toInt64 0 3 δ = some (bI (inb a1 4)) := fun δ => in0 (n := 3) (by decide) rfl
  obtain ⟨o1, o2, o3, o4, o5, o6, o7⟩ := id ok
  by_cases h1 : inb a1 4
  · obtain ⟨k, hk, rfl⟩ := inb_ex (by decide) h1
    by_cases h2 : k ∈ (sM S).map Prod.fst
    · obtain ⟨q, hq, hqk⟩ := List.mem_map.mp h2
      obtain ⟨j, hj, hjq⟩ := List.mem_iff_getElem.mp hq
      have hj' : (sM S)[j]? = some q := by rw [List.getElem?_eq_getElem hj, hjq]
      have hkey : ((sM S).set j (k, S.1)).map Prod.fst = (sM S).map Prod.fst := by
        rw [List.map_set]
        refine List.ext_getElem? fun i => ?_
        rw [List.getElem?_set]
        by_cases z : j = i
        · subst z
          rw [if_pos rfl, List.length_map, if_pos hj, List.getElem?_map, hj']
          show some k = some q.1
          rw [hqk]
        · rw [if_neg z]
      obtain ⟨d1, e1, r1, k1⟩ := image_A hC ok hk hj' hqk
      have hmem : ∀ p ∈ (sM S).set j (k, S.1), p = (k, S.1) ∨ (p ∈ sM S ∧ p.1 ≠ k) := fun p hp => by
        obtain ⟨i, hi, hip⟩ := List.mem_iff_getElem.mp hp
        have hp' : ((sM S).set j (k, S.1))[i]? = some p := by rw [List.getElem?_eq_getElem hi, hip]
        rw [List.getElem?_set] at hp'
        by_cases z : j = i
        · rw [if_pos z, if_pos hj] at hp'
          exact Or.inl (Option.some.inj hp').symm
        · rw [if_neg z] at hp'
          refine Or.inr ⟨List.mem_of_getElem? hp', fun w => ?_⟩
          have hi2 := idx_lt hp'
          refine nd_ne o7 (i := j) (j := i) (by rw [List.length_map]; exact hj) (by rw [List.length_map]; exact hi2) z ?_
          rw [List.getElem_map, List.getElem_map, hjq, hqk, (List.getElem?_eq_some_iff.mp hp').2, w]
      obtain ⟨d2, e2, r2, k2⟩ := image_M (M := (sM S).set j (k, S.1)) (RepM_keep hM ok k1) ok hk hmem (fun x => by rw [hkey]; exact ⟨Or.inr, fun w => w.elim (fun z => z ▸ h2) id⟩)
      have ok' : Ok (setM S ((sM S).set j (k, S.1))) := ⟨o1, o2, o3, o4, o5, fun p hp => (hmem p hp).elim (fun w => by subst w; exact ⟨o1, hk⟩) (fun w => o6 p w.1), by show (((sM S).set j (k, S.1)).map Prod.fst).Nodup; rw [hkey]; exact o7⟩
      exact ⟨_, d1, n, d2, _, e1, e2, ⟨RepC_keep r1 o2 k2, r2, ok'⟩, fun b j hb => k1 b j (Or.inl hb), fun b j hb => (k2 b j (Or.inl hb)).trans (k1 b j (Or.inl hb))⟩
    · obtain ⟨d1, e1, r1, k1⟩ := image_B hC ok hk h2
      have hmem : ∀ p ∈ sM S ++ [(k, S.1)], p = (k, S.1) ∨ (p ∈ sM S ∧ p.1 ≠ k) := fun p hp => by
        rcases List.mem_append.mp hp with w | w
        · exact Or.inr ⟨w, fun z => h2 (z ▸ List.mem_map.mpr ⟨p, w, rfl⟩)⟩
        · exact Or.inl (List.mem_singleton.mp w)
      have hkey : (sM S ++ [(k, S.1)]).map Prod.fst = (sM S).map Prod.fst ++ [k] := List.map_append
      obtain ⟨d2, e2, r2, k2⟩ := image_M (M := sM S ++ [(k, S.1)]) (RepM_keep hM ok k1) ok hk hmem (fun x => by
        rw [hkey, List.mem_append, List.mem_singleton]; exact ⟨fun w => w.elim Or.inr Or.inl, fun w => w.elim Or.inr Or.inl⟩)
      have ok' : Ok (setM S (sM S ++ [(k, S.1)])) := ⟨o1, o2, o3, o4, o5, fun p hp => (hmem p hp).elim (fun w => by subst w; exact ⟨o1, hk⟩) (fun w => o6 p w.1), by
        show ((sM S ++ [(k, S.1)]).map Prod.fst).Nodup
        rw [hkey]
        refine List.nodup_append.mpr ⟨o7, List.nodup_cons.mpr ⟨fun w => absurd w List.not_mem_nil, List.nodup_nil⟩, fun a ha b hb w => ?_⟩
        rw [List.mem_singleton] at hb
        exact h2 (hb ▸ w ▸ ha)⟩
      exact ⟨_, d1, n + 57, d2, _, e1, e2, ⟨RepC_keep r1 o2 k2, r2, ok'⟩, fun b j hb => k1 b j (Or.inl hb), fun b j hb => (k2 b j (Or.inl hb)).trans (k1 b j (Or.inl hb))⟩
  · refine ⟨-1, δ, n, δ, S, ?_, ?_, ⟨hC, hM, ok⟩, fun _ _ _ => rfl, fun _ _ _ => rfl⟩
    · unfold f_Fp_image
      rw [inb0 (by decide)] at h1
      by_cases z : a1 < 0
      · rw [if_pos z]
      · rw [if_neg z, if_neg (show ¬ a1 < (4 : Int32) from fun w => h1 ⟨z, Int32.not_le.mpr w⟩)]
    · unfold f_Mo_image
      rw [i3, Option.bind_some, ifb, if_neg h1]
