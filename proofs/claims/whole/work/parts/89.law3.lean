/-! the class's tokens: words, the whole text -/
theorem wb_len (X : Tx) (p e : Nat) : (wb X p e).length = e - p := by unfold wb; rw [List.length_map, List.length_range]
theorem wb_at {X : Tx} {p e j : Nat} (h : j < e - p) : (wb X p e).getD j 0 = X.1 (p + j) := by
  unfold wb
  rw [List.getD_eq_getElem?_getD, List.getElem?_map, List.getElem?_range h]
  rfl
theorem lst_eq {l m : List Nat} (h1 : l.length = m.length) (h2 : ∀ j, j < l.length → l.getD j 0 = m.getD j 0) : l = m := by
  refine List.ext_getElem h1 fun i a b => ?_
  have := h2 i a
  rw [gDe a, gDe b] at this
  exact this
theorem isWordAt_eq {X : Tx} {δ : Dm} {p w n : Nat} (h : CX X δ) (hn : n < 21) (hw : (WL.getD n []).length = w) (hp : p + w ≤ X.2) : f_Re_isWordAt (nI p) (nI (ws n)) (nI w) δ = some (bI (WL.getD n [] = wb X p (p + w))) := by
  have hN := h.1
  have hz := (WF_z hn).1
  rw [hw] at hz
  unfold f_Re_isWordAt
  refine for_brk (fun f j (_ : Unit) => lp_Re_isWordAt_3 (fun v4_3x => (some (1 : Int32))) (nI p) (nI (ws n)) (nI w) δ f j) w (by omega) (fun j _ => ∀ k, k < j → (WL.getD n []).getD k 0 = X.1 (p + k)) (fun r => r = some (bI (WL.getD n [] = wb X p (p + w)))) (fun f j a hj hI => ?_) (fun f a hI => ?_) 0 () (Nat.zero_le _) (fun k hk => absurd hk (Nat.not_lt_zero _))
  · obtain ⟨e1, e2, -⟩ := WF_at hn (i := j) (by omega)
    have hX := h.2.1 (p + j)
    have hF : (WL.getD n []).getD j 0 < 256 := by
      have d : ∀ n, n < 21 → ∀ j, j < (WL.getD n []).length → (WL.getD n []).getD j 0 < 256 := by decide +kernel
      exact d n hn j (by omega)
    have ev : lp_Re_isWordAt_3 (fun v4_3x => (some (1 : Int32))) (nI p) (nI (ws n)) (nI w) δ (f + 1) (nI j) = if (WL.getD n []).getD j 0 = X.1 (p + j) then lp_Re_isWordAt_3 (fun v4_3x => (some (1 : Int32))) (nI p) (nI (ws n)) (nI w) δ f (nI (j + 1)) else some 0 := by
      rw [lp_Re_isWordAt_3, if_neg (nI_ge hj (by omega)), bndE, nI_add, if_neg (nI_pos (by omega)), stlen_eq, Option.bind_some, if_neg (show ¬ (108 : Int32) ≤ nI (ws n + j) from nI_ge e1 (by decide)), charAt_eq e1, Option.bind_some, nI_add, h.get (by omega), Option.bind_some, e2, nI_1]
      by_cases z : (WL.getD n []).getD j 0 = X.1 (p + j)
      · rw [if_pos z, if_pos (congrArg nI z)]
      · rw [if_neg z, if_neg (fun q => z ((nI_eq (by omega) (by omega)).mp q))]
    show _ ∨ _
    by_cases z : (WL.getD n []).getD j 0 = X.1 (p + j)
    · refine Or.inr ⟨(), fun k hk => ?_, by show lp_Re_isWordAt_3 _ _ _ _ _ _ _ = _; rw [ev, if_pos z]⟩
      by_cases q : k = j
      · rw [q]; exact z
      · exact hI k (by omega)
    · refine Or.inl ?_
      show lp_Re_isWordAt_3 _ _ _ _ _ _ _ = _
      rw [ev, if_neg z]
      unfold bI
      rw [if_neg (fun q => z ?_)]
      rw [q, wb_at (by omega)]
  · show lp_Re_isWordAt_3 _ _ _ _ _ _ _ = _
    rw [lp_Re_isWordAt_3, if_pos (nI_le (Nat.le_refl _) (by omega))]
    unfold bI
    rw [if_pos (lst_eq (by rw [wb_len]; omega) (fun j hj => by rw [hI j (by omega), wb_at (by omega)]))]
theorem wordIn_eq {X : Tx} {δ : Dm} {p e : Nat} (h : CX X δ) (hpe : p < e) (he : e ≤ X.2) : f_Re_wordIn (nI p) (nI (e - p)) δ = some (nI (wk (wb X p e))) := by
  have hN := h.1
  obtain ⟨w, hw⟩ : ∃ w, e - p = w := ⟨_, rfl⟩
  obtain rfl : e = p + w := by omega
  rw [hw]
  unfold f_Re_wordIn
  obtain ⟨l, hl⟩ : ∃ l, wb X p (p + w) = l := ⟨_, rfl⟩
  have hll : l.length = w := by rw [← hl, wb_len, hw]
  refine for_brk (fun f i (a : Int32 × Int32) => lp_Re_wordIn_8 (fun v3_8x v4_8x v5_8x => (some (35 : Int32))) (nI p) (nI w) δ f a.1 a.2 i) 108 (by decide) (fun i a => ∃ n, a = (nI n, nI (ws n)) ∧ n ≤ 21 ∧ ws n ≤ i ∧ (n < 21 → i ≤ ws n + (WL.getD n []).length) ∧ (((List.range 21).take n).find? (fun i => decide (WL.getD i [] = l))) = none) (fun r => r = some (nI (wk (wb X p (p + w))))) (fun f i a hi hI => ?_) (fun f a hI => ?_) 0 (0, 0) (Nat.zero_le _) ⟨0, rfl, by decide, Nat.le_refl _, fun _ => Nat.zero_le _, rfl⟩
  · obtain ⟨n, rfl, hn, h1, h2, h3⟩ := hI
    have hn1 : n < 21 := by
      refine Nat.lt_of_not_le fun q => ?_
      have : n = 21 := by omega
      subst this
      have : ws 21 = 108 := by decide
      omega
    have h2 := h2 hn1
    show _ ∨ ∃ a', _ ∧ lp_Re_wordIn_8 _ _ _ _ _ _ _ _ = _
    show lp_Re_wordIn_8 _ _ _ _ _ _ _ _ = _ ∨ _
    rw [lp_Re_wordIn_8, stlen_eq, Option.bind_some, if_neg (show ¬ (108 : Int32) ≤ nI i from nI_ge hi (by decide)), charAt_eq hi, Option.bind_some]
    obtain ⟨L, hL⟩ : ∃ L, (WL.getD n []).length = L := ⟨_, rfl⟩
    rw [hL] at h2
    by_cases z : i = ws n + L
    · have hz := WF_z hn1
      rw [hL, ← z] at hz
      have hx : (List.range 21)[n]? = some n := List.getElem?_range hn1
      have nxt : (¬ WL.getD n [] = l) → ∃ a' : Int32 × Int32, (∃ n, a' = (nI n, nI (ws n)) ∧ n ≤ 21 ∧ ws n ≤ i + 1 ∧ (n < 21 → i + 1 ≤ ws n + (WL.getD n []).length) ∧ (((List.range 21).take n).find? (fun i => decide (WL.getD i [] = l))) = none) ∧ lp_Re_wordIn_8 (fun v3_8x v4_8x v5_8x => (some (35 : Int32))) (nI p) (nI w) δ f (nI n + 1) (nI i + 1) (nI i + 1) = lp_Re_wordIn_8 (fun v3_8x v4_8x v5_8x => (some (35 : Int32))) (nI p) (nI w) δ f a'.1 a'.2 (nI (i + 1)) := fun hne => by
        have hws : ws (n + 1) = i + 1 := by rw [z, ← hL]; rfl
        refine ⟨(nI (n + 1), nI (i + 1)), ⟨n + 1, by rw [hws], hn1, by omega, fun _ => by omega, find_nx h3 hx (fun q => hne (of_decide_eq_true q))⟩, ?_⟩
        rw [nI_1, nI_1]
      rw [hz.2, if_pos (show nI 32 = (32 : Int32) from rfl), z, sbN (by omega), show ws n + L - ws n = L by omega, ← z]
      by_cases y : L = w
      · rw [if_pos (congrArg nI y), isWordAt_eq h hn1 (by omega) (by omega), Option.bind_some, hl]
        by_cases x : WL.getD n [] = l
        · left
          rw [show bI (WL.getD n [] = l) = 1 from if_pos x, if_neg (by decide)]
          unfold wk
          rw [find_at h3 hx (decide_eq_true x)]
          rfl
        · right
          obtain ⟨a', e1, e2⟩ := nxt x
          refine ⟨a', e1, ?_⟩
          rw [← e2, show bI (WL.getD n [] = l) = 0 from if_neg x, if_pos rfl, bndE]
      · rw [if_neg (fun q => y ((nI_eq (by omega) (by omega)).mp q))]
        right
        obtain ⟨a', e1, e2⟩ := nxt (fun q => y (by rw [← hL, q, hll]))
        refine ⟨a', e1, ?_⟩
        rw [← e2, bndE]
    · have hW := (WF_at hn1 (i := i - ws n) (by omega)).2.2
      rw [show ws n + (i - ws n) = i by omega] at hW
      have hF : WF.getD i 0 < 256 := by
        have d : ∀ j, j < 108 → WF.getD j 0 < 256 := by decide +kernel
        exact d i hi
      rw [if_neg (fun q => hW ((nI_eq (by omega) (by decide)).mp (q.trans (show (32 : Int32) = nI 32 from rfl))))]
      exact Or.inr ⟨(nI n, nI (ws n)), ⟨n, rfl, hn, by omega, fun _ => by omega, h3⟩, by rw [nI_1]⟩
  · obtain ⟨n, rfl, hn, h1, h2, h3⟩ := hI
    have hn1 : n = 21 := by
      refine Nat.le_antisymm hn (Nat.le_of_not_lt fun q => ?_)
      have := h2 q
      have := (WF_z q).1
      omega
    subst hn1
    show lp_Re_wordIn_8 _ _ _ _ _ _ _ _ = _
    rw [lp_Re_wordIn_8, stlen_eq, Option.bind_some, if_pos (show (108 : Int32) ≤ nI 108 by decide), hl]
    unfold wk
    rw [show (List.range 21).take 21 = List.range 21 from rfl] at h3
    rw [h3]
    rfl
