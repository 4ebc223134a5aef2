/-! what would have become: the strength of a bath from day to day -/
def cD (S : St) (b d : Nat) : Nat := cntf b ((tE S.1).filter (fun x => x 2 ≤ d))
def xD (S : St) (b d : Nat) : Nat := boxf (bc S.1.1 b 1) b ((tE S.1).filter (fun x => x 2 ≤ d))
def agS (L : LawT) (S : St) (b k d s : Nat) : Nat := wrn L (wdG S.1.1 b d 0 0 (nI (cD S b d)) (nI (xD S b d))) (3 + k) s
def agR (L : LawT) (S : St) (b k d : Nat) : Nat → Nat → Nat
  | 0, s => s
  | n + 1, s => agS L S b k (d + n) (agR L S b k d n s)
def evW (S : St) (b : Nat) (x : Ev) : Nat → Int64 := wdG S.1.1 b (x 2) (nI (x 3)) (nI (x 4)) (nI (x 6)) (nI (x 7))
def tiS (L : LawT) (S : St) (b k : Nat) (x : Ev) (s : Nat) : Nat := wrn L (evW S b x) k s
theorem agR_a {L : LawT} {S : St} {b k d m s : Nat} : ∀ n, agR L S b k d (m + n) s = agR L S b k (d + m) n (agR L S b k d m s) := by
  intro n
  induction n with
  | zero => rfl
  | succ n ih =>
    show agS L S b k (d + (m + n)) (agR L S b k d (m + n) s) = agS L S b k (d + m + n) (agR L S b k (d + m) n (agR L S b k d m s))
    rw [ih, Nat.add_assoc]
theorem agR_le {L : LawT} {S : St} {b k d s : Nat} : ∀ n, agR L S b k d n s ≤ s := by
  intro n
  induction n with
  | zero => exact Nat.le_refl _
  | succ n ih => exact Nat.le_trans wrn_le ih
def eA (L : LawT) (S : St) (b k f : Nat) (a : Nat × Nat) (x : Ev) : Nat × Nat :=
  if x 1 = b then (if x 2 < f then (f, 1000) else (x 2, if x 0 = 0 then tiS L S b k x (agR L S b k a.1 (x 2 - a.1) a.2) else if x 3 = k then 1000 else agR L S b k a.1 (x 2 - a.1) a.2)) else a
def sm (L : LawT) (S : St) (b k f : Nat) (l : List Ev) : Nat × Nat := l.foldl (eA L S b k f) (f, 1000)
theorem sm_app {L : LawT} {S : St} {b k f : Nat} {l : List Ev} {x : Ev} : sm L S b k f (l ++ [x]) = eA L S b k f (sm L S b k f l) x := by
  unfold sm; rw [List.foldl_append]; rfl
/-- what always holds of it: not ahead of f, not ahead of the events, never more than 1000 -/
theorem sm_ok {L : LawT} {S : St} {b k f : Nat} : ∀ l : List Ev, f ≤ (sm L S b k f l).1 ∧ (sm L S b k f l).2 ≤ 1000 ∧ (∀ m, f ≤ m → (∀ x ∈ l, x 1 = b → x 2 ≤ m) → (sm L S b k f l).1 ≤ m) ∧ ((∀ x ∈ l, x 1 = b → x 2 < f) → sm L S b k f l = (f, 1000)) := by
  have main : ∀ (l : List Ev) (a : Nat × Nat), f ≤ a.1 → a.2 ≤ 1000 → (f ≤ (l.foldl (eA L S b k f) a).1 ∧ (l.foldl (eA L S b k f) a).2 ≤ 1000 ∧ (∀ m, a.1 ≤ m → (∀ x ∈ l, x 1 = b → x 2 ≤ m) → (l.foldl (eA L S b k f) a).1 ≤ m) ∧ ((∀ x ∈ l, x 1 = b → x 2 < f) → a = (f, 1000) → l.foldl (eA L S b k f) a = (f, 1000))) := by
    intro l
    induction l with
    | nil => intro a h1 h2; exact ⟨h1, h2, fun m hm _ => hm, fun _ h => h⟩
    | cons x l ih =>
      intro a h1 h2
      rw [List.foldl_cons]
      have e1 : f ≤ (eA L S b k f a x).1 := by
        unfold eA
        split
        · split
          · exact Nat.le_refl _
          · show f ≤ x 2; omega
        · exact h1
      have e2 : (eA L S b k f a x).2 ≤ 1000 := by
        unfold eA
        split
        · split
          · exact Nat.le_refl _
          · show (if x 0 = 0 then _ else _) ≤ 1000
            have r := agR_le (L := L) (S := S) (b := b) (k := k) (d := a.1) (s := a.2) (x 2 - a.1)
            split
            · exact Nat.le_trans wrn_le (Nat.le_trans r h2)
            · split
              · exact Nat.le_refl _
              · exact Nat.le_trans r h2
        · exact h2
      obtain ⟨i1, i2, i3, i4⟩ := ih _ e1 e2
      refine ⟨i1, i2, fun m hm hx => i3 m ?_ (fun y hy => hx y (List.mem_cons_of_mem _ hy)), fun hx ha => i4 (fun y hy => hx y (List.mem_cons_of_mem _ hy)) ?_⟩
      · have := hx x (List.mem_cons_self ..)
        unfold eA
        split
        · next q =>
          split
          · show f ≤ m; omega
          · exact this q
        · exact hm
      · have := hx x (List.mem_cons_self ..)
        unfold eA
        split
        · next q => rw [if_pos (this q)]
        · exact ha
  intro l
  obtain ⟨h1, h2, h3, h4⟩ := main l (f, 1000) (Nat.le_refl _) (Nat.le_refl _)
  exact ⟨h1, h2, h3, fun h => h4 h rfl⟩
/-- the strength ahead of an event, at a day -/
def sAt (L : LawT) (S : St) (b k f : Nat) (l : List Ev) (d : Nat) : Nat := agR L S b k (sm L S b k f l).1 (d - (sm L S b k f l).1) (sm L S b k f l).2
theorem sAt_le {L : LawT} {S : St} {b k f d : Nat} {l : List Ev} : sAt L S b k f l d ≤ 1000 := Nat.le_trans (agR_le _) (sm_ok l).2.1
/-- with a change of the bath k0 on the day f -/
def mW (L : LawT) (S : St) (b k0 f k : Nat) (l : List Ev) (d : Nat) : Nat := if k = k0 ∧ f ≤ d then sAt L S b k f l d else sAt L S b k (bc S.1.1 b 10) l d
theorem mW_le {L : LawT} {S : St} {b k0 f k d : Nat} {l : List Ev} : mW L S b k0 f k l d ≤ 1000 := by
  unfold mW
  split
  · exact sAt_le
  · exact sAt_le
theorem sAt_s {L : LawT} {S : St} {b k f d : Nat} {l : List Ev} (h : (sm L S b k f l).1 ≤ d) : sAt L S b k f l (d + 1) = agS L S b k d (sAt L S b k f l d) := by
  unfold sAt
  rw [show d + 1 - (sm L S b k f l).1 = (d - (sm L S b k f l).1) + 1 by omega]
  show agS L S b k ((sm L S b k f l).1 + (d - (sm L S b k f l).1)) _ = _
  rw [show (sm L S b k f l).1 + (d - (sm L S b k f l).1) = d by omega]
theorem mW_s {L : LawT} {S : St} {b k0 f k d : Nat} {l : List Ev} (hc : bc S.1.1 b 10 ≤ d) (hl : ∀ x ∈ l, x 1 = b → x 2 ≤ d) : mW L S b k0 f k l (d + 1) = if k = k0 ∧ d + 1 = f then 1000 else agS L S b k d (mW L S b k0 f k l d) := by
  have c1 := (sm_ok (L := L) (S := S) (b := b) (k := k) (f := bc S.1.1 b 10) l).2.2.1 d hc hl
  unfold mW
  by_cases hk : k = k0
  · subst hk
    by_cases h1 : d + 1 = f
    · rw [if_pos (show k = k ∧ f ≤ d + 1 from ⟨rfl, by omega⟩), if_pos (show k = k ∧ d + 1 = f from ⟨rfl, h1⟩)]
      have e := (sm_ok (L := L) (S := S) (b := b) (k := k) (f := f) l).2.2.2 (fun x hx hb => by have := hl x hx hb; omega)
      unfold sAt
      rw [e]
      show agR L S b k f (d + 1 - f) 1000 = 1000
      rw [show d + 1 - f = 0 by omega]; rfl
    · rw [if_neg (show ¬ (k = k ∧ d + 1 = f) from fun z => h1 z.2)]
      by_cases h2 : f ≤ d
      · rw [if_pos (show k = k ∧ f ≤ d + 1 from ⟨rfl, by omega⟩), if_pos (show k = k ∧ f ≤ d from ⟨rfl, h2⟩)]
        exact sAt_s ((sm_ok l).2.2.1 d h2 hl)
      · rw [if_neg (show ¬ (k = k ∧ f ≤ d + 1) by omega), if_neg (show ¬ (k = k ∧ f ≤ d) by omega)]
        exact sAt_s c1
  · rw [if_neg (fun z => hk z.1), if_neg (fun z => hk z.1), if_neg (fun z => hk z.1)]
    exact sAt_s c1
theorem sAt_e {L : LawT} {S : St} {b k f : Nat} {l : List Ev} {x : Ev} (hb : x 1 = b) (hf : f ≤ x 2) : sAt L S b k f (l ++ [x]) (x 2) = if x 0 = 0 then tiS L S b k x (sAt L S b k f l (x 2)) else if x 3 = k then 1000 else sAt L S b k f l (x 2) := by
  have e : sm L S b k f (l ++ [x]) = (x 2, if x 0 = 0 then tiS L S b k x (sAt L S b k f l (x 2)) else if x 3 = k then 1000 else sAt L S b k f l (x 2)) := by
    rw [sm_app]
    unfold eA
    rw [if_pos hb, if_neg (by omega)]; rfl
  show agR L S b k (sm L S b k f (l ++ [x])).1 (x 2 - (sm L S b k f (l ++ [x])).1) (sm L S b k f (l ++ [x])).2 = _
  rw [e]
  show agR L S b k (x 2) (x 2 - x 2) _ = _
  rw [Nat.sub_self]; rfl
theorem mW_e {L : LawT} {S : St} {b k0 f k : Nat} {l : List Ev} {x : Ev} (hb : x 1 = b) (hc : bc S.1.1 b 10 ≤ x 2) : mW L S b k0 f k (l ++ [x]) (x 2) = if x 0 = 0 then tiS L S b k x (mW L S b k0 f k l (x 2)) else if x 3 = k then 1000 else mW L S b k0 f k l (x 2) := by
  unfold mW
  by_cases h : k = k0 ∧ f ≤ x 2
  · rw [if_pos h, if_pos h]; exact sAt_e hb h.2
  · rw [if_neg h, if_neg h]; exact sAt_e hb hc
theorem sm_o {L : LawT} {S : St} {b k f : Nat} {l : List Ev} {x : Ev} (hb : x 1 ≠ b) : sm L S b k f (l ++ [x]) = sm L S b k f l := by
  rw [sm_app]; unfold eA; rw [if_neg hb]
theorem mW_o {L : LawT} {S : St} {b k0 f k d : Nat} {l : List Ev} {x : Ev} (hb : x 1 ≠ b) : mW L S b k0 f k (l ++ [x]) d = mW L S b k0 f k l d := by
  unfold mW sAt
  rw [sm_o hb, sm_o hb]
/-- counts and boxes up to a day -/
theorem cnt_f {b d : Nat} {A B : List Ev} (hA : ∀ x ∈ A, x 1 = b → x 2 ≤ d) (hB : ∀ x ∈ B, d < x 2) : cntf b ((A ++ B).filter (fun x => x 2 ≤ d)) = cntf b A := by
  have e : B.filter (fun x => decide (x 2 ≤ d)) = [] := List.filter_eq_nil_iff.mpr (fun x hx => by have := hB x hx; simp; omega)
  rw [List.filter_append, e, List.append_nil]
  unfold cntf
  rw [List.filter_filter]
  congr 1
  refine List.filter_congr (fun x hx => ?_)
  by_cases q : x 1 = b
  · have := hA x hx q
    simp [this]
  · simp [q]
theorem box_f {p b d : Nat} {A B : List Ev} (hA : ∀ x ∈ A, x 1 = b → x 2 ≤ d) (hB : ∀ x ∈ B, d < x 2) : boxf p b ((A ++ B).filter (fun x => x 2 ≤ d)) = boxf p b A := by
  have e : B.filter (fun x => decide (x 2 ≤ d)) = [] := List.filter_eq_nil_iff.mpr (fun x hx => by have := hB x hx; simp; omega)
  rw [List.filter_append, e, List.append_nil]
  have : ∀ (A : List Ev) (c : Nat), (∀ x ∈ A, x 1 = b → x 2 ≤ d) → (A.filter (fun x => decide (x 2 ≤ d))).foldl (boxs p b) c = A.foldl (boxs p b) c := by
    intro A
    induction A with
    | nil => intro c _; rfl
    | cons x A ih =>
      intro c h
      by_cases q : x 2 ≤ d
      · rw [List.filter_cons_of_pos (by simpa using q), List.foldl_cons, List.foldl_cons]
        exact ih _ (fun y hy => h y (List.mem_cons_of_mem _ hy))
      · have hb : x 1 ≠ b := fun z => q (h x (List.mem_cons_self ..) z)
        rw [List.filter_cons_of_neg (by simpa using q), List.foldl_cons, boxs_ne hb]
        exact ih _ (fun y hy => h y (List.mem_cons_of_mem _ hy))
  exact this A 0 hA
/-- at an event: what lies ahead, what behind -/
theorem ev_split {S : St} {e : Nat} {x : Ev} (ok : Ok S) (hx : (tE S.1)[e]? = some x) : tE S.1 = (tE S.1).take e ++ (tE S.1).drop e ∧ (∀ y ∈ (tE S.1).take e, y 2 ≤ x 2) ∧ (∀ y ∈ (tE S.1).drop e, x 2 ≤ y 2) := by
  have he := idx_lt hx
  have hp : (tE S.1).Pairwise (fun x y => x 2 ≤ y 2) := ok.1.2.2.2.1.2
  have hd : (tE S.1).drop e = x :: (tE S.1).drop (e + 1) := by
    rw [List.getElem?_eq_getElem he] at hx
    rw [← Option.some.inj hx, List.getElem_cons_drop]
  refine ⟨(List.take_append_drop _ _).symm, fun y hy => ?_, fun y hy => ?_⟩
  · rw [← List.take_append_drop e (tE S.1)] at hp
    have := (List.pairwise_append.mp hp).2.2 y hy x (by rw [hd]; exact List.mem_cons_self ..)
    exact this
  · rw [hd] at hy
    rcases List.mem_cons.mp hy with q | q
    · rw [q]; exact Nat.le_refl _
    · rw [← List.take_append_drop e (tE S.1), hd] at hp
      have h2 := (List.pairwise_append.mp hp).2.1
      exact (List.pairwise_cons.mp h2).1 y q
theorem cD_e {S : St} {b e d : Nat} {x : Ev} (ok : Ok S) (hx : (tE S.1)[e]? = some x) (hd : d < x 2) (hA : ∀ y ∈ (tE S.1).take e, y 1 = b → y 2 ≤ d) : cD S b d = cntf b ((tE S.1).take e) ∧ xD S b d = boxf (bc S.1.1 b 1) b ((tE S.1).take e) := by
  obtain ⟨h1, h2, h3⟩ := ev_split ok hx
  have hB : ∀ y ∈ (tE S.1).drop e, d < y 2 := fun y hy => by have := h3 y hy; omega
  unfold cD xD
  have c := cnt_f (b := b) (d := d) hA hB
  have f := box_f (p := bc S.1.1 b 1) (b := b) (d := d) hA hB
  rw [← h1] at c f
  exact ⟨c, f⟩
