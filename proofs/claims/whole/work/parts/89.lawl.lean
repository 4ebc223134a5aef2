/-! a test with a stack of its own: a machine; it is the pure parser's -/
def stg (x : Nat) : Nat := if x = 13 then 1 else if x = 12 then 2 else if x = 11 then 3 else 0
def opc (x : Nat) : Int32 := if x = 11 then -21 else if x = 12 then -20 else -19
def stl (l : Nat) : Qs → List Nat → Qs × List Nat
  | q, [] => (q, [])
  | q, x :: st => if l ≤ stg x then stl l (em q (opc x)) st else (q, x :: st)
def dpo (st : List Nat) : Nat := (st.filter (fun x => x == 11 || x == 91)).length
def stt (st : List Nat) : Nat := st.headD 0
def MC (X : Tx) (F : Bool → Qs → List Nat → Rs) (q : Qs) (st : List Nat) : Rs :=
  if kd X q.1 = 32 ∧ 91 ∈ st then F false (nq X (stl 1 q st).1) (stl 1 q st).2.tail
  else if kd X q.1 = 19 then F true (nq X (stl 2 q st).1) (12 :: (stl 2 q st).2)
  else if kd X q.1 = 18 then F true (nq X (stl 1 q st).1) (13 :: (stl 1 q st).2)
  else if 91 ∈ st then .inl (flw q.1 0) else .inr (stl 1 q st).1
def MF (X : Tx) (F : Bool → Qs → List Nat → Rs) (q : Qs) (st : List Nat) : Rs :=
  if kd X q.1 = 20 then (if 10 ≤ dpo st then .inl (flw q.1 2) else F true (nq X q) (11 :: st))
  else if kd X q.1 = 31 then (if 10 ≤ dpo st then .inl (flw q.1 2) else F true (nq X q) (91 :: st))
  else rbd (pC X q) (fun r => F false r st)
def MM (X : Tx) : Nat → Bool → Qs → List Nat → Rs
  | 0, _, _, _ => .inl 0
  | f + 1, b, q, st => if b = true then MF X (MM X f) q st else MC X (MM X f) (stl 3 q st).1 (stl 3 q st).2
def Evl (X : Tx) (b : Bool) (q : Qs) (st : List Nat) (r : Rs) : Prop := ∃ f, MM X f b q st = r ∧ r ≠ .inl 0
theorem flw_ne {p w : Nat} : (Sum.inl (flw p w) : Rs) ≠ .inl 0 := fun h => by
  have h := Sum.inl.inj h
  unfold flw at h
  omega
theorem rbd_nz {r : Rs} {f : Qs → Rs} (h : r ≠ .inl 0) (k : ∀ q, f q ≠ .inl 0) : rbd r f ≠ .inl 0 := by
  cases r with
  | inl w => exact h
  | inr q => exact k q
theorem inr_nz {q : Qs} : (Sum.inr q : Rs) ≠ .inl 0 := fun h => by cases h
theorem pV_nz {X : Tx} {q : Qs} : pV X q ≠ .inl 0 := by
  unfold pV
  by_cases z : kd X q.1 = 21
  · rw [if_pos z]
    by_cases y : vl X q.1 < 0
    · rw [if_pos y]; exact flw_ne
    · rw [if_neg y]
      by_cases x : 60 ≤ q.2.1
      · rw [if_pos x]; exact flw_ne
      · rw [if_neg x]; exact inr_nz
  · rw [if_neg z]
    by_cases y : kd X q.1 ≤ 8
    · rw [if_pos y]
      by_cases x : 60 ≤ q.2.1
      · rw [if_pos x]; exact flw_ne
      · rw [if_neg x]; exact inr_nz
    · rw [if_neg y]; exact flw_ne
theorem pT'_nz {X : Tx} : ∀ f q, pT' X f q ≠ .inl 0 := by
  intro f
  induction f with
  | zero => intro q; exact inr_nz
  | succ f ih =>
    intro q
    unfold pT'
    by_cases z : kd X q.1 = 24 ∨ kd X q.1 = 25
    · rw [if_pos z]; exact rbd_nz pV_nz (fun r => ih _)
    · rw [if_neg z]; exact inr_nz
theorem pT_nz {X : Tx} {q : Qs} : pT X q ≠ .inl 0 := rbd_nz pV_nz (fun r => pT'_nz _ _)
theorem pS'_nz {X : Tx} : ∀ f q, pS' X f q ≠ .inl 0 := by
  intro f
  induction f with
  | zero => intro q; exact inr_nz
  | succ f ih =>
    intro q
    unfold pS'
    by_cases z : kd X q.1 = 22 ∨ kd X q.1 = 23
    · rw [if_pos z]; exact rbd_nz pT_nz (fun r => ih _)
    · rw [if_neg z]; exact inr_nz
theorem pS_nz {X : Tx} {q : Qs} : pS X q ≠ .inl 0 := rbd_nz pT_nz (fun r => pS'_nz _ _)
theorem pC_nz {X : Tx} {q : Qs} : pC X q ≠ .inl 0 := rbd_nz pS_nz (fun r => by
  by_cases z : kd X r.1 < 26 ∨ 30 < kd X r.1
  · rw [if_pos z]; exact flw_ne
  · rw [if_neg z]
    by_cases y : 60 ≤ r.2.1
    · rw [if_pos y]; exact flw_ne
    · rw [if_neg y]; exact rbd_nz pS_nz (fun s => inr_nz))
theorem stl_id {l : Nat} {q : Qs} {st : List Nat} (h : stg (stt st) < l) : stl l q st = (q, st) := by
  cases st with
  | nil => rfl
  | cons x st => exact if_neg (Nat.not_le.mpr h)
/-- steps of the machine -/
theorem ev_F {X : Tx} {q : Qs} {st : List Nat} {r : Rs} {q' : Qs} {st' : List Nat} {b : Bool} (h : Evl X b q' st' r) (e : ∀ F, MF X F q st = F b q' st') : Evl X true q st r := by
  obtain ⟨f, h1, h2⟩ := h
  exact ⟨f + 1, by show (if true = true then _ else _) = r; rw [if_pos rfl, e, h1], h2⟩
theorem ev_C {X : Tx} {q : Qs} {st : List Nat} {r : Rs} {q' : Qs} {st' : List Nat} {b : Bool} (h : Evl X b q' st' r) (e : ∀ F, MC X F (stl 3 q st).1 (stl 3 q st).2 = F b q' st') : Evl X false q st r := by
  obtain ⟨f, h1, h2⟩ := h
  exact ⟨f + 1, by show (if false = true then _ else _) = r; rw [if_neg (by decide), e, h1], h2⟩
theorem ev_11 {X : Tx} {q : Qs} {st : List Nat} {r : Rs} (h : Evl X false (em q (-21)) st r) : Evl X false q (11 :: st) r := by
  obtain ⟨f, h1, h2⟩ := h
  cases f with
  | zero => exact absurd h1.symm h2
  | succ f => exact ⟨f + 1, h1, h2⟩
theorem mem_n {x : Nat} {st : List Nat} (hx : x ≠ 91) : 91 ∈ x :: st ↔ 91 ∈ st := by
  rw [List.mem_cons]
  exact ⟨fun h => h.elim (fun e => absurd e.symm hx) id, Or.inr⟩
theorem ev_12 {X : Tx} {q : Qs} {st : List Nat} {r : Rs} (ht : stt st ≠ 11) (h : Evl X false (em q (-20)) st r) : Evl X false q (12 :: st) r := by
  obtain ⟨f, h1, h2⟩ := h
  cases f with
  | zero => exact absurd h1.symm h2
  | succ f =>
    refine ⟨f + 1, ?_, h2⟩
    rw [← h1]
    show (if false = true then _ else _) = (if false = true then _ else _)
    rw [if_neg (by decide), if_neg (by decide), stl_id (q := em q (-20)) (l := 3) (by unfold stg; repeat' split
                                                                                      all_goals omega), stl_id (q := q) (st := 12 :: st) (l := 3) (by show stg 12 < 3; decide)]
    show MC X (MM X f) q (12 :: st) = MC X (MM X f) (em q (-20)) st
    unfold MC
    rw [show stl 1 q (12 :: st) = stl 1 (em q (-20)) st from if_pos (by decide), show stl 2 q (12 :: st) = stl 2 (em q (-20)) st from if_pos (by decide)]
    simp only [mem_n (show 12 ≠ 91 by decide)]
    rfl
theorem ev_13 {X : Tx} {q : Qs} {st : List Nat} {r : Rs} (ht : stt st ≠ 11) (hk : kd X q.1 ≠ 19) (h : Evl X false (em q (-19)) st r) : Evl X false q (13 :: st) r := by
  obtain ⟨f, h1, h2⟩ := h
  cases f with
  | zero => exact absurd h1.symm h2
  | succ f =>
    refine ⟨f + 1, ?_, h2⟩
    rw [← h1]
    show (if false = true then _ else _) = (if false = true then _ else _)
    rw [if_neg (by decide), if_neg (by decide), stl_id (q := em q (-19)) (l := 3) (by unfold stg; repeat' split
                                                                                      all_goals omega), stl_id (q := q) (st := 13 :: st) (l := 3) (by show stg 13 < 3; decide)]
    show MC X (MM X f) q (13 :: st) = MC X (MM X f) (em q (-19)) st
    unfold MC
    rw [show stl 1 q (13 :: st) = stl 1 (em q (-19)) st from if_pos (by decide)]
    simp only [mem_n (show 13 ≠ 91 by decide)]
    rw [if_neg hk, if_neg (show ¬ kd X (em q (-19)).1 = 19 from hk)]
    rfl
/-- facts, then what comes behind them -/
def PFl (X : Tx) (g dep : Nat) : Prop := ∀ q st, dpo st = dep → (∀ w, pF X g dep q = .inl w → Evl X true q st (.inl w)) ∧ (∀ r res, pF X g dep q = .inr r → Evl X false r st res → Evl X true q st res)
theorem dpo_n {x : Nat} {st : List Nat} (h1 : x ≠ 11) (h2 : x ≠ 91) : dpo (x :: st) = dpo st := by
  unfold dpo
  rw [List.filter_cons, if_neg (by simp [h1, h2])]
theorem dpo_y {x : Nat} {st : List Nat} (h1 : x = 11 ∨ x = 91) : dpo (x :: st) = dpo st + 1 := by
  unfold dpo
  rw [List.filter_cons, if_pos (by rcases h1 with h | h <;> simp [h])]; rfl
theorem stg_lt {x l : Nat} (h : x ≠ 11) (h2 : l = 2 → x ≠ 12) (hl : 2 ≤ l) : stg x < l := by
  unfold stg
  repeat' split
  all_goals omega
theorem A_ev {X : Tx} {g dep : Nat} (hp : PFl X g dep) : ∀ f r st, dpo st = dep → stt st ≠ 11 → stt st ≠ 12 → (∀ w, pA' X (pF X g) dep f r = .inl w → Evl X false r st (.inl w)) ∧ (∀ s res, pA' X (pF X g) dep f r = .inr s → Evl X false s st res → Evl X false r st res) := by
  intro f
  induction f with
  | zero =>
    intro r st hd h1 h2
    refine ⟨(fun w h => by cases h), fun s res h e => ?_⟩
    cases h; exact e
  | succ f ih =>
    intro r st hd h1 h2
    unfold pA'
    by_cases z : kd X r.1 = 19
    · rw [if_pos z]
      have rule : ∀ res, Evl X true (nq X r) (12 :: st) res → Evl X false r st res := fun res e => ev_C e (fun F => by
        rw [stl_id (stg_lt h1 (fun _ => h2) (by decide))]
        unfold MC
        rw [if_neg (by show ¬ (kd X r.1 = 32 ∧ _); omega), if_pos z, stl_id (stg_lt h1 (fun _ => h2) (by decide))])
      obtain ⟨p1, p2⟩ := hp (nq X r) (12 :: st) (by rw [dpo_n (by decide) (by decide)]; exact hd)
      refine ⟨fun w h => ?_, fun s res h e => ?_⟩
      · cases hc : pF X g dep (nq X r) with
        | inl w' => rw [hc] at h; cases h; exact rule _ (p1 w hc)
        | inr s => rw [hc] at h; exact rule _ (p2 s _ hc (ev_12 h1 ((ih (em s (-20)) st hd h1 h2).1 w h)))
      · cases hc : pF X g dep (nq X r) with
        | inl w' => rw [hc] at h; cases h
        | inr u => rw [hc] at h; exact rule _ (p2 u _ hc (ev_12 h1 ((ih (em u (-20)) st hd h1 h2).2 s res h e)))
    · rw [if_neg z]
      refine ⟨(fun w h => by cases h), fun s res h e => ?_⟩
      cases h; exact e
theorem pA'_kd {X : Tx} {rf : Nat → Qs → Rs} {dep : Nat} (hr : Pos (rf dep)) : ∀ f r s, X.2 < r.1 + f → pA' X rf dep f r = .inr s → kd X s.1 ≠ 19 := by
  intro f
  induction f with
  | zero => intro r s h e; cases e; rw [ky_N (by omega)]; decide
  | succ f ih =>
    intro r s h e
    unfold pA' at e
    by_cases z : kd X r.1 = 19
    · rw [if_pos z] at e
      obtain ⟨u, h1, h2⟩ := rbd_in e
      have a : nx X r.1 < u.1 := hr _ _ h1
      have b := nx_gt X r.1
      exact ih (em u (-20)) s (by show X.2 < u.1 + f; omega) h2
    · rw [if_neg z] at e; cases e; exact z
theorem pO'_kd {X : Tx} {rf : Nat → Qs → Rs} {dep : Nat} (hr : Pos (rf dep)) (hX : X.2 ≤ 400) : ∀ f r s, X.2 < r.1 + f → kd X r.1 ≠ 19 → pO' X rf dep f r = .inr s → kd X s.1 ≠ 19 ∧ kd X s.1 ≠ 18 := by
  intro f
  induction f with
  | zero => intro r s h _ e; cases e; rw [ky_N (by omega)]; decide
  | succ f ih =>
    intro r s h k e
    unfold pO' at e
    by_cases z : kd X r.1 = 18
    · rw [if_pos z] at e
      obtain ⟨u, h1, h2⟩ := rbd_in e
      have a : nx X r.1 < u.1 := pA_pos X hr _ _ h1
      have b := nx_gt X r.1
      obtain ⟨v, h3, h4⟩ := rbd_in h1
      exact ih (em u (-19)) s (by show X.2 < u.1 + f; omega) (pA'_kd hr 401 v u (by omega) h4) h2
    · rw [if_neg z] at e; cases e; exact ⟨k, z⟩
theorem O_ev {X : Tx} {g dep : Nat} (hX : X.2 ≤ 400) (hp : PFl X g dep) : ∀ f r st, dpo st = dep → (st = [] ∨ ∃ y, st = 91 :: y) → kd X r.1 ≠ 19 → (∀ w, pO' X (pF X g) dep f r = .inl w → Evl X false r st (.inl w)) ∧ (∀ s res, pO' X (pF X g) dep f r = .inr s → Evl X false s st res → Evl X false r st res) := by
  intro f
  induction f with
  | zero =>
    intro r st hd h1 h2
    refine ⟨(fun w h => by cases h), fun s res h e => ?_⟩
    cases h; exact e
  | succ f ih =>
    intro r st hd h1 h2
    have hst : stt st = 0 ∨ stt st = 91 := by
      rcases h1 with h | ⟨y, h⟩ <;> subst h
      · exact Or.inl rfl
      · exact Or.inr rfl
    have h3 : stg (stt st) = 0 := by rcases hst with h | h <;> rw [h] <;> rfl
    unfold pO'
    by_cases z : kd X r.1 = 18
    · rw [if_pos z]
      have rule : ∀ res, Evl X true (nq X r) (13 :: st) res → Evl X false r st res := fun res e => ev_C e (fun F => by
        rw [stl_id (by omega)]
        unfold MC
        rw [if_neg (by show ¬ (kd X r.1 = 32 ∧ _); omega), if_neg h2, if_pos z, stl_id (l := 1) (show stg (stt st) < 1 by omega)])
      have hd13 : dpo (13 :: st) = dep := by rw [dpo_n (by decide) (by decide)]; exact hd
      obtain ⟨p1, p2⟩ := hp (nq X r) (13 :: st) hd13
      have pa : (∀ w, pA X (pF X g) dep (nq X r) = .inl w → Evl X true (nq X r) (13 :: st) (.inl w)) ∧ (∀ s res, pA X (pF X g) dep (nq X r) = .inr s → Evl X false s (13 :: st) res → Evl X true (nq X r) (13 :: st) res) := by
        refine ⟨fun w h => ?_, fun s res h e => ?_⟩
        · unfold pA at h
          cases hc : pF X g dep (nq X r) with
          | inl w' => rw [hc] at h; cases h; exact p1 w hc
          | inr u => rw [hc] at h; exact p2 u _ hc ((A_ev hp 401 u (13 :: st) hd13 (by show 13 ≠ 11; decide) (by show 13 ≠ 12; decide)).1 w h)
        · unfold pA at h
          cases hc : pF X g dep (nq X r) with
          | inl w' => rw [hc] at h; cases h
          | inr u => rw [hc] at h; exact p2 u _ hc ((A_ev hp 401 u (13 :: st) hd13 (by show 13 ≠ 11; decide) (by show 13 ≠ 12; decide)).2 s res h e)
      have ks : ∀ u, pA X (pF X g) dep (nq X r) = .inr u → kd X u.1 ≠ 19 := fun u h => by
        obtain ⟨v, h3, h4⟩ := rbd_in h
        exact pA'_kd (pF_pos X g dep) 401 v u (by omega) h4
      refine ⟨fun w h => ?_, fun s res h e => ?_⟩
      · cases hc : pA X (pF X g) dep (nq X r) with
        | inl w' => rw [hc] at h; cases h; exact rule _ (pa.1 w hc)
        | inr u => rw [hc] at h; exact rule _ (pa.2 u _ hc (ev_13 (by omega) (ks u hc) ((ih (em u (-19)) st hd h1 (ks u hc)).1 w h)))
      · cases hc : pA X (pF X g) dep (nq X r) with
        | inl w' => rw [hc] at h; cases h
        | inr u => rw [hc] at h; exact rule _ (pa.2 u _ hc (ev_13 (by omega) (ks u hc) ((ih (em u (-19)) st hd h1 (ks u hc)).2 s res h e)))
    · rw [if_neg z]
      refine ⟨(fun w h => by cases h), fun s res h e => ?_⟩
      cases h; exact e
/-- a whole test behind a stack's bracket, or none -/
theorem T_ev {X : Tx} {g dep : Nat} (hX : X.2 ≤ 400) (hp : PFl X g dep) {q : Qs} {st : List Nat} (hd : dpo st = dep) (hst : st = [] ∨ ∃ y, st = 91 :: y) : (∀ w, pO X (pF X g) dep q = .inl w → Evl X true q st (.inl w)) ∧ (∀ s res, pO X (pF X g) dep q = .inr s → kd X s.1 ≠ 19 → kd X s.1 ≠ 18 → Evl X false s st res → Evl X true q st res) ∧ (∀ s, pO X (pF X g) dep q = .inr s → kd X s.1 ≠ 19 ∧ kd X s.1 ≠ 18) := by
  have hst' : stt st ≠ 11 ∧ stt st ≠ 12 := by
    rcases hst with h | ⟨y, h⟩ <;> subst h
    · exact ⟨by show 0 ≠ 11; decide, by show 0 ≠ 12; decide⟩
    · exact ⟨by show 91 ≠ 11; decide, by show 91 ≠ 12; decide⟩
  obtain ⟨p1, p2⟩ := hp q st hd
  have ks : ∀ u, pA X (pF X g) dep q = .inr u → kd X u.1 ≠ 19 := fun u h => by
    obtain ⟨v, h3, h4⟩ := rbd_in h
    exact pA'_kd (pF_pos X g dep) 401 v u (by omega) h4
  have pa : (∀ w, pA X (pF X g) dep q = .inl w → Evl X true q st (.inl w)) ∧ (∀ s res, pA X (pF X g) dep q = .inr s → Evl X false s st res → Evl X true q st res) := by
    refine ⟨fun w h => ?_, fun s res h e => ?_⟩
    · unfold pA at h
      cases hc : pF X g dep q with
      | inl w' => rw [hc] at h; cases h; exact p1 w hc
      | inr u => rw [hc] at h; exact p2 u _ hc ((A_ev hp 401 u st hd hst'.1 hst'.2).1 w h)
    · unfold pA at h
      cases hc : pF X g dep q with
      | inl w' => rw [hc] at h; cases h
      | inr u => rw [hc] at h; exact p2 u _ hc ((A_ev hp 401 u st hd hst'.1 hst'.2).2 s res h e)
  refine ⟨fun w h => ?_, fun s res h _ _ e => ?_, fun s h => ?_⟩
  · unfold pO at h
    cases hc : pA X (pF X g) dep q with
    | inl w' => rw [hc] at h; cases h; exact pa.1 w hc
    | inr u => rw [hc] at h; exact pa.2 u _ hc ((O_ev hX hp 401 u st hd hst (ks u hc)).1 w h)
  · unfold pO at h
    cases hc : pA X (pF X g) dep q with
    | inl w' => rw [hc] at h; cases h
    | inr u => rw [hc] at h; exact pa.2 u _ hc ((O_ev hX hp 401 u st hd hst (ks u hc)).2 s res h e)
  · obtain ⟨u, h1, h2⟩ := rbd_in h
    exact pO'_kd (pF_pos X g dep) hX 401 u s (by omega) (ks u h1) h2
theorem PF_ev {X : Tx} (hX : X.2 ≤ 400) : ∀ g dep, dep ≤ 10 → 11 ≤ g + dep → PFl X g dep := by
  intro g
  induction g with
  | zero => intro dep h1 h2; omega
  | succ g ih =>
    intro dep h1 h2 q st hd
    by_cases z1 : kd X q.1 = 20
    · have e : pF X (g + 1) dep q = (if 10 ≤ dep then .inl (flw q.1 2) else rbd (pF X g (dep + 1) (nq X q)) (fun r => .inr (em r (-21)))) := if_pos z1
      rw [e]
      by_cases y : 10 ≤ dep
      · rw [if_pos y]
        refine ⟨fun w h => ?_, fun r res h => by cases h⟩
        cases h
        exact ⟨1, by show MF X _ q st = _; unfold MF; rw [if_pos z1, if_pos (by omega)], flw_ne⟩
      · rw [if_neg y]
        obtain ⟨p1, p2⟩ := ih (dep + 1) (by omega) (by omega) (nq X q) (11 :: st) (by rw [dpo_y (Or.inl rfl)]; omega)
        have rule : ∀ res, Evl X true (nq X q) (11 :: st) res → Evl X true q st res := fun res e => ev_F e (fun F => by
          unfold MF; rw [if_pos z1, if_neg (by omega)])
        refine ⟨fun w h => ?_, fun r res h e => ?_⟩
        · cases hc : pF X g (dep + 1) (nq X q) with
          | inl w' => rw [hc] at h; cases h; exact rule _ (p1 w hc)
          | inr u => rw [hc] at h; cases h
        · cases hc : pF X g (dep + 1) (nq X q) with
          | inl w' => rw [hc] at h; cases h
          | inr u => rw [hc] at h; cases h; exact rule _ (p2 u _ hc (ev_11 e))
    by_cases z2 : kd X q.1 = 31
    · have e : pF X (g + 1) dep q = (if 10 ≤ dep then .inl (flw q.1 2) else rbd (pO X (pF X g) (dep + 1) (nq X q)) (fun r => if kd X r.1 = 32 then .inr (nq X r) else .inl (flw r.1 0))) := (if_neg z1).trans (if_pos z2)
      rw [e]
      by_cases y : 10 ≤ dep
      · rw [if_pos y]
        refine ⟨fun w h => ?_, fun r res h => by cases h⟩
        cases h
        exact ⟨1, by show MF X _ q st = _; unfold MF; rw [if_neg z1, if_pos z2, if_pos (by omega)], flw_ne⟩
      · rw [if_neg y]
        obtain ⟨p1, p2, p3⟩ := T_ev hX (ih (dep + 1) (by omega) (by omega)) (q := nq X q) (st := 91 :: st) (by rw [dpo_y (Or.inr rfl)]; omega) (Or.inr ⟨st, rfl⟩)
        have rule : ∀ res, Evl X true (nq X q) (91 :: st) res → Evl X true q st res := fun res e => ev_F e (fun F => by
          unfold MF; rw [if_neg z1, if_pos z2, if_neg (by omega)])
        have shut : ∀ u res, kd X u.1 = 32 → Evl X false (nq X u) st res → Evl X false u (91 :: st) res := fun u res hu e => ev_C e (fun F => by
          rw [stl_id (by show stg 91 < 3; decide)]
          unfold MC
          rw [if_pos ⟨hu, List.mem_cons_self ..⟩, stl_id (by show stg 91 < 1; decide)]; rfl)
        have bad : ∀ u, kd X u.1 ≠ 32 → kd X u.1 ≠ 19 → kd X u.1 ≠ 18 → Evl X false u (91 :: st) (.inl (flw u.1 0)) := fun u a b c => ⟨1, by
          show MC X _ (stl 3 u (91 :: st)).1 (stl 3 u (91 :: st)).2 = _
          rw [stl_id (by show stg 91 < 3; decide)]
          unfold MC
          rw [if_neg (fun w => a w.1), if_neg b, if_neg c, if_pos (List.mem_cons_self ..)], flw_ne⟩
        refine ⟨fun w h => ?_, fun r res h e => ?_⟩
        · cases hc : pO X (pF X g) (dep + 1) (nq X q) with
          | inl w' => rw [hc] at h; cases h; exact rule _ (p1 w hc)
          | inr u =>
            rw [hc] at h
            have h : (if kd X u.1 = 32 then .inr (nq X u) else .inl (flw u.1 0) : Rs) = .inl w := h
            obtain ⟨k1, k2⟩ := p3 u hc
            by_cases x : kd X u.1 = 32
            · rw [if_pos x] at h; cases h
            · rw [if_neg x] at h; cases h
              exact rule _ (p2 u _ hc k1 k2 (bad u x k1 k2))
        · cases hc : pO X (pF X g) (dep + 1) (nq X q) with
          | inl w' => rw [hc] at h; cases h
          | inr u =>
            rw [hc] at h
            have h : (if kd X u.1 = 32 then .inr (nq X u) else .inl (flw u.1 0) : Rs) = .inr r := h
            obtain ⟨k1, k2⟩ := p3 u hc
            by_cases x : kd X u.1 = 32
            · rw [if_pos x] at h; cases h
              exact rule _ (p2 u _ hc k1 k2 (shut u _ x e))
            · rw [if_neg x] at h; cases h
    · have e : pF X (g + 1) dep q = pC X q := (if_neg z1).trans (if_neg z2)
      rw [e]
      refine ⟨fun w h => ⟨1, by show MF X _ q st = _; unfold MF; rw [if_neg z1, if_neg z2, h]; rfl, fun w' => by
        have := pC_nz (X := X) (q := q)
        rw [h] at this
        exact this w'⟩, fun r res h ev => ev_F ev (fun F => by unfold MF; rw [if_neg z1, if_neg z2, h]; rfl)⟩
/-- the whole test -/
theorem test_ev {X : Tx} (hX : X.2 ≤ 400) (q : Qs) : Evl X true q [] (pO X (pF X 12) 0 q) := by
  obtain ⟨p1, p2, p3⟩ := T_ev hX (PF_ev hX 12 0 (by decide) (by decide)) (q := q) (st := []) rfl (Or.inl rfl)
  cases hc : pO X (pF X 12) 0 q with
  | inl w => exact p1 w hc
  | inr s =>
    obtain ⟨k1, k2⟩ := p3 s hc
    refine p2 s _ hc k1 k2 ⟨1, ?_, inr_nz⟩
    show MC X _ s [] = _
    unfold MC
    rw [if_neg (fun w => absurd w.2 List.not_mem_nil), if_neg k1, if_neg k2, if_neg List.not_mem_nil]
    rfl
