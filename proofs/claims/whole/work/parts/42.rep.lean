/-! laws, the whole state, what always holds of it -/
abbrev Cz : Type := Nat × List Int32 × List Int32
abbrev LawT : Type := List Cz × (Nat → Int32)
def bop (s : Int32) (x y : Int64) : Int64 := if s = -23 then x + y else if s = -24 then x - y else if s = -25 then x * y else if s = -26 then (if y = 0 then 0 else x / y) else if s = -27 then (if x < y then 1 else 0) else if s = -28 then (if x ≤ y then 1 else 0) else if s = -29 then (if x = y then 1 else 0) else if s = -30 then (if y ≤ x then 1 else 0) else if s = -31 then (if y < x then 1 else 0) else if s = -20 then x &&& y else x ||| y
def st1 (w : Nat → Int64) (s : List Int64) (o : Int32) : List Int64 :=
  if 0 ≤ o then o.toInt64 :: s else if -10 < o then w (ix (-1 - o)) :: s else match s with
  | [] => []
  | x :: r => if o = -21 then (1 - x) :: r else match r with
    | [] => x :: r
    | y :: r' => bop o y x :: r'
def evs (w : Nat → Int64) (l : List Int32) (s : List Int64) : List Int64 := l.foldl (st1 w) s
def evl (l : List Int32) (w : Nat → Int64) : Int64 := (evs w l []).headD 0
/-- which ops there are -/
def opk (o : Int32) : Prop := (0 ≤ o ∧ o ≤ 99999) ∨ (-9 ≤ o ∧ o ≤ -1) ∨ o = -21 ∨ o = -20 ∨ o = -19 ∨ (-31 ≤ o ∧ o ≤ -23)
/-- the depth behind them, from a depth on; never less than what they need -/
def dpt (o : Int32) (d d' : Nat) : Prop := opk o ∧ ((-10 < o ∧ d' = d + 1) ∨ (o = -21 ∧ 1 ≤ d ∧ d' = d) ∨ (¬ -10 < o ∧ o ≠ -21 ∧ 2 ≤ d ∧ d' + 1 = d))
def dps (M : Nat) : List Int32 → Nat → Nat → Prop
  | [], d, d' => d = d'
  | o :: l, d, d' => ∃ e, dpt o d e ∧ e ≤ M ∧ dps M l e d'
def wfo (l : List Int32) : Prop := dps 60 l 0 1
def csort (s : Nat) : Nat := if s < 3 then 9 else if s < 6 then 10 else if s = 11 then 11 else s + 6
def cbath (s : Nat) : Nat := if s < 3 then s else if s < 6 then s - 3 else 0
def rsg (o : Int32) : Nat := if 0 ≤ o then 16 * ix o else if -10 < o then 1 + 16 * ix (-1 - o) else if o = -21 then 11 else if o = -20 then 12 else if o = -19 then 13 else ix (-21 - o)
def isW (x : Cz) : Bool := x.1 != 11
/-- a law as the class keeps it -/
def LC (t : Nat) (δ : Dm) (L : LawT) : Prop :=
  gI δ t 0 = nI L.1.length ∧
  (∀ c x, L.1[c]? = some x → gI δ (t + 1) c = nI (csort x.1) ∧ (x.1 ≠ 11 → gI δ (t + 2) c = nI (cbath x.1)) ∧ ∃ a, a + x.2.1.length + x.2.2.length ≤ 400 ∧ gI δ (t + 3) c = nI a ∧ gI δ (t + 4) c = nI (a + x.2.1.length) ∧ gI δ (t + 5) c = nI (a + x.2.1.length + x.2.2.length) ∧ ∀ k o, (x.2.1 ++ x.2.2)[k]? = some o → gI δ (t + 7) (a + k) = o) ∧
  ∀ k, k < 3 → gI δ (t + 6) k = L.2 k
/-- a law as the reference keeps it -/
def LM (i : Nat) (δ : Dm) (L : LawT) : Prop :=
  gI δ 157 i = nI (L.1.filter isW).length ∧
  (∀ c x, (L.1.filter isW)[c]? = some x → gI δ 156 (70 * i + 5 * c) = nI x.1 ∧ ∃ a, a + x.2.1.length + x.2.2.length ≤ 400 ∧ gI δ 156 (70 * i + 5 * c + 1) = nI a ∧ gI δ 156 (70 * i + 5 * c + 2) = nI (a + x.2.1.length) ∧ gI δ 156 (70 * i + 5 * c + 3) = (if x.2.2 = [] then -1 else nI (a + x.2.1.length)) ∧ gI δ 156 (70 * i + 5 * c + 4) = nI (a + x.2.1.length + x.2.2.length) ∧ ∀ k o, (x.2.1 ++ x.2.2)[k]? = some o → gI δ 154 (400 * i + (a + k)) = nI (rsg o)) ∧
  ∀ k, k < 3 → gI δ 158 (3 * i + k) = L.2 k
def LOk (L : LawT) : Prop := L.1.length ≤ 14 ∧ ∀ x ∈ L.1, x.1 ≤ 11 ∧ (x.1 = 11 → x.2.1 = [] ∧ x.2.2 = []) ∧ (x.1 < 11 → (6 ≤ x.1 → x.1 < 10 → x.2.1 = [] ∧ x.2.2 ≠ []) ∧ ((x.1 < 6 ∨ x.1 = 10) → wfo x.2.1) ∧ (x.2.2 ≠ [] → wfo x.2.2 ∧ ∀ w, evl x.2.2 w = 0 ∨ evl x.2.2 w = 1))
/-- the whole state: the town, the laws, the tape, how much of it, the images in the order of their making -/
abbrev St : Type := Tw × List LawT × (Nat → Nat) × Nat × List (Nat × Tw)
abbrev sT (S : St) : Tw := S.1
abbrev sJ (S : St) : List LawT := S.2.1
abbrev sP (S : St) : Nat → Nat := S.2.2.1
abbrev sN (S : St) : Nat := S.2.2.2.1
abbrev sM (S : St) : List (Nat × Tw) := S.2.2.2.2
def cntf (b : Nat) (l : List Ev) : Nat := (l.filter (fun x => x 0 == 0 && x 1 == b)).length
def boxs (p b : Nat) (c : Nat) (x : Ev) : Nat := if x 1 = b then (if x 0 = 0 then x 7 + p else if x 0 = 2 then 0 else c) else c
def boxf (p b : Nat) (l : List Ev) : Nat := l.foldl (boxs p b) 0
def okS (T : Tw) : Prop := T.1 0 < 400 ∧ T.1 1 ≤ 12 ∧ T.1 2 ≤ 8 ∧ T.1 3 = ((tE T).filter isS).length ∧ T.1 3 ≤ 400 ∧ T.1 4 = ((tE T).filter isH).length ∧ T.1 4 ≤ 100 ∧ T.1 5 = (tR T).length ∧ T.1 5 ≤ 100 ∧ T.1 6 = (tC T).length ∧ T.1 6 ≤ 100
def okG (T : Tw) : Prop := (∀ d, d < 400 → T.1 (10 + d) ≤ 40) ∧ (∀ p, p < 12 → T.1 (410 + p) ≤ 99) ∧ (∀ a b, a < 12 → b < 12 → T.1 (422 + (12 * a + b)) ≤ 999 ∧ ((T.1 1 ≤ a ∨ T.1 1 ≤ b) → T.1 (422 + (12 * a + b)) = 0)) ∧ (∀ b p m, b < 8 → p < 12 → m < 2 → T.1 (8726 + (2 * (12 * b + p) + m)) ≤ 9999 ∧ (T.1 1 ≤ p → T.1 (8726 + (2 * (12 * b + p) + m)) = 0))
def bc (G : Nat → Nat) (b w : Nat) : Nat := G (566 + (20 * b + w))
def okB (nl : Nat) (T : Tw) : Prop := ∀ b, b < T.1 2 → bc T.1 b 0 < T.1 1 ∧ (∀ c, c < T.1 2 → c ≠ b → bc T.1 c 0 ≠ bc T.1 b 0) ∧ 1 ≤ bc T.1 b 1 ∧ bc T.1 b 1 ≤ 999 ∧ bc T.1 b 2 < nl ∧ (∀ k, k < 3 → bc T.1 b (3 + k) ≤ 1000) ∧ bc T.1 b 6 ≤ 9999 ∧ bc T.1 b 7 = boxf (bc T.1 b 1) b (tE T) ∧ bc T.1 b 7 ≤ 999 * bc T.1 b 8 ∧ bc T.1 b 8 = cntf b (tE T) ∧ bc T.1 b 9 ≤ 1000 * T.1 4 ∧ bc T.1 b 10 ≤ T.1 0 ∧ bc T.1 b 11 ≤ 9999
def okE (T : Tw) : Prop := (∀ x ∈ tE T, x 0 ≤ 2 ∧ x 1 < T.1 2 ∧ x 2 ≤ T.1 0 ∧ bc T.1 (x 1) 10 ≤ x 2 ∧ x 3 ≤ 99 ∧ x 4 ≤ 20 ∧ x 5 ≤ 5 ∧ (x 0 = 1 → x 3 < 3)) ∧ (tE T).Pairwise (fun x y => x 2 ≤ y 2)
def okH (T : Tw) : Prop := (∀ e x, (tE T)[e]? = some x → (x 0 = 0 → x 6 = cntf (x 1) ((tE T).take e) ∧ x 7 = boxf (bc T.1 (x 1) 1) (x 1) ((tE T).take e)) ∧ (x 0 = 2 → 0 < boxf (bc T.1 (x 1) 1) (x 1) ((tE T).take e))) ∧ (∀ b d, b < T.1 2 → bc T.1 b 10 ≤ d → d < T.1 0 → T.1 (726 + (400 * b + d)) = boxf (bc T.1 b 1) b ((tE T).filter (fun x => x 2 ≤ d)))
def okP (T : Tw) : Prop := (∀ x ∈ tR T, x 0 < T.1 2 ∧ x 1 ≤ T.1 0 ∧ x 2 ≤ 99999 ∧ x 3 ≤ 99999999 ∧ x 4 ≤ T.1 0) ∧ (∀ x ∈ tC T, x 0 ≤ 31 ∧ x 1 < T.1 2 ∧ x 2 ≤ T.1 0)
def okT (nl : Nat) (T : Tw) : Prop := okS T ∧ okG T ∧ okB nl T ∧ okE T ∧ okH T ∧ okP T
def Ok (S : St) : Prop := okT (sJ S).length (sT S) ∧ (sJ S).length ≤ 8 ∧ (∀ L ∈ sJ S, LOk L) ∧ sN S ≤ 400 ∧ (∀ j, sP S j < 256) ∧ (∀ q ∈ sM S, okT (sJ S).length q.2 ∧ q.1 < 4) ∧ ((sM S).map Prod.fst).Nodup
def RepC (δ : Dm) (n : Nat) (S : St) : Prop :=
  RC 29 δ (sT S) ∧ gI δ 4 3 = nI (sJ S).length ∧ (∀ i L, (sJ S)[i]? = some L → LC (87 + 8 * i) δ L) ∧ gI δ 4 1 = nI (sN S) ∧ (∀ j, j < sN S → gI δ 5 j = nI (sP S j)) ∧
  n = 168 + 57 * (sM S).length ∧ (∀ j q, (sM S)[j]? = some q → gI δ 86 q.1 = nI (168 + 57 * j) ∧ RC (168 + 57 * j) δ q.2) ∧ (∀ k, k < 4 → k ∉ (sM S).map Prod.fst → gI δ 86 k = 0)
def RepM (δ : Dm) (S : St) : Prop :=
  RM 152 0 δ (sT S) ∧ gI δ 151 3 = nI (sJ S).length ∧ (∀ i L, (sJ S)[i]? = some L → LM i δ L) ∧ gI δ 151 2 = nI (sN S) ∧ (∀ j, j < sN S → gI δ 153 j = (nI (sP S j)).toInt8.toInt32) ∧
  (∀ q ∈ sM S, RM 166 (8918 * q.1) δ q.2) ∧ (∀ k, k < 4 → gI δ 167 k = bI (k ∈ (sM S).map Prod.fst))
def Rep (δ : Dm) (n : Nat) (S : St) : Prop := RepC δ n S ∧ RepM δ S ∧ Ok S
/-- what leaves the class's cells as they are; the reference's; the script -/
def KC (δ δ' : Dm) : Prop := ∀ b j, (b < 4 ∨ b = 4 ∨ b = 5 ∨ (29 ≤ b ∧ b < 151) ∨ 168 ≤ b) → gI δ' b j = gI δ b j
def KM (δ δ' : Dm) : Prop := ∀ b j, (b < 4 ∨ (b = 151 ∧ (j = 2 ∨ j = 3)) ∨ (152 ≤ b ∧ b < 159) ∨ b = 166 ∨ b = 167) → gI δ' b j = gI δ b j
theorem KC.refl (δ : Dm) : KC δ δ := fun _ _ _ => rfl
theorem KM.refl (δ : Dm) : KM δ δ := fun _ _ _ => rfl
theorem KC.trans {a b c : Dm} (h : KC a b) (k : KC b c) : KC a c := fun x j q => (k x j q).trans (h x j q)
theorem KM.trans {a b c : Dm} (h : KM a b) (k : KM b c) : KM a c := fun x j q => (k x j q).trans (h x j q)
theorem LC_keep {t : Nat} {δ δ' : Dm} {L : LawT} (h : LC t δ L) (hk : ∀ o j, o < 8 → gI δ' (t + o) j = gI δ (t + o) j) : LC t δ' L := by
  obtain ⟨h1, h2, h3⟩ := h
  refine ⟨by have := hk 0 0 (by decide); rw [Nat.add_zero] at this; rw [this]; exact h1, fun c x hx => ?_, fun k h => by rw [hk 6 k (by decide)]; exact h3 k h⟩
  rw [hk 1 c (by decide), hk 2 c (by decide), hk 3 c (by decide), hk 4 c (by decide), hk 5 c (by decide)]
  obtain ⟨a1, a2, a, a3, a4, a5, a6, a7⟩ := h2 c x hx
  exact ⟨a1, a2, a, a3, a4, a5, a6, fun k o q => by rw [hk 7 _ (by decide)]; exact a7 k o q⟩
theorem RepC_keep {δ δ' : Dm} {n : Nat} {S : St} (h : RepC δ n S) (hl : (sJ S).length ≤ 8) (hk : KC δ δ') : RepC δ' n S := by
  obtain ⟨h1, h2, h3, h4, h5, h6, h7, h8⟩ := h
  refine ⟨RC_keep h1 (fun o j ho => hk _ _ (by omega)), by rw [hk 4 3 (by omega)]; exact h2, fun i L hi => LC_keep (h3 i L hi) (fun o j ho => hk _ _ ?_), by rw [hk 4 1 (by omega)]; exact h4, fun j hj => by rw [hk 5 j (by omega)]; exact h5 j hj, h6, fun j q hq => ?_, fun k hk4 hn => by rw [hk 86 k (by omega)]; exact h8 k hk4 hn⟩
  · have := (List.getElem?_eq_some_iff.mp hi).1
    have : i < (sJ S).length := this
    omega
  · obtain ⟨a1, a2⟩ := h7 j q hq
    exact ⟨by rw [hk 86 _ (by omega)]; exact a1, RC_keep a2 (fun o j ho => hk _ _ (by omega))⟩
theorem RM_keepT {nl r o : Nat} {δ δ' : Dm} {T : Tw} (h : RM r o δ T) (ht : okS T) (hv : ((tE T).filter isV).length ≤ 500) (hk : ∀ j, gI δ' r j = gI δ r j) : RM r o δ' T :=
  RM_keep h hv (by obtain ⟨_, _, _, _, _, _, _, a, b, _⟩ := ht; omega) (by obtain ⟨_, _, _, _, _, _, _, _, _, a, b⟩ := ht; omega) (fun j _ => hk _)
theorem cnt_V : ∀ l : List Ev, (∀ x ∈ l, x 0 ≤ 2) → (l.filter isV).length = (l.filter isS).length + (l.filter isH).length := by
  intro l
  induction l with
  | nil => intro _; rfl
  | cons x l ih =>
    intro h
    have hx := h x (List.mem_cons_self ..)
    have ih := ih (fun y hy => h y (List.mem_cons_of_mem _ hy))
    have hc : x 0 = 0 ∨ x 0 = 1 ∨ x 0 = 2 := by omega
    rcases hc with q | q | q <;> simp [List.filter_cons, isV, isS, isH, q] at ih ⊢ <;> omega
theorem okV {nl : Nat} {T : Tw} (h : okT nl T) : ((tE T).filter isV).length ≤ 500 := by
  obtain ⟨h1, -, -, h4, -⟩ := h
  rw [cnt_V _ (fun x hx => (h4.1 x hx).1)]
  obtain ⟨_, _, _, a, b, c, d, _⟩ := h1
  omega
theorem RM_keepO {nl r o : Nat} {δ δ' : Dm} {T : Tw} (h : RM r o δ T) (ht : okT nl T) (hk : ∀ j, gI δ' r j = gI δ r j) : RM r o δ' T :=
  RM_keepT (nl := nl) h ht.1 (okV ht) hk
theorem LM_keep {i : Nat} {δ δ' : Dm} {L : LawT} (h : LM i δ L) (hk : ∀ b j, 152 ≤ b → b < 159 → gI δ' b j = gI δ b j) : LM i δ' L := by
  obtain ⟨h1, h2, h3⟩ := h
  refine ⟨by rw [hk 157 _ (by decide) (by decide)]; exact h1, fun c x hx => ?_, fun k q => by rw [hk 158 _ (by decide) (by decide)]; exact h3 k q⟩
  rw [hk 156 _ (by decide) (by decide), hk 156 _ (by decide) (by decide), hk 156 _ (by decide) (by decide), hk 156 _ (by decide) (by decide), hk 156 _ (by decide) (by decide)]
  obtain ⟨a1, a, a2, a3, a4, a5, a6, a7⟩ := h2 c x hx
  exact ⟨a1, a, a2, a3, a4, a5, a6, fun k o q => by rw [hk 154 _ (by decide) (by decide)]; exact a7 k o q⟩
theorem RepM_keep {δ δ' : Dm} {S : St} (h : RepM δ S) (ho : Ok S) (hk : KM δ δ') : RepM δ' S := by
  obtain ⟨h1, h2, h3, h4, h5, h6, h7⟩ := h
  obtain ⟨o1, o2, o3, o4, o5, o6, o7⟩ := ho
  exact ⟨RM_keepO h1 o1 (fun j => hk _ _ (by omega)), by rw [hk 151 3 (by omega)]; exact h2, fun i L q => LM_keep (h3 i L q) (fun b j a c => hk _ _ (by omega)), by rw [hk 151 2 (by omega)]; exact h4, fun j q => by rw [hk 153 j (by omega)]; exact h5 j q, fun q hq => RM_keepO (h6 q hq) (o6 q hq).1 (fun j => hk _ _ (by omega)), fun k q => by rw [hk 167 k (by omega)]; exact h7 k q⟩
