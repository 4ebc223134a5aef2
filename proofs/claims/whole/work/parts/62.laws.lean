/-! what a law says, by both -/
def tstP (w : Nat → Int64) (x : Cz) : Bool := decide (x.2.2 = []) || decide (evl x.2.2 w = 1)
def pkP (w : Nat → Int64) (r : Nat) (x : Cz) : Bool := decide (x.1 = r) && tstP w x
def fnd (L : LawT) (w : Nat → Int64) (r : Nat) : Option Cz := L.1.find? (pkP w r)
def totP (L : LawT) (w : Nat → Int64) (r : Nat) : Int64 := match fnd L w r with
  | some x => evl x.2.1 w
  | none => 0
def holP (L : LawT) (w : Nat → Int64) (r : Nat) : Bool := (fnd L w r).isSome
theorem find_at {α : Type} {P : α → Bool} {l : List α} {i : Nat} {x : α} (h0 : (l.take i).find? P = none) (hx : l[i]? = some x) (hp : P x = true) : l.find? P = some x := by
  have hi := idx_lt hx
  have e : l = l.take i ++ (x :: l.drop (i + 1)) := by
    rw [List.getElem?_eq_getElem hi] at hx
    have := Option.some.inj hx
    rw [← this, List.getElem_cons_drop, List.take_append_drop]
  rw [e, List.find?_append, h0, List.find?_cons_of_pos hp]; rfl
theorem find_nx {α : Type} {P : α → Bool} {l : List α} {i : Nat} {x : α} (h0 : (l.take i).find? P = none) (hx : l[i]? = some x) (hp : ¬ P x = true) : (l.take (i + 1)).find? P = none := by
  rw [List.take_add_one, hx, List.find?_append, h0]
  show (none : Option α).or ([x].find? P) = none
  rw [List.find?_cons_of_neg hp]; rfl
theorem fnd_W {L : LawT} {w : Nat → Int64} {r : Nat} (hr : r ≠ 11) : (L.1.filter isW).find? (pkP w r) = fnd L w r := by
  unfold fnd
  rw [List.find?_filter]
  congr 1
  funext x
  by_cases h : x.1 = r
  · have : isW x = true := by unfold isW; rw [h]; simpa using hr
    simp [this]
  · simp [pkP, h]
def LKd (t : Nat) : Prop := (KD (t + 1)).2 = 14 ∧ (KD (t + 2)).2 = 14 ∧ (KD (t + 3)).2 = 14 ∧ (KD (t + 4)).2 = 14 ∧ (KD (t + 5)).2 = 14 ∧ (KD (t + 6)).2 = 3 ∧ (KD (t + 7)).2 = 400
/-- what the class's evaluation leaves alone -/
def FrC (δ δ' : Dm) : Prop := δ'.1 = δ.1 ∧ ∀ k, gL δ' 20 k = gL δ 20 k
theorem FrC.refl (δ : Dm) : FrC δ δ := ⟨rfl, fun _ => rfl⟩
theorem FrC.trans {a b c : Dm} (h : FrC a b) (k : FrC b c) : FrC a c := ⟨k.1.trans h.1, fun j => (k.2 j).trans (h.2 j)⟩
theorem gE {δ δ' : Dm} (h : δ'.1 = δ.1) (b j : Nat) : gI δ' b j = gI δ b j := congrFun (congrFun h b) j
theorem LC_E {t : Nat} {δ δ' : Dm} {L : LawT} (h : δ'.1 = δ.1) (q : LC t δ L) : LC t δ' L := LC_keep q (fun _ _ _ => gE h _ _)
theorem slice1 {α : Type} {l m : List α} {k : Nat} {o : α} (h : l[k]? = some o) : (l ++ m)[k]? = some o := by
  rw [List.getElem?_append_left (idx_lt h)]; exact h
theorem slice2 {α : Type} {l m : List α} {k : Nat} {o : α} (h : m[k]? = some o) : (l ++ m)[l.length + k]? = some o := by
  rw [List.getElem?_append_right (by omega), Nat.add_sub_cancel_left]; exact h
theorem csort_lt {s : Nat} (h : s ≤ 11) : csort s < 18 ∧ cbath s < 3 := by
  unfold csort cbath
  constructor
  · repeat' split
    all_goals omega
  · repeat' split
    all_goals omega
theorem csort_i {s r : Nat} (hs : s ≤ 11) (hr : 6 ≤ r ∧ r < 10) : csort s = r + 6 ↔ s = r := by
  unfold csort
  constructor
  · intro h
    repeat' split at h
    all_goals omega
  · intro h
    subst h
    rw [if_neg (by omega), if_neg (by omega), if_neg (by omega)]
theorem holdsC {t r : Nat} {L : LawT} {w : Nat → Int64} {δ : Dm} (hL : LC t δ L) (ok : LOk L) (hk : LKd t) (hr : 6 ≤ r ∧ r < 10) (hw : ∀ k, k < 9 → gL δ 20 k = w k) : ∃ δ', FrC δ δ' ∧ f_La_holds t (nI (r + 6)) δ = some (if holP L w r = true then 1 else 0, δ') := by
  obtain ⟨l1, l2, l3⟩ := hL
  have hl14 : L.1.length ≤ 14 := ok.1
  have Q := for_brk (fun f i (d : Dm) => lp_La_holds_2 (fun v3_2x δ2x => (some ((0 : Int32), δ2x))) t (nI (r + 6)) f i d) L.1.length (by omega) (fun i d => FrC δ d ∧ (L.1.take i).find? (pkP w r) = none) (fun x => ∃ δ', FrC δ δ' ∧ x = some (if holP L w r = true then 1 else 0, δ'))
    (fun f i d hi hI => by
      obtain ⟨hF, h0⟩ := hI
      obtain ⟨x, hx⟩ : ∃ x, L.1[i]? = some x := ⟨_, List.getElem?_eq_getElem hi⟩
      obtain ⟨c1, c2, a, c3, c4, c5, c6, c7⟩ := l2 i x hx
      obtain ⟨o1, o2, o3⟩ := ok.2 x (List.mem_of_getElem? hx)
      simp only [lp_La_holds_2]
      rw [gE hF.1, l1, if_neg (nI_ge hi (by omega)), get_in hk.1 (by omega), gE hF.1, c1, Option.bind_some]
      have q := csort_lt o1
      by_cases h : x.1 = r
      · have hs : csort x.1 = r + 6 := (csort_i o1 hr).mpr h
        rw [if_pos (by rw [hs]), get_in hk.2.2.2.1 (by omega), gE hF.1, c5, Option.bind_some, get_in hk.2.2.2.2.1 (by omega), gE hF.1, c6, Option.bind_some]
        obtain ⟨p1, p2, p3⟩ := o3 (by omega)
        have pn : x.2.2 ≠ [] := (p1 (by omega) (by omega)).2
        obtain ⟨δ1, b1, b2, b3⟩ := run_eq (t := t) (a := a + x.2.1.length) (w := w) (l := x.2.2) (δ := d) hk.2.2.2.2.2.2 (by omega) (fun k o q => by
          rw [gE hF.1, Nat.add_assoc]; exact c7 _ _ (slice2 q)) (fun k hk => by rw [hF.2]; exact hw k hk) (Or.inr (p3 pn).1)
        rw [b3, Option.bind_some]
        simp only [bndE]
        rw [c_eq]
        by_cases h1 : evl x.2.2 w = 0
        · right
          rw [if_pos h1, nI_1]
          refine ⟨δ1, ⟨hF.trans ⟨b1, b2⟩, find_nx h0 hx ?_⟩, rfl⟩
          have h11 : ¬ evl x.2.2 w = 1 := fun z => by rw [h1] at z; exact absurd z (by decide)
          simp [pkP, tstP, pn, h11]
        · left
          rw [if_neg h1]
          refine ⟨δ1, hF.trans ⟨b1, b2⟩, ?_⟩
          have h11 : evl x.2.2 w = 1 := ((p3 pn).2 w).resolve_left h1
          have : fnd L w r = some x := find_at h0 hx (by simp [pkP, tstP, h, h11])
          rw [if_pos (by unfold holP; rw [this]; rfl)]
      · right
        have hs : ¬ csort x.1 = r + 6 := fun z => h ((csort_i o1 hr).mp z)
        rw [if_neg (fun z => hs ((nI_eq (by omega) (by omega)).mp z)), nI_1]
        exact ⟨d, ⟨hF, find_nx h0 hx (by simp [pkP, h])⟩, rfl⟩)
    (fun f d hI => by
      obtain ⟨hF, h0⟩ := hI
      simp only [lp_La_holds_2]
      rw [gE hF.1, l1, if_pos (nI_le (Nat.le_refl _) (by omega))]
      rw [List.take_length] at h0
      refine ⟨d, hF, ?_⟩
      rw [if_neg (by unfold holP fnd; rw [h0]; decide)])
    0 δ (Nat.zero_le _) ⟨FrC.refl δ, rfl⟩
  exact Q
theorem csort_j {s r : Nat} (hs : s ≤ 10) (hr : r < 6 ∨ r = 10) : (csort s = csort r ∧ cbath s = cbath r) ↔ s = r := by
  constructor
  · rintro ⟨h1, h2⟩
    unfold csort at h1
    unfold cbath at h2
    repeat' split at h1
    all_goals (repeat' split at h2)
    all_goals omega
  · rintro rfl; exact ⟨rfl, rfl⟩
theorem totC {t r : Nat} {L : LawT} {w : Nat → Int64} {δ : Dm} (hL : LC t δ L) (ok : LOk L) (hk : LKd t) (hr : r < 6 ∨ r = 10) (hw : ∀ k, k < 9 → gL δ 20 k = w k) : ∃ δ', FrC δ δ' ∧ f_La_total t (nI (csort r)) (nI (cbath r)) δ = some (totP L w r, δ') := by
  obtain ⟨l1, l2, l3⟩ := hL
  have hl14 : L.1.length ≤ 14 := ok.1
  have qr := csort_lt (s := r) (by omega)
  have Q := for_brk (fun f i (d : Dm) => lp_La_total_3 (fun v4_3x δ3x => (some ((0 : Int64), δ3x))) t (nI (csort r)) (nI (cbath r)) f i d) L.1.length (by omega) (fun i d => FrC δ d ∧ (L.1.take i).find? (pkP w r) = none) (fun x => ∃ δ', FrC δ δ' ∧ x = some (totP L w r, δ'))
    (fun f i d hi hI => by
      obtain ⟨hF, h0⟩ := hI
      obtain ⟨x, hx⟩ : ∃ x, L.1[i]? = some x := ⟨_, List.getElem?_eq_getElem hi⟩
      obtain ⟨c1, c2, a, c3, c4, c5, c6, c7⟩ := l2 i x hx
      obtain ⟨o1, o2, o3⟩ := ok.2 x (List.mem_of_getElem? hx)
      have q := csort_lt o1
      simp only [lp_La_total_3]
      rw [gE hF.1, l1, if_neg (nI_ge hi (by omega)), get_in hk.1 (by omega), gE hF.1, c1, Option.bind_some]
      by_cases hA : csort x.1 = csort r
      · have n11 : x.1 ≠ 11 := fun z => by
          rw [z] at hA
          have : csort 11 = 11 := by decide
          rw [this] at hA
          unfold csort at hA
          repeat' split at hA
          all_goals omega
        rw [if_pos (by rw [hA]), get_in hk.2.1 (by omega), gE hF.1, c2 n11, Option.bind_some]
        by_cases hB : cbath x.1 = cbath r
        · have h : x.1 = r := (csort_j (by omega) hr).mp ⟨hA, hB⟩
          obtain ⟨p1, p2, p3⟩ := o3 (by omega)
          rw [if_pos (by rw [hB]), get_in hk.2.2.2.1 (by omega), gE hF.1, c5, Option.bind_some, get_in hk.2.2.2.2.1 (by omega), gE hF.1, c6, Option.bind_some]
          have J : ∀ (kr : Int32 → Dm → Option (Int64 × Dm)) (kx : Int32 → Dm → Option (Int64 × Dm)) (e : Dm), FrC δ e → pkP w r x = true → ∃ δ', FrC δ δ' ∧ jp_La_total_87 kr kx t (nI (csort r)) (nI (cbath r)) (nI i) (nI (a + x.2.1.length)) e = some (totP L w r, δ') := fun kr kx e he hp => by
            obtain ⟨δ1, b1, b2, b3⟩ := run_eq (t := t) (a := a) (w := w) (l := x.2.1) (δ := e) hk.2.2.2.2.2.2 (by omega) (fun k o q => by
              rw [gE he.1]; exact c7 _ _ (slice1 q)) (fun k hk => by rw [he.2]; exact hw k hk) (Or.inr (p2 (by omega)))
            refine ⟨δ1, he.trans ⟨b1, b2⟩, ?_⟩
            unfold jp_La_total_87
            rw [get_in hk.2.2.1 (by omega), gE he.1, c4, Option.bind_some, b3, Option.bind_some]
            simp only [bndE]
            have : fnd L w r = some x := find_at h0 hx hp
            unfold totP; rw [this]
          by_cases hT : x.2.2 = []
          · left
            rw [if_pos (by rw [hT]; rfl)]
            exact J _ _ d hF (by simp [pkP, tstP, h, hT])
          · have hT' : x.2.2.length ≠ 0 := fun z => hT (List.length_eq_zero_iff.mp z)
            rw [if_neg (fun z => by have := (nI_eq (by omega) (by omega)).mp z; omega), Option.bind_some]
            obtain ⟨δ1, b1, b2, b3⟩ := run_eq (t := t) (a := a + x.2.1.length) (w := w) (l := x.2.2) (δ := d) hk.2.2.2.2.2.2 (by omega) (fun k o q => by
              rw [gE hF.1, Nat.add_assoc]; exact c7 _ _ (slice2 q)) (fun k hk => by rw [hF.2]; exact hw k hk) (Or.inr (p3 hT).1)
            rw [b3, Option.bind_some]
            simp only [bndE]
            rw [c_eq]
            by_cases h1 : evl x.2.2 w = 0
            · right
              rw [if_pos h1, nI_1]
              refine ⟨δ1, ⟨hF.trans ⟨b1, b2⟩, find_nx h0 hx ?_⟩, rfl⟩
              have h11 : ¬ evl x.2.2 w = 1 := fun z => by rw [h1] at z; exact absurd z (by decide)
              simp [pkP, tstP, hT, h11]
            · left
              rw [if_neg h1]
              have h11 : evl x.2.2 w = 1 := ((p3 hT).2 w).resolve_left h1
              exact J _ _ δ1 (hF.trans ⟨b1, b2⟩) (by simp [pkP, tstP, h, h11])
        · right
          have h : ¬ x.1 = r := fun z => hB (by rw [z])
          rw [if_neg (fun z => hB ((nI_eq (by omega) (by omega)).mp z)), nI_1]
          exact ⟨d, ⟨hF, find_nx h0 hx (by simp [pkP, h])⟩, rfl⟩
      · right
        have h : ¬ x.1 = r := fun z => hA (by rw [z])
        rw [if_neg (fun z => hA ((nI_eq (by omega) (by omega)).mp z)), nI_1]
        exact ⟨d, ⟨hF, find_nx h0 hx (by simp [pkP, h])⟩, rfl⟩)
    (fun f d hI => by
      obtain ⟨hF, h0⟩ := hI
      simp only [lp_La_total_3]
      rw [gE hF.1, l1, if_pos (nI_le (Nat.le_refl _) (by omega))]
      rw [List.take_length] at h0
      refine ⟨d, hF, ?_⟩
      unfold totP fnd; rw [h0])
    0 δ (Nat.zero_le _) ⟨FrC.refl δ, rfl⟩
  exact Q
/-- the reference's -/
theorem holdM {i r : Nat} {L : LawT} {w : Nat → Int64} {δ : Dm} (hL : LM i δ L) (ok : LOk L) (hi8 : i < 8) (hr : r < 11) (hw : ∀ k, k < 9 → gL δ 161 k = w k) : ∃ δ', FrM δ δ' ∧ ((fnd L w r = none ∧ f_Mo_holding (nI i) (nI r) δ = some (-1, δ')) ∨ ∃ c x, (L.1.filter isW)[c]? = some x ∧ fnd L w r = some x ∧ f_Mo_holding (nI i) (nI r) δ = some (nI (70 * i + 5 * c), δ')) := by
  obtain ⟨l1, l2, l3⟩ := hL
  obtain ⟨l', hl'⟩ : ∃ l', L.1.filter isW = l' := ⟨_, rfl⟩
  have hW := fnd_W (L := L) (w := w) (r := r) (by omega)
  rw [hl'] at l1 l2 hW ⊢
  have hl14 : l'.length ≤ 14 := by
    have := ok.1
    have h2 : (L.1.filter isW).length ≤ L.1.length := List.length_filter_le _ _
    rw [hl'] at h2; omega
  have Q := for_brk (fun f j (d : Dm) => lp_Mo_holding_2 (fun v3_2x δ2x => (some ((-1 : Int32), δ2x))) (nI i) (nI r) f j d) l'.length (by omega) (fun j d => FrM δ d ∧ (l'.take j).find? (pkP w r) = none) (fun y => ∃ δ', FrM δ δ' ∧ ((fnd L w r = none ∧ y = some (-1, δ')) ∨ ∃ c x, l'[c]? = some x ∧ fnd L w r = some x ∧ y = some (nI (70 * i + 5 * c), δ')))
    (fun f j d hj hI => by
      obtain ⟨hF, h0⟩ := hI
      obtain ⟨x, hx⟩ : ∃ x, l'[j]? = some x := ⟨_, List.getElem?_eq_getElem hj⟩
      obtain ⟨c1, a, c3, c4, c5, c6, c7, c8⟩ := l2 j x hx
      have hm : x ∈ L.1.filter isW := by rw [hl']; exact List.mem_of_getElem? hx
      obtain ⟨hm1, hm2⟩ := List.mem_filter.mp hm
      obtain ⟨o1, o2, o3⟩ := ok.2 x hm1
      have n11 : x.1 ≠ 11 := by
        intro z
        unfold isW at hm2; rw [z] at hm2; exact absurd hm2 (by decide)
      obtain ⟨p1, p2, p3⟩ := o3 (by omega)
      have e : ∀ b q, b ≠ 151 → gI d b q = gI δ b q := fun b q h => hF.1 b q (by omega)
      simp only [lp_Mo_holding_2, bndE]
      rw [if_pos (inb_i hi8 (by decide)), ixN (by omega), e 157 _ (by decide), l1, if_neg (nI_ge hj (by omega)), show ((70 : Int32) * nI i) + ((5 : Int32) * nI j) = nI (70 * i + 5 * j) by rw [lit, lit, pk_mul, pk_mul, nI_add], if_pos (inb_i (by omega) (by decide)), ixN (by omega), e 156 _ (by decide), c1]
      by_cases h : x.1 = r
      · rw [if_pos (by rw [h]), show nI (70 * i + 5 * j) + 3 = nI (70 * i + 5 * j + 3) from nI_add _ 3, if_pos (inb_i (by omega) (by decide)), ixN (by omega), e 156 _ (by decide), c6]
        by_cases hT : x.2.2 = []
        · left
          rw [if_pos (by rw [if_pos hT]; decide)]
          exact ⟨d, hF, Or.inr ⟨j, x, hx, by rw [← hW]; exact find_at h0 hx (by simp [pkP, tstP, h, hT]), rfl⟩⟩
        · rw [if_neg hT, if_neg (nI_pos (by omega)), if_pos (inb_i (by omega) (by decide)), show nI (70 * i + 5 * j) + 4 = nI (70 * i + 5 * j + 4) from nI_add _ 4, if_pos (inb_i (by omega) (by decide)), ixN (by omega), e 156 _ (by decide), c7]
          obtain ⟨δ1, b1, b3⟩ := reckons_eq (t := i) (a := a + x.2.1.length) (w := w) (l := x.2.2) (δ := d) hi8 (by omega) (fun k o q => by
            rw [e 154 _ (by decide), Nat.add_assoc]; exact c8 _ _ (slice2 q)) (fun k hk => by rw [hF.2]; exact hw k hk) (p3 hT).1
          rw [b3, Option.bind_some, c_eq]
          by_cases h1 : evl x.2.2 w = 1
          · left
            rw [if_pos h1]
            exact ⟨δ1, hF.trans b1, Or.inr ⟨j, x, hx, by rw [← hW]; exact find_at h0 hx (by simp [pkP, tstP, h, h1]), rfl⟩⟩
          · right
            rw [if_neg h1, nI_1]
            exact ⟨δ1, ⟨hF.trans b1, find_nx h0 hx (by simp [pkP, tstP, hT, h1])⟩, rfl⟩
      · right
        rw [if_neg (fun z => h ((nI_eq (by omega) (by omega)).mp z)), nI_1]
        exact ⟨d, ⟨hF, find_nx h0 hx (by simp [pkP, h])⟩, rfl⟩)
    (fun f d hI => by
      obtain ⟨hF, h0⟩ := hI
      simp only [lp_Mo_holding_2]
      rw [if_pos (inb_i hi8 (by decide)), ixN (by omega), hF.1 157 _ (by omega), l1, if_pos (nI_le (Nat.le_refl _) (by omega))]
      rw [List.take_length] at h0
      exact ⟨d, hF, Or.inl ⟨by rw [← hW]; exact h0, rfl⟩⟩)
    0 δ (Nat.zero_le _) ⟨FrM.refl δ, rfl⟩
  exact Q
theorem holdsM {i r : Nat} {L : LawT} {w : Nat → Int64} {δ : Dm} (hL : LM i δ L) (ok : LOk L) (hi8 : i < 8) (hr : r < 11) (hw : ∀ k, k < 9 → gL δ 161 k = w k) : ∃ δ', FrM δ δ' ∧ f_Mo_holds (nI i) (nI r) δ = some (if holP L w r = true then 1 else 0, δ') := by
  obtain ⟨δ', hF, h⟩ := holdM hL ok hi8 hr hw
  refine ⟨δ', hF, ?_⟩
  unfold f_Mo_holds holP
  rcases h with ⟨h1, h2⟩ | ⟨c, x, hx, h1, h2⟩
  · rw [h2, h1, Option.bind_some]
    simp only [bndE]
    rfl
  · have hc := idx_lt hx
    have h3 : (L.1.filter isW).length ≤ L.1.length := List.length_filter_le _ _
    have h4 := ok.1
    rw [h2, h1, Option.bind_some]
    simp only [bndE]
    rw [if_neg (nI_pos (by omega))]; rfl
def clI (lo hi : Int32) (v : Int64) : Int32 := if v < lo.toInt64 then lo else if hi.toInt64 < v then hi else v.toInt32
theorem clI_0 {lo hi : Int32} (h1 : lo ≤ 0) (h2 : 0 ≤ hi) : clI lo hi 0 = 0 := by
  unfold clI
  rw [if_neg, if_neg]
  · rfl
  · rw [Int64.lt_iff_toInt_lt, Int32.toInt_toInt64]
    have := le32.mp h2
    rw [show (0 : Int32).toInt = 0 from rfl] at this
    rw [show (0 : Int64).toInt = 0 from rfl]; omega
  · rw [Int64.lt_iff_toInt_lt, Int32.toInt_toInt64]
    have := le32.mp h1
    rw [show (0 : Int32).toInt = 0 from rfl] at this
    rw [show (0 : Int64).toInt = 0 from rfl]; omega
theorem summed_eq {i r : Nat} {L : LawT} {w : Nat → Int64} {δ : Dm} {lo hi : Int32} (h1 : lo ≤ 0) (h2 : 0 ≤ hi) (hL : LM i δ L) (ok : LOk L) (hi8 : i < 8) (hr : r < 6 ∨ r = 10) (hw : ∀ k, k < 9 → gL δ 161 k = w k) : ∃ δ', FrM δ δ' ∧ f_Mo_summed (nI i) (nI r) lo hi δ = some (clI lo hi (totP L w r), δ') := by
  obtain ⟨δ1, hF, h⟩ := holdM (r := r) hL ok hi8 (by omega) hw
  unfold f_Mo_summed totP
  rcases h with ⟨q1, q2⟩ | ⟨c, x, hx, q1, q2⟩
  · refine ⟨δ1, hF, ?_⟩
    rw [q2, q1, Option.bind_some]
    simp only [bndE]
    rw [if_neg (by decide), clI_0 h1 h2]
  · have hc := idx_lt hx
    have h3 : (L.1.filter isW).length ≤ L.1.length := List.length_filter_le _ _
    have h4 := ok.1
    obtain ⟨l1, l2, l3⟩ := hL
    obtain ⟨c1, a, c3, c4, c5, c6, c7, c8⟩ := l2 c x hx
    obtain ⟨hm1, hm2⟩ := List.mem_filter.mp (List.mem_of_getElem? hx)
    obtain ⟨o1, o2, o3⟩ := ok.2 x hm1
    have hxr : x.1 = r := by
      have := List.find?_some q1
      unfold pkP at this
      rw [Bool.and_eq_true] at this
      exact of_decide_eq_true this.1
    have e : ∀ b q, b ≠ 151 → gI δ1 b q = gI δ b q := fun b q h => hF.1 b q (by omega)
    obtain ⟨δ2, b1, b3⟩ := reckons_eq (t := i) (a := a) (w := w) (l := x.2.1) (δ := δ1) hi8 (by omega) (fun k o q => by
      rw [e 154 _ (by decide)]; exact c8 _ _ (slice1 q)) (fun k hk => by rw [hF.2]; exact hw k hk) ((o3 (by omega)).2.1 (by omega))
    refine ⟨δ2, hF.trans b1, ?_⟩
    rw [q2, q1, Option.bind_some]
    simp only [bndE]
    rw [if_pos (nI_pos' (by omega)), show nI (70 * i + 5 * c) + 1 = nI (70 * i + 5 * c + 1) from nI_1 _, show nI (70 * i + 5 * c) + 2 = nI (70 * i + 5 * c + 2) from nI_add _ 2, if_pos (inb_i (by omega) (by decide)), if_pos (inb_i (by omega) (by decide)), ixN (by omega), ixN (by omega), e 156 _ (by decide), e 156 _ (by decide), c4, c5, b3, Option.bind_some]
    rw [c_lt, c_gt]
    unfold clI
    split
    · rfl
    · split <;> rfl
