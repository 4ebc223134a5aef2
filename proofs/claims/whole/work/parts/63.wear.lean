/-! the words of a law; what wears; what spoils -/
def wdP (p lt ht hd st dy sp bx : Int32) : Nat → Int64 := fun k => if k = 0 then hd.toInt64 else if k = 1 then st.toInt64 else if k = 2 then lt.toInt64 else if k = 3 then ht.toInt64 else if k = 4 then dy.toInt64 else if k = 5 then 0 else if k = 6 then sp.toInt64 else if k = 7 then bx.toInt64 else p.toInt64
theorem wd_0 {p lt ht hd st dy sp bx : Int32} : wdP p lt ht hd st dy sp bx 0 = hd.toInt64 := rfl
theorem wd_1 {p lt ht hd st dy sp bx : Int32} : wdP p lt ht hd st dy sp bx 1 = st.toInt64 := rfl
theorem wd_2 {p lt ht hd st dy sp bx : Int32} : wdP p lt ht hd st dy sp bx 2 = lt.toInt64 := rfl
theorem wd_3 {p lt ht hd st dy sp bx : Int32} : wdP p lt ht hd st dy sp bx 3 = ht.toInt64 := rfl
theorem wd_4 {p lt ht hd st dy sp bx : Int32} : wdP p lt ht hd st dy sp bx 4 = dy.toInt64 := rfl
theorem wd_5 {p lt ht hd st dy sp bx : Int32} : wdP p lt ht hd st dy sp bx 5 = 0 := rfl
theorem wd_6 {p lt ht hd st dy sp bx : Int32} : wdP p lt ht hd st dy sp bx 6 = sp.toInt64 := rfl
theorem wd_7 {p lt ht hd st dy sp bx : Int32} : wdP p lt ht hd st dy sp bx 7 = bx.toInt64 := rfl
theorem wd_8 {p lt ht hd st dy sp bx : Int32} : wdP p lt ht hd st dy sp bx 8 = p.toInt64 := rfl
theorem tell_eq {k : Nat} {v : Int64} {δ : Dm} (h : k < 9) : f_Fa_tell (nI k) v δ = some (sL δ 20 k v) := by
  unfold f_Fa_tell
  rw [if_neg (nI_pos (by omega)), if_neg (show ¬ (9 : Int32) ≤ nI k from nI_ge h (by decide)), if_pos (inb_i h (by decide)), ixN (by omega)]
  simp only [bndE]
theorem c9 {P : Nat → Prop} (h0 : P 0) (h1 : P 1) (h2 : P 2) (h3 : P 3) (h4 : P 4) (h5 : P 5) (h6 : P 6) (h7 : P 7) (h8 : P 8) : ∀ k, k < 9 → P k := by
  intro k hk
  rcases (by omega : k = 0 ∨ k = 1 ∨ k = 2 ∨ k = 3 ∨ k = 4 ∨ k = 5 ∨ k = 6 ∨ k = 7 ∨ k = 8) with rfl | rfl | rfl | rfl | rfl | rfl | rfl | rfl | rfl
  · exact h0
  · exact h1
  · exact h2
  · exact h3
  · exact h4
  · exact h5
  · exact h6
  · exact h7
  · exact h8
theorem open_eq {t5 p dy : Nat} {lt ht : Int32} {δ : Dm} (hp : gI δ t5 0 = nI p) (hp12 : p < 12) (hl : gI δ 31 p = lt) (hd : dy < 400) (hh : gI δ 30 dy = ht) : ∃ δ', δ'.1 = δ.1 ∧ (∀ k, k < 9 → gL δ' 20 k = wdP (nI p) lt ht 0 0 (nI dy) 0 0 k) ∧ f_Fa_open t5 (nI dy) δ = some δ' := by
  refine ⟨sL (sL (sL (sL (flL δ 20 9 0) 20 8 (nI p).toInt64) 20 2 lt.toInt64) 20 4 (nI dy).toInt64) 20 3 ht.toInt64, rfl, ?_, ?_⟩
  · refine c9 ?_ ?_ ?_ ?_ ?_ ?_ ?_ ?_ ?_
    all_goals rfl
  · unfold f_Fa_open
    rw [fillJ_eq (show (KD 20).2 = 9 by decide), Option.bind_some, gI_flL, hp, show (8 : Int32) = nI 8 from rfl, tell_eq (by decide), Option.bind_some, gIs, gI_flL, hp, get_in (show (KD 31).2 = 12 by decide) hp12, gIs, gI_flL, hl, Option.bind_some, show (2 : Int32) = nI 2 from rfl, tell_eq (by decide), Option.bind_some, show (4 : Int32) = nI 4 from rfl, tell_eq (by decide), Option.bind_some, get_in (show (KD 30).2 = 400 by decide) hd, gIs, gIs, gIs, gI_flL, hh, Option.bind_some, show (3 : Int32) = nI 3 from rfl, tell_eq (by decide), Option.bind_some]
theorem pose_eq {p lt ht hd st hd' st' dy sp bx : Int32} {δ : Dm} (h : ∀ k, k < 9 → gL δ 20 k = wdP p lt ht hd' st' dy sp bx k) : ∃ δ', δ'.1 = δ.1 ∧ (∀ k, k < 9 → gL δ' 20 k = wdP p lt ht hd st dy sp bx k) ∧ f_Fa_pose hd st δ = some δ' := by
  refine ⟨sL (sL δ 20 0 hd.toInt64) 20 1 st.toInt64, rfl, ?_, ?_⟩
  · refine c9 (by rw [wd_0, gLL, if_neg (by decide), gLL, if_pos (by decide)]) (by rw [wd_1, gLL, if_pos (by decide)]) ?_ ?_ ?_ ?_ ?_ ?_ ?_
    · rw [gLL, if_neg (by decide), gLL, if_neg (by decide), h 2 (by decide), wd_2, wd_2]
    · rw [gLL, if_neg (by decide), gLL, if_neg (by decide), h 3 (by decide), wd_3, wd_3]
    · rw [gLL, if_neg (by decide), gLL, if_neg (by decide), h 4 (by decide), wd_4, wd_4]
    · rw [gLL, if_neg (by decide), gLL, if_neg (by decide), h 5 (by decide), wd_5, wd_5]
    · rw [gLL, if_neg (by decide), gLL, if_neg (by decide), h 6 (by decide), wd_6, wd_6]
    · rw [gLL, if_neg (by decide), gLL, if_neg (by decide), h 7 (by decide), wd_7, wd_7]
    · rw [gLL, if_neg (by decide), gLL, if_neg (by decide), h 8 (by decide), wd_8, wd_8]
  · unfold f_Fa_pose
    rw [show (0 : Int32) = nI 0 from rfl, tell_eq (by decide), Option.bind_some, show (1 : Int32) = nI 1 from rfl, tell_eq (by decide), Option.bind_some]
theorem till_eq {p lt ht hd st dy sp bx sp' bx' : Int32} {δ : Dm} (h : ∀ k, k < 9 → gL δ 20 k = wdP p lt ht hd st dy sp' bx' k) : ∃ δ', δ'.1 = δ.1 ∧ (∀ k, k < 9 → gL δ' 20 k = wdP p lt ht hd st dy sp bx k) ∧ f_Fa_till sp bx δ = some δ' := by
  refine ⟨sL (sL δ 20 6 sp.toInt64) 20 7 bx.toInt64, rfl, ?_, ?_⟩
  · refine c9 ?_ ?_ ?_ ?_ ?_ ?_ (by rw [wd_6, gLL, if_neg (by decide), gLL, if_pos (by decide)]) (by rw [wd_7, gLL, if_pos (by decide)]) ?_
    · rw [gLL, if_neg (by decide), gLL, if_neg (by decide), h 0 (by decide), wd_0, wd_0]
    · rw [gLL, if_neg (by decide), gLL, if_neg (by decide), h 1 (by decide), wd_1, wd_1]
    · rw [gLL, if_neg (by decide), gLL, if_neg (by decide), h 2 (by decide), wd_2, wd_2]
    · rw [gLL, if_neg (by decide), gLL, if_neg (by decide), h 3 (by decide), wd_3, wd_3]
    · rw [gLL, if_neg (by decide), gLL, if_neg (by decide), h 4 (by decide), wd_4, wd_4]
    · rw [gLL, if_neg (by decide), gLL, if_neg (by decide), h 5 (by decide), wd_5, wd_5]
    · rw [gLL, if_neg (by decide), gLL, if_neg (by decide), h 8 (by decide), wd_8, wd_8]
  · unfold f_Fa_till
    rw [show (6 : Int32) = nI 6 from rfl, tell_eq (by decide), Option.bind_some, show (7 : Int32) = nI 7 from rfl, tell_eq (by decide), Option.bind_some]
theorem cell_sL {a b : Int32} {x i : Nat} {v : Int64} {δ : Dm} : f_Mo_cell a b (sL δ x i v) = f_Mo_cell a b δ := by
  unfold f_Mo_cell; rfl
/-- the reference's words -/
theorem words_eq {b p dy : Nat} {hd st sp bx lt ht : Int32} {δ : Dm} (hb : b < 8) (hp : gI δ 152 (566 + (20 * b + 0)) = nI p) (hp12 : p < 12) (hl : gI δ 152 (410 + p) = lt) (hdy : dy < 400) (hh : gI δ 152 (10 + dy) = ht) : ∃ δ', δ'.1 = δ.1 ∧ (∀ k, k < 9 → gL δ' 161 k = wdP (nI p) lt ht hd st (nI dy) sp bx k) ∧ f_Mo_words (nI b) hd st (nI dy) sp bx δ = some δ' := by
  refine ⟨sL (sL (sL (sL (sL (sL (sL (sL (sL δ 161 0 hd.toInt64) 161 1 st.toInt64) 161 2 lt.toInt64) 161 3 ht.toInt64) 161 4 (nI dy).toInt64) 161 5 0) 161 6 sp.toInt64) 161 7 bx.toInt64) 161 8 (nI p).toInt64, rfl, c9 rfl rfl rfl rfl rfl rfl rfl rfl rfl, ?_⟩
  have e : f_Mo_cell (nI b) 0 δ = some (nI p) := by
    rw [show (0 : Int32) = nI 0 from rfl, cell_eq hb (by decide), hp]
  unfold f_Mo_words
  simp only [bndE, cell_sL, e, Option.bind_some]
  rw [if_pos (show inb (0 : Int32) 9 by decide), if_pos (show inb (1 : Int32) 9 by decide), show (410 : Int32) + nI p = nI (410 + p) from nI_add 410 p, if_pos (inb_i (by omega) (by decide)), if_pos (show inb (2 : Int32) 9 by decide), show (10 : Int32) + nI dy = nI (10 + dy) from nI_add 10 dy, if_pos (inb_i (by omega) (by decide)), if_pos (show inb (3 : Int32) 9 by decide), if_pos (show inb (4 : Int32) 9 by decide), if_pos (show inb (5 : Int32) 9 by decide), if_pos (show inb (6 : Int32) 9 by decide), if_pos (show inb (7 : Int32) 9 by decide), if_pos (show inb (8 : Int32) 9 by decide), ixN (show 410 + p < 2147483648 by omega), ixN (show 10 + dy < 2147483648 by omega)]
  simp only [gIs, hl, hh]
  rfl
/-- how much less -/
def clN (v : Int64) : Nat := if v < 0 then 0 else if 1000 < v then 1000 else v.toInt.toNat
theorem clN_le {v : Int64} : clN v ≤ 1000 := by
  unfold clN
  split
  · omega
  · split
    · omega
    · next h1 h2 =>
      have h1 : 0 ≤ v := Int64.not_lt.mp h1
      have h2 : v ≤ 1000 := Int64.not_lt.mp h2
      rw [Int64.le_iff_toInt_le, show (0 : Int64).toInt = 0 from rfl] at h1
      rw [Int64.le_iff_toInt_le, show (1000 : Int64).toInt = 1000 from rfl] at h2
      omega
theorem clI_N {v : Int64} : clI 0 1000 v = nI (clN v) := by
  unfold clI clN
  rw [show (0 : Int32).toInt64 = 0 from rfl, show (1000 : Int32).toInt64 = 1000 from rfl]
  split
  · rfl
  · split
    · rfl
    · next h1 h2 =>
      obtain ⟨k, hk, rfl⟩ := pk_lOf h1
      rw [lN_i, pk_lT hk]; rfl
theorem held_eq {v : Int64} {lo hi : Int32} {l64 h64 : Int64} {δ : Dm} (hl : l64 = lo.toInt64) (hh : h64 = hi.toInt64) (h : lo ≤ hi) : ∃ y, f_Fp_held v l64 h64 δ = some y ∧ y.toInt32 = clI lo hi v := by
  subst hl; subst hh
  refine ⟨_, rfl, ?_⟩
  have hle : lo.toInt64 ≤ hi.toInt64 := le6432.mpr h
  have hi32 : ∀ x : Int32, x.toInt64.toInt32 = x := fun x => by simp
  unfold clI
  by_cases h1 : v < lo.toInt64
  · rw [if_pos h1, if_pos, hi32]
    have : v < hi.toInt64 := by rw [Int64.lt_iff_toInt_lt] at h1 ⊢; rw [Int64.le_iff_toInt_le] at hle; omega
    rw [if_pos this]; exact h1
  · rw [if_neg h1]
    by_cases h2 : hi.toInt64 < v
    · have h3 : ¬ v < hi.toInt64 := by rw [Int64.lt_iff_toInt_lt] at h2 ⊢; omega
      rw [if_pos h2, if_neg h3, if_neg (Int64.not_lt.mpr hle), hi32]
    · rw [if_neg h2]
      by_cases h3 : v < hi.toInt64
      · rw [if_pos h3, if_neg h1]
      · have : v = hi.toInt64 := by
          rw [Int64.lt_iff_toInt_lt] at h2 h3
          exact Int64.toInt_inj.mp (by omega)
        rw [if_neg h3, if_neg (Int64.not_lt.mpr hle), this]
def wS (w : Nat → Int64) (v : Int64) : Nat → Int64 := fun k => if k = 5 then v else w k
/-- what is left of a bath's strength -/
def wrn (L : LawT) (w : Nat → Int64) (r s : Nat) : Nat := s - clN (totP L (wS w (nI s).toInt64) r)
theorem wrn_le {L : LawT} {w : Nat → Int64} {r s : Nat} : wrn L w r s ≤ s := Nat.sub_le _ _
theorem max0 {s l : Nat} (hs : s ≤ 1000) (hl : l ≤ 1000) : (if (0 : Int32) < nI s - nI l then nI s - nI l else 0) = nI (s - l) ∧ (if (0 : Int32) ≤ nI s - nI l then nI s - nI l else 0) = nI (s - l) := by
  by_cases h : l ≤ s
  · rw [pk_sub h, if_pos (nI_pos' (by omega))]
    refine ⟨?_, rfl⟩
    by_cases q : s - l = 0
    · rw [q]; rfl
    · rw [if_pos (show (0 : Int32) < nI (s - l) from nI_lt (a := 0) (by omega) (by omega))]
  · have h1 := pk_sneg (a := s) (b := l) (by omega) (by omega)
    rw [if_neg (fun z => by rw [lt32] at z h1; omega), if_neg (fun z => by rw [lt32] at h1; rw [le32] at z; omega), show s - l = 0 by omega]
    exact ⟨rfl, rfl⟩
theorem worn_eq {t r s : Nat} {L : LawT} {w : Nat → Int64} {δ : Dm} (hL : LC t δ L) (ok : LOk L) (hk : LKd t) (hr : r < 6 ∨ r = 10) (hs : s ≤ 1000) (hw : ∀ k, k < 9 → k ≠ 5 → gL δ 20 k = w k) : ∃ δ', δ'.1 = δ.1 ∧ (∀ k, k < 9 → k ≠ 5 → gL δ' 20 k = w k) ∧ gL δ' 20 5 = 0 ∧ f_La_worn t (nI (csort r)) (nI (cbath r)) (nI s) δ = some (nI (wrn L w r s), δ') := by
  obtain ⟨δ1, b1, b2⟩ := totC (w := wS w (nI s).toInt64) (r := r) (δ := sL δ 20 5 (nI s).toInt64) hL ok hk hr (fun k hk => by
    unfold wS
    rw [gLL]
    by_cases q : k = 5
    · rw [if_pos ⟨rfl, q⟩, if_pos q]
    · rw [if_neg (by omega), if_neg q]; exact hw k hk q)
  obtain ⟨y, c1, c2⟩ := held_eq (v := totP L (wS w (nI s).toInt64) r) (lo := 0) (hi := 1000) (l64 := 0) (h64 := 1000) (δ := δ1) rfl rfl (by decide)
  refine ⟨sL δ1 20 5 0, b1.1, fun k hk h5 => ?_, by rw [gLL, if_pos ⟨rfl, rfl⟩], ?_⟩
  · rw [gLL, if_neg (by omega), b1.2, gLL, if_neg (by omega)]; exact hw k hk h5
  · unfold f_La_worn
    rw [show (5 : Int32) = nI 5 from rfl, tell_eq (by decide), Option.bind_some, b2, Option.bind_some]
    simp only [bndE]
    rw [c1, Option.bind_some, c2, clI_N, tell_eq (by decide), Option.bind_some, (max0 hs clN_le).1]
    rfl
/-- the class: a booth's baths -/
theorem wear_eq {t a r0 : Nat} {L : LawT} {w : Nat → Int64} {δ : Dm} {st : Nat → Nat} (hL : LC t δ L) (ok : LOk L) (hk : LKd t) (hr : r0 = 0 ∨ r0 = 3) (ha : (KD a).2 = 3) (hat : a < t ∨ t + 8 ≤ a) (hs : ∀ k, k < 3 → gI δ a k = nI (st k) ∧ st k ≤ 1000) (hw : ∀ k, k < 9 → k ≠ 5 → gL δ 20 k = w k) : ∃ δ', (∀ b j, ¬ (b = a ∧ j < 3) → gI δ' b j = gI δ b j) ∧ (∀ k, k < 3 → gI δ' a k = nI (wrn L w (r0 + k) (st k))) ∧ f_La_wear t (nI (csort r0)) a δ = some δ' := by
  unfold f_La_wear
  refine for_inv (fun f i (d : Dm) => lp_La_wear_3 (fun v4_3x δ3x => (some δ3x)) t (nI (csort r0)) a f i d) 3 (by decide) (fun i d => (∀ b j, ¬ (b = a ∧ j < i) → gI d b j = gI δ b j) ∧ (∀ k, k < i → k < 3 → gI d a k = nI (wrn L w (r0 + k) (st k))) ∧ (∀ k, k < 9 → k ≠ 5 → gL d 20 k = w k)) (fun x => ∃ δ', (∀ b j, ¬ (b = a ∧ j < 3) → gI δ' b j = gI δ b j) ∧ (∀ k, k < 3 → gI δ' a k = nI (wrn L w (r0 + k) (st k))) ∧ x = some δ') (fun f i d hi hI => ?_) (fun f d hI => ?_) 0 δ (by decide) ⟨fun _ _ _ => rfl, fun k hk => absurd hk (Nat.not_lt_zero _), hw⟩
  · obtain ⟨i1, i2, i3⟩ := hI
    have cs : csort (r0 + i) = csort r0 ∧ cbath (r0 + i) = i := by
      rcases hr with rfl | rfl
      · rcases (by omega : i = 0 ∨ i = 1 ∨ i = 2) with rfl | rfl | rfl <;> decide
      · rcases (by omega : i = 0 ∨ i = 1 ∨ i = 2) with rfl | rfl | rfl <;> decide
    obtain ⟨δ1, b1, b2, b3, b4⟩ := worn_eq (r := r0 + i) (s := st i) (w := w) (δ := d) (LC_keep hL (fun o j ho => i1 _ _ (by omega))) ok hk (by omega) (hs i hi).2 i3
    rw [cs.1, cs.2] at b4
    refine ⟨sI δ1 a i (nI (wrn L w (r0 + i) (st i))), ⟨fun b j h => ?_, fun k hk1 hk3 => ?_, b2⟩, ?_⟩
    · rw [gs, if_neg (by omega), gE b1]; exact i1 b j (by omega)
    · by_cases q : k = i
      · subst q; rw [gss]
      · rw [gsc q, gE b1]; exact i2 k (by omega) hk3
    · simp only [lp_La_wear_3]
      rw [if_neg (show ¬ (3 : Int32) ≤ nI i from nI_ge hi (by decide)), get_in ha hi, i1 a i (by omega), (hs i hi).1, Option.bind_some, b4, Option.bind_some]
      simp only [bndE]
      rw [put_in ha hi, Option.bind_some, nI_1]
  · simp only [lp_La_wear_3]
    rw [if_pos (show (3 : Int32) ≤ nI 3 by decide)]
    exact ⟨d, hI.1, fun k hk => hI.2.1 k hk hk, rfl⟩
/-- by what a strip is spoilt -/
def besP (L : LawT) (w : Nat → Int64) : Nat := if holP L w 6 = true then 4 else if holP L w 7 = true then 5 else 0
def spP (L : LawT) (w : Nat → Int64) (st : Nat → Nat) : Nat := if nI (st 0) < L.2 0 then 1 else if nI (st 1) < L.2 1 then 2 else if nI (st 2) < L.2 2 then 3 else besP L w
theorem besP_le {L : LawT} {w : Nat → Int64} : besP L w ≤ 5 := by
  unfold besP
  repeat' split
  all_goals omega
theorem spP_le {L : LawT} {w : Nat → Int64} {st : Nat → Nat} : spP L w st ≤ 5 := by
  have := besP_le (L := L) (w := w)
  unfold spP
  repeat' split
  all_goals omega
theorem besC {t : Nat} {L : LawT} {w : Nat → Int64} {δ : Dm} (hL : LC t δ L) (ok : LOk L) (hk : LKd t) (hw : ∀ k, k < 9 → gL δ 20 k = w k) : ∃ δ', FrC δ δ' ∧ f_La_spoilerBesideBaths t δ = some (nI (besP L w), δ') := by
  obtain ⟨δ1, b1, b2⟩ := holdsC (r := 6) (w := w) hL ok hk (by decide) hw
  obtain ⟨δ2, c1, c2⟩ := holdsC (r := 7) (w := w) (LC_E b1.1 hL) ok hk (by decide) (fun k hk => by rw [b1.2]; exact hw k hk)
  unfold f_La_spoilerBesideBaths besP
  rw [show (12 : Int32) = nI (6 + 6) from rfl, b2, Option.bind_some]
  simp only [bndE]
  by_cases h1 : holP L w 6 = true
  · rw [if_pos h1, if_pos h1, if_neg (show ¬ (1 : Int32) = 0 by decide)]
    exact ⟨δ1, b1, rfl⟩
  · rw [if_neg h1, if_neg h1, if_pos (show (0 : Int32) = 0 from rfl), show (13 : Int32) = nI (7 + 6) from rfl, c2, Option.bind_some]
    by_cases h2 : holP L w 7 = true
    · rw [if_pos h2, if_pos h2, if_neg (show ¬ (1 : Int32) = 0 by decide)]
      exact ⟨δ2, b1.trans c1, rfl⟩
    · rw [if_neg h2, if_neg h2, if_pos (show (0 : Int32) = 0 from rfl)]
      exact ⟨δ2, b1.trans c1, rfl⟩
theorem isWeak_eq {t k : Nat} {L : LawT} {δ : Dm} {s : Int32} (hL : LC t δ L) (hk : LKd t) (h : k < 3) : f_La_isWeak t (nI k) s δ = some (if s < L.2 k then 1 else 0) := by
  unfold f_La_isWeak
  rw [get_in hk.2.2.2.2.2.1 h, Option.bind_some, hL.2.2 k h]
  by_cases q : s < L.2 k
  · rw [if_pos q, if_neg (Int32.not_le.mpr q)]
  · rw [if_neg q, if_pos (Int32.not_lt.mp q)]
theorem spoilC {t a : Nat} {L : LawT} {w : Nat → Int64} {δ : Dm} {st : Nat → Nat} (hL : LC t δ L) (ok : LOk L) (hk : LKd t) (ha : (KD a).2 = 3) (hs : ∀ k, k < 3 → gI δ a k = nI (st k)) (hw : ∀ k, k < 9 → gL δ 20 k = w k) : ∃ δ', FrC δ δ' ∧ f_La_spoiler t a δ = some (nI (spP L w st), δ') := by
  obtain ⟨δ1, b1, b2⟩ := besC hL ok hk hw
  have h3 : 3 < FU := FU_gt (by decide)
  obtain ⟨F, hF⟩ : ∃ F, FU = F + 1 + 1 + 1 + 1 := ⟨FU - 4, by omega⟩
  unfold f_La_spoiler spP
  rw [hF, show (0 : Int32) = nI 0 from rfl]
  simp only [lp_La_spoiler_2]
  rw [if_neg (show ¬ (3 : Int32) ≤ nI 0 by decide), get_in ha (by decide), hs 0 (by decide), Option.bind_some, isWeak_eq hL hk (by decide), Option.bind_some]
  by_cases q0 : nI (st 0) < L.2 0
  · rw [if_pos q0, if_pos q0, if_neg (by decide)]
    exact ⟨δ, FrC.refl δ, rfl⟩
  rw [if_neg q0, if_neg q0, if_pos (show (0 : Int32) = 0 from rfl), if_neg (show ¬ (3 : Int32) ≤ nI 0 + 1 by decide), show nI 0 + 1 = nI 1 from rfl, get_in ha (by decide), hs 1 (by decide), Option.bind_some, isWeak_eq hL hk (by decide), Option.bind_some]
  by_cases q1 : nI (st 1) < L.2 1
  · rw [if_pos q1, if_pos q1, if_neg (by decide)]
    exact ⟨δ, FrC.refl δ, rfl⟩
  rw [if_neg q1, if_neg q1, if_pos (show (0 : Int32) = 0 from rfl), if_neg (show ¬ (3 : Int32) ≤ nI 1 + 1 by decide), show nI 1 + 1 = nI 2 from rfl, get_in ha (by decide), hs 2 (by decide), Option.bind_some, isWeak_eq hL hk (by decide), Option.bind_some]
  by_cases q2 : nI (st 2) < L.2 2
  · rw [if_pos q2, if_pos q2, if_neg (by decide)]
    exact ⟨δ, FrC.refl δ, rfl⟩
  rw [if_neg q2, if_neg q2, if_pos (show (0 : Int32) = 0 from rfl), if_pos (show (3 : Int32) ≤ nI 2 + 1 by decide), b2, Option.bind_some]
  simp only [bndE]
  exact ⟨δ1, b1, rfl⟩
/-- the reference's -/
def FrN (δ δ' : Dm) : Prop := ∀ b j, ¬ (b = 151 ∧ j = 19) → ¬ (b = 162 ∧ j < 3) → gI δ' b j = gI δ b j
theorem FrN_of {δ δ' : Dm} (h : FrM δ δ') : FrN δ δ' := fun b j a _ => h.1 b j a
theorem FrN.trans {a b c : Dm} (h : FrN a b) (k : FrN b c) : FrN a c := fun x j p q => (k x j p q).trans (h x j p q)
theorem spoilM {i : Nat} {L : LawT} {w : Nat → Int64} {δ : Dm} {st : Nat → Nat} (hL : LM i δ L) (ok : LOk L) (hi : i < 8) (hs : ∀ k, k < 3 → gI δ 162 k = nI (st k)) (hw : ∀ k, k < 9 → k ≠ 5 → gL δ 161 k = w k) (h5 : w 5 = 0) : ∃ δ', (∀ b j, ¬ (b = 151 ∧ j = 19) → gI δ' b j = gI δ b j) ∧ (∀ k, k < 9 → k ≠ 5 → gL δ' 161 k = w k) ∧ f_Mo_spoils (nI i) δ = some (nI (spP L w st), δ') := by
  have hw2 : ∀ k, k < 9 → gL (sL δ 161 5 0) 161 k = w k := fun k hk => by
    by_cases q : k = 5
    · rw [gLL, if_pos ⟨rfl, q⟩, q, h5]
    · rw [gLL, if_neg (by omega)]; exact hw k hk q
  have hL2 : LM i (sL δ 161 5 0) L := hL
  obtain ⟨δ1, b1, b2⟩ := holdsM (r := 6) (w := w) hL2 ok hi (by decide) hw2
  obtain ⟨δ2, c1, c2⟩ := holdsM (r := 7) (w := w) (δ := δ1) (LM_keep hL2 (fun b j q1 q2 => b1.1 _ _ (by omega))) ok hi (by decide) (fun k hk => by rw [b1.2]; exact hw2 k hk)
  have h3 : 3 < FU := FU_gt (by decide)
  obtain ⟨F, hF⟩ : ∃ F, FU = F + 1 + 1 + 1 + 1 := ⟨FU - 4, by omega⟩
  have ew : ∀ k, k < 3 → ((3 : Int32) * nI i) + nI k = nI (3 * i + k) := fun k _ => by rw [lit, pk_mul, nI_add]
  unfold f_Mo_spoils spP
  rw [hF]
  simp only [lp_Mo_spoils_2, bndE]
  rw [if_neg (show ¬ (3 : Int32) ≤ 0 by decide), if_pos (show inb (0 : Int32) 3 by decide), show ((3 : Int32) * nI i) + 0 = nI (3 * i + 0) from ew 0 (by decide), if_pos (inb_i (by omega) (by decide)), ixN (show 3 * i + 0 < 2147483648 by omega), hL.2.2 0 (by decide), show ix (0 : Int32) = 0 from rfl, hs 0 (by decide)]
  by_cases q0 : nI (st 0) < L.2 0
  · rw [if_pos q0, if_neg (Int32.not_le.mpr q0)]
    exact ⟨δ, fun _ _ _ => rfl, hw, rfl⟩
  rw [if_neg q0, if_pos (Int32.not_lt.mp q0), if_neg (show ¬ (3 : Int32) ≤ 0 + 1 by decide), show (0 : Int32) + 1 = nI 1 from rfl, if_pos (show inb (nI 1) 3 by decide), ew 1 (by decide), if_pos (inb_i (by omega) (by decide)), ixN (show 3 * i + 1 < 2147483648 by omega), hL.2.2 1 (by decide), show ix (nI 1) = 1 from rfl, hs 1 (by decide)]
  by_cases q1 : nI (st 1) < L.2 1
  · rw [if_pos q1, if_neg (Int32.not_le.mpr q1)]
    exact ⟨δ, fun _ _ _ => rfl, hw, rfl⟩
  rw [if_neg q1, if_pos (Int32.not_lt.mp q1), if_neg (show ¬ (3 : Int32) ≤ nI 1 + 1 by decide), show nI 1 + 1 = nI 2 from rfl, if_pos (show inb (nI 2) 3 by decide), ew 2 (by decide), if_pos (inb_i (by omega) (by decide)), ixN (show 3 * i + 2 < 2147483648 by omega), hL.2.2 2 (by decide), show ix (nI 2) = 2 from rfl, hs 2 (by decide)]
  by_cases q2 : nI (st 2) < L.2 2
  · rw [if_pos q2, if_neg (Int32.not_le.mpr q2)]
    exact ⟨δ, fun _ _ _ => rfl, hw, rfl⟩
  rw [if_neg q2, if_pos (Int32.not_lt.mp q2), if_pos (show (3 : Int32) ≤ nI 2 + 1 by decide), if_pos (show inb (5 : Int32) 9 by decide)]
  rw [show ix (5 : Int32) = 5 from rfl, show (6 : Int32) = nI 6 from rfl, b2, Option.bind_some]
  unfold besP
  by_cases h1 : holP L w 6 = true
  · rw [if_pos h1, if_pos h1, if_neg (show ¬ (1 : Int32) = 0 by decide)]
    exact ⟨δ1, fun b j q => b1.1 b j q, fun k hk q => (b1.2 k).trans (hw2 k hk), rfl⟩
  · rw [if_neg h1, if_neg h1, if_pos (show (0 : Int32) = 0 from rfl), show (7 : Int32) = nI 7 from rfl, c2, Option.bind_some]
    have cc : ∀ k, k < 9 → k ≠ 5 → gL δ2 161 k = w k := fun k hk q => (c1.2 k).trans ((b1.2 k).trans (hw2 k hk))
    have dd : ∀ b j, ¬ (b = 151 ∧ j = 19) → gI δ2 b j = gI δ b j := fun b j q => (c1.1 b j q).trans (b1.1 b j q)
    by_cases h2 : holP L w 7 = true
    · rw [if_pos h2, if_pos h2, if_neg (show ¬ (1 : Int32) = 0 by decide)]
      exact ⟨δ2, dd, cc, rfl⟩
    · rw [if_neg h2, if_neg h2, if_pos (show (0 : Int32) = 0 from rfl)]
      exact ⟨δ2, dd, cc, rfl⟩
theorem tires_eq {i r0 : Nat} {L : LawT} {w : Nat → Int64} {δ : Dm} {st : Nat → Nat} (hL : LM i δ L) (ok : LOk L) (hi : i < 8) (hr : r0 = 0 ∨ r0 = 3) (hs : ∀ k, k < 3 → gI δ 162 k = nI (st k) ∧ st k ≤ 1000) (hw : ∀ k, k < 9 → k ≠ 5 → gL δ 161 k = w k) : ∃ δ', FrN δ δ' ∧ (∀ k, k < 3 → gI δ' 162 k = nI (wrn L w (r0 + k) (st k))) ∧ (∀ k, k < 9 → k ≠ 5 → gL δ' 161 k = w k) ∧ f_Mo_tires (nI i) (nI r0) δ = some δ' := by
  unfold f_Mo_tires
  refine for_inv (fun f k (d : Dm) => lp_Mo_tires_2 (fun v3_2x δ2x => (some δ2x)) (nI i) (nI r0) f k d) 3 (by decide) (fun k d => (∀ b j, ¬ (b = 151 ∧ j = 19) → ¬ (b = 162 ∧ j < k) → gI d b j = gI δ b j) ∧ (∀ j, j < k → j < 3 → gI d 162 j = nI (wrn L w (r0 + j) (st j))) ∧ (∀ j, j < 9 → j ≠ 5 → gL d 161 j = w j)) (fun x => ∃ δ', FrN δ δ' ∧ (∀ k, k < 3 → gI δ' 162 k = nI (wrn L w (r0 + k) (st k))) ∧ (∀ k, k < 9 → k ≠ 5 → gL δ' 161 k = w k) ∧ x = some δ') (fun f k d hk hI => ?_) (fun f d hI => ?_) 0 δ (by decide) ⟨fun _ _ _ _ => rfl, fun k hk => absurd hk (Nat.not_lt_zero _), hw⟩
  · obtain ⟨i1, i2, i3⟩ := hI
    have g0 : gI d 162 k = nI (st k) := (i1 162 k (by omega) (by omega)).trans (hs k hk).1
    obtain ⟨δ1, b1, b2⟩ := summed_eq (r := r0 + k) (lo := 0) (hi := 1000) (w := wS w (nI (st k)).toInt64) (δ := sL d 161 5 (nI (st k)).toInt64) (by decide) (by decide) (LM_keep (δ' := sL d 161 5 (nI (st k)).toInt64) hL (fun b j q1 q2 => i1 b j (by omega) (by omega))) ok hi (by omega) (fun j hj => by
      unfold wS
      rw [gLL]
      by_cases q : j = 5
      · rw [if_pos ⟨rfl, q⟩, if_pos q]
      · rw [if_neg (by omega), if_neg q]; exact i3 j hj q)
    refine ⟨sI δ1 162 k (nI (wrn L w (r0 + k) (st k))), ⟨fun b j h h2 => ?_, fun j hk1 hk3 => ?_, fun j hj h5 => ?_⟩, ?_⟩
    · rw [gs, if_neg (by omega), b1.1 b j h]; exact i1 b j h (by omega)
    · by_cases q : j = k
      · subst q; rw [gss]
      · rw [gsc q, b1.1 162 j (by omega)]; exact i2 j (by omega) hk3
    · show gL δ1 161 j = w j
      rw [b1.2, gLL, if_neg (by omega)]; exact i3 j hj h5
    · simp only [lp_Mo_tires_2, jp_Mo_tires_57]
      rw [if_neg (show ¬ (3 : Int32) ≤ nI k from nI_ge hk (by decide)), if_pos (inb_i hk (by decide)), if_pos (show inb (5 : Int32) 9 by decide)]
      simp only [bndE]
      rw [if_pos (inb_i hk (by decide)), ixN (show k < 2147483648 by omega), g0, show nI r0 + nI k = nI (r0 + k) from nI_add _ _, show ix (5 : Int32) = 5 from rfl, b2, Option.bind_some, gIs, g0, clI_N]
      rw [if_pos (inb_i hk (by decide)), if_pos (inb_i hk (by decide)), nI_1]
      have q := (max0 (hs k hk).2 (clN_le (v := totP L (wS w (nI (st k)).toInt64) (r0 + k)))).2
      by_cases z : (0 : Int32) ≤ nI (st k) - nI (clN (totP L (wS w (nI (st k)).toInt64) (r0 + k)))
      · rw [if_pos z] at q ⊢
        rw [q]; rfl
      · rw [if_neg z] at q ⊢
        rw [q]; rfl
  · simp only [lp_Mo_tires_2]
    rw [if_pos (show (3 : Int32) ≤ nI 3 by decide)]
    exact ⟨d, hI.1, fun k hk => hI.2.1 k hk hk, hI.2.2, rfl⟩
