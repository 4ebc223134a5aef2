/-! clock -/
theorem rB {b w : Nat} {δ : Dm} {G : Nat → Nat} (j : Nat) (hj : bs w = j) (h : RG 29 δ G) (hb : b < 8) (hw : w < 12) (hn : ¬ (3 ≤ w ∧ w < 6)) : gI δ (54 + 4 * b) j = nI (bc G b w) := by
  subst hj
  have q := h _ (dom_b hb hw).1; rw [(dom_b hb hw).2.1, (dom_b hb hw).2.2, if_neg hn, if_neg hn, show 29 + (25 + 4 * b) = 54 + 4 * b by omega] at q; exact q
theorem rS {b k : Nat} {δ : Dm} {G : Nat → Nat} (h : RG 29 δ G) (hb : b < 8) (hk : k < 3) : gI δ (54 + 4 * b + 1) k = nI (stB G b k) := by
  have q := h _ (dom_b (w := 3 + k) hb (by omega)).1
  rw [(dom_b hb (by omega)).2.1, (dom_b hb (by omega)).2.2, if_pos (by omega), if_pos (by omega), show 29 + (26 + 4 * b) = 54 + 4 * b + 1 by omega, show 3 + k - 3 = k by omega] at q; exact q
theorem rH {d : Nat} {δ : Dm} {G : Nat → Nat} (h : RG 29 δ G) (hd : d < 400) : gI δ 30 d = nI (G (10 + d)) := by
  have q := h _ (dom_h hd).1; rw [(dom_h hd).2.1, (dom_h hd).2.2] at q; exact q
theorem rL {p : Nat} {δ : Dm} {G : Nat → Nat} (h : RG 29 δ G) (hd : p < 12) : gI δ 31 p = nI (G (410 + p)) := by
  have q := h _ (dom_l hd).1; rw [(dom_l hd).2.1, (dom_l hd).2.2] at q; exact q
theorem rW {b w : Nat} {δ : Dm} {G : Nat → Nat} (h : RGM δ G) (hb : b < 8) (hw : w < 12) : f_Mo_cell (nI b) (nI w) δ = some (nI (bc G b w)) := by
  rw [cell_eq hb (by omega), h _ (Or.inl (dom_b hb hw).1)]; rfl
def agw (G : Nat → Nat) (dy b : Nat) : Nat → Int64 := wdG G b dy 0 0 (nI (bc G b 8)) (nI (bc G b 7))
def agf (L : LawT) (G : Nat → Nat) (dy b : Nat) : Nat → Nat := fun k => wrn L (agw G dy b) (3 + k) (stB G b k)
def agb (J : List LawT) (dy : Nat) (G : Nat → Nat) (b : Nat) : Nat → Nat := match J[bc G b 2]? with
  | some L => up (st3 G b (agf L G dy b)) (726 + (400 * b + dy)) (bc G b 7)
  | none => G
def agN (J : List LawT) (dy : Nat) (G : Nat → Nat) : Nat → Nat → Nat
  | 0 => G
  | b + 1 => agb J dy (agN J dy G b) b
def agD (J : List LawT) (nb d0 : Nat) (G : Nat → Nat) : Nat → Nat → Nat
  | 0 => G
  | j + 1 => agN J (d0 + j) (agD J nb d0 G j) nb
theorem agb_n {J : List LawT} {dy b i : Nat} {G : Nat → Nat} (h : ¬ (566 + 20 * b + 3 ≤ i ∧ i < 566 + 20 * b + 6)) (h2 : i ≠ 726 + (400 * b + dy)) : agb J dy G b i = G i := by
  unfold agb
  cases J[bc G b 2]? with
  | none => rfl
  | some L =>
    show up (st3 G b (agf L G dy b)) (726 + (400 * b + dy)) (bc G b 7) i = G i
    rw [up_n h2, st3_n h]
theorem agN_n {J : List LawT} {dy i : Nat} {G : Nat → Nat} (h : ¬ (566 ≤ i ∧ i < 3926 ∧ (i < 726 → 3 ≤ (i - 566) % 20 ∧ (i - 566) % 20 < 6))) : ∀ n, n ≤ 8 → dy < 400 → agN J dy G n i = G i := by
  intro n
  induction n with
  | zero => intro _ _; rfl
  | succ n ih =>
    intro hn hd
    show agb J dy (agN J dy G n) n i = G i
    rw [agb_n (by omega) (by omega)]
    exact ih (by omega) hd
theorem agD_n {J : List LawT} {nb d0 i : Nat} {G : Nat → Nat} (h : ¬ (566 ≤ i ∧ i < 3926 ∧ (i < 726 → 3 ≤ (i - 566) % 20 ∧ (i - 566) % 20 < 6))) (hn : nb ≤ 8) : ∀ j, d0 + j ≤ 400 → agD J nb d0 G j i = G i := by
  intro j
  induction j with
  | zero => intro _; rfl
  | succ j ih =>
    intro hj
    show agN J (d0 + j) (agD J nb d0 G j) nb i = G i
    rw [agN_n h nb hn (by omega)]
    exact ih (by omega)
theorem st3_up {G : Nat → Nat} {b : Nat} {f : Nat → Nat} : st3 G b f = up (up (up G (566 + (20 * b + 3)) (f 0)) (566 + (20 * b + 4)) (f 1)) (566 + (20 * b + 5)) (f 2) := by
  funext i
  by_cases h : 566 + 20 * b + 3 ≤ i ∧ i < 566 + 20 * b + 6
  · obtain ⟨k, hk, rfl⟩ : ∃ k, k < 3 ∧ i = 566 + (20 * b + (3 + k)) := ⟨i - (566 + 20 * b + 3), by omega, by omega⟩
    rw [st3_y hk]
    rcases (by omega : k = 0 ∨ k = 1 ∨ k = 2) with rfl | rfl | rfl
    · rw [up_n (by omega), up_n (by omega), up_s]
    · rw [up_n (by omega), up_s]
    · rw [up_s]
  · rw [st3_n h, up_n (by omega), up_n (by omega), up_n (by omega)]
theorem ok_st3 {nl b : Nat} {T : Tw} {f : Nat → Nat} (h : okT nl T) (hb : b < T.1 2) (hf : ∀ k, k < 3 → f k ≤ 1000) : okT nl (st3 T.1 b f, T.2) := by
  have h8 : T.1 2 ≤ 8 := h.1.2.2.1
  rw [st3_up]
  have q1 := ok_b (b := b) (w := 3) (v := f 0) h hb (by decide) (by decide) (fun z => by omega) (fun z => by omega) (fun _ _ => hf 0 (by decide)) (fun z => by omega) (fun z => by omega) (fun z => by omega)
  have q2 := ok_b (b := b) (w := 4) (v := f 1) q1 (by show b < up T.1 (566 + (20 * b + 3)) (f 0) 2; rw [up_n (by omega)]; exact hb) (by decide) (by decide) (fun z => by omega) (fun z => by omega) (fun _ _ => hf 1 (by decide)) (fun z => by omega) (fun z => by omega) (fun z => by omega)
  exact ok_b (b := b) (w := 5) (v := f 2) q2 (by show b < up (up T.1 (566 + (20 * b + 3)) (f 0)) (566 + (20 * b + 4)) (f 1) 2; rw [up_n (by omega), up_n (by omega)]; exact hb) (by decide) (by decide) (fun z => by omega) (fun z => by omega) (fun _ _ => hf 2 (by decide)) (fun z => by omega) (fun z => by omega) (fun z => by omega)
theorem ok_box {nl b dy v : Nat} {T : Tw} (h : okT nl T) (hb : b < 8) (hd : T.1 0 ≤ dy) (hd4 : dy < 400) : okT nl (up T.1 (726 + (400 * b + dy)) v, T.2) := by
  obtain ⟨h1, h2, h3, h4, h5, h6⟩ := h
  have h8 : T.1 2 ≤ 8 := h1.2.2.1
  have e : ∀ k, k < 7 → up T.1 (726 + (400 * b + dy)) v k = T.1 k := fun k hk => up_n (by omega)
  have eb : ∀ c w, c < 8 → w < 20 → bc (up T.1 (726 + (400 * b + dy)) v) c w = bc T.1 c w := fun c w hc hw => up_n (by omega)
  refine ⟨okS_c e h1, okG_c (e 1 (by decide)) (fun k hk => up_n (by omega)) h2, okB_c e (fun k a b => up_n (by omega)) h8 h3, okE_c e (fun c hc => eb c 10 hc (by decide)) h8 h4, ⟨fun k x hx => ?_, fun c d hc h10 hd => ?_⟩, okP_c e h6⟩
  · have hm : x ∈ tE T := List.mem_of_getElem? hx
    have : x 1 < T.1 2 := (h4.1 x hm).2.1
    show (x 0 = 0 → x 6 = cntf (x 1) ((tE T).take k) ∧ x 7 = boxf (bc (up T.1 _ v) (x 1) 1) (x 1) ((tE T).take k)) ∧ (x 0 = 2 → 0 < boxf (bc (up T.1 _ v) (x 1) 1) (x 1) ((tE T).take k))
    rw [eb _ 1 (by omega) (by decide)]
    exact h5.1 k x hx
  · have hc : c < T.1 2 := by rw [← e 2 (by decide)]; exact hc
    have hd : d < T.1 0 := by rw [← e 0 (by decide)]; exact hd
    have h10 : bc (up T.1 _ v) c 10 ≤ d := h10
    rw [eb c 10 (by omega) (by decide)] at h10
    show up T.1 _ v (726 + (400 * c + d)) = boxf (bc (up T.1 _ v) c 1) c _
    have := h1.1
    rw [eb c 1 (by omega) (by decide), up_n (by omega)]
    exact h5.2 c d hc h10 hd
theorem ok_agb {dy b : Nat} {J : List LawT} {T : Tw} (h : okT J.length T) (hb : b < T.1 2) (hd : T.1 0 ≤ dy) (hd4 : dy < 400) : okT J.length (agb J dy T.1 b, T.2) := by
  have h8 : T.1 2 ≤ 8 := h.1.2.2.1
  obtain ⟨b0, b1, b2, b3, b4, b5, b6, b7, b8, b9, b10, b11, b12⟩ := h.2.2.1 b hb
  unfold agb
  cases J[bc T.1 b 2]? with
  | none => exact h
  | some L =>
    have q := ok_st3 (f := agf L T.1 dy b) h hb (fun k hk => Nat.le_trans wrn_le (b5 k hk))
    exact ok_box (T := (st3 T.1 b (agf L T.1 dy b), T.2)) q (by omega) (by show st3 T.1 b (agf L T.1 dy b) 0 ≤ dy; rw [st3_n (by omega)]; exact hd) hd4
theorem ok_now {nl dy : Nat} {T : Tw} (h : okT nl T) (h0 : T.1 0 ≤ dy) (hd4 : dy < 400) (hx : ∀ b d, b < T.1 2 → T.1 0 ≤ d → d < dy → T.1 (726 + (400 * b + d)) = bc T.1 b 7) : okT nl (up T.1 0 dy, T.2) := by
  obtain ⟨G, E, R, C⟩ := T
  obtain ⟨o1, o2, o3, o4, o5, o6⟩ := h
  have h0 : G 0 ≤ dy := h0
  have hx : ∀ b d, b < G 2 → G 0 ≤ d → d < dy → G (726 + (400 * b + d)) = bc G b 7 := hx
  have e0 : up G 0 dy 0 = dy := up_s
  have en : ∀ k, k ≠ 0 → up G 0 dy k = G k := fun k hk => up_n hk
  have eb : ∀ b w, bc (up G 0 dy) b w = bc G b w := fun b w => en _ (by omega)
  show okT nl (up G 0 dy, E, R, C)
  refine ⟨?_, okG_c (en 1 (by decide)) (fun k hk => en k (by omega)) o2, ?_, ⟨fun x hx => ?_, o4.2⟩, ⟨fun k x hx => ?_, fun c d hc h10 hd => ?_⟩, ?_⟩
  · unfold okS at *
    simp only [e0, en 1 (by decide), en 2 (by decide), en 3 (by decide), en 4 (by decide), en 5 (by decide), en 6 (by decide)]
    exact ⟨hd4, o1.2⟩
  · intro c hc
    have hc : c < G 2 := by rw [← en 2 (by decide)]; exact hc
    obtain ⟨a0, a1, a2, a3, a4, a5, a6, a7, a8, a9, a10, a11, a12⟩ := o3 c hc
    have a11 : bc G c 10 ≤ G 0 := a11
    simp only [eb, e0, en 1 (by decide), en 2 (by decide), en 4 (by decide)]
    exact ⟨a0, a1, a2, a3, a4, a5, a6, a7, a8, a9, a10, by omega, a12⟩
  · obtain ⟨a1, a2, a3, a4, a5⟩ := o4.1 x hx
    have a3 : x 2 ≤ G 0 := a3
    show x 0 ≤ 2 ∧ x 1 < up G 0 dy 2 ∧ x 2 ≤ up G 0 dy 0 ∧ bc (up G 0 dy) (x 1) 10 ≤ x 2 ∧ _
    rw [eb, e0, en 2 (by decide)]
    exact ⟨a1, a2, by omega, a4, a5⟩
  · show (x 0 = 0 → x 6 = cntf (x 1) (E.take k) ∧ x 7 = boxf (bc (up G 0 dy) (x 1) 1) (x 1) (E.take k)) ∧ (x 0 = 2 → 0 < boxf (bc (up G 0 dy) (x 1) 1) (x 1) (E.take k))
    rw [eb]; exact o5.1 k x hx
  · have hc : c < G 2 := by rw [← en 2 (by decide)]; exact hc
    have hd : d < dy := by
      have z : d < up G 0 dy 0 := hd
      rw [e0] at z; exact z
    have h10 : bc (up G 0 dy) c 10 ≤ d := h10
    rw [eb] at h10
    show up G 0 dy (726 + (400 * c + d)) = boxf (bc (up G 0 dy) c 1) c _
    rw [eb, en _ (by omega)]
    by_cases q : d < G 0
    · exact o5.2 c d hc h10 q
    · rw [hx c d hc (by omega) hd, (o3 c hc).2.2.2.2.2.2.2.1]
      congr 1
      refine (List.filter_eq_self.mpr fun y hy => ?_).symm
      have : y 2 ≤ G 0 := (o4.1 y hy).2.2.1
      exact decide_eq_true (by omega)
  · unfold okP at *
    simp only [e0, en 2 (by decide)]
    obtain ⟨q1, q2⟩ := o6
    refine ⟨fun x hx => ?_, fun x hx => ?_⟩
    · obtain ⟨a1, a2, a3, a4, a5⟩ := q1 x hx
      have a2 : x 1 ≤ G 0 := a2
      have a5 : x 4 ≤ G 0 := a5
      exact ⟨a1, by omega, a3, a4, by omega⟩
    · obtain ⟨a1, a2, a3⟩ := q2 x hx
      have a3 : x 2 ≤ G 0 := a3
      exact ⟨a1, a2, by omega⟩
/-- what the class's ageing keeps -/
def FrA (δ d : Dm) : Prop := ∀ c j, (c < 54 ∨ 86 ≤ c) → gI d c j = gI δ c j
theorem ageb_C {n b dy : Nat} {S : St} {G : Nat → Nat} {δ d : Dm} (h : RepC δ n S) (hl : (sJ S).length ≤ 8) (hlo : ∀ L ∈ sJ S, LOk L) (ok : okT (sJ S).length (G, S.1.2)) (hG2 : G 2 = S.1.1 2) (hb : b < G 2) (hd : dy < 400) (hG : RG 29 d G) (hF : FrA δ d) (kx : Int32 → Dm → Option Dm) (f : Nat) : ∃ d', RG 29 d' (agb (sJ S) dy G b) ∧ FrA δ d' ∧ lp_Fp_ageAll_2 kx (nI dy) (f + 1) (nI b) d = lp_Fp_ageAll_2 kx (nI dy) f (nI (b + 1)) d' := by
  have h8 : G 2 ≤ 8 := ok.1.2.2.1
  have h12 : G 1 ≤ 12 := ok.1.2.1
  obtain ⟨b0, b1, b2, b3, b4, b5, -⟩ := ok.2.2.1 b hb
  have b0 : bc G b 0 < G 1 := b0
  have b4 : bc G b 2 < (sJ S).length := b4
  have hb8 : b < 8 := by omega
  obtain ⟨L, hL⟩ : ∃ L, (sJ S)[bc G b 2]? = some L := ⟨_, List.getElem?_eq_getElem b4⟩
  have okL : LOk L := hlo L (List.mem_of_getElem? hL)
  have hLC : LC (87 + 8 * bc G b 2) d L := LC_keep (h.2.2.1 _ _ hL) (fun o j ho => hF _ _ (by omega))
  obtain ⟨d1, a1, a2, a3⟩ := open_eq (t5 := 54 + 4 * b) (dy := dy) (δ := d) (rB (w := 0) 0 rfl hG hb8 (by decide) (by decide)) (by omega) (rL hG (by omega)) hd (rH hG hd)
  obtain ⟨d2, c1, c2, c3⟩ := till_eq (sp := nI (bc G b 8)) (bx := nI (bc G b 7)) a2
  have E2 : d2.1 = d.1 := c1.trans a1
  obtain ⟨d3, f1, f2, f3⟩ := wear_eq (a := 54 + 4 * b + 1) (r0 := 3) (w := agw G dy b) (st := stB G b) (LC_E E2 hLC) okL (LKd_l (by omega)) (Or.inr rfl) (KD_b b hb8).1 (by omega) (fun k hk => ⟨by rw [gE E2]; exact rS hG hb8 hk, b5 k hk⟩) (fun k hk _ => c2 k hk)
  have E3 : ∀ c j, ¬ (c = 54 + 4 * b + 1 ∧ j < 3) → gI d3 c j = gI d c j := fun c j q => (f1 c j q).trans (gE E2 c j)
  refine ⟨d3, ?_, fun c j q => (E3 c j (by omega)).trans (hF c j q), ?_⟩
  · unfold agb
    rw [hL]
    exact RG_ext (RG_3 hb8 hG E3 f2) (fun i hi => up_n (by unfold dom at hi; omega))
  · have g2 : gI d 29 2 = nI (G 2) := by rw [hF 29 2 (by omega), hG2]; exact (cG h.1).2.2.1
    simp only [lp_Fp_ageAll_2]
    rw [g2, if_neg (nI_ge hb (by omega)), boothAt_eq h8 g2, if_pos (inb_i hb (by omega)), ixN (show b < 2147483648 by omega)]
    simp only [Option.bind_some, ocs, if_pos (isB_at b hb8).1]
    rw [rB (w := 2) 2 rfl hG hb8 (by decide) (by decide), lawAt_eq hl (by rw [hF 4 3 (by omega)]; exact h.2.1), if_pos (inb_i b4 (by omega)), ixN (show bc G b 2 < 2147483648 by omega)]
    simp only [Option.bind_some, ocs, if_pos (isL_at _ (show bc G b 2 < 8 by omega)).1]
    rw [a3, Option.bind_some, gE a1, gE a1, rB (w := 8) 6 rfl hG hb8 (by decide) (by decide), rB (w := 7) 5 rfl hG hb8 (by decide) (by decide), c3, Option.bind_some, show (10 : Int32) = nI (csort 3) from rfl, f3, Option.bind_some, nI_1]
