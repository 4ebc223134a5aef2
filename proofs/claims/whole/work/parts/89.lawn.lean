/-! the reference's tests: along the machine -/
noncomputable def rst (kr kx : Int32 → Dm → Option (Int32 × Dm)) (v1 : Int32) (y26 : Dm) : Option (Int32 × Dm) := ((f_Mo_isWord (6385252 : Int64) y26).bind (fun y33 => bnd y33.1 (fun v33 => bnd y33.2 (fun δ_33 => (if v33 = 0 then ((f_Mo_isWord (28530 : Int64) δ_33).bind (fun y43 => bnd y43.1 (fun v43 => bnd y43.2 (fun δ_43 => (if v43 = 0 then (jp_Mo_tested_54 kr kx v1 (0 : Int32) δ_43) else (jp_Mo_tested_49 kr kx v1 δ_43)))))) else (jp_Mo_tested_49 kr kx v1 δ_33))))))
noncomputable def kxT : Int32 → Dm → Option (Int32 × Dm) := (fun v1_12x δ12x => ((f_Mo_isInside δ12x).bind (fun y113 => (if y113 = 0 then ((f_Mo_settles (1 : Int32) δ12x).bind (fun y136 => (some ((1 : Int32), y136)))) else ((f_Mo_see δ12x).bind (fun y120 => bnd y120.1 (fun v120 => bnd y120.2 (fun δ_120 => ((f_Mo_fails (0 : Int32) (gI δ_120 151 9) δ_120).bind (fun y130 => bnd y130.1 (fun v130 => bnd y130.2 (fun δ_130 => (if v130 = 0 ∨ v130 = 1 then (some (v130, δ_130)) else none)))))))))))))
noncomputable def kxF : Int32 → Dm → Option (Int32 × Dm) := (fun v1_2x δ2x => ((f_Mo_compare δ2x).bind (fun y76 => bnd y76.1 (fun v76 => bnd y76.2 (fun δ_76 => (if v76 = 0 ∨ v76 = 1 then (some (v76, δ_76)) else none))))))
noncomputable def gT (G : Nat) : Int32 → Dm → Option (Int32 × Dm) := lp_Mo_tested_12 kxT G
noncomputable def aft (G : Nat) (v1 : Int32) (y17 : Int32 × Dm) : Option (Int32 × Dm) := bnd y17.1 (fun v17 => bnd y17.2 (fun δ_17 => (if v17 = 0 then (some ((0 : Int32), δ_17)) else ((f_Mo_closes δ_17).bind (fun y26 => rst (gT G) kxT v1 y26)))))
theorem RK.see {t : Nat} {X : Tx} {c : Nat} {δ : Dm} {q : Qs} {st : List Nat} (h : RK t X c δ q st) : f_Mo_see δ = some (bt X q.1, sI δ 151 9 (nI q.1)) ∧ RK t X c (sI δ 151 9 (nI q.1)) q st := by
  obtain ⟨a, b⟩ := h.1.see
  exact ⟨a, b, h.2.fr (gsc (by decide)) (gsc (by decide)) (fun j => gsr (by decide))⟩
theorem wIfR {t : Nat} {X : Tx} {c k : Nat} {δ : Dm} {q : Qs} {α : Type} {A B : Dm → Option α} {w : Int64} (hk : k < 21) (h : RS t X c δ q) (hw : w = wW k) : (f_Mo_isWord w δ).bind (fun y => bnd y.1 (fun v => bnd y.2 (fun d => if v = 0 then A d else B d))) = if kd X q.1 = k then B (sI δ 151 9 (nI q.1)) else A (sI δ 151 9 (nI q.1)) := by
  obtain ⟨p, b1, b2, b3, b4⟩ := h.2.1
  rw [hw, isWord_R hk h.1 b3 b1, b2, Option.bind_some, bndE, bndE]
  by_cases z : kd X q.1 = k
  · rw [if_pos z, if_pos z, if_neg (show ¬ (1 : Int32) = 0 by decide)]
  · rw [if_neg z, if_neg z, if_pos rfl]
theorem word_te {X : Tx} {s : Nat} (h : kd X s ≤ 20) : te X s = enL X s ∧ s < enL X s ∧ s < X.2 ∧ enL X s ≤ X.2 := by
  obtain ⟨w1, w2, w3, w4⟩ := ky_w h
  have hgt := run_gt (enL_run X s) w3
  have hle := run_le (bL_N X) (enL_run X s) (Nat.le_of_lt w1)
  exact ⟨by unfold te; rw [if_neg (by rw [w2]; decide), if_pos w3], hgt, w1, hle⟩
theorem opens_R {t : Nat} {X : Tx} {c wh : Nat} {D : Dm} {q : Qs} {st : List Nat} (hwh : wh = 11 ∨ wh = 91) (h : RK t X c D q st) (h9 : gI D 151 9 = nI q.1) : (10 ≤ dpo st → f_Mo_opens (nI wh) D = some (0, sI D 151 10 (nI (flw q.1 2)))) ∧ (dpo st < 10 → q.1 < X.2 → ∃ d, f_Mo_opens (nI wh) D = some (1, d) ∧ Fr2 t D d ∧ gI d 151 9 = nI q.1 ∧ RX X d ∧ ∀ p' s, p' ≤ X.2 → sp X p' = s → q.1 + 1 ≤ p' → RK t X c (sI d 151 9 (nI p')) (s, q.2) (wh :: st)) := by
  obtain ⟨hR, hS⟩ := h
  obtain ⟨hq, h4, hsp, hcr⟩ := hR.at
  obtain ⟨s1, s2, s3, s4, s5⟩ := id hS
  unfold f_Mo_opens
  rw [s2]
  refine ⟨fun z => ?_, fun z hlt => ?_⟩
  · rw [if_pos (show nI (dpo st) = 10 by rw [show dpo st = 10 by omega]; rfl), h9]
    exact rbool (x := f_Mo_fails 2 (nI q.1) D) (fails_R (n := 2) hR.2.2.1) (Or.inl rfl)
  · rw [if_neg (show ¬ nI (dpo st) = 10 from fun w => by have := (nI_eq (b := 10) (by omega) (by decide)).mp w; omega), bndE, gsc (by decide), s1, if_pos (inb_i (show st.length < 400 by omega) (by decide)), ixN (by omega), bndE, gsr (by decide), gsc (by decide), s1, bndE, nI_1, nI_1]
    refine ⟨_, rfl, (fun b j q1 q2 q3 q4 => by rw [gs, if_neg (by omega), gsr q4, gs, if_neg (by omega)]), by rw [gsc (by decide), gsr (by decide), gsc (by decide)]; exact h9, hR.1.fr (by rw [gsc (by decide), gsr (by decide), gsc (by decide)]) (fun j => by rw [gsr (by decide), gsr (by decide), gsr (by decide)]), fun p' s hp hs hk => ⟨?_, ?_⟩⟩
    · have := hR.up (d := sI (sI (sI (sI D 151 14 (nI (dpo st + 1))) 159 st.length (nI wh)) 151 17 (nI (st.length + 1))) 151 9 (nI p')) (k := 1) (p' := p') (q' := (s, q.2)) (hR.1.fr (by rw [gsc (by decide), gsc (by decide), gsr (by decide), gsc (by decide)]) (fun j => by rw [gsr (by decide), gsr (by decide), gsr (by decide), gsr (by decide)])) hp hs gss rfl hk (by rw [gsc (by decide), gsc (by decide), gsr (by decide), gsc (by decide)]; exact hR.2.2.1) (by rw [gsc (by decide), gsc (by decide), gsr (by decide), gsc (by decide)]; exact hR.2.2.2.2.1) hR.2.2.2.2.2.1 (by rw [gsc (by decide), gsc (by decide), gsr (by decide), gsc (by decide)]) (by rw [gsr (by decide), gsr (by decide), gsr (by decide), gsr (by decide)]) (fun j => by rw [gsr (by decide), gsr (by decide), gsr (by decide), gsr (by decide)])
      exact this
    · refine SK_ps hS (by omega) ?_ ?_ ?_ ?_ (fun j hj => ?_)
      · rw [gsc (by decide), gss]
      · rw [gsc (by decide), gsc (by decide), gsr (by decide), gss, dpo_y hwh]
      · rw [dpo_y hwh]; omega
      · rw [gsr (by decide), gsr (by decide), gss]
      · rw [gsr (by decide), gsr (by decide), gsc hj, gsr (by decide)]
theorem stl_91 {l : Nat} : ∀ st q, (stl l q st).2.length ≤ st.length := by
  intro st
  induction st with
  | nil => intro q; exact Nat.le_refl _
  | cons x st ih =>
    intro q
    unfold stl
    by_cases z : l ≤ stg x
    · rw [if_pos z]; exact Nat.le_trans (ih _) (Nat.le_succ _)
    · rw [if_neg z]; exact Nat.le_refl _
/-- behind a word and or or -/
theorem jp76 {t : Nat} {X : Tx} {c s0 : Nat} {D : Dm} {q : Qs} {st : List Nat} {kr kx : Int32 → Dm → Option (Int32 × Dm)} {v1 : Int32} (ht : t < 8) (hs : s0 = 12 ∨ s0 = 13) (h : RK t X c D q st) (h9 : gI D 151 9 = nI q.1) (hk : kd X q.1 ≤ 20) : ∃ d, jp_Mo_tested_76 kr kx v1 D (nI s0) = kr v1 d ∧ RK t X c d (nq X (stl (stg s0) q st).1) (s0 :: (stl (stg s0) q st).2) ∧ Fr2 t D d := by
  obtain ⟨hR, hS⟩ := h
  obtain ⟨hq, h4, hsp, hcr⟩ := hR.at
  obtain ⟨w1, w2, w3, w4⟩ := word_te hk
  have hR1 := hR.mv (k := 1) (p' := enL X q.1) (s := nx X q.1) w4 (by rw [← w1]; rfl) w2
  obtain ⟨E, hE⟩ : ∃ E, sI D 151 9 (nI (enL X q.1)) = E := ⟨_, rfl⟩
  rw [hE] at hR1
  have hS1 : SK E st := by rw [← hE]; exact hS.fr (gsc (by decide)) (gsc (by decide)) (fun j => gsr (by decide))
  have fE : Fr2 t D E := by rw [← hE]; exact (Fr2.refl t D).s (by decide)
  have hl : 1 ≤ stg s0 ∧ stg s0 ≤ 3 := by rcases hs with e | e <;> subst e <;> decide
  obtain ⟨d, e1, e2, e3, e4⟩ := settle_R (c := c + 1) (l := stg s0) (st := st) (q := (nx X q.1, q.2)) ht hl ⟨hR1.mono (by omega), hS1⟩
  rw [show ((nx X q.1, q.2) : Qs) = nq X q from rfl, stl_nq] at e2
  obtain ⟨r, hr⟩ : ∃ r, (stl (stg s0) q st).1 = r := ⟨_, rfl⟩
  obtain ⟨s, hs'⟩ : ∃ s, (stl (stg s0) q st).2 = s := ⟨_, rfl⟩
  rw [hr, hs'] at e2 ⊢
  obtain ⟨k1, k2⟩ := e2
  obtain ⟨kq, k4, ksp, kcr⟩ := k1.at
  obtain ⟨m1, m2, m3, m4, m5⟩ := id k2
  have m1 : gI d 151 17 = nI s.length := m1
  have kcr : r.2.2.length + (c + 1 + s.length) ≤ nx X r.1 := kcr
  have kq : nx X r.1 ≤ X.2 := kq
  unfold jp_Mo_tested_76
  rw [pass_R hR.1 h9 hq, Option.bind_some, hE, strength_R (by omega), Option.bind_some, e1, Option.bind_some, m1, if_pos (inb_i (show s.length < 400 by omega) (by decide)), ixN (by omega), bndE, gsr (by decide), m1, bndE, nI_1]
  refine ⟨_, rfl, ⟨?_, ?_⟩, ?_⟩
  · obtain ⟨a1, ⟨p, b1, b2, b3, b4⟩, c1, c2, c3, c4, c5, c6⟩ := k1
    refine ⟨a1.fr (by rw [gsc (by decide), gsr (by decide)]) (fun j => by rw [gsr (by decide), gsr (by decide)]), ⟨p, b1, b2, by rw [gsc (by decide), gsr (by decide)]; exact b3, ?_⟩, by rw [gsc (by decide), gsr (by decide)]; exact c1, by rw [gsc (by decide), gsr (by decide)]; exact c2, by rw [gsc (by decide), gsr (by decide)]; exact c3, c4, by rw [gsr (by decide), gsr (by decide)]; exact c5, fun k o q => by rw [gsr (by decide), gsr (by decide)]; exact c6 k o q⟩
    have b4 : (nq X r).2.2.length + (c + 1 + s.length) ≤ p := b4
    show (nq X r).2.2.length + (c + (s.length + 1)) ≤ p
    omega
  · have hd : dpo (s0 :: s) = dpo s := dpo_n (by omega) (by omega)
    refine SK_ps k2 (by omega) gss ?_ (by rw [hd]; exact m3) ?_ (fun j hj => ?_)
    · rw [gsc (by decide), gsr (by decide), hd]; exact m2
    · rw [gsr (by decide), gss]
    · rw [gsr (by decide), gsc hj]
  · refine (fE.trans e3).trans (fun b j q1 q2 q3 q4 => ?_)
    rw [gs, if_neg (by omega), gsr q4]
