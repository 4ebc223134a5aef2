/-! the reference's whole test -/
def TT (t : Nat) (X : Tx) (n : Nat) : Prop := ∀ Ff G c δ q st v1 res, X.2 + 1 < q.1 + Ff → X.2 < q.1 + G → RK t X c δ q st → MM X n true q st = res → res ≠ .inl 0 → ∃ v d, (lp_Mo_fact_2 kxF Ff 1 δ).bind (aft G v1) = some (v, d) ∧ RO t X c d v res ∧ Fr2 t δ d
def CC (t : Nat) (X : Tx) (n : Nat) : Prop := ∀ Fc G c δ q st v1 res, X.2 < q.1 + Fc → X.2 < q.1 + G → RK t X c δ q st → MM X n false q st = res → res ≠ .inl 0 → ∃ v d, ((f_Mo_settles (3 : Int32) δ).bind (fun y2 => lp_Mo_closes_5 (fun δ5x => some δ5x) Fc y2)).bind (fun y26 => rst (gT G) kxT v1 y26) = some (v, d) ∧ RO t X c d v res ∧ Fr2 t δ d
theorem RK.s9 {t : Nat} {X : Tx} {c : Nat} {δ : Dm} {q : Qs} {st : List Nat} (h : RK t X c δ q st) : ∃ D, D = sI δ 151 9 (nI q.1) ∧ gI D 151 9 = nI q.1 ∧ RK t X c D q st ∧ Fr2 t δ D ∧ f_Mo_see δ = some (bt X q.1, D) ∧ f_Mo_see D = some (bt X q.1, D) := by
  obtain ⟨e1, h1⟩ := h.see
  refine ⟨_, rfl, gss, h1, (Fr2.refl t δ).s (by decide), e1, ?_⟩
  have := h1.see.1
  rw [sI_sI] at this
  exact this
theorem fact_step {t : Nat} {X : Tx} {n : Nat} (ht : t < 8) (hT : TT t X n) (hC : CC t X n) : TT t X (n + 1) := fun Ff G c δ q st v1 res hF hG h hm hr => by
  obtain ⟨hq, h4, hsp, hcr⟩ := h.1.at
  have hX := h.1.1.2.1
  obtain ⟨F, rfl⟩ : ∃ F, Ff = F + 1 := ⟨Ff - 1, by omega⟩
  obtain ⟨D, hD, D9, hK, fD, e1, e2⟩ := h.s9
  have hm : MF X (MM X n) q st = res := hm
  rw [lp_Mo_fact_2, if_neg (show ¬ (1 : Int32) = 0 by decide), e1, Option.bind_some, bndE, bndE]
  rw [wIf (k := 20) (by decide) hK.1.1 D9 hq hsp (show (7237492 : Int64) = wW 20 by decide +kernel)]
  have hst10 := hK.2.2.2.1
  have gk : kd X q.1 = 31 → bt X q.1 = 91 := fun z => (bt_sg (b := 91) hX (by decide)).mpr z
  have gk' : bt X q.1 = 91 → kd X q.1 = 31 := fun z => (bt_sg (b := 91) hX (by decide)).mp z
  unfold MF at hm
  by_cases z1 : kd X q.1 = 20
  · rw [if_pos z1] at hm ⊢
    obtain ⟨o1, o2⟩ := opens_R (wh := 11) (Or.inl rfl) hK D9
    by_cases y : 10 ≤ dpo st
    · rw [if_pos y] at hm
      subst hm
      rw [show (11 : Int32) = nI 11 from rfl, o1 y, Option.bind_some, bndE, bndE, if_pos rfl, Option.bind_some]
      unfold aft
      rw [bndE, bndE, if_pos rfl]
      exact ⟨0, _, rfl, ⟨rfl, gss⟩, fD.s (by decide)⟩
    · rw [if_neg y] at hm
      obtain ⟨w1, w2, w3, w4⟩ := word_te (X := X) (s := q.1) (by omega)
      obtain ⟨d, p1, p2, p3, p4, p5⟩ := o2 (by omega) w3
      rw [show (11 : Int32) = nI 11 from rfl, p1, Option.bind_some, bndE, bndE, if_neg (show ¬ (1 : Int32) = 0 by decide), pass_R p4 p3 hq, Option.bind_some]
      have k1 := p5 (enL X q.1) (nx X q.1) w4 (by rw [← w1]; rfl) w2
      have hn := nx_gt X q.1
      obtain ⟨v, e, r1, r2, r3⟩ := hT F G c _ (nq X q) (11 :: st) v1 res (by show X.2 + 1 < nx X q.1 + F; omega) (by show X.2 < nx X q.1 + G; omega) k1 hm hr
      exact ⟨v, e, r1, r2, (fD.trans (p2.s (v := nI (enL X q.1)) (Or.inl rfl))).trans r3⟩
  rw [if_neg z1] at hm ⊢
  by_cases z2 : kd X q.1 = 31
  · rw [if_pos z2] at hm
    rw [if_pos (gk z2)]
    obtain ⟨o1, o2⟩ := opens_R (wh := 91) (Or.inr rfl) hK D9
    by_cases y : 10 ≤ dpo st
    · rw [if_pos y] at hm
      subst hm
      rw [show (91 : Int32) = nI 91 from rfl, o1 y, Option.bind_some, bndE, bndE, if_pos rfl, Option.bind_some]
      unfold aft
      rw [bndE, bndE, if_pos rfl]
      exact ⟨0, _, rfl, ⟨rfl, gss⟩, fD.s (by decide)⟩
    · rw [if_neg y] at hm
      obtain ⟨w1, w2, w3⟩ := te_sg (s := q.1) (b := 91) hX (by decide) z2
      obtain ⟨d, p1, p2, p3, p4, p5⟩ := o2 (by omega) w3
      rw [show (91 : Int32) = nI 91 from rfl, p1, Option.bind_some, bndE, bndE, if_neg (show ¬ (1 : Int32) = 0 by decide), p3, nI_1, bndE]
      have k1 := p5 (q.1 + 1) (nx X q.1) (by omega) (by rw [← w1]; rfl) (Nat.le_refl _)
      have hn := nx_gt X q.1
      obtain ⟨v, e, r1, r2, r3⟩ := hT F G c _ (nq X q) (91 :: st) v1 res (by show X.2 + 1 < nx X q.1 + F; omega) (by show X.2 < nx X q.1 + G; omega) k1 hm hr
      exact ⟨v, e, r1, r2, (fD.trans (p2.s (v := nI (q.1 + 1)) (Or.inl rfl))).trans r3⟩
  · rw [if_neg z2] at hm
    rw [if_neg (fun w => z2 (gk' w))]
    obtain ⟨G', rfl⟩ : ∃ G', F = G' + 1 := ⟨F - 1, by omega⟩
    rw [lp_Mo_fact_2, if_pos rfl]
    obtain ⟨v, d, c1, c2, c3⟩ := compare_R ht _ D q hK.1
    have hv : v = 0 ∨ v = 1 := by
      cases hp : pC X q with
      | inl w => rw [hp] at c2; exact Or.inl c2.1
      | inr r => rw [hp] at c2; exact Or.inr c2.1
    have hk : kxF 0 D = some (v, d) := rbool c1 hv
    rw [hk, Option.bind_some]
    unfold aft
    rw [bndE, bndE]
    cases hp : pC X q with
    | inl w =>
      rw [hp] at c2 hm
      have hm : (.inl w : Rs) = res := hm
      subst hm
      obtain ⟨c4, c5⟩ := c2
      rw [c4, if_pos rfl]
      exact ⟨0, d, rfl, ⟨rfl, c5⟩, fD.trans c3.two⟩
    | inr r =>
      rw [hp] at c2 hm
      have hm : MM X n false r st = res := hm
      obtain ⟨c4, c5⟩ := c2
      rw [c4, if_neg (show ¬ (1 : Int32) = 0 by decide)]
      have a := pC_pos X _ _ hp
      have kr : RK t X c d r st := ⟨c5, hK.2.one c3⟩
      obtain ⟨v', e, r1, r2, r3⟩ := hC FU G c d r st v1 res (by have := FU_gt (k := 500) (by decide); omega) (by omega) kr hm hr
      exact ⟨v', e, r1, r2, (fD.trans c3.two).trans r3⟩
theorem close_step {t : Nat} {X : Tx} {n : Nat} (ht : t < 8) (hT : TT t X n) (hC : CC t X n) : CC t X (n + 1) := fun Fc G c δ q st v1 res hF hG h hm hr => by
  obtain ⟨hq, h4, hsp, hcr⟩ := h.1.at
  have hX := h.1.1.2.1
  have hm : MC X (MM X n) (stl 3 q st).1 (stl 3 q st).2 = res := hm
  obtain ⟨d0, s1, s2, s3, s4⟩ := settle_R (l := 3) ht (by decide) h
  obtain ⟨u1, u2⟩ := stl_pos (l := 3) st q
  obtain ⟨q1, hq1⟩ : ∃ q1, (stl 3 q st).1 = q1 := ⟨_, rfl⟩
  obtain ⟨st1, hst1⟩ : ∃ st1, (stl 3 q st).2 = st1 := ⟨_, rfl⟩
  rw [hq1] at u1 s2 hm
  rw [hst1] at s2 hm
  rw [show (3 : Int32) = nI 3 from rfl, s1, Option.bind_some]
  obtain ⟨F, rfl⟩ : ∃ F, Fc = F + 1 := ⟨Fc - 1, by omega⟩
  obtain ⟨hq', -, hsp', -⟩ := s2.1.at
  obtain ⟨D, hD, D9, hK, fD, e1, e2⟩ := s2.s9
  have gk : kd X q1.1 = 32 → bt X q1.1 = 93 := fun z => (bt_sg (b := 93) hX (by decide)).mpr z
  have gk' : bt X q1.1 = 93 → kd X q1.1 = 32 := fun z => (bt_sg (b := 93) hX (by decide)).mp z
  have f0D : Fr2 t δ D := s3.trans fD
  rw [lp_Mo_closes_5, e1, Option.bind_some, bndE, bndE]
  unfold MC at hm
  by_cases z1 : kd X q1.1 = 32 ∧ 91 ∈ st1
  · rw [if_pos z1] at hm
    rw [if_pos (gk z1.1), inside_R hK, Option.bind_some, if_pos z1.2, if_neg (show ¬ (1 : Int32) = 0 by decide)]
    obtain ⟨d1, a1, a2, a3, a4⟩ := settle_R (l := 1) ht (by decide) hK
    obtain ⟨u3, u4⟩ := stl_pos (l := 1) st1 q1
    obtain ⟨y, hy⟩ := stl_top st1 q1 hK.2.2.2.2.1 z1.2
    obtain ⟨q2, hq2⟩ : ∃ q2, (stl 1 q1 st1).1 = q2 := ⟨_, rfl⟩
    rw [hq2] at hm a2 u3
    rw [hy] at hm a2
    have hm : MM X n false (nq X q2) y = res := hm
    obtain ⟨b1, b2⟩ := a2
    obtain ⟨w1, w2, w3⟩ := te_sg (s := q1.1) (b := 93) hX (by decide) z1.1
    have b17 : gI d1 151 17 = nI (y.length + 1) := b2.1
    have b14 : gI d1 151 14 = nI (dpo y + 1) := by rw [b2.2.1, dpo_y (Or.inr rfl)]
    have b9 : gI d1 151 9 = nI q1.1 := a4.trans D9
    rw [show (1 : Int32) = nI 1 from rfl, a1, Option.bind_some, bndE, b17, bndE, gsc (by decide), b14, bndE, gsc (by decide), gsc (by decide), b9, show nI q1.1 + nI 1 = nI (q1.1 + 1) from nI_add _ 1]
    obtain ⟨E, hE⟩ : ∃ E, sI (sI (sI d1 151 17 (nI (y.length + 1) - nI 1)) 151 14 (nI (dpo y + 1) - nI 1)) 151 9 (nI (q1.1 + 1)) = E := ⟨_, rfl⟩
    rw [hE]
    have hn := nx_gt X q1.1
    have fE : Fr2 t d1 E := by rw [← hE]; exact (((Fr2.refl t d1).s (by decide)).s (by decide)).s (by decide)
    have kE : RK t X c E (nq X q2) y := by
      refine ⟨?_, ?_⟩
      · have := b1.up (d := E) (k := 1) (p' := q1.1 + 1) (q' := nq X q2) (b1.1.fr (by rw [← hE, gsc (by decide), gsc (by decide), gsc (by decide)]) (fun j => by rw [← hE, gsr (by decide), gsr (by decide), gsr (by decide)])) (by omega) (by rw [← w1]; show sp X (te X q1.1) = nx X q2.1; rw [u3]; rfl) (by rw [← hE, gss]) rfl (by rw [u3]; exact Nat.le_refl _) (by rw [← hE, gsc (by decide), gsc (by decide), gsc (by decide)]; exact b1.2.2.1) (by rw [← hE, gsc (by decide), gsc (by decide), gsc (by decide)]; exact b1.2.2.2.2.1) b1.2.2.2.2.2.1 (by rw [← hE, gsc (by decide), gsc (by decide), gsc (by decide)]) (by rw [← hE, gsr (by decide), gsr (by decide), gsr (by decide)]) (fun j => by rw [← hE, gsr (by decide), gsr (by decide), gsr (by decide)])
        exact this.mono (by show c + y.length ≤ c + (y.length + 1) + 1; omega)
      · refine SK_tl b2 ?_ ?_ (fun j => by rw [← hE, gsr (by decide), gsr (by decide), gsr (by decide)])
        · rw [← hE, gsc (by decide), gsc (by decide), gss]; exact nI_pred _
        · rw [← hE, gsc (by decide), gss]; exact nI_pred _
    obtain ⟨v, e, r1, r2, r3⟩ := hC F G c E (nq X q2) y v1 res (by show X.2 < nx X q2.1 + F; rw [u3]; omega) (by show X.2 < nx X q2.1 + G; rw [u3]; omega) kE hm hr
    exact ⟨v, e, r1, r2, ((f0D.trans a3).trans fE).trans r3⟩
  · rw [if_neg z1] at hm
    have hD' : (if bt X q1.1 = 93 then ((f_Mo_isInside D).bind (fun y15 => (if y15 = 0 then (some D) else ((f_Mo_settles (1 : Int32) D).bind (fun y23 => (bnd (sI y23 151 17 ((gI y23 151 17) - (1 : Int32))) (fun δ_33 => (bnd (sI δ_33 151 14 ((gI δ_33 151 14) - (1 : Int32))) (fun δ_43 => (bnd (sI δ_43 151 9 ((gI δ_43 151 9) + (1 : Int32))) (fun δ_53 => ((f_Mo_settles (3 : Int32) δ_53).bind (fun y58 => (lp_Mo_closes_5 (fun δ5x => some δ5x) F y58)))))))))))))) else (some D)) = some D := by
      by_cases y : kd X q1.1 = 32
      · rw [if_pos (gk y), inside_R hK, Option.bind_some, if_neg (fun w => z1 ⟨y, w⟩), if_pos rfl]
      · rw [if_neg (fun w => y (gk' w))]
    refine Exists.imp (fun v => Exists.imp (fun d => And.imp_left (fun w => Eq.trans (congrArg (fun o => Option.bind o (fun y26 => rst (gT G) kxT v1 y26)) hD') w))) ?_
    rw [Option.bind_some]
    unfold rst jp_Mo_tested_49
    rw [wIf (k := 19) (by decide) hK.1.1 D9 hq' hsp' (show (6385252 : Int64) = wW 19 by decide +kernel)]
    obtain ⟨G', rfl⟩ : ∃ G', G = G' + 1 := ⟨G - 1, by omega⟩
    have j54 : ∀ s0 : Int32, s0 ≠ 0 → jp_Mo_tested_54 (gT (G' + 1)) kxT v1 s0 D = if kd X q1.1 = 19 then jp_Mo_tested_76 (gT (G' + 1)) kxT s0 D 12 else jp_Mo_tested_76 (gT (G' + 1)) kxT s0 D 13 := fun s0 hs => by
      unfold jp_Mo_tested_54
      rw [if_neg hs, wIf (k := 19) (by decide) hK.1.1 D9 hq' hsp' (show (6385252 : Int64) = wW 19 by decide +kernel)]
    have again : ∀ s0, s0 = 12 ∨ s0 = 13 → kd X q1.1 ≤ 20 → MM X n true (nq X (stl (stg s0) q1 st1).1) (s0 :: (stl (stg s0) q1 st1).2) = res → ∃ v d, jp_Mo_tested_76 (gT (G' + 1)) kxT 1 D (nI s0) = some (v, d) ∧ RO t X c d v res ∧ Fr2 t δ d := fun s0 hs hk hm => by
      obtain ⟨d, k1, k2, k3⟩ := jp76 (kr := gT (G' + 1)) (kx := kxT) (v1 := 1) ht hs hK D9 hk
      rw [k1]
      unfold gT
      rw [lp_Mo_tested_12, if_neg (show ¬ (1 : Int32) = 0 by decide)]
      obtain ⟨u3, u4⟩ := stl_pos (l := stg s0) st1 q1
      have hn := nx_gt X q1.1
      obtain ⟨v, e, r1, r2, r3⟩ := hT FU G' c d (nq X (stl (stg s0) q1 st1).1) (s0 :: (stl (stg s0) q1 st1).2) 1 res (by have := FU_gt (k := 500) (by decide); omega) (by show X.2 < nx X (stl (stg s0) q1 st1).1.1 + G'; rw [u3]; omega) k2 hm hr
      exact ⟨v, e, r1, r2, (f0D.trans k3).trans r3⟩
    by_cases z2 : kd X q1.1 = 19
    · rw [if_pos z2] at hm ⊢
      rw [j54 1 (by decide), if_pos z2]
      exact again 12 (Or.inl rfl) (by omega) hm
    · rw [if_neg z2] at hm ⊢
      rw [wIf (k := 18) (by decide) hK.1.1 D9 hq' hsp' (show (28530 : Int64) = wW 18 by decide +kernel)]
      by_cases z3 : kd X q1.1 = 18
      · rw [if_pos z3] at hm ⊢
        rw [j54 1 (by decide), if_neg z2]
        exact again 13 (Or.inr rfl) (by omega) hm
      · rw [if_neg z3] at hm ⊢
        unfold jp_Mo_tested_54
        rw [if_pos rfl]
        unfold gT
        rw [lp_Mo_tested_12, if_pos rfl]
        unfold kxT
        rw [inside_R hK, Option.bind_some]
        by_cases z4 : 91 ∈ st1
        · rw [if_pos z4] at hm ⊢
          subst hm
          rw [if_neg (show ¬ (1 : Int32) = 0 by decide), e2, Option.bind_some, bndE, bndE, D9]
          exact ⟨_, _, rbool (x := f_Mo_fails 0 (nI q1.1) D) (fails_R (n := 0) hK.1.2.2.1) (Or.inl rfl), ⟨rfl, gss⟩, f0D.s (by decide)⟩
        · rw [if_neg z4] at hm ⊢
          subst hm
          obtain ⟨d1, a1, a2, a3, a4⟩ := settle_R (l := 1) ht (by decide) hK
          rw [if_pos rfl, show (1 : Int32) = nI 1 from rfl, a1, Option.bind_some]
          exact ⟨_, _, rfl, ⟨rfl, a2.1.mono (Nat.le_add_right _ _)⟩, f0D.trans a3⟩
theorem test_all {t : Nat} {X : Tx} (ht : t < 8) : ∀ n, TT t X n ∧ CC t X n := by
  intro n
  induction n with
  | zero => exact ⟨fun Ff G c δ q st v1 res _ _ _ hm hr => absurd hm.symm hr, fun Ff G c δ q st v1 res _ _ _ hm hr => absurd hm.symm hr⟩
  | succ n ih => exact ⟨fact_step ht ih.1 ih.2, close_step ht ih.1 ih.2⟩
theorem tested_R {t : Nat} {X : Tx} {c : Nat} {δ : Dm} {q : Qs} (ht : t < 8) (h : RS t X c δ q) : ∃ v d, f_Mo_tested δ = some (v, d) ∧ RO t X c d v (pO X (pF X 12) 0 q) ∧ Fr2 t δ d := by
  obtain ⟨hq, h4, hsp, hcr⟩ := h.at
  obtain ⟨n, m1, m2⟩ := test_ev h4 q
  obtain ⟨D, hD⟩ : ∃ D, sI (sI δ 151 17 0) 151 14 0 = D := ⟨_, rfl⟩
  have fD : Fr2 t δ D := by rw [← hD]; exact ((Fr2.refl t δ).s (by decide)).s (by decide)
  have hK : RK t X c D q [] := by
    refine ⟨?_, ?_, ?_, by decide, fun x hx => absurd hx List.not_mem_nil, fun i x hx => by simp at hx⟩
    · obtain ⟨a1, ⟨p, b1, b2, b3, b4⟩, c1, c2, c3, c4, c5, c6⟩ := h
      rw [← hD]
      exact ⟨a1.fr (by rw [gsc (by decide), gsc (by decide)]) (fun j => by rw [gsr (by decide), gsr (by decide)]), ⟨p, b1, b2, by rw [gsc (by decide), gsc (by decide)]; exact b3, b4⟩, by rw [gsc (by decide), gsc (by decide)]; exact c1, by rw [gsc (by decide), gsc (by decide)]; exact c2, by rw [gsc (by decide), gsc (by decide)]; exact c3, c4, by rw [gsr (by decide), gsr (by decide)]; exact c5, fun k o q => by rw [gsr (by decide), gsr (by decide)]; exact c6 k o q⟩
    · rw [← hD, gsc (by decide), gss]; rfl
    · rw [← hD, gss]; rfl
  obtain ⟨g, hg⟩ : ∃ g, FU = g + 1 := ⟨FU - 1, by have := FU_gt (k := 500) (by decide); omega⟩
  have hg4 : 500 < g := by have := FU_gt (k := 600) (by decide); omega
  obtain ⟨v, e, r1, r2, r3⟩ := (test_all ht n).1 FU g c D q [] 1 _ (by have := FU_gt (k := 500) (by decide); omega) (by omega) hK m1 m2
  refine ⟨v, e, ?_, r2, fD.trans r3⟩
  unfold f_Mo_tested
  rw [bndE, bndE, hD]
  conv => lhs; rw [hg]
  rw [lp_Mo_tested_12, if_neg (show ¬ (1 : Int32) = 0 by decide)]
  exact r1
