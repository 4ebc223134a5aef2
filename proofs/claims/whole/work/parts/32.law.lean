/-! the law: its loop, its body -/
noncomputable section
abbrev k_L_law : MI := (⟨C_L, "law", "([I)Z"⟩, code, 4, some .boolean)
theorem aw_bN {α : Type} {k : MI} {d mc ms pc nc ns n : Nat} {lo : List (Nat × Value)} {st : List Value} {δ : Dm} {R : Rm} {KK : α → Ans} {B : Nat → Option α} (h : ∀ v, AWo k d mc ms pc lo st δ R v nc ns KK (B v)) : AWo k d mc ms pc lo st δ R n nc ns KK (bnd n B) := h n
def lp_L_law_18 (kx18_1465 : Int32 → Dm → Nat → Option (Int32 × Dm × Nat)) : Nat → Int32 → Dm → Nat → Option (Int32 × Dm × Nat)
  | 0, _, _, _ => none
  | f + 1, v3, δ18, n18 => (if ((gI δ18 1 0) - (6 : Int32)) < v3 then (kx18_1465 v3 δ18 n18) else (if 0 ≤ (v3).toInt ∧ (v3).toInt < (gI δ18 1 0).toInt then (if (((gI δ18 0 (ix v3)) &&& (63 : Int32))).toInt = (0 : Int) then (if 0 ≤ ((v3 + (1 : Int32))).toInt ∧ ((v3 + (1 : Int32))).toInt < (gI δ18 1 0).toInt then ((f_Fp_place (gI δ18 0 (ix (v3 + (1 : Int32)))) δ18).bind (fun y194 => bnd y194.1 (fun v194 => bnd y194.2 (fun δ_194 => (if 0 ≤ ((v3 + (1 : Int32))).toInt ∧ ((v3 + (1 : Int32))).toInt < (gI δ_194 1 0).toInt then ((f_Mo_place (gI δ_194 0 (ix (v3 + (1 : Int32)))) δ_194).bind (fun y203 => bnd y203.1 (fun v203 => bnd y203.2 (fun δ_203 => (if v194 = v203 then (lp_L_law_18 kx18_1465 f (v3 + (6 : Int32)) δ_203 n18) else (some ((0 : Int32), δ_203, n18))))))) else none))))) else none) else (if (((gI δ18 0 (ix v3)) &&& (63 : Int32))).toInt = (1 : Int) then (if 0 ≤ ((v3 + (1 : Int32))).toInt ∧ ((v3 + (1 : Int32))).toInt < (gI δ18 1 0).toInt then (if 0 ≤ ((v3 + (2 : Int32))).toInt ∧ ((v3 + (2 : Int32))).toInt < (gI δ18 1 0).toInt then (if 0 ≤ ((v3 + (3 : Int32))).toInt ∧ ((v3 + (3 : Int32))).toInt < (gI δ18 1 0).toInt then ((f_Fp_miles (gI δ18 0 (ix (v3 + (1 : Int32)))) (gI δ18 0 (ix (v3 + (2 : Int32)))) (gI δ18 0 (ix (v3 + (3 : Int32)))) δ18).bind (fun y227 => bnd y227.1 (fun v227 => bnd y227.2 (fun δ_227 => (if 0 ≤ ((v3 + (1 : Int32))).toInt ∧ ((v3 + (1 : Int32))).toInt < (gI δ_227 1 0).toInt then (if 0 ≤ ((v3 + (2 : Int32))).toInt ∧ ((v3 + (2 : Int32))).toInt < (gI δ_227 1 0).toInt then (if 0 ≤ ((v3 + (3 : Int32))).toInt ∧ ((v3 + (3 : Int32))).toInt < (gI δ_227 1 0).toInt then ((f_Mo_miles (gI δ_227 0 (ix (v3 + (1 : Int32)))) (gI δ_227 0 (ix (v3 + (2 : Int32)))) (gI δ_227 0 (ix (v3 + (3 : Int32)))) δ_227).bind (fun y246 => bnd y246.1 (fun v246 => bnd y246.2 (fun δ_246 => (if v227 = v246 then (lp_L_law_18 kx18_1465 f (v3 + (6 : Int32)) δ_246 n18) else (some ((0 : Int32), δ_246, n18))))))) else none) else none) else none))))) else none) else none) else none) else (if (((gI δ18 0 (ix v3)) &&& (63 : Int32))).toInt = (2 : Int) then (if 0 ≤ ((v3 + (1 : Int32))).toInt ∧ ((v3 + (1 : Int32))).toInt < (gI δ18 1 0).toInt then (if 0 ≤ ((v3 + (2 : Int32))).toInt ∧ ((v3 + (2 : Int32))).toInt < (gI δ18 1 0).toInt then ((f_Fp_heat (gI δ18 0 (ix (v3 + (1 : Int32)))) (gI δ18 0 (ix (v3 + (2 : Int32)))) δ18).bind (fun y265 => bnd y265.1 (fun v265 => bnd y265.2 (fun δ_265 => (if 0 ≤ ((v3 + (1 : Int32))).toInt ∧ ((v3 + (1 : Int32))).toInt < (gI δ_265 1 0).toInt then (if 0 ≤ ((v3 + (2 : Int32))).toInt ∧ ((v3 + (2 : Int32))).toInt < (gI δ_265 1 0).toInt then ((f_Mo_heat (gI δ_265 0 (ix (v3 + (1 : Int32)))) (gI δ_265 0 (ix (v3 + (2 : Int32)))) δ_265).bind (fun y279 => bnd y279.1 (fun v279 => bnd y279.2 (fun δ_279 => (if v265 = v279 then (lp_L_law_18 kx18_1465 f (v3 + (6 : Int32)) δ_279 n18) else (some ((0 : Int32), δ_279, n18))))))) else none) else none))))) else none) else none) else (if (((gI δ18 0 (ix v3)) &&& (63 : Int32))).toInt = (3 : Int) then (if 0 ≤ ((v3 + (1 : Int32))).toInt ∧ ((v3 + (1 : Int32))).toInt < (gI δ18 1 0).toInt then (if 0 ≤ ((v3 + (2 : Int32))).toInt ∧ ((v3 + (2 : Int32))).toInt < (gI δ18 1 0).toInt then (if 0 ≤ ((v3 + (3 : Int32))).toInt ∧ ((v3 + (3 : Int32))).toInt < (gI δ18 1 0).toInt then (if 0 ≤ ((v3 + (4 : Int32))).toInt ∧ ((v3 + (4 : Int32))).toInt < (gI δ18 1 0).toInt then (if 0 ≤ ((v3 + (5 : Int32))).toInt ∧ ((v3 + (5 : Int32))).toInt < (gI δ18 1 0).toInt then ((f_Fp_feed (gI δ18 0 (ix (v3 + (1 : Int32)))) (gI δ18 0 (ix (v3 + (2 : Int32)))) (gI δ18 0 (ix (v3 + (3 : Int32)))) (gI δ18 0 (ix (v3 + (4 : Int32)))) (gI δ18 0 (ix (v3 + (5 : Int32)))) δ18).bind (fun y313 => bnd y313.1 (fun v313 => bnd y313.2 (fun δ_313 => (if 0 ≤ ((v3 + (1 : Int32))).toInt ∧ ((v3 + (1 : Int32))).toInt < (gI δ_313 1 0).toInt then (if 0 ≤ ((v3 + (2 : Int32))).toInt ∧ ((v3 + (2 : Int32))).toInt < (gI δ_313 1 0).toInt then (if 0 ≤ ((v3 + (3 : Int32))).toInt ∧ ((v3 + (3 : Int32))).toInt < (gI δ_313 1 0).toInt then (if 0 ≤ ((v3 + (4 : Int32))).toInt ∧ ((v3 + (4 : Int32))).toInt < (gI δ_313 1 0).toInt then (if 0 ≤ ((v3 + (5 : Int32))).toInt ∧ ((v3 + (5 : Int32))).toInt < (gI δ_313 1 0).toInt then ((f_Mo_feed (gI δ_313 0 (ix (v3 + (1 : Int32)))) (gI δ_313 0 (ix (v3 + (2 : Int32)))) (gI δ_313 0 (ix (v3 + (3 : Int32)))) (gI δ_313 0 (ix (v3 + (4 : Int32)))) (gI δ_313 0 (ix (v3 + (5 : Int32)))) δ_313).bind (fun y342 => bnd y342.1 (fun v342 => bnd y342.2 (fun δ_342 => (if v313 = v342 then (lp_L_law_18 kx18_1465 f (v3 + (6 : Int32)) δ_342 n18) else (some ((0 : Int32), δ_342, n18))))))) else none) else none) else none) else none) else none))))) else none) else none) else none) else none) else none) else (if (((gI δ18 0 (ix v3)) &&& (63 : Int32))).toInt = (4 : Int) then (if 0 ≤ ((v3 + (1 : Int32))).toInt ∧ ((v3 + (1 : Int32))).toInt < (gI δ18 1 0).toInt then ((f_Fp_end (gI δ18 0 (ix (v3 + (1 : Int32)))) δ18).bind (fun y356 => bnd y356.1 (fun v356 => bnd y356.2 (fun δ_356 => (if 0 ≤ ((v3 + (1 : Int32))).toInt ∧ ((v3 + (1 : Int32))).toInt < (gI δ_356 1 0).toInt then ((f_Mo_end (gI δ_356 0 (ix (v3 + (1 : Int32)))) δ_356).bind (fun y365 => bnd y365.1 (fun v365 => bnd y365.2 (fun δ_365 => (if v356 = v365 then (lp_L_law_18 kx18_1465 f (v3 + (6 : Int32)) δ_365 n18) else (some ((0 : Int32), δ_365, n18))))))) else none))))) else none) else (if (((gI δ18 0 (ix v3)) &&& (63 : Int32))).toInt = (5 : Int) then ((f_Fp_law δ18).bind (fun y374 => bnd y374.1 (fun v374 => bnd y374.2 (fun δ_374 => ((f_Mo_law δ_374).bind (fun y378 => bnd y378.1 (fun v378 => bnd y378.2 (fun δ_378 => (if v374 = v378 then (lp_L_law_18 kx18_1465 f (v3 + (6 : Int32)) δ_378 n18) else (some ((0 : Int32), δ_378, n18))))))))))) else (if (((gI δ18 0 (ix v3)) &&& (63 : Int32))).toInt = (6 : Int) then (if 0 ≤ ((v3 + (1 : Int32))).toInt ∧ ((v3 + (1 : Int32))).toInt < (gI δ18 1 0).toInt then (if 0 ≤ ((v3 + (2 : Int32))).toInt ∧ ((v3 + (2 : Int32))).toInt < (gI δ18 1 0).toInt then (if 0 ≤ ((v3 + (3 : Int32))).toInt ∧ ((v3 + (3 : Int32))).toInt < (gI δ18 1 0).toInt then ((f_Fp_booth (gI δ18 0 (ix (v3 + (1 : Int32)))) (gI δ18 0 (ix (v3 + (2 : Int32)))) (gI δ18 0 (ix (v3 + (3 : Int32)))) δ18).bind (fun y402 => bnd y402.1 (fun v402 => bnd y402.2 (fun δ_402 => (if 0 ≤ ((v3 + (1 : Int32))).toInt ∧ ((v3 + (1 : Int32))).toInt < (gI δ_402 1 0).toInt then (if 0 ≤ ((v3 + (2 : Int32))).toInt ∧ ((v3 + (2 : Int32))).toInt < (gI δ_402 1 0).toInt then (if 0 ≤ ((v3 + (3 : Int32))).toInt ∧ ((v3 + (3 : Int32))).toInt < (gI δ_402 1 0).toInt then ((f_Mo_booth (gI δ_402 0 (ix (v3 + (1 : Int32)))) (gI δ_402 0 (ix (v3 + (2 : Int32)))) (gI δ_402 0 (ix (v3 + (3 : Int32)))) δ_402).bind (fun y421 => bnd y421.1 (fun v421 => bnd y421.2 (fun δ_421 => (if v402 = v421 then (lp_L_law_18 kx18_1465 f (v3 + (6 : Int32)) δ_421 n18) else (some ((0 : Int32), δ_421, n18))))))) else none) else none) else none))))) else none) else none) else none) else (if (((gI δ18 0 (ix v3)) &&& (63 : Int32))).toInt = (7 : Int) then (if 0 ≤ ((v3 + (1 : Int32))).toInt ∧ ((v3 + (1 : Int32))).toInt < (gI δ18 1 0).toInt then (if 0 ≤ ((v3 + (2 : Int32))).toInt ∧ ((v3 + (2 : Int32))).toInt < (gI δ18 1 0).toInt then ((f_Fp_move (gI δ18 0 (ix (v3 + (1 : Int32)))) (gI δ18 0 (ix (v3 + (2 : Int32)))) δ18).bind (fun y440 => bnd y440.1 (fun v440 => bnd y440.2 (fun δ_440 => (if 0 ≤ ((v3 + (1 : Int32))).toInt ∧ ((v3 + (1 : Int32))).toInt < (gI δ_440 1 0).toInt then (if 0 ≤ ((v3 + (2 : Int32))).toInt ∧ ((v3 + (2 : Int32))).toInt < (gI δ_440 1 0).toInt then ((f_Mo_move (gI δ_440 0 (ix (v3 + (1 : Int32)))) (gI δ_440 0 (ix (v3 + (2 : Int32)))) δ_440).bind (fun y454 => bnd y454.1 (fun v454 => bnd y454.2 (fun δ_454 => (if v440 = v454 then (lp_L_law_18 kx18_1465 f (v3 + (6 : Int32)) δ_454 n18) else (some ((0 : Int32), δ_454, n18))))))) else none) else none))))) else none) else none) else (if (((gI δ18 0 (ix v3)) &&& (63 : Int32))).toInt = (8 : Int) then (if 0 ≤ ((v3 + (1 : Int32))).toInt ∧ ((v3 + (1 : Int32))).toInt < (gI δ18 1 0).toInt then (if 0 ≤ ((v3 + (2 : Int32))).toInt ∧ ((v3 + (2 : Int32))).toInt < (gI δ18 1 0).toInt then ((f_Fp_paper (gI δ18 0 (ix (v3 + (1 : Int32)))) (gI δ18 0 (ix (v3 + (2 : Int32)))) δ18).bind (fun y473 => bnd y473.1 (fun v473 => bnd y473.2 (fun δ_473 => (if 0 ≤ ((v3 + (1 : Int32))).toInt ∧ ((v3 + (1 : Int32))).toInt < (gI δ_473 1 0).toInt then (if 0 ≤ ((v3 + (2 : Int32))).toInt ∧ ((v3 + (2 : Int32))).toInt < (gI δ_473 1 0).toInt then ((f_Mo_paper (gI δ_473 0 (ix (v3 + (1 : Int32)))) (gI δ_473 0 (ix (v3 + (2 : Int32)))) δ_473).bind (fun y487 => bnd y487.1 (fun v487 => bnd y487.2 (fun δ_487 => (if v473 = v487 then (lp_L_law_18 kx18_1465 f (v3 + (6 : Int32)) δ_487 n18) else (some ((0 : Int32), δ_487, n18))))))) else none) else none))))) else none) else none) else (if (((gI δ18 0 (ix v3)) &&& (63 : Int32))).toInt = (9 : Int) then (if 0 ≤ ((v3 + (1 : Int32))).toInt ∧ ((v3 + (1 : Int32))).toInt < (gI δ18 1 0).toInt then (if 0 ≤ ((v3 + (2 : Int32))).toInt ∧ ((v3 + (2 : Int32))).toInt < (gI δ18 1 0).toInt then (if 0 ≤ ((v3 + (3 : Int32))).toInt ∧ ((v3 + (3 : Int32))).toInt < (gI δ18 1 0).toInt then ((f_Fp_strip (gI δ18 0 (ix (v3 + (1 : Int32)))) (gI δ18 0 (ix (v3 + (2 : Int32)))) (gI δ18 0 (ix (v3 + (3 : Int32)))) δ18).bind (fun y511 => bnd y511.1 (fun v511 => bnd y511.2 (fun δ_511 => (if 0 ≤ ((v3 + (1 : Int32))).toInt ∧ ((v3 + (1 : Int32))).toInt < (gI δ_511 1 0).toInt then (if 0 ≤ ((v3 + (2 : Int32))).toInt ∧ ((v3 + (2 : Int32))).toInt < (gI δ_511 1 0).toInt then (if 0 ≤ ((v3 + (3 : Int32))).toInt ∧ ((v3 + (3 : Int32))).toInt < (gI δ_511 1 0).toInt then ((f_Mo_strip (gI δ_511 0 (ix (v3 + (1 : Int32)))) (gI δ_511 0 (ix (v3 + (2 : Int32)))) (gI δ_511 0 (ix (v3 + (3 : Int32)))) δ_511).bind (fun y530 => bnd y530.1 (fun v530 => bnd y530.2 (fun δ_530 => (if v511 = v530 then (lp_L_law_18 kx18_1465 f (v3 + (6 : Int32)) δ_530 n18) else (some ((0 : Int32), δ_530, n18))))))) else none) else none) else none))))) else none) else none) else none) else (if (((gI δ18 0 (ix v3)) &&& (63 : Int32))).toInt = (10 : Int) then (if 0 ≤ ((v3 + (1 : Int32))).toInt ∧ ((v3 + (1 : Int32))).toInt < (gI δ18 1 0).toInt then ((f_Fp_clock (gI δ18 0 (ix (v3 + (1 : Int32)))) δ18).bind (fun y544 => bnd y544.1 (fun v544 => bnd y544.2 (fun δ_544 => (if 0 ≤ ((v3 + (1 : Int32))).toInt ∧ ((v3 + (1 : Int32))).toInt < (gI δ_544 1 0).toInt then ((f_Mo_clock (gI δ_544 0 (ix (v3 + (1 : Int32)))) δ_544).bind (fun y553 => bnd y553.1 (fun v553 => bnd y553.2 (fun δ_553 => (if v544 = v553 then (lp_L_law_18 kx18_1465 f (v3 + (6 : Int32)) δ_553 n18) else (some ((0 : Int32), δ_553, n18))))))) else none))))) else none) else (if (((gI δ18 0 (ix v3)) &&& (63 : Int32))).toInt = (11 : Int) then (if 0 ≤ ((v3 + (1 : Int32))).toInt ∧ ((v3 + (1 : Int32))).toInt < (gI δ18 1 0).toInt then (if 0 ≤ ((v3 + (2 : Int32))).toInt ∧ ((v3 + (2 : Int32))).toInt < (gI δ18 1 0).toInt then ((f_Fp_change (gI δ18 0 (ix (v3 + (1 : Int32)))) (gI δ18 0 (ix (v3 + (2 : Int32)))) δ18).bind (fun y572 => bnd y572.1 (fun v572 => bnd y572.2 (fun δ_572 => (if 0 ≤ ((v3 + (1 : Int32))).toInt ∧ ((v3 + (1 : Int32))).toInt < (gI δ_572 1 0).toInt then (if 0 ≤ ((v3 + (2 : Int32))).toInt ∧ ((v3 + (2 : Int32))).toInt < (gI δ_572 1 0).toInt then ((f_Mo_change (gI δ_572 0 (ix (v3 + (1 : Int32)))) (gI δ_572 0 (ix (v3 + (2 : Int32)))) δ_572).bind (fun y586 => bnd y586.1 (fun v586 => bnd y586.2 (fun δ_586 => (if v572 = v586 then (lp_L_law_18 kx18_1465 f (v3 + (6 : Int32)) δ_586 n18) else (some ((0 : Int32), δ_586, n18))))))) else none) else none))))) else none) else none) else (if (((gI δ18 0 (ix v3)) &&& (63 : Int32))).toInt = (12 : Int) then (if 0 ≤ ((v3 + (1 : Int32))).toInt ∧ ((v3 + (1 : Int32))).toInt < (gI δ18 1 0).toInt then ((f_Fp_empty (gI δ18 0 (ix (v3 + (1 : Int32)))) δ18).bind (fun y600 => bnd y600.1 (fun v600 => bnd y600.2 (fun δ_600 => (if 0 ≤ ((v3 + (1 : Int32))).toInt ∧ ((v3 + (1 : Int32))).toInt < (gI δ_600 1 0).toInt then ((f_Mo_empty (gI δ_600 0 (ix (v3 + (1 : Int32)))) δ_600).bind (fun y609 => bnd y609.1 (fun v609 => bnd y609.2 (fun δ_609 => (if v600 = v609 then (lp_L_law_18 kx18_1465 f (v3 + (6 : Int32)) δ_609 n18) else (some ((0 : Int32), δ_609, n18))))))) else none))))) else none) else (if (((gI δ18 0 (ix v3)) &&& (63 : Int32))).toInt = (13 : Int) then (if 0 ≤ ((v3 + (1 : Int32))).toInt ∧ ((v3 + (1 : Int32))).toInt < (gI δ18 1 0).toInt then (if 0 ≤ ((v3 + (2 : Int32))).toInt ∧ ((v3 + (2 : Int32))).toInt < (gI δ18 1 0).toInt then ((f_Fp_of (gI δ18 0 (ix (v3 + (1 : Int32)))) (gI δ18 0 (ix (v3 + (2 : Int32)))) δ18).bind (fun y628 => (if 0 ≤ ((v3 + (1 : Int32))).toInt ∧ ((v3 + (1 : Int32))).toInt < (gI δ18 1 0).toInt then (if 0 ≤ ((v3 + (2 : Int32))).toInt ∧ ((v3 + (2 : Int32))).toInt < (gI δ18 1 0).toInt then ((f_Mo_of (gI δ18 0 (ix (v3 + (1 : Int32)))) (gI δ18 0 (ix (v3 + (2 : Int32)))) δ18).bind (fun y642 => (if y628 = y642 then (lp_L_law_18 kx18_1465 f (v3 + (6 : Int32)) δ18 n18) else (some ((0 : Int32), δ18, n18))))) else none) else none))) else none) else none) else (if (((gI δ18 0 (ix v3)) &&& (63 : Int32))).toInt = (14 : Int) then (if 0 ≤ ((v3 + (1 : Int32))).toInt ∧ ((v3 + (1 : Int32))).toInt < (gI δ18 1 0).toInt then (if 0 ≤ ((v3 + (2 : Int32))).toInt ∧ ((v3 + (2 : Int32))).toInt < (gI δ18 1 0).toInt then ((f_Fp_spoilt (gI δ18 0 (ix (v3 + (1 : Int32)))) (gI δ18 0 (ix (v3 + (2 : Int32)))) δ18).bind (fun y661 => (if 0 ≤ ((v3 + (1 : Int32))).toInt ∧ ((v3 + (1 : Int32))).toInt < (gI δ18 1 0).toInt then (if 0 ≤ ((v3 + (2 : Int32))).toInt ∧ ((v3 + (2 : Int32))).toInt < (gI δ18 1 0).toInt then ((f_Mo_spoilt (gI δ18 0 (ix (v3 + (1 : Int32)))) (gI δ18 0 (ix (v3 + (2 : Int32)))) δ18).bind (fun y675 => (if y661 = y675 then (lp_L_law_18 kx18_1465 f (v3 + (6 : Int32)) δ18 n18) else (some ((0 : Int32), δ18, n18))))) else none) else none))) else none) else none) else (if (((gI δ18 0 (ix v3)) &&& (63 : Int32))).toInt = (15 : Int) then (if 0 ≤ ((v3 + (1 : Int32))).toInt ∧ ((v3 + (1 : Int32))).toInt < (gI δ18 1 0).toInt then (if 0 ≤ ((v3 + (2 : Int32))).toInt ∧ ((v3 + (2 : Int32))).toInt < (gI δ18 1 0).toInt then (if 0 ≤ ((v3 + (3 : Int32))).toInt ∧ ((v3 + (3 : Int32))).toInt < (gI δ18 1 0).toInt then ((f_Fp_again (gI δ18 0 (ix (v3 + (1 : Int32)))) (gI δ18 0 (ix (v3 + (2 : Int32)))) (gI δ18 0 (ix (v3 + (3 : Int32)))) δ18).bind (fun y699 => bnd y699.1 (fun v699 => bnd y699.2 (fun δ_699 => (if 0 ≤ ((v3 + (1 : Int32))).toInt ∧ ((v3 + (1 : Int32))).toInt < (gI δ_699 1 0).toInt then (if 0 ≤ ((v3 + (2 : Int32))).toInt ∧ ((v3 + (2 : Int32))).toInt < (gI δ_699 1 0).toInt then (if 0 ≤ ((v3 + (3 : Int32))).toInt ∧ ((v3 + (3 : Int32))).toInt < (gI δ_699 1 0).toInt then ((f_Mo_again (gI δ_699 0 (ix (v3 + (1 : Int32)))) (gI δ_699 0 (ix (v3 + (2 : Int32)))) (gI δ_699 0 (ix (v3 + (3 : Int32)))) δ_699).bind (fun y718 => bnd y718.1 (fun v718 => bnd y718.2 (fun δ_718 => (if v699 = v718 then (lp_L_law_18 kx18_1465 f (v3 + (6 : Int32)) δ_718 n18) else (some ((0 : Int32), δ_718, n18))))))) else none) else none) else none))))) else none) else none) else none) else (if (((gI δ18 0 (ix v3)) &&& (63 : Int32))).toInt = (16 : Int) then (if 0 ≤ ((v3 + (1 : Int32))).toInt ∧ ((v3 + (1 : Int32))).toInt < (gI δ18 1 0).toInt then (if 0 ≤ ((v3 + (2 : Int32))).toInt ∧ ((v3 + (2 : Int32))).toInt < (gI δ18 1 0).toInt then (if 0 ≤ ((v3 + (3 : Int32))).toInt ∧ ((v3 + (3 : Int32))).toInt < (gI δ18 1 0).toInt then ((f_Fp_with (gI δ18 0 (ix (v3 + (1 : Int32)))) (gI δ18 0 (ix (v3 + (2 : Int32)))) (gI δ18 0 (ix (v3 + (3 : Int32)))) δ18).bind (fun y742 => bnd y742.1 (fun v742 => bnd y742.2 (fun δ_742 => (if 0 ≤ ((v3 + (1 : Int32))).toInt ∧ ((v3 + (1 : Int32))).toInt < (gI δ_742 1 0).toInt then (if 0 ≤ ((v3 + (2 : Int32))).toInt ∧ ((v3 + (2 : Int32))).toInt < (gI δ_742 1 0).toInt then (if 0 ≤ ((v3 + (3 : Int32))).toInt ∧ ((v3 + (3 : Int32))).toInt < (gI δ_742 1 0).toInt then ((f_Mo_with (gI δ_742 0 (ix (v3 + (1 : Int32)))) (gI δ_742 0 (ix (v3 + (2 : Int32)))) (gI δ_742 0 (ix (v3 + (3 : Int32)))) δ_742).bind (fun y761 => bnd y761.1 (fun v761 => bnd y761.2 (fun δ_761 => (if v742 = v761 then (lp_L_law_18 kx18_1465 f (v3 + (6 : Int32)) δ_761 n18) else (some ((0 : Int32), δ_761, n18))))))) else none) else none) else none))))) else none) else none) else none) else (if (((gI δ18 0 (ix v3)) &&& (63 : Int32))).toInt = (17 : Int) then (if 0 ≤ ((v3 + (1 : Int32))).toInt ∧ ((v3 + (1 : Int32))).toInt < (gI δ18 1 0).toInt then (if 0 ≤ ((v3 + (2 : Int32))).toInt ∧ ((v3 + (2 : Int32))).toInt < (gI δ18 1 0).toInt then ((f_Fp_finest (gI δ18 0 (ix (v3 + (1 : Int32)))) (gI δ18 0 (ix (v3 + (2 : Int32)))) δ18).bind (fun y780 => bnd y780.1 (fun v780 => bnd y780.2 (fun δ_780 => (if 0 ≤ ((v3 + (1 : Int32))).toInt ∧ ((v3 + (1 : Int32))).toInt < (gI δ_780 1 0).toInt then (if 0 ≤ ((v3 + (2 : Int32))).toInt ∧ ((v3 + (2 : Int32))).toInt < (gI δ_780 1 0).toInt then ((f_Mo_finest (gI δ_780 0 (ix (v3 + (1 : Int32)))) (gI δ_780 0 (ix (v3 + (2 : Int32)))) δ_780).bind (fun y794 => bnd y794.1 (fun v794 => bnd y794.2 (fun δ_794 => (if v780 = v794 then (lp_L_law_18 kx18_1465 f (v3 + (6 : Int32)) δ_794 n18) else (some ((0 : Int32), δ_794, n18))))))) else none) else none))))) else none) else none) else (if (((gI δ18 0 (ix v3)) &&& (63 : Int32))).toInt = (18 : Int) then (if 0 ≤ ((v3 + (1 : Int32))).toInt ∧ ((v3 + (1 : Int32))).toInt < (gI δ18 1 0).toInt then (if 0 ≤ ((v3 + (2 : Int32))).toInt ∧ ((v3 + (2 : Int32))).toInt < (gI δ18 1 0).toInt then (if 0 ≤ ((v3 + (3 : Int32))).toInt ∧ ((v3 + (3 : Int32))).toInt < (gI δ18 1 0).toInt then (if 0 ≤ ((v3 + (4 : Int32))).toInt ∧ ((v3 + (4 : Int32))).toInt < (gI δ18 1 0).toInt then ((f_Fp_reading (gI δ18 0 (ix (v3 + (1 : Int32)))) (gI δ18 0 (ix (v3 + (2 : Int32)))) (gI δ18 0 (ix (v3 + (3 : Int32)))) (gI δ18 0 (ix (v3 + (4 : Int32)))) δ18).bind (fun y823 => bnd y823.1 (fun v823 => bnd y823.2 (fun δ_823 => (if 0 ≤ ((v3 + (1 : Int32))).toInt ∧ ((v3 + (1 : Int32))).toInt < (gI δ_823 1 0).toInt then (if 0 ≤ ((v3 + (2 : Int32))).toInt ∧ ((v3 + (2 : Int32))).toInt < (gI δ_823 1 0).toInt then (if 0 ≤ ((v3 + (3 : Int32))).toInt ∧ ((v3 + (3 : Int32))).toInt < (gI δ_823 1 0).toInt then (if 0 ≤ ((v3 + (4 : Int32))).toInt ∧ ((v3 + (4 : Int32))).toInt < (gI δ_823 1 0).toInt then ((f_Mo_reading (gI δ_823 0 (ix (v3 + (1 : Int32)))) (gI δ_823 0 (ix (v3 + (2 : Int32)))) (gI δ_823 0 (ix (v3 + (3 : Int32)))) (gI δ_823 0 (ix (v3 + (4 : Int32)))) δ_823).bind (fun y847 => bnd y847.1 (fun v847 => bnd y847.2 (fun δ_847 => (if v823 = v847 then (lp_L_law_18 kx18_1465 f (v3 + (6 : Int32)) δ_847 n18) else (some ((0 : Int32), δ_847, n18))))))) else none) else none) else none) else none))))) else none) else none) else none) else none) else (if (((gI δ18 0 (ix v3)) &&& (63 : Int32))).toInt = (19 : Int) then (if 0 ≤ ((v3 + (1 : Int32))).toInt ∧ ((v3 + (1 : Int32))).toInt < (gI δ18 1 0).toInt then (if 0 ≤ ((v3 + (2 : Int32))).toInt ∧ ((v3 + (2 : Int32))).toInt < (gI δ18 1 0).toInt then (if 0 ≤ ((v3 + (3 : Int32))).toInt ∧ ((v3 + (3 : Int32))).toInt < (gI δ18 1 0).toInt then ((f_Fp_agree (gI δ18 0 (ix (v3 + (1 : Int32)))) (gI δ18 0 (ix (v3 + (2 : Int32)))) (gI δ18 0 (ix (v3 + (3 : Int32)))) δ18).bind (fun y871 => (if 0 ≤ ((v3 + (1 : Int32))).toInt ∧ ((v3 + (1 : Int32))).toInt < (gI δ18 1 0).toInt then (if 0 ≤ ((v3 + (2 : Int32))).toInt ∧ ((v3 + (2 : Int32))).toInt < (gI δ18 1 0).toInt then (if 0 ≤ ((v3 + (3 : Int32))).toInt ∧ ((v3 + (3 : Int32))).toInt < (gI δ18 1 0).toInt then ((f_Mo_agree (gI δ18 0 (ix (v3 + (1 : Int32)))) (gI δ18 0 (ix (v3 + (2 : Int32)))) (gI δ18 0 (ix (v3 + (3 : Int32)))) δ18).bind (fun y890 => (if y871 = y890 then (lp_L_law_18 kx18_1465 f (v3 + (6 : Int32)) δ18 n18) else (some ((0 : Int32), δ18, n18))))) else none) else none) else none))) else none) else none) else none) else (if (((gI δ18 0 (ix v3)) &&& (63 : Int32))).toInt = (20 : Int) then (if 0 ≤ ((v3 + (1 : Int32))).toInt ∧ ((v3 + (1 : Int32))).toInt < (gI δ18 1 0).toInt then (if 0 ≤ ((v3 + (2 : Int32))).toInt ∧ ((v3 + (2 : Int32))).toInt < (gI δ18 1 0).toInt then (if 0 ≤ ((v3 + (3 : Int32))).toInt ∧ ((v3 + (3 : Int32))).toInt < (gI δ18 1 0).toInt then ((f_Fp_claim (gI δ18 0 (ix (v3 + (1 : Int32)))) (gI δ18 0 (ix (v3 + (2 : Int32)))) (gI δ18 0 (ix (v3 + (3 : Int32)))) δ18).bind (fun y914 => bnd y914.1 (fun v914 => bnd y914.2 (fun δ_914 => (if 0 ≤ ((v3 + (1 : Int32))).toInt ∧ ((v3 + (1 : Int32))).toInt < (gI δ_914 1 0).toInt then (if 0 ≤ ((v3 + (2 : Int32))).toInt ∧ ((v3 + (2 : Int32))).toInt < (gI δ_914 1 0).toInt then (if 0 ≤ ((v3 + (3 : Int32))).toInt ∧ ((v3 + (3 : Int32))).toInt < (gI δ_914 1 0).toInt then ((f_Mo_claim (gI δ_914 0 (ix (v3 + (1 : Int32)))) (gI δ_914 0 (ix (v3 + (2 : Int32)))) (gI δ_914 0 (ix (v3 + (3 : Int32)))) δ_914).bind (fun y933 => bnd y933.1 (fun v933 => bnd y933.2 (fun δ_933 => (if v914 = v933 then (lp_L_law_18 kx18_1465 f (v3 + (6 : Int32)) δ_933 n18) else (some ((0 : Int32), δ_933, n18))))))) else none) else none) else none))))) else none) else none) else none) else (if (((gI δ18 0 (ix v3)) &&& (63 : Int32))).toInt = (21 : Int) then (if 0 ≤ ((v3 + (1 : Int32))).toInt ∧ ((v3 + (1 : Int32))).toInt < (gI δ18 1 0).toInt then (if 0 ≤ ((v3 + (2 : Int32))).toInt ∧ ((v3 + (2 : Int32))).toInt < (gI δ18 1 0).toInt then ((f_Fp_fair (gI δ18 0 (ix (v3 + (1 : Int32)))) (gI δ18 0 (ix (v3 + (2 : Int32)))) δ18).bind (fun y952 => bnd y952.1 (fun v952 => bnd y952.2 (fun δ_952 => (if 0 ≤ ((v3 + (1 : Int32))).toInt ∧ ((v3 + (1 : Int32))).toInt < (gI δ_952 1 0).toInt then (if 0 ≤ ((v3 + (2 : Int32))).toInt ∧ ((v3 + (2 : Int32))).toInt < (gI δ_952 1 0).toInt then ((f_Mo_fair (gI δ_952 0 (ix (v3 + (1 : Int32)))) (gI δ_952 0 (ix (v3 + (2 : Int32)))) δ_952).bind (fun y966 => bnd y966.1 (fun v966 => bnd y966.2 (fun δ_966 => (if v952 = v966 then (lp_L_law_18 kx18_1465 f (v3 + (6 : Int32)) δ_966 n18) else (some ((0 : Int32), δ_966, n18))))))) else none) else none))))) else none) else none) else (if (((gI δ18 0 (ix v3)) &&& (63 : Int32))).toInt = (22 : Int) then (if 0 ≤ ((v3 + (1 : Int32))).toInt ∧ ((v3 + (1 : Int32))).toInt < (gI δ18 1 0).toInt then ((f_Fp_suspect (gI δ18 0 (ix (v3 + (1 : Int32)))) δ18).bind (fun y980 => (if 0 ≤ ((v3 + (1 : Int32))).toInt ∧ ((v3 + (1 : Int32))).toInt < (gI δ18 1 0).toInt then ((f_Mo_suspect (gI δ18 0 (ix (v3 + (1 : Int32)))) δ18).bind (fun y989 => (if y980 = y989 then (lp_L_law_18 kx18_1465 f (v3 + (6 : Int32)) δ18 n18) else (some ((0 : Int32), δ18, n18))))) else none))) else none) else (if (((gI δ18 0 (ix v3)) &&& (63 : Int32))).toInt = (23 : Int) then (if 0 ≤ ((v3 + (1 : Int32))).toInt ∧ ((v3 + (1 : Int32))).toInt < (gI δ18 1 0).toInt then (if 0 ≤ ((v3 + (2 : Int32))).toInt ∧ ((v3 + (2 : Int32))).toInt < (gI δ18 1 0).toInt then ((f_Fp_refused (gI δ18 0 (ix (v3 + (1 : Int32)))) (gI δ18 0 (ix (v3 + (2 : Int32)))) δ18).bind (fun y1008 => bnd y1008.1 (fun v1008 => bnd y1008.2 (fun δ_1008 => (if 0 ≤ ((v3 + (1 : Int32))).toInt ∧ ((v3 + (1 : Int32))).toInt < (gI δ_1008 1 0).toInt then (if 0 ≤ ((v3 + (2 : Int32))).toInt ∧ ((v3 + (2 : Int32))).toInt < (gI δ_1008 1 0).toInt then ((f_Mo_refused (gI δ_1008 0 (ix (v3 + (1 : Int32)))) (gI δ_1008 0 (ix (v3 + (2 : Int32)))) δ_1008).bind (fun y1022 => bnd y1022.1 (fun v1022 => bnd y1022.2 (fun δ_1022 => (if v1008 = v1022 then (lp_L_law_18 kx18_1465 f (v3 + (6 : Int32)) δ_1022 n18) else (some ((0 : Int32), δ_1022, n18))))))) else none) else none))))) else none) else none) else (if (((gI δ18 0 (ix v3)) &&& (63 : Int32))).toInt = (24 : Int) then (if 0 ≤ ((v3 + (1 : Int32))).toInt ∧ ((v3 + (1 : Int32))).toInt < (gI δ18 1 0).toInt then (if 0 ≤ ((v3 + (2 : Int32))).toInt ∧ ((v3 + (2 : Int32))).toInt < (gI δ18 1 0).toInt then ((f_Fp_newer (gI δ18 0 (ix (v3 + (1 : Int32)))) (gI δ18 0 (ix (v3 + (2 : Int32)))) δ18).bind (fun y1041 => bnd y1041.1 (fun v1041 => bnd y1041.2 (fun δ_1041 => (if 0 ≤ ((v3 + (1 : Int32))).toInt ∧ ((v3 + (1 : Int32))).toInt < (gI δ_1041 1 0).toInt then (if 0 ≤ ((v3 + (2 : Int32))).toInt ∧ ((v3 + (2 : Int32))).toInt < (gI δ_1041 1 0).toInt then ((f_Mo_newer (gI δ_1041 0 (ix (v3 + (1 : Int32)))) (gI δ_1041 0 (ix (v3 + (2 : Int32)))) δ_1041).bind (fun y1055 => bnd y1055.1 (fun v1055 => bnd y1055.2 (fun δ_1055 => (if v1041 = v1055 then (lp_L_law_18 kx18_1465 f (v3 + (6 : Int32)) δ_1055 n18) else (some ((0 : Int32), δ_1055, n18))))))) else none) else none))))) else none) else none) else (if (((gI δ18 0 (ix v3)) &&& (63 : Int32))).toInt = (25 : Int) then (if 0 ≤ ((v3 + (1 : Int32))).toInt ∧ ((v3 + (1 : Int32))).toInt < (gI δ18 1 0).toInt then (if 0 ≤ ((v3 + (2 : Int32))).toInt ∧ ((v3 + (2 : Int32))).toInt < (gI δ18 1 0).toInt then (if 0 ≤ ((v3 + (3 : Int32))).toInt ∧ ((v3 + (3 : Int32))).toInt < (gI δ18 1 0).toInt then (if 0 ≤ ((v3 + (4 : Int32))).toInt ∧ ((v3 + (4 : Int32))).toInt < (gI δ18 1 0).toInt then ((f_Fp_rent (gI δ18 0 (ix (v3 + (1 : Int32)))) (gI δ18 0 (ix (v3 + (2 : Int32)))) (gI δ18 0 (ix (v3 + (3 : Int32)))) (gI δ18 0 (ix (v3 + (4 : Int32)))) δ18).bind (fun y1084 => bnd y1084.1 (fun v1084 => bnd y1084.2 (fun δ_1084 => (if 0 ≤ ((v3 + (1 : Int32))).toInt ∧ ((v3 + (1 : Int32))).toInt < (gI δ_1084 1 0).toInt then (if 0 ≤ ((v3 + (2 : Int32))).toInt ∧ ((v3 + (2 : Int32))).toInt < (gI δ_1084 1 0).toInt then (if 0 ≤ ((v3 + (3 : Int32))).toInt ∧ ((v3 + (3 : Int32))).toInt < (gI δ_1084 1 0).toInt then (if 0 ≤ ((v3 + (4 : Int32))).toInt ∧ ((v3 + (4 : Int32))).toInt < (gI δ_1084 1 0).toInt then ((f_Mo_rent (gI δ_1084 0 (ix (v3 + (1 : Int32)))) (gI δ_1084 0 (ix (v3 + (2 : Int32)))) (gI δ_1084 0 (ix (v3 + (3 : Int32)))) (gI δ_1084 0 (ix (v3 + (4 : Int32)))) δ_1084).bind (fun y1108 => bnd y1108.1 (fun v1108 => bnd y1108.2 (fun δ_1108 => (if v1084 = v1108 then (lp_L_law_18 kx18_1465 f (v3 + (6 : Int32)) δ_1108 n18) else (some ((0 : Int32), δ_1108, n18))))))) else none) else none) else none) else none))))) else none) else none) else none) else none) else (if (((gI δ18 0 (ix v3)) &&& (63 : Int32))).toInt = (26 : Int) then (if 0 ≤ ((v3 + (1 : Int32))).toInt ∧ ((v3 + (1 : Int32))).toInt < (gI δ18 1 0).toInt then (if 0 ≤ ((v3 + (2 : Int32))).toInt ∧ ((v3 + (2 : Int32))).toInt < (gI δ18 1 0).toInt then (if 0 ≤ ((v3 + (3 : Int32))).toInt ∧ ((v3 + (3 : Int32))).toInt < (gI δ18 1 0).toInt then ((f_Fp_cheapest (gI δ18 0 (ix (v3 + (1 : Int32)))) (gI δ18 0 (ix (v3 + (2 : Int32)))) (gI δ18 0 (ix (v3 + (3 : Int32)))) δ18).bind (fun y1132 => bnd y1132.1 (fun v1132 => bnd y1132.2 (fun δ_1132 => (if 0 ≤ ((v3 + (1 : Int32))).toInt ∧ ((v3 + (1 : Int32))).toInt < (gI δ_1132 1 0).toInt then (if 0 ≤ ((v3 + (2 : Int32))).toInt ∧ ((v3 + (2 : Int32))).toInt < (gI δ_1132 1 0).toInt then (if 0 ≤ ((v3 + (3 : Int32))).toInt ∧ ((v3 + (3 : Int32))).toInt < (gI δ_1132 1 0).toInt then ((f_Mo_cheapest (gI δ_1132 0 (ix (v3 + (1 : Int32)))) (gI δ_1132 0 (ix (v3 + (2 : Int32)))) (gI δ_1132 0 (ix (v3 + (3 : Int32)))) δ_1132).bind (fun y1151 => bnd y1151.1 (fun v1151 => bnd y1151.2 (fun δ_1151 => (if v1132 = v1151 then (lp_L_law_18 kx18_1465 f (v3 + (6 : Int32)) δ_1151 n18) else (some ((0 : Int32), δ_1151, n18))))))) else none) else none) else none))))) else none) else none) else none) else (if (((gI δ18 0 (ix v3)) &&& (63 : Int32))).toInt = (27 : Int) then (if 0 ≤ ((v3 + (1 : Int32))).toInt ∧ ((v3 + (1 : Int32))).toInt < (gI δ18 1 0).toInt then (if 0 ≤ ((v3 + (2 : Int32))).toInt ∧ ((v3 + (2 : Int32))).toInt < (gI δ18 1 0).toInt then (if 0 ≤ ((v3 + (3 : Int32))).toInt ∧ ((v3 + (3 : Int32))).toInt < (gI δ18 1 0).toInt then ((f_Fp_round (gI δ18 0 (ix (v3 + (1 : Int32)))) (gI δ18 0 (ix (v3 + (2 : Int32)))) (gI δ18 0 (ix (v3 + (3 : Int32)))) δ18).bind (fun y1175 => bnd y1175.1 (fun v1175 => bnd y1175.2 (fun δ_1175 => (if 0 ≤ ((v3 + (1 : Int32))).toInt ∧ ((v3 + (1 : Int32))).toInt < (gI δ_1175 1 0).toInt then (if 0 ≤ ((v3 + (2 : Int32))).toInt ∧ ((v3 + (2 : Int32))).toInt < (gI δ_1175 1 0).toInt then (if 0 ≤ ((v3 + (3 : Int32))).toInt ∧ ((v3 + (3 : Int32))).toInt < (gI δ_1175 1 0).toInt then ((f_Mo_round (gI δ_1175 0 (ix (v3 + (1 : Int32)))) (gI δ_1175 0 (ix (v3 + (2 : Int32)))) (gI δ_1175 0 (ix (v3 + (3 : Int32)))) δ_1175).bind (fun y1194 => bnd y1194.1 (fun v1194 => bnd y1194.2 (fun δ_1194 => (if v1175 = v1194 then (lp_L_law_18 kx18_1465 f (v3 + (6 : Int32)) δ_1194 n18) else (some ((0 : Int32), δ_1194, n18))))))) else none) else none) else none))))) else none) else none) else none) else (if (((gI δ18 0 (ix v3)) &&& (63 : Int32))).toInt = (28 : Int) then (if 0 ≤ ((v3 + (1 : Int32))).toInt ∧ ((v3 + (1 : Int32))).toInt < (gI δ18 1 0).toInt then (if 0 ≤ ((v3 + (2 : Int32))).toInt ∧ ((v3 + (2 : Int32))).toInt < (gI δ18 1 0).toInt then ((f_Fp_call (gI δ18 0 (ix (v3 + (1 : Int32)))) (gI δ18 0 (ix (v3 + (2 : Int32)))) δ18).bind (fun y1213 => bnd y1213.1 (fun v1213 => bnd y1213.2 (fun δ_1213 => (if 0 ≤ ((v3 + (1 : Int32))).toInt ∧ ((v3 + (1 : Int32))).toInt < (gI δ_1213 1 0).toInt then (if 0 ≤ ((v3 + (2 : Int32))).toInt ∧ ((v3 + (2 : Int32))).toInt < (gI δ_1213 1 0).toInt then ((f_Mo_call (gI δ_1213 0 (ix (v3 + (1 : Int32)))) (gI δ_1213 0 (ix (v3 + (2 : Int32)))) δ_1213).bind (fun y1227 => bnd y1227.1 (fun v1227 => bnd y1227.2 (fun δ_1227 => (if v1213 = v1227 then (lp_L_law_18 kx18_1465 f (v3 + (6 : Int32)) δ_1227 n18) else (some ((0 : Int32), δ_1227, n18))))))) else none) else none))))) else none) else none) else (if (((gI δ18 0 (ix v3)) &&& (63 : Int32))).toInt = (29 : Int) then (if 0 ≤ ((v3 + (1 : Int32))).toInt ∧ ((v3 + (1 : Int32))).toInt < (gI δ18 1 0).toInt then (if 0 ≤ ((v3 + (2 : Int32))).toInt ∧ ((v3 + (2 : Int32))).toInt < (gI δ18 1 0).toInt then (if 0 ≤ ((v3 + (3 : Int32))).toInt ∧ ((v3 + (3 : Int32))).toInt < (gI δ18 1 0).toInt then ((f_Fp_worthy (gI δ18 0 (ix (v3 + (1 : Int32)))) (gI δ18 0 (ix (v3 + (2 : Int32)))) (gI δ18 0 (ix (v3 + (3 : Int32)))) δ18).bind (fun y1251 => bnd y1251.1 (fun v1251 => bnd y1251.2 (fun δ_1251 => (if 0 ≤ ((v3 + (1 : Int32))).toInt ∧ ((v3 + (1 : Int32))).toInt < (gI δ_1251 1 0).toInt then (if 0 ≤ ((v3 + (2 : Int32))).toInt ∧ ((v3 + (2 : Int32))).toInt < (gI δ_1251 1 0).toInt then (if 0 ≤ ((v3 + (3 : Int32))).toInt ∧ ((v3 + (3 : Int32))).toInt < (gI δ_1251 1 0).toInt then ((f_Mo_worthy (gI δ_1251 0 (ix (v3 + (1 : Int32)))) (gI δ_1251 0 (ix (v3 + (2 : Int32)))) (gI δ_1251 0 (ix (v3 + (3 : Int32)))) δ_1251).bind (fun y1270 => bnd y1270.1 (fun v1270 => bnd y1270.2 (fun δ_1270 => (if v1251 = v1270 then (lp_L_law_18 kx18_1465 f (v3 + (6 : Int32)) δ_1270 n18) else (some ((0 : Int32), δ_1270, n18))))))) else none) else none) else none))))) else none) else none) else none) else (if (((gI δ18 0 (ix v3)) &&& (63 : Int32))).toInt = (30 : Int) then (if 0 ≤ ((v3 + (1 : Int32))).toInt ∧ ((v3 + (1 : Int32))).toInt < (gI δ18 1 0).toInt then (if 0 ≤ ((v3 + (2 : Int32))).toInt ∧ ((v3 + (2 : Int32))).toInt < (gI δ18 1 0).toInt then (if 0 ≤ ((v3 + (3 : Int32))).toInt ∧ ((v3 + (3 : Int32))).toInt < (gI δ18 1 0).toInt then (if 0 ≤ ((v3 + (4 : Int32))).toInt ∧ ((v3 + (4 : Int32))).toInt < (gI δ18 1 0).toInt then ((f_Fp_takes (gI δ18 0 (ix (v3 + (1 : Int32)))) (gI δ18 0 (ix (v3 + (2 : Int32)))) (gI δ18 0 (ix (v3 + (3 : Int32)))) (gI δ18 0 (ix (v3 + (4 : Int32)))) δ18).bind (fun y1299 => bnd y1299.1 (fun v1299 => bnd y1299.2 (fun δ_1299 => (if 0 ≤ ((v3 + (1 : Int32))).toInt ∧ ((v3 + (1 : Int32))).toInt < (gI δ_1299 1 0).toInt then (if 0 ≤ ((v3 + (2 : Int32))).toInt ∧ ((v3 + (2 : Int32))).toInt < (gI δ_1299 1 0).toInt then (if 0 ≤ ((v3 + (3 : Int32))).toInt ∧ ((v3 + (3 : Int32))).toInt < (gI δ_1299 1 0).toInt then (if 0 ≤ ((v3 + (4 : Int32))).toInt ∧ ((v3 + (4 : Int32))).toInt < (gI δ_1299 1 0).toInt then ((f_Mo_takes (gI δ_1299 0 (ix (v3 + (1 : Int32)))) (gI δ_1299 0 (ix (v3 + (2 : Int32)))) (gI δ_1299 0 (ix (v3 + (3 : Int32)))) (gI δ_1299 0 (ix (v3 + (4 : Int32)))) δ_1299).bind (fun y1323 => bnd y1323.1 (fun v1323 => bnd y1323.2 (fun δ_1323 => (if v1299 = v1323 then (lp_L_law_18 kx18_1465 f (v3 + (6 : Int32)) δ_1323 n18) else (some ((0 : Int32), δ_1323, n18))))))) else none) else none) else none) else none))))) else none) else none) else none) else none) else (if (((gI δ18 0 (ix v3)) &&& (63 : Int32))).toInt = (31 : Int) then (if 0 ≤ ((v3 + (1 : Int32))).toInt ∧ ((v3 + (1 : Int32))).toInt < (gI δ18 1 0).toInt then (if (gI δ18 0 (ix (v3 + (1 : Int32)))) = 0 then (if 0 ≤ ((v3 + (2 : Int32))).toInt ∧ ((v3 + (2 : Int32))).toInt < (gI δ18 1 0).toInt then (if 0 ≤ ((v3 + (3 : Int32))).toInt ∧ ((v3 + (3 : Int32))).toInt < (gI δ18 1 0).toInt then ((f_Fp_placed (0 : Int32) (gI δ18 0 (ix (v3 + (2 : Int32)))) (gI δ18 0 (ix (v3 + (3 : Int32)))) δ18).bind (fun y1355 => bnd y1355.1 (fun v1355 => bnd y1355.2 (fun δ_1355 => (if 0 ≤ ((v3 + (1 : Int32))).toInt ∧ ((v3 + (1 : Int32))).toInt < (gI δ_1355 1 0).toInt then (if (gI δ_1355 0 (ix (v3 + (1 : Int32)))) = 0 then (if 0 ≤ ((v3 + (2 : Int32))).toInt ∧ ((v3 + (2 : Int32))).toInt < (gI δ_1355 1 0).toInt then (if 0 ≤ ((v3 + (3 : Int32))).toInt ∧ ((v3 + (3 : Int32))).toInt < (gI δ_1355 1 0).toInt then ((f_Mo_placed (0 : Int32) (gI δ_1355 0 (ix (v3 + (2 : Int32)))) (gI δ_1355 0 (ix (v3 + (3 : Int32)))) δ_1355).bind (fun y1382 => bnd y1382.1 (fun v1382 => bnd y1382.2 (fun δ_1382 => (if v1355 = v1382 then (lp_L_law_18 kx18_1465 f (v3 + (6 : Int32)) δ_1382 n18) else (some ((0 : Int32), δ_1382, n18))))))) else none) else none) else (if 0 ≤ ((v3 + (2 : Int32))).toInt ∧ ((v3 + (2 : Int32))).toInt < (gI δ_1355 1 0).toInt then (if 0 ≤ ((v3 + (3 : Int32))).toInt ∧ ((v3 + (3 : Int32))).toInt < (gI δ_1355 1 0).toInt then ((f_Mo_placed (1 : Int32) (gI δ_1355 0 (ix (v3 + (2 : Int32)))) (gI δ_1355 0 (ix (v3 + (3 : Int32)))) δ_1355).bind (fun y1382_1 => bnd y1382_1.1 (fun v1382_1 => bnd y1382_1.2 (fun δ_1382_1 => (if v1355 = v1382_1 then (lp_L_law_18 kx18_1465 f (v3 + (6 : Int32)) δ_1382_1 n18) else (some ((0 : Int32), δ_1382_1, n18))))))) else none) else none)) else none))))) else none) else none) else (if 0 ≤ ((v3 + (2 : Int32))).toInt ∧ ((v3 + (2 : Int32))).toInt < (gI δ18 1 0).toInt then (if 0 ≤ ((v3 + (3 : Int32))).toInt ∧ ((v3 + (3 : Int32))).toInt < (gI δ18 1 0).toInt then ((f_Fp_placed (1 : Int32) (gI δ18 0 (ix (v3 + (2 : Int32)))) (gI δ18 0 (ix (v3 + (3 : Int32)))) δ18).bind (fun y1355_1 => bnd y1355_1.1 (fun v1355_1 => bnd y1355_1.2 (fun δ_1355_1 => (if 0 ≤ ((v3 + (1 : Int32))).toInt ∧ ((v3 + (1 : Int32))).toInt < (gI δ_1355_1 1 0).toInt then (if (gI δ_1355_1 0 (ix (v3 + (1 : Int32)))) = 0 then (if 0 ≤ ((v3 + (2 : Int32))).toInt ∧ ((v3 + (2 : Int32))).toInt < (gI δ_1355_1 1 0).toInt then (if 0 ≤ ((v3 + (3 : Int32))).toInt ∧ ((v3 + (3 : Int32))).toInt < (gI δ_1355_1 1 0).toInt then ((f_Mo_placed (0 : Int32) (gI δ_1355_1 0 (ix (v3 + (2 : Int32)))) (gI δ_1355_1 0 (ix (v3 + (3 : Int32)))) δ_1355_1).bind (fun y1382_2 => bnd y1382_2.1 (fun v1382_2 => bnd y1382_2.2 (fun δ_1382_2 => (if v1355_1 = v1382_2 then (lp_L_law_18 kx18_1465 f (v3 + (6 : Int32)) δ_1382_2 n18) else (some ((0 : Int32), δ_1382_2, n18))))))) else none) else none) else (if 0 ≤ ((v3 + (2 : Int32))).toInt ∧ ((v3 + (2 : Int32))).toInt < (gI δ_1355_1 1 0).toInt then (if 0 ≤ ((v3 + (3 : Int32))).toInt ∧ ((v3 + (3 : Int32))).toInt < (gI δ_1355_1 1 0).toInt then ((f_Mo_placed (1 : Int32) (gI δ_1355_1 0 (ix (v3 + (2 : Int32)))) (gI δ_1355_1 0 (ix (v3 + (3 : Int32)))) δ_1355_1).bind (fun y1382_3 => bnd y1382_3.1 (fun v1382_3 => bnd y1382_3.2 (fun δ_1382_3 => (if v1355_1 = v1382_3 then (lp_L_law_18 kx18_1465 f (v3 + (6 : Int32)) δ_1382_3 n18) else (some ((0 : Int32), δ_1382_3, n18))))))) else none) else none)) else none))))) else none) else none)) else none) else (if (((gI δ18 0 (ix v3)) &&& (63 : Int32))).toInt = (32 : Int) then (if 0 ≤ ((v3 + (1 : Int32))).toInt ∧ ((v3 + (1 : Int32))).toInt < (gI δ18 1 0).toInt then ((f_Fp_count (gI δ18 0 (ix (v3 + (1 : Int32)))) δ18).bind (fun y1396 => (if 0 ≤ ((v3 + (1 : Int32))).toInt ∧ ((v3 + (1 : Int32))).toInt < (gI δ18 1 0).toInt then ((f_Mo_count (gI δ18 0 (ix (v3 + (1 : Int32)))) δ18).bind (fun y1405 => (if y1396 = y1405 then (lp_L_law_18 kx18_1465 f (v3 + (6 : Int32)) δ18 n18) else (some ((0 : Int32), δ18, n18))))) else none))) else none) else (if (((gI δ18 0 (ix v3)) &&& (63 : Int32))).toInt = (33 : Int) then (if 0 ≤ ((v3 + (1 : Int32))).toInt ∧ ((v3 + (1 : Int32))).toInt < (gI δ18 1 0).toInt then ((f_Fp_image (gI δ18 0 (ix (v3 + (1 : Int32)))) δ18 n18).bind (fun y1419 => bnd y1419.1 (fun v1419 => bnd y1419.2.1 (fun δ_1419 => bnd y1419.2.2 (fun n1419 => (if 0 ≤ ((v3 + (1 : Int32))).toInt ∧ ((v3 + (1 : Int32))).toInt < (gI δ_1419 1 0).toInt then ((f_Mo_image (gI δ_1419 0 (ix (v3 + (1 : Int32)))) δ_1419).bind (fun y1428 => bnd y1428.1 (fun v1428 => bnd y1428.2 (fun δ_1428 => (if v1419 = v1428 then (lp_L_law_18 kx18_1465 f (v3 + (6 : Int32)) δ_1428 n1419) else (some ((0 : Int32), δ_1428, n1419))))))) else none)))))) else none) else (if (((gI δ18 0 (ix v3)) &&& (63 : Int32))).toInt = (34 : Int) then (if 0 ≤ ((v3 + (1 : Int32))).toInt ∧ ((v3 + (1 : Int32))).toInt < (gI δ18 1 0).toInt then ((f_Fp_back (gI δ18 0 (ix (v3 + (1 : Int32)))) δ18).bind (fun y1442 => bnd y1442.1 (fun v1442 => bnd y1442.2 (fun δ_1442 => (if 0 ≤ ((v3 + (1 : Int32))).toInt ∧ ((v3 + (1 : Int32))).toInt < (gI δ_1442 1 0).toInt then ((f_Mo_back (gI δ_1442 0 (ix (v3 + (1 : Int32)))) δ_1442).bind (fun y1451 => bnd y1451.1 (fun v1451 => bnd y1451.2 (fun δ_1451 => (if v1442 = v1451 then (lp_L_law_18 kx18_1465 f (v3 + (6 : Int32)) δ_1451 n18) else (some ((0 : Int32), δ_1451, n18))))))) else none))))) else none) else (lp_L_law_18 kx18_1465 f (v3 + (6 : Int32)) δ18 n18)))))))))))))))))))))))))))))))))))) else none))
set_option maxHeartbeats 40000000 in
set_option maxRecDepth 100000 in
theorem tl_L_law_18 (kx18_1465 : Int32 → Dm → Nat → Option (Int32 × Dm × Nat)) (hkx18_1465 : ∀ (v3k : Int32) (δk : Dm) (nk nc ns : Nat), nc ≤ 600000 → ns ≤ 7302250 → AWo k_L_law 60 600000 7302250 1465 [(0, .ref 0), (1, .ref 4), (2, .ref 151), (3, .int v3k)] [] δk RT nk nc ns (Ki RT) (kx18_1465 v3k δk nk)) : ∀ (f : Nat) (v3 : Int32) (δ18 : Dm) (n18 nc ns : Nat), nc + 57 * f ≤ 600000 → ns + 7208 * f ≤ 7302250 → AWo k_L_law 60 600000 7302250 18 [(0, .ref 0), (1, .ref 4), (2, .ref 151), (3, .int v3)] [] δ18 RT n18 nc ns (Ki RT) (lp_L_law_18 kx18_1465 f v3 δ18 n18) := by
  intro f
  induction f with
  | zero => intro _ _ _ _ _ _ _; exact aw_none
  | succ f ih =>
    intro v3 δ18 n18 nc ns hnc hns
    rw [lp_L_law_18]
    refine aw_iload_n d_L_law_18 3 rfl ?_
    refine aw_aload_n d_L_law_19 0 rfl ?_
    refine aw_slen d_L_law_20 ?_
    refine aw_bipush d_L_law_21 kb_6 ?_
    refine aw_isub d_L_law_23 ?_
    refine aw_icmp_gt (tgt := 1465) d_L_law_24 rfl (fun q24 => ?_) (fun q24 => ?_)
    · refine aw_sub (lo' := [(0, .ref 0), (1, .ref 4), (2, .ref 151), (3, .int v3)]) [0, 1, 2, 3] rfl ?_
      exact hkx18_1465 _ _ _ _ _ (by omega) (by omega)
    · refine aw_aload_n d_L_law_27 0 rfl ?_
      refine aw_iload_n d_L_law_28 3 rfl ?_
      refine aw_sald d_L_law_29 ?_
      refine aw_bipush d_L_law_30 kb_63 ?_
      refine aw_iand d_L_law_32 ?_
      refine aw_ite (fun q33 => ?_) (fun q33_0 => ?_)
      · refine aw_tswitch (tgt := 188) d_L_law_33 q33 (by decide) (by decide) rfl rfl ?_
        refine aw_aload_n d_L_law_188 1 rfl ?_
        refine aw_aload_n d_L_law_189 0 rfl ?_
        refine aw_iload_n d_L_law_190 3 rfl ?_
        refine aw_iconst d_L_law_191 ki_1 ?_
        refine aw_iadd d_L_law_192 ?_
        refine aw_sald d_L_law_193 ?_
        refine aw_V_m (As := [.int (gI δ18 0 (ix (v3 + (1 : Int32))))]) (m_Fp_place) cv_L_13 kd_4 rfl rfl rfl (Nat.le_of_ble_eq_true rfl) ⟨Nat.le_of_ble_eq_true rfl, Nat.le_of_ble_eq_true rfl⟩ ⟨by omega, by omega⟩ d_L_law_194 (fun y194 => ?_)
        refine aw_bI (fun v194 => ?_)
        refine aw_bD (fun δ_194 => ?_)
        refine aw_aload_n d_L_law_197 2 rfl ?_
        refine aw_aload_n d_L_law_198 0 rfl ?_
        refine aw_iload_n d_L_law_199 3 rfl ?_
        refine aw_iconst d_L_law_200 ki_1 ?_
        refine aw_iadd d_L_law_201 ?_
        refine aw_sald d_L_law_202 ?_
        refine aw_V_m (As := [.int (gI δ_194 0 (ix (v3 + (1 : Int32))))]) (m_Mo_place) cv_L_17 kd_151 rfl rfl rfl (Nat.le_of_ble_eq_true rfl) ⟨Nat.le_of_ble_eq_true rfl, Nat.le_of_ble_eq_true rfl⟩ ⟨by omega, by omega⟩ d_L_law_203 (fun y203 => ?_)
        refine aw_bI (fun v203 => ?_)
        refine aw_bD (fun δ_203 => ?_)
        refine aw_icmp_eq (tgt := 1459) d_L_law_206 rfl (fun q206 => ?_) (fun q206 => ?_)
        · refine aw_iinc (v := (v3 + (6 : Int32))) (lo' := [(3, .int (v3 + (6 : Int32))), (0, .ref 0), (1, .ref 4), (2, .ref 151)]) d_L_law_1459 3 rfl (by rw [show Int32.ofInt (6) = (6 : Int32) from by decide]) (by decide) rfl ?_
          refine aw_goto (tgt := 18) d_L_law_1462 rfl ?_
          refine aw_sub (lo' := [(0, .ref 0), (1, .ref 4), (2, .ref 151), (3, .int (v3 + (6 : Int32)))]) [1, 2, 3, 0] rfl ?_
          exact ih _ _ _ _ _ (by omega) (by omega)
        · refine aw_iconst d_L_law_209 ki_0 ?_
          exact aw_zret rfl rfl rfl ⟨by omega, by omega⟩ d_L_law_210
      · refine aw_ite (fun q33 => ?_) (fun q33_1 => ?_)
        · refine aw_tswitch (tgt := 211) d_L_law_33 q33 (by decide) (by decide) rfl rfl ?_
          refine aw_aload_n d_L_law_211 1 rfl ?_
          refine aw_aload_n d_L_law_212 0 rfl ?_
          refine aw_iload_n d_L_law_213 3 rfl ?_
          refine aw_iconst d_L_law_214 ki_1 ?_
          refine aw_iadd d_L_law_215 ?_
          refine aw_sald d_L_law_216 ?_
          refine aw_aload_n d_L_law_217 0 rfl ?_
          refine aw_iload_n d_L_law_218 3 rfl ?_
          refine aw_iconst d_L_law_219 ki_2 ?_
          refine aw_iadd d_L_law_220 ?_
          refine aw_sald d_L_law_221 ?_
          refine aw_aload_n d_L_law_222 0 rfl ?_
          refine aw_iload_n d_L_law_223 3 rfl ?_
          refine aw_iconst d_L_law_224 ki_3 ?_
          refine aw_iadd d_L_law_225 ?_
          refine aw_sald d_L_law_226 ?_
          refine aw_V_m (As := [.int (gI δ18 0 (ix (v3 + (1 : Int32)))), .int (gI δ18 0 (ix (v3 + (2 : Int32)))), .int (gI δ18 0 (ix (v3 + (3 : Int32))))]) (m_Fp_miles) cv_L_18 kd_4 rfl rfl rfl (Nat.le_of_ble_eq_true rfl) ⟨Nat.le_of_ble_eq_true rfl, Nat.le_of_ble_eq_true rfl⟩ ⟨by omega, by omega⟩ d_L_law_227 (fun y227 => ?_)
          refine aw_bI (fun v227 => ?_)
          refine aw_bD (fun δ_227 => ?_)
          refine aw_aload_n d_L_law_230 2 rfl ?_
          refine aw_aload_n d_L_law_231 0 rfl ?_
          refine aw_iload_n d_L_law_232 3 rfl ?_
          refine aw_iconst d_L_law_233 ki_1 ?_
          refine aw_iadd d_L_law_234 ?_
          refine aw_sald d_L_law_235 ?_
          refine aw_aload_n d_L_law_236 0 rfl ?_
          refine aw_iload_n d_L_law_237 3 rfl ?_
          refine aw_iconst d_L_law_238 ki_2 ?_
          refine aw_iadd d_L_law_239 ?_
          refine aw_sald d_L_law_240 ?_
          refine aw_aload_n d_L_law_241 0 rfl ?_
          refine aw_iload_n d_L_law_242 3 rfl ?_
          refine aw_iconst d_L_law_243 ki_3 ?_
          refine aw_iadd d_L_law_244 ?_
          refine aw_sald d_L_law_245 ?_
          refine aw_V_m (As := [.int (gI δ_227 0 (ix (v3 + (1 : Int32)))), .int (gI δ_227 0 (ix (v3 + (2 : Int32)))), .int (gI δ_227 0 (ix (v3 + (3 : Int32))))]) (m_Mo_miles) cv_L_22 kd_151 rfl rfl rfl (Nat.le_of_ble_eq_true rfl) ⟨Nat.le_of_ble_eq_true rfl, Nat.le_of_ble_eq_true rfl⟩ ⟨by omega, by omega⟩ d_L_law_246 (fun y246 => ?_)
          refine aw_bI (fun v246 => ?_)
          refine aw_bD (fun δ_246 => ?_)
          refine aw_icmp_eq (tgt := 1459) d_L_law_249 rfl (fun q249 => ?_) (fun q249 => ?_)
          · refine aw_iinc (v := (v3 + (6 : Int32))) (lo' := [(3, .int (v3 + (6 : Int32))), (0, .ref 0), (1, .ref 4), (2, .ref 151)]) d_L_law_1459 3 rfl (by rw [show Int32.ofInt (6) = (6 : Int32) from by decide]) (by decide) rfl ?_
            refine aw_goto (tgt := 18) d_L_law_1462 rfl ?_
            refine aw_sub (lo' := [(0, .ref 0), (1, .ref 4), (2, .ref 151), (3, .int (v3 + (6 : Int32)))]) [1, 2, 3, 0] rfl ?_
            exact ih _ _ _ _ _ (by omega) (by omega)
          · refine aw_iconst d_L_law_252 ki_0 ?_
            exact aw_zret rfl rfl rfl ⟨by omega, by omega⟩ d_L_law_253
        · refine aw_ite (fun q33 => ?_) (fun q33_2 => ?_)
          · refine aw_tswitch (tgt := 254) d_L_law_33 q33 (by decide) (by decide) rfl rfl ?_
            refine aw_aload_n d_L_law_254 1 rfl ?_
            refine aw_aload_n d_L_law_255 0 rfl ?_
            refine aw_iload_n d_L_law_256 3 rfl ?_
            refine aw_iconst d_L_law_257 ki_1 ?_
            refine aw_iadd d_L_law_258 ?_
            refine aw_sald d_L_law_259 ?_
            refine aw_aload_n d_L_law_260 0 rfl ?_
            refine aw_iload_n d_L_law_261 3 rfl ?_
            refine aw_iconst d_L_law_262 ki_2 ?_
            refine aw_iadd d_L_law_263 ?_
            refine aw_sald d_L_law_264 ?_
            refine aw_V_m (As := [.int (gI δ18 0 (ix (v3 + (1 : Int32)))), .int (gI δ18 0 (ix (v3 + (2 : Int32))))]) (m_Fp_heat) cv_L_23 kd_4 rfl rfl rfl (Nat.le_of_ble_eq_true rfl) ⟨Nat.le_of_ble_eq_true rfl, Nat.le_of_ble_eq_true rfl⟩ ⟨by omega, by omega⟩ d_L_law_265 (fun y265 => ?_)
            refine aw_bI (fun v265 => ?_)
            refine aw_bD (fun δ_265 => ?_)
            refine aw_aload_n d_L_law_268 2 rfl ?_
            refine aw_aload_n d_L_law_269 0 rfl ?_
            refine aw_iload_n d_L_law_270 3 rfl ?_
            refine aw_iconst d_L_law_271 ki_1 ?_
            refine aw_iadd d_L_law_272 ?_
            refine aw_sald d_L_law_273 ?_
            refine aw_aload_n d_L_law_274 0 rfl ?_
            refine aw_iload_n d_L_law_275 3 rfl ?_
            refine aw_iconst d_L_law_276 ki_2 ?_
            refine aw_iadd d_L_law_277 ?_
            refine aw_sald d_L_law_278 ?_
            refine aw_V_m (As := [.int (gI δ_265 0 (ix (v3 + (1 : Int32)))), .int (gI δ_265 0 (ix (v3 + (2 : Int32))))]) (m_Mo_heat) cv_L_27 kd_151 rfl rfl rfl (Nat.le_of_ble_eq_true rfl) ⟨Nat.le_of_ble_eq_true rfl, Nat.le_of_ble_eq_true rfl⟩ ⟨by omega, by omega⟩ d_L_law_279 (fun y279 => ?_)
            refine aw_bI (fun v279 => ?_)
            refine aw_bD (fun δ_279 => ?_)
            refine aw_icmp_eq (tgt := 1459) d_L_law_282 rfl (fun q282 => ?_) (fun q282 => ?_)
            · refine aw_iinc (v := (v3 + (6 : Int32))) (lo' := [(3, .int (v3 + (6 : Int32))), (0, .ref 0), (1, .ref 4), (2, .ref 151)]) d_L_law_1459 3 rfl (by rw [show Int32.ofInt (6) = (6 : Int32) from by decide]) (by decide) rfl ?_
              refine aw_goto (tgt := 18) d_L_law_1462 rfl ?_
              refine aw_sub (lo' := [(0, .ref 0), (1, .ref 4), (2, .ref 151), (3, .int (v3 + (6 : Int32)))]) [1, 2, 3, 0] rfl ?_
              exact ih _ _ _ _ _ (by omega) (by omega)
            · refine aw_iconst d_L_law_285 ki_0 ?_
              exact aw_zret rfl rfl rfl ⟨by omega, by omega⟩ d_L_law_286
          · refine aw_ite (fun q33 => ?_) (fun q33_3 => ?_)
            · refine aw_tswitch (tgt := 287) d_L_law_33 q33 (by decide) (by decide) rfl rfl ?_
              refine aw_aload_n d_L_law_287 1 rfl ?_
              refine aw_aload_n d_L_law_288 0 rfl ?_
              refine aw_iload_n d_L_law_289 3 rfl ?_
              refine aw_iconst d_L_law_290 ki_1 ?_
              refine aw_iadd d_L_law_291 ?_
              refine aw_sald d_L_law_292 ?_
              refine aw_aload_n d_L_law_293 0 rfl ?_
              refine aw_iload_n d_L_law_294 3 rfl ?_
              refine aw_iconst d_L_law_295 ki_2 ?_
              refine aw_iadd d_L_law_296 ?_
              refine aw_sald d_L_law_297 ?_
              refine aw_aload_n d_L_law_298 0 rfl ?_
              refine aw_iload_n d_L_law_299 3 rfl ?_
              refine aw_iconst d_L_law_300 ki_3 ?_
              refine aw_iadd d_L_law_301 ?_
              refine aw_sald d_L_law_302 ?_
              refine aw_aload_n d_L_law_303 0 rfl ?_
              refine aw_iload_n d_L_law_304 3 rfl ?_
              refine aw_iconst d_L_law_305 ki_4 ?_
              refine aw_iadd d_L_law_306 ?_
              refine aw_sald d_L_law_307 ?_
              refine aw_aload_n d_L_law_308 0 rfl ?_
              refine aw_iload_n d_L_law_309 3 rfl ?_
              refine aw_iconst d_L_law_310 ki_5 ?_
              refine aw_iadd d_L_law_311 ?_
              refine aw_sald d_L_law_312 ?_
              refine aw_V_m (As := [.int (gI δ18 0 (ix (v3 + (1 : Int32)))), .int (gI δ18 0 (ix (v3 + (2 : Int32)))), .int (gI δ18 0 (ix (v3 + (3 : Int32)))), .int (gI δ18 0 (ix (v3 + (4 : Int32)))), .int (gI δ18 0 (ix (v3 + (5 : Int32))))]) (m_Fp_feed) cv_L_28 kd_4 rfl rfl rfl (Nat.le_of_ble_eq_true rfl) ⟨Nat.le_of_ble_eq_true rfl, Nat.le_of_ble_eq_true rfl⟩ ⟨by omega, by omega⟩ d_L_law_313 (fun y313 => ?_)
              refine aw_bI (fun v313 => ?_)
              refine aw_bD (fun δ_313 => ?_)
              refine aw_aload_n d_L_law_316 2 rfl ?_
              refine aw_aload_n d_L_law_317 0 rfl ?_
              refine aw_iload_n d_L_law_318 3 rfl ?_
              refine aw_iconst d_L_law_319 ki_1 ?_
              refine aw_iadd d_L_law_320 ?_
              refine aw_sald d_L_law_321 ?_
              refine aw_aload_n d_L_law_322 0 rfl ?_
              refine aw_iload_n d_L_law_323 3 rfl ?_
              refine aw_iconst d_L_law_324 ki_2 ?_
              refine aw_iadd d_L_law_325 ?_
              refine aw_sald d_L_law_326 ?_
              refine aw_aload_n d_L_law_327 0 rfl ?_
              refine aw_iload_n d_L_law_328 3 rfl ?_
              refine aw_iconst d_L_law_329 ki_3 ?_
              refine aw_iadd d_L_law_330 ?_
              refine aw_sald d_L_law_331 ?_
              refine aw_aload_n d_L_law_332 0 rfl ?_
              refine aw_iload_n d_L_law_333 3 rfl ?_
              refine aw_iconst d_L_law_334 ki_4 ?_
              refine aw_iadd d_L_law_335 ?_
              refine aw_sald d_L_law_336 ?_
              refine aw_aload_n d_L_law_337 0 rfl ?_
              refine aw_iload_n d_L_law_338 3 rfl ?_
              refine aw_iconst d_L_law_339 ki_5 ?_
              refine aw_iadd d_L_law_340 ?_
              refine aw_sald d_L_law_341 ?_
              refine aw_V_m (As := [.int (gI δ_313 0 (ix (v3 + (1 : Int32)))), .int (gI δ_313 0 (ix (v3 + (2 : Int32)))), .int (gI δ_313 0 (ix (v3 + (3 : Int32)))), .int (gI δ_313 0 (ix (v3 + (4 : Int32)))), .int (gI δ_313 0 (ix (v3 + (5 : Int32))))]) (m_Mo_feed) cv_L_32 kd_151 rfl rfl rfl (Nat.le_of_ble_eq_true rfl) ⟨Nat.le_of_ble_eq_true rfl, Nat.le_of_ble_eq_true rfl⟩ ⟨by omega, by omega⟩ d_L_law_342 (fun y342 => ?_)
              refine aw_bI (fun v342 => ?_)
              refine aw_bD (fun δ_342 => ?_)
              refine aw_icmp_eq (tgt := 1459) d_L_law_345 rfl (fun q345 => ?_) (fun q345 => ?_)
              · refine aw_iinc (v := (v3 + (6 : Int32))) (lo' := [(3, .int (v3 + (6 : Int32))), (0, .ref 0), (1, .ref 4), (2, .ref 151)]) d_L_law_1459 3 rfl (by rw [show Int32.ofInt (6) = (6 : Int32) from by decide]) (by decide) rfl ?_
                refine aw_goto (tgt := 18) d_L_law_1462 rfl ?_
                refine aw_sub (lo' := [(0, .ref 0), (1, .ref 4), (2, .ref 151), (3, .int (v3 + (6 : Int32)))]) [1, 2, 3, 0] rfl ?_
                exact ih _ _ _ _ _ (by omega) (by omega)
              · refine aw_iconst d_L_law_348 ki_0 ?_
                exact aw_zret rfl rfl rfl ⟨by omega, by omega⟩ d_L_law_349
            · refine aw_ite (fun q33 => ?_) (fun q33_4 => ?_)
              · refine aw_tswitch (tgt := 350) d_L_law_33 q33 (by decide) (by decide) rfl rfl ?_
                refine aw_aload_n d_L_law_350 1 rfl ?_
                refine aw_aload_n d_L_law_351 0 rfl ?_
                refine aw_iload_n d_L_law_352 3 rfl ?_
                refine aw_iconst d_L_law_353 ki_1 ?_
                refine aw_iadd d_L_law_354 ?_
                refine aw_sald d_L_law_355 ?_
                refine aw_V_m (As := [.int (gI δ18 0 (ix (v3 + (1 : Int32))))]) (m_Fp_end) cv_L_33 kd_4 rfl rfl rfl (Nat.le_of_ble_eq_true rfl) ⟨Nat.le_of_ble_eq_true rfl, Nat.le_of_ble_eq_true rfl⟩ ⟨by omega, by omega⟩ d_L_law_356 (fun y356 => ?_)
                refine aw_bI (fun v356 => ?_)
                refine aw_bD (fun δ_356 => ?_)
                refine aw_aload_n d_L_law_359 2 rfl ?_
                refine aw_aload_n d_L_law_360 0 rfl ?_
                refine aw_iload_n d_L_law_361 3 rfl ?_
                refine aw_iconst d_L_law_362 ki_1 ?_
                refine aw_iadd d_L_law_363 ?_
                refine aw_sald d_L_law_364 ?_
                refine aw_V_m (As := [.int (gI δ_356 0 (ix (v3 + (1 : Int32))))]) (m_Mo_end) cv_L_36 kd_151 rfl rfl rfl (Nat.le_of_ble_eq_true rfl) ⟨Nat.le_of_ble_eq_true rfl, Nat.le_of_ble_eq_true rfl⟩ ⟨by omega, by omega⟩ d_L_law_365 (fun y365 => ?_)
                refine aw_bI (fun v365 => ?_)
                refine aw_bD (fun δ_365 => ?_)
                refine aw_icmp_eq (tgt := 1459) d_L_law_368 rfl (fun q368 => ?_) (fun q368 => ?_)
                · refine aw_iinc (v := (v3 + (6 : Int32))) (lo' := [(3, .int (v3 + (6 : Int32))), (0, .ref 0), (1, .ref 4), (2, .ref 151)]) d_L_law_1459 3 rfl (by rw [show Int32.ofInt (6) = (6 : Int32) from by decide]) (by decide) rfl ?_
                  refine aw_goto (tgt := 18) d_L_law_1462 rfl ?_
                  refine aw_sub (lo' := [(0, .ref 0), (1, .ref 4), (2, .ref 151), (3, .int (v3 + (6 : Int32)))]) [1, 2, 3, 0] rfl ?_
                  exact ih _ _ _ _ _ (by omega) (by omega)
                · refine aw_iconst d_L_law_371 ki_0 ?_
                  exact aw_zret rfl rfl rfl ⟨by omega, by omega⟩ d_L_law_372
              · refine aw_ite (fun q33 => ?_) (fun q33_5 => ?_)
                · refine aw_tswitch (tgt := 373) d_L_law_33 q33 (by decide) (by decide) rfl rfl ?_
                  refine aw_aload_n d_L_law_373 1 rfl ?_
                  refine aw_V_m (As := []) (m_Fp_law) cv_L_37 kd_4 rfl rfl rfl (Nat.le_of_ble_eq_true rfl) ⟨Nat.le_of_ble_eq_true rfl, Nat.le_of_ble_eq_true rfl⟩ ⟨by omega, by omega⟩ d_L_law_374 (fun y374 => ?_)
                  refine aw_bI (fun v374 => ?_)
                  refine aw_bD (fun δ_374 => ?_)
                  refine aw_aload_n d_L_law_377 2 rfl ?_
                  refine aw_V_m (As := []) (m_Mo_law) cv_L_41 kd_151 rfl rfl rfl (Nat.le_of_ble_eq_true rfl) ⟨Nat.le_of_ble_eq_true rfl, Nat.le_of_ble_eq_true rfl⟩ ⟨by omega, by omega⟩ d_L_law_378 (fun y378 => ?_)
                  refine aw_bI (fun v378 => ?_)
                  refine aw_bD (fun δ_378 => ?_)
                  refine aw_icmp_eq (tgt := 1459) d_L_law_381 rfl (fun q381 => ?_) (fun q381 => ?_)
                  · refine aw_iinc (v := (v3 + (6 : Int32))) (lo' := [(3, .int (v3 + (6 : Int32))), (0, .ref 0), (1, .ref 4), (2, .ref 151)]) d_L_law_1459 3 rfl (by rw [show Int32.ofInt (6) = (6 : Int32) from by decide]) (by decide) rfl ?_
                    refine aw_goto (tgt := 18) d_L_law_1462 rfl ?_
                    refine aw_sub (lo' := [(0, .ref 0), (1, .ref 4), (2, .ref 151), (3, .int (v3 + (6 : Int32)))]) [1, 2, 3, 0] rfl ?_
                    exact ih _ _ _ _ _ (by omega) (by omega)
                  · refine aw_iconst d_L_law_384 ki_0 ?_
                    exact aw_zret rfl rfl rfl ⟨by omega, by omega⟩ d_L_law_385
                · refine aw_ite (fun q33 => ?_) (fun q33_6 => ?_)
                  · refine aw_tswitch (tgt := 386) d_L_law_33 q33 (by decide) (by decide) rfl rfl ?_
                    refine aw_aload_n d_L_law_386 1 rfl ?_
                    refine aw_aload_n d_L_law_387 0 rfl ?_
                    refine aw_iload_n d_L_law_388 3 rfl ?_
                    refine aw_iconst d_L_law_389 ki_1 ?_
                    refine aw_iadd d_L_law_390 ?_
                    refine aw_sald d_L_law_391 ?_
                    refine aw_aload_n d_L_law_392 0 rfl ?_
                    refine aw_iload_n d_L_law_393 3 rfl ?_
                    refine aw_iconst d_L_law_394 ki_2 ?_
                    refine aw_iadd d_L_law_395 ?_
                    refine aw_sald d_L_law_396 ?_
                    refine aw_aload_n d_L_law_397 0 rfl ?_
                    refine aw_iload_n d_L_law_398 3 rfl ?_
                    refine aw_iconst d_L_law_399 ki_3 ?_
                    refine aw_iadd d_L_law_400 ?_
                    refine aw_sald d_L_law_401 ?_
                    refine aw_V_m (As := [.int (gI δ18 0 (ix (v3 + (1 : Int32)))), .int (gI δ18 0 (ix (v3 + (2 : Int32)))), .int (gI δ18 0 (ix (v3 + (3 : Int32))))]) (m_Fp_booth) cv_L_42 kd_4 rfl rfl rfl (Nat.le_of_ble_eq_true rfl) ⟨Nat.le_of_ble_eq_true rfl, Nat.le_of_ble_eq_true rfl⟩ ⟨by omega, by omega⟩ d_L_law_402 (fun y402 => ?_)
                    refine aw_bI (fun v402 => ?_)
                    refine aw_bD (fun δ_402 => ?_)
                    refine aw_aload_n d_L_law_405 2 rfl ?_
                    refine aw_aload_n d_L_law_406 0 rfl ?_
                    refine aw_iload_n d_L_law_407 3 rfl ?_
                    refine aw_iconst d_L_law_408 ki_1 ?_
                    refine aw_iadd d_L_law_409 ?_
                    refine aw_sald d_L_law_410 ?_
                    refine aw_aload_n d_L_law_411 0 rfl ?_
                    refine aw_iload_n d_L_law_412 3 rfl ?_
                    refine aw_iconst d_L_law_413 ki_2 ?_
                    refine aw_iadd d_L_law_414 ?_
                    refine aw_sald d_L_law_415 ?_
                    refine aw_aload_n d_L_law_416 0 rfl ?_
                    refine aw_iload_n d_L_law_417 3 rfl ?_
                    refine aw_iconst d_L_law_418 ki_3 ?_
                    refine aw_iadd d_L_law_419 ?_
                    refine aw_sald d_L_law_420 ?_
                    refine aw_V_m (As := [.int (gI δ_402 0 (ix (v3 + (1 : Int32)))), .int (gI δ_402 0 (ix (v3 + (2 : Int32)))), .int (gI δ_402 0 (ix (v3 + (3 : Int32))))]) (m_Mo_booth) cv_L_45 kd_151 rfl rfl rfl (Nat.le_of_ble_eq_true rfl) ⟨Nat.le_of_ble_eq_true rfl, Nat.le_of_ble_eq_true rfl⟩ ⟨by omega, by omega⟩ d_L_law_421 (fun y421 => ?_)
                    refine aw_bI (fun v421 => ?_)
                    refine aw_bD (fun δ_421 => ?_)
                    refine aw_icmp_eq (tgt := 1459) d_L_law_424 rfl (fun q424 => ?_) (fun q424 => ?_)
                    · refine aw_iinc (v := (v3 + (6 : Int32))) (lo' := [(3, .int (v3 + (6 : Int32))), (0, .ref 0), (1, .ref 4), (2, .ref 151)]) d_L_law_1459 3 rfl (by rw [show Int32.ofInt (6) = (6 : Int32) from by decide]) (by decide) rfl ?_
                      refine aw_goto (tgt := 18) d_L_law_1462 rfl ?_
                      refine aw_sub (lo' := [(0, .ref 0), (1, .ref 4), (2, .ref 151), (3, .int (v3 + (6 : Int32)))]) [1, 2, 3, 0] rfl ?_
                      exact ih _ _ _ _ _ (by omega) (by omega)
                    · refine aw_iconst d_L_law_427 ki_0 ?_
                      exact aw_zret rfl rfl rfl ⟨by omega, by omega⟩ d_L_law_428
                  · refine aw_ite (fun q33 => ?_) (fun q33_7 => ?_)
                    · refine aw_tswitch (tgt := 429) d_L_law_33 q33 (by decide) (by decide) rfl rfl ?_
                      refine aw_aload_n d_L_law_429 1 rfl ?_
                      refine aw_aload_n d_L_law_430 0 rfl ?_
                      refine aw_iload_n d_L_law_431 3 rfl ?_
                      refine aw_iconst d_L_law_432 ki_1 ?_
                      refine aw_iadd d_L_law_433 ?_
                      refine aw_sald d_L_law_434 ?_
                      refine aw_aload_n d_L_law_435 0 rfl ?_
                      refine aw_iload_n d_L_law_436 3 rfl ?_
                      refine aw_iconst d_L_law_437 ki_2 ?_
                      refine aw_iadd d_L_law_438 ?_
                      refine aw_sald d_L_law_439 ?_
                      refine aw_V_m (As := [.int (gI δ18 0 (ix (v3 + (1 : Int32)))), .int (gI δ18 0 (ix (v3 + (2 : Int32))))]) (m_Fp_move) cv_L_46 kd_4 rfl rfl rfl (Nat.le_of_ble_eq_true rfl) ⟨Nat.le_of_ble_eq_true rfl, Nat.le_of_ble_eq_true rfl⟩ ⟨by omega, by omega⟩ d_L_law_440 (fun y440 => ?_)
                      refine aw_bI (fun v440 => ?_)
                      refine aw_bD (fun δ_440 => ?_)
                      refine aw_aload_n d_L_law_443 2 rfl ?_
                      refine aw_aload_n d_L_law_444 0 rfl ?_
                      refine aw_iload_n d_L_law_445 3 rfl ?_
                      refine aw_iconst d_L_law_446 ki_1 ?_
                      refine aw_iadd d_L_law_447 ?_
                      refine aw_sald d_L_law_448 ?_
                      refine aw_aload_n d_L_law_449 0 rfl ?_
                      refine aw_iload_n d_L_law_450 3 rfl ?_
                      refine aw_iconst d_L_law_451 ki_2 ?_
                      refine aw_iadd d_L_law_452 ?_
                      refine aw_sald d_L_law_453 ?_
                      refine aw_V_m (As := [.int (gI δ_440 0 (ix (v3 + (1 : Int32)))), .int (gI δ_440 0 (ix (v3 + (2 : Int32))))]) (m_Mo_move) cv_L_49 kd_151 rfl rfl rfl (Nat.le_of_ble_eq_true rfl) ⟨Nat.le_of_ble_eq_true rfl, Nat.le_of_ble_eq_true rfl⟩ ⟨by omega, by omega⟩ d_L_law_454 (fun y454 => ?_)
                      refine aw_bI (fun v454 => ?_)
                      refine aw_bD (fun δ_454 => ?_)
                      refine aw_icmp_eq (tgt := 1459) d_L_law_457 rfl (fun q457 => ?_) (fun q457 => ?_)
                      · refine aw_iinc (v := (v3 + (6 : Int32))) (lo' := [(3, .int (v3 + (6 : Int32))), (0, .ref 0), (1, .ref 4), (2, .ref 151)]) d_L_law_1459 3 rfl (by rw [show Int32.ofInt (6) = (6 : Int32) from by decide]) (by decide) rfl ?_
                        refine aw_goto (tgt := 18) d_L_law_1462 rfl ?_
                        refine aw_sub (lo' := [(0, .ref 0), (1, .ref 4), (2, .ref 151), (3, .int (v3 + (6 : Int32)))]) [1, 2, 3, 0] rfl ?_
                        exact ih _ _ _ _ _ (by omega) (by omega)
                      · refine aw_iconst d_L_law_460 ki_0 ?_
                        exact aw_zret rfl rfl rfl ⟨by omega, by omega⟩ d_L_law_461
                    · refine aw_ite (fun q33 => ?_) (fun q33_8 => ?_)
                      · refine aw_tswitch (tgt := 462) d_L_law_33 q33 (by decide) (by decide) rfl rfl ?_
                        refine aw_aload_n d_L_law_462 1 rfl ?_
                        refine aw_aload_n d_L_law_463 0 rfl ?_
                        refine aw_iload_n d_L_law_464 3 rfl ?_
                        refine aw_iconst d_L_law_465 ki_1 ?_
                        refine aw_iadd d_L_law_466 ?_
                        refine aw_sald d_L_law_467 ?_
                        refine aw_aload_n d_L_law_468 0 rfl ?_
                        refine aw_iload_n d_L_law_469 3 rfl ?_
                        refine aw_iconst d_L_law_470 ki_2 ?_
                        refine aw_iadd d_L_law_471 ?_
                        refine aw_sald d_L_law_472 ?_
                        refine aw_V_m (As := [.int (gI δ18 0 (ix (v3 + (1 : Int32)))), .int (gI δ18 0 (ix (v3 + (2 : Int32))))]) (m_Fp_paper) cv_L_50 kd_4 rfl rfl rfl (Nat.le_of_ble_eq_true rfl) ⟨Nat.le_of_ble_eq_true rfl, Nat.le_of_ble_eq_true rfl⟩ ⟨by omega, by omega⟩ d_L_law_473 (fun y473 => ?_)
                        refine aw_bI (fun v473 => ?_)
                        refine aw_bD (fun δ_473 => ?_)
                        refine aw_aload_n d_L_law_476 2 rfl ?_
                        refine aw_aload_n d_L_law_477 0 rfl ?_
                        refine aw_iload_n d_L_law_478 3 rfl ?_
                        refine aw_iconst d_L_law_479 ki_1 ?_
                        refine aw_iadd d_L_law_480 ?_
                        refine aw_sald d_L_law_481 ?_
                        refine aw_aload_n d_L_law_482 0 rfl ?_
                        refine aw_iload_n d_L_law_483 3 rfl ?_
                        refine aw_iconst d_L_law_484 ki_2 ?_
                        refine aw_iadd d_L_law_485 ?_
                        refine aw_sald d_L_law_486 ?_
                        refine aw_V_m (As := [.int (gI δ_473 0 (ix (v3 + (1 : Int32)))), .int (gI δ_473 0 (ix (v3 + (2 : Int32))))]) (m_Mo_paper) cv_L_53 kd_151 rfl rfl rfl (Nat.le_of_ble_eq_true rfl) ⟨Nat.le_of_ble_eq_true rfl, Nat.le_of_ble_eq_true rfl⟩ ⟨by omega, by omega⟩ d_L_law_487 (fun y487 => ?_)
                        refine aw_bI (fun v487 => ?_)
                        refine aw_bD (fun δ_487 => ?_)
                        refine aw_icmp_eq (tgt := 1459) d_L_law_490 rfl (fun q490 => ?_) (fun q490 => ?_)
                        · refine aw_iinc (v := (v3 + (6 : Int32))) (lo' := [(3, .int (v3 + (6 : Int32))), (0, .ref 0), (1, .ref 4), (2, .ref 151)]) d_L_law_1459 3 rfl (by rw [show Int32.ofInt (6) = (6 : Int32) from by decide]) (by decide) rfl ?_
                          refine aw_goto (tgt := 18) d_L_law_1462 rfl ?_
                          refine aw_sub (lo' := [(0, .ref 0), (1, .ref 4), (2, .ref 151), (3, .int (v3 + (6 : Int32)))]) [1, 2, 3, 0] rfl ?_
                          exact ih _ _ _ _ _ (by omega) (by omega)
                        · refine aw_iconst d_L_law_493 ki_0 ?_
                          exact aw_zret rfl rfl rfl ⟨by omega, by omega⟩ d_L_law_494
                      · refine aw_ite (fun q33 => ?_) (fun q33_9 => ?_)
                        · refine aw_tswitch (tgt := 495) d_L_law_33 q33 (by decide) (by decide) rfl rfl ?_
                          refine aw_aload_n d_L_law_495 1 rfl ?_
                          refine aw_aload_n d_L_law_496 0 rfl ?_
                          refine aw_iload_n d_L_law_497 3 rfl ?_
                          refine aw_iconst d_L_law_498 ki_1 ?_
                          refine aw_iadd d_L_law_499 ?_
                          refine aw_sald d_L_law_500 ?_
                          refine aw_aload_n d_L_law_501 0 rfl ?_
                          refine aw_iload_n d_L_law_502 3 rfl ?_
                          refine aw_iconst d_L_law_503 ki_2 ?_
                          refine aw_iadd d_L_law_504 ?_
                          refine aw_sald d_L_law_505 ?_
                          refine aw_aload_n d_L_law_506 0 rfl ?_
                          refine aw_iload_n d_L_law_507 3 rfl ?_
                          refine aw_iconst d_L_law_508 ki_3 ?_
                          refine aw_iadd d_L_law_509 ?_
                          refine aw_sald d_L_law_510 ?_
                          refine aw_V_m (As := [.int (gI δ18 0 (ix (v3 + (1 : Int32)))), .int (gI δ18 0 (ix (v3 + (2 : Int32)))), .int (gI δ18 0 (ix (v3 + (3 : Int32))))]) (m_Fp_strip) cv_L_54 kd_4 rfl rfl rfl (Nat.le_of_ble_eq_true rfl) ⟨Nat.le_of_ble_eq_true rfl, Nat.le_of_ble_eq_true rfl⟩ ⟨by omega, by omega⟩ d_L_law_511 (fun y511 => ?_)
                          refine aw_bI (fun v511 => ?_)
                          refine aw_bD (fun δ_511 => ?_)
                          refine aw_aload_n d_L_law_514 2 rfl ?_
                          refine aw_aload_n d_L_law_515 0 rfl ?_
                          refine aw_iload_n d_L_law_516 3 rfl ?_
                          refine aw_iconst d_L_law_517 ki_1 ?_
                          refine aw_iadd d_L_law_518 ?_
                          refine aw_sald d_L_law_519 ?_
                          refine aw_aload_n d_L_law_520 0 rfl ?_
                          refine aw_iload_n d_L_law_521 3 rfl ?_
                          refine aw_iconst d_L_law_522 ki_2 ?_
                          refine aw_iadd d_L_law_523 ?_
                          refine aw_sald d_L_law_524 ?_
                          refine aw_aload_n d_L_law_525 0 rfl ?_
                          refine aw_iload_n d_L_law_526 3 rfl ?_
                          refine aw_iconst d_L_law_527 ki_3 ?_
                          refine aw_iadd d_L_law_528 ?_
                          refine aw_sald d_L_law_529 ?_
                          refine aw_V_m (As := [.int (gI δ_511 0 (ix (v3 + (1 : Int32)))), .int (gI δ_511 0 (ix (v3 + (2 : Int32)))), .int (gI δ_511 0 (ix (v3 + (3 : Int32))))]) (m_Mo_strip) cv_L_57 kd_151 rfl rfl rfl (Nat.le_of_ble_eq_true rfl) ⟨Nat.le_of_ble_eq_true rfl, Nat.le_of_ble_eq_true rfl⟩ ⟨by omega, by omega⟩ d_L_law_530 (fun y530 => ?_)
                          refine aw_bI (fun v530 => ?_)
                          refine aw_bD (fun δ_530 => ?_)
                          refine aw_icmp_eq (tgt := 1459) d_L_law_533 rfl (fun q533 => ?_) (fun q533 => ?_)
                          · refine aw_iinc (v := (v3 + (6 : Int32))) (lo' := [(3, .int (v3 + (6 : Int32))), (0, .ref 0), (1, .ref 4), (2, .ref 151)]) d_L_law_1459 3 rfl (by rw [show Int32.ofInt (6) = (6 : Int32) from by decide]) (by decide) rfl ?_
                            refine aw_goto (tgt := 18) d_L_law_1462 rfl ?_
                            refine aw_sub (lo' := [(0, .ref 0), (1, .ref 4), (2, .ref 151), (3, .int (v3 + (6 : Int32)))]) [1, 2, 3, 0] rfl ?_
                            exact ih _ _ _ _ _ (by omega) (by omega)
                          · refine aw_iconst d_L_law_536 ki_0 ?_
                            exact aw_zret rfl rfl rfl ⟨by omega, by omega⟩ d_L_law_537
                        · refine aw_ite (fun q33 => ?_) (fun q33_10 => ?_)
                          · refine aw_tswitch (tgt := 538) d_L_law_33 q33 (by decide) (by decide) rfl rfl ?_
                            refine aw_aload_n d_L_law_538 1 rfl ?_
                            refine aw_aload_n d_L_law_539 0 rfl ?_
                            refine aw_iload_n d_L_law_540 3 rfl ?_
                            refine aw_iconst d_L_law_541 ki_1 ?_
                            refine aw_iadd d_L_law_542 ?_
                            refine aw_sald d_L_law_543 ?_
                            refine aw_V_m (As := [.int (gI δ18 0 (ix (v3 + (1 : Int32))))]) (m_Fp_clock) cv_L_58 kd_4 rfl rfl rfl (Nat.le_of_ble_eq_true rfl) ⟨Nat.le_of_ble_eq_true rfl, Nat.le_of_ble_eq_true rfl⟩ ⟨by omega, by omega⟩ d_L_law_544 (fun y544 => ?_)
                            refine aw_bI (fun v544 => ?_)
                            refine aw_bD (fun δ_544 => ?_)
                            refine aw_aload_n d_L_law_547 2 rfl ?_
                            refine aw_aload_n d_L_law_548 0 rfl ?_
                            refine aw_iload_n d_L_law_549 3 rfl ?_
                            refine aw_iconst d_L_law_550 ki_1 ?_
                            refine aw_iadd d_L_law_551 ?_
                            refine aw_sald d_L_law_552 ?_
                            refine aw_V_m (As := [.int (gI δ_544 0 (ix (v3 + (1 : Int32))))]) (m_Mo_clock) cv_L_62 kd_151 rfl rfl rfl (Nat.le_of_ble_eq_true rfl) ⟨Nat.le_of_ble_eq_true rfl, Nat.le_of_ble_eq_true rfl⟩ ⟨by omega, by omega⟩ d_L_law_553 (fun y553 => ?_)
                            refine aw_bI (fun v553 => ?_)
                            refine aw_bD (fun δ_553 => ?_)
                            refine aw_icmp_eq (tgt := 1459) d_L_law_556 rfl (fun q556 => ?_) (fun q556 => ?_)
                            · refine aw_iinc (v := (v3 + (6 : Int32))) (lo' := [(3, .int (v3 + (6 : Int32))), (0, .ref 0), (1, .ref 4), (2, .ref 151)]) d_L_law_1459 3 rfl (by rw [show Int32.ofInt (6) = (6 : Int32) from by decide]) (by decide) rfl ?_
                              refine aw_goto (tgt := 18) d_L_law_1462 rfl ?_
                              refine aw_sub (lo' := [(0, .ref 0), (1, .ref 4), (2, .ref 151), (3, .int (v3 + (6 : Int32)))]) [1, 2, 3, 0] rfl ?_
                              exact ih _ _ _ _ _ (by omega) (by omega)
                            · refine aw_iconst d_L_law_559 ki_0 ?_
                              exact aw_zret rfl rfl rfl ⟨by omega, by omega⟩ d_L_law_560
                          · refine aw_ite (fun q33 => ?_) (fun q33_11 => ?_)
                            · refine aw_tswitch (tgt := 561) d_L_law_33 q33 (by decide) (by decide) rfl rfl ?_
                              refine aw_aload_n d_L_law_561 1 rfl ?_
                              refine aw_aload_n d_L_law_562 0 rfl ?_
                              refine aw_iload_n d_L_law_563 3 rfl ?_
                              refine aw_iconst d_L_law_564 ki_1 ?_
                              refine aw_iadd d_L_law_565 ?_
                              refine aw_sald d_L_law_566 ?_
                              refine aw_aload_n d_L_law_567 0 rfl ?_
                              refine aw_iload_n d_L_law_568 3 rfl ?_
                              refine aw_iconst d_L_law_569 ki_2 ?_
                              refine aw_iadd d_L_law_570 ?_
                              refine aw_sald d_L_law_571 ?_
                              refine aw_V_m (As := [.int (gI δ18 0 (ix (v3 + (1 : Int32)))), .int (gI δ18 0 (ix (v3 + (2 : Int32))))]) (m_Fp_change) cv_L_63 kd_4 rfl rfl rfl (Nat.le_of_ble_eq_true rfl) ⟨Nat.le_of_ble_eq_true rfl, Nat.le_of_ble_eq_true rfl⟩ ⟨by omega, by omega⟩ d_L_law_572 (fun y572 => ?_)
                              refine aw_bI (fun v572 => ?_)
                              refine aw_bD (fun δ_572 => ?_)
                              refine aw_aload_n d_L_law_575 2 rfl ?_
                              refine aw_aload_n d_L_law_576 0 rfl ?_
                              refine aw_iload_n d_L_law_577 3 rfl ?_
                              refine aw_iconst d_L_law_578 ki_1 ?_
                              refine aw_iadd d_L_law_579 ?_
                              refine aw_sald d_L_law_580 ?_
                              refine aw_aload_n d_L_law_581 0 rfl ?_
                              refine aw_iload_n d_L_law_582 3 rfl ?_
                              refine aw_iconst d_L_law_583 ki_2 ?_
                              refine aw_iadd d_L_law_584 ?_
                              refine aw_sald d_L_law_585 ?_
                              refine aw_V_m (As := [.int (gI δ_572 0 (ix (v3 + (1 : Int32)))), .int (gI δ_572 0 (ix (v3 + (2 : Int32))))]) (m_Mo_change) cv_L_66 kd_151 rfl rfl rfl (Nat.le_of_ble_eq_true rfl) ⟨Nat.le_of_ble_eq_true rfl, Nat.le_of_ble_eq_true rfl⟩ ⟨by omega, by omega⟩ d_L_law_586 (fun y586 => ?_)
                              refine aw_bI (fun v586 => ?_)
                              refine aw_bD (fun δ_586 => ?_)
                              refine aw_icmp_eq (tgt := 1459) d_L_law_589 rfl (fun q589 => ?_) (fun q589 => ?_)
                              · refine aw_iinc (v := (v3 + (6 : Int32))) (lo' := [(3, .int (v3 + (6 : Int32))), (0, .ref 0), (1, .ref 4), (2, .ref 151)]) d_L_law_1459 3 rfl (by rw [show Int32.ofInt (6) = (6 : Int32) from by decide]) (by decide) rfl ?_
                                refine aw_goto (tgt := 18) d_L_law_1462 rfl ?_
                                refine aw_sub (lo' := [(0, .ref 0), (1, .ref 4), (2, .ref 151), (3, .int (v3 + (6 : Int32)))]) [1, 2, 3, 0] rfl ?_
                                exact ih _ _ _ _ _ (by omega) (by omega)
                              · refine aw_iconst d_L_law_592 ki_0 ?_
                                exact aw_zret rfl rfl rfl ⟨by omega, by omega⟩ d_L_law_593
                            · refine aw_ite (fun q33 => ?_) (fun q33_12 => ?_)
                              · refine aw_tswitch (tgt := 594) d_L_law_33 q33 (by decide) (by decide) rfl rfl ?_
                                refine aw_aload_n d_L_law_594 1 rfl ?_
                                refine aw_aload_n d_L_law_595 0 rfl ?_
                                refine aw_iload_n d_L_law_596 3 rfl ?_
                                refine aw_iconst d_L_law_597 ki_1 ?_
                                refine aw_iadd d_L_law_598 ?_
                                refine aw_sald d_L_law_599 ?_
                                refine aw_V_m (As := [.int (gI δ18 0 (ix (v3 + (1 : Int32))))]) (m_Fp_empty) cv_L_67 kd_4 rfl rfl rfl (Nat.le_of_ble_eq_true rfl) ⟨Nat.le_of_ble_eq_true rfl, Nat.le_of_ble_eq_true rfl⟩ ⟨by omega, by omega⟩ d_L_law_600 (fun y600 => ?_)
                                refine aw_bI (fun v600 => ?_)
                                refine aw_bD (fun δ_600 => ?_)
                                refine aw_aload_n d_L_law_603 2 rfl ?_
                                refine aw_aload_n d_L_law_604 0 rfl ?_
                                refine aw_iload_n d_L_law_605 3 rfl ?_
                                refine aw_iconst d_L_law_606 ki_1 ?_
                                refine aw_iadd d_L_law_607 ?_
                                refine aw_sald d_L_law_608 ?_
                                refine aw_V_m (As := [.int (gI δ_600 0 (ix (v3 + (1 : Int32))))]) (m_Mo_empty) cv_L_70 kd_151 rfl rfl rfl (Nat.le_of_ble_eq_true rfl) ⟨Nat.le_of_ble_eq_true rfl, Nat.le_of_ble_eq_true rfl⟩ ⟨by omega, by omega⟩ d_L_law_609 (fun y609 => ?_)
                                refine aw_bI (fun v609 => ?_)
                                refine aw_bD (fun δ_609 => ?_)
                                refine aw_icmp_eq (tgt := 1459) d_L_law_612 rfl (fun q612 => ?_) (fun q612 => ?_)
                                · refine aw_iinc (v := (v3 + (6 : Int32))) (lo' := [(3, .int (v3 + (6 : Int32))), (0, .ref 0), (1, .ref 4), (2, .ref 151)]) d_L_law_1459 3 rfl (by rw [show Int32.ofInt (6) = (6 : Int32) from by decide]) (by decide) rfl ?_
                                  refine aw_goto (tgt := 18) d_L_law_1462 rfl ?_
                                  refine aw_sub (lo' := [(0, .ref 0), (1, .ref 4), (2, .ref 151), (3, .int (v3 + (6 : Int32)))]) [1, 2, 3, 0] rfl ?_
                                  exact ih _ _ _ _ _ (by omega) (by omega)
                                · refine aw_iconst d_L_law_615 ki_0 ?_
                                  exact aw_zret rfl rfl rfl ⟨by omega, by omega⟩ d_L_law_616
                              · refine aw_ite (fun q33 => ?_) (fun q33_13 => ?_)
                                · refine aw_tswitch (tgt := 617) d_L_law_33 q33 (by decide) (by decide) rfl rfl ?_
                                  refine aw_aload_n d_L_law_617 1 rfl ?_
                                  refine aw_aload_n d_L_law_618 0 rfl ?_
                                  refine aw_iload_n d_L_law_619 3 rfl ?_
                                  refine aw_iconst d_L_law_620 ki_1 ?_
                                  refine aw_iadd d_L_law_621 ?_
                                  refine aw_sald d_L_law_622 ?_
                                  refine aw_aload_n d_L_law_623 0 rfl ?_
                                  refine aw_iload_n d_L_law_624 3 rfl ?_
                                  refine aw_iconst d_L_law_625 ki_2 ?_
                                  refine aw_iadd d_L_law_626 ?_
                                  refine aw_sald d_L_law_627 ?_
                                  refine aw_V_p (As := [.int (gI δ18 0 (ix (v3 + (1 : Int32)))), .int (gI δ18 0 (ix (v3 + (2 : Int32))))]) (m_Fp_of) cv_L_71 kd_4 rfl rfl rfl (Nat.le_of_ble_eq_true rfl) ⟨Nat.le_of_ble_eq_true rfl, Nat.le_of_ble_eq_true rfl⟩ ⟨by omega, by omega⟩ d_L_law_628 (fun y628 => ?_)
                                  refine aw_aload_n d_L_law_631 2 rfl ?_
                                  refine aw_aload_n d_L_law_632 0 rfl ?_
                                  refine aw_iload_n d_L_law_633 3 rfl ?_
                                  refine aw_iconst d_L_law_634 ki_1 ?_
                                  refine aw_iadd d_L_law_635 ?_
                                  refine aw_sald d_L_law_636 ?_
                                  refine aw_aload_n d_L_law_637 0 rfl ?_
                                  refine aw_iload_n d_L_law_638 3 rfl ?_
                                  refine aw_iconst d_L_law_639 ki_2 ?_
                                  refine aw_iadd d_L_law_640 ?_
                                  refine aw_sald d_L_law_641 ?_
                                  refine aw_V_p (As := [.int (gI δ18 0 (ix (v3 + (1 : Int32)))), .int (gI δ18 0 (ix (v3 + (2 : Int32))))]) (m_Mo_of) cv_L_74 kd_151 rfl rfl rfl (Nat.le_of_ble_eq_true rfl) ⟨Nat.le_of_ble_eq_true rfl, Nat.le_of_ble_eq_true rfl⟩ ⟨by omega, by omega⟩ d_L_law_642 (fun y642 => ?_)
                                  refine aw_icmp_eq (tgt := 1459) d_L_law_645 rfl (fun q645 => ?_) (fun q645 => ?_)
                                  · refine aw_iinc (v := (v3 + (6 : Int32))) (lo' := [(3, .int (v3 + (6 : Int32))), (0, .ref 0), (1, .ref 4), (2, .ref 151)]) d_L_law_1459 3 rfl (by rw [show Int32.ofInt (6) = (6 : Int32) from by decide]) (by decide) rfl ?_
                                    refine aw_goto (tgt := 18) d_L_law_1462 rfl ?_
                                    refine aw_sub (lo' := [(0, .ref 0), (1, .ref 4), (2, .ref 151), (3, .int (v3 + (6 : Int32)))]) [1, 2, 3, 0] rfl ?_
                                    exact ih _ _ _ _ _ (by omega) (by omega)
                                  · refine aw_iconst d_L_law_648 ki_0 ?_
                                    exact aw_zret rfl rfl rfl ⟨by omega, by omega⟩ d_L_law_649
                                · refine aw_ite (fun q33 => ?_) (fun q33_14 => ?_)
                                  · refine aw_tswitch (tgt := 650) d_L_law_33 q33 (by decide) (by decide) rfl rfl ?_
                                    refine aw_aload_n d_L_law_650 1 rfl ?_
                                    refine aw_aload_n d_L_law_651 0 rfl ?_
                                    refine aw_iload_n d_L_law_652 3 rfl ?_
                                    refine aw_iconst d_L_law_653 ki_1 ?_
                                    refine aw_iadd d_L_law_654 ?_
                                    refine aw_sald d_L_law_655 ?_
                                    refine aw_aload_n d_L_law_656 0 rfl ?_
                                    refine aw_iload_n d_L_law_657 3 rfl ?_
                                    refine aw_iconst d_L_law_658 ki_2 ?_
                                    refine aw_iadd d_L_law_659 ?_
                                    refine aw_sald d_L_law_660 ?_
                                    refine aw_V_p (As := [.int (gI δ18 0 (ix (v3 + (1 : Int32)))), .int (gI δ18 0 (ix (v3 + (2 : Int32))))]) (m_Fp_spoilt) cv_L_75 kd_4 rfl rfl rfl (Nat.le_of_ble_eq_true rfl) ⟨Nat.le_of_ble_eq_true rfl, Nat.le_of_ble_eq_true rfl⟩ ⟨by omega, by omega⟩ d_L_law_661 (fun y661 => ?_)
                                    refine aw_aload_n d_L_law_664 2 rfl ?_
                                    refine aw_aload_n d_L_law_665 0 rfl ?_
                                    refine aw_iload_n d_L_law_666 3 rfl ?_
                                    refine aw_iconst d_L_law_667 ki_1 ?_
                                    refine aw_iadd d_L_law_668 ?_
                                    refine aw_sald d_L_law_669 ?_
                                    refine aw_aload_n d_L_law_670 0 rfl ?_
                                    refine aw_iload_n d_L_law_671 3 rfl ?_
                                    refine aw_iconst d_L_law_672 ki_2 ?_
                                    refine aw_iadd d_L_law_673 ?_
                                    refine aw_sald d_L_law_674 ?_
                                    refine aw_V_p (As := [.int (gI δ18 0 (ix (v3 + (1 : Int32)))), .int (gI δ18 0 (ix (v3 + (2 : Int32))))]) (m_Mo_spoilt) cv_L_78 kd_151 rfl rfl rfl (Nat.le_of_ble_eq_true rfl) ⟨Nat.le_of_ble_eq_true rfl, Nat.le_of_ble_eq_true rfl⟩ ⟨by omega, by omega⟩ d_L_law_675 (fun y675 => ?_)
                                    refine aw_icmp_eq (tgt := 1459) d_L_law_678 rfl (fun q678 => ?_) (fun q678 => ?_)
                                    · refine aw_iinc (v := (v3 + (6 : Int32))) (lo' := [(3, .int (v3 + (6 : Int32))), (0, .ref 0), (1, .ref 4), (2, .ref 151)]) d_L_law_1459 3 rfl (by rw [show Int32.ofInt (6) = (6 : Int32) from by decide]) (by decide) rfl ?_
                                      refine aw_goto (tgt := 18) d_L_law_1462 rfl ?_
                                      refine aw_sub (lo' := [(0, .ref 0), (1, .ref 4), (2, .ref 151), (3, .int (v3 + (6 : Int32)))]) [1, 2, 3, 0] rfl ?_
                                      exact ih _ _ _ _ _ (by omega) (by omega)
                                    · refine aw_iconst d_L_law_681 ki_0 ?_
                                      exact aw_zret rfl rfl rfl ⟨by omega, by omega⟩ d_L_law_682
                                  · refine aw_ite (fun q33 => ?_) (fun q33_15 => ?_)
                                    · refine aw_tswitch (tgt := 683) d_L_law_33 q33 (by decide) (by decide) rfl rfl ?_
                                      refine aw_aload_n d_L_law_683 1 rfl ?_
                                      refine aw_aload_n d_L_law_684 0 rfl ?_
                                      refine aw_iload_n d_L_law_685 3 rfl ?_
                                      refine aw_iconst d_L_law_686 ki_1 ?_
                                      refine aw_iadd d_L_law_687 ?_
                                      refine aw_sald d_L_law_688 ?_
                                      refine aw_aload_n d_L_law_689 0 rfl ?_
                                      refine aw_iload_n d_L_law_690 3 rfl ?_
                                      refine aw_iconst d_L_law_691 ki_2 ?_
                                      refine aw_iadd d_L_law_692 ?_
                                      refine aw_sald d_L_law_693 ?_
                                      refine aw_aload_n d_L_law_694 0 rfl ?_
                                      refine aw_iload_n d_L_law_695 3 rfl ?_
                                      refine aw_iconst d_L_law_696 ki_3 ?_
                                      refine aw_iadd d_L_law_697 ?_
                                      refine aw_sald d_L_law_698 ?_
                                      refine aw_V_m (As := [.int (gI δ18 0 (ix (v3 + (1 : Int32)))), .int (gI δ18 0 (ix (v3 + (2 : Int32)))), .int (gI δ18 0 (ix (v3 + (3 : Int32))))]) (m_Fp_again) cv_L_79 kd_4 rfl rfl rfl (Nat.le_of_ble_eq_true rfl) ⟨Nat.le_of_ble_eq_true rfl, Nat.le_of_ble_eq_true rfl⟩ ⟨by omega, by omega⟩ d_L_law_699 (fun y699 => ?_)
                                      refine aw_bI (fun v699 => ?_)
                                      refine aw_bD (fun δ_699 => ?_)
                                      refine aw_aload_n d_L_law_702 2 rfl ?_
                                      refine aw_aload_n d_L_law_703 0 rfl ?_
                                      refine aw_iload_n d_L_law_704 3 rfl ?_
                                      refine aw_iconst d_L_law_705 ki_1 ?_
                                      refine aw_iadd d_L_law_706 ?_
                                      refine aw_sald d_L_law_707 ?_
                                      refine aw_aload_n d_L_law_708 0 rfl ?_
                                      refine aw_iload_n d_L_law_709 3 rfl ?_
                                      refine aw_iconst d_L_law_710 ki_2 ?_
                                      refine aw_iadd d_L_law_711 ?_
                                      refine aw_sald d_L_law_712 ?_
                                      refine aw_aload_n d_L_law_713 0 rfl ?_
                                      refine aw_iload_n d_L_law_714 3 rfl ?_
                                      refine aw_iconst d_L_law_715 ki_3 ?_
                                      refine aw_iadd d_L_law_716 ?_
                                      refine aw_sald d_L_law_717 ?_
                                      refine aw_V_m (As := [.int (gI δ_699 0 (ix (v3 + (1 : Int32)))), .int (gI δ_699 0 (ix (v3 + (2 : Int32)))), .int (gI δ_699 0 (ix (v3 + (3 : Int32))))]) (m_Mo_again) cv_L_82 kd_151 rfl rfl rfl (Nat.le_of_ble_eq_true rfl) ⟨Nat.le_of_ble_eq_true rfl, Nat.le_of_ble_eq_true rfl⟩ ⟨by omega, by omega⟩ d_L_law_718 (fun y718 => ?_)
                                      refine aw_bI (fun v718 => ?_)
                                      refine aw_bD (fun δ_718 => ?_)
                                      refine aw_icmp_eq (tgt := 1459) d_L_law_721 rfl (fun q721 => ?_) (fun q721 => ?_)
                                      · refine aw_iinc (v := (v3 + (6 : Int32))) (lo' := [(3, .int (v3 + (6 : Int32))), (0, .ref 0), (1, .ref 4), (2, .ref 151)]) d_L_law_1459 3 rfl (by rw [show Int32.ofInt (6) = (6 : Int32) from by decide]) (by decide) rfl ?_
                                        refine aw_goto (tgt := 18) d_L_law_1462 rfl ?_
                                        refine aw_sub (lo' := [(0, .ref 0), (1, .ref 4), (2, .ref 151), (3, .int (v3 + (6 : Int32)))]) [1, 2, 3, 0] rfl ?_
                                        exact ih _ _ _ _ _ (by omega) (by omega)
                                      · refine aw_iconst d_L_law_724 ki_0 ?_
                                        exact aw_zret rfl rfl rfl ⟨by omega, by omega⟩ d_L_law_725
                                    · refine aw_ite (fun q33 => ?_) (fun q33_16 => ?_)
                                      · refine aw_tswitch (tgt := 726) d_L_law_33 q33 (by decide) (by decide) rfl rfl ?_
                                        refine aw_aload_n d_L_law_726 1 rfl ?_
                                        refine aw_aload_n d_L_law_727 0 rfl ?_
                                        refine aw_iload_n d_L_law_728 3 rfl ?_
                                        refine aw_iconst d_L_law_729 ki_1 ?_
                                        refine aw_iadd d_L_law_730 ?_
                                        refine aw_sald d_L_law_731 ?_
                                        refine aw_aload_n d_L_law_732 0 rfl ?_
                                        refine aw_iload_n d_L_law_733 3 rfl ?_
                                        refine aw_iconst d_L_law_734 ki_2 ?_
                                        refine aw_iadd d_L_law_735 ?_
                                        refine aw_sald d_L_law_736 ?_
                                        refine aw_aload_n d_L_law_737 0 rfl ?_
                                        refine aw_iload_n d_L_law_738 3 rfl ?_
                                        refine aw_iconst d_L_law_739 ki_3 ?_
                                        refine aw_iadd d_L_law_740 ?_
                                        refine aw_sald d_L_law_741 ?_
                                        refine aw_V_m (As := [.int (gI δ18 0 (ix (v3 + (1 : Int32)))), .int (gI δ18 0 (ix (v3 + (2 : Int32)))), .int (gI δ18 0 (ix (v3 + (3 : Int32))))]) (m_Fp_with) cv_L_83 kd_4 rfl rfl rfl (Nat.le_of_ble_eq_true rfl) ⟨Nat.le_of_ble_eq_true rfl, Nat.le_of_ble_eq_true rfl⟩ ⟨by omega, by omega⟩ d_L_law_742 (fun y742 => ?_)
                                        refine aw_bI (fun v742 => ?_)
                                        refine aw_bD (fun δ_742 => ?_)
                                        refine aw_aload_n d_L_law_745 2 rfl ?_
                                        refine aw_aload_n d_L_law_746 0 rfl ?_
                                        refine aw_iload_n d_L_law_747 3 rfl ?_
                                        refine aw_iconst d_L_law_748 ki_1 ?_
                                        refine aw_iadd d_L_law_749 ?_
                                        refine aw_sald d_L_law_750 ?_
                                        refine aw_aload_n d_L_law_751 0 rfl ?_
                                        refine aw_iload_n d_L_law_752 3 rfl ?_
                                        refine aw_iconst d_L_law_753 ki_2 ?_
                                        refine aw_iadd d_L_law_754 ?_
                                        refine aw_sald d_L_law_755 ?_
                                        refine aw_aload_n d_L_law_756 0 rfl ?_
                                        refine aw_iload_n d_L_law_757 3 rfl ?_
                                        refine aw_iconst d_L_law_758 ki_3 ?_
                                        refine aw_iadd d_L_law_759 ?_
                                        refine aw_sald d_L_law_760 ?_
                                        refine aw_V_m (As := [.int (gI δ_742 0 (ix (v3 + (1 : Int32)))), .int (gI δ_742 0 (ix (v3 + (2 : Int32)))), .int (gI δ_742 0 (ix (v3 + (3 : Int32))))]) (m_Mo_with) cv_L_86 kd_151 rfl rfl rfl (Nat.le_of_ble_eq_true rfl) ⟨Nat.le_of_ble_eq_true rfl, Nat.le_of_ble_eq_true rfl⟩ ⟨by omega, by omega⟩ d_L_law_761 (fun y761 => ?_)
                                        refine aw_bI (fun v761 => ?_)
                                        refine aw_bD (fun δ_761 => ?_)
                                        refine aw_icmp_eq (tgt := 1459) d_L_law_764 rfl (fun q764 => ?_) (fun q764 => ?_)
                                        · refine aw_iinc (v := (v3 + (6 : Int32))) (lo' := [(3, .int (v3 + (6 : Int32))), (0, .ref 0), (1, .ref 4), (2, .ref 151)]) d_L_law_1459 3 rfl (by rw [show Int32.ofInt (6) = (6 : Int32) from by decide]) (by decide) rfl ?_
                                          refine aw_goto (tgt := 18) d_L_law_1462 rfl ?_
                                          refine aw_sub (lo' := [(0, .ref 0), (1, .ref 4), (2, .ref 151), (3, .int (v3 + (6 : Int32)))]) [1, 2, 3, 0] rfl ?_
                                          exact ih _ _ _ _ _ (by omega) (by omega)
                                        · refine aw_iconst d_L_law_767 ki_0 ?_
                                          exact aw_zret rfl rfl rfl ⟨by omega, by omega⟩ d_L_law_768
                                      · refine aw_ite (fun q33 => ?_) (fun q33_17 => ?_)
                                        · refine aw_tswitch (tgt := 769) d_L_law_33 q33 (by decide) (by decide) rfl rfl ?_
                                          refine aw_aload_n d_L_law_769 1 rfl ?_
                                          refine aw_aload_n d_L_law_770 0 rfl ?_
                                          refine aw_iload_n d_L_law_771 3 rfl ?_
                                          refine aw_iconst d_L_law_772 ki_1 ?_
                                          refine aw_iadd d_L_law_773 ?_
                                          refine aw_sald d_L_law_774 ?_
                                          refine aw_aload_n d_L_law_775 0 rfl ?_
                                          refine aw_iload_n d_L_law_776 3 rfl ?_
                                          refine aw_iconst d_L_law_777 ki_2 ?_
                                          refine aw_iadd d_L_law_778 ?_
                                          refine aw_sald d_L_law_779 ?_
                                          refine aw_V_m (As := [.int (gI δ18 0 (ix (v3 + (1 : Int32)))), .int (gI δ18 0 (ix (v3 + (2 : Int32))))]) (m_Fp_finest) cv_L_87 kd_4 rfl rfl rfl (Nat.le_of_ble_eq_true rfl) ⟨Nat.le_of_ble_eq_true rfl, Nat.le_of_ble_eq_true rfl⟩ ⟨by omega, by omega⟩ d_L_law_780 (fun y780 => ?_)
                                          refine aw_bI (fun v780 => ?_)
                                          refine aw_bD (fun δ_780 => ?_)
                                          refine aw_aload_n d_L_law_783 2 rfl ?_
                                          refine aw_aload_n d_L_law_784 0 rfl ?_
                                          refine aw_iload_n d_L_law_785 3 rfl ?_
                                          refine aw_iconst d_L_law_786 ki_1 ?_
                                          refine aw_iadd d_L_law_787 ?_
                                          refine aw_sald d_L_law_788 ?_
                                          refine aw_aload_n d_L_law_789 0 rfl ?_
                                          refine aw_iload_n d_L_law_790 3 rfl ?_
                                          refine aw_iconst d_L_law_791 ki_2 ?_
                                          refine aw_iadd d_L_law_792 ?_
                                          refine aw_sald d_L_law_793 ?_
                                          refine aw_V_m (As := [.int (gI δ_780 0 (ix (v3 + (1 : Int32)))), .int (gI δ_780 0 (ix (v3 + (2 : Int32))))]) (m_Mo_finest) cv_L_90 kd_151 rfl rfl rfl (Nat.le_of_ble_eq_true rfl) ⟨Nat.le_of_ble_eq_true rfl, Nat.le_of_ble_eq_true rfl⟩ ⟨by omega, by omega⟩ d_L_law_794 (fun y794 => ?_)
                                          refine aw_bI (fun v794 => ?_)
                                          refine aw_bD (fun δ_794 => ?_)
                                          refine aw_icmp_eq (tgt := 1459) d_L_law_797 rfl (fun q797 => ?_) (fun q797 => ?_)
                                          · refine aw_iinc (v := (v3 + (6 : Int32))) (lo' := [(3, .int (v3 + (6 : Int32))), (0, .ref 0), (1, .ref 4), (2, .ref 151)]) d_L_law_1459 3 rfl (by rw [show Int32.ofInt (6) = (6 : Int32) from by decide]) (by decide) rfl ?_
                                            refine aw_goto (tgt := 18) d_L_law_1462 rfl ?_
                                            refine aw_sub (lo' := [(0, .ref 0), (1, .ref 4), (2, .ref 151), (3, .int (v3 + (6 : Int32)))]) [1, 2, 3, 0] rfl ?_
                                            exact ih _ _ _ _ _ (by omega) (by omega)
                                          · refine aw_iconst d_L_law_800 ki_0 ?_
                                            exact aw_zret rfl rfl rfl ⟨by omega, by omega⟩ d_L_law_801
                                        · refine aw_ite (fun q33 => ?_) (fun q33_18 => ?_)
                                          · refine aw_tswitch (tgt := 802) d_L_law_33 q33 (by decide) (by decide) rfl rfl ?_
                                            refine aw_aload_n d_L_law_802 1 rfl ?_
                                            refine aw_aload_n d_L_law_803 0 rfl ?_
                                            refine aw_iload_n d_L_law_804 3 rfl ?_
                                            refine aw_iconst d_L_law_805 ki_1 ?_
                                            refine aw_iadd d_L_law_806 ?_
                                            refine aw_sald d_L_law_807 ?_
                                            refine aw_aload_n d_L_law_808 0 rfl ?_
                                            refine aw_iload_n d_L_law_809 3 rfl ?_
                                            refine aw_iconst d_L_law_810 ki_2 ?_
                                            refine aw_iadd d_L_law_811 ?_
                                            refine aw_sald d_L_law_812 ?_
                                            refine aw_aload_n d_L_law_813 0 rfl ?_
                                            refine aw_iload_n d_L_law_814 3 rfl ?_
                                            refine aw_iconst d_L_law_815 ki_3 ?_
                                            refine aw_iadd d_L_law_816 ?_
                                            refine aw_sald d_L_law_817 ?_
                                            refine aw_aload_n d_L_law_818 0 rfl ?_
                                            refine aw_iload_n d_L_law_819 3 rfl ?_
                                            refine aw_iconst d_L_law_820 ki_4 ?_
                                            refine aw_iadd d_L_law_821 ?_
                                            refine aw_sald d_L_law_822 ?_
                                            refine aw_V_m (As := [.int (gI δ18 0 (ix (v3 + (1 : Int32)))), .int (gI δ18 0 (ix (v3 + (2 : Int32)))), .int (gI δ18 0 (ix (v3 + (3 : Int32)))), .int (gI δ18 0 (ix (v3 + (4 : Int32))))]) (m_Fp_reading) cv_L_91 kd_4 rfl rfl rfl (Nat.le_of_ble_eq_true rfl) ⟨Nat.le_of_ble_eq_true rfl, Nat.le_of_ble_eq_true rfl⟩ ⟨by omega, by omega⟩ d_L_law_823 (fun y823 => ?_)
                                            refine aw_bI (fun v823 => ?_)
                                            refine aw_bD (fun δ_823 => ?_)
                                            refine aw_aload_n d_L_law_826 2 rfl ?_
                                            refine aw_aload_n d_L_law_827 0 rfl ?_
                                            refine aw_iload_n d_L_law_828 3 rfl ?_
                                            refine aw_iconst d_L_law_829 ki_1 ?_
                                            refine aw_iadd d_L_law_830 ?_
                                            refine aw_sald d_L_law_831 ?_
                                            refine aw_aload_n d_L_law_832 0 rfl ?_
                                            refine aw_iload_n d_L_law_833 3 rfl ?_
                                            refine aw_iconst d_L_law_834 ki_2 ?_
                                            refine aw_iadd d_L_law_835 ?_
                                            refine aw_sald d_L_law_836 ?_
                                            refine aw_aload_n d_L_law_837 0 rfl ?_
                                            refine aw_iload_n d_L_law_838 3 rfl ?_
                                            refine aw_iconst d_L_law_839 ki_3 ?_
                                            refine aw_iadd d_L_law_840 ?_
                                            refine aw_sald d_L_law_841 ?_
                                            refine aw_aload_n d_L_law_842 0 rfl ?_
                                            refine aw_iload_n d_L_law_843 3 rfl ?_
                                            refine aw_iconst d_L_law_844 ki_4 ?_
                                            refine aw_iadd d_L_law_845 ?_
                                            refine aw_sald d_L_law_846 ?_
                                            refine aw_V_m (As := [.int (gI δ_823 0 (ix (v3 + (1 : Int32)))), .int (gI δ_823 0 (ix (v3 + (2 : Int32)))), .int (gI δ_823 0 (ix (v3 + (3 : Int32)))), .int (gI δ_823 0 (ix (v3 + (4 : Int32))))]) (m_Mo_reading) cv_L_95 kd_151 rfl rfl rfl (Nat.le_of_ble_eq_true rfl) ⟨Nat.le_of_ble_eq_true rfl, Nat.le_of_ble_eq_true rfl⟩ ⟨by omega, by omega⟩ d_L_law_847 (fun y847 => ?_)
                                            refine aw_bI (fun v847 => ?_)
                                            refine aw_bD (fun δ_847 => ?_)
                                            refine aw_icmp_eq (tgt := 1459) d_L_law_850 rfl (fun q850 => ?_) (fun q850 => ?_)
                                            · refine aw_iinc (v := (v3 + (6 : Int32))) (lo' := [(3, .int (v3 + (6 : Int32))), (0, .ref 0), (1, .ref 4), (2, .ref 151)]) d_L_law_1459 3 rfl (by rw [show Int32.ofInt (6) = (6 : Int32) from by decide]) (by decide) rfl ?_
                                              refine aw_goto (tgt := 18) d_L_law_1462 rfl ?_
                                              refine aw_sub (lo' := [(0, .ref 0), (1, .ref 4), (2, .ref 151), (3, .int (v3 + (6 : Int32)))]) [1, 2, 3, 0] rfl ?_
                                              exact ih _ _ _ _ _ (by omega) (by omega)
                                            · refine aw_iconst d_L_law_853 ki_0 ?_
                                              exact aw_zret rfl rfl rfl ⟨by omega, by omega⟩ d_L_law_854
                                          · refine aw_ite (fun q33 => ?_) (fun q33_19 => ?_)
                                            · refine aw_tswitch (tgt := 855) d_L_law_33 q33 (by decide) (by decide) rfl rfl ?_
                                              refine aw_aload_n d_L_law_855 1 rfl ?_
                                              refine aw_aload_n d_L_law_856 0 rfl ?_
                                              refine aw_iload_n d_L_law_857 3 rfl ?_
                                              refine aw_iconst d_L_law_858 ki_1 ?_
                                              refine aw_iadd d_L_law_859 ?_
                                              refine aw_sald d_L_law_860 ?_
                                              refine aw_aload_n d_L_law_861 0 rfl ?_
                                              refine aw_iload_n d_L_law_862 3 rfl ?_
                                              refine aw_iconst d_L_law_863 ki_2 ?_
                                              refine aw_iadd d_L_law_864 ?_
                                              refine aw_sald d_L_law_865 ?_
                                              refine aw_aload_n d_L_law_866 0 rfl ?_
                                              refine aw_iload_n d_L_law_867 3 rfl ?_
                                              refine aw_iconst d_L_law_868 ki_3 ?_
                                              refine aw_iadd d_L_law_869 ?_
                                              refine aw_sald d_L_law_870 ?_
                                              refine aw_V_p (As := [.int (gI δ18 0 (ix (v3 + (1 : Int32)))), .int (gI δ18 0 (ix (v3 + (2 : Int32)))), .int (gI δ18 0 (ix (v3 + (3 : Int32))))]) (m_Fp_agree) cv_L_96 kd_4 rfl rfl rfl (Nat.le_of_ble_eq_true rfl) ⟨Nat.le_of_ble_eq_true rfl, Nat.le_of_ble_eq_true rfl⟩ ⟨by omega, by omega⟩ d_L_law_871 (fun y871 => ?_)
                                              refine aw_aload_n d_L_law_874 2 rfl ?_
                                              refine aw_aload_n d_L_law_875 0 rfl ?_
                                              refine aw_iload_n d_L_law_876 3 rfl ?_
                                              refine aw_iconst d_L_law_877 ki_1 ?_
                                              refine aw_iadd d_L_law_878 ?_
                                              refine aw_sald d_L_law_879 ?_
                                              refine aw_aload_n d_L_law_880 0 rfl ?_
                                              refine aw_iload_n d_L_law_881 3 rfl ?_
                                              refine aw_iconst d_L_law_882 ki_2 ?_
                                              refine aw_iadd d_L_law_883 ?_
                                              refine aw_sald d_L_law_884 ?_
                                              refine aw_aload_n d_L_law_885 0 rfl ?_
                                              refine aw_iload_n d_L_law_886 3 rfl ?_
                                              refine aw_iconst d_L_law_887 ki_3 ?_
                                              refine aw_iadd d_L_law_888 ?_
                                              refine aw_sald d_L_law_889 ?_
                                              refine aw_V_p (As := [.int (gI δ18 0 (ix (v3 + (1 : Int32)))), .int (gI δ18 0 (ix (v3 + (2 : Int32)))), .int (gI δ18 0 (ix (v3 + (3 : Int32))))]) (m_Mo_agree) cv_L_99 kd_151 rfl rfl rfl (Nat.le_of_ble_eq_true rfl) ⟨Nat.le_of_ble_eq_true rfl, Nat.le_of_ble_eq_true rfl⟩ ⟨by omega, by omega⟩ d_L_law_890 (fun y890 => ?_)
                                              refine aw_icmp_eq (tgt := 1459) d_L_law_893 rfl (fun q893 => ?_) (fun q893 => ?_)
                                              · refine aw_iinc (v := (v3 + (6 : Int32))) (lo' := [(3, .int (v3 + (6 : Int32))), (0, .ref 0), (1, .ref 4), (2, .ref 151)]) d_L_law_1459 3 rfl (by rw [show Int32.ofInt (6) = (6 : Int32) from by decide]) (by decide) rfl ?_
                                                refine aw_goto (tgt := 18) d_L_law_1462 rfl ?_
                                                refine aw_sub (lo' := [(0, .ref 0), (1, .ref 4), (2, .ref 151), (3, .int (v3 + (6 : Int32)))]) [1, 2, 3, 0] rfl ?_
                                                exact ih _ _ _ _ _ (by omega) (by omega)
                                              · refine aw_iconst d_L_law_896 ki_0 ?_
                                                exact aw_zret rfl rfl rfl ⟨by omega, by omega⟩ d_L_law_897
                                            · refine aw_ite (fun q33 => ?_) (fun q33_20 => ?_)
                                              · refine aw_tswitch (tgt := 898) d_L_law_33 q33 (by decide) (by decide) rfl rfl ?_
                                                refine aw_aload_n d_L_law_898 1 rfl ?_
                                                refine aw_aload_n d_L_law_899 0 rfl ?_
                                                refine aw_iload_n d_L_law_900 3 rfl ?_
                                                refine aw_iconst d_L_law_901 ki_1 ?_
                                                refine aw_iadd d_L_law_902 ?_
                                                refine aw_sald d_L_law_903 ?_
                                                refine aw_aload_n d_L_law_904 0 rfl ?_
                                                refine aw_iload_n d_L_law_905 3 rfl ?_
                                                refine aw_iconst d_L_law_906 ki_2 ?_
                                                refine aw_iadd d_L_law_907 ?_
                                                refine aw_sald d_L_law_908 ?_
                                                refine aw_aload_n d_L_law_909 0 rfl ?_
                                                refine aw_iload_n d_L_law_910 3 rfl ?_
                                                refine aw_iconst d_L_law_911 ki_3 ?_
                                                refine aw_iadd d_L_law_912 ?_
                                                refine aw_sald d_L_law_913 ?_
                                                refine aw_V_m (As := [.int (gI δ18 0 (ix (v3 + (1 : Int32)))), .int (gI δ18 0 (ix (v3 + (2 : Int32)))), .int (gI δ18 0 (ix (v3 + (3 : Int32))))]) (m_Fp_claim) cv_L_100 kd_4 rfl rfl rfl (Nat.le_of_ble_eq_true rfl) ⟨Nat.le_of_ble_eq_true rfl, Nat.le_of_ble_eq_true rfl⟩ ⟨by omega, by omega⟩ d_L_law_914 (fun y914 => ?_)
                                                refine aw_bI (fun v914 => ?_)
                                                refine aw_bD (fun δ_914 => ?_)
                                                refine aw_aload_n d_L_law_917 2 rfl ?_
                                                refine aw_aload_n d_L_law_918 0 rfl ?_
                                                refine aw_iload_n d_L_law_919 3 rfl ?_
                                                refine aw_iconst d_L_law_920 ki_1 ?_
                                                refine aw_iadd d_L_law_921 ?_
                                                refine aw_sald d_L_law_922 ?_
                                                refine aw_aload_n d_L_law_923 0 rfl ?_
                                                refine aw_iload_n d_L_law_924 3 rfl ?_
                                                refine aw_iconst d_L_law_925 ki_2 ?_
                                                refine aw_iadd d_L_law_926 ?_
                                                refine aw_sald d_L_law_927 ?_
                                                refine aw_aload_n d_L_law_928 0 rfl ?_
                                                refine aw_iload_n d_L_law_929 3 rfl ?_
                                                refine aw_iconst d_L_law_930 ki_3 ?_
                                                refine aw_iadd d_L_law_931 ?_
                                                refine aw_sald d_L_law_932 ?_
                                                refine aw_V_m (As := [.int (gI δ_914 0 (ix (v3 + (1 : Int32)))), .int (gI δ_914 0 (ix (v3 + (2 : Int32)))), .int (gI δ_914 0 (ix (v3 + (3 : Int32))))]) (m_Mo_claim) cv_L_103 kd_151 rfl rfl rfl (Nat.le_of_ble_eq_true rfl) ⟨Nat.le_of_ble_eq_true rfl, Nat.le_of_ble_eq_true rfl⟩ ⟨by omega, by omega⟩ d_L_law_933 (fun y933 => ?_)
                                                refine aw_bI (fun v933 => ?_)
                                                refine aw_bD (fun δ_933 => ?_)
                                                refine aw_icmp_eq (tgt := 1459) d_L_law_936 rfl (fun q936 => ?_) (fun q936 => ?_)
                                                · refine aw_iinc (v := (v3 + (6 : Int32))) (lo' := [(3, .int (v3 + (6 : Int32))), (0, .ref 0), (1, .ref 4), (2, .ref 151)]) d_L_law_1459 3 rfl (by rw [show Int32.ofInt (6) = (6 : Int32) from by decide]) (by decide) rfl ?_
                                                  refine aw_goto (tgt := 18) d_L_law_1462 rfl ?_
                                                  refine aw_sub (lo' := [(0, .ref 0), (1, .ref 4), (2, .ref 151), (3, .int (v3 + (6 : Int32)))]) [1, 2, 3, 0] rfl ?_
                                                  exact ih _ _ _ _ _ (by omega) (by omega)
                                                · refine aw_iconst d_L_law_939 ki_0 ?_
                                                  exact aw_zret rfl rfl rfl ⟨by omega, by omega⟩ d_L_law_940
                                              · refine aw_ite (fun q33 => ?_) (fun q33_21 => ?_)
                                                · refine aw_tswitch (tgt := 941) d_L_law_33 q33 (by decide) (by decide) rfl rfl ?_
                                                  refine aw_aload_n d_L_law_941 1 rfl ?_
                                                  refine aw_aload_n d_L_law_942 0 rfl ?_
                                                  refine aw_iload_n d_L_law_943 3 rfl ?_
                                                  refine aw_iconst d_L_law_944 ki_1 ?_
                                                  refine aw_iadd d_L_law_945 ?_
                                                  refine aw_sald d_L_law_946 ?_
                                                  refine aw_aload_n d_L_law_947 0 rfl ?_
                                                  refine aw_iload_n d_L_law_948 3 rfl ?_
                                                  refine aw_iconst d_L_law_949 ki_2 ?_
                                                  refine aw_iadd d_L_law_950 ?_
                                                  refine aw_sald d_L_law_951 ?_
                                                  refine aw_V_m (As := [.int (gI δ18 0 (ix (v3 + (1 : Int32)))), .int (gI δ18 0 (ix (v3 + (2 : Int32))))]) (m_Fp_fair) cv_L_104 kd_4 rfl rfl rfl (Nat.le_of_ble_eq_true rfl) ⟨Nat.le_of_ble_eq_true rfl, Nat.le_of_ble_eq_true rfl⟩ ⟨by omega, by omega⟩ d_L_law_952 (fun y952 => ?_)
                                                  refine aw_bI (fun v952 => ?_)
                                                  refine aw_bD (fun δ_952 => ?_)
                                                  refine aw_aload_n d_L_law_955 2 rfl ?_
                                                  refine aw_aload_n d_L_law_956 0 rfl ?_
                                                  refine aw_iload_n d_L_law_957 3 rfl ?_
                                                  refine aw_iconst d_L_law_958 ki_1 ?_
                                                  refine aw_iadd d_L_law_959 ?_
                                                  refine aw_sald d_L_law_960 ?_
                                                  refine aw_aload_n d_L_law_961 0 rfl ?_
                                                  refine aw_iload_n d_L_law_962 3 rfl ?_
                                                  refine aw_iconst d_L_law_963 ki_2 ?_
                                                  refine aw_iadd d_L_law_964 ?_
                                                  refine aw_sald d_L_law_965 ?_
                                                  refine aw_V_m (As := [.int (gI δ_952 0 (ix (v3 + (1 : Int32)))), .int (gI δ_952 0 (ix (v3 + (2 : Int32))))]) (m_Mo_fair) cv_L_107 kd_151 rfl rfl rfl (Nat.le_of_ble_eq_true rfl) ⟨Nat.le_of_ble_eq_true rfl, Nat.le_of_ble_eq_true rfl⟩ ⟨by omega, by omega⟩ d_L_law_966 (fun y966 => ?_)
                                                  refine aw_bI (fun v966 => ?_)
                                                  refine aw_bD (fun δ_966 => ?_)
                                                  refine aw_icmp_eq (tgt := 1459) d_L_law_969 rfl (fun q969 => ?_) (fun q969 => ?_)
                                                  · refine aw_iinc (v := (v3 + (6 : Int32))) (lo' := [(3, .int (v3 + (6 : Int32))), (0, .ref 0), (1, .ref 4), (2, .ref 151)]) d_L_law_1459 3 rfl (by rw [show Int32.ofInt (6) = (6 : Int32) from by decide]) (by decide) rfl ?_
                                                    refine aw_goto (tgt := 18) d_L_law_1462 rfl ?_
                                                    refine aw_sub (lo' := [(0, .ref 0), (1, .ref 4), (2, .ref 151), (3, .int (v3 + (6 : Int32)))]) [1, 2, 3, 0] rfl ?_
                                                    exact ih _ _ _ _ _ (by omega) (by omega)
                                                  · refine aw_iconst d_L_law_972 ki_0 ?_
                                                    exact aw_zret rfl rfl rfl ⟨by omega, by omega⟩ d_L_law_973
                                                · refine aw_ite (fun q33 => ?_) (fun q33_22 => ?_)
                                                  · refine aw_tswitch (tgt := 974) d_L_law_33 q33 (by decide) (by decide) rfl rfl ?_
                                                    refine aw_aload_n d_L_law_974 1 rfl ?_
                                                    refine aw_aload_n d_L_law_975 0 rfl ?_
                                                    refine aw_iload_n d_L_law_976 3 rfl ?_
                                                    refine aw_iconst d_L_law_977 ki_1 ?_
                                                    refine aw_iadd d_L_law_978 ?_
                                                    refine aw_sald d_L_law_979 ?_
                                                    refine aw_V_p (As := [.int (gI δ18 0 (ix (v3 + (1 : Int32))))]) (m_Fp_suspect) cv_L_108 kd_4 rfl rfl rfl (Nat.le_of_ble_eq_true rfl) ⟨Nat.le_of_ble_eq_true rfl, Nat.le_of_ble_eq_true rfl⟩ ⟨by omega, by omega⟩ d_L_law_980 (fun y980 => ?_)
                                                    refine aw_aload_n d_L_law_983 2 rfl ?_
                                                    refine aw_aload_n d_L_law_984 0 rfl ?_
                                                    refine aw_iload_n d_L_law_985 3 rfl ?_
                                                    refine aw_iconst d_L_law_986 ki_1 ?_
                                                    refine aw_iadd d_L_law_987 ?_
                                                    refine aw_sald d_L_law_988 ?_
                                                    refine aw_V_p (As := [.int (gI δ18 0 (ix (v3 + (1 : Int32))))]) (m_Mo_suspect) cv_L_111 kd_151 rfl rfl rfl (Nat.le_of_ble_eq_true rfl) ⟨Nat.le_of_ble_eq_true rfl, Nat.le_of_ble_eq_true rfl⟩ ⟨by omega, by omega⟩ d_L_law_989 (fun y989 => ?_)
                                                    refine aw_icmp_eq (tgt := 1459) d_L_law_992 rfl (fun q992 => ?_) (fun q992 => ?_)
                                                    · refine aw_iinc (v := (v3 + (6 : Int32))) (lo' := [(3, .int (v3 + (6 : Int32))), (0, .ref 0), (1, .ref 4), (2, .ref 151)]) d_L_law_1459 3 rfl (by rw [show Int32.ofInt (6) = (6 : Int32) from by decide]) (by decide) rfl ?_
                                                      refine aw_goto (tgt := 18) d_L_law_1462 rfl ?_
                                                      refine aw_sub (lo' := [(0, .ref 0), (1, .ref 4), (2, .ref 151), (3, .int (v3 + (6 : Int32)))]) [1, 2, 3, 0] rfl ?_
                                                      exact ih _ _ _ _ _ (by omega) (by omega)
                                                    · refine aw_iconst d_L_law_995 ki_0 ?_
                                                      exact aw_zret rfl rfl rfl ⟨by omega, by omega⟩ d_L_law_996
                                                  · refine aw_ite (fun q33 => ?_) (fun q33_23 => ?_)
                                                    · refine aw_tswitch (tgt := 997) d_L_law_33 q33 (by decide) (by decide) rfl rfl ?_
                                                      refine aw_aload_n d_L_law_997 1 rfl ?_
                                                      refine aw_aload_n d_L_law_998 0 rfl ?_
                                                      refine aw_iload_n d_L_law_999 3 rfl ?_
                                                      refine aw_iconst d_L_law_1000 ki_1 ?_
                                                      refine aw_iadd d_L_law_1001 ?_
                                                      refine aw_sald d_L_law_1002 ?_
                                                      refine aw_aload_n d_L_law_1003 0 rfl ?_
                                                      refine aw_iload_n d_L_law_1004 3 rfl ?_
                                                      refine aw_iconst d_L_law_1005 ki_2 ?_
                                                      refine aw_iadd d_L_law_1006 ?_
                                                      refine aw_sald d_L_law_1007 ?_
                                                      refine aw_V_m (As := [.int (gI δ18 0 (ix (v3 + (1 : Int32)))), .int (gI δ18 0 (ix (v3 + (2 : Int32))))]) (m_Fp_refused) cv_L_112 kd_4 rfl rfl rfl (Nat.le_of_ble_eq_true rfl) ⟨Nat.le_of_ble_eq_true rfl, Nat.le_of_ble_eq_true rfl⟩ ⟨by omega, by omega⟩ d_L_law_1008 (fun y1008 => ?_)
                                                      refine aw_bI (fun v1008 => ?_)
                                                      refine aw_bD (fun δ_1008 => ?_)
                                                      refine aw_aload_n d_L_law_1011 2 rfl ?_
                                                      refine aw_aload_n d_L_law_1012 0 rfl ?_
                                                      refine aw_iload_n d_L_law_1013 3 rfl ?_
                                                      refine aw_iconst d_L_law_1014 ki_1 ?_
                                                      refine aw_iadd d_L_law_1015 ?_
                                                      refine aw_sald d_L_law_1016 ?_
                                                      refine aw_aload_n d_L_law_1017 0 rfl ?_
                                                      refine aw_iload_n d_L_law_1018 3 rfl ?_
                                                      refine aw_iconst d_L_law_1019 ki_2 ?_
                                                      refine aw_iadd d_L_law_1020 ?_
                                                      refine aw_sald d_L_law_1021 ?_
                                                      refine aw_V_m (As := [.int (gI δ_1008 0 (ix (v3 + (1 : Int32)))), .int (gI δ_1008 0 (ix (v3 + (2 : Int32))))]) (m_Mo_refused) cv_L_115 kd_151 rfl rfl rfl (Nat.le_of_ble_eq_true rfl) ⟨Nat.le_of_ble_eq_true rfl, Nat.le_of_ble_eq_true rfl⟩ ⟨by omega, by omega⟩ d_L_law_1022 (fun y1022 => ?_)
                                                      refine aw_bI (fun v1022 => ?_)
                                                      refine aw_bD (fun δ_1022 => ?_)
                                                      refine aw_icmp_eq (tgt := 1459) d_L_law_1025 rfl (fun q1025 => ?_) (fun q1025 => ?_)
                                                      · refine aw_iinc (v := (v3 + (6 : Int32))) (lo' := [(3, .int (v3 + (6 : Int32))), (0, .ref 0), (1, .ref 4), (2, .ref 151)]) d_L_law_1459 3 rfl (by rw [show Int32.ofInt (6) = (6 : Int32) from by decide]) (by decide) rfl ?_
                                                        refine aw_goto (tgt := 18) d_L_law_1462 rfl ?_
                                                        refine aw_sub (lo' := [(0, .ref 0), (1, .ref 4), (2, .ref 151), (3, .int (v3 + (6 : Int32)))]) [1, 2, 3, 0] rfl ?_
                                                        exact ih _ _ _ _ _ (by omega) (by omega)
                                                      · refine aw_iconst d_L_law_1028 ki_0 ?_
                                                        exact aw_zret rfl rfl rfl ⟨by omega, by omega⟩ d_L_law_1029
                                                    · refine aw_ite (fun q33 => ?_) (fun q33_24 => ?_)
                                                      · refine aw_tswitch (tgt := 1030) d_L_law_33 q33 (by decide) (by decide) rfl rfl ?_
                                                        refine aw_aload_n d_L_law_1030 1 rfl ?_
                                                        refine aw_aload_n d_L_law_1031 0 rfl ?_
                                                        refine aw_iload_n d_L_law_1032 3 rfl ?_
                                                        refine aw_iconst d_L_law_1033 ki_1 ?_
                                                        refine aw_iadd d_L_law_1034 ?_
                                                        refine aw_sald d_L_law_1035 ?_
                                                        refine aw_aload_n d_L_law_1036 0 rfl ?_
                                                        refine aw_iload_n d_L_law_1037 3 rfl ?_
                                                        refine aw_iconst d_L_law_1038 ki_2 ?_
                                                        refine aw_iadd d_L_law_1039 ?_
                                                        refine aw_sald d_L_law_1040 ?_
                                                        refine aw_V_m (As := [.int (gI δ18 0 (ix (v3 + (1 : Int32)))), .int (gI δ18 0 (ix (v3 + (2 : Int32))))]) (m_Fp_newer) cv_L_116 kd_4 rfl rfl rfl (Nat.le_of_ble_eq_true rfl) ⟨Nat.le_of_ble_eq_true rfl, Nat.le_of_ble_eq_true rfl⟩ ⟨by omega, by omega⟩ d_L_law_1041 (fun y1041 => ?_)
                                                        refine aw_bI (fun v1041 => ?_)
                                                        refine aw_bD (fun δ_1041 => ?_)
                                                        refine aw_aload_n d_L_law_1044 2 rfl ?_
                                                        refine aw_aload_n d_L_law_1045 0 rfl ?_
                                                        refine aw_iload_n d_L_law_1046 3 rfl ?_
                                                        refine aw_iconst d_L_law_1047 ki_1 ?_
                                                        refine aw_iadd d_L_law_1048 ?_
                                                        refine aw_sald d_L_law_1049 ?_
                                                        refine aw_aload_n d_L_law_1050 0 rfl ?_
                                                        refine aw_iload_n d_L_law_1051 3 rfl ?_
                                                        refine aw_iconst d_L_law_1052 ki_2 ?_
                                                        refine aw_iadd d_L_law_1053 ?_
                                                        refine aw_sald d_L_law_1054 ?_
                                                        refine aw_V_m (As := [.int (gI δ_1041 0 (ix (v3 + (1 : Int32)))), .int (gI δ_1041 0 (ix (v3 + (2 : Int32))))]) (m_Mo_newer) cv_L_119 kd_151 rfl rfl rfl (Nat.le_of_ble_eq_true rfl) ⟨Nat.le_of_ble_eq_true rfl, Nat.le_of_ble_eq_true rfl⟩ ⟨by omega, by omega⟩ d_L_law_1055 (fun y1055 => ?_)
                                                        refine aw_bI (fun v1055 => ?_)
                                                        refine aw_bD (fun δ_1055 => ?_)
                                                        refine aw_icmp_eq (tgt := 1459) d_L_law_1058 rfl (fun q1058 => ?_) (fun q1058 => ?_)
                                                        · refine aw_iinc (v := (v3 + (6 : Int32))) (lo' := [(3, .int (v3 + (6 : Int32))), (0, .ref 0), (1, .ref 4), (2, .ref 151)]) d_L_law_1459 3 rfl (by rw [show Int32.ofInt (6) = (6 : Int32) from by decide]) (by decide) rfl ?_
                                                          refine aw_goto (tgt := 18) d_L_law_1462 rfl ?_
                                                          refine aw_sub (lo' := [(0, .ref 0), (1, .ref 4), (2, .ref 151), (3, .int (v3 + (6 : Int32)))]) [1, 2, 3, 0] rfl ?_
                                                          exact ih _ _ _ _ _ (by omega) (by omega)
                                                        · refine aw_iconst d_L_law_1061 ki_0 ?_
                                                          exact aw_zret rfl rfl rfl ⟨by omega, by omega⟩ d_L_law_1062
                                                      · refine aw_ite (fun q33 => ?_) (fun q33_25 => ?_)
                                                        · refine aw_tswitch (tgt := 1063) d_L_law_33 q33 (by decide) (by decide) rfl rfl ?_
                                                          refine aw_aload_n d_L_law_1063 1 rfl ?_
                                                          refine aw_aload_n d_L_law_1064 0 rfl ?_
                                                          refine aw_iload_n d_L_law_1065 3 rfl ?_
                                                          refine aw_iconst d_L_law_1066 ki_1 ?_
                                                          refine aw_iadd d_L_law_1067 ?_
                                                          refine aw_sald d_L_law_1068 ?_
                                                          refine aw_aload_n d_L_law_1069 0 rfl ?_
                                                          refine aw_iload_n d_L_law_1070 3 rfl ?_
                                                          refine aw_iconst d_L_law_1071 ki_2 ?_
                                                          refine aw_iadd d_L_law_1072 ?_
                                                          refine aw_sald d_L_law_1073 ?_
                                                          refine aw_aload_n d_L_law_1074 0 rfl ?_
                                                          refine aw_iload_n d_L_law_1075 3 rfl ?_
                                                          refine aw_iconst d_L_law_1076 ki_3 ?_
                                                          refine aw_iadd d_L_law_1077 ?_
                                                          refine aw_sald d_L_law_1078 ?_
                                                          refine aw_aload_n d_L_law_1079 0 rfl ?_
                                                          refine aw_iload_n d_L_law_1080 3 rfl ?_
                                                          refine aw_iconst d_L_law_1081 ki_4 ?_
                                                          refine aw_iadd d_L_law_1082 ?_
                                                          refine aw_sald d_L_law_1083 ?_
                                                          refine aw_V_m (As := [.int (gI δ18 0 (ix (v3 + (1 : Int32)))), .int (gI δ18 0 (ix (v3 + (2 : Int32)))), .int (gI δ18 0 (ix (v3 + (3 : Int32)))), .int (gI δ18 0 (ix (v3 + (4 : Int32))))]) (m_Fp_rent) cv_L_120 kd_4 rfl rfl rfl (Nat.le_of_ble_eq_true rfl) ⟨Nat.le_of_ble_eq_true rfl, Nat.le_of_ble_eq_true rfl⟩ ⟨by omega, by omega⟩ d_L_law_1084 (fun y1084 => ?_)
                                                          refine aw_bI (fun v1084 => ?_)
                                                          refine aw_bD (fun δ_1084 => ?_)
                                                          refine aw_aload_n d_L_law_1087 2 rfl ?_
                                                          refine aw_aload_n d_L_law_1088 0 rfl ?_
                                                          refine aw_iload_n d_L_law_1089 3 rfl ?_
                                                          refine aw_iconst d_L_law_1090 ki_1 ?_
                                                          refine aw_iadd d_L_law_1091 ?_
                                                          refine aw_sald d_L_law_1092 ?_
                                                          refine aw_aload_n d_L_law_1093 0 rfl ?_
                                                          refine aw_iload_n d_L_law_1094 3 rfl ?_
                                                          refine aw_iconst d_L_law_1095 ki_2 ?_
                                                          refine aw_iadd d_L_law_1096 ?_
                                                          refine aw_sald d_L_law_1097 ?_
                                                          refine aw_aload_n d_L_law_1098 0 rfl ?_
                                                          refine aw_iload_n d_L_law_1099 3 rfl ?_
                                                          refine aw_iconst d_L_law_1100 ki_3 ?_
                                                          refine aw_iadd d_L_law_1101 ?_
                                                          refine aw_sald d_L_law_1102 ?_
                                                          refine aw_aload_n d_L_law_1103 0 rfl ?_
                                                          refine aw_iload_n d_L_law_1104 3 rfl ?_
                                                          refine aw_iconst d_L_law_1105 ki_4 ?_
                                                          refine aw_iadd d_L_law_1106 ?_
                                                          refine aw_sald d_L_law_1107 ?_
                                                          refine aw_V_m (As := [.int (gI δ_1084 0 (ix (v3 + (1 : Int32)))), .int (gI δ_1084 0 (ix (v3 + (2 : Int32)))), .int (gI δ_1084 0 (ix (v3 + (3 : Int32)))), .int (gI δ_1084 0 (ix (v3 + (4 : Int32))))]) (m_Mo_rent) cv_L_123 kd_151 rfl rfl rfl (Nat.le_of_ble_eq_true rfl) ⟨Nat.le_of_ble_eq_true rfl, Nat.le_of_ble_eq_true rfl⟩ ⟨by omega, by omega⟩ d_L_law_1108 (fun y1108 => ?_)
                                                          refine aw_bI (fun v1108 => ?_)
                                                          refine aw_bD (fun δ_1108 => ?_)
                                                          refine aw_icmp_eq (tgt := 1459) d_L_law_1111 rfl (fun q1111 => ?_) (fun q1111 => ?_)
                                                          · refine aw_iinc (v := (v3 + (6 : Int32))) (lo' := [(3, .int (v3 + (6 : Int32))), (0, .ref 0), (1, .ref 4), (2, .ref 151)]) d_L_law_1459 3 rfl (by rw [show Int32.ofInt (6) = (6 : Int32) from by decide]) (by decide) rfl ?_
                                                            refine aw_goto (tgt := 18) d_L_law_1462 rfl ?_
                                                            refine aw_sub (lo' := [(0, .ref 0), (1, .ref 4), (2, .ref 151), (3, .int (v3 + (6 : Int32)))]) [1, 2, 3, 0] rfl ?_
                                                            exact ih _ _ _ _ _ (by omega) (by omega)
                                                          · refine aw_iconst d_L_law_1114 ki_0 ?_
                                                            exact aw_zret rfl rfl rfl ⟨by omega, by omega⟩ d_L_law_1115
                                                        · refine aw_ite (fun q33 => ?_) (fun q33_26 => ?_)
                                                          · refine aw_tswitch (tgt := 1116) d_L_law_33 q33 (by decide) (by decide) rfl rfl ?_
                                                            refine aw_aload_n d_L_law_1116 1 rfl ?_
                                                            refine aw_aload_n d_L_law_1117 0 rfl ?_
                                                            refine aw_iload_n d_L_law_1118 3 rfl ?_
                                                            refine aw_iconst d_L_law_1119 ki_1 ?_
                                                            refine aw_iadd d_L_law_1120 ?_
                                                            refine aw_sald d_L_law_1121 ?_
                                                            refine aw_aload_n d_L_law_1122 0 rfl ?_
                                                            refine aw_iload_n d_L_law_1123 3 rfl ?_
                                                            refine aw_iconst d_L_law_1124 ki_2 ?_
                                                            refine aw_iadd d_L_law_1125 ?_
                                                            refine aw_sald d_L_law_1126 ?_
                                                            refine aw_aload_n d_L_law_1127 0 rfl ?_
                                                            refine aw_iload_n d_L_law_1128 3 rfl ?_
                                                            refine aw_iconst d_L_law_1129 ki_3 ?_
                                                            refine aw_iadd d_L_law_1130 ?_
                                                            refine aw_sald d_L_law_1131 ?_
                                                            refine aw_V_m (As := [.int (gI δ18 0 (ix (v3 + (1 : Int32)))), .int (gI δ18 0 (ix (v3 + (2 : Int32)))), .int (gI δ18 0 (ix (v3 + (3 : Int32))))]) (m_Fp_cheapest) cv_L_124 kd_4 rfl rfl rfl (Nat.le_of_ble_eq_true rfl) ⟨Nat.le_of_ble_eq_true rfl, Nat.le_of_ble_eq_true rfl⟩ ⟨by omega, by omega⟩ d_L_law_1132 (fun y1132 => ?_)
                                                            refine aw_bI (fun v1132 => ?_)
                                                            refine aw_bD (fun δ_1132 => ?_)
                                                            refine aw_aload_n d_L_law_1135 2 rfl ?_
                                                            refine aw_aload_n d_L_law_1136 0 rfl ?_
                                                            refine aw_iload_n d_L_law_1137 3 rfl ?_
                                                            refine aw_iconst d_L_law_1138 ki_1 ?_
                                                            refine aw_iadd d_L_law_1139 ?_
                                                            refine aw_sald d_L_law_1140 ?_
                                                            refine aw_aload_n d_L_law_1141 0 rfl ?_
                                                            refine aw_iload_n d_L_law_1142 3 rfl ?_
                                                            refine aw_iconst d_L_law_1143 ki_2 ?_
                                                            refine aw_iadd d_L_law_1144 ?_
                                                            refine aw_sald d_L_law_1145 ?_
                                                            refine aw_aload_n d_L_law_1146 0 rfl ?_
                                                            refine aw_iload_n d_L_law_1147 3 rfl ?_
                                                            refine aw_iconst d_L_law_1148 ki_3 ?_
                                                            refine aw_iadd d_L_law_1149 ?_
                                                            refine aw_sald d_L_law_1150 ?_
                                                            refine aw_V_m (As := [.int (gI δ_1132 0 (ix (v3 + (1 : Int32)))), .int (gI δ_1132 0 (ix (v3 + (2 : Int32)))), .int (gI δ_1132 0 (ix (v3 + (3 : Int32))))]) (m_Mo_cheapest) cv_L_127 kd_151 rfl rfl rfl (Nat.le_of_ble_eq_true rfl) ⟨Nat.le_of_ble_eq_true rfl, Nat.le_of_ble_eq_true rfl⟩ ⟨by omega, by omega⟩ d_L_law_1151 (fun y1151 => ?_)
                                                            refine aw_bI (fun v1151 => ?_)
                                                            refine aw_bD (fun δ_1151 => ?_)
                                                            refine aw_icmp_eq (tgt := 1459) d_L_law_1154 rfl (fun q1154 => ?_) (fun q1154 => ?_)
                                                            · refine aw_iinc (v := (v3 + (6 : Int32))) (lo' := [(3, .int (v3 + (6 : Int32))), (0, .ref 0), (1, .ref 4), (2, .ref 151)]) d_L_law_1459 3 rfl (by rw [show Int32.ofInt (6) = (6 : Int32) from by decide]) (by decide) rfl ?_
                                                              refine aw_goto (tgt := 18) d_L_law_1462 rfl ?_
                                                              refine aw_sub (lo' := [(0, .ref 0), (1, .ref 4), (2, .ref 151), (3, .int (v3 + (6 : Int32)))]) [1, 2, 3, 0] rfl ?_
                                                              exact ih _ _ _ _ _ (by omega) (by omega)
                                                            · refine aw_iconst d_L_law_1157 ki_0 ?_
                                                              exact aw_zret rfl rfl rfl ⟨by omega, by omega⟩ d_L_law_1158
                                                          · refine aw_ite (fun q33 => ?_) (fun q33_27 => ?_)
                                                            · refine aw_tswitch (tgt := 1159) d_L_law_33 q33 (by decide) (by decide) rfl rfl ?_
                                                              refine aw_aload_n d_L_law_1159 1 rfl ?_
                                                              refine aw_aload_n d_L_law_1160 0 rfl ?_
                                                              refine aw_iload_n d_L_law_1161 3 rfl ?_
                                                              refine aw_iconst d_L_law_1162 ki_1 ?_
                                                              refine aw_iadd d_L_law_1163 ?_
                                                              refine aw_sald d_L_law_1164 ?_
                                                              refine aw_aload_n d_L_law_1165 0 rfl ?_
                                                              refine aw_iload_n d_L_law_1166 3 rfl ?_
                                                              refine aw_iconst d_L_law_1167 ki_2 ?_
                                                              refine aw_iadd d_L_law_1168 ?_
                                                              refine aw_sald d_L_law_1169 ?_
                                                              refine aw_aload_n d_L_law_1170 0 rfl ?_
                                                              refine aw_iload_n d_L_law_1171 3 rfl ?_
                                                              refine aw_iconst d_L_law_1172 ki_3 ?_
                                                              refine aw_iadd d_L_law_1173 ?_
                                                              refine aw_sald d_L_law_1174 ?_
                                                              refine aw_V_m (As := [.int (gI δ18 0 (ix (v3 + (1 : Int32)))), .int (gI δ18 0 (ix (v3 + (2 : Int32)))), .int (gI δ18 0 (ix (v3 + (3 : Int32))))]) (m_Fp_round) cv_L_128 kd_4 rfl rfl rfl (Nat.le_of_ble_eq_true rfl) ⟨Nat.le_of_ble_eq_true rfl, Nat.le_of_ble_eq_true rfl⟩ ⟨by omega, by omega⟩ d_L_law_1175 (fun y1175 => ?_)
                                                              refine aw_bI (fun v1175 => ?_)
                                                              refine aw_bD (fun δ_1175 => ?_)
                                                              refine aw_aload_n d_L_law_1178 2 rfl ?_
                                                              refine aw_aload_n d_L_law_1179 0 rfl ?_
                                                              refine aw_iload_n d_L_law_1180 3 rfl ?_
                                                              refine aw_iconst d_L_law_1181 ki_1 ?_
                                                              refine aw_iadd d_L_law_1182 ?_
                                                              refine aw_sald d_L_law_1183 ?_
                                                              refine aw_aload_n d_L_law_1184 0 rfl ?_
                                                              refine aw_iload_n d_L_law_1185 3 rfl ?_
                                                              refine aw_iconst d_L_law_1186 ki_2 ?_
                                                              refine aw_iadd d_L_law_1187 ?_
                                                              refine aw_sald d_L_law_1188 ?_
                                                              refine aw_aload_n d_L_law_1189 0 rfl ?_
                                                              refine aw_iload_n d_L_law_1190 3 rfl ?_
                                                              refine aw_iconst d_L_law_1191 ki_3 ?_
                                                              refine aw_iadd d_L_law_1192 ?_
                                                              refine aw_sald d_L_law_1193 ?_
                                                              refine aw_V_m (As := [.int (gI δ_1175 0 (ix (v3 + (1 : Int32)))), .int (gI δ_1175 0 (ix (v3 + (2 : Int32)))), .int (gI δ_1175 0 (ix (v3 + (3 : Int32))))]) (m_Mo_round) cv_L_131 kd_151 rfl rfl rfl (Nat.le_of_ble_eq_true rfl) ⟨Nat.le_of_ble_eq_true rfl, Nat.le_of_ble_eq_true rfl⟩ ⟨by omega, by omega⟩ d_L_law_1194 (fun y1194 => ?_)
                                                              refine aw_bI (fun v1194 => ?_)
                                                              refine aw_bD (fun δ_1194 => ?_)
                                                              refine aw_icmp_eq (tgt := 1459) d_L_law_1197 rfl (fun q1197 => ?_) (fun q1197 => ?_)
                                                              · refine aw_iinc (v := (v3 + (6 : Int32))) (lo' := [(3, .int (v3 + (6 : Int32))), (0, .ref 0), (1, .ref 4), (2, .ref 151)]) d_L_law_1459 3 rfl (by rw [show Int32.ofInt (6) = (6 : Int32) from by decide]) (by decide) rfl ?_
                                                                refine aw_goto (tgt := 18) d_L_law_1462 rfl ?_
                                                                refine aw_sub (lo' := [(0, .ref 0), (1, .ref 4), (2, .ref 151), (3, .int (v3 + (6 : Int32)))]) [1, 2, 3, 0] rfl ?_
                                                                exact ih _ _ _ _ _ (by omega) (by omega)
                                                              · refine aw_iconst d_L_law_1200 ki_0 ?_
                                                                exact aw_zret rfl rfl rfl ⟨by omega, by omega⟩ d_L_law_1201
                                                            · refine aw_ite (fun q33 => ?_) (fun q33_28 => ?_)
                                                              · refine aw_tswitch (tgt := 1202) d_L_law_33 q33 (by decide) (by decide) rfl rfl ?_
                                                                refine aw_aload_n d_L_law_1202 1 rfl ?_
                                                                refine aw_aload_n d_L_law_1203 0 rfl ?_
                                                                refine aw_iload_n d_L_law_1204 3 rfl ?_
                                                                refine aw_iconst d_L_law_1205 ki_1 ?_
                                                                refine aw_iadd d_L_law_1206 ?_
                                                                refine aw_sald d_L_law_1207 ?_
                                                                refine aw_aload_n d_L_law_1208 0 rfl ?_
                                                                refine aw_iload_n d_L_law_1209 3 rfl ?_
                                                                refine aw_iconst d_L_law_1210 ki_2 ?_
                                                                refine aw_iadd d_L_law_1211 ?_
                                                                refine aw_sald d_L_law_1212 ?_
                                                                refine aw_V_m (As := [.int (gI δ18 0 (ix (v3 + (1 : Int32)))), .int (gI δ18 0 (ix (v3 + (2 : Int32))))]) (m_Fp_call) cv_L_132 kd_4 rfl rfl rfl (Nat.le_of_ble_eq_true rfl) ⟨Nat.le_of_ble_eq_true rfl, Nat.le_of_ble_eq_true rfl⟩ ⟨by omega, by omega⟩ d_L_law_1213 (fun y1213 => ?_)
                                                                refine aw_bI (fun v1213 => ?_)
                                                                refine aw_bD (fun δ_1213 => ?_)
                                                                refine aw_aload_n d_L_law_1216 2 rfl ?_
                                                                refine aw_aload_n d_L_law_1217 0 rfl ?_
                                                                refine aw_iload_n d_L_law_1218 3 rfl ?_
                                                                refine aw_iconst d_L_law_1219 ki_1 ?_
                                                                refine aw_iadd d_L_law_1220 ?_
                                                                refine aw_sald d_L_law_1221 ?_
                                                                refine aw_aload_n d_L_law_1222 0 rfl ?_
                                                                refine aw_iload_n d_L_law_1223 3 rfl ?_
                                                                refine aw_iconst d_L_law_1224 ki_2 ?_
                                                                refine aw_iadd d_L_law_1225 ?_
                                                                refine aw_sald d_L_law_1226 ?_
                                                                refine aw_V_m (As := [.int (gI δ_1213 0 (ix (v3 + (1 : Int32)))), .int (gI δ_1213 0 (ix (v3 + (2 : Int32))))]) (m_Mo_call) cv_L_135 kd_151 rfl rfl rfl (Nat.le_of_ble_eq_true rfl) ⟨Nat.le_of_ble_eq_true rfl, Nat.le_of_ble_eq_true rfl⟩ ⟨by omega, by omega⟩ d_L_law_1227 (fun y1227 => ?_)
                                                                refine aw_bI (fun v1227 => ?_)
                                                                refine aw_bD (fun δ_1227 => ?_)
                                                                refine aw_icmp_eq (tgt := 1459) d_L_law_1230 rfl (fun q1230 => ?_) (fun q1230 => ?_)
                                                                · refine aw_iinc (v := (v3 + (6 : Int32))) (lo' := [(3, .int (v3 + (6 : Int32))), (0, .ref 0), (1, .ref 4), (2, .ref 151)]) d_L_law_1459 3 rfl (by rw [show Int32.ofInt (6) = (6 : Int32) from by decide]) (by decide) rfl ?_
                                                                  refine aw_goto (tgt := 18) d_L_law_1462 rfl ?_
                                                                  refine aw_sub (lo' := [(0, .ref 0), (1, .ref 4), (2, .ref 151), (3, .int (v3 + (6 : Int32)))]) [1, 2, 3, 0] rfl ?_
                                                                  exact ih _ _ _ _ _ (by omega) (by omega)
                                                                · refine aw_iconst d_L_law_1233 ki_0 ?_
                                                                  exact aw_zret rfl rfl rfl ⟨by omega, by omega⟩ d_L_law_1234
                                                              · refine aw_ite (fun q33 => ?_) (fun q33_29 => ?_)
                                                                · refine aw_tswitch (tgt := 1235) d_L_law_33 q33 (by decide) (by decide) rfl rfl ?_
                                                                  refine aw_aload_n d_L_law_1235 1 rfl ?_
                                                                  refine aw_aload_n d_L_law_1236 0 rfl ?_
                                                                  refine aw_iload_n d_L_law_1237 3 rfl ?_
                                                                  refine aw_iconst d_L_law_1238 ki_1 ?_
                                                                  refine aw_iadd d_L_law_1239 ?_
                                                                  refine aw_sald d_L_law_1240 ?_
                                                                  refine aw_aload_n d_L_law_1241 0 rfl ?_
                                                                  refine aw_iload_n d_L_law_1242 3 rfl ?_
                                                                  refine aw_iconst d_L_law_1243 ki_2 ?_
                                                                  refine aw_iadd d_L_law_1244 ?_
                                                                  refine aw_sald d_L_law_1245 ?_
                                                                  refine aw_aload_n d_L_law_1246 0 rfl ?_
                                                                  refine aw_iload_n d_L_law_1247 3 rfl ?_
                                                                  refine aw_iconst d_L_law_1248 ki_3 ?_
                                                                  refine aw_iadd d_L_law_1249 ?_
                                                                  refine aw_sald d_L_law_1250 ?_
                                                                  refine aw_V_m (As := [.int (gI δ18 0 (ix (v3 + (1 : Int32)))), .int (gI δ18 0 (ix (v3 + (2 : Int32)))), .int (gI δ18 0 (ix (v3 + (3 : Int32))))]) (m_Fp_worthy) cv_L_136 kd_4 rfl rfl rfl (Nat.le_of_ble_eq_true rfl) ⟨Nat.le_of_ble_eq_true rfl, Nat.le_of_ble_eq_true rfl⟩ ⟨by omega, by omega⟩ d_L_law_1251 (fun y1251 => ?_)
                                                                  refine aw_bI (fun v1251 => ?_)
                                                                  refine aw_bD (fun δ_1251 => ?_)
                                                                  refine aw_aload_n d_L_law_1254 2 rfl ?_
                                                                  refine aw_aload_n d_L_law_1255 0 rfl ?_
                                                                  refine aw_iload_n d_L_law_1256 3 rfl ?_
                                                                  refine aw_iconst d_L_law_1257 ki_1 ?_
                                                                  refine aw_iadd d_L_law_1258 ?_
                                                                  refine aw_sald d_L_law_1259 ?_
                                                                  refine aw_aload_n d_L_law_1260 0 rfl ?_
                                                                  refine aw_iload_n d_L_law_1261 3 rfl ?_
                                                                  refine aw_iconst d_L_law_1262 ki_2 ?_
                                                                  refine aw_iadd d_L_law_1263 ?_
                                                                  refine aw_sald d_L_law_1264 ?_
                                                                  refine aw_aload_n d_L_law_1265 0 rfl ?_
                                                                  refine aw_iload_n d_L_law_1266 3 rfl ?_
                                                                  refine aw_iconst d_L_law_1267 ki_3 ?_
                                                                  refine aw_iadd d_L_law_1268 ?_
                                                                  refine aw_sald d_L_law_1269 ?_
                                                                  refine aw_V_m (As := [.int (gI δ_1251 0 (ix (v3 + (1 : Int32)))), .int (gI δ_1251 0 (ix (v3 + (2 : Int32)))), .int (gI δ_1251 0 (ix (v3 + (3 : Int32))))]) (m_Mo_worthy) cv_L_139 kd_151 rfl rfl rfl (Nat.le_of_ble_eq_true rfl) ⟨Nat.le_of_ble_eq_true rfl, Nat.le_of_ble_eq_true rfl⟩ ⟨by omega, by omega⟩ d_L_law_1270 (fun y1270 => ?_)
                                                                  refine aw_bI (fun v1270 => ?_)
                                                                  refine aw_bD (fun δ_1270 => ?_)
                                                                  refine aw_icmp_eq (tgt := 1459) d_L_law_1273 rfl (fun q1273 => ?_) (fun q1273 => ?_)
                                                                  · refine aw_iinc (v := (v3 + (6 : Int32))) (lo' := [(3, .int (v3 + (6 : Int32))), (0, .ref 0), (1, .ref 4), (2, .ref 151)]) d_L_law_1459 3 rfl (by rw [show Int32.ofInt (6) = (6 : Int32) from by decide]) (by decide) rfl ?_
                                                                    refine aw_goto (tgt := 18) d_L_law_1462 rfl ?_
                                                                    refine aw_sub (lo' := [(0, .ref 0), (1, .ref 4), (2, .ref 151), (3, .int (v3 + (6 : Int32)))]) [1, 2, 3, 0] rfl ?_
                                                                    exact ih _ _ _ _ _ (by omega) (by omega)
                                                                  · refine aw_iconst d_L_law_1276 ki_0 ?_
                                                                    exact aw_zret rfl rfl rfl ⟨by omega, by omega⟩ d_L_law_1277
                                                                · refine aw_ite (fun q33 => ?_) (fun q33_30 => ?_)
                                                                  · refine aw_tswitch (tgt := 1278) d_L_law_33 q33 (by decide) (by decide) rfl rfl ?_
                                                                    refine aw_aload_n d_L_law_1278 1 rfl ?_
                                                                    refine aw_aload_n d_L_law_1279 0 rfl ?_
                                                                    refine aw_iload_n d_L_law_1280 3 rfl ?_
                                                                    refine aw_iconst d_L_law_1281 ki_1 ?_
                                                                    refine aw_iadd d_L_law_1282 ?_
                                                                    refine aw_sald d_L_law_1283 ?_
                                                                    refine aw_aload_n d_L_law_1284 0 rfl ?_
                                                                    refine aw_iload_n d_L_law_1285 3 rfl ?_
                                                                    refine aw_iconst d_L_law_1286 ki_2 ?_
                                                                    refine aw_iadd d_L_law_1287 ?_
                                                                    refine aw_sald d_L_law_1288 ?_
                                                                    refine aw_aload_n d_L_law_1289 0 rfl ?_
                                                                    refine aw_iload_n d_L_law_1290 3 rfl ?_
                                                                    refine aw_iconst d_L_law_1291 ki_3 ?_
                                                                    refine aw_iadd d_L_law_1292 ?_
                                                                    refine aw_sald d_L_law_1293 ?_
                                                                    refine aw_aload_n d_L_law_1294 0 rfl ?_
                                                                    refine aw_iload_n d_L_law_1295 3 rfl ?_
                                                                    refine aw_iconst d_L_law_1296 ki_4 ?_
                                                                    refine aw_iadd d_L_law_1297 ?_
                                                                    refine aw_sald d_L_law_1298 ?_
                                                                    refine aw_V_m (As := [.int (gI δ18 0 (ix (v3 + (1 : Int32)))), .int (gI δ18 0 (ix (v3 + (2 : Int32)))), .int (gI δ18 0 (ix (v3 + (3 : Int32)))), .int (gI δ18 0 (ix (v3 + (4 : Int32))))]) (m_Fp_takes) cv_L_140 kd_4 rfl rfl rfl (Nat.le_of_ble_eq_true rfl) ⟨Nat.le_of_ble_eq_true rfl, Nat.le_of_ble_eq_true rfl⟩ ⟨by omega, by omega⟩ d_L_law_1299 (fun y1299 => ?_)
                                                                    refine aw_bI (fun v1299 => ?_)
                                                                    refine aw_bD (fun δ_1299 => ?_)
                                                                    refine aw_aload_n d_L_law_1302 2 rfl ?_
                                                                    refine aw_aload_n d_L_law_1303 0 rfl ?_
                                                                    refine aw_iload_n d_L_law_1304 3 rfl ?_
                                                                    refine aw_iconst d_L_law_1305 ki_1 ?_
                                                                    refine aw_iadd d_L_law_1306 ?_
                                                                    refine aw_sald d_L_law_1307 ?_
                                                                    refine aw_aload_n d_L_law_1308 0 rfl ?_
                                                                    refine aw_iload_n d_L_law_1309 3 rfl ?_
                                                                    refine aw_iconst d_L_law_1310 ki_2 ?_
                                                                    refine aw_iadd d_L_law_1311 ?_
                                                                    refine aw_sald d_L_law_1312 ?_
                                                                    refine aw_aload_n d_L_law_1313 0 rfl ?_
                                                                    refine aw_iload_n d_L_law_1314 3 rfl ?_
                                                                    refine aw_iconst d_L_law_1315 ki_3 ?_
                                                                    refine aw_iadd d_L_law_1316 ?_
                                                                    refine aw_sald d_L_law_1317 ?_
                                                                    refine aw_aload_n d_L_law_1318 0 rfl ?_
                                                                    refine aw_iload_n d_L_law_1319 3 rfl ?_
                                                                    refine aw_iconst d_L_law_1320 ki_4 ?_
                                                                    refine aw_iadd d_L_law_1321 ?_
                                                                    refine aw_sald d_L_law_1322 ?_
                                                                    refine aw_V_m (As := [.int (gI δ_1299 0 (ix (v3 + (1 : Int32)))), .int (gI δ_1299 0 (ix (v3 + (2 : Int32)))), .int (gI δ_1299 0 (ix (v3 + (3 : Int32)))), .int (gI δ_1299 0 (ix (v3 + (4 : Int32))))]) (m_Mo_takes) cv_L_144 kd_151 rfl rfl rfl (Nat.le_of_ble_eq_true rfl) ⟨Nat.le_of_ble_eq_true rfl, Nat.le_of_ble_eq_true rfl⟩ ⟨by omega, by omega⟩ d_L_law_1323 (fun y1323 => ?_)
                                                                    refine aw_bI (fun v1323 => ?_)
                                                                    refine aw_bD (fun δ_1323 => ?_)
                                                                    refine aw_icmp_eq (tgt := 1459) d_L_law_1326 rfl (fun q1326 => ?_) (fun q1326 => ?_)
                                                                    · refine aw_iinc (v := (v3 + (6 : Int32))) (lo' := [(3, .int (v3 + (6 : Int32))), (0, .ref 0), (1, .ref 4), (2, .ref 151)]) d_L_law_1459 3 rfl (by rw [show Int32.ofInt (6) = (6 : Int32) from by decide]) (by decide) rfl ?_
                                                                      refine aw_goto (tgt := 18) d_L_law_1462 rfl ?_
                                                                      refine aw_sub (lo' := [(0, .ref 0), (1, .ref 4), (2, .ref 151), (3, .int (v3 + (6 : Int32)))]) [1, 2, 3, 0] rfl ?_
                                                                      exact ih _ _ _ _ _ (by omega) (by omega)
                                                                    · refine aw_iconst d_L_law_1329 ki_0 ?_
                                                                      exact aw_zret rfl rfl rfl ⟨by omega, by omega⟩ d_L_law_1330
                                                                  · refine aw_ite (fun q33 => ?_) (fun q33_31 => ?_)
                                                                    · refine aw_tswitch (tgt := 1331) d_L_law_33 q33 (by decide) (by decide) rfl rfl ?_
                                                                      refine aw_aload_n d_L_law_1331 1 rfl ?_
                                                                      refine aw_aload_n d_L_law_1332 0 rfl ?_
                                                                      refine aw_iload_n d_L_law_1333 3 rfl ?_
                                                                      refine aw_iconst d_L_law_1334 ki_1 ?_
                                                                      refine aw_iadd d_L_law_1335 ?_
                                                                      refine aw_sald d_L_law_1336 ?_
                                                                      refine aw_if_eq (tgt := 1344) d_L_law_1337 rfl (fun q1337 => ?_) (fun q1337 => ?_)
                                                                      · refine aw_iconst d_L_law_1344 ki_0 ?_
                                                                        refine aw_aload_n d_L_law_1345 0 rfl ?_
                                                                        refine aw_iload_n d_L_law_1346 3 rfl ?_
                                                                        refine aw_iconst d_L_law_1347 ki_2 ?_
                                                                        refine aw_iadd d_L_law_1348 ?_
                                                                        refine aw_sald d_L_law_1349 ?_
                                                                        refine aw_aload_n d_L_law_1350 0 rfl ?_
                                                                        refine aw_iload_n d_L_law_1351 3 rfl ?_
                                                                        refine aw_iconst d_L_law_1352 ki_3 ?_
                                                                        refine aw_iadd d_L_law_1353 ?_
                                                                        refine aw_sald d_L_law_1354 ?_
                                                                        refine aw_V_m (As := [.int (0 : Int32), .int (gI δ18 0 (ix (v3 + (2 : Int32)))), .int (gI δ18 0 (ix (v3 + (3 : Int32))))]) (m_Fp_placed) cv_L_145 kd_4 rfl rfl rfl (Nat.le_of_ble_eq_true rfl) ⟨Nat.le_of_ble_eq_true rfl, Nat.le_of_ble_eq_true rfl⟩ ⟨by omega, by omega⟩ d_L_law_1355 (fun y1355 => ?_)
                                                                        refine aw_bI (fun v1355 => ?_)
                                                                        refine aw_bD (fun δ_1355 => ?_)
                                                                        refine aw_aload_n d_L_law_1358 2 rfl ?_
                                                                        refine aw_aload_n d_L_law_1359 0 rfl ?_
                                                                        refine aw_iload_n d_L_law_1360 3 rfl ?_
                                                                        refine aw_iconst d_L_law_1361 ki_1 ?_
                                                                        refine aw_iadd d_L_law_1362 ?_
                                                                        refine aw_sald d_L_law_1363 ?_
                                                                        refine aw_if_eq (tgt := 1371) d_L_law_1364 rfl (fun q1364 => ?_) (fun q1364 => ?_)
                                                                        · refine aw_iconst d_L_law_1371 ki_0 ?_
                                                                          refine aw_aload_n d_L_law_1372 0 rfl ?_
                                                                          refine aw_iload_n d_L_law_1373 3 rfl ?_
                                                                          refine aw_iconst d_L_law_1374 ki_2 ?_
                                                                          refine aw_iadd d_L_law_1375 ?_
                                                                          refine aw_sald d_L_law_1376 ?_
                                                                          refine aw_aload_n d_L_law_1377 0 rfl ?_
                                                                          refine aw_iload_n d_L_law_1378 3 rfl ?_
                                                                          refine aw_iconst d_L_law_1379 ki_3 ?_
                                                                          refine aw_iadd d_L_law_1380 ?_
                                                                          refine aw_sald d_L_law_1381 ?_
                                                                          refine aw_V_m (As := [.int (0 : Int32), .int (gI δ_1355 0 (ix (v3 + (2 : Int32)))), .int (gI δ_1355 0 (ix (v3 + (3 : Int32))))]) (m_Mo_placed) cv_L_149 kd_151 rfl rfl rfl (Nat.le_of_ble_eq_true rfl) ⟨Nat.le_of_ble_eq_true rfl, Nat.le_of_ble_eq_true rfl⟩ ⟨by omega, by omega⟩ d_L_law_1382 (fun y1382 => ?_)
                                                                          refine aw_bI (fun v1382 => ?_)
                                                                          refine aw_bD (fun δ_1382 => ?_)
                                                                          refine aw_icmp_eq (tgt := 1459) d_L_law_1385 rfl (fun q1385 => ?_) (fun q1385 => ?_)
                                                                          · refine aw_iinc (v := (v3 + (6 : Int32))) (lo' := [(3, .int (v3 + (6 : Int32))), (0, .ref 0), (1, .ref 4), (2, .ref 151)]) d_L_law_1459 3 rfl (by rw [show Int32.ofInt (6) = (6 : Int32) from by decide]) (by decide) rfl ?_
                                                                            refine aw_goto (tgt := 18) d_L_law_1462 rfl ?_
                                                                            refine aw_sub (lo' := [(0, .ref 0), (1, .ref 4), (2, .ref 151), (3, .int (v3 + (6 : Int32)))]) [1, 2, 3, 0] rfl ?_
                                                                            exact ih _ _ _ _ _ (by omega) (by omega)
                                                                          · refine aw_iconst d_L_law_1388 ki_0 ?_
                                                                            exact aw_zret rfl rfl rfl ⟨by omega, by omega⟩ d_L_law_1389
                                                                        · refine aw_iconst d_L_law_1367 ki_1 ?_
                                                                          refine aw_goto (tgt := 1372) d_L_law_1368 rfl ?_
                                                                          refine aw_aload_n d_L_law_1372 0 rfl ?_
                                                                          refine aw_iload_n d_L_law_1373 3 rfl ?_
                                                                          refine aw_iconst d_L_law_1374 ki_2 ?_
                                                                          refine aw_iadd d_L_law_1375 ?_
                                                                          refine aw_sald d_L_law_1376 ?_
                                                                          refine aw_aload_n d_L_law_1377 0 rfl ?_
                                                                          refine aw_iload_n d_L_law_1378 3 rfl ?_
                                                                          refine aw_iconst d_L_law_1379 ki_3 ?_
                                                                          refine aw_iadd d_L_law_1380 ?_
                                                                          refine aw_sald d_L_law_1381 ?_
                                                                          refine aw_V_m (As := [.int (1 : Int32), .int (gI δ_1355 0 (ix (v3 + (2 : Int32)))), .int (gI δ_1355 0 (ix (v3 + (3 : Int32))))]) (m_Mo_placed) cv_L_149 kd_151 rfl rfl rfl (Nat.le_of_ble_eq_true rfl) ⟨Nat.le_of_ble_eq_true rfl, Nat.le_of_ble_eq_true rfl⟩ ⟨by omega, by omega⟩ d_L_law_1382 (fun y1382_1 => ?_)
                                                                          refine aw_bI (fun v1382_1 => ?_)
                                                                          refine aw_bD (fun δ_1382_1 => ?_)
                                                                          refine aw_icmp_eq (tgt := 1459) d_L_law_1385 rfl (fun q1385 => ?_) (fun q1385 => ?_)
                                                                          · refine aw_iinc (v := (v3 + (6 : Int32))) (lo' := [(3, .int (v3 + (6 : Int32))), (0, .ref 0), (1, .ref 4), (2, .ref 151)]) d_L_law_1459 3 rfl (by rw [show Int32.ofInt (6) = (6 : Int32) from by decide]) (by decide) rfl ?_
                                                                            refine aw_goto (tgt := 18) d_L_law_1462 rfl ?_
                                                                            refine aw_sub (lo' := [(0, .ref 0), (1, .ref 4), (2, .ref 151), (3, .int (v3 + (6 : Int32)))]) [1, 2, 3, 0] rfl ?_
                                                                            exact ih _ _ _ _ _ (by omega) (by omega)
                                                                          · refine aw_iconst d_L_law_1388 ki_0 ?_
                                                                            exact aw_zret rfl rfl rfl ⟨by omega, by omega⟩ d_L_law_1389
                                                                      · refine aw_iconst d_L_law_1340 ki_1 ?_
                                                                        refine aw_goto (tgt := 1345) d_L_law_1341 rfl ?_
                                                                        refine aw_aload_n d_L_law_1345 0 rfl ?_
                                                                        refine aw_iload_n d_L_law_1346 3 rfl ?_
                                                                        refine aw_iconst d_L_law_1347 ki_2 ?_
                                                                        refine aw_iadd d_L_law_1348 ?_
                                                                        refine aw_sald d_L_law_1349 ?_
                                                                        refine aw_aload_n d_L_law_1350 0 rfl ?_
                                                                        refine aw_iload_n d_L_law_1351 3 rfl ?_
                                                                        refine aw_iconst d_L_law_1352 ki_3 ?_
                                                                        refine aw_iadd d_L_law_1353 ?_
                                                                        refine aw_sald d_L_law_1354 ?_
                                                                        refine aw_V_m (As := [.int (1 : Int32), .int (gI δ18 0 (ix (v3 + (2 : Int32)))), .int (gI δ18 0 (ix (v3 + (3 : Int32))))]) (m_Fp_placed) cv_L_145 kd_4 rfl rfl rfl (Nat.le_of_ble_eq_true rfl) ⟨Nat.le_of_ble_eq_true rfl, Nat.le_of_ble_eq_true rfl⟩ ⟨by omega, by omega⟩ d_L_law_1355 (fun y1355_1 => ?_)
                                                                        refine aw_bI (fun v1355_1 => ?_)
                                                                        refine aw_bD (fun δ_1355_1 => ?_)
                                                                        refine aw_aload_n d_L_law_1358 2 rfl ?_
                                                                        refine aw_aload_n d_L_law_1359 0 rfl ?_
                                                                        refine aw_iload_n d_L_law_1360 3 rfl ?_
                                                                        refine aw_iconst d_L_law_1361 ki_1 ?_
                                                                        refine aw_iadd d_L_law_1362 ?_
                                                                        refine aw_sald d_L_law_1363 ?_
                                                                        refine aw_if_eq (tgt := 1371) d_L_law_1364 rfl (fun q1364 => ?_) (fun q1364 => ?_)
                                                                        · refine aw_iconst d_L_law_1371 ki_0 ?_
                                                                          refine aw_aload_n d_L_law_1372 0 rfl ?_
                                                                          refine aw_iload_n d_L_law_1373 3 rfl ?_
                                                                          refine aw_iconst d_L_law_1374 ki_2 ?_
                                                                          refine aw_iadd d_L_law_1375 ?_
                                                                          refine aw_sald d_L_law_1376 ?_
                                                                          refine aw_aload_n d_L_law_1377 0 rfl ?_
                                                                          refine aw_iload_n d_L_law_1378 3 rfl ?_
                                                                          refine aw_iconst d_L_law_1379 ki_3 ?_
                                                                          refine aw_iadd d_L_law_1380 ?_
                                                                          refine aw_sald d_L_law_1381 ?_
                                                                          refine aw_V_m (As := [.int (0 : Int32), .int (gI δ_1355_1 0 (ix (v3 + (2 : Int32)))), .int (gI δ_1355_1 0 (ix (v3 + (3 : Int32))))]) (m_Mo_placed) cv_L_149 kd_151 rfl rfl rfl (Nat.le_of_ble_eq_true rfl) ⟨Nat.le_of_ble_eq_true rfl, Nat.le_of_ble_eq_true rfl⟩ ⟨by omega, by omega⟩ d_L_law_1382 (fun y1382_2 => ?_)
                                                                          refine aw_bI (fun v1382_2 => ?_)
                                                                          refine aw_bD (fun δ_1382_2 => ?_)
                                                                          refine aw_icmp_eq (tgt := 1459) d_L_law_1385 rfl (fun q1385 => ?_) (fun q1385 => ?_)
                                                                          · refine aw_iinc (v := (v3 + (6 : Int32))) (lo' := [(3, .int (v3 + (6 : Int32))), (0, .ref 0), (1, .ref 4), (2, .ref 151)]) d_L_law_1459 3 rfl (by rw [show Int32.ofInt (6) = (6 : Int32) from by decide]) (by decide) rfl ?_
                                                                            refine aw_goto (tgt := 18) d_L_law_1462 rfl ?_
                                                                            refine aw_sub (lo' := [(0, .ref 0), (1, .ref 4), (2, .ref 151), (3, .int (v3 + (6 : Int32)))]) [1, 2, 3, 0] rfl ?_
                                                                            exact ih _ _ _ _ _ (by omega) (by omega)
                                                                          · refine aw_iconst d_L_law_1388 ki_0 ?_
                                                                            exact aw_zret rfl rfl rfl ⟨by omega, by omega⟩ d_L_law_1389
                                                                        · refine aw_iconst d_L_law_1367 ki_1 ?_
                                                                          refine aw_goto (tgt := 1372) d_L_law_1368 rfl ?_
                                                                          refine aw_aload_n d_L_law_1372 0 rfl ?_
                                                                          refine aw_iload_n d_L_law_1373 3 rfl ?_
                                                                          refine aw_iconst d_L_law_1374 ki_2 ?_
                                                                          refine aw_iadd d_L_law_1375 ?_
                                                                          refine aw_sald d_L_law_1376 ?_
                                                                          refine aw_aload_n d_L_law_1377 0 rfl ?_
                                                                          refine aw_iload_n d_L_law_1378 3 rfl ?_
                                                                          refine aw_iconst d_L_law_1379 ki_3 ?_
                                                                          refine aw_iadd d_L_law_1380 ?_
                                                                          refine aw_sald d_L_law_1381 ?_
                                                                          refine aw_V_m (As := [.int (1 : Int32), .int (gI δ_1355_1 0 (ix (v3 + (2 : Int32)))), .int (gI δ_1355_1 0 (ix (v3 + (3 : Int32))))]) (m_Mo_placed) cv_L_149 kd_151 rfl rfl rfl (Nat.le_of_ble_eq_true rfl) ⟨Nat.le_of_ble_eq_true rfl, Nat.le_of_ble_eq_true rfl⟩ ⟨by omega, by omega⟩ d_L_law_1382 (fun y1382_3 => ?_)
                                                                          refine aw_bI (fun v1382_3 => ?_)
                                                                          refine aw_bD (fun δ_1382_3 => ?_)
                                                                          refine aw_icmp_eq (tgt := 1459) d_L_law_1385 rfl (fun q1385 => ?_) (fun q1385 => ?_)
                                                                          · refine aw_iinc (v := (v3 + (6 : Int32))) (lo' := [(3, .int (v3 + (6 : Int32))), (0, .ref 0), (1, .ref 4), (2, .ref 151)]) d_L_law_1459 3 rfl (by rw [show Int32.ofInt (6) = (6 : Int32) from by decide]) (by decide) rfl ?_
                                                                            refine aw_goto (tgt := 18) d_L_law_1462 rfl ?_
                                                                            refine aw_sub (lo' := [(0, .ref 0), (1, .ref 4), (2, .ref 151), (3, .int (v3 + (6 : Int32)))]) [1, 2, 3, 0] rfl ?_
                                                                            exact ih _ _ _ _ _ (by omega) (by omega)
                                                                          · refine aw_iconst d_L_law_1388 ki_0 ?_
                                                                            exact aw_zret rfl rfl rfl ⟨by omega, by omega⟩ d_L_law_1389
                                                                    · refine aw_ite (fun q33 => ?_) (fun q33_32 => ?_)
                                                                      · refine aw_tswitch (tgt := 1390) d_L_law_33 q33 (by decide) (by decide) rfl rfl ?_
                                                                        refine aw_aload_n d_L_law_1390 1 rfl ?_
                                                                        refine aw_aload_n d_L_law_1391 0 rfl ?_
                                                                        refine aw_iload_n d_L_law_1392 3 rfl ?_
                                                                        refine aw_iconst d_L_law_1393 ki_1 ?_
                                                                        refine aw_iadd d_L_law_1394 ?_
                                                                        refine aw_sald d_L_law_1395 ?_
                                                                        refine aw_V_p (As := [.int (gI δ18 0 (ix (v3 + (1 : Int32))))]) (m_Fp_count) cv_L_150 kd_4 rfl rfl rfl (Nat.le_of_ble_eq_true rfl) ⟨Nat.le_of_ble_eq_true rfl, Nat.le_of_ble_eq_true rfl⟩ ⟨by omega, by omega⟩ d_L_law_1396 (fun y1396 => ?_)
                                                                        refine aw_aload_n d_L_law_1399 2 rfl ?_
                                                                        refine aw_aload_n d_L_law_1400 0 rfl ?_
                                                                        refine aw_iload_n d_L_law_1401 3 rfl ?_
                                                                        refine aw_iconst d_L_law_1402 ki_1 ?_
                                                                        refine aw_iadd d_L_law_1403 ?_
                                                                        refine aw_sald d_L_law_1404 ?_
                                                                        refine aw_V_p (As := [.int (gI δ18 0 (ix (v3 + (1 : Int32))))]) (m_Mo_count) cv_L_153 kd_151 rfl rfl rfl (Nat.le_of_ble_eq_true rfl) ⟨Nat.le_of_ble_eq_true rfl, Nat.le_of_ble_eq_true rfl⟩ ⟨by omega, by omega⟩ d_L_law_1405 (fun y1405 => ?_)
                                                                        refine aw_icmp_eq (tgt := 1459) d_L_law_1408 rfl (fun q1408 => ?_) (fun q1408 => ?_)
                                                                        · refine aw_iinc (v := (v3 + (6 : Int32))) (lo' := [(3, .int (v3 + (6 : Int32))), (0, .ref 0), (1, .ref 4), (2, .ref 151)]) d_L_law_1459 3 rfl (by rw [show Int32.ofInt (6) = (6 : Int32) from by decide]) (by decide) rfl ?_
                                                                          refine aw_goto (tgt := 18) d_L_law_1462 rfl ?_
                                                                          refine aw_sub (lo' := [(0, .ref 0), (1, .ref 4), (2, .ref 151), (3, .int (v3 + (6 : Int32)))]) [1, 2, 3, 0] rfl ?_
                                                                          exact ih _ _ _ _ _ (by omega) (by omega)
                                                                        · refine aw_iconst d_L_law_1411 ki_0 ?_
                                                                          exact aw_zret rfl rfl rfl ⟨by omega, by omega⟩ d_L_law_1412
                                                                      · refine aw_ite (fun q33 => ?_) (fun q33_33 => ?_)
                                                                        · refine aw_tswitch (tgt := 1413) d_L_law_33 q33 (by decide) (by decide) rfl rfl ?_
                                                                          refine aw_aload_n d_L_law_1413 1 rfl ?_
                                                                          refine aw_aload_n d_L_law_1414 0 rfl ?_
                                                                          refine aw_iload_n d_L_law_1415 3 rfl ?_
                                                                          refine aw_iconst d_L_law_1416 ki_1 ?_
                                                                          refine aw_iadd d_L_law_1417 ?_
                                                                          refine aw_sald d_L_law_1418 ?_
                                                                          refine aw_V (K1 := Ki RT) (As := [.int (gI δ18 0 (ix (v3 + (1 : Int32))))]) (m_Fp_image) cv_L_154 kd_4 rfl rfl rfl (Nat.le_of_ble_eq_true rfl) ⟨Nat.le_of_ble_eq_true rfl, Nat.le_of_ble_eq_true rfl⟩ ⟨by omega, by omega⟩ d_L_law_1419 (fun y1419 => ?_)
                                                                          refine aw_bI (fun v1419 => ?_)
                                                                          refine aw_bD (fun δ_1419 => ?_)
                                                                          refine aw_bN (fun n1419 => ?_)
                                                                          refine aw_aload_n d_L_law_1422 2 rfl ?_
                                                                          refine aw_aload_n d_L_law_1423 0 rfl ?_
                                                                          refine aw_iload_n d_L_law_1424 3 rfl ?_
                                                                          refine aw_iconst d_L_law_1425 ki_1 ?_
                                                                          refine aw_iadd d_L_law_1426 ?_
                                                                          refine aw_sald d_L_law_1427 ?_
                                                                          refine aw_V_m (As := [.int (gI δ_1419 0 (ix (v3 + (1 : Int32))))]) (m_Mo_image) cv_L_157 kd_151 rfl rfl rfl (Nat.le_of_ble_eq_true rfl) ⟨Nat.le_of_ble_eq_true rfl, Nat.le_of_ble_eq_true rfl⟩ ⟨by omega, by omega⟩ d_L_law_1428 (fun y1428 => ?_)
                                                                          refine aw_bI (fun v1428 => ?_)
                                                                          refine aw_bD (fun δ_1428 => ?_)
                                                                          refine aw_icmp_eq (tgt := 1459) d_L_law_1431 rfl (fun q1431 => ?_) (fun q1431 => ?_)
                                                                          · refine aw_iinc (v := (v3 + (6 : Int32))) (lo' := [(3, .int (v3 + (6 : Int32))), (0, .ref 0), (1, .ref 4), (2, .ref 151)]) d_L_law_1459 3 rfl (by rw [show Int32.ofInt (6) = (6 : Int32) from by decide]) (by decide) rfl ?_
                                                                            refine aw_goto (tgt := 18) d_L_law_1462 rfl ?_
                                                                            refine aw_sub (lo' := [(0, .ref 0), (1, .ref 4), (2, .ref 151), (3, .int (v3 + (6 : Int32)))]) [1, 2, 3, 0] rfl ?_
                                                                            exact ih _ _ _ _ _ (by omega) (by omega)
                                                                          · refine aw_iconst d_L_law_1434 ki_0 ?_
                                                                            exact aw_zret rfl rfl rfl ⟨by omega, by omega⟩ d_L_law_1435
                                                                        · refine aw_ite (fun q33 => ?_) (fun q33_34 => ?_)
                                                                          · refine aw_tswitch (tgt := 1436) d_L_law_33 q33 (by decide) (by decide) rfl rfl ?_
                                                                            refine aw_aload_n d_L_law_1436 1 rfl ?_
                                                                            refine aw_aload_n d_L_law_1437 0 rfl ?_
                                                                            refine aw_iload_n d_L_law_1438 3 rfl ?_
                                                                            refine aw_iconst d_L_law_1439 ki_1 ?_
                                                                            refine aw_iadd d_L_law_1440 ?_
                                                                            refine aw_sald d_L_law_1441 ?_
                                                                            refine aw_V_m (As := [.int (gI δ18 0 (ix (v3 + (1 : Int32))))]) (m_Fp_back) cv_L_158 kd_4 rfl rfl rfl (Nat.le_of_ble_eq_true rfl) ⟨Nat.le_of_ble_eq_true rfl, Nat.le_of_ble_eq_true rfl⟩ ⟨by omega, by omega⟩ d_L_law_1442 (fun y1442 => ?_)
                                                                            refine aw_bI (fun v1442 => ?_)
                                                                            refine aw_bD (fun δ_1442 => ?_)
                                                                            refine aw_aload_n d_L_law_1445 2 rfl ?_
                                                                            refine aw_aload_n d_L_law_1446 0 rfl ?_
                                                                            refine aw_iload_n d_L_law_1447 3 rfl ?_
                                                                            refine aw_iconst d_L_law_1448 ki_1 ?_
                                                                            refine aw_iadd d_L_law_1449 ?_
                                                                            refine aw_sald d_L_law_1450 ?_
                                                                            refine aw_V_m (As := [.int (gI δ_1442 0 (ix (v3 + (1 : Int32))))]) (m_Mo_back) cv_L_161 kd_151 rfl rfl rfl (Nat.le_of_ble_eq_true rfl) ⟨Nat.le_of_ble_eq_true rfl, Nat.le_of_ble_eq_true rfl⟩ ⟨by omega, by omega⟩ d_L_law_1451 (fun y1451 => ?_)
                                                                            refine aw_bI (fun v1451 => ?_)
                                                                            refine aw_bD (fun δ_1451 => ?_)
                                                                            refine aw_icmp_eq (tgt := 1459) d_L_law_1454 rfl (fun q1454 => ?_) (fun q1454 => ?_)
                                                                            · refine aw_iinc (v := (v3 + (6 : Int32))) (lo' := [(3, .int (v3 + (6 : Int32))), (0, .ref 0), (1, .ref 4), (2, .ref 151)]) d_L_law_1459 3 rfl (by rw [show Int32.ofInt (6) = (6 : Int32) from by decide]) (by decide) rfl ?_
                                                                              refine aw_goto (tgt := 18) d_L_law_1462 rfl ?_
                                                                              refine aw_sub (lo' := [(0, .ref 0), (1, .ref 4), (2, .ref 151), (3, .int (v3 + (6 : Int32)))]) [1, 2, 3, 0] rfl ?_
                                                                              exact ih _ _ _ _ _ (by omega) (by omega)
                                                                            · refine aw_iconst d_L_law_1457 ki_0 ?_
                                                                              exact aw_zret rfl rfl rfl ⟨by omega, by omega⟩ d_L_law_1458
                                                                          · refine aw_tdflt (tgt := 1459) d_L_law_33 (by omega) rfl ?_
                                                                            refine aw_iinc (v := (v3 + (6 : Int32))) (lo' := [(3, .int (v3 + (6 : Int32))), (0, .ref 0), (1, .ref 4), (2, .ref 151)]) d_L_law_1459 3 rfl (by rw [show Int32.ofInt (6) = (6 : Int32) from by decide]) (by decide) rfl ?_
                                                                            refine aw_goto (tgt := 18) d_L_law_1462 rfl ?_
                                                                            refine aw_sub (lo' := [(0, .ref 0), (1, .ref 4), (2, .ref 151), (3, .int (v3 + (6 : Int32)))]) [1, 2, 3, 0] rfl ?_
                                                                            exact ih _ _ _ _ _ (by omega) (by omega)
theorem moF_z {δ : Dm} : True := trivial
/-- what the law runs over, once both objects are made -/
def memL (δ : Dm) : Dm := moF (flI (sI δ 7 8 (nI 11)) 30 400 15) 400
def f_L_law (δ : Dm) : Option (Int32 × Dm × Nat) := lp_L_law_18 (fun _ δk nk => some (1, δk, nk)) 513 0 (memL δ) 168
set_option maxHeartbeats 40000000 in
set_option maxRecDepth 100000 in
theorem m_L_law {δ : Dm} (hz : ZR δ 4) : AWo k_L_law 60 600000 7302250 0 [(0, .ref 0)] [] δ RT 4 0 0 (Ki RT) (f_L_law δ) := by
  unfold f_L_law memL
  refine aw_new nw_L_7 kd_4 rfl (Nat.le_of_ble_eq_true rfl) (Nat.le_of_ble_eq_true rfl) d_L_law_0 ?_
  refine aw_cD (zr_id hz) ?_
  refine aw_dup d_L_law_3 rfl ?_
  refine aw_Iu (As := []) (mi_Fp hz (R := RT) (fun _ _ _ _ => rfl)) cc_L_9 rfl rfl rfl (Nat.le_of_ble_eq_true rfl) ⟨Nat.le_of_ble_eq_true rfl, Nat.le_of_ble_eq_true rfl⟩ ⟨Nat.le_of_ble_eq_true rfl, Nat.le_of_ble_eq_true rfl⟩ d_L_law_4 ?_
  refine aw_astore_n (lo' := [(1, .ref 4), (0, .ref 0)]) d_L_law_7 rfl (by decide) rfl ?_
  have hz2 : ZR (flI (sI δ 7 8 (nI 11)) 30 400 15) 151 := ZR.fl (ZR.si (hz.up (by omega)) (by omega)) (by omega)
  refine aw_new nw_L_10 kd_151 rfl (Nat.le_of_ble_eq_true rfl) (Nat.le_of_ble_eq_true rfl) d_L_law_8 ?_
  refine aw_cD (zr_id hz2) ?_
  refine aw_dup d_L_law_11 rfl ?_
  refine aw_Iu (As := []) (mi_Mo hz2 (R := RT) (fun _ _ _ _ => rfl)) cc_L_12 rfl rfl rfl (Nat.le_of_ble_eq_true rfl) ⟨Nat.le_of_ble_eq_true rfl, Nat.le_of_ble_eq_true rfl⟩ ⟨Nat.le_of_ble_eq_true rfl, Nat.le_of_ble_eq_true rfl⟩ d_L_law_12 ?_
  refine aw_astore_n (lo' := [(2, .ref 151), (1, .ref 4), (0, .ref 0)]) d_L_law_15 rfl (by decide) rfl ?_
  refine aw_iconst d_L_law_16 ki_0 ?_
  refine aw_istore_n (lo' := [(3, .int 0), (2, .ref 151), (1, .ref 4), (0, .ref 0)]) d_L_law_17 rfl (by decide) rfl ?_
  refine aw_sub (lo' := [(0, .ref 0), (1, .ref 4), (2, .ref 151), (3, .int 0)]) [3, 2, 1, 0] rfl ?_
  refine tl_L_law_18 _ (fun v3k δk nk nc ns h1 h2 => ?_) 513 0 _ _ _ _ (Nat.le_of_ble_eq_true rfl) (Nat.le_of_ble_eq_true rfl)
  refine aw_iconst d_L_law_1465 ki_1 ?_
  exact aw_zret rfl rfl rfl ⟨h1, h2⟩ d_L_law_1466
end
