def bnd {α β : Type} (x : α) (f : α → β) : β := f x
theorem kdE {a c : Nat} (h : (KD a).1 = c) : KD a = (c, (KD a).2) := by rw [← h]
section AMX
variable {α : Type} {k : MI} {d mc ms pc nc ns n : Nat} {lo : List (Nat × Value)} {st : List Value} {δ : Dm} {R : Rm} {KK : α → Ans}
theorem aw_bI {e : Int32} {B : Int32 → Option α} (h : ∀ v, AWo k d mc ms pc lo (.int v :: st) δ R n nc ns KK (B v)) : AWo k d mc ms pc lo (.int e :: st) δ R n nc ns KK (bnd e B) := h e
theorem aw_bL {e : Int64} {B : Int64 → Option α} (h : ∀ v, AWo k d mc ms pc lo (.long v :: st) δ R n nc ns KK (B v)) : AWo k d mc ms pc lo (.long e :: st) δ R n nc ns KK (bnd e B) := h e
theorem aw_bD {e : Dm} {B : Dm → Option α} (h : ∀ v, AWo k d mc ms pc lo st v R n nc ns KK (B v)) : AWo k d mc ms pc lo st e R n nc ns KK (bnd e B) := h e
theorem aw_zr2 {x : α} {v : Int32} (hK : KK x = (some (.int v), δ, R, n)) (hret : k.2.2.2 = some .boolean) (hc : nc ≤ mc ∧ ns ≤ ms) (hdg : decode k.2.1 pc = .ok (.ireturn, 1)) : AWo k d mc ms pc lo [.int v] δ R n nc ns KK (if v = 0 ∨ v = 1 then some x else none) := by
  intro r hr
  by_cases hz : v = 0 ∨ v = 1
  · rw [if_pos hz] at hr; exact aw_zret hK hret (aw_zg hz) hc hdg r hr
  · rw [if_neg hz] at hr; cases hr
theorem aw_maxI {idx : Nat} {res : Option α} {x y : Int32} (h1 : Cond.methodLink k.1.cls idx Lib.Math.max.name ∈ lw_gd) (h2 : Cond.static Lib.Math.max.name ∈ lw_gd) (h3 : Cond.initialized "java/lang/Math" ∈ lw_gd) (h4 : Cond.code Lib.Math.max.name Lib.Math.max.code 2 (some .int) ∈ lw_gd) (hW : (st.map fun v => v.category).sum ≤ 8) (hd : 1 ≤ d) (hm : nc ≤ mc ∧ ns ≤ ms) (hdg : decode k.2.1 pc = .ok (.invokestatic idx, 3)) (h : AWo k d mc ms (pc + 3) lo (.int (if x < y then y else x) :: st) δ R n nc ns KK res) : AWo k d mc ms pc lo (.int y :: .int x :: st) δ R n nc ns KK res := by
  intro r hr p l e s m args below meth c E B H locs ls hl hV hS ho hs
  have hts := B.2.2.2.2.2.2.1
  exact va_mmax (R := rmk d mc ms) B.1 B.2.1 (by rw [B.2.2.1]; exact hl.1.symm) B.2.2.2.2.2.1 (hts _ h1) (hts _ h2) (hts _ h3) (hts _ h4) hd (by rw [cat_map]; show _ + 13 ≤ 64 * d; omega) hm.1 hm.2 hdg (h r hr p l e s m args below meth c E B H locs ls hl hV hS ho (oks_c trivial (oks_t (oks_t hs))))
theorem aw_minI {idx : Nat} {res : Option α} {x y : Int32} (h1 : Cond.methodLink k.1.cls idx Lib.Math.min.name ∈ lw_gd) (h2 : Cond.static Lib.Math.min.name ∈ lw_gd) (h3 : Cond.initialized "java/lang/Math" ∈ lw_gd) (h4 : Cond.code Lib.Math.min.name Lib.Math.min.code 2 (some .int) ∈ lw_gd) (hW : (st.map fun v => v.category).sum ≤ 8) (hd : 1 ≤ d) (hm : nc ≤ mc ∧ ns ≤ ms) (hdg : decode k.2.1 pc = .ok (.invokestatic idx, 3)) (h : AWo k d mc ms (pc + 3) lo (.int (if y < x then y else x) :: st) δ R n nc ns KK res) : AWo k d mc ms pc lo (.int y :: .int x :: st) δ R n nc ns KK res := by
  intro r hr p l e s m args below meth c E B H locs ls hl hV hS ho hs
  have hts := B.2.2.2.2.2.2.1
  exact va_mmin (R := rmk d mc ms) B.1 B.2.1 (by rw [B.2.2.1]; exact hl.1.symm) B.2.2.2.2.2.1 (hts _ h1) (hts _ h2) (hts _ h3) (hts _ h4) hd (by rw [cat_map]; show _ + 13 ≤ 64 * d; omega) hm.1 hm.2 hdg (h r hr p l e s m args below meth c E B H locs ls hl hV hS ho (oks_c trivial (oks_t (oks_t hs))))
theorem aw_maxL {idx : Nat} {res : Option α} {x y : Int64} (h1 : Cond.methodLink k.1.cls idx Lib.MathLoose.max_long.x ∈ lw_gd) (h2 : Cond.static Lib.MathLoose.max_long.x ∈ lw_gd) (h3 : Cond.initialized "java/lang/Math" ∈ lw_gd) (h4 : Cond.code Lib.MathLoose.max_long.x Lib.MathLoose.max_long.code 4 (some .long) ∈ lw_gd) (hW : (st.map fun v => v.category).sum ≤ 8) (hd : 1 ≤ d) (hm : nc ≤ mc ∧ ns ≤ ms) (hdg : decode k.2.1 pc = .ok (.invokestatic idx, 3)) (h : AWo k d mc ms (pc + 3) lo (.long (if y < x then x else y) :: st) δ R n nc ns KK res) : AWo k d mc ms pc lo (.long y :: .long x :: st) δ R n nc ns KK res := by
  intro r hr p l e s m args below meth c E B H locs ls hl hV hS ho hs
  have hts := B.2.2.2.2.2.2.1
  exact va_mmax_long (R := rmk d mc ms) B.1 B.2.1 (by rw [B.2.2.1]; exact hl.1.symm) B.2.2.2.2.2.1 (hts _ h1) (hts _ h2) (hts _ h3) (hts _ h4) hd (by rw [cat_map]; show _ + 15 ≤ 64 * d; omega) hm.1 hm.2 hdg (h r hr p l e s m args below meth c E B H locs ls hl hV hS ho (oks_c trivial (oks_t (oks_t hs))))
theorem aw_minL {idx : Nat} {res : Option α} {x y : Int64} (h1 : Cond.methodLink k.1.cls idx Lib.MathLoose.min_long.x ∈ lw_gd) (h2 : Cond.static Lib.MathLoose.min_long.x ∈ lw_gd) (h3 : Cond.initialized "java/lang/Math" ∈ lw_gd) (h4 : Cond.code Lib.MathLoose.min_long.x Lib.MathLoose.min_long.code 4 (some .long) ∈ lw_gd) (hW : (st.map fun v => v.category).sum ≤ 8) (hd : 1 ≤ d) (hm : nc ≤ mc ∧ ns ≤ ms) (hdg : decode k.2.1 pc = .ok (.invokestatic idx, 3)) (h : AWo k d mc ms (pc + 3) lo (.long (if y < x then y else x) :: st) δ R n nc ns KK res) : AWo k d mc ms pc lo (.long y :: .long x :: st) δ R n nc ns KK res := by
  intro r hr p l e s m args below meth c E B H locs ls hl hV hS ho hs
  have hts := B.2.2.2.2.2.2.1
  exact va_mmin_long (R := rmk d mc ms) B.1 B.2.1 (by rw [B.2.2.1]; exact hl.1.symm) B.2.2.2.2.2.1 (hts _ h1) (hts _ h2) (hts _ h3) (hts _ h4) hd (by rw [cat_map]; show _ + 15 ≤ 64 * d; omega) hm.1 hm.2 hdg (h r hr p l e s m args below meth c E B H locs ls hl hV hS ho (oks_c trivial (oks_t (oks_t hs))))
theorem rho1 (E : EV) : rho E 1 = eQ E := rfl
theorem rho2 (E : EV) : rho E 2 = eQb E := rfl
theorem rho3 (E : EV) : rho E 3 = eQf E := rfl
theorem aw_ldcS {res : Option α} (ho1 : k.1.cls = C_Re) (hdg : decode k.2.1 pc = .ok (.ldc 107, 2)) (h : AWo k d mc ms (pc + 2) lo (.ref 1 :: st) δ R n nc ns KK res) : AWo k d mc ms pc lo st δ R n nc ns KK res := by
  intro r hr p l e s m args below meth c E B H locs ls hl hV hS ho hs
  obtain ⟨h1, -⟩ := B.2.2.2.2.2.2.2.1.2.2.2.2.2
  refine va_ldcS (own := C_Re) (tx := txW) (q := eQ E) B.1 B.2.1 (by rw [← ho1]; exact B.2.2.2.2.2.1) h1 hdg ?_
  exact h r hr p l e s m args below meth c E B H locs ls hl hV hS ho (oks_r (show 1 < n by have := hV.1; omega) hs)
theorem aw_getSv {idx : Nat} {res : Option α} (h1 : Cond.fieldLink k.1.cls idx "java/lang/String" "value" "[B" ∈ lw_gd) (hdg : decode k.2.1 pc = .ok (.getfield idx, 3)) (h : AWo k d mc ms (pc + 3) lo (.ref 2 :: st) δ R n nc ns KK res) : AWo k d mc ms pc lo (.ref 1 :: st) δ R n nc ns KK res := by
  intro r hr p l e s m args below meth c E B H locs ls hl hV hS ho hs
  obtain ⟨-, -, -, ⟨cf, kf, fi, f, cell, g1, g2, g3, g4, g5, g6⟩, -⟩ := B.2.2.2.2.2.2.2.1.2.2.2.2.2
  have hlt : eQ E < (eH E).size := Nat.lt_of_not_le g6
  refine W.getf (a := eQ E) (v := .ref (eQb E)) B.1 B.2.1 B.2.2.2.2.2.1 (B.2.2.2.2.2.2.1 _ h1) g1 g2 (by rw [hV.2.2.2.1 _ hlt]; exact g3) g4 g5 rfl rfl hdg ?_
  exact h r hr p l e s m args below meth c E B H locs ls hl hV hS ho (oks_r (show 2 < n by have := hV.1; omega) (oks_t hs))
theorem aw_getSc {idx : Nat} {res : Option α} (h1 : Cond.fieldLink k.1.cls idx "java/lang/String" "coder" "B" ∈ lw_gd) (hdg : decode k.2.1 pc = .ok (.getfield idx, 3)) (h : AWo k d mc ms (pc + 3) lo (.int 0 :: st) δ R n nc ns KK res) : AWo k d mc ms pc lo (.ref 1 :: st) δ R n nc ns KK res := by
  intro r hr p l e s m args below meth c E B H locs ls hl hV hS ho hs
  obtain ⟨-, -, ⟨cf, kf, fi, f, cell, g1, g2, g3, g4, g5, g6⟩, -⟩ := B.2.2.2.2.2.2.2.1.2.2.2.2.2
  have hlt : eQ E < (eH E).size := Nat.lt_of_not_le g6
  refine W.getf (a := eQ E) (v := .int 0) B.1 B.2.1 B.2.2.2.2.2.1 (B.2.2.2.2.2.2.1 _ h1) g1 g2 (by rw [hV.2.2.2.1 _ hlt]; exact g3) g4 g5 rfl rfl hdg ?_
  exact h r hr p l e s m args below meth c E B H locs ls hl hV hS ho (oks_i (oks_t hs))
theorem aw_gets1 {idx : Nat} {res : Option α} (h1 : Cond.fieldLink k.1.cls idx "java/lang/String" "COMPACT_STRINGS" "Z" ∈ lw_gd) (hdg : decode k.2.1 pc = .ok (.getstatic idx, 3)) (h : AWo k d mc ms (pc + 3) lo (.int 1 :: st) δ R n nc ns KK res) : AWo k d mc ms pc lo st δ R n nc ns KK res := by
  intro r hr p l e s m args below meth c E B H locs ls hl hV hS ho hs
  obtain ⟨-, -, -, -, -, ⟨cf, kf, fi, f, a, cell, g1, g2, g3, g4, g5, g6, g7, g8⟩, -⟩ := B.2.2.2.2.2.2.2.1.2.2.2.2.2
  have hlt : a < (eH E).size := Nat.lt_of_not_le g8
  refine W.gets B.1 B.2.1 B.2.2.2.2.2.1 (B.2.2.2.2.2.2.1 _ h1) g1 g2 g3 g4 (by rw [hV.2.2.2.1 _ hlt]; exact g5) (fun e => by rw [e] at g6; cases g6) g7 rfl hdg ?_
  exact h r hr p l e s m args below meth c E B H locs ls hl hV hS ho (oks_i hs)
theorem aw_getsF {idx : Nat} {res : Option α} (h1 : Cond.fieldLink k.1.cls idx "jdk/internal/util/Preconditions" "SIOOBE_FORMATTER" "Ljava/util/function/BiFunction;" ∈ lw_gd) (hdg : decode k.2.1 pc = .ok (.getstatic idx, 3)) (h : AWo k d mc ms (pc + 3) lo (.ref 3 :: st) δ R n nc ns KK res) (h0 : AWo k d mc ms (pc + 3) lo (.null :: st) δ R n nc ns KK res) : AWo k d mc ms pc lo st δ R n nc ns KK res := by
  intro r hr p l e s m args below meth c E B H locs ls hl hV hS ho hs
  obtain ⟨-, -, -, -, -, -, hq⟩ := B.2.2.2.2.2.2.2.1.2.2.2.2.2
  rcases hq with ⟨cf, kf, fi, f, a, cell, g1, g2, g3, g4, g5, g6, g7, g8⟩ | ⟨cf, kf, fi, f, a, cell, g1, g2, g3, g4, g5, g6, g7, g8⟩
  · have hlt : a < (eH E).size := Nat.lt_of_not_le g8
    refine W.gets B.1 B.2.1 B.2.2.2.2.2.1 (B.2.2.2.2.2.2.1 _ h1) g1 g2 g3 g4 (by rw [hV.2.2.2.1 _ hlt]; exact g5) (fun e => by rw [e] at g6; cases g6) g7 rfl hdg ?_
    exact h r hr p l e s m args below meth c E B H locs ls hl hV hS ho (oks_r (show 3 < n by have := hV.1; omega) hs)
  · have hlt : a < (eH E).size := Nat.lt_of_not_le g8
    refine W.gets B.1 B.2.1 B.2.2.2.2.2.1 (B.2.2.2.2.2.2.1 _ h1) g1 g2 g3 g4 (by rw [hV.2.2.2.1 _ hlt]; exact g5) (fun e => by rw [e] at g6; cases g6) g7 rfl hdg ?_
    exact h0 r hr p l e s m args below meth c E B H locs ls hl hV hS ho (oks_n hs)
theorem aw_alenS {res : Option α} (hdg : decode k.2.1 pc = .ok (.arraylength, 1)) (h : AWo k d mc ms (pc + 1) lo (.int 108 :: st) δ R n nc ns KK res) : AWo k d mc ms pc lo (.ref 2 :: st) δ R n nc ns KK res := by
  intro r hr p l e s m args below meth c E B H locs ls hl hV hS ho hs
  obtain ⟨-, -, -, -, ⟨cell, g1, g2, g3, g4, g5, g6, g7⟩, -⟩ := B.2.2.2.2.2.2.2.1.2.2.2.2.2
  have hlt : eQb E < (eH E).size := Nat.lt_of_not_le g7
  exact W.alen (a := eQb E) (n := 108) B.1 B.2.1 (by rw [hV.2.2.2.1 _ hlt]; exact g1) g2 g5 rfl rfl hdg (h r hr p l e s m args below meth c E B H locs ls hl hV hS ho (oks_i (oks_t hs)))
theorem aw_baldS {res : Option α} {i : Int32} (hdg : decode k.2.1 pc = .ok (.baload, 1)) (h : AWo k d mc ms (pc + 1) lo (.int (byW (ix i)) :: st) δ R n nc ns KK res) : AWo k d mc ms pc lo (.int i :: .ref 2 :: st) δ R n nc ns KK (if inb i 108 then res else none) := by
  intro r hr p l e s m args below meth c E B H locs ls hl hV hS ho hs
  by_cases q : inb i 108
  · rw [if_pos q] at hr
    obtain ⟨-, -, -, -, ⟨cell, g1, g2, g3, g4, g5, g6, g7⟩, -⟩ := B.2.2.2.2.2.2.2.1.2.2.2.2.2
    have hlt : eQb E < (eH E).size := Nat.lt_of_not_le g7
    have hix : i.toNatClampNeg < 108 := Nat.not_le.mp fun z => inb_in q (Or.inr z)
    exact W.bald (a := eQb E) (v := .int (byW (ix i))) B.1 B.2.1 (by rw [hV.2.2.2.1 _ hlt]; exact g1) g2 g3 (fun z => z.elim (fun z => inb_in q (Or.inl z)) (fun z => by omega)) (g6 _ hix) rfl rfl hdg (h r hr p l e s m args below meth c E B H locs ls hl hV hS ho (oks_i (oks_t (oks_t hs))))
  · rw [if_neg q] at hr; cases hr
theorem aw_VS {β : Type} {f : Option β} {K1 : β → Ans} {rest : β → Option α} {k1 : MI} {d1 idx np : Nat} {st0 : List Value} (As : List Value) (hM : ∀ y, f = some y → AMet k1 d1 0 0 (.ref 1 :: As) δ R n (K1 y)) (hc : CVt k.1.cls idx k1 np) (hcl : k1.1.cls = "java/lang/String") (hn : As.length = np) (hst : st0 = (Value.ref 1 :: As).reverse ++ st) (hW : (st.map fun v => v.category).sum ≤ 8) (hd : d1 + 1 ≤ d ∧ k1.2.2.1 ≤ 40) (hm : nc ≤ mc ∧ ns ≤ ms) (hdg : decode k.2.1 pc = .ok (.invokevirtual idx, 3)) (h : ∀ y, AWo k d mc ms (pc + 3) lo ((K1 y).1.toList ++ st) (K1 y).2.1 (K1 y).2.2.1 (K1 y).2.2.2 nc ns KK (rest y)) : AWo k d mc ms pc lo st0 δ R n nc ns KK (f.bind rest) := by
  intro r hr p l e s m args below meth c E B H locs ls hl hV hS ho hs
  cases hf : f with
  | none => rw [hf] at hr; cases hr
  | some y =>
    rw [hf] at hr
    obtain ⟨hsA, hsR⟩ := oks_args hst hs
    have hts := B.2.2.2.2.2.2.1
    have hWE : ((st.map (shv E)).map fun v => v.category).sum ≤ 8 := by rw [cat_map]; exact hW
    have hpre : PreS s H (PcE E (.ref 1 :: As) δ R n) (List.map (shv E) (.ref 1 :: As)) := ⟨PcE_blind, fun U hU hWm => ⟨rfl, by rw [hU]; exact hV, KX.warm hWm B.2.2.2.2.2.2.2.1, hsA⟩⟩
    have hroom : (rmk d1 0 0).frames + 1 ≤ (rmk d mc ms).frames ∧ 8 + (k1.2.2.1 + 11) + (rmk d1 0 0).locals ≤ (rmk d mc ms).locals := ⟨hd.1, by show 8 + (k1.2.2.1 + 11) + 64 * d1 ≤ 64 * d; omega⟩
    obtain ⟨hmk, hlk, hin, hse, hpd⟩ := hc
    obtain ⟨-, ⟨cell, g1, g2, g3, g4⟩, -⟩ := B.2.2.2.2.2.2.2.1.2.2.2.2.2
    have hlt : eQ E < (eH E).size := Nat.lt_of_not_le g4
    refine aw_back (va_runV (C := k1.1.cls) (b := eQ E) (As := As.map (shv E)) (rest := st.map (shv E)) ⟨B.1, B.2.1, B.2.2.1, B.2.2.2.2.2.1, hts⟩ (hM y hf l E) ⟨callB_of np hts hmk.gi rfl rfl rfl (hts _ hmk.2.1) (hts _ hlk) ⟨hmk.2.2.1.1, hmk.2.2.1.2, hpd⟩ hroom, hts _ hin, hts _ hse⟩ ⟨hpre.1, ⟨cell, by rw [hV.2.2.2.1 _ hlt]; exact g1, g2, by rw [hcl]; exact g3⟩, hpre.2⟩ rfl (by rw [List.length_map]; exact hn) hl.1 (by rw [hst]; simp [shv, rho1]) (lv_room hWE) hdg hm) hV hS (fun H1 locs1 hV1 hS1 hnn hok => ?_)
    rw [aw_stk]
    exact h y r hr p l e s m args below meth c E B H1 locs1 ls hl hV1 hS1 (okl_up ho hnn) (aw_oks hok (oks_up hsR hnn))
end AMX
theorem ml_Fp_356 : Cond.methodLink C_Fp 356 Lib.Math.min.name ∈ lw_gd := (lw_gdI 1152 (by decide +kernel) rfl)
theorem ml_Fp_367 : Cond.methodLink C_Fp 367 Lib.MathLoose.min_long.x ∈ lw_gd := (lw_gdI 823 (by decide +kernel) rfl)
theorem ml_Fp_370 : Cond.methodLink C_Fp 370 Lib.MathLoose.max_long.x ∈ lw_gd := (lw_gdI 826 (by decide +kernel) rfl)
theorem ml_Cr_50 : Cond.methodLink C_Cr 50 Lib.Math.max.name ∈ lw_gd := (lw_gdI 1123 (by decide +kernel) rfl)
theorem ml_La_88 : Cond.methodLink C_La 88 Lib.Math.max.name ∈ lw_gd := (lw_gdI 829 (by decide +kernel) rfl)
theorem ml_Re_93 : Cond.methodLink C_Re 93 Lib.Math.max.name ∈ lw_gd := (lw_gdI 640 (by decide +kernel) rfl)
theorem ml_Ro_42 : Cond.methodLink C_Ro 42 Lib.Math.min.name ∈ lw_gd := (lw_gdI 1069 (by decide +kernel) rfl)
theorem ms_maxI : Cond.static Lib.Math.max.name ∈ lw_gd := (lw_gdI 641 (by decide +kernel) rfl)
theorem mx_maxI : Cond.code Lib.Math.max.name Lib.Math.max.code 2 (some .int) ∈ lw_gd := (lw_gdI 642 (by decide +kernel) rfl)
theorem ms_minI : Cond.static Lib.Math.min.name ∈ lw_gd := (lw_gdI 1070 (by decide +kernel) rfl)
theorem mx_minI : Cond.code Lib.Math.min.name Lib.Math.min.code 2 (some .int) ∈ lw_gd := (lw_gdI 1071 (by decide +kernel) rfl)
theorem ms_maxL : Cond.static Lib.MathLoose.max_long.x ∈ lw_gd := (lw_gdI 827 (by decide +kernel) rfl)
theorem mx_maxL : Cond.code Lib.MathLoose.max_long.x Lib.MathLoose.max_long.code 4 (some .long) ∈ lw_gd := (lw_gdI 828 (by decide +kernel) rfl)
theorem ms_minL : Cond.static Lib.MathLoose.min_long.x ∈ lw_gd := (lw_gdI 824 (by decide +kernel) rfl)
theorem mx_minL : Cond.code Lib.MathLoose.min_long.x Lib.MathLoose.min_long.code 4 (some .long) ∈ lw_gd := (lw_gdI 825 (by decide +kernel) rfl)
theorem mi_Ma : Cond.initialized "java/lang/Math" ∈ lw_gd := (lw_gdI 109 (by decide +kernel) rfl)
theorem sf_9 : Cond.fieldLink C_St 9 "java/lang/String" "value" "[B" ∈ lw_gd := (lw_gdI 1704 (by decide +kernel) rfl)
theorem sf_15 : Cond.fieldLink C_St 15 "java/lang/String" "coder" "B" ∈ lw_gd := (lw_gdI 1705 (by decide +kernel) rfl)
theorem sf_38 : Cond.fieldLink C_St 38 "java/lang/String" "COMPACT_STRINGS" "Z" ∈ lw_gd := (lw_gdI 594 (by decide +kernel) rfl)
theorem sf_1053 : Cond.fieldLink C_St 1053 "jdk/internal/util/Preconditions" "SIOOBE_FORMATTER" "Ljava/util/function/BiFunction;" ∈ lw_gd := (lw_gdI 610 (by decide +kernel) rfl)
