/-! calls, returns, the start of a method -/
def MOK (k : MI) : Prop := Cond.code k.1 k.2.1 k.2.2.1 k.2.2.2 ∈ lw_gd ∧ Cond.initialized k.1.cls ∈ lw_gd ∧ (k.1.cls ≠ "java/lang/invoke/MethodHandle" ∧ k.1.cls ≠ "java/lang/invoke/VarHandle") ∧ plainName k.1.cls = true
def CSt (own : String) (idx : Nat) (k : MI) (np : Nat) : Prop := MOK k ∧ Cond.methodLink own idx k.1 ∈ lw_gd ∧ Cond.static k.1 ∈ lw_gd ∧ (parseMethodDescriptor k.1.desc).map (fun d => d.parameters.length) = some np
def CSn (own : String) (idx : Nat) (k : MI) (np : Nat) : Prop := MOK k ∧ (∃ host, Cond.methodLinkNest own idx k.1 host ∈ lw_nest) ∧ Cond.static k.1 ∈ lw_gd ∧ (parseMethodDescriptor k.1.desc).map (fun d => d.parameters.length) = some np
def CVt (own : String) (idx : Nat) (k : MI) (np : Nat) : Prop := MOK k ∧ Cond.methodLink own idx k.1 ∈ lw_gd ∧ Cond.instanceMethod k.1 ∈ lw_gd ∧ Cond.selects k.1.cls k.1 k.1 ∈ lw_gd ∧ (parseMethodDescriptor k.1.desc).map (fun d => d.parameters.length) = some np
def CIt (own : String) (idx : Nat) (k : MI) (np : Nat) : Prop := MOK k ∧ Cond.methodLink own idx k.1 ∈ lw_gd ∧ Cond.instanceMethod k.1 ∈ lw_gd ∧ k.1.name = "<init>" ∧ (parseMethodDescriptor k.1.desc).map (fun d => d.parameters.length) = some np
def CIn (own : String) (idx : Nat) (k : MI) (np : Nat) : Prop := MOK k ∧ (∃ host, Cond.methodLinkNest own idx k.1 host ∈ lw_nest) ∧ Cond.instanceMethod k.1 ∈ lw_gd ∧ k.1.name = "<init>" ∧ (parseMethodDescriptor k.1.desc).map (fun d => d.parameters.length) = some np
theorem MOK.gi {k : MI} (h : MOK k) : GoodIn lw_gd (wsk k) := by
  intro w hw
  rcases List.mem_cons.mp hw with e | hw
  · subst e; exact ⟨h.1, good_of_word (lw_gd_good _ h.1)⟩
  · exact ⟨hw, good_of_word (lw_gd_good _ hw)⟩
abbrev Kp (δ : Dm) (R : Rm) (n : Nat) : Int32 → Ans := fun v => (some (.int v), δ, R, n)
abbrev Kl (δ : Dm) (R : Rm) (n : Nat) : Int64 → Ans := fun v => (some (.long v), δ, R, n)
abbrev Kr (δ : Dm) (R : Rm) (n : Nat) : Option Nat → Ans := fun v => (some (rfv v), δ, R, n)
abbrev Km (R : Rm) (n : Nat) : Int32 × Dm → Ans := fun q => (some (.int q.1), q.2, R, n)
abbrev Kn (R : Rm) (n : Nat) : Int64 × Dm → Ans := fun q => (some (.long q.1), q.2, R, n)
abbrev Kv (R : Rm) (n : Nat) : Dm → Ans := fun q => (none, q, R, n)
abbrev Kz (δ : Dm) (R : Rm) (n : Nat) : Unit → Ans := fun _ => (none, δ, R, n)
abbrev Ka : Dm × Rm × Nat → Ans := fun q => (none, q.1, q.2.1, q.2.2)
abbrev Ki (R : Rm) : Int32 × Dm × Nat → Ans := fun q => (some (.int q.1), q.2.1, R, q.2.2)
section AMC
variable {p : Program} {l : Launch} {e : Env} {s : State} {m : MethodId} {args : Array Value} {below : List Frame} {meth : Method} {c : Code} {E : EV} {H : Heap} {locs : List Loc} {cells slots : Nat} {Q : State → Prop} {k k1 : MI} {pc d d1 mc ms mc1 ms1 idx np : Nat} {ls : Array Slot} {st0 st : List Value} {δ : Dm} {R : Rm} {n a : Nat}
theorem aw_back {r1 : Ans} {aa : Array Value} {rest : List Value} {sl : List Value} (hr : va_Run p l e (rmk d mc ms) s m args below meth c H locs cells slots mc1 ms1 (F0 m pc ls sl) rest (QcE E r1 aa) (AE E)) (hV : Vw E δ R n H) (hS : va_S (AE E) s.heap H locs)
    (kk : ∀ (H1 : Heap) (locs1 : List Loc), Vw E r1.2.1 r1.2.2.1 r1.2.2.2 H1 → va_S (AE E) s.heap H1 locs1 → n ≤ r1.2.2.2 → okr r1.2.2.2 r1.1 → W p l e (rmk d mc ms) s m args below meth c H1 locs1 (cells + mc1) (slots + ms1) Q (F0 m (pc + 3) ls ((r1.1.map (shv E)).toList ++ rest))) :
    W p l e (rmk d mc ms) s m args below meth c H locs cells slots Q (F0 m pc ls sl) := by
  intro T hT X
  obtain ⟨v, st₀, t, T', L, h0, X', hL, e1, e2, ⟨hv, hV1, hsz, hok⟩, st⟩ := hr T hT X
  have hv2 : v = r1.1.map (shv E) := Outcome.returned.inj hv
  subst hv2
  rw [h0] at hsz
  have hV1' : Vw E r1.2.1 r1.2.2.1 r1.2.2.2 T'.heap := by rw [e1]; exact hV1
  have hsz' : H.size ≤ T'.heap.size := by rw [e1]; exact hsz
  obtain ⟨t2, a1, b1⟩ := kk T'.heap (locs ++ L) hV1' ⟨Nat.le_trans hS.1 hsz', fun q h1 h2 => by
      have h3 : q < (eH E).size := Nat.lt_of_not_le h2
      rw [hV1'.2.2.2.1 q h3, ← hV.2.2.2.1 q h3]; exact hS.2.1 q h1 h2, fun q hq => by
      rcases List.mem_append.mp hq with h | h
      · exact hS.2.2 q h
      · exact hL q h⟩ (by have z1 := hV.2.1; have z2 := hV1'.2.1; have z3 := hV.1; have z4 := hV1'.1; omega) hok T' rfl X'
  exact ⟨t2, st t2 a1, b1⟩
theorem PcE_blind {E : EV} {av : List Value} : FrameBlind (PcE E av δ R n) := fun aa U g mk h => ⟨h.1, h.2.1, KX.same (u := U) (U := U.calling g mk aa) rfl h.2.2.1, h.2.2.2⟩
theorem rev_map (E : EV) {As st0 st : List Value} (h : st0 = As.reverse ++ st) : st0.map (shv E) = (As.map (shv E)).reverse ++ st.map (shv E) := by rw [h]; simp
theorem cat_map (E : EV) (st : List Value) : ((st.map (shv E)).map fun v => v.category) = st.map fun v => v.category := by simp [Function.comp_def, shv_cat]
theorem oks_args {As st0 st : List Value} (h : st0 = As.reverse ++ st) (hs : oks n st0) : oks n As ∧ oks n st := by
  subst h
  exact ⟨fun x hx => hs x (List.mem_append_left _ (List.mem_reverse.mpr hx)), fun x hx => hs x (List.mem_append_right _ hx)⟩
theorem aw_stk (E : EV) (v : Option Value) (st : List Value) : (v.map (shv E)).toList ++ st.map (shv E) = (v.toList ++ st).map (shv E) := by cases v <;> rfl
theorem aw_oks {v : Option Value} {st : List Value} (h : okr n v) (hs : oks n st) : oks n (v.toList ++ st) := by
  cases v with
  | none => exact hs
  | some v => exact oks_c h hs
end AMC
section AMD
variable {α β : Type} {k k1 : MI} {d d1 mc ms mc1 ms1 pc nc ns n idx np a : Nat} {lo lo' : List (Nat × Value)} {st st0 : List Value} {δ : Dm} {R : Rm} {KK : α → Ans} {res A : Option α} {f : Option β} {K1 : β → Ans} {rest : β → Option α}
theorem aw_S (As : List Value) (hM : ∀ y, f = some y → AMet k1 d1 mc1 ms1 As δ R n (K1 y)) (hc : CSt k.1.cls idx k1 np) (hn : As.length = np) (hst : st0 = As.reverse ++ st) (hW : (st.map fun v => v.category).sum ≤ 8) (hd : d1 + 1 ≤ d ∧ k1.2.2.1 ≤ 40) (hm : nc + mc1 ≤ mc ∧ ns + ms1 ≤ ms) (hdg : decode k.2.1 pc = .ok (.invokestatic idx, 3)) (h : ∀ y, AWo k d mc ms (pc + 3) lo ((K1 y).1.toList ++ st) (K1 y).2.1 (K1 y).2.2.1 (K1 y).2.2.2 (nc + mc1) (ns + ms1) KK (rest y)) : AWo k d mc ms pc lo st0 δ R n nc ns KK (f.bind rest) := by
  intro r hr p l e s m args below meth c E B H locs ls hl hV hS ho hs
  cases hf : f with
  | none => rw [hf] at hr; cases hr
  | some y =>
    rw [hf] at hr
    obtain ⟨hsA, hsR⟩ := oks_args hst hs
    have hts := B.2.2.2.2.2.2.1
    have hWE : ((st.map (shv E)).map fun v => v.category).sum ≤ 8 := by rw [cat_map]; exact hW
    have hpre : PreS s H (PcE E As δ R n) (List.map (shv E) As) := ⟨PcE_blind, fun U hU hWm => ⟨rfl, by rw [hU]; exact hV, KX.warm hWm B.2.2.2.2.2.2.2.1, hsA⟩⟩
    have hroom : (rmk d1 mc1 ms1).frames + 1 ≤ (rmk d mc ms).frames ∧ 8 + (k1.2.2.1 + 11) + (rmk d1 mc1 ms1).locals ≤ (rmk d mc ms).locals := ⟨hd.1, by show 8 + (k1.2.2.1 + 11) + 64 * d1 ≤ 64 * d; omega⟩
    obtain ⟨hmk, hlk, hstt, hpd⟩ := hc
    refine aw_back (va_runS (As := As.map (shv E)) (rest := st.map (shv E)) ⟨B.1, B.2.1, B.2.2.1, B.2.2.2.2.2.1, hts⟩ (hM y hf l E) ⟨callB_of np hts hmk.gi rfl rfl rfl (hts _ hmk.2.1) (hts _ hlk) ⟨hmk.2.2.1.1, hmk.2.2.1.2, hpd⟩ hroom, hts _ hstt⟩ hpre rfl (by rw [List.length_map]; exact hn) hl.1 (rev_map E hst) (lv_room hWE) hdg hm) hV hS (fun H1 locs1 hV1 hS1 hnn hok => ?_)
    rw [aw_stk]
    exact h y r hr p l e s m args below meth c E B H1 locs1 ls hl hV1 hS1 (okl_up ho hnn) (aw_oks hok (oks_up hsR hnn))
theorem aw_SN (As : List Value) (hM : ∀ y, f = some y → AMet k1 d1 mc1 ms1 As δ R n (K1 y)) (hc : CSn k.1.cls idx k1 np) (hn : As.length = np) (hst : st0 = As.reverse ++ st) (hW : (st.map fun v => v.category).sum ≤ 8) (hd : d1 + 1 ≤ d ∧ k1.2.2.1 ≤ 40) (hm : nc + mc1 ≤ mc ∧ ns + ms1 ≤ ms) (hdg : decode k.2.1 pc = .ok (.invokestatic idx, 3)) (h : ∀ y, AWo k d mc ms (pc + 3) lo ((K1 y).1.toList ++ st) (K1 y).2.1 (K1 y).2.2.1 (K1 y).2.2.2 (nc + mc1) (ns + ms1) KK (rest y)) : AWo k d mc ms pc lo st0 δ R n nc ns KK (f.bind rest) := by
  intro r hr p l e s m args below meth c E B H locs ls hl hV hS ho hs
  cases hf : f with
  | none => rw [hf] at hr; cases hr
  | some y =>
    rw [hf] at hr
    obtain ⟨hsA, hsR⟩ := oks_args hst hs
    have hts := B.2.2.2.2.2.2.1
    have hWE : ((st.map (shv E)).map fun v => v.category).sum ≤ 8 := by rw [cat_map]; exact hW
    have hpre : PreS s H (PcE E As δ R n) (List.map (shv E) As) := ⟨PcE_blind, fun U hU hWm => ⟨rfl, by rw [hU]; exact hV, KX.warm hWm B.2.2.2.2.2.2.2.1, hsA⟩⟩
    have hroom : (rmk d1 mc1 ms1).frames + 1 ≤ (rmk d mc ms).frames ∧ 8 + (k1.2.2.1 + 11) + (rmk d1 mc1 ms1).locals ≤ (rmk d mc ms).locals := ⟨hd.1, by show 8 + (k1.2.2.1 + 11) + 64 * d1 ≤ 64 * d; omega⟩
    obtain ⟨hmk, ⟨host, hlk⟩, hstt, hpd⟩ := hc
    refine aw_back (va_runSN (host := host) (As := As.map (shv E)) (rest := st.map (shv E)) ⟨B.1, B.2.1, B.2.2.1, B.2.2.2.2.2.1, hts⟩ (hM y hf l E) ⟨⟨⟨rfl, rfl, hroom.1, hroom.2, pay_in hts hmk.gi, List.mem_cons_self⟩, hts _ hmk.1, hts _ hmk.2.1, hmk.2.2.1, fun sig hsig => by rw [hsig] at hpd; exact (Option.some.inj hpd).symm, va_Nw.use rfl (B.2.2.2.2.2.2.2.1.2.2.2.1 _ hlk)⟩, hts _ hstt, trivial⟩ hpre rfl (by rw [List.length_map]; exact hn) hl.1 (rev_map E hst) (lv_room hWE) hdg hm) hV hS (fun H1 locs1 hV1 hS1 hnn hok => ?_)
    rw [aw_stk]
    exact h y r hr p l e s m args below meth c E B H1 locs1 ls hl hV1 hS1 (okl_up ho hnn) (aw_oks hok (oks_up hsR hnn))
theorem aw_I (As : List Value) (hM : ∀ y, f = some y → AMet k1 d1 mc1 ms1 (.ref a :: As) δ R n (K1 y)) (hc : CIt k.1.cls idx k1 np) (hret : k1.2.2.2 = none) (hn : As.length = np) (hst : st0 = (Value.ref a :: As).reverse ++ st) (hW : (st.map fun v => v.category).sum ≤ 8) (hd : d1 + 1 ≤ d ∧ k1.2.2.1 ≤ 40) (hm : nc + mc1 ≤ mc ∧ ns + ms1 ≤ ms) (hdg : decode k.2.1 pc = .ok (.invokespecial idx, 3)) (h : ∀ y, AWo k d mc ms (pc + 3) lo ((K1 y).1.toList ++ st) (K1 y).2.1 (K1 y).2.2.1 (K1 y).2.2.2 (nc + mc1) (ns + ms1) KK (rest y)) : AWo k d mc ms pc lo st0 δ R n nc ns KK (f.bind rest) := by
  intro r hr p l e s m args below meth c E B H locs ls hl hV hS ho hs
  cases hf : f with
  | none => rw [hf] at hr; cases hr
  | some y =>
    rw [hf] at hr
    obtain ⟨hsA, hsR⟩ := oks_args hst hs
    have hts := B.2.2.2.2.2.2.1
    have hWE : ((st.map (shv E)).map fun v => v.category).sum ≤ 8 := by rw [cat_map]; exact hW
    have hpre : PreS s H (PcE E (.ref a :: As) δ R n) (List.map (shv E) (.ref a :: As)) := ⟨PcE_blind, fun U hU hWm => ⟨rfl, by rw [hU]; exact hV, KX.warm hWm B.2.2.2.2.2.2.2.1, hsA⟩⟩
    have hroom : (rmk d1 mc1 ms1).frames + 1 ≤ (rmk d mc ms).frames ∧ 8 + (k1.2.2.1 + 11) + (rmk d1 mc1 ms1).locals ≤ (rmk d mc ms).locals := ⟨hd.1, by show 8 + (k1.2.2.1 + 11) + 64 * d1 ≤ 64 * d; omega⟩
    obtain ⟨hmk, hlk, hin, hy1, hpd⟩ := hc
    obtain ⟨y1, c1, l1, t1⟩ := k1
    have hret : t1 = none := hret
    subst hret
    refine aw_back (va_runI (b := rho E a) (As := As.map (shv E)) (rest := st.map (shv E)) ⟨B.1, B.2.1, B.2.2.1, B.2.2.2.2.2.1, hts⟩ (hM y hf l E) ⟨callB_of np hts hmk.gi rfl rfl rfl (hts _ hmk.2.1) (hts _ hlk) ⟨hmk.2.2.1.1, hmk.2.2.1.2, hpd⟩ hroom, hy1, hts _ hin⟩ hpre rfl (by rw [List.length_map]; exact hn) hl.1 (by rw [hst]; simp [shv]) (lv_room hWE) hdg hm) hV hS (fun H1 locs1 hV1 hS1 hnn hok => ?_)
    rw [aw_stk]
    exact h y r hr p l e s m args below meth c E B H1 locs1 ls hl hV1 hS1 (okl_up ho hnn) (aw_oks hok (oks_up hsR hnn))
theorem aw_IN (As : List Value) (hM : ∀ y, f = some y → AMet k1 d1 mc1 ms1 (.ref a :: As) δ R n (K1 y)) (hc : CIn k.1.cls idx k1 np) (hret : k1.2.2.2 = none) (hn : As.length = np) (hst : st0 = (Value.ref a :: As).reverse ++ st) (hW : (st.map fun v => v.category).sum ≤ 8) (hd : d1 + 1 ≤ d ∧ k1.2.2.1 ≤ 40) (hm : nc + mc1 ≤ mc ∧ ns + ms1 ≤ ms) (hdg : decode k.2.1 pc = .ok (.invokespecial idx, 3)) (h : ∀ y, AWo k d mc ms (pc + 3) lo ((K1 y).1.toList ++ st) (K1 y).2.1 (K1 y).2.2.1 (K1 y).2.2.2 (nc + mc1) (ns + ms1) KK (rest y)) : AWo k d mc ms pc lo st0 δ R n nc ns KK (f.bind rest) := by
  intro r hr p l e s m args below meth c E B H locs ls hl hV hS ho hs
  cases hf : f with
  | none => rw [hf] at hr; cases hr
  | some y =>
    rw [hf] at hr
    obtain ⟨hsA, hsR⟩ := oks_args hst hs
    have hts := B.2.2.2.2.2.2.1
    have hWE : ((st.map (shv E)).map fun v => v.category).sum ≤ 8 := by rw [cat_map]; exact hW
    have hpre : PreS s H (PcE E (.ref a :: As) δ R n) (List.map (shv E) (.ref a :: As)) := ⟨PcE_blind, fun U hU hWm => ⟨rfl, by rw [hU]; exact hV, KX.warm hWm B.2.2.2.2.2.2.2.1, hsA⟩⟩
    have hroom : (rmk d1 mc1 ms1).frames + 1 ≤ (rmk d mc ms).frames ∧ 8 + (k1.2.2.1 + 11) + (rmk d1 mc1 ms1).locals ≤ (rmk d mc ms).locals := ⟨hd.1, by show 8 + (k1.2.2.1 + 11) + 64 * d1 ≤ 64 * d; omega⟩
    obtain ⟨hmk, ⟨host, hlk⟩, hin, hy1, hpd⟩ := hc
    obtain ⟨y1, c1, l1, t1⟩ := k1
    have hret : t1 = none := hret
    subst hret
    refine aw_back (va_runIN (host := host) (b := rho E a) (As := As.map (shv E)) (rest := st.map (shv E)) ⟨B.1, B.2.1, B.2.2.1, B.2.2.2.2.2.1, hts⟩ (hM y hf l E) ⟨⟨⟨rfl, rfl, hroom.1, hroom.2, pay_in hts hmk.gi, List.mem_cons_self⟩, hts _ hmk.1, hts _ hmk.2.1, hmk.2.2.1, fun sig hsig => by rw [hsig] at hpd; exact (Option.some.inj hpd).symm, va_Nw.use rfl (B.2.2.2.2.2.2.2.1.2.2.2.1 _ hlk)⟩, hy1, hts _ hin⟩ hpre rfl (by rw [List.length_map]; exact hn) hl.1 (by rw [hst]; simp [shv]) (lv_room hWE) hdg hm) hV hS (fun H1 locs1 hV1 hS1 hnn hok => ?_)
    rw [aw_stk]
    exact h y r hr p l e s m args below meth c E B H1 locs1 ls hl hV1 hS1 (okl_up ho hnn) (aw_oks hok (oks_up hsR hnn))
theorem aw_V {ci N : Nat} {T1 : u_T} {N1 : Nat} (As : List Value) (hM : ∀ y, f = some y → AMet k1 d1 mc1 ms1 (.ref a :: As) δ R n (K1 y)) (hc : CVt k.1.cls idx k1 np) (hk : KD a = (ci + 10, N)) (hcl : classes[ci]? = some (k1.1.cls, T1, N1)) (hn : As.length = np) (hst : st0 = (Value.ref a :: As).reverse ++ st) (hW : (st.map fun v => v.category).sum ≤ 8) (hd : d1 + 1 ≤ d ∧ k1.2.2.1 ≤ 40) (hm : nc + mc1 ≤ mc ∧ ns + ms1 ≤ ms) (hdg : decode k.2.1 pc = .ok (.invokevirtual idx, 3)) (h : ∀ y, AWo k d mc ms (pc + 3) lo ((K1 y).1.toList ++ st) (K1 y).2.1 (K1 y).2.2.1 (K1 y).2.2.2 (nc + mc1) (ns + ms1) KK (rest y)) : AWo k d mc ms pc lo st0 δ R n nc ns KK (f.bind rest) := by
  intro r hr p l e s m args below meth c E B H locs ls hl hV hS ho hs
  cases hf : f with
  | none => rw [hf] at hr; cases hr
  | some y =>
    rw [hf] at hr
    obtain ⟨hsA, hsR⟩ := oks_args hst hs
    have hts := B.2.2.2.2.2.2.1
    have hWE : ((st.map (shv E)).map fun v => v.category).sum ≤ 8 := by rw [cat_map]; exact hW
    have hpre : PreS s H (PcE E (.ref a :: As) δ R n) (List.map (shv E) (.ref a :: As)) := ⟨PcE_blind, fun U hU hWm => ⟨rfl, by rw [hU]; exact hV, KX.warm hWm B.2.2.2.2.2.2.2.1, hsA⟩⟩
    have hroom : (rmk d1 mc1 ms1).frames + 1 ≤ (rmk d mc ms).frames ∧ 8 + (k1.2.2.1 + 11) + (rmk d1 mc1 ms1).locals ≤ (rmk d mc ms).locals := ⟨hd.1, by show 8 + (k1.2.2.1 + 11) + 64 * d1 ≤ 64 * d; omega⟩
    obtain ⟨hmk, hlk, hin, hse, hpd⟩ := hc
    have h4 : 4 ≤ a := KD_lo (by rw [hk]; simp)
    have ha : a < n := hsA (.ref a) List.mem_cons_self
    obtain ⟨cell, q1, q2, q3, -⟩ := cat_obj (hV.2.2.1 a h4 ha) hk
    have hfc := (B.2.2.2.2.2.2.2.1.1.1 ci _ hcl).2.1
    refine aw_back (va_runV (C := k1.1.cls) (b := rho E a) (As := As.map (shv E)) (rest := st.map (shv E)) ⟨B.1, B.2.1, B.2.2.1, B.2.2.2.2.2.1, hts⟩ (hM y hf l E) ⟨callB_of np hts hmk.gi rfl rfl rfl (hts _ hmk.2.1) (hts _ hlk) ⟨hmk.2.2.1.1, hmk.2.2.1.2, hpd⟩ hroom, hts _ hin, hts _ hse⟩ ⟨hpre.1, ⟨cell, q1, by rw [q3]; rfl, by rw [q2]; exact hfc⟩, hpre.2⟩ rfl (by rw [List.length_map]; exact hn) hl.1 (by rw [hst]; simp [shv]) (lv_room hWE) hdg hm) hV hS (fun H1 locs1 hV1 hS1 hnn hok => ?_)
    rw [aw_stk]
    exact h y r hr p l e s m args below meth c E B H1 locs1 ls hl hV1 hS1 (okl_up ho hnn) (aw_oks hok (oks_up hsR hnn))
theorem aw_S_p {f : Option (Int32)} {rest : Int32 → Option α} (As : List Value) (hM : ∀ y, f = some y → AMet k1 d1 0 0 As δ R n (Kp δ R n y)) (hc : CSt k.1.cls idx k1 np) (hn : As.length = np) (hst : st0 = (As).reverse ++ st) (hW : (st.map fun v => v.category).sum ≤ 8) (hd : d1 + 1 ≤ d ∧ k1.2.2.1 ≤ 40) (hm : nc ≤ mc ∧ ns ≤ ms) (hdg : decode k.2.1 pc = .ok (.invokestatic idx, 3)) (h : ∀ y, AWo k d mc ms (pc + 3) lo (.int y :: st) δ R n nc ns KK (rest y)) : AWo k d mc ms pc lo st0 δ R n nc ns KK (f.bind rest) :=
  aw_S (K1 := Kp δ R n) As hM hc hn hst hW hd hm hdg h
theorem aw_S_l {f : Option (Int64)} {rest : Int64 → Option α} (As : List Value) (hM : ∀ y, f = some y → AMet k1 d1 0 0 As δ R n (Kl δ R n y)) (hc : CSt k.1.cls idx k1 np) (hn : As.length = np) (hst : st0 = (As).reverse ++ st) (hW : (st.map fun v => v.category).sum ≤ 8) (hd : d1 + 1 ≤ d ∧ k1.2.2.1 ≤ 40) (hm : nc ≤ mc ∧ ns ≤ ms) (hdg : decode k.2.1 pc = .ok (.invokestatic idx, 3)) (h : ∀ y, AWo k d mc ms (pc + 3) lo (.long y :: st) δ R n nc ns KK (rest y)) : AWo k d mc ms pc lo st0 δ R n nc ns KK (f.bind rest) :=
  aw_S (K1 := Kl δ R n) As hM hc hn hst hW hd hm hdg h
theorem aw_S_m {f : Option (Int32 × Dm)} {rest : Int32 × Dm → Option α} (As : List Value) (hM : ∀ y, f = some y → AMet k1 d1 0 0 As δ R n (Km R n y)) (hc : CSt k.1.cls idx k1 np) (hn : As.length = np) (hst : st0 = (As).reverse ++ st) (hW : (st.map fun v => v.category).sum ≤ 8) (hd : d1 + 1 ≤ d ∧ k1.2.2.1 ≤ 40) (hm : nc ≤ mc ∧ ns ≤ ms) (hdg : decode k.2.1 pc = .ok (.invokestatic idx, 3)) (h : ∀ y, AWo k d mc ms (pc + 3) lo (.int y.1 :: st) y.2 R n nc ns KK (rest y)) : AWo k d mc ms pc lo st0 δ R n nc ns KK (f.bind rest) :=
  aw_S (K1 := Km R n) As hM hc hn hst hW hd hm hdg h
theorem aw_S_n {f : Option (Int64 × Dm)} {rest : Int64 × Dm → Option α} (As : List Value) (hM : ∀ y, f = some y → AMet k1 d1 0 0 As δ R n (Kn R n y)) (hc : CSt k.1.cls idx k1 np) (hn : As.length = np) (hst : st0 = (As).reverse ++ st) (hW : (st.map fun v => v.category).sum ≤ 8) (hd : d1 + 1 ≤ d ∧ k1.2.2.1 ≤ 40) (hm : nc ≤ mc ∧ ns ≤ ms) (hdg : decode k.2.1 pc = .ok (.invokestatic idx, 3)) (h : ∀ y, AWo k d mc ms (pc + 3) lo (.long y.1 :: st) y.2 R n nc ns KK (rest y)) : AWo k d mc ms pc lo st0 δ R n nc ns KK (f.bind rest) :=
  aw_S (K1 := Kn R n) As hM hc hn hst hW hd hm hdg h
theorem aw_S_v {f : Option (Dm)} {rest : Dm → Option α} (As : List Value) (hM : ∀ y, f = some y → AMet k1 d1 0 0 As δ R n (Kv R n y)) (hc : CSt k.1.cls idx k1 np) (hn : As.length = np) (hst : st0 = (As).reverse ++ st) (hW : (st.map fun v => v.category).sum ≤ 8) (hd : d1 + 1 ≤ d ∧ k1.2.2.1 ≤ 40) (hm : nc ≤ mc ∧ ns ≤ ms) (hdg : decode k.2.1 pc = .ok (.invokestatic idx, 3)) (h : ∀ y, AWo k d mc ms (pc + 3) lo st y R n nc ns KK (rest y)) : AWo k d mc ms pc lo st0 δ R n nc ns KK (f.bind rest) :=
  aw_S (K1 := Kv R n) As hM hc hn hst hW hd hm hdg h
theorem aw_S_z {f : Option (Unit)} {rest : Unit → Option α} (As : List Value) (hM : ∀ y, f = some y → AMet k1 d1 0 0 As δ R n (Kz δ R n y)) (hc : CSt k.1.cls idx k1 np) (hn : As.length = np) (hst : st0 = (As).reverse ++ st) (hW : (st.map fun v => v.category).sum ≤ 8) (hd : d1 + 1 ≤ d ∧ k1.2.2.1 ≤ 40) (hm : nc ≤ mc ∧ ns ≤ ms) (hdg : decode k.2.1 pc = .ok (.invokestatic idx, 3)) (h : ∀ y, AWo k d mc ms (pc + 3) lo st δ R n nc ns KK (rest y)) : AWo k d mc ms pc lo st0 δ R n nc ns KK (f.bind rest) :=
  aw_S (K1 := Kz δ R n) As hM hc hn hst hW hd hm hdg h
theorem aw_S_r {f : Option (Option Nat)} {Bf : Nat → Option α} (As : List Value) (hM : ∀ y, f = some y → AMet k1 d1 0 0 As δ R n (Kr δ R n y)) (hc : CSt k.1.cls idx k1 np) (hn : As.length = np) (hst : st0 = (As).reverse ++ st) (hW : (st.map fun v => v.category).sum ≤ 8) (hd : d1 + 1 ≤ d ∧ k1.2.2.1 ≤ 40) (hm : nc ≤ mc ∧ ns ≤ ms) (hdg : decode k.2.1 pc = .ok (.invokestatic idx, 3)) (h0 : AWo k d mc ms (pc + 3) lo (.null :: st) δ R n nc ns KK A) (h1 : ∀ t, AWo k d mc ms (pc + 3) lo (.ref t :: st) δ R n nc ns KK (Bf t)) : AWo k d mc ms pc lo st0 δ R n nc ns KK (f.bind (fun y => ocs y A Bf)) :=
  aw_S (K1 := Kr δ R n) As hM hc hn hst hW hd hm hdg (fun y => by
    cases y with
    | none => exact h0
    | some t => exact h1 t)
theorem aw_SN_p {f : Option (Int32)} {rest : Int32 → Option α} (As : List Value) (hM : ∀ y, f = some y → AMet k1 d1 0 0 As δ R n (Kp δ R n y)) (hc : CSn k.1.cls idx k1 np) (hn : As.length = np) (hst : st0 = (As).reverse ++ st) (hW : (st.map fun v => v.category).sum ≤ 8) (hd : d1 + 1 ≤ d ∧ k1.2.2.1 ≤ 40) (hm : nc ≤ mc ∧ ns ≤ ms) (hdg : decode k.2.1 pc = .ok (.invokestatic idx, 3)) (h : ∀ y, AWo k d mc ms (pc + 3) lo (.int y :: st) δ R n nc ns KK (rest y)) : AWo k d mc ms pc lo st0 δ R n nc ns KK (f.bind rest) :=
  aw_SN (K1 := Kp δ R n) As hM hc hn hst hW hd hm hdg h
theorem aw_SN_l {f : Option (Int64)} {rest : Int64 → Option α} (As : List Value) (hM : ∀ y, f = some y → AMet k1 d1 0 0 As δ R n (Kl δ R n y)) (hc : CSn k.1.cls idx k1 np) (hn : As.length = np) (hst : st0 = (As).reverse ++ st) (hW : (st.map fun v => v.category).sum ≤ 8) (hd : d1 + 1 ≤ d ∧ k1.2.2.1 ≤ 40) (hm : nc ≤ mc ∧ ns ≤ ms) (hdg : decode k.2.1 pc = .ok (.invokestatic idx, 3)) (h : ∀ y, AWo k d mc ms (pc + 3) lo (.long y :: st) δ R n nc ns KK (rest y)) : AWo k d mc ms pc lo st0 δ R n nc ns KK (f.bind rest) :=
  aw_SN (K1 := Kl δ R n) As hM hc hn hst hW hd hm hdg h
theorem aw_SN_m {f : Option (Int32 × Dm)} {rest : Int32 × Dm → Option α} (As : List Value) (hM : ∀ y, f = some y → AMet k1 d1 0 0 As δ R n (Km R n y)) (hc : CSn k.1.cls idx k1 np) (hn : As.length = np) (hst : st0 = (As).reverse ++ st) (hW : (st.map fun v => v.category).sum ≤ 8) (hd : d1 + 1 ≤ d ∧ k1.2.2.1 ≤ 40) (hm : nc ≤ mc ∧ ns ≤ ms) (hdg : decode k.2.1 pc = .ok (.invokestatic idx, 3)) (h : ∀ y, AWo k d mc ms (pc + 3) lo (.int y.1 :: st) y.2 R n nc ns KK (rest y)) : AWo k d mc ms pc lo st0 δ R n nc ns KK (f.bind rest) :=
  aw_SN (K1 := Km R n) As hM hc hn hst hW hd hm hdg h
theorem aw_SN_n {f : Option (Int64 × Dm)} {rest : Int64 × Dm → Option α} (As : List Value) (hM : ∀ y, f = some y → AMet k1 d1 0 0 As δ R n (Kn R n y)) (hc : CSn k.1.cls idx k1 np) (hn : As.length = np) (hst : st0 = (As).reverse ++ st) (hW : (st.map fun v => v.category).sum ≤ 8) (hd : d1 + 1 ≤ d ∧ k1.2.2.1 ≤ 40) (hm : nc ≤ mc ∧ ns ≤ ms) (hdg : decode k.2.1 pc = .ok (.invokestatic idx, 3)) (h : ∀ y, AWo k d mc ms (pc + 3) lo (.long y.1 :: st) y.2 R n nc ns KK (rest y)) : AWo k d mc ms pc lo st0 δ R n nc ns KK (f.bind rest) :=
  aw_SN (K1 := Kn R n) As hM hc hn hst hW hd hm hdg h
theorem aw_SN_v {f : Option (Dm)} {rest : Dm → Option α} (As : List Value) (hM : ∀ y, f = some y → AMet k1 d1 0 0 As δ R n (Kv R n y)) (hc : CSn k.1.cls idx k1 np) (hn : As.length = np) (hst : st0 = (As).reverse ++ st) (hW : (st.map fun v => v.category).sum ≤ 8) (hd : d1 + 1 ≤ d ∧ k1.2.2.1 ≤ 40) (hm : nc ≤ mc ∧ ns ≤ ms) (hdg : decode k.2.1 pc = .ok (.invokestatic idx, 3)) (h : ∀ y, AWo k d mc ms (pc + 3) lo st y R n nc ns KK (rest y)) : AWo k d mc ms pc lo st0 δ R n nc ns KK (f.bind rest) :=
  aw_SN (K1 := Kv R n) As hM hc hn hst hW hd hm hdg h
theorem aw_SN_z {f : Option (Unit)} {rest : Unit → Option α} (As : List Value) (hM : ∀ y, f = some y → AMet k1 d1 0 0 As δ R n (Kz δ R n y)) (hc : CSn k.1.cls idx k1 np) (hn : As.length = np) (hst : st0 = (As).reverse ++ st) (hW : (st.map fun v => v.category).sum ≤ 8) (hd : d1 + 1 ≤ d ∧ k1.2.2.1 ≤ 40) (hm : nc ≤ mc ∧ ns ≤ ms) (hdg : decode k.2.1 pc = .ok (.invokestatic idx, 3)) (h : ∀ y, AWo k d mc ms (pc + 3) lo st δ R n nc ns KK (rest y)) : AWo k d mc ms pc lo st0 δ R n nc ns KK (f.bind rest) :=
  aw_SN (K1 := Kz δ R n) As hM hc hn hst hW hd hm hdg h
theorem aw_SN_r {f : Option (Option Nat)} {Bf : Nat → Option α} (As : List Value) (hM : ∀ y, f = some y → AMet k1 d1 0 0 As δ R n (Kr δ R n y)) (hc : CSn k.1.cls idx k1 np) (hn : As.length = np) (hst : st0 = (As).reverse ++ st) (hW : (st.map fun v => v.category).sum ≤ 8) (hd : d1 + 1 ≤ d ∧ k1.2.2.1 ≤ 40) (hm : nc ≤ mc ∧ ns ≤ ms) (hdg : decode k.2.1 pc = .ok (.invokestatic idx, 3)) (h0 : AWo k d mc ms (pc + 3) lo (.null :: st) δ R n nc ns KK A) (h1 : ∀ t, AWo k d mc ms (pc + 3) lo (.ref t :: st) δ R n nc ns KK (Bf t)) : AWo k d mc ms pc lo st0 δ R n nc ns KK (f.bind (fun y => ocs y A Bf)) :=
  aw_SN (K1 := Kr δ R n) As hM hc hn hst hW hd hm hdg (fun y => by
    cases y with
    | none => exact h0
    | some t => exact h1 t)
theorem aw_V_p {ci N : Nat} {T1 : u_T} {N1 : Nat} {f : Option (Int32)} {rest : Int32 → Option α} (As : List Value) (hM : ∀ y, f = some y → AMet k1 d1 0 0 (.ref a :: As) δ R n (Kp δ R n y)) (hc : CVt k.1.cls idx k1 np) (hk : KD a = (ci + 10, N)) (hcl : classes[ci]? = some (k1.1.cls, T1, N1)) (hn : As.length = np) (hst : st0 = (Value.ref a :: As).reverse ++ st) (hW : (st.map fun v => v.category).sum ≤ 8) (hd : d1 + 1 ≤ d ∧ k1.2.2.1 ≤ 40) (hm : nc ≤ mc ∧ ns ≤ ms) (hdg : decode k.2.1 pc = .ok (.invokevirtual idx, 3)) (h : ∀ y, AWo k d mc ms (pc + 3) lo (.int y :: st) δ R n nc ns KK (rest y)) : AWo k d mc ms pc lo st0 δ R n nc ns KK (f.bind rest) :=
  aw_V (K1 := Kp δ R n) As hM hc hk hcl hn hst hW hd hm hdg h
theorem aw_V_l {ci N : Nat} {T1 : u_T} {N1 : Nat} {f : Option (Int64)} {rest : Int64 → Option α} (As : List Value) (hM : ∀ y, f = some y → AMet k1 d1 0 0 (.ref a :: As) δ R n (Kl δ R n y)) (hc : CVt k.1.cls idx k1 np) (hk : KD a = (ci + 10, N)) (hcl : classes[ci]? = some (k1.1.cls, T1, N1)) (hn : As.length = np) (hst : st0 = (Value.ref a :: As).reverse ++ st) (hW : (st.map fun v => v.category).sum ≤ 8) (hd : d1 + 1 ≤ d ∧ k1.2.2.1 ≤ 40) (hm : nc ≤ mc ∧ ns ≤ ms) (hdg : decode k.2.1 pc = .ok (.invokevirtual idx, 3)) (h : ∀ y, AWo k d mc ms (pc + 3) lo (.long y :: st) δ R n nc ns KK (rest y)) : AWo k d mc ms pc lo st0 δ R n nc ns KK (f.bind rest) :=
  aw_V (K1 := Kl δ R n) As hM hc hk hcl hn hst hW hd hm hdg h
theorem aw_V_m {ci N : Nat} {T1 : u_T} {N1 : Nat} {f : Option (Int32 × Dm)} {rest : Int32 × Dm → Option α} (As : List Value) (hM : ∀ y, f = some y → AMet k1 d1 0 0 (.ref a :: As) δ R n (Km R n y)) (hc : CVt k.1.cls idx k1 np) (hk : KD a = (ci + 10, N)) (hcl : classes[ci]? = some (k1.1.cls, T1, N1)) (hn : As.length = np) (hst : st0 = (Value.ref a :: As).reverse ++ st) (hW : (st.map fun v => v.category).sum ≤ 8) (hd : d1 + 1 ≤ d ∧ k1.2.2.1 ≤ 40) (hm : nc ≤ mc ∧ ns ≤ ms) (hdg : decode k.2.1 pc = .ok (.invokevirtual idx, 3)) (h : ∀ y, AWo k d mc ms (pc + 3) lo (.int y.1 :: st) y.2 R n nc ns KK (rest y)) : AWo k d mc ms pc lo st0 δ R n nc ns KK (f.bind rest) :=
  aw_V (K1 := Km R n) As hM hc hk hcl hn hst hW hd hm hdg h
theorem aw_V_n {ci N : Nat} {T1 : u_T} {N1 : Nat} {f : Option (Int64 × Dm)} {rest : Int64 × Dm → Option α} (As : List Value) (hM : ∀ y, f = some y → AMet k1 d1 0 0 (.ref a :: As) δ R n (Kn R n y)) (hc : CVt k.1.cls idx k1 np) (hk : KD a = (ci + 10, N)) (hcl : classes[ci]? = some (k1.1.cls, T1, N1)) (hn : As.length = np) (hst : st0 = (Value.ref a :: As).reverse ++ st) (hW : (st.map fun v => v.category).sum ≤ 8) (hd : d1 + 1 ≤ d ∧ k1.2.2.1 ≤ 40) (hm : nc ≤ mc ∧ ns ≤ ms) (hdg : decode k.2.1 pc = .ok (.invokevirtual idx, 3)) (h : ∀ y, AWo k d mc ms (pc + 3) lo (.long y.1 :: st) y.2 R n nc ns KK (rest y)) : AWo k d mc ms pc lo st0 δ R n nc ns KK (f.bind rest) :=
  aw_V (K1 := Kn R n) As hM hc hk hcl hn hst hW hd hm hdg h
theorem aw_V_v {ci N : Nat} {T1 : u_T} {N1 : Nat} {f : Option (Dm)} {rest : Dm → Option α} (As : List Value) (hM : ∀ y, f = some y → AMet k1 d1 0 0 (.ref a :: As) δ R n (Kv R n y)) (hc : CVt k.1.cls idx k1 np) (hk : KD a = (ci + 10, N)) (hcl : classes[ci]? = some (k1.1.cls, T1, N1)) (hn : As.length = np) (hst : st0 = (Value.ref a :: As).reverse ++ st) (hW : (st.map fun v => v.category).sum ≤ 8) (hd : d1 + 1 ≤ d ∧ k1.2.2.1 ≤ 40) (hm : nc ≤ mc ∧ ns ≤ ms) (hdg : decode k.2.1 pc = .ok (.invokevirtual idx, 3)) (h : ∀ y, AWo k d mc ms (pc + 3) lo st y R n nc ns KK (rest y)) : AWo k d mc ms pc lo st0 δ R n nc ns KK (f.bind rest) :=
  aw_V (K1 := Kv R n) As hM hc hk hcl hn hst hW hd hm hdg h
theorem aw_V_z {ci N : Nat} {T1 : u_T} {N1 : Nat} {f : Option (Unit)} {rest : Unit → Option α} (As : List Value) (hM : ∀ y, f = some y → AMet k1 d1 0 0 (.ref a :: As) δ R n (Kz δ R n y)) (hc : CVt k.1.cls idx k1 np) (hk : KD a = (ci + 10, N)) (hcl : classes[ci]? = some (k1.1.cls, T1, N1)) (hn : As.length = np) (hst : st0 = (Value.ref a :: As).reverse ++ st) (hW : (st.map fun v => v.category).sum ≤ 8) (hd : d1 + 1 ≤ d ∧ k1.2.2.1 ≤ 40) (hm : nc ≤ mc ∧ ns ≤ ms) (hdg : decode k.2.1 pc = .ok (.invokevirtual idx, 3)) (h : ∀ y, AWo k d mc ms (pc + 3) lo st δ R n nc ns KK (rest y)) : AWo k d mc ms pc lo st0 δ R n nc ns KK (f.bind rest) :=
  aw_V (K1 := Kz δ R n) As hM hc hk hcl hn hst hW hd hm hdg h
theorem aw_V_r {ci N : Nat} {T1 : u_T} {N1 : Nat} {f : Option (Option Nat)} {Bf : Nat → Option α} (As : List Value) (hM : ∀ y, f = some y → AMet k1 d1 0 0 (.ref a :: As) δ R n (Kr δ R n y)) (hc : CVt k.1.cls idx k1 np) (hk : KD a = (ci + 10, N)) (hcl : classes[ci]? = some (k1.1.cls, T1, N1)) (hn : As.length = np) (hst : st0 = (Value.ref a :: As).reverse ++ st) (hW : (st.map fun v => v.category).sum ≤ 8) (hd : d1 + 1 ≤ d ∧ k1.2.2.1 ≤ 40) (hm : nc ≤ mc ∧ ns ≤ ms) (hdg : decode k.2.1 pc = .ok (.invokevirtual idx, 3)) (h0 : AWo k d mc ms (pc + 3) lo (.null :: st) δ R n nc ns KK A) (h1 : ∀ t, AWo k d mc ms (pc + 3) lo (.ref t :: st) δ R n nc ns KK (Bf t)) : AWo k d mc ms pc lo st0 δ R n nc ns KK (f.bind (fun y => ocs y A Bf)) :=
  aw_V (K1 := Kr δ R n) As hM hc hk hcl hn hst hW hd hm hdg (fun y => by
    cases y with
    | none => exact h0
    | some t => exact h1 t)
theorem aw_iret {x : α} {v : Int32} (hK : KK x = (some (.int v), δ, R, n)) (hret : k.2.2.2 = some .int) (hc : nc ≤ mc ∧ ns ≤ ms) (hdg : decode k.2.1 pc = .ok (.ireturn, 1)) : AWo k d mc ms pc lo [.int v] δ R n nc ns KK (some x) := by
  intro r hr p l e s m args below meth c E B H locs ls hl hV hS ho hs
  cases hr
  rw [hK]
  refine W.widen (k := mc) (n := ms) hc.1 hc.2 ?_
  refine W.iret (v := v) B.1 B.2.1 (B.2.2.2.1.trans hret) (fun t ht hWm => ?_) hS.2.2 hdg (hlocks := B.2.2.2.2.1)
  exact ⟨rfl, by rw [ht]; exact hV, by rw [ht]; exact hS.1, trivial⟩
theorem aw_zret {x : α} {v : Int32} {ty : FieldType} (hK : KK x = (some (.int v), δ, R, n)) (hret : k.2.2.2 = some ty) (hnw : narrow ty (.int v) = .int v) (hc : nc ≤ mc ∧ ns ≤ ms) (hdg : decode k.2.1 pc = .ok (.ireturn, 1)) : AWo k d mc ms pc lo [.int v] δ R n nc ns KK (some x) := by
  intro r hr p l e s m args below meth c E B H locs ls hl hV hS ho hs
  cases hr
  rw [hK]
  refine W.widen (k := mc) (n := ms) hc.1 hc.2 ?_
  refine W.zret (v := v) B.1 B.2.1 (B.2.2.2.1.trans hret) hnw (fun t ht hWm => ?_) hS.2.2 hdg (hlocks := B.2.2.2.2.1)
  exact ⟨rfl, by rw [ht]; exact hV, by rw [ht]; exact hS.1, trivial⟩
theorem aw_lret {x : α} {v : Int64} (hK : KK x = (some (.long v), δ, R, n)) (hret : k.2.2.2 = some .long) (hc : nc ≤ mc ∧ ns ≤ ms) (hdg : decode k.2.1 pc = .ok (.lreturn, 1)) : AWo k d mc ms pc lo [.long v] δ R n nc ns KK (some x) := by
  intro r hr p l e s m args below meth c E B H locs ls hl hV hS ho hs
  cases hr
  rw [hK]
  refine W.widen (k := mc) (n := ms) hc.1 hc.2 ?_
  refine W.lret (v := v) B.1 B.2.1 (B.2.2.2.1.trans hret) (fun t ht hWm => ?_) hS.2.2 hdg (hlocks := B.2.2.2.2.1)
  exact ⟨rfl, by rw [ht]; exact hV, by rw [ht]; exact hS.1, trivial⟩
theorem aw_vret {x : α}  (hK : KK x = (none, δ, R, n)) (hret : k.2.2.2 = none) (hc : nc ≤ mc ∧ ns ≤ ms) (hdg : decode k.2.1 pc = .ok (.return_, 1)) : AWo k d mc ms pc lo [] δ R n nc ns KK (some x) := by
  intro r hr p l e s m args below meth c E B H locs ls hl hV hS ho hs
  cases hr
  rw [hK]
  refine W.widen (k := mc) (n := ms) hc.1 hc.2 ?_
  refine W.vret B.1 B.2.1 (B.2.2.2.1.trans hret) (fun t ht hWm => ?_) hS.2.2 hdg (hlocks := B.2.2.2.2.1)
  exact ⟨rfl, by rw [ht]; exact hV, by rw [ht]; exact hS.1, trivial⟩
theorem aw_aret {x : α} {v : Nat} {C : String} (hK : KK x = (some (.ref v), δ, R, n)) (hret : k.2.2.2 = some (.object C)) (hc : nc ≤ mc ∧ ns ≤ ms) (hdg : decode k.2.1 pc = .ok (.areturn, 1)) : AWo k d mc ms pc lo [.ref v] δ R n nc ns KK (some x) := by
  intro r hr p l e s m args below meth c E B H locs ls hl hV hS ho hs
  cases hr
  rw [hK]
  refine W.widen (k := mc) (n := ms) hc.1 hc.2 ?_
  refine W.aret (v := .ref (rho E v)) B.1 B.2.1 (B.2.2.2.1.trans hret) (Or.inl ⟨_, rfl⟩) (Or.inr ⟨_, rfl⟩) (fun t ht hWm => ?_) hS.2.2 hdg (hlocks := B.2.2.2.2.1)
  exact ⟨rfl, by rw [ht]; exact hV, by rw [ht]; exact hS.1, oks_h hs⟩
theorem aw_aretN {x : α} {C : String} (hK : KK x = (some .null, δ, R, n)) (hret : k.2.2.2 = some (.object C)) (hc : nc ≤ mc ∧ ns ≤ ms) (hdg : decode k.2.1 pc = .ok (.areturn, 1)) : AWo k d mc ms pc lo [.null] δ R n nc ns KK (some x) := by
  intro r hr p l e s m args below meth c E B H locs ls hl hV hS ho hs
  cases hr
  rw [hK]
  refine W.widen (k := mc) (n := ms) hc.1 hc.2 ?_
  refine W.aret (v := .null) B.1 B.2.1 (B.2.2.2.1.trans hret) (Or.inl ⟨_, rfl⟩) (Or.inl rfl) (fun t ht hWm => ?_) hS.2.2 hdg (hlocks := B.2.2.2.2.1)
  exact ⟨rfl, by rw [ht]; exact hV, by rw [ht]; exact hS.1, trivial⟩
theorem aw_zg {v : Int32} (h : v = 0 ∨ v = 1) : narrow .boolean (.int v) = .int v := by rcases h with rfl | rfl <;> rfl
theorem lg_shv (E : EV) (vs : List Value) : (lg_sl (vs.map (shv E))).length = (lg_sl vs).length := by
  induction vs with
  | nil => rfl
  | cons v vs ih =>
    have e1 : ∀ (x : Value) (xs : List Value), (lg_sl (x :: xs)).length = (if x.category = 2 then 2 else 1) + (lg_sl xs).length := by
      intro x xs
      by_cases h : x.category = 2 <;> simp [lg_sl, h] <;> omega
    rw [List.map_cons, e1, e1, ih, shv_cat]
theorem lv_args_shv (E : EV) (vs : List Value) : ∀ i, lv_args i (vs.map (shv E)) = shl E (lv_args i vs) := by
  induction vs with
  | nil => intro i; rfl
  | cons v vs ih => intro i; simp only [List.map_cons, lv_args, shl, shv_cat]; congr 1; exact ih _
theorem lv_args_oks {n : Nat} {vs : List Value} (h : oks n vs) : ∀ i, okl n (lv_args i vs) := by
  induction vs with
  | nil => intro i q hq; cases hq
  | cons v vs ih =>
    intro i q hq
    rcases List.mem_cons.mp hq with e | hq
    · subst e; exact oks_h h
    · exact ih (oks_t h) _ q hq
/-- a method's start -/
theorem aw_start {av : List Value} (hm : MOK k) (hlo : lv_args 0 av = lo) (hlen : (lg_sl av).length ≤ k.2.2.1) (h : AWo k d mc ms 0 lo [] δ R n 0 0 KK res) : ∀ x, res = some x → AMet k d mc ms av δ R n (KK x) := by
  intro x hx l E
  refine Met.ofW (cc := k.2.1) (maxL := k.2.2.1) (ret := k.2.2.2) hm.2.2.2 rfl ?_
  intro p e s m args below meth c s₁ B hml hv
  obtain ⟨rfl, hV, hK, hoks⟩ := hv
  have hts := atoms_spec (ws := wsk k) B.pre
  have hB : BC k p s m (av.map (shv E)).toArray meth c E := ⟨B.exec, B.bytes, hml, B.returns, B.notSynchronized, findClass_of_methodNamed B.named, fun w hw => hts w (List.mem_cons_of_mem _ hw), hK, fun h => ((name_of_methodNamed B.named B.method).1).trans h, by rw [hV.2.1]; omega, hV.2.2.2.1⟩
  rw [lg_entry_eq]
  have hl := lv_entry (av.map (shv E)) (n := k.2.2.1) (by rw [lg_shv]; exact hlen)
  rw [lv_args_shv, hlo] at hl
  exact h x hx p l e s m _ below meth c E hB s.heap [] _ hl hV va_S.rf (hlo ▸ lv_args_oks hoks 0) (fun v hv => by cases hv)
end AMD
