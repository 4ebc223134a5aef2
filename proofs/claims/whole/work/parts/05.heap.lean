/-! fields, arrays, new cells, calls, ends -/
theorem rho4 {E : EV} {a : Nat} (h : 4 ≤ a) : rho E a = (eH E).size + (a - 4) := by
  unfold rho
  rw [if_neg (by omega), if_neg (by omega), if_neg (by omega), if_neg (by omega)]
theorem rho_ne {E : EV} {a b : Nat} (ha : 4 ≤ a) (hb : 4 ≤ b) (h : b ≠ a) : rho E b ≠ rho E a := by
  rw [rho4 ha, rho4 hb]; omega
theorem rho_A {E : EV} {a : Nat} (h : 4 ≤ a) : AE E (rho E a) := by rw [rho4 h]; exact Nat.le_add_right _ _
theorem cat_arr {E : EV} {δ : Dm} {R : Rm} {a kd N : Nat} {H : Heap} (h : cat E δ R a H) (hk : KD a = (kd, N)) (hl : kd < 10) : H[rho E a]? = some (arrV (eC E kd) N (val E δ R a)) := by
  unfold cat at h; rw [hk] at h; simpa [hl] using h
theorem cat_obj {E : EV} {δ : Dm} {R : Rm} {a ci N : Nat} {H : Heap} (h : cat E δ R a H) (hk : KD a = (ci + 10, N)) : t_OB (rho E a) ((eD E).1 ci) (nF ci) ((eD E).2 ci) H (val E δ R a) := by
  unfold cat at h; rw [hk] at h; rw [if_neg (by show ¬ ci + 10 < 10; omega)] at h; simpa using h
theorem cat_ofArr {E : EV} {δ : Dm} {R : Rm} {a kd N : Nat} {H : Heap} (hk : KD a = (kd, N)) (hl : kd < 10) (h : H[rho E a]? = some (arrV (eC E kd) N (val E δ R a))) : cat E δ R a H := by
  unfold cat; rw [hk]; simpa [hl] using h
theorem cat_ofObj {E : EV} {δ : Dm} {R : Rm} {a ci N : Nat} {H : Heap} (hk : KD a = (ci + 10, N)) (h : t_OB (rho E a) ((eD E).1 ci) (nF ci) ((eD E).2 ci) H (val E δ R a)) : cat E δ R a H := by
  unfold cat; rw [hk]; rw [if_neg (by show ¬ ci + 10 < 10; omega)]; simpa using h
theorem cat_kept {E : EV} {δ δ' : Dm} {R R' : Rm} {a : Nat} {H H1 : Heap} (h : cat E δ R a H) (hq : H1[rho E a]? = H[rho E a]?) (hv : val E δ' R' a = val E δ R a) : cat E δ' R' a H1 := by
  unfold cat at h ⊢
  rw [hv]
  by_cases hl : (KD a).1 < 10
  · rw [if_pos hl] at h ⊢; rw [hq]; exact h
  · rw [if_neg hl] at h ⊢; exact h.kept hq
theorem Vw_put {E : EV} {δ δ' : Dm} {R R' : Rm} {n a : Nat} {H H1 : Heap} (hV : Vw E δ R n H) (h4 : 4 ≤ a) (z : H1.size = H.size) (oq : ∀ q : Nat, q ≠ rho E a → H1[q]? = H[q]?) (hc : cat E δ' R' a H1) (hx : ∀ b, b ≠ a → val E δ' R' b = val E δ R b) (hw : wfm δ' R' n) (hs : scr E δ') : Vw E δ' R' n H1 := by
  obtain ⟨v1, v2, v3, v4, v5, v6⟩ := hV
  refine ⟨v1, by rw [z]; exact v2, fun b hb hbn => ?_, fun q hq => ?_, hw, hs⟩
  · by_cases e : b = a
    · rw [e]; exact hc
    · exact cat_kept (v3 b hb hbn) (oq _ (rho_ne h4 hb e)) (hx b e)
  · rw [oq q (by rw [rho4 h4]; omega)]; exact v4 q hq
theorem val_sI {E : EV} {δ : Dm} {R : Rm} {a b i : Nat} {x : Int32} (h : b ≠ a) : val E (sI δ a i x) R b = val E δ R b := by
  funext j; simp only [val, gI_sI, gL_sI, h, false_and, if_false]
theorem val_sL {E : EV} {δ : Dm} {R : Rm} {a b i : Nat} {x : Int64} (h : b ≠ a) : val E (sL δ a i x) R b = val E δ R b := by
  funext j; simp only [val, gI_sL, gL_sL, h, false_and, if_false]
theorem val_uR {E : EV} {δ : Dm} {R : Rm} {a b i v : Nat} (h : b ≠ a) : val E δ (uR R a i v) b = val E δ R b := by
  funext j; simp only [val, uR, h, false_and, if_false]
theorem wfm_sI {δ : Dm} {R : Rm} {n a i : Nat} {x : Int32} (h : wfm δ R n) (hd : dyn a i = false ∨ (∀ v, dR x = some v → 4 ≤ v ∧ v < n)) : wfm (sI δ a i x) R n := by
  refine ⟨h.1, fun b j v hb hbn hdy hv => ?_⟩
  rw [gI_sI] at hv
  by_cases e : b = a ∧ j = i
  · rw [if_pos e] at hv
    rcases hd with hd | hd
    · rw [e.1, e.2, hd] at hdy; cases hdy
    · exact hd v hv
  · rw [if_neg e] at hv; exact h.2 b j v hb hbn hdy hv
theorem wfm_sL {δ : Dm} {R : Rm} {n a i : Nat} {x : Int64} (h : wfm δ R n) : wfm (sL δ a i x) R n := h
theorem wfm_uR {δ : Dm} {R : Rm} {n a i t : Nat} (h : wfm δ R n) (h4 : 4 ≤ t) (ht : t < n) : wfm δ (uR R a i t) n := by
  refine ⟨fun b j v hb hbn hv => ?_, h.2⟩
  unfold uR at hv
  by_cases e : b = a ∧ j = i
  · rw [if_pos e] at hv; cases hv; exact ⟨h4, ht⟩
  · rw [if_neg e] at hv; exact h.1 b j v hb hbn hv
theorem scr_sI {E : EV} {δ : Dm} {a i : Nat} {x : Int32} (h : scr E δ) (h4 : 4 ≤ a) : scr E (sI δ a i x) := by
  refine ⟨fun j hj => ?_, ?_⟩
  · rw [gI_sI, if_neg (by omega)]; exact h.1 j hj
  · rw [gI_sI, if_neg (by omega)]; exact h.2
theorem dyn_arr {a i kd N : Nat} (hk : KD a = (kd, N)) (h : kd < 7) : dyn a i = false := by
  unfold dyn; rw [hk]; simp; omega
theorem dyn_obj {a i ci N : Nat} (hk : KD a = (ci + 10, N)) (h : ftc ci i ≠ 2) : dyn a i = false := by
  unfold dyn; rw [hk]; simp [h]
/-- a field, by its place in the class's pool -/
def FLD (own : String) (idx ci kf code : Nat) : Prop := ∃ (C : String) (T : u_T), classes[ci]? = some (C, T, nF ci) ∧ kf < nF ci ∧ ftc ci kf = code ∧ Cond.fieldLink own idx (T kf).1 (T kf).2.1 (T kf).2.2.1 ∈ lw_gd ∧ ∀ w ∈ u_ws C T (nF ci), w ∈ lw_gd
/-- what storing wants beside -/
def PFL (own : String) (idx ci kf code : Nat) (fin : Bool) (ty : FieldType) : Prop := ∃ (C : String) (T : u_T) (ty0 : Nat → FieldType), classes[ci]? = some (C, T, nF ci) ∧ kf < nF ci ∧ ftc ci kf = code ∧ Cond.fieldLink own idx (T kf).1 (T kf).2.1 (T kf).2.2.1 ∈ lw_gd ∧ (∀ w ∈ u_ws C T (nF ci), w ∈ lw_gd) ∧ (∀ k, k < nF ci → parseFieldDescriptor (T k).2.2.1 = some (ty0 k)) ∧ (∀ a, a < nF ci → ∀ b, b < nF ci → a ≠ b → (T a).2.1 ≠ (T b).2.1) ∧ (T kf).2.2.2 = fin ∧ (fin = true → (T kf).1 = own) ∧ parseFieldDescriptor (T kf).2.2.1 = some ty
section AMH
variable {p : Program} {l : Launch} {e : Env} {RR : Room} {s : State} {m : MethodId} {args : Array Value} {below : List Frame} {meth : Method} {c : Code} {E : EV} {H : Heap} {locs : List Loc} {cells slots : Nat} {Q : State → Prop} {k : MI} {pc : Nat} {ls : Array Slot} {rest : List Value} {δ : Dm} {R : Rm} {n a : Nat}
theorem w_getf {idx ci kf code N : Nat} (B : BC k p s m args meth c E) (hV : Vw E δ R n H) (ha : a < n) (hf : FLD k.1.cls idx ci kf code) (hk : KD a = (ci + 10, N)) (hdg : decode k.2.1 pc = .ok (.getfield idx, 3)) (kk : W p l e RR s m args below meth c H locs cells slots Q (F0 m (pc + 3) ls (val E δ R a kf :: rest))) : W p l e RR s m args below meth c H locs cells slots Q (F0 m pc ls (.ref (rho E a) :: rest)) := by
  obtain ⟨C, T, hc, hkf, hft, hlk, hin⟩ := hf
  have h4 : 4 ≤ a := KD_lo (by rw [hk]; simp)
  obtain ⟨cell, q1, q2, q3, q4⟩ := cat_obj (hV.2.2.1 a h4 ha) hk
  obtain ⟨hS, hfc, kC, hkC, hkind⟩ := B.2.2.2.2.2.2.2.1.1.1 ci _ hc
  obtain ⟨cf, kf', fi, f, hi, hsl⟩ := hS kf hkf
  have hts := B.2.2.2.2.2.2.1
  exact W.getf B.1 B.2.1 B.2.2.2.2.2.1 (hts _ hlk) hi (u_facts hfc hkC (u_lays hts hin hkf) hi).1 q1 (by rw [q3]; exact fun h => by cases h) (v := val E δ R a kf) (by rw [hsl, q4 kf hkf]) rfl rfl hdg kk
theorem w_putf {idx ci kf code N : Nat} {fin : Bool} {ty : FieldType} {v : Value} (B : BC k p s m args meth c E) (hV : Vw E δ R n H) (ha : a < n) (hf : PFL k.1.cls idx ci kf code fin ty) (hfi : fin = true → k.1.name = "<init>") (hn : narrow ty v = v) (hfit : fits ty v = true) (hk : KD a = (ci + 10, N)) (hdg : decode k.2.1 pc = .ok (.putfield idx, 3)) (kk : ∀ (H1 : Heap) (z : Nat), t_OB (rho E a) ((eD E).1 ci) (nF ci) ((eD E).2 ci) H1 (updV (val E δ R a) kf v) → H1.size = H.size → (∀ q : Nat, q ≠ rho E a → H1[q]? = H[q]?) → W p l e RR s m args below meth c H1 (locs ++ [⟨rho E a, z⟩]) cells slots Q (F0 m (pc + 3) ls rest)) : W p l e RR s m args below meth c H locs cells slots Q (F0 m pc ls (v :: .ref (rho E a) :: rest)) := by
  obtain ⟨C, T, ty0, hc, hkf, hft, hlk, hin, hty, hnm, hfn, hdecl, hd⟩ := hf
  have h4 : 4 ≤ a := KD_lo (by rw [hk]; simp)
  obtain ⟨cell, q1, q2, q3, q4⟩ := cat_obj (hV.2.2.1 a h4 ha) hk
  have hK := B.2.2.2.2.2.2.2.1.1
  have hts := B.2.2.2.2.2.2.1
  have hown := B.2.2.2.2.2.1
  have hap := va_apart (own := k.1.cls) hts hin ty0 hty hnm hK hc
  obtain ⟨hS, hfc, kC, hkC, hkind⟩ := hK.1 ci _ hc
  obtain ⟨cf, kf', fi, f, hi, hsl⟩ := hS kf hkf
  have hlay := hts _ (hin _ (u_in_lay hkf))
  have hst := (u_facts hfc hkC (u_lays hts hin hkf) hi).1
  unfold u_lay at hlay
  cases fin with
  | false =>
    rw [if_neg (by rw [hfn]; decide)] at hlay
    have h6 := u_store hfc hkC hkind hlay hi hd hn hfit
    refine W.putK B.1 B.2.1 (f := f) ⟨hown, hts _ hlk, ⟨_, _, _, hi⟩, hst⟩ (by rw [q2]; exact h6) q1 q3 (by rw [hsl]; exact k2_hasslot (q4 kf hkf)) rfl rfl hdg fun H' e1 e2 e3 => ?_
    rw [hsl] at e1 ⊢
    exact kk H' _ ⟨_, e1, q2, q3, t_set q4 hap hkf v⟩ e2 e3
  | true =>
    rw [if_pos hfn] at hlay
    have hcf : m.cls = cf := by
      obtain ⟨_, _, c', _, _, _, -, -, hf', -, -, -, hown2, -⟩ := Cond.laysFinal_spec hlay
      have e1 : c' = cf := by have := hi.symm.trans hf'; simp at this; exact this.1.symm
      rw [hdecl rfl] at hown2
      rw [← e1]; exact Option.some.inj (hown.symm.trans hown2)
    have h6 := u_fits hfc hkC hkind (Or.inr hlay) hi hd hn hfit
    refine W.putFinK B.1 B.2.1 hown (hts _ hlk) hi hst hcf (B.2.2.2.2.2.2.2.2.1 (hfi rfl)) (by rw [q2]; exact h6) q1 q3 (by rw [hsl]; exact k2_hasslot (q4 kf hkf)) rfl rfl hdg fun H' e1 e2 e3 => ?_
    rw [hsl] at e1 ⊢
    exact kk H' _ ⟨_, e1, q2, q3, t_set q4 hap hkf v⟩ e2 e3
end AMH
section AMR
variable {α : Type} {k : MI} {d mc ms pc nc ns n : Nat} {lo lo' : List (Nat × Value)} {st : List Value} {δ : Dm} {R : Rm} {KK : α → Ans} {res A : Option α} {a idx ci kf N : Nat}
theorem aw_getI (hf : FLD k.1.cls idx ci kf 0) (hk : KD a = (ci + 10, N)) (hdg : decode k.2.1 pc = .ok (.getfield idx, 3)) (h : AWo k d mc ms (pc + 3) lo (.int (gI δ a kf) :: st) δ R n nc ns KK res) : AWo k d mc ms pc lo (.ref a :: st) δ R n nc ns KK res := by
  intro r hr p l e s m args below meth c E B H locs ls hl hV hS ho hs
  refine w_getf B hV (oks_h hs) hf hk hdg ?_
  have hv : val E δ R a kf = .int (gI δ a kf) := by obtain ⟨_, _, _, _, hft, _⟩ := hf; simp [val, hk, hft]; try omega
  rw [hv]
  exact h r hr p l e s m args below meth c E B H locs ls hl hV hS ho (oks_i (oks_t hs))
theorem aw_getR {t : Nat} (hf : FLD k.1.cls idx ci kf 1) (hk : KD a = (ci + 10, N)) (hR : R a kf = some t) (hdg : decode k.2.1 pc = .ok (.getfield idx, 3)) (h : AWo k d mc ms (pc + 3) lo (.ref t :: st) δ R n nc ns KK res) : AWo k d mc ms pc lo (.ref a :: st) δ R n nc ns KK res := by
  intro r hr p l e s m args below meth c E B H locs ls hl hV hS ho hs
  refine w_getf B hV (oks_h hs) hf hk hdg ?_
  have hv : val E δ R a kf = .ref (rho E t) := by obtain ⟨_, _, _, _, hft, _⟩ := hf; simp [val, hk, hft, hR, va_rf]; try omega
  rw [hv]
  exact h r hr p l e s m args below meth c E B H locs ls hl hV hS ho (oks_r (hV.2.2.2.2.1.1 a kf t (KD_lo (by rw [hk]; simp)) (oks_h hs) hR).2 (oks_t hs))
theorem aw_getD {Bf : Nat → Option α} (hf : FLD k.1.cls idx ci kf 2) (hk : KD a = (ci + 10, N)) (hdg : decode k.2.1 pc = .ok (.getfield idx, 3)) (h0 : AWo k d mc ms (pc + 3) lo (.null :: st) δ R n nc ns KK A) (h1 : ∀ t, AWo k d mc ms (pc + 3) lo (.ref t :: st) δ R n nc ns KK (Bf t)) : AWo k d mc ms pc lo (.ref a :: st) δ R n nc ns KK (ocs (dR (gI δ a kf)) A Bf) := by
  intro r hr p l e s m args below meth c E B H locs ls hl hV hS ho hs
  refine w_getf B hV (oks_h hs) hf hk hdg ?_
  have hft : ftc ci kf = 2 := by obtain ⟨_, _, _, _, hft, _⟩ := hf; exact hft
  have hv : val E δ R a kf = va_rf ((dR (gI δ a kf)).map (rho E)) := by simp [val, hk, hft]; try omega
  rw [hv]
  have hdy : dyn a kf = true := by unfold dyn; rw [hk]; simp [hft]
  cases hd : dR (gI δ a kf) with
  | none => rw [hd] at hr; exact h0 r hr p l e s m args below meth c E B H locs ls hl hV hS ho (oks_n (oks_t hs))
  | some t => rw [hd] at hr; exact h1 t r hr p l e s m args below meth c E B H locs ls hl hV hS ho (oks_r (hV.2.2.2.2.1.2 a kf t (KD_lo (by rw [hk]; simp)) (oks_h hs) hdy hd).2 (oks_t hs))
theorem val_putI {E : EV} {x : Int32} (hk : KD a = (ci + 10, N)) (hft : ftc ci kf = 0) : updV (val E δ R a) kf (.int x) = val E (sI δ a kf x) R a := by
  funext j
  by_cases hj : j = kf
  · subst hj; simp [updV, val, hk, hft, gI_sI]; try omega
  · simp [updV, val, hj, gI_sI, gL_sI]
theorem aw_putI {x : Int32} (hf : PFL k.1.cls idx ci kf 0 false .int) (hk : KD a = (ci + 10, N)) (hdg : decode k.2.1 pc = .ok (.putfield idx, 3)) (h : AWo k d mc ms (pc + 3) lo st (sI δ a kf x) R n nc ns KK res) : AWo k d mc ms pc lo (.int x :: .ref a :: st) δ R n nc ns KK res := by
  intro r hr p l e s m args below meth c E B H locs ls hl hV hS ho hs
  have h4 : 4 ≤ a := KD_lo (by rw [hk]; simp)
  have hft : ftc ci kf = 0 := by obtain ⟨_, _, _, _, _, hft, _⟩ := hf; exact hft
  refine w_putf (v := .int x) B hV (oks_h (oks_t hs)) hf (fun q => by cases q) rfl rfl hk hdg (fun H1 z hc zz oq => ?_)
  rw [val_putI hk hft] at hc
  exact h r hr p l e s m args below meth c E B H1 _ ls hl (Vw_put hV h4 zz oq (cat_ofObj hk hc) (fun b hb => val_sI hb) (wfm_sI hV.2.2.2.2.1 (Or.inl (dyn_obj hk (by rw [hft]; decide)))) (scr_sI hV.2.2.2.2.2 h4)) (hS.put zz oq (rho_A h4)) ho (oks_t (oks_t hs))
theorem aw_putZ {x : Int32} (hf : PFL k.1.cls idx ci kf 0 false .boolean) (hk : KD a = (ci + 10, N)) (hdg : decode k.2.1 pc = .ok (.putfield idx, 3)) (h : AWo k d mc ms (pc + 3) lo st (sI δ a kf x) R n nc ns KK res) : AWo k d mc ms pc lo (.int x :: .ref a :: st) δ R n nc ns KK (if x = 0 ∨ x = 1 then res else none) := by
  intro r hr p l e s m args below meth c E B H locs ls hl hV hS ho hs
  have h4 : 4 ≤ a := KD_lo (by rw [hk]; simp)
  have hft : ftc ci kf = 0 := by obtain ⟨_, _, _, _, _, hft, _⟩ := hf; exact hft
  by_cases hz : x = 0 ∨ x = 1
  · rw [if_pos hz] at hr
    refine w_putf (v := .int x) B hV (oks_h (oks_t hs)) hf (fun q => by cases q) (by rcases hz with rfl | rfl <;> rfl) (by rcases hz with rfl | rfl <;> rfl) hk hdg (fun H1 z hc zz oq => ?_)
    rw [val_putI hk hft] at hc
    exact h r hr p l e s m args below meth c E B H1 _ ls hl (Vw_put hV h4 zz oq (cat_ofObj hk hc) (fun b hb => val_sI hb) (wfm_sI hV.2.2.2.2.1 (Or.inl (dyn_obj hk (by rw [hft]; decide)))) (scr_sI hV.2.2.2.2.2 h4)) (hS.put zz oq (rho_A h4)) ho (oks_t (oks_t hs))
  · rw [if_neg hz] at hr; cases hr
theorem aw_putR {t : Nat} {fin : Bool} {ty : FieldType} (hf : PFL k.1.cls idx ci kf 1 fin ty) (hfi : fin = true → k.1.name = "<init>") (hn : ∀ b, narrow ty (.ref b) = .ref b) (hfit : ∀ b, fits ty (.ref b) = true) (ht4 : 4 ≤ t) (hk : KD a = (ci + 10, N)) (hdg : decode k.2.1 pc = .ok (.putfield idx, 3)) (h : AWo k d mc ms (pc + 3) lo st δ (uR R a kf t) n nc ns KK res) : AWo k d mc ms pc lo (.ref t :: .ref a :: st) δ R n nc ns KK res := by
  intro r hr p l e s m args below meth c E B H locs ls hl hV hS ho hs
  have h4 : 4 ≤ a := KD_lo (by rw [hk]; simp)
  have hft : ftc ci kf = 1 := by obtain ⟨_, _, _, _, _, hft, _⟩ := hf; exact hft
  refine w_putf (v := .ref (rho E t)) B hV (oks_h (oks_t hs)) hf hfi (hn _) (hfit _) hk hdg (fun H1 z hc zz oq => ?_)
  have hv : updV (val E δ R a) kf (.ref (rho E t)) = val E δ (uR R a kf t) a := by
    funext j
    by_cases hj : j = kf
    · subst hj; simp [updV, val, hk, hft, uR, va_rf]; try omega
    · simp [updV, val, hj, uR]
  rw [hv] at hc
  exact h r hr p l e s m args below meth c E B H1 _ ls hl (Vw_put hV h4 zz oq (cat_ofObj hk hc) (fun b hb => val_uR hb) (wfm_uR hV.2.2.2.2.1 ht4 (oks_h hs)) hV.2.2.2.2.2) (hS.put zz oq (rho_A h4)) ho (oks_t (oks_t hs))
theorem dR_nI {t : Nat} (h4 : 4 ≤ t) (ht : t < 2147483648) : dR (nI t) = some t := by
  unfold dR
  rw [if_neg (nI_ne0 (by omega) (by omega)), nI_clamp (by omega)]
theorem aw_putD {t : Nat} {ty : FieldType} (hf : PFL k.1.cls idx ci kf 2 false ty) (hn : ∀ b, narrow ty (.ref b) = .ref b) (hfit : ∀ b, fits ty (.ref b) = true) (ht4 : 4 ≤ t) (htm : t < 2147483648) (hk : KD a = (ci + 10, N)) (hdg : decode k.2.1 pc = .ok (.putfield idx, 3)) (h : AWo k d mc ms (pc + 3) lo st (sI δ a kf (nI t)) R n nc ns KK res) : AWo k d mc ms pc lo (.ref t :: .ref a :: st) δ R n nc ns KK res := by
  intro r hr p l e s m args below meth c E B H locs ls hl hV hS ho hs
  have h4 : 4 ≤ a := KD_lo (by rw [hk]; simp)
  have hft : ftc ci kf = 2 := by obtain ⟨_, _, _, _, _, hft, _⟩ := hf; exact hft
  refine w_putf (v := .ref (rho E t)) B hV (oks_h (oks_t hs)) hf (fun q => by cases q) (hn _) (hfit _) hk hdg (fun H1 z hc zz oq => ?_)
  have hv : updV (val E δ R a) kf (.ref (rho E t)) = val E (sI δ a kf (nI t)) R a := by
    funext j
    by_cases hj : j = kf
    · subst hj; simp [updV, val, hk, hft, gI_sI, dR_nI ht4 htm, va_rf]; try omega
    · simp [updV, val, hj, gI_sI, gL_sI]
  rw [hv] at hc
  exact h r hr p l e s m args below meth c E B H1 _ ls hl (Vw_put hV h4 zz oq (cat_ofObj hk hc) (fun b hb => val_sI hb) (wfm_sI hV.2.2.2.2.1 (Or.inr (fun v hv => by rw [dR_nI ht4 htm] at hv; cases hv; exact ⟨ht4, oks_h hs⟩))) (scr_sI hV.2.2.2.2.2 h4)) (hS.put zz oq (rho_A h4)) ho (oks_t (oks_t hs))
theorem aw_iald {i : Int32} (hk : KD a = (1, N)) (hdg : decode k.2.1 pc = .ok (.iaload, 1)) (h : AWo k d mc ms (pc + 1) lo (.int (gI δ a (ix i)) :: st) δ R n nc ns KK res) : AWo k d mc ms pc lo (.int i :: .ref a :: st) δ R n nc ns KK (if inb i N then res else none) := by
  intro r hr p l e s m args below meth c E B H locs ls hl hV hS ho hs
  by_cases q : inb i N
  · rw [if_pos q] at hr
    have h4 : 4 ≤ a := KD_lo (by rw [hk]; simp)
    have hc := cat_arr (hV.2.2.1 a h4 (oks_h (oks_t hs))) hk (by decide)
    have hlt : i.toNatClampNeg < N := Nat.not_le.mp fun z => inb_in q (Or.inr z)
    refine W.iald (v := .int (gI δ a (ix i))) B.1 B.2.1 hc ((B.2.2.2.2.2.2.2.1.1.2 1 _ rfl).1 N _) (fun z => by cases z) (by show ¬ (i < 0 ∨ (arrV _ _ _).slots.size ≤ _); rw [arrV_size]; exact inb_in q) (by show (arrV _ _ _).slots[_]? = _; rw [arrV_read _ _ hlt]; simp [val, hk]) rfl rfl hdg ?_
    exact h r hr p l e s m args below meth c E B H locs ls hl hV hS ho (oks_i (oks_t (oks_t hs)))
  · rw [if_neg q] at hr; cases hr
theorem aw_bald {i : Int32} (hk : KD a = (2, N)) (hdg : decode k.2.1 pc = .ok (.baload, 1)) (h : AWo k d mc ms (pc + 1) lo (.int (gI δ a (ix i)) :: st) δ R n nc ns KK res) : AWo k d mc ms pc lo (.int i :: .ref a :: st) δ R n nc ns KK (if inb i N then res else none) := by
  intro r hr p l e s m args below meth c E B H locs ls hl hV hS ho hs
  by_cases q : inb i N
  · rw [if_pos q] at hr
    have h4 : 4 ≤ a := KD_lo (by rw [hk]; simp)
    have hc := cat_arr (hV.2.2.1 a h4 (oks_h (oks_t hs))) hk (by decide)
    have hlt : i.toNatClampNeg < N := Nat.not_le.mp fun z => inb_in q (Or.inr z)
    refine W.bald (v := .int (gI δ a (ix i))) B.1 B.2.1 hc ((B.2.2.2.2.2.2.2.1.1.2 2 _ rfl).1 N _) (fun z => by cases z) (by show ¬ (i < 0 ∨ (arrV _ _ _).slots.size ≤ _); rw [arrV_size]; exact inb_in q) (by show (arrV _ _ _).slots[_]? = _; rw [arrV_read _ _ hlt]; simp [val, hk]) rfl rfl hdg ?_
    exact h r hr p l e s m args below meth c E B H locs ls hl hV hS ho (oks_i (oks_t (oks_t hs)))
  · rw [if_neg q] at hr; cases hr
theorem aw_zald {i : Int32} (hk : KD a = (3, N)) (hdg : decode k.2.1 pc = .ok (.baload, 1)) (h : AWo k d mc ms (pc + 1) lo (.int (gI δ a (ix i)) :: st) δ R n nc ns KK res) : AWo k d mc ms pc lo (.int i :: .ref a :: st) δ R n nc ns KK (if inb i N then res else none) := by
  intro r hr p l e s m args below meth c E B H locs ls hl hV hS ho hs
  by_cases q : inb i N
  · rw [if_pos q] at hr
    have h4 : 4 ≤ a := KD_lo (by rw [hk]; simp)
    have hc := cat_arr (hV.2.2.1 a h4 (oks_h (oks_t hs))) hk (by decide)
    have hlt : i.toNatClampNeg < N := Nat.not_le.mp fun z => inb_in q (Or.inr z)
    refine W.zald (v := .int (gI δ a (ix i))) B.1 B.2.1 hc ((B.2.2.2.2.2.2.2.1.1.2 3 _ rfl).1 N _) (fun z => by cases z) (by show ¬ (i < 0 ∨ (arrV _ _ _).slots.size ≤ _); rw [arrV_size]; exact inb_in q) (by show (arrV _ _ _).slots[_]? = _; rw [arrV_read _ _ hlt]; simp [val, hk]) rfl rfl hdg ?_
    exact h r hr p l e s m args below meth c E B H locs ls hl hV hS ho (oks_i (oks_t (oks_t hs)))
  · rw [if_neg q] at hr; cases hr
theorem aw_lald {i : Int32} (hk : KD a = (4, N)) (hdg : decode k.2.1 pc = .ok (.laload, 1)) (h : AWo k d mc ms (pc + 1) lo (.long (gL δ a (ix i)) :: st) δ R n nc ns KK res) : AWo k d mc ms pc lo (.int i :: .ref a :: st) δ R n nc ns KK (if inb i N then res else none) := by
  intro r hr p l e s m args below meth c E B H locs ls hl hV hS ho hs
  by_cases q : inb i N
  · rw [if_pos q] at hr
    have h4 : 4 ≤ a := KD_lo (by rw [hk]; simp)
    have hc := cat_arr (hV.2.2.1 a h4 (oks_h (oks_t hs))) hk (by decide)
    have hlt : i.toNatClampNeg < N := Nat.not_le.mp fun z => inb_in q (Or.inr z)
    refine W.lald (v := .long (gL δ a (ix i))) B.1 B.2.1 hc ((B.2.2.2.2.2.2.2.1.1.2 4 _ rfl).1 N _) (fun z => by cases z) (by show ¬ (i < 0 ∨ (arrV _ _ _).slots.size ≤ _); rw [arrV_size]; exact inb_in q) (by show (arrV _ _ _).slots[_]? = _; rw [arrV_read _ _ hlt]; simp [val, hk]) rfl rfl hdg ?_
    exact h r hr p l e s m args below meth c E B H locs ls hl hV hS ho (oks_l (oks_t (oks_t hs)))
  · rw [if_neg q] at hr; cases hr
theorem aw_aald5 {i : Int32} {Bf : Nat → Option α} (hk : KD a = (5, N)) (hdg : decode k.2.1 pc = .ok (.aaload, 1)) (h0 : AWo k d mc ms (pc + 1) lo (.null :: st) δ R n nc ns KK A) (h1 : ∀ t, AWo k d mc ms (pc + 1) lo (.ref t :: st) δ R n nc ns KK (Bf t)) : AWo k d mc ms pc lo (.int i :: .ref a :: st) δ R n nc ns KK (if inb i N then ocs (R a (ix i)) A Bf else none) := by
  intro r hr p l e s m args below meth c E B H locs ls hl hV hS ho hs
  by_cases q : inb i N
  · rw [if_pos q] at hr
    have h4 : 4 ≤ a := KD_lo (by rw [hk]; simp)
    have hc := cat_arr (hV.2.2.1 a h4 (oks_h (oks_t hs))) hk (by decide)
    have hlt : i.toNatClampNeg < N := Nat.not_le.mp fun z => inb_in q (Or.inr z)
    refine W.aald (v := va_rf ((R a (ix i)).map (rho E))) (ty := .object C_La) B.1 B.2.1 hc ((B.2.2.2.2.2.2.2.1.1.2 5 _ rfl).1 N _) rfl (fun z => by cases z) (by show ¬ (i < 0 ∨ (arrV _ _ _).slots.size ≤ _); rw [arrV_size]; exact inb_in q) (by show (arrV _ _ _).slots[_]? = _; rw [arrV_read _ _ hlt]; simp [val, hk]) rfl rfl hdg ?_
    cases hd : R a (ix i) with
    | none => rw [hd] at hr; exact h0 r hr p l e s m args below meth c E B H locs ls hl hV hS ho (oks_n (oks_t (oks_t hs)))
    | some t => rw [hd] at hr; exact h1 t r hr p l e s m args below meth c E B H locs ls hl hV hS ho (oks_r (hV.2.2.2.2.1.1 a _ t h4 (oks_h (oks_t hs)) hd).2 (oks_t (oks_t hs)))
  · rw [if_neg q] at hr; cases hr
theorem aw_aald6 {i : Int32} {Bf : Nat → Option α} (hk : KD a = (6, N)) (hdg : decode k.2.1 pc = .ok (.aaload, 1)) (h0 : AWo k d mc ms (pc + 1) lo (.null :: st) δ R n nc ns KK A) (h1 : ∀ t, AWo k d mc ms (pc + 1) lo (.ref t :: st) δ R n nc ns KK (Bf t)) : AWo k d mc ms pc lo (.int i :: .ref a :: st) δ R n nc ns KK (if inb i N then ocs (R a (ix i)) A Bf else none) := by
  intro r hr p l e s m args below meth c E B H locs ls hl hV hS ho hs
  by_cases q : inb i N
  · rw [if_pos q] at hr
    have h4 : 4 ≤ a := KD_lo (by rw [hk]; simp)
    have hc := cat_arr (hV.2.2.1 a h4 (oks_h (oks_t hs))) hk (by decide)
    have hlt : i.toNatClampNeg < N := Nat.not_le.mp fun z => inb_in q (Or.inr z)
    refine W.aald (v := va_rf ((R a (ix i)).map (rho E))) (ty := .object C_Bo) B.1 B.2.1 hc ((B.2.2.2.2.2.2.2.1.1.2 6 _ rfl).1 N _) rfl (fun z => by cases z) (by show ¬ (i < 0 ∨ (arrV _ _ _).slots.size ≤ _); rw [arrV_size]; exact inb_in q) (by show (arrV _ _ _).slots[_]? = _; rw [arrV_read _ _ hlt]; simp [val, hk]) rfl rfl hdg ?_
    cases hd : R a (ix i) with
    | none => rw [hd] at hr; exact h0 r hr p l e s m args below meth c E B H locs ls hl hV hS ho (oks_n (oks_t (oks_t hs)))
    | some t => rw [hd] at hr; exact h1 t r hr p l e s m args below meth c E B H locs ls hl hV hS ho (oks_r (hV.2.2.2.2.1.1 a _ t h4 (oks_h (oks_t hs)) hd).2 (oks_t (oks_t hs)))
  · rw [if_neg q] at hr; cases hr
theorem aw_aald7 {i : Int32} {Bf : Nat → Option α} (hk : KD a = (7, N)) (hdg : decode k.2.1 pc = .ok (.aaload, 1)) (h0 : AWo k d mc ms (pc + 1) lo (.null :: st) δ R n nc ns KK A) (h1 : ∀ t, AWo k d mc ms (pc + 1) lo (.ref t :: st) δ R n nc ns KK (Bf t)) : AWo k d mc ms pc lo (.int i :: .ref a :: st) δ R n nc ns KK (if inb i N then ocs (dR (gI δ a (ix i))) A Bf else none) := by
  intro r hr p l e s m args below meth c E B H locs ls hl hV hS ho hs
  by_cases q : inb i N
  · rw [if_pos q] at hr
    have h4 : 4 ≤ a := KD_lo (by rw [hk]; simp)
    have hc := cat_arr (hV.2.2.1 a h4 (oks_h (oks_t hs))) hk (by decide)
    have hlt : i.toNatClampNeg < N := Nat.not_le.mp fun z => inb_in q (Or.inr z)
    refine W.aald (v := va_rf ((dR (gI δ a (ix i))).map (rho E))) (ty := .object C_To) B.1 B.2.1 hc ((B.2.2.2.2.2.2.2.1.1.2 7 _ rfl).1 N _) rfl (fun z => by cases z) (by show ¬ (i < 0 ∨ (arrV _ _ _).slots.size ≤ _); rw [arrV_size]; exact inb_in q) (by show (arrV _ _ _).slots[_]? = _; rw [arrV_read _ _ hlt]; simp [val, hk]) rfl rfl hdg ?_
    cases hd : dR (gI δ a (ix i)) with
    | none => rw [hd] at hr; exact h0 r hr p l e s m args below meth c E B H locs ls hl hV hS ho (oks_n (oks_t (oks_t hs)))
    | some t => rw [hd] at hr; exact h1 t r hr p l e s m args below meth c E B H locs ls hl hV hS ho (oks_r (hV.2.2.2.2.1.2 a _ t h4 (oks_h (oks_t hs)) (by simp [dyn, hk]) hd).2 (oks_t (oks_t hs)))
  · rw [if_neg q] at hr; cases hr
theorem aw_iast {i : Int32} {x : Int32} (hk : KD a = (1, N)) (hdg : decode k.2.1 pc = .ok (.iastore, 1)) (h : AWo k d mc ms (pc + 1) lo st (sI δ a (ix i) x) R n nc ns KK res) : AWo k d mc ms pc lo (.int x :: .int i :: .ref a :: st) δ R n nc ns KK (if inb i N then res else none) := by
  intro r hr p l e s m args below meth c E B H locs ls hl hV hS ho hs
  by_cases q : inb i N
  · rw [if_pos q] at hr
    have h4 : 4 ≤ a := KD_lo (by rw [hk]; simp)
    have hc := cat_arr (hV.2.2.1 a h4 (oks_h (oks_t (oks_t hs)))) hk (by decide)
    refine W.iast B.1 B.2.1 hc ((B.2.2.2.2.2.2.2.1.1.2 1 _ rfl).1 N _) (fun z => by cases z) (by show ¬ (i < 0 ∨ (arrV _ _ _).slots.size ≤ _); rw [arrV_size]; exact inb_in q) rfl rfl hdg (fun H1 ee z oq => ?_)
    have hv : updV (val E δ R a) (ix i) (.int x) = val E (sI δ a (ix i) x) R a := by
      funext j
      by_cases hj : j = ix i
      · subst hj; simp [updV, val, hk, gI_sI]
      · simp [updV, val, hk, hj, gI_sI, gL_sI]
    have ee : H1[rho E a]? = some (arrV (eC E 1) N (updV (val E δ R a) (ix i) (.int x))) := by rw [ee, arrV_store] <;> rfl
    rw [hv] at ee
    exact h r hr p l e s m args below meth c E B H1 _ ls hl (Vw_put hV h4 z oq (cat_ofArr hk (by decide) ee) (fun b hb => val_sI hb) (wfm_sI hV.2.2.2.2.1 (Or.inl (dyn_arr hk (by decide)))) (scr_sI hV.2.2.2.2.2 h4)) (hS.put z oq (rho_A h4)) ho (oks_t (oks_t (oks_t hs)))
  · rw [if_neg q] at hr; cases hr
theorem aw_bast {i : Int32} {x : Int32} (hk : KD a = (2, N)) (hdg : decode k.2.1 pc = .ok (.bastore, 1)) (h : AWo k d mc ms (pc + 1) lo st (sI δ a (ix i) x.toInt8.toInt32) R n nc ns KK res) : AWo k d mc ms pc lo (.int x :: .int i :: .ref a :: st) δ R n nc ns KK (if inb i N then res else none) := by
  intro r hr p l e s m args below meth c E B H locs ls hl hV hS ho hs
  by_cases q : inb i N
  · rw [if_pos q] at hr
    have h4 : 4 ≤ a := KD_lo (by rw [hk]; simp)
    have hc := cat_arr (hV.2.2.1 a h4 (oks_h (oks_t (oks_t hs)))) hk (by decide)
    refine W.bast B.1 B.2.1 hc ((B.2.2.2.2.2.2.2.1.1.2 2 _ rfl).1 N _) (fun z => by cases z) (by show ¬ (i < 0 ∨ (arrV _ _ _).slots.size ≤ _); rw [arrV_size]; exact inb_in q) rfl rfl hdg (fun H1 ee z oq => ?_)
    have hv : updV (val E δ R a) (ix i) (.int x.toInt8.toInt32) = val E (sI δ a (ix i) x.toInt8.toInt32) R a := by
      funext j
      by_cases hj : j = ix i
      · subst hj; simp [updV, val, hk, gI_sI]
      · simp [updV, val, hk, hj, gI_sI, gL_sI]
    have ee : H1[rho E a]? = some (arrV (eC E 2) N (updV (val E δ R a) (ix i) (.int x.toInt8.toInt32))) := by rw [ee, arrV_store] <;> rfl
    rw [hv] at ee
    exact h r hr p l e s m args below meth c E B H1 _ ls hl (Vw_put hV h4 z oq (cat_ofArr hk (by decide) ee) (fun b hb => val_sI hb) (wfm_sI hV.2.2.2.2.1 (Or.inl (dyn_arr hk (by decide)))) (scr_sI hV.2.2.2.2.2 h4)) (hS.put z oq (rho_A h4)) ho (oks_t (oks_t (oks_t hs)))
  · rw [if_neg q] at hr; cases hr
theorem aw_zast {i : Int32} {x : Int32} (hk : KD a = (3, N)) (hdg : decode k.2.1 pc = .ok (.bastore, 1)) (h : AWo k d mc ms (pc + 1) lo st (sI δ a (ix i) (vp_nar .boolean x)) R n nc ns KK res) : AWo k d mc ms pc lo (.int x :: .int i :: .ref a :: st) δ R n nc ns KK (if inb i N then res else none) := by
  intro r hr p l e s m args below meth c E B H locs ls hl hV hS ho hs
  by_cases q : inb i N
  · rw [if_pos q] at hr
    have h4 : 4 ≤ a := KD_lo (by rw [hk]; simp)
    have hc := cat_arr (hV.2.2.1 a h4 (oks_h (oks_t (oks_t hs)))) hk (by decide)
    refine W.zast B.1 B.2.1 hc ((B.2.2.2.2.2.2.2.1.1.2 3 _ rfl).1 N _) (fun z => by cases z) (by show ¬ (i < 0 ∨ (arrV _ _ _).slots.size ≤ _); rw [arrV_size]; exact inb_in q) rfl rfl hdg (fun H1 ee z oq => ?_)
    have hv : updV (val E δ R a) (ix i) (.int (vp_nar .boolean x)) = val E (sI δ a (ix i) (vp_nar .boolean x)) R a := by
      funext j
      by_cases hj : j = ix i
      · subst hj; simp [updV, val, hk, gI_sI]
      · simp [updV, val, hk, hj, gI_sI, gL_sI]
    have ee : H1[rho E a]? = some (arrV (eC E 3) N (updV (val E δ R a) (ix i) (.int (vp_nar .boolean x)))) := by rw [ee, arrV_store] <;> rfl
    rw [hv] at ee
    exact h r hr p l e s m args below meth c E B H1 _ ls hl (Vw_put hV h4 z oq (cat_ofArr hk (by decide) ee) (fun b hb => val_sI hb) (wfm_sI hV.2.2.2.2.1 (Or.inl (dyn_arr hk (by decide)))) (scr_sI hV.2.2.2.2.2 h4)) (hS.put z oq (rho_A h4)) ho (oks_t (oks_t (oks_t hs)))
  · rw [if_neg q] at hr; cases hr
theorem aw_last {i : Int32} {x : Int64} (hk : KD a = (4, N)) (hdg : decode k.2.1 pc = .ok (.lastore, 1)) (h : AWo k d mc ms (pc + 1) lo st (sL δ a (ix i) x) R n nc ns KK res) : AWo k d mc ms pc lo (.long x :: .int i :: .ref a :: st) δ R n nc ns KK (if inb i N then res else none) := by
  intro r hr p l e s m args below meth c E B H locs ls hl hV hS ho hs
  by_cases q : inb i N
  · rw [if_pos q] at hr
    have h4 : 4 ≤ a := KD_lo (by rw [hk]; simp)
    have hc := cat_arr (hV.2.2.1 a h4 (oks_h (oks_t (oks_t hs)))) hk (by decide)
    refine W.last B.1 B.2.1 hc ((B.2.2.2.2.2.2.2.1.1.2 4 _ rfl).1 N _) (fun z => by cases z) (by show ¬ (i < 0 ∨ (arrV _ _ _).slots.size ≤ _); rw [arrV_size]; exact inb_in q) rfl rfl hdg (fun H1 ee z oq => ?_)
    have hv : updV (val E δ R a) (ix i) (.long x) = val E (sL δ a (ix i) x) R a := by
      funext j
      by_cases hj : j = ix i
      · subst hj; simp [updV, val, hk, gL_sL]
      · simp [updV, val, hk, hj, gL_sL, gI_sL]
    have ee : H1[rho E a]? = some (arrV (eC E 4) N (updV (val E δ R a) (ix i) (.long x))) := by rw [ee, arrV_store] <;> rfl
    rw [hv] at ee
    exact h r hr p l e s m args below meth c E B H1 _ ls hl (Vw_put hV h4 z oq (cat_ofArr hk (by decide) ee) (fun b hb => val_sL hb) (wfm_sL hV.2.2.2.2.1) hV.2.2.2.2.2) (hS.put z oq (rho_A h4)) ho (oks_t (oks_t (oks_t hs)))
  · rw [if_neg q] at hr; cases hr
theorem aw_aast5 {i : Int32} {t NT : Nat} (hk : KD a = (5, N)) (hkt : KD t = (14, NT)) (hdg : decode k.2.1 pc = .ok (.aastore, 1)) (h : AWo k d mc ms (pc + 1) lo st δ (uR R a (ix i) t) n nc ns KK res) : AWo k d mc ms pc lo (.ref t :: .int i :: .ref a :: st) δ R n nc ns KK (if inb i N then res else none) := by
  intro r hr p l e s m args below meth c E B H locs ls hl hV hS ho hs
  by_cases q : inb i N
  · rw [if_pos q] at hr
    have h4 : 4 ≤ a := KD_lo (by rw [hk]; simp)
    have ht4 : 4 ≤ t := KD_lo (by rw [hkt]; simp)
    have hc := cat_arr (hV.2.2.1 a h4 (oks_h (oks_t (oks_t hs)))) hk (by decide)
    obtain ⟨cellV, g1, g2, g3, -⟩ := cat_obj (ci := 4) (hV.2.2.1 t ht4 (oks_h hs)) hkt
    have hlt : i.toNatClampNeg < N := Nat.not_le.mp fun z => inb_in q (Or.inr z)
    have hK := B.2.2.2.2.2.2.2.1.1
    have hcls := (hK.1 4 _ rfl).2
    obtain ⟨kA, comp, k1, k2, k3, -⟩ := (hK.2 5 _ rfl).2
    have hcomp : comp = (eD E).1 4 := Option.some.inj (k3.symm.trans hcls.1)
    subst hcomp
    have hcls2 := hcls
    obtain ⟨kC, hkC, -⟩ := hcls2.2
    refine W.aast B.1 B.2.1 hc (fun q h => by cases h) (fun h => by cases h) k1 k2 rfl hkC ⟨fun z => inb_in q (Or.inl z), by show _ < (arrV _ _ _).slots.size; rw [arrV_size]; exact hlt⟩ g1 (fun q h => by rw [g3] at h; cases h) (by rw [g2]; exact hkC) (by rw [g2]; exact va_assign hcls) rfl rfl hdg (fun H1 ee z oq => ?_)
    have hv : updV (val E δ R a) (ix i) (.ref (rho E t)) = val E δ (uR R a (ix i) t) a := by
      funext j
      by_cases hj : j = ix i
      · subst hj; simp [updV, val, hk, uR, va_rf]
      · simp [updV, val, hk, hj, uR]
    have ee : H1[rho E a]? = some (arrV (eC E 5) N (updV (val E δ R a) (ix i) (.ref (rho E t)))) := by rw [ee, arrV_store]
    rw [hv] at ee
    exact h r hr p l e s m args below meth c E B H1 _ ls hl (Vw_put hV h4 z oq (cat_ofArr hk (by decide) ee) (fun b hb => val_uR hb) (wfm_uR hV.2.2.2.2.1 ht4 (oks_h hs)) hV.2.2.2.2.2) (hS.put z oq (rho_A h4)) ho (oks_t (oks_t (oks_t hs)))
  · rw [if_neg q] at hr; cases hr
theorem aw_aast6 {i : Int32} {t NT : Nat} (hk : KD a = (6, N)) (hkt : KD t = (10, NT)) (hdg : decode k.2.1 pc = .ok (.aastore, 1)) (h : AWo k d mc ms (pc + 1) lo st δ (uR R a (ix i) t) n nc ns KK res) : AWo k d mc ms pc lo (.ref t :: .int i :: .ref a :: st) δ R n nc ns KK (if inb i N then res else none) := by
  intro r hr p l e s m args below meth c E B H locs ls hl hV hS ho hs
  by_cases q : inb i N
  · rw [if_pos q] at hr
    have h4 : 4 ≤ a := KD_lo (by rw [hk]; simp)
    have ht4 : 4 ≤ t := KD_lo (by rw [hkt]; simp)
    have hc := cat_arr (hV.2.2.1 a h4 (oks_h (oks_t (oks_t hs)))) hk (by decide)
    obtain ⟨cellV, g1, g2, g3, -⟩ := cat_obj (ci := 0) (hV.2.2.1 t ht4 (oks_h hs)) hkt
    have hlt : i.toNatClampNeg < N := Nat.not_le.mp fun z => inb_in q (Or.inr z)
    have hK := B.2.2.2.2.2.2.2.1.1
    have hcls := (hK.1 0 _ rfl).2
    obtain ⟨kA, comp, k1, k2, k3, -⟩ := (hK.2 6 _ rfl).2
    have hcomp : comp = (eD E).1 0 := Option.some.inj (k3.symm.trans hcls.1)
    subst hcomp
    have hcls2 := hcls
    obtain ⟨kC, hkC, -⟩ := hcls2.2
    refine W.aast B.1 B.2.1 hc (fun q h => by cases h) (fun h => by cases h) k1 k2 rfl hkC ⟨fun z => inb_in q (Or.inl z), by show _ < (arrV _ _ _).slots.size; rw [arrV_size]; exact hlt⟩ g1 (fun q h => by rw [g3] at h; cases h) (by rw [g2]; exact hkC) (by rw [g2]; exact va_assign hcls) rfl rfl hdg (fun H1 ee z oq => ?_)
    have hv : updV (val E δ R a) (ix i) (.ref (rho E t)) = val E δ (uR R a (ix i) t) a := by
      funext j
      by_cases hj : j = ix i
      · subst hj; simp [updV, val, hk, uR, va_rf]
      · simp [updV, val, hk, hj, uR]
    have ee : H1[rho E a]? = some (arrV (eC E 6) N (updV (val E δ R a) (ix i) (.ref (rho E t)))) := by rw [ee, arrV_store]
    rw [hv] at ee
    exact h r hr p l e s m args below meth c E B H1 _ ls hl (Vw_put hV h4 z oq (cat_ofArr hk (by decide) ee) (fun b hb => val_uR hb) (wfm_uR hV.2.2.2.2.1 ht4 (oks_h hs)) hV.2.2.2.2.2) (hS.put z oq (rho_A h4)) ho (oks_t (oks_t (oks_t hs)))
  · rw [if_neg q] at hr; cases hr
theorem aw_aast7 {i : Int32} {t NT : Nat} (hk : KD a = (7, N)) (hkt : KD t = (19, NT)) (htm : t < 2147483648) (hdg : decode k.2.1 pc = .ok (.aastore, 1)) (h : AWo k d mc ms (pc + 1) lo st (sI δ a (ix i) (nI t)) R n nc ns KK res) : AWo k d mc ms pc lo (.ref t :: .int i :: .ref a :: st) δ R n nc ns KK (if inb i N then res else none) := by
  intro r hr p l e s m args below meth c E B H locs ls hl hV hS ho hs
  by_cases q : inb i N
  · rw [if_pos q] at hr
    have h4 : 4 ≤ a := KD_lo (by rw [hk]; simp)
    have ht4 : 4 ≤ t := KD_lo (by rw [hkt]; simp)
    have hc := cat_arr (hV.2.2.1 a h4 (oks_h (oks_t (oks_t hs)))) hk (by decide)
    obtain ⟨cellV, g1, g2, g3, -⟩ := cat_obj (ci := 9) (hV.2.2.1 t ht4 (oks_h hs)) hkt
    have hlt : i.toNatClampNeg < N := Nat.not_le.mp fun z => inb_in q (Or.inr z)
    have hK := B.2.2.2.2.2.2.2.1.1
    have hcls := (hK.1 9 _ rfl).2
    obtain ⟨kA, comp, k1, k2, k3, -⟩ := (hK.2 7 _ rfl).2
    have hcomp : comp = (eD E).1 9 := Option.some.inj (k3.symm.trans hcls.1)
    subst hcomp
    have hcls2 := hcls
    obtain ⟨kC, hkC, -⟩ := hcls2.2
    refine W.aast B.1 B.2.1 hc (fun q h => by cases h) (fun h => by cases h) k1 k2 rfl hkC ⟨fun z => inb_in q (Or.inl z), by show _ < (arrV _ _ _).slots.size; rw [arrV_size]; exact hlt⟩ g1 (fun q h => by rw [g3] at h; cases h) (by rw [g2]; exact hkC) (by rw [g2]; exact va_assign hcls) rfl rfl hdg (fun H1 ee z oq => ?_)
    have hv : updV (val E δ R a) (ix i) (.ref (rho E t)) = val E (sI δ a (ix i) (nI t)) R a := by
      funext j
      by_cases hj : j = ix i
      · subst hj; simp [updV, val, hk, gI_sI, dR_nI ht4 htm, va_rf]
      · simp [updV, val, hk, hj, gI_sI, gL_sI]
    have ee : H1[rho E a]? = some (arrV (eC E 7) N (updV (val E δ R a) (ix i) (.ref (rho E t)))) := by rw [ee, arrV_store]
    rw [hv] at ee
    exact h r hr p l e s m args below meth c E B H1 _ ls hl (Vw_put hV h4 z oq (cat_ofArr hk (by decide) ee) (fun b hb => val_sI hb) (wfm_sI hV.2.2.2.2.1 (Or.inr (fun v hv => by rw [dR_nI ht4 htm] at hv; cases hv; exact ⟨ht4, oks_h hs⟩))) (scr_sI hV.2.2.2.2.2 h4)) (hS.put z oq (rho_A h4)) ho (oks_t (oks_t (oks_t hs)))
  · rw [if_neg q] at hr; cases hr
theorem aw_alen {kd : Nat} {v : Int32} (hk : KD a = (kd, N)) (hkd : 1 ≤ kd ∧ kd ≤ 7) (hv : nI N = v) (hdg : decode k.2.1 pc = .ok (.arraylength, 1)) (h : AWo k d mc ms (pc + 1) lo (.int v :: st) δ R n nc ns KK res) : AWo k d mc ms pc lo (.ref a :: st) δ R n nc ns KK res := by
  intro r hr p l e s m args below meth c E B H locs ls hl hV hS ho hs
  subst hv
  have h4 : 4 ≤ a := KD_lo (by rw [hk]; show kd ≠ 0; omega)
  have hc := cat_arr (hV.2.2.1 a h4 (oks_h hs)) hk (by omega)
  have hK := B.2.2.2.2.2.2.2.1.1.2
  have key : ∃ ty, ArrOfT s (eC E kd) ty := by
    rcases (show kd = 1 ∨ kd = 2 ∨ kd = 3 ∨ kd = 4 ∨ kd = 5 ∨ kd = 6 ∨ kd = 7 by omega) with rfl | rfl | rfl | rfl | rfl | rfl | rfl
    · exact ⟨_, (hK 1 _ rfl).1⟩
    · exact ⟨_, (hK 2 _ rfl).1⟩
    · exact ⟨_, (hK 3 _ rfl).1⟩
    · exact ⟨_, (hK 4 _ rfl).1⟩
    · exact ⟨_, (hK 5 _ rfl).1⟩
    · exact ⟨_, (hK 6 _ rfl).1⟩
    · exact ⟨_, (hK 7 _ rfl).1⟩
  obtain ⟨ty, hty⟩ := key
  exact W.alen (n := nI N) B.1 B.2.1 hc (hty N _) (by rw [arrV_size]; rfl) rfl rfl hdg (h r hr p l e s m args below meth c E B H locs ls hl hV hS ho (oks_i (oks_t hs)))
theorem aw_sald {i : Int32} (hdg : decode k.2.1 pc = .ok (.iaload, 1)) (h : AWo k d mc ms (pc + 1) lo (.int (gI δ 0 (ix i)) :: st) δ R n nc ns KK res) : AWo k d mc ms pc lo (.int i :: .ref 0 :: st) δ R n nc ns KK (if 0 ≤ i.toInt ∧ i.toInt < (gI δ 1 0).toInt then res else none) := by
  intro r hr p l e s m args below meth c E B H locs ls hl hV hS ho hs
  obtain ⟨-, ⟨cel, h1, h2, h3, h4, h5⟩, ⟨hb, hL⟩, -⟩ := B.2.2.2.2.2.2.2.1
  have hlen : (gI δ 1 0).toInt = (eLn E : Int) := by rw [hV.2.2.2.2.2.2]; exact nI_toInt (by omega)
  by_cases q : 0 ≤ i.toInt ∧ i.toInt < (gI δ 1 0).toInt
  · rw [if_pos q] at hr
    rw [hlen] at q
    have hlt : i.toNatClampNeg < eLn E := Nat.not_le.mp fun z => inb_in q (Or.inr z)
    have hh : H[eB E]? = some cel := by rw [hV.2.2.2.1 _ hb]; exact h1
    refine W.iald (v := .int (gI δ 0 (ix i))) B.1 B.2.1 hh h2 h3 (by rw [h4]; exact inb_in q) (by rw [h5 _ hlt, hV.2.2.2.2.2.1 _ hlt]) rfl rfl hdg ?_
    exact h r hr p l e s m args below meth c E B H locs ls hl hV hS ho (oks_i (oks_t (oks_t hs)))
  · rw [if_neg q] at hr; cases hr
theorem aw_slen (hdg : decode k.2.1 pc = .ok (.arraylength, 1)) (h : AWo k d mc ms (pc + 1) lo (.int (gI δ 1 0) :: st) δ R n nc ns KK res) : AWo k d mc ms pc lo (.ref 0 :: st) δ R n nc ns KK res := by
  intro r hr p l e s m args below meth c E B H locs ls hl hV hS ho hs
  obtain ⟨-, ⟨cel, h1, h2, h3, h4, h5⟩, ⟨hb, hL⟩, -⟩ := B.2.2.2.2.2.2.2.1
  have hh : H[eB E]? = some cel := by rw [hV.2.2.2.1 _ hb]; exact h1
  have hlen : gI δ 1 0 = nI (eLn E) := hV.2.2.2.2.2.2
  refine W.alen (n := nI (eLn E)) B.1 B.2.1 hh h2 (by rw [h4]; rfl) rfl rfl hdg ?_
  rw [hlen] at h
  exact h r hr p l e s m args below meth c E B H locs ls hl hV hS ho (oks_i (oks_t hs))
theorem Vw_new {E : EV} {H H1 : Heap} (hV : Vw E δ R n H) (z : H1.size = H.size + 1) (oq : ∀ q : Nat, q < H.size → H1[q]? = H[q]?) (hc : cat E (zr δ n) (clr R n) n H1) : Vw E (zr δ n) (clr R n) (n + 1) H1 := by
  obtain ⟨v1, v2, v3, v4, v5, v6⟩ := hV
  refine ⟨by omega, by rw [z, v2]; omega, fun b hb hbn => ?_, fun q hq => ?_, ⟨fun b j v hb hbn hv => ?_, fun b j v hb hbn hdy hv => ?_⟩, ⟨fun j hj => ?_, ?_⟩⟩
  · by_cases e : b = n
    · rw [e]; exact hc
    · refine cat_kept (v3 b hb (by omega)) (oq _ (by rw [rho4 hb, v2]; omega)) ?_
      funext j; simp only [val, gI_zr, gL_zr, clr, e, if_false]
  · rw [oq q (by omega)]; exact v4 q hq
  · unfold clr at hv
    by_cases e : b = n
    · rw [if_pos e] at hv; cases hv
    · rw [if_neg e] at hv; have := v5.1 b j v hb (by omega) hv; omega
  · rw [gI_zr] at hv
    by_cases e : b = n
    · rw [if_pos e] at hv; simp [dR] at hv
    · rw [if_neg e] at hv; have := v5.2 b j v hb (by omega) hdy hv; omega
  · rw [gI_zr, if_neg (by omega)]; exact v6.1 j hj
  · rw [gI_zr, if_neg (by omega)]; exact v6.2
theorem hS_new {E : EV} {H0 H H1 : Heap} {locs : List Loc} (hS : va_S (AE E) H0 H locs) (z : H1.size = H.size + 1) (oq : ∀ q : Nat, q < H.size → H1[q]? = H[q]?) : va_S (AE E) H0 H1 locs := ⟨by have := hS.1; omega, fun q h1 h2 => by rw [oq q (by have := hS.1; omega)]; exact hS.2.1 q h1 h2, hS.2.2⟩
theorem okv_up {n n2 : Nat} {v : Value} (h : okv n v) (hn : n ≤ n2) : okv n2 v := by
  cases v <;> first | trivial | exact Nat.lt_of_lt_of_le h hn
theorem okl_up {n n2 : Nat} {lo : List (Nat × Value)} (h : okl n lo) (hn : n ≤ n2) : okl n2 lo := fun q hq => okv_up (h q hq) hn
theorem oks_up {n n2 : Nat} {st : List Value} (h : oks n st) (hn : n ≤ n2) : oks n2 st := fun q hq => okv_up (h q hq) hn
theorem aw_newa_int {v : Int32} (hk : KD n = (1, N)) (h0 : ¬ v < 0) (hN : v.toNatClampNeg = N) (hby : N * componentBytes .int ≤ 536870912) (hmc : nc + 1 ≤ mc) (hms : ns + N ≤ ms) (hw : Cond.arrayClass .int ∈ lw_gd) (hdg : decode k.2.1 pc = .ok (.newarray .int, 2)) (h : AWo k d mc ms (pc + 2) lo (.ref n :: st) (zr δ n) (clr R n) (n + 1) (nc + 1) (ns + N) KK res) : AWo k d mc ms pc lo (.int v :: st) δ R n nc ns KK res := by
  intro r hr p l e s m args below meth c E B H locs ls hl hV hS ho hs
  have hn4 : 4 ≤ n := hV.1
  have hsz : H.size = rho E n := by rw [rho4 hn4]; exact hV.2.1
  refine va_newaK (atype := .int) B.1 B.2.1 (B.2.2.2.2.2.2.1 _ hw) rfl hdg rfl h0 hN hby (R := rmk d mc ms) hmc hms hsz (fun H1 cA e1 z oq hA hF => ?_)
  have hcA : cA = eC E 1 := by
    have h2 := (B.2.2.2.2.2.2.2.1.1.2 1 _ rfl).2
    exact Option.some.inj (hF.symm.trans h2)
  subst hcA
  have hv : (fun _ : Nat => defaultValue (newarray.typeOf .int)) = val E (zr δ n) (clr R n) n := by
    funext j; simp [val, hk, gI_zr, gL_zr]; rfl
  rw [hv] at e1
  exact h r hr p l e s m args below meth c E B H1 _ ls hl (Vw_new hV (by rw [z, hsz]) (fun q hq => oq q (by omega)) (cat_ofArr hk (by decide) e1)) (hS_new hS (by rw [z, hsz]) (fun q hq => oq q (by omega))) (okl_up ho (by omega)) (oks_r (by omega) (oks_up (oks_t hs) (by omega)))
theorem aw_newa_byte {v : Int32} (hk : KD n = (2, N)) (h0 : ¬ v < 0) (hN : v.toNatClampNeg = N) (hby : N * componentBytes .byte ≤ 536870912) (hmc : nc + 1 ≤ mc) (hms : ns + N ≤ ms) (hw : Cond.arrayClass .byte ∈ lw_gd) (hdg : decode k.2.1 pc = .ok (.newarray .byte, 2)) (h : AWo k d mc ms (pc + 2) lo (.ref n :: st) (zr δ n) (clr R n) (n + 1) (nc + 1) (ns + N) KK res) : AWo k d mc ms pc lo (.int v :: st) δ R n nc ns KK res := by
  intro r hr p l e s m args below meth c E B H locs ls hl hV hS ho hs
  have hn4 : 4 ≤ n := hV.1
  have hsz : H.size = rho E n := by rw [rho4 hn4]; exact hV.2.1
  refine va_newaK (atype := .byte) B.1 B.2.1 (B.2.2.2.2.2.2.1 _ hw) rfl hdg rfl h0 hN hby (R := rmk d mc ms) hmc hms hsz (fun H1 cA e1 z oq hA hF => ?_)
  have hcA : cA = eC E 2 := by
    have h2 := (B.2.2.2.2.2.2.2.1.1.2 2 _ rfl).2
    exact Option.some.inj (hF.symm.trans h2)
  subst hcA
  have hv : (fun _ : Nat => defaultValue (newarray.typeOf .byte)) = val E (zr δ n) (clr R n) n := by
    funext j; simp [val, hk, gI_zr, gL_zr]; rfl
  rw [hv] at e1
  exact h r hr p l e s m args below meth c E B H1 _ ls hl (Vw_new hV (by rw [z, hsz]) (fun q hq => oq q (by omega)) (cat_ofArr hk (by decide) e1)) (hS_new hS (by rw [z, hsz]) (fun q hq => oq q (by omega))) (okl_up ho (by omega)) (oks_r (by omega) (oks_up (oks_t hs) (by omega)))
theorem aw_newa_boolean {v : Int32} (hk : KD n = (3, N)) (h0 : ¬ v < 0) (hN : v.toNatClampNeg = N) (hby : N * componentBytes .boolean ≤ 536870912) (hmc : nc + 1 ≤ mc) (hms : ns + N ≤ ms) (hw : Cond.arrayClass .boolean ∈ lw_gd) (hdg : decode k.2.1 pc = .ok (.newarray .boolean, 2)) (h : AWo k d mc ms (pc + 2) lo (.ref n :: st) (zr δ n) (clr R n) (n + 1) (nc + 1) (ns + N) KK res) : AWo k d mc ms pc lo (.int v :: st) δ R n nc ns KK res := by
  intro r hr p l e s m args below meth c E B H locs ls hl hV hS ho hs
  have hn4 : 4 ≤ n := hV.1
  have hsz : H.size = rho E n := by rw [rho4 hn4]; exact hV.2.1
  refine va_newaK (atype := .boolean) B.1 B.2.1 (B.2.2.2.2.2.2.1 _ hw) rfl hdg rfl h0 hN hby (R := rmk d mc ms) hmc hms hsz (fun H1 cA e1 z oq hA hF => ?_)
  have hcA : cA = eC E 3 := by
    have h2 := (B.2.2.2.2.2.2.2.1.1.2 3 _ rfl).2
    exact Option.some.inj (hF.symm.trans h2)
  subst hcA
  have hv : (fun _ : Nat => defaultValue (newarray.typeOf .boolean)) = val E (zr δ n) (clr R n) n := by
    funext j; simp [val, hk, gI_zr, gL_zr]; rfl
  rw [hv] at e1
  exact h r hr p l e s m args below meth c E B H1 _ ls hl (Vw_new hV (by rw [z, hsz]) (fun q hq => oq q (by omega)) (cat_ofArr hk (by decide) e1)) (hS_new hS (by rw [z, hsz]) (fun q hq => oq q (by omega))) (okl_up ho (by omega)) (oks_r (by omega) (oks_up (oks_t hs) (by omega)))
theorem aw_newa_long {v : Int32} (hk : KD n = (4, N)) (h0 : ¬ v < 0) (hN : v.toNatClampNeg = N) (hby : N * componentBytes .long ≤ 536870912) (hmc : nc + 1 ≤ mc) (hms : ns + N ≤ ms) (hw : Cond.arrayClass .long ∈ lw_gd) (hdg : decode k.2.1 pc = .ok (.newarray .long, 2)) (h : AWo k d mc ms (pc + 2) lo (.ref n :: st) (zr δ n) (clr R n) (n + 1) (nc + 1) (ns + N) KK res) : AWo k d mc ms pc lo (.int v :: st) δ R n nc ns KK res := by
  intro r hr p l e s m args below meth c E B H locs ls hl hV hS ho hs
  have hn4 : 4 ≤ n := hV.1
  have hsz : H.size = rho E n := by rw [rho4 hn4]; exact hV.2.1
  refine va_newaK (atype := .long) B.1 B.2.1 (B.2.2.2.2.2.2.1 _ hw) rfl hdg rfl h0 hN hby (R := rmk d mc ms) hmc hms hsz (fun H1 cA e1 z oq hA hF => ?_)
  have hcA : cA = eC E 4 := by
    have h2 := (B.2.2.2.2.2.2.2.1.1.2 4 _ rfl).2
    exact Option.some.inj (hF.symm.trans h2)
  subst hcA
  have hv : (fun _ : Nat => defaultValue (newarray.typeOf .long)) = val E (zr δ n) (clr R n) n := by
    funext j; simp [val, hk, gI_zr, gL_zr]; rfl
  rw [hv] at e1
  exact h r hr p l e s m args below meth c E B H1 _ ls hl (Vw_new hV (by rw [z, hsz]) (fun q hq => oq q (by omega)) (cat_ofArr hk (by decide) e1)) (hS_new hS (by rw [z, hsz]) (fun q hq => oq q (by omega))) (okl_up ho (by omega)) (oks_r (by omega) (oks_up (oks_t hs) (by omega)))
theorem aw_newq5 {v : Int32} (hk : KD n = (5, N)) (h0 : ¬ v < 0) (hN : v.toNatClampNeg = N) (hby : N * 4 ≤ 536870912) (hmc : nc + 1 ≤ mc) (hms : ns + N ≤ ms) (hw : Cond.classLink k.1.cls idx C_La ∈ lw_gd) (hdg : decode k.2.1 pc = .ok (.anewarray idx, 3)) (h : AWo k d mc ms (pc + 3) lo (.ref n :: st) (zr δ n) (clr R n) (n + 1) (nc + 1) (ns + N) KK res) : AWo k d mc ms pc lo (.int v :: st) δ R n nc ns KK res := by
  intro r hr p l e s m args below meth c E B H locs ls hl hV hS ho hs
  subst hN
  have hn4 : 4 ≤ n := hV.1
  have hsz : H.size = rho E n := by rw [rho4 hn4]; exact hV.2.1
  refine W.anew (R := rmk d mc ms) B.1 B.2.1 B.2.2.2.2.2.1 (B.2.2.2.2.2.2.1 _ hw) (va_AO.use B.2.2.2.2.2.2.2.1.2.2.2.2.1.1) rfl hdg rfl h0 hby hmc hms (fun cA kA comp f1 f2 f3 f4 => ?_)
  have hcA : cA = eC E 5 := by
    obtain ⟨_, _, _, _, _, h2⟩ := (B.2.2.2.2.2.2.2.1.1.2 5 _ rfl).2
    exact Option.some.inj (f1.symm.trans h2)
  subst hcA
  generalize hH1 : H.push ({ cls := eC E 5, slots := Array.replicate v.toNatClampNeg .null, vm := .none } : Cell) = H1
  have z1 : H1.size = H.size + 1 := by rw [← hH1, Array.size_push]
  have e1 : H1[H.size]? = some (arrV (eC E 5) v.toNatClampNeg (fun _ => .null)) := by rw [← hH1, Array.getElem?_push_size, ← arrV_new]
  have o1 : ∀ q : Nat, q < H.size → H1[q]? = H[q]? := fun q hq => by rw [← hH1, Array.getElem?_push, if_neg (Nat.ne_of_lt hq)]
  have hv : (fun _ : Nat => Value.null) = val E (zr δ n) (clr R n) n := by
    funext j; simp [val, hk, gI_zr, gL_zr, clr, dR, va_rf]
  rw [hv, hsz] at e1
  rw [hsz]
  exact h r hr p l e s m args below meth c E B H1 _ ls hl (Vw_new hV z1 o1 (cat_ofArr hk (by decide) e1)) (hS_new hS z1 o1) (okl_up ho (by omega)) (oks_r (by omega) (oks_up (oks_t hs) (by omega)))
theorem aw_newq6 {v : Int32} (hk : KD n = (6, N)) (h0 : ¬ v < 0) (hN : v.toNatClampNeg = N) (hby : N * 4 ≤ 536870912) (hmc : nc + 1 ≤ mc) (hms : ns + N ≤ ms) (hw : Cond.classLink k.1.cls idx C_Bo ∈ lw_gd) (hdg : decode k.2.1 pc = .ok (.anewarray idx, 3)) (h : AWo k d mc ms (pc + 3) lo (.ref n :: st) (zr δ n) (clr R n) (n + 1) (nc + 1) (ns + N) KK res) : AWo k d mc ms pc lo (.int v :: st) δ R n nc ns KK res := by
  intro r hr p l e s m args below meth c E B H locs ls hl hV hS ho hs
  subst hN
  have hn4 : 4 ≤ n := hV.1
  have hsz : H.size = rho E n := by rw [rho4 hn4]; exact hV.2.1
  refine W.anew (R := rmk d mc ms) B.1 B.2.1 B.2.2.2.2.2.1 (B.2.2.2.2.2.2.1 _ hw) (va_AO.use B.2.2.2.2.2.2.2.1.2.2.2.2.1.2.1) rfl hdg rfl h0 hby hmc hms (fun cA kA comp f1 f2 f3 f4 => ?_)
  have hcA : cA = eC E 6 := by
    obtain ⟨_, _, _, _, _, h2⟩ := (B.2.2.2.2.2.2.2.1.1.2 6 _ rfl).2
    exact Option.some.inj (f1.symm.trans h2)
  subst hcA
  generalize hH1 : H.push ({ cls := eC E 6, slots := Array.replicate v.toNatClampNeg .null, vm := .none } : Cell) = H1
  have z1 : H1.size = H.size + 1 := by rw [← hH1, Array.size_push]
  have e1 : H1[H.size]? = some (arrV (eC E 6) v.toNatClampNeg (fun _ => .null)) := by rw [← hH1, Array.getElem?_push_size, ← arrV_new]
  have o1 : ∀ q : Nat, q < H.size → H1[q]? = H[q]? := fun q hq => by rw [← hH1, Array.getElem?_push, if_neg (Nat.ne_of_lt hq)]
  have hv : (fun _ : Nat => Value.null) = val E (zr δ n) (clr R n) n := by
    funext j; simp [val, hk, gI_zr, gL_zr, clr, dR, va_rf]
  rw [hv, hsz] at e1
  rw [hsz]
  exact h r hr p l e s m args below meth c E B H1 _ ls hl (Vw_new hV z1 o1 (cat_ofArr hk (by decide) e1)) (hS_new hS z1 o1) (okl_up ho (by omega)) (oks_r (by omega) (oks_up (oks_t hs) (by omega)))
theorem aw_newq7 {v : Int32} (hk : KD n = (7, N)) (h0 : ¬ v < 0) (hN : v.toNatClampNeg = N) (hby : N * 4 ≤ 536870912) (hmc : nc + 1 ≤ mc) (hms : ns + N ≤ ms) (hw : Cond.classLink k.1.cls idx C_To ∈ lw_gd) (hdg : decode k.2.1 pc = .ok (.anewarray idx, 3)) (h : AWo k d mc ms (pc + 3) lo (.ref n :: st) (zr δ n) (clr R n) (n + 1) (nc + 1) (ns + N) KK res) : AWo k d mc ms pc lo (.int v :: st) δ R n nc ns KK res := by
  intro r hr p l e s m args below meth c E B H locs ls hl hV hS ho hs
  subst hN
  have hn4 : 4 ≤ n := hV.1
  have hsz : H.size = rho E n := by rw [rho4 hn4]; exact hV.2.1
  refine W.anew (R := rmk d mc ms) B.1 B.2.1 B.2.2.2.2.2.1 (B.2.2.2.2.2.2.1 _ hw) (va_AO.use B.2.2.2.2.2.2.2.1.2.2.2.2.1.2.2) rfl hdg rfl h0 hby hmc hms (fun cA kA comp f1 f2 f3 f4 => ?_)
  have hcA : cA = eC E 7 := by
    obtain ⟨_, _, _, _, _, h2⟩ := (B.2.2.2.2.2.2.2.1.1.2 7 _ rfl).2
    exact Option.some.inj (f1.symm.trans h2)
  subst hcA
  generalize hH1 : H.push ({ cls := eC E 7, slots := Array.replicate v.toNatClampNeg .null, vm := .none } : Cell) = H1
  have z1 : H1.size = H.size + 1 := by rw [← hH1, Array.size_push]
  have e1 : H1[H.size]? = some (arrV (eC E 7) v.toNatClampNeg (fun _ => .null)) := by rw [← hH1, Array.getElem?_push_size, ← arrV_new]
  have o1 : ∀ q : Nat, q < H.size → H1[q]? = H[q]? := fun q hq => by rw [← hH1, Array.getElem?_push, if_neg (Nat.ne_of_lt hq)]
  have hv : (fun _ : Nat => Value.null) = val E (zr δ n) (clr R n) n := by
    funext j; simp [val, hk, gI_zr, gL_zr, clr, dR, va_rf]
  rw [hv, hsz] at e1
  rw [hsz]
  exact h r hr p l e s m args below meth c E B H1 _ ls hl (Vw_new hV z1 o1 (cat_ofArr hk (by decide) e1)) (hS_new hS z1 o1) (okl_up ho (by omega)) (oks_r (by omega) (oks_up (oks_t hs) (by omega)))
/-- what making an object wants -/
def NEW (own : String) (idx ci : Nat) : Prop := ∃ (C : String) (T : u_T) (ty0 : Nat → FieldType), classes[ci]? = some (C, T, nF ci) ∧ (∀ w ∈ u_ws C T (nF ci), w ∈ lw_gd) ∧ (∀ k, k < nF ci → parseFieldDescriptor (T k).2.2.1 = some (ty0 k)) ∧ (∀ j, j < nF ci → defaultValue (ty0 j) = if ftc ci j = 0 then .int 0 else .null) ∧ Cond.classLink own idx C ∈ lw_gd ∧ Cond.instantiable C (nF ci) ∈ lw_gd ∧ Cond.initialized C ∈ lw_gd
theorem aw_new (hf : NEW k.1.cls idx ci) (hk : KD n = (ci + 10, N)) (hN : nF ci = N) (hmc : nc + 1 ≤ mc) (hms : ns + N ≤ ms) (hdg : decode k.2.1 pc = .ok (.new idx, 3)) (h : AWo k d mc ms (pc + 3) lo (.ref n :: st) (zr δ n) (clr R n) (n + 1) (nc + 1) (ns + N) KK res) : AWo k d mc ms pc lo st δ R n nc ns KK res := by
  intro r hr p l e s m args below meth c E B H locs ls hl hV hS ho hs
  subst hN
  obtain ⟨C, T, ty0, hc, hin, hty, hdf, hcl, hi, hini⟩ := hf
  have hts := B.2.2.2.2.2.2.1
  have hn4 : 4 ≤ n := hV.1
  have hsz : H.size = rho E n := by rw [rho4 hn4]; exact hV.2.1
  have hKn := B.2.2.2.2.2.2.2.1.1.1 ci _ hc
  refine W.newcK (R := rmk d mc ms) B.1 B.2.1 B.2.2.2.2.2.1 (hts _ hcl) (hts _ hi) (hts _ hini) rfl hdg hmc hms hKn.2.1 hsz (fun H1 kC hkC e1 z oq => ?_)
  have hob := u_born ty0 hts hin hKn hkC e1 hty
  have hob2 : t_OB (rho E n) ((eD E).1 ci) (nF ci) ((eD E).2 ci) H1 (val E (zr δ n) (clr R n) n) := hob.to (fun j hj => by
    rw [hdf j hj]; simp only [val, hk, gI_zr, clr]
    by_cases h0 : ftc ci j = 0 <;> simp [h0, dR, va_rf] <;> omega)
  exact h r hr p l e s m args below meth c E B H1 _ ls hl (Vw_new hV (by rw [z, hsz]) (fun q hq => oq q (by omega)) (cat_ofObj hk hob2)) (hS_new hS (by rw [z, hsz]) (fun q hq => oq q (by omega))) (okl_up ho (by omega)) (oks_r (by omega) (oks_up hs (by omega)))
/-- Object.<init> -/
theorem aw_objInit {own : String} (h1 : Cond.methodLink k.1.cls idx objectInit ∈ lw_gd) (h2 : Cond.instanceMethod objectInit ∈ lw_gd) (h3 : Cond.code objectInit ⟨#[0xb1]⟩ 1 none ∈ lw_gd) (hst : (st.map fun v => v.category).sum ≤ 8) (hd : 1 ≤ d) (hdg : decode k.2.1 pc = .ok (.invokespecial idx, 3)) (h : AWo k d mc ms (pc + 3) lo st δ R n nc ns KK res) : AWo k d mc ms pc lo (.ref a :: st) δ R n nc ns KK res := by
  intro r hr p l e s m args below meth c E B H locs ls hl hV hS ho hs
  have hts := B.2.2.2.2.2.2.1
  refine W.objInit (R := rmk d mc ms) B.1 B.2.1 B.2.2.2.2.2.1 (hts _ h1) (hts _ h2) (hts _ h3) rfl (by rw [B.2.2.1]; exact hl.1) rfl hdg hd ?_ ?_
  · have : ((st.map (shv E)).map fun v => v.category) = st.map fun v => v.category := by simp [Function.comp_def, shv_cat]
    show 2 * 0 + ((st.map (shv E)).map fun v => v.category).sum + 12 ≤ 64 * d
    rw [this]; omega
  · exact h r hr p l e s m args below meth c E B H locs ls hl hV hS ho (oks_t hs)
end AMR
