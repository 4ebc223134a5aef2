noncomputable def FU : Nat := Classical.choose (⟨4294967297, by decide⟩ : ∃ x : Nat, 4294967296 < x)
theorem FU_big : 4294967296 < FU := Classical.choose_spec (⟨4294967297, by decide⟩ : ∃ x : Nat, 4294967296 < x)
theorem ay_1 : Cond.methodLink C_Fp 361 arraycopyName ∈ lw_gd := (lw_gdI 1153 (by decide +kernel) rfl)
theorem ay_2 : Cond.native arraycopyName ∈ lw_gd := (lw_gdI 1155 (by decide +kernel) rfl)
theorem ay_3 : Cond.static arraycopyName ∈ lw_gd := (lw_gdI 1154 (by decide +kernel) rfl)
theorem ay_4 : Cond.initialized "java/lang/System" ∈ lw_gd := (lw_gdI 111 (by decide +kernel) rfl)
theorem hS_locs {E : EV} {H0 H H1 : Heap} {locs L : List Loc} {a : Nat} (hS : va_S (AE E) H0 H locs) (z : H1.size = H.size) (oq : ∀ q : Nat, q ≠ rho E a → H1[q]? = H[q]?) (h4 : 4 ≤ a) (hL : ∀ q ∈ L, q.base = rho E a) : va_S (AE E) H0 H1 (locs ++ L) := ⟨by rw [z]; exact hS.1, fun q h1 h2 => by rw [oq q (fun e => h2 (by rw [e]; exact rho_A h4))]; exact hS.2.1 q h1 h2, fun q hq => by
  rcases List.mem_append.mp hq with h | h
  · exact hS.2.2 q h
  · rw [hL q h]; exact rho_A h4⟩
theorem val_cp {E : EV} {δ : Dm} {R : Rm} {a b c sp dp n : Nat} (h : c ≠ b) : val E (cpI δ a b sp dp n) R c = val E δ R c := by
  funext j; simp only [val, gI, gL, cpI, h, if_false]
section AMCP
variable {α : Type} {k : MI} {d mc ms pc nc ns n a b Na Nb idx : Nat} {lo : List (Nat × Value)} {st : List Value} {δ : Dm} {R : Rm} {KK : α → Ans} {res : Option α} {x : Int32}
theorem aw_copyI (hka : KD a = (1, Na)) (hkb : KD b = (1, Nb)) (h1 : Cond.methodLink k.1.cls idx arraycopyName ∈ lw_gd) (hW : (st.map fun v => v.category).sum ≤ 8) (hd : 1 ≤ d) (hdg : decode k.2.1 pc = .ok (.invokestatic idx, 3)) (h : AWo k d mc ms (pc + 3) lo st (cpI δ a b 0 0 (ix x)) R n nc ns KK res) : AWo k d mc ms pc lo (.int x :: .int 0 :: .ref b :: .int 0 :: .ref a :: st) δ R n nc ns KK (if 0 ≤ x.toInt ∧ x.toInt ≤ (Na : Int) ∧ x.toInt ≤ (Nb : Int) then res else none) := by
  intro r hr p l e s m args below meth c E B H locs ls hl hV hS ho hs
  by_cases q : 0 ≤ x.toInt ∧ x.toInt ≤ (Na : Int) ∧ x.toInt ≤ (Nb : Int)
  · rw [if_pos q] at hr
    have hts := B.2.2.2.2.2.2.1
    have a4 : 4 ≤ a := KD_lo (by rw [hka]; simp)
    have b4 : 4 ≤ b := KD_lo (by rw [hkb]; simp)
    have bn : b < n := oks_h (oks_t (oks_t hs))
    have an : a < n := oks_h (oks_t (oks_t (oks_t (oks_t hs))))
    have hca := cat_arr (hV.2.2.1 a a4 an) hka (by decide)
    have hcb := cat_arr (hV.2.2.1 b b4 bn) hkb (by decide)
    have hK := (B.2.2.2.2.2.2.2.1.1.2 1 _ rfl).1
    obtain ⟨-, k0, hk0, cm0, hkk0⟩ := hK Na (val E δ R a)
    obtain ⟨-, k1, hk1, cm1, hkk1⟩ := hK Nb (val E δ R b)
    have va1 : val E δ R a = fun j => .int (gI δ a j) := by funext j; simp [val, hka]
    have vb1 : val E δ R b = fun j => .int (gI δ b j) := by funext j; simp [val, hkb]
    have x0 : ¬ x < 0 := fun z => by have := Int32.lt_iff_toInt_lt.mp z; simp at this; omega
    have xn : (ix x : Int) = x.toInt := by show ((x.toInt.toNat : Nat) : Int) = x.toInt; omega
    have z0 : (0 : Int32).toNatClampNeg = 0 := rfl
    have z1 : (0 : Int32).toInt = 0 := rfl
    intro T hT X
    obtain ⟨vm', X', step⟩ := X.arraycopy B.1 B.2.2.2.2.2.1 (hts _ h1) (hts _ ay_2) (hts _ ay_3) (hts _ ay_4) (src := rho E a) (dst := rho E b) (cs := arrV (eC E 1) Na (val E δ R a)) (cd := arrV (eC E 1) Nb (val E δ R b)) (srcPos := 0) (destPos := 0) (n := x) (by rw [hT]; exact hca) (by rw [hT]; exact hcb)
      (fun _ h => by cases h) (fun _ h => by cases h) (fun h => by cases h) (fun h => by cases h) hk0 hk1 hkk0 hkk1 rfl (by decide) (by decide) x0
      (by rw [z1, arrV_size]; omega) (by rw [z1, arrV_size]; omega)
      (fun vm₁ _ i hi => by
        have hi2 : 0 + i < Na := by have : (i : Int) < (ix x : Int) := by exact_mod_cast hi
                                    omega
        have e1 : (arrV (eC E 1) Na (val E δ R a)).slots.getD ((0 : Int32).toNatClampNeg + i) .null = .int (gI δ a (0 + i)) := by
          rw [z0, Array.getD_eq_getD_getElem?, arrV_read _ _ hi2, va1]; rfl
        refine ⟨?_, ?_⟩
        · rw [e1]; rfl
        · rw [e1]; exact trivial)
      (g := F0 m pc ls (.int x :: .int 0 :: .ref (rho E b) :: .int 0 :: .ref (rho E a) :: st.map (shv E))) rfl (by rw [B.2.2.1]; exact hl.1) (rest := st.map (shv E)) rfl (by rw [B.2.1]; exact hdg) hd (by
        have : ((st.map (shv E)).map fun v => v.category).sum ≤ 8 := by rw [cat_map]; exact hW
        show 2 * 0 + _ + (nativeFrameWords "java/lang/System" "arraycopy" 5 + 11) ≤ 64 * d
        have h9 : nativeFrameWords "java/lang/System" "arraycopy" 5 ≤ 30 := by decide
        omega)
    have e1 : copied (arrV (eC E 1) Na (val E δ R a)) (arrV (eC E 1) Nb (val E δ R b)) 0 0 x = arrV (eC E 1) Nb (val E (cpI δ a b 0 0 (ix x)) R b) := by
      have hh := va_copied (fun z => Value.int z) (eC E 1) (eC E 1) (n0 := Na) (n1 := Nb) (sp := 0) (dp := 0) (n := ix x) (gI δ a) (gI δ b) (by omega)
      rw [va1, vb1]
      refine Eq.trans hh ?_
      congr 1
      funext j
      simp [val, hkb, gI, cpI]
      rfl
    rw [e1] at X' step
    generalize hnew : arrV (eC E 1) Nb (val E (cpI δ a b 0 0 (ix x)) R b) = cnew at X' step
    have hlb : rho E b < H.size := (Array.getElem?_eq_some_iff.mp hcb).1
    have hheap : ((T.setVm vm').setCell (rho E b) cnew).heap = H.setIfInBounds (rho E b) cnew := by rw [← hT]; rfl
    have oq : ∀ q : Nat, q ≠ rho E b → (H.setIfInBounds (rho E b) cnew)[q]? = H[q]? := fun q hq => by simp [Array.getElem?_setIfInBounds, Ne.symm hq]
    have hz : (H.setIfInBounds (rho E b) cnew).size = H.size := by simp
    have hV1 : Vw E (cpI δ a b 0 0 (ix x)) R n (H.setIfInBounds (rho E b) cnew) := Vw_put hV b4 hz oq (cat_ofArr hkb (by decide) (by rw [hnew]; simp [Array.getElem?_setIfInBounds, hlb])) (fun c hc => val_cp hc)
      ⟨hV.2.2.2.2.1.1, fun c j v hc hcn hdy hv => by
        by_cases e : c = b
        · rw [e, dyn_arr hkb (by decide)] at hdy; cases hdy
        · refine hV.2.2.2.2.1.2 c j v hc hcn hdy ?_
          simpa [gI, cpI, e] using hv⟩
      ⟨fun j hj => by rw [← hV.2.2.2.2.2.1 j hj]; show (if 0 = b then _ else _) = _; rw [if_neg (by omega)]; rfl, by rw [← hV.2.2.2.2.2.2]; show (if 1 = b then _ else _) = _; rw [if_neg (by omega)]; rfl⟩
    obtain ⟨t, a1, b1⟩ := h r hr p l e s m args below meth c E B _ _ ls hl hV1 (hS_locs hS hz oq b4 (fun q hq => by obtain ⟨z, -, hz⟩ := List.mem_map.mp hq; rw [← hz])) ho (oks_t (oks_t (oks_t (oks_t (oks_t hs))))) _ hheap X'
    exact ⟨t, step t a1, b1⟩
  · rw [if_neg q] at hr; cases hr
theorem aw_cr2 {x : α} {v : Int32} (hK : KK x = (some (.int v), δ, R, n)) (hret : k.2.2.2 = some .char) (hc : nc ≤ mc ∧ ns ≤ ms) (hdg : decode k.2.1 pc = .ok (.ireturn, 1)) : AWo k d mc ms pc lo [.int v] δ R n nc ns KK (if (v.toUInt32 % 65536).toInt32 = v then some x else none) := by
  intro r hr
  by_cases hz : (v.toUInt32 % 65536).toInt32 = v
  · rw [if_pos hz] at hr
    have hn : narrow .char (.int v) = .int v := by have h := pk_nc v; rwa [hz] at h
    exact aw_zret hK hret hn hc hdg r hr
  · rw [if_neg hz] at hr; cases hr
end AMCP
