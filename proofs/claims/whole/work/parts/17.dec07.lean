noncomputable section
def jp_Mo_clauseHere_300 (v9 : Int32) (s0_95 : Int32) (s0_282 : Int32) (y284 : Dm) (s0_300 : Int32) : Option (Int32 × Dm) := ((f_Mo_clauseOf s0_282 s0_300 y284).bind (fun y300 => bnd y300.1 (fun v300 => bnd y300.2 (fun δ_300 => (if v300 = 0 ∨ v300 = 1 then (some (v300, δ_300)) else none)))))
set_option maxHeartbeats 4000000 in
set_option maxRecDepth 100000 in
theorem tj_Mo_clauseHere_300 {n : Nat} (v9 : Int32) (s0_95 : Int32) (s0_282 : Int32) (y284 : Dm) (s0_300 : Int32) : AWo k_Mo_clauseHere 11 0 0 300 [(0, .ref 151), (1, .int v9), (2, .int s0_95), (3, .int s0_282)] [.int s0_300, .int s0_282, .ref 151] y284 RT n 0 0 (Km RT n) (jp_Mo_clauseHere_300 v9 s0_95 s0_282 y284 s0_300) := by
  unfold jp_Mo_clauseHere_300
  refine aw_V_m (As := [.int s0_282, .int s0_300]) (m_Mo_clauseOf) cv_Mo_232 kd_151 rfl rfl rfl (Nat.le_of_ble_eq_true rfl) ⟨Nat.le_of_ble_eq_true rfl, Nat.le_of_ble_eq_true rfl⟩ ⟨Nat.le_refl _, Nat.le_refl _⟩ d_Mo_clauseHere_300 (fun y300 => ?_)
  refine aw_bI (fun v300 => ?_)
  refine aw_bD (fun δ_300 => ?_)
  exact aw_zr2 rfl rfl ⟨Nat.le_refl _, Nat.le_refl _⟩ d_Mo_clauseHere_303
def jp_Mo_clauseHere_282 (v9 : Int32) (s0_95 : Int32) (s0_282 : Int32) (δ282 : Dm) : Option (Int32 × Dm) := ((f_Mo_passWord δ282).bind (fun y284 => (if s0_282 = (10 : Int32) then (jp_Mo_clauseHere_300 v9 s0_95 s0_282 y284 (1 : Int32)) else (jp_Mo_clauseHere_300 v9 s0_95 s0_282 y284 (0 : Int32)))))
set_option maxHeartbeats 4000000 in
set_option maxRecDepth 100000 in
theorem tj_Mo_clauseHere_282 {n : Nat} (v9 : Int32) (s0_95 : Int32) (s0_282 : Int32) (δ282 : Dm) : AWo k_Mo_clauseHere 11 0 0 282 [(0, .ref 151), (1, .int v9), (2, .int s0_95)] [.int s0_282] δ282 RT n 0 0 (Km RT n) (jp_Mo_clauseHere_282 v9 s0_95 s0_282 δ282) := by
  unfold jp_Mo_clauseHere_282
  refine aw_istore_n (lo' := [(3, .int s0_282), (0, .ref 151), (1, .int v9), (2, .int s0_95)]) d_Mo_clauseHere_282 rfl (by decide) rfl ?_
  refine aw_aload_n d_Mo_clauseHere_283 1 rfl ?_
  refine aw_V_v (As := []) (m_Mo_passWord) cv_Mo_104 kd_151 rfl rfl rfl (Nat.le_of_ble_eq_true rfl) ⟨Nat.le_of_ble_eq_true rfl, Nat.le_of_ble_eq_true rfl⟩ ⟨Nat.le_refl _, Nat.le_refl _⟩ d_Mo_clauseHere_284 (fun y284 => ?_)
  refine aw_aload_n d_Mo_clauseHere_287 1 rfl ?_
  refine aw_iload_n d_Mo_clauseHere_288 0 rfl ?_
  refine aw_iload_n d_Mo_clauseHere_289 0 rfl ?_
  refine aw_bipush d_Mo_clauseHere_290 kb_10 ?_
  refine aw_icmp_ne (tgt := 299) d_Mo_clauseHere_292 rfl (fun q292 => ?_) (fun q292 => ?_)
  · refine aw_iconst d_Mo_clauseHere_295 ki_1 ?_
    refine aw_goto (tgt := 300) d_Mo_clauseHere_296 rfl ?_
    refine aw_sub (lo' := [(0, .ref 151), (1, .int v9), (2, .int s0_95), (3, .int s0_282)]) [1, 2, 3, 0] rfl ?_
    exact tj_Mo_clauseHere_300 _ _ _ _ _
  · refine aw_iconst d_Mo_clauseHere_299 ki_0 ?_
    refine aw_sub (lo' := [(0, .ref 151), (1, .int v9), (2, .int s0_95), (3, .int s0_282)]) [1, 2, 3, 0] rfl ?_
    exact tj_Mo_clauseHere_300 _ _ _ _ _
def jp_Mo_clauseHere_95 (v9 : Int32) (s0_95 : Int32) (δ95 : Dm) : Option (Int32 × Dm) := (if s0_95 = 0 then ((f_Mo_fails (0 : Int32) v9 δ95).bind (fun y103 => bnd y103.1 (fun v103 => bnd y103.2 (fun δ_103 => (if v103 = 0 ∨ v103 = 1 then (some (v103, δ_103)) else none))))) else (if (gI δ95 151 15) = (14 : Int32) then ((f_Mo_fails (4 : Int32) v9 δ95).bind (fun y119 => bnd y119.1 (fun v119 => bnd y119.2 (fun δ_119 => (if v119 = 0 ∨ v119 = 1 then (some (v119, δ_119)) else none))))) else (bnd (sI δ95 151 15 ((gI δ95 151 15) + (1 : Int32))) (fun δ_130 => ((f_Mo_isWord (2003132779 : Int64) δ_130).bind (fun y137 => bnd y137.1 (fun v137 => bnd y137.2 (fun δ_137 => (if v137 = 0 then ((f_Mo_isWord (1953067621 : Int64) δ_137).bind (fun y152 => bnd y152.1 (fun v152 => bnd y152.2 (fun δ_152 => (if v152 = 0 then ((f_Mo_isWord (6383461 : Int64) δ_152).bind (fun y187 => bnd y187.1 (fun v187 => bnd y187.2 (fun δ_187 => (if v187 = 0 then ((f_Mo_isWord (1684107883 : Int64) δ_187).bind (fun y224 => bnd y224.1 (fun v224 => bnd y224.2 (fun δ_224 => (if v224 = 0 then ((f_Mo_isWord (7300710 : Int64) δ_224).bind (fun y239 => bnd y239.1 (fun v239 => bnd y239.2 (fun δ_239 => (if v239 = 0 then ((f_Mo_isWord (125779836236645 : Int64) δ_239).bind (fun y254 => bnd y254.1 (fun v254 => bnd y254.2 (fun δ_254 => (if v254 = 0 then ((f_Mo_isWord (125779836235364 : Int64) δ_254).bind (fun y269 => bnd y269.1 (fun v269 => bnd y269.2 (fun δ_269 => (if v269 = 0 then (jp_Mo_clauseHere_282 v9 s0_95 (10 : Int32) δ_269) else (jp_Mo_clauseHere_282 v9 s0_95 (9 : Int32) δ_269)))))) else (jp_Mo_clauseHere_282 v9 s0_95 (8 : Int32) δ_254)))))) else (jp_Mo_clauseHere_282 v9 s0_95 (7 : Int32) δ_239)))))) else (jp_Mo_clauseHere_282 v9 s0_95 (6 : Int32) δ_224)))))) else ((f_Mo_bathHere δ_187).bind (fun y194 => bnd y194.1 (fun v194 => bnd y194.2 (fun δ_194 => (if v194 = 0 then (some ((0 : Int32), δ_194)) else ((f_Mo_clauseOf ((3 : Int32) + (gI δ_194 151 11)) (1 : Int32) δ_194).bind (fun y208 => bnd y208.1 (fun v208 => bnd y208.2 (fun δ_208 => (if v208 = 0 then (some ((0 : Int32), δ_208)) else (some ((1 : Int32), δ_208))))))))))))))))) else ((f_Mo_bathHere δ_152).bind (fun y159 => bnd y159.1 (fun v159 => bnd y159.2 (fun δ_159 => (if v159 = 0 then (some ((0 : Int32), δ_159)) else ((f_Mo_clauseOf (gI δ_159 151 11) (1 : Int32) δ_159).bind (fun y171 => bnd y171.1 (fun v171 => bnd y171.2 (fun δ_171 => (if v171 = 0 then (some ((0 : Int32), δ_171)) else (some ((1 : Int32), δ_171))))))))))))))))) else ((f_Mo_weakHere δ_137).bind (fun y144 => bnd y144.1 (fun v144 => bnd y144.2 (fun δ_144 => (if v144 = 0 ∨ v144 = 1 then (some (v144, δ_144)) else none))))))))))))))
set_option maxHeartbeats 4000000 in
set_option maxRecDepth 100000 in
theorem tj_Mo_clauseHere_95 {n : Nat} (v9 : Int32) (s0_95 : Int32) (δ95 : Dm) : AWo k_Mo_clauseHere 11 0 0 95 [(0, .ref 151), (1, .int v9)] [.int s0_95] δ95 RT n 0 0 (Km RT n) (jp_Mo_clauseHere_95 v9 s0_95 δ95) := by
  unfold jp_Mo_clauseHere_95
  refine aw_istore_n (lo' := [(2, .int s0_95), (0, .ref 151), (1, .int v9)]) d_Mo_clauseHere_95 rfl (by decide) rfl ?_
  refine aw_iload_n d_Mo_clauseHere_96 0 rfl ?_
  refine aw_if_ne (tgt := 107) d_Mo_clauseHere_97 rfl (fun q97 => ?_) (fun q97 => ?_)
  · refine aw_aload_n d_Mo_clauseHere_100 1 rfl ?_
    refine aw_iconst d_Mo_clauseHere_101 ki_0 ?_
    refine aw_iload_n d_Mo_clauseHere_102 2 rfl ?_
    refine aw_V_m (As := [.int (0 : Int32), .int v9]) (m_Mo_fails) cv_Mo_110 kd_151 rfl rfl rfl (Nat.le_of_ble_eq_true rfl) ⟨Nat.le_of_ble_eq_true rfl, Nat.le_of_ble_eq_true rfl⟩ ⟨Nat.le_refl _, Nat.le_refl _⟩ d_Mo_clauseHere_103 (fun y103 => ?_)
    refine aw_bI (fun v103 => ?_)
    refine aw_bD (fun δ_103 => ?_)
    exact aw_zr2 rfl rfl ⟨Nat.le_refl _, Nat.le_refl _⟩ d_Mo_clauseHere_106
  · refine aw_aload_n d_Mo_clauseHere_107 1 rfl ?_
    refine aw_getI fl_Mo_223 kd_151 d_Mo_clauseHere_108 ?_
    refine aw_bipush d_Mo_clauseHere_111 kb_14 ?_
    refine aw_icmp_ne (tgt := 123) d_Mo_clauseHere_113 rfl (fun q113 => ?_) (fun q113 => ?_)
    · refine aw_aload_n d_Mo_clauseHere_116 1 rfl ?_
      refine aw_iconst d_Mo_clauseHere_117 ki_4 ?_
      refine aw_iload_n d_Mo_clauseHere_118 2 rfl ?_
      refine aw_V_m (As := [.int (4 : Int32), .int v9]) (m_Mo_fails) cv_Mo_110 kd_151 rfl rfl rfl (Nat.le_of_ble_eq_true rfl) ⟨Nat.le_of_ble_eq_true rfl, Nat.le_of_ble_eq_true rfl⟩ ⟨Nat.le_refl _, Nat.le_refl _⟩ d_Mo_clauseHere_119 (fun y119 => ?_)
      refine aw_bI (fun v119 => ?_)
      refine aw_bD (fun δ_119 => ?_)
      exact aw_zr2 rfl rfl ⟨Nat.le_refl _, Nat.le_refl _⟩ d_Mo_clauseHere_122
    · refine aw_aload_n d_Mo_clauseHere_123 1 rfl ?_
      refine aw_dup d_Mo_clauseHere_124 rfl ?_
      refine aw_getI fl_Mo_223 kd_151 d_Mo_clauseHere_125 ?_
      refine aw_iconst d_Mo_clauseHere_128 ki_1 ?_
      refine aw_iadd d_Mo_clauseHere_129 ?_
      refine aw_putI pf_Mo_223 kd_151 d_Mo_clauseHere_130 ?_
      refine aw_bD (fun δ_130 => ?_)
      refine aw_aload_n d_Mo_clauseHere_133 1 rfl ?_
      refine aw_ldc2 (v := (2003132779 : Int64)) d_Mo_clauseHere_134 kc_Mo_211 ?_
      refine aw_V_m (As := [.long (2003132779 : Int64)]) (m_Mo_isWord) cv_Mo_100 kd_151 rfl rfl rfl (Nat.le_of_ble_eq_true rfl) ⟨Nat.le_of_ble_eq_true rfl, Nat.le_of_ble_eq_true rfl⟩ ⟨Nat.le_refl _, Nat.le_refl _⟩ d_Mo_clauseHere_137 (fun y137 => ?_)
      refine aw_bI (fun v137 => ?_)
      refine aw_bD (fun δ_137 => ?_)
      refine aw_if_eq (tgt := 148) d_Mo_clauseHere_140 rfl (fun q140 => ?_) (fun q140 => ?_)
      · refine aw_aload_n d_Mo_clauseHere_148 1 rfl ?_
        refine aw_ldc2 (v := (1953067621 : Int64)) d_Mo_clauseHere_149 kc_Mo_207 ?_
        refine aw_V_m (As := [.long (1953067621 : Int64)]) (m_Mo_isWord) cv_Mo_100 kd_151 rfl rfl rfl (Nat.le_of_ble_eq_true rfl) ⟨Nat.le_of_ble_eq_true rfl, Nat.le_of_ble_eq_true rfl⟩ ⟨Nat.le_refl _, Nat.le_refl _⟩ d_Mo_clauseHere_152 (fun y152 => ?_)
        refine aw_bI (fun v152 => ?_)
        refine aw_bD (fun δ_152 => ?_)
        refine aw_if_eq (tgt := 183) d_Mo_clauseHere_155 rfl (fun q155 => ?_) (fun q155 => ?_)
        · refine aw_aload_n d_Mo_clauseHere_183 1 rfl ?_
          refine aw_ldc2 (v := (6383461 : Int64)) d_Mo_clauseHere_184 kc_Mo_209 ?_
          refine aw_V_m (As := [.long (6383461 : Int64)]) (m_Mo_isWord) cv_Mo_100 kd_151 rfl rfl rfl (Nat.le_of_ble_eq_true rfl) ⟨Nat.le_of_ble_eq_true rfl, Nat.le_of_ble_eq_true rfl⟩ ⟨Nat.le_refl _, Nat.le_refl _⟩ d_Mo_clauseHere_187 (fun y187 => ?_)
          refine aw_bI (fun v187 => ?_)
          refine aw_bD (fun δ_187 => ?_)
          refine aw_if_eq (tgt := 220) d_Mo_clauseHere_190 rfl (fun q190 => ?_) (fun q190 => ?_)
          · refine aw_aload_n d_Mo_clauseHere_220 1 rfl ?_
            refine aw_ldc2 (v := (1684107883 : Int64)) d_Mo_clauseHere_221 kc_Mo_213 ?_
            refine aw_V_m (As := [.long (1684107883 : Int64)]) (m_Mo_isWord) cv_Mo_100 kd_151 rfl rfl rfl (Nat.le_of_ble_eq_true rfl) ⟨Nat.le_of_ble_eq_true rfl, Nat.le_of_ble_eq_true rfl⟩ ⟨Nat.le_refl _, Nat.le_refl _⟩ d_Mo_clauseHere_224 (fun y224 => ?_)
            refine aw_bI (fun v224 => ?_)
            refine aw_bD (fun δ_224 => ?_)
            refine aw_if_eq (tgt := 235) d_Mo_clauseHere_227 rfl (fun q227 => ?_) (fun q227 => ?_)
            · refine aw_aload_n d_Mo_clauseHere_235 1 rfl ?_
              refine aw_ldc2 (v := (7300710 : Int64)) d_Mo_clauseHere_236 kc_Mo_215 ?_
              refine aw_V_m (As := [.long (7300710 : Int64)]) (m_Mo_isWord) cv_Mo_100 kd_151 rfl rfl rfl (Nat.le_of_ble_eq_true rfl) ⟨Nat.le_of_ble_eq_true rfl, Nat.le_of_ble_eq_true rfl⟩ ⟨Nat.le_refl _, Nat.le_refl _⟩ d_Mo_clauseHere_239 (fun y239 => ?_)
              refine aw_bI (fun v239 => ?_)
              refine aw_bD (fun δ_239 => ?_)
              refine aw_if_eq (tgt := 250) d_Mo_clauseHere_242 rfl (fun q242 => ?_) (fun q242 => ?_)
              · refine aw_aload_n d_Mo_clauseHere_250 1 rfl ?_
                refine aw_ldc2 (v := (125779836236645 : Int64)) d_Mo_clauseHere_251 kc_Mo_217 ?_
                refine aw_V_m (As := [.long (125779836236645 : Int64)]) (m_Mo_isWord) cv_Mo_100 kd_151 rfl rfl rfl (Nat.le_of_ble_eq_true rfl) ⟨Nat.le_of_ble_eq_true rfl, Nat.le_of_ble_eq_true rfl⟩ ⟨Nat.le_refl _, Nat.le_refl _⟩ d_Mo_clauseHere_254 (fun y254 => ?_)
                refine aw_bI (fun v254 => ?_)
                refine aw_bD (fun δ_254 => ?_)
                refine aw_if_eq (tgt := 265) d_Mo_clauseHere_257 rfl (fun q257 => ?_) (fun q257 => ?_)
                · refine aw_aload_n d_Mo_clauseHere_265 1 rfl ?_
                  refine aw_ldc2 (v := (125779836235364 : Int64)) d_Mo_clauseHere_266 kc_Mo_219 ?_
                  refine aw_V_m (As := [.long (125779836235364 : Int64)]) (m_Mo_isWord) cv_Mo_100 kd_151 rfl rfl rfl (Nat.le_of_ble_eq_true rfl) ⟨Nat.le_of_ble_eq_true rfl, Nat.le_of_ble_eq_true rfl⟩ ⟨Nat.le_refl _, Nat.le_refl _⟩ d_Mo_clauseHere_269 (fun y269 => ?_)
                  refine aw_bI (fun v269 => ?_)
                  refine aw_bD (fun δ_269 => ?_)
                  refine aw_if_eq (tgt := 280) d_Mo_clauseHere_272 rfl (fun q272 => ?_) (fun q272 => ?_)
                  · refine aw_bipush d_Mo_clauseHere_280 kb_10 ?_
                    refine aw_sub (lo' := [(0, .ref 151), (1, .int v9), (2, .int s0_95)]) [1, 2, 0] rfl ?_
                    exact tj_Mo_clauseHere_282 _ _ _ _
                  · refine aw_bipush d_Mo_clauseHere_275 kb_9 ?_
                    refine aw_goto (tgt := 282) d_Mo_clauseHere_277 rfl ?_
                    refine aw_sub (lo' := [(0, .ref 151), (1, .int v9), (2, .int s0_95)]) [1, 2, 0] rfl ?_
                    exact tj_Mo_clauseHere_282 _ _ _ _
                · refine aw_bipush d_Mo_clauseHere_260 kb_8 ?_
                  refine aw_goto (tgt := 282) d_Mo_clauseHere_262 rfl ?_
                  refine aw_sub (lo' := [(0, .ref 151), (1, .int v9), (2, .int s0_95)]) [1, 2, 0] rfl ?_
                  exact tj_Mo_clauseHere_282 _ _ _ _
              · refine aw_bipush d_Mo_clauseHere_245 kb_7 ?_
                refine aw_goto (tgt := 282) d_Mo_clauseHere_247 rfl ?_
                refine aw_sub (lo' := [(0, .ref 151), (1, .int v9), (2, .int s0_95)]) [1, 2, 0] rfl ?_
                exact tj_Mo_clauseHere_282 _ _ _ _
            · refine aw_bipush d_Mo_clauseHere_230 kb_6 ?_
              refine aw_goto (tgt := 282) d_Mo_clauseHere_232 rfl ?_
              refine aw_sub (lo' := [(0, .ref 151), (1, .int v9), (2, .int s0_95)]) [1, 2, 0] rfl ?_
              exact tj_Mo_clauseHere_282 _ _ _ _
          · refine aw_aload_n d_Mo_clauseHere_193 1 rfl ?_
            refine aw_V_m (As := []) (m_Mo_bathHere) cv_Mo_229 kd_151 rfl rfl rfl (Nat.le_of_ble_eq_true rfl) ⟨Nat.le_of_ble_eq_true rfl, Nat.le_of_ble_eq_true rfl⟩ ⟨Nat.le_refl _, Nat.le_refl _⟩ d_Mo_clauseHere_194 (fun y194 => ?_)
            refine aw_bI (fun v194 => ?_)
            refine aw_bD (fun δ_194 => ?_)
            refine aw_if_eq (tgt := 218) d_Mo_clauseHere_197 rfl (fun q197 => ?_) (fun q197 => ?_)
            · refine aw_iconst d_Mo_clauseHere_218 ki_0 ?_
              exact aw_zret rfl rfl rfl ⟨Nat.le_refl _, Nat.le_refl _⟩ d_Mo_clauseHere_219
            · refine aw_aload_n d_Mo_clauseHere_200 1 rfl ?_
              refine aw_iconst d_Mo_clauseHere_201 ki_3 ?_
              refine aw_aload_n d_Mo_clauseHere_202 1 rfl ?_
              refine aw_getI fl_Mo_114 kd_151 d_Mo_clauseHere_203 ?_
              refine aw_iadd d_Mo_clauseHere_206 ?_
              refine aw_iconst d_Mo_clauseHere_207 ki_1 ?_
              refine aw_V_m (As := [.int ((3 : Int32) + (gI δ_194 151 11)), .int (1 : Int32)]) (m_Mo_clauseOf) cv_Mo_232 kd_151 rfl rfl rfl (Nat.le_of_ble_eq_true rfl) ⟨Nat.le_of_ble_eq_true rfl, Nat.le_of_ble_eq_true rfl⟩ ⟨Nat.le_refl _, Nat.le_refl _⟩ d_Mo_clauseHere_208 (fun y208 => ?_)
              refine aw_bI (fun v208 => ?_)
              refine aw_bD (fun δ_208 => ?_)
              refine aw_if_eq (tgt := 218) d_Mo_clauseHere_211 rfl (fun q211 => ?_) (fun q211 => ?_)
              · refine aw_iconst d_Mo_clauseHere_218 ki_0 ?_
                exact aw_zret rfl rfl rfl ⟨Nat.le_refl _, Nat.le_refl _⟩ d_Mo_clauseHere_219
              · refine aw_iconst d_Mo_clauseHere_214 ki_1 ?_
                refine aw_goto (tgt := 219) d_Mo_clauseHere_215 rfl ?_
                exact aw_zret rfl rfl rfl ⟨Nat.le_refl _, Nat.le_refl _⟩ d_Mo_clauseHere_219
        · refine aw_aload_n d_Mo_clauseHere_158 1 rfl ?_
          refine aw_V_m (As := []) (m_Mo_bathHere) cv_Mo_229 kd_151 rfl rfl rfl (Nat.le_of_ble_eq_true rfl) ⟨Nat.le_of_ble_eq_true rfl, Nat.le_of_ble_eq_true rfl⟩ ⟨Nat.le_refl _, Nat.le_refl _⟩ d_Mo_clauseHere_159 (fun y159 => ?_)
          refine aw_bI (fun v159 => ?_)
          refine aw_bD (fun δ_159 => ?_)
          refine aw_if_eq (tgt := 181) d_Mo_clauseHere_162 rfl (fun q162 => ?_) (fun q162 => ?_)
          · refine aw_iconst d_Mo_clauseHere_181 ki_0 ?_
            exact aw_zret rfl rfl rfl ⟨Nat.le_refl _, Nat.le_refl _⟩ d_Mo_clauseHere_182
          · refine aw_aload_n d_Mo_clauseHere_165 1 rfl ?_
            refine aw_aload_n d_Mo_clauseHere_166 1 rfl ?_
            refine aw_getI fl_Mo_114 kd_151 d_Mo_clauseHere_167 ?_
            refine aw_iconst d_Mo_clauseHere_170 ki_1 ?_
            refine aw_V_m (As := [.int (gI δ_159 151 11), .int (1 : Int32)]) (m_Mo_clauseOf) cv_Mo_232 kd_151 rfl rfl rfl (Nat.le_of_ble_eq_true rfl) ⟨Nat.le_of_ble_eq_true rfl, Nat.le_of_ble_eq_true rfl⟩ ⟨Nat.le_refl _, Nat.le_refl _⟩ d_Mo_clauseHere_171 (fun y171 => ?_)
            refine aw_bI (fun v171 => ?_)
            refine aw_bD (fun δ_171 => ?_)
            refine aw_if_eq (tgt := 181) d_Mo_clauseHere_174 rfl (fun q174 => ?_) (fun q174 => ?_)
            · refine aw_iconst d_Mo_clauseHere_181 ki_0 ?_
              exact aw_zret rfl rfl rfl ⟨Nat.le_refl _, Nat.le_refl _⟩ d_Mo_clauseHere_182
            · refine aw_iconst d_Mo_clauseHere_177 ki_1 ?_
              refine aw_goto (tgt := 182) d_Mo_clauseHere_178 rfl ?_
              exact aw_zret rfl rfl rfl ⟨Nat.le_refl _, Nat.le_refl _⟩ d_Mo_clauseHere_182
      · refine aw_aload_n d_Mo_clauseHere_143 1 rfl ?_
        refine aw_V_m (As := []) (m_Mo_weakHere) cv_Mo_226 kd_151 rfl rfl rfl (Nat.le_of_ble_eq_true rfl) ⟨Nat.le_of_ble_eq_true rfl, Nat.le_of_ble_eq_true rfl⟩ ⟨Nat.le_refl _, Nat.le_refl _⟩ d_Mo_clauseHere_144 (fun y144 => ?_)
        refine aw_bI (fun v144 => ?_)
        refine aw_bD (fun δ_144 => ?_)
        exact aw_zr2 rfl rfl ⟨Nat.le_refl _, Nat.le_refl _⟩ d_Mo_clauseHere_147
def jp_Mo_clauseHere_90 (v9 : Int32) (δ90 : Dm) : Option (Int32 × Dm) := (jp_Mo_clauseHere_95 v9 (1 : Int32) δ90)
set_option maxHeartbeats 4000000 in
set_option maxRecDepth 100000 in
theorem tj_Mo_clauseHere_90 {n : Nat} (v9 : Int32) (δ90 : Dm) : AWo k_Mo_clauseHere 11 0 0 90 [(0, .ref 151), (1, .int v9)] [] δ90 RT n 0 0 (Km RT n) (jp_Mo_clauseHere_90 v9 δ90) := by
  unfold jp_Mo_clauseHere_90
  refine aw_iconst d_Mo_clauseHere_90 ki_1 ?_
  refine aw_goto (tgt := 95) d_Mo_clauseHere_91 rfl ?_
  refine aw_sub (lo' := [(0, .ref 151), (1, .int v9)]) [0, 1] rfl ?_
  exact tj_Mo_clauseHere_95 _ _ _
def f_Mo_clauseHere (δ : Dm) : Option (Int32 × Dm) := ((f_Mo_see δ).bind (fun y1 => bnd y1.1 (fun v1 => bnd y1.2 (fun δ_1 => (bnd (gI δ_1 151 9) (fun v9 => ((f_Mo_isWord (1953067621 : Int64) δ_1).bind (fun y14 => bnd y14.1 (fun v14 => bnd y14.2 (fun δ_14 => (if v14 = 0 then ((f_Mo_isWord (6383461 : Int64) δ_14).bind (fun y24 => bnd y24.1 (fun v24 => bnd y24.2 (fun δ_24 => (if v24 = 0 then ((f_Mo_isWord (2003132779 : Int64) δ_24).bind (fun y34 => bnd y34.1 (fun v34 => bnd y34.2 (fun δ_34 => (if v34 = 0 then ((f_Mo_isWord (1684107883 : Int64) δ_34).bind (fun y44 => bnd y44.1 (fun v44 => bnd y44.2 (fun δ_44 => (if v44 = 0 then ((f_Mo_isWord (7300710 : Int64) δ_44).bind (fun y54 => bnd y54.1 (fun v54 => bnd y54.2 (fun δ_54 => (if v54 = 0 then ((f_Mo_isWord (125779836236645 : Int64) δ_54).bind (fun y64 => bnd y64.1 (fun v64 => bnd y64.2 (fun δ_64 => (if v64 = 0 then ((f_Mo_isWord (125779836235364 : Int64) δ_64).bind (fun y74 => bnd y74.1 (fun v74 => bnd y74.2 (fun δ_74 => (if v74 = 0 then ((f_Mo_isWord (1919250036 : Int64) δ_74).bind (fun y84 => bnd y84.1 (fun v84 => bnd y84.2 (fun δ_84 => (if v84 = 0 then (jp_Mo_clauseHere_95 v9 (0 : Int32) δ_84) else (jp_Mo_clauseHere_90 v9 δ_84)))))) else (jp_Mo_clauseHere_90 v9 δ_74)))))) else (jp_Mo_clauseHere_90 v9 δ_64)))))) else (jp_Mo_clauseHere_90 v9 δ_54)))))) else (jp_Mo_clauseHere_90 v9 δ_44)))))) else (jp_Mo_clauseHere_90 v9 δ_34)))))) else (jp_Mo_clauseHere_90 v9 δ_24)))))) else (jp_Mo_clauseHere_90 v9 δ_14))))))))))))
set_option maxHeartbeats 4000000 in
set_option maxRecDepth 100000 in
theorem m_Mo_clauseHere {δ : Dm} {n : Nat} : ∀ x, f_Mo_clauseHere δ = some x → AMet k_Mo_clauseHere 11 0 0 [.ref 151] δ RT n (Km RT n x) := by
  refine aw_start (lo := [(0, .ref 151)]) mok_Mo_clauseHere rfl (Nat.le_of_ble_eq_true rfl) ?_
  unfold f_Mo_clauseHere
  refine aw_aload_n d_Mo_clauseHere_0 0 rfl ?_
  refine aw_V_m (As := []) (m_Mo_see) cv_Mo_93 kd_151 rfl rfl rfl (Nat.le_of_ble_eq_true rfl) ⟨Nat.le_of_ble_eq_true rfl, Nat.le_of_ble_eq_true rfl⟩ ⟨Nat.le_refl _, Nat.le_refl _⟩ d_Mo_clauseHere_1 (fun y1 => ?_)
  refine aw_bI (fun v1 => ?_)
  refine aw_bD (fun δ_1 => ?_)
  refine aw_pop d_Mo_clauseHere_4 rfl ?_
  refine aw_aload_n d_Mo_clauseHere_5 0 rfl ?_
  refine aw_getI fl_Mo_90 kd_151 d_Mo_clauseHere_6 ?_
  refine aw_bI (fun v9 => ?_)
  refine aw_istore_n (lo' := [(1, .int v9), (0, .ref 151)]) d_Mo_clauseHere_9 rfl (by decide) rfl ?_
  refine aw_aload_n d_Mo_clauseHere_10 1 rfl ?_
  refine aw_ldc2 (v := (1953067621 : Int64)) d_Mo_clauseHere_11 kc_Mo_207 ?_
  refine aw_V_m (As := [.long (1953067621 : Int64)]) (m_Mo_isWord) cv_Mo_100 kd_151 rfl rfl rfl (Nat.le_of_ble_eq_true rfl) ⟨Nat.le_of_ble_eq_true rfl, Nat.le_of_ble_eq_true rfl⟩ ⟨Nat.le_refl _, Nat.le_refl _⟩ d_Mo_clauseHere_14 (fun y14 => ?_)
  refine aw_bI (fun v14 => ?_)
  refine aw_bD (fun δ_14 => ?_)
  refine aw_if_ne (tgt := 90) d_Mo_clauseHere_17 rfl (fun q17 => ?_) (fun q17 => ?_)
  · refine aw_aload_n d_Mo_clauseHere_20 1 rfl ?_
    refine aw_ldc2 (v := (6383461 : Int64)) d_Mo_clauseHere_21 kc_Mo_209 ?_
    refine aw_V_m (As := [.long (6383461 : Int64)]) (m_Mo_isWord) cv_Mo_100 kd_151 rfl rfl rfl (Nat.le_of_ble_eq_true rfl) ⟨Nat.le_of_ble_eq_true rfl, Nat.le_of_ble_eq_true rfl⟩ ⟨Nat.le_refl _, Nat.le_refl _⟩ d_Mo_clauseHere_24 (fun y24 => ?_)
    refine aw_bI (fun v24 => ?_)
    refine aw_bD (fun δ_24 => ?_)
    refine aw_if_ne (tgt := 90) d_Mo_clauseHere_27 rfl (fun q27 => ?_) (fun q27 => ?_)
    · refine aw_aload_n d_Mo_clauseHere_30 1 rfl ?_
      refine aw_ldc2 (v := (2003132779 : Int64)) d_Mo_clauseHere_31 kc_Mo_211 ?_
      refine aw_V_m (As := [.long (2003132779 : Int64)]) (m_Mo_isWord) cv_Mo_100 kd_151 rfl rfl rfl (Nat.le_of_ble_eq_true rfl) ⟨Nat.le_of_ble_eq_true rfl, Nat.le_of_ble_eq_true rfl⟩ ⟨Nat.le_refl _, Nat.le_refl _⟩ d_Mo_clauseHere_34 (fun y34 => ?_)
      refine aw_bI (fun v34 => ?_)
      refine aw_bD (fun δ_34 => ?_)
      refine aw_if_ne (tgt := 90) d_Mo_clauseHere_37 rfl (fun q37 => ?_) (fun q37 => ?_)
      · refine aw_aload_n d_Mo_clauseHere_40 1 rfl ?_
        refine aw_ldc2 (v := (1684107883 : Int64)) d_Mo_clauseHere_41 kc_Mo_213 ?_
        refine aw_V_m (As := [.long (1684107883 : Int64)]) (m_Mo_isWord) cv_Mo_100 kd_151 rfl rfl rfl (Nat.le_of_ble_eq_true rfl) ⟨Nat.le_of_ble_eq_true rfl, Nat.le_of_ble_eq_true rfl⟩ ⟨Nat.le_refl _, Nat.le_refl _⟩ d_Mo_clauseHere_44 (fun y44 => ?_)
        refine aw_bI (fun v44 => ?_)
        refine aw_bD (fun δ_44 => ?_)
        refine aw_if_ne (tgt := 90) d_Mo_clauseHere_47 rfl (fun q47 => ?_) (fun q47 => ?_)
        · refine aw_aload_n d_Mo_clauseHere_50 1 rfl ?_
          refine aw_ldc2 (v := (7300710 : Int64)) d_Mo_clauseHere_51 kc_Mo_215 ?_
          refine aw_V_m (As := [.long (7300710 : Int64)]) (m_Mo_isWord) cv_Mo_100 kd_151 rfl rfl rfl (Nat.le_of_ble_eq_true rfl) ⟨Nat.le_of_ble_eq_true rfl, Nat.le_of_ble_eq_true rfl⟩ ⟨Nat.le_refl _, Nat.le_refl _⟩ d_Mo_clauseHere_54 (fun y54 => ?_)
          refine aw_bI (fun v54 => ?_)
          refine aw_bD (fun δ_54 => ?_)
          refine aw_if_ne (tgt := 90) d_Mo_clauseHere_57 rfl (fun q57 => ?_) (fun q57 => ?_)
          · refine aw_aload_n d_Mo_clauseHere_60 1 rfl ?_
            refine aw_ldc2 (v := (125779836236645 : Int64)) d_Mo_clauseHere_61 kc_Mo_217 ?_
            refine aw_V_m (As := [.long (125779836236645 : Int64)]) (m_Mo_isWord) cv_Mo_100 kd_151 rfl rfl rfl (Nat.le_of_ble_eq_true rfl) ⟨Nat.le_of_ble_eq_true rfl, Nat.le_of_ble_eq_true rfl⟩ ⟨Nat.le_refl _, Nat.le_refl _⟩ d_Mo_clauseHere_64 (fun y64 => ?_)
            refine aw_bI (fun v64 => ?_)
            refine aw_bD (fun δ_64 => ?_)
            refine aw_if_ne (tgt := 90) d_Mo_clauseHere_67 rfl (fun q67 => ?_) (fun q67 => ?_)
            · refine aw_aload_n d_Mo_clauseHere_70 1 rfl ?_
              refine aw_ldc2 (v := (125779836235364 : Int64)) d_Mo_clauseHere_71 kc_Mo_219 ?_
              refine aw_V_m (As := [.long (125779836235364 : Int64)]) (m_Mo_isWord) cv_Mo_100 kd_151 rfl rfl rfl (Nat.le_of_ble_eq_true rfl) ⟨Nat.le_of_ble_eq_true rfl, Nat.le_of_ble_eq_true rfl⟩ ⟨Nat.le_refl _, Nat.le_refl _⟩ d_Mo_clauseHere_74 (fun y74 => ?_)
              refine aw_bI (fun v74 => ?_)
              refine aw_bD (fun δ_74 => ?_)
              refine aw_if_ne (tgt := 90) d_Mo_clauseHere_77 rfl (fun q77 => ?_) (fun q77 => ?_)
              · refine aw_aload_n d_Mo_clauseHere_80 1 rfl ?_
                refine aw_ldc2 (v := (1919250036 : Int64)) d_Mo_clauseHere_81 kc_Mo_221 ?_
                refine aw_V_m (As := [.long (1919250036 : Int64)]) (m_Mo_isWord) cv_Mo_100 kd_151 rfl rfl rfl (Nat.le_of_ble_eq_true rfl) ⟨Nat.le_of_ble_eq_true rfl, Nat.le_of_ble_eq_true rfl⟩ ⟨Nat.le_refl _, Nat.le_refl _⟩ d_Mo_clauseHere_84 (fun y84 => ?_)
                refine aw_bI (fun v84 => ?_)
                refine aw_bD (fun δ_84 => ?_)
                refine aw_if_eq (tgt := 94) d_Mo_clauseHere_87 rfl (fun q87 => ?_) (fun q87 => ?_)
                · refine aw_iconst d_Mo_clauseHere_94 ki_0 ?_
                  refine aw_sub (lo' := [(0, .ref 151), (1, .int v9)]) [1, 0] rfl ?_
                  exact tj_Mo_clauseHere_95 _ _ _
                · refine aw_sub (lo' := [(0, .ref 151), (1, .int v9)]) [1, 0] rfl ?_
                  exact tj_Mo_clauseHere_90 _ _
              · refine aw_sub (lo' := [(0, .ref 151), (1, .int v9)]) [1, 0] rfl ?_
                exact tj_Mo_clauseHere_90 _ _
            · refine aw_sub (lo' := [(0, .ref 151), (1, .int v9)]) [1, 0] rfl ?_
              exact tj_Mo_clauseHere_90 _ _
          · refine aw_sub (lo' := [(0, .ref 151), (1, .int v9)]) [1, 0] rfl ?_
            exact tj_Mo_clauseHere_90 _ _
        · refine aw_sub (lo' := [(0, .ref 151), (1, .int v9)]) [1, 0] rfl ?_
          exact tj_Mo_clauseHere_90 _ _
      · refine aw_sub (lo' := [(0, .ref 151), (1, .int v9)]) [1, 0] rfl ?_
        exact tj_Mo_clauseHere_90 _ _
    · refine aw_sub (lo' := [(0, .ref 151), (1, .int v9)]) [1, 0] rfl ?_
      exact tj_Mo_clauseHere_90 _ _
  · refine aw_sub (lo' := [(0, .ref 151), (1, .int v9)]) [1, 0] rfl ?_
    exact tj_Mo_clauseHere_90 _ _
def jp_Mo_law_144 (v1_91x : Int32) (δ144 : Dm) : Option (Int32 × Dm) := (bnd (sI δ144 151 2 (0 : Int32)) (fun δ_146 => (if (gI δ_146 151 10) ≤ 0 then (bnd (sI δ_146 151 3 ((gI δ_146 151 3) + (1 : Int32))) (fun δ_171 => (some (((gI δ_171 151 3) - (1 : Int32)), δ_171)))) else (some (((-2 : Int32) - (gI δ_146 151 10)), δ_146)))))
set_option maxHeartbeats 4000000 in
set_option maxRecDepth 100000 in
theorem tj_Mo_law_144 {n : Nat} (v1_91x : Int32) (δ144 : Dm) : AWo k_Mo_law 12 0 0 144 [(0, .ref 151), (1, .int v1_91x)] [] δ144 RT n 0 0 (Km RT n) (jp_Mo_law_144 v1_91x δ144) := by
  unfold jp_Mo_law_144
  refine aw_aload_n d_Mo_law_144 0 rfl ?_
  refine aw_iconst d_Mo_law_145 ki_0 ?_
  refine aw_putI pf_Mo_79 kd_151 d_Mo_law_146 ?_
  refine aw_bD (fun δ_146 => ?_)
  refine aw_aload_n d_Mo_law_149 0 rfl ?_
  refine aw_getI fl_Mo_87 kd_151 d_Mo_law_150 ?_
  refine aw_if_le (tgt := 164) d_Mo_law_153 rfl (fun q153 => ?_) (fun q153 => ?_)
  · refine aw_aload_n d_Mo_law_164 0 rfl ?_
    refine aw_dup d_Mo_law_165 rfl ?_
    refine aw_getI fl_Mo_236 kd_151 d_Mo_law_166 ?_
    refine aw_iconst d_Mo_law_169 ki_1 ?_
    refine aw_iadd d_Mo_law_170 ?_
    refine aw_putI pf_Mo_236 kd_151 d_Mo_law_171 ?_
    refine aw_bD (fun δ_171 => ?_)
    refine aw_aload_n d_Mo_law_174 0 rfl ?_
    refine aw_getI fl_Mo_236 kd_151 d_Mo_law_175 ?_
    refine aw_iconst d_Mo_law_178 ki_1 ?_
    refine aw_isub d_Mo_law_179 ?_
    exact aw_iret rfl rfl ⟨Nat.le_refl _, Nat.le_refl _⟩ d_Mo_law_180
  · refine aw_bipush d_Mo_law_156 kb_m2 ?_
    refine aw_aload_n d_Mo_law_158 0 rfl ?_
    refine aw_getI fl_Mo_87 kd_151 d_Mo_law_159 ?_
    refine aw_isub d_Mo_law_162 ?_
    exact aw_iret rfl rfl ⟨Nat.le_refl _, Nat.le_refl _⟩ d_Mo_law_163
def lp_Mo_law_91 (kx91_122 : Int32 → Dm → Option (Int32 × Dm)) : Nat → Int32 → Dm → Option (Int32 × Dm)
  | 0, _, _ => none
  | f + 1, v1_91, δ91 => (if v1_91 = 0 then (kx91_122 v1_91 δ91) else ((f_Mo_see δ91).bind (fun y96 => bnd y96.1 (fun v96 => bnd y96.2 (fun δ_96 => (if v96 = (59 : Int32) then (bnd (sI δ_96 151 9 ((gI δ_96 151 9) + (1 : Int32))) (fun δ_111 => ((f_Mo_clauseHere δ_111).bind (fun y115 => bnd y115.1 (fun v115 => bnd y115.2 (fun δ_115 => (lp_Mo_law_91 kx91_122 f v115 δ_115))))))) else (kx91_122 v1_91 δ_96)))))))
set_option maxHeartbeats 4000000 in
set_option maxRecDepth 100000 in
theorem tl_Mo_law_91 {n : Nat} (kx91_122 : Int32 → Dm → Option (Int32 × Dm)) (hkx91_122 : ∀ v1_91k δ91k, AWo k_Mo_law 12 0 0 122 [(0, .ref 151), (1, .int v1_91k)] [] δ91k RT n 0 0 (Km RT n) (kx91_122 v1_91k δ91k)) : ∀ (f : Nat) (v1_91 : Int32) (δ91 : Dm), AWo k_Mo_law 12 0 0 91 [(0, .ref 151), (1, .int v1_91)] [] δ91 RT n 0 0 (Km RT n) (lp_Mo_law_91 kx91_122 f v1_91 δ91) := by
  intro f
  induction f with
  | zero => intro _ _; exact aw_none
  | succ f ih =>
    intro v1_91 δ91
    rw [lp_Mo_law_91]
    refine aw_iload_n d_Mo_law_91 1 rfl ?_
    refine aw_if_eq (tgt := 122) d_Mo_law_92 rfl (fun q92 => ?_) (fun q92 => ?_)
    · refine aw_sub (lo' := [(0, .ref 151), (1, .int v1_91)]) [0, 1] rfl ?_
      exact hkx91_122 _ _
    · refine aw_aload_n d_Mo_law_95 0 rfl ?_
      refine aw_V_m (As := []) (m_Mo_see) cv_Mo_93 kd_151 rfl rfl rfl (Nat.le_of_ble_eq_true rfl) ⟨Nat.le_of_ble_eq_true rfl, Nat.le_of_ble_eq_true rfl⟩ ⟨Nat.le_refl _, Nat.le_refl _⟩ d_Mo_law_96 (fun y96 => ?_)
      refine aw_bI (fun v96 => ?_)
      refine aw_bD (fun δ_96 => ?_)
      refine aw_bipush d_Mo_law_99 kb_59 ?_
      refine aw_icmp_ne (tgt := 122) d_Mo_law_101 rfl (fun q101 => ?_) (fun q101 => ?_)
      · refine aw_aload_n d_Mo_law_104 0 rfl ?_
        refine aw_dup d_Mo_law_105 rfl ?_
        refine aw_getI fl_Mo_90 kd_151 d_Mo_law_106 ?_
        refine aw_iconst d_Mo_law_109 ki_1 ?_
        refine aw_iadd d_Mo_law_110 ?_
        refine aw_putI pf_Mo_90 kd_151 d_Mo_law_111 ?_
        refine aw_bD (fun δ_111 => ?_)
        refine aw_aload_n d_Mo_law_114 0 rfl ?_
        refine aw_V_m (As := []) (m_Mo_clauseHere) cv_Mo_239 kd_151 rfl rfl rfl (Nat.le_of_ble_eq_true rfl) ⟨Nat.le_of_ble_eq_true rfl, Nat.le_of_ble_eq_true rfl⟩ ⟨Nat.le_refl _, Nat.le_refl _⟩ d_Mo_law_115 (fun y115 => ?_)
        refine aw_bI (fun v115 => ?_)
        refine aw_bD (fun δ_115 => ?_)
        refine aw_istore_n (lo' := [(1, .int v115), (0, .ref 151)]) d_Mo_law_118 rfl (by decide) rfl ?_
        refine aw_goto (tgt := 91) d_Mo_law_119 rfl ?_
        refine aw_sub (lo' := [(0, .ref 151), (1, .int v115)]) [1, 0] rfl ?_
        exact ih _ _
      · refine aw_sub (lo' := [(0, .ref 151), (1, .int v1_91)]) [0, 1] rfl ?_
        exact hkx91_122 _ _
def lp_Mo_law_41 (kx41_66 : Int32 → Dm → Option (Int32 × Dm)) : Nat → Int32 → Dm → Option (Int32 × Dm)
  | 0, _, _ => none
  | f + 1, v1_41, δ41 => (if (3 : Int32) ≤ v1_41 then (kx41_66 v1_41 δ41) else (if inb (((3 : Int32) * (gI δ41 151 12)) + v1_41) 24 then bnd (sI δ41 158 (ix (((3 : Int32) * (gI δ41 151 12)) + v1_41)) (-1 : Int32)) (fun δ_59 => (lp_Mo_law_41 kx41_66 f (v1_41 + (1 : Int32)) δ_59)) else none))
set_option maxHeartbeats 4000000 in
set_option maxRecDepth 100000 in
theorem tl_Mo_law_41 {n : Nat} (kx41_66 : Int32 → Dm → Option (Int32 × Dm)) (hkx41_66 : ∀ v1_41k δ41k, AWo k_Mo_law 12 0 0 66 [(0, .ref 151), (1, .int v1_41k)] [] δ41k RT n 0 0 (Km RT n) (kx41_66 v1_41k δ41k)) : ∀ (f : Nat) (v1_41 : Int32) (δ41 : Dm), AWo k_Mo_law 12 0 0 41 [(0, .ref 151), (1, .int v1_41)] [] δ41 RT n 0 0 (Km RT n) (lp_Mo_law_41 kx41_66 f v1_41 δ41) := by
  intro f
  induction f with
  | zero => intro _ _; exact aw_none
  | succ f ih =>
    intro v1_41 δ41
    rw [lp_Mo_law_41]
    refine aw_iload_n d_Mo_law_41 1 rfl ?_
    refine aw_iconst d_Mo_law_42 ki_3 ?_
    refine aw_icmp_ge (tgt := 66) d_Mo_law_43 rfl (fun q43 => ?_) (fun q43 => ?_)
    · refine aw_sub (lo' := [(0, .ref 151), (1, .int v1_41)]) [0, 1] rfl ?_
      exact hkx41_66 _ _
    · refine aw_aload_n d_Mo_law_46 0 rfl ?_
      refine aw_getR (t := 158) fl_Mo_29 kd_151 rt_151_8 d_Mo_law_47 ?_
      refine aw_iconst d_Mo_law_50 ki_3 ?_
      refine aw_aload_n d_Mo_law_51 0 rfl ?_
      refine aw_getI fl_Mo_135 kd_151 d_Mo_law_52 ?_
      refine aw_imul d_Mo_law_55 ?_
      refine aw_iload_n d_Mo_law_56 1 rfl ?_
      refine aw_iadd d_Mo_law_57 ?_
      refine aw_iconst d_Mo_law_58 ki_m1 ?_
      refine aw_iast kd_158 d_Mo_law_59 ?_
      refine aw_bD (fun δ_59 => ?_)
      refine aw_iinc (v := (v1_41 + (1 : Int32))) (lo' := [(1, .int (v1_41 + (1 : Int32))), (0, .ref 151)]) d_Mo_law_60 1 rfl (by rw [show Int32.ofInt (1) = (1 : Int32) from by decide]) (by decide) rfl ?_
      refine aw_goto (tgt := 41) d_Mo_law_63 rfl ?_
      refine aw_sub (lo' := [(0, .ref 151), (1, .int (v1_41 + (1 : Int32)))]) [1, 0] rfl ?_
      exact ih _ _
def f_Mo_law (δ : Dm) : Option (Int32 × Dm) := (if (gI δ 151 3) = (8 : Int32) then (some ((-1 : Int32), δ)) else (bnd (sI δ 151 12 (gI δ 151 3)) (fun δ_16 => (if inb (gI δ_16 151 12) 8 then bnd (sI δ_16 155 (ix (gI δ_16 151 12)) (0 : Int32)) (fun δ_28 => (if inb (gI δ_28 151 12) 8 then bnd (sI δ_28 157 (ix (gI δ_28 151 12)) (0 : Int32)) (fun δ_38 => (lp_Mo_law_41 (fun v1_41x δ41x => (bnd (sI δ41x 151 15 (0 : Int32)) (fun δ_68 => (bnd (sI δ_68 151 9 (0 : Int32)) (fun δ_73 => (bnd (sI δ_73 151 10 (0 : Int32)) (fun δ_78 => (bnd (sI δ_78 151 13 (0 : Int32)) (fun δ_83 => ((f_Mo_clauseHere δ_83).bind (fun y87 => bnd y87.1 (fun v87 => bnd y87.2 (fun δ_87 => (lp_Mo_law_91 (fun v1_91x δ91x => (if v1_91x = 0 then (jp_Mo_law_144 v1_91x δ91x) else ((f_Mo_see δ91x).bind (fun y127 => bnd y127.1 (fun v127 => bnd y127.2 (fun δ_127 => (if v127 = (-1 : Int32) then (jp_Mo_law_144 v1_91x δ_127) else ((f_Mo_fails (0 : Int32) (gI δ_127 151 9) δ_127).bind (fun y140 => bnd y140.1 (fun v140 => bnd y140.2 (fun δ_140 => (jp_Mo_law_144 v1_91x δ_140)))))))))))) FU v87 δ_87)))))))))))))) FU (0 : Int32) δ_38)) else none)) else none))))
set_option maxHeartbeats 4000000 in
set_option maxRecDepth 100000 in
theorem m_Mo_law {δ : Dm} {n : Nat} : ∀ x, f_Mo_law δ = some x → AMet k_Mo_law 12 0 0 [.ref 151] δ RT n (Km RT n x) := by
  refine aw_start (lo := [(0, .ref 151)]) mok_Mo_law rfl (Nat.le_of_ble_eq_true rfl) ?_
  unfold f_Mo_law
  refine aw_aload_n d_Mo_law_0 0 rfl ?_
  refine aw_getI fl_Mo_236 kd_151 d_Mo_law_1 ?_
  refine aw_bipush d_Mo_law_4 kb_8 ?_
  refine aw_icmp_ne (tgt := 11) d_Mo_law_6 rfl (fun q6 => ?_) (fun q6 => ?_)
  · refine aw_iconst d_Mo_law_9 ki_m1 ?_
    exact aw_iret rfl rfl ⟨Nat.le_refl _, Nat.le_refl _⟩ d_Mo_law_10
  · refine aw_aload_n d_Mo_law_11 0 rfl ?_
    refine aw_aload_n d_Mo_law_12 0 rfl ?_
    refine aw_getI fl_Mo_236 kd_151 d_Mo_law_13 ?_
    refine aw_putI pf_Mo_135 kd_151 d_Mo_law_16 ?_
    refine aw_bD (fun δ_16 => ?_)
    refine aw_aload_n d_Mo_law_19 0 rfl ?_
    refine aw_getR (t := 155) fl_Mo_20 kd_151 rt_151_5 d_Mo_law_20 ?_
    refine aw_aload_n d_Mo_law_23 0 rfl ?_
    refine aw_getI fl_Mo_135 kd_151 d_Mo_law_24 ?_
    refine aw_iconst d_Mo_law_27 ki_0 ?_
    refine aw_iast kd_155 d_Mo_law_28 ?_
    refine aw_bD (fun δ_28 => ?_)
    refine aw_aload_n d_Mo_law_29 0 rfl ?_
    refine aw_getR (t := 157) fl_Mo_26 kd_151 rt_151_7 d_Mo_law_30 ?_
    refine aw_aload_n d_Mo_law_33 0 rfl ?_
    refine aw_getI fl_Mo_135 kd_151 d_Mo_law_34 ?_
    refine aw_iconst d_Mo_law_37 ki_0 ?_
    refine aw_iast kd_157 d_Mo_law_38 ?_
    refine aw_bD (fun δ_38 => ?_)
    refine aw_iconst d_Mo_law_39 ki_0 ?_
    refine aw_istore_n (lo' := [(1, .int (0 : Int32)), (0, .ref 151)]) d_Mo_law_40 rfl (by decide) rfl ?_
    refine aw_sub (lo' := [(0, .ref 151), (1, .int (0 : Int32))]) [1, 0] rfl ?_
    refine tl_Mo_law_41 _ (fun v1_41x δ41x => ?_) FU _ _
    · refine aw_aload_n d_Mo_law_66 0 rfl ?_
      refine aw_iconst d_Mo_law_67 ki_0 ?_
      refine aw_putI pf_Mo_223 kd_151 d_Mo_law_68 ?_
      refine aw_bD (fun δ_68 => ?_)
      refine aw_aload_n d_Mo_law_71 0 rfl ?_
      refine aw_iconst d_Mo_law_72 ki_0 ?_
      refine aw_putI pf_Mo_90 kd_151 d_Mo_law_73 ?_
      refine aw_bD (fun δ_73 => ?_)
      refine aw_aload_n d_Mo_law_76 0 rfl ?_
      refine aw_iconst d_Mo_law_77 ki_0 ?_
      refine aw_putI pf_Mo_87 kd_151 d_Mo_law_78 ?_
      refine aw_bD (fun δ_78 => ?_)
      refine aw_aload_n d_Mo_law_81 0 rfl ?_
      refine aw_iconst d_Mo_law_82 ki_0 ?_
      refine aw_putI pf_Mo_138 kd_151 d_Mo_law_83 ?_
      refine aw_bD (fun δ_83 => ?_)
      refine aw_aload_n d_Mo_law_86 0 rfl ?_
      refine aw_V_m (As := []) (m_Mo_clauseHere) cv_Mo_239 kd_151 rfl rfl rfl (Nat.le_of_ble_eq_true rfl) ⟨Nat.le_of_ble_eq_true rfl, Nat.le_of_ble_eq_true rfl⟩ ⟨Nat.le_refl _, Nat.le_refl _⟩ d_Mo_law_87 (fun y87 => ?_)
      refine aw_bI (fun v87 => ?_)
      refine aw_bD (fun δ_87 => ?_)
      refine aw_istore_n (lo' := [(1, .int v87), (0, .ref 151)]) d_Mo_law_90 rfl (by decide) rfl ?_
      refine aw_sub (lo' := [(0, .ref 151), (1, .int v87)]) [1, 0] rfl ?_
      refine tl_Mo_law_91 _ (fun v1_91x δ91x => ?_) FU _ _
      · refine aw_iload_n d_Mo_law_122 1 rfl ?_
        refine aw_if_eq (tgt := 144) d_Mo_law_123 rfl (fun q123 => ?_) (fun q123 => ?_)
        · refine aw_sub (lo' := [(0, .ref 151), (1, .int v1_91x)]) [0, 1] rfl ?_
          exact tj_Mo_law_144 _ _
        · refine aw_aload_n d_Mo_law_126 0 rfl ?_
          refine aw_V_m (As := []) (m_Mo_see) cv_Mo_93 kd_151 rfl rfl rfl (Nat.le_of_ble_eq_true rfl) ⟨Nat.le_of_ble_eq_true rfl, Nat.le_of_ble_eq_true rfl⟩ ⟨Nat.le_refl _, Nat.le_refl _⟩ d_Mo_law_127 (fun y127 => ?_)
          refine aw_bI (fun v127 => ?_)
          refine aw_bD (fun δ_127 => ?_)
          refine aw_iconst d_Mo_law_130 ki_m1 ?_
          refine aw_icmp_eq (tgt := 144) d_Mo_law_131 rfl (fun q131 => ?_) (fun q131 => ?_)
          · refine aw_sub (lo' := [(0, .ref 151), (1, .int v1_91x)]) [0, 1] rfl ?_
            exact tj_Mo_law_144 _ _
          · refine aw_aload_n d_Mo_law_134 0 rfl ?_
            refine aw_iconst d_Mo_law_135 ki_0 ?_
            refine aw_aload_n d_Mo_law_136 0 rfl ?_
            refine aw_getI fl_Mo_90 kd_151 d_Mo_law_137 ?_
            refine aw_V_m (As := [.int (0 : Int32), .int (gI δ_127 151 9)]) (m_Mo_fails) cv_Mo_110 kd_151 rfl rfl rfl (Nat.le_of_ble_eq_true rfl) ⟨Nat.le_of_ble_eq_true rfl, Nat.le_of_ble_eq_true rfl⟩ ⟨Nat.le_refl _, Nat.le_refl _⟩ d_Mo_law_140 (fun y140 => ?_)
            refine aw_bI (fun v140 => ?_)
            refine aw_bD (fun δ_140 => ?_)
            refine aw_pop d_Mo_law_143 rfl ?_
            refine aw_sub (lo' := [(0, .ref 151), (1, .int v1_91x)]) [0, 1] rfl ?_
            exact tj_Mo_law_144 _ _
def f_Mo_cell (a1 : Int32) (a2 : Int32) (δ : Dm) : Option Int32 := (if inb (((566 : Int32) + ((20 : Int32) * a1)) + a2) 8918 then (some (gI δ 152 (ix (((566 : Int32) + ((20 : Int32) * a1)) + a2)))) else none)
set_option maxHeartbeats 4000000 in
set_option maxRecDepth 100000 in
theorem m_Mo_cell {a1 : Int32} {a2 : Int32} {δ : Dm} {n : Nat} : ∀ x, f_Mo_cell a1 a2 δ = some x → AMet k_Mo_cell 1 0 0 [.ref 151, .int a1, .int a2] δ RT n (Kp δ RT n x) := by
  refine aw_start (lo := [(0, .ref 151), (1, .int a1), (2, .int a2)]) mok_Mo_cell rfl (Nat.le_of_ble_eq_true rfl) ?_
  unfold f_Mo_cell
  refine aw_aload_n d_Mo_cell_0 0 rfl ?_
  refine aw_getR (t := 152) fl_Mo_7 kd_151 rt_151_0 d_Mo_cell_1 ?_
  refine aw_sipush d_Mo_cell_4 ks_566 ?_
  refine aw_bipush d_Mo_cell_7 kb_20 ?_
  refine aw_iload_n d_Mo_cell_9 1 rfl ?_
  refine aw_imul d_Mo_cell_10 ?_
  refine aw_iadd d_Mo_cell_11 ?_
  refine aw_iload_n d_Mo_cell_12 2 rfl ?_
  refine aw_iadd d_Mo_cell_13 ?_
  refine aw_iald kd_152 d_Mo_cell_14 ?_
  exact aw_iret rfl rfl ⟨Nat.le_refl _, Nat.le_refl _⟩ d_Mo_cell_15
def lp_Mo_at_2 (kx2_30 : Int32 → Option Int32) (a1 : Int32) (δ : Dm) : Nat → Int32 → Option Int32
  | 0, _ => none
  | f + 1, v2_2 => (if inb (2 : Int32) 8918 then (if (gI δ 152 (ix (2 : Int32))) ≤ v2_2 then (kx2_30 v2_2) else ((f_Mo_cell v2_2 (0 : Int32) δ).bind (fun y15 => (if y15 = a1 then (some v2_2) else (lp_Mo_at_2 kx2_30 a1 δ f (v2_2 + (1 : Int32))))))) else none)
set_option maxHeartbeats 4000000 in
set_option maxRecDepth 100000 in
theorem tl_Mo_at_2 {n : Nat} (kx2_30 : Int32 → Option Int32) (a1 : Int32) (δ : Dm) (hkx2_30 : ∀ v2_2k, AWo k_Mo_at 2 0 0 30 [(0, .ref 151), (1, .int a1), (2, .int v2_2k)] [] δ RT n 0 0 (Kp δ RT n) (kx2_30 v2_2k)) : ∀ (f : Nat) (v2_2 : Int32), AWo k_Mo_at 2 0 0 2 [(0, .ref 151), (1, .int a1), (2, .int v2_2)] [] δ RT n 0 0 (Kp δ RT n) (lp_Mo_at_2 kx2_30 a1 δ f v2_2) := by
  intro f
  induction f with
  | zero => intro _; exact aw_none
  | succ f ih =>
    intro v2_2
    rw [lp_Mo_at_2]
    refine aw_iload_n d_Mo_at_2 2 rfl ?_
    refine aw_aload_n d_Mo_at_3 0 rfl ?_
    refine aw_getR (t := 152) fl_Mo_7 kd_151 rt_151_0 d_Mo_at_4 ?_
    refine aw_iconst d_Mo_at_7 ki_2 ?_
    refine aw_iald kd_152 d_Mo_at_8 ?_
    refine aw_icmp_ge (tgt := 30) d_Mo_at_9 rfl (fun q9 => ?_) (fun q9 => ?_)
    · refine aw_sub (lo' := [(0, .ref 151), (1, .int a1), (2, .int v2_2)]) [0, 1, 2] rfl ?_
      exact hkx2_30 _
    · refine aw_aload_n d_Mo_at_12 0 rfl ?_
      refine aw_iload_n d_Mo_at_13 2 rfl ?_
      refine aw_iconst d_Mo_at_14 ki_0 ?_
      refine aw_V_p (As := [.int v2_2, .int (0 : Int32)]) (m_Mo_cell) cv_Mo_265 kd_151 rfl rfl rfl (Nat.le_of_ble_eq_true rfl) ⟨Nat.le_of_ble_eq_true rfl, Nat.le_of_ble_eq_true rfl⟩ ⟨Nat.le_refl _, Nat.le_refl _⟩ d_Mo_at_15 (fun y15 => ?_)
      refine aw_iload_n d_Mo_at_18 1 rfl ?_
      refine aw_icmp_ne (tgt := 24) d_Mo_at_19 rfl (fun q19 => ?_) (fun q19 => ?_)
      · refine aw_iload_n d_Mo_at_22 2 rfl ?_
        exact aw_iret rfl rfl ⟨Nat.le_refl _, Nat.le_refl _⟩ d_Mo_at_23
      · refine aw_iinc (v := (v2_2 + (1 : Int32))) (lo' := [(2, .int (v2_2 + (1 : Int32))), (0, .ref 151), (1, .int a1)]) d_Mo_at_24 2 rfl (by rw [show Int32.ofInt (1) = (1 : Int32) from by decide]) (by decide) rfl ?_
        refine aw_goto (tgt := 2) d_Mo_at_27 rfl ?_
        refine aw_sub (lo' := [(0, .ref 151), (1, .int a1), (2, .int (v2_2 + (1 : Int32)))]) [1, 2, 0] rfl ?_
        exact ih _
def f_Mo_at (a1 : Int32) (δ : Dm) : Option Int32 := (lp_Mo_at_2 (fun v2_2x => (some (-1 : Int32))) a1 δ FU (0 : Int32))
set_option maxHeartbeats 4000000 in
set_option maxRecDepth 100000 in
theorem m_Mo_at {a1 : Int32} {δ : Dm} {n : Nat} : ∀ x, f_Mo_at a1 δ = some x → AMet k_Mo_at 2 0 0 [.ref 151, .int a1] δ RT n (Kp δ RT n x) := by
  refine aw_start (lo := [(0, .ref 151), (1, .int a1)]) mok_Mo_at rfl (Nat.le_of_ble_eq_true rfl) ?_
  unfold f_Mo_at
  refine aw_iconst d_Mo_at_0 ki_0 ?_
  refine aw_istore_n (lo' := [(2, .int (0 : Int32)), (0, .ref 151), (1, .int a1)]) d_Mo_at_1 rfl (by decide) rfl ?_
  refine aw_sub (lo' := [(0, .ref 151), (1, .int a1), (2, .int (0 : Int32))]) [1, 2, 0] rfl ?_
  refine tl_Mo_at_2 _ _ _ (fun v2_2x => ?_) FU _
  · refine aw_iconst d_Mo_at_30 ki_m1 ?_
    exact aw_iret rfl rfl ⟨Nat.le_refl _, Nat.le_refl _⟩ d_Mo_at_31
def f_Mo_isLaw (a1 : Int32) (δ : Dm) : Option Int32 := (if a1 < 0 then (some (0 : Int32)) else (if (gI δ 151 3) ≤ a1 then (some (0 : Int32)) else (some (1 : Int32))))
set_option maxHeartbeats 4000000 in
set_option maxRecDepth 100000 in
theorem m_Mo_isLaw {a1 : Int32} {δ : Dm} {n : Nat} : ∀ x, f_Mo_isLaw a1 δ = some x → AMet k_Mo_isLaw 1 0 0 [.ref 151, .int a1] δ RT n (Kp δ RT n x) := by
  refine aw_start (lo := [(0, .ref 151), (1, .int a1)]) mok_Mo_isLaw rfl (Nat.le_of_ble_eq_true rfl) ?_
  unfold f_Mo_isLaw
  refine aw_iload_n d_Mo_isLaw_0 1 rfl ?_
  refine aw_if_lt (tgt := 16) d_Mo_isLaw_1 rfl (fun q1 => ?_) (fun q1 => ?_)
  · refine aw_iconst d_Mo_isLaw_16 ki_0 ?_
    exact aw_zret rfl rfl rfl ⟨Nat.le_refl _, Nat.le_refl _⟩ d_Mo_isLaw_17
  · refine aw_iload_n d_Mo_isLaw_4 1 rfl ?_
    refine aw_aload_n d_Mo_isLaw_5 0 rfl ?_
    refine aw_getI fl_Mo_236 kd_151 d_Mo_isLaw_6 ?_
    refine aw_icmp_ge (tgt := 16) d_Mo_isLaw_9 rfl (fun q9 => ?_) (fun q9 => ?_)
    · refine aw_iconst d_Mo_isLaw_16 ki_0 ?_
      exact aw_zret rfl rfl rfl ⟨Nat.le_refl _, Nat.le_refl _⟩ d_Mo_isLaw_17
    · refine aw_iconst d_Mo_isLaw_12 ki_1 ?_
      refine aw_goto (tgt := 17) d_Mo_isLaw_13 rfl ?_
      exact aw_zret rfl rfl rfl ⟨Nat.le_refl _, Nat.le_refl _⟩ d_Mo_isLaw_17
def f_Mo_sets (a1 : Int32) (a2 : Int32) (a3 : Int32) (δ : Dm) : Option Dm := (if inb (((566 : Int32) + ((20 : Int32) * a1)) + a2) 8918 then bnd (sI δ 152 (ix (((566 : Int32) + ((20 : Int32) * a1)) + a2)) a3) (fun δ_15 => (some δ_15)) else none)
set_option maxHeartbeats 4000000 in
set_option maxRecDepth 100000 in
theorem m_Mo_sets {a1 : Int32} {a2 : Int32} {a3 : Int32} {δ : Dm} {n : Nat} : ∀ x, f_Mo_sets a1 a2 a3 δ = some x → AMet k_Mo_sets 1 0 0 [.ref 151, .int a1, .int a2, .int a3] δ RT n (Kv RT n x) := by
  refine aw_start (lo := [(0, .ref 151), (1, .int a1), (2, .int a2), (3, .int a3)]) mok_Mo_sets rfl (Nat.le_of_ble_eq_true rfl) ?_
  unfold f_Mo_sets
  refine aw_aload_n d_Mo_sets_0 0 rfl ?_
  refine aw_getR (t := 152) fl_Mo_7 kd_151 rt_151_0 d_Mo_sets_1 ?_
  refine aw_sipush d_Mo_sets_4 ks_566 ?_
  refine aw_bipush d_Mo_sets_7 kb_20 ?_
  refine aw_iload_n d_Mo_sets_9 1 rfl ?_
  refine aw_imul d_Mo_sets_10 ?_
  refine aw_iadd d_Mo_sets_11 ?_
  refine aw_iload_n d_Mo_sets_12 2 rfl ?_
  refine aw_iadd d_Mo_sets_13 ?_
  refine aw_iload_n d_Mo_sets_14 3 rfl ?_
  refine aw_iast kd_152 d_Mo_sets_15 ?_
  refine aw_bD (fun δ_15 => ?_)
  exact aw_vret rfl rfl ⟨Nat.le_refl _, Nat.le_refl _⟩ d_Mo_sets_16
def lp_Mo_booth_187 (kx187_218 : Int32 → Dm → Option (Int32 × Dm)) (a1 : Int32) (a2 : Int32) (a3 : Int32) (v56 : Int32) : Nat → Int32 → Dm → Option (Int32 × Dm)
  | 0, _, _ => none
  | f + 1, v5_187, δ187 => (if (24 : Int32) ≤ v5_187 then (kx187_218 v5_187 δ187) else (if inb (((8726 : Int32) + ((24 : Int32) * v56)) + v5_187) 8918 then bnd (sI δ187 152 (ix (((8726 : Int32) + ((24 : Int32) * v56)) + v5_187)) (0 : Int32)) (fun δ_211 => (lp_Mo_booth_187 kx187_218 a1 a2 a3 v56 f (v5_187 + (1 : Int32)) δ_211)) else none))
set_option maxHeartbeats 4000000 in
set_option maxRecDepth 100000 in
theorem tl_Mo_booth_187 {n : Nat} (kx187_218 : Int32 → Dm → Option (Int32 × Dm)) (a1 : Int32) (a2 : Int32) (a3 : Int32) (v56 : Int32) (hkx187_218 : ∀ v5_187k δ187k, AWo k_Mo_booth 3 0 0 218 [(0, .ref 151), (1, .int a1), (2, .int a2), (3, .int a3), (4, .int v56), (5, .int v5_187k)] [] δ187k RT n 0 0 (Km RT n) (kx187_218 v5_187k δ187k)) : ∀ (f : Nat) (v5_187 : Int32) (δ187 : Dm), AWo k_Mo_booth 3 0 0 187 [(0, .ref 151), (1, .int a1), (2, .int a2), (3, .int a3), (4, .int v56), (5, .int v5_187)] [] δ187 RT n 0 0 (Km RT n) (lp_Mo_booth_187 kx187_218 a1 a2 a3 v56 f v5_187 δ187) := by
  intro f
  induction f with
  | zero => intro _ _; exact aw_none
  | succ f ih =>
    intro v5_187 δ187
    rw [lp_Mo_booth_187]
    refine aw_iload d_Mo_booth_187 5 rfl ?_
    refine aw_bipush d_Mo_booth_189 kb_24 ?_
    refine aw_icmp_ge (tgt := 218) d_Mo_booth_191 rfl (fun q191 => ?_) (fun q191 => ?_)
    · refine aw_sub (lo' := [(0, .ref 151), (1, .int a1), (2, .int a2), (3, .int a3), (4, .int v56), (5, .int v5_187)]) [0, 1, 2, 3, 4, 5] rfl ?_
      exact hkx187_218 _ _
    · refine aw_aload_n d_Mo_booth_194 0 rfl ?_
      refine aw_getR (t := 152) fl_Mo_7 kd_151 rt_151_0 d_Mo_booth_195 ?_
      refine aw_sipush d_Mo_booth_198 ks_8726 ?_
      refine aw_bipush d_Mo_booth_201 kb_24 ?_
      refine aw_iload d_Mo_booth_203 4 rfl ?_
      refine aw_imul d_Mo_booth_205 ?_
      refine aw_iadd d_Mo_booth_206 ?_
      refine aw_iload d_Mo_booth_207 5 rfl ?_
      refine aw_iadd d_Mo_booth_209 ?_
      refine aw_iconst d_Mo_booth_210 ki_0 ?_
      refine aw_iast kd_152 d_Mo_booth_211 ?_
      refine aw_bD (fun δ_211 => ?_)
      refine aw_iinc (v := (v5_187 + (1 : Int32))) (lo' := [(5, .int (v5_187 + (1 : Int32))), (0, .ref 151), (1, .int a1), (2, .int a2), (3, .int a3), (4, .int v56)]) d_Mo_booth_212 5 rfl (by rw [show Int32.ofInt (1) = (1 : Int32) from by decide]) (by decide) rfl ?_
      refine aw_goto (tgt := 187) d_Mo_booth_215 rfl ?_
      refine aw_sub (lo' := [(0, .ref 151), (1, .int a1), (2, .int a2), (3, .int a3), (4, .int v56), (5, .int (v5_187 + (1 : Int32)))]) [1, 2, 3, 4, 5, 0] rfl ?_
      exact ih _ _
def lp_Mo_booth_151 (kx151_184 : Int32 → Dm → Option (Int32 × Dm)) (a1 : Int32) (a2 : Int32) (a3 : Int32) (v56 : Int32) : Nat → Int32 → Dm → Option (Int32 × Dm)
  | 0, _, _ => none
  | f + 1, v5_151, δ151 => (if (400 : Int32) ≤ v5_151 then (kx151_184 v5_151 δ151) else (if inb (((726 : Int32) + ((400 : Int32) * v56)) + v5_151) 8918 then bnd (sI δ151 152 (ix (((726 : Int32) + ((400 : Int32) * v56)) + v5_151)) (0 : Int32)) (fun δ_177 => (lp_Mo_booth_151 kx151_184 a1 a2 a3 v56 f (v5_151 + (1 : Int32)) δ_177)) else none))
set_option maxHeartbeats 4000000 in
set_option maxRecDepth 100000 in
theorem tl_Mo_booth_151 {n : Nat} (kx151_184 : Int32 → Dm → Option (Int32 × Dm)) (a1 : Int32) (a2 : Int32) (a3 : Int32) (v56 : Int32) (hkx151_184 : ∀ v5_151k δ151k, AWo k_Mo_booth 3 0 0 184 [(0, .ref 151), (1, .int a1), (2, .int a2), (3, .int a3), (4, .int v56), (5, .int v5_151k)] [] δ151k RT n 0 0 (Km RT n) (kx151_184 v5_151k δ151k)) : ∀ (f : Nat) (v5_151 : Int32) (δ151 : Dm), AWo k_Mo_booth 3 0 0 151 [(0, .ref 151), (1, .int a1), (2, .int a2), (3, .int a3), (4, .int v56), (5, .int v5_151)] [] δ151 RT n 0 0 (Km RT n) (lp_Mo_booth_151 kx151_184 a1 a2 a3 v56 f v5_151 δ151) := by
  intro f
  induction f with
  | zero => intro _ _; exact aw_none
  | succ f ih =>
    intro v5_151 δ151
    rw [lp_Mo_booth_151]
    refine aw_iload d_Mo_booth_151 5 rfl ?_
    refine aw_sipush d_Mo_booth_153 ks_400 ?_
    refine aw_icmp_ge (tgt := 184) d_Mo_booth_156 rfl (fun q156 => ?_) (fun q156 => ?_)
    · refine aw_sub (lo' := [(0, .ref 151), (1, .int a1), (2, .int a2), (3, .int a3), (4, .int v56), (5, .int v5_151)]) [0, 1, 2, 3, 4, 5] rfl ?_
      exact hkx151_184 _ _
    · refine aw_aload_n d_Mo_booth_159 0 rfl ?_
      refine aw_getR (t := 152) fl_Mo_7 kd_151 rt_151_0 d_Mo_booth_160 ?_
      refine aw_sipush d_Mo_booth_163 ks_726 ?_
      refine aw_sipush d_Mo_booth_166 ks_400 ?_
      refine aw_iload d_Mo_booth_169 4 rfl ?_
      refine aw_imul d_Mo_booth_171 ?_
      refine aw_iadd d_Mo_booth_172 ?_
      refine aw_iload d_Mo_booth_173 5 rfl ?_
      refine aw_iadd d_Mo_booth_175 ?_
      refine aw_iconst d_Mo_booth_176 ki_0 ?_
      refine aw_iast kd_152 d_Mo_booth_177 ?_
      refine aw_bD (fun δ_177 => ?_)
      refine aw_iinc (v := (v5_151 + (1 : Int32))) (lo' := [(5, .int (v5_151 + (1 : Int32))), (0, .ref 151), (1, .int a1), (2, .int a2), (3, .int a3), (4, .int v56)]) d_Mo_booth_178 5 rfl (by rw [show Int32.ofInt (1) = (1 : Int32) from by decide]) (by decide) rfl ?_
      refine aw_goto (tgt := 151) d_Mo_booth_181 rfl ?_
      refine aw_sub (lo' := [(0, .ref 151), (1, .int a1), (2, .int a2), (3, .int a3), (4, .int v56), (5, .int (v5_151 + (1 : Int32)))]) [1, 2, 3, 4, 5, 0] rfl ?_
      exact ih _ _
def lp_Mo_booth_110 (kx110_134 : Int32 → Dm → Option (Int32 × Dm)) (a1 : Int32) (a2 : Int32) (a3 : Int32) (v56 : Int32) : Nat → Int32 → Dm → Option (Int32 × Dm)
  | 0, _, _ => none
  | f + 1, v5_110, δ110 => (if (6 : Int32) ≤ v5_110 then (kx110_134 v5_110 δ110) else ((f_Mo_sets v56 v5_110 (1000 : Int32) δ110).bind (fun y125 => (lp_Mo_booth_110 kx110_134 a1 a2 a3 v56 f (v5_110 + (1 : Int32)) y125))))
set_option maxHeartbeats 4000000 in
set_option maxRecDepth 100000 in
theorem tl_Mo_booth_110 {n : Nat} (kx110_134 : Int32 → Dm → Option (Int32 × Dm)) (a1 : Int32) (a2 : Int32) (a3 : Int32) (v56 : Int32) (hkx110_134 : ∀ v5_110k δ110k, AWo k_Mo_booth 3 0 0 134 [(0, .ref 151), (1, .int a1), (2, .int a2), (3, .int a3), (4, .int v56), (5, .int v5_110k)] [] δ110k RT n 0 0 (Km RT n) (kx110_134 v5_110k δ110k)) : ∀ (f : Nat) (v5_110 : Int32) (δ110 : Dm), AWo k_Mo_booth 3 0 0 110 [(0, .ref 151), (1, .int a1), (2, .int a2), (3, .int a3), (4, .int v56), (5, .int v5_110)] [] δ110 RT n 0 0 (Km RT n) (lp_Mo_booth_110 kx110_134 a1 a2 a3 v56 f v5_110 δ110) := by
  intro f
  induction f with
  | zero => intro _ _; exact aw_none
  | succ f ih =>
    intro v5_110 δ110
    rw [lp_Mo_booth_110]
    refine aw_iload d_Mo_booth_110 5 rfl ?_
    refine aw_bipush d_Mo_booth_112 kb_6 ?_
    refine aw_icmp_ge (tgt := 134) d_Mo_booth_114 rfl (fun q114 => ?_) (fun q114 => ?_)
    · refine aw_sub (lo' := [(0, .ref 151), (1, .int a1), (2, .int a2), (3, .int a3), (4, .int v56), (5, .int v5_110)]) [0, 1, 2, 3, 4, 5] rfl ?_
      exact hkx110_134 _ _
    · refine aw_aload_n d_Mo_booth_117 0 rfl ?_
      refine aw_iload d_Mo_booth_118 4 rfl ?_
      refine aw_iload d_Mo_booth_120 5 rfl ?_
      refine aw_sipush d_Mo_booth_122 ks_1000 ?_
      refine aw_V_v (As := [.int v56, .int v5_110, .int (1000 : Int32)]) (m_Mo_sets) cv_Mo_274 kd_151 rfl rfl rfl (Nat.le_of_ble_eq_true rfl) ⟨Nat.le_of_ble_eq_true rfl, Nat.le_of_ble_eq_true rfl⟩ ⟨Nat.le_refl _, Nat.le_refl _⟩ d_Mo_booth_125 (fun y125 => ?_)
      refine aw_iinc (v := (v5_110 + (1 : Int32))) (lo' := [(5, .int (v5_110 + (1 : Int32))), (0, .ref 151), (1, .int a1), (2, .int a2), (3, .int a3), (4, .int v56)]) d_Mo_booth_128 5 rfl (by rw [show Int32.ofInt (1) = (1 : Int32) from by decide]) (by decide) rfl ?_
      refine aw_goto (tgt := 110) d_Mo_booth_131 rfl ?_
      refine aw_sub (lo' := [(0, .ref 151), (1, .int a1), (2, .int a2), (3, .int a3), (4, .int v56), (5, .int (v5_110 + (1 : Int32)))]) [1, 2, 3, 4, 5, 0] rfl ?_
      exact ih _ _
def lp_Mo_booth_61 (kx61_83 : Int32 → Dm → Option (Int32 × Dm)) (a1 : Int32) (a2 : Int32) (a3 : Int32) (v56 : Int32) : Nat → Int32 → Dm → Option (Int32 × Dm)
  | 0, _, _ => none
  | f + 1, v5_61, δ61 => (if (12 : Int32) ≤ v5_61 then (kx61_83 v5_61 δ61) else ((f_Mo_sets v56 v5_61 (0 : Int32) δ61).bind (fun y74 => (lp_Mo_booth_61 kx61_83 a1 a2 a3 v56 f (v5_61 + (1 : Int32)) y74))))
set_option maxHeartbeats 4000000 in
set_option maxRecDepth 100000 in
theorem tl_Mo_booth_61 {n : Nat} (kx61_83 : Int32 → Dm → Option (Int32 × Dm)) (a1 : Int32) (a2 : Int32) (a3 : Int32) (v56 : Int32) (hkx61_83 : ∀ v5_61k δ61k, AWo k_Mo_booth 3 0 0 83 [(0, .ref 151), (1, .int a1), (2, .int a2), (3, .int a3), (4, .int v56), (5, .int v5_61k)] [] δ61k RT n 0 0 (Km RT n) (kx61_83 v5_61k δ61k)) : ∀ (f : Nat) (v5_61 : Int32) (δ61 : Dm), AWo k_Mo_booth 3 0 0 61 [(0, .ref 151), (1, .int a1), (2, .int a2), (3, .int a3), (4, .int v56), (5, .int v5_61)] [] δ61 RT n 0 0 (Km RT n) (lp_Mo_booth_61 kx61_83 a1 a2 a3 v56 f v5_61 δ61) := by
  intro f
  induction f with
  | zero => intro _ _; exact aw_none
  | succ f ih =>
    intro v5_61 δ61
    rw [lp_Mo_booth_61]
    refine aw_iload d_Mo_booth_61 5 rfl ?_
    refine aw_bipush d_Mo_booth_63 kb_12 ?_
    refine aw_icmp_ge (tgt := 83) d_Mo_booth_65 rfl (fun q65 => ?_) (fun q65 => ?_)
    · refine aw_sub (lo' := [(0, .ref 151), (1, .int a1), (2, .int a2), (3, .int a3), (4, .int v56), (5, .int v5_61)]) [0, 1, 2, 3, 4, 5] rfl ?_
      exact hkx61_83 _ _
    · refine aw_aload_n d_Mo_booth_68 0 rfl ?_
      refine aw_iload d_Mo_booth_69 4 rfl ?_
      refine aw_iload d_Mo_booth_71 5 rfl ?_
      refine aw_iconst d_Mo_booth_73 ki_0 ?_
      refine aw_V_v (As := [.int v56, .int v5_61, .int (0 : Int32)]) (m_Mo_sets) cv_Mo_274 kd_151 rfl rfl rfl (Nat.le_of_ble_eq_true rfl) ⟨Nat.le_of_ble_eq_true rfl, Nat.le_of_ble_eq_true rfl⟩ ⟨Nat.le_refl _, Nat.le_refl _⟩ d_Mo_booth_74 (fun y74 => ?_)
      refine aw_iinc (v := (v5_61 + (1 : Int32))) (lo' := [(5, .int (v5_61 + (1 : Int32))), (0, .ref 151), (1, .int a1), (2, .int a2), (3, .int a3), (4, .int v56)]) d_Mo_booth_77 5 rfl (by rw [show Int32.ofInt (1) = (1 : Int32) from by decide]) (by decide) rfl ?_
      refine aw_goto (tgt := 61) d_Mo_booth_80 rfl ?_
      refine aw_sub (lo' := [(0, .ref 151), (1, .int a1), (2, .int a2), (3, .int a3), (4, .int v56), (5, .int (v5_61 + (1 : Int32)))]) [1, 2, 3, 4, 5, 0] rfl ?_
      exact ih _ _
def f_Mo_booth (a1 : Int32) (a2 : Int32) (a3 : Int32) (δ : Dm) : Option (Int32 × Dm) := (if inb (2 : Int32) 8918 then (if (gI δ 152 (ix (2 : Int32))) = (8 : Int32) then (some ((-1 : Int32), δ)) else ((f_Mo_isPlace a1 δ).bind (fun y13 => (if y13 = 0 then (some ((-1 : Int32), δ)) else ((f_Mo_at a1 δ).bind (fun y21 => (if y21 = (-1 : Int32) then ((f_Mo_in ((a2).toInt64) (1 : Int64) (999 : Int64) δ).bind (fun y34 => (if y34 = 0 then (some ((-1 : Int32), δ)) else ((f_Mo_isLaw a3 δ).bind (fun y42 => (if y42 = 0 then (some ((-1 : Int32), δ)) else (if inb (2 : Int32) 8918 then (bnd (gI δ 152 (ix (2 : Int32))) (fun v56 => (lp_Mo_booth_61 (fun v5_61x δ61x => ((f_Mo_sets v56 (0 : Int32) a1 δ61x).bind (fun y88 => ((f_Mo_sets v56 (1 : Int32) a2 y88).bind (fun y96 => ((f_Mo_sets v56 (2 : Int32) a3 y96).bind (fun y104 => (lp_Mo_booth_110 (fun v5_110x δ110x => (if inb (0 : Int32) 8918 then ((f_Mo_sets v56 (10 : Int32) (gI δ110x 152 (ix (0 : Int32))) δ110x).bind (fun y145 => (lp_Mo_booth_151 (fun v5_151x δ151x => (lp_Mo_booth_187 (fun v5_187x δ187x => (if inb (2 : Int32) 8918 then (if inb (2 : Int32) 8918 then bnd (sI δ187x 152 (ix (2 : Int32)) ((gI δ187x 152 (ix (2 : Int32))) + (1 : Int32))) (fun δ_227 => (some (v56, δ_227))) else none) else none)) a1 a2 a3 v56 FU (0 : Int32) δ151x)) a1 a2 a3 v56 FU (0 : Int32) y145))) else none)) a1 a2 a3 v56 FU (3 : Int32) y104)))))))) a1 a2 a3 v56 FU (0 : Int32) δ))) else none))))))) else (some ((-1 : Int32), δ))))))))) else none)
set_option maxHeartbeats 4000000 in
set_option maxRecDepth 100000 in
theorem m_Mo_booth {a1 : Int32} {a2 : Int32} {a3 : Int32} {δ : Dm} {n : Nat} : ∀ x, f_Mo_booth a1 a2 a3 δ = some x → AMet k_Mo_booth 3 0 0 [.ref 151, .int a1, .int a2, .int a3] δ RT n (Km RT n x) := by
  refine aw_start (lo := [(0, .ref 151), (1, .int a1), (2, .int a2), (3, .int a3)]) mok_Mo_booth rfl (Nat.le_of_ble_eq_true rfl) ?_
  unfold f_Mo_booth
  refine aw_aload_n d_Mo_booth_0 0 rfl ?_
  refine aw_getR (t := 152) fl_Mo_7 kd_151 rt_151_0 d_Mo_booth_1 ?_
  refine aw_iconst d_Mo_booth_4 ki_2 ?_
  refine aw_iald kd_152 d_Mo_booth_5 ?_
  refine aw_bipush d_Mo_booth_6 kb_8 ?_
  refine aw_icmp_eq (tgt := 48) d_Mo_booth_8 rfl (fun q8 => ?_) (fun q8 => ?_)
  · refine aw_iconst d_Mo_booth_48 ki_m1 ?_
    exact aw_iret rfl rfl ⟨Nat.le_refl _, Nat.le_refl _⟩ d_Mo_booth_49
  · refine aw_aload_n d_Mo_booth_11 0 rfl ?_
    refine aw_iload_n d_Mo_booth_12 1 rfl ?_
    refine aw_V_p (As := [.int a1]) (m_Mo_isPlace) cv_Mo_68 kd_151 rfl rfl rfl (Nat.le_of_ble_eq_true rfl) ⟨Nat.le_of_ble_eq_true rfl, Nat.le_of_ble_eq_true rfl⟩ ⟨Nat.le_refl _, Nat.le_refl _⟩ d_Mo_booth_13 (fun y13 => ?_)
    refine aw_if_eq (tgt := 48) d_Mo_booth_16 rfl (fun q16 => ?_) (fun q16 => ?_)
    · refine aw_iconst d_Mo_booth_48 ki_m1 ?_
      exact aw_iret rfl rfl ⟨Nat.le_refl _, Nat.le_refl _⟩ d_Mo_booth_49
    · refine aw_aload_n d_Mo_booth_19 0 rfl ?_
      refine aw_iload_n d_Mo_booth_20 1 rfl ?_
      refine aw_V_p (As := [.int a1]) (m_Mo_at) cv_Mo_268 kd_151 rfl rfl rfl (Nat.le_of_ble_eq_true rfl) ⟨Nat.le_of_ble_eq_true rfl, Nat.le_of_ble_eq_true rfl⟩ ⟨Nat.le_refl _, Nat.le_refl _⟩ d_Mo_booth_21 (fun y21 => ?_)
      refine aw_iconst d_Mo_booth_24 ki_m1 ?_
      refine aw_icmp_ne (tgt := 48) d_Mo_booth_25 rfl (fun q25 => ?_) (fun q25 => ?_)
      · refine aw_iload_n d_Mo_booth_28 2 rfl ?_
        refine aw_i2l d_Mo_booth_29 ?_
        refine aw_lconst d_Mo_booth_30 kl_1 ?_
        refine aw_ldc2 (v := (999 : Int64)) d_Mo_booth_31 kc_Mo_72 ?_
        refine aw_S_p (As := [.long ((a2).toInt64), .long (1 : Int64), .long (999 : Int64)]) (m_Mo_in) cs_Mo_64 rfl rfl (Nat.le_of_ble_eq_true rfl) ⟨Nat.le_of_ble_eq_true rfl, Nat.le_of_ble_eq_true rfl⟩ ⟨Nat.le_refl _, Nat.le_refl _⟩ d_Mo_booth_34 (fun y34 => ?_)
        refine aw_if_eq (tgt := 48) d_Mo_booth_37 rfl (fun q37 => ?_) (fun q37 => ?_)
        · refine aw_iconst d_Mo_booth_48 ki_m1 ?_
          exact aw_iret rfl rfl ⟨Nat.le_refl _, Nat.le_refl _⟩ d_Mo_booth_49
        · refine aw_aload_n d_Mo_booth_40 0 rfl ?_
          refine aw_iload_n d_Mo_booth_41 3 rfl ?_
          refine aw_V_p (As := [.int a3]) (m_Mo_isLaw) cv_Mo_271 kd_151 rfl rfl rfl (Nat.le_of_ble_eq_true rfl) ⟨Nat.le_of_ble_eq_true rfl, Nat.le_of_ble_eq_true rfl⟩ ⟨Nat.le_refl _, Nat.le_refl _⟩ d_Mo_booth_42 (fun y42 => ?_)
          refine aw_if_ne (tgt := 50) d_Mo_booth_45 rfl (fun q45 => ?_) (fun q45 => ?_)
          · refine aw_iconst d_Mo_booth_48 ki_m1 ?_
            exact aw_iret rfl rfl ⟨Nat.le_refl _, Nat.le_refl _⟩ d_Mo_booth_49
          · refine aw_aload_n d_Mo_booth_50 0 rfl ?_
            refine aw_getR (t := 152) fl_Mo_7 kd_151 rt_151_0 d_Mo_booth_51 ?_
            refine aw_iconst d_Mo_booth_54 ki_2 ?_
            refine aw_iald kd_152 d_Mo_booth_55 ?_
            refine aw_bI (fun v56 => ?_)
            refine aw_istore (lo' := [(4, .int v56), (0, .ref 151), (1, .int a1), (2, .int a2), (3, .int a3)]) d_Mo_booth_56 (by decide) rfl ?_
            refine aw_iconst d_Mo_booth_58 ki_0 ?_
            refine aw_istore (lo' := [(5, .int (0 : Int32)), (4, .int v56), (0, .ref 151), (1, .int a1), (2, .int a2), (3, .int a3)]) d_Mo_booth_59 (by decide) rfl ?_
            refine aw_sub (lo' := [(0, .ref 151), (1, .int a1), (2, .int a2), (3, .int a3), (4, .int v56), (5, .int (0 : Int32))]) [2, 3, 4, 5, 1, 0] rfl ?_
            refine tl_Mo_booth_61 _ _ _ _ _ (fun v5_61x δ61x => ?_) FU _ _
            · refine aw_aload_n d_Mo_booth_83 0 rfl ?_
              refine aw_iload d_Mo_booth_84 4 rfl ?_
              refine aw_iconst d_Mo_booth_86 ki_0 ?_
              refine aw_iload_n d_Mo_booth_87 1 rfl ?_
              refine aw_V_v (As := [.int v56, .int (0 : Int32), .int a1]) (m_Mo_sets) cv_Mo_274 kd_151 rfl rfl rfl (Nat.le_of_ble_eq_true rfl) ⟨Nat.le_of_ble_eq_true rfl, Nat.le_of_ble_eq_true rfl⟩ ⟨Nat.le_refl _, Nat.le_refl _⟩ d_Mo_booth_88 (fun y88 => ?_)
              refine aw_aload_n d_Mo_booth_91 0 rfl ?_
              refine aw_iload d_Mo_booth_92 4 rfl ?_
              refine aw_iconst d_Mo_booth_94 ki_1 ?_
              refine aw_iload_n d_Mo_booth_95 2 rfl ?_
              refine aw_V_v (As := [.int v56, .int (1 : Int32), .int a2]) (m_Mo_sets) cv_Mo_274 kd_151 rfl rfl rfl (Nat.le_of_ble_eq_true rfl) ⟨Nat.le_of_ble_eq_true rfl, Nat.le_of_ble_eq_true rfl⟩ ⟨Nat.le_refl _, Nat.le_refl _⟩ d_Mo_booth_96 (fun y96 => ?_)
              refine aw_aload_n d_Mo_booth_99 0 rfl ?_
              refine aw_iload d_Mo_booth_100 4 rfl ?_
              refine aw_iconst d_Mo_booth_102 ki_2 ?_
              refine aw_iload_n d_Mo_booth_103 3 rfl ?_
              refine aw_V_v (As := [.int v56, .int (2 : Int32), .int a3]) (m_Mo_sets) cv_Mo_274 kd_151 rfl rfl rfl (Nat.le_of_ble_eq_true rfl) ⟨Nat.le_of_ble_eq_true rfl, Nat.le_of_ble_eq_true rfl⟩ ⟨Nat.le_refl _, Nat.le_refl _⟩ d_Mo_booth_104 (fun y104 => ?_)
              refine aw_iconst d_Mo_booth_107 ki_3 ?_
              refine aw_istore (lo' := [(5, .int (3 : Int32)), (0, .ref 151), (1, .int a1), (2, .int a2), (3, .int a3), (4, .int v56)]) d_Mo_booth_108 (by decide) rfl ?_
              refine aw_sub (lo' := [(0, .ref 151), (1, .int a1), (2, .int a2), (3, .int a3), (4, .int v56), (5, .int (3 : Int32))]) [1, 2, 3, 4, 5, 0] rfl ?_
              refine tl_Mo_booth_110 _ _ _ _ _ (fun v5_110x δ110x => ?_) FU _ _
              · refine aw_aload_n d_Mo_booth_134 0 rfl ?_
                refine aw_iload d_Mo_booth_135 4 rfl ?_
                refine aw_bipush d_Mo_booth_137 kb_10 ?_
                refine aw_aload_n d_Mo_booth_139 0 rfl ?_
                refine aw_getR (t := 152) fl_Mo_7 kd_151 rt_151_0 d_Mo_booth_140 ?_
                refine aw_iconst d_Mo_booth_143 ki_0 ?_
                refine aw_iald kd_152 d_Mo_booth_144 ?_
                refine aw_V_v (As := [.int v56, .int (10 : Int32), .int (gI δ110x 152 (ix (0 : Int32)))]) (m_Mo_sets) cv_Mo_274 kd_151 rfl rfl rfl (Nat.le_of_ble_eq_true rfl) ⟨Nat.le_of_ble_eq_true rfl, Nat.le_of_ble_eq_true rfl⟩ ⟨Nat.le_refl _, Nat.le_refl _⟩ d_Mo_booth_145 (fun y145 => ?_)
                refine aw_iconst d_Mo_booth_148 ki_0 ?_
                refine aw_istore (lo' := [(5, .int (0 : Int32)), (0, .ref 151), (1, .int a1), (2, .int a2), (3, .int a3), (4, .int v56)]) d_Mo_booth_149 (by decide) rfl ?_
                refine aw_sub (lo' := [(0, .ref 151), (1, .int a1), (2, .int a2), (3, .int a3), (4, .int v56), (5, .int (0 : Int32))]) [1, 2, 3, 4, 5, 0] rfl ?_
                refine tl_Mo_booth_151 _ _ _ _ _ (fun v5_151x δ151x => ?_) FU _ _
                · refine aw_iconst d_Mo_booth_184 ki_0 ?_
                  refine aw_istore (lo' := [(5, .int (0 : Int32)), (0, .ref 151), (1, .int a1), (2, .int a2), (3, .int a3), (4, .int v56)]) d_Mo_booth_185 (by decide) rfl ?_
                  refine aw_sub (lo' := [(0, .ref 151), (1, .int a1), (2, .int a2), (3, .int a3), (4, .int v56), (5, .int (0 : Int32))]) [1, 2, 3, 4, 5, 0] rfl ?_
                  refine tl_Mo_booth_187 _ _ _ _ _ (fun v5_187x δ187x => ?_) FU _ _
                  · refine aw_aload_n d_Mo_booth_218 0 rfl ?_
                    refine aw_getR (t := 152) fl_Mo_7 kd_151 rt_151_0 d_Mo_booth_219 ?_
                    refine aw_iconst d_Mo_booth_222 ki_2 ?_
                    refine aw_dup2 d_Mo_booth_223 rfl rfl ?_
                    refine aw_iald kd_152 d_Mo_booth_224 ?_
                    refine aw_iconst d_Mo_booth_225 ki_1 ?_
                    refine aw_iadd d_Mo_booth_226 ?_
                    refine aw_iast kd_152 d_Mo_booth_227 ?_
                    refine aw_bD (fun δ_227 => ?_)
                    refine aw_iload d_Mo_booth_228 4 rfl ?_
                    exact aw_iret rfl rfl ⟨Nat.le_refl _, Nat.le_refl _⟩ d_Mo_booth_230
      · refine aw_iconst d_Mo_booth_48 ki_m1 ?_
        exact aw_iret rfl rfl ⟨Nat.le_refl _, Nat.le_refl _⟩ d_Mo_booth_49
def f_Mo_isBooth (a1 : Int32) (δ : Dm) : Option Int32 := (if a1 < 0 then (some (0 : Int32)) else (if inb (2 : Int32) 8918 then (if (gI δ 152 (ix (2 : Int32))) ≤ a1 then (some (0 : Int32)) else (some (1 : Int32))) else none))
set_option maxHeartbeats 4000000 in
set_option maxRecDepth 100000 in
theorem m_Mo_isBooth {a1 : Int32} {δ : Dm} {n : Nat} : ∀ x, f_Mo_isBooth a1 δ = some x → AMet k_Mo_isBooth 1 0 0 [.ref 151, .int a1] δ RT n (Kp δ RT n x) := by
  refine aw_start (lo := [(0, .ref 151), (1, .int a1)]) mok_Mo_isBooth rfl (Nat.le_of_ble_eq_true rfl) ?_
  unfold f_Mo_isBooth
  refine aw_iload_n d_Mo_isBooth_0 1 rfl ?_
  refine aw_if_lt (tgt := 18) d_Mo_isBooth_1 rfl (fun q1 => ?_) (fun q1 => ?_)
  · refine aw_iconst d_Mo_isBooth_18 ki_0 ?_
    exact aw_zret rfl rfl rfl ⟨Nat.le_refl _, Nat.le_refl _⟩ d_Mo_isBooth_19
  · refine aw_iload_n d_Mo_isBooth_4 1 rfl ?_
    refine aw_aload_n d_Mo_isBooth_5 0 rfl ?_
    refine aw_getR (t := 152) fl_Mo_7 kd_151 rt_151_0 d_Mo_isBooth_6 ?_
    refine aw_iconst d_Mo_isBooth_9 ki_2 ?_
    refine aw_iald kd_152 d_Mo_isBooth_10 ?_
    refine aw_icmp_ge (tgt := 18) d_Mo_isBooth_11 rfl (fun q11 => ?_) (fun q11 => ?_)
    · refine aw_iconst d_Mo_isBooth_18 ki_0 ?_
      exact aw_zret rfl rfl rfl ⟨Nat.le_refl _, Nat.le_refl _⟩ d_Mo_isBooth_19
    · refine aw_iconst d_Mo_isBooth_14 ki_1 ?_
      refine aw_goto (tgt := 19) d_Mo_isBooth_15 rfl ?_
      exact aw_zret rfl rfl rfl ⟨Nat.le_refl _, Nat.le_refl _⟩ d_Mo_isBooth_19
def f_Mo_move (a1 : Int32) (a2 : Int32) (δ : Dm) : Option (Int32 × Dm) := ((f_Mo_isBooth a1 δ).bind (fun y2 => (if y2 = 0 then (some ((-1 : Int32), δ)) else ((f_Mo_isPlace a2 δ).bind (fun y10 => (if y10 = 0 then (some ((-1 : Int32), δ)) else ((f_Mo_at a2 δ).bind (fun y18 => (if y18 = (-1 : Int32) then ((f_Mo_cell a1 (0 : Int32) δ).bind (fun y30 => ((f_Mo_sets a1 (0 : Int32) a2 δ).bind (fun y38 => (some (y30, y38)))))) else (some ((-1 : Int32), δ)))))))))))
set_option maxHeartbeats 4000000 in
set_option maxRecDepth 100000 in
theorem m_Mo_move {a1 : Int32} {a2 : Int32} {δ : Dm} {n : Nat} : ∀ x, f_Mo_move a1 a2 δ = some x → AMet k_Mo_move 3 0 0 [.ref 151, .int a1, .int a2] δ RT n (Km RT n x) := by
  refine aw_start (lo := [(0, .ref 151), (1, .int a1), (2, .int a2)]) mok_Mo_move rfl (Nat.le_of_ble_eq_true rfl) ?_
  unfold f_Mo_move
  refine aw_aload_n d_Mo_move_0 0 rfl ?_
  refine aw_iload_n d_Mo_move_1 1 rfl ?_
  refine aw_V_p (As := [.int a1]) (m_Mo_isBooth) cv_Mo_278 kd_151 rfl rfl rfl (Nat.le_of_ble_eq_true rfl) ⟨Nat.le_of_ble_eq_true rfl, Nat.le_of_ble_eq_true rfl⟩ ⟨Nat.le_refl _, Nat.le_refl _⟩ d_Mo_move_2 (fun y2 => ?_)
  refine aw_if_eq (tgt := 25) d_Mo_move_5 rfl (fun q5 => ?_) (fun q5 => ?_)
  · refine aw_iconst d_Mo_move_25 ki_m1 ?_
    exact aw_iret rfl rfl ⟨Nat.le_refl _, Nat.le_refl _⟩ d_Mo_move_26
  · refine aw_aload_n d_Mo_move_8 0 rfl ?_
    refine aw_iload_n d_Mo_move_9 2 rfl ?_
    refine aw_V_p (As := [.int a2]) (m_Mo_isPlace) cv_Mo_68 kd_151 rfl rfl rfl (Nat.le_of_ble_eq_true rfl) ⟨Nat.le_of_ble_eq_true rfl, Nat.le_of_ble_eq_true rfl⟩ ⟨Nat.le_refl _, Nat.le_refl _⟩ d_Mo_move_10 (fun y10 => ?_)
    refine aw_if_eq (tgt := 25) d_Mo_move_13 rfl (fun q13 => ?_) (fun q13 => ?_)
    · refine aw_iconst d_Mo_move_25 ki_m1 ?_
      exact aw_iret rfl rfl ⟨Nat.le_refl _, Nat.le_refl _⟩ d_Mo_move_26
    · refine aw_aload_n d_Mo_move_16 0 rfl ?_
      refine aw_iload_n d_Mo_move_17 2 rfl ?_
      refine aw_V_p (As := [.int a2]) (m_Mo_at) cv_Mo_268 kd_151 rfl rfl rfl (Nat.le_of_ble_eq_true rfl) ⟨Nat.le_of_ble_eq_true rfl, Nat.le_of_ble_eq_true rfl⟩ ⟨Nat.le_refl _, Nat.le_refl _⟩ d_Mo_move_18 (fun y18 => ?_)
      refine aw_iconst d_Mo_move_21 ki_m1 ?_
      refine aw_icmp_eq (tgt := 27) d_Mo_move_22 rfl (fun q22 => ?_) (fun q22 => ?_)
      · refine aw_aload_n d_Mo_move_27 0 rfl ?_
        refine aw_iload_n d_Mo_move_28 1 rfl ?_
        refine aw_iconst d_Mo_move_29 ki_0 ?_
        refine aw_V_p (As := [.int a1, .int (0 : Int32)]) (m_Mo_cell) cv_Mo_265 kd_151 rfl rfl rfl (Nat.le_of_ble_eq_true rfl) ⟨Nat.le_of_ble_eq_true rfl, Nat.le_of_ble_eq_true rfl⟩ ⟨Nat.le_refl _, Nat.le_refl _⟩ d_Mo_move_30 (fun y30 => ?_)
        refine aw_istore_n (lo' := [(3, .int y30), (0, .ref 151), (1, .int a1), (2, .int a2)]) d_Mo_move_33 rfl (by decide) rfl ?_
        refine aw_aload_n d_Mo_move_34 1 rfl ?_
        refine aw_iload_n d_Mo_move_35 2 rfl ?_
        refine aw_iconst d_Mo_move_36 ki_0 ?_
        refine aw_iload_n d_Mo_move_37 3 rfl ?_
        refine aw_V_v (As := [.int a1, .int (0 : Int32), .int a2]) (m_Mo_sets) cv_Mo_274 kd_151 rfl rfl rfl (Nat.le_of_ble_eq_true rfl) ⟨Nat.le_of_ble_eq_true rfl, Nat.le_of_ble_eq_true rfl⟩ ⟨Nat.le_refl _, Nat.le_refl _⟩ d_Mo_move_38 (fun y38 => ?_)
        refine aw_iload_n d_Mo_move_41 0 rfl ?_
        exact aw_iret rfl rfl ⟨Nat.le_refl _, Nat.le_refl _⟩ d_Mo_move_42
      · refine aw_iconst d_Mo_move_25 ki_m1 ?_
        exact aw_iret rfl rfl ⟨Nat.le_refl _, Nat.le_refl _⟩ d_Mo_move_26
def f_Mo_paper (a1 : Int32) (a2 : Int32) (δ : Dm) : Option (Int32 × Dm) := ((f_Mo_isBooth a1 δ).bind (fun y2 => (if y2 = 0 then (some ((-1 : Int32), δ)) else ((f_Mo_in ((a2).toInt64) (1 : Int64) (9999 : Int64) δ).bind (fun y14 => (if y14 = 0 then (some ((-1 : Int32), δ)) else ((f_Mo_cell a1 (6 : Int32) δ).bind (fun y24 => (if (y24 + a2) ≤ (9999 : Int32) then ((f_Mo_cell a1 (6 : Int32) δ).bind (fun y45 => ((f_Mo_sets a1 (6 : Int32) (y45 + a2) δ).bind (fun y50 => ((f_Mo_cell a1 (6 : Int32) y50).bind (fun y57 => (some (y57, y50)))))))) else (some ((-1 : Int32), δ)))))))))))
set_option maxHeartbeats 4000000 in
set_option maxRecDepth 100000 in
theorem m_Mo_paper {a1 : Int32} {a2 : Int32} {δ : Dm} {n : Nat} : ∀ x, f_Mo_paper a1 a2 δ = some x → AMet k_Mo_paper 2 0 0 [.ref 151, .int a1, .int a2] δ RT n (Km RT n x) := by
  refine aw_start (lo := [(0, .ref 151), (1, .int a1), (2, .int a2)]) mok_Mo_paper rfl (Nat.le_of_ble_eq_true rfl) ?_
  unfold f_Mo_paper
  refine aw_aload_n d_Mo_paper_0 0 rfl ?_
  refine aw_iload_n d_Mo_paper_1 1 rfl ?_
  refine aw_V_p (As := [.int a1]) (m_Mo_isBooth) cv_Mo_278 kd_151 rfl rfl rfl (Nat.le_of_ble_eq_true rfl) ⟨Nat.le_of_ble_eq_true rfl, Nat.le_of_ble_eq_true rfl⟩ ⟨Nat.le_refl _, Nat.le_refl _⟩ d_Mo_paper_2 (fun y2 => ?_)
  refine aw_if_eq (tgt := 35) d_Mo_paper_5 rfl (fun q5 => ?_) (fun q5 => ?_)
  · refine aw_iconst d_Mo_paper_35 ki_m1 ?_
    exact aw_iret rfl rfl ⟨Nat.le_refl _, Nat.le_refl _⟩ d_Mo_paper_36
  · refine aw_iload_n d_Mo_paper_8 2 rfl ?_
    refine aw_i2l d_Mo_paper_9 ?_
    refine aw_lconst d_Mo_paper_10 kl_1 ?_
    refine aw_ldc2 (v := (9999 : Int64)) d_Mo_paper_11 kc_Mo_281 ?_
    refine aw_S_p (As := [.long ((a2).toInt64), .long (1 : Int64), .long (9999 : Int64)]) (m_Mo_in) cs_Mo_64 rfl rfl (Nat.le_of_ble_eq_true rfl) ⟨Nat.le_of_ble_eq_true rfl, Nat.le_of_ble_eq_true rfl⟩ ⟨Nat.le_refl _, Nat.le_refl _⟩ d_Mo_paper_14 (fun y14 => ?_)
    refine aw_if_eq (tgt := 35) d_Mo_paper_17 rfl (fun q17 => ?_) (fun q17 => ?_)
    · refine aw_iconst d_Mo_paper_35 ki_m1 ?_
      exact aw_iret rfl rfl ⟨Nat.le_refl _, Nat.le_refl _⟩ d_Mo_paper_36
    · refine aw_aload_n d_Mo_paper_20 0 rfl ?_
      refine aw_iload_n d_Mo_paper_21 1 rfl ?_
      refine aw_bipush d_Mo_paper_22 kb_6 ?_
      refine aw_V_p (As := [.int a1, .int (6 : Int32)]) (m_Mo_cell) cv_Mo_265 kd_151 rfl rfl rfl (Nat.le_of_ble_eq_true rfl) ⟨Nat.le_of_ble_eq_true rfl, Nat.le_of_ble_eq_true rfl⟩ ⟨Nat.le_refl _, Nat.le_refl _⟩ d_Mo_paper_24 (fun y24 => ?_)
      refine aw_iload_n d_Mo_paper_27 2 rfl ?_
      refine aw_iadd d_Mo_paper_28 ?_
      refine aw_sipush d_Mo_paper_29 ks_9999 ?_
      refine aw_icmp_le (tgt := 37) d_Mo_paper_32 rfl (fun q32 => ?_) (fun q32 => ?_)
      · refine aw_aload_n d_Mo_paper_37 0 rfl ?_
        refine aw_iload_n d_Mo_paper_38 1 rfl ?_
        refine aw_bipush d_Mo_paper_39 kb_6 ?_
        refine aw_aload_n d_Mo_paper_41 0 rfl ?_
        refine aw_iload_n d_Mo_paper_42 1 rfl ?_
        refine aw_bipush d_Mo_paper_43 kb_6 ?_
        refine aw_V_p (As := [.int a1, .int (6 : Int32)]) (m_Mo_cell) cv_Mo_265 kd_151 rfl rfl rfl (Nat.le_of_ble_eq_true rfl) ⟨Nat.le_of_ble_eq_true rfl, Nat.le_of_ble_eq_true rfl⟩ ⟨Nat.le_refl _, Nat.le_refl _⟩ d_Mo_paper_45 (fun y45 => ?_)
        refine aw_iload_n d_Mo_paper_48 2 rfl ?_
        refine aw_iadd d_Mo_paper_49 ?_
        refine aw_V_v (As := [.int a1, .int (6 : Int32), .int (y45 + a2)]) (m_Mo_sets) cv_Mo_274 kd_151 rfl rfl rfl (Nat.le_of_ble_eq_true rfl) ⟨Nat.le_of_ble_eq_true rfl, Nat.le_of_ble_eq_true rfl⟩ ⟨Nat.le_refl _, Nat.le_refl _⟩ d_Mo_paper_50 (fun y50 => ?_)
        refine aw_aload_n d_Mo_paper_53 0 rfl ?_
        refine aw_iload_n d_Mo_paper_54 1 rfl ?_
        refine aw_bipush d_Mo_paper_55 kb_6 ?_
        refine aw_V_p (As := [.int a1, .int (6 : Int32)]) (m_Mo_cell) cv_Mo_265 kd_151 rfl rfl rfl (Nat.le_of_ble_eq_true rfl) ⟨Nat.le_of_ble_eq_true rfl, Nat.le_of_ble_eq_true rfl⟩ ⟨Nat.le_refl _, Nat.le_refl _⟩ d_Mo_paper_57 (fun y57 => ?_)
        exact aw_iret rfl rfl ⟨Nat.le_refl _, Nat.le_refl _⟩ d_Mo_paper_60
      · refine aw_iconst d_Mo_paper_35 ki_m1 ?_
        exact aw_iret rfl rfl ⟨Nat.le_refl _, Nat.le_refl _⟩ d_Mo_paper_36
def lp_Mo_lifts_2 (kx2_27 : Int32 → Dm → Option Dm) (a1 : Int32) : Nat → Int32 → Dm → Option Dm
  | 0, _, _ => none
  | f + 1, v2_2, δ2 => (if (3 : Int32) ≤ v2_2 then (kx2_27 v2_2 δ2) else ((f_Mo_cell a1 ((3 : Int32) + v2_2) δ2).bind (fun y17 => (if inb v2_2 3 then bnd (sI δ2 162 (ix v2_2) y17) (fun δ_20 => (lp_Mo_lifts_2 kx2_27 a1 f (v2_2 + (1 : Int32)) δ_20)) else none))))
set_option maxHeartbeats 4000000 in
set_option maxRecDepth 100000 in
theorem tl_Mo_lifts_2 {n : Nat} (kx2_27 : Int32 → Dm → Option Dm) (a1 : Int32) (hkx2_27 : ∀ v2_2k δ2k, AWo k_Mo_lifts 2 0 0 27 [(0, .ref 151), (1, .int a1), (2, .int v2_2k)] [] δ2k RT n 0 0 (Kv RT n) (kx2_27 v2_2k δ2k)) : ∀ (f : Nat) (v2_2 : Int32) (δ2 : Dm), AWo k_Mo_lifts 2 0 0 2 [(0, .ref 151), (1, .int a1), (2, .int v2_2)] [] δ2 RT n 0 0 (Kv RT n) (lp_Mo_lifts_2 kx2_27 a1 f v2_2 δ2) := by
  intro f
  induction f with
  | zero => intro _ _; exact aw_none
  | succ f ih =>
    intro v2_2 δ2
    rw [lp_Mo_lifts_2]
    refine aw_iload_n d_Mo_lifts_2 2 rfl ?_
    refine aw_iconst d_Mo_lifts_3 ki_3 ?_
    refine aw_icmp_ge (tgt := 27) d_Mo_lifts_4 rfl (fun q4 => ?_) (fun q4 => ?_)
    · refine aw_sub (lo' := [(0, .ref 151), (1, .int a1), (2, .int v2_2)]) [0, 1, 2] rfl ?_
      exact hkx2_27 _ _
    · refine aw_aload_n d_Mo_lifts_7 0 rfl ?_
      refine aw_getR (t := 162) fl_Mo_42 kd_151 rt_151_21 d_Mo_lifts_8 ?_
      refine aw_iload_n d_Mo_lifts_11 2 rfl ?_
      refine aw_aload_n d_Mo_lifts_12 0 rfl ?_
      refine aw_iload_n d_Mo_lifts_13 1 rfl ?_
      refine aw_iconst d_Mo_lifts_14 ki_3 ?_
      refine aw_iload_n d_Mo_lifts_15 2 rfl ?_
      refine aw_iadd d_Mo_lifts_16 ?_
      refine aw_V_p (As := [.int a1, .int ((3 : Int32) + v2_2)]) (m_Mo_cell) cv_Mo_265 kd_151 rfl rfl rfl (Nat.le_of_ble_eq_true rfl) ⟨Nat.le_of_ble_eq_true rfl, Nat.le_of_ble_eq_true rfl⟩ ⟨Nat.le_refl _, Nat.le_refl _⟩ d_Mo_lifts_17 (fun y17 => ?_)
      refine aw_iast kd_162 d_Mo_lifts_20 ?_
      refine aw_bD (fun δ_20 => ?_)
      refine aw_iinc (v := (v2_2 + (1 : Int32))) (lo' := [(2, .int (v2_2 + (1 : Int32))), (0, .ref 151), (1, .int a1)]) d_Mo_lifts_21 2 rfl (by rw [show Int32.ofInt (1) = (1 : Int32) from by decide]) (by decide) rfl ?_
      refine aw_goto (tgt := 2) d_Mo_lifts_24 rfl ?_
      refine aw_sub (lo' := [(0, .ref 151), (1, .int a1), (2, .int (v2_2 + (1 : Int32)))]) [1, 2, 0] rfl ?_
      exact ih _ _
def f_Mo_lifts (a1 : Int32) (δ : Dm) : Option Dm := (lp_Mo_lifts_2 (fun v2_2x δ2x => (some δ2x)) a1 FU (0 : Int32) δ)
set_option maxHeartbeats 4000000 in
set_option maxRecDepth 100000 in
theorem m_Mo_lifts {a1 : Int32} {δ : Dm} {n : Nat} : ∀ x, f_Mo_lifts a1 δ = some x → AMet k_Mo_lifts 2 0 0 [.ref 151, .int a1] δ RT n (Kv RT n x) := by
  refine aw_start (lo := [(0, .ref 151), (1, .int a1)]) mok_Mo_lifts rfl (Nat.le_of_ble_eq_true rfl) ?_
  unfold f_Mo_lifts
  refine aw_iconst d_Mo_lifts_0 ki_0 ?_
  refine aw_istore_n (lo' := [(2, .int (0 : Int32)), (0, .ref 151), (1, .int a1)]) d_Mo_lifts_1 rfl (by decide) rfl ?_
  refine aw_sub (lo' := [(0, .ref 151), (1, .int a1), (2, .int (0 : Int32))]) [1, 2, 0] rfl ?_
  refine tl_Mo_lifts_2 _ _ (fun v2_2x δ2x => ?_) FU _ _
  · exact aw_vret rfl rfl ⟨Nat.le_refl _, Nat.le_refl _⟩ d_Mo_lifts_27
def f_Mo_words (a1 : Int32) (a2 : Int32) (a3 : Int32) (a4 : Int32) (a5 : Int32) (a6 : Int32) (δ : Dm) : Option Dm := (if inb (0 : Int32) 9 then bnd (sL δ 161 (ix (0 : Int32)) ((a2).toInt64)) (fun δ_7 => (if inb (1 : Int32) 9 then bnd (sL δ_7 161 (ix (1 : Int32)) ((a3).toInt64)) (fun δ_15 => ((f_Mo_cell a1 (0 : Int32) δ_15).bind (fun y31 => (if inb ((410 : Int32) + y31) 8918 then (if inb (2 : Int32) 9 then bnd (sL δ_15 161 (ix (2 : Int32)) (((gI δ_15 152 (ix ((410 : Int32) + y31)))).toInt64)) (fun δ_37 => (if inb ((10 : Int32) + a4) 8918 then (if inb (3 : Int32) 9 then bnd (sL δ_37 161 (ix (3 : Int32)) (((gI δ_37 152 (ix ((10 : Int32) + a4)))).toInt64)) (fun δ_54 => (if inb (4 : Int32) 9 then bnd (sL δ_54 161 (ix (4 : Int32)) ((a4).toInt64)) (fun δ_63 => (if inb (5 : Int32) 9 then bnd (sL δ_63 161 (ix (5 : Int32)) (0 : Int64)) (fun δ_70 => (if inb (6 : Int32) 9 then bnd (sL δ_70 161 (ix (6 : Int32)) ((a5).toInt64)) (fun δ_80 => (if inb (7 : Int32) 9 then bnd (sL δ_80 161 (ix (7 : Int32)) ((a6).toInt64)) (fun δ_90 => ((f_Mo_cell a1 (0 : Int32) δ_90).bind (fun y100 => (if inb (8 : Int32) 9 then bnd (sL δ_90 161 (ix (8 : Int32)) ((y100).toInt64)) (fun δ_104 => (some δ_104)) else none)))) else none)) else none)) else none)) else none)) else none) else none)) else none) else none)))) else none)) else none)
set_option maxHeartbeats 4000000 in
set_option maxRecDepth 100000 in
theorem m_Mo_words {a1 : Int32} {a2 : Int32} {a3 : Int32} {a4 : Int32} {a5 : Int32} {a6 : Int32} {δ : Dm} {n : Nat} : ∀ x, f_Mo_words a1 a2 a3 a4 a5 a6 δ = some x → AMet k_Mo_words 2 0 0 [.ref 151, .int a1, .int a2, .int a3, .int a4, .int a5, .int a6] δ RT n (Kv RT n x) := by
  refine aw_start (lo := [(0, .ref 151), (1, .int a1), (2, .int a2), (3, .int a3), (4, .int a4), (5, .int a5), (6, .int a6)]) mok_Mo_words rfl (Nat.le_of_ble_eq_true rfl) ?_
  unfold f_Mo_words
  refine aw_aload_n d_Mo_words_0 0 rfl ?_
  refine aw_getR (t := 161) fl_Mo_39 kd_151 rt_151_20 d_Mo_words_1 ?_
  refine aw_iconst d_Mo_words_4 ki_0 ?_
  refine aw_iload_n d_Mo_words_5 2 rfl ?_
  refine aw_i2l d_Mo_words_6 ?_
  refine aw_last kd_161 d_Mo_words_7 ?_
  refine aw_bD (fun δ_7 => ?_)
  refine aw_aload_n d_Mo_words_8 0 rfl ?_
  refine aw_getR (t := 161) fl_Mo_39 kd_151 rt_151_20 d_Mo_words_9 ?_
  refine aw_iconst d_Mo_words_12 ki_1 ?_
  refine aw_iload_n d_Mo_words_13 3 rfl ?_
  refine aw_i2l d_Mo_words_14 ?_
  refine aw_last kd_161 d_Mo_words_15 ?_
  refine aw_bD (fun δ_15 => ?_)
  refine aw_aload_n d_Mo_words_16 0 rfl ?_
  refine aw_getR (t := 161) fl_Mo_39 kd_151 rt_151_20 d_Mo_words_17 ?_
  refine aw_iconst d_Mo_words_20 ki_2 ?_
  refine aw_aload_n d_Mo_words_21 0 rfl ?_
  refine aw_getR (t := 152) fl_Mo_7 kd_151 rt_151_0 d_Mo_words_22 ?_
  refine aw_sipush d_Mo_words_25 ks_410 ?_
  refine aw_aload_n d_Mo_words_28 0 rfl ?_
  refine aw_iload_n d_Mo_words_29 1 rfl ?_
  refine aw_iconst d_Mo_words_30 ki_0 ?_
  refine aw_V_p (As := [.int a1, .int (0 : Int32)]) (m_Mo_cell) cv_Mo_265 kd_151 rfl rfl rfl (Nat.le_of_ble_eq_true rfl) ⟨Nat.le_of_ble_eq_true rfl, Nat.le_of_ble_eq_true rfl⟩ ⟨Nat.le_refl _, Nat.le_refl _⟩ d_Mo_words_31 (fun y31 => ?_)
  refine aw_iadd d_Mo_words_34 ?_
  refine aw_iald kd_152 d_Mo_words_35 ?_
  refine aw_i2l d_Mo_words_36 ?_
  refine aw_last kd_161 d_Mo_words_37 ?_
  refine aw_bD (fun δ_37 => ?_)
  refine aw_aload_n d_Mo_words_38 0 rfl ?_
  refine aw_getR (t := 161) fl_Mo_39 kd_151 rt_151_20 d_Mo_words_39 ?_
  refine aw_iconst d_Mo_words_42 ki_3 ?_
  refine aw_aload_n d_Mo_words_43 0 rfl ?_
  refine aw_getR (t := 152) fl_Mo_7 kd_151 rt_151_0 d_Mo_words_44 ?_
  refine aw_bipush d_Mo_words_47 kb_10 ?_
  refine aw_iload d_Mo_words_49 4 rfl ?_
  refine aw_iadd d_Mo_words_51 ?_
  refine aw_iald kd_152 d_Mo_words_52 ?_
  refine aw_i2l d_Mo_words_53 ?_
  refine aw_last kd_161 d_Mo_words_54 ?_
  refine aw_bD (fun δ_54 => ?_)
  refine aw_aload_n d_Mo_words_55 0 rfl ?_
  refine aw_getR (t := 161) fl_Mo_39 kd_151 rt_151_20 d_Mo_words_56 ?_
  refine aw_iconst d_Mo_words_59 ki_4 ?_
  refine aw_iload d_Mo_words_60 4 rfl ?_
  refine aw_i2l d_Mo_words_62 ?_
  refine aw_last kd_161 d_Mo_words_63 ?_
  refine aw_bD (fun δ_63 => ?_)
  refine aw_aload_n d_Mo_words_64 0 rfl ?_
  refine aw_getR (t := 161) fl_Mo_39 kd_151 rt_151_20 d_Mo_words_65 ?_
  refine aw_iconst d_Mo_words_68 ki_5 ?_
  refine aw_lconst d_Mo_words_69 kl_0 ?_
  refine aw_last kd_161 d_Mo_words_70 ?_
  refine aw_bD (fun δ_70 => ?_)
  refine aw_aload_n d_Mo_words_71 0 rfl ?_
  refine aw_getR (t := 161) fl_Mo_39 kd_151 rt_151_20 d_Mo_words_72 ?_
  refine aw_bipush d_Mo_words_75 kb_6 ?_
  refine aw_iload d_Mo_words_77 5 rfl ?_
  refine aw_i2l d_Mo_words_79 ?_
  refine aw_last kd_161 d_Mo_words_80 ?_
  refine aw_bD (fun δ_80 => ?_)
  refine aw_aload_n d_Mo_words_81 0 rfl ?_
  refine aw_getR (t := 161) fl_Mo_39 kd_151 rt_151_20 d_Mo_words_82 ?_
  refine aw_bipush d_Mo_words_85 kb_7 ?_
  refine aw_iload d_Mo_words_87 6 rfl ?_
  refine aw_i2l d_Mo_words_89 ?_
  refine aw_last kd_161 d_Mo_words_90 ?_
  refine aw_bD (fun δ_90 => ?_)
  refine aw_aload_n d_Mo_words_91 0 rfl ?_
  refine aw_getR (t := 161) fl_Mo_39 kd_151 rt_151_20 d_Mo_words_92 ?_
  refine aw_bipush d_Mo_words_95 kb_8 ?_
  refine aw_aload_n d_Mo_words_97 0 rfl ?_
  refine aw_iload_n d_Mo_words_98 1 rfl ?_
  refine aw_iconst d_Mo_words_99 ki_0 ?_
  refine aw_V_p (As := [.int a1, .int (0 : Int32)]) (m_Mo_cell) cv_Mo_265 kd_151 rfl rfl rfl (Nat.le_of_ble_eq_true rfl) ⟨Nat.le_of_ble_eq_true rfl, Nat.le_of_ble_eq_true rfl⟩ ⟨Nat.le_refl _, Nat.le_refl _⟩ d_Mo_words_100 (fun y100 => ?_)
  refine aw_i2l d_Mo_words_103 ?_
  refine aw_last kd_161 d_Mo_words_104 ?_
  refine aw_bD (fun δ_104 => ?_)
  exact aw_vret rfl rfl ⟨Nat.le_refl _, Nat.le_refl _⟩ d_Mo_words_105
def f_Mo_push (a1 : Int64) (δ : Dm) : Option Dm := (if inb (gI δ 151 19) 64 then bnd (sL δ 160 (ix (gI δ 151 19)) a1) (fun δ_9 => (bnd (sI δ_9 151 19 ((gI δ_9 151 19) + (1 : Int32))) (fun δ_17 => (some δ_17)))) else none)
set_option maxHeartbeats 4000000 in
set_option maxRecDepth 100000 in
theorem m_Mo_push {a1 : Int64} {δ : Dm} {n : Nat} : ∀ x, f_Mo_push a1 δ = some x → AMet k_Mo_push 1 0 0 [.ref 151, .long a1] δ RT n (Kv RT n x) := by
  refine aw_start (lo := [(0, .ref 151), (1, .long a1)]) mok_Mo_push rfl (Nat.le_of_ble_eq_true rfl) ?_
  unfold f_Mo_push
  refine aw_aload_n d_Mo_push_0 0 rfl ?_
  refine aw_getR (t := 160) fl_Mo_35 kd_151 rt_151_18 d_Mo_push_1 ?_
  refine aw_aload_n d_Mo_push_4 0 rfl ?_
  refine aw_getI fl_Mo_242 kd_151 d_Mo_push_5 ?_
  refine aw_lload_n d_Mo_push_8 1 rfl ?_
  refine aw_last kd_160 d_Mo_push_9 ?_
  refine aw_bD (fun δ_9 => ?_)
  refine aw_aload_n d_Mo_push_10 0 rfl ?_
  refine aw_dup d_Mo_push_11 rfl ?_
  refine aw_getI fl_Mo_242 kd_151 d_Mo_push_12 ?_
  refine aw_iconst d_Mo_push_15 ki_1 ?_
  refine aw_iadd d_Mo_push_16 ?_
  refine aw_putI pf_Mo_242 kd_151 d_Mo_push_17 ?_
  refine aw_bD (fun δ_17 => ?_)
  exact aw_vret rfl rfl ⟨Nat.le_refl _, Nat.le_refl _⟩ d_Mo_push_20
def f_Mo_pop (δ : Dm) : Option (Int64 × Dm) := (bnd (sI δ 151 19 ((gI δ 151 19) - (1 : Int32))) (fun δ_7 => (if inb (gI δ_7 151 19) 64 then (some ((gL δ_7 160 (ix (gI δ_7 151 19))), δ_7)) else none)))
set_option maxHeartbeats 4000000 in
set_option maxRecDepth 100000 in
theorem m_Mo_pop {δ : Dm} {n : Nat} : ∀ x, f_Mo_pop δ = some x → AMet k_Mo_pop 1 0 0 [.ref 151] δ RT n (Kn RT n x) := by
  refine aw_start (lo := [(0, .ref 151)]) mok_Mo_pop rfl (Nat.le_of_ble_eq_true rfl) ?_
  unfold f_Mo_pop
  refine aw_aload_n d_Mo_pop_0 0 rfl ?_
  refine aw_dup d_Mo_pop_1 rfl ?_
  refine aw_getI fl_Mo_242 kd_151 d_Mo_pop_2 ?_
  refine aw_iconst d_Mo_pop_5 ki_1 ?_
  refine aw_isub d_Mo_pop_6 ?_
  refine aw_putI pf_Mo_242 kd_151 d_Mo_pop_7 ?_
  refine aw_bD (fun δ_7 => ?_)
  refine aw_aload_n d_Mo_pop_10 0 rfl ?_
  refine aw_getR (t := 160) fl_Mo_35 kd_151 rt_151_18 d_Mo_pop_11 ?_
  refine aw_aload_n d_Mo_pop_14 0 rfl ?_
  refine aw_getI fl_Mo_242 kd_151 d_Mo_pop_15 ?_
  refine aw_lald kd_160 d_Mo_pop_18 ?_
  exact aw_lret rfl rfl ⟨Nat.le_refl _, Nat.le_refl _⟩ d_Mo_pop_19
def f_Mo_one (a0 : Int32) (a1 : Int64) (a3 : Int64) (δ : Dm) : Option Int64 := (if (a0).toInt = (2 : Int) then (some (a1 + a3)) else (if (a0).toInt = (3 : Int) then (some (a1 - a3)) else (if (a0).toInt = (4 : Int) then (some (a1 * a3)) else (if (a0).toInt = (5 : Int) then (if (lg_cmp a3 (0 : Int64)) = 0 then (some (0 : Int64)) else (if a3 = 0 then none else (some (a1 / a3)))) else (if (a0).toInt = (6 : Int) then (if 0 ≤ (lg_cmp a1 a3) then (some (0 : Int64)) else (some (1 : Int64))) else (if (a0).toInt = (7 : Int) then (if 0 < (lg_cmp a1 a3) then (some (0 : Int64)) else (some (1 : Int64))) else (if (a0).toInt = (8 : Int) then (if (lg_cmp a1 a3) = 0 then (some (1 : Int64)) else (some (0 : Int64))) else (if (a0).toInt = (9 : Int) then (if (lg_cmp a1 a3) < 0 then (some (0 : Int64)) else (some (1 : Int64))) else (if (a0).toInt = (10 : Int) then (if (lg_cmp a1 a3) ≤ 0 then (some (0 : Int64)) else (some (1 : Int64))) else (if (a0).toInt = (11 : Int) then (some (a1 ||| a3)) else (if (a0).toInt = (12 : Int) then (some (a1 &&& a3)) else (some (a1 ||| a3)))))))))))))
set_option maxHeartbeats 4000000 in
set_option maxRecDepth 100000 in
theorem m_Mo_one {a0 : Int32} {a1 : Int64} {a3 : Int64} {δ : Dm} {n : Nat} : ∀ x, f_Mo_one a0 a1 a3 δ = some x → AMet k_Mo_one 1 0 0 [.int a0, .long a1, .long a3] δ RT n (Kl δ RT n x) := by
  refine aw_start (lo := [(0, .int a0), (1, .long a1), (3, .long a3)]) mok_Mo_one rfl (Nat.le_of_ble_eq_true rfl) ?_
  unfold f_Mo_one
  refine aw_iload_n d_Mo_one_0 0 rfl ?_
  refine aw_ite (fun q1 => ?_) (fun q1_0 => ?_)
  · refine aw_tswitch (tgt := 60) d_Mo_one_1 q1 (by decide) (by decide) rfl rfl ?_
    refine aw_lload_n d_Mo_one_60 1 rfl ?_
    refine aw_lload_n d_Mo_one_61 2 rfl ?_
    refine aw_ladd d_Mo_one_62 ?_
    exact aw_lret rfl rfl ⟨Nat.le_refl _, Nat.le_refl _⟩ d_Mo_one_63
  · refine aw_ite (fun q1 => ?_) (fun q1_1 => ?_)
    · refine aw_tswitch (tgt := 64) d_Mo_one_1 q1 (by decide) (by decide) rfl rfl ?_
      refine aw_lload_n d_Mo_one_64 1 rfl ?_
      refine aw_lload_n d_Mo_one_65 2 rfl ?_
      refine aw_lsub d_Mo_one_66 ?_
      exact aw_lret rfl rfl ⟨Nat.le_refl _, Nat.le_refl _⟩ d_Mo_one_67
    · refine aw_ite (fun q1 => ?_) (fun q1_2 => ?_)
      · refine aw_tswitch (tgt := 68) d_Mo_one_1 q1 (by decide) (by decide) rfl rfl ?_
        refine aw_lload_n d_Mo_one_68 1 rfl ?_
        refine aw_lload_n d_Mo_one_69 2 rfl ?_
        refine aw_lmul d_Mo_one_70 ?_
        exact aw_lret rfl rfl ⟨Nat.le_refl _, Nat.le_refl _⟩ d_Mo_one_71
      · refine aw_ite (fun q1 => ?_) (fun q1_3 => ?_)
        · refine aw_tswitch (tgt := 72) d_Mo_one_1 q1 (by decide) (by decide) rfl rfl ?_
          refine aw_lload_n d_Mo_one_72 2 rfl ?_
          refine aw_lconst d_Mo_one_73 kl_0 ?_
          refine aw_lcmp d_Mo_one_74 ?_
          refine aw_if_ne (tgt := 82) d_Mo_one_75 rfl (fun q75 => ?_) (fun q75 => ?_)
          · refine aw_lconst d_Mo_one_78 kl_0 ?_
            refine aw_goto (tgt := 85) d_Mo_one_79 rfl ?_
            exact aw_lret rfl rfl ⟨Nat.le_refl _, Nat.le_refl _⟩ d_Mo_one_85
          · refine aw_lload_n d_Mo_one_82 1 rfl ?_
            refine aw_lload_n d_Mo_one_83 2 rfl ?_
            refine aw_ldiv d_Mo_one_84 ?_
            exact aw_lret rfl rfl ⟨Nat.le_refl _, Nat.le_refl _⟩ d_Mo_one_85
        · refine aw_ite (fun q1 => ?_) (fun q1_4 => ?_)
          · refine aw_tswitch (tgt := 86) d_Mo_one_1 q1 (by decide) (by decide) rfl rfl ?_
            refine aw_lload_n d_Mo_one_86 1 rfl ?_
            refine aw_lload_n d_Mo_one_87 2 rfl ?_
            refine aw_lcmp d_Mo_one_88 ?_
            refine aw_if_ge (tgt := 96) d_Mo_one_89 rfl (fun q89 => ?_) (fun q89 => ?_)
            · refine aw_lconst d_Mo_one_96 kl_0 ?_
              exact aw_lret rfl rfl ⟨Nat.le_refl _, Nat.le_refl _⟩ d_Mo_one_97
            · refine aw_lconst d_Mo_one_92 kl_1 ?_
              refine aw_goto (tgt := 97) d_Mo_one_93 rfl ?_
              exact aw_lret rfl rfl ⟨Nat.le_refl _, Nat.le_refl _⟩ d_Mo_one_97
          · refine aw_ite (fun q1 => ?_) (fun q1_5 => ?_)
            · refine aw_tswitch (tgt := 98) d_Mo_one_1 q1 (by decide) (by decide) rfl rfl ?_
              refine aw_lload_n d_Mo_one_98 1 rfl ?_
              refine aw_lload_n d_Mo_one_99 2 rfl ?_
              refine aw_lcmp d_Mo_one_100 ?_
              refine aw_if_gt (tgt := 108) d_Mo_one_101 rfl (fun q101 => ?_) (fun q101 => ?_)
              · refine aw_lconst d_Mo_one_108 kl_0 ?_
                exact aw_lret rfl rfl ⟨Nat.le_refl _, Nat.le_refl _⟩ d_Mo_one_109
              · refine aw_lconst d_Mo_one_104 kl_1 ?_
                refine aw_goto (tgt := 109) d_Mo_one_105 rfl ?_
                exact aw_lret rfl rfl ⟨Nat.le_refl _, Nat.le_refl _⟩ d_Mo_one_109
            · refine aw_ite (fun q1 => ?_) (fun q1_6 => ?_)
              · refine aw_tswitch (tgt := 110) d_Mo_one_1 q1 (by decide) (by decide) rfl rfl ?_
                refine aw_lload_n d_Mo_one_110 1 rfl ?_
                refine aw_lload_n d_Mo_one_111 2 rfl ?_
                refine aw_lcmp d_Mo_one_112 ?_
                refine aw_if_ne (tgt := 120) d_Mo_one_113 rfl (fun q113 => ?_) (fun q113 => ?_)
                · refine aw_lconst d_Mo_one_116 kl_1 ?_
                  refine aw_goto (tgt := 121) d_Mo_one_117 rfl ?_
                  exact aw_lret rfl rfl ⟨Nat.le_refl _, Nat.le_refl _⟩ d_Mo_one_121
                · refine aw_lconst d_Mo_one_120 kl_0 ?_
                  exact aw_lret rfl rfl ⟨Nat.le_refl _, Nat.le_refl _⟩ d_Mo_one_121
              · refine aw_ite (fun q1 => ?_) (fun q1_7 => ?_)
                · refine aw_tswitch (tgt := 122) d_Mo_one_1 q1 (by decide) (by decide) rfl rfl ?_
                  refine aw_lload_n d_Mo_one_122 1 rfl ?_
                  refine aw_lload_n d_Mo_one_123 2 rfl ?_
                  refine aw_lcmp d_Mo_one_124 ?_
                  refine aw_if_lt (tgt := 132) d_Mo_one_125 rfl (fun q125 => ?_) (fun q125 => ?_)
                  · refine aw_lconst d_Mo_one_132 kl_0 ?_
                    exact aw_lret rfl rfl ⟨Nat.le_refl _, Nat.le_refl _⟩ d_Mo_one_133
                  · refine aw_lconst d_Mo_one_128 kl_1 ?_
                    refine aw_goto (tgt := 133) d_Mo_one_129 rfl ?_
                    exact aw_lret rfl rfl ⟨Nat.le_refl _, Nat.le_refl _⟩ d_Mo_one_133
                · refine aw_ite (fun q1 => ?_) (fun q1_8 => ?_)
                  · refine aw_tswitch (tgt := 134) d_Mo_one_1 q1 (by decide) (by decide) rfl rfl ?_
                    refine aw_lload_n d_Mo_one_134 1 rfl ?_
                    refine aw_lload_n d_Mo_one_135 2 rfl ?_
                    refine aw_lcmp d_Mo_one_136 ?_
                    refine aw_if_le (tgt := 144) d_Mo_one_137 rfl (fun q137 => ?_) (fun q137 => ?_)
                    · refine aw_lconst d_Mo_one_144 kl_0 ?_
                      exact aw_lret rfl rfl ⟨Nat.le_refl _, Nat.le_refl _⟩ d_Mo_one_145
                    · refine aw_lconst d_Mo_one_140 kl_1 ?_
                      refine aw_goto (tgt := 145) d_Mo_one_141 rfl ?_
                      exact aw_lret rfl rfl ⟨Nat.le_refl _, Nat.le_refl _⟩ d_Mo_one_145
                  · refine aw_ite (fun q1 => ?_) (fun q1_9 => ?_)
                    · refine aw_tswitch (tgt := 150) d_Mo_one_1 q1 (by decide) (by decide) rfl rfl ?_
                      refine aw_lload_n d_Mo_one_150 1 rfl ?_
                      refine aw_lload_n d_Mo_one_151 2 rfl ?_
                      refine aw_lor d_Mo_one_152 ?_
                      exact aw_lret rfl rfl ⟨Nat.le_refl _, Nat.le_refl _⟩ d_Mo_one_153
                    · refine aw_ite (fun q1 => ?_) (fun q1_10 => ?_)
                      · refine aw_tswitch (tgt := 146) d_Mo_one_1 q1 (by decide) (by decide) rfl rfl ?_
                        refine aw_lload_n d_Mo_one_146 1 rfl ?_
                        refine aw_lload_n d_Mo_one_147 2 rfl ?_
                        refine aw_land d_Mo_one_148 ?_
                        exact aw_lret rfl rfl ⟨Nat.le_refl _, Nat.le_refl _⟩ d_Mo_one_149
                      · refine aw_tdflt (tgt := 150) d_Mo_one_1 (by omega) rfl ?_
                        refine aw_lload_n d_Mo_one_150 1 rfl ?_
                        refine aw_lload_n d_Mo_one_151 2 rfl ?_
                        refine aw_lor d_Mo_one_152 ?_
                        exact aw_lret rfl rfl ⟨Nat.le_refl _, Nat.le_refl _⟩ d_Mo_one_153
def lp_Mo_reckons_8 (kx8_135 : Int32 → Dm → Option (Int64 × Dm)) (a1 : Int32) (a2 : Int32) (a3 : Int32) : Nat → Int32 → Dm → Option (Int64 × Dm)
  | 0, _, _ => none
  | f + 1, v4_8, δ8 => (if a3 ≤ v4_8 then (kx8_135 v4_8 δ8) else (if inb (((400 : Int32) * a1) + v4_8) 3200 then (bnd ((gI δ8 154 (ix (((400 : Int32) * a1) + v4_8))) &&& (15 : Int32)) (fun v30 => (if inb (((400 : Int32) * a1) + v4_8) 3200 then (bnd ((gI δ8 154 (ix (((400 : Int32) * a1) + v4_8))) >>> ((4 : Int32) &&& 31)) (fun v47 => (if v30 = 0 then ((f_Mo_push ((v47).toInt64) δ8).bind (fun y58 => (lp_Mo_reckons_8 kx8_135 a1 a2 a3 f (v4_8 + (1 : Int32)) y58))) else (if v30 = (1 : Int32) then (if inb v47 9 then ((f_Mo_push (gL δ8 161 (ix v47)) δ8).bind (fun y78 => (lp_Mo_reckons_8 kx8_135 a1 a2 a3 f (v4_8 + (1 : Int32)) y78))) else none) else (if v30 = (11 : Int32) then ((f_Mo_pop δ8).bind (fun y94 => bnd y94.1 (fun v94 => bnd y94.2 (fun δ_94 => ((f_Mo_push ((1 : Int64) - v94) δ_94).bind (fun y98 => (lp_Mo_reckons_8 kx8_135 a1 a2 a3 f (v4_8 + (1 : Int32)) y98))))))) else ((f_Mo_pop δ8).bind (fun y105 => bnd y105.1 (fun v105 => bnd y105.2 (fun δ_105 => ((f_Mo_pop δ_105).bind (fun y111 => bnd y111.1 (fun v111 => bnd y111.2 (fun δ_111 => ((f_Mo_one v30 v111 v105 δ_111).bind (fun y123 => ((f_Mo_push y123 δ_111).bind (fun y126 => (lp_Mo_reckons_8 kx8_135 a1 a2 a3 f (v4_8 + (1 : Int32)) y126)))))))))))))))))) else none))) else none))
set_option maxHeartbeats 4000000 in
set_option maxRecDepth 100000 in
theorem tl_Mo_reckons_8 {n : Nat} (kx8_135 : Int32 → Dm → Option (Int64 × Dm)) (a1 : Int32) (a2 : Int32) (a3 : Int32) (hkx8_135 : ∀ v4_8k δ8k, AWo k_Mo_reckons 2 0 0 135 [(0, .ref 151), (1, .int a1), (2, .int a2), (3, .int a3), (4, .int v4_8k)] [] δ8k RT n 0 0 (Kn RT n) (kx8_135 v4_8k δ8k)) : ∀ (f : Nat) (v4_8 : Int32) (δ8 : Dm), AWo k_Mo_reckons 2 0 0 8 [(0, .ref 151), (1, .int a1), (2, .int a2), (3, .int a3), (4, .int v4_8)] [] δ8 RT n 0 0 (Kn RT n) (lp_Mo_reckons_8 kx8_135 a1 a2 a3 f v4_8 δ8) := by
  intro f
  induction f with
  | zero => intro _ _; exact aw_none
  | succ f ih =>
    intro v4_8 δ8
    rw [lp_Mo_reckons_8]
    refine aw_iload d_Mo_reckons_8 4 rfl ?_
    refine aw_iload_n d_Mo_reckons_10 3 rfl ?_
    refine aw_icmp_ge (tgt := 135) d_Mo_reckons_11 rfl (fun q11 => ?_) (fun q11 => ?_)
    · refine aw_sub (lo' := [(0, .ref 151), (1, .int a1), (2, .int a2), (3, .int a3), (4, .int v4_8)]) [0, 1, 2, 3, 4] rfl ?_
      exact hkx8_135 _ _
    · refine aw_aload_n d_Mo_reckons_14 0 rfl ?_
      refine aw_getR (t := 154) fl_Mo_17 kd_151 rt_151_4 d_Mo_reckons_15 ?_
      refine aw_sipush d_Mo_reckons_18 ks_400 ?_
      refine aw_iload_n d_Mo_reckons_21 1 rfl ?_
      refine aw_imul d_Mo_reckons_22 ?_
      refine aw_iload d_Mo_reckons_23 4 rfl ?_
      refine aw_iadd d_Mo_reckons_25 ?_
      refine aw_iald kd_154 d_Mo_reckons_26 ?_
      refine aw_bipush d_Mo_reckons_27 kb_15 ?_
      refine aw_iand d_Mo_reckons_29 ?_
      refine aw_bI (fun v30 => ?_)
      refine aw_istore (lo' := [(5, .int v30), (0, .ref 151), (1, .int a1), (2, .int a2), (3, .int a3), (4, .int v4_8)]) d_Mo_reckons_30 (by decide) rfl ?_
      refine aw_aload_n d_Mo_reckons_32 1 rfl ?_
      refine aw_getR (t := 154) fl_Mo_17 kd_151 rt_151_4 d_Mo_reckons_33 ?_
      refine aw_sipush d_Mo_reckons_36 ks_400 ?_
      refine aw_iload_n d_Mo_reckons_39 2 rfl ?_
      refine aw_imul d_Mo_reckons_40 ?_
      refine aw_iload d_Mo_reckons_41 5 rfl ?_
      refine aw_iadd d_Mo_reckons_43 ?_
      refine aw_iald kd_154 d_Mo_reckons_44 ?_
      refine aw_iconst d_Mo_reckons_45 ki_4 ?_
      refine aw_ishr d_Mo_reckons_46 ?_
      refine aw_bI (fun v47 => ?_)
      refine aw_istore (lo' := [(6, .int v47), (5, .int v30), (0, .ref 151), (1, .int a1), (2, .int a2), (3, .int a3), (4, .int v4_8)]) d_Mo_reckons_47 (by decide) rfl ?_
      refine aw_iload d_Mo_reckons_49 1 rfl ?_
      refine aw_if_ne (tgt := 64) d_Mo_reckons_51 rfl (fun q51 => ?_) (fun q51 => ?_)
      · refine aw_aload_n d_Mo_reckons_54 2 rfl ?_
        refine aw_iload d_Mo_reckons_55 0 rfl ?_
        refine aw_i2l d_Mo_reckons_57 ?_
        refine aw_V_v (As := [.long ((v47).toInt64)]) (m_Mo_push) cv_Mo_245 kd_151 rfl rfl rfl (Nat.le_of_ble_eq_true rfl) ⟨Nat.le_of_ble_eq_true rfl, Nat.le_of_ble_eq_true rfl⟩ ⟨Nat.le_refl _, Nat.le_refl _⟩ d_Mo_reckons_58 (fun y58 => ?_)
        refine aw_goto (tgt := 129) d_Mo_reckons_61 rfl ?_
        refine aw_iinc (v := (v4_8 + (1 : Int32))) (lo' := [(4, .int (v4_8 + (1 : Int32))), (6, .int v47), (5, .int v30), (0, .ref 151), (1, .int a1), (2, .int a2), (3, .int a3)]) d_Mo_reckons_129 6 rfl (by rw [show Int32.ofInt (1) = (1 : Int32) from by decide]) (by decide) rfl ?_
        refine aw_goto (tgt := 8) d_Mo_reckons_132 rfl ?_
        refine aw_sub (lo' := [(0, .ref 151), (1, .int a1), (2, .int a2), (3, .int a3), (4, .int (v4_8 + (1 : Int32)))]) [3, 4, 5, 6, 0] rfl ?_
        exact ih _ _
      · refine aw_iload d_Mo_reckons_64 1 rfl ?_
        refine aw_iconst d_Mo_reckons_66 ki_1 ?_
        refine aw_icmp_ne (tgt := 84) d_Mo_reckons_67 rfl (fun q67 => ?_) (fun q67 => ?_)
        · refine aw_aload_n d_Mo_reckons_70 2 rfl ?_
          refine aw_aload_n d_Mo_reckons_71 2 rfl ?_
          refine aw_getR (t := 161) fl_Mo_39 kd_151 rt_151_20 d_Mo_reckons_72 ?_
          refine aw_iload d_Mo_reckons_75 0 rfl ?_
          refine aw_lald kd_161 d_Mo_reckons_77 ?_
          refine aw_V_v (As := [.long (gL δ8 161 (ix v47))]) (m_Mo_push) cv_Mo_245 kd_151 rfl rfl rfl (Nat.le_of_ble_eq_true rfl) ⟨Nat.le_of_ble_eq_true rfl, Nat.le_of_ble_eq_true rfl⟩ ⟨Nat.le_refl _, Nat.le_refl _⟩ d_Mo_reckons_78 (fun y78 => ?_)
          refine aw_goto (tgt := 129) d_Mo_reckons_81 rfl ?_
          refine aw_iinc (v := (v4_8 + (1 : Int32))) (lo' := [(4, .int (v4_8 + (1 : Int32))), (6, .int v47), (5, .int v30), (0, .ref 151), (1, .int a1), (2, .int a2), (3, .int a3)]) d_Mo_reckons_129 6 rfl (by rw [show Int32.ofInt (1) = (1 : Int32) from by decide]) (by decide) rfl ?_
          refine aw_goto (tgt := 8) d_Mo_reckons_132 rfl ?_
          refine aw_sub (lo' := [(0, .ref 151), (1, .int a1), (2, .int a2), (3, .int a3), (4, .int (v4_8 + (1 : Int32)))]) [3, 4, 5, 6, 0] rfl ?_
          exact ih _ _
        · refine aw_iload d_Mo_reckons_84 1 rfl ?_
          refine aw_bipush d_Mo_reckons_86 kb_11 ?_
          refine aw_icmp_ne (tgt := 104) d_Mo_reckons_88 rfl (fun q88 => ?_) (fun q88 => ?_)
          · refine aw_aload_n d_Mo_reckons_91 2 rfl ?_
            refine aw_lconst d_Mo_reckons_92 kl_1 ?_
            refine aw_aload_n d_Mo_reckons_93 2 rfl ?_
            refine aw_V_n (As := []) (m_Mo_pop) cv_Mo_249 kd_151 rfl rfl rfl (Nat.le_of_ble_eq_true rfl) ⟨Nat.le_of_ble_eq_true rfl, Nat.le_of_ble_eq_true rfl⟩ ⟨Nat.le_refl _, Nat.le_refl _⟩ d_Mo_reckons_94 (fun y94 => ?_)
            refine aw_bL (fun v94 => ?_)
            refine aw_bD (fun δ_94 => ?_)
            refine aw_lsub d_Mo_reckons_97 ?_
            refine aw_V_v (As := [.long ((1 : Int64) - v94)]) (m_Mo_push) cv_Mo_245 kd_151 rfl rfl rfl (Nat.le_of_ble_eq_true rfl) ⟨Nat.le_of_ble_eq_true rfl, Nat.le_of_ble_eq_true rfl⟩ ⟨Nat.le_refl _, Nat.le_refl _⟩ d_Mo_reckons_98 (fun y98 => ?_)
            refine aw_goto (tgt := 129) d_Mo_reckons_101 rfl ?_
            refine aw_iinc (v := (v4_8 + (1 : Int32))) (lo' := [(4, .int (v4_8 + (1 : Int32))), (6, .int v47), (5, .int v30), (0, .ref 151), (1, .int a1), (2, .int a2), (3, .int a3)]) d_Mo_reckons_129 6 rfl (by rw [show Int32.ofInt (1) = (1 : Int32) from by decide]) (by decide) rfl ?_
            refine aw_goto (tgt := 8) d_Mo_reckons_132 rfl ?_
            refine aw_sub (lo' := [(0, .ref 151), (1, .int a1), (2, .int a2), (3, .int a3), (4, .int (v4_8 + (1 : Int32)))]) [3, 4, 5, 6, 0] rfl ?_
            exact ih _ _
          · refine aw_aload_n d_Mo_reckons_104 2 rfl ?_
            refine aw_V_n (As := []) (m_Mo_pop) cv_Mo_249 kd_151 rfl rfl rfl (Nat.le_of_ble_eq_true rfl) ⟨Nat.le_of_ble_eq_true rfl, Nat.le_of_ble_eq_true rfl⟩ ⟨Nat.le_refl _, Nat.le_refl _⟩ d_Mo_reckons_105 (fun y105 => ?_)
            refine aw_bL (fun v105 => ?_)
            refine aw_bD (fun δ_105 => ?_)
            refine aw_lstore (lo' := [(7, .long v105), (6, .int v47), (5, .int v30), (0, .ref 151), (1, .int a1), (2, .int a2), (3, .int a3), (4, .int v4_8)]) d_Mo_reckons_108 (by decide) rfl ?_
            refine aw_aload_n d_Mo_reckons_110 3 rfl ?_
            refine aw_V_n (As := []) (m_Mo_pop) cv_Mo_249 kd_151 rfl rfl rfl (Nat.le_of_ble_eq_true rfl) ⟨Nat.le_of_ble_eq_true rfl, Nat.le_of_ble_eq_true rfl⟩ ⟨Nat.le_refl _, Nat.le_refl _⟩ d_Mo_reckons_111 (fun y111 => ?_)
            refine aw_bL (fun v111 => ?_)
            refine aw_bD (fun δ_111 => ?_)
            refine aw_lstore (lo' := [(9, .long v111), (7, .long v105), (6, .int v47), (5, .int v30), (0, .ref 151), (1, .int a1), (2, .int a2), (3, .int a3), (4, .int v4_8)]) d_Mo_reckons_114 (by decide) rfl ?_
            refine aw_aload_n d_Mo_reckons_116 4 rfl ?_
            refine aw_iload d_Mo_reckons_117 3 rfl ?_
            refine aw_lload d_Mo_reckons_119 0 rfl ?_
            refine aw_lload d_Mo_reckons_121 1 rfl ?_
            refine aw_S_l (As := [.int v30, .long v111, .long v105]) (m_Mo_one) cs_Mo_253 rfl rfl (Nat.le_of_ble_eq_true rfl) ⟨Nat.le_of_ble_eq_true rfl, Nat.le_of_ble_eq_true rfl⟩ ⟨Nat.le_refl _, Nat.le_refl _⟩ d_Mo_reckons_123 (fun y123 => ?_)
            refine aw_V_v (As := [.long y123]) (m_Mo_push) cv_Mo_245 kd_151 rfl rfl rfl (Nat.le_of_ble_eq_true rfl) ⟨Nat.le_of_ble_eq_true rfl, Nat.le_of_ble_eq_true rfl⟩ ⟨Nat.le_refl _, Nat.le_refl _⟩ d_Mo_reckons_126 (fun y126 => ?_)
            refine aw_iinc (v := (v4_8 + (1 : Int32))) (lo' := [(4, .int (v4_8 + (1 : Int32))), (9, .long v111), (7, .long v105), (6, .int v47), (5, .int v30), (0, .ref 151), (1, .int a1), (2, .int a2), (3, .int a3)]) d_Mo_reckons_129 8 rfl (by rw [show Int32.ofInt (1) = (1 : Int32) from by decide]) (by decide) rfl ?_
            refine aw_goto (tgt := 8) d_Mo_reckons_132 rfl ?_
            refine aw_sub (lo' := [(0, .ref 151), (1, .int a1), (2, .int a2), (3, .int a3), (4, .int (v4_8 + (1 : Int32)))]) [5, 6, 7, 8, 0] rfl ?_
            exact ih _ _
def f_Mo_reckons (a1 : Int32) (a2 : Int32) (a3 : Int32) (δ : Dm) : Option (Int64 × Dm) := (bnd (sI δ 151 19 (0 : Int32)) (fun δ_2 => (lp_Mo_reckons_8 (fun v4_8x δ8x => ((f_Mo_pop δ8x).bind (fun y136 => bnd y136.1 (fun v136 => bnd y136.2 (fun δ_136 => (some (v136, δ_136))))))) a1 a2 a3 FU a2 δ_2)))
set_option maxHeartbeats 4000000 in
set_option maxRecDepth 100000 in
theorem m_Mo_reckons {a1 : Int32} {a2 : Int32} {a3 : Int32} {δ : Dm} {n : Nat} : ∀ x, f_Mo_reckons a1 a2 a3 δ = some x → AMet k_Mo_reckons 2 0 0 [.ref 151, .int a1, .int a2, .int a3] δ RT n (Kn RT n x) := by
  refine aw_start (lo := [(0, .ref 151), (1, .int a1), (2, .int a2), (3, .int a3)]) mok_Mo_reckons rfl (Nat.le_of_ble_eq_true rfl) ?_
  unfold f_Mo_reckons
  refine aw_aload_n d_Mo_reckons_0 0 rfl ?_
  refine aw_iconst d_Mo_reckons_1 ki_0 ?_
  refine aw_putI pf_Mo_242 kd_151 d_Mo_reckons_2 ?_
  refine aw_bD (fun δ_2 => ?_)
  refine aw_iload_n d_Mo_reckons_5 2 rfl ?_
  refine aw_istore (lo' := [(4, .int a2), (0, .ref 151), (1, .int a1), (2, .int a2), (3, .int a3)]) d_Mo_reckons_6 (by decide) rfl ?_
  refine aw_sub (lo' := [(0, .ref 151), (1, .int a1), (2, .int a2), (3, .int a3), (4, .int a2)]) [1, 2, 3, 4, 0] rfl ?_
  refine tl_Mo_reckons_8 _ _ _ _ (fun v4_8x δ8x => ?_) FU _ _
  · refine aw_aload_n d_Mo_reckons_135 0 rfl ?_
    refine aw_V_n (As := []) (m_Mo_pop) cv_Mo_249 kd_151 rfl rfl rfl (Nat.le_of_ble_eq_true rfl) ⟨Nat.le_of_ble_eq_true rfl, Nat.le_of_ble_eq_true rfl⟩ ⟨Nat.le_refl _, Nat.le_refl _⟩ d_Mo_reckons_136 (fun y136 => ?_)
    refine aw_bL (fun v136 => ?_)
    refine aw_bD (fun δ_136 => ?_)
    exact aw_lret rfl rfl ⟨Nat.le_refl _, Nat.le_refl _⟩ d_Mo_reckons_139
def lp_Mo_holding_2 (kx2_82 : Int32 → Dm → Option (Int32 × Dm)) (a1 : Int32) (a2 : Int32) : Nat → Int32 → Dm → Option (Int32 × Dm)
  | 0, _, _ => none
  | f + 1, v3_2, δ2 => (if inb a1 8 then (if (gI δ2 157 (ix a1)) ≤ v3_2 then (kx2_82 v3_2 δ2) else (bnd (((70 : Int32) * a1) + ((5 : Int32) * v3_2)) (fun v20 => (if inb v20 560 then (if (gI δ2 156 (ix v20)) = a2 then (if inb (v20 + (3 : Int32)) 560 then (if (gI δ2 156 (ix (v20 + (3 : Int32)))) < 0 then (some (v20, δ2)) else (if inb (v20 + (3 : Int32)) 560 then (if inb (v20 + (4 : Int32)) 560 then ((f_Mo_reckons a1 (gI δ2 156 (ix (v20 + (3 : Int32)))) (gI δ2 156 (ix (v20 + (4 : Int32)))) δ2).bind (fun y65 => bnd y65.1 (fun v65 => bnd y65.2 (fun δ_65 => (if (lg_cmp v65 (1 : Int64)) = 0 then (some (v20, δ_65)) else (lp_Mo_holding_2 kx2_82 a1 a2 f (v3_2 + (1 : Int32)) δ_65)))))) else none) else none)) else none) else (lp_Mo_holding_2 kx2_82 a1 a2 f (v3_2 + (1 : Int32)) δ2)) else none)))) else none)
set_option maxHeartbeats 4000000 in
set_option maxRecDepth 100000 in
theorem tl_Mo_holding_2 {n : Nat} (kx2_82 : Int32 → Dm → Option (Int32 × Dm)) (a1 : Int32) (a2 : Int32) (hkx2_82 : ∀ v3_2k δ2k, AWo k_Mo_holding 3 0 0 82 [(0, .ref 151), (1, .int a1), (2, .int a2), (3, .int v3_2k)] [] δ2k RT n 0 0 (Km RT n) (kx2_82 v3_2k δ2k)) : ∀ (f : Nat) (v3_2 : Int32) (δ2 : Dm), AWo k_Mo_holding 3 0 0 2 [(0, .ref 151), (1, .int a1), (2, .int a2), (3, .int v3_2)] [] δ2 RT n 0 0 (Km RT n) (lp_Mo_holding_2 kx2_82 a1 a2 f v3_2 δ2) := by
  intro f
  induction f with
  | zero => intro _ _; exact aw_none
  | succ f ih =>
    intro v3_2 δ2
    rw [lp_Mo_holding_2]
    refine aw_iload_n d_Mo_holding_2 3 rfl ?_
    refine aw_aload_n d_Mo_holding_3 0 rfl ?_
    refine aw_getR (t := 157) fl_Mo_26 kd_151 rt_151_7 d_Mo_holding_4 ?_
    refine aw_iload_n d_Mo_holding_7 1 rfl ?_
    refine aw_iald kd_157 d_Mo_holding_8 ?_
    refine aw_icmp_ge (tgt := 82) d_Mo_holding_9 rfl (fun q9 => ?_) (fun q9 => ?_)
    · refine aw_sub (lo' := [(0, .ref 151), (1, .int a1), (2, .int a2), (3, .int v3_2)]) [0, 1, 2, 3] rfl ?_
      exact hkx2_82 _ _
    · refine aw_bipush d_Mo_holding_12 kb_70 ?_
      refine aw_iload_n d_Mo_holding_14 1 rfl ?_
      refine aw_imul d_Mo_holding_15 ?_
      refine aw_iconst d_Mo_holding_16 ki_5 ?_
      refine aw_iload_n d_Mo_holding_17 3 rfl ?_
      refine aw_imul d_Mo_holding_18 ?_
      refine aw_iadd d_Mo_holding_19 ?_
      refine aw_bI (fun v20 => ?_)
      refine aw_istore (lo' := [(4, .int v20), (0, .ref 151), (1, .int a1), (2, .int a2), (3, .int v3_2)]) d_Mo_holding_20 (by decide) rfl ?_
      refine aw_aload_n d_Mo_holding_22 1 rfl ?_
      refine aw_getR (t := 156) fl_Mo_23 kd_151 rt_151_6 d_Mo_holding_23 ?_
      refine aw_iload d_Mo_holding_26 0 rfl ?_
      refine aw_iald kd_156 d_Mo_holding_28 ?_
      refine aw_iload_n d_Mo_holding_29 3 rfl ?_
      refine aw_icmp_ne (tgt := 76) d_Mo_holding_30 rfl (fun q30 => ?_) (fun q30 => ?_)
      · refine aw_aload_n d_Mo_holding_33 1 rfl ?_
        refine aw_getR (t := 156) fl_Mo_23 kd_151 rt_151_6 d_Mo_holding_34 ?_
        refine aw_iload d_Mo_holding_37 0 rfl ?_
        refine aw_iconst d_Mo_holding_39 ki_3 ?_
        refine aw_iadd d_Mo_holding_40 ?_
        refine aw_iald kd_156 d_Mo_holding_41 ?_
        refine aw_if_lt (tgt := 73) d_Mo_holding_42 rfl (fun q42 => ?_) (fun q42 => ?_)
        · refine aw_iload d_Mo_holding_73 0 rfl ?_
          exact aw_iret rfl rfl ⟨Nat.le_refl _, Nat.le_refl _⟩ d_Mo_holding_75
        · refine aw_aload_n d_Mo_holding_45 1 rfl ?_
          refine aw_iload_n d_Mo_holding_46 2 rfl ?_
          refine aw_aload_n d_Mo_holding_47 1 rfl ?_
          refine aw_getR (t := 156) fl_Mo_23 kd_151 rt_151_6 d_Mo_holding_48 ?_
          refine aw_iload d_Mo_holding_51 0 rfl ?_
          refine aw_iconst d_Mo_holding_53 ki_3 ?_
          refine aw_iadd d_Mo_holding_54 ?_
          refine aw_iald kd_156 d_Mo_holding_55 ?_
          refine aw_aload_n d_Mo_holding_56 1 rfl ?_
          refine aw_getR (t := 156) fl_Mo_23 kd_151 rt_151_6 d_Mo_holding_57 ?_
          refine aw_iload d_Mo_holding_60 0 rfl ?_
          refine aw_iconst d_Mo_holding_62 ki_4 ?_
          refine aw_iadd d_Mo_holding_63 ?_
          refine aw_iald kd_156 d_Mo_holding_64 ?_
          refine aw_V_n (As := [.int a1, .int (gI δ2 156 (ix (v20 + (3 : Int32)))), .int (gI δ2 156 (ix (v20 + (4 : Int32))))]) (m_Mo_reckons) cv_Mo_257 kd_151 rfl rfl rfl (Nat.le_of_ble_eq_true rfl) ⟨Nat.le_of_ble_eq_true rfl, Nat.le_of_ble_eq_true rfl⟩ ⟨Nat.le_refl _, Nat.le_refl _⟩ d_Mo_holding_65 (fun y65 => ?_)
          refine aw_bL (fun v65 => ?_)
          refine aw_bD (fun δ_65 => ?_)
          refine aw_lconst d_Mo_holding_68 kl_1 ?_
          refine aw_lcmp d_Mo_holding_69 ?_
          refine aw_if_ne (tgt := 76) d_Mo_holding_70 rfl (fun q70 => ?_) (fun q70 => ?_)
          · refine aw_iload d_Mo_holding_73 0 rfl ?_
            exact aw_iret rfl rfl ⟨Nat.le_refl _, Nat.le_refl _⟩ d_Mo_holding_75
          · refine aw_iinc (v := (v3_2 + (1 : Int32))) (lo' := [(3, .int (v3_2 + (1 : Int32))), (4, .int v20), (0, .ref 151), (1, .int a1), (2, .int a2)]) d_Mo_holding_76 4 rfl (by rw [show Int32.ofInt (1) = (1 : Int32) from by decide]) (by decide) rfl ?_
            refine aw_goto (tgt := 2) d_Mo_holding_79 rfl ?_
            refine aw_sub (lo' := [(0, .ref 151), (1, .int a1), (2, .int a2), (3, .int (v3_2 + (1 : Int32)))]) [2, 3, 4, 0] rfl ?_
            exact ih _ _
      · refine aw_iinc (v := (v3_2 + (1 : Int32))) (lo' := [(3, .int (v3_2 + (1 : Int32))), (4, .int v20), (0, .ref 151), (1, .int a1), (2, .int a2)]) d_Mo_holding_76 4 rfl (by rw [show Int32.ofInt (1) = (1 : Int32) from by decide]) (by decide) rfl ?_
        refine aw_goto (tgt := 2) d_Mo_holding_79 rfl ?_
        refine aw_sub (lo' := [(0, .ref 151), (1, .int a1), (2, .int a2), (3, .int (v3_2 + (1 : Int32)))]) [2, 3, 4, 0] rfl ?_
        exact ih _ _
def f_Mo_holding (a1 : Int32) (a2 : Int32) (δ : Dm) : Option (Int32 × Dm) := (lp_Mo_holding_2 (fun v3_2x δ2x => (some ((-1 : Int32), δ2x))) a1 a2 FU (0 : Int32) δ)
set_option maxHeartbeats 4000000 in
set_option maxRecDepth 100000 in
theorem m_Mo_holding {a1 : Int32} {a2 : Int32} {δ : Dm} {n : Nat} : ∀ x, f_Mo_holding a1 a2 δ = some x → AMet k_Mo_holding 3 0 0 [.ref 151, .int a1, .int a2] δ RT n (Km RT n x) := by
  refine aw_start (lo := [(0, .ref 151), (1, .int a1), (2, .int a2)]) mok_Mo_holding rfl (Nat.le_of_ble_eq_true rfl) ?_
  unfold f_Mo_holding
  refine aw_iconst d_Mo_holding_0 ki_0 ?_
  refine aw_istore_n (lo' := [(3, .int (0 : Int32)), (0, .ref 151), (1, .int a1), (2, .int a2)]) d_Mo_holding_1 rfl (by decide) rfl ?_
  refine aw_sub (lo' := [(0, .ref 151), (1, .int a1), (2, .int a2), (3, .int (0 : Int32))]) [1, 2, 3, 0] rfl ?_
  refine tl_Mo_holding_2 _ _ _ (fun v3_2x δ2x => ?_) FU _ _
  · refine aw_iconst d_Mo_holding_82 ki_m1 ?_
    exact aw_iret rfl rfl ⟨Nat.le_refl _, Nat.le_refl _⟩ d_Mo_holding_83
def f_Mo_holds (a1 : Int32) (a2 : Int32) (δ : Dm) : Option (Int32 × Dm) := ((f_Mo_holding a1 a2 δ).bind (fun y3 => bnd y3.1 (fun v3 => bnd y3.2 (fun δ_3 => (if v3 < 0 then (some ((0 : Int32), δ_3)) else (some ((1 : Int32), δ_3)))))))
set_option maxHeartbeats 4000000 in
set_option maxRecDepth 100000 in
theorem m_Mo_holds {a1 : Int32} {a2 : Int32} {δ : Dm} {n : Nat} : ∀ x, f_Mo_holds a1 a2 δ = some x → AMet k_Mo_holds 4 0 0 [.ref 151, .int a1, .int a2] δ RT n (Km RT n x) := by
  refine aw_start (lo := [(0, .ref 151), (1, .int a1), (2, .int a2)]) mok_Mo_holds rfl (Nat.le_of_ble_eq_true rfl) ?_
  unfold f_Mo_holds
  refine aw_aload_n d_Mo_holds_0 0 rfl ?_
  refine aw_iload_n d_Mo_holds_1 1 rfl ?_
  refine aw_iload_n d_Mo_holds_2 2 rfl ?_
  refine aw_V_m (As := [.int a1, .int a2]) (m_Mo_holding) cv_Mo_261 kd_151 rfl rfl rfl (Nat.le_of_ble_eq_true rfl) ⟨Nat.le_of_ble_eq_true rfl, Nat.le_of_ble_eq_true rfl⟩ ⟨Nat.le_refl _, Nat.le_refl _⟩ d_Mo_holds_3 (fun y3 => ?_)
  refine aw_bI (fun v3 => ?_)
  refine aw_bD (fun δ_3 => ?_)
  refine aw_if_lt (tgt := 13) d_Mo_holds_6 rfl (fun q6 => ?_) (fun q6 => ?_)
  · refine aw_iconst d_Mo_holds_13 ki_0 ?_
    exact aw_zret rfl rfl rfl ⟨Nat.le_refl _, Nat.le_refl _⟩ d_Mo_holds_14
  · refine aw_iconst d_Mo_holds_9 ki_1 ?_
    refine aw_goto (tgt := 14) d_Mo_holds_10 rfl ?_
    exact aw_zret rfl rfl rfl ⟨Nat.le_refl _, Nat.le_refl _⟩ d_Mo_holds_14
def lp_Mo_spoils_2 (kx2_36 : Int32 → Option (Int32 × Dm)) (a1 : Int32) (δ : Dm) : Nat → Int32 → Option (Int32 × Dm)
  | 0, _ => none
  | f + 1, v2_2 => (if (3 : Int32) ≤ v2_2 then (kx2_36 v2_2) else (if inb v2_2 3 then (if inb (((3 : Int32) * a1) + v2_2) 24 then (if (gI δ 158 (ix (((3 : Int32) * a1) + v2_2))) ≤ (gI δ 162 (ix v2_2)) then (lp_Mo_spoils_2 kx2_36 a1 δ f (v2_2 + (1 : Int32))) else (some (((1 : Int32) + v2_2), δ))) else none) else none))
set_option maxHeartbeats 4000000 in
set_option maxRecDepth 100000 in
theorem tl_Mo_spoils_2 {n : Nat} (kx2_36 : Int32 → Option (Int32 × Dm)) (a1 : Int32) (δ : Dm) (hkx2_36 : ∀ v2_2k, AWo k_Mo_spoils 5 0 0 36 [(0, .ref 151), (1, .int a1), (2, .int v2_2k)] [] δ RT n 0 0 (Km RT n) (kx2_36 v2_2k)) : ∀ (f : Nat) (v2_2 : Int32), AWo k_Mo_spoils 5 0 0 2 [(0, .ref 151), (1, .int a1), (2, .int v2_2)] [] δ RT n 0 0 (Km RT n) (lp_Mo_spoils_2 kx2_36 a1 δ f v2_2) := by
  intro f
  induction f with
  | zero => intro _; exact aw_none
  | succ f ih =>
    intro v2_2
    rw [lp_Mo_spoils_2]
    refine aw_iload_n d_Mo_spoils_2 2 rfl ?_
    refine aw_iconst d_Mo_spoils_3 ki_3 ?_
    refine aw_icmp_ge (tgt := 36) d_Mo_spoils_4 rfl (fun q4 => ?_) (fun q4 => ?_)
    · refine aw_sub (lo' := [(0, .ref 151), (1, .int a1), (2, .int v2_2)]) [0, 1, 2] rfl ?_
      exact hkx2_36 _
    · refine aw_aload_n d_Mo_spoils_7 0 rfl ?_
      refine aw_getR (t := 162) fl_Mo_42 kd_151 rt_151_21 d_Mo_spoils_8 ?_
      refine aw_iload_n d_Mo_spoils_11 2 rfl ?_
      refine aw_iald kd_162 d_Mo_spoils_12 ?_
      refine aw_aload_n d_Mo_spoils_13 0 rfl ?_
      refine aw_getR (t := 158) fl_Mo_29 kd_151 rt_151_8 d_Mo_spoils_14 ?_
      refine aw_iconst d_Mo_spoils_17 ki_3 ?_
      refine aw_iload_n d_Mo_spoils_18 1 rfl ?_
      refine aw_imul d_Mo_spoils_19 ?_
      refine aw_iload_n d_Mo_spoils_20 2 rfl ?_
      refine aw_iadd d_Mo_spoils_21 ?_
      refine aw_iald kd_158 d_Mo_spoils_22 ?_
      refine aw_icmp_ge (tgt := 30) d_Mo_spoils_23 rfl (fun q23 => ?_) (fun q23 => ?_)
      · refine aw_iinc (v := (v2_2 + (1 : Int32))) (lo' := [(2, .int (v2_2 + (1 : Int32))), (0, .ref 151), (1, .int a1)]) d_Mo_spoils_30 2 rfl (by rw [show Int32.ofInt (1) = (1 : Int32) from by decide]) (by decide) rfl ?_
        refine aw_goto (tgt := 2) d_Mo_spoils_33 rfl ?_
        refine aw_sub (lo' := [(0, .ref 151), (1, .int a1), (2, .int (v2_2 + (1 : Int32)))]) [1, 2, 0] rfl ?_
        exact ih _
      · refine aw_iconst d_Mo_spoils_26 ki_1 ?_
        refine aw_iload_n d_Mo_spoils_27 2 rfl ?_
        refine aw_iadd d_Mo_spoils_28 ?_
        exact aw_iret rfl rfl ⟨Nat.le_refl _, Nat.le_refl _⟩ d_Mo_spoils_29
def f_Mo_spoils (a1 : Int32) (δ : Dm) : Option (Int32 × Dm) := (lp_Mo_spoils_2 (fun v2_2x => (if inb (5 : Int32) 9 then bnd (sL δ 161 (ix (5 : Int32)) (0 : Int64)) (fun δ_42 => ((f_Mo_holds a1 (6 : Int32) δ_42).bind (fun y47 => bnd y47.1 (fun v47 => bnd y47.2 (fun δ_47 => (if v47 = 0 then ((f_Mo_holds a1 (7 : Int32) δ_47).bind (fun y61 => bnd y61.1 (fun v61 => bnd y61.2 (fun δ_61 => (if v61 = 0 then (some ((0 : Int32), δ_61)) else (some ((5 : Int32), δ_61))))))) else (some ((4 : Int32), δ_47)))))))) else none)) a1 δ FU (0 : Int32))
set_option maxHeartbeats 4000000 in
set_option maxRecDepth 100000 in
theorem m_Mo_spoils {a1 : Int32} {δ : Dm} {n : Nat} : ∀ x, f_Mo_spoils a1 δ = some x → AMet k_Mo_spoils 5 0 0 [.ref 151, .int a1] δ RT n (Km RT n x) := by
  refine aw_start (lo := [(0, .ref 151), (1, .int a1)]) mok_Mo_spoils rfl (Nat.le_of_ble_eq_true rfl) ?_
  unfold f_Mo_spoils
  refine aw_iconst d_Mo_spoils_0 ki_0 ?_
  refine aw_istore_n (lo' := [(2, .int (0 : Int32)), (0, .ref 151), (1, .int a1)]) d_Mo_spoils_1 rfl (by decide) rfl ?_
  refine aw_sub (lo' := [(0, .ref 151), (1, .int a1), (2, .int (0 : Int32))]) [1, 2, 0] rfl ?_
  refine tl_Mo_spoils_2 _ _ _ (fun v2_2x => ?_) FU _
  · refine aw_aload_n d_Mo_spoils_36 0 rfl ?_
    refine aw_getR (t := 161) fl_Mo_39 kd_151 rt_151_20 d_Mo_spoils_37 ?_
    refine aw_iconst d_Mo_spoils_40 ki_5 ?_
    refine aw_lconst d_Mo_spoils_41 kl_0 ?_
    refine aw_last kd_161 d_Mo_spoils_42 ?_
    refine aw_bD (fun δ_42 => ?_)
    refine aw_aload_n d_Mo_spoils_43 0 rfl ?_
    refine aw_iload_n d_Mo_spoils_44 1 rfl ?_
    refine aw_bipush d_Mo_spoils_45 kb_6 ?_
    refine aw_V_m (As := [.int a1, .int (6 : Int32)]) (m_Mo_holds) cv_Mo_283 kd_151 rfl rfl rfl (Nat.le_of_ble_eq_true rfl) ⟨Nat.le_of_ble_eq_true rfl, Nat.le_of_ble_eq_true rfl⟩ ⟨Nat.le_refl _, Nat.le_refl _⟩ d_Mo_spoils_47 (fun y47 => ?_)
    refine aw_bI (fun v47 => ?_)
    refine aw_bD (fun δ_47 => ?_)
    refine aw_if_eq (tgt := 57) d_Mo_spoils_50 rfl (fun q50 => ?_) (fun q50 => ?_)
    · refine aw_aload_n d_Mo_spoils_57 0 rfl ?_
      refine aw_iload_n d_Mo_spoils_58 1 rfl ?_
      refine aw_bipush d_Mo_spoils_59 kb_7 ?_
      refine aw_V_m (As := [.int a1, .int (7 : Int32)]) (m_Mo_holds) cv_Mo_283 kd_151 rfl rfl rfl (Nat.le_of_ble_eq_true rfl) ⟨Nat.le_of_ble_eq_true rfl, Nat.le_of_ble_eq_true rfl⟩ ⟨Nat.le_refl _, Nat.le_refl _⟩ d_Mo_spoils_61 (fun y61 => ?_)
      refine aw_bI (fun v61 => ?_)
      refine aw_bD (fun δ_61 => ?_)
      refine aw_if_eq (tgt := 71) d_Mo_spoils_64 rfl (fun q64 => ?_) (fun q64 => ?_)
      · refine aw_iconst d_Mo_spoils_71 ki_0 ?_
        exact aw_iret rfl rfl ⟨Nat.le_refl _, Nat.le_refl _⟩ d_Mo_spoils_72
      · refine aw_iconst d_Mo_spoils_67 ki_5 ?_
        refine aw_goto (tgt := 72) d_Mo_spoils_68 rfl ?_
        exact aw_iret rfl rfl ⟨Nat.le_refl _, Nat.le_refl _⟩ d_Mo_spoils_72
    · refine aw_iconst d_Mo_spoils_53 ki_4 ?_
      refine aw_goto (tgt := 72) d_Mo_spoils_54 rfl ?_
      exact aw_iret rfl rfl ⟨Nat.le_refl _, Nat.le_refl _⟩ d_Mo_spoils_72
def f_Mo_summed (a1 : Int32) (a2 : Int32) (a3 : Int32) (a4 : Int32) (δ : Dm) : Option (Int32 × Dm) := ((f_Mo_holding a1 a2 δ).bind (fun y3 => bnd y3.1 (fun v3 => bnd y3.2 (fun δ_3 => (if 0 ≤ v3 then (if inb (v3 + (1 : Int32)) 560 then (if inb (v3 + (2 : Int32)) 560 then ((f_Mo_reckons a1 (gI δ_3 156 (ix (v3 + (1 : Int32)))) (gI δ_3 156 (ix (v3 + (2 : Int32)))) δ_3).bind (fun y35 => bnd y35.1 (fun v35 => bnd y35.2 (fun δ_35 => (if 0 ≤ (lg_cmp v35 ((a3).toInt64)) then (if (lg_cmp v35 ((a4).toInt64)) ≤ 0 then (some (((v35).toInt32), δ_35)) else (some (a4, δ_35))) else (some (a3, δ_35))))))) else none) else none) else (some ((0 : Int32), δ_3)))))))
set_option maxHeartbeats 4000000 in
set_option maxRecDepth 100000 in
theorem m_Mo_summed {a1 : Int32} {a2 : Int32} {a3 : Int32} {a4 : Int32} {δ : Dm} {n : Nat} : ∀ x, f_Mo_summed a1 a2 a3 a4 δ = some x → AMet k_Mo_summed 4 0 0 [.ref 151, .int a1, .int a2, .int a3, .int a4] δ RT n (Km RT n x) := by
  refine aw_start (lo := [(0, .ref 151), (1, .int a1), (2, .int a2), (3, .int a3), (4, .int a4)]) mok_Mo_summed rfl (Nat.le_of_ble_eq_true rfl) ?_
  unfold f_Mo_summed
  refine aw_aload_n d_Mo_summed_0 0 rfl ?_
  refine aw_iload_n d_Mo_summed_1 1 rfl ?_
  refine aw_iload_n d_Mo_summed_2 2 rfl ?_
  refine aw_V_m (As := [.int a1, .int a2]) (m_Mo_holding) cv_Mo_261 kd_151 rfl rfl rfl (Nat.le_of_ble_eq_true rfl) ⟨Nat.le_of_ble_eq_true rfl, Nat.le_of_ble_eq_true rfl⟩ ⟨Nat.le_refl _, Nat.le_refl _⟩ d_Mo_summed_3 (fun y3 => ?_)
  refine aw_bI (fun v3 => ?_)
  refine aw_bD (fun δ_3 => ?_)
  refine aw_istore (lo' := [(5, .int v3), (0, .ref 151), (1, .int a1), (2, .int a2), (3, .int a3), (4, .int a4)]) d_Mo_summed_6 (by decide) rfl ?_
  refine aw_iload d_Mo_summed_8 0 rfl ?_
  refine aw_if_ge (tgt := 15) d_Mo_summed_10 rfl (fun q10 => ?_) (fun q10 => ?_)
  · refine aw_aload_n d_Mo_summed_15 1 rfl ?_
    refine aw_iload_n d_Mo_summed_16 2 rfl ?_
    refine aw_aload_n d_Mo_summed_17 1 rfl ?_
    refine aw_getR (t := 156) fl_Mo_23 kd_151 rt_151_6 d_Mo_summed_18 ?_
    refine aw_iload d_Mo_summed_21 0 rfl ?_
    refine aw_iconst d_Mo_summed_23 ki_1 ?_
    refine aw_iadd d_Mo_summed_24 ?_
    refine aw_iald kd_156 d_Mo_summed_25 ?_
    refine aw_aload_n d_Mo_summed_26 1 rfl ?_
    refine aw_getR (t := 156) fl_Mo_23 kd_151 rt_151_6 d_Mo_summed_27 ?_
    refine aw_iload d_Mo_summed_30 0 rfl ?_
    refine aw_iconst d_Mo_summed_32 ki_2 ?_
    refine aw_iadd d_Mo_summed_33 ?_
    refine aw_iald kd_156 d_Mo_summed_34 ?_
    refine aw_V_n (As := [.int a1, .int (gI δ_3 156 (ix (v3 + (1 : Int32)))), .int (gI δ_3 156 (ix (v3 + (2 : Int32))))]) (m_Mo_reckons) cv_Mo_257 kd_151 rfl rfl rfl (Nat.le_of_ble_eq_true rfl) ⟨Nat.le_of_ble_eq_true rfl, Nat.le_of_ble_eq_true rfl⟩ ⟨Nat.le_refl _, Nat.le_refl _⟩ d_Mo_summed_35 (fun y35 => ?_)
    refine aw_bL (fun v35 => ?_)
    refine aw_bD (fun δ_35 => ?_)
    refine aw_lstore (lo' := [(6, .long v35), (5, .int v3), (0, .ref 151), (1, .int a1), (2, .int a2), (3, .int a3), (4, .int a4)]) d_Mo_summed_38 (by decide) rfl ?_
    refine aw_lload d_Mo_summed_40 0 rfl ?_
    refine aw_iload_n d_Mo_summed_42 5 rfl ?_
    refine aw_i2l d_Mo_summed_43 ?_
    refine aw_lcmp d_Mo_summed_44 ?_
    refine aw_if_ge (tgt := 52) d_Mo_summed_45 rfl (fun q45 => ?_) (fun q45 => ?_)
    · refine aw_lload d_Mo_summed_52 0 rfl ?_
      refine aw_iload d_Mo_summed_54 6 rfl ?_
      refine aw_i2l d_Mo_summed_56 ?_
      refine aw_lcmp d_Mo_summed_57 ?_
      refine aw_if_le (tgt := 66) d_Mo_summed_58 rfl (fun q58 => ?_) (fun q58 => ?_)
      · refine aw_lload d_Mo_summed_66 0 rfl ?_
        refine aw_l2i d_Mo_summed_68 ?_
        exact aw_iret rfl rfl ⟨Nat.le_refl _, Nat.le_refl _⟩ d_Mo_summed_69
      · refine aw_iload d_Mo_summed_61 6 rfl ?_
        refine aw_goto (tgt := 69) d_Mo_summed_63 rfl ?_
        exact aw_iret rfl rfl ⟨Nat.le_refl _, Nat.le_refl _⟩ d_Mo_summed_69
    · refine aw_iload_n d_Mo_summed_48 5 rfl ?_
      refine aw_goto (tgt := 69) d_Mo_summed_49 rfl ?_
      exact aw_iret rfl rfl ⟨Nat.le_refl _, Nat.le_refl _⟩ d_Mo_summed_69
  · refine aw_iconst d_Mo_summed_13 ki_0 ?_
    exact aw_iret rfl rfl ⟨Nat.le_refl _, Nat.le_refl _⟩ d_Mo_summed_14
def jp_Mo_tires_57 (kr2 : Int32 → Dm → Option Dm) (kx2_64 : Int32 → Dm → Option Dm) (a1 : Int32) (a2 : Int32) (v3_2 : Int32) (v39 : Int32) (δ_35 : Dm) (s0_57 : Int32) : Option Dm := (if inb v3_2 3 then bnd (sI δ_35 162 (ix v3_2) s0_57) (fun δ_57 => (kr2 (v3_2 + (1 : Int32)) δ_57)) else none)
set_option maxHeartbeats 4000000 in
set_option maxRecDepth 100000 in
theorem tj_Mo_tires_57 {n : Nat} (kr2 : Int32 → Dm → Option Dm) (kx2_64 : Int32 → Dm → Option Dm) (a1 : Int32) (a2 : Int32) (v3_2 : Int32) (v39 : Int32) (δ_35 : Dm) (s0_57 : Int32) (hkr2 : ∀ v3_2k δ2k, AWo k_Mo_tires 5 0 0 2 [(0, .ref 151), (1, .int a1), (2, .int a2), (3, .int v3_2k)] [] δ2k RT n 0 0 (Kv RT n) (kr2 v3_2k δ2k)) (hkx2_64 : ∀ v3_2k δ2k, AWo k_Mo_tires 5 0 0 64 [(0, .ref 151), (1, .int a1), (2, .int a2), (3, .int v3_2k)] [] δ2k RT n 0 0 (Kv RT n) (kx2_64 v3_2k δ2k)) : AWo k_Mo_tires 5 0 0 57 [(0, .ref 151), (1, .int a1), (2, .int a2), (3, .int v3_2), (4, .int v39)] [.int s0_57, .int v3_2, .ref 162] δ_35 RT n 0 0 (Kv RT n) (jp_Mo_tires_57 kr2 kx2_64 a1 a2 v3_2 v39 δ_35 s0_57) := by
  unfold jp_Mo_tires_57
  refine aw_iast kd_162 d_Mo_tires_57 ?_
  refine aw_bD (fun δ_57 => ?_)
  refine aw_iinc (v := (v3_2 + (1 : Int32))) (lo' := [(3, .int (v3_2 + (1 : Int32))), (0, .ref 151), (1, .int a1), (2, .int a2), (4, .int v39)]) d_Mo_tires_58 3 rfl (by rw [show Int32.ofInt (1) = (1 : Int32) from by decide]) (by decide) rfl ?_
  refine aw_goto (tgt := 2) d_Mo_tires_61 rfl ?_
  refine aw_sub (lo' := [(0, .ref 151), (1, .int a1), (2, .int a2), (3, .int (v3_2 + (1 : Int32)))]) [1, 2, 3, 0] rfl ?_
  exact hkr2 _ _
def lp_Mo_tires_2 (kx2_64 : Int32 → Dm → Option Dm) (a1 : Int32) (a2 : Int32) : Nat → Int32 → Dm → Option Dm
  | 0, _, _ => none
  | f + 1, v3_2, δ2 => (if (3 : Int32) ≤ v3_2 then (kx2_64 v3_2 δ2) else (if inb v3_2 3 then (if inb (5 : Int32) 9 then bnd (sL δ2 161 (ix (5 : Int32)) (((gI δ2 162 (ix v3_2))).toInt64)) (fun δ_19 => (if inb v3_2 3 then ((f_Mo_summed a1 (a2 + v3_2) (0 : Int32) (1000 : Int32) δ_19).bind (fun y35 => bnd y35.1 (fun v35 => bnd y35.2 (fun δ_35 => (bnd ((gI δ_19 162 (ix v3_2)) - v35) (fun v39 => (if 0 ≤ v39 then (jp_Mo_tires_57 (lp_Mo_tires_2 kx2_64 a1 a2 f) kx2_64 a1 a2 v3_2 v39 δ_35 v39) else (jp_Mo_tires_57 (lp_Mo_tires_2 kx2_64 a1 a2 f) kx2_64 a1 a2 v3_2 v39 δ_35 (0 : Int32))))))))) else none)) else none) else none))
set_option maxHeartbeats 4000000 in
set_option maxRecDepth 100000 in
theorem tl_Mo_tires_2 {n : Nat} (kx2_64 : Int32 → Dm → Option Dm) (a1 : Int32) (a2 : Int32) (hkx2_64 : ∀ v3_2k δ2k, AWo k_Mo_tires 5 0 0 64 [(0, .ref 151), (1, .int a1), (2, .int a2), (3, .int v3_2k)] [] δ2k RT n 0 0 (Kv RT n) (kx2_64 v3_2k δ2k)) : ∀ (f : Nat) (v3_2 : Int32) (δ2 : Dm), AWo k_Mo_tires 5 0 0 2 [(0, .ref 151), (1, .int a1), (2, .int a2), (3, .int v3_2)] [] δ2 RT n 0 0 (Kv RT n) (lp_Mo_tires_2 kx2_64 a1 a2 f v3_2 δ2) := by
  intro f
  induction f with
  | zero => intro _ _; exact aw_none
  | succ f ih =>
    intro v3_2 δ2
    rw [lp_Mo_tires_2]
    refine aw_iload_n d_Mo_tires_2 3 rfl ?_
    refine aw_iconst d_Mo_tires_3 ki_3 ?_
    refine aw_icmp_ge (tgt := 64) d_Mo_tires_4 rfl (fun q4 => ?_) (fun q4 => ?_)
    · refine aw_sub (lo' := [(0, .ref 151), (1, .int a1), (2, .int a2), (3, .int v3_2)]) [0, 1, 2, 3] rfl ?_
      exact hkx2_64 _ _
    · refine aw_aload_n d_Mo_tires_7 0 rfl ?_
      refine aw_getR (t := 161) fl_Mo_39 kd_151 rt_151_20 d_Mo_tires_8 ?_
      refine aw_iconst d_Mo_tires_11 ki_5 ?_
      refine aw_aload_n d_Mo_tires_12 0 rfl ?_
      refine aw_getR (t := 162) fl_Mo_42 kd_151 rt_151_21 d_Mo_tires_13 ?_
      refine aw_iload_n d_Mo_tires_16 3 rfl ?_
      refine aw_iald kd_162 d_Mo_tires_17 ?_
      refine aw_i2l d_Mo_tires_18 ?_
      refine aw_last kd_161 d_Mo_tires_19 ?_
      refine aw_bD (fun δ_19 => ?_)
      refine aw_aload_n d_Mo_tires_20 0 rfl ?_
      refine aw_getR (t := 162) fl_Mo_42 kd_151 rt_151_21 d_Mo_tires_21 ?_
      refine aw_iload_n d_Mo_tires_24 3 rfl ?_
      refine aw_iald kd_162 d_Mo_tires_25 ?_
      refine aw_aload_n d_Mo_tires_26 0 rfl ?_
      refine aw_iload_n d_Mo_tires_27 1 rfl ?_
      refine aw_iload_n d_Mo_tires_28 2 rfl ?_
      refine aw_iload_n d_Mo_tires_29 3 rfl ?_
      refine aw_iadd d_Mo_tires_30 ?_
      refine aw_iconst d_Mo_tires_31 ki_0 ?_
      refine aw_sipush d_Mo_tires_32 ks_1000 ?_
      refine aw_V_m (As := [.int a1, .int (a2 + v3_2), .int (0 : Int32), .int (1000 : Int32)]) (m_Mo_summed) cv_Mo_286 kd_151 rfl rfl rfl (Nat.le_of_ble_eq_true rfl) ⟨Nat.le_of_ble_eq_true rfl, Nat.le_of_ble_eq_true rfl⟩ ⟨Nat.le_refl _, Nat.le_refl _⟩ d_Mo_tires_35 (fun y35 => ?_)
      refine aw_bI (fun v35 => ?_)
      refine aw_bD (fun δ_35 => ?_)
      refine aw_isub d_Mo_tires_38 ?_
      refine aw_bI (fun v39 => ?_)
      refine aw_istore (lo' := [(4, .int v39), (0, .ref 151), (1, .int a1), (2, .int a2), (3, .int v3_2)]) d_Mo_tires_39 (by decide) rfl ?_
      refine aw_aload_n d_Mo_tires_41 1 rfl ?_
      refine aw_getR (t := 162) fl_Mo_42 kd_151 rt_151_21 d_Mo_tires_42 ?_
      refine aw_iload_n d_Mo_tires_45 4 rfl ?_
      refine aw_iload d_Mo_tires_46 0 rfl ?_
      refine aw_if_ge (tgt := 55) d_Mo_tires_48 rfl (fun q48 => ?_) (fun q48 => ?_)
      · refine aw_iload d_Mo_tires_55 0 rfl ?_
        refine aw_sub (lo' := [(0, .ref 151), (1, .int a1), (2, .int a2), (3, .int v3_2), (4, .int v39)]) [1, 2, 3, 4, 0] rfl ?_
        exact tj_Mo_tires_57 _ _ _ _ _ _ _ _ ih hkx2_64
      · refine aw_iconst d_Mo_tires_51 ki_0 ?_
        refine aw_goto (tgt := 57) d_Mo_tires_52 rfl ?_
        refine aw_sub (lo' := [(0, .ref 151), (1, .int a1), (2, .int a2), (3, .int v3_2), (4, .int v39)]) [1, 2, 3, 4, 0] rfl ?_
        exact tj_Mo_tires_57 _ _ _ _ _ _ _ _ ih hkx2_64
def f_Mo_tires (a1 : Int32) (a2 : Int32) (δ : Dm) : Option Dm := (lp_Mo_tires_2 (fun v3_2x δ2x => (some δ2x)) a1 a2 FU (0 : Int32) δ)
set_option maxHeartbeats 4000000 in
set_option maxRecDepth 100000 in
theorem m_Mo_tires {a1 : Int32} {a2 : Int32} {δ : Dm} {n : Nat} : ∀ x, f_Mo_tires a1 a2 δ = some x → AMet k_Mo_tires 5 0 0 [.ref 151, .int a1, .int a2] δ RT n (Kv RT n x) := by
  refine aw_start (lo := [(0, .ref 151), (1, .int a1), (2, .int a2)]) mok_Mo_tires rfl (Nat.le_of_ble_eq_true rfl) ?_
  unfold f_Mo_tires
  refine aw_iconst d_Mo_tires_0 ki_0 ?_
  refine aw_istore_n (lo' := [(3, .int (0 : Int32)), (0, .ref 151), (1, .int a1), (2, .int a2)]) d_Mo_tires_1 rfl (by decide) rfl ?_
  refine aw_sub (lo' := [(0, .ref 151), (1, .int a1), (2, .int a2), (3, .int (0 : Int32))]) [1, 2, 3, 0] rfl ?_
  refine tl_Mo_tires_2 _ _ _ (fun v3_2x δ2x => ?_) FU _ _
  · exact aw_vret rfl rfl ⟨Nat.le_refl _, Nat.le_refl _⟩ d_Mo_tires_64
def lp_Mo_lays_2 (kx2_27 : Int32 → Dm → Option Dm) (a1 : Int32) : Nat → Int32 → Dm → Option Dm
  | 0, _, _ => none
  | f + 1, v2_2, δ2 => (if (3 : Int32) ≤ v2_2 then (kx2_27 v2_2 δ2) else (if inb v2_2 3 then ((f_Mo_sets a1 ((3 : Int32) + v2_2) (gI δ2 162 (ix v2_2)) δ2).bind (fun y18 => (lp_Mo_lays_2 kx2_27 a1 f (v2_2 + (1 : Int32)) y18))) else none))
set_option maxHeartbeats 4000000 in
set_option maxRecDepth 100000 in
theorem tl_Mo_lays_2 {n : Nat} (kx2_27 : Int32 → Dm → Option Dm) (a1 : Int32) (hkx2_27 : ∀ v2_2k δ2k, AWo k_Mo_lays 2 0 0 27 [(0, .ref 151), (1, .int a1), (2, .int v2_2k)] [] δ2k RT n 0 0 (Kv RT n) (kx2_27 v2_2k δ2k)) : ∀ (f : Nat) (v2_2 : Int32) (δ2 : Dm), AWo k_Mo_lays 2 0 0 2 [(0, .ref 151), (1, .int a1), (2, .int v2_2)] [] δ2 RT n 0 0 (Kv RT n) (lp_Mo_lays_2 kx2_27 a1 f v2_2 δ2) := by
  intro f
  induction f with
  | zero => intro _ _; exact aw_none
  | succ f ih =>
    intro v2_2 δ2
    rw [lp_Mo_lays_2]
    refine aw_iload_n d_Mo_lays_2 2 rfl ?_
    refine aw_iconst d_Mo_lays_3 ki_3 ?_
    refine aw_icmp_ge (tgt := 27) d_Mo_lays_4 rfl (fun q4 => ?_) (fun q4 => ?_)
    · refine aw_sub (lo' := [(0, .ref 151), (1, .int a1), (2, .int v2_2)]) [0, 1, 2] rfl ?_
      exact hkx2_27 _ _
    · refine aw_aload_n d_Mo_lays_7 0 rfl ?_
      refine aw_iload_n d_Mo_lays_8 1 rfl ?_
      refine aw_iconst d_Mo_lays_9 ki_3 ?_
      refine aw_iload_n d_Mo_lays_10 2 rfl ?_
      refine aw_iadd d_Mo_lays_11 ?_
      refine aw_aload_n d_Mo_lays_12 0 rfl ?_
      refine aw_getR (t := 162) fl_Mo_42 kd_151 rt_151_21 d_Mo_lays_13 ?_
      refine aw_iload_n d_Mo_lays_16 2 rfl ?_
      refine aw_iald kd_162 d_Mo_lays_17 ?_
      refine aw_V_v (As := [.int a1, .int ((3 : Int32) + v2_2), .int (gI δ2 162 (ix v2_2))]) (m_Mo_sets) cv_Mo_274 kd_151 rfl rfl rfl (Nat.le_of_ble_eq_true rfl) ⟨Nat.le_of_ble_eq_true rfl, Nat.le_of_ble_eq_true rfl⟩ ⟨Nat.le_refl _, Nat.le_refl _⟩ d_Mo_lays_18 (fun y18 => ?_)
      refine aw_iinc (v := (v2_2 + (1 : Int32))) (lo' := [(2, .int (v2_2 + (1 : Int32))), (0, .ref 151), (1, .int a1)]) d_Mo_lays_21 2 rfl (by rw [show Int32.ofInt (1) = (1 : Int32) from by decide]) (by decide) rfl ?_
      refine aw_goto (tgt := 2) d_Mo_lays_24 rfl ?_
      refine aw_sub (lo' := [(0, .ref 151), (1, .int a1), (2, .int (v2_2 + (1 : Int32)))]) [1, 2, 0] rfl ?_
      exact ih _ _
def f_Mo_lays (a1 : Int32) (δ : Dm) : Option Dm := (lp_Mo_lays_2 (fun v2_2x δ2x => (some δ2x)) a1 FU (0 : Int32) δ)
set_option maxHeartbeats 4000000 in
set_option maxRecDepth 100000 in
theorem m_Mo_lays {a1 : Int32} {δ : Dm} {n : Nat} : ∀ x, f_Mo_lays a1 δ = some x → AMet k_Mo_lays 2 0 0 [.ref 151, .int a1] δ RT n (Kv RT n x) := by
  refine aw_start (lo := [(0, .ref 151), (1, .int a1)]) mok_Mo_lays rfl (Nat.le_of_ble_eq_true rfl) ?_
  unfold f_Mo_lays
  refine aw_iconst d_Mo_lays_0 ki_0 ?_
  refine aw_istore_n (lo' := [(2, .int (0 : Int32)), (0, .ref 151), (1, .int a1)]) d_Mo_lays_1 rfl (by decide) rfl ?_
  refine aw_sub (lo' := [(0, .ref 151), (1, .int a1), (2, .int (0 : Int32))]) [1, 2, 0] rfl ?_
  refine tl_Mo_lays_2 _ _ (fun v2_2x δ2x => ?_) FU _ _
  · exact aw_vret rfl rfl ⟨Nat.le_refl _, Nat.le_refl _⟩ d_Mo_lays_27
end
