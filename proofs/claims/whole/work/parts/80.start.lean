/-! what the Statement gives at the law's entry -/
theorem st_classes {args : Array Value} {s : State} (hts : ∀ w ∈ lw_gd, w.before args s = true) : ∀ k : Nat, ∃ c : ClassId × (Nat → Nat), ∀ q : vw_C, classes[k]? = some q → u_Kn s q.1 q.2.1 q.2.2 c.1 c.2
  | 0 => by
    obtain ⟨c1, i1, h1⟩ := u_known (C := C_Bo) (T := T_Bo) (N := 12) (n := 12) hts in_Bo (hts _ (lw_gdI 366 (by decide +kernel) rfl))
    exact ⟨(c1, i1), fun q hq => by cases hq; exact h1⟩
  | 1 => by
    obtain ⟨c1, i1, h1⟩ := u_known (C := C_Cr) (T := T_Cr) (N := 3) (n := 3) hts in_Cr (hts _ (lw_gdI 232 (by decide +kernel) rfl))
    exact ⟨(c1, i1), fun q hq => by cases hq; exact h1⟩
  | 2 => by
    obtain ⟨c1, i1, h1⟩ := u_known (C := C_Di) (T := T_Di) (N := 13) (n := 13) hts in_Di (hts _ (lw_gdI 256 (by decide +kernel) rfl))
    exact ⟨(c1, i1), fun q hq => by cases hq; exact h1⟩
  | 3 => by
    obtain ⟨c1, i1, h1⟩ := u_known (C := C_Fa) (T := T_Fa) (N := 2) (n := 2) hts in_Fa (hts _ (lw_gdI 195 (by decide +kernel) rfl))
    exact ⟨(c1, i1), fun q hq => by cases hq; exact h1⟩
  | 4 => by
    obtain ⟨c1, i1, h1⟩ := u_known (C := C_La) (T := T_La) (N := 9) (n := 9) hts in_La (hts _ (lw_gdI 129 (by decide +kernel) rfl))
    exact ⟨(c1, i1), fun q hq => by cases hq; exact h1⟩
  | 5 => by
    obtain ⟨c1, i1, h1⟩ := u_known (C := C_Po) (T := T_Po) (N := 10) (n := 10) hts in_Po (hts _ (lw_gdI 319 (by decide +kernel) rfl))
    exact ⟨(c1, i1), fun q hq => by cases hq; exact h1⟩
  | 6 => by
    obtain ⟨c1, i1, h1⟩ := u_known (C := C_Re) (T := T_Re) (N := 9) (n := 9) hts in_Re (hts _ (lw_gdI 123 (by decide +kernel) rfl))
    exact ⟨(c1, i1), fun q hq => by cases hq; exact h1⟩
  | 7 => by
    obtain ⟨c1, i1, h1⟩ := u_known (C := C_Rp) (T := T_Rp) (N := 2) (n := 2) hts in_Rp (hts _ (lw_gdI 209 (by decide +kernel) rfl))
    exact ⟨(c1, i1), fun q hq => by cases hq; exact h1⟩
  | 8 => by
    obtain ⟨c1, i1, h1⟩ := u_known (C := C_Ro) (T := T_Ro) (N := 1) (n := 1) hts in_Ro (hts _ (lw_gdI 222 (by decide +kernel) rfl))
    exact ⟨(c1, i1), fun q hq => by cases hq; exact h1⟩
  | 9 => by
    obtain ⟨c1, i1, h1⟩ := u_known (C := C_To) (T := T_To) (N := 9) (n := 9) hts in_To (hts _ (lw_gdI 248 (by decide +kernel) rfl))
    exact ⟨(c1, i1), fun q hq => by cases hq; exact h1⟩
  | 10 => by
    obtain ⟨c1, i1, h1⟩ := u_known (C := C_Fp) (T := T_Fp) (N := 11) (n := 11) hts in_Fp (hts _ (lw_gdI 113 (by decide +kernel) rfl))
    exact ⟨(c1, i1), fun q hq => by cases hq; exact h1⟩
  | 11 => by
    obtain ⟨c1, i1, h1⟩ := u_known (C := C_Mo) (T := T_Mo) (N := 27) (n := 27) hts in_Mo (hts _ (lw_gdI 1176 (by decide +kernel) rfl))
    exact ⟨(c1, i1), fun q hq => by cases hq; exact h1⟩
  | k + 12 => ⟨(0, fun _ => 0), fun q hq => by simp [classes] at hq⟩
theorem st_arr {args : Array Value} {s : State} {ty : FieldType} (h : (Cond.arrayClass ty).before args s = true) (hp : ∀ C, ty ≠ .object C) : ∃ cA : ClassId, ArrOfT s cA ty ∧ va_RA s cA ty := by
  obtain ⟨c, k, comp, h1, h2, h3⟩ := Cond.arrayClass_spec h
  refine ⟨c, fun n z => ⟨fun k h => (by cases h), k, h2, comp, h3⟩, ?_⟩
  cases ty <;> first | exact absurd rfl (hp _) | exact h1
theorem st_arrQ {args : Array Value} {s : State} {C : String} (h : (Cond.arrayOver (.object C)).before args s = true) : ∃ cA : ClassId, ArrOfT s cA (.object C) ∧ va_RA s cA (.object C) := by
  obtain ⟨comp, c, k, h1, -, h2, h3, h4⟩ := Cond.arrayOver_spec h
  exact ⟨c, fun n z => ⟨fun k h => (by cases h), k, h2, comp, h3⟩, k, comp, h2, h3, h1, h4⟩
theorem st_tb {args : Array Value} {s : State} (hts : ∀ w ∈ lw_tbl, w.before args s = true) {w : Cond} (i : Nat) (h : lw_tbl[i]? = some w) : w.before args s = true := hts w (List.mem_of_getElem? h)
abbrev tmW : Term := .string "FourPoses$Reader" 107
theorem st_el : ∀ j, j < 108 → (Cond.eq (.elem (.field tmW "java/lang/String" "value" "[B") (.int (Int32.ofNat j))) (.int (byW j))) ∈ flatC (Jvm.Cond.and given_1 narrow_1) := by decide +kernel
/-- what holds of the String constant and of the two statics -/
theorem st_str {s : State} {b : Nat} (hts : ∀ w ∈ lw_tbl, w.before #[Value.ref b] s = true) (hgv : (Jvm.Cond.and given_1 narrow_1).before #[Value.ref b] s = true) : ∃ q qb qf : Nat, ∀ E : EV, eQ E = q → eQb E = qb → eQf E = qf → eH E = s.heap → STR E s := by
  have hs := flat_of_before _ hgv
  have hA : ∀ a : Nat, a < s.heap.size → ¬ (fun q : Nat => s.heap.size ≤ q) a := fun a h => Nat.not_le.mpr h
  obtain ⟨adK, adV, hS, hev⟩ := vk_Sof (args := #[Value.ref b]) (s := s) (N := 1) (tm := fun _ => tmW) (len := [108]) (byt := [(List.range 108).map byW]) (A := fun q : Nat => s.heap.size ≤ q)
    (fun i hi => by obtain rfl : i = 0 := by omega
                    decide)
    (fun i hi => hs _ (by decide +kernel))
    (fun i hi => hs _ (by decide +kernel))
    (fun i hi => hs _ (by decide +kernel))
    (fun i hi => by obtain rfl : i = 0 := by omega
                    exact hs _ (by decide +kernel))
    (fun i hi j hj => by
      obtain rfl : i = 0 := by omega
      have hj : j < 108 := hj
      have e : (([(List.range 108).map byW] : List (List Int32)).getD 0 []).getD j 0 = byW j := by simp [List.getD, hj]
      rw [e]
      exact hs _ (st_el j hj))
    (fun i j hi hj hij => absurd (by omega) hij) hA
  obtain ⟨⟨g1, g2, g3, g4⟩⟩ : (va_O "java/lang/String" (adK 0) (fun q : Nat => s.heap.size ≤ q) s s.heap ∧ va_OF "java/lang/String" "coder" "B" (.int 0) (adK 0) (fun q : Nat => s.heap.size ≤ q) s s.heap ∧ va_OF "java/lang/String" "value" "[B" (.ref (adV 0)) (adK 0) (fun q : Nat => s.heap.size ≤ q) s s.heap ∧ va_T .byte (adV 0) 108 (fun j => .int ((([(List.range 108).map byW] : List (List Int32)).getD 0 []).getD j 0)) (fun q : Nat => s.heap.size ≤ q) s s.heap) ∧ True := ⟨hS.1 0 (by decide), trivial⟩
  have g4' : va_T .byte (adV 0) 108 (fun j => .int (byW j)) (fun q : Nat => s.heap.size ≤ q) s s.heap := by
    obtain ⟨cell, a1, a2, a3, a4, a5, a6, a7⟩ := g4
    refine ⟨cell, a1, a2, a3, a4, a5, fun j hj => ?_, a7⟩
    rw [a6 j hj]; simp [List.getD, hj]
  have h1 : vk_R C_Re 107 txW (adK 0) s := vk_R.of (st_tb hts 585 (by decide +kernel)) (hev 0 (by decide))
  have h6 : va_Z "java/lang/String" "COMPACT_STRINGS" "Z" (.int 1) (fun q : Nat => s.heap.size ≤ q) s s.heap := va_Zof (st_tb hts 595 (by decide +kernel)) (st_tb hts 105 (by decide +kernel)) (va_eqt (hs _ (by decide +kernel))) hA
  have h7 : va_Zq "jdk/internal/util/Preconditions" "SIOOBE_FORMATTER" "Ljava/util/function/BiFunction;" (fun q : Nat => s.heap.size ≤ q) s s.heap := va_Zqof (st_tb hts 611 (by decide +kernel)) (st_tb hts 107 (by decide +kernel)) (hs _ (by decide +kernel)) hA
  rcases h7 with h7 | ⟨t, h7⟩
  · exact ⟨adK 0, adV 0, 0, fun E e1 e2 e3 e4 => by
      unfold STR AE; rw [e1, e2, e4]; exact ⟨h1, g1, g2, g3, g4', h6, Or.inr h7⟩⟩
  · exact ⟨adK 0, adV 0, t, fun E e1 e2 e3 e4 => by
      unfold STR AE; rw [e1, e2, e3, e4]; exact ⟨h1, g1, g2, g3, g4', h6, Or.inl h7⟩⟩
theorem st_KX {s : State} {b L : Nat} {xs : Nat → Int32} (hL : L ≤ 3072) (hts : ∀ w ∈ lw_tbl, w.before #[Value.ref b] s = true) (hX : va_X b L xs s s.heap) (hbl : b < s.heap.size) (hgv : (Jvm.Cond.and given_1 narrow_1).before #[Value.ref b] s = true) : ∃ E : EV, KX E s ∧ eB E = b ∧ eLn E = L ∧ eXs E = xs ∧ eH E = s.heap := by
  have htg : ∀ w ∈ lw_gd, w.before #[Value.ref b] s = true := fun w h => hts w (lw_gd_in w h)
  obtain ⟨f, hf⟩ := Classical.axiomOfChoice (st_classes htg)
  obtain ⟨c1, a1, r1⟩ := st_arr (htg _ ac_int) (fun C h => by cases h)
  obtain ⟨c2, a2, r2⟩ := st_arr (htg _ ac_byte) (fun C h => by cases h)
  obtain ⟨c3, a3, r3⟩ := st_arr (htg _ ac_boolean) (fun C h => by cases h)
  obtain ⟨c4, a4, r4⟩ := st_arr (htg _ ac_long) (fun C h => by cases h)
  have o5 : (Cond.arrayOver (.object C_La)).before #[Value.ref b] s = true := st_tb hts 121 (by decide +kernel)
  have o6 : (Cond.arrayOver (.object C_Bo)).before #[Value.ref b] s = true := st_tb hts 254 (by decide +kernel)
  have o7 : (Cond.arrayOver (.object C_To)).before #[Value.ref b] s = true := st_tb hts 470 (by decide +kernel)
  obtain ⟨c5, a5, r5⟩ := st_arrQ o5
  obtain ⟨c6, a6, r6⟩ := st_arrQ o6
  obtain ⟨c7, a7, r7⟩ := st_arrQ o7
  obtain ⟨q, qb, qf, hstr⟩ := st_str hts hgv
  refine ⟨((b, q, qb, qf), (L, xs), (fun k => (f k).1, fun k => (f k).2), (fun k => if k ≤ 1 then c1 else if k = 2 then c2 else if k = 3 then c3 else if k = 4 then c4 else if k = 5 then c5 else if k = 6 then c6 else c7), s.heap), ⟨⟨fun c q hq => hf c q hq, fun k z hz => ?_⟩, hX, ⟨hbl, hL⟩, fun w hw => ?_, ⟨va_AO.of o5, va_AO.of o6, va_AO.of o7⟩, hstr _ rfl rfl rfl rfl⟩, rfl, rfl, rfl, rfl⟩
  · match k, hz with
    | 0, hz => cases hz; exact ⟨a1, r1⟩
    | 1, hz => cases hz; exact ⟨a1, r1⟩
    | 2, hz => cases hz; exact ⟨a2, r2⟩
    | 3, hz => cases hz; exact ⟨a3, r3⟩
    | 4, hz => cases hz; exact ⟨a4, r4⟩
    | 5, hz => cases hz; exact ⟨a5, r5⟩
    | 6, hz => cases hz; exact ⟨a6, r6⟩
    | 7, hz => cases hz; exact ⟨a7, r7⟩
    | k + 8, hz => simp [tysE] at hz
  · have hw1 := List.mem_filter.mp hw
    have hon : w.onTables = true := by
      have := hw1.2
      cases w <;> simp [lw_isNest] at this
      rfl
    exact va_Nw.of hon (hts w hw1.1)
/-- the memory at the law's entry -/
def mem0 (L : Nat) (xs : Nat → Int32) : Dm := (fun b j => if b = 0 then xs j else if b = 1 ∧ j = 0 then nI L else 0, fun _ _ => 0)
theorem mem0_ZR {L : Nat} {xs : Nat → Int32} : ZR (mem0 L xs) 4 := fun b j hb => ⟨by show (if b = 0 then xs j else if b = 1 ∧ j = 0 then nI L else 0) = 0; rw [if_neg (by omega), if_neg (by omega)], rfl⟩
theorem RT_lt {a j v : Nat} (h4 : 4 ≤ a) (ha : a < 4) (h : RT a j = some v) : 4 ≤ v ∧ v < 4 := by omega
/-- a smaller room -/
theorem W_room {p : Program} {l : Launch} {e : Env} {R R' : Room} {s : State} {m : MethodId} {args : Array Value} {below : List Frame} {meth : Method} {c : Code} {H : Heap} {locs : List Loc} {cells slots : Nat} {Q : State → Prop} {g : JFrame} (h1 : R'.frames ≤ R.frames) (h2 : R'.cells ≤ R.cells) (h3 : R'.slots ≤ R.slots) (h4 : R'.locals ≤ R.locals) (k : W p l e R' s m args below meth c H locs cells slots Q g) : W p l e R s m args below meth c H locs cells slots Q g := by
  intro T hT X
  refine k T hT { X with room := ?_ }
  have h := X.room
  simp only [State.hasRoom, Bool.and_eq_true, decide_eq_true_eq] at h ⊢
  obtain ⟨⟨⟨⟨a1, a2, a3, a4, a5, a6⟩, a7⟩, a8⟩, a9⟩ := h
  exact ⟨⟨⟨⟨by omega, by omega, by omega, by omega, by omega, a6⟩, by omega⟩, by omega⟩, a9⟩
