/-! THE ABSTRACT MACHINE: memory by virtual addresses (numbers, longs, references), one judgement AWo, one rule an instruction; AMet: a method's answer and what it leaves -/
abbrev Dm : Type := (Nat → Nat → Int32) × (Nat → Nat → Int64)
abbrev Rm : Type := Nat → Nat → Option Nat
abbrev Ans : Type := Option Value × Dm × Rm × Nat
def gI (δ : Dm) (a i : Nat) : Int32 := δ.1 a i
def gL (δ : Dm) (a i : Nat) : Int64 := δ.2 a i
def sI (δ : Dm) (a i : Nat) (v : Int32) : Dm := (fun b j => if b = a ∧ j = i then v else δ.1 b j, δ.2)
def sL (δ : Dm) (a i : Nat) (v : Int64) : Dm := (δ.1, fun b j => if b = a ∧ j = i then v else δ.2 b j)
def zr (δ : Dm) (a : Nat) : Dm := (fun b j => if b = a then 0 else δ.1 b j, fun b j => if b = a then 0 else δ.2 b j)
def cpI (δ : Dm) (a b sp dp n : Nat) : Dm := (fun x j => if x = b then va_cpy (δ.1 a) (δ.1 b) sp dp n j else δ.1 x j, δ.2)
def clr (R : Rm) (a : Nat) : Rm := fun b j => if b = a then none else R b j
def uR (R : Rm) (a i v : Nat) : Rm := fun b j => if b = a ∧ j = i then some v else R b j
def dR (x : Int32) : Option Nat := if x = 0 then none else some x.toNatClampNeg
def rfv (o : Option Nat) : Value := match o with
  | none => .null
  | some a => .ref a
def ocs {α β : Type} (o : Option α) (A : β) (B : α → β) : β := match o with
  | none => A
  | some t => B t
theorem ocs_none {α β : Type} (A : β) (B : α → β) : ocs none A B = A := rfl
theorem ocs_some {α β : Type} (t : α) (A : β) (B : α → β) : ocs (some t) A B = B t := rfl
/-- an index within a row -/
abbrev inb (i : Int32) (n : Nat) : Prop := 0 ≤ i.toInt ∧ i.toInt < (n : Int)
abbrev ix (i : Int32) : Nat := i.toNatClampNeg
theorem inb_in {i : Int32} {n : Nat} (h : inb i n) : vp_in i n := vp_in_iff.mpr h
theorem gI_sI (δ : Dm) (a i b j : Nat) (v : Int32) : gI (sI δ a i v) b j = if b = a ∧ j = i then v else gI δ b j := rfl
theorem gL_sL (δ : Dm) (a i b j : Nat) (v : Int64) : gL (sL δ a i v) b j = if b = a ∧ j = i then v else gL δ b j := rfl
theorem gL_sI (δ : Dm) (a i b j : Nat) (v : Int32) : gL (sI δ a i v) b j = gL δ b j := rfl
theorem gI_sL (δ : Dm) (a i b j : Nat) (v : Int64) : gI (sL δ a i v) b j = gI δ b j := rfl
theorem gI_zr (δ : Dm) (a b j : Nat) : gI (zr δ a) b j = if b = a then 0 else gI δ b j := rfl
theorem gL_zr (δ : Dm) (a b j : Nat) : gL (zr δ a) b j = if b = a then 0 else gL δ b j := rfl
/-- the walk's fixed things: script, String constant, its bytes, the formatter; the script's length and ints; the classes; the heap at the law's entry -/
abbrev EV : Type := (Nat × Nat × Nat × Nat) × (Nat × (Nat → Int32)) × va_G × (Nat → ClassId) × Heap
def eB (E : EV) : Nat := E.1.1
def eQ (E : EV) : Nat := E.1.2.1
def eQb (E : EV) : Nat := E.1.2.2.1
def eQf (E : EV) : Nat := E.1.2.2.2
def eLn (E : EV) : Nat := E.2.1.1
def eXs (E : EV) : Nat → Int32 := E.2.1.2
def eD (E : EV) : va_G := E.2.2.1
def eC (E : EV) : Nat → ClassId := E.2.2.2.1
def eH (E : EV) : Heap := E.2.2.2.2
def rho (E : EV) (v : Nat) : Nat := if v = 0 then eB E else if v = 1 then eQ E else if v = 2 then eQb E else if v = 3 then eQf E else (eH E).size + (v - 4)
def shv (E : EV) : Value → Value := fun x => match x with
  | .ref v => .ref (rho E v)
  | y => y
def shl (E : EV) (l : List (Nat × Value)) : List (Nat × Value) := l.map (fun q => (q.1, shv E q.2))
abbrev AE (E : EV) : Addr → Prop := fun q => (eH E).size ≤ q
def txW : String := "head stool light heat day strength strips box place tire age weak dark off refuse refund rent if or and not "
def byW (j : Nat) : Int32 := ((txW.toList.map (fun c => Int32.ofNat c.toNat)).getD j 0)
def lw_isNest : Cond → Bool
  | .methodLinkNest .. => true
  | _ => false
def lw_nest : List Cond := lw_tbl.filter lw_isNest
theorem lw_nestI {w : Cond} (i : Nat) (h : lw_tbl[i]? = some w) (hg : lw_isNest w = true) : w ∈ lw_nest := List.mem_filter.mpr ⟨List.mem_of_getElem? h, hg⟩
def STR (E : EV) (U : State) : Prop := vk_R C_Re 107 txW (eQ E) U ∧ va_O "java/lang/String" (eQ E) (AE E) U (eH E) ∧ va_OF "java/lang/String" "coder" "B" (.int 0) (eQ E) (AE E) U (eH E) ∧ va_OF "java/lang/String" "value" "[B" (.ref (eQb E)) (eQ E) (AE E) U (eH E) ∧ va_T .byte (eQb E) 108 (fun j => .int (byW j)) (AE E) U (eH E) ∧ va_Z "java/lang/String" "COMPACT_STRINGS" "Z" (.int 1) (AE E) U (eH E) ∧ (va_Z "jdk/internal/util/Preconditions" "SIOOBE_FORMATTER" "Ljava/util/function/BiFunction;" (.ref (eQf E)) (AE E) U (eH E) ∨ va_Z "jdk/internal/util/Preconditions" "SIOOBE_FORMATTER" "Ljava/util/function/BiFunction;" .null (AE E) U (eH E))
abbrev tysE (E : EV) : List (ClassId × FieldType) := [(eC E 0, .int), (eC E 1, .int), (eC E 2, .byte), (eC E 3, .boolean), (eC E 4, .long), (eC E 5, .object C_La), (eC E 6, .object C_Bo), (eC E 7, .object C_To)]
def KX (E : EV) (U : State) : Prop := va_K (eD E) classes (tysE E) U ∧ va_X (eB E) (eLn E) (eXs E) U (eH E) ∧ (eB E < (eH E).size ∧ eLn E ≤ 3072) ∧ (∀ w ∈ lw_nest, va_Nw w U) ∧ (va_AO C_La U ∧ va_AO C_Bo U ∧ va_AO C_To U) ∧ STR E U
theorem STR.warm {E : EV} {s U : State} (hW : s.WarmedH U.vm) (h : STR E s) : STR E U := by
  obtain ⟨h1, h2, h3, h4, h5, h6, h7⟩ := h
  exact ⟨h1.warm hW, h2.moved hW.alike, h3.moved hW.alike, h4.moved hW.alike, h5.moved hW.alike, h6.moved hW.alike, h7.imp (fun h => h.moved hW.alike) (fun h => h.moved hW.alike)⟩
theorem STR.same {E : EV} {u U : State} (hv : U.vm = u.vm) (h : STR E u) : STR E U := by
  have ha : u.vm.Alike U.vm := by rw [hv]; exact Vm.Alike.refl _
  obtain ⟨h1, h2, h3, h4, h5, h6, h7⟩ := h
  exact ⟨h1.same hv, h2.moved ha, h3.moved ha, h4.moved ha, h5.moved ha, h6.moved ha, h7.imp (fun h => h.moved ha) (fun h => h.moved ha)⟩
theorem KX.warm {E : EV} {s U : State} (hW : s.WarmedH U.vm) (h : KX E s) : KX E U := by
  obtain ⟨h1, h2, h3, h4, h5, h6⟩ := h
  refine ⟨h1.moved hW.alike, h2.moved hW.alike, h3, fun w hw => ?_, ⟨h5.1.moved hW.alike, h5.2.1.moved hW.alike, h5.2.2.moved hW.alike⟩, h6.warm hW⟩
  have hn := (List.mem_filter.mp hw).2
  cases w <;> simp [lw_isNest] at hn
  exact va_Nw.warmM hW (h4 _ hw)
theorem KX.same {E : EV} {u U : State} (hv : U.vm = u.vm) (h : KX E u) : KX E U := by
  have ha : u.vm.Alike U.vm := by rw [hv]; exact Vm.Alike.refl _
  obtain ⟨h1, h2, h3, h4, h5, h6⟩ := h
  refine ⟨h1.moved ha, h2.moved ha, h3, fun w hw => ?_, ⟨h5.1.moved ha, h5.2.1.moved ha, h5.2.2.moved ha⟩, h6.same hv⟩
  have hn := (List.mem_filter.mp hw).2
  cases w <;> simp [lw_isNest] at hn
  exact va_Nw.same rfl hv.symm (h4 _ hw)
/-- what a cell holds at a place -/
def val (E : EV) (δ : Dm) (R : Rm) (a j : Nat) : Value :=
  if (KD a).1 ≤ 3 then .int (gI δ a j) else if (KD a).1 = 4 then .long (gL δ a j) else if (KD a).1 ≤ 6 then va_rf ((R a j).map (rho E)) else if (KD a).1 = 7 then va_rf ((dR (gI δ a j)).map (rho E))
  else if ftc ((KD a).1 - 10) j = 0 then .int (gI δ a j) else if ftc ((KD a).1 - 10) j = 1 then va_rf ((R a j).map (rho E)) else va_rf ((dR (gI δ a j)).map (rho E))
def cat (E : EV) (δ : Dm) (R : Rm) (a : Nat) (H : Heap) : Prop :=
  if (KD a).1 < 10 then H[rho E a]? = some (arrV (eC E (KD a).1) (KD a).2 (val E δ R a))
  else t_OB (rho E a) ((eD E).1 ((KD a).1 - 10)) (nF ((KD a).1 - 10)) ((eD E).2 ((KD a).1 - 10)) H (val E δ R a)
def dyn (a j : Nat) : Bool := ((KD a).1 == 7) || (decide (10 ≤ (KD a).1) && (ftc ((KD a).1 - 10) j == 2))
def wfm (δ : Dm) (R : Rm) (n : Nat) : Prop := (∀ a j v, 4 ≤ a → a < n → R a j = some v → 4 ≤ v ∧ v < n) ∧ (∀ a j v, 4 ≤ a → a < n → dyn a j = true → dR (gI δ a j) = some v → 4 ≤ v ∧ v < n)
def scr (E : EV) (δ : Dm) : Prop := (∀ j, j < eLn E → gI δ 0 j = eXs E j) ∧ gI δ 1 0 = nI (eLn E)
def Vw (E : EV) (δ : Dm) (R : Rm) (n : Nat) (H : Heap) : Prop := 4 ≤ n ∧ H.size = (eH E).size + (n - 4) ∧ (∀ a, 4 ≤ a → a < n → cat E δ R a H) ∧ (∀ q : Nat, q < (eH E).size → H[q]? = (eH E)[q]?) ∧ wfm δ R n ∧ scr E δ
def okv (n : Nat) (x : Value) : Prop := match x with
  | .ref v => v < n
  | _ => True
def oks (n : Nat) (st : List Value) : Prop := ∀ v ∈ st, okv n v
def okl (n : Nat) (lo : List (Nat × Value)) : Prop := ∀ q ∈ lo, okv n q.2
theorem oks_t {n : Nat} {v : Value} {st : List Value} (h : oks n (v :: st)) : oks n st := fun x hx => h x (List.mem_cons_of_mem _ hx)
theorem oks_h {n : Nat} {v : Value} {st : List Value} (h : oks n (v :: st)) : okv n v := h v List.mem_cons_self
theorem oks_c {n : Nat} {v : Value} {st : List Value} (hv : okv n v) (h : oks n st) : oks n (v :: st) := fun x hx => (List.mem_cons.mp hx).elim (fun e => e ▸ hv) (h x)
theorem oks_i {n : Nat} {x : Int32} {st : List Value} (h : oks n st) : oks n (.int x :: st) := oks_c trivial h
theorem oks_l {n : Nat} {x : Int64} {st : List Value} (h : oks n st) : oks n (.long x :: st) := oks_c trivial h
theorem oks_n {n : Nat} {st : List Value} (h : oks n st) : oks n (.null :: st) := oks_c trivial h
theorem oks_r {n a : Nat} {st : List Value} (ha : a < n) (h : oks n st) : oks n (.ref a :: st) := oks_c ha h
def stI (lo : List (Nat × Value)) (i : Nat) (v : Value) : List (Nat × Value) := (i, v) :: lo.filter (fun q => !(q.1 == i) && !(q.1 + 1 == i && q.2.category == 2))
def stL (lo : List (Nat × Value)) (i : Nat) (v : Value) : List (Nat × Value) := (i, v) :: lo.filter (fun q => !(q.1 == i) && (!(q.1 == i + 1) && !(q.1 + 1 == i && q.2.category == 2)))
theorem shv_cat (E : EV) (v : Value) : (shv E v).category = v.category := by cases v <;> rfl
theorem shl_stI (E : EV) (lo : List (Nat × Value)) (i : Nat) (v : Value) : (i, shv E v) :: (shl E lo).filter (fun q => !(q.1 == i) && !(q.1 + 1 == i && q.2.category == 2)) = shl E (stI lo i v) := by
  simp only [shl, stI, List.map_cons, List.filter_map]
  congr 2
  apply List.filter_congr
  intro q _
  simp only [Function.comp, shv_cat]
theorem shl_stL (E : EV) (lo : List (Nat × Value)) (i : Nat) (v : Value) : (i, shv E v) :: (shl E lo).filter (fun q => !(q.1 == i) && (!(q.1 == i + 1) && !(q.1 + 1 == i && q.2.category == 2))) = shl E (stL lo i v) := by
  simp only [shl, stL, List.map_cons, List.filter_map]
  congr 2
  apply List.filter_congr
  intro q _
  simp only [Function.comp, shv_cat]
theorem okl_stI {n i : Nat} {v : Value} {lo : List (Nat × Value)} (hv : okv n v) (h : okl n lo) : okl n (stI lo i v) := fun q hq => (List.mem_cons.mp hq).elim (fun e => e ▸ hv) (fun hm => h q (List.mem_filter.mp hm).1)
theorem okl_stL {n i : Nat} {v : Value} {lo : List (Nat × Value)} (hv : okv n v) (h : okl n lo) : okl n (stL lo i v) := fun q hq => (List.mem_cons.mp hq).elim (fun e => e ▸ hv) (fun hm => h q (List.mem_filter.mp hm).1)
theorem shl_at {E : EV} {ls : Array Slot} {nL : Nat} {lo : List (Nat × Value)} (h : lv_has ls nL (shl E lo)) (j : Nat) {i : Nat} {v : Value} (hk : lo[j]? = some (i, v)) : ls[i]? = some (.val (shv E v)) := lv_at h j (by simp [shl, hk])
def rmk (d mc ms : Nat) : Room := { frames := d, cells := mc, slots := ms, locals := 64 * d }
def wsk (k : MI) : List Cond := Cond.code k.1 k.2.1 k.2.2.1 k.2.2.2 :: lw_gd
def okr (n : Nat) (r : Option Value) : Prop := match r with
  | some v => okv n v
  | none => True
def QcE (E : EV) (r : Ans) : Array Value → State → Outcome → State → Prop := fun _ st oc t => oc = .returned (r.1.map (shv E)) ∧ Vw E r.2.1 r.2.2.1 r.2.2.2 t.heap ∧ st.heap.size ≤ t.heap.size ∧ okr r.2.2.2 r.1
def PcE (E : EV) (av : List Value) (δ : Dm) (R : Rm) (n : Nat) : Array Value → State → Prop := fun v U => v = (av.map (shv E)).toArray ∧ Vw E δ R n U.heap ∧ KX E U ∧ oks n av
/-- a method's contract: called so, over this memory, it answers so and leaves this one -/
def AMet (k : MI) (d mc ms : Nat) (av : List Value) (δ : Dm) (R : Rm) (n : Nat) (r : Ans) : Prop := ∀ (l : Launch) (E : EV), Met l k.1 (wsk k) (rmk d mc ms) (PcE E av δ R n) (QcE E r) mc ms (AE E)
def BC (k : MI) (p : Program) (s : State) (m : MethodId) (args : Array Value) (meth : Method) (c : Code) (E : EV) : Prop := p.tables.exec = Jvm.exec ∧ c.code = k.2.1 ∧ c.maxLocals = k.2.2.1 ∧ meth.sig.returnType = k.2.2.2 ∧ meth.locks = false ∧ s.vm.findClass k.1.cls = some m.cls ∧ (∀ w ∈ lw_gd, w.before args s = true) ∧ KX E s ∧ (k.1.name = "<init>" → meth.name = "<init>") ∧ (eH E).size ≤ s.heap.size ∧ (∀ q : Nat, q < (eH E).size → s.heap[q]? = (eH E)[q]?)
def AW (k : MI) (d mc ms pc : Nat) (lo : List (Nat × Value)) (st : List Value) (δ : Dm) (R : Rm) (n nc ns : Nat) (r : Ans) : Prop :=
  ∀ (p : Program) (l : Launch) (e : Env) (s : State) (m : MethodId) (args : Array Value) (below : List Frame) (meth : Method) (c : Code) (E : EV), BC k p s m args meth c E → ∀ (H : Heap) (locs : List Loc) (ls : Array Slot), lv_has ls k.2.2.1 (shl E lo) → Vw E δ R n H → va_S (AE E) s.heap H locs → okl n lo → oks n st →
    W p l e (rmk d mc ms) s m args below meth c H locs nc ns (MQ below (QcE E r) args s mc ms (AE E)) (F0 m pc ls (st.map (shv E)))
def AWo {α : Type} (k : MI) (d mc ms pc : Nat) (lo : List (Nat × Value)) (st : List Value) (δ : Dm) (R : Rm) (n nc ns : Nat) (KK : α → Ans) (res : Option α) : Prop := ∀ x, res = some x → AW k d mc ms pc lo st δ R n nc ns (KK x)
section AM
variable {α : Type} {k : MI} {d mc ms pc nc ns n : Nat} {lo lo' : List (Nat × Value)} {st : List Value} {δ : Dm} {R : Rm} {KK : α → Ans} {res A B : Option α}
theorem aw_iconst {nn : Int} {v : Int32} (hdg : decode k.2.1 pc = .ok (.iconst nn, 1)) (hv : Int32.ofInt nn = v) (h : AWo k d mc ms (pc + 1) lo (.int v :: st) δ R n nc ns KK res) : AWo k d mc ms pc lo st δ R n nc ns KK res :=
  fun r hr p l e s m args below meth c E B H locs ls hl hV hS ho hs => lv_iconst B.1 B.2.1 hdg hv (h r hr p l e s m args below meth c E B H locs ls hl hV hS ho (oks_i hs))
theorem aw_bipush {nn : Int} {v : Int32} (hdg : decode k.2.1 pc = .ok (.bipush nn, 2)) (hv : (Int8.ofInt nn).toInt32 = v) (h : AWo k d mc ms (pc + 2) lo (.int v :: st) δ R n nc ns KK res) : AWo k d mc ms pc lo st δ R n nc ns KK res :=
  fun r hr p l e s m args below meth c E B H locs ls hl hV hS ho hs => lv_bipush B.1 B.2.1 hdg hv (h r hr p l e s m args below meth c E B H locs ls hl hV hS ho (oks_i hs))
theorem aw_sipush {nn : Int} {v : Int32} (hdg : decode k.2.1 pc = .ok (.sipush nn, 3)) (hv : (Int16.ofInt nn).toInt32 = v) (h : AWo k d mc ms (pc + 3) lo (.int v :: st) δ R n nc ns KK res) : AWo k d mc ms pc lo st δ R n nc ns KK res :=
  fun r hr p l e s m args below meth c E B H locs ls hl hV hS ho hs => lv_sipush B.1 B.2.1 hdg hv (h r hr p l e s m args below meth c E B H locs ls hl hV hS ho (oks_i hs))
theorem aw_lconst {nn : Fin 2} {v : Int64} (hdg : decode k.2.1 pc = .ok (.lconst nn, 1)) (hv : Int64.ofNat (nn : Nat) = v) (h : AWo k d mc ms (pc + 1) lo (.long v :: st) δ R n nc ns KK res) : AWo k d mc ms pc lo st δ R n nc ns KK res :=
  fun r hr p l e s m args below meth c E B H locs ls hl hV hS ho hs => lv_lconst B.1 B.2.1 hdg hv (h r hr p l e s m args below meth c E B H locs ls hl hV hS ho (oks_l hs))
theorem aw_ldc {ii : Nat} {v : Int32} (hdg : decode k.2.1 pc = .ok (.ldc ii, 2)) (hv : Cond.constant k.1.cls ii v ∈ lw_gd) (h : AWo k d mc ms (pc + 2) lo (.int v :: st) δ R n nc ns KK res) : AWo k d mc ms pc lo st δ R n nc ns KK res :=
  fun r hr p l e s m args below meth c E B H locs ls hl hV hS ho hs => lv_ldc B.1 B.2.1 B.2.2.2.2.2.1 (B.2.2.2.2.2.2.1 _ hv) hdg (h r hr p l e s m args below meth c E B H locs ls hl hV hS ho (oks_i hs))
theorem aw_ldcw {ii : Nat} {v : Int32} (hdg : decode k.2.1 pc = .ok (.ldc_w ii, 3)) (hv : Cond.constant k.1.cls ii v ∈ lw_gd) (h : AWo k d mc ms (pc + 3) lo (.int v :: st) δ R n nc ns KK res) : AWo k d mc ms pc lo st δ R n nc ns KK res :=
  fun r hr p l e s m args below meth c E B H locs ls hl hV hS ho hs => lv_ldcw B.1 B.2.1 B.2.2.2.2.2.1 (B.2.2.2.2.2.2.1 _ hv) hdg (h r hr p l e s m args below meth c E B H locs ls hl hV hS ho (oks_i hs))
theorem aw_ldc2 {ii : Nat} {v : Int64} (hdg : decode k.2.1 pc = .ok (.ldc2_w ii, 3)) (hv : Cond.constantLong k.1.cls ii v ∈ lw_gd) (h : AWo k d mc ms (pc + 3) lo (.long v :: st) δ R n nc ns KK res) : AWo k d mc ms pc lo st δ R n nc ns KK res :=
  fun r hr p l e s m args below meth c E B H locs ls hl hV hS ho hs => lv_ldc2 B.1 B.2.1 B.2.2.2.2.2.1 (B.2.2.2.2.2.2.1 _ hv) hdg (h r hr p l e s m args below meth c E B H locs ls hl hV hS ho (oks_l hs))
theorem aw_null  (hdg : decode k.2.1 pc = .ok (.aconst_null, 1)) (h : AWo k d mc ms (pc + 1) lo (.null :: st) δ R n nc ns KK res) : AWo k d mc ms pc lo st δ R n nc ns KK res :=
  fun r hr p l e s m args below meth c E B H locs ls hl hV hS ho hs => lv_null B.1 B.2.1 hdg (h r hr p l e s m args below meth c E B H locs ls hl hV hS ho (oks_n hs))
theorem aw_iload_n {kk : Fin 4} {x : Int32} (hdg : decode k.2.1 pc = .ok (.iload_n kk, 1)) (j : Nat) (hj : lo[j]? = some ((kk : Nat), .int x)) (h : AWo k d mc ms (pc + 1) lo (.int x :: st) δ R n nc ns KK res) : AWo k d mc ms pc lo st δ R n nc ns KK res :=
  fun r hr p l e s m args below meth c E B H locs ls hl hV hS ho hs => lv_iload_n B.1 B.2.1 hdg rfl (shl_at hl j hj) (h r hr p l e s m args below meth c E B H locs ls hl hV hS ho (oks_i hs))
theorem aw_iload {ii : Nat} {x : Int32} (hdg : decode k.2.1 pc = .ok (.iload ii, 2)) (j : Nat) (hj : lo[j]? = some (ii, .int x)) (h : AWo k d mc ms (pc + 2) lo (.int x :: st) δ R n nc ns KK res) : AWo k d mc ms pc lo st δ R n nc ns KK res :=
  fun r hr p l e s m args below meth c E B H locs ls hl hV hS ho hs => lv_iload B.1 B.2.1 hdg (shl_at hl j hj) (h r hr p l e s m args below meth c E B H locs ls hl hV hS ho (oks_i hs))
theorem aw_lload_n {kk : Fin 4} {x : Int64} (hdg : decode k.2.1 pc = .ok (.lload_n kk, 1)) (j : Nat) (hj : lo[j]? = some ((kk : Nat), .long x)) (h : AWo k d mc ms (pc + 1) lo (.long x :: st) δ R n nc ns KK res) : AWo k d mc ms pc lo st δ R n nc ns KK res :=
  fun r hr p l e s m args below meth c E B H locs ls hl hV hS ho hs => lv_lload_n B.1 B.2.1 hdg rfl (shl_at hl j hj) (h r hr p l e s m args below meth c E B H locs ls hl hV hS ho (oks_l hs))
theorem aw_lload {ii : Nat} {x : Int64} (hdg : decode k.2.1 pc = .ok (.lload ii, 2)) (j : Nat) (hj : lo[j]? = some (ii, .long x)) (h : AWo k d mc ms (pc + 2) lo (.long x :: st) δ R n nc ns KK res) : AWo k d mc ms pc lo st δ R n nc ns KK res :=
  fun r hr p l e s m args below meth c E B H locs ls hl hV hS ho hs => lv_lload B.1 B.2.1 hdg (shl_at hl j hj) (h r hr p l e s m args below meth c E B H locs ls hl hV hS ho (oks_l hs))
theorem aw_aload_n {kk : Fin 4} {x : Nat} (hdg : decode k.2.1 pc = .ok (.aload_n kk, 1)) (j : Nat) (hj : lo[j]? = some ((kk : Nat), .ref x)) (h : AWo k d mc ms (pc + 1) lo (.ref x :: st) δ R n nc ns KK res) : AWo k d mc ms pc lo st δ R n nc ns KK res :=
  fun r hr p l e s m args below meth c E B H locs ls hl hV hS ho hs => lv_aload_n B.1 B.2.1 hdg rfl (shl_at hl j hj) (h r hr p l e s m args below meth c E B H locs ls hl hV hS ho (oks_r (ho _ (List.mem_of_getElem? hj)) hs))
theorem aw_aload {ii : Nat} {x : Nat} (hdg : decode k.2.1 pc = .ok (.aload ii, 2)) (j : Nat) (hj : lo[j]? = some (ii, .ref x)) (h : AWo k d mc ms (pc + 2) lo (.ref x :: st) δ R n nc ns KK res) : AWo k d mc ms pc lo st δ R n nc ns KK res :=
  fun r hr p l e s m args below meth c E B H locs ls hl hV hS ho hs => lv_aload B.1 B.2.1 hdg (shl_at hl j hj) (h r hr p l e s m args below meth c E B H locs ls hl hV hS ho (oks_r (ho _ (List.mem_of_getElem? hj)) hs))
theorem aw_aloadN_n {kk : Fin 4} (hdg : decode k.2.1 pc = .ok (.aload_n kk, 1)) (j : Nat) (hj : lo[j]? = some ((kk : Nat), .null)) (h : AWo k d mc ms (pc + 1) lo (.null :: st) δ R n nc ns KK res) : AWo k d mc ms pc lo st δ R n nc ns KK res :=
  fun r hr p l e s m args below meth c E B H locs ls hl hV hS ho hs => lv_aload_nN B.1 B.2.1 hdg rfl (shl_at hl j hj) (h r hr p l e s m args below meth c E B H locs ls hl hV hS ho (oks_n hs))
theorem aw_aloadN {ii : Nat} (hdg : decode k.2.1 pc = .ok (.aload ii, 2)) (j : Nat) (hj : lo[j]? = some (ii, .null)) (h : AWo k d mc ms (pc + 2) lo (.null :: st) δ R n nc ns KK res) : AWo k d mc ms pc lo st δ R n nc ns KK res :=
  fun r hr p l e s m args below meth c E B H locs ls hl hV hS ho hs => lv_aloadN B.1 B.2.1 hdg (shl_at hl j hj) (h r hr p l e s m args below meth c E B H locs ls hl hV hS ho (oks_n hs))
theorem aw_istore_n {kk : Fin 4} {i : Nat} {x : Int32} (hdg : decode k.2.1 pc = .ok (.istore_n kk, 1)) (hi : (kk : Nat) = i) (hn : i < k.2.2.1) (hlo : stI lo i (.int x) = lo') (h : AWo k d mc ms (pc + 1) lo' st δ R n nc ns KK res) : AWo k d mc ms pc lo (.int x :: st) δ R n nc ns KK res :=
  fun r hr p l e s m args below meth c E B H locs ls hl hV hS ho hs => lv_istore_n B.1 B.2.1 hdg hi  hl hn (shl_stI E lo i (.int x)) (fun ls hl => h r hr p l e s m args below meth c E B H locs ls (hlo ▸ hl) hV hS (hlo ▸ okl_stI (oks_h hs) ho) (oks_t hs))
theorem aw_istore {i : Nat} {x : Int32} (hdg : decode k.2.1 pc = .ok (.istore i, 2)) (hn : i < k.2.2.1) (hlo : stI lo i (.int x) = lo') (h : AWo k d mc ms (pc + 2) lo' st δ R n nc ns KK res) : AWo k d mc ms pc lo (.int x :: st) δ R n nc ns KK res :=
  fun r hr p l e s m args below meth c E B H locs ls hl hV hS ho hs => lv_istore B.1 B.2.1 hdg  hl hn (shl_stI E lo i (.int x)) (fun ls hl => h r hr p l e s m args below meth c E B H locs ls (hlo ▸ hl) hV hS (hlo ▸ okl_stI (oks_h hs) ho) (oks_t hs))
theorem aw_lstore_n {kk : Fin 4} {i : Nat} {x : Int64} (hdg : decode k.2.1 pc = .ok (.lstore_n kk, 1)) (hi : (kk : Nat) = i) (hn : i + 1 < k.2.2.1) (hlo : stL lo i (.long x) = lo') (h : AWo k d mc ms (pc + 1) lo' st δ R n nc ns KK res) : AWo k d mc ms pc lo (.long x :: st) δ R n nc ns KK res :=
  fun r hr p l e s m args below meth c E B H locs ls hl hV hS ho hs => lv_lstore_n B.1 B.2.1 hdg hi  hl hn (shl_stL E lo i (.long x)) (fun ls hl => h r hr p l e s m args below meth c E B H locs ls (hlo ▸ hl) hV hS (hlo ▸ okl_stL (oks_h hs) ho) (oks_t hs))
theorem aw_lstore {i : Nat} {x : Int64} (hdg : decode k.2.1 pc = .ok (.lstore i, 2)) (hn : i + 1 < k.2.2.1) (hlo : stL lo i (.long x) = lo') (h : AWo k d mc ms (pc + 2) lo' st δ R n nc ns KK res) : AWo k d mc ms pc lo (.long x :: st) δ R n nc ns KK res :=
  fun r hr p l e s m args below meth c E B H locs ls hl hV hS ho hs => lv_lstore B.1 B.2.1 hdg  hl hn (shl_stL E lo i (.long x)) (fun ls hl => h r hr p l e s m args below meth c E B H locs ls (hlo ▸ hl) hV hS (hlo ▸ okl_stL (oks_h hs) ho) (oks_t hs))
theorem aw_astore_n {kk : Fin 4} {i : Nat} {x : Nat} (hdg : decode k.2.1 pc = .ok (.astore_n kk, 1)) (hi : (kk : Nat) = i) (hn : i < k.2.2.1) (hlo : stI lo i (.ref x) = lo') (h : AWo k d mc ms (pc + 1) lo' st δ R n nc ns KK res) : AWo k d mc ms pc lo (.ref x :: st) δ R n nc ns KK res :=
  fun r hr p l e s m args below meth c E B H locs ls hl hV hS ho hs => lv_astore_n B.1 B.2.1 hdg hi  hl hn (shl_stI E lo i (.ref x)) (fun ls hl => h r hr p l e s m args below meth c E B H locs ls (hlo ▸ hl) hV hS (hlo ▸ okl_stI (oks_h hs) ho) (oks_t hs))
theorem aw_astore {i : Nat} {x : Nat} (hdg : decode k.2.1 pc = .ok (.astore i, 2)) (hn : i < k.2.2.1) (hlo : stI lo i (.ref x) = lo') (h : AWo k d mc ms (pc + 2) lo' st δ R n nc ns KK res) : AWo k d mc ms pc lo (.ref x :: st) δ R n nc ns KK res :=
  fun r hr p l e s m args below meth c E B H locs ls hl hV hS ho hs => lv_astore B.1 B.2.1 hdg  hl hn (shl_stI E lo i (.ref x)) (fun ls hl => h r hr p l e s m args below meth c E B H locs ls (hlo ▸ hl) hV hS (hlo ▸ okl_stI (oks_h hs) ho) (oks_t hs))
theorem aw_astoreN_n {kk : Fin 4} {i : Nat}  (hdg : decode k.2.1 pc = .ok (.astore_n kk, 1)) (hi : (kk : Nat) = i) (hn : i < k.2.2.1) (hlo : stI lo i .null = lo') (h : AWo k d mc ms (pc + 1) lo' st δ R n nc ns KK res) : AWo k d mc ms pc lo (.null :: st) δ R n nc ns KK res :=
  fun r hr p l e s m args below meth c E B H locs ls hl hV hS ho hs => lv_astore_nN B.1 B.2.1 hdg hi  hl hn (shl_stI E lo i .null) (fun ls hl => h r hr p l e s m args below meth c E B H locs ls (hlo ▸ hl) hV hS (hlo ▸ okl_stI (oks_h hs) ho) (oks_t hs))
theorem aw_astoreN {i : Nat}  (hdg : decode k.2.1 pc = .ok (.astore i, 2)) (hn : i < k.2.2.1) (hlo : stI lo i .null = lo') (h : AWo k d mc ms (pc + 2) lo' st δ R n nc ns KK res) : AWo k d mc ms pc lo (.null :: st) δ R n nc ns KK res :=
  fun r hr p l e s m args below meth c E B H locs ls hl hV hS ho hs => lv_astoreN B.1 B.2.1 hdg  hl hn (shl_stI E lo i .null) (fun ls hl => h r hr p l e s m args below meth c E B H locs ls (hlo ▸ hl) hV hS (hlo ▸ okl_stI (oks_h hs) ho) (oks_t hs))
theorem aw_iinc {i : Nat} {nn : Int} {x v : Int32} (hdg : decode k.2.1 pc = .ok (.iinc i nn, 3)) (j : Nat) (hj : lo[j]? = some (i, .int x)) (hv : x + Int32.ofInt nn = v) (hn : i < k.2.2.1) (hlo : stI lo i (.int v) = lo') (h : AWo k d mc ms (pc + 3) lo' st δ R n nc ns KK res) : AWo k d mc ms pc lo st δ R n nc ns KK res :=
  fun r hr p l e s m args below meth c E B H locs ls hl hV hS ho hs => lv_iinc B.1 B.2.1 hdg hl (k := j) (by simp [shl, hj, shv]) hv hn (shl_stI E lo i (.int v)) (fun ls hl => h r hr p l e s m args below meth c E B H locs ls (hlo ▸ hl) hV hS (hlo ▸ okl_stI trivial ho) hs)
theorem aw_iadd {x y : Int32} (hdg : decode k.2.1 pc = .ok (.iadd, 1)) (h : AWo k d mc ms (pc + 1) lo (.int (x + y) :: st) δ R n nc ns KK res) : AWo k d mc ms pc lo (.int y :: .int x :: st) δ R n nc ns KK res :=
  fun r hr p l e s m args below meth c E B H locs ls hl hV hS ho hs => lv_iadd B.1 B.2.1 hdg (h r hr p l e s m args below meth c E B H locs ls hl hV hS ho (oks_i (oks_t (oks_t hs))))
theorem aw_isub {x y : Int32} (hdg : decode k.2.1 pc = .ok (.isub, 1)) (h : AWo k d mc ms (pc + 1) lo (.int (x - y) :: st) δ R n nc ns KK res) : AWo k d mc ms pc lo (.int y :: .int x :: st) δ R n nc ns KK res :=
  fun r hr p l e s m args below meth c E B H locs ls hl hV hS ho hs => lv_isub B.1 B.2.1 hdg (h r hr p l e s m args below meth c E B H locs ls hl hV hS ho (oks_i (oks_t (oks_t hs))))
theorem aw_imul {x y : Int32} (hdg : decode k.2.1 pc = .ok (.imul, 1)) (h : AWo k d mc ms (pc + 1) lo (.int (x * y) :: st) δ R n nc ns KK res) : AWo k d mc ms pc lo (.int y :: .int x :: st) δ R n nc ns KK res :=
  fun r hr p l e s m args below meth c E B H locs ls hl hV hS ho hs => lv_imul B.1 B.2.1 hdg (h r hr p l e s m args below meth c E B H locs ls hl hV hS ho (oks_i (oks_t (oks_t hs))))
theorem aw_iand {x y : Int32} (hdg : decode k.2.1 pc = .ok (.iand, 1)) (h : AWo k d mc ms (pc + 1) lo (.int (x &&& y) :: st) δ R n nc ns KK res) : AWo k d mc ms pc lo (.int y :: .int x :: st) δ R n nc ns KK res :=
  fun r hr p l e s m args below meth c E B H locs ls hl hV hS ho hs => lv_iand B.1 B.2.1 hdg (h r hr p l e s m args below meth c E B H locs ls hl hV hS ho (oks_i (oks_t (oks_t hs))))
theorem aw_ior {x y : Int32} (hdg : decode k.2.1 pc = .ok (.ior, 1)) (h : AWo k d mc ms (pc + 1) lo (.int (x ||| y) :: st) δ R n nc ns KK res) : AWo k d mc ms pc lo (.int y :: .int x :: st) δ R n nc ns KK res :=
  fun r hr p l e s m args below meth c E B H locs ls hl hV hS ho hs => lv_ior B.1 B.2.1 hdg (h r hr p l e s m args below meth c E B H locs ls hl hV hS ho (oks_i (oks_t (oks_t hs))))
theorem aw_ixor {x y : Int32} (hdg : decode k.2.1 pc = .ok (.ixor, 1)) (h : AWo k d mc ms (pc + 1) lo (.int (x ^^^ y) :: st) δ R n nc ns KK res) : AWo k d mc ms pc lo (.int y :: .int x :: st) δ R n nc ns KK res :=
  fun r hr p l e s m args below meth c E B H locs ls hl hV hS ho hs => lv_ixor B.1 B.2.1 hdg (h r hr p l e s m args below meth c E B H locs ls hl hV hS ho (oks_i (oks_t (oks_t hs))))
theorem aw_ishl {x y : Int32} (hdg : decode k.2.1 pc = .ok (.ishl, 1)) (h : AWo k d mc ms (pc + 1) lo (.int (x <<< (y &&& 31)) :: st) δ R n nc ns KK res) : AWo k d mc ms pc lo (.int y :: .int x :: st) δ R n nc ns KK res :=
  fun r hr p l e s m args below meth c E B H locs ls hl hV hS ho hs => lv_ishl B.1 B.2.1 hdg (h r hr p l e s m args below meth c E B H locs ls hl hV hS ho (oks_i (oks_t (oks_t hs))))
theorem aw_ishr {x y : Int32} (hdg : decode k.2.1 pc = .ok (.ishr, 1)) (h : AWo k d mc ms (pc + 1) lo (.int (x >>> (y &&& 31)) :: st) δ R n nc ns KK res) : AWo k d mc ms pc lo (.int y :: .int x :: st) δ R n nc ns KK res :=
  fun r hr p l e s m args below meth c E B H locs ls hl hV hS ho hs => lv_ishr B.1 B.2.1 hdg (h r hr p l e s m args below meth c E B H locs ls hl hV hS ho (oks_i (oks_t (oks_t hs))))
theorem aw_iushr {x y : Int32} (hdg : decode k.2.1 pc = .ok (.iushr, 1)) (h : AWo k d mc ms (pc + 1) lo (.int ((x.toUInt32 >>> (y.toUInt32 &&& Int32.toUInt32 31)).toInt32) :: st) δ R n nc ns KK res) : AWo k d mc ms pc lo (.int y :: .int x :: st) δ R n nc ns KK res :=
  fun r hr p l e s m args below meth c E B H locs ls hl hV hS ho hs => lv_iushr B.1 B.2.1 hdg rfl (h r hr p l e s m args below meth c E B H locs ls hl hV hS ho (oks_i (oks_t (oks_t hs))))
theorem aw_ineg {x : Int32} (hdg : decode k.2.1 pc = .ok (.ineg, 1)) (h : AWo k d mc ms (pc + 1) lo (.int (-x) :: st) δ R n nc ns KK res) : AWo k d mc ms pc lo (.int x :: st) δ R n nc ns KK res :=
  fun r hr p l e s m args below meth c E B H locs ls hl hV hS ho hs => lv_ineg B.1 B.2.1 hdg (h r hr p l e s m args below meth c E B H locs ls hl hV hS ho (oks_i (oks_t hs)))
theorem aw_ladd {x y : Int64} (hdg : decode k.2.1 pc = .ok (.ladd, 1)) (h : AWo k d mc ms (pc + 1) lo (.long (x + y) :: st) δ R n nc ns KK res) : AWo k d mc ms pc lo (.long y :: .long x :: st) δ R n nc ns KK res :=
  fun r hr p l e s m args below meth c E B H locs ls hl hV hS ho hs => lv_ladd B.1 B.2.1 hdg (h r hr p l e s m args below meth c E B H locs ls hl hV hS ho (oks_l (oks_t (oks_t hs))))
theorem aw_lsub {x y : Int64} (hdg : decode k.2.1 pc = .ok (.lsub, 1)) (h : AWo k d mc ms (pc + 1) lo (.long (x - y) :: st) δ R n nc ns KK res) : AWo k d mc ms pc lo (.long y :: .long x :: st) δ R n nc ns KK res :=
  fun r hr p l e s m args below meth c E B H locs ls hl hV hS ho hs => lv_lsub B.1 B.2.1 hdg (h r hr p l e s m args below meth c E B H locs ls hl hV hS ho (oks_l (oks_t (oks_t hs))))
theorem aw_lmul {x y : Int64} (hdg : decode k.2.1 pc = .ok (.lmul, 1)) (h : AWo k d mc ms (pc + 1) lo (.long (x * y) :: st) δ R n nc ns KK res) : AWo k d mc ms pc lo (.long y :: .long x :: st) δ R n nc ns KK res :=
  fun r hr p l e s m args below meth c E B H locs ls hl hV hS ho hs => lv_lmul B.1 B.2.1 hdg (h r hr p l e s m args below meth c E B H locs ls hl hV hS ho (oks_l (oks_t (oks_t hs))))
theorem aw_land {x y : Int64} (hdg : decode k.2.1 pc = .ok (.land, 1)) (h : AWo k d mc ms (pc + 1) lo (.long (x &&& y) :: st) δ R n nc ns KK res) : AWo k d mc ms pc lo (.long y :: .long x :: st) δ R n nc ns KK res :=
  fun r hr p l e s m args below meth c E B H locs ls hl hV hS ho hs => lv_land B.1 B.2.1 hdg (h r hr p l e s m args below meth c E B H locs ls hl hV hS ho (oks_l (oks_t (oks_t hs))))
theorem aw_lor {x y : Int64} (hdg : decode k.2.1 pc = .ok (.lor, 1)) (h : AWo k d mc ms (pc + 1) lo (.long (x ||| y) :: st) δ R n nc ns KK res) : AWo k d mc ms pc lo (.long y :: .long x :: st) δ R n nc ns KK res :=
  fun r hr p l e s m args below meth c E B H locs ls hl hV hS ho hs => lv_lor B.1 B.2.1 hdg (h r hr p l e s m args below meth c E B H locs ls hl hV hS ho (oks_l (oks_t (oks_t hs))))
theorem aw_lxor {x y : Int64} (hdg : decode k.2.1 pc = .ok (.lxor, 1)) (h : AWo k d mc ms (pc + 1) lo (.long (x ^^^ y) :: st) δ R n nc ns KK res) : AWo k d mc ms pc lo (.long y :: .long x :: st) δ R n nc ns KK res :=
  fun r hr p l e s m args below meth c E B H locs ls hl hV hS ho hs => lv_lxor B.1 B.2.1 hdg (h r hr p l e s m args below meth c E B H locs ls hl hV hS ho (oks_l (oks_t (oks_t hs))))
theorem aw_ldiv {x y : Int64} (hdg : decode k.2.1 pc = .ok (.ldiv, 1)) (h : AWo k d mc ms (pc + 1) lo (.long (x / y) :: st) δ R n nc ns KK res) : AWo k d mc ms pc lo (.long y :: .long x :: st) δ R n nc ns KK (if y = 0 then none else res) := by
  intro r hr p l e s m args below meth c E B H locs ls hl hV hS ho hs
  by_cases hy : y = 0
  · rw [if_pos hy] at hr; cases hr
  · rw [if_neg hy] at hr
    exact lv_ldiv B.1 B.2.1 hdg hy (h r hr p l e s m args below meth c E B H locs ls hl hV hS ho (oks_l (oks_t (oks_t hs))))
theorem aw_lshl {x : Int64} {y : Int32} (hdg : decode k.2.1 pc = .ok (.lshl, 1)) (h : AWo k d mc ms (pc + 1) lo (.long (x <<< (y.toInt64 &&& 63)) :: st) δ R n nc ns KK res) : AWo k d mc ms pc lo (.int y :: .long x :: st) δ R n nc ns KK res :=
  fun r hr p l e s m args below meth c E B H locs ls hl hV hS ho hs => lv_lshl B.1 B.2.1 hdg rfl (h r hr p l e s m args below meth c E B H locs ls hl hV hS ho (oks_l (oks_t (oks_t hs))))
theorem aw_lcmp {x y : Int64} (hdg : decode k.2.1 pc = .ok (.lcmp, 1)) (h : AWo k d mc ms (pc + 1) lo (.int (lg_cmp x y) :: st) δ R n nc ns KK res) : AWo k d mc ms pc lo (.long y :: .long x :: st) δ R n nc ns KK res :=
  fun r hr p l e s m args below meth c E B H locs ls hl hV hS ho hs => W.lcmp B.1 B.2.1 hdg (h r hr p l e s m args below meth c E B H locs ls hl hV hS ho (oks_i (oks_t (oks_t hs))))
theorem aw_i2l {x : Int32} (hdg : decode k.2.1 pc = .ok (.i2l, 1)) (h : AWo k d mc ms (pc + 1) lo (.long x.toInt64 :: st) δ R n nc ns KK res) : AWo k d mc ms pc lo (.int x :: st) δ R n nc ns KK res :=
  fun r hr p l e s m args below meth c E B H locs ls hl hV hS ho hs => lv_i2l B.1 B.2.1 hdg rfl (h r hr p l e s m args below meth c E B H locs ls hl hV hS ho (oks_l (oks_t hs)))
theorem aw_l2i {x : Int64} (hdg : decode k.2.1 pc = .ok (.l2i, 1)) (h : AWo k d mc ms (pc + 1) lo (.int x.toInt32 :: st) δ R n nc ns KK res) : AWo k d mc ms pc lo (.long x :: st) δ R n nc ns KK res :=
  fun r hr p l e s m args below meth c E B H locs ls hl hV hS ho hs => lv_l2i B.1 B.2.1 hdg rfl (h r hr p l e s m args below meth c E B H locs ls hl hV hS ho (oks_i (oks_t hs)))
theorem aw_i2b {x : Int32} (hdg : decode k.2.1 pc = .ok (.i2b, 1)) (h : AWo k d mc ms (pc + 1) lo (.int x.toInt8.toInt32 :: st) δ R n nc ns KK res) : AWo k d mc ms pc lo (.int x :: st) δ R n nc ns KK res :=
  fun r hr p l e s m args below meth c E B H locs ls hl hV hS ho hs => lv_i2b B.1 B.2.1 hdg rfl (h r hr p l e s m args below meth c E B H locs ls hl hV hS ho (oks_i (oks_t hs)))
theorem aw_i2c {x : Int32} (hdg : decode k.2.1 pc = .ok (.i2c, 1)) (h : AWo k d mc ms (pc + 1) lo (.int (x.toUInt32 % 65536).toInt32 :: st) δ R n nc ns KK res) : AWo k d mc ms pc lo (.int x :: st) δ R n nc ns KK res :=
  fun r hr p l e s m args below meth c E B H locs ls hl hV hS ho hs => lv_i2c B.1 B.2.1 hdg rfl (h r hr p l e s m args below meth c E B H locs ls hl hV hS ho (oks_i (oks_t hs)))
theorem aw_dup {v : Value} (hdg : decode k.2.1 pc = .ok (.dup, 1)) (hc : v.category = 1) (h : AWo k d mc ms (pc + 1) lo (v :: v :: st) δ R n nc ns KK res) : AWo k d mc ms pc lo (v :: st) δ R n nc ns KK res :=
  fun r hr p l e s m args below meth c E B H locs ls hl hV hS ho hs => lv_dup B.1 B.2.1 hdg (by rw [shv_cat]; exact hc) (h r hr p l e s m args below meth c E B H locs ls hl hV hS ho (oks_c (oks_h hs) hs))
theorem aw_pop {v : Value} (hdg : decode k.2.1 pc = .ok (.pop, 1)) (hc : v.category = 1) (h : AWo k d mc ms (pc + 1) lo st δ R n nc ns KK res) : AWo k d mc ms pc lo (v :: st) δ R n nc ns KK res :=
  fun r hr p l e s m args below meth c E B H locs ls hl hV hS ho hs => lv_pop B.1 B.2.1 hdg (by rw [shv_cat]; exact hc) (h r hr p l e s m args below meth c E B H locs ls hl hV hS ho (oks_t hs))
theorem aw_dup2 {v w : Value} (hdg : decode k.2.1 pc = .ok (.dup2, 1)) (hc : v.category = 1) (hc2 : w.category = 1) (h : AWo k d mc ms (pc + 1) lo (v :: w :: v :: w :: st) δ R n nc ns KK res) : AWo k d mc ms pc lo (v :: w :: st) δ R n nc ns KK res :=
  fun r hr p l e s m args below meth c E B H locs ls hl hV hS ho hs => lv_dup2_11 B.1 B.2.1 hdg (by rw [shv_cat]; exact hc) (by rw [shv_cat]; exact hc2) (h r hr p l e s m args below meth c E B H locs ls hl hV hS ho (oks_c (oks_h hs) (oks_c (oks_h (oks_t hs)) hs)))
theorem aw_icmp_eq {x y : Int32} {off : Int} {tgt : Nat} (hdg : decode k.2.1 pc = .ok (.if_icmp .eq off, 3)) (ht : (pc : Int) + off = (tgt : Int)) (h1 : x = y → AWo k d mc ms tgt lo st δ R n nc ns KK A) (h2 : ¬ (x = y) → AWo k d mc ms (pc + 3) lo st δ R n nc ns KK B) : AWo k d mc ms pc lo (.int y :: .int x :: st) δ R n nc ns KK (if x = y then A else B) :=
  fun r hr p l e s m args below meth c E BB H locs ls hl hV hS ho hs => lv_icmp_eq BB.1 BB.2.1 hdg ht (fun q => h1 q r (by rw [if_pos q] at hr; exact hr) p l e s m args below meth c E BB H locs ls hl hV hS ho (oks_t (oks_t hs))) (fun q => h2 q r (by rw [if_neg q] at hr; exact hr) p l e s m args below meth c E BB H locs ls hl hV hS ho (oks_t (oks_t hs)))
theorem aw_if_eq {x : Int32} {off : Int} {tgt : Nat} (hdg : decode k.2.1 pc = .ok (.ifCond .eq off, 3)) (ht : (pc : Int) + off = (tgt : Int)) (h1 : x = 0 → AWo k d mc ms tgt lo st δ R n nc ns KK A) (h2 : ¬ (x = 0) → AWo k d mc ms (pc + 3) lo st δ R n nc ns KK B) : AWo k d mc ms pc lo (.int x :: st) δ R n nc ns KK (if x = 0 then A else B) :=
  fun r hr p l e s m args below meth c E BB H locs ls hl hV hS ho hs => lv_if_eq BB.1 BB.2.1 hdg ht (fun q => h1 q r (by rw [if_pos q] at hr; exact hr) p l e s m args below meth c E BB H locs ls hl hV hS ho (oks_t hs)) (fun q => h2 q r (by rw [if_neg q] at hr; exact hr) p l e s m args below meth c E BB H locs ls hl hV hS ho (oks_t hs))
theorem aw_icmp_lt {x y : Int32} {off : Int} {tgt : Nat} (hdg : decode k.2.1 pc = .ok (.if_icmp .lt off, 3)) (ht : (pc : Int) + off = (tgt : Int)) (h1 : x < y → AWo k d mc ms tgt lo st δ R n nc ns KK A) (h2 : ¬ (x < y) → AWo k d mc ms (pc + 3) lo st δ R n nc ns KK B) : AWo k d mc ms pc lo (.int y :: .int x :: st) δ R n nc ns KK (if x < y then A else B) :=
  fun r hr p l e s m args below meth c E BB H locs ls hl hV hS ho hs => lv_icmp_lt BB.1 BB.2.1 hdg ht (fun q => h1 q r (by rw [if_pos q] at hr; exact hr) p l e s m args below meth c E BB H locs ls hl hV hS ho (oks_t (oks_t hs))) (fun q => h2 q r (by rw [if_neg q] at hr; exact hr) p l e s m args below meth c E BB H locs ls hl hV hS ho (oks_t (oks_t hs)))
theorem aw_if_lt {x : Int32} {off : Int} {tgt : Nat} (hdg : decode k.2.1 pc = .ok (.ifCond .lt off, 3)) (ht : (pc : Int) + off = (tgt : Int)) (h1 : x < 0 → AWo k d mc ms tgt lo st δ R n nc ns KK A) (h2 : ¬ (x < 0) → AWo k d mc ms (pc + 3) lo st δ R n nc ns KK B) : AWo k d mc ms pc lo (.int x :: st) δ R n nc ns KK (if x < 0 then A else B) :=
  fun r hr p l e s m args below meth c E BB H locs ls hl hV hS ho hs => lv_if_lt BB.1 BB.2.1 hdg ht (fun q => h1 q r (by rw [if_pos q] at hr; exact hr) p l e s m args below meth c E BB H locs ls hl hV hS ho (oks_t hs)) (fun q => h2 q r (by rw [if_neg q] at hr; exact hr) p l e s m args below meth c E BB H locs ls hl hV hS ho (oks_t hs))
theorem aw_icmp_ge {x y : Int32} {off : Int} {tgt : Nat} (hdg : decode k.2.1 pc = .ok (.if_icmp .ge off, 3)) (ht : (pc : Int) + off = (tgt : Int)) (h1 : y ≤ x → AWo k d mc ms tgt lo st δ R n nc ns KK A) (h2 : ¬ (y ≤ x) → AWo k d mc ms (pc + 3) lo st δ R n nc ns KK B) : AWo k d mc ms pc lo (.int y :: .int x :: st) δ R n nc ns KK (if y ≤ x then A else B) :=
  fun r hr p l e s m args below meth c E BB H locs ls hl hV hS ho hs => lv_icmp_ge BB.1 BB.2.1 hdg ht (fun q => h1 q r (by rw [if_pos q] at hr; exact hr) p l e s m args below meth c E BB H locs ls hl hV hS ho (oks_t (oks_t hs))) (fun q => h2 q r (by rw [if_neg q] at hr; exact hr) p l e s m args below meth c E BB H locs ls hl hV hS ho (oks_t (oks_t hs)))
theorem aw_if_ge {x : Int32} {off : Int} {tgt : Nat} (hdg : decode k.2.1 pc = .ok (.ifCond .ge off, 3)) (ht : (pc : Int) + off = (tgt : Int)) (h1 : 0 ≤ x → AWo k d mc ms tgt lo st δ R n nc ns KK A) (h2 : ¬ (0 ≤ x) → AWo k d mc ms (pc + 3) lo st δ R n nc ns KK B) : AWo k d mc ms pc lo (.int x :: st) δ R n nc ns KK (if 0 ≤ x then A else B) :=
  fun r hr p l e s m args below meth c E BB H locs ls hl hV hS ho hs => lv_if_ge BB.1 BB.2.1 hdg ht (fun q => h1 q r (by rw [if_pos q] at hr; exact hr) p l e s m args below meth c E BB H locs ls hl hV hS ho (oks_t hs)) (fun q => h2 q r (by rw [if_neg q] at hr; exact hr) p l e s m args below meth c E BB H locs ls hl hV hS ho (oks_t hs))
theorem aw_icmp_gt {x y : Int32} {off : Int} {tgt : Nat} (hdg : decode k.2.1 pc = .ok (.if_icmp .gt off, 3)) (ht : (pc : Int) + off = (tgt : Int)) (h1 : y < x → AWo k d mc ms tgt lo st δ R n nc ns KK A) (h2 : ¬ (y < x) → AWo k d mc ms (pc + 3) lo st δ R n nc ns KK B) : AWo k d mc ms pc lo (.int y :: .int x :: st) δ R n nc ns KK (if y < x then A else B) :=
  fun r hr p l e s m args below meth c E BB H locs ls hl hV hS ho hs => lv_icmp_gt BB.1 BB.2.1 hdg ht (fun q => h1 q r (by rw [if_pos q] at hr; exact hr) p l e s m args below meth c E BB H locs ls hl hV hS ho (oks_t (oks_t hs))) (fun q => h2 q r (by rw [if_neg q] at hr; exact hr) p l e s m args below meth c E BB H locs ls hl hV hS ho (oks_t (oks_t hs)))
theorem aw_if_gt {x : Int32} {off : Int} {tgt : Nat} (hdg : decode k.2.1 pc = .ok (.ifCond .gt off, 3)) (ht : (pc : Int) + off = (tgt : Int)) (h1 : 0 < x → AWo k d mc ms tgt lo st δ R n nc ns KK A) (h2 : ¬ (0 < x) → AWo k d mc ms (pc + 3) lo st δ R n nc ns KK B) : AWo k d mc ms pc lo (.int x :: st) δ R n nc ns KK (if 0 < x then A else B) :=
  fun r hr p l e s m args below meth c E BB H locs ls hl hV hS ho hs => lv_if_gt BB.1 BB.2.1 hdg ht (fun q => h1 q r (by rw [if_pos q] at hr; exact hr) p l e s m args below meth c E BB H locs ls hl hV hS ho (oks_t hs)) (fun q => h2 q r (by rw [if_neg q] at hr; exact hr) p l e s m args below meth c E BB H locs ls hl hV hS ho (oks_t hs))
theorem aw_icmp_le {x y : Int32} {off : Int} {tgt : Nat} (hdg : decode k.2.1 pc = .ok (.if_icmp .le off, 3)) (ht : (pc : Int) + off = (tgt : Int)) (h1 : x ≤ y → AWo k d mc ms tgt lo st δ R n nc ns KK A) (h2 : ¬ (x ≤ y) → AWo k d mc ms (pc + 3) lo st δ R n nc ns KK B) : AWo k d mc ms pc lo (.int y :: .int x :: st) δ R n nc ns KK (if x ≤ y then A else B) :=
  fun r hr p l e s m args below meth c E BB H locs ls hl hV hS ho hs => lv_icmp_le BB.1 BB.2.1 hdg ht (fun q => h1 q r (by rw [if_pos q] at hr; exact hr) p l e s m args below meth c E BB H locs ls hl hV hS ho (oks_t (oks_t hs))) (fun q => h2 q r (by rw [if_neg q] at hr; exact hr) p l e s m args below meth c E BB H locs ls hl hV hS ho (oks_t (oks_t hs)))
theorem aw_if_le {x : Int32} {off : Int} {tgt : Nat} (hdg : decode k.2.1 pc = .ok (.ifCond .le off, 3)) (ht : (pc : Int) + off = (tgt : Int)) (h1 : x ≤ 0 → AWo k d mc ms tgt lo st δ R n nc ns KK A) (h2 : ¬ (x ≤ 0) → AWo k d mc ms (pc + 3) lo st δ R n nc ns KK B) : AWo k d mc ms pc lo (.int x :: st) δ R n nc ns KK (if x ≤ 0 then A else B) :=
  fun r hr p l e s m args below meth c E BB H locs ls hl hV hS ho hs => lv_if_le BB.1 BB.2.1 hdg ht (fun q => h1 q r (by rw [if_pos q] at hr; exact hr) p l e s m args below meth c E BB H locs ls hl hV hS ho (oks_t hs)) (fun q => h2 q r (by rw [if_neg q] at hr; exact hr) p l e s m args below meth c E BB H locs ls hl hV hS ho (oks_t hs))
theorem aw_icmp_ne {x y : Int32} {off : Int} {tgt : Nat} (hdg : decode k.2.1 pc = .ok (.if_icmp .ne off, 3)) (ht : (pc : Int) + off = (tgt : Int)) (h1 : x = y → AWo k d mc ms (pc + 3) lo st δ R n nc ns KK A) (h2 : ¬ x = y → AWo k d mc ms tgt lo st δ R n nc ns KK B) : AWo k d mc ms pc lo (.int y :: .int x :: st) δ R n nc ns KK (if x = y then A else B) :=
  fun r hr p l e s m args below meth c E BB H locs ls hl hV hS ho hs => lv_icmp_ne BB.1 BB.2.1 hdg ht (fun q => h2 q r (by rw [if_neg q] at hr; exact hr) p l e s m args below meth c E BB H locs ls hl hV hS ho (oks_t (oks_t hs))) (fun q => h1 q r (by rw [if_pos q] at hr; exact hr) p l e s m args below meth c E BB H locs ls hl hV hS ho (oks_t (oks_t hs)))
theorem aw_if_ne {x : Int32} {off : Int} {tgt : Nat} (hdg : decode k.2.1 pc = .ok (.ifCond .ne off, 3)) (ht : (pc : Int) + off = (tgt : Int)) (h1 : x = 0 → AWo k d mc ms (pc + 3) lo st δ R n nc ns KK A) (h2 : ¬ x = 0 → AWo k d mc ms tgt lo st δ R n nc ns KK B) : AWo k d mc ms pc lo (.int x :: st) δ R n nc ns KK (if x = 0 then A else B) :=
  fun r hr p l e s m args below meth c E BB H locs ls hl hV hS ho hs => lv_if_ne BB.1 BB.2.1 hdg ht (fun q => h2 q r (by rw [if_neg q] at hr; exact hr) p l e s m args below meth c E BB H locs ls hl hV hS ho (oks_t hs)) (fun q => h1 q r (by rw [if_pos q] at hr; exact hr) p l e s m args below meth c E BB H locs ls hl hV hS ho (oks_t hs))
theorem aw_goto {off : Int} {tgt : Nat} (hdg : decode k.2.1 pc = .ok (.goto off, 3)) (ht : (pc : Int) + off = (tgt : Int)) (h : AWo k d mc ms tgt lo st δ R n nc ns KK res) : AWo k d mc ms pc lo st δ R n nc ns KK res :=
  fun r hr p l e s m args below meth c E B H locs ls hl hV hS ho hs => lv_goto B.1 B.2.1 hdg ht (h r hr p l e s m args below meth c E B H locs ls hl hV hS ho hs)
theorem aw_ifnull {x : Nat} {off : Int} (hdg : decode k.2.1 pc = .ok (.ifnull off, 3)) (h : AWo k d mc ms (pc + 3) lo st δ R n nc ns KK res) : AWo k d mc ms pc lo (.ref x :: st) δ R n nc ns KK res :=
  fun r hr p l e s m args below meth c E B H locs ls hl hV hS ho hs => lv_ifnull B.1 B.2.1 hdg (h r hr p l e s m args below meth c E B H locs ls hl hV hS ho (oks_t hs))
theorem aw_ifnullN {off : Int} {tgt : Nat} (hdg : decode k.2.1 pc = .ok (.ifnull off, 3)) (ht : (pc : Int) + off = (tgt : Int)) (h : AWo k d mc ms tgt lo st δ R n nc ns KK res) : AWo k d mc ms pc lo (.null :: st) δ R n nc ns KK res :=
  fun r hr p l e s m args below meth c E B H locs ls hl hV hS ho hs => lv_ifnullN B.1 B.2.1 hdg ht (h r hr p l e s m args below meth c E B H locs ls hl hV hS ho (oks_t hs))
theorem aw_ifnonnull {x : Nat} {off : Int} {tgt : Nat} (hdg : decode k.2.1 pc = .ok (.ifnonnull off, 3)) (ht : (pc : Int) + off = (tgt : Int)) (h : AWo k d mc ms tgt lo st δ R n nc ns KK res) : AWo k d mc ms pc lo (.ref x :: st) δ R n nc ns KK res :=
  fun r hr p l e s m args below meth c E B H locs ls hl hV hS ho hs => lv_ifnonnull B.1 B.2.1 hdg ht (h r hr p l e s m args below meth c E B H locs ls hl hV hS ho (oks_t hs))
theorem aw_ifnonnullN {off : Int} (hdg : decode k.2.1 pc = .ok (.ifnonnull off, 3)) (h : AWo k d mc ms (pc + 3) lo st δ R n nc ns KK res) : AWo k d mc ms pc lo (.null :: st) δ R n nc ns KK res :=
  fun r hr p l e s m args below meth c E B H locs ls hl hV hS ho hs => lv_ifnonnullN B.1 B.2.1 hdg (h r hr p l e s m args below meth c E B H locs ls hl hV hS ho (oks_t hs))
theorem aw_ite {c0 : Prop} [Decidable c0] (h1 : c0 → AWo k d mc ms pc lo st δ R n nc ns KK A) (h2 : ¬ c0 → AWo k d mc ms pc lo st δ R n nc ns KK B) : AWo k d mc ms pc lo st δ R n nc ns KK (if c0 then A else B) := by
  intro r hr
  by_cases q : c0
  · rw [if_pos q] at hr; exact h1 q r hr
  · rw [if_neg q] at hr; exact h2 q r hr
theorem aw_grd {c0 : Prop} [Decidable c0] (h1 : c0 → AWo k d mc ms pc lo st δ R n nc ns KK A) : AWo k d mc ms pc lo st δ R n nc ns KK (if c0 then A else none) := by
  intro r hr
  by_cases q : c0
  · rw [if_pos q] at hr; exact h1 q r hr
  · rw [if_neg q] at hr; cases hr
theorem aw_none : AWo k d mc ms pc lo st δ R n nc ns KK none := fun r hr => by cases hr
theorem aw_sub (ks : List Nat) (hk : lv_pick lo ks = lo') (h : AWo k d mc ms pc lo' st δ R n nc ns KK res) : AWo k d mc ms pc lo st δ R n nc ns KK res :=
  fun r hr p l e s m args below meth c E B H locs ls hl hV hS ho hs => h r hr p l e s m args below meth c E B H locs ls (lv_sub hl ks (by subst hk; simp only [shl, lv_pick, List.map_filterMap]; congr 1; funext i; simp [List.getElem?_map])) hV hS (fun q hq => by subst hk; obtain ⟨i, -, hi⟩ := List.mem_filterMap.mp hq; exact ho q (List.mem_of_getElem? hi)) hs
theorem aw_tswitch {dflt a b : Int} {offs : Array Int} {len tgt : Nat} {x : Int32} {off v : Int} (hdg : decode k.2.1 pc = .ok (.tableswitch dflt a b offs, len)) (hx : x.toInt = v) (h1 : ¬ v < a) (h2 : ¬ b < v) (ho1 : offs[(v - a).toNat]? = some off) (ht : (pc : Int) + off = (tgt : Int)) (h : AWo k d mc ms tgt lo st δ R n nc ns KK res) : AWo k d mc ms pc lo (.int x :: st) δ R n nc ns KK res := by
  subst hx
  exact fun r hr p l e s m args below meth c E B H locs ls hl hV hS ho hs => lv_tableIn B.1 B.2.1 hdg h1 h2 ho1 ht (h r hr p l e s m args below meth c E B H locs ls hl hV hS ho (oks_t hs))
theorem aw_tdflt {dflt a b : Int} {offs : Array Int} {len tgt : Nat} {x : Int32} (hdg : decode k.2.1 pc = .ok (.tableswitch dflt a b offs, len)) (hx : x.toInt < a ∨ b < x.toInt) (ht : (pc : Int) + dflt = (tgt : Int)) (h : AWo k d mc ms tgt lo st δ R n nc ns KK res) : AWo k d mc ms pc lo (.int x :: st) δ R n nc ns KK res :=
  fun r hr p l e s m args below meth c E B H locs ls hl hV hS ho hs => lv_tableOut B.1 B.2.1 hdg hx ht (h r hr p l e s m args below meth c E B H locs ls hl hV hS ho (oks_t hs))
theorem aw_lswitch {dflt off : Int} {ps : Array (Int × Int)} {len tgt : Nat} {x : Int32} (hdg : decode k.2.1 pc = .ok (.lookupswitch dflt ps, len)) (hp : (ps.toList.zip (ps.toList.drop 1)).all (fun (a, next) => a.1 < next.1) = true) (ho1 : Op.lookupswitch.offset ps.toList dflt x.toInt = off) (ht : (pc : Int) + off = (tgt : Int)) (h : AWo k d mc ms tgt lo st δ R n nc ns KK res) : AWo k d mc ms pc lo (.int x :: st) δ R n nc ns KK res :=
  fun r hr p l e s m args below meth c E B H locs ls hl hV hS ho hs => lv_lookup B.1 B.2.1 hdg hp ho1 ht (h r hr p l e s m args below meth c E B H locs ls hl hV hS ho (oks_t hs))
end AM
