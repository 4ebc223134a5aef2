/-! the class's reader: sums -/
def Pos (p : Qs → Rs) : Prop := ∀ q r, p q = .inr r → q.1 < r.1
def Pos0 (p : Qs → Rs) : Prop := ∀ q r, p q = .inr r → q.1 ≤ r.1
theorem pV_pos (X : Tx) : Pos (pV X) := fun q r h => by
  unfold pV at h
  by_cases z : kd X q.1 = 21
  · rw [if_pos z] at h
    by_cases y : vl X q.1 < 0
    · rw [if_pos y] at h; cases h
    · rw [if_neg y] at h
      by_cases x : 60 ≤ q.2.1
      · rw [if_pos x] at h; cases h
      · rw [if_neg x] at h; cases h; exact nx_gt X _
  · rw [if_neg z] at h
    by_cases y : kd X q.1 ≤ 8
    · rw [if_pos y] at h
      by_cases x : 60 ≤ q.2.1
      · rw [if_pos x] at h; cases h
      · rw [if_neg x] at h; cases h; exact nx_gt X _
    · rw [if_neg y] at h; cases h
theorem rbd_pos {p f : Qs → Rs} (h : Pos p) (k : Pos0 f) : Pos (fun q => rbd (p q) f) := fun q r e => by
  have e : rbd (p q) f = .inr r := e
  cases hp : p q with
  | inl w => rw [show rbd (p q) f = .inl w by rw [hp]; rfl] at e; cases e
  | inr s =>
    rw [show rbd (p q) f = f s by rw [hp]; rfl] at e
    have := h q s hp
    have := k s r e
    omega
theorem rbd_in {r : Rs} {f : Qs → Rs} {s : Qs} (h : rbd r f = .inr s) : ∃ q, r = .inr q ∧ f q = .inr s := by
  cases r with
  | inl w => cases h
  | inr q => exact ⟨q, rfl, h⟩
theorem pT'_pos (X : Tx) : ∀ f, Pos0 (pT' X f) := by
  intro f
  induction f with
  | zero => intro q r h; cases h; exact Nat.le_refl _
  | succ f ih =>
    intro q r h
    unfold pT' at h
    by_cases z : kd X q.1 = 24 ∨ kd X q.1 = 25
    · rw [if_pos z] at h
      obtain ⟨s, h1, h2⟩ := rbd_in h
      have a := pV_pos X _ _ h1
      have b := ih _ _ h2
      have c := nx_gt X q.1
      have a : nx X q.1 < s.1 := a
      have b : s.1 ≤ r.1 := b
      omega
    · rw [if_neg z] at h; cases h; exact Nat.le_refl _
theorem pT_pos (X : Tx) : Pos (pT X) := rbd_pos (pV_pos X) (pT'_pos X 401)
theorem pS'_pos (X : Tx) : ∀ f, Pos0 (pS' X f) := by
  intro f
  induction f with
  | zero => intro q r h; cases h; exact Nat.le_refl _
  | succ f ih =>
    intro q r h
    unfold pS' at h
    by_cases z : kd X q.1 = 22 ∨ kd X q.1 = 23
    · rw [if_pos z] at h
      obtain ⟨s, h1, h2⟩ := rbd_in h
      have a := pT_pos X _ _ h1
      have b := ih _ _ h2
      have c := nx_gt X q.1
      have a : nx X q.1 < s.1 := a
      have b : s.1 ≤ r.1 := b
      omega
    · rw [if_neg z] at h; cases h; exact Nat.le_refl _
theorem pS_pos (X : Tx) : Pos (pS X) := rbd_pos (pT_pos X) (pS'_pos X 401)
theorem St_pos {t : Nat} {X : Tx} {m c : Nat} {q : Qs} {δ : Dm} (h : Stt t X m c δ (.inr q)) : q.1 ≤ X.2 ∧ X.2 ≤ 400 := by
  obtain ⟨hT, h8, j, g1, g2, -⟩ := h
  obtain ⟨a0, a1, a2, a3, a4⟩ := hT
  refine ⟨?_, a0.2⟩
  by_cases z : j = m
  · rw [z, a1] at g2; omega
  · have := a3 j (by omega)
    rw [g2] at this; omega
/-- emitting behind whatever came -/
theorem emit_r {t : Nat} {X : Tx} {m c : Nat} {r : Rs} {o : Int32} {δ : Dm} (ht : isL t = true) (hc : 1 ≤ c) (h : Stt t X m (c + 1) δ r) : ∃ d, ocs (dR (gI δ 7 8)) none (fun t' => if isL t' = true then f_La_emit t' o δ else none) = some d ∧ Stt t X m c d (rbd r (fun q => .inr (em q o))) ∧ FrE t δ d := by
  obtain ⟨t1, t2⟩ := isL_r ht
  rw [h.2.1, dR_i (by omega) (by omega)]
  simp only [ocs]
  rw [if_pos ht]
  cases r with
  | inl w => exact emit_f ht h
  | inr q => exact emit_g ht h (Or.inl hc)
theorem ocs_b {α β : Type} {o : Option Nat} {F : Nat → Option α} {G : α → Option β} : ocs o none (fun t => if isL t = true then (F t).bind G else none) = (ocs o none (fun t => if isL t = true then F t else none)).bind G := by
  cases o with
  | none => rfl
  | some t =>
    simp only [ocs]
    by_cases h : isL t = true
    · rw [if_pos h, if_pos h]
    · rw [if_neg h, if_neg h]; rfl
theorem sum18 {t : Nat} {X : Tx} {m : Nat} {kx : Int32 → Dm → Option Dm} {v1 v2 : Int32} (ht : isL t = true) : ∀ K f n δ r c, 1 ≤ c → K < f → Stt t X m c δ r → (∀ q, r = .inr q → X.2 < q.1 + K ∧ n ≤ q.1) → ∃ d n', lp_Re_readSum_18 kx v1 v2 f (nI n) δ = kx n' d ∧ Stt t X m c d (rbd r (pT' X K)) ∧ FrE t δ d := by
  intro K
  induction K with
  | zero =>
    intro f n δ r c hc hf h hq
    obtain ⟨g, rfl⟩ : ∃ g, f = g + 1 := ⟨f - 1, by omega⟩
    cases r with
    | inl w =>
      have hk := h.2.2.2.2.2
      rw [lp_Re_readSum_18, hk, if_neg (show ¬ (35 : Int32) = 24 by decide), if_neg (show ¬ (35 : Int32) = 25 by decide), ite_self]
      exact ⟨δ, _, rfl, h, FrE.refl _ _⟩
    | inr q =>
      have := St_pos h
      have := hq q rfl
      omega
  | succ K ih =>
    intro f n δ r c hc hf h hq
    obtain ⟨g, rfl⟩ : ∃ g, f = g + 1 := ⟨f - 1, by omega⟩
    cases r with
    | inl w =>
      have hk := h.2.2.2.2.2
      rw [lp_Re_readSum_18, hk, if_neg (show ¬ (35 : Int32) = 24 by decide), if_neg (show ¬ (35 : Int32) = 25 by decide), ite_self]
      exact ⟨δ, _, rfl, h, FrE.refl _ _⟩
    | inr q =>
      obtain ⟨hk, j, hj, k3, k1, k2, k4⟩ := St_at h
      have hkl := ky_le X q.1
      have hp := St_pos h
      obtain ⟨hq1, hq2⟩ := hq q rfl
      rw [rbd_r, lp_Re_readSum_18, hk]
      by_cases z : kd X q.1 = 24 ∨ kd X q.1 = 25
      · have hlt : q.1 < X.2 := ky_lt (by omega)
        rw [if_neg (show ¬ (400 : Int32) ≤ nI n from nI_ge (a := n) (b := 400) (by omega) (by decide))]
        have body : ∃ d n', jp_Re_readSum_43 (lp_Re_readSum_18 kx v1 v2 g) kx v1 v2 (nI n) δ = kx n' d ∧ Stt t X m c d (pT' X (K + 1) q) ∧ FrE t δ d := by
          unfold jp_Re_readSum_43
          rw [bndE, hk]
          obtain ⟨d1, e1, s1, f1⟩ := step_g ht h (by omega)
          obtain ⟨d2, e2, s2, f2⟩ := readValue_C ht (c + 1) d1 _ (by omega) s1
          obtain ⟨d3, e3, s3, f3⟩ := emit_r (o := -1 - nI (kd X q.1)) ht hc s2
          rw [e1, Option.bind_some, e2, Option.bind_some, ocs_b, e3, Option.bind_some, nI_1]
          obtain ⟨d, n', e4, s4, f4⟩ := ih g (n + 1) d3 _ c hc (by omega) s3 (fun q1 h1 => by
            obtain ⟨q2, h2, h3⟩ := rbd_in h1
            have a := pV_pos X _ _ h2
            have a : nx X q.1 < q2.1 := a
            have b := nx_gt X q.1
            cases h3
            show X.2 < q2.1 + K ∧ n + 1 ≤ q2.1
            omega)
          refine ⟨d, n', e4, ?_, ((f1.trans f2).trans f3).trans f4⟩
          rw [show pT' X (K + 1) q = rbd (rbd (rbd (.inr (nq X q)) (pV X)) (fun q1 => .inr (em q1 (-1 - nI (kd X q.1))))) (pT' X K) by
            rw [rbd_rbd]
            show (if _ then _ else _) = _
            rw [if_pos z]
            rfl]
          exact s4
        rcases z with z1 | z1
        · rw [if_pos (show nI (kd X q.1) = (24 : Int32) by rw [z1]; rfl)]; exact body
        · rw [if_neg (show ¬ nI (kd X q.1) = (24 : Int32) from fun w => by have := (kq (n := 24) hkl (by decide)).mp w; omega), if_pos (show nI (kd X q.1) = (25 : Int32) by rw [z1]; rfl)]; exact body
      · rw [if_neg (show ¬ nI (kd X q.1) = (24 : Int32) from fun w => by have := (kq (n := 24) hkl (by decide)).mp w; omega), if_neg (show ¬ nI (kd X q.1) = (25 : Int32) from fun w => by have := (kq (n := 25) hkl (by decide)).mp w; omega), ite_self]
        refine ⟨δ, _, rfl, ?_, FrE.refl _ _⟩
        rw [show pT' X (K + 1) q = .inr q by
          show (if _ then _ else _) = _
          rw [if_neg z]]
        exact h
