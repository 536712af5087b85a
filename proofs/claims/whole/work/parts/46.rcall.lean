/-! PUBLIC CALLS: what holds of a call on both sides; calls that change the state -/
def RR (G : Nat → Nat → Int32) (P : Nat → Option PRec) (h : Nat → Nat → Int32) : Prop := ∃ n L w s K hs v len tx, RP n L w s K hs v len ∧ RC n L w s K hs v len tx G P ∧ RM n L w s K hs len tx h
def okO {α : Type} (P : Nat → Option PRec) (cf : α → (Nat → Nat → Int32) → (Nat → Option PRec) → Prop) (mf : α → (Nat → Nat → Int32) → Prop) : Prop := ∃ r G2 P2 h2, cf r G2 P2 ∧ mf r h2 ∧ h2 0 0 = 0 ∧ RR G2 P2 h2 ∧ ∀ Z, PZ P Z → PZ P2 Z
def twO (T : List (String × Int32)) (P : Nat → Option PRec) (X : Option (String × (Nat → Nat → Int32) × (Nat → Nat → Int64))) (mf : (Nat → Nat → Int32) → Prop) : Prop := ∃ ex G2 E2 h2 k, X = some (ex, G2, E2) ∧ mf h2 ∧ h2 0 0 = k ∧ RR G2 P h2 ∧ (ex, k) ∈ T
def iae : String := "java/lang/IllegalArgumentException"
def iob : String := "java/lang/IndexOutOfBoundsException"
def ise : String := "java/lang/IllegalStateException"
theorem RR_t {G : Nat → Nat → Int32} {P : Nat → Option PRec} {h : Nat → Nat → Int32} (H : RR G P h) (x : Int32) : RR G P (wf h 0 x) := by
  obtain ⟨n, L, w, s, K, hs, v, len, tx, B, C, M⟩ := H
  exact ⟨n, L, w, s, K, hs, v, len, tx, B, C, RM_x (X := [0]) M (eqx_wf (by decide)) (by decide)⟩
theorem RR_G {G G2 : Nat → Nat → Int32} {P : Nat → Option PRec} {h h2 : Nat → Nat → Int32} {X Y : List Nat} (H : RR G P h) (hx : eqx X G G2) (hX : ∀ k, k ∈ X → 10 ≤ k ∧ k < 50) (hy : eqx Y h h2) (hY : ∀ k, k ∈ Y → k = 0 ∨ 22 ≤ k) : RR G2 P h2 := by
  obtain ⟨n, L, w, s, K, hs, v, len, tx, B, C, M⟩ := H
  exact ⟨n, L, w, s, K, hs, v, len, tx, B, RC_x C hx hX, RM_x M hy hY⟩
theorem wf00 (h : Nat → Nat → Int32) (x : Int32) : wf h 0 x 0 0 = x := by rw [wf_ap, if_pos rfl]
theorem tw0 {T : List (String × Int32)} {G : Nat → Nat → Int32} {E : Nat → Nat → Int64} {P : Nat → Option PRec} {h : Nat → Nat → Int32} {X : Option (String × (Nat → Nat → Int32) × (Nat → Nat → Int64))} {mf : (Nat → Nat → Int32) → Prop} (H : RR G P h) {ex : String} {k : Int32} (hX : X = some (ex, G, E)) (hM : mf (wf h 0 k)) (hT : (ex, k) ∈ T) : twO T P X mf := ⟨ex, G, E, _, k, hX, hM, wf00 h k, RR_t H k, hT⟩
theorem ok0 {α : Type} {P : Nat → Option PRec} {G h : Nat → Nat → Int32} {cf : α → (Nat → Nat → Int32) → (Nat → Option PRec) → Prop} {mf : α → (Nat → Nat → Int32) → Prop} (H : RR G P h) {r : α} (hc : cf r G P) (hm : mf r (wf h 0 0)) : okO P cf mf := ⟨r, G, P, _, hc, hm, wf00 h 0, RR_t H 0, fun _ h => h⟩
theorem t_0 {α : Type} {h : Nat → Nat → Int32} {a b : α} : (if wf h 0 (0 : Int32) 0 0 ≤ 0 then a else b) = a := by rw [wf00]; exact if_pos (by decide)
theorem t_1 {α : Type} {h : Nat → Nat → Int32} {a b : α} : (if wf h 0 (1 : Int32) 0 0 ≤ 0 then a else b) = b := by rw [wf00]; exact if_neg (by decide)
theorem t_2 {α : Type} {h : Nat → Nat → Int32} {a b : α} : (if wf h 0 (2 : Int32) 0 0 ≤ 0 then a else b) = b := by rw [wf00]; exact if_neg (by decide)
theorem t_3 {α : Type} {h : Nat → Nat → Int32} {a b : α} : (if wf h 0 (3 : Int32) 0 0 ≤ 0 then a else b) = b := by rw [wf00]; exact if_neg (by decide)
theorem q_idx (a : Int32) {n : Nat} (hn : n < 1000) : (∃ j, j < n ∧ a = nI j ∧ C_LT_requireIndex a (nI n) = some () ∧ (∀ G E, X_LT_requireIndex G E a (nI n) = none) ∧ M_within a (0 : Int32) (nI n - (1 : Int32)) = some 1) ∨ (C_LT_requireIndex a (nI n) = none ∧ (∀ G E, X_LT_requireIndex G E a (nI n) = some (iob, G, E)) ∧ M_within a (0 : Int32) (nI n - (1 : Int32)) = some 0) := by
  unfold C_LT_requireIndex X_LT_requireIndex M_within
  by_cases c : a < 0
  · refine Or.inr ⟨if_pos c, fun G E => if_pos c, if_pos c⟩
  · obtain ⟨j, hj, rfl⟩ := nI_of c
    have e : (nI n - (1 : Int32) < nI j) ↔ n ≤ j := by
      cases n with
      | zero =>
        have : nI 0 - (1 : Int32) = -1 := by decide
        rw [this, Int32.lt_iff_toInt_lt, nI_toInt hj]
        constructor
        · intro _; omega
        · intro _; have : (-1 : Int32).toInt = -1 := by decide
          omega
      | succ n => rw [nI_pred, nI_ltI (by omega) hj]; omega
    by_cases d : j < n
    · refine Or.inl ⟨j, d, rfl, ?_, fun G E => ?_, ?_⟩
      · rw [if_neg c, if_pos (nI_lt d (by omega))]
      · rw [if_neg c, if_pos (nI_lt d (by omega))]
      · rw [if_neg c, if_neg (fun u => by have := e.mp u; omega)]
    · refine Or.inr ⟨?_, fun G E => ?_, ?_⟩
      · rw [if_neg c, if_neg (nI_nlt (by omega) hj)]
      · rw [if_neg c, if_neg (nI_nlt (by omega) hj)]; rfl
      · rw [if_neg c, if_pos (e.mpr (by omega))]
theorem q_rng {a : Int32} {lo hi : Nat} (hh : hi < 2000) (hl : lo ≤ hi) (c1 : ¬ a < nI lo) (c2 : ¬ nI hi < a) : ∃ j, lo ≤ j ∧ j ≤ hi ∧ a = nI j := by
  by_cases c : a < 0
  · exfalso
    apply c1
    rw [Int32.lt_iff_toInt_lt] at c ⊢
    rw [nI_toInt (by omega)]
    have : (0 : Int32).toInt = 0 := by decide
    omega
  · obtain ⟨j, hj, rfl⟩ := nI_of c
    refine ⟨j, ?_, ?_, rfl⟩
    · exact Nat.le_of_not_lt (fun u => c1 (nI_lt u (by omega)))
    · exact Nat.le_of_not_lt (fun u => c2 (nI_lt u hj))
