/-! COMPARISONS as numbers: cp 0 c the listener, cp 1 c the first sample, cp 2 c the second, cp 3 c the answer; what both memories hold of them -/
def cd (cp : Nat → Nat → Nat) (c : Nat) : Nat := 256 * cp 0 c + 32 * cp 1 c + 4 * cp 2 c + cp 3 c
def cB (m : Nat) (cp : Nat → Nat → Nat) : Prop := m ≤ 48 ∧ ∀ c, c < m → cp 0 c < 8 ∧ cp 1 c < 8 ∧ cp 2 c < 8 ∧ cp 1 c ≠ cp 2 c ∧ cp 3 c < 3
def isC (g : Nat → Nat → Int32) (rs rc m : Nat) (cp : Nat → Nat → Nat) : Prop := g rs 0 = nI m ∧ ∀ c, c < m → g rc c = nI (cd cp c)
def isM (h : Nat → Nat → Int32) (m : Nat) (cp : Nat → Nat → Nat) : Prop := h 4 0 = nI m ∧ ∀ c, c < m → h 5 c = nI (cp 0 c) ∧ h 6 c = nI (cp 1 c) ∧ h 7 c = nI (cp 2 c) ∧ h 8 c = nI (cp 3 c)
def isW (h : Nat → Nat → Int32) (r : Nat) (w : Nat → Nat) : Prop := ∀ i, i < 8 → h r i = nI (w i)
def wn (cp : Nat → Nat → Nat) (c i j : Nat) : Prop := (cp 3 c = 1 ∧ cp 1 c = i ∧ cp 2 c = j) ∨ (cp 3 c = 2 ∧ cp 2 c = i ∧ cp 1 c = j)
def ti (cp : Nat → Nat → Nat) (c i j : Nat) : Prop := cp 3 c = 0 ∧ ((cp 1 c = i ∧ cp 2 c = j) ∨ (cp 1 c = j ∧ cp 2 c = i))
def wnD (cp : Nat → Nat → Nat) (c i j : Nat) : Nat := if (cp 3 c = 1 ∧ cp 1 c = i ∧ cp 2 c = j) ∨ (cp 3 c = 2 ∧ cp 2 c = i ∧ cp 1 c = j) then 1 else 0
def tiD (cp : Nat → Nat → Nat) (c i j : Nat) : Nat := if cp 3 c = 0 ∧ ((cp 1 c = i ∧ cp 2 c = j) ∨ (cp 1 c = j ∧ cp 2 c = i)) then 1 else 0
/-- wins of i over j: all; of a listener; by weights; ties -/
def wiA (m : Nat) (cp : Nat → Nat → Nat) (i j : Nat) : Nat := fb_sm (fun c => wnD cp c i j) m
def wiL (m : Nat) (cp : Nat → Nat → Nat) (l i j : Nat) : Nat := fb_sm (fun c => if cp 0 c = l then wnD cp c i j else 0) m
def wiW (w : Nat → Nat) (m : Nat) (cp : Nat → Nat → Nat) (i j : Nat) : Nat := fb_sm (fun c => wnD cp c i j * w (cp 0 c)) m
def tiA (m : Nat) (cp : Nat → Nat → Nat) (i j : Nat) : Nat := fb_sm (fun c => tiD cp c i j) m
theorem wnD_le (cp : Nat → Nat → Nat) (c i j : Nat) : wnD cp c i j ≤ 1 := by unfold wnD; split <;> omega
theorem tiD_le (cp : Nat → Nat → Nat) (c i j : Nat) : tiD cp c i j ≤ 1 := by unfold tiD; split <;> omega
theorem wiA_le (m : Nat) (cp : Nat → Nat → Nat) (i j : Nat) : wiA m cp i j ≤ m := by
  have h := fb_sm_bound (f := fun c => wnD cp c i j) (c := 1) (n := m) (fun k _ => wnD_le cp k i j)
  unfold wiA; omega
theorem tiA_le (m : Nat) (cp : Nat → Nat → Nat) (i j : Nat) : tiA m cp i j ≤ m := by
  have h := fb_sm_bound (f := fun c => tiD cp c i j) (c := 1) (n := m) (fun k _ => tiD_le cp k i j)
  unfold tiA; omega
theorem wiL_le (m : Nat) (cp : Nat → Nat → Nat) (l i j : Nat) : wiL m cp l i j ≤ m := by
  have h := fb_sm_bound (f := fun c => if cp 0 c = l then wnD cp c i j else 0) (c := 1) (n := m) (fun k _ => by
    have := wnD_le cp k i j
    show (if cp 0 k = l then wnD cp k i j else 0) ≤ 1
    split <;> omega)
  unfold wiL; omega
theorem wiW_le {w : Nat → Nat} (hw : ∀ i, w i ≤ 9) (m : Nat) (cp : Nat → Nat → Nat) (i j : Nat) : wiW w m cp i j ≤ m * 9 := by
  have h := fb_sm_bound (f := fun c => wnD cp c i j * w (cp 0 c)) (c := 9) (n := m) (fun k _ => by
    have h1 := Nat.mul_le_mul (wnD_le cp k i j) (hw (cp 0 k))
    show wnD cp k i j * w (cp 0 k) ≤ 9
    omega)
  unfold wiW; omega
theorem wiA_two {m : Nat} {cp : Nat → Nat → Nat} {i j : Nat} (hij : i ≠ j) : wiA m cp i j + wiA m cp j i ≤ m := by
  have h := fb_sm_bound (f := fun c => wnD cp c i j + wnD cp c j i) (c := 1) (n := m) (fun k _ => by
    show wnD cp k i j + wnD cp k j i ≤ 1
    unfold wnD
    split <;> split <;> omega)
  rw [fb_sm_add] at h
  unfold wiA; omega
theorem nE {x y : Nat} (hx : x < 1000) (hy : y < 1000) : (nI x = nI y) ↔ x = y := nI_eq (by omega) (by omega)
/-! the reference: who won, wins, ties -/
theorem m_isOf {h : Nat → Nat → Int32} {m : Nat} {cp : Nat → Nat → Nat} {c i j : Nat} (H : isM h m cp) (B : cB m cp) (hc : c < m) (hi : i < 8) (hj : j < 8) : M_isOf h (nI c) (nI i) (nI j) = some (if (cp 1 c = i ∧ cp 2 c = j) ∨ (cp 1 c = j ∧ cp 2 c = i) then 1 else 0) := by
  obtain ⟨b0, b1, b2, b3, b4⟩ := B.2 c hc
  obtain ⟨e0, e1, e2, e3⟩ := H.2 c hc
  have hm := B.1
  simp only [M_isOf, ri_k (show c < 48 by omega) (by decide : 48 < 2 ^ 31), nI_clamp (show c < 2 ^ 31 by omega), e1, e2, nE (show cp 1 c < 1000 by omega) (show i < 1000 by omega), nE (show cp 1 c < 1000 by omega) (show j < 1000 by omega), nE (show cp 2 c < 1000 by omega) (show i < 1000 by omega), nE (show cp 2 c < 1000 by omega) (show j < 1000 by omega)]
  (repeat' split) <;> first | rfl | (exfalso; omega)
theorem m_wonBy {h : Nat → Nat → Int32} {m : Nat} {cp : Nat → Nat → Nat} {c : Nat} (H : isM h m cp) (B : cB m cp) (hc : c < m) : M_wonBy h (nI c) = some (if cp 3 c = 1 then nI (cp 1 c) else if cp 3 c = 2 then nI (cp 2 c) else -1) := by
  obtain ⟨b0, b1, b2, b3, b4⟩ := B.2 c hc
  obtain ⟨e0, e1, e2, e3⟩ := H.2 c hc
  have hm := B.1
  simp only [M_wonBy, ri_k (show c < 48 by omega) (by decide : 48 < 2 ^ 31), nI_clamp (show c < 2 ^ 31 by omega), e1, e2, e3, nI_lit, nE (show cp 3 c < 1000 by omega) (show 1 < 1000 by omega), nE (show cp 3 c < 1000 by omega) (show 2 < 1000 by omega)]
  (repeat' split) <;> first | rfl | (exfalso; omega)
theorem m_winsBy_st {h : Nat → Nat → Int32} {m : Nat} {cp : Nat → Nat → Nat} {c i j : Nat} {a0 a3 x : Int32} (H : isM h m cp) (B : cB m cp) (hc : c < m) (hi : i < 8) (hj : j < 8) (P : Prop) [Decidable P] (v : Nat) (hP : (a0 = -1 ∨ nI (cp 0 c) = a0) ↔ P) (hv : (if a3 = 0 then (1 : Int32) else h 3 (cp 0 c)) = nI v) : M_winsBy_s1 a0 (nI i) (nI j) a3 h x (nI c) = some (.inl (x + nI (if P then wnD cp c i j * v else 0), nI (c + 1))) := by
  obtain ⟨b0, b1, b2, b3, b4⟩ := B.2 c hc
  obtain ⟨e0, e1, e2, e3⟩ := H.2 c hc
  have hm := B.1
  have hlt : ¬ h 4 0 ≤ nI c := by rw [H.1]; exact nI_ge hc (by omega)
  unfold M_winsBy_s1
  rw [if_neg hlt, bd_of (m_isOf H B hc hi hj)]
  have one : ¬ (1 : Int32) = 0 := by decide
  have fin : ∀ (x16 : Int32), x16 = (if P ∧ wnD cp c i j = 1 then 1 else 0) → (bd (if x16 = 0 then (some (0 : Int32)) else (if a3 = 0 then (some (1 : Int32)) else (ri 48 (nI c) <| ri 8 (h 5 (nI c).toNatClampNeg) <| some (h 3 (h 5 (nI c).toNatClampNeg).toNatClampNeg)))) fun x22 => nm (x + x22 : Int32) fun x26 => nm (nI c + (1 : Int32) : Int32) fun x28 => some (.inl (x26, x28))) = (some (.inl (x + nI (if P then wnD cp c i j * v else 0), nI (c + 1))) : Option ((Int32 × Int32) ⊕ Int32)) := by
    intro x16 hx
    have hd := wnD_le cp c i j
    by_cases hq : P ∧ wnD cp c i j = 1
    · rw [if_pos hq] at hx
      rw [hx, if_neg one, if_pos hq.1, hq.2, Nat.one_mul, ri_k (show c < 48 by omega) (by decide), nI_clamp (show c < 2 ^ 31 by omega), e0, ri_k b0 (by decide), nI_clamp (show cp 0 c < 2 ^ 31 by omega), ← hv]
      by_cases h3 : a3 = 0
      · rw [if_pos h3, if_pos h3]
        show some (Sum.inl (x + 1, nI c + 1)) = _
        rw [nI_1]
      · rw [if_neg h3, if_neg h3]
        show some (Sum.inl (x + h 3 (cp 0 c), nI c + 1)) = _
        rw [nI_1]
    · rw [if_neg hq] at hx
      have hz : (if P then wnD cp c i j * v else 0) = 0 := by
        by_cases hp : P
        · rw [if_pos hp]
          have : wnD cp c i j = 0 := by
            rcases Nat.lt_or_ge (wnD cp c i j) 1 with q | q
            · omega
            · exact absurd ⟨hp, by omega⟩ hq
          rw [this, Nat.zero_mul]
        · rw [if_neg hp]
      rw [hx, if_pos rfl, hz]
      show some (Sum.inl (x + 0, nI c + 1)) = _
      rw [nI_1]
      rfl
  by_cases hA : (cp 1 c = i ∧ cp 2 c = j) ∨ (cp 1 c = j ∧ cp 2 c = i)
  · rw [if_pos hA, if_neg one, bd_of (m_wonBy H B hc)]
    have hq : ∀ y : Int32, (if (if cp 3 c = 1 then nI (cp 1 c) else if cp 3 c = 2 then nI (cp 2 c) else -1) = nI i then (if a0 = (-1 : Int32) then (some (1 : Int32)) else (ri 48 (nI c) <| if h 5 (nI c).toNatClampNeg = a0 then (some (1 : Int32)) else (some (0 : Int32)))) else (some (0 : Int32))) = some (if P ∧ wnD cp c i j = 1 then 1 else 0) := by
      intro _
      rw [ri_k (show c < 48 by omega) (by decide), nI_clamp (show c < 2 ^ 31 by omega), e0]
      have hw : ((if cp 3 c = 1 then nI (cp 1 c) else if cp 3 c = 2 then nI (cp 2 c) else -1) = nI i) ↔ wnD cp c i j = 1 := by
        unfold wnD
        by_cases a1 : cp 3 c = 1
        · rw [if_pos a1, nE (by omega) (by omega)]
          split <;> constructor <;> intro <;> omega
        · rw [if_neg a1]
          by_cases a2 : cp 3 c = 2
          · rw [if_pos a2, nE (by omega) (by omega)]
            split <;> constructor <;> intro <;> omega
          · rw [if_neg a2]
            constructor
            · intro e
              exact absurd e.symm (nI_nn (by omega))
            · intro e
              exfalso
              split at e <;> omega
      by_cases hw1 : wnD cp c i j = 1
      · rw [if_pos (hw.mpr hw1)]
        by_cases p1 : a0 = -1
        · rw [if_pos p1, if_pos ⟨hP.mp (Or.inl p1), hw1⟩]
        · rw [if_neg p1]
          by_cases p2 : nI (cp 0 c) = a0
          · rw [if_pos p2, if_pos ⟨hP.mp (Or.inr p2), hw1⟩]
          · rw [if_neg p2, if_neg (fun q => (hP.mpr q.1).elim p1 p2)]
      · rw [if_neg (fun q => hw1 (hw.mp q)), if_neg (fun q => hw1 q.2)]
    rw [bd_of (hq 0)]
    exact fin _ rfl
  · rw [if_neg hA, if_pos rfl]
    have hz : wnD cp c i j = 0 := by
      unfold wnD
      rw [if_neg (by omega)]
    exact fin 0 (by rw [if_neg (by rw [hz]; omega)])
theorem m_winsBy {h : Nat → Nat → Int32} {m : Nat} {cp : Nat → Nat → Nat} {i j : Nat} {a0 a3 : Int32} (H : isM h m cp) (B : cB m cp) (hi : i < 8) (hj : j < 8) (P : Nat → Prop) [DecidablePred P] (v : Nat → Nat) (hP : ∀ c, c < m → ((a0 = -1 ∨ nI (cp 0 c) = a0) ↔ P c)) (hv : ∀ c, c < m → (if a3 = 0 then (1 : Int32) else h 3 (cp 0 c)) = nI (v c)) : M_winsBy h a0 (nI i) (nI j) a3 = some (nI (fb_sm (fun c => if P c then wnD cp c i j * v c else 0) m)) := by
  have hm := B.1
  unfold M_winsBy
  rw [bd_of (lp_S0 (st := fun q => M_winsBy_s1 a0 (nI i) (nI j) a3 h q.1 q.2) (fun c => if P c then wnD cp c i j * v c else 0) m (by omega) (fun c x hc => m_winsBy_st H B hc hi hj (P c) (v c) (hP c hc) (hv c hc)) (fun x => by
    show M_winsBy_s1 a0 (nI i) (nI j) a3 h x (nI m) = _
    unfold M_winsBy_s1
    rw [H.1, if_pos (nI_le (Nat.le_refl m) (by omega))]))]
theorem m_wins {h : Nat → Nat → Int32} {m : Nat} {cp : Nat → Nat → Nat} {i j : Nat} (H : isM h m cp) (B : cB m cp) (hi : i < 8) (hj : j < 8) : M_wins h (nI i) (nI j) = some (nI (wiA m cp i j)) := by
  unfold M_wins
  rw [bd_of (m_winsBy H B hi hj (fun _ => True) (fun _ => 1) (fun c _ => ⟨fun _ => trivial, fun _ => Or.inl rfl⟩) (fun c _ => by rw [if_pos rfl]; rfl))]
  refine congrArg some (congrArg nI (fb_sm_cong (fun k _ => ?_)))
  show (if True then wnD cp k i j * 1 else 0) = wnD cp k i j
  rw [if_pos trivial, Nat.mul_one]
theorem m_winsL {h : Nat → Nat → Int32} {m : Nat} {cp : Nat → Nat → Nat} {l i j : Nat} (H : isM h m cp) (B : cB m cp) (hl : l < 8) (hi : i < 8) (hj : j < 8) : M_winsBy h (nI l) (nI i) (nI j) (0 : Int32) = some (nI (wiL m cp l i j)) := by
  rw [m_winsBy H B hi hj (fun c => cp 0 c = l) (fun _ => 1) (fun c hc => by
    obtain ⟨b0, _⟩ := B.2 c hc
    rw [nE (by omega) (by omega)]
    exact ⟨fun q => q.elim (fun q => absurd q (nI_nn (by omega))) id, Or.inr⟩) (fun c _ => by rw [if_pos rfl]; rfl)]
  refine congrArg some (congrArg nI (fb_sm_cong (fun k _ => ?_)))
  show (if cp 0 k = l then wnD cp k i j * 1 else 0) = if cp 0 k = l then wnD cp k i j else 0
  rw [Nat.mul_one]
theorem m_winsW {h : Nat → Nat → Int32} {w : Nat → Nat} {m : Nat} {cp : Nat → Nat → Nat} {i j : Nat} (H : isM h m cp) (B : cB m cp) (hw : isW h 3 w) (hi : i < 8) (hj : j < 8) : M_winsBy h (-1 : Int32) (nI i) (nI j) (1 : Int32) = some (nI (wiW w m cp i j)) := by
  rw [m_winsBy H B hi hj (fun _ => True) (fun c => w (cp 0 c)) (fun c _ => ⟨fun _ => trivial, fun _ => Or.inl rfl⟩) (fun c hc => by
    rw [if_neg (by decide)]
    exact hw _ (B.2 c hc).1)]
  refine congrArg some (congrArg nI (fb_sm_cong (fun k _ => ?_)))
  show (if True then wnD cp k i j * w (cp 0 k) else 0) = _
  rw [if_pos trivial]
/-- the margin -/
def mgn (w : Nat → Nat) (m : Nat) (cp : Nat → Nat → Nat) (i j : Nat) : Int32 := nI (wiW w m cp i j) - nI (wiW w m cp j i)
theorem m_margin {h : Nat → Nat → Int32} {w : Nat → Nat} {m : Nat} {cp : Nat → Nat → Nat} {i j : Nat} (H : isM h m cp) (B : cB m cp) (hw : isW h 3 w) (hi : i < 8) (hj : j < 8) : M_margin h (nI i) (nI j) = some (mgn w m cp i j) := by
  unfold M_margin
  rw [bd_of (m_winsW H B hw hi hj), bd_of (m_winsW H B hw hj hi)]
  rfl
/-- a listener prefers i to j -/
def prf (m : Nat) (cp : Nat → Nat → Nat) (l i j : Nat) : Prop := wiL m cp l j i < wiL m cp l i j
theorem m_prefers {h : Nat → Nat → Int32} {m : Nat} {cp : Nat → Nat → Nat} {l i j : Nat} (H : isM h m cp) (B : cB m cp) (hl : l < 8) (hi : i < 8) (hj : j < 8) : M_prefers h (nI l) (nI i) (nI j) = some (if wiL m cp l j i < wiL m cp l i j then 1 else 0) := by
  have hm := B.1
  have h1 := wiL_le m cp l i j
  have h2 := wiL_le m cp l j i
  unfold M_prefers
  rw [bd_of (m_winsL H B hl hi hj), bd_of (m_winsL H B hl hj hi)]
  by_cases hq : wiL m cp l j i < wiL m cp l i j
  · rw [if_neg (nI_ge hq (by omega)), if_pos hq]
  · rw [if_pos (nI_le (by omega) (by omega)), if_neg hq]
theorem m_tiesOf {h : Nat → Nat → Int32} {m : Nat} {cp : Nat → Nat → Nat} {i j : Nat} (H : isM h m cp) (B : cB m cp) (hi : i < 8) (hj : j < 8) : M_tiesOf h (nI i) (nI j) = some (nI (tiA m cp i j)) := by
  have hm := B.1
  unfold M_tiesOf
  rw [bd_of (lp_S0 (st := fun q => M_tiesOf_s1 (nI i) (nI j) h q.1 q.2) (fun c => tiD cp c i j) m (by omega) (fun c x hc => by
    obtain ⟨b0, b1, b2, b3, b4⟩ := B.2 c hc
    obtain ⟨e0, e1, e2, e3⟩ := H.2 c hc
    have hlt : ¬ h 4 0 ≤ nI c := by rw [H.1]; exact nI_ge hc (by omega)
    show M_tiesOf_s1 (nI i) (nI j) h x (nI c) = _
    unfold M_tiesOf_s1
    rw [if_neg hlt, bd_of (m_isOf H B hc hi hj), ri_k (show c < 48 by omega) (by decide), nI_clamp (show c < 2 ^ 31 by omega), e3, show (0 : Int32) = nI 0 from rfl, show (1 : Int32) = nI 1 from rfl]
    unfold tiD
    simp only [nE (show cp 3 c < 1000 by omega) (show 0 < 1000 by omega)]
    by_cases hA : (cp 1 c = i ∧ cp 2 c = j) ∨ (cp 1 c = j ∧ cp 2 c = i)
    · rw [if_pos hA, if_neg (by decide : ¬ nI 1 = nI 0)]
      by_cases h0 : cp 3 c = 0
      · rw [if_pos h0, if_pos ⟨h0, hA⟩, nI_add c 1 |>.symm]
        rfl
      · rw [if_neg h0, if_neg (fun q => h0 q.1), nI_add c 1 |>.symm]
        rfl
    · rw [if_neg hA, if_pos rfl, if_neg (fun q => hA q.2), nI_add c 1 |>.symm]
      rfl) (fun x => by
    show M_tiesOf_s1 (nI i) (nI j) h x (nI m) = _
    unfold M_tiesOf_s1
    rw [H.1, if_pos (nI_le (Nat.le_refl m) (by omega))]))]
  rfl
