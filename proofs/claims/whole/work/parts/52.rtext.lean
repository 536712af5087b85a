/-! TEXT: the scan of both sides, step by step -/
def TI (n L k : Nat) (G h : Nat → Nat → Int32) : Prop := ∃ (st F l f a : Nat) (rw : Nat → Nat → Nat), st ≤ 5 ∧ (st ≤ 4 → 4 * F + st ≤ k) ∧ (st = 5 → 4 * F + 1 ≤ k) ∧ G 12 0 = nI st ∧ h 23 0 = nI st ∧ G 11 0 = nI F ∧ h 24 0 = nI F ∧ (1 ≤ st → l < L ∧ G 13 0 = nI l ∧ h 26 0 = nI l) ∧ (3 ≤ st → st ≤ 4 → f < n ∧ G 14 0 = nI f ∧ h 27 0 = nI f) ∧ (st = 4 → a < 3 ∧ G 15 0 = nI a ∧ h 28 0 = nI a) ∧ (∀ i, i < F → (rw 0 i < L ∧ rw 1 i < n ∧ rw 2 i < n ∧ rw 1 i ≠ rw 2 i ∧ rw 3 i < 3) ∧ G 10 i = nI (cd rw i) ∧ h 25 i = nI (pk4 rw i))
def TS (n L k : Nat) (c : Int32) (G h : Nat → Nat → Int32) : Prop := ∃ r G2 h2, C_TX_takes G c (nI n) (nI L) = some (r, G2) ∧ M_takes h c = some (r, h2) ∧ eqx [10, 11, 12, 13, 14, 15] G G2 ∧ eqx [23, 24, 25, 26, 27, 28] h h2 ∧ ((r = 1 ∧ TI n L (k + 1) G2 h2) ∨ r = 0)
theorem q_in (a : Int32) {n : Nat} (hn : n < 1000) : (∃ j, j < n ∧ a = nI j ∧ ¬ a < 0 ∧ ¬ nI n ≤ a ∧ M_within a (0 : Int32) (nI n - (1 : Int32)) = some 1) ∨ ((a < 0 ∨ (¬ a < 0 ∧ nI n ≤ a)) ∧ M_within a (0 : Int32) (nI n - (1 : Int32)) = some 0) := by
  rcases q_idx a hn with ⟨j, hj, e, _, _, r3⟩ | ⟨r1, _, r3⟩
  · refine Or.inl ⟨j, hj, e, ?_, ?_, r3⟩
    · rw [e]; exact nI_pos (by omega)
    · rw [e]; exact nI_ge hj (by omega)
  · refine Or.inr ⟨?_, r3⟩
    by_cases c : a < 0
    · exact Or.inl c
    · right
      refine ⟨c, ?_⟩
      obtain ⟨j, hj, rfl⟩ := nI_of c
      by_cases d : j < n
      · exfalso
        unfold C_LT_requireIndex at r1
        rw [if_neg c, if_pos (nI_lt d (by omega))] at r1
        cases r1
      · exact nI_le (by omega) hj
theorem m_go1 (h : Nat → Nat → Int32) (x : Int32) : M_goes h (1 : Int32) x = some (1, wf h 23 x) := rfl
theorem m_go0 (h : Nat → Nat → Int32) (x : Int32) : M_goes h (0 : Int32) x = some (0, wf h 23 (h 23 0)) := rfl
theorem g01 {α : Type} {k : Option α} : gd ((0 : Int32) = 0 ∨ (0 : Int32) = 1) k = k := gd_of (by decide)
theorem g11 {α : Type} {k : Option α} : gd ((1 : Int32) = 0 ∨ (1 : Int32) = 1) k = k := gd_of (by decide)
/-- the rows stay when other regions change -/
theorem TI_rows {n L F : Nat} {rw : Nat → Nat → Nat} {G h G2 h2 : Nat → Nat → Int32} (H : ∀ i, i < F → (rw 0 i < L ∧ rw 1 i < n ∧ rw 2 i < n ∧ rw 1 i ≠ rw 2 i ∧ rw 3 i < 3) ∧ G 10 i = nI (cd rw i) ∧ h 25 i = nI (pk4 rw i)) (e1 : G2 10 = G 10) (e2 : h2 25 = h 25) : ∀ i, i < F → (rw 0 i < L ∧ rw 1 i < n ∧ rw 2 i < n ∧ rw 1 i ≠ rw 2 i ∧ rw 3 i < 3) ∧ G2 10 i = nI (cd rw i) ∧ h2 25 i = nI (pk4 rw i) := by
  intro i hi
  rw [e1, e2]
  exact H i hi
theorem tx_0 {n L k : Nat} {c : Int32} {G h : Nat → Nat → Int32} (hL : L ≤ 8) (h2L : h 2 0 = nI L) {F : Nat} {rw : Nat → Nat → Nat} (i2 : 4 * F ≤ k) (i4 : G 12 0 = nI 0) (i5 : h 23 0 = nI 0) (i6 : G 11 0 = nI F) (i7 : h 24 0 = nI F) (i11 : ∀ i, i < F → (rw 0 i < L ∧ rw 1 i < n ∧ rw 2 i < n ∧ rw 1 i ≠ rw 2 i ∧ rw 3 i < 3) ∧ G 10 i = nI (cd rw i) ∧ h 25 i = nI (pk4 rw i)) : TS n L k c G h := by
  have k13 : (wf (wf G 13 (c - (48 : Int32))) 12 (1 : Int32)) 13 0 = c - (48 : Int32) := by rw [wf_ne (by decide), wf_ap, if_pos rfl]
  have m26 : (wf h 26 (c - (48 : Int32))) 26 0 = c - (48 : Int32) := by rw [wf_ap, if_pos rfl]
  have mL : (wf h 26 (c - (48 : Int32))) 2 0 = nI L := by rw [wf_ne (by decide)]; exact h2L
  rcases q_in (c - (48 : Int32)) (n := L) (by omega) with ⟨j, hj, e, c1, c2, r3⟩ | ⟨cc, r3⟩
  · refine ⟨1, wf (wf G 13 (c - (48 : Int32))) 12 (1 : Int32), wf (wf h 26 (c - (48 : Int32))) 23 (1 : Int32), ?_, ?_, eqx_tr (eqx_wf (by decide)) (eqx_wf (by decide)), eqx_tr (eqx_wf (by decide)) (eqx_wf (by decide)), Or.inl ⟨rfl, 1, F, j, 0, 0, rw, by decide, fun _ => by omega, fun u => by omega, by rw [wf_ap, if_pos rfl]; rfl, by rw [wf_ap, if_pos rfl]; rfl, by rw [wf_ne (by decide), wf_ne (by decide)]; exact i6, by rw [wf_ne (by decide), wf_ne (by decide)]; exact i7, fun _ => ⟨hj, by rw [k13]; exact e, by rw [wf_ne (by decide), m26]; exact e⟩, fun u => by omega, fun u => by omega, TI_rows i11 (by rw [wf_ne (by decide), wf_ne (by decide)]) (by rw [wf_ne (by decide), wf_ne (by decide)])⟩⟩
    · unfold C_TX_takes
      dsimp only [nm]
      rw [i4, if_pos (show nI 0 = (0 : Int32) from rfl), k13, if_neg c1, if_neg c2]
    · unfold M_takes
      dsimp only [nm]
      rw [i5, if_pos (show nI 0 = (0 : Int32) from rfl), m26, bd_of (m_lis mL r3 (by decide)), bd2_of (m_go1 _ _), g11]
  · refine ⟨0, wf (wf G 13 (c - (48 : Int32))) 12 (1 : Int32), wf (wf h 26 (c - (48 : Int32))) 23 ((wf h 26 (c - (48 : Int32))) 23 0), ?_, ?_, eqx_tr (eqx_wf (by decide)) (eqx_wf (by decide)), eqx_tr (eqx_wf (by decide)) (eqx_wf (by decide)), Or.inr rfl⟩
    · unfold C_TX_takes
      dsimp only [nm]
      rw [i4, if_pos (show nI 0 = (0 : Int32) from rfl), k13]
      rcases cc with u | ⟨u, u2⟩
      · rw [if_pos u]
      · rw [if_neg u, if_pos u2]
    · unfold M_takes
      dsimp only [nm]
      rw [i5, if_pos (show nI 0 = (0 : Int32) from rfl), m26, bd_of (m_lis mL r3 (by decide)), bd2_of (m_go0 _ _), g01]
theorem tx_1 {n L k : Nat} {c : Int32} {G h : Nat → Nat → Int32} {F l : Nat} {rw : Nat → Nat → Nat} (i2 : 4 * F + 1 ≤ k) (i4 : G 12 0 = nI 1) (i5 : h 23 0 = nI 1) (i6 : G 11 0 = nI F) (i7 : h 24 0 = nI F) (i8 : l < L ∧ G 13 0 = nI l ∧ h 26 0 = nI l) (i11 : ∀ i, i < F → (rw 0 i < L ∧ rw 1 i < n ∧ rw 2 i < n ∧ rw 1 i ≠ rw 2 i ∧ rw 3 i < 3) ∧ G 10 i = nI (cd rw i) ∧ h 25 i = nI (pk4 rw i)) : TS n L k c G h := by
  by_cases cc : c = (58 : Int32)
  · refine ⟨1, wf G 12 (2 : Int32), wf h 23 (2 : Int32), ?_, ?_, eqx_wf (by decide), eqx_wf (by decide), Or.inl ⟨rfl, 2, F, l, 0, 0, rw, by decide, fun _ => by omega, fun u => by omega, by rw [wf_ap, if_pos rfl]; rfl, by rw [wf_ap, if_pos rfl]; rfl, by rw [wf_ne (by decide)]; exact i6, by rw [wf_ne (by decide)]; exact i7, fun _ => ⟨i8.1, by rw [wf_ne (by decide)]; exact i8.2.1, by rw [wf_ne (by decide)]; exact i8.2.2⟩, fun u => by omega, fun u => by omega, TI_rows i11 (wf_ne (by decide)) (wf_ne (by decide))⟩⟩
    · unfold C_TX_takes
      dsimp only [nm]
      rw [i4, if_neg (show ¬ nI 1 = (0 : Int32) by decide), if_pos (show nI 1 = (1 : Int32) from rfl), if_pos cc]
    · unfold M_takes
      dsimp only [nm]
      rw [i5, if_neg (show ¬ nI 1 = (0 : Int32) by decide), if_pos (show nI 1 = (1 : Int32) from rfl), bd_of (if_pos cc), bd2_of (m_go1 _ _), g11]
  · refine ⟨0, wf G 12 (2 : Int32), wf h 23 (h 23 0), ?_, ?_, eqx_wf (by decide), eqx_wf (by decide), Or.inr rfl⟩
    · unfold C_TX_takes
      dsimp only [nm]
      rw [i4, if_neg (show ¬ nI 1 = (0 : Int32) by decide), if_pos (show nI 1 = (1 : Int32) from rfl), if_neg cc]
    · unfold M_takes
      dsimp only [nm]
      rw [i5, if_neg (show ¬ nI 1 = (0 : Int32) by decide), if_pos (show nI 1 = (1 : Int32) from rfl), bd_of (if_neg cc), bd2_of (m_go0 _ _), g01]
      rw [i5]
theorem tx_2 {n L k : Nat} {c : Int32} {G h : Nat → Nat → Int32} (hn : n ≤ 8) (h1n : h 1 0 = nI n) {F l : Nat} {rw : Nat → Nat → Nat} (i2 : 4 * F + 2 ≤ k) (i4 : G 12 0 = nI 2) (i5 : h 23 0 = nI 2) (i6 : G 11 0 = nI F) (i7 : h 24 0 = nI F) (i8 : l < L ∧ G 13 0 = nI l ∧ h 26 0 = nI l) (i11 : ∀ i, i < F → (rw 0 i < L ∧ rw 1 i < n ∧ rw 2 i < n ∧ rw 1 i ≠ rw 2 i ∧ rw 3 i < 3) ∧ G 10 i = nI (cd rw i) ∧ h 25 i = nI (pk4 rw i)) : TS n L k c G h := by
  have k14 : (wf (wf G 14 (c - (97 : Int32))) 12 (3 : Int32)) 14 0 = c - (97 : Int32) := by rw [wf_ne (by decide), wf_ap, if_pos rfl]
  have m27 : (wf h 27 (c - (97 : Int32))) 27 0 = c - (97 : Int32) := by rw [wf_ap, if_pos rfl]
  have mn : (wf h 27 (c - (97 : Int32))) 1 0 = nI n := by rw [wf_ne (by decide)]; exact h1n
  rcases q_in (c - (97 : Int32)) (n := n) (by omega) with ⟨j, hj, e, c1, c2, r3⟩ | ⟨cc, r3⟩
  · refine ⟨1, wf (wf G 14 (c - (97 : Int32))) 12 (3 : Int32), wf (wf h 27 (c - (97 : Int32))) 23 (3 : Int32), ?_, ?_, eqx_tr (eqx_wf (by decide)) (eqx_wf (by decide)), eqx_tr (eqx_wf (by decide)) (eqx_wf (by decide)), Or.inl ⟨rfl, 3, F, l, j, 0, rw, by decide, fun _ => by omega, fun u => by omega, by rw [wf_ap, if_pos rfl]; rfl, by rw [wf_ap, if_pos rfl]; rfl, by rw [wf_ne (by decide), wf_ne (by decide)]; exact i6, by rw [wf_ne (by decide), wf_ne (by decide)]; exact i7, fun _ => ⟨i8.1, by rw [wf_ne (by decide), wf_ne (by decide)]; exact i8.2.1, by rw [wf_ne (by decide), wf_ne (by decide)]; exact i8.2.2⟩, fun _ _ => ⟨hj, by rw [k14]; exact e, by rw [wf_ne (by decide), m27]; exact e⟩, fun u => by omega, TI_rows i11 (by rw [wf_ne (by decide), wf_ne (by decide)]) (by rw [wf_ne (by decide), wf_ne (by decide)])⟩⟩
    · unfold C_TX_takes
      dsimp only [nm]
      rw [i4, if_neg (show ¬ nI 2 = (0 : Int32) by decide), if_neg (show ¬ nI 2 = (1 : Int32) by decide), if_pos (show nI 2 = (2 : Int32) from rfl), k14, if_neg c1, if_neg c2]
    · unfold M_takes M_takesSample
      dsimp only [nm]
      rw [i5, if_neg (show ¬ nI 2 = (0 : Int32) by decide), if_neg (show ¬ nI 2 = (1 : Int32) by decide), if_pos (show nI 2 = (2 : Int32) from rfl), m27, bd_of (m_sam mn r3 (by decide)), bd2_of (m_go1 _ _), g11, bd2_of rfl, g11]
  · refine ⟨0, wf (wf G 14 (c - (97 : Int32))) 12 (3 : Int32), wf (wf h 27 (c - (97 : Int32))) 23 ((wf h 27 (c - (97 : Int32))) 23 0), ?_, ?_, eqx_tr (eqx_wf (by decide)) (eqx_wf (by decide)), eqx_tr (eqx_wf (by decide)) (eqx_wf (by decide)), Or.inr rfl⟩
    · unfold C_TX_takes
      dsimp only [nm]
      rw [i4, if_neg (show ¬ nI 2 = (0 : Int32) by decide), if_neg (show ¬ nI 2 = (1 : Int32) by decide), if_pos (show nI 2 = (2 : Int32) from rfl), k14]
      rcases cc with u | ⟨u, u2⟩
      · rw [if_pos u]
      · rw [if_neg u, if_pos u2]
    · unfold M_takes M_takesSample
      dsimp only [nm]
      rw [i5, if_neg (show ¬ nI 2 = (0 : Int32) by decide), if_neg (show ¬ nI 2 = (1 : Int32) by decide), if_pos (show nI 2 = (2 : Int32) from rfl), m27, bd_of (m_sam mn r3 (by decide)), bd2_of (m_go0 _ _), g01, bd2_of rfl, g01]
theorem q_sign (c : Int32) : (∃ j, j < 3 ∧ C_TX_answerOfSign c = some (nI j) ∧ M_answerBy c = some (nI j)) ∨ (C_TX_answerOfSign c = some (-1 : Int32) ∧ M_answerBy c = some (-1 : Int32)) := by
  unfold C_TX_answerOfSign M_answerBy
  by_cases c0 : c = (60 : Int32)
  · subst c0; exact Or.inl ⟨2, by decide, by decide, by decide⟩
  by_cases c1 : c = (61 : Int32)
  · subst c1; exact Or.inl ⟨0, by decide, by decide, by decide⟩
  by_cases c2 : c = (62 : Int32)
  · subst c2; exact Or.inl ⟨1, by decide, by decide, by decide⟩
  · refine Or.inr ⟨?_, ?_⟩
    · rw [if_neg c0, if_neg c1, if_neg c2]
    · rw [if_neg c1, if_neg c2, if_neg c0]
theorem tx_3 {n L k : Nat} {c : Int32} {G h : Nat → Nat → Int32} {F l f : Nat} {rw : Nat → Nat → Nat} (i2 : 4 * F + 3 ≤ k) (i4 : G 12 0 = nI 3) (i5 : h 23 0 = nI 3) (i6 : G 11 0 = nI F) (i7 : h 24 0 = nI F) (i8 : l < L ∧ G 13 0 = nI l ∧ h 26 0 = nI l) (i9 : f < n ∧ G 14 0 = nI f ∧ h 27 0 = nI f) (i11 : ∀ i, i < F → (rw 0 i < L ∧ rw 1 i < n ∧ rw 2 i < n ∧ rw 1 i ≠ rw 2 i ∧ rw 3 i < 3) ∧ G 10 i = nI (cd rw i) ∧ h 25 i = nI (pk4 rw i)) : TS n L k c G h := by
  have z : ∀ x y : Int32, (wf (wf G 15 x) 12 y) 15 0 = x := fun x y => by rw [wf_ne (by decide), wf_ap, if_pos rfl]
  have z2 : ∀ x : Int32, (wf h 28 x) 28 0 = x := fun x => by rw [wf_ap, if_pos rfl]
  rcases q_sign c with ⟨j, hj, e1, e2⟩ | ⟨e1, e2⟩
  · have hne : ¬ nI j = (-1 : Int32) := nI_nn (by omega)
    refine ⟨1, wf (wf G 15 (nI j)) 12 (4 : Int32), wf (wf h 28 (nI j)) 23 (4 : Int32), ?_, ?_, eqx_tr (eqx_wf (by decide)) (eqx_wf (by decide)), eqx_tr (eqx_wf (by decide)) (eqx_wf (by decide)), Or.inl ⟨rfl, 4, F, l, f, j, rw, by decide, fun _ => by omega, fun u => by omega, by rw [wf_ap, if_pos rfl]; rfl, by rw [wf_ap, if_pos rfl]; rfl, by rw [wf_ne (by decide), wf_ne (by decide)]; exact i6, by rw [wf_ne (by decide), wf_ne (by decide)]; exact i7, fun _ => ⟨i8.1, by rw [wf_ne (by decide), wf_ne (by decide)]; exact i8.2.1, by rw [wf_ne (by decide), wf_ne (by decide)]; exact i8.2.2⟩, fun _ _ => ⟨i9.1, by rw [wf_ne (by decide), wf_ne (by decide)]; exact i9.2.1, by rw [wf_ne (by decide), wf_ne (by decide)]; exact i9.2.2⟩, fun _ => ⟨hj, z _ _, by rw [wf_ne (by decide), z2]⟩, TI_rows i11 (by rw [wf_ne (by decide), wf_ne (by decide)]) (by rw [wf_ne (by decide), wf_ne (by decide)])⟩⟩
    · unfold C_TX_takes
      dsimp only [nm]
      rw [i4, if_neg (show ¬ nI 3 = (0 : Int32) by decide), if_neg (show ¬ nI 3 = (1 : Int32) by decide), if_neg (show ¬ nI 3 = (2 : Int32) by decide), if_pos (show nI 3 = (3 : Int32) from rfl), bd_of e1, z, if_neg hne]
    · unfold M_takes M_takesSign
      dsimp only [nm]
      rw [i5, if_neg (show ¬ nI 3 = (0 : Int32) by decide), if_neg (show ¬ nI 3 = (1 : Int32) by decide), if_neg (show ¬ nI 3 = (2 : Int32) by decide), if_pos (show nI 3 = (3 : Int32) from rfl), bd_of e2, z2, bd_of (if_neg hne), bd2_of (m_go1 _ _), g11, bd2_of rfl, g11]
  · refine ⟨0, wf (wf G 15 (-1 : Int32)) 12 (4 : Int32), wf (wf h 28 (-1 : Int32)) 23 ((wf h 28 (-1 : Int32)) 23 0), ?_, ?_, eqx_tr (eqx_wf (by decide)) (eqx_wf (by decide)), eqx_tr (eqx_wf (by decide)) (eqx_wf (by decide)), Or.inr rfl⟩
    · unfold C_TX_takes
      dsimp only [nm]
      rw [i4, if_neg (show ¬ nI 3 = (0 : Int32) by decide), if_neg (show ¬ nI 3 = (1 : Int32) by decide), if_neg (show ¬ nI 3 = (2 : Int32) by decide), if_pos (show nI 3 = (3 : Int32) from rfl), bd_of e1, z, if_pos rfl]
    · unfold M_takes M_takesSign
      dsimp only [nm]
      rw [i5, if_neg (show ¬ nI 3 = (0 : Int32) by decide), if_neg (show ¬ nI 3 = (1 : Int32) by decide), if_neg (show ¬ nI 3 = (2 : Int32) by decide), if_pos (show nI 3 = (3 : Int32) from rfl), bd_of e2, z2, bd_of (if_pos rfl), bd2_of (m_go0 _ _), g01, bd2_of rfl, g01]
theorem tx_4 {n L k : Nat} {c : Int32} {G h : Nat → Nat → Int32} (hn : n ≤ 8) (hL : L ≤ 8) (hk : k < 60) (h1n : h 1 0 = nI n) {F l f a : Nat} {rw : Nat → Nat → Nat} (i2 : 4 * F + 4 ≤ k) (i4 : G 12 0 = nI 4) (i5 : h 23 0 = nI 4) (i6 : G 11 0 = nI F) (i7 : h 24 0 = nI F) (i8 : l < L ∧ G 13 0 = nI l ∧ h 26 0 = nI l) (i9 : f < n ∧ G 14 0 = nI f ∧ h 27 0 = nI f) (i10 : a < 3 ∧ G 15 0 = nI a ∧ h 28 0 = nI a) (i11 : ∀ i, i < F → (rw 0 i < L ∧ rw 1 i < n ∧ rw 2 i < n ∧ rw 1 i ≠ rw 2 i ∧ rw 3 i < 3) ∧ G 10 i = nI (cd rw i) ∧ h 25 i = nI (pk4 rw i)) : TS n L k c G h := by
  have y14 : (wf G 12 (5 : Int32)) 14 0 = nI f := by rw [wf_ne (by decide)]; exact i9.2.1
  have y13 : (wf G 12 (5 : Int32)) 13 0 = nI l := by rw [wf_ne (by decide)]; exact i8.2.1
  have y15 : (wf G 12 (5 : Int32)) 15 0 = nI a := by rw [wf_ne (by decide)]; exact i10.2.1
  have y11 : (wf G 12 (5 : Int32)) 11 0 = nI F := by rw [wf_ne (by decide)]; exact i6
  -- how both end where the character is refused
  have no : C_TX_takesSecond (wf G 12 (5 : Int32)) (c - (97 : Int32)) (nI n) = some (0, wf G 12 (5 : Int32)) → M_takesOther h c = some (0, wf h 23 (h 23 0)) → TS n L k c G h := by
    intro e1 e2
    refine ⟨0, wf G 12 (5 : Int32), wf h 23 (h 23 0), ?_, ?_, eqx_wf (by decide), eqx_wf (by decide), Or.inr rfl⟩
    · unfold C_TX_takes
      dsimp only [nm]
      rw [i4, if_neg (show ¬ nI 4 = (0 : Int32) by decide), if_neg (show ¬ nI 4 = (1 : Int32) by decide), if_neg (show ¬ nI 4 = (2 : Int32) by decide), if_neg (show ¬ nI 4 = (3 : Int32) by decide), if_pos (show nI 4 = (4 : Int32) from rfl), bd2_of e1, g01]
    · rw [i5] at e2 ⊢
      unfold M_takes
      dsimp only [nm]
      rw [i5, if_neg (show ¬ nI 4 = (0 : Int32) by decide), if_neg (show ¬ nI 4 = (1 : Int32) by decide), if_neg (show ¬ nI 4 = (2 : Int32) by decide), if_neg (show ¬ nI 4 = (3 : Int32) by decide), if_pos (show nI 4 = (4 : Int32) from rfl), bd2_of e2, g01]
  rcases q_in (c - (97 : Int32)) (n := n) (by omega) with ⟨j, hj, e, c1, c2, r3⟩ | ⟨cc, r3⟩
  · by_cases hjf : j = f
    · refine no ?_ ?_
      · unfold C_TX_takesSecond
        rw [if_neg c1, if_neg c2, if_pos (by rw [e, y14, hjf])]
      · unfold M_takesOther
        dsimp only [nm]
        rw [bd_of (m_sam h1n r3 (by decide)), if_neg (by decide), bd_of (if_pos (by rw [e, i9.2.2, hjf])), bd_of (if_pos rfl), bd2_of (m_go0 _ _), g01]
    · have hne : ¬ nI j = nI f := fun u => hjf ((nE (by omega) (by omega)).mp u)
      have hpk := k_pk l (by omega) f (by omega) j (by omega) a i10.1
      have f15 : F < 15 := by omega
      obtain ⟨cf, hcf⟩ : ∃ cf, cf = cpU rw F l f j a := ⟨_, rfl⟩
      obtain ⟨u1, u2, u3, u4⟩ := cpU_eq rw F l f j a
      have s1 : C_TX_takesSecond (wf G 12 (5 : Int32)) (c - (97 : Int32)) (nI n) = some (1, wf (wr (wf G 12 (5 : Int32)) 10 (nI F) (nI (256 * l + 32 * f + 4 * j + a))) 11 (nI (F + 1))) := by
        unfold C_TX_takesSecond
        rw [if_neg c1, if_neg c2, if_neg (by rw [e, y14]; exact hne), y11, if_pos (show nI F < (15 : Int32) from nI_lt (b := 15) f15 (by decide)), y13, y14, y15, e, hpk]
        dsimp only [nm]
        rw [ri_k f15 (by decide), wr_ne (show (11 : Nat) ≠ 10 by decide), y11, nI_1]
      have s2 : M_takesOther h c = some (1, wf (wf (wr h 25 (nI F) (nI (1000 * l + 100 * f + 10 * j + a))) 24 (nI (F + 1))) 23 (5 : Int32)) := by
        unfold M_takesOther
        dsimp only [nm]
        rw [bd_of (m_sam h1n r3 (by decide)), if_neg (by decide), bd_of (if_neg (by rw [e, i9.2.2]; exact hne)), if_neg (by decide), i7, ri_k (show F < 20 by omega) (by decide), i8.2.2, i9.2.2, i10.2.2, e, show (1000 : Int32) = nI 1000 from rfl, show (100 : Int32) = nI 100 from rfl, show (10 : Int32) = nI 10 from rfl, pk_mul, pk_mul, pk_mul, nI_add, nI_add, nI_add, wr_ne (show (24 : Nat) ≠ 25 by decide), i7, nI_1, bd_of rfl, bd2_of (m_go1 _ _), g11]
      refine ⟨1, wf (wr (wf G 12 (5 : Int32)) 10 (nI F) (nI (256 * l + 32 * f + 4 * j + a))) 11 (nI (F + 1)), wf (wf (wr h 25 (nI F) (nI (1000 * l + 100 * f + 10 * j + a))) 24 (nI (F + 1))) 23 (5 : Int32), ?_, ?_, eqx_tr (eqx_tr (eqx_wf (by decide)) (eqx_wr (by decide))) (eqx_wf (k := 11) (x := nI (F + 1)) (by decide)), eqx_tr (eqx_tr (eqx_wr (by decide)) (eqx_wf (by decide))) (eqx_wf (k := 23) (x := (5 : Int32)) (by decide)), Or.inl ⟨rfl, 5, F + 1, l, 0, 0, cf, by decide, fun u => by omega, fun _ => by omega, ?_, ?_, ?_, ?_, fun _ => ⟨i8.1, ?_, ?_⟩, fun _ u => by omega, fun u => by omega, fun i hi => ?_⟩⟩
      · unfold C_TX_takes
        dsimp only [nm]
        rw [i4, if_neg (show ¬ nI 4 = (0 : Int32) by decide), if_neg (show ¬ nI 4 = (1 : Int32) by decide), if_neg (show ¬ nI 4 = (2 : Int32) by decide), if_neg (show ¬ nI 4 = (3 : Int32) by decide), if_pos (show nI 4 = (4 : Int32) from rfl), bd2_of s1, g11]
      · unfold M_takes
        dsimp only [nm]
        rw [i5, if_neg (show ¬ nI 4 = (0 : Int32) by decide), if_neg (show ¬ nI 4 = (1 : Int32) by decide), if_neg (show ¬ nI 4 = (2 : Int32) by decide), if_neg (show ¬ nI 4 = (3 : Int32) by decide), if_pos (show nI 4 = (4 : Int32) from rfl), bd2_of s2, g11]
      · rw [wf_ne (by decide), wr_ne (by decide), wf_ap, if_pos rfl]; rfl
      · rw [wf_ap, if_pos rfl]; rfl
      · rw [wf_ap, if_pos rfl]
      · rw [wf_ne (by decide), wf_ap, if_pos rfl]
      · rw [wf_ne (by decide), wr_ne (by decide), wf_ne (by decide)]; exact i8.2.1
      · rw [wf_ne (by decide), wf_ne (by decide), wr_ne (by decide)]; exact i8.2.2
      · rw [wf_ne (by decide), wr_ap, if_pos rfl, nI_clamp (by omega), wf_ne (by decide), wf_ne (by decide), wf_ne (by decide), wr_ap, if_pos rfl, nI_clamp (by omega), hcf, cpU_cd]
        by_cases hiF : i = F
        · rw [if_pos hiF, if_pos hiF, if_pos hiF, hiF]
          unfold pk4
          rw [u1, u2, u3, u4]
          exact ⟨⟨i8.1, i9.1, hj, fun u => hjf u.symm, i10.1⟩, rfl, rfl⟩
        · rw [if_neg hiF, if_neg hiF, if_neg hiF]
          unfold pk4
          rw [cpU_ne _ _ _ _ _ hiF, cpU_ne _ _ _ _ _ hiF, cpU_ne _ _ _ _ _ hiF, cpU_ne _ _ _ _ _ hiF]
          exact i11 i (by omega)
  · refine no ?_ ?_
    · unfold C_TX_takesSecond
      rcases cc with u | ⟨u, u2⟩
      · rw [if_pos u]
      · rw [if_neg u, if_pos u2]
    · unfold M_takesOther
      dsimp only [nm]
      rw [bd_of (m_sam h1n r3 (by decide)), bd_of (if_pos rfl), bd_of (if_pos rfl), bd2_of (m_go0 _ _), g01]
theorem tx_5 {n L k : Nat} {c : Int32} {G h : Nat → Nat → Int32} {F l : Nat} {rw : Nat → Nat → Nat} (i2 : 4 * F + 1 ≤ k) (i4 : G 12 0 = nI 5) (i5 : h 23 0 = nI 5) (i6 : G 11 0 = nI F) (i7 : h 24 0 = nI F) (i8 : l < L ∧ G 13 0 = nI l ∧ h 26 0 = nI l) (i11 : ∀ i, i < F → (rw 0 i < L ∧ rw 1 i < n ∧ rw 2 i < n ∧ rw 1 i ≠ rw 2 i ∧ rw 3 i < 3) ∧ G 10 i = nI (cd rw i) ∧ h 25 i = nI (pk4 rw i)) : TS n L k c G h := by
  by_cases cc : c = (44 : Int32)
  · refine ⟨1, wf G 12 (2 : Int32), wf h 23 (2 : Int32), ?_, ?_, eqx_wf (by decide), eqx_wf (by decide), Or.inl ⟨rfl, 2, F, l, 0, 0, rw, by decide, fun _ => by omega, fun u => by omega, by rw [wf_ap, if_pos rfl]; rfl, by rw [wf_ap, if_pos rfl]; rfl, by rw [wf_ne (by decide)]; exact i6, by rw [wf_ne (by decide)]; exact i7, fun _ => ⟨i8.1, by rw [wf_ne (by decide)]; exact i8.2.1, by rw [wf_ne (by decide)]; exact i8.2.2⟩, fun u => by omega, fun u => by omega, TI_rows i11 (wf_ne (by decide)) (wf_ne (by decide))⟩⟩
    · unfold C_TX_takes
      dsimp only [nm]
      rw [i4, if_neg (show ¬ nI 5 = (0 : Int32) by decide), if_neg (show ¬ nI 5 = (1 : Int32) by decide), if_neg (show ¬ nI 5 = (2 : Int32) by decide), if_neg (show ¬ nI 5 = (3 : Int32) by decide), if_neg (show ¬ nI 5 = (4 : Int32) by decide), bd_of (if_pos cc), if_pos cc]
    · unfold M_takes
      dsimp only [nm]
      rw [i5, if_neg (show ¬ nI 5 = (0 : Int32) by decide), if_neg (show ¬ nI 5 = (1 : Int32) by decide), if_neg (show ¬ nI 5 = (2 : Int32) by decide), if_neg (show ¬ nI 5 = (3 : Int32) by decide), if_neg (show ¬ nI 5 = (4 : Int32) by decide), if_pos cc, bd2_of (m_go1 _ _), g11]
  by_cases c2 : c = (59 : Int32)
  · refine ⟨1, wf G 12 (0 : Int32), wf h 23 (0 : Int32), ?_, ?_, eqx_wf (by decide), eqx_wf (by decide), Or.inl ⟨rfl, 0, F, l, 0, 0, rw, by decide, fun _ => by omega, fun u => by omega, by rw [wf_ap, if_pos rfl]; rfl, by rw [wf_ap, if_pos rfl]; rfl, by rw [wf_ne (by decide)]; exact i6, by rw [wf_ne (by decide)]; exact i7, fun u => by omega, fun u => by omega, fun u => by omega, TI_rows i11 (wf_ne (by decide)) (wf_ne (by decide))⟩⟩
    · unfold C_TX_takes
      dsimp only [nm]
      rw [i4, if_neg (show ¬ nI 5 = (0 : Int32) by decide), if_neg (show ¬ nI 5 = (1 : Int32) by decide), if_neg (show ¬ nI 5 = (2 : Int32) by decide), if_neg (show ¬ nI 5 = (3 : Int32) by decide), if_neg (show ¬ nI 5 = (4 : Int32) by decide), bd_of (if_neg cc), if_neg cc, if_pos c2]
    · unfold M_takes
      dsimp only [nm]
      rw [i5, if_neg (show ¬ nI 5 = (0 : Int32) by decide), if_neg (show ¬ nI 5 = (1 : Int32) by decide), if_neg (show ¬ nI 5 = (2 : Int32) by decide), if_neg (show ¬ nI 5 = (3 : Int32) by decide), if_neg (show ¬ nI 5 = (4 : Int32) by decide), if_neg cc, bd_of (if_pos c2), bd2_of (m_go1 _ _), g11]
  · refine ⟨0, wf G 12 (0 : Int32), wf h 23 (h 23 0), ?_, ?_, eqx_wf (by decide), eqx_wf (by decide), Or.inr rfl⟩
    · unfold C_TX_takes
      dsimp only [nm]
      rw [i4, if_neg (show ¬ nI 5 = (0 : Int32) by decide), if_neg (show ¬ nI 5 = (1 : Int32) by decide), if_neg (show ¬ nI 5 = (2 : Int32) by decide), if_neg (show ¬ nI 5 = (3 : Int32) by decide), if_neg (show ¬ nI 5 = (4 : Int32) by decide), bd_of (if_neg cc), if_neg cc, if_neg c2]
    · rw [i5]
      unfold M_takes
      dsimp only [nm]
      rw [i5, if_neg (show ¬ nI 5 = (0 : Int32) by decide), if_neg (show ¬ nI 5 = (1 : Int32) by decide), if_neg (show ¬ nI 5 = (2 : Int32) by decide), if_neg (show ¬ nI 5 = (3 : Int32) by decide), if_neg (show ¬ nI 5 = (4 : Int32) by decide), if_neg cc, bd_of (if_neg c2), bd2_of (m_go0 _ _), g01, i5]
theorem tx_st {n L k : Nat} (c : Int32) {G h : Nat → Nat → Int32} (hn : n ≤ 8) (hL : L ≤ 8) (hk : k < 60) (h1n : h 1 0 = nI n) (h2L : h 2 0 = nI L) (H : TI n L k G h) : TS n L k c G h := by
  obtain ⟨st, F, l, f, a, rw', i1, i2, i3, i4, i5, i6, i7, i8, i9, i10, i11⟩ := H
  have : st = 0 ∨ st = 1 ∨ st = 2 ∨ st = 3 ∨ st = 4 ∨ st = 5 := by omega
  rcases this with u | u | u | u | u | u <;> subst u
  · exact tx_0 hL h2L (by have := i2 (by decide); omega) i4 i5 i6 i7 i11
  · exact tx_1 (i2 (by decide)) i4 i5 i6 i7 (i8 (by decide)) i11
  · exact tx_2 hn h1n (i2 (by decide)) i4 i5 i6 i7 (i8 (by decide)) i11
  · exact tx_3 (i2 (by decide)) i4 i5 i6 i7 (i8 (by decide)) (i9 (by decide) (by decide)) i11
  · exact tx_4 hn hL hk h1n (i2 (by decide)) i4 i5 i6 i7 (i8 (by decide)) (i9 (by decide) (by decide)) (i10 rfl) i11
  · exact tx_5 (i3 rfl) i4 i5 i6 i7 (i8 (by decide)) i11
/-- both scans, from a place on -/
theorem tx_lp {n L len : Nat} {tx : Nat → Int32} (hn : n ≤ 8) (hL : L ≤ 8) (hlen : len ≤ 60) : ∀ (d k N : Nat) (G h : Nat → Nat → Int32), k + d = len → d < N → G 9 0 = nI len → (∀ t, t < len → G 8 t = tx t) → h 1 0 = nI n → h 2 0 = nI L → h 20 0 = nI len → (∀ t, t < len → h 21 t = tx t) → TI n L k G h → ∃ e G2 h2, lp (fun q => C_TX_scan_s1 (nI n) (nI L) q.1 q.2) N (nI k, G) = some (nI e, G2) ∧ lp (fun q => M_read_s1 q.1 q.2) N (nI k, h) = some (nI e, h2) ∧ eqx [10, 11, 12, 13, 14, 15] G G2 ∧ eqx [23, 24, 25, 26, 27, 28] h h2 ∧ ((e = len ∧ TI n L len G2 h2) ∨ e < len)
  | _, _, 0, _, _, _, hN, _, _, _, _, _, _, _ => absurd hN (Nat.not_lt_zero _)
  | 0, k, N + 1, G, h, hk, _, g9, g8, h1, h2, h20, h21, H => by
    have hk' : k = len := by omega
    subst hk'
    refine ⟨k, G, h, ?_, ?_, eqx_rf, eqx_rf, Or.inl ⟨rfl, H⟩⟩
    · rw [lp]
      dsimp only
      unfold C_TX_scan_s1
      rw [g9, if_pos (nI_le (Nat.le_refl _) (by omega))]
    · rw [lp]
      dsimp only
      unfold M_read_s1
      rw [h20, if_pos (nI_le (Nat.le_refl _) (by omega))]
  | d + 1, k, N + 1, G, h, hk, hN, g9, g8, h1, h2, h20, h21, H => by
    obtain ⟨r, G', h', e1, e2, e3, e4, e5⟩ := tx_st (tx k) hn hL (show k < 60 by omega) h1 h2 H
    have hkl : ¬ nI len ≤ nI k := nI_ge (by omega) (by omega)
    rcases e5 with ⟨rfl, H'⟩ | rfl
    · obtain ⟨e, G2, h2', f1, f2, f3, f4, f5⟩ := tx_lp (tx := tx) hn hL hlen d (k + 1) N G' h' (by omega) (by omega) (by rw [e3 9 (by decide)]; exact g9) (fun t ht => by rw [e3 8 (by decide)]; exact g8 t ht) (by rw [e4 1 (by decide)]; exact h1) (by rw [e4 2 (by decide)]; exact h2) (by rw [e4 20 (by decide)]; exact h20) (fun t ht => by rw [e4 21 (by decide)]; exact h21 t ht) H'
      refine ⟨e, G2, h2', ?_, ?_, eqx_tr e3 f3, eqx_tr e4 f4, f5⟩
      · have q : C_TX_scan_s1 (nI n) (nI L) (nI k) G = some (.inl (nI (k + 1), G')) := by
          unfold C_TX_scan_s1
          rw [g9, if_neg hkl, ri_k (show k < 60 by omega) (by decide), nI_clamp (by omega), g8 k (by omega), bd2_of e1, if_neg (by decide)]
          dsimp only [nm]
          rw [nI_1]
        rw [lp]
        dsimp only
        rw [q]
        exact f1
      · have q : M_read_s1 (nI k) h = some (.inl (nI (k + 1), h')) := by
          unfold M_read_s1
          rw [h20, if_neg hkl, ri_k (show k < 60 by omega) (by decide), nI_clamp (by omega), h21 k (by omega), bd2_of e2, if_neg (by decide)]
          dsimp only [nm]
          rw [nI_1]
        rw [lp]
        dsimp only
        rw [q]
        exact f2
    · refine ⟨k, G', h', ?_, ?_, e3, e4, Or.inr (by omega)⟩
      · rw [lp]
        dsimp only
        unfold C_TX_scan_s1
        rw [g9, if_neg hkl, ri_k (show k < 60 by omega) (by decide), nI_clamp (by omega), g8 k (by omega), bd2_of e1, if_pos rfl]
      · rw [lp]
        dsimp only
        unfold M_read_s1
        rw [h20, if_neg hkl, ri_k (show k < 60 by omega) (by decide), nI_clamp (by omega), h21 k (by omega), bd2_of e2, if_pos rfl]
theorem tx_scan {n L : Nat} {w : Nat → Nat} {s : SN} {K : Nat} {hs : Nat → SN} {v len : Nat} {tx : Nat → Int32} {G h : Nat → Nat → Int32} {P : Nat → Option PRec} (B : RP n L w s K hs v len) (C : RC n L w s K hs v len tx G P) (M : RM n L w s K hs len tx h) : ∃ e G2 h2, C_TX_scan G (G 0 0) (G 1 0) = some (nI e, G2) ∧ M_read h = some (nI e, h2) ∧ eqx [10, 11, 12, 13, 14, 15] G G2 ∧ eqx [23, 24, 25, 26, 27, 28] h h2 ∧ ((e = len ∧ TI n L len G2 h2) ∨ e < len) := by
  obtain ⟨b1, b2, b3, b4, b5, b6, b7, b8, b9, b10⟩ := B
  obtain ⟨a, b, c, d, e, f, g, i, j⟩ := C
  obtain ⟨ma, mb, mc, md, me, mf, mg, mi⟩ := M
  obtain ⟨e, G2, h2, f1, f2, f3, f4, f5⟩ := tx_lp (n := n) (L := L) (tx := tx) b2 b4 b10 len 0 FU (wf (wf G 11 (0 : Int32)) 12 (0 : Int32)) (wf (wf h 23 (0 : Int32)) 24 (0 : Int32)) (by omega) (by unfold FU; omega) (by rw [wf_ne (by decide), wf_ne (by decide)]; exact i) (fun t ht => by rw [wf_ne (by decide), wf_ne (by decide)]; exact j t ht) (by rw [wf_ne (by decide), wf_ne (by decide)]; exact ma) (by rw [wf_ne (by decide), wf_ne (by decide)]; exact mb) (by rw [wf_ne (by decide), wf_ne (by decide)]; exact mg) (fun t ht => by rw [wf_ne (by decide), wf_ne (by decide)]; exact mi t ht) ⟨0, 0, 0, 0, 0, fun _ _ => 0, by decide, fun _ => by omega, fun u => by omega, by rw [wf_ap, if_pos rfl]; rfl, by rw [wf_ne (by decide), wf_ap, if_pos rfl]; rfl, by rw [wf_ne (by decide), wf_ap, if_pos rfl]; rfl, by rw [wf_ap, if_pos rfl]; rfl, fun u => by omega, fun u => by omega, fun u => by omega, fun i hi => by omega⟩
  refine ⟨e, G2, h2, ?_, ?_, eqx_tr (eqx_tr (eqx_wf (by decide)) (eqx_wf (by decide))) f3, eqx_tr (eqx_tr (eqx_wf (by decide)) (eqx_wf (by decide))) f4, f5⟩
  · unfold C_TX_scan
    rw [a, b]
    exact f1
  · unfold M_read
    dsimp only [nm]
    rw [bd2_of (show lp (fun q => M_read_s1 q.1 q.2) FU ((0 : Int32), wf (wf h 23 (0 : Int32)) 24 (0 : Int32)) = _ from f2)]
theorem p_firstError {G h : Nat → Nat → Int32} {P : Nat → Option PRec} (H : RR G P h) : okO P (fun r G2 P2 => C_LT_firstError G = some (r, G2) ∧ P2 = P) (fun r h2 => M_firstError h = some (r, h2)) := by
  obtain ⟨n, L, w, s, K, hs, v, len, tx, B, C, M⟩ := id H
  have M0 := RM_x (X := [0]) M (eqx_wf (k := 0) (x := (0 : Int32)) (by decide)) (by decide)
  obtain ⟨e, G2, h2, f1, f2, f3, f4, f5⟩ := tx_scan B C M0
  refine ⟨nI e, G2, P, h2, ⟨?_, rfl⟩, ?_, ?_, ⟨n, L, w, s, K, hs, v, len, tx, B, RC_x C f3 (by decide), RM_x M0 f4 (by decide)⟩, fun _ h => h⟩
  · unfold C_LT_firstError
    rw [bd2_of f1]
  · unfold M_firstError
    dsimp only [nm]
    rw [bd2_of f2]
  · rw [f4 0 (by decide), wf00]
