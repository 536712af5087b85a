/-! CALLS that read: consistency, agreement, proved -/
theorem p_consistency {G h : Nat → Nat → Int32} {P : Nat → Option PRec} (H : RR G P h) (E : Nat → Nat → Int64) (a0 : Int32) : okO P (fun r G2 P2 => C_LT_consistency G a0 = some (r, G2) ∧ P2 = P) (fun r h2 => M_consistency h a0 = some (r, h2)) ∨ twO [(iob, 1), (ise, 2)] P (X_LT_consistency G E a0) (fun h2 => ∃ r, M_consistency h a0 = some (r, h2)) := by
  obtain ⟨n, L, w, s, K, hs, v, len, tx, B, C, M⟩ := id H
  obtain ⟨b1, b2, b3, b4, b5, b6, b7, b8, b9, b10⟩ := id B
  rcases q_idx a0 (n := L) (by omega) with ⟨l, hl, rfl, r1', r2, r3⟩ | ⟨r1', r2, r3⟩
  case inr =>
    refine Or.inr (tw0 (E := E) (ex := iob) (k := 1) H ?_ ⟨FP.dconst0, ?_⟩ (by decide))
    · unfold X_LT_consistency; rw [C.2.1, r2]; rfl
    · unfold M_consistency; rw [bd_of (m_lis M.2.1 r3 (by decide)), bd_of (if_pos rfl)]; dsimp only [nm]; rw [t_1]
  have l8 : l < 8 := by omega
  have M0 := RM_x (X := [0]) M (eqx_wf (k := 0) (x := (0 : Int32)) (by decide)) (by decide)
  obtain ⟨G2, e1, e2, e3⟩ := k_takeL_12 b6.1 C.2.2.2.1.1 l8
  have C2 := RC_x C e2 (by decide)
  have hLd : isL G2 18 s.1 s.2.1 l := e3
  obtain ⟨x, x1, x2⟩ := k_complete b6.1 hLd b2
  obtain ⟨y, y1, y2⟩ := m_complete b6.1 M.2.2.2.1.1 M.1 b2 l8
  by_cases hc : cmP s.1 s.2.1 l n
  · left
    have hx : x = 1 := by rcases x2 with ⟨u, _⟩ | ⟨_, u⟩; exact u; exact absurd hc u
    have hy : y = 1 := by rcases y2 with ⟨u, _⟩ | ⟨_, u⟩; exact u; exact absurd hc u
    subst hx hy
    have kR : C_LE_countRings_12 G2 (nI n) = some (nI (r1 (pfB s.1 s.2.1 l) n)) := k_rings_12 (fun i j hi hj => k_aheadL b6.1 hLd hi hj) b2
    have hm := f_mul1 (r1 (pfB s.1 s.2.1 l) n) (by have := r1_le (A := pfB s.1 s.2.1 l) b2; omega)
    by_cases h0 : mrg n = 0
    · refine ⟨FP.dconst1, G2, P, wf h 0 0, ⟨?_, rfl⟩, ?_, wf00 h 0, RR_G H e2 (by decide) (eqx_wf (L := [0]) (by decide)) (by decide), fun _ h => h⟩
      · unfold C_LT_consistency
        rw [C.2.1, bd0_of r1', bd_of e1, C2.1, bd_of x1, if_neg (by decide), bd_of (k_mostRings n (by omega)), if_pos h0]
      · unfold M_consistency
        rw [bd_of (m_lis M.2.1 r3 (by decide)), if_neg (by decide), bd_of y1, bd_of (if_neg (by decide))]
        dsimp only [nm]
        rw [t_0, bd_of (m_mostRings M0.1 (by omega)), if_pos h0]
    · refine ⟨FP.dsub FP.dconst1 (FP.ddiv (FP.i2d (nI (r1 (pfB s.1 s.2.1 l) n))) (FP.i2d (mrg n))), G2, P, wf h 0 0, ⟨?_, rfl⟩, ?_, wf00 h 0, RR_G H e2 (by decide) (eqx_wf (L := [0]) (by decide)) (by decide), fun _ h => h⟩
      · unfold C_LT_consistency
        rw [C.2.1, bd0_of r1', bd_of e1, C2.1, bd_of x1, if_neg (by decide), bd_of (k_mostRings n (by omega)), if_neg h0, bd_of kR]
      · unfold M_consistency
        rw [bd_of (m_lis M.2.1 r3 (by decide)), if_neg (by decide), bd_of y1, bd_of (if_neg (by decide))]
        dsimp only [nm]
        rw [t_0, bd_of (m_mostRings M0.1 (by omega)), if_neg h0, bd_of (m_ringsL b6.1 M0.2.2.2.1.1 M0.1 b2 l8), bd_of (m_mostRings M0.1 (by omega)), hm]
  · right
    have hx : x = 0 := by rcases x2 with ⟨_, u⟩ | ⟨u, _⟩; exact absurd u hc; exact u
    have hy : y = 0 := by rcases y2 with ⟨_, u⟩ | ⟨u, _⟩; exact absurd u hc; exact u
    subst hx hy
    refine ⟨ise, G2, E, wf h 0 2, 2, ?_, ⟨FP.dconst0, ?_⟩, wf00 h 2, RR_G H e2 (by decide) (eqx_wf (L := [0]) (by decide)) (by decide), by decide⟩
    · unfold X_LT_consistency
      rw [C.2.1, r2, r1', bd_of e1, C2.1, bd_of x1]
      rfl
    · unfold M_consistency
      rw [bd_of (m_lis M.2.1 r3 (by decide)), if_neg (by decide), bd_of y1, bd_of (if_pos rfl)]
      dsimp only [nm]
      rw [t_2]
theorem f_mul3 : ∀ k, k < 57 → ∀ t, t < 57 → FP.dmul FP.dconst1 (FP.i2d (nI k - nI t)) = FP.i2d (nI k - nI t) := by decide +kernel
theorem p_agreement {G h : Nat → Nat → Int32} {P : Nat → Option PRec} (H : RR G P h) (E : Nat → Nat → Int64) (a0 a1 : Int32) : okO P (fun r G2 P2 => C_LT_agreement G a0 a1 = some (r, G2) ∧ P2 = P) (fun r h2 => M_agreement h a0 a1 = some (r, h2)) ∨ twO [(iob, 1)] P (X_LT_agreement G E a0 a1) (fun h2 => ∃ r, M_agreement h a0 a1 = some (r, h2)) := by
  obtain ⟨n, L, w, s, K, hs, v, len, tx, B, C, M⟩ := id H
  obtain ⟨b1, b2, b3, b4, b5, b6, b7, b8, b9, b10⟩ := id B
  rcases q_idx a0 (n := L) (by omega) with ⟨k, hk, rfl, r1', r2, r3⟩ | ⟨r1', r2, r3⟩
  case inr =>
    refine Or.inr (tw0 (E := E) (ex := iob) (k := 1) H ?_ ⟨FP.dconst0, ?_⟩ (by decide))
    · unfold X_LT_agreement; rw [C.2.1, r2]; rfl
    · unfold M_agreement; rw [bd_of (m_lis M.2.1 r3 (by decide)), bd_of (if_pos rfl)]; dsimp only [nm]; rw [t_1]
  rcases q_idx a1 (n := L) (by omega) with ⟨l, hl, rfl, s1, s2, s3⟩ | ⟨s1, s2, s3⟩
  case inr =>
    refine Or.inr (tw0 (E := E) (ex := iob) (k := 1) H ?_ ⟨FP.dconst0, ?_⟩ (by decide))
    · unfold X_LT_agreement; rw [C.2.1, r2, r1', s2]; rfl
    · unfold M_agreement; rw [bd_of (m_lis M.2.1 r3 (by decide)), if_neg (by decide), bd_of (m_lis M.2.1 s3 (by decide)), bd_of (if_pos rfl)]; dsimp only [nm]; rw [t_1]
  left
  have k8 : k < 8 := by omega
  have l8 : l < 8 := by omega
  have M0 := RM_x (X := [0]) M (eqx_wf (k := 0) (x := (0 : Int32)) (by decide)) (by decide)
  obtain ⟨G2, e1, e2, e3⟩ := k_takeL_12 b6.1 C.2.2.2.1.1 k8
  have C2 := RC_x C e2 (by decide)
  obtain ⟨G3, f1, f2, f3⟩ := k_takeL_14 b6.1 C2.2.2.2.1.1 l8
  have C3 := RC_x C2 f2 (by decide)
  have kA := k_agreeL b6.1 C3.1 b2 (show isL G3 18 s.1 s.2.1 k from fun i j hi hj => by rw [f2 18 (by decide)]; exact e3 i j hi hj) (show isL G3 19 s.1 s.2.1 l from f3)
  have mA := m_agreeL b6.1 M0.2.2.2.1.1 M0.1 b2 k8 l8
  have hm := f_mul3 (sq1 (ppD s.1 s.2.1 k l) n) (by have := sq1_le (ppD_le s.1 s.2.1 k l) b2; omega) (sq1 (pnD s.1 s.2.1 k l) n) (by have := sq1_le (pnD_le s.1 s.2.1 k l) b2; omega)
  have hR : RR G3 P (wf h 0 0) := ⟨n, L, w, s, K, hs, v, len, tx, B, C3, M0⟩
  by_cases h0 : nI (sq1 (fun i j => ppD s.1 s.2.1 k l i j + pnD s.1 s.2.1 k l i j) n) = 0
  · refine ⟨FP.dconst0, G3, P, wf h 0 0, ⟨?_, rfl⟩, ?_, wf00 h 0, hR, fun _ h => h⟩
    · unfold C_LT_agreement
      rw [C.2.1, bd0_of r1', bd0_of s1, bd_of e1, bd_of f1, bd2_of kA, if_pos h0]
    · unfold M_agreement
      rw [bd_of (m_lis M.2.1 r3 (by decide)), if_neg (by decide), bd_of (m_lis M.2.1 s3 (by decide)), bd_of (if_neg (by decide))]
      dsimp only [nm]
      rw [t_0, bd2_of mA, if_pos h0]
  · refine ⟨FP.ddiv (FP.i2d (nI (sq1 (ppD s.1 s.2.1 k l) n) - nI (sq1 (pnD s.1 s.2.1 k l) n))) (FP.i2d (nI (sq1 (fun i j => ppD s.1 s.2.1 k l i j + pnD s.1 s.2.1 k l i j) n))), G3, P, wf h 0 0, ⟨?_, rfl⟩, ?_, wf00 h 0, hR, fun _ h => h⟩
    · unfold C_LT_agreement
      rw [C.2.1, bd0_of r1', bd0_of s1, bd_of e1, bd_of f1, bd2_of kA, if_neg h0]
    · unfold M_agreement
      rw [bd_of (m_lis M.2.1 r3 (by decide)), if_neg (by decide), bd_of (m_lis M.2.1 s3 (by decide)), bd_of (if_neg (by decide))]
      dsimp only [nm]
      rw [t_0, bd2_of mA, if_neg h0, hm]
