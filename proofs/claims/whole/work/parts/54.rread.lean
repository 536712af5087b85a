/-! CALLS that read: rings, chance, placeChance, sample, summary -/
theorem p_rings {G h : Nat → Nat → Int32} {P : Nat → Option PRec} (H : RR G P h) (E : Nat → Nat → Int64) (a0 : Int32) : okO P (fun r G2 P2 => C_LT_rings G a0 = some (r, G2) ∧ P2 = P) (fun r h2 => M_rings h a0 = some (r, h2)) ∨ twO [(iob, 1)] P (X_LT_rings G E a0) (fun h2 => ∃ r, M_rings h a0 = some (r, h2)) := by
  obtain ⟨n, L, w, s, K, hs, v, len, tx, B, C, M⟩ := id H
  obtain ⟨b1, b2, b3, b4, b5, b6, b7, b8, b9, b10⟩ := id B
  rcases q_idx a0 (n := L) (by omega) with ⟨l, hl, rfl, r1', r2, r3⟩ | ⟨r1', r2, r3⟩
  case inr =>
    refine Or.inr (tw0 (E := E) (ex := iob) (k := 1) H ?_ ⟨0, ?_⟩ (by decide))
    · unfold X_LT_rings; rw [C.2.1, r2]; rfl
    · unfold M_rings; rw [bd_of (m_lis M.2.1 r3 (by decide)), bd_of (if_pos rfl)]; dsimp only [nm]; rw [t_1]
  left
  have M0 := RM_x (X := [0]) M (eqx_wf (k := 0) (x := (0 : Int32)) (by decide)) (by decide)
  obtain ⟨G2, e1, e2⟩ := k_ringsOf b6.1 C.2.2.2.1.1 C.1 b2 (show l < 8 by omega)
  refine ⟨nI (r1 (pfB s.1 s.2.1 l) n), G2, P, wf h 0 0, ⟨?_, rfl⟩, ?_, wf00 h 0, RR_G H e2 (by decide) (eqx_wf (L := [0]) (by decide)) (by decide), fun _ h => h⟩
  · unfold C_LT_rings
    rw [C.2.1, bd0_of r1', bd2_of e1]
  · unfold M_rings
    rw [bd_of (m_lis M.2.1 r3 (by decide)), bd_of (if_neg (by decide))]
    dsimp only [nm]
    rw [t_0, bd_of (m_ringsL b6.1 M0.2.2.2.1.1 M0.1 b2 (show l < 8 by omega))]
theorem p_chance {G h : Nat → Nat → Int32} {P : Nat → Option PRec} (H : RR G P h) (E : Nat → Nat → Int64) (a0 a1 : Int32) : okO P (fun r G2 P2 => C_LT_chance G a0 a1 = some (r, G2) ∧ P2 = P) (fun r h2 => M_chance h a0 a1 = some (r, h2)) ∨ twO [(iob, 1), (iae, 2)] P (X_LT_chance G E a0 a1) (fun h2 => ∃ r, M_chance h a0 a1 = some (r, h2)) := by
  obtain ⟨n, L, w, s, K, hs, v, len, tx, B, C, M⟩ := id H
  obtain ⟨b1, b2, b3, b4, b5, b6, b7, b8, b9, b10⟩ := id B
  rcases q_idx a0 (n := n) (by omega) with ⟨f, hf, rfl, s1, s2, s3⟩ | ⟨s1, s2, s3⟩
  case inr =>
    refine Or.inr (tw0 (E := E) (ex := iob) (k := 1) H ?_ ⟨0, ?_⟩ (by decide))
    · unfold X_LT_chance; rw [C.1, s2]; rfl
    · unfold M_chance; rw [bd_of (m_sam M.1 s3 (by decide)), bd_of (if_pos rfl)]; dsimp only [nm]; rw [t_1]
  rcases q_idx a1 (n := n) (by omega) with ⟨g, hg, rfl, u1, u2, u3⟩ | ⟨u1, u2, u3⟩
  case inr =>
    refine Or.inr (tw0 (E := E) (ex := iob) (k := 1) H ?_ ⟨0, ?_⟩ (by decide))
    · unfold X_LT_chance; rw [C.1, s2, s1, u2]; rfl
    · unfold M_chance; rw [bd_of (m_sam M.1 s3 (by decide)), if_neg (by decide), bd_of (m_sam M.1 u3 (by decide)), bd_of (if_pos rfl)]; dsimp only [nm]; rw [t_1]
  by_cases hne : f = g
  · subst hne
    refine Or.inr (tw0 (E := E) (ex := iae) (k := 2) H ?_ ⟨0, ?_⟩ (by decide))
    · unfold X_LT_chance; rw [C.1, s2, s1, if_pos rfl]; rfl
    · unfold M_chance; rw [bd_of (m_sam M.1 s3 (by decide)), if_neg (by decide), bd_of (m_sam M.1 u3 (by decide)), if_neg (by decide), bd_of (if_pos rfl)]; dsimp only [nm]; rw [t_2]
  have hnI : ¬ nI f = nI g := fun u => hne ((nE (by omega) (by omega)).mp u)
  left
  have M0 := RM_x (X := [0]) M (eqx_wf (k := 0) (x := (0 : Int32)) (by decide)) (by decide)
  obtain ⟨G2, e1, e2, e3⟩ := k_take b6.1 C.2.2.2.1.1
  refine ⟨chv (wiA s.1 s.2.1 f g) (wiA s.1 s.2.1 g f), G2, P, wf h 0 0, ⟨?_, rfl⟩, ?_, wf00 h 0, RR_G H e2 (by decide) (eqx_wf (L := [0]) (by decide)) (by decide), fun _ h => h⟩
  · unfold C_LT_chance
    rw [C.1, bd0_of s1, bd0_of u1, bd_of (if_neg hnI), bd0_of ra1, bd_of e1, bd_of (k_chance b6.1.1 (fun i j hi hj => (e3 i j hi hj).1) (show f < 8 by omega) (show g < 8 by omega) hne)]
  · unfold M_chance
    rw [bd_of (m_sam M.1 s3 (by decide)), if_neg (by decide), bd_of (m_sam M.1 u3 (by decide)), if_neg (by decide), bd_of (if_neg hnI)]
    dsimp only [nm]
    rw [t_0, bd_of (m_chanceNow b6.1 M0.2.2.2.1.1 (show f < 8 by omega) (show g < 8 by omega) hne)]
theorem k_place {n L : Nat} {w : Nat → Nat} {s : SN} {K : Nat} {hs : Nat → SN} {v len : Nat} {tx : Nat → Int32} {G : Nat → Nat → Int32} {P : Nat → Option PRec} (B : RP n L w s K hs v len) (C : RC n L w s K hs v len tx G P) : C_LT_placeChance G = some (chv (cnA s.1 s.2.1 1) (cnA s.1 s.2.1 2)) := by
  obtain ⟨b1, b2, b3, b4, b5, b6, b7, b8, b9, b10⟩ := B
  have h2 := cnA_two s.1 s.2.1
  have bm := b6.1.1
  unfold C_LT_placeChance
  rw [show (1 : Int32) = nI 1 from rfl, show (2 : Int32) = nI 2 from rfl, bd_of (k_countA b6.1 C.2.2.2.1.1 (show 1 < 3 by decide)), bd_of (k_countA b6.1 C.2.2.2.1.1 (show 2 < 3 by decide)), bd_of (k_chv (by omega))]
theorem m_place {n L : Nat} {w : Nat → Nat} {s : SN} {K : Nat} {hs : Nat → SN} {v len : Nat} {tx : Nat → Int32} {h : Nat → Nat → Int32} (B : RP n L w s K hs v len) (M : RM n L w s K hs len tx h) : M_placeNow h = some (chv (cnA s.1 s.2.1 1) (cnA s.1 s.2.1 2)) := by
  obtain ⟨b1, b2, b3, b4, b5, b6, b7, b8, b9, b10⟩ := B
  have h2 := cnA_two s.1 s.2.1
  have bm := b6.1.1
  unfold M_placeNow
  rw [show (1 : Int32) = nI 1 from rfl, show (2 : Int32) = nI 2 from rfl, bd_of (m_firsts b6.1 M.2.2.2.1.1 (show 1 < 3 by decide)), bd_of (m_firsts b6.1 M.2.2.2.1.1 (show 2 < 3 by decide)), bd_of (m_chv (by omega))]
theorem p_placeChance {G h : Nat → Nat → Int32} {P : Nat → Option PRec} (H : RR G P h) : okO P (fun r G2 P2 => C_LT_placeChance G = some r ∧ G2 = G ∧ P2 = P) (fun r h2 => M_placeChance h = some (r, h2)) := by
  obtain ⟨n, L, w, s, K, hs, v, len, tx, B, C, M⟩ := RR_t H 0
  refine ok0 (r := chv (cnA s.1 s.2.1 1) (cnA s.1 s.2.1 2)) H ⟨k_place B C, rfl, rfl⟩ ?_
  unfold M_placeChance
  dsimp only [nm]
  rw [bd_of (m_place B M)]
/-- the weights that a call sees: of one listener they may count nothing -/
def wZ (w : Nat → Nat) (a : Int32) : Nat → Nat := fun i => if nI i = a then 0 else w i
theorem wZ_le {w : Nat → Nat} (h : ∀ i, w i ≤ 9) (a : Int32) (i : Nat) : wZ w a i ≤ 9 := by
  unfold wZ
  split
  · omega
  · exact h i
theorem wZ_n {h : Nat → Nat → Int32} {w : Nat → Nat} (H : isW h 3 w) : isW h 3 (wZ w (-1 : Int32)) := by
  intro i hi
  unfold wZ
  rw [if_neg (nI_nn (by omega))]
  exact H i hi
theorem p_sample {G h : Nat → Nat → Int32} {P : Nat → Option PRec} (H : RR G P h) (E : Nat → Nat → Int64) (a0 a1 : Int32) : okO P (fun r G2 P2 => C_LT_sample G a0 a1 = some (r, G2) ∧ P2 = P) (fun r h2 => M_sample h a0 a1 = some (r, h2)) ∨ twO [(iob, 1), (iae, 2)] P (X_LT_sample G E a0 a1) (fun h2 => ∃ r, M_sample h a0 a1 = some (r, h2)) := by
  obtain ⟨n, L, w, s, K, hs, v, len, tx, B, C, M⟩ := id H
  obtain ⟨b1, b2, b3, b4, b5, b6, b7, b8, b9, b10⟩ := id B
  rcases q_idx a0 (n := n) (by omega) with ⟨f, hf, rfl, s1, s2, s3⟩ | ⟨s1, s2, s3⟩
  case inr =>
    refine Or.inr (tw0 (E := E) (ex := iob) (k := 1) H ?_ ⟨0, ?_⟩ (by decide))
    · unfold X_LT_sample; rw [C.1, s2]; rfl
    · unfold M_sample; rw [bd_of (m_sam M.1 s3 (by decide)), bd_of (if_pos rfl)]; dsimp only [nm]; rw [t_1]
  by_cases c1 : a1 < 0
  · refine Or.inr (tw0 (E := E) (ex := iae) (k := 2) H ?_ ⟨0, ?_⟩ (by decide))
    · unfold X_LT_sample; rw [C.1, s1, s2, if_pos c1]; rfl
    · unfold M_sample; rw [bd_of (m_sam M.1 s3 (by decide))]; unfold M_within; rw [if_pos c1]; dsimp only [nm, bd]; rw [if_neg (by decide), if_pos rfl]; dsimp only; rw [t_2]
  by_cases c2 : (5 : Int32) < a1
  · refine Or.inr (tw0 (E := E) (ex := iae) (k := 2) H ?_ ⟨0, ?_⟩ (by decide))
    · unfold X_LT_sample; rw [C.1, s1, s2, if_neg c1, if_pos c2]; rfl
    · unfold M_sample; rw [bd_of (m_sam M.1 s3 (by decide))]; unfold M_within; rw [if_neg c1, if_pos c2]; dsimp only [nm, bd]; rw [if_neg (by decide), if_pos rfl]; dsimp only; rw [t_2]
  left
  obtain ⟨j1, i1, i2, rfl⟩ := q_rng (lo := 0) (hi := 5) (by decide) (by decide) c1 c2
  have M0 := RM_x (X := [0]) M (eqx_wf (k := 0) (x := (0 : Int32)) (by decide)) (by decide)
  obtain ⟨G2, e1, e2, e3⟩ := k_weighZ b6.1 C.2.2.2.1.1 C.1 b2 C.2.2.1 (-1 : Int32)
  have C2 := RC_x C e2 (by decide)
  obtain ⟨G3, f1, f2, f3⟩ := k_property b6.1 C2.2.2.2.1.1 (wZ_le b5 (-1 : Int32)) e3 b2 hf (show j1 < 6 by omega)
  obtain ⟨h3, g1, g2⟩ := m_sampleNow b6.1 M0.2.2.2.1.1 (wZ_n M0.2.2.1) (wZ_le b5 (-1 : Int32)) M0.1 b2 hf (show j1 < 6 by omega)
  refine ⟨svN n (wZ w (-1 : Int32)) s.1 s.2.1 f j1, G3, P, h3, ⟨?_, rfl⟩, ?_, by rw [g2 0 (by decide), wf00], ⟨n, L, w, s, K, hs, v, len, tx, B, RC_x C2 f2 (by decide), RM_x M0 g2 (by decide)⟩, fun _ h => h⟩
  · unfold C_LT_sample
    rw [C.1, bd0_of s1, if_neg c1, if_neg c2, bd_of rfl, bd0_of ra1, bd_of e1, bd2_of f1]
  · unfold M_sample
    rw [bd_of (m_sam M.1 s3 (by decide))]; unfold M_within; rw [if_neg c1, if_neg c2]; dsimp only [nm, bd]; rw [if_neg (by decide), if_neg (by decide)]; dsimp only; rw [t_0, bd2_of g1]
theorem p_summary {G h : Nat → Nat → Int32} {P : Nat → Option PRec} (H : RR G P h) (E : Nat → Nat → Int64) (a0 : Int32) : okO P (fun r G2 P2 => C_LT_summary G a0 = some (r, G2) ∧ P2 = P) (fun r h2 => M_summary h a0 = some (r, h2)) ∨ twO [(iae, 1)] P (X_LT_summary G E a0) (fun h2 => ∃ r, M_summary h a0 = some (r, h2)) := by
  obtain ⟨n, L, w, s, K, hs, v, len, tx, B, C, M⟩ := id H
  obtain ⟨b1, b2, b3, b4, b5, b6, b7, b8, b9, b10⟩ := id B
  by_cases c1 : a0 < 0
  · refine Or.inr (tw0 (E := E) (ex := iae) (k := 1) H ?_ ⟨0, ?_⟩ (by decide))
    · unfold X_LT_summary; rw [if_pos c1]; rfl
    · unfold M_summary M_within; rw [if_pos c1, bd_of rfl, bd_of (if_pos rfl)]; dsimp only [nm]; rw [t_1]
  by_cases c2 : (5 : Int32) < a0
  · refine Or.inr (tw0 (E := E) (ex := iae) (k := 1) H ?_ ⟨0, ?_⟩ (by decide))
    · unfold X_LT_summary; rw [if_neg c1, if_pos c2]; rfl
    · unfold M_summary M_within; rw [if_neg c1, if_pos c2, bd_of rfl, bd_of (if_pos rfl)]; dsimp only [nm]; rw [t_1]
  left
  obtain ⟨j1, i1, i2, rfl⟩ := q_rng (lo := 0) (hi := 5) (by decide) (by decide) c1 c2
  have M0 := RM_x (X := [0]) M (eqx_wf (k := 0) (x := (0 : Int32)) (by decide)) (by decide)
  obtain ⟨G2, e1, e2, e3⟩ := k_weighZ b6.1 C.2.2.2.1.1 C.1 b2 C.2.2.1 (-1 : Int32)
  have C2 := RC_x C e2 (by decide)
  obtain ⟨G3, f1, f2, f3⟩ := k_number b6.1 C2.2.2.2.1.1 (wZ_le b5 (-1 : Int32)) e3 b2 (by omega) (show j1 < 6 by omega)
  obtain ⟨h3, g1, g2⟩ := m_summaryNow b6.1 M0.2.2.2.1.1 (wZ_n M0.2.2.1) (wZ_le b5 (-1 : Int32)) M0.1 b2 (by omega) (show j1 < 6 by omega)
  refine ⟨suN n (wZ w (-1 : Int32)) s.1 s.2.1 j1, G3, P, h3, ⟨?_, rfl⟩, ?_, by rw [g2 0 (by decide), wf00], ⟨n, L, w, s, K, hs, v, len, tx, B, RC_x C2 f2 (by decide), RM_x M0 g2 (by decide)⟩, fun _ h => h⟩
  · unfold C_LT_summary
    rw [if_neg c1, if_neg c2, bd_of rfl, bd0_of ra1, bd_of e1, bd2_of f1]
  · unfold M_summary M_within
    rw [if_neg c1, if_neg c2, bd_of rfl, bd_of (if_neg (by decide))]
    dsimp only [nm]
    rw [t_0, bd2_of g1]
