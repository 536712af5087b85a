/-! CALLS that read: proved, strength, misfit -/
theorem p_proved {G h : Nat → Nat → Int32} {P : Nat → Option PRec} (H : RR G P h) (E Em : Nat → Nat → Int64) (a0 a1 : Int32) : okO P (fun r G2 P2 => (∃ E2, C_LT_proved G E a0 a1 = some (r, G2, E2)) ∧ P2 = P) (fun r h2 => ∃ E2, M_proved h Em a0 a1 = some (r, h2, E2)) ∨ twO [(iae, 1), (iob, 2)] P (X_LT_proved G E a0 a1) (fun h2 => ∃ r E2, M_proved h Em a0 a1 = some (r, h2, E2)) := by
  obtain ⟨n, L, w, s, K, hs, v, len, tx, B, C, M⟩ := id H
  obtain ⟨b1, b2, b3, b4, b5, b6, b7, b8, b9, b10⟩ := id B
  by_cases c1 : a0 < (1 : Int32)
  · refine Or.inr (tw0 (E := E) (ex := iae) (k := 1) H ?_ ⟨0, Em, ?_⟩ (by decide))
    · unfold X_LT_proved; rw [if_pos c1]; rfl
    · unfold M_proved M_within; rw [if_pos c1, bd_of rfl, bd_of (if_pos rfl)]; dsimp only [nm]; rw [t_1]
  by_cases c2 : (1000 : Int32) < a0
  · refine Or.inr (tw0 (E := E) (ex := iae) (k := 1) H ?_ ⟨0, Em, ?_⟩ (by decide))
    · unfold X_LT_proved; rw [if_neg c1, if_pos c2]; rfl
    · unfold M_proved M_within; rw [if_neg c1, if_pos c2, bd_of rfl, bd_of (if_pos rfl)]; dsimp only [nm]; rw [t_1]
  have M0 := RM_x (X := [0]) M (eqx_wf (k := 0) (x := (0 : Int32)) (by decide)) (by decide)
  obtain ⟨G2, E2, e1, e2, e3, e4, e5, e6⟩ := k_provedAt (E := E) b6.1 C.2.2.2.1.1 C.1 b2 a0
  obtain ⟨h2, F2, f1, f2, f3, f4, f5, f6⟩ := m_provedMany (E := Em) b6.1 M0.2.2.2.1.1 M0.1 b2 a0
  have C2 := RC_x C e2 (by decide)
  have M2 := RM_x M0 f2 (by decide)
  have hle : pvC s.1 s.2.1 n a0 ≤ (allP s.1 s.2.1 n).1 := pv_le _ _
  have hR : ∀ x : Int32, RR G2 P (wf h2 0 x) := fun x => RR_t ⟨n, L, w, s, K, hs, v, len, tx, B, C2, M2⟩ x
  -- the reference, up to its second test
  have mP : ∀ r, (bd (if a1 = (-1 : Int32) then (some (0 : Int32)) else (bd (M_within a1 (0 : Int32) (nI (pvC s.1 s.2.1 n a0) - (1 : Int32))) fun r30 => if r30 = 0 then (some (2 : Int32)) else (some (0 : Int32)))) fun x18 => nm (wf h2 0 x18) fun G22 => if G22 0 0 ≤ 0 then (if a1 = (-1 : Int32) then (some (nI (pvC s.1 s.2.1 n a0), G22, F2)) else (bd (M_provedAt G22 a1) fun r24 => some (r24, G22, F2))) else (some ((0 : Int32), G22, F2))) = r → M_proved h Em a0 a1 = r := by
    intro r hr
    rw [← hr]
    unfold M_proved
    rw [show M_within a0 (1 : Int32) (1000 : Int32) = some 1 by unfold M_within; rw [if_neg c1, if_neg c2], bd_of rfl, bd_of (if_neg (by decide))]
    dsimp only [nm]
    rw [t_0, bd3_of f1]
  have cP : ∀ r, (if a1 = (-1 : Int32) then (some (nI (pvC s.1 s.2.1 n a0), G2, E2)) else (bd0 (C_LT_requireIndex a1 (nI (pvC s.1 s.2.1 n a0))) <| bd (C_PP_namedPair G2 a1) fun r16 => some (r16, G2, E2))) = r → C_LT_proved G E a0 a1 = r := by
    intro r hr
    rw [← hr]
    unfold C_LT_proved
    rw [if_neg c1, if_neg c2, bd_of rfl, bd0_of ra1, bd3_of e1]
  by_cases hi : a1 = (-1 : Int32)
  · left
    refine ⟨nI (pvC s.1 s.2.1 n a0), G2, P, wf h2 0 0, ⟨⟨E2, cP _ ?_⟩, rfl⟩, ⟨F2, mP _ ?_⟩, wf00 h2 0, hR 0, fun _ h => h⟩
    · rw [if_pos hi]
    · rw [if_pos hi, bd_of rfl]
      dsimp only [nm]
      rw [t_0, if_pos hi]
  rcases q_idx a1 (n := pvC s.1 s.2.1 n a0) (by omega) with ⟨t, ht, rfl, s1, s2, s3⟩ | ⟨s1, s2, s3⟩
  · left
    have hk := k_named b6.1 e3 e4 e5 e6 (show t < (allP s.1 s.2.1 n).1 by omega)
    have M3 := RM_x (X := [0]) M2 (eqx_wf (k := 0) (x := (0 : Int32)) (by decide)) (by decide)
    have hm := m_named b6.1 M3.2.2.2.1.1 (show isPm (wf h2 0 0) F2 (allP s.1 s.2.1 n) from ⟨by rw [wf_ne (by decide)]; exact f4.1, fun t ht => by rw [wf_ne (by decide)]; exact f4.2 t ht⟩) f5 f6 (show t < (allP s.1 s.2.1 n).1 by omega)
    refine ⟨nI (pvV s.1 s.2.1 (allP s.1 s.2.1 n) t), G2, P, wf h2 0 0, ⟨⟨E2, cP _ ?_⟩, rfl⟩, ⟨F2, mP _ ?_⟩, wf00 h2 0, hR 0, fun _ h => h⟩
    · rw [if_neg hi, bd0_of s1, bd_of hk]
    · rw [if_neg hi, bd_of s3, bd_of (if_neg (by decide))]
      dsimp only [nm]
      rw [t_0, if_neg hi, bd_of hm]
  · right
    refine ⟨iob, G2, E2, wf h2 0 2, 2, ?_, ⟨0, F2, mP _ ?_⟩, wf00 h2 2, hR 2, by decide⟩
    · unfold X_LT_proved
      rw [if_neg c1, if_neg c2, show X_LT_requireArgument G E (1 : Int32) = none from rfl, ra1, bd3_of e1, if_neg hi, s2]
      rfl
    · rw [if_neg hi, bd_of s3, bd_of (if_pos rfl)]
      dsimp only [nm]
      rw [t_2]
theorem p_strength (hq : DZ) {G h : Nat → Nat → Int32} {P : Nat → Option PRec} (H : RR G P h) (E : Nat → Nat → Int64) (D Dm : Nat → Nat → UInt64) (a0 a1 : Int32) : okO P (fun r G2 P2 => (∃ D2, C_LT_strength G D a0 a1 = some (r, G2, D2)) ∧ P2 = P) (fun r h2 => ∃ D2, M_strength h Dm a0 a1 = some (r, h2, D2)) ∨ twO [(iob, 1), (iae, 2)] P (X_LT_strength G E a0 a1) (fun h2 => ∃ r D2, M_strength h Dm a0 a1 = some (r, h2, D2)) := by
  obtain ⟨n, L, w, s, K, hs, v, len, tx, B, C, M⟩ := id H
  obtain ⟨b1, b2, b3, b4, b5, b6, b7, b8, b9, b10⟩ := id B
  rcases q_idx a0 (n := n) (by omega) with ⟨f, hf, rfl, s1, s2, s3⟩ | ⟨s1, s2, s3⟩
  case inr =>
    refine Or.inr (tw0 (E := E) (ex := iob) (k := 1) H ?_ ⟨FP.dconst0, Dm, ?_⟩ (by decide))
    · unfold X_LT_strength; rw [C.1, s2]; rfl
    · unfold M_strength; rw [bd_of (m_sam M.1 s3 (by decide)), bd_of (if_pos rfl)]; dsimp only [nm]; rw [t_1]
  by_cases c1 : a1 < 0
  · refine Or.inr (tw0 (E := E) (ex := iae) (k := 2) H ?_ ⟨FP.dconst0, Dm, ?_⟩ (by decide))
    · unfold X_LT_strength; rw [C.1, s1, s2, if_pos c1]; rfl
    · unfold M_strength; rw [bd_of (m_sam M.1 s3 (by decide)), if_neg (by decide)]; unfold M_within; rw [if_pos c1, bd_of rfl, bd_of (if_pos rfl)]; dsimp only [nm]; rw [t_2]
  by_cases c2 : (60 : Int32) < a1
  · refine Or.inr (tw0 (E := E) (ex := iae) (k := 2) H ?_ ⟨FP.dconst0, Dm, ?_⟩ (by decide))
    · unfold X_LT_strength; rw [C.1, s1, s2, if_neg c1, if_pos c2]; rfl
    · unfold M_strength; rw [bd_of (m_sam M.1 s3 (by decide)), if_neg (by decide)]; unfold M_within; rw [if_neg c1, if_pos c2, bd_of rfl, bd_of (if_pos rfl)]; dsimp only [nm]; rw [t_2]
  left
  obtain ⟨k, i1, i2, rfl⟩ := q_rng (lo := 0) (hi := 60) (by decide) (by decide) c1 c2
  have M0 := RM_x (X := [0]) M (eqx_wf (k := 0) (x := (0 : Int32)) (by decide)) (by decide)
  obtain ⟨G2, D2, e1, e2, e3, e4, e5, e6⟩ := k_fit (D := D) b6.1 C.2.2.2.1.1 C.1 b2 i2
  obtain ⟨h2, F2, f1, f2, f3, f4, f5, f6⟩ := m_layStrengths hq (D := Dm) b6.1 M0.2.2.2.1.1 M0.1 b2 i2
  refine ⟨stV (mtN s.1 s.2.1) (wnV s.1 s.2.1 n) n k f, G2, P, h2, ⟨⟨D2, ?_⟩, rfl⟩, ⟨F2, ?_⟩, by rw [f2 0 (by decide), wf00], ⟨n, L, w, s, K, hs, v, len, tx, B, RC_x C e2 (by decide), RM_x M0 f2 (by decide)⟩, fun _ h => h⟩
  · unfold C_LT_strength
    rw [C.1, bd0_of s1, if_neg c1, if_neg c2, bd_of rfl, bd0_of ra1, bd2_of e1, ri_k (show f < 8 by omega) (by decide), nI_clamp (by omega), e6 f hf]
  · unfold M_strength
    rw [bd_of (m_sam M.1 s3 (by decide)), if_neg (by decide)]
    unfold M_within
    rw [if_neg c1, if_neg c2, bd_of rfl, bd_of (if_neg (by decide))]
    dsimp only [nm]
    rw [t_0, bd2_of f1, ri_k (show f < 8 by omega) (by decide), nI_clamp (by omega), f6 f hf]
theorem p_misfit (hq : DZ) {G h : Nat → Nat → Int32} {P : Nat → Option PRec} (H : RR G P h) (E : Nat → Nat → Int64) (D Dm : Nat → Nat → UInt64) (a0 : Int32) : okO P (fun r G2 P2 => (∃ D2, C_LT_misfit G D a0 = some (r, G2, D2)) ∧ P2 = P) (fun r h2 => ∃ D2, M_misfit h Dm a0 = some (r, h2, D2)) ∨ twO [(iae, 1)] P (X_LT_misfit G E a0) (fun h2 => ∃ r D2, M_misfit h Dm a0 = some (r, h2, D2)) := by
  obtain ⟨n, L, w, s, K, hs, v, len, tx, B, C, M⟩ := id H
  obtain ⟨b1, b2, b3, b4, b5, b6, b7, b8, b9, b10⟩ := id B
  by_cases c1 : a0 < 0
  · refine Or.inr (tw0 (E := E) (ex := iae) (k := 1) H ?_ ⟨FP.dconst0, Dm, ?_⟩ (by decide))
    · unfold X_LT_misfit; rw [if_pos c1]; rfl
    · unfold M_misfit M_within; rw [if_pos c1, bd_of rfl, bd_of (if_pos rfl)]; dsimp only [nm]; rw [t_1]
  by_cases c2 : (60 : Int32) < a0
  · refine Or.inr (tw0 (E := E) (ex := iae) (k := 1) H ?_ ⟨FP.dconst0, Dm, ?_⟩ (by decide))
    · unfold X_LT_misfit; rw [if_neg c1, if_pos c2]; rfl
    · unfold M_misfit M_within; rw [if_neg c1, if_pos c2, bd_of rfl, bd_of (if_pos rfl)]; dsimp only [nm]; rw [t_1]
  left
  obtain ⟨k, i1, i2, rfl⟩ := q_rng (lo := 0) (hi := 60) (by decide) (by decide) c1 c2
  have M0 := RM_x (X := [0]) M (eqx_wf (k := 0) (x := (0 : Int32)) (by decide)) (by decide)
  obtain ⟨G2, D2, e1, e2, e3, e4, e5, e6⟩ := k_fit (D := D) b6.1 C.2.2.2.1.1 C.1 b2 i2
  obtain ⟨h2, F2, f1, f2, f3, f4, f5, f6⟩ := m_layStrengths hq (D := Dm) b6.1 M0.2.2.2.1.1 M0.1 b2 i2
  have M2 := RM_x M0 f2 (by decide)
  refine ⟨msV (mtN s.1 s.2.1) (wnV s.1 s.2.1 n) (stV (mtN s.1 s.2.1) (wnV s.1 s.2.1 n) n k) n, G2, P, h2, ⟨⟨D2, ?_⟩, rfl⟩, ⟨F2, ?_⟩, by rw [f2 0 (by decide), wf00], ⟨n, L, w, s, K, hs, v, len, tx, B, RC_x C e2 (by decide), M2⟩, fun _ h => h⟩
  · unfold C_LT_misfit
    rw [if_neg c1, if_neg c2, bd_of rfl, bd0_of ra1, bd2_of e1, bd_of (k_squares e3 b2 e4 e5 e6)]
  · unfold M_misfit M_within
    rw [if_neg c1, if_neg c2, bd_of rfl, bd_of (if_neg (by decide))]
    dsimp only [nm]
    rw [t_0, bd2_of f1, bd_of (m_squares hq M2.1 b2 f4 f5 f6)]
