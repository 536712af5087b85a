/-! CALLS that read: order, without, result -/
theorem p_order {G h : Nat → Nat → Int32} {P : Nat → Option PRec} (H : RR G P h) (E : Nat → Nat → Int64) (a0 : Int32) : okO P (fun r G2 P2 => C_LT_order G a0 = some (r, G2) ∧ P2 = P) (fun r h2 => M_order h a0 = some (r, h2)) ∨ twO [(iob, 1)] P (X_LT_order G E a0) (fun h2 => ∃ r, M_order h a0 = some (r, h2)) := by
  obtain ⟨n, L, w, s, K, hs, v, len, tx, B, C, M⟩ := id H
  obtain ⟨b1, b2, b3, b4, b5, b6, b7, b8, b9, b10⟩ := id B
  rcases q_idx a0 (n := n) (by omega) with ⟨f, hf, rfl, s1, s2, s3⟩ | ⟨s1, s2, s3⟩
  case inr =>
    refine Or.inr (tw0 (E := E) (ex := iob) (k := 1) H ?_ ⟨0, ?_⟩ (by decide))
    · unfold X_LT_order; rw [C.1, s2]; rfl
    · unfold M_order; rw [bd_of (m_sam M.1 s3 (by decide)), bd_of (if_pos rfl)]; dsimp only [nm]; rw [t_1]
  left
  have M0 := RM_x (X := [0]) M (eqx_wf (k := 0) (x := (0 : Int32)) (by decide)) (by decide)
  obtain ⟨G2, e1, e2, e3⟩ := k_weighZ b6.1 C.2.2.2.1.1 C.1 b2 C.2.2.1 (-1 : Int32)
  have C2 := RC_x C e2 (by decide)
  obtain ⟨G3, f1, f2, f3, f4⟩ := k_findO b6.1.1 (wZ_le b5 (-1 : Int32)) e3 b2
  obtain ⟨h3, h4, g1, g2, g3, g4, g5, g6⟩ := m_lay b6.1 M0.2.2.2.1.1 (wZ_n M0.2.2.1) (wZ_le b5 (-1 : Int32)) M0.1 b2 (by omega)
  have g41 : h4 1 0 = nI n := by rw [g3 1 (by decide)]; exact M0.1
  refine ⟨nI (oS (mp (wZ w (-1 : Int32)) s.1 s.2.1) (lT (mp (wZ w (-1 : Int32)) s.1 s.2.1) n) n f), G3, P, h4, ⟨?_, rfl⟩, ?_, by rw [g3 0 (by decide), wf00], ⟨n, L, w, s, K, hs, v, len, tx, B, RC_x C2 f2 (by decide), RM_x M0 g3 (by decide)⟩, fun _ h => h⟩
  · unfold C_LT_order C_SD_sampleAt
    rw [C.1, bd0_of s1, bd_of e1, bd_of f1, bd_of (k_sampleAt b2 f4 hf), bd2_of rfl]
  · unfold M_order
    rw [bd_of (m_sam M.1 s3 (by decide)), bd_of (if_neg (by decide))]
    dsimp only [nm]
    rw [t_0, bd_of g1, bd_of g2, bd_of (m_at b6.1.1 (wZ_le b5 (-1 : Int32)) g4 g41 b2 g5 g6 hf)]
theorem wZ_l {h : Nat → Nat → Int32} {w : Nat → Nat} (H : isW h 3 w) {l : Nat} (hl : l < 8) : isW (wr h 3 (nI l) (0 : Int32)) 3 (wZ w (nI l)) := by
  intro i hi
  unfold wZ
  rw [wr_ap, if_pos rfl, nI_clamp (by omega)]
  by_cases c : i = l
  · rw [if_pos c, if_pos (by rw [c])]; rfl
  · rw [if_neg c, if_neg (fun u => c ((nE (by omega) (by omega)).mp u))]; exact H i hi
theorem p_without {G h : Nat → Nat → Int32} {P : Nat → Option PRec} (H : RR G P h) (E : Nat → Nat → Int64) (a0 a1 a2 : Int32) : okO P (fun r G2 P2 => C_LT_without G a0 a1 a2 = some (r, G2) ∧ P2 = P) (fun r h2 => M_without h a0 a1 a2 = some (r, h2)) ∨ twO [(iob, 1), (iae, 2)] P (X_LT_without G E a0 a1 a2) (fun h2 => ∃ r, M_without h a0 a1 a2 = some (r, h2)) := by
  obtain ⟨n, L, w, s, K, hs, v, len, tx, B, C, M⟩ := id H
  obtain ⟨b1, b2, b3, b4, b5, b6, b7, b8, b9, b10⟩ := id B
  rcases q_idx a0 (n := L) (by omega) with ⟨l, hl, rfl, r1', r2, r3⟩ | ⟨r1', r2, r3⟩
  case inr =>
    refine Or.inr (tw0 (E := E) (ex := iob) (k := 1) H ?_ ⟨0, ?_⟩ (by decide))
    · unfold X_LT_without; rw [C.2.1, r2]; rfl
    · unfold M_without; rw [bd_of (m_lis M.2.1 r3 (by decide)), bd_of (if_pos rfl)]; dsimp only [nm]; rw [t_1]
  have hl8 : l < 8 := by omega
  -- the weights are put back
  have back : ∀ h3 : Nat → Nat → Int32, eqx [29, 30, 31] (wr (wf h 0 0) 3 (nI l) (0 : Int32)) h3 → RM n L w s K hs len tx (wr h3 3 (nI l) (nI (w l))) ∧ (wr h3 3 (nI l) (nI (w l))) 0 0 = 0 := by
    intro h3 hx
    have hk : ∀ k, k < 29 → (wr h3 3 (nI l) (nI (w l))) k = (wf h 0 (0 : Int32)) k := by
      intro k hk
      funext i
      rw [wr_ap]
      by_cases c : k = 3
      · rw [if_pos c, hx 3 (by decide), wr_ap, if_pos rfl, nI_clamp (by omega), c]
        by_cases c2 : i = l
        · rw [if_pos c2, c2, wf_ne (by decide)]; exact (M.2.2.1 l hl8).symm
        · rw [if_neg c2, if_neg c2]
      · rw [if_neg c, hx k (by simp; omega), wr_ne c]
    refine ⟨?_, by rw [hk 0 (by decide), wf00]⟩
    have M0 := RM_x (X := [0]) M (eqx_wf (k := 0) (x := (0 : Int32)) (by decide)) (by decide)
    obtain ⟨a, b, c, d, e, f, g, i⟩ := M0
    exact ⟨by rw [hk 1 (by decide)]; exact a, by rw [hk 2 (by decide)]; exact b, fun t ht => by rw [hk 3 (by decide)]; exact c t ht, mCu_x d (fun k h1 h2 => hk k (by omega)), by rw [hk 13 (by decide)]; exact e, fun k hk' => mRo_x (f k hk') (fun y h1 h2 => hk y (by omega)), by rw [hk 20 (by decide)]; exact g, fun t ht => by rw [hk 21 (by decide)]; exact i t ht⟩
  have M1 : isM (wr (wf h 0 0) 3 (nI l) (0 : Int32)) s.1 s.2.1 := ⟨by rw [wr_ne (by decide), wf_ne (by decide)]; exact M.2.2.2.1.1.1, fun c hc => by rw [wr_ne (by decide), wf_ne (by decide), wr_ne (by decide), wf_ne (by decide), wr_ne (by decide), wf_ne (by decide), wr_ne (by decide), wf_ne (by decide)]; exact M.2.2.2.1.1.2 c hc⟩
  have W1 : isW (wr (wf h 0 0) 3 (nI l) (0 : Int32)) 3 (wZ w (nI l)) := wZ_l (fun i hi => by rw [wf_ne (by decide)]; exact M.2.2.1 i hi) hl8
  have N1 : (wr (wf h 0 0) 3 (nI l) (0 : Int32)) 1 0 = nI n := by rw [wr_ne (by decide), wf_ne (by decide)]; exact M.1
  have x3 : (wf h 0 (0 : Int32)) 3 (nI l).toNatClampNeg = nI (w l) := by rw [nI_clamp (by omega), wf_ne (by decide)]; exact M.2.2.1 l hl8
  obtain ⟨G2, e1, e2, e3⟩ := k_weighZ b6.1 C.2.2.2.1.1 C.1 b2 C.2.2.1 (nI l)
  have C2 := RC_x C e2 (by decide)
  by_cases hs1 : a1 = (-1 : Int32)
  · by_cases c1 : a2 < 0
    · refine Or.inr (tw0 (E := E) (ex := iae) (k := 2) H ?_ ⟨0, ?_⟩ (by decide))
      · unfold X_LT_without; rw [C.2.1, r1', r2, if_pos hs1, if_pos c1]; rfl
      · unfold M_without; rw [bd_of (m_lis M.2.1 r3 (by decide)), if_neg (by decide), if_pos hs1]; unfold M_within; rw [if_pos c1, bd_of rfl, bd_of (if_pos rfl)]; dsimp only [nm]; rw [t_2]
    by_cases c2 : (5 : Int32) < a2
    · refine Or.inr (tw0 (E := E) (ex := iae) (k := 2) H ?_ ⟨0, ?_⟩ (by decide))
      · unfold X_LT_without; rw [C.2.1, r1', r2, if_pos hs1, if_neg c1, if_pos c2]; rfl
      · unfold M_without; rw [bd_of (m_lis M.2.1 r3 (by decide)), if_neg (by decide), if_pos hs1]; unfold M_within; rw [if_neg c1, if_pos c2, bd_of rfl, bd_of (if_pos rfl)]; dsimp only [nm]; rw [t_2]
    left
    obtain ⟨j, i1, i2, rfl⟩ := q_rng (lo := 0) (hi := 5) (by decide) (by decide) c1 c2
    obtain ⟨G3, f1, f2, f3⟩ := k_number b6.1 C2.2.2.2.1.1 (wZ_le b5 (nI l)) e3 b2 (by omega) (show j < 6 by omega)
    obtain ⟨h3, g1, g2⟩ := m_summaryNow b6.1 M1 W1 (wZ_le b5 (nI l)) N1 b2 (by omega) (show j < 6 by omega)
    obtain ⟨k1, k2⟩ := back h3 g2
    refine ⟨suN n (wZ w (nI l)) s.1 s.2.1 j, G3, P, wr h3 3 (nI l) (nI (w l)), ⟨?_, rfl⟩, ?_, k2, ⟨n, L, w, s, K, hs, v, len, tx, B, RC_x C2 f2 (by decide), k1⟩, fun _ h => h⟩
    · unfold C_LT_without
      rw [C.2.1, bd0_of r1', bd0_of (if_pos hs1), if_neg c1, if_neg c2, bd_of rfl, bd0_of ra1, bd_of e1, if_pos hs1, bd2_of f1]
    · unfold M_without
      rw [bd_of (m_lis M.2.1 r3 (by decide)), if_neg (by decide), if_pos hs1]
      unfold M_within
      rw [if_neg c1, if_neg c2, bd_of rfl, bd_of (if_neg (by decide))]
      dsimp only [nm]
      rw [t_0, ri_k hl8 (by decide), ri_k hl8 (by decide), x3, if_pos hs1, bd2_of (show (bd2 (M_summaryNow (wr (wf h 0 0) 3 (nI l) (0 : Int32)) (nI j)) fun r32 G33 => some (r32, G33)) = _ by rw [bd2_of g1]), ri_k hl8 (by decide)]
  · rcases q_idx a1 (n := n) (by omega) with ⟨f, hf, rfl, s1, s2, s3⟩ | ⟨s1, s2, s3⟩
    case inr =>
      refine Or.inr (tw0 (E := E) (ex := iob) (k := 1) H ?_ ⟨0, ?_⟩ (by decide))
      · unfold X_LT_without; rw [C.2.1, C.1, r1', r2, if_neg hs1, s2]; rfl
      · unfold M_without; rw [bd_of (m_lis M.2.1 r3 (by decide)), if_neg (by decide), if_neg hs1, bd_of (m_sam M.1 s3 (by decide)), bd_of (if_pos rfl)]; dsimp only [nm]; rw [t_1]
    by_cases c1 : a2 < 0
    · refine Or.inr (tw0 (E := E) (ex := iae) (k := 2) H ?_ ⟨0, ?_⟩ (by decide))
      · unfold X_LT_without; rw [C.2.1, C.1, r1', r2, if_neg hs1, s2, s1, if_pos c1]; rfl
      · unfold M_without; rw [bd_of (m_lis M.2.1 r3 (by decide)), if_neg (by decide), if_neg hs1, bd_of (m_sam M.1 s3 (by decide)), if_neg (by decide)]; unfold M_within; rw [if_pos c1, bd_of rfl, bd_of (if_pos rfl)]; dsimp only [nm]; rw [t_2]
    by_cases c2 : (5 : Int32) < a2
    · refine Or.inr (tw0 (E := E) (ex := iae) (k := 2) H ?_ ⟨0, ?_⟩ (by decide))
      · unfold X_LT_without; rw [C.2.1, C.1, r1', r2, if_neg hs1, s2, s1, if_neg c1, if_pos c2]; rfl
      · unfold M_without; rw [bd_of (m_lis M.2.1 r3 (by decide)), if_neg (by decide), if_neg hs1, bd_of (m_sam M.1 s3 (by decide)), if_neg (by decide)]; unfold M_within; rw [if_neg c1, if_pos c2, bd_of rfl, bd_of (if_pos rfl)]; dsimp only [nm]; rw [t_2]
    left
    obtain ⟨j, i1, i2, rfl⟩ := q_rng (lo := 0) (hi := 5) (by decide) (by decide) c1 c2
    obtain ⟨G3, f1, f2, f3⟩ := k_property b6.1 C2.2.2.2.1.1 (wZ_le b5 (nI l)) e3 b2 hf (show j < 6 by omega)
    obtain ⟨h3, g1, g2⟩ := m_sampleNow b6.1 M1 W1 (wZ_le b5 (nI l)) N1 b2 hf (show j < 6 by omega)
    obtain ⟨k1, k2⟩ := back h3 g2
    refine ⟨svN n (wZ w (nI l)) s.1 s.2.1 f j, G3, P, wr h3 3 (nI l) (nI (w l)), ⟨?_, rfl⟩, ?_, k2, ⟨n, L, w, s, K, hs, v, len, tx, B, RC_x C2 f2 (by decide), k1⟩, fun _ h => h⟩
    · unfold C_LT_without
      rw [C.2.1, C.1, bd0_of r1', bd0_of (show (if nI f = (-1 : Int32) then some () else bd0 (C_LT_requireIndex (nI f) (nI n)) (some ())) = some () by rw [if_neg hs1, bd0_of s1]), if_neg c1, if_neg c2, bd_of rfl, bd0_of ra1, bd_of e1, if_neg hs1, bd2_of f1]
    · unfold M_without
      rw [bd_of (m_lis M.2.1 r3 (by decide)), if_neg (by decide), if_neg hs1, bd_of (m_sam M.1 s3 (by decide)), if_neg (by decide)]
      unfold M_within
      rw [if_neg c1, if_neg c2, bd_of rfl, bd_of (if_neg (by decide))]
      dsimp only [nm]
      rw [t_0, ri_k hl8 (by decide), ri_k hl8 (by decide), x3, if_neg hs1, bd2_of (show (bd2 (M_sampleNow (wr (wf h 0 0) 3 (nI l) (0 : Int32)) (nI f) (nI j)) fun r28 G29 => some (r28, G29)) = _ by rw [bd2_of g1]), ri_k hl8 (by decide)]
theorem fb_sm0 {f : Nat → Nat} : ∀ {n : Nat}, (∀ i, i < n → f i = 0) → fb_sm f n = 0
  | 0, _ => rfl
  | n + 1, h => by
    rw [fb_sm, fb_sm0 (fun i hi => h i (by omega)), h n (by omega)]
theorem pfN_self (m : Nat) (cp : Nat → Nat → Nat) (L i : Nat) : pfN m cp L i i = 0 := by
  unfold pfN
  refine fb_sm0 (fun l _ => ?_)
  unfold pfB
  rw [if_neg]
  simp
/-- what result answers -/
def rsV (w : Nat → Nat) (m : Nat) (cp : Nat → Nat → Nat) (L i j what : Nat) : Int32 := if what = 0 then nI (wiA m cp i j) else if what = 1 then nI (tiA m cp i j) else if what = 2 then mgn w m cp i j else nI (pfN m cp L i j)
theorem m_result {n L : Nat} {w : Nat → Nat} {s : SN} {h : Nat → Nat → Int32} (B : cB s.1 s.2.1) (M : isM h s.1 s.2.1) (W : isW h 3 w) (h2 : h 2 0 = nI L) (hL : L ≤ 8) {i j what : Nat} (hi : i < 8) (hj : j < 8) (hw : what ≤ 3) : M_resultNow h (nI i) (nI j) (nI what) = some (rsV w s.1 s.2.1 L i j what) := by
  have hc : what = 0 ∨ what = 1 ∨ what = 2 ∨ what = 3 := by omega
  unfold M_resultNow
  by_cases c : i = j
  · subst c
    rw [if_pos rfl]
    rcases hc with u | u | u | u <;> subst u
    · show _ = some (nI (wiA s.1 s.2.1 i i)); rw [wiA_self B]; rfl
    · show _ = some (nI (tiA s.1 s.2.1 i i)); rw [tiA_self B]; rfl
    · show _ = some (mgn w s.1 s.2.1 i i); rw [mgn_self]
    · show _ = some (nI (pfN s.1 s.2.1 L i i)); rw [pfN_self]; rfl
  · rw [if_neg (fun u => c ((nE (by omega) (by omega)).mp u)), bd_of (m_wins M B hi hj), bd_of (m_tiesOf M B hi hj), bd_of (m_margin M B W hi hj), bd_of (m_preferring B M h2 hL hi hj)]
    rcases hc with u | u | u | u <;> subst u <;> rfl
theorem p_result {G h : Nat → Nat → Int32} {P : Nat → Option PRec} (H : RR G P h) (E : Nat → Nat → Int64) (a0 a1 a2 : Int32) : okO P (fun r G2 P2 => C_LT_result G a0 a1 a2 = some (r, G2) ∧ P2 = P) (fun r h2 => M_result h a0 a1 a2 = some (r, h2)) ∨ twO [(iob, 1), (iae, 2)] P (X_LT_result G E a0 a1 a2) (fun h2 => ∃ r, M_result h a0 a1 a2 = some (r, h2)) := by
  obtain ⟨n, L, w, s, K, hs, v, len, tx, B, C, M⟩ := id H
  obtain ⟨b1, b2, b3, b4, b5, b6, b7, b8, b9, b10⟩ := id B
  rcases q_idx a0 (n := n) (by omega) with ⟨f, hf, rfl, s1, s2, s3⟩ | ⟨s1, s2, s3⟩
  case inr =>
    refine Or.inr (tw0 (E := E) (ex := iob) (k := 1) H ?_ ⟨0, ?_⟩ (by decide))
    · unfold X_LT_result; rw [C.1, s2]; rfl
    · unfold M_result; rw [bd_of (m_sam M.1 s3 (by decide)), bd_of (if_pos rfl)]; dsimp only [nm]; rw [t_1]
  rcases q_idx a1 (n := n) (by omega) with ⟨g, hg, rfl, u1, u2, u3⟩ | ⟨u1, u2, u3⟩
  case inr =>
    refine Or.inr (tw0 (E := E) (ex := iob) (k := 1) H ?_ ⟨0, ?_⟩ (by decide))
    · unfold X_LT_result; rw [C.1, s2, s1, u2]; rfl
    · unfold M_result; rw [bd_of (m_sam M.1 s3 (by decide)), if_neg (by decide), bd_of (m_sam M.1 u3 (by decide)), bd_of (if_pos rfl)]; dsimp only [nm]; rw [t_1]
  by_cases c1 : a2 < 0
  · refine Or.inr (tw0 (E := E) (ex := iae) (k := 2) H ?_ ⟨0, ?_⟩ (by decide))
    · unfold X_LT_result; rw [C.1, s1, s2, u2, u1, if_pos c1]; rfl
    · unfold M_result; rw [bd_of (m_sam M.1 s3 (by decide)), if_neg (by decide), bd_of (m_sam M.1 u3 (by decide)), if_neg (by decide)]; unfold M_within; rw [if_pos c1, bd_of rfl, bd_of (if_pos rfl)]; dsimp only [nm]; rw [t_2]
  by_cases c2 : (3 : Int32) < a2
  · refine Or.inr (tw0 (E := E) (ex := iae) (k := 2) H ?_ ⟨0, ?_⟩ (by decide))
    · unfold X_LT_result; rw [C.1, s1, s2, u2, u1, if_neg c1, if_pos c2]; rfl
    · unfold M_result; rw [bd_of (m_sam M.1 s3 (by decide)), if_neg (by decide), bd_of (m_sam M.1 u3 (by decide)), if_neg (by decide)]; unfold M_within; rw [if_neg c1, if_pos c2, bd_of rfl, bd_of (if_pos rfl)]; dsimp only [nm]; rw [t_2]
  left
  obtain ⟨j, i1, i2, rfl⟩ := q_rng (lo := 0) (hi := 3) (by decide) (by decide) c1 c2
  have M0 := RM_x (X := [0]) M (eqx_wf (k := 0) (x := (0 : Int32)) (by decide)) (by decide)
  have f8 : f < 8 := by omega
  have g8 : g < 8 := by omega
  have hM : M_result h (nI f) (nI g) (nI j) = some (rsV (wZ w (-1 : Int32)) s.1 s.2.1 L f g j, wf h 0 0) := by
    unfold M_result
    rw [bd_of (m_sam M.1 s3 (by decide)), if_neg (by decide), bd_of (m_sam M.1 u3 (by decide)), if_neg (by decide)]
    unfold M_within
    rw [if_neg c1, if_neg c2, bd_of rfl, bd_of (if_neg (by decide))]
    dsimp only [nm]
    rw [t_0, bd_of (m_result (n := n) (s := s) b6.1 M0.2.2.2.1.1 (wZ_n M0.2.2.1) M0.2.1 b4 f8 g8 i2)]
  have pre : ∀ x : Option (Int32 × (Nat → Nat → Int32)), x = (if nI j = (3 : Int32) then (bd2 (C_LT_preferring G (nI f) (nI g)) fun r29 G30 => some (r29, G30)) else (if nI j = (2 : Int32) then (bd (C_LT_weigh G (-1 : Int32)) fun G22 => bd (C_LE_lead_22 G22 (nI f) (nI g)) fun r25 => some (r25, G22)) else (bd (C_TA_take G) fun G12 => if nI j = 0 then (bd (C_TA_winsOf G12 (nI f) (nI g)) fun r18 => some (r18, G12)) else (bd (C_TA_tiesOf G12 (nI f) (nI g)) fun r15 => some (r15, G12))))) → C_LT_result G (nI f) (nI g) (nI j) = x := by
    intro x hx
    rw [hx]
    unfold C_LT_result
    rw [C.1, bd0_of s1, bd0_of u1, if_neg c1, if_neg c2, bd_of rfl, bd0_of ra1]
  have hc : j = 3 ∨ j = 2 ∨ j = 0 ∨ j = 1 := by omega
  rcases hc with u | u | u | u <;> subst u
  · obtain ⟨G2, e1, e2⟩ := k_preferring b6.1 C.2.2.2.1.1 C.2.1 b4 f8 g8
    refine ⟨rsV (wZ w (-1 : Int32)) s.1 s.2.1 L f g 3, G2, P, wf h 0 0, ⟨pre _ ?_, rfl⟩, hM, wf00 h 0, RR_G H e2 (by decide) (eqx_wf (L := [0]) (by decide)) (by decide), fun _ h => h⟩
    rw [if_pos (show nI 3 = (3 : Int32) from rfl), bd2_of e1]
    rfl
  · obtain ⟨G2, e1, e2, e3⟩ := k_weighZ b6.1 C.2.2.2.1.1 C.1 b2 C.2.2.1 (-1 : Int32)
    refine ⟨rsV (wZ w (-1 : Int32)) s.1 s.2.1 L f g 2, G2, P, wf h 0 0, ⟨pre _ ?_, rfl⟩, hM, wf00 h 0, RR_G H e2 (by decide) (eqx_wf (L := [0]) (by decide)) (by decide), fun _ h => h⟩
    rw [if_neg (by decide), if_pos (show nI 2 = (2 : Int32) from rfl), bd_of e1, bd_of (k_cellI_22 f8 g8).2, e3.1.2.2.1 f g f8 g8]
    rfl
  · obtain ⟨G2, e1, e2, e3⟩ := k_take b6.1 C.2.2.2.1.1
    refine ⟨rsV (wZ w (-1 : Int32)) s.1 s.2.1 L f g 0, G2, P, wf h 0 0, ⟨pre _ ?_, rfl⟩, hM, wf00 h 0, RR_G H e2 (by decide) (eqx_wf (L := [0]) (by decide)) (by decide), fun _ h => h⟩
    rw [if_neg (by decide), if_neg (by decide), bd_of e1, if_pos (show nI 0 = (0 : Int32) from rfl), bd_of (k_winsOf (fun i j hi hj => (e3 i j hi hj).1) f8 g8)]
    rfl
  · obtain ⟨G2, e1, e2, e3⟩ := k_take b6.1 C.2.2.2.1.1
    refine ⟨rsV (wZ w (-1 : Int32)) s.1 s.2.1 L f g 1, G2, P, wf h 0 0, ⟨pre _ ?_, rfl⟩, hM, wf00 h 0, RR_G H e2 (by decide) (eqx_wf (L := [0]) (by decide)) (by decide), fun _ h => h⟩
    rw [if_neg (by decide), if_neg (by decide), bd_of e1, if_neg (by decide), bd_of (k_tiesOf (fun i j hi hj => (e3 i j hi hj).2) f8 g8)]
    rfl
