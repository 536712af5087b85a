/-! CALLS: plan -/
theorem p_plan {G h : Nat → Nat → Int32} {P : Nat → Option PRec} (H : RR G P h) (E Ec : Nat → Nat → Int64) (a0 a1 a2 : Int32) : (∃ r G2 N G3 h2 E2, C_LT_plan G a0 a1 a2 = some (r, G2, N, G3) ∧ M_plan h E a0 a1 a2 = some (r, h2, E2) ∧ h2 0 0 = 0 ∧ ∀ q a : Nat, RR G2 (va_up P 0 (some (q, a, G3 0 0, N, G3 1))) h2) ∨ twO [(iob, 1), (iae, 2)] P (X_LT_plan G Ec P a0 a1 a2) (fun h2 => ∃ r E2, M_plan h E a0 a1 a2 = some (r, h2, E2)) := by
  obtain ⟨n, L, w, s, K, hs, v, len, tx, B, C, M⟩ := id H
  obtain ⟨b1, b2, b3, b4, b5, b6, b7, b8, b9, b10⟩ := id B
  obtain ⟨d1, d2, d3⟩ := C.2.2.2.1
  obtain ⟨m1, m2, m3, m4, m5⟩ := M.2.2.2.1
  rcases q_idx a0 (n := L) (by omega) with ⟨l, hl, rfl, r1, r2, r3⟩ | ⟨r1, r2, r3⟩
  case inr =>
    refine Or.inr (tw0 (E := Ec) (ex := iob) (k := 1) H ?_ ⟨0, E, ?_⟩ (by decide))
    · unfold X_LT_plan; rw [C.2.1, r2]; rfl
    · unfold M_plan; rw [bd_of (m_lis M.2.1 r3 (by decide)), bd_of (if_pos rfl)]; dsimp only [nm]; rw [t_1]
  by_cases hr : a1 = 1 ∨ a1 = 2
  case neg =>
    have n1 : ¬ a1 = 1 := fun u => hr (Or.inl u)
    have n2 : ¬ a1 = 2 := fun u => hr (Or.inr u)
    refine Or.inr (tw0 (E := Ec) (ex := iae) (k := 2) H ?_ ⟨0, E, ?_⟩ (by decide))
    · unfold X_LT_plan; rw [C.2.1, r2, r1, if_neg n1, if_neg n2]; rfl
    · have hw : M_within a1 (1 : Int32) (2 : Int32) = some 0 := by
        unfold M_within
        by_cases c1 : a1 < (1 : Int32)
        · rw [if_pos c1]
        · by_cases c2 : (2 : Int32) < a1
          · rw [if_neg c1, if_pos c2]
          · exfalso
            obtain ⟨j, i1, i2, rfl⟩ := q_rng (lo := 1) (hi := 2) (by decide) (by decide) c1 c2
            have : j = 1 ∨ j = 2 := by omega
            rcases this with u | u
            · exact n1 (by rw [u]; rfl)
            · exact n2 (by rw [u]; rfl)
      unfold M_plan; rw [bd_of (m_lis M.2.1 r3 (by decide)), if_neg (by decide), bd_of hw, bd_of (if_pos rfl)]; dsimp only [nm]; rw [t_2]
  obtain ⟨r, hr1, hr2, rfl⟩ : ∃ r, 1 ≤ r ∧ r ≤ 2 ∧ a1 = nI r := by
    rcases hr with u | u
    · exact ⟨1, by decide, by decide, u⟩
    · exact ⟨2, by decide, by decide, u⟩
  have hw : M_within (nI r) (1 : Int32) (2 : Int32) = some 1 := by
    unfold M_within
    rw [show (1 : Int32) = nI 1 from rfl, show (2 : Int32) = nI 2 from rfl, if_neg (nI_nlt hr1 (by omega)), if_neg (nI_nlt hr2 (by omega))]
  by_cases hsd : a2 < 0
  · refine Or.inr (tw0 (E := Ec) (ex := iae) (k := 2) H ?_ ⟨0, E, ?_⟩ (by decide))
    · unfold X_LT_plan
      rw [C.2.1, r2, r1, if_pos hsd]
      rcases hr with u | u
      · rw [if_pos u]; rfl
      · rw [u]; rfl
    · unfold M_plan; rw [bd_of (m_lis M.2.1 r3 (by decide)), if_neg (by decide), bd_of hw, if_neg (by decide), bd_of (if_pos hsd)]; dsimp only [nm]; rw [t_2]
  left
  obtain ⟨S, hS, rfl⟩ := nI_of hsd
  obtain ⟨g, i1, i2, i3, i4⟩ := k_init (l := l) b2 b1 hr1 hr2 hS
  obtain ⟨e1, hT56⟩ := trN_I n (by omega) r (by omega)
  have hT1 : 1 ≤ trN n r := by
    have := trN_pos n (by omega) b1
    unfold trN
    exact Nat.le_trans hr1 (Nat.le_trans (Nat.le_of_eq (Nat.mul_one r).symm) (Nat.mul_le_mul_left r this))
  obtain ⟨g0, hg0⟩ : ∃ g0, g0 = wf (wf (wf h 0 (0 : Int32)) 9 (nI l)) 11 (0 : Int32) := ⟨_, rfl⟩
  have gx : eqx [0, 9, 11] h g0 := by rw [hg0]; exact eqx_tr (eqx_tr (eqx_wf (by decide)) (eqx_wf (by decide))) (eqx_wf (by decide))
  obtain ⟨g1, p1, p2, p3, p4, p5⟩ := m_list (n := n) (r := r) b2 hr2 (h0 := g0) (by rw [gx 1 (by decide)]; exact M.1)
  obtain ⟨g2, E2, q1, q2, q3, q4, q5, q6, q7⟩ := m_exchange (s := S) (E := wf E 22 (nI S).toInt64) hT56 b2 hS p3 (by rw [wf_ap, if_pos rfl, nI_l hS]) p4 p5
  obtain ⟨g3, E3, s1, s2, s3, s4, s5⟩ := m_shuffle hT56 hT1 q7 q4 q5 q6
  have hx : eqx [0, 9, 10, 11, 12] h g3 := eqx_tr (eqx_tr (eqx_tr (eqx_sub gx (by decide)) (eqx_sub p2 (by decide))) (eqx_sub q2 (by decide))) (eqx_sub s2 (by decide))
  have t10 : g2 10 0 = nI (trN n r) := by rw [q2 10 (by decide)]; exact p3
  have u10 : g3 10 0 = nI (trN n r) := by rw [s2 10 (by decide)]; exact t10
  refine ⟨nI (trN n r), wf G 3 0, trN n r, g, g3, E3, ?_, ?_, ?_, fun q a => ?_⟩
  · unfold C_LT_plan
    rw [C.2.1, C.1, bd0_of r1, gd_of ⟨hr, hsd⟩, bd2_of i1]
    rfl
  · unfold M_plan
    rw [bd_of (m_lis M.2.1 r3 (by decide)), if_neg (by decide), bd_of hw, if_neg (by decide), bd_of (if_neg hsd)]
    dsimp only [nm]
    rw [t_0, ← hg0, bd_of p1, bd2_of q1, t10, show (1 : Int32) = nI 1 from rfl, sb_k hT1, bd2_of s1, u10]
  · rw [s2 0 (by decide), q2 0 (by decide), p2 0 (by decide), hg0, wf_ne (by decide), wf_ne (by decide), wf00]
  · refine ⟨n, L, w, (s.1, s.2.1, some (l, trN n r, trP n r S), 0), K, hs, v, len, tx, RP_s B ⟨b6.1, b6.2.1, fun e => (by cases e), fun x hx => ?_⟩, RC_s (X := [3]) C (eqx_wf (by decide)) (by decide) (fun k => va_up_ne _ _ (by omega)) ⟨⟨?_, fun c hc => ?_⟩, ?_, ?_⟩, RM_s M hx (by decide) ⟨⟨?_, fun c hc => ?_⟩, ?_, u10, ?_, fun x hx => ?_⟩⟩
    · have := Option.some.inj hx
      rw [← this]
      exact ⟨hl, hT56, i4, Nat.zero_le _⟩
    · rw [wf_ne (by decide)]; exact d1.1
    · rw [wf_ne (by decide)]; exact d1.2 c hc
    · rw [wf_ap, if_pos rfl]; rfl
    · rw [up_ap, if_pos rfl]
      exact ⟨_, rfl, i2, rfl, i3⟩
    · rw [hx 4 (by decide)]; exact m1.1
    · rw [hx 5 (by decide), hx 6 (by decide), hx 7 (by decide), hx 8 (by decide)]; exact m1.2 c hc
    · rw [s2 9 (by decide), q2 9 (by decide), p2 9 (by decide), hg0, wf_ne (by decide), wf_ap, if_pos rfl]; rfl
    · rw [s2 11 (by decide), q2 11 (by decide), p2 11 (by decide), hg0, wf_ap, if_pos rfl]; rfl
    · have := Option.some.inj hx
      rw [← this]
      exact s4
