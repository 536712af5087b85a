/-! CALLS: begin, setWeight, undo, trial, append, clearBuffer, count, comparison -/
theorem ra1 : C_LT_requireArgument (1 : Int32) = some () := rfl
theorem m_start {h : Nat → Nat → Int32} {n L : Nat} : ∃ h2, M_start h (nI n) (nI L) = some h2 ∧ eqx [1, 2, 3, 4, 9, 10, 11, 13] h h2 ∧ h2 1 0 = nI n ∧ h2 2 0 = nI L ∧ isW h2 3 (fun _ => 1) ∧ h2 4 0 = nI 0 ∧ h2 9 0 = (-1 : Int32) ∧ h2 10 0 = nI 0 ∧ h2 11 0 = nI 0 ∧ h2 13 0 = nI 0 := by
  obtain ⟨g, hg⟩ : ∃ g, g = wf (wf (wf (wf (wf (wf (wf h 1 (nI n)) 2 (nI L)) 4 (0 : Int32)) 9 (-1 : Int32)) 10 (0 : Int32)) 11 (0 : Int32)) 13 (0 : Int32) := ⟨_, rfl⟩
  have gx : eqx [1, 2, 4, 9, 10, 11, 13] h g := by rw [hg]; exact eqx_tr (eqx_tr (eqx_tr (eqx_tr (eqx_tr (eqx_tr (eqx_wf (by decide)) (eqx_wf (by decide))) (eqx_wf (by decide))) (eqx_wf (by decide))) (eqx_wf (by decide))) (eqx_wf (by decide))) (eqx_wf (by decide))
  obtain ⟨r, h1, h2, h3⟩ := lp_iv (st := fun q => M_start_s1 q.1 q.2) (fun i q => q.1 = nI i ∧ eqx [3] g q.2 ∧ ∀ t, t < i → q.2 3 t = nI 1) (fun r => eqx [3] g r ∧ ∀ t, t < 8 → r 3 t = nI 1) 0 8 (by omega) (by omega) (fun i q _ hi ⟨e, hx, hv⟩ => by
      refine ⟨(nI (i + 1), wr q.2 3 (nI i) (1 : Int32)), ?_, rfl, eqx_tr hx (eqx_wr (by decide)), fun t ht => ?_⟩
      · show M_start_s1 q.1 q.2 = _
        unfold M_start_s1
        rw [e, show (8 : Int32) = nI 8 from rfl, if_neg (nI_ge hi (by omega)), ri_k hi (by decide)]
        dsimp only [nm]
        rw [nI_1]
      · dsimp only
        rw [wr_ap, if_pos rfl, nI_clamp (by omega)]
        by_cases c : t = i
        · rw [if_pos c]; rfl
        · rw [if_neg c]; exact hv t (by omega)) (fun q ⟨e, hx, hv⟩ => by
      refine ⟨q.2, ?_, hx, hv⟩
      show M_start_s1 q.1 q.2 = _
      unfold M_start_s1
      rw [e, if_pos (by decide)]) ((0 : Int32), g) ⟨rfl, eqx_rf, fun t ht => by omega⟩
  refine ⟨r, ?_, eqx_tr (eqx_sub gx (by decide)) (eqx_sub h2 (by decide)), ?_, ?_, h3, ?_, ?_, ?_, ?_, ?_⟩
  · unfold M_start
    dsimp only [nm]
    rw [← hg, bd_of h1]
  all_goals rw [h2 _ (by decide), hg]; simp [wf_ap]; try rfl
theorem p_begin {G h : Nat → Nat → Int32} {P : Nat → Option PRec} (H : RR G P h) (E : Nat → Nat → Int64) (a0 a1 : Int32) : okO P (fun r G2 P2 => C_LT_begin G P a0 a1 = some (r, G2, P2)) (fun r h2 => M_begin h a0 a1 = some (r, h2)) ∨ twO [(iae, 1)] P (X_LT_begin G E P a0 a1) (fun h2 => ∃ r, M_begin h a0 a1 = some (r, h2)) := by
  by_cases c1 : a0 < (2 : Int32)
  · refine Or.inr (tw0 (E := E) (ex := iae) (k := 1) H ?_ ⟨0, ?_⟩ (by decide))
    · unfold X_LT_begin; rw [if_pos c1]; rfl
    · unfold M_begin M_within; rw [if_pos c1, bd_of rfl, bd_of (if_pos rfl)]; dsimp only [nm]; rw [t_1]
  by_cases c2 : (8 : Int32) < a0
  · refine Or.inr (tw0 (E := E) (ex := iae) (k := 1) H ?_ ⟨0, ?_⟩ (by decide))
    · unfold X_LT_begin; rw [if_neg c1, if_pos c2]; rfl
    · unfold M_begin M_within; rw [if_neg c1, if_pos c2, bd_of rfl, bd_of (if_pos rfl)]; dsimp only [nm]; rw [t_1]
  by_cases c3 : a1 < (1 : Int32)
  · refine Or.inr (tw0 (E := E) (ex := iae) (k := 1) H ?_ ⟨0, ?_⟩ (by decide))
    · unfold X_LT_begin; rw [if_neg c1, if_neg c2, if_pos c3]; rfl
    · unfold M_begin M_within; rw [if_neg c1, if_neg c2, if_pos c3, bd_of rfl, if_neg (by decide), bd_of rfl, if_pos rfl, bd_of rfl]; dsimp only [nm]; rw [t_1]
  by_cases c4 : (8 : Int32) < a1
  · refine Or.inr (tw0 (E := E) (ex := iae) (k := 1) H ?_ ⟨0, ?_⟩ (by decide))
    · unfold X_LT_begin; rw [if_neg c1, if_neg c2, if_neg c3, if_pos c4]; rfl
    · unfold M_begin M_within; rw [if_neg c1, if_neg c2, if_neg c3, if_pos c4, bd_of rfl, if_neg (by decide), bd_of rfl, if_pos rfl, bd_of rfl]; dsimp only [nm]; rw [t_1]
  left
  obtain ⟨j0, i1, i2, rfl⟩ := q_rng (lo := 2) (hi := 8) (by decide) (by decide) c1 c2
  obtain ⟨j1, i3, i4, rfl⟩ := q_rng (lo := 1) (hi := 8) (by decide) (by decide) c3 c4
  obtain ⟨n, L, w, s, K, hs, v, len, tx, B, C, M⟩ := H
  obtain ⟨G5, f1, f2, f3⟩ := k_fill_1 (wf (wf G 0 (nI j0)) 1 (nI j1)) (1 : Int32)
  obtain ⟨h2, e1, e2, e3, e4, e5, e6, e7, e8, e9, e10⟩ := m_start (h := wf h 0 0) (n := j0) (L := j1)
  obtain ⟨G2, hG2⟩ : ∃ G2, G2 = wf (wf (wf G5 5 (0 : Int32)) 3 (0 : Int32)) 7 (0 : Int32) := ⟨_, rfl⟩
  have g0 : G2 0 0 = nI j0 := by rw [hG2, wf_ne (by decide), wf_ne (by decide), wf_ne (by decide), f2 0 (by decide), wf_ne (by decide), wf00]
  have g1 : G2 1 0 = nI j1 := by rw [hG2, wf_ne (by decide), wf_ne (by decide), wf_ne (by decide), f2 1 (by decide), wf_ap, if_pos rfl]
  have gx : ∀ k, k ≠ 0 → k ≠ 1 → k ≠ 2 → k ≠ 3 → k ≠ 5 → k ≠ 7 → G2 k = G k := fun k p0 p1 p2 p3 p5 p7 => by rw [hG2, wf_ne p7, wf_ne p3, wf_ne p5, f2 k (by simp; exact p2), wf_ne p1, wf_ne p0]
  refine ⟨(nI j0 * (nI j0 - (1 : Int32))) / (2 : Int32), G2, va_up P 0 none, h2, ?_, ?_, ?_, ?_, fun Z => PZ_no⟩
  · show C_LT_begin G P (nI j0) (nI j1) = _
    unfold C_LT_begin
    rw [if_neg c1, if_neg c2, if_neg c3, if_neg c4, bd_of rfl, bd0_of ra1, bd_of rfl, bd0_of ra1]
    unfold C_LT_startAnew C_HI_forgetAll
    dsimp only [nm]
    rw [bd_of f1, bd2_of rfl, ← hG2]
  · unfold M_begin M_within
    rw [if_neg c1, if_neg c2, if_neg c3, if_neg c4, bd_of rfl, if_neg (by decide), bd_of rfl, if_neg (by decide), bd_of rfl]
    dsimp only [nm]
    rw [t_0, bd_of e1]
  · rw [e2 0 (by decide), wf00]
  · refine ⟨j0, j1, fun _ => 1, (0, fun _ _ => 0, none, 0), 0, hs, v, len, tx, ?_, ?_, ?_⟩
    · obtain ⟨b1, b2, b3, b4, b5, b6, b7, b8, b9, b10⟩ := B
      exact ⟨i1, i2, i3, i4, fun _ => (show 1 ≤ 9 by decide), ⟨⟨by decide, fun c hc => absurd hc (Nat.not_lt_zero _)⟩, fun c hc => absurd hc (Nat.not_lt_zero _), fun _ => rfl, fun x hx => by cases hx⟩, by decide, fun k hk => absurd hk (Nat.not_lt_zero _), b9, b10⟩
    · obtain ⟨a, b, c, d, e, f, g, i, j⟩ := C
      refine ⟨g0, g1, fun t ht => ?_, ⟨⟨?_, fun c hc => absurd hc (Nat.not_lt_zero _)⟩, ?_, ?_⟩, ?_, ?_, fun k hk => absurd hk (Nat.not_lt_zero _), ?_, fun t ht => ?_⟩
      · rw [hG2, wf_ne (by decide), wf_ne (by decide), wf_ne (by decide), f3 t ht]; rfl
      · rw [hG2, wf_ne (by decide), wf_ne (by decide), wf_ap, if_pos rfl]; rfl
      · rw [hG2, wf_ne (by decide), wf_ap, if_pos rfl]; rfl
      · rw [up_ap, if_pos rfl]; rfl
      · rw [gx 6 (by decide) (by decide) (by decide) (by decide) (by decide) (by decide)]; exact e
      · rw [hG2, wf_ap, if_pos rfl]; rfl
      · rw [gx 9 (by decide) (by decide) (by decide) (by decide) (by decide) (by decide)]; exact i
      · rw [gx 8 (by decide) (by decide) (by decide) (by decide) (by decide) (by decide)]; exact j t ht
    · obtain ⟨a, b, c, d, e, f, g, i⟩ := M
      refine ⟨e3, e4, e5, ⟨⟨e6, fun c hc => absurd hc (Nat.not_lt_zero _)⟩, e7, e8, e9, fun x hx => by cases hx⟩, e10, fun k hk => absurd hk (Nat.not_lt_zero _), ?_, fun t ht => ?_⟩
      · rw [e2 20 (by decide), wf_ne (by decide)]; exact g
      · rw [e2 21 (by decide), wf_ne (by decide)]; exact i t ht
theorem m_lis {h : Nat → Nat → Int32} {L : Nat} (e : h 2 0 = nI L) {a x : Int32} (hw : M_within a (0 : Int32) (nI L - (1 : Int32)) = some x) (hx : x = 0 ∨ x = 1) : M_isListener h a = some x := by
  unfold M_isListener; rw [e, bd_of hw, gd_of hx]
theorem m_sam {h : Nat → Nat → Int32} {n : Nat} (e : h 1 0 = nI n) {a x : Int32} (hw : M_within a (0 : Int32) (nI n - (1 : Int32)) = some x) (hx : x = 0 ∨ x = 1) : M_isSample h a = some x := by
  unfold M_isSample; rw [e, bd_of hw, gd_of hx]
theorem m_cmp {h : Nat → Nat → Int32} {m : Nat} (e : h 4 0 = nI m) {a x : Int32} (hw : M_within a (0 : Int32) (nI m - (1 : Int32)) = some x) (hx : x = 0 ∨ x = 1) : M_isComparison h a = some x := by
  unfold M_isComparison; rw [e, bd_of hw, gd_of hx]
theorem isW_up {g : Nat → Nat → Int32} {r : Nat} {w : Nat → Nat} (H : isW g r w) {i x : Nat} (hi : i < 8) : isW (wr g r (nI i) (nI x)) r (va_up w i x) := by
  intro t ht
  rw [wr_ap, if_pos rfl, nI_clamp (by omega), up_ap]
  by_cases c : t = i
  · rw [if_pos c, if_pos c]
  · rw [if_neg c, if_neg c]; exact H t ht
theorem p_setWeight {G h : Nat → Nat → Int32} {P : Nat → Option PRec} (H : RR G P h) (E : Nat → Nat → Int64) (a0 a1 : Int32) : okO P (fun r G2 P2 => C_LT_setWeight G a0 a1 = some (r, G2) ∧ P2 = P) (fun r h2 => M_setWeight h a0 a1 = some (r, h2)) ∨ twO [(iob, 1), (iae, 2)] P (X_LT_setWeight G E a0 a1) (fun h2 => ∃ r, M_setWeight h a0 a1 = some (r, h2)) := by
  obtain ⟨n, L, w, s, K, hs, v, len, tx, B, C, M⟩ := id H
  obtain ⟨b1, b2, b3, b4, b5, b6, b7, b8, b9, b10⟩ := id B
  rcases q_idx a0 (n := L) (by omega) with ⟨j0, hj, rfl, r1, r2, r3⟩ | ⟨r1, r2, r3⟩
  · by_cases c1 : a1 < 0
    · refine Or.inr (tw0 (E := E) (ex := iae) (k := 2) H ?_ ⟨0, ?_⟩ (by decide))
      · unfold X_LT_setWeight; rw [C.2.1, r1, r2, if_pos c1]; rfl
      · unfold M_setWeight; rw [bd_of (m_lis M.2.1 r3 (by decide))]; unfold M_within; rw [if_pos c1]; dsimp only [nm, bd]; rw [if_neg (by decide), if_pos rfl]; dsimp only; rw [t_2]
    by_cases c2 : (9 : Int32) < a1
    · refine Or.inr (tw0 (E := E) (ex := iae) (k := 2) H ?_ ⟨0, ?_⟩ (by decide))
      · unfold X_LT_setWeight; rw [C.2.1, r1, r2, if_neg c1, if_pos c2]; rfl
      · unfold M_setWeight; rw [bd_of (m_lis M.2.1 r3 (by decide))]; unfold M_within; rw [if_neg c1, if_pos c2]; dsimp only [nm, bd]; rw [if_neg (by decide), if_pos rfl]; dsimp only; rw [t_2]
    left
    obtain ⟨j1, i1, i2, rfl⟩ := q_rng (lo := 0) (hi := 9) (by decide) (by decide) c1 c2
    refine ⟨nI (w j0), wr G 2 (nI j0) (nI j1), P, wr (wf h 0 0) 3 (nI j0) (nI j1), ⟨?_, rfl⟩, ?_, ?_, ?_, fun _ h => h⟩
    · unfold C_LT_setWeight
      rw [C.2.1, bd0_of r1, if_neg c1, if_neg c2, bd_of rfl, bd0_of ra1, ri_k (show j0 < 8 by omega) (by decide)]
      dsimp only [nm]
      rw [ri_k (show j0 < 8 by omega) (by decide), nI_clamp (by omega), C.2.2.1 j0 (by omega)]
    · unfold M_setWeight
      rw [bd_of (m_lis M.2.1 r3 (by decide))]; unfold M_within; rw [if_neg c1, if_neg c2]; dsimp only [nm, bd]; rw [if_neg (by decide), if_neg (by decide)]; dsimp only; rw [t_0, ri_k (show j0 < 8 by omega) (by decide), ri_k (show j0 < 8 by omega) (by decide), nI_clamp (by omega), wf_ne (by decide), M.2.2.1 j0 (by omega)]
    · rw [wr_ne (by decide), wf00]
    · refine ⟨n, L, va_up w j0 j1, s, K, hs, v, len, tx, ⟨b1, b2, b3, b4, fun i => ?_, b6, b7, b8, b9, b10⟩, ?_, ?_⟩
      · rw [up_ap]; split
        · omega
        · exact b5 i
      · obtain ⟨a, b, c, d, e, f, g, i, j⟩ := C
        refine ⟨by rw [wr_ne (by decide)]; exact a, by rw [wr_ne (by decide)]; exact b, isW_up c (by omega), cSn_x d (wr_ne (by decide)) (wr_ne (by decide)) (wr_ne (by decide)), by rw [wr_ne (by decide)]; exact e, by rw [wr_ne (by decide)]; exact f, fun k hk => cSn_x (g k hk) (wr_ne (by omega)) (wr_ne (by omega)) (wr_ne (by omega)), by rw [wr_ne (by decide)]; exact i, fun t ht => by rw [wr_ne (by decide)]; exact j t ht⟩
      · obtain ⟨a, b, c, d, e, f, g, i⟩ := RM_x (X := [0]) M (eqx_wf (k := 0) (x := (0 : Int32)) (by decide)) (by decide)
        exact ⟨by rw [wr_ne (by decide)]; exact a, by rw [wr_ne (by decide)]; exact b, isW_up c (by omega), mCu_x d (fun k h1 h2 => wr_ne (by omega)), by rw [wr_ne (by decide)]; exact e, fun k hk => mRo_x (f k hk) (fun y h1 h2 => wr_ne (by omega)), by rw [wr_ne (by decide)]; exact g, fun t ht => by rw [wr_ne (by decide)]; exact i t ht⟩
  · refine Or.inr (tw0 (E := E) (ex := iob) (k := 1) H ?_ ⟨0, ?_⟩ (by decide))
    · unfold X_LT_setWeight; rw [C.2.1, r2]; rfl
    · unfold M_setWeight; rw [bd_of (m_lis M.2.1 r3 (by decide)), bd_of (if_pos rfl)]; dsimp only [nm]; rw [t_1]
theorem p_undo {G h : Nat → Nat → Int32} {P : Nat → Option PRec} (H : RR G P h) (E : Nat → Nat → Int64) : okO P (fun r G2 P2 => C_LT_undo G P = some (r, G2, P2)) (fun r h2 => M_undo h = some (r, h2)) ∨ twO [(ise, 1)] P (X_LT_undo G E P) (fun h2 => ∃ r, M_undo h = some (r, h2)) := by
  obtain ⟨n, L, w, s, K, hs, v, len, tx, B, C, M⟩ := id H
  obtain ⟨b1, b2, b3, b4, b5, b6, b7, b8, b9, b10⟩ := id B
  by_cases hK : 0 < K
  · left
    obtain ⟨G2, e1, e2⟩ := k_undo B C hK
    obtain ⟨h2, f1, f2, f3⟩ := m_undo B M hK
    refine ⟨_, _, _, _, e1, f1, f2, ⟨n, L, w, hs 0, K - 1, pop hs, (v + 11) % 12, len, tx, ⟨b1, b2, b3, b4, b5, b8 0 hK, by omega, fun k hk => b8 (k + 1) (by omega), by omega, b10⟩, e2, f3⟩, fun Z => PZ_up⟩
  · have h0 : K = 0 := by omega
    subst h0
    refine Or.inr (tw0 (E := E) (ex := ise) (k := 1) H (x_undo0 C.2.2.2.2.2.1) ⟨0, ?_⟩ (by decide))
    unfold M_undo; rw [M.2.2.2.2.1, if_pos (by decide), bd_of rfl]; dsimp only [nm]; rw [t_1]
