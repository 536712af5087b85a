theorem k_un {m : Nat} {cp : Nat → Nat → Nat} (B : cB m cp) {c : Nat} (hc : c < m) : C_CO_listenerOf (nI (cd cp c)) = nI (cp 0 c) ∧ C_CO_firstOf (nI (cd cp c)) = nI (cp 1 c) ∧ C_CO_secondOf (nI (cd cp c)) = nI (cp 2 c) ∧ C_CO_answerOf (nI (cd cp c)) = nI (cp 3 c) := by
  obtain ⟨b0, b1, b2, b3, b4⟩ := B.2 c hc
  exact k_unp _ b0 _ b1 _ b2 _ b4
theorem k_win {m : Nat} {cp : Nat → Nat → Nat} (B : cB m cp) {c : Nat} (hc : c < m) : C_CO_winnerOf (nI (cd cp c)) = some (nI (if cp 3 c = 1 then cp 1 c else cp 2 c)) ∧ C_CO_loserOf (nI (cd cp c)) = some (nI (if cp 3 c = 1 then cp 2 c else cp 1 c)) := by
  obtain ⟨b0, b1, b2, b3, b4⟩ := B.2 c hc
  obtain ⟨u0, u1, u2, u3⟩ := k_un B hc
  simp only [C_CO_winnerOf, C_CO_loserOf, nm, u1, u2, u3, nI_lit, nE (show cp 3 c < 1000 by omega) (show 1 < 1000 by omega)]
  by_cases h : cp 3 c = 1
  · simp only [if_pos h, and_self]
  · simp only [if_neg h, and_self]
theorem k_at {g : Nat → Nat → Int32} {m : Nat} {cp : Nat → Nat → Nat} (H : isC g 5 4 m cp) (hm : m ≤ 48) {c : Nat} (hc : c < m) : C_CO_at g (nI c) = some (nI (cd cp c)) := by
  unfold C_CO_at
  rw [if_neg (nI_pos (by omega)), H.1, if_neg (nI_ge hc (by omega)), ri_k (by omega) (by decide), nI_clamp (by omega), H.2 c hc]
theorem isC_x {g g2 : Nat → Nat → Int32} {L : List Nat} {rs rc m : Nat} {cp : Nat → Nat → Nat} (H : isC g rs rc m cp) (hx : eqx L g g2) (h1 : rs ∉ L) (h2 : rc ∉ L) : isC g2 rs rc m cp := by
  refine ⟨?_, fun c hc => ?_⟩
  · rw [hx rs h1]; exact H.1
  · rw [hx rc h2]; exact H.2 c hc
theorem isM_x {g g2 : Nat → Nat → Int32} {L : List Nat} {m : Nat} {cp : Nat → Nat → Nat} (H : isM g m cp) (hx : eqx L g g2) (h4 : 4 ∉ L) (h5 : 5 ∉ L) (h6 : 6 ∉ L) (h7 : 7 ∉ L) (h8 : 8 ∉ L) : isM g2 m cp := by
  unfold isM
  rw [hx 4 h4, hx 5 h5, hx 6 h6, hx 7 h7, hx 8 h8]
  exact H
theorem isW_x {g g2 : Nat → Nat → Int32} {L : List Nat} {r : Nat} {w : Nat → Nat} (H : isW g r w) (hx : eqx L g g2) (h : r ∉ L) : isW g2 r w := by
  unfold isW
  rw [hx r h]
  exact H
theorem k_fill_10 (G : Nat → Nat → Int32) (a : Int32) : ∃ G2, C_JA_fill_i_10 G a = some G2 ∧ eqx [16] G G2 ∧ ∀ t, t < 64 → G2 16 t = a := by
  obtain ⟨r, h1, h2⟩ := lp_iv (st := fun q => C_JA_fill_i_10_s1 a q.1 q.2) (fun i q => q.1 = nI i ∧ eqx [16] G q.2 ∧ ∀ t, t < i → q.2 16 t = a) (fun r => eqx [16] G r ∧ ∀ t, t < 64 → r 16 t = a) 0 64 (by omega) (by omega) (fun i q _ hi ⟨e, hx, hv⟩ => by
      refine ⟨(nI (i + 1), wr q.2 16 (nI i) a), ?_, rfl, eqx_tr hx (eqx_wr (by decide)), fun t ht => ?_⟩
      · show C_JA_fill_i_10_s1 a q.1 q.2 = _
        unfold C_JA_fill_i_10_s1
        rw [e, show (64 : Int32) = nI 64 from rfl, if_neg (nI_ge hi (by decide)), ri_k hi (by decide)]
        show some (Sum.inl (nI i + 1, _)) = _
        rw [nI_1]
      · show wr q.2 16 (nI i) a 16 t = a
        rw [wr_ap, if_pos rfl, nI_clamp (by omega)]
        by_cases h : t = i
        · rw [if_pos h]
        · rw [if_neg h]
          exact hv t (by omega)) (fun q ⟨e, hx, hv⟩ => by
      refine ⟨q.2, ?_, hx, hv⟩
      show C_JA_fill_i_10_s1 a q.1 q.2 = _
      unfold C_JA_fill_i_10_s1
      rw [e, show (64 : Int32) = nI 64 from rfl, if_pos (nI_le (Nat.le_refl _) (by decide))]) ((0 : Int32), G) ⟨rfl, eqx_rf, fun t h => absurd h (by omega)⟩
  exact ⟨r, by unfold C_JA_fill_i_10; rw [bd_of h1], h2⟩
theorem k_fill_11 (G : Nat → Nat → Int32) (a : Int32) : ∃ G2, C_JA_fill_i_11 G a = some G2 ∧ eqx [17] G G2 ∧ ∀ t, t < 64 → G2 17 t = a := by
  obtain ⟨r, h1, h2⟩ := lp_iv (st := fun q => C_JA_fill_i_11_s1 a q.1 q.2) (fun i q => q.1 = nI i ∧ eqx [17] G q.2 ∧ ∀ t, t < i → q.2 17 t = a) (fun r => eqx [17] G r ∧ ∀ t, t < 64 → r 17 t = a) 0 64 (by omega) (by omega) (fun i q _ hi ⟨e, hx, hv⟩ => by
      refine ⟨(nI (i + 1), wr q.2 17 (nI i) a), ?_, rfl, eqx_tr hx (eqx_wr (by decide)), fun t ht => ?_⟩
      · show C_JA_fill_i_11_s1 a q.1 q.2 = _
        unfold C_JA_fill_i_11_s1
        rw [e, show (64 : Int32) = nI 64 from rfl, if_neg (nI_ge hi (by decide)), ri_k hi (by decide)]
        show some (Sum.inl (nI i + 1, _)) = _
        rw [nI_1]
      · show wr q.2 17 (nI i) a 17 t = a
        rw [wr_ap, if_pos rfl, nI_clamp (by omega)]
        by_cases h : t = i
        · rw [if_pos h]
        · rw [if_neg h]
          exact hv t (by omega)) (fun q ⟨e, hx, hv⟩ => by
      refine ⟨q.2, ?_, hx, hv⟩
      show C_JA_fill_i_11_s1 a q.1 q.2 = _
      unfold C_JA_fill_i_11_s1
      rw [e, show (64 : Int32) = nI 64 from rfl, if_pos (nI_le (Nat.le_refl _) (by decide))]) ((0 : Int32), G) ⟨rfl, eqx_rf, fun t h => absurd h (by omega)⟩
  exact ⟨r, by unfold C_JA_fill_i_11; rw [bd_of h1], h2⟩
theorem k_fill_1 (G : Nat → Nat → Int32) (a : Int32) : ∃ G2, C_JA_fill_i_1 G a = some G2 ∧ eqx [2] G G2 ∧ ∀ t, t < 8 → G2 2 t = a := by
  obtain ⟨r, h1, h2⟩ := lp_iv (st := fun q => C_JA_fill_i_1_s1 a q.1 q.2) (fun i q => q.1 = nI i ∧ eqx [2] G q.2 ∧ ∀ t, t < i → q.2 2 t = a) (fun r => eqx [2] G r ∧ ∀ t, t < 8 → r 2 t = a) 0 8 (by omega) (by omega) (fun i q _ hi ⟨e, hx, hv⟩ => by
      refine ⟨(nI (i + 1), wr q.2 2 (nI i) a), ?_, rfl, eqx_tr hx (eqx_wr (by decide)), fun t ht => ?_⟩
      · show C_JA_fill_i_1_s1 a q.1 q.2 = _
        unfold C_JA_fill_i_1_s1
        rw [e, show (8 : Int32) = nI 8 from rfl, if_neg (nI_ge hi (by decide)), ri_k hi (by decide)]
        show some (Sum.inl (nI i + 1, _)) = _
        rw [nI_1]
      · show wr q.2 2 (nI i) a 2 t = a
        rw [wr_ap, if_pos rfl, nI_clamp (by omega)]
        by_cases h : t = i
        · rw [if_pos h]
        · rw [if_neg h]
          exact hv t (by omega)) (fun q ⟨e, hx, hv⟩ => by
      refine ⟨q.2, ?_, hx, hv⟩
      show C_JA_fill_i_1_s1 a q.1 q.2 = _
      unfold C_JA_fill_i_1_s1
      rw [e, show (8 : Int32) = nI 8 from rfl, if_pos (nI_le (Nat.le_refl _) (by decide))]) ((0 : Int32), G) ⟨rfl, eqx_rf, fun t h => absurd h (by omega)⟩
  exact ⟨r, by unfold C_JA_fill_i_1; rw [bd_of h1], h2⟩
theorem k_fill_23 (G : Nat → Nat → Int32) (a : Int32) : ∃ G2, C_JA_fill_i_23 G a = some G2 ∧ eqx [20] G G2 ∧ ∀ t, t < 64 → G2 20 t = a := by
  obtain ⟨r, h1, h2⟩ := lp_iv (st := fun q => C_JA_fill_i_23_s1 a q.1 q.2) (fun i q => q.1 = nI i ∧ eqx [20] G q.2 ∧ ∀ t, t < i → q.2 20 t = a) (fun r => eqx [20] G r ∧ ∀ t, t < 64 → r 20 t = a) 0 64 (by omega) (by omega) (fun i q _ hi ⟨e, hx, hv⟩ => by
      refine ⟨(nI (i + 1), wr q.2 20 (nI i) a), ?_, rfl, eqx_tr hx (eqx_wr (by decide)), fun t ht => ?_⟩
      · show C_JA_fill_i_23_s1 a q.1 q.2 = _
        unfold C_JA_fill_i_23_s1
        rw [e, show (64 : Int32) = nI 64 from rfl, if_neg (nI_ge hi (by decide)), ri_k hi (by decide)]
        show some (Sum.inl (nI i + 1, _)) = _
        rw [nI_1]
      · show wr q.2 20 (nI i) a 20 t = a
        rw [wr_ap, if_pos rfl, nI_clamp (by omega)]
        by_cases h : t = i
        · rw [if_pos h]
        · rw [if_neg h]
          exact hv t (by omega)) (fun q ⟨e, hx, hv⟩ => by
      refine ⟨q.2, ?_, hx, hv⟩
      show C_JA_fill_i_23_s1 a q.1 q.2 = _
      unfold C_JA_fill_i_23_s1
      rw [e, show (64 : Int32) = nI 64 from rfl, if_pos (nI_le (Nat.le_refl _) (by decide))]) ((0 : Int32), G) ⟨rfl, eqx_rf, fun t h => absurd h (by omega)⟩
  exact ⟨r, by unfold C_JA_fill_i_23; rw [bd_of h1], h2⟩
theorem k_fill_18 (G : Nat → Nat → Int32) (a : Int32) : ∃ G2, C_JA_fill_i_18 G a = some G2 ∧ eqx [23] G G2 ∧ ∀ t, t < 8 → G2 23 t = a := by
  obtain ⟨r, h1, h2⟩ := lp_iv (st := fun q => C_JA_fill_i_18_s1 a q.1 q.2) (fun i q => q.1 = nI i ∧ eqx [23] G q.2 ∧ ∀ t, t < i → q.2 23 t = a) (fun r => eqx [23] G r ∧ ∀ t, t < 8 → r 23 t = a) 0 8 (by omega) (by omega) (fun i q _ hi ⟨e, hx, hv⟩ => by
      refine ⟨(nI (i + 1), wr q.2 23 (nI i) a), ?_, rfl, eqx_tr hx (eqx_wr (by decide)), fun t ht => ?_⟩
      · show C_JA_fill_i_18_s1 a q.1 q.2 = _
        unfold C_JA_fill_i_18_s1
        rw [e, show (8 : Int32) = nI 8 from rfl, if_neg (nI_ge hi (by decide)), ri_k hi (by decide)]
        show some (Sum.inl (nI i + 1, _)) = _
        rw [nI_1]
      · show wr q.2 23 (nI i) a 23 t = a
        rw [wr_ap, if_pos rfl, nI_clamp (by omega)]
        by_cases h : t = i
        · rw [if_pos h]
        · rw [if_neg h]
          exact hv t (by omega)) (fun q ⟨e, hx, hv⟩ => by
      refine ⟨q.2, ?_, hx, hv⟩
      show C_JA_fill_i_18_s1 a q.1 q.2 = _
      unfold C_JA_fill_i_18_s1
      rw [e, show (8 : Int32) = nI 8 from rfl, if_pos (nI_le (Nat.le_refl _) (by decide))]) ((0 : Int32), G) ⟨rfl, eqx_rf, fun t h => absurd h (by omega)⟩
  exact ⟨r, by unfold C_JA_fill_i_18; rw [bd_of h1], h2⟩
theorem k_fill_13 (G : Nat → Nat → Int32) (a : Int32) : ∃ G2, C_JA_fill_i_13 G a = some G2 ∧ eqx [18] G G2 ∧ ∀ t, t < 64 → G2 18 t = a := by
  obtain ⟨r, h1, h2⟩ := lp_iv (st := fun q => C_JA_fill_i_13_s1 a q.1 q.2) (fun i q => q.1 = nI i ∧ eqx [18] G q.2 ∧ ∀ t, t < i → q.2 18 t = a) (fun r => eqx [18] G r ∧ ∀ t, t < 64 → r 18 t = a) 0 64 (by omega) (by omega) (fun i q _ hi ⟨e, hx, hv⟩ => by
      refine ⟨(nI (i + 1), wr q.2 18 (nI i) a), ?_, rfl, eqx_tr hx (eqx_wr (by decide)), fun t ht => ?_⟩
      · show C_JA_fill_i_13_s1 a q.1 q.2 = _
        unfold C_JA_fill_i_13_s1
        rw [e, show (64 : Int32) = nI 64 from rfl, if_neg (nI_ge hi (by decide)), ri_k hi (by decide)]
        show some (Sum.inl (nI i + 1, _)) = _
        rw [nI_1]
      · show wr q.2 18 (nI i) a 18 t = a
        rw [wr_ap, if_pos rfl, nI_clamp (by omega)]
        by_cases h : t = i
        · rw [if_pos h]
        · rw [if_neg h]
          exact hv t (by omega)) (fun q ⟨e, hx, hv⟩ => by
      refine ⟨q.2, ?_, hx, hv⟩
      show C_JA_fill_i_13_s1 a q.1 q.2 = _
      unfold C_JA_fill_i_13_s1
      rw [e, show (64 : Int32) = nI 64 from rfl, if_pos (nI_le (Nat.le_refl _) (by decide))]) ((0 : Int32), G) ⟨rfl, eqx_rf, fun t h => absurd h (by omega)⟩
  exact ⟨r, by unfold C_JA_fill_i_13; rw [bd_of h1], h2⟩
theorem k_fill_15 (G : Nat → Nat → Int32) (a : Int32) : ∃ G2, C_JA_fill_i_15 G a = some G2 ∧ eqx [19] G G2 ∧ ∀ t, t < 64 → G2 19 t = a := by
  obtain ⟨r, h1, h2⟩ := lp_iv (st := fun q => C_JA_fill_i_15_s1 a q.1 q.2) (fun i q => q.1 = nI i ∧ eqx [19] G q.2 ∧ ∀ t, t < i → q.2 19 t = a) (fun r => eqx [19] G r ∧ ∀ t, t < 64 → r 19 t = a) 0 64 (by omega) (by omega) (fun i q _ hi ⟨e, hx, hv⟩ => by
      refine ⟨(nI (i + 1), wr q.2 19 (nI i) a), ?_, rfl, eqx_tr hx (eqx_wr (by decide)), fun t ht => ?_⟩
      · show C_JA_fill_i_15_s1 a q.1 q.2 = _
        unfold C_JA_fill_i_15_s1
        rw [e, show (64 : Int32) = nI 64 from rfl, if_neg (nI_ge hi (by decide)), ri_k hi (by decide)]
        show some (Sum.inl (nI i + 1, _)) = _
        rw [nI_1]
      · show wr q.2 19 (nI i) a 19 t = a
        rw [wr_ap, if_pos rfl, nI_clamp (by omega)]
        by_cases h : t = i
        · rw [if_pos h]
        · rw [if_neg h]
          exact hv t (by omega)) (fun q ⟨e, hx, hv⟩ => by
      refine ⟨q.2, ?_, hx, hv⟩
      show C_JA_fill_i_15_s1 a q.1 q.2 = _
      unfold C_JA_fill_i_15_s1
      rw [e, show (64 : Int32) = nI 64 from rfl, if_pos (nI_le (Nat.le_refl _) (by decide))]) ((0 : Int32), G) ⟨rfl, eqx_rf, fun t h => absurd h (by omega)⟩
  exact ⟨r, by unfold C_JA_fill_i_15; rw [bd_of h1], h2⟩
theorem k_addWin_12 {m : Nat} {cp : Nat → Nat → Nat} (B : cB m cp) {c : Nat} (hc : c < m) (G : Nat → Nat → Int32) (w : Nat) : ∃ G2, C_LE_addWin_12 G (nI (cd cp c)) (nI w) = some G2 ∧ eqx [18] G G2 ∧ ∀ i j, i < 8 → j < 8 → G2 18 (8 * i + j) = G 18 (8 * i + j) + nI (wnD cp c i j * w) - nI (wnD cp c j i * w) := by
  obtain ⟨b0, b1, b2, b3, b4⟩ := B.2 c hc
  obtain ⟨u0, u1, u2, u3⟩ := k_un B hc
  obtain ⟨v1, v2⟩ := k_win B hc
  by_cases h0 : cp 3 c = 0
  · refine ⟨G, ?_, eqx_rf, fun i j hi hj => ?_⟩
    · unfold C_LE_addWin_12
      rw [u3, h0]
      rfl
    · have e1 : wnD cp c i j = 0 := by unfold wnD; rw [if_neg (by omega)]
      have e2 : wnD cp c j i = 0 := by unfold wnD; rw [if_neg (by omega)]
      rw [e1, e2, Nat.zero_mul, i_a0, i_s0]
  · obtain ⟨W, hW⟩ : ∃ W, W = if cp 3 c = 1 then cp 1 c else cp 2 c := ⟨_, rfl⟩
    obtain ⟨O, hO⟩ : ∃ O, O = if cp 3 c = 1 then cp 2 c else cp 1 c := ⟨_, rfl⟩
    rw [← hW] at v1
    rw [← hO] at v2
    have hWO : W < 8 ∧ O < 8 ∧ W ≠ O := by
      rw [hW, hO]
      by_cases h1 : cp 3 c = 1
      · rw [if_pos h1, if_pos h1]; exact ⟨b1, b2, b3⟩
      · rw [if_neg h1, if_neg h1]; exact ⟨b2, b1, fun e => b3 e.symm⟩
    obtain ⟨w1, w2, w3⟩ := hWO
    have hd : ∀ i j, wnD cp c i j = if i = W ∧ j = O then 1 else 0 := by
      intro i j
      unfold wnD
      rw [hW, hO]
      by_cases h1 : cp 3 c = 1
      · rw [if_pos h1, if_pos h1]
        (repeat' split) <;> first | rfl | (exfalso; omega)
      · rw [if_neg h1, if_neg h1]
        (repeat' split) <;> first | rfl | (exfalso; omega)
    refine ⟨wr (wr G 18 (nI (8 * W + O)) (G 18 (8 * W + O) + nI w)) 18 (nI (8 * O + W)) (G 18 (8 * O + W) - nI w), ?_, eqx_tr (eqx_wr (by decide)) (eqx_wr (by decide)), fun i j hi hj => ?_⟩
    · unfold C_LE_addWin_12
      rw [u3]
      dsimp only [nm]
      rw [if_neg (show ¬ nI (cp 3 c) = 0 from nI_ne0 (by omega) (by omega)), bd_of v1, bd_of v2]
      rw [c8_cell W w1 O w2, c8_cell O w2 W w1, ri_k (show 8 * W + O < 64 by omega) (by decide), ri_k (show 8 * W + O < 64 by omega) (by decide), ri_k (show 8 * O + W < 64 by omega) (by decide), ri_k (show 8 * O + W < 64 by omega) (by decide), nI_clamp (show 8 * W + O < 2 ^ 31 by omega), nI_clamp (show 8 * O + W < 2 ^ 31 by omega), wr_ap, if_pos rfl, nI_clamp (show 8 * W + O < 2 ^ 31 by omega), if_neg (show ¬ 8 * O + W = 8 * W + O by omega)]
    · rw [wr_nI _ _ (show 8 * O + W < 2 ^ 31 by omega), wr_nI _ _ (show 8 * W + O < 2 ^ 31 by omega), va_up_self, va_up_self, up8 _ _ _ _ _ _ w1 hj, up8 _ _ _ _ _ _ w2 hj, hd i j, hd j i]
      by_cases q1 : i = O ∧ j = W
      · rw [if_pos q1, if_neg (show ¬ (i = W ∧ j = O) by omega), if_pos (show j = W ∧ i = O from ⟨q1.2, q1.1⟩), Nat.zero_mul, Nat.one_mul, i_a0, q1.1, q1.2]
      · rw [if_neg q1]
        by_cases q2 : i = W ∧ j = O
        · rw [if_pos q2, if_pos q2, if_neg (show ¬ (j = W ∧ i = O) by omega), Nat.zero_mul, Nat.one_mul, i_s0, q2.1, q2.2]
        · rw [if_neg q2, if_neg q2, if_neg (show ¬ (j = W ∧ i = O) by omega), Nat.zero_mul, i_a0, i_s0]
theorem k_addWin_14 {m : Nat} {cp : Nat → Nat → Nat} (B : cB m cp) {c : Nat} (hc : c < m) (G : Nat → Nat → Int32) (w : Nat) : ∃ G2, C_LE_addWin_14 G (nI (cd cp c)) (nI w) = some G2 ∧ eqx [19] G G2 ∧ ∀ i j, i < 8 → j < 8 → G2 19 (8 * i + j) = G 19 (8 * i + j) + nI (wnD cp c i j * w) - nI (wnD cp c j i * w) := by
  obtain ⟨b0, b1, b2, b3, b4⟩ := B.2 c hc
  obtain ⟨u0, u1, u2, u3⟩ := k_un B hc
  obtain ⟨v1, v2⟩ := k_win B hc
  by_cases h0 : cp 3 c = 0
  · refine ⟨G, ?_, eqx_rf, fun i j hi hj => ?_⟩
    · unfold C_LE_addWin_14
      rw [u3, h0]
      rfl
    · have e1 : wnD cp c i j = 0 := by unfold wnD; rw [if_neg (by omega)]
      have e2 : wnD cp c j i = 0 := by unfold wnD; rw [if_neg (by omega)]
      rw [e1, e2, Nat.zero_mul, i_a0, i_s0]
  · obtain ⟨W, hW⟩ : ∃ W, W = if cp 3 c = 1 then cp 1 c else cp 2 c := ⟨_, rfl⟩
    obtain ⟨O, hO⟩ : ∃ O, O = if cp 3 c = 1 then cp 2 c else cp 1 c := ⟨_, rfl⟩
    rw [← hW] at v1
    rw [← hO] at v2
    have hWO : W < 8 ∧ O < 8 ∧ W ≠ O := by
      rw [hW, hO]
      by_cases h1 : cp 3 c = 1
      · rw [if_pos h1, if_pos h1]; exact ⟨b1, b2, b3⟩
      · rw [if_neg h1, if_neg h1]; exact ⟨b2, b1, fun e => b3 e.symm⟩
    obtain ⟨w1, w2, w3⟩ := hWO
    have hd : ∀ i j, wnD cp c i j = if i = W ∧ j = O then 1 else 0 := by
      intro i j
      unfold wnD
      rw [hW, hO]
      by_cases h1 : cp 3 c = 1
      · rw [if_pos h1, if_pos h1]
        (repeat' split) <;> first | rfl | (exfalso; omega)
      · rw [if_neg h1, if_neg h1]
        (repeat' split) <;> first | rfl | (exfalso; omega)
    refine ⟨wr (wr G 19 (nI (8 * W + O)) (G 19 (8 * W + O) + nI w)) 19 (nI (8 * O + W)) (G 19 (8 * O + W) - nI w), ?_, eqx_tr (eqx_wr (by decide)) (eqx_wr (by decide)), fun i j hi hj => ?_⟩
    · unfold C_LE_addWin_14
      rw [u3]
      dsimp only [nm]
      rw [if_neg (show ¬ nI (cp 3 c) = 0 from nI_ne0 (by omega) (by omega)), bd_of v1, bd_of v2]
      rw [c8_cell W w1 O w2, c8_cell O w2 W w1, ri_k (show 8 * W + O < 64 by omega) (by decide), ri_k (show 8 * W + O < 64 by omega) (by decide), ri_k (show 8 * O + W < 64 by omega) (by decide), ri_k (show 8 * O + W < 64 by omega) (by decide), nI_clamp (show 8 * W + O < 2 ^ 31 by omega), nI_clamp (show 8 * O + W < 2 ^ 31 by omega), wr_ap, if_pos rfl, nI_clamp (show 8 * W + O < 2 ^ 31 by omega), if_neg (show ¬ 8 * O + W = 8 * W + O by omega)]
    · rw [wr_nI _ _ (show 8 * O + W < 2 ^ 31 by omega), wr_nI _ _ (show 8 * W + O < 2 ^ 31 by omega), va_up_self, va_up_self, up8 _ _ _ _ _ _ w1 hj, up8 _ _ _ _ _ _ w2 hj, hd i j, hd j i]
      by_cases q1 : i = O ∧ j = W
      · rw [if_pos q1, if_neg (show ¬ (i = W ∧ j = O) by omega), if_pos (show j = W ∧ i = O from ⟨q1.2, q1.1⟩), Nat.zero_mul, Nat.one_mul, i_a0, q1.1, q1.2]
      · rw [if_neg q1]
        by_cases q2 : i = W ∧ j = O
        · rw [if_pos q2, if_pos q2, if_neg (show ¬ (j = W ∧ i = O) by omega), Nat.zero_mul, Nat.one_mul, i_s0, q2.1, q2.2]
        · rw [if_neg q2, if_neg q2, if_neg (show ¬ (j = W ∧ i = O) by omega), Nat.zero_mul, i_a0, i_s0]
theorem k_addWin_22 {m : Nat} {cp : Nat → Nat → Nat} (B : cB m cp) {c : Nat} (hc : c < m) (G : Nat → Nat → Int32) (w : Nat) : ∃ G2, C_LE_addWin_22 G (nI (cd cp c)) (nI w) = some G2 ∧ eqx [20] G G2 ∧ ∀ i j, i < 8 → j < 8 → G2 20 (8 * i + j) = G 20 (8 * i + j) + nI (wnD cp c i j * w) - nI (wnD cp c j i * w) := by
  obtain ⟨b0, b1, b2, b3, b4⟩ := B.2 c hc
  obtain ⟨u0, u1, u2, u3⟩ := k_un B hc
  obtain ⟨v1, v2⟩ := k_win B hc
  by_cases h0 : cp 3 c = 0
  · refine ⟨G, ?_, eqx_rf, fun i j hi hj => ?_⟩
    · unfold C_LE_addWin_22
      rw [u3, h0]
      rfl
    · have e1 : wnD cp c i j = 0 := by unfold wnD; rw [if_neg (by omega)]
      have e2 : wnD cp c j i = 0 := by unfold wnD; rw [if_neg (by omega)]
      rw [e1, e2, Nat.zero_mul, i_a0, i_s0]
  · obtain ⟨W, hW⟩ : ∃ W, W = if cp 3 c = 1 then cp 1 c else cp 2 c := ⟨_, rfl⟩
    obtain ⟨O, hO⟩ : ∃ O, O = if cp 3 c = 1 then cp 2 c else cp 1 c := ⟨_, rfl⟩
    rw [← hW] at v1
    rw [← hO] at v2
    have hWO : W < 8 ∧ O < 8 ∧ W ≠ O := by
      rw [hW, hO]
      by_cases h1 : cp 3 c = 1
      · rw [if_pos h1, if_pos h1]; exact ⟨b1, b2, b3⟩
      · rw [if_neg h1, if_neg h1]; exact ⟨b2, b1, fun e => b3 e.symm⟩
    obtain ⟨w1, w2, w3⟩ := hWO
    have hd : ∀ i j, wnD cp c i j = if i = W ∧ j = O then 1 else 0 := by
      intro i j
      unfold wnD
      rw [hW, hO]
      by_cases h1 : cp 3 c = 1
      · rw [if_pos h1, if_pos h1]
        (repeat' split) <;> first | rfl | (exfalso; omega)
      · rw [if_neg h1, if_neg h1]
        (repeat' split) <;> first | rfl | (exfalso; omega)
    refine ⟨wr (wr G 20 (nI (8 * W + O)) (G 20 (8 * W + O) + nI w)) 20 (nI (8 * O + W)) (G 20 (8 * O + W) - nI w), ?_, eqx_tr (eqx_wr (by decide)) (eqx_wr (by decide)), fun i j hi hj => ?_⟩
    · unfold C_LE_addWin_22
      rw [u3]
      dsimp only [nm]
      rw [if_neg (show ¬ nI (cp 3 c) = 0 from nI_ne0 (by omega) (by omega)), bd_of v1, bd_of v2]
      rw [c8_cell W w1 O w2, c8_cell O w2 W w1, ri_k (show 8 * W + O < 64 by omega) (by decide), ri_k (show 8 * W + O < 64 by omega) (by decide), ri_k (show 8 * O + W < 64 by omega) (by decide), ri_k (show 8 * O + W < 64 by omega) (by decide), nI_clamp (show 8 * W + O < 2 ^ 31 by omega), nI_clamp (show 8 * O + W < 2 ^ 31 by omega), wr_ap, if_pos rfl, nI_clamp (show 8 * W + O < 2 ^ 31 by omega), if_neg (show ¬ 8 * O + W = 8 * W + O by omega)]
    · rw [wr_nI _ _ (show 8 * O + W < 2 ^ 31 by omega), wr_nI _ _ (show 8 * W + O < 2 ^ 31 by omega), va_up_self, va_up_self, up8 _ _ _ _ _ _ w1 hj, up8 _ _ _ _ _ _ w2 hj, hd i j, hd j i]
      by_cases q1 : i = O ∧ j = W
      · rw [if_pos q1, if_neg (show ¬ (i = W ∧ j = O) by omega), if_pos (show j = W ∧ i = O from ⟨q1.2, q1.1⟩), Nat.zero_mul, Nat.one_mul, i_a0, q1.1, q1.2]
      · rw [if_neg q1]
        by_cases q2 : i = W ∧ j = O
        · rw [if_pos q2, if_pos q2, if_neg (show ¬ (j = W ∧ i = O) by omega), Nat.zero_mul, Nat.one_mul, i_s0, q2.1, q2.2]
        · rw [if_neg q2, if_neg q2, if_neg (show ¬ (j = W ∧ i = O) by omega), Nat.zero_mul, i_a0, i_s0]
theorem k_takeL_12 {m : Nat} {cp : Nat → Nat → Nat} (B : cB m cp) {G : Nat → Nat → Int32} (H : isC G 5 4 m cp) {l : Nat} (hl : l < 8) : ∃ G2, C_LE_takeListener_12 G (nI l) = some G2 ∧ eqx [18] G G2 ∧ ∀ i j, i < 8 → j < 8 → G2 18 (8 * i + j) = nI (wiL m cp l i j) - nI (wiL m cp l j i) := by
  have hm := B.1
  obtain ⟨G1, f1, f2, f3⟩ := k_fill_13 G 0
  obtain ⟨r, h1, h2⟩ := lp_iv (st := fun q => C_LE_takeListener_12_s1 (nI l) q.1 q.2) (fun k q => q.1 = nI k ∧ eqx [18] G q.2 ∧ ∀ i j, i < 8 → j < 8 → q.2 18 (8 * i + j) = nI (wiL k cp l i j) - nI (wiL k cp l j i)) (fun r => eqx [18] G r ∧ ∀ i j, i < 8 → j < 8 → r 18 (8 * i + j) = nI (wiL m cp l i j) - nI (wiL m cp l j i)) 0 m (by omega) (by omega) (fun k q _ hk ⟨e, hx, hv⟩ => by
      obtain ⟨b0, b1, b2, b3, b4⟩ := B.2 k hk
      obtain ⟨u0, u1, u2, u3⟩ := k_un B hk
      have Hq := isC_x H hx (by decide) (by decide)
      have hst : C_LE_takeListener_12_s1 (nI l) (nI k) q.2 = bd (if nI (cp 0 k) = nI l then (bd (C_LE_addWin_12 q.2 (nI (cd cp k)) (1 : Int32)) fun G29 => some G29) else (some q.2)) fun G22 => some (.inl (nI (k + 1), G22)) := by
        unfold C_LE_takeListener_12_s1
        rw [Hq.1, if_neg (nI_ge hk (by omega)), bd_of (k_at Hq hm hk), u0]
        dsimp only [nm]
        rw [nI_1]
      have hs : ∀ i j, wiL (k + 1) cp l i j = wiL k cp l i j + (if cp 0 k = l then wnD cp k i j else 0) := fun i j => fb_sm_succ _ _
      by_cases hq : cp 0 k = l
      · obtain ⟨G3, a1, a2, a3⟩ := k_addWin_12 B hk q.2 1
        refine ⟨(nI (k + 1), G3), ?_, rfl, eqx_tr hx a2, fun i j hi hj => ?_⟩
        · show C_LE_takeListener_12_s1 (nI l) q.1 q.2 = _
          rw [e, hst, if_pos (by rw [hq]), show (1 : Int32) = nI 1 from rfl, a1]
          rfl
        · show G3 18 (8 * i + j) = _
          rw [a3 i j hi hj, hv i j hi hj, hs, hs, if_pos hq, if_pos hq, Nat.mul_one, Nat.mul_one, ← nI_add, ← nI_add, i_ad]
      · refine ⟨(nI (k + 1), q.2), ?_, rfl, hx, fun i j hi hj => ?_⟩
        · show C_LE_takeListener_12_s1 (nI l) q.1 q.2 = _
          rw [e, hst, if_neg (fun h => hq ((nE (by omega) (by omega)).mp h))]
          rfl
        · show q.2 18 (8 * i + j) = _
          rw [hv i j hi hj, hs, hs, if_neg hq, if_neg hq]
          rfl) (fun q ⟨e, hx, hv⟩ => by
      refine ⟨q.2, ?_, hx, hv⟩
      have Hq := isC_x H hx (by decide) (by decide)
      show C_LE_takeListener_12_s1 (nI l) q.1 q.2 = _
      unfold C_LE_takeListener_12_s1
      rw [e, Hq.1, if_pos (nI_le (Nat.le_refl _) (by omega))]) ((0 : Int32), G1) ⟨rfl, f2, fun i j hi hj => by
        show G1 18 (8 * i + j) = _
        rw [f3 _ (by omega)]
        show (0 : Int32) = nI 0 - nI 0
        rfl⟩
  exact ⟨r, by unfold C_LE_takeListener_12 C_LE_clearAll_12; rw [f1]; show bd (lp _ FU ((0 : Int32), G1)) _ = _; rw [bd_of h1], h2⟩
theorem k_takeL_14 {m : Nat} {cp : Nat → Nat → Nat} (B : cB m cp) {G : Nat → Nat → Int32} (H : isC G 5 4 m cp) {l : Nat} (hl : l < 8) : ∃ G2, C_LE_takeListener_14 G (nI l) = some G2 ∧ eqx [19] G G2 ∧ ∀ i j, i < 8 → j < 8 → G2 19 (8 * i + j) = nI (wiL m cp l i j) - nI (wiL m cp l j i) := by
  have hm := B.1
  obtain ⟨G1, f1, f2, f3⟩ := k_fill_15 G 0
  obtain ⟨r, h1, h2⟩ := lp_iv (st := fun q => C_LE_takeListener_14_s1 (nI l) q.1 q.2) (fun k q => q.1 = nI k ∧ eqx [19] G q.2 ∧ ∀ i j, i < 8 → j < 8 → q.2 19 (8 * i + j) = nI (wiL k cp l i j) - nI (wiL k cp l j i)) (fun r => eqx [19] G r ∧ ∀ i j, i < 8 → j < 8 → r 19 (8 * i + j) = nI (wiL m cp l i j) - nI (wiL m cp l j i)) 0 m (by omega) (by omega) (fun k q _ hk ⟨e, hx, hv⟩ => by
      obtain ⟨b0, b1, b2, b3, b4⟩ := B.2 k hk
      obtain ⟨u0, u1, u2, u3⟩ := k_un B hk
      have Hq := isC_x H hx (by decide) (by decide)
      have hst : C_LE_takeListener_14_s1 (nI l) (nI k) q.2 = bd (if nI (cp 0 k) = nI l then (bd (C_LE_addWin_14 q.2 (nI (cd cp k)) (1 : Int32)) fun G29 => some G29) else (some q.2)) fun G22 => some (.inl (nI (k + 1), G22)) := by
        unfold C_LE_takeListener_14_s1
        rw [Hq.1, if_neg (nI_ge hk (by omega)), bd_of (k_at Hq hm hk), u0]
        dsimp only [nm]
        rw [nI_1]
      have hs : ∀ i j, wiL (k + 1) cp l i j = wiL k cp l i j + (if cp 0 k = l then wnD cp k i j else 0) := fun i j => fb_sm_succ _ _
      by_cases hq : cp 0 k = l
      · obtain ⟨G3, a1, a2, a3⟩ := k_addWin_14 B hk q.2 1
        refine ⟨(nI (k + 1), G3), ?_, rfl, eqx_tr hx a2, fun i j hi hj => ?_⟩
        · show C_LE_takeListener_14_s1 (nI l) q.1 q.2 = _
          rw [e, hst, if_pos (by rw [hq]), show (1 : Int32) = nI 1 from rfl, a1]
          rfl
        · show G3 19 (8 * i + j) = _
          rw [a3 i j hi hj, hv i j hi hj, hs, hs, if_pos hq, if_pos hq, Nat.mul_one, Nat.mul_one, ← nI_add, ← nI_add, i_ad]
      · refine ⟨(nI (k + 1), q.2), ?_, rfl, hx, fun i j hi hj => ?_⟩
        · show C_LE_takeListener_14_s1 (nI l) q.1 q.2 = _
          rw [e, hst, if_neg (fun h => hq ((nE (by omega) (by omega)).mp h))]
          rfl
        · show q.2 19 (8 * i + j) = _
          rw [hv i j hi hj, hs, hs, if_neg hq, if_neg hq]
          rfl) (fun q ⟨e, hx, hv⟩ => by
      refine ⟨q.2, ?_, hx, hv⟩
      have Hq := isC_x H hx (by decide) (by decide)
      show C_LE_takeListener_14_s1 (nI l) q.1 q.2 = _
      unfold C_LE_takeListener_14_s1
      rw [e, Hq.1, if_pos (nI_le (Nat.le_refl _) (by omega))]) ((0 : Int32), G1) ⟨rfl, f2, fun i j hi hj => by
        show G1 19 (8 * i + j) = _
        rw [f3 _ (by omega)]
        show (0 : Int32) = nI 0 - nI 0
        rfl⟩
  exact ⟨r, by unfold C_LE_takeListener_14 C_LE_clearAll_14; rw [f1]; show bd (lp _ FU ((0 : Int32), G1)) _ = _; rw [bd_of h1], h2⟩
theorem k_take {m : Nat} {cp : Nat → Nat → Nat} (B : cB m cp) {G : Nat → Nat → Int32} (H : isC G 5 4 m cp) : ∃ G2, C_TA_take G = some G2 ∧ eqx [16, 17] G G2 ∧ ∀ i j, i < 8 → j < 8 → G2 16 (8 * i + j) = nI (wiA m cp i j) ∧ G2 17 (8 * i + j) = nI (tiA m cp i j) := by
  have hm := B.1
  obtain ⟨G0, d1, d2, d3⟩ := k_fill_10 G 0
  obtain ⟨G1, f1, f2, f3⟩ := k_fill_11 G0 0
  obtain ⟨r, h1, h2⟩ := lp_iv (st := fun q => C_TA_take_s1 q.1 q.2) (fun k q => q.1 = nI k ∧ eqx [16, 17] G q.2 ∧ ∀ i j, i < 8 → j < 8 → q.2 16 (8 * i + j) = nI (wiA k cp i j) ∧ q.2 17 (8 * i + j) = nI (tiA k cp i j)) (fun r => eqx [16, 17] G r ∧ ∀ i j, i < 8 → j < 8 → r 16 (8 * i + j) = nI (wiA m cp i j) ∧ r 17 (8 * i + j) = nI (tiA m cp i j)) 0 m (by omega) (by omega) (fun k q _ hk ⟨e, hx, hv⟩ => by
      obtain ⟨b0, b1, b2, b3, b4⟩ := B.2 k hk
      obtain ⟨u0, u1, u2, u3⟩ := k_un B hk
      obtain ⟨v1, v2⟩ := k_win B hk
      have Hq := isC_x H hx (by decide) (by decide)
      have hs : ∀ i j, wiA (k + 1) cp i j = wiA k cp i j + wnD cp k i j := fun i j => fb_sm_succ _ _
      have ht : ∀ i j, tiA (k + 1) cp i j = tiA k cp i j + tiD cp k i j := fun i j => fb_sm_succ _ _
      by_cases h0 : cp 3 k = 0
      · obtain ⟨F, hF⟩ : ∃ F, F = cp 1 k := ⟨_, rfl⟩
        obtain ⟨S, hS⟩ : ∃ S, S = cp 2 k := ⟨_, rfl⟩
        rw [← hF] at u1 b1 b3
        rw [← hS] at u2 b2 b3
        refine ⟨(nI (k + 1), wr (wr q.2 17 (nI (8 * F + S)) (q.2 17 (8 * F + S) + 1)) 17 (nI (8 * S + F)) (q.2 17 (8 * S + F) + 1)), ?_, rfl, eqx_tr hx (eqx_tr (eqx_wr (by decide)) (eqx_wr (by decide))), fun i j hi hj => ⟨?_, ?_⟩⟩
        · show C_TA_take_s1 q.1 q.2 = _
          unfold C_TA_take_s1
          rw [e, Hq.1, if_neg (nI_ge hk (by omega)), bd_of (k_at Hq hm hk), u3, h0]
          dsimp only [nm]
          rw [if_pos (show nI 0 = (0 : Int32) from rfl), u1, u2, c8_cell F b1 S b2, c8_cell S b2 F b1, ri_k (show 8 * F + S < 64 by omega) (by decide), ri_k (show 8 * F + S < 64 by omega) (by decide), ri_k (show 8 * S + F < 64 by omega) (by decide), ri_k (show 8 * S + F < 64 by omega) (by decide), nI_clamp (show 8 * F + S < 2 ^ 31 by omega), nI_clamp (show 8 * S + F < 2 ^ 31 by omega), nI_1, wr_ap, if_pos rfl, nI_clamp (show 8 * F + S < 2 ^ 31 by omega), if_neg (show ¬ 8 * S + F = 8 * F + S by omega)]
          rfl
        · dsimp only
          rw [wr_ne (by decide), wr_ne (by decide), (hv i j hi hj).1, hs]
          have e1 : wnD cp k i j = 0 := by unfold wnD; rw [if_neg (by omega)]
          rw [e1, Nat.add_zero]
        · dsimp only
          rw [wr_nI _ _ (show 8 * S + F < 2 ^ 31 by omega), wr_nI _ _ (show 8 * F + S < 2 ^ 31 by omega), va_up_self, va_up_self, up8 _ _ _ _ _ _ b1 hj, up8 _ _ _ _ _ _ b2 hj, ht, ← nI_add, ← (hv i j hi hj).2]
          unfold tiD
          rw [← hF, ← hS]
          by_cases q1 : i = S ∧ j = F
          · rw [if_pos q1, if_pos (by omega), q1.1, q1.2]
            rfl
          · rw [if_neg q1]
            by_cases q2 : i = F ∧ j = S
            · rw [if_pos q2, if_pos (by omega), q2.1, q2.2]
              rfl
            · rw [if_neg q2, if_neg (by omega), i_a0]
      · obtain ⟨W, hW⟩ : ∃ W, W = if cp 3 k = 1 then cp 1 k else cp 2 k := ⟨_, rfl⟩
        obtain ⟨O, hO⟩ : ∃ O, O = if cp 3 k = 1 then cp 2 k else cp 1 k := ⟨_, rfl⟩
        rw [← hW] at v1
        rw [← hO] at v2
        have hWO : W < 8 ∧ O < 8 ∧ W ≠ O := by
          rw [hW, hO]
          by_cases h1 : cp 3 k = 1
          · rw [if_pos h1, if_pos h1]; exact ⟨b1, b2, b3⟩
          · rw [if_neg h1, if_neg h1]; exact ⟨b2, b1, fun e => b3 e.symm⟩
        obtain ⟨w1, w2, w3⟩ := hWO
        have hd : ∀ i j, wnD cp k i j = if i = W ∧ j = O then 1 else 0 := by
          intro i j
          unfold wnD
          rw [hW, hO]
          by_cases h1 : cp 3 k = 1
          · rw [if_pos h1, if_pos h1]
            (repeat' split) <;> first | rfl | (exfalso; omega)
          · rw [if_neg h1, if_neg h1]
            (repeat' split) <;> first | rfl | (exfalso; omega)
        refine ⟨(nI (k + 1), wr q.2 16 (nI (8 * W + O)) (q.2 16 (8 * W + O) + 1)), ?_, rfl, eqx_tr hx (eqx_wr (by decide)), fun i j hi hj => ⟨?_, ?_⟩⟩
        · show C_TA_take_s1 q.1 q.2 = _
          unfold C_TA_take_s1
          rw [e, Hq.1, if_neg (nI_ge hk (by omega)), bd_of (k_at Hq hm hk), u3]
          dsimp only [nm]
          rw [if_neg (show ¬ nI (cp 3 k) = 0 from nI_ne0 (by omega) (by omega)), bd_of v1, bd_of v2, c8_cell W w1 O w2, ri_k (show 8 * W + O < 64 by omega) (by decide), ri_k (show 8 * W + O < 64 by omega) (by decide), nI_clamp (show 8 * W + O < 2 ^ 31 by omega), nI_1]
          rfl
        · dsimp only
          rw [wr_nI _ _ (show 8 * W + O < 2 ^ 31 by omega), va_up_self, up8 _ _ _ _ _ _ w2 hj, hs, ← nI_add, ← (hv i j hi hj).1, hd]
          by_cases q1 : i = W ∧ j = O
          · rw [if_pos q1, if_pos q1, q1.1, q1.2]
            rfl
          · rw [if_neg q1, if_neg q1, i_a0]
        · dsimp only
          rw [wr_ne (by decide), (hv i j hi hj).2, ht]
          have e1 : tiD cp k i j = 0 := by unfold tiD; rw [if_neg (by omega)]
          rw [e1, Nat.add_zero]) (fun q ⟨e, hx, hv⟩ => by
      refine ⟨q.2, ?_, hx, hv⟩
      have Hq := isC_x H hx (by decide) (by decide)
      show C_TA_take_s1 q.1 q.2 = _
      unfold C_TA_take_s1
      rw [e, Hq.1, if_pos (nI_le (Nat.le_refl _) (by omega))]) ((0 : Int32), G1) ⟨rfl, eqx_tr (eqx_sub d2 (by decide)) (eqx_sub f2 (by decide)), fun i j hi hj => ⟨by
        show G1 16 (8 * i + j) = nI 0
        rw [f2 16 (by decide), d3 _ (by omega)]
        rfl, by
        show G1 17 (8 * i + j) = nI 0
        rw [f3 _ (by omega)]
        rfl⟩⟩
  refine ⟨r, ?_, h2⟩
  unfold C_TA_take
  rw [bd_of d1, bd_of f1, bd_of h1]
/-! points -/
def ptD (cp : Nat → Nat → Nat) (c s : Nat) : Nat := if cp 1 c = s then (if cp 3 c = 0 then 1 else if cp 3 c = 1 then 2 else 0) else if cp 2 c = s then (if cp 3 c = 0 then 1 else if cp 3 c = 1 then 0 else 2) else 0
def pts (w : Nat → Nat) (m : Nat) (cp : Nat → Nat → Nat) (s : Nat) : Nat := fb_sm (fun c => ptD cp c s * w (cp 0 c)) m
theorem k_addP_18 {m : Nat} {cp : Nat → Nat → Nat} (B : cB m cp) {c : Nat} (hc : c < m) (G : Nat → Nat → Int32) (v : Int32) : ∃ G2, C_SD_addPoints_18 G (nI (cd cp c)) v = some G2 ∧ eqx [23] G G2 ∧ ∀ s, s < 8 → G2 23 s = G 23 s + nI (ptD cp c s) * v := by
  obtain ⟨b0, b1, b2, b3, b4⟩ := B.2 c hc
  obtain ⟨u0, u1, u2, u3⟩ := k_un B hc
  obtain ⟨sh, hsh⟩ : ∃ sh : Nat, sh = if cp 3 c = 0 then 1 else if cp 3 c = 1 then 2 else 0 := ⟨_, rfl⟩
  have hle : sh ≤ 2 := by rw [hsh]; (repeat' split) <;> omega
  have h2 : (2 : Int32) - nI sh = nI (2 - sh) := by rw [show (2 : Int32) = nI 2 from rfl, pk_sub hle]
  have hx6 : (if nI (cp 3 c) = 0 then (some (1 : Int32)) else (if nI (cp 3 c) = (1 : Int32) then (some (2 : Int32)) else (some (0 : Int32)))) = some (nI sh) := by
    rw [show (0 : Int32) = nI 0 from rfl, show (1 : Int32) = nI 1 from rfl, show (2 : Int32) = nI 2 from rfl, hsh]
    simp only [nE (show cp 3 c < 1000 by omega) (show 0 < 1000 by omega), nE (show cp 3 c < 1000 by omega) (show 1 < 1000 by omega)]
    (repeat' split) <;> first | rfl | (exfalso; omega)
  have hpt : ∀ s, ptD cp c s = if cp 1 c = s then sh else if cp 2 c = s then 2 - sh else 0 := by
    intro s
    unfold ptD
    rw [hsh]
    (repeat' split) <;> first | rfl | (exfalso; omega) | omega
  refine ⟨wr (wr G 23 (nI (cp 1 c)) (G 23 (cp 1 c) + nI sh * v)) 23 (nI (cp 2 c)) (G 23 (cp 2 c) + nI (2 - sh) * v), ?_, eqx_tr (eqx_wr (by decide)) (eqx_wr (by decide)), fun s hs => ?_⟩
  · unfold C_SD_addPoints_18
    rw [u3]
    dsimp only [nm]
    rw [bd_of hx6, if_neg (by decide), u1, u2, ri_k b1 (by decide), ri_k b1 (by decide), ri_k b2 (by decide), ri_k b2 (by decide), nI_clamp (show cp 1 c < 2 ^ 31 by omega), nI_clamp (show cp 2 c < 2 ^ 31 by omega), h2, wr_ap, if_pos rfl, nI_clamp (show cp 1 c < 2 ^ 31 by omega), if_neg (fun e => b3 e.symm)]
  · rw [wr_nI _ _ (show cp 2 c < 2 ^ 31 by omega), wr_nI _ _ (show cp 1 c < 2 ^ 31 by omega), va_up_self, va_up_self, up_ap, up_ap, hpt]
    by_cases q1 : s = cp 2 c
    · rw [if_pos q1, if_neg (show ¬ cp 1 c = s by omega), if_pos q1.symm, q1]
    · rw [if_neg q1]
      by_cases q2 : s = cp 1 c
      · rw [if_pos q2, if_pos q2.symm, q2]
      · rw [if_neg q2, if_neg (show ¬ cp 1 c = s by omega), if_neg (show ¬ cp 2 c = s by omega)]
        show _ = _ + (0 : Int32) * v
        first | (rw [Int32.zero_mul]; exact (i_a0 _).symm) | grind
theorem k_addP_19 {m : Nat} {cp : Nat → Nat → Nat} (B : cB m cp) {c : Nat} (hc : c < m) (G : Nat → Nat → Int32) (v : Int32) : ∃ G2, C_SD_addPoints_19 G (nI (cd cp c)) v = some G2 ∧ eqx [24] G G2 ∧ ∀ s, s < 8 → G2 24 s = G 24 s + nI (ptD cp c s) * v := by
  obtain ⟨b0, b1, b2, b3, b4⟩ := B.2 c hc
  obtain ⟨u0, u1, u2, u3⟩ := k_un B hc
  obtain ⟨sh, hsh⟩ : ∃ sh : Nat, sh = if cp 3 c = 0 then 1 else if cp 3 c = 1 then 2 else 0 := ⟨_, rfl⟩
  have hle : sh ≤ 2 := by rw [hsh]; (repeat' split) <;> omega
  have h2 : (2 : Int32) - nI sh = nI (2 - sh) := by rw [show (2 : Int32) = nI 2 from rfl, pk_sub hle]
  have hx6 : (if nI (cp 3 c) = 0 then (some (1 : Int32)) else (if nI (cp 3 c) = (1 : Int32) then (some (2 : Int32)) else (some (0 : Int32)))) = some (nI sh) := by
    rw [show (0 : Int32) = nI 0 from rfl, show (1 : Int32) = nI 1 from rfl, show (2 : Int32) = nI 2 from rfl, hsh]
    simp only [nE (show cp 3 c < 1000 by omega) (show 0 < 1000 by omega), nE (show cp 3 c < 1000 by omega) (show 1 < 1000 by omega)]
    (repeat' split) <;> first | rfl | (exfalso; omega)
  have hpt : ∀ s, ptD cp c s = if cp 1 c = s then sh else if cp 2 c = s then 2 - sh else 0 := by
    intro s
    unfold ptD
    rw [hsh]
    (repeat' split) <;> first | rfl | (exfalso; omega) | omega
  refine ⟨wr (wr G 24 (nI (cp 1 c)) (G 24 (cp 1 c) + nI sh * v)) 24 (nI (cp 2 c)) (G 24 (cp 2 c) + nI (2 - sh) * v), ?_, eqx_tr (eqx_wr (by decide)) (eqx_wr (by decide)), fun s hs => ?_⟩
  · unfold C_SD_addPoints_19
    rw [u3]
    dsimp only [nm]
    rw [bd_of hx6, if_neg (by decide), u1, u2, ri_k b1 (by decide), ri_k b1 (by decide), ri_k b2 (by decide), ri_k b2 (by decide), nI_clamp (show cp 1 c < 2 ^ 31 by omega), nI_clamp (show cp 2 c < 2 ^ 31 by omega), h2, wr_ap, if_pos rfl, nI_clamp (show cp 1 c < 2 ^ 31 by omega), if_neg (fun e => b3 e.symm)]
  · rw [wr_nI _ _ (show cp 2 c < 2 ^ 31 by omega), wr_nI _ _ (show cp 1 c < 2 ^ 31 by omega), va_up_self, va_up_self, up_ap, up_ap, hpt]
    by_cases q1 : s = cp 2 c
    · rw [if_pos q1, if_neg (show ¬ cp 1 c = s by omega), if_pos q1.symm, q1]
    · rw [if_neg q1]
      by_cases q2 : s = cp 1 c
      · rw [if_pos q2, if_pos q2.symm, q2]
      · rw [if_neg q2, if_neg (show ¬ cp 1 c = s by omega), if_neg (show ¬ cp 2 c = s by omega)]
        show _ = _ + (0 : Int32) * v
        first | (rw [Int32.zero_mul]; exact (i_a0 _).symm) | grind
/-- what weigh leaves: margins, points, weights of the call -/
def isS (g : Nat → Nat → Int32) (n : Nat) (w : Nat → Nat) (m : Nat) (cp : Nat → Nat → Nat) : Prop := g 21 0 = nI n ∧ isW g 22 w ∧ (∀ i j, i < 8 → j < 8 → g 20 (8 * i + j) = mgn w m cp i j) ∧ ∀ s, s < 8 → g 23 s = nI (pts w m cp s)
theorem k_weigh {m : Nat} {cp : Nat → Nat → Nat} (B : cB m cp) {G : Nat → Nat → Int32} (H : isC G 5 4 m cp) {n : Nat} (hn : G 0 0 = nI n) (hn8 : n ≤ 8) {w : Nat → Nat} (hw : isW G 2 w) (a3 : Int32) : ∃ G2, C_LT_weigh G a3 = some G2 ∧ eqx [20, 21, 22, 23, 29, 30] G G2 ∧ isS G2 n (fun i => if nI i = a3 then 0 else w i) m cp ∧ G2 29 0 = 0 ∧ G2 30 0 = 0 := by
  have hm := B.1
  obtain ⟨w', hw'⟩ : ∃ w' : Nat → Nat, w' = fun i => if nI i = a3 then 0 else w i := ⟨_, rfl⟩
  obtain ⟨G5, hG5⟩ : ∃ G5, G5 = wf (wf (wf G 21 (nI n)) 29 (0 : Int32)) 30 (0 : Int32) := ⟨_, rfl⟩
  have x5 : eqx [20, 21, 22, 23, 29, 30] G G5 := by
    rw [hG5]
    exact eqx_tr (eqx_tr (eqx_wf (by decide)) (eqx_wf (by decide))) (eqx_wf (by decide))
  have a21 : G5 21 0 = nI n := by rw [hG5, wf_ne (by decide), wf_ne (by decide), wf_ap, if_pos rfl]
  have a29 : G5 29 0 = 0 := by rw [hG5, wf_ne (by decide), wf_ap, if_pos rfl]
  have a30 : G5 30 0 = 0 := by rw [hG5, wf_ap, if_pos rfl]
  obtain ⟨G10, h1, y1, y2⟩ := lp_iv (st := fun q => C_SD_weigh_1_s1 a3 q.1 q.2) (fun k q => q.1 = nI k ∧ eqx [22] G5 q.2 ∧ ∀ i, i < k → q.2 22 i = nI (w' i)) (fun r => eqx [22] G5 r ∧ ∀ i, i < 8 → r 22 i = nI (w' i)) 0 8 (by omega) (by omega) (fun k q _ hk ⟨e, hx, hv⟩ => by
      have e2 : q.2 2 k = nI (w k) := by rw [hx 2 (by decide), x5 2 (by decide)]; exact hw k hk
      have hb : (if nI k = a3 then (some (0 : Int32)) else (if nI k < (8 : Int32) then (ri 8 (nI k) <| some (q.2 2 (nI k).toNatClampNeg)) else (some (0 : Int32)))) = some (nI (w' k)) := by
        rw [hw']
        show _ = some (nI (if nI k = a3 then 0 else w k))
        by_cases c : nI k = a3
        · rw [if_pos c, if_pos c]
          rfl
        · rw [if_neg c, if_neg c, if_pos (show nI k < (8 : Int32) from nI_lt hk (by decide)), ri_k hk (by decide), nI_clamp (by omega), e2]
      refine ⟨(nI (k + 1), wr q.2 22 (nI k) (nI (w' k))), ?_, rfl, eqx_tr hx (eqx_wr (by decide)), fun i hi => ?_⟩
      · show C_SD_weigh_1_s1 a3 q.1 q.2 = _
        unfold C_SD_weigh_1_s1
        rw [e, if_neg (show ¬ (8 : Int32) ≤ nI k from nI_ge hk (by decide)), bd_of hb, ri_k hk (by decide)]
        show some (Sum.inl (nI k + 1, _)) = _
        rw [nI_1]
      · show wr q.2 22 (nI k) (nI (w' k)) 22 i = _
        rw [wr_ap, if_pos rfl, nI_clamp (by omega)]
        by_cases h : i = k
        · rw [if_pos h, h]
        · rw [if_neg h]
          exact hv i (by omega)) (fun q ⟨e, hx, hv⟩ => by
      refine ⟨q.2, ?_, hx, hv⟩
      show C_SD_weigh_1_s1 a3 q.1 q.2 = _
      unfold C_SD_weigh_1_s1
      rw [e, if_pos (show (8 : Int32) ≤ nI 8 from nI_le (Nat.le_refl _) (by decide))]) ((0 : Int32), G5) ⟨rfl, eqx_rf, fun t h => absurd h (by omega)⟩
  obtain ⟨G14, f1, f2, f3⟩ := k_fill_23 G10 0
  obtain ⟨G17, d1, d2, d3⟩ := k_fill_18 G14 0
  have x17 : eqx [20, 22, 23] G5 G17 := eqx_tr (eqx_tr (eqx_sub y1 (by decide)) (eqx_sub f2 (by decide))) (eqx_sub d2 (by decide))
  have z22 : ∀ i, i < 8 → G17 22 i = nI (w' i) := fun i hi => by rw [d2 22 (by decide), f2 22 (by decide)]; exact y2 i hi
  obtain ⟨r, g1, g2⟩ := lp_iv (st := fun q => C_SD_weigh_1_s2 q.1 q.2) (fun k q => q.1 = nI k ∧ eqx [20, 23] G17 q.2 ∧ (∀ i j, i < 8 → j < 8 → q.2 20 (8 * i + j) = mgn w' k cp i j) ∧ ∀ s, s < 8 → q.2 23 s = nI (pts w' k cp s)) (fun r => eqx [20, 23] G17 r ∧ (∀ i j, i < 8 → j < 8 → r 20 (8 * i + j) = mgn w' m cp i j) ∧ ∀ s, s < 8 → r 23 s = nI (pts w' m cp s)) 0 m (by omega) (by omega) (fun k q _ hk ⟨e, hx, hv, hp⟩ => by
      obtain ⟨b0, b1, b2, b3, b4⟩ := B.2 k hk
      obtain ⟨u0, u1, u2, u3⟩ := k_un B hk
      have Hq := isC_x (isC_x (isC_x H x5 (by decide) (by decide)) x17 (by decide) (by decide)) hx (by decide) (by decide)
      have ew : q.2 22 (cp 0 k) = nI (w' (cp 0 k)) := by rw [hx 22 (by decide)]; exact z22 _ b0
      obtain ⟨G3, s1, s2, s3⟩ := k_addWin_22 B hk q.2 (w' (cp 0 k))
      obtain ⟨G4, t1, t2, t3⟩ := k_addP_18 B hk G3 (nI (w' (cp 0 k)))
      refine ⟨(nI (k + 1), G4), ?_, rfl, eqx_tr hx (eqx_tr (eqx_sub s2 (by decide)) (eqx_sub t2 (by decide))), fun i j hi hj => ?_, fun s hs => ?_⟩
      · show C_SD_weigh_1_s2 q.1 q.2 = _
        unfold C_SD_weigh_1_s2
        rw [e, Hq.1, if_neg (nI_ge hk (by omega)), bd_of (k_at Hq hm hk), u0]
        dsimp only [nm]
        rw [ri_k b0 (by decide), nI_clamp (by omega), ew, bd_of s1, bd_of t1, nI_1]
      · show G4 20 (8 * i + j) = _
        rw [t2 20 (by decide), s3 i j hi hj, hv i j hi hj]
        have hs : ∀ i j, wiW w' (k + 1) cp i j = wiW w' k cp i j + wnD cp k i j * w' (cp 0 k) := fun i j => fb_sm_succ _ _
        unfold mgn
        rw [hs, hs, ← nI_add, ← nI_add, i_ad]
      · show G4 23 s = _
        rw [t3 s hs, s2 23 (by decide), hp s hs, pk_mul, nI_add]
        have hs : pts w' (k + 1) cp s = pts w' k cp s + ptD cp k s * w' (cp 0 k) := fb_sm_succ _ _
        rw [hs]) (fun q ⟨e, hx, hv⟩ => by
      refine ⟨q.2, ?_, hx, hv⟩
      have Hq := isC_x (isC_x (isC_x H x5 (by decide) (by decide)) x17 (by decide) (by decide)) hx (by decide) (by decide)
      show C_SD_weigh_1_s2 q.1 q.2 = _
      unfold C_SD_weigh_1_s2
      rw [e, Hq.1, if_pos (nI_le (Nat.le_refl _) (by omega))]) ((0 : Int32), G17) ⟨rfl, eqx_rf, fun i j hi hj => by
        show G17 20 (8 * i + j) = nI 0 - nI 0
        rw [d2 20 (by decide), f3 _ (by omega)]
        rfl, fun s hs => by
        show G17 23 s = nI 0
        rw [d3 _ hs]
        rfl⟩
  refine ⟨r, ?_, eqx_tr x5 (eqx_tr (eqx_sub x17 (by decide)) (eqx_sub g2.1 (by decide))), ⟨?_, ?_, ?_, ?_⟩, ?_, ?_⟩
  · have e8 : (if (8 : Int32) < nI n then (8 : Int32) else nI n) = nI n := if_neg (show ¬ (8 : Int32) < nI n from nI_nlt hn8 (by decide))
    unfold C_LT_weigh C_SD_weigh_1 C_LE_clearAll_22
    rw [hn, e8]
    dsimp only [nm]
    rw [← hG5, bd_of h1, f1]
    rw [bd_of (show bd (some G14) (fun G1 => some G1) = some G14 from rfl), bd_of d1, bd_of g1]
    rfl
  · rw [g2.1 21 (by decide), x17 21 (by decide)]; exact a21
  · intro i hi
    rw [g2.1 22 (by decide), z22 i hi, hw']
  · rw [← hw']; exact g2.2.1
  · rw [← hw']; exact g2.2.2
  · rw [g2.1 29 (by decide), x17 29 (by decide)]; exact a29
  · rw [g2.1 30 (by decide), x17 30 (by decide)]; exact a30
