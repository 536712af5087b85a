/-! UNDO, both sides -/
def pop (hs : Nat → SN) : Nat → SN := fun k => hs (k + 1)
theorem k_undo {n L : Nat} {w : Nat → Nat} {s : SN} {K : Nat} {hs : Nat → SN} {v len : Nat} {tx : Nat → Int32} {G : Nat → Nat → Int32} {P : Nat → Option PRec} (B : RP n L w s K hs v len) (H : RC n L w s K hs v len tx G P) (hK : 0 < K) : ∃ G2, C_LT_undo G P = some (nI (hs 0).1, G2, va_up P 0 (P (1 + v))) ∧ RC n L w (hs 0) (K - 1) (pop hs) ((v + 11) % 12) len tx G2 (va_up P 0 (P (1 + v))) := by
  obtain ⟨b1, b2, b3, b4, b5, b6, b7, b8, b9, b10⟩ := B
  obtain ⟨a, b, c, d, e, f, g, i, j⟩ := id H
  obtain ⟨u, hu⟩ : ∃ u, u = (v + 11) % 12 := ⟨_, rfl⟩
  rw [← hu]
  obtain ⟨G1, hG1⟩ : ∃ G1, G1 = wf (wf G 6 (nI u)) 7 (nI (K - 1)) := ⟨_, rfl⟩
  have e1 : C_HI_takeLatest G = some (some v, G1) := by
    unfold C_HI_takeLatest
    have q1 : (if G 6 0 ≤ 0 then (some (11 : Int32)) else (some ((G 6 0) - (1 : Int32)))) = some (nI u) := by
      rw [e]
      by_cases q : v = 0
      · rw [if_pos (by rw [q]; decide), show u = 11 by omega]; rfl
      · rw [if_neg (nI_nle (by omega) (by omega)), show (1 : Int32) = nI 1 from rfl, sb_k (by omega), show u = v - 1 by omega]
    rw [if_neg (show ¬ G 7 0 = 0 by rw [f]; exact nI_ne0 hK (by omega))]
    dsimp only [nm]
    rw [bd_of q1, wf_ne (show (7 : Nat) ≠ 6 by decide), f, show (1 : Int32) = nI 1 from rfl, sb_k (by omega), ← hG1, e, ri_k b9 (by decide), nI_clamp (by omega)]
  have h13 : ∀ k, k ≠ 6 → k ≠ 7 → G1 k = G k := fun k p1 p2 => by rw [hG1, wf_ne p2, wf_ne p1]
  obtain ⟨G2, hG2⟩ : ∃ G2, G2 = wf (C_CO_copyFrom_from v G1) 3 (C_CO_copyFrom_from v G1 (50 + v) 0) := ⟨_, rfl⟩
  have hk1 : ∀ k, k ≠ 6 → k ≠ 7 → k ≠ 3 → k ≠ 4 → k ≠ 5 → G2 k = G k := by
    intro k p1 p2 p3 p4 p5
    rw [hG2, wf_ne p3]
    unfold C_CO_copyFrom_from
    dsimp only [nm]
    rw [wf_ne p5]
    unfold wc
    rw [va_up_ne _ _ p4, hG1, wf_ne p2, wf_ne p1]
  obtain ⟨⟨d1, d2⟩, d3, d4⟩ := g 0 hK
  rw [slt_0 b9] at d1 d2 d3 d4
  have q5 : G2 5 0 = nI (hs 0).1 := by
    rw [hG2, wf_ne (by decide)]
    unfold C_CO_copyFrom_from wc
    dsimp only [nm]
    rw [wf_ap, if_pos rfl, va_up_ne _ _ (by omega), h13 _ (by omega) (by omega)]
    exact d1
  have c1 : cSn G2 (P (1 + v)) 3 5 4 (hs 0) := by
    refine ⟨⟨q5, fun t ht => ?_⟩, ?_, d4⟩
    · rw [hG2, wf_ne (by decide)]
      unfold C_CO_copyFrom_from wc
      dsimp only [nm]
      rw [wf_ne (by decide), up_ap, if_pos rfl]
      unfold va_cpy
      rw [if_pos ⟨by omega, by have := (b8 0 hK).1.1; omega⟩, show 0 + (t - 0) = t by omega, h13 _ (by omega) (by omega)]
      exact d2 t ht
    · rw [hG2, wf_ap, if_pos rfl]
      unfold C_CO_copyFrom_from wc
      dsimp only [nm]
      rw [wf_ne (by omega), va_up_ne _ _ (by omega), h13 _ (by omega) (by omega)]
      exact d3
  refine ⟨G2, ?_, ?_⟩
  · unfold C_LT_undo
    rw [bd2_of e1, oc_some rfl, gd_of b9]
    dsimp only [nm]
    cases hp : P (1 + v) with
    | none =>
      rw [oc_none rfl, ← hG2, q5]
    | some z =>
      rw [oc_some rfl, ← hG2, q5]
  · have hP1 : ∀ k, va_up P 0 (P (1 + v)) (1 + k) = P (1 + k) := fun k => va_up_ne _ _ (by omega)
    refine ⟨by rw [hk1 0 (by decide) (by decide) (by decide) (by decide) (by decide)]; exact a, by rw [hk1 1 (by decide) (by decide) (by decide) (by decide) (by decide)]; exact b, fun t ht => by rw [hk1 2 (by decide) (by decide) (by decide) (by decide) (by decide)]; exact c t ht, by rw [up_ap, if_pos rfl]; exact c1, ?_, ?_, ?_, by rw [hk1 9 (by decide) (by decide) (by decide) (by decide) (by decide)]; exact i, fun t ht => by rw [hk1 8 (by decide) (by decide) (by decide) (by decide) (by decide)]; exact j t ht⟩
    · rw [hG2, wf_ne (by decide)]
      unfold C_CO_copyFrom_from wc
      dsimp only [nm]
      rw [wf_ne (by decide), va_up_ne _ _ (by decide), hG1, wf_ne (by decide), wf_ap, if_pos rfl]
    · rw [hG2, wf_ne (by decide)]
      unfold C_CO_copyFrom_from wc
      dsimp only [nm]
      rw [wf_ne (by decide), va_up_ne _ _ (by decide), hG1, wf_ap, if_pos rfl]
    · intro k hk
      have q := slt_u (v := v) (k := k) b9 (by omega)
      rw [← hu] at q
      rw [q, hP1]
      have hl := slt_lt v (k + 1)
      exact cSn_x (g (k + 1) (by omega)) (hk1 _ (by omega) (by omega) (by omega) (by omega) (by omega)) (hk1 _ (by omega) (by omega) (by omega) (by omega) (by omega)) (hk1 _ (by omega) (by omega) (by omega) (by omega) (by omega))
theorem x_undo0 {G : Nat → Nat → Int32} {E : Nat → Nat → Int64} {P : Nat → Option PRec} (h : G 7 0 = 0) : X_LT_undo G E P = some ("java/lang/IllegalStateException", G, E) := by
  unfold X_LT_undo C_HI_takeLatest
  rw [if_pos h]
  rfl
theorem m_undo1 {g : Nat → Nat → Int32} {m K : Nat} {cp : Nat → Nat → Nat} (hK : K < 12) (B : cB m cp) (h4 : g 4 0 = nI m) (h13 : g 13 0 = nI K) (hr : ∀ c, c < m → g 15 (48 * K + c) = nI (pk4 cp c)) : ∃ h, lp (fun q => M_undo_s1 q.1 q.2) FU ((0 : Int32), g) = some h ∧ eqx [5, 6, 7, 8] g h ∧ isM h m cp := by
  have b1 := B.1
  obtain ⟨v, e1, e2, e3⟩ := lp_iv (st := fun q => M_undo_s1 q.1 q.2) (fun k q => q.1 = nI k ∧ eqx [5, 6, 7, 8] g q.2 ∧ (∀ c, c < k → q.2 5 c = nI (cp 0 c) ∧ q.2 6 c = nI (cp 1 c) ∧ q.2 7 c = nI (cp 2 c) ∧ q.2 8 c = nI (cp 3 c))) (fun h => eqx [5, 6, 7, 8] g h ∧ isM h m cp) 0 m (by omega) (by omega) (fun k q _ hk ⟨q1, q2, q3⟩ => by
      obtain ⟨B1, B2, B3, _, B5⟩ := B.2 k hk
      refine ⟨(nI (k + 1), wr (wr (wr (wr q.2 5 (nI k) (nI (cp 0 k))) 6 (nI k) (nI (cp 1 k))) 7 (nI k) (nI (cp 2 k))) 8 (nI k) (nI (cp 3 k))), ?_, rfl, eqx_tr q2 wr4_x, fun c hc => ?_⟩
      · show M_undo_s1 q.1 q.2 = _
        unfold M_undo_s1
        rw [q1, q2 4 (by decide), h4, if_neg (nI_ge hk (by omega)), q2 13 (by decide), h13, show (48 : Int32) = nI 48 from rfl, pk_mul, nI_add, ri_k (show 48 * K + k < 576 by omega) (by decide), nI_clamp (by omega), q2 15 (by decide), hr k hk]
        unfold pk4
        rw [bd_of (m_unpack (show k < 48 by omega) B1 B2 B3 B5)]
        dsimp only [nm]
        rw [nI_1]
      · dsimp only
        obtain ⟨w1, w2, w3, w4⟩ := wr4_q (h := q.2) (c := k) (l := cp 0 k) (f := cp 1 k) (s := cp 2 k) (a := cp 3 k) (by omega) c
        rw [w1, w2, w3, w4]
        by_cases u : c = k
        · rw [if_pos u, if_pos u, if_pos u, if_pos u, u]; exact ⟨rfl, rfl, rfl, rfl⟩
        · rw [if_neg u, if_neg u, if_neg u, if_neg u]; exact q3 c (by omega)) (fun q ⟨q1, q2, q3⟩ => by
      refine ⟨q.2, ?_, q2, by rw [q2 4 (by decide)]; exact h4, q3⟩
      show M_undo_s1 q.1 q.2 = _
      unfold M_undo_s1
      rw [q1, q2 4 (by decide), h4, if_pos (nI_le (Nat.le_refl _) (by omega))]) ((0 : Int32), g) ⟨rfl, eqx_rf, fun c hc => by omega⟩
  exact ⟨v, e1, e2, e3⟩
theorem m_undo2 {g : Nat → Nat → Int32} {T K : Nat} (hT : T ≤ 56) (hK : K < 12) (h10 : g 10 0 = nI T) (h13 : g 13 0 = nI K) : ∃ h, lp (fun q => M_undo_s2 q.1 q.2) FU ((0 : Int32), g) = some h ∧ eqx [12] g h ∧ (∀ t, t < T → h 12 t = g 19 (56 * K + t)) := by
  obtain ⟨v, e1, e2, e3⟩ := lp_iv (st := fun q => M_undo_s2 q.1 q.2) (fun k q => q.1 = nI k ∧ eqx [12] g q.2 ∧ (∀ t, t < k → q.2 12 t = g 19 (56 * K + t))) (fun h => eqx [12] g h ∧ (∀ t, t < T → h 12 t = g 19 (56 * K + t))) 0 T (by omega) (by omega) (fun k q _ hk ⟨q1, q2, q3⟩ => by
      refine ⟨(nI (k + 1), wr q.2 12 (nI k) (g 19 (56 * K + k))), ?_, rfl, eqx_tr q2 (eqx_wr (by decide)), fun c hc => ?_⟩
      · show M_undo_s2 q.1 q.2 = _
        unfold M_undo_s2
        rw [q1, q2 10 (by decide), h10, if_neg (nI_ge hk (by omega)), q2 13 (by decide), h13, show (56 : Int32) = nI 56 from rfl, pk_mul, nI_add, ri_k (show 56 * K + k < 672 by omega) (by decide), ri_k (show k < 56 by omega) (by decide), nI_clamp (show 56 * K + k < 2 ^ 31 by omega), q2 19 (by decide)]
        dsimp only [nm]
        rw [nI_1]
      · dsimp only
        rw [wr_ap, nI_clamp (show k < 2 ^ 31 by omega), if_pos rfl]
        by_cases c' : c = k
        · rw [if_pos c', c']
        · rw [if_neg c']; exact q3 c (by omega)) (fun q ⟨q1, q2, q3⟩ => by
      refine ⟨q.2, ?_, q2, q3⟩
      show M_undo_s2 q.1 q.2 = _
      unfold M_undo_s2
      rw [q1, q2 10 (by decide), h10, if_pos (nI_le (Nat.le_refl _) (by omega))]) ((0 : Int32), g) ⟨rfl, eqx_rf, fun c hc => by omega⟩
  exact ⟨v, e1, e2, e3⟩
theorem m_undo {n L : Nat} {w : Nat → Nat} {s : SN} {K : Nat} {hs : Nat → SN} {v len : Nat} {tx : Nat → Int32} {h : Nat → Nat → Int32} (B : RP n L w s K hs v len) (H : RM n L w s K hs len tx h) (hK : 0 < K) : ∃ h2, M_undo h = some (nI (hs 0).1, h2) ∧ h2 0 0 = 0 ∧ RM n L w (hs 0) (K - 1) (pop hs) len tx h2 := by
  obtain ⟨b1, b2, b3, b4, b5, b6, b7, b8, b9, b10⟩ := B
  obtain ⟨a, b, c, d, e, f, gg, i⟩ := id H
  obtain ⟨r1, r2, r3, r4, r5, r6⟩ := f 0 hK
  rw [show K - 1 - 0 = K - 1 by omega] at r1 r2 r3 r4 r5 r6
  have b0 := b8 0 hK
  obtain ⟨g4, hg4⟩ : ∃ g4, g4 = wf (wf (wf (wf (wf (wf h 0 (0 : Int32)) 13 (nI (K - 1))) 4 (h 14 (K - 1))) 9 (h 16 (K - 1))) 10 (h 17 (K - 1))) 11 (h 18 (K - 1)) := ⟨_, rfl⟩
  have hx4 : eqx [0, 4, 9, 10, 11, 13] h g4 := by rw [hg4]; exact eqx_tr (eqx_tr (eqx_tr (eqx_tr (eqx_tr (eqx_wf (by decide)) (eqx_wf (by decide))) (eqx_wf (by decide))) (eqx_wf (by decide))) (eqx_wf (by decide))) (eqx_wf (by decide))
  have k4 : g4 4 0 = nI (hs 0).1 := by rw [hg4, wf_ne (by decide), wf_ne (by decide), wf_ne (by decide), wf_ap, if_pos rfl]; exact r1
  have k9 : g4 9 0 = plM (hs 0).2.2.1 := by rw [hg4, wf_ne (by decide), wf_ne (by decide), wf_ap, if_pos rfl]; exact r3
  have k10 : g4 10 0 = nI (plT (hs 0).2.2.1) := by rw [hg4, wf_ne (by decide), wf_ap, if_pos rfl]; exact r4
  have k11 : g4 11 0 = nI (hs 0).2.2.2 := by rw [hg4, wf_ap, if_pos rfl]; exact r5
  have k13 : g4 13 0 = nI (K - 1) := by rw [hg4, wf_ne (by decide), wf_ne (by decide), wf_ne (by decide), wf_ne (by decide), wf_ap, if_pos rfl]
  have k0 : g4 0 0 = 0 := by rw [hg4, wf_ne (by decide), wf_ne (by decide), wf_ne (by decide), wf_ne (by decide), wf_ne (by decide), wf_ap, if_pos rfl]
  obtain ⟨g5, p1, p2, p3⟩ := m_undo1 (g := g4) (K := K - 1) (by omega) b0.1 k4 k13 (fun c hc => by rw [hx4 15 (by decide)]; exact r2 c hc)
  obtain ⟨g6, s1, s2, s3⟩ := m_undo2 (g := g5) (K := K - 1) (plT_le b0) (by omega) (by rw [p2 10 (by decide)]; exact k10) (by rw [p2 13 (by decide)]; exact k13)
  have hx : eqx [0, 4, 5, 6, 7, 8, 9, 10, 11, 12, 13] h g6 := eqx_tr (eqx_tr (eqx_sub hx4 (by decide)) (eqx_sub p2 (by decide))) (eqx_sub s2 (by decide))
  refine ⟨g6, ?_, by rw [s2 0 (by decide), p2 0 (by decide)]; exact k0, ?_⟩
  · unfold M_undo
    rw [e, if_neg (nI_nle hK (by omega)), bd_of rfl]
    dsimp only [nm]
    rw [if_pos (show wf h 0 (0 : Int32) 0 0 ≤ 0 by rw [wf_ap, if_pos rfl]; decide), wf_ne (show (13 : Nat) ≠ 0 by decide), e, show (1 : Int32) = nI 1 from rfl, sb_k (show 1 ≤ K by omega)]
    simp only [wf_ap, reduceIte]
    rw [ri_k (show K - 1 < 12 by omega) (by decide)]
    simp only [wf_ap, reduceIte, show ¬ (13 : Nat) = 4 by decide, show ¬ (13 : Nat) = 9 by decide, show ¬ (13 : Nat) = 10 by decide, show ¬ (14 : Nat) = 13 by decide, show ¬ (14 : Nat) = 0 by decide, show ¬ (16 : Nat) = 4 by decide, show ¬ (16 : Nat) = 13 by decide, show ¬ (16 : Nat) = 0 by decide, show ¬ (17 : Nat) = 4 by decide, show ¬ (17 : Nat) = 9 by decide, show ¬ (17 : Nat) = 13 by decide, show ¬ (17 : Nat) = 0 by decide, show ¬ (18 : Nat) = 4 by decide, show ¬ (18 : Nat) = 9 by decide, show ¬ (18 : Nat) = 10 by decide, show ¬ (18 : Nat) = 13 by decide, show ¬ (18 : Nat) = 0 by decide]
    rw [ri_k (show K - 1 < 12 by omega) (by decide), ri_k (show K - 1 < 12 by omega) (by decide), ri_k (show K - 1 < 12 by omega) (by decide), nI_clamp (show K - 1 < 2 ^ 31 by omega), ← hg4, bd_of p1, bd_of s1, s2 4 (by decide), p2 4 (by decide), k4]
  · have q : ∀ k, 14 ≤ k → g6 k = h k := fun k hk => hx k (by simp; omega)
    refine ⟨by rw [hx 1 (by decide)]; exact a, by rw [hx 2 (by decide)]; exact b, fun t ht => by rw [hx 3 (by decide)]; exact c t ht, ⟨?_, ?_, ?_, ?_, fun x hx t ht => ?_⟩, ?_, fun k hk => ?_, by rw [q 20 (by decide)]; exact gg, fun t ht => by rw [q 21 (by decide)]; exact i t ht⟩
    · exact ⟨by rw [s2 4 (by decide)]; exact p3.1, fun c hc => by rw [s2 5 (by decide), s2 6 (by decide), s2 7 (by decide), s2 8 (by decide)]; exact p3.2 c hc⟩
    · rw [s2 9 (by decide), p2 9 (by decide)]; exact k9
    · rw [s2 10 (by decide), p2 10 (by decide)]; exact k10
    · rw [s2 11 (by decide), p2 11 (by decide)]; exact k11
    · rw [s3 t (by rw [plT_some hx]; exact ht), p2 19 (by decide), hx4 19 (by decide)]
      exact r6 x hx t ht
    · rw [s2 13 (by decide), p2 13 (by decide)]; exact k13
    · have := f (k + 1) (by omega)
      rw [show K - 1 - (k + 1) = K - 1 - 1 - k by omega] at this
      exact mRo_x this (fun y h1 _ => q y h1)
