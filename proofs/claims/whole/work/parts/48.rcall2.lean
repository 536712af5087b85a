/-! CALLS: trial, append, clearBuffer, count, comparison -/
theorem plM_ne {n L : Nat} {s : SN} (B : snB n L s) (hL : L ≤ 8) {x : Nat × Nat × TA} (hx : s.2.2.1 = some x) : ¬ plM s.2.2.1 = (-1 : Int32) := by
  rw [hx]
  exact nI_nn (show x.1 < 2 ^ 31 by have := (B.2.2.2 x hx).1; omega)
theorem m_tr {h : Nat → Nat → Int32} {T n t : Nat} {a : TA} (hT : T ≤ 56) (hn : n ≤ 8) (hA : isA h 12 10 T a) (hB : okA a T n) (ht : t < T) : h 12 t / (10 : Int32) = nI (a t).1 ∧ h 12 t - h 12 t / (10 : Int32) * (10 : Int32) = nI (a t).2 := by
  obtain ⟨b1, b2, b3⟩ := hB t ht
  rw [hA t ht, show (10 : Int32) = nI 10 from rfl, pk_rem (by omega) (by omega) (by omega), pk_div (by omega) (by omega) (by omega), show (10 * (a t).1 + (a t).2) % 10 = (a t).2 by omega, show (10 * (a t).1 + (a t).2) / 10 = (a t).1 by omega]
  exact ⟨rfl, rfl⟩
theorem p_trial {G h : Nat → Nat → Int32} {P : Nat → Option PRec} (H : RR G P h) (E : Nat → Nat → Int64) (a0 a1 : Int32) : okO P (fun r G2 P2 => C_LT_trial G P a0 a1 = some r ∧ G2 = G ∧ P2 = P) (fun r h2 => M_trial h a0 a1 = some (r, h2)) ∨ twO [(ise, 1), (iob, 2)] P (X_LT_trial G E P a0 a1) (fun h2 => ∃ r, M_trial h a0 a1 = some (r, h2)) := by
  obtain ⟨n, L, w, s, K, hs, v, len, tx, B, C, M⟩ := id H
  obtain ⟨b1, b2, b3, b4, b5, b6, b7, b8, b9, b10⟩ := id B
  obtain ⟨d1, d2, d3⟩ := C.2.2.2.1
  obtain ⟨m1, m2, m3, m4, m5⟩ := M.2.2.2.1
  cases hp : s.2.2.1 with
  | none =>
    rw [hp] at d3 m2
    refine Or.inr (tw0 (E := E) (ex := ise) (k := 1) H ?_ ⟨0, ?_⟩ (by decide))
    · unfold X_LT_trial; rw [show P 0 = none from d3]; rfl
    · unfold M_trial; rw [if_pos (show h 9 0 = (-1 : Int32) from m2), bd_of rfl]; dsimp only [nm]; rw [t_1]
  | some x =>
    have mne : ¬ h 9 0 = (-1 : Int32) := by rw [m2]; exact plM_ne b6 b4 hp
    obtain ⟨x1, x2, x3, x4⟩ := b6.2.2.2 x hp
    have m5x := m5 x hp
    rw [hp] at d3 m3
    obtain ⟨z, z1, z2, z3, z4⟩ := d3
    rcases q_idx a0 (n := x.2.1) (by omega) with ⟨j0, hj, rfl, r1, r2, r3⟩ | ⟨r1, r2, r3⟩
    · left
      obtain ⟨k1, k2⟩ := k_firstAt (show x.2.1 < 1000 by omega) b2 z4 x3 hj
      have hA : isA (wf h 0 0) 12 10 x.2.1 x.2.2 := fun t ht => by rw [wf_ne (by decide)]; exact m5x t ht
      obtain ⟨t1, t2⟩ := m_tr x2 b2 hA x3 hj
      by_cases c : a1 = 0
      · refine ok0 (r := nI (x.2.2 j0).1) H ⟨?_, rfl, rfl⟩ ?_
        · unfold C_LT_trial P_size
          rw [z1, oc_some rfl, z3]
          dsimp only [nm]
          rw [bd0_of r1, if_pos c, bd_of k1]
        · unfold M_trial
          rw [if_neg mne, show h 10 0 = nI x.2.1 from m3, r3]
          dsimp only [bd, nm]
          rw [if_neg (by decide)]
          dsimp only
          rw [t_0, if_pos c, ri_k (show j0 < 56 by omega) (by decide), nI_clamp (by omega), t1]
      · refine ok0 (r := nI (x.2.2 j0).2) H ⟨?_, rfl, rfl⟩ ?_
        · unfold C_LT_trial P_size
          rw [z1, oc_some rfl, z3]
          dsimp only [nm]
          rw [bd0_of r1, if_neg c, bd_of k2]
        · unfold M_trial
          rw [if_neg mne, show h 10 0 = nI x.2.1 from m3, r3]
          dsimp only [bd, nm]
          rw [if_neg (by decide)]
          dsimp only
          rw [t_0, if_neg c, ri_k (show j0 < 56 by omega) (by decide), nI_clamp (by omega), t2]
    · refine Or.inr (tw0 (E := E) (ex := iob) (k := 2) H ?_ ⟨0, ?_⟩ (by decide))
      · unfold X_LT_trial P_size; rw [z1, oc_some rfl, z3]; dsimp only [nm]; rw [r2]; rfl
      · unfold M_trial
        rw [if_neg mne, show h 10 0 = nI x.2.1 from m3, r3]
        dsimp only [bd, nm]
        rw [if_pos rfl]
        dsimp only
        rw [t_2]
theorem p_append {G h : Nat → Nat → Int32} {P : Nat → Option PRec} (H : RR G P h) (E : Nat → Nat → Int64) (a0 : Int32) : okO P (fun r G2 P2 => C_LT_append G a0 = some (r, G2) ∧ P2 = P) (fun r h2 => M_append h a0 = some (r, h2)) ∨ twO [(iae, 1), (ise, 2)] P (X_LT_append G E a0) (fun h2 => ∃ r, M_append h a0 = some (r, h2)) := by
  obtain ⟨n, L, w, s, K, hs, v, len, tx, B, C, M⟩ := id H
  obtain ⟨b1, b2, b3, b4, b5, b6, b7, b8, b9, b10⟩ := id B
  by_cases c1 : a0 < (33 : Int32)
  · refine Or.inr (tw0 (E := E) (ex := iae) (k := 1) H ?_ ⟨0, ?_⟩ (by decide))
    · unfold X_LT_append; rw [if_pos c1]; rfl
    · unfold M_append M_within; rw [if_pos c1, bd_of rfl, bd_of (if_pos rfl)]; dsimp only [nm]; rw [t_1]
  by_cases c2 : (126 : Int32) < a0
  · refine Or.inr (tw0 (E := E) (ex := iae) (k := 1) H ?_ ⟨0, ?_⟩ (by decide))
    · unfold X_LT_append; rw [if_neg c1, if_pos c2]; rfl
    · unfold M_append M_within; rw [if_neg c1, if_pos c2, bd_of rfl, bd_of (if_pos rfl)]; dsimp only [nm]; rw [t_1]
  obtain ⟨a, b, c, d, e, f, g, i, j⟩ := id C
  obtain ⟨ma, mb, mc, md, me, mf, mg, mi⟩ := id M
  by_cases c3 : len = 60
  · refine Or.inr (tw0 (E := E) (ex := ise) (k := 2) H ?_ ⟨0, ?_⟩ (by decide))
    · unfold X_LT_append C_TX_isFull; rw [if_neg c1, if_neg c2, i, c3]; rfl
    · unfold M_append M_within; rw [if_neg c1, if_neg c2, bd_of rfl, if_neg (by decide), if_pos (show h 20 0 = (60 : Int32) by rw [mg, c3]; rfl), bd_of rfl]; dsimp only [nm]; rw [t_2]
  · left
    have hl : len < 60 := by omega
    have q : C_TX_isFull G = some 0 := by unfold C_TX_isFull; rw [i, show (60 : Int32) = nI 60 from rfl, if_pos (nI_lt hl (by decide))]
    refine ⟨nI (len + 1), wf (wr G 8 (nI len) a0) 9 (nI (len + 1)), P, wf (wr (wf h 0 0) 21 (nI len) a0) 20 (nI (len + 1)), ⟨?_, rfl⟩, ?_, ?_, ?_, fun _ h => h⟩
    · unfold C_LT_append
      rw [if_neg c1, if_neg c2, bd_of rfl, bd0_of ra1, bd_of q, if_pos rfl]
      unfold C_TX_put
      rw [bd_of q, if_pos rfl, i, ri_k hl (by decide)]
      dsimp only [nm]
      rw [wr_ne (show (9 : Nat) ≠ 8 by decide), i, nI_1, bd_of rfl, wf_ap, if_pos rfl]
    · unfold M_append M_within
      rw [if_neg c1, if_neg c2, bd_of rfl, if_neg (by decide), if_neg (show ¬ h 20 0 = (60 : Int32) by rw [mg]; exact fun u => c3 ((nE (by omega) (show 60 < 1000 by decide)).mp u)), bd_of rfl]
      dsimp only [nm]
      rw [t_0, wf_ne (show (20 : Nat) ≠ 0 by decide), mg, ri_k hl (by decide), wr_ne (show (20 : Nat) ≠ 21 by decide), wf_ne (show (20 : Nat) ≠ 0 by decide), mg, nI_1, wf_ap, if_pos rfl]
    · rw [wf_ne (by decide), wr_ne (by decide), wf00]
    · have gx : ∀ k, k ≠ 8 → k ≠ 9 → (wf (wr G 8 (nI len) a0) 9 (nI (len + 1))) k = G k := fun k p1 p2 => by rw [wf_ne p2, wr_ne p1]
      have hx : ∀ k, k ≠ 0 → k ≠ 20 → k ≠ 21 → (wf (wr (wf h 0 0) 21 (nI len) a0) 20 (nI (len + 1))) k = h k := fun k p1 p2 p3 => by rw [wf_ne p2, wr_ne p3, wf_ne p1]
      refine ⟨n, L, w, s, K, hs, v, len + 1, va_up tx len a0, ⟨b1, b2, b3, b4, b5, b6, b7, b8, b9, by omega⟩, ?_, ?_⟩
      · refine ⟨by rw [gx 0 (by decide) (by decide)]; exact a, by rw [gx 1 (by decide) (by decide)]; exact b, fun t ht => by rw [gx 2 (by decide) (by decide)]; exact c t ht, cSn_x d (gx _ (by decide) (by decide)) (gx _ (by decide) (by decide)) (gx _ (by decide) (by decide)), by rw [gx 6 (by decide) (by decide)]; exact e, by rw [gx 7 (by decide) (by decide)]; exact f, fun k hk => cSn_x (g k hk) (gx _ (by omega) (by omega)) (gx _ (by omega) (by omega)) (gx _ (by omega) (by omega)), by rw [wf_ap, if_pos rfl], fun t ht => ?_⟩
        rw [wf_ne (by decide), wr_ap, if_pos rfl, nI_clamp (by omega), up_ap]
        by_cases u : t = len
        · rw [if_pos u, if_pos u]
        · rw [if_neg u, if_neg u]; exact j t (by omega)
      · refine ⟨by rw [hx 1 (by decide) (by decide) (by decide)]; exact ma, by rw [hx 2 (by decide) (by decide) (by decide)]; exact mb, fun t ht => by rw [hx 3 (by decide) (by decide) (by decide)]; exact mc t ht, mCu_x md (fun k h1 h2 => hx k (by omega) (by omega) (by omega)), by rw [hx 13 (by decide) (by decide) (by decide)]; exact me, fun k hk => mRo_x (mf k hk) (fun y h1 h2 => hx y (by omega) (by omega) (by omega)), by rw [wf_ap, if_pos rfl], fun t ht => ?_⟩
        rw [wf_ne (by decide), wr_ap, if_pos rfl, nI_clamp (by omega), up_ap]
        by_cases u : t = len
        · rw [if_pos u, if_pos u]
        · rw [if_neg u, if_neg u, wf_ne (by decide)]; exact mi t (by omega)
/-- the text is cleared -/
theorem RR_clear {n L : Nat} {w : Nat → Nat} {s : SN} {K : Nat} {hs : Nat → SN} {v len : Nat} {tx : Nat → Int32} {G h : Nat → Nat → Int32} {P : Nat → Option PRec} (B : RP n L w s K hs v len) (C : RC n L w s K hs v len tx G P) (M : RM n L w s K hs len tx h) : RR (wf G 9 (0 : Int32)) P (wf h 20 (0 : Int32)) := by
  obtain ⟨b1, b2, b3, b4, b5, b6, b7, b8, b9, b10⟩ := B
  obtain ⟨a, b, c, d, e, f, g, i, j⟩ := C
  obtain ⟨ma, mb, mc, md, me, mf, mg, mi⟩ := M
  refine ⟨n, L, w, s, K, hs, v, 0, tx, ⟨b1, b2, b3, b4, b5, b6, b7, b8, b9, by decide⟩, ?_, ?_⟩
  · exact ⟨by rw [wf_ne (by decide)]; exact a, by rw [wf_ne (by decide)]; exact b, fun t ht => by rw [wf_ne (by decide)]; exact c t ht, cSn_x d (wf_ne (by decide)) (wf_ne (by decide)) (wf_ne (by decide)), by rw [wf_ne (by decide)]; exact e, by rw [wf_ne (by decide)]; exact f, fun k hk => cSn_x (g k hk) (wf_ne (by omega)) (wf_ne (by omega)) (wf_ne (by omega)), by rw [wf_ap, if_pos rfl]; rfl, fun t ht => absurd ht (Nat.not_lt_zero _)⟩
  · exact ⟨by rw [wf_ne (by decide)]; exact ma, by rw [wf_ne (by decide)]; exact mb, fun t ht => by rw [wf_ne (by decide)]; exact mc t ht, mCu_x md (fun k h1 h2 => wf_ne (by omega)), by rw [wf_ne (by decide)]; exact me, fun k hk => mRo_x (mf k hk) (fun y h1 h2 => wf_ne (by omega)), by rw [wf_ap, if_pos rfl]; rfl, fun t ht => absurd ht (Nat.not_lt_zero _)⟩
theorem p_clearBuffer {G h : Nat → Nat → Int32} {P : Nat → Option PRec} (H : RR G P h) : okO P (fun r G2 P2 => C_LT_clearBuffer G = some (r, G2) ∧ P2 = P) (fun r h2 => M_clearBuffer h = some (r, h2)) := by
  obtain ⟨n, L, w, s, K, hs, v, len, tx, B, C, M⟩ := RR_t H 0
  refine ⟨nI len, wf G 9 0, P, wf (wf h 0 0) 20 0, ⟨?_, rfl⟩, ?_, ?_, RR_clear B C M, fun _ h => h⟩
  · unfold C_LT_clearBuffer; dsimp only [nm]; rw [C.2.2.2.2.2.2.2.1]
  · unfold M_clearBuffer; dsimp only [nm]; rw [M.2.2.2.2.2.2.1]
  · rw [wf_ne (by decide), wf00]
/-- what count answers -/
def cntV (n L : Nat) (s : SN) (K j : Nat) : Int32 := match j with
  | 0 => nI n
  | 1 => nI L
  | 2 => nI s.1
  | 3 => nI (cnA s.1 s.2.1 0)
  | 4 => nI (cnA s.1 s.2.1 1)
  | 5 => nI (plT s.2.2.1 - s.2.2.2)
  | 6 => nI K
  | _ => plM s.2.2.1
theorem k_left {n L : Nat} {w : Nat → Nat} {s : SN} {K : Nat} {hs : Nat → SN} {v len : Nat} {tx : Nat → Int32} {G : Nat → Nat → Int32} {P : Nat → Option PRec} (B : RP n L w s K hs v len) (C : RC n L w s K hs v len tx G P) : C_LT_trialsLeft G P = some (nI (plT s.2.2.1 - s.2.2.2)) := by
  obtain ⟨b1, b2, b3, b4, b5, b6, b7, b8, b9, b10⟩ := id B
  obtain ⟨d1, d2, d3⟩ := C.2.2.2.1
  unfold C_LT_trialsLeft
  cases hp : s.2.2.1 with
  | none =>
    rw [hp] at d3
    rw [show P 0 = none from d3, oc_none rfl]
    show _ = some (nI (0 - s.2.2.2))
    rw [Nat.zero_sub]
    rfl
  | some x =>
    obtain ⟨x1, x2, x3, x4⟩ := b6.2.2.2 x hp
    rw [hp] at d3
    obtain ⟨z, z1, z2, z3, z4⟩ := d3
    unfold P_size
    rw [z1, oc_some rfl, z3, d2]
    dsimp only [nm]
    rw [sb_k x4]
    rfl
theorem cc8 {j : Nat} (h : j ≤ 7) : j = 0 ∨ j = 1 ∨ j = 2 ∨ j = 3 ∨ j = 4 ∨ j = 5 ∨ j = 6 ∨ j = 7 := by omega
theorem k_count {n L : Nat} {w : Nat → Nat} {s : SN} {K : Nat} {hs : Nat → SN} {v len : Nat} {tx : Nat → Int32} {G : Nat → Nat → Int32} {P : Nat → Option PRec} (B : RP n L w s K hs v len) (C : RC n L w s K hs v len tx G P) {j : Nat} (hj : j ≤ 7) : C_LT_countOf G P (nI j) = some (cntV n L s K j) := by
  obtain ⟨b1, b2, b3, b4, b5, b6, b7, b8, b9, b10⟩ := id B
  obtain ⟨d1, d2, d3⟩ := C.2.2.2.1
  have e0 := k_countA b6.1 d1 (show 0 < 3 by decide)
  have e1 := k_countA b6.1 d1 (show 1 < 3 by decide)
  have el := k_left B C
  have q : ∀ x : Int32, C_LT_countOf G P (nI j) = (if nI j = (0 : Int32) then (some (G 0 0)) else if nI j = (1 : Int32) then (some (G 1 0)) else if nI j = (2 : Int32) then (some (G 5 0)) else if nI j = (3 : Int32) then (bd (C_CO_countAnswers G (0 : Int32)) fun r7 => some r7) else if nI j = (4 : Int32) then (bd (C_CO_countAnswers G (1 : Int32)) fun r11 => some r11) else if nI j = (5 : Int32) then (bd (C_LT_trialsLeft G P) fun r15 => some r15) else if nI j = (6 : Int32) then (some (G 7 0)) else (some (plM s.2.2.1))) := by
    intro _
    unfold C_LT_countOf
    cases hp : s.2.2.1 with
    | none =>
      rw [hp] at d3
      rw [show P 0 = none from d3, oc_none rfl]
      rfl
    | some x =>
      rw [hp] at d3
      obtain ⟨z, z1, z2, z3, z4⟩ := d3
      rw [z1, oc_some rfl, z2]
      rfl
  rw [q 0, C.1, C.2.1, d1.1, show (0 : Int32) = nI 0 from rfl, show (1 : Int32) = nI 1 from rfl, bd_of e0, bd_of e1, bd_of el, C.2.2.2.2.2.1]
  rcases cc8 hj with u | u | u | u | u | u | u | u <;> subst u <;> rfl
theorem m_counted {n L : Nat} {w : Nat → Nat} {s : SN} {K : Nat} {hs : Nat → SN} {v len : Nat} {tx : Nat → Int32} {h : Nat → Nat → Int32} (B : RP n L w s K hs v len) (M : RM n L w s K hs len tx h) {j : Nat} (hj : j ≤ 7) : M_counted h (nI j) = some (cntV n L s K j) := by
  obtain ⟨b1, b2, b3, b4, b5, b6, b7, b8, b9, b10⟩ := id B
  obtain ⟨m1, m2, m3, m4, m5⟩ := M.2.2.2.1
  have e0 := m_ties b6.1 m1
  have e1 := m_firsts b6.1 m1 (show 1 < 3 by decide)
  have el : (if h 9 0 = (-1 : Int32) then (some (0 : Int32)) else (some ((h 10 0) - (h 11 0)))) = some (nI (plT s.2.2.1 - s.2.2.2)) := by
    cases hp : s.2.2.1 with
    | none =>
      rw [hp] at m2
      rw [if_pos (show h 9 0 = (-1 : Int32) from m2)]
      show _ = some (nI (0 - s.2.2.2))
      rw [Nat.zero_sub]
      rfl
    | some x =>
      obtain ⟨x1, x2, x3, x4⟩ := b6.2.2.2 x hp
      rw [if_neg (by rw [m2]; exact plM_ne b6 b4 hp), m3, m4, hp]
      show some (nI x.2.1 - nI s.2.2.2) = some (nI (x.2.1 - s.2.2.2))
      rw [sb_k x4]
  unfold M_counted
  rw [el, M.1, M.2.1, m1.1, M.2.2.2.2.1, m2, show (1 : Int32) = nI 1 from rfl, bd_of e0, bd_of e1]
  rcases cc8 hj with u | u | u | u | u | u | u | u <;> subst u <;> rfl
theorem p_count {G h : Nat → Nat → Int32} {P : Nat → Option PRec} (H : RR G P h) (E : Nat → Nat → Int64) (a0 : Int32) : okO P (fun r G2 P2 => C_LT_count G P a0 = some r ∧ G2 = G ∧ P2 = P) (fun r h2 => M_count h a0 = some (r, h2)) ∨ twO [(iae, 1)] P (X_LT_count G E P a0) (fun h2 => ∃ r, M_count h a0 = some (r, h2)) := by
  by_cases c1 : a0 < 0
  · refine Or.inr (tw0 (E := E) (ex := iae) (k := 1) H ?_ ⟨0, ?_⟩ (by decide))
    · unfold X_LT_count; rw [if_pos c1]; rfl
    · unfold M_count M_within; rw [if_pos c1, bd_of rfl, bd_of (if_pos rfl)]; dsimp only [nm]; rw [t_1]
  by_cases c2 : (7 : Int32) < a0
  · refine Or.inr (tw0 (E := E) (ex := iae) (k := 1) H ?_ ⟨0, ?_⟩ (by decide))
    · unfold X_LT_count; rw [if_neg c1, if_pos c2]; rfl
    · unfold M_count M_within; rw [if_neg c1, if_pos c2, bd_of rfl, bd_of (if_pos rfl)]; dsimp only [nm]; rw [t_1]
  left
  obtain ⟨j0, i1, i2, rfl⟩ := q_rng (lo := 0) (hi := 7) (by decide) (by decide) c1 c2
  obtain ⟨n, L, w, s, K, hs, v, len, tx, B, C, M⟩ := RR_t H 0
  refine ok0 (r := cntV n L s K j0) H ⟨?_, rfl, rfl⟩ ?_
  · unfold C_LT_count
    rw [if_neg c1, if_neg c2, bd_of rfl, bd0_of ra1, bd_of (k_count B C i2)]
  · unfold M_count M_within
    rw [if_neg c1, if_neg c2, bd_of rfl, bd_of (if_neg (by decide))]
    dsimp only [nm]
    rw [t_0, bd_of (m_counted B M i2)]
theorem k_prop {m : Nat} {cp : Nat → Nat → Nat} (B : cB m cp) {c j : Nat} (hc : c < m) (hj : j ≤ 3) : C_CO_propertyOf (nI (cd cp c)) (nI j) = some (nI (cp j c)) := by
  obtain ⟨e1, e2, e3, e4⟩ := k_un B hc
  unfold C_CO_propertyOf
  dsimp only [nm]
  rw [e1, e2, e3, e4]
  have : j = 0 ∨ j = 1 ∨ j = 2 ∨ j = 3 := by omega
  rcases this with u | u | u | u <;> subst u <;> rfl
theorem m_prop {m : Nat} {cp : Nat → Nat → Nat} {h : Nat → Nat → Int32} (B : cB m cp) (M : isM h m cp) {c j : Nat} (hc : c < m) (hj : j ≤ 3) : M_property h (nI c) (nI j) = some (nI (cp j c)) := by
  have b1 := B.1
  obtain ⟨e1, e2, e3, e4⟩ := M.2 c hc
  unfold M_property
  rw [ri_k (show c < 48 by omega) (by decide), ri_k (show c < 48 by omega) (by decide), ri_k (show c < 48 by omega) (by decide), ri_k (show c < 48 by omega) (by decide), nI_clamp (by omega), e1, e2, e3, e4]
  have : j = 0 ∨ j = 1 ∨ j = 2 ∨ j = 3 := by omega
  rcases this with u | u | u | u <;> subst u <;> rfl
theorem p_comparison {G h : Nat → Nat → Int32} {P : Nat → Option PRec} (H : RR G P h) (E : Nat → Nat → Int64) (a0 a1 : Int32) : okO P (fun r G2 P2 => C_LT_comparison G a0 a1 = some r ∧ G2 = G ∧ P2 = P) (fun r h2 => M_comparison h a0 a1 = some (r, h2)) ∨ twO [(iob, 1), (iae, 2)] P (X_LT_comparison G E a0 a1) (fun h2 => ∃ r, M_comparison h a0 a1 = some (r, h2)) := by
  obtain ⟨n, L, w, s, K, hs, v, len, tx, B, C, M⟩ := RR_t H 0
  obtain ⟨b1, b2, b3, b4, b5, b6, b7, b8, b9, b10⟩ := id B
  obtain ⟨d1, d2, d3⟩ := C.2.2.2.1
  obtain ⟨m1, m2, m3, m4, m5⟩ := M.2.2.2.1
  have bm := b6.1.1
  have h4 : h 4 0 = nI s.1 := by have := m1.1; rw [wf_ne (by decide)] at this; exact this
  rcases q_idx a0 (n := s.1) (by omega) with ⟨j0, hj, rfl, r1, r2, r3⟩ | ⟨r1, r2, r3⟩
  · by_cases c1 : a1 < 0
    · refine Or.inr (tw0 (E := E) (ex := iae) (k := 2) H ?_ ⟨0, ?_⟩ (by decide))
      · unfold X_LT_comparison; rw [d1.1, r1, r2, if_pos c1]; rfl
      · unfold M_comparison; rw [bd_of (m_cmp h4 r3 (by decide))]; unfold M_within; rw [if_pos c1]; dsimp only [nm, bd]; rw [if_neg (by decide), if_pos rfl]; dsimp only; rw [t_2]
    by_cases c2 : (3 : Int32) < a1
    · refine Or.inr (tw0 (E := E) (ex := iae) (k := 2) H ?_ ⟨0, ?_⟩ (by decide))
      · unfold X_LT_comparison; rw [d1.1, r1, r2, if_neg c1, if_pos c2]; rfl
      · unfold M_comparison; rw [bd_of (m_cmp h4 r3 (by decide))]; unfold M_within; rw [if_neg c1, if_pos c2]; dsimp only [nm, bd]; rw [if_neg (by decide), if_pos rfl]; dsimp only; rw [t_2]
    left
    obtain ⟨j1, i1, i2, rfl⟩ := q_rng (lo := 0) (hi := 3) (by decide) (by decide) c1 c2
    refine ok0 (r := nI (s.2.1 j1 j0)) H ⟨?_, rfl, rfl⟩ ?_
    · unfold C_LT_comparison
      rw [d1.1, bd0_of r1, if_neg c1, if_neg c2, bd_of rfl, bd0_of ra1, bd_of (k_at d1 bm hj), bd_of (k_prop b6.1 hj i2)]
    · unfold M_comparison
      rw [bd_of (m_cmp h4 r3 (by decide))]; unfold M_within; rw [if_neg c1, if_neg c2]; dsimp only [nm, bd]; rw [if_neg (by decide), if_neg (by decide)]; dsimp only; rw [t_0, m_prop b6.1 m1 hj i2]
  · refine Or.inr (tw0 (E := E) (ex := iob) (k := 1) H ?_ ⟨0, ?_⟩ (by decide))
    · unfold X_LT_comparison; rw [d1.1, r2]; rfl
    · unfold M_comparison; rw [bd_of (m_cmp h4 r3 (by decide)), bd_of (if_pos rfl)]; dsimp only [nm]; rw [t_1]
