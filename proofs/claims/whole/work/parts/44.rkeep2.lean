/-! HISTORY: the reference keeps; both undo -/
theorem m_keep1 {g : Nat → Nat → Int32} {m K : Nat} {cp : Nat → Nat → Nat} (H : isM g m cp) (B : cB m cp) (hK : K < 12) (h13 : g 13 0 = nI K) : ∃ h, lp (fun q => M_keep_s1 q.1 q.2) FU ((0 : Int32), g) = some h ∧ eqx [15] g h ∧ (∀ c, c < m → h 15 (48 * K + c) = nI (pk4 cp c)) ∧ (∀ i, i < 48 * K → h 15 i = g 15 i) := by
  have b1 := B.1
  obtain ⟨v, e1, e2, e3, e4⟩ := lp_iv (st := fun q => M_keep_s1 q.1 q.2) (fun k q => q.1 = nI k ∧ eqx [15] g q.2 ∧ (∀ c, c < k → q.2 15 (48 * K + c) = nI (pk4 cp c)) ∧ (∀ i, i < 48 * K → q.2 15 i = g 15 i)) (fun h => eqx [15] g h ∧ (∀ c, c < m → h 15 (48 * K + c) = nI (pk4 cp c)) ∧ (∀ i, i < 48 * K → h 15 i = g 15 i)) 0 m (by omega) (by omega) (fun k q _ hk ⟨q1, q2, q3, q4⟩ => by
      have hM : isM q.2 m cp := ⟨by rw [q2 4 (by decide)]; exact H.1, fun c hc => by rw [q2 5 (by decide), q2 6 (by decide), q2 7 (by decide), q2 8 (by decide)]; exact H.2 c hc⟩
      refine ⟨(nI (k + 1), wr q.2 15 (nI (48 * K + k)) (nI (pk4 cp k))), ?_, rfl, eqx_tr q2 (eqx_wr (by decide)), fun c hc => ?_, fun i hi => ?_⟩
      · show M_keep_s1 q.1 q.2 = _
        unfold M_keep_s1
        rw [q1, hM.1, if_neg (nI_ge hk (by omega)), bd_of (m_packed hM B hk), q2 13 (by decide), h13, show (48 : Int32) = nI 48 from rfl, pk_mul, nI_add, ri_k (show 48 * K + k < 576 by omega) (by decide)]
        dsimp only [nm]
        rw [nI_1]
      · dsimp only
        rw [wr_ap, nI_clamp (show 48 * K + k < 2 ^ 31 by omega), if_pos rfl]
        by_cases c' : c = k
        · rw [if_pos (by omega), c']
        · rw [if_neg (by omega)]; exact q3 c (by omega)
      · dsimp only
        rw [wr_ap, nI_clamp (show 48 * K + k < 2 ^ 31 by omega), if_pos rfl, if_neg (by omega)]
        exact q4 i hi) (fun q ⟨q1, q2, q3, q4⟩ => by
      refine ⟨q.2, ?_, q2, q3, q4⟩
      show M_keep_s1 q.1 q.2 = _
      unfold M_keep_s1
      rw [q1, q2 4 (by decide), H.1, if_pos (nI_le (Nat.le_refl _) (by omega))]) ((0 : Int32), g) ⟨rfl, eqx_rf, fun c hc => by omega, fun i _ => rfl⟩
  exact ⟨v, e1, e2, e3, e4⟩
theorem m_keep2 {g : Nat → Nat → Int32} {T K : Nat} (hT : T ≤ 56) (hK : K < 12) (h10 : g 10 0 = nI T) (h13 : g 13 0 = nI K) : ∃ h, lp (fun q => M_keep_s2 q.1 q.2) FU ((0 : Int32), g) = some h ∧ eqx [19] g h ∧ (∀ t, t < T → h 19 (56 * K + t) = g 12 t) ∧ (∀ i, i < 56 * K → h 19 i = g 19 i) := by
  obtain ⟨v, e1, e2, e3, e4⟩ := lp_iv (st := fun q => M_keep_s2 q.1 q.2) (fun k q => q.1 = nI k ∧ eqx [19] g q.2 ∧ (∀ t, t < k → q.2 19 (56 * K + t) = g 12 t) ∧ (∀ i, i < 56 * K → q.2 19 i = g 19 i)) (fun h => eqx [19] g h ∧ (∀ t, t < T → h 19 (56 * K + t) = g 12 t) ∧ (∀ i, i < 56 * K → h 19 i = g 19 i)) 0 T (by omega) (by omega) (fun k q _ hk ⟨q1, q2, q3, q4⟩ => by
      refine ⟨(nI (k + 1), wr q.2 19 (nI (56 * K + k)) (g 12 k)), ?_, rfl, eqx_tr q2 (eqx_wr (by decide)), fun c hc => ?_, fun i hi => ?_⟩
      · show M_keep_s2 q.1 q.2 = _
        unfold M_keep_s2
        rw [q1, q2 10 (by decide), h10, if_neg (nI_ge hk (by omega)), q2 13 (by decide), h13, show (56 : Int32) = nI 56 from rfl, pk_mul, nI_add, ri_k (show k < 56 by omega) (by decide), ri_k (show 56 * K + k < 672 by omega) (by decide), nI_clamp (show k < 2 ^ 31 by omega), q2 12 (by decide)]
        dsimp only [nm]
        rw [nI_1]
      · dsimp only
        rw [wr_ap, nI_clamp (show 56 * K + k < 2 ^ 31 by omega), if_pos rfl]
        by_cases c' : c = k
        · rw [if_pos (by omega), c']
        · rw [if_neg (by omega)]; exact q3 c (by omega)
      · dsimp only
        rw [wr_ap, nI_clamp (show 56 * K + k < 2 ^ 31 by omega), if_pos rfl, if_neg (by omega)]
        exact q4 i hi) (fun q ⟨q1, q2, q3, q4⟩ => by
      refine ⟨q.2, ?_, q2, q3, q4⟩
      show M_keep_s2 q.1 q.2 = _
      unfold M_keep_s2
      rw [q1, q2 10 (by decide), h10, if_pos (nI_le (Nat.le_refl _) (by omega))]) ((0 : Int32), g) ⟨rfl, eqx_rf, fun c hc => by omega, fun i _ => rfl⟩
  exact ⟨v, e1, e2, e3, e4⟩
theorem plT_le {n L : Nat} {s : SN} (B : snB n L s) : plT s.2.2.1 ≤ 56 := by
  have h := B.2.2.2
  cases e : s.2.2.1 with
  | none => exact Nat.zero_le _
  | some x => exact (h x e).2.1
theorem plT_some {p : Option (Nat × Nat × TA)} {x : Nat × Nat × TA} (e : p = some x) : plT p = x.2.1 := by rw [e]; rfl
theorem m_keep0 {n L : Nat} {w : Nat → Nat} {s : SN} {K : Nat} {hs : Nat → SN} {len : Nat} {tx : Nat → Int32} {g : Nat → Nat → Int32} (B : snB n L s) (hB : ∀ k, k < K → snB n L (hs k)) (hK : K < 12) (H : RM n L w s K hs len tx g) : ∃ h2, (ri 12 (g 13 0) <|
    nm (wr g 14 (g 13 0) (g 4 0)) fun G7 =>
    ri 12 (G7 13 0) <|
    nm (wr G7 16 (G7 13 0) (G7 9 0)) fun G10 =>
    ri 12 (G10 13 0) <|
    nm (wr G10 17 (G10 13 0) (G10 10 0)) fun G13 =>
    ri 12 (G13 13 0) <|
    nm (wr G13 18 (G13 13 0) (G13 11 0)) fun G16 =>
    bd (lp (fun q => M_keep_s1 q.1 q.2) FU ((0 : Int32), G16)) fun G21 =>
    bd (lp (fun q => M_keep_s2 q.1 q.2) FU ((0 : Int32), G21)) fun G28 =>
    nm (wf G28 13 ((G28 13 0) + (1 : Int32))) fun G32 =>
    some G32) = some h2 ∧ eqx [13, 14, 15, 16, 17, 18, 19] g h2 ∧ RM n L w s (K + 1) (psh s hs) len tx h2 := by
  obtain ⟨a, b, c, d, e, f, gg, i⟩ := id H
  obtain ⟨d1, d2, d3, d4, d5⟩ := id d
  obtain ⟨g4, hg4⟩ : ∃ g4, g4 = wr (wr (wr (wr g 14 (nI K) (g 4 0)) 16 (nI K) (g 9 0)) 17 (nI K) (g 10 0)) 18 (nI K) (g 11 0) := ⟨_, rfl⟩
  have hx4 : eqx [14, 16, 17, 18] g g4 := by rw [hg4]; exact eqx_tr (eqx_tr (eqx_tr (eqx_wr (by decide)) (eqx_wr (by decide))) (eqx_wr (by decide))) (eqx_wr (by decide))
  have hM : isM g4 s.1 s.2.1 := ⟨by rw [hx4 4 (by decide)]; exact d1.1, fun c hc => by rw [hx4 5 (by decide), hx4 6 (by decide), hx4 7 (by decide), hx4 8 (by decide)]; exact d1.2 c hc⟩
  obtain ⟨g5, p1, p2, p3, p4⟩ := m_keep1 hM B.1 hK (by rw [hx4 13 (by decide)]; exact e)
  obtain ⟨g6, r1, r2, r3, r4⟩ := m_keep2 (g := g5) (plT_le B) hK (by rw [p2 10 (by decide), hx4 10 (by decide)]; exact d3) (by rw [p2 13 (by decide), hx4 13 (by decide)]; exact e)
  have hx : eqx [13, 14, 15, 16, 17, 18, 19] g (wf g6 13 (nI (K + 1))) := eqx_tr (eqx_tr (eqx_tr (eqx_sub hx4 (by decide)) (eqx_sub p2 (by decide))) (eqx_sub r2 (by decide))) (eqx_wf (by decide))
  have k14 : ∀ r, g6 14 r = if r = K then g 4 0 else g 14 r := fun r => by rw [r2 14 (by decide), p2 14 (by decide), hg4]; simp only [wr_ap, nI_clamp (show K < 2 ^ 31 by omega)]; rfl
  have k16 : ∀ r, g6 16 r = if r = K then g 9 0 else g 16 r := fun r => by rw [r2 16 (by decide), p2 16 (by decide), hg4]; simp only [wr_ap, nI_clamp (show K < 2 ^ 31 by omega)]; rfl
  have k17 : ∀ r, g6 17 r = if r = K then g 10 0 else g 17 r := fun r => by rw [r2 17 (by decide), p2 17 (by decide), hg4]; simp only [wr_ap, nI_clamp (show K < 2 ^ 31 by omega)]; rfl
  have k18 : ∀ r, g6 18 r = if r = K then g 11 0 else g 18 r := fun r => by rw [r2 18 (by decide), p2 18 (by decide), hg4]; simp only [wr_ap, nI_clamp (show K < 2 ^ 31 by omega)]; rfl
  refine ⟨wf g6 13 (nI (K + 1)), ?_, hx, RM_h H hx (by rw [wf_ap, if_pos rfl]) (fun k hk => ?_)⟩
  · rw [e, ri_k hK (by decide)]
    dsimp only [nm]
    rw [wr_ne (show (13 : Nat) ≠ 14 by decide), wr_ne (show (9 : Nat) ≠ 14 by decide), e, ri_k hK (by decide), wr_ne (show (13 : Nat) ≠ 16 by decide), wr_ne (show (13 : Nat) ≠ 14 by decide), e, ri_k hK (by decide), wr_ne (show (10 : Nat) ≠ 16 by decide), wr_ne (show (10 : Nat) ≠ 14 by decide), wr_ne (show (13 : Nat) ≠ 17 by decide), wr_ne (show (13 : Nat) ≠ 16 by decide), wr_ne (show (13 : Nat) ≠ 14 by decide), e, ri_k hK (by decide), wr_ne (show (11 : Nat) ≠ 17 by decide), wr_ne (show (11 : Nat) ≠ 16 by decide), wr_ne (show (11 : Nat) ≠ 14 by decide), ← hg4, bd_of p1, bd_of r1, r2 13 (by decide), p2 13 (by decide), hx4 13 (by decide), e, nI_1]
  · cases k with
    | zero =>
      rw [show K + 1 - 1 - 0 = K by omega]
      refine ⟨?_, fun c hc => ?_, ?_, ?_, ?_, fun x hx t ht => ?_⟩
      · rw [wf_ne (by decide), k14, if_pos rfl]; exact d1.1
      · rw [wf_ne (by decide), r2 15 (by decide)]; exact p3 c hc
      · rw [wf_ne (by decide), k16, if_pos rfl]; exact d2
      · rw [wf_ne (by decide), k17, if_pos rfl]; exact d3
      · rw [wf_ne (by decide), k18, if_pos rfl]; exact d4
      · rw [wf_ne (by decide), r3 t (by rw [plT_some (show s.2.2.1 = some x from hx)]; exact ht), p2 12 (by decide), hx4 12 (by decide)]
        exact d5 x hx t ht
    | succ k =>
      obtain ⟨q1, q2, q3, q4, q5, q6⟩ := f k (by omega)
      have bk := hB k (by omega)
      obtain ⟨r, hr⟩ : ∃ r, r = K + 1 - 1 - (k + 1) := ⟨_, rfl⟩
      rw [← hr]
      rw [show K - 1 - k = r by omega] at q1 q2 q3 q4 q5 q6
      have hne : ¬ r = K := by omega
      refine ⟨?_, fun c hc => ?_, ?_, ?_, ?_, fun x hx t ht => ?_⟩
      · rw [wf_ne (by decide), k14, if_neg hne]; exact q1
      · have := bk.1.1
        have hc2 : c < (hs k).1 := hc
        rw [wf_ne (by decide), r2 15 (by decide), p4 _ (by omega), hx4 15 (by decide)]; exact q2 c hc
      · rw [wf_ne (by decide), k16, if_neg hne]; exact q3
      · rw [wf_ne (by decide), k17, if_neg hne]; exact q4
      · rw [wf_ne (by decide), k18, if_neg hne]; exact q5
      · have := (bk.2.2.2 x hx).2.1
        rw [wf_ne (by decide), r4 _ (by omega), p2 19 (by decide), hx4 19 (by decide)]
        exact q6 x hx t ht
theorem m_keep {n L : Nat} {w : Nat → Nat} {s : SN} {K : Nat} {hs : Nat → SN} {v len : Nat} {tx : Nat → Int32} {h : Nat → Nat → Int32} (B : RP n L w s K hs v len) (H : RM n L w s K hs len tx h) : ∃ h2, M_keep h = some h2 ∧ eqx [13, 14, 15, 16, 17, 18, 19] h h2 ∧ RM n L w s (min (K + 1) 12) (psh s hs) len tx h2 := by
  obtain ⟨b1, b2, b3, b4, b5, b6, b7, b8, b9, b10⟩ := B
  unfold M_keep
  by_cases c : K = 12
  · subst c
    obtain ⟨g, e1, e2, e3⟩ := m_drop b8 H
    obtain ⟨g2, f1, f2, f3⟩ := m_keep0 b6 (fun k hk => b8 k (by omega)) (by decide) e3
    refine ⟨g2, ?_, eqx_tr e2 f2, f3⟩
    rw [H.2.2.2.2.1, if_pos (show nI 12 = (12 : Int32) from rfl), bd_of (show (bd (M_dropOldest h) fun G57 => some G57) = some g by rw [bd_of e1])]
    exact f1
  · obtain ⟨g2, f1, f2, f3⟩ := m_keep0 b6 b8 (by omega) H
    refine ⟨g2, ?_, f2, by rw [show min (K + 1) 12 = K + 1 by omega]; exact f3⟩
    rw [if_neg (show ¬ h 13 0 = (12 : Int32) by rw [H.2.2.2.2.1]; exact fun u => c ((nE (by omega) (show 12 < 1000 by decide)).mp u))]
    exact f1
theorem RP_psh {n L : Nat} {w : Nat → Nat} {s : SN} {K : Nat} {hs : Nat → SN} {v len : Nat} (B : RP n L w s K hs v len) : RP n L w s (min (K + 1) 12) (psh s hs) ((v + 1) % 12) len := by
  obtain ⟨b1, b2, b3, b4, b5, b6, b7, b8, b9, b10⟩ := B
  refine ⟨b1, b2, b3, b4, b5, b6, by omega, fun k hk => ?_, by omega, b10⟩
  cases k with
  | zero => exact b6
  | succ k => exact b8 k (by omega)
