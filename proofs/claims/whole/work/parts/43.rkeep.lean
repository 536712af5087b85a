/-! HISTORY of the reference: drop the oldest, keep, pack and unpack -/
theorem m_packed {h : Nat → Nat → Int32} {m : Nat} {cp : Nat → Nat → Nat} (H : isM h m cp) (B : cB m cp) {c : Nat} (hc : c < m) : M_packed h (nI c) = some (nI (pk4 cp c)) := by
  have b1 := B.1
  obtain ⟨e1, e2, e3, e4⟩ := H.2 c hc
  unfold M_packed
  rw [ri_k (show c < 48 by omega) (by decide), ri_k (show c < 48 by omega) (by decide), ri_k (show c < 48 by omega) (by decide), ri_k (show c < 48 by omega) (by decide), nI_clamp (by omega), e1, e2, e3, e4, show (1000 : Int32) = nI 1000 from rfl, show (100 : Int32) = nI 100 from rfl, show (10 : Int32) = nI 10 from rfl, pk_mul, pk_mul, pk_mul, nI_add, nI_add, nI_add]
  rfl
theorem up_dg : ∀ l, l < 8 → ∀ f, f < 8 → ∀ s, s < 8 → ∀ a, a < 3 → nI (1000 * l + 100 * f + 10 * s + a) / (1000 : Int32) = nI l ∧ (nI (1000 * l + 100 * f + 10 * s + a) / (100 : Int32)) - (nI (1000 * l + 100 * f + 10 * s + a) / (100 : Int32)) / (10 : Int32) * (10 : Int32) = nI f ∧ (nI (1000 * l + 100 * f + 10 * s + a) / (10 : Int32)) - (nI (1000 * l + 100 * f + 10 * s + a) / (10 : Int32)) / (10 : Int32) * (10 : Int32) = nI s ∧ nI (1000 * l + 100 * f + 10 * s + a) - nI (1000 * l + 100 * f + 10 * s + a) / (10 : Int32) * (10 : Int32) = nI a := by decide +kernel
theorem m_unpack {h : Nat → Nat → Int32} {c l f s a : Nat} (hc : c < 48) (hl : l < 8) (hf : f < 8) (hs : s < 8) (ha : a < 3) : M_unpack h (nI c) (nI (1000 * l + 100 * f + 10 * s + a)) = some (wr (wr (wr (wr h 5 (nI c) (nI l)) 6 (nI c) (nI f)) 7 (nI c) (nI s)) 8 (nI c) (nI a)) := by
  obtain ⟨e1, e2, e3, e4⟩ := up_dg l hl f hf s hs a ha
  unfold M_unpack
  rw [ri_k hc (by decide)]
  dsimp only [nm]
  rw [ri_k hc (by decide), ri_k hc (by decide), ri_k hc (by decide), e1, e2, e3, e4]
/-- a comparison laid at c -/
def cpU (cp : Nat → Nat → Nat) (c l f s a : Nat) : Nat → Nat → Nat := fun p i => if i = c then (if p = 0 then l else if p = 1 then f else if p = 2 then s else a) else cp p i
theorem wr4_q {h : Nat → Nat → Int32} {c l f s a : Nat} (hc : c < 48) (i : Nat) : (wr (wr (wr (wr h 5 (nI c) (nI l)) 6 (nI c) (nI f)) 7 (nI c) (nI s)) 8 (nI c) (nI a)) 5 i = (if i = c then nI l else h 5 i) ∧ (wr (wr (wr (wr h 5 (nI c) (nI l)) 6 (nI c) (nI f)) 7 (nI c) (nI s)) 8 (nI c) (nI a)) 6 i = (if i = c then nI f else h 6 i) ∧ (wr (wr (wr (wr h 5 (nI c) (nI l)) 6 (nI c) (nI f)) 7 (nI c) (nI s)) 8 (nI c) (nI a)) 7 i = (if i = c then nI s else h 7 i) ∧ (wr (wr (wr (wr h 5 (nI c) (nI l)) 6 (nI c) (nI f)) 7 (nI c) (nI s)) 8 (nI c) (nI a)) 8 i = (if i = c then nI a else h 8 i) := by
  refine ⟨?_, ?_, ?_, ?_⟩ <;> (simp only [wr_ap, nI_clamp (show c < 2 ^ 31 by omega)]; rfl)
theorem wr4_x {h : Nat → Nat → Int32} {c l f s a : Nat} : eqx [5, 6, 7, 8] h (wr (wr (wr (wr h 5 (nI c) (nI l)) 6 (nI c) (nI f)) 7 (nI c) (nI s)) 8 (nI c) (nI a)) :=
  eqx_tr (eqx_tr (eqx_tr (eqx_wr (by decide)) (eqx_wr (by decide))) (eqx_wr (by decide))) (eqx_wr (by decide))
theorem sb_k {a b : Nat} (h : b ≤ a) : nI a - nI b = nI (a - b) := by
  have e : nI a = nI (a - b) + nI b := by rw [nI_add]; congr 1; omega
  rw [e]
  grind
theorem m_drop1 {g : Nat → Nat → Int32} : ∃ h, lp (fun q => M_dropOldest_s1 q.1 q.2) FU ((1 : Int32), g) = some h ∧ eqx [14, 16, 17, 18] g h ∧ ∀ i, i < 11 → h 14 i = g 14 (i + 1) ∧ h 16 i = g 16 (i + 1) ∧ h 17 i = g 17 (i + 1) ∧ h 18 i = g 18 (i + 1) := by
  obtain ⟨v, e1, e2, e3⟩ := lp_iv (st := fun q => M_dropOldest_s1 q.1 q.2) (fun k q => q.1 = nI k ∧ eqx [14, 16, 17, 18] g q.2 ∧ (∀ i, i + 1 < k → q.2 14 i = g 14 (i + 1) ∧ q.2 16 i = g 16 (i + 1) ∧ q.2 17 i = g 17 (i + 1) ∧ q.2 18 i = g 18 (i + 1)) ∧ (∀ i, k ≤ i + 1 → q.2 14 i = g 14 i ∧ q.2 16 i = g 16 i ∧ q.2 17 i = g 17 i ∧ q.2 18 i = g 18 i)) (fun h => eqx [14, 16, 17, 18] g h ∧ ∀ i, i < 11 → h 14 i = g 14 (i + 1) ∧ h 16 i = g 16 (i + 1) ∧ h 17 i = g 17 (i + 1) ∧ h 18 i = g 18 (i + 1)) 1 12 (by decide) (by decide) (fun k q h1 h2 ⟨q1, q2, q3, q4⟩ => by
      refine ⟨(nI (k + 1), wr (wr (wr (wr q.2 14 (nI (k - 1)) (g 14 k)) 16 (nI (k - 1)) (g 16 k)) 17 (nI (k - 1)) (g 17 k)) 18 (nI (k - 1)) (g 18 k)), ?_, rfl, eqx_tr q2 (eqx_tr (eqx_tr (eqx_tr (eqx_wr (by decide)) (eqx_wr (by decide))) (eqx_wr (by decide))) (eqx_wr (by decide))), fun i hi => ?_, fun i hi => ?_⟩
      · show M_dropOldest_s1 q.1 q.2 = _
        unfold M_dropOldest_s1
        obtain ⟨p1, p2, p3, p4⟩ := q4 k (by omega)
        have s1 : nI k - (1 : Int32) = nI (k - 1) := sb_k (b := 1) h1
        rw [q1, show (12 : Int32) = nI 12 from rfl, if_neg (nI_ge h2 (by decide)), s1, ri_k h2 (by decide), ri_k (show k - 1 < 12 by omega) (by decide), nI_clamp (show k < 2 ^ 31 by omega), p1]
        dsimp only [nm]
        rw [ri_k h2 (by decide), ri_k (show k - 1 < 12 by omega) (by decide), wr_ne (show (16 : Nat) ≠ 14 by decide), p2, ri_k h2 (by decide), ri_k (show k - 1 < 12 by omega) (by decide), wr_ne (show (17 : Nat) ≠ 16 by decide), wr_ne (show (17 : Nat) ≠ 14 by decide), p3, ri_k h2 (by decide), ri_k (show k - 1 < 12 by omega) (by decide), wr_ne (show (18 : Nat) ≠ 17 by decide), wr_ne (show (18 : Nat) ≠ 16 by decide), wr_ne (show (18 : Nat) ≠ 14 by decide), p4, nI_1]
      · simp only [wr_ap, nI_clamp (show k - 1 < 2 ^ 31 by omega)]
        by_cases c : i = k - 1
        · simp [c, show k - 1 + 1 = k by omega]
        · simp [c]
          exact q3 i (by omega)
      · simp only [wr_ap, nI_clamp (show k - 1 < 2 ^ 31 by omega)]
        simp [show ¬ i = k - 1 by omega]
        exact q4 i (by omega)) (fun q ⟨q1, q2, q3, q4⟩ => by
      refine ⟨q.2, ?_, q2, fun i hi => q3 i (by omega)⟩
      show M_dropOldest_s1 q.1 q.2 = _
      unfold M_dropOldest_s1
      rw [q1, if_pos (by decide)]) ((1 : Int32), g) ⟨rfl, eqx_rf, fun i hi => by omega, fun i _ => ⟨rfl, rfl, rfl, rfl⟩⟩
  exact ⟨v, e1, e2, e3⟩
theorem m_drop2 {g : Nat → Nat → Int32} : ∃ h, lp (fun q => M_dropOldest_s2 q.1 q.2) FU ((48 : Int32), g) = some h ∧ eqx [15] g h ∧ ∀ i, i < 528 → h 15 i = g 15 (i + 48) := by
  obtain ⟨v, e1, e2, e3⟩ := lp_iv (st := fun q => M_dropOldest_s2 q.1 q.2) (fun k q => q.1 = nI k ∧ eqx [15] g q.2 ∧ (∀ i, i + 48 < k → q.2 15 i = g 15 (i + 48)) ∧ (∀ i, k ≤ i + 48 → q.2 15 i = g 15 i)) (fun h => eqx [15] g h ∧ ∀ i, i < 528 → h 15 i = g 15 (i + 48)) 48 576 (by decide) (by decide) (fun k q h1 h2 ⟨q1, q2, q3, q4⟩ => by
      refine ⟨(nI (k + 1), wr q.2 15 (nI (k - 48)) (g 15 k)), ?_, rfl, eqx_tr q2 (eqx_wr (by decide)), fun i hi => ?_, fun i hi => ?_⟩
      · show M_dropOldest_s2 q.1 q.2 = _
        unfold M_dropOldest_s2
        have s1 : nI k - (48 : Int32) = nI (k - 48) := sb_k (b := 48) h1
        rw [q1, show (576 : Int32) = nI 576 from rfl, if_neg (nI_ge h2 (by decide)), s1, ri_k h2 (by decide), ri_k (show k - 48 < 576 by omega) (by decide), nI_clamp (show k < 2 ^ 31 by omega), q4 k (by omega)]
        dsimp only [nm]
        rw [nI_1]
      · dsimp only
        rw [wr_ap, nI_clamp (show k - 48 < 2 ^ 31 by omega), if_pos rfl]
        by_cases c : i = k - 48
        · rw [if_pos c, c, show k - 48 + 48 = k by omega]
        · rw [if_neg c]; exact q3 i (by omega)
      · dsimp only
        rw [wr_ap, nI_clamp (show k - 48 < 2 ^ 31 by omega), if_pos rfl, if_neg (show ¬ i = k - 48 by omega)]
        exact q4 i (by omega)) (fun q ⟨q1, q2, q3, q4⟩ => by
      refine ⟨q.2, ?_, q2, fun i hi => q3 i (by omega)⟩
      show M_dropOldest_s2 q.1 q.2 = _
      unfold M_dropOldest_s2
      rw [q1, if_pos (by decide)]) ((48 : Int32), g) ⟨rfl, eqx_rf, fun i hi => by omega, fun i _ => rfl⟩
  exact ⟨v, e1, e2, e3⟩
theorem m_drop3 {g : Nat → Nat → Int32} : ∃ h, lp (fun q => M_dropOldest_s3 q.1 q.2) FU ((56 : Int32), g) = some h ∧ eqx [19] g h ∧ ∀ i, i < 616 → h 19 i = g 19 (i + 56) := by
  obtain ⟨v, e1, e2, e3⟩ := lp_iv (st := fun q => M_dropOldest_s3 q.1 q.2) (fun k q => q.1 = nI k ∧ eqx [19] g q.2 ∧ (∀ i, i + 56 < k → q.2 19 i = g 19 (i + 56)) ∧ (∀ i, k ≤ i + 56 → q.2 19 i = g 19 i)) (fun h => eqx [19] g h ∧ ∀ i, i < 616 → h 19 i = g 19 (i + 56)) 56 672 (by decide) (by decide) (fun k q h1 h2 ⟨q1, q2, q3, q4⟩ => by
      refine ⟨(nI (k + 1), wr q.2 19 (nI (k - 56)) (g 19 k)), ?_, rfl, eqx_tr q2 (eqx_wr (by decide)), fun i hi => ?_, fun i hi => ?_⟩
      · show M_dropOldest_s3 q.1 q.2 = _
        unfold M_dropOldest_s3
        have s1 : nI k - (56 : Int32) = nI (k - 56) := sb_k (b := 56) h1
        rw [q1, show (672 : Int32) = nI 672 from rfl, if_neg (nI_ge h2 (by decide)), s1, ri_k h2 (by decide), ri_k (show k - 56 < 672 by omega) (by decide), nI_clamp (show k < 2 ^ 31 by omega), q4 k (by omega)]
        dsimp only [nm]
        rw [nI_1]
      · dsimp only
        rw [wr_ap, nI_clamp (show k - 56 < 2 ^ 31 by omega), if_pos rfl]
        by_cases c : i = k - 56
        · rw [if_pos c, c, show k - 56 + 56 = k by omega]
        · rw [if_neg c]; exact q3 i (by omega)
      · dsimp only
        rw [wr_ap, nI_clamp (show k - 56 < 2 ^ 31 by omega), if_pos rfl, if_neg (show ¬ i = k - 56 by omega)]
        exact q4 i (by omega)) (fun q ⟨q1, q2, q3, q4⟩ => by
      refine ⟨q.2, ?_, q2, fun i hi => q3 i (by omega)⟩
      show M_dropOldest_s3 q.1 q.2 = _
      unfold M_dropOldest_s3
      rw [q1, if_pos (by decide)]) ((56 : Int32), g) ⟨rfl, eqx_rf, fun i hi => by omega, fun i _ => rfl⟩
  exact ⟨v, e1, e2, e3⟩
/-- history regions changed, the rest of the state kept -/
theorem RM_h {n L : Nat} {w : Nat → Nat} {s : SN} {K K2 : Nat} {hs hs2 : Nat → SN} {len : Nat} {tx : Nat → Int32} {h h2 : Nat → Nat → Int32} (H : RM n L w s K hs len tx h) (hx : eqx [13, 14, 15, 16, 17, 18, 19] h h2) (h13 : h2 13 0 = nI K2) (hr : ∀ k, k < K2 → mRo h2 (K2 - 1 - k) (hs2 k)) : RM n L w s K2 hs2 len tx h2 := by
  obtain ⟨a, b, c, d, e, f, g, i⟩ := H
  have q : ∀ k, k < 13 ∨ 19 < k → h2 k = h k := fun k hk => hx k (by simp; omega)
  exact ⟨by rw [q 1 (by decide)]; exact a, by rw [q 2 (by decide)]; exact b, fun t ht => by rw [q 3 (by decide)]; exact c t ht, mCu_x d (fun k h1 h2 => q k (by omega)), h13, hr, by rw [q 20 (by decide)]; exact g, fun t ht => by rw [q 21 (by decide)]; exact i t ht⟩
theorem m_drop {n L : Nat} {w : Nat → Nat} {s : SN} {hs : Nat → SN} {len : Nat} {tx : Nat → Int32} {h : Nat → Nat → Int32} (B : ∀ k, k < 12 → snB n L (hs k)) (H : RM n L w s 12 hs len tx h) : ∃ h2, M_dropOldest h = some h2 ∧ eqx [13, 14, 15, 16, 17, 18, 19] h h2 ∧ RM n L w s 11 hs len tx h2 := by
  obtain ⟨g1, a1, a2, a3⟩ := m_drop1 (g := h)
  obtain ⟨g2, b1, b2, b3⟩ := m_drop2 (g := g1)
  obtain ⟨g3, c1, c2, c3⟩ := m_drop3 (g := g2)
  have hx : eqx [13, 14, 15, 16, 17, 18, 19] h (wf g3 13 (nI 11)) := eqx_tr (eqx_tr (eqx_tr (eqx_sub a2 (by decide)) (eqx_sub b2 (by decide))) (eqx_sub c2 (by decide))) (eqx_wf (by decide))
  refine ⟨wf g3 13 (nI 11), ?_, hx, RM_h H hx (by rw [wf_ap, if_pos rfl]) (fun k hk => ?_)⟩
  · unfold M_dropOldest
    rw [bd_of a1, bd_of b1, bd_of c1]
    dsimp only [nm]
    rw [c2 13 (by decide), b2 13 (by decide), a2 13 (by decide), H.2.2.2.2.1]
    rfl
  · obtain ⟨r1, r2, r3, r4, r5, r6⟩ := H.2.2.2.2.2.1 k (by omega)
    have bk := B k (by omega)
    have hi : 12 - 1 - k = 11 - 1 - k + 1 := by omega
    rw [hi] at r1 r2 r3 r4 r5 r6
    obtain ⟨i, hie⟩ : ∃ i, i = 11 - 1 - k := ⟨_, rfl⟩
    rw [← hie] at r1 r2 r3 r4 r5 r6 ⊢
    obtain ⟨p1, p2, p3, p4⟩ := a3 i (by omega)
    refine ⟨?_, fun c hc => ?_, ?_, ?_, ?_, fun x hx t ht => ?_⟩
    · rw [wf_ne (by decide), c2 14 (by decide), b2 14 (by decide), p1]; exact r1
    · have := bk.1.1
      rw [wf_ne (by decide), c2 15 (by decide), b3 _ (by omega), a2 15 (by decide), show 48 * i + c + 48 = 48 * (i + 1) + c by omega]
      exact r2 c hc
    · rw [wf_ne (by decide), c2 16 (by decide), b2 16 (by decide), p2]; exact r3
    · rw [wf_ne (by decide), c2 17 (by decide), b2 17 (by decide), p3]; exact r4
    · rw [wf_ne (by decide), c2 18 (by decide), b2 18 (by decide), p4]; exact r5
    · have := (bk.2.2.2 x hx).2.1
      rw [wf_ne (by decide), c3 _ (by omega), b2 19 (by decide), a2 19 (by decide), show 56 * i + t + 56 = 56 * (i + 1) + t by omega]
      exact r6 x hx t ht
