/-! DIGEST: ranks and pairs, the reference's whole and the class's whole -/
theorem m_hR (hq : DZ) {h : Nat → Nat → Int32} {w : Nat → Nat} {m : Nat} {cp : Nat → Nat → Nat} {n : Nat} (B : cB m cp) (M : isM h m cp) (W : isW h 3 w) (hw9 : ∀ i, w i ≤ 9) (h1 : h 1 0 = nI n) (hn : n ≤ 8) (E : Nat → Nat → Int64) (D : Nat → Nat → UInt64) : ∃ h2 E2 D2, lp (fun q => M_mixSamples_s1 q.1 q.2.1 q.2.2.1 q.2.2.2) FU ((0 : Int32), h, E, D) = some (h2, E2, D2) ∧ eqx [29, 30, 31, 38] h h2 ∧ eqx [39] E E2 ∧ E2 39 0 = hR n w m cp (E 39 0) := by
  obtain ⟨v, e1, e2, e3, e4⟩ := lp_iv (st := fun q => M_mixSamples_s1 q.1 q.2.1 q.2.2.1 q.2.2.2) (fun k q => q.1 = nI k ∧ eqx [29, 30, 31, 38] h q.2.1 ∧ eqx [39] E q.2.2.1 ∧ q.2.2.1 39 0 = itr (fun s h => mx (hS n w m cp s h) (FP.d2l (FP.dmul (stV (mtN m cp) (wnV m cp n) n 8 s) (4696837146684686336 : UInt64)))) 0 k (E 39 0)) (fun v => eqx [29, 30, 31, 38] h v.1 ∧ eqx [39] E v.2.1 ∧ v.2.1 39 0 = hR n w m cp (E 39 0)) 0 n (by omega) (by omega) (fun k q _ hk ⟨q1, q2, q3, q4⟩ => by
      obtain ⟨h3, E3, p1, p2, p3, p4⟩ := m_hS B (isM_x M q2 (by decide) (by decide) (by decide) (by decide) (by decide)) (isW_x W q2 (r := 3) (by decide)) hw9 (by rw [q2 1 (by decide)]; exact h1) hn hk q.2.2.1
      have q5 : eqx [29, 30, 31, 38] h h3 := eqx_tr q2 (eqx_sub p2 (by decide))
      obtain ⟨h4, D4, f1, f2, f3, f4, f5, f6⟩ := m_layStrengths hq (D := q.2.2.2) B (isM_x M q5 (by decide) (by decide) (by decide) (by decide) (by decide)) (by rw [q5 1 (by decide)]; exact h1) hn (k := 8) (by decide)
      refine ⟨(nI (k + 1), h4, M_mix E3 (FP.d2l (FP.dmul (stV (mtN m cp) (wnV m cp n) n 8 k) (4696837146684686336 : UInt64))), D4), ?_, rfl, eqx_tr q5 (eqx_sub f2 (by decide)), eqx_tr q3 (eqx_tr p3 (mx_M _ _).1), ?_⟩
      · show M_mixSamples_s1 q.1 q.2.1 q.2.2.1 q.2.2.2 = _
        unfold M_mixSamples_s1
        rw [q1, q2 1 (by decide), h1, if_neg (nI_ge hk (by omega)), bd2_of p1, show (8 : Int32) = nI 8 from rfl, bd2_of f1, ri_k (show k < 8 by omega) (by decide), nI_clamp (by omega), f6 k hk]
        dsimp only [nm]
        rw [nI_1]
      · dsimp only
        rw [(mx_M _ _).2, p4, q4, itr, Nat.zero_add]) (fun q ⟨q1, q2, q3, q4⟩ => by
      refine ⟨(q.2.1, q.2.2.1, q.2.2.2), ?_, q2, q3, q4⟩
      show M_mixSamples_s1 q.1 q.2.1 q.2.2.1 q.2.2.2 = _
      unfold M_mixSamples_s1
      rw [q1, q2 1 (by decide), h1, if_pos (nI_le (Nat.le_refl _) (by omega))]) ((0 : Int32), h, E, D) ⟨rfl, eqx_rf, eqx_rf, rfl⟩
  exact ⟨v.1, v.2.1, v.2.2, e1, e2, e3, e4⟩
theorem m_hA (hq : DZ) {h : Nat → Nat → Int32} {w : Nat → Nat} {m : Nat} {cp : Nat → Nat → Nat} {n : Nat} (B : cB m cp) (M : isM h m cp) (W : isW h 3 w) (hw9 : ∀ i, w i ≤ 9) (h1 : h 1 0 = nI n) (hn : n ≤ 8) (hn0 : 0 < n) (E : Nat → Nat → Int64) (D : Nat → Nat → UInt64) : ∃ h2 E2 D2, M_mixSamples h E D = some (h2, E2, D2) ∧ eqx [29, 30, 31, 38] h h2 ∧ eqx [39] E E2 ∧ E2 39 0 = hPp w m cp n (hU n w m cp (hR n w m cp (E 39 0))) := by
  obtain ⟨h2, E2, D2, a1, a2, a3, a4⟩ := m_hR hq B M W hw9 h1 hn E D
  obtain ⟨h3, E3, b1, b2, b3, b4⟩ := m_hU B (isM_x M a2 (by decide) (by decide) (by decide) (by decide) (by decide)) (isW_x W a2 (r := 3) (by decide)) hw9 (by rw [a2 1 (by decide)]; exact h1) hn hn0 E2
  have a5 : eqx [29, 30, 31, 38] h h3 := eqx_tr a2 (eqx_sub b2 (by decide))
  obtain ⟨E4, c1, c2, c3⟩ := m_hP B (isM_x M a5 (by decide) (by decide) (by decide) (by decide) (by decide)) (isW_x W a5 (r := 3) (by decide)) (by rw [a5 1 (by decide)]; exact h1) hn E3
  refine ⟨h3, E4, D2, ?_, a5, eqx_tr a3 (eqx_tr b3 c2), by rw [c3, b4, a4]⟩
  unfold M_mixSamples
  rw [bd3_of a1, bd2_of b1, bd_of c1]
theorem k_hS {G : Nat → Nat → Int32} {n : Nat} {w : Nat → Nat} {m : Nat} {cp : Nat → Nat → Nat} (B : cB m cp) (H : isC G 5 4 m cp) (hw9 : ∀ i, w i ≤ 9) (Z : isZ G n w m cp) (hn : n ≤ 8) {s : Nat} (hs : s < n) (x : Int64) : ∃ G2, lp (fun q => C_LT_hashRanks_s3 (nI s) q.1 q.2.1 q.2.2) FU (x, (0 : Int32), G) = some (hS n w m cp s x, G2) ∧ eqx zR G G2 ∧ isZ G2 n w m cp := by
  obtain ⟨v, e1, e2, e3, e4⟩ := lp_iv (st := fun q => C_LT_hashRanks_s3 (nI s) q.1 q.2.1 q.2.2) (fun k q => q.2.1 = nI k ∧ eqx zR G q.2.2 ∧ isZ q.2.2 n w m cp ∧ q.1 = itr (fun j h => mx h (svN n w m cp s j).toInt64) 0 k x) (fun v => eqx zR G v.2 ∧ isZ v.2 n w m cp ∧ v.1 = hS n w m cp s x) 0 6 (by decide) (by decide) (fun k q _ hk ⟨q1, q2, q3, q4⟩ => by
      obtain ⟨G3, p1, p2, p3⟩ := k_property B (isC_x H q2 (by decide) (by decide)) hw9 q3 hn hs hk
      refine ⟨(mx q.1 (svN n w m cp s k).toInt64, nI (k + 1), G3), ?_, rfl, eqx_tr q2 p2, p3, ?_⟩
      · show C_LT_hashRanks_s3 (nI s) q.1 q.2.1 q.2.2 = _
        unfold C_LT_hashRanks_s3
        rw [q1, show (5 : Int32) = nI 5 from rfl, if_neg (nI_nlt (show k ≤ 5 by omega) (by decide)), bd2_of p1]
        dsimp only [nm]
        rw [nI_1]
        rfl
      · dsimp only
        rw [q4, itr, Nat.zero_add]) (fun q ⟨q1, q2, q3, q4⟩ => by
      refine ⟨(q.1, q.2.2), ?_, q2, q3, q4⟩
      show C_LT_hashRanks_s3 (nI s) q.1 q.2.1 q.2.2 = _
      unfold C_LT_hashRanks_s3
      rw [q1, if_pos (by decide)]) (x, (0 : Int32), G) ⟨rfl, eqx_rf, Z, rfl⟩
  exact ⟨v.2, by rw [e1, ← e4], e2, e3⟩
theorem k_hU {G : Nat → Nat → Int32} {n : Nat} {w : Nat → Nat} {m : Nat} {cp : Nat → Nat → Nat} (B : cB m cp) (H : isC G 5 4 m cp) (hw9 : ∀ i, w i ≤ 9) (Z : isZ G n w m cp) (hn : n ≤ 8) (hn0 : 0 < n) (x : Int64) : ∃ G2, lp (fun q => C_LT_hashRanks_s2 q.1 q.2.1 q.2.2) FU (x, (0 : Int32), G) = some (hU n w m cp x, G2) ∧ eqx zR G G2 ∧ isZ G2 n w m cp := by
  obtain ⟨v, e1, e2, e3, e4⟩ := lp_iv (st := fun q => C_LT_hashRanks_s2 q.1 q.2.1 q.2.2) (fun k q => q.2.1 = nI k ∧ eqx zR G q.2.2 ∧ isZ q.2.2 n w m cp ∧ q.1 = itr (fun j h => mx h (suN n w m cp j).toInt64) 0 k x) (fun v => eqx zR G v.2 ∧ isZ v.2 n w m cp ∧ v.1 = hU n w m cp x) 0 6 (by decide) (by decide) (fun k q _ hk ⟨q1, q2, q3, q4⟩ => by
      obtain ⟨G3, p1, p2, p3⟩ := k_number B (isC_x H q2 (by decide) (by decide)) hw9 q3 hn hn0 hk
      refine ⟨(mx q.1 (suN n w m cp k).toInt64, nI (k + 1), G3), ?_, rfl, eqx_tr q2 p2, p3, ?_⟩
      · show C_LT_hashRanks_s2 q.1 q.2.1 q.2.2 = _
        unfold C_LT_hashRanks_s2
        rw [q1, show (5 : Int32) = nI 5 from rfl, if_neg (nI_nlt (show k ≤ 5 by omega) (by decide)), bd2_of p1]
        dsimp only [nm]
        rw [nI_1]
        rfl
      · dsimp only
        rw [q4, itr, Nat.zero_add]) (fun q ⟨q1, q2, q3, q4⟩ => by
      refine ⟨(q.1, q.2.2), ?_, q2, q3, q4⟩
      show C_LT_hashRanks_s2 q.1 q.2.1 q.2.2 = _
      unfold C_LT_hashRanks_s2
      rw [q1, if_pos (by decide)]) (x, (0 : Int32), G) ⟨rfl, eqx_rf, Z, rfl⟩
  exact ⟨v.2, by rw [e1, ← e4], e2, e3⟩
theorem k_hR {G : Nat → Nat → Int32} {n : Nat} {w : Nat → Nat} {m : Nat} {cp : Nat → Nat → Nat} (B : cB m cp) (H : isC G 5 4 m cp) (hw9 : ∀ i, w i ≤ 9) (Z : isZ G n w m cp) (hn : n ≤ 8) (g0 : G 0 0 = nI n) {D : Nat → Nat → UInt64} (hD : ∀ i, i < n → D 1 i = stV (mtN m cp) (wnV m cp n) n 8 i) (x : Int64) : ∃ G2, lp (fun q => C_LT_hashRanks_s1 D q.1 q.2.1 q.2.2) FU (x, (0 : Int32), G) = some (hR n w m cp x, G2) ∧ eqx zR G G2 ∧ isZ G2 n w m cp := by
  obtain ⟨v, e1, e2, e3, e4⟩ := lp_iv (st := fun q => C_LT_hashRanks_s1 D q.1 q.2.1 q.2.2) (fun k q => q.2.1 = nI k ∧ eqx zR G q.2.2 ∧ isZ q.2.2 n w m cp ∧ q.1 = itr (fun s h => mx (hS n w m cp s h) (FP.d2l (FP.dmul (stV (mtN m cp) (wnV m cp n) n 8 s) (4696837146684686336 : UInt64)))) 0 k x) (fun v => eqx zR G v.2 ∧ isZ v.2 n w m cp ∧ v.1 = hR n w m cp x) 0 n (by omega) (by omega) (fun k q _ hk ⟨q1, q2, q3, q4⟩ => by
      obtain ⟨G3, p1, p2, p3⟩ := k_hS B (isC_x H q2 (by decide) (by decide)) hw9 q3 hn hk q.1
      refine ⟨(mx (hS n w m cp k q.1) (FP.d2l (FP.dmul (stV (mtN m cp) (wnV m cp n) n 8 k) (4696837146684686336 : UInt64))), nI (k + 1), G3), ?_, rfl, eqx_tr q2 p2, p3, ?_⟩
      · show C_LT_hashRanks_s1 D q.1 q.2.1 q.2.2 = _
        unfold C_LT_hashRanks_s1
        rw [q1, q2 0 (by decide), g0, if_neg (nI_ge hk (by omega)), bd2_of p1, ri_k (show k < 8 by omega) (by decide), nI_clamp (by omega), hD k hk]
        dsimp only [nm]
        rw [nI_1]
        rfl
      · dsimp only
        rw [q4, itr, Nat.zero_add]) (fun q ⟨q1, q2, q3, q4⟩ => by
      refine ⟨(q.1, q.2.2), ?_, q2, q3, q4⟩
      show C_LT_hashRanks_s1 D q.1 q.2.1 q.2.2 = _
      unfold C_LT_hashRanks_s1
      rw [q1, q2 0 (by decide), g0, if_pos (nI_le (Nat.le_refl _) (by omega))]) (x, (0 : Int32), G) ⟨rfl, eqx_rf, Z, rfl⟩
  exact ⟨v.2, by rw [e1, ← e4], e2, e3⟩
theorem k_hashRanks {G : Nat → Nat → Int32} {n : Nat} {w : Nat → Nat} {m : Nat} {cp : Nat → Nat → Nat} (B : cB m cp) (H : isC G 5 4 m cp) (hw9 : ∀ i, w i ≤ 9) (W : isW G 2 w) (hn : n ≤ 8) (hn0 : 0 < n) (g0 : G 0 0 = nI n) (D : Nat → Nat → UInt64) (x : Int64) : ∃ G2 D2, C_LT_hashRanks G D x = some (hU n (wZ w (-1 : Int32)) m cp (hR n (wZ w (-1 : Int32)) m cp x), G2, D2) ∧ ∃ X : List Nat, eqx X G G2 ∧ ∀ k, k ∈ X → 10 ≤ k ∧ k < 50 := by
  obtain ⟨G2, a1, a2, a3⟩ := k_weighZ B H g0 hn W (-1 : Int32)
  obtain ⟨G3, D3, b1, b2, b3, b4, b5, b6⟩ := k_fit (D := D) B (isC_x H a2 (by decide) (by decide)) (by rw [a2 0 (by decide)]; exact g0) hn (k := 8) (by decide)
  have z3 : isZ G3 n (wZ w (-1 : Int32)) m cp := isZ_x a3 b2 (by decide)
  have c3 := isC_x (isC_x H a2 (by decide) (by decide)) b2 (by decide) (by decide)
  have g3 : G3 0 0 = nI n := by rw [b2 0 (by decide), a2 0 (by decide)]; exact g0
  obtain ⟨G4, d1, d2, d3⟩ := k_hR B c3 (wZ_le hw9 (-1 : Int32)) z3 hn g3 b6 x
  obtain ⟨G5, f1, f2, f3⟩ := k_hU B (isC_x c3 d2 (by decide) (by decide)) (wZ_le hw9 (-1 : Int32)) d3 hn hn0 (hR n (wZ w (-1 : Int32)) m cp x)
  refine ⟨G5, D3, ?_, zR ++ [16, 17, 41, 42, 20, 21, 22, 23], eqx_tr (eqx_sub a2 (by decide)) (eqx_tr (eqx_sub b2 (by decide)) (eqx_tr (eqx_sub d2 (by decide)) (eqx_sub f2 (by decide)))), by decide⟩
  unfold C_LT_hashRanks
  rw [bd_of a1, show (8 : Int32) = nI 8 from rfl, bd2_of b1, bd2_of d1, bd2_of f1]
theorem k_hashPairs {G : Nat → Nat → Int32} {n : Nat} {w : Nat → Nat} {m : Nat} {cp : Nat → Nat → Nat} (B : cB m cp) (H : isC G 5 4 m cp) (W : isW G 2 w) (hn : n ≤ 8) (g0 : G 0 0 = nI n) (x : Int64) : ∃ G2, C_LT_hashPairs G x = some (hPp (wZ w (-1 : Int32)) m cp n x, G2) ∧ ∃ X : List Nat, eqx X G G2 ∧ ∀ k, k ∈ X → 10 ≤ k ∧ k < 50 := by
  obtain ⟨G2, a1, a2, a3⟩ := k_weighZ B H g0 hn W (-1 : Int32)
  obtain ⟨G3, b1, b2, b3⟩ := k_take B (isC_x H a2 (by decide) (by decide))
  have g3 : G3 0 0 = nI n := by rw [b2 0 (by decide), a2 0 (by decide)]; exact g0
  have S : ∀ i j, i < 8 → j < 8 → G3 20 (8 * i + j) = mgn (wZ w (-1 : Int32)) m cp i j := fun i j hi hj => by rw [b2 20 (by decide)]; exact a3.1.2.2.1 i j hi hj
  refine ⟨G3, ?_, [16, 17, 20, 21, 22, 23, 29, 30], eqx_tr (eqx_sub a2 (by decide)) (eqx_sub b2 (by decide)), by decide⟩
  unfold C_LT_hashPairs
  rw [bd_of a1, bd_of b1, bd_of (k_hP B.1 g3 hn S (fun i j hi hj => (b3 i j hi hj).1) x)]
