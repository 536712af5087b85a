/-! DIGEST: ranks and summaries -/
noncomputable def hS (n : Nat) (w : Nat → Nat) (m : Nat) (cp : Nat → Nat → Nat) (s : Nat) (x : Int64) : Int64 := itr (fun j h => mx h (svN n w m cp s j).toInt64) 0 6 x
noncomputable def hU (n : Nat) (w : Nat → Nat) (m : Nat) (cp : Nat → Nat → Nat) (x : Int64) : Int64 := itr (fun j h => mx h (suN n w m cp j).toInt64) 0 6 x
noncomputable def hR (n : Nat) (w : Nat → Nat) (m : Nat) (cp : Nat → Nat → Nat) (x : Int64) : Int64 := itr (fun s h => mx (hS n w m cp s h) (FP.d2l (FP.dmul (stV (mtN m cp) (wnV m cp n) n 8 s) (4696837146684686336 : UInt64)))) 0 n x
theorem m_hU {h : Nat → Nat → Int32} {w : Nat → Nat} {m : Nat} {cp : Nat → Nat → Nat} {n : Nat} (B : cB m cp) (M : isM h m cp) (W : isW h 3 w) (hw9 : ∀ i, w i ≤ 9) (h1 : h 1 0 = nI n) (hn : n ≤ 8) (hn0 : 0 < n) (E : Nat → Nat → Int64) : ∃ h2 E2, lp (fun q => M_mixSamples_s2 q.1 q.2.1 q.2.2) FU ((0 : Int32), h, E) = some (h2, E2) ∧ eqx [29, 30, 31] h h2 ∧ eqx [39] E E2 ∧ E2 39 0 = hU n w m cp (E 39 0) := by
  obtain ⟨v, e1, e2, e3, e4⟩ := lp_iv (st := fun q => M_mixSamples_s2 q.1 q.2.1 q.2.2) (fun k q => q.1 = nI k ∧ eqx [29, 30, 31] h q.2.1 ∧ eqx [39] E q.2.2 ∧ q.2.2 39 0 = itr (fun j h => mx h (suN n w m cp j).toInt64) 0 k (E 39 0)) (fun v => eqx [29, 30, 31] h v.1 ∧ eqx [39] E v.2 ∧ v.2 39 0 = hU n w m cp (E 39 0)) 0 6 (by decide) (by decide) (fun k q _ hk ⟨q1, q2, q3, q4⟩ => by
      obtain ⟨h3, p1, p2⟩ := m_summaryNow B (isM_x M q2 (by decide) (by decide) (by decide) (by decide) (by decide)) (isW_x W q2 (r := 3) (by decide)) hw9 (by rw [q2 1 (by decide)]; exact h1) hn hn0 hk
      refine ⟨(nI (k + 1), h3, M_mix q.2.2 (suN n w m cp k).toInt64), ?_, rfl, eqx_tr q2 p2, eqx_tr q3 (mx_M _ _).1, ?_⟩
      · show M_mixSamples_s2 q.1 q.2.1 q.2.2 = _
        unfold M_mixSamples_s2
        rw [q1, show (6 : Int32) = nI 6 from rfl, if_neg (nI_ge hk (by decide)), bd2_of p1]
        dsimp only [nm]
        rw [nI_1]
      · dsimp only
        rw [(mx_M _ _).2, q4, itr, Nat.zero_add]) (fun q ⟨q1, q2, q3, q4⟩ => by
      refine ⟨(q.2.1, q.2.2), ?_, q2, q3, q4⟩
      show M_mixSamples_s2 q.1 q.2.1 q.2.2 = _
      unfold M_mixSamples_s2
      rw [q1, if_pos (by decide)]) ((0 : Int32), h, E) ⟨rfl, eqx_rf, eqx_rf, rfl⟩
  exact ⟨v.1, v.2, e1, e2, e3, e4⟩
theorem m_hS {h : Nat → Nat → Int32} {w : Nat → Nat} {m : Nat} {cp : Nat → Nat → Nat} {n : Nat} (B : cB m cp) (M : isM h m cp) (W : isW h 3 w) (hw9 : ∀ i, w i ≤ 9) (h1 : h 1 0 = nI n) (hn : n ≤ 8) {s : Nat} (hs : s < n) (E : Nat → Nat → Int64) : ∃ h2 E2, lp (fun q => M_mixSamples_s5 (nI s) q.1 q.2.1 q.2.2) FU ((0 : Int32), h, E) = some (h2, E2) ∧ eqx [29, 30, 31] h h2 ∧ eqx [39] E E2 ∧ E2 39 0 = hS n w m cp s (E 39 0) := by
  obtain ⟨v, e1, e2, e3, e4⟩ := lp_iv (st := fun q => M_mixSamples_s5 (nI s) q.1 q.2.1 q.2.2) (fun k q => q.1 = nI k ∧ eqx [29, 30, 31] h q.2.1 ∧ eqx [39] E q.2.2 ∧ q.2.2 39 0 = itr (fun j h => mx h (svN n w m cp s j).toInt64) 0 k (E 39 0)) (fun v => eqx [29, 30, 31] h v.1 ∧ eqx [39] E v.2 ∧ v.2 39 0 = hS n w m cp s (E 39 0)) 0 6 (by decide) (by decide) (fun k q _ hk ⟨q1, q2, q3, q4⟩ => by
      obtain ⟨h3, p1, p2⟩ := m_sampleNow B (isM_x M q2 (by decide) (by decide) (by decide) (by decide) (by decide)) (isW_x W q2 (r := 3) (by decide)) hw9 (by rw [q2 1 (by decide)]; exact h1) hn hs hk
      refine ⟨(nI (k + 1), h3, M_mix q.2.2 (svN n w m cp s k).toInt64), ?_, rfl, eqx_tr q2 p2, eqx_tr q3 (mx_M _ _).1, ?_⟩
      · show M_mixSamples_s5 (nI s) q.1 q.2.1 q.2.2 = _
        unfold M_mixSamples_s5
        rw [q1, show (6 : Int32) = nI 6 from rfl, if_neg (nI_ge hk (by decide)), bd2_of p1]
        dsimp only [nm]
        rw [nI_1]
      · dsimp only
        rw [(mx_M _ _).2, q4, itr, Nat.zero_add]) (fun q ⟨q1, q2, q3, q4⟩ => by
      refine ⟨(q.2.1, q.2.2), ?_, q2, q3, q4⟩
      show M_mixSamples_s5 (nI s) q.1 q.2.1 q.2.2 = _
      unfold M_mixSamples_s5
      rw [q1, if_pos (by decide)]) ((0 : Int32), h, E) ⟨rfl, eqx_rf, eqx_rf, rfl⟩
  exact ⟨v.1, v.2, e1, e2, e3, e4⟩
