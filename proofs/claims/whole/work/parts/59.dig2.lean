/-! DIGEST: weights and rings, answers, trials, text -/
def hL (w : Nat → Nat) (m : Nat) (cp : Nat → Nat → Nat) (n L : Nat) (x : Int64) : Int64 := itr (fun l h => mx (mx h (nI (w l)).toInt64) (nI (r1 (pfB m cp l) n)).toInt64) 0 L x
theorem m_hL {n L : Nat} {w : Nat → Nat} {s : SN} {K : Nat} {hs : Nat → SN} {v len : Nat} {tx : Nat → Int32} {h : Nat → Nat → Int32} (B : RP n L w s K hs v len) (M : RM n L w s K hs len tx h) (E : Nat → Nat → Int64) : ∃ E2, lp (fun q => M_digest_s2 h q.1 q.2) FU ((0 : Int32), E) = some E2 ∧ eqx [39] E E2 ∧ E2 39 0 = hL w s.1 s.2.1 n L (E 39 0) := by
  obtain ⟨b1, b2, b3, b4, b5, b6, b7, b8, b9, b10⟩ := id B
  refine m_mxl (st := fun q => M_digest_s2 h q.1 q.2) (fun l h => mx (mx h (nI (w l)).toInt64) (nI (r1 (pfB s.1 s.2.1 l) n)).toInt64) (by omega) (fun k E hk => ?_) (fun E => ?_) E
  · refine ⟨M_mix (M_mix E (nI (w k)).toInt64) (nI (r1 (pfB s.1 s.2.1 k) n)).toInt64, ?_, eqx_tr (mx_M _ _).1 (mx_M _ _).1, by rw [(mx_M _ _).2, (mx_M _ _).2]⟩
    show M_digest_s2 h (nI k) E = _
    unfold M_digest_s2
    rw [M.2.1, if_neg (nI_ge hk (by omega)), ri_k (show k < 8 by omega) (by decide), nI_clamp (by omega), M.2.2.1 k (by omega)]
    dsimp only [nm]
    rw [bd_of (m_ringsL b6.1 M.2.2.2.1.1 M.1 b2 (show k < 8 by omega)), nI_1]
  · show M_digest_s2 h (nI L) E = _
    unfold M_digest_s2
    rw [M.2.1, if_pos (nI_le (Nat.le_refl _) (by omega))]
theorem k_hL {n L : Nat} {w : Nat → Nat} {s : SN} {K : Nat} {hs : Nat → SN} {v len : Nat} {tx : Nat → Int32} {G : Nat → Nat → Int32} {P : Nat → Option PRec} (B : RP n L w s K hs v len) (C : RC n L w s K hs v len tx G P) (x : Int64) : ∃ G2, lp (fun q => C_LT_hashAnswers_s2 q.1 q.2.1 q.2.2) FU (x, (0 : Int32), G) = some (hL w s.1 s.2.1 n L x, G2) ∧ eqx [18] G G2 := by
  obtain ⟨b1, b2, b3, b4, b5, b6, b7, b8, b9, b10⟩ := id B
  obtain ⟨r, e1, e2, e3⟩ := lp_iv (st := fun q => C_LT_hashAnswers_s2 q.1 q.2.1 q.2.2) (fun k q => q.2.1 = nI k ∧ eqx [18] G q.2.2 ∧ q.1 = itr (fun l h => mx (mx h (nI (w l)).toInt64) (nI (r1 (pfB s.1 s.2.1 l) n)).toInt64) 0 k x) (fun r => r.1 = hL w s.1 s.2.1 n L x ∧ eqx [18] G r.2) 0 L (by omega) (by omega) (fun k q _ hk ⟨q1, q2, q3⟩ => by
      have C2 := RC_x C q2 (by decide)
      obtain ⟨G3, p1, p2⟩ := k_ringsOf b6.1 C2.2.2.2.1.1 C2.1 b2 (show k < 8 by omega)
      refine ⟨(mx (mx q.1 (nI (w k)).toInt64) (nI (r1 (pfB s.1 s.2.1 k) n)).toInt64, nI (k + 1), G3), ?_, rfl, eqx_tr q2 p2, by dsimp only; rw [q3, itr, Nat.zero_add]⟩
      show C_LT_hashAnswers_s2 q.1 q.2.1 q.2.2 = _
      unfold C_LT_hashAnswers_s2
      rw [q1, C2.2.1, if_neg (nI_ge hk (by omega)), ri_k (show k < 8 by omega) (by decide), nI_clamp (by omega), C2.2.2.1 k (by omega)]
      dsimp only [nm]
      rw [bd2_of p1, nI_1]
      rfl) (fun q ⟨q1, q2, q3⟩ => by
      refine ⟨(q.1, q.2.2), ?_, q3, q2⟩
      show C_LT_hashAnswers_s2 q.1 q.2.1 q.2.2 = _
      unfold C_LT_hashAnswers_s2
      rw [q1, q2 1 (by decide), C.2.1, if_pos (nI_le (Nat.le_refl _) (by omega))]) (x, (0 : Int32), G) ⟨rfl, eqx_rf, rfl⟩
  exact ⟨r.2, by rw [e1, ← e2], e3⟩
