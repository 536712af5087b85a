/-! DIGEST: answers, trials, text -/
def hQ (m : Nat) (cp : Nat → Nat → Nat) (x : Int64) : Int64 := itr (fun c h => itr (fun j h => mx h (nI (cp j c)).toInt64) 0 4 h) 0 m x
theorem itr_4 (F : Nat → Nat → Int64 → Int64) : ∀ (m : Nat) (x : Int64), itr (fun k h => F (k % 4) (k / 4) h) 0 (4 * m) x = itr (fun c h => itr (fun j h => F j c h) 0 4 h) 0 m x
  | 0, _ => rfl
  | m + 1, x => by
    rw [show 4 * (m + 1) = 4 * m + 1 + 1 + 1 + 1 by omega, itr, itr, itr, itr, itr, itr_4 F m x]
    simp only [Nat.zero_add]
    rw [show (4 * m + 1 + 1 + 1) % 4 = 3 by omega, show (4 * m + 1 + 1 + 1) / 4 = m by omega, show (4 * m + 1 + 1) % 4 = 2 by omega, show (4 * m + 1 + 1) / 4 = m by omega, show (4 * m + 1) % 4 = 1 by omega, show (4 * m + 1) / 4 = m by omega, show (4 * m) % 4 = 0 by omega, show (4 * m) / 4 = m by omega]
    rfl
theorem m_hQ {h : Nat → Nat → Int32} {m : Nat} {cp : Nat → Nat → Nat} (B : cB m cp) (M : isM h m cp) (E : Nat → Nat → Int64) : ∃ E2, lp (fun q => M_digest_s3 h q.1 q.2) FU ((0 : Int32), E) = some E2 ∧ eqx [39] E E2 ∧ E2 39 0 = hQ m cp (E 39 0) := by
  have bm := B.1
  obtain ⟨E2, e1, e2, e3⟩ := m_mxl (st := fun q => M_digest_s3 h q.1 q.2) (fun k h => mx h (nI (cp (k % 4) (k / 4))).toInt64) (n := 4 * m) (by omega) (fun k E hk => by
    refine ⟨M_mix E (nI (cp (k % 4) (k / 4))).toInt64, ?_, (mx_M _ _).1, (mx_M _ _).2⟩
    show M_digest_s3 h (nI k) E = _
    unfold M_digest_s3
    rw [M.1, show (4 : Int32) = nI 4 from rfl, pk_mul, if_neg (nI_ge hk (by omega)), pk_rem (by omega) (by omega) (by omega), pk_div (by omega) (by omega) (by omega), bd_of (m_prop B M (show k / 4 < m by omega) (show k % 4 ≤ 3 by omega))]
    dsimp only [nm]
    rw [nI_1]) (fun E => by
    show M_digest_s3 h (nI (4 * m)) E = _
    unfold M_digest_s3
    rw [M.1, show (4 : Int32) = nI 4 from rfl, pk_mul, if_pos (nI_le (Nat.le_refl _) (by omega))]) E
  exact ⟨E2, e1, e2, by rw [e3, itr_4 (fun j c h => mx h (nI (cp j c)).toInt64)]; rfl⟩
theorem k_hQ {G : Nat → Nat → Int32} {m : Nat} {cp : Nat → Nat → Nat} (B : cB m cp) (C : isC G 5 4 m cp) (x : Int64) : lp (fun q => C_LT_hashAnswers_s3 G q.1 q.2) FU (x, (0 : Int32)) = some (hQ m cp x) := by
  have bm := B.1
  refine lp_A (st := fun q => C_LT_hashAnswers_s3 G q.1 q.2) (fun c h => itr (fun j h => mx h (nI (cp j c)).toInt64) 0 4 h) id 0 m x (by omega) (by omega) (fun c y _ hc => ?_) (fun y => ?_)
  · have i4 : lp (fun q => C_LT_hashAnswers_s4 (nI c) G q.1 q.2) FU (y, (0 : Int32)) = some (itr (fun j h => mx h (nI (cp j c)).toInt64) 0 4 y) := by
      refine lp_A (st := fun q => C_LT_hashAnswers_s4 (nI c) G q.1 q.2) (fun j h => mx h (nI (cp j c)).toInt64) id 0 4 y (by decide) (by decide) (fun j z _ hj => ?_) (fun z => ?_)
      · show C_LT_hashAnswers_s4 (nI c) G z (nI j) = _
        unfold C_LT_hashAnswers_s4
        rw [show (3 : Int32) = nI 3 from rfl, if_neg (nI_nlt (by omega) (by decide)), bd_of (k_at C bm hc), bd_of (k_prop B hc (show j ≤ 3 by omega))]
        dsimp only [nm]
        rw [nI_1]
        rfl
      · show C_LT_hashAnswers_s4 (nI c) G z (nI 4) = _
        unfold C_LT_hashAnswers_s4
        rw [if_pos (by decide)]
        rfl
    show C_LT_hashAnswers_s3 G y (nI c) = _
    unfold C_LT_hashAnswers_s3
    rw [C.1, if_neg (nI_ge hc (by omega)), bd_of i4]
    dsimp only [nm]
    rw [nI_1]
  · show C_LT_hashAnswers_s3 G y (nI m) = _
    unfold C_LT_hashAnswers_s3
    rw [C.1, if_pos (nI_le (Nat.le_refl _) (by omega))]
    rfl
