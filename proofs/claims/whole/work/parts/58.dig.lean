/-! DIGEST: the hash as a chain of sums, both sides -/
def mx (h v : Int64) : Int64 := ((31 : Int64) * h) + v
theorem mx_M (E : Nat → Nat → Int64) (a : Int64) : eqx [39] E (M_mix E a) ∧ (M_mix E a) 39 0 = mx (E 39 0) a := by
  unfold M_mix
  dsimp only [nm]
  exact ⟨eqx_wf (by decide), by rw [wf_ap, if_pos rfl]; rfl⟩
theorem m_mxl {st : Int32 × (Nat → Nat → Int64) → Option ((Int32 × (Nat → Nat → Int64)) ⊕ (Nat → Nat → Int64))} (f : Nat → Int64 → Int64) {n : Nat} (hn : n < 100000) (hs : ∀ k E, k < n → ∃ E2, st (nI k, E) = some (.inl (nI (k + 1), E2)) ∧ eqx [39] E E2 ∧ E2 39 0 = f k (E 39 0)) (he : ∀ E, st (nI n, E) = some (.inr E)) (E : Nat → Nat → Int64) : ∃ E2, lp st FU ((0 : Int32), E) = some E2 ∧ eqx [39] E E2 ∧ E2 39 0 = itr f 0 n (E 39 0) := by
  obtain ⟨v, e1, e2, e3⟩ := lp_iv (st := st) (fun k q => q.1 = nI k ∧ eqx [39] E q.2 ∧ q.2 39 0 = itr f 0 k (E 39 0)) (fun v => eqx [39] E v ∧ v 39 0 = itr f 0 n (E 39 0)) 0 n (by omega) hn (fun k q _ hk ⟨q1, q2, q3⟩ => by
      obtain ⟨E2, p1, p2, p3⟩ := hs k q.2 hk
      refine ⟨(nI (k + 1), E2), ?_, rfl, eqx_tr q2 p2, ?_⟩
      · rw [show q = (q.1, q.2) from rfl, q1]; exact p1
      · dsimp only; rw [p3, q3, itr, Nat.zero_add]) (fun q ⟨q1, q2, q3⟩ => by
      refine ⟨q.2, ?_, q2, q3⟩
      rw [show q = (q.1, q.2) from rfl, q1]; exact he q.2) ((0 : Int32), E) ⟨rfl, eqx_rf, rfl⟩
  exact ⟨v, e1, e2, e3⟩
/-- counts -/
def hC (n L : Nat) (s : SN) (K : Nat) (x : Int64) : Int64 := itr (fun j h => mx h (cntV n L s K j).toInt64) 0 8 x
theorem m_hC {n L : Nat} {w : Nat → Nat} {s : SN} {K : Nat} {hs : Nat → SN} {v len : Nat} {tx : Nat → Int32} {h : Nat → Nat → Int32} (B : RP n L w s K hs v len) (M : RM n L w s K hs len tx h) (E : Nat → Nat → Int64) : ∃ E2, lp (fun q => M_digest_s1 h q.1 q.2) FU ((0 : Int32), E) = some E2 ∧ eqx [39] E E2 ∧ E2 39 0 = hC n L s K (E 39 0) := by
  refine m_mxl (st := fun q => M_digest_s1 h q.1 q.2) (fun j h => mx h (cntV n L s K j).toInt64) (by decide) (fun k E hk => ?_) (fun E => ?_) E
  · refine ⟨M_mix E (cntV n L s K k).toInt64, ?_, (mx_M _ _).1, (mx_M _ _).2⟩
    show M_digest_s1 h (nI k) E = _
    unfold M_digest_s1
    rw [show (8 : Int32) = nI 8 from rfl, if_neg (nI_ge hk (by decide)), bd_of (m_counted B M (show k ≤ 7 by omega))]
    dsimp only [nm]
    rw [nI_1]
  · show M_digest_s1 h (nI 8) E = _
    unfold M_digest_s1
    rw [if_pos (by decide)]
theorem k_hC {n L : Nat} {w : Nat → Nat} {s : SN} {K : Nat} {hs : Nat → SN} {v len : Nat} {tx : Nat → Int32} {G : Nat → Nat → Int32} {P : Nat → Option PRec} (B : RP n L w s K hs v len) (C : RC n L w s K hs v len tx G P) (x : Int64) : lp (fun q => C_LT_hashAnswers_s1 G P q.1 q.2) FU (x, (0 : Int32)) = some (hC n L s K x) := by
  refine lp_A (st := fun q => C_LT_hashAnswers_s1 G P q.1 q.2) (fun j h => mx h (cntV n L s K j).toInt64) id 0 8 x (by decide) (by decide) (fun k y _ hk => ?_) (fun y => ?_)
  · show C_LT_hashAnswers_s1 G P y (nI k) = _
    unfold C_LT_hashAnswers_s1
    rw [show (7 : Int32) = nI 7 from rfl, if_neg (nI_nlt (by omega) (by decide)), bd_of (k_count B C (show k ≤ 7 by omega))]
    dsimp only [nm]
    rw [nI_1]
    rfl
  · show C_LT_hashAnswers_s1 G P y (nI 8) = _
    unfold C_LT_hashAnswers_s1
    rw [if_pos (by decide)]
    rfl
