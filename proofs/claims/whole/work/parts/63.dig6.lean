/-! DIGEST: pairs -/
theorem m_mxa {st : Int32 × (Nat → Nat → Int64) → Option ((Int32 × (Nat → Nat → Int64)) ⊕ (Nat → Nat → Int64))} (f : Nat → Int64 → Int64) {a n : Nat} (h : a ≤ n) (hn : n < 100000) (hs : ∀ k E, a ≤ k → k < n → ∃ E2, st (nI k, E) = some (.inl (nI (k + 1), E2)) ∧ eqx [39] E E2 ∧ E2 39 0 = f k (E 39 0)) (he : ∀ E, st (nI n, E) = some (.inr E)) (E : Nat → Nat → Int64) : ∃ E2, lp st FU (nI a, E) = some E2 ∧ eqx [39] E E2 ∧ E2 39 0 = itr f a (n - a) (E 39 0) := by
  obtain ⟨v, e1, e2, e3⟩ := lp_iv (st := st) (fun k q => q.1 = nI k ∧ eqx [39] E q.2 ∧ q.2 39 0 = itr f a (k - a) (E 39 0)) (fun v => eqx [39] E v ∧ v 39 0 = itr f a (n - a) (E 39 0)) a n h hn (fun k q ha hk ⟨q1, q2, q3⟩ => by
      obtain ⟨E2, p1, p2, p3⟩ := hs k q.2 ha hk
      refine ⟨(nI (k + 1), E2), ?_, rfl, eqx_tr q2 p2, ?_⟩
      · rw [show q = (q.1, q.2) from rfl, q1]; exact p1
      · dsimp only; rw [p3, q3, itr_up f a ha]) (fun q ⟨q1, q2, q3⟩ => by
      refine ⟨q.2, ?_, q2, q3⟩
      rw [show q = (q.1, q.2) from rfl, q1]; exact he q.2) (nI a, E) ⟨rfl, eqx_rf, by dsimp only; rw [itr_0]⟩
  exact ⟨v, e1, e2, e3⟩
def hPi (w : Nat → Nat) (m : Nat) (cp : Nat → Nat → Nat) (n i : Nat) (x : Int64) : Int64 := itr (fun j h => mx (mx h (mgn w m cp i j).toInt64) (chv (wiA m cp i j) (wiA m cp j i))) (i + 1) (n - (i + 1)) x
def hPp (w : Nat → Nat) (m : Nat) (cp : Nat → Nat → Nat) (n : Nat) (x : Int64) : Int64 := itr (fun i h => hPi w m cp n i h) 0 n x
theorem m_hP {h : Nat → Nat → Int32} {w : Nat → Nat} {m : Nat} {cp : Nat → Nat → Nat} {n : Nat} (B : cB m cp) (M : isM h m cp) (W : isW h 3 w) (h1 : h 1 0 = nI n) (hn : n ≤ 8) (E : Nat → Nat → Int64) : ∃ E2, lp (fun q => M_mixSamples_s3 h q.1 q.2) FU ((0 : Int32), E) = some E2 ∧ eqx [39] E E2 ∧ E2 39 0 = hPp w m cp n (E 39 0) := by
  refine m_mxl (st := fun q => M_mixSamples_s3 h q.1 q.2) (fun i h => hPi w m cp n i h) (by omega) (fun i E hi => ?_) (fun E => ?_) E
  · obtain ⟨E2, e1, e2, e3⟩ := m_mxa (st := fun q => M_mixSamples_s4 (nI i) h q.1 q.2) (fun j h => mx (mx h (mgn w m cp i j).toInt64) (chv (wiA m cp i j) (wiA m cp j i))) (a := i + 1) (n := n) hi (by omega) (fun j E hj1 hj => by
      refine ⟨M_mix (M_mix E (mgn w m cp i j).toInt64) (chv (wiA m cp i j) (wiA m cp j i)), ?_, eqx_tr (mx_M _ _).1 (mx_M _ _).1, by rw [(mx_M _ _).2, (mx_M _ _).2]⟩
      show M_mixSamples_s4 (nI i) h (nI j) E = _
      unfold M_mixSamples_s4
      rw [h1, if_neg (nI_ge hj (by omega)), bd_of (m_margin M B W (show i < 8 by omega) (show j < 8 by omega))]
      dsimp only [nm]
      rw [bd_of (m_chanceNow B M (show i < 8 by omega) (show j < 8 by omega) (by omega)), nI_1]) (fun E => by
      show M_mixSamples_s4 (nI i) h (nI n) E = _
      unfold M_mixSamples_s4
      rw [h1, if_pos (nI_le (Nat.le_refl _) (by omega))]) E
    refine ⟨E2, ?_, e2, e3⟩
    show M_mixSamples_s3 h (nI i) E = _
    unfold M_mixSamples_s3
    rw [h1, if_neg (nI_ge hi (by omega))]
    dsimp only [nm]
    rw [nI_1, bd_of e1]
  · show M_mixSamples_s3 h (nI n) E = _
    unfold M_mixSamples_s3
    rw [h1, if_pos (nI_le (Nat.le_refl _) (by omega))]
