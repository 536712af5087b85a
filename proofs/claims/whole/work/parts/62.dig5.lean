/-! DIGEST: text -/
def hX (tx : Nat → Int32) (len : Nat) (x : Int64) : Int64 := itr (fun t h => mx h (tx t).toInt64) 0 len x
theorem m_hX {h : Nat → Nat → Int32} {len : Nat} {tx : Nat → Int32} (hl : len ≤ 60) (h20 : h 20 0 = nI len) (h21 : ∀ t, t < len → h 21 t = tx t) (E : Nat → Nat → Int64) : ∃ E2, lp (fun q => M_digest_s5 h q.1 q.2) FU ((0 : Int32), E) = some E2 ∧ eqx [39] E E2 ∧ E2 39 0 = hX tx len (E 39 0) := by
  refine m_mxl (st := fun q => M_digest_s5 h q.1 q.2) (fun t h => mx h (tx t).toInt64) (by omega) (fun k E hk => ?_) (fun E => ?_) E
  · refine ⟨M_mix E (tx k).toInt64, ?_, (mx_M _ _).1, (mx_M _ _).2⟩
    show M_digest_s5 h (nI k) E = _
    unfold M_digest_s5
    rw [h20, if_neg (nI_ge hk (by omega)), ri_k (show k < 60 by omega) (by decide), nI_clamp (by omega), h21 k hk]
    dsimp only [nm]
    rw [nI_1]
  · show M_digest_s5 h (nI len) E = _
    unfold M_digest_s5
    rw [h20, if_pos (nI_le (Nat.le_refl _) (by omega))]
theorem k_hX {G : Nat → Nat → Int32} {len : Nat} {tx : Nat → Int32} (hl : len ≤ 60) (g9 : G 9 0 = nI len) (g8 : ∀ t, t < len → G 8 t = tx t) (x : Int64) : lp (fun q => C_LT_digest_s1 G q.1 q.2) FU (x, (0 : Int32)) = some (hX tx len x) := by
  refine lp_A (st := fun q => C_LT_digest_s1 G q.1 q.2) (fun t h => mx h (tx t).toInt64) id 0 len x (by omega) (by omega) (fun t y _ ht => ?_) (fun y => ?_)
  · have e : C_TX_codeAt G (nI t) = some (tx t) := by
      unfold C_TX_codeAt
      rw [if_neg (nI_pos (by omega)), g9, if_neg (nI_ge ht (by omega)), ri_k (show t < 60 by omega) (by decide), nI_clamp (by omega), g8 t ht]
    show C_LT_digest_s1 G y (nI t) = _
    unfold C_LT_digest_s1
    rw [g9, if_neg (nI_ge ht (by omega)), bd_of e]
    dsimp only [nm]
    rw [nI_1]
    rfl
  · show C_LT_digest_s1 G y (nI len) = _
    unfold C_LT_digest_s1
    rw [g9, if_pos (nI_le (Nat.le_refl _) (by omega))]
    rfl
