/-! DIGEST: trials, text -/
def hT (p : Option (Nat × Nat × TA)) (x : Int64) : Int64 := match p with
  | none => x
  | some y => itr (fun t h => mx (mx h (nI (y.2.2 t).1).toInt64) (nI (y.2.2 t).2).toInt64) 0 y.2.1 x
theorem m_hT {n L : Nat} {s : SN} {h : Nat → Nat → Int32} (B : snB n L s) (hn : n ≤ 8) (M : mCu h s) (E : Nat → Nat → Int64) : ∃ E2, lp (fun q => M_digest_s4 h q.1 q.2) FU ((0 : Int32), E) = some E2 ∧ eqx [39] E E2 ∧ E2 39 0 = hT s.2.2.1 (E 39 0) := by
  obtain ⟨m1, m2, m3, m4, m5⟩ := M
  cases hp : s.2.2.1 with
  | none =>
    rw [hp] at m3
    exact m_mxl (st := fun q => M_digest_s4 h q.1 q.2) (fun _ h => h) (n := 0) (by decide) (fun k E hk => absurd hk (Nat.not_lt_zero _)) (fun E => by
      show M_digest_s4 h (nI 0) E = _
      unfold M_digest_s4
      rw [show h 10 0 = nI 0 from m3, if_pos (nI_le (Nat.le_refl _) (by decide))]) E
  | some y =>
    obtain ⟨x1, x2, x3, x4⟩ := B.2.2.2 y hp
    have hA := m5 y hp
    rw [hp] at m3
    exact m_mxl (st := fun q => M_digest_s4 h q.1 q.2) (fun t h => mx (mx h (nI (y.2.2 t).1).toInt64) (nI (y.2.2 t).2).toInt64) (n := y.2.1) (by omega) (fun k E hk => by
      obtain ⟨t1, t2⟩ := m_tr x2 hn hA x3 hk
      refine ⟨M_mix (M_mix E (nI (y.2.2 k).1).toInt64) (nI (y.2.2 k).2).toInt64, ?_, eqx_tr (mx_M _ _).1 (mx_M _ _).1, by rw [(mx_M _ _).2, (mx_M _ _).2]⟩
      show M_digest_s4 h (nI k) E = _
      unfold M_digest_s4
      rw [show h 10 0 = nI y.2.1 from m3, if_neg (nI_ge hk (by omega)), ri_k (show k < 56 by omega) (by decide), nI_clamp (by omega), t2, t1]
      dsimp only [nm]
      rw [ri_k (show k < 56 by omega) (by decide), nI_1]) (fun E => by
      show M_digest_s4 h (nI y.2.1) E = _
      unfold M_digest_s4
      rw [show h 10 0 = nI y.2.1 from m3, if_pos (nI_le (Nat.le_refl _) (by omega))]) E
theorem k_hT {n L : Nat} {s : SN} {G : Nat → Nat → Int32} {P : Nat → Option PRec} (B : snB n L s) (hn : n ≤ 8) (C : cPl (P 0) s.2.2.1) (x : Int64) : C_LT_hashPlan G P x = some (hT s.2.2.1 x) := by
  unfold C_LT_hashPlan
  cases hp : s.2.2.1 with
  | none =>
    rw [hp] at C
    rw [show P 0 = none from C]
    rfl
  | some y =>
    obtain ⟨x1, x2, x3, x4⟩ := B.2.2.2 y hp
    rw [hp] at C
    obtain ⟨z, z1, z2, z3, z4⟩ := C
    have e : lp (fun q => C_LT_hashPlan_s1 z q.1 q.2) FU (x, (0 : Int32)) = some (itr (fun t h => mx (mx h (nI (y.2.2 t).1).toInt64) (nI (y.2.2 t).2).toInt64) 0 y.2.1 x) := by
      refine lp_A (st := fun q => C_LT_hashPlan_s1 z q.1 q.2) (fun t h => mx (mx h (nI (y.2.2 t).1).toInt64) (nI (y.2.2 t).2).toInt64) id 0 y.2.1 x (by omega) (by omega) (fun t u _ ht => ?_) (fun u => ?_)
      · obtain ⟨k1, k2⟩ := k_firstAt (show y.2.1 < 1000 by omega) hn z4 x3 ht
        show C_LT_hashPlan_s1 z u (nI t) = _
        unfold C_LT_hashPlan_s1 P_size
        dsimp only [nm]
        rw [z3, if_neg (nI_ge ht (by omega)), bd_of k1, bd_of k2, nI_1]
        rfl
      · show C_LT_hashPlan_s1 z u (nI y.2.1) = _
        unfold C_LT_hashPlan_s1 P_size
        dsimp only [nm]
        rw [z3, if_pos (nI_le (Nat.le_refl _) (by omega))]
        rfl
    rw [z1, oc_some rfl, bd_of e]
    rfl
