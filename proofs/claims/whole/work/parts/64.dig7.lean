/-! DIGEST: pairs of the class -/
theorem k_hP {G : Nat → Nat → Int32} {w : Nat → Nat} {m : Nat} {cp : Nat → Nat → Nat} {n : Nat} (hm : m ≤ 48) (g0 : G 0 0 = nI n) (hn : n ≤ 8) (S : ∀ i j, i < 8 → j < 8 → G 20 (8 * i + j) = mgn w m cp i j) (T : isT G m cp) (x : Int64) : lp (fun q => C_LT_hashPairs_s1 G q.1 q.2) FU (x, (0 : Int32)) = some (hPp w m cp n x) := by
  refine lp_A (st := fun q => C_LT_hashPairs_s1 G q.1 q.2) (fun i h => hPi w m cp n i h) id 0 n x (by omega) (by omega) (fun i y _ hi => ?_) (fun y => ?_)
  · have e : lp (fun q => C_LT_hashPairs_s2 (nI i) G q.1 q.2) FU (y, nI (i + 1)) = some (hPi w m cp n i y) := by
      refine lp_A (st := fun q => C_LT_hashPairs_s2 (nI i) G q.1 q.2) (fun j h => mx (mx h (mgn w m cp i j).toInt64) (chv (wiA m cp i j) (wiA m cp j i))) id (i + 1) n y hi (by omega) (fun j z hj1 hj => ?_) (fun z => ?_)
      · show C_LT_hashPairs_s2 (nI i) G z (nI j) = _
        unfold C_LT_hashPairs_s2
        rw [g0, if_neg (nI_ge hj (by omega)), bd_of (k_cellI_22 (show i < 8 by omega) (show j < 8 by omega)).2, S i j (by omega) (by omega)]
        dsimp only [nm]
        rw [bd_of (k_chance hm T (show i < 8 by omega) (show j < 8 by omega) (by omega)), nI_1]
        rfl
      · show C_LT_hashPairs_s2 (nI i) G z (nI n) = _
        unfold C_LT_hashPairs_s2
        rw [g0, if_pos (nI_le (Nat.le_refl _) (by omega))]
        rfl
    show C_LT_hashPairs_s1 G y (nI i) = _
    unfold C_LT_hashPairs_s1
    rw [g0, if_neg (nI_ge hi (by omega))]
    dsimp only [nm]
    rw [nI_1, bd_of e]
  · show C_LT_hashPairs_s1 G y (nI n) = _
    unfold C_LT_hashPairs_s1
    rw [g0, if_pos (nI_le (Nat.le_refl _) (by omega))]
    rfl
