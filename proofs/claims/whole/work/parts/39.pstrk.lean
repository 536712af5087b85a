/-! STRENGTHS OF THE CLASS; misfits -/
theorem k_tiesOf {g : Nat → Nat → Int32} {m : Nat} {cp : Nat → Nat → Nat} (T : ∀ i j, i < 8 → j < 8 → g 17 (8 * i + j) = nI (tiA m cp i j)) {i j : Nat} (hi : i < 8) (hj : j < 8) : C_TA_tiesOf g (nI i) (nI j) = some (nI (tiA m cp i j)) := by
  unfold C_TA_tiesOf
  dsimp only [nm]
  rw [c8_cell i hi j hj, ri_k (show 8 * i + j < 64 by omega) (by decide), nI_clamp (show 8 * i + j < 2 ^ 31 by omega), T i j hi hj]
/-- the class's table of meetings -/
def isX (g : Nat → Nat → Int32) (mt : Nat → Nat → Nat) (n : Nat) : Prop := ∀ i j, i < n → j < n → g 42 (8 * i + j) = nI (mt i j)
theorem k_takeRes {G : Nat → Nat → Int32} {D : Nat → Nat → UInt64} {m : Nat} {cp : Nat → Nat → Nat} {n : Nat} (h41 : G 41 0 = nI n) (hn : n ≤ 8) (T : isT G m cp) (T2 : ∀ i j, i < 8 → j < 8 → G 17 (8 * i + j) = nI (tiA m cp i j)) {i : Nat} (hi : i < n) : ∃ G2, C_SR_takeResults G D (nI i) = some (G2, wr D 0 (nI i) (wnV m cp n i)) ∧ eqx [42] G G2 ∧ (∀ a b, a ≠ i → b < 8 → G2 42 (8 * a + b) = G 42 (8 * a + b)) ∧ ∀ b, b < n → G2 42 (8 * i + b) = nI (mtN m cp i b) := by
  obtain ⟨r, e1, e2, e3, e4, e5, e6⟩ := lp_iv (st := fun q => C_SR_takeResults_s1 (nI i) q.1 q.2.1 q.2.2.1 q.2.2.2) (fun j q => q.1 = nI (fb_sm (fun j => wiA m cp i j) j) ∧ q.2.1 = nI (fb_sm (fun j => tiA m cp i j) j) ∧ q.2.2.1 = nI j ∧ eqx [42] G q.2.2.2 ∧ (∀ a b, a ≠ i → b < 8 → q.2.2.2 42 (8 * a + b) = G 42 (8 * a + b)) ∧ ∀ b, b < j → q.2.2.2 42 (8 * i + b) = nI (mtN m cp i b)) (fun r => r.1 = nI (fb_sm (fun j => wiA m cp i j) n) ∧ r.2.1 = nI (fb_sm (fun j => tiA m cp i j) n) ∧ eqx [42] G r.2.2 ∧ (∀ a b, a ≠ i → b < 8 → r.2.2 42 (8 * a + b) = G 42 (8 * a + b)) ∧ ∀ b, b < n → r.2.2 42 (8 * i + b) = nI (mtN m cp i b)) 0 n (by omega) (by omega) (fun j q _ hj ⟨q1, q2, q3, q4, q5, q6⟩ => by
      have q41 : q.2.2.2 41 0 = nI n := by rw [q4 41 (by decide)]; exact h41
      have Tq : isT q.2.2.2 m cp := by unfold isT; rw [q4 16 (by decide)]; exact T
      have T2q : ∀ i j, i < 8 → j < 8 → q.2.2.2 17 (8 * i + j) = nI (tiA m cp i j) := by rw [q4 17 (by decide)]; exact T2
      refine ⟨(nI (fb_sm (fun j => wiA m cp i j) (j + 1)), nI (fb_sm (fun j => tiA m cp i j) (j + 1)), nI (j + 1), wr q.2.2.2 42 (nI (8 * i + j)) (nI (mtN m cp i j))), ?_, rfl, rfl, rfl, eqx_tr q4 (eqx_wr (by decide)), fun a b ha hb => ?_, fun b hb => ?_⟩
      · show C_SR_takeResults_s1 (nI i) q.1 q.2.1 q.2.2.1 q.2.2.2 = _
        unfold C_SR_takeResults_s1
        rw [q1, q2, q3, q41, if_neg (nI_ge hj (by omega)), bd_of (k_winsOf Tq (show i < 8 by omega) (show j < 8 by omega))]
        dsimp only [nm]
        rw [bd_of (k_tiesOf T2q (show i < 8 by omega) (show j < 8 by omega)), bd_of (k_decided Tq (show i < 8 by omega) (show j < 8 by omega)), bd_of (k_tiesOf T2q (show i < 8 by omega) (show j < 8 by omega)), c8_cell i (by omega) j (by omega), ri_k (show 8 * i + j < 64 by omega) (by decide), nI_add, nI_add, nI_add, nI_1, fb_sm_succ, fb_sm_succ]
        rfl
      · dsimp only
        rw [wr_nI _ _ (show 8 * i + j < 2 ^ 31 by omega), va_up_self, up8 _ _ _ _ _ _ (by omega) hb, if_neg (by omega)]
        exact q5 a b ha hb
      · dsimp only
        rw [wr_nI _ _ (show 8 * i + j < 2 ^ 31 by omega), va_up_self, up8 _ _ _ _ _ _ (by omega) (by omega)]
        by_cases u : b = j
        · rw [if_pos ⟨rfl, u⟩, u]
        · rw [if_neg (by omega)]
          exact q6 b (by omega)) (fun q ⟨q1, q2, q3, q4, q5, q6⟩ => by
      have q41 : q.2.2.2 41 0 = nI n := by rw [q4 41 (by decide)]; exact h41
      refine ⟨(q.1, q.2.1, q.2.2.2), ?_, q1, q2, q4, q5, q6⟩
      show C_SR_takeResults_s1 (nI i) q.1 q.2.1 q.2.2.1 q.2.2.2 = _
      unfold C_SR_takeResults_s1
      rw [q3, q41, if_pos (nI_le (Nat.le_refl _) (by omega))]) ((0 : Int32), (0 : Int32), (0 : Int32), G) ⟨rfl, rfl, rfl, eqx_rf, fun _ _ _ _ => rfl, fun b hb => by omega⟩
  refine ⟨r.2.2, ?_, e4, e5, e6⟩
  unfold C_SR_takeResults
  rw [bd3_of (a := r.1) (b := r.2.1) (c := r.2.2) e1, c8_and i (by omega), ri_k (show i < 8 by omega) (by decide), e2, e3]
  rfl
theorem k_newValues {G : Nat → Nat → Int32} {D : Nat → Nat → UInt64} {mt : Nat → Nat → Nat} {n : Nat} (h41 : G 41 0 = nI n) (hn : n ≤ 8) (N : isX G mt n) {wn v : Nat → UInt64} (hw : ∀ i, i < n → D 0 i = wn i) (hv : ∀ i, i < n → D 1 i = v i) : ∃ D2, C_SR_makeNewValues G D = some D2 ∧ eqx [2] D D2 ∧ ∀ i, i < n → D2 2 i = nwV mt wn v n i := by
  have inner : ∀ (i : Nat) (d : Nat → Nat → UInt64), i < n → (∀ j, j < n → d 1 j = v j) → lp (fun q => C_SR_makeNewValues_s2 (nI i) G d q.1 q.2) FU (FP.dconst0, (0 : Int32)) = some (fsV mt v n i) := by
    intro i d hi hd
    have e := lp_A (st := fun q => C_SR_makeNewValues_s2 (nI i) G d q.1 q.2) (fun j s => fsS mt v i j s) (fun s => s) 0 n FP.dconst0 (by omega) (by omega) (fun j s _ hj => by
      show C_SR_makeNewValues_s2 (nI i) G d s (nI j) = _
      unfold C_SR_makeNewValues_s2
      rw [h41, if_neg (nI_ge hj (by omega)), ri_k (show i < 8 by omega) (by decide), ri_k (show j < 8 by omega) (by decide), nI_clamp (show i < 2 ^ 31 by omega), nI_clamp (show j < 2 ^ 31 by omega), hd i hi, hd j hj]
      dsimp only [nm]
      rw [c8_cell i (by omega) j (by omega), ri_k (show 8 * i + j < 64 by omega) (by decide), nI_clamp (show 8 * i + j < 2 ^ 31 by omega), N i j hi hj, ri_k (show 8 * i + j < 64 by omega) (by decide), nI_1]
      unfold fsS
      by_cases c1 : nI (mt i j) ≤ 0
      · rw [if_pos c1, if_pos c1]
        rfl
      · rw [if_neg c1, if_neg c1]
        by_cases c2 : Op.cmpValue (FP.dcmp (FP.dadd (v i) (v j)) FP.dconst0) CmpOp.l ≤ 0
        · rw [if_pos c2, if_pos c2]
          rfl
        · rw [if_neg c2, if_neg c2]
          rfl) (fun s => by
      show C_SR_makeNewValues_s2 (nI i) G d s (nI n) = _
      unfold C_SR_makeNewValues_s2
      rw [h41, if_pos (nI_le (Nat.le_refl _) (by omega))])
    exact e
  obtain ⟨D7, a1, a2, a3⟩ := lp_iv (st := fun q => C_SR_makeNewValues_s1 G q.1 q.2) (fun i q => q.1 = nI i ∧ eqx [2] D q.2 ∧ ∀ t, t < i → q.2 2 t = nwV mt wn v n t) (fun r => eqx [2] D r ∧ ∀ t, t < n → r 2 t = nwV mt wn v n t) 0 n (by omega) (by omega) (fun i q _ hi ⟨q1, q2, q3⟩ => by
      have d1 : ∀ j, j < n → q.2 1 j = v j := fun j hj => by rw [q2 1 (by decide)]; exact hv j hj
      have d0 : q.2 0 i = wn i := by rw [q2 0 (by decide)]; exact hw i hi
      have hb : (if Op.cmpValue (FP.dcmp (fsV mt v n i) FP.dconst0) CmpOp.l ≤ 0 then (ri 8 (nI i) <| some (q.2 1 (nI i).toNatClampNeg)) else (ri 8 (nI i) <| some (FP.ddiv (q.2 0 (nI i).toNatClampNeg) (fsV mt v n i)))) = some (nwV mt wn v n i) := by
        rw [ri_k (show i < 8 by omega) (by decide), ri_k (show i < 8 by omega) (by decide), nI_clamp (show i < 2 ^ 31 by omega), d1 i hi, d0]
        unfold nwV
        by_cases c : Op.cmpValue (FP.dcmp (fsV mt v n i) FP.dconst0) CmpOp.l ≤ 0
        · rw [if_pos c, if_pos c]
        · rw [if_neg c, if_neg c]
      refine ⟨(nI (i + 1), wr q.2 2 (nI i) (nwV mt wn v n i)), ?_, rfl, eqx_tr q2 (eqx_wr (by decide)), fun t ht => ?_⟩
      · show C_SR_makeNewValues_s1 G q.1 q.2 = _
        unfold C_SR_makeNewValues_s1
        rw [q1, h41, if_neg (nI_ge hi (by omega))]
        dsimp only [nm]
        rw [bd_of (inner i q.2 hi d1), bd_of hb, ri_k (show i < 8 by omega) (by decide), nI_1]
      · dsimp only
        rw [wr_ap, if_pos rfl, nI_clamp (by omega)]
        by_cases u : t = i
        · rw [if_pos u, u]
        · rw [if_neg u]
          exact q3 t (by omega)) (fun q ⟨q1, q2, q3⟩ => by
      refine ⟨q.2, ?_, q2, q3⟩
      show C_SR_makeNewValues_s1 G q.1 q.2 = _
      unfold C_SR_makeNewValues_s1
      rw [q1, h41, if_pos (nI_le (Nat.le_refl _) (by omega))]) ((0 : Int32), D) ⟨rfl, eqx_rf, fun t ht => by omega⟩
  exact ⟨D7, by unfold C_SR_makeNewValues; rw [bd_of a1], a2, a3⟩
theorem k_scale {G : Nat → Nat → Int32} {D : Nat → Nat → UInt64} {mt : Nat → Nat → Nat} {n : Nat} (h41 : G 41 0 = nI n) (hn : n ≤ 8) {wn v : Nat → UInt64} (hv : ∀ i, i < n → D 2 i = nwV mt wn v n i) : ∃ D2, C_SR_scaleNewValues G D = some D2 ∧ eqx [1] D D2 ∧ ∀ i, i < n → D2 1 i = rnV mt wn v n i := by
  have b1 := lp_A (st := fun q => C_SR_scaleNewValues_s1 G D q.1 q.2) (fun i s => FP.dadd s (D 2 i)) (fun s => s) 0 n FP.dconst0 (by omega) (by omega) (fun i x _ hi => by
    show C_SR_scaleNewValues_s1 G D x (nI i) = _
    unfold C_SR_scaleNewValues_s1
    rw [h41, if_neg (nI_ge hi (by omega)), ri_k (show i < 8 by omega) (by decide), nI_clamp (show i < 2 ^ 31 by omega)]
    dsimp only [nm]
    rw [nI_1]) (fun x => by
    show C_SR_scaleNewValues_s1 G D x (nI n) = _
    unfold C_SR_scaleNewValues_s1
    rw [h41, if_pos (nI_le (Nat.le_refl _) (by omega))])
  have b2 : itr (fun i s => FP.dadd s (D 2 i)) 0 (n - 0) FP.dconst0 = ttV (nwV mt wn v n) n := ttV_cong (v := fun i => D 2 i) (u := nwV mt wn v n) hv
  rw [b2] at b1
  obtain ⟨D2, c1, c2, c3⟩ := lp_iv (st := fun q => C_SR_scaleNewValues_s2 (ttV (nwV mt wn v n) n) G q.1 q.2) (fun i q => q.1 = nI i ∧ eqx [1] D q.2 ∧ ∀ t, t < i → q.2 1 t = rnV mt wn v n t) (fun r => eqx [1] D r ∧ ∀ t, t < n → r 1 t = rnV mt wn v n t) 0 n (by omega) (by omega) (fun i q _ hi ⟨q1, q2, q3⟩ => by
      have hb : (if Op.cmpValue (FP.dcmp (ttV (nwV mt wn v n) n) FP.dconst0) CmpOp.l ≤ 0 then (ri 8 (nI i) <| some (q.2 2 (nI i).toNatClampNeg)) else (ri 8 (nI i) <| some (FP.dmul (q.2 2 (nI i).toNatClampNeg) (FP.ddiv (FP.i2d (G 41 0)) (ttV (nwV mt wn v n) n))))) = some (rnV mt wn v n i) := by
        rw [ri_k (show i < 8 by omega) (by decide), ri_k (show i < 8 by omega) (by decide), nI_clamp (show i < 2 ^ 31 by omega), q2 2 (by decide), hv i hi, h41]
        unfold rnV
        by_cases c : Op.cmpValue (FP.dcmp (ttV (nwV mt wn v n) n) FP.dconst0) CmpOp.l ≤ 0
        · rw [if_pos c, if_pos c]
        · rw [if_neg c, if_neg c]
      refine ⟨(nI (i + 1), wr q.2 1 (nI i) (rnV mt wn v n i)), ?_, rfl, eqx_tr q2 (eqx_wr (by decide)), fun t ht => ?_⟩
      · show C_SR_scaleNewValues_s2 (ttV (nwV mt wn v n) n) G q.1 q.2 = _
        unfold C_SR_scaleNewValues_s2
        rw [q1, if_neg (show ¬ G 41 0 ≤ nI i by rw [h41]; exact nI_ge hi (by omega)), bd_of hb, ri_k (show i < 8 by omega) (by decide)]
        dsimp only [nm]
        rw [nI_1]
      · dsimp only
        rw [wr_ap, if_pos rfl, nI_clamp (by omega)]
        by_cases u : t = i
        · rw [if_pos u, u]
        · rw [if_neg u]
          exact q3 t (by omega)) (fun q ⟨q1, q2, q3⟩ => by
      refine ⟨q.2, ?_, q2, q3⟩
      show C_SR_scaleNewValues_s2 (ttV (nwV mt wn v n) n) G q.1 q.2 = _
      unfold C_SR_scaleNewValues_s2
      rw [q1, h41, if_pos (nI_le (Nat.le_refl _) (by omega))]) ((0 : Int32), D) ⟨rfl, eqx_rf, fun t ht => by omega⟩
  refine ⟨D2, ?_, c2, c3⟩
  unfold C_SR_scaleNewValues
  dsimp only [nm]
  rw [bd_of (show lp (fun q => C_SR_scaleNewValues_s1 G D q.1 q.2) FU (FP.dconst0, (0 : Int32)) = _ from b1), bd_of c1]
theorem k_fillD (D : Nat → Nat → UInt64) (a : UInt64) : ∃ D2, C_JA_fill_d_36 D a = some D2 ∧ eqx [1] D D2 ∧ ∀ t, t < 8 → D2 1 t = a := by
  obtain ⟨r, h1, h2⟩ := lp_iv (st := fun q => C_JA_fill_d_36_s1 a q.1 q.2) (fun i q => q.1 = nI i ∧ eqx [1] D q.2 ∧ ∀ t, t < i → q.2 1 t = a) (fun r => eqx [1] D r ∧ ∀ t, t < 8 → r 1 t = a) 0 8 (by omega) (by omega) (fun i q _ hi ⟨e, hx, hv⟩ => by
      refine ⟨(nI (i + 1), wr q.2 1 (nI i) a), ?_, rfl, eqx_tr hx (eqx_wr (by decide)), fun t ht => ?_⟩
      · show C_JA_fill_d_36_s1 a q.1 q.2 = _
        unfold C_JA_fill_d_36_s1
        rw [e, if_neg (show ¬ (8 : Int32) ≤ nI i from nI_ge hi (by decide)), ri_k hi (by decide)]
        dsimp only [nm]
        rw [nI_1]
      · dsimp only
        rw [wr_ap, if_pos rfl, nI_clamp (by omega)]
        by_cases h : t = i
        · rw [if_pos h]
        · rw [if_neg h]
          exact hv t (by omega)) (fun q ⟨e, hx, hv⟩ => by
      refine ⟨q.2, ?_, hx, hv⟩
      show C_JA_fill_d_36_s1 a q.1 q.2 = _
      unfold C_JA_fill_d_36_s1
      rw [e, if_pos (show (8 : Int32) ≤ nI 8 from nI_le (Nat.le_refl _) (by decide))]) ((0 : Int32), D) ⟨rfl, eqx_rf, fun t h => absurd h (by omega)⟩
  exact ⟨r, by unfold C_JA_fill_d_36; rw [bd_of h1], h2⟩
theorem k_fit {m : Nat} {cp : Nat → Nat → Nat} (B : cB m cp) {G : Nat → Nat → Int32} {D : Nat → Nat → UInt64} (H : isC G 5 4 m cp) {n : Nat} (h0 : G 0 0 = nI n) (hn : n ≤ 8) {k : Nat} (hk : k ≤ 60) : ∃ G2 D2, C_LT_fitStrengths G D (nI k) = some (G2, D2) ∧ eqx [16, 17, 41, 42] G G2 ∧ G2 41 0 = nI n ∧ isX G2 (mtN m cp) n ∧ (∀ i, i < n → D2 0 i = wnV m cp n i) ∧ ∀ i, i < n → D2 1 i = stV (mtN m cp) (wnV m cp n) n k i := by
  obtain ⟨G1, t1, t2, t3⟩ := k_take B H
  have T1 : isT G1 m cp := fun i j hi hj => (t3 i j hi hj).1
  have T2 : ∀ i j, i < 8 → j < 8 → G1 17 (8 * i + j) = nI (tiA m cp i j) := fun i j hi hj => (t3 i j hi hj).2
  obtain ⟨G4, hG4⟩ : ∃ g, g = wf G1 41 (nI n) := ⟨_, rfl⟩
  have x4 : eqx [41] G1 G4 := by rw [hG4]; exact eqx_wf (by decide)
  obtain ⟨r, e1, e2, e3, e4, e5⟩ := lp_iv (st := fun q => C_SR_fit_s1 q.1 q.2.1 q.2.2) (fun i q => q.1 = nI i ∧ eqx [42] G4 q.2.1 ∧ eqx [0] D q.2.2 ∧ (∀ a b, a < i → b < n → q.2.1 42 (8 * a + b) = nI (mtN m cp a b)) ∧ ∀ a, a < i → q.2.2 0 a = wnV m cp n a) (fun r => eqx [42] G4 r.1 ∧ eqx [0] D r.2 ∧ isX r.1 (mtN m cp) n ∧ ∀ a, a < n → r.2 0 a = wnV m cp n a) 0 n (by omega) (by omega) (fun i q _ hi ⟨q1, q2, q3, q4, q5⟩ => by
      have q41 : q.2.1 41 0 = nI n := by rw [q2 41 (by decide), hG4, wf_ap, if_pos rfl]
      have Tq : isT q.2.1 m cp := by unfold isT; rw [q2 16 (by decide), x4 16 (by decide)]; exact T1
      have T2q : ∀ i j, i < 8 → j < 8 → q.2.1 17 (8 * i + j) = nI (tiA m cp i j) := by rw [q2 17 (by decide), x4 17 (by decide)]; exact T2
      obtain ⟨G2, g1, g2, g3, g4⟩ := k_takeRes (D := q.2.2) q41 hn Tq T2q hi
      refine ⟨(nI (i + 1), G2, wr q.2.2 0 (nI i) (wnV m cp n i)), ?_, rfl, eqx_tr q2 g2, eqx_tr q3 (eqx_wr (by decide)), fun a b ha hb => ?_, fun a ha => ?_⟩
      · show C_SR_fit_s1 q.1 q.2.1 q.2.2 = _
        unfold C_SR_fit_s1
        rw [q1, q41, if_neg (nI_ge hi (by omega)), bd2_of g1]
        dsimp only [nm]
        rw [nI_1]
      · by_cases u : a = i
        · subst u
          exact g4 b hb
        · dsimp only
          rw [g3 a b u (by omega)]
          exact q4 a b (by omega) hb
      · dsimp only
        rw [wr_ap, if_pos rfl, nI_clamp (by omega)]
        by_cases u : a = i
        · rw [if_pos u, u]
        · rw [if_neg u]
          exact q5 a (by omega)) (fun q ⟨q1, q2, q3, q4, q5⟩ => by
      have q41 : q.2.1 41 0 = nI n := by rw [q2 41 (by decide), hG4, wf_ap, if_pos rfl]
      refine ⟨(q.2.1, q.2.2), ?_, q2, q3, fun a b ha hb => q4 a b ha hb, q5⟩
      show C_SR_fit_s1 q.1 q.2.1 q.2.2 = _
      unfold C_SR_fit_s1
      rw [q1, q41, if_pos (nI_le (Nat.le_refl _) (by omega))]) ((0 : Int32), G4, D) ⟨rfl, eqx_rf, eqx_rf, fun a b ha => by omega, fun a ha => by omega⟩
  have g41 : r.1 41 0 = nI n := by rw [e2 41 (by decide), hG4, wf_ap, if_pos rfl]
  obtain ⟨D12, b1, b2, b3⟩ := k_fillD r.2 FP.dconst1
  obtain ⟨D16, c1, c2, c3⟩ := lp_iv (st := fun q => C_SR_fit_s2 (nI k) r.1 q.1 q.2) (fun t q => q.1 = nI t ∧ eqx [1, 2] r.2 q.2 ∧ ∀ i, i < n → q.2 1 i = stV (mtN m cp) (wnV m cp n) n t i) (fun v => eqx [1, 2] r.2 v ∧ ∀ i, i < n → v 1 i = stV (mtN m cp) (wnV m cp n) n k i) 0 k (by omega) (by omega) (fun t q _ ht ⟨q1, q2, q3⟩ => by
      obtain ⟨D3, d1, d2, d3⟩ := k_newValues (D := q.2) g41 hn e4 (wn := wnV m cp n) (v := stV (mtN m cp) (wnV m cp n) n t) (fun i hi => by rw [q2 0 (by decide)]; exact e5 i hi) q3
      obtain ⟨D4, f1, f2, f3⟩ := k_scale (D := D3) g41 hn d3
      refine ⟨(nI (t + 1), D4), ?_, rfl, eqx_tr q2 (eqx_tr (eqx_sub d2 (by decide)) (eqx_sub f2 (by decide))), f3⟩
      show C_SR_fit_s2 (nI k) r.1 q.1 q.2 = _
      unfold C_SR_fit_s2
      rw [q1, if_neg (nI_ge ht (by omega)), bd_of d1, bd_of f1]
      dsimp only [nm]
      rw [nI_1]) (fun q ⟨q1, q2, q3⟩ => by
      refine ⟨q.2, ?_, q2, q3⟩
      show C_SR_fit_s2 (nI k) r.1 q.1 q.2 = _
      unfold C_SR_fit_s2
      rw [q1, if_pos (nI_le (Nat.le_refl _) (by omega))]) ((0 : Int32), D12) ⟨rfl, eqx_sub b2 (by decide), fun i hi => b3 i (by omega)⟩
  refine ⟨r.1, D16, ?_, eqx_tr (eqx_sub t2 (by decide)) (eqx_tr (eqx_sub x4 (by decide)) (eqx_sub e2 (by decide))), g41, e4, fun i hi => by rw [c2 0 (by decide)]; exact e5 i hi, c3⟩
  have e8 : (if (8 : Int32) < nI n then (8 : Int32) else nI n) = nI n := if_neg (show ¬ (8 : Int32) < nI n from nI_nlt hn (by decide))
  unfold C_LT_fitStrengths
  rw [bd_of t1, t2 0 (by decide), h0]
  unfold C_SR_fit
  dsimp only [nm]
  rw [e8, ← hG4, bd2_of (a := r.1) (b := r.2) e1, bd_of b1, bd_of c1]
  rfl
/-! misfits -/
def msV (mt : Nat → Nat → Nat) (wn v : Nat → UInt64) (n : Nat) : UInt64 := itr (fun i s => FP.dadd s (FP.dmul (FP.dsub (wn i) (exV mt v n i)) (FP.dsub (wn i) (exV mt v n i)))) 0 n FP.dconst0
theorem k_expected {G : Nat → Nat → Int32} {D : Nat → Nat → UInt64} {mt : Nat → Nat → Nat} {n : Nat} (h41 : G 41 0 = nI n) (hn : n ≤ 8) (N : isX G mt n) {v : Nat → UInt64} (hv : ∀ i, i < n → D 1 i = v i) {i : Nat} (hi : i < n) : C_SR_expectedWins G D (nI i) = some (exV mt v n i) := by
  have e := lp_A (st := fun q => C_SR_expectedWins_s1 (nI i) G D q.1 q.2) (fun j s => exS mt v i j s) (fun s => s) 0 n FP.dconst0 (by omega) (by omega) (fun j s _ hj => by
    show C_SR_expectedWins_s1 (nI i) G D s (nI j) = _
    unfold C_SR_expectedWins_s1
    rw [h41, if_neg (nI_ge hj (by omega)), c8_and i (by omega), ri_k (show i < 8 by omega) (by decide), ri_k (show j < 8 by omega) (by decide), nI_clamp (show i < 2 ^ 31 by omega), nI_clamp (show j < 2 ^ 31 by omega), hv i hi, hv j hj]
    dsimp only [nm]
    rw [c8_cell i (by omega) j (by omega), ri_k (show 8 * i + j < 64 by omega) (by decide), nI_clamp (show 8 * i + j < 2 ^ 31 by omega), N i j hi hj, ri_k (show 8 * i + j < 64 by omega) (by decide), ri_k (show i < 8 by omega) (by decide), nI_1]
    unfold exS
    by_cases c1 : nI (mt i j) ≤ 0
    · rw [if_pos c1, if_pos c1]
      rfl
    · rw [if_neg c1, if_neg c1]
      by_cases c2 : Op.cmpValue (FP.dcmp (FP.dadd (v i) (v j)) FP.dconst0) CmpOp.l ≤ 0
      · rw [if_pos c2, if_pos c2]
        rfl
      · rw [if_neg c2, if_neg c2]
        rfl) (fun s => by
    show C_SR_expectedWins_s1 (nI i) G D s (nI n) = _
    unfold C_SR_expectedWins_s1
    rw [h41, if_pos (nI_le (Nat.le_refl _) (by omega))])
  unfold C_SR_expectedWins
  dsimp only [nm]
  rw [bd_of (show lp (fun q => C_SR_expectedWins_s1 (nI i) G D q.1 q.2) FU (FP.dconst0, (0 : Int32)) = _ from e)]
  rfl
theorem k_squares {G : Nat → Nat → Int32} {D : Nat → Nat → UInt64} {mt : Nat → Nat → Nat} {n : Nat} (h41 : G 41 0 = nI n) (hn : n ≤ 8) (N : isX G mt n) {wn v : Nat → UInt64} (hw : ∀ i, i < n → D 0 i = wn i) (hv : ∀ i, i < n → D 1 i = v i) : C_SR_sumOfSquares G D = some (msV mt wn v n) := by
  have e := lp_A (st := fun q => C_SR_sumOfSquares_s1 G D q.1 q.2) (fun i s => FP.dadd s (FP.dmul (FP.dsub (wn i) (exV mt v n i)) (FP.dsub (wn i) (exV mt v n i)))) (fun s => s) 0 n FP.dconst0 (by omega) (by omega) (fun i s _ hi => by
    show C_SR_sumOfSquares_s1 G D s (nI i) = _
    unfold C_SR_sumOfSquares_s1
    rw [h41, if_neg (nI_ge hi (by omega)), ri_k (show i < 8 by omega) (by decide), bd_of (k_expected h41 hn N hv hi), nI_clamp (show i < 2 ^ 31 by omega), hw i hi]
    dsimp only [nm]
    rw [nI_1]) (fun s => by
    show C_SR_sumOfSquares_s1 G D s (nI n) = _
    unfold C_SR_sumOfSquares_s1
    rw [h41, if_pos (nI_le (Nat.le_refl _) (by omega))])
  unfold C_SR_sumOfSquares
  dsimp only [nm]
  rw [bd_of (show lp (fun q => C_SR_sumOfSquares_s1 G D q.1 q.2) FU (FP.dconst0, (0 : Int32)) = _ from e)]
  rfl
theorem m_squares (hq : DZ) {G : Nat → Nat → Int32} {D : Nat → Nat → UInt64} {mt : Nat → Nat → Nat} {n : Nat} (h1 : G 1 0 = nI n) (hn : n ≤ 8) (N : isN G mt n) {wn v : Nat → UInt64} (hw : ∀ i, i < n → D 37 i = wn i) (hv : ∀ i, i < n → D 35 i = v i) : lp (fun q => M_misfit_s1 G D q.1 q.2) FU (FP.dconst0, (0 : Int32)) = some (msV mt wn v n) := by
  have e := lp_A (st := fun q => M_misfit_s1 G D q.1 q.2) (fun i s => FP.dadd s (FP.dmul (FP.dsub (wn i) (exV mt v n i)) (FP.dsub (wn i) (exV mt v n i)))) (fun s => s) 0 n FP.dconst0 (by omega) (by omega) (fun i s _ hi => by
    show M_misfit_s1 G D s (nI i) = _
    unfold M_misfit_s1
    rw [h1, if_neg (nI_ge hi (by omega)), ri_k (show i < 8 by omega) (by decide), bd_of (m_expected hq h1 hn N hv hi), nI_clamp (show i < 2 ^ 31 by omega), hw i hi]
    dsimp only [nm]
    rw [nI_1]) (fun s => by
    show M_misfit_s1 G D s (nI n) = _
    unfold M_misfit_s1
    rw [h1, if_pos (nI_le (Nat.le_refl _) (by omega))])
  exact e
