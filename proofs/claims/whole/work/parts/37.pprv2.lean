/-! PROVED PAIRS: laying them, counting, naming -/
theorem stpP_1 (m : Nat) (cp : Nat → Nat → Nat) (i j : Nat) (st : PS) : (stpP m cp i j st).1 ≤ st.1 + 1 := by
  unfold stpP
  by_cases q : 0 < wiA m cp i j + wiA m cp j i
  · rw [if_pos q]; exact Nat.le_refl _
  · rw [if_neg q]; omega
theorem stpP_B {m : Nat} {cp : Nat → Nat → Nat} {i j : Nat} {st : PS} (h : pB st) (hi : i < 8) (hj : j < 8) : pB (stpP m cp i j st) := by
  unfold stpP
  by_cases q : 0 < wiA m cp i j + wiA m cp j i
  · rw [if_pos q]; exact pB_ins h hi hj
  · rw [if_neg q]; exact h
/-- the tally of wins -/
def isT (g : Nat → Nat → Int32) (m : Nat) (cp : Nat → Nat → Nat) : Prop := ∀ i j, i < 8 → j < 8 → g 16 (8 * i + j) = nI (wiA m cp i j)
theorem k_winsOf {g : Nat → Nat → Int32} {m : Nat} {cp : Nat → Nat → Nat} (T : isT g m cp) {i j : Nat} (hi : i < 8) (hj : j < 8) : C_TA_winsOf g (nI i) (nI j) = some (nI (wiA m cp i j)) := by
  unfold C_TA_winsOf
  dsimp only [nm]
  rw [c8_cell i hi j hj, ri_k (show 8 * i + j < 64 by omega) (by decide), nI_clamp (show 8 * i + j < 2 ^ 31 by omega), T i j hi hj]
theorem k_decided {g : Nat → Nat → Int32} {m : Nat} {cp : Nat → Nat → Nat} (T : isT g m cp) {i j : Nat} (hi : i < 8) (hj : j < 8) : C_TA_decidedOf g (nI i) (nI j) = some (nI (wiA m cp i j + wiA m cp j i)) := by
  unfold C_TA_decidedOf
  dsimp only [nm]
  rw [c8_cell i hi j hj, c8_cell j hj i hi, ri_k (show 8 * i + j < 64 by omega) (by decide), ri_k (show 8 * j + i < 64 by omega) (by decide), nI_clamp (show 8 * i + j < 2 ^ 31 by omega), nI_clamp (show 8 * j + i < 2 ^ 31 by omega), T i j hi hj, T j i hj hi, nI_add]
theorem k_chance {g : Nat → Nat → Int32} {m : Nat} {cp : Nat → Nat → Nat} (hm : m ≤ 48) (T : isT g m cp) {i j : Nat} (hi : i < 8) (hj : j < 8) (hij : i ≠ j) : C_TA_chanceOf g (nI i) (nI j) = some (chv (wiA m cp i j) (wiA m cp j i)) := by
  unfold C_TA_chanceOf
  have := wiA_two (m := m) (cp := cp) hij
  rw [bd_of (k_winsOf T hi hj), bd_of (k_winsOf T hj hi), bd_of (k_chv (by omega))]
theorem m_chanceNow {h : Nat → Nat → Int32} {m : Nat} {cp : Nat → Nat → Nat} (B : cB m cp) (H : isM h m cp) {i j : Nat} (hi : i < 8) (hj : j < 8) (hij : i ≠ j) : M_chanceNow h (nI i) (nI j) = some (chv (wiA m cp i j) (wiA m cp j i)) := by
  unfold M_chanceNow
  have := wiA_two (m := m) (cp := cp) hij
  have hm := B.1
  rw [bd_of (m_wins H B hi hj), bd_of (m_wins H B hj hi), bd_of (m_chv (by omega))]
theorem k_row {m : Nat} {cp : Nat → Nat → Nat} (B : cB m cp) {G : Nat → Nat → Int32} {E : Nat → Nat → Int64} {n : Nat} (hn : n ≤ 8) (T : isT G m cp) {i : Nat} (hi : i < n) {g : Nat → Nat → Int32} {e : Nat → Nat → Int64} (hg : eqx [39, 40] G g) (he : eqx [0] E e) {st : PS} (hR : isPk g e st) (hb : pB st) (hk : st.1 ≤ cnP n i) : ∃ r, lp (fun q => C_PP_take_s2 (nI n) (nI i) q.1 q.2.1 q.2.2) FU (nI (i + 1), g, e) = some r ∧ (eqx [39, 40] G r.1 ∧ eqx [0] E r.2 ∧ isPk r.1 r.2 (rowP m cp n i st) ∧ pB (rowP m cp n i st) ∧ (rowP m cp n i st).1 ≤ cnP n (i + 1)) := by
  have hm := B.1
  obtain ⟨r, e1, e2, e3, e4, e5, e6⟩ := lp_iv (st := fun q => C_PP_take_s2 (nI n) (nI i) q.1 q.2.1 q.2.2) (fun j q => q.1 = nI j ∧ eqx [39, 40] G q.2.1 ∧ eqx [0] E q.2.2 ∧ isPk q.2.1 q.2.2 (itr (fun j st => stpP m cp i j st) (i + 1) (j - (i + 1)) st) ∧ pB (itr (fun j st => stpP m cp i j st) (i + 1) (j - (i + 1)) st) ∧ (itr (fun j st => stpP m cp i j st) (i + 1) (j - (i + 1)) st).1 ≤ cnP n i + (j - (i + 1))) (fun r => eqx [39, 40] G r.1 ∧ eqx [0] E r.2 ∧ isPk r.1 r.2 (rowP m cp n i st) ∧ pB (rowP m cp n i st) ∧ (rowP m cp n i st).1 ≤ cnP n i + (n - (i + 1))) (i + 1) n (by omega) (by omega) (fun j q hj1 hj ⟨q1, q2, q3, q4, q5, q6⟩ => by
      have hc := cnP_lt n (by omega) i hi j hj (by omega)
      have hup := itr_up (fun j st => stpP m cp i j st) (i + 1) (i := j) hj1 st
      obtain ⟨s, hs⟩ : ∃ s, s = itr (fun j st => stpP m cp i j st) (i + 1) (j - (i + 1)) st := ⟨_, rfl⟩
      rw [← hs] at q4 q5 q6 hup
      rw [hup]
      have w1 := wiA_two (m := m) (cp := cp) (show i ≠ j by omega)
      have Tq : isT q.2.1 m cp := by
        unfold isT
        rw [q2 16 (by decide)]
        exact T
      by_cases c : 0 < wiA m cp i j + wiA m cp j i
      · obtain ⟨g2, e2, f1, f2, f3, f4⟩ := k_ins q4 (by omega) (show i < 8 by omega) (show j < 8 by omega) (chv (wiA m cp i j) (wiA m cp j i))
        refine ⟨(nI (j + 1), g2, e2), ?_, rfl, eqx_tr q2 f2, eqx_tr q3 f3, ?_, stpP_B q5 (by omega) (by omega), ?_⟩
        · show C_PP_take_s2 (nI n) (nI i) q.1 q.2.1 q.2.2 = _
          unfold C_PP_take_s2
          rw [q1, if_neg (nI_ge hj (by omega)), bd_of (k_decided Tq (by omega) (by omega)), if_neg (nI_nle c (by omega))]
          dsimp only [nm]
          rw [bd_of (k_chance hm Tq (by omega) (by omega) (by omega)), c8_cell i (by omega) j (by omega), bd2_of f1, nI_1]
          rfl
        · show isPk g2 e2 (stpP m cp i j s)
          unfold stpP
          rw [if_pos c]
          exact f4
        · have := stpP_1 m cp i j s
          omega
      · refine ⟨(nI (j + 1), q.2.1, q.2.2), ?_, rfl, q2, q3, ?_, stpP_B q5 (by omega) (by omega), ?_⟩
        · show C_PP_take_s2 (nI n) (nI i) q.1 q.2.1 q.2.2 = _
          unfold C_PP_take_s2
          rw [q1, if_neg (nI_ge hj (by omega)), bd_of (k_decided Tq (by omega) (by omega)), if_pos (show nI (wiA m cp i j + wiA m cp j i) ≤ 0 by rw [show wiA m cp i j + wiA m cp j i = 0 by omega]; decide)]
          dsimp only [nm]
          rw [nI_1]
          rfl
        · show isPk q.2.1 q.2.2 (stpP m cp i j s)
          unfold stpP
          rw [if_neg c]
          exact q4
        · have := stpP_1 m cp i j s
          omega) (fun q ⟨q1, q2, q3, q4, q5, q6⟩ => by
      skip
      refine ⟨(q.2.1, q.2.2), ?_, q2, q3, q4, q5, q6⟩
      show C_PP_take_s2 (nI n) (nI i) q.1 q.2.1 q.2.2 = _
      unfold C_PP_take_s2
      rw [q1, if_pos (nI_le (Nat.le_refl _) (by omega))]) (nI (i + 1), g, e) ⟨rfl, hg, he, by rw [Nat.sub_self]; exact hR, by rw [Nat.sub_self]; exact hb, by rw [Nat.sub_self]; exact hk⟩
  refine ⟨r, e1, e2, e3, e4, e5, ?_⟩
  have hs : cnP n (i + 1) = cnP n i + (n - (i + 1)) := fb_sm_succ _ _
  omega
theorem k_all {m : Nat} {cp : Nat → Nat → Nat} (B : cB m cp) {G : Nat → Nat → Int32} {E : Nat → Nat → Int64} {n : Nat} (hn : n ≤ 8) (T : isT G m cp) : ∃ g e, C_PP_take G E (nI n) = some (g, e) ∧ eqx [39, 40] G g ∧ eqx [0] E e ∧ isPk g e (allP m cp n) ∧ pB (allP m cp n) ∧ (allP m cp n).1 ≤ cnP n n := by
  obtain ⟨r, e1, e2, e3, e4, e5, e6⟩ := lp_iv (st := fun q => C_PP_take_s1 (nI n) q.1 q.2.1 q.2.2) (fun i q => q.1 = nI i ∧ eqx [39, 40] G q.2.1 ∧ eqx [0] E q.2.2 ∧ isPk q.2.1 q.2.2 (itr (fun i st => rowP m cp n i st) 0 i (0, fun _ => 0, fun _ => 0, fun _ => 0)) ∧ pB (itr (fun i st => rowP m cp n i st) 0 i (0, fun _ => 0, fun _ => 0, fun _ => 0)) ∧ (itr (fun i st => rowP m cp n i st) 0 i (0, fun _ => 0, fun _ => 0, fun _ => 0)).1 ≤ cnP n i) (fun r => eqx [39, 40] G r.1 ∧ eqx [0] E r.2 ∧ isPk r.1 r.2 (allP m cp n) ∧ pB (allP m cp n) ∧ (allP m cp n).1 ≤ cnP n n) 0 n (by omega) (by omega) (fun i q _ hi ⟨q1, q2, q3, q4, q5, q6⟩ => by
      skip
      obtain ⟨r, g1, g2, g3, g4, g5, g6⟩ := k_row B hn T hi q2 q3 q4 q5 q6
      have hit : itr (fun i st => rowP m cp n i st) 0 (i + 1) (0, fun _ => 0, fun _ => 0, fun _ => 0) = rowP m cp n i (itr (fun i st => rowP m cp n i st) 0 i (0, fun _ => 0, fun _ => 0, fun _ => 0)) := by rw [itr, Nat.zero_add]
      rw [hit]
      refine ⟨(nI (i + 1), r.1, r.2), ?_, rfl, g2, g3, g4, g5, g6⟩
      show C_PP_take_s1 (nI n) q.1 q.2.1 q.2.2 = _
      unfold C_PP_take_s1
      rw [q1, if_neg (nI_ge hi (by omega))]
      dsimp only [nm]
      rw [nI_1, bd2_of (a := r.1) (b := r.2) g1]) (fun q ⟨q1, q2, q3, q4, q5, q6⟩ => by
      skip
      refine ⟨(q.2.1, q.2.2), ?_, q2, q3, q4, q5, q6⟩
      show C_PP_take_s1 (nI n) q.1 q.2.1 q.2.2 = _
      unfold C_PP_take_s1
      rw [q1, if_pos (nI_le (Nat.le_refl _) (by omega))]) ((0 : Int32), wf G 40 (0 : Int32), E) ⟨rfl, eqx_wf (by decide), eqx_rf, ⟨by
        show wf G 40 (0 : Int32) 40 0 = nI 0
        rw [wf_ap, if_pos rfl]
        rfl, fun t ht => by
        have ht : t < 0 := ht
        omega⟩, fun t ht => by
        have ht : t < 0 := ht
        omega, Nat.zero_le _⟩
  refine ⟨r.1, r.2, ?_, e2, e3, e4, e5, e6⟩
  unfold C_PP_take
  dsimp only [nm]
  rw [bd2_of (a := r.1) (b := r.2) e1]
theorem m_row {m : Nat} {cp : Nat → Nat → Nat} (B : cB m cp) {G : Nat → Nat → Int32} {E : Nat → Nat → Int64} {n : Nat} (hn : n ≤ 8) (H : isM G m cp) (h1 : G 1 0 = nI n) {i : Nat} (hi : i < n) {g : Nat → Nat → Int32} {e : Nat → Nat → Int64} (hg : eqx [32, 33] G g) (he : eqx [34] E e) {st : PS} (hR : isPm g e st) (hb : pB st) (hk : st.1 ≤ cnP n i) : ∃ r, lp (fun q => M_layPairs_s2 (nI i) q.1 q.2.1 q.2.2) FU (nI (i + 1), g, e) = some r ∧ (eqx [32, 33] G r.1 ∧ eqx [34] E r.2 ∧ isPm r.1 r.2 (rowP m cp n i st) ∧ pB (rowP m cp n i st) ∧ (rowP m cp n i st).1 ≤ cnP n (i + 1)) := by
  have hm := B.1
  obtain ⟨r, e1, e2, e3, e4, e5, e6⟩ := lp_iv (st := fun q => M_layPairs_s2 (nI i) q.1 q.2.1 q.2.2) (fun j q => q.1 = nI j ∧ eqx [32, 33] G q.2.1 ∧ eqx [34] E q.2.2 ∧ isPm q.2.1 q.2.2 (itr (fun j st => stpP m cp i j st) (i + 1) (j - (i + 1)) st) ∧ pB (itr (fun j st => stpP m cp i j st) (i + 1) (j - (i + 1)) st) ∧ (itr (fun j st => stpP m cp i j st) (i + 1) (j - (i + 1)) st).1 ≤ cnP n i + (j - (i + 1))) (fun r => eqx [32, 33] G r.1 ∧ eqx [34] E r.2 ∧ isPm r.1 r.2 (rowP m cp n i st) ∧ pB (rowP m cp n i st) ∧ (rowP m cp n i st).1 ≤ cnP n i + (n - (i + 1))) (i + 1) n (by omega) (by omega) (fun j q hj1 hj ⟨q1, q2, q3, q4, q5, q6⟩ => by
      have hc := cnP_lt n (by omega) i hi j hj (by omega)
      have hup := itr_up (fun j st => stpP m cp i j st) (i + 1) (i := j) hj1 st
      obtain ⟨s, hs⟩ : ∃ s, s = itr (fun j st => stpP m cp i j st) (i + 1) (j - (i + 1)) st := ⟨_, rfl⟩
      rw [← hs] at q4 q5 q6 hup
      rw [hup]
      have w1 := wiA_two (m := m) (cp := cp) (show i ≠ j by omega)
      have Hq := isM_x H q2 (by decide) (by decide) (by decide) (by decide) (by decide)
      have q10 : q.2.1 1 0 = nI n := by rw [q2 1 (by decide)]; exact h1
      by_cases c : 0 < wiA m cp i j + wiA m cp j i
      · obtain ⟨g2, e2, f1, f2, f3, f4⟩ := m_ins q4 (by omega) (show i < 8 by omega) (show j < 8 by omega) (chv (wiA m cp i j) (wiA m cp j i))
        refine ⟨(nI (j + 1), g2, e2), ?_, rfl, eqx_tr q2 (eqx_sub f2 (by decide)), eqx_tr q3 f3, ?_, stpP_B q5 (by omega) (by omega), ?_⟩
        · show M_layPairs_s2 (nI i) q.1 q.2.1 q.2.2 = _
          unfold M_layPairs_s2
          rw [q1, q10, if_neg (nI_ge hj (by omega)), bd_of (m_wins Hq B (by omega) (by omega)), bd_of (m_wins Hq B (by omega) (by omega)), nI_add, if_neg (nI_nle c (by omega)), bd_of (m_chanceNow B Hq (by omega) (by omega) (by omega)), bd2_of f1]
          dsimp only [nm]
          rw [nI_1]
          rfl
        · show isPm g2 e2 (stpP m cp i j s)
          unfold stpP
          rw [if_pos c]
          exact f4
        · have := stpP_1 m cp i j s
          omega
      · refine ⟨(nI (j + 1), q.2.1, q.2.2), ?_, rfl, q2, q3, ?_, stpP_B q5 (by omega) (by omega), ?_⟩
        · show M_layPairs_s2 (nI i) q.1 q.2.1 q.2.2 = _
          unfold M_layPairs_s2
          rw [q1, q10, if_neg (nI_ge hj (by omega)), bd_of (m_wins Hq B (by omega) (by omega)), bd_of (m_wins Hq B (by omega) (by omega)), nI_add, if_pos (show nI (wiA m cp i j + wiA m cp j i) ≤ 0 by rw [show wiA m cp i j + wiA m cp j i = 0 by omega]; decide)]
          dsimp only [nm]
          rw [nI_1]
          rfl
        · show isPm q.2.1 q.2.2 (stpP m cp i j s)
          unfold stpP
          rw [if_neg c]
          exact q4
        · have := stpP_1 m cp i j s
          omega) (fun q ⟨q1, q2, q3, q4, q5, q6⟩ => by
      have q10 : q.2.1 1 0 = nI n := by rw [q2 1 (by decide)]; exact h1
      refine ⟨(q.2.1, q.2.2), ?_, q2, q3, q4, q5, q6⟩
      show M_layPairs_s2 (nI i) q.1 q.2.1 q.2.2 = _
      unfold M_layPairs_s2
      rw [q1, q10, if_pos (nI_le (Nat.le_refl _) (by omega))]) (nI (i + 1), g, e) ⟨rfl, hg, he, by rw [Nat.sub_self]; exact hR, by rw [Nat.sub_self]; exact hb, by rw [Nat.sub_self]; exact hk⟩
  refine ⟨r, e1, e2, e3, e4, e5, ?_⟩
  have hs : cnP n (i + 1) = cnP n i + (n - (i + 1)) := fb_sm_succ _ _
  omega
theorem m_all {m : Nat} {cp : Nat → Nat → Nat} (B : cB m cp) {G : Nat → Nat → Int32} {E : Nat → Nat → Int64} {n : Nat} (hn : n ≤ 8) (H : isM G m cp) (h1 : G 1 0 = nI n) : ∃ g e, M_layPairs G E = some (g, e) ∧ eqx [32, 33] G g ∧ eqx [34] E e ∧ isPm g e (allP m cp n) ∧ pB (allP m cp n) ∧ (allP m cp n).1 ≤ cnP n n := by
  obtain ⟨r, e1, e2, e3, e4, e5, e6⟩ := lp_iv (st := fun q => M_layPairs_s1 q.1 q.2.1 q.2.2) (fun i q => q.1 = nI i ∧ eqx [32, 33] G q.2.1 ∧ eqx [34] E q.2.2 ∧ isPm q.2.1 q.2.2 (itr (fun i st => rowP m cp n i st) 0 i (0, fun _ => 0, fun _ => 0, fun _ => 0)) ∧ pB (itr (fun i st => rowP m cp n i st) 0 i (0, fun _ => 0, fun _ => 0, fun _ => 0)) ∧ (itr (fun i st => rowP m cp n i st) 0 i (0, fun _ => 0, fun _ => 0, fun _ => 0)).1 ≤ cnP n i) (fun r => eqx [32, 33] G r.1 ∧ eqx [34] E r.2 ∧ isPm r.1 r.2 (allP m cp n) ∧ pB (allP m cp n) ∧ (allP m cp n).1 ≤ cnP n n) 0 n (by omega) (by omega) (fun i q _ hi ⟨q1, q2, q3, q4, q5, q6⟩ => by
      have q10 : q.2.1 1 0 = nI n := by rw [q2 1 (by decide)]; exact h1
      obtain ⟨r, g1, g2, g3, g4, g5, g6⟩ := m_row B hn H h1 hi q2 q3 q4 q5 q6
      have hit : itr (fun i st => rowP m cp n i st) 0 (i + 1) (0, fun _ => 0, fun _ => 0, fun _ => 0) = rowP m cp n i (itr (fun i st => rowP m cp n i st) 0 i (0, fun _ => 0, fun _ => 0, fun _ => 0)) := by rw [itr, Nat.zero_add]
      rw [hit]
      refine ⟨(nI (i + 1), r.1, r.2), ?_, rfl, g2, g3, g4, g5, g6⟩
      show M_layPairs_s1 q.1 q.2.1 q.2.2 = _
      unfold M_layPairs_s1
      rw [q1, q10, if_neg (nI_ge hi (by omega))]
      dsimp only [nm]
      rw [nI_1, bd2_of (a := r.1) (b := r.2) g1]) (fun q ⟨q1, q2, q3, q4, q5, q6⟩ => by
      have q10 : q.2.1 1 0 = nI n := by rw [q2 1 (by decide)]; exact h1
      refine ⟨(q.2.1, q.2.2), ?_, q2, q3, q4, q5, q6⟩
      show M_layPairs_s1 q.1 q.2.1 q.2.2 = _
      unfold M_layPairs_s1
      rw [q1, q10, if_pos (nI_le (Nat.le_refl _) (by omega))]) ((0 : Int32), wf G 32 (0 : Int32), E) ⟨rfl, eqx_wf (by decide), eqx_rf, ⟨by
        show wf G 32 (0 : Int32) 32 0 = nI 0
        rw [wf_ap, if_pos rfl]
        rfl, fun t ht => by
        have ht : t < 0 := ht
        omega⟩, fun t ht => by
        have ht : t < 0 := ht
        omega, Nat.zero_le _⟩
  refine ⟨r.1, r.2, ?_, e2, e3, e4, e5, e6⟩
  unfold M_layPairs
  dsimp only [nm]
  rw [bd2_of (a := r.1) (b := r.2) e1]
/-! how many are proved at a level; a pair's name -/
theorem cn28 : ∀ n, n < 9 → cnP n n ≤ 28 := by decide +kernel
def pvN (st : PS) (a : Int32) : Nat := fa_first (fun t => decide (0 < lg_cmp (((st.2.2.2 t) * (1000 : Int64)) * ((nI (st.1 - t)).toInt64)) (a.toInt64 * (281474976710656 : Int64)))) st.1
theorem pv_le (st : PS) (a : Int32) : pvN st a ≤ st.1 := fa_first_le _ _
theorem k_pv {g : Nat → Nat → Int32} {e : Nat → Nat → Int64} {st : PS} (h : isPk g e st) (hk : st.1 ≤ 28) (a : Int32) : lp (fun q => C_PP_countAt_s1 a g e q) FU (0 : Int32) = some (nI (pvN st a)) := by
  have hle := pv_le st a
  have hst : ∀ t, t < st.1 → C_PP_countAt_s1 a g e (nI t) = if 0 < lg_cmp (((st.2.2.2 t) * (1000 : Int64)) * ((nI (st.1 - t)).toInt64)) (a.toInt64 * (281474976710656 : Int64)) then (some (.inr (nI t))) else (some (.inl (nI (t + 1)))) := fun t ht => by
    unfold C_PP_countAt_s1
    rw [h.1, if_neg (nI_ge ht (by omega)), ri_k (show t < 28 by omega) (by decide), nI_clamp (show t < 2 ^ 31 by omega), (h.2 t ht).2, pk_sub (by omega)]
    dsimp only [nm]
    rw [nI_1]
  refine lp_up (st := fun q => C_PP_countAt_s1 a g e q) (fun t => nI t) 0 (pvN st a) (by omega) (by omega) (fun t _ ht => ?_) ?_
  · show C_PP_countAt_s1 a g e (nI t) = _
    have := fa_first_no _ st.1 t ht
    rw [decide_eq_false_iff_not] at this
    rw [hst t (by omega), if_neg this]
  · show C_PP_countAt_s1 a g e (nI (pvN st a)) = _
    rcases Nat.lt_or_ge (pvN st a) st.1 with q | q
    · have := fa_first_yes _ st.1 q
      rw [decide_eq_true_eq] at this
      rw [hst _ q]
      exact if_pos this
    · unfold C_PP_countAt_s1
      rw [h.1, if_pos (nI_le q (by omega))]
theorem m_pv {g : Nat → Nat → Int32} {e : Nat → Nat → Int64} {st : PS} (h : isPm g e st) (hk : st.1 ≤ 28) (a : Int32) : lp (fun q => M_provedMany_s1 a g e q) FU (0 : Int32) = some (nI (pvN st a)) := by
  have hle := pv_le st a
  have hst : ∀ t, t < st.1 → M_provedMany_s1 a g e (nI t) = if 0 < lg_cmp (((st.2.2.2 t) * (1000 : Int64)) * ((nI (st.1 - t)).toInt64)) (a.toInt64 * (281474976710656 : Int64)) then (some (.inr (nI t))) else (some (.inl (nI (t + 1)))) := fun t ht => by
    unfold M_provedMany_s1
    rw [h.1, if_neg (nI_ge ht (by omega)), ri_k (show t < 28 by omega) (by decide), nI_clamp (show t < 2 ^ 31 by omega), (h.2 t ht).2, pk_sub (by omega)]
    dsimp only [nm]
    rw [nI_1]
  refine lp_up (st := fun q => M_provedMany_s1 a g e q) (fun t => nI t) 0 (pvN st a) (by omega) (by omega) (fun t _ ht => ?_) ?_
  · show M_provedMany_s1 a g e (nI t) = _
    have := fa_first_no _ st.1 t ht
    rw [decide_eq_false_iff_not] at this
    rw [hst t (by omega), if_neg this]
  · show M_provedMany_s1 a g e (nI (pvN st a)) = _
    rcases Nat.lt_or_ge (pvN st a) st.1 with q | q
    · have := fa_first_yes _ st.1 q
      rw [decide_eq_true_eq] at this
      rw [hst _ q]
      exact if_pos this
    · unfold M_provedMany_s1
      rw [h.1, if_pos (nI_le q (by omega))]
def pvV (m : Nat) (cp : Nat → Nat → Nat) (st : PS) (t : Nat) : Nat := if wiA m cp (st.2.1 t) (st.2.2.1 t) < wiA m cp (st.2.2.1 t) (st.2.1 t) then 10 * st.2.2.1 t + st.2.1 t else 10 * st.2.1 t + st.2.2.1 t
theorem f_sh8 : ∀ a, a < 8 → ∀ b, b < 8 → (nI (8 * a + b) >>> ((3 : Int32) &&& 31)) = nI a ∧ (nI (8 * a + b) &&& (7 : Int32)) = nI b := by decide +kernel
theorem k_named {m : Nat} {cp : Nat → Nat → Nat} (B : cB m cp) {g : Nat → Nat → Int32} {e : Nat → Nat → Int64} {st : PS} (T : isT g m cp) (h : isPk g e st) (hb : pB st) (hk : st.1 ≤ 28) {t : Nat} (ht : t < st.1) : C_PP_namedPair g (nI t) = some (nI (pvV m cp st t)) := by
  obtain ⟨b1, b2⟩ := hb t ht
  have hm := B.1
  have w1 := wiA_le m cp (st.2.1 t) (st.2.2.1 t)
  have w2 := wiA_le m cp (st.2.2.1 t) (st.2.1 t)
  obtain ⟨s1, s2⟩ := f_sh8 _ b1 _ b2
  unfold C_PP_namedPair
  rw [if_neg (nI_pos (by omega)), h.1, if_pos (nI_lt ht (by omega)), ri_k (show t < 28 by omega) (by decide), nI_clamp (show t < 2 ^ 31 by omega), (h.2 t ht).1, s1, s2]
  dsimp only [nm]
  rw [ri_k (show t < 28 by omega) (by decide), bd_of (k_winsOf T b1 b2), bd_of (k_winsOf T b2 b1), show (10 : Int32) = nI 10 from rfl, pk_mul, pk_mul, nI_add, nI_add]
  unfold pvV
  by_cases c : wiA m cp (st.2.1 t) (st.2.2.1 t) < wiA m cp (st.2.2.1 t) (st.2.1 t)
  · rw [if_pos (nI_lt c (by omega)), if_pos c]
  · rw [if_neg (nI_nlt (by omega) (by omega)), if_neg c]
theorem m_named {m : Nat} {cp : Nat → Nat → Nat} (B : cB m cp) {g : Nat → Nat → Int32} {e : Nat → Nat → Int64} {st : PS} (H : isM g m cp) (h : isPm g e st) (hb : pB st) (hk : st.1 ≤ 28) {t : Nat} (ht : t < st.1) : M_provedAt g (nI t) = some (nI (pvV m cp st t)) := by
  obtain ⟨b1, b2⟩ := hb t ht
  have hm := B.1
  have w1 := wiA_le m cp (st.2.1 t) (st.2.2.1 t)
  have w2 := wiA_le m cp (st.2.2.1 t) (st.2.1 t)
  unfold M_provedAt
  rw [ri_k (show t < 28 by omega) (by decide), nI_clamp (show t < 2 ^ 31 by omega), (h.2 t ht).1, show (10 : Int32) = nI 10 from rfl]
  dsimp only [nm]
  rw [ri_k (show t < 28 by omega) (by decide), pk_rem (by omega) (by omega) (by omega), pk_div (by omega) (by omega) (by omega), show (10 * st.2.1 t + st.2.2.1 t) / 10 = st.2.1 t by omega, show (10 * st.2.1 t + st.2.2.1 t) % 10 = st.2.2.1 t by omega, bd_of (m_wins H B b2 b1), bd_of (m_wins H B b1 b2), pk_mul, pk_mul, nI_add, nI_add]
  unfold pvV
  by_cases c : wiA m cp (st.2.1 t) (st.2.2.1 t) < wiA m cp (st.2.2.1 t) (st.2.1 t)
  · rw [if_neg (nI_ge c (by omega)), if_pos c]
  · rw [if_pos (nI_le (by omega) (by omega)), if_neg c]
/-- the number of proved pairs at a level -/
def pvC (m : Nat) (cp : Nat → Nat → Nat) (n : Nat) (a : Int32) : Nat := pvN (allP m cp n) a
theorem k_provedAt {m : Nat} {cp : Nat → Nat → Nat} (B : cB m cp) {G : Nat → Nat → Int32} {E : Nat → Nat → Int64} (H : isC G 5 4 m cp) {n : Nat} (h0 : G 0 0 = nI n) (hn : n ≤ 8) (a : Int32) : ∃ G2 E2, C_LT_provedAt G E a = some (nI (pvC m cp n a), G2, E2) ∧ eqx [16, 17, 39, 40] G G2 ∧ isT G2 m cp ∧ isPk G2 E2 (allP m cp n) ∧ pB (allP m cp n) ∧ (allP m cp n).1 ≤ 28 := by
  obtain ⟨G1, t1, t2, t3⟩ := k_take B H
  have T1 : isT G1 m cp := fun i j hi hj => (t3 i j hi hj).1
  obtain ⟨g, e, a1, a2, a3, a4, a5, a6⟩ := k_all B (G := G1) (E := E) hn T1
  have := cn28 n (by omega)
  refine ⟨g, e, ?_, eqx_tr (eqx_sub t2 (by decide)) (eqx_sub a2 (by decide)), ?_, a4, a5, by omega⟩
  · unfold C_LT_provedAt
    rw [bd_of t1, t2 0 (by decide), h0, bd2_of a1]
    unfold C_PP_countAt
    rw [bd_of (k_pv a4 (by omega) a)]
    rfl
  · unfold isT
    rw [a2 16 (by decide)]
    exact T1
theorem m_provedMany {m : Nat} {cp : Nat → Nat → Nat} (B : cB m cp) {G : Nat → Nat → Int32} {E : Nat → Nat → Int64} (H : isM G m cp) {n : Nat} (h1 : G 1 0 = nI n) (hn : n ≤ 8) (a : Int32) : ∃ G2 E2, M_provedMany G E a = some (nI (pvC m cp n a), G2, E2) ∧ eqx [32, 33] G G2 ∧ eqx [34] E E2 ∧ isPm G2 E2 (allP m cp n) ∧ pB (allP m cp n) ∧ (allP m cp n).1 ≤ 28 := by
  obtain ⟨g, e, a1, a2, a3, a4, a5, a6⟩ := m_all B (G := G) (E := E) hn H h1
  have := cn28 n (by omega)
  refine ⟨g, e, ?_, a2, a3, a4, a5, by omega⟩
  unfold M_provedMany
  rw [bd2_of a1, bd_of (m_pv a4 (by omega) a)]
  rfl
