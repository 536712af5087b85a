/-! PROPERTIES OF SAMPLES AND NUMBERS ABOUT ALL -/
noncomputable def lyS (A : Nat → Nat → Bool) (n s : Nat) : Nat := Classical.epsilon (fun k => inL A n s k)
theorem lyS_eq {A : Nat → Nat → Bool} {n s k : Nat} (hn : n ≤ 8) (hs : s < n) (h : inL A n s k) : k = lyS A n s := inL_one hn hs h (Classical.epsilon_spec (p := fun k => inL A n s k) ⟨k, h⟩)
noncomputable def svN (n : Nat) (w : Nat → Nat) (m : Nat) (cp : Nat → Nat → Nat) (s what : Nat) : Int32 :=
  if what = 0 then nI (pts w m cp s) else if what = 1 then nI (rkO w m cp n s (-1)) else if what = 2 then b2i (stB w m cp n s) else if what = 3 then dmA (btB w m cp) n s else if what = 4 then nI (lyS (btB w m cp) n s) else nI (plN (mp w m cp) (lT (mp w m cp) n) n s)
noncomputable def suN (n : Nat) (w : Nat → Nat) (m : Nat) (cp : Nat → Nat → Nat) (what : Nat) : Int32 :=
  if what = 0 then nI (lT (mp w m cp) n (2 ^ n - 1)) else if what = 1 then nI (wT (mp w m cp) n (2 ^ n - 1)) else if what = 2 then nI (lyK (btB w m cp) n) else if what = 3 then nI (tpF (btB w m cp) n (2 ^ n - 1)) else if what = 4 then nI (r1 (btB w m cp) n) else nI (stN w m cp n)
/-- the class's standing, with what it has found -/
def isZ (g : Nat → Nat → Int32) (n : Nat) (w : Nat → Nat) (m : Nat) (cp : Nat → Nat → Nat) : Prop := isS g n w m cp ∧ (g 29 0 = 0 ∨ (g 29 0 = 1 ∧ isY g (btB w m cp) n)) ∧ (g 30 0 = 0 ∨ (g 30 0 = 1 ∧ isR g (mp w m cp) n))
theorem isR_x {g g2 : Nat → Nat → Int32} {f : Nat → Nat → Nat} {n : Nat} {L : List Nat} (h : isR g f n) (hx : eqx L g g2) (h1 : 31 ∉ L) (h2 : 32 ∉ L) (h3 : 33 ∉ L) (h4 : 34 ∉ L) : isR g2 f n := by
  unfold isR
  rw [hx 31 h1, hx 32 h2, hx 33 h3, hx 34 h4]
  exact h
theorem isY_x {g g2 : Nat → Nat → Int32} {A : Nat → Nat → Bool} {n : Nat} {L : List Nat} (h : isY g A n) (hx : eqx L g g2) (h1 : 26 ∉ L) (h2 : 27 ∉ L) (h3 : 28 ∉ L) : isY g2 A n := by
  unfold isY
  rw [hx 26 h1, hx 27 h2, hx 28 h3]
  exact h
theorem isZ_x {g g2 : Nat → Nat → Int32} {n : Nat} {w : Nat → Nat} {m : Nat} {cp : Nat → Nat → Nat} {L : List Nat} (h : isZ g n w m cp) (hx : eqx L g g2) (hL : ∀ k, k ∈ L → k < 20 ∨ k = 24 ∨ 39 ≤ k) : isZ g2 n w m cp := by
  have hn : ∀ k, 20 ≤ k → k ≠ 24 → k < 39 → k ∉ L := fun k h1 h2 h3 hk => by
    have := hL k hk
    omega
  refine ⟨isS_x h.1 hx (hn 20 (by omega) (by omega) (by omega)) (hn 21 (by omega) (by omega) (by omega)) (hn 22 (by omega) (by omega) (by omega)) (hn 23 (by omega) (by omega) (by omega)), ?_, ?_⟩
  · rw [hx 29 (hn 29 (by omega) (by omega) (by omega))]
    exact h.2.1.imp id (fun q => ⟨q.1, isY_x q.2 hx (hn 26 (by omega) (by omega) (by omega)) (hn 27 (by omega) (by omega) (by omega)) (hn 28 (by omega) (by omega) (by omega))⟩)
  · rw [hx 30 (hn 30 (by omega) (by omega) (by omega))]
    exact h.2.2.imp id (fun q => ⟨q.1, isR_x q.2 hx (hn 31 (by omega) (by omega) (by omega)) (hn 32 (by omega) (by omega) (by omega)) (hn 33 (by omega) (by omega) (by omega)) (hn 34 (by omega) (by omega) (by omega))⟩)
theorem k_findL {G : Nat → Nat → Int32} {n : Nat} {w : Nat → Nat} {m : Nat} {cp : Nat → Nat → Nat} (hm : m ≤ 48) (hw9 : ∀ i, w i ≤ 9) (Z : isZ G n w m cp) (hn : n ≤ 8) (hn0 : 0 < n) : ∃ G2, C_SD_findLayers G = some G2 ∧ eqx [25, 26, 27, 28, 29] G G2 ∧ isZ G2 n w m cp ∧ isY G2 (btB w m cp) n := by
  rcases Z.2.1 with h0 | ⟨h1, hY⟩
  · obtain ⟨G2, e1, e2, e3, e4⟩ := k_layers0 (A := btB w m cp) (fun i j h => bt_ex h) Z.1.1 hn hn0 h0 (fun g hg i j hi hj => by
      rw [(k_cellI_22 hi hj).1, hg, Z.1.2.2.1 i j hi hj]
      simp only [mgn_le hw9 hm]
      cases btB w m cp i j <;> rfl)
    refine ⟨G2, e1, e2, ⟨isS_x Z.1 e2 (by decide) (by decide) (by decide) (by decide), Or.inr ⟨e4, e3⟩, ?_⟩, e3⟩
    rw [e2 30 (by decide)]
    exact Z.2.2.imp id (fun q => ⟨q.1, isR_x q.2 e2 (by decide) (by decide) (by decide) (by decide)⟩)
  · refine ⟨G, ?_, eqx_rf, Z, hY⟩
    unfold C_SD_findLayers
    rw [if_neg (by rw [h1]; decide)]
theorem k_findO {G : Nat → Nat → Int32} {n : Nat} {w : Nat → Nat} {m : Nat} {cp : Nat → Nat → Nat} (hm : m ≤ 48) (hw9 : ∀ i, w i ≤ 9) (Z : isZ G n w m cp) (hn : n ≤ 8) : ∃ G2, C_BO_find_22 G (G 21 0) = some G2 ∧ eqx [30, 31, 32, 33, 34, 35, 36, 37, 38] G G2 ∧ isZ G2 n w m cp ∧ isR G2 (mp w m cp) n := by
  rw [Z.1.1]
  rcases Z.2.2 with h0 | ⟨h1, hR⟩
  · obtain ⟨G2, e1, e2, e3, e4⟩ := k_find0 hm hw9 Z.1 hn h0
    refine ⟨G2, e1, e2, ⟨isS_x Z.1 e2 (by decide) (by decide) (by decide) (by decide), ?_, Or.inr ⟨e4, e3⟩⟩, e3⟩
    rw [e2 29 (by decide)]
    exact Z.2.1.imp id (fun q => ⟨q.1, isY_x q.2 e2 (by decide) (by decide) (by decide)⟩)
  · refine ⟨G, ?_, eqx_rf, Z, hR⟩
    unfold C_BO_find_22
    rw [if_neg (by rw [h1]; decide)]
abbrev zR : List Nat := [24, 25, 26, 27, 28, 29, 30, 31, 32, 33, 34, 35, 36, 37, 38]
theorem k_property {G : Nat → Nat → Int32} {n : Nat} {w : Nat → Nat} {m : Nat} {cp : Nat → Nat → Nat} (B : cB m cp) (H : isC G 5 4 m cp) (hw9 : ∀ i, w i ≤ 9) (Z : isZ G n w m cp) (hn : n ≤ 8) {s what : Nat} (hs : s < n) (hwh : what < 6) : ∃ G2, C_SD_propertyOf G (nI s) (nI what) = some (svN n w m cp s what, G2) ∧ eqx zR G G2 ∧ isZ G2 n w m cp := by
  have hm := B.1
  have h6 : what = 0 ∨ what = 1 ∨ what = 2 ∨ what = 3 ∨ what = 4 ∨ what = 5 := by omega
  unfold C_SD_propertyOf
  rw [c8_and s (by omega), nI_clamp (show s < 2 ^ 31 by omega)]
  rcases h6 with rfl | rfl | rfl | rfl | rfl | rfl
  · refine ⟨G, ?_, eqx_rf, Z⟩
    rw [if_pos (show nI 0 = (0 : Int32) from rfl), ri_k (show s < 8 by omega) (by decide), Z.1.2.2.2 s (by omega)]
    rfl
  · refine ⟨G, ?_, eqx_rf, Z⟩
    rw [if_neg (by decide), if_pos (show nI 1 = (1 : Int32) from rfl), bd_of (k_rank hm hw9 Z.1 hn hs)]
    rfl
  · obtain ⟨G2, e1, e2⟩ := k_stable B H hw9 Z.1 hn hs
    refine ⟨G2, ?_, eqx_sub e2 (by decide), isZ_x Z e2 (by decide)⟩
    rw [if_neg (by decide), if_neg (by decide), if_pos (show nI 2 = (2 : Int32) from rfl), bd2_of e1]
    unfold svN
    cases stB w m cp n s <;> rfl
  · refine ⟨G, ?_, eqx_rf, Z⟩
    rw [if_neg (by decide), if_neg (by decide), if_neg (by decide), if_pos (show nI 3 = (3 : Int32) from rfl), bd_of (k_dominance hm hw9 Z.1 hn hs)]
    rfl
  · obtain ⟨G2, e1, e2, e3, e4⟩ := k_findL hm hw9 Z hn (by omega)
    obtain ⟨k, k1, k2⟩ := e4.2.2 s hs
    refine ⟨G2, ?_, eqx_sub e2 (by decide), e3⟩
    rw [if_neg (by decide), if_neg (by decide), if_neg (by decide), if_neg (by decide), if_pos (show nI 4 = (4 : Int32) from rfl), bd_of e1, ri_k (show s < 8 by omega) (by decide), k1, lyS_eq hn hs k2]
    rfl
  · obtain ⟨G2, e1, e2, e3, e4⟩ := k_findO hm hw9 Z hn
    refine ⟨G2, ?_, eqx_sub e2 (by decide), e3⟩
    rw [if_neg (by decide), if_neg (by decide), if_neg (by decide), if_neg (by decide), if_neg (by decide), bd_of e1, bd_of (k_placeOf hn e4 hs)]
    rfl
theorem k_number {G : Nat → Nat → Int32} {n : Nat} {w : Nat → Nat} {m : Nat} {cp : Nat → Nat → Nat} (B : cB m cp) (H : isC G 5 4 m cp) (hw9 : ∀ i, w i ≤ 9) (Z : isZ G n w m cp) (hn : n ≤ 8) (hn0 : 0 < n) {what : Nat} (hwh : what < 6) : ∃ G2, C_SD_numberOf G (nI what) = some (suN n w m cp what, G2) ∧ eqx zR G G2 ∧ isZ G2 n w m cp := by
  have hm := B.1
  have h6 : what = 0 ∨ what = 1 ∨ what = 2 ∨ what = 3 ∨ what = 4 ∨ what = 5 := by omega
  unfold C_SD_numberOf
  rcases h6 with rfl | rfl | rfl | rfl | rfl | rfl
  · obtain ⟨G2, e1, e2, e3, e4⟩ := k_findO hm hw9 Z hn
    refine ⟨G2, ?_, eqx_sub e2 (by decide), e3⟩
    rw [if_pos (show nI 0 = (0 : Int32) from rfl), bd_of e1, e4.2.2.1]
    rfl
  · obtain ⟨G2, e1, e2, e3, e4⟩ := k_findO hm hw9 Z hn
    refine ⟨G2, ?_, eqx_sub e2 (by decide), e3⟩
    rw [if_neg (by decide), if_pos (show nI 1 = (1 : Int32) from rfl), bd_of e1, e4.2.2.2.1]
    rfl
  · obtain ⟨G2, e1, e2, e3, e4⟩ := k_findL hm hw9 Z hn hn0
    refine ⟨G2, ?_, eqx_sub e2 (by decide), e3⟩
    rw [if_neg (by decide), if_neg (by decide), if_pos (show nI 2 = (2 : Int32) from rfl), bd_of e1, e4.1]
    rfl
  · obtain ⟨G2, e1, e2, e3, e4⟩ := k_findL hm hw9 Z hn hn0
    refine ⟨G2, ?_, eqx_sub e2 (by decide), e3⟩
    rw [if_neg (by decide), if_neg (by decide), if_neg (by decide), if_pos (show nI 3 = (3 : Int32) from rfl), bd_of e1, e4.2.1]
    rfl
  · refine ⟨G, ?_, eqx_rf, Z⟩
    rw [if_neg (by decide), if_neg (by decide), if_neg (by decide), if_neg (by decide), if_pos (show nI 4 = (4 : Int32) from rfl), Z.1.1, bd_of (k_rings_22 (fun i j hi hj => k_beats hm hw9 Z.1 hi hj) hn)]
    rfl
  · obtain ⟨G2, e1, e2⟩ := k_stables B H hw9 Z.1 hn
    refine ⟨G2, ?_, eqx_sub e2 (by decide), isZ_x Z e2 (by decide)⟩
    rw [if_neg (by decide), if_neg (by decide), if_neg (by decide), if_neg (by decide), if_neg (by decide), bd2_of e1]
    rfl
theorem k_weighZ {m : Nat} {cp : Nat → Nat → Nat} (B : cB m cp) {G : Nat → Nat → Int32} (H : isC G 5 4 m cp) {n : Nat} (hn : G 0 0 = nI n) (hn8 : n ≤ 8) {w : Nat → Nat} (hw : isW G 2 w) (a3 : Int32) : ∃ G2, C_LT_weigh G a3 = some G2 ∧ eqx [20, 21, 22, 23, 29, 30] G G2 ∧ isZ G2 n (fun i => if nI i = a3 then 0 else w i) m cp := by
  obtain ⟨G2, e1, e2, e3, e4, e5⟩ := k_weigh B H hn hn8 hw a3
  exact ⟨G2, e1, e2, e3, Or.inl e4, Or.inl e5⟩
/-! the reference -/
theorem m_lay {h : Nat → Nat → Int32} {w : Nat → Nat} {m : Nat} {cp : Nat → Nat → Nat} (B : cB m cp) (H : isM h m cp) (hw : isW h 3 w) (hw9 : ∀ i, w i ≤ 9) {n : Nat} (h1 : h 1 0 = nI n) (hn : n ≤ 8) (hn0 : 0 < n) : ∃ h3 h4, M_layMargins h = some h3 ∧ M_layOrders h3 = some h4 ∧ eqx [29, 30, 31] h h4 ∧ isG h4 n w m cp ∧ isDP (mp w m cp) n (lT (mp w m cp) n) (wT (mp w m cp) n) (2 ^ n) ∧ isO h4 (lT (mp w m cp) n) (wT (mp w m cp) n) (2 ^ n) := by
  obtain ⟨h3, e1, e2, e3⟩ := m_layMargins B H hw h1 hn hn0
  obtain ⟨h4, f1, f2, f3, f4⟩ := m_orders B.1 hw9 e3 (by rw [e2 1 (by decide)]; exact h1) hn
  refine ⟨h3, h4, e1, f1, eqx_tr (eqx_sub e2 (by decide)) (eqx_sub f2 (by decide)), fun i j hi hj => ?_, f3, f4⟩
  rw [f2 29 (by decide)]
  exact e3 i j hi hj
theorem m_sampleNow {h : Nat → Nat → Int32} {w : Nat → Nat} {m : Nat} {cp : Nat → Nat → Nat} (B : cB m cp) (H : isM h m cp) (hw : isW h 3 w) (hw9 : ∀ i, w i ≤ 9) {n : Nat} (h1 : h 1 0 = nI n) (hn : n ≤ 8) {s what : Nat} (hs : s < n) (hwh : what < 6) : ∃ h2, M_sampleNow h (nI s) (nI what) = some (svN n w m cp s what, h2) ∧ eqx [29, 30, 31] h h2 := by
  have hm := B.1
  obtain ⟨h3, h4, e1, e2, e3, e4, e5, e6⟩ := m_lay B H hw hw9 h1 hn (by omega)
  have H4 := isM_x H e3 (by decide) (by decide) (by decide) (by decide) (by decide)
  have W4 := isW_x hw e3 (r := 3) (by decide)
  have g1 : h4 1 0 = nI n := by rw [e3 1 (by decide)]; exact h1
  refine ⟨h4, ?_, e3⟩
  unfold M_sampleNow
  rw [bd_of e1, bd_of e2]
  have h6 : what = 0 ∨ what = 1 ∨ what = 2 ∨ what = 3 ∨ what = 4 ∨ what = 5 := by omega
  rcases h6 with rfl | rfl | rfl | rfl | rfl | rfl
  · rw [if_pos (show nI 0 = (0 : Int32) from rfl), bd_of (m_points B H4 W4 (show s < 8 by omega) (-1)), ptO_all w hm]
    rfl
  · rw [if_neg (by decide), if_pos (show nI 1 = (1 : Int32) from rfl), bd_of (m_rank B H4 W4 hw9 g1 hn hs (-1))]
    rfl
  · rw [if_neg (by decide), if_neg (by decide), if_pos (show nI 2 = (2 : Int32) from rfl), bd_of (m_stable B H4 W4 hw9 g1 hn hs)]
    unfold svN
    cases stB w m cp n s <;> rfl
  · rw [if_neg (by decide), if_neg (by decide), if_neg (by decide), if_pos (show nI 3 = (3 : Int32) from rfl), bd_of (m_dominance hm hw9 e4 g1 hn hs)]
    rfl
  · obtain ⟨k, k1, k2⟩ := m_layerS (A := btB w m cp) (fun i j h => bt_ex h) g1 hn (fun i j hi hj => m_beats hm hw9 e4 hn hi hj) hs
    rw [if_neg (by decide), if_neg (by decide), if_neg (by decide), if_neg (by decide), if_pos (show nI 4 = (4 : Int32) from rfl), bd_of k1, lyS_eq hn hs k2]
    rfl
  · rw [if_neg (by decide), if_neg (by decide), if_neg (by decide), if_neg (by decide), if_neg (by decide), bd_of (m_placeOf hm hw9 e4 g1 hn e5 e6 hs)]
    rfl
theorem m_summaryNow {h : Nat → Nat → Int32} {w : Nat → Nat} {m : Nat} {cp : Nat → Nat → Nat} (B : cB m cp) (H : isM h m cp) (hw : isW h 3 w) (hw9 : ∀ i, w i ≤ 9) {n : Nat} (h1 : h 1 0 = nI n) (hn : n ≤ 8) (hn0 : 0 < n) {what : Nat} (hwh : what < 6) : ∃ h2, M_summaryNow h (nI what) = some (suN n w m cp what, h2) ∧ eqx [29, 30, 31] h h2 := by
  have hm := B.1
  have h256 := p256 hn
  have hpos : 0 < 2 ^ n := Nat.two_pow_pos n
  have hp2 : 2 ≤ 2 ^ n := Nat.le_trans (show 2 ≤ 2 ^ 1 by decide) (Nat.pow_le_pow_right (by decide) hn0)
  obtain ⟨h3, h4, e1, e2, e3, e4, e5, e6⟩ := m_lay B H hw hw9 h1 hn hn0
  have H4 := isM_x H e3 (by decide) (by decide) (by decide) (by decide) (by decide)
  have W4 := isW_x hw e3 (r := 3) (by decide)
  have g1 : h4 1 0 = nI n := by rw [e3 1 (by decide)]; exact h1
  refine ⟨h4, ?_, e3⟩
  unfold M_summaryNow
  rw [bd_of e1, bd_of e2, g1, s_all (by omega)]
  have h6 : what = 0 ∨ what = 1 ∨ what = 2 ∨ what = 3 ∨ what = 4 ∨ what = 5 := by omega
  rcases h6 with rfl | rfl | rfl | rfl | rfl | rfl
  · rw [if_pos (show nI 0 = (0 : Int32) from rfl), ri_k (show 2 ^ n - 1 < 256 by omega) (by decide), nI_clamp (show 2 ^ n - 1 < 2 ^ 31 by omega), (e6 _ (by omega)).1]
    rfl
  · rw [if_neg (by decide), if_pos (show nI 1 = (1 : Int32) from rfl), ri_k (show 2 ^ n - 1 < 256 by omega) (by decide), nI_clamp (show 2 ^ n - 1 < 2 ^ 31 by omega), (e6 _ (by omega)).2]
    rfl
  · rw [if_neg (by decide), if_neg (by decide), if_pos (show nI 2 = (2 : Int32) from rfl), bd_of (m_layerAll (A := btB w m cp) (fun i j h => bt_ex h) g1 hn (fun i j hi hj => m_beats hm hw9 e4 hn hi hj))]
    rfl
  · obtain ⟨t, t1, t2⟩ := m_topOf (A := btB w m cp) g1 hn (fun i j hi hj => m_beats hm hw9 e4 hn hi hj) (show 2 ^ n - 1 < 2 ^ n by omega) (by omega)
    rw [if_neg (by decide), if_neg (by decide), if_neg (by decide), if_pos (show nI 3 = (3 : Int32) from rfl), bd_of t1, TP_one (fun i j h => bt_ex h) hn t2 (tpF_TP (btB w m cp) (show 2 ^ n - 1 < 2 ^ n by omega) (by omega))]
    rfl
  · rw [if_neg (by decide), if_neg (by decide), if_neg (by decide), if_neg (by decide), if_pos (show nI 4 = (4 : Int32) from rfl), bd_of (m_ringsOf (A := btB w m cp) (fun i j hi hj => m_goesA hm hw9 e4 hn hi hj) g1 hn)]
    rfl
  · rw [if_neg (by decide), if_neg (by decide), if_neg (by decide), if_neg (by decide), if_neg (by decide), bd_of (m_stables B H4 W4 hw9 g1 hn)]
    rfl
