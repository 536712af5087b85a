/-! LAYERS, both sides -/
theorem m_layerStep {h : Nat → Nat → Int32} {A : Nat → Nat → Bool} (hA : ∀ i j, A i j = true → A j i = false) {n : Nat} (h1 : h 1 0 = nI n) (hn : n ≤ 8) (hB : ∀ i j, i < n → j < n → M_beats h (nI i) (nI j) = some (b2i (A i j))) {k : Nat} (hk : k < lyK A n) : M_topOf h (nI (rmS A n k)) = some (nI (tpF A n (rmS A n k))) := by
  have h0 := (lyK_spec A hn).2.2 k hk
  obtain ⟨t, t1, t2⟩ := m_topOf h1 hn hB (rmS_lt A n k) h0
  rw [t1, TP_one hA hn t2 (tpF_TP A (rmS_lt A n k) h0)]
theorem m_layerAll {h : Nat → Nat → Int32} {A : Nat → Nat → Bool} (hA : ∀ i j, A i j = true → A j i = false) {n : Nat} (h1 : h 1 0 = nI n) (hn : n ≤ 8) (hB : ∀ i j, i < n → j < n → M_beats h (nI i) (nI j) = some (b2i (A i j))) : M_layerOf h (-1 : Int32) = some (nI (lyK A n)) := by
  obtain ⟨k1, k2, k3⟩ := lyK_spec A hn
  have h256 := p256 hn
  unfold M_layerOf
  dsimp only [nm]
  rw [h1, s_all (by omega)]
  refine lp_up (st := fun q => M_layerOf_s1 (-1) h q.1 q.2) (fun k => (nI (rmS A n k), nI k)) 0 (lyK A n) (by omega) (by omega) (fun k _ hk => ?_) ?_
  · show M_layerOf_s1 (-1) h (nI (rmS A n k)) (nI k) = _
    have := rmS_lt A n k
    unfold M_layerOf_s1
    rw [if_neg (fun e => k3 k hk ((nz (by omega)).mp e)), bd_of (m_layerStep hA h1 hn hB hk), if_pos rfl]
    dsimp only [nm]
    rw [s_dif, nI_1]
    rfl
  · show M_layerOf_s1 (-1) h (nI (rmS A n (lyK A n))) (nI (lyK A n)) = _
    unfold M_layerOf_s1
    rw [k2, if_pos (show nI 0 = (0 : Int32) from rfl)]
theorem m_layerS {h : Nat → Nat → Int32} {A : Nat → Nat → Bool} (hA : ∀ i j, A i j = true → A j i = false) {n : Nat} (h1 : h 1 0 = nI n) (hn : n ≤ 8) (hB : ∀ i j, i < n → j < n → M_beats h (nI i) (nI j) = some (b2i (A i j))) {s : Nat} (hs : s < n) : ∃ k, M_layerOf h (nI s) = some (nI k) ∧ inL A n s k := by
  obtain ⟨k1, k2, k3⟩ := lyK_spec A hn
  have h256 := p256 hn
  unfold M_layerOf
  dsimp only [nm]
  rw [h1, s_all (by omega)]
  obtain ⟨r, e1, k, e2, e3⟩ := lp_ex (st := fun q => M_layerOf_s1 (nI s) h q.1 q.2) (fun k q => q = (nI (rmS A n k), nI k) ∧ ∀ t, t < k → ¬ inL A n s t) (fun r => ∃ k, r = nI k ∧ inL A n s k) 0 (lyK A n) (by omega) (by omega) (fun k q _ hk ⟨e, hv⟩ => by
      have hlt := rmS_lt A n k
      have h0 := k3 k hk
      have hT := tpF_TP A hlt h0
      have hst : M_layerOf_s1 (nI s) h q.1 q.2 = if nI (if (tpF A n (rmS A n k)).testBit s = true then 1 else 0) = (1 : Int32) then (some (.inr (nI k))) else (some (.inl (nI (rmS A n (k + 1)), nI (k + 1)))) := by
        rw [e]
        show M_layerOf_s1 (nI s) h (nI (rmS A n k)) (nI k) = _
        unfold M_layerOf_s1
        rw [if_neg (fun e => h0 ((nz (by omega)).mp e)), bd_of (m_layerStep hA h1 hn hB hk), if_neg (nI_nn (by omega)), s_has _ (by have := hT.1; omega) s (by omega)]
        dsimp only [nm]
        rw [s_dif, nI_1]
        rfl
      cases c : (tpF A n (rmS A n k)).testBit s with
      | true =>
        refine Or.inr ⟨nI k, ?_, k, rfl, hk, c⟩
        show M_layerOf_s1 (nI s) h q.1 q.2 = _
        rw [hst, c, if_pos rfl, if_pos (show nI 1 = (1 : Int32) from rfl)]
      | false =>
        refine Or.inl ⟨(nI (rmS A n (k + 1)), nI (k + 1)), ?_, rfl, fun t ht => ?_⟩
        · show M_layerOf_s1 (nI s) h q.1 q.2 = _
          rw [hst, c, if_neg (by decide)]
        · rcases Nat.lt_or_ge t k with u | u
          · exact hv t u
          · have : t = k := by omega
            subst this
            intro hh
            have := hh.2
            rw [c] at this
            cases this) (fun q ⟨e, hv⟩ => by
      obtain ⟨k, hk⟩ := inL_ex (A := A) hn hs
      exact absurd hk (hv k hk.1)) (nI (2 ^ n - 1), (0 : Int32)) ⟨rfl, fun t ht => by omega⟩
  exact ⟨k, by rw [e1, e2], e3⟩
/-- what the class's layers hold -/
def isY (g : Nat → Nat → Int32) (A : Nat → Nat → Bool) (n : Nat) : Prop := g 27 0 = nI (lyK A n) ∧ g 28 0 = nI (tpF A n (2 ^ n - 1)) ∧ ∀ s, s < n → ∃ k, g 26 s = nI k ∧ inL A n s k
theorem k_layerStep {G : Nat → Nat → Int32} {A : Nat → Nat → Bool} (hA : ∀ i j, A i j = true → A j i = false) {n : Nat} (h21 : G 21 0 = nI n) (hn : n ≤ 8) (hb : isB G A n) {o : Nat} (ho : o < 2 ^ n) (h0 : o ≠ 0) : C_SD_topSetOf G (nI o) = some (nI (tpF A n o)) := by
  obtain ⟨t, t1, t2⟩ := k_topSet h21 hn hb ho h0
  rw [t1, TP_one hA hn t2 (tpF_TP A ho h0)]
theorem isB_x {g g2 : Nat → Nat → Int32} {A : Nat → Nat → Bool} {n : Nat} {L : List Nat} (h : isB g A n) (hx : eqx L g g2) (h5 : 25 ∉ L) : isB g2 A n := by
  unfold isB
  rw [hx 25 h5]
  exact h
theorem k_layers0 {G : Nat → Nat → Int32} {A : Nat → Nat → Bool} (hA : ∀ i j, A i j = true → A j i = false) {n : Nat} (h21 : G 21 0 = nI n) (hn : n ≤ 8) (hn0 : 0 < n) (h29 : G 29 0 = 0) (hB : ∀ g : Nat → Nat → Int32, g 20 = G 20 → ∀ i j, i < 8 → j < 8 → C_LE_isAhead_22 g (nI i) (nI j) = some (b2i (A i j))) : ∃ G2, C_SD_findLayers G = some G2 ∧ eqx [25, 26, 27, 28, 29] G G2 ∧ isY G2 A n ∧ G2 29 0 = 1 := by
  obtain ⟨k1, k2, k3⟩ := lyK_spec A hn
  have h256 := p256 hn
  have hpos : 2 ≤ 2 ^ n := Nat.le_trans (show 2 ≤ 2 ^ 1 by decide) (Nat.pow_le_pow_right (by decide) hn0)
  have x1 : eqx [29] G (wf G 29 (1 : Int32)) := eqx_wf (by decide)
  obtain ⟨G3, f1, f2, f3⟩ := k_findBeaters (G := wf G 29 (1 : Int32)) (A := A) (n := n) (by rw [x1 21 (by decide)]; exact h21) hn (fun g hg => hB g (by rw [hg]; exact x1 20 (by decide)))
  have x3 : eqx [25, 29] G G3 := eqx_tr (eqx_sub x1 (by decide)) (eqx_sub f2 (by decide))
  have g21 : G3 21 0 = nI n := by rw [x3 21 (by decide)]; exact h21
  have g29 : G3 29 0 = 1 := by rw [f2 29 (by decide), wf_ap, if_pos rfl]
  have t1 := k_layerStep hA g21 hn f3 (show 2 ^ n - 1 < 2 ^ n by omega) (by omega)
  obtain ⟨G13, hG13⟩ : ∃ g, g = wf (wf G3 28 (nI (tpF A n (2 ^ n - 1)))) 27 (0 : Int32) := ⟨_, rfl⟩
  have x13 : eqx [27, 28] G3 G13 := by rw [hG13]; exact eqx_tr (eqx_wf (by decide)) (eqx_wf (by decide))
  have inner : ∀ k top g, top < 2 ^ n → eqx [26, 27, 28] G3 g → ∃ r, lp (fun q => C_SD_findLayers_s2 (nI k) (nI top) q.1 q.2) FU ((0 : Int32), g) = some r ∧ (eqx [26] g r ∧ ∀ s, s < n → r 26 s = if top.testBit s = true then nI k else g 26 s) := by
    intro k top g ht hg
    refine lp_iv (st := fun q => C_SD_findLayers_s2 (nI k) (nI top) q.1 q.2) (fun i q => q.1 = nI i ∧ eqx [26] g q.2 ∧ ∀ s, s < n → q.2 26 s = if s < i ∧ top.testBit s = true then nI k else g 26 s) _ 0 n (by omega) (by omega) (fun i q _ hi ⟨e, hx, hv⟩ => ?_) (fun q ⟨e, hx, hv⟩ => ?_) _ ⟨rfl, eqx_rf, fun s _ => by rw [if_neg (by omega)]⟩
    · have q21 : q.2 21 0 = nI n := by rw [hx 21 (by decide), hg 21 (by decide)]; exact g21
      have hc := s_con top (by omega) i (by omega)
      cases c : top.testBit i with
      | false =>
        rw [c] at hc
        refine ⟨(nI (i + 1), q.2), ?_, rfl, hx, fun s hs => ?_⟩
        · show C_SD_findLayers_s2 (nI k) (nI top) q.1 q.2 = _
          unfold C_SD_findLayers_s2
          rw [e, q21, if_neg (nI_ge hi (by omega)), bd_of hc]
          dsimp only [nm]
          rw [nI_1]
          rfl
        · rw [hv s hs]
          by_cases u : s = i
          · subst u
            rw [c, if_neg (by omega), if_neg (by intro h; cases h.2)]
          · have : (s < i + 1) ↔ s < i := by omega
            simp only [this]
      | true =>
        rw [c] at hc
        refine ⟨(nI (i + 1), wr q.2 26 (nI i) (nI k)), ?_, rfl, eqx_tr hx (eqx_wr (by decide)), fun s hs => ?_⟩
        · show C_SD_findLayers_s2 (nI k) (nI top) q.1 q.2 = _
          unfold C_SD_findLayers_s2
          rw [e, q21, if_neg (nI_ge hi (by omega)), bd_of hc, ri_k (show i < 8 by omega) (by decide)]
          dsimp only [nm]
          rw [nI_1]
          rfl
        · show wr q.2 26 (nI i) (nI k) 26 s = _
          rw [wr_ap, if_pos rfl, nI_clamp (by omega)]
          by_cases u : s = i
          · subst u
            rw [if_pos rfl, if_pos ⟨by omega, c⟩]
          · have : (s < i + 1) ↔ s < i := by omega
            rw [if_neg u, hv s hs]
            simp only [this]
    · have q21 : q.2 21 0 = nI n := by rw [hx 21 (by decide), hg 21 (by decide)]; exact g21
      refine ⟨q.2, ?_, hx, fun s hs => by rw [hv s hs]; simp only [hs, true_and]⟩
      show C_SD_findLayers_s2 (nI k) (nI top) q.1 q.2 = _
      unfold C_SD_findLayers_s2
      rw [e, q21, if_pos (nI_le (Nat.le_refl _) (by omega))]
  obtain ⟨r, e1, e2, e3, e4⟩ := lp_iv (st := fun q => C_SD_findLayers_s1 q.1 q.2.1 q.2.2) (fun k q => q.1 = nI (rmS A n k) ∧ q.2.1 = nI k ∧ eqx [26, 27, 28] G3 q.2.2 ∧ q.2.2 28 0 = nI (tpF A n (2 ^ n - 1)) ∧ q.2.2 27 0 = nI k ∧ ∀ s, s < n → ∀ t, t < k → inL A n s t → q.2.2 26 s = nI t) (fun r => eqx [26, 27, 28] G3 r ∧ (r 28 0 = nI (tpF A n (2 ^ n - 1)) ∧ r 27 0 = nI (lyK A n)) ∧ ∀ s, s < n → ∃ k, r 26 s = nI k ∧ inL A n s k) 0 (lyK A n) (by omega) (by omega) (fun k q _ hk ⟨f1, f2, f3', f4, f5, f6⟩ => by
      have q21 : q.2.2 21 0 = nI n := by rw [f3' 21 (by decide)]; exact g21
      have hlt := rmS_lt A n k
      have h0 := k3 k hk
      have hT := tpF_TP A hlt h0
      have ts := k_layerStep hA q21 hn (isB_x f3 f3' (by decide)) hlt h0
      obtain ⟨g, i1, i2, i3⟩ := inner k _ q.2.2 hT.1 f3'
      refine ⟨(nI (rmS A n (k + 1)), nI (k + 1), wf g 27 (nI (k + 1))), ?_, rfl, rfl, eqx_tr f3' (eqx_tr (eqx_sub i2 (by decide)) (eqx_wf (by decide))), ?_, ?_, fun s hs t ht hin => ?_⟩
      · show C_SD_findLayers_s1 q.1 q.2.1 q.2.2 = _
        unfold C_SD_findLayers_s1
        rw [f1, f2, q21, if_neg (nI_ge (by omega) (by omega)), if_neg (fun e => h0 ((nz (by omega)).mp e)), bd_of ts, bd_of i1]
        dsimp only [nm]
        rw [i2 27 (by decide), f5, nI_1, s_dif]
        rfl
      · dsimp only
        rw [wf_ne (by decide), i2 28 (by decide)]; exact f4
      · dsimp only
        rw [wf_ap, if_pos rfl]
      · dsimp only
        rw [wf_ne (by decide), i3 s hs]
        by_cases u : t = k
        · subst u
          rw [if_pos hin.2]
        · rw [if_neg (fun hh => u (inL_one hn hs hin ⟨hk, hh⟩))]
          exact f6 s hs t (by omega) hin) (fun q ⟨f1, f2, f3', f4, f5, f6⟩ => by
      have q21 : q.2.2 21 0 = nI n := by rw [f3' 21 (by decide)]; exact g21
      refine ⟨q.2.2, ?_, f3', ⟨f4, f5⟩, fun s hs => ?_⟩
      · show C_SD_findLayers_s1 q.1 q.2.1 q.2.2 = _
        unfold C_SD_findLayers_s1
        rw [f1, f2, q21, k2]
        by_cases c : nI n ≤ nI (lyK A n)
        · rw [if_pos c]
        · rw [if_neg c, if_pos (show nI 0 = (0 : Int32) from rfl)]
      · obtain ⟨k, hk⟩ := inL_ex (A := A) hn hs
        exact ⟨k, f6 s hs k hk.1 hk, hk⟩) (nI (2 ^ n - 1), (0 : Int32), G13) ⟨rfl, rfl, eqx_sub x13 (by decide), by
        show G13 28 0 = _
        rw [hG13, wf_ne (by decide), wf_ap, if_pos rfl], by
        show G13 27 0 = _
        rw [hG13, wf_ap, if_pos rfl]
        rfl, fun s _ t ht => by omega⟩
  refine ⟨r, ?_, eqx_tr (eqx_sub x3 (by decide)) (eqx_sub e2 (by decide)), ⟨e3.2, e3.1, e4⟩, by rw [e2 29 (by decide)]; exact g29⟩
  unfold C_SD_findLayers
  rw [if_pos h29]
  dsimp only [nm]
  rw [bd_of f1, g21, s_all (by omega), bd_of t1, ← hG13, bd_of e1]
