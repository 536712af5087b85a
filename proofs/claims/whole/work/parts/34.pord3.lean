/-! THE BEST ORDER, read off -/
def ttl (f : Nat → Nat → Nat) (L : Nat → Nat) (S i : Nat) : Nat := L (sw S i) + cst f i (sw S i)
def fmN (f : Nat → Nat → Nat) (L : Nat → Nat) (n S : Nat) : Nat := fa_first (fun i => S.testBit i && decide (ttl f L S i = L S)) n
theorem fm_spec {f : Nat → Nat → Nat} {n : Nat} {L W : Nat → Nat} (hD : isDP f n L W (2 ^ n)) {S : Nat} (hS0 : S ≠ 0) (hS : S < 2 ^ n) : fmN f L n S < n ∧ S.testBit (fmN f L n S) = true ∧ ttl f L S (fmN f L n S) = L S ∧ ∀ j, j < fmN f L n S → S.testBit j = true → ttl f L S j ≠ L S := by
  obtain ⟨⟨i, h1, h2, h3⟩, h4⟩ := run_min (hD.2.2 S (by omega) hS)
  have hlt : fmN f L n S < n := by
    rcases Nat.lt_or_ge (fmN f L n S) n with q | q
    · exact q
    · have := fa_first_no (fun i => S.testBit i && decide (ttl f L S i = L S)) n i (Nat.lt_of_lt_of_le h1 q)
      have e : ttl f L S i = L S := h3
      rw [h2, decide_eq_true e] at this
      cases this
  have hy := fa_first_yes (fun i => S.testBit i && decide (ttl f L S i = L S)) n hlt
  rw [Bool.and_eq_true, decide_eq_true_eq] at hy
  refine ⟨hlt, hy.1, hy.2, fun j hj hb e => ?_⟩
  have := fa_first_no (fun i => S.testBit i && decide (ttl f L S i = L S)) n j hj
  rw [hb, decide_eq_true e] at this
  cases this
def qS (f : Nat → Nat → Nat) (L : Nat → Nat) (n : Nat) : Nat → Nat
  | 0 => 2 ^ n - 1
  | k + 1 => sw (qS f L n k) (fmN f L n (qS f L n k))
def oS (f : Nat → Nat → Nat) (L : Nat → Nat) (n k : Nat) : Nat := fmN f L n (qS f L n k)
theorem sz_sw1 {S i : Nat} (hi : i < 8) (h : S.testBit i = true) : sz (sw S i) + 1 = sz S := by
  have e := fb_sm_upd (fun k => if S.testBit k = true then 1 else 0) 0 hi
  have e2 : sz (sw S i) = fb_sm (fun k => if k = i then 0 else if S.testBit k = true then 1 else 0) 8 := fb_sm_cong (fun k hk => by
    show (if (sw S i).testBit k = true then 1 else 0) = if k = i then 0 else if S.testBit k = true then 1 else 0
    rw [sw_bit S i (by omega)]
    by_cases q : k = i
    · subst q; simp
    · rw [if_neg q]
      have : decide (i = k) = false := decide_eq_false (fun e => q e.symm)
      rw [this]
      simp)
  rw [e2]
  rw [if_pos h] at e
  unfold sz
  omega
theorem sz_all : ∀ n, n < 9 → sz (2 ^ n - 1) = n := by decide +kernel
theorem qS_spec {f : Nat → Nat → Nat} {n : Nat} (hn : n ≤ 8) {L W : Nat → Nat} (hD : isDP f n L W (2 ^ n)) : ∀ k, k ≤ n → qS f L n k < 2 ^ n ∧ sz (qS f L n k) = n - k
  | 0, _ => by
    have := Nat.two_pow_pos n
    refine ⟨by rw [qS]; omega, ?_⟩
    rw [qS, sz_all n (by omega)]
    rfl
  | k + 1, hk => by
    obtain ⟨h1, h2⟩ := qS_spec hn hD k (by omega)
    have hz : sz 0 = 0 := by decide
    have h0 : qS f L n k ≠ 0 := fun e => by rw [e, hz] at h2; omega
    obtain ⟨f1, f2, f3, f4⟩ := fm_spec hD h0 h1
    refine ⟨sw_n h1, ?_⟩
    have := sz_sw1 (S := qS f L n k) (i := fmN f L n (qS f L n k)) (by omega) f2
    rw [qS]
    omega
theorem qS_ne {f : Nat → Nat → Nat} {n : Nat} (hn : n ≤ 8) {L W : Nat → Nat} (hD : isDP f n L W (2 ^ n)) {k : Nat} (hk : k < n) : qS f L n k ≠ 0 := fun e => by
  have h2 := (qS_spec hn hD k (by omega)).2
  have hz : sz 0 = 0 := by decide
  rw [e, hz] at h2
  omega
theorem oS_all {f : Nat → Nat → Nat} {n : Nat} (hn : n ≤ 8) {L W : Nat → Nat} (hD : isDP f n L W (2 ^ n)) {s : Nat} (hs : s < n) : ∃ k, k < n ∧ oS f L n k = s := by
  refine Classical.byContradiction (fun hc => ?_)
  have key : ∀ k, k ≤ n → (qS f L n k).testBit s = true := by
    intro k
    induction k with
    | zero => intro _; rw [qS, all_bit]; simp [hs]
    | succ k ih =>
      intro hk
      rw [qS, sw_bit _ _ (by omega), ih (by omega)]
      have : decide (fmN f L n (qS f L n k) = s) = false := decide_eq_false (fun e => hc ⟨k, by omega, e⟩)
      rw [this]
      rfl
  have h1 := sz_pos (s := qS f L n n) (i := s) (by omega) (key n (Nat.le_refl _))
  have h2 := (qS_spec hn hD n (Nat.le_refl _)).2
  omega
/-- the place of a sample -/
def plN (f : Nat → Nat → Nat) (L : Nat → Nat) (n s : Nat) : Nat := fa_first (fun k => decide (oS f L n k = s)) n
theorem pl_spec {f : Nat → Nat → Nat} {n : Nat} (hn : n ≤ 8) {L W : Nat → Nat} (hD : isDP f n L W (2 ^ n)) {s : Nat} (hs : s < n) : plN f L n s < n ∧ oS f L n (plN f L n s) = s ∧ ∀ j, j < plN f L n s → oS f L n j ≠ s := by
  obtain ⟨k, hk, he⟩ := oS_all hn hD hs
  have hlt : plN f L n s < n := by
    rcases Nat.lt_or_ge (plN f L n s) n with q | q
    · exact q
    · have := fa_first_no (fun k => decide (oS f L n k = s)) n k (Nat.lt_of_lt_of_le hk q)
      rw [decide_eq_false_iff_not] at this
      exact absurd he this
  have hy := fa_first_yes (fun k => decide (oS f L n k = s)) n hlt
  rw [decide_eq_true_eq] at hy
  refine ⟨hlt, hy, fun j hj e => ?_⟩
  have := fa_first_no (fun k => decide (oS f L n k = s)) n j hj
  rw [decide_eq_false_iff_not] at this
  exact this e
/-! the reference -/
theorem m_first {h : Nat → Nat → Int32} {n : Nat} {w : Nat → Nat} {m : Nat} {cp : Nat → Nat → Nat} (hm : m ≤ 48) (hw9 : ∀ i, w i ≤ 9) (G : isG h n w m cp) (h1 : h 1 0 = nI n) (hn : n ≤ 8) {L W : Nat → Nat} (hD : isDP (mp w m cp) n L W (2 ^ n)) (hO : isO h L W (2 ^ n)) {S : Nat} (hS0 : S ≠ 0) (hS : S < 2 ^ n) : lp (fun q => M_at_s2 (nI S) h q) FU (0 : Int32) = some (nI (fmN (mp w m cp) L n S)) := by
  have h256 := p256 hn
  obtain ⟨f1, f2, f3, f4⟩ := fm_spec hD hS0 hS
  have hb : ∀ i, i < n → ttl (mp w m cp) L S i < 2 ^ 30 ∧ L S < 2 ^ 30 := fun i hi => by
    have l2 := DP_le (mp_le hw9 hm cp) hn (Nat.le_refl _) hD (sw S i) (sw_n hS)
    have l3 := cst_le (mp_le hw9 hm cp) i (sw S i)
    have l4 := sz_n hn (sw_n (i := i) hS)
    have l5 := DP_le (mp_le hw9 hm cp) hn (Nat.le_refl _) hD S hS
    have l6 := sz_n hn hS
    unfold ttl
    omega
  have hst : ∀ i, i < n → S.testBit i = true → M_at_s2 (nI S) h (nI i) = if nI (ttl (mp w m cp) L S i) = nI (L S) then (some (.inr (nI i))) else (some (.inl (nI (i + 1)))) := fun i hi hbi => by
    unfold M_at_s2
    rw [s_has S (by omega) i (by omega), if_neg (by rw [if_pos hbi]; decide), bd_of (m_costBy hm hw9 G h1 hn hi hS (hO _ (sw_n hS)).1), ri_k (show S < 256 by omega) (by decide), nI_clamp (show S < 2 ^ 31 by omega), (hO S hS).1]
    dsimp only [nm]
    rw [nI_1]
    rfl
  refine lp_up (st := fun q => M_at_s2 (nI S) h q) (fun i => nI i) 0 (fmN (mp w m cp) L n S) (by omega) (by omega) (fun i _ hi => ?_) ?_
  · show M_at_s2 (nI S) h (nI i) = _
    cases c : S.testBit i with
    | true =>
      have b := hb i (by omega)
      rw [hst i (by omega) c, if_neg (fun e => f4 i hi c ((nI_eq (by omega) (by omega)).mp e))]
    | false =>
      unfold M_at_s2
      rw [s_has S (by omega) i (by omega), c, if_pos (by rfl)]
      dsimp only [nm]
      rw [nI_1]
  · show M_at_s2 (nI S) h (nI (fmN (mp w m cp) L n S)) = _
    rw [hst _ f1 f2, f3, if_pos rfl]
theorem m_at {h : Nat → Nat → Int32} {n : Nat} {w : Nat → Nat} {m : Nat} {cp : Nat → Nat → Nat} (hm : m ≤ 48) (hw9 : ∀ i, w i ≤ 9) (G : isG h n w m cp) (h1 : h 1 0 = nI n) (hn : n ≤ 8) {L W : Nat → Nat} (hD : isDP (mp w m cp) n L W (2 ^ n)) (hO : isO h L W (2 ^ n)) {p : Nat} (hp : p < n) : M_at h (nI p) = some (nI (oS (mp w m cp) L n p)) := by
  unfold M_at
  dsimp only [nm]
  rw [h1, s_all (by omega)]
  have e := lp_up (st := fun q => M_at_s1 (nI p) h q.1 q.2.1 q.2.2) (r := nI (oS (mp w m cp) L n p)) (fun k => (nI (qS (mp w m cp) L n k), nI (match k with | 0 => 0 | k + 1 => oS (mp w m cp) L n k), nI k)) 0 (p + 1) (by omega) (by omega) (fun k _ hk => by
    obtain ⟨g1, g2⟩ := qS_spec hn hD k (by omega)
    have h0 := qS_ne hn hD (show k < n by omega)
    obtain ⟨f1, f2, f3, f4⟩ := fm_spec hD h0 g1
    show M_at_s1 (nI p) h _ _ (nI k) = _
    unfold M_at_s1
    rw [if_neg (nI_nlt (by omega) (by omega)), bd_of (m_first hm hw9 G h1 hn hD hO h0 g1)]
    dsimp only [nm]
    rw [s_sw _ _ (by omega), nI_1]
    rfl) (by
    show M_at_s1 (nI p) h _ (nI (oS (mp w m cp) L n p)) (nI (p + 1)) = _
    unfold M_at_s1
    rw [if_pos (nI_lt (by omega) (by omega))])
  rw [bd_of (show lp (fun q => M_at_s1 (nI p) h q.1 q.2.1 q.2.2) FU (nI (2 ^ n - 1), (0 : Int32), (0 : Int32)) = _ from e)]
theorem m_placeOf {h : Nat → Nat → Int32} {n : Nat} {w : Nat → Nat} {m : Nat} {cp : Nat → Nat → Nat} (hm : m ≤ 48) (hw9 : ∀ i, w i ≤ 9) (G : isG h n w m cp) (h1 : h 1 0 = nI n) (hn : n ≤ 8) {L W : Nat → Nat} (hD : isDP (mp w m cp) n L W (2 ^ n)) (hO : isO h L W (2 ^ n)) {s : Nat} (hs : s < n) : M_placeOf h (nI s) = some (nI (plN (mp w m cp) L n s)) := by
  obtain ⟨p1, p2, p3⟩ := pl_spec hn hD hs
  have hlt : ∀ k, k < n → oS (mp w m cp) L n k < n := fun k hk => (fm_spec hD (qS_ne hn hD hk) (qS_spec hn hD k (by omega)).1).1
  unfold M_placeOf
  rw [bd_of (show lp (fun q => M_placeOf_s1 (nI s) h q) FU (0 : Int32) = some (nI (plN (mp w m cp) L n s)) from lp_up (st := fun q => M_placeOf_s1 (nI s) h q) (r := nI (plN (mp w m cp) L n s)) (fun k => nI k) 0 (plN (mp w m cp) L n s) (by omega) (by omega) (fun k _ hk => by
    have := hlt k (by omega)
    show M_placeOf_s1 (nI s) h (nI k) = _
    unfold M_placeOf_s1
    rw [bd_of (m_at hm hw9 G h1 hn hD hO (by omega)), if_neg (fun e => p3 k hk ((nE (by omega) (by omega)).mp e))]
    dsimp only [nm]
    rw [nI_1]) (by
    show M_placeOf_s1 (nI s) h (nI _) = _
    unfold M_placeOf_s1
    rw [bd_of (m_at hm hw9 G h1 hn hD hO p1), p2, if_pos rfl]))]
/-! the class -/
theorem k_foremost {g : Nat → Nat → Int32} {f : Nat → Nat → Nat} (hf : ∀ j i, f j i ≤ 432) {n : Nat} (hn : n ≤ 8) (h31 : g 31 0 = nI n) (K : isK g f n) {L W : Nat → Nat} (hD : isDP f n L W (2 ^ n)) (hQ : isQ g L W (2 ^ n)) {S : Nat} (hS0 : S ≠ 0) (hS : S < 2 ^ n) : C_BO_foremostOf g (nI S) = some (nI (fmN f L n S)) := by
  have h256 := p256 hn
  obtain ⟨f1, f2, f3, f4⟩ := fm_spec hD hS0 hS
  have hb : ∀ i, i < n → ttl f L S i < 2 ^ 30 ∧ L S < 2 ^ 30 := fun i hi => by
    have l2 := DP_le hf hn (Nat.le_refl _) hD (sw S i) (sw_n hS)
    have l3 := cst_le hf i (sw S i)
    have l4 := sz_n hn (sw_n (i := i) hS)
    have l5 := DP_le hf hn (Nat.le_refl _) hD S hS
    have l6 := sz_n hn hS
    unfold ttl
    omega
  have e5 : nI S &&& (255 : Int32) = nI S := by
    rw [show (255 : Int32) = nI (2 ^ 8 - 1) from rfl, fa_mask, Nat.mod_eq_of_lt (by omega)]
  have hst : ∀ i, i < n → S.testBit i = true → C_BO_foremostOf_s1 (nI S) g (nI i) = if nI (ttl f L S i) = nI (L S) then (some (.inr (nI i))) else (some (.inl (nI (i + 1)))) := fun i hi hbi => by
    have l2 := sw_n (i := i) hS
    have hcon := s_con S (by omega) i (by omega)
    rw [hbi] at hcon
    unfold C_BO_foremostOf_s1
    rw [h31, if_neg (nI_ge hi (by omega)), k_sw (by omega) (by omega)]
    dsimp only [nm]
    rw [bd_of hcon, if_neg (by decide), ri_k (show sw S i < 256 by omega) (by decide), bd_of (k_cost hn K hi (by omega)), e5, ri_k (show S < 256 by omega) (by decide), nI_clamp (show sw S i < 2 ^ 31 by omega), nI_clamp (show S < 2 ^ 31 by omega), (hQ _ l2).1, (hQ S hS).1, nI_add, nI_1]
    rfl
  unfold C_BO_foremostOf
  refine lp_up (st := fun q => C_BO_foremostOf_s1 (nI S) g q) (fun i => nI i) 0 (fmN f L n S) (by omega) (by omega) (fun i _ hi => ?_) ?_
  · show C_BO_foremostOf_s1 (nI S) g (nI i) = _
    cases c : S.testBit i with
    | true =>
      have b := hb i (by omega)
      rw [hst i (by omega) c, if_neg (fun e => f4 i hi c ((nI_eq (by omega) (by omega)).mp e))]
    | false =>
      have hcon := s_con S (by omega) i (by omega)
      rw [c] at hcon
      unfold C_BO_foremostOf_s1
      rw [h31, if_neg (nI_ge (by omega) (by omega)), k_sw (by omega) (by omega)]
      dsimp only [nm]
      rw [bd_of hcon, if_pos (by rfl), nI_1]
  · show C_BO_foremostOf_s1 (nI S) g (nI (fmN f L n S)) = _
    rw [hst _ f1 f2, f3, if_pos rfl]
/-- what the class's best order holds -/
def isR (g : Nat → Nat → Int32) (f : Nat → Nat → Nat) (n : Nat) : Prop := isDP f n (lT f n) (wT f n) (2 ^ n) ∧ g 31 0 = nI n ∧ g 32 0 = nI (lT f n (2 ^ n - 1)) ∧ g 33 0 = nI (wT f n (2 ^ n - 1)) ∧ ∀ k, k < n → g 34 k = nI (oS f (lT f n) n k)
theorem k_find0 {G : Nat → Nat → Int32} {n : Nat} {w : Nat → Nat} {m : Nat} {cp : Nat → Nat → Nat} (hm : m ≤ 48) (hw9 : ∀ i, w i ≤ 9) (S : isS G n w m cp) (hn : n ≤ 8) (h30 : G 30 0 = 0) : ∃ G2, C_BO_find_22 G (nI n) = some G2 ∧ eqx [30, 31, 32, 33, 34, 35, 36, 37, 38] G G2 ∧ isR G2 (mp w m cp) n ∧ G2 30 0 = 1 := by
  have h256 := p256 hn
  have hpos : 0 < 2 ^ n := Nat.two_pow_pos n
  have hf := mp_le hw9 hm cp
  obtain ⟨G3, hG3⟩ : ∃ g, g = wf (wf G 30 (1 : Int32)) 31 (nI n) := ⟨_, rfl⟩
  have x3 : eqx [30, 31] G G3 := by rw [hG3]; exact eqx_tr (eqx_wf (by decide)) (eqx_wf (by decide))
  have a31 : G3 31 0 = nI n := by rw [hG3, wf_ap, if_pos rfl]
  have a30 : G3 30 0 = 1 := by rw [hG3, wf_ne (by decide), wf_ap, if_pos rfl]
  obtain ⟨G5, c1, c2, c3⟩ := k_takeCosts (G := G3) hm hw9 (fun i j hi hj => by rw [x3 20 (by decide)]; exact S.2.2.1 i j hi hj) a31 hn
  obtain ⟨G12, hG12⟩ : ∃ g, g = wr (wr G5 35 (nI 0) (nI 0)) 36 (nI 0) (nI 1) := ⟨_, rfl⟩
  have x12 : eqx [35, 36, 37, 38] G3 G12 := by rw [hG12]; exact eqx_tr (eqx_sub c2 (by decide)) (eqx_tr (eqx_wr (by decide)) (eqx_wr (by decide)))
  have y12 : eqx [35, 36] G5 G12 := by rw [hG12]; exact eqx_tr (eqx_wr (by decide)) (eqx_wr (by decide))
  have b31 : G12 31 0 = nI n := by rw [x12 31 (by decide)]; exact a31
  obtain ⟨r, e1, e2, L, W, e3, e4⟩ := lp_iv (st := fun q => C_BO_find_22_s1 (nI (2 ^ n - 1)) q.1 q.2) (fun T q => q.1 = nI T ∧ eqx [35, 36] G5 q.2 ∧ ∃ L W, isDP (mp w m cp) n L W T ∧ isQ q.2 L W T) (fun r => eqx [35, 36] G5 r ∧ ∃ L W, isDP (mp w m cp) n L W (2 ^ n) ∧ isQ r L W (2 ^ n)) 1 (2 ^ n) (by omega) (by omega) (fun T q hT1 hT ⟨e, hx, L, W, hD, hQ⟩ => by
      have q31 : q.2 31 0 = nI n := by rw [hx 31 (by decide), c2 31 (by decide)]; exact a31
      have Kq : isK q.2 (mp w m cp) n := by
        unfold isK
        rw [hx 37 (by decide), hx 38 (by decide)]
        exact c3
      obtain ⟨p, p1, p2⟩ := k_solve hf hn q31 Kq (by omega) hT hD hQ
      refine ⟨(nI (T + 1), wr (wr q.2 35 (nI T) (nI p.1)) 36 (nI T) (nI p.2)), ?_, rfl, eqx_tr hx (eqx_tr (eqx_wr (by decide)) (eqx_wr (by decide))), (fun U => if U = T then p.1 else L U), (fun U => if U = T then p.2 else W U), ⟨?_, ?_, fun U hU0 hU => ?_⟩, fun U hU => ?_⟩
      · show C_BO_find_22_s1 (nI (2 ^ n - 1)) q.1 q.2 = _
        unfold C_BO_find_22_s1
        rw [e, if_neg (nI_nlt (by omega) (by omega)), if_neg (show ¬ (256 : Int32) ≤ nI T from nI_ge (show T < 256 by omega) (by decide)), bd_of p2]
        dsimp only [nm]
        rw [nI_1]
      · dsimp only
        rw [if_neg (show ¬ 0 = T by omega)]; exact hD.1
      · dsimp only
        rw [if_neg (show ¬ 0 = T by omega)]; exact hD.2.1
      · have hcg : run U (fun i => (if sw U i = T then p.1 else L (sw U i)) + cst (mp w m cp) i (sw U i)) (fun i => if sw U i = T then p.2 else W (sw U i)) n = run U (fun i => L (sw U i) + cst (mp w m cp) i (sw U i)) (fun i => W (sw U i)) n := run_cong n (fun i hi hb => by
          have := sw_lt (S := U) (i := i) (by omega) hb
          show (if sw U i = T then p.1 else L (sw U i)) + _ = _ ∧ (if sw U i = T then p.2 else W (sw U i)) = _
          rw [if_neg (by omega), if_neg (by omega)]
          exact ⟨rfl, rfl⟩)
        refine hcg.trans ?_
        dsimp only
        by_cases u : U = T
        · subst u
          rw [if_pos rfl, if_pos rfl]
          exact p1
        · rw [if_neg u, if_neg u]
          exact hD.2.2 U hU0 (by omega)
      · dsimp only
        rw [wr_ne (by decide), wr_ap, if_pos rfl, wr_ap, if_pos rfl, nI_clamp (show T < 2 ^ 31 by omega)]
        by_cases u : U = T
        · rw [if_pos u, if_pos u, if_pos u, if_pos u]
          exact ⟨rfl, rfl⟩
        · rw [if_neg u, if_neg u, if_neg u, if_neg u, wr_ne (by decide)]
          exact hQ U (by omega)) (fun q ⟨e, hx, L, W, hD, hQ⟩ => by
      refine ⟨q.2, ?_, hx, L, W, hD, hQ⟩
      show C_BO_find_22_s1 (nI (2 ^ n - 1)) q.1 q.2 = _
      unfold C_BO_find_22_s1
      rw [e, if_pos (nI_lt (by omega) (by omega))]) ((1 : Int32), G12) ⟨rfl, y12, (fun _ => 0), (fun _ => 1), ⟨rfl, rfl, fun S h1 h2 => by omega⟩, fun S hS => by
        have : S = 0 := by omega
        subst this
        show G12 35 0 = nI 0 ∧ G12 36 0 = nI 1
        rw [hG12]
        refine ⟨?_, ?_⟩
        · rw [wr_ne (by decide), wr_ap, if_pos rfl, nI_clamp (by omega), if_pos rfl]
        · rw [wr_ap, if_pos rfl, nI_clamp (by omega), if_pos rfl]⟩
  have hDc := lwT_DP e3
  have hQc : isQ r (lT (mp w m cp) n) (wT (mp w m cp) n) (2 ^ n) := fun T hT => by
    obtain ⟨a, b⟩ := lwT_eq hn e3 T hT
    rw [← a, ← b]
    exact e4 T hT
  obtain ⟨A, hA⟩ : ∃ A, A = 2 ^ n - 1 := ⟨_, rfl⟩
  have e5 : nI A &&& (255 : Int32) = nI A := by
    rw [show (255 : Int32) = nI (2 ^ 8 - 1) from rfl, fa_mask, Nat.mod_eq_of_lt (by omega)]
  obtain ⟨G27, hG27⟩ : ∃ g, g = wf (wf r 32 (nI (lT (mp w m cp) n A))) 33 (nI (wT (mp w m cp) n A)) := ⟨_, rfl⟩
  have x27 : eqx [32, 33] r G27 := by rw [hG27]; exact eqx_tr (eqx_wf (by decide)) (eqx_wf (by decide))
  obtain ⟨v, g1, g2, g3⟩ := lp_iv (st := fun q => C_BO_readOff_s1 q.1 q.2.1 q.2.2) (fun k q => q.1 = nI (qS (mp w m cp) (lT (mp w m cp) n) n k) ∧ q.2.1 = nI k ∧ eqx [34] G27 q.2.2 ∧ ∀ t, t < k → q.2.2 34 t = nI (oS (mp w m cp) (lT (mp w m cp) n) n t)) (fun v => eqx [34] G27 v ∧ ∀ t, t < n → v 34 t = nI (oS (mp w m cp) (lT (mp w m cp) n) n t)) 0 n (by omega) (by omega) (fun k q _ hk ⟨q1, q2, q3, q4⟩ => by
      have y : eqx [32, 33, 34] r q.2.2 := eqx_tr (eqx_sub x27 (by decide)) (eqx_sub q3 (by decide))
      have q31 : q.2.2 31 0 = nI n := by rw [y 31 (by decide), e2 31 (by decide), c2 31 (by decide)]; exact a31
      have Kq : isK q.2.2 (mp w m cp) n := by
        unfold isK
        rw [y 37 (by decide), y 38 (by decide), e2 37 (by decide), e2 38 (by decide)]
        exact c3
      have Qq : isQ q.2.2 (lT (mp w m cp) n) (wT (mp w m cp) n) (2 ^ n) := by
        unfold isQ
        rw [y 35 (by decide), y 36 (by decide)]
        exact hQc
      obtain ⟨s1, s2⟩ := qS_spec hn hDc k (by omega)
      have s0 := qS_ne hn hDc hk
      have hfm := k_foremost hf hn q31 Kq hDc Qq s0 s1
      have f1 := (fm_spec hDc s0 s1).1
      refine ⟨(nI (qS (mp w m cp) (lT (mp w m cp) n) n (k + 1)), nI (k + 1), wr q.2.2 34 (nI k) (nI (oS (mp w m cp) (lT (mp w m cp) n) n k))), ?_, rfl, rfl, eqx_tr q3 (eqx_wr (by decide)), fun t ht => ?_⟩
      · show C_BO_readOff_s1 q.1 q.2.1 q.2.2 = _
        unfold C_BO_readOff_s1
        rw [q1, q2, q31, if_neg (nI_ge hk (by omega)), bd_of hfm, ri_k (show k < 8 by omega) (by decide)]
        dsimp only [nm]
        rw [k_sw (by omega) (by omega), nI_1]
        rfl
      · dsimp only
        rw [wr_ap, if_pos rfl, nI_clamp (by omega)]
        by_cases u : t = k
        · rw [if_pos u, u]
        · rw [if_neg u]
          exact q4 t (by omega)) (fun q ⟨q1, q2, q3, q4⟩ => by
      have y : eqx [32, 33, 34] r q.2.2 := eqx_tr (eqx_sub x27 (by decide)) (eqx_sub q3 (by decide))
      have q31 : q.2.2 31 0 = nI n := by rw [y 31 (by decide), e2 31 (by decide), c2 31 (by decide)]; exact a31
      refine ⟨q.2.2, ?_, q3, q4⟩
      show C_BO_readOff_s1 q.1 q.2.1 q.2.2 = _
      unfold C_BO_readOff_s1
      rw [q2, q31, if_pos (nI_le (Nat.le_refl _) (by omega))]) (nI A, (0 : Int32), G27) ⟨by rw [hA]; rfl, rfl, eqx_rf, fun t ht => by omega⟩
  have hL := (hQc A (by omega)).1
  have hW := (hQc A (by omega)).2
  refine ⟨v, ?_, ?_, ⟨hDc, ?_, ?_, ?_, g3⟩, ?_⟩
  · have e8 : (if (8 : Int32) < nI n then (8 : Int32) else nI n) = nI n := if_neg (show ¬ (8 : Int32) < nI n from nI_nlt hn (by decide))
    unfold C_BO_find_22
    rw [if_pos h30]
    dsimp only [nm]
    rw [e8, ← hG3, bd_of c1]
    have hG12' : wr (wr G5 35 (0 : Int32) (0 : Int32)) 36 (0 : Int32) (1 : Int32) = G12 := by rw [hG12]; rfl
    have ri0 : ∀ k : Option (Nat → Nat → Int32), ri 256 (0 : Int32) k = k := fun k => ri_k (j := 0) (show 0 < 256 by omega) (by decide)
    rw [ri0, ri0, hG12', b31, s_all (by omega), bd_of e1, ← hA, e5, ri_k (show A < 256 by omega) (by decide), nI_clamp (show A < 2 ^ 31 by omega), hL, ri_k (show A < 256 by omega) (by decide), wf_ne (by decide), hW, ← hG27]
    unfold C_BO_readOff
    dsimp only [nm]
    rw [e5, bd_of g1]
    rfl
  · exact eqx_tr (eqx_sub x3 (by decide)) (eqx_tr (eqx_sub c2 (by decide)) (eqx_tr (eqx_sub e2 (by decide)) (eqx_tr (eqx_sub x27 (by decide)) (eqx_sub g2 (by decide)))))
  · rw [g2 31 (by decide), x27 31 (by decide), e2 31 (by decide), c2 31 (by decide)]; exact a31
  · rw [g2 32 (by decide), hG27, wf_ne (by decide), wf_ap, if_pos rfl, hA]
  · rw [g2 33 (by decide), hG27, wf_ap, if_pos rfl, hA]
  · rw [g2 30 (by decide), x27 30 (by decide), e2 30 (by decide), c2 30 (by decide)]; exact a30
theorem k_sampleAt {g : Nat → Nat → Int32} {f : Nat → Nat → Nat} {n : Nat} (hn : n ≤ 8) (Rr : isR g f n) {p : Nat} (hp : p < n) : C_BO_sampleAt g (nI p) = some (nI (oS f (lT f n) n p)) := by
  unfold C_BO_sampleAt
  rw [if_neg (nI_pos (by omega)), Rr.2.1, if_neg (nI_ge hp (by omega)), ri_k (show p < 8 by omega) (by decide), nI_clamp (by omega), Rr.2.2.2.2 p hp]
theorem k_placeOf {g : Nat → Nat → Int32} {f : Nat → Nat → Nat} {n : Nat} (hn : n ≤ 8) (Rr : isR g f n) {s : Nat} (hs : s < n) : C_BO_placeOf g (nI s) = some (nI (plN f (lT f n) n s)) := by
  obtain ⟨p1, p2, p3⟩ := pl_spec hn Rr.1 hs
  have hlt : ∀ k, k < n → oS f (lT f n) n k < n := fun k hk => (fm_spec Rr.1 (qS_ne hn Rr.1 hk) (qS_spec hn Rr.1 k (by omega)).1).1
  unfold C_BO_placeOf
  refine lp_up (st := fun q => C_BO_placeOf_s1 (nI s) g q) (fun k => nI k) 0 (plN f (lT f n) n s) (by omega) (by omega) (fun k _ hk => ?_) ?_
  · have := hlt k (by omega)
    show C_BO_placeOf_s1 (nI s) g (nI k) = _
    unfold C_BO_placeOf_s1
    rw [Rr.2.1, if_neg (nI_ge (by omega) (by omega)), ri_k (show k < 8 by omega) (by decide), nI_clamp (show k < 2 ^ 31 by omega), Rr.2.2.2.2 k (by omega), if_neg (fun e => p3 k hk ((nE (by omega) (by omega)).mp e))]
    dsimp only [nm]
    rw [nI_1]
  · show C_BO_placeOf_s1 (nI s) g (nI _) = _
    unfold C_BO_placeOf_s1
    rw [Rr.2.1, if_neg (nI_ge p1 (by omega)), ri_k (show plN f (lT f n) n s < 8 by omega) (by decide), nI_clamp (show plN f (lT f n) n s < 2 ^ 31 by omega), Rr.2.2.2.2 _ p1, p2, if_pos rfl]
