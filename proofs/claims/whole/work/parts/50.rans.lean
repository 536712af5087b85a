/-! CALLS: answer, remove -/
theorem snA_cur {n L : Nat} {s : SN} (B : snB n L s) {x : Nat × Nat × TA} (hx : s.2.2.1 = some x) {c : Nat} (hc : c ≤ x.2.1) : snB n L (s.1, s.2.1, s.2.2.1, c) := by
  obtain ⟨b1, b2, b3, b4⟩ := B
  refine ⟨b1, b2, fun e => ?_, fun y hy => ?_⟩
  · have e' : s.2.2.1 = none := e
    rw [hx] at e'; cases e'
  · have hy' : s.2.2.1 = some y := hy
    obtain ⟨p1, p2, p3, p4⟩ := b4 y hy'
    have : y = x := by rw [hx] at hy'; exact (Option.some.inj hy').symm
    rw [this] at p1 p2 p3 ⊢
    exact ⟨p1, p2, p3, hc⟩
theorem RC_cur {n L : Nat} {w : Nat → Nat} {s : SN} {K : Nat} {hs : Nat → SN} {v len : Nat} {tx : Nat → Int32} {G : Nat → Nat → Int32} {P : Nat → Option PRec} (C : RC n L w s K hs v len tx G P) (c : Nat) : RC n L w (s.1, s.2.1, s.2.2.1, c) K hs v len tx (wf G 3 (nI c)) P := by
  refine RC_s (X := [3]) C (eqx_wf (by decide)) (by decide) (fun _ => rfl) ?_
  obtain ⟨⟨d1, d2⟩, d3, d4⟩ := C.2.2.2.1
  exact ⟨⟨by rw [wf_ne (by decide)]; exact d1, fun t ht => by rw [wf_ne (by decide)]; exact d2 t ht⟩, by rw [wf_ap, if_pos rfl], d4⟩
theorem RM_cur {n L : Nat} {w : Nat → Nat} {s : SN} {K : Nat} {hs : Nat → SN} {len : Nat} {tx : Nat → Int32} {h : Nat → Nat → Int32} (M : RM n L w s K hs len tx h) (c : Nat) : RM n L w (s.1, s.2.1, s.2.2.1, c) K hs len tx (wf h 11 (nI c)) := by
  refine RM_s (X := [11]) M (eqx_wf (by decide)) (by decide) ?_
  obtain ⟨⟨m0, m1⟩, m2, m3, m4, m5⟩ := M.2.2.2.1
  exact ⟨⟨by rw [wf_ne (by decide)]; exact m0, fun t ht => by rw [wf_ne (by decide), wf_ne (by decide), wf_ne (by decide), wf_ne (by decide)]; exact m1 t ht⟩, by rw [wf_ne (by decide)]; exact m2, by rw [wf_ne (by decide)]; exact m3, by rw [wf_ap, if_pos rfl], fun x hp t ht => by rw [wf_ne (by decide)]; exact m5 x hp t ht⟩
theorem p_answer {G h : Nat → Nat → Int32} {P : Nat → Option PRec} (H : RR G P h) (E : Nat → Nat → Int64) (a0 : Int32) : okO P (fun r G2 P2 => C_LT_answer G P a0 = some (r, G2, P2)) (fun r h2 => M_answer h a0 = some (r, h2)) ∨ twO [(ise, 1), (iae, 2)] P (X_LT_answer G E P a0) (fun h2 => ∃ r, M_answer h a0 = some (r, h2)) := by
  obtain ⟨n, L, w, s, K, hs, v, len, tx, B, C, M⟩ := id H
  obtain ⟨b1, b2, b3, b4, b5, b6, b7, b8, b9, b10⟩ := id B
  obtain ⟨d1, d2, d3⟩ := C.2.2.2.1
  obtain ⟨m1, m2, m3, m4, m5⟩ := M.2.2.2.1
  have bm := b6.1.1
  cases hp : s.2.2.1 with
  | none =>
    rw [hp] at d3 m2
    refine Or.inr (tw0 (E := E) (ex := ise) (k := 1) H ?_ ⟨0, ?_⟩ (by decide))
    · unfold X_LT_answer; rw [show P 0 = none from d3]; rfl
    · unfold M_answer; rw [if_pos (show h 9 0 = (-1 : Int32) from m2), bd_of rfl, bd_of (if_pos rfl)]; dsimp only [nm]; rw [t_1]
  | some x =>
    have mne : ¬ h 9 0 = (-1 : Int32) := by rw [m2]; exact plM_ne b6 b4 hp
    obtain ⟨x1, x2, x3, x4⟩ := b6.2.2.2 x hp
    have m5x := m5 x hp
    rw [hp] at d3 m3
    obtain ⟨z, z1, z2, z3, z4⟩ := d3
    have m3' : h 10 0 = nI x.2.1 := m3
    by_cases hc : x.2.1 ≤ s.2.2.2
    · refine Or.inr (tw0 (E := E) (ex := ise) (k := 1) H ?_ ⟨0, ?_⟩ (by decide))
      · unfold X_LT_answer P_size; rw [z1, oc_some rfl, z3, d2]; dsimp only [nm]; rw [if_pos (nI_le hc (by omega))]; rfl
      · unfold M_answer; rw [if_neg mne, m3', m4, if_pos (nI_le hc (by omega)), bd_of rfl, bd_of (if_pos rfl)]; dsimp only [nm]; rw [t_1]
    have hcn : ¬ nI x.2.1 ≤ nI s.2.2.2 := nI_ge (by omega) (by omega)
    by_cases hm : s.1 = 48
    · refine Or.inr (tw0 (E := E) (ex := ise) (k := 1) H ?_ ⟨0, ?_⟩ (by decide))
      · unfold X_LT_answer P_size C_CO_isFull; rw [z1, oc_some rfl, z3, d2, d1.1, hm]; dsimp only [nm]; rw [if_neg hcn]; rfl
      · unfold M_answer; rw [if_neg mne, m3', m4, if_neg hcn, m1.1, hm, bd_of (show (if (48 : Int32) ≤ nI 48 then some (0 : Int32) else some 1) = some 0 by decide), bd_of (if_pos rfl)]; dsimp only [nm]; rw [t_1]
    have hm' : s.1 < 48 := by omega
    have qf : C_CO_isFull G = some 0 := by unfold C_CO_isFull; rw [d1.1, show (48 : Int32) = nI 48 from rfl, if_pos (nI_lt hm' (by decide))]
    have q4 : ¬ (48 : Int32) ≤ h 4 0 := by rw [m1.1]; exact nI_ge (b := 48) hm' (by decide)
    rcases q_ans a0 with ⟨a, ha, rfl, v1, v2, v3⟩ | ⟨v1, v2, v3⟩
    case inr =>
      refine Or.inr (tw0 (E := E) (ex := iae) (k := 2) H ?_ ⟨0, ?_⟩ (by decide))
      · unfold X_LT_answer P_size; rw [z1, oc_some rfl, z3, d2]; dsimp only [nm]; rw [if_neg hcn, bd_of qf, if_pos rfl, v2]; rfl
      · unfold M_answer; rw [if_neg mne, m3', m4, if_neg hcn, if_neg q4, bd_of rfl, if_neg (by decide), bd_of v3, bd_of (if_pos rfl)]; dsimp only [nm]; rw [t_2]
    left
    obtain ⟨G2, e1, e2, e3⟩ := k_remember B C
    have M0 := RM_x (X := [0]) M (eqx_wf (k := 0) (x := (0 : Int32)) (by decide)) (by decide)
    obtain ⟨h2, f1, f2, f3⟩ := m_keep B M0
    have hcl : s.2.2.2 < x.2.1 := by omega
    obtain ⟨o1, o2, o3⟩ := x3 s.2.2.2 hcl
    obtain ⟨f, hf⟩ : ∃ f, f = (x.2.2 s.2.2.2).1 := ⟨_, rfl⟩
    obtain ⟨g, hg⟩ : ∃ g, g = (x.2.2 s.2.2.2).2 := ⟨_, rfl⟩
    rw [← hf] at o1 o3
    rw [← hg] at o2 o3
    have hpk := k_pk x.1 (by omega) f (by omega) g (by omega) a ha
    obtain ⟨c1, c2, c3⟩ := e3.2.2.2.1
    obtain ⟨n1, n2, n3, n4, n5⟩ := f3.2.2.2.1
    obtain ⟨k1, k2⟩ := k_firstAt (show x.2.1 < 1000 by omega) b2 z4 x3 hcl
    rw [← hf] at k1
    rw [← hg] at k2
    obtain ⟨t1, t2⟩ := m_tr x2 b2 (n5 x hp) x3 hcl
    rw [← hf] at t1
    rw [← hg] at t2
    have hA := RC_cur (RC_A (l := x.1) (f := f) (g := g) (a := a) e3 hm' rfl) (s.2.2.2 + 1)
    have hB := RM_cur (RM_A f3 hm' x.1 f g a) (s.2.2.2 + 1)
    have hS := snA_cur (snB_A b6 b2 b4 hm' x1 o1 o2 o3 ha) (x := x) hp (c := s.2.2.2 + 1) hcl
    have hP := RP_s (RP_psh B) hS
    have hle := k_left hP hA
    refine ⟨nI (x.2.1 - (s.2.2.2 + 1)), _, _, _, ?_, ?_, ?_, ⟨n, L, w, _, _, _, _, len, tx, hP, hA, hB⟩, fun Z => PZ_up⟩
    · show C_LT_answer G P (nI a) = _
      unfold C_LT_answer P_size
      rw [z1, oc_some rfl, z3, d2]
      dsimp only [nm]
      rw [if_neg hcn, bd_of qf, if_pos rfl, bd0_of v1, bd2_of e1, c2, z2, bd_of k1, bd_of k2, hpk, bd_of (k_put c1.1 hm' _), wf_ne (show (3 : Nat) ≠ 5 by decide), wr_ne (show (3 : Nat) ≠ 4 by decide), c2, nI_1, z1.symm, bd_of hle]
      show some (nI (plT s.2.2.1 - (s.2.2.2 + 1)), _, _) = _
      rw [plT_some hp]
    · show M_answer h (nI a) = _
      unfold M_answer
      rw [if_neg mne, m3', m4, if_neg hcn, if_neg q4, bd_of rfl, if_neg (by decide), bd_of v3, bd_of (if_neg (by decide))]
      dsimp only [nm]
      have n2' : h2 9 0 = nI x.1 := by rw [n2, hp]; rfl
      have n3' : h2 10 0 = nI x.2.1 := by rw [n3, plT_some hp]
      rw [t_0, bd_of f1, n4, ri_k (show s.2.2.2 < 56 by omega) (by decide), ri_k (show s.2.2.2 < 56 by omega) (by decide), nI_clamp (by omega), t2, t1, n2', bd_of (m_add n1.1 hm' x.1 f g a)]
      have hx4 := wr4_x (h := h2) (c := s.1) (l := x.1) (f := f) (s := g) (a := a)
      rw [wf_ne (show (11 : Nat) ≠ 4 by decide), hx4 11 (by decide), n4, nI_1, wf_ne (show (10 : Nat) ≠ 11 by decide), wf_ne (show (10 : Nat) ≠ 4 by decide), hx4 10 (by decide), n3', wf_ap, if_pos rfl, sb_k (by omega)]
    · rw [wf_ne (by decide), wf_ne (by decide), wr4_x 0 (by decide), f2 0 (by decide), wf00]
/-- comparison c out -/
def cpR (cp : Nat → Nat → Nat) (i : Nat) : Nat → Nat → Nat := fun p c => if c < i then cp p c else cp p (c + 1)
theorem cpR_cd (cp : Nat → Nat → Nat) (i c : Nat) : cd (cpR cp i) c = if c < i then cd cp c else cd cp (c + 1) := by
  unfold cd cpR
  by_cases h : c < i
  · simp [h]
  · simp [h]
def snR (s : SN) (i : Nat) : SN := (s.1 - 1, cpR s.2.1 i, s.2.2.1, s.2.2.2)
theorem snB_R {n L : Nat} {s : SN} (B : snB n L s) {i : Nat} (hi : i < s.1) : snB n L (snR s i) := by
  obtain ⟨⟨b1, b2⟩, b3, b4, b5⟩ := B
  refine ⟨⟨show s.1 - 1 ≤ 48 by omega, fun c hc => ?_⟩, fun c hc => ?_, b4, b5⟩
  · have hc' : c < s.1 - 1 := hc
    show cpR s.2.1 i 0 c < 8 ∧ cpR s.2.1 i 1 c < 8 ∧ cpR s.2.1 i 2 c < 8 ∧ cpR s.2.1 i 1 c ≠ cpR s.2.1 i 2 c ∧ cpR s.2.1 i 3 c < 3
    unfold cpR
    by_cases h : c < i
    · simp only [if_pos h]; exact b2 c (by omega)
    · simp only [if_neg h]; exact b2 (c + 1) (by omega)
  · have hc' : c < s.1 - 1 := hc
    show cpR s.2.1 i 0 c < L ∧ cpR s.2.1 i 1 c < n ∧ cpR s.2.1 i 2 c < n
    unfold cpR
    by_cases h : c < i
    · simp only [if_pos h]; exact b3 c (by omega)
    · simp only [if_neg h]; exact b3 (c + 1) (by omega)
theorem k_takeOut {G : Nat → Nat → Int32} {m i : Nat} {cp : Nat → Nat → Nat} (C : isC G 5 4 m cp) (hm : m ≤ 48) (hi : i < m) : ∃ G2, C_CO_takeOut G (nI i) = some G2 ∧ eqx [4, 5] G G2 ∧ isC G2 5 4 (m - 1) (cpR cp i) := by
  obtain ⟨v, e1, e2, e3⟩ := lp_iv (st := fun q => C_CO_takeOut_s1 q.1 q.2) (fun k q => q.1 = nI k ∧ eqx [4] G q.2 ∧ (∀ c, c < m → q.2 4 c = nI (if i ≤ c ∧ c + 1 < k then cd cp (c + 1) else cd cp c))) (fun h => eqx [4] G h ∧ ∀ c, c < m - 1 → h 4 c = nI (cd (cpR cp i) c)) (i + 1) m (by omega) (by omega) (fun k q hk1 hk ⟨q1, q2, q3⟩ => by
      refine ⟨(nI (k + 1), wr q.2 4 (nI (k - 1)) (nI (cd cp k))), ?_, rfl, eqx_tr q2 (eqx_wr (by decide)), fun c hc => ?_⟩
      · show C_CO_takeOut_s1 q.1 q.2 = _
        unfold C_CO_takeOut_s1
        have s1 : nI k - (1 : Int32) = nI (k - 1) := sb_k (b := 1) (by omega)
        rw [q1, q2 5 (by decide), C.1, if_neg (nI_ge hk (by omega)), s1, ri_k (show k < 48 by omega) (by decide), ri_k (show k - 1 < 48 by omega) (by decide), nI_clamp (show k < 2 ^ 31 by omega), q3 k hk, if_neg (by omega)]
        dsimp only [nm]
        rw [nI_1]
      · dsimp only
        rw [wr_ap, if_pos rfl, nI_clamp (show k - 1 < 2 ^ 31 by omega)]
        by_cases u : c = k - 1
        · rw [if_pos u, if_pos (by omega), u, show k - 1 + 1 = k by omega]
        · rw [if_neg u, q3 c hc]
          by_cases u2 : i ≤ c ∧ c + 1 < k
          · rw [if_pos u2, if_pos (by omega)]
          · rw [if_neg u2, if_neg (by omega)]) (fun q ⟨q1, q2, q3⟩ => by
      refine ⟨q.2, ?_, q2, fun c hc => ?_⟩
      · show C_CO_takeOut_s1 q.1 q.2 = _
        unfold C_CO_takeOut_s1
        rw [q1, q2 5 (by decide), C.1, if_pos (nI_le (Nat.le_refl _) (by omega))]
      · rw [q3 c (by omega), cpR_cd]
        by_cases u : c < i
        · rw [if_pos u, if_neg (by omega)]
        · rw [if_neg u, if_pos (by omega)]) (nI (i + 1), G) ⟨rfl, eqx_rf, fun c hc => by rw [if_neg (by omega)]; exact C.2 c hc⟩
  refine ⟨wf v 5 (nI (m - 1)), ?_, eqx_tr (eqx_sub e2 (by decide)) (eqx_wf (by decide)), by rw [wf_ap, if_pos rfl], fun c hc => by rw [wf_ne (by decide)]; exact e3 c hc⟩
  unfold C_CO_takeOut
  rw [if_neg (nI_pos (by omega)), C.1, if_pos (nI_lt hi (by omega))]
  dsimp only [nm]
  rw [nI_1, bd_of e1, e2 5 (by decide), C.1, show (1 : Int32) = nI 1 from rfl, sb_k (by omega)]
theorem m_remove1 {g : Nat → Nat → Int32} {m i : Nat} {cp : Nat → Nat → Nat} (M : isM g m cp) (B : cB m cp) (hi : i < m) : ∃ h2, lp (fun q => M_remove_s1 q.1 q.2) FU (nI i, g) = some h2 ∧ eqx [5, 6, 7, 8] g h2 ∧ (∀ c, c < m - 1 → h2 5 c = nI (cpR cp i 0 c) ∧ h2 6 c = nI (cpR cp i 1 c) ∧ h2 7 c = nI (cpR cp i 2 c) ∧ h2 8 c = nI (cpR cp i 3 c)) := by
  have bm := B.1
  obtain ⟨v, e1, e2, e3⟩ := lp_iv (st := fun q => M_remove_s1 q.1 q.2) (fun k q => q.1 = nI k ∧ eqx [5, 6, 7, 8] g q.2 ∧ isM q.2 m (fun p c => if i ≤ c ∧ c < k then cp p (c + 1) else cp p c)) (fun h2 => eqx [5, 6, 7, 8] g h2 ∧ (∀ c, c < m - 1 → h2 5 c = nI (cpR cp i 0 c) ∧ h2 6 c = nI (cpR cp i 1 c) ∧ h2 7 c = nI (cpR cp i 2 c) ∧ h2 8 c = nI (cpR cp i 3 c))) i (m - 1) (by omega) (by omega) (fun k q hk1 hk ⟨q1, q2, q3⟩ => by
      obtain ⟨B1, B2, B3, _, B5⟩ := B.2 (k + 1) (by omega)
      have hcB : cB m (fun p c => if i ≤ c ∧ c < k then cp p (c + 1) else cp p c) := by
        refine ⟨bm, fun c hc => ?_⟩
        by_cases u : i ≤ c ∧ c < k
        · simp only [if_pos u]; exact B.2 (c + 1) (by omega)
        · simp only [if_neg u]; exact B.2 c hc
      have hpk := m_packed q3 hcB (show k + 1 < m by omega)
      have hpe : pk4 (fun p c => if i ≤ c ∧ c < k then cp p (c + 1) else cp p c) (k + 1) = 1000 * cp 0 (k + 1) + 100 * cp 1 (k + 1) + 10 * cp 2 (k + 1) + cp 3 (k + 1) := by
        unfold pk4
        simp only [if_neg (show ¬ (i ≤ k + 1 ∧ k + 1 < k) by omega)]
      rw [hpe] at hpk
      refine ⟨(nI (k + 1), wr (wr (wr (wr q.2 5 (nI k) (nI (cp 0 (k + 1)))) 6 (nI k) (nI (cp 1 (k + 1)))) 7 (nI k) (nI (cp 2 (k + 1)))) 8 (nI k) (nI (cp 3 (k + 1)))), ?_, rfl, eqx_tr q2 wr4_x, ?_, fun c hc => ?_⟩
      · show M_remove_s1 q.1 q.2 = _
        unfold M_remove_s1
        rw [q1, q3.1, show (1 : Int32) = nI 1 from rfl, sb_k (show 1 ≤ m by omega), if_neg (nI_ge hk (by omega)), nI_add, bd_of hpk, bd_of (m_unpack (show k < 48 by omega) B1 B2 B3 B5)]
        dsimp only [nm]
      · dsimp only; rw [wr4_x 4 (by decide)]; exact q3.1
      · dsimp only
        obtain ⟨w1, w2, w3, w4⟩ := wr4_q (h := q.2) (c := k) (l := cp 0 (k + 1)) (f := cp 1 (k + 1)) (s := cp 2 (k + 1)) (a := cp 3 (k + 1)) (by omega) c
        rw [w1, w2, w3, w4]
        by_cases u : c = k
        · rw [if_pos u, if_pos u, if_pos u, if_pos u]
          subst u
          simp only [if_pos (show i ≤ c ∧ c < c + 1 by omega)]
          exact ⟨trivial, trivial, trivial, trivial⟩
        · rw [if_neg u, if_neg u, if_neg u, if_neg u]
          have := q3.2 c hc
          by_cases u2 : i ≤ c ∧ c < k
          · simp only [if_pos u2] at this
            simp only [if_pos (show i ≤ c ∧ c < k + 1 by omega)]
            exact this
          · simp only [if_neg u2] at this
            simp only [if_neg (show ¬ (i ≤ c ∧ c < k + 1) by omega)]
            exact this) (fun q ⟨q1, q2, q3⟩ => by
      refine ⟨q.2, ?_, q2, fun c hc => ?_⟩
      · show M_remove_s1 q.1 q.2 = _
        unfold M_remove_s1
        rw [q1, q3.1, show (1 : Int32) = nI 1 from rfl, sb_k (show 1 ≤ m by omega), if_pos (nI_le (Nat.le_refl _) (by omega))]
      · have := q3.2 c (by omega)
        unfold cpR
        by_cases u : c < i
        · simp only [if_neg (show ¬ (i ≤ c ∧ c < m - 1) by omega)] at this
          simp only [if_pos u]
          exact this
        · simp only [if_pos (show i ≤ c ∧ c < m - 1 by omega)] at this
          simp only [if_neg u]
          exact this) (nI i, g) ⟨rfl, eqx_rf, M.1, fun c hc => by simp only [if_neg (show ¬ (i ≤ c ∧ c < i) by omega)]; exact M.2 c hc⟩
  exact ⟨v, e1, e2, e3⟩
theorem p_remove {G h : Nat → Nat → Int32} {P : Nat → Option PRec} (H : RR G P h) (E : Nat → Nat → Int64) (a0 : Int32) : okO P (fun r G2 P2 => C_LT_remove G P a0 = some (r, G2, P2)) (fun r h2 => M_remove h a0 = some (r, h2)) ∨ twO [(iob, 1)] P (X_LT_remove G E P a0) (fun h2 => ∃ r, M_remove h a0 = some (r, h2)) := by
  obtain ⟨n, L, w, s, K, hs, v, len, tx, B, C, M⟩ := id H
  obtain ⟨b1, b2, b3, b4, b5, b6, b7, b8, b9, b10⟩ := id B
  obtain ⟨d1, d2, d3⟩ := C.2.2.2.1
  obtain ⟨m1, m2, m3, m4, m5⟩ := M.2.2.2.1
  have bm := b6.1.1
  rcases q_idx a0 (n := s.1) (by omega) with ⟨i, hi, rfl, r1, r2, r3⟩ | ⟨r1, r2, r3⟩
  case inr =>
    refine Or.inr (tw0 (E := E) (ex := iob) (k := 1) H ?_ ⟨0, ?_⟩ (by decide))
    · unfold X_LT_remove; rw [d1.1, r2]; rfl
    · unfold M_remove; rw [bd_of (m_cmp m1.1 r3 (by decide)), bd_of (if_pos rfl)]; dsimp only [nm]; rw [t_1]
  left
  obtain ⟨G2, e1, e2, e3⟩ := k_remember B C
  have M0 := RM_x (X := [0]) M (eqx_wf (k := 0) (x := (0 : Int32)) (by decide)) (by decide)
  obtain ⟨h2, f1, f2, f3⟩ := m_keep B M0
  obtain ⟨c1, c2, c3⟩ := e3.2.2.2.1
  obtain ⟨n1, n2, n3, n4, n5⟩ := f3.2.2.2.1
  obtain ⟨G3, t1, t2, t3⟩ := k_takeOut c1 bm hi
  obtain ⟨h3, u1, u2, u3⟩ := m_remove1 n1 b6.1 hi
  have hx : eqx [4, 5, 6, 7, 8] h2 (wf h3 4 (nI (s.1 - 1))) := eqx_tr (eqx_sub u2 (by decide)) (eqx_wf (by decide))
  refine ⟨nI (s.1 - 1), _, _, wf h3 4 (nI (s.1 - 1)), ?_, ?_, ?_, ⟨n, L, w, snR s i, _, _, _, len, tx, RP_s (RP_psh B) (snB_R b6 hi), RC_s (X := [4, 5]) (G2 := G3) e3 t2 (by decide) (fun _ => rfl) ⟨t3, by rw [t2 3 (by decide)]; exact c2, c3⟩, RM_s f3 hx (by decide) ⟨⟨by rw [wf_ap, if_pos rfl]; rfl, fun c hc => ?_⟩, by rw [hx 9 (by decide)]; exact n2, by rw [hx 10 (by decide)]; exact n3, by rw [hx 11 (by decide)]; exact n4, fun x hp t ht => by rw [hx 12 (by decide)]; exact n5 x hp t ht⟩⟩, fun Z => PZ_up⟩
  · show C_LT_remove G P (nI i) = _
    unfold C_LT_remove
    rw [d1.1, bd0_of r1, bd2_of e1, bd_of t1, t3.1]
  · show M_remove h (nI i) = _
    unfold M_remove
    rw [bd_of (m_cmp m1.1 r3 (by decide)), bd_of (if_neg (by decide))]
    dsimp only [nm]
    rw [t_0, bd_of f1, bd_of u1, u2 4 (by decide), n1.1, show (1 : Int32) = nI 1 from rfl, sb_k (by omega), wf_ap, if_pos rfl]
  · rw [hx 0 (by decide), f2 0 (by decide), wf00]
  · rw [wf_ne (by decide), wf_ne (by decide), wf_ne (by decide), wf_ne (by decide)]
    exact u3 c hc
