/-! CALLS: a comparison is added: compare, answer -/
def snA (s : SN) (l f g a : Nat) : SN := (s.1 + 1, cpU s.2.1 s.1 l f g a, s.2.2.1, s.2.2.2)
theorem cpU_eq (cp : Nat → Nat → Nat) (c l f s a : Nat) : cpU cp c l f s a 0 c = l ∧ cpU cp c l f s a 1 c = f ∧ cpU cp c l f s a 2 c = s ∧ cpU cp c l f s a 3 c = a := by
  unfold cpU
  simp
theorem cpU_ne (cp : Nat → Nat → Nat) {c t : Nat} (l f s a : Nat) (h : t ≠ c) (p : Nat) : cpU cp c l f s a p t = cp p t := by
  unfold cpU
  rw [if_neg h]
theorem cpU_cd (cp : Nat → Nat → Nat) {c t : Nat} (l f s a : Nat) : cd (cpU cp c l f s a) t = if t = c then 256 * l + 32 * f + 4 * s + a else cd cp t := by
  by_cases h : t = c
  · rw [if_pos h, h]
    obtain ⟨e1, e2, e3, e4⟩ := cpU_eq cp c l f s a
    unfold cd
    rw [e1, e2, e3, e4]
  · rw [if_neg h]
    unfold cd
    rw [cpU_ne cp l f s a h, cpU_ne cp l f s a h, cpU_ne cp l f s a h, cpU_ne cp l f s a h]
theorem snB_A {n L : Nat} {s : SN} (B : snB n L s) (hn : n ≤ 8) (hL : L ≤ 8) (hm : s.1 < 48) {l f g a : Nat} (hl : l < L) (hf : f < n) (hg : g < n) (hne : f ≠ g) (ha : a < 3) : snB n L (snA s l f g a) := by
  obtain ⟨⟨b1, b2⟩, b3, b4, b5⟩ := B
  refine ⟨⟨show s.1 + 1 ≤ 48 by omega, fun c hc => ?_⟩, fun c hc => ?_, b4, b5⟩
  · have hc' : c < s.1 + 1 := hc
    show cpU s.2.1 s.1 l f g a 0 c < 8 ∧ cpU s.2.1 s.1 l f g a 1 c < 8 ∧ cpU s.2.1 s.1 l f g a 2 c < 8 ∧ cpU s.2.1 s.1 l f g a 1 c ≠ cpU s.2.1 s.1 l f g a 2 c ∧ cpU s.2.1 s.1 l f g a 3 c < 3
    by_cases h : c = s.1
    · rw [h]
      obtain ⟨e1, e2, e3, e4⟩ := cpU_eq s.2.1 s.1 l f g a
      rw [e1, e2, e3, e4]
      exact ⟨by omega, by omega, by omega, hne, ha⟩
    · rw [cpU_ne _ _ _ _ _ h, cpU_ne _ _ _ _ _ h, cpU_ne _ _ _ _ _ h, cpU_ne _ _ _ _ _ h]
      exact b2 c (by omega)
  · have hc' : c < s.1 + 1 := hc
    show cpU s.2.1 s.1 l f g a 0 c < L ∧ cpU s.2.1 s.1 l f g a 1 c < n ∧ cpU s.2.1 s.1 l f g a 2 c < n
    by_cases h : c = s.1
    · rw [h]
      obtain ⟨e1, e2, e3, e4⟩ := cpU_eq s.2.1 s.1 l f g a
      rw [e1, e2, e3]
      exact ⟨hl, hf, hg⟩
    · rw [cpU_ne _ _ _ _ _ h, cpU_ne _ _ _ _ _ h, cpU_ne _ _ _ _ _ h]
      exact b3 c (by omega)
theorem k_put {G : Nat → Nat → Int32} {m : Nat} (h5 : G 5 0 = nI m) (hm : m < 48) (x : Int32) : C_CO_put G x = some (wf (wr G 4 (nI m) x) 5 (nI (m + 1))) := by
  have q : C_CO_isFull G = some 0 := by unfold C_CO_isFull; rw [h5, show (48 : Int32) = nI 48 from rfl, if_pos (nI_lt hm (by decide))]
  unfold C_CO_put
  rw [bd_of q, if_pos rfl, h5, ri_k hm (by decide)]
  dsimp only [nm]
  rw [wr_ne (show (5 : Nat) ≠ 4 by decide), h5, nI_1]
theorem RC_A {n L : Nat} {w : Nat → Nat} {s : SN} {K : Nat} {hs : Nat → SN} {v len : Nat} {tx : Nat → Int32} {G : Nat → Nat → Int32} {P : Nat → Option PRec} (C : RC n L w s K hs v len tx G P) (hm : s.1 < 48) {l f g a x : Nat} (hx : x = 256 * l + 32 * f + 4 * g + a) : RC n L w (snA s l f g a) K hs v len tx (wf (wr G 4 (nI s.1) (nI x)) 5 (nI (s.1 + 1))) P := by
  refine RC_s (X := [4, 5]) C (eqx_tr (eqx_wr (by decide)) (eqx_wf (by decide))) (by decide) (fun _ => rfl) ?_
  obtain ⟨⟨d1, d2⟩, d3, d4⟩ := C.2.2.2.1
  refine ⟨⟨by rw [wf_ap, if_pos rfl]; rfl, fun c hc => ?_⟩, by rw [wf_ne (by decide), wr_ne (by decide)]; exact d3, d4⟩
  have hc' : c < s.1 + 1 := hc
  show _ = nI (cd (cpU s.2.1 s.1 l f g a) c)
  rw [wf_ne (by decide), wr_ap, if_pos rfl, nI_clamp (by omega), cpU_cd]
  by_cases h : c = s.1
  · rw [if_pos h, if_pos h, hx]
  · rw [if_neg h, if_neg h]; exact d2 c (by omega)
theorem m_add {h : Nat → Nat → Int32} {m : Nat} (h4 : h 4 0 = nI m) (hm : m < 48) (l f g a : Nat) : M_add h (nI l) (nI f) (nI g) (nI a) = some (wf (wr (wr (wr (wr h 5 (nI m) (nI l)) 6 (nI m) (nI f)) 7 (nI m) (nI g)) 8 (nI m) (nI a)) 4 (nI (m + 1))) := by
  unfold M_add
  dsimp only [nm]
  simp only [wr_ne (show (4 : Nat) ≠ 5 by decide), wr_ne (show (4 : Nat) ≠ 6 by decide), wr_ne (show (4 : Nat) ≠ 7 by decide), wr_ne (show (4 : Nat) ≠ 8 by decide), h4, ri_k hm (show 48 < 2 ^ 31 by decide), nI_1]
theorem RM_A {n L : Nat} {w : Nat → Nat} {s : SN} {K : Nat} {hs : Nat → SN} {len : Nat} {tx : Nat → Int32} {h : Nat → Nat → Int32} (M : RM n L w s K hs len tx h) (hm : s.1 < 48) (l f g a : Nat) : RM n L w (snA s l f g a) K hs len tx (wf (wr (wr (wr (wr h 5 (nI s.1) (nI l)) 6 (nI s.1) (nI f)) 7 (nI s.1) (nI g)) 8 (nI s.1) (nI a)) 4 (nI (s.1 + 1))) := by
  have hx := wr4_x (h := h) (c := s.1) (l := l) (f := f) (s := g) (a := a)
  refine RM_s (X := [4, 5, 6, 7, 8]) M (eqx_tr (eqx_sub hx (by decide)) (eqx_wf (by decide))) (by decide) ?_
  obtain ⟨⟨m0, m1⟩, m2, m3, m4, m5⟩ := M.2.2.2.1
  refine ⟨⟨by rw [wf_ap, if_pos rfl]; rfl, fun c hc => ?_⟩, by rw [wf_ne (by decide), hx 9 (by decide)]; exact m2, by rw [wf_ne (by decide), hx 10 (by decide)]; exact m3, by rw [wf_ne (by decide), hx 11 (by decide)]; exact m4, fun x hp t ht => by rw [wf_ne (by decide), hx 12 (by decide)]; exact m5 x hp t ht⟩
  have hc' : c < s.1 + 1 := hc
  obtain ⟨w1, w2, w3, w4⟩ := wr4_q (h := h) (c := s.1) (l := l) (f := f) (s := g) (a := a) hm c
  rw [wf_ne (by decide), wf_ne (by decide), wf_ne (by decide), wf_ne (by decide), w1, w2, w3, w4]
  show _ = nI (cpU s.2.1 s.1 l f g a 0 c) ∧ _ = nI (cpU s.2.1 s.1 l f g a 1 c) ∧ _ = nI (cpU s.2.1 s.1 l f g a 2 c) ∧ _ = nI (cpU s.2.1 s.1 l f g a 3 c)
  by_cases h : c = s.1
  · rw [h]
    obtain ⟨e1, e2, e3, e4⟩ := cpU_eq s.2.1 s.1 l f g a
    rw [e1, e2, e3, e4, if_pos rfl, if_pos rfl, if_pos rfl, if_pos rfl]
    exact ⟨rfl, rfl, rfl, rfl⟩
  · rw [cpU_ne _ _ _ _ _ h, cpU_ne _ _ _ _ _ h, cpU_ne _ _ _ _ _ h, cpU_ne _ _ _ _ _ h, if_neg h, if_neg h, if_neg h, if_neg h]
    exact m1 c (by omega)
theorem RP_s {n L : Nat} {w : Nat → Nat} {s s2 : SN} {K : Nat} {hs : Nat → SN} {v len : Nat} (B : RP n L w s K hs v len) (h : snB n L s2) : RP n L w s2 K hs v len := by
  obtain ⟨b1, b2, b3, b4, b5, b6, b7, b8, b9, b10⟩ := B
  exact ⟨b1, b2, b3, b4, b5, h, b7, b8, b9, b10⟩
theorem rm_ok {G : Nat → Nat → Int32} {m x : Nat} (h5 : G 5 0 = nI m) (h : m + x ≤ 48) : C_LT_requireRoom G (nI x) = some () := by
  unfold C_LT_requireRoom; rw [h5, nI_add, show (48 : Int32) = nI 48 from rfl, if_pos (nI_le h (by decide))]
theorem rm_no {G : Nat → Nat → Int32} {E : Nat → Nat → Int64} {m x : Nat} (h5 : G 5 0 = nI m) (h : 48 < m + x) (hx : m + x < 1000) : X_LT_requireRoom G E (nI x) = some (ise, G, E) := by
  unfold X_LT_requireRoom; rw [h5, nI_add, show (48 : Int32) = nI 48 from rfl, if_neg (nI_ge h (by omega))]; rfl
theorem q_ans (a : Int32) : (∃ j, j < 3 ∧ a = nI j ∧ C_LT_requireAnswer a = some () ∧ (∀ G E, X_LT_requireAnswer G E a = none) ∧ M_within a (0 : Int32) (2 : Int32) = some 1) ∨ (C_LT_requireAnswer a = none ∧ (∀ G E, X_LT_requireAnswer G E a = some (iae, G, E)) ∧ M_within a (0 : Int32) (2 : Int32) = some 0) := by
  unfold C_LT_requireAnswer X_LT_requireAnswer M_within
  by_cases c1 : a < 0
  · refine Or.inr ⟨?_, fun G E => ?_, ?_⟩
    · rw [if_pos c1]; rfl
    · rw [if_pos c1]; rfl
    · rw [if_pos c1]
  by_cases c2 : (2 : Int32) < a
  · refine Or.inr ⟨?_, fun G E => ?_, ?_⟩
    · rw [if_neg c1, if_pos c2]; rfl
    · rw [if_neg c1, if_pos c2]; rfl
    · rw [if_neg c1, if_pos c2]
  obtain ⟨j, i1, i2, rfl⟩ := q_rng (lo := 0) (hi := 2) (by decide) (by decide) c1 c2
  refine Or.inl ⟨j, by omega, rfl, ?_, fun G E => ?_, ?_⟩
  · rw [if_neg c1, if_neg c2]; rfl
  · rw [if_neg c1, if_neg c2]; rfl
  · rw [if_neg c1, if_neg c2]
theorem p_compare {G h : Nat → Nat → Int32} {P : Nat → Option PRec} (H : RR G P h) (E : Nat → Nat → Int64) (a0 a1 a2 a3 : Int32) : okO P (fun r G2 P2 => C_LT_compare G P a0 a1 a2 a3 = some (r, G2, P2)) (fun r h2 => M_compare h a0 a1 a2 a3 = some (r, h2)) ∨ twO [(iob, 1), (iae, 2), (ise, 3)] P (X_LT_compare G E P a0 a1 a2 a3) (fun h2 => ∃ r, M_compare h a0 a1 a2 a3 = some (r, h2)) := by
  obtain ⟨n, L, w, s, K, hs, v, len, tx, B, C, M⟩ := id H
  obtain ⟨b1, b2, b3, b4, b5, b6, b7, b8, b9, b10⟩ := id B
  obtain ⟨d1, d2, d3⟩ := C.2.2.2.1
  obtain ⟨m1, m2, m3, m4, m5⟩ := M.2.2.2.1
  have bm := b6.1.1
  rcases q_idx a0 (n := L) (by omega) with ⟨l, hl, rfl, r1, r2, r3⟩ | ⟨r1, r2, r3⟩
  case inr =>
    refine Or.inr (tw0 (E := E) (ex := iob) (k := 1) H ?_ ⟨0, ?_⟩ (by decide))
    · unfold X_LT_compare; rw [C.2.1, r2]; rfl
    · unfold M_compare; rw [bd_of (m_lis M.2.1 r3 (by decide)), bd_of (if_pos rfl)]; dsimp only [nm]; rw [t_1]
  rcases q_idx a1 (n := n) (by omega) with ⟨f, hf, rfl, s1, s2, s3⟩ | ⟨s1, s2, s3⟩
  case inr =>
    refine Or.inr (tw0 (E := E) (ex := iob) (k := 1) H ?_ ⟨0, ?_⟩ (by decide))
    · unfold X_LT_compare; rw [C.2.1, C.1, r2, r1, s2]; rfl
    · unfold M_compare; rw [bd_of (m_lis M.2.1 r3 (by decide)), if_neg (by decide), bd_of (m_sam M.1 s3 (by decide)), bd_of (if_pos rfl)]; dsimp only [nm]; rw [t_1]
  rcases q_idx a2 (n := n) (by omega) with ⟨g, hg, rfl, u1, u2, u3⟩ | ⟨u1, u2, u3⟩
  case inr =>
    refine Or.inr (tw0 (E := E) (ex := iob) (k := 1) H ?_ ⟨0, ?_⟩ (by decide))
    · unfold X_LT_compare; rw [C.2.1, C.1, r2, r1, s2, s1, u2]; rfl
    · unfold M_compare; rw [bd_of (m_lis M.2.1 r3 (by decide)), if_neg (by decide), bd_of (m_sam M.1 s3 (by decide)), if_neg (by decide), bd_of (m_sam M.1 u3 (by decide)), bd_of (if_pos rfl)]; dsimp only [nm]; rw [t_1]
  by_cases hne : f = g
  · subst hne
    refine Or.inr (tw0 (E := E) (ex := iae) (k := 2) H ?_ ⟨0, ?_⟩ (by decide))
    · unfold X_LT_compare; rw [C.2.1, C.1, r2, r1, s2, s1, if_pos rfl]; rfl
    · unfold M_compare; rw [bd_of (m_lis M.2.1 r3 (by decide)), if_neg (by decide), bd_of (m_sam M.1 s3 (by decide)), if_neg (by decide), bd_of (m_sam M.1 u3 (by decide)), if_neg (by decide), bd_of (if_pos rfl)]; dsimp only [nm]; rw [t_2]
  have hnI : ¬ nI f = nI g := fun u => hne ((nE (by omega) (by omega)).mp u)
  rcases q_ans a3 with ⟨a, ha, rfl, v1, v2, v3⟩ | ⟨v1, v2, v3⟩
  case inr =>
    refine Or.inr (tw0 (E := E) (ex := iae) (k := 2) H ?_ ⟨0, ?_⟩ (by decide))
    · unfold X_LT_compare; rw [C.2.1, C.1, r2, r1, s2, s1, u2, u1, if_neg hnI, v2]; rfl
    · unfold M_compare; rw [bd_of (m_lis M.2.1 r3 (by decide)), if_neg (by decide), bd_of (m_sam M.1 s3 (by decide)), if_neg (by decide), bd_of (m_sam M.1 u3 (by decide)), if_neg (by decide), if_neg hnI, bd_of v3, bd_of (if_pos rfl)]; dsimp only [nm]; rw [t_2]
  by_cases hm : s.1 = 48
  · refine Or.inr (tw0 (E := E) (ex := ise) (k := 3) H ?_ ⟨0, ?_⟩ (by decide))
    · unfold X_LT_compare; rw [C.2.1, C.1, r2, r1, s2, s1, u2, u1, if_neg hnI, v2, v1, show (1 : Int32) = nI 1 from rfl, rm_no d1.1 (by omega) (by omega)]; rfl
    · unfold M_compare; rw [bd_of (m_lis M.2.1 r3 (by decide)), if_neg (by decide), bd_of (m_sam M.1 s3 (by decide)), if_neg (by decide), bd_of (m_sam M.1 u3 (by decide)), if_neg (by decide), if_neg hnI, bd_of v3, if_neg (by decide), bd_of (if_pos (by rw [m1.1, hm]; rfl))]; dsimp only [nm]; rw [t_3]
  · left
    have hm' : s.1 < 48 := by omega
    obtain ⟨G2, e1, e2, e3⟩ := k_remember B C
    have M0 := RM_x (X := [0]) M (eqx_wf (k := 0) (x := (0 : Int32)) (by decide)) (by decide)
    obtain ⟨h2, f1, f2, f3⟩ := m_keep B M0
    have hpk := k_pk l (by omega) f (by omega) g (by omega) a ha
    have c5 : G2 5 0 = nI s.1 := e3.2.2.2.1.1.1
    have c4 : h2 4 0 = nI s.1 := f3.2.2.2.1.1.1
    refine ⟨nI s.1, _, _, _, ?_, ?_, ?_, ⟨n, L, w, snA s l f g a, _, _, _, len, tx, RP_s (RP_psh B) (snB_A b6 b2 b4 hm' hl hf hg hne ha), RC_A e3 hm' rfl, RM_A f3 hm' l f g a⟩, fun Z => PZ_up⟩
    · show C_LT_compare G P (nI l) (nI f) (nI g) (nI a) = _
      unfold C_LT_compare
      rw [C.2.1, C.1, bd0_of r1, bd0_of s1, bd0_of u1, if_neg hnI, bd_of rfl, bd0_of ra1, bd0_of v1, bd0_of (show C_LT_requireRoom G (1 : Int32) = some () from rm_ok (x := 1) d1.1 (by omega)), bd2_of e1]
      dsimp only [nm]
      rw [hpk, bd_of (k_put c5 hm' _), wf_ap, if_pos rfl, nI_pred]
    · show M_compare h (nI l) (nI f) (nI g) (nI a) = _
      unfold M_compare
      rw [bd_of (m_lis M.2.1 r3 (by decide)), if_neg (by decide), bd_of (m_sam M.1 s3 (by decide)), if_neg (by decide), bd_of (m_sam M.1 u3 (by decide)), if_neg (by decide), if_neg hnI, bd_of v3, if_neg (by decide), if_neg (show ¬ h 4 0 = (48 : Int32) by rw [m1.1]; exact fun u => hm ((nE (by omega) (show 48 < 1000 by decide)).mp u)), bd_of rfl]
      dsimp only [nm]
      rw [t_0, bd_of f1, bd_of (m_add c4 hm' l f g a), wf_ap, if_pos rfl, nI_pred]
    · rw [wf_ne (by decide), wr4_x 0 (by decide), f2 0 (by decide), wf00]
