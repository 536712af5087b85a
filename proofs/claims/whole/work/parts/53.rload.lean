/-! CALLS: load -/
def adS (s : SN) (rw : Nat → Nat → Nat) : Nat → SN
  | 0 => s
  | k + 1 => snA (adS s rw k) (rw 0 k) (rw 1 k) (rw 2 k) (rw 3 k)
theorem adS_1 (s : SN) (rw : Nat → Nat → Nat) : ∀ k, (adS s rw k).1 = s.1 + k
  | 0 => rfl
  | k + 1 => by
    show (adS s rw k).1 + 1 = _
    rw [adS_1 s rw k]
    omega
theorem adS_B {n L F : Nat} {s : SN} {rw : Nat → Nat → Nat} (B : snB n L s) (hn : n ≤ 8) (hL : L ≤ 8) (hm : s.1 + F ≤ 48) (R : ∀ i, i < F → rw 0 i < L ∧ rw 1 i < n ∧ rw 2 i < n ∧ rw 1 i ≠ rw 2 i ∧ rw 3 i < 3) : ∀ k, k ≤ F → snB n L (adS s rw k)
  | 0, _ => B
  | k + 1, hk => by
    obtain ⟨r1, r2, r3, r4, r5⟩ := R k (by omega)
    exact snB_A (adS_B B hn hL hm R k (by omega)) hn hL (by rw [adS_1]; omega) r1 r2 r3 r4 r5
theorem k_loadL {n L F : Nat} {w : Nat → Nat} {s : SN} {K : Nat} {hs : Nat → SN} {v len : Nat} {tx : Nat → Int32} {G : Nat → Nat → Int32} {P : Nat → Option PRec} {rw : Nat → Nat → Nat} (hF : F < 15) (hm : s.1 + F ≤ 48) (C : RC n L w s K hs v len tx G P) (h11 : G 11 0 = nI F) (h10 : ∀ i, i < F → G 10 i = nI (cd rw i)) : ∃ G2, lp (fun q => C_LT_load_s1 (nI F) q.1 q.2) FU ((0 : Int32), G) = some G2 ∧ RC n L w (adS s rw F) K hs v len tx G2 P := by
  obtain ⟨r, e1, e2⟩ := lp_iv (st := fun q => C_LT_load_s1 (nI F) q.1 q.2) (fun k q => q.1 = nI k ∧ eqx [4, 5] G q.2 ∧ RC n L w (adS s rw k) K hs v len tx q.2 P) (fun g => RC n L w (adS s rw F) K hs v len tx g P) 0 F (by omega) (by omega) (fun k q _ hk ⟨q1, q2, q3⟩ => by
      have hmk : (adS s rw k).1 < 48 := by rw [adS_1]; omega
      refine ⟨(nI (k + 1), wf (wr q.2 4 (nI (adS s rw k).1) (nI (cd rw k))) 5 (nI ((adS s rw k).1 + 1))), ?_, rfl, eqx_tr q2 (eqx_tr (eqx_wr (by decide)) (eqx_wf (by decide))), RC_A q3 hmk rfl⟩
      show C_LT_load_s1 (nI F) q.1 q.2 = _
      have hfa : C_TX_foundAt q.2 (nI k) = some (nI (cd rw k)) := by
        unfold C_TX_foundAt
        rw [if_neg (nI_pos (by omega)), q2 11 (by decide), h11, if_neg (nI_ge hk (by omega)), ri_k (show k < 15 by omega) (by decide), nI_clamp (by omega), q2 10 (by decide), h10 k hk]
      unfold C_LT_load_s1
      rw [q1, if_neg (nI_ge hk (by omega)), bd_of hfa, bd_of (k_put q3.2.2.2.1.1.1 hmk _)]
      dsimp only [nm]
      rw [nI_1]) (fun q ⟨q1, q2, q3⟩ => by
      refine ⟨q.2, ?_, q3⟩
      show C_LT_load_s1 (nI F) q.1 q.2 = _
      unfold C_LT_load_s1
      rw [q1, if_pos (nI_le (Nat.le_refl _) (by omega))]) ((0 : Int32), G) ⟨rfl, eqx_rf, C⟩
  exact ⟨r, e1, e2⟩
theorem m_loadL {n L F : Nat} {w : Nat → Nat} {s : SN} {K : Nat} {hs : Nat → SN} {len : Nat} {tx : Nat → Int32} {h : Nat → Nat → Int32} {rw : Nat → Nat → Nat} (hn : n ≤ 8) (hL : L ≤ 8) (hF : F < 15) (hm : s.1 + F ≤ 48) (R : ∀ i, i < F → rw 0 i < L ∧ rw 1 i < n ∧ rw 2 i < n ∧ rw 1 i ≠ rw 2 i ∧ rw 3 i < 3) (M : RM n L w s K hs len tx h) (h24 : h 24 0 = nI F) (h25 : ∀ i, i < F → h 25 i = nI (pk4 rw i)) : ∃ h2, lp (fun q => M_load_s1 q.1 q.2) FU ((0 : Int32), h) = some h2 ∧ eqx [4, 5, 6, 7, 8] h h2 ∧ RM n L w (adS s rw F) K hs len tx h2 := by
  obtain ⟨r, e1, e2⟩ := lp_iv (st := fun q => M_load_s1 q.1 q.2) (fun k q => q.1 = nI k ∧ eqx [4, 5, 6, 7, 8] h q.2 ∧ RM n L w (adS s rw k) K hs len tx q.2) (fun g => eqx [4, 5, 6, 7, 8] h g ∧ RM n L w (adS s rw F) K hs len tx g) 0 F (by omega) (by omega) (fun k q _ hk ⟨q1, q2, q3⟩ => by
      have hmk : (adS s rw k).1 < 48 := by rw [adS_1]; omega
      obtain ⟨r1, r2, r3, r4, r5⟩ := R k hk
      have q4 : q.2 4 0 = nI (adS s rw k).1 := q3.2.2.2.1.1.1
      refine ⟨(nI (k + 1), wf (wr (wr (wr (wr q.2 5 (nI (adS s rw k).1) (nI (rw 0 k))) 6 (nI (adS s rw k).1) (nI (rw 1 k))) 7 (nI (adS s rw k).1) (nI (rw 2 k))) 8 (nI (adS s rw k).1) (nI (rw 3 k))) 4 (nI ((adS s rw k).1 + 1))), ?_, rfl, eqx_tr q2 (eqx_tr (eqx_sub wr4_x (by decide)) (eqx_wf (by decide))), RM_A q3 hmk _ _ _ _⟩
      show M_load_s1 q.1 q.2 = _
      unfold M_load_s1
      rw [q1, q2 24 (by decide), h24, if_neg (nI_ge hk (by omega)), ri_k (show k < 20 by omega) (by decide), nI_clamp (by omega), q2 25 (by decide), h25 k hk, q4]
      unfold pk4
      rw [bd_of (m_unpack hmk (by omega) (by omega) (by omega) r5)]
      dsimp only [nm]
      rw [wr4_x 4 (by decide), q4, nI_1, nI_1]) (fun q ⟨q1, q2, q3⟩ => by
      refine ⟨q.2, ?_, q2, q3⟩
      show M_load_s1 q.1 q.2 = _
      unfold M_load_s1
      rw [q1, q2 24 (by decide), h24, if_pos (nI_le (Nat.le_refl _) (by omega))]) ((0 : Int32), h) ⟨rfl, eqx_rf, M⟩
  exact ⟨r, e1, e2⟩
theorem p_load {G h : Nat → Nat → Int32} {P : Nat → Option PRec} (H : RR G P h) (E : Nat → Nat → Int64) : okO P (fun r G2 P2 => C_LT_load G P = some (r, G2, P2)) (fun r h2 => M_load h = some (r, h2)) ∨ twO [(iae, 1), (ise, 2)] P (X_LT_load G E P) (fun h2 => ∃ r, M_load h = some (r, h2)) := by
  obtain ⟨n, L, w, s, K, hs, v, len, tx, B, C, M⟩ := id H
  obtain ⟨b1, b2, b3, b4, b5, b6, b7, b8, b9, b10⟩ := id B
  have bm := b6.1.1
  obtain ⟨e, G2, h2, f1, f2, f3, f4, f5⟩ := tx_scan B C M
  have C2 := RC_x C f3 (by decide)
  have M2 := RM_x M f4 (by decide)
  have g9 : G2 9 0 = nI len := C2.2.2.2.2.2.2.2.1
  have h20 : h2 20 0 = nI len := M2.2.2.2.2.2.2.1
  have hR : RR G2 P h2 := ⟨n, L, w, s, K, hs, v, len, tx, B, C2, M2⟩
  -- a text that is not whole
  have no : C_TX_isWhole G (G 0 0) (G 1 0) = some (0, G2) → (if nI e = h2 20 0 then (if h2 23 0 = (5 : Int32) then (some (1 : Int32)) else (some (0 : Int32))) else (some (0 : Int32))) = some 0 → twO [(iae, 1), (ise, 2)] P (X_LT_load G E P) (fun h2 => ∃ r, M_load h = some (r, h2)) := by
    intro e1 e2
    refine tw0 (E := E) (ex := iae) (k := 1) hR ?_ ⟨0, ?_⟩ (by decide)
    · unfold X_LT_load
      rw [bd2_of e1]
      rfl
    · unfold M_load
      rw [bd2_of f2, bd_of e2, bd_of (if_pos rfl)]
      dsimp only [nm]
      rw [t_1]
  rcases f5 with ⟨rfl, st, F, l, f, a, rw', i1, i2, i3, i4, i5, i6, i7, i8, i9, i10, i11⟩ | he
  case inr =>
    have hne : ¬ nI e = nI len := fun u => by have := (nE (by omega) (by omega)).mp u; omega
    refine Or.inr (no ?_ ?_)
    · unfold C_TX_isWhole
      rw [bd2_of f1, g9, if_neg hne]
    · rw [h20, if_neg hne]
  by_cases h5 : st = 5
  case neg =>
    have hne : ¬ nI st = (5 : Int32) := fun u => h5 ((nE (by omega) (show 5 < 1000 by decide)).mp u)
    refine Or.inr (no ?_ ?_)
    · unfold C_TX_isWhole
      rw [bd2_of f1, g9, if_pos rfl, i4, if_neg hne]
    · rw [h20, if_pos rfl, i5, if_neg hne]
  subst h5
  have hF := i3 rfl
  have w1 : C_TX_isWhole G (G 0 0) (G 1 0) = some (1, G2) := by
    unfold C_TX_isWhole
    rw [bd2_of f1, g9, if_pos rfl, i4, if_pos (show nI 5 = (5 : Int32) from rfl)]
  have w2 : (if nI e = h2 20 0 then (if h2 23 0 = (5 : Int32) then (some (1 : Int32)) else (some (0 : Int32))) else (some (0 : Int32))) = some 1 := by
    rw [h20, if_pos rfl, i5, if_pos (show nI 5 = (5 : Int32) from rfl)]
  have c5 : G2 5 0 = nI s.1 := C2.2.2.2.1.1.1
  have c4 : h2 4 0 = nI s.1 := M2.2.2.2.1.1.1
  by_cases hm : s.1 + F ≤ 48
  case neg =>
    refine Or.inr (tw0 (E := E) (ex := ise) (k := 2) hR ?_ ⟨0, ?_⟩ (by decide))
    · unfold X_LT_load
      rw [bd2_of w1]
      dsimp only [nm]
      rw [i6, rm_no c5 (by omega) (by omega)]
      rfl
    · unfold M_load
      rw [bd2_of f2, bd_of w2, if_neg (by decide), c4, i7, nI_add, bd_of (if_neg (show ¬ nI (s.1 + F) ≤ (48 : Int32) from nI_ge (a := 48) (by omega) (by omega)))]
      dsimp only [nm]
      rw [t_2]
  left
  obtain ⟨G3, u1, u2, u3⟩ := k_remember B C2
  have M3 := RM_x (X := [0]) M2 (eqx_wf (k := 0) (x := (0 : Int32)) (by decide)) (by decide)
  obtain ⟨h3, v1, v2, v3⟩ := m_keep B M3
  have hR2 : ∀ i, i < F → rw' 0 i < L ∧ rw' 1 i < n ∧ rw' 2 i < n ∧ rw' 1 i ≠ rw' 2 i ∧ rw' 3 i < 3 := fun i hi => (i11 i hi).1
  have nu : (v + 1) % 12 < 12 := Nat.mod_lt _ (by decide)
  have x10 : G3 10 = G2 10 := u2 10 (by simp; omega)
  have x11 : G3 11 = G2 11 := u2 11 (by simp; omega)
  obtain ⟨G4, y1, y2⟩ := k_loadL (rw := rw') (show F < 15 by omega) hm u3 (by rw [x11]; exact i6) (fun i hi => by rw [x10]; exact (i11 i hi).2.1)
  obtain ⟨h4, z1, z2, z3⟩ := m_loadL (rw := rw') b2 b4 (show F < 15 by omega) hm hR2 v3 (by rw [v2 24 (by decide), wf_ne (by decide)]; exact i7) (fun i hi => by rw [v2 25 (by decide), wf_ne (by decide)]; exact (i11 i hi).2.2)
  have hB := RP_s (RP_psh B) (adS_B b6 b2 b4 hm hR2 F (Nat.le_refl _))
  refine ⟨nI F, wf G4 9 0, va_up P (1 + (v + 1) % 12) (P 0), wf h4 20 0, ?_, ?_, ?_, RR_clear hB y2 z3, fun Z => PZ_up⟩
  · show C_LT_load G P = _
    unfold C_LT_load
    rw [bd2_of w1, bd0_of ra1]
    dsimp only [nm]
    rw [i6, bd0_of (rm_ok c5 hm), bd2_of u1, bd_of y1]
  · show M_load h = _
    unfold M_load
    rw [bd2_of f2, bd_of w2, if_neg (by decide), c4, i7, nI_add, bd_of (if_pos (show nI (s.1 + F) ≤ (48 : Int32) from nI_le (b := 48) hm (by decide)))]
    dsimp only [nm]
    rw [t_0, bd_of v1, bd_of z1, wf_ne (show (24 : Nat) ≠ 20 by decide), z2 24 (by decide), v2 24 (by decide), wf_ne (show (24 : Nat) ≠ 0 by decide), i7]
  · rw [wf_ne (by decide), z2 0 (by decide), v2 0 (by decide), wf00]
