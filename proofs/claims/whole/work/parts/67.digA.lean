/-! DIGEST: the call -/
theorem p_digest (hq : DZ) {G h : Nat → Nat → Int32} {P : Nat → Option PRec} (H : RR G P h) (E Em : Nat → Nat → Int64) (D Dm : Nat → Nat → UInt64) : okO P (fun r G2 P2 => (∃ E2 D2, C_LT_digest G E D P = some (r, G2, E2, D2)) ∧ P2 = P) (fun r h2 => ∃ E2 D2, M_digest h Em Dm = some (r, h2, E2, D2)) := by
  obtain ⟨n, L, w, s, K, hs, v, len, tx, B, C, M⟩ := id H
  obtain ⟨b1, b2, b3, b4, b5, b6, b7, b8, b9, b10⟩ := id B
  have M0 := RM_x (X := [0]) M (eqx_wf (k := 0) (x := (0 : Int32)) (by decide)) (by decide)
  -- the reference
  obtain ⟨E1, i1, i2, i3⟩ := m_hC B M0 (wf Em 39 (1889 : Int64))
  obtain ⟨E2, j1, j2, j3⟩ := m_hL B M0 E1
  obtain ⟨E3, k1, k2, k3⟩ := m_hQ b6.1 M0.2.2.2.1.1 E2
  obtain ⟨E4, l1, l2, l3⟩ := m_hT b6 b2 M0.2.2.2.1 E3
  obtain ⟨h5, E5, D5, m1, m2, m3, m4⟩ := m_hA hq b6.1 M0.2.2.2.1.1 (wZ_n M0.2.2.1) (wZ_le b5 (-1 : Int32)) M0.1 b2 (by omega) E4 Dm
  have M5 := RM_x M0 m2 (by decide)
  obtain ⟨h6, E6, n1, n2, n3, n4, n5, n6⟩ := m_provedMany (E := M_mix E5 (chv (cnA s.1 s.2.1 1) (cnA s.1 s.2.1 2))) b6.1 M5.2.2.2.1.1 M5.1 b2 (50 : Int32)
  have M6 := RM_x M5 n2 (by decide)
  obtain ⟨E7, o1, o2, o3⟩ := m_hX b10 M6.2.2.2.2.2.2.1 M6.2.2.2.2.2.2.2 (M_mix (M_mix E6 (nI (pvC s.1 s.2.1 n (50 : Int32))).toInt64) (nI len).toInt64)
  -- the class
  obtain ⟨G1, p1, p2⟩ := k_hL B C (hC n L s K (1889 : Int64))
  have C1 := RC_x C p2 (by decide)
  obtain ⟨G2, D2, r1, X2, r2, r3⟩ := k_hashRanks b6.1 C1.2.2.2.1.1 b5 C1.2.2.1 b2 (by omega) C1.1 D (hT s.2.2.1 (hQ s.1 s.2.1 (hL w s.1 s.2.1 n L (hC n L s K (1889 : Int64)))))
  have C2 := RC_x C1 r2 r3
  obtain ⟨G3, s1, X3, s2, s3⟩ := k_hashPairs b6.1 C2.2.2.2.1.1 C2.2.2.1 b2 C2.1 (hU n (wZ w (-1 : Int32)) s.1 s.2.1 (hR n (wZ w (-1 : Int32)) s.1 s.2.1 (hT s.2.2.1 (hQ s.1 s.2.1 (hL w s.1 s.2.1 n L (hC n L s K (1889 : Int64)))))))
  have C3 := RC_x C2 s2 s3
  obtain ⟨G4, E8, u1, u2, u3, u4, u5, u6⟩ := k_provedAt (E := E) b6.1 C3.2.2.2.1.1 C3.1 b2 (50 : Int32)
  have C4 := RC_x C3 u2 (by decide)
  have x1 := k_hX b10 C4.2.2.2.2.2.2.2.1 C4.2.2.2.2.2.2.2.2 (mx (mx (mx (hPp (wZ w (-1 : Int32)) s.1 s.2.1 n (hU n (wZ w (-1 : Int32)) s.1 s.2.1 (hR n (wZ w (-1 : Int32)) s.1 s.2.1 (hT s.2.2.1 (hQ s.1 s.2.1 (hL w s.1 s.2.1 n L (hC n L s K (1889 : Int64)))))))) (chv (cnA s.1 s.2.1 1) (cnA s.1 s.2.1 2))) (nI (pvC s.1 s.2.1 n (50 : Int32))).toInt64) (nI len).toInt64)
  have hv : E7 39 0 = hX tx len (mx (mx (mx (hPp (wZ w (-1 : Int32)) s.1 s.2.1 n (hU n (wZ w (-1 : Int32)) s.1 s.2.1 (hR n (wZ w (-1 : Int32)) s.1 s.2.1 (hT s.2.2.1 (hQ s.1 s.2.1 (hL w s.1 s.2.1 n L (hC n L s K (1889 : Int64)))))))) (chv (cnA s.1 s.2.1 1) (cnA s.1 s.2.1 2))) (nI (pvC s.1 s.2.1 n (50 : Int32))).toInt64) (nI len).toInt64) := by
    rw [o3, (mx_M _ _).2, (mx_M _ _).2, n3 39 (by decide), (mx_M _ _).2, m4, l3, k3, j3, i3, show wf Em 39 (1889 : Int64) 39 0 = 1889 by rw [wf_ap, if_pos rfl]]
  refine ⟨E7 39 0, G4, P, h6, ⟨⟨E8, D2, ?_⟩, rfl⟩, ⟨E7, D5, ?_⟩, by rw [n2 0 (by decide), m2 0 (by decide), wf00], ⟨n, L, w, s, K, hs, v, len, tx, B, C4, M6⟩, fun _ h => h⟩
  · have a1 : C_LT_hashAnswers G P (1889 : Int64) = some (hQ s.1 s.2.1 (hL w s.1 s.2.1 n L (hC n L s K (1889 : Int64))), G1) := by
      unfold C_LT_hashAnswers
      rw [bd_of (k_hC B C _), bd2_of p1, bd_of (k_hQ b6.1 C1.2.2.2.1.1 _)]
    rw [hv]
    unfold C_LT_digest
    rw [bd2_of a1, bd_of (k_hT b6 b2 C1.2.2.2.1.2.2 _), bd3_of r1, bd2_of s1, bd_of (k_place B C3)]
    dsimp only [nm]
    rw [bd3_of u1, C4.2.2.2.2.2.2.2.1]
    exact bd_of x1
  · unfold M_digest
    dsimp only [nm]
    rw [bd_of i1, bd_of j1, bd_of k1, bd_of l1, bd3_of m1, bd_of (m_place B M5), bd3_of n1, M6.2.2.2.2.2.2.1, bd_of o1]
