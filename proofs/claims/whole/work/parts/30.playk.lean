/-! TOP SETS AND LAYERS OF THE CLASS; layers of both -/
/-- the masks of who beats a sample -/
def isB (g : Nat → Nat → Int32) (A : Nat → Nat → Bool) (n : Nat) : Prop := ∀ j, j < n → ∃ b, g 25 j = nI b ∧ b < 2 ^ n ∧ ∀ i, i < n → b.testBit i = A i j
theorem k_findBeaters {G : Nat → Nat → Int32} {A : Nat → Nat → Bool} {n : Nat} (h21 : G 21 0 = nI n) (hn : n ≤ 8) (hB : ∀ g : Nat → Nat → Int32, g 20 = G 20 → ∀ i j, i < 8 → j < 8 → C_LE_isAhead_22 g (nI i) (nI j) = some (b2i (A i j))) : ∃ G2, C_SD_findBeaters G = some G2 ∧ eqx [25] G G2 ∧ isB G2 A n := by
  have hpos : 0 < 2 ^ n := Nat.two_pow_pos n
  have inner : ∀ j g, j < n → eqx [25] G g → g 25 j = nI 0 → ∃ r, lp (fun q => C_SD_findBeaters_s2 (nI j) q.1 q.2) FU ((0 : Int32), g) = some r ∧ (eqx [25] G r ∧ (∀ t, t ≠ j → r 25 t = g 25 t) ∧ ∃ b, r 25 j = nI b ∧ b < 2 ^ n ∧ ∀ i, i < n → b.testBit i = A i j) := by
    intro j g hj hg h0
    refine lp_iv (st := fun q => C_SD_findBeaters_s2 (nI j) q.1 q.2) (fun i q => q.1 = nI i ∧ eqx [25] G q.2 ∧ (∀ t, t ≠ j → q.2 25 t = g 25 t) ∧ ∃ b, q.2 25 j = nI b ∧ b < 2 ^ n ∧ ∀ t, t < n → b.testBit t = (decide (t < i) && A t j)) _ 0 n (by omega) (by omega) (fun i q _ hi ⟨e, hx, ho, b, f1, f2, f3⟩ => ?_) (fun q ⟨e, hx, ho, b, f1, f2, f3⟩ => ?_) _ ⟨rfl, hg, fun _ _ => rfl, 0, h0, hpos, fun t _ => by rw [Nat.zero_testBit]; simp⟩
    · have q21 : q.2 21 0 = nI n := by rw [hx 21 (by decide)]; exact h21
      have ha := hB q.2 (hx 20 (by decide)) i j (by omega) (by omega)
      cases c : A i j with
      | false =>
        rw [c] at ha
        refine ⟨(nI (i + 1), q.2), ?_, rfl, hx, ho, b, f1, f2, fun t ht => ?_⟩
        · show C_SD_findBeaters_s2 (nI j) q.1 q.2 = _
          unfold C_SD_findBeaters_s2
          rw [e, q21, if_neg (nI_ge hi (by omega)), bd_of ha]
          dsimp only [nm]
          rw [nI_1]
          rfl
        · rw [f3 t ht]
          by_cases u : t = i
          · subst u; rw [c]; simp
          · have : (t < i + 1) ↔ t < i := by omega
            simp only [this]
      | true =>
        rw [c] at ha
        refine ⟨(nI (i + 1), wr q.2 25 (nI j) (nI (b ||| 2 ^ i))), ?_, rfl, eqx_tr hx (eqx_wr (by decide)), fun t ht => ?_, b ||| 2 ^ i, ?_, or_lt f2 hi, fun t ht => ?_⟩
        · show C_SD_findBeaters_s2 (nI j) q.1 q.2 = _
          unfold C_SD_findBeaters_s2
          rw [e, q21, if_neg (nI_ge hi (by omega)), bd_of ha, ri_k (show j < 8 by omega) (by decide), ri_k (show j < 8 by omega) (by decide), nI_clamp (show j < 2 ^ 31 by omega), f1, s_shl i (by omega), fa_or]
          dsimp only [nm]
          rw [nI_1]
          rfl
        · show wr q.2 25 (nI j) _ 25 t = _
          rw [wr_ap, if_pos rfl, nI_clamp (by omega), if_neg ht]
          exact ho t ht
        · show wr q.2 25 (nI j) _ 25 j = _
          rw [wr_ap, if_pos rfl, nI_clamp (by omega), if_pos rfl]
        · rw [or_bit, f3 t ht]
          by_cases u : t = i
          · subst u; rw [c]; simp
          · have : (t < i + 1) ↔ t < i := by omega
            simp only [this, u, decide_false, Bool.or_false]
    · have q21 : q.2 21 0 = nI n := by rw [hx 21 (by decide)]; exact h21
      refine ⟨q.2, ?_, hx, ho, b, f1, f2, fun i hi => by rw [f3 i hi]; simp [hi]⟩
      show C_SD_findBeaters_s2 (nI j) q.1 q.2 = _
      unfold C_SD_findBeaters_s2
      rw [e, q21, if_pos (nI_le (Nat.le_refl _) (by omega))]
  obtain ⟨r, e1, e2, e3⟩ := lp_iv (st := fun q => C_SD_findBeaters_s1 q.1 q.2) (fun j q => q.1 = nI j ∧ eqx [25] G q.2 ∧ ∀ t, t < j → ∃ b, q.2 25 t = nI b ∧ b < 2 ^ n ∧ ∀ i, i < n → b.testBit i = A i t) (fun r => eqx [25] G r ∧ isB r A n) 0 n (by omega) (by omega) (fun j q _ hj ⟨e, hx, hv⟩ => by
      have q21 : q.2 21 0 = nI n := by rw [hx 21 (by decide)]; exact h21
      obtain ⟨r, g1, g2, g3, g4⟩ := inner j (wr q.2 25 (nI j) (0 : Int32)) hj (eqx_tr hx (eqx_wr (by decide))) (by rw [wr_ap, if_pos rfl, nI_clamp (by omega), if_pos rfl]; rfl)
      refine ⟨(nI (j + 1), r), ?_, rfl, g2, fun t ht => ?_⟩
      · show C_SD_findBeaters_s1 q.1 q.2 = _
        unfold C_SD_findBeaters_s1
        rw [e, q21, if_neg (nI_ge hj (by omega)), ri_k (show j < 8 by omega) (by decide)]
        dsimp only [nm]
        rw [bd_of g1, nI_1]
      · by_cases u : t = j
        · subst u
          exact g4
        · show ∃ b, r 25 t = nI b ∧ _
          rw [g3 t u, wr_ap, if_pos rfl, nI_clamp (by omega), if_neg u]
          exact hv t (by omega)) (fun q ⟨e, hx, hv⟩ => by
      have q21 : q.2 21 0 = nI n := by rw [hx 21 (by decide)]; exact h21
      refine ⟨q.2, ?_, hx, hv⟩
      show C_SD_findBeaters_s1 q.1 q.2 = _
      unfold C_SD_findBeaters_s1
      rw [e, q21, if_pos (nI_le (Nat.le_refl _) (by omega))]) ((0 : Int32), G) ⟨rfl, eqx_rf, fun t ht => by omega⟩
  exact ⟨r, by unfold C_SD_findBeaters; rw [bd_of e1], e2, e3⟩
theorem dif_sub {n s o : Nat} (hn : n ≤ 8) (hs : s < 2 ^ n) : dif s o = 0 ↔ sbs s o := by
  constructor
  · intro e i hi hsi
    have hb := dif_bit s o (i := i) (by omega)
    rw [e, Nat.zero_testBit, hsi] at hb
    cases ho : o.testBit i with
    | true => rfl
    | false => rw [ho] at hb; cases hb
  · intro hsb
    refine s_ext (dif_lt hs) (show 0 < 2 ^ n from Nat.two_pow_pos n) (fun i hi => ?_)
    rw [dif_bit s o (by omega), Nat.zero_testBit]
    cases e : s.testBit i with
    | false => rfl
    | true => rw [hsb i (by omega) e]; rfl
theorem k_pass {G : Nat → Nat → Int32} {A : Nat → Nat → Bool} {n : Nat} (h21 : G 21 0 = nI n) (hn : n ≤ 8) (hb : isB G A n) {c s : Nat} (hc : c < 2 ^ n) (hs : s < 2 ^ n) (hsc : sbs s c) : ∃ r, lp (fun q => C_SD_closedSet_s2 (nI c) G q.1 q.2) FU (nI s, (0 : Int32)) = some r ∧ ∃ t, r = nI t ∧ t < 2 ^ n ∧ sbs s t ∧ sbs t c ∧ (∀ u, u < 2 ^ n → clP A n c u → sbs s u → sbs t u) ∧ (t = s → ∀ j, j < n → c.testBit j = true → s.testBit j = false → ∀ i, i < n → s.testBit i = true → A i j = true) := by
  have h256 := p256 hn
  refine lp_iv (st := fun q => C_SD_closedSet_s2 (nI c) G q.1 q.2) (fun j q => q.2 = nI j ∧ ∃ t, q.1 = nI t ∧ t < 2 ^ n ∧ sbs s t ∧ sbs t c ∧ (∀ u, u < 2 ^ n → clP A n c u → sbs s u → sbs t u) ∧ (t = s → ∀ b, b < j → c.testBit b = true → s.testBit b = false → ∀ i, i < n → s.testBit i = true → A i b = true)) _ 0 n (by omega) (by omega) (fun j q _ hj ⟨e, t, f1, f2, f3, f4, f5, f6⟩ => ?_) (fun q ⟨e, t, f1, f2, f3, f4, f5, f6⟩ => ?_) _ ⟨rfl, s, rfl, hs, fun _ _ h => h, hsc, fun _ _ _ h => h, fun _ b hb => by omega⟩
  · obtain ⟨b, g1, g2, g3⟩ := hb j hj
    have hd := dif_le c t
    have hcon := s_con (dif c t) (by omega) j (by omega)
    rw [dif_bit c t (by omega)] at hcon
    obtain ⟨u, hu, u1, u2, u3, u4, u5⟩ : ∃ u, (if b2i (c.testBit j && !t.testBit j) = 0 then (some (nI t)) else (ri 8 (nI j) <| if nI t &&& ((G 25 (nI j).toNatClampNeg) ^^^ (-1 : Int32)) = 0 then (some (nI t)) else (nm (nI t ||| ((1 : Int32) <<< (nI j &&& 31)) : Int32) fun x35 => some x35))) = some (nI u) ∧ u < 2 ^ n ∧ sbs s u ∧ sbs u c ∧ (∀ v, v < 2 ^ n → clP A n c v → sbs s v → sbs u v) ∧ (u = s → ∀ b, b < j + 1 → c.testBit b = true → s.testBit b = false → ∀ i, i < n → s.testBit i = true → A i b = true) := by
      rw [ri_k (show j < 8 by omega) (by decide), nI_clamp (show j < 2 ^ 31 by omega), g1, s_dif, s_shl j (by omega), fa_or]
      have hdt := dif_le t b
      cases c1 : (c.testBit j && !t.testBit j) with
      | false =>
        refine ⟨t, rfl, f2, f3, f4, f5, fun ht b hb => ?_⟩
        rcases Nat.lt_or_ge b j with v | v
        · exact f6 ht b v
        · have : b = j := by omega
          subst this
          intro h1 h2
          rw [ht, h1, h2] at c1
          cases c1
      | true =>
        have c2 : c.testBit j = true ∧ t.testBit j = false := by
          cases x : c.testBit j <;> cases y : t.testBit j <;> rw [x, y] at c1 <;> first | exact ⟨rfl, rfl⟩ | cases c1
        rw [if_neg (by decide)]
        by_cases c3 : dif t b = 0
        · rw [if_pos ((nz (by omega)).mpr c3)]
          have hsb := (dif_sub hn f2).mp c3
          refine ⟨t, rfl, f2, f3, f4, f5, fun ht b' hb' => ?_⟩
          rcases Nat.lt_or_ge b' j with v | v
          · exact f6 ht b' v
          · have : b' = j := by omega
            subst this
            intro _ _ i hi hsi
            rw [← g3 i hi]
            exact hsb i (by omega) (by rw [ht]; exact hsi)
        · rw [if_neg (fun e => c3 ((nz (by omega)).mp e))]
          refine ⟨t ||| 2 ^ j, rfl, or_lt f2 hj, fun i hi h => ?_, fun i hi h => ?_, fun v v1 v2 v3 => ?_, fun ht => ?_⟩
          · rw [or_bit, f3 i hi h]; rfl
          · rw [or_bit] at h
            cases x : t.testBit i with
            | true => exact f4 i hi x
            | false =>
              rw [x, Bool.false_or, decide_eq_true_eq] at h
              rw [h]; exact c2.1
          · have hu := f5 v v1 v2 v3
            intro i hi h
            rw [or_bit] at h
            cases x : t.testBit i with
            | true => exact hu i hi x
            | false =>
              rw [x, Bool.false_or, decide_eq_true_eq] at h
              subst h
              cases y : v.testBit i with
              | true => rfl
              | false =>
                exfalso
                apply c3
                refine (dif_sub hn f2).mpr (fun k hk hkt => ?_)
                have hkn : k < n := by
                  rcases Nat.lt_or_ge k n with z | z
                  · exact z
                  · rw [tb_out f2 z] at hkt; cases hkt
                rw [g3 k hkn]
                exact v2.2.2 k i hkn hj (hu k hk hkt) c2.1 y
          · exfalso
            have h1 : s.testBit j = true := by rw [← ht, or_bit]; simp
            have h2 := f3 j (by omega) h1
            rw [c2.2] at h2
            cases h2
    refine ⟨(nI u, nI (j + 1)), ?_, rfl, u, rfl, u1, u2, u3, u4, u5⟩
    show C_SD_closedSet_s2 (nI c) G q.1 q.2 = _
    unfold C_SD_closedSet_s2
    rw [e, f1, h21, if_neg (nI_ge hj (by omega)), s_dif, bd_of hcon, bd_of hu]
    dsimp only [nm]
    rw [nI_1]
  · refine ⟨q.1, ?_, t, f1, f2, f3, f4, f5, f6⟩
    show C_SD_closedSet_s2 (nI c) G q.1 q.2 = _
    unfold C_SD_closedSet_s2
    rw [e, h21, if_pos (nI_le (Nat.le_refl _) (by omega))]
theorem k_closed {G : Nat → Nat → Int32} {A : Nat → Nat → Bool} {n : Nat} (h21 : G 21 0 = nI n) (hn : n ≤ 8) (hb : isB G A n) {c i : Nat} (hc : c < 2 ^ n) (hi : i < n) (hic : c.testBit i = true) : ∃ t, C_SD_closedSet G (nI (2 ^ i)) (nI c) = some (nI t) ∧ t < 2 ^ n ∧ clP A n c t ∧ ∀ u, u < 2 ^ n → clP A n c u → u.testBit i = true → sbs t u := by
  have h256 := p256 hn
  have hp : 2 ^ i < 2 ^ n := Nat.pow_lt_pow_right (by decide) hi
  obtain ⟨r, e1, t, e2, e3⟩ := lp_ex (st := fun q => C_SD_closedSet_s1 (nI c) G q.1 q.2) (fun k q => q.2 = nI k ∧ ∃ s, q.1 = nI s ∧ s < 2 ^ n ∧ sbs s c ∧ s.testBit i = true ∧ k + 1 ≤ sz s ∧ ∀ u, u < 2 ^ n → clP A n c u → u.testBit i = true → sbs s u) (fun r => ∃ t, r = nI t ∧ t < 2 ^ n ∧ clP A n c t ∧ ∀ u, u < 2 ^ n → clP A n c u → u.testBit i = true → sbs t u) 0 n (by omega) (by omega) (fun k q _ hk ⟨e, s, f1, f2, f3, f4, f5, f6⟩ => by
      obtain ⟨r, g1, t, g2, g3, g4, g5, g6, g7⟩ := k_pass h21 hn hb hc f2 f3
      have hst : C_SD_closedSet_s1 (nI c) G q.1 q.2 = if nI t = nI s then (some (.inr (nI t))) else (some (.inl (nI t, nI (k + 1)))) := by
        unfold C_SD_closedSet_s1
        rw [e, f1, h21, if_neg (nI_ge hk (by omega)), bd_of g1, g2]
        dsimp only [nm]
        rw [nI_1]
      by_cases q0 : t = s
      · refine Or.inr ⟨nI t, ?_, t, rfl, g3, ?_, ?_⟩
        · show C_SD_closedSet_s1 (nI c) G q.1 q.2 = _
          rw [hst, if_pos (by rw [q0])]
        · rw [q0]
          exact ⟨has_nz f4, f3, fun a b ha hb' h1 h2 h3 => g7 q0 b hb' h2 h3 a ha h1⟩
        · rw [q0]
          exact f6
      · refine Or.inl ⟨(nI t, nI (k + 1)), ?_, rfl, t, rfl, g3, g5, g4 i (by omega) f4, ?_, fun u u1 u2 u3 => g6 u u1 u2 (f6 u u1 u2 u3)⟩
        · show C_SD_closedSet_s1 (nI c) G q.1 q.2 = _
          rw [hst, if_neg (fun h => q0 ((nI_eq (by omega) (by omega)).mp h))]
        · have hne : sz s ≠ sz t := fun h => q0 (s_ext g3 f2 (fun i hi => (sz_eq g4 h i (by omega)).symm))
          have := sz_le g4
          omega) (fun q ⟨e, s, f1, f2, f3, f4, f5, f6⟩ => by
      have := sz_n hn f2
      omega) (nI (2 ^ i), (0 : Int32)) ⟨rfl, 2 ^ i, rfl, hp, fun j hj h => by
        rw [pw_bit, decide_eq_true_eq] at h
        rw [← h]; exact hic, by rw [pw_bit]; simp, sz_pos (i := i) (by omega) (by rw [pw_bit]; simp), fun u u1 u2 u3 j hj h => by
        rw [pw_bit, decide_eq_true_eq] at h
        rw [← h]; exact u3⟩
  refine ⟨t, ?_, e3⟩
  unfold C_SD_closedSet
  rw [e1, e2]
theorem k_topSet {G : Nat → Nat → Int32} {A : Nat → Nat → Bool} {n : Nat} (h21 : G 21 0 = nI n) (hn : n ≤ 8) (hb : isB G A n) {c : Nat} (hc : c < 2 ^ n) (hc0 : c ≠ 0) : ∃ t, C_SD_topSetOf G (nI c) = some (nI t) ∧ TP A n c t := by
  have h256 := p256 hn
  obtain ⟨r, e1, t, e2, e3⟩ := lp_iv (st := fun q => C_SD_topSetOf_s1 (nI c) G q.1 q.2) (fun i q => q.2 = nI i ∧ ∃ t, q.1 = nI t ∧ t < 2 ^ n ∧ clP A n c t ∧ ∀ a, a < i → ∀ s, s < 2 ^ n → clP A n c s → s.testBit a = true → sz t ≤ sz s) (fun r => ∃ t, r = nI t ∧ TP A n c t) 0 n (by omega) (by omega) (fun i q _ hi ⟨e, t, f1, f2, f3, f4⟩ => by
      have hcon := s_con c (by omega) i (by omega)
      obtain ⟨u, hu, u1, u2, u3⟩ : ∃ u, (if b2i (c.testBit i) = 0 then (some (nI t)) else (bd (C_SD_closedSet G ((1 : Int32) <<< (nI i &&& 31)) (nI c)) fun r23 => nm (C_JI_bitCount_ r23) fun r27 => nm (C_JI_bitCount_ (nI t)) fun r30 => if r30 ≤ r27 then (some (nI t)) else (some r23))) = some (nI u) ∧ u < 2 ^ n ∧ clP A n c u ∧ ∀ a, a < i + 1 → ∀ s, s < 2 ^ n → clP A n c s → s.testBit a = true → sz u ≤ sz s := by
        cases c1 : c.testBit i with
        | false =>
          refine ⟨t, rfl, f2, f3, fun a ha s s1 s2 s3 => ?_⟩
          rcases Nat.lt_or_ge a i with v | v
          · exact f4 a v s s1 s2 s3
          · have : a = i := by omega
            subst this
            have := s2.2.1 a (by omega) s3
            rw [c1] at this
            cases this
        | true =>
          obtain ⟨k, k1, k2, k3, k4⟩ := k_closed h21 hn hb hc hi c1
          have z1 := sz_n hn f2
          have z2 := sz_n hn k2
          rw [if_neg (by decide), s_shl i (by omega), bd_of k1]
          dsimp only [nm]
          rw [s_cnt k (by omega), s_cnt t (by omega)]
          by_cases c2 : sz t ≤ sz k
          · refine ⟨t, by rw [if_pos (nI_le c2 (by omega))], f2, f3, fun a ha s s1 s2 s3 => ?_⟩
            rcases Nat.lt_or_ge a i with v | v
            · exact f4 a v s s1 s2 s3
            · have : a = i := by omega
              subst this
              exact Nat.le_trans c2 (sz_le (k4 s s1 s2 s3))
          · refine ⟨k, by rw [if_neg (nI_ge (by omega) (by omega))], k2, k3, fun a ha s s1 s2 s3 => ?_⟩
            rcases Nat.lt_or_ge a i with v | v
            · have := f4 a v s s1 s2 s3
              omega
            · have : a = i := by omega
              subst this
              exact sz_le (k4 s s1 s2 s3)
      refine ⟨(nI u, nI (i + 1)), ?_, rfl, u, rfl, u1, u2, u3⟩
      show C_SD_topSetOf_s1 (nI c) G q.1 q.2 = _
      unfold C_SD_topSetOf_s1
      rw [e, f1, h21, if_neg (nI_ge hi (by omega)), bd_of hcon, bd_of hu]
      dsimp only [nm]
      rw [nI_1]) (fun q ⟨e, t, f1, f2, f3, f4⟩ => by
      refine ⟨q.1, ?_, t, f1, f2, f3, fun s s1 s2 => ?_⟩
      · show C_SD_topSetOf_s1 (nI c) G q.1 q.2 = _
        unfold C_SD_topSetOf_s1
        rw [e, h21, if_pos (nI_le (Nat.le_refl _) (by omega))]
      · obtain ⟨a, ha, hsa⟩ := nz_has s1 s2.1
        exact f4 a ha s s1 s2 hsa) (nI c, (0 : Int32)) ⟨rfl, c, rfl, hc, cl_self hc0, fun a ha => by omega⟩
  refine ⟨t, ?_, e3⟩
  unfold C_SD_topSetOf
  rw [bd_of e1, e2]
/-! layers -/
theorem TP_ex (A : Nat → Nat → Bool) {n o : Nat} (ho : o < 2 ^ n) (h0 : o ≠ 0) : ∃ t, TP A n o t := by
  obtain ⟨k, ⟨t, h1, h2, h3⟩, h4⟩ := pk_least (fun k => ∃ t, t < 2 ^ n ∧ clP A n o t ∧ sz t = k) ⟨_, o, ho, cl_self h0, rfl⟩
  refine ⟨t, h1, h2, fun s s1 s2 => ?_⟩
  rcases Nat.lt_or_ge (sz s) (sz t) with q | q
  · exact absurd ⟨s, s1, s2, rfl⟩ (h4 (sz s) (by omega))
  · exact q
noncomputable def tpF (A : Nat → Nat → Bool) (n o : Nat) : Nat := Classical.epsilon (fun t => TP A n o t)
theorem tpF_TP (A : Nat → Nat → Bool) {n o : Nat} (ho : o < 2 ^ n) (h0 : o ≠ 0) : TP A n o (tpF A n o) := Classical.epsilon_spec (TP_ex A ho h0)
noncomputable def rmS (A : Nat → Nat → Bool) (n : Nat) : Nat → Nat
  | 0 => 2 ^ n - 1
  | k + 1 => dif (rmS A n k) (tpF A n (rmS A n k))
theorem rmS_lt (A : Nat → Nat → Bool) (n : Nat) : ∀ k, rmS A n k < 2 ^ n
  | 0 => by have := Nat.two_pow_pos n; rw [rmS]; omega
  | k + 1 => dif_lt (rmS_lt A n k)
theorem rmS_sz (A : Nat → Nat → Bool) {n : Nat} (hn : n ≤ 8) : ∀ k, (∀ t, t < k → rmS A n t ≠ 0) → sz (rmS A n k) + k ≤ n
  | 0, _ => sz_n hn (rmS_lt A n 0)
  | k + 1, h => by
    have ih := rmS_sz A hn k (fun t ht => h t (by omega))
    have hT := tpF_TP A (rmS_lt A n k) (h k (by omega))
    obtain ⟨i, hi, hti⟩ := nz_has hT.1 hT.2.1.1
    have hs : sz (rmS A n (k + 1)) < sz (rmS A n k) := by
      refine sz_lt (i := i) (fun j hj h => ?_) (by omega) ?_ (hT.2.1.2.1 i (by omega) hti)
      · rw [rmS, dif_bit _ _ (by omega), Bool.and_eq_true] at h
        exact h.1
      · rw [rmS, dif_bit _ _ (by omega), hti]
        simp
    omega
theorem rmS_end (A : Nat → Nat → Bool) {n : Nat} (hn : n ≤ 8) : ∃ K, K ≤ n ∧ rmS A n K = 0 ∧ ∀ k, k < K → rmS A n k ≠ 0 := by
  have hex : ∃ k, rmS A n k = 0 := by
    refine Classical.byContradiction (fun hc => ?_)
    have := rmS_sz A hn (n + 1) (fun t _ h => hc ⟨t, h⟩)
    omega
  obtain ⟨K, h1, h2⟩ := pk_least (fun k => rmS A n k = 0) hex
  have := rmS_sz A hn K h2
  exact ⟨K, by omega, h1, h2⟩
noncomputable def lyK (A : Nat → Nat → Bool) (n : Nat) : Nat := Classical.epsilon (fun K => K ≤ n ∧ rmS A n K = 0 ∧ ∀ k, k < K → rmS A n k ≠ 0)
theorem lyK_spec (A : Nat → Nat → Bool) {n : Nat} (hn : n ≤ 8) : lyK A n ≤ n ∧ rmS A n (lyK A n) = 0 ∧ ∀ k, k < lyK A n → rmS A n k ≠ 0 := Classical.epsilon_spec (rmS_end A hn)
/-- s is in layer k -/
def inL (A : Nat → Nat → Bool) (n s k : Nat) : Prop := k < lyK A n ∧ (tpF A n (rmS A n k)).testBit s = true
theorem rm_mono (A : Nat → Nat → Bool) {n s k : Nat} (hs : s < 32) (h : (rmS A n k).testBit s = false) : ∀ d, (rmS A n (k + d)).testBit s = false
  | 0 => h
  | d + 1 => by
    show (rmS A n (k + d + 1)).testBit s = false
    rw [rmS, dif_bit _ _ hs, rm_mono A hs h d]
    rfl
theorem inL_one {A : Nat → Nat → Bool} {n s k k2 : Nat} (hn : n ≤ 8) (hs : s < n) (h : inL A n s k) (h2 : inL A n s k2) : k = k2 := by
  have key : ∀ a b, inL A n s a → inL A n s b → a < b → False := by
    intro a b ha hb hab
    have h0 : (rmS A n (a + 1)).testBit s = false := by
      rw [rmS, dif_bit _ _ (by omega), ha.2]
      simp
    have h1 := rm_mono A (by omega) h0 (b - (a + 1))
    have e : a + 1 + (b - (a + 1)) = b := by omega
    rw [e] at h1
    have hT := tpF_TP A (rmS_lt A n b) ((lyK_spec A hn).2.2 b hb.1)
    have h3 := hT.2.1.2.1 s (by omega) hb.2
    rw [h1] at h3
    cases h3
  rcases Nat.lt_trichotomy k k2 with q | q | q
  · exact (key k k2 h h2 q).elim
  · exact q
  · exact (key k2 k h2 h q).elim
theorem inL_of {A : Nat → Nat → Bool} {n s : Nat} (hn : n ≤ 8) (hs : s < n) : ∀ k, k ≤ lyK A n → (∀ t, t < k → ¬ inL A n s t) → (rmS A n k).testBit s = true
  | 0, _, _ => by rw [rmS, all_bit]; simp [hs]
  | k + 1, hk, h => by
    rw [rmS, dif_bit _ _ (by omega), inL_of hn hs k (by omega) (fun t ht => h t (by omega))]
    cases e : (tpF A n (rmS A n k)).testBit s with
    | true => exact absurd ⟨by omega, e⟩ (h k (by omega))
    | false => rfl
theorem inL_ex {A : Nat → Nat → Bool} {n s : Nat} (hn : n ≤ 8) (hs : s < n) : ∃ k, inL A n s k := by
  refine Classical.byContradiction (fun hc => ?_)
  have h := inL_of (A := A) hn hs (lyK A n) (Nat.le_refl _) (fun t _ h => hc ⟨t, h⟩)
  rw [(lyK_spec A hn).2.1, Nat.zero_testBit] at h
  cases h
