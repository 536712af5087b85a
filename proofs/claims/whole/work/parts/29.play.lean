/-! TOP SETS AND LAYERS -/
/-- a set, not empty, each of whose samples beats all others of o -/
def clP (A : Nat → Nat → Bool) (n o s : Nat) : Prop := s ≠ 0 ∧ sbs s o ∧ ∀ i j, i < n → j < n → s.testBit i = true → o.testBit j = true → s.testBit j = false → A i j = true
/-- the smallest such set -/
def TP (A : Nat → Nat → Bool) (n o t : Nat) : Prop := t < 2 ^ n ∧ clP A n o t ∧ ∀ s, s < 2 ^ n → clP A n o s → sz t ≤ sz s
theorem cl_chain {A : Nat → Nat → Bool} (hA : ∀ i j, A i j = true → A j i = false) {n o s t : Nat} (hs2 : s < 2 ^ n) (ht2 : t < 2 ^ n) (hs : clP A n o s) (ht : clP A n o t) : sbs s t ∨ sbs t s := by
  refine Classical.byContradiction (fun hc => ?_)
  have h1 : ¬ sbs s t := fun h => hc (Or.inl h)
  have h2 : ¬ sbs t s := fun h => hc (Or.inr h)
  have g1 : ∃ i, i < 8 ∧ s.testBit i = true ∧ t.testBit i = false := by
    refine Classical.byContradiction (fun h => h1 (fun i hi hsi => ?_))
    cases e : t.testBit i with
    | true => rfl
    | false => exact absurd ⟨i, hi, hsi, e⟩ h
  have g2 : ∃ i, i < 8 ∧ t.testBit i = true ∧ s.testBit i = false := by
    refine Classical.byContradiction (fun h => h2 (fun i hi hsi => ?_))
    cases e : s.testBit i with
    | true => rfl
    | false => exact absurd ⟨i, hi, hsi, e⟩ h
  obtain ⟨i, hi, a1, a2⟩ := g1
  obtain ⟨j, hj, b1, b2⟩ := g2
  have hin : i < n := by
    rcases Nat.lt_or_ge i n with q | q
    · exact q
    · rw [tb_out hs2 q] at a1; cases a1
  have hjn : j < n := by
    rcases Nat.lt_or_ge j n with q | q
    · exact q
    · rw [tb_out ht2 q] at b1; cases b1
  have e1 := hs.2.2 i j hin hjn a1 (ht.2.1 j hj b1) b2
  have e2 := ht.2.2 j i hjn hin b1 (hs.2.1 i hi a1) a2
  rw [hA i j e1] at e2
  cases e2
theorem TP_one {A : Nat → Nat → Bool} (hA : ∀ i j, A i j = true → A j i = false) {n o s t : Nat} (hn : n ≤ 8) (hs : TP A n o s) (ht : TP A n o t) : s = t := by
  have h1 := hs.2.2 t ht.1 ht.2.1
  have h2 := ht.2.2 s hs.1 hs.2.1
  have e : sz s = sz t := Nat.le_antisymm h1 h2
  rcases cl_chain hA hs.1 ht.1 hs.2.1 ht.2.1 with q | q
  · exact s_ext hs.1 ht.1 (fun i hi => sz_eq q e i (by omega))
  · exact s_ext hs.1 ht.1 (fun i hi => (sz_eq q e.symm i (by omega)).symm)
theorem cl_self {A : Nat → Nat → Bool} {n o : Nat} (h : o ≠ 0) : clP A n o o := ⟨h, fun _ _ h => h, fun _ _ _ _ _ h1 h2 => by rw [h1] at h2; cases h2⟩
/-! the reference -/
theorem m_isTop {h : Nat → Nat → Int32} {A : Nat → Nat → Bool} {n : Nat} (h1 : h 1 0 = nI n) (hn : n ≤ 8) (hB : ∀ i j, i < n → j < n → M_beats h (nI i) (nI j) = some (b2i (A i j))) {s o : Nat} (hs : s < 2 ^ n) (ho : o < 2 ^ n) : ∃ r, M_isTop h (nI s) (nI o) = some r ∧ tr r (clP A n o s) := by
  have h256 := p256 hn
  obtain ⟨x2, hx2, tx2⟩ : ∃ x2, (if nI s = 0 then (some (0 : Int32)) else (if nI s &&& (nI o ^^^ (-1 : Int32)) = 0 then (some (1 : Int32)) else (some (0 : Int32)))) = some x2 ∧ tr x2 (s ≠ 0 ∧ sbs s o) := by
    rw [s_dif]
    have hd := dif_le s o
    have hsub : dif s o = 0 ↔ sbs s o := by
      constructor
      · intro e i hi hsi
        have hb := dif_bit s o (i := i) (by omega)
        rw [e, Nat.zero_testBit, hsi] at hb
        cases ho : o.testBit i with
        | true => rfl
        | false => rw [ho] at hb; cases hb
      · intro hsb
        refine s_ext (dif_lt hs) (show 0 < 2 ^ n from Nat.two_pow_pos n) (fun i hi => ?_)
        rw [dif_bit s o (by omega), Nat.zero_testBit]
        cases e : s.testBit i with
        | false => rfl
        | true => rw [hsb i (by omega) e]; rfl
    by_cases q0 : s = 0
    · exact ⟨0, by rw [if_pos ((nz (by omega)).mpr q0)], Or.inr ⟨rfl, fun h => h.1 q0⟩⟩
    · by_cases q1 : dif s o = 0
      · exact ⟨1, by rw [if_neg (fun e => q0 ((nz (by omega)).mp e)), if_pos ((nz (by omega)).mpr q1)], Or.inl ⟨rfl, q0, hsub.mp q1⟩⟩
      · exact ⟨0, by rw [if_neg (fun e => q0 ((nz (by omega)).mp e)), if_neg (fun e => q1 ((nz (by omega)).mp e))], Or.inr ⟨rfl, fun h => q1 (hsub.mpr h.2)⟩⟩
  have inner : ∀ i x (p : Prop), i < n → tr x p → ∃ r, lp (fun q => M_isTop_s2 (nI s) (nI o) (nI i) h q.1 q.2) FU (x, (0 : Int32)) = some r ∧ tr r (p ∧ ∀ j, j < n → s.testBit i = true → o.testBit j = true → s.testBit j = false → A i j = true) := by
    intro i x p hi hx
    refine lp_iv (st := fun q => M_isTop_s2 (nI s) (nI o) (nI i) h q.1 q.2) (fun j q => q.2 = nI j ∧ tr q.1 (p ∧ ∀ b, b < j → s.testBit i = true → o.testBit b = true → s.testBit b = false → A i b = true)) _ 0 n (by omega) (by omega) (fun j q _ hj ⟨e, hv⟩ => ?_) (fun q ⟨e, hv⟩ => ?_) _ ⟨rfl, tr_iff hx ⟨fun h => ⟨h, fun b h => by omega⟩, fun h => h.1⟩⟩
    · obtain ⟨y, hy, ty⟩ : ∃ y, (if (nI s >>> (nI i &&& 31)) &&& (1 : Int32) = (1 : Int32) then (if (nI o &&& (nI s ^^^ (-1 : Int32))) &&& ((1 : Int32) <<< (nI j &&& 31)) = 0 then (some (0 : Int32)) else (some (1 : Int32))) else (some (0 : Int32))) = some y ∧ tr y (s.testBit i = true ∧ o.testBit j = true ∧ s.testBit j = false) := by
        rw [s_has s (by omega) i (by omega), s_dif, s_shl j (by omega)]
        simp only [fa_bit (n := dif o s) (show j < 31 by omega), dif_bit o s (show j < 32 by omega)]
        cases c1 : s.testBit i with
        | false => exact ⟨0, by rw [if_neg (by decide)], Or.inr ⟨rfl, fun h => by cases h.1⟩⟩
        | true =>
          rw [if_pos rfl, if_pos (show nI 1 = (1 : Int32) from rfl)]
          cases c2 : o.testBit j <;> cases c3 : s.testBit j
          · exact ⟨0, by simp, Or.inr ⟨rfl, fun h => by cases h.2.1⟩⟩
          · exact ⟨0, by simp, Or.inr ⟨rfl, fun h => by cases h.2.1⟩⟩
          · exact ⟨1, by simp, Or.inl ⟨rfl, rfl, rfl, rfl⟩⟩
          · exact ⟨0, by simp, Or.inr ⟨rfl, fun h => by cases h.2.2⟩⟩
      obtain ⟨z, hz, tz⟩ : ∃ z, (if q.1 = 0 then (some (0 : Int32)) else (if y = 0 then (some (1 : Int32)) else (bd (M_beats h (nI i) (nI j)) fun r45 => if r45 = 0 then (some (0 : Int32)) else (some (1 : Int32))))) = some z ∧ tr z (p ∧ ∀ b, b < j + 1 → s.testBit i = true → o.testBit b = true → s.testBit b = false → A i b = true) := by
        have hb : (p ∧ ∀ b, b < j + 1 → s.testBit i = true → o.testBit b = true → s.testBit b = false → A i b = true) ↔ ((p ∧ ∀ b, b < j → s.testBit i = true → o.testBit b = true → s.testBit b = false → A i b = true) ∧ (s.testBit i = true → o.testBit j = true → s.testBit j = false → A i j = true)) := by
          constructor
          · exact fun hh => ⟨⟨hh.1, fun b hb => hh.2 b (by omega)⟩, hh.2 j (by omega)⟩
          · refine fun hh => ⟨hh.1.1, fun b hb => ?_⟩
            rcases Nat.lt_or_ge b j with u | u
            · exact hh.1.2 b u
            · have : b = j := by omega
              subst this
              exact hh.2
        rw [bd_of (hB i j hi hj)]
        rcases hv with ⟨v1, v2⟩ | ⟨v1, v2⟩
        · rw [v1, if_neg (by decide)]
          rcases ty with ⟨y1, y2⟩ | ⟨y1, y2⟩
          · rw [y1, if_neg (by decide)]
            cases c : A i j with
            | true => exact ⟨1, rfl, Or.inl ⟨rfl, hb.mpr ⟨v2, fun _ _ _ => c⟩⟩⟩
            | false => exact ⟨0, rfl, Or.inr ⟨rfl, fun hh => by have := (hb.mp hh).2 y2.1 y2.2.1 y2.2.2; rw [c] at this; cases this⟩⟩
          · rw [y1, if_pos rfl]
            exact ⟨1, rfl, Or.inl ⟨rfl, hb.mpr ⟨v2, fun a b c => absurd ⟨a, b, c⟩ y2⟩⟩⟩
        · rw [v1, if_pos rfl]
          exact ⟨0, rfl, Or.inr ⟨rfl, fun hh => v2 (hb.mp hh).1⟩⟩
      refine ⟨(z, nI (j + 1)), ?_, rfl, tz⟩
      show M_isTop_s2 (nI s) (nI o) (nI i) h q.1 q.2 = _
      unfold M_isTop_s2
      rw [e, h1, if_neg (nI_ge hj (by omega)), bd_of hy, bd_of hz]
      dsimp only [nm]
      rw [nI_1]
    · refine ⟨q.1, ?_, hv⟩
      show M_isTop_s2 (nI s) (nI o) (nI i) h q.1 q.2 = _
      unfold M_isTop_s2
      rw [e, h1, if_pos (nI_le (Nat.le_refl _) (by omega))]
  obtain ⟨r, e1, e2⟩ := lp_ex (st := fun q => M_isTop_s1 (nI s) (nI o) h q.1 q.2) (fun i q => q.2 = nI i ∧ tr q.1 ((s ≠ 0 ∧ sbs s o) ∧ ∀ a, a < i → ∀ j, j < n → s.testBit a = true → o.testBit j = true → s.testBit j = false → A a j = true)) (fun r => tr r (clP A n o s)) 0 n (by omega) (by omega) (fun i q _ hi ⟨e, hv⟩ => by
      by_cases q0 : q.1 = 0
      · refine Or.inr ⟨q.1, ?_, ?_⟩
        · show M_isTop_s1 (nI s) (nI o) h q.1 q.2 = _
          unfold M_isTop_s1
          rw [e, h1, if_neg (nI_ge hi (by omega)), if_pos q0]
        · exact Or.inr ⟨q0, fun hc => ((tr_0 hv).mp q0) ⟨⟨hc.1, hc.2.1⟩, fun a ha j hj => hc.2.2 a j (by omega) hj⟩⟩
      · obtain ⟨r, g1, g2⟩ := inner i q.1 _ hi hv
        refine Or.inl ⟨(r, nI (i + 1)), ?_, rfl, tr_iff g2 ⟨fun hh => ⟨hh.1.1, fun a ha => ?_⟩, fun hh => ⟨⟨hh.1, fun a ha => hh.2 a (by omega)⟩, hh.2 i (by omega)⟩⟩⟩
        · show M_isTop_s1 (nI s) (nI o) h q.1 q.2 = _
          unfold M_isTop_s1
          rw [e, h1, if_neg (nI_ge hi (by omega)), if_neg q0, bd_of g1]
          dsimp only [nm]
          rw [nI_1]
        · rcases Nat.lt_or_ge a i with u | u
          · exact hh.1.2 a u
          · have : a = i := by omega
            subst this
            exact hh.2) (fun q ⟨e, hv⟩ => by
      refine ⟨q.1, ?_, tr_iff hv ⟨fun hh => ⟨hh.1.1, hh.1.2, fun i j hi hj => hh.2 i hi j hj⟩, fun hh => ⟨⟨hh.1, hh.2.1⟩, fun a ha j hj => hh.2.2 a j ha hj⟩⟩⟩
      show M_isTop_s1 (nI s) (nI o) h q.1 q.2 = _
      unfold M_isTop_s1
      rw [e, h1, if_pos (nI_le (Nat.le_refl _) (by omega))]) (x2, (0 : Int32)) ⟨rfl, tr_iff tx2 ⟨fun hh => ⟨hh, fun a ha => by omega⟩, fun hh => hh.1⟩⟩
  refine ⟨r, ?_, e2⟩
  unfold M_isTop
  rw [bd_of hx2, bd_of e1, gd_of (show r = 0 ∨ r = 1 from e2.elim (fun h => Or.inr h.1) (fun h => Or.inl h.1))]
theorem m_topOf {h : Nat → Nat → Int32} {A : Nat → Nat → Bool} {n : Nat} (h1 : h 1 0 = nI n) (hn : n ≤ 8) (hB : ∀ i j, i < n → j < n → M_beats h (nI i) (nI j) = some (b2i (A i j))) {o : Nat} (ho : o < 2 ^ n) (ho0 : o ≠ 0) : ∃ t, M_topOf h (nI o) = some (nI t) ∧ TP A n o t := by
  have h256 := p256 hn
  have hpos : 0 < 2 ^ n := Nat.two_pow_pos n
  obtain ⟨r, e1, t, e2, e3⟩ := lp_iv (st := fun q => M_topOf_s1 (nI o) h q.1 q.2) (fun k q => q.2 = nI k ∧ ∃ t, q.1 = nI t ∧ t < 2 ^ n ∧ clP A n o t ∧ ∀ s, 1 ≤ s → s < k → clP A n o s → sz t ≤ sz s) (fun r => ∃ t, r = nI t ∧ TP A n o t) 1 (2 ^ n) (by omega) (by omega) (fun k q hk1 hk ⟨e, t, f1, f2, f3, f4⟩ => by
      have z1 := sz_n hn hk
      have z2 := sz_n hn f2
      obtain ⟨b, hb1, hb2⟩ := m_isTop h1 hn hB hk ho
      obtain ⟨u, hu1, hu2, hu3, hu4⟩ : ∃ u, (if nI (sz t) ≤ nI (sz k) then (some (nI t)) else (bd (M_isTop h (nI k) (nI o)) fun r27 => if r27 = 0 then (some (nI t)) else (some (nI k)))) = some (nI u) ∧ u < 2 ^ n ∧ clP A n o u ∧ ∀ s, 1 ≤ s → s < k + 1 → clP A n o s → sz u ≤ sz s := by
        by_cases c1 : sz t ≤ sz k
        · refine ⟨t, by rw [if_pos (nI_le c1 (by omega))], f2, f3, fun s s1 s2 s3 => ?_⟩
          rcases Nat.lt_or_ge s k with v | v
          · exact f4 s s1 v s3
          · have : s = k := by omega
            subst this
            exact c1
        · rw [if_neg (nI_ge (by omega) (by omega)), bd_of hb1]
          by_cases c2 : clP A n o k
          · refine ⟨k, ?_, hk, c2, fun s s1 s2 s3 => ?_⟩
            · rcases hb2 with ⟨v1, v2⟩ | ⟨v1, v2⟩
              · rw [v1, if_neg (by decide)]
              · exact absurd c2 v2
            · rcases Nat.lt_or_ge s k with v | v
              · have := f4 s s1 v s3
                omega
              · have : s = k := by omega
                subst this
                exact Nat.le_refl _
          · refine ⟨t, ?_, f2, f3, fun s s1 s2 s3 => ?_⟩
            · rcases hb2 with ⟨v1, v2⟩ | ⟨v1, v2⟩
              · exact absurd v2 c2
              · rw [v1, if_pos rfl]
            · rcases Nat.lt_or_ge s k with v | v
              · exact f4 s s1 v s3
              · have : s = k := by omega
                subst this
                exact absurd s3 c2
      refine ⟨(nI u, nI (k + 1)), ?_, rfl, u, rfl, hu2, hu3, hu4⟩
      show M_topOf_s1 (nI o) h q.1 q.2 = _
      unfold M_topOf_s1
      rw [e, f1, h1, s_shl n (by omega), if_neg (nI_ge hk (by omega)), bd_of (s_size (by omega)), bd_of (s_size (by omega)), bd_of hu1]
      dsimp only [nm]
      rw [nI_1]) (fun q ⟨e, t, f1, f2, f3, f4⟩ => by
      refine ⟨nI t, ?_, t, rfl, f2, f3, fun s s1 s2 => f4 s (by have := s2.1; omega) s1 s2⟩
      show M_topOf_s1 (nI o) h q.1 q.2 = _
      unfold M_topOf_s1
      rw [e, f1, h1, s_shl n (by omega), if_pos (nI_le (Nat.le_refl _) (by omega))]) (nI o, (1 : Int32)) ⟨rfl, o, rfl, ho, cl_self ho0, fun s s1 s2 => by omega⟩
  refine ⟨t, ?_, e3⟩
  unfold M_topOf
  rw [bd_of e1, e2]
