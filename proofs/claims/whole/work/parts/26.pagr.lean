/-! COMPLETENESS AND AGREEMENT -/
def tr (x : Int32) (p : Prop) : Prop := (x = 1 ∧ p) ∨ (x = 0 ∧ ¬ p)
theorem tr_one {x y : Int32} {p : Prop} (h : tr x p) (h2 : tr y p) : x = y := by
  rcases h with ⟨e, hp⟩ | ⟨e, hp⟩ <;> rcases h2 with ⟨e2, hp2⟩ | ⟨e2, hp2⟩
  · rw [e, e2]
  · exact absurd hp hp2
  · exact absurd hp2 hp
  · rw [e, e2]
theorem tr_b (b : Bool) : tr (b2i b) (b = true) := by
  cases b
  · exact Or.inr ⟨rfl, fun h => by cases h⟩
  · exact Or.inl ⟨rfl, rfl⟩
theorem tr_iff {x : Int32} {p q : Prop} (h : tr x p) (e : p ↔ q) : tr x q := by
  rcases h with ⟨e1, hp⟩ | ⟨e1, hp⟩
  · exact Or.inl ⟨e1, e.mp hp⟩
  · exact Or.inr ⟨e1, fun h => hp (e.mpr h)⟩
theorem tr_0 {x : Int32} {p : Prop} (h : tr x p) : (x = 0) ↔ ¬ p := by
  rcases h with ⟨e1, hp⟩ | ⟨e1, hp⟩
  · rw [e1]; exact ⟨fun h => absurd h (by decide), fun h => absurd hp h⟩
  · rw [e1]; exact ⟨fun _ => hp, fun _ => rfl⟩
/-- one of the two is preferred -/
def gdP (m : Nat) (cp : Nat → Nat → Nat) (l i j : Nat) : Prop := pfB m cp l i j = true ∨ pfB m cp l j i = true
def cmP (m : Nat) (cp : Nat → Nat → Nat) (l n : Nat) : Prop := ∀ i j, i < j → j < n → gdP m cp l i j
theorem gdP_ne {m : Nat} {cp : Nat → Nat → Nat} {l i j : Nat} : gdP m cp l i j ↔ wiL m cp l i j ≠ wiL m cp l j i := by
  unfold gdP pfB
  simp only [decide_eq_true_eq]
  omega
theorem k_complete {m : Nat} {cp : Nat → Nat → Nat} (B : cB m cp) {G : Nat → Nat → Int32} {l : Nat} (h : isL G 18 m cp l) {n : Nat} (hn : n ≤ 8) : ∃ r, C_LE_isComplete_12 G (nI n) = some r ∧ tr r (cmP m cp l n) := by
  have hm := B.1
  have inner : ∀ i, i < n → ∃ r, lp (fun q => C_LE_isComplete_12_s2 (nI n) (nI i) G q) FU (nI (i + 1)) = some r ∧ ((r = .inl (nI (i + 1)) ∧ ∀ b, i < b → b < n → gdP m cp l i b) ∨ (r = .inr 0 ∧ ∃ b, i < b ∧ b < n ∧ ¬ gdP m cp l i b)) := by
    intro i hi
    refine lp_ex (st := fun q => C_LE_isComplete_12_s2 (nI n) (nI i) G q) (fun j q => q = nI j ∧ ∀ b, i < b → b < j → gdP m cp l i b) _ (i + 1) n (by omega) (by omega) (fun j q h1 hj ⟨e, hv⟩ => ?_) (fun q ⟨e, hv⟩ => ?_) _ ⟨rfl, fun b h1 h2 => by omega⟩
    · have hl := (k_cellI_12 (G := G) (show i < 8 by omega) (show j < 8 by omega)).2
      rw [h i j (by omega) (by omega)] at hl
      have b1 := wiL_le m cp l i j
      have b2 := wiL_le m cp l j i
      by_cases q0 : wiL m cp l i j = wiL m cp l j i
      · refine Or.inr ⟨.inr 0, ?_, Or.inr ⟨rfl, j, by omega, hj, fun g => gdP_ne.mp g q0⟩⟩
        rw [e]
        show C_LE_isComplete_12_s2 (nI n) (nI i) G (nI j) = _
        unfold C_LE_isComplete_12_s2
        rw [if_neg (nI_ge hj (by omega)), bd_of hl, if_pos ((i_eq0 (by omega) (by omega)).mpr q0)]
      · refine Or.inl ⟨nI (j + 1), ?_, rfl, fun b h1 h2 => ?_⟩
        · rw [e]
          show C_LE_isComplete_12_s2 (nI n) (nI i) G (nI j) = _
          unfold C_LE_isComplete_12_s2
          rw [if_neg (nI_ge hj (by omega)), bd_of hl, if_neg (fun h => q0 ((i_eq0 (by omega) (by omega)).mp h))]
          dsimp only [nm]
          rw [nI_1]
        · rcases Nat.lt_or_ge b j with q | q
          · exact hv b h1 q
          · have : b = j := by omega
            subst this
            exact gdP_ne.mpr q0
    · refine ⟨.inl (nI (i + 1)), ?_, Or.inl ⟨rfl, hv⟩⟩
      rw [e]
      show C_LE_isComplete_12_s2 (nI n) (nI i) G (nI n) = _
      unfold C_LE_isComplete_12_s2
      rw [if_pos (nI_le (Nat.le_refl _) (by omega))]
      dsimp only [nm]
      rw [nI_1]
  unfold C_LE_isComplete_12
  refine lp_ex (st := fun q => C_LE_isComplete_12_s1 (nI n) G q) (fun i q => q = nI i ∧ ∀ a b, a < i → a < b → b < n → gdP m cp l a b) _ 0 n (by omega) (by omega) (fun i q _ hi ⟨e, hv⟩ => ?_) (fun q ⟨e, hv⟩ => ?_) _ ⟨rfl, fun a b h1 h2 => by omega⟩
  · obtain ⟨r, h1, h2⟩ := inner i hi
    have hst : C_LE_isComplete_12_s1 (nI n) G q = some r := by
      rw [e]
      unfold C_LE_isComplete_12_s1
      rw [if_neg (nI_ge hi (by omega))]
      dsimp only [nm]
      rw [nI_1, h1]
    rcases h2 with ⟨e2, hg⟩ | ⟨e2, b, hb1, hb2, hb3⟩
    · refine Or.inl ⟨nI (i + 1), by rw [← e2]; exact hst, rfl, fun a b h1 h2 h3 => ?_⟩
      rcases Nat.lt_or_ge a i with q | q
      · exact hv a b q h2 h3
      · have : a = i := by omega
        subst this
        exact hg b h2 h3
    · exact Or.inr ⟨0, by rw [← e2]; exact hst, Or.inr ⟨rfl, fun hc => hb3 (hc i b hb1 hb2)⟩⟩
  · refine ⟨1, ?_, Or.inl ⟨rfl, fun i j h1 h2 => hv i j (by omega) h1 h2⟩⟩
    show C_LE_isComplete_12_s1 (nI n) G q = _
    rw [e]
    unfold C_LE_isComplete_12_s1
    rw [if_pos (nI_le (Nat.le_refl _) (by omega))]
theorem m_complete {m : Nat} {cp : Nat → Nat → Nat} (B : cB m cp) {h : Nat → Nat → Int32} (H : isM h m cp) {n : Nat} (h1 : h 1 0 = nI n) (hn : n ≤ 8) {l : Nat} (hl : l < 8) : ∃ r, M_isComplete h (nI l) = some r ∧ tr r (cmP m cp l n) := by
  have inner : ∀ i x (p : Prop), i < n → tr x p → ∃ r, lp (fun q => M_isComplete_s2 (nI l) (nI i) h q.1 q.2) FU (x, nI (i + 1)) = some r ∧ tr r (p ∧ ∀ b, i < b → b < n → gdP m cp l i b) := by
    intro i x p hi hx
    refine lp_iv (st := fun q => M_isComplete_s2 (nI l) (nI i) h q.1 q.2) (fun j q => q.2 = nI j ∧ tr q.1 (p ∧ ∀ b, i < b → b < j → gdP m cp l i b)) _ (i + 1) n (by omega) (by omega) (fun j q hj1 hj ⟨e, hv⟩ => ?_) (fun q ⟨e, hv⟩ => ?_) _ ⟨rfl, tr_iff hx ⟨fun h => ⟨h, fun b h1 h2 => by omega⟩, fun h => h.1⟩⟩
    · have ho : (if q.1 = 0 then (some (0 : Int32)) else (bd (M_prefers h (nI l) (nI i) (nI j)) fun r35 => if r35 = 0 then (bd (M_prefers h (nI l) (nI j) (nI i)) fun r38 => if r38 = 0 then (some (0 : Int32)) else (some (1 : Int32))) else (some (1 : Int32)))) = some (if q.1 = 0 then 0 else b2i (pfB m cp l i j || pfB m cp l j i)) := by
        by_cases q0 : q.1 = 0
        · rw [if_pos q0, if_pos q0]
        · rw [if_neg q0, if_neg q0, bd_of (m_prefersB H B hl (by omega) (by omega)), bd_of (m_prefersB H B hl (by omega) (by omega))]
          cases pfB m cp l i j <;> cases pfB m cp l j i <;> rfl
      refine ⟨(if q.1 = 0 then 0 else b2i (pfB m cp l i j || pfB m cp l j i), nI (j + 1)), ?_, rfl, ?_⟩
      · show M_isComplete_s2 (nI l) (nI i) h q.1 q.2 = _
        unfold M_isComplete_s2
        rw [e, h1, if_neg (nI_ge hj (by omega)), bd_of ho]
        dsimp only [nm]
        rw [nI_1]
      · have hb : (p ∧ ∀ b, i < b → b < j + 1 → gdP m cp l i b) ↔ ((p ∧ ∀ b, i < b → b < j → gdP m cp l i b) ∧ gdP m cp l i j) := by
          constructor
          · exact fun hh => ⟨⟨hh.1, fun b h1 h2 => hh.2 b h1 (by omega)⟩, hh.2 j (by omega) (by omega)⟩
          · refine fun hh => ⟨hh.1.1, fun b h1 h2 => ?_⟩
            rcases Nat.lt_or_ge b j with q | q
            · exact hh.1.2 b h1 q
            · have : b = j := by omega
              subst this
              exact hh.2
        refine tr_iff ?_ hb.symm
        rcases hv with ⟨v1, v2⟩ | ⟨v1, v2⟩
        · rw [v1, if_neg (by decide)]
          refine tr_iff (tr_b _) ?_
          rw [Bool.or_eq_true]
          exact ⟨fun h => ⟨v2, h⟩, fun h => h.2⟩
        · rw [v1, if_pos rfl]
          exact Or.inr ⟨rfl, fun h => v2 h.1⟩
    · refine ⟨q.1, ?_, hv⟩
      show M_isComplete_s2 (nI l) (nI i) h q.1 q.2 = _
      unfold M_isComplete_s2
      rw [e, h1, if_pos (nI_le (Nat.le_refl _) (by omega))]
  obtain ⟨r, e1, e2⟩ := lp_iv (st := fun q => M_isComplete_s1 (nI l) h q.1 q.2) (fun i q => q.2 = nI i ∧ tr q.1 (∀ a b, a < i → a < b → b < n → gdP m cp l a b)) (fun r => tr r (cmP m cp l n)) 0 n (by omega) (by omega) (fun i q _ hi ⟨e, hv⟩ => by
      obtain ⟨r, g1, g2⟩ := inner i q.1 _ hi hv
      refine ⟨(r, nI (i + 1)), ?_, rfl, tr_iff g2 ⟨fun hh a b h1 h2 h3 => ?_, fun hh => ⟨fun a b h1 h2 h3 => hh a b (by omega) h2 h3, fun b h1 h2 => hh i b (by omega) h1 h2⟩⟩⟩
      · show M_isComplete_s1 (nI l) h q.1 q.2 = _
        unfold M_isComplete_s1
        rw [e, h1, if_neg (nI_ge hi (by omega))]
        dsimp only [nm]
        rw [nI_1, bd_of g1]
      · rcases Nat.lt_or_ge a i with q | q
        · exact hh.1 a b q h2 h3
        · have : a = i := by omega
          subst this
          exact hh.2 b h2 h3) (fun q ⟨e, hv⟩ => by
      refine ⟨q.1, ?_, tr_iff hv ⟨fun hh i j h1 h2 => hh i j (by omega) h1 h2, fun hh a b h1 h2 h3 => hh a b h2 h3⟩⟩
      show M_isComplete_s1 (nI l) h q.1 q.2 = _
      unfold M_isComplete_s1
      rw [e, h1, if_pos (nI_le (Nat.le_refl _) (by omega))]) ((1 : Int32), (0 : Int32)) ⟨rfl, Or.inl ⟨rfl, fun a b h1 h2 => by omega⟩⟩
  refine ⟨r, ?_, e2⟩
  unfold M_isComplete
  rw [bd_of e1, gd_of (show r = 0 ∨ r = 1 from e2.elim (fun h => Or.inr h.1) (fun h => Or.inl h.1))]
/-! agreement -/
def ppD (m : Nat) (cp : Nat → Nat → Nat) (k l i j : Nat) : Nat := if ((pfB m cp k i j && pfB m cp l i j) || (pfB m cp k j i && pfB m cp l j i)) = true then 1 else 0
def pnD (m : Nat) (cp : Nat → Nat → Nat) (k l i j : Nat) : Nat := if ((pfB m cp k i j && pfB m cp l j i) || (pfB m cp k j i && pfB m cp l i j)) = true then 1 else 0
def sq2 (f : Nat → Nat → Nat) (n i : Nat) : Nat := fb_sm (fun t => f i (i + 1 + t)) (n - (i + 1))
def sq1 (f : Nat → Nat → Nat) (n : Nat) : Nat := fb_sm (fun i => sq2 f n i) n
theorem sq1_le {f : Nat → Nat → Nat} (hf : ∀ i j, f i j ≤ 1) {n : Nat} (hn : n ≤ 8) : sq1 f n ≤ 56 := by
  have h2 : ∀ i, sq2 f n i ≤ 7 := fun i => by
    have h := fb_sm_bound (f := fun t => f i (i + 1 + t)) (c := 1) (n := n - (i + 1)) (fun k _ => hf _ _)
    unfold sq2; omega
  have h := fb_sm_bound (f := fun i => sq2 f n i) (c := 7) (n := n) (fun k _ => h2 k)
  unfold sq1; omega
theorem ppD_le (m : Nat) (cp : Nat → Nat → Nat) (k l i j : Nat) : ppD m cp k l i j ≤ 1 := by unfold ppD; split <;> omega
theorem pnD_le (m : Nat) (cp : Nat → Nat → Nat) (k l i j : Nat) : pnD m cp k l i j ≤ 1 := by unfold pnD; split <;> omega
theorem i_cross (a b c d : Int32) : a - b + (c - d) = (a + c) - (b + d) := by grind
theorem i_bal (s a b c d : Int32) : s + (a - b) + (c - d) = s + ((a + c) - (b + d)) := by grind
theorem itr_bal (p a b : Nat → Nat) (st : Nat) (x y : Int32) : ∀ d, itr (fun i (z : Int32 × Int32) => (z.1 + nI (p i), z.2 + (nI (a i) - nI (b i)))) st d (x, y) = (x + nI (fb_sm (fun t => p (st + t)) d), y + (nI (fb_sm (fun t => a (st + t)) d) - nI (fb_sm (fun t => b (st + t)) d)))
  | 0 => by
    show (x, y) = (x + nI 0, y + (nI 0 - nI 0))
    rw [i_a0, i_s0, i_a0]
  | d + 1 => by
    rw [itr, itr_bal p a b st x y d, fb_sm_succ, fb_sm_succ, fb_sm_succ, ← nI_add, ← nI_add, ← nI_add, i_assoc, i_bal]
theorem pf_ex {m : Nat} {cp : Nat → Nat → Nat} {l i j : Nat} (h : pfB m cp l i j = true) : pfB m cp l j i = false := by
  unfold pfB at *
  rw [decide_eq_true_eq] at h
  rw [decide_eq_false_iff_not]
  omega
theorem m_agrees {m : Nat} {cp : Nat → Nat → Nat} (B : cB m cp) {h : Nat → Nat → Int32} (H : isM h m cp) {k l i j : Nat} (hk : k < 8) (hl : l < 8) (hi : i < 8) (hj : j < 8) : M_agrees h (nI k) (nI l) (nI i) (nI j) = some (nI (ppD m cp k l i j) - nI (pnD m cp k l i j)) := by
  unfold M_agrees
  simp only [m_prefersB H B hk hi hj, m_prefersB H B hk hj hi, m_prefersB H B hl hi hj, m_prefersB H B hl hj hi]
  unfold ppD pnD
  have x1 := pf_ex (m := m) (cp := cp) (l := k) (i := i) (j := j)
  have x2 := pf_ex (m := m) (cp := cp) (l := l) (i := i) (j := j)
  revert x1 x2
  cases pfB m cp k i j <;> cases pfB m cp k j i <;> cases pfB m cp l i j <;> cases pfB m cp l j i <;> intro x1 x2 <;> first | rfl | exact absurd (x1 rfl) (by decide) | exact absurd (x2 rfl) (by decide) | decide
theorem z_pp {a b : Nat} (ha : a ≤ 1) (hb : b ≤ 1) (hab : a + b ≤ 1) : (if nI a - nI b = 0 then (some (0 : Int32)) else (some (1 : Int32))) = some (nI (a + b)) := by
  have h1 : a = 0 ∨ a = 1 := by omega
  have h2 : b = 0 ∨ b = 1 := by omega
  rcases h1 with rfl | rfl <;> rcases h2 with rfl | rfl <;> first | rfl | decide | (exfalso; omega)
theorem pn_pp {m : Nat} {cp : Nat → Nat → Nat} {k l i j : Nat} : ppD m cp k l i j + pnD m cp k l i j ≤ 1 := by
  have x1 := pf_ex (m := m) (cp := cp) (l := k) (i := i) (j := j)
  have x2 := pf_ex (m := m) (cp := cp) (l := l) (i := i) (j := j)
  unfold ppD pnD
  revert x1 x2
  cases pfB m cp k i j <;> cases pfB m cp k j i <;> cases pfB m cp l i j <;> cases pfB m cp l j i <;> intro x1 x2 <;> first | exact absurd (x1 rfl) (by decide) | exact absurd (x2 rfl) (by decide) | decide
theorem m_agreeL {m : Nat} {cp : Nat → Nat → Nat} (B : cB m cp) {h : Nat → Nat → Int32} (H : isM h m cp) {n : Nat} (h1 : h 1 0 = nI n) (hn : n ≤ 8) {k l : Nat} (hk : k < 8) (hl : l < 8) : lp (fun q => M_agreement_s1 (nI k) (nI l) h q.1 q.2.1 q.2.2) FU ((0 : Int32), (0 : Int32), (0 : Int32)) = some (nI (sq1 (ppD m cp k l) n) - nI (sq1 (pnD m cp k l) n), nI (sq1 (fun i j => ppD m cp k l i j + pnD m cp k l i j) n)) := by
  have inner : ∀ i x y, i < n → lp (fun q => M_agreement_s2 (nI k) (nI l) (nI i) h q.1 q.2.1 q.2.2) FU (x, y, nI (i + 1)) = some (x + (nI (sq2 (ppD m cp k l) n i) - nI (sq2 (pnD m cp k l) n i)), y + nI (sq2 (fun i j => ppD m cp k l i j + pnD m cp k l i j) n i)) := by
    intro i x y hi
    have e := lp_up (st := fun q => M_agreement_s2 (nI k) (nI l) (nI i) h q.1 q.2.1 q.2.2) (r := (x + (nI (sq2 (ppD m cp k l) n i) - nI (sq2 (pnD m cp k l) n i)), y + nI (sq2 (fun i j => ppD m cp k l i j + pnD m cp k l i j) n i))) (fun j => (x + (nI (fb_sm (fun t => ppD m cp k l i (i + 1 + t)) (j - (i + 1))) - nI (fb_sm (fun t => pnD m cp k l i (i + 1 + t)) (j - (i + 1)))), y + nI (fb_sm (fun t => ppD m cp k l i (i + 1 + t) + pnD m cp k l i (i + 1 + t)) (j - (i + 1))), nI j)) (i + 1) n (by omega) (by omega) (fun j h1' hj => by
        show M_agreement_s2 (nI k) (nI l) (nI i) h _ _ (nI j) = _
        unfold M_agreement_s2
        rw [h1, if_neg (nI_ge hj (by omega)), bd_of (m_agrees B H hk hl (show i < 8 by omega) (show j < 8 by omega))]
        dsimp only [nm]
        rw [bd_of (z_pp (ppD_le m cp k l i j) (pnD_le m cp k l i j) pn_pp), nI_1]
        have e1 : j + 1 - (i + 1) = (j - (i + 1)) + 1 := by omega
        have e2 : i + 1 + (j - (i + 1)) = j := by omega
        rw [e1, fb_sm_succ, fb_sm_succ, fb_sm_succ, e2, ← nI_add (fb_sm _ _) (ppD m cp k l i j), ← nI_add (fb_sm _ _) (pnD m cp k l i j), ← nI_add (fb_sm _ _) (ppD m cp k l i j + pnD m cp k l i j), i_assoc x, i_assoc y, i_cross]) (by
        show M_agreement_s2 (nI k) (nI l) (nI i) h _ _ (nI n) = _
        unfold M_agreement_s2
        rw [h1, if_pos (nI_le (Nat.le_refl _) (by omega))]
        rfl)
    simp only [Nat.sub_self] at e
    rw [← e]
    show _ = lp _ FU (x + (nI 0 - nI 0), y + nI 0, nI (i + 1))
    rw [i_a0, i_s0, i_a0]
  have e := lp_up (st := fun q => M_agreement_s1 (nI k) (nI l) h q.1 q.2.1 q.2.2) (r := (nI (sq1 (ppD m cp k l) n) - nI (sq1 (pnD m cp k l) n), nI (sq1 (fun i j => ppD m cp k l i j + pnD m cp k l i j) n))) (fun i => (nI (fb_sm (fun i => sq2 (ppD m cp k l) n i) i) - nI (fb_sm (fun i => sq2 (pnD m cp k l) n i) i), nI (fb_sm (fun i => sq2 (fun i j => ppD m cp k l i j + pnD m cp k l i j) n i) i), nI i)) 0 n (by omega) (by omega) (fun i _ hi => by
      show M_agreement_s1 (nI k) (nI l) h _ _ (nI i) = _
      unfold M_agreement_s1
      rw [h1, if_neg (nI_ge hi (by omega))]
      dsimp only [nm]
      rw [nI_1, bd2_of (inner i _ _ hi), i_cross, nI_add, nI_add, nI_add, fb_sm_succ, fb_sm_succ, fb_sm_succ]) (by
      show M_agreement_s1 (nI k) (nI l) h _ _ (nI n) = _
      unfold M_agreement_s1
      rw [h1, if_pos (nI_le (Nat.le_refl _) (by omega))]
      rfl)
  rw [← e]
  show _ = lp _ FU (nI 0 - nI 0, nI 0, nI 0)
  rw [i_s0]
  rfl
theorem k_agreeL {m : Nat} {cp : Nat → Nat → Nat} (B : cB m cp) {G : Nat → Nat → Int32} {n : Nat} (h0 : G 0 0 = nI n) (hn : n ≤ 8) {k l : Nat} (hk : isL G 18 m cp k) (hl : isL G 19 m cp l) : lp (fun q => C_LT_agreement_s1 G q.1 q.2.1 q.2.2) FU ((0 : Int32), (0 : Int32), (0 : Int32)) = some (nI (sq1 (fun i j => ppD m cp k l i j + pnD m cp k l i j) n), nI (sq1 (ppD m cp k l) n) - nI (sq1 (pnD m cp k l) n)) := by
  have hm := B.1
  have hst : ∀ i j x y, i < n → j < n → C_LT_agreement_s2 (nI i) G x y (nI j) = some (.inl (x + nI (ppD m cp k l i j + pnD m cp k l i j), y + (nI (ppD m cp k l i j) - nI (pnD m cp k l i j)), nI (j + 1))) := by
    intro i j x y hi hj
    have e1 := (k_cellI_12 (G := G) (show i < 8 by omega) (show j < 8 by omega)).2
    have e2 := k_lead_14 (G := G) (show i < 8 by omega) (show j < 8 by omega)
    rw [hk i j (by omega) (by omega)] at e1
    rw [hl i j (by omega) (by omega)] at e2
    have a1 := wiL_le m cp k i j
    have a2 := wiL_le m cp k j i
    have a3 := wiL_le m cp l i j
    have a4 := wiL_le m cp l j i
    unfold C_LT_agreement_s2
    rw [h0, if_neg (nI_ge hj (by omega)), bd_of e1, bd_of e2]
    dsimp only [nm]
    simp only [i_eq0 (show wiL m cp k i j < 1000 by omega) (show wiL m cp k j i < 1000 by omega), i_eq0 (show wiL m cp l i j < 1000 by omega) (show wiL m cp l j i < 1000 by omega), i_le0 (show wiL m cp k i j < 1000 by omega) (show wiL m cp k j i < 1000 by omega), i_le0 (show wiL m cp l i j < 1000 by omega) (show wiL m cp l j i < 1000 by omega), nI_1]
    unfold ppD pnD pfB
    simp only [Bool.or_eq_true, Bool.and_eq_true, decide_eq_true_eq]
    have z1 : nI 1 - nI 0 = (1 : Int32) := by decide
    have z2 : nI 0 - nI 1 = (-1 : Int32) := by decide
    have z0 : nI 0 - nI 0 = nI 0 := by decide
    have y1 : nI 1 = (1 : Int32) := rfl
    (repeat' split) <;> first | (exfalso; omega; done) | (simp only [bd, bd2, z0, z1, z2, Nat.add_zero, Nat.zero_add, i_a0, y1]; done) | (simp only [bd, bd2, z0, z1, z2, Nat.add_zero, Nat.zero_add, i_a0]; rfl)
  have inner : ∀ i x y, i < n → lp (fun q => C_LT_agreement_s2 (nI i) G q.1 q.2.1 q.2.2) FU (x, y, nI (i + 1)) = some (x + nI (sq2 (fun i j => ppD m cp k l i j + pnD m cp k l i j) n i), y + (nI (sq2 (ppD m cp k l) n i) - nI (sq2 (pnD m cp k l) n i))) := by
    intro i x y hi
    have e := lp_A2 (st := fun q => C_LT_agreement_s2 (nI i) G q.1 q.2.1 q.2.2) (fun j (z : Int32 × Int32) => (z.1 + nI (ppD m cp k l i j + pnD m cp k l i j), z.2 + (nI (ppD m cp k l i j) - nI (pnD m cp k l i j)))) (fun z => z) (i + 1) n (x, y) (by omega) (by omega) (fun j x y _ hj => hst i j x y hi hj) (fun x y => by
      show C_LT_agreement_s2 (nI i) G x y (nI n) = _
      unfold C_LT_agreement_s2
      rw [h0, if_pos (nI_le (Nat.le_refl _) (by omega))])
    rw [itr_bal] at e
    exact e
  have e := lp_up (st := fun q => C_LT_agreement_s1 G q.1 q.2.1 q.2.2) (r := (nI (sq1 (fun i j => ppD m cp k l i j + pnD m cp k l i j) n), nI (sq1 (ppD m cp k l) n) - nI (sq1 (pnD m cp k l) n))) (fun i => (nI (fb_sm (fun i => sq2 (fun i j => ppD m cp k l i j + pnD m cp k l i j) n i) i), nI (fb_sm (fun i => sq2 (ppD m cp k l) n i) i) - nI (fb_sm (fun i => sq2 (pnD m cp k l) n i) i), nI i)) 0 n (by omega) (by omega) (fun i _ hi => by
      show C_LT_agreement_s1 G _ _ (nI i) = _
      unfold C_LT_agreement_s1
      rw [h0, if_neg (nI_ge hi (by omega))]
      dsimp only [nm]
      rw [nI_1, bd2_of (inner i _ _ hi), i_cross, nI_add, nI_add, nI_add, fb_sm_succ, fb_sm_succ, fb_sm_succ]) (by
      show C_LT_agreement_s1 G _ _ (nI n) = _
      unfold C_LT_agreement_s1
      rw [h0, if_pos (nI_le (Nat.le_refl _) (by omega))]
      rfl)
  rw [← e]
  show _ = lp _ FU (nI 0, nI 0 - nI 0, nI 0)
  rw [i_s0]
  rfl
