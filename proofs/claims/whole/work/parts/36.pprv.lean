/-! PROVED PAIRS -/
abbrev PS : Type := Nat × (Nat → Nat) × (Nat → Nat) × (Nat → Int64)
def spos (c : Nat → Int64) (x : Int64) : Nat → Nat
  | 0 => 0
  | k + 1 => if x < c k then spos c x k else k + 1
theorem spos_le (c : Nat → Int64) (x : Int64) : ∀ k, spos c x k ≤ k
  | 0 => Nat.le_refl 0
  | k + 1 => by
    have := spos_le c x k
    rw [spos]
    split <;> omega
theorem spos_eq {c : Nat → Int64} {x : Int64} {j : Nat} : ∀ {k : Nat}, j ≤ k → (∀ t, j ≤ t → t < k → x < c t) → (j = 0 ∨ ¬ x < c (j - 1)) → spos c x k = j
  | 0, h, _, _ => by
    have : j = 0 := by omega
    rw [this]; rfl
  | k + 1, h, h1, h2 => by
    rw [spos]
    by_cases q : j = k + 1
    · rw [q] at h2
      rcases h2 with h2 | h2
      · omega
      · rw [Nat.add_sub_cancel] at h2
        rw [if_neg h2, q]
    · rw [if_pos (h1 k (by omega) (by omega))]
      exact spos_eq (by omega) (fun t t1 t2 => h1 t t1 (by omega)) h2
def shf {α : Type} (a : Nat → α) (p : Nat) (v : α) : Nat → α := fun t => if t < p then a t else if t = p then v else a (t - 1)
def insP (st : PS) (i j : Nat) (x : Int64) : PS := (st.1 + 1, shf st.2.1 (spos st.2.2.2 x st.1) i, shf st.2.2.1 (spos st.2.2.2 x st.1) j, shf st.2.2.2 (spos st.2.2.2 x st.1) x)
def pB (st : PS) : Prop := ∀ t, t < st.1 → st.2.1 t < 8 ∧ st.2.2.1 t < 8
theorem pB_ins {st : PS} {i j : Nat} {x : Int64} (h : pB st) (hi : i < 8) (hj : j < 8) : pB (insP st i j x) := by
  intro t ht
  have ht : t < st.1 + 1 := ht
  have hp := spos_le st.2.2.2 x st.1
  show shf st.2.1 _ i t < 8 ∧ shf st.2.2.1 _ j t < 8
  unfold shf
  by_cases q1 : t < spos st.2.2.2 x st.1
  · rw [if_pos q1, if_pos q1]; exact h t (by omega)
  · rw [if_neg q1, if_neg q1]
    by_cases q2 : t = spos st.2.2.2 x st.1
    · rw [if_pos q2, if_pos q2]; exact ⟨hi, hj⟩
    · rw [if_neg q2, if_neg q2]; exact h (t - 1) (by omega)
def stpP (m : Nat) (cp : Nat → Nat → Nat) (i j : Nat) (st : PS) : PS := if 0 < wiA m cp i j + wiA m cp j i then insP st i j (chv (wiA m cp i j) (wiA m cp j i)) else st
def rowP (m : Nat) (cp : Nat → Nat → Nat) (n i : Nat) (st : PS) : PS := itr (fun j st => stpP m cp i j st) (i + 1) (n - (i + 1)) st
def allP (m : Nat) (cp : Nat → Nat → Nat) (n : Nat) : PS := itr (fun i st => rowP m cp n i st) 0 n (0, fun _ => 0, fun _ => 0, fun _ => 0)
def cnP (n i : Nat) : Nat := fb_sm (fun a => n - (a + 1)) i
theorem cnP_lt : ∀ n, n < 9 → ∀ i, i < n → ∀ j, j < n → i < j → cnP n i + (j - (i + 1)) < 28 := by decide +kernel
theorem lg_gt0 {x y : Int64} : (lg_cmp x y ≤ 0) ↔ ¬ y < x := by
  rw [lg_cmp_le]
  exact Int64.not_lt.symm
/-- what the memory holds of the pairs -/
def isPk (g : Nat → Nat → Int32) (e : Nat → Nat → Int64) (st : PS) : Prop := g 40 0 = nI st.1 ∧ ∀ t, t < st.1 → g 39 t = nI (8 * st.2.1 t + st.2.2.1 t) ∧ e 0 t = st.2.2.2 t
theorem k_ins {g : Nat → Nat → Int32} {e : Nat → Nat → Int64} {st : PS} (h : isPk g e st) (hk : st.1 < 28) {i j : Nat} (hi : i < 8) (hj : j < 8) (x : Int64) : ∃ g2 e2, C_PP_insert g e (nI (8 * i + j)) x = some (g2, e2) ∧ eqx [39, 40] g g2 ∧ eqx [0] e e2 ∧ isPk g2 e2 (insP st i j x) := by
  obtain ⟨k, hkk⟩ : ∃ k, k = st.1 := ⟨_, rfl⟩
  have h40 := h.1
  rw [← hkk] at hk h40
  obtain ⟨r, e1, e2, e3, e4, e5, e6⟩ := lp_ex (st := fun q => C_PP_insert_s1 x q.1 q.2.1 q.2.2) (fun d q => q.1 = nI (k - d) ∧ eqx [39] g q.2.1 ∧ eqx [0] e q.2.2 ∧ (∀ t, k - d ≤ t → t < k → x < st.2.2.2 t) ∧ ∀ t, t < k + 1 → t ≠ k - d → q.2.1 39 t = g 39 (if k - d < t then t - 1 else t) ∧ q.2.2 0 t = e 0 (if k - d < t then t - 1 else t)) (fun r => r.1 = nI (spos st.2.2.2 x k) ∧ eqx [39] g r.2.1 ∧ eqx [0] e r.2.2 ∧ (∀ t, t < k + 1 → t ≠ spos st.2.2.2 x k → r.2.1 39 t = g 39 (if spos st.2.2.2 x k < t then t - 1 else t)) ∧ ∀ t, t < k + 1 → t ≠ spos st.2.2.2 x k → r.2.2 0 t = e 0 (if spos st.2.2.2 x k < t then t - 1 else t)) 0 k (by omega) (by omega) (fun d q _ hd ⟨q1, q2, q3, q4, q5⟩ => by
      have hc : q.2.2 0 (k - d - 1) = st.2.2.2 (k - d - 1) := by
        rw [(q5 (k - d - 1) (by omega) (by omega)).2, if_neg (by omega)]
        exact (h.2 _ (by omega)).2
      have hx1 : nI (k - d) - (1 : Int32) = nI (k - d - 1) := by rw [show (1 : Int32) = nI 1 from rfl, pk_sub (by omega)]
      have hst : C_PP_insert_s1 x q.1 q.2.1 q.2.2 = if lg_cmp (st.2.2.2 (k - d - 1)) x ≤ 0 then (some (.inr (nI (k - d), q.2.1, q.2.2))) else (some (.inl (nI (k - (d + 1)), wr q.2.1 39 (nI (k - d)) (q.2.1 39 (k - d - 1)), wr q.2.2 0 (nI (k - d)) (q.2.2 0 (k - d - 1))))) := by
        unfold C_PP_insert_s1
        rw [q1, if_neg (nI_nle (by omega) (by omega)), hx1, ri_k (show k - d - 1 < 28 by omega) (by decide), nI_clamp (show k - d - 1 < 2 ^ 31 by omega), hc, ri_k (show k - d - 1 < 28 by omega) (by decide), ri_k (show k - d < 28 by omega) (by decide)]
        dsimp only [nm]
        rw [ri_k (show k - d - 1 < 28 by omega) (by decide), ri_k (show k - d < 28 by omega) (by decide), sb_m1 (show 0 < k - d by omega)]
        rfl
      by_cases c : x < st.2.2.2 (k - d - 1)
      · refine Or.inl ⟨(nI (k - (d + 1)), wr q.2.1 39 (nI (k - d)) (q.2.1 39 (k - d - 1)), wr q.2.2 0 (nI (k - d)) (q.2.2 0 (k - d - 1))), ?_, rfl, eqx_tr q2 (eqx_wr (by decide)), eqx_tr q3 (eqx_wr (by decide)), fun t t1 t2 => ?_, fun t t1 t2 => ?_⟩
        · show C_PP_insert_s1 x q.1 q.2.1 q.2.2 = _
          rw [hst, if_neg (fun hh => lg_gt0.mp hh c)]
        · by_cases u : t = k - d - 1
          · rw [u]; exact c
          · exact q4 t (by omega) t2
        · dsimp only
          rw [wr_ap, if_pos rfl, wr_ap, if_pos rfl, nI_clamp (show k - d < 2 ^ 31 by omega)]
          by_cases u : t = k - d
          · have v := q5 (k - d - 1) (by omega) (by omega)
            rw [if_neg (by omega)] at v
            rw [if_pos u, if_pos u, v.1, v.2, if_pos (by omega), u]
            exact ⟨rfl, rfl⟩
          · rw [if_neg u, if_neg u]
            have v := q5 t t1 u
            have e7 : (if k - d < t then t - 1 else t) = if k - (d + 1) < t then t - 1 else t := by
              by_cases u2 : k - d < t
              · rw [if_pos u2, if_pos (by omega)]
              · rw [if_neg u2, if_neg (by omega)]
            rw [e7] at v
            exact v
      · have hp : spos st.2.2.2 x k = k - d := spos_eq (by omega) q4 (Or.inr c)
        refine Or.inr ⟨(nI (k - d), q.2.1, q.2.2), ?_, by rw [hp], q2, q3, fun t t1 t2 => ?_, fun t t1 t2 => ?_⟩
        · show C_PP_insert_s1 x q.1 q.2.1 q.2.2 = _
          rw [hst, if_pos (lg_gt0.mpr c)]
        · rw [hp] at t2 ⊢
          exact (q5 t t1 t2).1
        · rw [hp] at t2 ⊢
          exact (q5 t t1 t2).2) (fun q ⟨q1, q2, q3, q4, q5⟩ => by
      have hp : spos st.2.2.2 x k = 0 := spos_eq (by omega) (fun t t1 t2 => q4 t (by omega) t2) (Or.inl rfl)
      refine ⟨(q.1, q.2.1, q.2.2), ?_, by rw [hp, q1, Nat.sub_self], q2, q3, fun t t1 t2 => ?_, fun t t1 t2 => ?_⟩
      · show C_PP_insert_s1 x q.1 q.2.1 q.2.2 = _
        unfold C_PP_insert_s1
        rw [q1, Nat.sub_self, if_pos (show nI 0 ≤ (0 : Int32) by decide)]
      · rw [Nat.sub_self] at q5
        rw [hp] at t2 ⊢
        exact (q5 t t1 t2).1
      · rw [Nat.sub_self] at q5
        rw [hp] at t2 ⊢
        exact (q5 t t1 t2).2) (nI k, g, e) ⟨rfl, eqx_rf, eqx_rf, fun t t1 t2 => by omega, fun t t1 t2 => by
        rw [Nat.sub_zero] at t2 ⊢
        rw [if_neg (by omega)]
        exact ⟨rfl, rfl⟩⟩
  have hple := spos_le st.2.2.2 x k
  obtain ⟨p, hp⟩ : ∃ p, p = spos st.2.2.2 x k := ⟨_, rfl⟩
  rw [← hp] at e2 e5 e6 hple
  refine ⟨wf (wr r.2.1 39 (nI p) (nI (8 * i + j))) 40 (nI (k + 1)), wr r.2.2 0 (nI p) x, ?_, eqx_tr (eqx_sub e3 (by decide)) (eqx_tr (eqx_wr (by decide)) (eqx_wf (by decide))), eqx_tr e4 (eqx_wr (by decide)), ?_, fun t ht => ?_⟩
  · unfold C_PP_insert
    dsimp only [nm]
    rw [h40, if_pos (show nI k < (28 : Int32) from nI_lt hk (by decide)), bd3_of (a := r.1) (b := r.2.1) (c := r.2.2) e1, e2, ri_k (show p < 28 by omega) (by decide), ri_k (show p < 28 by omega) (by decide), wr_ne (by decide), e3 40 (by decide), h40, nI_1]
  · show wf _ 40 _ 40 0 = nI (st.1 + 1)
    rw [wf_ap, if_pos rfl, hkk]
  · have ht : t < st.1 + 1 := ht
    show wf _ 40 _ 39 t = nI (8 * shf st.2.1 _ i t + shf st.2.2.1 _ j t) ∧ wr _ 0 _ _ 0 t = shf st.2.2.2 _ x t
    rw [← hkk, ← hp, wf_ne (by decide), wr_ap, if_pos rfl, wr_ap, if_pos rfl, nI_clamp (by omega)]
    unfold shf
    by_cases u1 : t < p
    · have u3 : ¬ t = p := by omega
      have u4 : ¬ p < t := by omega
      simp only [if_pos u1, if_neg u3]
      rw [e5 t (by omega) u3, e6 t (by omega) u3, if_neg u4]
      exact h.2 t (by omega)
    · simp only [if_neg u1]
      by_cases u2 : t = p
      · simp only [if_pos u2, and_self]
      · simp only [if_neg u2]
        rw [e5 t (by omega) u2, e6 t (by omega) u2, if_pos (show p < t by omega)]
        exact h.2 (t - 1) (by omega)
/-- what the memory holds of the pairs -/
def isPm (g : Nat → Nat → Int32) (e : Nat → Nat → Int64) (st : PS) : Prop := g 32 0 = nI st.1 ∧ ∀ t, t < st.1 → g 33 t = nI (10 * st.2.1 t + st.2.2.1 t) ∧ e 34 t = st.2.2.2 t
theorem m_ins {g : Nat → Nat → Int32} {e : Nat → Nat → Int64} {st : PS} (h : isPm g e st) (hk : st.1 < 28) {i j : Nat} (hi : i < 8) (hj : j < 8) (x : Int64) : ∃ g2 e2, M_addPair g e (nI i) (nI j) x = some (g2, e2) ∧ eqx [33, 32] g g2 ∧ eqx [34] e e2 ∧ isPm g2 e2 (insP st i j x) := by
  obtain ⟨k, hkk⟩ : ∃ k, k = st.1 := ⟨_, rfl⟩
  have h40 := h.1
  rw [← hkk] at hk h40
  obtain ⟨r, e1, e2, e3, e4, e5, e6⟩ := lp_ex (st := fun q => M_addPair_s1 x q.1 q.2.1 q.2.2) (fun d q => q.1 = nI (k - d) ∧ eqx [33] g q.2.1 ∧ eqx [34] e q.2.2 ∧ (∀ t, k - d ≤ t → t < k → x < st.2.2.2 t) ∧ ∀ t, t < k + 1 → t ≠ k - d → q.2.1 33 t = g 33 (if k - d < t then t - 1 else t) ∧ q.2.2 34 t = e 34 (if k - d < t then t - 1 else t)) (fun r => r.1 = nI (spos st.2.2.2 x k) ∧ eqx [33] g r.2.1 ∧ eqx [34] e r.2.2 ∧ (∀ t, t < k + 1 → t ≠ spos st.2.2.2 x k → r.2.1 33 t = g 33 (if spos st.2.2.2 x k < t then t - 1 else t)) ∧ ∀ t, t < k + 1 → t ≠ spos st.2.2.2 x k → r.2.2 34 t = e 34 (if spos st.2.2.2 x k < t then t - 1 else t)) 0 k (by omega) (by omega) (fun d q _ hd ⟨q1, q2, q3, q4, q5⟩ => by
      have hc : q.2.2 34 (k - d - 1) = st.2.2.2 (k - d - 1) := by
        rw [(q5 (k - d - 1) (by omega) (by omega)).2, if_neg (by omega)]
        exact (h.2 _ (by omega)).2
      have hx1 : nI (k - d) - (1 : Int32) = nI (k - d - 1) := by rw [show (1 : Int32) = nI 1 from rfl, pk_sub (by omega)]
      have hst : M_addPair_s1 x q.1 q.2.1 q.2.2 = if lg_cmp (st.2.2.2 (k - d - 1)) x ≤ 0 then (some (.inr (nI (k - d), q.2.1, q.2.2))) else (some (.inl (nI (k - (d + 1)), wr q.2.1 33 (nI (k - d)) (q.2.1 33 (k - d - 1)), wr q.2.2 34 (nI (k - d)) (q.2.2 34 (k - d - 1))))) := by
        unfold M_addPair_s1
        rw [q1, if_neg (nI_nle (by omega) (by omega)), hx1, ri_k (show k - d - 1 < 28 by omega) (by decide), nI_clamp (show k - d - 1 < 2 ^ 31 by omega), hc, ri_k (show k - d - 1 < 28 by omega) (by decide), ri_k (show k - d < 28 by omega) (by decide)]
        dsimp only [nm]
        rw [ri_k (show k - d - 1 < 28 by omega) (by decide), ri_k (show k - d < 28 by omega) (by decide), sb_m1 (show 0 < k - d by omega)]
        rfl
      by_cases c : x < st.2.2.2 (k - d - 1)
      · refine Or.inl ⟨(nI (k - (d + 1)), wr q.2.1 33 (nI (k - d)) (q.2.1 33 (k - d - 1)), wr q.2.2 34 (nI (k - d)) (q.2.2 34 (k - d - 1))), ?_, rfl, eqx_tr q2 (eqx_wr (by decide)), eqx_tr q3 (eqx_wr (by decide)), fun t t1 t2 => ?_, fun t t1 t2 => ?_⟩
        · show M_addPair_s1 x q.1 q.2.1 q.2.2 = _
          rw [hst, if_neg (fun hh => lg_gt0.mp hh c)]
        · by_cases u : t = k - d - 1
          · rw [u]; exact c
          · exact q4 t (by omega) t2
        · dsimp only
          rw [wr_ap, if_pos rfl, wr_ap, if_pos rfl, nI_clamp (show k - d < 2 ^ 31 by omega)]
          by_cases u : t = k - d
          · have v := q5 (k - d - 1) (by omega) (by omega)
            rw [if_neg (by omega)] at v
            rw [if_pos u, if_pos u, v.1, v.2, if_pos (by omega), u]
            exact ⟨rfl, rfl⟩
          · rw [if_neg u, if_neg u]
            have v := q5 t t1 u
            have e7 : (if k - d < t then t - 1 else t) = if k - (d + 1) < t then t - 1 else t := by
              by_cases u2 : k - d < t
              · rw [if_pos u2, if_pos (by omega)]
              · rw [if_neg u2, if_neg (by omega)]
            rw [e7] at v
            exact v
      · have hp : spos st.2.2.2 x k = k - d := spos_eq (by omega) q4 (Or.inr c)
        refine Or.inr ⟨(nI (k - d), q.2.1, q.2.2), ?_, by rw [hp], q2, q3, fun t t1 t2 => ?_, fun t t1 t2 => ?_⟩
        · show M_addPair_s1 x q.1 q.2.1 q.2.2 = _
          rw [hst, if_pos (lg_gt0.mpr c)]
        · rw [hp] at t2 ⊢
          exact (q5 t t1 t2).1
        · rw [hp] at t2 ⊢
          exact (q5 t t1 t2).2) (fun q ⟨q1, q2, q3, q4, q5⟩ => by
      have hp : spos st.2.2.2 x k = 0 := spos_eq (by omega) (fun t t1 t2 => q4 t (by omega) t2) (Or.inl rfl)
      refine ⟨(q.1, q.2.1, q.2.2), ?_, by rw [hp, q1, Nat.sub_self], q2, q3, fun t t1 t2 => ?_, fun t t1 t2 => ?_⟩
      · show M_addPair_s1 x q.1 q.2.1 q.2.2 = _
        unfold M_addPair_s1
        rw [q1, Nat.sub_self, if_pos (show nI 0 ≤ (0 : Int32) by decide)]
      · rw [Nat.sub_self] at q5
        rw [hp] at t2 ⊢
        exact (q5 t t1 t2).1
      · rw [Nat.sub_self] at q5
        rw [hp] at t2 ⊢
        exact (q5 t t1 t2).2) (nI k, g, e) ⟨rfl, eqx_rf, eqx_rf, fun t t1 t2 => by omega, fun t t1 t2 => by
        rw [Nat.sub_zero] at t2 ⊢
        rw [if_neg (by omega)]
        exact ⟨rfl, rfl⟩⟩
  have hple := spos_le st.2.2.2 x k
  obtain ⟨p, hp⟩ : ∃ p, p = spos st.2.2.2 x k := ⟨_, rfl⟩
  rw [← hp] at e2 e5 e6 hple
  refine ⟨wf (wr r.2.1 33 (nI p) (nI (10 * i + j))) 32 (nI (k + 1)), wr r.2.2 34 (nI p) x, ?_, eqx_tr (eqx_sub e3 (by decide)) (eqx_tr (eqx_wr (by decide)) (eqx_wf (by decide))), eqx_tr e4 (eqx_wr (by decide)), ?_, fun t ht => ?_⟩
  · unfold M_addPair
    dsimp only [nm]
    rw [h40, bd3_of (a := r.1) (b := r.2.1) (c := r.2.2) e1, e2, ri_k (show p < 28 by omega) (by decide), ri_k (show p < 28 by omega) (by decide), wr_ne (by decide), e3 32 (by decide), h40, nI_1, show (10 : Int32) = nI 10 from rfl, pk_mul, nI_add]
  · show wf _ 32 _ 32 0 = nI (st.1 + 1)
    rw [wf_ap, if_pos rfl, hkk]
  · have ht : t < st.1 + 1 := ht
    show wf _ 32 _ 33 t = nI (10 * shf st.2.1 _ i t + shf st.2.2.1 _ j t) ∧ wr _ 34 _ _ 34 t = shf st.2.2.2 _ x t
    rw [← hkk, ← hp, wf_ne (by decide), wr_ap, if_pos rfl, wr_ap, if_pos rfl, nI_clamp (by omega)]
    unfold shf
    by_cases u1 : t < p
    · have u3 : ¬ t = p := by omega
      have u4 : ¬ p < t := by omega
      simp only [if_pos u1, if_neg u3]
      rw [e5 t (by omega) u3, e6 t (by omega) u3, if_neg u4]
      exact h.2 t (by omega)
    · simp only [if_neg u1]
      by_cases u2 : t = p
      · simp only [if_pos u2, and_self]
      · simp only [if_neg u2]
        rw [e5 t (by omega) u2, e6 t (by omega) u2, if_pos (show p < t by omega)]
        exact h.2 (t - 1) (by omega)
