/-! PLANS: the list of trials, drawn and shuffled, both sides -/
abbrev TA : Type := Nat → Nat × Nat
def rnd (X : Nat) : Nat := (1103515245 * X + 12345) % 2147483648
def drw (X k : Nat) : Nat := X / 65536 % k
theorem rnd_lt (X : Nat) : rnd X < 2147483648 := Nat.mod_lt _ (by decide)
def lsP (i j : Nat) (st : Nat × TA) : Nat × TA := (st.1 + 1, va_up st.2 st.1 (i, j))
def lsR (n i : Nat) (st : Nat × TA) : Nat × TA := itr (fun j st => lsP i j st) (i + 1) (n - (i + 1)) st
def lsA (n : Nat) (st : Nat × TA) : Nat × TA := itr (fun i st => lsR n i st) 0 n st
def lsT (n r : Nat) : Nat × TA := itr (fun _ st => lsA n st) 0 r (0, fun _ => (0, 0))
def exP (k : Nat) (st : Nat × TA) : Nat × TA := (rnd st.1, if drw (rnd st.1) 2 = 1 then va_up st.2 k ((st.2 k).2, (st.2 k).1) else st.2)
def shP (T d : Nat) (st : Nat × TA) : Nat × TA := (rnd st.1, va_up (va_up st.2 (T - 1 - d) (st.2 (drw (rnd st.1) (T - 1 - d + 1)))) (drw (rnd st.1) (T - 1 - d + 1)) (st.2 (T - 1 - d)))
def trN (n r : Nat) : Nat := r * cnP n n
/-- the trials of a plan -/
def trP (n r s : Nat) : TA := (itr (fun d st => shP (trN n r) d st) 0 (trN n r - 1) (itr (fun k st => exP k st) 0 (trN n r) (s, (lsT n r).2))).2
def okA (a : TA) (T n : Nat) : Prop := ∀ t, t < T → (a t).1 < n ∧ (a t).2 < n ∧ (a t).1 ≠ (a t).2
theorem cnP_in : ∀ n, n < 9 → ∀ i, i < n → ∀ j, j < n → i < j → cnP n i + (j - (i + 1)) < cnP n n := by decide +kernel
theorem trN_I : ∀ n, n < 9 → ∀ r, r < 3 → (nI r * (nI n * (nI n - (1 : Int32)) / (2 : Int32))) = nI (trN n r) ∧ trN n r ≤ 56 := by decide +kernel
theorem trN_pos : ∀ n, n < 9 → 2 ≤ n → 1 ≤ cnP n n := by decide +kernel
theorem okA_up {a : TA} {k n i j : Nat} (h : okA a k n) (hi : i < n) (hj : j < n) (hij : i ≠ j) : okA (va_up a k (i, j)) (k + 1) n := by
  intro t ht
  rw [up_ap]
  by_cases u : t = k
  · rw [if_pos u]; exact ⟨hi, hj, hij⟩
  · rw [if_neg u]; exact h t (by omega)
/-! the generator -/
theorem k_rnd {tn X : Nat} (hX : X < 2147483648) : P_nextRandom tn (lN X) = lN (rnd X) := by
  unfold P_nextRandom
  rw [show (1103515245 : Int64) = lN 1103515245 from rfl, show (12345 : Int64) = lN 12345 from rfl, lN_mul, lN_add, show (2147483647 : Int64) = lN (2 ^ 31 - 1) from rfl, fb_maskL]
  rfl
theorem k_drawn {tn X k : Nat} (hX : X < 2147483648) (hk : 0 < k) (hk2 : k < 1000) : P_drawn tn (lN X) (nI k) = some (nI (drw X k)) := by
  unfold P_drawn
  rw [if_neg (show ¬ nI k ≤ (0 : Int32) from (nI_ge hk (by omega) : ¬ nI k ≤ nI 0)), nI_l (by omega), gd_of (show ¬ lN k = 0 from fun e => by have := (lN_eq (a := k) (b := 0) (by omega) (by omega)).mp e; omega), show (65536 : Int64) = lN 65536 from rfl, pk_lDiv (by omega) (by decide) (by decide), pk_lRem (by omega) hk (by omega), lN_i]
  rfl
theorem m_draw {E : Nat → Nat → Int64} {X k : Nat} (hX : X < 2147483648) (hE : E 22 0 = lN X) (hk : 0 < k) (hk2 : k < 1000) : M_draw E (nI k) = some (nI (drw (rnd X) k), wf E 22 (lN (rnd X))) := by
  have h1 := rnd_lt X
  unfold M_draw
  dsimp only [nm]
  rw [hE, show (1103515245 : Int64) = lN 1103515245 from rfl, show (12345 : Int64) = lN 12345 from rfl, lN_mul, lN_add, show (2147483648 : Int64) = lN 2147483648 from rfl, pk_lRem (by omega) (by decide) (by decide), wf_ap, if_pos rfl, nI_l (by omega), gd_of (show ¬ lN k = 0 from fun e => by have := (lN_eq (a := k) (b := 0) (by omega) (by omega)).mp e; omega), show (65536 : Int64) = lN 65536 from rfl]
  have h2 : (1103515245 * X + 12345) % 2147483648 < 2147483648 := h1
  rw [pk_lDiv (by omega) (by decide) (by decide), pk_lRem (by omega) hk (by omega), lN_i]
  rfl
/-! the class's list -/
theorem p_cell {tn i j : Nat} (hi : i < 8) (hj : j < 8) : P_cell tn (nI i) (nI j) = nI (8 * i + j) := c8_cell i hi j hj
def isA (g : Nat → Nat → Int32) (r f : Nat) (T : Nat) (a : TA) : Prop := ∀ t, t < T → g r t = nI (f * (a t).1 + (a t).2)
theorem isA_put {g : Nat → Nat → Int32} {r f k i j : Nat} {a : TA} (h : isA g r f k a) (hk : k < 2 ^ 31) : isA (wr g r (nI k) (nI (f * i + j))) r f (k + 1) (va_up a k (i, j)) := by
  intro t ht
  rw [wr_ap, if_pos rfl, nI_clamp hk, up_ap]
  by_cases u : t = k
  · rw [if_pos u, if_pos u]
  · rw [if_neg u, if_neg u]; exact h t (by omega)
theorem k_list {n r : Nat} (hn : n ≤ 8) (hr : r ≤ 2) (g0 : Nat → Nat → Int32) : ∃ g, P_listTrials (trN n r) g0 (nI n) (nI r) = some g ∧ eqx [1] g0 g ∧ (lsT n r).1 = trN n r ∧ isA g 1 8 (trN n r) (lsT n r).2 ∧ okA (lsT n r).2 (trN n r) n := by
  have hT := (trN_I n (by omega) r (by omega)).2
  have row : ∀ i x g st, i < n → eqx [1] g0 g → st.1 = x + cnP n i → x + cnP n n ≤ trN n r → isA g 1 8 st.1 st.2 → okA st.2 st.1 n → ∃ v, lp (fun q => P_listTrials_s3 (trN n r) (nI n) (nI i) q.1 q.2.1 q.2.2) FU (nI st.1, nI (i + 1), g) = some v ∧ (v.1 = nI (lsR n i st).1 ∧ eqx [1] g0 v.2 ∧ (lsR n i st).1 = x + cnP n (i + 1) ∧ isA v.2 1 8 (lsR n i st).1 (lsR n i st).2 ∧ okA (lsR n i st).2 (lsR n i st).1 n) := by
    intro i x g st hi hg hst hx hA hB
    obtain ⟨v, e1, e2, e3, e4, e5, e6⟩ := lp_iv (st := fun q => P_listTrials_s3 (trN n r) (nI n) (nI i) q.1 q.2.1 q.2.2) (fun j q => q.2.1 = nI j ∧ q.1 = nI (itr (fun j st => lsP i j st) (i + 1) (j - (i + 1)) st).1 ∧ eqx [1] g0 q.2.2 ∧ (itr (fun j st => lsP i j st) (i + 1) (j - (i + 1)) st).1 = x + cnP n i + (j - (i + 1)) ∧ isA q.2.2 1 8 (itr (fun j st => lsP i j st) (i + 1) (j - (i + 1)) st).1 (itr (fun j st => lsP i j st) (i + 1) (j - (i + 1)) st).2 ∧ okA (itr (fun j st => lsP i j st) (i + 1) (j - (i + 1)) st).2 (itr (fun j st => lsP i j st) (i + 1) (j - (i + 1)) st).1 n) (fun v => v.1 = nI (lsR n i st).1 ∧ eqx [1] g0 v.2 ∧ (lsR n i st).1 = x + cnP n i + (n - (i + 1)) ∧ isA v.2 1 8 (lsR n i st).1 (lsR n i st).2 ∧ okA (lsR n i st).2 (lsR n i st).1 n) (i + 1) n (by omega) (by omega) (fun j q hj1 hj ⟨q1, q2, q3, q4, q5, q6⟩ => by
        have hc := cnP_in n (by omega) i hi j hj (by omega)
        have hup := itr_up (fun j st => lsP i j st) (i + 1) (i := j) hj1 st
        obtain ⟨s, hs⟩ : ∃ s, s = itr (fun j st => lsP i j st) (i + 1) (j - (i + 1)) st := ⟨_, rfl⟩
        rw [← hs] at q2 q4 q5 q6 hup
        rw [hup]
        refine ⟨(nI (s.1 + 1), nI (j + 1), wr q.2.2 1 (nI s.1) (nI (8 * i + j))), ?_, rfl, rfl, eqx_tr q3 (eqx_wr (by decide)), ?_, isA_put q5 (by omega), okA_up q6 (by omega) (by omega) (by omega)⟩
        · show P_listTrials_s3 (trN n r) (nI n) (nI i) q.1 q.2.1 q.2.2 = _
          unfold P_listTrials_s3
          rw [q1, q2, if_neg (nI_ge hj (by omega)), if_neg (nI_ge (show s.1 < trN n r by omega) (by omega)), p_cell (by omega) (by omega)]
          dsimp only [nm]
          rw [ri_k (show s.1 < trN n r by omega) (by omega), nI_1, nI_1]
        · show s.1 + 1 = _
          omega) (fun q ⟨q1, q2, q3, q4, q5, q6⟩ => by
        refine ⟨(q.1, q.2.2), ?_, q2, q3, q4, q5, q6⟩
        show P_listTrials_s3 (trN n r) (nI n) (nI i) q.1 q.2.1 q.2.2 = _
        unfold P_listTrials_s3
        rw [q1, if_pos (nI_le (Nat.le_refl _) (by omega))]) (nI st.1, nI (i + 1), g) ⟨rfl, by rw [Nat.sub_self]; rfl, hg, by rw [Nat.sub_self]; exact hst, by rw [Nat.sub_self]; exact hA, by rw [Nat.sub_self]; exact hB⟩
    have hs : cnP n (i + 1) = cnP n i + (n - (i + 1)) := fb_sm_succ _ _
    exact ⟨v, e1, e2, e3, by omega, e5, e6⟩
  have all : ∀ x g st, eqx [1] g0 g → st.1 = x → x + cnP n n ≤ trN n r → isA g 1 8 st.1 st.2 → okA st.2 st.1 n → ∃ v, lp (fun q => P_listTrials_s2 (trN n r) (nI n) q.1 q.2.1 q.2.2) FU (nI st.1, (0 : Int32), g) = some v ∧ (v.1 = nI (lsA n st).1 ∧ eqx [1] g0 v.2 ∧ (lsA n st).1 = x + cnP n n ∧ isA v.2 1 8 (lsA n st).1 (lsA n st).2 ∧ okA (lsA n st).2 (lsA n st).1 n) := by
    intro x g st hg hst hx hA hB
    refine lp_iv (st := fun q => P_listTrials_s2 (trN n r) (nI n) q.1 q.2.1 q.2.2) (fun i q => q.2.1 = nI i ∧ q.1 = nI (itr (fun i st => lsR n i st) 0 i st).1 ∧ eqx [1] g0 q.2.2 ∧ (itr (fun i st => lsR n i st) 0 i st).1 = x + cnP n i ∧ isA q.2.2 1 8 (itr (fun i st => lsR n i st) 0 i st).1 (itr (fun i st => lsR n i st) 0 i st).2 ∧ okA (itr (fun i st => lsR n i st) 0 i st).2 (itr (fun i st => lsR n i st) 0 i st).1 n) _ 0 n (by omega) (by omega) (fun i q _ hi ⟨q1, q2, q3, q4, q5, q6⟩ => ?_) (fun q ⟨q1, q2, q3, q4, q5, q6⟩ => ?_) _ ⟨rfl, rfl, hg, hst, hA, hB⟩
    · obtain ⟨v, f1, f2, f3, f4, f5, f6⟩ := row i x q.2.2 _ hi q3 q4 hx q5 q6
      have hit : itr (fun i st => lsR n i st) 0 (i + 1) st = lsR n i (itr (fun i st => lsR n i st) 0 i st) := by rw [itr, Nat.zero_add]
      rw [hit]
      refine ⟨(v.1, nI (i + 1), v.2), ?_, rfl, f2, f3, f4, f5, f6⟩
      show P_listTrials_s2 (trN n r) (nI n) q.1 q.2.1 q.2.2 = _
      unfold P_listTrials_s2
      rw [q1, q2, if_neg (nI_ge hi (by omega))]
      dsimp only [nm]
      rw [nI_1, bd2_of (a := v.1) (b := v.2) f1]
    · refine ⟨(q.1, q.2.2), ?_, q2, q3, q4, q5, q6⟩
      show P_listTrials_s2 (trN n r) (nI n) q.1 q.2.1 q.2.2 = _
      unfold P_listTrials_s2
      rw [q1, if_pos (nI_le (Nat.le_refl _) (by omega))]
  obtain ⟨g, e1, e2, e3, e4, e5⟩ := lp_iv (st := fun q => P_listTrials_s1 (trN n r) (nI n) (nI r) q.1 q.2.1 q.2.2) (fun t q => q.2.1 = nI t ∧ q.1 = nI (itr (fun _ st => lsA n st) 0 t (0, fun _ => (0, 0))).1 ∧ eqx [1] g0 q.2.2 ∧ (itr (fun _ st => lsA n st) 0 t (0, fun _ => (0, 0))).1 = t * cnP n n ∧ isA q.2.2 1 8 (itr (fun _ st => lsA n st) 0 t (0, fun _ => (0, 0))).1 (itr (fun _ st => lsA n st) 0 t (0, fun _ => (0, 0))).2 ∧ okA (itr (fun _ st => lsA n st) 0 t (0, fun _ => (0, 0))).2 (itr (fun _ st => lsA n st) 0 t (0, fun _ => (0, 0))).1 n) (fun g => eqx [1] g0 g ∧ (lsT n r).1 = trN n r ∧ isA g 1 8 (lsT n r).1 (lsT n r).2 ∧ okA (lsT n r).2 (lsT n r).1 n) 0 r (by omega) (by omega) (fun t q _ ht ⟨q1, q2, q3, q4, q5, q6⟩ => by
      have hx : t * cnP n n + cnP n n ≤ trN n r := by
        have := Nat.mul_le_mul_right (cnP n n) (show t + 1 ≤ r by omega)
        rw [Nat.add_mul, Nat.one_mul] at this
        exact this
      obtain ⟨v, f1, f2, f3, f4, f5, f6⟩ := all (t * cnP n n) q.2.2 _ q3 q4 hx q5 q6
      have hit : itr (fun _ st => lsA n st) 0 (t + 1) (0, fun _ => (0, 0)) = lsA n (itr (fun _ st => lsA n st) 0 t (0, fun _ => (0, 0))) := by rw [itr]
      rw [hit]
      refine ⟨(v.1, nI (t + 1), v.2), ?_, rfl, f2, f3, by rw [f4, Nat.add_mul, Nat.one_mul], f5, f6⟩
      show P_listTrials_s1 (trN n r) (nI n) (nI r) q.1 q.2.1 q.2.2 = _
      unfold P_listTrials_s1
      rw [q1, q2, if_neg (nI_ge ht (by omega)), bd2_of (a := v.1) (b := v.2) f1]
      dsimp only [nm]
      rw [nI_1]) (fun q ⟨q1, q2, q3, q4, q5, q6⟩ => by
      refine ⟨q.2.2, ?_, q3, q4, q5, q6⟩
      show P_listTrials_s1 (trN n r) (nI n) (nI r) q.1 q.2.1 q.2.2 = _
      unfold P_listTrials_s1
      rw [q1, if_pos (nI_le (Nat.le_refl _) (by omega))]) ((0 : Int32), (0 : Int32), g0) ⟨rfl, rfl, eqx_rf, by rw [Nat.zero_mul]; rfl, fun t ht => by
        have ht : t < 0 := ht
        omega, fun t ht => by
        have ht : t < 0 := ht
        omega⟩
  rw [e3] at e4 e5
  exact ⟨g, by unfold P_listTrials; rw [bd_of e1], e2, e3, e4, e5⟩
/-! the reference's list -/
theorem m_list {n r : Nat} (hn : n ≤ 8) (hr : r ≤ 2) {h0 : Nat → Nat → Int32} (h1 : h0 1 0 = nI n) : ∃ g, M_listTrials h0 (nI r) = some g ∧ eqx [10, 12] h0 g ∧ g 10 0 = nI (trN n r) ∧ isA g 12 10 (trN n r) (lsT n r).2 ∧ okA (lsT n r).2 (trN n r) n := by
  have hT := (trN_I n (by omega) r (by omega)).2
  have row : ∀ i x g st, i < n → eqx [10, 12] h0 g → g 10 0 = nI st.1 → st.1 = x + cnP n i → x + cnP n n ≤ trN n r → isA g 12 10 st.1 st.2 → okA st.2 st.1 n → ∃ v, lp (fun q => M_listTrials_s3 (nI i) q.1 q.2) FU (nI (i + 1), g) = some v ∧ (v 10 0 = nI (lsR n i st).1 ∧ eqx [10, 12] h0 v ∧ (lsR n i st).1 = x + cnP n (i + 1) ∧ isA v 12 10 (lsR n i st).1 (lsR n i st).2 ∧ okA (lsR n i st).2 (lsR n i st).1 n) := by
    intro i x g st hi hg hg10 hst hx hA hB
    obtain ⟨v, e1, e2, e3, e4, e5, e6⟩ := lp_iv (st := fun q => M_listTrials_s3 (nI i) q.1 q.2) (fun j q => q.1 = nI j ∧ q.2 10 0 = nI (itr (fun j st => lsP i j st) (i + 1) (j - (i + 1)) st).1 ∧ eqx [10, 12] h0 q.2 ∧ (itr (fun j st => lsP i j st) (i + 1) (j - (i + 1)) st).1 = x + cnP n i + (j - (i + 1)) ∧ isA q.2 12 10 (itr (fun j st => lsP i j st) (i + 1) (j - (i + 1)) st).1 (itr (fun j st => lsP i j st) (i + 1) (j - (i + 1)) st).2 ∧ okA (itr (fun j st => lsP i j st) (i + 1) (j - (i + 1)) st).2 (itr (fun j st => lsP i j st) (i + 1) (j - (i + 1)) st).1 n) (fun v => v 10 0 = nI (lsR n i st).1 ∧ eqx [10, 12] h0 v ∧ (lsR n i st).1 = x + cnP n i + (n - (i + 1)) ∧ isA v 12 10 (lsR n i st).1 (lsR n i st).2 ∧ okA (lsR n i st).2 (lsR n i st).1 n) (i + 1) n (by omega) (by omega) (fun j q hj1 hj ⟨q1, q2, q3, q4, q5, q6⟩ => by
        have hc := cnP_in n (by omega) i hi j hj (by omega)
        have q10 : q.2 1 0 = nI n := by rw [q3 1 (by decide)]; exact h1
        have hup := itr_up (fun j st => lsP i j st) (i + 1) (i := j) hj1 st
        obtain ⟨s, hs⟩ : ∃ s, s = itr (fun j st => lsP i j st) (i + 1) (j - (i + 1)) st := ⟨_, rfl⟩
        rw [← hs] at q2 q4 q5 q6 hup
        rw [hup]
        have hput := isA_put (i := i) (j := j) q5 (show s.1 < 2 ^ 31 by omega)
        refine ⟨(nI (j + 1), wf (wr q.2 12 (nI s.1) (nI (10 * i + j))) 10 (nI (s.1 + 1))), ?_, rfl, ?_, eqx_tr q3 (eqx_tr (eqx_wr (by decide)) (eqx_wf (by decide))), ?_, ?_, okA_up q6 (by omega) (by omega) (by omega)⟩
        · show M_listTrials_s3 (nI i) q.1 q.2 = _
          unfold M_listTrials_s3
          rw [q1, q2, q10, if_neg (nI_ge hj (by omega)), ri_k (show s.1 < 56 by omega) (by decide)]
          dsimp only [nm]
          rw [wr_ne (by decide), q2, show (10 : Int32) = nI 10 from rfl, pk_mul, nI_add, nI_1, nI_1]
        · dsimp only
          rw [wf_ap, if_pos rfl]
          rfl
        · show s.1 + 1 = _
          omega
        · intro t ht
          dsimp only
          rw [wf_ne (by decide)]
          exact hput t ht) (fun q ⟨q1, q2, q3, q4, q5, q6⟩ => by
        have q10 : q.2 1 0 = nI n := by rw [q3 1 (by decide)]; exact h1
        refine ⟨q.2, ?_, q2, q3, q4, q5, q6⟩
        show M_listTrials_s3 (nI i) q.1 q.2 = _
        unfold M_listTrials_s3
        rw [q1, q10, if_pos (nI_le (Nat.le_refl _) (by omega))]) (nI (i + 1), g) ⟨rfl, by rw [Nat.sub_self]; exact hg10, hg, by rw [Nat.sub_self]; exact hst, by rw [Nat.sub_self]; exact hA, by rw [Nat.sub_self]; exact hB⟩
    have hs : cnP n (i + 1) = cnP n i + (n - (i + 1)) := fb_sm_succ _ _
    exact ⟨v, e1, e2, e3, by omega, e5, e6⟩
  have all : ∀ x g st, eqx [10, 12] h0 g → g 10 0 = nI st.1 → st.1 = x → x + cnP n n ≤ trN n r → isA g 12 10 st.1 st.2 → okA st.2 st.1 n → ∃ v, lp (fun q => M_listTrials_s2 q.1 q.2) FU ((0 : Int32), g) = some v ∧ (v 10 0 = nI (lsA n st).1 ∧ eqx [10, 12] h0 v ∧ (lsA n st).1 = x + cnP n n ∧ isA v 12 10 (lsA n st).1 (lsA n st).2 ∧ okA (lsA n st).2 (lsA n st).1 n) := by
    intro x g st hg hg10 hst hx hA hB
    refine lp_iv (st := fun q => M_listTrials_s2 q.1 q.2) (fun i q => q.1 = nI i ∧ q.2 10 0 = nI (itr (fun i st => lsR n i st) 0 i st).1 ∧ eqx [10, 12] h0 q.2 ∧ (itr (fun i st => lsR n i st) 0 i st).1 = x + cnP n i ∧ isA q.2 12 10 (itr (fun i st => lsR n i st) 0 i st).1 (itr (fun i st => lsR n i st) 0 i st).2 ∧ okA (itr (fun i st => lsR n i st) 0 i st).2 (itr (fun i st => lsR n i st) 0 i st).1 n) _ 0 n (by omega) (by omega) (fun i q _ hi ⟨q1, q2, q3, q4, q5, q6⟩ => ?_) (fun q ⟨q1, q2, q3, q4, q5, q6⟩ => ?_) _ ⟨rfl, hg10, hg, hst, hA, hB⟩
    · have q10 : q.2 1 0 = nI n := by rw [q3 1 (by decide)]; exact h1
      obtain ⟨v, f1, f2, f3, f4, f5, f6⟩ := row i x q.2 _ hi q3 q2 q4 hx q5 q6
      have hit : itr (fun i st => lsR n i st) 0 (i + 1) st = lsR n i (itr (fun i st => lsR n i st) 0 i st) := by rw [itr, Nat.zero_add]
      rw [hit]
      refine ⟨(nI (i + 1), v), ?_, rfl, f2, f3, f4, f5, f6⟩
      show M_listTrials_s2 q.1 q.2 = _
      unfold M_listTrials_s2
      rw [q1, q10, if_neg (nI_ge hi (by omega))]
      dsimp only [nm]
      rw [nI_1, bd_of f1]
    · have q10 : q.2 1 0 = nI n := by rw [q3 1 (by decide)]; exact h1
      refine ⟨q.2, ?_, q2, q3, q4, q5, q6⟩
      show M_listTrials_s2 q.1 q.2 = _
      unfold M_listTrials_s2
      rw [q1, q10, if_pos (nI_le (Nat.le_refl _) (by omega))]
  obtain ⟨g, e1, e2, e3, e4, e5, e6⟩ := lp_iv (st := fun q => M_listTrials_s1 (nI r) q.1 q.2) (fun t q => q.1 = nI t ∧ q.2 10 0 = nI (itr (fun _ st => lsA n st) 0 t (0, fun _ => (0, 0))).1 ∧ eqx [10, 12] h0 q.2 ∧ (itr (fun _ st => lsA n st) 0 t (0, fun _ => (0, 0))).1 = t * cnP n n ∧ isA q.2 12 10 (itr (fun _ st => lsA n st) 0 t (0, fun _ => (0, 0))).1 (itr (fun _ st => lsA n st) 0 t (0, fun _ => (0, 0))).2 ∧ okA (itr (fun _ st => lsA n st) 0 t (0, fun _ => (0, 0))).2 (itr (fun _ st => lsA n st) 0 t (0, fun _ => (0, 0))).1 n) (fun g => g 10 0 = nI (lsT n r).1 ∧ eqx [10, 12] h0 g ∧ (lsT n r).1 = trN n r ∧ isA g 12 10 (lsT n r).1 (lsT n r).2 ∧ okA (lsT n r).2 (lsT n r).1 n) 0 r (by omega) (by omega) (fun t q _ ht ⟨q1, q2, q3, q4, q5, q6⟩ => by
      have hx : t * cnP n n + cnP n n ≤ trN n r := by
        have := Nat.mul_le_mul_right (cnP n n) (show t + 1 ≤ r by omega)
        rw [Nat.add_mul, Nat.one_mul] at this
        exact this
      obtain ⟨v, f1, f2, f3, f4, f5, f6⟩ := all (t * cnP n n) q.2 _ q3 q2 q4 hx q5 q6
      have hit : itr (fun _ st => lsA n st) 0 (t + 1) (0, fun _ => (0, 0)) = lsA n (itr (fun _ st => lsA n st) 0 t (0, fun _ => (0, 0))) := by rw [itr]
      rw [hit]
      refine ⟨(nI (t + 1), v), ?_, rfl, f2, f3, by rw [f4, Nat.add_mul, Nat.one_mul], f5, f6⟩
      show M_listTrials_s1 (nI r) q.1 q.2 = _
      unfold M_listTrials_s1
      rw [q1, if_neg (nI_ge ht (by omega)), bd_of f1]
      dsimp only [nm]
      rw [nI_1]) (fun q ⟨q1, q2, q3, q4, q5, q6⟩ => by
      refine ⟨q.2, ?_, q2, q3, q4, q5, q6⟩
      show M_listTrials_s1 (nI r) q.1 q.2 = _
      unfold M_listTrials_s1
      rw [q1, if_pos (nI_le (Nat.le_refl _) (by omega))]) ((0 : Int32), wf h0 10 (0 : Int32)) ⟨rfl, by
        show wf h0 10 (0 : Int32) 10 0 = nI 0
        rw [wf_ap, if_pos rfl]
        rfl, eqx_wf (by decide), by rw [Nat.zero_mul]; rfl, fun t ht => by
        have ht : t < 0 := ht
        omega, fun t ht => by
        have ht : t < 0 := ht
        omega⟩
  rw [e4] at e2 e5 e6
  refine ⟨g, ?_, e3, e2, e5, e6⟩
  unfold M_listTrials
  dsimp only [nm]
  rw [bd_of e1]
