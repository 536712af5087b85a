/-! PLANS: exchanging and shuffling, both sides -/
theorem okA_ex {a : TA} {T n k : Nat} (h : okA a T n) (hk : k < T) : okA (va_up a k ((a k).2, (a k).1)) T n := by
  intro t ht
  rw [up_ap]
  by_cases u : t = k
  · rw [if_pos u]
    obtain ⟨b1, b2, b3⟩ := h k hk
    exact ⟨b2, b1, fun e => b3 e.symm⟩
  · rw [if_neg u]; exact h t ht
theorem okA_sw {a : TA} {T n k e : Nat} (h : okA a T n) (hk : k < T) (he : e < T) : okA (va_up (va_up a k (a e)) e (a k)) T n := by
  intro t ht
  rw [up_ap, up_ap]
  by_cases u : t = e
  · rw [if_pos u]; exact h k hk
  · rw [if_neg u]
    by_cases v : t = k
    · rw [if_pos v]; exact h e he
    · rw [if_neg v]; exact h t ht
theorem isA_set {g : Nat → Nat → Int32} {r f T k : Nat} {a : TA} {p : Nat × Nat} (h : isA g r f T a) (hk : k < 2 ^ 31) : isA (wr g r (nI k) (nI (f * p.1 + p.2))) r f T (va_up a k p) := by
  intro t ht
  rw [wr_ap, if_pos rfl, nI_clamp hk, up_ap]
  by_cases u : t = k
  · rw [if_pos u, if_pos u]
  · rw [if_neg u, if_neg u]; exact h t ht
theorem k_firstAt {T n t : Nat} {g : Nat → Nat → Int32} {a : TA} (hT : T < 1000) (hn : n ≤ 8) (hA : isA g 1 8 T a) (hB : okA a T n) (ht : t < T) : P_firstAt T g (nI t) = some (nI (a t).1) ∧ P_secondAt T g (nI t) = some (nI (a t).2) := by
  obtain ⟨b1, b2, b3⟩ := hB t ht
  obtain ⟨s1, s2⟩ := f_sh8 (a t).1 (by omega) (a t).2 (by omega)
  unfold P_firstAt P_secondAt
  rw [if_neg (nI_pos (by omega)), if_neg (nI_ge ht (by omega)), if_neg (nI_pos (by omega)), if_neg (nI_ge ht (by omega)), ri_k ht (by omega), ri_k ht (by omega), nI_clamp (by omega), hA t ht, s1, s2]
  exact ⟨rfl, rfl⟩
theorem k_exchange {T n s : Nat} (hT : T ≤ 56) (hn : n ≤ 8) (hs : s < 2147483648) {g : Nat → Nat → Int32} {a : TA} (hA : isA g 1 8 T a) (hB : okA a T n) : ∃ g2, P_exchangeSamples T g (nI s) = some (lN (itr (fun k st => exP k st) 0 T (s, a)).1, g2) ∧ eqx [1] g g2 ∧ isA g2 1 8 T (itr (fun k st => exP k st) 0 T (s, a)).2 ∧ okA (itr (fun k st => exP k st) 0 T (s, a)).2 T n ∧ (itr (fun k st => exP k st) 0 T (s, a)).1 < 2147483648 := by
  obtain ⟨v, e1, e2, e3, e4, e5, e6⟩ := lp_iv (st := fun q => P_exchangeSamples_s1 T q.1 q.2.1 q.2.2) (fun k q => q.2.1 = nI k ∧ q.1 = lN (itr (fun k st => exP k st) 0 k (s, a)).1 ∧ eqx [1] g q.2.2 ∧ isA q.2.2 1 8 T (itr (fun k st => exP k st) 0 k (s, a)).2 ∧ okA (itr (fun k st => exP k st) 0 k (s, a)).2 T n ∧ (itr (fun k st => exP k st) 0 k (s, a)).1 < 2147483648) (fun v => v.1 = lN (itr (fun k st => exP k st) 0 T (s, a)).1 ∧ eqx [1] g v.2 ∧ isA v.2 1 8 T (itr (fun k st => exP k st) 0 T (s, a)).2 ∧ okA (itr (fun k st => exP k st) 0 T (s, a)).2 T n ∧ (itr (fun k st => exP k st) 0 T (s, a)).1 < 2147483648) 0 T (by omega) (by omega) (fun k q _ hk ⟨q1, q2, q3, q4, q5, q6⟩ => by
      have hit : itr (fun k st => exP k st) 0 (k + 1) (s, a) = exP k (itr (fun k st => exP k st) 0 k (s, a)) := by rw [itr, Nat.zero_add]
      obtain ⟨st, hst⟩ : ∃ st, st = itr (fun k st => exP k st) 0 k (s, a) := ⟨_, rfl⟩
      rw [← hst] at q2 q4 q5 q6 hit
      rw [hit]
      have hr := rnd_lt st.1
      have hd := k_drawn (tn := T) hr (show 0 < 2 by omega) (by omega)
      have hd2 : drw (rnd st.1) 2 < 2 := Nat.mod_lt _ (by decide)
      obtain ⟨b1, b2, b3⟩ := q5 k hk
      by_cases c : drw (rnd st.1) 2 = 1
      · have hE : (exP k st).2 = va_up st.2 k ((st.2 k).2, (st.2 k).1) := by unfold exP; dsimp only; rw [if_pos c]
        refine ⟨(lN (rnd st.1), nI (k + 1), wr q.2.2 1 (nI k) (nI (8 * (st.2 k).2 + (st.2 k).1))), ?_, rfl, rfl, eqx_tr q3 (eqx_wr (by decide)), by rw [hE]; exact isA_set (p := ((st.2 k).2, (st.2 k).1)) q4 (by omega), by rw [hE]; exact okA_ex q5 hk, hr⟩
        show P_exchangeSamples_s1 T q.1 q.2.1 q.2.2 = _
        unfold P_exchangeSamples_s1
        rw [q1, q2, if_neg (nI_ge hk (by omega)), k_rnd q6]
        dsimp only [nm]
        rw [bd_of (show P_drawn T (lN (rnd st.1)) (2 : Int32) = _ from hd), if_pos (show nI (drw (rnd st.1) 2) = (1 : Int32) by rw [c]; rfl), bd_of (k_firstAt (by omega) hn q4 q5 hk).2, bd_of (k_firstAt (by omega) hn q4 q5 hk).1, p_cell (by omega) (by omega), ri_k hk (by omega), nI_1]
        rfl
      · have hE : (exP k st).2 = st.2 := by unfold exP; dsimp only; rw [if_neg c]
        refine ⟨(lN (rnd st.1), nI (k + 1), q.2.2), ?_, rfl, rfl, q3, by rw [hE]; exact q4, by rw [hE]; exact q5, hr⟩
        show P_exchangeSamples_s1 T q.1 q.2.1 q.2.2 = _
        unfold P_exchangeSamples_s1
        rw [q1, q2, if_neg (nI_ge hk (by omega)), k_rnd q6]
        dsimp only [nm]
        rw [bd_of (show P_drawn T (lN (rnd st.1)) (2 : Int32) = _ from hd), if_neg (show ¬ nI (drw (rnd st.1) 2) = (1 : Int32) from fun e => c ((nE (by omega) (show 1 < 1000 by omega)).mp e)), nI_1]
        rfl) (fun q ⟨q1, q2, q3, q4, q5, q6⟩ => by
      refine ⟨(q.1, q.2.2), ?_, q2, q3, q4, q5, q6⟩
      show P_exchangeSamples_s1 T q.1 q.2.1 q.2.2 = _
      unfold P_exchangeSamples_s1
      rw [q1, if_pos (nI_le (Nat.le_refl _) (by omega))]) (lN s, (0 : Int32), g) ⟨rfl, rfl, eqx_rf, hA, hB, hs⟩
  refine ⟨v.2, ?_, e3, e4, e5, e6⟩
  unfold P_exchangeSamples
  dsimp only [nm]
  rw [nI_l (by omega), bd2_of (a := v.1) (b := v.2) e1, e2]
theorem k_shuffle {T n X : Nat} (hT : T ≤ 56) (hT1 : 1 ≤ T) (hX : X < 2147483648) {g : Nat → Nat → Int32} {a : TA} (hA : isA g 1 8 T a) (hB : okA a T n) : ∃ g2, P_shuffle T g (lN X) = some g2 ∧ eqx [1] g g2 ∧ isA g2 1 8 T (itr (fun d st => shP T d st) 0 (T - 1) (X, a)).2 ∧ okA (itr (fun d st => shP T d st) 0 (T - 1) (X, a)).2 T n := by
  obtain ⟨g2, e1, e2, e3, e4⟩ := lp_iv (st := fun q => P_shuffle_s1 T q.1 q.2.1 q.2.2) (fun d q => q.2.1 = nI (T - 1 - d) ∧ q.1 = lN (itr (fun d st => shP T d st) 0 d (X, a)).1 ∧ eqx [1] g q.2.2 ∧ isA q.2.2 1 8 T (itr (fun d st => shP T d st) 0 d (X, a)).2 ∧ okA (itr (fun d st => shP T d st) 0 d (X, a)).2 T n ∧ (itr (fun d st => shP T d st) 0 d (X, a)).1 < 2147483648) (fun g2 => eqx [1] g g2 ∧ isA g2 1 8 T (itr (fun d st => shP T d st) 0 (T - 1) (X, a)).2 ∧ okA (itr (fun d st => shP T d st) 0 (T - 1) (X, a)).2 T n) 0 (T - 1) (by omega) (by omega) (fun d q _ hd ⟨q1, q2, q3, q4, q5, q6⟩ => by
      have hit : itr (fun d st => shP T d st) 0 (d + 1) (X, a) = shP T d (itr (fun d st => shP T d st) 0 d (X, a)) := by rw [itr, Nat.zero_add]
      obtain ⟨st, hst⟩ : ∃ st, st = itr (fun d st => shP T d st) 0 d (X, a) := ⟨_, rfl⟩
      rw [← hst] at q2 q4 q5 q6 hit
      rw [hit]
      obtain ⟨k, hk⟩ : ∃ k, k = T - 1 - d := ⟨_, rfl⟩
      rw [← hk] at q1
      have hr := rnd_lt st.1
      have hdr := k_drawn (tn := T) hr (show 0 < k + 1 by omega) (by omega)
      have he : drw (rnd st.1) (k + 1) < k + 1 := Nat.mod_lt _ (by omega)
      obtain ⟨e, hee⟩ : ∃ e, e = drw (rnd st.1) (k + 1) := ⟨_, rfl⟩
      rw [← hee] at he hdr
      have hE : shP T d st = (rnd st.1, va_up (va_up st.2 k (st.2 e)) e (st.2 k)) := by unfold shP; rw [← hk, ← hee]
      rw [hE]
      refine ⟨(lN (rnd st.1), nI (T - 1 - (d + 1)), wr (wr q.2.2 1 (nI k) (nI (8 * (st.2 e).1 + (st.2 e).2))) 1 (nI e) (nI (8 * (st.2 k).1 + (st.2 k).2))), ?_, rfl, rfl, eqx_tr q3 (eqx_tr (eqx_wr (by decide)) (eqx_wr (by decide))), isA_set (isA_set q4 (by omega)) (by omega), okA_sw q5 (by omega) (by omega), hr⟩
      show P_shuffle_s1 T q.1 q.2.1 q.2.2 = _
      unfold P_shuffle_s1
      rw [q1, q2, if_neg (show ¬ nI k < (1 : Int32) from nI_nlt (show 1 ≤ k by omega) (by omega)), k_rnd q6, nI_1]
      dsimp only [nm]
      rw [bd_of hdr, ri_k (show k < T by omega) (by omega), ri_k (show e < T by omega) (by omega), ri_k (show k < T by omega) (by omega), ri_k (show e < T by omega) (by omega), nI_clamp (show k < 2 ^ 31 by omega), nI_clamp (show e < 2 ^ 31 by omega), q4 k (by omega), q4 e (by omega), sb_m1 (by omega), hk]
      rfl) (fun q ⟨q1, q2, q3, q4, q5, q6⟩ => by
      refine ⟨q.2.2, ?_, q3, q4, q5⟩
      show P_shuffle_s1 T q.1 q.2.1 q.2.2 = _
      unfold P_shuffle_s1
      rw [q1, Nat.sub_self, if_pos (show nI 0 < (1 : Int32) by decide)]) (lN X, nI (T - 1), g) ⟨rfl, rfl, eqx_rf, hA, hB, hX⟩
  refine ⟨g2, ?_, e2, e3, e4⟩
  unfold P_shuffle
  dsimp only [nm]
  rw [show nI T - (1 : Int32) = nI (T - 1) by rw [show (1 : Int32) = nI 1 from rfl, pk_sub hT1], bd_of e1]
theorem k_init {l n r s : Nat} (hn : n ≤ 8) (hn2 : 2 ≤ n) (hr1 : 1 ≤ r) (hr : r ≤ 2) (hs : s < 2147483648) : ∃ g, P_init (nI l) (nI n) (nI r) (nI s) = some (trN n r, g) ∧ g 0 0 = nI l ∧ isA g 1 8 (trN n r) (trP n r s) ∧ okA (trP n r s) (trN n r) n := by
  obtain ⟨t1, t2⟩ := trN_I n (by omega) r (by omega)
  have hpos := trN_pos n (by omega) hn2
  have hT1 : 1 ≤ trN n r := by
    have := Nat.mul_le_mul hr1 hpos
    unfold trN; omega
  obtain ⟨g1, a1, a2, a3, a4, a5⟩ := k_list hn hr (wf (fun _ _ => 0) 0 (nI l))
  obtain ⟨g2, b1, b2, b3, b4, b5⟩ := k_exchange t2 hn hs a4 a5
  obtain ⟨g3, c1, c2, c3, c4⟩ := k_shuffle t2 hT1 b5 b3 b4
  refine ⟨g3, ?_, ?_, c3, c4⟩
  · unfold P_init
    rw [t1, gd_of (show ¬ nI (trN n r) < 0 ∧ (nI (trN n r)).toNatClampNeg ≤ 56 from ⟨nI_pos (by omega), by rw [nI_clamp (by omega)]; exact t2⟩)]
    dsimp only [nm]
    rw [nI_clamp (by omega), bd_of a1, bd2_of b1, bd_of c1]
  · rw [c2 0 (by decide), b2 0 (by decide), a2 0 (by decide), wf_ap, if_pos rfl]
/-! the reference -/
theorem m_exchange {T n s : Nat} (hT : T ≤ 56) (hn : n ≤ 8) (hs : s < 2147483648) {g : Nat → Nat → Int32} {E : Nat → Nat → Int64} {a : TA} (h10 : g 10 0 = nI T) (hE0 : E 22 0 = lN s) (hA : isA g 12 10 T a) (hB : okA a T n) : ∃ g2 E2, lp (fun q => M_plan_s1 q.1 q.2.1 q.2.2) FU ((0 : Int32), g, E) = some (g2, E2) ∧ eqx [12] g g2 ∧ eqx [22] E E2 ∧ E2 22 0 = lN (itr (fun k st => exP k st) 0 T (s, a)).1 ∧ isA g2 12 10 T (itr (fun k st => exP k st) 0 T (s, a)).2 ∧ okA (itr (fun k st => exP k st) 0 T (s, a)).2 T n ∧ (itr (fun k st => exP k st) 0 T (s, a)).1 < 2147483648 := by
  obtain ⟨v, e1, e2, e3, e4, e5, e6, e7⟩ := lp_iv (st := fun q => M_plan_s1 q.1 q.2.1 q.2.2) (fun k q => q.1 = nI k ∧ eqx [12] g q.2.1 ∧ eqx [22] E q.2.2 ∧ q.2.2 22 0 = lN (itr (fun k st => exP k st) 0 k (s, a)).1 ∧ isA q.2.1 12 10 T (itr (fun k st => exP k st) 0 k (s, a)).2 ∧ okA (itr (fun k st => exP k st) 0 k (s, a)).2 T n ∧ (itr (fun k st => exP k st) 0 k (s, a)).1 < 2147483648) (fun v => eqx [12] g v.1 ∧ eqx [22] E v.2 ∧ v.2 22 0 = lN (itr (fun k st => exP k st) 0 T (s, a)).1 ∧ isA v.1 12 10 T (itr (fun k st => exP k st) 0 T (s, a)).2 ∧ okA (itr (fun k st => exP k st) 0 T (s, a)).2 T n ∧ (itr (fun k st => exP k st) 0 T (s, a)).1 < 2147483648) 0 T (by omega) (by omega) (fun k q _ hk ⟨q1, q2, q3, q4, q5, q6, q7⟩ => by
      have q10 : q.2.1 10 0 = nI T := by rw [q2 10 (by decide)]; exact h10
      have hit : itr (fun k st => exP k st) 0 (k + 1) (s, a) = exP k (itr (fun k st => exP k st) 0 k (s, a)) := by rw [itr, Nat.zero_add]
      obtain ⟨st, hst⟩ : ∃ st, st = itr (fun k st => exP k st) 0 k (s, a) := ⟨_, rfl⟩
      rw [← hst] at q4 q5 q6 q7 hit
      rw [hit]
      have hr := rnd_lt st.1
      have hd := m_draw q7 q4 (show 0 < 2 by omega) (by omega)
      have hd2 : drw (rnd st.1) 2 < 2 := Nat.mod_lt _ (by decide)
      obtain ⟨b1, b2, b3⟩ := q6 k hk
      obtain ⟨F, hF⟩ : ∃ F, F = (st.2 k).1 := ⟨_, rfl⟩
      obtain ⟨S, hS⟩ : ∃ S, S = (st.2 k).2 := ⟨_, rfl⟩
      have q5k := q5 k hk
      rw [← hF] at b1 b3 q5k
      rw [← hS] at b2 b3 q5k
      obtain ⟨p, hp, hpE⟩ : ∃ p : Nat × Nat, (if nI (drw (rnd st.1) 2) = (1 : Int32) then (ri 56 (nI k) <| ri 56 (nI k) <| some (((10 : Int32) * ((q.2.1 12 (nI k).toNatClampNeg) - (q.2.1 12 (nI k).toNatClampNeg) / (10 : Int32) * (10 : Int32))) + ((q.2.1 12 (nI k).toNatClampNeg) / (10 : Int32)))) else (ri 56 (nI k) <| some (q.2.1 12 (nI k).toNatClampNeg))) = some (nI (10 * p.1 + p.2)) ∧ (exP k st).2 = va_up st.2 k p := by
        rw [ri_k (show k < 56 by omega) (by decide), ri_k (show k < 56 by omega) (by decide), ri_k (show k < 56 by omega) (by decide), nI_clamp (show k < 2 ^ 31 by omega), q5k, show (10 : Int32) = nI 10 from rfl, pk_rem (by omega) (by omega) (by omega), pk_div (by omega) (by omega) (by omega), pk_mul, nI_add, show (10 * F + S) % 10 = S by omega, show (10 * F + S) / 10 = F by omega]
        by_cases c : drw (rnd st.1) 2 = 1
        · refine ⟨(S, F), by rw [if_pos (show nI (drw (rnd st.1) 2) = (1 : Int32) by rw [c]; rfl)], ?_⟩
          unfold exP; dsimp only; rw [if_pos c, hF, hS]
        · refine ⟨(F, S), by rw [if_neg (show ¬ nI (drw (rnd st.1) 2) = (1 : Int32) from fun e => c ((nE (by omega) (show 1 < 1000 by omega)).mp e))], ?_⟩
          unfold exP; dsimp only; rw [if_neg c]
          funext t
          rw [up_ap]
          by_cases u : t = k
          · rw [if_pos u, u, hF, hS]
          · rw [if_neg u]
      have hok : okA (exP k st).2 T n := by
        unfold exP
        dsimp only
        split
        · exact okA_ex q6 hk
        · exact q6
      refine ⟨(nI (k + 1), wr q.2.1 12 (nI k) (nI (10 * p.1 + p.2)), wf q.2.2 22 (lN (rnd st.1))), ?_, rfl, eqx_tr q2 (eqx_wr (by decide)), eqx_tr q3 (eqx_wf (by decide)), by dsimp only; rw [wf_ap, if_pos rfl]; rfl, by rw [hpE]; exact isA_set q5 (by omega), hok, hr⟩
      show M_plan_s1 q.1 q.2.1 q.2.2 = _
      unfold M_plan_s1
      rw [q1, q10, if_neg (nI_ge hk (by omega)), bd2_of (show M_draw q.2.2 (2 : Int32) = _ from hd), bd_of hp, ri_k (show k < 56 by omega) (by decide)]
      dsimp only [nm]
      rw [nI_1]) (fun q ⟨q1, q2, q3, q4, q5, q6, q7⟩ => by
      have q10 : q.2.1 10 0 = nI T := by rw [q2 10 (by decide)]; exact h10
      refine ⟨(q.2.1, q.2.2), ?_, q2, q3, q4, q5, q6, q7⟩
      show M_plan_s1 q.1 q.2.1 q.2.2 = _
      unfold M_plan_s1
      rw [q1, q10, if_pos (nI_le (Nat.le_refl _) (by omega))]) ((0 : Int32), g, E) ⟨rfl, eqx_rf, eqx_rf, hE0, hA, hB, hs⟩
  exact ⟨v.1, v.2, e1, e2, e3, e4, e5, e6, e7⟩
theorem m_shuffle {T n X : Nat} (hT : T ≤ 56) (hT1 : 1 ≤ T) (hX : X < 2147483648) {g : Nat → Nat → Int32} {E : Nat → Nat → Int64} {a : TA} (hE0 : E 22 0 = lN X) (hA : isA g 12 10 T a) (hB : okA a T n) : ∃ g2 E2, lp (fun q => M_plan_s2 q.1 q.2.1 q.2.2) FU (nI (T - 1), g, E) = some (g2, E2) ∧ eqx [12] g g2 ∧ eqx [22] E E2 ∧ isA g2 12 10 T (itr (fun d st => shP T d st) 0 (T - 1) (X, a)).2 ∧ okA (itr (fun d st => shP T d st) 0 (T - 1) (X, a)).2 T n := by
  obtain ⟨v, e1, e2, e3, e4, e5⟩ := lp_iv (st := fun q => M_plan_s2 q.1 q.2.1 q.2.2) (fun d q => q.1 = nI (T - 1 - d) ∧ eqx [12] g q.2.1 ∧ eqx [22] E q.2.2 ∧ q.2.2 22 0 = lN (itr (fun d st => shP T d st) 0 d (X, a)).1 ∧ isA q.2.1 12 10 T (itr (fun d st => shP T d st) 0 d (X, a)).2 ∧ okA (itr (fun d st => shP T d st) 0 d (X, a)).2 T n ∧ (itr (fun d st => shP T d st) 0 d (X, a)).1 < 2147483648) (fun v => eqx [12] g v.1 ∧ eqx [22] E v.2 ∧ isA v.1 12 10 T (itr (fun d st => shP T d st) 0 (T - 1) (X, a)).2 ∧ okA (itr (fun d st => shP T d st) 0 (T - 1) (X, a)).2 T n) 0 (T - 1) (by omega) (by omega) (fun d q _ hd ⟨q1, q2, q3, q4, q5, q6, q7⟩ => by
      have hit : itr (fun d st => shP T d st) 0 (d + 1) (X, a) = shP T d (itr (fun d st => shP T d st) 0 d (X, a)) := by rw [itr, Nat.zero_add]
      obtain ⟨st, hst⟩ : ∃ st, st = itr (fun d st => shP T d st) 0 d (X, a) := ⟨_, rfl⟩
      rw [← hst] at q4 q5 q6 q7 hit
      rw [hit]
      obtain ⟨k, hk⟩ : ∃ k, k = T - 1 - d := ⟨_, rfl⟩
      rw [← hk] at q1
      have hr := rnd_lt st.1
      have hdr := m_draw q7 q4 (show 0 < k + 1 by omega) (by omega)
      have he : drw (rnd st.1) (k + 1) < k + 1 := Nat.mod_lt _ (by omega)
      obtain ⟨e, hee⟩ : ∃ e, e = drw (rnd st.1) (k + 1) := ⟨_, rfl⟩
      rw [← hee] at he hdr
      have hE : shP T d st = (rnd st.1, va_up (va_up st.2 k (st.2 e)) e (st.2 k)) := by unfold shP; rw [← hk, ← hee]
      rw [hE]
      refine ⟨(nI (T - 1 - (d + 1)), wr (wr q.2.1 12 (nI k) (nI (10 * (st.2 e).1 + (st.2 e).2))) 12 (nI e) (nI (10 * (st.2 k).1 + (st.2 k).2)), wf q.2.2 22 (lN (rnd st.1))), ?_, rfl, eqx_tr q2 (eqx_tr (eqx_wr (by decide)) (eqx_wr (by decide))), eqx_tr q3 (eqx_wf (by decide)), by dsimp only; rw [wf_ap, if_pos rfl], isA_set (isA_set q5 (by omega)) (by omega), okA_sw q6 (by omega) (by omega), hr⟩
      show M_plan_s2 q.1 q.2.1 q.2.2 = _
      unfold M_plan_s2
      rw [q1, if_neg (nI_nle (by omega) (by omega)), nI_1, bd2_of hdr, ri_k (show k < 56 by omega) (by decide)]
      dsimp only [nm]
      rw [ri_k (show e < 56 by omega) (by decide), ri_k (show k < 56 by omega) (by decide), ri_k (show e < 56 by omega) (by decide), nI_clamp (show k < 2 ^ 31 by omega), nI_clamp (show e < 2 ^ 31 by omega), q5 k (by omega), q5 e (by omega), sb_m1 (by omega), hk]
      rfl) (fun q ⟨q1, q2, q3, q4, q5, q6, q7⟩ => by
      refine ⟨(q.2.1, q.2.2), ?_, q2, q3, q5, q6⟩
      show M_plan_s2 q.1 q.2.1 q.2.2 = _
      unfold M_plan_s2
      rw [q1, Nat.sub_self, if_pos (show nI 0 ≤ (0 : Int32) by decide)]) (nI (T - 1), g, E) ⟨rfl, eqx_rf, eqx_rf, hE0, hA, hB, hX⟩
  exact ⟨v.1, v.2, e1, e2, e3, e4, e5⟩
