/-! THE BEST ORDER: canonical tables; the class's costs and tables -/
noncomputable def lwT (f : Nat → Nat → Nat) (n : Nat) : (Nat → Nat) × (Nat → Nat) := Classical.epsilon (fun p => isDP f n p.1 p.2 (2 ^ n))
noncomputable def lT (f : Nat → Nat → Nat) (n : Nat) : Nat → Nat := (lwT f n).1
noncomputable def wT (f : Nat → Nat → Nat) (n : Nat) : Nat → Nat := (lwT f n).2
theorem lwT_DP {f : Nat → Nat → Nat} {n : Nat} {L W : Nat → Nat} (h : isDP f n L W (2 ^ n)) : isDP f n (lT f n) (wT f n) (2 ^ n) := Classical.epsilon_spec (p := fun p : (Nat → Nat) × (Nat → Nat) => isDP f n p.1 p.2 (2 ^ n)) ⟨(L, W), h⟩
theorem lwT_eq {f : Nat → Nat → Nat} {n : Nat} (hn : n ≤ 8) {L W : Nat → Nat} (h : isDP f n L W (2 ^ n)) : ∀ S, S < 2 ^ n → L S = lT f n S ∧ W S = wT f n S := DP_one hn h (lwT_DP h)
theorem m_orders {h : Nat → Nat → Int32} {n : Nat} {w : Nat → Nat} {m : Nat} {cp : Nat → Nat → Nat} (hm : m ≤ 48) (hw9 : ∀ i, w i ≤ 9) (G : isG h n w m cp) (h1 : h 1 0 = nI n) (hn : n ≤ 8) : ∃ h2, M_layOrders h = some h2 ∧ eqx [30, 31] h h2 ∧ isDP (mp w m cp) n (lT (mp w m cp) n) (wT (mp w m cp) n) (2 ^ n) ∧ isO h2 (lT (mp w m cp) n) (wT (mp w m cp) n) (2 ^ n) := by
  obtain ⟨h2, L, W, e1, e2, e3, e4⟩ := m_layOrders hm hw9 G h1 hn
  refine ⟨h2, e1, e2, lwT_DP e3, fun S hS => ?_⟩
  obtain ⟨a, b⟩ := lwT_eq hn e3 S hS
  rw [← a, ← b]
  exact e4 S hS
/-! halves -/
def ntzN (h : Nat) : Nat := if h % 2 = 1 then 0 else if h % 4 = 2 then 1 else if h % 8 = 4 then 2 else 3
theorem k_ntz : ∀ h, h < 16 → 0 < h → C_JI_numberOfTrailingZeros_ (nI h) = some (nI (ntzN h)) := by decide +kernel
theorem ntz_lt (h : Nat) : ntzN h < 4 := by unfold ntzN; (repeat' split) <;> omega
theorem half_lt : ∀ h, h < 16 → 0 < h → h &&& (h - 1) < h := by decide +kernel
def hfS (f : Nat → Nat) (h : Nat) : Nat := fb_sm (fun j => if h.testBit j = true then f j else 0) 4
theorem half_step (f : Nat → Nat) {h : Nat} (hh : h < 16) (h0 : 0 < h) : hfS f h = hfS f (h &&& (h - 1)) + f (ntzN h) := by
  have key : h = 1 ∨ h = 2 ∨ h = 3 ∨ h = 4 ∨ h = 5 ∨ h = 6 ∨ h = 7 ∨ h = 8 ∨ h = 9 ∨ h = 10 ∨ h = 11 ∨ h = 12 ∨ h = 13 ∨ h = 14 ∨ h = 15 := by omega
  unfold hfS
  rcases key with rfl | rfl | rfl | rfl | rfl | rfl | rfl | rfl | rfl | rfl | rfl | rfl | rfl | rfl | rfl <;>
    first | (simp [fb_sm, ntzN, Nat.testBit]; done) | (simp [fb_sm, ntzN, Nat.testBit]; omega)
/-- the class's cost tables -/
def isK (g : Nat → Nat → Int32) (f : Nat → Nat → Nat) (n : Nat) : Prop := ∀ i, i < n → ∀ h, h < 16 → g 37 (16 * i + h) = nI (hfS (fun j => f j i) h) ∧ g 38 (16 * i + h) = nI (hfS (fun j => f (j + 4) i) h)
theorem k_takeCosts {G : Nat → Nat → Int32} {n : Nat} {w : Nat → Nat} {m : Nat} {cp : Nat → Nat → Nat} (hm : m ≤ 48) (hw9 : ∀ i, w i ≤ 9) (h20 : ∀ i j, i < 8 → j < 8 → G 20 (8 * i + j) = mgn w m cp i j) (h31 : G 31 0 = nI n) (hn : n ≤ 8) : ∃ G2, C_BO_takeCosts_22 G = some G2 ∧ eqx [37, 38] G G2 ∧ isK G2 (mp w m cp) n := by
  have hlead : ∀ g : Nat → Nat → Int32, eqx [37, 38] G g → ∀ i j, i < 8 → j < 8 → C_LE_lead_22 g (nI i) (nI j) = some (mgn w m cp i j) := fun g hg i j hi hj => by
    rw [(k_cellI_22 hi hj).2, hg 20 (by decide), h20 i j hi hj]
  have inner : ∀ i g, i < n → eqx [37, 38] G g → g 37 (16 * i) = nI 0 → g 38 (16 * i) = nI 0 → ∃ r, lp (fun q => C_BO_takeCosts_22_s2 (nI i) (nI (16 * i)) q.1 q.2) FU ((1 : Int32), g) = some r ∧ (eqx [37, 38] G r ∧ (∀ x, (x < 16 * i ∨ 16 * i + 16 ≤ x) → r 37 x = g 37 x ∧ r 38 x = g 38 x) ∧ ∀ h, h < 16 → r 37 (16 * i + h) = nI (hfS (fun j => mp w m cp j i) h) ∧ r 38 (16 * i + h) = nI (hfS (fun j => mp w m cp (j + 4) i) h)) := by
    intro i g hi hg z37 z38
    refine lp_iv (st := fun q => C_BO_takeCosts_22_s2 (nI i) (nI (16 * i)) q.1 q.2) (fun h q => q.1 = nI h ∧ eqx [37, 38] G q.2 ∧ (∀ x, (x < 16 * i ∨ 16 * i + 16 ≤ x) → q.2 37 x = g 37 x ∧ q.2 38 x = g 38 x) ∧ ∀ t, t < h → q.2 37 (16 * i + t) = nI (hfS (fun j => mp w m cp j i) t) ∧ q.2 38 (16 * i + t) = nI (hfS (fun j => mp w m cp (j + 4) i) t)) _ 1 16 (by omega) (by omega) (fun h q h1 hh ⟨e, hx, ho, hv⟩ => ?_) (fun q ⟨e, hx, ho, hv⟩ => ?_) _ ⟨rfl, hg, fun _ _ => ⟨rfl, rfl⟩, fun t ht => by
      have : t = 0 := by omega
      subst this
      exact ⟨z37, z38⟩⟩
    · have hl := half_lt h hh (by omega)
      have hn4 := ntz_lt h
      obtain ⟨R, hR⟩ : ∃ R, R = h &&& (h - 1) := ⟨_, rfl⟩
      rw [← hR] at hl
      obtain ⟨v1, v2⟩ := hv R hl
      have s1 := half_step (fun j => mp w m cp j i) hh (by omega)
      have s2 := half_step (fun j => mp w m cp (j + 4) i) hh (by omega)
      rw [← hR] at s1 s2
      have hx2 : eqx [37, 38] G (wr q.2 37 (nI (16 * i + h)) (nI (hfS (fun j => mp w m cp j i) h))) := eqx_tr hx (eqx_wr (by decide))
      refine ⟨(nI (h + 1), wr (wr q.2 37 (nI (16 * i + h)) (nI (hfS (fun j => mp w m cp j i) h))) 38 (nI (16 * i + h)) (nI (hfS (fun j => mp w m cp (j + 4) i) h))), ?_, rfl, eqx_tr hx2 (eqx_wr (by decide)), fun x hx' => ⟨?_, ?_⟩, fun t ht => ⟨?_, ?_⟩⟩
      · show C_BO_takeCosts_22_s2 (nI i) (nI (16 * i)) q.1 q.2 = _
        unfold C_BO_takeCosts_22_s2
        rw [e, if_neg (show ¬ (16 : Int32) ≤ nI h from nI_ge hh (by decide)), bd_of (k_ntz h hh (by omega))]
        dsimp only [nm]
        rw [show nI h - (1 : Int32) = nI (h - 1) by rw [show (1 : Int32) = nI 1 from rfl, pk_sub (by omega)], fa_and, ← hR, nI_add, nI_add, ri_k (show 16 * i + R < 128 by omega) (by decide), bd_of (hlead q.2 hx _ i (by omega) (by omega)), ri_k (show 16 * i + h < 128 by omega) (by decide), nI_clamp (show 16 * i + R < 2 ^ 31 by omega), v1, mx_mp hw9 hm, nI_add, ← s1]
        rw [ri_k (show 16 * i + R < 128 by omega) (by decide), show nI (ntzN h) + (4 : Int32) = nI (ntzN h + 4) from nI_add _ 4, bd_of (hlead _ hx2 _ i (by omega) (by omega)), ri_k (show 16 * i + h < 128 by omega) (by decide), wr_ne (by decide), v2, mx_mp hw9 hm, nI_add, ← s2, nI_1]
      · dsimp only
        rw [wr_ne (by decide), wr_ap, if_pos rfl, nI_clamp (by omega), if_neg (by omega)]
        exact (ho x hx').1
      · dsimp only
        rw [wr_ap, if_pos rfl, nI_clamp (by omega), if_neg (by omega), wr_ne (by decide)]
        exact (ho x hx').2
      · dsimp only
        rw [wr_ne (by decide), wr_ap, if_pos rfl, nI_clamp (by omega)]
        by_cases u : t = h
        · rw [if_pos (by rw [u]), u]
        · rw [if_neg (by omega)]
          exact (hv t (by omega)).1
      · dsimp only
        rw [wr_ap, if_pos rfl, nI_clamp (by omega)]
        by_cases u : t = h
        · rw [if_pos (by rw [u]), u]
        · rw [if_neg (by omega), wr_ne (by decide)]
          exact (hv t (by omega)).2
    · refine ⟨q.2, ?_, hx, ho, hv⟩
      show C_BO_takeCosts_22_s2 (nI i) (nI (16 * i)) q.1 q.2 = _
      unfold C_BO_takeCosts_22_s2
      rw [e, if_pos (show (16 : Int32) ≤ nI 16 from nI_le (Nat.le_refl _) (by decide))]
  obtain ⟨r, e1, e2, e3⟩ := lp_iv (st := fun q => C_BO_takeCosts_22_s1 q.1 q.2) (fun i q => q.1 = nI i ∧ eqx [37, 38] G q.2 ∧ ∀ a, a < i → ∀ h, h < 16 → q.2 37 (16 * a + h) = nI (hfS (fun j => mp w m cp j a) h) ∧ q.2 38 (16 * a + h) = nI (hfS (fun j => mp w m cp (j + 4) a) h)) (fun r => eqx [37, 38] G r ∧ isK r (mp w m cp) n) 0 n (by omega) (by omega) (fun i q _ hi ⟨e, hx, hv⟩ => by
      have q31 : q.2 31 0 = nI n := by rw [hx 31 (by decide)]; exact h31
      obtain ⟨r, g1, g2, g3, g4⟩ := inner i (wr (wr q.2 37 (nI (16 * i)) (0 : Int32)) 38 (nI (16 * i)) (0 : Int32)) hi (eqx_tr hx (eqx_tr (eqx_wr (by decide)) (eqx_wr (by decide)))) (by rw [wr_ne (by decide), wr_ap, if_pos rfl, nI_clamp (by omega), if_pos rfl]; rfl) (by rw [wr_ap, if_pos rfl, nI_clamp (by omega), if_pos rfl]; rfl)
      refine ⟨(nI (i + 1), r), ?_, rfl, g2, fun a ha h hh => ?_⟩
      · show C_BO_takeCosts_22_s1 q.1 q.2 = _
        unfold C_BO_takeCosts_22_s1
        rw [e, q31, if_neg (nI_ge hi (by omega))]
        dsimp only [nm]
        rw [show nI i * (16 : Int32) = nI (16 * i) by rw [show (16 : Int32) = nI 16 from rfl, pk_mul, Nat.mul_comm], ri_k (show 16 * i < 128 by omega) (by decide), ri_k (show 16 * i < 128 by omega) (by decide), bd_of g1, nI_1]
      · by_cases u : a = i
        · subst u
          exact g4 h hh
        · obtain ⟨x1, x2⟩ := g3 (16 * a + h) (by omega)
          dsimp only
          rw [x1, x2, wr_ne (by decide), wr_ap, if_pos rfl, nI_clamp (by omega), if_neg (by omega), wr_ap, if_pos rfl, nI_clamp (by omega), if_neg (by omega), wr_ne (by decide)]
          exact hv a (by omega) h hh) (fun q ⟨e, hx, hv⟩ => by
      have q31 : q.2 31 0 = nI n := by rw [hx 31 (by decide)]; exact h31
      refine ⟨q.2, ?_, hx, hv⟩
      show C_BO_takeCosts_22_s1 q.1 q.2 = _
      unfold C_BO_takeCosts_22_s1
      rw [e, q31, if_pos (nI_le (Nat.le_refl _) (by omega))]) ((0 : Int32), G) ⟨rfl, eqx_rf, fun a ha => by omega⟩
  exact ⟨r, by unfold C_BO_takeCosts_22; rw [bd_of e1], e2, e3⟩
theorem cst_half (f : Nat → Nat → Nat) (i S : Nat) : hfS (fun j => f j i) (S % 16) + hfS (fun j => f (j + 4) i) (S / 16 % 16) = cst f i S := by
  unfold hfS cst
  rw [show (8 : Nat) = 4 + 4 from rfl, fb_sm_split]
  congr 1
  · refine fb_sm_cong (fun k hk => ?_)
    show (if (S % 2 ^ 4).testBit k = true then f k i else 0) = _
    rw [Nat.testBit_mod_two_pow, decide_eq_true hk, Bool.true_and]
  · refine fb_sm_cong (fun k hk => ?_)
    show (if (S / 2 ^ 4 % 2 ^ 4).testBit k = true then f (k + 4) i else 0) = if S.testBit (4 + k) = true then f (4 + k) i else 0
    rw [Nat.testBit_mod_two_pow, decide_eq_true hk, Bool.true_and, ← Nat.shiftRight_eq_div_pow, Nat.testBit_shiftRight, Nat.add_comm k 4]
theorem k_cost {g : Nat → Nat → Int32} {f : Nat → Nat → Nat} {n : Nat} (hn : n ≤ 8) (K : isK g f n) {i S : Nat} (hi : i < n) (hS : S < 256) : C_BO_costBefore g (nI i) (nI S) = some (nI (cst f i S)) := by
  unfold C_BO_costBefore
  dsimp only [nm]
  have e1 : nI S &&& (15 : Int32) = nI (S % 16) := fa_mask S 4
  have e2 : (nI S >>> ((4 : Int32) &&& 31)) &&& (15 : Int32) = nI (S / 16 % 16) := by
    rw [pk_shrN (by omega) ((4 : Int32) &&& 31) 4 (by decide)]
    exact fa_mask (S / 2 ^ 4) 4
  rw [c8_and i (by omega), show nI i * (16 : Int32) = nI (16 * i) by rw [show (16 : Int32) = nI 16 from rfl, pk_mul, Nat.mul_comm], e1, e2, nI_add, nI_add, ri_k (show 16 * i + S % 16 < 128 by omega) (by decide), ri_k (show 16 * i + S / 16 % 16 < 128 by omega) (by decide), nI_clamp (show 16 * i + S % 16 < 2 ^ 31 by omega), nI_clamp (show 16 * i + S / 16 % 16 < 2 ^ 31 by omega), (K i hi _ (by omega)).1, (K i hi _ (by omega)).2, nI_add, cst_half]
/-- the class's tables -/
def isQ (g : Nat → Nat → Int32) (L W : Nat → Nat) (N : Nat) : Prop := ∀ S, S < N → g 35 S = nI (L S) ∧ g 36 S = nI (W S)
theorem k_solve {g : Nat → Nat → Int32} {f : Nat → Nat → Nat} (hf : ∀ j i, f j i ≤ 432) {n : Nat} (hn : n ≤ 8) (h31 : g 31 0 = nI n) (K : isK g f n) {S : Nat} {L W : Nat → Nat} (hS0 : 0 < S) (hS : S < 2 ^ n) (hD : isDP f n L W S) (hQ : isQ g L W S) : ∃ p, run S (fun i => L (sw S i) + cst f i (sw S i)) (fun i => W (sw S i)) n = some p ∧ C_BO_solve g (nI S) = some (wr (wr g 35 (nI S) (nI p.1)) 36 (nI S) (nI p.2)) := by
  have h256 := p256 hn
  obtain ⟨a, ha, hba⟩ := nz_has hS (show S ≠ 0 by omega)
  obtain ⟨p, hp⟩ := run_some S (fun i => L (sw S i) + cst f i (sw S i)) (fun i => W (sw S i)) n a ha hba
  have hbnd : ∀ i, i < n → S.testBit i = true → L (sw S i) + cst f i (sw S i) < 40000 := fun i hi hb => by
    have l1 := sw_lt (S := S) (i := i) (by omega) hb
    have l2 := DP_le hf hn (by omega) hD (sw S i) l1
    have l3 := cst_le hf i (sw S i)
    have l4 := sz_n hn (sw_n (i := i) hS)
    omega
  refine ⟨p, hp, ?_⟩
  obtain ⟨r, e1, e2⟩ := lp_iv (st := fun q => C_BO_solve_s1 (nI S) g q.1 q.2.1 q.2.2) (fun i q => q.2.2 = nI i ∧ (match run S (fun i => L (sw S i) + cst f i (sw S i)) (fun i => W (sw S i)) i with
      | none => q.1 = nI 2147483647 ∧ q.2.1 = nI 0
      | some p => q.1 = nI p.1 ∧ q.2.1 = nI p.2 ∧ p.1 < 40000)) (fun r => r = (nI p.1, nI p.2)) 0 n (by omega) (by omega) (fun i q _ hi ⟨e, hr⟩ => by
      have hcon := s_con S (by omega) i (by omega)
      cases c : S.testBit i with
      | false =>
        rw [c] at hcon
        refine ⟨(q.1, q.2.1, nI (i + 1)), ?_, rfl, ?_⟩
        · show C_BO_solve_s1 (nI S) g q.1 q.2.1 q.2.2 = _
          unfold C_BO_solve_s1
          rw [e, h31, if_neg (nI_ge hi (by omega)), bd_of hcon]
          dsimp only [nm]
          rw [nI_1]
          rfl
        · rw [run, c, if_neg (by decide)]
          exact hr
      | true =>
        rw [c] at hcon
        have l1 := sw_lt (S := S) (i := i) (by omega) c
        have l2 := sw_n (i := i) hS
        have hb := hbnd i hi c
        obtain ⟨t1, t2⟩ := hQ (sw S i) l1
        obtain ⟨tot, htot⟩ : ∃ x, x = L (sw S i) + cst f i (sw S i) := ⟨_, rfl⟩
        obtain ⟨wv, hwv⟩ : ∃ x, x = W (sw S i) := ⟨_, rfl⟩
        rw [← htot] at hb
        have hst : C_BO_solve_s1 (nI S) g q.1 q.2.1 q.2.2 = bd2 (bd2 (if q.1 ≤ nI tot then (some (q.1, q.2.1)) else (some (nI tot, (0 : Int32)))) fun x44 x45 => if nI tot = x44 then (some (x44, x45 + nI wv)) else (some (x44, x45))) fun x25 x26 => some (.inl (x25, x26, nI (i + 1))) := by
          unfold C_BO_solve_s1
          rw [e, h31, if_neg (nI_ge hi (by omega)), bd_of hcon, if_neg (by decide), k_sw (by omega) (by omega)]
          dsimp only [nm]
          rw [ri_k (show sw S i < 256 by omega) (by decide), bd_of (k_cost hn K hi (by omega)), nI_clamp (show sw S i < 2 ^ 31 by omega), t1, t2, nI_add, ← htot, ← hwv, nI_1]
          simp only [ri_k (show sw S i < 256 by omega) (show 256 < 2 ^ 31 by decide)]
        have hrun : run S (fun i => L (sw S i) + cst f i (sw S i)) (fun i => W (sw S i)) (i + 1) = match run S (fun i => L (sw S i) + cst f i (sw S i)) (fun i => W (sw S i)) i with
            | none => some (tot, wv)
            | some p => if tot < p.1 then some (tot, wv) else if tot = p.1 then some (p.1, p.2 + wv) else some p := by
          rw [run, c, if_pos rfl, htot, hwv]
          cases run S (fun i => L (sw S i) + cst f i (sw S i)) (fun i => W (sw S i)) i <;> rfl
        have z0 : (0 : Int32) + nI wv = nI wv := by rw [show (0 : Int32) = nI 0 from rfl, nI_add, Nat.zero_add]
        cases er : run S (fun i => L (sw S i) + cst f i (sw S i)) (fun i => W (sw S i)) i with
        | none =>
          rw [er] at hr hrun
          dsimp only at hr hrun
          refine ⟨(nI tot, nI wv, nI (i + 1)), ?_, rfl, ?_⟩
          · show C_BO_solve_s1 (nI S) g q.1 q.2.1 q.2.2 = _
            rw [hst, hr.1, if_neg (nI_ge (by omega) (by decide))]
            show bd2 (if nI tot = nI tot then _ else _) _ = _
            rw [if_pos rfl, z0]
            rfl
          · rw [hrun]
            exact ⟨rfl, rfl, hb⟩
        | some p =>
          rw [er] at hr hrun
          dsimp only at hr hrun
          obtain ⟨r1, r2, r3⟩ := hr
          by_cases u1 : tot < p.1
          · rw [if_pos u1] at hrun
            refine ⟨(nI tot, nI wv, nI (i + 1)), ?_, rfl, ?_⟩
            · show C_BO_solve_s1 (nI S) g q.1 q.2.1 q.2.2 = _
              rw [hst, r1, if_neg (nI_ge u1 (by omega))]
              show bd2 (if nI tot = nI tot then _ else _) _ = _
              rw [if_pos rfl, z0]
              rfl
            · rw [hrun]
              exact ⟨rfl, rfl, hb⟩
          · rw [if_neg u1] at hrun
            by_cases u2 : tot = p.1
            · rw [if_pos u2] at hrun
              refine ⟨(nI p.1, nI (p.2 + wv), nI (i + 1)), ?_, rfl, ?_⟩
              · show C_BO_solve_s1 (nI S) g q.1 q.2.1 q.2.2 = _
                rw [hst, r1, r2, if_pos (nI_le (by omega) (by omega))]
                show bd2 (if nI tot = nI p.1 then _ else _) _ = _
                rw [if_pos (by rw [u2]), nI_add]
                rfl
              · rw [hrun]
                exact ⟨rfl, rfl, r3⟩
            · rw [if_neg u2] at hrun
              refine ⟨(nI p.1, nI p.2, nI (i + 1)), ?_, rfl, ?_⟩
              · show C_BO_solve_s1 (nI S) g q.1 q.2.1 q.2.2 = _
                rw [hst, r1, r2, if_pos (nI_le (by omega) (by omega))]
                show bd2 (if nI tot = nI p.1 then _ else _) _ = _
                rw [if_neg (fun h => u2 ((nI_eq (by omega) (by omega)).mp h))]
                rfl
              · rw [hrun]
                exact ⟨rfl, rfl, r3⟩) (fun q ⟨e, hr⟩ => by
      rw [hp] at hr
      dsimp only at hr
      refine ⟨(q.1, q.2.1), ?_, by rw [hr.1, hr.2.1]⟩
      show C_BO_solve_s1 (nI S) g q.1 q.2.1 q.2.2 = _
      unfold C_BO_solve_s1
      rw [e, h31, if_pos (nI_le (Nat.le_refl _) (by omega))]) ((2147483647 : Int32), (0 : Int32), (0 : Int32)) ⟨rfl, rfl, rfl⟩
  have e5 : nI S &&& (255 : Int32) = nI S := by
    rw [show (255 : Int32) = nI (2 ^ 8 - 1) from rfl, fa_mask, Nat.mod_eq_of_lt (by omega)]
  unfold C_BO_solve
  rw [bd2_of (show lp (fun q => C_BO_solve_s1 (nI S) g q.1 q.2.1 q.2.2) FU ((2147483647 : Int32), (0 : Int32), (0 : Int32)) = some (nI p.1, nI p.2) by rw [e1, e2]), e5, ri_k (show S < 256 by omega) (by decide)]
  dsimp only [nm]
  rw [ri_k (show S < 256 by omega) (by decide)]
