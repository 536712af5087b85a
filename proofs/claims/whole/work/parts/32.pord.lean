/-! THE BEST ORDER: costs, sets in ascending order -/
def mp (w : Nat → Nat) (m : Nat) (cp : Nat → Nat → Nat) (j i : Nat) : Nat := wiW w m cp j i - wiW w m cp i j
theorem mp_le {w : Nat → Nat} (hw9 : ∀ i, w i ≤ 9) {m : Nat} (hm : m ≤ 48) (cp : Nat → Nat → Nat) (j i : Nat) : mp w m cp j i ≤ 432 := by
  have := wiW_le hw9 m cp j i
  unfold mp; omega
theorem mgn_mp {w : Nat → Nat} {m : Nat} {cp : Nat → Nat → Nat} {j i : Nat} (h : btB w m cp j i = true) : mgn w m cp j i = nI (mp w m cp j i) := by
  unfold btB at h
  rw [decide_eq_true_eq] at h
  unfold mgn mp
  rw [pk_sub (by omega)]
theorem mp_0 {w : Nat → Nat} {m : Nat} {cp : Nat → Nat → Nat} {j i : Nat} (h : btB w m cp j i = false) : mp w m cp j i = 0 := by
  unfold btB at h
  rw [decide_eq_false_iff_not] at h
  unfold mp
  omega
theorem mx_mp {w : Nat → Nat} (hw9 : ∀ i, w i ≤ 9) {m : Nat} (hm : m ≤ 48) (cp : Nat → Nat → Nat) (j i : Nat) : (if (0 : Int32) < mgn w m cp j i then mgn w m cp j i else (0 : Int32)) = nI (mp w m cp j i) := by
  have hle := mgn_le hw9 hm cp j i
  cases c : btB w m cp j i with
  | true =>
    rw [if_pos (fa_of_nle (fun h => by rw [hle, c] at h; cases h)), mgn_mp c]
  | false =>
    rw [if_neg (fun h => (fa_of_lt h).2.1 (hle.mpr c)), mp_0 c]
    rfl
/-- what i costs ahead of a set -/
def cst (f : Nat → Nat → Nat) (i S : Nat) : Nat := fb_sm (fun j => if S.testBit j = true then f j i else 0) 8
theorem cst_n (f : Nat → Nat → Nat) {n S : Nat} (hn : n ≤ 8) (hS : S < 2 ^ n) (i : Nat) : fb_sm (fun j => if S.testBit j = true then f j i else 0) n = cst f i S := by
  have e : (8 : Nat) = n + (8 - n) := by omega
  unfold cst
  rw [e, fb_sm_split]
  have h2 : fb_sm (fun k => if S.testBit (n + k) = true then f (n + k) i else 0) (8 - n) = 0 := by
    rw [fb_sm_cong (g := fun _ => 0) (fun k _ => if_neg (by rw [tb_out hS (by omega)]; decide)), fb_sm_const, Nat.mul_zero]
  rw [h2, Nat.add_zero]
theorem cst_le {f : Nat → Nat → Nat} (hf : ∀ j i, f j i ≤ 432) (i S : Nat) : cst f i S ≤ 3456 := by
  have h := fb_sm_bound (f := fun j => if S.testBit j = true then f j i else 0) (c := 432) (n := 8) (fun k _ => by
    show (if S.testBit k = true then f k i else 0) ≤ 432
    split
    · exact hf k i
    · omega)
  unfold cst; omega
def sw (S i : Nat) : Nat := dif S (2 ^ i)
theorem sw_bit (S i : Nat) {j : Nat} (hj : j < 32) : (sw S i).testBit j = (S.testBit j && !decide (i = j)) := by
  unfold sw
  rw [dif_bit _ _ hj, pw_bit]
theorem sw_lt {S i : Nat} (hi : i < 32) (h : S.testBit i = true) : sw S i < S := by
  have h1 := dif_le S (2 ^ i)
  rcases Nat.lt_or_ge (sw S i) S with q | q
  · exact q
  · exfalso
    have e : sw S i = S := Nat.le_antisymm h1 q
    have hb := sw_bit S i hi
    rw [e, h] at hb
    simp at hb
theorem sw_n {n S i : Nat} (h : S < 2 ^ n) : sw S i < 2 ^ n := dif_lt h
theorem s_sw (S i : Nat) (hi : i < 31) : nI S &&& (((1 : Int32) <<< (nI i &&& 31)) ^^^ (-1 : Int32)) = nI (sw S i) := by
  rw [s_shl i hi, s_dif]
  rfl
theorem k_sw {S i : Nat} (hS : S < 256) (hi : i < 8) : C_BO_setWithout (nI S) (nI i) = nI (sw S i) := by
  have := dif_le S (2 ^ i)
  unfold C_BO_setWithout
  rw [s_sw S i (by omega), show (255 : Int32) = nI (2 ^ 8 - 1) from rfl, fa_mask, Nat.mod_eq_of_lt (by unfold sw; omega)]
theorem sz_sw {n S i : Nat} (hn : n ≤ 8) (hi : i < n) (h : S.testBit i = true) : sz (sw S i) < sz S :=
  sz_lt (i := i) (fun j hj hh => by
    rw [sw_bit S i (by omega), Bool.and_eq_true] at hh
    exact hh.1) (by omega) (by rw [sw_bit S i (by omega)]; simp) h
/-! running over a set: the least total and how often -/
def run (S : Nat) (tot wv : Nat → Nat) : Nat → Option (Nat × Nat)
  | 0 => none
  | i + 1 => if S.testBit i = true then (match run S tot wv i with
    | none => some (tot i, wv i)
    | some p => if tot i < p.1 then some (tot i, wv i) else if tot i = p.1 then some (p.1, p.2 + wv i) else some p) else run S tot wv i
theorem run_some (S : Nat) (tot wv : Nat → Nat) : ∀ (n i : Nat), i < n → S.testBit i = true → ∃ p, run S tot wv n = some p
  | 0, _, h, _ => absurd h (Nat.not_lt_zero _)
  | n + 1, i, h, hb => by
    rw [run]
    cases c : S.testBit n with
    | true =>
      rw [if_pos rfl]
      cases run S tot wv n with
      | none => exact ⟨_, rfl⟩
      | some p =>
        dsimp only
        by_cases q1 : tot n < p.1
        · rw [if_pos q1]; exact ⟨_, rfl⟩
        · rw [if_neg q1]
          by_cases q2 : tot n = p.1
          · rw [if_pos q2]; exact ⟨_, rfl⟩
          · rw [if_neg q2]; exact ⟨_, rfl⟩
    | false =>
      rw [if_neg (by decide)]
      have : i ≠ n := fun e => by rw [e, c] at hb; cases hb
      exact run_some S tot wv n i (by omega) hb
theorem run_cong {S : Nat} {tot wv tot2 wv2 : Nat → Nat} : ∀ (n : Nat), (∀ i, i < n → S.testBit i = true → tot i = tot2 i ∧ wv i = wv2 i) → run S tot wv n = run S tot2 wv2 n
  | 0, _ => rfl
  | n + 1, h => by
    rw [run, run, run_cong n (fun i hi => h i (by omega))]
    cases c : S.testBit n with
    | true =>
      obtain ⟨e1, e2⟩ := h n (by omega) c
      rw [e1, e2]
    | false => rfl
/-- the least total is one of the totals, and at most each -/
theorem run_min {S : Nat} {tot wv : Nat → Nat} : ∀ {n : Nat} {p : Nat × Nat}, run S tot wv n = some p → (∃ i, i < n ∧ S.testBit i = true ∧ tot i = p.1) ∧ ∀ i, i < n → S.testBit i = true → p.1 ≤ tot i
  | 0, _, h => by cases h
  | n + 1, p, h => by
    rw [run] at h
    cases c : S.testBit n with
    | false =>
      rw [c, if_neg (by decide)] at h
      obtain ⟨⟨i, h1, h2, h3⟩, h4⟩ := run_min h
      refine ⟨⟨i, by omega, h2, h3⟩, fun j hj hb => ?_⟩
      have : j ≠ n := fun e => by rw [e, c] at hb; cases hb
      exact h4 j (by omega) hb
    | true =>
      rw [c, if_pos rfl] at h
      cases e : run S tot wv n with
      | none =>
        rw [e] at h
        cases h
        refine ⟨⟨n, by omega, c, rfl⟩, fun j hj hb => ?_⟩
        rcases Nat.lt_or_ge j n with q | q
        · obtain ⟨p, hp⟩ := run_some S tot wv n j q hb
          rw [e] at hp
          cases hp
        · have : j = n := by omega
          rw [this]; exact Nat.le_refl _
      | some q =>
        rw [e] at h
        dsimp only at h
        obtain ⟨⟨i, h1, h2, h3⟩, h4⟩ := run_min e
        by_cases q1 : tot n < q.1
        · rw [if_pos q1] at h
          cases h
          refine ⟨⟨n, by omega, c, rfl⟩, fun j hj hb => ?_⟩
          dsimp only
          rcases Nat.lt_or_ge j n with u | u
          · have := h4 j u hb; omega
          · have : j = n := by omega
            rw [this]; exact Nat.le_refl _
        · rw [if_neg q1] at h
          have hp : p.1 = q.1 := by
            by_cases q2 : tot n = q.1
            · rw [if_pos q2] at h; cases h; rfl
            · rw [if_neg q2] at h; cases h; rfl
          rw [hp]
          refine ⟨⟨i, by omega, h2, h3⟩, fun j hj hb => ?_⟩
          rcases Nat.lt_or_ge j n with u | u
          · exact h4 j u hb
          · have : j = n := by omega
            rw [this]; omega
/-- the tables of least disagreements and of their numbers, up to a set -/
def isDP (f : Nat → Nat → Nat) (n : Nat) (L W : Nat → Nat) (N : Nat) : Prop := L 0 = 0 ∧ W 0 = 1 ∧ ∀ S, 0 < S → S < N → run S (fun i => L (sw S i) + cst f i (sw S i)) (fun i => W (sw S i)) n = some (L S, W S)
theorem DP_one {f : Nat → Nat → Nat} {n : Nat} (hn : n ≤ 8) {L W L2 W2 : Nat → Nat} {N : Nat} (h : isDP f n L W N) (h2 : isDP f n L2 W2 N) : ∀ S, S < N → L S = L2 S ∧ W S = W2 S := by
  intro S
  induction S using Nat.strongRecOn with
  | _ S ih =>
    intro hS
    rcases Nat.eq_zero_or_pos S with q | q
    · rw [q, h.1, h.2.1, h2.1, h2.2.1]; exact ⟨rfl, rfl⟩
    · have e1 := h.2.2 S q hS
      have e2 := h2.2.2 S q hS
      have e3 : run S (fun i => L (sw S i) + cst f i (sw S i)) (fun i => W (sw S i)) n = run S (fun i => L2 (sw S i) + cst f i (sw S i)) (fun i => W2 (sw S i)) n := run_cong n (fun i hi hb => by
        have hl := sw_lt (S := S) (i := i) (by omega) hb
        obtain ⟨a, b⟩ := ih (sw S i) hl (by omega)
        show L (sw S i) + cst f i (sw S i) = L2 (sw S i) + cst f i (sw S i) ∧ W (sw S i) = W2 (sw S i)
        rw [a, b]
        exact ⟨rfl, rfl⟩)
      rw [e3, e2] at e1
      exact ⟨(congrArg Prod.fst (Option.some.inj e1)).symm, (congrArg Prod.snd (Option.some.inj e1)).symm⟩
theorem DP_le {f : Nat → Nat → Nat} (hf : ∀ j i, f j i ≤ 432) {n : Nat} (hn : n ≤ 8) {L W : Nat → Nat} {N : Nat} (hN : N ≤ 2 ^ n) (h : isDP f n L W N) : ∀ S, S < N → L S ≤ 3456 * sz S := by
  intro S
  induction S using Nat.strongRecOn with
  | _ S ih =>
    intro hS
    rcases Nat.eq_zero_or_pos S with q | q
    · rw [q, h.1]; exact Nat.zero_le _
    · obtain ⟨i, hi, hb⟩ := nz_has (n := n) (s := S) (by omega) (by omega)
      have hl := sw_lt (S := S) (i := i) (by omega) hb
      have h1 := ih (sw S i) hl (by omega)
      have h2 := (run_min (h.2.2 S q hS)).2 i hi hb
      have h3 := cst_le hf i (sw S i)
      have h4 := sz_sw hn hi hb
      dsimp only at h2
      have h5 : 3456 * sz (sw S i) + 3456 ≤ 3456 * sz S := by omega
      omega
/-! the reference -/
theorem m_costOf {h : Nat → Nat → Int32} {n : Nat} {w : Nat → Nat} {m : Nat} {cp : Nat → Nat → Nat} (hm : m ≤ 48) (hw9 : ∀ i, w i ≤ 9) (S : isG h n w m cp) (h1 : h 1 0 = nI n) (hn : n ≤ 8) {i T : Nat} (hi : i < n) (hT : T < 2 ^ n) : M_costOf h (nI i) (nI T) = some (nI (cst (mp w m cp) i T)) := by
  have h256 := p256 hn
  unfold M_costOf
  rw [bd_of (lp_S0 (st := fun q => M_costOf_s1 (nI i) (nI T) h q.1 q.2) (fun j => if T.testBit j = true then mp w m cp j i else 0) n (by omega) (fun j x hj => by
    show M_costOf_s1 (nI i) (nI T) h x (nI j) = _
    unfold M_costOf_s1
    rw [h1, if_neg (nI_ge hj (by omega)), s_has T (by omega) j (by omega), bd_of (m_beats hm hw9 S hn hj hi), c8_row, ri_k (show 8 * j + i < 64 by omega) (by decide), nI_clamp (show 8 * j + i < 2 ^ 31 by omega), S j i hj hi]
    dsimp only [nm]
    rw [nI_1]
    cases c1 : T.testBit j with
    | false => rfl
    | true =>
      rw [if_pos rfl, if_pos rfl, if_pos (show nI 1 = (1 : Int32) from rfl)]
      cases c2 : btB w m cp j i with
      | true => rw [mgn_mp c2]; rfl
      | false => rw [mp_0 c2]; rfl) (fun x => by
    show M_costOf_s1 (nI i) (nI T) h x (nI n) = _
    unfold M_costOf_s1
    rw [h1, if_pos (nI_le (Nat.le_refl _) (by omega))])), cst_n _ hn hT]
theorem m_costBy {h : Nat → Nat → Int32} {n : Nat} {w : Nat → Nat} {m : Nat} {cp : Nat → Nat → Nat} (hm : m ≤ 48) (hw9 : ∀ i, w i ≤ 9) (G : isG h n w m cp) (h1 : h 1 0 = nI n) (hn : n ≤ 8) {i S l : Nat} (hi : i < n) (hS : S < 2 ^ n) (hl : h 30 (sw S i) = nI l) : M_costBy h (nI i) (nI S) = some (nI (l + cst (mp w m cp) i (sw S i))) := by
  have h256 := p256 hn
  have h3 := sw_n (i := i) hS
  unfold M_costBy
  rw [s_sw S i (by omega), bd_of (m_costOf hm hw9 G h1 hn hi h3), ri_k (show sw S i < 256 by omega) (by decide), nI_clamp (show sw S i < 2 ^ 31 by omega), hl, nI_add, Nat.add_comm]
/-- the reference's tables -/
def isO (h : Nat → Nat → Int32) (L W : Nat → Nat) (N : Nat) : Prop := ∀ S, S < N → h 30 S = nI (L S) ∧ h 31 S = nI (W S)
theorem m_layOrders {h : Nat → Nat → Int32} {n : Nat} {w : Nat → Nat} {m : Nat} {cp : Nat → Nat → Nat} (hm : m ≤ 48) (hw9 : ∀ i, w i ≤ 9) (G : isG h n w m cp) (h1 : h 1 0 = nI n) (hn : n ≤ 8) : ∃ h2 L W, M_layOrders h = some h2 ∧ eqx [30, 31] h h2 ∧ isDP (mp w m cp) n L W (2 ^ n) ∧ isO h2 L W (2 ^ n) := by
  have h256 := p256 hn
  have hpos : 0 < 2 ^ n := Nat.two_pow_pos n
  have hf := mp_le hw9 hm cp
  obtain ⟨h5, hh5⟩ : ∃ g, g = wr (wr h 30 (nI 0) (nI 0)) 31 (nI 0) (nI 1) := ⟨_, rfl⟩
  have x5 : eqx [30, 31] h h5 := by rw [hh5]; exact eqx_tr (eqx_wr (by decide)) (eqx_wr (by decide))
  have isG_x : ∀ g, eqx [30, 31] h g → isG g n w m cp := fun g hg i j hi hj => by rw [hg 29 (by decide)]; exact G i j hi hj
  have inner : ∀ S g L W, 0 < S → S < 2 ^ n → eqx [30, 31] h g → isDP (mp w m cp) n L W S → (∀ T, T < S → g 30 T = nI (L T) ∧ g 31 T = nI (W T)) → g 30 S = nI 268435456 → ∃ r, lp (fun q => M_layOrders_s2 (nI S) q.1 q.2) FU ((0 : Int32), g) = some r ∧ (eqx [30, 31] h r ∧ (∀ T, T ≠ S → r 30 T = g 30 T ∧ r 31 T = g 31 T) ∧ ∃ p, run S (fun i => L (sw S i) + cst (mp w m cp) i (sw S i)) (fun i => W (sw S i)) n = some p ∧ r 30 S = nI p.1 ∧ r 31 S = nI p.2) := by
    intro S g L W hS0 hS hg hD hT h30
    have hbnd : ∀ i, i < n → S.testBit i = true → L (sw S i) + cst (mp w m cp) i (sw S i) < 40000 := fun i hi hb => by
      have l1 := sw_lt (S := S) (i := i) (by omega) hb
      have l2 := DP_le hf hn (by omega) hD (sw S i) l1
      have l3 := cst_le hf i (sw S i)
      have l4 := sz_n hn (sw_n (i := i) hS)
      omega
    refine lp_iv (st := fun q => M_layOrders_s2 (nI S) q.1 q.2) (fun i q => q.1 = nI i ∧ eqx [30, 31] h q.2 ∧ (∀ T, T ≠ S → q.2 30 T = g 30 T ∧ q.2 31 T = g 31 T) ∧ (match run S (fun i => L (sw S i) + cst (mp w m cp) i (sw S i)) (fun i => W (sw S i)) i with
      | none => q.2 30 S = nI 268435456
      | some p => q.2 30 S = nI p.1 ∧ q.2 31 S = nI p.2 ∧ p.1 < 40000)) _ 0 n (by omega) (by omega) (fun i q _ hi ⟨e, hx, ho, hr⟩ => ?_) (fun q ⟨e, hx, ho, hr⟩ => ?_) _ ⟨rfl, hg, fun _ _ => ⟨rfl, rfl⟩, h30⟩
    · have q1 : q.2 1 0 = nI n := by rw [hx 1 (by decide)]; exact h1
      have hbit := s_has S (by omega) i (by omega)
      cases c : S.testBit i with
      | false =>
        refine ⟨(nI (i + 1), q.2), ?_, rfl, hx, ho, ?_⟩
        · show M_layOrders_s2 (nI S) q.1 q.2 = _
          unfold M_layOrders_s2
          rw [e, q1, if_neg (nI_ge hi (by omega)), hbit, c, if_neg (by decide)]
          dsimp only [nm]
          rw [nI_1]
          rfl
        · rw [run, c, if_neg (by decide)]
          exact hr
      | true =>
        have l1 := sw_lt (S := S) (i := i) (by omega) c
        have hb := hbnd i hi c
        obtain ⟨o1, o2⟩ := ho (sw S i) (by omega)
        obtain ⟨t1, t2⟩ := hT (sw S i) l1
        obtain ⟨tot, htot⟩ : ∃ x, x = L (sw S i) + cst (mp w m cp) i (sw S i) := ⟨_, rfl⟩
        obtain ⟨wv, hwv⟩ : ∃ x, x = W (sw S i) := ⟨_, rfl⟩
        have hc := m_costBy hm hw9 (isG_x q.2 hx) q1 hn hi hS (l := L (sw S i)) (by rw [o1, t1])
        have hfrom : q.2 31 (sw S i) = nI wv := by rw [o2, t2, hwv]
        rw [← htot] at hb hc
        -- the new values
        have key : ∀ (A B x49 x58 : Nat), (if q.2 30 S ≤ nI tot then (ri 256 (nI S) <| if nI tot = q.2 30 S then (ri 256 (nI S) <| some ((q.2 31 S) + nI wv)) else (ri 256 (nI S) <| some (q.2 31 S))) else (some (nI wv))) = some (nI x49) → (if q.2 30 S ≤ nI tot then (ri 256 (nI S) <| some (q.2 30 S)) else (some (nI tot))) = some (nI x58) → M_layOrders_s2 (nI S) q.1 q.2 = some (.inl (nI (i + 1), wr (wr q.2 31 (nI S) (nI x49)) 30 (nI S) (nI x58))) := by
          intro _ _ x49 x58 k1 k2
          unfold M_layOrders_s2
          rw [e, q1, if_neg (nI_ge hi (by omega)), hbit, c, if_pos rfl, if_pos (show nI 1 = (1 : Int32) from rfl), bd_of hc, s_sw S i (by omega), ri_k (show sw S i < 256 by omega) (by decide)]
          dsimp only [nm]
          rw [nI_clamp (show sw S i < 2 ^ 31 by omega), hfrom, nI_clamp (show S < 2 ^ 31 by omega), ri_k (show S < 256 by omega) (by decide), bd_of k1, ri_k (show S < 256 by omega) (by decide)]
          have e30 : wr q.2 31 (nI S) (nI x49) 30 = q.2 30 := wr_ne (by decide)
          rw [e30, ri_k (show S < 256 by omega) (by decide), bd_of k2, ri_k (show S < 256 by omega) (by decide), nI_1]
          rfl
        have hfin : ∀ (x49 x58 : Nat), M_layOrders_s2 (nI S) q.1 q.2 = some (.inl (nI (i + 1), wr (wr q.2 31 (nI S) (nI x49)) 30 (nI S) (nI x58))) → x58 < 40000 → run S (fun i => L (sw S i) + cst (mp w m cp) i (sw S i)) (fun i => W (sw S i)) (i + 1) = some (x58, x49) → ∃ q', M_layOrders_s2 (nI S) q.1 q.2 = some (.inl q') ∧ (q'.1 = nI (i + 1) ∧ eqx [30, 31] h q'.2 ∧ (∀ T, T ≠ S → q'.2 30 T = g 30 T ∧ q'.2 31 T = g 31 T) ∧ (match run S (fun i => L (sw S i) + cst (mp w m cp) i (sw S i)) (fun i => W (sw S i)) (i + 1) with
            | none => q'.2 30 S = nI 268435456
            | some p => q'.2 30 S = nI p.1 ∧ q'.2 31 S = nI p.2 ∧ p.1 < 40000)) := by
          intro x49 x58 k1 k2 k3
          refine ⟨_, k1, rfl, eqx_tr hx (eqx_tr (eqx_wr (by decide)) (eqx_wr (by decide))), fun T hTS => ⟨?_, ?_⟩, ?_⟩
          · dsimp only
            rw [wr_ap, if_pos rfl, nI_clamp (by omega), if_neg hTS, wr_ne (by decide)]
            exact (ho T hTS).1
          · dsimp only
            rw [wr_ne (by decide), wr_ap, if_pos rfl, nI_clamp (by omega), if_neg hTS]
            exact (ho T hTS).2
          · rw [k3]
            dsimp only
            refine ⟨?_, ?_, k2⟩
            · rw [wr_ap, if_pos rfl, nI_clamp (by omega), if_pos rfl]
            · rw [wr_ne (by decide), wr_ap, if_pos rfl, nI_clamp (by omega), if_pos rfl]
        have hrun : run S (fun i => L (sw S i) + cst (mp w m cp) i (sw S i)) (fun i => W (sw S i)) (i + 1) = match run S (fun i => L (sw S i) + cst (mp w m cp) i (sw S i)) (fun i => W (sw S i)) i with
            | none => some (tot, wv)
            | some p => if tot < p.1 then some (tot, wv) else if tot = p.1 then some (p.1, p.2 + wv) else some p := by
          rw [run, c, if_pos rfl, htot, hwv]
        cases er : run S (fun i => L (sw S i) + cst (mp w m cp) i (sw S i)) (fun i => W (sw S i)) i with
        | none =>
          rw [er] at hr hrun
          dsimp only at hr
          refine hfin wv tot (key 0 0 wv tot ?_ ?_) hb hrun
          · rw [hr, if_neg (nI_ge (by omega) (by omega))]
          · rw [hr, if_neg (nI_ge (by omega) (by omega))]
        | some p =>
          rw [er] at hr hrun
          dsimp only at hr hrun
          obtain ⟨r1, r2, r3⟩ := hr
          by_cases u1 : tot < p.1
          · rw [if_pos u1] at hrun
            refine hfin wv tot (key 0 0 wv tot ?_ ?_) hb hrun
            · rw [r1, if_neg (nI_ge u1 (by omega))]
            · rw [r1, if_neg (nI_ge u1 (by omega))]
          · rw [if_neg u1] at hrun
            by_cases u2 : tot = p.1
            · rw [if_pos u2] at hrun
              refine hfin (p.2 + wv) p.1 (key 0 0 (p.2 + wv) p.1 ?_ ?_) r3 hrun
              · rw [r1, if_pos (nI_le (by omega) (by omega)), ri_k (show S < 256 by omega) (by decide), u2, if_pos rfl, ri_k (show S < 256 by omega) (by decide), r2, nI_add]
              · rw [r1, if_pos (nI_le (by omega) (by omega)), ri_k (show S < 256 by omega) (by decide)]
            · rw [if_neg u2] at hrun
              refine hfin p.2 p.1 (key 0 0 p.2 p.1 ?_ ?_) r3 hrun
              · rw [r1, if_pos (nI_le (by omega) (by omega)), ri_k (show S < 256 by omega) (by decide), if_neg (fun h => u2 ((nI_eq (by omega) (by omega)).mp h)), ri_k (show S < 256 by omega) (by decide), r2]
              · rw [r1, if_pos (nI_le (by omega) (by omega)), ri_k (show S < 256 by omega) (by decide)]
    · have q1 : q.2 1 0 = nI n := by rw [hx 1 (by decide)]; exact h1
      obtain ⟨i, hi, hb⟩ := nz_has hS (show S ≠ 0 by omega)
      obtain ⟨p, hp⟩ := run_some S (fun i => L (sw S i) + cst (mp w m cp) i (sw S i)) (fun i => W (sw S i)) n i hi hb
      rw [hp] at hr
      dsimp only at hr
      refine ⟨q.2, ?_, hx, ho, p, hp, hr.1, hr.2.1⟩
      show M_layOrders_s2 (nI S) q.1 q.2 = _
      unfold M_layOrders_s2
      rw [e, q1, if_pos (nI_le (Nat.le_refl _) (by omega))]
  obtain ⟨r, e1, e2, L, W, e3, e4⟩ := lp_iv (st := fun q => M_layOrders_s1 q.1 q.2) (fun S q => q.1 = nI S ∧ eqx [30, 31] h q.2 ∧ ∃ L W, isDP (mp w m cp) n L W S ∧ isO q.2 L W S) (fun r => eqx [30, 31] h r ∧ ∃ L W, isDP (mp w m cp) n L W (2 ^ n) ∧ isO r L W (2 ^ n)) 1 (2 ^ n) (by omega) (by omega) (fun S q hS1 hS ⟨e, hx, L, W, hD, hO⟩ => by
      have q1 : q.2 1 0 = nI n := by rw [hx 1 (by decide)]; exact h1
      obtain ⟨r, g1, g2, g3, p, g4, g5, g6⟩ := inner S (wr q.2 30 (nI S) (nI 268435456)) L W (by omega) hS (eqx_tr hx (eqx_wr (by decide))) hD (fun T hT => by
        rw [wr_ap, if_pos rfl, nI_clamp (by omega), if_neg (by omega), wr_ne (by decide)]
        exact hO T hT) (by rw [wr_ap, if_pos rfl, nI_clamp (by omega), if_pos rfl])
      refine ⟨(nI (S + 1), r), ?_, rfl, g2, (fun T => if T = S then p.1 else L T), (fun T => if T = S then p.2 else W T), ⟨?_, ?_, fun T hT0 hT => ?_⟩, fun T hT => ?_⟩
      · show M_layOrders_s1 q.1 q.2 = _
        unfold M_layOrders_s1
        rw [e, q1, s_shl n (by omega), if_neg (nI_ge hS (by omega)), ri_k (show S < 256 by omega) (by decide)]
        dsimp only [nm]
        rw [show (268435456 : Int32) = nI 268435456 from rfl, bd_of g1, nI_1]
      · dsimp only
        rw [if_neg (show ¬ 0 = S by omega)]; exact hD.1
      · dsimp only
        rw [if_neg (show ¬ 0 = S by omega)]; exact hD.2.1
      · have hcg : run T (fun i => (if sw T i = S then p.1 else L (sw T i)) + cst (mp w m cp) i (sw T i)) (fun i => if sw T i = S then p.2 else W (sw T i)) n = run T (fun i => L (sw T i) + cst (mp w m cp) i (sw T i)) (fun i => W (sw T i)) n := run_cong n (fun i hi hb => by
          have := sw_lt (S := T) (i := i) (by omega) hb
          show (if sw T i = S then p.1 else L (sw T i)) + _ = _ ∧ (if sw T i = S then p.2 else W (sw T i)) = _
          rw [if_neg (by omega), if_neg (by omega)]
          exact ⟨rfl, rfl⟩)
        refine hcg.trans ?_
        dsimp only
        by_cases u : T = S
        · subst u
          rw [if_pos rfl, if_pos rfl]
          exact g4
        · rw [if_neg u, if_neg u]
          exact hD.2.2 T hT0 (by omega)
      · by_cases u : T = S
        · subst u
          simp only [if_pos rfl]
          exact ⟨g5, g6⟩
        · simp only [if_neg u]
          obtain ⟨v1, v2⟩ := g3 T u
          rw [wr_ap, if_pos rfl, nI_clamp (by omega), if_neg u] at v1
          rw [wr_ne (by decide)] at v2
          obtain ⟨z1, z2⟩ := hO T (by omega)
          exact ⟨v1.trans z1, v2.trans z2⟩) (fun q ⟨e, hx, L, W, hD, hO⟩ => by
      have q1 : q.2 1 0 = nI n := by rw [hx 1 (by decide)]; exact h1
      refine ⟨q.2, ?_, hx, L, W, hD, hO⟩
      show M_layOrders_s1 q.1 q.2 = _
      unfold M_layOrders_s1
      rw [e, q1, s_shl n (by omega), if_pos (nI_le (Nat.le_refl _) (by omega))]) ((1 : Int32), h5) ⟨rfl, x5, (fun _ => 0), (fun _ => 1), ⟨rfl, rfl, fun S h1 h2 => by omega⟩, fun S hS => by
        have : S = 0 := by omega
        subst this
        show h5 30 0 = nI 0 ∧ h5 31 0 = nI 1
        rw [hh5]
        refine ⟨?_, ?_⟩
        · rw [wr_ne (by decide), wr_ap, if_pos rfl, nI_clamp (by omega), if_pos rfl]
        · rw [wr_ap, if_pos rfl, nI_clamp (by omega), if_pos rfl]⟩
  refine ⟨r, L, W, ?_, e2, e3, e4⟩
  unfold M_layOrders
  rw [show ri 256 (0 : Int32) = ri (α := Nat → Nat → Int32) 256 (nI 0) from rfl]
  rw [ri_k (show 0 < 256 by omega) (by decide)]
  dsimp only [nm]
  rw [ri_k (show 0 < 256 by omega) (by decide)]
  show bd (lp _ FU ((1 : Int32), wr (wr h 30 (nI 0) (nI 0)) 31 (nI 0) (nI 1))) _ = _
  rw [← hh5, bd_of e1]
