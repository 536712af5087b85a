/-! RANKS: points without a comparison, ranks, stable ranks; margins of the reference; dominance -/
def ptO (w : Nat → Nat) (m : Nat) (cp : Nat → Nat → Nat) (s : Nat) (o : Int32) : Nat := fb_sm (fun c => if nI c = o then 0 else ptD cp c s * w (cp 0 c)) m
theorem ptD_le (cp : Nat → Nat → Nat) (c s : Nat) : ptD cp c s ≤ 2 := by unfold ptD; (repeat' split) <;> omega
theorem ptO_le {w : Nat → Nat} (hw : ∀ i, w i ≤ 9) (m : Nat) (cp : Nat → Nat → Nat) (s : Nat) (o : Int32) : ptO w m cp s o ≤ m * 18 := by
  have h := fb_sm_bound (f := fun c => if nI c = o then 0 else ptD cp c s * w (cp 0 c)) (c := 18) (n := m) (fun k _ => by
    have h1 := Nat.mul_le_mul (ptD_le cp k s) (hw (cp 0 k))
    show (if nI k = o then 0 else ptD cp k s * w (cp 0 k)) ≤ 18
    split <;> omega)
  unfold ptO; omega
theorem ptO_all (w : Nat → Nat) {m : Nat} (hm : m ≤ 48) (cp : Nat → Nat → Nat) (s : Nat) : ptO w m cp s (-1) = pts w m cp s :=
  fb_sm_cong (fun k hk => if_neg (nI_nn (by omega)))
theorem ptO_one (w : Nat → Nat) {m : Nat} (hm : m ≤ 48) (cp : Nat → Nat → Nat) (s : Nat) {k : Nat} (hk : k < m) : pts w m cp s = ptO w m cp s (nI k) + ptD cp k s * w (cp 0 k) := by
  have h := fb_sm_upd (fun c => ptD cp c s * w (cp 0 c)) 0 hk
  have e : ptO w m cp s (nI k) = fb_sm (fun c => if c = k then 0 else ptD cp c s * w (cp 0 c)) m := fb_sm_cong (fun c hc => by
    show (if nI c = nI k then 0 else _) = if c = k then 0 else _
    by_cases q : c = k
    · rw [if_pos q, if_pos (by rw [q])]
    · rw [if_neg q, if_neg (fun h => q ((nE (by omega) (by omega)).mp h))])
  rw [e]
  unfold pts
  omega
def rkO (w : Nat → Nat) (m : Nat) (cp : Nat → Nat → Nat) (n s : Nat) (o : Int32) : Nat := 1 + fb_sm (fun k => if ptO w m cp s o < ptO w m cp k o then 1 else 0) n
theorem rkO_le (w : Nat → Nat) (m : Nat) (cp : Nat → Nat → Nat) (n s : Nat) (o : Int32) : rkO w m cp n s o ≤ 1 + n := by
  have h := fb_sm_bound (f := fun k => if ptO w m cp s o < ptO w m cp k o then 1 else 0) (c := 1) (n := n) (fun k _ => by
    show (if ptO w m cp s o < ptO w m cp k o then 1 else 0) ≤ 1
    split <;> omega)
  unfold rkO; omega
theorem m_points {h : Nat → Nat → Int32} {w : Nat → Nat} {m : Nat} {cp : Nat → Nat → Nat} (B : cB m cp) (H : isM h m cp) (hw : isW h 3 w) {s : Nat} (hs : s < 8) (o : Int32) : M_pointsWithout h (nI s) o = some (nI (ptO w m cp s o)) := by
  have hm := B.1
  unfold M_pointsWithout
  rw [bd_of (lp_S0 (st := fun q => M_pointsWithout_s1 (nI s) o h q.1 q.2) (fun c => if nI c = o then 0 else ptD cp c s * w (cp 0 c)) m (by omega) (fun c x hc => by
    obtain ⟨b0, b1, b2, b3, b4⟩ := B.2 c hc
    obtain ⟨e0, e1, e2, e3⟩ := H.2 c hc
    have ew := hw _ b0
    show M_pointsWithout_s1 (nI s) o h x (nI c) = _
    have hx13 : (if nI c = o then (some (0 : Int32)) else (ri 48 (nI c) <| if h 6 (nI c).toNatClampNeg = nI s then (some (1 : Int32)) else (ri 48 (nI c) <| if h 7 (nI c).toNatClampNeg = nI s then (some (1 : Int32)) else (some (0 : Int32))))) = some (if nI c = o then 0 else if cp 1 c = s ∨ cp 2 c = s then 1 else 0) := by
      rw [ri_k (show c < 48 by omega) (by decide), ri_k (show c < 48 by omega) (by decide), nI_clamp (show c < 2 ^ 31 by omega), e1, e2]
      simp only [nE (show cp 1 c < 1000 by omega) (show s < 1000 by omega), nE (show cp 2 c < 1000 by omega) (show s < 1000 by omega)]
      by_cases q0 : nI c = o
      · rw [if_pos q0, if_pos q0]
      · rw [if_neg q0, if_neg q0]
        (repeat' split) <;> first | rfl | (exfalso; omega)
    have hx20 : (if h 8 (nI c).toNatClampNeg = 0 then (some (1 : Int32)) else (bd (M_wonBy h (nI c)) fun r39 => if r39 = nI s then (some (2 : Int32)) else (some (0 : Int32)))) = some (nI (if cp 3 c = 0 then 1 else if (cp 3 c = 1 ∧ cp 1 c = s) ∨ (cp 3 c = 2 ∧ cp 2 c = s) then 2 else 0)) := by
      rw [bd_of (m_wonBy H B hc), nI_clamp (show c < 2 ^ 31 by omega), e3, show (0 : Int32) = nI 0 from rfl]
      simp only [nE (show cp 3 c < 1000 by omega) (show 0 < 1000 by omega)]
      by_cases a0 : cp 3 c = 0
      · rw [if_pos a0, if_pos a0]
        rfl
      · rw [if_neg a0, if_neg a0]
        by_cases a1 : cp 3 c = 1
        · rw [if_pos a1]
          simp only [nE (show cp 1 c < 1000 by omega) (show s < 1000 by omega)]
          (repeat' split) <;> first | rfl | (exfalso; omega)
        · rw [if_neg a1, if_pos (show cp 3 c = 2 by omega)]
          simp only [nE (show cp 2 c < 1000 by omega) (show s < 1000 by omega)]
          (repeat' split) <;> first | rfl | (exfalso; omega)
    unfold M_pointsWithout_s1
    rw [H.1, if_neg (nI_ge hc (by omega)), bd_of hx13, ri_k (show c < 48 by omega) (by decide), bd_of hx20]
    dsimp only [nm]
    rw [ri_k (show c < 48 by omega) (by decide), nI_clamp (show c < 2 ^ 31 by omega), e0, ri_k b0 (by decide), nI_clamp (show cp 0 c < 2 ^ 31 by omega), ew, nI_1]
    have hp : (if cp 1 c = s ∨ cp 2 c = s then (if cp 3 c = 0 then 1 else if (cp 3 c = 1 ∧ cp 1 c = s) ∨ (cp 3 c = 2 ∧ cp 2 c = s) then 2 else 0) else 0) = ptD cp c s := by
      unfold ptD
      (repeat' split) <;> first | rfl | (exfalso; omega)
    by_cases q0 : nI c = o
    · rw [if_pos q0, if_pos q0, if_pos rfl]
      rfl
    · rw [if_neg q0, if_neg q0, ← hp]
      by_cases q1 : cp 1 c = s ∨ cp 2 c = s
      · rw [if_pos q1, if_pos q1, if_neg (by decide), pk_mul]
        rfl
      · rw [if_neg q1, if_neg q1, if_pos rfl, Nat.zero_mul]
        rfl) (fun x => by
    show M_pointsWithout_s1 (nI s) o h x (nI m) = _
    unfold M_pointsWithout_s1
    rw [H.1, if_pos (nI_le (Nat.le_refl m) (by omega))]))]
  rfl
theorem m_rank {h : Nat → Nat → Int32} {w : Nat → Nat} {m : Nat} {cp : Nat → Nat → Nat} (B : cB m cp) (H : isM h m cp) (hw : isW h 3 w) (hw9 : ∀ i, w i ≤ 9) {n : Nat} (h1 : h 1 0 = nI n) (hn : n ≤ 8) {s : Nat} (hs : s < n) (o : Int32) : M_rankWithout h (nI s) o = some (nI (rkO w m cp n s o)) := by
  have hm := B.1
  have hb : ∀ s, ptO w m cp s o < 1000 := fun s => by have := ptO_le hw9 m cp s o; omega
  unfold M_rankWithout
  rw [bd_of (m_points B H hw (by omega) o)]
  have e := lp_S (st := fun q => M_rankWithout_s1 o (nI (ptO w m cp s o)) h q.1 q.2) (fun k => if ptO w m cp s o < ptO w m cp k o then 1 else 0) 0 n 1 (by omega) (by omega) (fun k x _ hk => by
    show M_rankWithout_s1 o (nI (ptO w m cp s o)) h x (nI k) = _
    unfold M_rankWithout_s1
    rw [h1, if_neg (nI_ge hk (by omega)), bd_of (m_points B H hw (show k < 8 by omega) o)]
    dsimp only [nm]
    rw [nI_1]
    have b1 := hb s
    have b2 := hb k
    by_cases q : ptO w m cp s o < ptO w m cp k o
    · rw [if_neg (nI_ge q (by omega)), if_pos q]
      rfl
    · rw [if_pos (nI_le (by omega) (by omega)), if_neg q]
      rfl) (fun x => by
    show M_rankWithout_s1 o (nI (ptO w m cp s o)) h x (nI n) = _
    unfold M_rankWithout_s1
    rw [h1, if_pos (nI_le (Nat.le_refl _) (by omega))])
  simp only [Nat.zero_add, Nat.sub_zero] at e
  rw [bd_of (show lp (fun q => M_rankWithout_s1 o (nI (ptO w m cp s o)) h q.1 q.2) FU ((1 : Int32), (0 : Int32)) = _ from e)]
  rfl
/-- the rank stays whatever comparison is left out -/
def stB (w : Nat → Nat) (m : Nat) (cp : Nat → Nat → Nat) (n s : Nat) : Bool := decide (∀ k, k < m → rkO w m cp n s (nI k) = rkO w m cp n s (-1))
theorem m_stable {h : Nat → Nat → Int32} {w : Nat → Nat} {m : Nat} {cp : Nat → Nat → Nat} (B : cB m cp) (H : isM h m cp) (hw : isW h 3 w) (hw9 : ∀ i, w i ≤ 9) {n : Nat} (h1 : h 1 0 = nI n) (hn : n ≤ 8) {s : Nat} (hs : s < n) : M_isStable h (nI s) = some (b2i (stB w m cp n s)) := by
  have hm := B.1
  obtain ⟨r, e1, e2⟩ := lp_iv (st := fun q => M_isStable_s1 (nI s) (nI (rkO w m cp n s (-1))) h q.1 q.2) (fun k q => q.2 = nI k ∧ tr q.1 (∀ c, c < k → rkO w m cp n s (nI c) = rkO w m cp n s (-1))) (fun r => tr r (∀ c, c < m → rkO w m cp n s (nI c) = rkO w m cp n s (-1))) 0 m (by omega) (by omega) (fun k q _ hk ⟨e, hv⟩ => by
      have b1 := rkO_le w m cp n s (nI k)
      have b2 := rkO_le w m cp n s (-1)
      have ho : (if q.1 = 0 then (some (0 : Int32)) else (bd (M_rankWithout h (nI s) (nI k)) fun r26 => if r26 = nI (rkO w m cp n s (-1)) then (some (1 : Int32)) else (some (0 : Int32)))) = some (if q.1 = 0 then 0 else if rkO w m cp n s (nI k) = rkO w m cp n s (-1) then 1 else 0) := by
        rw [bd_of (m_rank B H hw hw9 h1 hn hs (nI k))]
        simp only [nE (show rkO w m cp n s (nI k) < 1000 by omega) (show rkO w m cp n s (-1) < 1000 by omega)]
        (repeat' split) <;> rfl
      refine ⟨(if q.1 = 0 then 0 else if rkO w m cp n s (nI k) = rkO w m cp n s (-1) then 1 else 0, nI (k + 1)), ?_, rfl, ?_⟩
      · show M_isStable_s1 (nI s) (nI (rkO w m cp n s (-1))) h q.1 q.2 = _
        unfold M_isStable_s1
        rw [e, H.1, if_neg (nI_ge hk (by omega)), bd_of ho]
        dsimp only [nm]
        rw [nI_1]
      · have hb : (∀ c, c < k + 1 → rkO w m cp n s (nI c) = rkO w m cp n s (-1)) ↔ ((∀ c, c < k → rkO w m cp n s (nI c) = rkO w m cp n s (-1)) ∧ rkO w m cp n s (nI k) = rkO w m cp n s (-1)) := by
          constructor
          · exact fun hh => ⟨fun c hc => hh c (by omega), hh k (by omega)⟩
          · intro hh c hc
            rcases Nat.lt_or_ge c k with q | q
            · exact hh.1 c q
            · have : c = k := by omega
              subst this
              exact hh.2
        refine tr_iff ?_ hb.symm
        rcases hv with ⟨v1, v2⟩ | ⟨v1, v2⟩
        · dsimp only
          rw [v1, if_neg (by decide)]
          by_cases q0 : rkO w m cp n s (nI k) = rkO w m cp n s (-1)
          · rw [if_pos q0]; exact Or.inl ⟨rfl, v2, q0⟩
          · rw [if_neg q0]; exact Or.inr ⟨rfl, fun h => q0 h.2⟩
        · dsimp only
          rw [v1, if_pos rfl]
          exact Or.inr ⟨rfl, fun h => v2 h.1⟩) (fun q ⟨e, hv⟩ => by
      refine ⟨q.1, ?_, hv⟩
      show M_isStable_s1 (nI s) (nI (rkO w m cp n s (-1))) h q.1 q.2 = _
      unfold M_isStable_s1
      rw [e, H.1, if_pos (nI_le (Nat.le_refl _) (by omega))]) ((1 : Int32), (0 : Int32)) ⟨rfl, Or.inl ⟨rfl, fun c hc => by omega⟩⟩
  have e3 : r = b2i (stB w m cp n s) := tr_one e2 (tr_iff (tr_b _) (by unfold stB; rw [decide_eq_true_eq]))
  unfold M_isStable
  rw [bd_of (m_rank B H hw hw9 h1 hn hs (-1)), bd_of e1, e3]
  cases stB w m cp n s <;> rfl
def stN (w : Nat → Nat) (m : Nat) (cp : Nat → Nat → Nat) (n : Nat) : Nat := fb_sm (fun s => if stB w m cp n s = true then 1 else 0) n
theorem m_stables {h : Nat → Nat → Int32} {w : Nat → Nat} {m : Nat} {cp : Nat → Nat → Nat} (B : cB m cp) (H : isM h m cp) (hw : isW h 3 w) (hw9 : ∀ i, w i ≤ 9) {n : Nat} (h1 : h 1 0 = nI n) (hn : n ≤ 8) : M_stables h = some (nI (stN w m cp n)) := by
  unfold M_stables
  rw [bd_of (lp_S0 (st := fun q => M_stables_s1 h q.1 q.2) (fun s => if stB w m cp n s = true then 1 else 0) n (by omega) (fun s x hs => by
    show M_stables_s1 h x (nI s) = _
    unfold M_stables_s1
    rw [h1, if_neg (nI_ge hs (by omega)), bd_of (m_stable B H hw hw9 h1 hn hs)]
    dsimp only [nm]
    rw [nI_1]
    cases stB w m cp n s <;> rfl) (fun x => by
    show M_stables_s1 h x (nI n) = _
    unfold M_stables_s1
    rw [h1, if_pos (nI_le (Nat.le_refl _) (by omega))]))]
  rfl
theorem k_rank_18 {G : Nat → Nat → Int32} {n : Nat} (h21 : G 21 0 = nI n) (hn : n ≤ 8) {p : Nat → Nat} (hp : ∀ s, s < 8 → G 23 s = nI (p s)) (hb : ∀ s, p s < 1000) {s : Nat} (hs : s < n) : C_SD_rankIn_18 G (nI s) = some (nI (1 + fb_sm (fun k => if p s < p k then 1 else 0) n)) := by
  have e := lp_S (st := fun q => C_SD_rankIn_18_s1 (nI s) G q.1 q.2) (fun k => if p s < p k then 1 else 0) 0 n 1 (by omega) (by omega) (fun k x _ hk => by
    show C_SD_rankIn_18_s1 (nI s) G x (nI k) = _
    unfold C_SD_rankIn_18_s1
    rw [h21, if_neg (nI_ge hk (by omega)), if_neg (show ¬ (8 : Int32) ≤ nI k from nI_ge (show k < 8 by omega) (by decide)), ri_k (show k < 8 by omega) (by decide), c8_and s (by omega), ri_k (show s < 8 by omega) (by decide), nI_clamp (show k < 2 ^ 31 by omega), nI_clamp (show s < 2 ^ 31 by omega), hp k (by omega), hp s (by omega)]
    dsimp only [nm]
    rw [nI_1]
    have b1 := hb s
    have b2 := hb k
    by_cases q : p s < p k
    · rw [if_neg (nI_ge q (by omega)), if_pos q]
      rfl
    · rw [if_pos (nI_le (by omega) (by omega)), if_neg q, i_a0]
      rfl) (fun x => by
    show C_SD_rankIn_18_s1 (nI s) G x (nI n) = _
    unfold C_SD_rankIn_18_s1
    rw [h21, if_pos (nI_le (Nat.le_refl _) (by omega))])
  simp only [Nat.zero_add, Nat.sub_zero] at e
  unfold C_SD_rankIn_18
  rw [bd_of (show lp (fun q => C_SD_rankIn_18_s1 (nI s) G q.1 q.2) FU ((1 : Int32), (0 : Int32)) = _ from e)]
theorem k_rank_19 {G : Nat → Nat → Int32} {n : Nat} (h21 : G 21 0 = nI n) (hn : n ≤ 8) {p : Nat → Nat} (hp : ∀ s, s < 8 → G 24 s = nI (p s)) (hb : ∀ s, p s < 1000) {s : Nat} (hs : s < n) : C_SD_rankIn_19 G (nI s) = some (nI (1 + fb_sm (fun k => if p s < p k then 1 else 0) n)) := by
  have e := lp_S (st := fun q => C_SD_rankIn_19_s1 (nI s) G q.1 q.2) (fun k => if p s < p k then 1 else 0) 0 n 1 (by omega) (by omega) (fun k x _ hk => by
    show C_SD_rankIn_19_s1 (nI s) G x (nI k) = _
    unfold C_SD_rankIn_19_s1
    rw [h21, if_neg (nI_ge hk (by omega)), if_neg (show ¬ (8 : Int32) ≤ nI k from nI_ge (show k < 8 by omega) (by decide)), ri_k (show k < 8 by omega) (by decide), c8_and s (by omega), ri_k (show s < 8 by omega) (by decide), nI_clamp (show k < 2 ^ 31 by omega), nI_clamp (show s < 2 ^ 31 by omega), hp k (by omega), hp s (by omega)]
    dsimp only [nm]
    rw [nI_1]
    have b1 := hb s
    have b2 := hb k
    by_cases q : p s < p k
    · rw [if_neg (nI_ge q (by omega)), if_pos q]
      rfl
    · rw [if_pos (nI_le (by omega) (by omega)), if_neg q, i_a0]
      rfl) (fun x => by
    show C_SD_rankIn_19_s1 (nI s) G x (nI n) = _
    unfold C_SD_rankIn_19_s1
    rw [h21, if_pos (nI_le (Nat.le_refl _) (by omega))])
  simp only [Nat.zero_add, Nat.sub_zero] at e
  unfold C_SD_rankIn_19
  rw [bd_of (show lp (fun q => C_SD_rankIn_19_s1 (nI s) G q.1 q.2) FU ((1 : Int32), (0 : Int32)) = _ from e)]
theorem k_rank {G : Nat → Nat → Int32} {n : Nat} {w : Nat → Nat} {m : Nat} {cp : Nat → Nat → Nat} (hm : m ≤ 48) (hw9 : ∀ i, w i ≤ 9) (S : isS G n w m cp) (hn : n ≤ 8) {s : Nat} (hs : s < n) : C_SD_rankIn_18 G (nI s) = some (nI (rkO w m cp n s (-1))) := by
  have hb : ∀ s, pts w m cp s < 1000 := fun s => by have := ptO_le hw9 m cp s (-1); rw [ptO_all w hm] at this; omega
  rw [k_rank_18 S.1 hn S.2.2.2 hb hs]
  unfold rkO
  simp only [ptO_all w hm]
theorem i_neg (a b c : Int32) : a + b * c + b * (-c) = a := by grind
theorem k_stable {G : Nat → Nat → Int32} {n : Nat} {w : Nat → Nat} {m : Nat} {cp : Nat → Nat → Nat} (B : cB m cp) (H : isC G 5 4 m cp) (hw9 : ∀ i, w i ≤ 9) (S : isS G n w m cp) (hn : n ≤ 8) {s : Nat} (hs : s < n) : ∃ G2, C_SD_isStable G (nI s) = some (b2i (stB w m cp n s), G2) ∧ eqx [24] G G2 := by
  have hm := B.1
  obtain ⟨r, e1, e2, e3⟩ := lp_ex (st := fun q => C_SD_isStable_s1 (nI s) (nI (rkO w m cp n s (-1))) q.1 q.2) (fun k q => q.1 = nI k ∧ eqx [24] G q.2 ∧ ∀ c, c < k → rkO w m cp n s (nI c) = rkO w m cp n s (-1)) (fun r => tr r.1 (∀ c, c < m → rkO w m cp n s (nI c) = rkO w m cp n s (-1)) ∧ eqx [24] G r.2) 0 m (by omega) (by omega) (fun k q _ hk ⟨e, hx, hv⟩ => by
      obtain ⟨b0, b1, b2, b3, b4⟩ := B.2 k hk
      obtain ⟨u0, u1, u2, u3⟩ := k_un B hk
      have Hq := isC_x H hx (by decide) (by decide)
      have x1 : eqx [24] q.2 (wc q.2 23 24 8) := eqx_up (by decide)
      have c24 : ∀ t, t < 8 → wc q.2 23 24 8 24 t = nI (pts w m cp t) := fun t ht => by
        unfold wc
        rw [va_up_self, sb_cpy0 ht, hx 23 (by decide)]
        exact S.2.2.2 t ht
      have c22 : wc q.2 23 24 8 22 (cp 0 k) = nI (w (cp 0 k)) := by
        rw [x1 22 (by decide), hx 22 (by decide)]
        exact S.2.1 _ b0
      obtain ⟨G3, a1, a2, a3⟩ := k_addP_19 B hk (wc q.2 23 24 8) (-(nI (w (cp 0 k))))
      have x3 : eqx [24] G G3 := eqx_tr hx (eqx_tr x1 a2)
      have d24 : ∀ t, t < 8 → G3 24 t = nI (ptO w m cp t (nI k)) := fun t ht => by
        rw [a3 t ht, c24 t ht, ptO_one w hm cp t hk, ← nI_add, ← pk_mul, i_neg]
      have hr := k_rank_19 (G := G3) (n := n) (by rw [x3 21 (by decide)]; exact S.1) hn (p := fun t => ptO w m cp t (nI k)) d24 (fun t => by have := ptO_le hw9 m cp t (nI k); show ptO w m cp t (nI k) < 1000; omega) hs
      have hr2 : C_SD_rankIn_19 G3 (nI s) = some (nI (rkO w m cp n s (nI k))) := hr
      have p1 := rkO_le w m cp n s (nI k)
      have p2 := rkO_le w m cp n s (-1)
      have hst : C_SD_isStable_s1 (nI s) (nI (rkO w m cp n s (-1))) q.1 q.2 = (if nI (rkO w m cp n s (nI k)) = nI (rkO w m cp n s (-1)) then some (.inl (nI (k + 1), G3)) else some (.inr ((0 : Int32), G3))) := by
        unfold C_SD_isStable_s1
        rw [e, Hq.1, if_neg (nI_ge hk (by omega)), bd_of (k_at Hq hm hk)]
        dsimp only [nm]
        rw [u0, ri_k b0 (by decide), nI_clamp (show cp 0 k < 2 ^ 31 by omega), c22, bd_of a1, bd_of hr2, nI_1]
      by_cases q0 : rkO w m cp n s (nI k) = rkO w m cp n s (-1)
      · refine Or.inl ⟨(nI (k + 1), G3), by rw [← (if_pos (by rw [q0]) : (if nI (rkO w m cp n s (nI k)) = nI (rkO w m cp n s (-1)) then some (.inl (nI (k + 1), G3)) else some (.inr ((0 : Int32), G3))) = (some (.inl (nI (k + 1), G3)) : Option ((Int32 × (Nat → Nat → Int32)) ⊕ (Int32 × (Nat → Nat → Int32)))))]; exact hst, rfl, x3, fun c hc => ?_⟩
        rcases Nat.lt_or_ge c k with q | q
        · exact hv c q
        · have : c = k := by omega
          subst this
          exact q0
      · refine Or.inr ⟨((0 : Int32), G3), ?_, Or.inr ⟨rfl, fun hh => q0 (hh k hk)⟩, x3⟩
        show C_SD_isStable_s1 (nI s) (nI (rkO w m cp n s (-1))) q.1 q.2 = _
        rw [hst, if_neg (fun h => q0 ((nE (by omega) (by omega)).mp h))]) (fun q ⟨e, hx, hv⟩ => by
      have Hq := isC_x H hx (by decide) (by decide)
      refine ⟨((1 : Int32), q.2), ?_, Or.inl ⟨rfl, hv⟩, hx⟩
      show C_SD_isStable_s1 (nI s) (nI (rkO w m cp n s (-1))) q.1 q.2 = _
      unfold C_SD_isStable_s1
      rw [e, Hq.1, if_pos (nI_le (Nat.le_refl _) (by omega))]) ((0 : Int32), G) ⟨rfl, eqx_rf, fun c hc => by omega⟩
  refine ⟨r.2, ?_, e3⟩
  have e4 : r.1 = b2i (stB w m cp n s) := tr_one e2 (tr_iff (tr_b _) (by unfold stB; rw [decide_eq_true_eq]))
  unfold C_SD_isStable
  rw [bd_of (k_rank hm hw9 S hn hs), e1, ← e4]
theorem isS_x {g g2 : Nat → Nat → Int32} {L : List Nat} {n : Nat} {w : Nat → Nat} {m : Nat} {cp : Nat → Nat → Nat} (S : isS g n w m cp) (hx : eqx L g g2) (h0 : 20 ∉ L) (h1 : 21 ∉ L) (h2 : 22 ∉ L) (h3 : 23 ∉ L) : isS g2 n w m cp := by
  unfold isS isW
  rw [hx 20 h0, hx 21 h1, hx 22 h2, hx 23 h3]
  exact S
theorem k_stables {G : Nat → Nat → Int32} {n : Nat} {w : Nat → Nat} {m : Nat} {cp : Nat → Nat → Nat} (B : cB m cp) (H : isC G 5 4 m cp) (hw9 : ∀ i, w i ≤ 9) (S : isS G n w m cp) (hn : n ≤ 8) : ∃ G2, C_SD_countStable G = some (nI (stN w m cp n), G2) ∧ eqx [24] G G2 := by
  obtain ⟨r, e1, e2, e3⟩ := lp_iv (st := fun q => C_SD_countStable_s1 q.1 q.2.1 q.2.2) (fun s q => q.1 = nI (fb_sm (fun s => if stB w m cp n s = true then 1 else 0) s) ∧ q.2.1 = nI s ∧ eqx [24] G q.2.2) (fun r => r.1 = nI (stN w m cp n) ∧ eqx [24] G r.2) 0 n (by omega) (by omega) (fun s q _ hs ⟨q1, q2, q3⟩ => by
      have Sq := isS_x S q3 (by decide) (by decide) (by decide) (by decide)
      obtain ⟨G2, t1, t2⟩ := k_stable B (isC_x H q3 (by decide) (by decide)) hw9 Sq hn hs
      refine ⟨(nI (fb_sm (fun s => if stB w m cp n s = true then 1 else 0) (s + 1)), nI (s + 1), G2), ?_, rfl, rfl, eqx_tr q3 t2⟩
      show C_SD_countStable_s1 q.1 q.2.1 q.2.2 = _
      unfold C_SD_countStable_s1
      rw [q1, q2, Sq.1, if_neg (nI_ge hs (by omega)), bd2_of t1]
      dsimp only [nm]
      rw [nI_1, nI_1, fb_sm_succ]
      cases stB w m cp n s <;> rfl) (fun q ⟨q1, q2, q3⟩ => by
      have Sq := isS_x S q3 (by decide) (by decide) (by decide) (by decide)
      refine ⟨(q.1, q.2.2), ?_, q1, q3⟩
      show C_SD_countStable_s1 q.1 q.2.1 q.2.2 = _
      unfold C_SD_countStable_s1
      rw [q2, Sq.1, if_pos (nI_le (Nat.le_refl _) (by omega))]) ((0 : Int32), (0 : Int32), G) ⟨rfl, rfl, eqx_rf⟩
  refine ⟨r.2, ?_, e3⟩
  unfold C_SD_countStable
  rw [e1]
  show some (r.1, r.2) = _
  rw [e2]
/-! who beats whom -/
def btB (w : Nat → Nat) (m : Nat) (cp : Nat → Nat → Nat) (i j : Nat) : Bool := decide (wiW w m cp j i < wiW w m cp i j)
theorem mgn_le {w : Nat → Nat} (hw9 : ∀ i, w i ≤ 9) {m : Nat} (hm : m ≤ 48) (cp : Nat → Nat → Nat) (i j : Nat) : (mgn w m cp i j ≤ 0) ↔ btB w m cp i j = false := by
  have h1 := wiW_le hw9 m cp i j
  have h2 := wiW_le hw9 m cp j i
  unfold mgn btB
  rw [i_le0 (by omega) (by omega), decide_eq_false_iff_not]
  omega
theorem bt_ex {w : Nat → Nat} {m : Nat} {cp : Nat → Nat → Nat} {i j : Nat} (h : btB w m cp i j = true) : btB w m cp j i = false := by
  unfold btB at *
  rw [decide_eq_true_eq] at h
  rw [decide_eq_false_iff_not]
  omega
theorem k_beats {G : Nat → Nat → Int32} {n : Nat} {w : Nat → Nat} {m : Nat} {cp : Nat → Nat → Nat} (hm : m ≤ 48) (hw9 : ∀ i, w i ≤ 9) (S : isS G n w m cp) {i j : Nat} (hi : i < 8) (hj : j < 8) : C_LE_isAhead_22 G (nI i) (nI j) = some (b2i (btB w m cp i j)) := by
  rw [(k_cellI_22 hi hj).1, S.2.2.1 i j hi hj]
  simp only [mgn_le hw9 hm]
  cases btB w m cp i j <;> rfl
/-- the reference's margins, for i and j below n -/
def isG (h : Nat → Nat → Int32) (n : Nat) (w : Nat → Nat) (m : Nat) (cp : Nat → Nat → Nat) : Prop := ∀ i j, i < n → j < n → h 29 (8 * i + j) = mgn w m cp i j
theorem m_beats {h : Nat → Nat → Int32} {n : Nat} {w : Nat → Nat} {m : Nat} {cp : Nat → Nat → Nat} (hm : m ≤ 48) (hw9 : ∀ i, w i ≤ 9) (S : isG h n w m cp) (hn : n ≤ 8) {i j : Nat} (hi : i < n) (hj : j < n) : M_beats h (nI i) (nI j) = some (b2i (btB w m cp i j)) := by
  unfold M_beats
  rw [c8_row, ri_k (show 8 * i + j < 64 by omega) (by decide), nI_clamp (show 8 * i + j < 2 ^ 31 by omega), S i j hi hj]
  simp only [mgn_le hw9 hm]
  cases btB w m cp i j <;> rfl
theorem mgn_self (w : Nat → Nat) (m : Nat) (cp : Nat → Nat → Nat) (i : Nat) : mgn w m cp i i = 0 := i_sub _
theorem m_layMargins {h : Nat → Nat → Int32} {w : Nat → Nat} {m : Nat} {cp : Nat → Nat → Nat} (B : cB m cp) (H : isM h m cp) (hw : isW h 3 w) {n : Nat} (h1 : h 1 0 = nI n) (hn : n ≤ 8) (hn0 : 0 < n) : ∃ h2, M_layMargins h = some h2 ∧ eqx [29] h h2 ∧ isG h2 n w m cp := by
  have hnn : n * n ≤ 64 := Nat.mul_le_mul hn hn
  obtain ⟨r, e1, e2, e3⟩ := lp_iv (st := fun q => M_layMargins_s1 q.1 q.2) (fun k q => q.1 = nI k ∧ eqx [29] h q.2 ∧ ∀ i j, i < n → j < n → i * n + j < k → q.2 29 (8 * i + j) = mgn w m cp i j) (fun r => eqx [29] h r ∧ isG r n w m cp) 0 (n * n) (by omega) (by omega) (fun k q _ hk ⟨e, hx, hv⟩ => by
      have Hq := isM_x H hx (by decide) (by decide) (by decide) (by decide) (by decide)
      have Wq := isW_x hw hx (r := 3) (by decide)
      have q1 : q.2 1 0 = nI n := by rw [hx 1 (by decide)]; exact h1
      obtain ⟨I, hI⟩ : ∃ I, I = k / n := ⟨_, rfl⟩
      obtain ⟨J, hJ⟩ : ∃ J, J = k % n := ⟨_, rfl⟩
      have hIn : I < n := by rw [hI]; exact Nat.div_lt_of_lt_mul hk
      have hJn : J < n := by rw [hJ]; exact Nat.mod_lt _ hn0
      have hk2 : k = I * n + J := by rw [hI, hJ, Nat.mul_comm]; exact (Nat.div_add_mod k n).symm
      have hb : (if nI I = nI J then (some (0 : Int32)) else (bd (M_margin q.2 (nI I) (nI J)) fun r28 => some r28)) = some (mgn w m cp I J) := by
        by_cases c : I = J
        · rw [if_pos (by rw [c]), c, mgn_self]
        · rw [if_neg (fun h => c ((nE (by omega) (by omega)).mp h)), bd_of (m_margin Hq B Wq (by omega) (by omega))]
      refine ⟨(nI (k + 1), wr q.2 29 (nI (8 * I + J)) (mgn w m cp I J)), ?_, rfl, eqx_tr hx (eqx_wr (by decide)), fun i j hi hj hij => ?_⟩
      · show M_layMargins_s1 q.1 q.2 = _
        unfold M_layMargins_s1
        rw [e, q1, pk_mul, if_neg (nI_ge hk (by omega)), gd_of (nI_ne0 hn0 (by omega))]
        dsimp only [nm]
        rw [gd_of (nI_ne0 hn0 (by omega)), pk_rem (by omega) hn0 (by omega), pk_div (by omega) hn0 (by omega), ← hI, ← hJ, bd_of hb, c8_row, ri_k (show 8 * I + J < 64 by omega) (by decide), nI_1]
      · show wr q.2 29 (nI (8 * I + J)) (mgn w m cp I J) 29 (8 * i + j) = _
        rw [wr_nI _ _ (show 8 * I + J < 2 ^ 31 by omega), va_up_self, up8 _ _ _ _ _ _ (by omega) (by omega)]
        by_cases c : i = I ∧ j = J
        · rw [if_pos c, c.1, c.2]
        · rw [if_neg c]
          refine hv i j hi hj ?_
          rcases Nat.lt_trichotomy i I with u | u | u
          · have h5 := Nat.mul_le_mul_right n (show i + 1 ≤ I by omega)
            rw [Nat.add_mul] at h5
            omega
          · subst u
            have : j ≠ J := fun e => c ⟨rfl, e⟩
            omega
          · have h5 := Nat.mul_le_mul_right n (show I + 1 ≤ i by omega)
            rw [Nat.add_mul] at h5
            omega) (fun q ⟨e, hx, hv⟩ => by
      have q1 : q.2 1 0 = nI n := by rw [hx 1 (by decide)]; exact h1
      refine ⟨q.2, ?_, hx, fun i j hi hj => hv i j hi hj ?_⟩
      · show M_layMargins_s1 q.1 q.2 = _
        unfold M_layMargins_s1
        rw [e, q1, pk_mul, if_pos (nI_le (Nat.le_refl _) (by omega))]
      · have h5 := Nat.mul_le_mul_right n (show i + 1 ≤ n by omega)
        rw [Nat.add_mul] at h5
        omega) ((0 : Int32), h) ⟨rfl, eqx_rf, fun i j _ _ h => by omega⟩
  exact ⟨r, by unfold M_layMargins; rw [bd_of e1], e2, e3⟩
/-! dominance -/
def dmA (A : Nat → Nat → Bool) (n s : Nat) : Int32 := nI (fb_sm (fun j => if A s j = true then 1 else 0) n) - nI (fb_sm (fun j => if A j s = true then 1 else 0) n)
theorem m_dominance {h : Nat → Nat → Int32} {n : Nat} {w : Nat → Nat} {m : Nat} {cp : Nat → Nat → Nat} (hm : m ≤ 48) (hw9 : ∀ i, w i ≤ 9) (S : isG h n w m cp) (h1 : h 1 0 = nI n) (hn : n ≤ 8) {s : Nat} (hs : s < n) : M_dominance h (nI s) = some (dmA (btB w m cp) n s) := by
  have e := lp_up (st := fun q => M_dominance_s1 (nI s) h q.1 q.2) (r := dmA (btB w m cp) n s) (fun j => (nI (fb_sm (fun j => if btB w m cp s j = true then 1 else 0) j) - nI (fb_sm (fun j => if btB w m cp j s = true then 1 else 0) j), nI j)) 0 n (by omega) (by omega) (fun j _ hj => by
    show M_dominance_s1 (nI s) h _ (nI j) = _
    unfold M_dominance_s1
    rw [h1, if_neg (nI_ge hj (by omega)), bd_of (m_beats hm hw9 S hn hs hj), bd_of (m_beats hm hw9 S hn hj hs)]
    dsimp only [nm]
    rw [nI_1, fb_sm_succ, fb_sm_succ, ← nI_add (fb_sm _ _), ← nI_add (fb_sm _ _), ← i_cross]
    have x1 := bt_ex (w := w) (m := m) (cp := cp) (i := s) (j := j)
    revert x1
    cases btB w m cp s j <;> cases btB w m cp j s <;> intro x1 <;> first | rfl | exact absurd (x1 rfl) (by decide)) (by
    show M_dominance_s1 (nI s) h _ (nI n) = _
    unfold M_dominance_s1
    rw [h1, if_pos (nI_le (Nat.le_refl _) (by omega))]
    rfl)
  unfold M_dominance
  rw [bd_of (show lp (fun q => M_dominance_s1 (nI s) h q.1 q.2) FU ((0 : Int32), (0 : Int32)) = _ by
    rw [← e]
    show _ = lp _ FU (nI 0 - nI 0, nI 0)
    rw [i_s0]
    rfl)]
theorem i_pm (x : Int32) : x + 1 + (-1) = x := by grind
theorem k_dominance {G : Nat → Nat → Int32} {n : Nat} {w : Nat → Nat} {m : Nat} {cp : Nat → Nat → Nat} (hm : m ≤ 48) (hw9 : ∀ i, w i ≤ 9) (S : isS G n w m cp) (hn : n ≤ 8) {s : Nat} (hs : s < n) : C_SD_dominanceOf G (nI s) = some (dmA (btB w m cp) n s) := by
  have e := lp_up (st := fun q => C_SD_dominanceOf_s1 (nI s) G q.1 q.2) (r := dmA (btB w m cp) n s) (fun j => (nI (fb_sm (fun j => if btB w m cp s j = true then 1 else 0) j) - nI (fb_sm (fun j => if btB w m cp j s = true then 1 else 0) j), nI j)) 0 n (by omega) (by omega) (fun j _ hj => by
    show C_SD_dominanceOf_s1 (nI s) G _ (nI j) = _
    unfold C_SD_dominanceOf_s1
    rw [S.1, if_neg (nI_ge hj (by omega)), bd_of (k_beats hm hw9 S (by omega) (by omega))]
    dsimp only [nm]
    simp only [k_beats hm hw9 S (show j < 8 by omega) (show s < 8 by omega)]
    rw [nI_1, fb_sm_succ, fb_sm_succ, ← nI_add (fb_sm _ _), ← nI_add (fb_sm _ _), ← i_cross]
    have z0 : nI 0 - nI 0 = nI 0 := by decide
    have z1 : nI 1 - nI 0 = (1 : Int32) := by decide
    have z2 : nI 0 - nI 1 = (-1 : Int32) := by decide
    have x1 := bt_ex (w := w) (m := m) (cp := cp) (i := s) (j := j)
    revert x1
    cases btB w m cp s j <;> cases btB w m cp j s <;> intro x1
    · simp only [reduceCtorEq, reduceIte, z0, i_a0]
      rfl
    · simp only [reduceCtorEq, reduceIte, z2]
      rfl
    · simp only [reduceCtorEq, reduceIte, z1]
      rfl
    · exact absurd (x1 rfl) (by decide)) (by
    show C_SD_dominanceOf_s1 (nI s) G _ (nI n) = _
    unfold C_SD_dominanceOf_s1
    rw [S.1, if_pos (nI_le (Nat.le_refl _) (by omega))]
    rfl)
  unfold C_SD_dominanceOf
  rw [bd_of (show lp (fun q => C_SD_dominanceOf_s1 (nI s) G q.1 q.2) FU ((0 : Int32), (0 : Int32)) = _ by
    rw [← e]
    show _ = lp _ FU (nI 0 - nI 0, nI 0)
    rw [i_s0]
    rfl)]
/-! rings of all -/
theorem m_goesA {h : Nat → Nat → Int32} {n : Nat} {w : Nat → Nat} {m : Nat} {cp : Nat → Nat → Nat} (hm : m ≤ 48) (hw9 : ∀ i, w i ≤ 9) (S : isG h n w m cp) (hn : n ≤ 8) {i j : Nat} (hi : i < n) (hj : j < n) : M_goesAhead h (-1 : Int32) (nI i) (nI j) = some (b2i (btB w m cp i j)) := by
  unfold M_goesAhead
  rw [if_pos rfl, bd_of (m_beats hm hw9 S hn hi hj)]
  cases btB w m cp i j <;> rfl
