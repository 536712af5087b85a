/-! THE STATE: one abstract state, and how the class and the reference hold it -/
abbrev SN : Type := Nat × (Nat → Nat → Nat) × Option (Nat × Nat × TA) × Nat
def plT (p : Option (Nat × Nat × TA)) : Nat := match p with
  | none => 0
  | some x => x.2.1
def plM (p : Option (Nat × Nat × TA)) : Int32 := match p with
  | none => -1
  | some x => nI x.1
def snB (n L : Nat) (s : SN) : Prop := cB s.1 s.2.1 ∧ (∀ c, c < s.1 → s.2.1 0 c < L ∧ s.2.1 1 c < n ∧ s.2.1 2 c < n) ∧ (s.2.2.1 = none → s.2.2.2 = 0) ∧ (∀ x, s.2.2.1 = some x → x.1 < L ∧ x.2.1 ≤ 56 ∧ okA x.2.2 x.2.1 n ∧ s.2.2.2 ≤ x.2.1)
def cPl (o : Option PRec) (p : Option (Nat × Nat × TA)) : Prop := match p with
  | none => o = none
  | some x => ∃ z : PRec, o = some z ∧ z.2.2.1 = nI x.1 ∧ z.2.2.2.1 = x.2.1 ∧ isA (pG z) 1 8 x.2.1 x.2.2
def cSn (G : Nat → Nat → Int32) (o : Option PRec) (ru rs rc : Nat) (s : SN) : Prop := isC G rs rc s.1 s.2.1 ∧ G ru 0 = nI s.2.2.2 ∧ cPl o s.2.2.1
def mCu (h : Nat → Nat → Int32) (s : SN) : Prop := isM h s.1 s.2.1 ∧ h 9 0 = plM s.2.2.1 ∧ h 10 0 = nI (plT s.2.2.1) ∧ h 11 0 = nI s.2.2.2 ∧ (∀ x, s.2.2.1 = some x → isA h 12 10 x.2.1 x.2.2)
def pk4 (cp : Nat → Nat → Nat) (c : Nat) : Nat := 1000 * cp 0 c + 100 * cp 1 c + 10 * cp 2 c + cp 3 c
def mRo (h : Nat → Nat → Int32) (r : Nat) (s : SN) : Prop := h 14 r = nI s.1 ∧ (∀ c, c < s.1 → h 15 (48 * r + c) = nI (pk4 s.2.1 c)) ∧ h 16 r = plM s.2.2.1 ∧ h 17 r = nI (plT s.2.2.1) ∧ h 18 r = nI s.2.2.2 ∧ (∀ x, s.2.2.1 = some x → ∀ t, t < x.2.1 → h 19 (56 * r + t) = nI (10 * (x.2.2 t).1 + (x.2.2 t).2))
def slt (v k : Nat) : Nat := (v + 12 - k) % 12
def psh (s : SN) (hs : Nat → SN) : Nat → SN := fun k => match k with
  | 0 => s
  | k + 1 => hs k
def RP (n L : Nat) (w : Nat → Nat) (s : SN) (K : Nat) (hs : Nat → SN) (v len : Nat) : Prop := 2 ≤ n ∧ n ≤ 8 ∧ 1 ≤ L ∧ L ≤ 8 ∧ (∀ i, w i ≤ 9) ∧ snB n L s ∧ K ≤ 12 ∧ (∀ k, k < K → snB n L (hs k)) ∧ v < 12 ∧ len ≤ 60
def RC (n L : Nat) (w : Nat → Nat) (s : SN) (K : Nat) (hs : Nat → SN) (v len : Nat) (tx : Nat → Int32) (G : Nat → Nat → Int32) (P : Nat → Option PRec) : Prop := G 0 0 = nI n ∧ G 1 0 = nI L ∧ isW G 2 w ∧ cSn G (P 0) 3 5 4 s ∧ G 6 0 = nI v ∧ G 7 0 = nI K ∧ (∀ k, k < K → cSn G (P (1 + slt v k)) (50 + slt v k) (70 + slt v k) (90 + slt v k) (hs k)) ∧ G 9 0 = nI len ∧ ∀ t, t < len → G 8 t = tx t
def RM (n L : Nat) (w : Nat → Nat) (s : SN) (K : Nat) (hs : Nat → SN) (len : Nat) (tx : Nat → Int32) (h : Nat → Nat → Int32) : Prop := h 1 0 = nI n ∧ h 2 0 = nI L ∧ isW h 3 w ∧ mCu h s ∧ h 13 0 = nI K ∧ (∀ k, k < K → mRo h (K - 1 - k) (hs k)) ∧ h 20 0 = nI len ∧ ∀ t, t < len → h 21 t = tx t
theorem slt_lt (v k : Nat) : slt v k < 12 := Nat.mod_lt _ (by decide)
theorem slt_s {v k : Nat} (hv : v < 12) (hk : k < 11) : slt ((v + 1) % 12) (k + 1) = slt v k := by unfold slt; omega
theorem slt_n {v k : Nat} (hv : v < 12) (hk : k < 11) : slt v k ≠ (v + 1) % 12 := by unfold slt; omega
theorem slt_0 {v : Nat} (hv : v < 12) : slt v 0 = v := by unfold slt; omega
theorem slt_u {v k : Nat} (hv : v < 12) (hk : k < 11) : slt ((v + 11) % 12) k = slt v (k + 1) := by unfold slt; omega
theorem cSn_x {G G2 : Nat → Nat → Int32} {o : Option PRec} {ru rs rc : Nat} {s : SN} (h : cSn G o ru rs rc s) (h1 : G2 ru = G ru) (h2 : G2 rs = G rs) (h3 : G2 rc = G rc) : cSn G2 o ru rs rc s := by
  obtain ⟨⟨a, b⟩, c, d⟩ := h
  exact ⟨⟨by rw [h2]; exact a, fun t ht => by rw [h3]; exact b t ht⟩, by rw [h1]; exact c, d⟩
theorem mCu_x {h h2 : Nat → Nat → Int32} {s : SN} (H : mCu h s) (hx : ∀ k, 4 ≤ k → k ≤ 12 → h2 k = h k) : mCu h2 s := by
  obtain ⟨⟨a, b⟩, c, d, e, f⟩ := H
  refine ⟨⟨by rw [hx 4 (by decide) (by decide)]; exact a, fun t ht => ?_⟩, by rw [hx 9 (by decide) (by decide)]; exact c, by rw [hx 10 (by decide) (by decide)]; exact d, by rw [hx 11 (by decide) (by decide)]; exact e, fun x hp t ht => by rw [hx 12 (by decide) (by decide)]; exact f x hp t ht⟩
  rw [hx 5 (by decide) (by decide), hx 6 (by decide) (by decide), hx 7 (by decide) (by decide), hx 8 (by decide) (by decide)]
  exact b t ht
theorem mRo_x {h h2 : Nat → Nat → Int32} {r : Nat} {s : SN} (H : mRo h r s) (hx : ∀ k, 14 ≤ k → k ≤ 19 → h2 k = h k) : mRo h2 r s := by
  obtain ⟨a, b, c, d, e, f⟩ := H
  exact ⟨by rw [hx 14 (by decide) (by decide)]; exact a, fun t ht => by rw [hx 15 (by decide) (by decide)]; exact b t ht, by rw [hx 16 (by decide) (by decide)]; exact c, by rw [hx 17 (by decide) (by decide)]; exact d, by rw [hx 18 (by decide) (by decide)]; exact e, fun x hp t ht => by rw [hx 19 (by decide) (by decide)]; exact f x hp t ht⟩
/-- another current snapshot -/
theorem RC_s {n L : Nat} {w : Nat → Nat} {s s2 : SN} {K : Nat} {hs : Nat → SN} {v len : Nat} {tx : Nat → Int32} {G G2 : Nat → Nat → Int32} {P P2 : Nat → Option PRec} {X : List Nat} (H : RC n L w s K hs v len tx G P) (hx : eqx X G G2) (hX : ∀ k, k ∈ X → (3 ≤ k ∧ k ≤ 5) ∨ (10 ≤ k ∧ k < 50)) (hP : ∀ k, P2 (1 + k) = P (1 + k)) (hS : cSn G2 (P2 0) 3 5 4 s2) : RC n L w s2 K hs v len tx G2 P2 := by
  obtain ⟨a, b, c, d, e, f, g, i, j⟩ := H
  have q : ∀ k, ¬ ((3 ≤ k ∧ k ≤ 5) ∨ (10 ≤ k ∧ k < 50)) → G2 k = G k := fun k hk => hx k (fun u => hk (hX k u))
  refine ⟨by rw [q 0 (by decide)]; exact a, by rw [q 1 (by decide)]; exact b, fun t ht => by rw [q 2 (by decide)]; exact c t ht, hS, by rw [q 6 (by decide)]; exact e, by rw [q 7 (by decide)]; exact f, fun k hk => ?_, by rw [q 9 (by decide)]; exact i, fun t ht => by rw [q 8 (by decide)]; exact j t ht⟩
  rw [hP]
  exact cSn_x (g k hk) (q _ (by omega)) (q _ (by omega)) (q _ (by omega))
theorem RC_x {n L : Nat} {w : Nat → Nat} {s : SN} {K : Nat} {hs : Nat → SN} {v len : Nat} {tx : Nat → Int32} {G G2 : Nat → Nat → Int32} {P : Nat → Option PRec} {X : List Nat} (H : RC n L w s K hs v len tx G P) (hx : eqx X G G2) (hX : ∀ k, k ∈ X → 10 ≤ k ∧ k < 50) : RC n L w s K hs v len tx G2 P := by
  have q : ∀ k, ¬ (10 ≤ k ∧ k < 50) → G2 k = G k := fun k hk => hx k (fun u => hk (hX k u))
  refine RC_s H hx (fun k hk => Or.inr (hX k hk)) (fun _ => rfl) ?_
  exact cSn_x H.2.2.2.1 (q _ (by decide)) (q _ (by decide)) (q _ (by decide))
theorem RM_s {n L : Nat} {w : Nat → Nat} {s s2 : SN} {K : Nat} {hs : Nat → SN} {len : Nat} {tx : Nat → Int32} {h h2 : Nat → Nat → Int32} {X : List Nat} (H : RM n L w s K hs len tx h) (hx : eqx X h h2) (hX : ∀ k, k ∈ X → k = 0 ∨ (4 ≤ k ∧ k ≤ 12) ∨ 22 ≤ k) (hS : mCu h2 s2) : RM n L w s2 K hs len tx h2 := by
  obtain ⟨a, b, c, d, e, f, g, i⟩ := H
  have q : ∀ k, ¬ (k = 0 ∨ (4 ≤ k ∧ k ≤ 12) ∨ 22 ≤ k) → h2 k = h k := fun k hk => hx k (fun u => hk (hX k u))
  exact ⟨by rw [q 1 (by decide)]; exact a, by rw [q 2 (by decide)]; exact b, fun t ht => by rw [q 3 (by decide)]; exact c t ht, hS, by rw [q 13 (by decide)]; exact e, fun k hk => mRo_x (f k hk) (fun y h1 h2 => q y (by omega)), by rw [q 20 (by decide)]; exact g, fun t ht => by rw [q 21 (by decide)]; exact i t ht⟩
theorem RM_x {n L : Nat} {w : Nat → Nat} {s : SN} {K : Nat} {hs : Nat → SN} {len : Nat} {tx : Nat → Int32} {h h2 : Nat → Nat → Int32} {X : List Nat} (H : RM n L w s K hs len tx h) (hx : eqx X h h2) (hX : ∀ k, k ∈ X → k = 0 ∨ 22 ≤ k) : RM n L w s K hs len tx h2 := by
  have q : ∀ k, ¬ (k = 0 ∨ 22 ≤ k) → h2 k = h k := fun k hk => hx k (fun u => hk (hX k u))
  refine RM_s H hx (fun k hk => ?_) (mCu_x H.2.2.2.1 (fun k h1 h2 => q k (by omega)))
  rcases hX k hk with u | u
  · exact Or.inl u
  · exact Or.inr (Or.inr u)
/-- the plans that live -/
def PZ (P : Nat → Option PRec) (Z : List PRec) : Prop := ∀ (k : Nat) (z : PRec), P k = some z → z ∈ Z
theorem PZ_up {P : Nat → Option PRec} {Z : List PRec} {k j : Nat} (h : PZ P Z) : PZ (va_up P k (P j)) Z := by
  intro i z hz
  rw [up_ap] at hz
  by_cases c : i = k
  · rw [if_pos c] at hz; exact h j z hz
  · rw [if_neg c] at hz; exact h i z hz
theorem PZ_no {P : Nat → Option PRec} {Z : List PRec} {k : Nat} (h : PZ P Z) : PZ (va_up P k none) Z := by
  intro i z hz
  rw [up_ap] at hz
  by_cases c : i = k
  · rw [if_pos c] at hz; cases hz
  · rw [if_neg c] at hz; exact h i z hz
/-! history of the class -/
theorem k_remember {n L : Nat} {w : Nat → Nat} {s : SN} {K : Nat} {hs : Nat → SN} {v len : Nat} {tx : Nat → Int32} {G : Nat → Nat → Int32} {P : Nat → Option PRec} (B : RP n L w s K hs v len) (H : RC n L w s K hs v len tx G P) : ∃ G2, C_LT_rememberStep G P = some (G2, va_up P (1 + (v + 1) % 12) (P 0)) ∧ eqx [6, 7, 50 + (v + 1) % 12, 70 + (v + 1) % 12, 90 + (v + 1) % 12] G G2 ∧ RC n L w s (min (K + 1) 12) (psh s hs) ((v + 1) % 12) len tx G2 (va_up P (1 + (v + 1) % 12) (P 0)) := by
  obtain ⟨b1, b2, b3, b4, b5, b6, b7, b8, b9, b10⟩ := B
  obtain ⟨a, b, c, d, e, f, g, i, j⟩ := id H
  obtain ⟨u, hu⟩ : ∃ u, u = (v + 1) % 12 := ⟨_, rfl⟩
  rw [← hu]
  have hu12 : u < 12 := by omega
  obtain ⟨G1, hG1⟩ : ∃ G1, G1 = wf (wf G 6 (nI u)) 7 (nI (min (K + 1) 12)) := ⟨_, rfl⟩
  have e1 : C_HI_next G = some (some u, G1) := by
    unfold C_HI_next
    have q1 : (if (12 : Int32) ≤ (G 6 0) + (1 : Int32) then (some (0 : Int32)) else (some ((G 6 0) + (1 : Int32)))) = some (nI u) := by
      rw [e, nI_1, show (12 : Int32) = nI 12 from rfl]
      by_cases q : 12 ≤ v + 1
      · rw [if_pos (nI_le q (by omega)), show u = 0 by omega]; rfl
      · rw [if_neg (nI_ge (by omega) (by omega)), show u = v + 1 by omega]
    rw [bd_of q1]
    dsimp only [nm]
    have q2 : (if (12 : Int32) < (wf G 6 (nI u) 7 0) + (1 : Int32) then (12 : Int32) else (wf G 6 (nI u) 7 0) + (1 : Int32)) = nI (min (K + 1) 12) := by
      rw [wf_ne (by decide), f, nI_1, show (12 : Int32) = nI 12 from rfl]
      by_cases q : 12 < K + 1
      · rw [if_pos (nI_lt q (by omega)), show min (K + 1) 12 = 12 by omega]
      · rw [if_neg (nI_nlt (by omega) (by omega)), show min (K + 1) 12 = K + 1 by omega]
    rw [q2, ← hG1, show G1 6 0 = nI u by rw [hG1, wf_ne (by decide), wf_ap, if_pos rfl], ri_k hu12 (by decide), nI_clamp (by omega)]
  obtain ⟨G2, hG2⟩ : ∃ G2, G2 = wf (C_CO_copyFrom_to u G1) (50 + u) (G1 3 0) := ⟨_, rfl⟩
  have hk1 : ∀ k, k ≠ 6 → k ≠ 7 → k ≠ 50 + u → k ≠ 70 + u → k ≠ 90 + u → G2 k = G k := by
    intro k p1 p2 p3 p4 p5
    rw [hG2, wf_ne p3]
    unfold C_CO_copyFrom_to
    dsimp only [nm]
    rw [wf_ne p4]
    unfold wc
    rw [va_up_ne _ _ p5, hG1, wf_ne p2, wf_ne p1]
  refine ⟨G2, ?_, fun k hk => ?_, ?_⟩
  · unfold C_LT_rememberStep
    rw [bd2_of e1, oc_some rfl, gd_of hu12]
    unfold C_SP_keep
    dsimp only [nm]
    rw [hG2]
    cases hp : P 0 with
    | none => rfl
    | some z => rfl
  · have := hk
    rw [List.mem_cons, List.mem_cons, List.mem_cons, List.mem_cons, List.mem_cons] at this
    exact hk1 k (by grind) (by grind) (by grind) (by grind) (by grind)
  · have hP0 : va_up P (1 + u) (P 0) 0 = P 0 := va_up_ne _ _ (by omega)
    have c1 : cSn G2 (P 0) 3 5 4 s := cSn_x d (hk1 _ (by decide) (by decide) (by omega) (by omega) (by omega)) (hk1 _ (by decide) (by decide) (by omega) (by omega) (by omega)) (hk1 _ (by decide) (by decide) (by omega) (by omega) (by omega))
    have h13 : ∀ k, k ≠ 6 → k ≠ 7 → G1 k = G k := fun k p1 p2 => by rw [hG1, wf_ne p2, wf_ne p1]
    have c2 : cSn G2 (P 0) (50 + u) (70 + u) (90 + u) s := by
      obtain ⟨⟨d1, d2⟩, d3, d4⟩ := d
      refine ⟨⟨?_, fun t ht => ?_⟩, ?_, d4⟩
      · rw [hG2, wf_ne (by omega)]
        unfold C_CO_copyFrom_to wc
        dsimp only [nm]
        rw [wf_ap, if_pos rfl, va_up_ne _ _ (by omega), h13 5 (by decide) (by decide)]
        exact d1
      · rw [hG2, wf_ne (by omega)]
        unfold C_CO_copyFrom_to wc
        dsimp only [nm]
        rw [wf_ne (by omega), up_ap, if_pos rfl]
        unfold va_cpy
        rw [if_pos ⟨by omega, by have := b6.1.1; omega⟩, show 0 + (t - 0) = t by omega, h13 4 (by decide) (by decide)]
        exact d2 t ht
      · rw [hG2, wf_ap, if_pos rfl, h13 3 (by decide) (by decide)]
        exact d3
    refine ⟨by rw [hk1 0 (by decide) (by decide) (by omega) (by omega) (by omega)]; exact a, by rw [hk1 1 (by decide) (by decide) (by omega) (by omega) (by omega)]; exact b, fun t ht => by rw [hk1 2 (by decide) (by decide) (by omega) (by omega) (by omega)]; exact c t ht, by rw [hP0]; exact c1, ?_, ?_, ?_, by rw [hk1 9 (by decide) (by decide) (by omega) (by omega) (by omega)]; exact i, fun t ht => by rw [hk1 8 (by decide) (by decide) (by omega) (by omega) (by omega)]; exact j t ht⟩
    · rw [hG2, wf_ne (by omega)]
      unfold C_CO_copyFrom_to wc
      dsimp only [nm]
      rw [wf_ne (by omega), va_up_ne _ _ (by omega), hG1, wf_ne (by decide), wf_ap, if_pos rfl]
    · rw [hG2, wf_ne (by omega)]
      unfold C_CO_copyFrom_to wc
      dsimp only [nm]
      rw [wf_ne (by omega), va_up_ne _ _ (by omega), hG1, wf_ap, if_pos rfl]
    · intro k hk
      cases k with
      | zero =>
        rw [slt_0 hu12, up_ap, if_pos rfl]
        exact c2
      | succ k =>
        have q := slt_s (v := v) (k := k) b9 (by omega)
        have q2 := slt_n (v := v) (k := k) b9 (by omega)
        rw [← hu] at q q2
        rw [q, va_up_ne _ _ (by omega)]
        have hl := slt_lt v k
        exact cSn_x (g k (by omega)) (hk1 _ (by omega) (by omega) (by omega) (by omega) (by omega)) (hk1 _ (by omega) (by omega) (by omega) (by omega) (by omega)) (hk1 _ (by omega) (by omega) (by omega) (by omega) (by omega))
