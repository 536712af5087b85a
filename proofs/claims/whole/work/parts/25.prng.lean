/-! COUNTS, RINGS, PREFERENCES -/
def mrg (n : Nat) : Int32 := (C_LT_mostRings (nI n)).getD 0
theorem k_mostRings : ∀ n, n < 9 → C_LT_mostRings (nI n) = some (mrg n) := by decide +kernel
theorem m_mostRings0 : ∀ n, n < 9 → M_mostRings (fun _ _ => nI n) = some (mrg n) := by decide +kernel
theorem m_mostRings {h : Nat → Nat → Int32} {n : Nat} (h1 : h 1 0 = nI n) (hn : n < 9) : M_mostRings h = some (mrg n) := by
  rw [← m_mostRings0 n hn]
  unfold M_mostRings
  rw [h1]
theorem f_mul1 : ∀ k, k < 520 → FP.dmul FP.dconst1 (FP.i2d (nI k)) = FP.i2d (nI k) := by decide +kernel
theorem f_mul2 : ∀ k, k < 30 → ∀ t, t < 30 → FP.dmul FP.dconst1 (FP.i2d (nI k - nI t)) = FP.i2d (nI k - nI t) := by decide +kernel
theorem i_comm (a b : Int32) : a + b = b + a := by grind
theorem i_assoc (a b c : Int32) : a + b + c = a + (b + c) := by grind
theorem itr_smx (f : Nat → Nat) (a : Nat) (x : Int32) : ∀ (d : Nat), itr (fun i (x : Int32) => x + nI (f i)) a d x = x + nI (fb_sm (fun t => f (a + t)) d)
  | 0 => (i_a0 x).symm
  | d + 1 => by rw [itr, itr_smx f a x d, fb_sm_succ, ← nI_add, i_assoc]
theorem lp_SX {st : Int32 × Int32 → Option ((Int32 × Int32) ⊕ Int32)} (f : Nat → Nat) (a n : Nat) (x0 : Int32) (h : a ≤ n) (hn : n < 100000) (hs : ∀ i x, a ≤ i → i < n → st (x, nI i) = some (.inl (x + nI (f i), nI (i + 1)))) (he : ∀ x, st (x, nI n) = some (.inr x)) : lp st FU (x0, nI a) = some (x0 + nI (fb_sm (fun t => f (a + t)) (n - a))) := by
  rw [lp_A (fun i (x : Int32) => x + nI (f i)) (fun x => x) a n x0 h hn hs he, itr_smx]
theorem lp_A2 {α β ρ : Type} {st : α × β × Int32 → Option ((α × β × Int32) ⊕ ρ)} (g : Nat → α × β → α × β) (fin : α × β → ρ) (a n : Nat) (x0 : α × β) (h : a ≤ n) (hn : n < 100000) (hs : ∀ i x y, a ≤ i → i < n → st (x, y, nI i) = some (.inl ((g i (x, y)).1, (g i (x, y)).2, nI (i + 1)))) (he : ∀ x y, st (x, y, nI n) = some (.inr (fin (x, y)))) : lp st FU (x0.1, x0.2, nI a) = some (fin (itr g a (n - a) x0)) := by
  have e := lp_up (st := st) (r := fin (itr g a (n - a) x0)) (fun i => ((itr g a (i - a) x0).1, (itr g a (i - a) x0).2, nI i)) a n h hn (fun i h1 h2 => by rw [hs i _ _ h1 h2, itr_up g a h1]) (he _ _)
  rw [itr_0] at e
  exact e
def b2i (b : Bool) : Int32 := if b = true then 1 else 0
theorem b2i_0 (b : Bool) : (b2i b = 0) ↔ b = false := by cases b <;> decide
/-- how often an answer was given -/
def cnA (m : Nat) (cp : Nat → Nat → Nat) (a : Nat) : Nat := fb_sm (fun c => if cp 3 c = a then 1 else 0) m
theorem cnA_two (m : Nat) (cp : Nat → Nat → Nat) : cnA m cp 1 + cnA m cp 2 ≤ m := by
  have h := fb_sm_bound (f := fun c => (if cp 3 c = 1 then 1 else 0) + (if cp 3 c = 2 then 1 else 0)) (c := 1) (n := m) (fun k _ => by
    show (if cp 3 k = 1 then 1 else 0) + (if cp 3 k = 2 then 1 else 0) ≤ 1
    split <;> split <;> omega)
  rw [fb_sm_add] at h
  unfold cnA; omega
theorem k_countA {m : Nat} {cp : Nat → Nat → Nat} (B : cB m cp) {G : Nat → Nat → Int32} (H : isC G 5 4 m cp) {a : Nat} (ha : a < 3) : C_CO_countAnswers G (nI a) = some (nI (cnA m cp a)) := by
  have hm := B.1
  unfold C_CO_countAnswers
  rw [bd_of (lp_S0 (st := fun q => C_CO_countAnswers_s1 (nI a) G q.1 q.2) (fun c => if cp 3 c = a then 1 else 0) m (by omega) (fun c x hc => by
    obtain ⟨b0, b1, b2, b3, b4⟩ := B.2 c hc
    obtain ⟨u0, u1, u2, u3⟩ := k_un B hc
    show C_CO_countAnswers_s1 (nI a) G x (nI c) = _
    unfold C_CO_countAnswers_s1
    rw [H.1, if_neg (nI_ge hc (by omega)), ri_k (show c < 48 by omega) (by decide), nI_clamp (show c < 2 ^ 31 by omega), H.2 c hc, u3]
    dsimp only [nm]
    rw [nI_1]
    by_cases q : cp 3 c = a
    · rw [if_pos (by rw [q]), if_pos q]
      rfl
    · rw [if_neg (fun e => q ((nE (by omega) (by omega)).mp e)), if_neg q, i_a0]
      rfl) (fun x => by
    show C_CO_countAnswers_s1 (nI a) G x (nI m) = _
    unfold C_CO_countAnswers_s1
    rw [H.1, if_pos (nI_le (Nat.le_refl m) (by omega))]))]
  rfl
theorem m_firsts {m : Nat} {cp : Nat → Nat → Nat} (B : cB m cp) {h : Nat → Nat → Int32} (H : isM h m cp) {a : Nat} (ha : a < 3) : M_firsts h (nI a) = some (nI (cnA m cp a)) := by
  have hm := B.1
  unfold M_firsts
  rw [bd_of (lp_S0 (st := fun q => M_firsts_s1 (nI a) h q.1 q.2) (fun c => if cp 3 c = a then 1 else 0) m (by omega) (fun c x hc => by
    obtain ⟨b0, b1, b2, b3, b4⟩ := B.2 c hc
    obtain ⟨e0, e1, e2, e3⟩ := H.2 c hc
    show M_firsts_s1 (nI a) h x (nI c) = _
    unfold M_firsts_s1
    rw [H.1, if_neg (nI_ge hc (by omega)), ri_k (show c < 48 by omega) (by decide), nI_clamp (show c < 2 ^ 31 by omega), e3]
    dsimp only [nm]
    rw [nI_1]
    by_cases q : cp 3 c = a
    · rw [if_pos (by rw [q]), if_pos q]
      rfl
    · rw [if_neg (fun e => q ((nE (by omega) (by omega)).mp e)), if_neg q]
      rfl) (fun x => by
    show M_firsts_s1 (nI a) h x (nI m) = _
    unfold M_firsts_s1
    rw [H.1, if_pos (nI_le (Nat.le_refl m) (by omega))]))]
  rfl
theorem m_ties {m : Nat} {cp : Nat → Nat → Nat} (B : cB m cp) {h : Nat → Nat → Int32} (H : isM h m cp) : M_ties h = some (nI (cnA m cp 0)) := by
  rw [← m_firsts B H (a := 0) (by omega)]
  rfl
/-! rings of a relation -/
def rk (A : Nat → Nat → Bool) (i j k : Nat) : Nat := if ((A i j && A j k && A k i) || (A k j && A j i && A i k)) = true then 1 else 0
def r3 (A : Nat → Nat → Bool) (n i j : Nat) : Nat := fb_sm (fun t => rk A i j (j + 1 + t)) (n - (j + 1))
def r2 (A : Nat → Nat → Bool) (n i : Nat) : Nat := fb_sm (fun t => r3 A n i (i + 1 + t)) (n - (i + 1))
def r1 (A : Nat → Nat → Bool) (n : Nat) : Nat := fb_sm (fun i => r2 A n i) n
theorem r1_le {A : Nat → Nat → Bool} {n : Nat} (hn : n ≤ 8) : r1 A n ≤ 512 := by
  have h3 : ∀ i j, r3 A n i j ≤ 8 := fun i j => by
    have h := fb_sm_bound (f := fun t => rk A i j (j + 1 + t)) (c := 1) (n := n - (j + 1)) (fun k _ => by
      show rk A i j (j + 1 + k) ≤ 1
      unfold rk; split <;> omega)
    unfold r3; omega
  have h2 : ∀ i, r2 A n i ≤ 64 := fun i => by
    have h := fb_sm_bound (f := fun t => r3 A n i (i + 1 + t)) (c := 8) (n := n - (i + 1)) (fun k _ => h3 i _)
    unfold r2; omega
  have h := fb_sm_bound (f := fun i => r2 A n i) (c := 64) (n := n) (fun k _ => h2 k)
  unfold r1; omega
theorem k_isRing_12 {G : Nat → Nat → Int32} {A : Nat → Nat → Bool} (hA : ∀ i j, i < 8 → j < 8 → C_LE_isAhead_12 G (nI i) (nI j) = some (b2i (A i j))) {i j k : Nat} (hi : i < 8) (hj : j < 8) (hk : k < 8) : C_LE_isRing_12 G (nI i) (nI j) (nI k) = some (b2i (A i j && A j k && A k i)) := by
  unfold C_LE_isRing_12
  rw [bd_of (hA i j hi hj), bd_of (hA j k hj hk), bd_of (hA k i hk hi)]
  cases A i j <;> cases A j k <;> cases A k i <;> rfl
theorem k_rings_12 {G : Nat → Nat → Int32} {A : Nat → Nat → Bool} (hA : ∀ i j, i < 8 → j < 8 → C_LE_isAhead_12 G (nI i) (nI j) = some (b2i (A i j))) {n : Nat} (hn : n ≤ 8) : C_LE_countRings_12 G (nI n) = some (nI (r1 A n)) := by
  have s3 : ∀ i j x, i < n → j < n → lp (fun q => C_LE_countRings_12_s3 (nI n) (nI i) (nI j) G q.1 q.2) FU (x, nI (j + 1)) = some (x + nI (r3 A n i j)) := by
    intro i j x hi hj
    exact lp_SX (st := fun q => C_LE_countRings_12_s3 (nI n) (nI i) (nI j) G q.1 q.2) (fun k => rk A i j k) (j + 1) n x (by omega) (by omega) (fun k x _ hk => by
      show C_LE_countRings_12_s3 (nI n) (nI i) (nI j) G x (nI k) = _
      unfold C_LE_countRings_12_s3
      rw [if_neg (nI_ge hk (by omega)), bd_of (k_isRing_12 hA (show i < 8 by omega) (show j < 8 by omega) (show k < 8 by omega)), bd_of (k_isRing_12 hA (show k < 8 by omega) (show j < 8 by omega) (show i < 8 by omega))]
      dsimp only [nm]
      rw [nI_1]
      unfold rk
      cases (A i j && A j k && A k i) with
      | true => rfl
      | false =>
        cases (A k j && A j i && A i k) with
        | true => rfl
        | false =>
          show some (Sum.inl (x, _)) = some (Sum.inl (x + nI 0, _))
          rw [i_a0]) (fun x => by
      show C_LE_countRings_12_s3 (nI n) (nI i) (nI j) G x (nI n) = _
      unfold C_LE_countRings_12_s3
      rw [if_pos (nI_le (Nat.le_refl n) (by omega))])
  have s2 : ∀ i x, i < n → lp (fun q => C_LE_countRings_12_s2 (nI n) (nI i) G q.1 q.2) FU (x, nI (i + 1)) = some (x + nI (r2 A n i)) := by
    intro i x hi
    exact lp_SX (st := fun q => C_LE_countRings_12_s2 (nI n) (nI i) G q.1 q.2) (fun j => r3 A n i j) (i + 1) n x (by omega) (by omega) (fun j x _ hj => by
      show C_LE_countRings_12_s2 (nI n) (nI i) G x (nI j) = _
      unfold C_LE_countRings_12_s2
      rw [if_neg (nI_ge hj (by omega))]
      dsimp only [nm]
      rw [nI_1, bd_of (s3 i j x hi hj)]) (fun x => by
      show C_LE_countRings_12_s2 (nI n) (nI i) G x (nI n) = _
      unfold C_LE_countRings_12_s2
      rw [if_pos (nI_le (Nat.le_refl n) (by omega))])
  unfold C_LE_countRings_12
  rw [bd_of (lp_S0 (st := fun q => C_LE_countRings_12_s1 (nI n) G q.1 q.2) (fun i => r2 A n i) n (by omega) (fun i x hi => by
    show C_LE_countRings_12_s1 (nI n) G x (nI i) = _
    unfold C_LE_countRings_12_s1
    rw [if_neg (nI_ge hi (by omega))]
    dsimp only [nm]
    rw [nI_1, bd_of (s2 i x hi)]) (fun x => by
    show C_LE_countRings_12_s1 (nI n) G x (nI n) = _
    unfold C_LE_countRings_12_s1
    rw [if_pos (nI_le (Nat.le_refl n) (by omega))]))]
  rfl
theorem k_isRing_22 {G : Nat → Nat → Int32} {A : Nat → Nat → Bool} (hA : ∀ i j, i < 8 → j < 8 → C_LE_isAhead_22 G (nI i) (nI j) = some (b2i (A i j))) {i j k : Nat} (hi : i < 8) (hj : j < 8) (hk : k < 8) : C_LE_isRing_22 G (nI i) (nI j) (nI k) = some (b2i (A i j && A j k && A k i)) := by
  unfold C_LE_isRing_22
  rw [bd_of (hA i j hi hj), bd_of (hA j k hj hk), bd_of (hA k i hk hi)]
  cases A i j <;> cases A j k <;> cases A k i <;> rfl
theorem k_rings_22 {G : Nat → Nat → Int32} {A : Nat → Nat → Bool} (hA : ∀ i j, i < 8 → j < 8 → C_LE_isAhead_22 G (nI i) (nI j) = some (b2i (A i j))) {n : Nat} (hn : n ≤ 8) : C_LE_countRings_22 G (nI n) = some (nI (r1 A n)) := by
  have s3 : ∀ i j x, i < n → j < n → lp (fun q => C_LE_countRings_22_s3 (nI n) (nI i) (nI j) G q.1 q.2) FU (x, nI (j + 1)) = some (x + nI (r3 A n i j)) := by
    intro i j x hi hj
    exact lp_SX (st := fun q => C_LE_countRings_22_s3 (nI n) (nI i) (nI j) G q.1 q.2) (fun k => rk A i j k) (j + 1) n x (by omega) (by omega) (fun k x _ hk => by
      show C_LE_countRings_22_s3 (nI n) (nI i) (nI j) G x (nI k) = _
      unfold C_LE_countRings_22_s3
      rw [if_neg (nI_ge hk (by omega)), bd_of (k_isRing_22 hA (show i < 8 by omega) (show j < 8 by omega) (show k < 8 by omega)), bd_of (k_isRing_22 hA (show k < 8 by omega) (show j < 8 by omega) (show i < 8 by omega))]
      dsimp only [nm]
      rw [nI_1]
      unfold rk
      cases (A i j && A j k && A k i) with
      | true => rfl
      | false =>
        cases (A k j && A j i && A i k) with
        | true => rfl
        | false =>
          show some (Sum.inl (x, _)) = some (Sum.inl (x + nI 0, _))
          rw [i_a0]) (fun x => by
      show C_LE_countRings_22_s3 (nI n) (nI i) (nI j) G x (nI n) = _
      unfold C_LE_countRings_22_s3
      rw [if_pos (nI_le (Nat.le_refl n) (by omega))])
  have s2 : ∀ i x, i < n → lp (fun q => C_LE_countRings_22_s2 (nI n) (nI i) G q.1 q.2) FU (x, nI (i + 1)) = some (x + nI (r2 A n i)) := by
    intro i x hi
    exact lp_SX (st := fun q => C_LE_countRings_22_s2 (nI n) (nI i) G q.1 q.2) (fun j => r3 A n i j) (i + 1) n x (by omega) (by omega) (fun j x _ hj => by
      show C_LE_countRings_22_s2 (nI n) (nI i) G x (nI j) = _
      unfold C_LE_countRings_22_s2
      rw [if_neg (nI_ge hj (by omega))]
      dsimp only [nm]
      rw [nI_1, bd_of (s3 i j x hi hj)]) (fun x => by
      show C_LE_countRings_22_s2 (nI n) (nI i) G x (nI n) = _
      unfold C_LE_countRings_22_s2
      rw [if_pos (nI_le (Nat.le_refl n) (by omega))])
  unfold C_LE_countRings_22
  rw [bd_of (lp_S0 (st := fun q => C_LE_countRings_22_s1 (nI n) G q.1 q.2) (fun i => r2 A n i) n (by omega) (fun i x hi => by
    show C_LE_countRings_22_s1 (nI n) G x (nI i) = _
    unfold C_LE_countRings_22_s1
    rw [if_neg (nI_ge hi (by omega))]
    dsimp only [nm]
    rw [nI_1, bd_of (s2 i x hi)]) (fun x => by
    show C_LE_countRings_22_s1 (nI n) G x (nI n) = _
    unfold C_LE_countRings_22_s1
    rw [if_pos (nI_le (Nat.le_refl n) (by omega))]))]
  rfl
theorem m_isRound {h : Nat → Nat → Int32} {a0 : Int32} {A : Nat → Nat → Bool} {N : Nat} (hA : ∀ i j, i < N → j < N → M_goesAhead h a0 (nI i) (nI j) = some (b2i (A i j))) {i j k : Nat} (hi : i < N) (hj : j < N) (hk : k < N) : M_isRound h a0 (nI i) (nI j) (nI k) = some (b2i (A i j && A j k && A k i)) := by
  unfold M_isRound
  rw [bd_of (hA i j hi hj), bd_of (hA j k hj hk), bd_of (hA k i hk hi)]
  cases A i j <;> cases A j k <;> cases A k i <;> rfl
theorem m_ringsOf {h : Nat → Nat → Int32} {a0 : Int32} {A : Nat → Nat → Bool} {n : Nat} (hA : ∀ i j, i < n → j < n → M_goesAhead h a0 (nI i) (nI j) = some (b2i (A i j))) (h1 : h 1 0 = nI n) (hn : n ≤ 8) : M_ringsOf h a0 = some (nI (r1 A n)) := by
  have s3 : ∀ i j x, i < n → j < n → lp (fun q => M_ringsOf_s3 a0 (nI i) (nI j) h q.1 q.2) FU (x, nI (j + 1)) = some (x + nI (r3 A n i j)) := by
    intro i j x hi hj
    exact lp_SX (st := fun q => M_ringsOf_s3 a0 (nI i) (nI j) h q.1 q.2) (fun k => rk A i j k) (j + 1) n x (by omega) (by omega) (fun k x _ hk => by
      show M_ringsOf_s3 a0 (nI i) (nI j) h x (nI k) = _
      unfold M_ringsOf_s3
      rw [h1, if_neg (nI_ge hk (by omega)), bd_of (m_isRound hA hi hj hk), bd_of (m_isRound hA hk hj hi)]
      dsimp only [nm]
      rw [nI_1]
      unfold rk
      cases (A i j && A j k && A k i) with
      | true => rfl
      | false =>
        cases (A k j && A j i && A i k) with
        | true => rfl
        | false => rfl) (fun x => by
      show M_ringsOf_s3 a0 (nI i) (nI j) h x (nI n) = _
      unfold M_ringsOf_s3
      rw [h1, if_pos (nI_le (Nat.le_refl n) (by omega))])
  have s2 : ∀ i x, i < n → lp (fun q => M_ringsOf_s2 a0 (nI i) h q.1 q.2) FU (x, nI (i + 1)) = some (x + nI (r2 A n i)) := by
    intro i x hi
    exact lp_SX (st := fun q => M_ringsOf_s2 a0 (nI i) h q.1 q.2) (fun j => r3 A n i j) (i + 1) n x (by omega) (by omega) (fun j x _ hj => by
      show M_ringsOf_s2 a0 (nI i) h x (nI j) = _
      unfold M_ringsOf_s2
      rw [h1, if_neg (nI_ge hj (by omega))]
      dsimp only [nm]
      rw [nI_1, bd_of (s3 i j x hi hj)]) (fun x => by
      show M_ringsOf_s2 a0 (nI i) h x (nI n) = _
      unfold M_ringsOf_s2
      rw [h1, if_pos (nI_le (Nat.le_refl n) (by omega))])
  unfold M_ringsOf
  rw [bd_of (lp_S0 (st := fun q => M_ringsOf_s1 a0 h q.1 q.2) (fun i => r2 A n i) n (by omega) (fun i x hi => by
    show M_ringsOf_s1 a0 h x (nI i) = _
    unfold M_ringsOf_s1
    rw [h1, if_neg (nI_ge hi (by omega))]
    dsimp only [nm]
    rw [nI_1, bd_of (s2 i x hi)]) (fun x => by
    show M_ringsOf_s1 a0 h x (nI n) = _
    unfold M_ringsOf_s1
    rw [h1, if_pos (nI_le (Nat.le_refl n) (by omega))]))]
  rfl
/-! preferences -/
def pfB (m : Nat) (cp : Nat → Nat → Nat) (l i j : Nat) : Bool := decide (wiL m cp l j i < wiL m cp l i j)
theorem i_le0 {a b : Nat} (ha : a < 1000) (hb : b < 1000) : (nI a - nI b ≤ 0) ↔ a ≤ b := by
  rw [fa_le, pk_sub_toInt (by omega) (by omega)]
  show (a : Int) - b ≤ 0 ↔ _
  omega
theorem i_eq0 {a b : Nat} (ha : a < 1000) (hb : b < 1000) : (nI a - nI b = 0) ↔ a = b := by
  rw [fa_eq, pk_sub_toInt (by omega) (by omega)]
  show (a : Int) - b = 0 ↔ _
  omega
theorem m_prefersB {h : Nat → Nat → Int32} {m : Nat} {cp : Nat → Nat → Nat} {l i j : Nat} (H : isM h m cp) (B : cB m cp) (hl : l < 8) (hi : i < 8) (hj : j < 8) : M_prefers h (nI l) (nI i) (nI j) = some (b2i (pfB m cp l i j)) := by
  rw [m_prefers H B hl hi hj]
  unfold b2i pfB
  simp only [decide_eq_true_eq]
theorem m_goesL {h : Nat → Nat → Int32} {m : Nat} {cp : Nat → Nat → Nat} {l i j : Nat} (H : isM h m cp) (B : cB m cp) (hl : l < 8) (hi : i < 8) (hj : j < 8) : M_goesAhead h (nI l) (nI i) (nI j) = some (b2i (pfB m cp l i j)) := by
  unfold M_goesAhead
  rw [if_neg (nI_nn (by omega)), bd_of (m_prefersB H B hl hi hj)]
  cases pfB m cp l i j <;> rfl
theorem k_cellI_12 {G : Nat → Nat → Int32} {i j : Nat} (hi : i < 8) (hj : j < 8) : C_LE_isAhead_12 G (nI i) (nI j) = some (if G 18 (8 * i + j) ≤ 0 then 0 else 1) ∧ C_LE_lead_12 G (nI i) (nI j) = some (G 18 (8 * i + j)) := by
  unfold C_LE_isAhead_12 C_LE_lead_12
  dsimp only [nm]
  rw [c8_cell i hi j hj, ri_k (show 8 * i + j < 64 by omega) (by decide), ri_k (show 8 * i + j < 64 by omega) (by decide), nI_clamp (show 8 * i + j < 2 ^ 31 by omega)]
  refine ⟨?_, rfl⟩
  by_cases q : G 18 (8 * i + j) ≤ 0
  · rw [if_pos q, if_pos q]
  · rw [if_neg q, if_neg q]
theorem k_cellI_22 {G : Nat → Nat → Int32} {i j : Nat} (hi : i < 8) (hj : j < 8) : C_LE_isAhead_22 G (nI i) (nI j) = some (if G 20 (8 * i + j) ≤ 0 then 0 else 1) ∧ C_LE_lead_22 G (nI i) (nI j) = some (G 20 (8 * i + j)) := by
  unfold C_LE_isAhead_22 C_LE_lead_22
  dsimp only [nm]
  rw [c8_cell i hi j hj, ri_k (show 8 * i + j < 64 by omega) (by decide), ri_k (show 8 * i + j < 64 by omega) (by decide), nI_clamp (show 8 * i + j < 2 ^ 31 by omega)]
  refine ⟨?_, rfl⟩
  by_cases q : G 20 (8 * i + j) ≤ 0
  · rw [if_pos q, if_pos q]
  · rw [if_neg q, if_neg q]
theorem k_lead_14 {G : Nat → Nat → Int32} {i j : Nat} (hi : i < 8) (hj : j < 8) : C_LE_lead_14 G (nI i) (nI j) = some (G 19 (8 * i + j)) := by
  unfold C_LE_lead_14
  dsimp only [nm]
  rw [c8_cell i hi j hj, ri_k (show 8 * i + j < 64 by omega) (by decide), nI_clamp (show 8 * i + j < 2 ^ 31 by omega)]
/-- the class's leads hold a listener's preferences -/
def isL (g : Nat → Nat → Int32) (r m : Nat) (cp : Nat → Nat → Nat) (l : Nat) : Prop := ∀ i j, i < 8 → j < 8 → g r (8 * i + j) = nI (wiL m cp l i j) - nI (wiL m cp l j i)
theorem k_aheadL {m : Nat} {cp : Nat → Nat → Nat} (B : cB m cp) {G : Nat → Nat → Int32} {l : Nat} (h : isL G 18 m cp l) {i j : Nat} (hi : i < 8) (hj : j < 8) : C_LE_isAhead_12 G (nI i) (nI j) = some (b2i (pfB m cp l i j)) := by
  have hm := B.1
  have h1 := wiL_le m cp l i j
  have h2 := wiL_le m cp l j i
  rw [(k_cellI_12 hi hj).1, h i j hi hj]
  unfold b2i pfB
  simp only [decide_eq_true_eq]
  by_cases q : wiL m cp l j i < wiL m cp l i j
  · rw [if_neg (fun e => by have := (i_le0 (by omega) (by omega)).mp e; omega), if_pos q]
  · rw [if_pos ((i_le0 (by omega) (by omega)).mpr (by omega)), if_neg q]
theorem k_ringsOf {m : Nat} {cp : Nat → Nat → Nat} (B : cB m cp) {G : Nat → Nat → Int32} (H : isC G 5 4 m cp) {n : Nat} (h0 : G 0 0 = nI n) (hn : n ≤ 8) {l : Nat} (hl : l < 8) : ∃ G2, C_LT_ringsOf G (nI l) = some (nI (r1 (pfB m cp l) n), G2) ∧ eqx [18] G G2 := by
  obtain ⟨G2, h1, h2, h3⟩ := k_takeL_12 B H hl
  refine ⟨G2, ?_, h2⟩
  unfold C_LT_ringsOf
  rw [bd_of h1, h2 0 (by decide), h0, bd_of (k_rings_12 (fun i j hi hj => k_aheadL B h3 hi hj) hn)]
theorem m_ringsL {m : Nat} {cp : Nat → Nat → Nat} (B : cB m cp) {h : Nat → Nat → Int32} (H : isM h m cp) {n : Nat} (h1 : h 1 0 = nI n) (hn : n ≤ 8) {l : Nat} (hl : l < 8) : M_ringsOf h (nI l) = some (nI (r1 (pfB m cp l) n)) :=
  m_ringsOf (fun i j hi hj => m_goesL H B hl (by omega) (by omega)) h1 hn
/-! how many listeners prefer -/
def pfN (m : Nat) (cp : Nat → Nat → Nat) (L i j : Nat) : Nat := fb_sm (fun l => if pfB m cp l i j = true then 1 else 0) L
theorem m_preferring {m : Nat} {cp : Nat → Nat → Nat} (B : cB m cp) {h : Nat → Nat → Int32} (H : isM h m cp) {L : Nat} (h2 : h 2 0 = nI L) (hL : L ≤ 8) {i j : Nat} (hi : i < 8) (hj : j < 8) : M_preferring h (nI i) (nI j) = some (nI (pfN m cp L i j)) := by
  unfold M_preferring
  rw [bd_of (lp_S0 (st := fun q => M_preferring_s1 (nI i) (nI j) h q.1 q.2) (fun l => if pfB m cp l i j = true then 1 else 0) L (by omega) (fun l x hl => by
    show M_preferring_s1 (nI i) (nI j) h x (nI l) = _
    unfold M_preferring_s1
    rw [h2, if_neg (nI_ge hl (by omega)), bd_of (m_prefersB H B (by omega) hi hj)]
    dsimp only [nm]
    rw [nI_1]
    cases pfB m cp l i j <;> rfl) (fun x => by
    show M_preferring_s1 (nI i) (nI j) h x (nI L) = _
    unfold M_preferring_s1
    rw [h2, if_pos (nI_le (Nat.le_refl L) (by omega))]))]
  rfl
theorem k_preferring {m : Nat} {cp : Nat → Nat → Nat} (B : cB m cp) {G : Nat → Nat → Int32} (H : isC G 5 4 m cp) {L : Nat} (h1 : G 1 0 = nI L) (hL : L ≤ 8) {i j : Nat} (hi : i < 8) (hj : j < 8) : ∃ G2, C_LT_preferring G (nI i) (nI j) = some (nI (pfN m cp L i j), G2) ∧ eqx [18] G G2 := by
  obtain ⟨r, e1, e2, e3⟩ := lp_iv (st := fun q => C_LT_preferring_s1 (nI i) (nI j) q.1 q.2.1 q.2.2) (fun l q => q.1 = nI (pfN m cp l i j) ∧ q.2.1 = nI l ∧ eqx [18] G q.2.2) (fun r => r.1 = nI (pfN m cp L i j) ∧ eqx [18] G r.2) 0 L (by omega) (by omega) (fun l q _ hl ⟨q1, q2, q3⟩ => by
      obtain ⟨G2, t1, t2, t3⟩ := k_takeL_12 B (isC_x H q3 (by decide) (by decide)) (show l < 8 by omega)
      refine ⟨(nI (pfN m cp (l + 1) i j), nI (l + 1), G2), ?_, rfl, rfl, eqx_tr q3 t2⟩
      show C_LT_preferring_s1 (nI i) (nI j) q.1 q.2.1 q.2.2 = _
      unfold C_LT_preferring_s1
      rw [q1, q2, q3 1 (by decide), h1, if_neg (nI_ge hl (by omega)), bd_of t1, bd_of (k_aheadL B t3 hi hj)]
      dsimp only [nm]
      have hs : pfN m cp (l + 1) i j = pfN m cp l i j + if pfB m cp l i j = true then 1 else 0 := fb_sm_succ _ _
      rw [nI_1, nI_1, hs]
      cases pfB m cp l i j <;> rfl) (fun q ⟨q1, q2, q3⟩ => by
      refine ⟨(q.1, q.2.2), ?_, q1, q3⟩
      show C_LT_preferring_s1 (nI i) (nI j) q.1 q.2.1 q.2.2 = _
      unfold C_LT_preferring_s1
      rw [q2, q3 1 (by decide), h1, if_pos (nI_le (Nat.le_refl _) (by omega))]) ((0 : Int32), (0 : Int32), G) ⟨rfl, rfl, eqx_rf⟩
  refine ⟨r.2, ?_, e3⟩
  unfold C_LT_preferring
  rw [e1]
  show some (r.1, r.2) = _
  rw [e2]
