/-! CHANCES: binomial coefficients; the rows wb_ are pasted from the kit's laws -/
theorem wb_tb (n : Nat) : (lN n).toBitVec = BitVec.ofNat 64 n := rfl
theorem wb_inj {a b : Int64} (h : a.toBitVec = b.toBitVec) : a = b := Int64.toBitVec_inj.mp h
theorem wb_tn {n : Nat} (h : n < 2 ^ 64) : (lN n).toBitVec.toNat = n := by rw [wb_tb, BitVec.toNat_ofNat, Nat.mod_eq_of_lt h]
theorem wb_of (x : Int64) : ∃ n, n < 2 ^ 64 ∧ x = lN n := ⟨x.toBitVec.toNat, x.toBitVec.isLt, wb_inj (by rw [wb_tb]; simp)⟩
theorem wb_of32 (x : Int32) : ∃ n, n < 2 ^ 32 ∧ x = nI n := ⟨x.toBitVec.toNat, x.toBitVec.isLt, Int32.toBitVec_inj.mp (by show _ = BitVec.ofNat 32 _; simp)⟩
theorem wb_c : ∀ k, k < 64 → ((nI k).toInt64 &&& 63) = lN k := by decide +kernel
theorem wb_sm : ∀ k, k < 64 → (BitVec.ofNat 64 k).smod 64 = BitVec.ofNat 64 k := by decide +kernel
theorem wb_pw {a b : Nat} (h : a ≤ b) : 2 ^ b = 2 ^ a * 2 ^ (b - a) := by rw [← Nat.pow_add]; congr 1; omega
theorem wb_lt2 {a b : Nat} (h : a < b) : 2 ^ a < 2 ^ b := Nat.pow_lt_pow_right (by decide) h
theorem wb_mod (n : Nat) : lN n = lN (n % 2 ^ 64) := wb_inj (by rw [wb_tb, wb_tb]; apply BitVec.eq_of_toNat_eq; rw [BitVec.toNat_ofNat, BitVec.toNat_ofNat, Nat.mod_mod])
theorem wb_shl (n : Nat) {k : Nat} (hk : k < 64) : lN n <<< ((nI k).toInt64 &&& 63) = lN (n * 2 ^ k) := by
  rw [wb_c k hk]
  apply wb_inj
  rw [Int64.toBitVec_shiftLeft, wb_tb, wb_tb, wb_tb, wb_sm k hk]
  apply BitVec.eq_of_toNat_eq
  rw [BitVec.shiftLeft_eq', BitVec.toNat_shiftLeft, BitVec.toNat_ofNat, BitVec.toNat_ofNat, BitVec.toNat_ofNat, Nat.mod_eq_of_lt (show k < 2 ^ 64 by omega), Nat.shiftLeft_eq, Nat.mul_mod, Nat.mod_mod, ← Nat.mul_mod]
def chs : Nat → Nat → Nat
  | _, 0 => 1
  | 0, _ + 1 => 0
  | n + 1, k + 1 => chs n k + chs n (k + 1)
theorem chs_0 (n : Nat) : chs n 0 = 1 := by cases n <;> rfl
theorem chs_big : ∀ (n k : Nat), n < k → chs n k = 0
  | 0, 0, h => absurd h (Nat.lt_irrefl 0)
  | 0, k + 1, _ => rfl
  | n + 1, 0, h => absurd h (Nat.not_lt_zero _)
  | n + 1, k + 1, h => by rw [chs, chs_big n k (by omega), chs_big n (k + 1) (by omega)]
theorem chs_self : ∀ n, chs n n = 1
  | 0 => rfl
  | n + 1 => by rw [chs, chs_self n, chs_big n (n + 1) (by omega)]
theorem chs_mul : ∀ (n k : Nat), (k + 1) * chs n (k + 1) = (n - k) * chs n k
  | 0, 0 => rfl
  | 0, k + 1 => by
    rw [chs_big 0 (k + 1 + 1) (by omega), Nat.zero_sub, Nat.zero_mul, Nat.mul_zero]
  | n + 1, 0 => by
    have h := chs_mul n 0
    have e : chs (n + 1) (0 + 1) = chs n 0 + chs n (0 + 1) := rfl
    rw [chs_0] at h
    rw [e, chs_0, chs_0]
    omega
  | n + 1, k + 1 => by
    have h1 := chs_mul n k
    have h2 := chs_mul n (k + 1)
    rw [chs, Nat.mul_add, h2]
    have e : chs (n + 1) (k + 1) = chs n k + chs n (k + 1) := by rw [chs]
    rw [e, Nat.mul_add]
    have e2 : n + 1 - (k + 1) = n - k := by omega
    rw [e2, ← h1, ← Nat.add_mul, ← Nat.add_mul]
    rcases Nat.lt_or_ge n (k + 1) with q | q
    · rw [chs_big n (k + 1) q, Nat.mul_zero, Nat.mul_zero]
    · have e3 : k + 1 + 1 + (n - (k + 1)) = k + 1 + (n - k) := by omega
      rw [e3]
theorem chs_le : ∀ (n k : Nat), chs n k ≤ 2 ^ n
  | 0, 0 => Nat.le_refl 1
  | 0, k + 1 => Nat.zero_le _
  | n + 1, 0 => by rw [chs_0]; exact Nat.one_le_two_pow
  | n + 1, k + 1 => by
    have h1 := chs_le n k
    have h2 := chs_le n (k + 1)
    rw [chs, Nat.pow_succ]
    omega
theorem chs_48 {n : Nat} (h : n ≤ 48) (k : Nat) : chs n k ≤ 281474976710656 :=
  Nat.le_trans (chs_le n k) (Nat.le_trans (Nat.pow_le_pow_right (by decide) h) (Nat.le_of_ble_eq_true rfl))
theorem chs_div {n x : Nat} : chs n x * (n - x) / (x + 1) = chs n (x + 1) := by
  rw [Nat.mul_comm, ← chs_mul]
  exact Nat.mul_div_cancel_left _ (by omega)
theorem chs_down {n t : Nat} (h : t < n) : chs n (n - t) * (n - t) / (t + 1) = chs n (n - (t + 1)) := by
  have e := chs_mul n (n - (t + 1))
  have e1 : n - (t + 1) + 1 = n - t := by omega
  have e2 : n - (n - (t + 1)) = t + 1 := by omega
  rw [e1, e2] at e
  rw [Nat.mul_comm, e]
  exact Nat.mul_div_cancel_left _ (by omega)
/-- the sum of the coefficients from a on -/
def sCh (n a : Nat) : Nat := fb_sm (fun t => if t < a then 0 else chs n t) (n + 1)
theorem sm_cut (f : Nat → Nat) (b : Nat) : ∀ (N : Nat), b < N → fb_sm (fun t => if t < b then 0 else f t) N = f b + fb_sm (fun t => if t < b + 1 then 0 else f t) N
  | 0, h => absurd h (Nat.not_lt_zero b)
  | N + 1, h => by
    rw [fb_sm_succ, fb_sm_succ]
    rcases Nat.lt_or_ge b N with q | q
    · rw [sm_cut f b N q]
      have h1 : ¬ N < b := by omega
      have h2 : ¬ N < b + 1 := by omega
      simp only [if_neg h1, if_neg h2]
      omega
    · have e : b = N := by omega
      subst e
      have h1 : fb_sm (fun t => if t < b then 0 else f t) b = 0 := by
        rw [fb_sm_cong (g := fun _ => 0) (fun k hk => if_pos hk), fb_sm_const, Nat.mul_zero]
      have h2 : fb_sm (fun t => if t < b + 1 then 0 else f t) b = 0 := by
        rw [fb_sm_cong (g := fun _ => 0) (fun k hk => if_pos (by omega)), fb_sm_const, Nat.mul_zero]
      rw [h1, h2]
      simp
theorem sCh_down (n : Nat) : ∀ d, d ≤ n + 1 → fb_sm (fun u => chs n (n - u)) d = sCh n (n + 1 - d)
  | 0, _ => by
    unfold sCh
    rw [fb_sm_cong (g := fun _ => 0) (fun k hk => if_pos (by omega)), fb_sm_const, Nat.mul_zero]
    rfl
  | d + 1, h => by
    rw [fb_sm_succ, sCh_down n d (by omega)]
    have e := sm_cut (chs n) (n + 1 - (d + 1)) (n + 1) (by omega)
    have e1 : n + 1 - (d + 1) + 1 = n + 1 - d := by omega
    have e2 : n + 1 - (d + 1) = n - d := by omega
    rw [e1] at e
    unfold sCh
    rw [e, e2]
    omega
theorem sCh_le {n : Nat} (h : n ≤ 48) (a : Nat) : sCh n a ≤ (n + 1) * 2 ^ n :=
  fb_sm_bound (fun k _ => by
    show (if k < a then 0 else chs n k) ≤ _
    split
    · exact Nat.zero_le _
    · exact chs_le n k)
/-- the chance of a and b wins -/
def chv (a b : Nat) : Int64 := if a + b = 0 then 281474976710656 else if lN (2 * sCh (a + b) (if a ≤ b then b else a) * 2 ^ (48 - (a + b))) < 281474976710656 then lN (2 * sCh (a + b) (if a ≤ b then b else a) * 2 ^ (48 - (a + b))) else 281474976710656
theorem m_chv_st {n A x s : Nat} (hn : n ≤ 48) (hA : A ≤ 48) (hx : x ≤ n) : M_chanceOf_s1 (nI A) (nI n) (lN s) (lN (chs n x)) (nI x) = some (.inl (lN (s + if x < A then 0 else chs n x), lN (chs n (x + 1)), nI (x + 1))) := by
  have hb := chs_48 hn x
  have h2 : (if nI x < nI A then (some (0 : Int64)) else (some (lN (chs n x)))) = some (lN (if x < A then 0 else chs n x)) := by
    by_cases q : x < A
    · rw [if_pos (nI_lt q (by omega)), if_pos q]; rfl
    · rw [if_neg (nI_nlt (by omega) (by omega)), if_neg q]
  have h3 : chs n x * (n - x) < 2 ^ 63 := by
    have := Nat.mul_le_mul hb (show n - x ≤ 48 by omega)
    omega
  unfold M_chanceOf_s1
  rw [if_neg (nI_nlt hx (by omega)), bd_of h2]
  dsimp only [nm]
  rw [lN_add, nI_1, nI_l (show x + 1 < 2 ^ 31 by omega), gd_of (show ¬ lN (x + 1) = 0 from fun e => by
    have e2 := (lN_eq (a := x + 1) (b := 0) (by omega) (by omega)).mp e
    omega), pk_sub hx, nI_l (show n - x < 2 ^ 31 by omega), lN_mul, pk_lDiv h3 (by omega) (by omega), chs_div]
theorem m_chv {a b : Nat} (h : a + b ≤ 48) : M_chanceOf (nI a) (nI b) = some (chv a b) := by
  have hx2 : (if nI a ≤ nI b then (some (nI b)) else (some (nI a))) = some (nI (if a ≤ b then b else a)) := by
    by_cases q : a ≤ b
    · rw [if_pos (nI_le q (by omega)), if_pos q]
    · rw [if_neg (nI_ge (by omega) (by omega)), if_neg q]
  obtain ⟨A, hA⟩ : ∃ A, A = if a ≤ b then b else a := ⟨_, rfl⟩
  obtain ⟨n, hn⟩ : ∃ n, n = a + b := ⟨_, rfl⟩
  have hA48 : A ≤ 48 := by rw [hA]; split <;> omega
  unfold M_chanceOf
  rw [bd_of hx2]
  dsimp only [nm]
  unfold chv
  rw [nI_add, ← hA, ← hn]
  by_cases h0 : n = 0
  · rw [h0, if_pos rfl]
    rfl
  · rw [if_neg (nI_ne0 (by omega) (by omega)), if_neg h0]
    have hl := lp_up (st := fun q => M_chanceOf_s1 (nI A) (nI n) q.1 q.2.1 q.2.2) (r := lN (sCh n A)) (fun x => (lN (fb_sm (fun t => if t < A then 0 else chs n t) x), lN (chs n x), nI x)) 0 (n + 1) (by omega) (by omega) (fun x _ hx => by
      show M_chanceOf_s1 (nI A) (nI n) (lN _) (lN (chs n x)) (nI x) = _
      rw [m_chv_st (by omega) hA48 (by omega), fb_sm_succ]) (by
      show M_chanceOf_s1 (nI A) (nI n) _ _ (nI (n + 1)) = _
      unfold M_chanceOf_s1
      rw [if_pos (nI_lt (by omega) (by omega))]
      rfl)
    have hl2 : lp (fun q => M_chanceOf_s1 (nI A) (nI n) q.1 q.2.1 q.2.2) FU ((0 : Int64), (1 : Int64), (0 : Int32)) = some (lN (sCh n A)) := by
      rw [← hl]
      show _ = lp _ FU (lN 0, lN (chs n 0), nI 0)
      rw [chs_0]
      rfl
    rw [bd_of hl2, show (48 : Int32) = nI 48 from rfl, pk_sub (by omega), show (2 : Int64) = lN 2 from rfl, lN_mul, wb_shl _ (show 48 - n < 64 by omega)]
    by_cases q : lN (2 * sCh n A * 2 ^ (48 - n)) < 281474976710656
    · rw [if_pos q, if_pos ((lg_cmp_le _ _).mpr (Int64.le_of_lt q))]
    · rw [if_neg q]
      by_cases q2 : lg_cmp (lN (2 * sCh n A * 2 ^ (48 - n))) 281474976710656 ≤ 0
      · rw [if_pos q2]
        have q3 := (lg_cmp_le _ _).mp q2
        have q4 : lN (2 * sCh n A * 2 ^ (48 - n)) = 281474976710656 := Int64.le_antisymm q3 (Int64.not_lt.mp q)
        rw [q4]
      · rw [if_neg q2]
theorem chs_sym {n : Nat} : ∀ k, k ≤ n → chs n (n - k) = chs n k
  | 0, _ => by rw [Nat.sub_zero, chs_self, chs_0]
  | k + 1, h => by rw [← chs_down (show k < n by omega), chs_sym k (by omega), chs_div]
theorem k_chv_st {n B x s : Nat} (hn : n ≤ 48) (hB : B ≤ n) (hx : x ≤ B) : C_LT_coinChance_s1 (nI n) (nI B) (lN (chs n x)) (lN s) (nI x) = some (.inl (lN (chs n (x + 1)), lN (s + chs n x), nI (x + 1))) := by
  have hb := chs_48 hn x
  have h3 : chs n x * (n - x) < 2 ^ 63 := by
    have := Nat.mul_le_mul hb (show n - x ≤ 48 by omega)
    omega
  unfold C_LT_coinChance_s1
  rw [if_neg (nI_nlt hx (by omega))]
  dsimp only [nm]
  rw [lN_add, nI_1, nI_l (show x + 1 < 2 ^ 31 by omega), gd_of (show ¬ lN (x + 1) = 0 from fun e => by
    have e2 := (lN_eq (a := x + 1) (b := 0) (by omega) (by omega)).mp e
    omega), pk_sub (show x ≤ n by omega), nI_l (show n - x < 2 ^ 31 by omega), lN_mul, pk_lDiv h3 (by omega) (by omega), chs_div]
theorem k_chv {a b : Nat} (h : a + b ≤ 48) : C_LT_coinChance (nI a) (nI b) = some (chv a b) := by
  obtain ⟨A, hA⟩ : ∃ A, A = if a ≤ b then b else a := ⟨_, rfl⟩
  obtain ⟨B, hB⟩ : ∃ B, B = if a ≤ b then a else b := ⟨_, rfl⟩
  obtain ⟨n, hn⟩ : ∃ n, n = a + b := ⟨_, rfl⟩
  have hx2 : (if nI b < nI a then nI b else nI a) = nI B := by
    rw [hB]
    by_cases q : b < a
    · rw [if_pos (nI_lt q (by omega)), if_neg (show ¬ a ≤ b by omega)]
    · rw [if_neg (nI_nlt (by omega) (by omega)), if_pos (show a ≤ b by omega)]
  have hAB : A + B = n := by
    rw [hA, hB, hn]
    by_cases q : a ≤ b
    · rw [if_pos q, if_pos q]; omega
    · rw [if_neg q, if_neg q]
  have e0 : fb_sm (chs n) (B + 1) = sCh n A := by
    rw [fb_sm_cong (f := chs n) (g := fun u => chs n (n - u)) (fun k hk => (chs_sym k (by omega)).symm), sCh_down n _ (by omega)]
    have e : n + 1 - (B + 1) = A := by omega
    rw [e]
  unfold C_LT_coinChance
  dsimp only [nm]
  unfold chv
  rw [hx2, nI_add, ← hA, ← hn]
  by_cases h0 : n = 0
  · rw [h0, if_pos rfl]
    rfl
  · rw [if_neg (nI_ne0 (by omega) (by omega)), if_neg h0]
    have hl := lp_up (st := fun q => C_LT_coinChance_s1 (nI n) (nI B) q.1 q.2.1 q.2.2) (r := lN (sCh n A)) (fun x => (lN (chs n x), lN (fb_sm (chs n) x), nI x)) 0 (B + 1) (by omega) (by omega) (fun x _ hx => by
      show C_LT_coinChance_s1 (nI n) (nI B) (lN (chs n x)) (lN _) (nI x) = _
      rw [k_chv_st (by omega) (by omega) (by omega), fb_sm_succ]) (by
      show C_LT_coinChance_s1 (nI n) (nI B) _ (lN _) (nI (B + 1)) = _
      unfold C_LT_coinChance_s1
      rw [if_pos (nI_lt (by omega) (by omega)), e0])
    have hl2 : lp (fun q => C_LT_coinChance_s1 (nI n) (nI B) q.1 q.2.1 q.2.2) FU ((1 : Int64), (0 : Int64), (0 : Int32)) = some (lN (sCh n A)) := by
      rw [← hl]
      show _ = lp _ FU (lN (chs n 0), lN 0, nI 0)
      rw [chs_0]
      rfl
    rw [bd_of hl2, show (48 : Int32) = nI 48 from rfl, pk_sub (by omega), show (2 : Int64) = lN 2 from rfl, lN_mul, wb_shl _ (show 48 - n < 64 by omega)]
