/-! SETS OF SAMPLES as numbers below 256 -/
theorem s_has : ∀ s, s < 256 → ∀ i, i < 8 → ((nI s >>> (nI i &&& 31)) &&& (1 : Int32)) = nI (if s.testBit i = true then 1 else 0) := by decide +kernel
theorem s_con : ∀ s, s < 256 → ∀ i, i < 8 → C_LT_contains (nI s) (nI i) = some (b2i (s.testBit i)) := by decide +kernel
theorem s_shl : ∀ i, i < 31 → (1 : Int32) <<< (nI i &&& 31) = nI (2 ^ i) := by decide +kernel
def dif (a b : Nat) : Nat := a &&& (b ^^^ 4294967295)
theorem s_dif (a b : Nat) : nI a &&& (nI b ^^^ (-1 : Int32)) = nI (dif a b) := by
  rw [show (-1 : Int32) = nI 4294967295 by decide, fb_xorI, fa_and]
  rfl
theorem dif_bit (a b : Nat) {i : Nat} (hi : i < 32) : (dif a b).testBit i = (a.testBit i && !b.testBit i) := by
  unfold dif
  rw [Nat.testBit_and, Nat.testBit_xor, show 4294967295 = 2 ^ 32 - 1 from rfl, Nat.testBit_two_pow_sub_one, decide_eq_true hi, Bool.xor_true]
theorem dif_le (a b : Nat) : dif a b ≤ a := Nat.and_le_left
theorem nz {x : Nat} (h : x < 2 ^ 31) : (nI x = 0) ↔ x = 0 := by
  constructor
  · intro e
    exact (nI_eq h (by decide)).mp e
  · intro e
    rw [e]
    rfl
def sz (s : Nat) : Nat := fb_sm (fun k => if s.testBit k = true then 1 else 0) 8
theorem s_cnt : ∀ s, s < 256 → C_JI_bitCount_ (nI s) = nI (sz s) := by decide +kernel
theorem s_size {s : Nat} (hs : s < 256) : M_size (nI s) = some (nI (sz s)) := by
  unfold M_size
  rw [bd_of (lp_S0 (st := fun q => M_size_s1 (nI s) q.1 q.2) (fun k => if s.testBit k = true then 1 else 0) 8 (by omega) (fun k x hk => by
    show M_size_s1 (nI s) x (nI k) = _
    unfold M_size_s1
    rw [if_neg (show ¬ (8 : Int32) ≤ nI k from nI_ge hk (by decide)), s_has s hs k hk]
    dsimp only [nm]
    rw [nI_1]) (fun x => by
    show M_size_s1 (nI s) x (nI 8) = _
    unfold M_size_s1
    rw [if_pos (show (8 : Int32) ≤ nI 8 from nI_le (Nat.le_refl _) (by decide))]))]
  rfl
theorem tb_out {n s i : Nat} (hs : s < 2 ^ n) (hi : n ≤ i) : s.testBit i = false :=
  Nat.testBit_lt_two_pow (Nat.lt_of_lt_of_le hs (Nat.pow_le_pow_right (by decide) hi))
theorem s_ext {n s t : Nat} (hs : s < 2 ^ n) (ht : t < 2 ^ n) (h : ∀ i, i < n → s.testBit i = t.testBit i) : s = t := by
  apply Nat.eq_of_testBit_eq
  intro i
  rcases Nat.lt_or_ge i n with q | q
  · exact h i q
  · rw [tb_out hs q, tb_out ht q]
theorem p256 {n : Nat} (hn : n ≤ 8) : 2 ^ n ≤ 256 := Nat.le_trans (Nat.pow_le_pow_right (by decide) hn) (show 2 ^ 8 ≤ 256 by decide)
theorem sm_lt {f g : Nat → Nat} : ∀ {n i : Nat}, (∀ k, k < n → f k ≤ g k) → i < n → f i < g i → fb_sm f n < fb_sm g n
  | 0, _, _, h, _ => absurd h (Nat.not_lt_zero _)
  | n + 1, i, hle, hi, hlt => by
    rw [fb_sm_succ, fb_sm_succ]
    have h1 := hle n (by omega)
    rcases Nat.lt_or_ge i n with q | q
    · have h2 := sm_lt (fun k hk => hle k (by omega)) q hlt
      omega
    · have e : i = n := by omega
      subst e
      have h2 := fb_sm_le (f := f) (g := g) (n := i) (fun k hk => hle k (by omega))
      omega
def sbs (s t : Nat) : Prop := ∀ i, i < 8 → s.testBit i = true → t.testBit i = true
theorem sz_le {s t : Nat} (h : sbs s t) : sz s ≤ sz t := fb_sm_le (fun k hk => by
  show (if s.testBit k = true then 1 else 0) ≤ (if t.testBit k = true then 1 else 0)
  by_cases q : s.testBit k = true
  · rw [if_pos q, if_pos (h k hk q)]; exact Nat.le_refl _
  · rw [if_neg q]; exact Nat.zero_le _)
theorem sz_lt {s t i : Nat} (h : sbs s t) (hi : i < 8) (h1 : s.testBit i = false) (h2 : t.testBit i = true) : sz s < sz t := sm_lt (i := i) (fun k hk => by
  show (if s.testBit k = true then 1 else 0) ≤ (if t.testBit k = true then 1 else 0)
  by_cases q : s.testBit k = true
  · rw [if_pos q, if_pos (h k hk q)]; exact Nat.le_refl _
  · rw [if_neg q]; exact Nat.zero_le _) hi (by
  show (if s.testBit i = true then 1 else 0) < (if t.testBit i = true then 1 else 0)
  rw [if_pos h2, if_neg (by rw [h1]; decide)]
  exact Nat.zero_lt_one)
theorem sz_eq {s t : Nat} (h : sbs s t) (e : sz s = sz t) : ∀ i, i < 8 → s.testBit i = t.testBit i := by
  intro i hi
  cases hs : s.testBit i with
  | true => rw [h i hi hs]
  | false =>
    cases ht : t.testBit i with
    | false => rfl
    | true =>
      have := sz_lt h hi hs ht
      omega
theorem sz_n {n s : Nat} (hn : n ≤ 8) (hs : s < 2 ^ n) : sz s ≤ n := by
  have e : (8 : Nat) = n + (8 - n) := by omega
  unfold sz
  rw [e, fb_sm_split]
  have h1 := fb_sm_bound (f := fun k => if s.testBit k = true then 1 else 0) (c := 1) (n := n) (fun k _ => by
    show (if s.testBit k = true then 1 else 0) ≤ 1
    split <;> omega)
  have h2 : fb_sm (fun k => if s.testBit (n + k) = true then 1 else 0) (8 - n) = 0 := by
    rw [fb_sm_cong (g := fun _ => 0) (fun k _ => if_neg (by rw [tb_out hs (by omega)]; decide)), fb_sm_const, Nat.mul_zero]
  omega
theorem sz_pos {s i : Nat} (hi : i < 8) (h : s.testBit i = true) : 1 ≤ sz s := by
  have e : sz 0 < sz s := sz_lt (fun k _ hk => by rw [Nat.zero_testBit] at hk; cases hk) hi (Nat.zero_testBit i) h
  omega
theorem nz_has {n s : Nat} (hs : s < 2 ^ n) (h : s ≠ 0) : ∃ i, i < n ∧ s.testBit i = true := by
  obtain ⟨i, hi⟩ := Nat.exists_testBit_of_ne_zero h
  refine ⟨i, ?_, hi⟩
  rcases Nat.lt_or_ge i n with q | q
  · exact q
  · rw [tb_out hs q] at hi
    cases hi
theorem has_nz {s i : Nat} (h : s.testBit i = true) : s ≠ 0 := by
  intro e
  rw [e, Nat.zero_testBit] at h
  cases h
theorem or_bit (s j i : Nat) : (s ||| 2 ^ j).testBit i = (s.testBit i || decide (i = j)) := fb_bit_set s j i
theorem or_lt {n s j : Nat} (hs : s < 2 ^ n) (hj : j < n) : s ||| 2 ^ j < 2 ^ n := Nat.or_lt_two_pow hs (Nat.pow_lt_pow_right (by decide) hj)
theorem pw_bit (j i : Nat) : (2 ^ j).testBit i = decide (j = i) := Nat.testBit_two_pow
theorem all_bit (n i : Nat) : (2 ^ n - 1).testBit i = decide (i < n) := Nat.testBit_two_pow_sub_one n i
theorem s_all {n : Nat} (hn : n < 31) : ((1 : Int32) <<< (nI n &&& 31)) - (1 : Int32) = nI (2 ^ n - 1) := by
  rw [s_shl n hn, show (1 : Int32) = nI 1 from rfl, pk_sub (Nat.one_le_two_pow)]
theorem dif_lt {n a b : Nat} (h : a < 2 ^ n) : dif a b < 2 ^ n := Nat.lt_of_le_of_lt (dif_le a b) h
theorem b2i_ne (b : Bool) : (¬ b2i b = 0) ↔ b = true := by cases b <;> decide
