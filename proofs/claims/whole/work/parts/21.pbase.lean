/-! PURE LEVEL: loops by what they go through; memory; numbers -/
theorem lp_tr {σ ρ : Type} {st : σ → Option (σ ⊕ ρ)} {r : ρ} (en : Nat → σ) (n : Nat) (he : st (en n) = some (.inr r)) : ∀ (d k N : Nat), k + d = n → d < N → (∀ i, k ≤ i → i < n → st (en i) = some (.inl (en (i + 1)))) → lp st N (en k) = some r
  | _, _, 0, _, h, _ => absurd h (Nat.not_lt_zero _)
  | 0, k, N + 1, hk, _, _ => by
    have e : k = n := by omega
    rw [lp, e, he]
  | d + 1, k, N + 1, hk, h, hs => by
    rw [lp, hs k (Nat.le_refl k) (by omega)]
    exact lp_tr en n he d (k + 1) N (by omega) (by omega) (fun i h1 h2 => hs i (by omega) h2)
theorem lp_up {σ ρ : Type} {st : σ → Option (σ ⊕ ρ)} {r : ρ} (en : Nat → σ) (a n : Nat) (h : a ≤ n) (hn : n < 100000) (hs : ∀ i, a ≤ i → i < n → st (en i) = some (.inl (en (i + 1)))) (he : st (en n) = some (.inr r)) : lp st FU (en a) = some r :=
  lp_tr en n he (n - a) a FU (by omega) (by unfold FU; omega) hs
/-- with an invariant -/
theorem lp_ivN {σ ρ : Type} {st : σ → Option (σ ⊕ ρ)} (I : Nat → σ → Prop) (Q : ρ → Prop) (n : Nat) (he : ∀ q, I n q → ∃ r, st q = some (.inr r) ∧ Q r) : ∀ (d k N : Nat) (q : σ), k + d = n → d < N → (∀ i q, k ≤ i → i < n → I i q → ∃ q', st q = some (.inl q') ∧ I (i + 1) q') → I k q → ∃ r, lp st N q = some r ∧ Q r
  | _, _, 0, _, _, h, _, _ => absurd h (Nat.not_lt_zero _)
  | 0, k, N + 1, q, hk, _, _, hI => by
    have e : k = n := by omega
    rw [e] at hI
    obtain ⟨r, h1, h2⟩ := he q hI
    exact ⟨r, by rw [lp, h1], h2⟩
  | d + 1, k, N + 1, q, hk, h, hs, hI => by
    obtain ⟨q', h1, h2⟩ := hs k q (Nat.le_refl k) (by omega) hI
    obtain ⟨r, h3, h4⟩ := lp_ivN I Q n he d (k + 1) N q' (by omega) (by omega) (fun i q h1 h2 => hs i q (by omega) h2) h2
    exact ⟨r, by rw [lp, h1]; exact h3, h4⟩
theorem lp_iv {σ ρ : Type} {st : σ → Option (σ ⊕ ρ)} (I : Nat → σ → Prop) (Q : ρ → Prop) (a n : Nat) (h : a ≤ n) (hn : n < 100000) (hs : ∀ i q, a ≤ i → i < n → I i q → ∃ q', st q = some (.inl q') ∧ I (i + 1) q') (he : ∀ q, I n q → ∃ r, st q = some (.inr r) ∧ Q r) (q0 : σ) (h0 : I a q0) : ∃ r, lp st FU q0 = some r ∧ Q r :=
  lp_ivN I Q n he (n - a) a FU q0 (by omega) (by unfold FU; omega) hs h0
/-- as lp_iv, but a step may end the loop -/
theorem lp_exN {σ ρ : Type} {st : σ → Option (σ ⊕ ρ)} (I : Nat → σ → Prop) (Q : ρ → Prop) (n : Nat) (he : ∀ q, I n q → ∃ r, st q = some (.inr r) ∧ Q r) : ∀ (d k N : Nat) (q : σ), k + d = n → d < N → (∀ i q, k ≤ i → i < n → I i q → (∃ q', st q = some (.inl q') ∧ I (i + 1) q') ∨ (∃ r, st q = some (.inr r) ∧ Q r)) → I k q → ∃ r, lp st N q = some r ∧ Q r
  | _, _, 0, _, _, h, _, _ => absurd h (Nat.not_lt_zero _)
  | 0, k, N + 1, q, hk, _, _, hI => by
    have e : k = n := by omega
    rw [e] at hI
    obtain ⟨r, h1, h2⟩ := he q hI
    exact ⟨r, by rw [lp, h1], h2⟩
  | d + 1, k, N + 1, q, hk, h, hs, hI => by
    rcases hs k q (Nat.le_refl k) (by omega) hI with ⟨q', h1, h2⟩ | ⟨r, h1, h2⟩
    · obtain ⟨r, h3, h4⟩ := lp_exN I Q n he d (k + 1) N q' (by omega) (by omega) (fun i q h1 h2 => hs i q (by omega) h2) h2
      exact ⟨r, by rw [lp, h1]; exact h3, h4⟩
    · exact ⟨r, by rw [lp, h1], h2⟩
theorem lp_ex {σ ρ : Type} {st : σ → Option (σ ⊕ ρ)} (I : Nat → σ → Prop) (Q : ρ → Prop) (a n : Nat) (h : a ≤ n) (hn : n < 100000) (hs : ∀ i q, a ≤ i → i < n → I i q → (∃ q', st q = some (.inl q') ∧ I (i + 1) q') ∨ (∃ r, st q = some (.inr r) ∧ Q r)) (he : ∀ q, I n q → ∃ r, st q = some (.inr r) ∧ Q r) (q0 : σ) (h0 : I a q0) : ∃ r, lp st FU q0 = some r ∧ Q r :=
  lp_exN I Q n he (n - a) a FU q0 (by omega) (by unfold FU; omega) hs h0
/-- d rounds of g from a on -/
def itr {α : Type} (g : Nat → α → α) (a : Nat) : Nat → α → α
  | 0, x => x
  | d + 1, x => g (a + d) (itr g a d x)
theorem itr_up {α : Type} (g : Nat → α → α) (a : Nat) {i : Nat} (h : a ≤ i) (x : α) : itr g a (i + 1 - a) x = g i (itr g a (i - a) x) := by
  have e : i + 1 - a = (i - a) + 1 := by omega
  have e2 : a + (i - a) = i := by omega
  rw [e, itr, e2]
theorem itr_0 {α : Type} (g : Nat → α → α) (a : Nat) (x : α) : itr g a (a - a) x = x := by rw [Nat.sub_self]; rfl
theorem itr_cong {α : Type} {g f : Nat → α → α} {a : Nat} : ∀ {d : Nat} {x : α}, (∀ i y, a ≤ i → i < a + d → g i y = f i y) → itr g a d x = itr f a d x
  | 0, _, _ => rfl
  | d + 1, x, h => by rw [itr, itr, itr_cong (d := d) (fun i y h1 h2 => h i y h1 (by omega)), h (a + d) _ (by omega) (by omega)]
theorem itr_sm (f : Nat → Nat) (a : Nat) : ∀ (d v : Nat), itr (fun i (x : Int32) => x + nI (f i)) a d (nI v) = nI (v + fb_sm (fun t => f (a + t)) d)
  | 0, v => rfl
  | d + 1, v => by rw [itr, itr_sm f a d v, nI_add, fb_sm_succ, Nat.add_assoc]
/-- a number that grows, and a counter -/
theorem lp_A {α ρ : Type} {st : α × Int32 → Option ((α × Int32) ⊕ ρ)} (g : Nat → α → α) (fin : α → ρ) (a n : Nat) (x0 : α) (h : a ≤ n) (hn : n < 100000) (hs : ∀ i x, a ≤ i → i < n → st (x, nI i) = some (.inl (g i x, nI (i + 1)))) (he : ∀ x, st (x, nI n) = some (.inr (fin x))) : lp st FU (x0, nI a) = some (fin (itr g a (n - a) x0)) := by
  have e := lp_up (st := st) (r := fin (itr g a (n - a) x0)) (fun i => (itr g a (i - a) x0, nI i)) a n h hn (fun i h1 h2 => by rw [hs i _ h1 h2, itr_up g a h1]) (he _)
  rw [itr_0] at e
  exact e
theorem lp_B {α ρ : Type} {st : Int32 × α → Option ((Int32 × α) ⊕ ρ)} (g : Nat → α → α) (fin : α → ρ) (a n : Nat) (x0 : α) (h : a ≤ n) (hn : n < 100000) (hs : ∀ i x, a ≤ i → i < n → st (nI i, x) = some (.inl (nI (i + 1), g i x))) (he : ∀ x, st (nI n, x) = some (.inr (fin x))) : lp st FU (nI a, x0) = some (fin (itr g a (n - a) x0)) := by
  have e := lp_up (st := st) (r := fin (itr g a (n - a) x0)) (fun i => (nI i, itr g a (i - a) x0)) a n h hn (fun i h1 h2 => by rw [hs i _ h1 h2, itr_up g a h1]) (he _)
  rw [itr_0] at e
  exact e
/-- a count -/
theorem lp_S {st : Int32 × Int32 → Option ((Int32 × Int32) ⊕ Int32)} (f : Nat → Nat) (a n v : Nat) (h : a ≤ n) (hn : n < 100000) (hs : ∀ i x, a ≤ i → i < n → st (x, nI i) = some (.inl (x + nI (f i), nI (i + 1)))) (he : ∀ x, st (x, nI n) = some (.inr x)) : lp st FU (nI v, nI a) = some (nI (v + fb_sm (fun t => f (a + t)) (n - a))) := by
  rw [lp_A (fun i (x : Int32) => x + nI (f i)) (fun x => x) a n (nI v) h hn hs he, itr_sm]
theorem lp_S0 {st : Int32 × Int32 → Option ((Int32 × Int32) ⊕ Int32)} (f : Nat → Nat) (n : Nat) (hn : n < 100000) (hs : ∀ i x, i < n → st (x, nI i) = some (.inl (x + nI (f i), nI (i + 1)))) (he : ∀ x, st (x, nI n) = some (.inr x)) : lp st FU ((0 : Int32), (0 : Int32)) = some (nI (fb_sm f n)) := by
  have e := lp_S f 0 n 0 (Nat.zero_le n) hn (fun i x _ h => hs i x h) he
  simp only [Nat.zero_add, Nat.sub_zero] at e
  exact e
/-! memory -/
theorem wf_ap {α : Type} (G : Nat → Nat → α) (k : Nat) (x : α) (j i : Nat) : wf G k x j i = if j = k then x else G j i := by
  unfold wf va_up
  by_cases h : j = k
  · rw [if_pos h, if_pos h]
  · rw [if_neg h, if_neg h]
theorem wr_ap {α : Type} (G : Nat → Nat → α) (k : Nat) (x : Int32) (v : α) (j i : Nat) : wr G k x v j i = if j = k then (if i = x.toNatClampNeg then v else G k i) else G j i := by
  unfold wr va_up
  by_cases h : j = k
  · rw [if_pos h, if_pos h]
  · rw [if_neg h, if_neg h]
theorem up_ap {α : Type} (G : Nat → α) (k : Nat) (v : α) (j : Nat) : va_up G k v j = if j = k then v else G j := rfl
theorem wr_nI {α : Type} (G : Nat → Nat → α) (k : Nat) {i : Nat} (h : i < 2 ^ 31) (v : α) : wr G k (nI i) v = va_up G k (va_up (G k) i v) := by unfold wr; rw [nI_clamp h]
theorem wf_ne {α : Type} {G : Nat → Nat → α} {k j : Nat} {x : α} (h : j ≠ k) : wf G k x j = G j := va_up_ne G _ h
theorem wr_ne {α : Type} {G : Nat → Nat → α} {k j : Nat} {i : Int32} {x : α} (h : j ≠ k) : wr G k i x j = G j := va_up_ne G _ h
/-- all regions but those of a list are as they were -/
def eqx {α : Type} (L : List Nat) (G H : Nat → α) : Prop := ∀ k, k ∉ L → H k = G k
theorem eqx_rf {α : Type} {L : List Nat} {G : Nat → α} : eqx L G G := fun _ _ => rfl
theorem eqx_tr {α : Type} {L : List Nat} {G H K : Nat → α} (h : eqx L G H) (h2 : eqx L H K) : eqx L G K := fun k hk => (h2 k hk).trans (h k hk)
theorem eqx_sub {α : Type} {L L2 : List Nat} {G H : Nat → α} (h : eqx L G H) (hs : ∀ k, k ∈ L → k ∈ L2) : eqx L2 G H := fun k hk => h k (fun h2 => hk (hs k h2))
theorem eqx_up {α : Type} {L : List Nat} {G : Nat → α} {k : Nat} {v : α} (h : k ∈ L) : eqx L G (va_up G k v) := fun j hj => va_up_ne G v (fun e => hj (e ▸ h))
theorem eqx_wf {α : Type} {L : List Nat} {G : Nat → Nat → α} {k : Nat} {x : α} (h : k ∈ L) : eqx L G (wf G k x) := eqx_up h
theorem eqx_wr {α : Type} {L : List Nat} {G : Nat → Nat → α} {k : Nat} {i : Int32} {x : α} (h : k ∈ L) : eqx L G (wr G k i x) := eqx_up h
/-! a row of eight by eight -/
theorem up8 {α : Type} (A : Nat → α) (a b : Nat) (x : α) (i j : Nat) (hb : b < 8) (hj : j < 8) : va_up A (8 * a + b) x (8 * i + j) = if i = a ∧ j = b then x else A (8 * i + j) := by
  rw [up_ap]
  by_cases h : i = a ∧ j = b
  · obtain ⟨rfl, rfl⟩ := h
    rw [if_pos rfl, if_pos ⟨rfl, rfl⟩]
  · rw [if_neg h, if_neg (fun e => h ⟨by omega, by omega⟩)]
theorem c8_cell : ∀ i, i < 8 → ∀ j, j < 8 → C_LT_cell (nI i) (nI j) = nI (8 * i + j) := by decide +kernel
theorem c8_and : ∀ i, i < 8 → (nI i &&& (7 : Int32)) = nI i := by decide +kernel
theorem c8_row (i j : Nat) : ((8 : Int32) * nI i) + nI j = nI (8 * i + j) := by
  rw [show (8 : Int32) = nI 8 from rfl, pk_mul, nI_add]
theorem nI_lit (n : Nat) : (OfNat.ofNat n : Int32) = nI n := rfl
theorem nI_nn {x : Nat} (h : x < 2 ^ 31) : ¬ nI x = (-1 : Int32) := by
  intro e
  have h1 := nI_pos (n := x) h
  rw [e] at h1
  exact h1 (by decide)
theorem ri_k {α : Type} {n j : Nat} {k : Option α} (h : j < n) (hn : n < 2 ^ 31) : ri n (nI j) k = k := ri_nI h hn
