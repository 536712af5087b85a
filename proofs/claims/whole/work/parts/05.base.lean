/-! BASE: one list of words for all methods; pure combinators of the decompiled methods; contracts over a world that is a function of a state. -/
def gG : List Cond := lw_tbl.filter goodWord
theorem gG_tbl {w : Cond} (h : w ∈ gG) : w ∈ lw_tbl := (List.mem_filter.mp h).1
theorem gG_good {w : Cond} (h : w ∈ gG) : (w.onTables && w.keeps) = true ∨ ∃ ty, w = .arrayClass ty := good_of_word (List.mem_filter.mp h).2
theorem gG_at {w : Cond} (i : Nat) (h : lw_tbl[i]? = some w) (g : goodWord w = true) : w ∈ gG := List.mem_filter.mpr ⟨List.mem_of_getElem? h, g⟩
abbrev ws1 (y : MethodName) (b : ByteArray) (n : Nat) (r : Option FieldType) : List Cond := .code y b n r :: gG
theorem ws1_good {y : MethodName} {b : ByteArray} {n : Nat} {r : Option FieldType} (h : Cond.code y b n r ∈ gG) : GoodIn gG (ws1 y b n r) := fun w hw => by
  rcases List.mem_cons.mp hw with rfl | hw
  · exact ⟨h, gG_good h⟩
  · exact ⟨hw, gG_good hw⟩
theorem goodIn_l {big a b : List Cond} (ha : ∀ w ∈ a, w ∈ gG) (hg : ∀ w ∈ gG, w ∈ big) (hb : GoodIn big b) : GoodIn big (a ++ b) := fun w h => (List.mem_append.mp h).elim (fun h => ⟨hg w (ha w h), gG_good (ha w h)⟩) (hb w)
theorem gG_place {ws : List Cond} (ps : List Nat) (hp : ws = ps.filterMap (fun i => lw_tbl[i]?)) (h : ws.all goodWord = true) : ∀ w ∈ ws, w ∈ gG := by
  intro w hw
  have h1 := List.all_eq_true.mp h w hw
  rw [hp] at hw
  obtain ⟨i, -, hi⟩ := List.mem_filterMap.mp hw
  exact gG_at i hi h1
/-! pure combinators -/
def gd {α : Type} (p : Prop) [Decidable p] (k : Option α) : Option α := if p then k else none
theorem gd_some {α : Type} {p : Prop} [Decidable p] {k : Option α} {x : α} (h : gd p k = some x) : p ∧ k = some x := by
  unfold gd at h
  by_cases hp : p
  · rw [if_pos hp] at h; exact ⟨hp, h⟩
  · rw [if_neg hp] at h; cases h
theorem gd_of {α : Type} {p : Prop} [Decidable p] {k : Option α} (h : p) : gd p k = k := by unfold gd; rw [if_pos h]
def ri {α : Type} (n : Nat) (i : Int32) (k : Option α) : Option α := if ¬ (i < 0 ∨ n ≤ i.toNatClampNeg) then k else none
theorem ri_some {α : Type} {n : Nat} {i : Int32} {k : Option α} {x : α} (h : ri n i k = some x) : vp_in i n ∧ k = some x := by
  unfold ri at h
  by_cases hp : ¬ (i < 0 ∨ n ≤ i.toNatClampNeg)
  · rw [if_pos hp] at h; exact ⟨hp, h⟩
  · rw [if_neg hp] at h; cases h
theorem ri_of {α : Type} {n : Nat} {i : Int32} {k : Option α} (h : vp_in i n) : ri n i k = k := if_pos h
theorem ri_nI {α : Type} {n j : Nat} {k : Option α} (h : j < n) (hn : n < 2 ^ 31) : ri n (nI j) k = k := ri_of (vp_in_nI h hn)
def bd {α β : Type} (m : Option α) (k : α → Option β) : Option β := match m with
  | none => none
  | some a => k a
theorem bd_some {α β : Type} {m : Option α} {k : α → Option β} {x : β} (h : bd m k = some x) : ∃ a, m = some a ∧ k a = some x := by
  cases m with
  | none => cases h
  | some a => exact ⟨a, rfl, h⟩
theorem bd_of {α β : Type} {m : Option α} {k : α → Option β} {a : α} (h : m = some a) : bd m k = k a := by rw [h]; rfl
def bd0 {β : Type} (m : Option Unit) (k : Option β) : Option β := match m with
  | none => none
  | some _ => k
theorem bd0_some {β : Type} {m : Option Unit} {k : Option β} {x : β} (h : bd0 m k = some x) : m = some () ∧ k = some x := by
  cases m with
  | none => cases h
  | some a => exact ⟨rfl, h⟩
theorem bd0_of {β : Type} {m : Option Unit} {k : Option β} (h : m = some ()) : bd0 m k = k := by rw [h]; rfl
def bd2 {α1 α2 β : Type} (m : Option (α1 × α2)) (k : α1 → α2 → Option β) : Option β := match m with
  | none => none
  | some (a, b) => k a b
theorem bd2_some {α1 α2 β : Type} {m : Option (α1 × α2)} {k : α1 → α2 → Option β} {x : β} (h : bd2 m k = some x) : ∃ a b, m = some (a, b) ∧ k a b = some x := by
  cases m with
  | none => cases h
  | some q => obtain ⟨a, b⟩ := q; exact ⟨a, b, rfl, h⟩
theorem bd2_of {α1 α2 β : Type} {m : Option (α1 × α2)} {k : α1 → α2 → Option β} {a : α1} {b : α2} (h : m = some (a, b)) : bd2 m k = k a b := by rw [h]; rfl
def bd3 {α1 α2 α3 β : Type} (m : Option (α1 × α2 × α3)) (k : α1 → α2 → α3 → Option β) : Option β := match m with
  | none => none
  | some (a, b, c) => k a b c
theorem bd3_some {α1 α2 α3 β : Type} {m : Option (α1 × α2 × α3)} {k : α1 → α2 → α3 → Option β} {x : β} (h : bd3 m k = some x) : ∃ a b c, m = some (a, b, c) ∧ k a b c = some x := by
  cases m with
  | none => cases h
  | some q => obtain ⟨a, b, c⟩ := q; exact ⟨a, b, c, rfl, h⟩
theorem bd3_of {α1 α2 α3 β : Type} {m : Option (α1 × α2 × α3)} {k : α1 → α2 → α3 → Option β} {a : α1} {b : α2} {c : α3} (h : m = some (a, b, c)) : bd3 m k = k a b c := by rw [h]; rfl
def bd4 {α1 α2 α3 α4 β : Type} (m : Option (α1 × α2 × α3 × α4)) (k : α1 → α2 → α3 → α4 → Option β) : Option β := match m with
  | none => none
  | some (a, b, c, d) => k a b c d
theorem bd4_some {α1 α2 α3 α4 β : Type} {m : Option (α1 × α2 × α3 × α4)} {k : α1 → α2 → α3 → α4 → Option β} {x : β} (h : bd4 m k = some x) : ∃ a b c d, m = some (a, b, c, d) ∧ k a b c d = some x := by
  cases m with
  | none => cases h
  | some q => obtain ⟨a, b, c, d⟩ := q; exact ⟨a, b, c, d, rfl, h⟩
theorem bd4_of {α1 α2 α3 α4 β : Type} {m : Option (α1 × α2 × α3 × α4)} {k : α1 → α2 → α3 → α4 → Option β} {a : α1} {b : α2} {c : α3} {d : α4} (h : m = some (a, b, c, d)) : bd4 m k = k a b c d := by rw [h]; rfl
def bd5 {α1 α2 α3 α4 α5 β : Type} (m : Option (α1 × α2 × α3 × α4 × α5)) (k : α1 → α2 → α3 → α4 → α5 → Option β) : Option β := match m with
  | none => none
  | some (a, b, c, d, e) => k a b c d e
theorem bd5_some {α1 α2 α3 α4 α5 β : Type} {m : Option (α1 × α2 × α3 × α4 × α5)} {k : α1 → α2 → α3 → α4 → α5 → Option β} {x : β} (h : bd5 m k = some x) : ∃ a b c d e, m = some (a, b, c, d, e) ∧ k a b c d e = some x := by
  cases m with
  | none => cases h
  | some q => obtain ⟨a, b, c, d, e⟩ := q; exact ⟨a, b, c, d, e, rfl, h⟩
theorem bd5_of {α1 α2 α3 α4 α5 β : Type} {m : Option (α1 × α2 × α3 × α4 × α5)} {k : α1 → α2 → α3 → α4 → α5 → Option β} {a : α1} {b : α2} {c : α3} {d : α4} {e : α5} (h : m = some (a, b, c, d, e)) : bd5 m k = k a b c d e := by rw [h]; rfl
def bd6 {α1 α2 α3 α4 α5 α6 β : Type} (m : Option (α1 × α2 × α3 × α4 × α5 × α6)) (k : α1 → α2 → α3 → α4 → α5 → α6 → Option β) : Option β := match m with
  | none => none
  | some (a, b, c, d, e, f) => k a b c d e f
theorem bd6_some {α1 α2 α3 α4 α5 α6 β : Type} {m : Option (α1 × α2 × α3 × α4 × α5 × α6)} {k : α1 → α2 → α3 → α4 → α5 → α6 → Option β} {x : β} (h : bd6 m k = some x) : ∃ a b c d e f, m = some (a, b, c, d, e, f) ∧ k a b c d e f = some x := by
  cases m with
  | none => cases h
  | some q => obtain ⟨a, b, c, d, e, f⟩ := q; exact ⟨a, b, c, d, e, f, rfl, h⟩
theorem bd6_of {α1 α2 α3 α4 α5 α6 β : Type} {m : Option (α1 × α2 × α3 × α4 × α5 × α6)} {k : α1 → α2 → α3 → α4 → α5 → α6 → Option β} {a : α1} {b : α2} {c : α3} {d : α4} {e : α5} {f : α6} (h : m = some (a, b, c, d, e, f)) : bd6 m k = k a b c d e f := by rw [h]; rfl
def bd7 {α1 α2 α3 α4 α5 α6 α7 β : Type} (m : Option (α1 × α2 × α3 × α4 × α5 × α6 × α7)) (k : α1 → α2 → α3 → α4 → α5 → α6 → α7 → Option β) : Option β := match m with
  | none => none
  | some (a, b, c, d, e, f, g) => k a b c d e f g
theorem bd7_some {α1 α2 α3 α4 α5 α6 α7 β : Type} {m : Option (α1 × α2 × α3 × α4 × α5 × α6 × α7)} {k : α1 → α2 → α3 → α4 → α5 → α6 → α7 → Option β} {x : β} (h : bd7 m k = some x) : ∃ a b c d e f g, m = some (a, b, c, d, e, f, g) ∧ k a b c d e f g = some x := by
  cases m with
  | none => cases h
  | some q => obtain ⟨a, b, c, d, e, f, g⟩ := q; exact ⟨a, b, c, d, e, f, g, rfl, h⟩
theorem bd7_of {α1 α2 α3 α4 α5 α6 α7 β : Type} {m : Option (α1 × α2 × α3 × α4 × α5 × α6 × α7)} {k : α1 → α2 → α3 → α4 → α5 → α6 → α7 → Option β} {a : α1} {b : α2} {c : α3} {d : α4} {e : α5} {f : α6} {g : α7} (h : m = some (a, b, c, d, e, f, g)) : bd7 m k = k a b c d e f g := by rw [h]; rfl
theorem tsw1 {x : Int32} (c0 : ¬ x = (0 : Int32)) (c1 : ¬ x = (1 : Int32)) : x.toInt < 0 ∨ (1 : Int) < x.toInt := by
  have h0 : x.toInt ≠ 0 := fun h => c0 (Int32.toInt_inj.mp (by rw [h]; rfl))
  have h1 : x.toInt ≠ 1 := fun h => c1 (Int32.toInt_inj.mp (by rw [h]; rfl))
  omega
theorem tsw2 {x : Int32} (c0 : ¬ x = (0 : Int32)) (c1 : ¬ x = (1 : Int32)) (c2 : ¬ x = (2 : Int32)) : x.toInt < 0 ∨ (2 : Int) < x.toInt := by
  have h0 : x.toInt ≠ 0 := fun h => c0 (Int32.toInt_inj.mp (by rw [h]; rfl))
  have h1 : x.toInt ≠ 1 := fun h => c1 (Int32.toInt_inj.mp (by rw [h]; rfl))
  have h2 : x.toInt ≠ 2 := fun h => c2 (Int32.toInt_inj.mp (by rw [h]; rfl))
  omega
theorem tsw3 {x : Int32} (c0 : ¬ x = (0 : Int32)) (c1 : ¬ x = (1 : Int32)) (c2 : ¬ x = (2 : Int32)) (c3 : ¬ x = (3 : Int32)) : x.toInt < 0 ∨ (3 : Int) < x.toInt := by
  have h0 : x.toInt ≠ 0 := fun h => c0 (Int32.toInt_inj.mp (by rw [h]; rfl))
  have h1 : x.toInt ≠ 1 := fun h => c1 (Int32.toInt_inj.mp (by rw [h]; rfl))
  have h2 : x.toInt ≠ 2 := fun h => c2 (Int32.toInt_inj.mp (by rw [h]; rfl))
  have h3 : x.toInt ≠ 3 := fun h => c3 (Int32.toInt_inj.mp (by rw [h]; rfl))
  omega
theorem tsw4 {x : Int32} (c0 : ¬ x = (0 : Int32)) (c1 : ¬ x = (1 : Int32)) (c2 : ¬ x = (2 : Int32)) (c3 : ¬ x = (3 : Int32)) (c4 : ¬ x = (4 : Int32)) : x.toInt < 0 ∨ (4 : Int) < x.toInt := by
  have h0 : x.toInt ≠ 0 := fun h => c0 (Int32.toInt_inj.mp (by rw [h]; rfl))
  have h1 : x.toInt ≠ 1 := fun h => c1 (Int32.toInt_inj.mp (by rw [h]; rfl))
  have h2 : x.toInt ≠ 2 := fun h => c2 (Int32.toInt_inj.mp (by rw [h]; rfl))
  have h3 : x.toInt ≠ 3 := fun h => c3 (Int32.toInt_inj.mp (by rw [h]; rfl))
  have h4 : x.toInt ≠ 4 := fun h => c4 (Int32.toInt_inj.mp (by rw [h]; rfl))
  omega
theorem tsw5 {x : Int32} (c0 : ¬ x = (0 : Int32)) (c1 : ¬ x = (1 : Int32)) (c2 : ¬ x = (2 : Int32)) (c3 : ¬ x = (3 : Int32)) (c4 : ¬ x = (4 : Int32)) (c5 : ¬ x = (5 : Int32)) : x.toInt < 0 ∨ (5 : Int) < x.toInt := by
  have h0 : x.toInt ≠ 0 := fun h => c0 (Int32.toInt_inj.mp (by rw [h]; rfl))
  have h1 : x.toInt ≠ 1 := fun h => c1 (Int32.toInt_inj.mp (by rw [h]; rfl))
  have h2 : x.toInt ≠ 2 := fun h => c2 (Int32.toInt_inj.mp (by rw [h]; rfl))
  have h3 : x.toInt ≠ 3 := fun h => c3 (Int32.toInt_inj.mp (by rw [h]; rfl))
  have h4 : x.toInt ≠ 4 := fun h => c4 (Int32.toInt_inj.mp (by rw [h]; rfl))
  have h5 : x.toInt ≠ 5 := fun h => c5 (Int32.toInt_inj.mp (by rw [h]; rfl))
  omega
theorem tsw6 {x : Int32} (c0 : ¬ x = (0 : Int32)) (c1 : ¬ x = (1 : Int32)) (c2 : ¬ x = (2 : Int32)) (c3 : ¬ x = (3 : Int32)) (c4 : ¬ x = (4 : Int32)) (c5 : ¬ x = (5 : Int32)) (c6 : ¬ x = (6 : Int32)) : x.toInt < 0 ∨ (6 : Int) < x.toInt := by
  have h0 : x.toInt ≠ 0 := fun h => c0 (Int32.toInt_inj.mp (by rw [h]; rfl))
  have h1 : x.toInt ≠ 1 := fun h => c1 (Int32.toInt_inj.mp (by rw [h]; rfl))
  have h2 : x.toInt ≠ 2 := fun h => c2 (Int32.toInt_inj.mp (by rw [h]; rfl))
  have h3 : x.toInt ≠ 3 := fun h => c3 (Int32.toInt_inj.mp (by rw [h]; rfl))
  have h4 : x.toInt ≠ 4 := fun h => c4 (Int32.toInt_inj.mp (by rw [h]; rfl))
  have h5 : x.toInt ≠ 5 := fun h => c5 (Int32.toInt_inj.mp (by rw [h]; rfl))
  have h6 : x.toInt ≠ 6 := fun h => c6 (Int32.toInt_inj.mp (by rw [h]; rfl))
  omega
theorem tsw7 {x : Int32} (c0 : ¬ x = (0 : Int32)) (c1 : ¬ x = (1 : Int32)) (c2 : ¬ x = (2 : Int32)) (c3 : ¬ x = (3 : Int32)) (c4 : ¬ x = (4 : Int32)) (c5 : ¬ x = (5 : Int32)) (c6 : ¬ x = (6 : Int32)) (c7 : ¬ x = (7 : Int32)) : x.toInt < 0 ∨ (7 : Int) < x.toInt := by
  have h0 : x.toInt ≠ 0 := fun h => c0 (Int32.toInt_inj.mp (by rw [h]; rfl))
  have h1 : x.toInt ≠ 1 := fun h => c1 (Int32.toInt_inj.mp (by rw [h]; rfl))
  have h2 : x.toInt ≠ 2 := fun h => c2 (Int32.toInt_inj.mp (by rw [h]; rfl))
  have h3 : x.toInt ≠ 3 := fun h => c3 (Int32.toInt_inj.mp (by rw [h]; rfl))
  have h4 : x.toInt ≠ 4 := fun h => c4 (Int32.toInt_inj.mp (by rw [h]; rfl))
  have h5 : x.toInt ≠ 5 := fun h => c5 (Int32.toInt_inj.mp (by rw [h]; rfl))
  have h6 : x.toInt ≠ 6 := fun h => c6 (Int32.toInt_inj.mp (by rw [h]; rfl))
  have h7 : x.toInt ≠ 7 := fun h => c7 (Int32.toInt_inj.mp (by rw [h]; rfl))
  omega
theorem tsw60_62 {x : Int32} (c60 : ¬ x = (60 : Int32)) (c61 : ¬ x = (61 : Int32)) (c62 : ¬ x = (62 : Int32)) : x.toInt < 60 ∨ (62 : Int) < x.toInt := by
  have h60 : x.toInt ≠ 60 := fun h => c60 (Int32.toInt_inj.mp (by rw [h]; rfl))
  have h61 : x.toInt ≠ 61 := fun h => c61 (Int32.toInt_inj.mp (by rw [h]; rfl))
  have h62 : x.toInt ≠ 62 := fun h => c62 (Int32.toInt_inj.mp (by rw [h]; rfl))
  omega
def nm {α β : Type} (e : α) (k : α → β) : β := k e
theorem nm_some {α β : Type} {e : α} {k : α → Option β} {y : β} {x : α} (hx : x = e) (h : nm e k = some y) : k x = some y := by rw [hx]; exact h
def lp {σ ρ : Type} (st : σ → Option (σ ⊕ ρ)) : Nat → σ → Option ρ
  | 0, _ => none
  | n + 1, q => match st q with
    | none => none
    | some (.inl q') => lp st n q'
    | some (.inr r) => some r
def lpK {σ ρ : Type} (st : σ → Option (σ ⊕ ρ)) (n : Nat) (r : ρ) (y : σ ⊕ ρ) : Prop := match y with
  | .inl q => lp st n q = some r
  | .inr r' => r' = r
theorem lp_go {σ ρ : Type} {st : σ → Option (σ ⊕ ρ)} {n : Nat} {q : σ} {r : ρ} (h : lp st (n + 1) q = some r) : ∃ y, st q = some y ∧ lpK st n r y := by
  unfold lp at h
  cases hq : st q with
  | none => rw [hq] at h; cases h
  | some y =>
    rw [hq] at h
    refine ⟨y, rfl, ?_⟩
    cases y with
    | inl q' => exact h
    | inr r' => exact Option.some.inj h
theorem lp_0 {σ ρ : Type} {st : σ → Option (σ ⊕ ρ)} {q : σ} {r : ρ} (h : lp st 0 q = some r) : False := by cases h
/-- how a loop's end is known: an invariant, a measure that falls -/
theorem lp_inv {σ ρ : Type} {st : σ → Option (σ ⊕ ρ)} (I : σ → Prop) (Q : ρ → Prop) (μ : σ → Nat) (hs : ∀ q, I q → (∃ q', st q = some (.inl q') ∧ I q' ∧ μ q' < μ q) ∨ (∃ r, st q = some (.inr r) ∧ Q r)) : ∀ (n : Nat) (q : σ), I q → μ q < n → ∃ r, lp st n q = some r ∧ Q r
  | 0, _, _, h => absurd h (Nat.not_lt_zero _)
  | n + 1, q, hI, hn => by
    rcases hs q hI with ⟨q', h1, h2, h3⟩ | ⟨r, h1, h2⟩
    · obtain ⟨r, h4, h5⟩ := lp_inv I Q μ hs n q' h2 (by omega)
      exact ⟨r, by rw [lp, h1]; exact h4, h5⟩
    · exact ⟨r, by rw [lp, h1], h2⟩
def FU : Nat := 100000
def wc {α : Type} (G : Nat → Nat → α) (a b n : Nat) : Nat → Nat → α := va_up G b (va_cpy (G a) (G b) 0 0 n)
def wf {α : Type} (G : Nat → Nat → α) (k : Nat) (x : α) : Nat → Nat → α := va_up G k (fun _ => x)
def wr {α : Type} (G : Nat → Nat → α) (k : Nat) (i : Int32) (x : α) : Nat → Nat → α := va_up G k (va_up (G k) i.toNatClampNeg x)
/-! links among nest mates: no words of a list, but facts of the tables that are handed on -/
def nestL : List Cond := [Cond.fieldLinkNest RX9 24 "ListeningTrials$Comparisons" "size" "I" "ListeningTrials", Cond.fieldLinkNest RX6 73 "ListeningTrials$Comparisons" "size" "I" "ListeningTrials", Cond.fieldLinkNest RX3 24 "ListeningTrials$Comparisons" "size" "I" "ListeningTrials", Cond.fieldLinkNest RX11 149 "ListeningTrials$Comparisons" "size" "I" "ListeningTrials", Cond.fieldLinkNest RX11 160 "ListeningTrials$Step" "comparisons" "LListeningTrials$Comparisons;" "ListeningTrials", Cond.fieldLinkNest RX11 167 "ListeningTrials$Step" "plan" "LListeningTrials$Plan;" "ListeningTrials", Cond.fieldLinkNest RX11 168 "ListeningTrials$Step" "current" "I" "ListeningTrials", Cond.fieldLinkNest RX11 323 "ListeningTrials$History" "kept" "I" "ListeningTrials", Cond.fieldLinkNest RX11 173 "ListeningTrials$Text" "length" "I" "ListeningTrials", Cond.fieldLinkNest RX11 184 "ListeningTrials$Text" "found" "I" "ListeningTrials", Cond.fieldLinkNest RX6 61 "ListeningTrials$BestOrder" "known" "Z" "ListeningTrials", Cond.fieldLinkNest RX6 114 "ListeningTrials$BestOrder" "disagreement" "I" "ListeningTrials", Cond.fieldLinkNest RX6 117 "ListeningTrials$BestOrder" "equallyGood" "I" "ListeningTrials", Cond.fieldLinkNest RX11 205 "ListeningTrials$Standing" "margins" "LListeningTrials$Leads;" "ListeningTrials", Cond.fieldLinkNest RX11 269 "ListeningTrials$Strengths" "values" "[D" "ListeningTrials", Cond.methodLinkNest RX3 50 yX11_cell "ListeningTrials", Cond.methodLinkNest RX9 43 yX11_cell "ListeningTrials", Cond.methodLinkNest RX8 63 yX11_cell "ListeningTrials", Cond.methodLinkNest RX6 155 yX11_contains "ListeningTrials", Cond.methodLinkNest RX0 73 yX11_contains "ListeningTrials", Cond.methodLinkNest RX9 56 yX11_coinChance "ListeningTrials", Cond.methodLinkNest RX5 29 yX11_cell "ListeningTrials", Cond.methodLinkNest RX4 29 yX11_cell "ListeningTrials", Cond.fieldLinkNest RX11 133 "ListeningTrials$Plan" "listener" "I" "ListeningTrials"]
theorem nestL_in : ∀ w ∈ nestL, w ∈ lw_tbl := by
  intro w hw
  have h : nestL = [145, 146, 147, 148, 171, 173, 175, 186, 202, 205, 265, 268, 270, 298, 357, 535, 604, 624, 673, 711, 751, 762, 901, 923].filterMap (fun i => lw_tbl[i]?) := by decide +kernel
  rw [h] at hw
  obtain ⟨i, -, hi⟩ := List.mem_filterMap.mp hw
  exact List.mem_of_getElem? hi
def nestOK (U : State) : Prop := (∀ w ∈ nestL, va_Nw w U) ∧ va_AO RX7 U
theorem nestL_kind : ∀ w ∈ nestL, w.onTables = true ∧ ((∃ a i b n d h, w = Cond.fieldLinkNest a i b n d h) ∨ ∃ a i x h, w = Cond.methodLinkNest a i x h) := by
  intro w hw
  simp only [nestL, List.mem_cons, List.not_mem_nil, or_false] at hw
  rcases hw with rfl | rfl | rfl | rfl | rfl | rfl | rfl | rfl | rfl | rfl | rfl | rfl | rfl | rfl | rfl | rfl | rfl | rfl | rfl | rfl | rfl | rfl | rfl | rfl <;> first | exact ⟨rfl, Or.inl ⟨_, _, _, _, _, _, rfl⟩⟩ | exact ⟨rfl, Or.inr ⟨_, _, _, _, rfl⟩⟩
theorem nestOK.warm {s U : State} (hW : s.WarmedH U.vm) (h : nestOK s) : nestOK U := by
  refine ⟨?_, va_AO.moved hW.alike h.2⟩
  intro w hw
  obtain ⟨-, ⟨a, i, b, n, d, g, rfl⟩ | ⟨a, i, x, g, rfl⟩⟩ := nestL_kind w hw
  · exact va_Nw.warmF hW (h.1 _ hw)
  · exact va_Nw.warmM hW (h.1 _ hw)
theorem nestOK.same {u U : State} (hv : u.vm = U.vm) (h : nestOK u) : nestOK U := ⟨fun w hw => va_Nw.same (nestL_kind w hw).1 hv (h.1 w hw), va_AO.moved (by rw [← hv]; exact Vm.Alike.refl u.vm) h.2⟩
theorem nestOK.use {U : State} {args : Array Value} {w : Cond} (h : nestOK U) (hw : w ∈ nestL) : w.before args U = true := va_Nw.use (nestL_kind w hw).1 (h.1 w hw)
theorem nestOK.of {U : State} {args : Array Value} (h : ∀ w ∈ lw_tbl, w.before args U = true) : nestOK U := ⟨fun w hw => va_Nw.of (nestL_kind w hw).1 (h w (nestL_in w hw)), va_AO.of (h (Cond.arrayOver (.object RX7)) (List.mem_of_getElem? (i := 162) (by decide +kernel)))⟩
/-! worlds and contracts -/
section Con
variable {D : va_G} {tys : List (ClassId × FieldType)} {Sg : Type} {Wd : Sg → va_W}
def sB (D : va_G) (tys : List (ClassId × FieldType)) {Sg : Type} (Wd : Sg → va_W) (A : Nat → Prop) (u : Sg) (t : State) : Prop := va_P D vwCl (Wd u) t.heap ∧ va_K D vwCl tys t ∧ va_D A (Wd u)
def sPre (D : va_G) (tys : List (ClassId × FieldType)) {Sg : Type} (Wd : Sg → va_W) (σ : Sg) (sz : Nat) (U : State) : Prop := U.heap.size = sz ∧ va_P D vwCl (Wd σ) U.heap ∧ va_K D vwCl tys U ∧ va_D (fun _ => True) (Wd σ) ∧ nestOK U
def sInv (D : va_G) (tys : List (ClassId × FieldType)) {Sg : Type} (Wd : Sg → va_W) (A : Nat → Prop) (s : State) (H : Heap) (locs : List Loc) (σ : Sg) : Prop := va_K D vwCl tys s ∧ va_P D vwCl (Wd σ) H ∧ va_D A (Wd σ) ∧ va_S A s.heap H locs ∧ (∀ q, s.heap.size ≤ q → A q) ∧ nestOK s
def sMi (D : va_G) (tys : List (ClassId × FieldType)) {Sg : Type} (Wd : Sg → va_W) (l : Launch) (y : MethodName) (ws : List Cond) (rm : Room) (av : List Value) (σ : Sg) (X : Int32 × Sg) : Prop := ∀ sz : Nat, Met l y ws rm (va_Pc av (sPre D tys Wd σ sz)) (va_Qi (fun (r : Int32) (u : Sg) => (r, u) = X) (sB D tys Wd (va_A (Wd σ) sz)) (va_A (Wd σ) sz)) 0 0 (va_A (Wd σ) sz)
def sMl (D : va_G) (tys : List (ClassId × FieldType)) {Sg : Type} (Wd : Sg → va_W) (l : Launch) (y : MethodName) (ws : List Cond) (rm : Room) (av : List Value) (σ : Sg) (X : Int64 × Sg) : Prop := ∀ sz : Nat, Met l y ws rm (va_Pc av (sPre D tys Wd σ sz)) (va_Ql (fun (r : Int64) (u : Sg) => (r, u) = X) (sB D tys Wd (va_A (Wd σ) sz)) (va_A (Wd σ) sz)) 0 0 (va_A (Wd σ) sz)
def sMv (D : va_G) (tys : List (ClassId × FieldType)) {Sg : Type} (Wd : Sg → va_W) (l : Launch) (y : MethodName) (ws : List Cond) (rm : Room) (av : List Value) (σ : Sg) (X : Sg) : Prop := ∀ sz : Nat, Met l y ws rm (va_Pc av (sPre D tys Wd σ sz)) (va_Qv (fun (u : Sg) => u = X) (sB D tys Wd (va_A (Wd σ) sz)) (va_A (Wd σ) sz)) 0 0 (va_A (Wd σ) sz)
theorem sPre_blind {σ : Sg} {sz : Nat} {av : List Value} : FrameBlind (va_Pc av (sPre D tys Wd σ sz)) := fun a U g mk q => by
  obtain ⟨q0, q1, qP, qK, qD, qN⟩ := q
  exact ⟨q0, q1, qP, va_K.moved (u := U) (U := U.calling g mk a) (Vm.Alike.refl U.vm) qK, qD, nestOK.same (u := U) rfl qN⟩
theorem sInv_free {A : Nat → Prop} {s : State} {H : Heap} {locs : List Loc} {σ : Sg} (I : sInv D tys Wd A s H locs σ) : ∀ q, va_A (Wd σ) H.size q → A q := by
  intro q h
  rcases h with ⟨k, e, h⟩ | h
  · exact I.2.2.1.2 k (q, e) h
  · exact I.2.2.2.2.1 q (Nat.le_trans I.2.2.2.1.1 h)
theorem sInv_pre {A : Nat → Prop} {s : State} {H : Heap} {locs : List Loc} {σ : Sg} {av : List Value} (I : sInv D tys Wd A s H locs σ) : ∀ U : State, U.heap = H → s.WarmedH U.vm → va_Pc av (sPre D tys Wd σ H.size) av.toArray U := fun U hU hW =>
  ⟨rfl, by rw [hU], by rw [hU]; exact I.2.1, va_K.moved hW.alike I.1, I.2.2.1.weaken (fun _ _ _ _ => trivial), nestOK.warm hW I.2.2.2.2.2⟩
theorem sInv_back {A : Nat → Prop} {s t : State} {H H1 : Heap} {locs locs1 : List Loc} {σ σ' : Sg} (I : sInv D tys Wd A s H locs σ) (ht : t.heap = H1) (hvm : s.vm.Alike t.vm) (hB : sB D tys Wd (va_A (Wd σ) H.size) σ' t) (hS : va_S A s.heap H1 locs1) : sInv D tys Wd A s H1 locs1 σ' :=
  ⟨I.1, by rw [← ht]; exact hB.1, hB.2.2.weaken (fun k q _ h => sInv_free I q.1 h), hS, I.2.2.2.2⟩
theorem sInv_entry {s : State} {σ : Sg} (h : sPre D tys Wd σ s.heap.size s) : sInv D tys Wd (va_A (Wd σ) s.heap.size) s s.heap [] σ :=
  ⟨h.2.2.1, h.2.1, h.2.2.2.1.self, va_S.rf, fun _ h => Or.inr h, h.2.2.2.2⟩
theorem bool_fit {x : Int32} (h : x = 0 ∨ x = 1) : fits .boolean (.int x) = true := by
  rcases h with rfl | rfl <;> rfl
theorem bool_nar {x : Int32} (h : x = 0 ∨ x = 1) : narrow .boolean (.int x) = .int x := by
  rcases h with rfl | rfl <;> rfl
theorem sMi_of {l : Launch} {y : MethodName} {cc : ByteArray} {maxL : Nat} {rm : Room} {av : List Value} {σ : Sg} {X : Int32 × Sg} (hy : plainName y.cls = true) (hn : (lg_sl av).length ≤ maxL)
    (body : ∀ (p : Program) (e : Env) (R : Room) (s : State) (m : MethodId) (args : Array Value) (below : List Frame) (meth : Method) (c : Code) (A : Nat → Prop) (Q : State → Prop) (ls : Array Slot) (H0 : Heap) (locs0 : List Loc),
      CallFix p m c cc maxL s args gG y.cls → rm.frames ≤ R.frames → rm.locals ≤ R.locals → sInv D tys Wd A s H0 locs0 σ → lv_has ls maxL (lv_args 0 av) →
      (∀ (H : Heap) (locs : List Loc) (pc : Nat) (ls : Array Slot), sInv D tys Wd A s H locs X.2 → decode cc pc = .ok (.ireturn, 1) → W p l e R s m args below meth c H locs 0 0 Q (F0 m pc ls [.int X.1])) →
      W p l e R s m args below meth c H0 locs0 0 0 Q (F0 m 0 ls [])) : sMi D tys Wd l y (ws1 y cc maxL (some .int)) rm av σ X := by
  intro sz
  refine Met.ofW (cc := cc) (maxL := maxL) (ret := some .int) hy rfl ?_
  intro p e s m args below meth c s₁ B hml hv
  obtain ⟨rfl, hv⟩ := hv
  have hsz := hv.1
  subst hsz
  have hts := atoms_spec (ws := ws1 y cc maxL (some .int)) B.pre
  have hl := lv_entry av (n := maxL) hn
  rw [lg_entry_eq]
  refine body p e _ s m _ below meth c (va_A (Wd σ) s.heap.size) _ _ s.heap [] ⟨B.exec, B.bytes, hml, findClass_of_methodNamed B.named, fun w h => hts w (List.mem_cons_of_mem _ h)⟩ (Nat.le_refl _) (Nat.le_refl _) (sInv_entry hv) hl (fun H locs pc ls I d => ?_)
  exact W.zret B.exec B.bytes B.returns rfl (fun t ht hW => ⟨⟨X.1, X.2, rfl, rfl, by rw [ht]; exact I.2.1, va_K.moved hW.alike I.1, I.2.2.1⟩, I.2.2.2.1.F ht⟩) I.2.2.2.1.2.2 d B.notSynchronized
theorem sMz_of {l : Launch} {y : MethodName} {cc : ByteArray} {maxL : Nat} {rm : Room} {av : List Value} {σ : Sg} {X : Int32 × Sg} (hy : plainName y.cls = true) (hn : (lg_sl av).length ≤ maxL)
    (body : ∀ (p : Program) (e : Env) (R : Room) (s : State) (m : MethodId) (args : Array Value) (below : List Frame) (meth : Method) (c : Code) (A : Nat → Prop) (Q : State → Prop) (ls : Array Slot) (H0 : Heap) (locs0 : List Loc),
      CallFix p m c cc maxL s args gG y.cls → rm.frames ≤ R.frames → rm.locals ≤ R.locals → sInv D tys Wd A s H0 locs0 σ → lv_has ls maxL (lv_args 0 av) →
      (∀ (H : Heap) (locs : List Loc) (pc : Nat) (ls : Array Slot), sInv D tys Wd A s H locs X.2 → (X.1 = 0 ∨ X.1 = 1) → decode cc pc = .ok (.ireturn, 1) → W p l e R s m args below meth c H locs 0 0 Q (F0 m pc ls [.int X.1])) →
      W p l e R s m args below meth c H0 locs0 0 0 Q (F0 m 0 ls [])) : sMi D tys Wd l y (ws1 y cc maxL (some .boolean)) rm av σ X := by
  intro sz
  refine Met.ofW (cc := cc) (maxL := maxL) (ret := some .boolean) hy rfl ?_
  intro p e s m args below meth c s₁ B hml hv
  obtain ⟨rfl, hv⟩ := hv
  have hsz := hv.1
  subst hsz
  have hts := atoms_spec (ws := ws1 y cc maxL (some .boolean)) B.pre
  have hl := lv_entry av (n := maxL) hn
  rw [lg_entry_eq]
  refine body p e _ s m _ below meth c (va_A (Wd σ) s.heap.size) _ _ s.heap [] ⟨B.exec, B.bytes, hml, findClass_of_methodNamed B.named, fun w h => hts w (List.mem_cons_of_mem _ h)⟩ (Nat.le_refl _) (Nat.le_refl _) (sInv_entry hv) hl (fun H locs pc ls I hz d => ?_)
  exact W.zret B.exec B.bytes B.returns (bool_nar hz) (fun t ht hW => ⟨⟨X.1, X.2, rfl, rfl, by rw [ht]; exact I.2.1, va_K.moved hW.alike I.1, I.2.2.1⟩, I.2.2.2.1.F ht⟩) I.2.2.2.1.2.2 d B.notSynchronized
theorem sMl_of {l : Launch} {y : MethodName} {cc : ByteArray} {maxL : Nat} {rm : Room} {av : List Value} {σ : Sg} {X : Int64 × Sg} (hy : plainName y.cls = true) (hn : (lg_sl av).length ≤ maxL)
    (body : ∀ (p : Program) (e : Env) (R : Room) (s : State) (m : MethodId) (args : Array Value) (below : List Frame) (meth : Method) (c : Code) (A : Nat → Prop) (Q : State → Prop) (ls : Array Slot) (H0 : Heap) (locs0 : List Loc),
      CallFix p m c cc maxL s args gG y.cls → rm.frames ≤ R.frames → rm.locals ≤ R.locals → sInv D tys Wd A s H0 locs0 σ → lv_has ls maxL (lv_args 0 av) →
      (∀ (H : Heap) (locs : List Loc) (pc : Nat) (ls : Array Slot), sInv D tys Wd A s H locs X.2 → decode cc pc = .ok (.lreturn, 1) → W p l e R s m args below meth c H locs 0 0 Q (F0 m pc ls [.long X.1])) →
      W p l e R s m args below meth c H0 locs0 0 0 Q (F0 m 0 ls [])) : sMl D tys Wd l y (ws1 y cc maxL (some .long)) rm av σ X := by
  intro sz
  refine Met.ofW (cc := cc) (maxL := maxL) (ret := some .long) hy rfl ?_
  intro p e s m args below meth c s₁ B hml hv
  obtain ⟨rfl, hv⟩ := hv
  have hsz := hv.1
  subst hsz
  have hts := atoms_spec (ws := ws1 y cc maxL (some .long)) B.pre
  have hl := lv_entry av (n := maxL) hn
  rw [lg_entry_eq]
  refine body p e _ s m _ below meth c (va_A (Wd σ) s.heap.size) _ _ s.heap [] ⟨B.exec, B.bytes, hml, findClass_of_methodNamed B.named, fun w h => hts w (List.mem_cons_of_mem _ h)⟩ (Nat.le_refl _) (Nat.le_refl _) (sInv_entry hv) hl (fun H locs pc ls I d => ?_)
  exact W.lret B.exec B.bytes B.returns (fun t ht hW => ⟨⟨X.1, X.2, rfl, rfl, by rw [ht]; exact I.2.1, va_K.moved hW.alike I.1, I.2.2.1⟩, I.2.2.2.1.F ht⟩) I.2.2.2.1.2.2 d B.notSynchronized
theorem sMv_of {l : Launch} {y : MethodName} {cc : ByteArray} {maxL : Nat} {rm : Room} {av : List Value} {σ : Sg} {X : Sg} (hy : plainName y.cls = true) (hn : (lg_sl av).length ≤ maxL)
    (body : ∀ (p : Program) (e : Env) (R : Room) (s : State) (m : MethodId) (args : Array Value) (below : List Frame) (meth : Method) (c : Code) (A : Nat → Prop) (Q : State → Prop) (ls : Array Slot) (H0 : Heap) (locs0 : List Loc),
      CallFix p m c cc maxL s args gG y.cls → rm.frames ≤ R.frames → rm.locals ≤ R.locals → sInv D tys Wd A s H0 locs0 σ → lv_has ls maxL (lv_args 0 av) →
      (∀ (H : Heap) (locs : List Loc) (pc : Nat) (ls : Array Slot), sInv D tys Wd A s H locs X → decode cc pc = .ok (.return_, 1) → W p l e R s m args below meth c H locs 0 0 Q (F0 m pc ls [])) →
      W p l e R s m args below meth c H0 locs0 0 0 Q (F0 m 0 ls [])) : sMv D tys Wd l y (ws1 y cc maxL none) rm av σ X := by
  intro sz
  refine Met.ofW (cc := cc) (maxL := maxL) (ret := none) hy rfl ?_
  intro p e s m args below meth c s₁ B hml hv
  obtain ⟨rfl, hv⟩ := hv
  have hsz := hv.1
  subst hsz
  have hts := atoms_spec (ws := ws1 y cc maxL none) B.pre
  have hl := lv_entry av (n := maxL) hn
  rw [lg_entry_eq]
  refine body p e _ s m _ below meth c (va_A (Wd σ) s.heap.size) _ _ s.heap [] ⟨B.exec, B.bytes, hml, findClass_of_methodNamed B.named, fun w h => hts w (List.mem_cons_of_mem _ h)⟩ (Nat.le_refl _) (Nat.le_refl _) (sInv_entry hv) hl (fun H locs pc ls I d => ?_)
  exact W.vret B.exec B.bytes B.returns (fun t ht hW => ⟨⟨X, rfl, rfl, by rw [ht]; exact I.2.1, va_K.moved hW.alike I.1, I.2.2.1⟩, I.2.2.2.1.F ht⟩) I.2.2.2.1.2.2 d B.notSynchronized
/-- what a call's words are: the link, the kind, the code -/
abbrev kV (own : String) (idx : Nat) (y : MethodName) (b : ByteArray) (maxL : Nat) (ret : Option FieldType) (n : Nat) : Prop := (Cond.methodLink own idx y ∈ gG ∧ Cond.instanceMethod y ∈ gG ∧ Cond.selects y.cls y y ∈ gG ∧ Cond.initialized y.cls ∈ gG ∧ Cond.code y b maxL ret ∈ gG) ∧ y.cls ≠ "java/lang/invoke/MethodHandle" ∧ y.cls ≠ "java/lang/invoke/VarHandle" ∧ (parseMethodDescriptor y.desc).map (fun d => d.parameters.length) = some n
abbrev kS (own : String) (idx : Nat) (y : MethodName) (b : ByteArray) (maxL : Nat) (ret : Option FieldType) (n : Nat) : Prop := (Cond.methodLink own idx y ∈ gG ∧ Cond.static y ∈ gG ∧ Cond.initialized y.cls ∈ gG ∧ Cond.code y b maxL ret ∈ gG) ∧ y.cls ≠ "java/lang/invoke/MethodHandle" ∧ y.cls ≠ "java/lang/invoke/VarHandle" ∧ (parseMethodDescriptor y.desc).map (fun d => d.parameters.length) = some n
abbrev kVN (own : String) (idx : Nat) (y : MethodName) (host : String) (b : ByteArray) (maxL : Nat) (ret : Option FieldType) (n : Nat) : Prop := (Cond.methodLinkNest own idx y host ∈ nestL ∧ Cond.instanceMethod y ∈ gG ∧ Cond.selects y.cls y y ∈ gG ∧ Cond.initialized y.cls ∈ gG ∧ Cond.code y b maxL ret ∈ gG) ∧ y.cls ≠ "java/lang/invoke/MethodHandle" ∧ y.cls ≠ "java/lang/invoke/VarHandle" ∧ (parseMethodDescriptor y.desc).map (fun d => d.parameters.length) = some n
abbrev kSN (own : String) (idx : Nat) (y : MethodName) (host : String) (b : ByteArray) (maxL : Nat) (ret : Option FieldType) (n : Nat) : Prop := (Cond.methodLinkNest own idx y host ∈ nestL ∧ Cond.static y ∈ gG ∧ Cond.initialized y.cls ∈ gG ∧ Cond.code y b maxL ret ∈ gG) ∧ y.cls ≠ "java/lang/invoke/MethodHandle" ∧ y.cls ≠ "java/lang/invoke/VarHandle" ∧ (parseMethodDescriptor y.desc).map (fun d => d.parameters.length) = some n
theorem kVN_w {own host : String} {idx : Nat} {y : MethodName} {b : ByteArray} {maxL : Nat} {ret : Option FieldType} {n : Nat} {R rm : Room} {s : State} {args : Array Value} {mc ms : Nat} (h : kVN own idx y host b maxL ret n) (hN : nestOK s) (ht : ∀ w ∈ gG, w.before args s = true) (hrc : rm.cells = mc) (hrs : rm.slots = ms) (hR : rm.frames + 1 ≤ R.frames ∧ 8 + (maxL + 11) + rm.locals ≤ R.locals) : va_CN R s args own idx y host b maxL ret (ws1 y b maxL ret) rm mc ms n ∧ (Cond.instanceMethod y).before args s = true ∧ (Cond.selects y.cls y y).before args s = true :=
  ⟨va_cnB n ht (ws1_good h.1.2.2.2.2) rfl hrc hrs (hN.1 _ h.1.1) (ht _ h.1.2.2.2.1) h.2 hR, ht _ h.1.2.1, ht _ h.1.2.2.1⟩
theorem kSN_w {own host : String} {idx : Nat} {y : MethodName} {b : ByteArray} {maxL : Nat} {ret : Option FieldType} {n : Nat} {R rm : Room} {s : State} {args : Array Value} {mc ms : Nat} (h : kSN own idx y host b maxL ret n) (hN : nestOK s) (ht : ∀ w ∈ gG, w.before args s = true) (hrc : rm.cells = mc) (hrs : rm.slots = ms) (hR : rm.frames + 1 ≤ R.frames ∧ 8 + (maxL + 11) + rm.locals ≤ R.locals) : va_CN R s args own idx y host b maxL ret (ws1 y b maxL ret) rm mc ms n ∧ (Cond.static y).before args s = true ∧ True :=
  ⟨va_cnB n ht (ws1_good h.1.2.2.2) rfl hrc hrs (hN.1 _ h.1.1) (ht _ h.1.2.2.1) h.2 hR, ht _ h.1.2.1, trivial⟩
theorem kV_w {own : String} {idx : Nat} {y : MethodName} {b : ByteArray} {maxL : Nat} {ret : Option FieldType} {n : Nat} {R rm : Room} {s : State} {args : Array Value} {mc ms : Nat} (h : kV own idx y b maxL ret n) (ht : ∀ w ∈ gG, w.before args s = true) (hrc : rm.cells = mc) (hrs : rm.slots = ms) (hR : rm.frames + 1 ≤ R.frames ∧ 8 + (maxL + 11) + rm.locals ≤ R.locals) : CallW R s args own y.cls idx y b maxL ret (ws1 y b maxL ret) rm mc ms n :=
  ⟨callB_of n ht (ws1_good h.1.2.2.2.2) rfl hrc hrs (ht _ h.1.2.2.2.1) (ht _ h.1.1) h.2 hR, ht _ h.1.2.1, ht _ h.1.2.2.1⟩
theorem kS_w {own : String} {idx : Nat} {y : MethodName} {b : ByteArray} {maxL : Nat} {ret : Option FieldType} {n : Nat} {R rm : Room} {s : State} {args : Array Value} {mc ms : Nat} (h : kS own idx y b maxL ret n) (ht : ∀ w ∈ gG, w.before args s = true) (hrc : rm.cells = mc) (hrs : rm.slots = ms) (hR : rm.frames + 1 ≤ R.frames ∧ 8 + (maxL + 11) + rm.locals ≤ R.locals) : CallB R s args own idx y b maxL ret (ws1 y b maxL ret) rm mc ms n ∧ (Cond.static y).before args s = true :=
  ⟨callB_of n ht (ws1_good h.1.2.2.2) rfl hrc hrs (ht _ h.1.2.2.1) (ht _ h.1.1) h.2 hR, ht _ h.1.2.1⟩
variable {p : Program} {l : Launch} {e : Env} {R rm : Room} {s : State} {m : MethodId} {args : Array Value} {below : List Frame} {meth : Method} {c : Code} {H : Heap} {locs : List Loc} {cells slots : Nat} {Q : State → Prop}
variable {A : Nat → Prop} {cc bytes : ByteArray} {nL maxL idx n pc : Nat} {own host : String} {y : MethodName} {ret : Option FieldType} {b : Nat} {As rest st0 : List Value} {σ : Sg} {ls : Array Slot}
/-- calls of methods of a world's system: an int, a long, nothing comes back -/
theorem s_callVi {X : Int32 × Sg} (F : CallFix p m c cc nL s args gG own) (I : sInv D tys Wd A s H locs σ) (hM : sMi D tys Wd l y (ws1 y bytes maxL ret) rm (.ref b :: As) σ X) (k : kV own idx y bytes maxL ret n) (hr0 : rm.cells = 0 ∧ rm.slots = 0) (hR : rm.frames + 1 ≤ R.frames ∧ 8 + (maxL + 11) + rm.locals ≤ R.locals) (pos ci : Nat) {q : vw_C} {fs : List Value} (hc : vwCl[ci]? = some q) (hq : q.1 = y.cls) (he : (Wd σ)[pos]? = some (b, .inr (ci, fs))) (hn : As.length = n) (hst : st0 = As.reverse ++ .ref b :: rest) (hls : ls.size = nL) (hW : (rest.map fun v => v.category).sum ≤ 8) (hcs : cells ≤ R.cells ∧ slots ≤ R.slots) (d : decode cc pc = .ok (.invokevirtual idx, 3))
    (kk : ∀ (H1 : Heap) (locs1 : List Loc), sInv D tys Wd A s H1 locs1 X.2 → W p l e R s m args below meth c H1 locs1 cells slots Q (F0 m (pc + 3) ls (.int X.1 :: rest))) : W p l e R s m args below meth c H locs cells slots Q (F0 m pc ls st0) :=
  va_calli (va_runV (As := As) (rest := rest) F (hM H.size) (kV_w k F.2.2.2.2 hr0.1 hr0.2 hR) ⟨sPre_blind, hq ▸ va_recv I.1 I.2.1 hc he, sInv_pre I⟩ rfl hn hls hst (lv_room hW) d hcs) I.2.2.2.1 (fun q _ h => sInv_free I q h) (sInv_free I) (fun r u t H1 locs1 ht hvm hw hB _ _ hS => by
    obtain rfl : r = X.1 := congrArg Prod.fst hw
    obtain rfl : u = X.2 := congrArg Prod.snd hw
    exact kk H1 locs1 (sInv_back I ht hvm hB hS))
theorem s_callVl {X : Int64 × Sg} (F : CallFix p m c cc nL s args gG own) (I : sInv D tys Wd A s H locs σ) (hM : sMl D tys Wd l y (ws1 y bytes maxL ret) rm (.ref b :: As) σ X) (k : kV own idx y bytes maxL ret n) (hr0 : rm.cells = 0 ∧ rm.slots = 0) (hR : rm.frames + 1 ≤ R.frames ∧ 8 + (maxL + 11) + rm.locals ≤ R.locals) (pos ci : Nat) {q : vw_C} {fs : List Value} (hc : vwCl[ci]? = some q) (hq : q.1 = y.cls) (he : (Wd σ)[pos]? = some (b, .inr (ci, fs))) (hn : As.length = n) (hst : st0 = As.reverse ++ .ref b :: rest) (hls : ls.size = nL) (hW : (rest.map fun v => v.category).sum ≤ 8) (hcs : cells ≤ R.cells ∧ slots ≤ R.slots) (d : decode cc pc = .ok (.invokevirtual idx, 3))
    (kk : ∀ (H1 : Heap) (locs1 : List Loc), sInv D tys Wd A s H1 locs1 X.2 → W p l e R s m args below meth c H1 locs1 cells slots Q (F0 m (pc + 3) ls (.long X.1 :: rest))) : W p l e R s m args below meth c H locs cells slots Q (F0 m pc ls st0) :=
  va_calll (va_runV (As := As) (rest := rest) F (hM H.size) (kV_w k F.2.2.2.2 hr0.1 hr0.2 hR) ⟨sPre_blind, hq ▸ va_recv I.1 I.2.1 hc he, sInv_pre I⟩ rfl hn hls hst (lv_room hW) d hcs) I.2.2.2.1 (fun q _ h => sInv_free I q h) (sInv_free I) (fun r u t H1 locs1 ht hvm hw hB _ _ hS => by
    obtain rfl : r = X.1 := congrArg Prod.fst hw
    obtain rfl : u = X.2 := congrArg Prod.snd hw
    exact kk H1 locs1 (sInv_back I ht hvm hB hS))
theorem s_callVv {X : Sg} (F : CallFix p m c cc nL s args gG own) (I : sInv D tys Wd A s H locs σ) (hM : sMv D tys Wd l y (ws1 y bytes maxL ret) rm (.ref b :: As) σ X) (k : kV own idx y bytes maxL ret n) (hr0 : rm.cells = 0 ∧ rm.slots = 0) (hR : rm.frames + 1 ≤ R.frames ∧ 8 + (maxL + 11) + rm.locals ≤ R.locals) (pos ci : Nat) {q : vw_C} {fs : List Value} (hc : vwCl[ci]? = some q) (hq : q.1 = y.cls) (he : (Wd σ)[pos]? = some (b, .inr (ci, fs))) (hn : As.length = n) (hst : st0 = As.reverse ++ .ref b :: rest) (hls : ls.size = nL) (hW : (rest.map fun v => v.category).sum ≤ 8) (hcs : cells ≤ R.cells ∧ slots ≤ R.slots) (d : decode cc pc = .ok (.invokevirtual idx, 3))
    (kk : ∀ (H1 : Heap) (locs1 : List Loc), sInv D tys Wd A s H1 locs1 X → W p l e R s m args below meth c H1 locs1 cells slots Q (F0 m (pc + 3) ls rest)) : W p l e R s m args below meth c H locs cells slots Q (F0 m pc ls st0) :=
  va_callv (va_runV (As := As) (rest := rest) F (hM H.size) (kV_w k F.2.2.2.2 hr0.1 hr0.2 hR) ⟨sPre_blind, hq ▸ va_recv I.1 I.2.1 hc he, sInv_pre I⟩ rfl hn hls hst (lv_room hW) d hcs) I.2.2.2.1 (fun q _ h => sInv_free I q h) (sInv_free I) (fun u t H1 locs1 ht hvm hw hB _ _ hS => by
    obtain rfl : u = X := hw
    exact kk H1 locs1 (sInv_back I ht hvm hB hS))
theorem s_callSi {X : Int32 × Sg} (F : CallFix p m c cc nL s args gG own) (I : sInv D tys Wd A s H locs σ) (hM : sMi D tys Wd l y (ws1 y bytes maxL ret) rm As σ X) (k : kS own idx y bytes maxL ret n) (hr0 : rm.cells = 0 ∧ rm.slots = 0) (hR : rm.frames + 1 ≤ R.frames ∧ 8 + (maxL + 11) + rm.locals ≤ R.locals) (hn : As.length = n) (hst : st0 = As.reverse ++ rest) (hls : ls.size = nL) (hW : (rest.map fun v => v.category).sum ≤ 8) (hcs : cells ≤ R.cells ∧ slots ≤ R.slots) (d : decode cc pc = .ok (.invokestatic idx, 3))
    (kk : ∀ (H1 : Heap) (locs1 : List Loc), sInv D tys Wd A s H1 locs1 X.2 → W p l e R s m args below meth c H1 locs1 cells slots Q (F0 m (pc + 3) ls (.int X.1 :: rest))) : W p l e R s m args below meth c H locs cells slots Q (F0 m pc ls st0) :=
  va_calli (va_runS (As := As) (rest := rest) F (hM H.size) (kS_w k F.2.2.2.2 hr0.1 hr0.2 hR) ⟨sPre_blind, sInv_pre I⟩ rfl hn hls hst (lv_room hW) d hcs) I.2.2.2.1 (fun q _ h => sInv_free I q h) (sInv_free I) (fun r u t H1 locs1 ht hvm hw hB _ _ hS => by
    obtain rfl : r = X.1 := congrArg Prod.fst hw
    obtain rfl : u = X.2 := congrArg Prod.snd hw
    exact kk H1 locs1 (sInv_back I ht hvm hB hS))
theorem s_callSl {X : Int64 × Sg} (F : CallFix p m c cc nL s args gG own) (I : sInv D tys Wd A s H locs σ) (hM : sMl D tys Wd l y (ws1 y bytes maxL ret) rm As σ X) (k : kS own idx y bytes maxL ret n) (hr0 : rm.cells = 0 ∧ rm.slots = 0) (hR : rm.frames + 1 ≤ R.frames ∧ 8 + (maxL + 11) + rm.locals ≤ R.locals) (hn : As.length = n) (hst : st0 = As.reverse ++ rest) (hls : ls.size = nL) (hW : (rest.map fun v => v.category).sum ≤ 8) (hcs : cells ≤ R.cells ∧ slots ≤ R.slots) (d : decode cc pc = .ok (.invokestatic idx, 3))
    (kk : ∀ (H1 : Heap) (locs1 : List Loc), sInv D tys Wd A s H1 locs1 X.2 → W p l e R s m args below meth c H1 locs1 cells slots Q (F0 m (pc + 3) ls (.long X.1 :: rest))) : W p l e R s m args below meth c H locs cells slots Q (F0 m pc ls st0) :=
  va_calll (va_runS (As := As) (rest := rest) F (hM H.size) (kS_w k F.2.2.2.2 hr0.1 hr0.2 hR) ⟨sPre_blind, sInv_pre I⟩ rfl hn hls hst (lv_room hW) d hcs) I.2.2.2.1 (fun q _ h => sInv_free I q h) (sInv_free I) (fun r u t H1 locs1 ht hvm hw hB _ _ hS => by
    obtain rfl : r = X.1 := congrArg Prod.fst hw
    obtain rfl : u = X.2 := congrArg Prod.snd hw
    exact kk H1 locs1 (sInv_back I ht hvm hB hS))
theorem s_callSv {X : Sg} (F : CallFix p m c cc nL s args gG own) (I : sInv D tys Wd A s H locs σ) (hM : sMv D tys Wd l y (ws1 y bytes maxL ret) rm As σ X) (k : kS own idx y bytes maxL ret n) (hr0 : rm.cells = 0 ∧ rm.slots = 0) (hR : rm.frames + 1 ≤ R.frames ∧ 8 + (maxL + 11) + rm.locals ≤ R.locals) (hn : As.length = n) (hst : st0 = As.reverse ++ rest) (hls : ls.size = nL) (hW : (rest.map fun v => v.category).sum ≤ 8) (hcs : cells ≤ R.cells ∧ slots ≤ R.slots) (d : decode cc pc = .ok (.invokestatic idx, 3))
    (kk : ∀ (H1 : Heap) (locs1 : List Loc), sInv D tys Wd A s H1 locs1 X → W p l e R s m args below meth c H1 locs1 cells slots Q (F0 m (pc + 3) ls rest)) : W p l e R s m args below meth c H locs cells slots Q (F0 m pc ls st0) :=
  va_callv (va_runS (As := As) (rest := rest) F (hM H.size) (kS_w k F.2.2.2.2 hr0.1 hr0.2 hR) ⟨sPre_blind, sInv_pre I⟩ rfl hn hls hst (lv_room hW) d hcs) I.2.2.2.1 (fun q _ h => sInv_free I q h) (sInv_free I) (fun u t H1 locs1 ht hvm hw hB _ _ hS => by
    obtain rfl : u = X := hw
    exact kk H1 locs1 (sInv_back I ht hvm hB hS))
theorem s_callVNi {X : Int32 × Sg} (F : CallFix p m c cc nL s args gG own) (I : sInv D tys Wd A s H locs σ) (hM : sMi D tys Wd l y (ws1 y bytes maxL ret) rm (.ref b :: As) σ X) (k : kVN own idx y host bytes maxL ret n) (hr0 : rm.cells = 0 ∧ rm.slots = 0) (hR : rm.frames + 1 ≤ R.frames ∧ 8 + (maxL + 11) + rm.locals ≤ R.locals) (pos ci : Nat) {q : vw_C} {fs : List Value} (hc : vwCl[ci]? = some q) (hq : q.1 = y.cls) (he : (Wd σ)[pos]? = some (b, .inr (ci, fs))) (hn : As.length = n) (hst : st0 = As.reverse ++ .ref b :: rest) (hls : ls.size = nL) (hW : (rest.map fun v => v.category).sum ≤ 8) (hcs : cells ≤ R.cells ∧ slots ≤ R.slots) (d : decode cc pc = .ok (.invokevirtual idx, 3))
    (kk : ∀ (H1 : Heap) (locs1 : List Loc), sInv D tys Wd A s H1 locs1 X.2 → W p l e R s m args below meth c H1 locs1 cells slots Q (F0 m (pc + 3) ls (.int X.1 :: rest))) : W p l e R s m args below meth c H locs cells slots Q (F0 m pc ls st0) :=
  va_calli (va_runVN (As := As) (rest := rest) F (hM H.size) (kVN_w k I.2.2.2.2.2 F.2.2.2.2 hr0.1 hr0.2 hR) ⟨sPre_blind, hq ▸ va_recv I.1 I.2.1 hc he, sInv_pre I⟩ rfl hn hls hst (lv_room hW) d hcs) I.2.2.2.1 (fun q _ h => sInv_free I q h) (sInv_free I) (fun r u t H1 locs1 ht hvm hw hB _ _ hS => by
    obtain rfl : r = X.1 := congrArg Prod.fst hw
    obtain rfl : u = X.2 := congrArg Prod.snd hw
    exact kk H1 locs1 (sInv_back I ht hvm hB hS))
theorem s_callVNl {X : Int64 × Sg} (F : CallFix p m c cc nL s args gG own) (I : sInv D tys Wd A s H locs σ) (hM : sMl D tys Wd l y (ws1 y bytes maxL ret) rm (.ref b :: As) σ X) (k : kVN own idx y host bytes maxL ret n) (hr0 : rm.cells = 0 ∧ rm.slots = 0) (hR : rm.frames + 1 ≤ R.frames ∧ 8 + (maxL + 11) + rm.locals ≤ R.locals) (pos ci : Nat) {q : vw_C} {fs : List Value} (hc : vwCl[ci]? = some q) (hq : q.1 = y.cls) (he : (Wd σ)[pos]? = some (b, .inr (ci, fs))) (hn : As.length = n) (hst : st0 = As.reverse ++ .ref b :: rest) (hls : ls.size = nL) (hW : (rest.map fun v => v.category).sum ≤ 8) (hcs : cells ≤ R.cells ∧ slots ≤ R.slots) (d : decode cc pc = .ok (.invokevirtual idx, 3))
    (kk : ∀ (H1 : Heap) (locs1 : List Loc), sInv D tys Wd A s H1 locs1 X.2 → W p l e R s m args below meth c H1 locs1 cells slots Q (F0 m (pc + 3) ls (.long X.1 :: rest))) : W p l e R s m args below meth c H locs cells slots Q (F0 m pc ls st0) :=
  va_calll (va_runVN (As := As) (rest := rest) F (hM H.size) (kVN_w k I.2.2.2.2.2 F.2.2.2.2 hr0.1 hr0.2 hR) ⟨sPre_blind, hq ▸ va_recv I.1 I.2.1 hc he, sInv_pre I⟩ rfl hn hls hst (lv_room hW) d hcs) I.2.2.2.1 (fun q _ h => sInv_free I q h) (sInv_free I) (fun r u t H1 locs1 ht hvm hw hB _ _ hS => by
    obtain rfl : r = X.1 := congrArg Prod.fst hw
    obtain rfl : u = X.2 := congrArg Prod.snd hw
    exact kk H1 locs1 (sInv_back I ht hvm hB hS))
theorem s_callVNv {X : Sg} (F : CallFix p m c cc nL s args gG own) (I : sInv D tys Wd A s H locs σ) (hM : sMv D tys Wd l y (ws1 y bytes maxL ret) rm (.ref b :: As) σ X) (k : kVN own idx y host bytes maxL ret n) (hr0 : rm.cells = 0 ∧ rm.slots = 0) (hR : rm.frames + 1 ≤ R.frames ∧ 8 + (maxL + 11) + rm.locals ≤ R.locals) (pos ci : Nat) {q : vw_C} {fs : List Value} (hc : vwCl[ci]? = some q) (hq : q.1 = y.cls) (he : (Wd σ)[pos]? = some (b, .inr (ci, fs))) (hn : As.length = n) (hst : st0 = As.reverse ++ .ref b :: rest) (hls : ls.size = nL) (hW : (rest.map fun v => v.category).sum ≤ 8) (hcs : cells ≤ R.cells ∧ slots ≤ R.slots) (d : decode cc pc = .ok (.invokevirtual idx, 3))
    (kk : ∀ (H1 : Heap) (locs1 : List Loc), sInv D tys Wd A s H1 locs1 X → W p l e R s m args below meth c H1 locs1 cells slots Q (F0 m (pc + 3) ls rest)) : W p l e R s m args below meth c H locs cells slots Q (F0 m pc ls st0) :=
  va_callv (va_runVN (As := As) (rest := rest) F (hM H.size) (kVN_w k I.2.2.2.2.2 F.2.2.2.2 hr0.1 hr0.2 hR) ⟨sPre_blind, hq ▸ va_recv I.1 I.2.1 hc he, sInv_pre I⟩ rfl hn hls hst (lv_room hW) d hcs) I.2.2.2.1 (fun q _ h => sInv_free I q h) (sInv_free I) (fun u t H1 locs1 ht hvm hw hB _ _ hS => by
    obtain rfl : u = X := hw
    exact kk H1 locs1 (sInv_back I ht hvm hB hS))
theorem s_callSNi {X : Int32 × Sg} (F : CallFix p m c cc nL s args gG own) (I : sInv D tys Wd A s H locs σ) (hM : sMi D tys Wd l y (ws1 y bytes maxL ret) rm As σ X) (k : kSN own idx y host bytes maxL ret n) (hr0 : rm.cells = 0 ∧ rm.slots = 0) (hR : rm.frames + 1 ≤ R.frames ∧ 8 + (maxL + 11) + rm.locals ≤ R.locals) (hn : As.length = n) (hst : st0 = As.reverse ++ rest) (hls : ls.size = nL) (hW : (rest.map fun v => v.category).sum ≤ 8) (hcs : cells ≤ R.cells ∧ slots ≤ R.slots) (d : decode cc pc = .ok (.invokestatic idx, 3))
    (kk : ∀ (H1 : Heap) (locs1 : List Loc), sInv D tys Wd A s H1 locs1 X.2 → W p l e R s m args below meth c H1 locs1 cells slots Q (F0 m (pc + 3) ls (.int X.1 :: rest))) : W p l e R s m args below meth c H locs cells slots Q (F0 m pc ls st0) :=
  va_calli (va_runSN (As := As) (rest := rest) F (hM H.size) (kSN_w k I.2.2.2.2.2 F.2.2.2.2 hr0.1 hr0.2 hR) ⟨sPre_blind, sInv_pre I⟩ rfl hn hls hst (lv_room hW) d hcs) I.2.2.2.1 (fun q _ h => sInv_free I q h) (sInv_free I) (fun r u t H1 locs1 ht hvm hw hB _ _ hS => by
    obtain rfl : r = X.1 := congrArg Prod.fst hw
    obtain rfl : u = X.2 := congrArg Prod.snd hw
    exact kk H1 locs1 (sInv_back I ht hvm hB hS))
theorem s_callSNl {X : Int64 × Sg} (F : CallFix p m c cc nL s args gG own) (I : sInv D tys Wd A s H locs σ) (hM : sMl D tys Wd l y (ws1 y bytes maxL ret) rm As σ X) (k : kSN own idx y host bytes maxL ret n) (hr0 : rm.cells = 0 ∧ rm.slots = 0) (hR : rm.frames + 1 ≤ R.frames ∧ 8 + (maxL + 11) + rm.locals ≤ R.locals) (hn : As.length = n) (hst : st0 = As.reverse ++ rest) (hls : ls.size = nL) (hW : (rest.map fun v => v.category).sum ≤ 8) (hcs : cells ≤ R.cells ∧ slots ≤ R.slots) (d : decode cc pc = .ok (.invokestatic idx, 3))
    (kk : ∀ (H1 : Heap) (locs1 : List Loc), sInv D tys Wd A s H1 locs1 X.2 → W p l e R s m args below meth c H1 locs1 cells slots Q (F0 m (pc + 3) ls (.long X.1 :: rest))) : W p l e R s m args below meth c H locs cells slots Q (F0 m pc ls st0) :=
  va_calll (va_runSN (As := As) (rest := rest) F (hM H.size) (kSN_w k I.2.2.2.2.2 F.2.2.2.2 hr0.1 hr0.2 hR) ⟨sPre_blind, sInv_pre I⟩ rfl hn hls hst (lv_room hW) d hcs) I.2.2.2.1 (fun q _ h => sInv_free I q h) (sInv_free I) (fun r u t H1 locs1 ht hvm hw hB _ _ hS => by
    obtain rfl : r = X.1 := congrArg Prod.fst hw
    obtain rfl : u = X.2 := congrArg Prod.snd hw
    exact kk H1 locs1 (sInv_back I ht hvm hB hS))
theorem s_callSNv {X : Sg} (F : CallFix p m c cc nL s args gG own) (I : sInv D tys Wd A s H locs σ) (hM : sMv D tys Wd l y (ws1 y bytes maxL ret) rm As σ X) (k : kSN own idx y host bytes maxL ret n) (hr0 : rm.cells = 0 ∧ rm.slots = 0) (hR : rm.frames + 1 ≤ R.frames ∧ 8 + (maxL + 11) + rm.locals ≤ R.locals) (hn : As.length = n) (hst : st0 = As.reverse ++ rest) (hls : ls.size = nL) (hW : (rest.map fun v => v.category).sum ≤ 8) (hcs : cells ≤ R.cells ∧ slots ≤ R.slots) (d : decode cc pc = .ok (.invokestatic idx, 3))
    (kk : ∀ (H1 : Heap) (locs1 : List Loc), sInv D tys Wd A s H1 locs1 X → W p l e R s m args below meth c H1 locs1 cells slots Q (F0 m (pc + 3) ls rest)) : W p l e R s m args below meth c H locs cells slots Q (F0 m pc ls st0) :=
  va_callv (va_runSN (As := As) (rest := rest) F (hM H.size) (kSN_w k I.2.2.2.2.2 F.2.2.2.2 hr0.1 hr0.2 hR) ⟨sPre_blind, sInv_pre I⟩ rfl hn hls hst (lv_room hW) d hcs) I.2.2.2.1 (fun q _ h => sInv_free I q h) (sInv_free I) (fun u t H1 locs1 ht hvm hw hB _ _ hS => by
    obtain rfl : u = X := hw
    exact kk H1 locs1 (sInv_back I ht hvm hB hS))
end Con
