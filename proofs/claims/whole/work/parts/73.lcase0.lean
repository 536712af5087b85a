/-! THE LAW: its world, its loop's invariant, what a case owes -/
def lW (ac am : Nat → Nat) (aO aD : Nat) (cI cJ cD cS : ClassId) (u : CSt × MSt × (Nat → Int64) × (Nat → UInt64)) : va_W := (aO, .inl (cJ, 1, .inr (.inl u.2.2.1))) :: (aD, .inl (cD, 1, .inr (.inr (.inr (.inl u.2.2.2))))) :: (mW am cI cJ cD u.2.1 ++ cW ac cI cJ cD cS u.1)
def lR (u : CSt × MSt × (Nat → Int64) × (Nat → UInt64)) : Prop := RR u.1.1 u.1.2.2.2.1 u.2.1.1 ∧ PZ u.1.2.2.2.1 u.1.2.2.2.2
theorem pm_1 (x y : Nat × va_E) (a b : va_W) : (x :: y :: (a ++ b)).Perm ((y :: a) ++ ([x] ++ b)) := (List.perm_middle (l₁ := y :: a) (a := x) (l₂ := b)).symm
theorem pm_2 (x y : Nat × va_E) (a b : va_W) : (x :: y :: (a ++ b)).Perm ((x :: a) ++ ([y] ++ b)) := List.Perm.cons x (List.perm_middle (l₁ := a) (a := y) (l₂ := b)).symm
theorem pm_3 (x y : Nat × va_E) (a b : va_W) : (x :: y :: (a ++ b)).Perm ((x :: y :: b) ++ a) := List.Perm.cons x (List.Perm.cons y List.perm_append_comm)
theorem lp_J {ac am : Nat → Nat} {aO aD : Nat} {cI cJ cD cS : ClassId} {σ : CSt} {τ : MSt} {o : Nat → Int64} {od : Nat → UInt64} : (lW ac am aO aD cI cJ cD cS (σ, τ, o, od)).Perm (fW ((aD, .inl (cD, 1, .inr (.inr (.inr (.inl od))))) :: mW am cI cJ cD τ) (wJ ac aO cI cJ cD cS) (σ, o)) := pm_1 _ _ _ _
theorem lp_D {ac am : Nat → Nat} {aO aD : Nat} {cI cJ cD cS : ClassId} {σ : CSt} {τ : MSt} {o : Nat → Int64} {od : Nat → UInt64} : (lW ac am aO aD cI cJ cD cS (σ, τ, o, od)).Perm (fW ((aO, .inl (cJ, 1, .inr (.inl o))) :: mW am cI cJ cD τ) (wD ac aD cI cJ cD cS) (σ, od)) := pm_2 _ _ _ _
theorem lp_M {ac am : Nat → Nat} {aO aD : Nat} {cI cJ cD cS : ClassId} {σ : CSt} {τ : MSt} {o : Nat → Int64} {od : Nat → UInt64} : (lW ac am aO aD cI cJ cD cS (σ, τ, o, od)).Perm (fW ((aO, .inl (cJ, 1, .inr (.inl o))) :: (aD, .inl (cD, 1, .inr (.inr (.inr (.inl od))))) :: cW ac cI cJ cD cS σ) (mW am cI cJ cD) τ) := pm_3 _ _ _ _
theorem t_nz {T : List (String × Int32)} {ex : String} {k : Int32} (h : (ex, k) ∈ T) (hT : ∀ q ∈ T, q.2 ≠ 0) : k ≠ 0 := hT _ h
theorem pz_up {P : Nat → Option PRec} {Z : List PRec} {x : Int32} {n : Nat} {f : Nat → Int32} (h : PZ P Z) (q a : Nat) : PZ (va_up P 0 (some (q, a, x, n, f))) (Z ++ [(q, a, x, n, f)]) := by
  intro k z hz
  by_cases hk : k = 0
  · subst hk
    rw [show va_up P 0 (some (q, a, x, n, f)) 0 = some (q, a, x, n, f) by simp [va_up]] at hz
    cases hz
    exact List.mem_append_right _ List.mem_cons_self
  · rw [va_up_ne P _ hk] at hz
    exact List.mem_append_left _ (h k z hz)
theorem cs_RR {u : CSt} {G : Nat → Nat → Int32} {E : Nat → Nat → Int64} {Dd : Nat → Nat → UInt64} {P : Nat → Option PRec} {Z : List PRec} {h : Nat → Nat → Int32} (hu : cSm u (G, E, Dd, P, Z)) (H : RR G P h) : RR u.1 u.2.2.2.1 h := by
  obtain ⟨g, e, d, q, z⟩ := u
  obtain ⟨h1, h2, h3, h4⟩ := hu
  obtain rfl : G = g := h1
  obtain rfl : P = q := congrArg Prod.fst h4
  exact H
theorem cs_PZ {u : CSt} {G : Nat → Nat → Int32} {E : Nat → Nat → Int64} {Dd : Nat → Nat → UInt64} {P : Nat → Option PRec} {Z : List PRec} (hu : cSm u (G, E, Dd, P, Z)) (H : PZ P Z) : PZ u.2.2.2.1 u.2.2.2.2 := by
  obtain ⟨g, e, d, q, z⟩ := u
  obtain ⟨h1, h2, h3, h4⟩ := hu
  obtain rfl : P = q := congrArg Prod.fst h4
  obtain rfl : Z = z := congrArg Prod.snd h4
  exact H
theorem l_cmp {x y : Int64} (h : x = y) : lg_cmp x y = 0 := by
  subst h
  unfold lg_cmp
  rw [if_neg (Int64.lt_irrefl), if_pos rfl]
theorem l_in {x5 : Int32} {i j L : Nat} (hx5 : x5 = nI i) (h : i + j < L) (hL : L ≤ 2560) : vp_in (x5 + nI j) L := by
  rw [hx5, nI_add]
  exact vp_in_nI h (by omega)
section LawB
variable {D : va_G} {l : Launch} {cI cJ cD cS : ClassId} {ac am : Nat → Nat} {aO aD b L : Nat} {xs : Nat → Int32}
variable {p : Program} {e : Env} {R : Room} {s : State} {m : MethodId} {args : Array Value} {below : List Frame} {meth : Method} {c : Code} {H : Heap} {locs : List Loc} {cells slots : Nat} {Q : State → Prop}
variable {A : Nat → Prop} {ls : Array Slot} {d0 : Drawn} {u : CSt × MSt × (Nat → Int64) × (Nat → UInt64)}
theorem l_sld {tys : List (ClassId × FieldType)} {Sg : Type} {Wd : Sg → va_W} {σ : Sg} {cc : ByteArray} {pc : Nat} {rest : List Value} (hx : p.tables.exec = Jvm.exec) (hb : c.code = cc) (hX : va_X b L xs s s.heap) (hbl : b < s.heap.size) (hbA : ¬ A b) (I : sInv D tys Wd A s H locs σ) {i : Int32} (hin : vp_in i L) (hdg : decode cc pc = .ok (.iaload, 1))
    (kk : W p l e R (s.setDrawn d0) m args below meth c H locs cells slots Q (F0 m (pc + 1) ls (.int (xs i.toNatClampNeg) :: rest))) : W p l e R (s.setDrawn d0) m args below meth c H locs cells slots Q (F0 m pc ls (.int i :: .ref b :: rest)) :=
  va_sld hx hb (va_X.moved (u := s) (U := s.setDrawn d0) (Vm.Alike.refl s.vm) hX) hbl hbA I.2.2.2.1 hin hdg kk
/-- what holds all along the law: the code, the script, what a throw needs -/
def lCx (p : Program) (l : Launch) (m : MethodId) (c : Code) (s : State) (args : Array Value) (A : Nat → Prop) (b L : Nat) (xs : Nat → Int32) : Prop := CallFix p m c cL_law 9 s args gG RL ∧ va_X b L xs s s.heap ∧ b < s.heap.size ∧ ¬ A b ∧ yOK A s s.heap ∧ l.stackTraces = false
/-- how the law goes on behind a case -/
def lK (p : Program) (l : Launch) (e : Env) (R : Room) (s : State) (m : MethodId) (args : Array Value) (below : List Frame) (meth : Method) (c : Code) (D : va_G) (A : Nat → Prop) (cells slots : Nat) (Q : State → Prop) (ac am : Nat → Nat) (aO aD : Nat) (cI cJ cD cS : ClassId) (b : Nat) (x5 : Int32) : Prop := ∀ (H1 : Heap) (locs1 : List Loc) (d1 : Drawn) (u1 : CSt × MSt × (Nat → Int64) × (Nat → UInt64)) (ls1 : Array Slot), s.drawn.sameBut d1 lw_cs → sInv D (cT cI cJ cD cS) (lW ac am aO aD cI cJ cD cS) A s H1 locs1 u1 → lR u1 → lv_has ls1 9 [(0, .ref b), (1, .ref (ac 0)), (2, .ref (am 0)), (3, .ref aO), (4, .ref aD), (5, .int x5)] → W p l e R (s.setDrawn d1) m args below meth c H1 locs1 (cells + 2) (slots + 58) Q (F0 m 1861 ls1 [])
end LawB
theorem q_begin {G h : Nat → Nat → Int32} {P : Nat → Option PRec} {Z : List PRec} (E Em : Nat → Nat → Int64) (Dd Dm : Nat → Nat → UInt64) (o : Nat → Int64) (H : RR G P h) (hZ : PZ P Z) (a0 : Int32) (a1 : Int32) (Ψ : Int32 → CSt × (Nat → Int64) → Prop) (eΨ : Ψ = (fun (k : Int32) (u : CSt × (Nat → Int64)) => ∃ r h2, M_begin h a0 a1 = some (r, h2) ∧ h2 0 0 = k ∧ (k = 0 → u.2 0 = r.toInt64) ∧ RR u.1.1 u.1.2.2.2.1 h2 ∧ PZ u.1.2.2.2.1 u.1.2.2.2.2)) : (∃ rv newG newP, C_LT_begin G P a0 a1 = some (rv, newG, newP) ∧ Ψ 0 ((newG, E, Dd, newP, Z), vp_updL o 0 rv.toInt64)) ∨ (∃ ex newG newE k, X_LT_begin G E P a0 a1 = some (ex, newG, newE) ∧ (ex, k) ∈ [(iae, 1)] ∧ Ψ k ((newG, newE, Dd, P, Z), o)) := by
  subst eΨ
  rcases p_begin H E a0 a1 with ⟨r, G2, P2, h2, cf, mf, h0, hR, hP⟩ | ⟨ex, G2, E2, h2, k, hX, ⟨r, mf⟩, h0, hR, hT⟩
  · exact Or.inl ⟨r, G2, P2, cf, r, h2, mf, h0, fun _ => rfl, hR, hP Z hZ⟩
  · exact Or.inr ⟨ex, G2, E2, k, hX, hT, r, h2, mf, h0, fun hk => absurd hk (t_nz hT (by decide)), hR, hZ⟩
theorem q_setWeight {G h : Nat → Nat → Int32} {P : Nat → Option PRec} {Z : List PRec} (E Em : Nat → Nat → Int64) (Dd Dm : Nat → Nat → UInt64) (o : Nat → Int64) (H : RR G P h) (hZ : PZ P Z) (a0 : Int32) (a1 : Int32) (Ψ : Int32 → CSt × (Nat → Int64) → Prop) (eΨ : Ψ = (fun (k : Int32) (u : CSt × (Nat → Int64)) => ∃ r h2, M_setWeight h a0 a1 = some (r, h2) ∧ h2 0 0 = k ∧ (k = 0 → u.2 0 = r.toInt64) ∧ RR u.1.1 u.1.2.2.2.1 h2 ∧ PZ u.1.2.2.2.1 u.1.2.2.2.2)) : (∃ rv newG, C_LT_setWeight G a0 a1 = some (rv, newG) ∧ Ψ 0 ((newG, E, Dd, P, Z), vp_updL o 0 rv.toInt64)) ∨ (∃ ex newG newE k, X_LT_setWeight G E a0 a1 = some (ex, newG, newE) ∧ (ex, k) ∈ [(iob, 1), (iae, 2)] ∧ Ψ k ((newG, newE, Dd, P, Z), o)) := by
  subst eΨ
  rcases p_setWeight H E a0 a1 with ⟨r, G2, P2, h2, ⟨cf, rfl⟩, mf, h0, hR, hP⟩ | ⟨ex, G2, E2, h2, k, hX, ⟨r, mf⟩, h0, hR, hT⟩
  · exact Or.inl ⟨r, G2, cf, r, h2, mf, h0, fun _ => rfl, hR, hP Z hZ⟩
  · exact Or.inr ⟨ex, G2, E2, k, hX, hT, r, h2, mf, h0, fun hk => absurd hk (t_nz hT (by decide)), hR, hZ⟩
theorem q_plan {G h : Nat → Nat → Int32} {P : Nat → Option PRec} {Z : List PRec} (E Em : Nat → Nat → Int64) (Dd Dm : Nat → Nat → UInt64) (o : Nat → Int64) (H : RR G P h) (hZ : PZ P Z) (a0 : Int32) (a1 : Int32) (a2 : Int32) (Ψ : Int32 → CSt × (Nat → Int64) → Prop) (eΨ : Ψ = (fun (k : Int32) (u : CSt × (Nat → Int64)) => ∃ r h2 Em2, M_plan h Em a0 a1 a2 = some (r, h2, Em2) ∧ h2 0 0 = k ∧ (k = 0 → u.2 0 = r.toInt64) ∧ RR u.1.1 u.1.2.2.2.1 h2 ∧ PZ u.1.2.2.2.1 u.1.2.2.2.2)) : (∃ rv newG n G3, C_LT_plan G a0 a1 a2 = some (rv, newG, n, G3) ∧ ∀ q a : Nat, Ψ 0 ((newG, E, Dd, va_up P 0 (some (q, a, G3 0 0, n, G3 1)), Z ++ [(q, a, G3 0 0, n, G3 1)]), vp_updL o 0 rv.toInt64)) ∨ (∃ ex newG newE k, X_LT_plan G E P a0 a1 a2 = some (ex, newG, newE) ∧ (ex, k) ∈ [(iob, 1), (iae, 2)] ∧ Ψ k ((newG, newE, Dd, P, Z), o)) := by
  subst eΨ
  rcases p_plan H Em E a0 a1 a2 with ⟨r, G2, N, G3, h2, E2, cf, mf, h0, hR⟩ | ⟨ex, G2, E2, h2, k, hX, ⟨r, E3, mf⟩, h0, hR, hT⟩
  · exact Or.inl ⟨r, G2, N, G3, cf, fun q a => ⟨r, h2, E2, mf, h0, fun _ => rfl, hR q a, pz_up hZ q a⟩⟩
  · exact Or.inr ⟨ex, G2, E2, k, hX, hT, r, h2, E3, mf, h0, fun hk => absurd hk (t_nz hT (by decide)), hR, hZ⟩
theorem q_trial {G h : Nat → Nat → Int32} {P : Nat → Option PRec} {Z : List PRec} (E Em : Nat → Nat → Int64) (Dd Dm : Nat → Nat → UInt64) (o : Nat → Int64) (H : RR G P h) (hZ : PZ P Z) (a0 : Int32) (a1 : Int32) (Ψ : Int32 → CSt × (Nat → Int64) → Prop) (eΨ : Ψ = (fun (k : Int32) (u : CSt × (Nat → Int64)) => ∃ r h2, M_trial h a0 a1 = some (r, h2) ∧ h2 0 0 = k ∧ (k = 0 → u.2 0 = r.toInt64) ∧ RR u.1.1 u.1.2.2.2.1 h2 ∧ PZ u.1.2.2.2.1 u.1.2.2.2.2)) : (∃ rv, C_LT_trial G P a0 a1 = some rv ∧ Ψ 0 ((G, E, Dd, P, Z), vp_updL o 0 rv.toInt64)) ∨ (∃ ex newG newE k, X_LT_trial G E P a0 a1 = some (ex, newG, newE) ∧ (ex, k) ∈ [(ise, 1), (iob, 2)] ∧ Ψ k ((newG, newE, Dd, P, Z), o)) := by
  subst eΨ
  rcases p_trial H E a0 a1 with ⟨r, G2, P2, h2, ⟨cf, rfl, rfl⟩, mf, h0, hR, hP⟩ | ⟨ex, G2, E2, h2, k, hX, ⟨r, mf⟩, h0, hR, hT⟩
  · exact Or.inl ⟨r, cf, r, h2, mf, h0, fun _ => rfl, hR, hP Z hZ⟩
  · exact Or.inr ⟨ex, G2, E2, k, hX, hT, r, h2, mf, h0, fun hk => absurd hk (t_nz hT (by decide)), hR, hZ⟩
theorem q_answer {G h : Nat → Nat → Int32} {P : Nat → Option PRec} {Z : List PRec} (E Em : Nat → Nat → Int64) (Dd Dm : Nat → Nat → UInt64) (o : Nat → Int64) (H : RR G P h) (hZ : PZ P Z) (a0 : Int32) (Ψ : Int32 → CSt × (Nat → Int64) → Prop) (eΨ : Ψ = (fun (k : Int32) (u : CSt × (Nat → Int64)) => ∃ r h2, M_answer h a0 = some (r, h2) ∧ h2 0 0 = k ∧ (k = 0 → u.2 0 = r.toInt64) ∧ RR u.1.1 u.1.2.2.2.1 h2 ∧ PZ u.1.2.2.2.1 u.1.2.2.2.2)) : (∃ rv newG newP, C_LT_answer G P a0 = some (rv, newG, newP) ∧ Ψ 0 ((newG, E, Dd, newP, Z), vp_updL o 0 rv.toInt64)) ∨ (∃ ex newG newE k, X_LT_answer G E P a0 = some (ex, newG, newE) ∧ (ex, k) ∈ [(ise, 1), (iae, 2)] ∧ Ψ k ((newG, newE, Dd, P, Z), o)) := by
  subst eΨ
  rcases p_answer H E a0 with ⟨r, G2, P2, h2, cf, mf, h0, hR, hP⟩ | ⟨ex, G2, E2, h2, k, hX, ⟨r, mf⟩, h0, hR, hT⟩
  · exact Or.inl ⟨r, G2, P2, cf, r, h2, mf, h0, fun _ => rfl, hR, hP Z hZ⟩
  · exact Or.inr ⟨ex, G2, E2, k, hX, hT, r, h2, mf, h0, fun hk => absurd hk (t_nz hT (by decide)), hR, hZ⟩
theorem q_compare {G h : Nat → Nat → Int32} {P : Nat → Option PRec} {Z : List PRec} (E Em : Nat → Nat → Int64) (Dd Dm : Nat → Nat → UInt64) (o : Nat → Int64) (H : RR G P h) (hZ : PZ P Z) (a0 : Int32) (a1 : Int32) (a2 : Int32) (a3 : Int32) (Ψ : Int32 → CSt × (Nat → Int64) → Prop) (eΨ : Ψ = (fun (k : Int32) (u : CSt × (Nat → Int64)) => ∃ r h2, M_compare h a0 a1 a2 a3 = some (r, h2) ∧ h2 0 0 = k ∧ (k = 0 → u.2 0 = r.toInt64) ∧ RR u.1.1 u.1.2.2.2.1 h2 ∧ PZ u.1.2.2.2.1 u.1.2.2.2.2)) : (∃ rv newG newP, C_LT_compare G P a0 a1 a2 a3 = some (rv, newG, newP) ∧ Ψ 0 ((newG, E, Dd, newP, Z), vp_updL o 0 rv.toInt64)) ∨ (∃ ex newG newE k, X_LT_compare G E P a0 a1 a2 a3 = some (ex, newG, newE) ∧ (ex, k) ∈ [(iob, 1), (iae, 2), (ise, 3)] ∧ Ψ k ((newG, newE, Dd, P, Z), o)) := by
  subst eΨ
  rcases p_compare H E a0 a1 a2 a3 with ⟨r, G2, P2, h2, cf, mf, h0, hR, hP⟩ | ⟨ex, G2, E2, h2, k, hX, ⟨r, mf⟩, h0, hR, hT⟩
  · exact Or.inl ⟨r, G2, P2, cf, r, h2, mf, h0, fun _ => rfl, hR, hP Z hZ⟩
  · exact Or.inr ⟨ex, G2, E2, k, hX, hT, r, h2, mf, h0, fun hk => absurd hk (t_nz hT (by decide)), hR, hZ⟩
theorem q_remove {G h : Nat → Nat → Int32} {P : Nat → Option PRec} {Z : List PRec} (E Em : Nat → Nat → Int64) (Dd Dm : Nat → Nat → UInt64) (o : Nat → Int64) (H : RR G P h) (hZ : PZ P Z) (a0 : Int32) (Ψ : Int32 → CSt × (Nat → Int64) → Prop) (eΨ : Ψ = (fun (k : Int32) (u : CSt × (Nat → Int64)) => ∃ r h2, M_remove h a0 = some (r, h2) ∧ h2 0 0 = k ∧ (k = 0 → u.2 0 = r.toInt64) ∧ RR u.1.1 u.1.2.2.2.1 h2 ∧ PZ u.1.2.2.2.1 u.1.2.2.2.2)) : (∃ rv newG newP, C_LT_remove G P a0 = some (rv, newG, newP) ∧ Ψ 0 ((newG, E, Dd, newP, Z), vp_updL o 0 rv.toInt64)) ∨ (∃ ex newG newE k, X_LT_remove G E P a0 = some (ex, newG, newE) ∧ (ex, k) ∈ [(iob, 1)] ∧ Ψ k ((newG, newE, Dd, P, Z), o)) := by
  subst eΨ
  rcases p_remove H E a0 with ⟨r, G2, P2, h2, cf, mf, h0, hR, hP⟩ | ⟨ex, G2, E2, h2, k, hX, ⟨r, mf⟩, h0, hR, hT⟩
  · exact Or.inl ⟨r, G2, P2, cf, r, h2, mf, h0, fun _ => rfl, hR, hP Z hZ⟩
  · exact Or.inr ⟨ex, G2, E2, k, hX, hT, r, h2, mf, h0, fun hk => absurd hk (t_nz hT (by decide)), hR, hZ⟩
theorem q_undo {G h : Nat → Nat → Int32} {P : Nat → Option PRec} {Z : List PRec} (E Em : Nat → Nat → Int64) (Dd Dm : Nat → Nat → UInt64) (o : Nat → Int64) (H : RR G P h) (hZ : PZ P Z) (Ψ : Int32 → CSt × (Nat → Int64) → Prop) (eΨ : Ψ = (fun (k : Int32) (u : CSt × (Nat → Int64)) => ∃ r h2, M_undo h = some (r, h2) ∧ h2 0 0 = k ∧ (k = 0 → u.2 0 = r.toInt64) ∧ RR u.1.1 u.1.2.2.2.1 h2 ∧ PZ u.1.2.2.2.1 u.1.2.2.2.2)) : (∃ rv newG newP, C_LT_undo G P = some (rv, newG, newP) ∧ Ψ 0 ((newG, E, Dd, newP, Z), vp_updL o 0 rv.toInt64)) ∨ (∃ ex newG newE k, X_LT_undo G E P = some (ex, newG, newE) ∧ (ex, k) ∈ [(ise, 1)] ∧ Ψ k ((newG, newE, Dd, P, Z), o)) := by
  subst eΨ
  rcases p_undo H E with ⟨r, G2, P2, h2, cf, mf, h0, hR, hP⟩ | ⟨ex, G2, E2, h2, k, hX, ⟨r, mf⟩, h0, hR, hT⟩
  · exact Or.inl ⟨r, G2, P2, cf, r, h2, mf, h0, fun _ => rfl, hR, hP Z hZ⟩
  · exact Or.inr ⟨ex, G2, E2, k, hX, hT, r, h2, mf, h0, fun hk => absurd hk (t_nz hT (by decide)), hR, hZ⟩
theorem q_append {G h : Nat → Nat → Int32} {P : Nat → Option PRec} {Z : List PRec} (E Em : Nat → Nat → Int64) (Dd Dm : Nat → Nat → UInt64) (o : Nat → Int64) (H : RR G P h) (hZ : PZ P Z) (a0 : Int32) (Ψ : Int32 → CSt × (Nat → Int64) → Prop) (eΨ : Ψ = (fun (k : Int32) (u : CSt × (Nat → Int64)) => ∃ r h2, M_append h a0 = some (r, h2) ∧ h2 0 0 = k ∧ (k = 0 → u.2 0 = r.toInt64) ∧ RR u.1.1 u.1.2.2.2.1 h2 ∧ PZ u.1.2.2.2.1 u.1.2.2.2.2)) : (∃ rv newG, C_LT_append G a0 = some (rv, newG) ∧ Ψ 0 ((newG, E, Dd, P, Z), vp_updL o 0 rv.toInt64)) ∨ (∃ ex newG newE k, X_LT_append G E a0 = some (ex, newG, newE) ∧ (ex, k) ∈ [(iae, 1), (ise, 2)] ∧ Ψ k ((newG, newE, Dd, P, Z), o)) := by
  subst eΨ
  rcases p_append H E a0 with ⟨r, G2, P2, h2, ⟨cf, rfl⟩, mf, h0, hR, hP⟩ | ⟨ex, G2, E2, h2, k, hX, ⟨r, mf⟩, h0, hR, hT⟩
  · exact Or.inl ⟨r, G2, cf, r, h2, mf, h0, fun _ => rfl, hR, hP Z hZ⟩
  · exact Or.inr ⟨ex, G2, E2, k, hX, hT, r, h2, mf, h0, fun hk => absurd hk (t_nz hT (by decide)), hR, hZ⟩
theorem q_load {G h : Nat → Nat → Int32} {P : Nat → Option PRec} {Z : List PRec} (E Em : Nat → Nat → Int64) (Dd Dm : Nat → Nat → UInt64) (o : Nat → Int64) (H : RR G P h) (hZ : PZ P Z) (Ψ : Int32 → CSt × (Nat → Int64) → Prop) (eΨ : Ψ = (fun (k : Int32) (u : CSt × (Nat → Int64)) => ∃ r h2, M_load h = some (r, h2) ∧ h2 0 0 = k ∧ (k = 0 → u.2 0 = r.toInt64) ∧ RR u.1.1 u.1.2.2.2.1 h2 ∧ PZ u.1.2.2.2.1 u.1.2.2.2.2)) : (∃ rv newG newP, C_LT_load G P = some (rv, newG, newP) ∧ Ψ 0 ((newG, E, Dd, newP, Z), vp_updL o 0 rv.toInt64)) ∨ (∃ ex newG newE k, X_LT_load G E P = some (ex, newG, newE) ∧ (ex, k) ∈ [(iae, 1), (ise, 2)] ∧ Ψ k ((newG, newE, Dd, P, Z), o)) := by
  subst eΨ
  rcases p_load H E with ⟨r, G2, P2, h2, cf, mf, h0, hR, hP⟩ | ⟨ex, G2, E2, h2, k, hX, ⟨r, mf⟩, h0, hR, hT⟩
  · exact Or.inl ⟨r, G2, P2, cf, r, h2, mf, h0, fun _ => rfl, hR, hP Z hZ⟩
  · exact Or.inr ⟨ex, G2, E2, k, hX, hT, r, h2, mf, h0, fun hk => absurd hk (t_nz hT (by decide)), hR, hZ⟩
theorem q_count {G h : Nat → Nat → Int32} {P : Nat → Option PRec} {Z : List PRec} (E Em : Nat → Nat → Int64) (Dd Dm : Nat → Nat → UInt64) (o : Nat → Int64) (H : RR G P h) (hZ : PZ P Z) (a0 : Int32) (Ψ : Int32 → CSt × (Nat → Int64) → Prop) (eΨ : Ψ = (fun (k : Int32) (u : CSt × (Nat → Int64)) => ∃ r h2, M_count h a0 = some (r, h2) ∧ h2 0 0 = k ∧ (k = 0 → u.2 0 = r.toInt64) ∧ RR u.1.1 u.1.2.2.2.1 h2 ∧ PZ u.1.2.2.2.1 u.1.2.2.2.2)) : (∃ rv, C_LT_count G P a0 = some rv ∧ Ψ 0 ((G, E, Dd, P, Z), vp_updL o 0 rv.toInt64)) ∨ (∃ ex newG newE k, X_LT_count G E P a0 = some (ex, newG, newE) ∧ (ex, k) ∈ [(iae, 1)] ∧ Ψ k ((newG, newE, Dd, P, Z), o)) := by
  subst eΨ
  rcases p_count H E a0 with ⟨r, G2, P2, h2, ⟨cf, rfl, rfl⟩, mf, h0, hR, hP⟩ | ⟨ex, G2, E2, h2, k, hX, ⟨r, mf⟩, h0, hR, hT⟩
  · exact Or.inl ⟨r, cf, r, h2, mf, h0, fun _ => rfl, hR, hP Z hZ⟩
  · exact Or.inr ⟨ex, G2, E2, k, hX, hT, r, h2, mf, h0, fun hk => absurd hk (t_nz hT (by decide)), hR, hZ⟩
theorem q_comparison {G h : Nat → Nat → Int32} {P : Nat → Option PRec} {Z : List PRec} (E Em : Nat → Nat → Int64) (Dd Dm : Nat → Nat → UInt64) (o : Nat → Int64) (H : RR G P h) (hZ : PZ P Z) (a0 : Int32) (a1 : Int32) (Ψ : Int32 → CSt × (Nat → Int64) → Prop) (eΨ : Ψ = (fun (k : Int32) (u : CSt × (Nat → Int64)) => ∃ r h2, M_comparison h a0 a1 = some (r, h2) ∧ h2 0 0 = k ∧ (k = 0 → u.2 0 = r.toInt64) ∧ RR u.1.1 u.1.2.2.2.1 h2 ∧ PZ u.1.2.2.2.1 u.1.2.2.2.2)) : (∃ rv, C_LT_comparison G a0 a1 = some rv ∧ Ψ 0 ((G, E, Dd, P, Z), vp_updL o 0 rv.toInt64)) ∨ (∃ ex newG newE k, X_LT_comparison G E a0 a1 = some (ex, newG, newE) ∧ (ex, k) ∈ [(iob, 1), (iae, 2)] ∧ Ψ k ((newG, newE, Dd, P, Z), o)) := by
  subst eΨ
  rcases p_comparison H E a0 a1 with ⟨r, G2, P2, h2, ⟨cf, rfl, rfl⟩, mf, h0, hR, hP⟩ | ⟨ex, G2, E2, h2, k, hX, ⟨r, mf⟩, h0, hR, hT⟩
  · exact Or.inl ⟨r, cf, r, h2, mf, h0, fun _ => rfl, hR, hP Z hZ⟩
  · exact Or.inr ⟨ex, G2, E2, k, hX, hT, r, h2, mf, h0, fun hk => absurd hk (t_nz hT (by decide)), hR, hZ⟩
theorem q_result {G h : Nat → Nat → Int32} {P : Nat → Option PRec} {Z : List PRec} (E Em : Nat → Nat → Int64) (Dd Dm : Nat → Nat → UInt64) (o : Nat → Int64) (H : RR G P h) (hZ : PZ P Z) (a0 : Int32) (a1 : Int32) (a2 : Int32) (Ψ : Int32 → CSt × (Nat → Int64) → Prop) (eΨ : Ψ = (fun (k : Int32) (u : CSt × (Nat → Int64)) => ∃ r h2, M_result h a0 a1 a2 = some (r, h2) ∧ h2 0 0 = k ∧ (k = 0 → u.2 0 = r.toInt64) ∧ RR u.1.1 u.1.2.2.2.1 h2 ∧ PZ u.1.2.2.2.1 u.1.2.2.2.2)) : (∃ rv newG, C_LT_result G a0 a1 a2 = some (rv, newG) ∧ Ψ 0 ((newG, E, Dd, P, Z), vp_updL o 0 rv.toInt64)) ∨ (∃ ex newG newE k, X_LT_result G E a0 a1 a2 = some (ex, newG, newE) ∧ (ex, k) ∈ [(iob, 1), (iae, 2)] ∧ Ψ k ((newG, newE, Dd, P, Z), o)) := by
  subst eΨ
  rcases p_result H E a0 a1 a2 with ⟨r, G2, P2, h2, ⟨cf, rfl⟩, mf, h0, hR, hP⟩ | ⟨ex, G2, E2, h2, k, hX, ⟨r, mf⟩, h0, hR, hT⟩
  · exact Or.inl ⟨r, G2, cf, r, h2, mf, h0, fun _ => rfl, hR, hP Z hZ⟩
  · exact Or.inr ⟨ex, G2, E2, k, hX, hT, r, h2, mf, h0, fun hk => absurd hk (t_nz hT (by decide)), hR, hZ⟩
theorem q_sample {G h : Nat → Nat → Int32} {P : Nat → Option PRec} {Z : List PRec} (E Em : Nat → Nat → Int64) (Dd Dm : Nat → Nat → UInt64) (o : Nat → Int64) (H : RR G P h) (hZ : PZ P Z) (a0 : Int32) (a1 : Int32) (Ψ : Int32 → CSt × (Nat → Int64) → Prop) (eΨ : Ψ = (fun (k : Int32) (u : CSt × (Nat → Int64)) => ∃ r h2, M_sample h a0 a1 = some (r, h2) ∧ h2 0 0 = k ∧ (k = 0 → u.2 0 = r.toInt64) ∧ RR u.1.1 u.1.2.2.2.1 h2 ∧ PZ u.1.2.2.2.1 u.1.2.2.2.2)) : (∃ rv newG, C_LT_sample G a0 a1 = some (rv, newG) ∧ Ψ 0 ((newG, E, Dd, P, Z), vp_updL o 0 rv.toInt64)) ∨ (∃ ex newG newE k, X_LT_sample G E a0 a1 = some (ex, newG, newE) ∧ (ex, k) ∈ [(iob, 1), (iae, 2)] ∧ Ψ k ((newG, newE, Dd, P, Z), o)) := by
  subst eΨ
  rcases p_sample H E a0 a1 with ⟨r, G2, P2, h2, ⟨cf, rfl⟩, mf, h0, hR, hP⟩ | ⟨ex, G2, E2, h2, k, hX, ⟨r, mf⟩, h0, hR, hT⟩
  · exact Or.inl ⟨r, G2, cf, r, h2, mf, h0, fun _ => rfl, hR, hP Z hZ⟩
  · exact Or.inr ⟨ex, G2, E2, k, hX, hT, r, h2, mf, h0, fun hk => absurd hk (t_nz hT (by decide)), hR, hZ⟩
theorem q_order {G h : Nat → Nat → Int32} {P : Nat → Option PRec} {Z : List PRec} (E Em : Nat → Nat → Int64) (Dd Dm : Nat → Nat → UInt64) (o : Nat → Int64) (H : RR G P h) (hZ : PZ P Z) (a0 : Int32) (Ψ : Int32 → CSt × (Nat → Int64) → Prop) (eΨ : Ψ = (fun (k : Int32) (u : CSt × (Nat → Int64)) => ∃ r h2, M_order h a0 = some (r, h2) ∧ h2 0 0 = k ∧ (k = 0 → u.2 0 = r.toInt64) ∧ RR u.1.1 u.1.2.2.2.1 h2 ∧ PZ u.1.2.2.2.1 u.1.2.2.2.2)) : (∃ rv newG, C_LT_order G a0 = some (rv, newG) ∧ Ψ 0 ((newG, E, Dd, P, Z), vp_updL o 0 rv.toInt64)) ∨ (∃ ex newG newE k, X_LT_order G E a0 = some (ex, newG, newE) ∧ (ex, k) ∈ [(iob, 1)] ∧ Ψ k ((newG, newE, Dd, P, Z), o)) := by
  subst eΨ
  rcases p_order H E a0 with ⟨r, G2, P2, h2, ⟨cf, rfl⟩, mf, h0, hR, hP⟩ | ⟨ex, G2, E2, h2, k, hX, ⟨r, mf⟩, h0, hR, hT⟩
  · exact Or.inl ⟨r, G2, cf, r, h2, mf, h0, fun _ => rfl, hR, hP Z hZ⟩
  · exact Or.inr ⟨ex, G2, E2, k, hX, hT, r, h2, mf, h0, fun hk => absurd hk (t_nz hT (by decide)), hR, hZ⟩
theorem q_summary {G h : Nat → Nat → Int32} {P : Nat → Option PRec} {Z : List PRec} (E Em : Nat → Nat → Int64) (Dd Dm : Nat → Nat → UInt64) (o : Nat → Int64) (H : RR G P h) (hZ : PZ P Z) (a0 : Int32) (Ψ : Int32 → CSt × (Nat → Int64) → Prop) (eΨ : Ψ = (fun (k : Int32) (u : CSt × (Nat → Int64)) => ∃ r h2, M_summary h a0 = some (r, h2) ∧ h2 0 0 = k ∧ (k = 0 → u.2 0 = r.toInt64) ∧ RR u.1.1 u.1.2.2.2.1 h2 ∧ PZ u.1.2.2.2.1 u.1.2.2.2.2)) : (∃ rv newG, C_LT_summary G a0 = some (rv, newG) ∧ Ψ 0 ((newG, E, Dd, P, Z), vp_updL o 0 rv.toInt64)) ∨ (∃ ex newG newE k, X_LT_summary G E a0 = some (ex, newG, newE) ∧ (ex, k) ∈ [(iae, 1)] ∧ Ψ k ((newG, newE, Dd, P, Z), o)) := by
  subst eΨ
  rcases p_summary H E a0 with ⟨r, G2, P2, h2, ⟨cf, rfl⟩, mf, h0, hR, hP⟩ | ⟨ex, G2, E2, h2, k, hX, ⟨r, mf⟩, h0, hR, hT⟩
  · exact Or.inl ⟨r, G2, cf, r, h2, mf, h0, fun _ => rfl, hR, hP Z hZ⟩
  · exact Or.inr ⟨ex, G2, E2, k, hX, hT, r, h2, mf, h0, fun hk => absurd hk (t_nz hT (by decide)), hR, hZ⟩
theorem q_without {G h : Nat → Nat → Int32} {P : Nat → Option PRec} {Z : List PRec} (E Em : Nat → Nat → Int64) (Dd Dm : Nat → Nat → UInt64) (o : Nat → Int64) (H : RR G P h) (hZ : PZ P Z) (a0 : Int32) (a1 : Int32) (a2 : Int32) (Ψ : Int32 → CSt × (Nat → Int64) → Prop) (eΨ : Ψ = (fun (k : Int32) (u : CSt × (Nat → Int64)) => ∃ r h2, M_without h a0 a1 a2 = some (r, h2) ∧ h2 0 0 = k ∧ (k = 0 → u.2 0 = r.toInt64) ∧ RR u.1.1 u.1.2.2.2.1 h2 ∧ PZ u.1.2.2.2.1 u.1.2.2.2.2)) : (∃ rv newG, C_LT_without G a0 a1 a2 = some (rv, newG) ∧ Ψ 0 ((newG, E, Dd, P, Z), vp_updL o 0 rv.toInt64)) ∨ (∃ ex newG newE k, X_LT_without G E a0 a1 a2 = some (ex, newG, newE) ∧ (ex, k) ∈ [(iob, 1), (iae, 2)] ∧ Ψ k ((newG, newE, Dd, P, Z), o)) := by
  subst eΨ
  rcases p_without H E a0 a1 a2 with ⟨r, G2, P2, h2, ⟨cf, rfl⟩, mf, h0, hR, hP⟩ | ⟨ex, G2, E2, h2, k, hX, ⟨r, mf⟩, h0, hR, hT⟩
  · exact Or.inl ⟨r, G2, cf, r, h2, mf, h0, fun _ => rfl, hR, hP Z hZ⟩
  · exact Or.inr ⟨ex, G2, E2, k, hX, hT, r, h2, mf, h0, fun hk => absurd hk (t_nz hT (by decide)), hR, hZ⟩
theorem q_rings {G h : Nat → Nat → Int32} {P : Nat → Option PRec} {Z : List PRec} (E Em : Nat → Nat → Int64) (Dd Dm : Nat → Nat → UInt64) (o : Nat → Int64) (H : RR G P h) (hZ : PZ P Z) (a0 : Int32) (Ψ : Int32 → CSt × (Nat → Int64) → Prop) (eΨ : Ψ = (fun (k : Int32) (u : CSt × (Nat → Int64)) => ∃ r h2, M_rings h a0 = some (r, h2) ∧ h2 0 0 = k ∧ (k = 0 → u.2 0 = r.toInt64) ∧ RR u.1.1 u.1.2.2.2.1 h2 ∧ PZ u.1.2.2.2.1 u.1.2.2.2.2)) : (∃ rv newG, C_LT_rings G a0 = some (rv, newG) ∧ Ψ 0 ((newG, E, Dd, P, Z), vp_updL o 0 rv.toInt64)) ∨ (∃ ex newG newE k, X_LT_rings G E a0 = some (ex, newG, newE) ∧ (ex, k) ∈ [(iob, 1)] ∧ Ψ k ((newG, newE, Dd, P, Z), o)) := by
  subst eΨ
  rcases p_rings H E a0 with ⟨r, G2, P2, h2, ⟨cf, rfl⟩, mf, h0, hR, hP⟩ | ⟨ex, G2, E2, h2, k, hX, ⟨r, mf⟩, h0, hR, hT⟩
  · exact Or.inl ⟨r, G2, cf, r, h2, mf, h0, fun _ => rfl, hR, hP Z hZ⟩
  · exact Or.inr ⟨ex, G2, E2, k, hX, hT, r, h2, mf, h0, fun hk => absurd hk (t_nz hT (by decide)), hR, hZ⟩
theorem q_consistency {G h : Nat → Nat → Int32} {P : Nat → Option PRec} {Z : List PRec} (E Em : Nat → Nat → Int64) (Dd Dm : Nat → Nat → UInt64) (o : Nat → UInt64) (H : RR G P h) (hZ : PZ P Z) (a0 : Int32) (Ψ : Int32 → CSt × (Nat → UInt64) → Prop) (eΨ : Ψ = (fun (k : Int32) (u : CSt × (Nat → UInt64)) => ∃ r h2, M_consistency h a0 = some (r, h2) ∧ h2 0 0 = k ∧ (k = 0 → alike64 (u.2 0) r = true) ∧ RR u.1.1 u.1.2.2.2.1 h2 ∧ PZ u.1.2.2.2.1 u.1.2.2.2.2)) : (∃ rv newG, C_LT_consistency G a0 = some (rv, newG) ∧ ∀ u r, cSm u (newG, E, Dd, P, Z) → alike64 r rv = true → Ψ 0 (u, vf_upd o 0 r)) ∨ (∃ ex newG newE k, X_LT_consistency G E a0 = some (ex, newG, newE) ∧ (ex, k) ∈ [(iob, 1), (ise, 2)] ∧ Ψ k ((newG, newE, Dd, P, Z), o)) := by
  subst eΨ
  rcases p_consistency H E a0 with ⟨r, G2, P2, h2, ⟨cf, rfl⟩, mf, h0, hR, hP⟩ | ⟨ex, G2, E2, h2, k, hX, ⟨r, mf⟩, h0, hR, hT⟩
  · exact Or.inl ⟨r, G2, cf, fun u z hu hz => ⟨r, h2, mf, h0, fun _ => hz, cs_RR hu hR, cs_PZ hu (hP Z hZ)⟩⟩
  · exact Or.inr ⟨ex, G2, E2, k, hX, hT, r, h2, mf, h0, fun hk => absurd hk (t_nz hT (by decide)), hR, hZ⟩
theorem q_agreement {G h : Nat → Nat → Int32} {P : Nat → Option PRec} {Z : List PRec} (E Em : Nat → Nat → Int64) (Dd Dm : Nat → Nat → UInt64) (o : Nat → UInt64) (H : RR G P h) (hZ : PZ P Z) (a0 : Int32) (a1 : Int32) (Ψ : Int32 → CSt × (Nat → UInt64) → Prop) (eΨ : Ψ = (fun (k : Int32) (u : CSt × (Nat → UInt64)) => ∃ r h2, M_agreement h a0 a1 = some (r, h2) ∧ h2 0 0 = k ∧ (k = 0 → alike64 (u.2 0) r = true) ∧ RR u.1.1 u.1.2.2.2.1 h2 ∧ PZ u.1.2.2.2.1 u.1.2.2.2.2)) : (∃ rv newG, C_LT_agreement G a0 a1 = some (rv, newG) ∧ ∀ u r, cSm u (newG, E, Dd, P, Z) → alike64 r rv = true → Ψ 0 (u, vf_upd o 0 r)) ∨ (∃ ex newG newE k, X_LT_agreement G E a0 a1 = some (ex, newG, newE) ∧ (ex, k) ∈ [(iob, 1)] ∧ Ψ k ((newG, newE, Dd, P, Z), o)) := by
  subst eΨ
  rcases p_agreement H E a0 a1 with ⟨r, G2, P2, h2, ⟨cf, rfl⟩, mf, h0, hR, hP⟩ | ⟨ex, G2, E2, h2, k, hX, ⟨r, mf⟩, h0, hR, hT⟩
  · exact Or.inl ⟨r, G2, cf, fun u z hu hz => ⟨r, h2, mf, h0, fun _ => hz, cs_RR hu hR, cs_PZ hu (hP Z hZ)⟩⟩
  · exact Or.inr ⟨ex, G2, E2, k, hX, hT, r, h2, mf, h0, fun hk => absurd hk (t_nz hT (by decide)), hR, hZ⟩
theorem q_chance {G h : Nat → Nat → Int32} {P : Nat → Option PRec} {Z : List PRec} (E Em : Nat → Nat → Int64) (Dd Dm : Nat → Nat → UInt64) (o : Nat → Int64) (H : RR G P h) (hZ : PZ P Z) (a0 : Int32) (a1 : Int32) (Ψ : Int32 → CSt × (Nat → Int64) → Prop) (eΨ : Ψ = (fun (k : Int32) (u : CSt × (Nat → Int64)) => ∃ r h2, M_chance h a0 a1 = some (r, h2) ∧ h2 0 0 = k ∧ (k = 0 → u.2 0 = r) ∧ RR u.1.1 u.1.2.2.2.1 h2 ∧ PZ u.1.2.2.2.1 u.1.2.2.2.2)) : (∃ rv newG, C_LT_chance G a0 a1 = some (rv, newG) ∧ Ψ 0 ((newG, E, Dd, P, Z), vp_updL o 0 rv)) ∨ (∃ ex newG newE k, X_LT_chance G E a0 a1 = some (ex, newG, newE) ∧ (ex, k) ∈ [(iob, 1), (iae, 2)] ∧ Ψ k ((newG, newE, Dd, P, Z), o)) := by
  subst eΨ
  rcases p_chance H E a0 a1 with ⟨r, G2, P2, h2, ⟨cf, rfl⟩, mf, h0, hR, hP⟩ | ⟨ex, G2, E2, h2, k, hX, ⟨r, mf⟩, h0, hR, hT⟩
  · exact Or.inl ⟨r, G2, cf, r, h2, mf, h0, fun _ => rfl, hR, hP Z hZ⟩
  · exact Or.inr ⟨ex, G2, E2, k, hX, hT, r, h2, mf, h0, fun hk => absurd hk (t_nz hT (by decide)), hR, hZ⟩
theorem q_proved {G h : Nat → Nat → Int32} {P : Nat → Option PRec} {Z : List PRec} (E Em : Nat → Nat → Int64) (Dd Dm : Nat → Nat → UInt64) (o : Nat → Int64) (H : RR G P h) (hZ : PZ P Z) (a0 : Int32) (a1 : Int32) (Ψ : Int32 → CSt × (Nat → Int64) → Prop) (eΨ : Ψ = (fun (k : Int32) (u : CSt × (Nat → Int64)) => ∃ r h2 Em2, M_proved h Em a0 a1 = some (r, h2, Em2) ∧ h2 0 0 = k ∧ (k = 0 → u.2 0 = r.toInt64) ∧ RR u.1.1 u.1.2.2.2.1 h2 ∧ PZ u.1.2.2.2.1 u.1.2.2.2.2)) : (∃ rv newG newE, C_LT_proved G E a0 a1 = some (rv, newG, newE) ∧ Ψ 0 ((newG, newE, Dd, P, Z), vp_updL o 0 rv.toInt64)) ∨ (∃ ex newG newE k, X_LT_proved G E a0 a1 = some (ex, newG, newE) ∧ (ex, k) ∈ [(iae, 1), (iob, 2)] ∧ Ψ k ((newG, newE, Dd, P, Z), o)) := by
  subst eΨ
  rcases p_proved H E Em a0 a1 with ⟨r, G2, P2, h2, ⟨⟨E23, cf⟩, rfl⟩, ⟨E24, mf⟩, h0, hR, hP⟩ | ⟨ex, G2, E2, h2, k, hX, ⟨r, E25, mf⟩, h0, hR, hT⟩
  · exact Or.inl ⟨r, G2, E23, cf, r, h2, E24, mf, h0, fun _ => rfl, hR, hP Z hZ⟩
  · exact Or.inr ⟨ex, G2, E2, k, hX, hT, r, h2, E25, mf, h0, fun hk => absurd hk (t_nz hT (by decide)), hR, hZ⟩
theorem q_strength {G h : Nat → Nat → Int32} {P : Nat → Option PRec} {Z : List PRec} (E Em : Nat → Nat → Int64) (Dd Dm : Nat → Nat → UInt64) (o : Nat → UInt64) (H : RR G P h) (hZ : PZ P Z) (a0 : Int32) (a1 : Int32) (Ψ : Int32 → CSt × (Nat → UInt64) → Prop) (eΨ : Ψ = (fun (k : Int32) (u : CSt × (Nat → UInt64)) => ∃ r h2 Dm2, M_strength h Dm a0 a1 = some (r, h2, Dm2) ∧ h2 0 0 = k ∧ (k = 0 → alike64 (u.2 0) r = true) ∧ RR u.1.1 u.1.2.2.2.1 h2 ∧ PZ u.1.2.2.2.1 u.1.2.2.2.2)) : (∃ rv newG newDd, C_LT_strength G Dd a0 a1 = some (rv, newG, newDd) ∧ ∀ u r, cSm u (newG, E, newDd, P, Z) → alike64 r rv = true → Ψ 0 (u, vf_upd o 0 r)) ∨ (∃ ex newG newE k, X_LT_strength G E a0 a1 = some (ex, newG, newE) ∧ (ex, k) ∈ [(iob, 1), (iae, 2)] ∧ Ψ k ((newG, newE, Dd, P, Z), o)) := by
  subst eΨ
  rcases p_strength DZ_ok H E Dd Dm a0 a1 with ⟨r, G2, P2, h2, ⟨⟨D23, cf⟩, rfl⟩, ⟨D24, mf⟩, h0, hR, hP⟩ | ⟨ex, G2, E2, h2, k, hX, ⟨r, D25, mf⟩, h0, hR, hT⟩
  · exact Or.inl ⟨r, G2, D23, cf, fun u z hu hz => ⟨r, h2, D24, mf, h0, fun _ => hz, cs_RR hu hR, cs_PZ hu (hP Z hZ)⟩⟩
  · exact Or.inr ⟨ex, G2, E2, k, hX, hT, r, h2, D25, mf, h0, fun hk => absurd hk (t_nz hT (by decide)), hR, hZ⟩
theorem q_misfit {G h : Nat → Nat → Int32} {P : Nat → Option PRec} {Z : List PRec} (E Em : Nat → Nat → Int64) (Dd Dm : Nat → Nat → UInt64) (o : Nat → UInt64) (H : RR G P h) (hZ : PZ P Z) (a0 : Int32) (Ψ : Int32 → CSt × (Nat → UInt64) → Prop) (eΨ : Ψ = (fun (k : Int32) (u : CSt × (Nat → UInt64)) => ∃ r h2 Dm2, M_misfit h Dm a0 = some (r, h2, Dm2) ∧ h2 0 0 = k ∧ (k = 0 → alike64 (u.2 0) r = true) ∧ RR u.1.1 u.1.2.2.2.1 h2 ∧ PZ u.1.2.2.2.1 u.1.2.2.2.2)) : (∃ rv newG newDd, C_LT_misfit G Dd a0 = some (rv, newG, newDd) ∧ ∀ u r, cSm u (newG, E, newDd, P, Z) → alike64 r rv = true → Ψ 0 (u, vf_upd o 0 r)) ∨ (∃ ex newG newE k, X_LT_misfit G E a0 = some (ex, newG, newE) ∧ (ex, k) ∈ [(iae, 1)] ∧ Ψ k ((newG, newE, Dd, P, Z), o)) := by
  subst eΨ
  rcases p_misfit DZ_ok H E Dd Dm a0 with ⟨r, G2, P2, h2, ⟨⟨D23, cf⟩, rfl⟩, ⟨D24, mf⟩, h0, hR, hP⟩ | ⟨ex, G2, E2, h2, k, hX, ⟨r, D25, mf⟩, h0, hR, hT⟩
  · exact Or.inl ⟨r, G2, D23, cf, fun u z hu hz => ⟨r, h2, D24, mf, h0, fun _ => hz, cs_RR hu hR, cs_PZ hu (hP Z hZ)⟩⟩
  · exact Or.inr ⟨ex, G2, E2, k, hX, hT, r, h2, D25, mf, h0, fun hk => absurd hk (t_nz hT (by decide)), hR, hZ⟩
