/-! THE LAW: its wrappers, each over the class's cells and its out array -/
abbrev rmW : Room := { frames := 9, cells := 2, slots := 58, locals := 180 }
def wJ (ad : Nat → Nat) (ao : Nat) (cI cJ cD cS : ClassId) (u : CSt × (Nat → Int64)) : va_W := [(ao, .inl (cJ, 1, .inr (.inl u.2)))] ++ cW ad cI cJ cD cS u.1
def wD (ad : Nat → Nat) (ao : Nat) (cI cJ cD cS : ClassId) (u : CSt × (Nat → UInt64)) : va_W := [(ao, .inl (cD, 1, .inr (.inr (.inr (.inl u.2)))))] ++ cW ad cI cJ cD cS u.1
theorem y_nc {A : Nat → Prop} {s : State} {H : Heap} {d : Drawn} {a b : String} (h : yOK A s H) (hm : (a, b) ∈ xN) : va_Nc a b (s.setDrawn d) := va_Nc.moved (u := s) (U := s.setDrawn d) (Vm.Alike.refl s.vm) (h.2 (a, b) hm)
theorem y_cast {A : Nat → Prop} {s : State} {H : Heap} {d : Drawn} {args : Array Value} {a : String} (h : yOK A s H) (hm : Cond.castable a a ∈ xL) : (Cond.castable a a).before args (s.setDrawn d) = true := va_tabs (xL_kind _ hm).2 (u := s) (U := s.setDrawn d) rfl (h.1.2.2.1 _ hm)
theorem in01 : vp_in (0 : Int32) 1 := show ¬ ((0 : Int32) < 0 ∨ 1 ≤ (0 : Int32).toNatClampNeg) by decide
section LWrap
variable {D : va_G} {l : Launch} {cI cJ cD cS : ClassId} {ad : Nat → Nat}
set_option maxRecDepth 100000 in
set_option maxHeartbeats 4000000 in
theorem wL_begin (ao : Nat) (G : Nat → Nat → Int32) (E : Nat → Nat → Int64) (Dd : Nat → Nat → UInt64) (P : Nat → Option PRec) (Z : List PRec) (o : Nat → Int64) (hPZ : ∀ (k : Nat) (z : PRec), P k = some z → z ∈ Z) (hl0 : l.stackTraces = false) (a0 : Int32) (a1 : Int32) (Ψ : Int32 → CSt × (Nat → Int64) → Prop) (h : (∃ rv newG newP, C_LT_begin G P a0 a1 = some (rv, newG, newP) ∧ Ψ 0 ((newG, E, Dd, newP, Z), vp_updL o 0 rv.toInt64)) ∨ (∃ ex newG newE k, X_LT_begin G E P a0 a1 = some (ex, newG, newE) ∧ (ex, k) ∈ [(iae, 1)] ∧ Ψ k ((newG, newE, Dd, P, Z), o))) : wM D (cT cI cJ cD cS) (wJ ad ao cI cJ cD cS) l yL_begin (ws2 yL_begin cL_begin 5 (some .int) [(0, 10, 13, 13)]) rmW [.ref (ad 0), .int a0, .int a1, .ref ao] ((G, E, Dd, P, Z), o) Ψ := by
  refine wM_of (by decide) (Nat.le_of_ble_eq_true rfl) ?_
  intro p e R s m args below meth c A Q ls F hRf hRl hRc hRs htab I hY hl hend
  replace F : CallFix p m c cL_begin 5 s args gG RL := F
  obtain ⟨hx, hb, hml, hown, hG⟩ := id F
  have hd0 := Drawn.sameBut.refl s.drawn lw_cs
  replace hl : lv_has ls 5 [(0, .ref (ad 0)), (1, .int a0), (2, .int a1), (3, .ref ao)] := hl
  replace I : sInv D (cT cI cJ cD cS) (fW [(ao, .inl (cJ, 1, .inr (.inl o)))] (cW ad cI cJ cD cS)) A s s.heap [] (G, E, Dd, P, Z) := I
  refine lv_aload_n hx hb dL_begin_0 rfl (lv_at hl 3 rfl) ?_
  refine lv_iconst (v := 0) hx hb dL_begin_1 (by decide) ?_
  refine lv_aload_n hx hb dL_begin_2 rfl (lv_at hl 0 rfl) ?_
  refine lv_iload_n hx hb dL_begin_3 rfl (lv_at hl 1 rfl) ?_
  refine lv_iload_n hx hb dL_begin_4 rfl (lv_at hl 2 rfl) ?_
  rcases h with ⟨rv, newG, newP, hf, hΨ⟩ | ⟨ex, newG, newE, k, hf, hk, hΨ⟩
  · refine f_callVi (As := [.int a0, .int a1]) F I I.1 (cC_LT_begin G E Dd P Z hPZ a0 a1 rv newG newP hf) kL_7 ⟨rfl, rfl⟩ ⟨Nat.le_trans (by decide) hRf, Nat.le_trans (by decide) hRl⟩ 0 11 rfl rfl rfl rfl rfl hl.1 (Nat.le_of_ble_eq_true rfl) ⟨Nat.zero_le _, Nat.zero_le _⟩ dL_begin_5 (fun H1 lo1 I1 => ?_)
    refine lv_i2l hx hb dL_begin_8 rfl ?_
    refine va_last hx hb (Idr I1).1 I1.2.1 I1.2.2.1 I1.2.2.2.1 0 1 rfl rfl in01 dL_begin_9 (fun H2 lo2 hP hD hS => ?_)
    refine lv_goto (tgt := 17) hx hb dL_begin_10 (by decide) ?_
    refine lv_iconst (v := 0) hx hb dL_begin_17 (by decide) ?_
    refine W.widen (k := 2) (n := 58) (by decide) (by decide) ?_
    exact hend H2 lo2 18 ls _ ((newG, E, Dd, newP, Z), vp_updL o 0 rv.toInt64) 0 hd0 ⟨I1.1, hP, hD, hS, I1.2.2.2.2⟩ hΨ dL_begin_18
  · simp only [List.mem_cons, Prod.mk.injEq, List.not_mem_nil, or_false] at hk
    obtain ⟨rfl, rfl⟩ := hk
    refine f_callVX (As := [.int a0, .int a1]) F I I.1 hY.1 (xX_LT_begin G E Dd P Z hPZ hl0 a0 a1 _ newG newE hf) kL_7 ⟨rfl, rfl⟩ ⟨Nat.le_trans (by decide) hRf, Nat.le_trans (by decide) hRl⟩ 0 11 rfl rfl rfl rfl rfl hl.1 (Nat.le_of_ble_eq_true rfl) ⟨Nat.le_trans (by decide) hRc, Nat.le_trans (by decide) hRs⟩ dL_begin_5 (fun ce q9 H1 lo1 I1 hce hcv hcl => ?_)
    refine vx_catch (own := RL) (name := iae) (E := iae) hown [] ⟨0, 10, 13, 13⟩ [] htab (fun z hz => absurd hz List.not_mem_nil) (by decide) (by decide) ((dr_words hG s.drawn) _ v781) (y_cast hY (by decide)) hce hcv hcl ?_
    refine lv_astore hx hb dL_begin_13 hl (by decide) rfl (fun ls2 _ => ?_)
    refine lv_iconst (v := 1) hx hb dL_begin_15 (by decide) ?_
    refine W.widen (k := 2) (n := 58) (by decide) (by decide) ?_
    exact hend H1 lo1 16 ls2 _ ((newG, newE, Dd, P, Z), o) 1 hd0 I1 hΨ dL_begin_16
set_option maxRecDepth 100000 in
set_option maxHeartbeats 4000000 in
theorem wL_setWeight (ao : Nat) (G : Nat → Nat → Int32) (E : Nat → Nat → Int64) (Dd : Nat → Nat → UInt64) (P : Nat → Option PRec) (Z : List PRec) (o : Nat → Int64) (hPZ : ∀ (k : Nat) (z : PRec), P k = some z → z ∈ Z) (hl0 : l.stackTraces = false) (a0 : Int32) (a1 : Int32) (Ψ : Int32 → CSt × (Nat → Int64) → Prop) (h : (∃ rv newG, C_LT_setWeight G a0 a1 = some (rv, newG) ∧ Ψ 0 ((newG, E, Dd, P, Z), vp_updL o 0 rv.toInt64)) ∨ (∃ ex newG newE k, X_LT_setWeight G E a0 a1 = some (ex, newG, newE) ∧ (ex, k) ∈ [(iob, 1), (iae, 2)] ∧ Ψ k ((newG, newE, Dd, P, Z), o))) : wM D (cT cI cJ cD cS) (wJ ad ao cI cJ cD cS) l yL_setWeight (ws2 yL_setWeight cL_setWeight 5 (some .int) [(0, 10, 13, 18), (0, 10, 17, 13)]) rmW [.ref (ad 0), .int a0, .int a1, .ref ao] ((G, E, Dd, P, Z), o) Ψ := by
  refine wM_of (by decide) (Nat.le_of_ble_eq_true rfl) ?_
  intro p e R s m args below meth c A Q ls F hRf hRl hRc hRs htab I hY hl hend
  replace F : CallFix p m c cL_setWeight 5 s args gG RL := F
  obtain ⟨hx, hb, hml, hown, hG⟩ := id F
  have hd0 := Drawn.sameBut.refl s.drawn lw_cs
  replace hl : lv_has ls 5 [(0, .ref (ad 0)), (1, .int a0), (2, .int a1), (3, .ref ao)] := hl
  replace I : sInv D (cT cI cJ cD cS) (fW [(ao, .inl (cJ, 1, .inr (.inl o)))] (cW ad cI cJ cD cS)) A s s.heap [] (G, E, Dd, P, Z) := I
  refine lv_aload_n hx hb dL_setWeight_0 rfl (lv_at hl 3 rfl) ?_
  refine lv_iconst (v := 0) hx hb dL_setWeight_1 (by decide) ?_
  refine lv_aload_n hx hb dL_setWeight_2 rfl (lv_at hl 0 rfl) ?_
  refine lv_iload_n hx hb dL_setWeight_3 rfl (lv_at hl 1 rfl) ?_
  refine lv_iload_n hx hb dL_setWeight_4 rfl (lv_at hl 2 rfl) ?_
  rcases h with ⟨rv, newG, hf, hΨ⟩ | ⟨ex, newG, newE, k, hf, hk, hΨ⟩
  · refine f_callVi (As := [.int a0, .int a1]) F I I.1 (cC_LT_setWeight G E Dd P Z a0 a1 rv newG hf) kL_15 ⟨rfl, rfl⟩ ⟨Nat.le_trans (by decide) hRf, Nat.le_trans (by decide) hRl⟩ 0 11 rfl rfl rfl rfl rfl hl.1 (Nat.le_of_ble_eq_true rfl) ⟨Nat.zero_le _, Nat.zero_le _⟩ dL_setWeight_5 (fun H1 lo1 I1 => ?_)
    refine lv_i2l hx hb dL_setWeight_8 rfl ?_
    refine va_last hx hb (Idr I1).1 I1.2.1 I1.2.2.1 I1.2.2.2.1 0 1 rfl rfl in01 dL_setWeight_9 (fun H2 lo2 hP hD hS => ?_)
    refine lv_goto (tgt := 21) hx hb dL_setWeight_10 (by decide) ?_
    refine lv_iconst (v := 0) hx hb dL_setWeight_21 (by decide) ?_
    refine W.widen (k := 2) (n := 58) (by decide) (by decide) ?_
    exact hend H2 lo2 22 ls _ ((newG, E, Dd, P, Z), vp_updL o 0 rv.toInt64) 0 hd0 ⟨I1.1, hP, hD, hS, I1.2.2.2.2⟩ hΨ dL_setWeight_22
  · simp only [List.mem_cons, Prod.mk.injEq, List.not_mem_nil, or_false] at hk
    rcases hk with ⟨rfl, rfl⟩ | ⟨rfl, rfl⟩
    · refine f_callVX (As := [.int a0, .int a1]) F I I.1 hY.1 (xX_LT_setWeight G E Dd P Z hl0 a0 a1 _ newG newE hf) kL_15 ⟨rfl, rfl⟩ ⟨Nat.le_trans (by decide) hRf, Nat.le_trans (by decide) hRl⟩ 0 11 rfl rfl rfl rfl rfl hl.1 (Nat.le_of_ble_eq_true rfl) ⟨Nat.le_trans (by decide) hRc, Nat.le_trans (by decide) hRs⟩ dL_setWeight_5 (fun ce q9 H1 lo1 I1 hce hcv hcl => ?_)
      refine vx_catch (own := RL) (name := iob) (E := iob) hown [] ⟨0, 10, 13, 18⟩ [⟨0, 10, 17, 13⟩] htab (fun z hz => absurd hz List.not_mem_nil) (by decide) (by decide) ((dr_words hG s.drawn) _ v860) (y_cast hY (by decide)) hce hcv hcl ?_
      refine lv_astore hx hb dL_setWeight_13 hl (by decide) rfl (fun ls2 _ => ?_)
      refine lv_iconst (v := 1) hx hb dL_setWeight_15 (by decide) ?_
      refine W.widen (k := 2) (n := 58) (by decide) (by decide) ?_
      exact hend H1 lo1 16 ls2 _ ((newG, newE, Dd, P, Z), o) 1 hd0 I1 hΨ dL_setWeight_16
    · refine f_callVX (As := [.int a0, .int a1]) F I I.1 hY.1 (xX_LT_setWeight G E Dd P Z hl0 a0 a1 _ newG newE hf) kL_15 ⟨rfl, rfl⟩ ⟨Nat.le_trans (by decide) hRf, Nat.le_trans (by decide) hRl⟩ 0 11 rfl rfl rfl rfl rfl hl.1 (Nat.le_of_ble_eq_true rfl) ⟨Nat.le_trans (by decide) hRc, Nat.le_trans (by decide) hRs⟩ dL_setWeight_5 (fun ce q9 H1 lo1 I1 hce hcv hcl => ?_)
      refine vx_catch (own := RL) (name := iae) (E := iae) hown [⟨0, 10, 13, 18⟩] ⟨0, 10, 17, 13⟩ [] htab (fun z hz => by cases List.mem_singleton.mp hz; exact Or.inr ⟨by decide, iob, (dr_words hG s.drawn) _ v860, y_nc hY (by decide)⟩) (by decide) (by decide) ((dr_words hG s.drawn) _ v781) (y_cast hY (by decide)) hce hcv hcl ?_
      refine lv_astore hx hb dL_setWeight_17 hl (by decide) rfl (fun ls2 _ => ?_)
      refine lv_iconst (v := 2) hx hb dL_setWeight_19 (by decide) ?_
      refine W.widen (k := 2) (n := 58) (by decide) (by decide) ?_
      exact hend H1 lo1 20 ls2 _ ((newG, newE, Dd, P, Z), o) 2 hd0 I1 hΨ dL_setWeight_20
set_option maxRecDepth 100000 in
set_option maxHeartbeats 4000000 in
theorem wL_plan (ao : Nat) (G : Nat → Nat → Int32) (E : Nat → Nat → Int64) (Dd : Nat → Nat → UInt64) (P : Nat → Option PRec) (Z : List PRec) (o : Nat → Int64) (hPZ : ∀ (k : Nat) (z : PRec), P k = some z → z ∈ Z) (hl0 : l.stackTraces = false) (a0 : Int32) (a1 : Int32) (a2 : Int32) (Ψ : Int32 → CSt × (Nat → Int64) → Prop) (h : (∃ rv newG n G3, C_LT_plan G a0 a1 a2 = some (rv, newG, n, G3) ∧ ∀ q a : Nat, Ψ 0 ((newG, E, Dd, va_up P 0 (some (q, a, G3 0 0, n, G3 1)), Z ++ [(q, a, G3 0 0, n, G3 1)]), vp_updL o 0 rv.toInt64)) ∨ (∃ ex newG newE k, X_LT_plan G E P a0 a1 a2 = some (ex, newG, newE) ∧ (ex, k) ∈ [(iob, 1), (iae, 2)] ∧ Ψ k ((newG, newE, Dd, P, Z), o))) : wM D (cT cI cJ cD cS) (wJ ad ao cI cJ cD cS) l yL_plan (ws2 yL_plan cL_plan 6 (some .int) [(0, 12, 15, 18), (0, 12, 19, 13)]) rmW [.ref (ad 0), .int a0, .int a1, .int a2, .ref ao] ((G, E, Dd, P, Z), o) Ψ := by
  refine wM_of (by decide) (Nat.le_of_ble_eq_true rfl) ?_
  intro p e R s m args below meth c A Q ls F hRf hRl hRc hRs htab I hY hl hend
  replace F : CallFix p m c cL_plan 6 s args gG RL := F
  obtain ⟨hx, hb, hml, hown, hG⟩ := id F
  have hd0 := Drawn.sameBut.refl s.drawn lw_cs
  replace hl : lv_has ls 6 [(0, .ref (ad 0)), (1, .int a0), (2, .int a1), (3, .int a2), (4, .ref ao)] := hl
  replace I : sInv D (cT cI cJ cD cS) (fW [(ao, .inl (cJ, 1, .inr (.inl o)))] (cW ad cI cJ cD cS)) A s s.heap [] (G, E, Dd, P, Z) := I
  refine lv_aload hx hb dL_plan_0 (lv_at hl 4 rfl) ?_
  refine lv_iconst (v := 0) hx hb dL_plan_2 (by decide) ?_
  refine lv_aload_n hx hb dL_plan_3 rfl (lv_at hl 0 rfl) ?_
  refine lv_iload_n hx hb dL_plan_4 rfl (lv_at hl 1 rfl) ?_
  refine lv_iload_n hx hb dL_plan_5 rfl (lv_at hl 2 rfl) ?_
  refine lv_iload_n hx hb dL_plan_6 rfl (lv_at hl 3 rfl) ?_
  rcases h with ⟨rv, newG, n, G3, hf, hΨ⟩ | ⟨ex, newG, newE, k, hf, hk, hΨ⟩
  · refine f_callVx (As := [.int a0, .int a1, .int a2]) F I I.1 (cC_LT_plan G E Dd P Z a0 a1 a2 rv newG n G3 hf) kL_20 ⟨rfl, rfl⟩ ⟨Nat.le_trans (by decide) hRf, Nat.le_trans (by decide) hRl⟩ 0 11 rfl rfl rfl rfl rfl hl.1 (Nat.le_of_ble_eq_true rfl) ⟨Nat.le_trans (by decide) hRc, Nat.le_trans (by decide) hRs⟩ dL_plan_7 (fun r u H1 lo1 hw I1 => ?_)
    obtain ⟨q, a, rfl, rfl⟩ := hw
    refine lv_i2l hx hb dL_plan_10 rfl ?_
    refine va_last hx hb (Idr I1).1 I1.2.1 I1.2.2.1 I1.2.2.2.1 0 1 rfl rfl in01 dL_plan_11 (fun H2 lo2 hP hD hS => ?_)
    refine lv_goto (tgt := 23) hx hb dL_plan_12 (by decide) ?_
    refine lv_iconst (v := 0) hx hb dL_plan_23 (by decide) ?_
    refine W.widen (k := 2) (n := 58) (by decide) (by decide) ?_
    exact hend H2 lo2 24 ls _ ((newG, E, Dd, va_up P 0 (some (q, a, G3 0 0, n, G3 1)), Z ++ [(q, a, G3 0 0, n, G3 1)]), vp_updL o 0 r.toInt64) 0 hd0 ⟨I1.1, hP, hD, hS, I1.2.2.2.2⟩ (hΨ q a) dL_plan_24
  · simp only [List.mem_cons, Prod.mk.injEq, List.not_mem_nil, or_false] at hk
    rcases hk with ⟨rfl, rfl⟩ | ⟨rfl, rfl⟩
    · refine f_callVX (As := [.int a0, .int a1, .int a2]) F I I.1 hY.1 (xX_LT_plan G E Dd P Z hPZ hl0 a0 a1 a2 _ newG newE hf) kL_20 ⟨rfl, rfl⟩ ⟨Nat.le_trans (by decide) hRf, Nat.le_trans (by decide) hRl⟩ 0 11 rfl rfl rfl rfl rfl hl.1 (Nat.le_of_ble_eq_true rfl) ⟨Nat.le_trans (by decide) hRc, Nat.le_trans (by decide) hRs⟩ dL_plan_7 (fun ce q9 H1 lo1 I1 hce hcv hcl => ?_)
      refine vx_catch (own := RL) (name := iob) (E := iob) hown [] ⟨0, 12, 15, 18⟩ [⟨0, 12, 19, 13⟩] htab (fun z hz => absurd hz List.not_mem_nil) (by decide) (by decide) ((dr_words hG s.drawn) _ v860) (y_cast hY (by decide)) hce hcv hcl ?_
      refine lv_astore hx hb dL_plan_15 hl (by decide) rfl (fun ls2 _ => ?_)
      refine lv_iconst (v := 1) hx hb dL_plan_17 (by decide) ?_
      refine W.widen (k := 2) (n := 58) (by decide) (by decide) ?_
      exact hend H1 lo1 18 ls2 _ ((newG, newE, Dd, P, Z), o) 1 hd0 I1 hΨ dL_plan_18
    · refine f_callVX (As := [.int a0, .int a1, .int a2]) F I I.1 hY.1 (xX_LT_plan G E Dd P Z hPZ hl0 a0 a1 a2 _ newG newE hf) kL_20 ⟨rfl, rfl⟩ ⟨Nat.le_trans (by decide) hRf, Nat.le_trans (by decide) hRl⟩ 0 11 rfl rfl rfl rfl rfl hl.1 (Nat.le_of_ble_eq_true rfl) ⟨Nat.le_trans (by decide) hRc, Nat.le_trans (by decide) hRs⟩ dL_plan_7 (fun ce q9 H1 lo1 I1 hce hcv hcl => ?_)
      refine vx_catch (own := RL) (name := iae) (E := iae) hown [⟨0, 12, 15, 18⟩] ⟨0, 12, 19, 13⟩ [] htab (fun z hz => by cases List.mem_singleton.mp hz; exact Or.inr ⟨by decide, iob, (dr_words hG s.drawn) _ v860, y_nc hY (by decide)⟩) (by decide) (by decide) ((dr_words hG s.drawn) _ v781) (y_cast hY (by decide)) hce hcv hcl ?_
      refine lv_astore hx hb dL_plan_19 hl (by decide) rfl (fun ls2 _ => ?_)
      refine lv_iconst (v := 2) hx hb dL_plan_21 (by decide) ?_
      refine W.widen (k := 2) (n := 58) (by decide) (by decide) ?_
      exact hend H1 lo1 22 ls2 _ ((newG, newE, Dd, P, Z), o) 2 hd0 I1 hΨ dL_plan_22
set_option maxRecDepth 100000 in
set_option maxHeartbeats 4000000 in
theorem wL_trial (ao : Nat) (G : Nat → Nat → Int32) (E : Nat → Nat → Int64) (Dd : Nat → Nat → UInt64) (P : Nat → Option PRec) (Z : List PRec) (o : Nat → Int64) (hPZ : ∀ (k : Nat) (z : PRec), P k = some z → z ∈ Z) (hl0 : l.stackTraces = false) (a0 : Int32) (a1 : Int32) (Ψ : Int32 → CSt × (Nat → Int64) → Prop) (h : (∃ rv, C_LT_trial G P a0 a1 = some rv ∧ Ψ 0 ((G, E, Dd, P, Z), vp_updL o 0 rv.toInt64)) ∨ (∃ ex newG newE k, X_LT_trial G E P a0 a1 = some (ex, newG, newE) ∧ (ex, k) ∈ [(ise, 1), (iob, 2)] ∧ Ψ k ((newG, newE, Dd, P, Z), o))) : wM D (cT cI cJ cD cS) (wJ ad ao cI cJ cD cS) l yL_trial (ws2 yL_trial cL_trial 5 (some .int) [(0, 10, 13, 28), (0, 10, 17, 18)]) rmW [.ref (ad 0), .int a0, .int a1, .ref ao] ((G, E, Dd, P, Z), o) Ψ := by
  refine wM_of (by decide) (Nat.le_of_ble_eq_true rfl) ?_
  intro p e R s m args below meth c A Q ls F hRf hRl hRc hRs htab I hY hl hend
  replace F : CallFix p m c cL_trial 5 s args gG RL := F
  obtain ⟨hx, hb, hml, hown, hG⟩ := id F
  have hd0 := Drawn.sameBut.refl s.drawn lw_cs
  replace hl : lv_has ls 5 [(0, .ref (ad 0)), (1, .int a0), (2, .int a1), (3, .ref ao)] := hl
  replace I : sInv D (cT cI cJ cD cS) (fW [(ao, .inl (cJ, 1, .inr (.inl o)))] (cW ad cI cJ cD cS)) A s s.heap [] (G, E, Dd, P, Z) := I
  refine lv_aload_n hx hb dL_trial_0 rfl (lv_at hl 3 rfl) ?_
  refine lv_iconst (v := 0) hx hb dL_trial_1 (by decide) ?_
  refine lv_aload_n hx hb dL_trial_2 rfl (lv_at hl 0 rfl) ?_
  refine lv_iload_n hx hb dL_trial_3 rfl (lv_at hl 1 rfl) ?_
  refine lv_iload_n hx hb dL_trial_4 rfl (lv_at hl 2 rfl) ?_
  rcases h with ⟨rv, hf, hΨ⟩ | ⟨ex, newG, newE, k, hf, hk, hΨ⟩
  · refine f_callVi (As := [.int a0, .int a1]) F I I.1 (cC_LT_trial G E Dd P Z hPZ a0 a1 rv hf) kL_24 ⟨rfl, rfl⟩ ⟨Nat.le_trans (by decide) hRf, Nat.le_trans (by decide) hRl⟩ 0 11 rfl rfl rfl rfl rfl hl.1 (Nat.le_of_ble_eq_true rfl) ⟨Nat.zero_le _, Nat.zero_le _⟩ dL_trial_5 (fun H1 lo1 I1 => ?_)
    refine lv_i2l hx hb dL_trial_8 rfl ?_
    refine va_last hx hb (Idr I1).1 I1.2.1 I1.2.2.1 I1.2.2.2.1 0 1 rfl rfl in01 dL_trial_9 (fun H2 lo2 hP hD hS => ?_)
    refine lv_goto (tgt := 21) hx hb dL_trial_10 (by decide) ?_
    refine lv_iconst (v := 0) hx hb dL_trial_21 (by decide) ?_
    refine W.widen (k := 2) (n := 58) (by decide) (by decide) ?_
    exact hend H2 lo2 22 ls _ ((G, E, Dd, P, Z), vp_updL o 0 rv.toInt64) 0 hd0 ⟨I1.1, hP, hD, hS, I1.2.2.2.2⟩ hΨ dL_trial_22
  · simp only [List.mem_cons, Prod.mk.injEq, List.not_mem_nil, or_false] at hk
    rcases hk with ⟨rfl, rfl⟩ | ⟨rfl, rfl⟩
    · refine f_callVX (As := [.int a0, .int a1]) F I I.1 hY.1 (xX_LT_trial G E Dd P Z hPZ hl0 a0 a1 _ newG newE hf) kL_24 ⟨rfl, rfl⟩ ⟨Nat.le_trans (by decide) hRf, Nat.le_trans (by decide) hRl⟩ 0 11 rfl rfl rfl rfl rfl hl.1 (Nat.le_of_ble_eq_true rfl) ⟨Nat.le_trans (by decide) hRc, Nat.le_trans (by decide) hRs⟩ dL_trial_5 (fun ce q9 H1 lo1 I1 hce hcv hcl => ?_)
      refine vx_catch (own := RL) (name := ise) (E := ise) hown [] ⟨0, 10, 13, 28⟩ [⟨0, 10, 17, 18⟩] htab (fun z hz => absurd hz List.not_mem_nil) (by decide) (by decide) ((dr_words hG s.drawn) _ v933) (y_cast hY (by decide)) hce hcv hcl ?_
      refine lv_astore hx hb dL_trial_13 hl (by decide) rfl (fun ls2 _ => ?_)
      refine lv_iconst (v := 1) hx hb dL_trial_15 (by decide) ?_
      refine W.widen (k := 2) (n := 58) (by decide) (by decide) ?_
      exact hend H1 lo1 16 ls2 _ ((newG, newE, Dd, P, Z), o) 1 hd0 I1 hΨ dL_trial_16
    · refine f_callVX (As := [.int a0, .int a1]) F I I.1 hY.1 (xX_LT_trial G E Dd P Z hPZ hl0 a0 a1 _ newG newE hf) kL_24 ⟨rfl, rfl⟩ ⟨Nat.le_trans (by decide) hRf, Nat.le_trans (by decide) hRl⟩ 0 11 rfl rfl rfl rfl rfl hl.1 (Nat.le_of_ble_eq_true rfl) ⟨Nat.le_trans (by decide) hRc, Nat.le_trans (by decide) hRs⟩ dL_trial_5 (fun ce q9 H1 lo1 I1 hce hcv hcl => ?_)
      refine vx_catch (own := RL) (name := iob) (E := iob) hown [⟨0, 10, 13, 28⟩] ⟨0, 10, 17, 18⟩ [] htab (fun z hz => by cases List.mem_singleton.mp hz; exact Or.inr ⟨by decide, ise, (dr_words hG s.drawn) _ v933, y_nc hY (by decide)⟩) (by decide) (by decide) ((dr_words hG s.drawn) _ v860) (y_cast hY (by decide)) hce hcv hcl ?_
      refine lv_astore hx hb dL_trial_17 hl (by decide) rfl (fun ls2 _ => ?_)
      refine lv_iconst (v := 2) hx hb dL_trial_19 (by decide) ?_
      refine W.widen (k := 2) (n := 58) (by decide) (by decide) ?_
      exact hend H1 lo1 20 ls2 _ ((newG, newE, Dd, P, Z), o) 2 hd0 I1 hΨ dL_trial_20
set_option maxRecDepth 100000 in
set_option maxHeartbeats 4000000 in
theorem wL_answer (ao : Nat) (G : Nat → Nat → Int32) (E : Nat → Nat → Int64) (Dd : Nat → Nat → UInt64) (P : Nat → Option PRec) (Z : List PRec) (o : Nat → Int64) (hPZ : ∀ (k : Nat) (z : PRec), P k = some z → z ∈ Z) (hl0 : l.stackTraces = false) (a0 : Int32) (Ψ : Int32 → CSt × (Nat → Int64) → Prop) (h : (∃ rv newG newP, C_LT_answer G P a0 = some (rv, newG, newP) ∧ Ψ 0 ((newG, E, Dd, newP, Z), vp_updL o 0 rv.toInt64)) ∨ (∃ ex newG newE k, X_LT_answer G E P a0 = some (ex, newG, newE) ∧ (ex, k) ∈ [(ise, 1), (iae, 2)] ∧ Ψ k ((newG, newE, Dd, P, Z), o))) : wM D (cT cI cJ cD cS) (wJ ad ao cI cJ cD cS) l yL_answer (ws2 yL_answer cL_answer 4 (some .int) [(0, 9, 12, 28), (0, 9, 15, 13)]) rmW [.ref (ad 0), .int a0, .ref ao] ((G, E, Dd, P, Z), o) Ψ := by
  refine wM_of (by decide) (Nat.le_of_ble_eq_true rfl) ?_
  intro p e R s m args below meth c A Q ls F hRf hRl hRc hRs htab I hY hl hend
  replace F : CallFix p m c cL_answer 4 s args gG RL := F
  obtain ⟨hx, hb, hml, hown, hG⟩ := id F
  have hd0 := Drawn.sameBut.refl s.drawn lw_cs
  replace hl : lv_has ls 4 [(0, .ref (ad 0)), (1, .int a0), (2, .ref ao)] := hl
  replace I : sInv D (cT cI cJ cD cS) (fW [(ao, .inl (cJ, 1, .inr (.inl o)))] (cW ad cI cJ cD cS)) A s s.heap [] (G, E, Dd, P, Z) := I
  refine lv_aload_n hx hb dL_answer_0 rfl (lv_at hl 2 rfl) ?_
  refine lv_iconst (v := 0) hx hb dL_answer_1 (by decide) ?_
  refine lv_aload_n hx hb dL_answer_2 rfl (lv_at hl 0 rfl) ?_
  refine lv_iload_n hx hb dL_answer_3 rfl (lv_at hl 1 rfl) ?_
  rcases h with ⟨rv, newG, newP, hf, hΨ⟩ | ⟨ex, newG, newE, k, hf, hk, hΨ⟩
  · refine f_callVi (As := [.int a0]) F I I.1 (cC_LT_answer G E Dd P Z hPZ a0 rv newG newP hf) kL_30 ⟨rfl, rfl⟩ ⟨Nat.le_trans (by decide) hRf, Nat.le_trans (by decide) hRl⟩ 0 11 rfl rfl rfl rfl rfl hl.1 (Nat.le_of_ble_eq_true rfl) ⟨Nat.zero_le _, Nat.zero_le _⟩ dL_answer_4 (fun H1 lo1 I1 => ?_)
    refine lv_i2l hx hb dL_answer_7 rfl ?_
    refine va_last hx hb (Idr I1).1 I1.2.1 I1.2.2.1 I1.2.2.2.1 0 1 rfl rfl in01 dL_answer_8 (fun H2 lo2 hP hD hS => ?_)
    refine lv_goto (tgt := 18) hx hb dL_answer_9 (by decide) ?_
    refine lv_iconst (v := 0) hx hb dL_answer_18 (by decide) ?_
    refine W.widen (k := 2) (n := 58) (by decide) (by decide) ?_
    exact hend H2 lo2 19 ls _ ((newG, E, Dd, newP, Z), vp_updL o 0 rv.toInt64) 0 hd0 ⟨I1.1, hP, hD, hS, I1.2.2.2.2⟩ hΨ dL_answer_19
  · simp only [List.mem_cons, Prod.mk.injEq, List.not_mem_nil, or_false] at hk
    rcases hk with ⟨rfl, rfl⟩ | ⟨rfl, rfl⟩
    · refine f_callVX (As := [.int a0]) F I I.1 hY.1 (xX_LT_answer G E Dd P Z hPZ hl0 a0 _ newG newE hf) kL_30 ⟨rfl, rfl⟩ ⟨Nat.le_trans (by decide) hRf, Nat.le_trans (by decide) hRl⟩ 0 11 rfl rfl rfl rfl rfl hl.1 (Nat.le_of_ble_eq_true rfl) ⟨Nat.le_trans (by decide) hRc, Nat.le_trans (by decide) hRs⟩ dL_answer_4 (fun ce q9 H1 lo1 I1 hce hcv hcl => ?_)
      refine vx_catch (own := RL) (name := ise) (E := ise) hown [] ⟨0, 9, 12, 28⟩ [⟨0, 9, 15, 13⟩] htab (fun z hz => absurd hz List.not_mem_nil) (by decide) (by decide) ((dr_words hG s.drawn) _ v933) (y_cast hY (by decide)) hce hcv hcl ?_
      refine lv_astore_n hx hb dL_answer_12 rfl hl (by decide) rfl (fun ls2 _ => ?_)
      refine lv_iconst (v := 1) hx hb dL_answer_13 (by decide) ?_
      refine W.widen (k := 2) (n := 58) (by decide) (by decide) ?_
      exact hend H1 lo1 14 ls2 _ ((newG, newE, Dd, P, Z), o) 1 hd0 I1 hΨ dL_answer_14
    · refine f_callVX (As := [.int a0]) F I I.1 hY.1 (xX_LT_answer G E Dd P Z hPZ hl0 a0 _ newG newE hf) kL_30 ⟨rfl, rfl⟩ ⟨Nat.le_trans (by decide) hRf, Nat.le_trans (by decide) hRl⟩ 0 11 rfl rfl rfl rfl rfl hl.1 (Nat.le_of_ble_eq_true rfl) ⟨Nat.le_trans (by decide) hRc, Nat.le_trans (by decide) hRs⟩ dL_answer_4 (fun ce q9 H1 lo1 I1 hce hcv hcl => ?_)
      refine vx_catch (own := RL) (name := iae) (E := iae) hown [⟨0, 9, 12, 28⟩] ⟨0, 9, 15, 13⟩ [] htab (fun z hz => by cases List.mem_singleton.mp hz; exact Or.inr ⟨by decide, ise, (dr_words hG s.drawn) _ v933, y_nc hY (by decide)⟩) (by decide) (by decide) ((dr_words hG s.drawn) _ v781) (y_cast hY (by decide)) hce hcv hcl ?_
      refine lv_astore_n hx hb dL_answer_15 rfl hl (by decide) rfl (fun ls2 _ => ?_)
      refine lv_iconst (v := 2) hx hb dL_answer_16 (by decide) ?_
      refine W.widen (k := 2) (n := 58) (by decide) (by decide) ?_
      exact hend H1 lo1 17 ls2 _ ((newG, newE, Dd, P, Z), o) 2 hd0 I1 hΨ dL_answer_17
set_option maxRecDepth 100000 in
set_option maxHeartbeats 4000000 in
theorem wL_compare (ao : Nat) (G : Nat → Nat → Int32) (E : Nat → Nat → Int64) (Dd : Nat → Nat → UInt64) (P : Nat → Option PRec) (Z : List PRec) (o : Nat → Int64) (hPZ : ∀ (k : Nat) (z : PRec), P k = some z → z ∈ Z) (hl0 : l.stackTraces = false) (a0 : Int32) (a1 : Int32) (a2 : Int32) (a3 : Int32) (Ψ : Int32 → CSt × (Nat → Int64) → Prop) (h : (∃ rv newG newP, C_LT_compare G P a0 a1 a2 a3 = some (rv, newG, newP) ∧ Ψ 0 ((newG, E, Dd, newP, Z), vp_updL o 0 rv.toInt64)) ∨ (∃ ex newG newE k, X_LT_compare G E P a0 a1 a2 a3 = some (ex, newG, newE) ∧ (ex, k) ∈ [(iob, 1), (iae, 2), (ise, 3)] ∧ Ψ k ((newG, newE, Dd, P, Z), o))) : wM D (cT cI cJ cD cS) (wJ ad ao cI cJ cD cS) l yL_compare (ws2 yL_compare cL_compare 7 (some .int) [(0, 14, 17, 18), (0, 14, 21, 13), (0, 14, 25, 28)]) rmW [.ref (ad 0), .int a0, .int a1, .int a2, .int a3, .ref ao] ((G, E, Dd, P, Z), o) Ψ := by
  refine wM_of (by decide) (Nat.le_of_ble_eq_true rfl) ?_
  intro p e R s m args below meth c A Q ls F hRf hRl hRc hRs htab I hY hl hend
  replace F : CallFix p m c cL_compare 7 s args gG RL := F
  obtain ⟨hx, hb, hml, hown, hG⟩ := id F
  have hd0 := Drawn.sameBut.refl s.drawn lw_cs
  replace hl : lv_has ls 7 [(0, .ref (ad 0)), (1, .int a0), (2, .int a1), (3, .int a2), (4, .int a3), (5, .ref ao)] := hl
  replace I : sInv D (cT cI cJ cD cS) (fW [(ao, .inl (cJ, 1, .inr (.inl o)))] (cW ad cI cJ cD cS)) A s s.heap [] (G, E, Dd, P, Z) := I
  refine lv_aload hx hb dL_compare_0 (lv_at hl 5 rfl) ?_
  refine lv_iconst (v := 0) hx hb dL_compare_2 (by decide) ?_
  refine lv_aload_n hx hb dL_compare_3 rfl (lv_at hl 0 rfl) ?_
  refine lv_iload_n hx hb dL_compare_4 rfl (lv_at hl 1 rfl) ?_
  refine lv_iload_n hx hb dL_compare_5 rfl (lv_at hl 2 rfl) ?_
  refine lv_iload_n hx hb dL_compare_6 rfl (lv_at hl 3 rfl) ?_
  refine lv_iload hx hb dL_compare_7 (lv_at hl 4 rfl) ?_
  rcases h with ⟨rv, newG, newP, hf, hΨ⟩ | ⟨ex, newG, newE, k, hf, hk, hΨ⟩
  · refine f_callVi (As := [.int a0, .int a1, .int a2, .int a3]) F I I.1 (cC_LT_compare G E Dd P Z hPZ a0 a1 a2 a3 rv newG newP hf) kL_34 ⟨rfl, rfl⟩ ⟨Nat.le_trans (by decide) hRf, Nat.le_trans (by decide) hRl⟩ 0 11 rfl rfl rfl rfl rfl hl.1 (Nat.le_of_ble_eq_true rfl) ⟨Nat.zero_le _, Nat.zero_le _⟩ dL_compare_9 (fun H1 lo1 I1 => ?_)
    refine lv_i2l hx hb dL_compare_12 rfl ?_
    refine va_last hx hb (Idr I1).1 I1.2.1 I1.2.2.1 I1.2.2.2.1 0 1 rfl rfl in01 dL_compare_13 (fun H2 lo2 hP hD hS => ?_)
    refine lv_goto (tgt := 29) hx hb dL_compare_14 (by decide) ?_
    refine lv_iconst (v := 0) hx hb dL_compare_29 (by decide) ?_
    refine W.widen (k := 2) (n := 58) (by decide) (by decide) ?_
    exact hend H2 lo2 30 ls _ ((newG, E, Dd, newP, Z), vp_updL o 0 rv.toInt64) 0 hd0 ⟨I1.1, hP, hD, hS, I1.2.2.2.2⟩ hΨ dL_compare_30
  · simp only [List.mem_cons, Prod.mk.injEq, List.not_mem_nil, or_false] at hk
    rcases hk with ⟨rfl, rfl⟩ | ⟨rfl, rfl⟩ | ⟨rfl, rfl⟩
    · refine f_callVX (As := [.int a0, .int a1, .int a2, .int a3]) F I I.1 hY.1 (xX_LT_compare G E Dd P Z hPZ hl0 a0 a1 a2 a3 _ newG newE hf) kL_34 ⟨rfl, rfl⟩ ⟨Nat.le_trans (by decide) hRf, Nat.le_trans (by decide) hRl⟩ 0 11 rfl rfl rfl rfl rfl hl.1 (Nat.le_of_ble_eq_true rfl) ⟨Nat.le_trans (by decide) hRc, Nat.le_trans (by decide) hRs⟩ dL_compare_9 (fun ce q9 H1 lo1 I1 hce hcv hcl => ?_)
      refine vx_catch (own := RL) (name := iob) (E := iob) hown [] ⟨0, 14, 17, 18⟩ [⟨0, 14, 21, 13⟩, ⟨0, 14, 25, 28⟩] htab (fun z hz => absurd hz List.not_mem_nil) (by decide) (by decide) ((dr_words hG s.drawn) _ v860) (y_cast hY (by decide)) hce hcv hcl ?_
      refine lv_astore hx hb dL_compare_17 hl (by decide) rfl (fun ls2 _ => ?_)
      refine lv_iconst (v := 1) hx hb dL_compare_19 (by decide) ?_
      refine W.widen (k := 2) (n := 58) (by decide) (by decide) ?_
      exact hend H1 lo1 20 ls2 _ ((newG, newE, Dd, P, Z), o) 1 hd0 I1 hΨ dL_compare_20
    · refine f_callVX (As := [.int a0, .int a1, .int a2, .int a3]) F I I.1 hY.1 (xX_LT_compare G E Dd P Z hPZ hl0 a0 a1 a2 a3 _ newG newE hf) kL_34 ⟨rfl, rfl⟩ ⟨Nat.le_trans (by decide) hRf, Nat.le_trans (by decide) hRl⟩ 0 11 rfl rfl rfl rfl rfl hl.1 (Nat.le_of_ble_eq_true rfl) ⟨Nat.le_trans (by decide) hRc, Nat.le_trans (by decide) hRs⟩ dL_compare_9 (fun ce q9 H1 lo1 I1 hce hcv hcl => ?_)
      refine vx_catch (own := RL) (name := iae) (E := iae) hown [⟨0, 14, 17, 18⟩] ⟨0, 14, 21, 13⟩ [⟨0, 14, 25, 28⟩] htab (fun z hz => by cases List.mem_singleton.mp hz; exact Or.inr ⟨by decide, iob, (dr_words hG s.drawn) _ v860, y_nc hY (by decide)⟩) (by decide) (by decide) ((dr_words hG s.drawn) _ v781) (y_cast hY (by decide)) hce hcv hcl ?_
      refine lv_astore hx hb dL_compare_21 hl (by decide) rfl (fun ls2 _ => ?_)
      refine lv_iconst (v := 2) hx hb dL_compare_23 (by decide) ?_
      refine W.widen (k := 2) (n := 58) (by decide) (by decide) ?_
      exact hend H1 lo1 24 ls2 _ ((newG, newE, Dd, P, Z), o) 2 hd0 I1 hΨ dL_compare_24
    · refine f_callVX (As := [.int a0, .int a1, .int a2, .int a3]) F I I.1 hY.1 (xX_LT_compare G E Dd P Z hPZ hl0 a0 a1 a2 a3 _ newG newE hf) kL_34 ⟨rfl, rfl⟩ ⟨Nat.le_trans (by decide) hRf, Nat.le_trans (by decide) hRl⟩ 0 11 rfl rfl rfl rfl rfl hl.1 (Nat.le_of_ble_eq_true rfl) ⟨Nat.le_trans (by decide) hRc, Nat.le_trans (by decide) hRs⟩ dL_compare_9 (fun ce q9 H1 lo1 I1 hce hcv hcl => ?_)
      refine vx_catch (own := RL) (name := ise) (E := ise) hown [⟨0, 14, 17, 18⟩, ⟨0, 14, 21, 13⟩] ⟨0, 14, 25, 28⟩ [] htab (fun z hz => by
        simp only [List.mem_cons, List.not_mem_nil, or_false] at hz
        rcases hz with rfl | rfl
        · exact Or.inr ⟨by decide, iob, (dr_words hG s.drawn) _ v860, y_nc hY (by decide)⟩
        · exact Or.inr ⟨by decide, iae, (dr_words hG s.drawn) _ v781, y_nc hY (by decide)⟩) (by decide) (by decide) ((dr_words hG s.drawn) _ v933) (y_cast hY (by decide)) hce hcv hcl ?_
      refine lv_astore hx hb dL_compare_25 hl (by decide) rfl (fun ls2 _ => ?_)
      refine lv_iconst (v := 3) hx hb dL_compare_27 (by decide) ?_
      refine W.widen (k := 2) (n := 58) (by decide) (by decide) ?_
      exact hend H1 lo1 28 ls2 _ ((newG, newE, Dd, P, Z), o) 3 hd0 I1 hΨ dL_compare_28
set_option maxRecDepth 100000 in
set_option maxHeartbeats 4000000 in
theorem wL_remove (ao : Nat) (G : Nat → Nat → Int32) (E : Nat → Nat → Int64) (Dd : Nat → Nat → UInt64) (P : Nat → Option PRec) (Z : List PRec) (o : Nat → Int64) (hPZ : ∀ (k : Nat) (z : PRec), P k = some z → z ∈ Z) (hl0 : l.stackTraces = false) (a0 : Int32) (Ψ : Int32 → CSt × (Nat → Int64) → Prop) (h : (∃ rv newG newP, C_LT_remove G P a0 = some (rv, newG, newP) ∧ Ψ 0 ((newG, E, Dd, newP, Z), vp_updL o 0 rv.toInt64)) ∨ (∃ ex newG newE k, X_LT_remove G E P a0 = some (ex, newG, newE) ∧ (ex, k) ∈ [(iob, 1)] ∧ Ψ k ((newG, newE, Dd, P, Z), o))) : wM D (cT cI cJ cD cS) (wJ ad ao cI cJ cD cS) l yL_remove (ws2 yL_remove cL_remove 4 (some .int) [(0, 9, 12, 18)]) rmW [.ref (ad 0), .int a0, .ref ao] ((G, E, Dd, P, Z), o) Ψ := by
  refine wM_of (by decide) (Nat.le_of_ble_eq_true rfl) ?_
  intro p e R s m args below meth c A Q ls F hRf hRl hRc hRs htab I hY hl hend
  replace F : CallFix p m c cL_remove 4 s args gG RL := F
  obtain ⟨hx, hb, hml, hown, hG⟩ := id F
  have hd0 := Drawn.sameBut.refl s.drawn lw_cs
  replace hl : lv_has ls 4 [(0, .ref (ad 0)), (1, .int a0), (2, .ref ao)] := hl
  replace I : sInv D (cT cI cJ cD cS) (fW [(ao, .inl (cJ, 1, .inr (.inl o)))] (cW ad cI cJ cD cS)) A s s.heap [] (G, E, Dd, P, Z) := I
  refine lv_aload_n hx hb dL_remove_0 rfl (lv_at hl 2 rfl) ?_
  refine lv_iconst (v := 0) hx hb dL_remove_1 (by decide) ?_
  refine lv_aload_n hx hb dL_remove_2 rfl (lv_at hl 0 rfl) ?_
  refine lv_iload_n hx hb dL_remove_3 rfl (lv_at hl 1 rfl) ?_
  rcases h with ⟨rv, newG, newP, hf, hΨ⟩ | ⟨ex, newG, newE, k, hf, hk, hΨ⟩
  · refine f_callVi (As := [.int a0]) F I I.1 (cC_LT_remove G E Dd P Z hPZ a0 rv newG newP hf) kL_38 ⟨rfl, rfl⟩ ⟨Nat.le_trans (by decide) hRf, Nat.le_trans (by decide) hRl⟩ 0 11 rfl rfl rfl rfl rfl hl.1 (Nat.le_of_ble_eq_true rfl) ⟨Nat.zero_le _, Nat.zero_le _⟩ dL_remove_4 (fun H1 lo1 I1 => ?_)
    refine lv_i2l hx hb dL_remove_7 rfl ?_
    refine va_last hx hb (Idr I1).1 I1.2.1 I1.2.2.1 I1.2.2.2.1 0 1 rfl rfl in01 dL_remove_8 (fun H2 lo2 hP hD hS => ?_)
    refine lv_goto (tgt := 15) hx hb dL_remove_9 (by decide) ?_
    refine lv_iconst (v := 0) hx hb dL_remove_15 (by decide) ?_
    refine W.widen (k := 2) (n := 58) (by decide) (by decide) ?_
    exact hend H2 lo2 16 ls _ ((newG, E, Dd, newP, Z), vp_updL o 0 rv.toInt64) 0 hd0 ⟨I1.1, hP, hD, hS, I1.2.2.2.2⟩ hΨ dL_remove_16
  · simp only [List.mem_cons, Prod.mk.injEq, List.not_mem_nil, or_false] at hk
    obtain ⟨rfl, rfl⟩ := hk
    refine f_callVX (As := [.int a0]) F I I.1 hY.1 (xX_LT_remove G E Dd P Z hPZ hl0 a0 _ newG newE hf) kL_38 ⟨rfl, rfl⟩ ⟨Nat.le_trans (by decide) hRf, Nat.le_trans (by decide) hRl⟩ 0 11 rfl rfl rfl rfl rfl hl.1 (Nat.le_of_ble_eq_true rfl) ⟨Nat.le_trans (by decide) hRc, Nat.le_trans (by decide) hRs⟩ dL_remove_4 (fun ce q9 H1 lo1 I1 hce hcv hcl => ?_)
    refine vx_catch (own := RL) (name := iob) (E := iob) hown [] ⟨0, 9, 12, 18⟩ [] htab (fun z hz => absurd hz List.not_mem_nil) (by decide) (by decide) ((dr_words hG s.drawn) _ v860) (y_cast hY (by decide)) hce hcv hcl ?_
    refine lv_astore_n hx hb dL_remove_12 rfl hl (by decide) rfl (fun ls2 _ => ?_)
    refine lv_iconst (v := 1) hx hb dL_remove_13 (by decide) ?_
    refine W.widen (k := 2) (n := 58) (by decide) (by decide) ?_
    exact hend H1 lo1 14 ls2 _ ((newG, newE, Dd, P, Z), o) 1 hd0 I1 hΨ dL_remove_14
set_option maxRecDepth 100000 in
set_option maxHeartbeats 4000000 in
theorem wL_undo (ao : Nat) (G : Nat → Nat → Int32) (E : Nat → Nat → Int64) (Dd : Nat → Nat → UInt64) (P : Nat → Option PRec) (Z : List PRec) (o : Nat → Int64) (hPZ : ∀ (k : Nat) (z : PRec), P k = some z → z ∈ Z) (hl0 : l.stackTraces = false) (Ψ : Int32 → CSt × (Nat → Int64) → Prop) (h : (∃ rv newG newP, C_LT_undo G P = some (rv, newG, newP) ∧ Ψ 0 ((newG, E, Dd, newP, Z), vp_updL o 0 rv.toInt64)) ∨ (∃ ex newG newE k, X_LT_undo G E P = some (ex, newG, newE) ∧ (ex, k) ∈ [(ise, 1)] ∧ Ψ k ((newG, newE, Dd, P, Z), o))) : wM D (cT cI cJ cD cS) (wJ ad ao cI cJ cD cS) l yL_undo (ws2 yL_undo cL_undo 3 (some .int) [(0, 8, 11, 28)]) rmW [.ref (ad 0), .ref ao] ((G, E, Dd, P, Z), o) Ψ := by
  refine wM_of (by decide) (Nat.le_of_ble_eq_true rfl) ?_
  intro p e R s m args below meth c A Q ls F hRf hRl hRc hRs htab I hY hl hend
  replace F : CallFix p m c cL_undo 3 s args gG RL := F
  obtain ⟨hx, hb, hml, hown, hG⟩ := id F
  have hd0 := Drawn.sameBut.refl s.drawn lw_cs
  replace hl : lv_has ls 3 [(0, .ref (ad 0)), (1, .ref ao)] := hl
  replace I : sInv D (cT cI cJ cD cS) (fW [(ao, .inl (cJ, 1, .inr (.inl o)))] (cW ad cI cJ cD cS)) A s s.heap [] (G, E, Dd, P, Z) := I
  refine lv_aload_n hx hb dL_undo_0 rfl (lv_at hl 1 rfl) ?_
  refine lv_iconst (v := 0) hx hb dL_undo_1 (by decide) ?_
  refine lv_aload_n hx hb dL_undo_2 rfl (lv_at hl 0 rfl) ?_
  rcases h with ⟨rv, newG, newP, hf, hΨ⟩ | ⟨ex, newG, newE, k, hf, hk, hΨ⟩
  · refine f_callVi (As := []) F I I.1 (cC_LT_undo G E Dd P Z hPZ  rv newG newP hf) kL_41 ⟨rfl, rfl⟩ ⟨Nat.le_trans (by decide) hRf, Nat.le_trans (by decide) hRl⟩ 0 11 rfl rfl rfl rfl rfl hl.1 (Nat.le_of_ble_eq_true rfl) ⟨Nat.zero_le _, Nat.zero_le _⟩ dL_undo_3 (fun H1 lo1 I1 => ?_)
    refine lv_i2l hx hb dL_undo_6 rfl ?_
    refine va_last hx hb (Idr I1).1 I1.2.1 I1.2.2.1 I1.2.2.2.1 0 1 rfl rfl in01 dL_undo_7 (fun H2 lo2 hP hD hS => ?_)
    refine lv_goto (tgt := 14) hx hb dL_undo_8 (by decide) ?_
    refine lv_iconst (v := 0) hx hb dL_undo_14 (by decide) ?_
    refine W.widen (k := 2) (n := 58) (by decide) (by decide) ?_
    exact hend H2 lo2 15 ls _ ((newG, E, Dd, newP, Z), vp_updL o 0 rv.toInt64) 0 hd0 ⟨I1.1, hP, hD, hS, I1.2.2.2.2⟩ hΨ dL_undo_15
  · simp only [List.mem_cons, Prod.mk.injEq, List.not_mem_nil, or_false] at hk
    obtain ⟨rfl, rfl⟩ := hk
    refine f_callVX (As := []) F I I.1 hY.1 (xX_LT_undo G E Dd P Z hPZ hl0  _ newG newE hf) kL_41 ⟨rfl, rfl⟩ ⟨Nat.le_trans (by decide) hRf, Nat.le_trans (by decide) hRl⟩ 0 11 rfl rfl rfl rfl rfl hl.1 (Nat.le_of_ble_eq_true rfl) ⟨Nat.le_trans (by decide) hRc, Nat.le_trans (by decide) hRs⟩ dL_undo_3 (fun ce q9 H1 lo1 I1 hce hcv hcl => ?_)
    refine vx_catch (own := RL) (name := ise) (E := ise) hown [] ⟨0, 8, 11, 28⟩ [] htab (fun z hz => absurd hz List.not_mem_nil) (by decide) (by decide) ((dr_words hG s.drawn) _ v933) (y_cast hY (by decide)) hce hcv hcl ?_
    refine lv_astore_n hx hb dL_undo_11 rfl hl (by decide) rfl (fun ls2 _ => ?_)
    refine lv_iconst (v := 1) hx hb dL_undo_12 (by decide) ?_
    refine W.widen (k := 2) (n := 58) (by decide) (by decide) ?_
    exact hend H1 lo1 13 ls2 _ ((newG, newE, Dd, P, Z), o) 1 hd0 I1 hΨ dL_undo_13
set_option maxRecDepth 100000 in
set_option maxHeartbeats 4000000 in
theorem wL_append (ao : Nat) (G : Nat → Nat → Int32) (E : Nat → Nat → Int64) (Dd : Nat → Nat → UInt64) (P : Nat → Option PRec) (Z : List PRec) (o : Nat → Int64) (hPZ : ∀ (k : Nat) (z : PRec), P k = some z → z ∈ Z) (hl0 : l.stackTraces = false) (a0 : Int32) (Ψ : Int32 → CSt × (Nat → Int64) → Prop) (h : (∃ rv newG, C_LT_append G a0 = some (rv, newG) ∧ Ψ 0 ((newG, E, Dd, P, Z), vp_updL o 0 rv.toInt64)) ∨ (∃ ex newG newE k, X_LT_append G E a0 = some (ex, newG, newE) ∧ (ex, k) ∈ [(iae, 1), (ise, 2)] ∧ Ψ k ((newG, newE, Dd, P, Z), o))) : wM D (cT cI cJ cD cS) (wJ ad ao cI cJ cD cS) l yL_append (ws2 yL_append cL_append 4 (some .int) [(0, 9, 12, 13), (0, 9, 15, 28)]) rmW [.ref (ad 0), .int a0, .ref ao] ((G, E, Dd, P, Z), o) Ψ := by
  refine wM_of (by decide) (Nat.le_of_ble_eq_true rfl) ?_
  intro p e R s m args below meth c A Q ls F hRf hRl hRc hRs htab I hY hl hend
  replace F : CallFix p m c cL_append 4 s args gG RL := F
  obtain ⟨hx, hb, hml, hown, hG⟩ := id F
  have hd0 := Drawn.sameBut.refl s.drawn lw_cs
  replace hl : lv_has ls 4 [(0, .ref (ad 0)), (1, .int a0), (2, .ref ao)] := hl
  replace I : sInv D (cT cI cJ cD cS) (fW [(ao, .inl (cJ, 1, .inr (.inl o)))] (cW ad cI cJ cD cS)) A s s.heap [] (G, E, Dd, P, Z) := I
  refine lv_aload_n hx hb dL_append_0 rfl (lv_at hl 2 rfl) ?_
  refine lv_iconst (v := 0) hx hb dL_append_1 (by decide) ?_
  refine lv_aload_n hx hb dL_append_2 rfl (lv_at hl 0 rfl) ?_
  refine lv_iload_n hx hb dL_append_3 rfl (lv_at hl 1 rfl) ?_
  rcases h with ⟨rv, newG, hf, hΨ⟩ | ⟨ex, newG, newE, k, hf, hk, hΨ⟩
  · refine f_callVi (As := [.int a0]) F I I.1 (cC_LT_append G E Dd P Z a0 rv newG hf) kL_45 ⟨rfl, rfl⟩ ⟨Nat.le_trans (by decide) hRf, Nat.le_trans (by decide) hRl⟩ 0 11 rfl rfl rfl rfl rfl hl.1 (Nat.le_of_ble_eq_true rfl) ⟨Nat.zero_le _, Nat.zero_le _⟩ dL_append_4 (fun H1 lo1 I1 => ?_)
    refine lv_i2l hx hb dL_append_7 rfl ?_
    refine va_last hx hb (Idr I1).1 I1.2.1 I1.2.2.1 I1.2.2.2.1 0 1 rfl rfl in01 dL_append_8 (fun H2 lo2 hP hD hS => ?_)
    refine lv_goto (tgt := 18) hx hb dL_append_9 (by decide) ?_
    refine lv_iconst (v := 0) hx hb dL_append_18 (by decide) ?_
    refine W.widen (k := 2) (n := 58) (by decide) (by decide) ?_
    exact hend H2 lo2 19 ls _ ((newG, E, Dd, P, Z), vp_updL o 0 rv.toInt64) 0 hd0 ⟨I1.1, hP, hD, hS, I1.2.2.2.2⟩ hΨ dL_append_19
  · simp only [List.mem_cons, Prod.mk.injEq, List.not_mem_nil, or_false] at hk
    rcases hk with ⟨rfl, rfl⟩ | ⟨rfl, rfl⟩
    · refine f_callVX (As := [.int a0]) F I I.1 hY.1 (xX_LT_append G E Dd P Z hl0 a0 _ newG newE hf) kL_45 ⟨rfl, rfl⟩ ⟨Nat.le_trans (by decide) hRf, Nat.le_trans (by decide) hRl⟩ 0 11 rfl rfl rfl rfl rfl hl.1 (Nat.le_of_ble_eq_true rfl) ⟨Nat.le_trans (by decide) hRc, Nat.le_trans (by decide) hRs⟩ dL_append_4 (fun ce q9 H1 lo1 I1 hce hcv hcl => ?_)
      refine vx_catch (own := RL) (name := iae) (E := iae) hown [] ⟨0, 9, 12, 13⟩ [⟨0, 9, 15, 28⟩] htab (fun z hz => absurd hz List.not_mem_nil) (by decide) (by decide) ((dr_words hG s.drawn) _ v781) (y_cast hY (by decide)) hce hcv hcl ?_
      refine lv_astore_n hx hb dL_append_12 rfl hl (by decide) rfl (fun ls2 _ => ?_)
      refine lv_iconst (v := 1) hx hb dL_append_13 (by decide) ?_
      refine W.widen (k := 2) (n := 58) (by decide) (by decide) ?_
      exact hend H1 lo1 14 ls2 _ ((newG, newE, Dd, P, Z), o) 1 hd0 I1 hΨ dL_append_14
    · refine f_callVX (As := [.int a0]) F I I.1 hY.1 (xX_LT_append G E Dd P Z hl0 a0 _ newG newE hf) kL_45 ⟨rfl, rfl⟩ ⟨Nat.le_trans (by decide) hRf, Nat.le_trans (by decide) hRl⟩ 0 11 rfl rfl rfl rfl rfl hl.1 (Nat.le_of_ble_eq_true rfl) ⟨Nat.le_trans (by decide) hRc, Nat.le_trans (by decide) hRs⟩ dL_append_4 (fun ce q9 H1 lo1 I1 hce hcv hcl => ?_)
      refine vx_catch (own := RL) (name := ise) (E := ise) hown [⟨0, 9, 12, 13⟩] ⟨0, 9, 15, 28⟩ [] htab (fun z hz => by cases List.mem_singleton.mp hz; exact Or.inr ⟨by decide, iae, (dr_words hG s.drawn) _ v781, y_nc hY (by decide)⟩) (by decide) (by decide) ((dr_words hG s.drawn) _ v933) (y_cast hY (by decide)) hce hcv hcl ?_
      refine lv_astore_n hx hb dL_append_15 rfl hl (by decide) rfl (fun ls2 _ => ?_)
      refine lv_iconst (v := 2) hx hb dL_append_16 (by decide) ?_
      refine W.widen (k := 2) (n := 58) (by decide) (by decide) ?_
      exact hend H1 lo1 17 ls2 _ ((newG, newE, Dd, P, Z), o) 2 hd0 I1 hΨ dL_append_17
set_option maxRecDepth 100000 in
set_option maxHeartbeats 4000000 in
theorem wL_load (ao : Nat) (G : Nat → Nat → Int32) (E : Nat → Nat → Int64) (Dd : Nat → Nat → UInt64) (P : Nat → Option PRec) (Z : List PRec) (o : Nat → Int64) (hPZ : ∀ (k : Nat) (z : PRec), P k = some z → z ∈ Z) (hl0 : l.stackTraces = false) (Ψ : Int32 → CSt × (Nat → Int64) → Prop) (h : (∃ rv newG newP, C_LT_load G P = some (rv, newG, newP) ∧ Ψ 0 ((newG, E, Dd, newP, Z), vp_updL o 0 rv.toInt64)) ∨ (∃ ex newG newE k, X_LT_load G E P = some (ex, newG, newE) ∧ (ex, k) ∈ [(iae, 1), (ise, 2)] ∧ Ψ k ((newG, newE, Dd, P, Z), o))) : wM D (cT cI cJ cD cS) (wJ ad ao cI cJ cD cS) l yL_load (ws2 yL_load cL_load 3 (some .int) [(0, 8, 11, 13), (0, 8, 14, 28)]) rmW [.ref (ad 0), .ref ao] ((G, E, Dd, P, Z), o) Ψ := by
  refine wM_of (by decide) (Nat.le_of_ble_eq_true rfl) ?_
  intro p e R s m args below meth c A Q ls F hRf hRl hRc hRs htab I hY hl hend
  replace F : CallFix p m c cL_load 3 s args gG RL := F
  obtain ⟨hx, hb, hml, hown, hG⟩ := id F
  have hd0 := Drawn.sameBut.refl s.drawn lw_cs
  replace hl : lv_has ls 3 [(0, .ref (ad 0)), (1, .ref ao)] := hl
  replace I : sInv D (cT cI cJ cD cS) (fW [(ao, .inl (cJ, 1, .inr (.inl o)))] (cW ad cI cJ cD cS)) A s s.heap [] (G, E, Dd, P, Z) := I
  refine lv_aload_n hx hb dL_load_0 rfl (lv_at hl 1 rfl) ?_
  refine lv_iconst (v := 0) hx hb dL_load_1 (by decide) ?_
  refine lv_aload_n hx hb dL_load_2 rfl (lv_at hl 0 rfl) ?_
  rcases h with ⟨rv, newG, newP, hf, hΨ⟩ | ⟨ex, newG, newE, k, hf, hk, hΨ⟩
  · refine f_callVi (As := []) F I I.1 (cC_LT_load G E Dd P Z hPZ  rv newG newP hf) kL_48 ⟨rfl, rfl⟩ ⟨Nat.le_trans (by decide) hRf, Nat.le_trans (by decide) hRl⟩ 0 11 rfl rfl rfl rfl rfl hl.1 (Nat.le_of_ble_eq_true rfl) ⟨Nat.zero_le _, Nat.zero_le _⟩ dL_load_3 (fun H1 lo1 I1 => ?_)
    refine lv_i2l hx hb dL_load_6 rfl ?_
    refine va_last hx hb (Idr I1).1 I1.2.1 I1.2.2.1 I1.2.2.2.1 0 1 rfl rfl in01 dL_load_7 (fun H2 lo2 hP hD hS => ?_)
    refine lv_goto (tgt := 17) hx hb dL_load_8 (by decide) ?_
    refine lv_iconst (v := 0) hx hb dL_load_17 (by decide) ?_
    refine W.widen (k := 2) (n := 58) (by decide) (by decide) ?_
    exact hend H2 lo2 18 ls _ ((newG, E, Dd, newP, Z), vp_updL o 0 rv.toInt64) 0 hd0 ⟨I1.1, hP, hD, hS, I1.2.2.2.2⟩ hΨ dL_load_18
  · simp only [List.mem_cons, Prod.mk.injEq, List.not_mem_nil, or_false] at hk
    rcases hk with ⟨rfl, rfl⟩ | ⟨rfl, rfl⟩
    · refine f_callVX (As := []) F I I.1 hY.1 (xX_LT_load G E Dd P Z hPZ hl0  _ newG newE hf) kL_48 ⟨rfl, rfl⟩ ⟨Nat.le_trans (by decide) hRf, Nat.le_trans (by decide) hRl⟩ 0 11 rfl rfl rfl rfl rfl hl.1 (Nat.le_of_ble_eq_true rfl) ⟨Nat.le_trans (by decide) hRc, Nat.le_trans (by decide) hRs⟩ dL_load_3 (fun ce q9 H1 lo1 I1 hce hcv hcl => ?_)
      refine vx_catch (own := RL) (name := iae) (E := iae) hown [] ⟨0, 8, 11, 13⟩ [⟨0, 8, 14, 28⟩] htab (fun z hz => absurd hz List.not_mem_nil) (by decide) (by decide) ((dr_words hG s.drawn) _ v781) (y_cast hY (by decide)) hce hcv hcl ?_
      refine lv_astore_n hx hb dL_load_11 rfl hl (by decide) rfl (fun ls2 _ => ?_)
      refine lv_iconst (v := 1) hx hb dL_load_12 (by decide) ?_
      refine W.widen (k := 2) (n := 58) (by decide) (by decide) ?_
      exact hend H1 lo1 13 ls2 _ ((newG, newE, Dd, P, Z), o) 1 hd0 I1 hΨ dL_load_13
    · refine f_callVX (As := []) F I I.1 hY.1 (xX_LT_load G E Dd P Z hPZ hl0  _ newG newE hf) kL_48 ⟨rfl, rfl⟩ ⟨Nat.le_trans (by decide) hRf, Nat.le_trans (by decide) hRl⟩ 0 11 rfl rfl rfl rfl rfl hl.1 (Nat.le_of_ble_eq_true rfl) ⟨Nat.le_trans (by decide) hRc, Nat.le_trans (by decide) hRs⟩ dL_load_3 (fun ce q9 H1 lo1 I1 hce hcv hcl => ?_)
      refine vx_catch (own := RL) (name := ise) (E := ise) hown [⟨0, 8, 11, 13⟩] ⟨0, 8, 14, 28⟩ [] htab (fun z hz => by cases List.mem_singleton.mp hz; exact Or.inr ⟨by decide, iae, (dr_words hG s.drawn) _ v781, y_nc hY (by decide)⟩) (by decide) (by decide) ((dr_words hG s.drawn) _ v933) (y_cast hY (by decide)) hce hcv hcl ?_
      refine lv_astore_n hx hb dL_load_14 rfl hl (by decide) rfl (fun ls2 _ => ?_)
      refine lv_iconst (v := 2) hx hb dL_load_15 (by decide) ?_
      refine W.widen (k := 2) (n := 58) (by decide) (by decide) ?_
      exact hend H1 lo1 16 ls2 _ ((newG, newE, Dd, P, Z), o) 2 hd0 I1 hΨ dL_load_16
set_option maxRecDepth 100000 in
set_option maxHeartbeats 4000000 in
theorem wL_count (ao : Nat) (G : Nat → Nat → Int32) (E : Nat → Nat → Int64) (Dd : Nat → Nat → UInt64) (P : Nat → Option PRec) (Z : List PRec) (o : Nat → Int64) (hPZ : ∀ (k : Nat) (z : PRec), P k = some z → z ∈ Z) (hl0 : l.stackTraces = false) (a0 : Int32) (Ψ : Int32 → CSt × (Nat → Int64) → Prop) (h : (∃ rv, C_LT_count G P a0 = some rv ∧ Ψ 0 ((G, E, Dd, P, Z), vp_updL o 0 rv.toInt64)) ∨ (∃ ex newG newE k, X_LT_count G E P a0 = some (ex, newG, newE) ∧ (ex, k) ∈ [(iae, 1)] ∧ Ψ k ((newG, newE, Dd, P, Z), o))) : wM D (cT cI cJ cD cS) (wJ ad ao cI cJ cD cS) l yL_count (ws2 yL_count cL_count 4 (some .int) [(0, 9, 12, 13)]) rmW [.ref (ad 0), .int a0, .ref ao] ((G, E, Dd, P, Z), o) Ψ := by
  refine wM_of (by decide) (Nat.le_of_ble_eq_true rfl) ?_
  intro p e R s m args below meth c A Q ls F hRf hRl hRc hRs htab I hY hl hend
  replace F : CallFix p m c cL_count 4 s args gG RL := F
  obtain ⟨hx, hb, hml, hown, hG⟩ := id F
  have hd0 := Drawn.sameBut.refl s.drawn lw_cs
  replace hl : lv_has ls 4 [(0, .ref (ad 0)), (1, .int a0), (2, .ref ao)] := hl
  replace I : sInv D (cT cI cJ cD cS) (fW [(ao, .inl (cJ, 1, .inr (.inl o)))] (cW ad cI cJ cD cS)) A s s.heap [] (G, E, Dd, P, Z) := I
  refine lv_aload_n hx hb dL_count_0 rfl (lv_at hl 2 rfl) ?_
  refine lv_iconst (v := 0) hx hb dL_count_1 (by decide) ?_
  refine lv_aload_n hx hb dL_count_2 rfl (lv_at hl 0 rfl) ?_
  refine lv_iload_n hx hb dL_count_3 rfl (lv_at hl 1 rfl) ?_
  rcases h with ⟨rv, hf, hΨ⟩ | ⟨ex, newG, newE, k, hf, hk, hΨ⟩
  · refine f_callVi (As := [.int a0]) F I I.1 (cC_LT_count G E Dd P Z hPZ a0 rv hf) kL_51 ⟨rfl, rfl⟩ ⟨Nat.le_trans (by decide) hRf, Nat.le_trans (by decide) hRl⟩ 0 11 rfl rfl rfl rfl rfl hl.1 (Nat.le_of_ble_eq_true rfl) ⟨Nat.zero_le _, Nat.zero_le _⟩ dL_count_4 (fun H1 lo1 I1 => ?_)
    refine lv_i2l hx hb dL_count_7 rfl ?_
    refine va_last hx hb (Idr I1).1 I1.2.1 I1.2.2.1 I1.2.2.2.1 0 1 rfl rfl in01 dL_count_8 (fun H2 lo2 hP hD hS => ?_)
    refine lv_goto (tgt := 15) hx hb dL_count_9 (by decide) ?_
    refine lv_iconst (v := 0) hx hb dL_count_15 (by decide) ?_
    refine W.widen (k := 2) (n := 58) (by decide) (by decide) ?_
    exact hend H2 lo2 16 ls _ ((G, E, Dd, P, Z), vp_updL o 0 rv.toInt64) 0 hd0 ⟨I1.1, hP, hD, hS, I1.2.2.2.2⟩ hΨ dL_count_16
  · simp only [List.mem_cons, Prod.mk.injEq, List.not_mem_nil, or_false] at hk
    obtain ⟨rfl, rfl⟩ := hk
    refine f_callVX (As := [.int a0]) F I I.1 hY.1 (xX_LT_count G E Dd P Z hPZ hl0 a0 _ newG newE hf) kL_51 ⟨rfl, rfl⟩ ⟨Nat.le_trans (by decide) hRf, Nat.le_trans (by decide) hRl⟩ 0 11 rfl rfl rfl rfl rfl hl.1 (Nat.le_of_ble_eq_true rfl) ⟨Nat.le_trans (by decide) hRc, Nat.le_trans (by decide) hRs⟩ dL_count_4 (fun ce q9 H1 lo1 I1 hce hcv hcl => ?_)
    refine vx_catch (own := RL) (name := iae) (E := iae) hown [] ⟨0, 9, 12, 13⟩ [] htab (fun z hz => absurd hz List.not_mem_nil) (by decide) (by decide) ((dr_words hG s.drawn) _ v781) (y_cast hY (by decide)) hce hcv hcl ?_
    refine lv_astore_n hx hb dL_count_12 rfl hl (by decide) rfl (fun ls2 _ => ?_)
    refine lv_iconst (v := 1) hx hb dL_count_13 (by decide) ?_
    refine W.widen (k := 2) (n := 58) (by decide) (by decide) ?_
    exact hend H1 lo1 14 ls2 _ ((newG, newE, Dd, P, Z), o) 1 hd0 I1 hΨ dL_count_14
set_option maxRecDepth 100000 in
set_option maxHeartbeats 4000000 in
theorem wL_comparison (ao : Nat) (G : Nat → Nat → Int32) (E : Nat → Nat → Int64) (Dd : Nat → Nat → UInt64) (P : Nat → Option PRec) (Z : List PRec) (o : Nat → Int64) (hPZ : ∀ (k : Nat) (z : PRec), P k = some z → z ∈ Z) (hl0 : l.stackTraces = false) (a0 : Int32) (a1 : Int32) (Ψ : Int32 → CSt × (Nat → Int64) → Prop) (h : (∃ rv, C_LT_comparison G a0 a1 = some rv ∧ Ψ 0 ((G, E, Dd, P, Z), vp_updL o 0 rv.toInt64)) ∨ (∃ ex newG newE k, X_LT_comparison G E a0 a1 = some (ex, newG, newE) ∧ (ex, k) ∈ [(iob, 1), (iae, 2)] ∧ Ψ k ((newG, newE, Dd, P, Z), o))) : wM D (cT cI cJ cD cS) (wJ ad ao cI cJ cD cS) l yL_comparison (ws2 yL_comparison cL_comparison 5 (some .int) [(0, 10, 13, 18), (0, 10, 17, 13)]) rmW [.ref (ad 0), .int a0, .int a1, .ref ao] ((G, E, Dd, P, Z), o) Ψ := by
  refine wM_of (by decide) (Nat.le_of_ble_eq_true rfl) ?_
  intro p e R s m args below meth c A Q ls F hRf hRl hRc hRs htab I hY hl hend
  replace F : CallFix p m c cL_comparison 5 s args gG RL := F
  obtain ⟨hx, hb, hml, hown, hG⟩ := id F
  have hd0 := Drawn.sameBut.refl s.drawn lw_cs
  replace hl : lv_has ls 5 [(0, .ref (ad 0)), (1, .int a0), (2, .int a1), (3, .ref ao)] := hl
  replace I : sInv D (cT cI cJ cD cS) (fW [(ao, .inl (cJ, 1, .inr (.inl o)))] (cW ad cI cJ cD cS)) A s s.heap [] (G, E, Dd, P, Z) := I
  refine lv_aload_n hx hb dL_comparison_0 rfl (lv_at hl 3 rfl) ?_
  refine lv_iconst (v := 0) hx hb dL_comparison_1 (by decide) ?_
  refine lv_aload_n hx hb dL_comparison_2 rfl (lv_at hl 0 rfl) ?_
  refine lv_iload_n hx hb dL_comparison_3 rfl (lv_at hl 1 rfl) ?_
  refine lv_iload_n hx hb dL_comparison_4 rfl (lv_at hl 2 rfl) ?_
  rcases h with ⟨rv, hf, hΨ⟩ | ⟨ex, newG, newE, k, hf, hk, hΨ⟩
  · refine f_callVi (As := [.int a0, .int a1]) F I I.1 (cC_LT_comparison G E Dd P Z a0 a1 rv hf) kL_54 ⟨rfl, rfl⟩ ⟨Nat.le_trans (by decide) hRf, Nat.le_trans (by decide) hRl⟩ 0 11 rfl rfl rfl rfl rfl hl.1 (Nat.le_of_ble_eq_true rfl) ⟨Nat.zero_le _, Nat.zero_le _⟩ dL_comparison_5 (fun H1 lo1 I1 => ?_)
    refine lv_i2l hx hb dL_comparison_8 rfl ?_
    refine va_last hx hb (Idr I1).1 I1.2.1 I1.2.2.1 I1.2.2.2.1 0 1 rfl rfl in01 dL_comparison_9 (fun H2 lo2 hP hD hS => ?_)
    refine lv_goto (tgt := 21) hx hb dL_comparison_10 (by decide) ?_
    refine lv_iconst (v := 0) hx hb dL_comparison_21 (by decide) ?_
    refine W.widen (k := 2) (n := 58) (by decide) (by decide) ?_
    exact hend H2 lo2 22 ls _ ((G, E, Dd, P, Z), vp_updL o 0 rv.toInt64) 0 hd0 ⟨I1.1, hP, hD, hS, I1.2.2.2.2⟩ hΨ dL_comparison_22
  · simp only [List.mem_cons, Prod.mk.injEq, List.not_mem_nil, or_false] at hk
    rcases hk with ⟨rfl, rfl⟩ | ⟨rfl, rfl⟩
    · refine f_callVX (As := [.int a0, .int a1]) F I I.1 hY.1 (xX_LT_comparison G E Dd P Z hl0 a0 a1 _ newG newE hf) kL_54 ⟨rfl, rfl⟩ ⟨Nat.le_trans (by decide) hRf, Nat.le_trans (by decide) hRl⟩ 0 11 rfl rfl rfl rfl rfl hl.1 (Nat.le_of_ble_eq_true rfl) ⟨Nat.le_trans (by decide) hRc, Nat.le_trans (by decide) hRs⟩ dL_comparison_5 (fun ce q9 H1 lo1 I1 hce hcv hcl => ?_)
      refine vx_catch (own := RL) (name := iob) (E := iob) hown [] ⟨0, 10, 13, 18⟩ [⟨0, 10, 17, 13⟩] htab (fun z hz => absurd hz List.not_mem_nil) (by decide) (by decide) ((dr_words hG s.drawn) _ v860) (y_cast hY (by decide)) hce hcv hcl ?_
      refine lv_astore hx hb dL_comparison_13 hl (by decide) rfl (fun ls2 _ => ?_)
      refine lv_iconst (v := 1) hx hb dL_comparison_15 (by decide) ?_
      refine W.widen (k := 2) (n := 58) (by decide) (by decide) ?_
      exact hend H1 lo1 16 ls2 _ ((newG, newE, Dd, P, Z), o) 1 hd0 I1 hΨ dL_comparison_16
    · refine f_callVX (As := [.int a0, .int a1]) F I I.1 hY.1 (xX_LT_comparison G E Dd P Z hl0 a0 a1 _ newG newE hf) kL_54 ⟨rfl, rfl⟩ ⟨Nat.le_trans (by decide) hRf, Nat.le_trans (by decide) hRl⟩ 0 11 rfl rfl rfl rfl rfl hl.1 (Nat.le_of_ble_eq_true rfl) ⟨Nat.le_trans (by decide) hRc, Nat.le_trans (by decide) hRs⟩ dL_comparison_5 (fun ce q9 H1 lo1 I1 hce hcv hcl => ?_)
      refine vx_catch (own := RL) (name := iae) (E := iae) hown [⟨0, 10, 13, 18⟩] ⟨0, 10, 17, 13⟩ [] htab (fun z hz => by cases List.mem_singleton.mp hz; exact Or.inr ⟨by decide, iob, (dr_words hG s.drawn) _ v860, y_nc hY (by decide)⟩) (by decide) (by decide) ((dr_words hG s.drawn) _ v781) (y_cast hY (by decide)) hce hcv hcl ?_
      refine lv_astore hx hb dL_comparison_17 hl (by decide) rfl (fun ls2 _ => ?_)
      refine lv_iconst (v := 2) hx hb dL_comparison_19 (by decide) ?_
      refine W.widen (k := 2) (n := 58) (by decide) (by decide) ?_
      exact hend H1 lo1 20 ls2 _ ((newG, newE, Dd, P, Z), o) 2 hd0 I1 hΨ dL_comparison_20
set_option maxRecDepth 100000 in
set_option maxHeartbeats 4000000 in
theorem wL_result (ao : Nat) (G : Nat → Nat → Int32) (E : Nat → Nat → Int64) (Dd : Nat → Nat → UInt64) (P : Nat → Option PRec) (Z : List PRec) (o : Nat → Int64) (hPZ : ∀ (k : Nat) (z : PRec), P k = some z → z ∈ Z) (hl0 : l.stackTraces = false) (a0 : Int32) (a1 : Int32) (a2 : Int32) (Ψ : Int32 → CSt × (Nat → Int64) → Prop) (h : (∃ rv newG, C_LT_result G a0 a1 a2 = some (rv, newG) ∧ Ψ 0 ((newG, E, Dd, P, Z), vp_updL o 0 rv.toInt64)) ∨ (∃ ex newG newE k, X_LT_result G E a0 a1 a2 = some (ex, newG, newE) ∧ (ex, k) ∈ [(iob, 1), (iae, 2)] ∧ Ψ k ((newG, newE, Dd, P, Z), o))) : wM D (cT cI cJ cD cS) (wJ ad ao cI cJ cD cS) l yL_result (ws2 yL_result cL_result 6 (some .int) [(0, 12, 15, 18), (0, 12, 19, 13)]) rmW [.ref (ad 0), .int a0, .int a1, .int a2, .ref ao] ((G, E, Dd, P, Z), o) Ψ := by
  refine wM_of (by decide) (Nat.le_of_ble_eq_true rfl) ?_
  intro p e R s m args below meth c A Q ls F hRf hRl hRc hRs htab I hY hl hend
  replace F : CallFix p m c cL_result 6 s args gG RL := F
  obtain ⟨hx, hb, hml, hown, hG⟩ := id F
  have hd0 := Drawn.sameBut.refl s.drawn lw_cs
  replace hl : lv_has ls 6 [(0, .ref (ad 0)), (1, .int a0), (2, .int a1), (3, .int a2), (4, .ref ao)] := hl
  replace I : sInv D (cT cI cJ cD cS) (fW [(ao, .inl (cJ, 1, .inr (.inl o)))] (cW ad cI cJ cD cS)) A s s.heap [] (G, E, Dd, P, Z) := I
  refine lv_aload hx hb dL_result_0 (lv_at hl 4 rfl) ?_
  refine lv_iconst (v := 0) hx hb dL_result_2 (by decide) ?_
  refine lv_aload_n hx hb dL_result_3 rfl (lv_at hl 0 rfl) ?_
  refine lv_iload_n hx hb dL_result_4 rfl (lv_at hl 1 rfl) ?_
  refine lv_iload_n hx hb dL_result_5 rfl (lv_at hl 2 rfl) ?_
  refine lv_iload_n hx hb dL_result_6 rfl (lv_at hl 3 rfl) ?_
  rcases h with ⟨rv, newG, hf, hΨ⟩ | ⟨ex, newG, newE, k, hf, hk, hΨ⟩
  · refine f_callVi (As := [.int a0, .int a1, .int a2]) F I I.1 (cC_LT_result G E Dd P Z a0 a1 a2 rv newG hf) kL_57 ⟨rfl, rfl⟩ ⟨Nat.le_trans (by decide) hRf, Nat.le_trans (by decide) hRl⟩ 0 11 rfl rfl rfl rfl rfl hl.1 (Nat.le_of_ble_eq_true rfl) ⟨Nat.zero_le _, Nat.zero_le _⟩ dL_result_7 (fun H1 lo1 I1 => ?_)
    refine lv_i2l hx hb dL_result_10 rfl ?_
    refine va_last hx hb (Idr I1).1 I1.2.1 I1.2.2.1 I1.2.2.2.1 0 1 rfl rfl in01 dL_result_11 (fun H2 lo2 hP hD hS => ?_)
    refine lv_goto (tgt := 23) hx hb dL_result_12 (by decide) ?_
    refine lv_iconst (v := 0) hx hb dL_result_23 (by decide) ?_
    refine W.widen (k := 2) (n := 58) (by decide) (by decide) ?_
    exact hend H2 lo2 24 ls _ ((newG, E, Dd, P, Z), vp_updL o 0 rv.toInt64) 0 hd0 ⟨I1.1, hP, hD, hS, I1.2.2.2.2⟩ hΨ dL_result_24
  · simp only [List.mem_cons, Prod.mk.injEq, List.not_mem_nil, or_false] at hk
    rcases hk with ⟨rfl, rfl⟩ | ⟨rfl, rfl⟩
    · refine f_callVX (As := [.int a0, .int a1, .int a2]) F I I.1 hY.1 (xX_LT_result G E Dd P Z hl0 a0 a1 a2 _ newG newE hf) kL_57 ⟨rfl, rfl⟩ ⟨Nat.le_trans (by decide) hRf, Nat.le_trans (by decide) hRl⟩ 0 11 rfl rfl rfl rfl rfl hl.1 (Nat.le_of_ble_eq_true rfl) ⟨Nat.le_trans (by decide) hRc, Nat.le_trans (by decide) hRs⟩ dL_result_7 (fun ce q9 H1 lo1 I1 hce hcv hcl => ?_)
      refine vx_catch (own := RL) (name := iob) (E := iob) hown [] ⟨0, 12, 15, 18⟩ [⟨0, 12, 19, 13⟩] htab (fun z hz => absurd hz List.not_mem_nil) (by decide) (by decide) ((dr_words hG s.drawn) _ v860) (y_cast hY (by decide)) hce hcv hcl ?_
      refine lv_astore hx hb dL_result_15 hl (by decide) rfl (fun ls2 _ => ?_)
      refine lv_iconst (v := 1) hx hb dL_result_17 (by decide) ?_
      refine W.widen (k := 2) (n := 58) (by decide) (by decide) ?_
      exact hend H1 lo1 18 ls2 _ ((newG, newE, Dd, P, Z), o) 1 hd0 I1 hΨ dL_result_18
    · refine f_callVX (As := [.int a0, .int a1, .int a2]) F I I.1 hY.1 (xX_LT_result G E Dd P Z hl0 a0 a1 a2 _ newG newE hf) kL_57 ⟨rfl, rfl⟩ ⟨Nat.le_trans (by decide) hRf, Nat.le_trans (by decide) hRl⟩ 0 11 rfl rfl rfl rfl rfl hl.1 (Nat.le_of_ble_eq_true rfl) ⟨Nat.le_trans (by decide) hRc, Nat.le_trans (by decide) hRs⟩ dL_result_7 (fun ce q9 H1 lo1 I1 hce hcv hcl => ?_)
      refine vx_catch (own := RL) (name := iae) (E := iae) hown [⟨0, 12, 15, 18⟩] ⟨0, 12, 19, 13⟩ [] htab (fun z hz => by cases List.mem_singleton.mp hz; exact Or.inr ⟨by decide, iob, (dr_words hG s.drawn) _ v860, y_nc hY (by decide)⟩) (by decide) (by decide) ((dr_words hG s.drawn) _ v781) (y_cast hY (by decide)) hce hcv hcl ?_
      refine lv_astore hx hb dL_result_19 hl (by decide) rfl (fun ls2 _ => ?_)
      refine lv_iconst (v := 2) hx hb dL_result_21 (by decide) ?_
      refine W.widen (k := 2) (n := 58) (by decide) (by decide) ?_
      exact hend H1 lo1 22 ls2 _ ((newG, newE, Dd, P, Z), o) 2 hd0 I1 hΨ dL_result_22
set_option maxRecDepth 100000 in
set_option maxHeartbeats 4000000 in
theorem wL_sample (ao : Nat) (G : Nat → Nat → Int32) (E : Nat → Nat → Int64) (Dd : Nat → Nat → UInt64) (P : Nat → Option PRec) (Z : List PRec) (o : Nat → Int64) (hPZ : ∀ (k : Nat) (z : PRec), P k = some z → z ∈ Z) (hl0 : l.stackTraces = false) (a0 : Int32) (a1 : Int32) (Ψ : Int32 → CSt × (Nat → Int64) → Prop) (h : (∃ rv newG, C_LT_sample G a0 a1 = some (rv, newG) ∧ Ψ 0 ((newG, E, Dd, P, Z), vp_updL o 0 rv.toInt64)) ∨ (∃ ex newG newE k, X_LT_sample G E a0 a1 = some (ex, newG, newE) ∧ (ex, k) ∈ [(iob, 1), (iae, 2)] ∧ Ψ k ((newG, newE, Dd, P, Z), o))) : wM D (cT cI cJ cD cS) (wJ ad ao cI cJ cD cS) l yL_sample (ws2 yL_sample cL_sample 5 (some .int) [(0, 10, 13, 18), (0, 10, 17, 13)]) rmW [.ref (ad 0), .int a0, .int a1, .ref ao] ((G, E, Dd, P, Z), o) Ψ := by
  refine wM_of (by decide) (Nat.le_of_ble_eq_true rfl) ?_
  intro p e R s m args below meth c A Q ls F hRf hRl hRc hRs htab I hY hl hend
  replace F : CallFix p m c cL_sample 5 s args gG RL := F
  obtain ⟨hx, hb, hml, hown, hG⟩ := id F
  have hd0 := Drawn.sameBut.refl s.drawn lw_cs
  replace hl : lv_has ls 5 [(0, .ref (ad 0)), (1, .int a0), (2, .int a1), (3, .ref ao)] := hl
  replace I : sInv D (cT cI cJ cD cS) (fW [(ao, .inl (cJ, 1, .inr (.inl o)))] (cW ad cI cJ cD cS)) A s s.heap [] (G, E, Dd, P, Z) := I
  refine lv_aload_n hx hb dL_sample_0 rfl (lv_at hl 3 rfl) ?_
  refine lv_iconst (v := 0) hx hb dL_sample_1 (by decide) ?_
  refine lv_aload_n hx hb dL_sample_2 rfl (lv_at hl 0 rfl) ?_
  refine lv_iload_n hx hb dL_sample_3 rfl (lv_at hl 1 rfl) ?_
  refine lv_iload_n hx hb dL_sample_4 rfl (lv_at hl 2 rfl) ?_
  rcases h with ⟨rv, newG, hf, hΨ⟩ | ⟨ex, newG, newE, k, hf, hk, hΨ⟩
  · refine f_callVi (As := [.int a0, .int a1]) F I I.1 (cC_LT_sample G E Dd P Z a0 a1 rv newG hf) kL_60 ⟨rfl, rfl⟩ ⟨Nat.le_trans (by decide) hRf, Nat.le_trans (by decide) hRl⟩ 0 11 rfl rfl rfl rfl rfl hl.1 (Nat.le_of_ble_eq_true rfl) ⟨Nat.zero_le _, Nat.zero_le _⟩ dL_sample_5 (fun H1 lo1 I1 => ?_)
    refine lv_i2l hx hb dL_sample_8 rfl ?_
    refine va_last hx hb (Idr I1).1 I1.2.1 I1.2.2.1 I1.2.2.2.1 0 1 rfl rfl in01 dL_sample_9 (fun H2 lo2 hP hD hS => ?_)
    refine lv_goto (tgt := 21) hx hb dL_sample_10 (by decide) ?_
    refine lv_iconst (v := 0) hx hb dL_sample_21 (by decide) ?_
    refine W.widen (k := 2) (n := 58) (by decide) (by decide) ?_
    exact hend H2 lo2 22 ls _ ((newG, E, Dd, P, Z), vp_updL o 0 rv.toInt64) 0 hd0 ⟨I1.1, hP, hD, hS, I1.2.2.2.2⟩ hΨ dL_sample_22
  · simp only [List.mem_cons, Prod.mk.injEq, List.not_mem_nil, or_false] at hk
    rcases hk with ⟨rfl, rfl⟩ | ⟨rfl, rfl⟩
    · refine f_callVX (As := [.int a0, .int a1]) F I I.1 hY.1 (xX_LT_sample G E Dd P Z hl0 a0 a1 _ newG newE hf) kL_60 ⟨rfl, rfl⟩ ⟨Nat.le_trans (by decide) hRf, Nat.le_trans (by decide) hRl⟩ 0 11 rfl rfl rfl rfl rfl hl.1 (Nat.le_of_ble_eq_true rfl) ⟨Nat.le_trans (by decide) hRc, Nat.le_trans (by decide) hRs⟩ dL_sample_5 (fun ce q9 H1 lo1 I1 hce hcv hcl => ?_)
      refine vx_catch (own := RL) (name := iob) (E := iob) hown [] ⟨0, 10, 13, 18⟩ [⟨0, 10, 17, 13⟩] htab (fun z hz => absurd hz List.not_mem_nil) (by decide) (by decide) ((dr_words hG s.drawn) _ v860) (y_cast hY (by decide)) hce hcv hcl ?_
      refine lv_astore hx hb dL_sample_13 hl (by decide) rfl (fun ls2 _ => ?_)
      refine lv_iconst (v := 1) hx hb dL_sample_15 (by decide) ?_
      refine W.widen (k := 2) (n := 58) (by decide) (by decide) ?_
      exact hend H1 lo1 16 ls2 _ ((newG, newE, Dd, P, Z), o) 1 hd0 I1 hΨ dL_sample_16
    · refine f_callVX (As := [.int a0, .int a1]) F I I.1 hY.1 (xX_LT_sample G E Dd P Z hl0 a0 a1 _ newG newE hf) kL_60 ⟨rfl, rfl⟩ ⟨Nat.le_trans (by decide) hRf, Nat.le_trans (by decide) hRl⟩ 0 11 rfl rfl rfl rfl rfl hl.1 (Nat.le_of_ble_eq_true rfl) ⟨Nat.le_trans (by decide) hRc, Nat.le_trans (by decide) hRs⟩ dL_sample_5 (fun ce q9 H1 lo1 I1 hce hcv hcl => ?_)
      refine vx_catch (own := RL) (name := iae) (E := iae) hown [⟨0, 10, 13, 18⟩] ⟨0, 10, 17, 13⟩ [] htab (fun z hz => by cases List.mem_singleton.mp hz; exact Or.inr ⟨by decide, iob, (dr_words hG s.drawn) _ v860, y_nc hY (by decide)⟩) (by decide) (by decide) ((dr_words hG s.drawn) _ v781) (y_cast hY (by decide)) hce hcv hcl ?_
      refine lv_astore hx hb dL_sample_17 hl (by decide) rfl (fun ls2 _ => ?_)
      refine lv_iconst (v := 2) hx hb dL_sample_19 (by decide) ?_
      refine W.widen (k := 2) (n := 58) (by decide) (by decide) ?_
      exact hend H1 lo1 20 ls2 _ ((newG, newE, Dd, P, Z), o) 2 hd0 I1 hΨ dL_sample_20
set_option maxRecDepth 100000 in
set_option maxHeartbeats 4000000 in
theorem wL_order (ao : Nat) (G : Nat → Nat → Int32) (E : Nat → Nat → Int64) (Dd : Nat → Nat → UInt64) (P : Nat → Option PRec) (Z : List PRec) (o : Nat → Int64) (hPZ : ∀ (k : Nat) (z : PRec), P k = some z → z ∈ Z) (hl0 : l.stackTraces = false) (a0 : Int32) (Ψ : Int32 → CSt × (Nat → Int64) → Prop) (h : (∃ rv newG, C_LT_order G a0 = some (rv, newG) ∧ Ψ 0 ((newG, E, Dd, P, Z), vp_updL o 0 rv.toInt64)) ∨ (∃ ex newG newE k, X_LT_order G E a0 = some (ex, newG, newE) ∧ (ex, k) ∈ [(iob, 1)] ∧ Ψ k ((newG, newE, Dd, P, Z), o))) : wM D (cT cI cJ cD cS) (wJ ad ao cI cJ cD cS) l yL_order (ws2 yL_order cL_order 4 (some .int) [(0, 9, 12, 18)]) rmW [.ref (ad 0), .int a0, .ref ao] ((G, E, Dd, P, Z), o) Ψ := by
  refine wM_of (by decide) (Nat.le_of_ble_eq_true rfl) ?_
  intro p e R s m args below meth c A Q ls F hRf hRl hRc hRs htab I hY hl hend
  replace F : CallFix p m c cL_order 4 s args gG RL := F
  obtain ⟨hx, hb, hml, hown, hG⟩ := id F
  have hd0 := Drawn.sameBut.refl s.drawn lw_cs
  replace hl : lv_has ls 4 [(0, .ref (ad 0)), (1, .int a0), (2, .ref ao)] := hl
  replace I : sInv D (cT cI cJ cD cS) (fW [(ao, .inl (cJ, 1, .inr (.inl o)))] (cW ad cI cJ cD cS)) A s s.heap [] (G, E, Dd, P, Z) := I
  refine lv_aload_n hx hb dL_order_0 rfl (lv_at hl 2 rfl) ?_
  refine lv_iconst (v := 0) hx hb dL_order_1 (by decide) ?_
  refine lv_aload_n hx hb dL_order_2 rfl (lv_at hl 0 rfl) ?_
  refine lv_iload_n hx hb dL_order_3 rfl (lv_at hl 1 rfl) ?_
  rcases h with ⟨rv, newG, hf, hΨ⟩ | ⟨ex, newG, newE, k, hf, hk, hΨ⟩
  · refine f_callVi (As := [.int a0]) F I I.1 (cC_LT_order G E Dd P Z a0 rv newG hf) kL_63 ⟨rfl, rfl⟩ ⟨Nat.le_trans (by decide) hRf, Nat.le_trans (by decide) hRl⟩ 0 11 rfl rfl rfl rfl rfl hl.1 (Nat.le_of_ble_eq_true rfl) ⟨Nat.zero_le _, Nat.zero_le _⟩ dL_order_4 (fun H1 lo1 I1 => ?_)
    refine lv_i2l hx hb dL_order_7 rfl ?_
    refine va_last hx hb (Idr I1).1 I1.2.1 I1.2.2.1 I1.2.2.2.1 0 1 rfl rfl in01 dL_order_8 (fun H2 lo2 hP hD hS => ?_)
    refine lv_goto (tgt := 15) hx hb dL_order_9 (by decide) ?_
    refine lv_iconst (v := 0) hx hb dL_order_15 (by decide) ?_
    refine W.widen (k := 2) (n := 58) (by decide) (by decide) ?_
    exact hend H2 lo2 16 ls _ ((newG, E, Dd, P, Z), vp_updL o 0 rv.toInt64) 0 hd0 ⟨I1.1, hP, hD, hS, I1.2.2.2.2⟩ hΨ dL_order_16
  · simp only [List.mem_cons, Prod.mk.injEq, List.not_mem_nil, or_false] at hk
    obtain ⟨rfl, rfl⟩ := hk
    refine f_callVX (As := [.int a0]) F I I.1 hY.1 (xX_LT_order G E Dd P Z hl0 a0 _ newG newE hf) kL_63 ⟨rfl, rfl⟩ ⟨Nat.le_trans (by decide) hRf, Nat.le_trans (by decide) hRl⟩ 0 11 rfl rfl rfl rfl rfl hl.1 (Nat.le_of_ble_eq_true rfl) ⟨Nat.le_trans (by decide) hRc, Nat.le_trans (by decide) hRs⟩ dL_order_4 (fun ce q9 H1 lo1 I1 hce hcv hcl => ?_)
    refine vx_catch (own := RL) (name := iob) (E := iob) hown [] ⟨0, 9, 12, 18⟩ [] htab (fun z hz => absurd hz List.not_mem_nil) (by decide) (by decide) ((dr_words hG s.drawn) _ v860) (y_cast hY (by decide)) hce hcv hcl ?_
    refine lv_astore_n hx hb dL_order_12 rfl hl (by decide) rfl (fun ls2 _ => ?_)
    refine lv_iconst (v := 1) hx hb dL_order_13 (by decide) ?_
    refine W.widen (k := 2) (n := 58) (by decide) (by decide) ?_
    exact hend H1 lo1 14 ls2 _ ((newG, newE, Dd, P, Z), o) 1 hd0 I1 hΨ dL_order_14
set_option maxRecDepth 100000 in
set_option maxHeartbeats 4000000 in
theorem wL_summary (ao : Nat) (G : Nat → Nat → Int32) (E : Nat → Nat → Int64) (Dd : Nat → Nat → UInt64) (P : Nat → Option PRec) (Z : List PRec) (o : Nat → Int64) (hPZ : ∀ (k : Nat) (z : PRec), P k = some z → z ∈ Z) (hl0 : l.stackTraces = false) (a0 : Int32) (Ψ : Int32 → CSt × (Nat → Int64) → Prop) (h : (∃ rv newG, C_LT_summary G a0 = some (rv, newG) ∧ Ψ 0 ((newG, E, Dd, P, Z), vp_updL o 0 rv.toInt64)) ∨ (∃ ex newG newE k, X_LT_summary G E a0 = some (ex, newG, newE) ∧ (ex, k) ∈ [(iae, 1)] ∧ Ψ k ((newG, newE, Dd, P, Z), o))) : wM D (cT cI cJ cD cS) (wJ ad ao cI cJ cD cS) l yL_summary (ws2 yL_summary cL_summary 4 (some .int) [(0, 9, 12, 13)]) rmW [.ref (ad 0), .int a0, .ref ao] ((G, E, Dd, P, Z), o) Ψ := by
  refine wM_of (by decide) (Nat.le_of_ble_eq_true rfl) ?_
  intro p e R s m args below meth c A Q ls F hRf hRl hRc hRs htab I hY hl hend
  replace F : CallFix p m c cL_summary 4 s args gG RL := F
  obtain ⟨hx, hb, hml, hown, hG⟩ := id F
  have hd0 := Drawn.sameBut.refl s.drawn lw_cs
  replace hl : lv_has ls 4 [(0, .ref (ad 0)), (1, .int a0), (2, .ref ao)] := hl
  replace I : sInv D (cT cI cJ cD cS) (fW [(ao, .inl (cJ, 1, .inr (.inl o)))] (cW ad cI cJ cD cS)) A s s.heap [] (G, E, Dd, P, Z) := I
  refine lv_aload_n hx hb dL_summary_0 rfl (lv_at hl 2 rfl) ?_
  refine lv_iconst (v := 0) hx hb dL_summary_1 (by decide) ?_
  refine lv_aload_n hx hb dL_summary_2 rfl (lv_at hl 0 rfl) ?_
  refine lv_iload_n hx hb dL_summary_3 rfl (lv_at hl 1 rfl) ?_
  rcases h with ⟨rv, newG, hf, hΨ⟩ | ⟨ex, newG, newE, k, hf, hk, hΨ⟩
  · refine f_callVi (As := [.int a0]) F I I.1 (cC_LT_summary G E Dd P Z a0 rv newG hf) kL_66 ⟨rfl, rfl⟩ ⟨Nat.le_trans (by decide) hRf, Nat.le_trans (by decide) hRl⟩ 0 11 rfl rfl rfl rfl rfl hl.1 (Nat.le_of_ble_eq_true rfl) ⟨Nat.zero_le _, Nat.zero_le _⟩ dL_summary_4 (fun H1 lo1 I1 => ?_)
    refine lv_i2l hx hb dL_summary_7 rfl ?_
    refine va_last hx hb (Idr I1).1 I1.2.1 I1.2.2.1 I1.2.2.2.1 0 1 rfl rfl in01 dL_summary_8 (fun H2 lo2 hP hD hS => ?_)
    refine lv_goto (tgt := 15) hx hb dL_summary_9 (by decide) ?_
    refine lv_iconst (v := 0) hx hb dL_summary_15 (by decide) ?_
    refine W.widen (k := 2) (n := 58) (by decide) (by decide) ?_
    exact hend H2 lo2 16 ls _ ((newG, E, Dd, P, Z), vp_updL o 0 rv.toInt64) 0 hd0 ⟨I1.1, hP, hD, hS, I1.2.2.2.2⟩ hΨ dL_summary_16
  · simp only [List.mem_cons, Prod.mk.injEq, List.not_mem_nil, or_false] at hk
    obtain ⟨rfl, rfl⟩ := hk
    refine f_callVX (As := [.int a0]) F I I.1 hY.1 (xX_LT_summary G E Dd P Z hl0 a0 _ newG newE hf) kL_66 ⟨rfl, rfl⟩ ⟨Nat.le_trans (by decide) hRf, Nat.le_trans (by decide) hRl⟩ 0 11 rfl rfl rfl rfl rfl hl.1 (Nat.le_of_ble_eq_true rfl) ⟨Nat.le_trans (by decide) hRc, Nat.le_trans (by decide) hRs⟩ dL_summary_4 (fun ce q9 H1 lo1 I1 hce hcv hcl => ?_)
    refine vx_catch (own := RL) (name := iae) (E := iae) hown [] ⟨0, 9, 12, 13⟩ [] htab (fun z hz => absurd hz List.not_mem_nil) (by decide) (by decide) ((dr_words hG s.drawn) _ v781) (y_cast hY (by decide)) hce hcv hcl ?_
    refine lv_astore_n hx hb dL_summary_12 rfl hl (by decide) rfl (fun ls2 _ => ?_)
    refine lv_iconst (v := 1) hx hb dL_summary_13 (by decide) ?_
    refine W.widen (k := 2) (n := 58) (by decide) (by decide) ?_
    exact hend H1 lo1 14 ls2 _ ((newG, newE, Dd, P, Z), o) 1 hd0 I1 hΨ dL_summary_14
set_option maxRecDepth 100000 in
set_option maxHeartbeats 4000000 in
theorem wL_without (ao : Nat) (G : Nat → Nat → Int32) (E : Nat → Nat → Int64) (Dd : Nat → Nat → UInt64) (P : Nat → Option PRec) (Z : List PRec) (o : Nat → Int64) (hPZ : ∀ (k : Nat) (z : PRec), P k = some z → z ∈ Z) (hl0 : l.stackTraces = false) (a0 : Int32) (a1 : Int32) (a2 : Int32) (Ψ : Int32 → CSt × (Nat → Int64) → Prop) (h : (∃ rv newG, C_LT_without G a0 a1 a2 = some (rv, newG) ∧ Ψ 0 ((newG, E, Dd, P, Z), vp_updL o 0 rv.toInt64)) ∨ (∃ ex newG newE k, X_LT_without G E a0 a1 a2 = some (ex, newG, newE) ∧ (ex, k) ∈ [(iob, 1), (iae, 2)] ∧ Ψ k ((newG, newE, Dd, P, Z), o))) : wM D (cT cI cJ cD cS) (wJ ad ao cI cJ cD cS) l yL_without (ws2 yL_without cL_without 6 (some .int) [(0, 12, 15, 18), (0, 12, 19, 13)]) rmW [.ref (ad 0), .int a0, .int a1, .int a2, .ref ao] ((G, E, Dd, P, Z), o) Ψ := by
  refine wM_of (by decide) (Nat.le_of_ble_eq_true rfl) ?_
  intro p e R s m args below meth c A Q ls F hRf hRl hRc hRs htab I hY hl hend
  replace F : CallFix p m c cL_without 6 s args gG RL := F
  obtain ⟨hx, hb, hml, hown, hG⟩ := id F
  have hd0 := Drawn.sameBut.refl s.drawn lw_cs
  replace hl : lv_has ls 6 [(0, .ref (ad 0)), (1, .int a0), (2, .int a1), (3, .int a2), (4, .ref ao)] := hl
  replace I : sInv D (cT cI cJ cD cS) (fW [(ao, .inl (cJ, 1, .inr (.inl o)))] (cW ad cI cJ cD cS)) A s s.heap [] (G, E, Dd, P, Z) := I
  refine lv_aload hx hb dL_without_0 (lv_at hl 4 rfl) ?_
  refine lv_iconst (v := 0) hx hb dL_without_2 (by decide) ?_
  refine lv_aload_n hx hb dL_without_3 rfl (lv_at hl 0 rfl) ?_
  refine lv_iload_n hx hb dL_without_4 rfl (lv_at hl 1 rfl) ?_
  refine lv_iload_n hx hb dL_without_5 rfl (lv_at hl 2 rfl) ?_
  refine lv_iload_n hx hb dL_without_6 rfl (lv_at hl 3 rfl) ?_
  rcases h with ⟨rv, newG, hf, hΨ⟩ | ⟨ex, newG, newE, k, hf, hk, hΨ⟩
  · refine f_callVi (As := [.int a0, .int a1, .int a2]) F I I.1 (cC_LT_without G E Dd P Z a0 a1 a2 rv newG hf) kL_69 ⟨rfl, rfl⟩ ⟨Nat.le_trans (by decide) hRf, Nat.le_trans (by decide) hRl⟩ 0 11 rfl rfl rfl rfl rfl hl.1 (Nat.le_of_ble_eq_true rfl) ⟨Nat.zero_le _, Nat.zero_le _⟩ dL_without_7 (fun H1 lo1 I1 => ?_)
    refine lv_i2l hx hb dL_without_10 rfl ?_
    refine va_last hx hb (Idr I1).1 I1.2.1 I1.2.2.1 I1.2.2.2.1 0 1 rfl rfl in01 dL_without_11 (fun H2 lo2 hP hD hS => ?_)
    refine lv_goto (tgt := 23) hx hb dL_without_12 (by decide) ?_
    refine lv_iconst (v := 0) hx hb dL_without_23 (by decide) ?_
    refine W.widen (k := 2) (n := 58) (by decide) (by decide) ?_
    exact hend H2 lo2 24 ls _ ((newG, E, Dd, P, Z), vp_updL o 0 rv.toInt64) 0 hd0 ⟨I1.1, hP, hD, hS, I1.2.2.2.2⟩ hΨ dL_without_24
  · simp only [List.mem_cons, Prod.mk.injEq, List.not_mem_nil, or_false] at hk
    rcases hk with ⟨rfl, rfl⟩ | ⟨rfl, rfl⟩
    · refine f_callVX (As := [.int a0, .int a1, .int a2]) F I I.1 hY.1 (xX_LT_without G E Dd P Z hl0 a0 a1 a2 _ newG newE hf) kL_69 ⟨rfl, rfl⟩ ⟨Nat.le_trans (by decide) hRf, Nat.le_trans (by decide) hRl⟩ 0 11 rfl rfl rfl rfl rfl hl.1 (Nat.le_of_ble_eq_true rfl) ⟨Nat.le_trans (by decide) hRc, Nat.le_trans (by decide) hRs⟩ dL_without_7 (fun ce q9 H1 lo1 I1 hce hcv hcl => ?_)
      refine vx_catch (own := RL) (name := iob) (E := iob) hown [] ⟨0, 12, 15, 18⟩ [⟨0, 12, 19, 13⟩] htab (fun z hz => absurd hz List.not_mem_nil) (by decide) (by decide) ((dr_words hG s.drawn) _ v860) (y_cast hY (by decide)) hce hcv hcl ?_
      refine lv_astore hx hb dL_without_15 hl (by decide) rfl (fun ls2 _ => ?_)
      refine lv_iconst (v := 1) hx hb dL_without_17 (by decide) ?_
      refine W.widen (k := 2) (n := 58) (by decide) (by decide) ?_
      exact hend H1 lo1 18 ls2 _ ((newG, newE, Dd, P, Z), o) 1 hd0 I1 hΨ dL_without_18
    · refine f_callVX (As := [.int a0, .int a1, .int a2]) F I I.1 hY.1 (xX_LT_without G E Dd P Z hl0 a0 a1 a2 _ newG newE hf) kL_69 ⟨rfl, rfl⟩ ⟨Nat.le_trans (by decide) hRf, Nat.le_trans (by decide) hRl⟩ 0 11 rfl rfl rfl rfl rfl hl.1 (Nat.le_of_ble_eq_true rfl) ⟨Nat.le_trans (by decide) hRc, Nat.le_trans (by decide) hRs⟩ dL_without_7 (fun ce q9 H1 lo1 I1 hce hcv hcl => ?_)
      refine vx_catch (own := RL) (name := iae) (E := iae) hown [⟨0, 12, 15, 18⟩] ⟨0, 12, 19, 13⟩ [] htab (fun z hz => by cases List.mem_singleton.mp hz; exact Or.inr ⟨by decide, iob, (dr_words hG s.drawn) _ v860, y_nc hY (by decide)⟩) (by decide) (by decide) ((dr_words hG s.drawn) _ v781) (y_cast hY (by decide)) hce hcv hcl ?_
      refine lv_astore hx hb dL_without_19 hl (by decide) rfl (fun ls2 _ => ?_)
      refine lv_iconst (v := 2) hx hb dL_without_21 (by decide) ?_
      refine W.widen (k := 2) (n := 58) (by decide) (by decide) ?_
      exact hend H1 lo1 22 ls2 _ ((newG, newE, Dd, P, Z), o) 2 hd0 I1 hΨ dL_without_22
set_option maxRecDepth 100000 in
set_option maxHeartbeats 4000000 in
theorem wL_rings (ao : Nat) (G : Nat → Nat → Int32) (E : Nat → Nat → Int64) (Dd : Nat → Nat → UInt64) (P : Nat → Option PRec) (Z : List PRec) (o : Nat → Int64) (hPZ : ∀ (k : Nat) (z : PRec), P k = some z → z ∈ Z) (hl0 : l.stackTraces = false) (a0 : Int32) (Ψ : Int32 → CSt × (Nat → Int64) → Prop) (h : (∃ rv newG, C_LT_rings G a0 = some (rv, newG) ∧ Ψ 0 ((newG, E, Dd, P, Z), vp_updL o 0 rv.toInt64)) ∨ (∃ ex newG newE k, X_LT_rings G E a0 = some (ex, newG, newE) ∧ (ex, k) ∈ [(iob, 1)] ∧ Ψ k ((newG, newE, Dd, P, Z), o))) : wM D (cT cI cJ cD cS) (wJ ad ao cI cJ cD cS) l yL_rings (ws2 yL_rings cL_rings 4 (some .int) [(0, 9, 12, 18)]) rmW [.ref (ad 0), .int a0, .ref ao] ((G, E, Dd, P, Z), o) Ψ := by
  refine wM_of (by decide) (Nat.le_of_ble_eq_true rfl) ?_
  intro p e R s m args below meth c A Q ls F hRf hRl hRc hRs htab I hY hl hend
  replace F : CallFix p m c cL_rings 4 s args gG RL := F
  obtain ⟨hx, hb, hml, hown, hG⟩ := id F
  have hd0 := Drawn.sameBut.refl s.drawn lw_cs
  replace hl : lv_has ls 4 [(0, .ref (ad 0)), (1, .int a0), (2, .ref ao)] := hl
  replace I : sInv D (cT cI cJ cD cS) (fW [(ao, .inl (cJ, 1, .inr (.inl o)))] (cW ad cI cJ cD cS)) A s s.heap [] (G, E, Dd, P, Z) := I
  refine lv_aload_n hx hb dL_rings_0 rfl (lv_at hl 2 rfl) ?_
  refine lv_iconst (v := 0) hx hb dL_rings_1 (by decide) ?_
  refine lv_aload_n hx hb dL_rings_2 rfl (lv_at hl 0 rfl) ?_
  refine lv_iload_n hx hb dL_rings_3 rfl (lv_at hl 1 rfl) ?_
  rcases h with ⟨rv, newG, hf, hΨ⟩ | ⟨ex, newG, newE, k, hf, hk, hΨ⟩
  · refine f_callVi (As := [.int a0]) F I I.1 (cC_LT_rings G E Dd P Z a0 rv newG hf) kL_72 ⟨rfl, rfl⟩ ⟨Nat.le_trans (by decide) hRf, Nat.le_trans (by decide) hRl⟩ 0 11 rfl rfl rfl rfl rfl hl.1 (Nat.le_of_ble_eq_true rfl) ⟨Nat.zero_le _, Nat.zero_le _⟩ dL_rings_4 (fun H1 lo1 I1 => ?_)
    refine lv_i2l hx hb dL_rings_7 rfl ?_
    refine va_last hx hb (Idr I1).1 I1.2.1 I1.2.2.1 I1.2.2.2.1 0 1 rfl rfl in01 dL_rings_8 (fun H2 lo2 hP hD hS => ?_)
    refine lv_goto (tgt := 15) hx hb dL_rings_9 (by decide) ?_
    refine lv_iconst (v := 0) hx hb dL_rings_15 (by decide) ?_
    refine W.widen (k := 2) (n := 58) (by decide) (by decide) ?_
    exact hend H2 lo2 16 ls _ ((newG, E, Dd, P, Z), vp_updL o 0 rv.toInt64) 0 hd0 ⟨I1.1, hP, hD, hS, I1.2.2.2.2⟩ hΨ dL_rings_16
  · simp only [List.mem_cons, Prod.mk.injEq, List.not_mem_nil, or_false] at hk
    obtain ⟨rfl, rfl⟩ := hk
    refine f_callVX (As := [.int a0]) F I I.1 hY.1 (xX_LT_rings G E Dd P Z hl0 a0 _ newG newE hf) kL_72 ⟨rfl, rfl⟩ ⟨Nat.le_trans (by decide) hRf, Nat.le_trans (by decide) hRl⟩ 0 11 rfl rfl rfl rfl rfl hl.1 (Nat.le_of_ble_eq_true rfl) ⟨Nat.le_trans (by decide) hRc, Nat.le_trans (by decide) hRs⟩ dL_rings_4 (fun ce q9 H1 lo1 I1 hce hcv hcl => ?_)
    refine vx_catch (own := RL) (name := iob) (E := iob) hown [] ⟨0, 9, 12, 18⟩ [] htab (fun z hz => absurd hz List.not_mem_nil) (by decide) (by decide) ((dr_words hG s.drawn) _ v860) (y_cast hY (by decide)) hce hcv hcl ?_
    refine lv_astore_n hx hb dL_rings_12 rfl hl (by decide) rfl (fun ls2 _ => ?_)
    refine lv_iconst (v := 1) hx hb dL_rings_13 (by decide) ?_
    refine W.widen (k := 2) (n := 58) (by decide) (by decide) ?_
    exact hend H1 lo1 14 ls2 _ ((newG, newE, Dd, P, Z), o) 1 hd0 I1 hΨ dL_rings_14
set_option maxRecDepth 100000 in
set_option maxHeartbeats 4000000 in
theorem wL_consistency (ao : Nat) (G : Nat → Nat → Int32) (E : Nat → Nat → Int64) (Dd : Nat → Nat → UInt64) (P : Nat → Option PRec) (Z : List PRec) (o : Nat → UInt64) (hPZ : ∀ (k : Nat) (z : PRec), P k = some z → z ∈ Z) (hl0 : l.stackTraces = false) (a0 : Int32) (Ψ : Int32 → CSt × (Nat → UInt64) → Prop) (h : (∃ rv newG, C_LT_consistency G a0 = some (rv, newG) ∧ ∀ u r, cSm u (newG, E, Dd, P, Z) → alike64 r rv = true → Ψ 0 (u, vf_upd o 0 r)) ∨ (∃ ex newG newE k, X_LT_consistency G E a0 = some (ex, newG, newE) ∧ (ex, k) ∈ [(iob, 1), (ise, 2)] ∧ Ψ k ((newG, newE, Dd, P, Z), o))) : wM D (cT cI cJ cD cS) (wD ad ao cI cJ cD cS) l yL_consistency (ws2 yL_consistency cL_consistency 4 (some .int) [(0, 8, 11, 18), (0, 8, 14, 28)]) rmW [.ref (ad 0), .int a0, .ref ao] ((G, E, Dd, P, Z), o) Ψ := by
  refine wM_of (by decide) (Nat.le_of_ble_eq_true rfl) ?_
  intro p e R s m args below meth c A Q ls F hRf hRl hRc hRs htab I hY hl hend
  replace F : CallFix p m c cL_consistency 4 s args gG RL := F
  obtain ⟨hx, hb, hml, hown, hG⟩ := id F
  have hd0 := Drawn.sameBut.refl s.drawn lw_cs
  replace hl : lv_has ls 4 [(0, .ref (ad 0)), (1, .int a0), (2, .ref ao)] := hl
  replace I : sInv D (cT cI cJ cD cS) (fW [(ao, .inl (cD, 1, .inr (.inr (.inr (.inl o)))))] (cW ad cI cJ cD cS)) A s s.heap [] (G, E, Dd, P, Z) := I
  refine lv_aload_n hx hb dL_consistency_0 rfl (lv_at hl 2 rfl) ?_
  refine lv_iconst (v := 0) hx hb dL_consistency_1 (by decide) ?_
  refine lv_aload_n hx hb dL_consistency_2 rfl (lv_at hl 0 rfl) ?_
  refine lv_iload_n hx hb dL_consistency_3 rfl (lv_at hl 1 rfl) ?_
  rcases h with ⟨rv, newG, hf, hΨ⟩ | ⟨ex, newG, newE, k, hf, hk, hΨ⟩
  · refine f_callVD (As := [.int a0]) (Sm := cSm) F hd0 I ⟨rfl, rfl, alikeM_rf _, rfl⟩ I.1 (cC_LT_consistency G E Dd P Z a0 rv newG hf) kL_75 ⟨rfl, rfl⟩ ⟨Nat.le_trans (by decide) hRf, Nat.le_trans (by decide) hRl⟩ 0 11 rfl rfl rfl rfl rfl hl.1 (Nat.le_of_ble_eq_true rfl) ⟨Nat.zero_le _, Nat.zero_le _⟩ dL_consistency_4 (fun H1 lo1 d1 u r hd1 I1 hu hr => ?_)
    refine va_dast hx hb (Idr I1).1 I1.2.1 I1.2.2.1 I1.2.2.2.1 0 2 rfl rfl in01 dL_consistency_7 (fun H2 lo2 hP hD hS => ?_)
    refine lv_goto (tgt := 17) hx hb dL_consistency_8 (by decide) ?_
    refine lv_iconst (v := 0) hx hb dL_consistency_17 (by decide) ?_
    refine W.widen (k := 2) (n := 58) (by decide) (by decide) ?_
    exact hend H2 lo2 18 ls _ (u, vf_upd o 0 r) 0 hd1 ⟨I1.1, hP, hD, hS, I1.2.2.2.2⟩ (hΨ u r hu hr) dL_consistency_18
  · simp only [List.mem_cons, Prod.mk.injEq, List.not_mem_nil, or_false] at hk
    rcases hk with ⟨rfl, rfl⟩ | ⟨rfl, rfl⟩
    · refine f_callVX (As := [.int a0]) F I I.1 hY.1 (xX_LT_consistency G E Dd P Z hl0 a0 _ newG newE hf) kL_75 ⟨rfl, rfl⟩ ⟨Nat.le_trans (by decide) hRf, Nat.le_trans (by decide) hRl⟩ 0 11 rfl rfl rfl rfl rfl hl.1 (Nat.le_of_ble_eq_true rfl) ⟨Nat.le_trans (by decide) hRc, Nat.le_trans (by decide) hRs⟩ dL_consistency_4 (fun ce q9 H1 lo1 I1 hce hcv hcl => ?_)
      refine vx_catch (own := RL) (name := iob) (E := iob) hown [] ⟨0, 8, 11, 18⟩ [⟨0, 8, 14, 28⟩] htab (fun z hz => absurd hz List.not_mem_nil) (by decide) (by decide) ((dr_words hG s.drawn) _ v860) (y_cast hY (by decide)) hce hcv hcl ?_
      refine lv_astore_n hx hb dL_consistency_11 rfl hl (by decide) rfl (fun ls2 _ => ?_)
      refine lv_iconst (v := 1) hx hb dL_consistency_12 (by decide) ?_
      refine W.widen (k := 2) (n := 58) (by decide) (by decide) ?_
      exact hend H1 lo1 13 ls2 _ ((newG, newE, Dd, P, Z), o) 1 hd0 I1 hΨ dL_consistency_13
    · refine f_callVX (As := [.int a0]) F I I.1 hY.1 (xX_LT_consistency G E Dd P Z hl0 a0 _ newG newE hf) kL_75 ⟨rfl, rfl⟩ ⟨Nat.le_trans (by decide) hRf, Nat.le_trans (by decide) hRl⟩ 0 11 rfl rfl rfl rfl rfl hl.1 (Nat.le_of_ble_eq_true rfl) ⟨Nat.le_trans (by decide) hRc, Nat.le_trans (by decide) hRs⟩ dL_consistency_4 (fun ce q9 H1 lo1 I1 hce hcv hcl => ?_)
      refine vx_catch (own := RL) (name := ise) (E := ise) hown [⟨0, 8, 11, 18⟩] ⟨0, 8, 14, 28⟩ [] htab (fun z hz => by cases List.mem_singleton.mp hz; exact Or.inr ⟨by decide, iob, (dr_words hG s.drawn) _ v860, y_nc hY (by decide)⟩) (by decide) (by decide) ((dr_words hG s.drawn) _ v933) (y_cast hY (by decide)) hce hcv hcl ?_
      refine lv_astore_n hx hb dL_consistency_14 rfl hl (by decide) rfl (fun ls2 _ => ?_)
      refine lv_iconst (v := 2) hx hb dL_consistency_15 (by decide) ?_
      refine W.widen (k := 2) (n := 58) (by decide) (by decide) ?_
      exact hend H1 lo1 16 ls2 _ ((newG, newE, Dd, P, Z), o) 2 hd0 I1 hΨ dL_consistency_16
set_option maxRecDepth 100000 in
set_option maxHeartbeats 4000000 in
theorem wL_agreement (ao : Nat) (G : Nat → Nat → Int32) (E : Nat → Nat → Int64) (Dd : Nat → Nat → UInt64) (P : Nat → Option PRec) (Z : List PRec) (o : Nat → UInt64) (hPZ : ∀ (k : Nat) (z : PRec), P k = some z → z ∈ Z) (hl0 : l.stackTraces = false) (a0 : Int32) (a1 : Int32) (Ψ : Int32 → CSt × (Nat → UInt64) → Prop) (h : (∃ rv newG, C_LT_agreement G a0 a1 = some (rv, newG) ∧ ∀ u r, cSm u (newG, E, Dd, P, Z) → alike64 r rv = true → Ψ 0 (u, vf_upd o 0 r)) ∨ (∃ ex newG newE k, X_LT_agreement G E a0 a1 = some (ex, newG, newE) ∧ (ex, k) ∈ [(iob, 1)] ∧ Ψ k ((newG, newE, Dd, P, Z), o))) : wM D (cT cI cJ cD cS) (wD ad ao cI cJ cD cS) l yL_agreement (ws2 yL_agreement cL_agreement 5 (some .int) [(0, 9, 12, 18)]) rmW [.ref (ad 0), .int a0, .int a1, .ref ao] ((G, E, Dd, P, Z), o) Ψ := by
  refine wM_of (by decide) (Nat.le_of_ble_eq_true rfl) ?_
  intro p e R s m args below meth c A Q ls F hRf hRl hRc hRs htab I hY hl hend
  replace F : CallFix p m c cL_agreement 5 s args gG RL := F
  obtain ⟨hx, hb, hml, hown, hG⟩ := id F
  have hd0 := Drawn.sameBut.refl s.drawn lw_cs
  replace hl : lv_has ls 5 [(0, .ref (ad 0)), (1, .int a0), (2, .int a1), (3, .ref ao)] := hl
  replace I : sInv D (cT cI cJ cD cS) (fW [(ao, .inl (cD, 1, .inr (.inr (.inr (.inl o)))))] (cW ad cI cJ cD cS)) A s s.heap [] (G, E, Dd, P, Z) := I
  refine lv_aload_n hx hb dL_agreement_0 rfl (lv_at hl 3 rfl) ?_
  refine lv_iconst (v := 0) hx hb dL_agreement_1 (by decide) ?_
  refine lv_aload_n hx hb dL_agreement_2 rfl (lv_at hl 0 rfl) ?_
  refine lv_iload_n hx hb dL_agreement_3 rfl (lv_at hl 1 rfl) ?_
  refine lv_iload_n hx hb dL_agreement_4 rfl (lv_at hl 2 rfl) ?_
  rcases h with ⟨rv, newG, hf, hΨ⟩ | ⟨ex, newG, newE, k, hf, hk, hΨ⟩
  · refine f_callVD (As := [.int a0, .int a1]) (Sm := cSm) F hd0 I ⟨rfl, rfl, alikeM_rf _, rfl⟩ I.1 (cC_LT_agreement G E Dd P Z a0 a1 rv newG hf) kL_79 ⟨rfl, rfl⟩ ⟨Nat.le_trans (by decide) hRf, Nat.le_trans (by decide) hRl⟩ 0 11 rfl rfl rfl rfl rfl hl.1 (Nat.le_of_ble_eq_true rfl) ⟨Nat.zero_le _, Nat.zero_le _⟩ dL_agreement_5 (fun H1 lo1 d1 u r hd1 I1 hu hr => ?_)
    refine va_dast hx hb (Idr I1).1 I1.2.1 I1.2.2.1 I1.2.2.2.1 0 2 rfl rfl in01 dL_agreement_8 (fun H2 lo2 hP hD hS => ?_)
    refine lv_goto (tgt := 16) hx hb dL_agreement_9 (by decide) ?_
    refine lv_iconst (v := 0) hx hb dL_agreement_16 (by decide) ?_
    refine W.widen (k := 2) (n := 58) (by decide) (by decide) ?_
    exact hend H2 lo2 17 ls _ (u, vf_upd o 0 r) 0 hd1 ⟨I1.1, hP, hD, hS, I1.2.2.2.2⟩ (hΨ u r hu hr) dL_agreement_17
  · simp only [List.mem_cons, Prod.mk.injEq, List.not_mem_nil, or_false] at hk
    obtain ⟨rfl, rfl⟩ := hk
    refine f_callVX (As := [.int a0, .int a1]) F I I.1 hY.1 (xX_LT_agreement G E Dd P Z hl0 a0 a1 _ newG newE hf) kL_79 ⟨rfl, rfl⟩ ⟨Nat.le_trans (by decide) hRf, Nat.le_trans (by decide) hRl⟩ 0 11 rfl rfl rfl rfl rfl hl.1 (Nat.le_of_ble_eq_true rfl) ⟨Nat.le_trans (by decide) hRc, Nat.le_trans (by decide) hRs⟩ dL_agreement_5 (fun ce q9 H1 lo1 I1 hce hcv hcl => ?_)
    refine vx_catch (own := RL) (name := iob) (E := iob) hown [] ⟨0, 9, 12, 18⟩ [] htab (fun z hz => absurd hz List.not_mem_nil) (by decide) (by decide) ((dr_words hG s.drawn) _ v860) (y_cast hY (by decide)) hce hcv hcl ?_
    refine lv_astore hx hb dL_agreement_12 hl (by decide) rfl (fun ls2 _ => ?_)
    refine lv_iconst (v := 1) hx hb dL_agreement_14 (by decide) ?_
    refine W.widen (k := 2) (n := 58) (by decide) (by decide) ?_
    exact hend H1 lo1 15 ls2 _ ((newG, newE, Dd, P, Z), o) 1 hd0 I1 hΨ dL_agreement_15
set_option maxRecDepth 100000 in
set_option maxHeartbeats 4000000 in
theorem wL_chance (ao : Nat) (G : Nat → Nat → Int32) (E : Nat → Nat → Int64) (Dd : Nat → Nat → UInt64) (P : Nat → Option PRec) (Z : List PRec) (o : Nat → Int64) (hPZ : ∀ (k : Nat) (z : PRec), P k = some z → z ∈ Z) (hl0 : l.stackTraces = false) (a0 : Int32) (a1 : Int32) (Ψ : Int32 → CSt × (Nat → Int64) → Prop) (h : (∃ rv newG, C_LT_chance G a0 a1 = some (rv, newG) ∧ Ψ 0 ((newG, E, Dd, P, Z), vp_updL o 0 rv)) ∨ (∃ ex newG newE k, X_LT_chance G E a0 a1 = some (ex, newG, newE) ∧ (ex, k) ∈ [(iob, 1), (iae, 2)] ∧ Ψ k ((newG, newE, Dd, P, Z), o))) : wM D (cT cI cJ cD cS) (wJ ad ao cI cJ cD cS) l yL_chance (ws2 yL_chance cL_chance 5 (some .int) [(0, 9, 12, 18), (0, 9, 16, 13)]) rmW [.ref (ad 0), .int a0, .int a1, .ref ao] ((G, E, Dd, P, Z), o) Ψ := by
  refine wM_of (by decide) (Nat.le_of_ble_eq_true rfl) ?_
  intro p e R s m args below meth c A Q ls F hRf hRl hRc hRs htab I hY hl hend
  replace F : CallFix p m c cL_chance 5 s args gG RL := F
  obtain ⟨hx, hb, hml, hown, hG⟩ := id F
  have hd0 := Drawn.sameBut.refl s.drawn lw_cs
  replace hl : lv_has ls 5 [(0, .ref (ad 0)), (1, .int a0), (2, .int a1), (3, .ref ao)] := hl
  replace I : sInv D (cT cI cJ cD cS) (fW [(ao, .inl (cJ, 1, .inr (.inl o)))] (cW ad cI cJ cD cS)) A s s.heap [] (G, E, Dd, P, Z) := I
  refine lv_aload_n hx hb dL_chance_0 rfl (lv_at hl 3 rfl) ?_
  refine lv_iconst (v := 0) hx hb dL_chance_1 (by decide) ?_
  refine lv_aload_n hx hb dL_chance_2 rfl (lv_at hl 0 rfl) ?_
  refine lv_iload_n hx hb dL_chance_3 rfl (lv_at hl 1 rfl) ?_
  refine lv_iload_n hx hb dL_chance_4 rfl (lv_at hl 2 rfl) ?_
  rcases h with ⟨rv, newG, hf, hΨ⟩ | ⟨ex, newG, newE, k, hf, hk, hΨ⟩
  · refine f_callVl (As := [.int a0, .int a1]) F I I.1 (cC_LT_chance G E Dd P Z a0 a1 rv newG hf) kL_83 ⟨rfl, rfl⟩ ⟨Nat.le_trans (by decide) hRf, Nat.le_trans (by decide) hRl⟩ 0 11 rfl rfl rfl rfl rfl hl.1 (Nat.le_of_ble_eq_true rfl) ⟨Nat.zero_le _, Nat.zero_le _⟩ dL_chance_5 (fun H1 lo1 I1 => ?_)
    refine va_last hx hb (Idr I1).1 I1.2.1 I1.2.2.1 I1.2.2.2.1 0 1 rfl rfl in01 dL_chance_8 (fun H2 lo2 hP hD hS => ?_)
    refine lv_goto (tgt := 20) hx hb dL_chance_9 (by decide) ?_
    refine lv_iconst (v := 0) hx hb dL_chance_20 (by decide) ?_
    refine W.widen (k := 2) (n := 58) (by decide) (by decide) ?_
    exact hend H2 lo2 21 ls _ ((newG, E, Dd, P, Z), vp_updL o 0 rv) 0 hd0 ⟨I1.1, hP, hD, hS, I1.2.2.2.2⟩ hΨ dL_chance_21
  · simp only [List.mem_cons, Prod.mk.injEq, List.not_mem_nil, or_false] at hk
    rcases hk with ⟨rfl, rfl⟩ | ⟨rfl, rfl⟩
    · refine f_callVX (As := [.int a0, .int a1]) F I I.1 hY.1 (xX_LT_chance G E Dd P Z hl0 a0 a1 _ newG newE hf) kL_83 ⟨rfl, rfl⟩ ⟨Nat.le_trans (by decide) hRf, Nat.le_trans (by decide) hRl⟩ 0 11 rfl rfl rfl rfl rfl hl.1 (Nat.le_of_ble_eq_true rfl) ⟨Nat.le_trans (by decide) hRc, Nat.le_trans (by decide) hRs⟩ dL_chance_5 (fun ce q9 H1 lo1 I1 hce hcv hcl => ?_)
      refine vx_catch (own := RL) (name := iob) (E := iob) hown [] ⟨0, 9, 12, 18⟩ [⟨0, 9, 16, 13⟩] htab (fun z hz => absurd hz List.not_mem_nil) (by decide) (by decide) ((dr_words hG s.drawn) _ v860) (y_cast hY (by decide)) hce hcv hcl ?_
      refine lv_astore hx hb dL_chance_12 hl (by decide) rfl (fun ls2 _ => ?_)
      refine lv_iconst (v := 1) hx hb dL_chance_14 (by decide) ?_
      refine W.widen (k := 2) (n := 58) (by decide) (by decide) ?_
      exact hend H1 lo1 15 ls2 _ ((newG, newE, Dd, P, Z), o) 1 hd0 I1 hΨ dL_chance_15
    · refine f_callVX (As := [.int a0, .int a1]) F I I.1 hY.1 (xX_LT_chance G E Dd P Z hl0 a0 a1 _ newG newE hf) kL_83 ⟨rfl, rfl⟩ ⟨Nat.le_trans (by decide) hRf, Nat.le_trans (by decide) hRl⟩ 0 11 rfl rfl rfl rfl rfl hl.1 (Nat.le_of_ble_eq_true rfl) ⟨Nat.le_trans (by decide) hRc, Nat.le_trans (by decide) hRs⟩ dL_chance_5 (fun ce q9 H1 lo1 I1 hce hcv hcl => ?_)
      refine vx_catch (own := RL) (name := iae) (E := iae) hown [⟨0, 9, 12, 18⟩] ⟨0, 9, 16, 13⟩ [] htab (fun z hz => by cases List.mem_singleton.mp hz; exact Or.inr ⟨by decide, iob, (dr_words hG s.drawn) _ v860, y_nc hY (by decide)⟩) (by decide) (by decide) ((dr_words hG s.drawn) _ v781) (y_cast hY (by decide)) hce hcv hcl ?_
      refine lv_astore hx hb dL_chance_16 hl (by decide) rfl (fun ls2 _ => ?_)
      refine lv_iconst (v := 2) hx hb dL_chance_18 (by decide) ?_
      refine W.widen (k := 2) (n := 58) (by decide) (by decide) ?_
      exact hend H1 lo1 19 ls2 _ ((newG, newE, Dd, P, Z), o) 2 hd0 I1 hΨ dL_chance_19
set_option maxRecDepth 100000 in
set_option maxHeartbeats 4000000 in
theorem wL_proved (ao : Nat) (G : Nat → Nat → Int32) (E : Nat → Nat → Int64) (Dd : Nat → Nat → UInt64) (P : Nat → Option PRec) (Z : List PRec) (o : Nat → Int64) (hPZ : ∀ (k : Nat) (z : PRec), P k = some z → z ∈ Z) (hl0 : l.stackTraces = false) (a0 : Int32) (a1 : Int32) (Ψ : Int32 → CSt × (Nat → Int64) → Prop) (h : (∃ rv newG newE, C_LT_proved G E a0 a1 = some (rv, newG, newE) ∧ Ψ 0 ((newG, newE, Dd, P, Z), vp_updL o 0 rv.toInt64)) ∨ (∃ ex newG newE k, X_LT_proved G E a0 a1 = some (ex, newG, newE) ∧ (ex, k) ∈ [(iae, 1), (iob, 2)] ∧ Ψ k ((newG, newE, Dd, P, Z), o))) : wM D (cT cI cJ cD cS) (wJ ad ao cI cJ cD cS) l yL_proved (ws2 yL_proved cL_proved 5 (some .int) [(0, 10, 13, 13), (0, 10, 17, 18)]) rmW [.ref (ad 0), .int a0, .int a1, .ref ao] ((G, E, Dd, P, Z), o) Ψ := by
  refine wM_of (by decide) (Nat.le_of_ble_eq_true rfl) ?_
  intro p e R s m args below meth c A Q ls F hRf hRl hRc hRs htab I hY hl hend
  replace F : CallFix p m c cL_proved 5 s args gG RL := F
  obtain ⟨hx, hb, hml, hown, hG⟩ := id F
  have hd0 := Drawn.sameBut.refl s.drawn lw_cs
  replace hl : lv_has ls 5 [(0, .ref (ad 0)), (1, .int a0), (2, .int a1), (3, .ref ao)] := hl
  replace I : sInv D (cT cI cJ cD cS) (fW [(ao, .inl (cJ, 1, .inr (.inl o)))] (cW ad cI cJ cD cS)) A s s.heap [] (G, E, Dd, P, Z) := I
  refine lv_aload_n hx hb dL_proved_0 rfl (lv_at hl 3 rfl) ?_
  refine lv_iconst (v := 0) hx hb dL_proved_1 (by decide) ?_
  refine lv_aload_n hx hb dL_proved_2 rfl (lv_at hl 0 rfl) ?_
  refine lv_iload_n hx hb dL_proved_3 rfl (lv_at hl 1 rfl) ?_
  refine lv_iload_n hx hb dL_proved_4 rfl (lv_at hl 2 rfl) ?_
  rcases h with ⟨rv, newG, newE, hf, hΨ⟩ | ⟨ex, newG, newE, k, hf, hk, hΨ⟩
  · refine f_callVi (As := [.int a0, .int a1]) F I I.1 (cC_LT_proved G E Dd P Z a0 a1 rv newG newE hf) kL_87 ⟨rfl, rfl⟩ ⟨Nat.le_trans (by decide) hRf, Nat.le_trans (by decide) hRl⟩ 0 11 rfl rfl rfl rfl rfl hl.1 (Nat.le_of_ble_eq_true rfl) ⟨Nat.zero_le _, Nat.zero_le _⟩ dL_proved_5 (fun H1 lo1 I1 => ?_)
    refine lv_i2l hx hb dL_proved_8 rfl ?_
    refine va_last hx hb (Idr I1).1 I1.2.1 I1.2.2.1 I1.2.2.2.1 0 1 rfl rfl in01 dL_proved_9 (fun H2 lo2 hP hD hS => ?_)
    refine lv_goto (tgt := 21) hx hb dL_proved_10 (by decide) ?_
    refine lv_iconst (v := 0) hx hb dL_proved_21 (by decide) ?_
    refine W.widen (k := 2) (n := 58) (by decide) (by decide) ?_
    exact hend H2 lo2 22 ls _ ((newG, newE, Dd, P, Z), vp_updL o 0 rv.toInt64) 0 hd0 ⟨I1.1, hP, hD, hS, I1.2.2.2.2⟩ hΨ dL_proved_22
  · simp only [List.mem_cons, Prod.mk.injEq, List.not_mem_nil, or_false] at hk
    rcases hk with ⟨rfl, rfl⟩ | ⟨rfl, rfl⟩
    · refine f_callVX (As := [.int a0, .int a1]) F I I.1 hY.1 (xX_LT_proved G E Dd P Z hl0 a0 a1 _ newG newE hf) kL_87 ⟨rfl, rfl⟩ ⟨Nat.le_trans (by decide) hRf, Nat.le_trans (by decide) hRl⟩ 0 11 rfl rfl rfl rfl rfl hl.1 (Nat.le_of_ble_eq_true rfl) ⟨Nat.le_trans (by decide) hRc, Nat.le_trans (by decide) hRs⟩ dL_proved_5 (fun ce q9 H1 lo1 I1 hce hcv hcl => ?_)
      refine vx_catch (own := RL) (name := iae) (E := iae) hown [] ⟨0, 10, 13, 13⟩ [⟨0, 10, 17, 18⟩] htab (fun z hz => absurd hz List.not_mem_nil) (by decide) (by decide) ((dr_words hG s.drawn) _ v781) (y_cast hY (by decide)) hce hcv hcl ?_
      refine lv_astore hx hb dL_proved_13 hl (by decide) rfl (fun ls2 _ => ?_)
      refine lv_iconst (v := 1) hx hb dL_proved_15 (by decide) ?_
      refine W.widen (k := 2) (n := 58) (by decide) (by decide) ?_
      exact hend H1 lo1 16 ls2 _ ((newG, newE, Dd, P, Z), o) 1 hd0 I1 hΨ dL_proved_16
    · refine f_callVX (As := [.int a0, .int a1]) F I I.1 hY.1 (xX_LT_proved G E Dd P Z hl0 a0 a1 _ newG newE hf) kL_87 ⟨rfl, rfl⟩ ⟨Nat.le_trans (by decide) hRf, Nat.le_trans (by decide) hRl⟩ 0 11 rfl rfl rfl rfl rfl hl.1 (Nat.le_of_ble_eq_true rfl) ⟨Nat.le_trans (by decide) hRc, Nat.le_trans (by decide) hRs⟩ dL_proved_5 (fun ce q9 H1 lo1 I1 hce hcv hcl => ?_)
      refine vx_catch (own := RL) (name := iob) (E := iob) hown [⟨0, 10, 13, 13⟩] ⟨0, 10, 17, 18⟩ [] htab (fun z hz => by cases List.mem_singleton.mp hz; exact Or.inr ⟨by decide, iae, (dr_words hG s.drawn) _ v781, y_nc hY (by decide)⟩) (by decide) (by decide) ((dr_words hG s.drawn) _ v860) (y_cast hY (by decide)) hce hcv hcl ?_
      refine lv_astore hx hb dL_proved_17 hl (by decide) rfl (fun ls2 _ => ?_)
      refine lv_iconst (v := 2) hx hb dL_proved_19 (by decide) ?_
      refine W.widen (k := 2) (n := 58) (by decide) (by decide) ?_
      exact hend H1 lo1 20 ls2 _ ((newG, newE, Dd, P, Z), o) 2 hd0 I1 hΨ dL_proved_20
set_option maxRecDepth 100000 in
set_option maxHeartbeats 4000000 in
theorem wL_strength (ao : Nat) (G : Nat → Nat → Int32) (E : Nat → Nat → Int64) (Dd : Nat → Nat → UInt64) (P : Nat → Option PRec) (Z : List PRec) (o : Nat → UInt64) (hPZ : ∀ (k : Nat) (z : PRec), P k = some z → z ∈ Z) (hl0 : l.stackTraces = false) (a0 : Int32) (a1 : Int32) (Ψ : Int32 → CSt × (Nat → UInt64) → Prop) (h : (∃ rv newG newDd, C_LT_strength G Dd a0 a1 = some (rv, newG, newDd) ∧ ∀ u r, cSm u (newG, E, newDd, P, Z) → alike64 r rv = true → Ψ 0 (u, vf_upd o 0 r)) ∨ (∃ ex newG newE k, X_LT_strength G E a0 a1 = some (ex, newG, newE) ∧ (ex, k) ∈ [(iob, 1), (iae, 2)] ∧ Ψ k ((newG, newE, Dd, P, Z), o))) : wM D (cT cI cJ cD cS) (wD ad ao cI cJ cD cS) l yL_strength (ws2 yL_strength cL_strength 5 (some .int) [(0, 9, 12, 18), (0, 9, 16, 13)]) rmW [.ref (ad 0), .int a0, .int a1, .ref ao] ((G, E, Dd, P, Z), o) Ψ := by
  refine wM_of (by decide) (Nat.le_of_ble_eq_true rfl) ?_
  intro p e R s m args below meth c A Q ls F hRf hRl hRc hRs htab I hY hl hend
  replace F : CallFix p m c cL_strength 5 s args gG RL := F
  obtain ⟨hx, hb, hml, hown, hG⟩ := id F
  have hd0 := Drawn.sameBut.refl s.drawn lw_cs
  replace hl : lv_has ls 5 [(0, .ref (ad 0)), (1, .int a0), (2, .int a1), (3, .ref ao)] := hl
  replace I : sInv D (cT cI cJ cD cS) (fW [(ao, .inl (cD, 1, .inr (.inr (.inr (.inl o)))))] (cW ad cI cJ cD cS)) A s s.heap [] (G, E, Dd, P, Z) := I
  refine lv_aload_n hx hb dL_strength_0 rfl (lv_at hl 3 rfl) ?_
  refine lv_iconst (v := 0) hx hb dL_strength_1 (by decide) ?_
  refine lv_aload_n hx hb dL_strength_2 rfl (lv_at hl 0 rfl) ?_
  refine lv_iload_n hx hb dL_strength_3 rfl (lv_at hl 1 rfl) ?_
  refine lv_iload_n hx hb dL_strength_4 rfl (lv_at hl 2 rfl) ?_
  rcases h with ⟨rv, newG, newDd, hf, hΨ⟩ | ⟨ex, newG, newE, k, hf, hk, hΨ⟩
  · refine f_callVD (As := [.int a0, .int a1]) (Sm := cSm) F hd0 I ⟨rfl, rfl, alikeM_rf _, rfl⟩ I.1 (cC_LT_strength G E Dd P Z a0 a1 rv newG newDd hf) kL_90 ⟨rfl, rfl⟩ ⟨Nat.le_trans (by decide) hRf, Nat.le_trans (by decide) hRl⟩ 0 11 rfl rfl rfl rfl rfl hl.1 (Nat.le_of_ble_eq_true rfl) ⟨Nat.zero_le _, Nat.zero_le _⟩ dL_strength_5 (fun H1 lo1 d1 u r hd1 I1 hu hr => ?_)
    refine va_dast hx hb (Idr I1).1 I1.2.1 I1.2.2.1 I1.2.2.2.1 0 2 rfl rfl in01 dL_strength_8 (fun H2 lo2 hP hD hS => ?_)
    refine lv_goto (tgt := 20) hx hb dL_strength_9 (by decide) ?_
    refine lv_iconst (v := 0) hx hb dL_strength_20 (by decide) ?_
    refine W.widen (k := 2) (n := 58) (by decide) (by decide) ?_
    exact hend H2 lo2 21 ls _ (u, vf_upd o 0 r) 0 hd1 ⟨I1.1, hP, hD, hS, I1.2.2.2.2⟩ (hΨ u r hu hr) dL_strength_21
  · simp only [List.mem_cons, Prod.mk.injEq, List.not_mem_nil, or_false] at hk
    rcases hk with ⟨rfl, rfl⟩ | ⟨rfl, rfl⟩
    · refine f_callVX (As := [.int a0, .int a1]) F I I.1 hY.1 (xX_LT_strength G E Dd P Z hl0 a0 a1 _ newG newE hf) kL_90 ⟨rfl, rfl⟩ ⟨Nat.le_trans (by decide) hRf, Nat.le_trans (by decide) hRl⟩ 0 11 rfl rfl rfl rfl rfl hl.1 (Nat.le_of_ble_eq_true rfl) ⟨Nat.le_trans (by decide) hRc, Nat.le_trans (by decide) hRs⟩ dL_strength_5 (fun ce q9 H1 lo1 I1 hce hcv hcl => ?_)
      refine vx_catch (own := RL) (name := iob) (E := iob) hown [] ⟨0, 9, 12, 18⟩ [⟨0, 9, 16, 13⟩] htab (fun z hz => absurd hz List.not_mem_nil) (by decide) (by decide) ((dr_words hG s.drawn) _ v860) (y_cast hY (by decide)) hce hcv hcl ?_
      refine lv_astore hx hb dL_strength_12 hl (by decide) rfl (fun ls2 _ => ?_)
      refine lv_iconst (v := 1) hx hb dL_strength_14 (by decide) ?_
      refine W.widen (k := 2) (n := 58) (by decide) (by decide) ?_
      exact hend H1 lo1 15 ls2 _ ((newG, newE, Dd, P, Z), o) 1 hd0 I1 hΨ dL_strength_15
    · refine f_callVX (As := [.int a0, .int a1]) F I I.1 hY.1 (xX_LT_strength G E Dd P Z hl0 a0 a1 _ newG newE hf) kL_90 ⟨rfl, rfl⟩ ⟨Nat.le_trans (by decide) hRf, Nat.le_trans (by decide) hRl⟩ 0 11 rfl rfl rfl rfl rfl hl.1 (Nat.le_of_ble_eq_true rfl) ⟨Nat.le_trans (by decide) hRc, Nat.le_trans (by decide) hRs⟩ dL_strength_5 (fun ce q9 H1 lo1 I1 hce hcv hcl => ?_)
      refine vx_catch (own := RL) (name := iae) (E := iae) hown [⟨0, 9, 12, 18⟩] ⟨0, 9, 16, 13⟩ [] htab (fun z hz => by cases List.mem_singleton.mp hz; exact Or.inr ⟨by decide, iob, (dr_words hG s.drawn) _ v860, y_nc hY (by decide)⟩) (by decide) (by decide) ((dr_words hG s.drawn) _ v781) (y_cast hY (by decide)) hce hcv hcl ?_
      refine lv_astore hx hb dL_strength_16 hl (by decide) rfl (fun ls2 _ => ?_)
      refine lv_iconst (v := 2) hx hb dL_strength_18 (by decide) ?_
      refine W.widen (k := 2) (n := 58) (by decide) (by decide) ?_
      exact hend H1 lo1 19 ls2 _ ((newG, newE, Dd, P, Z), o) 2 hd0 I1 hΨ dL_strength_19
set_option maxRecDepth 100000 in
set_option maxHeartbeats 4000000 in
theorem wL_misfit (ao : Nat) (G : Nat → Nat → Int32) (E : Nat → Nat → Int64) (Dd : Nat → Nat → UInt64) (P : Nat → Option PRec) (Z : List PRec) (o : Nat → UInt64) (hPZ : ∀ (k : Nat) (z : PRec), P k = some z → z ∈ Z) (hl0 : l.stackTraces = false) (a0 : Int32) (Ψ : Int32 → CSt × (Nat → UInt64) → Prop) (h : (∃ rv newG newDd, C_LT_misfit G Dd a0 = some (rv, newG, newDd) ∧ ∀ u r, cSm u (newG, E, newDd, P, Z) → alike64 r rv = true → Ψ 0 (u, vf_upd o 0 r)) ∨ (∃ ex newG newE k, X_LT_misfit G E a0 = some (ex, newG, newE) ∧ (ex, k) ∈ [(iae, 1)] ∧ Ψ k ((newG, newE, Dd, P, Z), o))) : wM D (cT cI cJ cD cS) (wD ad ao cI cJ cD cS) l yL_misfit (ws2 yL_misfit cL_misfit 4 (some .int) [(0, 8, 11, 13)]) rmW [.ref (ad 0), .int a0, .ref ao] ((G, E, Dd, P, Z), o) Ψ := by
  refine wM_of (by decide) (Nat.le_of_ble_eq_true rfl) ?_
  intro p e R s m args below meth c A Q ls F hRf hRl hRc hRs htab I hY hl hend
  replace F : CallFix p m c cL_misfit 4 s args gG RL := F
  obtain ⟨hx, hb, hml, hown, hG⟩ := id F
  have hd0 := Drawn.sameBut.refl s.drawn lw_cs
  replace hl : lv_has ls 4 [(0, .ref (ad 0)), (1, .int a0), (2, .ref ao)] := hl
  replace I : sInv D (cT cI cJ cD cS) (fW [(ao, .inl (cD, 1, .inr (.inr (.inr (.inl o)))))] (cW ad cI cJ cD cS)) A s s.heap [] (G, E, Dd, P, Z) := I
  refine lv_aload_n hx hb dL_misfit_0 rfl (lv_at hl 2 rfl) ?_
  refine lv_iconst (v := 0) hx hb dL_misfit_1 (by decide) ?_
  refine lv_aload_n hx hb dL_misfit_2 rfl (lv_at hl 0 rfl) ?_
  refine lv_iload_n hx hb dL_misfit_3 rfl (lv_at hl 1 rfl) ?_
  rcases h with ⟨rv, newG, newDd, hf, hΨ⟩ | ⟨ex, newG, newE, k, hf, hk, hΨ⟩
  · refine f_callVD (As := [.int a0]) (Sm := cSm) F hd0 I ⟨rfl, rfl, alikeM_rf _, rfl⟩ I.1 (cC_LT_misfit G E Dd P Z a0 rv newG newDd hf) kL_93 ⟨rfl, rfl⟩ ⟨Nat.le_trans (by decide) hRf, Nat.le_trans (by decide) hRl⟩ 0 11 rfl rfl rfl rfl rfl hl.1 (Nat.le_of_ble_eq_true rfl) ⟨Nat.zero_le _, Nat.zero_le _⟩ dL_misfit_4 (fun H1 lo1 d1 u r hd1 I1 hu hr => ?_)
    refine va_dast hx hb (Idr I1).1 I1.2.1 I1.2.2.1 I1.2.2.2.1 0 2 rfl rfl in01 dL_misfit_7 (fun H2 lo2 hP hD hS => ?_)
    refine lv_goto (tgt := 14) hx hb dL_misfit_8 (by decide) ?_
    refine lv_iconst (v := 0) hx hb dL_misfit_14 (by decide) ?_
    refine W.widen (k := 2) (n := 58) (by decide) (by decide) ?_
    exact hend H2 lo2 15 ls _ (u, vf_upd o 0 r) 0 hd1 ⟨I1.1, hP, hD, hS, I1.2.2.2.2⟩ (hΨ u r hu hr) dL_misfit_15
  · simp only [List.mem_cons, Prod.mk.injEq, List.not_mem_nil, or_false] at hk
    obtain ⟨rfl, rfl⟩ := hk
    refine f_callVX (As := [.int a0]) F I I.1 hY.1 (xX_LT_misfit G E Dd P Z hl0 a0 _ newG newE hf) kL_93 ⟨rfl, rfl⟩ ⟨Nat.le_trans (by decide) hRf, Nat.le_trans (by decide) hRl⟩ 0 11 rfl rfl rfl rfl rfl hl.1 (Nat.le_of_ble_eq_true rfl) ⟨Nat.le_trans (by decide) hRc, Nat.le_trans (by decide) hRs⟩ dL_misfit_4 (fun ce q9 H1 lo1 I1 hce hcv hcl => ?_)
    refine vx_catch (own := RL) (name := iae) (E := iae) hown [] ⟨0, 8, 11, 13⟩ [] htab (fun z hz => absurd hz List.not_mem_nil) (by decide) (by decide) ((dr_words hG s.drawn) _ v781) (y_cast hY (by decide)) hce hcv hcl ?_
    refine lv_astore_n hx hb dL_misfit_11 rfl hl (by decide) rfl (fun ls2 _ => ?_)
    refine lv_iconst (v := 1) hx hb dL_misfit_12 (by decide) ?_
    refine W.widen (k := 2) (n := 58) (by decide) (by decide) ?_
    exact hend H1 lo1 13 ls2 _ ((newG, newE, Dd, P, Z), o) 1 hd0 I1 hΨ dL_misfit_13
end LWrap
