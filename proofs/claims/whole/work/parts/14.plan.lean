/-! PLAN A LISTENER: a method that lays a new object -/
def sMx (D : va_G) (tys : List (ClassId × FieldType)) {Sg : Type} (Wd : Sg → va_W) (l : Launch) (y : MethodName) (ws : List Cond) (rm : Room) (av : List Value) (σ : Sg) (X : Int32 → Sg → Prop) (mc ms : Nat) : Prop := ∀ sz : Nat, Met l y ws rm (va_Pc av (sPre D tys Wd σ sz)) (va_Qi X (sB D tys Wd (va_A (Wd σ) sz)) (va_A (Wd σ) sz)) mc ms (va_A (Wd σ) sz)
theorem sMx_of {D : va_G} {tys : List (ClassId × FieldType)} {Sg : Type} {Wd : Sg → va_W} {l : Launch} {y : MethodName} {cc : ByteArray} {maxL : Nat} {rm : Room} {av : List Value} {σ : Sg} {X : Int32 → Sg → Prop} (hy : plainName y.cls = true) (hn : (lg_sl av).length ≤ maxL)
    (body : ∀ (p : Program) (e : Env) (R : Room) (s : State) (m : MethodId) (args : Array Value) (below : List Frame) (meth : Method) (c : Code) (A : Nat → Prop) (Q : State → Prop) (ls : Array Slot) (H0 : Heap) (locs0 : List Loc),
      CallFix p m c cc maxL s args gG y.cls → rm.frames ≤ R.frames → rm.locals ≤ R.locals → rm.cells ≤ R.cells → rm.slots ≤ R.slots → sInv D tys Wd A s H0 locs0 σ → lv_has ls maxL (lv_args 0 av) →
      (∀ (H : Heap) (locs : List Loc) (pc : Nat) (ls : Array Slot) (r : Int32) (u : Sg), X r u → sInv D tys Wd A s H locs u → decode cc pc = .ok (.ireturn, 1) → W p l e R s m args below meth c H locs rm.cells rm.slots Q (F0 m pc ls [.int r])) →
      W p l e R s m args below meth c H0 locs0 0 0 Q (F0 m 0 ls [])) : sMx D tys Wd l y (ws1 y cc maxL (some .int)) rm av σ X rm.cells rm.slots := by
  intro sz
  refine Met.ofW (cc := cc) (maxL := maxL) (ret := some .int) hy rfl ?_
  intro p e s m args below meth c s₁ B hml hv
  obtain ⟨rfl, hv⟩ := hv
  have hsz := hv.1
  subst hsz
  have hts := atoms_spec (ws := ws1 y cc maxL (some .int)) B.pre
  have hl := lv_entry av (n := maxL) hn
  rw [lg_entry_eq]
  refine body p e _ s m _ below meth c (va_A (Wd σ) s.heap.size) _ _ s.heap [] ⟨B.exec, B.bytes, hml, findClass_of_methodNamed B.named, fun w h => hts w (List.mem_cons_of_mem _ h)⟩ (Nat.le_refl _) (Nat.le_refl _) (Nat.le_refl _) (Nat.le_refl _) (sInv_entry hv) hl (fun H locs pc ls r u hX I d => ?_)
  exact W.zret B.exec B.bytes B.returns rfl (fun t ht hW => ⟨⟨r, u, rfl, hX, by rw [ht]; exact I.2.1, va_K.moved hW.alike I.1, I.2.2.1⟩, I.2.2.2.1.F ht⟩) I.2.2.2.1.2.2 d B.notSynchronized
theorem app_left {D : va_G} {cl : List vw_C} {X wc : va_W} {H : Heap} (hP : va_P D cl (X ++ wc) H) : va_P D cl X H := fun k q hq => hP k q (by rw [List.getElem?_append_left (List.getElem?_eq_some_iff.mp hq).1]; exact hq)
theorem app_leftD {A : Nat → Prop} {X wc : va_W} (hD : va_D A (X ++ wc)) : va_D A X := by
  have hr : ∀ (k : Nat) (q : Nat × va_E), X[k]? = some q → (X ++ wc)[k]? = some q := fun k q h => by
    rw [List.getElem?_append_left (List.getElem?_eq_some_iff.mp h).1]; exact h
  exact ⟨fun i j p q hi hj e => hD.1 i j p q (hr i p hi) (hr j q hj) e, fun k q hq => hD.2 k q (hr k q hq)⟩
theorem fm_grow {α β : Type} {L : List β} {Z : List α} {f : α → List β} {z : α} : (L ++ Z.flatMap f) ++ f z = L ++ (Z ++ [z]).flatMap f := by
  rw [List.flatMap_append, List.append_assoc]
  simp

theorem q893 : Cond.methodLink RX11 92 yX4_init ∈ gG := gG_at 893 (by decide +kernel) (by decide +kernel)
theorem q894 : Cond.instanceMethod yX4_init ∈ gG := gG_at 894 (by decide +kernel) (by decide +kernel)
theorem q895 : Cond.code yX4_init cX4_init 5 none ∈ gG := gG_at 895 (by decide +kernel) (by decide +kernel)
theorem q891 : Cond.classLink RX11 87 RX4 ∈ gG := gG_at 891 (by decide +kernel) (by decide +kernel)
theorem q892 : Cond.instantiable RX4 2 ∈ gG := gG_at 892 (by decide +kernel) (by decide +kernel)
theorem kiX11_92 : kI RX11 92 yX4_init cX4_init 5 4 := ⟨⟨q893, q894, q124, q895⟩, by decide +kernel⟩
section PlanL
variable {D : va_G} {l : Launch} {ad : Nat → Nat} {cI cJ cD cS : ClassId}
def C_LT_plan (G : Nat → Nat → Int32) (a0 a1 a2 : Int32) : Option (Int32 × (Nat → Nat → Int32) × Nat × (Nat → Nat → Int32)) :=
bd0 (C_LT_requireIndex a0 (G 1 0)) <|
gd ((a1 = 1 ∨ a1 = 2) ∧ ¬ a2 < 0) <|
bd2 (P_init a0 (G 0 0) a1 a2) fun n G3 =>
some (P_size n, wf G 3 0, n, G3)
set_option maxRecDepth 100000 in
set_option maxHeartbeats 8000000 in
theorem cC_LT_plan (G : Nat → Nat → Int32) (E : Nat → Nat → Int64) (Dd : Nat → Nat → UInt64) (P : Nat → Option PRec) (Z : List PRec) (a0 a1 a2 : Int32) (rv : Int32) (newG : Nat → Nat → Int32) (n : Nat) (G3 : Nat → Nat → Int32) (hf : C_LT_plan G a0 a1 a2 = some (rv, newG, n, G3)) : sMx D (cT cI cJ cD cS) (cW ad cI cJ cD cS) l yX11_plan (ws1 yX11_plan cX11_plan 5 (some .int)) ({ frames := 3, cells := 2, slots := 58, locals := 73 }) [.ref (ad 0), .int a0, .int a1, .int a2] (G, E, Dd, P, Z) (fun r u => ∃ q a : Nat, r = rv ∧ u = (newG, E, Dd, va_up P 0 (some (q, a, G3 0 0, n, G3 1)), Z ++ [(q, a, G3 0 0, n, G3 1)])) 2 58 := by
  unfold C_LT_plan at hf
  obtain ⟨h1, hf⟩ := bd0_some hf
  obtain ⟨⟨g1, g2⟩, hf⟩ := gd_some hf
  obtain ⟨n', G3', h2, hf⟩ := bd2_some hf
  obtain ⟨e1, hf⟩ := Prod.mk.inj (Option.some.inj hf)
  obtain ⟨e2, hf⟩ := Prod.mk.inj hf
  obtain ⟨e3, e4⟩ := Prod.mk.inj hf
  rw [e3] at e1 h2
  rw [e4] at h2
  refine sMx_of (rm := { frames := 3, cells := 2, slots := 58, locals := 73 }) (by decide) (Nat.le_of_ble_eq_true rfl) ?_
  intro p e R s m args below meth c A Q ls H lo F hRf hRl hRc hRs I hl ret
  obtain ⟨hx, hb, hml, hown, hG⟩ := id F
  replace hRc : 2 ≤ R.cells := hRc
  replace hRs : 58 ≤ R.slots := hRs
  replace hl : lv_has ls 5 [(0, .ref (ad 0)), (1, .int a0), (2, .int a1), (3, .int a2)] := hl
  refine lv_iload_n hx hb dX11_plan_0 rfl (lv_at hl 1 rfl) ?_
  refine lv_aload_n hx hb dX11_plan_1 rfl (lv_at hl 0 rfl) ?_
  refine kgtX11_80_0 F I dX11_plan_2 ?_
  refine s_callSv (As := [.int a0, .int (G 1 0)]) (rest := []) F I (cC_LT_requireIndex G E Dd P Z a0 (G 1 0) h1) kX11_84 ⟨rfl, rfl⟩ ⟨Nat.le_trans (Nat.le_of_ble_eq_true rfl) hRf, Nat.le_trans (Nat.le_of_ble_eq_true rfl) hRl⟩ rfl rfl hl.1 (Nat.le_of_ble_eq_true rfl) ⟨Nat.zero_le _, Nat.zero_le _⟩ dX11_plan_5 ?_
  clear I
  intro H1 lo1 I
  have h18 : W p l e R s m args below meth c H1 lo1 0 0 Q (F0 m 18 ls []) := by
    refine lv_iload_n hx hb dX11_plan_18 rfl (lv_at hl 3 rfl) ?_
    refine lv_if_lt (tgt := 26) hx hb dX11_plan_19 (by decide) (fun h => absurd h g2) (fun _ => ?_)
    refine lv_iconst (v := (1 : Int32)) hx hb dX11_plan_22 (by decide) ?_
    refine lv_goto (tgt := 27) hx hb dX11_plan_23 (by decide) ?_
    refine s_callSv (As := [.int (1 : Int32)]) (rest := []) F I (cC_LT_requireArgument G E Dd P Z (1 : Int32) (by decide)) kX11_76 ⟨rfl, rfl⟩ ⟨Nat.le_trans (Nat.le_of_ble_eq_true rfl) hRf, Nat.le_trans (Nat.le_of_ble_eq_true rfl) hRl⟩ rfl rfl hl.1 (Nat.le_of_ble_eq_true rfl) ⟨Nat.zero_le _, Nat.zero_le _⟩ dX11_plan_27 ?_
    clear I
    intro H2 lo2 I
    refine va_new (ci := 4) (fs := [.int 0, .null]) (C := RX4) (T := TX4) (N := 2) hx hb hG iX4 tyX4 tyX4_ok hown (hG _ q891) (hG _ q892) (hG _ q124) I.1 I.2.1 I.2.2.1 I.2.2.2.1 I.2.2.2.2.1 rfl (fun j hj => match j, hj with | 0, _ => rfl | 1, _ => rfl | n + 2, h => absurd h (by omega)) (by omega) (by omega) dX11_plan_30 (fun q1 H3 hP hD hS => ?_)
    have I3 : sInv D (cT cI cJ cD cS) (cW ad cI cJ cD cS) A s H3 lo2 (G, E, Dd, P, Z) := ⟨I.1, app_left hP, app_leftD hD, hS, I.2.2.2.2⟩
    refine lv_dup hx hb dX11_plan_33 rfl ?_
    refine lv_iload_n hx hb dX11_plan_34 rfl (lv_at hl 1 rfl) ?_
    refine lv_aload_n hx hb dX11_plan_35 rfl (lv_at hl 0 rfl) ?_
    refine kgtX11_89_0 F I3 dX11_plan_36 ?_
    refine lv_iload_n hx hb dX11_plan_39 rfl (lv_at hl 2 rfl) ?_
    refine lv_iload_n hx hb dX11_plan_40 rfl (lv_at hl 3 rfl) ?_
    refine n_callI (X := cW ad cI cJ cD cS (G, E, Dd, P, Z)) (w0 := [(q1, .inr (4, [.int 0, .null]))]) (As := [.int a0, .int (G 0 0), .int a1, .int a2]) (rest := [.ref q1]) F I.2.2.2.2.2 I.1 hP hD hS I.2.2.2.2.1 (nX4 q1 a0 (G 0 0) a1 a2 n G3 h2).2 kiX11_92 rfl ⟨rfl, rfl⟩ ⟨Nat.le_trans (Nat.le_of_ble_eq_true rfl) hRf, Nat.le_trans (Nat.le_of_ble_eq_true rfl) hRl⟩ rfl rfl hl.1 (Nat.le_of_ble_eq_true rfl) ⟨by omega, by omega⟩ dX11_plan_41 (fun u H4 lo4 hP hD hS => ?_)
    have ew : cW ad cI cJ cD cS (G, E, Dd, P, Z) ++ pWd q1 (u 0) n cI G3 = cW ad cI cJ cD cS (G, E, Dd, P, Z ++ [((q1, u 0, G3 0 0, n, G3 1) : PRec)]) := fm_grow (f := pW cI) (z := ((q1, u 0, G3 0 0, n, G3 1) : PRec))
    have I4 : sInv D (cT cI cJ cD cS) (cW ad cI cJ cD cS) A s H4 lo4 (G, E, Dd, P, Z ++ [((q1, u 0, G3 0 0, n, G3 1) : PRec)]) := ⟨I.1, by rw [← ew]; exact hP, by rw [← ew]; exact hD, hS, I.2.2.2.2⟩
    refine lv_astore (lv' := [(4, .ref q1), (0, .ref (ad 0)), (1, .int a0), (2, .int a1), (3, .int a2)]) hx hb dX11_plan_44 hl (by decide) rfl (fun ls hl => ?_)
    refine lv_aload_n hx hb dX11_plan_46 rfl (lv_at hl 1 rfl) ?_
    refine lv_aload hx hb dX11_plan_47 (lv_at hl 0 rfl) ?_
    refine kppX11_95 (o := some ((q1, u 0, G3 0 0, n, G3 1) : PRec)) F I4 dX11_plan_49 (fun H5 lo5 M5 hM5 I5 => ?_)
    refine lv_aload_n hx hb dX11_plan_52 rfl (lv_at hl 1 rfl) ?_
    refine lv_iconst (v := (0 : Int32)) hx hb dX11_plan_53 (by decide) ?_
    refine kptX11_99_0 F I5 dX11_plan_54 (fun H6 lo6 M6 hM6 I6 => ?_)
    refine lv_aload hx hb dX11_plan_57 (lv_at hl 0 rfl) ?_
    have hz : ((q1, u 0, G3 0 0, n, G3 1) : PRec) ∈ Z ++ [((q1, u 0, G3 0 0, n, G3 1) : PRec)] := List.mem_append_right _ List.mem_cons_self
    refine x_callVi (τ := pG ((q1, u 0, G3 0 0, n, G3 1) : PRec)) (As := []) (rest := []) F I6 (I6.1.sub [0] rfl) (pl_sub I6 hz) (pl_D I6 hz) (cP_size (pG ((q1, u 0, G3 0 0, n, G3 1) : PRec)) rv e1.symm) kX11_102 ⟨rfl, rfl⟩ ⟨Nat.le_trans (Nat.le_of_ble_eq_true rfl) hRf, Nat.le_trans (Nat.le_of_ble_eq_true rfl) hRl⟩ 0 4 rfl rfl rfl rfl rfl hl.1 (Nat.le_of_ble_eq_true rfl) ⟨hRc, hRs⟩ dX11_plan_59 ?_
    intro H7 lo7 I7
    exact ret H7 lo7 _ ls _ _ ⟨q1, u 0, rfl, by rw [hM5, hM6, e2]⟩ I7 dX11_plan_62
  refine lv_iload_n hx hb dX11_plan_8 rfl (lv_at hl 2 rfl) ?_
  refine lv_iconst (v := (1 : Int32)) hx hb dX11_plan_9 (by decide) ?_
  refine lv_icmp_eq (tgt := 18) hx hb dX11_plan_10 (by decide) (fun _ => h18) (fun c1 => ?_)
  refine lv_iload_n hx hb dX11_plan_13 rfl (lv_at hl 2 rfl) ?_
  refine lv_iconst (v := (2 : Int32)) hx hb dX11_plan_14 (by decide) ?_
  refine lv_icmp_ne (tgt := 26) hx hb dX11_plan_15 (by decide) (fun c2 => ?_) (fun _ => h18)
  exact absurd g1 (fun h => h.elim c1 c2)
end PlanL
