/-! THE LAW: facts at its start -/
theorem v259 : Cond.instantiable RX0 9 ∈ gG := gG_at 259 (by decide +kernel) (by decide +kernel)
theorem v138 : Cond.instantiable RX1 2 ∈ gG := gG_at 138 (by decide +kernel) (by decide +kernel)
theorem v156 : Cond.instantiable RX2 3 ∈ gG := gG_at 156 (by decide +kernel) (by decide +kernel)
theorem v241 : Cond.instantiable RX3 1 ∈ gG := gG_at 241 (by decide +kernel) (by decide +kernel)
theorem v892 : Cond.instantiable RX4 2 ∈ gG := gG_at 892 (by decide +kernel) (by decide +kernel)
theorem v331 : Cond.instantiable RX5 3 ∈ gG := gG_at 331 (by decide +kernel) (by decide +kernel)
theorem v251 : Cond.instantiable RX6 11 ∈ gG := gG_at 251 (by decide +kernel) (by decide +kernel)
theorem v163 : Cond.instantiable RX7 3 ∈ gG := gG_at 163 (by decide +kernel) (by decide +kernel)
theorem v348 : Cond.instantiable RX8 5 ∈ gG := gG_at 348 (by decide +kernel) (by decide +kernel)
theorem v228 : Cond.instantiable RX9 2 ∈ gG := gG_at 228 (by decide +kernel) (by decide +kernel)
theorem v195 : Cond.instantiable RX10 8 ∈ gG := gG_at 195 (by decide +kernel) (by decide +kernel)
theorem v130 : Cond.instantiable RX11 14 ∈ gG := gG_at 130 (by decide +kernel) (by decide +kernel)
theorem v1198 : Cond.instantiable RX12 40 ∈ gG := gG_at 1198 (by decide +kernel) (by decide +kernel)
theorem v154 : Cond.arrayClass .int ∈ gG := gG_at 154 (by decide +kernel) (by decide +kernel)
theorem v346 : Cond.arrayClass .long ∈ gG := gG_at 346 (by decide +kernel) (by decide +kernel)
theorem v370 : Cond.arrayClass .double ∈ gG := gG_at 370 (by decide +kernel) (by decide +kernel)
theorem v119 : Cond.initialized "java/lang/Throwable" ∈ gG := gG_at 119 (by decide +kernel) (by decide +kernel)
theorem v131 : Cond.methodLink RL 96 yX11_init ∈ gG := gG_at 131 (by decide +kernel) (by decide +kernel)
theorem v132 : Cond.instanceMethod yX11_init ∈ gG := gG_at 132 (by decide +kernel) (by decide +kernel)
theorem v133 : Cond.code yX11_init cX11_init 1 none ∈ gG := gG_at 133 (by decide +kernel) (by decide +kernel)
theorem v1199 : Cond.methodLink RL 99 yX12_init ∈ gG := gG_at 1199 (by decide +kernel) (by decide +kernel)
theorem v1200 : Cond.instanceMethod yX12_init ∈ gG := gG_at 1200 (by decide +kernel) (by decide +kernel)
theorem v1201 : Cond.code yX12_init cX12_init 1 none ∈ gG := gG_at 1201 (by decide +kernel) (by decide +kernel)
theorem v129 : Cond.classLink RL 8 RX11 ∈ gG := gG_at 129 (by decide +kernel) (by decide +kernel)
theorem v1197 : Cond.classLink RL 97 RX12 ∈ gG := gG_at 1197 (by decide +kernel) (by decide +kernel)
theorem start_RR : ∃ G0 P0 h0, C_LT_startAnew (fun _ _ => 0) (fun _ => none) (3 : Int32) (2 : Int32) = some (G0, P0) ∧ M_start (wf (fun _ _ => 0) 9 (-1 : Int32)) (3 : Int32) (2 : Int32) = some h0 ∧ RR G0 P0 h0 ∧ PZ P0 [] := by
  obtain ⟨G5, f1, f2, f3⟩ := k_fill_1 (wf (wf (fun _ _ => 0) 0 (nI 3)) 1 (nI 2)) (1 : Int32)
  obtain ⟨h2, e1, e2, e3, e4, e5, e6, e7, e8, e9, e10⟩ := m_start (h := wf (fun _ _ => 0) 9 (-1 : Int32)) (n := 3) (L := 2)
  obtain ⟨G2, hG2⟩ : ∃ G2, G2 = wf (wf (wf G5 5 (0 : Int32)) 3 (0 : Int32)) 7 (0 : Int32) := ⟨_, rfl⟩
  have g0 : G2 0 0 = nI 3 := by rw [hG2, wf_ne (by decide), wf_ne (by decide), wf_ne (by decide), f2 0 (by decide), wf_ne (by decide), wf00]
  have g1 : G2 1 0 = nI 2 := by rw [hG2, wf_ne (by decide), wf_ne (by decide), wf_ne (by decide), f2 1 (by decide), wf_ap, if_pos rfl]
  have gx : ∀ k, k ≠ 0 → k ≠ 1 → k ≠ 2 → k ≠ 3 → k ≠ 5 → k ≠ 7 → G2 k = fun _ => 0 := fun k p0 p1 p2 p3 p5 p7 => by rw [hG2, wf_ne p7, wf_ne p3, wf_ne p5, f2 k (by simp; exact p2), wf_ne p1, wf_ne p0]
  refine ⟨G2, va_up (fun _ => none) 0 none, h2, ?_, e1, ?_, PZ_no (fun k z hz => by cases hz)⟩
  · unfold C_LT_startAnew C_HI_forgetAll
    dsimp only [nm]
    rw [show (3 : Int32) = nI 3 from rfl, show (2 : Int32) = nI 2 from rfl, bd_of f1, ← hG2]
  · refine ⟨3, 2, fun _ => 1, (0, fun _ _ => 0, none, 0), 0, fun _ => (0, fun _ _ => 0, none, 0), 0, 0, fun _ => 0, ?_, ?_, ?_⟩
    · exact ⟨by decide, by decide, by decide, by decide, fun _ => (show 1 ≤ 9 by decide), ⟨⟨by decide, fun c hc => absurd hc (Nat.not_lt_zero _)⟩, fun c hc => absurd hc (Nat.not_lt_zero _), fun _ => rfl, fun x hx => by cases hx⟩, by decide, fun k hk => absurd hk (Nat.not_lt_zero _), by decide, by decide⟩
    · refine ⟨g0, g1, fun t ht => ?_, ⟨⟨?_, fun c hc => absurd hc (Nat.not_lt_zero _)⟩, ?_, ?_⟩, ?_, ?_, fun k hk => absurd hk (Nat.not_lt_zero _), ?_, fun t ht => absurd ht (Nat.not_lt_zero _)⟩
      · rw [hG2, wf_ne (by decide), wf_ne (by decide), wf_ne (by decide), f3 t ht]; rfl
      · rw [hG2, wf_ne (by decide), wf_ne (by decide), wf_ap, if_pos rfl]; rfl
      · rw [hG2, wf_ne (by decide), wf_ap, if_pos rfl]; rfl
      · rw [up_ap, if_pos rfl]; rfl
      · rw [gx 6 (by decide) (by decide) (by decide) (by decide) (by decide) (by decide)]; rfl
      · rw [hG2, wf_ap, if_pos rfl]; rfl
      · rw [gx 9 (by decide) (by decide) (by decide) (by decide) (by decide) (by decide)]; rfl
    · refine ⟨e3, e4, e5, ⟨⟨e6, fun c hc => absurd hc (Nat.not_lt_zero _)⟩, e7, e8, e9, fun x hx => by cases hx⟩, e10, fun k hk => absurd hk (Nat.not_lt_zero _), ?_, fun t ht => absurd ht (Nat.not_lt_zero _)⟩
      rw [e2 20 (by decide), wf_ne (by decide)]; rfl
set_option maxRecDepth 100000 in
theorem start_K {args : Array Value} {s : State} (hT : ∀ w ∈ lw_tbl, w.before args s = true) : ∃ (D : va_G) (cI cJ cD cS : ClassId), va_K D vwCl (cT cI cJ cD cS) s := by
  have hG : ∀ w ∈ gG, w.before args s = true := fun w h => hT w (gG_tbl h)
  obtain ⟨c0, i0, k0⟩ := u_known (C := RX0) (T := TX0) (N := 9) (n := 9) hG iX0 (hG _ v259)
  obtain ⟨c1, i1, k1⟩ := u_known (C := RX1) (T := TX1) (N := 2) (n := 2) hG iX1 (hG _ v138)
  obtain ⟨c2, i2, k2⟩ := u_known (C := RX2) (T := TX2) (N := 3) (n := 3) hG iX2 (hG _ v156)
  obtain ⟨c3, i3, k3⟩ := u_known (C := RX3) (T := TX3) (N := 1) (n := 1) hG iX3 (hG _ v241)
  obtain ⟨c4, i4, k4⟩ := u_known (C := RX4) (T := TX4) (N := 2) (n := 2) hG iX4 (hG _ v892)
  obtain ⟨c5, i5, k5⟩ := u_known (C := RX5) (T := TX5) (N := 3) (n := 3) hG iX5 (hG _ v331)
  obtain ⟨c6, i6, k6⟩ := u_known (C := RX6) (T := TX6) (N := 11) (n := 11) hG iX6 (hG _ v251)
  obtain ⟨c7, i7, k7⟩ := u_known (C := RX7) (T := TX7) (N := 3) (n := 3) hG iX7 (hG _ v163)
  obtain ⟨c8, i8, k8⟩ := u_known (C := RX8) (T := TX8) (N := 5) (n := 5) hG iX8 (hG _ v348)
  obtain ⟨c9, i9, k9⟩ := u_known (C := RX9) (T := TX9) (N := 2) (n := 2) hG iX9 (hG _ v228)
  obtain ⟨c10, i10, k10⟩ := u_known (C := RX10) (T := TX10) (N := 8) (n := 8) hG iX10 (hG _ v195)
  obtain ⟨c11, i11, k11⟩ := u_known (C := RX11) (T := TX11) (N := 14) (n := 14) hG iX11 (hG _ v130)
  obtain ⟨c12, i12, k12⟩ := u_known (C := RX12) (T := TX12) (N := 40) (n := 40) hG iX12 (hG _ v1198)
  obtain ⟨cI, kI, mI, f1, f2, f3⟩ := Cond.arrayClass_spec (hG _ v154)
  obtain ⟨cJ, kJ, mJ, g1, g2, g3⟩ := Cond.arrayClass_spec (hG _ v346)
  obtain ⟨cD, kD, mD, j1, j2, j3⟩ := Cond.arrayClass_spec (hG _ v370)
  obtain ⟨comp, cS, kS, l1, l2, l3, l4, l5⟩ := Cond.arrayOver_spec (hT (Cond.arrayOver (.object RX7)) (List.mem_of_getElem? (i := 162) (by decide +kernel)))
  refine ⟨(fun k => match k with | 0 => c0 | 1 => c1 | 2 => c2 | 3 => c3 | 4 => c4 | 5 => c5 | 6 => c6 | 7 => c7 | 8 => c8 | 9 => c9 | 10 => c10 | 11 => c11 | _ => c12, fun k => match k with | 0 => i0 | 1 => i1 | 2 => i2 | 3 => i3 | 4 => i4 | 5 => i5 | 6 => i6 | 7 => i7 | 8 => i8 | 9 => i9 | 10 => i10 | 11 => i11 | _ => i12), cI, cJ, cD, cS, ?_, ?_⟩
  · intro k q hq
    match k, hq with
    | 0, hq => cases hq; exact k0
    | 1, hq => cases hq; exact k1
    | 2, hq => cases hq; exact k2
    | 3, hq => cases hq; exact k3
    | 4, hq => cases hq; exact k4
    | 5, hq => cases hq; exact k5
    | 6, hq => cases hq; exact k6
    | 7, hq => cases hq; exact k7
    | 8, hq => cases hq; exact k8
    | 9, hq => cases hq; exact k9
    | 10, hq => cases hq; exact k10
    | 11, hq => cases hq; exact k11
    | 12, hq => cases hq; exact k12
    | k + 13, hq => cases hq
  · intro k q hq
    match k, hq with
    | 0, hq => cases hq; exact ⟨fun n z => ⟨fun k h => (by cases h), kI, f2, mI, f3⟩, f1⟩
    | 1, hq => cases hq; exact ⟨fun n z => ⟨fun k h => (by cases h), kJ, g2, mJ, g3⟩, g1⟩
    | 2, hq => cases hq; exact ⟨fun n z => ⟨fun k h => (by cases h), kD, j2, mD, j3⟩, j1⟩
    | 3, hq => cases hq; exact ⟨fun n z => ⟨fun k h => (by cases h), kS, l3, comp, l4⟩, kS, comp, l3, l4, l1, l5⟩
    | k + 4, hq => cases hq
theorem tbl_place {ws : List Cond} (ps : List Nat) (hp : ws = ps.filterMap (fun i => lw_tbl[i]?)) : ∀ w ∈ ws, w ∈ lw_tbl := fun w hw => by
  rw [hp] at hw
  obtain ⟨i, -, hi⟩ := List.mem_filterMap.mp hw
  exact List.mem_of_getElem? hi
theorem xL_in : ∀ w ∈ xL, w ∈ lw_tbl := tbl_place [793, 795, 797, 791, 870, 940] (by decide +kernel)
theorem xS_in : ∀ w ∈ xS.map (fun t => Cond.stringRef RX11 t.1 t.2), w ∈ lw_tbl := tbl_place [830, 877, 947, 965, 1004, 1027, 1040, 1145] (by decide +kernel)
theorem xN_in : ∀ w ∈ xN.map (fun t => Cond.not (.castable t.1 t.2)), w ∈ flatC (Jvm.Cond.and given_1 narrow_1) := by decide +kernel
theorem zz_in : ∀ w ∈ [Cond.isRef (.static "java/lang/Throwable" "UNASSIGNED_STACK" "[Ljava/lang/StackTraceElement;"), Cond.isRef (.static "java/lang/Throwable" "SUPPRESSED_SENTINEL" "Ljava/util/List;")], w ∈ flatC (Jvm.Cond.and given_1 narrow_1) := by decide +kernel
theorem start_Y {b : Nat} {s : State} (hT : ∀ w ∈ lw_tbl, w.before #[Value.ref b] s = true) (hgv : (Jvm.Cond.and given_1 narrow_1).before #[Value.ref b] s = true) : yOK (fun q : Nat => s.heap.size ≤ q) s s.heap := by
  have hG : ∀ w ∈ gG, w.before #[Value.ref b] s = true := fun w h => hT w (gG_tbl h)
  have hF := flat_of_before _ hgv
  have hA : ∀ a : Nat, a < s.heap.size → ¬ (fun q : Nat => s.heap.size ≤ q) a := fun a h => Nat.not_le.mpr h
  obtain ⟨cC, kC, hfc, -⟩ := Cond.instantiable_spec (hG _ v130)
  refine ⟨⟨vx_Zqof (hT (Cond.laysStatic "java/lang/Throwable" "UNASSIGNED_STACK" "[Ljava/lang/StackTraceElement;") (List.mem_of_getElem? (i := 816) (by decide +kernel))) (hG _ v119) (hF _ (zz_in _ List.mem_cons_self)) hA, vx_Zqof (hT (Cond.laysStatic "java/lang/Throwable" "SUPPRESSED_SENTINEL" "Ljava/util/List;") (List.mem_of_getElem? (i := 818) (by decide +kernel))) (hG _ v119) (hF _ (zz_in _ (List.mem_cons_of_mem _ List.mem_cons_self))) hA, fun w hw => va_tabs (xL_kind w hw).2 rfl (hT w (xL_in w hw)), fun t ht => ?_, Vm.Alike.refl _⟩, fun t ht => va_Nc.of (hF _ (xN_in _ (List.mem_map.mpr ⟨t, ht, rfl⟩)))⟩
  have h1 := hT _ (xS_in _ (List.mem_map.mpr ⟨t, ht, rfl⟩))
  obtain ⟨k, cf, i, a, -, -, -, -, -, hev⟩ := Cond.stringRef_spec hfc h1
  exact ⟨a, vk_R.of h1 hev⟩
theorem pm_4 (x y : Nat × va_E) (a b : va_W) : (((b ++ a) ++ [x]) ++ [y]).Perm (x :: y :: (a ++ b)) := ((List.perm_append_comm (l₁ := (b ++ a) ++ [x]) (l₂ := [y])).trans (List.Perm.cons y (List.perm_append_comm (l₁ := b ++ a) (l₂ := [x])))).trans ((List.Perm.swap x y (b ++ a)).trans (List.Perm.cons x (List.Perm.cons y List.perm_append_comm)))
theorem kL_96 : kI RL 96 yX11_init cX11_init 1 0 := ⟨⟨v131, v132, v106, v133⟩, by decide +kernel⟩
theorem kL_99 : kI RL 99 yX12_init cX12_init 1 0 := ⟨⟨v1199, v1200, v118, v1201⟩, by decide +kernel⟩
