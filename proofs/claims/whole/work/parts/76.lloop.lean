/-! THE LAW'S LOOP -/
theorem tsw27 {x : Int32} (c0 : ¬ x = (0 : Int32)) (c1 : ¬ x = (1 : Int32)) (c2 : ¬ x = (2 : Int32)) (c3 : ¬ x = (3 : Int32)) (c4 : ¬ x = (4 : Int32)) (c5 : ¬ x = (5 : Int32)) (c6 : ¬ x = (6 : Int32)) (c7 : ¬ x = (7 : Int32)) (c8 : ¬ x = (8 : Int32)) (c9 : ¬ x = (9 : Int32)) (c10 : ¬ x = (10 : Int32)) (c11 : ¬ x = (11 : Int32)) (c12 : ¬ x = (12 : Int32)) (c13 : ¬ x = (13 : Int32)) (c14 : ¬ x = (14 : Int32)) (c15 : ¬ x = (15 : Int32)) (c16 : ¬ x = (16 : Int32)) (c17 : ¬ x = (17 : Int32)) (c18 : ¬ x = (18 : Int32)) (c19 : ¬ x = (19 : Int32)) (c20 : ¬ x = (20 : Int32)) (c21 : ¬ x = (21 : Int32)) (c22 : ¬ x = (22 : Int32)) (c23 : ¬ x = (23 : Int32)) (c24 : ¬ x = (24 : Int32)) (c25 : ¬ x = (25 : Int32)) (c26 : ¬ x = (26 : Int32)) (c27 : ¬ x = (27 : Int32)) : x.toInt < 0 ∨ (27 : Int) < x.toInt := by
  have h0 : x.toInt ≠ 0 := fun h => c0 (Int32.toInt_inj.mp (by rw [h]; rfl))
  have h1 : x.toInt ≠ 1 := fun h => c1 (Int32.toInt_inj.mp (by rw [h]; rfl))
  have h2 : x.toInt ≠ 2 := fun h => c2 (Int32.toInt_inj.mp (by rw [h]; rfl))
  have h3 : x.toInt ≠ 3 := fun h => c3 (Int32.toInt_inj.mp (by rw [h]; rfl))
  have h4 : x.toInt ≠ 4 := fun h => c4 (Int32.toInt_inj.mp (by rw [h]; rfl))
  have h5 : x.toInt ≠ 5 := fun h => c5 (Int32.toInt_inj.mp (by rw [h]; rfl))
  have h6 : x.toInt ≠ 6 := fun h => c6 (Int32.toInt_inj.mp (by rw [h]; rfl))
  have h7 : x.toInt ≠ 7 := fun h => c7 (Int32.toInt_inj.mp (by rw [h]; rfl))
  have h8 : x.toInt ≠ 8 := fun h => c8 (Int32.toInt_inj.mp (by rw [h]; rfl))
  have h9 : x.toInt ≠ 9 := fun h => c9 (Int32.toInt_inj.mp (by rw [h]; rfl))
  have h10 : x.toInt ≠ 10 := fun h => c10 (Int32.toInt_inj.mp (by rw [h]; rfl))
  have h11 : x.toInt ≠ 11 := fun h => c11 (Int32.toInt_inj.mp (by rw [h]; rfl))
  have h12 : x.toInt ≠ 12 := fun h => c12 (Int32.toInt_inj.mp (by rw [h]; rfl))
  have h13 : x.toInt ≠ 13 := fun h => c13 (Int32.toInt_inj.mp (by rw [h]; rfl))
  have h14 : x.toInt ≠ 14 := fun h => c14 (Int32.toInt_inj.mp (by rw [h]; rfl))
  have h15 : x.toInt ≠ 15 := fun h => c15 (Int32.toInt_inj.mp (by rw [h]; rfl))
  have h16 : x.toInt ≠ 16 := fun h => c16 (Int32.toInt_inj.mp (by rw [h]; rfl))
  have h17 : x.toInt ≠ 17 := fun h => c17 (Int32.toInt_inj.mp (by rw [h]; rfl))
  have h18 : x.toInt ≠ 18 := fun h => c18 (Int32.toInt_inj.mp (by rw [h]; rfl))
  have h19 : x.toInt ≠ 19 := fun h => c19 (Int32.toInt_inj.mp (by rw [h]; rfl))
  have h20 : x.toInt ≠ 20 := fun h => c20 (Int32.toInt_inj.mp (by rw [h]; rfl))
  have h21 : x.toInt ≠ 21 := fun h => c21 (Int32.toInt_inj.mp (by rw [h]; rfl))
  have h22 : x.toInt ≠ 22 := fun h => c22 (Int32.toInt_inj.mp (by rw [h]; rfl))
  have h23 : x.toInt ≠ 23 := fun h => c23 (Int32.toInt_inj.mp (by rw [h]; rfl))
  have h24 : x.toInt ≠ 24 := fun h => c24 (Int32.toInt_inj.mp (by rw [h]; rfl))
  have h25 : x.toInt ≠ 25 := fun h => c25 (Int32.toInt_inj.mp (by rw [h]; rfl))
  have h26 : x.toInt ≠ 26 := fun h => c26 (Int32.toInt_inj.mp (by rw [h]; rfl))
  have h27 : x.toInt ≠ 27 := fun h => c27 (Int32.toInt_inj.mp (by rw [h]; rfl))
  omega
theorem l_go {L i : Nat} (hL : L ≤ 2560) (hi : i ≤ 3000) (h : ¬ (Int32.ofNat L - 5 < nI i)) : i + 5 ≤ L := by
  by_cases h5 : 5 ≤ L
  · have e : Int32.ofNat L - 5 = nI (L - 5) := by
      have e2 : nI (L - 5) + 5 = nI L := by
        rw [show (5 : Int32) = nI 5 from rfl, nI_add]
        congr 1
        omega
      show nI L - 5 = nI (L - 5)
      rw [← e2, Int32.add_sub_cancel]
    rw [e] at h
    rcases Nat.lt_or_ge (L - 5) i with g | g
    · exact absurd (nI_lt g (by omega)) h
    · omega
  · exfalso
    have h0 : (0 : Int32) ≤ nI i := nI_le (a := 0) (Nat.zero_le i) (by omega)
    refine h (Int32.lt_of_lt_of_le (b := 0) ?_ h0)
    rcases (show L = 0 ∨ L = 1 ∨ L = 2 ∨ L = 3 ∨ L = 4 by omega) with rfl | rfl | rfl | rfl | rfl <;> decide
section LawL
variable {D : va_G} {l : Launch} {cI cJ cD cS : ClassId} {ac am : Nat → Nat} {aO aD b L : Nat} {xs : Nat → Int32}
variable {p : Program} {e : Env} {s : State} {m : MethodId} {below : List Frame} {meth : Method} {c : Code}
set_option maxRecDepth 100000 in
set_option maxHeartbeats 4000000 in
theorem law_head (C : lCx p l m c s #[Value.ref b] (fun q : Nat => s.heap.size ≤ q) b L xs) (hr : meth.sig.returnType = ret) (hlocks : meth.locks = false) (hL : L ≤ 2560) {i : Nat} {x5 : Int32} {cells slots : Nat} {H : Heap} {locs : List Loc} {d0 : Drawn} {u : CSt × MSt × (Nat → Int64) × (Nat → UInt64)} {ls : Array Slot} (hi : i ≤ 3000) (hc : cells ≤ room_1.cells) (hs : slots ≤ room_1.slots) (hx5 : x5 = nI i) (hd0 : s.drawn.sameBut d0 lw_cs) (I : sInv D (cT cI cJ cD cS) (lW ac am aO aD cI cJ cD cS) (fun q : Nat => s.heap.size ≤ q) s H locs u) (hl : lv_has ls 9 [(0, .ref b), (1, .ref (ac 0)), (2, .ref (am 0)), (3, .ref aO), (4, .ref aD), (5, .int x5)]) (K : i + 5 ≤ L → W p l e room_1 (s.setDrawn d0) m #[Value.ref b] below meth c H locs cells slots (lw_Z below #[Value.ref b] s) (F0 m 37 ls [])) : W p l e room_1 (s.setDrawn d0) m #[Value.ref b] below meth c H locs cells slots (lw_Z below #[Value.ref b] s) (F0 m 28 ls []) := by
  obtain ⟨F, hX, hbl, hbA, hY, hl0⟩ := C
  obtain ⟨hx, hb, hml, hown, hG⟩ := id F
  refine lv_iload hx hb dL_law_28 (lv_at hl 5 rfl) ?_
  refine lv_aload_n hx hb dL_law_30 rfl (lv_at hl 0 rfl) ?_
  refine va_slen hx hb (va_X.moved (u := s) (U := s.setDrawn d0) (Vm.Alike.refl s.vm) hX) hbl hbA I.2.2.2.1 dL_law_31 ?_
  refine lv_iconst (v := 5) hx hb dL_law_32 (by decide) ?_
  refine lv_isub hx hb dL_law_33 ?_
  refine lv_icmp_gt (tgt := 1867) hx hb dL_law_34 (by decide) (fun _ => ?_) (fun hg => K (l_go hL hi (by rw [← hx5]; exact hg)))
  refine lv_iconst (v := 1) hx hb dL_law_1867 (by decide) ?_
  refine va_forget (s := s.setDrawn d0) (fun q hq => I.2.2.2.1.2.2 q hq) ?_
  refine W.widen hc hs ?_
  exact lw_ret hd0 hx hb hr hlocks dL_law_1868
set_option maxRecDepth 100000 in
set_option maxHeartbeats 4000000 in
theorem law_loop (C : lCx p l m c s #[Value.ref b] (fun q : Nat => s.heap.size ≤ q) b L xs) (hr : meth.sig.returnType = ret) (hlocks : meth.locks = false) (hL : L ≤ 2560) : ∀ (f i : Nat) (x5 : Int32) (cells slots : Nat), L ≤ i + 5 * f + 4 → i + 5 * f ≤ 3000 → cells + 2 * f ≤ room_1.cells → slots + 58 * f ≤ room_1.slots → x5 = nI i → ∀ (H : Heap) (locs : List Loc) (d0 : Drawn) (u : CSt × MSt × (Nat → Int64) × (Nat → UInt64)) (ls : Array Slot), s.drawn.sameBut d0 lw_cs → sInv D (cT cI cJ cD cS) (lW ac am aO aD cI cJ cD cS) (fun q : Nat => s.heap.size ≤ q) s H locs u → lR u → lv_has ls 9 [(0, .ref b), (1, .ref (ac 0)), (2, .ref (am 0)), (3, .ref aO), (4, .ref aD), (5, .int x5)] → W p l e room_1 (s.setDrawn d0) m #[Value.ref b] below meth c H locs cells slots (lw_Z below #[Value.ref b] s) (F0 m 28 ls []) := by
  intro f
  induction f with
  | zero =>
    intro i x5 cells slots h1 h2 h3 h4 hx5 H locs d0 u ls hd0 I hR hl
    exact law_head C hr hlocks hL (by omega) (by omega) (by omega) hx5 hd0 I hl (fun hi => absurd hi (by omega))
  | succ f ih =>
    intro i x5 cells slots h1 h2 h3 h4 hx5 H locs d0 u ls hd0 I hR hl
    refine law_head C hr hlocks hL (by omega) (by omega) (by omega) hx5 hd0 I hl (fun hi => ?_)
    obtain ⟨F, hX, hbl, hbA, hY, hl0⟩ := id C
    obtain ⟨hx, hb, hml, hown, hG⟩ := id F
    have K : lK p l e room_1 s m #[Value.ref b] below meth c D (fun q : Nat => s.heap.size ≤ q) cells slots (lw_Z below #[Value.ref b] s) ac am aO aD cI cJ cD cS b x5 := by
      intro H1 locs1 d1 u1 ls1 hd1 I1 hR1 hl1
      obtain ⟨y5, ey5⟩ : ∃ y : Int32, y = x5 + 5 := ⟨_, rfl⟩
      refine lv_iinc (v := y5) (lv' := [(5, .int y5), (0, .ref b), (1, .ref (ac 0)), (2, .ref (am 0)), (3, .ref aO), (4, .ref aD)]) hx hb dL_law_1861 hl1 (k := 5) rfl (by rw [ey5]; rfl) (by decide) rfl (fun ls2 hl2 => ?_)
      refine lv_goto (tgt := 28) hx hb dL_law_1864 (by decide) ?_
      exact ih (i + 5) y5 (cells + 2) (slots + 58) (by omega) (by omega) (by omega) (by omega) (by rw [ey5, hx5, show (5 : Int32) = nI 5 from rfl, nI_add]) H1 locs1 d1 u1 ls2 hd1 I1 hR1 (lv_sub hl2 [1, 2, 3, 4, 5, 0] rfl)
    have hRr : 12 ≤ room_1.frames ∧ 430 ≤ room_1.locals := by decide
    have hcs : cells + 2 ≤ room_1.cells ∧ slots + 58 ≤ room_1.slots := ⟨show cells + 2 ≤ room_1.cells by omega, show slots + 58 ≤ room_1.slots by omega⟩
    have in0 : vp_in x5 L := by
      rw [hx5]
      exact vp_in_nI (by omega) (by omega)
    refine lv_aload_n hx hb dL_law_37 rfl (lv_at hl 0 rfl) ?_
    refine lv_iload hx hb dL_law_38 (lv_at hl 5 rfl) ?_
    refine l_sld hx hb hX hbl hbA I in0 dL_law_40 ?_
    refine lv_bipush (v := 31) hx hb dL_law_41 (by decide) ?_
    refine lv_iand hx hb dL_law_43 ?_
    refine lv_topi (fun z ez => ?_)
    clear ez
    by_cases c0 : z = (0 : Int32)
    · refine lv_tableIn (off := 128) (tgt := 172) hx hb dL_law_44 (by rw [c0]; decide) (by rw [c0]; decide) (by rw [c0]; rfl) (by decide) ?_
      exact lc_begin C hRr hcs hd0 I hR hi hL hx5 hl K
    by_cases c1 : z = (1 : Int32)
    · refine lv_tableIn (off := 196) (tgt := 240) hx hb dL_law_44 (by rw [c1]; decide) (by rw [c1]; decide) (by rw [c1]; rfl) (by decide) ?_
      exact lc_setWeight C hRr hcs hd0 I hR hi hL hx5 hl K
    by_cases c2 : z = (2 : Int32)
    · refine lv_tableIn (off := 264) (tgt := 308) hx hb dL_law_44 (by rw [c2]; decide) (by rw [c2]; decide) (by rw [c2]; rfl) (by decide) ?_
      exact lc_plan C hRr hcs hd0 I hR hi hL hx5 hl K
    by_cases c3 : z = (3 : Int32)
    · refine lv_tableIn (off := 344) (tgt := 388) hx hb dL_law_44 (by rw [c3]; decide) (by rw [c3]; decide) (by rw [c3]; rfl) (by decide) ?_
      exact lc_trial C hRr hcs hd0 I hR hi hL hx5 hl K
    by_cases c4 : z = (4 : Int32)
    · refine lv_tableIn (off := 428) (tgt := 472) hx hb dL_law_44 (by rw [c4]; decide) (by rw [c4]; decide) (by rw [c4]; rfl) (by decide) ?_
      exact lc_answer C hRr hcs hd0 I hR hi hL hx5 hl K
    by_cases c5 : z = (5 : Int32)
    · refine lv_tableIn (off := 484) (tgt := 528) hx hb dL_law_44 (by rw [c5]; decide) (by rw [c5]; decide) (by rw [c5]; rfl) (by decide) ?_
      exact lc_compare C hRr hcs hd0 I hR hi hL hx5 hl K
    by_cases c6 : z = (6 : Int32)
    · refine lv_tableIn (off := 576) (tgt := 620) hx hb dL_law_44 (by rw [c6]; decide) (by rw [c6]; decide) (by rw [c6]; rfl) (by decide) ?_
      exact lc_remove C hRr hcs hd0 I hR hi hL hx5 hl K
    by_cases c7 : z = (7 : Int32)
    · refine lv_tableIn (off := 632) (tgt := 676) hx hb dL_law_44 (by rw [c7]; decide) (by rw [c7]; decide) (by rw [c7]; rfl) (by decide) ?_
      exact lc_undo C hRr hcs hd0 I hR hi hL hx5 hl K
    by_cases c8 : z = (8 : Int32)
    · refine lv_tableIn (off := 676) (tgt := 720) hx hb dL_law_44 (by rw [c8]; decide) (by rw [c8]; decide) (by rw [c8]; rfl) (by decide) ?_
      exact lc_append C hRr hcs hd0 I hR hi hL hx5 hl K
    by_cases c9 : z = (9 : Int32)
    · refine lv_tableIn (off := 732) (tgt := 776) hx hb dL_law_44 (by rw [c9]; decide) (by rw [c9]; decide) (by rw [c9]; rfl) (by decide) ?_
      exact lc_clearBuffer C hRr hcs hd0 I hR hi hL hx5 hl K
    by_cases c10 : z = (10 : Int32)
    · refine lv_tableIn (off := 745) (tgt := 789) hx hb dL_law_44 (by rw [c10]; decide) (by rw [c10]; decide) (by rw [c10]; rfl) (by decide) ?_
      exact lc_firstError C hRr hcs hd0 I hR hi hL hx5 hl K
    by_cases c11 : z = (11 : Int32)
    · refine lv_tableIn (off := 758) (tgt := 802) hx hb dL_law_44 (by rw [c11]; decide) (by rw [c11]; decide) (by rw [c11]; rfl) (by decide) ?_
      exact lc_load C hRr hcs hd0 I hR hi hL hx5 hl K
    by_cases c12 : z = (12 : Int32)
    · refine lv_tableIn (off := 802) (tgt := 846) hx hb dL_law_44 (by rw [c12]; decide) (by rw [c12]; decide) (by rw [c12]; rfl) (by decide) ?_
      exact lc_count C hRr hcs hd0 I hR hi hL hx5 hl K
    by_cases c13 : z = (13 : Int32)
    · refine lv_tableIn (off := 858) (tgt := 902) hx hb dL_law_44 (by rw [c13]; decide) (by rw [c13]; decide) (by rw [c13]; rfl) (by decide) ?_
      exact lc_comparison C hRr hcs hd0 I hR hi hL hx5 hl K
    by_cases c14 : z = (14 : Int32)
    · refine lv_tableIn (off := 926) (tgt := 970) hx hb dL_law_44 (by rw [c14]; decide) (by rw [c14]; decide) (by rw [c14]; rfl) (by decide) ?_
      exact lc_result C hRr hcs hd0 I hR hi hL hx5 hl K
    by_cases c15 : z = (15 : Int32)
    · refine lv_tableIn (off := 1006) (tgt := 1050) hx hb dL_law_44 (by rw [c15]; decide) (by rw [c15]; decide) (by rw [c15]; rfl) (by decide) ?_
      exact lc_sample C hRr hcs hd0 I hR hi hL hx5 hl K
    by_cases c16 : z = (16 : Int32)
    · refine lv_tableIn (off := 1074) (tgt := 1118) hx hb dL_law_44 (by rw [c16]; decide) (by rw [c16]; decide) (by rw [c16]; rfl) (by decide) ?_
      exact lc_order C hRr hcs hd0 I hR hi hL hx5 hl K
    by_cases c17 : z = (17 : Int32)
    · refine lv_tableIn (off := 1130) (tgt := 1174) hx hb dL_law_44 (by rw [c17]; decide) (by rw [c17]; decide) (by rw [c17]; rfl) (by decide) ?_
      exact lc_summary C hRr hcs hd0 I hR hi hL hx5 hl K
    by_cases c18 : z = (18 : Int32)
    · refine lv_tableIn (off := 1186) (tgt := 1230) hx hb dL_law_44 (by rw [c18]; decide) (by rw [c18]; decide) (by rw [c18]; rfl) (by decide) ?_
      exact lc_without C hRr hcs hd0 I hR hi hL hx5 hl K
    by_cases c19 : z = (19 : Int32)
    · refine lv_tableIn (off := 1266) (tgt := 1310) hx hb dL_law_44 (by rw [c19]; decide) (by rw [c19]; decide) (by rw [c19]; rfl) (by decide) ?_
      exact lc_rings C hRr hcs hd0 I hR hi hL hx5 hl K
    by_cases c20 : z = (20 : Int32)
    · refine lv_tableIn (off := 1322) (tgt := 1366) hx hb dL_law_44 (by rw [c20]; decide) (by rw [c20]; decide) (by rw [c20]; rfl) (by decide) ?_
      exact lc_consistency C hRr hcs hd0 I hR hi hL hx5 hl K
    by_cases c21 : z = (21 : Int32)
    · refine lv_tableIn (off := 1399) (tgt := 1443) hx hb dL_law_44 (by rw [c21]; decide) (by rw [c21]; decide) (by rw [c21]; rfl) (by decide) ?_
      exact lc_agreement C hRr hcs hd0 I hR hi hL hx5 hl K
    by_cases c22 : z = (22 : Int32)
    · refine lv_tableIn (off := 1488) (tgt := 1532) hx hb dL_law_44 (by rw [c22]; decide) (by rw [c22]; decide) (by rw [c22]; rfl) (by decide) ?_
      exact lc_chance C hRr hcs hd0 I hR hi hL hx5 hl K
    by_cases c23 : z = (23 : Int32)
    · refine lv_tableIn (off := 1555) (tgt := 1599) hx hb dL_law_44 (by rw [c23]; decide) (by rw [c23]; decide) (by rw [c23]; rfl) (by decide) ?_
      exact lc_placeChance C hRr hcs hd0 I hR hi hL hx5 hl K
    by_cases c24 : z = (24 : Int32)
    · refine lv_tableIn (off := 1569) (tgt := 1613) hx hb dL_law_44 (by rw [c24]; decide) (by rw [c24]; decide) (by rw [c24]; rfl) (by decide) ?_
      exact lc_proved C hRr hcs hd0 I hR hi hL hx5 hl K
    by_cases c25 : z = (25 : Int32)
    · refine lv_tableIn (off := 1637) (tgt := 1681) hx hb dL_law_44 (by rw [c25]; decide) (by rw [c25]; decide) (by rw [c25]; rfl) (by decide) ?_
      exact lc_strength C hRr hcs hd0 I hR hi hL hx5 hl K
    by_cases c26 : z = (26 : Int32)
    · refine lv_tableIn (off := 1726) (tgt := 1770) hx hb dL_law_44 (by rw [c26]; decide) (by rw [c26]; decide) (by rw [c26]; rfl) (by decide) ?_
      exact lc_misfit C hRr hcs hd0 I hR hi hL hx5 hl K
    by_cases c27 : z = (27 : Int32)
    · refine lv_tableIn (off := 1803) (tgt := 1847) hx hb dL_law_44 (by rw [c27]; decide) (by rw [c27]; decide) (by rw [c27]; rfl) (by decide) ?_
      exact lc_digest C hRr hcs hd0 I hR hi hL hx5 hl K
    refine lv_tableOut (tgt := 1861) hx hb dL_law_44 (tsw27 c0 c1 c2 c3 c4 c5 c6 c7 c8 c9 c10 c11 c12 c13 c14 c15 c16 c17 c18 c19 c20 c21 c22 c23 c24 c25 c26 c27) (by decide) ?_
    exact W.widen (Nat.le_add_right _ _) (Nat.le_add_right _ _) (K H locs d0 u ls hd0 I hR hl)
end LawL
