/-! THE LAW: cases -/
section LawC
variable {D : va_G} {l : Launch} {cI cJ cD cS : ClassId} {ac am : Nat → Nat} {aO aD b L : Nat} {xs : Nat → Int32}
variable {p : Program} {e : Env} {R : Room} {s : State} {m : MethodId} {args : Array Value} {below : List Frame} {meth : Method} {c : Code} {H : Heap} {locs : List Loc} {cells slots : Nat} {Q : State → Prop}
variable {A : Nat → Prop} {ls : Array Slot} {d0 : Drawn} {u : CSt × MSt × (Nat → Int64) × (Nat → UInt64)}
set_option maxRecDepth 100000 in
set_option maxHeartbeats 4000000 in
theorem lc_consistency {x5 : Int32} {i : Nat} (C : lCx p l m c s args A b L xs) (hRr : 12 ≤ R.frames ∧ 430 ≤ R.locals) (hcs : cells + 2 ≤ R.cells ∧ slots + 58 ≤ R.slots) (hd0 : s.drawn.sameBut d0 lw_cs) (I : sInv D (cT cI cJ cD cS) (lW ac am aO aD cI cJ cD cS) A s H locs u) (hr : lR u) (hi : i + 5 ≤ L) (hL : L ≤ 2560) (hx5 : x5 = nI i) (hl : lv_has ls 9 [(0, .ref b), (1, .ref (ac 0)), (2, .ref (am 0)), (3, .ref aO), (4, .ref aD), (5, .int x5)]) (K : lK p l e R s m args below meth c D A cells slots Q ac am aO aD cI cJ cD cS b x5) : W p l e R (s.setDrawn d0) m args below meth c H locs cells slots Q (F0 m 1366 ls []) := by
  obtain ⟨F, hX, hbl, hbA, hY, hl0⟩ := C
  obtain ⟨hx, hb, hml, hown, hG⟩ := id F
  obtain ⟨⟨G, E, Dd, P, Z⟩, ⟨h, Em, Dm⟩, o, od⟩ := u
  obtain ⟨hRR, hPZ⟩ := hr
  replace hRR : RR G P h := hRR
  replace hPZ : PZ P Z := hPZ
  have in1 : vp_in (x5 + (1 : Int32)) L := l_in (j := 1) hx5 (by omega) hL
  obtain ⟨a0, ea0⟩ : ∃ z : Int32, z = xs (x5 + (1 : Int32)).toNatClampNeg := ⟨_, rfl⟩
  refine lv_aload_n hx hb dL_law_1366 rfl (lv_at hl 1 rfl) ?_
  refine lv_aload_n hx hb dL_law_1367 rfl (lv_at hl 0 rfl) ?_
  refine lv_iload hx hb dL_law_1368 (lv_at hl 5 rfl) ?_
  refine lv_iconst (v := 1) hx hb dL_law_1370 (by decide) ?_
  refine lv_iadd hx hb dL_law_1371 ?_
  refine l_sld hx hb hX hbl hbA I in1 dL_law_1372 ?_
  rw [← ea0]
  refine lv_aload hx hb dL_law_1373 (lv_at hl 4 rfl) ?_
  have I0 : sInv D (cT cI cJ cD cS) (fW ((aO, .inl (cJ, 1, .inr (.inl o))) :: mW am cI cJ cD (h, Em, Dm)) (wD ac aD cI cJ cD cS)) A s H locs ((G, E, Dd, P, Z), od) := sI_perm I lp_D
  refine f_callSW (As := [.ref (ac 0), .int a0, .ref aD]) F hd0 I0 I.1 hY (wL_consistency aD G E Dd P Z od hPZ hl0 a0 _ (q_consistency E Em Dd Dm od hRR hPZ a0 _ rfl)) kL_173 ⟨rfl, rfl⟩ ⟨Nat.le_trans (by decide) hRr.1, Nat.le_trans (by decide) hRr.2⟩ rfl rfl hl.1 (Nat.le_of_ble_eq_true rfl) hcs dL_law_1375 (fun H1 lo1 d1 k u hd1 I1 hΨ => ?_)
  obtain ⟨⟨G2, E2, Dd2, P2, Z2⟩, o2⟩ := u
  obtain ⟨r, h2, hm, h0, hk, hRR2, hPZ2⟩ := hΨ
  replace I1 : sInv D (cT cI cJ cD cS) (lW ac am aO aD cI cJ cD cS) A s H1 lo1 ((G2, E2, Dd2, P2, Z2), (h, Em, Dm), o, o2) := sI_perm I1 lp_D.symm
  refine lv_istore (lv' := [(6, .int k), (0, .ref b), (1, .ref (ac 0)), (2, .ref (am 0)), (3, .ref aO), (4, .ref aD), (5, .int x5)]) hx hb dL_law_1378 hl (by decide) rfl (fun ls1 hl1 => ?_)
  refine lv_aload_n hx hb dL_law_1380 rfl (lv_at hl1 3 rfl) ?_
  refine lv_aload_n hx hb dL_law_1381 rfl (lv_at hl1 1 rfl) ?_
  refine lv_iload hx hb dL_law_1382 (lv_at hl1 6 rfl) ?_
  refine lv_iconst (v := 1) hx hb dL_law_1384 (by decide) ?_
  refine lv_iadd hx hb dL_law_1385 ?_
  refine l_sld hx hb hX hbl hbA I1 in1 dL_law_1386 ?_
  rw [← ea0]
  replace I1 : sInv D (cT cI cJ cD cS) (fW ((aO, .inl (cJ, 1, .inr (.inl o))) :: (aD, .inl (cD, 1, .inr (.inr (.inr (.inl o2))))) :: cW ac cI cJ cD cS (G2, E2, Dd2, P2, Z2)) (mW am cI cJ cD)) A s H1 lo1 (h, Em, Dm) := sI_perm I1 lp_M
  refine f_callVD (As := [.int a0]) (Sm := mSm) F hd1 I1 ⟨rfl, rfl, alikeM_rf _⟩ (I1.1.sub [0, 1, 2] rfl) (cM_consistency h Em Dm a0 r h2 hm) kL_176 ⟨rfl, rfl⟩ ⟨Nat.le_trans (by decide) hRr.1, Nat.le_trans (by decide) hRr.2⟩ 0 12 rfl rfl rfl rfl rfl hl1.1 (Nat.le_of_ble_eq_true rfl) hcs dL_law_1387 (fun H3 lo3 d3 τ rr hd3 I3 hu hrr => ?_)
  obtain ⟨hh, Eh, Dh⟩ := τ
  obtain ⟨rfl, rfl, -⟩ := (show mSm (hh, Eh, Dh) (h2, Em, Dm) from hu)
  replace I3 : sInv D (cT cI cJ cD cS) (fW ((aO, .inl (cJ, 1, .inr (.inl o))) :: (aD, .inl (cD, 1, .inr (.inr (.inr (.inl o2))))) :: cW ac cI cJ cD cS (G2, E2, Dd2, P2, Z2)) (mW am cI cJ cD)) A s H3 lo3 (h2, Em, Dh) := I3
  refine lv_dstore (lv' := [(7, .double rr), (6, .int k), (0, .ref b), (1, .ref (ac 0)), (2, .ref (am 0)), (3, .ref aO), (4, .ref aD), (5, .int x5)]) hx hb dL_law_1390 hl1 (by decide) rfl (fun ls2 hl2 => ?_)
  refine lv_aload_n hx hb dL_law_1392 rfl (lv_at hl2 4 rfl) ?_
  refine f_callVi (As := []) F I3 (I3.1.sub [0, 1, 2] rfl) (cM_thrown h2 Em Dh k h0.symm) kL_106 ⟨rfl, rfl⟩ ⟨Nat.le_trans (by decide) hRr.1, Nat.le_trans (by decide) hRr.2⟩ 0 12 rfl rfl rfl rfl rfl hl2.1 (Nat.le_of_ble_eq_true rfl) hcs dL_law_1393 (fun H4 lo4 I4 => ?_)
  replace I4 : sInv D (cT cI cJ cD cS) (lW ac am aO aD cI cJ cD cS) A s H4 lo4 ((G2, E2, Dd2, P2, Z2), (h2, Em, Dh), o, o2) := sI_perm I4 lp_M.symm
  refine lv_iload hx hb dL_law_1396 (lv_at hl2 1 rfl) ?_
  refine lv_icmp_eq (tgt := 1403) hx hb dL_law_1398 (by decide) (fun _ => ?_) (fun hne => absurd rfl hne)
  refine lv_iload hx hb dL_law_1403 (lv_at hl2 1 rfl) ?_
  have hEnd : W p l e R (s.setDrawn d3) m args below meth c H4 lo4 (cells + 2) (slots + 58) Q (F0 m 1440 ls2 []) := by
    refine lv_goto (tgt := 1861) hx hb dL_law_1440 (by decide) ?_
    exact K H4 lo4 d3 _ ls2 hd3 I4 ⟨hRR2, hPZ2⟩ (lv_sub hl2 [2, 3, 4, 5, 6, 7] rfl)
  refine lv_if_ne (tgt := 1440) hx hb dL_law_1405 (by decide) (fun _ => hEnd) (fun hk0 => ?_)
  have hv := hk hk0
  refine lv_aload hx hb dL_law_1408 (lv_at hl2 6 rfl) ?_
  refine lv_iconst (v := 0) hx hb dL_law_1410 (by decide) ?_
  refine va_dald hx hb (Idr I4).1 I4.2.1 1 2 rfl rfl in01 dL_law_1411 ?_
  refine lv_dload hx hb dL_law_1412 (lv_at hl2 0 rfl) ?_
  refine lv_dcmp hx hb dL_law_1414 ?_
  rw [show FP.dcmp (o2 (0 : Int32).toNatClampNeg) rr = FP.dcmp r r from al_dcmp hv hrr]
  refine lv_if_eq (tgt := 1440) hx hb dL_law_1415 (by decide) (fun _ => hEnd) (fun hne => ?_)
  refine lv_aload hx hb dL_law_1418 (lv_at hl2 6 rfl) ?_
  refine lv_iconst (v := 0) hx hb dL_law_1420 (by decide) ?_
  refine va_dald hx hb (Idr I4).1 I4.2.1 1 2 rfl rfl in01 dL_law_1421 ?_
  refine lv_aload hx hb dL_law_1422 (lv_at hl2 6 rfl) ?_
  refine lv_iconst (v := 0) hx hb dL_law_1424 (by decide) ?_
  refine va_dald hx hb (Idr I4).1 I4.2.1 1 2 rfl rfl in01 dL_law_1425 ?_
  refine lv_dcmp hx hb dL_law_1426 ?_
  rw [show FP.dcmp (o2 (0 : Int32).toNatClampNeg) (o2 (0 : Int32).toNatClampNeg) = FP.dcmp r r from al_dcmp hv hv]
  refine lv_if_eq (tgt := 1438) hx hb dL_law_1427 (by decide) (fun h9 => absurd h9 hne) (fun _ => ?_)
  refine lv_dload hx hb dL_law_1430 (lv_at hl2 0 rfl) ?_
  refine lv_dload hx hb dL_law_1432 (lv_at hl2 0 rfl) ?_
  refine lv_dcmp hx hb dL_law_1434 ?_
  rw [show FP.dcmp rr rr = FP.dcmp r r from al_dcmp hrr hrr]
  refine lv_if_ne (tgt := 1440) hx hb dL_law_1435 (by decide) (fun _ => hEnd) (fun h9 => absurd h9 hne)
set_option maxRecDepth 100000 in
set_option maxHeartbeats 4000000 in
theorem lc_agreement {x5 : Int32} {i : Nat} (C : lCx p l m c s args A b L xs) (hRr : 12 ≤ R.frames ∧ 430 ≤ R.locals) (hcs : cells + 2 ≤ R.cells ∧ slots + 58 ≤ R.slots) (hd0 : s.drawn.sameBut d0 lw_cs) (I : sInv D (cT cI cJ cD cS) (lW ac am aO aD cI cJ cD cS) A s H locs u) (hr : lR u) (hi : i + 5 ≤ L) (hL : L ≤ 2560) (hx5 : x5 = nI i) (hl : lv_has ls 9 [(0, .ref b), (1, .ref (ac 0)), (2, .ref (am 0)), (3, .ref aO), (4, .ref aD), (5, .int x5)]) (K : lK p l e R s m args below meth c D A cells slots Q ac am aO aD cI cJ cD cS b x5) : W p l e R (s.setDrawn d0) m args below meth c H locs cells slots Q (F0 m 1443 ls []) := by
  obtain ⟨F, hX, hbl, hbA, hY, hl0⟩ := C
  obtain ⟨hx, hb, hml, hown, hG⟩ := id F
  obtain ⟨⟨G, E, Dd, P, Z⟩, ⟨h, Em, Dm⟩, o, od⟩ := u
  obtain ⟨hRR, hPZ⟩ := hr
  replace hRR : RR G P h := hRR
  replace hPZ : PZ P Z := hPZ
  have in1 : vp_in (x5 + (1 : Int32)) L := l_in (j := 1) hx5 (by omega) hL
  obtain ⟨a0, ea0⟩ : ∃ z : Int32, z = xs (x5 + (1 : Int32)).toNatClampNeg := ⟨_, rfl⟩
  have in2 : vp_in (x5 + (2 : Int32)) L := l_in (j := 2) hx5 (by omega) hL
  obtain ⟨a1, ea1⟩ : ∃ z : Int32, z = xs (x5 + (2 : Int32)).toNatClampNeg := ⟨_, rfl⟩
  refine lv_aload_n hx hb dL_law_1443 rfl (lv_at hl 1 rfl) ?_
  refine lv_aload_n hx hb dL_law_1444 rfl (lv_at hl 0 rfl) ?_
  refine lv_iload hx hb dL_law_1445 (lv_at hl 5 rfl) ?_
  refine lv_iconst (v := 1) hx hb dL_law_1447 (by decide) ?_
  refine lv_iadd hx hb dL_law_1448 ?_
  refine l_sld hx hb hX hbl hbA I in1 dL_law_1449 ?_
  rw [← ea0]
  refine lv_aload_n hx hb dL_law_1450 rfl (lv_at hl 0 rfl) ?_
  refine lv_iload hx hb dL_law_1451 (lv_at hl 5 rfl) ?_
  refine lv_iconst (v := 2) hx hb dL_law_1453 (by decide) ?_
  refine lv_iadd hx hb dL_law_1454 ?_
  refine l_sld hx hb hX hbl hbA I in2 dL_law_1455 ?_
  rw [← ea1]
  refine lv_aload hx hb dL_law_1456 (lv_at hl 4 rfl) ?_
  have I0 : sInv D (cT cI cJ cD cS) (fW ((aO, .inl (cJ, 1, .inr (.inl o))) :: mW am cI cJ cD (h, Em, Dm)) (wD ac aD cI cJ cD cS)) A s H locs ((G, E, Dd, P, Z), od) := sI_perm I lp_D
  refine f_callSW (As := [.ref (ac 0), .int a0, .int a1, .ref aD]) F hd0 I0 I.1 hY (wL_agreement aD G E Dd P Z od hPZ hl0 a0 a1 _ (q_agreement E Em Dd Dm od hRR hPZ a0 a1 _ rfl)) kL_177 ⟨rfl, rfl⟩ ⟨Nat.le_trans (by decide) hRr.1, Nat.le_trans (by decide) hRr.2⟩ rfl rfl hl.1 (Nat.le_of_ble_eq_true rfl) hcs dL_law_1458 (fun H1 lo1 d1 k u hd1 I1 hΨ => ?_)
  obtain ⟨⟨G2, E2, Dd2, P2, Z2⟩, o2⟩ := u
  obtain ⟨r, h2, hm, h0, hk, hRR2, hPZ2⟩ := hΨ
  replace I1 : sInv D (cT cI cJ cD cS) (lW ac am aO aD cI cJ cD cS) A s H1 lo1 ((G2, E2, Dd2, P2, Z2), (h, Em, Dm), o, o2) := sI_perm I1 lp_D.symm
  refine lv_istore (lv' := [(6, .int k), (0, .ref b), (1, .ref (ac 0)), (2, .ref (am 0)), (3, .ref aO), (4, .ref aD), (5, .int x5)]) hx hb dL_law_1461 hl (by decide) rfl (fun ls1 hl1 => ?_)
  refine lv_aload_n hx hb dL_law_1463 rfl (lv_at hl1 3 rfl) ?_
  refine lv_aload_n hx hb dL_law_1464 rfl (lv_at hl1 1 rfl) ?_
  refine lv_iload hx hb dL_law_1465 (lv_at hl1 6 rfl) ?_
  refine lv_iconst (v := 1) hx hb dL_law_1467 (by decide) ?_
  refine lv_iadd hx hb dL_law_1468 ?_
  refine l_sld hx hb hX hbl hbA I1 in1 dL_law_1469 ?_
  rw [← ea0]
  refine lv_aload_n hx hb dL_law_1470 rfl (lv_at hl1 1 rfl) ?_
  refine lv_iload hx hb dL_law_1471 (lv_at hl1 6 rfl) ?_
  refine lv_iconst (v := 2) hx hb dL_law_1473 (by decide) ?_
  refine lv_iadd hx hb dL_law_1474 ?_
  refine l_sld hx hb hX hbl hbA I1 in2 dL_law_1475 ?_
  rw [← ea1]
  replace I1 : sInv D (cT cI cJ cD cS) (fW ((aO, .inl (cJ, 1, .inr (.inl o))) :: (aD, .inl (cD, 1, .inr (.inr (.inr (.inl o2))))) :: cW ac cI cJ cD cS (G2, E2, Dd2, P2, Z2)) (mW am cI cJ cD)) A s H1 lo1 (h, Em, Dm) := sI_perm I1 lp_M
  refine f_callVD (As := [.int a0, .int a1]) (Sm := mSm) F hd1 I1 ⟨rfl, rfl, alikeM_rf _⟩ (I1.1.sub [0, 1, 2] rfl) (cM_agreement h Em Dm a0 a1 r h2 hm) kL_180 ⟨rfl, rfl⟩ ⟨Nat.le_trans (by decide) hRr.1, Nat.le_trans (by decide) hRr.2⟩ 0 12 rfl rfl rfl rfl rfl hl1.1 (Nat.le_of_ble_eq_true rfl) hcs dL_law_1476 (fun H3 lo3 d3 τ rr hd3 I3 hu hrr => ?_)
  obtain ⟨hh, Eh, Dh⟩ := τ
  obtain ⟨rfl, rfl, -⟩ := (show mSm (hh, Eh, Dh) (h2, Em, Dm) from hu)
  replace I3 : sInv D (cT cI cJ cD cS) (fW ((aO, .inl (cJ, 1, .inr (.inl o))) :: (aD, .inl (cD, 1, .inr (.inr (.inr (.inl o2))))) :: cW ac cI cJ cD cS (G2, E2, Dd2, P2, Z2)) (mW am cI cJ cD)) A s H3 lo3 (h2, Em, Dh) := I3
  refine lv_dstore (lv' := [(7, .double rr), (6, .int k), (0, .ref b), (1, .ref (ac 0)), (2, .ref (am 0)), (3, .ref aO), (4, .ref aD), (5, .int x5)]) hx hb dL_law_1479 hl1 (by decide) rfl (fun ls2 hl2 => ?_)
  refine lv_aload_n hx hb dL_law_1481 rfl (lv_at hl2 4 rfl) ?_
  refine f_callVi (As := []) F I3 (I3.1.sub [0, 1, 2] rfl) (cM_thrown h2 Em Dh k h0.symm) kL_106 ⟨rfl, rfl⟩ ⟨Nat.le_trans (by decide) hRr.1, Nat.le_trans (by decide) hRr.2⟩ 0 12 rfl rfl rfl rfl rfl hl2.1 (Nat.le_of_ble_eq_true rfl) hcs dL_law_1482 (fun H4 lo4 I4 => ?_)
  replace I4 : sInv D (cT cI cJ cD cS) (lW ac am aO aD cI cJ cD cS) A s H4 lo4 ((G2, E2, Dd2, P2, Z2), (h2, Em, Dh), o, o2) := sI_perm I4 lp_M.symm
  refine lv_iload hx hb dL_law_1485 (lv_at hl2 1 rfl) ?_
  refine lv_icmp_eq (tgt := 1492) hx hb dL_law_1487 (by decide) (fun _ => ?_) (fun hne => absurd rfl hne)
  refine lv_iload hx hb dL_law_1492 (lv_at hl2 1 rfl) ?_
  have hEnd : W p l e R (s.setDrawn d3) m args below meth c H4 lo4 (cells + 2) (slots + 58) Q (F0 m 1529 ls2 []) := by
    refine lv_goto (tgt := 1861) hx hb dL_law_1529 (by decide) ?_
    exact K H4 lo4 d3 _ ls2 hd3 I4 ⟨hRR2, hPZ2⟩ (lv_sub hl2 [2, 3, 4, 5, 6, 7] rfl)
  refine lv_if_ne (tgt := 1529) hx hb dL_law_1494 (by decide) (fun _ => hEnd) (fun hk0 => ?_)
  have hv := hk hk0
  refine lv_aload hx hb dL_law_1497 (lv_at hl2 6 rfl) ?_
  refine lv_iconst (v := 0) hx hb dL_law_1499 (by decide) ?_
  refine va_dald hx hb (Idr I4).1 I4.2.1 1 2 rfl rfl in01 dL_law_1500 ?_
  refine lv_dload hx hb dL_law_1501 (lv_at hl2 0 rfl) ?_
  refine lv_dcmp hx hb dL_law_1503 ?_
  rw [show FP.dcmp (o2 (0 : Int32).toNatClampNeg) rr = FP.dcmp r r from al_dcmp hv hrr]
  refine lv_if_eq (tgt := 1529) hx hb dL_law_1504 (by decide) (fun _ => hEnd) (fun hne => ?_)
  refine lv_aload hx hb dL_law_1507 (lv_at hl2 6 rfl) ?_
  refine lv_iconst (v := 0) hx hb dL_law_1509 (by decide) ?_
  refine va_dald hx hb (Idr I4).1 I4.2.1 1 2 rfl rfl in01 dL_law_1510 ?_
  refine lv_aload hx hb dL_law_1511 (lv_at hl2 6 rfl) ?_
  refine lv_iconst (v := 0) hx hb dL_law_1513 (by decide) ?_
  refine va_dald hx hb (Idr I4).1 I4.2.1 1 2 rfl rfl in01 dL_law_1514 ?_
  refine lv_dcmp hx hb dL_law_1515 ?_
  rw [show FP.dcmp (o2 (0 : Int32).toNatClampNeg) (o2 (0 : Int32).toNatClampNeg) = FP.dcmp r r from al_dcmp hv hv]
  refine lv_if_eq (tgt := 1527) hx hb dL_law_1516 (by decide) (fun h9 => absurd h9 hne) (fun _ => ?_)
  refine lv_dload hx hb dL_law_1519 (lv_at hl2 0 rfl) ?_
  refine lv_dload hx hb dL_law_1521 (lv_at hl2 0 rfl) ?_
  refine lv_dcmp hx hb dL_law_1523 ?_
  rw [show FP.dcmp rr rr = FP.dcmp r r from al_dcmp hrr hrr]
  refine lv_if_ne (tgt := 1529) hx hb dL_law_1524 (by decide) (fun _ => hEnd) (fun h9 => absurd h9 hne)
set_option maxRecDepth 100000 in
set_option maxHeartbeats 4000000 in
theorem lc_chance {x5 : Int32} {i : Nat} (C : lCx p l m c s args A b L xs) (hRr : 12 ≤ R.frames ∧ 430 ≤ R.locals) (hcs : cells + 2 ≤ R.cells ∧ slots + 58 ≤ R.slots) (hd0 : s.drawn.sameBut d0 lw_cs) (I : sInv D (cT cI cJ cD cS) (lW ac am aO aD cI cJ cD cS) A s H locs u) (hr : lR u) (hi : i + 5 ≤ L) (hL : L ≤ 2560) (hx5 : x5 = nI i) (hl : lv_has ls 9 [(0, .ref b), (1, .ref (ac 0)), (2, .ref (am 0)), (3, .ref aO), (4, .ref aD), (5, .int x5)]) (K : lK p l e R s m args below meth c D A cells slots Q ac am aO aD cI cJ cD cS b x5) : W p l e R (s.setDrawn d0) m args below meth c H locs cells slots Q (F0 m 1532 ls []) := by
  obtain ⟨F, hX, hbl, hbA, hY, hl0⟩ := C
  obtain ⟨hx, hb, hml, hown, hG⟩ := id F
  obtain ⟨⟨G, E, Dd, P, Z⟩, ⟨h, Em, Dm⟩, o, od⟩ := u
  obtain ⟨hRR, hPZ⟩ := hr
  replace hRR : RR G P h := hRR
  replace hPZ : PZ P Z := hPZ
  have in1 : vp_in (x5 + (1 : Int32)) L := l_in (j := 1) hx5 (by omega) hL
  obtain ⟨a0, ea0⟩ : ∃ z : Int32, z = xs (x5 + (1 : Int32)).toNatClampNeg := ⟨_, rfl⟩
  have in2 : vp_in (x5 + (2 : Int32)) L := l_in (j := 2) hx5 (by omega) hL
  obtain ⟨a1, ea1⟩ : ∃ z : Int32, z = xs (x5 + (2 : Int32)).toNatClampNeg := ⟨_, rfl⟩
  refine lv_aload_n hx hb dL_law_1532 rfl (lv_at hl 1 rfl) ?_
  refine lv_aload_n hx hb dL_law_1533 rfl (lv_at hl 0 rfl) ?_
  refine lv_iload hx hb dL_law_1534 (lv_at hl 5 rfl) ?_
  refine lv_iconst (v := 1) hx hb dL_law_1536 (by decide) ?_
  refine lv_iadd hx hb dL_law_1537 ?_
  refine l_sld hx hb hX hbl hbA I in1 dL_law_1538 ?_
  rw [← ea0]
  refine lv_aload_n hx hb dL_law_1539 rfl (lv_at hl 0 rfl) ?_
  refine lv_iload hx hb dL_law_1540 (lv_at hl 5 rfl) ?_
  refine lv_iconst (v := 2) hx hb dL_law_1542 (by decide) ?_
  refine lv_iadd hx hb dL_law_1543 ?_
  refine l_sld hx hb hX hbl hbA I in2 dL_law_1544 ?_
  rw [← ea1]
  refine lv_aload_n hx hb dL_law_1545 rfl (lv_at hl 3 rfl) ?_
  have I0 : sInv D (cT cI cJ cD cS) (fW ((aD, .inl (cD, 1, .inr (.inr (.inr (.inl od))))) :: mW am cI cJ cD (h, Em, Dm)) (wJ ac aO cI cJ cD cS)) A s H locs ((G, E, Dd, P, Z), o) := sI_perm I lp_J
  refine f_callSW (As := [.ref (ac 0), .int a0, .int a1, .ref aO]) F hd0 I0 I.1 hY (wL_chance aO G E Dd P Z o hPZ hl0 a0 a1 _ (q_chance E Em Dd Dm o hRR hPZ a0 a1 _ rfl)) kL_181 ⟨rfl, rfl⟩ ⟨Nat.le_trans (by decide) hRr.1, Nat.le_trans (by decide) hRr.2⟩ rfl rfl hl.1 (Nat.le_of_ble_eq_true rfl) hcs dL_law_1546 (fun H1 lo1 d1 k u hd1 I1 hΨ => ?_)
  obtain ⟨⟨G2, E2, Dd2, P2, Z2⟩, o2⟩ := u
  obtain ⟨r, h2, hm, h0, hk, hRR2, hPZ2⟩ := hΨ
  replace I1 : sInv D (cT cI cJ cD cS) (lW ac am aO aD cI cJ cD cS) A s H1 lo1 ((G2, E2, Dd2, P2, Z2), (h, Em, Dm), o2, od) := sI_perm I1 lp_J.symm
  refine lv_istore (lv' := [(6, .int k), (0, .ref b), (1, .ref (ac 0)), (2, .ref (am 0)), (3, .ref aO), (4, .ref aD), (5, .int x5)]) hx hb dL_law_1549 hl (by decide) rfl (fun ls1 hl1 => ?_)
  refine lv_aload_n hx hb dL_law_1551 rfl (lv_at hl1 3 rfl) ?_
  refine lv_aload_n hx hb dL_law_1552 rfl (lv_at hl1 1 rfl) ?_
  refine lv_iload hx hb dL_law_1553 (lv_at hl1 6 rfl) ?_
  refine lv_iconst (v := 1) hx hb dL_law_1555 (by decide) ?_
  refine lv_iadd hx hb dL_law_1556 ?_
  refine l_sld hx hb hX hbl hbA I1 in1 dL_law_1557 ?_
  rw [← ea0]
  refine lv_aload_n hx hb dL_law_1558 rfl (lv_at hl1 1 rfl) ?_
  refine lv_iload hx hb dL_law_1559 (lv_at hl1 6 rfl) ?_
  refine lv_iconst (v := 2) hx hb dL_law_1561 (by decide) ?_
  refine lv_iadd hx hb dL_law_1562 ?_
  refine l_sld hx hb hX hbl hbA I1 in2 dL_law_1563 ?_
  rw [← ea1]
  replace I1 : sInv D (cT cI cJ cD cS) (fW ((aO, .inl (cJ, 1, .inr (.inl o2))) :: (aD, .inl (cD, 1, .inr (.inr (.inr (.inl od))))) :: cW ac cI cJ cD cS (G2, E2, Dd2, P2, Z2)) (mW am cI cJ cD)) A s H1 lo1 (h, Em, Dm) := sI_perm I1 lp_M
  refine f_callVl (As := [.int a0, .int a1]) F I1 (I1.1.sub [0, 1, 2] rfl) (cM_chance h Em Dm a0 a1 r h2 hm) kL_183 ⟨rfl, rfl⟩ ⟨Nat.le_trans (by decide) hRr.1, Nat.le_trans (by decide) hRr.2⟩ 0 12 rfl rfl rfl rfl rfl hl1.1 (Nat.le_of_ble_eq_true rfl) hcs dL_law_1564 (fun H3 lo3 I3 => ?_)
  replace I3 : sInv D (cT cI cJ cD cS) (fW ((aO, .inl (cJ, 1, .inr (.inl o2))) :: (aD, .inl (cD, 1, .inr (.inr (.inr (.inl od))))) :: cW ac cI cJ cD cS (G2, E2, Dd2, P2, Z2)) (mW am cI cJ cD)) A s H3 lo3 (h2, Em, Dm) := I3
  refine lv_lstore (lv' := [(7, .long r), (6, .int k), (0, .ref b), (1, .ref (ac 0)), (2, .ref (am 0)), (3, .ref aO), (4, .ref aD), (5, .int x5)]) hx hb dL_law_1567 hl1 (by decide) rfl (fun ls2 hl2 => ?_)
  refine lv_aload_n hx hb dL_law_1569 rfl (lv_at hl2 4 rfl) ?_
  refine f_callVi (As := []) F I3 (I3.1.sub [0, 1, 2] rfl) (cM_thrown h2 Em Dm k h0.symm) kL_106 ⟨rfl, rfl⟩ ⟨Nat.le_trans (by decide) hRr.1, Nat.le_trans (by decide) hRr.2⟩ 0 12 rfl rfl rfl rfl rfl hl2.1 (Nat.le_of_ble_eq_true rfl) hcs dL_law_1570 (fun H4 lo4 I4 => ?_)
  replace I4 : sInv D (cT cI cJ cD cS) (lW ac am aO aD cI cJ cD cS) A s H4 lo4 ((G2, E2, Dd2, P2, Z2), (h2, Em, Dm), o2, od) := sI_perm I4 lp_M.symm
  refine lv_iload hx hb dL_law_1573 (lv_at hl2 1 rfl) ?_
  refine lv_icmp_eq (tgt := 1580) hx hb dL_law_1575 (by decide) (fun _ => ?_) (fun hne => absurd rfl hne)
  refine lv_iload hx hb dL_law_1580 (lv_at hl2 1 rfl) ?_
  have hEnd : W p l e R (s.setDrawn d1) m args below meth c H4 lo4 (cells + 2) (slots + 58) Q (F0 m 1596 ls2 []) := by
    refine lv_goto (tgt := 1861) hx hb dL_law_1596 (by decide) ?_
    exact K H4 lo4 d1 _ ls2 hd1 I4 ⟨hRR2, hPZ2⟩ (lv_sub hl2 [2, 3, 4, 5, 6, 7] rfl)
  refine lv_if_ne (tgt := 1596) hx hb dL_law_1582 (by decide) (fun _ => hEnd) (fun hk0 => ?_)
  have hv := hk hk0
  refine lv_aload_n hx hb dL_law_1585 rfl (lv_at hl2 5 rfl) ?_
  refine lv_iconst (v := 0) hx hb dL_law_1586 (by decide) ?_
  refine va_lald hx hb (Idr I4).1 I4.2.1 0 1 rfl rfl in01 dL_law_1587 ?_
  refine lv_lload hx hb dL_law_1588 (lv_at hl2 0 rfl) ?_
  refine W.lcmp hx hb dL_law_1590 ?_
  refine lv_if_eq (tgt := 1596) hx hb dL_law_1591 (by decide) (fun _ => hEnd) (fun hne => absurd (l_cmp hv) hne)
set_option maxRecDepth 100000 in
set_option maxHeartbeats 4000000 in
theorem lc_placeChance {x5 : Int32} {i : Nat} (C : lCx p l m c s args A b L xs) (hRr : 12 ≤ R.frames ∧ 430 ≤ R.locals) (hcs : cells + 2 ≤ R.cells ∧ slots + 58 ≤ R.slots) (hd0 : s.drawn.sameBut d0 lw_cs) (I : sInv D (cT cI cJ cD cS) (lW ac am aO aD cI cJ cD cS) A s H locs u) (hr : lR u) (hi : i + 5 ≤ L) (hL : L ≤ 2560) (hx5 : x5 = nI i) (hl : lv_has ls 9 [(0, .ref b), (1, .ref (ac 0)), (2, .ref (am 0)), (3, .ref aO), (4, .ref aD), (5, .int x5)]) (K : lK p l e R s m args below meth c D A cells slots Q ac am aO aD cI cJ cD cS b x5) : W p l e R (s.setDrawn d0) m args below meth c H locs cells slots Q (F0 m 1599 ls []) := by
  obtain ⟨F, hX, hbl, hbA, hY, hl0⟩ := C
  obtain ⟨hx, hb, hml, hown, hG⟩ := id F
  obtain ⟨⟨G, E, Dd, P, Z⟩, ⟨h, Em, Dm⟩, o, od⟩ := u
  obtain ⟨hRR, hPZ⟩ := hr
  replace hRR : RR G P h := hRR
  replace hPZ : PZ P Z := hPZ
  obtain ⟨r, G2, P2, h2, ⟨cf, hG9, hP9⟩, mf, h0, hR2, hP2⟩ := p_placeChance hRR
  rw [hP9] at hR2 hP2
  rw [hG9] at hR2
  have I0 : sInv D (cT cI cJ cD cS) (fW ((aO, .inl (cJ, 1, .inr (.inl o))) :: (aD, .inl (cD, 1, .inr (.inr (.inr (.inl od))))) :: mW am cI cJ cD (h, Em, Dm)) (cW ac cI cJ cD cS)) A s H locs (G, E, Dd, P, Z) := sI_perm I (List.Perm.refl _)
  refine lv_aload_n hx hb dL_law_1599 rfl (lv_at hl 1 rfl) ?_
  refine f_callVl (As := []) F I0 I.1 (cC_LT_placeChance G E Dd P Z r cf) kL_184 ⟨rfl, rfl⟩ ⟨Nat.le_trans (by decide) hRr.1, Nat.le_trans (by decide) hRr.2⟩ 0 11 rfl rfl rfl rfl rfl hl.1 (Nat.le_of_ble_eq_true rfl) ⟨Nat.le_trans (Nat.le_add_right _ _) hcs.1, Nat.le_trans (Nat.le_add_right _ _) hcs.2⟩ dL_law_1600 (fun H1 lo1 I1 => ?_)
  replace I1 : sInv D (cT cI cJ cD cS) (lW ac am aO aD cI cJ cD cS) A s H1 lo1 ((G, E, Dd, P, Z), (h, Em, Dm), o, od) := sI_perm I1 (List.Perm.refl _)
  replace I1 : sInv D (cT cI cJ cD cS) (fW ((aO, .inl (cJ, 1, .inr (.inl o))) :: (aD, .inl (cD, 1, .inr (.inr (.inr (.inl od))))) :: cW ac cI cJ cD cS (G, E, Dd, P, Z)) (mW am cI cJ cD)) A s H1 lo1 (h, Em, Dm) := sI_perm I1 lp_M
  refine lv_aload_n hx hb dL_law_1603 rfl (lv_at hl 2 rfl) ?_
  refine f_callVl (As := []) F I1 (I1.1.sub [0, 1, 2] rfl) (cM_placeChance h Em Dm r h2 mf) kL_188 ⟨rfl, rfl⟩ ⟨Nat.le_trans (by decide) hRr.1, Nat.le_trans (by decide) hRr.2⟩ 0 12 rfl rfl rfl rfl rfl hl.1 (Nat.le_of_ble_eq_true rfl) ⟨Nat.le_trans (Nat.le_add_right _ _) hcs.1, Nat.le_trans (Nat.le_add_right _ _) hcs.2⟩ dL_law_1604 (fun H3 lo3 I3 => ?_)
  replace I3 : sInv D (cT cI cJ cD cS) (lW ac am aO aD cI cJ cD cS) A s H3 lo3 ((G, E, Dd, P, Z), (h2, Em, Dm), o, od) := sI_perm I3 lp_M.symm
  refine W.lcmp hx hb dL_law_1607 ?_
  exact lv_if_eq (tgt := 1861) hx hb dL_law_1608 (by decide) (fun _ => W.widen (Nat.le_add_right _ _) (Nat.le_add_right _ _) (K H3 lo3 d0 _ ls hd0 I3 ⟨hR2, hP2 Z hPZ⟩ hl)) (fun hne => absurd (l_cmp rfl) hne)
set_option maxRecDepth 100000 in
set_option maxHeartbeats 4000000 in
theorem lc_proved {x5 : Int32} {i : Nat} (C : lCx p l m c s args A b L xs) (hRr : 12 ≤ R.frames ∧ 430 ≤ R.locals) (hcs : cells + 2 ≤ R.cells ∧ slots + 58 ≤ R.slots) (hd0 : s.drawn.sameBut d0 lw_cs) (I : sInv D (cT cI cJ cD cS) (lW ac am aO aD cI cJ cD cS) A s H locs u) (hr : lR u) (hi : i + 5 ≤ L) (hL : L ≤ 2560) (hx5 : x5 = nI i) (hl : lv_has ls 9 [(0, .ref b), (1, .ref (ac 0)), (2, .ref (am 0)), (3, .ref aO), (4, .ref aD), (5, .int x5)]) (K : lK p l e R s m args below meth c D A cells slots Q ac am aO aD cI cJ cD cS b x5) : W p l e R (s.setDrawn d0) m args below meth c H locs cells slots Q (F0 m 1613 ls []) := by
  obtain ⟨F, hX, hbl, hbA, hY, hl0⟩ := C
  obtain ⟨hx, hb, hml, hown, hG⟩ := id F
  obtain ⟨⟨G, E, Dd, P, Z⟩, ⟨h, Em, Dm⟩, o, od⟩ := u
  obtain ⟨hRR, hPZ⟩ := hr
  replace hRR : RR G P h := hRR
  replace hPZ : PZ P Z := hPZ
  have in1 : vp_in (x5 + (1 : Int32)) L := l_in (j := 1) hx5 (by omega) hL
  obtain ⟨a0, ea0⟩ : ∃ z : Int32, z = xs (x5 + (1 : Int32)).toNatClampNeg := ⟨_, rfl⟩
  have in2 : vp_in (x5 + (2 : Int32)) L := l_in (j := 2) hx5 (by omega) hL
  obtain ⟨a1, ea1⟩ : ∃ z : Int32, z = xs (x5 + (2 : Int32)).toNatClampNeg := ⟨_, rfl⟩
  refine lv_aload_n hx hb dL_law_1613 rfl (lv_at hl 1 rfl) ?_
  refine lv_aload_n hx hb dL_law_1614 rfl (lv_at hl 0 rfl) ?_
  refine lv_iload hx hb dL_law_1615 (lv_at hl 5 rfl) ?_
  refine lv_iconst (v := 1) hx hb dL_law_1617 (by decide) ?_
  refine lv_iadd hx hb dL_law_1618 ?_
  refine l_sld hx hb hX hbl hbA I in1 dL_law_1619 ?_
  rw [← ea0]
  refine lv_aload_n hx hb dL_law_1620 rfl (lv_at hl 0 rfl) ?_
  refine lv_iload hx hb dL_law_1621 (lv_at hl 5 rfl) ?_
  refine lv_iconst (v := 2) hx hb dL_law_1623 (by decide) ?_
  refine lv_iadd hx hb dL_law_1624 ?_
  refine l_sld hx hb hX hbl hbA I in2 dL_law_1625 ?_
  rw [← ea1]
  refine lv_aload_n hx hb dL_law_1626 rfl (lv_at hl 3 rfl) ?_
  have I0 : sInv D (cT cI cJ cD cS) (fW ((aD, .inl (cD, 1, .inr (.inr (.inr (.inl od))))) :: mW am cI cJ cD (h, Em, Dm)) (wJ ac aO cI cJ cD cS)) A s H locs ((G, E, Dd, P, Z), o) := sI_perm I lp_J
  refine f_callSW (As := [.ref (ac 0), .int a0, .int a1, .ref aO]) F hd0 I0 I.1 hY (wL_proved aO G E Dd P Z o hPZ hl0 a0 a1 _ (q_proved E Em Dd Dm o hRR hPZ a0 a1 _ rfl)) kL_189 ⟨rfl, rfl⟩ ⟨Nat.le_trans (by decide) hRr.1, Nat.le_trans (by decide) hRr.2⟩ rfl rfl hl.1 (Nat.le_of_ble_eq_true rfl) hcs dL_law_1627 (fun H1 lo1 d1 k u hd1 I1 hΨ => ?_)
  obtain ⟨⟨G2, E2, Dd2, P2, Z2⟩, o2⟩ := u
  obtain ⟨r, h2, Em2, hm, h0, hk, hRR2, hPZ2⟩ := hΨ
  replace I1 : sInv D (cT cI cJ cD cS) (lW ac am aO aD cI cJ cD cS) A s H1 lo1 ((G2, E2, Dd2, P2, Z2), (h, Em, Dm), o2, od) := sI_perm I1 lp_J.symm
  refine lv_istore (lv' := [(6, .int k), (0, .ref b), (1, .ref (ac 0)), (2, .ref (am 0)), (3, .ref aO), (4, .ref aD), (5, .int x5)]) hx hb dL_law_1630 hl (by decide) rfl (fun ls1 hl1 => ?_)
  refine lv_aload_n hx hb dL_law_1632 rfl (lv_at hl1 3 rfl) ?_
  refine lv_aload_n hx hb dL_law_1633 rfl (lv_at hl1 1 rfl) ?_
  refine lv_iload hx hb dL_law_1634 (lv_at hl1 6 rfl) ?_
  refine lv_iconst (v := 1) hx hb dL_law_1636 (by decide) ?_
  refine lv_iadd hx hb dL_law_1637 ?_
  refine l_sld hx hb hX hbl hbA I1 in1 dL_law_1638 ?_
  rw [← ea0]
  refine lv_aload_n hx hb dL_law_1639 rfl (lv_at hl1 1 rfl) ?_
  refine lv_iload hx hb dL_law_1640 (lv_at hl1 6 rfl) ?_
  refine lv_iconst (v := 2) hx hb dL_law_1642 (by decide) ?_
  refine lv_iadd hx hb dL_law_1643 ?_
  refine l_sld hx hb hX hbl hbA I1 in2 dL_law_1644 ?_
  rw [← ea1]
  replace I1 : sInv D (cT cI cJ cD cS) (fW ((aO, .inl (cJ, 1, .inr (.inl o2))) :: (aD, .inl (cD, 1, .inr (.inr (.inr (.inl od))))) :: cW ac cI cJ cD cS (G2, E2, Dd2, P2, Z2)) (mW am cI cJ cD)) A s H1 lo1 (h, Em, Dm) := sI_perm I1 lp_M
  refine f_callVi (As := [.int a0, .int a1]) F I1 (I1.1.sub [0, 1, 2] rfl) (cM_proved h Em Dm a0 a1 r h2 Em2 hm) kL_191 ⟨rfl, rfl⟩ ⟨Nat.le_trans (by decide) hRr.1, Nat.le_trans (by decide) hRr.2⟩ 0 12 rfl rfl rfl rfl rfl hl1.1 (Nat.le_of_ble_eq_true rfl) hcs dL_law_1645 (fun H3 lo3 I3 => ?_)
  replace I3 : sInv D (cT cI cJ cD cS) (fW ((aO, .inl (cJ, 1, .inr (.inl o2))) :: (aD, .inl (cD, 1, .inr (.inr (.inr (.inl od))))) :: cW ac cI cJ cD cS (G2, E2, Dd2, P2, Z2)) (mW am cI cJ cD)) A s H3 lo3 (h2, Em2, Dm) := I3
  refine lv_istore (lv' := [(7, .int r), (6, .int k), (0, .ref b), (1, .ref (ac 0)), (2, .ref (am 0)), (3, .ref aO), (4, .ref aD), (5, .int x5)]) hx hb dL_law_1648 hl1 (by decide) rfl (fun ls2 hl2 => ?_)
  refine lv_aload_n hx hb dL_law_1650 rfl (lv_at hl2 4 rfl) ?_
  refine f_callVi (As := []) F I3 (I3.1.sub [0, 1, 2] rfl) (cM_thrown h2 Em2 Dm k h0.symm) kL_106 ⟨rfl, rfl⟩ ⟨Nat.le_trans (by decide) hRr.1, Nat.le_trans (by decide) hRr.2⟩ 0 12 rfl rfl rfl rfl rfl hl2.1 (Nat.le_of_ble_eq_true rfl) hcs dL_law_1651 (fun H4 lo4 I4 => ?_)
  replace I4 : sInv D (cT cI cJ cD cS) (lW ac am aO aD cI cJ cD cS) A s H4 lo4 ((G2, E2, Dd2, P2, Z2), (h2, Em2, Dm), o2, od) := sI_perm I4 lp_M.symm
  refine lv_iload hx hb dL_law_1654 (lv_at hl2 1 rfl) ?_
  refine lv_icmp_eq (tgt := 1661) hx hb dL_law_1656 (by decide) (fun _ => ?_) (fun hne => absurd rfl hne)
  refine lv_iload hx hb dL_law_1661 (lv_at hl2 1 rfl) ?_
  have hEnd : W p l e R (s.setDrawn d1) m args below meth c H4 lo4 (cells + 2) (slots + 58) Q (F0 m 1678 ls2 []) := by
    refine lv_goto (tgt := 1861) hx hb dL_law_1678 (by decide) ?_
    exact K H4 lo4 d1 _ ls2 hd1 I4 ⟨hRR2, hPZ2⟩ (lv_sub hl2 [2, 3, 4, 5, 6, 7] rfl)
  refine lv_if_ne (tgt := 1678) hx hb dL_law_1663 (by decide) (fun _ => hEnd) (fun hk0 => ?_)
  have hv := hk hk0
  refine lv_aload_n hx hb dL_law_1666 rfl (lv_at hl2 5 rfl) ?_
  refine lv_iconst (v := 0) hx hb dL_law_1667 (by decide) ?_
  refine va_lald hx hb (Idr I4).1 I4.2.1 0 1 rfl rfl in01 dL_law_1668 ?_
  refine lv_iload hx hb dL_law_1669 (lv_at hl2 0 rfl) ?_
  refine lv_i2l hx hb dL_law_1671 rfl ?_
  refine W.lcmp hx hb dL_law_1672 ?_
  refine lv_if_eq (tgt := 1678) hx hb dL_law_1673 (by decide) (fun _ => hEnd) (fun hne => absurd (l_cmp hv) hne)
set_option maxRecDepth 100000 in
set_option maxHeartbeats 4000000 in
theorem lc_strength {x5 : Int32} {i : Nat} (C : lCx p l m c s args A b L xs) (hRr : 12 ≤ R.frames ∧ 430 ≤ R.locals) (hcs : cells + 2 ≤ R.cells ∧ slots + 58 ≤ R.slots) (hd0 : s.drawn.sameBut d0 lw_cs) (I : sInv D (cT cI cJ cD cS) (lW ac am aO aD cI cJ cD cS) A s H locs u) (hr : lR u) (hi : i + 5 ≤ L) (hL : L ≤ 2560) (hx5 : x5 = nI i) (hl : lv_has ls 9 [(0, .ref b), (1, .ref (ac 0)), (2, .ref (am 0)), (3, .ref aO), (4, .ref aD), (5, .int x5)]) (K : lK p l e R s m args below meth c D A cells slots Q ac am aO aD cI cJ cD cS b x5) : W p l e R (s.setDrawn d0) m args below meth c H locs cells slots Q (F0 m 1681 ls []) := by
  obtain ⟨F, hX, hbl, hbA, hY, hl0⟩ := C
  obtain ⟨hx, hb, hml, hown, hG⟩ := id F
  obtain ⟨⟨G, E, Dd, P, Z⟩, ⟨h, Em, Dm⟩, o, od⟩ := u
  obtain ⟨hRR, hPZ⟩ := hr
  replace hRR : RR G P h := hRR
  replace hPZ : PZ P Z := hPZ
  have in1 : vp_in (x5 + (1 : Int32)) L := l_in (j := 1) hx5 (by omega) hL
  obtain ⟨a0, ea0⟩ : ∃ z : Int32, z = xs (x5 + (1 : Int32)).toNatClampNeg := ⟨_, rfl⟩
  have in2 : vp_in (x5 + (2 : Int32)) L := l_in (j := 2) hx5 (by omega) hL
  obtain ⟨a1, ea1⟩ : ∃ z : Int32, z = xs (x5 + (2 : Int32)).toNatClampNeg := ⟨_, rfl⟩
  refine lv_aload_n hx hb dL_law_1681 rfl (lv_at hl 1 rfl) ?_
  refine lv_aload_n hx hb dL_law_1682 rfl (lv_at hl 0 rfl) ?_
  refine lv_iload hx hb dL_law_1683 (lv_at hl 5 rfl) ?_
  refine lv_iconst (v := 1) hx hb dL_law_1685 (by decide) ?_
  refine lv_iadd hx hb dL_law_1686 ?_
  refine l_sld hx hb hX hbl hbA I in1 dL_law_1687 ?_
  rw [← ea0]
  refine lv_aload_n hx hb dL_law_1688 rfl (lv_at hl 0 rfl) ?_
  refine lv_iload hx hb dL_law_1689 (lv_at hl 5 rfl) ?_
  refine lv_iconst (v := 2) hx hb dL_law_1691 (by decide) ?_
  refine lv_iadd hx hb dL_law_1692 ?_
  refine l_sld hx hb hX hbl hbA I in2 dL_law_1693 ?_
  rw [← ea1]
  refine lv_aload hx hb dL_law_1694 (lv_at hl 4 rfl) ?_
  have I0 : sInv D (cT cI cJ cD cS) (fW ((aO, .inl (cJ, 1, .inr (.inl o))) :: mW am cI cJ cD (h, Em, Dm)) (wD ac aD cI cJ cD cS)) A s H locs ((G, E, Dd, P, Z), od) := sI_perm I lp_D
  refine f_callSW (As := [.ref (ac 0), .int a0, .int a1, .ref aD]) F hd0 I0 I.1 hY (wL_strength aD G E Dd P Z od hPZ hl0 a0 a1 _ (q_strength E Em Dd Dm od hRR hPZ a0 a1 _ rfl)) kL_192 ⟨rfl, rfl⟩ ⟨Nat.le_trans (by decide) hRr.1, Nat.le_trans (by decide) hRr.2⟩ rfl rfl hl.1 (Nat.le_of_ble_eq_true rfl) hcs dL_law_1696 (fun H1 lo1 d1 k u hd1 I1 hΨ => ?_)
  obtain ⟨⟨G2, E2, Dd2, P2, Z2⟩, o2⟩ := u
  obtain ⟨r, h2, Dm2, hm, h0, hk, hRR2, hPZ2⟩ := hΨ
  replace I1 : sInv D (cT cI cJ cD cS) (lW ac am aO aD cI cJ cD cS) A s H1 lo1 ((G2, E2, Dd2, P2, Z2), (h, Em, Dm), o, o2) := sI_perm I1 lp_D.symm
  refine lv_istore (lv' := [(6, .int k), (0, .ref b), (1, .ref (ac 0)), (2, .ref (am 0)), (3, .ref aO), (4, .ref aD), (5, .int x5)]) hx hb dL_law_1699 hl (by decide) rfl (fun ls1 hl1 => ?_)
  refine lv_aload_n hx hb dL_law_1701 rfl (lv_at hl1 3 rfl) ?_
  refine lv_aload_n hx hb dL_law_1702 rfl (lv_at hl1 1 rfl) ?_
  refine lv_iload hx hb dL_law_1703 (lv_at hl1 6 rfl) ?_
  refine lv_iconst (v := 1) hx hb dL_law_1705 (by decide) ?_
  refine lv_iadd hx hb dL_law_1706 ?_
  refine l_sld hx hb hX hbl hbA I1 in1 dL_law_1707 ?_
  rw [← ea0]
  refine lv_aload_n hx hb dL_law_1708 rfl (lv_at hl1 1 rfl) ?_
  refine lv_iload hx hb dL_law_1709 (lv_at hl1 6 rfl) ?_
  refine lv_iconst (v := 2) hx hb dL_law_1711 (by decide) ?_
  refine lv_iadd hx hb dL_law_1712 ?_
  refine l_sld hx hb hX hbl hbA I1 in2 dL_law_1713 ?_
  rw [← ea1]
  replace I1 : sInv D (cT cI cJ cD cS) (fW ((aO, .inl (cJ, 1, .inr (.inl o))) :: (aD, .inl (cD, 1, .inr (.inr (.inr (.inl o2))))) :: cW ac cI cJ cD cS (G2, E2, Dd2, P2, Z2)) (mW am cI cJ cD)) A s H1 lo1 (h, Em, Dm) := sI_perm I1 lp_M
  refine f_callVD (As := [.int a0, .int a1]) (Sm := mSm) F hd1 I1 ⟨rfl, rfl, alikeM_rf _⟩ (I1.1.sub [0, 1, 2] rfl) (cM_strength h Em Dm a0 a1 r h2 Dm2 hm) kL_194 ⟨rfl, rfl⟩ ⟨Nat.le_trans (by decide) hRr.1, Nat.le_trans (by decide) hRr.2⟩ 0 12 rfl rfl rfl rfl rfl hl1.1 (Nat.le_of_ble_eq_true rfl) hcs dL_law_1714 (fun H3 lo3 d3 τ rr hd3 I3 hu hrr => ?_)
  obtain ⟨hh, Eh, Dh⟩ := τ
  obtain ⟨rfl, rfl, -⟩ := (show mSm (hh, Eh, Dh) (h2, Em, Dm2) from hu)
  replace I3 : sInv D (cT cI cJ cD cS) (fW ((aO, .inl (cJ, 1, .inr (.inl o))) :: (aD, .inl (cD, 1, .inr (.inr (.inr (.inl o2))))) :: cW ac cI cJ cD cS (G2, E2, Dd2, P2, Z2)) (mW am cI cJ cD)) A s H3 lo3 (h2, Em, Dh) := I3
  refine lv_dstore (lv' := [(7, .double rr), (6, .int k), (0, .ref b), (1, .ref (ac 0)), (2, .ref (am 0)), (3, .ref aO), (4, .ref aD), (5, .int x5)]) hx hb dL_law_1717 hl1 (by decide) rfl (fun ls2 hl2 => ?_)
  refine lv_aload_n hx hb dL_law_1719 rfl (lv_at hl2 4 rfl) ?_
  refine f_callVi (As := []) F I3 (I3.1.sub [0, 1, 2] rfl) (cM_thrown h2 Em Dh k h0.symm) kL_106 ⟨rfl, rfl⟩ ⟨Nat.le_trans (by decide) hRr.1, Nat.le_trans (by decide) hRr.2⟩ 0 12 rfl rfl rfl rfl rfl hl2.1 (Nat.le_of_ble_eq_true rfl) hcs dL_law_1720 (fun H4 lo4 I4 => ?_)
  replace I4 : sInv D (cT cI cJ cD cS) (lW ac am aO aD cI cJ cD cS) A s H4 lo4 ((G2, E2, Dd2, P2, Z2), (h2, Em, Dh), o, o2) := sI_perm I4 lp_M.symm
  refine lv_iload hx hb dL_law_1723 (lv_at hl2 1 rfl) ?_
  refine lv_icmp_eq (tgt := 1730) hx hb dL_law_1725 (by decide) (fun _ => ?_) (fun hne => absurd rfl hne)
  refine lv_iload hx hb dL_law_1730 (lv_at hl2 1 rfl) ?_
  have hEnd : W p l e R (s.setDrawn d3) m args below meth c H4 lo4 (cells + 2) (slots + 58) Q (F0 m 1767 ls2 []) := by
    refine lv_goto (tgt := 1861) hx hb dL_law_1767 (by decide) ?_
    exact K H4 lo4 d3 _ ls2 hd3 I4 ⟨hRR2, hPZ2⟩ (lv_sub hl2 [2, 3, 4, 5, 6, 7] rfl)
  refine lv_if_ne (tgt := 1767) hx hb dL_law_1732 (by decide) (fun _ => hEnd) (fun hk0 => ?_)
  have hv := hk hk0
  refine lv_aload hx hb dL_law_1735 (lv_at hl2 6 rfl) ?_
  refine lv_iconst (v := 0) hx hb dL_law_1737 (by decide) ?_
  refine va_dald hx hb (Idr I4).1 I4.2.1 1 2 rfl rfl in01 dL_law_1738 ?_
  refine lv_dload hx hb dL_law_1739 (lv_at hl2 0 rfl) ?_
  refine lv_dcmp hx hb dL_law_1741 ?_
  rw [show FP.dcmp (o2 (0 : Int32).toNatClampNeg) rr = FP.dcmp r r from al_dcmp hv hrr]
  refine lv_if_eq (tgt := 1767) hx hb dL_law_1742 (by decide) (fun _ => hEnd) (fun hne => ?_)
  refine lv_aload hx hb dL_law_1745 (lv_at hl2 6 rfl) ?_
  refine lv_iconst (v := 0) hx hb dL_law_1747 (by decide) ?_
  refine va_dald hx hb (Idr I4).1 I4.2.1 1 2 rfl rfl in01 dL_law_1748 ?_
  refine lv_aload hx hb dL_law_1749 (lv_at hl2 6 rfl) ?_
  refine lv_iconst (v := 0) hx hb dL_law_1751 (by decide) ?_
  refine va_dald hx hb (Idr I4).1 I4.2.1 1 2 rfl rfl in01 dL_law_1752 ?_
  refine lv_dcmp hx hb dL_law_1753 ?_
  rw [show FP.dcmp (o2 (0 : Int32).toNatClampNeg) (o2 (0 : Int32).toNatClampNeg) = FP.dcmp r r from al_dcmp hv hv]
  refine lv_if_eq (tgt := 1765) hx hb dL_law_1754 (by decide) (fun h9 => absurd h9 hne) (fun _ => ?_)
  refine lv_dload hx hb dL_law_1757 (lv_at hl2 0 rfl) ?_
  refine lv_dload hx hb dL_law_1759 (lv_at hl2 0 rfl) ?_
  refine lv_dcmp hx hb dL_law_1761 ?_
  rw [show FP.dcmp rr rr = FP.dcmp r r from al_dcmp hrr hrr]
  refine lv_if_ne (tgt := 1767) hx hb dL_law_1762 (by decide) (fun _ => hEnd) (fun h9 => absurd h9 hne)
set_option maxRecDepth 100000 in
set_option maxHeartbeats 4000000 in
theorem lc_misfit {x5 : Int32} {i : Nat} (C : lCx p l m c s args A b L xs) (hRr : 12 ≤ R.frames ∧ 430 ≤ R.locals) (hcs : cells + 2 ≤ R.cells ∧ slots + 58 ≤ R.slots) (hd0 : s.drawn.sameBut d0 lw_cs) (I : sInv D (cT cI cJ cD cS) (lW ac am aO aD cI cJ cD cS) A s H locs u) (hr : lR u) (hi : i + 5 ≤ L) (hL : L ≤ 2560) (hx5 : x5 = nI i) (hl : lv_has ls 9 [(0, .ref b), (1, .ref (ac 0)), (2, .ref (am 0)), (3, .ref aO), (4, .ref aD), (5, .int x5)]) (K : lK p l e R s m args below meth c D A cells slots Q ac am aO aD cI cJ cD cS b x5) : W p l e R (s.setDrawn d0) m args below meth c H locs cells slots Q (F0 m 1770 ls []) := by
  obtain ⟨F, hX, hbl, hbA, hY, hl0⟩ := C
  obtain ⟨hx, hb, hml, hown, hG⟩ := id F
  obtain ⟨⟨G, E, Dd, P, Z⟩, ⟨h, Em, Dm⟩, o, od⟩ := u
  obtain ⟨hRR, hPZ⟩ := hr
  replace hRR : RR G P h := hRR
  replace hPZ : PZ P Z := hPZ
  have in1 : vp_in (x5 + (1 : Int32)) L := l_in (j := 1) hx5 (by omega) hL
  obtain ⟨a0, ea0⟩ : ∃ z : Int32, z = xs (x5 + (1 : Int32)).toNatClampNeg := ⟨_, rfl⟩
  refine lv_aload_n hx hb dL_law_1770 rfl (lv_at hl 1 rfl) ?_
  refine lv_aload_n hx hb dL_law_1771 rfl (lv_at hl 0 rfl) ?_
  refine lv_iload hx hb dL_law_1772 (lv_at hl 5 rfl) ?_
  refine lv_iconst (v := 1) hx hb dL_law_1774 (by decide) ?_
  refine lv_iadd hx hb dL_law_1775 ?_
  refine l_sld hx hb hX hbl hbA I in1 dL_law_1776 ?_
  rw [← ea0]
  refine lv_aload hx hb dL_law_1777 (lv_at hl 4 rfl) ?_
  have I0 : sInv D (cT cI cJ cD cS) (fW ((aO, .inl (cJ, 1, .inr (.inl o))) :: mW am cI cJ cD (h, Em, Dm)) (wD ac aD cI cJ cD cS)) A s H locs ((G, E, Dd, P, Z), od) := sI_perm I lp_D
  refine f_callSW (As := [.ref (ac 0), .int a0, .ref aD]) F hd0 I0 I.1 hY (wL_misfit aD G E Dd P Z od hPZ hl0 a0 _ (q_misfit E Em Dd Dm od hRR hPZ a0 _ rfl)) kL_195 ⟨rfl, rfl⟩ ⟨Nat.le_trans (by decide) hRr.1, Nat.le_trans (by decide) hRr.2⟩ rfl rfl hl.1 (Nat.le_of_ble_eq_true rfl) hcs dL_law_1779 (fun H1 lo1 d1 k u hd1 I1 hΨ => ?_)
  obtain ⟨⟨G2, E2, Dd2, P2, Z2⟩, o2⟩ := u
  obtain ⟨r, h2, Dm2, hm, h0, hk, hRR2, hPZ2⟩ := hΨ
  replace I1 : sInv D (cT cI cJ cD cS) (lW ac am aO aD cI cJ cD cS) A s H1 lo1 ((G2, E2, Dd2, P2, Z2), (h, Em, Dm), o, o2) := sI_perm I1 lp_D.symm
  refine lv_istore (lv' := [(6, .int k), (0, .ref b), (1, .ref (ac 0)), (2, .ref (am 0)), (3, .ref aO), (4, .ref aD), (5, .int x5)]) hx hb dL_law_1782 hl (by decide) rfl (fun ls1 hl1 => ?_)
  refine lv_aload_n hx hb dL_law_1784 rfl (lv_at hl1 3 rfl) ?_
  refine lv_aload_n hx hb dL_law_1785 rfl (lv_at hl1 1 rfl) ?_
  refine lv_iload hx hb dL_law_1786 (lv_at hl1 6 rfl) ?_
  refine lv_iconst (v := 1) hx hb dL_law_1788 (by decide) ?_
  refine lv_iadd hx hb dL_law_1789 ?_
  refine l_sld hx hb hX hbl hbA I1 in1 dL_law_1790 ?_
  rw [← ea0]
  replace I1 : sInv D (cT cI cJ cD cS) (fW ((aO, .inl (cJ, 1, .inr (.inl o))) :: (aD, .inl (cD, 1, .inr (.inr (.inr (.inl o2))))) :: cW ac cI cJ cD cS (G2, E2, Dd2, P2, Z2)) (mW am cI cJ cD)) A s H1 lo1 (h, Em, Dm) := sI_perm I1 lp_M
  refine f_callVD (As := [.int a0]) (Sm := mSm) F hd1 I1 ⟨rfl, rfl, alikeM_rf _⟩ (I1.1.sub [0, 1, 2] rfl) (cM_misfit h Em Dm a0 r h2 Dm2 hm) kL_197 ⟨rfl, rfl⟩ ⟨Nat.le_trans (by decide) hRr.1, Nat.le_trans (by decide) hRr.2⟩ 0 12 rfl rfl rfl rfl rfl hl1.1 (Nat.le_of_ble_eq_true rfl) hcs dL_law_1791 (fun H3 lo3 d3 τ rr hd3 I3 hu hrr => ?_)
  obtain ⟨hh, Eh, Dh⟩ := τ
  obtain ⟨rfl, rfl, -⟩ := (show mSm (hh, Eh, Dh) (h2, Em, Dm2) from hu)
  replace I3 : sInv D (cT cI cJ cD cS) (fW ((aO, .inl (cJ, 1, .inr (.inl o))) :: (aD, .inl (cD, 1, .inr (.inr (.inr (.inl o2))))) :: cW ac cI cJ cD cS (G2, E2, Dd2, P2, Z2)) (mW am cI cJ cD)) A s H3 lo3 (h2, Em, Dh) := I3
  refine lv_dstore (lv' := [(7, .double rr), (6, .int k), (0, .ref b), (1, .ref (ac 0)), (2, .ref (am 0)), (3, .ref aO), (4, .ref aD), (5, .int x5)]) hx hb dL_law_1794 hl1 (by decide) rfl (fun ls2 hl2 => ?_)
  refine lv_aload_n hx hb dL_law_1796 rfl (lv_at hl2 4 rfl) ?_
  refine f_callVi (As := []) F I3 (I3.1.sub [0, 1, 2] rfl) (cM_thrown h2 Em Dh k h0.symm) kL_106 ⟨rfl, rfl⟩ ⟨Nat.le_trans (by decide) hRr.1, Nat.le_trans (by decide) hRr.2⟩ 0 12 rfl rfl rfl rfl rfl hl2.1 (Nat.le_of_ble_eq_true rfl) hcs dL_law_1797 (fun H4 lo4 I4 => ?_)
  replace I4 : sInv D (cT cI cJ cD cS) (lW ac am aO aD cI cJ cD cS) A s H4 lo4 ((G2, E2, Dd2, P2, Z2), (h2, Em, Dh), o, o2) := sI_perm I4 lp_M.symm
  refine lv_iload hx hb dL_law_1800 (lv_at hl2 1 rfl) ?_
  refine lv_icmp_eq (tgt := 1807) hx hb dL_law_1802 (by decide) (fun _ => ?_) (fun hne => absurd rfl hne)
  refine lv_iload hx hb dL_law_1807 (lv_at hl2 1 rfl) ?_
  have hEnd : W p l e R (s.setDrawn d3) m args below meth c H4 lo4 (cells + 2) (slots + 58) Q (F0 m 1844 ls2 []) := by
    refine lv_goto (tgt := 1861) hx hb dL_law_1844 (by decide) ?_
    exact K H4 lo4 d3 _ ls2 hd3 I4 ⟨hRR2, hPZ2⟩ (lv_sub hl2 [2, 3, 4, 5, 6, 7] rfl)
  refine lv_if_ne (tgt := 1844) hx hb dL_law_1809 (by decide) (fun _ => hEnd) (fun hk0 => ?_)
  have hv := hk hk0
  refine lv_aload hx hb dL_law_1812 (lv_at hl2 6 rfl) ?_
  refine lv_iconst (v := 0) hx hb dL_law_1814 (by decide) ?_
  refine va_dald hx hb (Idr I4).1 I4.2.1 1 2 rfl rfl in01 dL_law_1815 ?_
  refine lv_dload hx hb dL_law_1816 (lv_at hl2 0 rfl) ?_
  refine lv_dcmp hx hb dL_law_1818 ?_
  rw [show FP.dcmp (o2 (0 : Int32).toNatClampNeg) rr = FP.dcmp r r from al_dcmp hv hrr]
  refine lv_if_eq (tgt := 1844) hx hb dL_law_1819 (by decide) (fun _ => hEnd) (fun hne => ?_)
  refine lv_aload hx hb dL_law_1822 (lv_at hl2 6 rfl) ?_
  refine lv_iconst (v := 0) hx hb dL_law_1824 (by decide) ?_
  refine va_dald hx hb (Idr I4).1 I4.2.1 1 2 rfl rfl in01 dL_law_1825 ?_
  refine lv_aload hx hb dL_law_1826 (lv_at hl2 6 rfl) ?_
  refine lv_iconst (v := 0) hx hb dL_law_1828 (by decide) ?_
  refine va_dald hx hb (Idr I4).1 I4.2.1 1 2 rfl rfl in01 dL_law_1829 ?_
  refine lv_dcmp hx hb dL_law_1830 ?_
  rw [show FP.dcmp (o2 (0 : Int32).toNatClampNeg) (o2 (0 : Int32).toNatClampNeg) = FP.dcmp r r from al_dcmp hv hv]
  refine lv_if_eq (tgt := 1842) hx hb dL_law_1831 (by decide) (fun h9 => absurd h9 hne) (fun _ => ?_)
  refine lv_dload hx hb dL_law_1834 (lv_at hl2 0 rfl) ?_
  refine lv_dload hx hb dL_law_1836 (lv_at hl2 0 rfl) ?_
  refine lv_dcmp hx hb dL_law_1838 ?_
  rw [show FP.dcmp rr rr = FP.dcmp r r from al_dcmp hrr hrr]
  refine lv_if_ne (tgt := 1844) hx hb dL_law_1839 (by decide) (fun _ => hEnd) (fun h9 => absurd h9 hne)
set_option maxRecDepth 100000 in
set_option maxHeartbeats 4000000 in
theorem lc_digest {x5 : Int32} {i : Nat} (C : lCx p l m c s args A b L xs) (hRr : 12 ≤ R.frames ∧ 430 ≤ R.locals) (hcs : cells + 2 ≤ R.cells ∧ slots + 58 ≤ R.slots) (hd0 : s.drawn.sameBut d0 lw_cs) (I : sInv D (cT cI cJ cD cS) (lW ac am aO aD cI cJ cD cS) A s H locs u) (hr : lR u) (hi : i + 5 ≤ L) (hL : L ≤ 2560) (hx5 : x5 = nI i) (hl : lv_has ls 9 [(0, .ref b), (1, .ref (ac 0)), (2, .ref (am 0)), (3, .ref aO), (4, .ref aD), (5, .int x5)]) (K : lK p l e R s m args below meth c D A cells slots Q ac am aO aD cI cJ cD cS b x5) : W p l e R (s.setDrawn d0) m args below meth c H locs cells slots Q (F0 m 1847 ls []) := by
  obtain ⟨F, hX, hbl, hbA, hY, hl0⟩ := C
  obtain ⟨hx, hb, hml, hown, hG⟩ := id F
  obtain ⟨⟨G, E, Dd, P, Z⟩, ⟨h, Em, Dm⟩, o, od⟩ := u
  obtain ⟨hRR, hPZ⟩ := hr
  replace hRR : RR G P h := hRR
  replace hPZ : PZ P Z := hPZ
  obtain ⟨r, G2, P2, h2, ⟨⟨E2, D2, cf⟩, hP9⟩, ⟨Em2, Dm2, mf⟩, h0, hR2, hP2⟩ := p_digest DZ_ok hRR E Em Dd Dm
  rw [hP9] at hR2 hP2
  have I0 : sInv D (cT cI cJ cD cS) (fW ((aO, .inl (cJ, 1, .inr (.inl o))) :: (aD, .inl (cD, 1, .inr (.inr (.inr (.inl od))))) :: mW am cI cJ cD (h, Em, Dm)) (cW ac cI cJ cD cS)) A s H locs (G, E, Dd, P, Z) := sI_perm I (List.Perm.refl _)
  refine lv_aload_n hx hb dL_law_1847 rfl (lv_at hl 1 rfl) ?_
  refine f_callVL (As := []) (Sm := cSm) F hd0 I0 ⟨rfl, rfl, alikeM_rf _, rfl⟩ I.1 (cC_LT_digest G E Dd P Z hPZ r G2 E2 D2 cf) kL_198 ⟨rfl, rfl⟩ ⟨Nat.le_trans (by decide) hRr.1, Nat.le_trans (by decide) hRr.2⟩ 0 11 rfl rfl rfl rfl rfl hl.1 (Nat.le_of_ble_eq_true rfl) ⟨Nat.le_trans (Nat.le_add_right _ _) hcs.1, Nat.le_trans (Nat.le_add_right _ _) hcs.2⟩ dL_law_1848 (fun H1 lo1 d1 σ1 hd1 I1 hu => ?_)
  obtain ⟨Gz, Ez, Dz, Pz, Zz⟩ := σ1
  obtain ⟨rfl, rfl, -, hpz⟩ := (show cSm (Gz, Ez, Dz, Pz, Zz) (G2, E2, D2, P, Z) from hu)
  obtain ⟨rfl, rfl⟩ : P = Pz ∧ Z = Zz := ⟨congrArg Prod.fst hpz, congrArg Prod.snd hpz⟩
  replace I1 : sInv D (cT cI cJ cD cS) (lW ac am aO aD cI cJ cD cS) A s H1 lo1 ((G2, E2, Dz, P, Z), (h, Em, Dm), o, od) := sI_perm I1 (List.Perm.refl _)
  replace I1 : sInv D (cT cI cJ cD cS) (fW ((aO, .inl (cJ, 1, .inr (.inl o))) :: (aD, .inl (cD, 1, .inr (.inr (.inr (.inl od))))) :: cW ac cI cJ cD cS (G2, E2, Dz, P, Z)) (mW am cI cJ cD)) A s H1 lo1 (h, Em, Dm) := sI_perm I1 lp_M
  refine lv_aload_n hx hb dL_law_1851 rfl (lv_at hl 2 rfl) ?_
  refine f_callVL (As := []) (Sm := mSm) F hd1 I1 ⟨rfl, rfl, alikeM_rf _⟩ (I1.1.sub [0, 1, 2] rfl) (cM_digest h Em Dm r h2 Em2 Dm2 mf) kL_201 ⟨rfl, rfl⟩ ⟨Nat.le_trans (by decide) hRr.1, Nat.le_trans (by decide) hRr.2⟩ 0 12 rfl rfl rfl rfl rfl hl.1 (Nat.le_of_ble_eq_true rfl) ⟨Nat.le_trans (Nat.le_add_right _ _) hcs.1, Nat.le_trans (Nat.le_add_right _ _) hcs.2⟩ dL_law_1852 (fun H3 lo3 d3 τ hd3 I3 hu3 => ?_)
  obtain ⟨hh, Eh, Dh⟩ := τ
  obtain ⟨rfl, rfl, -⟩ := (show mSm (hh, Eh, Dh) (h2, Em2, Dm2) from hu3)
  replace I3 : sInv D (cT cI cJ cD cS) (lW ac am aO aD cI cJ cD cS) A s H3 lo3 ((G2, E2, Dz, P, Z), (h2, Em2, Dh), o, od) := sI_perm I3 lp_M.symm
  refine W.lcmp hx hb dL_law_1855 ?_
  exact lv_if_eq (tgt := 1861) hx hb dL_law_1856 (by decide) (fun _ => W.widen (Nat.le_add_right _ _) (Nat.le_add_right _ _) (K H3 lo3 d3 _ ls hd3 I3 ⟨hR2, hP2 Z hPZ⟩ hl)) (fun hne => absurd (l_cmp rfl) hne)
end LawC
