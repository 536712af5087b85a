/-! THE LAW: cases -/
section LawC
variable {D : va_G} {l : Launch} {cI cJ cD cS : ClassId} {ac am : Nat → Nat} {aO aD b L : Nat} {xs : Nat → Int32}
variable {p : Program} {e : Env} {R : Room} {s : State} {m : MethodId} {args : Array Value} {below : List Frame} {meth : Method} {c : Code} {H : Heap} {locs : List Loc} {cells slots : Nat} {Q : State → Prop}
variable {A : Nat → Prop} {ls : Array Slot} {d0 : Drawn} {u : CSt × MSt × (Nat → Int64) × (Nat → UInt64)}
set_option maxRecDepth 100000 in
set_option maxHeartbeats 4000000 in
theorem lc_firstError {x5 : Int32} {i : Nat} (C : lCx p l m c s args A b L xs) (hRr : 12 ≤ R.frames ∧ 430 ≤ R.locals) (hcs : cells + 2 ≤ R.cells ∧ slots + 58 ≤ R.slots) (hd0 : s.drawn.sameBut d0 lw_cs) (I : sInv D (cT cI cJ cD cS) (lW ac am aO aD cI cJ cD cS) A s H locs u) (hr : lR u) (hi : i + 5 ≤ L) (hL : L ≤ 2560) (hx5 : x5 = nI i) (hl : lv_has ls 9 [(0, .ref b), (1, .ref (ac 0)), (2, .ref (am 0)), (3, .ref aO), (4, .ref aD), (5, .int x5)]) (K : lK p l e R s m args below meth c D A cells slots Q ac am aO aD cI cJ cD cS b x5) : W p l e R (s.setDrawn d0) m args below meth c H locs cells slots Q (F0 m 789 ls []) := by
  obtain ⟨F, hX, hbl, hbA, hY, hl0⟩ := C
  obtain ⟨hx, hb, hml, hown, hG⟩ := id F
  obtain ⟨⟨G, E, Dd, P, Z⟩, ⟨h, Em, Dm⟩, o, od⟩ := u
  obtain ⟨hRR, hPZ⟩ := hr
  replace hRR : RR G P h := hRR
  replace hPZ : PZ P Z := hPZ
  obtain ⟨r, G2, P2, h2, ⟨cf, hP9⟩, mf, h0, hR2, hP2⟩ := p_firstError hRR
  rw [hP9] at hR2 hP2
  have I0 : sInv D (cT cI cJ cD cS) (fW ((aO, .inl (cJ, 1, .inr (.inl o))) :: (aD, .inl (cD, 1, .inr (.inr (.inr (.inl od))))) :: mW am cI cJ cD (h, Em, Dm)) (cW ac cI cJ cD cS)) A s H locs (G, E, Dd, P, Z) := sI_perm I (List.Perm.refl _)
  refine lv_aload_n hx hb dL_law_789 rfl (lv_at hl 1 rfl) ?_
  refine f_callVi (As := []) F I0 I.1 (cC_LT_firstError G E Dd P Z r G2 cf) kL_142 ⟨rfl, rfl⟩ ⟨Nat.le_trans (by decide) hRr.1, Nat.le_trans (by decide) hRr.2⟩ 0 11 rfl rfl rfl rfl rfl hl.1 (Nat.le_of_ble_eq_true rfl) ⟨Nat.le_trans (Nat.le_add_right _ _) hcs.1, Nat.le_trans (Nat.le_add_right _ _) hcs.2⟩ dL_law_790 (fun H1 lo1 I1 => ?_)
  replace I1 : sInv D (cT cI cJ cD cS) (lW ac am aO aD cI cJ cD cS) A s H1 lo1 ((G2, E, Dd, P, Z), (h, Em, Dm), o, od) := sI_perm I1 (List.Perm.refl _)
  replace I1 : sInv D (cT cI cJ cD cS) (fW ((aO, .inl (cJ, 1, .inr (.inl o))) :: (aD, .inl (cD, 1, .inr (.inr (.inr (.inl od))))) :: cW ac cI cJ cD cS (G2, E, Dd, P, Z)) (mW am cI cJ cD)) A s H1 lo1 (h, Em, Dm) := sI_perm I1 lp_M
  refine lv_aload_n hx hb dL_law_793 rfl (lv_at hl 2 rfl) ?_
  refine f_callVi (As := []) F I1 (I1.1.sub [0, 1, 2] rfl) (cM_firstError h Em Dm r h2 mf) kL_145 ⟨rfl, rfl⟩ ⟨Nat.le_trans (by decide) hRr.1, Nat.le_trans (by decide) hRr.2⟩ 0 12 rfl rfl rfl rfl rfl hl.1 (Nat.le_of_ble_eq_true rfl) ⟨Nat.le_trans (Nat.le_add_right _ _) hcs.1, Nat.le_trans (Nat.le_add_right _ _) hcs.2⟩ dL_law_794 (fun H3 lo3 I3 => ?_)
  replace I3 : sInv D (cT cI cJ cD cS) (lW ac am aO aD cI cJ cD cS) A s H3 lo3 ((G2, E, Dd, P, Z), (h2, Em, Dm), o, od) := sI_perm I3 lp_M.symm
  exact lv_icmp_eq (tgt := 1861) hx hb dL_law_797 (by decide) (fun _ => W.widen (Nat.le_add_right _ _) (Nat.le_add_right _ _) (K H3 lo3 d0 _ ls hd0 I3 ⟨hR2, hP2 Z hPZ⟩ hl)) (fun hne => absurd rfl hne)
set_option maxRecDepth 100000 in
set_option maxHeartbeats 4000000 in
theorem lc_load {x5 : Int32} {i : Nat} (C : lCx p l m c s args A b L xs) (hRr : 12 ≤ R.frames ∧ 430 ≤ R.locals) (hcs : cells + 2 ≤ R.cells ∧ slots + 58 ≤ R.slots) (hd0 : s.drawn.sameBut d0 lw_cs) (I : sInv D (cT cI cJ cD cS) (lW ac am aO aD cI cJ cD cS) A s H locs u) (hr : lR u) (hi : i + 5 ≤ L) (hL : L ≤ 2560) (hx5 : x5 = nI i) (hl : lv_has ls 9 [(0, .ref b), (1, .ref (ac 0)), (2, .ref (am 0)), (3, .ref aO), (4, .ref aD), (5, .int x5)]) (K : lK p l e R s m args below meth c D A cells slots Q ac am aO aD cI cJ cD cS b x5) : W p l e R (s.setDrawn d0) m args below meth c H locs cells slots Q (F0 m 802 ls []) := by
  obtain ⟨F, hX, hbl, hbA, hY, hl0⟩ := C
  obtain ⟨hx, hb, hml, hown, hG⟩ := id F
  obtain ⟨⟨G, E, Dd, P, Z⟩, ⟨h, Em, Dm⟩, o, od⟩ := u
  obtain ⟨hRR, hPZ⟩ := hr
  replace hRR : RR G P h := hRR
  replace hPZ : PZ P Z := hPZ
  refine lv_aload_n hx hb dL_law_802 rfl (lv_at hl 1 rfl) ?_
  refine lv_aload_n hx hb dL_law_803 rfl (lv_at hl 3 rfl) ?_
  have I0 : sInv D (cT cI cJ cD cS) (fW ((aD, .inl (cD, 1, .inr (.inr (.inr (.inl od))))) :: mW am cI cJ cD (h, Em, Dm)) (wJ ac aO cI cJ cD cS)) A s H locs ((G, E, Dd, P, Z), o) := sI_perm I lp_J
  refine f_callSW (As := [.ref (ac 0), .ref aO]) F hd0 I0 I.1 hY (wL_load aO G E Dd P Z o hPZ hl0  _ (q_load E Em Dd Dm o hRR hPZ  _ rfl)) kL_146 ⟨rfl, rfl⟩ ⟨Nat.le_trans (by decide) hRr.1, Nat.le_trans (by decide) hRr.2⟩ rfl rfl hl.1 (Nat.le_of_ble_eq_true rfl) hcs dL_law_804 (fun H1 lo1 d1 k u hd1 I1 hΨ => ?_)
  obtain ⟨⟨G2, E2, Dd2, P2, Z2⟩, o2⟩ := u
  obtain ⟨r, h2, hm, h0, hk, hRR2, hPZ2⟩ := hΨ
  replace I1 : sInv D (cT cI cJ cD cS) (lW ac am aO aD cI cJ cD cS) A s H1 lo1 ((G2, E2, Dd2, P2, Z2), (h, Em, Dm), o2, od) := sI_perm I1 lp_J.symm
  refine lv_istore (lv' := [(6, .int k), (0, .ref b), (1, .ref (ac 0)), (2, .ref (am 0)), (3, .ref aO), (4, .ref aD), (5, .int x5)]) hx hb dL_law_807 hl (by decide) rfl (fun ls1 hl1 => ?_)
  refine lv_aload_n hx hb dL_law_809 rfl (lv_at hl1 3 rfl) ?_
  replace I1 : sInv D (cT cI cJ cD cS) (fW ((aO, .inl (cJ, 1, .inr (.inl o2))) :: (aD, .inl (cD, 1, .inr (.inr (.inr (.inl od))))) :: cW ac cI cJ cD cS (G2, E2, Dd2, P2, Z2)) (mW am cI cJ cD)) A s H1 lo1 (h, Em, Dm) := sI_perm I1 lp_M
  refine f_callVi (As := []) F I1 (I1.1.sub [0, 1, 2] rfl) (cM_load h Em Dm  r h2 hm) kL_148 ⟨rfl, rfl⟩ ⟨Nat.le_trans (by decide) hRr.1, Nat.le_trans (by decide) hRr.2⟩ 0 12 rfl rfl rfl rfl rfl hl1.1 (Nat.le_of_ble_eq_true rfl) hcs dL_law_810 (fun H3 lo3 I3 => ?_)
  replace I3 : sInv D (cT cI cJ cD cS) (fW ((aO, .inl (cJ, 1, .inr (.inl o2))) :: (aD, .inl (cD, 1, .inr (.inr (.inr (.inl od))))) :: cW ac cI cJ cD cS (G2, E2, Dd2, P2, Z2)) (mW am cI cJ cD)) A s H3 lo3 (h2, Em, Dm) := I3
  refine lv_istore (lv' := [(7, .int r), (6, .int k), (0, .ref b), (1, .ref (ac 0)), (2, .ref (am 0)), (3, .ref aO), (4, .ref aD), (5, .int x5)]) hx hb dL_law_813 hl1 (by decide) rfl (fun ls2 hl2 => ?_)
  refine lv_aload_n hx hb dL_law_815 rfl (lv_at hl2 4 rfl) ?_
  refine f_callVi (As := []) F I3 (I3.1.sub [0, 1, 2] rfl) (cM_thrown h2 Em Dm k h0.symm) kL_106 ⟨rfl, rfl⟩ ⟨Nat.le_trans (by decide) hRr.1, Nat.le_trans (by decide) hRr.2⟩ 0 12 rfl rfl rfl rfl rfl hl2.1 (Nat.le_of_ble_eq_true rfl) hcs dL_law_816 (fun H4 lo4 I4 => ?_)
  replace I4 : sInv D (cT cI cJ cD cS) (lW ac am aO aD cI cJ cD cS) A s H4 lo4 ((G2, E2, Dd2, P2, Z2), (h2, Em, Dm), o2, od) := sI_perm I4 lp_M.symm
  refine lv_iload hx hb dL_law_819 (lv_at hl2 1 rfl) ?_
  refine lv_icmp_eq (tgt := 826) hx hb dL_law_821 (by decide) (fun _ => ?_) (fun hne => absurd rfl hne)
  refine lv_iload hx hb dL_law_826 (lv_at hl2 1 rfl) ?_
  have hEnd : W p l e R (s.setDrawn d1) m args below meth c H4 lo4 (cells + 2) (slots + 58) Q (F0 m 843 ls2 []) := by
    refine lv_goto (tgt := 1861) hx hb dL_law_843 (by decide) ?_
    exact K H4 lo4 d1 _ ls2 hd1 I4 ⟨hRR2, hPZ2⟩ (lv_sub hl2 [2, 3, 4, 5, 6, 7] rfl)
  refine lv_if_ne (tgt := 843) hx hb dL_law_828 (by decide) (fun _ => hEnd) (fun hk0 => ?_)
  have hv := hk hk0
  refine lv_aload_n hx hb dL_law_831 rfl (lv_at hl2 5 rfl) ?_
  refine lv_iconst (v := 0) hx hb dL_law_832 (by decide) ?_
  refine va_lald hx hb (Idr I4).1 I4.2.1 0 1 rfl rfl in01 dL_law_833 ?_
  refine lv_iload hx hb dL_law_834 (lv_at hl2 0 rfl) ?_
  refine lv_i2l hx hb dL_law_836 rfl ?_
  refine W.lcmp hx hb dL_law_837 ?_
  refine lv_if_eq (tgt := 843) hx hb dL_law_838 (by decide) (fun _ => hEnd) (fun hne => absurd (l_cmp hv) hne)
set_option maxRecDepth 100000 in
set_option maxHeartbeats 4000000 in
theorem lc_count {x5 : Int32} {i : Nat} (C : lCx p l m c s args A b L xs) (hRr : 12 ≤ R.frames ∧ 430 ≤ R.locals) (hcs : cells + 2 ≤ R.cells ∧ slots + 58 ≤ R.slots) (hd0 : s.drawn.sameBut d0 lw_cs) (I : sInv D (cT cI cJ cD cS) (lW ac am aO aD cI cJ cD cS) A s H locs u) (hr : lR u) (hi : i + 5 ≤ L) (hL : L ≤ 2560) (hx5 : x5 = nI i) (hl : lv_has ls 9 [(0, .ref b), (1, .ref (ac 0)), (2, .ref (am 0)), (3, .ref aO), (4, .ref aD), (5, .int x5)]) (K : lK p l e R s m args below meth c D A cells slots Q ac am aO aD cI cJ cD cS b x5) : W p l e R (s.setDrawn d0) m args below meth c H locs cells slots Q (F0 m 846 ls []) := by
  obtain ⟨F, hX, hbl, hbA, hY, hl0⟩ := C
  obtain ⟨hx, hb, hml, hown, hG⟩ := id F
  obtain ⟨⟨G, E, Dd, P, Z⟩, ⟨h, Em, Dm⟩, o, od⟩ := u
  obtain ⟨hRR, hPZ⟩ := hr
  replace hRR : RR G P h := hRR
  replace hPZ : PZ P Z := hPZ
  have in1 : vp_in (x5 + (1 : Int32)) L := l_in (j := 1) hx5 (by omega) hL
  obtain ⟨a0, ea0⟩ : ∃ z : Int32, z = xs (x5 + (1 : Int32)).toNatClampNeg := ⟨_, rfl⟩
  refine lv_aload_n hx hb dL_law_846 rfl (lv_at hl 1 rfl) ?_
  refine lv_aload_n hx hb dL_law_847 rfl (lv_at hl 0 rfl) ?_
  refine lv_iload hx hb dL_law_848 (lv_at hl 5 rfl) ?_
  refine lv_iconst (v := 1) hx hb dL_law_850 (by decide) ?_
  refine lv_iadd hx hb dL_law_851 ?_
  refine l_sld hx hb hX hbl hbA I in1 dL_law_852 ?_
  rw [← ea0]
  refine lv_aload_n hx hb dL_law_853 rfl (lv_at hl 3 rfl) ?_
  have I0 : sInv D (cT cI cJ cD cS) (fW ((aD, .inl (cD, 1, .inr (.inr (.inr (.inl od))))) :: mW am cI cJ cD (h, Em, Dm)) (wJ ac aO cI cJ cD cS)) A s H locs ((G, E, Dd, P, Z), o) := sI_perm I lp_J
  refine f_callSW (As := [.ref (ac 0), .int a0, .ref aO]) F hd0 I0 I.1 hY (wL_count aO G E Dd P Z o hPZ hl0 a0 _ (q_count E Em Dd Dm o hRR hPZ a0 _ rfl)) kL_149 ⟨rfl, rfl⟩ ⟨Nat.le_trans (by decide) hRr.1, Nat.le_trans (by decide) hRr.2⟩ rfl rfl hl.1 (Nat.le_of_ble_eq_true rfl) hcs dL_law_854 (fun H1 lo1 d1 k u hd1 I1 hΨ => ?_)
  obtain ⟨⟨G2, E2, Dd2, P2, Z2⟩, o2⟩ := u
  obtain ⟨r, h2, hm, h0, hk, hRR2, hPZ2⟩ := hΨ
  replace I1 : sInv D (cT cI cJ cD cS) (lW ac am aO aD cI cJ cD cS) A s H1 lo1 ((G2, E2, Dd2, P2, Z2), (h, Em, Dm), o2, od) := sI_perm I1 lp_J.symm
  refine lv_istore (lv' := [(6, .int k), (0, .ref b), (1, .ref (ac 0)), (2, .ref (am 0)), (3, .ref aO), (4, .ref aD), (5, .int x5)]) hx hb dL_law_857 hl (by decide) rfl (fun ls1 hl1 => ?_)
  refine lv_aload_n hx hb dL_law_859 rfl (lv_at hl1 3 rfl) ?_
  refine lv_aload_n hx hb dL_law_860 rfl (lv_at hl1 1 rfl) ?_
  refine lv_iload hx hb dL_law_861 (lv_at hl1 6 rfl) ?_
  refine lv_iconst (v := 1) hx hb dL_law_863 (by decide) ?_
  refine lv_iadd hx hb dL_law_864 ?_
  refine l_sld hx hb hX hbl hbA I1 in1 dL_law_865 ?_
  rw [← ea0]
  replace I1 : sInv D (cT cI cJ cD cS) (fW ((aO, .inl (cJ, 1, .inr (.inl o2))) :: (aD, .inl (cD, 1, .inr (.inr (.inr (.inl od))))) :: cW ac cI cJ cD cS (G2, E2, Dd2, P2, Z2)) (mW am cI cJ cD)) A s H1 lo1 (h, Em, Dm) := sI_perm I1 lp_M
  refine f_callVi (As := [.int a0]) F I1 (I1.1.sub [0, 1, 2] rfl) (cM_count h Em Dm a0 r h2 hm) kL_151 ⟨rfl, rfl⟩ ⟨Nat.le_trans (by decide) hRr.1, Nat.le_trans (by decide) hRr.2⟩ 0 12 rfl rfl rfl rfl rfl hl1.1 (Nat.le_of_ble_eq_true rfl) hcs dL_law_866 (fun H3 lo3 I3 => ?_)
  replace I3 : sInv D (cT cI cJ cD cS) (fW ((aO, .inl (cJ, 1, .inr (.inl o2))) :: (aD, .inl (cD, 1, .inr (.inr (.inr (.inl od))))) :: cW ac cI cJ cD cS (G2, E2, Dd2, P2, Z2)) (mW am cI cJ cD)) A s H3 lo3 (h2, Em, Dm) := I3
  refine lv_istore (lv' := [(7, .int r), (6, .int k), (0, .ref b), (1, .ref (ac 0)), (2, .ref (am 0)), (3, .ref aO), (4, .ref aD), (5, .int x5)]) hx hb dL_law_869 hl1 (by decide) rfl (fun ls2 hl2 => ?_)
  refine lv_aload_n hx hb dL_law_871 rfl (lv_at hl2 4 rfl) ?_
  refine f_callVi (As := []) F I3 (I3.1.sub [0, 1, 2] rfl) (cM_thrown h2 Em Dm k h0.symm) kL_106 ⟨rfl, rfl⟩ ⟨Nat.le_trans (by decide) hRr.1, Nat.le_trans (by decide) hRr.2⟩ 0 12 rfl rfl rfl rfl rfl hl2.1 (Nat.le_of_ble_eq_true rfl) hcs dL_law_872 (fun H4 lo4 I4 => ?_)
  replace I4 : sInv D (cT cI cJ cD cS) (lW ac am aO aD cI cJ cD cS) A s H4 lo4 ((G2, E2, Dd2, P2, Z2), (h2, Em, Dm), o2, od) := sI_perm I4 lp_M.symm
  refine lv_iload hx hb dL_law_875 (lv_at hl2 1 rfl) ?_
  refine lv_icmp_eq (tgt := 882) hx hb dL_law_877 (by decide) (fun _ => ?_) (fun hne => absurd rfl hne)
  refine lv_iload hx hb dL_law_882 (lv_at hl2 1 rfl) ?_
  have hEnd : W p l e R (s.setDrawn d1) m args below meth c H4 lo4 (cells + 2) (slots + 58) Q (F0 m 899 ls2 []) := by
    refine lv_goto (tgt := 1861) hx hb dL_law_899 (by decide) ?_
    exact K H4 lo4 d1 _ ls2 hd1 I4 ⟨hRR2, hPZ2⟩ (lv_sub hl2 [2, 3, 4, 5, 6, 7] rfl)
  refine lv_if_ne (tgt := 899) hx hb dL_law_884 (by decide) (fun _ => hEnd) (fun hk0 => ?_)
  have hv := hk hk0
  refine lv_aload_n hx hb dL_law_887 rfl (lv_at hl2 5 rfl) ?_
  refine lv_iconst (v := 0) hx hb dL_law_888 (by decide) ?_
  refine va_lald hx hb (Idr I4).1 I4.2.1 0 1 rfl rfl in01 dL_law_889 ?_
  refine lv_iload hx hb dL_law_890 (lv_at hl2 0 rfl) ?_
  refine lv_i2l hx hb dL_law_892 rfl ?_
  refine W.lcmp hx hb dL_law_893 ?_
  refine lv_if_eq (tgt := 899) hx hb dL_law_894 (by decide) (fun _ => hEnd) (fun hne => absurd (l_cmp hv) hne)
set_option maxRecDepth 100000 in
set_option maxHeartbeats 4000000 in
theorem lc_comparison {x5 : Int32} {i : Nat} (C : lCx p l m c s args A b L xs) (hRr : 12 ≤ R.frames ∧ 430 ≤ R.locals) (hcs : cells + 2 ≤ R.cells ∧ slots + 58 ≤ R.slots) (hd0 : s.drawn.sameBut d0 lw_cs) (I : sInv D (cT cI cJ cD cS) (lW ac am aO aD cI cJ cD cS) A s H locs u) (hr : lR u) (hi : i + 5 ≤ L) (hL : L ≤ 2560) (hx5 : x5 = nI i) (hl : lv_has ls 9 [(0, .ref b), (1, .ref (ac 0)), (2, .ref (am 0)), (3, .ref aO), (4, .ref aD), (5, .int x5)]) (K : lK p l e R s m args below meth c D A cells slots Q ac am aO aD cI cJ cD cS b x5) : W p l e R (s.setDrawn d0) m args below meth c H locs cells slots Q (F0 m 902 ls []) := by
  obtain ⟨F, hX, hbl, hbA, hY, hl0⟩ := C
  obtain ⟨hx, hb, hml, hown, hG⟩ := id F
  obtain ⟨⟨G, E, Dd, P, Z⟩, ⟨h, Em, Dm⟩, o, od⟩ := u
  obtain ⟨hRR, hPZ⟩ := hr
  replace hRR : RR G P h := hRR
  replace hPZ : PZ P Z := hPZ
  have in1 : vp_in (x5 + (1 : Int32)) L := l_in (j := 1) hx5 (by omega) hL
  obtain ⟨a0, ea0⟩ : ∃ z : Int32, z = xs (x5 + (1 : Int32)).toNatClampNeg := ⟨_, rfl⟩
  have in2 : vp_in (x5 + (2 : Int32)) L := l_in (j := 2) hx5 (by omega) hL
  obtain ⟨a1, ea1⟩ : ∃ z : Int32, z = xs (x5 + (2 : Int32)).toNatClampNeg := ⟨_, rfl⟩
  refine lv_aload_n hx hb dL_law_902 rfl (lv_at hl 1 rfl) ?_
  refine lv_aload_n hx hb dL_law_903 rfl (lv_at hl 0 rfl) ?_
  refine lv_iload hx hb dL_law_904 (lv_at hl 5 rfl) ?_
  refine lv_iconst (v := 1) hx hb dL_law_906 (by decide) ?_
  refine lv_iadd hx hb dL_law_907 ?_
  refine l_sld hx hb hX hbl hbA I in1 dL_law_908 ?_
  rw [← ea0]
  refine lv_aload_n hx hb dL_law_909 rfl (lv_at hl 0 rfl) ?_
  refine lv_iload hx hb dL_law_910 (lv_at hl 5 rfl) ?_
  refine lv_iconst (v := 2) hx hb dL_law_912 (by decide) ?_
  refine lv_iadd hx hb dL_law_913 ?_
  refine l_sld hx hb hX hbl hbA I in2 dL_law_914 ?_
  rw [← ea1]
  refine lv_aload_n hx hb dL_law_915 rfl (lv_at hl 3 rfl) ?_
  have I0 : sInv D (cT cI cJ cD cS) (fW ((aD, .inl (cD, 1, .inr (.inr (.inr (.inl od))))) :: mW am cI cJ cD (h, Em, Dm)) (wJ ac aO cI cJ cD cS)) A s H locs ((G, E, Dd, P, Z), o) := sI_perm I lp_J
  refine f_callSW (As := [.ref (ac 0), .int a0, .int a1, .ref aO]) F hd0 I0 I.1 hY (wL_comparison aO G E Dd P Z o hPZ hl0 a0 a1 _ (q_comparison E Em Dd Dm o hRR hPZ a0 a1 _ rfl)) kL_152 ⟨rfl, rfl⟩ ⟨Nat.le_trans (by decide) hRr.1, Nat.le_trans (by decide) hRr.2⟩ rfl rfl hl.1 (Nat.le_of_ble_eq_true rfl) hcs dL_law_916 (fun H1 lo1 d1 k u hd1 I1 hΨ => ?_)
  obtain ⟨⟨G2, E2, Dd2, P2, Z2⟩, o2⟩ := u
  obtain ⟨r, h2, hm, h0, hk, hRR2, hPZ2⟩ := hΨ
  replace I1 : sInv D (cT cI cJ cD cS) (lW ac am aO aD cI cJ cD cS) A s H1 lo1 ((G2, E2, Dd2, P2, Z2), (h, Em, Dm), o2, od) := sI_perm I1 lp_J.symm
  refine lv_istore (lv' := [(6, .int k), (0, .ref b), (1, .ref (ac 0)), (2, .ref (am 0)), (3, .ref aO), (4, .ref aD), (5, .int x5)]) hx hb dL_law_919 hl (by decide) rfl (fun ls1 hl1 => ?_)
  refine lv_aload_n hx hb dL_law_921 rfl (lv_at hl1 3 rfl) ?_
  refine lv_aload_n hx hb dL_law_922 rfl (lv_at hl1 1 rfl) ?_
  refine lv_iload hx hb dL_law_923 (lv_at hl1 6 rfl) ?_
  refine lv_iconst (v := 1) hx hb dL_law_925 (by decide) ?_
  refine lv_iadd hx hb dL_law_926 ?_
  refine l_sld hx hb hX hbl hbA I1 in1 dL_law_927 ?_
  rw [← ea0]
  refine lv_aload_n hx hb dL_law_928 rfl (lv_at hl1 1 rfl) ?_
  refine lv_iload hx hb dL_law_929 (lv_at hl1 6 rfl) ?_
  refine lv_iconst (v := 2) hx hb dL_law_931 (by decide) ?_
  refine lv_iadd hx hb dL_law_932 ?_
  refine l_sld hx hb hX hbl hbA I1 in2 dL_law_933 ?_
  rw [← ea1]
  replace I1 : sInv D (cT cI cJ cD cS) (fW ((aO, .inl (cJ, 1, .inr (.inl o2))) :: (aD, .inl (cD, 1, .inr (.inr (.inr (.inl od))))) :: cW ac cI cJ cD cS (G2, E2, Dd2, P2, Z2)) (mW am cI cJ cD)) A s H1 lo1 (h, Em, Dm) := sI_perm I1 lp_M
  refine f_callVi (As := [.int a0, .int a1]) F I1 (I1.1.sub [0, 1, 2] rfl) (cM_comparison h Em Dm a0 a1 r h2 hm) kL_154 ⟨rfl, rfl⟩ ⟨Nat.le_trans (by decide) hRr.1, Nat.le_trans (by decide) hRr.2⟩ 0 12 rfl rfl rfl rfl rfl hl1.1 (Nat.le_of_ble_eq_true rfl) hcs dL_law_934 (fun H3 lo3 I3 => ?_)
  replace I3 : sInv D (cT cI cJ cD cS) (fW ((aO, .inl (cJ, 1, .inr (.inl o2))) :: (aD, .inl (cD, 1, .inr (.inr (.inr (.inl od))))) :: cW ac cI cJ cD cS (G2, E2, Dd2, P2, Z2)) (mW am cI cJ cD)) A s H3 lo3 (h2, Em, Dm) := I3
  refine lv_istore (lv' := [(7, .int r), (6, .int k), (0, .ref b), (1, .ref (ac 0)), (2, .ref (am 0)), (3, .ref aO), (4, .ref aD), (5, .int x5)]) hx hb dL_law_937 hl1 (by decide) rfl (fun ls2 hl2 => ?_)
  refine lv_aload_n hx hb dL_law_939 rfl (lv_at hl2 4 rfl) ?_
  refine f_callVi (As := []) F I3 (I3.1.sub [0, 1, 2] rfl) (cM_thrown h2 Em Dm k h0.symm) kL_106 ⟨rfl, rfl⟩ ⟨Nat.le_trans (by decide) hRr.1, Nat.le_trans (by decide) hRr.2⟩ 0 12 rfl rfl rfl rfl rfl hl2.1 (Nat.le_of_ble_eq_true rfl) hcs dL_law_940 (fun H4 lo4 I4 => ?_)
  replace I4 : sInv D (cT cI cJ cD cS) (lW ac am aO aD cI cJ cD cS) A s H4 lo4 ((G2, E2, Dd2, P2, Z2), (h2, Em, Dm), o2, od) := sI_perm I4 lp_M.symm
  refine lv_iload hx hb dL_law_943 (lv_at hl2 1 rfl) ?_
  refine lv_icmp_eq (tgt := 950) hx hb dL_law_945 (by decide) (fun _ => ?_) (fun hne => absurd rfl hne)
  refine lv_iload hx hb dL_law_950 (lv_at hl2 1 rfl) ?_
  have hEnd : W p l e R (s.setDrawn d1) m args below meth c H4 lo4 (cells + 2) (slots + 58) Q (F0 m 967 ls2 []) := by
    refine lv_goto (tgt := 1861) hx hb dL_law_967 (by decide) ?_
    exact K H4 lo4 d1 _ ls2 hd1 I4 ⟨hRR2, hPZ2⟩ (lv_sub hl2 [2, 3, 4, 5, 6, 7] rfl)
  refine lv_if_ne (tgt := 967) hx hb dL_law_952 (by decide) (fun _ => hEnd) (fun hk0 => ?_)
  have hv := hk hk0
  refine lv_aload_n hx hb dL_law_955 rfl (lv_at hl2 5 rfl) ?_
  refine lv_iconst (v := 0) hx hb dL_law_956 (by decide) ?_
  refine va_lald hx hb (Idr I4).1 I4.2.1 0 1 rfl rfl in01 dL_law_957 ?_
  refine lv_iload hx hb dL_law_958 (lv_at hl2 0 rfl) ?_
  refine lv_i2l hx hb dL_law_960 rfl ?_
  refine W.lcmp hx hb dL_law_961 ?_
  refine lv_if_eq (tgt := 967) hx hb dL_law_962 (by decide) (fun _ => hEnd) (fun hne => absurd (l_cmp hv) hne)
set_option maxRecDepth 100000 in
set_option maxHeartbeats 4000000 in
theorem lc_result {x5 : Int32} {i : Nat} (C : lCx p l m c s args A b L xs) (hRr : 12 ≤ R.frames ∧ 430 ≤ R.locals) (hcs : cells + 2 ≤ R.cells ∧ slots + 58 ≤ R.slots) (hd0 : s.drawn.sameBut d0 lw_cs) (I : sInv D (cT cI cJ cD cS) (lW ac am aO aD cI cJ cD cS) A s H locs u) (hr : lR u) (hi : i + 5 ≤ L) (hL : L ≤ 2560) (hx5 : x5 = nI i) (hl : lv_has ls 9 [(0, .ref b), (1, .ref (ac 0)), (2, .ref (am 0)), (3, .ref aO), (4, .ref aD), (5, .int x5)]) (K : lK p l e R s m args below meth c D A cells slots Q ac am aO aD cI cJ cD cS b x5) : W p l e R (s.setDrawn d0) m args below meth c H locs cells slots Q (F0 m 970 ls []) := by
  obtain ⟨F, hX, hbl, hbA, hY, hl0⟩ := C
  obtain ⟨hx, hb, hml, hown, hG⟩ := id F
  obtain ⟨⟨G, E, Dd, P, Z⟩, ⟨h, Em, Dm⟩, o, od⟩ := u
  obtain ⟨hRR, hPZ⟩ := hr
  replace hRR : RR G P h := hRR
  replace hPZ : PZ P Z := hPZ
  have in1 : vp_in (x5 + (1 : Int32)) L := l_in (j := 1) hx5 (by omega) hL
  obtain ⟨a0, ea0⟩ : ∃ z : Int32, z = xs (x5 + (1 : Int32)).toNatClampNeg := ⟨_, rfl⟩
  have in2 : vp_in (x5 + (2 : Int32)) L := l_in (j := 2) hx5 (by omega) hL
  obtain ⟨a1, ea1⟩ : ∃ z : Int32, z = xs (x5 + (2 : Int32)).toNatClampNeg := ⟨_, rfl⟩
  have in3 : vp_in (x5 + (3 : Int32)) L := l_in (j := 3) hx5 (by omega) hL
  obtain ⟨a2, ea2⟩ : ∃ z : Int32, z = xs (x5 + (3 : Int32)).toNatClampNeg := ⟨_, rfl⟩
  refine lv_aload_n hx hb dL_law_970 rfl (lv_at hl 1 rfl) ?_
  refine lv_aload_n hx hb dL_law_971 rfl (lv_at hl 0 rfl) ?_
  refine lv_iload hx hb dL_law_972 (lv_at hl 5 rfl) ?_
  refine lv_iconst (v := 1) hx hb dL_law_974 (by decide) ?_
  refine lv_iadd hx hb dL_law_975 ?_
  refine l_sld hx hb hX hbl hbA I in1 dL_law_976 ?_
  rw [← ea0]
  refine lv_aload_n hx hb dL_law_977 rfl (lv_at hl 0 rfl) ?_
  refine lv_iload hx hb dL_law_978 (lv_at hl 5 rfl) ?_
  refine lv_iconst (v := 2) hx hb dL_law_980 (by decide) ?_
  refine lv_iadd hx hb dL_law_981 ?_
  refine l_sld hx hb hX hbl hbA I in2 dL_law_982 ?_
  rw [← ea1]
  refine lv_aload_n hx hb dL_law_983 rfl (lv_at hl 0 rfl) ?_
  refine lv_iload hx hb dL_law_984 (lv_at hl 5 rfl) ?_
  refine lv_iconst (v := 3) hx hb dL_law_986 (by decide) ?_
  refine lv_iadd hx hb dL_law_987 ?_
  refine l_sld hx hb hX hbl hbA I in3 dL_law_988 ?_
  rw [← ea2]
  refine lv_aload_n hx hb dL_law_989 rfl (lv_at hl 3 rfl) ?_
  have I0 : sInv D (cT cI cJ cD cS) (fW ((aD, .inl (cD, 1, .inr (.inr (.inr (.inl od))))) :: mW am cI cJ cD (h, Em, Dm)) (wJ ac aO cI cJ cD cS)) A s H locs ((G, E, Dd, P, Z), o) := sI_perm I lp_J
  refine f_callSW (As := [.ref (ac 0), .int a0, .int a1, .int a2, .ref aO]) F hd0 I0 I.1 hY (wL_result aO G E Dd P Z o hPZ hl0 a0 a1 a2 _ (q_result E Em Dd Dm o hRR hPZ a0 a1 a2 _ rfl)) kL_155 ⟨rfl, rfl⟩ ⟨Nat.le_trans (by decide) hRr.1, Nat.le_trans (by decide) hRr.2⟩ rfl rfl hl.1 (Nat.le_of_ble_eq_true rfl) hcs dL_law_990 (fun H1 lo1 d1 k u hd1 I1 hΨ => ?_)
  obtain ⟨⟨G2, E2, Dd2, P2, Z2⟩, o2⟩ := u
  obtain ⟨r, h2, hm, h0, hk, hRR2, hPZ2⟩ := hΨ
  replace I1 : sInv D (cT cI cJ cD cS) (lW ac am aO aD cI cJ cD cS) A s H1 lo1 ((G2, E2, Dd2, P2, Z2), (h, Em, Dm), o2, od) := sI_perm I1 lp_J.symm
  refine lv_istore (lv' := [(6, .int k), (0, .ref b), (1, .ref (ac 0)), (2, .ref (am 0)), (3, .ref aO), (4, .ref aD), (5, .int x5)]) hx hb dL_law_993 hl (by decide) rfl (fun ls1 hl1 => ?_)
  refine lv_aload_n hx hb dL_law_995 rfl (lv_at hl1 3 rfl) ?_
  refine lv_aload_n hx hb dL_law_996 rfl (lv_at hl1 1 rfl) ?_
  refine lv_iload hx hb dL_law_997 (lv_at hl1 6 rfl) ?_
  refine lv_iconst (v := 1) hx hb dL_law_999 (by decide) ?_
  refine lv_iadd hx hb dL_law_1000 ?_
  refine l_sld hx hb hX hbl hbA I1 in1 dL_law_1001 ?_
  rw [← ea0]
  refine lv_aload_n hx hb dL_law_1002 rfl (lv_at hl1 1 rfl) ?_
  refine lv_iload hx hb dL_law_1003 (lv_at hl1 6 rfl) ?_
  refine lv_iconst (v := 2) hx hb dL_law_1005 (by decide) ?_
  refine lv_iadd hx hb dL_law_1006 ?_
  refine l_sld hx hb hX hbl hbA I1 in2 dL_law_1007 ?_
  rw [← ea1]
  refine lv_aload_n hx hb dL_law_1008 rfl (lv_at hl1 1 rfl) ?_
  refine lv_iload hx hb dL_law_1009 (lv_at hl1 6 rfl) ?_
  refine lv_iconst (v := 3) hx hb dL_law_1011 (by decide) ?_
  refine lv_iadd hx hb dL_law_1012 ?_
  refine l_sld hx hb hX hbl hbA I1 in3 dL_law_1013 ?_
  rw [← ea2]
  replace I1 : sInv D (cT cI cJ cD cS) (fW ((aO, .inl (cJ, 1, .inr (.inl o2))) :: (aD, .inl (cD, 1, .inr (.inr (.inr (.inl od))))) :: cW ac cI cJ cD cS (G2, E2, Dd2, P2, Z2)) (mW am cI cJ cD)) A s H1 lo1 (h, Em, Dm) := sI_perm I1 lp_M
  refine f_callVi (As := [.int a0, .int a1, .int a2]) F I1 (I1.1.sub [0, 1, 2] rfl) (cM_result h Em Dm a0 a1 a2 r h2 hm) kL_157 ⟨rfl, rfl⟩ ⟨Nat.le_trans (by decide) hRr.1, Nat.le_trans (by decide) hRr.2⟩ 0 12 rfl rfl rfl rfl rfl hl1.1 (Nat.le_of_ble_eq_true rfl) hcs dL_law_1014 (fun H3 lo3 I3 => ?_)
  replace I3 : sInv D (cT cI cJ cD cS) (fW ((aO, .inl (cJ, 1, .inr (.inl o2))) :: (aD, .inl (cD, 1, .inr (.inr (.inr (.inl od))))) :: cW ac cI cJ cD cS (G2, E2, Dd2, P2, Z2)) (mW am cI cJ cD)) A s H3 lo3 (h2, Em, Dm) := I3
  refine lv_istore (lv' := [(7, .int r), (6, .int k), (0, .ref b), (1, .ref (ac 0)), (2, .ref (am 0)), (3, .ref aO), (4, .ref aD), (5, .int x5)]) hx hb dL_law_1017 hl1 (by decide) rfl (fun ls2 hl2 => ?_)
  refine lv_aload_n hx hb dL_law_1019 rfl (lv_at hl2 4 rfl) ?_
  refine f_callVi (As := []) F I3 (I3.1.sub [0, 1, 2] rfl) (cM_thrown h2 Em Dm k h0.symm) kL_106 ⟨rfl, rfl⟩ ⟨Nat.le_trans (by decide) hRr.1, Nat.le_trans (by decide) hRr.2⟩ 0 12 rfl rfl rfl rfl rfl hl2.1 (Nat.le_of_ble_eq_true rfl) hcs dL_law_1020 (fun H4 lo4 I4 => ?_)
  replace I4 : sInv D (cT cI cJ cD cS) (lW ac am aO aD cI cJ cD cS) A s H4 lo4 ((G2, E2, Dd2, P2, Z2), (h2, Em, Dm), o2, od) := sI_perm I4 lp_M.symm
  refine lv_iload hx hb dL_law_1023 (lv_at hl2 1 rfl) ?_
  refine lv_icmp_eq (tgt := 1030) hx hb dL_law_1025 (by decide) (fun _ => ?_) (fun hne => absurd rfl hne)
  refine lv_iload hx hb dL_law_1030 (lv_at hl2 1 rfl) ?_
  have hEnd : W p l e R (s.setDrawn d1) m args below meth c H4 lo4 (cells + 2) (slots + 58) Q (F0 m 1047 ls2 []) := by
    refine lv_goto (tgt := 1861) hx hb dL_law_1047 (by decide) ?_
    exact K H4 lo4 d1 _ ls2 hd1 I4 ⟨hRR2, hPZ2⟩ (lv_sub hl2 [2, 3, 4, 5, 6, 7] rfl)
  refine lv_if_ne (tgt := 1047) hx hb dL_law_1032 (by decide) (fun _ => hEnd) (fun hk0 => ?_)
  have hv := hk hk0
  refine lv_aload_n hx hb dL_law_1035 rfl (lv_at hl2 5 rfl) ?_
  refine lv_iconst (v := 0) hx hb dL_law_1036 (by decide) ?_
  refine va_lald hx hb (Idr I4).1 I4.2.1 0 1 rfl rfl in01 dL_law_1037 ?_
  refine lv_iload hx hb dL_law_1038 (lv_at hl2 0 rfl) ?_
  refine lv_i2l hx hb dL_law_1040 rfl ?_
  refine W.lcmp hx hb dL_law_1041 ?_
  refine lv_if_eq (tgt := 1047) hx hb dL_law_1042 (by decide) (fun _ => hEnd) (fun hne => absurd (l_cmp hv) hne)
set_option maxRecDepth 100000 in
set_option maxHeartbeats 4000000 in
theorem lc_sample {x5 : Int32} {i : Nat} (C : lCx p l m c s args A b L xs) (hRr : 12 ≤ R.frames ∧ 430 ≤ R.locals) (hcs : cells + 2 ≤ R.cells ∧ slots + 58 ≤ R.slots) (hd0 : s.drawn.sameBut d0 lw_cs) (I : sInv D (cT cI cJ cD cS) (lW ac am aO aD cI cJ cD cS) A s H locs u) (hr : lR u) (hi : i + 5 ≤ L) (hL : L ≤ 2560) (hx5 : x5 = nI i) (hl : lv_has ls 9 [(0, .ref b), (1, .ref (ac 0)), (2, .ref (am 0)), (3, .ref aO), (4, .ref aD), (5, .int x5)]) (K : lK p l e R s m args below meth c D A cells slots Q ac am aO aD cI cJ cD cS b x5) : W p l e R (s.setDrawn d0) m args below meth c H locs cells slots Q (F0 m 1050 ls []) := by
  obtain ⟨F, hX, hbl, hbA, hY, hl0⟩ := C
  obtain ⟨hx, hb, hml, hown, hG⟩ := id F
  obtain ⟨⟨G, E, Dd, P, Z⟩, ⟨h, Em, Dm⟩, o, od⟩ := u
  obtain ⟨hRR, hPZ⟩ := hr
  replace hRR : RR G P h := hRR
  replace hPZ : PZ P Z := hPZ
  have in1 : vp_in (x5 + (1 : Int32)) L := l_in (j := 1) hx5 (by omega) hL
  obtain ⟨a0, ea0⟩ : ∃ z : Int32, z = xs (x5 + (1 : Int32)).toNatClampNeg := ⟨_, rfl⟩
  have in2 : vp_in (x5 + (2 : Int32)) L := l_in (j := 2) hx5 (by omega) hL
  obtain ⟨a1, ea1⟩ : ∃ z : Int32, z = xs (x5 + (2 : Int32)).toNatClampNeg := ⟨_, rfl⟩
  refine lv_aload_n hx hb dL_law_1050 rfl (lv_at hl 1 rfl) ?_
  refine lv_aload_n hx hb dL_law_1051 rfl (lv_at hl 0 rfl) ?_
  refine lv_iload hx hb dL_law_1052 (lv_at hl 5 rfl) ?_
  refine lv_iconst (v := 1) hx hb dL_law_1054 (by decide) ?_
  refine lv_iadd hx hb dL_law_1055 ?_
  refine l_sld hx hb hX hbl hbA I in1 dL_law_1056 ?_
  rw [← ea0]
  refine lv_aload_n hx hb dL_law_1057 rfl (lv_at hl 0 rfl) ?_
  refine lv_iload hx hb dL_law_1058 (lv_at hl 5 rfl) ?_
  refine lv_iconst (v := 2) hx hb dL_law_1060 (by decide) ?_
  refine lv_iadd hx hb dL_law_1061 ?_
  refine l_sld hx hb hX hbl hbA I in2 dL_law_1062 ?_
  rw [← ea1]
  refine lv_aload_n hx hb dL_law_1063 rfl (lv_at hl 3 rfl) ?_
  have I0 : sInv D (cT cI cJ cD cS) (fW ((aD, .inl (cD, 1, .inr (.inr (.inr (.inl od))))) :: mW am cI cJ cD (h, Em, Dm)) (wJ ac aO cI cJ cD cS)) A s H locs ((G, E, Dd, P, Z), o) := sI_perm I lp_J
  refine f_callSW (As := [.ref (ac 0), .int a0, .int a1, .ref aO]) F hd0 I0 I.1 hY (wL_sample aO G E Dd P Z o hPZ hl0 a0 a1 _ (q_sample E Em Dd Dm o hRR hPZ a0 a1 _ rfl)) kL_158 ⟨rfl, rfl⟩ ⟨Nat.le_trans (by decide) hRr.1, Nat.le_trans (by decide) hRr.2⟩ rfl rfl hl.1 (Nat.le_of_ble_eq_true rfl) hcs dL_law_1064 (fun H1 lo1 d1 k u hd1 I1 hΨ => ?_)
  obtain ⟨⟨G2, E2, Dd2, P2, Z2⟩, o2⟩ := u
  obtain ⟨r, h2, hm, h0, hk, hRR2, hPZ2⟩ := hΨ
  replace I1 : sInv D (cT cI cJ cD cS) (lW ac am aO aD cI cJ cD cS) A s H1 lo1 ((G2, E2, Dd2, P2, Z2), (h, Em, Dm), o2, od) := sI_perm I1 lp_J.symm
  refine lv_istore (lv' := [(6, .int k), (0, .ref b), (1, .ref (ac 0)), (2, .ref (am 0)), (3, .ref aO), (4, .ref aD), (5, .int x5)]) hx hb dL_law_1067 hl (by decide) rfl (fun ls1 hl1 => ?_)
  refine lv_aload_n hx hb dL_law_1069 rfl (lv_at hl1 3 rfl) ?_
  refine lv_aload_n hx hb dL_law_1070 rfl (lv_at hl1 1 rfl) ?_
  refine lv_iload hx hb dL_law_1071 (lv_at hl1 6 rfl) ?_
  refine lv_iconst (v := 1) hx hb dL_law_1073 (by decide) ?_
  refine lv_iadd hx hb dL_law_1074 ?_
  refine l_sld hx hb hX hbl hbA I1 in1 dL_law_1075 ?_
  rw [← ea0]
  refine lv_aload_n hx hb dL_law_1076 rfl (lv_at hl1 1 rfl) ?_
  refine lv_iload hx hb dL_law_1077 (lv_at hl1 6 rfl) ?_
  refine lv_iconst (v := 2) hx hb dL_law_1079 (by decide) ?_
  refine lv_iadd hx hb dL_law_1080 ?_
  refine l_sld hx hb hX hbl hbA I1 in2 dL_law_1081 ?_
  rw [← ea1]
  replace I1 : sInv D (cT cI cJ cD cS) (fW ((aO, .inl (cJ, 1, .inr (.inl o2))) :: (aD, .inl (cD, 1, .inr (.inr (.inr (.inl od))))) :: cW ac cI cJ cD cS (G2, E2, Dd2, P2, Z2)) (mW am cI cJ cD)) A s H1 lo1 (h, Em, Dm) := sI_perm I1 lp_M
  refine f_callVi (As := [.int a0, .int a1]) F I1 (I1.1.sub [0, 1, 2] rfl) (cM_sample h Em Dm a0 a1 r h2 hm) kL_160 ⟨rfl, rfl⟩ ⟨Nat.le_trans (by decide) hRr.1, Nat.le_trans (by decide) hRr.2⟩ 0 12 rfl rfl rfl rfl rfl hl1.1 (Nat.le_of_ble_eq_true rfl) hcs dL_law_1082 (fun H3 lo3 I3 => ?_)
  replace I3 : sInv D (cT cI cJ cD cS) (fW ((aO, .inl (cJ, 1, .inr (.inl o2))) :: (aD, .inl (cD, 1, .inr (.inr (.inr (.inl od))))) :: cW ac cI cJ cD cS (G2, E2, Dd2, P2, Z2)) (mW am cI cJ cD)) A s H3 lo3 (h2, Em, Dm) := I3
  refine lv_istore (lv' := [(7, .int r), (6, .int k), (0, .ref b), (1, .ref (ac 0)), (2, .ref (am 0)), (3, .ref aO), (4, .ref aD), (5, .int x5)]) hx hb dL_law_1085 hl1 (by decide) rfl (fun ls2 hl2 => ?_)
  refine lv_aload_n hx hb dL_law_1087 rfl (lv_at hl2 4 rfl) ?_
  refine f_callVi (As := []) F I3 (I3.1.sub [0, 1, 2] rfl) (cM_thrown h2 Em Dm k h0.symm) kL_106 ⟨rfl, rfl⟩ ⟨Nat.le_trans (by decide) hRr.1, Nat.le_trans (by decide) hRr.2⟩ 0 12 rfl rfl rfl rfl rfl hl2.1 (Nat.le_of_ble_eq_true rfl) hcs dL_law_1088 (fun H4 lo4 I4 => ?_)
  replace I4 : sInv D (cT cI cJ cD cS) (lW ac am aO aD cI cJ cD cS) A s H4 lo4 ((G2, E2, Dd2, P2, Z2), (h2, Em, Dm), o2, od) := sI_perm I4 lp_M.symm
  refine lv_iload hx hb dL_law_1091 (lv_at hl2 1 rfl) ?_
  refine lv_icmp_eq (tgt := 1098) hx hb dL_law_1093 (by decide) (fun _ => ?_) (fun hne => absurd rfl hne)
  refine lv_iload hx hb dL_law_1098 (lv_at hl2 1 rfl) ?_
  have hEnd : W p l e R (s.setDrawn d1) m args below meth c H4 lo4 (cells + 2) (slots + 58) Q (F0 m 1115 ls2 []) := by
    refine lv_goto (tgt := 1861) hx hb dL_law_1115 (by decide) ?_
    exact K H4 lo4 d1 _ ls2 hd1 I4 ⟨hRR2, hPZ2⟩ (lv_sub hl2 [2, 3, 4, 5, 6, 7] rfl)
  refine lv_if_ne (tgt := 1115) hx hb dL_law_1100 (by decide) (fun _ => hEnd) (fun hk0 => ?_)
  have hv := hk hk0
  refine lv_aload_n hx hb dL_law_1103 rfl (lv_at hl2 5 rfl) ?_
  refine lv_iconst (v := 0) hx hb dL_law_1104 (by decide) ?_
  refine va_lald hx hb (Idr I4).1 I4.2.1 0 1 rfl rfl in01 dL_law_1105 ?_
  refine lv_iload hx hb dL_law_1106 (lv_at hl2 0 rfl) ?_
  refine lv_i2l hx hb dL_law_1108 rfl ?_
  refine W.lcmp hx hb dL_law_1109 ?_
  refine lv_if_eq (tgt := 1115) hx hb dL_law_1110 (by decide) (fun _ => hEnd) (fun hne => absurd (l_cmp hv) hne)
set_option maxRecDepth 100000 in
set_option maxHeartbeats 4000000 in
theorem lc_order {x5 : Int32} {i : Nat} (C : lCx p l m c s args A b L xs) (hRr : 12 ≤ R.frames ∧ 430 ≤ R.locals) (hcs : cells + 2 ≤ R.cells ∧ slots + 58 ≤ R.slots) (hd0 : s.drawn.sameBut d0 lw_cs) (I : sInv D (cT cI cJ cD cS) (lW ac am aO aD cI cJ cD cS) A s H locs u) (hr : lR u) (hi : i + 5 ≤ L) (hL : L ≤ 2560) (hx5 : x5 = nI i) (hl : lv_has ls 9 [(0, .ref b), (1, .ref (ac 0)), (2, .ref (am 0)), (3, .ref aO), (4, .ref aD), (5, .int x5)]) (K : lK p l e R s m args below meth c D A cells slots Q ac am aO aD cI cJ cD cS b x5) : W p l e R (s.setDrawn d0) m args below meth c H locs cells slots Q (F0 m 1118 ls []) := by
  obtain ⟨F, hX, hbl, hbA, hY, hl0⟩ := C
  obtain ⟨hx, hb, hml, hown, hG⟩ := id F
  obtain ⟨⟨G, E, Dd, P, Z⟩, ⟨h, Em, Dm⟩, o, od⟩ := u
  obtain ⟨hRR, hPZ⟩ := hr
  replace hRR : RR G P h := hRR
  replace hPZ : PZ P Z := hPZ
  have in1 : vp_in (x5 + (1 : Int32)) L := l_in (j := 1) hx5 (by omega) hL
  obtain ⟨a0, ea0⟩ : ∃ z : Int32, z = xs (x5 + (1 : Int32)).toNatClampNeg := ⟨_, rfl⟩
  refine lv_aload_n hx hb dL_law_1118 rfl (lv_at hl 1 rfl) ?_
  refine lv_aload_n hx hb dL_law_1119 rfl (lv_at hl 0 rfl) ?_
  refine lv_iload hx hb dL_law_1120 (lv_at hl 5 rfl) ?_
  refine lv_iconst (v := 1) hx hb dL_law_1122 (by decide) ?_
  refine lv_iadd hx hb dL_law_1123 ?_
  refine l_sld hx hb hX hbl hbA I in1 dL_law_1124 ?_
  rw [← ea0]
  refine lv_aload_n hx hb dL_law_1125 rfl (lv_at hl 3 rfl) ?_
  have I0 : sInv D (cT cI cJ cD cS) (fW ((aD, .inl (cD, 1, .inr (.inr (.inr (.inl od))))) :: mW am cI cJ cD (h, Em, Dm)) (wJ ac aO cI cJ cD cS)) A s H locs ((G, E, Dd, P, Z), o) := sI_perm I lp_J
  refine f_callSW (As := [.ref (ac 0), .int a0, .ref aO]) F hd0 I0 I.1 hY (wL_order aO G E Dd P Z o hPZ hl0 a0 _ (q_order E Em Dd Dm o hRR hPZ a0 _ rfl)) kL_161 ⟨rfl, rfl⟩ ⟨Nat.le_trans (by decide) hRr.1, Nat.le_trans (by decide) hRr.2⟩ rfl rfl hl.1 (Nat.le_of_ble_eq_true rfl) hcs dL_law_1126 (fun H1 lo1 d1 k u hd1 I1 hΨ => ?_)
  obtain ⟨⟨G2, E2, Dd2, P2, Z2⟩, o2⟩ := u
  obtain ⟨r, h2, hm, h0, hk, hRR2, hPZ2⟩ := hΨ
  replace I1 : sInv D (cT cI cJ cD cS) (lW ac am aO aD cI cJ cD cS) A s H1 lo1 ((G2, E2, Dd2, P2, Z2), (h, Em, Dm), o2, od) := sI_perm I1 lp_J.symm
  refine lv_istore (lv' := [(6, .int k), (0, .ref b), (1, .ref (ac 0)), (2, .ref (am 0)), (3, .ref aO), (4, .ref aD), (5, .int x5)]) hx hb dL_law_1129 hl (by decide) rfl (fun ls1 hl1 => ?_)
  refine lv_aload_n hx hb dL_law_1131 rfl (lv_at hl1 3 rfl) ?_
  refine lv_aload_n hx hb dL_law_1132 rfl (lv_at hl1 1 rfl) ?_
  refine lv_iload hx hb dL_law_1133 (lv_at hl1 6 rfl) ?_
  refine lv_iconst (v := 1) hx hb dL_law_1135 (by decide) ?_
  refine lv_iadd hx hb dL_law_1136 ?_
  refine l_sld hx hb hX hbl hbA I1 in1 dL_law_1137 ?_
  rw [← ea0]
  replace I1 : sInv D (cT cI cJ cD cS) (fW ((aO, .inl (cJ, 1, .inr (.inl o2))) :: (aD, .inl (cD, 1, .inr (.inr (.inr (.inl od))))) :: cW ac cI cJ cD cS (G2, E2, Dd2, P2, Z2)) (mW am cI cJ cD)) A s H1 lo1 (h, Em, Dm) := sI_perm I1 lp_M
  refine f_callVi (As := [.int a0]) F I1 (I1.1.sub [0, 1, 2] rfl) (cM_order h Em Dm a0 r h2 hm) kL_163 ⟨rfl, rfl⟩ ⟨Nat.le_trans (by decide) hRr.1, Nat.le_trans (by decide) hRr.2⟩ 0 12 rfl rfl rfl rfl rfl hl1.1 (Nat.le_of_ble_eq_true rfl) hcs dL_law_1138 (fun H3 lo3 I3 => ?_)
  replace I3 : sInv D (cT cI cJ cD cS) (fW ((aO, .inl (cJ, 1, .inr (.inl o2))) :: (aD, .inl (cD, 1, .inr (.inr (.inr (.inl od))))) :: cW ac cI cJ cD cS (G2, E2, Dd2, P2, Z2)) (mW am cI cJ cD)) A s H3 lo3 (h2, Em, Dm) := I3
  refine lv_istore (lv' := [(7, .int r), (6, .int k), (0, .ref b), (1, .ref (ac 0)), (2, .ref (am 0)), (3, .ref aO), (4, .ref aD), (5, .int x5)]) hx hb dL_law_1141 hl1 (by decide) rfl (fun ls2 hl2 => ?_)
  refine lv_aload_n hx hb dL_law_1143 rfl (lv_at hl2 4 rfl) ?_
  refine f_callVi (As := []) F I3 (I3.1.sub [0, 1, 2] rfl) (cM_thrown h2 Em Dm k h0.symm) kL_106 ⟨rfl, rfl⟩ ⟨Nat.le_trans (by decide) hRr.1, Nat.le_trans (by decide) hRr.2⟩ 0 12 rfl rfl rfl rfl rfl hl2.1 (Nat.le_of_ble_eq_true rfl) hcs dL_law_1144 (fun H4 lo4 I4 => ?_)
  replace I4 : sInv D (cT cI cJ cD cS) (lW ac am aO aD cI cJ cD cS) A s H4 lo4 ((G2, E2, Dd2, P2, Z2), (h2, Em, Dm), o2, od) := sI_perm I4 lp_M.symm
  refine lv_iload hx hb dL_law_1147 (lv_at hl2 1 rfl) ?_
  refine lv_icmp_eq (tgt := 1154) hx hb dL_law_1149 (by decide) (fun _ => ?_) (fun hne => absurd rfl hne)
  refine lv_iload hx hb dL_law_1154 (lv_at hl2 1 rfl) ?_
  have hEnd : W p l e R (s.setDrawn d1) m args below meth c H4 lo4 (cells + 2) (slots + 58) Q (F0 m 1171 ls2 []) := by
    refine lv_goto (tgt := 1861) hx hb dL_law_1171 (by decide) ?_
    exact K H4 lo4 d1 _ ls2 hd1 I4 ⟨hRR2, hPZ2⟩ (lv_sub hl2 [2, 3, 4, 5, 6, 7] rfl)
  refine lv_if_ne (tgt := 1171) hx hb dL_law_1156 (by decide) (fun _ => hEnd) (fun hk0 => ?_)
  have hv := hk hk0
  refine lv_aload_n hx hb dL_law_1159 rfl (lv_at hl2 5 rfl) ?_
  refine lv_iconst (v := 0) hx hb dL_law_1160 (by decide) ?_
  refine va_lald hx hb (Idr I4).1 I4.2.1 0 1 rfl rfl in01 dL_law_1161 ?_
  refine lv_iload hx hb dL_law_1162 (lv_at hl2 0 rfl) ?_
  refine lv_i2l hx hb dL_law_1164 rfl ?_
  refine W.lcmp hx hb dL_law_1165 ?_
  refine lv_if_eq (tgt := 1171) hx hb dL_law_1166 (by decide) (fun _ => hEnd) (fun hne => absurd (l_cmp hv) hne)
set_option maxRecDepth 100000 in
set_option maxHeartbeats 4000000 in
theorem lc_summary {x5 : Int32} {i : Nat} (C : lCx p l m c s args A b L xs) (hRr : 12 ≤ R.frames ∧ 430 ≤ R.locals) (hcs : cells + 2 ≤ R.cells ∧ slots + 58 ≤ R.slots) (hd0 : s.drawn.sameBut d0 lw_cs) (I : sInv D (cT cI cJ cD cS) (lW ac am aO aD cI cJ cD cS) A s H locs u) (hr : lR u) (hi : i + 5 ≤ L) (hL : L ≤ 2560) (hx5 : x5 = nI i) (hl : lv_has ls 9 [(0, .ref b), (1, .ref (ac 0)), (2, .ref (am 0)), (3, .ref aO), (4, .ref aD), (5, .int x5)]) (K : lK p l e R s m args below meth c D A cells slots Q ac am aO aD cI cJ cD cS b x5) : W p l e R (s.setDrawn d0) m args below meth c H locs cells slots Q (F0 m 1174 ls []) := by
  obtain ⟨F, hX, hbl, hbA, hY, hl0⟩ := C
  obtain ⟨hx, hb, hml, hown, hG⟩ := id F
  obtain ⟨⟨G, E, Dd, P, Z⟩, ⟨h, Em, Dm⟩, o, od⟩ := u
  obtain ⟨hRR, hPZ⟩ := hr
  replace hRR : RR G P h := hRR
  replace hPZ : PZ P Z := hPZ
  have in1 : vp_in (x5 + (1 : Int32)) L := l_in (j := 1) hx5 (by omega) hL
  obtain ⟨a0, ea0⟩ : ∃ z : Int32, z = xs (x5 + (1 : Int32)).toNatClampNeg := ⟨_, rfl⟩
  refine lv_aload_n hx hb dL_law_1174 rfl (lv_at hl 1 rfl) ?_
  refine lv_aload_n hx hb dL_law_1175 rfl (lv_at hl 0 rfl) ?_
  refine lv_iload hx hb dL_law_1176 (lv_at hl 5 rfl) ?_
  refine lv_iconst (v := 1) hx hb dL_law_1178 (by decide) ?_
  refine lv_iadd hx hb dL_law_1179 ?_
  refine l_sld hx hb hX hbl hbA I in1 dL_law_1180 ?_
  rw [← ea0]
  refine lv_aload_n hx hb dL_law_1181 rfl (lv_at hl 3 rfl) ?_
  have I0 : sInv D (cT cI cJ cD cS) (fW ((aD, .inl (cD, 1, .inr (.inr (.inr (.inl od))))) :: mW am cI cJ cD (h, Em, Dm)) (wJ ac aO cI cJ cD cS)) A s H locs ((G, E, Dd, P, Z), o) := sI_perm I lp_J
  refine f_callSW (As := [.ref (ac 0), .int a0, .ref aO]) F hd0 I0 I.1 hY (wL_summary aO G E Dd P Z o hPZ hl0 a0 _ (q_summary E Em Dd Dm o hRR hPZ a0 _ rfl)) kL_164 ⟨rfl, rfl⟩ ⟨Nat.le_trans (by decide) hRr.1, Nat.le_trans (by decide) hRr.2⟩ rfl rfl hl.1 (Nat.le_of_ble_eq_true rfl) hcs dL_law_1182 (fun H1 lo1 d1 k u hd1 I1 hΨ => ?_)
  obtain ⟨⟨G2, E2, Dd2, P2, Z2⟩, o2⟩ := u
  obtain ⟨r, h2, hm, h0, hk, hRR2, hPZ2⟩ := hΨ
  replace I1 : sInv D (cT cI cJ cD cS) (lW ac am aO aD cI cJ cD cS) A s H1 lo1 ((G2, E2, Dd2, P2, Z2), (h, Em, Dm), o2, od) := sI_perm I1 lp_J.symm
  refine lv_istore (lv' := [(6, .int k), (0, .ref b), (1, .ref (ac 0)), (2, .ref (am 0)), (3, .ref aO), (4, .ref aD), (5, .int x5)]) hx hb dL_law_1185 hl (by decide) rfl (fun ls1 hl1 => ?_)
  refine lv_aload_n hx hb dL_law_1187 rfl (lv_at hl1 3 rfl) ?_
  refine lv_aload_n hx hb dL_law_1188 rfl (lv_at hl1 1 rfl) ?_
  refine lv_iload hx hb dL_law_1189 (lv_at hl1 6 rfl) ?_
  refine lv_iconst (v := 1) hx hb dL_law_1191 (by decide) ?_
  refine lv_iadd hx hb dL_law_1192 ?_
  refine l_sld hx hb hX hbl hbA I1 in1 dL_law_1193 ?_
  rw [← ea0]
  replace I1 : sInv D (cT cI cJ cD cS) (fW ((aO, .inl (cJ, 1, .inr (.inl o2))) :: (aD, .inl (cD, 1, .inr (.inr (.inr (.inl od))))) :: cW ac cI cJ cD cS (G2, E2, Dd2, P2, Z2)) (mW am cI cJ cD)) A s H1 lo1 (h, Em, Dm) := sI_perm I1 lp_M
  refine f_callVi (As := [.int a0]) F I1 (I1.1.sub [0, 1, 2] rfl) (cM_summary h Em Dm a0 r h2 hm) kL_166 ⟨rfl, rfl⟩ ⟨Nat.le_trans (by decide) hRr.1, Nat.le_trans (by decide) hRr.2⟩ 0 12 rfl rfl rfl rfl rfl hl1.1 (Nat.le_of_ble_eq_true rfl) hcs dL_law_1194 (fun H3 lo3 I3 => ?_)
  replace I3 : sInv D (cT cI cJ cD cS) (fW ((aO, .inl (cJ, 1, .inr (.inl o2))) :: (aD, .inl (cD, 1, .inr (.inr (.inr (.inl od))))) :: cW ac cI cJ cD cS (G2, E2, Dd2, P2, Z2)) (mW am cI cJ cD)) A s H3 lo3 (h2, Em, Dm) := I3
  refine lv_istore (lv' := [(7, .int r), (6, .int k), (0, .ref b), (1, .ref (ac 0)), (2, .ref (am 0)), (3, .ref aO), (4, .ref aD), (5, .int x5)]) hx hb dL_law_1197 hl1 (by decide) rfl (fun ls2 hl2 => ?_)
  refine lv_aload_n hx hb dL_law_1199 rfl (lv_at hl2 4 rfl) ?_
  refine f_callVi (As := []) F I3 (I3.1.sub [0, 1, 2] rfl) (cM_thrown h2 Em Dm k h0.symm) kL_106 ⟨rfl, rfl⟩ ⟨Nat.le_trans (by decide) hRr.1, Nat.le_trans (by decide) hRr.2⟩ 0 12 rfl rfl rfl rfl rfl hl2.1 (Nat.le_of_ble_eq_true rfl) hcs dL_law_1200 (fun H4 lo4 I4 => ?_)
  replace I4 : sInv D (cT cI cJ cD cS) (lW ac am aO aD cI cJ cD cS) A s H4 lo4 ((G2, E2, Dd2, P2, Z2), (h2, Em, Dm), o2, od) := sI_perm I4 lp_M.symm
  refine lv_iload hx hb dL_law_1203 (lv_at hl2 1 rfl) ?_
  refine lv_icmp_eq (tgt := 1210) hx hb dL_law_1205 (by decide) (fun _ => ?_) (fun hne => absurd rfl hne)
  refine lv_iload hx hb dL_law_1210 (lv_at hl2 1 rfl) ?_
  have hEnd : W p l e R (s.setDrawn d1) m args below meth c H4 lo4 (cells + 2) (slots + 58) Q (F0 m 1227 ls2 []) := by
    refine lv_goto (tgt := 1861) hx hb dL_law_1227 (by decide) ?_
    exact K H4 lo4 d1 _ ls2 hd1 I4 ⟨hRR2, hPZ2⟩ (lv_sub hl2 [2, 3, 4, 5, 6, 7] rfl)
  refine lv_if_ne (tgt := 1227) hx hb dL_law_1212 (by decide) (fun _ => hEnd) (fun hk0 => ?_)
  have hv := hk hk0
  refine lv_aload_n hx hb dL_law_1215 rfl (lv_at hl2 5 rfl) ?_
  refine lv_iconst (v := 0) hx hb dL_law_1216 (by decide) ?_
  refine va_lald hx hb (Idr I4).1 I4.2.1 0 1 rfl rfl in01 dL_law_1217 ?_
  refine lv_iload hx hb dL_law_1218 (lv_at hl2 0 rfl) ?_
  refine lv_i2l hx hb dL_law_1220 rfl ?_
  refine W.lcmp hx hb dL_law_1221 ?_
  refine lv_if_eq (tgt := 1227) hx hb dL_law_1222 (by decide) (fun _ => hEnd) (fun hne => absurd (l_cmp hv) hne)
set_option maxRecDepth 100000 in
set_option maxHeartbeats 4000000 in
theorem lc_without {x5 : Int32} {i : Nat} (C : lCx p l m c s args A b L xs) (hRr : 12 ≤ R.frames ∧ 430 ≤ R.locals) (hcs : cells + 2 ≤ R.cells ∧ slots + 58 ≤ R.slots) (hd0 : s.drawn.sameBut d0 lw_cs) (I : sInv D (cT cI cJ cD cS) (lW ac am aO aD cI cJ cD cS) A s H locs u) (hr : lR u) (hi : i + 5 ≤ L) (hL : L ≤ 2560) (hx5 : x5 = nI i) (hl : lv_has ls 9 [(0, .ref b), (1, .ref (ac 0)), (2, .ref (am 0)), (3, .ref aO), (4, .ref aD), (5, .int x5)]) (K : lK p l e R s m args below meth c D A cells slots Q ac am aO aD cI cJ cD cS b x5) : W p l e R (s.setDrawn d0) m args below meth c H locs cells slots Q (F0 m 1230 ls []) := by
  obtain ⟨F, hX, hbl, hbA, hY, hl0⟩ := C
  obtain ⟨hx, hb, hml, hown, hG⟩ := id F
  obtain ⟨⟨G, E, Dd, P, Z⟩, ⟨h, Em, Dm⟩, o, od⟩ := u
  obtain ⟨hRR, hPZ⟩ := hr
  replace hRR : RR G P h := hRR
  replace hPZ : PZ P Z := hPZ
  have in1 : vp_in (x5 + (1 : Int32)) L := l_in (j := 1) hx5 (by omega) hL
  obtain ⟨a0, ea0⟩ : ∃ z : Int32, z = xs (x5 + (1 : Int32)).toNatClampNeg := ⟨_, rfl⟩
  have in2 : vp_in (x5 + (2 : Int32)) L := l_in (j := 2) hx5 (by omega) hL
  obtain ⟨a1, ea1⟩ : ∃ z : Int32, z = xs (x5 + (2 : Int32)).toNatClampNeg := ⟨_, rfl⟩
  have in3 : vp_in (x5 + (3 : Int32)) L := l_in (j := 3) hx5 (by omega) hL
  obtain ⟨a2, ea2⟩ : ∃ z : Int32, z = xs (x5 + (3 : Int32)).toNatClampNeg := ⟨_, rfl⟩
  refine lv_aload_n hx hb dL_law_1230 rfl (lv_at hl 1 rfl) ?_
  refine lv_aload_n hx hb dL_law_1231 rfl (lv_at hl 0 rfl) ?_
  refine lv_iload hx hb dL_law_1232 (lv_at hl 5 rfl) ?_
  refine lv_iconst (v := 1) hx hb dL_law_1234 (by decide) ?_
  refine lv_iadd hx hb dL_law_1235 ?_
  refine l_sld hx hb hX hbl hbA I in1 dL_law_1236 ?_
  rw [← ea0]
  refine lv_aload_n hx hb dL_law_1237 rfl (lv_at hl 0 rfl) ?_
  refine lv_iload hx hb dL_law_1238 (lv_at hl 5 rfl) ?_
  refine lv_iconst (v := 2) hx hb dL_law_1240 (by decide) ?_
  refine lv_iadd hx hb dL_law_1241 ?_
  refine l_sld hx hb hX hbl hbA I in2 dL_law_1242 ?_
  rw [← ea1]
  refine lv_aload_n hx hb dL_law_1243 rfl (lv_at hl 0 rfl) ?_
  refine lv_iload hx hb dL_law_1244 (lv_at hl 5 rfl) ?_
  refine lv_iconst (v := 3) hx hb dL_law_1246 (by decide) ?_
  refine lv_iadd hx hb dL_law_1247 ?_
  refine l_sld hx hb hX hbl hbA I in3 dL_law_1248 ?_
  rw [← ea2]
  refine lv_aload_n hx hb dL_law_1249 rfl (lv_at hl 3 rfl) ?_
  have I0 : sInv D (cT cI cJ cD cS) (fW ((aD, .inl (cD, 1, .inr (.inr (.inr (.inl od))))) :: mW am cI cJ cD (h, Em, Dm)) (wJ ac aO cI cJ cD cS)) A s H locs ((G, E, Dd, P, Z), o) := sI_perm I lp_J
  refine f_callSW (As := [.ref (ac 0), .int a0, .int a1, .int a2, .ref aO]) F hd0 I0 I.1 hY (wL_without aO G E Dd P Z o hPZ hl0 a0 a1 a2 _ (q_without E Em Dd Dm o hRR hPZ a0 a1 a2 _ rfl)) kL_167 ⟨rfl, rfl⟩ ⟨Nat.le_trans (by decide) hRr.1, Nat.le_trans (by decide) hRr.2⟩ rfl rfl hl.1 (Nat.le_of_ble_eq_true rfl) hcs dL_law_1250 (fun H1 lo1 d1 k u hd1 I1 hΨ => ?_)
  obtain ⟨⟨G2, E2, Dd2, P2, Z2⟩, o2⟩ := u
  obtain ⟨r, h2, hm, h0, hk, hRR2, hPZ2⟩ := hΨ
  replace I1 : sInv D (cT cI cJ cD cS) (lW ac am aO aD cI cJ cD cS) A s H1 lo1 ((G2, E2, Dd2, P2, Z2), (h, Em, Dm), o2, od) := sI_perm I1 lp_J.symm
  refine lv_istore (lv' := [(6, .int k), (0, .ref b), (1, .ref (ac 0)), (2, .ref (am 0)), (3, .ref aO), (4, .ref aD), (5, .int x5)]) hx hb dL_law_1253 hl (by decide) rfl (fun ls1 hl1 => ?_)
  refine lv_aload_n hx hb dL_law_1255 rfl (lv_at hl1 3 rfl) ?_
  refine lv_aload_n hx hb dL_law_1256 rfl (lv_at hl1 1 rfl) ?_
  refine lv_iload hx hb dL_law_1257 (lv_at hl1 6 rfl) ?_
  refine lv_iconst (v := 1) hx hb dL_law_1259 (by decide) ?_
  refine lv_iadd hx hb dL_law_1260 ?_
  refine l_sld hx hb hX hbl hbA I1 in1 dL_law_1261 ?_
  rw [← ea0]
  refine lv_aload_n hx hb dL_law_1262 rfl (lv_at hl1 1 rfl) ?_
  refine lv_iload hx hb dL_law_1263 (lv_at hl1 6 rfl) ?_
  refine lv_iconst (v := 2) hx hb dL_law_1265 (by decide) ?_
  refine lv_iadd hx hb dL_law_1266 ?_
  refine l_sld hx hb hX hbl hbA I1 in2 dL_law_1267 ?_
  rw [← ea1]
  refine lv_aload_n hx hb dL_law_1268 rfl (lv_at hl1 1 rfl) ?_
  refine lv_iload hx hb dL_law_1269 (lv_at hl1 6 rfl) ?_
  refine lv_iconst (v := 3) hx hb dL_law_1271 (by decide) ?_
  refine lv_iadd hx hb dL_law_1272 ?_
  refine l_sld hx hb hX hbl hbA I1 in3 dL_law_1273 ?_
  rw [← ea2]
  replace I1 : sInv D (cT cI cJ cD cS) (fW ((aO, .inl (cJ, 1, .inr (.inl o2))) :: (aD, .inl (cD, 1, .inr (.inr (.inr (.inl od))))) :: cW ac cI cJ cD cS (G2, E2, Dd2, P2, Z2)) (mW am cI cJ cD)) A s H1 lo1 (h, Em, Dm) := sI_perm I1 lp_M
  refine f_callVi (As := [.int a0, .int a1, .int a2]) F I1 (I1.1.sub [0, 1, 2] rfl) (cM_without h Em Dm a0 a1 a2 r h2 hm) kL_169 ⟨rfl, rfl⟩ ⟨Nat.le_trans (by decide) hRr.1, Nat.le_trans (by decide) hRr.2⟩ 0 12 rfl rfl rfl rfl rfl hl1.1 (Nat.le_of_ble_eq_true rfl) hcs dL_law_1274 (fun H3 lo3 I3 => ?_)
  replace I3 : sInv D (cT cI cJ cD cS) (fW ((aO, .inl (cJ, 1, .inr (.inl o2))) :: (aD, .inl (cD, 1, .inr (.inr (.inr (.inl od))))) :: cW ac cI cJ cD cS (G2, E2, Dd2, P2, Z2)) (mW am cI cJ cD)) A s H3 lo3 (h2, Em, Dm) := I3
  refine lv_istore (lv' := [(7, .int r), (6, .int k), (0, .ref b), (1, .ref (ac 0)), (2, .ref (am 0)), (3, .ref aO), (4, .ref aD), (5, .int x5)]) hx hb dL_law_1277 hl1 (by decide) rfl (fun ls2 hl2 => ?_)
  refine lv_aload_n hx hb dL_law_1279 rfl (lv_at hl2 4 rfl) ?_
  refine f_callVi (As := []) F I3 (I3.1.sub [0, 1, 2] rfl) (cM_thrown h2 Em Dm k h0.symm) kL_106 ⟨rfl, rfl⟩ ⟨Nat.le_trans (by decide) hRr.1, Nat.le_trans (by decide) hRr.2⟩ 0 12 rfl rfl rfl rfl rfl hl2.1 (Nat.le_of_ble_eq_true rfl) hcs dL_law_1280 (fun H4 lo4 I4 => ?_)
  replace I4 : sInv D (cT cI cJ cD cS) (lW ac am aO aD cI cJ cD cS) A s H4 lo4 ((G2, E2, Dd2, P2, Z2), (h2, Em, Dm), o2, od) := sI_perm I4 lp_M.symm
  refine lv_iload hx hb dL_law_1283 (lv_at hl2 1 rfl) ?_
  refine lv_icmp_eq (tgt := 1290) hx hb dL_law_1285 (by decide) (fun _ => ?_) (fun hne => absurd rfl hne)
  refine lv_iload hx hb dL_law_1290 (lv_at hl2 1 rfl) ?_
  have hEnd : W p l e R (s.setDrawn d1) m args below meth c H4 lo4 (cells + 2) (slots + 58) Q (F0 m 1307 ls2 []) := by
    refine lv_goto (tgt := 1861) hx hb dL_law_1307 (by decide) ?_
    exact K H4 lo4 d1 _ ls2 hd1 I4 ⟨hRR2, hPZ2⟩ (lv_sub hl2 [2, 3, 4, 5, 6, 7] rfl)
  refine lv_if_ne (tgt := 1307) hx hb dL_law_1292 (by decide) (fun _ => hEnd) (fun hk0 => ?_)
  have hv := hk hk0
  refine lv_aload_n hx hb dL_law_1295 rfl (lv_at hl2 5 rfl) ?_
  refine lv_iconst (v := 0) hx hb dL_law_1296 (by decide) ?_
  refine va_lald hx hb (Idr I4).1 I4.2.1 0 1 rfl rfl in01 dL_law_1297 ?_
  refine lv_iload hx hb dL_law_1298 (lv_at hl2 0 rfl) ?_
  refine lv_i2l hx hb dL_law_1300 rfl ?_
  refine W.lcmp hx hb dL_law_1301 ?_
  refine lv_if_eq (tgt := 1307) hx hb dL_law_1302 (by decide) (fun _ => hEnd) (fun hne => absurd (l_cmp hv) hne)
set_option maxRecDepth 100000 in
set_option maxHeartbeats 4000000 in
theorem lc_rings {x5 : Int32} {i : Nat} (C : lCx p l m c s args A b L xs) (hRr : 12 ≤ R.frames ∧ 430 ≤ R.locals) (hcs : cells + 2 ≤ R.cells ∧ slots + 58 ≤ R.slots) (hd0 : s.drawn.sameBut d0 lw_cs) (I : sInv D (cT cI cJ cD cS) (lW ac am aO aD cI cJ cD cS) A s H locs u) (hr : lR u) (hi : i + 5 ≤ L) (hL : L ≤ 2560) (hx5 : x5 = nI i) (hl : lv_has ls 9 [(0, .ref b), (1, .ref (ac 0)), (2, .ref (am 0)), (3, .ref aO), (4, .ref aD), (5, .int x5)]) (K : lK p l e R s m args below meth c D A cells slots Q ac am aO aD cI cJ cD cS b x5) : W p l e R (s.setDrawn d0) m args below meth c H locs cells slots Q (F0 m 1310 ls []) := by
  obtain ⟨F, hX, hbl, hbA, hY, hl0⟩ := C
  obtain ⟨hx, hb, hml, hown, hG⟩ := id F
  obtain ⟨⟨G, E, Dd, P, Z⟩, ⟨h, Em, Dm⟩, o, od⟩ := u
  obtain ⟨hRR, hPZ⟩ := hr
  replace hRR : RR G P h := hRR
  replace hPZ : PZ P Z := hPZ
  have in1 : vp_in (x5 + (1 : Int32)) L := l_in (j := 1) hx5 (by omega) hL
  obtain ⟨a0, ea0⟩ : ∃ z : Int32, z = xs (x5 + (1 : Int32)).toNatClampNeg := ⟨_, rfl⟩
  refine lv_aload_n hx hb dL_law_1310 rfl (lv_at hl 1 rfl) ?_
  refine lv_aload_n hx hb dL_law_1311 rfl (lv_at hl 0 rfl) ?_
  refine lv_iload hx hb dL_law_1312 (lv_at hl 5 rfl) ?_
  refine lv_iconst (v := 1) hx hb dL_law_1314 (by decide) ?_
  refine lv_iadd hx hb dL_law_1315 ?_
  refine l_sld hx hb hX hbl hbA I in1 dL_law_1316 ?_
  rw [← ea0]
  refine lv_aload_n hx hb dL_law_1317 rfl (lv_at hl 3 rfl) ?_
  have I0 : sInv D (cT cI cJ cD cS) (fW ((aD, .inl (cD, 1, .inr (.inr (.inr (.inl od))))) :: mW am cI cJ cD (h, Em, Dm)) (wJ ac aO cI cJ cD cS)) A s H locs ((G, E, Dd, P, Z), o) := sI_perm I lp_J
  refine f_callSW (As := [.ref (ac 0), .int a0, .ref aO]) F hd0 I0 I.1 hY (wL_rings aO G E Dd P Z o hPZ hl0 a0 _ (q_rings E Em Dd Dm o hRR hPZ a0 _ rfl)) kL_170 ⟨rfl, rfl⟩ ⟨Nat.le_trans (by decide) hRr.1, Nat.le_trans (by decide) hRr.2⟩ rfl rfl hl.1 (Nat.le_of_ble_eq_true rfl) hcs dL_law_1318 (fun H1 lo1 d1 k u hd1 I1 hΨ => ?_)
  obtain ⟨⟨G2, E2, Dd2, P2, Z2⟩, o2⟩ := u
  obtain ⟨r, h2, hm, h0, hk, hRR2, hPZ2⟩ := hΨ
  replace I1 : sInv D (cT cI cJ cD cS) (lW ac am aO aD cI cJ cD cS) A s H1 lo1 ((G2, E2, Dd2, P2, Z2), (h, Em, Dm), o2, od) := sI_perm I1 lp_J.symm
  refine lv_istore (lv' := [(6, .int k), (0, .ref b), (1, .ref (ac 0)), (2, .ref (am 0)), (3, .ref aO), (4, .ref aD), (5, .int x5)]) hx hb dL_law_1321 hl (by decide) rfl (fun ls1 hl1 => ?_)
  refine lv_aload_n hx hb dL_law_1323 rfl (lv_at hl1 3 rfl) ?_
  refine lv_aload_n hx hb dL_law_1324 rfl (lv_at hl1 1 rfl) ?_
  refine lv_iload hx hb dL_law_1325 (lv_at hl1 6 rfl) ?_
  refine lv_iconst (v := 1) hx hb dL_law_1327 (by decide) ?_
  refine lv_iadd hx hb dL_law_1328 ?_
  refine l_sld hx hb hX hbl hbA I1 in1 dL_law_1329 ?_
  rw [← ea0]
  replace I1 : sInv D (cT cI cJ cD cS) (fW ((aO, .inl (cJ, 1, .inr (.inl o2))) :: (aD, .inl (cD, 1, .inr (.inr (.inr (.inl od))))) :: cW ac cI cJ cD cS (G2, E2, Dd2, P2, Z2)) (mW am cI cJ cD)) A s H1 lo1 (h, Em, Dm) := sI_perm I1 lp_M
  refine f_callVi (As := [.int a0]) F I1 (I1.1.sub [0, 1, 2] rfl) (cM_rings h Em Dm a0 r h2 hm) kL_172 ⟨rfl, rfl⟩ ⟨Nat.le_trans (by decide) hRr.1, Nat.le_trans (by decide) hRr.2⟩ 0 12 rfl rfl rfl rfl rfl hl1.1 (Nat.le_of_ble_eq_true rfl) hcs dL_law_1330 (fun H3 lo3 I3 => ?_)
  replace I3 : sInv D (cT cI cJ cD cS) (fW ((aO, .inl (cJ, 1, .inr (.inl o2))) :: (aD, .inl (cD, 1, .inr (.inr (.inr (.inl od))))) :: cW ac cI cJ cD cS (G2, E2, Dd2, P2, Z2)) (mW am cI cJ cD)) A s H3 lo3 (h2, Em, Dm) := I3
  refine lv_istore (lv' := [(7, .int r), (6, .int k), (0, .ref b), (1, .ref (ac 0)), (2, .ref (am 0)), (3, .ref aO), (4, .ref aD), (5, .int x5)]) hx hb dL_law_1333 hl1 (by decide) rfl (fun ls2 hl2 => ?_)
  refine lv_aload_n hx hb dL_law_1335 rfl (lv_at hl2 4 rfl) ?_
  refine f_callVi (As := []) F I3 (I3.1.sub [0, 1, 2] rfl) (cM_thrown h2 Em Dm k h0.symm) kL_106 ⟨rfl, rfl⟩ ⟨Nat.le_trans (by decide) hRr.1, Nat.le_trans (by decide) hRr.2⟩ 0 12 rfl rfl rfl rfl rfl hl2.1 (Nat.le_of_ble_eq_true rfl) hcs dL_law_1336 (fun H4 lo4 I4 => ?_)
  replace I4 : sInv D (cT cI cJ cD cS) (lW ac am aO aD cI cJ cD cS) A s H4 lo4 ((G2, E2, Dd2, P2, Z2), (h2, Em, Dm), o2, od) := sI_perm I4 lp_M.symm
  refine lv_iload hx hb dL_law_1339 (lv_at hl2 1 rfl) ?_
  refine lv_icmp_eq (tgt := 1346) hx hb dL_law_1341 (by decide) (fun _ => ?_) (fun hne => absurd rfl hne)
  refine lv_iload hx hb dL_law_1346 (lv_at hl2 1 rfl) ?_
  have hEnd : W p l e R (s.setDrawn d1) m args below meth c H4 lo4 (cells + 2) (slots + 58) Q (F0 m 1363 ls2 []) := by
    refine lv_goto (tgt := 1861) hx hb dL_law_1363 (by decide) ?_
    exact K H4 lo4 d1 _ ls2 hd1 I4 ⟨hRR2, hPZ2⟩ (lv_sub hl2 [2, 3, 4, 5, 6, 7] rfl)
  refine lv_if_ne (tgt := 1363) hx hb dL_law_1348 (by decide) (fun _ => hEnd) (fun hk0 => ?_)
  have hv := hk hk0
  refine lv_aload_n hx hb dL_law_1351 rfl (lv_at hl2 5 rfl) ?_
  refine lv_iconst (v := 0) hx hb dL_law_1352 (by decide) ?_
  refine va_lald hx hb (Idr I4).1 I4.2.1 0 1 rfl rfl in01 dL_law_1353 ?_
  refine lv_iload hx hb dL_law_1354 (lv_at hl2 0 rfl) ?_
  refine lv_i2l hx hb dL_law_1356 rfl ?_
  refine W.lcmp hx hb dL_law_1357 ?_
  refine lv_if_eq (tgt := 1363) hx hb dL_law_1358 (by decide) (fun _ => hEnd) (fun hne => absurd (l_cmp hv) hne)
end LawC
