section Meth
variable {D : va_G} {l : Launch} {ad : Nat → Nat} {cI cJ cD cS : ClassId}
def C_SR_scaleNewValues_s2 (x7 : UInt64) (G : Nat → Nat → Int32) (x12 : Int32) (Dd13 : Nat → Nat → UInt64) : Option ((Int32 × (Nat → Nat → UInt64)) ⊕ ((Nat → Nat → UInt64))) :=
if G 41 0 ≤ x12 then
(some (.inr Dd13))
else
(bd (if Op.cmpValue (FP.dcmp x7 FP.dconst0) CmpOp.l ≤ 0 then
(ri 8 x12 <|
some (Dd13 2 x12.toNatClampNeg))
else
(ri 8 x12 <|
some (FP.dmul (Dd13 2 x12.toNatClampNeg) (FP.ddiv (FP.i2d (G 41 0)) x7)))) fun x22 =>
ri 8 x12 <|
nm (wr Dd13 1 x12 x22) fun Dd27 =>
nm (x12 + (1 : Int32) : Int32) fun x29 =>
some (.inl (x29, Dd27)))
def C_SR_scaleNewValues_s1 (G : Nat → Nat → Int32) (Dd : Nat → Nat → UInt64) (x5 : UInt64) (x6 : Int32) : Option ((UInt64 × Int32) ⊕ (UInt64)) :=
if G 41 0 ≤ x6 then
(some (.inr x5))
else
(ri 8 x6 <|
nm ((FP.dadd x5 (Dd 2 x6.toNatClampNeg)) : UInt64) fun x46 =>
nm (x6 + (1 : Int32) : Int32) fun x48 =>
some (.inl (x46, x48)))
def C_SR_scaleNewValues (G : Nat → Nat → Int32) (Dd : Nat → Nat → UInt64) : Option ((Nat → Nat → UInt64)) :=
nm (FP.dconst0 : UInt64) fun x1 =>
bd (lp (fun q => C_SR_scaleNewValues_s1 G Dd q.1 q.2) FU (x1, (0 : Int32))) fun x7 =>
bd (lp (fun q => C_SR_scaleNewValues_s2 x7 G q.1 q.2) FU ((0 : Int32), Dd)) fun Dd14 =>
some Dd14
set_option maxRecDepth 100000 in
set_option maxHeartbeats 4000000 in
theorem cC_SR_scaleNewValues (G : Nat → Nat → Int32) (E : Nat → Nat → Int64) (Dd : Nat → Nat → UInt64) (P : Nat → Option Nat) (L : List Nat) (pf : Nat → va_E)   (newDd : Nat → Nat → UInt64) (hf : C_SR_scaleNewValues G Dd = some newDd) : sDv D (cT cI cJ cD cS) (cW ad cI cJ cD cS) cSm l yX8_scaleNewValues (ws1 yX8_scaleNewValues cX8_scaleNewValues 4 none) ({ frames := 0, cells := 0, slots := 0, locals := 0 }) [.ref (ad 33)] (G, E, Dd, P, L, pf) (G, E, newDd, P, L, pf) := by
  unfold C_SR_scaleNewValues at hf
  refine sDv_of (by decide) (Nat.le_of_ble_eq_true rfl) ?_
  intro p e R s m args below meth c A Q ls H lo dr sgm F hRf hRl hd hsm I hl ret
  obtain ⟨_, _, Dm, _⟩ := sgm
  obtain ⟨rfl, rfl, ha, rfl⟩ := cSm_dest hsm
  obtain ⟨hx, hb, hml, hown, hG⟩ := id F
  replace hl : lv_has ls 4 [(0, .ref (ad 33))] := hl
  refine lv_dconst0 hx hb dX8_scaleNewValues_0 ?_
  obtain ⟨x1, ex1⟩ : ∃ z : UInt64, z = FP.dconst0 := ⟨_, rfl⟩
  replace hf := nm_some ex1 hf
  have hx1 := al_eq2 ex1 (al_rf _)
  refine lv_topd (fun m2 em2 => ?_)
  have hm2 := al_eq em2 hx1
  refine lv_dstore_n (lv' := [(1, .double m2), (0, .ref (ad 33))]) hx hb dX8_scaleNewValues_1 rfl hl (by decide) rfl (fun ls_3 hl_3 => ?_)
  refine lv_iconst (v := (0 : Int32)) hx hb dX8_scaleNewValues_2 (by decide) ?_
  refine lv_istore_n (lv' := [(3, .int (0 : Int32)), (1, .double m2), (0, .ref (ad 33))]) hx hb dX8_scaleNewValues_3 rfl hl_3 (by decide) rfl (fun ls_4 hl_4 => ?_)
  obtain ⟨x7, hq1, hf⟩ := bd_some hf
  have K1 : ∀ (H : Heap) (locs : List Loc) (d : Drawn) (mx7 : UInt64), s.drawn.sameBut d lw_cs → alike64 mx7 x7 = true → sInv D (cT cI cJ cD cS) (cW ad cI cJ cD cS) A s H locs (G, E, Dm, P, L, pf) → ∀ (ls : Array Slot), lv_has ls 4 [(0, .ref (ad 33)), (1, .double mx7)] → W p l e R (s.setDrawn d) m args below meth c H locs 0 0 Q (F0 m 27 ls []) := by
    intro H_8 lo_8 dr_10 mx7 hd_10 hx7 I_8 ls_9 hl_9
    refine lv_iconst (v := (0 : Int32)) hx hb dX8_scaleNewValues_27 (by decide) ?_
    refine lv_istore_n (lv' := [(3, .int (0 : Int32)), (0, .ref (ad 33)), (1, .double mx7)]) hx hb dX8_scaleNewValues_28 rfl hl_9 (by decide) rfl (fun ls_11 hl_11 => ?_)
    obtain ⟨Dd14, hq2, hf⟩ := bd_some hf
    have K2 : ∀ (H : Heap) (locs : List Loc) (d : Drawn) (Dm14 : Nat → Nat → UInt64), s.drawn.sameBut d lw_cs → alikeM Dm14 Dd14 → sInv D (cT cI cJ cD cS) (cW ad cI cJ cD cS) A s H locs (G, E, Dm14, P, L, pf) → ∀ (ls : Array Slot), lv_has ls 4 [] → W p l e R (s.setDrawn d) m args below meth c H locs 0 0 Q (F0 m 78 ls []) := by
      intro H_15 lo_15 dr_17 Dm14 hd_17 ha14 I_15 ls_16 hl_16
      cases hf
      exact ret H_15 lo_15 _ ls_16 dr_17 _ hd_17 I_15 ⟨rfl, rfl, ha14, rfl⟩ dX8_scaleNewValues_78
    have L2 : ∀ (n : Nat) (x12 : Int32) (Dd13 : Nat → Nat → UInt64), lp (fun q => C_SR_scaleNewValues_s2 x7 G q.1 q.2) n (x12, Dd13) = some Dd14 → ∀ (H : Heap) (locs : List Loc) (d : Drawn) (Dm13 : Nat → Nat → UInt64), s.drawn.sameBut d lw_cs → alikeM Dm13 Dd13 → sInv D (cT cI cJ cD cS) (cW ad cI cJ cD cS) A s H locs (G, E, Dm13, P, L, pf) → ∀ (ls : Array Slot), lv_has ls 4 [(0, .ref (ad 33)), (1, .double mx7), (3, .int x12)] → W p l e R (s.setDrawn d) m args below meth c H locs 0 0 Q (F0 m 29 ls []) := by
      intro n
      induction n with
      | zero => intro x12 Dd13 hq; exact (lp_0 hq).elim
      | succ n ih2 =>
        intro x12 Dd13 hq H_18 lo_18 dr_20 Dm13 hd_20 ha13 I_18 ls_19 hl_19
        obtain ⟨y2, hf, hK2⟩ := lp_go hq
        replace hf : C_SR_scaleNewValues_s2 x7 G x12 Dd13 = some y2 := hf
        unfold C_SR_scaleNewValues_s2 at hf
        refine lv_iload_n hx hb dX8_scaleNewValues_29 rfl (lv_at hl_19 2 rfl) ?_
        refine lv_aload_n hx hb dX8_scaleNewValues_30 rfl (lv_at hl_19 0 rfl) ?_
        refine kgtX8_9_33 (Fdr F) (Idr I_18) dX8_scaleNewValues_31 ?_
        refine lv_icmp_ge (tgt := 78) hx hb dX8_scaleNewValues_34 (by decide) (fun c39 => ?_) (fun c39 => ?_)
        · replace hf := (if_pos c39).symm.trans hf
          cases hf
          cases (show Dd13 = Dd14 from hK2)
          exact K2 H_18 lo_18 dr_20 Dm13 hd_20 ha13 I_18 ls_19 (lv_sub hl_19 [] rfl)
        · replace hf := (if_neg c39).symm.trans hf
          refine lv_aload_n hx hb dX8_scaleNewValues_37 rfl (lv_at hl_19 0 rfl) ?_
          refine kgtX8_23_33 (Fdr F) (Idr I_18) dX8_scaleNewValues_38 ?_
          refine lv_iload_n hx hb dX8_scaleNewValues_41 rfl (lv_at hl_19 2 rfl) ?_
          refine lv_dload_n hx hb dX8_scaleNewValues_42 rfl (lv_at hl_19 1 rfl) ?_
          refine lv_dconst0 hx hb dX8_scaleNewValues_43 ?_
          refine lv_dcmp hx hb dX8_scaleNewValues_44 ?_
          rw [al_dcmp hx7 (al_rf _)]
          obtain ⟨x22, hv31, hf⟩ := bd_some hf
          have J21 : ∀ (H : Heap) (locs : List Loc) (d : Drawn) (mx22 : UInt64), s.drawn.sameBut d lw_cs → alike64 mx22 x22 = true → sInv D (cT cI cJ cD cS) (cW ad cI cJ cD cS) A s H locs (G, E, Dm13, P, L, pf) → ∀ (ls : Array Slot), lv_has ls 4 [(0, .ref (ad 33)), (1, .double mx7), (3, .int x12)] → W p l e R (s.setDrawn d) m args below meth c H locs 0 0 Q (F0 m 71 ls [.double mx22, .int x12, .ref (ad 36)]) := by
            intro H_23 lo_23 dr_25 mx22 hd_25 hx22 I_23 ls_24 hl_24
            obtain ⟨g26, hf⟩ := ri_some hf
            refine kas36 (Fdr F) (Idr I_23) g26 dX8_scaleNewValues_71 ?_
            intro H_28 lo_28 Dm27 eDm27 I_28
            replace I_28 := Irr I_28
            obtain ⟨Dd27, eDd27⟩ : ∃ z, z = wr Dd13 1 x12 x22 := ⟨_, rfl⟩
            replace hf := nm_some eDd27 hf
            have ha27 : alikeM Dm27 Dd27 := alM_eq eDm27 eDd27 (al_wr ha13 hx22)
            obtain ⟨x29, ex29⟩ : ∃ y : Int32, y = x12 + (1 : Int32) := ⟨_, rfl⟩
            replace hf := nm_some ex29 hf
            refine lv_iinc (v := x29) (lv' := [(3, .int x29), (0, .ref (ad 33)), (1, .double mx7)]) hx hb dX8_scaleNewValues_72 hl_24 (k := 2) rfl (by rw [ex29]; rfl) (by decide) rfl (fun ls_30 hl_30 => ?_)
            refine lv_goto (tgt := 29) hx hb dX8_scaleNewValues_75 (by decide) ?_
            cases hf
            exact ih2 _ _ hK2 H_28 lo_28 dr_25 Dm27 hd_25 ha27 I_28 ls_30 (lv_sub hl_30 [1, 2, 0] rfl)
          replace hf := hv31
          refine lv_if_le (tgt := 65) hx hb dX8_scaleNewValues_45 (by decide) (fun c38 => ?_) (fun c38 => ?_)
          · replace hf := (if_pos c38).symm.trans hf
            refine lv_aload_n hx hb dX8_scaleNewValues_65 rfl (lv_at hl_19 0 rfl) ?_
            refine kgtX8_26_33 (Fdr F) (Idr I_18) dX8_scaleNewValues_66 ?_
            refine lv_iload_n hx hb dX8_scaleNewValues_69 rfl (lv_at hl_19 2 rfl) ?_
            obtain ⟨g32, hf⟩ := ri_some hf
            refine kal37 (Fdr F) (Idr I_18) g32 dX8_scaleNewValues_70 ?_
            cases hf
            exact J21 H_18 lo_18 dr_20 (Dm13 2 x12.toNatClampNeg) hd_20 (ha13 2 _) I_18 ls_19 (lv_sub hl_19 [0, 1, 2] rfl)
          · replace hf := (if_neg c38).symm.trans hf
            refine lv_aload_n hx hb dX8_scaleNewValues_48 rfl (lv_at hl_19 0 rfl) ?_
            refine kgtX8_26_33 (Fdr F) (Idr I_18) dX8_scaleNewValues_49 ?_
            refine lv_iload_n hx hb dX8_scaleNewValues_52 rfl (lv_at hl_19 2 rfl) ?_
            obtain ⟨g33, hf⟩ := ri_some hf
            refine kal37 (Fdr F) (Idr I_18) g33 dX8_scaleNewValues_53 ?_
            refine lv_aload_n hx hb dX8_scaleNewValues_54 rfl (lv_at hl_19 0 rfl) ?_
            refine kgtX8_9_33 (Fdr F) (Idr I_18) dX8_scaleNewValues_55 ?_
            refine lv_i2d hx hb dX8_scaleNewValues_58 ?_
            refine lv_dload_n hx hb dX8_scaleNewValues_59 rfl (lv_at hl_19 1 rfl) ?_
            refine lv_ddiv_any hd_20 lw_bits hx hb dX8_scaleNewValues_60 (fun u34 dr_35 alu34 hd_35 => ?_)
            have hu34 := al_ddiv alu34 (al_rf _) hx7
            refine lv_dmul_any hd_35 lw_bits hx hb dX8_scaleNewValues_61 (fun u36 dr_37 alu36 hd_37 => ?_)
            have hu36 := al_dmul alu36 (ha13 2 _) hu34
            refine lv_goto (tgt := 71) hx hb dX8_scaleNewValues_62 (by decide) ?_
            cases hf
            exact J21 H_18 lo_18 dr_37 u36 hd_37 hu36 I_18 ls_19 (lv_sub hl_19 [0, 1, 2] rfl)
    exact L2 FU _ _ hq2 H_8 lo_8 dr_10 Dm hd_10 ha I_8 ls_11 (lv_sub hl_11 [1, 2, 0] rfl)
  have L1 : ∀ (n : Nat) (x5 : UInt64) (x6 : Int32), lp (fun q => C_SR_scaleNewValues_s1 G Dd q.1 q.2) n (x5, x6) = some x7 → ∀ (H : Heap) (locs : List Loc) (d : Drawn) (mx5 : UInt64), s.drawn.sameBut d lw_cs → alike64 mx5 x5 = true → sInv D (cT cI cJ cD cS) (cW ad cI cJ cD cS) A s H locs (G, E, Dm, P, L, pf) → ∀ (ls : Array Slot), lv_has ls 4 [(0, .ref (ad 33)), (1, .double mx5), (3, .int x6)] → W p l e R (s.setDrawn d) m args below meth c H locs 0 0 Q (F0 m 4 ls []) := by
    intro n
    induction n with
    | zero => intro x5 x6 hq; exact (lp_0 hq).elim
    | succ n ih1 =>
      intro x5 x6 hq H_40 lo_40 dr_42 mx5 hd_42 hx5 I_40 ls_41 hl_41
      obtain ⟨y1, hf, hK1⟩ := lp_go hq
      replace hf : C_SR_scaleNewValues_s1 G Dd x5 x6 = some y1 := hf
      unfold C_SR_scaleNewValues_s1 at hf
      refine lv_iload_n hx hb dX8_scaleNewValues_4 rfl (lv_at hl_41 2 rfl) ?_
      refine lv_aload_n hx hb dX8_scaleNewValues_5 rfl (lv_at hl_41 0 rfl) ?_
      refine kgtX8_9_33 (Fdr F) (Idr I_40) dX8_scaleNewValues_6 ?_
      refine lv_icmp_ge (tgt := 27) hx hb dX8_scaleNewValues_9 (by decide) (fun c50 => ?_) (fun c50 => ?_)
      · replace hf := (if_pos c50).symm.trans hf
        cases hf
        cases (show x5 = x7 from hK1)
        exact K1 H_40 lo_40 dr_42 mx5 hd_42 hx5 I_40 ls_41 (lv_sub hl_41 [0, 1] rfl)
      · replace hf := (if_neg c50).symm.trans hf
        refine lv_dload_n hx hb dX8_scaleNewValues_12 rfl (lv_at hl_41 1 rfl) ?_
        refine lv_aload_n hx hb dX8_scaleNewValues_13 rfl (lv_at hl_41 0 rfl) ?_
        refine kgtX8_26_33 (Fdr F) (Idr I_40) dX8_scaleNewValues_14 ?_
        refine lv_iload_n hx hb dX8_scaleNewValues_17 rfl (lv_at hl_41 2 rfl) ?_
        obtain ⟨g43, hf⟩ := ri_some hf
        refine kal37 (Fdr F) (Idr I_40) g43 dX8_scaleNewValues_18 ?_
        refine lv_dadd_any hd_42 lw_bits hx hb dX8_scaleNewValues_19 (fun u44 dr_45 alu44 hd_45 => ?_)
        have hu44 := al_dadd alu44 hx5 (ha 2 _)
        obtain ⟨x46, ex46⟩ : ∃ z : UInt64, z = (FP.dadd x5 (Dd 2 x6.toNatClampNeg)) := ⟨_, rfl⟩
        replace hf := nm_some ex46 hf
        have hx46 := al_eq2 ex46 hu44
        refine lv_dstore_n (lv' := [(1, .double u44), (0, .ref (ad 33)), (3, .int x6)]) hx hb dX8_scaleNewValues_20 rfl hl_41 (by decide) rfl (fun ls_47 hl_47 => ?_)
        obtain ⟨x48, ex48⟩ : ∃ y : Int32, y = x6 + (1 : Int32) := ⟨_, rfl⟩
        replace hf := nm_some ex48 hf
        refine lv_iinc (v := x48) (lv' := [(3, .int x48), (1, .double u44), (0, .ref (ad 33))]) hx hb dX8_scaleNewValues_21 hl_47 (k := 2) rfl (by rw [ex48]; rfl) (by decide) rfl (fun ls_49 hl_49 => ?_)
        refine lv_goto (tgt := 4) hx hb dX8_scaleNewValues_24 (by decide) ?_
        cases hf
        exact ih1 _ _ hK1 H_40 lo_40 dr_45 u44 hd_45 hx46 I_40 ls_49 (lv_sub hl_49 [2, 1, 0] rfl)
  exact L1 FU _ _ hq1 H lo dr m2 hd hm2 I ls_4 (lv_sub hl_4 [2, 1, 0] rfl)
def C_TA_tiesOf (G : Nat → Nat → Int32) (a0 : Int32) (a1 : Int32) : Option (Int32) :=
nm (C_LT_cell a0 a1) fun r1 =>
ri 64 r1 <|
some (G 17 r1.toNatClampNeg)
set_option maxRecDepth 100000 in
set_option maxHeartbeats 4000000 in
theorem cC_TA_tiesOf (G : Nat → Nat → Int32) (E : Nat → Nat → Int64) (Dd : Nat → Nat → UInt64) (P : Nat → Option Nat) (L : List Nat) (pf : Nat → va_E) (a0 : Int32) (a1 : Int32) (rv : Int32)  (hf : C_TA_tiesOf G a0 a1 = some rv) : sMi D (cT cI cJ cD cS) (cW ad cI cJ cD cS) l yX9_tiesOf (ws1 yX9_tiesOf cX9_tiesOf 3 (some .int)) ({ frames := 1, cells := 0, slots := 0, locals := 21 }) [.ref (ad 9), .int a0, .int a1] (G, E, Dd, P, L, pf) (rv, (G, E, Dd, P, L, pf)) := by
  unfold C_TA_tiesOf at hf
  refine sMi_of (by decide) (Nat.le_of_ble_eq_true rfl) ?_
  intro p e R s m args below meth c A Q ls H lo F hRf hRl I hl ret
  obtain ⟨hx, hb, hml, hown, hG⟩ := id F
  replace hl : lv_has ls 3 [(0, .ref (ad 9)), (1, .int a0), (2, .int a1)] := hl
  refine lv_aload_n hx hb dX9_tiesOf_0 rfl (lv_at hl 0 rfl) ?_
  refine kgtX9_15_9 F I dX9_tiesOf_1 ?_
  refine lv_iload_n hx hb dX9_tiesOf_4 rfl (lv_at hl 1 rfl) ?_
  refine lv_iload_n hx hb dX9_tiesOf_5 rfl (lv_at hl 2 rfl) ?_
  obtain ⟨r1, h2⟩ : ∃ z, z = C_LT_cell a0 a1 := ⟨_, rfl⟩
  replace hf := nm_some h2 hf
  refine s_callSNi (As := [.int a0, .int a1]) (rest := [.ref (ad 11)]) F I (cC_LT_cell G E Dd P L pf a0 a1 r1 h2) kX9_43 ⟨rfl, rfl⟩ ⟨Nat.le_trans (Nat.le_of_ble_eq_true rfl) hRf, Nat.le_trans (Nat.le_of_ble_eq_true rfl) hRl⟩ rfl rfl hl.1 (Nat.le_of_ble_eq_true rfl) ⟨Nat.zero_le _, Nat.zero_le _⟩ dX9_tiesOf_6 ?_
  intro H_3 lo_3 I_3
  obtain ⟨g4, hf⟩ := ri_some hf
  refine kal11 F I_3 g4 dX9_tiesOf_9 ?_
  cases hf
  exact ret H_3 lo_3 _ ls I_3 dX9_tiesOf_10
def C_SR_takeResults_s1 (a1 : Int32) (x4 : Int32) (x5 : Int32) (x6 : Int32) (G7 : Nat → Nat → Int32) : Option ((Int32 × Int32 × Int32 × (Nat → Nat → Int32)) ⊕ (Int32 × Int32 × (Nat → Nat → Int32))) :=
if G7 41 0 ≤ x6 then
(some (.inr (x4, x5, G7)))
else
(bd (C_TA_winsOf G7 a1 x6) fun r24 =>
nm (x4 + r24 : Int32) fun x27 =>
bd (C_TA_tiesOf G7 a1 x6) fun r29 =>
nm (x5 + r29 : Int32) fun x32 =>
nm (C_LT_cell a1 x6) fun r34 =>
bd (C_TA_decidedOf G7 a1 x6) fun r37 =>
bd (C_TA_tiesOf G7 a1 x6) fun r40 =>
ri 64 r34 <|
nm (wr G7 42 r34 (r37 + r40)) fun G44 =>
nm (x6 + (1 : Int32) : Int32) fun x46 =>
some (.inl (x27, x32, x46, G44)))
def C_SR_takeResults (G : Nat → Nat → Int32) (Dd : Nat → Nat → UInt64) (a1 : Int32) : Option ((Nat → Nat → Int32) × (Nat → Nat → UInt64)) :=
bd3 (lp (fun q => C_SR_takeResults_s1 a1 q.1 q.2.1 q.2.2.1 q.2.2.2) FU ((0 : Int32), (0 : Int32), (0 : Int32), G)) fun x8 x9 G10 =>
ri 8 (a1 &&& (7 : Int32)) <|
nm (wr Dd 0 (a1 &&& (7 : Int32)) (FP.dadd (FP.i2d x8) (FP.dmul (4602678819172646912 : UInt64) (FP.i2d x9)))) fun Dd19 =>
some (G10, Dd19)
set_option maxRecDepth 100000 in
set_option maxHeartbeats 4000000 in
theorem cC_SR_takeResults (G : Nat → Nat → Int32) (E : Nat → Nat → Int64) (Dd : Nat → Nat → UInt64) (P : Nat → Option Nat) (L : List Nat) (pf : Nat → va_E) (a1 : Int32)  (newG : Nat → Nat → Int32) (newDd : Nat → Nat → UInt64) (hf : C_SR_takeResults G Dd a1 = some (newG, newDd)) : sDv D (cT cI cJ cD cS) (cW ad cI cJ cD cS) cSm l yX8_takeResults (ws1 yX8_takeResults cX8_takeResults 6 none) ({ frames := 2, cells := 0, slots := 0, locals := 43 }) [.ref (ad 33), .ref (ad 9), .int a1] (G, E, Dd, P, L, pf) (newG, E, newDd, P, L, pf) := by
  unfold C_SR_takeResults at hf
  refine sDv_of (by decide) (Nat.le_of_ble_eq_true rfl) ?_
  intro p e R s m args below meth c A Q ls H lo dr sgm F hRf hRl hd hsm I hl ret
  obtain ⟨_, _, Dm, _⟩ := sgm
  obtain ⟨rfl, rfl, ha, rfl⟩ := cSm_dest hsm
  obtain ⟨hx, hb, hml, hown, hG⟩ := id F
  replace hl : lv_has ls 6 [(0, .ref (ad 33)), (1, .ref (ad 9)), (2, .int a1)] := hl
  refine lv_iconst (v := (0 : Int32)) hx hb dX8_takeResults_0 (by decide) ?_
  refine lv_istore_n (lv' := [(3, .int (0 : Int32)), (0, .ref (ad 33)), (1, .ref (ad 9)), (2, .int a1)]) hx hb dX8_takeResults_1 rfl hl (by decide) rfl (fun ls_1 hl_1 => ?_)
  refine lv_iconst (v := (0 : Int32)) hx hb dX8_takeResults_2 (by decide) ?_
  refine lv_istore (lv' := [(4, .int (0 : Int32)), (3, .int (0 : Int32)), (0, .ref (ad 33)), (1, .ref (ad 9)), (2, .int a1)]) hx hb dX8_takeResults_3 hl_1 (by decide) rfl (fun ls_2 hl_2 => ?_)
  refine lv_iconst (v := (0 : Int32)) hx hb dX8_takeResults_5 (by decide) ?_
  refine lv_istore (lv' := [(5, .int (0 : Int32)), (4, .int (0 : Int32)), (3, .int (0 : Int32)), (0, .ref (ad 33)), (1, .ref (ad 9)), (2, .int a1)]) hx hb dX8_takeResults_6 hl_2 (by decide) rfl (fun ls_3 hl_3 => ?_)
  obtain ⟨x8, x9, G10, hq1, hf⟩ := bd3_some hf
  have K1 : ∀ (H : Heap) (locs : List Loc) (d : Drawn), s.drawn.sameBut d lw_cs → sInv D (cT cI cJ cD cS) (cW ad cI cJ cD cS) A s H locs (G10, E, Dm, P, L, pf) → ∀ (ls : Array Slot), lv_has ls 6 [(0, .ref (ad 33)), (2, .int a1), (3, .int x8), (4, .int x9)] → W p l e R (s.setDrawn d) m args below meth c H locs 0 0 Q (F0 m 71 ls []) := by
    intro H_11 lo_11 dr_13 hd_13 I_11 ls_12 hl_12
    refine lv_aload_n hx hb dX8_takeResults_71 rfl (lv_at hl_12 0 rfl) ?_
    refine kgtX8_19_33 (Fdr F) (Idr I_11) dX8_takeResults_72 ?_
    refine lv_iload_n hx hb dX8_takeResults_75 rfl (lv_at hl_12 1 rfl) ?_
    refine lv_bipush (v := (7 : Int32)) hx hb dX8_takeResults_76 (by decide) ?_
    refine lv_iand hx hb dX8_takeResults_78 ?_
    refine lv_iload_n hx hb dX8_takeResults_79 rfl (lv_at hl_12 2 rfl) ?_
    refine lv_i2d hx hb dX8_takeResults_80 ?_
    refine lv_ldc2d (v := (4602678819172646912 : UInt64)) hx hb hown (dr_words hG _ _ q631) dX8_takeResults_81 ?_
    refine lv_iload hx hb dX8_takeResults_84 (lv_at hl_12 3 rfl) ?_
    refine lv_i2d hx hb dX8_takeResults_86 ?_
    refine lv_dmul_any hd_13 lw_bits hx hb dX8_takeResults_87 (fun u14 dr_15 alu14 hd_15 => ?_)
    have hu14 := al_dmul alu14 (al_rf _) (al_rf _)
    refine lv_dadd_any hd_15 lw_bits hx hb dX8_takeResults_88 (fun u16 dr_17 alu16 hd_17 => ?_)
    have hu16 := al_dadd alu16 (al_rf _) hu14
    obtain ⟨g18, hf⟩ := ri_some hf
    refine kas35 (Fdr F) (Idr I_11) g18 dX8_takeResults_89 ?_
    intro H_20 lo_20 Dm19 eDm19 I_20
    replace I_20 := Irr I_20
    obtain ⟨Dd19, eDd19⟩ : ∃ z, z = wr Dd 0 (a1 &&& (7 : Int32)) (FP.dadd (FP.i2d x8) (FP.dmul (4602678819172646912 : UInt64) (FP.i2d x9))) := ⟨_, rfl⟩
    replace hf := nm_some eDd19 hf
    have ha19 : alikeM Dm19 Dd19 := alM_eq eDm19 eDd19 (al_wr ha hu16)
    cases hf
    exact ret H_20 lo_20 _ ls_12 dr_17 _ hd_17 I_20 ⟨rfl, rfl, ha19, rfl⟩ dX8_takeResults_90
  have L1 : ∀ (n : Nat) (x4 : Int32) (x5 : Int32) (x6 : Int32) (G7 : Nat → Nat → Int32), lp (fun q => C_SR_takeResults_s1 a1 q.1 q.2.1 q.2.2.1 q.2.2.2) n (x4, x5, x6, G7) = some (x8, x9, G10) → ∀ (H : Heap) (locs : List Loc) (d : Drawn), s.drawn.sameBut d lw_cs → sInv D (cT cI cJ cD cS) (cW ad cI cJ cD cS) A s H locs (G7, E, Dm, P, L, pf) → ∀ (ls : Array Slot), lv_has ls 6 [(0, .ref (ad 33)), (1, .ref (ad 9)), (2, .int a1), (3, .int x4), (4, .int x5), (5, .int x6)] → W p l e R (s.setDrawn d) m args below meth c H locs 0 0 Q (F0 m 8 ls []) := by
    intro n
    induction n with
    | zero => intro x4 x5 x6 G7 hq; exact (lp_0 hq).elim
    | succ n ih1 =>
      intro x4 x5 x6 G7 hq H_21 lo_21 dr_23 hd_23 I_21 ls_22 hl_22
      obtain ⟨y1, hf, hK1⟩ := lp_go hq
      replace hf : C_SR_takeResults_s1 a1 x4 x5 x6 G7 = some y1 := hf
      unfold C_SR_takeResults_s1 at hf
      refine lv_iload hx hb dX8_takeResults_8 (lv_at hl_22 5 rfl) ?_
      refine lv_aload_n hx hb dX8_takeResults_10 rfl (lv_at hl_22 0 rfl) ?_
      refine kgtX8_9_33 (Fdr F) (Idr I_21) dX8_takeResults_11 ?_
      refine lv_icmp_ge (tgt := 71) hx hb dX8_takeResults_14 (by decide) (fun c48 => ?_) (fun c48 => ?_)
      · replace hf := (if_pos c48).symm.trans hf
        cases hf
        cases (show (x4, x5, G7) = (x8, x9, G10) from hK1)
        exact K1 H_21 lo_21 dr_23 hd_23 I_21 ls_22 (lv_sub hl_22 [0, 2, 3, 4] rfl)
      · replace hf := (if_neg c48).symm.trans hf
        refine lv_iload_n hx hb dX8_takeResults_17 rfl (lv_at hl_22 3 rfl) ?_
        refine lv_aload_n hx hb dX8_takeResults_18 rfl (lv_at hl_22 1 rfl) ?_
        refine lv_iload_n hx hb dX8_takeResults_19 rfl (lv_at hl_22 2 rfl) ?_
        refine lv_iload hx hb dX8_takeResults_20 (lv_at hl_22 5 rfl) ?_
        obtain ⟨r24, h25, hf⟩ := bd_some hf
        refine s_callVi (As := [.int a1, .int x6]) (rest := [.int x4]) (Fdr F) (Idr I_21) (cC_TA_winsOf G7 E Dm P L pf a1 x6 r24 h25) kX8_55 ⟨rfl, rfl⟩ ⟨Nat.le_trans (Nat.le_of_ble_eq_true rfl) hRf, Nat.le_trans (Nat.le_of_ble_eq_true rfl) hRl⟩ 9 9 rfl rfl rfl rfl rfl hl_22.1 (Nat.le_of_ble_eq_true rfl) ⟨Nat.zero_le _, Nat.zero_le _⟩ dX8_takeResults_22 ?_
        intro H_26 lo_26 I_26
        replace I_26 := Irr I_26
        refine lv_iadd hx hb dX8_takeResults_25 ?_
        refine lv_topi (fun x27 ex27 => ?_)
        replace hf := nm_some ex27 hf
        refine lv_istore_n (lv' := [(3, .int x27), (0, .ref (ad 33)), (1, .ref (ad 9)), (2, .int a1), (4, .int x5), (5, .int x6)]) hx hb dX8_takeResults_26 rfl hl_22 (by decide) rfl (fun ls_28 hl_28 => ?_)
        refine lv_iload hx hb dX8_takeResults_27 (lv_at hl_28 4 rfl) ?_
        refine lv_aload_n hx hb dX8_takeResults_29 rfl (lv_at hl_28 2 rfl) ?_
        refine lv_iload_n hx hb dX8_takeResults_30 rfl (lv_at hl_28 3 rfl) ?_
        refine lv_iload hx hb dX8_takeResults_31 (lv_at hl_28 5 rfl) ?_
        obtain ⟨r29, h30, hf⟩ := bd_some hf
        refine s_callVi (As := [.int a1, .int x6]) (rest := [.int x5]) (Fdr F) (Idr I_26) (cC_TA_tiesOf G7 E Dm P L pf a1 x6 r29 h30) kX8_60 ⟨rfl, rfl⟩ ⟨Nat.le_trans (Nat.le_of_ble_eq_true rfl) hRf, Nat.le_trans (Nat.le_of_ble_eq_true rfl) hRl⟩ 9 9 rfl rfl rfl rfl rfl hl_28.1 (Nat.le_of_ble_eq_true rfl) ⟨Nat.zero_le _, Nat.zero_le _⟩ dX8_takeResults_33 ?_
        intro H_31 lo_31 I_31
        replace I_31 := Irr I_31
        refine lv_iadd hx hb dX8_takeResults_36 ?_
        refine lv_topi (fun x32 ex32 => ?_)
        replace hf := nm_some ex32 hf
        refine lv_istore (lv' := [(4, .int x32), (3, .int x27), (0, .ref (ad 33)), (1, .ref (ad 9)), (2, .int a1), (5, .int x6)]) hx hb dX8_takeResults_37 hl_28 (by decide) rfl (fun ls_33 hl_33 => ?_)
        refine lv_aload_n hx hb dX8_takeResults_39 rfl (lv_at hl_33 2 rfl) ?_
        refine kgtX8_15_33 (Fdr F) (Idr I_31) dX8_takeResults_40 ?_
        refine lv_iload_n hx hb dX8_takeResults_43 rfl (lv_at hl_33 4 rfl) ?_
        refine lv_iload hx hb dX8_takeResults_44 (lv_at hl_33 5 rfl) ?_
        obtain ⟨r34, h35⟩ : ∃ z, z = C_LT_cell a1 x6 := ⟨_, rfl⟩
        replace hf := nm_some h35 hf
        refine s_callSNi (As := [.int a1, .int x6]) (rest := [.ref (ad 34)]) (Fdr F) (Idr I_31) (cC_LT_cell G7 E Dm P L pf a1 x6 r34 h35) kX8_63 ⟨rfl, rfl⟩ ⟨Nat.le_trans (Nat.le_of_ble_eq_true rfl) hRf, Nat.le_trans (Nat.le_of_ble_eq_true rfl) hRl⟩ rfl rfl hl_33.1 (Nat.le_of_ble_eq_true rfl) ⟨Nat.zero_le _, Nat.zero_le _⟩ dX8_takeResults_46 ?_
        intro H_36 lo_36 I_36
        replace I_36 := Irr I_36
        refine lv_aload_n hx hb dX8_takeResults_49 rfl (lv_at hl_33 3 rfl) ?_
        refine lv_iload_n hx hb dX8_takeResults_50 rfl (lv_at hl_33 4 rfl) ?_
        refine lv_iload hx hb dX8_takeResults_51 (lv_at hl_33 5 rfl) ?_
        obtain ⟨r37, h38, hf⟩ := bd_some hf
        refine s_callVi (As := [.int a1, .int x6]) (rest := [.int r34, .ref (ad 34)]) (Fdr F) (Idr I_36) (cC_TA_decidedOf G7 E Dm P L pf a1 x6 r37 h38) kX8_66 ⟨rfl, rfl⟩ ⟨Nat.le_trans (Nat.le_of_ble_eq_true rfl) hRf, Nat.le_trans (Nat.le_of_ble_eq_true rfl) hRl⟩ 9 9 rfl rfl rfl rfl rfl hl_33.1 (Nat.le_of_ble_eq_true rfl) ⟨Nat.zero_le _, Nat.zero_le _⟩ dX8_takeResults_53 ?_
        intro H_39 lo_39 I_39
        replace I_39 := Irr I_39
        refine lv_aload_n hx hb dX8_takeResults_56 rfl (lv_at hl_33 3 rfl) ?_
        refine lv_iload_n hx hb dX8_takeResults_57 rfl (lv_at hl_33 4 rfl) ?_
        refine lv_iload hx hb dX8_takeResults_58 (lv_at hl_33 5 rfl) ?_
        obtain ⟨r40, h41, hf⟩ := bd_some hf
        refine s_callVi (As := [.int a1, .int x6]) (rest := [.int r37, .int r34, .ref (ad 34)]) (Fdr F) (Idr I_39) (cC_TA_tiesOf G7 E Dm P L pf a1 x6 r40 h41) kX8_60 ⟨rfl, rfl⟩ ⟨Nat.le_trans (Nat.le_of_ble_eq_true rfl) hRf, Nat.le_trans (Nat.le_of_ble_eq_true rfl) hRl⟩ 9 9 rfl rfl rfl rfl rfl hl_33.1 (Nat.le_of_ble_eq_true rfl) ⟨Nat.zero_le _, Nat.zero_le _⟩ dX8_takeResults_60 ?_
        intro H_42 lo_42 I_42
        replace I_42 := Irr I_42
        refine lv_iadd hx hb dX8_takeResults_63 ?_
        obtain ⟨g43, hf⟩ := ri_some hf
        refine kas34 (Fdr F) (Idr I_42) g43 dX8_takeResults_64 ?_
        intro H_45 lo_45 G44 eG44 I_45
        replace I_45 := Irr I_45
        replace hf := nm_some eG44 hf
        obtain ⟨x46, ex46⟩ : ∃ y : Int32, y = x6 + (1 : Int32) := ⟨_, rfl⟩
        replace hf := nm_some ex46 hf
        refine lv_iinc (v := x46) (lv' := [(5, .int x46), (4, .int x32), (3, .int x27), (0, .ref (ad 33)), (1, .ref (ad 9)), (2, .int a1)]) hx hb dX8_takeResults_65 hl_33 (k := 5) rfl (by rw [ex46]; rfl) (by decide) rfl (fun ls_47 hl_47 => ?_)
        refine lv_goto (tgt := 8) hx hb dX8_takeResults_68 (by decide) ?_
        cases hf
        exact ih1 _ _ _ _ hK1 H_45 lo_45 dr_23 hd_23 I_45 ls_47 (lv_sub hl_47 [3, 4, 5, 2, 1, 0] rfl)
  exact L1 FU _ _ _ _ hq1 H lo dr hd I ls_3 (lv_sub hl_3 [3, 4, 5, 2, 1, 0] rfl)
def C_SR_fit_s2 (a2 : Int32) (G7 : Nat → Nat → Int32) (x17 : Int32) (Dd18 : Nat → Nat → UInt64) : Option ((Int32 × (Nat → Nat → UInt64)) ⊕ ((Nat → Nat → UInt64))) :=
if a2 ≤ x17 then
(some (.inr Dd18))
else
(bd (C_SR_makeNewValues G7 Dd18) fun Dd26 =>
bd (C_SR_scaleNewValues G7 Dd26) fun Dd30 =>
nm (x17 + (1 : Int32) : Int32) fun x34 =>
some (.inl (x34, Dd30)))
def C_SR_fit_s1  (x4 : Int32) (G5 : Nat → Nat → Int32) (Dd6 : Nat → Nat → UInt64) : Option ((Int32 × (Nat → Nat → Int32) × (Nat → Nat → UInt64)) ⊕ ((Nat → Nat → Int32) × (Nat → Nat → UInt64))) :=
if G5 41 0 ≤ x4 then
(some (.inr (G5, Dd6)))
else
(bd2 (C_SR_takeResults G5 Dd6 x4) fun G40 Dd41 =>
nm (x4 + (1 : Int32) : Int32) fun x45 =>
some (.inl (x45, G40, Dd41)))
def C_SR_fit (G : Nat → Nat → Int32) (Dd : Nat → Nat → UInt64) (a1 : Int32) (a2 : Int32) : Option ((Nat → Nat → Int32) × (Nat → Nat → UInt64)) :=
nm (wf G 41 (if (8 : Int32) < a1 then (8 : Int32) else a1)) fun G1 =>
bd2 (lp (fun q => C_SR_fit_s1 q.1 q.2.1 q.2.2) FU ((0 : Int32), G1, Dd)) fun G7 Dd8 =>
bd (C_JA_fill_d_36 Dd8 FP.dconst1) fun Dd12 =>
bd (lp (fun q => C_SR_fit_s2 a2 G7 q.1 q.2) FU ((0 : Int32), Dd12)) fun Dd19 =>
some (G7, Dd19)
set_option maxRecDepth 100000 in
set_option maxHeartbeats 4000000 in
theorem cC_SR_fit (G : Nat → Nat → Int32) (E : Nat → Nat → Int64) (Dd : Nat → Nat → UInt64) (P : Nat → Option Nat) (L : List Nat) (pf : Nat → va_E) (a1 : Int32) (a2 : Int32)  (newG : Nat → Nat → Int32) (newDd : Nat → Nat → UInt64) (hf : C_SR_fit G Dd a1 a2 = some (newG, newDd)) : sDv D (cT cI cJ cD cS) (cW ad cI cJ cD cS) cSm l yX8_fit (ws1 yX8_fit cX8_fit 5 none) ({ frames := 3, cells := 0, slots := 0, locals := 68 }) [.ref (ad 33), .ref (ad 9), .int a1, .int a2] (G, E, Dd, P, L, pf) (newG, E, newDd, P, L, pf) := by
  unfold C_SR_fit at hf
  refine sDv_of (by decide) (Nat.le_of_ble_eq_true rfl) ?_
  intro p e R s m args below meth c A Q ls H lo dr sgm F hRf hRl hd hsm I hl ret
  obtain ⟨_, _, Dm, _⟩ := sgm
  obtain ⟨rfl, rfl, ha, rfl⟩ := cSm_dest hsm
  obtain ⟨hx, hb, hml, hown, hG⟩ := id F
  replace hl : lv_has ls 5 [(0, .ref (ad 33)), (1, .ref (ad 9)), (2, .int a1), (3, .int a2)] := hl
  refine lv_aload_n hx hb dX8_fit_0 rfl (lv_at hl 0 rfl) ?_
  refine lv_iload_n hx hb dX8_fit_1 rfl (lv_at hl 2 rfl) ?_
  refine lv_bipush (v := (8 : Int32)) hx hb dX8_fit_2 (by decide) ?_
  refine va_mmin (s := s.setDrawn dr) (rest := [.ref (ad 33)]) hx hb (hml.trans hl.1.symm) hown (dr_words hG _ _ q613) (dr_words hG _ _ q580) (dr_words hG _ _ q126) (dr_words hG _ _ q581) (Nat.le_trans (Nat.le_of_ble_eq_true rfl) hRf) (Nat.le_trans (Nat.le_of_ble_eq_true rfl) hRl) (Nat.zero_le _) (Nat.zero_le _) dX8_fit_4 ?_
  refine kptX8_9_33 (Fdr F) (Idr I) dX8_fit_7 ?_
  intro H_2 lo_2 G1 eG1 I_2
  replace I_2 := Irr I_2
  replace hf := nm_some eG1 hf
  refine lv_iconst (v := (0 : Int32)) hx hb dX8_fit_10 (by decide) ?_
  refine lv_istore (lv' := [(4, .int (0 : Int32)), (0, .ref (ad 33)), (1, .ref (ad 9)), (2, .int a1), (3, .int a2)]) hx hb dX8_fit_11 hl (by decide) rfl (fun ls_3 hl_3 => ?_)
  obtain ⟨G7, Dd8, hq1, hf⟩ := bd2_some hf
  have K1 : ∀ (H : Heap) (locs : List Loc) (d : Drawn) (Dm8 : Nat → Nat → UInt64), s.drawn.sameBut d lw_cs → alikeM Dm8 Dd8 → sInv D (cT cI cJ cD cS) (cW ad cI cJ cD cS) A s H locs (G7, E, Dm8, P, L, pf) → ∀ (ls : Array Slot), lv_has ls 5 [(0, .ref (ad 33)), (3, .int a2)] → W p l e R (s.setDrawn d) m args below meth c H locs 0 0 Q (F0 m 35 ls []) := by
    intro H_9 lo_9 dr_11 Dm8 hd_11 ha8 I_9 ls_10 hl_10
    refine lv_aload_n hx hb dX8_fit_35 rfl (lv_at hl_10 0 rfl) ?_
    refine kgtX8_23_33 (Fdr F) (Idr I_9) dX8_fit_36 ?_
    refine lv_dconst1 hx hb dX8_fit_39 ?_
    obtain ⟨Dd12, h13, hf⟩ := bd_some hf
    refine d_callSv (As := [.ref (ad 36), .double (FP.dconst1)]) (rest := []) F hd_11 I_9 ⟨rfl, rfl, ha8, rfl⟩ (cC_JA_fill_d_36 G7 E Dd8 P L pf FP.dconst1 Dd12 h13) kX8_39 ⟨rfl, rfl⟩ ⟨Nat.le_trans (Nat.le_of_ble_eq_true rfl) hRf, Nat.le_trans (Nat.le_of_ble_eq_true rfl) hRl⟩ rfl rfl hl_10.1 (Nat.le_of_ble_eq_true rfl) ⟨Nat.zero_le _, Nat.zero_le _⟩ dX8_fit_40 ?_
    intro H_14 lo_14 dr_15 sg15 hd_15 I_14 hs15
    obtain ⟨_, _, Dm15, _⟩ := sg15
    obtain ⟨rfl, rfl, ha15, rfl⟩ := cSm_dest hs15
    refine lv_iconst (v := (0 : Int32)) hx hb dX8_fit_43 (by decide) ?_
    refine lv_istore (lv' := [(4, .int (0 : Int32)), (0, .ref (ad 33)), (3, .int a2)]) hx hb dX8_fit_44 hl_10 (by decide) rfl (fun ls_16 hl_16 => ?_)
    obtain ⟨Dd19, hq2, hf⟩ := bd_some hf
    have K2 : ∀ (H : Heap) (locs : List Loc) (d : Drawn) (Dm19 : Nat → Nat → UInt64), s.drawn.sameBut d lw_cs → alikeM Dm19 Dd19 → sInv D (cT cI cJ cD cS) (cW ad cI cJ cD cS) A s H locs (G7, E, Dm19, P, L, pf) → ∀ (ls : Array Slot), lv_has ls 5 [] → W p l e R (s.setDrawn d) m args below meth c H locs 0 0 Q (F0 m 66 ls []) := by
      intro H_20 lo_20 dr_22 Dm19 hd_22 ha19 I_20 ls_21 hl_21
      cases hf
      exact ret H_20 lo_20 _ ls_21 dr_22 _ hd_22 I_20 ⟨rfl, rfl, ha19, rfl⟩ dX8_fit_66
    have L2 : ∀ (n : Nat) (x17 : Int32) (Dd18 : Nat → Nat → UInt64), lp (fun q => C_SR_fit_s2 a2 G7 q.1 q.2) n (x17, Dd18) = some Dd19 → ∀ (H : Heap) (locs : List Loc) (d : Drawn) (Dm18 : Nat → Nat → UInt64), s.drawn.sameBut d lw_cs → alikeM Dm18 Dd18 → sInv D (cT cI cJ cD cS) (cW ad cI cJ cD cS) A s H locs (G7, E, Dm18, P, L, pf) → ∀ (ls : Array Slot), lv_has ls 5 [(0, .ref (ad 33)), (3, .int a2), (4, .int x17)] → W p l e R (s.setDrawn d) m args below meth c H locs 0 0 Q (F0 m 46 ls []) := by
      intro n
      induction n with
      | zero => intro x17 Dd18 hq; exact (lp_0 hq).elim
      | succ n ih2 =>
        intro x17 Dd18 hq H_23 lo_23 dr_25 Dm18 hd_25 ha18 I_23 ls_24 hl_24
        obtain ⟨y2, hf, hK2⟩ := lp_go hq
        replace hf : C_SR_fit_s2 a2 G7 x17 Dd18 = some y2 := hf
        unfold C_SR_fit_s2 at hf
        refine lv_iload hx hb dX8_fit_46 (lv_at hl_24 2 rfl) ?_
        refine lv_iload_n hx hb dX8_fit_48 rfl (lv_at hl_24 1 rfl) ?_
        refine lv_icmp_ge (tgt := 66) hx hb dX8_fit_49 (by decide) (fun c36 => ?_) (fun c36 => ?_)
        · replace hf := (if_pos c36).symm.trans hf
          cases hf
          cases (show Dd18 = Dd19 from hK2)
          exact K2 H_23 lo_23 dr_25 Dm18 hd_25 ha18 I_23 ls_24 (lv_sub hl_24 [] rfl)
        · replace hf := (if_neg c36).symm.trans hf
          refine lv_aload_n hx hb dX8_fit_52 rfl (lv_at hl_24 0 rfl) ?_
          obtain ⟨Dd26, h27, hf⟩ := bd_some hf
          refine d_callVv (As := []) (rest := []) F hd_25 I_23 ⟨rfl, rfl, ha18, rfl⟩ (cC_SR_makeNewValues G7 E Dd18 P L pf Dd26 h27) kX8_45 ⟨rfl, rfl⟩ ⟨Nat.le_trans (Nat.le_of_ble_eq_true rfl) hRf, Nat.le_trans (Nat.le_of_ble_eq_true rfl) hRl⟩ 33 8 rfl rfl rfl rfl rfl hl_24.1 (Nat.le_of_ble_eq_true rfl) ⟨Nat.zero_le _, Nat.zero_le _⟩ dX8_fit_53 ?_
          intro H_28 lo_28 dr_29 sg29 hd_29 I_28 hs29
          obtain ⟨_, _, Dm29, _⟩ := sg29
          obtain ⟨rfl, rfl, ha29, rfl⟩ := cSm_dest hs29
          refine lv_aload_n hx hb dX8_fit_56 rfl (lv_at hl_24 0 rfl) ?_
          obtain ⟨Dd30, h31, hf⟩ := bd_some hf
          refine d_callVv (As := []) (rest := []) F hd_29 I_28 ⟨rfl, rfl, ha29, rfl⟩ (cC_SR_scaleNewValues G7 E Dd26 P L pf Dd30 h31) kX8_48 ⟨rfl, rfl⟩ ⟨Nat.le_trans (Nat.le_of_ble_eq_true rfl) hRf, Nat.le_trans (Nat.le_of_ble_eq_true rfl) hRl⟩ 33 8 rfl rfl rfl rfl rfl hl_24.1 (Nat.le_of_ble_eq_true rfl) ⟨Nat.zero_le _, Nat.zero_le _⟩ dX8_fit_57 ?_
          intro H_32 lo_32 dr_33 sg33 hd_33 I_32 hs33
          obtain ⟨_, _, Dm33, _⟩ := sg33
          obtain ⟨rfl, rfl, ha33, rfl⟩ := cSm_dest hs33
          obtain ⟨x34, ex34⟩ : ∃ y : Int32, y = x17 + (1 : Int32) := ⟨_, rfl⟩
          replace hf := nm_some ex34 hf
          refine lv_iinc (v := x34) (lv' := [(4, .int x34), (0, .ref (ad 33)), (3, .int a2)]) hx hb dX8_fit_60 hl_24 (k := 2) rfl (by rw [ex34]; rfl) (by decide) rfl (fun ls_35 hl_35 => ?_)
          refine lv_goto (tgt := 46) hx hb dX8_fit_63 (by decide) ?_
          cases hf
          exact ih2 _ _ hK2 H_32 lo_32 dr_33 Dm33 hd_33 ha33 I_32 ls_35 (lv_sub hl_35 [1, 2, 0] rfl)
    exact L2 FU _ _ hq2 H_14 lo_14 dr_15 Dm15 hd_15 ha15 I_14 ls_16 (lv_sub hl_16 [1, 2, 0] rfl)
  have L1 : ∀ (n : Nat) (x4 : Int32) (G5 : Nat → Nat → Int32) (Dd6 : Nat → Nat → UInt64), lp (fun q => C_SR_fit_s1 q.1 q.2.1 q.2.2) n (x4, G5, Dd6) = some (G7, Dd8) → ∀ (H : Heap) (locs : List Loc) (d : Drawn) (Dm6 : Nat → Nat → UInt64), s.drawn.sameBut d lw_cs → alikeM Dm6 Dd6 → sInv D (cT cI cJ cD cS) (cW ad cI cJ cD cS) A s H locs (G5, E, Dm6, P, L, pf) → ∀ (ls : Array Slot), lv_has ls 5 [(0, .ref (ad 33)), (1, .ref (ad 9)), (3, .int a2), (4, .int x4)] → W p l e R (s.setDrawn d) m args below meth c H locs 0 0 Q (F0 m 13 ls []) := by
    intro n
    induction n with
    | zero => intro x4 G5 Dd6 hq; exact (lp_0 hq).elim
    | succ n ih1 =>
      intro x4 G5 Dd6 hq H_37 lo_37 dr_39 Dm6 hd_39 ha6 I_37 ls_38 hl_38
      obtain ⟨y1, hf, hK1⟩ := lp_go hq
      replace hf : C_SR_fit_s1 x4 G5 Dd6 = some y1 := hf
      unfold C_SR_fit_s1 at hf
      refine lv_iload hx hb dX8_fit_13 (lv_at hl_38 3 rfl) ?_
      refine lv_aload_n hx hb dX8_fit_15 rfl (lv_at hl_38 0 rfl) ?_
      refine kgtX8_9_33 (Fdr F) (Idr I_37) dX8_fit_16 ?_
      refine lv_icmp_ge (tgt := 35) hx hb dX8_fit_19 (by decide) (fun c47 => ?_) (fun c47 => ?_)
      · replace hf := (if_pos c47).symm.trans hf
        cases hf
        cases (show (G5, Dd6) = (G7, Dd8) from hK1)
        exact K1 H_37 lo_37 dr_39 Dm6 hd_39 ha6 I_37 ls_38 (lv_sub hl_38 [0, 2] rfl)
      · replace hf := (if_neg c47).symm.trans hf
        refine lv_aload_n hx hb dX8_fit_22 rfl (lv_at hl_38 0 rfl) ?_
        refine lv_aload_n hx hb dX8_fit_23 rfl (lv_at hl_38 1 rfl) ?_
        refine lv_iload hx hb dX8_fit_24 (lv_at hl_38 3 rfl) ?_
        obtain ⟨G40, Dd41, h42, hf⟩ := bd2_some hf
        refine d_callVv (As := [.ref (ad 9), .int x4]) (rest := []) F hd_39 I_37 ⟨rfl, rfl, ha6, rfl⟩ (cC_SR_takeResults G5 E Dd6 P L pf x4 G40 Dd41 h42) kX8_35 ⟨rfl, rfl⟩ ⟨Nat.le_trans (Nat.le_of_ble_eq_true rfl) hRf, Nat.le_trans (Nat.le_of_ble_eq_true rfl) hRl⟩ 33 8 rfl rfl rfl rfl rfl hl_38.1 (Nat.le_of_ble_eq_true rfl) ⟨Nat.zero_le _, Nat.zero_le _⟩ dX8_fit_26 ?_
        intro H_43 lo_43 dr_44 sg44 hd_44 I_43 hs44
        obtain ⟨_, _, Dm44, _⟩ := sg44
        obtain ⟨rfl, rfl, ha44, rfl⟩ := cSm_dest hs44
        obtain ⟨x45, ex45⟩ : ∃ y : Int32, y = x4 + (1 : Int32) := ⟨_, rfl⟩
        replace hf := nm_some ex45 hf
        refine lv_iinc (v := x45) (lv' := [(4, .int x45), (0, .ref (ad 33)), (1, .ref (ad 9)), (3, .int a2)]) hx hb dX8_fit_29 hl_38 (k := 3) rfl (by rw [ex45]; rfl) (by decide) rfl (fun ls_46 hl_46 => ?_)
        refine lv_goto (tgt := 13) hx hb dX8_fit_32 (by decide) ?_
        cases hf
        exact ih1 _ _ _ hK1 H_43 lo_43 dr_44 Dm44 hd_44 ha44 I_43 ls_46 (lv_sub hl_46 [1, 2, 3, 0] rfl)
  exact L1 FU _ _ _ hq1 H_2 lo_2 dr Dm hd ha I_2 ls_3 (lv_sub hl_3 [1, 2, 4, 0] rfl)
def C_SR_expectedWins_s1 (a0 : Int32) (G : Nat → Nat → Int32) (Dd : Nat → Nat → UInt64) (x5 : UInt64) (x6 : Int32) : Option ((UInt64 × Int32) ⊕ (UInt64)) :=
if G 41 0 ≤ x6 then
(some (.inr x5))
else
(ri 8 (a0 &&& (7 : Int32)) <|
ri 8 x6 <|
nm ((FP.dadd (Dd 1 (a0 &&& (7 : Int32)).toNatClampNeg) (Dd 1 x6.toNatClampNeg)) : UInt64) fun x18 =>
nm (C_LT_cell a0 x6) fun r20 =>
ri 64 r20 <|
bd (if G 42 r20.toNatClampNeg ≤ 0 then
(some x5)
else
(if Op.cmpValue (FP.dcmp x18 FP.dconst0) CmpOp.l ≤ 0 then
(some x5)
else
(nm (C_LT_cell a0 x6) fun r32 =>
ri 64 r32 <|
ri 8 (a0 &&& (7 : Int32)) <|
nm ((FP.dadd x5 (FP.ddiv (FP.dmul (FP.i2d (G 42 r32.toNatClampNeg)) (Dd 1 (a0 &&& (7 : Int32)).toNatClampNeg)) x18)) : UInt64) fun x43 =>
some x43))) fun x25 =>
nm (x6 + (1 : Int32) : Int32) fun x29 =>
some (.inl (x25, x29)))
def C_SR_expectedWins (G : Nat → Nat → Int32) (Dd : Nat → Nat → UInt64) (a0 : Int32) : Option (UInt64) :=
nm (FP.dconst0 : UInt64) fun x1 =>
bd (lp (fun q => C_SR_expectedWins_s1 a0 G Dd q.1 q.2) FU (x1, (0 : Int32))) fun x7 =>
some x7
set_option maxRecDepth 100000 in
set_option maxHeartbeats 4000000 in
theorem cC_SR_expectedWins (G : Nat → Nat → Int32) (E : Nat → Nat → Int64) (Dd : Nat → Nat → UInt64) (P : Nat → Option Nat) (L : List Nat) (pf : Nat → va_E) (a0 : Int32) (rv : UInt64)  (hf : C_SR_expectedWins G Dd a0 = some rv) : sDd D (cT cI cJ cD cS) (cW ad cI cJ cD cS) cSm l yX8_expectedWins (ws1 yX8_expectedWins cX8_expectedWins 7 (some .double)) ({ frames := 1, cells := 0, slots := 0, locals := 21 }) [.ref (ad 33), .int a0] (G, E, Dd, P, L, pf) (rv, (G, E, Dd, P, L, pf)) := by
  unfold C_SR_expectedWins at hf
  refine sDd_of (by decide) (Nat.le_of_ble_eq_true rfl) ?_
  intro p e R s m args below meth c A Q ls H lo dr sgm F hRf hRl hd hsm I hl ret
  obtain ⟨_, _, Dm, _⟩ := sgm
  obtain ⟨rfl, rfl, ha, rfl⟩ := cSm_dest hsm
  obtain ⟨hx, hb, hml, hown, hG⟩ := id F
  replace hl : lv_has ls 7 [(0, .ref (ad 33)), (1, .int a0)] := hl
  refine lv_dconst0 hx hb dX8_expectedWins_0 ?_
  obtain ⟨x1, ex1⟩ : ∃ z : UInt64, z = FP.dconst0 := ⟨_, rfl⟩
  replace hf := nm_some ex1 hf
  have hx1 := al_eq2 ex1 (al_rf _)
  refine lv_topd (fun m2 em2 => ?_)
  have hm2 := al_eq em2 hx1
  refine lv_dstore_n (lv' := [(2, .double m2), (0, .ref (ad 33)), (1, .int a0)]) hx hb dX8_expectedWins_1 rfl hl (by decide) rfl (fun ls_3 hl_3 => ?_)
  refine lv_iconst (v := (0 : Int32)) hx hb dX8_expectedWins_2 (by decide) ?_
  refine lv_istore (lv' := [(4, .int (0 : Int32)), (2, .double m2), (0, .ref (ad 33)), (1, .int a0)]) hx hb dX8_expectedWins_3 hl_3 (by decide) rfl (fun ls_4 hl_4 => ?_)
  obtain ⟨x7, hq1, hf⟩ := bd_some hf
  have K1 : ∀ (H : Heap) (locs : List Loc) (d : Drawn) (mx7 : UInt64), s.drawn.sameBut d lw_cs → alike64 mx7 x7 = true → sInv D (cT cI cJ cD cS) (cW ad cI cJ cD cS) A s H locs (G, E, Dm, P, L, pf) → ∀ (ls : Array Slot), lv_has ls 7 [(2, .double mx7)] → W p l e R (s.setDrawn d) m args below meth c H locs 0 0 Q (F0 m 88 ls []) := by
    intro H_8 lo_8 dr_10 mx7 hd_10 hx7 I_8 ls_9 hl_9
    refine lv_dload_n hx hb dX8_expectedWins_88 rfl (lv_at hl_9 0 rfl) ?_
    cases hf
    exact ret H_8 lo_8 _ ls_9 dr_10 _ _ hd_10 I_8 ⟨rfl, rfl, ha, rfl⟩ hx7 dX8_expectedWins_89
  have L1 : ∀ (n : Nat) (x5 : UInt64) (x6 : Int32), lp (fun q => C_SR_expectedWins_s1 a0 G Dd q.1 q.2) n (x5, x6) = some x7 → ∀ (H : Heap) (locs : List Loc) (d : Drawn) (mx5 : UInt64), s.drawn.sameBut d lw_cs → alike64 mx5 x5 = true → sInv D (cT cI cJ cD cS) (cW ad cI cJ cD cS) A s H locs (G, E, Dm, P, L, pf) → ∀ (ls : Array Slot), lv_has ls 7 [(0, .ref (ad 33)), (1, .int a0), (2, .double mx5), (4, .int x6)] → W p l e R (s.setDrawn d) m args below meth c H locs 0 0 Q (F0 m 5 ls []) := by
    intro n
    induction n with
    | zero => intro x5 x6 hq; exact (lp_0 hq).elim
    | succ n ih1 =>
      intro x5 x6 hq H_11 lo_11 dr_13 mx5 hd_13 hx5 I_11 ls_12 hl_12
      obtain ⟨y1, hf, hK1⟩ := lp_go hq
      replace hf : C_SR_expectedWins_s1 a0 G Dd x5 x6 = some y1 := hf
      unfold C_SR_expectedWins_s1 at hf
      refine lv_iload hx hb dX8_expectedWins_5 (lv_at hl_12 3 rfl) ?_
      refine lv_aload_n hx hb dX8_expectedWins_7 rfl (lv_at hl_12 0 rfl) ?_
      refine kgtX8_9_33 (Fdr F) (Idr I_11) dX8_expectedWins_8 ?_
      refine lv_icmp_ge (tgt := 88) hx hb dX8_expectedWins_11 (by decide) (fun c47 => ?_) (fun c47 => ?_)
      · replace hf := (if_pos c47).symm.trans hf
        cases hf
        cases (show x5 = x7 from hK1)
        exact K1 H_11 lo_11 dr_13 mx5 hd_13 hx5 I_11 ls_12 (lv_sub hl_12 [2] rfl)
      · replace hf := (if_neg c47).symm.trans hf
        refine lv_aload_n hx hb dX8_expectedWins_14 rfl (lv_at hl_12 0 rfl) ?_
        refine kgtX8_23_33 (Fdr F) (Idr I_11) dX8_expectedWins_15 ?_
        refine lv_iload_n hx hb dX8_expectedWins_18 rfl (lv_at hl_12 1 rfl) ?_
        refine lv_bipush (v := (7 : Int32)) hx hb dX8_expectedWins_19 (by decide) ?_
        refine lv_iand hx hb dX8_expectedWins_21 ?_
        obtain ⟨g14, hf⟩ := ri_some hf
        refine kal36 (Fdr F) (Idr I_11) g14 dX8_expectedWins_22 ?_
        refine lv_aload_n hx hb dX8_expectedWins_23 rfl (lv_at hl_12 0 rfl) ?_
        refine kgtX8_23_33 (Fdr F) (Idr I_11) dX8_expectedWins_24 ?_
        refine lv_iload hx hb dX8_expectedWins_27 (lv_at hl_12 3 rfl) ?_
        obtain ⟨g15, hf⟩ := ri_some hf
        refine kal36 (Fdr F) (Idr I_11) g15 dX8_expectedWins_29 ?_
        refine lv_dadd_any hd_13 lw_bits hx hb dX8_expectedWins_30 (fun u16 dr_17 alu16 hd_17 => ?_)
        have hu16 := al_dadd alu16 (ha 1 _) (ha 1 _)
        obtain ⟨x18, ex18⟩ : ∃ z : UInt64, z = (FP.dadd (Dd 1 (a0 &&& (7 : Int32)).toNatClampNeg) (Dd 1 x6.toNatClampNeg)) := ⟨_, rfl⟩
        replace hf := nm_some ex18 hf
        have hx18 := al_eq2 ex18 hu16
        refine lv_dstore (lv' := [(5, .double u16), (0, .ref (ad 33)), (1, .int a0), (2, .double mx5), (4, .int x6)]) hx hb dX8_expectedWins_31 hl_12 (by decide) rfl (fun ls_19 hl_19 => ?_)
        refine lv_aload_n hx hb dX8_expectedWins_33 rfl (lv_at hl_19 1 rfl) ?_
        refine kgtX8_15_33 (Fdr F) (Idr I_11) dX8_expectedWins_34 ?_
        refine lv_iload_n hx hb dX8_expectedWins_37 rfl (lv_at hl_19 2 rfl) ?_
        refine lv_iload hx hb dX8_expectedWins_38 (lv_at hl_19 4 rfl) ?_
        obtain ⟨r20, h21⟩ : ∃ z, z = C_LT_cell a0 x6 := ⟨_, rfl⟩
        replace hf := nm_some h21 hf
        refine s_callSNi (As := [.int a0, .int x6]) (rest := [.ref (ad 34)]) (Fdr F) (Idr I_11) (cC_LT_cell G E Dm P L pf a0 x6 r20 h21) kX8_63 ⟨rfl, rfl⟩ ⟨Nat.le_trans (Nat.le_of_ble_eq_true rfl) hRf, Nat.le_trans (Nat.le_of_ble_eq_true rfl) hRl⟩ rfl rfl hl_19.1 (Nat.le_of_ble_eq_true rfl) ⟨Nat.zero_le _, Nat.zero_le _⟩ dX8_expectedWins_40 ?_
        intro H_22 lo_22 I_22
        replace I_22 := Irr I_22
        obtain ⟨g23, hf⟩ := ri_some hf
        refine kal34 (Fdr F) (Idr I_22) g23 dX8_expectedWins_43 ?_
        obtain ⟨x25, hv31, hf⟩ := bd_some hf
        have J24 : ∀ (H : Heap) (locs : List Loc) (d : Drawn) (mx25 : UInt64), s.drawn.sameBut d lw_cs → alike64 mx25 x25 = true → sInv D (cT cI cJ cD cS) (cW ad cI cJ cD cS) A s H locs (G, E, Dm, P, L, pf) → ∀ (ls : Array Slot), lv_has ls 7 [(0, .ref (ad 33)), (1, .int a0), (2, .double mx25), (4, .int x6)] → W p l e R (s.setDrawn d) m args below meth c H locs 0 0 Q (F0 m 82 ls []) := by
          intro H_26 lo_26 dr_28 mx25 hd_28 hx25 I_26 ls_27 hl_27
          obtain ⟨x29, ex29⟩ : ∃ y : Int32, y = x6 + (1 : Int32) := ⟨_, rfl⟩
          replace hf := nm_some ex29 hf
          refine lv_iinc (v := x29) (lv' := [(4, .int x29), (0, .ref (ad 33)), (1, .int a0), (2, .double mx25)]) hx hb dX8_expectedWins_82 hl_27 (k := 3) rfl (by rw [ex29]; rfl) (by decide) rfl (fun ls_30 hl_30 => ?_)
          refine lv_goto (tgt := 5) hx hb dX8_expectedWins_85 (by decide) ?_
          cases hf
          exact ih1 _ _ hK1 H_26 lo_26 dr_28 mx25 hd_28 hx25 I_26 ls_30 (lv_sub hl_30 [1, 2, 3, 0] rfl)
        replace hf := hv31
        refine lv_if_le (tgt := 82) hx hb dX8_expectedWins_44 (by decide) (fun c46 => ?_) (fun c46 => ?_)
        · replace hf := (if_pos c46).symm.trans hf
          cases hf
          exact J24 H_22 lo_22 dr_17 mx5 hd_17 hx5 I_22 ls_19 (lv_sub hl_19 [1, 2, 3, 4] rfl)
        · replace hf := (if_neg c46).symm.trans hf
          refine lv_dload hx hb dX8_expectedWins_47 (lv_at hl_19 0 rfl) ?_
          refine lv_dconst0 hx hb dX8_expectedWins_49 ?_
          refine lv_dcmp hx hb dX8_expectedWins_50 ?_
          rw [al_dcmp hx18 (al_rf _)]
          refine lv_if_le (tgt := 82) hx hb dX8_expectedWins_51 (by decide) (fun c45 => ?_) (fun c45 => ?_)
          · replace hf := (if_pos c45).symm.trans hf
            cases hf
            exact J24 H_22 lo_22 dr_17 mx5 hd_17 hx5 I_22 ls_19 (lv_sub hl_19 [1, 2, 3, 4] rfl)
          · replace hf := (if_neg c45).symm.trans hf
            refine lv_dload_n hx hb dX8_expectedWins_54 rfl (lv_at hl_19 3 rfl) ?_
            refine lv_aload_n hx hb dX8_expectedWins_55 rfl (lv_at hl_19 1 rfl) ?_
            refine kgtX8_15_33 (Fdr F) (Idr I_22) dX8_expectedWins_56 ?_
            refine lv_iload_n hx hb dX8_expectedWins_59 rfl (lv_at hl_19 2 rfl) ?_
            refine lv_iload hx hb dX8_expectedWins_60 (lv_at hl_19 4 rfl) ?_
            obtain ⟨r32, h33⟩ : ∃ z, z = C_LT_cell a0 x6 := ⟨_, rfl⟩
            replace hf := nm_some h33 hf
            refine s_callSNi (As := [.int a0, .int x6]) (rest := [.ref (ad 34), .double mx5]) (Fdr F) (Idr I_22) (cC_LT_cell G E Dm P L pf a0 x6 r32 h33) kX8_63 ⟨rfl, rfl⟩ ⟨Nat.le_trans (Nat.le_of_ble_eq_true rfl) hRf, Nat.le_trans (Nat.le_of_ble_eq_true rfl) hRl⟩ rfl rfl hl_19.1 (Nat.le_of_ble_eq_true rfl) ⟨Nat.zero_le _, Nat.zero_le _⟩ dX8_expectedWins_62 ?_
            intro H_34 lo_34 I_34
            replace I_34 := Irr I_34
            obtain ⟨g35, hf⟩ := ri_some hf
            refine kal34 (Fdr F) (Idr I_34) g35 dX8_expectedWins_65 ?_
            refine lv_i2d hx hb dX8_expectedWins_66 ?_
            refine lv_aload_n hx hb dX8_expectedWins_67 rfl (lv_at hl_19 1 rfl) ?_
            refine kgtX8_23_33 (Fdr F) (Idr I_34) dX8_expectedWins_68 ?_
            refine lv_iload_n hx hb dX8_expectedWins_71 rfl (lv_at hl_19 2 rfl) ?_
            refine lv_bipush (v := (7 : Int32)) hx hb dX8_expectedWins_72 (by decide) ?_
            refine lv_iand hx hb dX8_expectedWins_74 ?_
            obtain ⟨g36, hf⟩ := ri_some hf
            refine kal36 (Fdr F) (Idr I_34) g36 dX8_expectedWins_75 ?_
            refine lv_dmul_any hd_17 lw_bits hx hb dX8_expectedWins_76 (fun u37 dr_38 alu37 hd_38 => ?_)
            have hu37 := al_dmul alu37 (al_rf _) (ha 1 _)
            refine lv_dload hx hb dX8_expectedWins_77 (lv_at hl_19 0 rfl) ?_
            refine lv_ddiv_any hd_38 lw_bits hx hb dX8_expectedWins_79 (fun u39 dr_40 alu39 hd_40 => ?_)
            have hu39 := al_ddiv alu39 hu37 hx18
            refine lv_dadd_any hd_40 lw_bits hx hb dX8_expectedWins_80 (fun u41 dr_42 alu41 hd_42 => ?_)
            have hu41 := al_dadd alu41 hx5 hu39
            obtain ⟨x43, ex43⟩ : ∃ z : UInt64, z = (FP.dadd x5 (FP.ddiv (FP.dmul (FP.i2d (G 42 r32.toNatClampNeg)) (Dd 1 (a0 &&& (7 : Int32)).toNatClampNeg)) x18)) := ⟨_, rfl⟩
            replace hf := nm_some ex43 hf
            have hx43 := al_eq2 ex43 hu41
            refine lv_dstore_n (lv' := [(2, .double u41), (5, .double u16), (0, .ref (ad 33)), (1, .int a0), (4, .int x6)]) hx hb dX8_expectedWins_81 rfl hl_19 (by decide) rfl (fun ls_44 hl_44 => ?_)
            cases hf
            exact J24 H_34 lo_34 dr_42 u41 hd_42 hx43 I_34 ls_44 (lv_sub hl_44 [2, 3, 0, 4] rfl)
  exact L1 FU _ _ hq1 H lo dr m2 hd hm2 I ls_4 (lv_sub hl_4 [2, 3, 1, 0] rfl)
def C_SR_sumOfSquares_s1 (G : Nat → Nat → Int32) (Dd : Nat → Nat → UInt64) (x5 : UInt64) (x6 : Int32) : Option ((UInt64 × Int32) ⊕ (UInt64)) :=
if G 41 0 ≤ x6 then
(some (.inr x5))
else
(ri 8 x6 <|
bd (C_SR_expectedWins G Dd x6) fun r17 =>
nm ((FP.dsub (Dd 0 x6.toNatClampNeg) r17) : UInt64) fun x23 =>
nm ((FP.dadd x5 (FP.dmul x23 x23)) : UInt64) fun x29 =>
nm (x6 + (1 : Int32) : Int32) fun x31 =>
some (.inl (x29, x31)))
def C_SR_sumOfSquares (G : Nat → Nat → Int32) (Dd : Nat → Nat → UInt64) : Option (UInt64) :=
nm (FP.dconst0 : UInt64) fun x1 =>
bd (lp (fun q => C_SR_sumOfSquares_s1 G Dd q.1 q.2) FU (x1, (0 : Int32))) fun x8 =>
some x8
set_option maxRecDepth 100000 in
set_option maxHeartbeats 4000000 in
theorem cC_SR_sumOfSquares (G : Nat → Nat → Int32) (E : Nat → Nat → Int64) (Dd : Nat → Nat → UInt64) (P : Nat → Option Nat) (L : List Nat) (pf : Nat → va_E)  (rv : UInt64)  (hf : C_SR_sumOfSquares G Dd = some rv) : sDd D (cT cI cJ cD cS) (cW ad cI cJ cD cS) cSm l yX8_sumOfSquares (ws1 yX8_sumOfSquares cX8_sumOfSquares 6 (some .double)) ({ frames := 2, cells := 0, slots := 0, locals := 47 }) [.ref (ad 33)] (G, E, Dd, P, L, pf) (rv, (G, E, Dd, P, L, pf)) := by
  unfold C_SR_sumOfSquares at hf
  refine sDd_of (by decide) (Nat.le_of_ble_eq_true rfl) ?_
  intro p e R s m args below meth c A Q ls H lo dr sgm F hRf hRl hd hsm I hl ret
  obtain ⟨_, _, Dm, _⟩ := sgm
  obtain ⟨rfl, rfl, ha, rfl⟩ := cSm_dest hsm
  obtain ⟨hx, hb, hml, hown, hG⟩ := id F
  replace hl : lv_has ls 6 [(0, .ref (ad 33))] := hl
  refine lv_dconst0 hx hb dX8_sumOfSquares_0 ?_
  obtain ⟨x1, ex1⟩ : ∃ z : UInt64, z = FP.dconst0 := ⟨_, rfl⟩
  replace hf := nm_some ex1 hf
  have hx1 := al_eq2 ex1 (al_rf _)
  refine lv_topd (fun m2 em2 => ?_)
  have hm2 := al_eq em2 hx1
  refine lv_dstore_n (lv' := [(1, .double m2), (0, .ref (ad 33))]) hx hb dX8_sumOfSquares_1 rfl hl (by decide) rfl (fun ls_3 hl_3 => ?_)
  refine lv_iconst (v := (0 : Int32)) hx hb dX8_sumOfSquares_2 (by decide) ?_
  refine lv_istore_n (lv' := [(3, .int (0 : Int32)), (1, .double m2), (0, .ref (ad 33))]) hx hb dX8_sumOfSquares_3 rfl hl_3 (by decide) rfl (fun ls_4 hl_4 => ?_)
  obtain ⟨x8, hq1, hf⟩ := bd_some hf
  have K1 : ∀ (H : Heap) (locs : List Loc) (d : Drawn) (mx8 : UInt64) (Dm9 : Nat → Nat → UInt64), s.drawn.sameBut d lw_cs → alike64 mx8 x8 = true → alikeM Dm9 Dd → sInv D (cT cI cJ cD cS) (cW ad cI cJ cD cS) A s H locs (G, E, Dm9, P, L, pf) → ∀ (ls : Array Slot), lv_has ls 6 [(1, .double mx8)] → W p l e R (s.setDrawn d) m args below meth c H locs 0 0 Q (F0 m 40 ls []) := by
    intro H_10 lo_10 dr_12 mx8 Dm9 hd_12 hx8 ha9 I_10 ls_11 hl_11
    refine lv_dload_n hx hb dX8_sumOfSquares_40 rfl (lv_at hl_11 0 rfl) ?_
    cases hf
    exact ret H_10 lo_10 _ ls_11 dr_12 _ _ hd_12 I_10 ⟨rfl, rfl, ha9, rfl⟩ hx8 dX8_sumOfSquares_41
  have L1 : ∀ (n : Nat) (x5 : UInt64) (x6 : Int32), lp (fun q => C_SR_sumOfSquares_s1 G Dd q.1 q.2) n (x5, x6) = some x8 → ∀ (H : Heap) (locs : List Loc) (d : Drawn) (mx5 : UInt64) (Dm7 : Nat → Nat → UInt64), s.drawn.sameBut d lw_cs → alike64 mx5 x5 = true → alikeM Dm7 Dd → sInv D (cT cI cJ cD cS) (cW ad cI cJ cD cS) A s H locs (G, E, Dm7, P, L, pf) → ∀ (ls : Array Slot), lv_has ls 6 [(0, .ref (ad 33)), (1, .double mx5), (3, .int x6)] → W p l e R (s.setDrawn d) m args below meth c H locs 0 0 Q (F0 m 4 ls []) := by
    intro n
    induction n with
    | zero => intro x5 x6 hq; exact (lp_0 hq).elim
    | succ n ih1 =>
      intro x5 x6 hq H_13 lo_13 dr_15 mx5 Dm7 hd_15 hx5 ha7 I_13 ls_14 hl_14
      obtain ⟨y1, hf, hK1⟩ := lp_go hq
      replace hf : C_SR_sumOfSquares_s1 G Dd x5 x6 = some y1 := hf
      unfold C_SR_sumOfSquares_s1 at hf
      refine lv_iload_n hx hb dX8_sumOfSquares_4 rfl (lv_at hl_14 2 rfl) ?_
      refine lv_aload_n hx hb dX8_sumOfSquares_5 rfl (lv_at hl_14 0 rfl) ?_
      refine kgtX8_9_33 (Fdr F) (Idr I_13) dX8_sumOfSquares_6 ?_
      refine lv_icmp_ge (tgt := 40) hx hb dX8_sumOfSquares_9 (by decide) (fun c33 => ?_) (fun c33 => ?_)
      · replace hf := (if_pos c33).symm.trans hf
        cases hf
        cases (show x5 = x8 from hK1)
        exact K1 H_13 lo_13 dr_15 mx5 Dm7 hd_15 hx5 ha7 I_13 ls_14 (lv_sub hl_14 [1] rfl)
      · replace hf := (if_neg c33).symm.trans hf
        refine lv_aload_n hx hb dX8_sumOfSquares_12 rfl (lv_at hl_14 0 rfl) ?_
        refine kgtX8_19_33 (Fdr F) (Idr I_13) dX8_sumOfSquares_13 ?_
        refine lv_iload_n hx hb dX8_sumOfSquares_16 rfl (lv_at hl_14 2 rfl) ?_
        obtain ⟨g16, hf⟩ := ri_some hf
        refine kal35 (Fdr F) (Idr I_13) g16 dX8_sumOfSquares_17 ?_
        refine lv_aload_n hx hb dX8_sumOfSquares_18 rfl (lv_at hl_14 0 rfl) ?_
        refine lv_iload_n hx hb dX8_sumOfSquares_19 rfl (lv_at hl_14 2 rfl) ?_
        obtain ⟨r17, h18, hf⟩ := bd_some hf
        refine d_callVd (As := [.int x6]) (rest := [.double (Dm7 0 x6.toNatClampNeg)]) F hd_15 I_13 ⟨rfl, rfl, ha7, rfl⟩ (cC_SR_expectedWins G E Dd P L pf x6 r17 h18) kX8_51 ⟨rfl, rfl⟩ ⟨Nat.le_trans (Nat.le_of_ble_eq_true rfl) hRf, Nat.le_trans (Nat.le_of_ble_eq_true rfl) hRl⟩ 33 8 rfl rfl rfl rfl rfl hl_14.1 (Nat.le_of_ble_eq_true rfl) ⟨Nat.zero_le _, Nat.zero_le _⟩ dX8_sumOfSquares_20 ?_
        intro H_19 lo_19 dr_20 sg20 mr17 hd_20 I_19 hs20 hr17
        obtain ⟨_, _, Dm20, _⟩ := sg20
        obtain ⟨rfl, rfl, ha20, rfl⟩ := cSm_dest hs20
        refine lv_dsub_any hd_20 lw_bits hx hb dX8_sumOfSquares_23 (fun u21 dr_22 alu21 hd_22 => ?_)
        have hu21 := al_dsub alu21 (ha7 0 _) hr17
        obtain ⟨x23, ex23⟩ : ∃ z : UInt64, z = (FP.dsub (Dd 0 x6.toNatClampNeg) r17) := ⟨_, rfl⟩
        replace hf := nm_some ex23 hf
        have hx23 := al_eq2 ex23 hu21
        refine lv_dstore (lv' := [(4, .double u21), (0, .ref (ad 33)), (1, .double mx5), (3, .int x6)]) hx hb dX8_sumOfSquares_24 hl_14 (by decide) rfl (fun ls_24 hl_24 => ?_)
        refine lv_dload_n hx hb dX8_sumOfSquares_26 rfl (lv_at hl_24 2 rfl) ?_
        refine lv_dload hx hb dX8_sumOfSquares_27 (lv_at hl_24 0 rfl) ?_
        refine lv_dload hx hb dX8_sumOfSquares_29 (lv_at hl_24 0 rfl) ?_
        refine lv_dmul_any hd_22 lw_bits hx hb dX8_sumOfSquares_31 (fun u25 dr_26 alu25 hd_26 => ?_)
        have hu25 := al_dmul alu25 hx23 hx23
        refine lv_dadd_any hd_26 lw_bits hx hb dX8_sumOfSquares_32 (fun u27 dr_28 alu27 hd_28 => ?_)
        have hu27 := al_dadd alu27 hx5 hu25
        obtain ⟨x29, ex29⟩ : ∃ z : UInt64, z = (FP.dadd x5 (FP.dmul x23 x23)) := ⟨_, rfl⟩
        replace hf := nm_some ex29 hf
        have hx29 := al_eq2 ex29 hu27
        refine lv_dstore_n (lv' := [(1, .double u27), (4, .double u21), (0, .ref (ad 33)), (3, .int x6)]) hx hb dX8_sumOfSquares_33 rfl hl_24 (by decide) rfl (fun ls_30 hl_30 => ?_)
        obtain ⟨x31, ex31⟩ : ∃ y : Int32, y = x6 + (1 : Int32) := ⟨_, rfl⟩
        replace hf := nm_some ex31 hf
        refine lv_iinc (v := x31) (lv' := [(3, .int x31), (1, .double u27), (4, .double u21), (0, .ref (ad 33))]) hx hb dX8_sumOfSquares_34 hl_30 (k := 3) rfl (by rw [ex31]; rfl) (by decide) rfl (fun ls_32 hl_32 => ?_)
        refine lv_goto (tgt := 4) hx hb dX8_sumOfSquares_37 (by decide) ?_
        cases hf
        exact ih1 _ _ hK1 H_19 lo_19 dr_28 u27 Dm20 hd_28 hx29 ha20 I_19 ls_32 (lv_sub hl_32 [3, 1, 0] rfl)
  exact L1 FU _ _ hq1 H lo dr m2 Dm hd hm2 ha I ls_4 (lv_sub hl_4 [2, 1, 0] rfl)
def C_JA_fill_i_10_s1 (a1 : Int32) (x3 : Int32) (G4 : Nat → Nat → Int32) : Option ((Int32 × (Nat → Nat → Int32)) ⊕ ((Nat → Nat → Int32))) :=
if (64 : Int32) ≤ x3 then
(some (.inr G4))
else
(ri 64 x3 <|
nm (wr G4 16 x3 a1) fun G13 =>
nm (x3 + (1 : Int32) : Int32) fun x15 =>
some (.inl (x15, G13)))
def C_JA_fill_i_10 (G : Nat → Nat → Int32) (a1 : Int32) : Option ((Nat → Nat → Int32)) :=
bd (lp (fun q => C_JA_fill_i_10_s1 a1 q.1 q.2) FU ((0 : Int32), G)) fun G5 =>
some G5
set_option maxRecDepth 100000 in
set_option maxHeartbeats 4000000 in
theorem cC_JA_fill_i_10 (G : Nat → Nat → Int32) (E : Nat → Nat → Int64) (Dd : Nat → Nat → UInt64) (P : Nat → Option Nat) (L : List Nat) (pf : Nat → va_E) (a1 : Int32)  (newG : Nat → Nat → Int32) (hf : C_JA_fill_i_10 G a1 = some newG) : sMv D (cT cI cJ cD cS) (cW ad cI cJ cD cS) l yJ7_fill_53178 (ws1 yJ7_fill_53178 cJ7_fill_53178 4 none) ({ frames := 0, cells := 0, slots := 0, locals := 0 }) [.ref (ad 10), .int a1] (G, E, Dd, P, L, pf) (newG, E, Dd, P, L, pf) := by
  unfold C_JA_fill_i_10 at hf
  refine sMv_of (by decide) (Nat.le_of_ble_eq_true rfl) ?_
  intro p e R s m args below meth c A Q ls H lo F hRf hRl I hl ret
  obtain ⟨hx, hb, hml, hown, hG⟩ := id F
  replace hl : lv_has ls 4 [(0, .ref (ad 10)), (1, .int a1)] := hl
  refine lv_iconst (v := (0 : Int32)) hx hb dJ7_fill_53178_0 (by decide) ?_
  refine lv_istore_n (lv' := [(2, .int (0 : Int32)), (0, .ref (ad 10)), (1, .int a1)]) hx hb dJ7_fill_53178_1 rfl hl (by decide) rfl (fun ls_1 hl_1 => ?_)
  refine lv_aload_n hx hb dJ7_fill_53178_2 rfl (lv_at hl_1 1 rfl) ?_
  refine kln10 F I dJ7_fill_53178_3 ?_
  refine lv_istore_n (lv' := [(3, .int (64 : Int32)), (2, .int (0 : Int32)), (0, .ref (ad 10)), (1, .int a1)]) hx hb dJ7_fill_53178_4 rfl hl_1 (by decide) rfl (fun ls_2 hl_2 => ?_)
  obtain ⟨G5, hq1, hf⟩ := bd_some hf
  have K1 : ∀ (H : Heap) (locs : List Loc), sInv D (cT cI cJ cD cS) (cW ad cI cJ cD cS) A s H locs (G5, E, Dd, P, L, pf) → ∀ (ls : Array Slot), lv_has ls 4 [] → W p l e R s m args below meth c H locs 0 0 Q (F0 m 20 ls []) := by
    intro H_6 lo_6 I_6 ls_7 hl_7
    cases hf
    exact ret H_6 lo_6 _ ls_7 I_6 dJ7_fill_53178_20
  have L1 : ∀ (n : Nat) (x3 : Int32) (G4 : Nat → Nat → Int32), lp (fun q => C_JA_fill_i_10_s1 a1 q.1 q.2) n (x3, G4) = some G5 → ∀ (H : Heap) (locs : List Loc), sInv D (cT cI cJ cD cS) (cW ad cI cJ cD cS) A s H locs (G4, E, Dd, P, L, pf) → ∀ (ls : Array Slot), lv_has ls 4 [(0, .ref (ad 10)), (1, .int a1), (2, .int x3), (3, .int (64 : Int32))] → W p l e R s m args below meth c H locs 0 0 Q (F0 m 5 ls []) := by
    intro n
    induction n with
    | zero => intro x3 G4 hq; exact (lp_0 hq).elim
    | succ n ih1 =>
      intro x3 G4 hq H_9 lo_9 I_9 ls_10 hl_10
      obtain ⟨y1, hf, hK1⟩ := lp_go hq
      replace hf : C_JA_fill_i_10_s1 a1 x3 G4 = some y1 := hf
      unfold C_JA_fill_i_10_s1 at hf
      refine lv_iload_n hx hb dJ7_fill_53178_5 rfl (lv_at hl_10 2 rfl) ?_
      refine lv_iload_n hx hb dJ7_fill_53178_6 rfl (lv_at hl_10 3 rfl) ?_
      refine lv_icmp_ge (tgt := 20) hx hb dJ7_fill_53178_7 (by decide) (fun c17 => ?_) (fun c17 => ?_)
      · replace hf := (if_pos c17).symm.trans hf
        cases hf
        cases (show G4 = G5 from hK1)
        exact K1 H_9 lo_9 I_9 ls_10 (lv_sub hl_10 [] rfl)
      · replace hf := (if_neg c17).symm.trans hf
        refine lv_aload_n hx hb dJ7_fill_53178_10 rfl (lv_at hl_10 0 rfl) ?_
        refine lv_iload_n hx hb dJ7_fill_53178_11 rfl (lv_at hl_10 2 rfl) ?_
        refine lv_iload_n hx hb dJ7_fill_53178_12 rfl (lv_at hl_10 1 rfl) ?_
        obtain ⟨g12, hf⟩ := ri_some hf
        refine kas10 F I_9 g12 dJ7_fill_53178_13 ?_
        intro H_14 lo_14 G13 eG13 I_14
        replace hf := nm_some eG13 hf
        obtain ⟨x15, ex15⟩ : ∃ y : Int32, y = x3 + (1 : Int32) := ⟨_, rfl⟩
        replace hf := nm_some ex15 hf
        refine lv_iinc (v := x15) (lv' := [(2, .int x15), (0, .ref (ad 10)), (1, .int a1), (3, .int (64 : Int32))]) hx hb dJ7_fill_53178_14 hl_10 (k := 2) rfl (by rw [ex15]; rfl) (by decide) rfl (fun ls_16 hl_16 => ?_)
        refine lv_goto (tgt := 5) hx hb dJ7_fill_53178_17 (by decide) ?_
        cases hf
        exact ih1 _ _ hK1 H_14 lo_14 I_14 ls_16 (lv_sub hl_16 [1, 2, 0, 3] rfl)
  exact L1 FU _ _ hq1 H lo I ls_2 (lv_sub hl_2 [2, 3, 1, 0] rfl)
def C_JA_fill_i_11_s1 (a1 : Int32) (x3 : Int32) (G4 : Nat → Nat → Int32) : Option ((Int32 × (Nat → Nat → Int32)) ⊕ ((Nat → Nat → Int32))) :=
if (64 : Int32) ≤ x3 then
(some (.inr G4))
else
(ri 64 x3 <|
nm (wr G4 17 x3 a1) fun G13 =>
nm (x3 + (1 : Int32) : Int32) fun x15 =>
some (.inl (x15, G13)))
def C_JA_fill_i_11 (G : Nat → Nat → Int32) (a1 : Int32) : Option ((Nat → Nat → Int32)) :=
bd (lp (fun q => C_JA_fill_i_11_s1 a1 q.1 q.2) FU ((0 : Int32), G)) fun G5 =>
some G5
set_option maxRecDepth 100000 in
set_option maxHeartbeats 4000000 in
theorem cC_JA_fill_i_11 (G : Nat → Nat → Int32) (E : Nat → Nat → Int64) (Dd : Nat → Nat → UInt64) (P : Nat → Option Nat) (L : List Nat) (pf : Nat → va_E) (a1 : Int32)  (newG : Nat → Nat → Int32) (hf : C_JA_fill_i_11 G a1 = some newG) : sMv D (cT cI cJ cD cS) (cW ad cI cJ cD cS) l yJ7_fill_53178 (ws1 yJ7_fill_53178 cJ7_fill_53178 4 none) ({ frames := 0, cells := 0, slots := 0, locals := 0 }) [.ref (ad 11), .int a1] (G, E, Dd, P, L, pf) (newG, E, Dd, P, L, pf) := by
  unfold C_JA_fill_i_11 at hf
  refine sMv_of (by decide) (Nat.le_of_ble_eq_true rfl) ?_
  intro p e R s m args below meth c A Q ls H lo F hRf hRl I hl ret
  obtain ⟨hx, hb, hml, hown, hG⟩ := id F
  replace hl : lv_has ls 4 [(0, .ref (ad 11)), (1, .int a1)] := hl
  refine lv_iconst (v := (0 : Int32)) hx hb dJ7_fill_53178_0 (by decide) ?_
  refine lv_istore_n (lv' := [(2, .int (0 : Int32)), (0, .ref (ad 11)), (1, .int a1)]) hx hb dJ7_fill_53178_1 rfl hl (by decide) rfl (fun ls_1 hl_1 => ?_)
  refine lv_aload_n hx hb dJ7_fill_53178_2 rfl (lv_at hl_1 1 rfl) ?_
  refine kln11 F I dJ7_fill_53178_3 ?_
  refine lv_istore_n (lv' := [(3, .int (64 : Int32)), (2, .int (0 : Int32)), (0, .ref (ad 11)), (1, .int a1)]) hx hb dJ7_fill_53178_4 rfl hl_1 (by decide) rfl (fun ls_2 hl_2 => ?_)
  obtain ⟨G5, hq1, hf⟩ := bd_some hf
  have K1 : ∀ (H : Heap) (locs : List Loc), sInv D (cT cI cJ cD cS) (cW ad cI cJ cD cS) A s H locs (G5, E, Dd, P, L, pf) → ∀ (ls : Array Slot), lv_has ls 4 [] → W p l e R s m args below meth c H locs 0 0 Q (F0 m 20 ls []) := by
    intro H_6 lo_6 I_6 ls_7 hl_7
    cases hf
    exact ret H_6 lo_6 _ ls_7 I_6 dJ7_fill_53178_20
  have L1 : ∀ (n : Nat) (x3 : Int32) (G4 : Nat → Nat → Int32), lp (fun q => C_JA_fill_i_11_s1 a1 q.1 q.2) n (x3, G4) = some G5 → ∀ (H : Heap) (locs : List Loc), sInv D (cT cI cJ cD cS) (cW ad cI cJ cD cS) A s H locs (G4, E, Dd, P, L, pf) → ∀ (ls : Array Slot), lv_has ls 4 [(0, .ref (ad 11)), (1, .int a1), (2, .int x3), (3, .int (64 : Int32))] → W p l e R s m args below meth c H locs 0 0 Q (F0 m 5 ls []) := by
    intro n
    induction n with
    | zero => intro x3 G4 hq; exact (lp_0 hq).elim
    | succ n ih1 =>
      intro x3 G4 hq H_9 lo_9 I_9 ls_10 hl_10
      obtain ⟨y1, hf, hK1⟩ := lp_go hq
      replace hf : C_JA_fill_i_11_s1 a1 x3 G4 = some y1 := hf
      unfold C_JA_fill_i_11_s1 at hf
      refine lv_iload_n hx hb dJ7_fill_53178_5 rfl (lv_at hl_10 2 rfl) ?_
      refine lv_iload_n hx hb dJ7_fill_53178_6 rfl (lv_at hl_10 3 rfl) ?_
      refine lv_icmp_ge (tgt := 20) hx hb dJ7_fill_53178_7 (by decide) (fun c17 => ?_) (fun c17 => ?_)
      · replace hf := (if_pos c17).symm.trans hf
        cases hf
        cases (show G4 = G5 from hK1)
        exact K1 H_9 lo_9 I_9 ls_10 (lv_sub hl_10 [] rfl)
      · replace hf := (if_neg c17).symm.trans hf
        refine lv_aload_n hx hb dJ7_fill_53178_10 rfl (lv_at hl_10 0 rfl) ?_
        refine lv_iload_n hx hb dJ7_fill_53178_11 rfl (lv_at hl_10 2 rfl) ?_
        refine lv_iload_n hx hb dJ7_fill_53178_12 rfl (lv_at hl_10 1 rfl) ?_
        obtain ⟨g12, hf⟩ := ri_some hf
        refine kas11 F I_9 g12 dJ7_fill_53178_13 ?_
        intro H_14 lo_14 G13 eG13 I_14
        replace hf := nm_some eG13 hf
        obtain ⟨x15, ex15⟩ : ∃ y : Int32, y = x3 + (1 : Int32) := ⟨_, rfl⟩
        replace hf := nm_some ex15 hf
        refine lv_iinc (v := x15) (lv' := [(2, .int x15), (0, .ref (ad 11)), (1, .int a1), (3, .int (64 : Int32))]) hx hb dJ7_fill_53178_14 hl_10 (k := 2) rfl (by rw [ex15]; rfl) (by decide) rfl (fun ls_16 hl_16 => ?_)
        refine lv_goto (tgt := 5) hx hb dJ7_fill_53178_17 (by decide) ?_
        cases hf
        exact ih1 _ _ hK1 H_14 lo_14 I_14 ls_16 (lv_sub hl_16 [1, 2, 0, 3] rfl)
  exact L1 FU _ _ hq1 H lo I ls_2 (lv_sub hl_2 [2, 3, 1, 0] rfl)
def C_TA_take_s1  (x8 : Int32) (G9 : Nat → Nat → Int32) : Option ((Int32 × (Nat → Nat → Int32)) ⊕ ((Nat → Nat → Int32))) :=
if G9 5 0 ≤ x8 then
(some (.inr G9))
else
(bd (C_CO_at G9 x8) fun r17 =>
nm (C_CO_answerOf r17) fun r21 =>
bd (if r21 = 0 then
(nm (C_CO_firstOf r17) fun r45 =>
nm (C_CO_secondOf r17) fun r48 =>
nm (C_LT_cell r45 r48) fun r51 =>
ri 64 r51 <|
ri 64 r51 <|
nm (wr G9 17 r51 ((G9 17 r51.toNatClampNeg) + (1 : Int32))) fun G56 =>
nm (C_CO_secondOf r17) fun r58 =>
nm (C_CO_firstOf r17) fun r61 =>
nm (C_LT_cell r58 r61) fun r64 =>
ri 64 r64 <|
ri 64 r64 <|
nm (wr G56 17 r64 ((G56 17 r64.toNatClampNeg) + (1 : Int32))) fun G69 =>
some G69)
else
(bd (C_CO_winnerOf r17) fun r32 =>
bd (C_CO_loserOf r17) fun r35 =>
nm (C_LT_cell r32 r35) fun r38 =>
ri 64 r38 <|
ri 64 r38 <|
nm (wr G9 16 r38 ((G9 16 r38.toNatClampNeg) + (1 : Int32))) fun G43 =>
some G43)) fun G25 =>
nm (x8 + (1 : Int32) : Int32) fun x29 =>
some (.inl (x29, G25)))
def C_TA_take (G : Nat → Nat → Int32) : Option ((Nat → Nat → Int32)) :=
bd (C_JA_fill_i_10 G (0 : Int32)) fun G1 =>
bd (C_JA_fill_i_11 G1 (0 : Int32)) fun G4 =>
bd (lp (fun q => C_TA_take_s1 q.1 q.2) FU ((0 : Int32), G4)) fun G10 =>
some G10
set_option maxRecDepth 100000 in
set_option maxHeartbeats 4000000 in
theorem cC_TA_take (G : Nat → Nat → Int32) (E : Nat → Nat → Int64) (Dd : Nat → Nat → UInt64) (P : Nat → Option Nat) (L : List Nat) (pf : Nat → va_E)   (newG : Nat → Nat → Int32) (hf : C_TA_take G = some newG) : sMv D (cT cI cJ cD cS) (cW ad cI cJ cD cS) l yX9_take (ws1 yX9_take cX9_take 4 none) ({ frames := 2, cells := 0, slots := 0, locals := 40 }) [.ref (ad 9), .ref (ad 2)] (G, E, Dd, P, L, pf) (newG, E, Dd, P, L, pf) := by
  unfold C_TA_take at hf
  refine sMv_of (by decide) (Nat.le_of_ble_eq_true rfl) ?_
  intro p e R s m args below meth c A Q ls H lo F hRf hRl I hl ret
  obtain ⟨hx, hb, hml, hown, hG⟩ := id F
  replace hl : lv_has ls 4 [(0, .ref (ad 9)), (1, .ref (ad 2))] := hl
  refine lv_aload_n hx hb dX9_take_0 rfl (lv_at hl 0 rfl) ?_
  refine kgtX9_9_9 F I dX9_take_1 ?_
  refine lv_iconst (v := (0 : Int32)) hx hb dX9_take_4 (by decide) ?_
  obtain ⟨G1, h2, hf⟩ := bd_some hf
  refine s_callSv (As := [.ref (ad 10), .int (0 : Int32)]) (rest := []) F I (cC_JA_fill_i_10 G E Dd P L pf (0 : Int32) G1 h2) kX9_18 ⟨rfl, rfl⟩ ⟨Nat.le_trans (Nat.le_of_ble_eq_true rfl) hRf, Nat.le_trans (Nat.le_of_ble_eq_true rfl) hRl⟩ rfl rfl hl.1 (Nat.le_of_ble_eq_true rfl) ⟨Nat.zero_le _, Nat.zero_le _⟩ dX9_take_5 ?_
  intro H_3 lo_3 I_3
  refine lv_aload_n hx hb dX9_take_8 rfl (lv_at hl 0 rfl) ?_
  refine kgtX9_15_9 F I_3 dX9_take_9 ?_
  refine lv_iconst (v := (0 : Int32)) hx hb dX9_take_12 (by decide) ?_
  obtain ⟨G4, h5, hf⟩ := bd_some hf
  refine s_callSv (As := [.ref (ad 11), .int (0 : Int32)]) (rest := []) F I_3 (cC_JA_fill_i_11 G1 E Dd P L pf (0 : Int32) G4 h5) kX9_18 ⟨rfl, rfl⟩ ⟨Nat.le_trans (Nat.le_of_ble_eq_true rfl) hRf, Nat.le_trans (Nat.le_of_ble_eq_true rfl) hRl⟩ rfl rfl hl.1 (Nat.le_of_ble_eq_true rfl) ⟨Nat.zero_le _, Nat.zero_le _⟩ dX9_take_13 ?_
  intro H_6 lo_6 I_6
  refine lv_iconst (v := (0 : Int32)) hx hb dX9_take_16 (by decide) ?_
  refine lv_istore_n (lv' := [(2, .int (0 : Int32)), (0, .ref (ad 9)), (1, .ref (ad 2))]) hx hb dX9_take_17 rfl hl (by decide) rfl (fun ls_7 hl_7 => ?_)
  obtain ⟨G10, hq1, hf⟩ := bd_some hf
  have K1 : ∀ (H : Heap) (locs : List Loc), sInv D (cT cI cJ cD cS) (cW ad cI cJ cD cS) A s H locs (G10, E, Dd, P, L, pf) → ∀ (ls : Array Slot), lv_has ls 4 [] → W p l e R s m args below meth c H locs 0 0 Q (F0 m 108 ls []) := by
    intro H_11 lo_11 I_11 ls_12 hl_12
    cases hf
    exact ret H_11 lo_11 _ ls_12 I_11 dX9_take_108
  have L1 : ∀ (n : Nat) (x8 : Int32) (G9 : Nat → Nat → Int32), lp (fun q => C_TA_take_s1 q.1 q.2) n (x8, G9) = some G10 → ∀ (H : Heap) (locs : List Loc), sInv D (cT cI cJ cD cS) (cW ad cI cJ cD cS) A s H locs (G9, E, Dd, P, L, pf) → ∀ (ls : Array Slot), lv_has ls 4 [(0, .ref (ad 9)), (1, .ref (ad 2)), (2, .int x8)] → W p l e R s m args below meth c H locs 0 0 Q (F0 m 18 ls []) := by
    intro n
    induction n with
    | zero => intro x8 G9 hq; exact (lp_0 hq).elim
    | succ n ih1 =>
      intro x8 G9 hq H_14 lo_14 I_14 ls_15 hl_15
      obtain ⟨y1, hf, hK1⟩ := lp_go hq
      replace hf : C_TA_take_s1 x8 G9 = some y1 := hf
      unfold C_TA_take_s1 at hf
      refine lv_iload_n hx hb dX9_take_18 rfl (lv_at hl_15 2 rfl) ?_
      refine lv_aload_n hx hb dX9_take_19 rfl (lv_at hl_15 1 rfl) ?_
      refine kgtX9_24_2 F I_14 dX9_take_20 ?_
      refine lv_icmp_ge (tgt := 108) hx hb dX9_take_23 (by decide) (fun c72 => ?_) (fun c72 => ?_)
      · replace hf := (if_pos c72).symm.trans hf
        cases hf
        cases (show G9 = G10 from hK1)
        exact K1 H_14 lo_14 I_14 ls_15 (lv_sub hl_15 [] rfl)
      · replace hf := (if_neg c72).symm.trans hf
        refine lv_aload_n hx hb dX9_take_26 rfl (lv_at hl_15 1 rfl) ?_
        refine lv_iload_n hx hb dX9_take_27 rfl (lv_at hl_15 2 rfl) ?_
        obtain ⟨r17, h18, hf⟩ := bd_some hf
        refine s_callVi (As := [.int x8]) (rest := []) F I_14 (cC_CO_at G9 E Dd P L pf x8 r17 h18) kX9_30 ⟨rfl, rfl⟩ ⟨Nat.le_trans (Nat.le_of_ble_eq_true rfl) hRf, Nat.le_trans (Nat.le_of_ble_eq_true rfl) hRl⟩ 2 1 rfl rfl rfl rfl rfl hl_15.1 (Nat.le_of_ble_eq_true rfl) ⟨Nat.zero_le _, Nat.zero_le _⟩ dX9_take_28 ?_
        intro H_19 lo_19 I_19
        refine lv_istore_n (lv' := [(3, .int r17), (0, .ref (ad 9)), (1, .ref (ad 2)), (2, .int x8)]) hx hb dX9_take_31 rfl hl_15 (by decide) rfl (fun ls_20 hl_20 => ?_)
        refine lv_iload_n hx hb dX9_take_32 rfl (lv_at hl_20 0 rfl) ?_
        obtain ⟨r21, h22⟩ : ∃ z, z = C_CO_answerOf r17 := ⟨_, rfl⟩
        replace hf := nm_some h22 hf
        refine s_callSi (As := [.int r17]) (rest := []) F I_19 (cC_CO_answerOf G9 E Dd P L pf r17 r21 h22) kX9_34 ⟨rfl, rfl⟩ ⟨Nat.le_trans (Nat.le_of_ble_eq_true rfl) hRf, Nat.le_trans (Nat.le_of_ble_eq_true rfl) hRl⟩ rfl rfl hl_20.1 (Nat.le_of_ble_eq_true rfl) ⟨Nat.zero_le _, Nat.zero_le _⟩ dX9_take_33 ?_
        intro H_23 lo_23 I_23
        obtain ⟨G25, hv31, hf⟩ := bd_some hf
        have J24 : ∀ (H : Heap) (locs : List Loc), sInv D (cT cI cJ cD cS) (cW ad cI cJ cD cS) A s H locs (G25, E, Dd, P, L, pf) → ∀ (ls : Array Slot), lv_has ls 4 [(0, .ref (ad 9)), (1, .ref (ad 2)), (2, .int x8)] → W p l e R s m args below meth c H locs 0 0 Q (F0 m 102 ls []) := by
          intro H_26 lo_26 I_26 ls_27 hl_27
          obtain ⟨x29, ex29⟩ : ∃ y : Int32, y = x8 + (1 : Int32) := ⟨_, rfl⟩
          replace hf := nm_some ex29 hf
          refine lv_iinc (v := x29) (lv' := [(2, .int x29), (0, .ref (ad 9)), (1, .ref (ad 2))]) hx hb dX9_take_102 hl_27 (k := 2) rfl (by rw [ex29]; rfl) (by decide) rfl (fun ls_30 hl_30 => ?_)
          refine lv_goto (tgt := 18) hx hb dX9_take_105 (by decide) ?_
          cases hf
          exact ih1 _ _ hK1 H_26 lo_26 I_26 ls_30 (lv_sub hl_30 [1, 2, 0] rfl)
        replace hf := hv31
        refine lv_if_ne (tgt := 82) hx hb dX9_take_36 (by decide) (fun c71 => ?_) (fun c71 => ?_)
        · replace hf := (if_neg c71).symm.trans hf
          refine lv_aload_n hx hb dX9_take_82 rfl (lv_at hl_20 1 rfl) ?_
          refine kgtX9_9_9 F I_23 dX9_take_83 ?_
          refine lv_iload_n hx hb dX9_take_86 rfl (lv_at hl_20 0 rfl) ?_
          obtain ⟨r32, h33, hf⟩ := bd_some hf
          refine s_callSi (As := [.int r17]) (rest := [.ref (ad 10)]) F I_23 (cC_CO_winnerOf G9 E Dd P L pf r17 r32 h33) kX9_47 ⟨rfl, rfl⟩ ⟨Nat.le_trans (Nat.le_of_ble_eq_true rfl) hRf, Nat.le_trans (Nat.le_of_ble_eq_true rfl) hRl⟩ rfl rfl hl_20.1 (Nat.le_of_ble_eq_true rfl) ⟨Nat.zero_le _, Nat.zero_le _⟩ dX9_take_87 ?_
          intro H_34 lo_34 I_34
          refine lv_iload_n hx hb dX9_take_90 rfl (lv_at hl_20 0 rfl) ?_
          obtain ⟨r35, h36, hf⟩ := bd_some hf
          refine s_callSi (As := [.int r17]) (rest := [.int r32, .ref (ad 10)]) F I_34 (cC_CO_loserOf G9 E Dd P L pf r17 r35 h36) kX9_50 ⟨rfl, rfl⟩ ⟨Nat.le_trans (Nat.le_of_ble_eq_true rfl) hRf, Nat.le_trans (Nat.le_of_ble_eq_true rfl) hRl⟩ rfl rfl hl_20.1 (Nat.le_of_ble_eq_true rfl) ⟨Nat.zero_le _, Nat.zero_le _⟩ dX9_take_91 ?_
          intro H_37 lo_37 I_37
          obtain ⟨r38, h39⟩ : ∃ z, z = C_LT_cell r32 r35 := ⟨_, rfl⟩
          replace hf := nm_some h39 hf
          refine s_callSNi (As := [.int r32, .int r35]) (rest := [.ref (ad 10)]) F I_37 (cC_LT_cell G9 E Dd P L pf r32 r35 r38 h39) kX9_43 ⟨rfl, rfl⟩ ⟨Nat.le_trans (Nat.le_of_ble_eq_true rfl) hRf, Nat.le_trans (Nat.le_of_ble_eq_true rfl) hRl⟩ rfl rfl hl_20.1 (Nat.le_of_ble_eq_true rfl) ⟨Nat.zero_le _, Nat.zero_le _⟩ dX9_take_94 ?_
          intro H_40 lo_40 I_40
          refine lv_dup2_11 hx hb dX9_take_97 rfl rfl ?_
          obtain ⟨g41, hf⟩ := ri_some hf
          refine kal10 F I_40 g41 dX9_take_98 ?_
          refine lv_iconst (v := (1 : Int32)) hx hb dX9_take_99 (by decide) ?_
          refine lv_iadd hx hb dX9_take_100 ?_
          obtain ⟨g42, hf⟩ := ri_some hf
          refine kas10 F I_40 g42 dX9_take_101 ?_
          intro H_44 lo_44 G43 eG43 I_44
          replace hf := nm_some eG43 hf
          cases hf
          exact J24 H_44 lo_44 I_44 ls_20 (lv_sub hl_20 [1, 2, 3] rfl)
        · replace hf := (if_pos c71).symm.trans hf
          refine lv_aload_n hx hb dX9_take_39 rfl (lv_at hl_20 1 rfl) ?_
          refine kgtX9_15_9 F I_23 dX9_take_40 ?_
          refine lv_iload_n hx hb dX9_take_43 rfl (lv_at hl_20 0 rfl) ?_
          obtain ⟨r45, h46⟩ : ∃ z, z = C_CO_firstOf r17 := ⟨_, rfl⟩
          replace hf := nm_some h46 hf
          refine s_callSi (As := [.int r17]) (rest := [.ref (ad 11)]) F I_23 (cC_CO_firstOf G9 E Dd P L pf r17 r45 h46) kX9_37 ⟨rfl, rfl⟩ ⟨Nat.le_trans (Nat.le_of_ble_eq_true rfl) hRf, Nat.le_trans (Nat.le_of_ble_eq_true rfl) hRl⟩ rfl rfl hl_20.1 (Nat.le_of_ble_eq_true rfl) ⟨Nat.zero_le _, Nat.zero_le _⟩ dX9_take_44 ?_
          intro H_47 lo_47 I_47
          refine lv_iload_n hx hb dX9_take_47 rfl (lv_at hl_20 0 rfl) ?_
          obtain ⟨r48, h49⟩ : ∃ z, z = C_CO_secondOf r17 := ⟨_, rfl⟩
          replace hf := nm_some h49 hf
          refine s_callSi (As := [.int r17]) (rest := [.int r45, .ref (ad 11)]) F I_47 (cC_CO_secondOf G9 E Dd P L pf r17 r48 h49) kX9_40 ⟨rfl, rfl⟩ ⟨Nat.le_trans (Nat.le_of_ble_eq_true rfl) hRf, Nat.le_trans (Nat.le_of_ble_eq_true rfl) hRl⟩ rfl rfl hl_20.1 (Nat.le_of_ble_eq_true rfl) ⟨Nat.zero_le _, Nat.zero_le _⟩ dX9_take_48 ?_
          intro H_50 lo_50 I_50
          obtain ⟨r51, h52⟩ : ∃ z, z = C_LT_cell r45 r48 := ⟨_, rfl⟩
          replace hf := nm_some h52 hf
          refine s_callSNi (As := [.int r45, .int r48]) (rest := [.ref (ad 11)]) F I_50 (cC_LT_cell G9 E Dd P L pf r45 r48 r51 h52) kX9_43 ⟨rfl, rfl⟩ ⟨Nat.le_trans (Nat.le_of_ble_eq_true rfl) hRf, Nat.le_trans (Nat.le_of_ble_eq_true rfl) hRl⟩ rfl rfl hl_20.1 (Nat.le_of_ble_eq_true rfl) ⟨Nat.zero_le _, Nat.zero_le _⟩ dX9_take_51 ?_
          intro H_53 lo_53 I_53
          refine lv_dup2_11 hx hb dX9_take_54 rfl rfl ?_
          obtain ⟨g54, hf⟩ := ri_some hf
          refine kal11 F I_53 g54 dX9_take_55 ?_
          refine lv_iconst (v := (1 : Int32)) hx hb dX9_take_56 (by decide) ?_
          refine lv_iadd hx hb dX9_take_57 ?_
          obtain ⟨g55, hf⟩ := ri_some hf
          refine kas11 F I_53 g55 dX9_take_58 ?_
          intro H_57 lo_57 G56 eG56 I_57
          replace hf := nm_some eG56 hf
          refine lv_aload_n hx hb dX9_take_59 rfl (lv_at hl_20 1 rfl) ?_
          refine kgtX9_15_9 F I_57 dX9_take_60 ?_
          refine lv_iload_n hx hb dX9_take_63 rfl (lv_at hl_20 0 rfl) ?_
          obtain ⟨r58, h59⟩ : ∃ z, z = C_CO_secondOf r17 := ⟨_, rfl⟩
          replace hf := nm_some h59 hf
          refine s_callSi (As := [.int r17]) (rest := [.ref (ad 11)]) F I_57 (cC_CO_secondOf G56 E Dd P L pf r17 r58 h59) kX9_40 ⟨rfl, rfl⟩ ⟨Nat.le_trans (Nat.le_of_ble_eq_true rfl) hRf, Nat.le_trans (Nat.le_of_ble_eq_true rfl) hRl⟩ rfl rfl hl_20.1 (Nat.le_of_ble_eq_true rfl) ⟨Nat.zero_le _, Nat.zero_le _⟩ dX9_take_64 ?_
          intro H_60 lo_60 I_60
          refine lv_iload_n hx hb dX9_take_67 rfl (lv_at hl_20 0 rfl) ?_
          obtain ⟨r61, h62⟩ : ∃ z, z = C_CO_firstOf r17 := ⟨_, rfl⟩
          replace hf := nm_some h62 hf
          refine s_callSi (As := [.int r17]) (rest := [.int r58, .ref (ad 11)]) F I_60 (cC_CO_firstOf G56 E Dd P L pf r17 r61 h62) kX9_37 ⟨rfl, rfl⟩ ⟨Nat.le_trans (Nat.le_of_ble_eq_true rfl) hRf, Nat.le_trans (Nat.le_of_ble_eq_true rfl) hRl⟩ rfl rfl hl_20.1 (Nat.le_of_ble_eq_true rfl) ⟨Nat.zero_le _, Nat.zero_le _⟩ dX9_take_68 ?_
          intro H_63 lo_63 I_63
          obtain ⟨r64, h65⟩ : ∃ z, z = C_LT_cell r58 r61 := ⟨_, rfl⟩
          replace hf := nm_some h65 hf
          refine s_callSNi (As := [.int r58, .int r61]) (rest := [.ref (ad 11)]) F I_63 (cC_LT_cell G56 E Dd P L pf r58 r61 r64 h65) kX9_43 ⟨rfl, rfl⟩ ⟨Nat.le_trans (Nat.le_of_ble_eq_true rfl) hRf, Nat.le_trans (Nat.le_of_ble_eq_true rfl) hRl⟩ rfl rfl hl_20.1 (Nat.le_of_ble_eq_true rfl) ⟨Nat.zero_le _, Nat.zero_le _⟩ dX9_take_71 ?_
          intro H_66 lo_66 I_66
          refine lv_dup2_11 hx hb dX9_take_74 rfl rfl ?_
          obtain ⟨g67, hf⟩ := ri_some hf
          refine kal11 F I_66 g67 dX9_take_75 ?_
          refine lv_iconst (v := (1 : Int32)) hx hb dX9_take_76 (by decide) ?_
          refine lv_iadd hx hb dX9_take_77 ?_
          obtain ⟨g68, hf⟩ := ri_some hf
          refine kas11 F I_66 g68 dX9_take_78 ?_
          intro H_70 lo_70 G69 eG69 I_70
          replace hf := nm_some eG69 hf
          refine lv_goto (tgt := 102) hx hb dX9_take_79 (by decide) ?_
          cases hf
          exact J24 H_70 lo_70 I_70 ls_20 (lv_sub hl_20 [1, 2, 3] rfl)
  exact L1 FU _ _ hq1 H_6 lo_6 I_6 ls_7 (lv_sub hl_7 [1, 2, 0] rfl)
def C_TX_isFull (G : Nat → Nat → Int32) : Option (Int32) :=
if G 9 0 < (60 : Int32) then
(some (0 : Int32))
else
(some (1 : Int32))
set_option maxRecDepth 100000 in
set_option maxHeartbeats 4000000 in
theorem cC_TX_isFull (G : Nat → Nat → Int32) (E : Nat → Nat → Int64) (Dd : Nat → Nat → UInt64) (P : Nat → Option Nat) (L : List Nat) (pf : Nat → va_E)  (rv : Int32)  (hf : C_TX_isFull G = some rv) : sMi D (cT cI cJ cD cS) (cW ad cI cJ cD cS) l yX10_isFull (ws1 yX10_isFull cX10_isFull 1 (some .boolean)) ({ frames := 0, cells := 0, slots := 0, locals := 0 }) [.ref (ad 6)] (G, E, Dd, P, L, pf) (rv, (G, E, Dd, P, L, pf)) := by
  unfold C_TX_isFull at hf
  refine sMz_of (by decide) (Nat.le_of_ble_eq_true rfl) ?_
  intro p e R s m args below meth c A Q ls H lo F hRf hRl I hl ret
  obtain ⟨hx, hb, hml, hown, hG⟩ := id F
  replace hl : lv_has ls 1 [(0, .ref (ad 6))] := hl
  refine lv_aload_n hx hb dX10_isFull_0 rfl (lv_at hl 0 rfl) ?_
  refine kgtX10_15_6 F I dX10_isFull_1 ?_
  refine lv_bipush (v := (60 : Int32)) hx hb dX10_isFull_4 (by decide) ?_
  refine lv_icmp_lt (tgt := 13) hx hb dX10_isFull_6 (by decide) (fun c1 => ?_) (fun c1 => ?_)
  · replace hf := (if_pos c1).symm.trans hf
    refine lv_iconst (v := (0 : Int32)) hx hb dX10_isFull_13 (by decide) ?_
    cases hf
    exact ret H lo _ ls I (Or.inl rfl) dX10_isFull_14
  · replace hf := (if_neg c1).symm.trans hf
    refine lv_iconst (v := (1 : Int32)) hx hb dX10_isFull_9 (by decide) ?_
    refine lv_goto (tgt := 14) hx hb dX10_isFull_10 (by decide) ?_
    cases hf
    exact ret H lo _ ls I (Or.inr rfl) dX10_isFull_14
def C_TX_put (G : Nat → Nat → Int32) (a0 : Int32) : Option ((Nat → Nat → Int32)) :=
bd (C_TX_isFull G) fun r1 =>
if r1 = 0 then
(ri 60 (G 9 0) <|
nm (wr G 8 (G 9 0) a0) fun G5 =>
nm (wf G5 9 ((G5 9 0) + (1 : Int32))) fun G7 =>
some G7)
else
(some G)
set_option maxRecDepth 100000 in
set_option maxHeartbeats 4000000 in
theorem cC_TX_put (G : Nat → Nat → Int32) (E : Nat → Nat → Int64) (Dd : Nat → Nat → UInt64) (P : Nat → Option Nat) (L : List Nat) (pf : Nat → va_E) (a0 : Int32)  (newG : Nat → Nat → Int32) (hf : C_TX_put G a0 = some newG) : sMv D (cT cI cJ cD cS) (cW ad cI cJ cD cS) l yX10_put (ws1 yX10_put cX10_put 2 none) ({ frames := 1, cells := 0, slots := 0, locals := 20 }) [.ref (ad 6), .int a0] (G, E, Dd, P, L, pf) (newG, E, Dd, P, L, pf) := by
  unfold C_TX_put at hf
  refine sMv_of (by decide) (Nat.le_of_ble_eq_true rfl) ?_
  intro p e R s m args below meth c A Q ls H lo F hRf hRl I hl ret
  obtain ⟨hx, hb, hml, hown, hG⟩ := id F
  replace hl : lv_has ls 2 [(0, .ref (ad 6)), (1, .int a0)] := hl
  refine lv_aload_n hx hb dX10_put_0 rfl (lv_at hl 0 rfl) ?_
  obtain ⟨r1, h2, hf⟩ := bd_some hf
  refine s_callVi (As := []) (rest := []) F I (cC_TX_isFull G E Dd P L pf r1 h2) kX10_37 ⟨rfl, rfl⟩ ⟨Nat.le_trans (Nat.le_of_ble_eq_true rfl) hRf, Nat.le_trans (Nat.le_of_ble_eq_true rfl) hRl⟩ 6 10 rfl rfl rfl rfl rfl hl.1 (Nat.le_of_ble_eq_true rfl) ⟨Nat.zero_le _, Nat.zero_le _⟩ dX10_put_1 ?_
  intro H_3 lo_3 I_3
  refine lv_if_ne (tgt := 27) hx hb dX10_put_4 (by decide) (fun c9 => ?_) (fun c9 => ?_)
  · replace hf := (if_neg c9).symm.trans hf
    cases hf
    exact ret H_3 lo_3 _ ls I_3 dX10_put_27
  · replace hf := (if_pos c9).symm.trans hf
    refine lv_aload_n hx hb dX10_put_7 rfl (lv_at hl 0 rfl) ?_
    refine kgtX10_9_6 F I_3 dX10_put_8 ?_
    refine lv_aload_n hx hb dX10_put_11 rfl (lv_at hl 0 rfl) ?_
    refine kgtX10_15_6 F I_3 dX10_put_12 ?_
    refine lv_iload_n hx hb dX10_put_15 rfl (lv_at hl 1 rfl) ?_
    obtain ⟨g4, hf⟩ := ri_some hf
    refine kas7 F I_3 g4 dX10_put_16 ?_
    intro H_6 lo_6 G5 eG5 I_6
    replace hf := nm_some eG5 hf
    refine lv_aload_n hx hb dX10_put_17 rfl (lv_at hl 0 rfl) ?_
    refine lv_dup hx hb dX10_put_18 rfl ?_
    refine kgtX10_15_6 F I_6 dX10_put_19 ?_
    refine lv_iconst (v := (1 : Int32)) hx hb dX10_put_22 (by decide) ?_
    refine lv_iadd hx hb dX10_put_23 ?_
    refine kptX10_15_6 F I_6 dX10_put_24 ?_
    intro H_8 lo_8 G7 eG7 I_8
    replace hf := nm_some eG7 hf
    cases hf
    exact ret H_8 lo_8 _ ls I_8 dX10_put_27
def C_TX_codeAt (G : Nat → Nat → Int32) (a0 : Int32) : Option (Int32) :=
if a0 < 0 then
(some (0 : Int32))
else
(if G 9 0 ≤ a0 then
(some (0 : Int32))
else
(ri 60 a0 <|
some (G 8 a0.toNatClampNeg)))
set_option maxRecDepth 100000 in
set_option maxHeartbeats 4000000 in
theorem cC_TX_codeAt (G : Nat → Nat → Int32) (E : Nat → Nat → Int64) (Dd : Nat → Nat → UInt64) (P : Nat → Option Nat) (L : List Nat) (pf : Nat → va_E) (a0 : Int32) (rv : Int32)  (hf : C_TX_codeAt G a0 = some rv) : sMi D (cT cI cJ cD cS) (cW ad cI cJ cD cS) l yX10_codeAt (ws1 yX10_codeAt cX10_codeAt 2 (some .int)) ({ frames := 0, cells := 0, slots := 0, locals := 0 }) [.ref (ad 6), .int a0] (G, E, Dd, P, L, pf) (rv, (G, E, Dd, P, L, pf)) := by
  unfold C_TX_codeAt at hf
  refine sMi_of (by decide) (Nat.le_of_ble_eq_true rfl) ?_
  intro p e R s m args below meth c A Q ls H lo F hRf hRl I hl ret
  obtain ⟨hx, hb, hml, hown, hG⟩ := id F
  replace hl : lv_has ls 2 [(0, .ref (ad 6)), (1, .int a0)] := hl
  refine lv_iload_n hx hb dX10_codeAt_0 rfl (lv_at hl 1 rfl) ?_
  refine lv_if_lt (tgt := 21) hx hb dX10_codeAt_1 (by decide) (fun c3 => ?_) (fun c3 => ?_)
  · replace hf := (if_pos c3).symm.trans hf
    refine lv_iconst (v := (0 : Int32)) hx hb dX10_codeAt_21 (by decide) ?_
    cases hf
    exact ret H lo _ ls I dX10_codeAt_22
  · replace hf := (if_neg c3).symm.trans hf
    refine lv_iload_n hx hb dX10_codeAt_4 rfl (lv_at hl 1 rfl) ?_
    refine lv_aload_n hx hb dX10_codeAt_5 rfl (lv_at hl 0 rfl) ?_
    refine kgtX10_15_6 F I dX10_codeAt_6 ?_
    refine lv_icmp_ge (tgt := 21) hx hb dX10_codeAt_9 (by decide) (fun c2 => ?_) (fun c2 => ?_)
    · replace hf := (if_pos c2).symm.trans hf
      refine lv_iconst (v := (0 : Int32)) hx hb dX10_codeAt_21 (by decide) ?_
      cases hf
      exact ret H lo _ ls I dX10_codeAt_22
    · replace hf := (if_neg c2).symm.trans hf
      refine lv_aload_n hx hb dX10_codeAt_12 rfl (lv_at hl 0 rfl) ?_
      refine kgtX10_9_6 F I dX10_codeAt_13 ?_
      refine lv_iload_n hx hb dX10_codeAt_16 rfl (lv_at hl 1 rfl) ?_
      obtain ⟨g1, hf⟩ := ri_some hf
      refine kal7 F I g1 dX10_codeAt_17 ?_
      refine lv_goto (tgt := 22) hx hb dX10_codeAt_18 (by decide) ?_
      cases hf
      exact ret H lo _ ls I dX10_codeAt_22
def C_TX_foundAt (G : Nat → Nat → Int32) (a0 : Int32) : Option (Int32) :=
if a0 < 0 then
(some (0 : Int32))
else
(if G 11 0 ≤ a0 then
(some (0 : Int32))
else
(ri 15 a0 <|
some (G 10 a0.toNatClampNeg)))
set_option maxRecDepth 100000 in
set_option maxHeartbeats 4000000 in
theorem cC_TX_foundAt (G : Nat → Nat → Int32) (E : Nat → Nat → Int64) (Dd : Nat → Nat → UInt64) (P : Nat → Option Nat) (L : List Nat) (pf : Nat → va_E) (a0 : Int32) (rv : Int32)  (hf : C_TX_foundAt G a0 = some rv) : sMi D (cT cI cJ cD cS) (cW ad cI cJ cD cS) l yX10_foundAt (ws1 yX10_foundAt cX10_foundAt 2 (some .int)) ({ frames := 0, cells := 0, slots := 0, locals := 0 }) [.ref (ad 6), .int a0] (G, E, Dd, P, L, pf) (rv, (G, E, Dd, P, L, pf)) := by
  unfold C_TX_foundAt at hf
  refine sMi_of (by decide) (Nat.le_of_ble_eq_true rfl) ?_
  intro p e R s m args below meth c A Q ls H lo F hRf hRl I hl ret
  obtain ⟨hx, hb, hml, hown, hG⟩ := id F
  replace hl : lv_has ls 2 [(0, .ref (ad 6)), (1, .int a0)] := hl
  refine lv_iload_n hx hb dX10_foundAt_0 rfl (lv_at hl 1 rfl) ?_
  refine lv_if_lt (tgt := 21) hx hb dX10_foundAt_1 (by decide) (fun c3 => ?_) (fun c3 => ?_)
  · replace hf := (if_pos c3).symm.trans hf
    refine lv_iconst (v := (0 : Int32)) hx hb dX10_foundAt_21 (by decide) ?_
    cases hf
    exact ret H lo _ ls I dX10_foundAt_22
  · replace hf := (if_neg c3).symm.trans hf
    refine lv_iload_n hx hb dX10_foundAt_4 rfl (lv_at hl 1 rfl) ?_
    refine lv_aload_n hx hb dX10_foundAt_5 rfl (lv_at hl 0 rfl) ?_
    refine kgtX10_22_6 F I dX10_foundAt_6 ?_
    refine lv_icmp_ge (tgt := 21) hx hb dX10_foundAt_9 (by decide) (fun c2 => ?_) (fun c2 => ?_)
    · replace hf := (if_pos c2).symm.trans hf
      refine lv_iconst (v := (0 : Int32)) hx hb dX10_foundAt_21 (by decide) ?_
      cases hf
      exact ret H lo _ ls I dX10_foundAt_22
    · replace hf := (if_neg c2).symm.trans hf
      refine lv_aload_n hx hb dX10_foundAt_12 rfl (lv_at hl 0 rfl) ?_
      refine kgtX10_19_6 F I dX10_foundAt_13 ?_
      refine lv_iload_n hx hb dX10_foundAt_16 rfl (lv_at hl 1 rfl) ?_
      obtain ⟨g1, hf⟩ := ri_some hf
      refine kal8 F I g1 dX10_foundAt_17 ?_
      refine lv_goto (tgt := 22) hx hb dX10_foundAt_18 (by decide) ?_
      cases hf
      exact ret H lo _ ls I dX10_foundAt_22
def C_TX_answerOfSign (a0 : Int32) : Option (Int32) :=
if a0 = (60 : Int32) then
(some (2 : Int32))
else if a0 = (61 : Int32) then
(some (0 : Int32))
else if a0 = (62 : Int32) then
(some (1 : Int32))
else (some (-1 : Int32))
set_option maxRecDepth 100000 in
set_option maxHeartbeats 4000000 in
theorem cC_TX_answerOfSign (G : Nat → Nat → Int32) (E : Nat → Nat → Int64) (Dd : Nat → Nat → UInt64) (P : Nat → Option Nat) (L : List Nat) (pf : Nat → va_E) (a0 : Int32) (rv : Int32)  (hf : C_TX_answerOfSign a0 = some rv) : sMi D (cT cI cJ cD cS) (cW ad cI cJ cD cS) l yX10_answerOfSign (ws1 yX10_answerOfSign cX10_answerOfSign 1 (some .int)) ({ frames := 0, cells := 0, slots := 0, locals := 0 }) [.int a0] (G, E, Dd, P, L, pf) (rv, (G, E, Dd, P, L, pf)) := by
  unfold C_TX_answerOfSign at hf
  refine sMi_of (by decide) (Nat.le_of_ble_eq_true rfl) ?_
  intro p e R s m args below meth c A Q ls H lo F hRf hRl I hl ret
  obtain ⟨hx, hb, hml, hown, hG⟩ := id F
  replace hl : lv_has ls 1 [(0, .int a0)] := hl
  refine lv_iload_n hx hb dX10_answerOfSign_0 rfl (lv_at hl 0 rfl) ?_
  by_cases c1 : a0 = (60 : Int32)
  · replace hf := (if_pos c1).symm.trans hf
    refine lv_tableIn (off := 29) (tgt := 30) hx hb dX10_answerOfSign_1 (by rw [c1]; decide) (by rw [c1]; decide) (by rw [c1]; rfl) (by decide) ?_
    refine lv_iconst (v := (2 : Int32)) hx hb dX10_answerOfSign_30 (by decide) ?_
    cases hf
    exact ret H lo _ ls I dX10_answerOfSign_31
  replace hf := (if_neg c1).symm.trans hf
  by_cases c2 : a0 = (61 : Int32)
  · replace hf := (if_pos c2).symm.trans hf
    refine lv_tableIn (off := 31) (tgt := 32) hx hb dX10_answerOfSign_1 (by rw [c2]; decide) (by rw [c2]; decide) (by rw [c2]; rfl) (by decide) ?_
    refine lv_iconst (v := (0 : Int32)) hx hb dX10_answerOfSign_32 (by decide) ?_
    cases hf
    exact ret H lo _ ls I dX10_answerOfSign_33
  replace hf := (if_neg c2).symm.trans hf
  by_cases c3 : a0 = (62 : Int32)
  · replace hf := (if_pos c3).symm.trans hf
    refine lv_tableIn (off := 27) (tgt := 28) hx hb dX10_answerOfSign_1 (by rw [c3]; decide) (by rw [c3]; decide) (by rw [c3]; rfl) (by decide) ?_
    refine lv_iconst (v := (1 : Int32)) hx hb dX10_answerOfSign_28 (by decide) ?_
    cases hf
    exact ret H lo _ ls I dX10_answerOfSign_29
  replace hf := (if_neg c3).symm.trans hf
  refine lv_tableOut (tgt := 34) hx hb dX10_answerOfSign_1 (tsw60_62 c1 c2 c3) (by decide) ?_
  refine lv_iconst (v := (-1 : Int32)) hx hb dX10_answerOfSign_34 (by decide) ?_
  cases hf
  exact ret H lo _ ls I dX10_answerOfSign_35
def C_TX_takesSecond (G : Nat → Nat → Int32) (a0 : Int32) (a1 : Int32) : Option (Int32 × (Nat → Nat → Int32)) :=
if a0 < 0 then
(some ((0 : Int32), G))
else
(if a1 ≤ a0 then
(some ((0 : Int32), G))
else
(if a0 = G 14 0 then
(some ((0 : Int32), G))
else
(if G 11 0 < (15 : Int32) then
(nm (C_CO_packed (G 13 0) (G 14 0) a0 (G 15 0)) fun r1 =>
ri 15 (G 11 0) <|
nm (wr G 10 (G 11 0) r1) fun G5 =>
nm (wf G5 11 ((G5 11 0) + (1 : Int32))) fun G7 =>
some ((1 : Int32), G7))
else
(some ((0 : Int32), G)))))
set_option maxRecDepth 100000 in
set_option maxHeartbeats 4000000 in
theorem cC_TX_takesSecond (G : Nat → Nat → Int32) (E : Nat → Nat → Int64) (Dd : Nat → Nat → UInt64) (P : Nat → Option Nat) (L : List Nat) (pf : Nat → va_E) (a0 : Int32) (a1 : Int32) (rv : Int32) (newG : Nat → Nat → Int32) (hf : C_TX_takesSecond G a0 a1 = some (rv, newG)) : sMi D (cT cI cJ cD cS) (cW ad cI cJ cD cS) l yX10_takesSecond (ws1 yX10_takesSecond cX10_takesSecond 3 (some .boolean)) ({ frames := 1, cells := 0, slots := 0, locals := 23 }) [.ref (ad 6), .int a0, .int a1] (G, E, Dd, P, L, pf) (rv, (newG, E, Dd, P, L, pf)) := by
  unfold C_TX_takesSecond at hf
  refine sMz_of (by decide) (Nat.le_of_ble_eq_true rfl) ?_
  intro p e R s m args below meth c A Q ls H lo F hRf hRl I hl ret
  obtain ⟨hx, hb, hml, hown, hG⟩ := id F
  replace hl : lv_has ls 3 [(0, .ref (ad 6)), (1, .int a0), (2, .int a1)] := hl
  refine lv_iload_n hx hb dX10_takesSecond_0 rfl (lv_at hl 1 rfl) ?_
  refine lv_if_lt (tgt := 29) hx hb dX10_takesSecond_1 (by decide) (fun c12 => ?_) (fun c12 => ?_)
  · replace hf := (if_pos c12).symm.trans hf
    refine lv_iconst (v := (0 : Int32)) hx hb dX10_takesSecond_29 (by decide) ?_
    cases hf
    exact ret H lo _ ls I (Or.inl rfl) dX10_takesSecond_30
  · replace hf := (if_neg c12).symm.trans hf
    refine lv_iload_n hx hb dX10_takesSecond_4 rfl (lv_at hl 1 rfl) ?_
    refine lv_iload_n hx hb dX10_takesSecond_5 rfl (lv_at hl 2 rfl) ?_
    refine lv_icmp_ge (tgt := 29) hx hb dX10_takesSecond_6 (by decide) (fun c11 => ?_) (fun c11 => ?_)
    · replace hf := (if_pos c11).symm.trans hf
      refine lv_iconst (v := (0 : Int32)) hx hb dX10_takesSecond_29 (by decide) ?_
      cases hf
      exact ret H lo _ ls I (Or.inl rfl) dX10_takesSecond_30
    · replace hf := (if_neg c11).symm.trans hf
      refine lv_iload_n hx hb dX10_takesSecond_9 rfl (lv_at hl 1 rfl) ?_
      refine lv_aload_n hx hb dX10_takesSecond_10 rfl (lv_at hl 0 rfl) ?_
      refine kgtX10_31_6 F I dX10_takesSecond_11 ?_
      refine lv_icmp_eq (tgt := 29) hx hb dX10_takesSecond_14 (by decide) (fun c10 => ?_) (fun c10 => ?_)
      · replace hf := (if_pos c10).symm.trans hf
        refine lv_iconst (v := (0 : Int32)) hx hb dX10_takesSecond_29 (by decide) ?_
        cases hf
        exact ret H lo _ ls I (Or.inl rfl) dX10_takesSecond_30
      · replace hf := (if_neg c10).symm.trans hf
        refine lv_aload_n hx hb dX10_takesSecond_17 rfl (lv_at hl 0 rfl) ?_
        refine kgtX10_22_6 F I dX10_takesSecond_18 ?_
        refine lv_aload_n hx hb dX10_takesSecond_21 rfl (lv_at hl 0 rfl) ?_
        refine kgtX10_19_6 F I dX10_takesSecond_22 ?_
        refine kln8 F I dX10_takesSecond_25 ?_
        refine lv_icmp_lt (tgt := 31) hx hb dX10_takesSecond_26 (by decide) (fun c9 => ?_) (fun c9 => ?_)
        · replace hf := (if_pos c9).symm.trans hf
          refine lv_aload_n hx hb dX10_takesSecond_31 rfl (lv_at hl 0 rfl) ?_
          refine kgtX10_19_6 F I dX10_takesSecond_32 ?_
          refine lv_aload_n hx hb dX10_takesSecond_35 rfl (lv_at hl 0 rfl) ?_
          refine kgtX10_22_6 F I dX10_takesSecond_36 ?_
          refine lv_aload_n hx hb dX10_takesSecond_39 rfl (lv_at hl 0 rfl) ?_
          refine kgtX10_28_6 F I dX10_takesSecond_40 ?_
          refine lv_aload_n hx hb dX10_takesSecond_43 rfl (lv_at hl 0 rfl) ?_
          refine kgtX10_31_6 F I dX10_takesSecond_44 ?_
          refine lv_iload_n hx hb dX10_takesSecond_47 rfl (lv_at hl 1 rfl) ?_
          refine lv_aload_n hx hb dX10_takesSecond_48 rfl (lv_at hl 0 rfl) ?_
          refine kgtX10_34_6 F I dX10_takesSecond_49 ?_
          obtain ⟨r1, h2⟩ : ∃ z, z = C_CO_packed (G 13 0) (G 14 0) a0 (G 15 0) := ⟨_, rfl⟩
          replace hf := nm_some h2 hf
          refine s_callSi (As := [.int (G 13 0), .int (G 14 0), .int a0, .int (G 15 0)]) (rest := [.int (G 11 0), .ref (ad 8)]) F I (cC_CO_packed G E Dd P L pf (G 13 0) (G 14 0) a0 (G 15 0) r1 h2) kX10_57 ⟨rfl, rfl⟩ ⟨Nat.le_trans (Nat.le_of_ble_eq_true rfl) hRf, Nat.le_trans (Nat.le_of_ble_eq_true rfl) hRl⟩ rfl rfl hl.1 (Nat.le_of_ble_eq_true rfl) ⟨Nat.zero_le _, Nat.zero_le _⟩ dX10_takesSecond_52 ?_
          intro H_3 lo_3 I_3
          obtain ⟨g4, hf⟩ := ri_some hf
          refine kas8 F I_3 g4 dX10_takesSecond_55 ?_
          intro H_6 lo_6 G5 eG5 I_6
          replace hf := nm_some eG5 hf
          refine lv_aload_n hx hb dX10_takesSecond_56 rfl (lv_at hl 0 rfl) ?_
          refine lv_dup hx hb dX10_takesSecond_57 rfl ?_
          refine kgtX10_22_6 F I_6 dX10_takesSecond_58 ?_
          refine lv_iconst (v := (1 : Int32)) hx hb dX10_takesSecond_61 (by decide) ?_
          refine lv_iadd hx hb dX10_takesSecond_62 ?_
          refine kptX10_22_6 F I_6 dX10_takesSecond_63 ?_
          intro H_8 lo_8 G7 eG7 I_8
          replace hf := nm_some eG7 hf
          refine lv_iconst (v := (1 : Int32)) hx hb dX10_takesSecond_66 (by decide) ?_
          cases hf
          exact ret H_8 lo_8 _ ls I_8 (Or.inr rfl) dX10_takesSecond_67
        · replace hf := (if_neg c9).symm.trans hf
          refine lv_iconst (v := (0 : Int32)) hx hb dX10_takesSecond_29 (by decide) ?_
          cases hf
          exact ret H lo _ ls I (Or.inl rfl) dX10_takesSecond_30
def C_TX_takes (G : Nat → Nat → Int32) (a0 : Int32) (a1 : Int32) (a2 : Int32) : Option (Int32 × (Nat → Nat → Int32)) :=
nm (G 12 0 : Int32) fun x1 =>
if x1 = (0 : Int32) then
(nm (wf G 13 (a0 - (48 : Int32))) fun G3 =>
nm (wf G3 12 (1 : Int32)) fun G5 =>
if G5 13 0 < 0 then
(some ((0 : Int32), G5))
else
(if a2 ≤ G5 13 0 then
(some ((0 : Int32), G5))
else
(some ((1 : Int32), G5))))
else if x1 = (1 : Int32) then
(nm (wf G 12 (2 : Int32)) fun G10 =>
if a0 = (58 : Int32) then
(some ((1 : Int32), G10))
else
(some ((0 : Int32), G10)))
else if x1 = (2 : Int32) then
(nm (wf G 14 (a0 - (97 : Int32))) fun G14 =>
nm (wf G14 12 (3 : Int32)) fun G16 =>
if G16 14 0 < 0 then
(some ((0 : Int32), G16))
else
(if a1 ≤ G16 14 0 then
(some ((0 : Int32), G16))
else
(some ((1 : Int32), G16))))
else if x1 = (3 : Int32) then
(bd (C_TX_answerOfSign a0) fun r21 =>
nm (wf G 15 r21) fun G24 =>
nm (wf G24 12 (4 : Int32)) fun G26 =>
if G26 15 0 = (-1 : Int32) then
(some ((0 : Int32), G26))
else
(some ((1 : Int32), G26)))
else if x1 = (4 : Int32) then
(nm (wf G 12 (5 : Int32)) fun G30 =>
bd2 (C_TX_takesSecond G30 (a0 - (97 : Int32)) a1) fun r32 G33 =>
gd (r32 = 0 ∨ r32 = 1) <|
some (r32, G33))
else (bd (if a0 = (44 : Int32) then
(some (2 : Int32))
else
(some (0 : Int32))) fun x38 =>
nm (wf G 12 x38) fun G42 =>
if a0 = (44 : Int32) then
(some ((1 : Int32), G42))
else
(if a0 = (59 : Int32) then
(some ((1 : Int32), G42))
else
(some ((0 : Int32), G42))))
set_option maxRecDepth 100000 in
set_option maxHeartbeats 4000000 in
theorem cC_TX_takes (G : Nat → Nat → Int32) (E : Nat → Nat → Int64) (Dd : Nat → Nat → UInt64) (P : Nat → Option Nat) (L : List Nat) (pf : Nat → va_E) (a0 : Int32) (a1 : Int32) (a2 : Int32) (rv : Int32) (newG : Nat → Nat → Int32) (hf : C_TX_takes G a0 a1 a2 = some (rv, newG)) : sMi D (cT cI cJ cD cS) (cW ad cI cJ cD cS) l yX10_takes (ws1 yX10_takes cX10_takes 4 (some .boolean)) ({ frames := 2, cells := 0, slots := 0, locals := 45 }) [.ref (ad 6), .int a0, .int a1, .int a2] (G, E, Dd, P, L, pf) (rv, (newG, E, Dd, P, L, pf)) := by
  unfold C_TX_takes at hf
  refine sMz_of (by decide) (Nat.le_of_ble_eq_true rfl) ?_
  intro p e R s m args below meth c A Q ls H lo F hRf hRl I hl ret
  obtain ⟨hx, hb, hml, hown, hG⟩ := id F
  replace hl : lv_has ls 4 [(0, .ref (ad 6)), (1, .int a0), (2, .int a1), (3, .int a2)] := hl
  refine lv_aload_n hx hb dX10_takes_0 rfl (lv_at hl 0 rfl) ?_
  refine kgtX10_25_6 F I dX10_takes_1 ?_
  refine lv_topi (fun x1 ex1 => ?_)
  replace hf := nm_some ex1 hf
  by_cases c2 : x1 = (0 : Int32)
  · replace hf := (if_pos c2).symm.trans hf
    refine lv_tableIn (off := 36) (tgt := 40) hx hb dX10_takes_4 (by rw [c2]; decide) (by rw [c2]; decide) (by rw [c2]; rfl) (by decide) ?_
    refine lv_aload_n hx hb dX10_takes_40 rfl (lv_at hl 0 rfl) ?_
    refine lv_iload_n hx hb dX10_takes_41 rfl (lv_at hl 1 rfl) ?_
    refine lv_bipush (v := (48 : Int32)) hx hb dX10_takes_42 (by decide) ?_
    refine lv_isub hx hb dX10_takes_44 ?_
    refine kptX10_28_6 F I dX10_takes_45 ?_
    intro H_4 lo_4 G3 eG3 I_4
    replace hf := nm_some eG3 hf
    refine lv_aload_n hx hb dX10_takes_48 rfl (lv_at hl 0 rfl) ?_
    refine lv_iconst (v := (1 : Int32)) hx hb dX10_takes_49 (by decide) ?_
    refine kptX10_25_6 F I_4 dX10_takes_50 ?_
    intro H_6 lo_6 G5 eG5 I_6
    replace hf := nm_some eG5 hf
    refine lv_aload_n hx hb dX10_takes_53 rfl (lv_at hl 0 rfl) ?_
    refine kgtX10_28_6 F I_6 dX10_takes_54 ?_
    refine lv_if_lt (tgt := 72) hx hb dX10_takes_57 (by decide) (fun c8 => ?_) (fun c8 => ?_)
    · replace hf := (if_pos c8).symm.trans hf
      refine lv_iconst (v := (0 : Int32)) hx hb dX10_takes_72 (by decide) ?_
      cases hf
      exact ret H_6 lo_6 _ ls I_6 (Or.inl rfl) dX10_takes_73
    · replace hf := (if_neg c8).symm.trans hf
      refine lv_aload_n hx hb dX10_takes_60 rfl (lv_at hl 0 rfl) ?_
      refine kgtX10_28_6 F I_6 dX10_takes_61 ?_
      refine lv_iload_n hx hb dX10_takes_64 rfl (lv_at hl 3 rfl) ?_
      refine lv_icmp_ge (tgt := 72) hx hb dX10_takes_65 (by decide) (fun c7 => ?_) (fun c7 => ?_)
      · replace hf := (if_pos c7).symm.trans hf
        refine lv_iconst (v := (0 : Int32)) hx hb dX10_takes_72 (by decide) ?_
        cases hf
        exact ret H_6 lo_6 _ ls I_6 (Or.inl rfl) dX10_takes_73
      · replace hf := (if_neg c7).symm.trans hf
        refine lv_iconst (v := (1 : Int32)) hx hb dX10_takes_68 (by decide) ?_
        refine lv_goto (tgt := 73) hx hb dX10_takes_69 (by decide) ?_
        cases hf
        exact ret H_6 lo_6 _ ls I_6 (Or.inr rfl) dX10_takes_73
  replace hf := (if_neg c2).symm.trans hf
  by_cases c9 : x1 = (1 : Int32)
  · replace hf := (if_pos c9).symm.trans hf
    refine lv_tableIn (off := 70) (tgt := 74) hx hb dX10_takes_4 (by rw [c9]; decide) (by rw [c9]; decide) (by rw [c9]; rfl) (by decide) ?_
    refine lv_aload_n hx hb dX10_takes_74 rfl (lv_at hl 0 rfl) ?_
    refine lv_iconst (v := (2 : Int32)) hx hb dX10_takes_75 (by decide) ?_
    refine kptX10_25_6 F I dX10_takes_76 ?_
    intro H_11 lo_11 G10 eG10 I_11
    replace hf := nm_some eG10 hf
    refine lv_iload_n hx hb dX10_takes_79 rfl (lv_at hl 1 rfl) ?_
    refine lv_bipush (v := (58 : Int32)) hx hb dX10_takes_80 (by decide) ?_
    refine lv_icmp_ne (tgt := 89) hx hb dX10_takes_82 (by decide) (fun c12 => ?_) (fun c12 => ?_)
    · replace hf := (if_neg c12).symm.trans hf
      refine lv_iconst (v := (0 : Int32)) hx hb dX10_takes_89 (by decide) ?_
      cases hf
      exact ret H_11 lo_11 _ ls I_11 (Or.inl rfl) dX10_takes_90
    · replace hf := (if_pos c12).symm.trans hf
      refine lv_iconst (v := (1 : Int32)) hx hb dX10_takes_85 (by decide) ?_
      refine lv_goto (tgt := 90) hx hb dX10_takes_86 (by decide) ?_
      cases hf
      exact ret H_11 lo_11 _ ls I_11 (Or.inr rfl) dX10_takes_90
  replace hf := (if_neg c9).symm.trans hf
  by_cases c13 : x1 = (2 : Int32)
  · replace hf := (if_pos c13).symm.trans hf
    refine lv_tableIn (off := 87) (tgt := 91) hx hb dX10_takes_4 (by rw [c13]; decide) (by rw [c13]; decide) (by rw [c13]; rfl) (by decide) ?_
    refine lv_aload_n hx hb dX10_takes_91 rfl (lv_at hl 0 rfl) ?_
    refine lv_iload_n hx hb dX10_takes_92 rfl (lv_at hl 1 rfl) ?_
    refine lv_bipush (v := (97 : Int32)) hx hb dX10_takes_93 (by decide) ?_
    refine lv_isub hx hb dX10_takes_95 ?_
    refine kptX10_31_6 F I dX10_takes_96 ?_
    intro H_15 lo_15 G14 eG14 I_15
    replace hf := nm_some eG14 hf
    refine lv_aload_n hx hb dX10_takes_99 rfl (lv_at hl 0 rfl) ?_
    refine lv_iconst (v := (3 : Int32)) hx hb dX10_takes_100 (by decide) ?_
    refine kptX10_25_6 F I_15 dX10_takes_101 ?_
    intro H_17 lo_17 G16 eG16 I_17
    replace hf := nm_some eG16 hf
    refine lv_aload_n hx hb dX10_takes_104 rfl (lv_at hl 0 rfl) ?_
    refine kgtX10_31_6 F I_17 dX10_takes_105 ?_
    refine lv_if_lt (tgt := 123) hx hb dX10_takes_108 (by decide) (fun c19 => ?_) (fun c19 => ?_)
    · replace hf := (if_pos c19).symm.trans hf
      refine lv_iconst (v := (0 : Int32)) hx hb dX10_takes_123 (by decide) ?_
      cases hf
      exact ret H_17 lo_17 _ ls I_17 (Or.inl rfl) dX10_takes_124
    · replace hf := (if_neg c19).symm.trans hf
      refine lv_aload_n hx hb dX10_takes_111 rfl (lv_at hl 0 rfl) ?_
      refine kgtX10_31_6 F I_17 dX10_takes_112 ?_
      refine lv_iload_n hx hb dX10_takes_115 rfl (lv_at hl 2 rfl) ?_
      refine lv_icmp_ge (tgt := 123) hx hb dX10_takes_116 (by decide) (fun c18 => ?_) (fun c18 => ?_)
      · replace hf := (if_pos c18).symm.trans hf
        refine lv_iconst (v := (0 : Int32)) hx hb dX10_takes_123 (by decide) ?_
        cases hf
        exact ret H_17 lo_17 _ ls I_17 (Or.inl rfl) dX10_takes_124
      · replace hf := (if_neg c18).symm.trans hf
        refine lv_iconst (v := (1 : Int32)) hx hb dX10_takes_119 (by decide) ?_
        refine lv_goto (tgt := 124) hx hb dX10_takes_120 (by decide) ?_
        cases hf
        exact ret H_17 lo_17 _ ls I_17 (Or.inr rfl) dX10_takes_124
  replace hf := (if_neg c13).symm.trans hf
  by_cases c20 : x1 = (3 : Int32)
  · replace hf := (if_pos c20).symm.trans hf
    refine lv_tableIn (off := 121) (tgt := 125) hx hb dX10_takes_4 (by rw [c20]; decide) (by rw [c20]; decide) (by rw [c20]; rfl) (by decide) ?_
    refine lv_aload_n hx hb dX10_takes_125 rfl (lv_at hl 0 rfl) ?_
    refine lv_iload_n hx hb dX10_takes_126 rfl (lv_at hl 1 rfl) ?_
    obtain ⟨r21, h22, hf⟩ := bd_some hf
    refine s_callSi (As := [.int a0]) (rest := [.ref (ad 6)]) F I (cC_TX_answerOfSign G E Dd P L pf a0 r21 h22) kX10_49 ⟨rfl, rfl⟩ ⟨Nat.le_trans (Nat.le_of_ble_eq_true rfl) hRf, Nat.le_trans (Nat.le_of_ble_eq_true rfl) hRl⟩ rfl rfl hl.1 (Nat.le_of_ble_eq_true rfl) ⟨Nat.zero_le _, Nat.zero_le _⟩ dX10_takes_127 ?_
    intro H_23 lo_23 I_23
    refine kptX10_34_6 F I_23 dX10_takes_130 ?_
    intro H_25 lo_25 G24 eG24 I_25
    replace hf := nm_some eG24 hf
    refine lv_aload_n hx hb dX10_takes_133 rfl (lv_at hl 0 rfl) ?_
    refine lv_iconst (v := (4 : Int32)) hx hb dX10_takes_134 (by decide) ?_
    refine kptX10_25_6 F I_25 dX10_takes_135 ?_
    intro H_27 lo_27 G26 eG26 I_27
    replace hf := nm_some eG26 hf
    refine lv_aload_n hx hb dX10_takes_138 rfl (lv_at hl 0 rfl) ?_
    refine kgtX10_34_6 F I_27 dX10_takes_139 ?_
    refine lv_iconst (v := (-1 : Int32)) hx hb dX10_takes_142 (by decide) ?_
    refine lv_icmp_eq (tgt := 150) hx hb dX10_takes_143 (by decide) (fun c28 => ?_) (fun c28 => ?_)
    · replace hf := (if_pos c28).symm.trans hf
      refine lv_iconst (v := (0 : Int32)) hx hb dX10_takes_150 (by decide) ?_
      cases hf
      exact ret H_27 lo_27 _ ls I_27 (Or.inl rfl) dX10_takes_151
    · replace hf := (if_neg c28).symm.trans hf
      refine lv_iconst (v := (1 : Int32)) hx hb dX10_takes_146 (by decide) ?_
      refine lv_goto (tgt := 151) hx hb dX10_takes_147 (by decide) ?_
      cases hf
      exact ret H_27 lo_27 _ ls I_27 (Or.inr rfl) dX10_takes_151
  replace hf := (if_neg c20).symm.trans hf
  by_cases c29 : x1 = (4 : Int32)
  · replace hf := (if_pos c29).symm.trans hf
    refine lv_tableIn (off := 148) (tgt := 152) hx hb dX10_takes_4 (by rw [c29]; decide) (by rw [c29]; decide) (by rw [c29]; rfl) (by decide) ?_
    refine lv_aload_n hx hb dX10_takes_152 rfl (lv_at hl 0 rfl) ?_
    refine lv_iconst (v := (5 : Int32)) hx hb dX10_takes_153 (by decide) ?_
    refine kptX10_25_6 F I dX10_takes_154 ?_
    intro H_31 lo_31 G30 eG30 I_31
    replace hf := nm_some eG30 hf
    refine lv_aload_n hx hb dX10_takes_157 rfl (lv_at hl 0 rfl) ?_
    refine lv_iload_n hx hb dX10_takes_158 rfl (lv_at hl 1 rfl) ?_
    refine lv_bipush (v := (97 : Int32)) hx hb dX10_takes_159 (by decide) ?_
    refine lv_isub hx hb dX10_takes_161 ?_
    refine lv_iload_n hx hb dX10_takes_162 rfl (lv_at hl 2 rfl) ?_
    obtain ⟨r32, G33, h34, hf⟩ := bd2_some hf
    refine s_callVi (As := [.int (a0 - (97 : Int32)), .int a1]) (rest := []) F I_31 (cC_TX_takesSecond G30 E Dd P L pf (a0 - (97 : Int32)) a1 r32 G33 h34) kX10_53 ⟨rfl, rfl⟩ ⟨Nat.le_trans (Nat.le_of_ble_eq_true rfl) hRf, Nat.le_trans (Nat.le_of_ble_eq_true rfl) hRl⟩ 6 10 rfl rfl rfl rfl rfl hl.1 (Nat.le_of_ble_eq_true rfl) ⟨Nat.zero_le _, Nat.zero_le _⟩ dX10_takes_163 ?_
    intro H_35 lo_35 I_35
    obtain ⟨g36, hf⟩ := gd_some hf
    cases hf
    exact ret H_35 lo_35 _ ls I_35 g36 dX10_takes_166
  replace hf := (if_neg c29).symm.trans hf
  refine lv_tableOut (tgt := 167) hx hb dX10_takes_4 (tsw4 c2 c9 c13 c20 c29) (by decide) ?_
  refine lv_aload_n hx hb dX10_takes_167 rfl (lv_at hl 0 rfl) ?_
  refine lv_iload_n hx hb dX10_takes_168 rfl (lv_at hl 1 rfl) ?_
  refine lv_bipush (v := (44 : Int32)) hx hb dX10_takes_169 (by decide) ?_
  obtain ⟨x38, hv46, hf⟩ := bd_some hf
  have J37 : ∀ (H : Heap) (locs : List Loc), sInv D (cT cI cJ cD cS) (cW ad cI cJ cD cS) A s H locs (G, E, Dd, P, L, pf) → ∀ (ls : Array Slot), lv_has ls 4 [(1, .int a0)] → W p l e R s m args below meth c H locs 0 0 Q (F0 m 179 ls [.int x38, .ref (ad 6)]) := by
    intro H_39 lo_39 I_39 ls_40 hl_40
    refine kptX10_25_6 F I_39 dX10_takes_179 ?_
    intro H_43 lo_43 G42 eG42 I_43
    replace hf := nm_some eG42 hf
    refine lv_iload_n hx hb dX10_takes_182 rfl (lv_at hl_40 0 rfl) ?_
    refine lv_bipush (v := (44 : Int32)) hx hb dX10_takes_183 (by decide) ?_
    refine lv_icmp_eq (tgt := 194) hx hb dX10_takes_185 (by decide) (fun c45 => ?_) (fun c45 => ?_)
    · replace hf := (if_pos c45).symm.trans hf
      refine lv_iconst (v := (1 : Int32)) hx hb dX10_takes_194 (by decide) ?_
      refine lv_goto (tgt := 199) hx hb dX10_takes_195 (by decide) ?_
      cases hf
      exact ret H_43 lo_43 _ ls_40 I_43 (Or.inr rfl) dX10_takes_199
    · replace hf := (if_neg c45).symm.trans hf
      refine lv_iload_n hx hb dX10_takes_188 rfl (lv_at hl_40 0 rfl) ?_
      refine lv_bipush (v := (59 : Int32)) hx hb dX10_takes_189 (by decide) ?_
      refine lv_icmp_ne (tgt := 198) hx hb dX10_takes_191 (by decide) (fun c44 => ?_) (fun c44 => ?_)
      · replace hf := (if_neg c44).symm.trans hf
        refine lv_iconst (v := (0 : Int32)) hx hb dX10_takes_198 (by decide) ?_
        cases hf
        exact ret H_43 lo_43 _ ls_40 I_43 (Or.inl rfl) dX10_takes_199
      · replace hf := (if_pos c44).symm.trans hf
        refine lv_iconst (v := (1 : Int32)) hx hb dX10_takes_194 (by decide) ?_
        refine lv_goto (tgt := 199) hx hb dX10_takes_195 (by decide) ?_
        cases hf
        exact ret H_43 lo_43 _ ls_40 I_43 (Or.inr rfl) dX10_takes_199
  replace hf := hv46
  refine lv_icmp_ne (tgt := 178) hx hb dX10_takes_171 (by decide) (fun c47 => ?_) (fun c47 => ?_)
  · replace hf := (if_neg c47).symm.trans hf
    refine lv_iconst (v := (0 : Int32)) hx hb dX10_takes_178 (by decide) ?_
    cases hf
    exact J37 H lo I ls (lv_sub hl [1] rfl)
  · replace hf := (if_pos c47).symm.trans hf
    refine lv_iconst (v := (2 : Int32)) hx hb dX10_takes_174 (by decide) ?_
    refine lv_goto (tgt := 179) hx hb dX10_takes_175 (by decide) ?_
    cases hf
    exact J37 H lo I ls (lv_sub hl [1] rfl)
def C_TX_scan_s1 (a0 : Int32) (a1 : Int32) (x6 : Int32) (G7 : Nat → Nat → Int32) : Option ((Int32 × (Nat → Nat → Int32)) ⊕ (Int32 × (Nat → Nat → Int32))) :=
if G7 9 0 ≤ x6 then
(some (.inr (G7 9 0, G7)))
else
(ri 60 x6 <|
bd2 (C_TX_takes G7 (G7 8 x6.toNatClampNeg) a0 a1) fun r12 G13 =>
if r12 = 0 then
(some (.inr (x6, G13)))
else
(nm (x6 + (1 : Int32) : Int32) fun x16 =>
some (.inl (x16, G13))))
def C_TX_scan (G : Nat → Nat → Int32) (a0 : Int32) (a1 : Int32) : Option (Int32 × (Nat → Nat → Int32)) :=
nm (wf G 11 (0 : Int32)) fun G1 =>
nm (wf G1 12 (0 : Int32)) fun G3 =>
lp (fun q => C_TX_scan_s1 a0 a1 q.1 q.2) FU ((0 : Int32), G3)
set_option maxRecDepth 100000 in
set_option maxHeartbeats 4000000 in
theorem cC_TX_scan (G : Nat → Nat → Int32) (E : Nat → Nat → Int64) (Dd : Nat → Nat → UInt64) (P : Nat → Option Nat) (L : List Nat) (pf : Nat → va_E) (a0 : Int32) (a1 : Int32) (rv : Int32) (newG : Nat → Nat → Int32) (hf : C_TX_scan G a0 a1 = some (rv, newG)) : sMi D (cT cI cJ cD cS) (cW ad cI cJ cD cS) l yX10_scan (ws1 yX10_scan cX10_scan 4 (some .int)) ({ frames := 3, cells := 0, slots := 0, locals := 68 }) [.ref (ad 6), .int a0, .int a1] (G, E, Dd, P, L, pf) (rv, (newG, E, Dd, P, L, pf)) := by
  unfold C_TX_scan at hf
  refine sMi_of (by decide) (Nat.le_of_ble_eq_true rfl) ?_
  intro p e R s m args below meth c A Q ls H lo F hRf hRl I hl ret
  obtain ⟨hx, hb, hml, hown, hG⟩ := id F
  replace hl : lv_has ls 4 [(0, .ref (ad 6)), (1, .int a0), (2, .int a1)] := hl
  refine lv_aload_n hx hb dX10_scan_0 rfl (lv_at hl 0 rfl) ?_
  refine lv_iconst (v := (0 : Int32)) hx hb dX10_scan_1 (by decide) ?_
  refine kptX10_22_6 F I dX10_scan_2 ?_
  intro H_2 lo_2 G1 eG1 I_2
  replace hf := nm_some eG1 hf
  refine lv_aload_n hx hb dX10_scan_5 rfl (lv_at hl 0 rfl) ?_
  refine lv_iconst (v := (0 : Int32)) hx hb dX10_scan_6 (by decide) ?_
  refine kptX10_25_6 F I_2 dX10_scan_7 ?_
  intro H_4 lo_4 G3 eG3 I_4
  replace hf := nm_some eG3 hf
  refine lv_iconst (v := (0 : Int32)) hx hb dX10_scan_10 (by decide) ?_
  refine lv_istore_n (lv' := [(3, .int (0 : Int32)), (0, .ref (ad 6)), (1, .int a0), (2, .int a1)]) hx hb dX10_scan_11 rfl hl (by decide) rfl (fun ls_5 hl_5 => ?_)
  have hq1 : lp (fun q => C_TX_scan_s1 a0 a1 q.1 q.2) FU ((0 : Int32), G3) = some (rv, newG) := hf
  have L1 : ∀ (n : Nat) (x6 : Int32) (G7 : Nat → Nat → Int32), lp (fun q => C_TX_scan_s1 a0 a1 q.1 q.2) n (x6, G7) = some (rv, newG) → ∀ (H : Heap) (locs : List Loc), sInv D (cT cI cJ cD cS) (cW ad cI cJ cD cS) A s H locs (G7, E, Dd, P, L, pf) → ∀ (ls : Array Slot), lv_has ls 4 [(0, .ref (ad 6)), (1, .int a0), (2, .int a1), (3, .int x6)] → W p l e R s m args below meth c H locs 0 0 Q (F0 m 12 ls []) := by
    intro n
    induction n with
    | zero => intro x6 G7 hq; exact (lp_0 hq).elim
    | succ n ih1 =>
      intro x6 G7 hq H_8 lo_8 I_8 ls_9 hl_9
      obtain ⟨y1, hf, hK1⟩ := lp_go hq
      replace hf : C_TX_scan_s1 a0 a1 x6 G7 = some y1 := hf
      unfold C_TX_scan_s1 at hf
      refine lv_iload_n hx hb dX10_scan_12 rfl (lv_at hl_9 3 rfl) ?_
      refine lv_aload_n hx hb dX10_scan_13 rfl (lv_at hl_9 0 rfl) ?_
      refine kgtX10_15_6 F I_8 dX10_scan_14 ?_
      refine lv_icmp_ge (tgt := 43) hx hb dX10_scan_17 (by decide) (fun c19 => ?_) (fun c19 => ?_)
      · replace hf := (if_pos c19).symm.trans hf
        refine lv_aload_n hx hb dX10_scan_43 rfl (lv_at hl_9 0 rfl) ?_
        refine kgtX10_15_6 F I_8 dX10_scan_44 ?_
        cases hf
        have hf := congrArg some (show _ = _ from hK1)
        cases hf
        exact ret H_8 lo_8 _ ls_9 I_8 dX10_scan_47
      · replace hf := (if_neg c19).symm.trans hf
        refine lv_aload_n hx hb dX10_scan_20 rfl (lv_at hl_9 0 rfl) ?_
        refine lv_aload_n hx hb dX10_scan_21 rfl (lv_at hl_9 0 rfl) ?_
        refine kgtX10_9_6 F I_8 dX10_scan_22 ?_
        refine lv_iload_n hx hb dX10_scan_25 rfl (lv_at hl_9 3 rfl) ?_
        obtain ⟨g11, hf⟩ := ri_some hf
        refine kal7 F I_8 g11 dX10_scan_26 ?_
        refine lv_iload_n hx hb dX10_scan_27 rfl (lv_at hl_9 1 rfl) ?_
        refine lv_iload_n hx hb dX10_scan_28 rfl (lv_at hl_9 2 rfl) ?_
        obtain ⟨r12, G13, h14, hf⟩ := bd2_some hf
        refine s_callVi (As := [.int (G7 8 x6.toNatClampNeg), .int a0, .int a1]) (rest := []) F I_8 (cC_TX_takes G7 E Dd P L pf (G7 8 x6.toNatClampNeg) a0 a1 r12 G13 h14) kX10_45 ⟨rfl, rfl⟩ ⟨Nat.le_trans (Nat.le_of_ble_eq_true rfl) hRf, Nat.le_trans (Nat.le_of_ble_eq_true rfl) hRl⟩ 6 10 rfl rfl rfl rfl rfl hl_9.1 (Nat.le_of_ble_eq_true rfl) ⟨Nat.zero_le _, Nat.zero_le _⟩ dX10_scan_29 ?_
        intro H_15 lo_15 I_15
        refine lv_if_ne (tgt := 37) hx hb dX10_scan_32 (by decide) (fun c18 => ?_) (fun c18 => ?_)
        · replace hf := (if_neg c18).symm.trans hf
          obtain ⟨x16, ex16⟩ : ∃ y : Int32, y = x6 + (1 : Int32) := ⟨_, rfl⟩
          replace hf := nm_some ex16 hf
          refine lv_iinc (v := x16) (lv' := [(3, .int x16), (0, .ref (ad 6)), (1, .int a0), (2, .int a1)]) hx hb dX10_scan_37 hl_9 (k := 3) rfl (by rw [ex16]; rfl) (by decide) rfl (fun ls_17 hl_17 => ?_)
          refine lv_goto (tgt := 12) hx hb dX10_scan_40 (by decide) ?_
          cases hf
          exact ih1 _ _ hK1 H_15 lo_15 I_15 ls_17 (lv_sub hl_17 [1, 2, 3, 0] rfl)
        · replace hf := (if_pos c18).symm.trans hf
          refine lv_iload_n hx hb dX10_scan_35 rfl (lv_at hl_9 3 rfl) ?_
          cases hf
          have hf := congrArg some (show _ = _ from hK1)
          cases hf
          exact ret H_15 lo_15 _ ls_9 I_15 dX10_scan_36
  exact L1 FU _ _ hq1 H_4 lo_4 I_4 ls_5 (lv_sub hl_5 [1, 2, 3, 0] rfl)
def C_TX_isWhole (G : Nat → Nat → Int32) (a0 : Int32) (a1 : Int32) : Option (Int32 × (Nat → Nat → Int32)) :=
bd2 (C_TX_scan G a0 a1) fun r1 G2 =>
if r1 = G2 9 0 then
(if G2 12 0 = (5 : Int32) then
(some ((1 : Int32), G2))
else
(some ((0 : Int32), G2)))
else
(some ((0 : Int32), G2))
set_option maxRecDepth 100000 in
set_option maxHeartbeats 4000000 in
theorem cC_TX_isWhole (G : Nat → Nat → Int32) (E : Nat → Nat → Int64) (Dd : Nat → Nat → UInt64) (P : Nat → Option Nat) (L : List Nat) (pf : Nat → va_E) (a0 : Int32) (a1 : Int32) (rv : Int32) (newG : Nat → Nat → Int32) (hf : C_TX_isWhole G a0 a1 = some (rv, newG)) : sMi D (cT cI cJ cD cS) (cW ad cI cJ cD cS) l yX10_isWhole (ws1 yX10_isWhole cX10_isWhole 3 (some .boolean)) ({ frames := 4, cells := 0, slots := 0, locals := 91 }) [.ref (ad 6), .int a0, .int a1] (G, E, Dd, P, L, pf) (rv, (newG, E, Dd, P, L, pf)) := by
  unfold C_TX_isWhole at hf
  refine sMz_of (by decide) (Nat.le_of_ble_eq_true rfl) ?_
  intro p e R s m args below meth c A Q ls H lo F hRf hRl I hl ret
  obtain ⟨hx, hb, hml, hown, hG⟩ := id F
  replace hl : lv_has ls 3 [(0, .ref (ad 6)), (1, .int a0), (2, .int a1)] := hl
  refine lv_aload_n hx hb dX10_isWhole_0 rfl (lv_at hl 0 rfl) ?_
  refine lv_iload_n hx hb dX10_isWhole_1 rfl (lv_at hl 1 rfl) ?_
  refine lv_iload_n hx hb dX10_isWhole_2 rfl (lv_at hl 2 rfl) ?_
  obtain ⟨r1, G2, h3, hf⟩ := bd2_some hf
  refine s_callVi (As := [.int a0, .int a1]) (rest := []) F I (cC_TX_scan G E Dd P L pf a0 a1 r1 G2 h3) kX10_41 ⟨rfl, rfl⟩ ⟨Nat.le_trans (Nat.le_of_ble_eq_true rfl) hRf, Nat.le_trans (Nat.le_of_ble_eq_true rfl) hRl⟩ 6 10 rfl rfl rfl rfl rfl hl.1 (Nat.le_of_ble_eq_true rfl) ⟨Nat.zero_le _, Nat.zero_le _⟩ dX10_isWhole_3 ?_
  intro H_4 lo_4 I_4
  refine lv_aload_n hx hb dX10_isWhole_6 rfl (lv_at hl 0 rfl) ?_
  refine kgtX10_15_6 F I_4 dX10_isWhole_7 ?_
  refine lv_icmp_ne (tgt := 25) hx hb dX10_isWhole_10 (by decide) (fun c6 => ?_) (fun c6 => ?_)
  · replace hf := (if_neg c6).symm.trans hf
    refine lv_iconst (v := (0 : Int32)) hx hb dX10_isWhole_25 (by decide) ?_
    cases hf
    exact ret H_4 lo_4 _ ls I_4 (Or.inl rfl) dX10_isWhole_26
  · replace hf := (if_pos c6).symm.trans hf
    refine lv_aload_n hx hb dX10_isWhole_13 rfl (lv_at hl 0 rfl) ?_
    refine kgtX10_25_6 F I_4 dX10_isWhole_14 ?_
    refine lv_iconst (v := (5 : Int32)) hx hb dX10_isWhole_17 (by decide) ?_
    refine lv_icmp_ne (tgt := 25) hx hb dX10_isWhole_18 (by decide) (fun c5 => ?_) (fun c5 => ?_)
    · replace hf := (if_neg c5).symm.trans hf
      refine lv_iconst (v := (0 : Int32)) hx hb dX10_isWhole_25 (by decide) ?_
      cases hf
      exact ret H_4 lo_4 _ ls I_4 (Or.inl rfl) dX10_isWhole_26
    · replace hf := (if_pos c5).symm.trans hf
      refine lv_iconst (v := (1 : Int32)) hx hb dX10_isWhole_21 (by decide) ?_
      refine lv_goto (tgt := 26) hx hb dX10_isWhole_22 (by decide) ?_
      cases hf
      exact ret H_4 lo_4 _ ls I_4 (Or.inr rfl) dX10_isWhole_26
def C_LT_requireIndex (a0 : Int32) (a1 : Int32) : Option (Unit) :=
if a0 < 0 then
(none)
else
(if a0 < a1 then
(some ())
else
(none))
set_option maxRecDepth 100000 in
set_option maxHeartbeats 4000000 in
theorem cC_LT_requireIndex (G : Nat → Nat → Int32) (E : Nat → Nat → Int64) (Dd : Nat → Nat → UInt64) (P : Nat → Option Nat) (L : List Nat) (pf : Nat → va_E) (a0 : Int32) (a1 : Int32)   (hf : C_LT_requireIndex a0 a1 = some ()) : sMv D (cT cI cJ cD cS) (cW ad cI cJ cD cS) l yX11_requireIndex (ws1 yX11_requireIndex cX11_requireIndex 2 none) ({ frames := 0, cells := 0, slots := 0, locals := 0 }) [.int a0, .int a1] (G, E, Dd, P, L, pf) (G, E, Dd, P, L, pf) := by
  unfold C_LT_requireIndex at hf
  refine sMv_of (by decide) (Nat.le_of_ble_eq_true rfl) ?_
  intro p e R s m args below meth c A Q ls H lo F hRf hRl I hl ret
  obtain ⟨hx, hb, hml, hown, hG⟩ := id F
  replace hl : lv_has ls 2 [(0, .int a0), (1, .int a1)] := hl
  refine lv_iload_n hx hb dX11_requireIndex_0 rfl (lv_at hl 0 rfl) ?_
  refine lv_if_lt (tgt := 9) hx hb dX11_requireIndex_1 (by decide) (fun c2 => ?_) (fun c2 => ?_)
  · replace hf := (if_pos c2).symm.trans hf
    cases hf
  · replace hf := (if_neg c2).symm.trans hf
    refine lv_iload_n hx hb dX11_requireIndex_4 rfl (lv_at hl 0 rfl) ?_
    refine lv_iload_n hx hb dX11_requireIndex_5 rfl (lv_at hl 1 rfl) ?_
    refine lv_icmp_lt (tgt := 20) hx hb dX11_requireIndex_6 (by decide) (fun c1 => ?_) (fun c1 => ?_)
    · replace hf := (if_pos c1).symm.trans hf
      cases hf
      exact ret H lo _ ls I dX11_requireIndex_20
    · replace hf := (if_neg c1).symm.trans hf
      cases hf
def C_LT_requireArgument (a0 : Int32) : Option (Unit) :=
if a0 = 0 then
(none)
else
(some ())
set_option maxRecDepth 100000 in
set_option maxHeartbeats 4000000 in
theorem cC_LT_requireArgument (G : Nat → Nat → Int32) (E : Nat → Nat → Int64) (Dd : Nat → Nat → UInt64) (P : Nat → Option Nat) (L : List Nat) (pf : Nat → va_E) (a0 : Int32)   (hf : C_LT_requireArgument a0 = some ()) : sMv D (cT cI cJ cD cS) (cW ad cI cJ cD cS) l yX11_requireArgument (ws1 yX11_requireArgument cX11_requireArgument 1 none) ({ frames := 0, cells := 0, slots := 0, locals := 0 }) [.int a0] (G, E, Dd, P, L, pf) (G, E, Dd, P, L, pf) := by
  unfold C_LT_requireArgument at hf
  refine sMv_of (by decide) (Nat.le_of_ble_eq_true rfl) ?_
  intro p e R s m args below meth c A Q ls H lo F hRf hRl I hl ret
  obtain ⟨hx, hb, hml, hown, hG⟩ := id F
  replace hl : lv_has ls 1 [(0, .int a0)] := hl
  refine lv_iload_n hx hb dX11_requireArgument_0 rfl (lv_at hl 0 rfl) ?_
  refine lv_if_ne (tgt := 15) hx hb dX11_requireArgument_1 (by decide) (fun c1 => ?_) (fun c1 => ?_)
  · replace hf := (if_neg c1).symm.trans hf
    cases hf
    exact ret H lo _ ls I dX11_requireArgument_15
  · replace hf := (if_pos c1).symm.trans hf
    cases hf
def C_LT_setWeight (G : Nat → Nat → Int32) (a0 : Int32) (a1 : Int32) : Option (Int32 × (Nat → Nat → Int32)) :=
bd0 (C_LT_requireIndex a0 (G 1 0)) <|
bd (if a1 < 0 then
(some (0 : Int32))
else
(if (9 : Int32) < a1 then
(some (0 : Int32))
else
(some (1 : Int32)))) fun x4 =>
bd0 (C_LT_requireArgument x4) <|
ri 8 a0 <|
nm (G 2 a0.toNatClampNeg : Int32) fun x11 =>
ri 8 a0 <|
nm (wr G 2 a0 a1) fun G14 =>
some (x11, G14)
set_option maxRecDepth 100000 in
set_option maxHeartbeats 4000000 in
theorem cC_LT_setWeight (G : Nat → Nat → Int32) (E : Nat → Nat → Int64) (Dd : Nat → Nat → UInt64) (P : Nat → Option Nat) (L : List Nat) (pf : Nat → va_E) (a0 : Int32) (a1 : Int32) (rv : Int32) (newG : Nat → Nat → Int32) (hf : C_LT_setWeight G a0 a1 = some (rv, newG)) : sMi D (cT cI cJ cD cS) (cW ad cI cJ cD cS) l yX11_setWeight (ws1 yX11_setWeight cX11_setWeight 4 (some .int)) ({ frames := 1, cells := 0, slots := 0, locals := 21 }) [.ref (ad 0), .int a0, .int a1] (G, E, Dd, P, L, pf) (rv, (newG, E, Dd, P, L, pf)) := by
  unfold C_LT_setWeight at hf
  refine sMi_of (by decide) (Nat.le_of_ble_eq_true rfl) ?_
  intro p e R s m args below meth c A Q ls H lo F hRf hRl I hl ret
  obtain ⟨hx, hb, hml, hown, hG⟩ := id F
  replace hl : lv_has ls 4 [(0, .ref (ad 0)), (1, .int a0), (2, .int a1)] := hl
  refine lv_iload_n hx hb dX11_setWeight_0 rfl (lv_at hl 1 rfl) ?_
  refine lv_aload_n hx hb dX11_setWeight_1 rfl (lv_at hl 0 rfl) ?_
  refine kgtX11_80_0 F I dX11_setWeight_2 ?_
  obtain ⟨h1, hf⟩ := bd0_some hf
  refine s_callSv (As := [.int a0, .int (G 1 0)]) (rest := []) F I (cC_LT_requireIndex G E Dd P L pf a0 (G 1 0) h1) kX11_84 ⟨rfl, rfl⟩ ⟨Nat.le_trans (Nat.le_of_ble_eq_true rfl) hRf, Nat.le_trans (Nat.le_of_ble_eq_true rfl) hRl⟩ rfl rfl hl.1 (Nat.le_of_ble_eq_true rfl) ⟨Nat.zero_le _, Nat.zero_le _⟩ dX11_setWeight_5 ?_
  intro H_2 lo_2 I_2
  refine lv_iload_n hx hb dX11_setWeight_8 rfl (lv_at hl 2 rfl) ?_
  obtain ⟨x4, hv16, hf⟩ := bd_some hf
  have J3 : ∀ (H : Heap) (locs : List Loc), sInv D (cT cI cJ cD cS) (cW ad cI cJ cD cS) A s H locs (G, E, Dd, P, L, pf) → ∀ (ls : Array Slot), lv_has ls 4 [(0, .ref (ad 0)), (1, .int a0), (2, .int a1)] → W p l e R s m args below meth c H locs 0 0 Q (F0 m 23 ls [.int x4]) := by
    intro H_5 lo_5 I_5 ls_6 hl_6
    obtain ⟨h8, hf⟩ := bd0_some hf
    refine s_callSv (As := [.int x4]) (rest := []) F I_5 (cC_LT_requireArgument G E Dd P L pf x4 h8) kX11_76 ⟨rfl, rfl⟩ ⟨Nat.le_trans (Nat.le_of_ble_eq_true rfl) hRf, Nat.le_trans (Nat.le_of_ble_eq_true rfl) hRl⟩ rfl rfl hl_6.1 (Nat.le_of_ble_eq_true rfl) ⟨Nat.zero_le _, Nat.zero_le _⟩ dX11_setWeight_23 ?_
    intro H_9 lo_9 I_9
    refine lv_aload_n hx hb dX11_setWeight_26 rfl (lv_at hl_6 0 rfl) ?_
    refine kgtX11_9_0 F I_9 dX11_setWeight_27 ?_
    refine lv_iload_n hx hb dX11_setWeight_30 rfl (lv_at hl_6 1 rfl) ?_
    obtain ⟨g10, hf⟩ := ri_some hf
    refine kal1 F I_9 g10 dX11_setWeight_31 ?_
    refine lv_topi (fun x11 ex11 => ?_)
    replace hf := nm_some ex11 hf
    refine lv_istore_n (lv' := [(3, .int x11), (0, .ref (ad 0)), (1, .int a0), (2, .int a1)]) hx hb dX11_setWeight_32 rfl hl_6 (by decide) rfl (fun ls_12 hl_12 => ?_)
    refine lv_aload_n hx hb dX11_setWeight_33 rfl (lv_at hl_12 1 rfl) ?_
    refine kgtX11_9_0 F I_9 dX11_setWeight_34 ?_
    refine lv_iload_n hx hb dX11_setWeight_37 rfl (lv_at hl_12 2 rfl) ?_
    refine lv_iload_n hx hb dX11_setWeight_38 rfl (lv_at hl_12 3 rfl) ?_
    obtain ⟨g13, hf⟩ := ri_some hf
    refine kas1 F I_9 g13 dX11_setWeight_39 ?_
    intro H_15 lo_15 G14 eG14 I_15
    replace hf := nm_some eG14 hf
    refine lv_iload_n hx hb dX11_setWeight_40 rfl (lv_at hl_12 0 rfl) ?_
    cases hf
    exact ret H_15 lo_15 _ ls_12 I_15 dX11_setWeight_41
  replace hf := hv16
  refine lv_if_lt (tgt := 22) hx hb dX11_setWeight_9 (by decide) (fun c18 => ?_) (fun c18 => ?_)
  · replace hf := (if_pos c18).symm.trans hf
    refine lv_iconst (v := (0 : Int32)) hx hb dX11_setWeight_22 (by decide) ?_
    cases hf
    exact J3 H_2 lo_2 I_2 ls (lv_sub hl [0, 1, 2] rfl)
  · replace hf := (if_neg c18).symm.trans hf
    refine lv_iload_n hx hb dX11_setWeight_12 rfl (lv_at hl 2 rfl) ?_
    refine lv_bipush (v := (9 : Int32)) hx hb dX11_setWeight_13 (by decide) ?_
    refine lv_icmp_gt (tgt := 22) hx hb dX11_setWeight_15 (by decide) (fun c17 => ?_) (fun c17 => ?_)
    · replace hf := (if_pos c17).symm.trans hf
      refine lv_iconst (v := (0 : Int32)) hx hb dX11_setWeight_22 (by decide) ?_
      cases hf
      exact J3 H_2 lo_2 I_2 ls (lv_sub hl [0, 1, 2] rfl)
    · replace hf := (if_neg c17).symm.trans hf
      refine lv_iconst (v := (1 : Int32)) hx hb dX11_setWeight_18 (by decide) ?_
      refine lv_goto (tgt := 23) hx hb dX11_setWeight_19 (by decide) ?_
      cases hf
      exact J3 H_2 lo_2 I_2 ls (lv_sub hl [0, 1, 2] rfl)
def C_LT_append (G : Nat → Nat → Int32) (a0 : Int32) : Option (Int32 × (Nat → Nat → Int32)) :=
bd (if a0 < (33 : Int32) then
(some (0 : Int32))
else
(if (126 : Int32) < a0 then
(some (0 : Int32))
else
(some (1 : Int32)))) fun x2 =>
bd0 (C_LT_requireArgument x2) <|
bd (C_TX_isFull G) fun r8 =>
if r8 = 0 then
(bd (C_TX_put G a0) fun G11 =>
some (G11 9 0, G11))
else
(none)
set_option maxRecDepth 100000 in
set_option maxHeartbeats 4000000 in
theorem cC_LT_append (G : Nat → Nat → Int32) (E : Nat → Nat → Int64) (Dd : Nat → Nat → UInt64) (P : Nat → Option Nat) (L : List Nat) (pf : Nat → va_E) (a0 : Int32) (rv : Int32) (newG : Nat → Nat → Int32) (hf : C_LT_append G a0 = some (rv, newG)) : sMi D (cT cI cJ cD cS) (cW ad cI cJ cD cS) l yX11_append (ws1 yX11_append cX11_append 2 (some .int)) ({ frames := 2, cells := 0, slots := 0, locals := 41 }) [.ref (ad 0), .int a0] (G, E, Dd, P, L, pf) (rv, (newG, E, Dd, P, L, pf)) := by
  unfold C_LT_append at hf
  refine sMi_of (by decide) (Nat.le_of_ble_eq_true rfl) ?_
  intro p e R s m args below meth c A Q ls H lo F hRf hRl I hl ret
  obtain ⟨hx, hb, hml, hown, hG⟩ := id F
  replace hl : lv_has ls 2 [(0, .ref (ad 0)), (1, .int a0)] := hl
  refine lv_iload_n hx hb dX11_append_0 rfl (lv_at hl 1 rfl) ?_
  refine lv_bipush (v := (33 : Int32)) hx hb dX11_append_1 (by decide) ?_
  obtain ⟨x2, hv15, hf⟩ := bd_some hf
  have J1 : ∀ (H : Heap) (locs : List Loc), sInv D (cT cI cJ cD cS) (cW ad cI cJ cD cS) A s H locs (G, E, Dd, P, L, pf) → ∀ (ls : Array Slot), lv_has ls 2 [(0, .ref (ad 0)), (1, .int a0)] → W p l e R s m args below meth c H locs 0 0 Q (F0 m 17 ls [.int x2]) := by
    intro H_3 lo_3 I_3 ls_4 hl_4
    obtain ⟨h6, hf⟩ := bd0_some hf
    refine s_callSv (As := [.int x2]) (rest := []) F I_3 (cC_LT_requireArgument G E Dd P L pf x2 h6) kX11_76 ⟨rfl, rfl⟩ ⟨Nat.le_trans (Nat.le_of_ble_eq_true rfl) hRf, Nat.le_trans (Nat.le_of_ble_eq_true rfl) hRl⟩ rfl rfl hl_4.1 (Nat.le_of_ble_eq_true rfl) ⟨Nat.zero_le _, Nat.zero_le _⟩ dX11_append_17 ?_
    intro H_7 lo_7 I_7
    refine lv_aload_n hx hb dX11_append_20 rfl (lv_at hl_4 0 rfl) ?_
    refine kgtX11_30_0 F I_7 dX11_append_21 ?_
    obtain ⟨r8, h9, hf⟩ := bd_some hf
    refine s_callVi (As := []) (rest := []) F I_7 (cC_TX_isFull G E Dd P L pf r8 h9) kX11_169 ⟨rfl, rfl⟩ ⟨Nat.le_trans (Nat.le_of_ble_eq_true rfl) hRf, Nat.le_trans (Nat.le_of_ble_eq_true rfl) hRl⟩ 6 10 rfl rfl rfl rfl rfl hl_4.1 (Nat.le_of_ble_eq_true rfl) ⟨Nat.zero_le _, Nat.zero_le _⟩ dX11_append_24 ?_
    intro H_10 lo_10 I_10
    refine lv_if_eq (tgt := 40) hx hb dX11_append_27 (by decide) (fun c14 => ?_) (fun c14 => ?_)
    · replace hf := (if_pos c14).symm.trans hf
      refine lv_aload_n hx hb dX11_append_40 rfl (lv_at hl_4 0 rfl) ?_
      refine kgtX11_30_0 F I_10 dX11_append_41 ?_
      refine lv_iload_n hx hb dX11_append_44 rfl (lv_at hl_4 1 rfl) ?_
      obtain ⟨G11, h12, hf⟩ := bd_some hf
      refine s_callVv (As := [.int a0]) (rest := []) F I_10 (cC_TX_put G E Dd P L pf a0 G11 h12) kX11_172 ⟨rfl, rfl⟩ ⟨Nat.le_trans (Nat.le_of_ble_eq_true rfl) hRf, Nat.le_trans (Nat.le_of_ble_eq_true rfl) hRl⟩ 6 10 rfl rfl rfl rfl rfl hl_4.1 (Nat.le_of_ble_eq_true rfl) ⟨Nat.zero_le _, Nat.zero_le _⟩ dX11_append_45 ?_
      intro H_13 lo_13 I_13
      refine lv_aload_n hx hb dX11_append_48 rfl (lv_at hl_4 0 rfl) ?_
      refine kgtX11_30_0 F I_13 dX11_append_49 ?_
      refine kgtX11_173_6 F I_13 dX11_append_52 ?_
      cases hf
      exact ret H_13 lo_13 _ ls_4 I_13 dX11_append_55
    · replace hf := (if_neg c14).symm.trans hf
      cases hf
  replace hf := hv15
  refine lv_icmp_lt (tgt := 16) hx hb dX11_append_3 (by decide) (fun c17 => ?_) (fun c17 => ?_)
  · replace hf := (if_pos c17).symm.trans hf
    refine lv_iconst (v := (0 : Int32)) hx hb dX11_append_16 (by decide) ?_
    cases hf
    exact J1 H lo I ls (lv_sub hl [0, 1] rfl)
  · replace hf := (if_neg c17).symm.trans hf
    refine lv_iload_n hx hb dX11_append_6 rfl (lv_at hl 1 rfl) ?_
    refine lv_bipush (v := (126 : Int32)) hx hb dX11_append_7 (by decide) ?_
    refine lv_icmp_gt (tgt := 16) hx hb dX11_append_9 (by decide) (fun c16 => ?_) (fun c16 => ?_)
    · replace hf := (if_pos c16).symm.trans hf
      refine lv_iconst (v := (0 : Int32)) hx hb dX11_append_16 (by decide) ?_
      cases hf
      exact J1 H lo I ls (lv_sub hl [0, 1] rfl)
    · replace hf := (if_neg c16).symm.trans hf
      refine lv_iconst (v := (1 : Int32)) hx hb dX11_append_12 (by decide) ?_
      refine lv_goto (tgt := 17) hx hb dX11_append_13 (by decide) ?_
      cases hf
      exact J1 H lo I ls (lv_sub hl [0, 1] rfl)
def C_LT_clearBuffer (G : Nat → Nat → Int32) : Option (Int32 × (Nat → Nat → Int32)) :=
nm (G 9 0 : Int32) fun x1 =>
nm (wf G 9 (0 : Int32)) fun G3 =>
some (x1, G3)
set_option maxRecDepth 100000 in
set_option maxHeartbeats 4000000 in
theorem cC_LT_clearBuffer (G : Nat → Nat → Int32) (E : Nat → Nat → Int64) (Dd : Nat → Nat → UInt64) (P : Nat → Option Nat) (L : List Nat) (pf : Nat → va_E)  (rv : Int32) (newG : Nat → Nat → Int32) (hf : C_LT_clearBuffer G = some (rv, newG)) : sMi D (cT cI cJ cD cS) (cW ad cI cJ cD cS) l yX11_clearBuffer (ws1 yX11_clearBuffer cX11_clearBuffer 2 (some .int)) ({ frames := 0, cells := 0, slots := 0, locals := 0 }) [.ref (ad 0)] (G, E, Dd, P, L, pf) (rv, (newG, E, Dd, P, L, pf)) := by
  unfold C_LT_clearBuffer at hf
  refine sMi_of (by decide) (Nat.le_of_ble_eq_true rfl) ?_
  intro p e R s m args below meth c A Q ls H lo F hRf hRl I hl ret
  obtain ⟨hx, hb, hml, hown, hG⟩ := id F
  replace hl : lv_has ls 2 [(0, .ref (ad 0))] := hl
  refine lv_aload_n hx hb dX11_clearBuffer_0 rfl (lv_at hl 0 rfl) ?_
  refine kgtX11_30_0 F I dX11_clearBuffer_1 ?_
  refine kgtX11_173_6 F I dX11_clearBuffer_4 ?_
  refine lv_topi (fun x1 ex1 => ?_)
  replace hf := nm_some ex1 hf
  refine lv_istore_n (lv' := [(1, .int x1), (0, .ref (ad 0))]) hx hb dX11_clearBuffer_7 rfl hl (by decide) rfl (fun ls_2 hl_2 => ?_)
  refine lv_aload_n hx hb dX11_clearBuffer_8 rfl (lv_at hl_2 1 rfl) ?_
  refine kgtX11_30_0 F I dX11_clearBuffer_9 ?_
  refine lv_iconst (v := (0 : Int32)) hx hb dX11_clearBuffer_12 (by decide) ?_
  refine kptX11_173_6 F I dX11_clearBuffer_13 ?_
  intro H_4 lo_4 G3 eG3 I_4
  replace hf := nm_some eG3 hf
  refine lv_iload_n hx hb dX11_clearBuffer_16 rfl (lv_at hl_2 0 rfl) ?_
  cases hf
  exact ret H_4 lo_4 _ ls_2 I_4 dX11_clearBuffer_17
def C_LT_firstError (G : Nat → Nat → Int32) : Option (Int32 × (Nat → Nat → Int32)) :=
bd2 (C_TX_scan G (G 0 0) (G 1 0)) fun r1 G2 =>
some (r1, G2)
set_option maxRecDepth 100000 in
set_option maxHeartbeats 4000000 in
theorem cC_LT_firstError (G : Nat → Nat → Int32) (E : Nat → Nat → Int64) (Dd : Nat → Nat → UInt64) (P : Nat → Option Nat) (L : List Nat) (pf : Nat → va_E)  (rv : Int32) (newG : Nat → Nat → Int32) (hf : C_LT_firstError G = some (rv, newG)) : sMi D (cT cI cJ cD cS) (cW ad cI cJ cD cS) l yX11_firstError (ws1 yX11_firstError cX11_firstError 1 (some .int)) ({ frames := 4, cells := 0, slots := 0, locals := 91 }) [.ref (ad 0)] (G, E, Dd, P, L, pf) (rv, (newG, E, Dd, P, L, pf)) := by
  unfold C_LT_firstError at hf
  refine sMi_of (by decide) (Nat.le_of_ble_eq_true rfl) ?_
  intro p e R s m args below meth c A Q ls H lo F hRf hRl I hl ret
  obtain ⟨hx, hb, hml, hown, hG⟩ := id F
  replace hl : lv_has ls 1 [(0, .ref (ad 0))] := hl
  refine lv_aload_n hx hb dX11_firstError_0 rfl (lv_at hl 0 rfl) ?_
  refine kgtX11_30_0 F I dX11_firstError_1 ?_
  refine lv_aload_n hx hb dX11_firstError_4 rfl (lv_at hl 0 rfl) ?_
  refine kgtX11_89_0 F I dX11_firstError_5 ?_
  refine lv_aload_n hx hb dX11_firstError_8 rfl (lv_at hl 0 rfl) ?_
  refine kgtX11_80_0 F I dX11_firstError_9 ?_
  obtain ⟨r1, G2, h3, hf⟩ := bd2_some hf
  refine s_callVi (As := [.int (G 0 0), .int (G 1 0)]) (rest := []) F I (cC_TX_scan G E Dd P L pf (G 0 0) (G 1 0) r1 G2 h3) kX11_176 ⟨rfl, rfl⟩ ⟨Nat.le_trans (Nat.le_of_ble_eq_true rfl) hRf, Nat.le_trans (Nat.le_of_ble_eq_true rfl) hRl⟩ 6 10 rfl rfl rfl rfl rfl hl.1 (Nat.le_of_ble_eq_true rfl) ⟨Nat.zero_le _, Nat.zero_le _⟩ dX11_firstError_12 ?_
  intro H_4 lo_4 I_4
  cases hf
  exact ret H_4 lo_4 _ ls I_4 dX11_firstError_15
def C_LT_comparison (G : Nat → Nat → Int32) (a0 : Int32) (a1 : Int32) : Option (Int32) :=
bd0 (C_LT_requireIndex a0 (G 5 0)) <|
bd (if a1 < 0 then
(some (0 : Int32))
else
(if (3 : Int32) < a1 then
(some (0 : Int32))
else
(some (1 : Int32)))) fun x4 =>
bd0 (C_LT_requireArgument x4) <|
bd (C_CO_at G a0) fun r10 =>
bd (C_CO_propertyOf r10 a1) fun r13 =>
some r13
set_option maxRecDepth 100000 in
set_option maxHeartbeats 4000000 in
theorem cC_LT_comparison (G : Nat → Nat → Int32) (E : Nat → Nat → Int64) (Dd : Nat → Nat → UInt64) (P : Nat → Option Nat) (L : List Nat) (pf : Nat → va_E) (a0 : Int32) (a1 : Int32) (rv : Int32)  (hf : C_LT_comparison G a0 a1 = some rv) : sMi D (cT cI cJ cD cS) (cW ad cI cJ cD cS) l yX11_comparison (ws1 yX11_comparison cX11_comparison 3 (some .int)) ({ frames := 2, cells := 0, slots := 0, locals := 41 }) [.ref (ad 0), .int a0, .int a1] (G, E, Dd, P, L, pf) (rv, (G, E, Dd, P, L, pf)) := by
  unfold C_LT_comparison at hf
  refine sMi_of (by decide) (Nat.le_of_ble_eq_true rfl) ?_
  intro p e R s m args below meth c A Q ls H lo F hRf hRl I hl ret
  obtain ⟨hx, hb, hml, hown, hG⟩ := id F
  replace hl : lv_has ls 3 [(0, .ref (ad 0)), (1, .int a0), (2, .int a1)] := hl
  refine lv_iload_n hx hb dX11_comparison_0 rfl (lv_at hl 1 rfl) ?_
  refine lv_aload_n hx hb dX11_comparison_1 rfl (lv_at hl 0 rfl) ?_
  refine kgtX11_16_0 F I dX11_comparison_2 ?_
  refine kgtX11_149_2 F I dX11_comparison_5 ?_
  obtain ⟨h1, hf⟩ := bd0_some hf
  refine s_callSv (As := [.int a0, .int (G 5 0)]) (rest := []) F I (cC_LT_requireIndex G E Dd P L pf a0 (G 5 0) h1) kX11_84 ⟨rfl, rfl⟩ ⟨Nat.le_trans (Nat.le_of_ble_eq_true rfl) hRf, Nat.le_trans (Nat.le_of_ble_eq_true rfl) hRl⟩ rfl rfl hl.1 (Nat.le_of_ble_eq_true rfl) ⟨Nat.zero_le _, Nat.zero_le _⟩ dX11_comparison_8 ?_
  intro H_2 lo_2 I_2
  refine lv_iload_n hx hb dX11_comparison_11 rfl (lv_at hl 2 rfl) ?_
  obtain ⟨x4, hv16, hf⟩ := bd_some hf
  have J3 : ∀ (H : Heap) (locs : List Loc), sInv D (cT cI cJ cD cS) (cW ad cI cJ cD cS) A s H locs (G, E, Dd, P, L, pf) → ∀ (ls : Array Slot), lv_has ls 3 [(0, .ref (ad 0)), (1, .int a0), (2, .int a1)] → W p l e R s m args below meth c H locs 0 0 Q (F0 m 25 ls [.int x4]) := by
    intro H_5 lo_5 I_5 ls_6 hl_6
    obtain ⟨h8, hf⟩ := bd0_some hf
    refine s_callSv (As := [.int x4]) (rest := []) F I_5 (cC_LT_requireArgument G E Dd P L pf x4 h8) kX11_76 ⟨rfl, rfl⟩ ⟨Nat.le_trans (Nat.le_of_ble_eq_true rfl) hRf, Nat.le_trans (Nat.le_of_ble_eq_true rfl) hRl⟩ rfl rfl hl_6.1 (Nat.le_of_ble_eq_true rfl) ⟨Nat.zero_le _, Nat.zero_le _⟩ dX11_comparison_25 ?_
    intro H_9 lo_9 I_9
    refine lv_aload_n hx hb dX11_comparison_28 rfl (lv_at hl_6 0 rfl) ?_
    refine kgtX11_16_0 F I_9 dX11_comparison_29 ?_
    refine lv_iload_n hx hb dX11_comparison_32 rfl (lv_at hl_6 1 rfl) ?_
    obtain ⟨r10, h11, hf⟩ := bd_some hf
    refine s_callVi (As := [.int a0]) (rest := []) F I_9 (cC_CO_at G E Dd P L pf a0 r10 h11) kX11_193 ⟨rfl, rfl⟩ ⟨Nat.le_trans (Nat.le_of_ble_eq_true rfl) hRf, Nat.le_trans (Nat.le_of_ble_eq_true rfl) hRl⟩ 2 1 rfl rfl rfl rfl rfl hl_6.1 (Nat.le_of_ble_eq_true rfl) ⟨Nat.zero_le _, Nat.zero_le _⟩ dX11_comparison_33 ?_
    intro H_12 lo_12 I_12
    refine lv_iload_n hx hb dX11_comparison_36 rfl (lv_at hl_6 2 rfl) ?_
    obtain ⟨r13, h14, hf⟩ := bd_some hf
    refine s_callSi (As := [.int r10, .int a1]) (rest := []) F I_12 (cC_CO_propertyOf G E Dd P L pf r10 a1 r13 h14) kX11_196 ⟨rfl, rfl⟩ ⟨Nat.le_trans (Nat.le_of_ble_eq_true rfl) hRf, Nat.le_trans (Nat.le_of_ble_eq_true rfl) hRl⟩ rfl rfl hl_6.1 (Nat.le_of_ble_eq_true rfl) ⟨Nat.zero_le _, Nat.zero_le _⟩ dX11_comparison_37 ?_
    intro H_15 lo_15 I_15
    cases hf
    exact ret H_15 lo_15 _ ls_6 I_15 dX11_comparison_40
  replace hf := hv16
  refine lv_if_lt (tgt := 24) hx hb dX11_comparison_12 (by decide) (fun c18 => ?_) (fun c18 => ?_)
  · replace hf := (if_pos c18).symm.trans hf
    refine lv_iconst (v := (0 : Int32)) hx hb dX11_comparison_24 (by decide) ?_
    cases hf
    exact J3 H_2 lo_2 I_2 ls (lv_sub hl [0, 1, 2] rfl)
  · replace hf := (if_neg c18).symm.trans hf
    refine lv_iload_n hx hb dX11_comparison_15 rfl (lv_at hl 2 rfl) ?_
    refine lv_iconst (v := (3 : Int32)) hx hb dX11_comparison_16 (by decide) ?_
    refine lv_icmp_gt (tgt := 24) hx hb dX11_comparison_17 (by decide) (fun c17 => ?_) (fun c17 => ?_)
    · replace hf := (if_pos c17).symm.trans hf
      refine lv_iconst (v := (0 : Int32)) hx hb dX11_comparison_24 (by decide) ?_
      cases hf
      exact J3 H_2 lo_2 I_2 ls (lv_sub hl [0, 1, 2] rfl)
    · replace hf := (if_neg c17).symm.trans hf
      refine lv_iconst (v := (1 : Int32)) hx hb dX11_comparison_20 (by decide) ?_
      refine lv_goto (tgt := 25) hx hb dX11_comparison_21 (by decide) ?_
      cases hf
      exact J3 H_2 lo_2 I_2 ls (lv_sub hl [0, 1, 2] rfl)
def C_JA_fill_i_23_s1 (a1 : Int32) (x3 : Int32) (G4 : Nat → Nat → Int32) : Option ((Int32 × (Nat → Nat → Int32)) ⊕ ((Nat → Nat → Int32))) :=
if (64 : Int32) ≤ x3 then
(some (.inr G4))
else
(ri 64 x3 <|
nm (wr G4 20 x3 a1) fun G13 =>
nm (x3 + (1 : Int32) : Int32) fun x15 =>
some (.inl (x15, G13)))
def C_JA_fill_i_23 (G : Nat → Nat → Int32) (a1 : Int32) : Option ((Nat → Nat → Int32)) :=
bd (lp (fun q => C_JA_fill_i_23_s1 a1 q.1 q.2) FU ((0 : Int32), G)) fun G5 =>
some G5
set_option maxRecDepth 100000 in
set_option maxHeartbeats 4000000 in
theorem cC_JA_fill_i_23 (G : Nat → Nat → Int32) (E : Nat → Nat → Int64) (Dd : Nat → Nat → UInt64) (P : Nat → Option Nat) (L : List Nat) (pf : Nat → va_E) (a1 : Int32)  (newG : Nat → Nat → Int32) (hf : C_JA_fill_i_23 G a1 = some newG) : sMv D (cT cI cJ cD cS) (cW ad cI cJ cD cS) l yJ7_fill_53178 (ws1 yJ7_fill_53178 cJ7_fill_53178 4 none) ({ frames := 0, cells := 0, slots := 0, locals := 0 }) [.ref (ad 23), .int a1] (G, E, Dd, P, L, pf) (newG, E, Dd, P, L, pf) := by
  unfold C_JA_fill_i_23 at hf
  refine sMv_of (by decide) (Nat.le_of_ble_eq_true rfl) ?_
  intro p e R s m args below meth c A Q ls H lo F hRf hRl I hl ret
  obtain ⟨hx, hb, hml, hown, hG⟩ := id F
  replace hl : lv_has ls 4 [(0, .ref (ad 23)), (1, .int a1)] := hl
  refine lv_iconst (v := (0 : Int32)) hx hb dJ7_fill_53178_0 (by decide) ?_
  refine lv_istore_n (lv' := [(2, .int (0 : Int32)), (0, .ref (ad 23)), (1, .int a1)]) hx hb dJ7_fill_53178_1 rfl hl (by decide) rfl (fun ls_1 hl_1 => ?_)
  refine lv_aload_n hx hb dJ7_fill_53178_2 rfl (lv_at hl_1 1 rfl) ?_
  refine kln23 F I dJ7_fill_53178_3 ?_
  refine lv_istore_n (lv' := [(3, .int (64 : Int32)), (2, .int (0 : Int32)), (0, .ref (ad 23)), (1, .int a1)]) hx hb dJ7_fill_53178_4 rfl hl_1 (by decide) rfl (fun ls_2 hl_2 => ?_)
  obtain ⟨G5, hq1, hf⟩ := bd_some hf
  have K1 : ∀ (H : Heap) (locs : List Loc), sInv D (cT cI cJ cD cS) (cW ad cI cJ cD cS) A s H locs (G5, E, Dd, P, L, pf) → ∀ (ls : Array Slot), lv_has ls 4 [] → W p l e R s m args below meth c H locs 0 0 Q (F0 m 20 ls []) := by
    intro H_6 lo_6 I_6 ls_7 hl_7
    cases hf
    exact ret H_6 lo_6 _ ls_7 I_6 dJ7_fill_53178_20
  have L1 : ∀ (n : Nat) (x3 : Int32) (G4 : Nat → Nat → Int32), lp (fun q => C_JA_fill_i_23_s1 a1 q.1 q.2) n (x3, G4) = some G5 → ∀ (H : Heap) (locs : List Loc), sInv D (cT cI cJ cD cS) (cW ad cI cJ cD cS) A s H locs (G4, E, Dd, P, L, pf) → ∀ (ls : Array Slot), lv_has ls 4 [(0, .ref (ad 23)), (1, .int a1), (2, .int x3), (3, .int (64 : Int32))] → W p l e R s m args below meth c H locs 0 0 Q (F0 m 5 ls []) := by
    intro n
    induction n with
    | zero => intro x3 G4 hq; exact (lp_0 hq).elim
    | succ n ih1 =>
      intro x3 G4 hq H_9 lo_9 I_9 ls_10 hl_10
      obtain ⟨y1, hf, hK1⟩ := lp_go hq
      replace hf : C_JA_fill_i_23_s1 a1 x3 G4 = some y1 := hf
      unfold C_JA_fill_i_23_s1 at hf
      refine lv_iload_n hx hb dJ7_fill_53178_5 rfl (lv_at hl_10 2 rfl) ?_
      refine lv_iload_n hx hb dJ7_fill_53178_6 rfl (lv_at hl_10 3 rfl) ?_
      refine lv_icmp_ge (tgt := 20) hx hb dJ7_fill_53178_7 (by decide) (fun c17 => ?_) (fun c17 => ?_)
      · replace hf := (if_pos c17).symm.trans hf
        cases hf
        cases (show G4 = G5 from hK1)
        exact K1 H_9 lo_9 I_9 ls_10 (lv_sub hl_10 [] rfl)
      · replace hf := (if_neg c17).symm.trans hf
        refine lv_aload_n hx hb dJ7_fill_53178_10 rfl (lv_at hl_10 0 rfl) ?_
        refine lv_iload_n hx hb dJ7_fill_53178_11 rfl (lv_at hl_10 2 rfl) ?_
        refine lv_iload_n hx hb dJ7_fill_53178_12 rfl (lv_at hl_10 1 rfl) ?_
        obtain ⟨g12, hf⟩ := ri_some hf
        refine kas23 F I_9 g12 dJ7_fill_53178_13 ?_
        intro H_14 lo_14 G13 eG13 I_14
        replace hf := nm_some eG13 hf
        obtain ⟨x15, ex15⟩ : ∃ y : Int32, y = x3 + (1 : Int32) := ⟨_, rfl⟩
        replace hf := nm_some ex15 hf
        refine lv_iinc (v := x15) (lv' := [(2, .int x15), (0, .ref (ad 23)), (1, .int a1), (3, .int (64 : Int32))]) hx hb dJ7_fill_53178_14 hl_10 (k := 2) rfl (by rw [ex15]; rfl) (by decide) rfl (fun ls_16 hl_16 => ?_)
        refine lv_goto (tgt := 5) hx hb dJ7_fill_53178_17 (by decide) ?_
        cases hf
        exact ih1 _ _ hK1 H_14 lo_14 I_14 ls_16 (lv_sub hl_16 [1, 2, 0, 3] rfl)
  exact L1 FU _ _ hq1 H lo I ls_2 (lv_sub hl_2 [2, 3, 1, 0] rfl)
def C_LE_clearAll_22 (G : Nat → Nat → Int32) : Option ((Nat → Nat → Int32)) :=
bd (C_JA_fill_i_23 G (0 : Int32)) fun G1 =>
some G1
set_option maxRecDepth 100000 in
set_option maxHeartbeats 4000000 in
theorem cC_LE_clearAll_22 (G : Nat → Nat → Int32) (E : Nat → Nat → Int64) (Dd : Nat → Nat → UInt64) (P : Nat → Option Nat) (L : List Nat) (pf : Nat → va_E)   (newG : Nat → Nat → Int32) (hf : C_LE_clearAll_22 G = some newG) : sMv D (cT cI cJ cD cS) (cW ad cI cJ cD cS) l yX3_clearAll (ws1 yX3_clearAll cX3_clearAll 1 none) ({ frames := 1, cells := 0, slots := 0, locals := 23 }) [.ref (ad 22)] (G, E, Dd, P, L, pf) (newG, E, Dd, P, L, pf) := by
  unfold C_LE_clearAll_22 at hf
  refine sMv_of (by decide) (Nat.le_of_ble_eq_true rfl) ?_
  intro p e R s m args below meth c A Q ls H lo F hRf hRl I hl ret
  obtain ⟨hx, hb, hml, hown, hG⟩ := id F
  replace hl : lv_has ls 1 [(0, .ref (ad 22))] := hl
  refine lv_aload_n hx hb dX3_clearAll_0 rfl (lv_at hl 0 rfl) ?_
  refine kgtX3_9_22 F I dX3_clearAll_1 ?_
  refine lv_iconst (v := (0 : Int32)) hx hb dX3_clearAll_4 (by decide) ?_
  obtain ⟨G1, h2, hf⟩ := bd_some hf
  refine s_callSv (As := [.ref (ad 23), .int (0 : Int32)]) (rest := []) F I (cC_JA_fill_i_23 G E Dd P L pf (0 : Int32) G1 h2) kX3_15 ⟨rfl, rfl⟩ ⟨Nat.le_trans (Nat.le_of_ble_eq_true rfl) hRf, Nat.le_trans (Nat.le_of_ble_eq_true rfl) hRl⟩ rfl rfl hl.1 (Nat.le_of_ble_eq_true rfl) ⟨Nat.zero_le _, Nat.zero_le _⟩ dX3_clearAll_5 ?_
  intro H_3 lo_3 I_3
  cases hf
  exact ret H_3 lo_3 _ ls I_3 dX3_clearAll_8
def C_JA_fill_i_18_s1 (a1 : Int32) (x3 : Int32) (G4 : Nat → Nat → Int32) : Option ((Int32 × (Nat → Nat → Int32)) ⊕ ((Nat → Nat → Int32))) :=
if (8 : Int32) ≤ x3 then
(some (.inr G4))
else
(ri 8 x3 <|
nm (wr G4 23 x3 a1) fun G13 =>
nm (x3 + (1 : Int32) : Int32) fun x15 =>
some (.inl (x15, G13)))
def C_JA_fill_i_18 (G : Nat → Nat → Int32) (a1 : Int32) : Option ((Nat → Nat → Int32)) :=
bd (lp (fun q => C_JA_fill_i_18_s1 a1 q.1 q.2) FU ((0 : Int32), G)) fun G5 =>
some G5
set_option maxRecDepth 100000 in
set_option maxHeartbeats 4000000 in
theorem cC_JA_fill_i_18 (G : Nat → Nat → Int32) (E : Nat → Nat → Int64) (Dd : Nat → Nat → UInt64) (P : Nat → Option Nat) (L : List Nat) (pf : Nat → va_E) (a1 : Int32)  (newG : Nat → Nat → Int32) (hf : C_JA_fill_i_18 G a1 = some newG) : sMv D (cT cI cJ cD cS) (cW ad cI cJ cD cS) l yJ7_fill_53178 (ws1 yJ7_fill_53178 cJ7_fill_53178 4 none) ({ frames := 0, cells := 0, slots := 0, locals := 0 }) [.ref (ad 18), .int a1] (G, E, Dd, P, L, pf) (newG, E, Dd, P, L, pf) := by
  unfold C_JA_fill_i_18 at hf
  refine sMv_of (by decide) (Nat.le_of_ble_eq_true rfl) ?_
  intro p e R s m args below meth c A Q ls H lo F hRf hRl I hl ret
  obtain ⟨hx, hb, hml, hown, hG⟩ := id F
  replace hl : lv_has ls 4 [(0, .ref (ad 18)), (1, .int a1)] := hl
  refine lv_iconst (v := (0 : Int32)) hx hb dJ7_fill_53178_0 (by decide) ?_
  refine lv_istore_n (lv' := [(2, .int (0 : Int32)), (0, .ref (ad 18)), (1, .int a1)]) hx hb dJ7_fill_53178_1 rfl hl (by decide) rfl (fun ls_1 hl_1 => ?_)
  refine lv_aload_n hx hb dJ7_fill_53178_2 rfl (lv_at hl_1 1 rfl) ?_
  refine kln18 F I dJ7_fill_53178_3 ?_
  refine lv_istore_n (lv' := [(3, .int (8 : Int32)), (2, .int (0 : Int32)), (0, .ref (ad 18)), (1, .int a1)]) hx hb dJ7_fill_53178_4 rfl hl_1 (by decide) rfl (fun ls_2 hl_2 => ?_)
  obtain ⟨G5, hq1, hf⟩ := bd_some hf
  have K1 : ∀ (H : Heap) (locs : List Loc), sInv D (cT cI cJ cD cS) (cW ad cI cJ cD cS) A s H locs (G5, E, Dd, P, L, pf) → ∀ (ls : Array Slot), lv_has ls 4 [] → W p l e R s m args below meth c H locs 0 0 Q (F0 m 20 ls []) := by
    intro H_6 lo_6 I_6 ls_7 hl_7
    cases hf
    exact ret H_6 lo_6 _ ls_7 I_6 dJ7_fill_53178_20
  have L1 : ∀ (n : Nat) (x3 : Int32) (G4 : Nat → Nat → Int32), lp (fun q => C_JA_fill_i_18_s1 a1 q.1 q.2) n (x3, G4) = some G5 → ∀ (H : Heap) (locs : List Loc), sInv D (cT cI cJ cD cS) (cW ad cI cJ cD cS) A s H locs (G4, E, Dd, P, L, pf) → ∀ (ls : Array Slot), lv_has ls 4 [(0, .ref (ad 18)), (1, .int a1), (2, .int x3), (3, .int (8 : Int32))] → W p l e R s m args below meth c H locs 0 0 Q (F0 m 5 ls []) := by
    intro n
    induction n with
    | zero => intro x3 G4 hq; exact (lp_0 hq).elim
    | succ n ih1 =>
      intro x3 G4 hq H_9 lo_9 I_9 ls_10 hl_10
      obtain ⟨y1, hf, hK1⟩ := lp_go hq
      replace hf : C_JA_fill_i_18_s1 a1 x3 G4 = some y1 := hf
      unfold C_JA_fill_i_18_s1 at hf
      refine lv_iload_n hx hb dJ7_fill_53178_5 rfl (lv_at hl_10 2 rfl) ?_
      refine lv_iload_n hx hb dJ7_fill_53178_6 rfl (lv_at hl_10 3 rfl) ?_
      refine lv_icmp_ge (tgt := 20) hx hb dJ7_fill_53178_7 (by decide) (fun c17 => ?_) (fun c17 => ?_)
      · replace hf := (if_pos c17).symm.trans hf
        cases hf
        cases (show G4 = G5 from hK1)
        exact K1 H_9 lo_9 I_9 ls_10 (lv_sub hl_10 [] rfl)
      · replace hf := (if_neg c17).symm.trans hf
        refine lv_aload_n hx hb dJ7_fill_53178_10 rfl (lv_at hl_10 0 rfl) ?_
        refine lv_iload_n hx hb dJ7_fill_53178_11 rfl (lv_at hl_10 2 rfl) ?_
        refine lv_iload_n hx hb dJ7_fill_53178_12 rfl (lv_at hl_10 1 rfl) ?_
        obtain ⟨g12, hf⟩ := ri_some hf
        refine kas18 F I_9 g12 dJ7_fill_53178_13 ?_
        intro H_14 lo_14 G13 eG13 I_14
        replace hf := nm_some eG13 hf
        obtain ⟨x15, ex15⟩ : ∃ y : Int32, y = x3 + (1 : Int32) := ⟨_, rfl⟩
        replace hf := nm_some ex15 hf
        refine lv_iinc (v := x15) (lv' := [(2, .int x15), (0, .ref (ad 18)), (1, .int a1), (3, .int (8 : Int32))]) hx hb dJ7_fill_53178_14 hl_10 (k := 2) rfl (by rw [ex15]; rfl) (by decide) rfl (fun ls_16 hl_16 => ?_)
        refine lv_goto (tgt := 5) hx hb dJ7_fill_53178_17 (by decide) ?_
        cases hf
        exact ih1 _ _ hK1 H_14 lo_14 I_14 ls_16 (lv_sub hl_16 [1, 2, 0, 3] rfl)
  exact L1 FU _ _ hq1 H lo I ls_2 (lv_sub hl_2 [2, 3, 1, 0] rfl)
def C_LE_addWin_22 (G : Nat → Nat → Int32) (a0 : Int32) (a1 : Int32) : Option ((Nat → Nat → Int32)) :=
nm (C_CO_answerOf a0) fun r1 =>
if r1 = 0 then
(some G)
else
(bd (C_CO_winnerOf a0) fun r4 =>
bd (C_CO_loserOf a0) fun r8 =>
nm (C_LT_cell r4 r8) fun r12 =>
ri 64 r12 <|
ri 64 r12 <|
nm (wr G 20 r12 ((G 20 r12.toNatClampNeg) + a1)) fun G17 =>
nm (C_LT_cell r8 r4) fun r19 =>
ri 64 r19 <|
ri 64 r19 <|
nm (wr G17 20 r19 ((G17 20 r19.toNatClampNeg) - a1)) fun G24 =>
some G24)
set_option maxRecDepth 100000 in
set_option maxHeartbeats 4000000 in
theorem cC_LE_addWin_22 (G : Nat → Nat → Int32) (E : Nat → Nat → Int64) (Dd : Nat → Nat → UInt64) (P : Nat → Option Nat) (L : List Nat) (pf : Nat → va_E) (a0 : Int32) (a1 : Int32)  (newG : Nat → Nat → Int32) (hf : C_LE_addWin_22 G a0 a1 = some newG) : sMv D (cT cI cJ cD cS) (cW ad cI cJ cD cS) l yX3_addWin (ws1 yX3_addWin cX3_addWin 5 none) ({ frames := 2, cells := 0, slots := 0, locals := 40 }) [.ref (ad 22), .int a0, .int a1] (G, E, Dd, P, L, pf) (newG, E, Dd, P, L, pf) := by
  unfold C_LE_addWin_22 at hf
  refine sMv_of (by decide) (Nat.le_of_ble_eq_true rfl) ?_
  intro p e R s m args below meth c A Q ls H lo F hRf hRl I hl ret
  obtain ⟨hx, hb, hml, hown, hG⟩ := id F
  replace hl : lv_has ls 5 [(0, .ref (ad 22)), (1, .int a0), (2, .int a1)] := hl
  refine lv_iload_n hx hb dX3_addWin_0 rfl (lv_at hl 1 rfl) ?_
  obtain ⟨r1, h2⟩ : ∃ z, z = C_CO_answerOf a0 := ⟨_, rfl⟩
  replace hf := nm_some h2 hf
  refine s_callSi (As := [.int a0]) (rest := []) F I (cC_CO_answerOf G E Dd P L pf a0 r1 h2) kX3_41 ⟨rfl, rfl⟩ ⟨Nat.le_trans (Nat.le_of_ble_eq_true rfl) hRf, Nat.le_trans (Nat.le_of_ble_eq_true rfl) hRl⟩ rfl rfl hl.1 (Nat.le_of_ble_eq_true rfl) ⟨Nat.zero_le _, Nat.zero_le _⟩ dX3_addWin_1 ?_
  intro H_3 lo_3 I_3
  refine lv_if_eq (tgt := 48) hx hb dX3_addWin_4 (by decide) (fun c26 => ?_) (fun c26 => ?_)
  · replace hf := (if_pos c26).symm.trans hf
    cases hf
    exact ret H_3 lo_3 _ ls I_3 dX3_addWin_48
  · replace hf := (if_neg c26).symm.trans hf
    refine lv_iload_n hx hb dX3_addWin_7 rfl (lv_at hl 1 rfl) ?_
    obtain ⟨r4, h5, hf⟩ := bd_some hf
    refine s_callSi (As := [.int a0]) (rest := []) F I_3 (cC_CO_winnerOf G E Dd P L pf a0 r4 h5) kX3_44 ⟨rfl, rfl⟩ ⟨Nat.le_trans (Nat.le_of_ble_eq_true rfl) hRf, Nat.le_trans (Nat.le_of_ble_eq_true rfl) hRl⟩ rfl rfl hl.1 (Nat.le_of_ble_eq_true rfl) ⟨Nat.zero_le _, Nat.zero_le _⟩ dX3_addWin_8 ?_
    intro H_6 lo_6 I_6
    refine lv_istore_n (lv' := [(3, .int r4), (0, .ref (ad 22)), (1, .int a0), (2, .int a1)]) hx hb dX3_addWin_11 rfl hl (by decide) rfl (fun ls_7 hl_7 => ?_)
    refine lv_iload_n hx hb dX3_addWin_12 rfl (lv_at hl_7 2 rfl) ?_
    obtain ⟨r8, h9, hf⟩ := bd_some hf
    refine s_callSi (As := [.int a0]) (rest := []) F I_6 (cC_CO_loserOf G E Dd P L pf a0 r8 h9) kX3_47 ⟨rfl, rfl⟩ ⟨Nat.le_trans (Nat.le_of_ble_eq_true rfl) hRf, Nat.le_trans (Nat.le_of_ble_eq_true rfl) hRl⟩ rfl rfl hl_7.1 (Nat.le_of_ble_eq_true rfl) ⟨Nat.zero_le _, Nat.zero_le _⟩ dX3_addWin_13 ?_
    intro H_10 lo_10 I_10
    refine lv_istore (lv' := [(4, .int r8), (3, .int r4), (0, .ref (ad 22)), (1, .int a0), (2, .int a1)]) hx hb dX3_addWin_16 hl_7 (by decide) rfl (fun ls_11 hl_11 => ?_)
    refine lv_aload_n hx hb dX3_addWin_18 rfl (lv_at hl_11 2 rfl) ?_
    refine kgtX3_9_22 F I_10 dX3_addWin_19 ?_
    refine lv_iload_n hx hb dX3_addWin_22 rfl (lv_at hl_11 1 rfl) ?_
    refine lv_iload hx hb dX3_addWin_23 (lv_at hl_11 0 rfl) ?_
    obtain ⟨r12, h13⟩ : ∃ z, z = C_LT_cell r4 r8 := ⟨_, rfl⟩
    replace hf := nm_some h13 hf
    refine s_callSNi (As := [.int r4, .int r8]) (rest := [.ref (ad 23)]) F I_10 (cC_LT_cell G E Dd P L pf r4 r8 r12 h13) kX3_50 ⟨rfl, rfl⟩ ⟨Nat.le_trans (Nat.le_of_ble_eq_true rfl) hRf, Nat.le_trans (Nat.le_of_ble_eq_true rfl) hRl⟩ rfl rfl hl_11.1 (Nat.le_of_ble_eq_true rfl) ⟨Nat.zero_le _, Nat.zero_le _⟩ dX3_addWin_25 ?_
    intro H_14 lo_14 I_14
    refine lv_dup2_11 hx hb dX3_addWin_28 rfl rfl ?_
    obtain ⟨g15, hf⟩ := ri_some hf
    refine kal23 F I_14 g15 dX3_addWin_29 ?_
    refine lv_iload_n hx hb dX3_addWin_30 rfl (lv_at hl_11 4 rfl) ?_
    refine lv_iadd hx hb dX3_addWin_31 ?_
    obtain ⟨g16, hf⟩ := ri_some hf
    refine kas23 F I_14 g16 dX3_addWin_32 ?_
    intro H_18 lo_18 G17 eG17 I_18
    replace hf := nm_some eG17 hf
    refine lv_aload_n hx hb dX3_addWin_33 rfl (lv_at hl_11 2 rfl) ?_
    refine kgtX3_9_22 F I_18 dX3_addWin_34 ?_
    refine lv_iload hx hb dX3_addWin_37 (lv_at hl_11 0 rfl) ?_
    refine lv_iload_n hx hb dX3_addWin_39 rfl (lv_at hl_11 1 rfl) ?_
    obtain ⟨r19, h20⟩ : ∃ z, z = C_LT_cell r8 r4 := ⟨_, rfl⟩
    replace hf := nm_some h20 hf
    refine s_callSNi (As := [.int r8, .int r4]) (rest := [.ref (ad 23)]) F I_18 (cC_LT_cell G17 E Dd P L pf r8 r4 r19 h20) kX3_50 ⟨rfl, rfl⟩ ⟨Nat.le_trans (Nat.le_of_ble_eq_true rfl) hRf, Nat.le_trans (Nat.le_of_ble_eq_true rfl) hRl⟩ rfl rfl hl_11.1 (Nat.le_of_ble_eq_true rfl) ⟨Nat.zero_le _, Nat.zero_le _⟩ dX3_addWin_40 ?_
    intro H_21 lo_21 I_21
    refine lv_dup2_11 hx hb dX3_addWin_43 rfl rfl ?_
    obtain ⟨g22, hf⟩ := ri_some hf
    refine kal23 F I_21 g22 dX3_addWin_44 ?_
    refine lv_iload_n hx hb dX3_addWin_45 rfl (lv_at hl_11 4 rfl) ?_
    refine lv_isub hx hb dX3_addWin_46 ?_
    obtain ⟨g23, hf⟩ := ri_some hf
    refine kas23 F I_21 g23 dX3_addWin_47 ?_
    intro H_25 lo_25 G24 eG24 I_25
    replace hf := nm_some eG24 hf
    cases hf
    exact ret H_25 lo_25 _ ls_11 I_25 dX3_addWin_48
def C_SD_addPoints_18 (G : Nat → Nat → Int32) (a1 : Int32) (a2 : Int32) : Option ((Nat → Nat → Int32)) :=
nm (C_CO_answerOf a1) fun r1 =>
bd (if r1 = 0 then
(some (1 : Int32))
else
(if r1 = (1 : Int32) then
(some (2 : Int32))
else
(some (0 : Int32)))) fun x6 =>
if (8 : Int32) < (8 : Int32) then
(some G)
else
(nm (C_CO_firstOf a1) fun r11 =>
ri 8 r11 <|
ri 8 r11 <|
nm (wr G 23 r11 ((G 23 r11.toNatClampNeg) + (x6 * a2))) fun G16 =>
nm (C_CO_secondOf a1) fun r18 =>
ri 8 r18 <|
ri 8 r18 <|
nm (wr G16 23 r18 ((G16 23 r18.toNatClampNeg) + (((2 : Int32) - x6) * a2))) fun G23 =>
some G23)
set_option maxRecDepth 100000 in
set_option maxHeartbeats 4000000 in
theorem cC_SD_addPoints_18 (G : Nat → Nat → Int32) (E : Nat → Nat → Int64) (Dd : Nat → Nat → UInt64) (P : Nat → Option Nat) (L : List Nat) (pf : Nat → va_E) (a1 : Int32) (a2 : Int32)  (newG : Nat → Nat → Int32) (hf : C_SD_addPoints_18 G a1 a2 = some newG) : sMv D (cT cI cJ cD cS) (cW ad cI cJ cD cS) l yX6_addPoints (ws1 yX6_addPoints cX6_addPoints 5 none) ({ frames := 1, cells := 0, slots := 0, locals := 20 }) [.ref (ad 18), .int a1, .int a2] (G, E, Dd, P, L, pf) (newG, E, Dd, P, L, pf) := by
  unfold C_SD_addPoints_18 at hf
  refine sMv_of (by decide) (Nat.le_of_ble_eq_true rfl) ?_
  intro p e R s m args below meth c A Q ls H lo F hRf hRl I hl ret
  obtain ⟨hx, hb, hml, hown, hG⟩ := id F
  replace hl : lv_has ls 5 [(0, .ref (ad 18)), (1, .int a1), (2, .int a2)] := hl
  refine lv_iload_n hx hb dX6_addPoints_0 rfl (lv_at hl 1 rfl) ?_
  obtain ⟨r1, h2⟩ : ∃ z, z = C_CO_answerOf a1 := ⟨_, rfl⟩
  replace hf := nm_some h2 hf
  refine s_callSi (As := [.int a1]) (rest := []) F I (cC_CO_answerOf G E Dd P L pf a1 r1 h2) kX6_130 ⟨rfl, rfl⟩ ⟨Nat.le_trans (Nat.le_of_ble_eq_true rfl) hRf, Nat.le_trans (Nat.le_of_ble_eq_true rfl) hRl⟩ rfl rfl hl.1 (Nat.le_of_ble_eq_true rfl) ⟨Nat.zero_le _, Nat.zero_le _⟩ dX6_addPoints_1 ?_
  intro H_3 lo_3 I_3
  refine lv_istore_n (lv' := [(3, .int r1), (0, .ref (ad 18)), (1, .int a1), (2, .int a2)]) hx hb dX6_addPoints_4 rfl hl (by decide) rfl (fun ls_4 hl_4 => ?_)
  refine lv_iload_n hx hb dX6_addPoints_5 rfl (lv_at hl_4 0 rfl) ?_
  obtain ⟨x6, hv26, hf⟩ := bd_some hf
  have J5 : ∀ (H : Heap) (locs : List Loc), sInv D (cT cI cJ cD cS) (cW ad cI cJ cD cS) A s H locs (G, E, Dd, P, L, pf) → ∀ (ls : Array Slot), lv_has ls 5 [(0, .ref (ad 18)), (1, .int a1), (2, .int a2)] → W p l e R s m args below meth c H locs 0 0 Q (F0 m 23 ls [.int x6]) := by
    intro H_7 lo_7 I_7 ls_8 hl_8
    refine lv_istore (lv' := [(4, .int x6), (0, .ref (ad 18)), (1, .int a1), (2, .int a2)]) hx hb dX6_addPoints_23 hl_8 (by decide) rfl (fun ls_10 hl_10 => ?_)
    refine lv_aload_n hx hb dX6_addPoints_25 rfl (lv_at hl_10 1 rfl) ?_
    refine kln18 F I_7 dX6_addPoints_26 ?_
    refine lv_bipush (v := (8 : Int32)) hx hb dX6_addPoints_27 (by decide) ?_
    refine lv_icmp_lt (tgt := 60) hx hb dX6_addPoints_29 (by decide) (fun c25 => ?_) (fun c25 => ?_)
    · replace hf := (if_pos c25).symm.trans hf
      cases hf
      exact ret H_7 lo_7 _ ls_10 I_7 dX6_addPoints_60
    · replace hf := (if_neg c25).symm.trans hf
      refine lv_aload_n hx hb dX6_addPoints_32 rfl (lv_at hl_10 1 rfl) ?_
      refine lv_iload_n hx hb dX6_addPoints_33 rfl (lv_at hl_10 2 rfl) ?_
      obtain ⟨r11, h12⟩ : ∃ z, z = C_CO_firstOf a1 := ⟨_, rfl⟩
      replace hf := nm_some h12 hf
      refine s_callSi (As := [.int a1]) (rest := [.ref (ad 18)]) F I_7 (cC_CO_firstOf G E Dd P L pf a1 r11 h12) kX6_133 ⟨rfl, rfl⟩ ⟨Nat.le_trans (Nat.le_of_ble_eq_true rfl) hRf, Nat.le_trans (Nat.le_of_ble_eq_true rfl) hRl⟩ rfl rfl hl_10.1 (Nat.le_of_ble_eq_true rfl) ⟨Nat.zero_le _, Nat.zero_le _⟩ dX6_addPoints_34 ?_
      intro H_13 lo_13 I_13
      refine lv_dup2_11 hx hb dX6_addPoints_37 rfl rfl ?_
      obtain ⟨g14, hf⟩ := ri_some hf
      refine kal18 F I_13 g14 dX6_addPoints_38 ?_
      refine lv_iload hx hb dX6_addPoints_39 (lv_at hl_10 0 rfl) ?_
      refine lv_iload_n hx hb dX6_addPoints_41 rfl (lv_at hl_10 3 rfl) ?_
      refine lv_imul hx hb dX6_addPoints_42 ?_
      refine lv_iadd hx hb dX6_addPoints_43 ?_
      obtain ⟨g15, hf⟩ := ri_some hf
      refine kas18 F I_13 g15 dX6_addPoints_44 ?_
      intro H_17 lo_17 G16 eG16 I_17
      replace hf := nm_some eG16 hf
      refine lv_aload_n hx hb dX6_addPoints_45 rfl (lv_at hl_10 1 rfl) ?_
      refine lv_iload_n hx hb dX6_addPoints_46 rfl (lv_at hl_10 2 rfl) ?_
      obtain ⟨r18, h19⟩ : ∃ z, z = C_CO_secondOf a1 := ⟨_, rfl⟩
      replace hf := nm_some h19 hf
      refine s_callSi (As := [.int a1]) (rest := [.ref (ad 18)]) F I_17 (cC_CO_secondOf G16 E Dd P L pf a1 r18 h19) kX6_136 ⟨rfl, rfl⟩ ⟨Nat.le_trans (Nat.le_of_ble_eq_true rfl) hRf, Nat.le_trans (Nat.le_of_ble_eq_true rfl) hRl⟩ rfl rfl hl_10.1 (Nat.le_of_ble_eq_true rfl) ⟨Nat.zero_le _, Nat.zero_le _⟩ dX6_addPoints_47 ?_
      intro H_20 lo_20 I_20
      refine lv_dup2_11 hx hb dX6_addPoints_50 rfl rfl ?_
      obtain ⟨g21, hf⟩ := ri_some hf
      refine kal18 F I_20 g21 dX6_addPoints_51 ?_
      refine lv_iconst (v := (2 : Int32)) hx hb dX6_addPoints_52 (by decide) ?_
      refine lv_iload hx hb dX6_addPoints_53 (lv_at hl_10 0 rfl) ?_
      refine lv_isub hx hb dX6_addPoints_55 ?_
      refine lv_iload_n hx hb dX6_addPoints_56 rfl (lv_at hl_10 3 rfl) ?_
      refine lv_imul hx hb dX6_addPoints_57 ?_
      refine lv_iadd hx hb dX6_addPoints_58 ?_
      obtain ⟨g22, hf⟩ := ri_some hf
      refine kas18 F I_20 g22 dX6_addPoints_59 ?_
      intro H_24 lo_24 G23 eG23 I_24
      replace hf := nm_some eG23 hf
      cases hf
      exact ret H_24 lo_24 _ ls_10 I_24 dX6_addPoints_60
  replace hf := hv26
  refine lv_if_ne (tgt := 13) hx hb dX6_addPoints_6 (by decide) (fun c28 => ?_) (fun c28 => ?_)
  · replace hf := (if_neg c28).symm.trans hf
    refine lv_iload_n hx hb dX6_addPoints_13 rfl (lv_at hl_4 0 rfl) ?_
    refine lv_iconst (v := (1 : Int32)) hx hb dX6_addPoints_14 (by decide) ?_
    refine lv_icmp_ne (tgt := 22) hx hb dX6_addPoints_15 (by decide) (fun c27 => ?_) (fun c27 => ?_)
    · replace hf := (if_neg c27).symm.trans hf
      refine lv_iconst (v := (0 : Int32)) hx hb dX6_addPoints_22 (by decide) ?_
      cases hf
      exact J5 H_3 lo_3 I_3 ls_4 (lv_sub hl_4 [1, 2, 3] rfl)
    · replace hf := (if_pos c27).symm.trans hf
      refine lv_iconst (v := (2 : Int32)) hx hb dX6_addPoints_18 (by decide) ?_
      refine lv_goto (tgt := 23) hx hb dX6_addPoints_19 (by decide) ?_
      cases hf
      exact J5 H_3 lo_3 I_3 ls_4 (lv_sub hl_4 [1, 2, 3] rfl)
  · replace hf := (if_pos c28).symm.trans hf
    refine lv_iconst (v := (1 : Int32)) hx hb dX6_addPoints_9 (by decide) ?_
    refine lv_goto (tgt := 23) hx hb dX6_addPoints_10 (by decide) ?_
    cases hf
    exact J5 H_3 lo_3 I_3 ls_4 (lv_sub hl_4 [1, 2, 3] rfl)
def C_SD_weigh_1_s2  (x21 : Int32) (G22 : Nat → Nat → Int32) : Option ((Int32 × (Nat → Nat → Int32)) ⊕ ((Nat → Nat → Int32))) :=
if G22 5 0 ≤ x21 then
(some (.inr G22))
else
(bd (C_CO_at G22 x21) fun r30 =>
nm (C_CO_listenerOf r30) fun r34 =>
ri 8 r34 <|
nm (G22 22 r34.toNatClampNeg : Int32) fun x38 =>
bd (C_LE_addWin_22 G22 r30 x38) fun G40 =>
bd (C_SD_addPoints_18 G40 r30 x38) fun G43 =>
nm (x21 + (1 : Int32) : Int32) fun x46 =>
some (.inl (x46, G43)))
def C_SD_weigh_1_s1 (a3 : Int32) (x8 : Int32) (G9 : Nat → Nat → Int32) : Option ((Int32 × (Nat → Nat → Int32)) ⊕ ((Nat → Nat → Int32))) :=
if (8 : Int32) ≤ x8 then
(some (.inr G9))
else
(bd (if x8 = a3 then
(some (0 : Int32))
else
(if x8 < (8 : Int32) then
(ri 8 x8 <|
some (G9 2 x8.toNatClampNeg))
else
(some (0 : Int32)))) fun x53 =>
ri 8 x8 <|
nm (wr G9 22 x8 x53) fun G58 =>
nm (x8 + (1 : Int32) : Int32) fun x60 =>
some (.inl (x60, G58)))
def C_SD_weigh_1 (G : Nat → Nat → Int32) (a1 : Int32) (a3 : Int32) : Option ((Nat → Nat → Int32)) :=
nm (wf G 21 (if (8 : Int32) < a1 then (8 : Int32) else a1)) fun G1 =>
nm (wf G1 29 (0 : Int32)) fun G3 =>
nm (wf G3 30 (0 : Int32)) fun G5 =>
bd (lp (fun q => C_SD_weigh_1_s1 a3 q.1 q.2) FU ((0 : Int32), G5)) fun G10 =>
bd (C_LE_clearAll_22 G10) fun G14 =>
bd (C_JA_fill_i_18 G14 (0 : Int32)) fun G17 =>
bd (lp (fun q => C_SD_weigh_1_s2 q.1 q.2) FU ((0 : Int32), G17)) fun G23 =>
some G23
set_option maxRecDepth 100000 in
set_option maxHeartbeats 4000000 in
theorem cC_SD_weigh_1 (G : Nat → Nat → Int32) (E : Nat → Nat → Int64) (Dd : Nat → Nat → UInt64) (P : Nat → Option Nat) (L : List Nat) (pf : Nat → va_E) (a1 : Int32) (a3 : Int32)  (newG : Nat → Nat → Int32) (hf : C_SD_weigh_1 G a1 a3 = some newG) : sMv D (cT cI cJ cD cS) (cW ad cI cJ cD cS) l yX6_weigh (ws1 yX6_weigh cX6_weigh 8 none) ({ frames := 3, cells := 0, slots := 0, locals := 64 }) [.ref (ad 16), .ref (ad 2), .int a1, .ref (ad 1), .int a3] (G, E, Dd, P, L, pf) (newG, E, Dd, P, L, pf) := by
  unfold C_SD_weigh_1 at hf
  refine sMv_of (by decide) (Nat.le_of_ble_eq_true rfl) ?_
  intro p e R s m args below meth c A Q ls H lo F hRf hRl I hl ret
  obtain ⟨hx, hb, hml, hown, hG⟩ := id F
  replace hl : lv_has ls 8 [(0, .ref (ad 16)), (1, .ref (ad 2)), (2, .int a1), (3, .ref (ad 1)), (4, .int a3)] := hl
  refine lv_aload_n hx hb dX6_weigh_0 rfl (lv_at hl 0 rfl) ?_
  refine lv_iload_n hx hb dX6_weigh_1 rfl (lv_at hl 2 rfl) ?_
  refine lv_bipush (v := (8 : Int32)) hx hb dX6_weigh_2 (by decide) ?_
  refine va_mmin (rest := [.ref (ad 16)]) hx hb (hml.trans hl.1.symm) hown (hG _ q579) (hG _ q580) (hG _ q126) (hG _ q581) (Nat.le_trans (Nat.le_of_ble_eq_true rfl) hRf) (Nat.le_trans (Nat.le_of_ble_eq_true rfl) hRl) (Nat.zero_le _) (Nat.zero_le _) dX6_weigh_4 ?_
  refine kptX6_9_16 F I dX6_weigh_7 ?_
  intro H_2 lo_2 G1 eG1 I_2
  replace hf := nm_some eG1 hf
  refine lv_aload_n hx hb dX6_weigh_10 rfl (lv_at hl 0 rfl) ?_
  refine lv_iconst (v := (0 : Int32)) hx hb dX6_weigh_11 (by decide) ?_
  refine kptX6_44_16 F I_2 (by decide) dX6_weigh_12 ?_
  intro H_4 lo_4 G3 eG3 I_4
  replace hf := nm_some eG3 hf
  refine lv_aload_n hx hb dX6_weigh_15 rfl (lv_at hl 0 rfl) ?_
  refine kgtX6_51_16 F I_4 dX6_weigh_16 ?_
  refine lv_iconst (v := (0 : Int32)) hx hb dX6_weigh_19 (by decide) ?_
  refine kptX6_61_24 F I_4 (by decide) dX6_weigh_20 ?_
  intro H_6 lo_6 G5 eG5 I_6
  replace hf := nm_some eG5 hf
  refine lv_iconst (v := (0 : Int32)) hx hb dX6_weigh_23 (by decide) ?_
  refine lv_istore (lv' := [(5, .int (0 : Int32)), (0, .ref (ad 16)), (1, .ref (ad 2)), (2, .int a1), (3, .ref (ad 1)), (4, .int a3)]) hx hb dX6_weigh_24 hl (by decide) rfl (fun ls_7 hl_7 => ?_)
  obtain ⟨G10, hq1, hf⟩ := bd_some hf
  have K1 : ∀ (H : Heap) (locs : List Loc), sInv D (cT cI cJ cD cS) (cW ad cI cJ cD cS) A s H locs (G10, E, Dd, P, L, pf) → ∀ (ls : Array Slot), lv_has ls 8 [(0, .ref (ad 16)), (1, .ref (ad 2))] → W p l e R s m args below meth c H locs 0 0 Q (F0 m 68 ls []) := by
    intro H_11 lo_11 I_11 ls_12 hl_12
    refine lv_aload_n hx hb dX6_weigh_68 rfl (lv_at hl_12 0 rfl) ?_
    refine kgtX6_22_16 F I_11 dX6_weigh_69 ?_
    obtain ⟨G14, h15, hf⟩ := bd_some hf
    refine s_callVv (As := []) (rest := []) F I_11 (cC_LE_clearAll_22 G10 E Dd P L pf G14 h15) kX6_64 ⟨rfl, rfl⟩ ⟨Nat.le_trans (Nat.le_of_ble_eq_true rfl) hRf, Nat.le_trans (Nat.le_of_ble_eq_true rfl) hRl⟩ 22 3 rfl rfl rfl rfl rfl hl_12.1 (Nat.le_of_ble_eq_true rfl) ⟨Nat.zero_le _, Nat.zero_le _⟩ dX6_weigh_72 ?_
    intro H_16 lo_16 I_16
    refine lv_aload_n hx hb dX6_weigh_75 rfl (lv_at hl_12 0 rfl) ?_
    refine kgtX6_26_16 F I_16 dX6_weigh_76 ?_
    refine lv_iconst (v := (0 : Int32)) hx hb dX6_weigh_79 (by decide) ?_
    obtain ⟨G17, h18, hf⟩ := bd_some hf
    refine s_callSv (As := [.ref (ad 18), .int (0 : Int32)]) (rest := []) F I_16 (cC_JA_fill_i_18 G14 E Dd P L pf (0 : Int32) G17 h18) kX6_67 ⟨rfl, rfl⟩ ⟨Nat.le_trans (Nat.le_of_ble_eq_true rfl) hRf, Nat.le_trans (Nat.le_of_ble_eq_true rfl) hRl⟩ rfl rfl hl_12.1 (Nat.le_of_ble_eq_true rfl) ⟨Nat.zero_le _, Nat.zero_le _⟩ dX6_weigh_80 ?_
    intro H_19 lo_19 I_19
    refine lv_iconst (v := (0 : Int32)) hx hb dX6_weigh_83 (by decide) ?_
    refine lv_istore (lv' := [(5, .int (0 : Int32)), (0, .ref (ad 16)), (1, .ref (ad 2))]) hx hb dX6_weigh_84 hl_12 (by decide) rfl (fun ls_20 hl_20 => ?_)
    obtain ⟨G23, hq2, hf⟩ := bd_some hf
    have K2 : ∀ (H : Heap) (locs : List Loc), sInv D (cT cI cJ cD cS) (cW ad cI cJ cD cS) A s H locs (G23, E, Dd, P, L, pf) → ∀ (ls : Array Slot), lv_has ls 8 [] → W p l e R s m args below meth c H locs 0 0 Q (F0 m 143 ls []) := by
      intro H_24 lo_24 I_24 ls_25 hl_25
      cases hf
      exact ret H_24 lo_24 _ ls_25 I_24 dX6_weigh_143
    have L2 : ∀ (n : Nat) (x21 : Int32) (G22 : Nat → Nat → Int32), lp (fun q => C_SD_weigh_1_s2 q.1 q.2) n (x21, G22) = some G23 → ∀ (H : Heap) (locs : List Loc), sInv D (cT cI cJ cD cS) (cW ad cI cJ cD cS) A s H locs (G22, E, Dd, P, L, pf) → ∀ (ls : Array Slot), lv_has ls 8 [(0, .ref (ad 16)), (1, .ref (ad 2)), (5, .int x21)] → W p l e R s m args below meth c H locs 0 0 Q (F0 m 86 ls []) := by
      intro n
      induction n with
      | zero => intro x21 G22 hq; exact (lp_0 hq).elim
      | succ n ih2 =>
        intro x21 G22 hq H_27 lo_27 I_27 ls_28 hl_28
        obtain ⟨y2, hf, hK2⟩ := lp_go hq
        replace hf : C_SD_weigh_1_s2 x21 G22 = some y2 := hf
        unfold C_SD_weigh_1_s2 at hf
        refine lv_iload hx hb dX6_weigh_86 (lv_at hl_28 2 rfl) ?_
        refine lv_aload_n hx hb dX6_weigh_88 rfl (lv_at hl_28 1 rfl) ?_
        refine kgtX6_73_2 F I_27 dX6_weigh_89 ?_
        refine lv_icmp_ge (tgt := 143) hx hb dX6_weigh_92 (by decide) (fun c48 => ?_) (fun c48 => ?_)
        · replace hf := (if_pos c48).symm.trans hf
          cases hf
          cases (show G22 = G23 from hK2)
          exact K2 H_27 lo_27 I_27 ls_28 (lv_sub hl_28 [] rfl)
        · replace hf := (if_neg c48).symm.trans hf
          refine lv_aload_n hx hb dX6_weigh_95 rfl (lv_at hl_28 1 rfl) ?_
          refine lv_iload hx hb dX6_weigh_96 (lv_at hl_28 2 rfl) ?_
          obtain ⟨r30, h31, hf⟩ := bd_some hf
          refine s_callVi (As := [.int x21]) (rest := []) F I_27 (cC_CO_at G22 E Dd P L pf x21 r30 h31) kX6_78 ⟨rfl, rfl⟩ ⟨Nat.le_trans (Nat.le_of_ble_eq_true rfl) hRf, Nat.le_trans (Nat.le_of_ble_eq_true rfl) hRl⟩ 2 1 rfl rfl rfl rfl rfl hl_28.1 (Nat.le_of_ble_eq_true rfl) ⟨Nat.zero_le _, Nat.zero_le _⟩ dX6_weigh_98 ?_
          intro H_32 lo_32 I_32
          refine lv_istore (lv' := [(6, .int r30), (0, .ref (ad 16)), (1, .ref (ad 2)), (5, .int x21)]) hx hb dX6_weigh_101 hl_28 (by decide) rfl (fun ls_33 hl_33 => ?_)
          refine lv_aload_n hx hb dX6_weigh_103 rfl (lv_at hl_33 1 rfl) ?_
          refine kgtX6_15_16 F I_32 dX6_weigh_104 ?_
          refine lv_iload hx hb dX6_weigh_107 (lv_at hl_33 0 rfl) ?_
          obtain ⟨r34, h35⟩ : ∃ z, z = C_CO_listenerOf r30 := ⟨_, rfl⟩
          replace hf := nm_some h35 hf
          refine s_callSi (As := [.int r30]) (rest := [.ref (ad 17)]) F I_32 (cC_CO_listenerOf G22 E Dd P L pf r30 r34 h35) kX6_82 ⟨rfl, rfl⟩ ⟨Nat.le_trans (Nat.le_of_ble_eq_true rfl) hRf, Nat.le_trans (Nat.le_of_ble_eq_true rfl) hRl⟩ rfl rfl hl_33.1 (Nat.le_of_ble_eq_true rfl) ⟨Nat.zero_le _, Nat.zero_le _⟩ dX6_weigh_109 ?_
          intro H_36 lo_36 I_36
          obtain ⟨g37, hf⟩ := ri_some hf
          refine kal17 F I_36 g37 dX6_weigh_112 ?_
          refine lv_topi (fun x38 ex38 => ?_)
          replace hf := nm_some ex38 hf
          refine lv_istore (lv' := [(7, .int x38), (6, .int r30), (0, .ref (ad 16)), (1, .ref (ad 2)), (5, .int x21)]) hx hb dX6_weigh_113 hl_33 (by decide) rfl (fun ls_39 hl_39 => ?_)
          refine lv_aload_n hx hb dX6_weigh_115 rfl (lv_at hl_39 2 rfl) ?_
          refine kgtX6_22_16 F I_36 dX6_weigh_116 ?_
          refine lv_iload hx hb dX6_weigh_119 (lv_at hl_39 1 rfl) ?_
          refine lv_iload hx hb dX6_weigh_121 (lv_at hl_39 0 rfl) ?_
          obtain ⟨G40, h41, hf⟩ := bd_some hf
          refine s_callVv (As := [.int r30, .int x38]) (rest := []) F I_36 (cC_LE_addWin_22 G22 E Dd P L pf r30 x38 G40 h41) kX6_85 ⟨rfl, rfl⟩ ⟨Nat.le_trans (Nat.le_of_ble_eq_true rfl) hRf, Nat.le_trans (Nat.le_of_ble_eq_true rfl) hRl⟩ 22 3 rfl rfl rfl rfl rfl hl_39.1 (Nat.le_of_ble_eq_true rfl) ⟨Nat.zero_le _, Nat.zero_le _⟩ dX6_weigh_123 ?_
          intro H_42 lo_42 I_42
          refine lv_aload_n hx hb dX6_weigh_126 rfl (lv_at hl_39 2 rfl) ?_
          refine kgtX6_26_16 F I_42 dX6_weigh_127 ?_
          refine lv_iload hx hb dX6_weigh_130 (lv_at hl_39 1 rfl) ?_
          refine lv_iload hx hb dX6_weigh_132 (lv_at hl_39 0 rfl) ?_
          obtain ⟨G43, h44, hf⟩ := bd_some hf
          refine s_callSv (As := [.ref (ad 18), .int r30, .int x38]) (rest := []) F I_42 (cC_SD_addPoints_18 G40 E Dd P L pf r30 x38 G43 h44) kX6_89 ⟨rfl, rfl⟩ ⟨Nat.le_trans (Nat.le_of_ble_eq_true rfl) hRf, Nat.le_trans (Nat.le_of_ble_eq_true rfl) hRl⟩ rfl rfl hl_39.1 (Nat.le_of_ble_eq_true rfl) ⟨Nat.zero_le _, Nat.zero_le _⟩ dX6_weigh_134 ?_
          intro H_45 lo_45 I_45
          obtain ⟨x46, ex46⟩ : ∃ y : Int32, y = x21 + (1 : Int32) := ⟨_, rfl⟩
          replace hf := nm_some ex46 hf
          refine lv_iinc (v := x46) (lv' := [(5, .int x46), (7, .int x38), (6, .int r30), (0, .ref (ad 16)), (1, .ref (ad 2))]) hx hb dX6_weigh_137 hl_39 (k := 4) rfl (by rw [ex46]; rfl) (by decide) rfl (fun ls_47 hl_47 => ?_)
          refine lv_goto (tgt := 86) hx hb dX6_weigh_140 (by decide) ?_
          cases hf
          exact ih2 _ _ hK2 H_45 lo_45 I_45 ls_47 (lv_sub hl_47 [3, 4, 0] rfl)
    exact L2 FU _ _ hq2 H_19 lo_19 I_19 ls_20 (lv_sub hl_20 [1, 2, 0] rfl)
  have L1 : ∀ (n : Nat) (x8 : Int32) (G9 : Nat → Nat → Int32), lp (fun q => C_SD_weigh_1_s1 a3 q.1 q.2) n (x8, G9) = some G10 → ∀ (H : Heap) (locs : List Loc), sInv D (cT cI cJ cD cS) (cW ad cI cJ cD cS) A s H locs (G9, E, Dd, P, L, pf) → ∀ (ls : Array Slot), lv_has ls 8 [(0, .ref (ad 16)), (1, .ref (ad 2)), (3, .ref (ad 1)), (4, .int a3), (5, .int x8)] → W p l e R s m args below meth c H locs 0 0 Q (F0 m 26 ls []) := by
    intro n
    induction n with
    | zero => intro x8 G9 hq; exact (lp_0 hq).elim
    | succ n ih1 =>
      intro x8 G9 hq H_49 lo_49 I_49 ls_50 hl_50
      obtain ⟨y1, hf, hK1⟩ := lp_go hq
      replace hf : C_SD_weigh_1_s1 a3 x8 G9 = some y1 := hf
      unfold C_SD_weigh_1_s1 at hf
      refine lv_iload hx hb dX6_weigh_26 (lv_at hl_50 4 rfl) ?_
      refine lv_bipush (v := (8 : Int32)) hx hb dX6_weigh_28 (by decide) ?_
      refine lv_icmp_ge (tgt := 68) hx hb dX6_weigh_30 (by decide) (fun c66 => ?_) (fun c66 => ?_)
      · replace hf := (if_pos c66).symm.trans hf
        cases hf
        cases (show G9 = G10 from hK1)
        exact K1 H_49 lo_49 I_49 ls_50 (lv_sub hl_50 [0, 1] rfl)
      · replace hf := (if_neg c66).symm.trans hf
        refine lv_aload_n hx hb dX6_weigh_33 rfl (lv_at hl_50 0 rfl) ?_
        refine kgtX6_15_16 F I_49 dX6_weigh_34 ?_
        refine lv_iload hx hb dX6_weigh_37 (lv_at hl_50 4 rfl) ?_
        refine lv_iload hx hb dX6_weigh_39 (lv_at hl_50 4 rfl) ?_
        refine lv_iload hx hb dX6_weigh_41 (lv_at hl_50 3 rfl) ?_
        obtain ⟨x53, hv62, hf⟩ := bd_some hf
        have J52 : ∀ (H : Heap) (locs : List Loc), sInv D (cT cI cJ cD cS) (cW ad cI cJ cD cS) A s H locs (G9, E, Dd, P, L, pf) → ∀ (ls : Array Slot), lv_has ls 8 [(0, .ref (ad 16)), (1, .ref (ad 2)), (3, .ref (ad 1)), (4, .int a3), (5, .int x8)] → W p l e R s m args below meth c H locs 0 0 Q (F0 m 61 ls [.int x53, .int x8, .ref (ad 17)]) := by
          intro H_54 lo_54 I_54 ls_55 hl_55
          obtain ⟨g57, hf⟩ := ri_some hf
          refine kas17 F I_54 g57 dX6_weigh_61 ?_
          intro H_59 lo_59 G58 eG58 I_59
          replace hf := nm_some eG58 hf
          obtain ⟨x60, ex60⟩ : ∃ y : Int32, y = x8 + (1 : Int32) := ⟨_, rfl⟩
          replace hf := nm_some ex60 hf
          refine lv_iinc (v := x60) (lv' := [(5, .int x60), (0, .ref (ad 16)), (1, .ref (ad 2)), (3, .ref (ad 1)), (4, .int a3)]) hx hb dX6_weigh_62 hl_55 (k := 4) rfl (by rw [ex60]; rfl) (by decide) rfl (fun ls_61 hl_61 => ?_)
          refine lv_goto (tgt := 26) hx hb dX6_weigh_65 (by decide) ?_
          cases hf
          exact ih1 _ _ hK1 H_59 lo_59 I_59 ls_61 (lv_sub hl_61 [1, 2, 3, 4, 0] rfl)
        replace hf := hv62
        refine lv_icmp_eq (tgt := 53) hx hb dX6_weigh_43 (by decide) (fun c65 => ?_) (fun c65 => ?_)
        · replace hf := (if_pos c65).symm.trans hf
          refine lv_iconst (v := (0 : Int32)) hx hb dX6_weigh_53 (by decide) ?_
          refine lv_goto (tgt := 61) hx hb dX6_weigh_54 (by decide) ?_
          cases hf
          exact J52 H_49 lo_49 I_49 ls_50 (lv_sub hl_50 [0, 1, 2, 3, 4] rfl)
        · replace hf := (if_neg c65).symm.trans hf
          refine lv_iload hx hb dX6_weigh_46 (lv_at hl_50 4 rfl) ?_
          refine lv_aload_n hx hb dX6_weigh_48 rfl (lv_at hl_50 2 rfl) ?_
          refine kln1 F I_49 dX6_weigh_49 ?_
          refine lv_icmp_lt (tgt := 57) hx hb dX6_weigh_50 (by decide) (fun c64 => ?_) (fun c64 => ?_)
          · replace hf := (if_pos c64).symm.trans hf
            refine lv_aload_n hx hb dX6_weigh_57 rfl (lv_at hl_50 2 rfl) ?_
            refine lv_iload hx hb dX6_weigh_58 (lv_at hl_50 4 rfl) ?_
            obtain ⟨g63, hf⟩ := ri_some hf
            refine kal1 F I_49 g63 dX6_weigh_60 ?_
            cases hf
            exact J52 H_49 lo_49 I_49 ls_50 (lv_sub hl_50 [0, 1, 2, 3, 4] rfl)
          · replace hf := (if_neg c64).symm.trans hf
            refine lv_iconst (v := (0 : Int32)) hx hb dX6_weigh_53 (by decide) ?_
            refine lv_goto (tgt := 61) hx hb dX6_weigh_54 (by decide) ?_
            cases hf
            exact J52 H_49 lo_49 I_49 ls_50 (lv_sub hl_50 [0, 1, 2, 3, 4] rfl)
  exact L1 FU _ _ hq1 H_6 lo_6 I_6 ls_7 (lv_sub hl_7 [1, 2, 4, 5, 0] rfl)
def C_LT_weigh (G : Nat → Nat → Int32) (a0 : Int32) : Option ((Nat → Nat → Int32)) :=
bd (C_SD_weigh_1 G (G 0 0) a0) fun G1 =>
some G1
set_option maxRecDepth 100000 in
set_option maxHeartbeats 4000000 in
theorem cC_LT_weigh (G : Nat → Nat → Int32) (E : Nat → Nat → Int64) (Dd : Nat → Nat → UInt64) (P : Nat → Option Nat) (L : List Nat) (pf : Nat → va_E) (a0 : Int32)  (newG : Nat → Nat → Int32) (hf : C_LT_weigh G a0 = some newG) : sMv D (cT cI cJ cD cS) (cW ad cI cJ cD cS) l yX11_weigh (ws1 yX11_weigh cX11_weigh 2 none) ({ frames := 4, cells := 0, slots := 0, locals := 91 }) [.ref (ad 0), .int a0] (G, E, Dd, P, L, pf) (newG, E, Dd, P, L, pf) := by
  unfold C_LT_weigh at hf
  refine sMv_of (by decide) (Nat.le_of_ble_eq_true rfl) ?_
  intro p e R s m args below meth c A Q ls H lo F hRf hRl I hl ret
  obtain ⟨hx, hb, hml, hown, hG⟩ := id F
  replace hl : lv_has ls 2 [(0, .ref (ad 0)), (1, .int a0)] := hl
  refine lv_aload_n hx hb dX11_weigh_0 rfl (lv_at hl 0 rfl) ?_
  refine kgtX11_54_0 F I dX11_weigh_1 ?_
  refine lv_aload_n hx hb dX11_weigh_4 rfl (lv_at hl 0 rfl) ?_
  refine kgtX11_16_0 F I dX11_weigh_5 ?_
  refine lv_aload_n hx hb dX11_weigh_8 rfl (lv_at hl 0 rfl) ?_
  refine kgtX11_89_0 F I dX11_weigh_9 ?_
  refine lv_aload_n hx hb dX11_weigh_12 rfl (lv_at hl 0 rfl) ?_
  refine kgtX11_9_0 F I dX11_weigh_13 ?_
  refine lv_iload_n hx hb dX11_weigh_16 rfl (lv_at hl 1 rfl) ?_
  obtain ⟨G1, h2, hf⟩ := bd_some hf
  refine s_callVv (As := [.ref (ad 2), .int (G 0 0), .ref (ad 1), .int a0]) (rest := []) F I (cC_SD_weigh_1 G E Dd P L pf (G 0 0) a0 G1 h2) kX11_329 ⟨rfl, rfl⟩ ⟨Nat.le_trans (Nat.le_of_ble_eq_true rfl) hRf, Nat.le_trans (Nat.le_of_ble_eq_true rfl) hRl⟩ 16 6 rfl rfl rfl rfl rfl hl.1 (Nat.le_of_ble_eq_true rfl) ⟨Nat.zero_le _, Nat.zero_le _⟩ dX11_weigh_17 ?_
  intro H_3 lo_3 I_3
  cases hf
  exact ret H_3 lo_3 _ ls I_3 dX11_weigh_20
def C_JA_fill_i_13_s1 (a1 : Int32) (x3 : Int32) (G4 : Nat → Nat → Int32) : Option ((Int32 × (Nat → Nat → Int32)) ⊕ ((Nat → Nat → Int32))) :=
if (64 : Int32) ≤ x3 then
(some (.inr G4))
else
(ri 64 x3 <|
nm (wr G4 18 x3 a1) fun G13 =>
nm (x3 + (1 : Int32) : Int32) fun x15 =>
some (.inl (x15, G13)))
def C_JA_fill_i_13 (G : Nat → Nat → Int32) (a1 : Int32) : Option ((Nat → Nat → Int32)) :=
bd (lp (fun q => C_JA_fill_i_13_s1 a1 q.1 q.2) FU ((0 : Int32), G)) fun G5 =>
some G5
set_option maxRecDepth 100000 in
set_option maxHeartbeats 4000000 in
theorem cC_JA_fill_i_13 (G : Nat → Nat → Int32) (E : Nat → Nat → Int64) (Dd : Nat → Nat → UInt64) (P : Nat → Option Nat) (L : List Nat) (pf : Nat → va_E) (a1 : Int32)  (newG : Nat → Nat → Int32) (hf : C_JA_fill_i_13 G a1 = some newG) : sMv D (cT cI cJ cD cS) (cW ad cI cJ cD cS) l yJ7_fill_53178 (ws1 yJ7_fill_53178 cJ7_fill_53178 4 none) ({ frames := 0, cells := 0, slots := 0, locals := 0 }) [.ref (ad 13), .int a1] (G, E, Dd, P, L, pf) (newG, E, Dd, P, L, pf) := by
  unfold C_JA_fill_i_13 at hf
  refine sMv_of (by decide) (Nat.le_of_ble_eq_true rfl) ?_
  intro p e R s m args below meth c A Q ls H lo F hRf hRl I hl ret
  obtain ⟨hx, hb, hml, hown, hG⟩ := id F
  replace hl : lv_has ls 4 [(0, .ref (ad 13)), (1, .int a1)] := hl
  refine lv_iconst (v := (0 : Int32)) hx hb dJ7_fill_53178_0 (by decide) ?_
  refine lv_istore_n (lv' := [(2, .int (0 : Int32)), (0, .ref (ad 13)), (1, .int a1)]) hx hb dJ7_fill_53178_1 rfl hl (by decide) rfl (fun ls_1 hl_1 => ?_)
  refine lv_aload_n hx hb dJ7_fill_53178_2 rfl (lv_at hl_1 1 rfl) ?_
  refine kln13 F I dJ7_fill_53178_3 ?_
  refine lv_istore_n (lv' := [(3, .int (64 : Int32)), (2, .int (0 : Int32)), (0, .ref (ad 13)), (1, .int a1)]) hx hb dJ7_fill_53178_4 rfl hl_1 (by decide) rfl (fun ls_2 hl_2 => ?_)
  obtain ⟨G5, hq1, hf⟩ := bd_some hf
  have K1 : ∀ (H : Heap) (locs : List Loc), sInv D (cT cI cJ cD cS) (cW ad cI cJ cD cS) A s H locs (G5, E, Dd, P, L, pf) → ∀ (ls : Array Slot), lv_has ls 4 [] → W p l e R s m args below meth c H locs 0 0 Q (F0 m 20 ls []) := by
    intro H_6 lo_6 I_6 ls_7 hl_7
    cases hf
    exact ret H_6 lo_6 _ ls_7 I_6 dJ7_fill_53178_20
  have L1 : ∀ (n : Nat) (x3 : Int32) (G4 : Nat → Nat → Int32), lp (fun q => C_JA_fill_i_13_s1 a1 q.1 q.2) n (x3, G4) = some G5 → ∀ (H : Heap) (locs : List Loc), sInv D (cT cI cJ cD cS) (cW ad cI cJ cD cS) A s H locs (G4, E, Dd, P, L, pf) → ∀ (ls : Array Slot), lv_has ls 4 [(0, .ref (ad 13)), (1, .int a1), (2, .int x3), (3, .int (64 : Int32))] → W p l e R s m args below meth c H locs 0 0 Q (F0 m 5 ls []) := by
    intro n
    induction n with
    | zero => intro x3 G4 hq; exact (lp_0 hq).elim
    | succ n ih1 =>
      intro x3 G4 hq H_9 lo_9 I_9 ls_10 hl_10
      obtain ⟨y1, hf, hK1⟩ := lp_go hq
      replace hf : C_JA_fill_i_13_s1 a1 x3 G4 = some y1 := hf
      unfold C_JA_fill_i_13_s1 at hf
      refine lv_iload_n hx hb dJ7_fill_53178_5 rfl (lv_at hl_10 2 rfl) ?_
      refine lv_iload_n hx hb dJ7_fill_53178_6 rfl (lv_at hl_10 3 rfl) ?_
      refine lv_icmp_ge (tgt := 20) hx hb dJ7_fill_53178_7 (by decide) (fun c17 => ?_) (fun c17 => ?_)
      · replace hf := (if_pos c17).symm.trans hf
        cases hf
        cases (show G4 = G5 from hK1)
        exact K1 H_9 lo_9 I_9 ls_10 (lv_sub hl_10 [] rfl)
      · replace hf := (if_neg c17).symm.trans hf
        refine lv_aload_n hx hb dJ7_fill_53178_10 rfl (lv_at hl_10 0 rfl) ?_
        refine lv_iload_n hx hb dJ7_fill_53178_11 rfl (lv_at hl_10 2 rfl) ?_
        refine lv_iload_n hx hb dJ7_fill_53178_12 rfl (lv_at hl_10 1 rfl) ?_
        obtain ⟨g12, hf⟩ := ri_some hf
        refine kas13 F I_9 g12 dJ7_fill_53178_13 ?_
        intro H_14 lo_14 G13 eG13 I_14
        replace hf := nm_some eG13 hf
        obtain ⟨x15, ex15⟩ : ∃ y : Int32, y = x3 + (1 : Int32) := ⟨_, rfl⟩
        replace hf := nm_some ex15 hf
        refine lv_iinc (v := x15) (lv' := [(2, .int x15), (0, .ref (ad 13)), (1, .int a1), (3, .int (64 : Int32))]) hx hb dJ7_fill_53178_14 hl_10 (k := 2) rfl (by rw [ex15]; rfl) (by decide) rfl (fun ls_16 hl_16 => ?_)
        refine lv_goto (tgt := 5) hx hb dJ7_fill_53178_17 (by decide) ?_
        cases hf
        exact ih1 _ _ hK1 H_14 lo_14 I_14 ls_16 (lv_sub hl_16 [1, 2, 0, 3] rfl)
  exact L1 FU _ _ hq1 H lo I ls_2 (lv_sub hl_2 [2, 3, 1, 0] rfl)
def C_LE_clearAll_12 (G : Nat → Nat → Int32) : Option ((Nat → Nat → Int32)) :=
bd (C_JA_fill_i_13 G (0 : Int32)) fun G1 =>
some G1
set_option maxRecDepth 100000 in
set_option maxHeartbeats 4000000 in
theorem cC_LE_clearAll_12 (G : Nat → Nat → Int32) (E : Nat → Nat → Int64) (Dd : Nat → Nat → UInt64) (P : Nat → Option Nat) (L : List Nat) (pf : Nat → va_E)   (newG : Nat → Nat → Int32) (hf : C_LE_clearAll_12 G = some newG) : sMv D (cT cI cJ cD cS) (cW ad cI cJ cD cS) l yX3_clearAll (ws1 yX3_clearAll cX3_clearAll 1 none) ({ frames := 1, cells := 0, slots := 0, locals := 23 }) [.ref (ad 12)] (G, E, Dd, P, L, pf) (newG, E, Dd, P, L, pf) := by
  unfold C_LE_clearAll_12 at hf
  refine sMv_of (by decide) (Nat.le_of_ble_eq_true rfl) ?_
  intro p e R s m args below meth c A Q ls H lo F hRf hRl I hl ret
  obtain ⟨hx, hb, hml, hown, hG⟩ := id F
  replace hl : lv_has ls 1 [(0, .ref (ad 12))] := hl
  refine lv_aload_n hx hb dX3_clearAll_0 rfl (lv_at hl 0 rfl) ?_
  refine kgtX3_9_12 F I dX3_clearAll_1 ?_
  refine lv_iconst (v := (0 : Int32)) hx hb dX3_clearAll_4 (by decide) ?_
  obtain ⟨G1, h2, hf⟩ := bd_some hf
  refine s_callSv (As := [.ref (ad 13), .int (0 : Int32)]) (rest := []) F I (cC_JA_fill_i_13 G E Dd P L pf (0 : Int32) G1 h2) kX3_15 ⟨rfl, rfl⟩ ⟨Nat.le_trans (Nat.le_of_ble_eq_true rfl) hRf, Nat.le_trans (Nat.le_of_ble_eq_true rfl) hRl⟩ rfl rfl hl.1 (Nat.le_of_ble_eq_true rfl) ⟨Nat.zero_le _, Nat.zero_le _⟩ dX3_clearAll_5 ?_
  intro H_3 lo_3 I_3
  cases hf
  exact ret H_3 lo_3 _ ls I_3 dX3_clearAll_8
def C_LE_addWin_12 (G : Nat → Nat → Int32) (a0 : Int32) (a1 : Int32) : Option ((Nat → Nat → Int32)) :=
nm (C_CO_answerOf a0) fun r1 =>
if r1 = 0 then
(some G)
else
(bd (C_CO_winnerOf a0) fun r4 =>
bd (C_CO_loserOf a0) fun r8 =>
nm (C_LT_cell r4 r8) fun r12 =>
ri 64 r12 <|
ri 64 r12 <|
nm (wr G 18 r12 ((G 18 r12.toNatClampNeg) + a1)) fun G17 =>
nm (C_LT_cell r8 r4) fun r19 =>
ri 64 r19 <|
ri 64 r19 <|
nm (wr G17 18 r19 ((G17 18 r19.toNatClampNeg) - a1)) fun G24 =>
some G24)
set_option maxRecDepth 100000 in
set_option maxHeartbeats 4000000 in
theorem cC_LE_addWin_12 (G : Nat → Nat → Int32) (E : Nat → Nat → Int64) (Dd : Nat → Nat → UInt64) (P : Nat → Option Nat) (L : List Nat) (pf : Nat → va_E) (a0 : Int32) (a1 : Int32)  (newG : Nat → Nat → Int32) (hf : C_LE_addWin_12 G a0 a1 = some newG) : sMv D (cT cI cJ cD cS) (cW ad cI cJ cD cS) l yX3_addWin (ws1 yX3_addWin cX3_addWin 5 none) ({ frames := 2, cells := 0, slots := 0, locals := 40 }) [.ref (ad 12), .int a0, .int a1] (G, E, Dd, P, L, pf) (newG, E, Dd, P, L, pf) := by
  unfold C_LE_addWin_12 at hf
  refine sMv_of (by decide) (Nat.le_of_ble_eq_true rfl) ?_
  intro p e R s m args below meth c A Q ls H lo F hRf hRl I hl ret
  obtain ⟨hx, hb, hml, hown, hG⟩ := id F
  replace hl : lv_has ls 5 [(0, .ref (ad 12)), (1, .int a0), (2, .int a1)] := hl
  refine lv_iload_n hx hb dX3_addWin_0 rfl (lv_at hl 1 rfl) ?_
  obtain ⟨r1, h2⟩ : ∃ z, z = C_CO_answerOf a0 := ⟨_, rfl⟩
  replace hf := nm_some h2 hf
  refine s_callSi (As := [.int a0]) (rest := []) F I (cC_CO_answerOf G E Dd P L pf a0 r1 h2) kX3_41 ⟨rfl, rfl⟩ ⟨Nat.le_trans (Nat.le_of_ble_eq_true rfl) hRf, Nat.le_trans (Nat.le_of_ble_eq_true rfl) hRl⟩ rfl rfl hl.1 (Nat.le_of_ble_eq_true rfl) ⟨Nat.zero_le _, Nat.zero_le _⟩ dX3_addWin_1 ?_
  intro H_3 lo_3 I_3
  refine lv_if_eq (tgt := 48) hx hb dX3_addWin_4 (by decide) (fun c26 => ?_) (fun c26 => ?_)
  · replace hf := (if_pos c26).symm.trans hf
    cases hf
    exact ret H_3 lo_3 _ ls I_3 dX3_addWin_48
  · replace hf := (if_neg c26).symm.trans hf
    refine lv_iload_n hx hb dX3_addWin_7 rfl (lv_at hl 1 rfl) ?_
    obtain ⟨r4, h5, hf⟩ := bd_some hf
    refine s_callSi (As := [.int a0]) (rest := []) F I_3 (cC_CO_winnerOf G E Dd P L pf a0 r4 h5) kX3_44 ⟨rfl, rfl⟩ ⟨Nat.le_trans (Nat.le_of_ble_eq_true rfl) hRf, Nat.le_trans (Nat.le_of_ble_eq_true rfl) hRl⟩ rfl rfl hl.1 (Nat.le_of_ble_eq_true rfl) ⟨Nat.zero_le _, Nat.zero_le _⟩ dX3_addWin_8 ?_
    intro H_6 lo_6 I_6
    refine lv_istore_n (lv' := [(3, .int r4), (0, .ref (ad 12)), (1, .int a0), (2, .int a1)]) hx hb dX3_addWin_11 rfl hl (by decide) rfl (fun ls_7 hl_7 => ?_)
    refine lv_iload_n hx hb dX3_addWin_12 rfl (lv_at hl_7 2 rfl) ?_
    obtain ⟨r8, h9, hf⟩ := bd_some hf
    refine s_callSi (As := [.int a0]) (rest := []) F I_6 (cC_CO_loserOf G E Dd P L pf a0 r8 h9) kX3_47 ⟨rfl, rfl⟩ ⟨Nat.le_trans (Nat.le_of_ble_eq_true rfl) hRf, Nat.le_trans (Nat.le_of_ble_eq_true rfl) hRl⟩ rfl rfl hl_7.1 (Nat.le_of_ble_eq_true rfl) ⟨Nat.zero_le _, Nat.zero_le _⟩ dX3_addWin_13 ?_
    intro H_10 lo_10 I_10
    refine lv_istore (lv' := [(4, .int r8), (3, .int r4), (0, .ref (ad 12)), (1, .int a0), (2, .int a1)]) hx hb dX3_addWin_16 hl_7 (by decide) rfl (fun ls_11 hl_11 => ?_)
    refine lv_aload_n hx hb dX3_addWin_18 rfl (lv_at hl_11 2 rfl) ?_
    refine kgtX3_9_12 F I_10 dX3_addWin_19 ?_
    refine lv_iload_n hx hb dX3_addWin_22 rfl (lv_at hl_11 1 rfl) ?_
    refine lv_iload hx hb dX3_addWin_23 (lv_at hl_11 0 rfl) ?_
    obtain ⟨r12, h13⟩ : ∃ z, z = C_LT_cell r4 r8 := ⟨_, rfl⟩
    replace hf := nm_some h13 hf
    refine s_callSNi (As := [.int r4, .int r8]) (rest := [.ref (ad 13)]) F I_10 (cC_LT_cell G E Dd P L pf r4 r8 r12 h13) kX3_50 ⟨rfl, rfl⟩ ⟨Nat.le_trans (Nat.le_of_ble_eq_true rfl) hRf, Nat.le_trans (Nat.le_of_ble_eq_true rfl) hRl⟩ rfl rfl hl_11.1 (Nat.le_of_ble_eq_true rfl) ⟨Nat.zero_le _, Nat.zero_le _⟩ dX3_addWin_25 ?_
    intro H_14 lo_14 I_14
    refine lv_dup2_11 hx hb dX3_addWin_28 rfl rfl ?_
    obtain ⟨g15, hf⟩ := ri_some hf
    refine kal13 F I_14 g15 dX3_addWin_29 ?_
    refine lv_iload_n hx hb dX3_addWin_30 rfl (lv_at hl_11 4 rfl) ?_
    refine lv_iadd hx hb dX3_addWin_31 ?_
    obtain ⟨g16, hf⟩ := ri_some hf
    refine kas13 F I_14 g16 dX3_addWin_32 ?_
    intro H_18 lo_18 G17 eG17 I_18
    replace hf := nm_some eG17 hf
    refine lv_aload_n hx hb dX3_addWin_33 rfl (lv_at hl_11 2 rfl) ?_
    refine kgtX3_9_12 F I_18 dX3_addWin_34 ?_
    refine lv_iload hx hb dX3_addWin_37 (lv_at hl_11 0 rfl) ?_
    refine lv_iload_n hx hb dX3_addWin_39 rfl (lv_at hl_11 1 rfl) ?_
    obtain ⟨r19, h20⟩ : ∃ z, z = C_LT_cell r8 r4 := ⟨_, rfl⟩
    replace hf := nm_some h20 hf
    refine s_callSNi (As := [.int r8, .int r4]) (rest := [.ref (ad 13)]) F I_18 (cC_LT_cell G17 E Dd P L pf r8 r4 r19 h20) kX3_50 ⟨rfl, rfl⟩ ⟨Nat.le_trans (Nat.le_of_ble_eq_true rfl) hRf, Nat.le_trans (Nat.le_of_ble_eq_true rfl) hRl⟩ rfl rfl hl_11.1 (Nat.le_of_ble_eq_true rfl) ⟨Nat.zero_le _, Nat.zero_le _⟩ dX3_addWin_40 ?_
    intro H_21 lo_21 I_21
    refine lv_dup2_11 hx hb dX3_addWin_43 rfl rfl ?_
    obtain ⟨g22, hf⟩ := ri_some hf
    refine kal13 F I_21 g22 dX3_addWin_44 ?_
    refine lv_iload_n hx hb dX3_addWin_45 rfl (lv_at hl_11 4 rfl) ?_
    refine lv_isub hx hb dX3_addWin_46 ?_
    obtain ⟨g23, hf⟩ := ri_some hf
    refine kas13 F I_21 g23 dX3_addWin_47 ?_
    intro H_25 lo_25 G24 eG24 I_25
    replace hf := nm_some eG24 hf
    cases hf
    exact ret H_25 lo_25 _ ls_11 I_25 dX3_addWin_48
def C_LE_takeListener_12_s1 (a1 : Int32) (x5 : Int32) (G6 : Nat → Nat → Int32) : Option ((Int32 × (Nat → Nat → Int32)) ⊕ ((Nat → Nat → Int32))) :=
if G6 5 0 ≤ x5 then
(some (.inr G6))
else
(bd (C_CO_at G6 x5) fun r14 =>
nm (C_CO_listenerOf r14) fun r18 =>
bd (if r18 = a1 then
(bd (C_LE_addWin_12 G6 r14 (1 : Int32)) fun G29 =>
some G29)
else
(some G6)) fun G22 =>
nm (x5 + (1 : Int32) : Int32) fun x26 =>
some (.inl (x26, G22)))
def C_LE_takeListener_12 (G : Nat → Nat → Int32) (a1 : Int32) : Option ((Nat → Nat → Int32)) :=
bd (C_LE_clearAll_12 G) fun G1 =>
bd (lp (fun q => C_LE_takeListener_12_s1 a1 q.1 q.2) FU ((0 : Int32), G1)) fun G7 =>
some G7
set_option maxRecDepth 100000 in
set_option maxHeartbeats 4000000 in
theorem cC_LE_takeListener_12 (G : Nat → Nat → Int32) (E : Nat → Nat → Int64) (Dd : Nat → Nat → UInt64) (P : Nat → Option Nat) (L : List Nat) (pf : Nat → va_E) (a1 : Int32)  (newG : Nat → Nat → Int32) (hf : C_LE_takeListener_12 G a1 = some newG) : sMv D (cT cI cJ cD cS) (cW ad cI cJ cD cS) l yX3_takeListener (ws1 yX3_takeListener cX3_takeListener 5 none) ({ frames := 3, cells := 0, slots := 0, locals := 64 }) [.ref (ad 12), .ref (ad 2), .int a1] (G, E, Dd, P, L, pf) (newG, E, Dd, P, L, pf) := by
  unfold C_LE_takeListener_12 at hf
  refine sMv_of (by decide) (Nat.le_of_ble_eq_true rfl) ?_
  intro p e R s m args below meth c A Q ls H lo F hRf hRl I hl ret
  obtain ⟨hx, hb, hml, hown, hG⟩ := id F
  replace hl : lv_has ls 5 [(0, .ref (ad 12)), (1, .ref (ad 2)), (2, .int a1)] := hl
  refine lv_aload_n hx hb dX3_takeListener_0 rfl (lv_at hl 0 rfl) ?_
  obtain ⟨G1, h2, hf⟩ := bd_some hf
  refine s_callVv (As := []) (rest := []) F I (cC_LE_clearAll_12 G E Dd P L pf G1 h2) kX3_21 ⟨rfl, rfl⟩ ⟨Nat.le_trans (Nat.le_of_ble_eq_true rfl) hRf, Nat.le_trans (Nat.le_of_ble_eq_true rfl) hRl⟩ 12 3 rfl rfl rfl rfl rfl hl.1 (Nat.le_of_ble_eq_true rfl) ⟨Nat.zero_le _, Nat.zero_le _⟩ dX3_takeListener_1 ?_
  intro H_3 lo_3 I_3
  refine lv_iconst (v := (0 : Int32)) hx hb dX3_takeListener_4 (by decide) ?_
  refine lv_istore_n (lv' := [(3, .int (0 : Int32)), (0, .ref (ad 12)), (1, .ref (ad 2)), (2, .int a1)]) hx hb dX3_takeListener_5 rfl hl (by decide) rfl (fun ls_4 hl_4 => ?_)
  obtain ⟨G7, hq1, hf⟩ := bd_some hf
  have K1 : ∀ (H : Heap) (locs : List Loc), sInv D (cT cI cJ cD cS) (cW ad cI cJ cD cS) A s H locs (G7, E, Dd, P, L, pf) → ∀ (ls : Array Slot), lv_has ls 5 [] → W p l e R s m args below meth c H locs 0 0 Q (F0 m 43 ls []) := by
    intro H_8 lo_8 I_8 ls_9 hl_9
    cases hf
    exact ret H_8 lo_8 _ ls_9 I_8 dX3_takeListener_43
  have L1 : ∀ (n : Nat) (x5 : Int32) (G6 : Nat → Nat → Int32), lp (fun q => C_LE_takeListener_12_s1 a1 q.1 q.2) n (x5, G6) = some G7 → ∀ (H : Heap) (locs : List Loc), sInv D (cT cI cJ cD cS) (cW ad cI cJ cD cS) A s H locs (G6, E, Dd, P, L, pf) → ∀ (ls : Array Slot), lv_has ls 5 [(0, .ref (ad 12)), (1, .ref (ad 2)), (2, .int a1), (3, .int x5)] → W p l e R s m args below meth c H locs 0 0 Q (F0 m 6 ls []) := by
    intro n
    induction n with
    | zero => intro x5 G6 hq; exact (lp_0 hq).elim
    | succ n ih1 =>
      intro x5 G6 hq H_11 lo_11 I_11 ls_12 hl_12
      obtain ⟨y1, hf, hK1⟩ := lp_go hq
      replace hf : C_LE_takeListener_12_s1 a1 x5 G6 = some y1 := hf
      unfold C_LE_takeListener_12_s1 at hf
      refine lv_iload_n hx hb dX3_takeListener_6 rfl (lv_at hl_12 3 rfl) ?_
      refine lv_aload_n hx hb dX3_takeListener_7 rfl (lv_at hl_12 1 rfl) ?_
      refine kgtX3_24_2 F I_11 dX3_takeListener_8 ?_
      refine lv_icmp_ge (tgt := 43) hx hb dX3_takeListener_11 (by decide) (fun c33 => ?_) (fun c33 => ?_)
      · replace hf := (if_pos c33).symm.trans hf
        cases hf
        cases (show G6 = G7 from hK1)
        exact K1 H_11 lo_11 I_11 ls_12 (lv_sub hl_12 [] rfl)
      · replace hf := (if_neg c33).symm.trans hf
        refine lv_aload_n hx hb dX3_takeListener_14 rfl (lv_at hl_12 1 rfl) ?_
        refine lv_iload_n hx hb dX3_takeListener_15 rfl (lv_at hl_12 3 rfl) ?_
        obtain ⟨r14, h15, hf⟩ := bd_some hf
        refine s_callVi (As := [.int x5]) (rest := []) F I_11 (cC_CO_at G6 E Dd P L pf x5 r14 h15) kX3_30 ⟨rfl, rfl⟩ ⟨Nat.le_trans (Nat.le_of_ble_eq_true rfl) hRf, Nat.le_trans (Nat.le_of_ble_eq_true rfl) hRl⟩ 2 1 rfl rfl rfl rfl rfl hl_12.1 (Nat.le_of_ble_eq_true rfl) ⟨Nat.zero_le _, Nat.zero_le _⟩ dX3_takeListener_16 ?_
        intro H_16 lo_16 I_16
        refine lv_istore (lv' := [(4, .int r14), (0, .ref (ad 12)), (1, .ref (ad 2)), (2, .int a1), (3, .int x5)]) hx hb dX3_takeListener_19 hl_12 (by decide) rfl (fun ls_17 hl_17 => ?_)
        refine lv_iload hx hb dX3_takeListener_21 (lv_at hl_17 0 rfl) ?_
        obtain ⟨r18, h19⟩ : ∃ z, z = C_CO_listenerOf r14 := ⟨_, rfl⟩
        replace hf := nm_some h19 hf
        refine s_callSi (As := [.int r14]) (rest := []) F I_16 (cC_CO_listenerOf G6 E Dd P L pf r14 r18 h19) kX3_34 ⟨rfl, rfl⟩ ⟨Nat.le_trans (Nat.le_of_ble_eq_true rfl) hRf, Nat.le_trans (Nat.le_of_ble_eq_true rfl) hRl⟩ rfl rfl hl_17.1 (Nat.le_of_ble_eq_true rfl) ⟨Nat.zero_le _, Nat.zero_le _⟩ dX3_takeListener_23 ?_
        intro H_20 lo_20 I_20
        refine lv_iload_n hx hb dX3_takeListener_26 rfl (lv_at hl_17 3 rfl) ?_
        obtain ⟨G22, hv28, hf⟩ := bd_some hf
        have J21 : ∀ (H : Heap) (locs : List Loc), sInv D (cT cI cJ cD cS) (cW ad cI cJ cD cS) A s H locs (G22, E, Dd, P, L, pf) → ∀ (ls : Array Slot), lv_has ls 5 [(0, .ref (ad 12)), (1, .ref (ad 2)), (2, .int a1), (3, .int x5)] → W p l e R s m args below meth c H locs 0 0 Q (F0 m 37 ls []) := by
          intro H_23 lo_23 I_23 ls_24 hl_24
          obtain ⟨x26, ex26⟩ : ∃ y : Int32, y = x5 + (1 : Int32) := ⟨_, rfl⟩
          replace hf := nm_some ex26 hf
          refine lv_iinc (v := x26) (lv' := [(3, .int x26), (0, .ref (ad 12)), (1, .ref (ad 2)), (2, .int a1)]) hx hb dX3_takeListener_37 hl_24 (k := 3) rfl (by rw [ex26]; rfl) (by decide) rfl (fun ls_27 hl_27 => ?_)
          refine lv_goto (tgt := 6) hx hb dX3_takeListener_40 (by decide) ?_
          cases hf
          exact ih1 _ _ hK1 H_23 lo_23 I_23 ls_27 (lv_sub hl_27 [1, 2, 3, 0] rfl)
        replace hf := hv28
        refine lv_icmp_ne (tgt := 37) hx hb dX3_takeListener_27 (by decide) (fun c32 => ?_) (fun c32 => ?_)
        · replace hf := (if_neg c32).symm.trans hf
          cases hf
          exact J21 H_20 lo_20 I_20 ls_17 (lv_sub hl_17 [1, 2, 3, 4] rfl)
        · replace hf := (if_pos c32).symm.trans hf
          refine lv_aload_n hx hb dX3_takeListener_30 rfl (lv_at hl_17 1 rfl) ?_
          refine lv_iload hx hb dX3_takeListener_31 (lv_at hl_17 0 rfl) ?_
          refine lv_iconst (v := (1 : Int32)) hx hb dX3_takeListener_33 (by decide) ?_
          obtain ⟨G29, h30, hf⟩ := bd_some hf
          refine s_callVv (As := [.int r14, .int (1 : Int32)]) (rest := []) F I_20 (cC_LE_addWin_12 G6 E Dd P L pf r14 (1 : Int32) G29 h30) kX3_37 ⟨rfl, rfl⟩ ⟨Nat.le_trans (Nat.le_of_ble_eq_true rfl) hRf, Nat.le_trans (Nat.le_of_ble_eq_true rfl) hRl⟩ 12 3 rfl rfl rfl rfl rfl hl_17.1 (Nat.le_of_ble_eq_true rfl) ⟨Nat.zero_le _, Nat.zero_le _⟩ dX3_takeListener_34 ?_
          intro H_31 lo_31 I_31
          cases hf
          exact J21 H_31 lo_31 I_31 ls_17 (lv_sub hl_17 [1, 2, 3, 4] rfl)
  exact L1 FU _ _ hq1 H_3 lo_3 I_3 ls_4 (lv_sub hl_4 [1, 2, 3, 0] rfl)
def C_LE_isAhead_12 (G : Nat → Nat → Int32) (a0 : Int32) (a1 : Int32) : Option (Int32) :=
nm (C_LT_cell a0 a1) fun r1 =>
ri 64 r1 <|
if G 18 r1.toNatClampNeg ≤ 0 then
(some (0 : Int32))
else
(some (1 : Int32))
set_option maxRecDepth 100000 in
set_option maxHeartbeats 4000000 in
theorem cC_LE_isAhead_12 (G : Nat → Nat → Int32) (E : Nat → Nat → Int64) (Dd : Nat → Nat → UInt64) (P : Nat → Option Nat) (L : List Nat) (pf : Nat → va_E) (a0 : Int32) (a1 : Int32) (rv : Int32)  (hf : C_LE_isAhead_12 G a0 a1 = some rv) : sMi D (cT cI cJ cD cS) (cW ad cI cJ cD cS) l yX3_isAhead (ws1 yX3_isAhead cX3_isAhead 3 (some .boolean)) ({ frames := 1, cells := 0, slots := 0, locals := 21 }) [.ref (ad 12), .int a0, .int a1] (G, E, Dd, P, L, pf) (rv, (G, E, Dd, P, L, pf)) := by
  unfold C_LE_isAhead_12 at hf
  refine sMz_of (by decide) (Nat.le_of_ble_eq_true rfl) ?_
  intro p e R s m args below meth c A Q ls H lo F hRf hRl I hl ret
  obtain ⟨hx, hb, hml, hown, hG⟩ := id F
  replace hl : lv_has ls 3 [(0, .ref (ad 12)), (1, .int a0), (2, .int a1)] := hl
  refine lv_aload_n hx hb dX3_isAhead_0 rfl (lv_at hl 0 rfl) ?_
  refine kgtX3_9_12 F I dX3_isAhead_1 ?_
  refine lv_iload_n hx hb dX3_isAhead_4 rfl (lv_at hl 1 rfl) ?_
  refine lv_iload_n hx hb dX3_isAhead_5 rfl (lv_at hl 2 rfl) ?_
  obtain ⟨r1, h2⟩ : ∃ z, z = C_LT_cell a0 a1 := ⟨_, rfl⟩
  replace hf := nm_some h2 hf
  refine s_callSNi (As := [.int a0, .int a1]) (rest := [.ref (ad 13)]) F I (cC_LT_cell G E Dd P L pf a0 a1 r1 h2) kX3_50 ⟨rfl, rfl⟩ ⟨Nat.le_trans (Nat.le_of_ble_eq_true rfl) hRf, Nat.le_trans (Nat.le_of_ble_eq_true rfl) hRl⟩ rfl rfl hl.1 (Nat.le_of_ble_eq_true rfl) ⟨Nat.zero_le _, Nat.zero_le _⟩ dX3_isAhead_6 ?_
  intro H_3 lo_3 I_3
  obtain ⟨g4, hf⟩ := ri_some hf
  refine kal13 F I_3 g4 dX3_isAhead_9 ?_
  refine lv_if_le (tgt := 17) hx hb dX3_isAhead_10 (by decide) (fun c5 => ?_) (fun c5 => ?_)
  · replace hf := (if_pos c5).symm.trans hf
    refine lv_iconst (v := (0 : Int32)) hx hb dX3_isAhead_17 (by decide) ?_
    cases hf
    exact ret H_3 lo_3 _ ls I_3 (Or.inl rfl) dX3_isAhead_18
  · replace hf := (if_neg c5).symm.trans hf
    refine lv_iconst (v := (1 : Int32)) hx hb dX3_isAhead_13 (by decide) ?_
    refine lv_goto (tgt := 18) hx hb dX3_isAhead_14 (by decide) ?_
    cases hf
    exact ret H_3 lo_3 _ ls I_3 (Or.inr rfl) dX3_isAhead_18
def C_LT_preferring_s1 (a0 : Int32) (a1 : Int32) (x3 : Int32) (x4 : Int32) (G5 : Nat → Nat → Int32) : Option ((Int32 × Int32 × (Nat → Nat → Int32)) ⊕ (Int32 × (Nat → Nat → Int32))) :=
if G5 1 0 ≤ x4 then
(some (.inr (x3, G5)))
else
(bd (C_LE_takeListener_12 G5 x4) fun G14 =>
bd (C_LE_isAhead_12 G14 a0 a1) fun r17 =>
bd (if r17 = 0 then
(some x3)
else
(nm (x3 + (1 : Int32) : Int32) fun x28 =>
some x28)) fun x21 =>
nm (x4 + (1 : Int32) : Int32) fun x25 =>
some (.inl (x21, x25, G14)))
def C_LT_preferring (G : Nat → Nat → Int32) (a0 : Int32) (a1 : Int32) : Option (Int32 × (Nat → Nat → Int32)) :=
bd2 (lp (fun q => C_LT_preferring_s1 a0 a1 q.1 q.2.1 q.2.2) FU ((0 : Int32), (0 : Int32), G)) fun x6 G7 =>
some (x6, G7)
set_option maxRecDepth 100000 in
set_option maxHeartbeats 4000000 in
theorem cC_LT_preferring (G : Nat → Nat → Int32) (E : Nat → Nat → Int64) (Dd : Nat → Nat → UInt64) (P : Nat → Option Nat) (L : List Nat) (pf : Nat → va_E) (a0 : Int32) (a1 : Int32) (rv : Int32) (newG : Nat → Nat → Int32) (hf : C_LT_preferring G a0 a1 = some (rv, newG)) : sMi D (cT cI cJ cD cS) (cW ad cI cJ cD cS) l yX11_preferring (ws1 yX11_preferring cX11_preferring 5 (some .int)) ({ frames := 4, cells := 0, slots := 0, locals := 88 }) [.ref (ad 0), .int a0, .int a1] (G, E, Dd, P, L, pf) (rv, (newG, E, Dd, P, L, pf)) := by
  unfold C_LT_preferring at hf
  refine sMi_of (by decide) (Nat.le_of_ble_eq_true rfl) ?_
  intro p e R s m args below meth c A Q ls H lo F hRf hRl I hl ret
  obtain ⟨hx, hb, hml, hown, hG⟩ := id F
  replace hl : lv_has ls 5 [(0, .ref (ad 0)), (1, .int a0), (2, .int a1)] := hl
  refine lv_iconst (v := (0 : Int32)) hx hb dX11_preferring_0 (by decide) ?_
  refine lv_istore_n (lv' := [(3, .int (0 : Int32)), (0, .ref (ad 0)), (1, .int a0), (2, .int a1)]) hx hb dX11_preferring_1 rfl hl (by decide) rfl (fun ls_1 hl_1 => ?_)
  refine lv_iconst (v := (0 : Int32)) hx hb dX11_preferring_2 (by decide) ?_
  refine lv_istore (lv' := [(4, .int (0 : Int32)), (3, .int (0 : Int32)), (0, .ref (ad 0)), (1, .int a0), (2, .int a1)]) hx hb dX11_preferring_3 hl_1 (by decide) rfl (fun ls_2 hl_2 => ?_)
  obtain ⟨x6, G7, hq1, hf⟩ := bd2_some hf
  have K1 : ∀ (H : Heap) (locs : List Loc), sInv D (cT cI cJ cD cS) (cW ad cI cJ cD cS) A s H locs (G7, E, Dd, P, L, pf) → ∀ (ls : Array Slot), lv_has ls 5 [(3, .int x6)] → W p l e R s m args below meth c H locs 0 0 Q (F0 m 48 ls []) := by
    intro H_8 lo_8 I_8 ls_9 hl_9
    refine lv_iload_n hx hb dX11_preferring_48 rfl (lv_at hl_9 0 rfl) ?_
    cases hf
    exact ret H_8 lo_8 _ ls_9 I_8 dX11_preferring_49
  have L1 : ∀ (n : Nat) (x3 : Int32) (x4 : Int32) (G5 : Nat → Nat → Int32), lp (fun q => C_LT_preferring_s1 a0 a1 q.1 q.2.1 q.2.2) n (x3, x4, G5) = some (x6, G7) → ∀ (H : Heap) (locs : List Loc), sInv D (cT cI cJ cD cS) (cW ad cI cJ cD cS) A s H locs (G5, E, Dd, P, L, pf) → ∀ (ls : Array Slot), lv_has ls 5 [(0, .ref (ad 0)), (1, .int a0), (2, .int a1), (3, .int x3), (4, .int x4)] → W p l e R s m args below meth c H locs 0 0 Q (F0 m 5 ls []) := by
    intro n
    induction n with
    | zero => intro x3 x4 G5 hq; exact (lp_0 hq).elim
    | succ n ih1 =>
      intro x3 x4 G5 hq H_11 lo_11 I_11 ls_12 hl_12
      obtain ⟨y1, hf, hK1⟩ := lp_go hq
      replace hf : C_LT_preferring_s1 a0 a1 x3 x4 G5 = some y1 := hf
      unfold C_LT_preferring_s1 at hf
      refine lv_iload hx hb dX11_preferring_5 (lv_at hl_12 4 rfl) ?_
      refine lv_aload_n hx hb dX11_preferring_7 rfl (lv_at hl_12 0 rfl) ?_
      refine kgtX11_80_0 F I_11 dX11_preferring_8 ?_
      refine lv_icmp_ge (tgt := 48) hx hb dX11_preferring_11 (by decide) (fun c31 => ?_) (fun c31 => ?_)
      · replace hf := (if_pos c31).symm.trans hf
        cases hf
        cases (show (x3, G5) = (x6, G7) from hK1)
        exact K1 H_11 lo_11 I_11 ls_12 (lv_sub hl_12 [3] rfl)
      · replace hf := (if_neg c31).symm.trans hf
        refine lv_aload_n hx hb dX11_preferring_14 rfl (lv_at hl_12 0 rfl) ?_
        refine kgtX11_44_0 F I_11 dX11_preferring_15 ?_
        refine lv_aload_n hx hb dX11_preferring_18 rfl (lv_at hl_12 0 rfl) ?_
        refine kgtX11_16_0 F I_11 dX11_preferring_19 ?_
        refine lv_iload hx hb dX11_preferring_22 (lv_at hl_12 4 rfl) ?_
        obtain ⟨G14, h15, hf⟩ := bd_some hf
        refine s_callVv (As := [.ref (ad 2), .int x4]) (rest := []) F I_11 (cC_LE_takeListener_12 G5 E Dd P L pf x4 G14 h15) kX11_233 ⟨rfl, rfl⟩ ⟨Nat.le_trans (Nat.le_of_ble_eq_true rfl) hRf, Nat.le_trans (Nat.le_of_ble_eq_true rfl) hRl⟩ 12 3 rfl rfl rfl rfl rfl hl_12.1 (Nat.le_of_ble_eq_true rfl) ⟨Nat.zero_le _, Nat.zero_le _⟩ dX11_preferring_24 ?_
        intro H_16 lo_16 I_16
        refine lv_aload_n hx hb dX11_preferring_27 rfl (lv_at hl_12 0 rfl) ?_
        refine kgtX11_44_0 F I_16 dX11_preferring_28 ?_
        refine lv_iload_n hx hb dX11_preferring_31 rfl (lv_at hl_12 1 rfl) ?_
        refine lv_iload_n hx hb dX11_preferring_32 rfl (lv_at hl_12 2 rfl) ?_
        obtain ⟨r17, h18, hf⟩ := bd_some hf
        refine s_callVi (As := [.int a0, .int a1]) (rest := []) F I_16 (cC_LE_isAhead_12 G14 E Dd P L pf a0 a1 r17 h18) kX11_326 ⟨rfl, rfl⟩ ⟨Nat.le_trans (Nat.le_of_ble_eq_true rfl) hRf, Nat.le_trans (Nat.le_of_ble_eq_true rfl) hRl⟩ 12 3 rfl rfl rfl rfl rfl hl_12.1 (Nat.le_of_ble_eq_true rfl) ⟨Nat.zero_le _, Nat.zero_le _⟩ dX11_preferring_33 ?_
        intro H_19 lo_19 I_19
        obtain ⟨x21, hv27, hf⟩ := bd_some hf
        have J20 : ∀ (H : Heap) (locs : List Loc), sInv D (cT cI cJ cD cS) (cW ad cI cJ cD cS) A s H locs (G14, E, Dd, P, L, pf) → ∀ (ls : Array Slot), lv_has ls 5 [(0, .ref (ad 0)), (1, .int a0), (2, .int a1), (3, .int x21), (4, .int x4)] → W p l e R s m args below meth c H locs 0 0 Q (F0 m 42 ls []) := by
          intro H_22 lo_22 I_22 ls_23 hl_23
          obtain ⟨x25, ex25⟩ : ∃ y : Int32, y = x4 + (1 : Int32) := ⟨_, rfl⟩
          replace hf := nm_some ex25 hf
          refine lv_iinc (v := x25) (lv' := [(4, .int x25), (0, .ref (ad 0)), (1, .int a0), (2, .int a1), (3, .int x21)]) hx hb dX11_preferring_42 hl_23 (k := 4) rfl (by rw [ex25]; rfl) (by decide) rfl (fun ls_26 hl_26 => ?_)
          refine lv_goto (tgt := 5) hx hb dX11_preferring_45 (by decide) ?_
          cases hf
          exact ih1 _ _ _ hK1 H_22 lo_22 I_22 ls_26 (lv_sub hl_26 [1, 2, 3, 4, 0] rfl)
        replace hf := hv27
        refine lv_if_eq (tgt := 42) hx hb dX11_preferring_36 (by decide) (fun c30 => ?_) (fun c30 => ?_)
        · replace hf := (if_pos c30).symm.trans hf
          cases hf
          exact J20 H_19 lo_19 I_19 ls_12 (lv_sub hl_12 [0, 1, 2, 3, 4] rfl)
        · replace hf := (if_neg c30).symm.trans hf
          obtain ⟨x28, ex28⟩ : ∃ y : Int32, y = x3 + (1 : Int32) := ⟨_, rfl⟩
          replace hf := nm_some ex28 hf
          refine lv_iinc (v := x28) (lv' := [(3, .int x28), (0, .ref (ad 0)), (1, .int a0), (2, .int a1), (4, .int x4)]) hx hb dX11_preferring_39 hl_12 (k := 3) rfl (by rw [ex28]; rfl) (by decide) rfl (fun ls_29 hl_29 => ?_)
          cases hf
          exact J20 H_19 lo_19 I_19 ls_29 (lv_sub hl_29 [1, 2, 3, 0, 4] rfl)
  exact L1 FU _ _ _ hq1 H lo I ls_2 (lv_sub hl_2 [2, 3, 4, 1, 0] rfl)
def C_LT_result (G : Nat → Nat → Int32) (a0 : Int32) (a1 : Int32) (a2 : Int32) : Option (Int32 × (Nat → Nat → Int32)) :=
bd0 (C_LT_requireIndex a0 (G 0 0)) <|
bd0 (C_LT_requireIndex a1 (G 0 0)) <|
bd (if a2 < 0 then
(some (0 : Int32))
else
(if (3 : Int32) < a2 then
(some (0 : Int32))
else
(some (1 : Int32)))) fun x6 =>
bd0 (C_LT_requireArgument x6) <|
if a2 = (3 : Int32) then
(bd2 (C_LT_preferring G a0 a1) fun r29 G30 =>
some (r29, G30))
else
(if a2 = (2 : Int32) then
(bd (C_LT_weigh G (-1 : Int32)) fun G22 =>
bd (C_LE_lead_22 G22 a0 a1) fun r25 =>
some (r25, G22))
else
(bd (C_TA_take G) fun G12 =>
if a2 = 0 then
(bd (C_TA_winsOf G12 a0 a1) fun r18 =>
some (r18, G12))
else
(bd (C_TA_tiesOf G12 a0 a1) fun r15 =>
some (r15, G12))))
set_option maxRecDepth 100000 in
set_option maxHeartbeats 4000000 in
theorem cC_LT_result (G : Nat → Nat → Int32) (E : Nat → Nat → Int64) (Dd : Nat → Nat → UInt64) (P : Nat → Option Nat) (L : List Nat) (pf : Nat → va_E) (a0 : Int32) (a1 : Int32) (a2 : Int32) (rv : Int32) (newG : Nat → Nat → Int32) (hf : C_LT_result G a0 a1 a2 = some (rv, newG)) : sMi D (cT cI cJ cD cS) (cW ad cI cJ cD cS) l yX11_result (ws1 yX11_result cX11_result 4 (some .int)) ({ frames := 5, cells := 0, slots := 0, locals := 112 }) [.ref (ad 0), .int a0, .int a1, .int a2] (G, E, Dd, P, L, pf) (rv, (newG, E, Dd, P, L, pf)) := by
  unfold C_LT_result at hf
  refine sMi_of (by decide) (Nat.le_of_ble_eq_true rfl) ?_
  intro p e R s m args below meth c A Q ls H lo F hRf hRl I hl ret
  obtain ⟨hx, hb, hml, hown, hG⟩ := id F
  replace hl : lv_has ls 4 [(0, .ref (ad 0)), (1, .int a0), (2, .int a1), (3, .int a2)] := hl
  refine lv_iload_n hx hb dX11_result_0 rfl (lv_at hl 1 rfl) ?_
  refine lv_aload_n hx hb dX11_result_1 rfl (lv_at hl 0 rfl) ?_
  refine kgtX11_89_0 F I dX11_result_2 ?_
  obtain ⟨h1, hf⟩ := bd0_some hf
  refine s_callSv (As := [.int a0, .int (G 0 0)]) (rest := []) F I (cC_LT_requireIndex G E Dd P L pf a0 (G 0 0) h1) kX11_84 ⟨rfl, rfl⟩ ⟨Nat.le_trans (Nat.le_of_ble_eq_true rfl) hRf, Nat.le_trans (Nat.le_of_ble_eq_true rfl) hRl⟩ rfl rfl hl.1 (Nat.le_of_ble_eq_true rfl) ⟨Nat.zero_le _, Nat.zero_le _⟩ dX11_result_5 ?_
  intro H_2 lo_2 I_2
  refine lv_iload_n hx hb dX11_result_8 rfl (lv_at hl 2 rfl) ?_
  refine lv_aload_n hx hb dX11_result_9 rfl (lv_at hl 0 rfl) ?_
  refine kgtX11_89_0 F I_2 dX11_result_10 ?_
  obtain ⟨h3, hf⟩ := bd0_some hf
  refine s_callSv (As := [.int a1, .int (G 0 0)]) (rest := []) F I_2 (cC_LT_requireIndex G E Dd P L pf a1 (G 0 0) h3) kX11_84 ⟨rfl, rfl⟩ ⟨Nat.le_trans (Nat.le_of_ble_eq_true rfl) hRf, Nat.le_trans (Nat.le_of_ble_eq_true rfl) hRl⟩ rfl rfl hl.1 (Nat.le_of_ble_eq_true rfl) ⟨Nat.zero_le _, Nat.zero_le _⟩ dX11_result_13 ?_
  intro H_4 lo_4 I_4
  refine lv_iload_n hx hb dX11_result_16 rfl (lv_at hl 3 rfl) ?_
  obtain ⟨x6, hv34, hf⟩ := bd_some hf
  have J5 : ∀ (H : Heap) (locs : List Loc), sInv D (cT cI cJ cD cS) (cW ad cI cJ cD cS) A s H locs (G, E, Dd, P, L, pf) → ∀ (ls : Array Slot), lv_has ls 4 [(0, .ref (ad 0)), (1, .int a0), (2, .int a1), (3, .int a2)] → W p l e R s m args below meth c H locs 0 0 Q (F0 m 30 ls [.int x6]) := by
    intro H_7 lo_7 I_7 ls_8 hl_8
    obtain ⟨h10, hf⟩ := bd0_some hf
    refine s_callSv (As := [.int x6]) (rest := []) F I_7 (cC_LT_requireArgument G E Dd P L pf x6 h10) kX11_76 ⟨rfl, rfl⟩ ⟨Nat.le_trans (Nat.le_of_ble_eq_true rfl) hRf, Nat.le_trans (Nat.le_of_ble_eq_true rfl) hRl⟩ rfl rfl hl_8.1 (Nat.le_of_ble_eq_true rfl) ⟨Nat.zero_le _, Nat.zero_le _⟩ dX11_result_30 ?_
    intro H_11 lo_11 I_11
    refine lv_iload_n hx hb dX11_result_33 rfl (lv_at hl_8 3 rfl) ?_
    refine lv_iconst (v := (3 : Int32)) hx hb dX11_result_34 (by decide) ?_
    refine lv_icmp_ne (tgt := 45) hx hb dX11_result_35 (by decide) (fun c33 => ?_) (fun c33 => ?_)
    · replace hf := (if_neg c33).symm.trans hf
      refine lv_iload_n hx hb dX11_result_45 rfl (lv_at hl_8 3 rfl) ?_
      refine lv_iconst (v := (2 : Int32)) hx hb dX11_result_46 (by decide) ?_
      refine lv_icmp_ne (tgt := 68) hx hb dX11_result_47 (by decide) (fun c28 => ?_) (fun c28 => ?_)
      · replace hf := (if_neg c28).symm.trans hf
        refine lv_aload_n hx hb dX11_result_68 rfl (lv_at hl_8 0 rfl) ?_
        refine kgtX11_37_0 F I_11 dX11_result_69 ?_
        refine lv_aload_n hx hb dX11_result_72 rfl (lv_at hl_8 0 rfl) ?_
        refine kgtX11_16_0 F I_11 dX11_result_73 ?_
        obtain ⟨G12, h13, hf⟩ := bd_some hf
        refine s_callVv (As := [.ref (ad 2)]) (rest := []) F I_11 (cC_TA_take G E Dd P L pf G12 h13) kX11_211 ⟨rfl, rfl⟩ ⟨Nat.le_trans (Nat.le_of_ble_eq_true rfl) hRf, Nat.le_trans (Nat.le_of_ble_eq_true rfl) hRl⟩ 9 9 rfl rfl rfl rfl rfl hl_8.1 (Nat.le_of_ble_eq_true rfl) ⟨Nat.zero_le _, Nat.zero_le _⟩ dX11_result_76 ?_
        intro H_14 lo_14 I_14
        refine lv_iload_n hx hb dX11_result_79 rfl (lv_at hl_8 3 rfl) ?_
        refine lv_if_ne (tgt := 95) hx hb dX11_result_80 (by decide) (fun c21 => ?_) (fun c21 => ?_)
        · replace hf := (if_neg c21).symm.trans hf
          refine lv_aload_n hx hb dX11_result_95 rfl (lv_at hl_8 0 rfl) ?_
          refine kgtX11_37_0 F I_14 dX11_result_96 ?_
          refine lv_iload_n hx hb dX11_result_99 rfl (lv_at hl_8 1 rfl) ?_
          refine lv_iload_n hx hb dX11_result_100 rfl (lv_at hl_8 2 rfl) ?_
          obtain ⟨r15, h16, hf⟩ := bd_some hf
          refine s_callVi (As := [.int a0, .int a1]) (rest := []) F I_14 (cC_TA_tiesOf G12 E Dd P L pf a0 a1 r15 h16) kX11_217 ⟨rfl, rfl⟩ ⟨Nat.le_trans (Nat.le_of_ble_eq_true rfl) hRf, Nat.le_trans (Nat.le_of_ble_eq_true rfl) hRl⟩ 9 9 rfl rfl rfl rfl rfl hl_8.1 (Nat.le_of_ble_eq_true rfl) ⟨Nat.zero_le _, Nat.zero_le _⟩ dX11_result_101 ?_
          intro H_17 lo_17 I_17
          cases hf
          exact ret H_17 lo_17 _ ls_8 I_17 dX11_result_104
        · replace hf := (if_pos c21).symm.trans hf
          refine lv_aload_n hx hb dX11_result_83 rfl (lv_at hl_8 0 rfl) ?_
          refine kgtX11_37_0 F I_14 dX11_result_84 ?_
          refine lv_iload_n hx hb dX11_result_87 rfl (lv_at hl_8 1 rfl) ?_
          refine lv_iload_n hx hb dX11_result_88 rfl (lv_at hl_8 2 rfl) ?_
          obtain ⟨r18, h19, hf⟩ := bd_some hf
          refine s_callVi (As := [.int a0, .int a1]) (rest := []) F I_14 (cC_TA_winsOf G12 E Dd P L pf a0 a1 r18 h19) kX11_214 ⟨rfl, rfl⟩ ⟨Nat.le_trans (Nat.le_of_ble_eq_true rfl) hRf, Nat.le_trans (Nat.le_of_ble_eq_true rfl) hRl⟩ 9 9 rfl rfl rfl rfl rfl hl_8.1 (Nat.le_of_ble_eq_true rfl) ⟨Nat.zero_le _, Nat.zero_le _⟩ dX11_result_89 ?_
          intro H_20 lo_20 I_20
          refine lv_goto (tgt := 104) hx hb dX11_result_92 (by decide) ?_
          cases hf
          exact ret H_20 lo_20 _ ls_8 I_20 dX11_result_104
      · replace hf := (if_pos c28).symm.trans hf
        refine lv_aload_n hx hb dX11_result_50 rfl (lv_at hl_8 0 rfl) ?_
        refine lv_iconst (v := (-1 : Int32)) hx hb dX11_result_51 (by decide) ?_
        obtain ⟨G22, h23, hf⟩ := bd_some hf
        refine s_callVv (As := [.int (-1 : Int32)]) (rest := []) F I_11 (cC_LT_weigh G E Dd P L pf (-1 : Int32) G22 h23) kX11_202 ⟨rfl, rfl⟩ ⟨Nat.le_trans (Nat.le_of_ble_eq_true rfl) hRf, Nat.le_trans (Nat.le_of_ble_eq_true rfl) hRl⟩ 0 11 rfl rfl rfl rfl rfl hl_8.1 (Nat.le_of_ble_eq_true rfl) ⟨Nat.zero_le _, Nat.zero_le _⟩ dX11_result_52 ?_
        intro H_24 lo_24 I_24
        refine lv_aload_n hx hb dX11_result_55 rfl (lv_at hl_8 0 rfl) ?_
        refine kgtX11_54_0 F I_24 dX11_result_56 ?_
        refine kgtX11_205_16 F I_24 dX11_result_59 ?_
        refine lv_iload_n hx hb dX11_result_62 rfl (lv_at hl_8 1 rfl) ?_
        refine lv_iload_n hx hb dX11_result_63 rfl (lv_at hl_8 2 rfl) ?_
        obtain ⟨r25, h26, hf⟩ := bd_some hf
        refine s_callVi (As := [.int a0, .int a1]) (rest := []) F I_24 (cC_LE_lead_22 G22 E Dd P L pf a0 a1 r25 h26) kX11_208 ⟨rfl, rfl⟩ ⟨Nat.le_trans (Nat.le_of_ble_eq_true rfl) hRf, Nat.le_trans (Nat.le_of_ble_eq_true rfl) hRl⟩ 22 3 rfl rfl rfl rfl rfl hl_8.1 (Nat.le_of_ble_eq_true rfl) ⟨Nat.zero_le _, Nat.zero_le _⟩ dX11_result_64 ?_
        intro H_27 lo_27 I_27
        cases hf
        exact ret H_27 lo_27 _ ls_8 I_27 dX11_result_67
    · replace hf := (if_pos c33).symm.trans hf
      refine lv_aload_n hx hb dX11_result_38 rfl (lv_at hl_8 0 rfl) ?_
      refine lv_iload_n hx hb dX11_result_39 rfl (lv_at hl_8 1 rfl) ?_
      refine lv_iload_n hx hb dX11_result_40 rfl (lv_at hl_8 2 rfl) ?_
      obtain ⟨r29, G30, h31, hf⟩ := bd2_some hf
      refine s_callVi (As := [.int a0, .int a1]) (rest := []) F I_11 (cC_LT_preferring G E Dd P L pf a0 a1 r29 G30 h31) kX11_199 ⟨rfl, rfl⟩ ⟨Nat.le_trans (Nat.le_of_ble_eq_true rfl) hRf, Nat.le_trans (Nat.le_of_ble_eq_true rfl) hRl⟩ 0 11 rfl rfl rfl rfl rfl hl_8.1 (Nat.le_of_ble_eq_true rfl) ⟨Nat.zero_le _, Nat.zero_le _⟩ dX11_result_41 ?_
      intro H_32 lo_32 I_32
      cases hf
      exact ret H_32 lo_32 _ ls_8 I_32 dX11_result_44
  replace hf := hv34
  refine lv_if_lt (tgt := 29) hx hb dX11_result_17 (by decide) (fun c36 => ?_) (fun c36 => ?_)
  · replace hf := (if_pos c36).symm.trans hf
    refine lv_iconst (v := (0 : Int32)) hx hb dX11_result_29 (by decide) ?_
    cases hf
    exact J5 H_4 lo_4 I_4 ls (lv_sub hl [0, 1, 2, 3] rfl)
  · replace hf := (if_neg c36).symm.trans hf
    refine lv_iload_n hx hb dX11_result_20 rfl (lv_at hl 3 rfl) ?_
    refine lv_iconst (v := (3 : Int32)) hx hb dX11_result_21 (by decide) ?_
    refine lv_icmp_gt (tgt := 29) hx hb dX11_result_22 (by decide) (fun c35 => ?_) (fun c35 => ?_)
    · replace hf := (if_pos c35).symm.trans hf
      refine lv_iconst (v := (0 : Int32)) hx hb dX11_result_29 (by decide) ?_
      cases hf
      exact J5 H_4 lo_4 I_4 ls (lv_sub hl [0, 1, 2, 3] rfl)
    · replace hf := (if_neg c35).symm.trans hf
      refine lv_iconst (v := (1 : Int32)) hx hb dX11_result_25 (by decide) ?_
      refine lv_goto (tgt := 30) hx hb dX11_result_26 (by decide) ?_
      cases hf
      exact J5 H_4 lo_4 I_4 ls (lv_sub hl [0, 1, 2, 3] rfl)
def C_LT_sample (G : Nat → Nat → Int32) (a0 : Int32) (a1 : Int32) : Option (Int32 × (Nat → Nat → Int32)) :=
bd0 (C_LT_requireIndex a0 (G 0 0)) <|
bd (if a1 < 0 then
(some (0 : Int32))
else
(if (5 : Int32) < a1 then
(some (0 : Int32))
else
(some (1 : Int32)))) fun x4 =>
bd0 (C_LT_requireArgument x4) <|
bd (C_LT_weigh G (-1 : Int32)) fun G10 =>
bd2 (C_SD_propertyOf G10 a0 a1) fun r13 G14 =>
some (r13, G14)
set_option maxRecDepth 100000 in
set_option maxHeartbeats 4000000 in
theorem cC_LT_sample (G : Nat → Nat → Int32) (E : Nat → Nat → Int64) (Dd : Nat → Nat → UInt64) (P : Nat → Option Nat) (L : List Nat) (pf : Nat → va_E) (a0 : Int32) (a1 : Int32) (rv : Int32) (newG : Nat → Nat → Int32) (hf : C_LT_sample G a0 a1 = some (rv, newG)) : sMi D (cT cI cJ cD cS) (cW ad cI cJ cD cS) l yX11_sample (ws1 yX11_sample cX11_sample 3 (some .int)) ({ frames := 5, cells := 0, slots := 0, locals := 119 }) [.ref (ad 0), .int a0, .int a1] (G, E, Dd, P, L, pf) (rv, (newG, E, Dd, P, L, pf)) := by
  unfold C_LT_sample at hf
  refine sMi_of (by decide) (Nat.le_of_ble_eq_true rfl) ?_
  intro p e R s m args below meth c A Q ls H lo F hRf hRl I hl ret
  obtain ⟨hx, hb, hml, hown, hG⟩ := id F
  replace hl : lv_has ls 3 [(0, .ref (ad 0)), (1, .int a0), (2, .int a1)] := hl
  refine lv_iload_n hx hb dX11_sample_0 rfl (lv_at hl 1 rfl) ?_
  refine lv_aload_n hx hb dX11_sample_1 rfl (lv_at hl 0 rfl) ?_
  refine kgtX11_89_0 F I dX11_sample_2 ?_
  obtain ⟨h1, hf⟩ := bd0_some hf
  refine s_callSv (As := [.int a0, .int (G 0 0)]) (rest := []) F I (cC_LT_requireIndex G E Dd P L pf a0 (G 0 0) h1) kX11_84 ⟨rfl, rfl⟩ ⟨Nat.le_trans (Nat.le_of_ble_eq_true rfl) hRf, Nat.le_trans (Nat.le_of_ble_eq_true rfl) hRl⟩ rfl rfl hl.1 (Nat.le_of_ble_eq_true rfl) ⟨Nat.zero_le _, Nat.zero_le _⟩ dX11_sample_5 ?_
  intro H_2 lo_2 I_2
  refine lv_iload_n hx hb dX11_sample_8 rfl (lv_at hl 2 rfl) ?_
  obtain ⟨x4, hv17, hf⟩ := bd_some hf
  have J3 : ∀ (H : Heap) (locs : List Loc), sInv D (cT cI cJ cD cS) (cW ad cI cJ cD cS) A s H locs (G, E, Dd, P, L, pf) → ∀ (ls : Array Slot), lv_has ls 3 [(0, .ref (ad 0)), (1, .int a0), (2, .int a1)] → W p l e R s m args below meth c H locs 0 0 Q (F0 m 22 ls [.int x4]) := by
    intro H_5 lo_5 I_5 ls_6 hl_6
    obtain ⟨h8, hf⟩ := bd0_some hf
    refine s_callSv (As := [.int x4]) (rest := []) F I_5 (cC_LT_requireArgument G E Dd P L pf x4 h8) kX11_76 ⟨rfl, rfl⟩ ⟨Nat.le_trans (Nat.le_of_ble_eq_true rfl) hRf, Nat.le_trans (Nat.le_of_ble_eq_true rfl) hRl⟩ rfl rfl hl_6.1 (Nat.le_of_ble_eq_true rfl) ⟨Nat.zero_le _, Nat.zero_le _⟩ dX11_sample_22 ?_
    intro H_9 lo_9 I_9
    refine lv_aload_n hx hb dX11_sample_25 rfl (lv_at hl_6 0 rfl) ?_
    refine lv_iconst (v := (-1 : Int32)) hx hb dX11_sample_26 (by decide) ?_
    obtain ⟨G10, h11, hf⟩ := bd_some hf
    refine s_callVv (As := [.int (-1 : Int32)]) (rest := []) F I_9 (cC_LT_weigh G E Dd P L pf (-1 : Int32) G10 h11) kX11_202 ⟨rfl, rfl⟩ ⟨Nat.le_trans (Nat.le_of_ble_eq_true rfl) hRf, Nat.le_trans (Nat.le_of_ble_eq_true rfl) hRl⟩ 0 11 rfl rfl rfl rfl rfl hl_6.1 (Nat.le_of_ble_eq_true rfl) ⟨Nat.zero_le _, Nat.zero_le _⟩ dX11_sample_27 ?_
    intro H_12 lo_12 I_12
    refine lv_aload_n hx hb dX11_sample_30 rfl (lv_at hl_6 0 rfl) ?_
    refine kgtX11_54_0 F I_12 dX11_sample_31 ?_
    refine lv_aload_n hx hb dX11_sample_34 rfl (lv_at hl_6 0 rfl) ?_
    refine kgtX11_16_0 F I_12 dX11_sample_35 ?_
    refine lv_iload_n hx hb dX11_sample_38 rfl (lv_at hl_6 1 rfl) ?_
    refine lv_iload_n hx hb dX11_sample_39 rfl (lv_at hl_6 2 rfl) ?_
    obtain ⟨r13, G14, h15, hf⟩ := bd2_some hf
    refine s_callVi (As := [.ref (ad 2), .int a0, .int a1]) (rest := []) F I_12 (cC_SD_propertyOf G10 E Dd P L pf a0 a1 r13 G14 h15) kX11_220 ⟨rfl, rfl⟩ ⟨Nat.le_trans (Nat.le_of_ble_eq_true rfl) hRf, Nat.le_trans (Nat.le_of_ble_eq_true rfl) hRl⟩ 16 6 rfl rfl rfl rfl rfl hl_6.1 (Nat.le_of_ble_eq_true rfl) ⟨Nat.zero_le _, Nat.zero_le _⟩ dX11_sample_40 ?_
    intro H_16 lo_16 I_16
    cases hf
    exact ret H_16 lo_16 _ ls_6 I_16 dX11_sample_43
  replace hf := hv17
  refine lv_if_lt (tgt := 21) hx hb dX11_sample_9 (by decide) (fun c19 => ?_) (fun c19 => ?_)
  · replace hf := (if_pos c19).symm.trans hf
    refine lv_iconst (v := (0 : Int32)) hx hb dX11_sample_21 (by decide) ?_
    cases hf
    exact J3 H_2 lo_2 I_2 ls (lv_sub hl [0, 1, 2] rfl)
  · replace hf := (if_neg c19).symm.trans hf
    refine lv_iload_n hx hb dX11_sample_12 rfl (lv_at hl 2 rfl) ?_
    refine lv_iconst (v := (5 : Int32)) hx hb dX11_sample_13 (by decide) ?_
    refine lv_icmp_gt (tgt := 21) hx hb dX11_sample_14 (by decide) (fun c18 => ?_) (fun c18 => ?_)
    · replace hf := (if_pos c18).symm.trans hf
      refine lv_iconst (v := (0 : Int32)) hx hb dX11_sample_21 (by decide) ?_
      cases hf
      exact J3 H_2 lo_2 I_2 ls (lv_sub hl [0, 1, 2] rfl)
    · replace hf := (if_neg c18).symm.trans hf
      refine lv_iconst (v := (1 : Int32)) hx hb dX11_sample_17 (by decide) ?_
      refine lv_goto (tgt := 22) hx hb dX11_sample_18 (by decide) ?_
      cases hf
      exact J3 H_2 lo_2 I_2 ls (lv_sub hl [0, 1, 2] rfl)
def C_LT_order (G : Nat → Nat → Int32) (a0 : Int32) : Option (Int32 × (Nat → Nat → Int32)) :=
bd0 (C_LT_requireIndex a0 (G 0 0)) <|
bd (C_LT_weigh G (-1 : Int32)) fun G3 =>
bd2 (C_SD_sampleAt G3 a0) fun r6 G7 =>
some (r6, G7)
set_option maxRecDepth 100000 in
set_option maxHeartbeats 4000000 in
theorem cC_LT_order (G : Nat → Nat → Int32) (E : Nat → Nat → Int64) (Dd : Nat → Nat → UInt64) (P : Nat → Option Nat) (L : List Nat) (pf : Nat → va_E) (a0 : Int32) (rv : Int32) (newG : Nat → Nat → Int32) (hf : C_LT_order G a0 = some (rv, newG)) : sMi D (cT cI cJ cD cS) (cW ad cI cJ cD cS) l yX11_order (ws1 yX11_order cX11_order 2 (some .int)) ({ frames := 5, cells := 0, slots := 0, locals := 115 }) [.ref (ad 0), .int a0] (G, E, Dd, P, L, pf) (rv, (newG, E, Dd, P, L, pf)) := by
  unfold C_LT_order at hf
  refine sMi_of (by decide) (Nat.le_of_ble_eq_true rfl) ?_
  intro p e R s m args below meth c A Q ls H lo F hRf hRl I hl ret
  obtain ⟨hx, hb, hml, hown, hG⟩ := id F
  replace hl : lv_has ls 2 [(0, .ref (ad 0)), (1, .int a0)] := hl
  refine lv_iload_n hx hb dX11_order_0 rfl (lv_at hl 1 rfl) ?_
  refine lv_aload_n hx hb dX11_order_1 rfl (lv_at hl 0 rfl) ?_
  refine kgtX11_89_0 F I dX11_order_2 ?_
  obtain ⟨h1, hf⟩ := bd0_some hf
  refine s_callSv (As := [.int a0, .int (G 0 0)]) (rest := []) F I (cC_LT_requireIndex G E Dd P L pf a0 (G 0 0) h1) kX11_84 ⟨rfl, rfl⟩ ⟨Nat.le_trans (Nat.le_of_ble_eq_true rfl) hRf, Nat.le_trans (Nat.le_of_ble_eq_true rfl) hRl⟩ rfl rfl hl.1 (Nat.le_of_ble_eq_true rfl) ⟨Nat.zero_le _, Nat.zero_le _⟩ dX11_order_5 ?_
  intro H_2 lo_2 I_2
  refine lv_aload_n hx hb dX11_order_8 rfl (lv_at hl 0 rfl) ?_
  refine lv_iconst (v := (-1 : Int32)) hx hb dX11_order_9 (by decide) ?_
  obtain ⟨G3, h4, hf⟩ := bd_some hf
  refine s_callVv (As := [.int (-1 : Int32)]) (rest := []) F I_2 (cC_LT_weigh G E Dd P L pf (-1 : Int32) G3 h4) kX11_202 ⟨rfl, rfl⟩ ⟨Nat.le_trans (Nat.le_of_ble_eq_true rfl) hRf, Nat.le_trans (Nat.le_of_ble_eq_true rfl) hRl⟩ 0 11 rfl rfl rfl rfl rfl hl.1 (Nat.le_of_ble_eq_true rfl) ⟨Nat.zero_le _, Nat.zero_le _⟩ dX11_order_10 ?_
  intro H_5 lo_5 I_5
  refine lv_aload_n hx hb dX11_order_13 rfl (lv_at hl 0 rfl) ?_
  refine kgtX11_54_0 F I_5 dX11_order_14 ?_
  refine lv_iload_n hx hb dX11_order_17 rfl (lv_at hl 1 rfl) ?_
  obtain ⟨r6, G7, h8, hf⟩ := bd2_some hf
  refine s_callVi (As := [.int a0]) (rest := []) F I_5 (cC_SD_sampleAt G3 E Dd P L pf a0 r6 G7 h8) kX11_223 ⟨rfl, rfl⟩ ⟨Nat.le_trans (Nat.le_of_ble_eq_true rfl) hRf, Nat.le_trans (Nat.le_of_ble_eq_true rfl) hRl⟩ 16 6 rfl rfl rfl rfl rfl hl.1 (Nat.le_of_ble_eq_true rfl) ⟨Nat.zero_le _, Nat.zero_le _⟩ dX11_order_18 ?_
  intro H_9 lo_9 I_9
  cases hf
  exact ret H_9 lo_9 _ ls I_9 dX11_order_21
def C_LT_summary (G : Nat → Nat → Int32) (a0 : Int32) : Option (Int32 × (Nat → Nat → Int32)) :=
bd (if a0 < 0 then
(some (0 : Int32))
else
(if (5 : Int32) < a0 then
(some (0 : Int32))
else
(some (1 : Int32)))) fun x2 =>
bd0 (C_LT_requireArgument x2) <|
bd (C_LT_weigh G (-1 : Int32)) fun G8 =>
bd2 (C_SD_numberOf G8 a0) fun r11 G12 =>
some (r11, G12)
set_option maxRecDepth 100000 in
set_option maxHeartbeats 4000000 in
theorem cC_LT_summary (G : Nat → Nat → Int32) (E : Nat → Nat → Int64) (Dd : Nat → Nat → UInt64) (P : Nat → Option Nat) (L : List Nat) (pf : Nat → va_E) (a0 : Int32) (rv : Int32) (newG : Nat → Nat → Int32) (hf : C_LT_summary G a0 = some (rv, newG)) : sMi D (cT cI cJ cD cS) (cW ad cI cJ cD cS) l yX11_summary (ws1 yX11_summary cX11_summary 2 (some .int)) ({ frames := 5, cells := 0, slots := 0, locals := 118 }) [.ref (ad 0), .int a0] (G, E, Dd, P, L, pf) (rv, (newG, E, Dd, P, L, pf)) := by
  unfold C_LT_summary at hf
  refine sMi_of (by decide) (Nat.le_of_ble_eq_true rfl) ?_
  intro p e R s m args below meth c A Q ls H lo F hRf hRl I hl ret
  obtain ⟨hx, hb, hml, hown, hG⟩ := id F
  replace hl : lv_has ls 2 [(0, .ref (ad 0)), (1, .int a0)] := hl
  refine lv_iload_n hx hb dX11_summary_0 rfl (lv_at hl 1 rfl) ?_
  obtain ⟨x2, hv15, hf⟩ := bd_some hf
  have J1 : ∀ (H : Heap) (locs : List Loc), sInv D (cT cI cJ cD cS) (cW ad cI cJ cD cS) A s H locs (G, E, Dd, P, L, pf) → ∀ (ls : Array Slot), lv_has ls 2 [(0, .ref (ad 0)), (1, .int a0)] → W p l e R s m args below meth c H locs 0 0 Q (F0 m 14 ls [.int x2]) := by
    intro H_3 lo_3 I_3 ls_4 hl_4
    obtain ⟨h6, hf⟩ := bd0_some hf
    refine s_callSv (As := [.int x2]) (rest := []) F I_3 (cC_LT_requireArgument G E Dd P L pf x2 h6) kX11_76 ⟨rfl, rfl⟩ ⟨Nat.le_trans (Nat.le_of_ble_eq_true rfl) hRf, Nat.le_trans (Nat.le_of_ble_eq_true rfl) hRl⟩ rfl rfl hl_4.1 (Nat.le_of_ble_eq_true rfl) ⟨Nat.zero_le _, Nat.zero_le _⟩ dX11_summary_14 ?_
    intro H_7 lo_7 I_7
    refine lv_aload_n hx hb dX11_summary_17 rfl (lv_at hl_4 0 rfl) ?_
    refine lv_iconst (v := (-1 : Int32)) hx hb dX11_summary_18 (by decide) ?_
    obtain ⟨G8, h9, hf⟩ := bd_some hf
    refine s_callVv (As := [.int (-1 : Int32)]) (rest := []) F I_7 (cC_LT_weigh G E Dd P L pf (-1 : Int32) G8 h9) kX11_202 ⟨rfl, rfl⟩ ⟨Nat.le_trans (Nat.le_of_ble_eq_true rfl) hRf, Nat.le_trans (Nat.le_of_ble_eq_true rfl) hRl⟩ 0 11 rfl rfl rfl rfl rfl hl_4.1 (Nat.le_of_ble_eq_true rfl) ⟨Nat.zero_le _, Nat.zero_le _⟩ dX11_summary_19 ?_
    intro H_10 lo_10 I_10
    refine lv_aload_n hx hb dX11_summary_22 rfl (lv_at hl_4 0 rfl) ?_
    refine kgtX11_54_0 F I_10 dX11_summary_23 ?_
    refine lv_aload_n hx hb dX11_summary_26 rfl (lv_at hl_4 0 rfl) ?_
    refine kgtX11_16_0 F I_10 dX11_summary_27 ?_
    refine lv_iload_n hx hb dX11_summary_30 rfl (lv_at hl_4 1 rfl) ?_
    obtain ⟨r11, G12, h13, hf⟩ := bd2_some hf
    refine s_callVi (As := [.ref (ad 2), .int a0]) (rest := []) F I_10 (cC_SD_numberOf G8 E Dd P L pf a0 r11 G12 h13) kX11_226 ⟨rfl, rfl⟩ ⟨Nat.le_trans (Nat.le_of_ble_eq_true rfl) hRf, Nat.le_trans (Nat.le_of_ble_eq_true rfl) hRl⟩ 16 6 rfl rfl rfl rfl rfl hl_4.1 (Nat.le_of_ble_eq_true rfl) ⟨Nat.zero_le _, Nat.zero_le _⟩ dX11_summary_31 ?_
    intro H_14 lo_14 I_14
    cases hf
    exact ret H_14 lo_14 _ ls_4 I_14 dX11_summary_34
  replace hf := hv15
  refine lv_if_lt (tgt := 13) hx hb dX11_summary_1 (by decide) (fun c17 => ?_) (fun c17 => ?_)
  · replace hf := (if_pos c17).symm.trans hf
    refine lv_iconst (v := (0 : Int32)) hx hb dX11_summary_13 (by decide) ?_
    cases hf
    exact J1 H lo I ls (lv_sub hl [0, 1] rfl)
  · replace hf := (if_neg c17).symm.trans hf
    refine lv_iload_n hx hb dX11_summary_4 rfl (lv_at hl 1 rfl) ?_
    refine lv_iconst (v := (5 : Int32)) hx hb dX11_summary_5 (by decide) ?_
    refine lv_icmp_gt (tgt := 13) hx hb dX11_summary_6 (by decide) (fun c16 => ?_) (fun c16 => ?_)
    · replace hf := (if_pos c16).symm.trans hf
      refine lv_iconst (v := (0 : Int32)) hx hb dX11_summary_13 (by decide) ?_
      cases hf
      exact J1 H lo I ls (lv_sub hl [0, 1] rfl)
    · replace hf := (if_neg c16).symm.trans hf
      refine lv_iconst (v := (1 : Int32)) hx hb dX11_summary_9 (by decide) ?_
      refine lv_goto (tgt := 14) hx hb dX11_summary_10 (by decide) ?_
      cases hf
      exact J1 H lo I ls (lv_sub hl [0, 1] rfl)
def C_LT_without (G : Nat → Nat → Int32) (a0 : Int32) (a1 : Int32) (a2 : Int32) : Option (Int32 × (Nat → Nat → Int32)) :=
bd0 (C_LT_requireIndex a0 (G 1 0)) <|
bd0 (if a1 = (-1 : Int32) then
(some ())
else
(bd0 (C_LT_requireIndex a1 (G 0 0)) <|
some ())) <|
bd (if a2 < 0 then
(some (0 : Int32))
else
(if (5 : Int32) < a2 then
(some (0 : Int32))
else
(some (1 : Int32)))) fun x8 =>
bd0 (C_LT_requireArgument x8) <|
bd (C_LT_weigh G a0) fun G14 =>
if a1 = (-1 : Int32) then
(bd2 (C_SD_numberOf G14 a2) fun r21 G22 =>
some (r21, G22))
else
(bd2 (C_SD_propertyOf G14 a1 a2) fun r17 G18 =>
some (r17, G18))
set_option maxRecDepth 100000 in
set_option maxHeartbeats 4000000 in
theorem cC_LT_without (G : Nat → Nat → Int32) (E : Nat → Nat → Int64) (Dd : Nat → Nat → UInt64) (P : Nat → Option Nat) (L : List Nat) (pf : Nat → va_E) (a0 : Int32) (a1 : Int32) (a2 : Int32) (rv : Int32) (newG : Nat → Nat → Int32) (hf : C_LT_without G a0 a1 a2 = some (rv, newG)) : sMi D (cT cI cJ cD cS) (cW ad cI cJ cD cS) l yX11_without (ws1 yX11_without cX11_without 4 (some .int)) ({ frames := 5, cells := 0, slots := 0, locals := 119 }) [.ref (ad 0), .int a0, .int a1, .int a2] (G, E, Dd, P, L, pf) (rv, (newG, E, Dd, P, L, pf)) := by
  unfold C_LT_without at hf
  refine sMi_of (by decide) (Nat.le_of_ble_eq_true rfl) ?_
  intro p e R s m args below meth c A Q ls H lo F hRf hRl I hl ret
  obtain ⟨hx, hb, hml, hown, hG⟩ := id F
  replace hl : lv_has ls 4 [(0, .ref (ad 0)), (1, .int a0), (2, .int a1), (3, .int a2)] := hl
  refine lv_iload_n hx hb dX11_without_0 rfl (lv_at hl 1 rfl) ?_
  refine lv_aload_n hx hb dX11_without_1 rfl (lv_at hl 0 rfl) ?_
  refine kgtX11_80_0 F I dX11_without_2 ?_
  obtain ⟨h1, hf⟩ := bd0_some hf
  refine s_callSv (As := [.int a0, .int (G 1 0)]) (rest := []) F I (cC_LT_requireIndex G E Dd P L pf a0 (G 1 0) h1) kX11_84 ⟨rfl, rfl⟩ ⟨Nat.le_trans (Nat.le_of_ble_eq_true rfl) hRf, Nat.le_trans (Nat.le_of_ble_eq_true rfl) hRl⟩ rfl rfl hl.1 (Nat.le_of_ble_eq_true rfl) ⟨Nat.zero_le _, Nat.zero_le _⟩ dX11_without_5 ?_
  intro H_2 lo_2 I_2
  refine lv_iload_n hx hb dX11_without_8 rfl (lv_at hl 2 rfl) ?_
  refine lv_iconst (v := (-1 : Int32)) hx hb dX11_without_9 (by decide) ?_
  obtain ⟨hv29, hf⟩ := bd0_some hf
  have J3 : ∀ (H : Heap) (locs : List Loc), sInv D (cT cI cJ cD cS) (cW ad cI cJ cD cS) A s H locs (G, E, Dd, P, L, pf) → ∀ (ls : Array Slot), lv_has ls 4 [(0, .ref (ad 0)), (1, .int a0), (2, .int a1), (3, .int a2)] → W p l e R s m args below meth c H locs 0 0 Q (F0 m 21 ls []) := by
    intro H_4 lo_4 I_4 ls_5 hl_5
    refine lv_iload_n hx hb dX11_without_21 rfl (lv_at hl_5 3 rfl) ?_
    obtain ⟨x8, hv26, hf⟩ := bd_some hf
    have J7 : ∀ (H : Heap) (locs : List Loc), sInv D (cT cI cJ cD cS) (cW ad cI cJ cD cS) A s H locs (G, E, Dd, P, L, pf) → ∀ (ls : Array Slot), lv_has ls 4 [(0, .ref (ad 0)), (1, .int a0), (2, .int a1), (3, .int a2)] → W p l e R s m args below meth c H locs 0 0 Q (F0 m 35 ls [.int x8]) := by
      intro H_9 lo_9 I_9 ls_10 hl_10
      obtain ⟨h12, hf⟩ := bd0_some hf
      refine s_callSv (As := [.int x8]) (rest := []) F I_9 (cC_LT_requireArgument G E Dd P L pf x8 h12) kX11_76 ⟨rfl, rfl⟩ ⟨Nat.le_trans (Nat.le_of_ble_eq_true rfl) hRf, Nat.le_trans (Nat.le_of_ble_eq_true rfl) hRl⟩ rfl rfl hl_10.1 (Nat.le_of_ble_eq_true rfl) ⟨Nat.zero_le _, Nat.zero_le _⟩ dX11_without_35 ?_
      intro H_13 lo_13 I_13
      refine lv_aload_n hx hb dX11_without_38 rfl (lv_at hl_10 0 rfl) ?_
      refine lv_iload_n hx hb dX11_without_39 rfl (lv_at hl_10 1 rfl) ?_
      obtain ⟨G14, h15, hf⟩ := bd_some hf
      refine s_callVv (As := [.int a0]) (rest := []) F I_13 (cC_LT_weigh G E Dd P L pf a0 G14 h15) kX11_202 ⟨rfl, rfl⟩ ⟨Nat.le_trans (Nat.le_of_ble_eq_true rfl) hRf, Nat.le_trans (Nat.le_of_ble_eq_true rfl) hRl⟩ 0 11 rfl rfl rfl rfl rfl hl_10.1 (Nat.le_of_ble_eq_true rfl) ⟨Nat.zero_le _, Nat.zero_le _⟩ dX11_without_40 ?_
      intro H_16 lo_16 I_16
      refine lv_iload_n hx hb dX11_without_43 rfl (lv_at hl_10 2 rfl) ?_
      refine lv_iconst (v := (-1 : Int32)) hx hb dX11_without_44 (by decide) ?_
      refine lv_icmp_ne (tgt := 63) hx hb dX11_without_45 (by decide) (fun c25 => ?_) (fun c25 => ?_)
      · replace hf := (if_neg c25).symm.trans hf
        refine lv_aload_n hx hb dX11_without_63 rfl (lv_at hl_10 0 rfl) ?_
        refine kgtX11_54_0 F I_16 dX11_without_64 ?_
        refine lv_aload_n hx hb dX11_without_67 rfl (lv_at hl_10 0 rfl) ?_
        refine kgtX11_16_0 F I_16 dX11_without_68 ?_
        refine lv_iload_n hx hb dX11_without_71 rfl (lv_at hl_10 2 rfl) ?_
        refine lv_iload_n hx hb dX11_without_72 rfl (lv_at hl_10 3 rfl) ?_
        obtain ⟨r17, G18, h19, hf⟩ := bd2_some hf
        refine s_callVi (As := [.ref (ad 2), .int a1, .int a2]) (rest := []) F I_16 (cC_SD_propertyOf G14 E Dd P L pf a1 a2 r17 G18 h19) kX11_220 ⟨rfl, rfl⟩ ⟨Nat.le_trans (Nat.le_of_ble_eq_true rfl) hRf, Nat.le_trans (Nat.le_of_ble_eq_true rfl) hRl⟩ 16 6 rfl rfl rfl rfl rfl hl_10.1 (Nat.le_of_ble_eq_true rfl) ⟨Nat.zero_le _, Nat.zero_le _⟩ dX11_without_73 ?_
        intro H_20 lo_20 I_20
        cases hf
        exact ret H_20 lo_20 _ ls_10 I_20 dX11_without_76
      · replace hf := (if_pos c25).symm.trans hf
        refine lv_aload_n hx hb dX11_without_48 rfl (lv_at hl_10 0 rfl) ?_
        refine kgtX11_54_0 F I_16 dX11_without_49 ?_
        refine lv_aload_n hx hb dX11_without_52 rfl (lv_at hl_10 0 rfl) ?_
        refine kgtX11_16_0 F I_16 dX11_without_53 ?_
        refine lv_iload_n hx hb dX11_without_56 rfl (lv_at hl_10 3 rfl) ?_
        obtain ⟨r21, G22, h23, hf⟩ := bd2_some hf
        refine s_callVi (As := [.ref (ad 2), .int a2]) (rest := []) F I_16 (cC_SD_numberOf G14 E Dd P L pf a2 r21 G22 h23) kX11_226 ⟨rfl, rfl⟩ ⟨Nat.le_trans (Nat.le_of_ble_eq_true rfl) hRf, Nat.le_trans (Nat.le_of_ble_eq_true rfl) hRl⟩ 16 6 rfl rfl rfl rfl rfl hl_10.1 (Nat.le_of_ble_eq_true rfl) ⟨Nat.zero_le _, Nat.zero_le _⟩ dX11_without_57 ?_
        intro H_24 lo_24 I_24
        refine lv_goto (tgt := 76) hx hb dX11_without_60 (by decide) ?_
        cases hf
        exact ret H_24 lo_24 _ ls_10 I_24 dX11_without_76
    replace hf := hv26
    refine lv_if_lt (tgt := 34) hx hb dX11_without_22 (by decide) (fun c28 => ?_) (fun c28 => ?_)
    · replace hf := (if_pos c28).symm.trans hf
      refine lv_iconst (v := (0 : Int32)) hx hb dX11_without_34 (by decide) ?_
      cases hf
      exact J7 H_4 lo_4 I_4 ls_5 (lv_sub hl_5 [0, 1, 2, 3] rfl)
    · replace hf := (if_neg c28).symm.trans hf
      refine lv_iload_n hx hb dX11_without_25 rfl (lv_at hl_5 3 rfl) ?_
      refine lv_iconst (v := (5 : Int32)) hx hb dX11_without_26 (by decide) ?_
      refine lv_icmp_gt (tgt := 34) hx hb dX11_without_27 (by decide) (fun c27 => ?_) (fun c27 => ?_)
      · replace hf := (if_pos c27).symm.trans hf
        refine lv_iconst (v := (0 : Int32)) hx hb dX11_without_34 (by decide) ?_
        cases hf
        exact J7 H_4 lo_4 I_4 ls_5 (lv_sub hl_5 [0, 1, 2, 3] rfl)
      · replace hf := (if_neg c27).symm.trans hf
        refine lv_iconst (v := (1 : Int32)) hx hb dX11_without_30 (by decide) ?_
        refine lv_goto (tgt := 35) hx hb dX11_without_31 (by decide) ?_
        cases hf
        exact J7 H_4 lo_4 I_4 ls_5 (lv_sub hl_5 [0, 1, 2, 3] rfl)
  replace hf := hv29
  refine lv_icmp_eq (tgt := 21) hx hb dX11_without_10 (by decide) (fun c32 => ?_) (fun c32 => ?_)
  · replace hf := (if_pos c32).symm.trans hf
    cases hf
    exact J3 H_2 lo_2 I_2 ls (lv_sub hl [0, 1, 2, 3] rfl)
  · replace hf := (if_neg c32).symm.trans hf
    refine lv_iload_n hx hb dX11_without_13 rfl (lv_at hl 2 rfl) ?_
    refine lv_aload_n hx hb dX11_without_14 rfl (lv_at hl 0 rfl) ?_
    refine kgtX11_89_0 F I_2 dX11_without_15 ?_
    obtain ⟨h30, hf⟩ := bd0_some hf
    refine s_callSv (As := [.int a1, .int (G 0 0)]) (rest := []) F I_2 (cC_LT_requireIndex G E Dd P L pf a1 (G 0 0) h30) kX11_84 ⟨rfl, rfl⟩ ⟨Nat.le_trans (Nat.le_of_ble_eq_true rfl) hRf, Nat.le_trans (Nat.le_of_ble_eq_true rfl) hRl⟩ rfl rfl hl.1 (Nat.le_of_ble_eq_true rfl) ⟨Nat.zero_le _, Nat.zero_le _⟩ dX11_without_18 ?_
    intro H_31 lo_31 I_31
    cases hf
    exact J3 H_31 lo_31 I_31 ls (lv_sub hl [0, 1, 2, 3] rfl)
def C_LE_isRing_12 (G : Nat → Nat → Int32) (a0 : Int32) (a1 : Int32) (a2 : Int32) : Option (Int32) :=
bd (C_LE_isAhead_12 G a0 a1) fun r1 =>
if r1 = 0 then
(some (0 : Int32))
else
(bd (C_LE_isAhead_12 G a1 a2) fun r4 =>
if r4 = 0 then
(some (0 : Int32))
else
(bd (C_LE_isAhead_12 G a2 a0) fun r7 =>
if r7 = 0 then
(some (0 : Int32))
else
(some (1 : Int32))))
set_option maxRecDepth 100000 in
set_option maxHeartbeats 4000000 in
theorem cC_LE_isRing_12 (G : Nat → Nat → Int32) (E : Nat → Nat → Int64) (Dd : Nat → Nat → UInt64) (P : Nat → Option Nat) (L : List Nat) (pf : Nat → va_E) (a0 : Int32) (a1 : Int32) (a2 : Int32) (rv : Int32)  (hf : C_LE_isRing_12 G a0 a1 a2 = some rv) : sMi D (cT cI cJ cD cS) (cW ad cI cJ cD cS) l yX3_isRing (ws1 yX3_isRing cX3_isRing 4 (some .boolean)) ({ frames := 2, cells := 0, slots := 0, locals := 43 }) [.ref (ad 12), .int a0, .int a1, .int a2] (G, E, Dd, P, L, pf) (rv, (G, E, Dd, P, L, pf)) := by
  unfold C_LE_isRing_12 at hf
  refine sMz_of (by decide) (Nat.le_of_ble_eq_true rfl) ?_
  intro p e R s m args below meth c A Q ls H lo F hRf hRl I hl ret
  obtain ⟨hx, hb, hml, hown, hG⟩ := id F
  replace hl : lv_has ls 4 [(0, .ref (ad 12)), (1, .int a0), (2, .int a1), (3, .int a2)] := hl
  refine lv_aload_n hx hb dX3_isRing_0 rfl (lv_at hl 0 rfl) ?_
  refine lv_iload_n hx hb dX3_isRing_1 rfl (lv_at hl 1 rfl) ?_
  refine lv_iload_n hx hb dX3_isRing_2 rfl (lv_at hl 2 rfl) ?_
  obtain ⟨r1, h2, hf⟩ := bd_some hf
  refine s_callVi (As := [.int a0, .int a1]) (rest := []) F I (cC_LE_isAhead_12 G E Dd P L pf a0 a1 r1 h2) kX3_61 ⟨rfl, rfl⟩ ⟨Nat.le_trans (Nat.le_of_ble_eq_true rfl) hRf, Nat.le_trans (Nat.le_of_ble_eq_true rfl) hRl⟩ 12 3 rfl rfl rfl rfl rfl hl.1 (Nat.le_of_ble_eq_true rfl) ⟨Nat.zero_le _, Nat.zero_le _⟩ dX3_isRing_3 ?_
  intro H_3 lo_3 I_3
  refine lv_if_eq (tgt := 31) hx hb dX3_isRing_6 (by decide) (fun c12 => ?_) (fun c12 => ?_)
  · replace hf := (if_pos c12).symm.trans hf
    refine lv_iconst (v := (0 : Int32)) hx hb dX3_isRing_31 (by decide) ?_
    cases hf
    exact ret H_3 lo_3 _ ls I_3 (Or.inl rfl) dX3_isRing_32
  · replace hf := (if_neg c12).symm.trans hf
    refine lv_aload_n hx hb dX3_isRing_9 rfl (lv_at hl 0 rfl) ?_
    refine lv_iload_n hx hb dX3_isRing_10 rfl (lv_at hl 2 rfl) ?_
    refine lv_iload_n hx hb dX3_isRing_11 rfl (lv_at hl 3 rfl) ?_
    obtain ⟨r4, h5, hf⟩ := bd_some hf
    refine s_callVi (As := [.int a1, .int a2]) (rest := []) F I_3 (cC_LE_isAhead_12 G E Dd P L pf a1 a2 r4 h5) kX3_61 ⟨rfl, rfl⟩ ⟨Nat.le_trans (Nat.le_of_ble_eq_true rfl) hRf, Nat.le_trans (Nat.le_of_ble_eq_true rfl) hRl⟩ 12 3 rfl rfl rfl rfl rfl hl.1 (Nat.le_of_ble_eq_true rfl) ⟨Nat.zero_le _, Nat.zero_le _⟩ dX3_isRing_12 ?_
    intro H_6 lo_6 I_6
    refine lv_if_eq (tgt := 31) hx hb dX3_isRing_15 (by decide) (fun c11 => ?_) (fun c11 => ?_)
    · replace hf := (if_pos c11).symm.trans hf
      refine lv_iconst (v := (0 : Int32)) hx hb dX3_isRing_31 (by decide) ?_
      cases hf
      exact ret H_6 lo_6 _ ls I_6 (Or.inl rfl) dX3_isRing_32
    · replace hf := (if_neg c11).symm.trans hf
      refine lv_aload_n hx hb dX3_isRing_18 rfl (lv_at hl 0 rfl) ?_
      refine lv_iload_n hx hb dX3_isRing_19 rfl (lv_at hl 3 rfl) ?_
      refine lv_iload_n hx hb dX3_isRing_20 rfl (lv_at hl 1 rfl) ?_
      obtain ⟨r7, h8, hf⟩ := bd_some hf
      refine s_callVi (As := [.int a2, .int a0]) (rest := []) F I_6 (cC_LE_isAhead_12 G E Dd P L pf a2 a0 r7 h8) kX3_61 ⟨rfl, rfl⟩ ⟨Nat.le_trans (Nat.le_of_ble_eq_true rfl) hRf, Nat.le_trans (Nat.le_of_ble_eq_true rfl) hRl⟩ 12 3 rfl rfl rfl rfl rfl hl.1 (Nat.le_of_ble_eq_true rfl) ⟨Nat.zero_le _, Nat.zero_le _⟩ dX3_isRing_21 ?_
      intro H_9 lo_9 I_9
      refine lv_if_eq (tgt := 31) hx hb dX3_isRing_24 (by decide) (fun c10 => ?_) (fun c10 => ?_)
      · replace hf := (if_pos c10).symm.trans hf
        refine lv_iconst (v := (0 : Int32)) hx hb dX3_isRing_31 (by decide) ?_
        cases hf
        exact ret H_9 lo_9 _ ls I_9 (Or.inl rfl) dX3_isRing_32
      · replace hf := (if_neg c10).symm.trans hf
        refine lv_iconst (v := (1 : Int32)) hx hb dX3_isRing_27 (by decide) ?_
        refine lv_goto (tgt := 32) hx hb dX3_isRing_28 (by decide) ?_
        cases hf
        exact ret H_9 lo_9 _ ls I_9 (Or.inr rfl) dX3_isRing_32
def C_LE_countRings_12_s3 (a0 : Int32) (x4 : Int32) (x15 : Int32) (G : Nat → Nat → Int32) (x27 : Int32) (x28 : Int32) : Option ((Int32 × Int32) ⊕ (Int32)) :=
if a0 ≤ x28 then
(some (.inr x27))
else
(bd (C_LE_isRing_12 G x4 x15 x28) fun r38 =>
bd (if r38 = 0 then
(bd (C_LE_isRing_12 G x28 x15 x4) fun r51 =>
if r51 = 0 then
(some x27)
else
(nm (x27 + (1 : Int32) : Int32) fun x54 =>
some x54))
else
(nm (x27 + (1 : Int32) : Int32) fun x49 =>
some x49)) fun x42 =>
nm (x28 + (1 : Int32) : Int32) fun x46 =>
some (.inl (x42, x46)))
def C_LE_countRings_12_s2 (a0 : Int32) (x4 : Int32) (G : Nat → Nat → Int32) (x14 : Int32) (x15 : Int32) : Option ((Int32 × Int32) ⊕ (Int32)) :=
if a0 ≤ x15 then
(some (.inr x14))
else
(nm (x15 + (1 : Int32) : Int32) fun x25 =>
bd (lp (fun q => C_LE_countRings_12_s3 a0 x4 x15 G q.1 q.2) FU (x14, x25)) fun x29 =>
nm (x15 + (1 : Int32) : Int32) fun x33 =>
some (.inl (x29, x33)))
def C_LE_countRings_12_s1 (a0 : Int32) (G : Nat → Nat → Int32) (x3 : Int32) (x4 : Int32) : Option ((Int32 × Int32) ⊕ (Int32)) :=
if a0 ≤ x4 then
(some (.inr x3))
else
(nm (x4 + (1 : Int32) : Int32) fun x12 =>
bd (lp (fun q => C_LE_countRings_12_s2 a0 x4 G q.1 q.2) FU (x3, x12)) fun x16 =>
nm (x4 + (1 : Int32) : Int32) fun x20 =>
some (.inl (x16, x20)))
def C_LE_countRings_12 (G : Nat → Nat → Int32) (a0 : Int32) : Option (Int32) :=
bd (lp (fun q => C_LE_countRings_12_s1 a0 G q.1 q.2) FU ((0 : Int32), (0 : Int32))) fun x5 =>
some x5
set_option maxRecDepth 100000 in
set_option maxHeartbeats 4000000 in
theorem cC_LE_countRings_12 (G : Nat → Nat → Int32) (E : Nat → Nat → Int64) (Dd : Nat → Nat → UInt64) (P : Nat → Option Nat) (L : List Nat) (pf : Nat → va_E) (a0 : Int32) (rv : Int32)  (hf : C_LE_countRings_12 G a0 = some rv) : sMi D (cT cI cJ cD cS) (cW ad cI cJ cD cS) l yX3_countRings (ws1 yX3_countRings cX3_countRings 6 (some .int)) ({ frames := 3, cells := 0, slots := 0, locals := 66 }) [.ref (ad 12), .int a0] (G, E, Dd, P, L, pf) (rv, (G, E, Dd, P, L, pf)) := by
  unfold C_LE_countRings_12 at hf
  refine sMi_of (by decide) (Nat.le_of_ble_eq_true rfl) ?_
  intro p e R s m args below meth c A Q ls H lo F hRf hRl I hl ret
  obtain ⟨hx, hb, hml, hown, hG⟩ := id F
  replace hl : lv_has ls 6 [(0, .ref (ad 12)), (1, .int a0)] := hl
  refine lv_iconst (v := (0 : Int32)) hx hb dX3_countRings_0 (by decide) ?_
  refine lv_istore_n (lv' := [(2, .int (0 : Int32)), (0, .ref (ad 12)), (1, .int a0)]) hx hb dX3_countRings_1 rfl hl (by decide) rfl (fun ls_1 hl_1 => ?_)
  refine lv_iconst (v := (0 : Int32)) hx hb dX3_countRings_2 (by decide) ?_
  refine lv_istore_n (lv' := [(3, .int (0 : Int32)), (2, .int (0 : Int32)), (0, .ref (ad 12)), (1, .int a0)]) hx hb dX3_countRings_3 rfl hl_1 (by decide) rfl (fun ls_2 hl_2 => ?_)
  obtain ⟨x5, hq1, hf⟩ := bd_some hf
  have K1 : ∀ (H : Heap) (locs : List Loc), sInv D (cT cI cJ cD cS) (cW ad cI cJ cD cS) A s H locs (G, E, Dd, P, L, pf) → ∀ (ls : Array Slot), lv_has ls 6 [(2, .int x5)] → W p l e R s m args below meth c H locs 0 0 Q (F0 m 77 ls []) := by
    intro H_6 lo_6 I_6 ls_7 hl_7
    refine lv_iload_n hx hb dX3_countRings_77 rfl (lv_at hl_7 0 rfl) ?_
    cases hf
    exact ret H_6 lo_6 _ ls_7 I_6 dX3_countRings_78
  have L1 : ∀ (n : Nat) (x3 : Int32) (x4 : Int32), lp (fun q => C_LE_countRings_12_s1 a0 G q.1 q.2) n (x3, x4) = some x5 → ∀ (H : Heap) (locs : List Loc), sInv D (cT cI cJ cD cS) (cW ad cI cJ cD cS) A s H locs (G, E, Dd, P, L, pf) → ∀ (ls : Array Slot), lv_has ls 6 [(0, .ref (ad 12)), (1, .int a0), (2, .int x3), (3, .int x4)] → W p l e R s m args below meth c H locs 0 0 Q (F0 m 4 ls []) := by
    intro n
    induction n with
    | zero => intro x3 x4 hq; exact (lp_0 hq).elim
    | succ n ih1 =>
      intro x3 x4 hq H_9 lo_9 I_9 ls_10 hl_10
      obtain ⟨y1, hf, hK1⟩ := lp_go hq
      replace hf : C_LE_countRings_12_s1 a0 G x3 x4 = some y1 := hf
      unfold C_LE_countRings_12_s1 at hf
      refine lv_iload_n hx hb dX3_countRings_4 rfl (lv_at hl_10 3 rfl) ?_
      refine lv_iload_n hx hb dX3_countRings_5 rfl (lv_at hl_10 1 rfl) ?_
      refine lv_icmp_ge (tgt := 77) hx hb dX3_countRings_6 (by decide) (fun c60 => ?_) (fun c60 => ?_)
      · replace hf := (if_pos c60).symm.trans hf
        cases hf
        cases (show x3 = x5 from hK1)
        exact K1 H_9 lo_9 I_9 ls_10 (lv_sub hl_10 [2] rfl)
      · replace hf := (if_neg c60).symm.trans hf
        refine lv_iload_n hx hb dX3_countRings_9 rfl (lv_at hl_10 3 rfl) ?_
        refine lv_iconst (v := (1 : Int32)) hx hb dX3_countRings_10 (by decide) ?_
        refine lv_iadd hx hb dX3_countRings_11 ?_
        refine lv_topi (fun x12 ex12 => ?_)
        replace hf := nm_some ex12 hf
        refine lv_istore (lv' := [(4, .int x12), (0, .ref (ad 12)), (1, .int a0), (2, .int x3), (3, .int x4)]) hx hb dX3_countRings_12 hl_10 (by decide) rfl (fun ls_13 hl_13 => ?_)
        obtain ⟨x16, hq2, hf⟩ := bd_some hf
        have K2 : ∀ (H : Heap) (locs : List Loc), sInv D (cT cI cJ cD cS) (cW ad cI cJ cD cS) A s H locs (G, E, Dd, P, L, pf) → ∀ (ls : Array Slot), lv_has ls 6 [(0, .ref (ad 12)), (1, .int a0), (2, .int x16), (3, .int x4)] → W p l e R s m args below meth c H locs 0 0 Q (F0 m 71 ls []) := by
          intro H_17 lo_17 I_17 ls_18 hl_18
          obtain ⟨x20, ex20⟩ : ∃ y : Int32, y = x4 + (1 : Int32) := ⟨_, rfl⟩
          replace hf := nm_some ex20 hf
          refine lv_iinc (v := x20) (lv' := [(3, .int x20), (0, .ref (ad 12)), (1, .int a0), (2, .int x16)]) hx hb dX3_countRings_71 hl_18 (k := 3) rfl (by rw [ex20]; rfl) (by decide) rfl (fun ls_21 hl_21 => ?_)
          refine lv_goto (tgt := 4) hx hb dX3_countRings_74 (by decide) ?_
          cases hf
          exact ih1 _ _ hK1 H_17 lo_17 I_17 ls_21 (lv_sub hl_21 [1, 2, 3, 0] rfl)
        have L2 : ∀ (n : Nat) (x14 : Int32) (x15 : Int32), lp (fun q => C_LE_countRings_12_s2 a0 x4 G q.1 q.2) n (x14, x15) = some x16 → ∀ (H : Heap) (locs : List Loc), sInv D (cT cI cJ cD cS) (cW ad cI cJ cD cS) A s H locs (G, E, Dd, P, L, pf) → ∀ (ls : Array Slot), lv_has ls 6 [(0, .ref (ad 12)), (1, .int a0), (2, .int x14), (3, .int x4), (4, .int x15)] → W p l e R s m args below meth c H locs 0 0 Q (F0 m 14 ls []) := by
          intro n
          induction n with
          | zero => intro x14 x15 hq; exact (lp_0 hq).elim
          | succ n ih2 =>
            intro x14 x15 hq H_22 lo_22 I_22 ls_23 hl_23
            obtain ⟨y2, hf, hK2⟩ := lp_go hq
            replace hf : C_LE_countRings_12_s2 a0 x4 G x14 x15 = some y2 := hf
            unfold C_LE_countRings_12_s2 at hf
            refine lv_iload hx hb dX3_countRings_14 (lv_at hl_23 4 rfl) ?_
            refine lv_iload_n hx hb dX3_countRings_16 rfl (lv_at hl_23 1 rfl) ?_
            refine lv_icmp_ge (tgt := 71) hx hb dX3_countRings_17 (by decide) (fun c59 => ?_) (fun c59 => ?_)
            · replace hf := (if_pos c59).symm.trans hf
              cases hf
              cases (show x14 = x16 from hK2)
              exact K2 H_22 lo_22 I_22 ls_23 (lv_sub hl_23 [0, 1, 2, 3] rfl)
            · replace hf := (if_neg c59).symm.trans hf
              refine lv_iload hx hb dX3_countRings_20 (lv_at hl_23 4 rfl) ?_
              refine lv_iconst (v := (1 : Int32)) hx hb dX3_countRings_22 (by decide) ?_
              refine lv_iadd hx hb dX3_countRings_23 ?_
              refine lv_topi (fun x25 ex25 => ?_)
              replace hf := nm_some ex25 hf
              refine lv_istore (lv' := [(5, .int x25), (0, .ref (ad 12)), (1, .int a0), (2, .int x14), (3, .int x4), (4, .int x15)]) hx hb dX3_countRings_24 hl_23 (by decide) rfl (fun ls_26 hl_26 => ?_)
              obtain ⟨x29, hq3, hf⟩ := bd_some hf
              have K3 : ∀ (H : Heap) (locs : List Loc), sInv D (cT cI cJ cD cS) (cW ad cI cJ cD cS) A s H locs (G, E, Dd, P, L, pf) → ∀ (ls : Array Slot), lv_has ls 6 [(0, .ref (ad 12)), (1, .int a0), (2, .int x29), (3, .int x4), (4, .int x15)] → W p l e R s m args below meth c H locs 0 0 Q (F0 m 65 ls []) := by
                intro H_30 lo_30 I_30 ls_31 hl_31
                obtain ⟨x33, ex33⟩ : ∃ y : Int32, y = x15 + (1 : Int32) := ⟨_, rfl⟩
                replace hf := nm_some ex33 hf
                refine lv_iinc (v := x33) (lv' := [(4, .int x33), (0, .ref (ad 12)), (1, .int a0), (2, .int x29), (3, .int x4)]) hx hb dX3_countRings_65 hl_31 (k := 4) rfl (by rw [ex33]; rfl) (by decide) rfl (fun ls_34 hl_34 => ?_)
                refine lv_goto (tgt := 14) hx hb dX3_countRings_68 (by decide) ?_
                cases hf
                exact ih2 _ _ hK2 H_30 lo_30 I_30 ls_34 (lv_sub hl_34 [1, 2, 3, 4, 0] rfl)
              have L3 : ∀ (n : Nat) (x27 : Int32) (x28 : Int32), lp (fun q => C_LE_countRings_12_s3 a0 x4 x15 G q.1 q.2) n (x27, x28) = some x29 → ∀ (H : Heap) (locs : List Loc), sInv D (cT cI cJ cD cS) (cW ad cI cJ cD cS) A s H locs (G, E, Dd, P, L, pf) → ∀ (ls : Array Slot), lv_has ls 6 [(0, .ref (ad 12)), (1, .int a0), (2, .int x27), (3, .int x4), (4, .int x15), (5, .int x28)] → W p l e R s m args below meth c H locs 0 0 Q (F0 m 26 ls []) := by
                intro n
                induction n with
                | zero => intro x27 x28 hq; exact (lp_0 hq).elim
                | succ n ih3 =>
                  intro x27 x28 hq H_35 lo_35 I_35 ls_36 hl_36
                  obtain ⟨y3, hf, hK3⟩ := lp_go hq
                  replace hf : C_LE_countRings_12_s3 a0 x4 x15 G x27 x28 = some y3 := hf
                  unfold C_LE_countRings_12_s3 at hf
                  refine lv_iload hx hb dX3_countRings_26 (lv_at hl_36 5 rfl) ?_
                  refine lv_iload_n hx hb dX3_countRings_28 rfl (lv_at hl_36 1 rfl) ?_
                  refine lv_icmp_ge (tgt := 65) hx hb dX3_countRings_29 (by decide) (fun c58 => ?_) (fun c58 => ?_)
                  · replace hf := (if_pos c58).symm.trans hf
                    cases hf
                    cases (show x27 = x29 from hK3)
                    exact K3 H_35 lo_35 I_35 ls_36 (lv_sub hl_36 [0, 1, 2, 3, 4] rfl)
                  · replace hf := (if_neg c58).symm.trans hf
                    refine lv_aload_n hx hb dX3_countRings_32 rfl (lv_at hl_36 0 rfl) ?_
                    refine lv_iload_n hx hb dX3_countRings_33 rfl (lv_at hl_36 3 rfl) ?_
                    refine lv_iload hx hb dX3_countRings_34 (lv_at hl_36 4 rfl) ?_
                    refine lv_iload hx hb dX3_countRings_36 (lv_at hl_36 5 rfl) ?_
                    obtain ⟨r38, h39, hf⟩ := bd_some hf
                    refine s_callVi (As := [.int x4, .int x15, .int x28]) (rest := []) F I_35 (cC_LE_isRing_12 G E Dd P L pf x4 x15 x28 r38 h39) kX3_57 ⟨rfl, rfl⟩ ⟨Nat.le_trans (Nat.le_of_ble_eq_true rfl) hRf, Nat.le_trans (Nat.le_of_ble_eq_true rfl) hRl⟩ 12 3 rfl rfl rfl rfl rfl hl_36.1 (Nat.le_of_ble_eq_true rfl) ⟨Nat.zero_le _, Nat.zero_le _⟩ dX3_countRings_38 ?_
                    intro H_40 lo_40 I_40
                    obtain ⟨x42, hv48, hf⟩ := bd_some hf
                    have J41 : ∀ (H : Heap) (locs : List Loc), sInv D (cT cI cJ cD cS) (cW ad cI cJ cD cS) A s H locs (G, E, Dd, P, L, pf) → ∀ (ls : Array Slot), lv_has ls 6 [(0, .ref (ad 12)), (1, .int a0), (2, .int x42), (3, .int x4), (4, .int x15), (5, .int x28)] → W p l e R s m args below meth c H locs 0 0 Q (F0 m 59 ls []) := by
                      intro H_43 lo_43 I_43 ls_44 hl_44
                      obtain ⟨x46, ex46⟩ : ∃ y : Int32, y = x28 + (1 : Int32) := ⟨_, rfl⟩
                      replace hf := nm_some ex46 hf
                      refine lv_iinc (v := x46) (lv' := [(5, .int x46), (0, .ref (ad 12)), (1, .int a0), (2, .int x42), (3, .int x4), (4, .int x15)]) hx hb dX3_countRings_59 hl_44 (k := 5) rfl (by rw [ex46]; rfl) (by decide) rfl (fun ls_47 hl_47 => ?_)
                      refine lv_goto (tgt := 26) hx hb dX3_countRings_62 (by decide) ?_
                      cases hf
                      exact ih3 _ _ hK3 H_43 lo_43 I_43 ls_47 (lv_sub hl_47 [1, 2, 3, 4, 5, 0] rfl)
                    replace hf := hv48
                    refine lv_if_ne (tgt := 56) hx hb dX3_countRings_41 (by decide) (fun c57 => ?_) (fun c57 => ?_)
                    · replace hf := (if_neg c57).symm.trans hf
                      obtain ⟨x49, ex49⟩ : ∃ y : Int32, y = x27 + (1 : Int32) := ⟨_, rfl⟩
                      replace hf := nm_some ex49 hf
                      refine lv_iinc (v := x49) (lv' := [(2, .int x49), (0, .ref (ad 12)), (1, .int a0), (3, .int x4), (4, .int x15), (5, .int x28)]) hx hb dX3_countRings_56 hl_36 (k := 2) rfl (by rw [ex49]; rfl) (by decide) rfl (fun ls_50 hl_50 => ?_)
                      cases hf
                      exact J41 H_40 lo_40 I_40 ls_50 (lv_sub hl_50 [1, 2, 0, 3, 4, 5] rfl)
                    · replace hf := (if_pos c57).symm.trans hf
                      refine lv_aload_n hx hb dX3_countRings_44 rfl (lv_at hl_36 0 rfl) ?_
                      refine lv_iload hx hb dX3_countRings_45 (lv_at hl_36 5 rfl) ?_
                      refine lv_iload hx hb dX3_countRings_47 (lv_at hl_36 4 rfl) ?_
                      refine lv_iload_n hx hb dX3_countRings_49 rfl (lv_at hl_36 3 rfl) ?_
                      obtain ⟨r51, h52, hf⟩ := bd_some hf
                      refine s_callVi (As := [.int x28, .int x15, .int x4]) (rest := []) F I_40 (cC_LE_isRing_12 G E Dd P L pf x28 x15 x4 r51 h52) kX3_57 ⟨rfl, rfl⟩ ⟨Nat.le_trans (Nat.le_of_ble_eq_true rfl) hRf, Nat.le_trans (Nat.le_of_ble_eq_true rfl) hRl⟩ 12 3 rfl rfl rfl rfl rfl hl_36.1 (Nat.le_of_ble_eq_true rfl) ⟨Nat.zero_le _, Nat.zero_le _⟩ dX3_countRings_50 ?_
                      intro H_53 lo_53 I_53
                      refine lv_if_eq (tgt := 59) hx hb dX3_countRings_53 (by decide) (fun c56 => ?_) (fun c56 => ?_)
                      · replace hf := (if_pos c56).symm.trans hf
                        cases hf
                        exact J41 H_53 lo_53 I_53 ls_36 (lv_sub hl_36 [0, 1, 2, 3, 4, 5] rfl)
                      · replace hf := (if_neg c56).symm.trans hf
                        obtain ⟨x54, ex54⟩ : ∃ y : Int32, y = x27 + (1 : Int32) := ⟨_, rfl⟩
                        replace hf := nm_some ex54 hf
                        refine lv_iinc (v := x54) (lv' := [(2, .int x54), (0, .ref (ad 12)), (1, .int a0), (3, .int x4), (4, .int x15), (5, .int x28)]) hx hb dX3_countRings_56 hl_36 (k := 2) rfl (by rw [ex54]; rfl) (by decide) rfl (fun ls_55 hl_55 => ?_)
                        cases hf
                        exact J41 H_53 lo_53 I_53 ls_55 (lv_sub hl_55 [1, 2, 0, 3, 4, 5] rfl)
              exact L3 FU _ _ hq3 H_22 lo_22 I_22 ls_26 (lv_sub hl_26 [1, 2, 3, 4, 5, 0] rfl)
        exact L2 FU _ _ hq2 H_9 lo_9 I_9 ls_13 (lv_sub hl_13 [1, 2, 3, 4, 0] rfl)
  exact L1 FU _ _ hq1 H lo I ls_2 (lv_sub hl_2 [2, 3, 1, 0] rfl)
def C_LT_ringsOf (G : Nat → Nat → Int32) (a0 : Int32) : Option (Int32 × (Nat → Nat → Int32)) :=
bd (C_LE_takeListener_12 G a0) fun G1 =>
bd (C_LE_countRings_12 G1 (G1 0 0)) fun r4 =>
some (r4, G1)
set_option maxRecDepth 100000 in
set_option maxHeartbeats 4000000 in
theorem cC_LT_ringsOf (G : Nat → Nat → Int32) (E : Nat → Nat → Int64) (Dd : Nat → Nat → UInt64) (P : Nat → Option Nat) (L : List Nat) (pf : Nat → va_E) (a0 : Int32) (rv : Int32) (newG : Nat → Nat → Int32) (hf : C_LT_ringsOf G a0 = some (rv, newG)) : sMi D (cT cI cJ cD cS) (cW ad cI cJ cD cS) l yX11_ringsOf (ws1 yX11_ringsOf cX11_ringsOf 2 (some .int)) ({ frames := 4, cells := 0, slots := 0, locals := 91 }) [.ref (ad 0), .int a0] (G, E, Dd, P, L, pf) (rv, (newG, E, Dd, P, L, pf)) := by
  unfold C_LT_ringsOf at hf
  refine sMi_of (by decide) (Nat.le_of_ble_eq_true rfl) ?_
  intro p e R s m args below meth c A Q ls H lo F hRf hRl I hl ret
  obtain ⟨hx, hb, hml, hown, hG⟩ := id F
  replace hl : lv_has ls 2 [(0, .ref (ad 0)), (1, .int a0)] := hl
  refine lv_aload_n hx hb dX11_ringsOf_0 rfl (lv_at hl 0 rfl) ?_
  refine kgtX11_44_0 F I dX11_ringsOf_1 ?_
  refine lv_aload_n hx hb dX11_ringsOf_4 rfl (lv_at hl 0 rfl) ?_
  refine kgtX11_16_0 F I dX11_ringsOf_5 ?_
  refine lv_iload_n hx hb dX11_ringsOf_8 rfl (lv_at hl 1 rfl) ?_
  obtain ⟨G1, h2, hf⟩ := bd_some hf
  refine s_callVv (As := [.ref (ad 2), .int a0]) (rest := []) F I (cC_LE_takeListener_12 G E Dd P L pf a0 G1 h2) kX11_233 ⟨rfl, rfl⟩ ⟨Nat.le_trans (Nat.le_of_ble_eq_true rfl) hRf, Nat.le_trans (Nat.le_of_ble_eq_true rfl) hRl⟩ 12 3 rfl rfl rfl rfl rfl hl.1 (Nat.le_of_ble_eq_true rfl) ⟨Nat.zero_le _, Nat.zero_le _⟩ dX11_ringsOf_9 ?_
  intro H_3 lo_3 I_3
  refine lv_aload_n hx hb dX11_ringsOf_12 rfl (lv_at hl 0 rfl) ?_
  refine kgtX11_44_0 F I_3 dX11_ringsOf_13 ?_
  refine lv_aload_n hx hb dX11_ringsOf_16 rfl (lv_at hl 0 rfl) ?_
  refine kgtX11_89_0 F I_3 dX11_ringsOf_17 ?_
  obtain ⟨r4, h5, hf⟩ := bd_some hf
  refine s_callVi (As := [.int (G1 0 0)]) (rest := []) F I_3 (cC_LE_countRings_12 G1 E Dd P L pf (G1 0 0) r4 h5) kX11_246 ⟨rfl, rfl⟩ ⟨Nat.le_trans (Nat.le_of_ble_eq_true rfl) hRf, Nat.le_trans (Nat.le_of_ble_eq_true rfl) hRl⟩ 12 3 rfl rfl rfl rfl rfl hl.1 (Nat.le_of_ble_eq_true rfl) ⟨Nat.zero_le _, Nat.zero_le _⟩ dX11_ringsOf_20 ?_
  intro H_6 lo_6 I_6
  cases hf
  exact ret H_6 lo_6 _ ls I_6 dX11_ringsOf_23
def C_LT_rings (G : Nat → Nat → Int32) (a0 : Int32) : Option (Int32 × (Nat → Nat → Int32)) :=
bd0 (C_LT_requireIndex a0 (G 1 0)) <|
bd2 (C_LT_ringsOf G a0) fun r3 G4 =>
some (r3, G4)
set_option maxRecDepth 100000 in
set_option maxHeartbeats 4000000 in
theorem cC_LT_rings (G : Nat → Nat → Int32) (E : Nat → Nat → Int64) (Dd : Nat → Nat → UInt64) (P : Nat → Option Nat) (L : List Nat) (pf : Nat → va_E) (a0 : Int32) (rv : Int32) (newG : Nat → Nat → Int32) (hf : C_LT_rings G a0 = some (rv, newG)) : sMi D (cT cI cJ cD cS) (cW ad cI cJ cD cS) l yX11_rings (ws1 yX11_rings cX11_rings 2 (some .int)) ({ frames := 5, cells := 0, slots := 0, locals := 112 }) [.ref (ad 0), .int a0] (G, E, Dd, P, L, pf) (rv, (newG, E, Dd, P, L, pf)) := by
  unfold C_LT_rings at hf
  refine sMi_of (by decide) (Nat.le_of_ble_eq_true rfl) ?_
  intro p e R s m args below meth c A Q ls H lo F hRf hRl I hl ret
  obtain ⟨hx, hb, hml, hown, hG⟩ := id F
  replace hl : lv_has ls 2 [(0, .ref (ad 0)), (1, .int a0)] := hl
  refine lv_iload_n hx hb dX11_rings_0 rfl (lv_at hl 1 rfl) ?_
  refine lv_aload_n hx hb dX11_rings_1 rfl (lv_at hl 0 rfl) ?_
  refine kgtX11_80_0 F I dX11_rings_2 ?_
  obtain ⟨h1, hf⟩ := bd0_some hf
  refine s_callSv (As := [.int a0, .int (G 1 0)]) (rest := []) F I (cC_LT_requireIndex G E Dd P L pf a0 (G 1 0) h1) kX11_84 ⟨rfl, rfl⟩ ⟨Nat.le_trans (Nat.le_of_ble_eq_true rfl) hRf, Nat.le_trans (Nat.le_of_ble_eq_true rfl) hRl⟩ rfl rfl hl.1 (Nat.le_of_ble_eq_true rfl) ⟨Nat.zero_le _, Nat.zero_le _⟩ dX11_rings_5 ?_
  intro H_2 lo_2 I_2
  refine lv_aload_n hx hb dX11_rings_8 rfl (lv_at hl 0 rfl) ?_
  refine lv_iload_n hx hb dX11_rings_9 rfl (lv_at hl 1 rfl) ?_
  obtain ⟨r3, G4, h5, hf⟩ := bd2_some hf
  refine s_callVi (As := [.int a0]) (rest := []) F I_2 (cC_LT_ringsOf G E Dd P L pf a0 r3 G4 h5) kX11_230 ⟨rfl, rfl⟩ ⟨Nat.le_trans (Nat.le_of_ble_eq_true rfl) hRf, Nat.le_trans (Nat.le_of_ble_eq_true rfl) hRl⟩ 0 11 rfl rfl rfl rfl rfl hl.1 (Nat.le_of_ble_eq_true rfl) ⟨Nat.zero_le _, Nat.zero_le _⟩ dX11_rings_10 ?_
  intro H_6 lo_6 I_6
  cases hf
  exact ret H_6 lo_6 _ ls I_6 dX11_rings_13
def C_LE_lead_12 (G : Nat → Nat → Int32) (a0 : Int32) (a1 : Int32) : Option (Int32) :=
nm (C_LT_cell a0 a1) fun r1 =>
ri 64 r1 <|
some (G 18 r1.toNatClampNeg)
set_option maxRecDepth 100000 in
set_option maxHeartbeats 4000000 in
theorem cC_LE_lead_12 (G : Nat → Nat → Int32) (E : Nat → Nat → Int64) (Dd : Nat → Nat → UInt64) (P : Nat → Option Nat) (L : List Nat) (pf : Nat → va_E) (a0 : Int32) (a1 : Int32) (rv : Int32)  (hf : C_LE_lead_12 G a0 a1 = some rv) : sMi D (cT cI cJ cD cS) (cW ad cI cJ cD cS) l yX3_lead (ws1 yX3_lead cX3_lead 3 (some .int)) ({ frames := 1, cells := 0, slots := 0, locals := 21 }) [.ref (ad 12), .int a0, .int a1] (G, E, Dd, P, L, pf) (rv, (G, E, Dd, P, L, pf)) := by
  unfold C_LE_lead_12 at hf
  refine sMi_of (by decide) (Nat.le_of_ble_eq_true rfl) ?_
  intro p e R s m args below meth c A Q ls H lo F hRf hRl I hl ret
  obtain ⟨hx, hb, hml, hown, hG⟩ := id F
  replace hl : lv_has ls 3 [(0, .ref (ad 12)), (1, .int a0), (2, .int a1)] := hl
  refine lv_aload_n hx hb dX3_lead_0 rfl (lv_at hl 0 rfl) ?_
  refine kgtX3_9_12 F I dX3_lead_1 ?_
  refine lv_iload_n hx hb dX3_lead_4 rfl (lv_at hl 1 rfl) ?_
  refine lv_iload_n hx hb dX3_lead_5 rfl (lv_at hl 2 rfl) ?_
  obtain ⟨r1, h2⟩ : ∃ z, z = C_LT_cell a0 a1 := ⟨_, rfl⟩
  replace hf := nm_some h2 hf
  refine s_callSNi (As := [.int a0, .int a1]) (rest := [.ref (ad 13)]) F I (cC_LT_cell G E Dd P L pf a0 a1 r1 h2) kX3_50 ⟨rfl, rfl⟩ ⟨Nat.le_trans (Nat.le_of_ble_eq_true rfl) hRf, Nat.le_trans (Nat.le_of_ble_eq_true rfl) hRl⟩ rfl rfl hl.1 (Nat.le_of_ble_eq_true rfl) ⟨Nat.zero_le _, Nat.zero_le _⟩ dX3_lead_6 ?_
  intro H_3 lo_3 I_3
  obtain ⟨g4, hf⟩ := ri_some hf
  refine kal13 F I_3 g4 dX3_lead_9 ?_
  cases hf
  exact ret H_3 lo_3 _ ls I_3 dX3_lead_10
def C_LE_isComplete_12_s2 (a0 : Int32) (x2 : Int32) (G : Nat → Nat → Int32) (x8 : Int32) : Option ((Int32) ⊕ ((Int32) ⊕ (Int32))) :=
if a0 ≤ x8 then
(nm (x2 + (1 : Int32) : Int32) fun x12 =>
some (.inr (.inl x12)))
else
(bd (C_LE_lead_12 G x2 x8) fun r14 =>
if r14 = 0 then
(some (.inr (.inr (0 : Int32))))
else
(nm (x8 + (1 : Int32) : Int32) fun x17 =>
some (.inl x17)))
def C_LE_isComplete_12_s1 (a0 : Int32) (G : Nat → Nat → Int32) (x2 : Int32) : Option ((Int32) ⊕ (Int32)) :=
if a0 ≤ x2 then
(some (.inr (1 : Int32)))
else
(nm (x2 + (1 : Int32) : Int32) fun x6 =>
lp (fun q => C_LE_isComplete_12_s2 a0 x2 G q) FU x6)
def C_LE_isComplete_12 (G : Nat → Nat → Int32) (a0 : Int32) : Option (Int32) :=
lp (fun q => C_LE_isComplete_12_s1 a0 G q) FU (0 : Int32)
set_option maxRecDepth 100000 in
set_option maxHeartbeats 4000000 in
theorem cC_LE_isComplete_12 (G : Nat → Nat → Int32) (E : Nat → Nat → Int64) (Dd : Nat → Nat → UInt64) (P : Nat → Option Nat) (L : List Nat) (pf : Nat → va_E) (a0 : Int32) (rv : Int32)  (hf : C_LE_isComplete_12 G a0 = some rv) : sMi D (cT cI cJ cD cS) (cW ad cI cJ cD cS) l yX3_isComplete (ws1 yX3_isComplete cX3_isComplete 4 (some .boolean)) ({ frames := 2, cells := 0, slots := 0, locals := 43 }) [.ref (ad 12), .int a0] (G, E, Dd, P, L, pf) (rv, (G, E, Dd, P, L, pf)) := by
  unfold C_LE_isComplete_12 at hf
  refine sMz_of (by decide) (Nat.le_of_ble_eq_true rfl) ?_
  intro p e R s m args below meth c A Q ls H lo F hRf hRl I hl ret
  obtain ⟨hx, hb, hml, hown, hG⟩ := id F
  replace hl : lv_has ls 4 [(0, .ref (ad 12)), (1, .int a0)] := hl
  refine lv_iconst (v := (0 : Int32)) hx hb dX3_isComplete_0 (by decide) ?_
  refine lv_istore_n (lv' := [(2, .int (0 : Int32)), (0, .ref (ad 12)), (1, .int a0)]) hx hb dX3_isComplete_1 rfl hl (by decide) rfl (fun ls_1 hl_1 => ?_)
  have hq1 : lp (fun q => C_LE_isComplete_12_s1 a0 G q) FU (0 : Int32) = some rv := hf
  have L1 : ∀ (n : Nat) (x2 : Int32), lp (fun q => C_LE_isComplete_12_s1 a0 G q) n x2 = some rv → ∀ (H : Heap) (locs : List Loc), sInv D (cT cI cJ cD cS) (cW ad cI cJ cD cS) A s H locs (G, E, Dd, P, L, pf) → ∀ (ls : Array Slot), lv_has ls 4 [(0, .ref (ad 12)), (1, .int a0), (2, .int x2)] → W p l e R s m args below meth c H locs 0 0 Q (F0 m 2 ls []) := by
    intro n
    induction n with
    | zero => intro x2 hq; exact (lp_0 hq).elim
    | succ n ih1 =>
      intro x2 hq H_3 lo_3 I_3 ls_4 hl_4
      obtain ⟨y1, hf, hK1⟩ := lp_go hq
      replace hf : C_LE_isComplete_12_s1 a0 G x2 = some y1 := hf
      unfold C_LE_isComplete_12_s1 at hf
      refine lv_iload_n hx hb dX3_isComplete_2 rfl (lv_at hl_4 2 rfl) ?_
      refine lv_iload_n hx hb dX3_isComplete_3 rfl (lv_at hl_4 1 rfl) ?_
      refine lv_icmp_ge (tgt := 39) hx hb dX3_isComplete_4 (by decide) (fun c21 => ?_) (fun c21 => ?_)
      · replace hf := (if_pos c21).symm.trans hf
        refine lv_iconst (v := (1 : Int32)) hx hb dX3_isComplete_39 (by decide) ?_
        cases hf
        have hf := congrArg some (show _ = _ from hK1)
        cases hf
        exact ret H_3 lo_3 _ ls_4 I_3 (Or.inr rfl) dX3_isComplete_40
      · replace hf := (if_neg c21).symm.trans hf
        refine lv_iload_n hx hb dX3_isComplete_7 rfl (lv_at hl_4 2 rfl) ?_
        refine lv_iconst (v := (1 : Int32)) hx hb dX3_isComplete_8 (by decide) ?_
        refine lv_iadd hx hb dX3_isComplete_9 ?_
        refine lv_topi (fun x6 ex6 => ?_)
        replace hf := nm_some ex6 hf
        refine lv_istore_n (lv' := [(3, .int x6), (0, .ref (ad 12)), (1, .int a0), (2, .int x2)]) hx hb dX3_isComplete_10 rfl hl_4 (by decide) rfl (fun ls_7 hl_7 => ?_)
        have hq2 : lp (fun q => C_LE_isComplete_12_s2 a0 x2 G q) FU x6 = some y1 := hf
        have L2 : ∀ (n : Nat) (x8 : Int32), lp (fun q => C_LE_isComplete_12_s2 a0 x2 G q) n x8 = some y1 → ∀ (H : Heap) (locs : List Loc), sInv D (cT cI cJ cD cS) (cW ad cI cJ cD cS) A s H locs (G, E, Dd, P, L, pf) → ∀ (ls : Array Slot), lv_has ls 4 [(0, .ref (ad 12)), (1, .int a0), (2, .int x2), (3, .int x8)] → W p l e R s m args below meth c H locs 0 0 Q (F0 m 11 ls []) := by
          intro n
          induction n with
          | zero => intro x8 hq; exact (lp_0 hq).elim
          | succ n ih2 =>
            intro x8 hq H_9 lo_9 I_9 ls_10 hl_10
            obtain ⟨y2, hf, hK2⟩ := lp_go hq
            replace hf : C_LE_isComplete_12_s2 a0 x2 G x8 = some y2 := hf
            unfold C_LE_isComplete_12_s2 at hf
            refine lv_iload_n hx hb dX3_isComplete_11 rfl (lv_at hl_10 3 rfl) ?_
            refine lv_iload_n hx hb dX3_isComplete_12 rfl (lv_at hl_10 1 rfl) ?_
            refine lv_icmp_ge (tgt := 33) hx hb dX3_isComplete_13 (by decide) (fun c20 => ?_) (fun c20 => ?_)
            · replace hf := (if_pos c20).symm.trans hf
              obtain ⟨x12, ex12⟩ : ∃ y : Int32, y = x2 + (1 : Int32) := ⟨_, rfl⟩
              replace hf := nm_some ex12 hf
              refine lv_iinc (v := x12) (lv' := [(2, .int x12), (0, .ref (ad 12)), (1, .int a0), (3, .int x8)]) hx hb dX3_isComplete_33 hl_10 (k := 2) rfl (by rw [ex12]; rfl) (by decide) rfl (fun ls_13 hl_13 => ?_)
              refine lv_goto (tgt := 2) hx hb dX3_isComplete_36 (by decide) ?_
              cases hf
              have hf := congrArg some (show _ = _ from hK2)
              cases hf
              exact ih1 _ hK1 H_9 lo_9 I_9 ls_13 (lv_sub hl_13 [1, 2, 0] rfl)
            · replace hf := (if_neg c20).symm.trans hf
              refine lv_aload_n hx hb dX3_isComplete_16 rfl (lv_at hl_10 0 rfl) ?_
              refine lv_iload_n hx hb dX3_isComplete_17 rfl (lv_at hl_10 2 rfl) ?_
              refine lv_iload_n hx hb dX3_isComplete_18 rfl (lv_at hl_10 3 rfl) ?_
              obtain ⟨r14, h15, hf⟩ := bd_some hf
              refine s_callVi (As := [.int x2, .int x8]) (rest := []) F I_9 (cC_LE_lead_12 G E Dd P L pf x2 x8 r14 h15) kX3_54 ⟨rfl, rfl⟩ ⟨Nat.le_trans (Nat.le_of_ble_eq_true rfl) hRf, Nat.le_trans (Nat.le_of_ble_eq_true rfl) hRl⟩ 12 3 rfl rfl rfl rfl rfl hl_10.1 (Nat.le_of_ble_eq_true rfl) ⟨Nat.zero_le _, Nat.zero_le _⟩ dX3_isComplete_19 ?_
              intro H_16 lo_16 I_16
              refine lv_if_ne (tgt := 27) hx hb dX3_isComplete_22 (by decide) (fun c19 => ?_) (fun c19 => ?_)
              · replace hf := (if_neg c19).symm.trans hf
                obtain ⟨x17, ex17⟩ : ∃ y : Int32, y = x8 + (1 : Int32) := ⟨_, rfl⟩
                replace hf := nm_some ex17 hf
                refine lv_iinc (v := x17) (lv' := [(3, .int x17), (0, .ref (ad 12)), (1, .int a0), (2, .int x2)]) hx hb dX3_isComplete_27 hl_10 (k := 3) rfl (by rw [ex17]; rfl) (by decide) rfl (fun ls_18 hl_18 => ?_)
                refine lv_goto (tgt := 11) hx hb dX3_isComplete_30 (by decide) ?_
                cases hf
                exact ih2 _ hK2 H_16 lo_16 I_16 ls_18 (lv_sub hl_18 [1, 2, 3, 0] rfl)
              · replace hf := (if_pos c19).symm.trans hf
                refine lv_iconst (v := (0 : Int32)) hx hb dX3_isComplete_25 (by decide) ?_
                cases hf
                have hf := congrArg some (show _ = _ from hK2)
                cases hf
                have hf := congrArg some (show _ = _ from hK1)
                cases hf
                exact ret H_16 lo_16 _ ls_10 I_16 (Or.inl rfl) dX3_isComplete_26
        exact L2 FU _ hq2 H_3 lo_3 I_3 ls_7 (lv_sub hl_7 [1, 2, 3, 0] rfl)
  exact L1 FU _ hq1 H lo I ls_1 (lv_sub hl_1 [1, 2, 0] rfl)
def C_LT_mostRings (a0 : Int32) : Option (Int32) :=
if a0 - a0 / (2 : Int32) * (2 : Int32) = (1 : Int32) then
(some ((((a0 * a0) * a0) - a0) / (24 : Int32)))
else
(some ((((a0 * a0) * a0) - ((4 : Int32) * a0)) / (24 : Int32)))
set_option maxRecDepth 100000 in
set_option maxHeartbeats 4000000 in
theorem cC_LT_mostRings (G : Nat → Nat → Int32) (E : Nat → Nat → Int64) (Dd : Nat → Nat → UInt64) (P : Nat → Option Nat) (L : List Nat) (pf : Nat → va_E) (a0 : Int32) (rv : Int32)  (hf : C_LT_mostRings a0 = some rv) : sMi D (cT cI cJ cD cS) (cW ad cI cJ cD cS) l yX11_mostRings (ws1 yX11_mostRings cX11_mostRings 1 (some .int)) ({ frames := 0, cells := 0, slots := 0, locals := 0 }) [.int a0] (G, E, Dd, P, L, pf) (rv, (G, E, Dd, P, L, pf)) := by
  unfold C_LT_mostRings at hf
  refine sMi_of (by decide) (Nat.le_of_ble_eq_true rfl) ?_
  intro p e R s m args below meth c A Q ls H lo F hRf hRl I hl ret
  obtain ⟨hx, hb, hml, hown, hG⟩ := id F
  replace hl : lv_has ls 1 [(0, .int a0)] := hl
  refine lv_iload_n hx hb dX11_mostRings_0 rfl (lv_at hl 0 rfl) ?_
  refine lv_iconst (v := (2 : Int32)) hx hb dX11_mostRings_1 (by decide) ?_
  refine lv_irem hx hb dX11_mostRings_2 (by decide) ?_
  refine lv_iconst (v := (1 : Int32)) hx hb dX11_mostRings_3 (by decide) ?_
  refine lv_icmp_ne (tgt := 20) hx hb dX11_mostRings_4 (by decide) (fun c1 => ?_) (fun c1 => ?_)
  · replace hf := (if_neg c1).symm.trans hf
    refine lv_iload_n hx hb dX11_mostRings_20 rfl (lv_at hl 0 rfl) ?_
    refine lv_iload_n hx hb dX11_mostRings_21 rfl (lv_at hl 0 rfl) ?_
    refine lv_imul hx hb dX11_mostRings_22 ?_
    refine lv_iload_n hx hb dX11_mostRings_23 rfl (lv_at hl 0 rfl) ?_
    refine lv_imul hx hb dX11_mostRings_24 ?_
    refine lv_iconst (v := (4 : Int32)) hx hb dX11_mostRings_25 (by decide) ?_
    refine lv_iload_n hx hb dX11_mostRings_26 rfl (lv_at hl 0 rfl) ?_
    refine lv_imul hx hb dX11_mostRings_27 ?_
    refine lv_isub hx hb dX11_mostRings_28 ?_
    refine lv_bipush (v := (24 : Int32)) hx hb dX11_mostRings_29 (by decide) ?_
    refine lv_idiv hx hb dX11_mostRings_31 (by decide) ?_
    cases hf
    exact ret H lo _ ls I dX11_mostRings_32
  · replace hf := (if_pos c1).symm.trans hf
    refine lv_iload_n hx hb dX11_mostRings_7 rfl (lv_at hl 0 rfl) ?_
    refine lv_iload_n hx hb dX11_mostRings_8 rfl (lv_at hl 0 rfl) ?_
    refine lv_imul hx hb dX11_mostRings_9 ?_
    refine lv_iload_n hx hb dX11_mostRings_10 rfl (lv_at hl 0 rfl) ?_
    refine lv_imul hx hb dX11_mostRings_11 ?_
    refine lv_iload_n hx hb dX11_mostRings_12 rfl (lv_at hl 0 rfl) ?_
    refine lv_isub hx hb dX11_mostRings_13 ?_
    refine lv_bipush (v := (24 : Int32)) hx hb dX11_mostRings_14 (by decide) ?_
    refine lv_idiv hx hb dX11_mostRings_16 (by decide) ?_
    refine lv_goto (tgt := 32) hx hb dX11_mostRings_17 (by decide) ?_
    cases hf
    exact ret H lo _ ls I dX11_mostRings_32
def C_LT_consistency (G : Nat → Nat → Int32) (a0 : Int32) : Option (UInt64 × (Nat → Nat → Int32)) :=
bd0 (C_LT_requireIndex a0 (G 1 0)) <|
bd (C_LE_takeListener_12 G a0) fun G3 =>
bd (C_LE_isComplete_12 G3 (G3 0 0)) fun r6 =>
if r6 = 0 then
(none)
else
(bd (C_LT_mostRings (G3 0 0)) fun r9 =>
if r9 = 0 then
(some (FP.dconst1, G3))
else
(bd (C_LE_countRings_12 G3 (G3 0 0)) fun r13 =>
some ((FP.dsub FP.dconst1 (FP.ddiv (FP.i2d r13) (FP.i2d r9))), G3)))
set_option maxRecDepth 100000 in
set_option maxHeartbeats 4000000 in
theorem cC_LT_consistency (G : Nat → Nat → Int32) (E : Nat → Nat → Int64) (Dd : Nat → Nat → UInt64) (P : Nat → Option Nat) (L : List Nat) (pf : Nat → va_E) (a0 : Int32) (rv : UInt64) (newG : Nat → Nat → Int32) (hf : C_LT_consistency G a0 = some (rv, newG)) : sDd D (cT cI cJ cD cS) (cW ad cI cJ cD cS) cSm l yX11_consistency (ws1 yX11_consistency cX11_consistency 3 (some .double)) ({ frames := 4, cells := 0, slots := 0, locals := 91 }) [.ref (ad 0), .int a0] (G, E, Dd, P, L, pf) (rv, (newG, E, Dd, P, L, pf)) := by
  unfold C_LT_consistency at hf
  refine sDd_of (by decide) (Nat.le_of_ble_eq_true rfl) ?_
  intro p e R s m args below meth c A Q ls H lo dr sgm F hRf hRl hd hsm I hl ret
  obtain ⟨_, _, Dm, _⟩ := sgm
  obtain ⟨rfl, rfl, ha, rfl⟩ := cSm_dest hsm
  obtain ⟨hx, hb, hml, hown, hG⟩ := id F
  replace hl : lv_has ls 3 [(0, .ref (ad 0)), (1, .int a0)] := hl
  refine lv_iload_n hx hb dX11_consistency_0 rfl (lv_at hl 1 rfl) ?_
  refine lv_aload_n hx hb dX11_consistency_1 rfl (lv_at hl 0 rfl) ?_
  refine kgtX11_80_0 (Fdr F) (Idr I) dX11_consistency_2 ?_
  obtain ⟨h1, hf⟩ := bd0_some hf
  refine s_callSv (As := [.int a0, .int (G 1 0)]) (rest := []) (Fdr F) (Idr I) (cC_LT_requireIndex G E Dm P L pf a0 (G 1 0) h1) kX11_84 ⟨rfl, rfl⟩ ⟨Nat.le_trans (Nat.le_of_ble_eq_true rfl) hRf, Nat.le_trans (Nat.le_of_ble_eq_true rfl) hRl⟩ rfl rfl hl.1 (Nat.le_of_ble_eq_true rfl) ⟨Nat.zero_le _, Nat.zero_le _⟩ dX11_consistency_5 ?_
  intro H_2 lo_2 I_2
  replace I_2 := Irr I_2
  refine lv_aload_n hx hb dX11_consistency_8 rfl (lv_at hl 0 rfl) ?_
  refine kgtX11_44_0 (Fdr F) (Idr I_2) dX11_consistency_9 ?_
  refine lv_aload_n hx hb dX11_consistency_12 rfl (lv_at hl 0 rfl) ?_
  refine kgtX11_16_0 (Fdr F) (Idr I_2) dX11_consistency_13 ?_
  refine lv_iload_n hx hb dX11_consistency_16 rfl (lv_at hl 1 rfl) ?_
  obtain ⟨G3, h4, hf⟩ := bd_some hf
  refine s_callVv (As := [.ref (ad 2), .int a0]) (rest := []) (Fdr F) (Idr I_2) (cC_LE_takeListener_12 G E Dm P L pf a0 G3 h4) kX11_233 ⟨rfl, rfl⟩ ⟨Nat.le_trans (Nat.le_of_ble_eq_true rfl) hRf, Nat.le_trans (Nat.le_of_ble_eq_true rfl) hRl⟩ 12 3 rfl rfl rfl rfl rfl hl.1 (Nat.le_of_ble_eq_true rfl) ⟨Nat.zero_le _, Nat.zero_le _⟩ dX11_consistency_17 ?_
  intro H_5 lo_5 I_5
  replace I_5 := Irr I_5
  refine lv_aload_n hx hb dX11_consistency_20 rfl (lv_at hl 0 rfl) ?_
  refine kgtX11_44_0 (Fdr F) (Idr I_5) dX11_consistency_21 ?_
  refine lv_aload_n hx hb dX11_consistency_24 rfl (lv_at hl 0 rfl) ?_
  refine kgtX11_89_0 (Fdr F) (Idr I_5) dX11_consistency_25 ?_
  obtain ⟨r6, h7, hf⟩ := bd_some hf
  refine s_callVi (As := [.int (G3 0 0)]) (rest := []) (Fdr F) (Idr I_5) (cC_LE_isComplete_12 G3 E Dm P L pf (G3 0 0) r6 h7) kX11_237 ⟨rfl, rfl⟩ ⟨Nat.le_trans (Nat.le_of_ble_eq_true rfl) hRf, Nat.le_trans (Nat.le_of_ble_eq_true rfl) hRl⟩ 12 3 rfl rfl rfl rfl rfl hl.1 (Nat.le_of_ble_eq_true rfl) ⟨Nat.zero_le _, Nat.zero_le _⟩ dX11_consistency_28 ?_
  intro H_8 lo_8 I_8
  replace I_8 := Irr I_8
  refine lv_if_ne (tgt := 44) hx hb dX11_consistency_31 (by decide) (fun c21 => ?_) (fun c21 => ?_)
  · replace hf := (if_neg c21).symm.trans hf
    refine lv_aload_n hx hb dX11_consistency_44 rfl (lv_at hl 0 rfl) ?_
    refine kgtX11_89_0 (Fdr F) (Idr I_8) dX11_consistency_45 ?_
    obtain ⟨r9, h10, hf⟩ := bd_some hf
    refine s_callSi (As := [.int (G3 0 0)]) (rest := []) (Fdr F) (Idr I_8) (cC_LT_mostRings G3 E Dm P L pf (G3 0 0) r9 h10) kX11_243 ⟨rfl, rfl⟩ ⟨Nat.le_trans (Nat.le_of_ble_eq_true rfl) hRf, Nat.le_trans (Nat.le_of_ble_eq_true rfl) hRl⟩ rfl rfl hl.1 (Nat.le_of_ble_eq_true rfl) ⟨Nat.zero_le _, Nat.zero_le _⟩ dX11_consistency_48 ?_
    intro H_11 lo_11 I_11
    replace I_11 := Irr I_11
    refine lv_istore_n (lv' := [(2, .int r9), (0, .ref (ad 0)), (1, .int a0)]) hx hb dX11_consistency_51 rfl hl (by decide) rfl (fun ls_12 hl_12 => ?_)
    refine lv_iload_n hx hb dX11_consistency_52 rfl (lv_at hl_12 0 rfl) ?_
    refine lv_if_ne (tgt := 58) hx hb dX11_consistency_53 (by decide) (fun c20 => ?_) (fun c20 => ?_)
    · replace hf := (if_neg c20).symm.trans hf
      refine lv_dconst1 hx hb dX11_consistency_58 ?_
      refine lv_aload_n hx hb dX11_consistency_59 rfl (lv_at hl_12 1 rfl) ?_
      refine kgtX11_44_0 (Fdr F) (Idr I_11) dX11_consistency_60 ?_
      refine lv_aload_n hx hb dX11_consistency_63 rfl (lv_at hl_12 1 rfl) ?_
      refine kgtX11_89_0 (Fdr F) (Idr I_11) dX11_consistency_64 ?_
      obtain ⟨r13, h14, hf⟩ := bd_some hf
      refine s_callVi (As := [.int (G3 0 0)]) (rest := [.double (FP.dconst1)]) (Fdr F) (Idr I_11) (cC_LE_countRings_12 G3 E Dm P L pf (G3 0 0) r13 h14) kX11_246 ⟨rfl, rfl⟩ ⟨Nat.le_trans (Nat.le_of_ble_eq_true rfl) hRf, Nat.le_trans (Nat.le_of_ble_eq_true rfl) hRl⟩ 12 3 rfl rfl rfl rfl rfl hl_12.1 (Nat.le_of_ble_eq_true rfl) ⟨Nat.zero_le _, Nat.zero_le _⟩ dX11_consistency_67 ?_
      intro H_15 lo_15 I_15
      replace I_15 := Irr I_15
      refine lv_i2d hx hb dX11_consistency_70 ?_
      refine lv_iload_n hx hb dX11_consistency_71 rfl (lv_at hl_12 0 rfl) ?_
      refine lv_i2d hx hb dX11_consistency_72 ?_
      refine lv_ddiv_any hd lw_bits hx hb dX11_consistency_73 (fun u16 dr_17 alu16 hd_17 => ?_)
      have hu16 := al_ddiv alu16 (al_rf _) (al_rf _)
      refine lv_dsub_any hd_17 lw_bits hx hb dX11_consistency_74 (fun u18 dr_19 alu18 hd_19 => ?_)
      have hu18 := al_dsub alu18 (al_rf _) hu16
      cases hf
      exact ret H_15 lo_15 _ ls_12 dr_19 _ _ hd_19 I_15 ⟨rfl, rfl, ha, rfl⟩ hu18 dX11_consistency_75
    · replace hf := (if_pos c20).symm.trans hf
      refine lv_dconst1 hx hb dX11_consistency_56 ?_
      cases hf
      exact ret H_11 lo_11 _ ls_12 dr _ _ hd I_11 ⟨rfl, rfl, ha, rfl⟩ (al_rf _) dX11_consistency_57
  · replace hf := (if_pos c21).symm.trans hf
    cases hf
def C_JA_fill_i_15_s1 (a1 : Int32) (x3 : Int32) (G4 : Nat → Nat → Int32) : Option ((Int32 × (Nat → Nat → Int32)) ⊕ ((Nat → Nat → Int32))) :=
if (64 : Int32) ≤ x3 then
(some (.inr G4))
else
(ri 64 x3 <|
nm (wr G4 19 x3 a1) fun G13 =>
nm (x3 + (1 : Int32) : Int32) fun x15 =>
some (.inl (x15, G13)))
def C_JA_fill_i_15 (G : Nat → Nat → Int32) (a1 : Int32) : Option ((Nat → Nat → Int32)) :=
bd (lp (fun q => C_JA_fill_i_15_s1 a1 q.1 q.2) FU ((0 : Int32), G)) fun G5 =>
some G5
set_option maxRecDepth 100000 in
set_option maxHeartbeats 4000000 in
theorem cC_JA_fill_i_15 (G : Nat → Nat → Int32) (E : Nat → Nat → Int64) (Dd : Nat → Nat → UInt64) (P : Nat → Option Nat) (L : List Nat) (pf : Nat → va_E) (a1 : Int32)  (newG : Nat → Nat → Int32) (hf : C_JA_fill_i_15 G a1 = some newG) : sMv D (cT cI cJ cD cS) (cW ad cI cJ cD cS) l yJ7_fill_53178 (ws1 yJ7_fill_53178 cJ7_fill_53178 4 none) ({ frames := 0, cells := 0, slots := 0, locals := 0 }) [.ref (ad 15), .int a1] (G, E, Dd, P, L, pf) (newG, E, Dd, P, L, pf) := by
  unfold C_JA_fill_i_15 at hf
  refine sMv_of (by decide) (Nat.le_of_ble_eq_true rfl) ?_
  intro p e R s m args below meth c A Q ls H lo F hRf hRl I hl ret
  obtain ⟨hx, hb, hml, hown, hG⟩ := id F
  replace hl : lv_has ls 4 [(0, .ref (ad 15)), (1, .int a1)] := hl
  refine lv_iconst (v := (0 : Int32)) hx hb dJ7_fill_53178_0 (by decide) ?_
  refine lv_istore_n (lv' := [(2, .int (0 : Int32)), (0, .ref (ad 15)), (1, .int a1)]) hx hb dJ7_fill_53178_1 rfl hl (by decide) rfl (fun ls_1 hl_1 => ?_)
  refine lv_aload_n hx hb dJ7_fill_53178_2 rfl (lv_at hl_1 1 rfl) ?_
  refine kln15 F I dJ7_fill_53178_3 ?_
  refine lv_istore_n (lv' := [(3, .int (64 : Int32)), (2, .int (0 : Int32)), (0, .ref (ad 15)), (1, .int a1)]) hx hb dJ7_fill_53178_4 rfl hl_1 (by decide) rfl (fun ls_2 hl_2 => ?_)
  obtain ⟨G5, hq1, hf⟩ := bd_some hf
  have K1 : ∀ (H : Heap) (locs : List Loc), sInv D (cT cI cJ cD cS) (cW ad cI cJ cD cS) A s H locs (G5, E, Dd, P, L, pf) → ∀ (ls : Array Slot), lv_has ls 4 [] → W p l e R s m args below meth c H locs 0 0 Q (F0 m 20 ls []) := by
    intro H_6 lo_6 I_6 ls_7 hl_7
    cases hf
    exact ret H_6 lo_6 _ ls_7 I_6 dJ7_fill_53178_20
  have L1 : ∀ (n : Nat) (x3 : Int32) (G4 : Nat → Nat → Int32), lp (fun q => C_JA_fill_i_15_s1 a1 q.1 q.2) n (x3, G4) = some G5 → ∀ (H : Heap) (locs : List Loc), sInv D (cT cI cJ cD cS) (cW ad cI cJ cD cS) A s H locs (G4, E, Dd, P, L, pf) → ∀ (ls : Array Slot), lv_has ls 4 [(0, .ref (ad 15)), (1, .int a1), (2, .int x3), (3, .int (64 : Int32))] → W p l e R s m args below meth c H locs 0 0 Q (F0 m 5 ls []) := by
    intro n
    induction n with
    | zero => intro x3 G4 hq; exact (lp_0 hq).elim
    | succ n ih1 =>
      intro x3 G4 hq H_9 lo_9 I_9 ls_10 hl_10
      obtain ⟨y1, hf, hK1⟩ := lp_go hq
      replace hf : C_JA_fill_i_15_s1 a1 x3 G4 = some y1 := hf
      unfold C_JA_fill_i_15_s1 at hf
      refine lv_iload_n hx hb dJ7_fill_53178_5 rfl (lv_at hl_10 2 rfl) ?_
      refine lv_iload_n hx hb dJ7_fill_53178_6 rfl (lv_at hl_10 3 rfl) ?_
      refine lv_icmp_ge (tgt := 20) hx hb dJ7_fill_53178_7 (by decide) (fun c17 => ?_) (fun c17 => ?_)
      · replace hf := (if_pos c17).symm.trans hf
        cases hf
        cases (show G4 = G5 from hK1)
        exact K1 H_9 lo_9 I_9 ls_10 (lv_sub hl_10 [] rfl)
      · replace hf := (if_neg c17).symm.trans hf
        refine lv_aload_n hx hb dJ7_fill_53178_10 rfl (lv_at hl_10 0 rfl) ?_
        refine lv_iload_n hx hb dJ7_fill_53178_11 rfl (lv_at hl_10 2 rfl) ?_
        refine lv_iload_n hx hb dJ7_fill_53178_12 rfl (lv_at hl_10 1 rfl) ?_
        obtain ⟨g12, hf⟩ := ri_some hf
        refine kas15 F I_9 g12 dJ7_fill_53178_13 ?_
        intro H_14 lo_14 G13 eG13 I_14
        replace hf := nm_some eG13 hf
        obtain ⟨x15, ex15⟩ : ∃ y : Int32, y = x3 + (1 : Int32) := ⟨_, rfl⟩
        replace hf := nm_some ex15 hf
        refine lv_iinc (v := x15) (lv' := [(2, .int x15), (0, .ref (ad 15)), (1, .int a1), (3, .int (64 : Int32))]) hx hb dJ7_fill_53178_14 hl_10 (k := 2) rfl (by rw [ex15]; rfl) (by decide) rfl (fun ls_16 hl_16 => ?_)
        refine lv_goto (tgt := 5) hx hb dJ7_fill_53178_17 (by decide) ?_
        cases hf
        exact ih1 _ _ hK1 H_14 lo_14 I_14 ls_16 (lv_sub hl_16 [1, 2, 0, 3] rfl)
  exact L1 FU _ _ hq1 H lo I ls_2 (lv_sub hl_2 [2, 3, 1, 0] rfl)
def C_LE_clearAll_14 (G : Nat → Nat → Int32) : Option ((Nat → Nat → Int32)) :=
bd (C_JA_fill_i_15 G (0 : Int32)) fun G1 =>
some G1
set_option maxRecDepth 100000 in
set_option maxHeartbeats 4000000 in
theorem cC_LE_clearAll_14 (G : Nat → Nat → Int32) (E : Nat → Nat → Int64) (Dd : Nat → Nat → UInt64) (P : Nat → Option Nat) (L : List Nat) (pf : Nat → va_E)   (newG : Nat → Nat → Int32) (hf : C_LE_clearAll_14 G = some newG) : sMv D (cT cI cJ cD cS) (cW ad cI cJ cD cS) l yX3_clearAll (ws1 yX3_clearAll cX3_clearAll 1 none) ({ frames := 1, cells := 0, slots := 0, locals := 23 }) [.ref (ad 14)] (G, E, Dd, P, L, pf) (newG, E, Dd, P, L, pf) := by
  unfold C_LE_clearAll_14 at hf
  refine sMv_of (by decide) (Nat.le_of_ble_eq_true rfl) ?_
  intro p e R s m args below meth c A Q ls H lo F hRf hRl I hl ret
  obtain ⟨hx, hb, hml, hown, hG⟩ := id F
  replace hl : lv_has ls 1 [(0, .ref (ad 14))] := hl
  refine lv_aload_n hx hb dX3_clearAll_0 rfl (lv_at hl 0 rfl) ?_
  refine kgtX3_9_14 F I dX3_clearAll_1 ?_
  refine lv_iconst (v := (0 : Int32)) hx hb dX3_clearAll_4 (by decide) ?_
  obtain ⟨G1, h2, hf⟩ := bd_some hf
  refine s_callSv (As := [.ref (ad 15), .int (0 : Int32)]) (rest := []) F I (cC_JA_fill_i_15 G E Dd P L pf (0 : Int32) G1 h2) kX3_15 ⟨rfl, rfl⟩ ⟨Nat.le_trans (Nat.le_of_ble_eq_true rfl) hRf, Nat.le_trans (Nat.le_of_ble_eq_true rfl) hRl⟩ rfl rfl hl.1 (Nat.le_of_ble_eq_true rfl) ⟨Nat.zero_le _, Nat.zero_le _⟩ dX3_clearAll_5 ?_
  intro H_3 lo_3 I_3
  cases hf
  exact ret H_3 lo_3 _ ls I_3 dX3_clearAll_8
def C_LE_addWin_14 (G : Nat → Nat → Int32) (a0 : Int32) (a1 : Int32) : Option ((Nat → Nat → Int32)) :=
nm (C_CO_answerOf a0) fun r1 =>
if r1 = 0 then
(some G)
else
(bd (C_CO_winnerOf a0) fun r4 =>
bd (C_CO_loserOf a0) fun r8 =>
nm (C_LT_cell r4 r8) fun r12 =>
ri 64 r12 <|
ri 64 r12 <|
nm (wr G 19 r12 ((G 19 r12.toNatClampNeg) + a1)) fun G17 =>
nm (C_LT_cell r8 r4) fun r19 =>
ri 64 r19 <|
ri 64 r19 <|
nm (wr G17 19 r19 ((G17 19 r19.toNatClampNeg) - a1)) fun G24 =>
some G24)
set_option maxRecDepth 100000 in
set_option maxHeartbeats 4000000 in
theorem cC_LE_addWin_14 (G : Nat → Nat → Int32) (E : Nat → Nat → Int64) (Dd : Nat → Nat → UInt64) (P : Nat → Option Nat) (L : List Nat) (pf : Nat → va_E) (a0 : Int32) (a1 : Int32)  (newG : Nat → Nat → Int32) (hf : C_LE_addWin_14 G a0 a1 = some newG) : sMv D (cT cI cJ cD cS) (cW ad cI cJ cD cS) l yX3_addWin (ws1 yX3_addWin cX3_addWin 5 none) ({ frames := 2, cells := 0, slots := 0, locals := 40 }) [.ref (ad 14), .int a0, .int a1] (G, E, Dd, P, L, pf) (newG, E, Dd, P, L, pf) := by
  unfold C_LE_addWin_14 at hf
  refine sMv_of (by decide) (Nat.le_of_ble_eq_true rfl) ?_
  intro p e R s m args below meth c A Q ls H lo F hRf hRl I hl ret
  obtain ⟨hx, hb, hml, hown, hG⟩ := id F
  replace hl : lv_has ls 5 [(0, .ref (ad 14)), (1, .int a0), (2, .int a1)] := hl
  refine lv_iload_n hx hb dX3_addWin_0 rfl (lv_at hl 1 rfl) ?_
  obtain ⟨r1, h2⟩ : ∃ z, z = C_CO_answerOf a0 := ⟨_, rfl⟩
  replace hf := nm_some h2 hf
  refine s_callSi (As := [.int a0]) (rest := []) F I (cC_CO_answerOf G E Dd P L pf a0 r1 h2) kX3_41 ⟨rfl, rfl⟩ ⟨Nat.le_trans (Nat.le_of_ble_eq_true rfl) hRf, Nat.le_trans (Nat.le_of_ble_eq_true rfl) hRl⟩ rfl rfl hl.1 (Nat.le_of_ble_eq_true rfl) ⟨Nat.zero_le _, Nat.zero_le _⟩ dX3_addWin_1 ?_
  intro H_3 lo_3 I_3
  refine lv_if_eq (tgt := 48) hx hb dX3_addWin_4 (by decide) (fun c26 => ?_) (fun c26 => ?_)
  · replace hf := (if_pos c26).symm.trans hf
    cases hf
    exact ret H_3 lo_3 _ ls I_3 dX3_addWin_48
  · replace hf := (if_neg c26).symm.trans hf
    refine lv_iload_n hx hb dX3_addWin_7 rfl (lv_at hl 1 rfl) ?_
    obtain ⟨r4, h5, hf⟩ := bd_some hf
    refine s_callSi (As := [.int a0]) (rest := []) F I_3 (cC_CO_winnerOf G E Dd P L pf a0 r4 h5) kX3_44 ⟨rfl, rfl⟩ ⟨Nat.le_trans (Nat.le_of_ble_eq_true rfl) hRf, Nat.le_trans (Nat.le_of_ble_eq_true rfl) hRl⟩ rfl rfl hl.1 (Nat.le_of_ble_eq_true rfl) ⟨Nat.zero_le _, Nat.zero_le _⟩ dX3_addWin_8 ?_
    intro H_6 lo_6 I_6
    refine lv_istore_n (lv' := [(3, .int r4), (0, .ref (ad 14)), (1, .int a0), (2, .int a1)]) hx hb dX3_addWin_11 rfl hl (by decide) rfl (fun ls_7 hl_7 => ?_)
    refine lv_iload_n hx hb dX3_addWin_12 rfl (lv_at hl_7 2 rfl) ?_
    obtain ⟨r8, h9, hf⟩ := bd_some hf
    refine s_callSi (As := [.int a0]) (rest := []) F I_6 (cC_CO_loserOf G E Dd P L pf a0 r8 h9) kX3_47 ⟨rfl, rfl⟩ ⟨Nat.le_trans (Nat.le_of_ble_eq_true rfl) hRf, Nat.le_trans (Nat.le_of_ble_eq_true rfl) hRl⟩ rfl rfl hl_7.1 (Nat.le_of_ble_eq_true rfl) ⟨Nat.zero_le _, Nat.zero_le _⟩ dX3_addWin_13 ?_
    intro H_10 lo_10 I_10
    refine lv_istore (lv' := [(4, .int r8), (3, .int r4), (0, .ref (ad 14)), (1, .int a0), (2, .int a1)]) hx hb dX3_addWin_16 hl_7 (by decide) rfl (fun ls_11 hl_11 => ?_)
    refine lv_aload_n hx hb dX3_addWin_18 rfl (lv_at hl_11 2 rfl) ?_
    refine kgtX3_9_14 F I_10 dX3_addWin_19 ?_
    refine lv_iload_n hx hb dX3_addWin_22 rfl (lv_at hl_11 1 rfl) ?_
    refine lv_iload hx hb dX3_addWin_23 (lv_at hl_11 0 rfl) ?_
    obtain ⟨r12, h13⟩ : ∃ z, z = C_LT_cell r4 r8 := ⟨_, rfl⟩
    replace hf := nm_some h13 hf
    refine s_callSNi (As := [.int r4, .int r8]) (rest := [.ref (ad 15)]) F I_10 (cC_LT_cell G E Dd P L pf r4 r8 r12 h13) kX3_50 ⟨rfl, rfl⟩ ⟨Nat.le_trans (Nat.le_of_ble_eq_true rfl) hRf, Nat.le_trans (Nat.le_of_ble_eq_true rfl) hRl⟩ rfl rfl hl_11.1 (Nat.le_of_ble_eq_true rfl) ⟨Nat.zero_le _, Nat.zero_le _⟩ dX3_addWin_25 ?_
    intro H_14 lo_14 I_14
    refine lv_dup2_11 hx hb dX3_addWin_28 rfl rfl ?_
    obtain ⟨g15, hf⟩ := ri_some hf
    refine kal15 F I_14 g15 dX3_addWin_29 ?_
    refine lv_iload_n hx hb dX3_addWin_30 rfl (lv_at hl_11 4 rfl) ?_
    refine lv_iadd hx hb dX3_addWin_31 ?_
    obtain ⟨g16, hf⟩ := ri_some hf
    refine kas15 F I_14 g16 dX3_addWin_32 ?_
    intro H_18 lo_18 G17 eG17 I_18
    replace hf := nm_some eG17 hf
    refine lv_aload_n hx hb dX3_addWin_33 rfl (lv_at hl_11 2 rfl) ?_
    refine kgtX3_9_14 F I_18 dX3_addWin_34 ?_
    refine lv_iload hx hb dX3_addWin_37 (lv_at hl_11 0 rfl) ?_
    refine lv_iload_n hx hb dX3_addWin_39 rfl (lv_at hl_11 1 rfl) ?_
    obtain ⟨r19, h20⟩ : ∃ z, z = C_LT_cell r8 r4 := ⟨_, rfl⟩
    replace hf := nm_some h20 hf
    refine s_callSNi (As := [.int r8, .int r4]) (rest := [.ref (ad 15)]) F I_18 (cC_LT_cell G17 E Dd P L pf r8 r4 r19 h20) kX3_50 ⟨rfl, rfl⟩ ⟨Nat.le_trans (Nat.le_of_ble_eq_true rfl) hRf, Nat.le_trans (Nat.le_of_ble_eq_true rfl) hRl⟩ rfl rfl hl_11.1 (Nat.le_of_ble_eq_true rfl) ⟨Nat.zero_le _, Nat.zero_le _⟩ dX3_addWin_40 ?_
    intro H_21 lo_21 I_21
    refine lv_dup2_11 hx hb dX3_addWin_43 rfl rfl ?_
    obtain ⟨g22, hf⟩ := ri_some hf
    refine kal15 F I_21 g22 dX3_addWin_44 ?_
    refine lv_iload_n hx hb dX3_addWin_45 rfl (lv_at hl_11 4 rfl) ?_
    refine lv_isub hx hb dX3_addWin_46 ?_
    obtain ⟨g23, hf⟩ := ri_some hf
    refine kas15 F I_21 g23 dX3_addWin_47 ?_
    intro H_25 lo_25 G24 eG24 I_25
    replace hf := nm_some eG24 hf
    cases hf
    exact ret H_25 lo_25 _ ls_11 I_25 dX3_addWin_48
def C_LE_takeListener_14_s1 (a1 : Int32) (x5 : Int32) (G6 : Nat → Nat → Int32) : Option ((Int32 × (Nat → Nat → Int32)) ⊕ ((Nat → Nat → Int32))) :=
if G6 5 0 ≤ x5 then
(some (.inr G6))
else
(bd (C_CO_at G6 x5) fun r14 =>
nm (C_CO_listenerOf r14) fun r18 =>
bd (if r18 = a1 then
(bd (C_LE_addWin_14 G6 r14 (1 : Int32)) fun G29 =>
some G29)
else
(some G6)) fun G22 =>
nm (x5 + (1 : Int32) : Int32) fun x26 =>
some (.inl (x26, G22)))
def C_LE_takeListener_14 (G : Nat → Nat → Int32) (a1 : Int32) : Option ((Nat → Nat → Int32)) :=
bd (C_LE_clearAll_14 G) fun G1 =>
bd (lp (fun q => C_LE_takeListener_14_s1 a1 q.1 q.2) FU ((0 : Int32), G1)) fun G7 =>
some G7
set_option maxRecDepth 100000 in
set_option maxHeartbeats 4000000 in
theorem cC_LE_takeListener_14 (G : Nat → Nat → Int32) (E : Nat → Nat → Int64) (Dd : Nat → Nat → UInt64) (P : Nat → Option Nat) (L : List Nat) (pf : Nat → va_E) (a1 : Int32)  (newG : Nat → Nat → Int32) (hf : C_LE_takeListener_14 G a1 = some newG) : sMv D (cT cI cJ cD cS) (cW ad cI cJ cD cS) l yX3_takeListener (ws1 yX3_takeListener cX3_takeListener 5 none) ({ frames := 3, cells := 0, slots := 0, locals := 64 }) [.ref (ad 14), .ref (ad 2), .int a1] (G, E, Dd, P, L, pf) (newG, E, Dd, P, L, pf) := by
  unfold C_LE_takeListener_14 at hf
  refine sMv_of (by decide) (Nat.le_of_ble_eq_true rfl) ?_
  intro p e R s m args below meth c A Q ls H lo F hRf hRl I hl ret
  obtain ⟨hx, hb, hml, hown, hG⟩ := id F
  replace hl : lv_has ls 5 [(0, .ref (ad 14)), (1, .ref (ad 2)), (2, .int a1)] := hl
  refine lv_aload_n hx hb dX3_takeListener_0 rfl (lv_at hl 0 rfl) ?_
  obtain ⟨G1, h2, hf⟩ := bd_some hf
  refine s_callVv (As := []) (rest := []) F I (cC_LE_clearAll_14 G E Dd P L pf G1 h2) kX3_21 ⟨rfl, rfl⟩ ⟨Nat.le_trans (Nat.le_of_ble_eq_true rfl) hRf, Nat.le_trans (Nat.le_of_ble_eq_true rfl) hRl⟩ 14 3 rfl rfl rfl rfl rfl hl.1 (Nat.le_of_ble_eq_true rfl) ⟨Nat.zero_le _, Nat.zero_le _⟩ dX3_takeListener_1 ?_
  intro H_3 lo_3 I_3
  refine lv_iconst (v := (0 : Int32)) hx hb dX3_takeListener_4 (by decide) ?_
  refine lv_istore_n (lv' := [(3, .int (0 : Int32)), (0, .ref (ad 14)), (1, .ref (ad 2)), (2, .int a1)]) hx hb dX3_takeListener_5 rfl hl (by decide) rfl (fun ls_4 hl_4 => ?_)
  obtain ⟨G7, hq1, hf⟩ := bd_some hf
  have K1 : ∀ (H : Heap) (locs : List Loc), sInv D (cT cI cJ cD cS) (cW ad cI cJ cD cS) A s H locs (G7, E, Dd, P, L, pf) → ∀ (ls : Array Slot), lv_has ls 5 [] → W p l e R s m args below meth c H locs 0 0 Q (F0 m 43 ls []) := by
    intro H_8 lo_8 I_8 ls_9 hl_9
    cases hf
    exact ret H_8 lo_8 _ ls_9 I_8 dX3_takeListener_43
  have L1 : ∀ (n : Nat) (x5 : Int32) (G6 : Nat → Nat → Int32), lp (fun q => C_LE_takeListener_14_s1 a1 q.1 q.2) n (x5, G6) = some G7 → ∀ (H : Heap) (locs : List Loc), sInv D (cT cI cJ cD cS) (cW ad cI cJ cD cS) A s H locs (G6, E, Dd, P, L, pf) → ∀ (ls : Array Slot), lv_has ls 5 [(0, .ref (ad 14)), (1, .ref (ad 2)), (2, .int a1), (3, .int x5)] → W p l e R s m args below meth c H locs 0 0 Q (F0 m 6 ls []) := by
    intro n
    induction n with
    | zero => intro x5 G6 hq; exact (lp_0 hq).elim
    | succ n ih1 =>
      intro x5 G6 hq H_11 lo_11 I_11 ls_12 hl_12
      obtain ⟨y1, hf, hK1⟩ := lp_go hq
      replace hf : C_LE_takeListener_14_s1 a1 x5 G6 = some y1 := hf
      unfold C_LE_takeListener_14_s1 at hf
      refine lv_iload_n hx hb dX3_takeListener_6 rfl (lv_at hl_12 3 rfl) ?_
      refine lv_aload_n hx hb dX3_takeListener_7 rfl (lv_at hl_12 1 rfl) ?_
      refine kgtX3_24_2 F I_11 dX3_takeListener_8 ?_
      refine lv_icmp_ge (tgt := 43) hx hb dX3_takeListener_11 (by decide) (fun c33 => ?_) (fun c33 => ?_)
      · replace hf := (if_pos c33).symm.trans hf
        cases hf
        cases (show G6 = G7 from hK1)
        exact K1 H_11 lo_11 I_11 ls_12 (lv_sub hl_12 [] rfl)
      · replace hf := (if_neg c33).symm.trans hf
        refine lv_aload_n hx hb dX3_takeListener_14 rfl (lv_at hl_12 1 rfl) ?_
        refine lv_iload_n hx hb dX3_takeListener_15 rfl (lv_at hl_12 3 rfl) ?_
        obtain ⟨r14, h15, hf⟩ := bd_some hf
        refine s_callVi (As := [.int x5]) (rest := []) F I_11 (cC_CO_at G6 E Dd P L pf x5 r14 h15) kX3_30 ⟨rfl, rfl⟩ ⟨Nat.le_trans (Nat.le_of_ble_eq_true rfl) hRf, Nat.le_trans (Nat.le_of_ble_eq_true rfl) hRl⟩ 2 1 rfl rfl rfl rfl rfl hl_12.1 (Nat.le_of_ble_eq_true rfl) ⟨Nat.zero_le _, Nat.zero_le _⟩ dX3_takeListener_16 ?_
        intro H_16 lo_16 I_16
        refine lv_istore (lv' := [(4, .int r14), (0, .ref (ad 14)), (1, .ref (ad 2)), (2, .int a1), (3, .int x5)]) hx hb dX3_takeListener_19 hl_12 (by decide) rfl (fun ls_17 hl_17 => ?_)
        refine lv_iload hx hb dX3_takeListener_21 (lv_at hl_17 0 rfl) ?_
        obtain ⟨r18, h19⟩ : ∃ z, z = C_CO_listenerOf r14 := ⟨_, rfl⟩
        replace hf := nm_some h19 hf
        refine s_callSi (As := [.int r14]) (rest := []) F I_16 (cC_CO_listenerOf G6 E Dd P L pf r14 r18 h19) kX3_34 ⟨rfl, rfl⟩ ⟨Nat.le_trans (Nat.le_of_ble_eq_true rfl) hRf, Nat.le_trans (Nat.le_of_ble_eq_true rfl) hRl⟩ rfl rfl hl_17.1 (Nat.le_of_ble_eq_true rfl) ⟨Nat.zero_le _, Nat.zero_le _⟩ dX3_takeListener_23 ?_
        intro H_20 lo_20 I_20
        refine lv_iload_n hx hb dX3_takeListener_26 rfl (lv_at hl_17 3 rfl) ?_
        obtain ⟨G22, hv28, hf⟩ := bd_some hf
        have J21 : ∀ (H : Heap) (locs : List Loc), sInv D (cT cI cJ cD cS) (cW ad cI cJ cD cS) A s H locs (G22, E, Dd, P, L, pf) → ∀ (ls : Array Slot), lv_has ls 5 [(0, .ref (ad 14)), (1, .ref (ad 2)), (2, .int a1), (3, .int x5)] → W p l e R s m args below meth c H locs 0 0 Q (F0 m 37 ls []) := by
          intro H_23 lo_23 I_23 ls_24 hl_24
          obtain ⟨x26, ex26⟩ : ∃ y : Int32, y = x5 + (1 : Int32) := ⟨_, rfl⟩
          replace hf := nm_some ex26 hf
          refine lv_iinc (v := x26) (lv' := [(3, .int x26), (0, .ref (ad 14)), (1, .ref (ad 2)), (2, .int a1)]) hx hb dX3_takeListener_37 hl_24 (k := 3) rfl (by rw [ex26]; rfl) (by decide) rfl (fun ls_27 hl_27 => ?_)
          refine lv_goto (tgt := 6) hx hb dX3_takeListener_40 (by decide) ?_
          cases hf
          exact ih1 _ _ hK1 H_23 lo_23 I_23 ls_27 (lv_sub hl_27 [1, 2, 3, 0] rfl)
        replace hf := hv28
        refine lv_icmp_ne (tgt := 37) hx hb dX3_takeListener_27 (by decide) (fun c32 => ?_) (fun c32 => ?_)
        · replace hf := (if_neg c32).symm.trans hf
          cases hf
          exact J21 H_20 lo_20 I_20 ls_17 (lv_sub hl_17 [1, 2, 3, 4] rfl)
        · replace hf := (if_pos c32).symm.trans hf
          refine lv_aload_n hx hb dX3_takeListener_30 rfl (lv_at hl_17 1 rfl) ?_
          refine lv_iload hx hb dX3_takeListener_31 (lv_at hl_17 0 rfl) ?_
          refine lv_iconst (v := (1 : Int32)) hx hb dX3_takeListener_33 (by decide) ?_
          obtain ⟨G29, h30, hf⟩ := bd_some hf
          refine s_callVv (As := [.int r14, .int (1 : Int32)]) (rest := []) F I_20 (cC_LE_addWin_14 G6 E Dd P L pf r14 (1 : Int32) G29 h30) kX3_37 ⟨rfl, rfl⟩ ⟨Nat.le_trans (Nat.le_of_ble_eq_true rfl) hRf, Nat.le_trans (Nat.le_of_ble_eq_true rfl) hRl⟩ 14 3 rfl rfl rfl rfl rfl hl_17.1 (Nat.le_of_ble_eq_true rfl) ⟨Nat.zero_le _, Nat.zero_le _⟩ dX3_takeListener_34 ?_
          intro H_31 lo_31 I_31
          cases hf
          exact J21 H_31 lo_31 I_31 ls_17 (lv_sub hl_17 [1, 2, 3, 4] rfl)
  exact L1 FU _ _ hq1 H_3 lo_3 I_3 ls_4 (lv_sub hl_4 [1, 2, 3, 0] rfl)
def C_LE_lead_14 (G : Nat → Nat → Int32) (a0 : Int32) (a1 : Int32) : Option (Int32) :=
nm (C_LT_cell a0 a1) fun r1 =>
ri 64 r1 <|
some (G 19 r1.toNatClampNeg)
set_option maxRecDepth 100000 in
set_option maxHeartbeats 4000000 in
theorem cC_LE_lead_14 (G : Nat → Nat → Int32) (E : Nat → Nat → Int64) (Dd : Nat → Nat → UInt64) (P : Nat → Option Nat) (L : List Nat) (pf : Nat → va_E) (a0 : Int32) (a1 : Int32) (rv : Int32)  (hf : C_LE_lead_14 G a0 a1 = some rv) : sMi D (cT cI cJ cD cS) (cW ad cI cJ cD cS) l yX3_lead (ws1 yX3_lead cX3_lead 3 (some .int)) ({ frames := 1, cells := 0, slots := 0, locals := 21 }) [.ref (ad 14), .int a0, .int a1] (G, E, Dd, P, L, pf) (rv, (G, E, Dd, P, L, pf)) := by
  unfold C_LE_lead_14 at hf
  refine sMi_of (by decide) (Nat.le_of_ble_eq_true rfl) ?_
  intro p e R s m args below meth c A Q ls H lo F hRf hRl I hl ret
  obtain ⟨hx, hb, hml, hown, hG⟩ := id F
  replace hl : lv_has ls 3 [(0, .ref (ad 14)), (1, .int a0), (2, .int a1)] := hl
  refine lv_aload_n hx hb dX3_lead_0 rfl (lv_at hl 0 rfl) ?_
  refine kgtX3_9_14 F I dX3_lead_1 ?_
  refine lv_iload_n hx hb dX3_lead_4 rfl (lv_at hl 1 rfl) ?_
  refine lv_iload_n hx hb dX3_lead_5 rfl (lv_at hl 2 rfl) ?_
  obtain ⟨r1, h2⟩ : ∃ z, z = C_LT_cell a0 a1 := ⟨_, rfl⟩
  replace hf := nm_some h2 hf
  refine s_callSNi (As := [.int a0, .int a1]) (rest := [.ref (ad 15)]) F I (cC_LT_cell G E Dd P L pf a0 a1 r1 h2) kX3_50 ⟨rfl, rfl⟩ ⟨Nat.le_trans (Nat.le_of_ble_eq_true rfl) hRf, Nat.le_trans (Nat.le_of_ble_eq_true rfl) hRl⟩ rfl rfl hl.1 (Nat.le_of_ble_eq_true rfl) ⟨Nat.zero_le _, Nat.zero_le _⟩ dX3_lead_6 ?_
  intro H_3 lo_3 I_3
  obtain ⟨g4, hf⟩ := ri_some hf
  refine kal15 F I_3 g4 dX3_lead_9 ?_
  cases hf
  exact ret H_3 lo_3 _ ls I_3 dX3_lead_10
def C_LT_agreement_s2 (x16 : Int32) (G8 : Nat → Nat → Int32) (x30 : Int32) (x31 : Int32) (x32 : Int32) : Option ((Int32 × Int32 × Int32) ⊕ (Int32 × Int32)) :=
if G8 0 0 ≤ x32 then
(some (.inr (x30, x31)))
else
(bd (C_LE_lead_12 G8 x16 x32) fun r43 =>
bd (C_LE_lead_14 G8 x16 x32) fun r47 =>
bd2 (if r43 = 0 then
(some (x30, x31))
else
(if r47 = 0 then
(some (x30, x31))
else
(nm (x30 + (1 : Int32) : Int32) fun x60 =>
bd (if r43 ≤ 0 then
(some (0 : Int32))
else
(some (1 : Int32))) fun x63 =>
bd (if r47 ≤ 0 then
(some (0 : Int32))
else
(some (1 : Int32))) fun x68 =>
bd (if x63 = x68 then
(some (1 : Int32))
else
(some (-1 : Int32))) fun x73 =>
nm (x31 + x73 : Int32) fun x77 =>
some (x60, x77)))) fun x52 x53 =>
nm (x32 + (1 : Int32) : Int32) fun x57 =>
some (.inl (x52, x53, x57)))
def C_LT_agreement_s1 (G8 : Nat → Nat → Int32) (x14 : Int32) (x15 : Int32) (x16 : Int32) : Option ((Int32 × Int32 × Int32) ⊕ (Int32 × Int32)) :=
if G8 0 0 ≤ x16 then
(some (.inr (x14, x15)))
else
(nm (x16 + (1 : Int32) : Int32) fun x28 =>
bd2 (lp (fun q => C_LT_agreement_s2 x16 G8 q.1 q.2.1 q.2.2) FU (x14, x15, x28)) fun x33 x34 =>
nm (x16 + (1 : Int32) : Int32) fun x38 =>
some (.inl (x33, x34, x38)))
def C_LT_agreement (G : Nat → Nat → Int32) (a0 : Int32) (a1 : Int32) : Option (UInt64 × (Nat → Nat → Int32)) :=
bd0 (C_LT_requireIndex a0 (G 1 0)) <|
bd0 (C_LT_requireIndex a1 (G 1 0)) <|
bd (C_LE_takeListener_12 G a0) fun G5 =>
bd (C_LE_takeListener_14 G5 a1) fun G8 =>
bd2 (lp (fun q => C_LT_agreement_s1 G8 q.1 q.2.1 q.2.2) FU ((0 : Int32), (0 : Int32), (0 : Int32))) fun x17 x18 =>
if x17 = 0 then
(some (FP.dconst0, G8))
else
(some ((FP.ddiv (FP.i2d x18) (FP.i2d x17)), G8))
set_option maxRecDepth 100000 in
set_option maxHeartbeats 4000000 in
theorem cC_LT_agreement (G : Nat → Nat → Int32) (E : Nat → Nat → Int64) (Dd : Nat → Nat → UInt64) (P : Nat → Option Nat) (L : List Nat) (pf : Nat → va_E) (a0 : Int32) (a1 : Int32) (rv : UInt64) (newG : Nat → Nat → Int32) (hf : C_LT_agreement G a0 a1 = some (rv, newG)) : sDd D (cT cI cJ cD cS) (cW ad cI cJ cD cS) cSm l yX11_agreement (ws1 yX11_agreement cX11_agreement 9 (some .double)) ({ frames := 4, cells := 0, slots := 0, locals := 88 }) [.ref (ad 0), .int a0, .int a1] (G, E, Dd, P, L, pf) (rv, (newG, E, Dd, P, L, pf)) := by
  unfold C_LT_agreement at hf
  refine sDd_of (by decide) (Nat.le_of_ble_eq_true rfl) ?_
  intro p e R s m args below meth c A Q ls H lo dr sgm F hRf hRl hd hsm I hl ret
  obtain ⟨_, _, Dm, _⟩ := sgm
  obtain ⟨rfl, rfl, ha, rfl⟩ := cSm_dest hsm
  obtain ⟨hx, hb, hml, hown, hG⟩ := id F
  replace hl : lv_has ls 9 [(0, .ref (ad 0)), (1, .int a0), (2, .int a1)] := hl
  refine lv_iload_n hx hb dX11_agreement_0 rfl (lv_at hl 1 rfl) ?_
  refine lv_aload_n hx hb dX11_agreement_1 rfl (lv_at hl 0 rfl) ?_
  refine kgtX11_80_0 (Fdr F) (Idr I) dX11_agreement_2 ?_
  obtain ⟨h1, hf⟩ := bd0_some hf
  refine s_callSv (As := [.int a0, .int (G 1 0)]) (rest := []) (Fdr F) (Idr I) (cC_LT_requireIndex G E Dm P L pf a0 (G 1 0) h1) kX11_84 ⟨rfl, rfl⟩ ⟨Nat.le_trans (Nat.le_of_ble_eq_true rfl) hRf, Nat.le_trans (Nat.le_of_ble_eq_true rfl) hRl⟩ rfl rfl hl.1 (Nat.le_of_ble_eq_true rfl) ⟨Nat.zero_le _, Nat.zero_le _⟩ dX11_agreement_5 ?_
  intro H_2 lo_2 I_2
  replace I_2 := Irr I_2
  refine lv_iload_n hx hb dX11_agreement_8 rfl (lv_at hl 2 rfl) ?_
  refine lv_aload_n hx hb dX11_agreement_9 rfl (lv_at hl 0 rfl) ?_
  refine kgtX11_80_0 (Fdr F) (Idr I_2) dX11_agreement_10 ?_
  obtain ⟨h3, hf⟩ := bd0_some hf
  refine s_callSv (As := [.int a1, .int (G 1 0)]) (rest := []) (Fdr F) (Idr I_2) (cC_LT_requireIndex G E Dm P L pf a1 (G 1 0) h3) kX11_84 ⟨rfl, rfl⟩ ⟨Nat.le_trans (Nat.le_of_ble_eq_true rfl) hRf, Nat.le_trans (Nat.le_of_ble_eq_true rfl) hRl⟩ rfl rfl hl.1 (Nat.le_of_ble_eq_true rfl) ⟨Nat.zero_le _, Nat.zero_le _⟩ dX11_agreement_13 ?_
  intro H_4 lo_4 I_4
  replace I_4 := Irr I_4
  refine lv_aload_n hx hb dX11_agreement_16 rfl (lv_at hl 0 rfl) ?_
  refine kgtX11_44_0 (Fdr F) (Idr I_4) dX11_agreement_17 ?_
  refine lv_aload_n hx hb dX11_agreement_20 rfl (lv_at hl 0 rfl) ?_
  refine kgtX11_16_0 (Fdr F) (Idr I_4) dX11_agreement_21 ?_
  refine lv_iload_n hx hb dX11_agreement_24 rfl (lv_at hl 1 rfl) ?_
  obtain ⟨G5, h6, hf⟩ := bd_some hf
  refine s_callVv (As := [.ref (ad 2), .int a0]) (rest := []) (Fdr F) (Idr I_4) (cC_LE_takeListener_12 G E Dm P L pf a0 G5 h6) kX11_233 ⟨rfl, rfl⟩ ⟨Nat.le_trans (Nat.le_of_ble_eq_true rfl) hRf, Nat.le_trans (Nat.le_of_ble_eq_true rfl) hRl⟩ 12 3 rfl rfl rfl rfl rfl hl.1 (Nat.le_of_ble_eq_true rfl) ⟨Nat.zero_le _, Nat.zero_le _⟩ dX11_agreement_25 ?_
  intro H_7 lo_7 I_7
  replace I_7 := Irr I_7
  refine lv_aload_n hx hb dX11_agreement_28 rfl (lv_at hl 0 rfl) ?_
  refine kgtX11_48_0 (Fdr F) (Idr I_7) dX11_agreement_29 ?_
  refine lv_aload_n hx hb dX11_agreement_32 rfl (lv_at hl 0 rfl) ?_
  refine kgtX11_16_0 (Fdr F) (Idr I_7) dX11_agreement_33 ?_
  refine lv_iload_n hx hb dX11_agreement_36 rfl (lv_at hl 2 rfl) ?_
  obtain ⟨G8, h9, hf⟩ := bd_some hf
  refine s_callVv (As := [.ref (ad 2), .int a1]) (rest := []) (Fdr F) (Idr I_7) (cC_LE_takeListener_14 G5 E Dm P L pf a1 G8 h9) kX11_233 ⟨rfl, rfl⟩ ⟨Nat.le_trans (Nat.le_of_ble_eq_true rfl) hRf, Nat.le_trans (Nat.le_of_ble_eq_true rfl) hRl⟩ 14 3 rfl rfl rfl rfl rfl hl.1 (Nat.le_of_ble_eq_true rfl) ⟨Nat.zero_le _, Nat.zero_le _⟩ dX11_agreement_37 ?_
  intro H_10 lo_10 I_10
  replace I_10 := Irr I_10
  refine lv_iconst (v := (0 : Int32)) hx hb dX11_agreement_40 (by decide) ?_
  refine lv_istore_n (lv' := [(3, .int (0 : Int32)), (0, .ref (ad 0)), (1, .int a0), (2, .int a1)]) hx hb dX11_agreement_41 rfl hl (by decide) rfl (fun ls_11 hl_11 => ?_)
  refine lv_iconst (v := (0 : Int32)) hx hb dX11_agreement_42 (by decide) ?_
  refine lv_istore (lv' := [(4, .int (0 : Int32)), (3, .int (0 : Int32)), (0, .ref (ad 0)), (1, .int a0), (2, .int a1)]) hx hb dX11_agreement_43 hl_11 (by decide) rfl (fun ls_12 hl_12 => ?_)
  refine lv_iconst (v := (0 : Int32)) hx hb dX11_agreement_45 (by decide) ?_
  refine lv_istore (lv' := [(5, .int (0 : Int32)), (4, .int (0 : Int32)), (3, .int (0 : Int32)), (0, .ref (ad 0)), (1, .int a0), (2, .int a1)]) hx hb dX11_agreement_46 hl_12 (by decide) rfl (fun ls_13 hl_13 => ?_)
  obtain ⟨x17, x18, hq1, hf⟩ := bd2_some hf
  have K1 : ∀ (H : Heap) (locs : List Loc) (d : Drawn), s.drawn.sameBut d lw_cs → sInv D (cT cI cJ cD cS) (cW ad cI cJ cD cS) A s H locs (G8, E, Dm, P, L, pf) → ∀ (ls : Array Slot), lv_has ls 9 [(3, .int x17), (4, .int x18)] → W p l e R (s.setDrawn d) m args below meth c H locs 0 0 Q (F0 m 156 ls []) := by
    intro H_19 lo_19 dr_21 hd_21 I_19 ls_20 hl_20
    refine lv_iload_n hx hb dX11_agreement_156 rfl (lv_at hl_20 0 rfl) ?_
    refine lv_if_ne (tgt := 164) hx hb dX11_agreement_157 (by decide) (fun c24 => ?_) (fun c24 => ?_)
    · replace hf := (if_neg c24).symm.trans hf
      refine lv_iload hx hb dX11_agreement_164 (lv_at hl_20 1 rfl) ?_
      refine lv_i2d hx hb dX11_agreement_166 ?_
      refine lv_iload_n hx hb dX11_agreement_167 rfl (lv_at hl_20 0 rfl) ?_
      refine lv_i2d hx hb dX11_agreement_168 ?_
      refine lv_ddiv_any hd_21 lw_bits hx hb dX11_agreement_169 (fun u22 dr_23 alu22 hd_23 => ?_)
      have hu22 := al_ddiv alu22 (al_rf _) (al_rf _)
      cases hf
      exact ret H_19 lo_19 _ ls_20 dr_23 _ _ hd_23 I_19 ⟨rfl, rfl, ha, rfl⟩ hu22 dX11_agreement_170
    · replace hf := (if_pos c24).symm.trans hf
      refine lv_dconst0 hx hb dX11_agreement_160 ?_
      refine lv_goto (tgt := 170) hx hb dX11_agreement_161 (by decide) ?_
      cases hf
      exact ret H_19 lo_19 _ ls_20 dr_21 _ _ hd_21 I_19 ⟨rfl, rfl, ha, rfl⟩ (al_rf _) dX11_agreement_170
  have L1 : ∀ (n : Nat) (x14 : Int32) (x15 : Int32) (x16 : Int32), lp (fun q => C_LT_agreement_s1 G8 q.1 q.2.1 q.2.2) n (x14, x15, x16) = some (x17, x18) → ∀ (H : Heap) (locs : List Loc) (d : Drawn), s.drawn.sameBut d lw_cs → sInv D (cT cI cJ cD cS) (cW ad cI cJ cD cS) A s H locs (G8, E, Dm, P, L, pf) → ∀ (ls : Array Slot), lv_has ls 9 [(0, .ref (ad 0)), (3, .int x14), (4, .int x15), (5, .int x16)] → W p l e R (s.setDrawn d) m args below meth c H locs 0 0 Q (F0 m 48 ls []) := by
    intro n
    induction n with
    | zero => intro x14 x15 x16 hq; exact (lp_0 hq).elim
    | succ n ih1 =>
      intro x14 x15 x16 hq H_25 lo_25 dr_27 hd_27 I_25 ls_26 hl_26
      obtain ⟨y1, hf, hK1⟩ := lp_go hq
      replace hf : C_LT_agreement_s1 G8 x14 x15 x16 = some y1 := hf
      unfold C_LT_agreement_s1 at hf
      refine lv_iload hx hb dX11_agreement_48 (lv_at hl_26 3 rfl) ?_
      refine lv_aload_n hx hb dX11_agreement_50 rfl (lv_at hl_26 0 rfl) ?_
      refine kgtX11_89_0 (Fdr F) (Idr I_25) dX11_agreement_51 ?_
      refine lv_icmp_ge (tgt := 156) hx hb dX11_agreement_54 (by decide) (fun c88 => ?_) (fun c88 => ?_)
      · replace hf := (if_pos c88).symm.trans hf
        cases hf
        cases (show (x14, x15) = (x17, x18) from hK1)
        exact K1 H_25 lo_25 dr_27 hd_27 I_25 ls_26 (lv_sub hl_26 [1, 2] rfl)
      · replace hf := (if_neg c88).symm.trans hf
        refine lv_iload hx hb dX11_agreement_57 (lv_at hl_26 3 rfl) ?_
        refine lv_iconst (v := (1 : Int32)) hx hb dX11_agreement_59 (by decide) ?_
        refine lv_iadd hx hb dX11_agreement_60 ?_
        refine lv_topi (fun x28 ex28 => ?_)
        replace hf := nm_some ex28 hf
        refine lv_istore (lv' := [(6, .int x28), (0, .ref (ad 0)), (3, .int x14), (4, .int x15), (5, .int x16)]) hx hb dX11_agreement_61 hl_26 (by decide) rfl (fun ls_29 hl_29 => ?_)
        obtain ⟨x33, x34, hq2, hf⟩ := bd2_some hf
        have K2 : ∀ (H : Heap) (locs : List Loc) (d : Drawn), s.drawn.sameBut d lw_cs → sInv D (cT cI cJ cD cS) (cW ad cI cJ cD cS) A s H locs (G8, E, Dm, P, L, pf) → ∀ (ls : Array Slot), lv_has ls 9 [(0, .ref (ad 0)), (3, .int x33), (4, .int x34), (5, .int x16)] → W p l e R (s.setDrawn d) m args below meth c H locs 0 0 Q (F0 m 150 ls []) := by
          intro H_35 lo_35 dr_37 hd_37 I_35 ls_36 hl_36
          obtain ⟨x38, ex38⟩ : ∃ y : Int32, y = x16 + (1 : Int32) := ⟨_, rfl⟩
          replace hf := nm_some ex38 hf
          refine lv_iinc (v := x38) (lv' := [(5, .int x38), (0, .ref (ad 0)), (3, .int x33), (4, .int x34)]) hx hb dX11_agreement_150 hl_36 (k := 3) rfl (by rw [ex38]; rfl) (by decide) rfl (fun ls_39 hl_39 => ?_)
          refine lv_goto (tgt := 48) hx hb dX11_agreement_153 (by decide) ?_
          cases hf
          exact ih1 _ _ _ hK1 H_35 lo_35 dr_37 hd_37 I_35 ls_39 (lv_sub hl_39 [1, 2, 3, 0] rfl)
        have L2 : ∀ (n : Nat) (x30 : Int32) (x31 : Int32) (x32 : Int32), lp (fun q => C_LT_agreement_s2 x16 G8 q.1 q.2.1 q.2.2) n (x30, x31, x32) = some (x33, x34) → ∀ (H : Heap) (locs : List Loc) (d : Drawn), s.drawn.sameBut d lw_cs → sInv D (cT cI cJ cD cS) (cW ad cI cJ cD cS) A s H locs (G8, E, Dm, P, L, pf) → ∀ (ls : Array Slot), lv_has ls 9 [(0, .ref (ad 0)), (3, .int x30), (4, .int x31), (5, .int x16), (6, .int x32)] → W p l e R (s.setDrawn d) m args below meth c H locs 0 0 Q (F0 m 63 ls []) := by
          intro n
          induction n with
          | zero => intro x30 x31 x32 hq; exact (lp_0 hq).elim
          | succ n ih2 =>
            intro x30 x31 x32 hq H_40 lo_40 dr_42 hd_42 I_40 ls_41 hl_41
            obtain ⟨y2, hf, hK2⟩ := lp_go hq
            replace hf : C_LT_agreement_s2 x16 G8 x30 x31 x32 = some y2 := hf
            unfold C_LT_agreement_s2 at hf
            refine lv_iload hx hb dX11_agreement_63 (lv_at hl_41 4 rfl) ?_
            refine lv_aload_n hx hb dX11_agreement_65 rfl (lv_at hl_41 0 rfl) ?_
            refine kgtX11_89_0 (Fdr F) (Idr I_40) dX11_agreement_66 ?_
            refine lv_icmp_ge (tgt := 150) hx hb dX11_agreement_69 (by decide) (fun c87 => ?_) (fun c87 => ?_)
            · replace hf := (if_pos c87).symm.trans hf
              cases hf
              cases (show (x30, x31) = (x33, x34) from hK2)
              exact K2 H_40 lo_40 dr_42 hd_42 I_40 ls_41 (lv_sub hl_41 [0, 1, 2, 3] rfl)
            · replace hf := (if_neg c87).symm.trans hf
              refine lv_aload_n hx hb dX11_agreement_72 rfl (lv_at hl_41 0 rfl) ?_
              refine kgtX11_44_0 (Fdr F) (Idr I_40) dX11_agreement_73 ?_
              refine lv_iload hx hb dX11_agreement_76 (lv_at hl_41 3 rfl) ?_
              refine lv_iload hx hb dX11_agreement_78 (lv_at hl_41 4 rfl) ?_
              obtain ⟨r43, h44, hf⟩ := bd_some hf
              refine s_callVi (As := [.int x16, .int x32]) (rest := []) (Fdr F) (Idr I_40) (cC_LE_lead_12 G8 E Dm P L pf x16 x32 r43 h44) kX11_208 ⟨rfl, rfl⟩ ⟨Nat.le_trans (Nat.le_of_ble_eq_true rfl) hRf, Nat.le_trans (Nat.le_of_ble_eq_true rfl) hRl⟩ 12 3 rfl rfl rfl rfl rfl hl_41.1 (Nat.le_of_ble_eq_true rfl) ⟨Nat.zero_le _, Nat.zero_le _⟩ dX11_agreement_80 ?_
              intro H_45 lo_45 I_45
              replace I_45 := Irr I_45
              refine lv_istore (lv' := [(7, .int r43), (0, .ref (ad 0)), (3, .int x30), (4, .int x31), (5, .int x16), (6, .int x32)]) hx hb dX11_agreement_83 hl_41 (by decide) rfl (fun ls_46 hl_46 => ?_)
              refine lv_aload_n hx hb dX11_agreement_85 rfl (lv_at hl_46 1 rfl) ?_
              refine kgtX11_48_0 (Fdr F) (Idr I_45) dX11_agreement_86 ?_
              refine lv_iload hx hb dX11_agreement_89 (lv_at hl_46 4 rfl) ?_
              refine lv_iload hx hb dX11_agreement_91 (lv_at hl_46 5 rfl) ?_
              obtain ⟨r47, h48, hf⟩ := bd_some hf
              refine s_callVi (As := [.int x16, .int x32]) (rest := []) (Fdr F) (Idr I_45) (cC_LE_lead_14 G8 E Dm P L pf x16 x32 r47 h48) kX11_208 ⟨rfl, rfl⟩ ⟨Nat.le_trans (Nat.le_of_ble_eq_true rfl) hRf, Nat.le_trans (Nat.le_of_ble_eq_true rfl) hRl⟩ 14 3 rfl rfl rfl rfl rfl hl_46.1 (Nat.le_of_ble_eq_true rfl) ⟨Nat.zero_le _, Nat.zero_le _⟩ dX11_agreement_93 ?_
              intro H_49 lo_49 I_49
              replace I_49 := Irr I_49
              refine lv_istore (lv' := [(8, .int r47), (7, .int r43), (0, .ref (ad 0)), (3, .int x30), (4, .int x31), (5, .int x16), (6, .int x32)]) hx hb dX11_agreement_96 hl_46 (by decide) rfl (fun ls_50 hl_50 => ?_)
              refine lv_iload hx hb dX11_agreement_98 (lv_at hl_50 1 rfl) ?_
              obtain ⟨x52, x53, hv59, hf⟩ := bd2_some hf
              have J51 : ∀ (H : Heap) (locs : List Loc) (d : Drawn), s.drawn.sameBut d lw_cs → sInv D (cT cI cJ cD cS) (cW ad cI cJ cD cS) A s H locs (G8, E, Dm, P, L, pf) → ∀ (ls : Array Slot), lv_has ls 9 [(0, .ref (ad 0)), (3, .int x52), (4, .int x53), (5, .int x16), (6, .int x32)] → W p l e R (s.setDrawn d) m args below meth c H locs 0 0 Q (F0 m 144 ls []) := by
                intro H_54 lo_54 dr_56 hd_56 I_54 ls_55 hl_55
                obtain ⟨x57, ex57⟩ : ∃ y : Int32, y = x32 + (1 : Int32) := ⟨_, rfl⟩
                replace hf := nm_some ex57 hf
                refine lv_iinc (v := x57) (lv' := [(6, .int x57), (0, .ref (ad 0)), (3, .int x52), (4, .int x53), (5, .int x16)]) hx hb dX11_agreement_144 hl_55 (k := 4) rfl (by rw [ex57]; rfl) (by decide) rfl (fun ls_58 hl_58 => ?_)
                refine lv_goto (tgt := 63) hx hb dX11_agreement_147 (by decide) ?_
                cases hf
                exact ih2 _ _ _ hK2 H_54 lo_54 dr_56 hd_56 I_54 ls_58 (lv_sub hl_58 [1, 2, 3, 4, 0] rfl)
              replace hf := hv59
              refine lv_if_eq (tgt := 144) hx hb dX11_agreement_100 (by decide) (fun c86 => ?_) (fun c86 => ?_)
              · replace hf := (if_pos c86).symm.trans hf
                cases hf
                exact J51 H_49 lo_49 dr_42 hd_42 I_49 ls_50 (lv_sub hl_50 [2, 3, 4, 5, 6] rfl)
              · replace hf := (if_neg c86).symm.trans hf
                refine lv_iload hx hb dX11_agreement_103 (lv_at hl_50 0 rfl) ?_
                refine lv_if_eq (tgt := 144) hx hb dX11_agreement_105 (by decide) (fun c85 => ?_) (fun c85 => ?_)
                · replace hf := (if_pos c85).symm.trans hf
                  cases hf
                  exact J51 H_49 lo_49 dr_42 hd_42 I_49 ls_50 (lv_sub hl_50 [2, 3, 4, 5, 6] rfl)
                · replace hf := (if_neg c85).symm.trans hf
                  obtain ⟨x60, ex60⟩ : ∃ y : Int32, y = x30 + (1 : Int32) := ⟨_, rfl⟩
                  replace hf := nm_some ex60 hf
                  refine lv_iinc (v := x60) (lv' := [(3, .int x60), (8, .int r47), (7, .int r43), (0, .ref (ad 0)), (4, .int x31), (5, .int x16), (6, .int x32)]) hx hb dX11_agreement_108 hl_50 (k := 3) rfl (by rw [ex60]; rfl) (by decide) rfl (fun ls_61 hl_61 => ?_)
                  refine lv_iload hx hb dX11_agreement_111 (lv_at hl_61 4 rfl) ?_
                  refine lv_iload hx hb dX11_agreement_113 (lv_at hl_61 2 rfl) ?_
                  obtain ⟨x63, hv83, hf⟩ := bd_some hf
                  have J62 : ∀ (H : Heap) (locs : List Loc) (d : Drawn), s.drawn.sameBut d lw_cs → sInv D (cT cI cJ cD cS) (cW ad cI cJ cD cS) A s H locs (G8, E, Dm, P, L, pf) → ∀ (ls : Array Slot), lv_has ls 9 [(0, .ref (ad 0)), (3, .int x60), (5, .int x16), (6, .int x32), (8, .int r47)] → W p l e R (s.setDrawn d) m args below meth c H locs 0 0 Q (F0 m 123 ls [.int x63, .int x31]) := by
                    intro H_64 lo_64 dr_66 hd_66 I_64 ls_65 hl_65
                    refine lv_iload hx hb dX11_agreement_123 (lv_at hl_65 4 rfl) ?_
                    obtain ⟨x68, hv81, hf⟩ := bd_some hf
                    have J67 : ∀ (H : Heap) (locs : List Loc) (d : Drawn), s.drawn.sameBut d lw_cs → sInv D (cT cI cJ cD cS) (cW ad cI cJ cD cS) A s H locs (G8, E, Dm, P, L, pf) → ∀ (ls : Array Slot), lv_has ls 9 [(0, .ref (ad 0)), (3, .int x60), (5, .int x16), (6, .int x32)] → W p l e R (s.setDrawn d) m args below meth c H locs 0 0 Q (F0 m 133 ls [.int x68, .int x63, .int x31]) := by
                      intro H_69 lo_69 dr_71 hd_71 I_69 ls_70 hl_70
                      obtain ⟨x73, hv79, hf⟩ := bd_some hf
                      have J72 : ∀ (H : Heap) (locs : List Loc) (d : Drawn), s.drawn.sameBut d lw_cs → sInv D (cT cI cJ cD cS) (cW ad cI cJ cD cS) A s H locs (G8, E, Dm, P, L, pf) → ∀ (ls : Array Slot), lv_has ls 9 [(0, .ref (ad 0)), (3, .int x60), (5, .int x16), (6, .int x32)] → W p l e R (s.setDrawn d) m args below meth c H locs 0 0 Q (F0 m 141 ls [.int x73, .int x31]) := by
                        intro H_74 lo_74 dr_76 hd_76 I_74 ls_75 hl_75
                        refine lv_iadd hx hb dX11_agreement_141 ?_
                        refine lv_topi (fun x77 ex77 => ?_)
                        replace hf := nm_some ex77 hf
                        refine lv_istore (lv' := [(4, .int x77), (0, .ref (ad 0)), (3, .int x60), (5, .int x16), (6, .int x32)]) hx hb dX11_agreement_142 hl_75 (by decide) rfl (fun ls_78 hl_78 => ?_)
                        cases hf
                        exact J51 H_74 lo_74 dr_76 hd_76 I_74 ls_78 (lv_sub hl_78 [1, 2, 0, 3, 4] rfl)
                      replace hf := hv79
                      refine lv_icmp_ne (tgt := 140) hx hb dX11_agreement_133 (by decide) (fun c80 => ?_) (fun c80 => ?_)
                      · replace hf := (if_neg c80).symm.trans hf
                        refine lv_iconst (v := (-1 : Int32)) hx hb dX11_agreement_140 (by decide) ?_
                        cases hf
                        exact J72 H_69 lo_69 dr_71 hd_71 I_69 ls_70 (lv_sub hl_70 [0, 1, 2, 3] rfl)
                      · replace hf := (if_pos c80).symm.trans hf
                        refine lv_iconst (v := (1 : Int32)) hx hb dX11_agreement_136 (by decide) ?_
                        refine lv_goto (tgt := 141) hx hb dX11_agreement_137 (by decide) ?_
                        cases hf
                        exact J72 H_69 lo_69 dr_71 hd_71 I_69 ls_70 (lv_sub hl_70 [0, 1, 2, 3] rfl)
                    replace hf := hv81
                    refine lv_if_le (tgt := 132) hx hb dX11_agreement_125 (by decide) (fun c82 => ?_) (fun c82 => ?_)
                    · replace hf := (if_pos c82).symm.trans hf
                      refine lv_iconst (v := (0 : Int32)) hx hb dX11_agreement_132 (by decide) ?_
                      cases hf
                      exact J67 H_64 lo_64 dr_66 hd_66 I_64 ls_65 (lv_sub hl_65 [0, 1, 2, 3] rfl)
                    · replace hf := (if_neg c82).symm.trans hf
                      refine lv_iconst (v := (1 : Int32)) hx hb dX11_agreement_128 (by decide) ?_
                      refine lv_goto (tgt := 133) hx hb dX11_agreement_129 (by decide) ?_
                      cases hf
                      exact J67 H_64 lo_64 dr_66 hd_66 I_64 ls_65 (lv_sub hl_65 [0, 1, 2, 3] rfl)
                  replace hf := hv83
                  refine lv_if_le (tgt := 122) hx hb dX11_agreement_115 (by decide) (fun c84 => ?_) (fun c84 => ?_)
                  · replace hf := (if_pos c84).symm.trans hf
                    refine lv_iconst (v := (0 : Int32)) hx hb dX11_agreement_122 (by decide) ?_
                    cases hf
                    exact J62 H_49 lo_49 dr_42 hd_42 I_49 ls_61 (lv_sub hl_61 [3, 0, 5, 6, 1] rfl)
                  · replace hf := (if_neg c84).symm.trans hf
                    refine lv_iconst (v := (1 : Int32)) hx hb dX11_agreement_118 (by decide) ?_
                    refine lv_goto (tgt := 123) hx hb dX11_agreement_119 (by decide) ?_
                    cases hf
                    exact J62 H_49 lo_49 dr_42 hd_42 I_49 ls_61 (lv_sub hl_61 [3, 0, 5, 6, 1] rfl)
        exact L2 FU _ _ _ hq2 H_25 lo_25 dr_27 hd_27 I_25 ls_29 (lv_sub hl_29 [1, 2, 3, 4, 0] rfl)
  exact L1 FU _ _ _ hq1 H_10 lo_10 dr hd I_10 ls_13 (lv_sub hl_13 [3, 2, 1, 0] rfl)
end Meth
