section Meth
variable {D : va_G} {l : Launch} {ad : Nat → Nat} {cI cJ cD cS : ClassId}
def C_SR_makeNewValues_s2 (x2 : Int32) (G : Nat → Nat → Int32) (Dd3 : Nat → Nat → UInt64) (x15 : UInt64) (x16 : Int32) : Option ((UInt64 × Int32) ⊕ (UInt64)) :=
if G 41 0 ≤ x16 then
(some (.inr x15))
else
(ri 8 x2 <|
ri 8 x16 <|
nm ((FP.dadd (Dd3 1 x2.toNatClampNeg) (Dd3 1 x16.toNatClampNeg)) : UInt64) fun x44 =>
nm (C_LT_cell x2 x16) fun r46 =>
ri 64 r46 <|
bd (if G 42 r46.toNatClampNeg ≤ 0 then
(some x15)
else
(if Op.cmpValue (FP.dcmp x44 FP.dconst0) CmpOp.l ≤ 0 then
(some x15)
else
(nm (C_LT_cell x2 x16) fun r58 =>
ri 64 r58 <|
nm ((FP.dadd x15 (FP.ddiv (FP.i2d (G 42 r58.toNatClampNeg)) x44)) : UInt64) fun x66 =>
some x66))) fun x51 =>
nm (x16 + (1 : Int32) : Int32) fun x55 =>
some (.inl (x51, x55)))
def C_SR_makeNewValues_s1 (G : Nat → Nat → Int32) (x2 : Int32) (Dd3 : Nat → Nat → UInt64) : Option ((Int32 × (Nat → Nat → UInt64)) ⊕ ((Nat → Nat → UInt64))) :=
if G 41 0 ≤ x2 then
(some (.inr Dd3))
else
(nm (FP.dconst0 : UInt64) fun x11 =>
bd (lp (fun q => C_SR_makeNewValues_s2 x2 G Dd3 q.1 q.2) FU (x11, (0 : Int32))) fun x17 =>
bd (if Op.cmpValue (FP.dcmp x17 FP.dconst0) CmpOp.l ≤ 0 then
(ri 8 x2 <|
some (Dd3 1 x2.toNatClampNeg))
else
(ri 8 x2 <|
some (FP.ddiv (Dd3 0 x2.toNatClampNeg) x17))) fun x22 =>
ri 8 x2 <|
nm (wr Dd3 2 x2 x22) fun Dd27 =>
nm (x2 + (1 : Int32) : Int32) fun x29 =>
some (.inl (x29, Dd27)))
def C_SR_makeNewValues (G : Nat → Nat → Int32) (Dd : Nat → Nat → UInt64) : Option ((Nat → Nat → UInt64)) :=
bd (lp (fun q => C_SR_makeNewValues_s1 G q.1 q.2) FU ((0 : Int32), Dd)) fun Dd4 =>
some Dd4
set_option maxRecDepth 100000 in
set_option maxHeartbeats 4000000 in
theorem cC_SR_makeNewValues (G : Nat → Nat → Int32) (E : Nat → Nat → Int64) (Dd : Nat → Nat → UInt64) (P : Nat → Option PRec) (Z : List PRec)   (newDd : Nat → Nat → UInt64) (hf : C_SR_makeNewValues G Dd = some newDd) : sDv D (cT cI cJ cD cS) (cW ad cI cJ cD cS) cSm l yX8_makeNewValues (ws1 yX8_makeNewValues cX8_makeNewValues 7 none) ({ frames := 1, cells := 0, slots := 0, locals := 21 }) [.ref (ad 33)] (G, E, Dd, P, Z) (G, E, newDd, P, Z) := by
  unfold C_SR_makeNewValues at hf
  refine sDv_of (by decide) (Nat.le_of_ble_eq_true rfl) ?_
  intro p e R s m args below meth c A Q ls H lo dr sgm F hRf hRl hd hsm I hl ret
  obtain ⟨_, _, Dm, _⟩ := sgm
  obtain ⟨rfl, rfl, ha, rfl⟩ := cSm_dest hsm
  obtain ⟨hx, hb, hml, hown, hG⟩ := id F
  replace hl : lv_has ls 7 [(0, .ref (ad 33))] := hl
  refine lv_iconst (v := (0 : Int32)) hx hb dX8_makeNewValues_0 (by decide) ?_
  refine lv_istore_n (lv' := [(1, .int (0 : Int32)), (0, .ref (ad 33))]) hx hb dX8_makeNewValues_1 rfl hl (by decide) rfl (fun ls_1 hl_1 => ?_)
  obtain ⟨Dd4, hq1, hf⟩ := bd_some hf
  have K1 : ∀ (H : Heap) (locs : List Loc) (d : Drawn) (Dm4 : Nat → Nat → UInt64), s.drawn.sameBut d lw_cs → alikeM Dm4 Dd4 → sInv D (cT cI cJ cD cS) (cW ad cI cJ cD cS) A s H locs (G, E, Dm4, P, Z) → ∀ (ls : Array Slot), lv_has ls 7 [] → W p l e R (s.setDrawn d) m args below meth c H locs 0 0 Q (F0 m 120 ls []) := by
    intro H_5 lo_5 dr_7 Dm4 hd_7 ha4 I_5 ls_6 hl_6
    cases hf
    exact ret H_5 lo_5 _ ls_6 dr_7 _ hd_7 I_5 ⟨rfl, rfl, ha4, rfl⟩ dX8_makeNewValues_120
  have L1 : ∀ (n : Nat) (x2 : Int32) (Dd3 : Nat → Nat → UInt64), lp (fun q => C_SR_makeNewValues_s1 G q.1 q.2) n (x2, Dd3) = some Dd4 → ∀ (H : Heap) (locs : List Loc) (d : Drawn) (Dm3 : Nat → Nat → UInt64), s.drawn.sameBut d lw_cs → alikeM Dm3 Dd3 → sInv D (cT cI cJ cD cS) (cW ad cI cJ cD cS) A s H locs (G, E, Dm3, P, Z) → ∀ (ls : Array Slot), lv_has ls 7 [(0, .ref (ad 33)), (1, .int x2)] → W p l e R (s.setDrawn d) m args below meth c H locs 0 0 Q (F0 m 2 ls []) := by
    intro n
    induction n with
    | zero => intro x2 Dd3 hq; exact (lp_0 hq).elim
    | succ n ih1 =>
      intro x2 Dd3 hq H_8 lo_8 dr_10 Dm3 hd_10 ha3 I_8 ls_9 hl_9
      obtain ⟨y1, hf, hK1⟩ := lp_go hq
      replace hf : C_SR_makeNewValues_s1 G x2 Dd3 = some y1 := hf
      unfold C_SR_makeNewValues_s1 at hf
      refine lv_iload_n hx hb dX8_makeNewValues_2 rfl (lv_at hl_9 1 rfl) ?_
      refine lv_aload_n hx hb dX8_makeNewValues_3 rfl (lv_at hl_9 0 rfl) ?_
      refine kgtX8_9_33 (Fdr F) (Idr I_8) dX8_makeNewValues_4 ?_
      refine lv_icmp_ge (tgt := 120) hx hb dX8_makeNewValues_7 (by decide) (fun c71 => ?_) (fun c71 => ?_)
      · replace hf := (if_pos c71).symm.trans hf
        cases hf
        cases (show Dd3 = Dd4 from hK1)
        exact K1 H_8 lo_8 dr_10 Dm3 hd_10 ha3 I_8 ls_9 (lv_sub hl_9 [] rfl)
      · replace hf := (if_neg c71).symm.trans hf
        refine lv_dconst0 hx hb dX8_makeNewValues_10 ?_
        obtain ⟨x11, ex11⟩ : ∃ z : UInt64, z = FP.dconst0 := ⟨_, rfl⟩
        replace hf := nm_some ex11 hf
        have hx11 := al_eq2 ex11 (al_rf _)
        refine lv_topd (fun m12 em12 => ?_)
        have hm12 := al_eq em12 hx11
        refine lv_dstore_n (lv' := [(2, .double m12), (0, .ref (ad 33)), (1, .int x2)]) hx hb dX8_makeNewValues_11 rfl hl_9 (by decide) rfl (fun ls_13 hl_13 => ?_)
        refine lv_iconst (v := (0 : Int32)) hx hb dX8_makeNewValues_12 (by decide) ?_
        refine lv_istore (lv' := [(4, .int (0 : Int32)), (2, .double m12), (0, .ref (ad 33)), (1, .int x2)]) hx hb dX8_makeNewValues_13 hl_13 (by decide) rfl (fun ls_14 hl_14 => ?_)
        obtain ⟨x17, hq2, hf⟩ := bd_some hf
        have K2 : ∀ (H : Heap) (locs : List Loc) (d : Drawn) (mx17 : UInt64), s.drawn.sameBut d lw_cs → alike64 mx17 x17 = true → sInv D (cT cI cJ cD cS) (cW ad cI cJ cD cS) A s H locs (G, E, Dm3, P, Z) → ∀ (ls : Array Slot), lv_has ls 7 [(0, .ref (ad 33)), (1, .int x2), (2, .double mx17)] → W p l e R (s.setDrawn d) m args below meth c H locs 0 0 Q (F0 m 85 ls []) := by
          intro H_18 lo_18 dr_20 mx17 hd_20 hx17 I_18 ls_19 hl_19
          refine lv_aload_n hx hb dX8_makeNewValues_85 rfl (lv_at hl_19 0 rfl) ?_
          refine kgtX8_26_33 (Fdr F) (Idr I_18) dX8_makeNewValues_86 ?_
          refine lv_iload_n hx hb dX8_makeNewValues_89 rfl (lv_at hl_19 1 rfl) ?_
          refine lv_dload_n hx hb dX8_makeNewValues_90 rfl (lv_at hl_19 2 rfl) ?_
          refine lv_dconst0 hx hb dX8_makeNewValues_91 ?_
          refine lv_dcmp hx hb dX8_makeNewValues_92 ?_
          rw [al_dcmp hx17 (al_rf _)]
          obtain ⟨x22, hv31, hf⟩ := bd_some hf
          have J21 : ∀ (H : Heap) (locs : List Loc) (d : Drawn) (mx22 : UInt64), s.drawn.sameBut d lw_cs → alike64 mx22 x22 = true → sInv D (cT cI cJ cD cS) (cW ad cI cJ cD cS) A s H locs (G, E, Dm3, P, Z) → ∀ (ls : Array Slot), lv_has ls 7 [(0, .ref (ad 33)), (1, .int x2)] → W p l e R (s.setDrawn d) m args below meth c H locs 0 0 Q (F0 m 113 ls [.double mx22, .int x2, .ref (ad 37)]) := by
            intro H_23 lo_23 dr_25 mx22 hd_25 hx22 I_23 ls_24 hl_24
            obtain ⟨g26, hf⟩ := ri_some hf
            refine kas37 (Fdr F) (Idr I_23) g26 dX8_makeNewValues_113 ?_
            intro H_28 lo_28 Dm27 eDm27 I_28
            replace I_28 := Irr I_28
            obtain ⟨Dd27, eDd27⟩ : ∃ z, z = wr Dd3 2 x2 x22 := ⟨_, rfl⟩
            replace hf := nm_some eDd27 hf
            have ha27 : alikeM Dm27 Dd27 := alM_eq eDm27 eDd27 (al_wr ha3 hx22)
            obtain ⟨x29, ex29⟩ : ∃ y : Int32, y = x2 + (1 : Int32) := ⟨_, rfl⟩
            replace hf := nm_some ex29 hf
            refine lv_iinc (v := x29) (lv' := [(1, .int x29), (0, .ref (ad 33))]) hx hb dX8_makeNewValues_114 hl_24 (k := 1) rfl (by rw [ex29]; rfl) (by decide) rfl (fun ls_30 hl_30 => ?_)
            refine lv_goto (tgt := 2) hx hb dX8_makeNewValues_117 (by decide) ?_
            cases hf
            exact ih1 _ _ hK1 H_28 lo_28 dr_25 Dm27 hd_25 ha27 I_28 ls_30 (lv_sub hl_30 [1, 0] rfl)
          replace hf := hv31
          refine lv_if_le (tgt := 107) hx hb dX8_makeNewValues_93 (by decide) (fun c36 => ?_) (fun c36 => ?_)
          · replace hf := (if_pos c36).symm.trans hf
            refine lv_aload_n hx hb dX8_makeNewValues_107 rfl (lv_at hl_19 0 rfl) ?_
            refine kgtX8_23_33 (Fdr F) (Idr I_18) dX8_makeNewValues_108 ?_
            refine lv_iload_n hx hb dX8_makeNewValues_111 rfl (lv_at hl_19 1 rfl) ?_
            obtain ⟨g32, hf⟩ := ri_some hf
            refine kal36 (Fdr F) (Idr I_18) g32 dX8_makeNewValues_112 ?_
            cases hf
            exact J21 H_18 lo_18 dr_20 (Dm3 1 x2.toNatClampNeg) hd_20 (ha3 1 _) I_18 ls_19 (lv_sub hl_19 [0, 1] rfl)
          · replace hf := (if_neg c36).symm.trans hf
            refine lv_aload_n hx hb dX8_makeNewValues_96 rfl (lv_at hl_19 0 rfl) ?_
            refine kgtX8_19_33 (Fdr F) (Idr I_18) dX8_makeNewValues_97 ?_
            refine lv_iload_n hx hb dX8_makeNewValues_100 rfl (lv_at hl_19 1 rfl) ?_
            obtain ⟨g33, hf⟩ := ri_some hf
            refine kal35 (Fdr F) (Idr I_18) g33 dX8_makeNewValues_101 ?_
            refine lv_dload_n hx hb dX8_makeNewValues_102 rfl (lv_at hl_19 2 rfl) ?_
            refine lv_ddiv_any hd_20 lw_bits hx hb dX8_makeNewValues_103 (fun u34 dr_35 alu34 hd_35 => ?_)
            have hu34 := al_ddiv alu34 (ha3 0 _) hx17
            refine lv_goto (tgt := 113) hx hb dX8_makeNewValues_104 (by decide) ?_
            cases hf
            exact J21 H_18 lo_18 dr_35 u34 hd_35 hu34 I_18 ls_19 (lv_sub hl_19 [0, 1] rfl)
        have L2 : ∀ (n : Nat) (x15 : UInt64) (x16 : Int32), lp (fun q => C_SR_makeNewValues_s2 x2 G Dd3 q.1 q.2) n (x15, x16) = some x17 → ∀ (H : Heap) (locs : List Loc) (d : Drawn) (mx15 : UInt64), s.drawn.sameBut d lw_cs → alike64 mx15 x15 = true → sInv D (cT cI cJ cD cS) (cW ad cI cJ cD cS) A s H locs (G, E, Dm3, P, Z) → ∀ (ls : Array Slot), lv_has ls 7 [(0, .ref (ad 33)), (1, .int x2), (2, .double mx15), (4, .int x16)] → W p l e R (s.setDrawn d) m args below meth c H locs 0 0 Q (F0 m 15 ls []) := by
          intro n
          induction n with
          | zero => intro x15 x16 hq; exact (lp_0 hq).elim
          | succ n ih2 =>
            intro x15 x16 hq H_37 lo_37 dr_39 mx15 hd_39 hx15 I_37 ls_38 hl_38
            obtain ⟨y2, hf, hK2⟩ := lp_go hq
            replace hf : C_SR_makeNewValues_s2 x2 G Dd3 x15 x16 = some y2 := hf
            unfold C_SR_makeNewValues_s2 at hf
            refine lv_iload hx hb dX8_makeNewValues_15 (lv_at hl_38 3 rfl) ?_
            refine lv_aload_n hx hb dX8_makeNewValues_17 rfl (lv_at hl_38 0 rfl) ?_
            refine kgtX8_9_33 (Fdr F) (Idr I_37) dX8_makeNewValues_18 ?_
            refine lv_icmp_ge (tgt := 85) hx hb dX8_makeNewValues_21 (by decide) (fun c70 => ?_) (fun c70 => ?_)
            · replace hf := (if_pos c70).symm.trans hf
              cases hf
              cases (show x15 = x17 from hK2)
              exact K2 H_37 lo_37 dr_39 mx15 hd_39 hx15 I_37 ls_38 (lv_sub hl_38 [0, 1, 2] rfl)
            · replace hf := (if_neg c70).symm.trans hf
              refine lv_aload_n hx hb dX8_makeNewValues_24 rfl (lv_at hl_38 0 rfl) ?_
              refine kgtX8_23_33 (Fdr F) (Idr I_37) dX8_makeNewValues_25 ?_
              refine lv_iload_n hx hb dX8_makeNewValues_28 rfl (lv_at hl_38 1 rfl) ?_
              obtain ⟨g40, hf⟩ := ri_some hf
              refine kal36 (Fdr F) (Idr I_37) g40 dX8_makeNewValues_29 ?_
              refine lv_aload_n hx hb dX8_makeNewValues_30 rfl (lv_at hl_38 0 rfl) ?_
              refine kgtX8_23_33 (Fdr F) (Idr I_37) dX8_makeNewValues_31 ?_
              refine lv_iload hx hb dX8_makeNewValues_34 (lv_at hl_38 3 rfl) ?_
              obtain ⟨g41, hf⟩ := ri_some hf
              refine kal36 (Fdr F) (Idr I_37) g41 dX8_makeNewValues_36 ?_
              refine lv_dadd_any hd_39 lw_bits hx hb dX8_makeNewValues_37 (fun u42 dr_43 alu42 hd_43 => ?_)
              have hu42 := al_dadd alu42 (ha3 1 _) (ha3 1 _)
              obtain ⟨x44, ex44⟩ : ∃ z : UInt64, z = (FP.dadd (Dd3 1 x2.toNatClampNeg) (Dd3 1 x16.toNatClampNeg)) := ⟨_, rfl⟩
              replace hf := nm_some ex44 hf
              have hx44 := al_eq2 ex44 hu42
              refine lv_dstore (lv' := [(5, .double u42), (0, .ref (ad 33)), (1, .int x2), (2, .double mx15), (4, .int x16)]) hx hb dX8_makeNewValues_38 hl_38 (by decide) rfl (fun ls_45 hl_45 => ?_)
              refine lv_aload_n hx hb dX8_makeNewValues_40 rfl (lv_at hl_45 1 rfl) ?_
              refine kgtX8_15_33 (Fdr F) (Idr I_37) dX8_makeNewValues_41 ?_
              refine lv_iload_n hx hb dX8_makeNewValues_44 rfl (lv_at hl_45 2 rfl) ?_
              refine lv_iload hx hb dX8_makeNewValues_45 (lv_at hl_45 4 rfl) ?_
              obtain ⟨r46, h47⟩ : ∃ z, z = C_LT_cell x2 x16 := ⟨_, rfl⟩
              replace hf := nm_some h47 hf
              refine s_callSNi (As := [.int x2, .int x16]) (rest := [.ref (ad 34)]) (Fdr F) (Idr I_37) (cC_LT_cell G E Dm3 P Z x2 x16 r46 h47) kX8_63 ⟨rfl, rfl⟩ ⟨Nat.le_trans (Nat.le_of_ble_eq_true rfl) hRf, Nat.le_trans (Nat.le_of_ble_eq_true rfl) hRl⟩ rfl rfl hl_45.1 (Nat.le_of_ble_eq_true rfl) ⟨Nat.zero_le _, Nat.zero_le _⟩ dX8_makeNewValues_47 ?_
              intro H_48 lo_48 I_48
              replace I_48 := Irr I_48
              obtain ⟨g49, hf⟩ := ri_some hf
              refine kal34 (Fdr F) (Idr I_48) g49 dX8_makeNewValues_50 ?_
              obtain ⟨x51, hv57, hf⟩ := bd_some hf
              have J50 : ∀ (H : Heap) (locs : List Loc) (d : Drawn) (mx51 : UInt64), s.drawn.sameBut d lw_cs → alike64 mx51 x51 = true → sInv D (cT cI cJ cD cS) (cW ad cI cJ cD cS) A s H locs (G, E, Dm3, P, Z) → ∀ (ls : Array Slot), lv_has ls 7 [(0, .ref (ad 33)), (1, .int x2), (2, .double mx51), (4, .int x16)] → W p l e R (s.setDrawn d) m args below meth c H locs 0 0 Q (F0 m 79 ls []) := by
                intro H_52 lo_52 dr_54 mx51 hd_54 hx51 I_52 ls_53 hl_53
                obtain ⟨x55, ex55⟩ : ∃ y : Int32, y = x16 + (1 : Int32) := ⟨_, rfl⟩
                replace hf := nm_some ex55 hf
                refine lv_iinc (v := x55) (lv' := [(4, .int x55), (0, .ref (ad 33)), (1, .int x2), (2, .double mx51)]) hx hb dX8_makeNewValues_79 hl_53 (k := 3) rfl (by rw [ex55]; rfl) (by decide) rfl (fun ls_56 hl_56 => ?_)
                refine lv_goto (tgt := 15) hx hb dX8_makeNewValues_82 (by decide) ?_
                cases hf
                exact ih2 _ _ hK2 H_52 lo_52 dr_54 mx51 hd_54 hx51 I_52 ls_56 (lv_sub hl_56 [1, 2, 3, 0] rfl)
              replace hf := hv57
              refine lv_if_le (tgt := 79) hx hb dX8_makeNewValues_51 (by decide) (fun c69 => ?_) (fun c69 => ?_)
              · replace hf := (if_pos c69).symm.trans hf
                cases hf
                exact J50 H_48 lo_48 dr_43 mx15 hd_43 hx15 I_48 ls_45 (lv_sub hl_45 [1, 2, 3, 4] rfl)
              · replace hf := (if_neg c69).symm.trans hf
                refine lv_dload hx hb dX8_makeNewValues_54 (lv_at hl_45 0 rfl) ?_
                refine lv_dconst0 hx hb dX8_makeNewValues_56 ?_
                refine lv_dcmp hx hb dX8_makeNewValues_57 ?_
                rw [al_dcmp hx44 (al_rf _)]
                refine lv_if_le (tgt := 79) hx hb dX8_makeNewValues_58 (by decide) (fun c68 => ?_) (fun c68 => ?_)
                · replace hf := (if_pos c68).symm.trans hf
                  cases hf
                  exact J50 H_48 lo_48 dr_43 mx15 hd_43 hx15 I_48 ls_45 (lv_sub hl_45 [1, 2, 3, 4] rfl)
                · replace hf := (if_neg c68).symm.trans hf
                  refine lv_dload_n hx hb dX8_makeNewValues_61 rfl (lv_at hl_45 3 rfl) ?_
                  refine lv_aload_n hx hb dX8_makeNewValues_62 rfl (lv_at hl_45 1 rfl) ?_
                  refine kgtX8_15_33 (Fdr F) (Idr I_48) dX8_makeNewValues_63 ?_
                  refine lv_iload_n hx hb dX8_makeNewValues_66 rfl (lv_at hl_45 2 rfl) ?_
                  refine lv_iload hx hb dX8_makeNewValues_67 (lv_at hl_45 4 rfl) ?_
                  obtain ⟨r58, h59⟩ : ∃ z, z = C_LT_cell x2 x16 := ⟨_, rfl⟩
                  replace hf := nm_some h59 hf
                  refine s_callSNi (As := [.int x2, .int x16]) (rest := [.ref (ad 34), .double mx15]) (Fdr F) (Idr I_48) (cC_LT_cell G E Dm3 P Z x2 x16 r58 h59) kX8_63 ⟨rfl, rfl⟩ ⟨Nat.le_trans (Nat.le_of_ble_eq_true rfl) hRf, Nat.le_trans (Nat.le_of_ble_eq_true rfl) hRl⟩ rfl rfl hl_45.1 (Nat.le_of_ble_eq_true rfl) ⟨Nat.zero_le _, Nat.zero_le _⟩ dX8_makeNewValues_69 ?_
                  intro H_60 lo_60 I_60
                  replace I_60 := Irr I_60
                  obtain ⟨g61, hf⟩ := ri_some hf
                  refine kal34 (Fdr F) (Idr I_60) g61 dX8_makeNewValues_72 ?_
                  refine lv_i2d hx hb dX8_makeNewValues_73 ?_
                  refine lv_dload hx hb dX8_makeNewValues_74 (lv_at hl_45 0 rfl) ?_
                  refine lv_ddiv_any hd_43 lw_bits hx hb dX8_makeNewValues_76 (fun u62 dr_63 alu62 hd_63 => ?_)
                  have hu62 := al_ddiv alu62 (al_rf _) hx44
                  refine lv_dadd_any hd_63 lw_bits hx hb dX8_makeNewValues_77 (fun u64 dr_65 alu64 hd_65 => ?_)
                  have hu64 := al_dadd alu64 hx15 hu62
                  obtain ⟨x66, ex66⟩ : ∃ z : UInt64, z = (FP.dadd x15 (FP.ddiv (FP.i2d (G 42 r58.toNatClampNeg)) x44)) := ⟨_, rfl⟩
                  replace hf := nm_some ex66 hf
                  have hx66 := al_eq2 ex66 hu64
                  refine lv_dstore_n (lv' := [(2, .double u64), (5, .double u42), (0, .ref (ad 33)), (1, .int x2), (4, .int x16)]) hx hb dX8_makeNewValues_78 rfl hl_45 (by decide) rfl (fun ls_67 hl_67 => ?_)
                  cases hf
                  exact J50 H_60 lo_60 dr_65 u64 hd_65 hx66 I_60 ls_67 (lv_sub hl_67 [2, 3, 0, 4] rfl)
        exact L2 FU _ _ hq2 H_8 lo_8 dr_10 m12 hd_10 hm12 I_8 ls_14 (lv_sub hl_14 [2, 3, 1, 0] rfl)
  exact L1 FU _ _ hq1 H lo dr Dm hd ha I ls_1 (lv_sub hl_1 [1, 0] rfl)
def C_SR_scaleNewValues_s2 (x7 : UInt64) (G : Nat → Nat → Int32) (x12 : Int32) (Dd13 : Nat → Nat → UInt64) : Option ((Int32 × (Nat → Nat → UInt64)) ⊕ ((Nat → Nat → UInt64))) :=
if G 41 0 ≤ x12 then
(some (.inr Dd13))
else
(bd (if Op.cmpValue (FP.dcmp x7 FP.dconst0) CmpOp.l ≤ 0 then
(ri 8 x12 <|
some (Dd13 2 x12.toNatClampNeg))
else
(ri 8 x12 <|
some (FP.dmul (Dd13 2 x12.toNatClampNeg) (FP.ddiv (FP.i2d (G 41 0)) x7)))) fun x22 =>
ri 8 x12 <|
nm (wr Dd13 1 x12 x22) fun Dd27 =>
nm (x12 + (1 : Int32) : Int32) fun x29 =>
some (.inl (x29, Dd27)))
def C_SR_scaleNewValues_s1 (G : Nat → Nat → Int32) (Dd : Nat → Nat → UInt64) (x5 : UInt64) (x6 : Int32) : Option ((UInt64 × Int32) ⊕ (UInt64)) :=
if G 41 0 ≤ x6 then
(some (.inr x5))
else
(ri 8 x6 <|
nm ((FP.dadd x5 (Dd 2 x6.toNatClampNeg)) : UInt64) fun x46 =>
nm (x6 + (1 : Int32) : Int32) fun x48 =>
some (.inl (x46, x48)))
def C_SR_scaleNewValues (G : Nat → Nat → Int32) (Dd : Nat → Nat → UInt64) : Option ((Nat → Nat → UInt64)) :=
nm (FP.dconst0 : UInt64) fun x1 =>
bd (lp (fun q => C_SR_scaleNewValues_s1 G Dd q.1 q.2) FU (x1, (0 : Int32))) fun x7 =>
bd (lp (fun q => C_SR_scaleNewValues_s2 x7 G q.1 q.2) FU ((0 : Int32), Dd)) fun Dd14 =>
some Dd14
set_option maxRecDepth 100000 in
set_option maxHeartbeats 4000000 in
theorem cC_SR_scaleNewValues (G : Nat → Nat → Int32) (E : Nat → Nat → Int64) (Dd : Nat → Nat → UInt64) (P : Nat → Option PRec) (Z : List PRec)   (newDd : Nat → Nat → UInt64) (hf : C_SR_scaleNewValues G Dd = some newDd) : sDv D (cT cI cJ cD cS) (cW ad cI cJ cD cS) cSm l yX8_scaleNewValues (ws1 yX8_scaleNewValues cX8_scaleNewValues 4 none) ({ frames := 0, cells := 0, slots := 0, locals := 0 }) [.ref (ad 33)] (G, E, Dd, P, Z) (G, E, newDd, P, Z) := by
  unfold C_SR_scaleNewValues at hf
  refine sDv_of (by decide) (Nat.le_of_ble_eq_true rfl) ?_
  intro p e R s m args below meth c A Q ls H lo dr sgm F hRf hRl hd hsm I hl ret
  obtain ⟨_, _, Dm, _⟩ := sgm
  obtain ⟨rfl, rfl, ha, rfl⟩ := cSm_dest hsm
  obtain ⟨hx, hb, hml, hown, hG⟩ := id F
  replace hl : lv_has ls 4 [(0, .ref (ad 33))] := hl
  refine lv_dconst0 hx hb dX8_scaleNewValues_0 ?_
  obtain ⟨x1, ex1⟩ : ∃ z : UInt64, z = FP.dconst0 := ⟨_, rfl⟩
  replace hf := nm_some ex1 hf
  have hx1 := al_eq2 ex1 (al_rf _)
  refine lv_topd (fun m2 em2 => ?_)
  have hm2 := al_eq em2 hx1
  refine lv_dstore_n (lv' := [(1, .double m2), (0, .ref (ad 33))]) hx hb dX8_scaleNewValues_1 rfl hl (by decide) rfl (fun ls_3 hl_3 => ?_)
  refine lv_iconst (v := (0 : Int32)) hx hb dX8_scaleNewValues_2 (by decide) ?_
  refine lv_istore_n (lv' := [(3, .int (0 : Int32)), (1, .double m2), (0, .ref (ad 33))]) hx hb dX8_scaleNewValues_3 rfl hl_3 (by decide) rfl (fun ls_4 hl_4 => ?_)
  obtain ⟨x7, hq1, hf⟩ := bd_some hf
  have K1 : ∀ (H : Heap) (locs : List Loc) (d : Drawn) (mx7 : UInt64), s.drawn.sameBut d lw_cs → alike64 mx7 x7 = true → sInv D (cT cI cJ cD cS) (cW ad cI cJ cD cS) A s H locs (G, E, Dm, P, Z) → ∀ (ls : Array Slot), lv_has ls 4 [(0, .ref (ad 33)), (1, .double mx7)] → W p l e R (s.setDrawn d) m args below meth c H locs 0 0 Q (F0 m 27 ls []) := by
    intro H_8 lo_8 dr_10 mx7 hd_10 hx7 I_8 ls_9 hl_9
    refine lv_iconst (v := (0 : Int32)) hx hb dX8_scaleNewValues_27 (by decide) ?_
    refine lv_istore_n (lv' := [(3, .int (0 : Int32)), (0, .ref (ad 33)), (1, .double mx7)]) hx hb dX8_scaleNewValues_28 rfl hl_9 (by decide) rfl (fun ls_11 hl_11 => ?_)
    obtain ⟨Dd14, hq2, hf⟩ := bd_some hf
    have K2 : ∀ (H : Heap) (locs : List Loc) (d : Drawn) (Dm14 : Nat → Nat → UInt64), s.drawn.sameBut d lw_cs → alikeM Dm14 Dd14 → sInv D (cT cI cJ cD cS) (cW ad cI cJ cD cS) A s H locs (G, E, Dm14, P, Z) → ∀ (ls : Array Slot), lv_has ls 4 [] → W p l e R (s.setDrawn d) m args below meth c H locs 0 0 Q (F0 m 78 ls []) := by
      intro H_15 lo_15 dr_17 Dm14 hd_17 ha14 I_15 ls_16 hl_16
      cases hf
      exact ret H_15 lo_15 _ ls_16 dr_17 _ hd_17 I_15 ⟨rfl, rfl, ha14, rfl⟩ dX8_scaleNewValues_78
    have L2 : ∀ (n : Nat) (x12 : Int32) (Dd13 : Nat → Nat → UInt64), lp (fun q => C_SR_scaleNewValues_s2 x7 G q.1 q.2) n (x12, Dd13) = some Dd14 → ∀ (H : Heap) (locs : List Loc) (d : Drawn) (Dm13 : Nat → Nat → UInt64), s.drawn.sameBut d lw_cs → alikeM Dm13 Dd13 → sInv D (cT cI cJ cD cS) (cW ad cI cJ cD cS) A s H locs (G, E, Dm13, P, Z) → ∀ (ls : Array Slot), lv_has ls 4 [(0, .ref (ad 33)), (1, .double mx7), (3, .int x12)] → W p l e R (s.setDrawn d) m args below meth c H locs 0 0 Q (F0 m 29 ls []) := by
      intro n
      induction n with
      | zero => intro x12 Dd13 hq; exact (lp_0 hq).elim
      | succ n ih2 =>
        intro x12 Dd13 hq H_18 lo_18 dr_20 Dm13 hd_20 ha13 I_18 ls_19 hl_19
        obtain ⟨y2, hf, hK2⟩ := lp_go hq
        replace hf : C_SR_scaleNewValues_s2 x7 G x12 Dd13 = some y2 := hf
        unfold C_SR_scaleNewValues_s2 at hf
        refine lv_iload_n hx hb dX8_scaleNewValues_29 rfl (lv_at hl_19 2 rfl) ?_
        refine lv_aload_n hx hb dX8_scaleNewValues_30 rfl (lv_at hl_19 0 rfl) ?_
        refine kgtX8_9_33 (Fdr F) (Idr I_18) dX8_scaleNewValues_31 ?_
        refine lv_icmp_ge (tgt := 78) hx hb dX8_scaleNewValues_34 (by decide) (fun c39 => ?_) (fun c39 => ?_)
        · replace hf := (if_pos c39).symm.trans hf
          cases hf
          cases (show Dd13 = Dd14 from hK2)
          exact K2 H_18 lo_18 dr_20 Dm13 hd_20 ha13 I_18 ls_19 (lv_sub hl_19 [] rfl)
        · replace hf := (if_neg c39).symm.trans hf
          refine lv_aload_n hx hb dX8_scaleNewValues_37 rfl (lv_at hl_19 0 rfl) ?_
          refine kgtX8_23_33 (Fdr F) (Idr I_18) dX8_scaleNewValues_38 ?_
          refine lv_iload_n hx hb dX8_scaleNewValues_41 rfl (lv_at hl_19 2 rfl) ?_
          refine lv_dload_n hx hb dX8_scaleNewValues_42 rfl (lv_at hl_19 1 rfl) ?_
          refine lv_dconst0 hx hb dX8_scaleNewValues_43 ?_
          refine lv_dcmp hx hb dX8_scaleNewValues_44 ?_
          rw [al_dcmp hx7 (al_rf _)]
          obtain ⟨x22, hv31, hf⟩ := bd_some hf
          have J21 : ∀ (H : Heap) (locs : List Loc) (d : Drawn) (mx22 : UInt64), s.drawn.sameBut d lw_cs → alike64 mx22 x22 = true → sInv D (cT cI cJ cD cS) (cW ad cI cJ cD cS) A s H locs (G, E, Dm13, P, Z) → ∀ (ls : Array Slot), lv_has ls 4 [(0, .ref (ad 33)), (1, .double mx7), (3, .int x12)] → W p l e R (s.setDrawn d) m args below meth c H locs 0 0 Q (F0 m 71 ls [.double mx22, .int x12, .ref (ad 36)]) := by
            intro H_23 lo_23 dr_25 mx22 hd_25 hx22 I_23 ls_24 hl_24
            obtain ⟨g26, hf⟩ := ri_some hf
            refine kas36 (Fdr F) (Idr I_23) g26 dX8_scaleNewValues_71 ?_
            intro H_28 lo_28 Dm27 eDm27 I_28
            replace I_28 := Irr I_28
            obtain ⟨Dd27, eDd27⟩ : ∃ z, z = wr Dd13 1 x12 x22 := ⟨_, rfl⟩
            replace hf := nm_some eDd27 hf
            have ha27 : alikeM Dm27 Dd27 := alM_eq eDm27 eDd27 (al_wr ha13 hx22)
            obtain ⟨x29, ex29⟩ : ∃ y : Int32, y = x12 + (1 : Int32) := ⟨_, rfl⟩
            replace hf := nm_some ex29 hf
            refine lv_iinc (v := x29) (lv' := [(3, .int x29), (0, .ref (ad 33)), (1, .double mx7)]) hx hb dX8_scaleNewValues_72 hl_24 (k := 2) rfl (by rw [ex29]; rfl) (by decide) rfl (fun ls_30 hl_30 => ?_)
            refine lv_goto (tgt := 29) hx hb dX8_scaleNewValues_75 (by decide) ?_
            cases hf
            exact ih2 _ _ hK2 H_28 lo_28 dr_25 Dm27 hd_25 ha27 I_28 ls_30 (lv_sub hl_30 [1, 2, 0] rfl)
          replace hf := hv31
          refine lv_if_le (tgt := 65) hx hb dX8_scaleNewValues_45 (by decide) (fun c38 => ?_) (fun c38 => ?_)
          · replace hf := (if_pos c38).symm.trans hf
            refine lv_aload_n hx hb dX8_scaleNewValues_65 rfl (lv_at hl_19 0 rfl) ?_
            refine kgtX8_26_33 (Fdr F) (Idr I_18) dX8_scaleNewValues_66 ?_
            refine lv_iload_n hx hb dX8_scaleNewValues_69 rfl (lv_at hl_19 2 rfl) ?_
            obtain ⟨g32, hf⟩ := ri_some hf
            refine kal37 (Fdr F) (Idr I_18) g32 dX8_scaleNewValues_70 ?_
            cases hf
            exact J21 H_18 lo_18 dr_20 (Dm13 2 x12.toNatClampNeg) hd_20 (ha13 2 _) I_18 ls_19 (lv_sub hl_19 [0, 1, 2] rfl)
          · replace hf := (if_neg c38).symm.trans hf
            refine lv_aload_n hx hb dX8_scaleNewValues_48 rfl (lv_at hl_19 0 rfl) ?_
            refine kgtX8_26_33 (Fdr F) (Idr I_18) dX8_scaleNewValues_49 ?_
            refine lv_iload_n hx hb dX8_scaleNewValues_52 rfl (lv_at hl_19 2 rfl) ?_
            obtain ⟨g33, hf⟩ := ri_some hf
            refine kal37 (Fdr F) (Idr I_18) g33 dX8_scaleNewValues_53 ?_
            refine lv_aload_n hx hb dX8_scaleNewValues_54 rfl (lv_at hl_19 0 rfl) ?_
            refine kgtX8_9_33 (Fdr F) (Idr I_18) dX8_scaleNewValues_55 ?_
            refine lv_i2d hx hb dX8_scaleNewValues_58 ?_
            refine lv_dload_n hx hb dX8_scaleNewValues_59 rfl (lv_at hl_19 1 rfl) ?_
            refine lv_ddiv_any hd_20 lw_bits hx hb dX8_scaleNewValues_60 (fun u34 dr_35 alu34 hd_35 => ?_)
            have hu34 := al_ddiv alu34 (al_rf _) hx7
            refine lv_dmul_any hd_35 lw_bits hx hb dX8_scaleNewValues_61 (fun u36 dr_37 alu36 hd_37 => ?_)
            have hu36 := al_dmul alu36 (ha13 2 _) hu34
            refine lv_goto (tgt := 71) hx hb dX8_scaleNewValues_62 (by decide) ?_
            cases hf
            exact J21 H_18 lo_18 dr_37 u36 hd_37 hu36 I_18 ls_19 (lv_sub hl_19 [0, 1, 2] rfl)
    exact L2 FU _ _ hq2 H_8 lo_8 dr_10 Dm hd_10 ha I_8 ls_11 (lv_sub hl_11 [1, 2, 0] rfl)
  have L1 : ∀ (n : Nat) (x5 : UInt64) (x6 : Int32), lp (fun q => C_SR_scaleNewValues_s1 G Dd q.1 q.2) n (x5, x6) = some x7 → ∀ (H : Heap) (locs : List Loc) (d : Drawn) (mx5 : UInt64), s.drawn.sameBut d lw_cs → alike64 mx5 x5 = true → sInv D (cT cI cJ cD cS) (cW ad cI cJ cD cS) A s H locs (G, E, Dm, P, Z) → ∀ (ls : Array Slot), lv_has ls 4 [(0, .ref (ad 33)), (1, .double mx5), (3, .int x6)] → W p l e R (s.setDrawn d) m args below meth c H locs 0 0 Q (F0 m 4 ls []) := by
    intro n
    induction n with
    | zero => intro x5 x6 hq; exact (lp_0 hq).elim
    | succ n ih1 =>
      intro x5 x6 hq H_40 lo_40 dr_42 mx5 hd_42 hx5 I_40 ls_41 hl_41
      obtain ⟨y1, hf, hK1⟩ := lp_go hq
      replace hf : C_SR_scaleNewValues_s1 G Dd x5 x6 = some y1 := hf
      unfold C_SR_scaleNewValues_s1 at hf
      refine lv_iload_n hx hb dX8_scaleNewValues_4 rfl (lv_at hl_41 2 rfl) ?_
      refine lv_aload_n hx hb dX8_scaleNewValues_5 rfl (lv_at hl_41 0 rfl) ?_
      refine kgtX8_9_33 (Fdr F) (Idr I_40) dX8_scaleNewValues_6 ?_
      refine lv_icmp_ge (tgt := 27) hx hb dX8_scaleNewValues_9 (by decide) (fun c50 => ?_) (fun c50 => ?_)
      · replace hf := (if_pos c50).symm.trans hf
        cases hf
        cases (show x5 = x7 from hK1)
        exact K1 H_40 lo_40 dr_42 mx5 hd_42 hx5 I_40 ls_41 (lv_sub hl_41 [0, 1] rfl)
      · replace hf := (if_neg c50).symm.trans hf
        refine lv_dload_n hx hb dX8_scaleNewValues_12 rfl (lv_at hl_41 1 rfl) ?_
        refine lv_aload_n hx hb dX8_scaleNewValues_13 rfl (lv_at hl_41 0 rfl) ?_
        refine kgtX8_26_33 (Fdr F) (Idr I_40) dX8_scaleNewValues_14 ?_
        refine lv_iload_n hx hb dX8_scaleNewValues_17 rfl (lv_at hl_41 2 rfl) ?_
        obtain ⟨g43, hf⟩ := ri_some hf
        refine kal37 (Fdr F) (Idr I_40) g43 dX8_scaleNewValues_18 ?_
        refine lv_dadd_any hd_42 lw_bits hx hb dX8_scaleNewValues_19 (fun u44 dr_45 alu44 hd_45 => ?_)
        have hu44 := al_dadd alu44 hx5 (ha 2 _)
        obtain ⟨x46, ex46⟩ : ∃ z : UInt64, z = (FP.dadd x5 (Dd 2 x6.toNatClampNeg)) := ⟨_, rfl⟩
        replace hf := nm_some ex46 hf
        have hx46 := al_eq2 ex46 hu44
        refine lv_dstore_n (lv' := [(1, .double u44), (0, .ref (ad 33)), (3, .int x6)]) hx hb dX8_scaleNewValues_20 rfl hl_41 (by decide) rfl (fun ls_47 hl_47 => ?_)
        obtain ⟨x48, ex48⟩ : ∃ y : Int32, y = x6 + (1 : Int32) := ⟨_, rfl⟩
        replace hf := nm_some ex48 hf
        refine lv_iinc (v := x48) (lv' := [(3, .int x48), (1, .double u44), (0, .ref (ad 33))]) hx hb dX8_scaleNewValues_21 hl_47 (k := 2) rfl (by rw [ex48]; rfl) (by decide) rfl (fun ls_49 hl_49 => ?_)
        refine lv_goto (tgt := 4) hx hb dX8_scaleNewValues_24 (by decide) ?_
        cases hf
        exact ih1 _ _ hK1 H_40 lo_40 dr_45 u44 hd_45 hx46 I_40 ls_49 (lv_sub hl_49 [2, 1, 0] rfl)
  exact L1 FU _ _ hq1 H lo dr m2 hd hm2 I ls_4 (lv_sub hl_4 [2, 1, 0] rfl)
def C_TA_tiesOf (G : Nat → Nat → Int32) (a0 : Int32) (a1 : Int32) : Option (Int32) :=
nm (C_LT_cell a0 a1) fun r1 =>
ri 64 r1 <|
some (G 17 r1.toNatClampNeg)
set_option maxRecDepth 100000 in
set_option maxHeartbeats 4000000 in
theorem cC_TA_tiesOf (G : Nat → Nat → Int32) (E : Nat → Nat → Int64) (Dd : Nat → Nat → UInt64) (P : Nat → Option PRec) (Z : List PRec) (a0 : Int32) (a1 : Int32) (rv : Int32)  (hf : C_TA_tiesOf G a0 a1 = some rv) : sMi D (cT cI cJ cD cS) (cW ad cI cJ cD cS) l yX9_tiesOf (ws1 yX9_tiesOf cX9_tiesOf 3 (some .int)) ({ frames := 1, cells := 0, slots := 0, locals := 21 }) [.ref (ad 9), .int a0, .int a1] (G, E, Dd, P, Z) (rv, (G, E, Dd, P, Z)) := by
  unfold C_TA_tiesOf at hf
  refine sMi_of (by decide) (Nat.le_of_ble_eq_true rfl) ?_
  intro p e R s m args below meth c A Q ls H lo F hRf hRl I hl ret
  obtain ⟨hx, hb, hml, hown, hG⟩ := id F
  replace hl : lv_has ls 3 [(0, .ref (ad 9)), (1, .int a0), (2, .int a1)] := hl
  refine lv_aload_n hx hb dX9_tiesOf_0 rfl (lv_at hl 0 rfl) ?_
  refine kgtX9_15_9 F I dX9_tiesOf_1 ?_
  refine lv_iload_n hx hb dX9_tiesOf_4 rfl (lv_at hl 1 rfl) ?_
  refine lv_iload_n hx hb dX9_tiesOf_5 rfl (lv_at hl 2 rfl) ?_
  obtain ⟨r1, h2⟩ : ∃ z, z = C_LT_cell a0 a1 := ⟨_, rfl⟩
  replace hf := nm_some h2 hf
  refine s_callSNi (As := [.int a0, .int a1]) (rest := [.ref (ad 11)]) F I (cC_LT_cell G E Dd P Z a0 a1 r1 h2) kX9_43 ⟨rfl, rfl⟩ ⟨Nat.le_trans (Nat.le_of_ble_eq_true rfl) hRf, Nat.le_trans (Nat.le_of_ble_eq_true rfl) hRl⟩ rfl rfl hl.1 (Nat.le_of_ble_eq_true rfl) ⟨Nat.zero_le _, Nat.zero_le _⟩ dX9_tiesOf_6 ?_
  intro H_3 lo_3 I_3
  obtain ⟨g4, hf⟩ := ri_some hf
  refine kal11 F I_3 g4 dX9_tiesOf_9 ?_
  cases hf
  exact ret H_3 lo_3 _ ls I_3 dX9_tiesOf_10
def C_SR_takeResults_s1 (a1 : Int32) (x4 : Int32) (x5 : Int32) (x6 : Int32) (G7 : Nat → Nat → Int32) : Option ((Int32 × Int32 × Int32 × (Nat → Nat → Int32)) ⊕ (Int32 × Int32 × (Nat → Nat → Int32))) :=
if G7 41 0 ≤ x6 then
(some (.inr (x4, x5, G7)))
else
(bd (C_TA_winsOf G7 a1 x6) fun r24 =>
nm (x4 + r24 : Int32) fun x27 =>
bd (C_TA_tiesOf G7 a1 x6) fun r29 =>
nm (x5 + r29 : Int32) fun x32 =>
nm (C_LT_cell a1 x6) fun r34 =>
bd (C_TA_decidedOf G7 a1 x6) fun r37 =>
bd (C_TA_tiesOf G7 a1 x6) fun r40 =>
ri 64 r34 <|
nm (wr G7 42 r34 (r37 + r40)) fun G44 =>
nm (x6 + (1 : Int32) : Int32) fun x46 =>
some (.inl (x27, x32, x46, G44)))
def C_SR_takeResults (G : Nat → Nat → Int32) (Dd : Nat → Nat → UInt64) (a1 : Int32) : Option ((Nat → Nat → Int32) × (Nat → Nat → UInt64)) :=
bd3 (lp (fun q => C_SR_takeResults_s1 a1 q.1 q.2.1 q.2.2.1 q.2.2.2) FU ((0 : Int32), (0 : Int32), (0 : Int32), G)) fun x8 x9 G10 =>
ri 8 (a1 &&& (7 : Int32)) <|
nm (wr Dd 0 (a1 &&& (7 : Int32)) (FP.dadd (FP.i2d x8) (FP.dmul (4602678819172646912 : UInt64) (FP.i2d x9)))) fun Dd19 =>
some (G10, Dd19)
set_option maxRecDepth 100000 in
set_option maxHeartbeats 4000000 in
theorem cC_SR_takeResults (G : Nat → Nat → Int32) (E : Nat → Nat → Int64) (Dd : Nat → Nat → UInt64) (P : Nat → Option PRec) (Z : List PRec) (a1 : Int32)  (newG : Nat → Nat → Int32) (newDd : Nat → Nat → UInt64) (hf : C_SR_takeResults G Dd a1 = some (newG, newDd)) : sDv D (cT cI cJ cD cS) (cW ad cI cJ cD cS) cSm l yX8_takeResults (ws1 yX8_takeResults cX8_takeResults 6 none) ({ frames := 2, cells := 0, slots := 0, locals := 43 }) [.ref (ad 33), .ref (ad 9), .int a1] (G, E, Dd, P, Z) (newG, E, newDd, P, Z) := by
  unfold C_SR_takeResults at hf
  refine sDv_of (by decide) (Nat.le_of_ble_eq_true rfl) ?_
  intro p e R s m args below meth c A Q ls H lo dr sgm F hRf hRl hd hsm I hl ret
  obtain ⟨_, _, Dm, _⟩ := sgm
  obtain ⟨rfl, rfl, ha, rfl⟩ := cSm_dest hsm
  obtain ⟨hx, hb, hml, hown, hG⟩ := id F
  replace hl : lv_has ls 6 [(0, .ref (ad 33)), (1, .ref (ad 9)), (2, .int a1)] := hl
  refine lv_iconst (v := (0 : Int32)) hx hb dX8_takeResults_0 (by decide) ?_
  refine lv_istore_n (lv' := [(3, .int (0 : Int32)), (0, .ref (ad 33)), (1, .ref (ad 9)), (2, .int a1)]) hx hb dX8_takeResults_1 rfl hl (by decide) rfl (fun ls_1 hl_1 => ?_)
  refine lv_iconst (v := (0 : Int32)) hx hb dX8_takeResults_2 (by decide) ?_
  refine lv_istore (lv' := [(4, .int (0 : Int32)), (3, .int (0 : Int32)), (0, .ref (ad 33)), (1, .ref (ad 9)), (2, .int a1)]) hx hb dX8_takeResults_3 hl_1 (by decide) rfl (fun ls_2 hl_2 => ?_)
  refine lv_iconst (v := (0 : Int32)) hx hb dX8_takeResults_5 (by decide) ?_
  refine lv_istore (lv' := [(5, .int (0 : Int32)), (4, .int (0 : Int32)), (3, .int (0 : Int32)), (0, .ref (ad 33)), (1, .ref (ad 9)), (2, .int a1)]) hx hb dX8_takeResults_6 hl_2 (by decide) rfl (fun ls_3 hl_3 => ?_)
  obtain ⟨x8, x9, G10, hq1, hf⟩ := bd3_some hf
  have K1 : ∀ (H : Heap) (locs : List Loc) (d : Drawn), s.drawn.sameBut d lw_cs → sInv D (cT cI cJ cD cS) (cW ad cI cJ cD cS) A s H locs (G10, E, Dm, P, Z) → ∀ (ls : Array Slot), lv_has ls 6 [(0, .ref (ad 33)), (2, .int a1), (3, .int x8), (4, .int x9)] → W p l e R (s.setDrawn d) m args below meth c H locs 0 0 Q (F0 m 71 ls []) := by
    intro H_11 lo_11 dr_13 hd_13 I_11 ls_12 hl_12
    refine lv_aload_n hx hb dX8_takeResults_71 rfl (lv_at hl_12 0 rfl) ?_
    refine kgtX8_19_33 (Fdr F) (Idr I_11) dX8_takeResults_72 ?_
    refine lv_iload_n hx hb dX8_takeResults_75 rfl (lv_at hl_12 1 rfl) ?_
    refine lv_bipush (v := (7 : Int32)) hx hb dX8_takeResults_76 (by decide) ?_
    refine lv_iand hx hb dX8_takeResults_78 ?_
    refine lv_iload_n hx hb dX8_takeResults_79 rfl (lv_at hl_12 2 rfl) ?_
    refine lv_i2d hx hb dX8_takeResults_80 ?_
    refine lv_ldc2d (v := (4602678819172646912 : UInt64)) hx hb hown (dr_words hG _ _ q629) dX8_takeResults_81 ?_
    refine lv_iload hx hb dX8_takeResults_84 (lv_at hl_12 3 rfl) ?_
    refine lv_i2d hx hb dX8_takeResults_86 ?_
    refine lv_dmul_any hd_13 lw_bits hx hb dX8_takeResults_87 (fun u14 dr_15 alu14 hd_15 => ?_)
    have hu14 := al_dmul alu14 (al_rf _) (al_rf _)
    refine lv_dadd_any hd_15 lw_bits hx hb dX8_takeResults_88 (fun u16 dr_17 alu16 hd_17 => ?_)
    have hu16 := al_dadd alu16 (al_rf _) hu14
    obtain ⟨g18, hf⟩ := ri_some hf
    refine kas35 (Fdr F) (Idr I_11) g18 dX8_takeResults_89 ?_
    intro H_20 lo_20 Dm19 eDm19 I_20
    replace I_20 := Irr I_20
    obtain ⟨Dd19, eDd19⟩ : ∃ z, z = wr Dd 0 (a1 &&& (7 : Int32)) (FP.dadd (FP.i2d x8) (FP.dmul (4602678819172646912 : UInt64) (FP.i2d x9))) := ⟨_, rfl⟩
    replace hf := nm_some eDd19 hf
    have ha19 : alikeM Dm19 Dd19 := alM_eq eDm19 eDd19 (al_wr ha hu16)
    cases hf
    exact ret H_20 lo_20 _ ls_12 dr_17 _ hd_17 I_20 ⟨rfl, rfl, ha19, rfl⟩ dX8_takeResults_90
  have L1 : ∀ (n : Nat) (x4 : Int32) (x5 : Int32) (x6 : Int32) (G7 : Nat → Nat → Int32), lp (fun q => C_SR_takeResults_s1 a1 q.1 q.2.1 q.2.2.1 q.2.2.2) n (x4, x5, x6, G7) = some (x8, x9, G10) → ∀ (H : Heap) (locs : List Loc) (d : Drawn), s.drawn.sameBut d lw_cs → sInv D (cT cI cJ cD cS) (cW ad cI cJ cD cS) A s H locs (G7, E, Dm, P, Z) → ∀ (ls : Array Slot), lv_has ls 6 [(0, .ref (ad 33)), (1, .ref (ad 9)), (2, .int a1), (3, .int x4), (4, .int x5), (5, .int x6)] → W p l e R (s.setDrawn d) m args below meth c H locs 0 0 Q (F0 m 8 ls []) := by
    intro n
    induction n with
    | zero => intro x4 x5 x6 G7 hq; exact (lp_0 hq).elim
    | succ n ih1 =>
      intro x4 x5 x6 G7 hq H_21 lo_21 dr_23 hd_23 I_21 ls_22 hl_22
      obtain ⟨y1, hf, hK1⟩ := lp_go hq
      replace hf : C_SR_takeResults_s1 a1 x4 x5 x6 G7 = some y1 := hf
      unfold C_SR_takeResults_s1 at hf
      refine lv_iload hx hb dX8_takeResults_8 (lv_at hl_22 5 rfl) ?_
      refine lv_aload_n hx hb dX8_takeResults_10 rfl (lv_at hl_22 0 rfl) ?_
      refine kgtX8_9_33 (Fdr F) (Idr I_21) dX8_takeResults_11 ?_
      refine lv_icmp_ge (tgt := 71) hx hb dX8_takeResults_14 (by decide) (fun c48 => ?_) (fun c48 => ?_)
      · replace hf := (if_pos c48).symm.trans hf
        cases hf
        cases (show (x4, x5, G7) = (x8, x9, G10) from hK1)
        exact K1 H_21 lo_21 dr_23 hd_23 I_21 ls_22 (lv_sub hl_22 [0, 2, 3, 4] rfl)
      · replace hf := (if_neg c48).symm.trans hf
        refine lv_iload_n hx hb dX8_takeResults_17 rfl (lv_at hl_22 3 rfl) ?_
        refine lv_aload_n hx hb dX8_takeResults_18 rfl (lv_at hl_22 1 rfl) ?_
        refine lv_iload_n hx hb dX8_takeResults_19 rfl (lv_at hl_22 2 rfl) ?_
        refine lv_iload hx hb dX8_takeResults_20 (lv_at hl_22 5 rfl) ?_
        obtain ⟨r24, h25, hf⟩ := bd_some hf
        refine s_callVi (As := [.int a1, .int x6]) (rest := [.int x4]) (Fdr F) (Idr I_21) (cC_TA_winsOf G7 E Dm P Z a1 x6 r24 h25) kX8_55 ⟨rfl, rfl⟩ ⟨Nat.le_trans (Nat.le_of_ble_eq_true rfl) hRf, Nat.le_trans (Nat.le_of_ble_eq_true rfl) hRl⟩ (9) 9 rfl rfl rfl rfl rfl hl_22.1 (Nat.le_of_ble_eq_true rfl) ⟨Nat.zero_le _, Nat.zero_le _⟩ dX8_takeResults_22 ?_
        intro H_26 lo_26 I_26
        replace I_26 := Irr I_26
        refine lv_iadd hx hb dX8_takeResults_25 ?_
        refine lv_topi (fun x27 ex27 => ?_)
        replace hf := nm_some ex27 hf
        refine lv_istore_n (lv' := [(3, .int x27), (0, .ref (ad 33)), (1, .ref (ad 9)), (2, .int a1), (4, .int x5), (5, .int x6)]) hx hb dX8_takeResults_26 rfl hl_22 (by decide) rfl (fun ls_28 hl_28 => ?_)
        refine lv_iload hx hb dX8_takeResults_27 (lv_at hl_28 4 rfl) ?_
        refine lv_aload_n hx hb dX8_takeResults_29 rfl (lv_at hl_28 2 rfl) ?_
        refine lv_iload_n hx hb dX8_takeResults_30 rfl (lv_at hl_28 3 rfl) ?_
        refine lv_iload hx hb dX8_takeResults_31 (lv_at hl_28 5 rfl) ?_
        obtain ⟨r29, h30, hf⟩ := bd_some hf
        refine s_callVi (As := [.int a1, .int x6]) (rest := [.int x5]) (Fdr F) (Idr I_26) (cC_TA_tiesOf G7 E Dm P Z a1 x6 r29 h30) kX8_60 ⟨rfl, rfl⟩ ⟨Nat.le_trans (Nat.le_of_ble_eq_true rfl) hRf, Nat.le_trans (Nat.le_of_ble_eq_true rfl) hRl⟩ (9) 9 rfl rfl rfl rfl rfl hl_28.1 (Nat.le_of_ble_eq_true rfl) ⟨Nat.zero_le _, Nat.zero_le _⟩ dX8_takeResults_33 ?_
        intro H_31 lo_31 I_31
        replace I_31 := Irr I_31
        refine lv_iadd hx hb dX8_takeResults_36 ?_
        refine lv_topi (fun x32 ex32 => ?_)
        replace hf := nm_some ex32 hf
        refine lv_istore (lv' := [(4, .int x32), (3, .int x27), (0, .ref (ad 33)), (1, .ref (ad 9)), (2, .int a1), (5, .int x6)]) hx hb dX8_takeResults_37 hl_28 (by decide) rfl (fun ls_33 hl_33 => ?_)
        refine lv_aload_n hx hb dX8_takeResults_39 rfl (lv_at hl_33 2 rfl) ?_
        refine kgtX8_15_33 (Fdr F) (Idr I_31) dX8_takeResults_40 ?_
        refine lv_iload_n hx hb dX8_takeResults_43 rfl (lv_at hl_33 4 rfl) ?_
        refine lv_iload hx hb dX8_takeResults_44 (lv_at hl_33 5 rfl) ?_
        obtain ⟨r34, h35⟩ : ∃ z, z = C_LT_cell a1 x6 := ⟨_, rfl⟩
        replace hf := nm_some h35 hf
        refine s_callSNi (As := [.int a1, .int x6]) (rest := [.ref (ad 34)]) (Fdr F) (Idr I_31) (cC_LT_cell G7 E Dm P Z a1 x6 r34 h35) kX8_63 ⟨rfl, rfl⟩ ⟨Nat.le_trans (Nat.le_of_ble_eq_true rfl) hRf, Nat.le_trans (Nat.le_of_ble_eq_true rfl) hRl⟩ rfl rfl hl_33.1 (Nat.le_of_ble_eq_true rfl) ⟨Nat.zero_le _, Nat.zero_le _⟩ dX8_takeResults_46 ?_
        intro H_36 lo_36 I_36
        replace I_36 := Irr I_36
        refine lv_aload_n hx hb dX8_takeResults_49 rfl (lv_at hl_33 3 rfl) ?_
        refine lv_iload_n hx hb dX8_takeResults_50 rfl (lv_at hl_33 4 rfl) ?_
        refine lv_iload hx hb dX8_takeResults_51 (lv_at hl_33 5 rfl) ?_
        obtain ⟨r37, h38, hf⟩ := bd_some hf
        refine s_callVi (As := [.int a1, .int x6]) (rest := [.int r34, .ref (ad 34)]) (Fdr F) (Idr I_36) (cC_TA_decidedOf G7 E Dm P Z a1 x6 r37 h38) kX8_66 ⟨rfl, rfl⟩ ⟨Nat.le_trans (Nat.le_of_ble_eq_true rfl) hRf, Nat.le_trans (Nat.le_of_ble_eq_true rfl) hRl⟩ (9) 9 rfl rfl rfl rfl rfl hl_33.1 (Nat.le_of_ble_eq_true rfl) ⟨Nat.zero_le _, Nat.zero_le _⟩ dX8_takeResults_53 ?_
        intro H_39 lo_39 I_39
        replace I_39 := Irr I_39
        refine lv_aload_n hx hb dX8_takeResults_56 rfl (lv_at hl_33 3 rfl) ?_
        refine lv_iload_n hx hb dX8_takeResults_57 rfl (lv_at hl_33 4 rfl) ?_
        refine lv_iload hx hb dX8_takeResults_58 (lv_at hl_33 5 rfl) ?_
        obtain ⟨r40, h41, hf⟩ := bd_some hf
        refine s_callVi (As := [.int a1, .int x6]) (rest := [.int r37, .int r34, .ref (ad 34)]) (Fdr F) (Idr I_39) (cC_TA_tiesOf G7 E Dm P Z a1 x6 r40 h41) kX8_60 ⟨rfl, rfl⟩ ⟨Nat.le_trans (Nat.le_of_ble_eq_true rfl) hRf, Nat.le_trans (Nat.le_of_ble_eq_true rfl) hRl⟩ (9) 9 rfl rfl rfl rfl rfl hl_33.1 (Nat.le_of_ble_eq_true rfl) ⟨Nat.zero_le _, Nat.zero_le _⟩ dX8_takeResults_60 ?_
        intro H_42 lo_42 I_42
        replace I_42 := Irr I_42
        refine lv_iadd hx hb dX8_takeResults_63 ?_
        obtain ⟨g43, hf⟩ := ri_some hf
        refine kas34 (Fdr F) (Idr I_42) g43 dX8_takeResults_64 ?_
        intro H_45 lo_45 G44 eG44 I_45
        replace I_45 := Irr I_45
        replace hf := nm_some eG44 hf
        obtain ⟨x46, ex46⟩ : ∃ y : Int32, y = x6 + (1 : Int32) := ⟨_, rfl⟩
        replace hf := nm_some ex46 hf
        refine lv_iinc (v := x46) (lv' := [(5, .int x46), (4, .int x32), (3, .int x27), (0, .ref (ad 33)), (1, .ref (ad 9)), (2, .int a1)]) hx hb dX8_takeResults_65 hl_33 (k := 5) rfl (by rw [ex46]; rfl) (by decide) rfl (fun ls_47 hl_47 => ?_)
        refine lv_goto (tgt := 8) hx hb dX8_takeResults_68 (by decide) ?_
        cases hf
        exact ih1 _ _ _ _ hK1 H_45 lo_45 dr_23 hd_23 I_45 ls_47 (lv_sub hl_47 [3, 4, 5, 2, 1, 0] rfl)
  exact L1 FU _ _ _ _ hq1 H lo dr hd I ls_3 (lv_sub hl_3 [3, 4, 5, 2, 1, 0] rfl)
def C_SR_fit_s2 (a2 : Int32) (G7 : Nat → Nat → Int32) (x17 : Int32) (Dd18 : Nat → Nat → UInt64) : Option ((Int32 × (Nat → Nat → UInt64)) ⊕ ((Nat → Nat → UInt64))) :=
if a2 ≤ x17 then
(some (.inr Dd18))
else
(bd (C_SR_makeNewValues G7 Dd18) fun Dd26 =>
bd (C_SR_scaleNewValues G7 Dd26) fun Dd30 =>
nm (x17 + (1 : Int32) : Int32) fun x34 =>
some (.inl (x34, Dd30)))
def C_SR_fit_s1  (x4 : Int32) (G5 : Nat → Nat → Int32) (Dd6 : Nat → Nat → UInt64) : Option ((Int32 × (Nat → Nat → Int32) × (Nat → Nat → UInt64)) ⊕ ((Nat → Nat → Int32) × (Nat → Nat → UInt64))) :=
if G5 41 0 ≤ x4 then
(some (.inr (G5, Dd6)))
else
(bd2 (C_SR_takeResults G5 Dd6 x4) fun G40 Dd41 =>
nm (x4 + (1 : Int32) : Int32) fun x45 =>
some (.inl (x45, G40, Dd41)))
def C_SR_fit (G : Nat → Nat → Int32) (Dd : Nat → Nat → UInt64) (a1 : Int32) (a2 : Int32) : Option ((Nat → Nat → Int32) × (Nat → Nat → UInt64)) :=
nm (wf G 41 (if (8 : Int32) < a1 then (8 : Int32) else a1)) fun G1 =>
bd2 (lp (fun q => C_SR_fit_s1 q.1 q.2.1 q.2.2) FU ((0 : Int32), G1, Dd)) fun G7 Dd8 =>
bd (C_JA_fill_d_36 Dd8 FP.dconst1) fun Dd12 =>
bd (lp (fun q => C_SR_fit_s2 a2 G7 q.1 q.2) FU ((0 : Int32), Dd12)) fun Dd19 =>
some (G7, Dd19)
set_option maxRecDepth 100000 in
set_option maxHeartbeats 4000000 in
theorem cC_SR_fit (G : Nat → Nat → Int32) (E : Nat → Nat → Int64) (Dd : Nat → Nat → UInt64) (P : Nat → Option PRec) (Z : List PRec) (a1 : Int32) (a2 : Int32)  (newG : Nat → Nat → Int32) (newDd : Nat → Nat → UInt64) (hf : C_SR_fit G Dd a1 a2 = some (newG, newDd)) : sDv D (cT cI cJ cD cS) (cW ad cI cJ cD cS) cSm l yX8_fit (ws1 yX8_fit cX8_fit 5 none) ({ frames := 3, cells := 0, slots := 0, locals := 68 }) [.ref (ad 33), .ref (ad 9), .int a1, .int a2] (G, E, Dd, P, Z) (newG, E, newDd, P, Z) := by
  unfold C_SR_fit at hf
  refine sDv_of (by decide) (Nat.le_of_ble_eq_true rfl) ?_
  intro p e R s m args below meth c A Q ls H lo dr sgm F hRf hRl hd hsm I hl ret
  obtain ⟨_, _, Dm, _⟩ := sgm
  obtain ⟨rfl, rfl, ha, rfl⟩ := cSm_dest hsm
  obtain ⟨hx, hb, hml, hown, hG⟩ := id F
  replace hl : lv_has ls 5 [(0, .ref (ad 33)), (1, .ref (ad 9)), (2, .int a1), (3, .int a2)] := hl
  refine lv_aload_n hx hb dX8_fit_0 rfl (lv_at hl 0 rfl) ?_
  refine lv_iload_n hx hb dX8_fit_1 rfl (lv_at hl 2 rfl) ?_
  refine lv_bipush (v := (8 : Int32)) hx hb dX8_fit_2 (by decide) ?_
  refine va_mmin (s := s.setDrawn dr) (rest := [.ref (ad 33)]) hx hb (hml.trans hl.1.symm) hown (dr_words hG _ _ q611) (dr_words hG _ _ q467) (dr_words hG _ _ q126) (dr_words hG _ _ q468) (Nat.le_trans (Nat.le_of_ble_eq_true rfl) hRf) (Nat.le_trans (Nat.le_of_ble_eq_true rfl) hRl) (Nat.zero_le _) (Nat.zero_le _) dX8_fit_4 ?_
  refine kptX8_9_33 (Fdr F) (Idr I) dX8_fit_7 ?_
  intro H_2 lo_2 G1 eG1 I_2
  replace I_2 := Irr I_2
  replace hf := nm_some eG1 hf
  refine lv_iconst (v := (0 : Int32)) hx hb dX8_fit_10 (by decide) ?_
  refine lv_istore (lv' := [(4, .int (0 : Int32)), (0, .ref (ad 33)), (1, .ref (ad 9)), (2, .int a1), (3, .int a2)]) hx hb dX8_fit_11 hl (by decide) rfl (fun ls_3 hl_3 => ?_)
  obtain ⟨G7, Dd8, hq1, hf⟩ := bd2_some hf
  have K1 : ∀ (H : Heap) (locs : List Loc) (d : Drawn) (Dm8 : Nat → Nat → UInt64), s.drawn.sameBut d lw_cs → alikeM Dm8 Dd8 → sInv D (cT cI cJ cD cS) (cW ad cI cJ cD cS) A s H locs (G7, E, Dm8, P, Z) → ∀ (ls : Array Slot), lv_has ls 5 [(0, .ref (ad 33)), (3, .int a2)] → W p l e R (s.setDrawn d) m args below meth c H locs 0 0 Q (F0 m 35 ls []) := by
    intro H_9 lo_9 dr_11 Dm8 hd_11 ha8 I_9 ls_10 hl_10
    refine lv_aload_n hx hb dX8_fit_35 rfl (lv_at hl_10 0 rfl) ?_
    refine kgtX8_23_33 (Fdr F) (Idr I_9) dX8_fit_36 ?_
    refine lv_dconst1 hx hb dX8_fit_39 ?_
    obtain ⟨Dd12, h13, hf⟩ := bd_some hf
    refine d_callSv (As := [.ref (ad 36), .double (FP.dconst1)]) (rest := []) F hd_11 I_9 ⟨rfl, rfl, ha8, rfl⟩ (cC_JA_fill_d_36 G7 E Dd8 P Z FP.dconst1 Dd12 h13) kX8_39 ⟨rfl, rfl⟩ ⟨Nat.le_trans (Nat.le_of_ble_eq_true rfl) hRf, Nat.le_trans (Nat.le_of_ble_eq_true rfl) hRl⟩ rfl rfl hl_10.1 (Nat.le_of_ble_eq_true rfl) ⟨Nat.zero_le _, Nat.zero_le _⟩ dX8_fit_40 ?_
    intro H_14 lo_14 dr_15 sg15 hd_15 I_14 hs15
    obtain ⟨_, _, Dm15, _⟩ := sg15
    obtain ⟨rfl, rfl, ha15, rfl⟩ := cSm_dest hs15
    refine lv_iconst (v := (0 : Int32)) hx hb dX8_fit_43 (by decide) ?_
    refine lv_istore (lv' := [(4, .int (0 : Int32)), (0, .ref (ad 33)), (3, .int a2)]) hx hb dX8_fit_44 hl_10 (by decide) rfl (fun ls_16 hl_16 => ?_)
    obtain ⟨Dd19, hq2, hf⟩ := bd_some hf
    have K2 : ∀ (H : Heap) (locs : List Loc) (d : Drawn) (Dm19 : Nat → Nat → UInt64), s.drawn.sameBut d lw_cs → alikeM Dm19 Dd19 → sInv D (cT cI cJ cD cS) (cW ad cI cJ cD cS) A s H locs (G7, E, Dm19, P, Z) → ∀ (ls : Array Slot), lv_has ls 5 [] → W p l e R (s.setDrawn d) m args below meth c H locs 0 0 Q (F0 m 66 ls []) := by
      intro H_20 lo_20 dr_22 Dm19 hd_22 ha19 I_20 ls_21 hl_21
      cases hf
      exact ret H_20 lo_20 _ ls_21 dr_22 _ hd_22 I_20 ⟨rfl, rfl, ha19, rfl⟩ dX8_fit_66
    have L2 : ∀ (n : Nat) (x17 : Int32) (Dd18 : Nat → Nat → UInt64), lp (fun q => C_SR_fit_s2 a2 G7 q.1 q.2) n (x17, Dd18) = some Dd19 → ∀ (H : Heap) (locs : List Loc) (d : Drawn) (Dm18 : Nat → Nat → UInt64), s.drawn.sameBut d lw_cs → alikeM Dm18 Dd18 → sInv D (cT cI cJ cD cS) (cW ad cI cJ cD cS) A s H locs (G7, E, Dm18, P, Z) → ∀ (ls : Array Slot), lv_has ls 5 [(0, .ref (ad 33)), (3, .int a2), (4, .int x17)] → W p l e R (s.setDrawn d) m args below meth c H locs 0 0 Q (F0 m 46 ls []) := by
      intro n
      induction n with
      | zero => intro x17 Dd18 hq; exact (lp_0 hq).elim
      | succ n ih2 =>
        intro x17 Dd18 hq H_23 lo_23 dr_25 Dm18 hd_25 ha18 I_23 ls_24 hl_24
        obtain ⟨y2, hf, hK2⟩ := lp_go hq
        replace hf : C_SR_fit_s2 a2 G7 x17 Dd18 = some y2 := hf
        unfold C_SR_fit_s2 at hf
        refine lv_iload hx hb dX8_fit_46 (lv_at hl_24 2 rfl) ?_
        refine lv_iload_n hx hb dX8_fit_48 rfl (lv_at hl_24 1 rfl) ?_
        refine lv_icmp_ge (tgt := 66) hx hb dX8_fit_49 (by decide) (fun c36 => ?_) (fun c36 => ?_)
        · replace hf := (if_pos c36).symm.trans hf
          cases hf
          cases (show Dd18 = Dd19 from hK2)
          exact K2 H_23 lo_23 dr_25 Dm18 hd_25 ha18 I_23 ls_24 (lv_sub hl_24 [] rfl)
        · replace hf := (if_neg c36).symm.trans hf
          refine lv_aload_n hx hb dX8_fit_52 rfl (lv_at hl_24 0 rfl) ?_
          obtain ⟨Dd26, h27, hf⟩ := bd_some hf
          refine d_callVv (As := []) (rest := []) F hd_25 I_23 ⟨rfl, rfl, ha18, rfl⟩ (cC_SR_makeNewValues G7 E Dd18 P Z Dd26 h27) kX8_45 ⟨rfl, rfl⟩ ⟨Nat.le_trans (Nat.le_of_ble_eq_true rfl) hRf, Nat.le_trans (Nat.le_of_ble_eq_true rfl) hRl⟩ (33) 8 rfl rfl rfl rfl rfl hl_24.1 (Nat.le_of_ble_eq_true rfl) ⟨Nat.zero_le _, Nat.zero_le _⟩ dX8_fit_53 ?_
          intro H_28 lo_28 dr_29 sg29 hd_29 I_28 hs29
          obtain ⟨_, _, Dm29, _⟩ := sg29
          obtain ⟨rfl, rfl, ha29, rfl⟩ := cSm_dest hs29
          refine lv_aload_n hx hb dX8_fit_56 rfl (lv_at hl_24 0 rfl) ?_
          obtain ⟨Dd30, h31, hf⟩ := bd_some hf
          refine d_callVv (As := []) (rest := []) F hd_29 I_28 ⟨rfl, rfl, ha29, rfl⟩ (cC_SR_scaleNewValues G7 E Dd26 P Z Dd30 h31) kX8_48 ⟨rfl, rfl⟩ ⟨Nat.le_trans (Nat.le_of_ble_eq_true rfl) hRf, Nat.le_trans (Nat.le_of_ble_eq_true rfl) hRl⟩ (33) 8 rfl rfl rfl rfl rfl hl_24.1 (Nat.le_of_ble_eq_true rfl) ⟨Nat.zero_le _, Nat.zero_le _⟩ dX8_fit_57 ?_
          intro H_32 lo_32 dr_33 sg33 hd_33 I_32 hs33
          obtain ⟨_, _, Dm33, _⟩ := sg33
          obtain ⟨rfl, rfl, ha33, rfl⟩ := cSm_dest hs33
          obtain ⟨x34, ex34⟩ : ∃ y : Int32, y = x17 + (1 : Int32) := ⟨_, rfl⟩
          replace hf := nm_some ex34 hf
          refine lv_iinc (v := x34) (lv' := [(4, .int x34), (0, .ref (ad 33)), (3, .int a2)]) hx hb dX8_fit_60 hl_24 (k := 2) rfl (by rw [ex34]; rfl) (by decide) rfl (fun ls_35 hl_35 => ?_)
          refine lv_goto (tgt := 46) hx hb dX8_fit_63 (by decide) ?_
          cases hf
          exact ih2 _ _ hK2 H_32 lo_32 dr_33 Dm33 hd_33 ha33 I_32 ls_35 (lv_sub hl_35 [1, 2, 0] rfl)
    exact L2 FU _ _ hq2 H_14 lo_14 dr_15 Dm15 hd_15 ha15 I_14 ls_16 (lv_sub hl_16 [1, 2, 0] rfl)
  have L1 : ∀ (n : Nat) (x4 : Int32) (G5 : Nat → Nat → Int32) (Dd6 : Nat → Nat → UInt64), lp (fun q => C_SR_fit_s1 q.1 q.2.1 q.2.2) n (x4, G5, Dd6) = some (G7, Dd8) → ∀ (H : Heap) (locs : List Loc) (d : Drawn) (Dm6 : Nat → Nat → UInt64), s.drawn.sameBut d lw_cs → alikeM Dm6 Dd6 → sInv D (cT cI cJ cD cS) (cW ad cI cJ cD cS) A s H locs (G5, E, Dm6, P, Z) → ∀ (ls : Array Slot), lv_has ls 5 [(0, .ref (ad 33)), (1, .ref (ad 9)), (3, .int a2), (4, .int x4)] → W p l e R (s.setDrawn d) m args below meth c H locs 0 0 Q (F0 m 13 ls []) := by
    intro n
    induction n with
    | zero => intro x4 G5 Dd6 hq; exact (lp_0 hq).elim
    | succ n ih1 =>
      intro x4 G5 Dd6 hq H_37 lo_37 dr_39 Dm6 hd_39 ha6 I_37 ls_38 hl_38
      obtain ⟨y1, hf, hK1⟩ := lp_go hq
      replace hf : C_SR_fit_s1 x4 G5 Dd6 = some y1 := hf
      unfold C_SR_fit_s1 at hf
      refine lv_iload hx hb dX8_fit_13 (lv_at hl_38 3 rfl) ?_
      refine lv_aload_n hx hb dX8_fit_15 rfl (lv_at hl_38 0 rfl) ?_
      refine kgtX8_9_33 (Fdr F) (Idr I_37) dX8_fit_16 ?_
      refine lv_icmp_ge (tgt := 35) hx hb dX8_fit_19 (by decide) (fun c47 => ?_) (fun c47 => ?_)
      · replace hf := (if_pos c47).symm.trans hf
        cases hf
        cases (show (G5, Dd6) = (G7, Dd8) from hK1)
        exact K1 H_37 lo_37 dr_39 Dm6 hd_39 ha6 I_37 ls_38 (lv_sub hl_38 [0, 2] rfl)
      · replace hf := (if_neg c47).symm.trans hf
        refine lv_aload_n hx hb dX8_fit_22 rfl (lv_at hl_38 0 rfl) ?_
        refine lv_aload_n hx hb dX8_fit_23 rfl (lv_at hl_38 1 rfl) ?_
        refine lv_iload hx hb dX8_fit_24 (lv_at hl_38 3 rfl) ?_
        obtain ⟨G40, Dd41, h42, hf⟩ := bd2_some hf
        refine d_callVv (As := [.ref (ad 9), .int x4]) (rest := []) F hd_39 I_37 ⟨rfl, rfl, ha6, rfl⟩ (cC_SR_takeResults G5 E Dd6 P Z x4 G40 Dd41 h42) kX8_35 ⟨rfl, rfl⟩ ⟨Nat.le_trans (Nat.le_of_ble_eq_true rfl) hRf, Nat.le_trans (Nat.le_of_ble_eq_true rfl) hRl⟩ (33) 8 rfl rfl rfl rfl rfl hl_38.1 (Nat.le_of_ble_eq_true rfl) ⟨Nat.zero_le _, Nat.zero_le _⟩ dX8_fit_26 ?_
        intro H_43 lo_43 dr_44 sg44 hd_44 I_43 hs44
        obtain ⟨_, _, Dm44, _⟩ := sg44
        obtain ⟨rfl, rfl, ha44, rfl⟩ := cSm_dest hs44
        obtain ⟨x45, ex45⟩ : ∃ y : Int32, y = x4 + (1 : Int32) := ⟨_, rfl⟩
        replace hf := nm_some ex45 hf
        refine lv_iinc (v := x45) (lv' := [(4, .int x45), (0, .ref (ad 33)), (1, .ref (ad 9)), (3, .int a2)]) hx hb dX8_fit_29 hl_38 (k := 3) rfl (by rw [ex45]; rfl) (by decide) rfl (fun ls_46 hl_46 => ?_)
        refine lv_goto (tgt := 13) hx hb dX8_fit_32 (by decide) ?_
        cases hf
        exact ih1 _ _ _ hK1 H_43 lo_43 dr_44 Dm44 hd_44 ha44 I_43 ls_46 (lv_sub hl_46 [1, 2, 3, 0] rfl)
  exact L1 FU _ _ _ hq1 H_2 lo_2 dr Dm hd ha I_2 ls_3 (lv_sub hl_3 [1, 2, 4, 0] rfl)
def C_SR_expectedWins_s1 (a0 : Int32) (G : Nat → Nat → Int32) (Dd : Nat → Nat → UInt64) (x5 : UInt64) (x6 : Int32) : Option ((UInt64 × Int32) ⊕ (UInt64)) :=
if G 41 0 ≤ x6 then
(some (.inr x5))
else
(ri 8 (a0 &&& (7 : Int32)) <|
ri 8 x6 <|
nm ((FP.dadd (Dd 1 (a0 &&& (7 : Int32)).toNatClampNeg) (Dd 1 x6.toNatClampNeg)) : UInt64) fun x18 =>
nm (C_LT_cell a0 x6) fun r20 =>
ri 64 r20 <|
bd (if G 42 r20.toNatClampNeg ≤ 0 then
(some x5)
else
(if Op.cmpValue (FP.dcmp x18 FP.dconst0) CmpOp.l ≤ 0 then
(some x5)
else
(nm (C_LT_cell a0 x6) fun r32 =>
ri 64 r32 <|
ri 8 (a0 &&& (7 : Int32)) <|
nm ((FP.dadd x5 (FP.ddiv (FP.dmul (FP.i2d (G 42 r32.toNatClampNeg)) (Dd 1 (a0 &&& (7 : Int32)).toNatClampNeg)) x18)) : UInt64) fun x43 =>
some x43))) fun x25 =>
nm (x6 + (1 : Int32) : Int32) fun x29 =>
some (.inl (x25, x29)))
def C_SR_expectedWins (G : Nat → Nat → Int32) (Dd : Nat → Nat → UInt64) (a0 : Int32) : Option (UInt64) :=
nm (FP.dconst0 : UInt64) fun x1 =>
bd (lp (fun q => C_SR_expectedWins_s1 a0 G Dd q.1 q.2) FU (x1, (0 : Int32))) fun x7 =>
some x7
set_option maxRecDepth 100000 in
set_option maxHeartbeats 4000000 in
theorem cC_SR_expectedWins (G : Nat → Nat → Int32) (E : Nat → Nat → Int64) (Dd : Nat → Nat → UInt64) (P : Nat → Option PRec) (Z : List PRec) (a0 : Int32) (rv : UInt64)  (hf : C_SR_expectedWins G Dd a0 = some rv) : sDd D (cT cI cJ cD cS) (cW ad cI cJ cD cS) cSm l yX8_expectedWins (ws1 yX8_expectedWins cX8_expectedWins 7 (some .double)) ({ frames := 1, cells := 0, slots := 0, locals := 21 }) [.ref (ad 33), .int a0] (G, E, Dd, P, Z) (rv, (G, E, Dd, P, Z)) := by
  unfold C_SR_expectedWins at hf
  refine sDd_of (by decide) (Nat.le_of_ble_eq_true rfl) ?_
  intro p e R s m args below meth c A Q ls H lo dr sgm F hRf hRl hd hsm I hl ret
  obtain ⟨_, _, Dm, _⟩ := sgm
  obtain ⟨rfl, rfl, ha, rfl⟩ := cSm_dest hsm
  obtain ⟨hx, hb, hml, hown, hG⟩ := id F
  replace hl : lv_has ls 7 [(0, .ref (ad 33)), (1, .int a0)] := hl
  refine lv_dconst0 hx hb dX8_expectedWins_0 ?_
  obtain ⟨x1, ex1⟩ : ∃ z : UInt64, z = FP.dconst0 := ⟨_, rfl⟩
  replace hf := nm_some ex1 hf
  have hx1 := al_eq2 ex1 (al_rf _)
  refine lv_topd (fun m2 em2 => ?_)
  have hm2 := al_eq em2 hx1
  refine lv_dstore_n (lv' := [(2, .double m2), (0, .ref (ad 33)), (1, .int a0)]) hx hb dX8_expectedWins_1 rfl hl (by decide) rfl (fun ls_3 hl_3 => ?_)
  refine lv_iconst (v := (0 : Int32)) hx hb dX8_expectedWins_2 (by decide) ?_
  refine lv_istore (lv' := [(4, .int (0 : Int32)), (2, .double m2), (0, .ref (ad 33)), (1, .int a0)]) hx hb dX8_expectedWins_3 hl_3 (by decide) rfl (fun ls_4 hl_4 => ?_)
  obtain ⟨x7, hq1, hf⟩ := bd_some hf
  have K1 : ∀ (H : Heap) (locs : List Loc) (d : Drawn) (mx7 : UInt64), s.drawn.sameBut d lw_cs → alike64 mx7 x7 = true → sInv D (cT cI cJ cD cS) (cW ad cI cJ cD cS) A s H locs (G, E, Dm, P, Z) → ∀ (ls : Array Slot), lv_has ls 7 [(2, .double mx7)] → W p l e R (s.setDrawn d) m args below meth c H locs 0 0 Q (F0 m 88 ls []) := by
    intro H_8 lo_8 dr_10 mx7 hd_10 hx7 I_8 ls_9 hl_9
    refine lv_dload_n hx hb dX8_expectedWins_88 rfl (lv_at hl_9 0 rfl) ?_
    cases hf
    exact ret H_8 lo_8 _ ls_9 dr_10 _ _ hd_10 I_8 ⟨rfl, rfl, ha, rfl⟩ hx7 dX8_expectedWins_89
  have L1 : ∀ (n : Nat) (x5 : UInt64) (x6 : Int32), lp (fun q => C_SR_expectedWins_s1 a0 G Dd q.1 q.2) n (x5, x6) = some x7 → ∀ (H : Heap) (locs : List Loc) (d : Drawn) (mx5 : UInt64), s.drawn.sameBut d lw_cs → alike64 mx5 x5 = true → sInv D (cT cI cJ cD cS) (cW ad cI cJ cD cS) A s H locs (G, E, Dm, P, Z) → ∀ (ls : Array Slot), lv_has ls 7 [(0, .ref (ad 33)), (1, .int a0), (2, .double mx5), (4, .int x6)] → W p l e R (s.setDrawn d) m args below meth c H locs 0 0 Q (F0 m 5 ls []) := by
    intro n
    induction n with
    | zero => intro x5 x6 hq; exact (lp_0 hq).elim
    | succ n ih1 =>
      intro x5 x6 hq H_11 lo_11 dr_13 mx5 hd_13 hx5 I_11 ls_12 hl_12
      obtain ⟨y1, hf, hK1⟩ := lp_go hq
      replace hf : C_SR_expectedWins_s1 a0 G Dd x5 x6 = some y1 := hf
      unfold C_SR_expectedWins_s1 at hf
      refine lv_iload hx hb dX8_expectedWins_5 (lv_at hl_12 3 rfl) ?_
      refine lv_aload_n hx hb dX8_expectedWins_7 rfl (lv_at hl_12 0 rfl) ?_
      refine kgtX8_9_33 (Fdr F) (Idr I_11) dX8_expectedWins_8 ?_
      refine lv_icmp_ge (tgt := 88) hx hb dX8_expectedWins_11 (by decide) (fun c47 => ?_) (fun c47 => ?_)
      · replace hf := (if_pos c47).symm.trans hf
        cases hf
        cases (show x5 = x7 from hK1)
        exact K1 H_11 lo_11 dr_13 mx5 hd_13 hx5 I_11 ls_12 (lv_sub hl_12 [2] rfl)
      · replace hf := (if_neg c47).symm.trans hf
        refine lv_aload_n hx hb dX8_expectedWins_14 rfl (lv_at hl_12 0 rfl) ?_
        refine kgtX8_23_33 (Fdr F) (Idr I_11) dX8_expectedWins_15 ?_
        refine lv_iload_n hx hb dX8_expectedWins_18 rfl (lv_at hl_12 1 rfl) ?_
        refine lv_bipush (v := (7 : Int32)) hx hb dX8_expectedWins_19 (by decide) ?_
        refine lv_iand hx hb dX8_expectedWins_21 ?_
        obtain ⟨g14, hf⟩ := ri_some hf
        refine kal36 (Fdr F) (Idr I_11) g14 dX8_expectedWins_22 ?_
        refine lv_aload_n hx hb dX8_expectedWins_23 rfl (lv_at hl_12 0 rfl) ?_
        refine kgtX8_23_33 (Fdr F) (Idr I_11) dX8_expectedWins_24 ?_
        refine lv_iload hx hb dX8_expectedWins_27 (lv_at hl_12 3 rfl) ?_
        obtain ⟨g15, hf⟩ := ri_some hf
        refine kal36 (Fdr F) (Idr I_11) g15 dX8_expectedWins_29 ?_
        refine lv_dadd_any hd_13 lw_bits hx hb dX8_expectedWins_30 (fun u16 dr_17 alu16 hd_17 => ?_)
        have hu16 := al_dadd alu16 (ha 1 _) (ha 1 _)
        obtain ⟨x18, ex18⟩ : ∃ z : UInt64, z = (FP.dadd (Dd 1 (a0 &&& (7 : Int32)).toNatClampNeg) (Dd 1 x6.toNatClampNeg)) := ⟨_, rfl⟩
        replace hf := nm_some ex18 hf
        have hx18 := al_eq2 ex18 hu16
        refine lv_dstore (lv' := [(5, .double u16), (0, .ref (ad 33)), (1, .int a0), (2, .double mx5), (4, .int x6)]) hx hb dX8_expectedWins_31 hl_12 (by decide) rfl (fun ls_19 hl_19 => ?_)
        refine lv_aload_n hx hb dX8_expectedWins_33 rfl (lv_at hl_19 1 rfl) ?_
        refine kgtX8_15_33 (Fdr F) (Idr I_11) dX8_expectedWins_34 ?_
        refine lv_iload_n hx hb dX8_expectedWins_37 rfl (lv_at hl_19 2 rfl) ?_
        refine lv_iload hx hb dX8_expectedWins_38 (lv_at hl_19 4 rfl) ?_
        obtain ⟨r20, h21⟩ : ∃ z, z = C_LT_cell a0 x6 := ⟨_, rfl⟩
        replace hf := nm_some h21 hf
        refine s_callSNi (As := [.int a0, .int x6]) (rest := [.ref (ad 34)]) (Fdr F) (Idr I_11) (cC_LT_cell G E Dm P Z a0 x6 r20 h21) kX8_63 ⟨rfl, rfl⟩ ⟨Nat.le_trans (Nat.le_of_ble_eq_true rfl) hRf, Nat.le_trans (Nat.le_of_ble_eq_true rfl) hRl⟩ rfl rfl hl_19.1 (Nat.le_of_ble_eq_true rfl) ⟨Nat.zero_le _, Nat.zero_le _⟩ dX8_expectedWins_40 ?_
        intro H_22 lo_22 I_22
        replace I_22 := Irr I_22
        obtain ⟨g23, hf⟩ := ri_some hf
        refine kal34 (Fdr F) (Idr I_22) g23 dX8_expectedWins_43 ?_
        obtain ⟨x25, hv31, hf⟩ := bd_some hf
        have J24 : ∀ (H : Heap) (locs : List Loc) (d : Drawn) (mx25 : UInt64), s.drawn.sameBut d lw_cs → alike64 mx25 x25 = true → sInv D (cT cI cJ cD cS) (cW ad cI cJ cD cS) A s H locs (G, E, Dm, P, Z) → ∀ (ls : Array Slot), lv_has ls 7 [(0, .ref (ad 33)), (1, .int a0), (2, .double mx25), (4, .int x6)] → W p l e R (s.setDrawn d) m args below meth c H locs 0 0 Q (F0 m 82 ls []) := by
          intro H_26 lo_26 dr_28 mx25 hd_28 hx25 I_26 ls_27 hl_27
          obtain ⟨x29, ex29⟩ : ∃ y : Int32, y = x6 + (1 : Int32) := ⟨_, rfl⟩
          replace hf := nm_some ex29 hf
          refine lv_iinc (v := x29) (lv' := [(4, .int x29), (0, .ref (ad 33)), (1, .int a0), (2, .double mx25)]) hx hb dX8_expectedWins_82 hl_27 (k := 3) rfl (by rw [ex29]; rfl) (by decide) rfl (fun ls_30 hl_30 => ?_)
          refine lv_goto (tgt := 5) hx hb dX8_expectedWins_85 (by decide) ?_
          cases hf
          exact ih1 _ _ hK1 H_26 lo_26 dr_28 mx25 hd_28 hx25 I_26 ls_30 (lv_sub hl_30 [1, 2, 3, 0] rfl)
        replace hf := hv31
        refine lv_if_le (tgt := 82) hx hb dX8_expectedWins_44 (by decide) (fun c46 => ?_) (fun c46 => ?_)
        · replace hf := (if_pos c46).symm.trans hf
          cases hf
          exact J24 H_22 lo_22 dr_17 mx5 hd_17 hx5 I_22 ls_19 (lv_sub hl_19 [1, 2, 3, 4] rfl)
        · replace hf := (if_neg c46).symm.trans hf
          refine lv_dload hx hb dX8_expectedWins_47 (lv_at hl_19 0 rfl) ?_
          refine lv_dconst0 hx hb dX8_expectedWins_49 ?_
          refine lv_dcmp hx hb dX8_expectedWins_50 ?_
          rw [al_dcmp hx18 (al_rf _)]
          refine lv_if_le (tgt := 82) hx hb dX8_expectedWins_51 (by decide) (fun c45 => ?_) (fun c45 => ?_)
          · replace hf := (if_pos c45).symm.trans hf
            cases hf
            exact J24 H_22 lo_22 dr_17 mx5 hd_17 hx5 I_22 ls_19 (lv_sub hl_19 [1, 2, 3, 4] rfl)
          · replace hf := (if_neg c45).symm.trans hf
            refine lv_dload_n hx hb dX8_expectedWins_54 rfl (lv_at hl_19 3 rfl) ?_
            refine lv_aload_n hx hb dX8_expectedWins_55 rfl (lv_at hl_19 1 rfl) ?_
            refine kgtX8_15_33 (Fdr F) (Idr I_22) dX8_expectedWins_56 ?_
            refine lv_iload_n hx hb dX8_expectedWins_59 rfl (lv_at hl_19 2 rfl) ?_
            refine lv_iload hx hb dX8_expectedWins_60 (lv_at hl_19 4 rfl) ?_
            obtain ⟨r32, h33⟩ : ∃ z, z = C_LT_cell a0 x6 := ⟨_, rfl⟩
            replace hf := nm_some h33 hf
            refine s_callSNi (As := [.int a0, .int x6]) (rest := [.ref (ad 34), .double mx5]) (Fdr F) (Idr I_22) (cC_LT_cell G E Dm P Z a0 x6 r32 h33) kX8_63 ⟨rfl, rfl⟩ ⟨Nat.le_trans (Nat.le_of_ble_eq_true rfl) hRf, Nat.le_trans (Nat.le_of_ble_eq_true rfl) hRl⟩ rfl rfl hl_19.1 (Nat.le_of_ble_eq_true rfl) ⟨Nat.zero_le _, Nat.zero_le _⟩ dX8_expectedWins_62 ?_
            intro H_34 lo_34 I_34
            replace I_34 := Irr I_34
            obtain ⟨g35, hf⟩ := ri_some hf
            refine kal34 (Fdr F) (Idr I_34) g35 dX8_expectedWins_65 ?_
            refine lv_i2d hx hb dX8_expectedWins_66 ?_
            refine lv_aload_n hx hb dX8_expectedWins_67 rfl (lv_at hl_19 1 rfl) ?_
            refine kgtX8_23_33 (Fdr F) (Idr I_34) dX8_expectedWins_68 ?_
            refine lv_iload_n hx hb dX8_expectedWins_71 rfl (lv_at hl_19 2 rfl) ?_
            refine lv_bipush (v := (7 : Int32)) hx hb dX8_expectedWins_72 (by decide) ?_
            refine lv_iand hx hb dX8_expectedWins_74 ?_
            obtain ⟨g36, hf⟩ := ri_some hf
            refine kal36 (Fdr F) (Idr I_34) g36 dX8_expectedWins_75 ?_
            refine lv_dmul_any hd_17 lw_bits hx hb dX8_expectedWins_76 (fun u37 dr_38 alu37 hd_38 => ?_)
            have hu37 := al_dmul alu37 (al_rf _) (ha 1 _)
            refine lv_dload hx hb dX8_expectedWins_77 (lv_at hl_19 0 rfl) ?_
            refine lv_ddiv_any hd_38 lw_bits hx hb dX8_expectedWins_79 (fun u39 dr_40 alu39 hd_40 => ?_)
            have hu39 := al_ddiv alu39 hu37 hx18
            refine lv_dadd_any hd_40 lw_bits hx hb dX8_expectedWins_80 (fun u41 dr_42 alu41 hd_42 => ?_)
            have hu41 := al_dadd alu41 hx5 hu39
            obtain ⟨x43, ex43⟩ : ∃ z : UInt64, z = (FP.dadd x5 (FP.ddiv (FP.dmul (FP.i2d (G 42 r32.toNatClampNeg)) (Dd 1 (a0 &&& (7 : Int32)).toNatClampNeg)) x18)) := ⟨_, rfl⟩
            replace hf := nm_some ex43 hf
            have hx43 := al_eq2 ex43 hu41
            refine lv_dstore_n (lv' := [(2, .double u41), (5, .double u16), (0, .ref (ad 33)), (1, .int a0), (4, .int x6)]) hx hb dX8_expectedWins_81 rfl hl_19 (by decide) rfl (fun ls_44 hl_44 => ?_)
            cases hf
            exact J24 H_34 lo_34 dr_42 u41 hd_42 hx43 I_34 ls_44 (lv_sub hl_44 [2, 3, 0, 4] rfl)
  exact L1 FU _ _ hq1 H lo dr m2 hd hm2 I ls_4 (lv_sub hl_4 [2, 3, 1, 0] rfl)
def C_SR_sumOfSquares_s1 (G : Nat → Nat → Int32) (Dd : Nat → Nat → UInt64) (x5 : UInt64) (x6 : Int32) : Option ((UInt64 × Int32) ⊕ (UInt64)) :=
if G 41 0 ≤ x6 then
(some (.inr x5))
else
(ri 8 x6 <|
bd (C_SR_expectedWins G Dd x6) fun r17 =>
nm ((FP.dsub (Dd 0 x6.toNatClampNeg) r17) : UInt64) fun x23 =>
nm ((FP.dadd x5 (FP.dmul x23 x23)) : UInt64) fun x29 =>
nm (x6 + (1 : Int32) : Int32) fun x31 =>
some (.inl (x29, x31)))
def C_SR_sumOfSquares (G : Nat → Nat → Int32) (Dd : Nat → Nat → UInt64) : Option (UInt64) :=
nm (FP.dconst0 : UInt64) fun x1 =>
bd (lp (fun q => C_SR_sumOfSquares_s1 G Dd q.1 q.2) FU (x1, (0 : Int32))) fun x8 =>
some x8
set_option maxRecDepth 100000 in
set_option maxHeartbeats 4000000 in
theorem cC_SR_sumOfSquares (G : Nat → Nat → Int32) (E : Nat → Nat → Int64) (Dd : Nat → Nat → UInt64) (P : Nat → Option PRec) (Z : List PRec)  (rv : UInt64)  (hf : C_SR_sumOfSquares G Dd = some rv) : sDd D (cT cI cJ cD cS) (cW ad cI cJ cD cS) cSm l yX8_sumOfSquares (ws1 yX8_sumOfSquares cX8_sumOfSquares 6 (some .double)) ({ frames := 2, cells := 0, slots := 0, locals := 47 }) [.ref (ad 33)] (G, E, Dd, P, Z) (rv, (G, E, Dd, P, Z)) := by
  unfold C_SR_sumOfSquares at hf
  refine sDd_of (by decide) (Nat.le_of_ble_eq_true rfl) ?_
  intro p e R s m args below meth c A Q ls H lo dr sgm F hRf hRl hd hsm I hl ret
  obtain ⟨_, _, Dm, _⟩ := sgm
  obtain ⟨rfl, rfl, ha, rfl⟩ := cSm_dest hsm
  obtain ⟨hx, hb, hml, hown, hG⟩ := id F
  replace hl : lv_has ls 6 [(0, .ref (ad 33))] := hl
  refine lv_dconst0 hx hb dX8_sumOfSquares_0 ?_
  obtain ⟨x1, ex1⟩ : ∃ z : UInt64, z = FP.dconst0 := ⟨_, rfl⟩
  replace hf := nm_some ex1 hf
  have hx1 := al_eq2 ex1 (al_rf _)
  refine lv_topd (fun m2 em2 => ?_)
  have hm2 := al_eq em2 hx1
  refine lv_dstore_n (lv' := [(1, .double m2), (0, .ref (ad 33))]) hx hb dX8_sumOfSquares_1 rfl hl (by decide) rfl (fun ls_3 hl_3 => ?_)
  refine lv_iconst (v := (0 : Int32)) hx hb dX8_sumOfSquares_2 (by decide) ?_
  refine lv_istore_n (lv' := [(3, .int (0 : Int32)), (1, .double m2), (0, .ref (ad 33))]) hx hb dX8_sumOfSquares_3 rfl hl_3 (by decide) rfl (fun ls_4 hl_4 => ?_)
  obtain ⟨x8, hq1, hf⟩ := bd_some hf
  have K1 : ∀ (H : Heap) (locs : List Loc) (d : Drawn) (mx8 : UInt64) (Dm9 : Nat → Nat → UInt64), s.drawn.sameBut d lw_cs → alike64 mx8 x8 = true → alikeM Dm9 Dd → sInv D (cT cI cJ cD cS) (cW ad cI cJ cD cS) A s H locs (G, E, Dm9, P, Z) → ∀ (ls : Array Slot), lv_has ls 6 [(1, .double mx8)] → W p l e R (s.setDrawn d) m args below meth c H locs 0 0 Q (F0 m 40 ls []) := by
    intro H_10 lo_10 dr_12 mx8 Dm9 hd_12 hx8 ha9 I_10 ls_11 hl_11
    refine lv_dload_n hx hb dX8_sumOfSquares_40 rfl (lv_at hl_11 0 rfl) ?_
    cases hf
    exact ret H_10 lo_10 _ ls_11 dr_12 _ _ hd_12 I_10 ⟨rfl, rfl, ha9, rfl⟩ hx8 dX8_sumOfSquares_41
  have L1 : ∀ (n : Nat) (x5 : UInt64) (x6 : Int32), lp (fun q => C_SR_sumOfSquares_s1 G Dd q.1 q.2) n (x5, x6) = some x8 → ∀ (H : Heap) (locs : List Loc) (d : Drawn) (mx5 : UInt64) (Dm7 : Nat → Nat → UInt64), s.drawn.sameBut d lw_cs → alike64 mx5 x5 = true → alikeM Dm7 Dd → sInv D (cT cI cJ cD cS) (cW ad cI cJ cD cS) A s H locs (G, E, Dm7, P, Z) → ∀ (ls : Array Slot), lv_has ls 6 [(0, .ref (ad 33)), (1, .double mx5), (3, .int x6)] → W p l e R (s.setDrawn d) m args below meth c H locs 0 0 Q (F0 m 4 ls []) := by
    intro n
    induction n with
    | zero => intro x5 x6 hq; exact (lp_0 hq).elim
    | succ n ih1 =>
      intro x5 x6 hq H_13 lo_13 dr_15 mx5 Dm7 hd_15 hx5 ha7 I_13 ls_14 hl_14
      obtain ⟨y1, hf, hK1⟩ := lp_go hq
      replace hf : C_SR_sumOfSquares_s1 G Dd x5 x6 = some y1 := hf
      unfold C_SR_sumOfSquares_s1 at hf
      refine lv_iload_n hx hb dX8_sumOfSquares_4 rfl (lv_at hl_14 2 rfl) ?_
      refine lv_aload_n hx hb dX8_sumOfSquares_5 rfl (lv_at hl_14 0 rfl) ?_
      refine kgtX8_9_33 (Fdr F) (Idr I_13) dX8_sumOfSquares_6 ?_
      refine lv_icmp_ge (tgt := 40) hx hb dX8_sumOfSquares_9 (by decide) (fun c33 => ?_) (fun c33 => ?_)
      · replace hf := (if_pos c33).symm.trans hf
        cases hf
        cases (show x5 = x8 from hK1)
        exact K1 H_13 lo_13 dr_15 mx5 Dm7 hd_15 hx5 ha7 I_13 ls_14 (lv_sub hl_14 [1] rfl)
      · replace hf := (if_neg c33).symm.trans hf
        refine lv_aload_n hx hb dX8_sumOfSquares_12 rfl (lv_at hl_14 0 rfl) ?_
        refine kgtX8_19_33 (Fdr F) (Idr I_13) dX8_sumOfSquares_13 ?_
        refine lv_iload_n hx hb dX8_sumOfSquares_16 rfl (lv_at hl_14 2 rfl) ?_
        obtain ⟨g16, hf⟩ := ri_some hf
        refine kal35 (Fdr F) (Idr I_13) g16 dX8_sumOfSquares_17 ?_
        refine lv_aload_n hx hb dX8_sumOfSquares_18 rfl (lv_at hl_14 0 rfl) ?_
        refine lv_iload_n hx hb dX8_sumOfSquares_19 rfl (lv_at hl_14 2 rfl) ?_
        obtain ⟨r17, h18, hf⟩ := bd_some hf
        refine d_callVd (As := [.int x6]) (rest := [.double (Dm7 0 x6.toNatClampNeg)]) F hd_15 I_13 ⟨rfl, rfl, ha7, rfl⟩ (cC_SR_expectedWins G E Dd P Z x6 r17 h18) kX8_51 ⟨rfl, rfl⟩ ⟨Nat.le_trans (Nat.le_of_ble_eq_true rfl) hRf, Nat.le_trans (Nat.le_of_ble_eq_true rfl) hRl⟩ (33) 8 rfl rfl rfl rfl rfl hl_14.1 (Nat.le_of_ble_eq_true rfl) ⟨Nat.zero_le _, Nat.zero_le _⟩ dX8_sumOfSquares_20 ?_
        intro H_19 lo_19 dr_20 sg20 mr17 hd_20 I_19 hs20 hr17
        obtain ⟨_, _, Dm20, _⟩ := sg20
        obtain ⟨rfl, rfl, ha20, rfl⟩ := cSm_dest hs20
        refine lv_dsub_any hd_20 lw_bits hx hb dX8_sumOfSquares_23 (fun u21 dr_22 alu21 hd_22 => ?_)
        have hu21 := al_dsub alu21 (ha7 0 _) hr17
        obtain ⟨x23, ex23⟩ : ∃ z : UInt64, z = (FP.dsub (Dd 0 x6.toNatClampNeg) r17) := ⟨_, rfl⟩
        replace hf := nm_some ex23 hf
        have hx23 := al_eq2 ex23 hu21
        refine lv_dstore (lv' := [(4, .double u21), (0, .ref (ad 33)), (1, .double mx5), (3, .int x6)]) hx hb dX8_sumOfSquares_24 hl_14 (by decide) rfl (fun ls_24 hl_24 => ?_)
        refine lv_dload_n hx hb dX8_sumOfSquares_26 rfl (lv_at hl_24 2 rfl) ?_
        refine lv_dload hx hb dX8_sumOfSquares_27 (lv_at hl_24 0 rfl) ?_
        refine lv_dload hx hb dX8_sumOfSquares_29 (lv_at hl_24 0 rfl) ?_
        refine lv_dmul_any hd_22 lw_bits hx hb dX8_sumOfSquares_31 (fun u25 dr_26 alu25 hd_26 => ?_)
        have hu25 := al_dmul alu25 hx23 hx23
        refine lv_dadd_any hd_26 lw_bits hx hb dX8_sumOfSquares_32 (fun u27 dr_28 alu27 hd_28 => ?_)
        have hu27 := al_dadd alu27 hx5 hu25
        obtain ⟨x29, ex29⟩ : ∃ z : UInt64, z = (FP.dadd x5 (FP.dmul x23 x23)) := ⟨_, rfl⟩
        replace hf := nm_some ex29 hf
        have hx29 := al_eq2 ex29 hu27
        refine lv_dstore_n (lv' := [(1, .double u27), (4, .double u21), (0, .ref (ad 33)), (3, .int x6)]) hx hb dX8_sumOfSquares_33 rfl hl_24 (by decide) rfl (fun ls_30 hl_30 => ?_)
        obtain ⟨x31, ex31⟩ : ∃ y : Int32, y = x6 + (1 : Int32) := ⟨_, rfl⟩
        replace hf := nm_some ex31 hf
        refine lv_iinc (v := x31) (lv' := [(3, .int x31), (1, .double u27), (4, .double u21), (0, .ref (ad 33))]) hx hb dX8_sumOfSquares_34 hl_30 (k := 3) rfl (by rw [ex31]; rfl) (by decide) rfl (fun ls_32 hl_32 => ?_)
        refine lv_goto (tgt := 4) hx hb dX8_sumOfSquares_37 (by decide) ?_
        cases hf
        exact ih1 _ _ hK1 H_19 lo_19 dr_28 u27 Dm20 hd_28 hx29 ha20 I_19 ls_32 (lv_sub hl_32 [3, 1, 0] rfl)
  exact L1 FU _ _ hq1 H lo dr m2 Dm hd hm2 ha I ls_4 (lv_sub hl_4 [2, 1, 0] rfl)
def C_JA_fill_i_10_s1 (a1 : Int32) (x3 : Int32) (G4 : Nat → Nat → Int32) : Option ((Int32 × (Nat → Nat → Int32)) ⊕ ((Nat → Nat → Int32))) :=
if (64 : Int32) ≤ x3 then
(some (.inr G4))
else
(ri 64 x3 <|
nm (wr G4 16 x3 a1) fun G13 =>
nm (x3 + (1 : Int32) : Int32) fun x15 =>
some (.inl (x15, G13)))
def C_JA_fill_i_10 (G : Nat → Nat → Int32) (a1 : Int32) : Option ((Nat → Nat → Int32)) :=
bd (lp (fun q => C_JA_fill_i_10_s1 a1 q.1 q.2) FU ((0 : Int32), G)) fun G5 =>
some G5
set_option maxRecDepth 100000 in
set_option maxHeartbeats 4000000 in
theorem cC_JA_fill_i_10 (G : Nat → Nat → Int32) (E : Nat → Nat → Int64) (Dd : Nat → Nat → UInt64) (P : Nat → Option PRec) (Z : List PRec) (a1 : Int32)  (newG : Nat → Nat → Int32) (hf : C_JA_fill_i_10 G a1 = some newG) : sMv D (cT cI cJ cD cS) (cW ad cI cJ cD cS) l yJ7_fill_53178 (ws1 yJ7_fill_53178 cJ7_fill_53178 4 none) ({ frames := 0, cells := 0, slots := 0, locals := 0 }) [.ref (ad 10), .int a1] (G, E, Dd, P, Z) (newG, E, Dd, P, Z) := by
  unfold C_JA_fill_i_10 at hf
  refine sMv_of (by decide) (Nat.le_of_ble_eq_true rfl) ?_
  intro p e R s m args below meth c A Q ls H lo F hRf hRl I hl ret
  obtain ⟨hx, hb, hml, hown, hG⟩ := id F
  replace hl : lv_has ls 4 [(0, .ref (ad 10)), (1, .int a1)] := hl
  refine lv_iconst (v := (0 : Int32)) hx hb dJ7_fill_53178_0 (by decide) ?_
  refine lv_istore_n (lv' := [(2, .int (0 : Int32)), (0, .ref (ad 10)), (1, .int a1)]) hx hb dJ7_fill_53178_1 rfl hl (by decide) rfl (fun ls_1 hl_1 => ?_)
  refine lv_aload_n hx hb dJ7_fill_53178_2 rfl (lv_at hl_1 1 rfl) ?_
  refine kln10 F I dJ7_fill_53178_3 ?_
  refine lv_istore_n (lv' := [(3, .int (64 : Int32)), (2, .int (0 : Int32)), (0, .ref (ad 10)), (1, .int a1)]) hx hb dJ7_fill_53178_4 rfl hl_1 (by decide) rfl (fun ls_2 hl_2 => ?_)
  obtain ⟨G5, hq1, hf⟩ := bd_some hf
  have K1 : ∀ (H : Heap) (locs : List Loc), sInv D (cT cI cJ cD cS) (cW ad cI cJ cD cS) A s H locs (G5, E, Dd, P, Z) → ∀ (ls : Array Slot), lv_has ls 4 [] → W p l e R s m args below meth c H locs 0 0 Q (F0 m 20 ls []) := by
    intro H_6 lo_6 I_6 ls_7 hl_7
    cases hf
    exact ret H_6 lo_6 _ ls_7 I_6 dJ7_fill_53178_20
  have L1 : ∀ (n : Nat) (x3 : Int32) (G4 : Nat → Nat → Int32), lp (fun q => C_JA_fill_i_10_s1 a1 q.1 q.2) n (x3, G4) = some G5 → ∀ (H : Heap) (locs : List Loc), sInv D (cT cI cJ cD cS) (cW ad cI cJ cD cS) A s H locs (G4, E, Dd, P, Z) → ∀ (ls : Array Slot), lv_has ls 4 [(0, .ref (ad 10)), (1, .int a1), (2, .int x3), (3, .int (64 : Int32))] → W p l e R s m args below meth c H locs 0 0 Q (F0 m 5 ls []) := by
    intro n
    induction n with
    | zero => intro x3 G4 hq; exact (lp_0 hq).elim
    | succ n ih1 =>
      intro x3 G4 hq H_9 lo_9 I_9 ls_10 hl_10
      obtain ⟨y1, hf, hK1⟩ := lp_go hq
      replace hf : C_JA_fill_i_10_s1 a1 x3 G4 = some y1 := hf
      unfold C_JA_fill_i_10_s1 at hf
      refine lv_iload_n hx hb dJ7_fill_53178_5 rfl (lv_at hl_10 2 rfl) ?_
      refine lv_iload_n hx hb dJ7_fill_53178_6 rfl (lv_at hl_10 3 rfl) ?_
      refine lv_icmp_ge (tgt := 20) hx hb dJ7_fill_53178_7 (by decide) (fun c17 => ?_) (fun c17 => ?_)
      · replace hf := (if_pos c17).symm.trans hf
        cases hf
        cases (show G4 = G5 from hK1)
        exact K1 H_9 lo_9 I_9 ls_10 (lv_sub hl_10 [] rfl)
      · replace hf := (if_neg c17).symm.trans hf
        refine lv_aload_n hx hb dJ7_fill_53178_10 rfl (lv_at hl_10 0 rfl) ?_
        refine lv_iload_n hx hb dJ7_fill_53178_11 rfl (lv_at hl_10 2 rfl) ?_
        refine lv_iload_n hx hb dJ7_fill_53178_12 rfl (lv_at hl_10 1 rfl) ?_
        obtain ⟨g12, hf⟩ := ri_some hf
        refine kas10 F I_9 g12 dJ7_fill_53178_13 ?_
        intro H_14 lo_14 G13 eG13 I_14
        replace hf := nm_some eG13 hf
        obtain ⟨x15, ex15⟩ : ∃ y : Int32, y = x3 + (1 : Int32) := ⟨_, rfl⟩
        replace hf := nm_some ex15 hf
        refine lv_iinc (v := x15) (lv' := [(2, .int x15), (0, .ref (ad 10)), (1, .int a1), (3, .int (64 : Int32))]) hx hb dJ7_fill_53178_14 hl_10 (k := 2) rfl (by rw [ex15]; rfl) (by decide) rfl (fun ls_16 hl_16 => ?_)
        refine lv_goto (tgt := 5) hx hb dJ7_fill_53178_17 (by decide) ?_
        cases hf
        exact ih1 _ _ hK1 H_14 lo_14 I_14 ls_16 (lv_sub hl_16 [1, 2, 0, 3] rfl)
  exact L1 FU _ _ hq1 H lo I ls_2 (lv_sub hl_2 [2, 3, 1, 0] rfl)
def C_JA_fill_i_11_s1 (a1 : Int32) (x3 : Int32) (G4 : Nat → Nat → Int32) : Option ((Int32 × (Nat → Nat → Int32)) ⊕ ((Nat → Nat → Int32))) :=
if (64 : Int32) ≤ x3 then
(some (.inr G4))
else
(ri 64 x3 <|
nm (wr G4 17 x3 a1) fun G13 =>
nm (x3 + (1 : Int32) : Int32) fun x15 =>
some (.inl (x15, G13)))
def C_JA_fill_i_11 (G : Nat → Nat → Int32) (a1 : Int32) : Option ((Nat → Nat → Int32)) :=
bd (lp (fun q => C_JA_fill_i_11_s1 a1 q.1 q.2) FU ((0 : Int32), G)) fun G5 =>
some G5
set_option maxRecDepth 100000 in
set_option maxHeartbeats 4000000 in
theorem cC_JA_fill_i_11 (G : Nat → Nat → Int32) (E : Nat → Nat → Int64) (Dd : Nat → Nat → UInt64) (P : Nat → Option PRec) (Z : List PRec) (a1 : Int32)  (newG : Nat → Nat → Int32) (hf : C_JA_fill_i_11 G a1 = some newG) : sMv D (cT cI cJ cD cS) (cW ad cI cJ cD cS) l yJ7_fill_53178 (ws1 yJ7_fill_53178 cJ7_fill_53178 4 none) ({ frames := 0, cells := 0, slots := 0, locals := 0 }) [.ref (ad 11), .int a1] (G, E, Dd, P, Z) (newG, E, Dd, P, Z) := by
  unfold C_JA_fill_i_11 at hf
  refine sMv_of (by decide) (Nat.le_of_ble_eq_true rfl) ?_
  intro p e R s m args below meth c A Q ls H lo F hRf hRl I hl ret
  obtain ⟨hx, hb, hml, hown, hG⟩ := id F
  replace hl : lv_has ls 4 [(0, .ref (ad 11)), (1, .int a1)] := hl
  refine lv_iconst (v := (0 : Int32)) hx hb dJ7_fill_53178_0 (by decide) ?_
  refine lv_istore_n (lv' := [(2, .int (0 : Int32)), (0, .ref (ad 11)), (1, .int a1)]) hx hb dJ7_fill_53178_1 rfl hl (by decide) rfl (fun ls_1 hl_1 => ?_)
  refine lv_aload_n hx hb dJ7_fill_53178_2 rfl (lv_at hl_1 1 rfl) ?_
  refine kln11 F I dJ7_fill_53178_3 ?_
  refine lv_istore_n (lv' := [(3, .int (64 : Int32)), (2, .int (0 : Int32)), (0, .ref (ad 11)), (1, .int a1)]) hx hb dJ7_fill_53178_4 rfl hl_1 (by decide) rfl (fun ls_2 hl_2 => ?_)
  obtain ⟨G5, hq1, hf⟩ := bd_some hf
  have K1 : ∀ (H : Heap) (locs : List Loc), sInv D (cT cI cJ cD cS) (cW ad cI cJ cD cS) A s H locs (G5, E, Dd, P, Z) → ∀ (ls : Array Slot), lv_has ls 4 [] → W p l e R s m args below meth c H locs 0 0 Q (F0 m 20 ls []) := by
    intro H_6 lo_6 I_6 ls_7 hl_7
    cases hf
    exact ret H_6 lo_6 _ ls_7 I_6 dJ7_fill_53178_20
  have L1 : ∀ (n : Nat) (x3 : Int32) (G4 : Nat → Nat → Int32), lp (fun q => C_JA_fill_i_11_s1 a1 q.1 q.2) n (x3, G4) = some G5 → ∀ (H : Heap) (locs : List Loc), sInv D (cT cI cJ cD cS) (cW ad cI cJ cD cS) A s H locs (G4, E, Dd, P, Z) → ∀ (ls : Array Slot), lv_has ls 4 [(0, .ref (ad 11)), (1, .int a1), (2, .int x3), (3, .int (64 : Int32))] → W p l e R s m args below meth c H locs 0 0 Q (F0 m 5 ls []) := by
    intro n
    induction n with
    | zero => intro x3 G4 hq; exact (lp_0 hq).elim
    | succ n ih1 =>
      intro x3 G4 hq H_9 lo_9 I_9 ls_10 hl_10
      obtain ⟨y1, hf, hK1⟩ := lp_go hq
      replace hf : C_JA_fill_i_11_s1 a1 x3 G4 = some y1 := hf
      unfold C_JA_fill_i_11_s1 at hf
      refine lv_iload_n hx hb dJ7_fill_53178_5 rfl (lv_at hl_10 2 rfl) ?_
      refine lv_iload_n hx hb dJ7_fill_53178_6 rfl (lv_at hl_10 3 rfl) ?_
      refine lv_icmp_ge (tgt := 20) hx hb dJ7_fill_53178_7 (by decide) (fun c17 => ?_) (fun c17 => ?_)
      · replace hf := (if_pos c17).symm.trans hf
        cases hf
        cases (show G4 = G5 from hK1)
        exact K1 H_9 lo_9 I_9 ls_10 (lv_sub hl_10 [] rfl)
      · replace hf := (if_neg c17).symm.trans hf
        refine lv_aload_n hx hb dJ7_fill_53178_10 rfl (lv_at hl_10 0 rfl) ?_
        refine lv_iload_n hx hb dJ7_fill_53178_11 rfl (lv_at hl_10 2 rfl) ?_
        refine lv_iload_n hx hb dJ7_fill_53178_12 rfl (lv_at hl_10 1 rfl) ?_
        obtain ⟨g12, hf⟩ := ri_some hf
        refine kas11 F I_9 g12 dJ7_fill_53178_13 ?_
        intro H_14 lo_14 G13 eG13 I_14
        replace hf := nm_some eG13 hf
        obtain ⟨x15, ex15⟩ : ∃ y : Int32, y = x3 + (1 : Int32) := ⟨_, rfl⟩
        replace hf := nm_some ex15 hf
        refine lv_iinc (v := x15) (lv' := [(2, .int x15), (0, .ref (ad 11)), (1, .int a1), (3, .int (64 : Int32))]) hx hb dJ7_fill_53178_14 hl_10 (k := 2) rfl (by rw [ex15]; rfl) (by decide) rfl (fun ls_16 hl_16 => ?_)
        refine lv_goto (tgt := 5) hx hb dJ7_fill_53178_17 (by decide) ?_
        cases hf
        exact ih1 _ _ hK1 H_14 lo_14 I_14 ls_16 (lv_sub hl_16 [1, 2, 0, 3] rfl)
  exact L1 FU _ _ hq1 H lo I ls_2 (lv_sub hl_2 [2, 3, 1, 0] rfl)
def C_TA_take_s1  (x8 : Int32) (G9 : Nat → Nat → Int32) : Option ((Int32 × (Nat → Nat → Int32)) ⊕ ((Nat → Nat → Int32))) :=
if G9 5 0 ≤ x8 then
(some (.inr G9))
else
(bd (C_CO_at G9 x8) fun r17 =>
nm (C_CO_answerOf r17) fun r21 =>
bd (if r21 = 0 then
(nm (C_CO_firstOf r17) fun r45 =>
nm (C_CO_secondOf r17) fun r48 =>
nm (C_LT_cell r45 r48) fun r51 =>
ri 64 r51 <|
ri 64 r51 <|
nm (wr G9 17 r51 ((G9 17 r51.toNatClampNeg) + (1 : Int32))) fun G56 =>
nm (C_CO_secondOf r17) fun r58 =>
nm (C_CO_firstOf r17) fun r61 =>
nm (C_LT_cell r58 r61) fun r64 =>
ri 64 r64 <|
ri 64 r64 <|
nm (wr G56 17 r64 ((G56 17 r64.toNatClampNeg) + (1 : Int32))) fun G69 =>
some G69)
else
(bd (C_CO_winnerOf r17) fun r32 =>
bd (C_CO_loserOf r17) fun r35 =>
nm (C_LT_cell r32 r35) fun r38 =>
ri 64 r38 <|
ri 64 r38 <|
nm (wr G9 16 r38 ((G9 16 r38.toNatClampNeg) + (1 : Int32))) fun G43 =>
some G43)) fun G25 =>
nm (x8 + (1 : Int32) : Int32) fun x29 =>
some (.inl (x29, G25)))
def C_TA_take (G : Nat → Nat → Int32) : Option ((Nat → Nat → Int32)) :=
bd (C_JA_fill_i_10 G (0 : Int32)) fun G1 =>
bd (C_JA_fill_i_11 G1 (0 : Int32)) fun G4 =>
bd (lp (fun q => C_TA_take_s1 q.1 q.2) FU ((0 : Int32), G4)) fun G10 =>
some G10
set_option maxRecDepth 100000 in
set_option maxHeartbeats 4000000 in
theorem cC_TA_take (G : Nat → Nat → Int32) (E : Nat → Nat → Int64) (Dd : Nat → Nat → UInt64) (P : Nat → Option PRec) (Z : List PRec)   (newG : Nat → Nat → Int32) (hf : C_TA_take G = some newG) : sMv D (cT cI cJ cD cS) (cW ad cI cJ cD cS) l yX9_take (ws1 yX9_take cX9_take 4 none) ({ frames := 2, cells := 0, slots := 0, locals := 40 }) [.ref (ad 9), .ref (ad 2)] (G, E, Dd, P, Z) (newG, E, Dd, P, Z) := by
  unfold C_TA_take at hf
  refine sMv_of (by decide) (Nat.le_of_ble_eq_true rfl) ?_
  intro p e R s m args below meth c A Q ls H lo F hRf hRl I hl ret
  obtain ⟨hx, hb, hml, hown, hG⟩ := id F
  replace hl : lv_has ls 4 [(0, .ref (ad 9)), (1, .ref (ad 2))] := hl
  refine lv_aload_n hx hb dX9_take_0 rfl (lv_at hl 0 rfl) ?_
  refine kgtX9_9_9 F I dX9_take_1 ?_
  refine lv_iconst (v := (0 : Int32)) hx hb dX9_take_4 (by decide) ?_
  obtain ⟨G1, h2, hf⟩ := bd_some hf
  refine s_callSv (As := [.ref (ad 10), .int (0 : Int32)]) (rest := []) F I (cC_JA_fill_i_10 G E Dd P Z (0 : Int32) G1 h2) kX9_18 ⟨rfl, rfl⟩ ⟨Nat.le_trans (Nat.le_of_ble_eq_true rfl) hRf, Nat.le_trans (Nat.le_of_ble_eq_true rfl) hRl⟩ rfl rfl hl.1 (Nat.le_of_ble_eq_true rfl) ⟨Nat.zero_le _, Nat.zero_le _⟩ dX9_take_5 ?_
  intro H_3 lo_3 I_3
  refine lv_aload_n hx hb dX9_take_8 rfl (lv_at hl 0 rfl) ?_
  refine kgtX9_15_9 F I_3 dX9_take_9 ?_
  refine lv_iconst (v := (0 : Int32)) hx hb dX9_take_12 (by decide) ?_
  obtain ⟨G4, h5, hf⟩ := bd_some hf
  refine s_callSv (As := [.ref (ad 11), .int (0 : Int32)]) (rest := []) F I_3 (cC_JA_fill_i_11 G1 E Dd P Z (0 : Int32) G4 h5) kX9_18 ⟨rfl, rfl⟩ ⟨Nat.le_trans (Nat.le_of_ble_eq_true rfl) hRf, Nat.le_trans (Nat.le_of_ble_eq_true rfl) hRl⟩ rfl rfl hl.1 (Nat.le_of_ble_eq_true rfl) ⟨Nat.zero_le _, Nat.zero_le _⟩ dX9_take_13 ?_
  intro H_6 lo_6 I_6
  refine lv_iconst (v := (0 : Int32)) hx hb dX9_take_16 (by decide) ?_
  refine lv_istore_n (lv' := [(2, .int (0 : Int32)), (0, .ref (ad 9)), (1, .ref (ad 2))]) hx hb dX9_take_17 rfl hl (by decide) rfl (fun ls_7 hl_7 => ?_)
  obtain ⟨G10, hq1, hf⟩ := bd_some hf
  have K1 : ∀ (H : Heap) (locs : List Loc), sInv D (cT cI cJ cD cS) (cW ad cI cJ cD cS) A s H locs (G10, E, Dd, P, Z) → ∀ (ls : Array Slot), lv_has ls 4 [] → W p l e R s m args below meth c H locs 0 0 Q (F0 m 108 ls []) := by
    intro H_11 lo_11 I_11 ls_12 hl_12
    cases hf
    exact ret H_11 lo_11 _ ls_12 I_11 dX9_take_108
  have L1 : ∀ (n : Nat) (x8 : Int32) (G9 : Nat → Nat → Int32), lp (fun q => C_TA_take_s1 q.1 q.2) n (x8, G9) = some G10 → ∀ (H : Heap) (locs : List Loc), sInv D (cT cI cJ cD cS) (cW ad cI cJ cD cS) A s H locs (G9, E, Dd, P, Z) → ∀ (ls : Array Slot), lv_has ls 4 [(0, .ref (ad 9)), (1, .ref (ad 2)), (2, .int x8)] → W p l e R s m args below meth c H locs 0 0 Q (F0 m 18 ls []) := by
    intro n
    induction n with
    | zero => intro x8 G9 hq; exact (lp_0 hq).elim
    | succ n ih1 =>
      intro x8 G9 hq H_14 lo_14 I_14 ls_15 hl_15
      obtain ⟨y1, hf, hK1⟩ := lp_go hq
      replace hf : C_TA_take_s1 x8 G9 = some y1 := hf
      unfold C_TA_take_s1 at hf
      refine lv_iload_n hx hb dX9_take_18 rfl (lv_at hl_15 2 rfl) ?_
      refine lv_aload_n hx hb dX9_take_19 rfl (lv_at hl_15 1 rfl) ?_
      refine kgtX9_24_2 F I_14 dX9_take_20 ?_
      refine lv_icmp_ge (tgt := 108) hx hb dX9_take_23 (by decide) (fun c72 => ?_) (fun c72 => ?_)
      · replace hf := (if_pos c72).symm.trans hf
        cases hf
        cases (show G9 = G10 from hK1)
        exact K1 H_14 lo_14 I_14 ls_15 (lv_sub hl_15 [] rfl)
      · replace hf := (if_neg c72).symm.trans hf
        refine lv_aload_n hx hb dX9_take_26 rfl (lv_at hl_15 1 rfl) ?_
        refine lv_iload_n hx hb dX9_take_27 rfl (lv_at hl_15 2 rfl) ?_
        obtain ⟨r17, h18, hf⟩ := bd_some hf
        refine s_callVi (As := [.int x8]) (rest := []) F I_14 (cC_CO_at G9 E Dd P Z x8 r17 h18) kX9_30 ⟨rfl, rfl⟩ ⟨Nat.le_trans (Nat.le_of_ble_eq_true rfl) hRf, Nat.le_trans (Nat.le_of_ble_eq_true rfl) hRl⟩ (2) 1 rfl rfl rfl rfl rfl hl_15.1 (Nat.le_of_ble_eq_true rfl) ⟨Nat.zero_le _, Nat.zero_le _⟩ dX9_take_28 ?_
        intro H_19 lo_19 I_19
        refine lv_istore_n (lv' := [(3, .int r17), (0, .ref (ad 9)), (1, .ref (ad 2)), (2, .int x8)]) hx hb dX9_take_31 rfl hl_15 (by decide) rfl (fun ls_20 hl_20 => ?_)
        refine lv_iload_n hx hb dX9_take_32 rfl (lv_at hl_20 0 rfl) ?_
        obtain ⟨r21, h22⟩ : ∃ z, z = C_CO_answerOf r17 := ⟨_, rfl⟩
        replace hf := nm_some h22 hf
        refine s_callSi (As := [.int r17]) (rest := []) F I_19 (cC_CO_answerOf G9 E Dd P Z r17 r21 h22) kX9_34 ⟨rfl, rfl⟩ ⟨Nat.le_trans (Nat.le_of_ble_eq_true rfl) hRf, Nat.le_trans (Nat.le_of_ble_eq_true rfl) hRl⟩ rfl rfl hl_20.1 (Nat.le_of_ble_eq_true rfl) ⟨Nat.zero_le _, Nat.zero_le _⟩ dX9_take_33 ?_
        intro H_23 lo_23 I_23
        obtain ⟨G25, hv31, hf⟩ := bd_some hf
        have J24 : ∀ (H : Heap) (locs : List Loc), sInv D (cT cI cJ cD cS) (cW ad cI cJ cD cS) A s H locs (G25, E, Dd, P, Z) → ∀ (ls : Array Slot), lv_has ls 4 [(0, .ref (ad 9)), (1, .ref (ad 2)), (2, .int x8)] → W p l e R s m args below meth c H locs 0 0 Q (F0 m 102 ls []) := by
          intro H_26 lo_26 I_26 ls_27 hl_27
          obtain ⟨x29, ex29⟩ : ∃ y : Int32, y = x8 + (1 : Int32) := ⟨_, rfl⟩
          replace hf := nm_some ex29 hf
          refine lv_iinc (v := x29) (lv' := [(2, .int x29), (0, .ref (ad 9)), (1, .ref (ad 2))]) hx hb dX9_take_102 hl_27 (k := 2) rfl (by rw [ex29]; rfl) (by decide) rfl (fun ls_30 hl_30 => ?_)
          refine lv_goto (tgt := 18) hx hb dX9_take_105 (by decide) ?_
          cases hf
          exact ih1 _ _ hK1 H_26 lo_26 I_26 ls_30 (lv_sub hl_30 [1, 2, 0] rfl)
        replace hf := hv31
        refine lv_if_ne (tgt := 82) hx hb dX9_take_36 (by decide) (fun c71 => ?_) (fun c71 => ?_)
        · replace hf := (if_neg c71).symm.trans hf
          refine lv_aload_n hx hb dX9_take_82 rfl (lv_at hl_20 1 rfl) ?_
          refine kgtX9_9_9 F I_23 dX9_take_83 ?_
          refine lv_iload_n hx hb dX9_take_86 rfl (lv_at hl_20 0 rfl) ?_
          obtain ⟨r32, h33, hf⟩ := bd_some hf
          refine s_callSi (As := [.int r17]) (rest := [.ref (ad 10)]) F I_23 (cC_CO_winnerOf G9 E Dd P Z r17 r32 h33) kX9_47 ⟨rfl, rfl⟩ ⟨Nat.le_trans (Nat.le_of_ble_eq_true rfl) hRf, Nat.le_trans (Nat.le_of_ble_eq_true rfl) hRl⟩ rfl rfl hl_20.1 (Nat.le_of_ble_eq_true rfl) ⟨Nat.zero_le _, Nat.zero_le _⟩ dX9_take_87 ?_
          intro H_34 lo_34 I_34
          refine lv_iload_n hx hb dX9_take_90 rfl (lv_at hl_20 0 rfl) ?_
          obtain ⟨r35, h36, hf⟩ := bd_some hf
          refine s_callSi (As := [.int r17]) (rest := [.int r32, .ref (ad 10)]) F I_34 (cC_CO_loserOf G9 E Dd P Z r17 r35 h36) kX9_50 ⟨rfl, rfl⟩ ⟨Nat.le_trans (Nat.le_of_ble_eq_true rfl) hRf, Nat.le_trans (Nat.le_of_ble_eq_true rfl) hRl⟩ rfl rfl hl_20.1 (Nat.le_of_ble_eq_true rfl) ⟨Nat.zero_le _, Nat.zero_le _⟩ dX9_take_91 ?_
          intro H_37 lo_37 I_37
          obtain ⟨r38, h39⟩ : ∃ z, z = C_LT_cell r32 r35 := ⟨_, rfl⟩
          replace hf := nm_some h39 hf
          refine s_callSNi (As := [.int r32, .int r35]) (rest := [.ref (ad 10)]) F I_37 (cC_LT_cell G9 E Dd P Z r32 r35 r38 h39) kX9_43 ⟨rfl, rfl⟩ ⟨Nat.le_trans (Nat.le_of_ble_eq_true rfl) hRf, Nat.le_trans (Nat.le_of_ble_eq_true rfl) hRl⟩ rfl rfl hl_20.1 (Nat.le_of_ble_eq_true rfl) ⟨Nat.zero_le _, Nat.zero_le _⟩ dX9_take_94 ?_
          intro H_40 lo_40 I_40
          refine lv_dup2_11 hx hb dX9_take_97 rfl rfl ?_
          obtain ⟨g41, hf⟩ := ri_some hf
          refine kal10 F I_40 g41 dX9_take_98 ?_
          refine lv_iconst (v := (1 : Int32)) hx hb dX9_take_99 (by decide) ?_
          refine lv_iadd hx hb dX9_take_100 ?_
          obtain ⟨g42, hf⟩ := ri_some hf
          refine kas10 F I_40 g42 dX9_take_101 ?_
          intro H_44 lo_44 G43 eG43 I_44
          replace hf := nm_some eG43 hf
          cases hf
          exact J24 H_44 lo_44 I_44 ls_20 (lv_sub hl_20 [1, 2, 3] rfl)
        · replace hf := (if_pos c71).symm.trans hf
          refine lv_aload_n hx hb dX9_take_39 rfl (lv_at hl_20 1 rfl) ?_
          refine kgtX9_15_9 F I_23 dX9_take_40 ?_
          refine lv_iload_n hx hb dX9_take_43 rfl (lv_at hl_20 0 rfl) ?_
          obtain ⟨r45, h46⟩ : ∃ z, z = C_CO_firstOf r17 := ⟨_, rfl⟩
          replace hf := nm_some h46 hf
          refine s_callSi (As := [.int r17]) (rest := [.ref (ad 11)]) F I_23 (cC_CO_firstOf G9 E Dd P Z r17 r45 h46) kX9_37 ⟨rfl, rfl⟩ ⟨Nat.le_trans (Nat.le_of_ble_eq_true rfl) hRf, Nat.le_trans (Nat.le_of_ble_eq_true rfl) hRl⟩ rfl rfl hl_20.1 (Nat.le_of_ble_eq_true rfl) ⟨Nat.zero_le _, Nat.zero_le _⟩ dX9_take_44 ?_
          intro H_47 lo_47 I_47
          refine lv_iload_n hx hb dX9_take_47 rfl (lv_at hl_20 0 rfl) ?_
          obtain ⟨r48, h49⟩ : ∃ z, z = C_CO_secondOf r17 := ⟨_, rfl⟩
          replace hf := nm_some h49 hf
          refine s_callSi (As := [.int r17]) (rest := [.int r45, .ref (ad 11)]) F I_47 (cC_CO_secondOf G9 E Dd P Z r17 r48 h49) kX9_40 ⟨rfl, rfl⟩ ⟨Nat.le_trans (Nat.le_of_ble_eq_true rfl) hRf, Nat.le_trans (Nat.le_of_ble_eq_true rfl) hRl⟩ rfl rfl hl_20.1 (Nat.le_of_ble_eq_true rfl) ⟨Nat.zero_le _, Nat.zero_le _⟩ dX9_take_48 ?_
          intro H_50 lo_50 I_50
          obtain ⟨r51, h52⟩ : ∃ z, z = C_LT_cell r45 r48 := ⟨_, rfl⟩
          replace hf := nm_some h52 hf
          refine s_callSNi (As := [.int r45, .int r48]) (rest := [.ref (ad 11)]) F I_50 (cC_LT_cell G9 E Dd P Z r45 r48 r51 h52) kX9_43 ⟨rfl, rfl⟩ ⟨Nat.le_trans (Nat.le_of_ble_eq_true rfl) hRf, Nat.le_trans (Nat.le_of_ble_eq_true rfl) hRl⟩ rfl rfl hl_20.1 (Nat.le_of_ble_eq_true rfl) ⟨Nat.zero_le _, Nat.zero_le _⟩ dX9_take_51 ?_
          intro H_53 lo_53 I_53
          refine lv_dup2_11 hx hb dX9_take_54 rfl rfl ?_
          obtain ⟨g54, hf⟩ := ri_some hf
          refine kal11 F I_53 g54 dX9_take_55 ?_
          refine lv_iconst (v := (1 : Int32)) hx hb dX9_take_56 (by decide) ?_
          refine lv_iadd hx hb dX9_take_57 ?_
          obtain ⟨g55, hf⟩ := ri_some hf
          refine kas11 F I_53 g55 dX9_take_58 ?_
          intro H_57 lo_57 G56 eG56 I_57
          replace hf := nm_some eG56 hf
          refine lv_aload_n hx hb dX9_take_59 rfl (lv_at hl_20 1 rfl) ?_
          refine kgtX9_15_9 F I_57 dX9_take_60 ?_
          refine lv_iload_n hx hb dX9_take_63 rfl (lv_at hl_20 0 rfl) ?_
          obtain ⟨r58, h59⟩ : ∃ z, z = C_CO_secondOf r17 := ⟨_, rfl⟩
          replace hf := nm_some h59 hf
          refine s_callSi (As := [.int r17]) (rest := [.ref (ad 11)]) F I_57 (cC_CO_secondOf G56 E Dd P Z r17 r58 h59) kX9_40 ⟨rfl, rfl⟩ ⟨Nat.le_trans (Nat.le_of_ble_eq_true rfl) hRf, Nat.le_trans (Nat.le_of_ble_eq_true rfl) hRl⟩ rfl rfl hl_20.1 (Nat.le_of_ble_eq_true rfl) ⟨Nat.zero_le _, Nat.zero_le _⟩ dX9_take_64 ?_
          intro H_60 lo_60 I_60
          refine lv_iload_n hx hb dX9_take_67 rfl (lv_at hl_20 0 rfl) ?_
          obtain ⟨r61, h62⟩ : ∃ z, z = C_CO_firstOf r17 := ⟨_, rfl⟩
          replace hf := nm_some h62 hf
          refine s_callSi (As := [.int r17]) (rest := [.int r58, .ref (ad 11)]) F I_60 (cC_CO_firstOf G56 E Dd P Z r17 r61 h62) kX9_37 ⟨rfl, rfl⟩ ⟨Nat.le_trans (Nat.le_of_ble_eq_true rfl) hRf, Nat.le_trans (Nat.le_of_ble_eq_true rfl) hRl⟩ rfl rfl hl_20.1 (Nat.le_of_ble_eq_true rfl) ⟨Nat.zero_le _, Nat.zero_le _⟩ dX9_take_68 ?_
          intro H_63 lo_63 I_63
          obtain ⟨r64, h65⟩ : ∃ z, z = C_LT_cell r58 r61 := ⟨_, rfl⟩
          replace hf := nm_some h65 hf
          refine s_callSNi (As := [.int r58, .int r61]) (rest := [.ref (ad 11)]) F I_63 (cC_LT_cell G56 E Dd P Z r58 r61 r64 h65) kX9_43 ⟨rfl, rfl⟩ ⟨Nat.le_trans (Nat.le_of_ble_eq_true rfl) hRf, Nat.le_trans (Nat.le_of_ble_eq_true rfl) hRl⟩ rfl rfl hl_20.1 (Nat.le_of_ble_eq_true rfl) ⟨Nat.zero_le _, Nat.zero_le _⟩ dX9_take_71 ?_
          intro H_66 lo_66 I_66
          refine lv_dup2_11 hx hb dX9_take_74 rfl rfl ?_
          obtain ⟨g67, hf⟩ := ri_some hf
          refine kal11 F I_66 g67 dX9_take_75 ?_
          refine lv_iconst (v := (1 : Int32)) hx hb dX9_take_76 (by decide) ?_
          refine lv_iadd hx hb dX9_take_77 ?_
          obtain ⟨g68, hf⟩ := ri_some hf
          refine kas11 F I_66 g68 dX9_take_78 ?_
          intro H_70 lo_70 G69 eG69 I_70
          replace hf := nm_some eG69 hf
          refine lv_goto (tgt := 102) hx hb dX9_take_79 (by decide) ?_
          cases hf
          exact J24 H_70 lo_70 I_70 ls_20 (lv_sub hl_20 [1, 2, 3] rfl)
  exact L1 FU _ _ hq1 H_6 lo_6 I_6 ls_7 (lv_sub hl_7 [1, 2, 0] rfl)
def C_TX_isFull (G : Nat → Nat → Int32) : Option (Int32) :=
if G 9 0 < (60 : Int32) then
(some (0 : Int32))
else
(some (1 : Int32))
set_option maxRecDepth 100000 in
set_option maxHeartbeats 4000000 in
theorem cC_TX_isFull (G : Nat → Nat → Int32) (E : Nat → Nat → Int64) (Dd : Nat → Nat → UInt64) (P : Nat → Option PRec) (Z : List PRec)  (rv : Int32)  (hf : C_TX_isFull G = some rv) : sMi D (cT cI cJ cD cS) (cW ad cI cJ cD cS) l yX10_isFull (ws1 yX10_isFull cX10_isFull 1 (some .boolean)) ({ frames := 0, cells := 0, slots := 0, locals := 0 }) [.ref (ad 6)] (G, E, Dd, P, Z) (rv, (G, E, Dd, P, Z)) := by
  unfold C_TX_isFull at hf
  refine sMz_of (by decide) (Nat.le_of_ble_eq_true rfl) ?_
  intro p e R s m args below meth c A Q ls H lo F hRf hRl I hl ret
  obtain ⟨hx, hb, hml, hown, hG⟩ := id F
  replace hl : lv_has ls 1 [(0, .ref (ad 6))] := hl
  refine lv_aload_n hx hb dX10_isFull_0 rfl (lv_at hl 0 rfl) ?_
  refine kgtX10_15_6 F I dX10_isFull_1 ?_
  refine lv_bipush (v := (60 : Int32)) hx hb dX10_isFull_4 (by decide) ?_
  refine lv_icmp_lt (tgt := 13) hx hb dX10_isFull_6 (by decide) (fun c1 => ?_) (fun c1 => ?_)
  · replace hf := (if_pos c1).symm.trans hf
    refine lv_iconst (v := (0 : Int32)) hx hb dX10_isFull_13 (by decide) ?_
    cases hf
    exact ret H lo _ ls I (Or.inl rfl) dX10_isFull_14
  · replace hf := (if_neg c1).symm.trans hf
    refine lv_iconst (v := (1 : Int32)) hx hb dX10_isFull_9 (by decide) ?_
    refine lv_goto (tgt := 14) hx hb dX10_isFull_10 (by decide) ?_
    cases hf
    exact ret H lo _ ls I (Or.inr rfl) dX10_isFull_14
def C_TX_put (G : Nat → Nat → Int32) (a0 : Int32) : Option ((Nat → Nat → Int32)) :=
bd (C_TX_isFull G) fun r1 =>
if r1 = 0 then
(ri 60 (G 9 0) <|
nm (wr G 8 (G 9 0) a0) fun G5 =>
nm (wf G5 9 ((G5 9 0) + (1 : Int32))) fun G7 =>
some G7)
else
(some G)
set_option maxRecDepth 100000 in
set_option maxHeartbeats 4000000 in
theorem cC_TX_put (G : Nat → Nat → Int32) (E : Nat → Nat → Int64) (Dd : Nat → Nat → UInt64) (P : Nat → Option PRec) (Z : List PRec) (a0 : Int32)  (newG : Nat → Nat → Int32) (hf : C_TX_put G a0 = some newG) : sMv D (cT cI cJ cD cS) (cW ad cI cJ cD cS) l yX10_put (ws1 yX10_put cX10_put 2 none) ({ frames := 1, cells := 0, slots := 0, locals := 20 }) [.ref (ad 6), .int a0] (G, E, Dd, P, Z) (newG, E, Dd, P, Z) := by
  unfold C_TX_put at hf
  refine sMv_of (by decide) (Nat.le_of_ble_eq_true rfl) ?_
  intro p e R s m args below meth c A Q ls H lo F hRf hRl I hl ret
  obtain ⟨hx, hb, hml, hown, hG⟩ := id F
  replace hl : lv_has ls 2 [(0, .ref (ad 6)), (1, .int a0)] := hl
  refine lv_aload_n hx hb dX10_put_0 rfl (lv_at hl 0 rfl) ?_
  obtain ⟨r1, h2, hf⟩ := bd_some hf
  refine s_callVi (As := []) (rest := []) F I (cC_TX_isFull G E Dd P Z r1 h2) kX10_37 ⟨rfl, rfl⟩ ⟨Nat.le_trans (Nat.le_of_ble_eq_true rfl) hRf, Nat.le_trans (Nat.le_of_ble_eq_true rfl) hRl⟩ (6) 10 rfl rfl rfl rfl rfl hl.1 (Nat.le_of_ble_eq_true rfl) ⟨Nat.zero_le _, Nat.zero_le _⟩ dX10_put_1 ?_
  intro H_3 lo_3 I_3
  refine lv_if_ne (tgt := 27) hx hb dX10_put_4 (by decide) (fun c9 => ?_) (fun c9 => ?_)
  · replace hf := (if_neg c9).symm.trans hf
    cases hf
    exact ret H_3 lo_3 _ ls I_3 dX10_put_27
  · replace hf := (if_pos c9).symm.trans hf
    refine lv_aload_n hx hb dX10_put_7 rfl (lv_at hl 0 rfl) ?_
    refine kgtX10_9_6 F I_3 dX10_put_8 ?_
    refine lv_aload_n hx hb dX10_put_11 rfl (lv_at hl 0 rfl) ?_
    refine kgtX10_15_6 F I_3 dX10_put_12 ?_
    refine lv_iload_n hx hb dX10_put_15 rfl (lv_at hl 1 rfl) ?_
    obtain ⟨g4, hf⟩ := ri_some hf
    refine kas7 F I_3 g4 dX10_put_16 ?_
    intro H_6 lo_6 G5 eG5 I_6
    replace hf := nm_some eG5 hf
    refine lv_aload_n hx hb dX10_put_17 rfl (lv_at hl 0 rfl) ?_
    refine lv_dup hx hb dX10_put_18 rfl ?_
    refine kgtX10_15_6 F I_6 dX10_put_19 ?_
    refine lv_iconst (v := (1 : Int32)) hx hb dX10_put_22 (by decide) ?_
    refine lv_iadd hx hb dX10_put_23 ?_
    refine kptX10_15_6 F I_6 dX10_put_24 ?_
    intro H_8 lo_8 G7 eG7 I_8
    replace hf := nm_some eG7 hf
    cases hf
    exact ret H_8 lo_8 _ ls I_8 dX10_put_27
def C_TX_codeAt (G : Nat → Nat → Int32) (a0 : Int32) : Option (Int32) :=
if a0 < 0 then
(some (0 : Int32))
else
(if G 9 0 ≤ a0 then
(some (0 : Int32))
else
(ri 60 a0 <|
some (G 8 a0.toNatClampNeg)))
set_option maxRecDepth 100000 in
set_option maxHeartbeats 4000000 in
theorem cC_TX_codeAt (G : Nat → Nat → Int32) (E : Nat → Nat → Int64) (Dd : Nat → Nat → UInt64) (P : Nat → Option PRec) (Z : List PRec) (a0 : Int32) (rv : Int32)  (hf : C_TX_codeAt G a0 = some rv) : sMi D (cT cI cJ cD cS) (cW ad cI cJ cD cS) l yX10_codeAt (ws1 yX10_codeAt cX10_codeAt 2 (some .int)) ({ frames := 0, cells := 0, slots := 0, locals := 0 }) [.ref (ad 6), .int a0] (G, E, Dd, P, Z) (rv, (G, E, Dd, P, Z)) := by
  unfold C_TX_codeAt at hf
  refine sMi_of (by decide) (Nat.le_of_ble_eq_true rfl) ?_
  intro p e R s m args below meth c A Q ls H lo F hRf hRl I hl ret
  obtain ⟨hx, hb, hml, hown, hG⟩ := id F
  replace hl : lv_has ls 2 [(0, .ref (ad 6)), (1, .int a0)] := hl
  refine lv_iload_n hx hb dX10_codeAt_0 rfl (lv_at hl 1 rfl) ?_
  refine lv_if_lt (tgt := 21) hx hb dX10_codeAt_1 (by decide) (fun c3 => ?_) (fun c3 => ?_)
  · replace hf := (if_pos c3).symm.trans hf
    refine lv_iconst (v := (0 : Int32)) hx hb dX10_codeAt_21 (by decide) ?_
    cases hf
    exact ret H lo _ ls I dX10_codeAt_22
  · replace hf := (if_neg c3).symm.trans hf
    refine lv_iload_n hx hb dX10_codeAt_4 rfl (lv_at hl 1 rfl) ?_
    refine lv_aload_n hx hb dX10_codeAt_5 rfl (lv_at hl 0 rfl) ?_
    refine kgtX10_15_6 F I dX10_codeAt_6 ?_
    refine lv_icmp_ge (tgt := 21) hx hb dX10_codeAt_9 (by decide) (fun c2 => ?_) (fun c2 => ?_)
    · replace hf := (if_pos c2).symm.trans hf
      refine lv_iconst (v := (0 : Int32)) hx hb dX10_codeAt_21 (by decide) ?_
      cases hf
      exact ret H lo _ ls I dX10_codeAt_22
    · replace hf := (if_neg c2).symm.trans hf
      refine lv_aload_n hx hb dX10_codeAt_12 rfl (lv_at hl 0 rfl) ?_
      refine kgtX10_9_6 F I dX10_codeAt_13 ?_
      refine lv_iload_n hx hb dX10_codeAt_16 rfl (lv_at hl 1 rfl) ?_
      obtain ⟨g1, hf⟩ := ri_some hf
      refine kal7 F I g1 dX10_codeAt_17 ?_
      refine lv_goto (tgt := 22) hx hb dX10_codeAt_18 (by decide) ?_
      cases hf
      exact ret H lo _ ls I dX10_codeAt_22
def C_TX_foundAt (G : Nat → Nat → Int32) (a0 : Int32) : Option (Int32) :=
if a0 < 0 then
(some (0 : Int32))
else
(if G 11 0 ≤ a0 then
(some (0 : Int32))
else
(ri 15 a0 <|
some (G 10 a0.toNatClampNeg)))
set_option maxRecDepth 100000 in
set_option maxHeartbeats 4000000 in
theorem cC_TX_foundAt (G : Nat → Nat → Int32) (E : Nat → Nat → Int64) (Dd : Nat → Nat → UInt64) (P : Nat → Option PRec) (Z : List PRec) (a0 : Int32) (rv : Int32)  (hf : C_TX_foundAt G a0 = some rv) : sMi D (cT cI cJ cD cS) (cW ad cI cJ cD cS) l yX10_foundAt (ws1 yX10_foundAt cX10_foundAt 2 (some .int)) ({ frames := 0, cells := 0, slots := 0, locals := 0 }) [.ref (ad 6), .int a0] (G, E, Dd, P, Z) (rv, (G, E, Dd, P, Z)) := by
  unfold C_TX_foundAt at hf
  refine sMi_of (by decide) (Nat.le_of_ble_eq_true rfl) ?_
  intro p e R s m args below meth c A Q ls H lo F hRf hRl I hl ret
  obtain ⟨hx, hb, hml, hown, hG⟩ := id F
  replace hl : lv_has ls 2 [(0, .ref (ad 6)), (1, .int a0)] := hl
  refine lv_iload_n hx hb dX10_foundAt_0 rfl (lv_at hl 1 rfl) ?_
  refine lv_if_lt (tgt := 21) hx hb dX10_foundAt_1 (by decide) (fun c3 => ?_) (fun c3 => ?_)
  · replace hf := (if_pos c3).symm.trans hf
    refine lv_iconst (v := (0 : Int32)) hx hb dX10_foundAt_21 (by decide) ?_
    cases hf
    exact ret H lo _ ls I dX10_foundAt_22
  · replace hf := (if_neg c3).symm.trans hf
    refine lv_iload_n hx hb dX10_foundAt_4 rfl (lv_at hl 1 rfl) ?_
    refine lv_aload_n hx hb dX10_foundAt_5 rfl (lv_at hl 0 rfl) ?_
    refine kgtX10_22_6 F I dX10_foundAt_6 ?_
    refine lv_icmp_ge (tgt := 21) hx hb dX10_foundAt_9 (by decide) (fun c2 => ?_) (fun c2 => ?_)
    · replace hf := (if_pos c2).symm.trans hf
      refine lv_iconst (v := (0 : Int32)) hx hb dX10_foundAt_21 (by decide) ?_
      cases hf
      exact ret H lo _ ls I dX10_foundAt_22
    · replace hf := (if_neg c2).symm.trans hf
      refine lv_aload_n hx hb dX10_foundAt_12 rfl (lv_at hl 0 rfl) ?_
      refine kgtX10_19_6 F I dX10_foundAt_13 ?_
      refine lv_iload_n hx hb dX10_foundAt_16 rfl (lv_at hl 1 rfl) ?_
      obtain ⟨g1, hf⟩ := ri_some hf
      refine kal8 F I g1 dX10_foundAt_17 ?_
      refine lv_goto (tgt := 22) hx hb dX10_foundAt_18 (by decide) ?_
      cases hf
      exact ret H lo _ ls I dX10_foundAt_22
def C_TX_answerOfSign (a0 : Int32) : Option (Int32) :=
if a0 = (60 : Int32) then
(some (2 : Int32))
else if a0 = (61 : Int32) then
(some (0 : Int32))
else if a0 = (62 : Int32) then
(some (1 : Int32))
else (some (-1 : Int32))
set_option maxRecDepth 100000 in
set_option maxHeartbeats 4000000 in
theorem cC_TX_answerOfSign (G : Nat → Nat → Int32) (E : Nat → Nat → Int64) (Dd : Nat → Nat → UInt64) (P : Nat → Option PRec) (Z : List PRec) (a0 : Int32) (rv : Int32)  (hf : C_TX_answerOfSign a0 = some rv) : sMi D (cT cI cJ cD cS) (cW ad cI cJ cD cS) l yX10_answerOfSign (ws1 yX10_answerOfSign cX10_answerOfSign 1 (some .int)) ({ frames := 0, cells := 0, slots := 0, locals := 0 }) [.int a0] (G, E, Dd, P, Z) (rv, (G, E, Dd, P, Z)) := by
  unfold C_TX_answerOfSign at hf
  refine sMi_of (by decide) (Nat.le_of_ble_eq_true rfl) ?_
  intro p e R s m args below meth c A Q ls H lo F hRf hRl I hl ret
  obtain ⟨hx, hb, hml, hown, hG⟩ := id F
  replace hl : lv_has ls 1 [(0, .int a0)] := hl
  refine lv_iload_n hx hb dX10_answerOfSign_0 rfl (lv_at hl 0 rfl) ?_
  by_cases c1 : a0 = (60 : Int32)
  · replace hf := (if_pos c1).symm.trans hf
    refine lv_tableIn (off := 29) (tgt := 30) hx hb dX10_answerOfSign_1 (by rw [c1]; decide) (by rw [c1]; decide) (by rw [c1]; rfl) (by decide) ?_
    refine lv_iconst (v := (2 : Int32)) hx hb dX10_answerOfSign_30 (by decide) ?_
    cases hf
    exact ret H lo _ ls I dX10_answerOfSign_31
  replace hf := (if_neg c1).symm.trans hf
  by_cases c2 : a0 = (61 : Int32)
  · replace hf := (if_pos c2).symm.trans hf
    refine lv_tableIn (off := 31) (tgt := 32) hx hb dX10_answerOfSign_1 (by rw [c2]; decide) (by rw [c2]; decide) (by rw [c2]; rfl) (by decide) ?_
    refine lv_iconst (v := (0 : Int32)) hx hb dX10_answerOfSign_32 (by decide) ?_
    cases hf
    exact ret H lo _ ls I dX10_answerOfSign_33
  replace hf := (if_neg c2).symm.trans hf
  by_cases c3 : a0 = (62 : Int32)
  · replace hf := (if_pos c3).symm.trans hf
    refine lv_tableIn (off := 27) (tgt := 28) hx hb dX10_answerOfSign_1 (by rw [c3]; decide) (by rw [c3]; decide) (by rw [c3]; rfl) (by decide) ?_
    refine lv_iconst (v := (1 : Int32)) hx hb dX10_answerOfSign_28 (by decide) ?_
    cases hf
    exact ret H lo _ ls I dX10_answerOfSign_29
  replace hf := (if_neg c3).symm.trans hf
  refine lv_tableOut (tgt := 34) hx hb dX10_answerOfSign_1 (tsw60_62 c1 c2 c3) (by decide) ?_
  refine lv_iconst (v := (-1 : Int32)) hx hb dX10_answerOfSign_34 (by decide) ?_
  cases hf
  exact ret H lo _ ls I dX10_answerOfSign_35
def C_TX_takesSecond (G : Nat → Nat → Int32) (a0 : Int32) (a1 : Int32) : Option (Int32 × (Nat → Nat → Int32)) :=
if a0 < 0 then
(some ((0 : Int32), G))
else
(if a1 ≤ a0 then
(some ((0 : Int32), G))
else
(if a0 = G 14 0 then
(some ((0 : Int32), G))
else
(if G 11 0 < (15 : Int32) then
(nm (C_CO_packed (G 13 0) (G 14 0) a0 (G 15 0)) fun r1 =>
ri 15 (G 11 0) <|
nm (wr G 10 (G 11 0) r1) fun G5 =>
nm (wf G5 11 ((G5 11 0) + (1 : Int32))) fun G7 =>
some ((1 : Int32), G7))
else
(some ((0 : Int32), G)))))
set_option maxRecDepth 100000 in
set_option maxHeartbeats 4000000 in
theorem cC_TX_takesSecond (G : Nat → Nat → Int32) (E : Nat → Nat → Int64) (Dd : Nat → Nat → UInt64) (P : Nat → Option PRec) (Z : List PRec) (a0 : Int32) (a1 : Int32) (rv : Int32) (newG : Nat → Nat → Int32) (hf : C_TX_takesSecond G a0 a1 = some (rv, newG)) : sMi D (cT cI cJ cD cS) (cW ad cI cJ cD cS) l yX10_takesSecond (ws1 yX10_takesSecond cX10_takesSecond 3 (some .boolean)) ({ frames := 1, cells := 0, slots := 0, locals := 23 }) [.ref (ad 6), .int a0, .int a1] (G, E, Dd, P, Z) (rv, (newG, E, Dd, P, Z)) := by
  unfold C_TX_takesSecond at hf
  refine sMz_of (by decide) (Nat.le_of_ble_eq_true rfl) ?_
  intro p e R s m args below meth c A Q ls H lo F hRf hRl I hl ret
  obtain ⟨hx, hb, hml, hown, hG⟩ := id F
  replace hl : lv_has ls 3 [(0, .ref (ad 6)), (1, .int a0), (2, .int a1)] := hl
  refine lv_iload_n hx hb dX10_takesSecond_0 rfl (lv_at hl 1 rfl) ?_
  refine lv_if_lt (tgt := 29) hx hb dX10_takesSecond_1 (by decide) (fun c12 => ?_) (fun c12 => ?_)
  · replace hf := (if_pos c12).symm.trans hf
    refine lv_iconst (v := (0 : Int32)) hx hb dX10_takesSecond_29 (by decide) ?_
    cases hf
    exact ret H lo _ ls I (Or.inl rfl) dX10_takesSecond_30
  · replace hf := (if_neg c12).symm.trans hf
    refine lv_iload_n hx hb dX10_takesSecond_4 rfl (lv_at hl 1 rfl) ?_
    refine lv_iload_n hx hb dX10_takesSecond_5 rfl (lv_at hl 2 rfl) ?_
    refine lv_icmp_ge (tgt := 29) hx hb dX10_takesSecond_6 (by decide) (fun c11 => ?_) (fun c11 => ?_)
    · replace hf := (if_pos c11).symm.trans hf
      refine lv_iconst (v := (0 : Int32)) hx hb dX10_takesSecond_29 (by decide) ?_
      cases hf
      exact ret H lo _ ls I (Or.inl rfl) dX10_takesSecond_30
    · replace hf := (if_neg c11).symm.trans hf
      refine lv_iload_n hx hb dX10_takesSecond_9 rfl (lv_at hl 1 rfl) ?_
      refine lv_aload_n hx hb dX10_takesSecond_10 rfl (lv_at hl 0 rfl) ?_
      refine kgtX10_31_6 F I dX10_takesSecond_11 ?_
      refine lv_icmp_eq (tgt := 29) hx hb dX10_takesSecond_14 (by decide) (fun c10 => ?_) (fun c10 => ?_)
      · replace hf := (if_pos c10).symm.trans hf
        refine lv_iconst (v := (0 : Int32)) hx hb dX10_takesSecond_29 (by decide) ?_
        cases hf
        exact ret H lo _ ls I (Or.inl rfl) dX10_takesSecond_30
      · replace hf := (if_neg c10).symm.trans hf
        refine lv_aload_n hx hb dX10_takesSecond_17 rfl (lv_at hl 0 rfl) ?_
        refine kgtX10_22_6 F I dX10_takesSecond_18 ?_
        refine lv_aload_n hx hb dX10_takesSecond_21 rfl (lv_at hl 0 rfl) ?_
        refine kgtX10_19_6 F I dX10_takesSecond_22 ?_
        refine kln8 F I dX10_takesSecond_25 ?_
        refine lv_icmp_lt (tgt := 31) hx hb dX10_takesSecond_26 (by decide) (fun c9 => ?_) (fun c9 => ?_)
        · replace hf := (if_pos c9).symm.trans hf
          refine lv_aload_n hx hb dX10_takesSecond_31 rfl (lv_at hl 0 rfl) ?_
          refine kgtX10_19_6 F I dX10_takesSecond_32 ?_
          refine lv_aload_n hx hb dX10_takesSecond_35 rfl (lv_at hl 0 rfl) ?_
          refine kgtX10_22_6 F I dX10_takesSecond_36 ?_
          refine lv_aload_n hx hb dX10_takesSecond_39 rfl (lv_at hl 0 rfl) ?_
          refine kgtX10_28_6 F I dX10_takesSecond_40 ?_
          refine lv_aload_n hx hb dX10_takesSecond_43 rfl (lv_at hl 0 rfl) ?_
          refine kgtX10_31_6 F I dX10_takesSecond_44 ?_
          refine lv_iload_n hx hb dX10_takesSecond_47 rfl (lv_at hl 1 rfl) ?_
          refine lv_aload_n hx hb dX10_takesSecond_48 rfl (lv_at hl 0 rfl) ?_
          refine kgtX10_34_6 F I dX10_takesSecond_49 ?_
          obtain ⟨r1, h2⟩ : ∃ z, z = C_CO_packed (G 13 0) (G 14 0) a0 (G 15 0) := ⟨_, rfl⟩
          replace hf := nm_some h2 hf
          refine s_callSi (As := [.int (G 13 0), .int (G 14 0), .int a0, .int (G 15 0)]) (rest := [.int (G 11 0), .ref (ad 8)]) F I (cC_CO_packed G E Dd P Z (G 13 0) (G 14 0) a0 (G 15 0) r1 h2) kX10_57 ⟨rfl, rfl⟩ ⟨Nat.le_trans (Nat.le_of_ble_eq_true rfl) hRf, Nat.le_trans (Nat.le_of_ble_eq_true rfl) hRl⟩ rfl rfl hl.1 (Nat.le_of_ble_eq_true rfl) ⟨Nat.zero_le _, Nat.zero_le _⟩ dX10_takesSecond_52 ?_
          intro H_3 lo_3 I_3
          obtain ⟨g4, hf⟩ := ri_some hf
          refine kas8 F I_3 g4 dX10_takesSecond_55 ?_
          intro H_6 lo_6 G5 eG5 I_6
          replace hf := nm_some eG5 hf
          refine lv_aload_n hx hb dX10_takesSecond_56 rfl (lv_at hl 0 rfl) ?_
          refine lv_dup hx hb dX10_takesSecond_57 rfl ?_
          refine kgtX10_22_6 F I_6 dX10_takesSecond_58 ?_
          refine lv_iconst (v := (1 : Int32)) hx hb dX10_takesSecond_61 (by decide) ?_
          refine lv_iadd hx hb dX10_takesSecond_62 ?_
          refine kptX10_22_6 F I_6 dX10_takesSecond_63 ?_
          intro H_8 lo_8 G7 eG7 I_8
          replace hf := nm_some eG7 hf
          refine lv_iconst (v := (1 : Int32)) hx hb dX10_takesSecond_66 (by decide) ?_
          cases hf
          exact ret H_8 lo_8 _ ls I_8 (Or.inr rfl) dX10_takesSecond_67
        · replace hf := (if_neg c9).symm.trans hf
          refine lv_iconst (v := (0 : Int32)) hx hb dX10_takesSecond_29 (by decide) ?_
          cases hf
          exact ret H lo _ ls I (Or.inl rfl) dX10_takesSecond_30
def C_TX_takes (G : Nat → Nat → Int32) (a0 : Int32) (a1 : Int32) (a2 : Int32) : Option (Int32 × (Nat → Nat → Int32)) :=
nm (G 12 0 : Int32) fun x1 =>
if x1 = (0 : Int32) then
(nm (wf G 13 (a0 - (48 : Int32))) fun G3 =>
nm (wf G3 12 (1 : Int32)) fun G5 =>
if G5 13 0 < 0 then
(some ((0 : Int32), G5))
else
(if a2 ≤ G5 13 0 then
(some ((0 : Int32), G5))
else
(some ((1 : Int32), G5))))
else if x1 = (1 : Int32) then
(nm (wf G 12 (2 : Int32)) fun G10 =>
if a0 = (58 : Int32) then
(some ((1 : Int32), G10))
else
(some ((0 : Int32), G10)))
else if x1 = (2 : Int32) then
(nm (wf G 14 (a0 - (97 : Int32))) fun G14 =>
nm (wf G14 12 (3 : Int32)) fun G16 =>
if G16 14 0 < 0 then
(some ((0 : Int32), G16))
else
(if a1 ≤ G16 14 0 then
(some ((0 : Int32), G16))
else
(some ((1 : Int32), G16))))
else if x1 = (3 : Int32) then
(bd (C_TX_answerOfSign a0) fun r21 =>
nm (wf G 15 r21) fun G24 =>
nm (wf G24 12 (4 : Int32)) fun G26 =>
if G26 15 0 = (-1 : Int32) then
(some ((0 : Int32), G26))
else
(some ((1 : Int32), G26)))
else if x1 = (4 : Int32) then
(nm (wf G 12 (5 : Int32)) fun G30 =>
bd2 (C_TX_takesSecond G30 (a0 - (97 : Int32)) a1) fun r32 G33 =>
gd (r32 = 0 ∨ r32 = 1) <|
some (r32, G33))
else (bd (if a0 = (44 : Int32) then
(some (2 : Int32))
else
(some (0 : Int32))) fun x38 =>
nm (wf G 12 x38) fun G42 =>
if a0 = (44 : Int32) then
(some ((1 : Int32), G42))
else
(if a0 = (59 : Int32) then
(some ((1 : Int32), G42))
else
(some ((0 : Int32), G42))))
set_option maxRecDepth 100000 in
set_option maxHeartbeats 4000000 in
theorem cC_TX_takes (G : Nat → Nat → Int32) (E : Nat → Nat → Int64) (Dd : Nat → Nat → UInt64) (P : Nat → Option PRec) (Z : List PRec) (a0 : Int32) (a1 : Int32) (a2 : Int32) (rv : Int32) (newG : Nat → Nat → Int32) (hf : C_TX_takes G a0 a1 a2 = some (rv, newG)) : sMi D (cT cI cJ cD cS) (cW ad cI cJ cD cS) l yX10_takes (ws1 yX10_takes cX10_takes 4 (some .boolean)) ({ frames := 2, cells := 0, slots := 0, locals := 45 }) [.ref (ad 6), .int a0, .int a1, .int a2] (G, E, Dd, P, Z) (rv, (newG, E, Dd, P, Z)) := by
  unfold C_TX_takes at hf
  refine sMz_of (by decide) (Nat.le_of_ble_eq_true rfl) ?_
  intro p e R s m args below meth c A Q ls H lo F hRf hRl I hl ret
  obtain ⟨hx, hb, hml, hown, hG⟩ := id F
  replace hl : lv_has ls 4 [(0, .ref (ad 6)), (1, .int a0), (2, .int a1), (3, .int a2)] := hl
  refine lv_aload_n hx hb dX10_takes_0 rfl (lv_at hl 0 rfl) ?_
  refine kgtX10_25_6 F I dX10_takes_1 ?_
  refine lv_topi (fun x1 ex1 => ?_)
  replace hf := nm_some ex1 hf
  by_cases c2 : x1 = (0 : Int32)
  · replace hf := (if_pos c2).symm.trans hf
    refine lv_tableIn (off := 36) (tgt := 40) hx hb dX10_takes_4 (by rw [c2]; decide) (by rw [c2]; decide) (by rw [c2]; rfl) (by decide) ?_
    refine lv_aload_n hx hb dX10_takes_40 rfl (lv_at hl 0 rfl) ?_
    refine lv_iload_n hx hb dX10_takes_41 rfl (lv_at hl 1 rfl) ?_
    refine lv_bipush (v := (48 : Int32)) hx hb dX10_takes_42 (by decide) ?_
    refine lv_isub hx hb dX10_takes_44 ?_
    refine kptX10_28_6 F I dX10_takes_45 ?_
    intro H_4 lo_4 G3 eG3 I_4
    replace hf := nm_some eG3 hf
    refine lv_aload_n hx hb dX10_takes_48 rfl (lv_at hl 0 rfl) ?_
    refine lv_iconst (v := (1 : Int32)) hx hb dX10_takes_49 (by decide) ?_
    refine kptX10_25_6 F I_4 dX10_takes_50 ?_
    intro H_6 lo_6 G5 eG5 I_6
    replace hf := nm_some eG5 hf
    refine lv_aload_n hx hb dX10_takes_53 rfl (lv_at hl 0 rfl) ?_
    refine kgtX10_28_6 F I_6 dX10_takes_54 ?_
    refine lv_if_lt (tgt := 72) hx hb dX10_takes_57 (by decide) (fun c8 => ?_) (fun c8 => ?_)
    · replace hf := (if_pos c8).symm.trans hf
      refine lv_iconst (v := (0 : Int32)) hx hb dX10_takes_72 (by decide) ?_
      cases hf
      exact ret H_6 lo_6 _ ls I_6 (Or.inl rfl) dX10_takes_73
    · replace hf := (if_neg c8).symm.trans hf
      refine lv_aload_n hx hb dX10_takes_60 rfl (lv_at hl 0 rfl) ?_
      refine kgtX10_28_6 F I_6 dX10_takes_61 ?_
      refine lv_iload_n hx hb dX10_takes_64 rfl (lv_at hl 3 rfl) ?_
      refine lv_icmp_ge (tgt := 72) hx hb dX10_takes_65 (by decide) (fun c7 => ?_) (fun c7 => ?_)
      · replace hf := (if_pos c7).symm.trans hf
        refine lv_iconst (v := (0 : Int32)) hx hb dX10_takes_72 (by decide) ?_
        cases hf
        exact ret H_6 lo_6 _ ls I_6 (Or.inl rfl) dX10_takes_73
      · replace hf := (if_neg c7).symm.trans hf
        refine lv_iconst (v := (1 : Int32)) hx hb dX10_takes_68 (by decide) ?_
        refine lv_goto (tgt := 73) hx hb dX10_takes_69 (by decide) ?_
        cases hf
        exact ret H_6 lo_6 _ ls I_6 (Or.inr rfl) dX10_takes_73
  replace hf := (if_neg c2).symm.trans hf
  by_cases c9 : x1 = (1 : Int32)
  · replace hf := (if_pos c9).symm.trans hf
    refine lv_tableIn (off := 70) (tgt := 74) hx hb dX10_takes_4 (by rw [c9]; decide) (by rw [c9]; decide) (by rw [c9]; rfl) (by decide) ?_
    refine lv_aload_n hx hb dX10_takes_74 rfl (lv_at hl 0 rfl) ?_
    refine lv_iconst (v := (2 : Int32)) hx hb dX10_takes_75 (by decide) ?_
    refine kptX10_25_6 F I dX10_takes_76 ?_
    intro H_11 lo_11 G10 eG10 I_11
    replace hf := nm_some eG10 hf
    refine lv_iload_n hx hb dX10_takes_79 rfl (lv_at hl 1 rfl) ?_
    refine lv_bipush (v := (58 : Int32)) hx hb dX10_takes_80 (by decide) ?_
    refine lv_icmp_ne (tgt := 89) hx hb dX10_takes_82 (by decide) (fun c12 => ?_) (fun c12 => ?_)
    · replace hf := (if_neg c12).symm.trans hf
      refine lv_iconst (v := (0 : Int32)) hx hb dX10_takes_89 (by decide) ?_
      cases hf
      exact ret H_11 lo_11 _ ls I_11 (Or.inl rfl) dX10_takes_90
    · replace hf := (if_pos c12).symm.trans hf
      refine lv_iconst (v := (1 : Int32)) hx hb dX10_takes_85 (by decide) ?_
      refine lv_goto (tgt := 90) hx hb dX10_takes_86 (by decide) ?_
      cases hf
      exact ret H_11 lo_11 _ ls I_11 (Or.inr rfl) dX10_takes_90
  replace hf := (if_neg c9).symm.trans hf
  by_cases c13 : x1 = (2 : Int32)
  · replace hf := (if_pos c13).symm.trans hf
    refine lv_tableIn (off := 87) (tgt := 91) hx hb dX10_takes_4 (by rw [c13]; decide) (by rw [c13]; decide) (by rw [c13]; rfl) (by decide) ?_
    refine lv_aload_n hx hb dX10_takes_91 rfl (lv_at hl 0 rfl) ?_
    refine lv_iload_n hx hb dX10_takes_92 rfl (lv_at hl 1 rfl) ?_
    refine lv_bipush (v := (97 : Int32)) hx hb dX10_takes_93 (by decide) ?_
    refine lv_isub hx hb dX10_takes_95 ?_
    refine kptX10_31_6 F I dX10_takes_96 ?_
    intro H_15 lo_15 G14 eG14 I_15
    replace hf := nm_some eG14 hf
    refine lv_aload_n hx hb dX10_takes_99 rfl (lv_at hl 0 rfl) ?_
    refine lv_iconst (v := (3 : Int32)) hx hb dX10_takes_100 (by decide) ?_
    refine kptX10_25_6 F I_15 dX10_takes_101 ?_
    intro H_17 lo_17 G16 eG16 I_17
    replace hf := nm_some eG16 hf
    refine lv_aload_n hx hb dX10_takes_104 rfl (lv_at hl 0 rfl) ?_
    refine kgtX10_31_6 F I_17 dX10_takes_105 ?_
    refine lv_if_lt (tgt := 123) hx hb dX10_takes_108 (by decide) (fun c19 => ?_) (fun c19 => ?_)
    · replace hf := (if_pos c19).symm.trans hf
      refine lv_iconst (v := (0 : Int32)) hx hb dX10_takes_123 (by decide) ?_
      cases hf
      exact ret H_17 lo_17 _ ls I_17 (Or.inl rfl) dX10_takes_124
    · replace hf := (if_neg c19).symm.trans hf
      refine lv_aload_n hx hb dX10_takes_111 rfl (lv_at hl 0 rfl) ?_
      refine kgtX10_31_6 F I_17 dX10_takes_112 ?_
      refine lv_iload_n hx hb dX10_takes_115 rfl (lv_at hl 2 rfl) ?_
      refine lv_icmp_ge (tgt := 123) hx hb dX10_takes_116 (by decide) (fun c18 => ?_) (fun c18 => ?_)
      · replace hf := (if_pos c18).symm.trans hf
        refine lv_iconst (v := (0 : Int32)) hx hb dX10_takes_123 (by decide) ?_
        cases hf
        exact ret H_17 lo_17 _ ls I_17 (Or.inl rfl) dX10_takes_124
      · replace hf := (if_neg c18).symm.trans hf
        refine lv_iconst (v := (1 : Int32)) hx hb dX10_takes_119 (by decide) ?_
        refine lv_goto (tgt := 124) hx hb dX10_takes_120 (by decide) ?_
        cases hf
        exact ret H_17 lo_17 _ ls I_17 (Or.inr rfl) dX10_takes_124
  replace hf := (if_neg c13).symm.trans hf
  by_cases c20 : x1 = (3 : Int32)
  · replace hf := (if_pos c20).symm.trans hf
    refine lv_tableIn (off := 121) (tgt := 125) hx hb dX10_takes_4 (by rw [c20]; decide) (by rw [c20]; decide) (by rw [c20]; rfl) (by decide) ?_
    refine lv_aload_n hx hb dX10_takes_125 rfl (lv_at hl 0 rfl) ?_
    refine lv_iload_n hx hb dX10_takes_126 rfl (lv_at hl 1 rfl) ?_
    obtain ⟨r21, h22, hf⟩ := bd_some hf
    refine s_callSi (As := [.int a0]) (rest := [.ref (ad 6)]) F I (cC_TX_answerOfSign G E Dd P Z a0 r21 h22) kX10_49 ⟨rfl, rfl⟩ ⟨Nat.le_trans (Nat.le_of_ble_eq_true rfl) hRf, Nat.le_trans (Nat.le_of_ble_eq_true rfl) hRl⟩ rfl rfl hl.1 (Nat.le_of_ble_eq_true rfl) ⟨Nat.zero_le _, Nat.zero_le _⟩ dX10_takes_127 ?_
    intro H_23 lo_23 I_23
    refine kptX10_34_6 F I_23 dX10_takes_130 ?_
    intro H_25 lo_25 G24 eG24 I_25
    replace hf := nm_some eG24 hf
    refine lv_aload_n hx hb dX10_takes_133 rfl (lv_at hl 0 rfl) ?_
    refine lv_iconst (v := (4 : Int32)) hx hb dX10_takes_134 (by decide) ?_
    refine kptX10_25_6 F I_25 dX10_takes_135 ?_
    intro H_27 lo_27 G26 eG26 I_27
    replace hf := nm_some eG26 hf
    refine lv_aload_n hx hb dX10_takes_138 rfl (lv_at hl 0 rfl) ?_
    refine kgtX10_34_6 F I_27 dX10_takes_139 ?_
    refine lv_iconst (v := (-1 : Int32)) hx hb dX10_takes_142 (by decide) ?_
    refine lv_icmp_eq (tgt := 150) hx hb dX10_takes_143 (by decide) (fun c28 => ?_) (fun c28 => ?_)
    · replace hf := (if_pos c28).symm.trans hf
      refine lv_iconst (v := (0 : Int32)) hx hb dX10_takes_150 (by decide) ?_
      cases hf
      exact ret H_27 lo_27 _ ls I_27 (Or.inl rfl) dX10_takes_151
    · replace hf := (if_neg c28).symm.trans hf
      refine lv_iconst (v := (1 : Int32)) hx hb dX10_takes_146 (by decide) ?_
      refine lv_goto (tgt := 151) hx hb dX10_takes_147 (by decide) ?_
      cases hf
      exact ret H_27 lo_27 _ ls I_27 (Or.inr rfl) dX10_takes_151
  replace hf := (if_neg c20).symm.trans hf
  by_cases c29 : x1 = (4 : Int32)
  · replace hf := (if_pos c29).symm.trans hf
    refine lv_tableIn (off := 148) (tgt := 152) hx hb dX10_takes_4 (by rw [c29]; decide) (by rw [c29]; decide) (by rw [c29]; rfl) (by decide) ?_
    refine lv_aload_n hx hb dX10_takes_152 rfl (lv_at hl 0 rfl) ?_
    refine lv_iconst (v := (5 : Int32)) hx hb dX10_takes_153 (by decide) ?_
    refine kptX10_25_6 F I dX10_takes_154 ?_
    intro H_31 lo_31 G30 eG30 I_31
    replace hf := nm_some eG30 hf
    refine lv_aload_n hx hb dX10_takes_157 rfl (lv_at hl 0 rfl) ?_
    refine lv_iload_n hx hb dX10_takes_158 rfl (lv_at hl 1 rfl) ?_
    refine lv_bipush (v := (97 : Int32)) hx hb dX10_takes_159 (by decide) ?_
    refine lv_isub hx hb dX10_takes_161 ?_
    refine lv_iload_n hx hb dX10_takes_162 rfl (lv_at hl 2 rfl) ?_
    obtain ⟨r32, G33, h34, hf⟩ := bd2_some hf
    refine s_callVi (As := [.int (a0 - (97 : Int32)), .int a1]) (rest := []) F I_31 (cC_TX_takesSecond G30 E Dd P Z (a0 - (97 : Int32)) a1 r32 G33 h34) kX10_53 ⟨rfl, rfl⟩ ⟨Nat.le_trans (Nat.le_of_ble_eq_true rfl) hRf, Nat.le_trans (Nat.le_of_ble_eq_true rfl) hRl⟩ (6) 10 rfl rfl rfl rfl rfl hl.1 (Nat.le_of_ble_eq_true rfl) ⟨Nat.zero_le _, Nat.zero_le _⟩ dX10_takes_163 ?_
    intro H_35 lo_35 I_35
    obtain ⟨g36, hf⟩ := gd_some hf
    cases hf
    exact ret H_35 lo_35 _ ls I_35 g36 dX10_takes_166
  replace hf := (if_neg c29).symm.trans hf
  refine lv_tableOut (tgt := 167) hx hb dX10_takes_4 (tsw4 c2 c9 c13 c20 c29) (by decide) ?_
  refine lv_aload_n hx hb dX10_takes_167 rfl (lv_at hl 0 rfl) ?_
  refine lv_iload_n hx hb dX10_takes_168 rfl (lv_at hl 1 rfl) ?_
  refine lv_bipush (v := (44 : Int32)) hx hb dX10_takes_169 (by decide) ?_
  obtain ⟨x38, hv46, hf⟩ := bd_some hf
  have J37 : ∀ (H : Heap) (locs : List Loc), sInv D (cT cI cJ cD cS) (cW ad cI cJ cD cS) A s H locs (G, E, Dd, P, Z) → ∀ (ls : Array Slot), lv_has ls 4 [(1, .int a0)] → W p l e R s m args below meth c H locs 0 0 Q (F0 m 179 ls [.int x38, .ref (ad 6)]) := by
    intro H_39 lo_39 I_39 ls_40 hl_40
    refine kptX10_25_6 F I_39 dX10_takes_179 ?_
    intro H_43 lo_43 G42 eG42 I_43
    replace hf := nm_some eG42 hf
    refine lv_iload_n hx hb dX10_takes_182 rfl (lv_at hl_40 0 rfl) ?_
    refine lv_bipush (v := (44 : Int32)) hx hb dX10_takes_183 (by decide) ?_
    refine lv_icmp_eq (tgt := 194) hx hb dX10_takes_185 (by decide) (fun c45 => ?_) (fun c45 => ?_)
    · replace hf := (if_pos c45).symm.trans hf
      refine lv_iconst (v := (1 : Int32)) hx hb dX10_takes_194 (by decide) ?_
      refine lv_goto (tgt := 199) hx hb dX10_takes_195 (by decide) ?_
      cases hf
      exact ret H_43 lo_43 _ ls_40 I_43 (Or.inr rfl) dX10_takes_199
    · replace hf := (if_neg c45).symm.trans hf
      refine lv_iload_n hx hb dX10_takes_188 rfl (lv_at hl_40 0 rfl) ?_
      refine lv_bipush (v := (59 : Int32)) hx hb dX10_takes_189 (by decide) ?_
      refine lv_icmp_ne (tgt := 198) hx hb dX10_takes_191 (by decide) (fun c44 => ?_) (fun c44 => ?_)
      · replace hf := (if_neg c44).symm.trans hf
        refine lv_iconst (v := (0 : Int32)) hx hb dX10_takes_198 (by decide) ?_
        cases hf
        exact ret H_43 lo_43 _ ls_40 I_43 (Or.inl rfl) dX10_takes_199
      · replace hf := (if_pos c44).symm.trans hf
        refine lv_iconst (v := (1 : Int32)) hx hb dX10_takes_194 (by decide) ?_
        refine lv_goto (tgt := 199) hx hb dX10_takes_195 (by decide) ?_
        cases hf
        exact ret H_43 lo_43 _ ls_40 I_43 (Or.inr rfl) dX10_takes_199
  replace hf := hv46
  refine lv_icmp_ne (tgt := 178) hx hb dX10_takes_171 (by decide) (fun c47 => ?_) (fun c47 => ?_)
  · replace hf := (if_neg c47).symm.trans hf
    refine lv_iconst (v := (0 : Int32)) hx hb dX10_takes_178 (by decide) ?_
    cases hf
    exact J37 H lo I ls (lv_sub hl [1] rfl)
  · replace hf := (if_pos c47).symm.trans hf
    refine lv_iconst (v := (2 : Int32)) hx hb dX10_takes_174 (by decide) ?_
    refine lv_goto (tgt := 179) hx hb dX10_takes_175 (by decide) ?_
    cases hf
    exact J37 H lo I ls (lv_sub hl [1] rfl)
def C_TX_scan_s1 (a0 : Int32) (a1 : Int32) (x6 : Int32) (G7 : Nat → Nat → Int32) : Option ((Int32 × (Nat → Nat → Int32)) ⊕ (Int32 × (Nat → Nat → Int32))) :=
if G7 9 0 ≤ x6 then
(some (.inr (G7 9 0, G7)))
else
(ri 60 x6 <|
bd2 (C_TX_takes G7 (G7 8 x6.toNatClampNeg) a0 a1) fun r12 G13 =>
if r12 = 0 then
(some (.inr (x6, G13)))
else
(nm (x6 + (1 : Int32) : Int32) fun x16 =>
some (.inl (x16, G13))))
def C_TX_scan (G : Nat → Nat → Int32) (a0 : Int32) (a1 : Int32) : Option (Int32 × (Nat → Nat → Int32)) :=
nm (wf G 11 (0 : Int32)) fun G1 =>
nm (wf G1 12 (0 : Int32)) fun G3 =>
lp (fun q => C_TX_scan_s1 a0 a1 q.1 q.2) FU ((0 : Int32), G3)
set_option maxRecDepth 100000 in
set_option maxHeartbeats 4000000 in
theorem cC_TX_scan (G : Nat → Nat → Int32) (E : Nat → Nat → Int64) (Dd : Nat → Nat → UInt64) (P : Nat → Option PRec) (Z : List PRec) (a0 : Int32) (a1 : Int32) (rv : Int32) (newG : Nat → Nat → Int32) (hf : C_TX_scan G a0 a1 = some (rv, newG)) : sMi D (cT cI cJ cD cS) (cW ad cI cJ cD cS) l yX10_scan (ws1 yX10_scan cX10_scan 4 (some .int)) ({ frames := 3, cells := 0, slots := 0, locals := 68 }) [.ref (ad 6), .int a0, .int a1] (G, E, Dd, P, Z) (rv, (newG, E, Dd, P, Z)) := by
  unfold C_TX_scan at hf
  refine sMi_of (by decide) (Nat.le_of_ble_eq_true rfl) ?_
  intro p e R s m args below meth c A Q ls H lo F hRf hRl I hl ret
  obtain ⟨hx, hb, hml, hown, hG⟩ := id F
  replace hl : lv_has ls 4 [(0, .ref (ad 6)), (1, .int a0), (2, .int a1)] := hl
  refine lv_aload_n hx hb dX10_scan_0 rfl (lv_at hl 0 rfl) ?_
  refine lv_iconst (v := (0 : Int32)) hx hb dX10_scan_1 (by decide) ?_
  refine kptX10_22_6 F I dX10_scan_2 ?_
  intro H_2 lo_2 G1 eG1 I_2
  replace hf := nm_some eG1 hf
  refine lv_aload_n hx hb dX10_scan_5 rfl (lv_at hl 0 rfl) ?_
  refine lv_iconst (v := (0 : Int32)) hx hb dX10_scan_6 (by decide) ?_
  refine kptX10_25_6 F I_2 dX10_scan_7 ?_
  intro H_4 lo_4 G3 eG3 I_4
  replace hf := nm_some eG3 hf
  refine lv_iconst (v := (0 : Int32)) hx hb dX10_scan_10 (by decide) ?_
  refine lv_istore_n (lv' := [(3, .int (0 : Int32)), (0, .ref (ad 6)), (1, .int a0), (2, .int a1)]) hx hb dX10_scan_11 rfl hl (by decide) rfl (fun ls_5 hl_5 => ?_)
  have hq1 : lp (fun q => C_TX_scan_s1 a0 a1 q.1 q.2) FU ((0 : Int32), G3) = some (rv, newG) := hf
  have L1 : ∀ (n : Nat) (x6 : Int32) (G7 : Nat → Nat → Int32), lp (fun q => C_TX_scan_s1 a0 a1 q.1 q.2) n (x6, G7) = some (rv, newG) → ∀ (H : Heap) (locs : List Loc), sInv D (cT cI cJ cD cS) (cW ad cI cJ cD cS) A s H locs (G7, E, Dd, P, Z) → ∀ (ls : Array Slot), lv_has ls 4 [(0, .ref (ad 6)), (1, .int a0), (2, .int a1), (3, .int x6)] → W p l e R s m args below meth c H locs 0 0 Q (F0 m 12 ls []) := by
    intro n
    induction n with
    | zero => intro x6 G7 hq; exact (lp_0 hq).elim
    | succ n ih1 =>
      intro x6 G7 hq H_8 lo_8 I_8 ls_9 hl_9
      obtain ⟨y1, hf, hK1⟩ := lp_go hq
      replace hf : C_TX_scan_s1 a0 a1 x6 G7 = some y1 := hf
      unfold C_TX_scan_s1 at hf
      refine lv_iload_n hx hb dX10_scan_12 rfl (lv_at hl_9 3 rfl) ?_
      refine lv_aload_n hx hb dX10_scan_13 rfl (lv_at hl_9 0 rfl) ?_
      refine kgtX10_15_6 F I_8 dX10_scan_14 ?_
      refine lv_icmp_ge (tgt := 43) hx hb dX10_scan_17 (by decide) (fun c19 => ?_) (fun c19 => ?_)
      · replace hf := (if_pos c19).symm.trans hf
        refine lv_aload_n hx hb dX10_scan_43 rfl (lv_at hl_9 0 rfl) ?_
        refine kgtX10_15_6 F I_8 dX10_scan_44 ?_
        cases hf
        have hf := congrArg some (show _ = _ from hK1)
        cases hf
        exact ret H_8 lo_8 _ ls_9 I_8 dX10_scan_47
      · replace hf := (if_neg c19).symm.trans hf
        refine lv_aload_n hx hb dX10_scan_20 rfl (lv_at hl_9 0 rfl) ?_
        refine lv_aload_n hx hb dX10_scan_21 rfl (lv_at hl_9 0 rfl) ?_
        refine kgtX10_9_6 F I_8 dX10_scan_22 ?_
        refine lv_iload_n hx hb dX10_scan_25 rfl (lv_at hl_9 3 rfl) ?_
        obtain ⟨g11, hf⟩ := ri_some hf
        refine kal7 F I_8 g11 dX10_scan_26 ?_
        refine lv_iload_n hx hb dX10_scan_27 rfl (lv_at hl_9 1 rfl) ?_
        refine lv_iload_n hx hb dX10_scan_28 rfl (lv_at hl_9 2 rfl) ?_
        obtain ⟨r12, G13, h14, hf⟩ := bd2_some hf
        refine s_callVi (As := [.int (G7 8 x6.toNatClampNeg), .int a0, .int a1]) (rest := []) F I_8 (cC_TX_takes G7 E Dd P Z (G7 8 x6.toNatClampNeg) a0 a1 r12 G13 h14) kX10_45 ⟨rfl, rfl⟩ ⟨Nat.le_trans (Nat.le_of_ble_eq_true rfl) hRf, Nat.le_trans (Nat.le_of_ble_eq_true rfl) hRl⟩ (6) 10 rfl rfl rfl rfl rfl hl_9.1 (Nat.le_of_ble_eq_true rfl) ⟨Nat.zero_le _, Nat.zero_le _⟩ dX10_scan_29 ?_
        intro H_15 lo_15 I_15
        refine lv_if_ne (tgt := 37) hx hb dX10_scan_32 (by decide) (fun c18 => ?_) (fun c18 => ?_)
        · replace hf := (if_neg c18).symm.trans hf
          obtain ⟨x16, ex16⟩ : ∃ y : Int32, y = x6 + (1 : Int32) := ⟨_, rfl⟩
          replace hf := nm_some ex16 hf
          refine lv_iinc (v := x16) (lv' := [(3, .int x16), (0, .ref (ad 6)), (1, .int a0), (2, .int a1)]) hx hb dX10_scan_37 hl_9 (k := 3) rfl (by rw [ex16]; rfl) (by decide) rfl (fun ls_17 hl_17 => ?_)
          refine lv_goto (tgt := 12) hx hb dX10_scan_40 (by decide) ?_
          cases hf
          exact ih1 _ _ hK1 H_15 lo_15 I_15 ls_17 (lv_sub hl_17 [1, 2, 3, 0] rfl)
        · replace hf := (if_pos c18).symm.trans hf
          refine lv_iload_n hx hb dX10_scan_35 rfl (lv_at hl_9 3 rfl) ?_
          cases hf
          have hf := congrArg some (show _ = _ from hK1)
          cases hf
          exact ret H_15 lo_15 _ ls_9 I_15 dX10_scan_36
  exact L1 FU _ _ hq1 H_4 lo_4 I_4 ls_5 (lv_sub hl_5 [1, 2, 3, 0] rfl)
def C_TX_isWhole (G : Nat → Nat → Int32) (a0 : Int32) (a1 : Int32) : Option (Int32 × (Nat → Nat → Int32)) :=
bd2 (C_TX_scan G a0 a1) fun r1 G2 =>
if r1 = G2 9 0 then
(if G2 12 0 = (5 : Int32) then
(some ((1 : Int32), G2))
else
(some ((0 : Int32), G2)))
else
(some ((0 : Int32), G2))
set_option maxRecDepth 100000 in
set_option maxHeartbeats 4000000 in
theorem cC_TX_isWhole (G : Nat → Nat → Int32) (E : Nat → Nat → Int64) (Dd : Nat → Nat → UInt64) (P : Nat → Option PRec) (Z : List PRec) (a0 : Int32) (a1 : Int32) (rv : Int32) (newG : Nat → Nat → Int32) (hf : C_TX_isWhole G a0 a1 = some (rv, newG)) : sMi D (cT cI cJ cD cS) (cW ad cI cJ cD cS) l yX10_isWhole (ws1 yX10_isWhole cX10_isWhole 3 (some .boolean)) ({ frames := 4, cells := 0, slots := 0, locals := 91 }) [.ref (ad 6), .int a0, .int a1] (G, E, Dd, P, Z) (rv, (newG, E, Dd, P, Z)) := by
  unfold C_TX_isWhole at hf
  refine sMz_of (by decide) (Nat.le_of_ble_eq_true rfl) ?_
  intro p e R s m args below meth c A Q ls H lo F hRf hRl I hl ret
  obtain ⟨hx, hb, hml, hown, hG⟩ := id F
  replace hl : lv_has ls 3 [(0, .ref (ad 6)), (1, .int a0), (2, .int a1)] := hl
  refine lv_aload_n hx hb dX10_isWhole_0 rfl (lv_at hl 0 rfl) ?_
  refine lv_iload_n hx hb dX10_isWhole_1 rfl (lv_at hl 1 rfl) ?_
  refine lv_iload_n hx hb dX10_isWhole_2 rfl (lv_at hl 2 rfl) ?_
  obtain ⟨r1, G2, h3, hf⟩ := bd2_some hf
  refine s_callVi (As := [.int a0, .int a1]) (rest := []) F I (cC_TX_scan G E Dd P Z a0 a1 r1 G2 h3) kX10_41 ⟨rfl, rfl⟩ ⟨Nat.le_trans (Nat.le_of_ble_eq_true rfl) hRf, Nat.le_trans (Nat.le_of_ble_eq_true rfl) hRl⟩ (6) 10 rfl rfl rfl rfl rfl hl.1 (Nat.le_of_ble_eq_true rfl) ⟨Nat.zero_le _, Nat.zero_le _⟩ dX10_isWhole_3 ?_
  intro H_4 lo_4 I_4
  refine lv_aload_n hx hb dX10_isWhole_6 rfl (lv_at hl 0 rfl) ?_
  refine kgtX10_15_6 F I_4 dX10_isWhole_7 ?_
  refine lv_icmp_ne (tgt := 25) hx hb dX10_isWhole_10 (by decide) (fun c6 => ?_) (fun c6 => ?_)
  · replace hf := (if_neg c6).symm.trans hf
    refine lv_iconst (v := (0 : Int32)) hx hb dX10_isWhole_25 (by decide) ?_
    cases hf
    exact ret H_4 lo_4 _ ls I_4 (Or.inl rfl) dX10_isWhole_26
  · replace hf := (if_pos c6).symm.trans hf
    refine lv_aload_n hx hb dX10_isWhole_13 rfl (lv_at hl 0 rfl) ?_
    refine kgtX10_25_6 F I_4 dX10_isWhole_14 ?_
    refine lv_iconst (v := (5 : Int32)) hx hb dX10_isWhole_17 (by decide) ?_
    refine lv_icmp_ne (tgt := 25) hx hb dX10_isWhole_18 (by decide) (fun c5 => ?_) (fun c5 => ?_)
    · replace hf := (if_neg c5).symm.trans hf
      refine lv_iconst (v := (0 : Int32)) hx hb dX10_isWhole_25 (by decide) ?_
      cases hf
      exact ret H_4 lo_4 _ ls I_4 (Or.inl rfl) dX10_isWhole_26
    · replace hf := (if_pos c5).symm.trans hf
      refine lv_iconst (v := (1 : Int32)) hx hb dX10_isWhole_21 (by decide) ?_
      refine lv_goto (tgt := 26) hx hb dX10_isWhole_22 (by decide) ?_
      cases hf
      exact ret H_4 lo_4 _ ls I_4 (Or.inr rfl) dX10_isWhole_26
def C_LT_requireArgument (a0 : Int32) : Option (Unit) :=
if a0 = 0 then
(none)
else
(some ())
set_option maxRecDepth 100000 in
set_option maxHeartbeats 4000000 in
theorem cC_LT_requireArgument (G : Nat → Nat → Int32) (E : Nat → Nat → Int64) (Dd : Nat → Nat → UInt64) (P : Nat → Option PRec) (Z : List PRec) (a0 : Int32)   (hf : C_LT_requireArgument a0 = some ()) : sMv D (cT cI cJ cD cS) (cW ad cI cJ cD cS) l yX11_requireArgument (ws1 yX11_requireArgument cX11_requireArgument 1 none) ({ frames := 0, cells := 0, slots := 0, locals := 0 }) [.int a0] (G, E, Dd, P, Z) (G, E, Dd, P, Z) := by
  unfold C_LT_requireArgument at hf
  refine sMv_of (by decide) (Nat.le_of_ble_eq_true rfl) ?_
  intro p e R s m args below meth c A Q ls H lo F hRf hRl I hl ret
  obtain ⟨hx, hb, hml, hown, hG⟩ := id F
  replace hl : lv_has ls 1 [(0, .int a0)] := hl
  refine lv_iload_n hx hb dX11_requireArgument_0 rfl (lv_at hl 0 rfl) ?_
  refine lv_if_ne (tgt := 15) hx hb dX11_requireArgument_1 (by decide) (fun c1 => ?_) (fun c1 => ?_)
  · replace hf := (if_neg c1).symm.trans hf
    cases hf
    exact ret H lo _ ls I dX11_requireArgument_15
  · replace hf := (if_pos c1).symm.trans hf
    cases hf
def C_JA_fill_i_1_s1 (a1 : Int32) (x3 : Int32) (G4 : Nat → Nat → Int32) : Option ((Int32 × (Nat → Nat → Int32)) ⊕ ((Nat → Nat → Int32))) :=
if (8 : Int32) ≤ x3 then
(some (.inr G4))
else
(ri 8 x3 <|
nm (wr G4 2 x3 a1) fun G13 =>
nm (x3 + (1 : Int32) : Int32) fun x15 =>
some (.inl (x15, G13)))
def C_JA_fill_i_1 (G : Nat → Nat → Int32) (a1 : Int32) : Option ((Nat → Nat → Int32)) :=
bd (lp (fun q => C_JA_fill_i_1_s1 a1 q.1 q.2) FU ((0 : Int32), G)) fun G5 =>
some G5
set_option maxRecDepth 100000 in
set_option maxHeartbeats 4000000 in
theorem cC_JA_fill_i_1 (G : Nat → Nat → Int32) (E : Nat → Nat → Int64) (Dd : Nat → Nat → UInt64) (P : Nat → Option PRec) (Z : List PRec) (a1 : Int32)  (newG : Nat → Nat → Int32) (hf : C_JA_fill_i_1 G a1 = some newG) : sMv D (cT cI cJ cD cS) (cW ad cI cJ cD cS) l yJ7_fill_53178 (ws1 yJ7_fill_53178 cJ7_fill_53178 4 none) ({ frames := 0, cells := 0, slots := 0, locals := 0 }) [.ref (ad 1), .int a1] (G, E, Dd, P, Z) (newG, E, Dd, P, Z) := by
  unfold C_JA_fill_i_1 at hf
  refine sMv_of (by decide) (Nat.le_of_ble_eq_true rfl) ?_
  intro p e R s m args below meth c A Q ls H lo F hRf hRl I hl ret
  obtain ⟨hx, hb, hml, hown, hG⟩ := id F
  replace hl : lv_has ls 4 [(0, .ref (ad 1)), (1, .int a1)] := hl
  refine lv_iconst (v := (0 : Int32)) hx hb dJ7_fill_53178_0 (by decide) ?_
  refine lv_istore_n (lv' := [(2, .int (0 : Int32)), (0, .ref (ad 1)), (1, .int a1)]) hx hb dJ7_fill_53178_1 rfl hl (by decide) rfl (fun ls_1 hl_1 => ?_)
  refine lv_aload_n hx hb dJ7_fill_53178_2 rfl (lv_at hl_1 1 rfl) ?_
  refine kln1 F I dJ7_fill_53178_3 ?_
  refine lv_istore_n (lv' := [(3, .int (8 : Int32)), (2, .int (0 : Int32)), (0, .ref (ad 1)), (1, .int a1)]) hx hb dJ7_fill_53178_4 rfl hl_1 (by decide) rfl (fun ls_2 hl_2 => ?_)
  obtain ⟨G5, hq1, hf⟩ := bd_some hf
  have K1 : ∀ (H : Heap) (locs : List Loc), sInv D (cT cI cJ cD cS) (cW ad cI cJ cD cS) A s H locs (G5, E, Dd, P, Z) → ∀ (ls : Array Slot), lv_has ls 4 [] → W p l e R s m args below meth c H locs 0 0 Q (F0 m 20 ls []) := by
    intro H_6 lo_6 I_6 ls_7 hl_7
    cases hf
    exact ret H_6 lo_6 _ ls_7 I_6 dJ7_fill_53178_20
  have L1 : ∀ (n : Nat) (x3 : Int32) (G4 : Nat → Nat → Int32), lp (fun q => C_JA_fill_i_1_s1 a1 q.1 q.2) n (x3, G4) = some G5 → ∀ (H : Heap) (locs : List Loc), sInv D (cT cI cJ cD cS) (cW ad cI cJ cD cS) A s H locs (G4, E, Dd, P, Z) → ∀ (ls : Array Slot), lv_has ls 4 [(0, .ref (ad 1)), (1, .int a1), (2, .int x3), (3, .int (8 : Int32))] → W p l e R s m args below meth c H locs 0 0 Q (F0 m 5 ls []) := by
    intro n
    induction n with
    | zero => intro x3 G4 hq; exact (lp_0 hq).elim
    | succ n ih1 =>
      intro x3 G4 hq H_9 lo_9 I_9 ls_10 hl_10
      obtain ⟨y1, hf, hK1⟩ := lp_go hq
      replace hf : C_JA_fill_i_1_s1 a1 x3 G4 = some y1 := hf
      unfold C_JA_fill_i_1_s1 at hf
      refine lv_iload_n hx hb dJ7_fill_53178_5 rfl (lv_at hl_10 2 rfl) ?_
      refine lv_iload_n hx hb dJ7_fill_53178_6 rfl (lv_at hl_10 3 rfl) ?_
      refine lv_icmp_ge (tgt := 20) hx hb dJ7_fill_53178_7 (by decide) (fun c17 => ?_) (fun c17 => ?_)
      · replace hf := (if_pos c17).symm.trans hf
        cases hf
        cases (show G4 = G5 from hK1)
        exact K1 H_9 lo_9 I_9 ls_10 (lv_sub hl_10 [] rfl)
      · replace hf := (if_neg c17).symm.trans hf
        refine lv_aload_n hx hb dJ7_fill_53178_10 rfl (lv_at hl_10 0 rfl) ?_
        refine lv_iload_n hx hb dJ7_fill_53178_11 rfl (lv_at hl_10 2 rfl) ?_
        refine lv_iload_n hx hb dJ7_fill_53178_12 rfl (lv_at hl_10 1 rfl) ?_
        obtain ⟨g12, hf⟩ := ri_some hf
        refine kas1 F I_9 g12 dJ7_fill_53178_13 ?_
        intro H_14 lo_14 G13 eG13 I_14
        replace hf := nm_some eG13 hf
        obtain ⟨x15, ex15⟩ : ∃ y : Int32, y = x3 + (1 : Int32) := ⟨_, rfl⟩
        replace hf := nm_some ex15 hf
        refine lv_iinc (v := x15) (lv' := [(2, .int x15), (0, .ref (ad 1)), (1, .int a1), (3, .int (8 : Int32))]) hx hb dJ7_fill_53178_14 hl_10 (k := 2) rfl (by rw [ex15]; rfl) (by decide) rfl (fun ls_16 hl_16 => ?_)
        refine lv_goto (tgt := 5) hx hb dJ7_fill_53178_17 (by decide) ?_
        cases hf
        exact ih1 _ _ hK1 H_14 lo_14 I_14 ls_16 (lv_sub hl_16 [1, 2, 0, 3] rfl)
  exact L1 FU _ _ hq1 H lo I ls_2 (lv_sub hl_2 [2, 3, 1, 0] rfl)
def C_LT_startAnew (G : Nat → Nat → Int32) (P : Nat → Option PRec) (a0 : Int32) (a1 : Int32) : Option ((Nat → Nat → Int32) × (Nat → Option PRec)) :=
nm (wf G 0 a0) fun G1 =>
nm (wf G1 1 a1) fun G3 =>
bd (C_JA_fill_i_1 G3 (1 : Int32)) fun G5 =>
nm (wf G5 5 (0 : Int32)) fun G8 =>
nm (va_up P 0 none) fun P10 =>
nm (wf G8 3 (0 : Int32)) fun G12 =>
nm (C_HI_forgetAll G12) fun G14 =>
some (G14, P10)
set_option maxRecDepth 100000 in
set_option maxHeartbeats 4000000 in
theorem cC_LT_startAnew (G : Nat → Nat → Int32) (E : Nat → Nat → Int64) (Dd : Nat → Nat → UInt64) (P : Nat → Option PRec) (Z : List PRec) (hPZ : ∀ (k : Nat) (z : PRec), P k = some z → z ∈ Z) (a0 : Int32) (a1 : Int32)  (newG : Nat → Nat → Int32) (newP : Nat → Option PRec) (hf : C_LT_startAnew G P a0 a1 = some (newG, newP)) : sMv D (cT cI cJ cD cS) (cW ad cI cJ cD cS) l yX11_startAnew (ws1 yX11_startAnew cX11_startAnew 3 none) ({ frames := 1, cells := 0, slots := 0, locals := 23 }) [.ref (ad 0), .int a0, .int a1] (G, E, Dd, P, Z) (newG, E, Dd, newP, Z) := by
  unfold C_LT_startAnew at hf
  refine sMv_of (by decide) (Nat.le_of_ble_eq_true rfl) ?_
  intro p e R s m args below meth c A Q ls H lo F hRf hRl I hl ret
  obtain ⟨hx, hb, hml, hown, hG⟩ := id F
  replace hl : lv_has ls 3 [(0, .ref (ad 0)), (1, .int a0), (2, .int a1)] := hl
  refine lv_aload_n hx hb dX11_startAnew_0 rfl (lv_at hl 0 rfl) ?_
  refine lv_iload_n hx hb dX11_startAnew_1 rfl (lv_at hl 1 rfl) ?_
  refine kptX11_89_0 F I dX11_startAnew_2 ?_
  intro H_2 lo_2 G1 eG1 I_2
  replace hf := nm_some eG1 hf
  refine lv_aload_n hx hb dX11_startAnew_5 rfl (lv_at hl 0 rfl) ?_
  refine lv_iload_n hx hb dX11_startAnew_6 rfl (lv_at hl 2 rfl) ?_
  refine kptX11_80_0 F I_2 dX11_startAnew_7 ?_
  intro H_4 lo_4 G3 eG3 I_4
  replace hf := nm_some eG3 hf
  refine lv_aload_n hx hb dX11_startAnew_10 rfl (lv_at hl 0 rfl) ?_
  refine kgtX11_9_0 F I_4 dX11_startAnew_11 ?_
  refine lv_iconst (v := (1 : Int32)) hx hb dX11_startAnew_14 (by decide) ?_
  obtain ⟨G5, h6, hf⟩ := bd_some hf
  refine s_callSv (As := [.ref (ad 1), .int (1 : Int32)]) (rest := []) F I_4 (cC_JA_fill_i_1 G3 E Dd P Z (1 : Int32) G5 h6) kX11_307 ⟨rfl, rfl⟩ ⟨Nat.le_trans (Nat.le_of_ble_eq_true rfl) hRf, Nat.le_trans (Nat.le_of_ble_eq_true rfl) hRl⟩ rfl rfl hl.1 (Nat.le_of_ble_eq_true rfl) ⟨Nat.zero_le _, Nat.zero_le _⟩ dX11_startAnew_15 ?_
  intro H_7 lo_7 I_7
  refine lv_aload_n hx hb dX11_startAnew_18 rfl (lv_at hl 0 rfl) ?_
  refine kgtX11_16_0 F I_7 dX11_startAnew_19 ?_
  refine lv_iconst (v := (0 : Int32)) hx hb dX11_startAnew_22 (by decide) ?_
  refine kptX11_149_2 F I_7 dX11_startAnew_23 ?_
  intro H_9 lo_9 G8 eG8 I_9
  replace hf := nm_some eG8 hf
  refine lv_aload_n hx hb dX11_startAnew_26 rfl (lv_at hl 0 rfl) ?_
  refine lv_null hx hb dX11_startAnew_27 ?_
  refine kppX11_95 (o := none) F I_9 dX11_startAnew_28 ?_
  intro H_11 lo_11 P10 eP10 I_11
  replace hf := nm_some eP10 hf
  have hzP10 := hz_up hPZ eP10 (fun _ h => by cases h)
  refine lv_aload_n hx hb dX11_startAnew_31 rfl (lv_at hl 0 rfl) ?_
  refine lv_iconst (v := (0 : Int32)) hx hb dX11_startAnew_32 (by decide) ?_
  refine kptX11_99_0 F I_11 dX11_startAnew_33 ?_
  intro H_13 lo_13 G12 eG12 I_13
  replace hf := nm_some eG12 hf
  refine lv_aload_n hx hb dX11_startAnew_36 rfl (lv_at hl 0 rfl) ?_
  refine kgtX11_23_0 F I_13 dX11_startAnew_37 ?_
  obtain ⟨G14, h15⟩ : ∃ z, z = C_HI_forgetAll G12 := ⟨_, rfl⟩
  replace hf := nm_some h15 hf
  refine s_callVv (As := []) (rest := []) F I_13 (cC_HI_forgetAll G12 E Dd P10 Z G14 h15) kX11_313 ⟨rfl, rfl⟩ ⟨Nat.le_trans (Nat.le_of_ble_eq_true rfl) hRf, Nat.le_trans (Nat.le_of_ble_eq_true rfl) hRl⟩ (4) 2 rfl rfl rfl rfl rfl hl.1 (Nat.le_of_ble_eq_true rfl) ⟨Nat.zero_le _, Nat.zero_le _⟩ dX11_startAnew_40 ?_
  intro H_16 lo_16 I_16
  cases hf
  exact ret H_16 lo_16 _ ls I_16 dX11_startAnew_43
theorem hzC_LT_startAnew {G G2 : Nat → Nat → Int32} {P P2 : Nat → Option PRec} {Z : List PRec} {a0 a1 : Int32} (h : C_LT_startAnew G P a0 a1 = some (G2, P2)) (hz : ∀ (k : Nat) (z : PRec), P k = some z → z ∈ Z) : ∀ (k : Nat) (z : PRec), P2 k = some z → z ∈ Z := by
  unfold C_LT_startAnew nm at h
  obtain ⟨G3, h1, h⟩ := bd_some h
  cases h
  exact hz_up hz rfl (fun _ h => by cases h)
def C_LT_begin (G : Nat → Nat → Int32) (P : Nat → Option PRec) (a0 : Int32) (a1 : Int32) : Option (Int32 × (Nat → Nat → Int32) × (Nat → Option PRec)) :=
bd (if a0 < (2 : Int32) then
(some (0 : Int32))
else
(if (8 : Int32) < a0 then
(some (0 : Int32))
else
(some (1 : Int32)))) fun x2 =>
bd0 (C_LT_requireArgument x2) <|
bd (if a1 < (1 : Int32) then
(some (0 : Int32))
else
(if (8 : Int32) < a1 then
(some (0 : Int32))
else
(some (1 : Int32)))) fun x9 =>
bd0 (C_LT_requireArgument x9) <|
bd2 (C_LT_startAnew G P a0 a1) fun G15 P16 =>
some ((a0 * (a0 - (1 : Int32))) / (2 : Int32), G15, P16)
set_option maxRecDepth 100000 in
set_option maxHeartbeats 4000000 in
theorem cC_LT_begin (G : Nat → Nat → Int32) (E : Nat → Nat → Int64) (Dd : Nat → Nat → UInt64) (P : Nat → Option PRec) (Z : List PRec) (hPZ : ∀ (k : Nat) (z : PRec), P k = some z → z ∈ Z) (a0 : Int32) (a1 : Int32) (rv : Int32) (newG : Nat → Nat → Int32) (newP : Nat → Option PRec) (hf : C_LT_begin G P a0 a1 = some (rv, newG, newP)) : sMi D (cT cI cJ cD cS) (cW ad cI cJ cD cS) l yX11_begin (ws1 yX11_begin cX11_begin 3 (some .int)) ({ frames := 2, cells := 0, slots := 0, locals := 45 }) [.ref (ad 0), .int a0, .int a1] (G, E, Dd, P, Z) (rv, (newG, E, Dd, newP, Z)) := by
  unfold C_LT_begin at hf
  refine sMi_of (by decide) (Nat.le_of_ble_eq_true rfl) ?_
  intro p e R s m args below meth c A Q ls H lo F hRf hRl I hl ret
  obtain ⟨hx, hb, hml, hown, hG⟩ := id F
  replace hl : lv_has ls 3 [(0, .ref (ad 0)), (1, .int a0), (2, .int a1)] := hl
  refine lv_iload_n hx hb dX11_begin_0 rfl (lv_at hl 1 rfl) ?_
  refine lv_iconst (v := (2 : Int32)) hx hb dX11_begin_1 (by decide) ?_
  obtain ⟨x2, hv22, hf⟩ := bd_some hf
  have J1 : ∀ (H : Heap) (locs : List Loc), sInv D (cT cI cJ cD cS) (cW ad cI cJ cD cS) A s H locs (G, E, Dd, P, Z) → ∀ (ls : Array Slot), lv_has ls 3 [(0, .ref (ad 0)), (1, .int a0), (2, .int a1)] → W p l e R s m args below meth c H locs 0 0 Q (F0 m 16 ls [.int x2]) := by
    intro H_3 lo_3 I_3 ls_4 hl_4
    obtain ⟨h6, hf⟩ := bd0_some hf
    refine s_callSv (As := [.int x2]) (rest := []) F I_3 (cC_LT_requireArgument G E Dd P Z x2 h6) kX11_76 ⟨rfl, rfl⟩ ⟨Nat.le_trans (Nat.le_of_ble_eq_true rfl) hRf, Nat.le_trans (Nat.le_of_ble_eq_true rfl) hRl⟩ rfl rfl hl_4.1 (Nat.le_of_ble_eq_true rfl) ⟨Nat.zero_le _, Nat.zero_le _⟩ dX11_begin_16 ?_
    intro H_7 lo_7 I_7
    refine lv_iload_n hx hb dX11_begin_19 rfl (lv_at hl_4 2 rfl) ?_
    refine lv_iconst (v := (1 : Int32)) hx hb dX11_begin_20 (by decide) ?_
    obtain ⟨x9, hv19, hf⟩ := bd_some hf
    have J8 : ∀ (H : Heap) (locs : List Loc), sInv D (cT cI cJ cD cS) (cW ad cI cJ cD cS) A s H locs (G, E, Dd, P, Z) → ∀ (ls : Array Slot), lv_has ls 3 [(0, .ref (ad 0)), (1, .int a0), (2, .int a1)] → W p l e R s m args below meth c H locs 0 0 Q (F0 m 35 ls [.int x9]) := by
      intro H_10 lo_10 I_10 ls_11 hl_11
      obtain ⟨h13, hf⟩ := bd0_some hf
      refine s_callSv (As := [.int x9]) (rest := []) F I_10 (cC_LT_requireArgument G E Dd P Z x9 h13) kX11_76 ⟨rfl, rfl⟩ ⟨Nat.le_trans (Nat.le_of_ble_eq_true rfl) hRf, Nat.le_trans (Nat.le_of_ble_eq_true rfl) hRl⟩ rfl rfl hl_11.1 (Nat.le_of_ble_eq_true rfl) ⟨Nat.zero_le _, Nat.zero_le _⟩ dX11_begin_35 ?_
      intro H_14 lo_14 I_14
      refine lv_aload_n hx hb dX11_begin_38 rfl (lv_at hl_11 0 rfl) ?_
      refine lv_iload_n hx hb dX11_begin_39 rfl (lv_at hl_11 1 rfl) ?_
      refine lv_iload_n hx hb dX11_begin_40 rfl (lv_at hl_11 2 rfl) ?_
      obtain ⟨G15, P16, h17, hf⟩ := bd2_some hf
      refine s_callVv (As := [.int a0, .int a1]) (rest := []) F I_14 (cC_LT_startAnew G E Dd P Z hPZ a0 a1 G15 P16 h17) kX11_72 ⟨rfl, rfl⟩ ⟨Nat.le_trans (Nat.le_of_ble_eq_true rfl) hRf, Nat.le_trans (Nat.le_of_ble_eq_true rfl) hRl⟩ (0) 11 rfl rfl rfl rfl rfl hl_11.1 (Nat.le_of_ble_eq_true rfl) ⟨Nat.zero_le _, Nat.zero_le _⟩ dX11_begin_41 ?_
      intro H_18 lo_18 I_18
      have hzP16 := hzC_LT_startAnew h17 hPZ 
      refine lv_iload_n hx hb dX11_begin_44 rfl (lv_at hl_11 1 rfl) ?_
      refine lv_iload_n hx hb dX11_begin_45 rfl (lv_at hl_11 1 rfl) ?_
      refine lv_iconst (v := (1 : Int32)) hx hb dX11_begin_46 (by decide) ?_
      refine lv_isub hx hb dX11_begin_47 ?_
      refine lv_imul hx hb dX11_begin_48 ?_
      refine lv_iconst (v := (2 : Int32)) hx hb dX11_begin_49 (by decide) ?_
      refine lv_idiv hx hb dX11_begin_50 (by decide) ?_
      cases hf
      exact ret H_18 lo_18 _ ls_11 I_18 dX11_begin_51
    replace hf := hv19
    refine lv_icmp_lt (tgt := 34) hx hb dX11_begin_21 (by decide) (fun c21 => ?_) (fun c21 => ?_)
    · replace hf := (if_pos c21).symm.trans hf
      refine lv_iconst (v := (0 : Int32)) hx hb dX11_begin_34 (by decide) ?_
      cases hf
      exact J8 H_7 lo_7 I_7 ls_4 (lv_sub hl_4 [0, 1, 2] rfl)
    · replace hf := (if_neg c21).symm.trans hf
      refine lv_iload_n hx hb dX11_begin_24 rfl (lv_at hl_4 2 rfl) ?_
      refine lv_bipush (v := (8 : Int32)) hx hb dX11_begin_25 (by decide) ?_
      refine lv_icmp_gt (tgt := 34) hx hb dX11_begin_27 (by decide) (fun c20 => ?_) (fun c20 => ?_)
      · replace hf := (if_pos c20).symm.trans hf
        refine lv_iconst (v := (0 : Int32)) hx hb dX11_begin_34 (by decide) ?_
        cases hf
        exact J8 H_7 lo_7 I_7 ls_4 (lv_sub hl_4 [0, 1, 2] rfl)
      · replace hf := (if_neg c20).symm.trans hf
        refine lv_iconst (v := (1 : Int32)) hx hb dX11_begin_30 (by decide) ?_
        refine lv_goto (tgt := 35) hx hb dX11_begin_31 (by decide) ?_
        cases hf
        exact J8 H_7 lo_7 I_7 ls_4 (lv_sub hl_4 [0, 1, 2] rfl)
  replace hf := hv22
  refine lv_icmp_lt (tgt := 15) hx hb dX11_begin_2 (by decide) (fun c24 => ?_) (fun c24 => ?_)
  · replace hf := (if_pos c24).symm.trans hf
    refine lv_iconst (v := (0 : Int32)) hx hb dX11_begin_15 (by decide) ?_
    cases hf
    exact J1 H lo I ls (lv_sub hl [0, 1, 2] rfl)
  · replace hf := (if_neg c24).symm.trans hf
    refine lv_iload_n hx hb dX11_begin_5 rfl (lv_at hl 1 rfl) ?_
    refine lv_bipush (v := (8 : Int32)) hx hb dX11_begin_6 (by decide) ?_
    refine lv_icmp_gt (tgt := 15) hx hb dX11_begin_8 (by decide) (fun c23 => ?_) (fun c23 => ?_)
    · replace hf := (if_pos c23).symm.trans hf
      refine lv_iconst (v := (0 : Int32)) hx hb dX11_begin_15 (by decide) ?_
      cases hf
      exact J1 H lo I ls (lv_sub hl [0, 1, 2] rfl)
    · replace hf := (if_neg c23).symm.trans hf
      refine lv_iconst (v := (1 : Int32)) hx hb dX11_begin_11 (by decide) ?_
      refine lv_goto (tgt := 16) hx hb dX11_begin_12 (by decide) ?_
      cases hf
      exact J1 H lo I ls (lv_sub hl [0, 1, 2] rfl)
def C_LT_requireIndex (a0 : Int32) (a1 : Int32) : Option (Unit) :=
if a0 < 0 then
(none)
else
(if a0 < a1 then
(some ())
else
(none))
set_option maxRecDepth 100000 in
set_option maxHeartbeats 4000000 in
theorem cC_LT_requireIndex (G : Nat → Nat → Int32) (E : Nat → Nat → Int64) (Dd : Nat → Nat → UInt64) (P : Nat → Option PRec) (Z : List PRec) (a0 : Int32) (a1 : Int32)   (hf : C_LT_requireIndex a0 a1 = some ()) : sMv D (cT cI cJ cD cS) (cW ad cI cJ cD cS) l yX11_requireIndex (ws1 yX11_requireIndex cX11_requireIndex 2 none) ({ frames := 0, cells := 0, slots := 0, locals := 0 }) [.int a0, .int a1] (G, E, Dd, P, Z) (G, E, Dd, P, Z) := by
  unfold C_LT_requireIndex at hf
  refine sMv_of (by decide) (Nat.le_of_ble_eq_true rfl) ?_
  intro p e R s m args below meth c A Q ls H lo F hRf hRl I hl ret
  obtain ⟨hx, hb, hml, hown, hG⟩ := id F
  replace hl : lv_has ls 2 [(0, .int a0), (1, .int a1)] := hl
  refine lv_iload_n hx hb dX11_requireIndex_0 rfl (lv_at hl 0 rfl) ?_
  refine lv_if_lt (tgt := 9) hx hb dX11_requireIndex_1 (by decide) (fun c2 => ?_) (fun c2 => ?_)
  · replace hf := (if_pos c2).symm.trans hf
    cases hf
  · replace hf := (if_neg c2).symm.trans hf
    refine lv_iload_n hx hb dX11_requireIndex_4 rfl (lv_at hl 0 rfl) ?_
    refine lv_iload_n hx hb dX11_requireIndex_5 rfl (lv_at hl 1 rfl) ?_
    refine lv_icmp_lt (tgt := 20) hx hb dX11_requireIndex_6 (by decide) (fun c1 => ?_) (fun c1 => ?_)
    · replace hf := (if_pos c1).symm.trans hf
      cases hf
      exact ret H lo _ ls I dX11_requireIndex_20
    · replace hf := (if_neg c1).symm.trans hf
      cases hf
def C_LT_setWeight (G : Nat → Nat → Int32) (a0 : Int32) (a1 : Int32) : Option (Int32 × (Nat → Nat → Int32)) :=
bd0 (C_LT_requireIndex a0 (G 1 0)) <|
bd (if a1 < 0 then
(some (0 : Int32))
else
(if (9 : Int32) < a1 then
(some (0 : Int32))
else
(some (1 : Int32)))) fun x4 =>
bd0 (C_LT_requireArgument x4) <|
ri 8 a0 <|
nm (G 2 a0.toNatClampNeg : Int32) fun x11 =>
ri 8 a0 <|
nm (wr G 2 a0 a1) fun G14 =>
some (x11, G14)
set_option maxRecDepth 100000 in
set_option maxHeartbeats 4000000 in
theorem cC_LT_setWeight (G : Nat → Nat → Int32) (E : Nat → Nat → Int64) (Dd : Nat → Nat → UInt64) (P : Nat → Option PRec) (Z : List PRec) (a0 : Int32) (a1 : Int32) (rv : Int32) (newG : Nat → Nat → Int32) (hf : C_LT_setWeight G a0 a1 = some (rv, newG)) : sMi D (cT cI cJ cD cS) (cW ad cI cJ cD cS) l yX11_setWeight (ws1 yX11_setWeight cX11_setWeight 4 (some .int)) ({ frames := 1, cells := 0, slots := 0, locals := 21 }) [.ref (ad 0), .int a0, .int a1] (G, E, Dd, P, Z) (rv, (newG, E, Dd, P, Z)) := by
  unfold C_LT_setWeight at hf
  refine sMi_of (by decide) (Nat.le_of_ble_eq_true rfl) ?_
  intro p e R s m args below meth c A Q ls H lo F hRf hRl I hl ret
  obtain ⟨hx, hb, hml, hown, hG⟩ := id F
  replace hl : lv_has ls 4 [(0, .ref (ad 0)), (1, .int a0), (2, .int a1)] := hl
  refine lv_iload_n hx hb dX11_setWeight_0 rfl (lv_at hl 1 rfl) ?_
  refine lv_aload_n hx hb dX11_setWeight_1 rfl (lv_at hl 0 rfl) ?_
  refine kgtX11_80_0 F I dX11_setWeight_2 ?_
  obtain ⟨h1, hf⟩ := bd0_some hf
  refine s_callSv (As := [.int a0, .int (G 1 0)]) (rest := []) F I (cC_LT_requireIndex G E Dd P Z a0 (G 1 0) h1) kX11_84 ⟨rfl, rfl⟩ ⟨Nat.le_trans (Nat.le_of_ble_eq_true rfl) hRf, Nat.le_trans (Nat.le_of_ble_eq_true rfl) hRl⟩ rfl rfl hl.1 (Nat.le_of_ble_eq_true rfl) ⟨Nat.zero_le _, Nat.zero_le _⟩ dX11_setWeight_5 ?_
  intro H_2 lo_2 I_2
  refine lv_iload_n hx hb dX11_setWeight_8 rfl (lv_at hl 2 rfl) ?_
  obtain ⟨x4, hv16, hf⟩ := bd_some hf
  have J3 : ∀ (H : Heap) (locs : List Loc), sInv D (cT cI cJ cD cS) (cW ad cI cJ cD cS) A s H locs (G, E, Dd, P, Z) → ∀ (ls : Array Slot), lv_has ls 4 [(0, .ref (ad 0)), (1, .int a0), (2, .int a1)] → W p l e R s m args below meth c H locs 0 0 Q (F0 m 23 ls [.int x4]) := by
    intro H_5 lo_5 I_5 ls_6 hl_6
    obtain ⟨h8, hf⟩ := bd0_some hf
    refine s_callSv (As := [.int x4]) (rest := []) F I_5 (cC_LT_requireArgument G E Dd P Z x4 h8) kX11_76 ⟨rfl, rfl⟩ ⟨Nat.le_trans (Nat.le_of_ble_eq_true rfl) hRf, Nat.le_trans (Nat.le_of_ble_eq_true rfl) hRl⟩ rfl rfl hl_6.1 (Nat.le_of_ble_eq_true rfl) ⟨Nat.zero_le _, Nat.zero_le _⟩ dX11_setWeight_23 ?_
    intro H_9 lo_9 I_9
    refine lv_aload_n hx hb dX11_setWeight_26 rfl (lv_at hl_6 0 rfl) ?_
    refine kgtX11_9_0 F I_9 dX11_setWeight_27 ?_
    refine lv_iload_n hx hb dX11_setWeight_30 rfl (lv_at hl_6 1 rfl) ?_
    obtain ⟨g10, hf⟩ := ri_some hf
    refine kal1 F I_9 g10 dX11_setWeight_31 ?_
    refine lv_topi (fun x11 ex11 => ?_)
    replace hf := nm_some ex11 hf
    refine lv_istore_n (lv' := [(3, .int x11), (0, .ref (ad 0)), (1, .int a0), (2, .int a1)]) hx hb dX11_setWeight_32 rfl hl_6 (by decide) rfl (fun ls_12 hl_12 => ?_)
    refine lv_aload_n hx hb dX11_setWeight_33 rfl (lv_at hl_12 1 rfl) ?_
    refine kgtX11_9_0 F I_9 dX11_setWeight_34 ?_
    refine lv_iload_n hx hb dX11_setWeight_37 rfl (lv_at hl_12 2 rfl) ?_
    refine lv_iload_n hx hb dX11_setWeight_38 rfl (lv_at hl_12 3 rfl) ?_
    obtain ⟨g13, hf⟩ := ri_some hf
    refine kas1 F I_9 g13 dX11_setWeight_39 ?_
    intro H_15 lo_15 G14 eG14 I_15
    replace hf := nm_some eG14 hf
    refine lv_iload_n hx hb dX11_setWeight_40 rfl (lv_at hl_12 0 rfl) ?_
    cases hf
    exact ret H_15 lo_15 _ ls_12 I_15 dX11_setWeight_41
  replace hf := hv16
  refine lv_if_lt (tgt := 22) hx hb dX11_setWeight_9 (by decide) (fun c18 => ?_) (fun c18 => ?_)
  · replace hf := (if_pos c18).symm.trans hf
    refine lv_iconst (v := (0 : Int32)) hx hb dX11_setWeight_22 (by decide) ?_
    cases hf
    exact J3 H_2 lo_2 I_2 ls (lv_sub hl [0, 1, 2] rfl)
  · replace hf := (if_neg c18).symm.trans hf
    refine lv_iload_n hx hb dX11_setWeight_12 rfl (lv_at hl 2 rfl) ?_
    refine lv_bipush (v := (9 : Int32)) hx hb dX11_setWeight_13 (by decide) ?_
    refine lv_icmp_gt (tgt := 22) hx hb dX11_setWeight_15 (by decide) (fun c17 => ?_) (fun c17 => ?_)
    · replace hf := (if_pos c17).symm.trans hf
      refine lv_iconst (v := (0 : Int32)) hx hb dX11_setWeight_22 (by decide) ?_
      cases hf
      exact J3 H_2 lo_2 I_2 ls (lv_sub hl [0, 1, 2] rfl)
    · replace hf := (if_neg c17).symm.trans hf
      refine lv_iconst (v := (1 : Int32)) hx hb dX11_setWeight_18 (by decide) ?_
      refine lv_goto (tgt := 23) hx hb dX11_setWeight_19 (by decide) ?_
      cases hf
      exact J3 H_2 lo_2 I_2 ls (lv_sub hl [0, 1, 2] rfl)
def C_LT_trial (G : Nat → Nat → Int32) (P : Nat → Option PRec) (a0 : Int32) (a1 : Int32) : Option (Int32) :=
oc (P 0) (none) (fun z1 => nm (P_size z1.2.2.2.1) fun r4 =>
bd0 (C_LT_requireIndex a0 r4) <|
if a1 = 0 then
(bd (P_firstAt z1.2.2.2.1 (pG z1) a0) fun r9 =>
some r9)
else
(bd (P_secondAt z1.2.2.2.1 (pG z1) a0) fun r12 =>
some r12))
set_option maxRecDepth 100000 in
set_option maxHeartbeats 4000000 in
theorem cC_LT_trial (G : Nat → Nat → Int32) (E : Nat → Nat → Int64) (Dd : Nat → Nat → UInt64) (P : Nat → Option PRec) (Z : List PRec) (hPZ : ∀ (k : Nat) (z : PRec), P k = some z → z ∈ Z) (a0 : Int32) (a1 : Int32) (rv : Int32)  (hf : C_LT_trial G P a0 a1 = some rv) : sMi D (cT cI cJ cD cS) (cW ad cI cJ cD cS) l yX11_trial (ws1 yX11_trial cX11_trial 4 (some .int)) ({ frames := 1, cells := 0, slots := 0, locals := 21 }) [.ref (ad 0), .int a0, .int a1] (G, E, Dd, P, Z) (rv, (G, E, Dd, P, Z)) := by
  unfold C_LT_trial at hf
  refine sMi_of (by decide) (Nat.le_of_ble_eq_true rfl) ?_
  intro p e R s m args below meth c A Q ls H lo F hRf hRl I hl ret
  obtain ⟨hx, hb, hml, hown, hG⟩ := id F
  replace hl : lv_has ls 4 [(0, .ref (ad 0)), (1, .int a0), (2, .int a1)] := hl
  refine lv_aload_n hx hb dX11_trial_0 rfl (lv_at hl 0 rfl) ?_
  refine kgtX11_95_0 F I dX11_trial_1 ?_
  rcases hsz1 : P 0 with _ | z1
  · replace hf := (oc_none hsz1).symm.trans hf
    refine W.eq (g2 := F0 m 4 ls [.null]) rfl ?_
    refine lv_astore_nN (lv' := [(3, .null), (0, .ref (ad 0)), (1, .int a0), (2, .int a1)]) hx hb dX11_trial_4 rfl hl (by decide) rfl (fun ls_2 hl_2 => ?_)
    refine lv_aload_nN hx hb dX11_trial_5 rfl (lv_at hl_2 0 rfl) ?_
    refine lv_ifnonnullN hx hb dX11_trial_6 ?_
    cases hf
  · replace hf := (oc_some hsz1).symm.trans hf
    refine W.eq (g2 := F0 m 4 ls [.ref (z1.1)]) rfl ?_
    refine lv_astore_n (lv' := [(3, .ref (z1.1)), (0, .ref (ad 0)), (1, .int a0), (2, .int a1)]) hx hb dX11_trial_4 rfl hl (by decide) rfl (fun ls_3 hl_3 => ?_)
    refine lv_aload_n hx hb dX11_trial_5 rfl (lv_at hl_3 0 rfl) ?_
    refine lv_ifnonnull (tgt := 19) hx hb dX11_trial_6 (by decide) ?_
    refine lv_iload_n hx hb dX11_trial_19 rfl (lv_at hl_3 2 rfl) ?_
    refine lv_aload_n hx hb dX11_trial_20 rfl (lv_at hl_3 0 rfl) ?_
    obtain ⟨r4, h5⟩ : ∃ z, z = P_size z1.2.2.2.1 := ⟨_, rfl⟩
    replace hf := nm_some h5 hf
    refine x_callVi (τ := pG z1) (As := []) (rest := [.int a0]) F I (I.1.sub [0] rfl) (pl_sub I (hPZ _ _ hsz1)) (pl_D I (hPZ _ _ hsz1)) (cP_size (pG z1) r4 h5) kX11_102 ⟨rfl, rfl⟩ ⟨Nat.le_trans (Nat.le_of_ble_eq_true rfl) hRf, Nat.le_trans (Nat.le_of_ble_eq_true rfl) hRl⟩ 0 4 rfl rfl rfl rfl rfl hl_3.1 (Nat.le_of_ble_eq_true rfl) ⟨Nat.zero_le _, Nat.zero_le _⟩ dX11_trial_21 ?_
    intro H_6 lo_6 I_6
    obtain ⟨h7, hf⟩ := bd0_some hf
    refine s_callSv (As := [.int a0, .int r4]) (rest := []) F I_6 (cC_LT_requireIndex G E Dd P Z a0 r4 h7) kX11_84 ⟨rfl, rfl⟩ ⟨Nat.le_trans (Nat.le_of_ble_eq_true rfl) hRf, Nat.le_trans (Nat.le_of_ble_eq_true rfl) hRl⟩ rfl rfl hl_3.1 (Nat.le_of_ble_eq_true rfl) ⟨Nat.zero_le _, Nat.zero_le _⟩ dX11_trial_24 ?_
    intro H_8 lo_8 I_8
    refine lv_iload_n hx hb dX11_trial_27 rfl (lv_at hl_3 3 rfl) ?_
    refine lv_if_eq (tgt := 39) hx hb dX11_trial_28 (by decide) (fun c15 => ?_) (fun c15 => ?_)
    · replace hf := (if_pos c15).symm.trans hf
      refine lv_aload_n hx hb dX11_trial_39 rfl (lv_at hl_3 0 rfl) ?_
      refine lv_iload_n hx hb dX11_trial_40 rfl (lv_at hl_3 2 rfl) ?_
      obtain ⟨r9, h10, hf⟩ := bd_some hf
      refine x_callVi (τ := pG z1) (As := [.int a0]) (rest := []) F I_8 (I_8.1.sub [0] rfl) (pl_sub I_8 (hPZ _ _ hsz1)) (pl_D I_8 (hPZ _ _ hsz1)) (cP_firstAt (pG z1) a0 r9 h10) kX11_117 ⟨rfl, rfl⟩ ⟨Nat.le_trans (Nat.le_of_ble_eq_true rfl) hRf, Nat.le_trans (Nat.le_of_ble_eq_true rfl) hRl⟩ 0 4 rfl rfl rfl rfl rfl hl_3.1 (Nat.le_of_ble_eq_true rfl) ⟨Nat.zero_le _, Nat.zero_le _⟩ dX11_trial_41 ?_
      intro H_11 lo_11 I_11
      cases hf
      exact ret H_11 lo_11 _ ls_3 I_11 dX11_trial_44
    · replace hf := (if_neg c15).symm.trans hf
      refine lv_aload_n hx hb dX11_trial_31 rfl (lv_at hl_3 0 rfl) ?_
      refine lv_iload_n hx hb dX11_trial_32 rfl (lv_at hl_3 2 rfl) ?_
      obtain ⟨r12, h13, hf⟩ := bd_some hf
      refine x_callVi (τ := pG z1) (As := [.int a0]) (rest := []) F I_8 (I_8.1.sub [0] rfl) (pl_sub I_8 (hPZ _ _ hsz1)) (pl_D I_8 (hPZ _ _ hsz1)) (cP_secondAt (pG z1) a0 r12 h13) kX11_113 ⟨rfl, rfl⟩ ⟨Nat.le_trans (Nat.le_of_ble_eq_true rfl) hRf, Nat.le_trans (Nat.le_of_ble_eq_true rfl) hRl⟩ 0 4 rfl rfl rfl rfl rfl hl_3.1 (Nat.le_of_ble_eq_true rfl) ⟨Nat.zero_le _, Nat.zero_le _⟩ dX11_trial_33 ?_
      intro H_14 lo_14 I_14
      refine lv_goto (tgt := 44) hx hb dX11_trial_36 (by decide) ?_
      cases hf
      exact ret H_14 lo_14 _ ls_3 I_14 dX11_trial_44
def C_LT_requireAnswer (a0 : Int32) : Option (Unit) :=
bd (if a0 < 0 then
(some (0 : Int32))
else
(if (2 : Int32) < a0 then
(some (0 : Int32))
else
(some (1 : Int32)))) fun x2 =>
bd0 (C_LT_requireArgument x2) <|
some ()
set_option maxRecDepth 100000 in
set_option maxHeartbeats 4000000 in
theorem cC_LT_requireAnswer (G : Nat → Nat → Int32) (E : Nat → Nat → Int64) (Dd : Nat → Nat → UInt64) (P : Nat → Option PRec) (Z : List PRec) (a0 : Int32)   (hf : C_LT_requireAnswer a0 = some ()) : sMv D (cT cI cJ cD cS) (cW ad cI cJ cD cS) l yX11_requireAnswer (ws1 yX11_requireAnswer cX11_requireAnswer 1 none) ({ frames := 1, cells := 0, slots := 0, locals := 20 }) [.int a0] (G, E, Dd, P, Z) (G, E, Dd, P, Z) := by
  unfold C_LT_requireAnswer at hf
  refine sMv_of (by decide) (Nat.le_of_ble_eq_true rfl) ?_
  intro p e R s m args below meth c A Q ls H lo F hRf hRl I hl ret
  obtain ⟨hx, hb, hml, hown, hG⟩ := id F
  replace hl : lv_has ls 1 [(0, .int a0)] := hl
  refine lv_iload_n hx hb dX11_requireAnswer_0 rfl (lv_at hl 0 rfl) ?_
  obtain ⟨x2, hv8, hf⟩ := bd_some hf
  have J1 : ∀ (H : Heap) (locs : List Loc), sInv D (cT cI cJ cD cS) (cW ad cI cJ cD cS) A s H locs (G, E, Dd, P, Z) → ∀ (ls : Array Slot), lv_has ls 1 [] → W p l e R s m args below meth c H locs 0 0 Q (F0 m 14 ls [.int x2]) := by
    intro H_3 lo_3 I_3 ls_4 hl_4
    obtain ⟨h6, hf⟩ := bd0_some hf
    refine s_callSv (As := [.int x2]) (rest := []) F I_3 (cC_LT_requireArgument G E Dd P Z x2 h6) kX11_76 ⟨rfl, rfl⟩ ⟨Nat.le_trans (Nat.le_of_ble_eq_true rfl) hRf, Nat.le_trans (Nat.le_of_ble_eq_true rfl) hRl⟩ rfl rfl hl_4.1 (Nat.le_of_ble_eq_true rfl) ⟨Nat.zero_le _, Nat.zero_le _⟩ dX11_requireAnswer_14 ?_
    intro H_7 lo_7 I_7
    cases hf
    exact ret H_7 lo_7 _ ls_4 I_7 dX11_requireAnswer_17
  replace hf := hv8
  refine lv_if_lt (tgt := 13) hx hb dX11_requireAnswer_1 (by decide) (fun c10 => ?_) (fun c10 => ?_)
  · replace hf := (if_pos c10).symm.trans hf
    refine lv_iconst (v := (0 : Int32)) hx hb dX11_requireAnswer_13 (by decide) ?_
    cases hf
    exact J1 H lo I ls (lv_sub hl [] rfl)
  · replace hf := (if_neg c10).symm.trans hf
    refine lv_iload_n hx hb dX11_requireAnswer_4 rfl (lv_at hl 0 rfl) ?_
    refine lv_iconst (v := (2 : Int32)) hx hb dX11_requireAnswer_5 (by decide) ?_
    refine lv_icmp_gt (tgt := 13) hx hb dX11_requireAnswer_6 (by decide) (fun c9 => ?_) (fun c9 => ?_)
    · replace hf := (if_pos c9).symm.trans hf
      refine lv_iconst (v := (0 : Int32)) hx hb dX11_requireAnswer_13 (by decide) ?_
      cases hf
      exact J1 H lo I ls (lv_sub hl [] rfl)
    · replace hf := (if_neg c9).symm.trans hf
      refine lv_iconst (v := (1 : Int32)) hx hb dX11_requireAnswer_9 (by decide) ?_
      refine lv_goto (tgt := 14) hx hb dX11_requireAnswer_10 (by decide) ?_
      cases hf
      exact J1 H lo I ls (lv_sub hl [] rfl)
def C_CO_copyFrom_to (j : Nat) (G : Nat → Nat → Int32) : (Nat → Nat → Int32) :=
nm (wc G 4 (90 + j) 48) fun G1 =>
nm (wf G1 (70 + j) (G1 5 0)) fun G3 =>
G3
set_option maxRecDepth 100000 in
set_option maxHeartbeats 4000000 in
theorem cC_CO_copyFrom_to (j : Nat) (hj : j < 12) (G : Nat → Nat → Int32) (E : Nat → Nat → Int64) (Dd : Nat → Nat → UInt64) (P : Nat → Option PRec) (Z : List PRec)   (newG : Nat → Nat → Int32) (hv : newG = C_CO_copyFrom_to j G) : sMv D (cT cI cJ cD cS) (cW ad cI cJ cD cS) l yX1_copyFrom (ws1 yX1_copyFrom cX1_copyFrom 2 none) ({ frames := 1, cells := 0, slots := 0, locals := 40 }) [.ref (ad (39 + 3 * j)), .ref (ad 2)] (G, E, Dd, P, Z) (newG, E, Dd, P, Z) := by
  have hf : (nm (wc G 4 (90 + j) 48) fun G1 =>
nm (wf G1 (70 + j) (G1 5 0)) fun G3 =>
some G3) = some newG := by rw [hv]; rfl
  refine sMv_of (by decide) (Nat.le_of_ble_eq_true rfl) ?_
  intro p e R s m args below meth c A Q ls H lo F hRf hRl I hl ret
  obtain ⟨hx, hb, hml, hown, hG⟩ := id F
  replace hl : lv_has ls 2 [(0, .ref (ad (39 + 3 * j))), (1, .ref (ad 2))] := hl
  refine lv_aload_n hx hb dX1_copyFrom_0 rfl (lv_at hl 1 rfl) ?_
  refine kgtX1_9_2 F I dX1_copyFrom_1 ?_
  refine lv_iconst (v := (0 : Int32)) hx hb dX1_copyFrom_4 (by decide) ?_
  refine lv_aload_n hx hb dX1_copyFrom_5 rfl (lv_at hl 0 rfl) ?_
  refine kgscX1_9 hj F I dX1_copyFrom_6 ?_
  refine lv_iconst (v := (0 : Int32)) hx hb dX1_copyFrom_9 (by decide) ?_
  refine lv_bipush (v := (48 : Int32)) hx hb dX1_copyFrom_10 (by decide) ?_
  refine kcpX1_36_to hj F I hl.1 (Nat.le_trans (Nat.le_of_ble_eq_true rfl) hRf) (Nat.le_trans (Nat.le_of_ble_eq_true rfl) hRl) (Nat.le_of_ble_eq_true rfl) dX1_copyFrom_12 ?_
  intro H_2 lo_2 G1 eG1 I_2
  replace hf := nm_some eG1 hf
  refine lv_aload_n hx hb dX1_copyFrom_15 rfl (lv_at hl 0 rfl) ?_
  refine lv_aload_n hx hb dX1_copyFrom_16 rfl (lv_at hl 1 rfl) ?_
  refine kgtX1_15_2 F I_2 dX1_copyFrom_17 ?_
  refine kpscX1_15 hj F I_2 dX1_copyFrom_20 ?_
  intro H_4 lo_4 G3 eG3 I_4
  replace hf := nm_some eG3 hf
  cases hf
  exact ret H_4 lo_4 _ ls I_4 dX1_copyFrom_23
def C_SP_keep (j : Nat) (G : Nat → Nat → Int32) (P : Nat → Option PRec) (a1 : Option PRec) (a2 : Int32) : Option ((Nat → Nat → Int32) × (Nat → Option PRec)) :=
nm (C_CO_copyFrom_to j G) fun G1 =>
oc (a1) (nm (va_up P (1 + j) none) fun P5 =>
nm (wf G1 (50 + j) a2) fun G7 =>
some (G7, P5)) (fun z4 => nm (va_up P (1 + j) (some z4)) fun P9 =>
nm (wf G1 (50 + j) a2) fun G11 =>
some (G11, P9))
set_option maxRecDepth 100000 in
set_option maxHeartbeats 4000000 in
theorem cC_SP_keep (j : Nat) (hj : j < 12) (G : Nat → Nat → Int32) (E : Nat → Nat → Int64) (Dd : Nat → Nat → UInt64) (P : Nat → Option PRec) (Z : List PRec) (hPZ : ∀ (k : Nat) (z : PRec), P k = some z → z ∈ Z) (a1 : Option PRec) (ho : ∀ z, a1 = some z → z ∈ Z) (a2 : Int32)  (newG : Nat → Nat → Int32) (newP : Nat → Option PRec) (hf : C_SP_keep j G P a1 a2 = some (newG, newP)) : sMv D (cT cI cJ cD cS) (cW ad cI cJ cD cS) l yX7_keep (ws1 yX7_keep cX7_keep 4 none) ({ frames := 2, cells := 0, slots := 0, locals := 61 }) [.ref (ad (38 + 3 * j)), .ref (ad 2), va_rf (a1.map (fun z => z.1)), .int a2] (G, E, Dd, P, Z) (newG, E, Dd, newP, Z) := by
  unfold C_SP_keep at hf
  refine sMv_of (by decide) (by cases a1 <;> exact Nat.le_of_ble_eq_true rfl) ?_
  intro p e R s m args below meth c A Q ls H lo F hRf hRl I hl ret
  obtain ⟨hx, hb, hml, hown, hG⟩ := id F
  replace hl : lv_has ls 4 [(0, .ref (ad (38 + 3 * j))), (1, .ref (ad 2)), (2, va_rf (a1.map (fun z => z.1))), (3, .int a2)] := by cases a1 <;> exact hl
  refine lv_aload_n hx hb dX7_keep_0 rfl (lv_at hl 0 rfl) ?_
  refine kgstX7_10 hj F I dX7_keep_1 ?_
  refine lv_aload_n hx hb dX7_keep_4 rfl (lv_at hl 1 rfl) ?_
  obtain ⟨G1, h2⟩ : ∃ z, z = C_CO_copyFrom_to j G := ⟨_, rfl⟩
  replace hf := nm_some h2 hf
  refine s_callVv (As := [.ref (ad 2)]) (rest := []) F I (cC_CO_copyFrom_to (j) hj G E Dd P Z G1 h2) kX7_24 ⟨rfl, rfl⟩ ⟨Nat.le_trans (Nat.le_of_ble_eq_true rfl) hRf, Nat.le_trans (Nat.le_of_ble_eq_true rfl) hRl⟩ (39 + 3 * j) 1 rfl rfl (cw_sc j hj) rfl rfl hl.1 (Nat.le_of_ble_eq_true rfl) ⟨Nat.zero_le _, Nat.zero_le _⟩ dX7_keep_5 ?_
  intro H_3 lo_3 I_3
  refine lv_aload_n hx hb dX7_keep_8 rfl (lv_at hl 0 rfl) ?_
  rcases hsz4 : a1 with _ | z4
  · replace hf := (oc_none hsz4).symm.trans hf
    replace hl : lv_has ls 4 [(0, .ref (ad (38 + 3 * j))), (1, .ref (ad 2)), (2, .null), (3, .int a2)] := by first | exact hl | (rw [hsz4] at hl; exact hl)
    refine lv_aload_nN hx hb dX7_keep_9 rfl (lv_at hl 2 rfl) ?_
    refine kpstX7_16 hj (o := none) F I_3 dX7_keep_10 ?_
    intro H_6 lo_6 P5 eP5 I_6
    replace hf := nm_some eP5 hf
    have hzP5 := hz_up hPZ eP5 (fun _ h => by cases h)
    refine lv_aload_n hx hb dX7_keep_13 rfl (lv_at hl 0 rfl) ?_
    refine lv_iload_n hx hb dX7_keep_14 rfl (lv_at hl 3 rfl) ?_
    refine kpstX7_20 hj F I_6 dX7_keep_15 ?_
    intro H_8 lo_8 G7 eG7 I_8
    replace hf := nm_some eG7 hf
    cases hf
    exact ret H_8 lo_8 _ ls I_8 dX7_keep_18
  · replace hf := (oc_some hsz4).symm.trans hf
    replace hl : lv_has ls 4 [(0, .ref (ad (38 + 3 * j))), (1, .ref (ad 2)), (2, .ref (z4.1)), (3, .int a2)] := by first | exact hl | (rw [hsz4] at hl; exact hl)
    refine lv_aload_n hx hb dX7_keep_9 rfl (lv_at hl 2 rfl) ?_
    refine kpstX7_16 hj (o := (some z4)) F I_3 dX7_keep_10 ?_
    intro H_10 lo_10 P9 eP9 I_10
    replace hf := nm_some eP9 hf
    have hzP9 := hz_up hPZ eP9 (fun _ h => by cases h; exact (ho _ hsz4))
    refine lv_aload_n hx hb dX7_keep_13 rfl (lv_at hl 0 rfl) ?_
    refine lv_iload_n hx hb dX7_keep_14 rfl (lv_at hl 3 rfl) ?_
    refine kpstX7_20 hj F I_10 dX7_keep_15 ?_
    intro H_12 lo_12 G11 eG11 I_12
    replace hf := nm_some eG11 hf
    cases hf
    exact ret H_12 lo_12 _ ls I_12 dX7_keep_18
theorem hzC_SP_keep {j : Nat} {G G2 : Nat → Nat → Int32} {P P2 : Nat → Option PRec} {Z : List PRec} {a1 : Option PRec} {a2 : Int32} (h : C_SP_keep j G P a1 a2 = some (G2, P2)) (hz : ∀ (k : Nat) (z : PRec), P k = some z → z ∈ Z) (ho : ∀ z, a1 = some z → z ∈ Z) : ∀ (k : Nat) (z : PRec), P2 k = some z → z ∈ Z := by
  unfold C_SP_keep nm at h
  cases a1 with
  | none =>
    replace h := (oc_none rfl).symm.trans h
    cases h
    exact hz_up hz rfl (fun _ h => by cases h)
  | some z =>
    replace h := (oc_some rfl).symm.trans h
    cases h
    exact hz_up hz rfl ho
def C_LT_rememberStep (G : Nat → Nat → Int32) (P : Nat → Option PRec) : Option ((Nat → Nat → Int32) × (Nat → Option PRec)) :=
bd2 (C_HI_next G) fun r1 G2 =>
oc (r1) (oc (P 0) (none) (fun z6 => none)) (fun j5 => gd (j5 < 12) <|
oc (P 0) (bd2 (C_SP_keep j5 G2 P none (G2 3 0)) fun G8 P9 =>
some (G8, P9)) (fun z7 => bd2 (C_SP_keep j5 G2 P (some z7) (G2 3 0)) fun G12 P13 =>
some (G12, P13)))
set_option maxRecDepth 100000 in
set_option maxHeartbeats 4000000 in
theorem cC_LT_rememberStep (G : Nat → Nat → Int32) (E : Nat → Nat → Int64) (Dd : Nat → Nat → UInt64) (P : Nat → Option PRec) (Z : List PRec) (hPZ : ∀ (k : Nat) (z : PRec), P k = some z → z ∈ Z)   (newG : Nat → Nat → Int32) (newP : Nat → Option PRec) (hf : C_LT_rememberStep G P = some (newG, newP)) : sMv D (cT cI cJ cD cS) (cW ad cI cJ cD cS) l yX11_rememberStep (ws1 yX11_rememberStep cX11_rememberStep 1 none) ({ frames := 3, cells := 0, slots := 0, locals := 84 }) [.ref (ad 0)] (G, E, Dd, P, Z) (newG, E, Dd, newP, Z) := by
  unfold C_LT_rememberStep at hf
  refine sMv_of (by decide) (Nat.le_of_ble_eq_true rfl) ?_
  intro p e R s m args below meth c A Q ls H lo F hRf hRl I hl ret
  obtain ⟨hx, hb, hml, hown, hG⟩ := id F
  replace hl : lv_has ls 1 [(0, .ref (ad 0))] := hl
  refine lv_aload_n hx hb dX11_rememberStep_0 rfl (lv_at hl 0 rfl) ?_
  refine kgtX11_23_0 F I dX11_rememberStep_1 ?_
  obtain ⟨r1, G2, h3, hf⟩ := bd2_some hf
  refine s_callVq (As := []) (rest := []) F I (cC_HI_next G E Dd P Z r1 G2 h3) kX11_316 ⟨rfl, rfl⟩ ⟨Nat.le_trans (Nat.le_of_ble_eq_true rfl) hRf, Nat.le_trans (Nat.le_of_ble_eq_true rfl) hRl⟩ (4) 2 rfl rfl rfl rfl rfl hl.1 (Nat.le_of_ble_eq_true rfl) ⟨Nat.zero_le _, Nat.zero_le _⟩ dX11_rememberStep_4 ?_
  intro H_4 lo_4 I_4
  rcases hsj5 : r1 with _ | j5
  · replace hf := (oc_none hsj5).symm.trans hf
    refine W.eq (g2 := F0 m 7 ls [.null]) rfl ?_
    refine lv_aload_n hx hb dX11_rememberStep_7 rfl (lv_at hl 0 rfl) ?_
    refine kgtX11_16_0 F I_4 dX11_rememberStep_8 ?_
    refine lv_aload_n hx hb dX11_rememberStep_11 rfl (lv_at hl 0 rfl) ?_
    refine kgtX11_95_0 F I_4 dX11_rememberStep_12 ?_
    rcases hsz6 : P 0 with _ | z6
    · replace hf := (oc_none hsz6).symm.trans hf
      refine W.eq (g2 := F0 m 15 ls [.null, .ref (ad 2), .null]) rfl ?_
      refine lv_aload_n hx hb dX11_rememberStep_15 rfl (lv_at hl 0 rfl) ?_
      refine kgtX11_99_0 F I_4 dX11_rememberStep_16 ?_
      cases hf
    · replace hf := (oc_some hsz6).symm.trans hf
      refine W.eq (g2 := F0 m 15 ls [.ref (z6.1), .ref (ad 2), .null]) rfl ?_
      refine lv_aload_n hx hb dX11_rememberStep_15 rfl (lv_at hl 0 rfl) ?_
      refine kgtX11_99_0 F I_4 dX11_rememberStep_16 ?_
      cases hf
  · replace hf := (oc_some hsj5).symm.trans hf
    refine W.eq (g2 := F0 m 7 ls [.ref (ad (38 + 3 * j5))]) rfl ?_
    obtain ⟨hjj5, hf⟩ := gd_some hf
    refine lv_aload_n hx hb dX11_rememberStep_7 rfl (lv_at hl 0 rfl) ?_
    refine kgtX11_16_0 F I_4 dX11_rememberStep_8 ?_
    refine lv_aload_n hx hb dX11_rememberStep_11 rfl (lv_at hl 0 rfl) ?_
    refine kgtX11_95_0 F I_4 dX11_rememberStep_12 ?_
    rcases hsz7 : P 0 with _ | z7
    · replace hf := (oc_none hsz7).symm.trans hf
      refine W.eq (g2 := F0 m 15 ls [.null, .ref (ad 2), .ref (ad (38 + 3 * j5))]) rfl ?_
      refine lv_aload_n hx hb dX11_rememberStep_15 rfl (lv_at hl 0 rfl) ?_
      refine kgtX11_99_0 F I_4 dX11_rememberStep_16 ?_
      obtain ⟨G8, P9, h10, hf⟩ := bd2_some hf
      refine s_callVv (As := [.ref (ad 2), .null, .int (G2 3 0)]) (rest := []) F I_4 (cC_SP_keep (j5) hjj5 G2 E Dd P Z hPZ none (fun _ h => by cases h) (G2 3 0) G8 P9 h10) kX11_319 ⟨rfl, rfl⟩ ⟨Nat.le_trans (Nat.le_of_ble_eq_true rfl) hRf, Nat.le_trans (Nat.le_of_ble_eq_true rfl) hRl⟩ (38 + 3 * j5) 7 rfl rfl (cw_st j5 hjj5) rfl rfl hl.1 (Nat.le_of_ble_eq_true rfl) ⟨Nat.zero_le _, Nat.zero_le _⟩ dX11_rememberStep_19 ?_
      intro H_11 lo_11 I_11
      have hzP9 := hzC_SP_keep h10 hPZ (fun _ h => by cases h)
      cases hf
      exact ret H_11 lo_11 _ ls I_11 dX11_rememberStep_22
    · replace hf := (oc_some hsz7).symm.trans hf
      refine W.eq (g2 := F0 m 15 ls [.ref (z7.1), .ref (ad 2), .ref (ad (38 + 3 * j5))]) rfl ?_
      refine lv_aload_n hx hb dX11_rememberStep_15 rfl (lv_at hl 0 rfl) ?_
      refine kgtX11_99_0 F I_4 dX11_rememberStep_16 ?_
      obtain ⟨G12, P13, h14, hf⟩ := bd2_some hf
      refine s_callVv (As := [.ref (ad 2), .ref (z7.1), .int (G2 3 0)]) (rest := []) F I_4 (cC_SP_keep (j5) hjj5 G2 E Dd P Z hPZ (some z7) (fun _ h => by cases h; exact (hPZ _ _ hsz7)) (G2 3 0) G12 P13 h14) kX11_319 ⟨rfl, rfl⟩ ⟨Nat.le_trans (Nat.le_of_ble_eq_true rfl) hRf, Nat.le_trans (Nat.le_of_ble_eq_true rfl) hRl⟩ (38 + 3 * j5) 7 rfl rfl (cw_st j5 hjj5) rfl rfl hl.1 (Nat.le_of_ble_eq_true rfl) ⟨Nat.zero_le _, Nat.zero_le _⟩ dX11_rememberStep_19 ?_
      intro H_15 lo_15 I_15
      have hzP13 := hzC_SP_keep h14 hPZ (fun _ h => by cases h; exact (hPZ _ _ hsz7))
      cases hf
      exact ret H_15 lo_15 _ ls I_15 dX11_rememberStep_22
theorem hzC_LT_rememberStep {G G2 : Nat → Nat → Int32} {P P2 : Nat → Option PRec} {Z : List PRec} (h : C_LT_rememberStep G P = some (G2, P2)) (hz : ∀ (k : Nat) (z : PRec), P k = some z → z ∈ Z) : ∀ (k : Nat) (z : PRec), P2 k = some z → z ∈ Z := by
  unfold C_LT_rememberStep at h
  obtain ⟨r1, G3, h1, h⟩ := bd2_some h
  rcases r1 with _ | j
  · replace h := (oc_none rfl).symm.trans h
    rcases hp : P 0 with _ | z
    · replace h := (oc_none hp).symm.trans h; cases h
    · replace h := (oc_some hp).symm.trans h; cases h
  · replace h := (oc_some rfl).symm.trans h
    obtain ⟨hj, h⟩ := gd_some h
    rcases hp : P 0 with _ | z
    · replace h := (oc_none hp).symm.trans h
      obtain ⟨G4, P4, h2, h⟩ := bd2_some h
      cases h
      exact hzC_SP_keep h2 hz (fun _ h => by cases h)
    · replace h := (oc_some hp).symm.trans h
      obtain ⟨G4, P4, h2, h⟩ := bd2_some h
      cases h
      exact hzC_SP_keep h2 hz (fun _ h => by cases h; exact hz _ _ hp)
def C_LT_trialsLeft (G : Nat → Nat → Int32) (P : Nat → Option PRec) : Option (Int32) :=
oc (P 0) (some (0 : Int32)) (fun z1 => nm (P_size z1.2.2.2.1) fun r4 =>
some (r4 - (G 3 0)))
set_option maxRecDepth 100000 in
set_option maxHeartbeats 4000000 in
theorem cC_LT_trialsLeft (G : Nat → Nat → Int32) (E : Nat → Nat → Int64) (Dd : Nat → Nat → UInt64) (P : Nat → Option PRec) (Z : List PRec) (hPZ : ∀ (k : Nat) (z : PRec), P k = some z → z ∈ Z)  (rv : Int32)  (hf : C_LT_trialsLeft G P = some rv) : sMi D (cT cI cJ cD cS) (cW ad cI cJ cD cS) l yX11_trialsLeft (ws1 yX11_trialsLeft cX11_trialsLeft 2 (some .int)) ({ frames := 1, cells := 0, slots := 0, locals := 20 }) [.ref (ad 0)] (G, E, Dd, P, Z) (rv, (G, E, Dd, P, Z)) := by
  unfold C_LT_trialsLeft at hf
  refine sMi_of (by decide) (Nat.le_of_ble_eq_true rfl) ?_
  intro p e R s m args below meth c A Q ls H lo F hRf hRl I hl ret
  obtain ⟨hx, hb, hml, hown, hG⟩ := id F
  replace hl : lv_has ls 2 [(0, .ref (ad 0))] := hl
  refine lv_aload_n hx hb dX11_trialsLeft_0 rfl (lv_at hl 0 rfl) ?_
  refine kgtX11_95_0 F I dX11_trialsLeft_1 ?_
  rcases hsz1 : P 0 with _ | z1
  · replace hf := (oc_none hsz1).symm.trans hf
    refine W.eq (g2 := F0 m 4 ls [.null]) rfl ?_
    refine lv_astore_nN (lv' := [(1, .null), (0, .ref (ad 0))]) hx hb dX11_trialsLeft_4 rfl hl (by decide) rfl (fun ls_2 hl_2 => ?_)
    refine lv_aload_nN hx hb dX11_trialsLeft_5 rfl (lv_at hl_2 0 rfl) ?_
    refine lv_ifnonnullN hx hb dX11_trialsLeft_6 ?_
    refine lv_iconst (v := (0 : Int32)) hx hb dX11_trialsLeft_9 (by decide) ?_
    refine lv_goto (tgt := 22) hx hb dX11_trialsLeft_10 (by decide) ?_
    cases hf
    exact ret H lo _ ls_2 I dX11_trialsLeft_22
  · replace hf := (oc_some hsz1).symm.trans hf
    refine W.eq (g2 := F0 m 4 ls [.ref (z1.1)]) rfl ?_
    refine lv_astore_n (lv' := [(1, .ref (z1.1)), (0, .ref (ad 0))]) hx hb dX11_trialsLeft_4 rfl hl (by decide) rfl (fun ls_3 hl_3 => ?_)
    refine lv_aload_n hx hb dX11_trialsLeft_5 rfl (lv_at hl_3 0 rfl) ?_
    refine lv_ifnonnull (tgt := 13) hx hb dX11_trialsLeft_6 (by decide) ?_
    refine lv_aload_n hx hb dX11_trialsLeft_13 rfl (lv_at hl_3 0 rfl) ?_
    obtain ⟨r4, h5⟩ : ∃ z, z = P_size z1.2.2.2.1 := ⟨_, rfl⟩
    replace hf := nm_some h5 hf
    refine x_callVi (τ := pG z1) (As := []) (rest := []) F I (I.1.sub [0] rfl) (pl_sub I (hPZ _ _ hsz1)) (pl_D I (hPZ _ _ hsz1)) (cP_size (pG z1) r4 h5) kX11_102 ⟨rfl, rfl⟩ ⟨Nat.le_trans (Nat.le_of_ble_eq_true rfl) hRf, Nat.le_trans (Nat.le_of_ble_eq_true rfl) hRl⟩ 0 4 rfl rfl rfl rfl rfl hl_3.1 (Nat.le_of_ble_eq_true rfl) ⟨Nat.zero_le _, Nat.zero_le _⟩ dX11_trialsLeft_14 ?_
    intro H_6 lo_6 I_6
    refine lv_aload_n hx hb dX11_trialsLeft_17 rfl (lv_at hl_3 1 rfl) ?_
    refine kgtX11_99_0 F I_6 dX11_trialsLeft_18 ?_
    refine lv_isub hx hb dX11_trialsLeft_21 ?_
    cases hf
    exact ret H_6 lo_6 _ ls_3 I_6 dX11_trialsLeft_22
def C_LT_answer (G : Nat → Nat → Int32) (P : Nat → Option PRec) (a0 : Int32) : Option (Int32 × (Nat → Nat → Int32) × (Nat → Option PRec)) :=
oc (P 0) (none) (fun z1 => nm (P_size z1.2.2.2.1) fun r4 =>
if r4 ≤ G 3 0 then
(none)
else
(bd (C_CO_isFull G) fun r7 =>
if r7 = 0 then
(bd0 (C_LT_requireAnswer a0) <|
bd2 (C_LT_rememberStep G P) fun G12 P13 =>
bd (P_firstAt z1.2.2.2.1 (pG z1) (G12 3 0)) fun r16 =>
bd (P_secondAt z1.2.2.2.1 (pG z1) (G12 3 0)) fun r19 =>
nm (C_CO_packed z1.2.2.1 r16 r19 a0) fun r22 =>
bd (C_CO_put G12 r22) fun G25 =>
nm (wf G25 3 ((G25 3 0) + (1 : Int32))) fun G28 =>
bd (C_LT_trialsLeft G28 P13) fun r30 =>
some (r30, G28, P13))
else
(none)))
set_option maxRecDepth 100000 in
set_option maxHeartbeats 4000000 in
theorem cC_LT_answer (G : Nat → Nat → Int32) (E : Nat → Nat → Int64) (Dd : Nat → Nat → UInt64) (P : Nat → Option PRec) (Z : List PRec) (hPZ : ∀ (k : Nat) (z : PRec), P k = some z → z ∈ Z) (a0 : Int32) (rv : Int32) (newG : Nat → Nat → Int32) (newP : Nat → Option PRec) (hf : C_LT_answer G P a0 = some (rv, newG, newP)) : sMi D (cT cI cJ cD cS) (cW ad cI cJ cD cS) l yX11_answer (ws1 yX11_answer cX11_answer 3 (some .int)) ({ frames := 4, cells := 0, slots := 0, locals := 104 }) [.ref (ad 0), .int a0] (G, E, Dd, P, Z) (rv, (newG, E, Dd, newP, Z)) := by
  unfold C_LT_answer at hf
  refine sMi_of (by decide) (Nat.le_of_ble_eq_true rfl) ?_
  intro p e R s m args below meth c A Q ls H lo F hRf hRl I hl ret
  obtain ⟨hx, hb, hml, hown, hG⟩ := id F
  replace hl : lv_has ls 3 [(0, .ref (ad 0)), (1, .int a0)] := hl
  refine lv_aload_n hx hb dX11_answer_0 rfl (lv_at hl 0 rfl) ?_
  refine kgtX11_95_0 F I dX11_answer_1 ?_
  rcases hsz1 : P 0 with _ | z1
  · replace hf := (oc_none hsz1).symm.trans hf
    refine W.eq (g2 := F0 m 4 ls [.null]) rfl ?_
    refine lv_astore_nN (lv' := [(2, .null), (0, .ref (ad 0)), (1, .int a0)]) hx hb dX11_answer_4 rfl hl (by decide) rfl (fun ls_2 hl_2 => ?_)
    refine lv_aload_nN hx hb dX11_answer_5 rfl (lv_at hl_2 0 rfl) ?_
    refine lv_ifnullN (tgt := 30) hx hb dX11_answer_6 (by decide) ?_
    cases hf
  · replace hf := (oc_some hsz1).symm.trans hf
    refine W.eq (g2 := F0 m 4 ls [.ref (z1.1)]) rfl ?_
    refine lv_astore_n (lv' := [(2, .ref (z1.1)), (0, .ref (ad 0)), (1, .int a0)]) hx hb dX11_answer_4 rfl hl (by decide) rfl (fun ls_3 hl_3 => ?_)
    refine lv_aload_n hx hb dX11_answer_5 rfl (lv_at hl_3 0 rfl) ?_
    refine lv_ifnull hx hb dX11_answer_6 ?_
    refine lv_aload_n hx hb dX11_answer_9 rfl (lv_at hl_3 1 rfl) ?_
    refine kgtX11_99_0 F I dX11_answer_10 ?_
    refine lv_aload_n hx hb dX11_answer_13 rfl (lv_at hl_3 0 rfl) ?_
    obtain ⟨r4, h5⟩ : ∃ z, z = P_size z1.2.2.2.1 := ⟨_, rfl⟩
    replace hf := nm_some h5 hf
    refine x_callVi (τ := pG z1) (As := []) (rest := [.int (G 3 0)]) F I (I.1.sub [0] rfl) (pl_sub I (hPZ _ _ hsz1)) (pl_D I (hPZ _ _ hsz1)) (cP_size (pG z1) r4 h5) kX11_102 ⟨rfl, rfl⟩ ⟨Nat.le_trans (Nat.le_of_ble_eq_true rfl) hRf, Nat.le_trans (Nat.le_of_ble_eq_true rfl) hRl⟩ 0 4 rfl rfl rfl rfl rfl hl_3.1 (Nat.le_of_ble_eq_true rfl) ⟨Nat.zero_le _, Nat.zero_le _⟩ dX11_answer_14 ?_
    intro H_6 lo_6 I_6
    refine lv_icmp_ge (tgt := 30) hx hb dX11_answer_17 (by decide) (fun c34 => ?_) (fun c34 => ?_)
    · replace hf := (if_pos c34).symm.trans hf
      cases hf
    · replace hf := (if_neg c34).symm.trans hf
      refine lv_aload_n hx hb dX11_answer_20 rfl (lv_at hl_3 1 rfl) ?_
      refine kgtX11_16_0 F I_6 dX11_answer_21 ?_
      obtain ⟨r7, h8, hf⟩ := bd_some hf
      refine s_callVi (As := []) (rest := []) F I_6 (cC_CO_isFull G E Dd P Z r7 h8) kX11_120 ⟨rfl, rfl⟩ ⟨Nat.le_trans (Nat.le_of_ble_eq_true rfl) hRf, Nat.le_trans (Nat.le_of_ble_eq_true rfl) hRl⟩ (2) 1 rfl rfl rfl rfl rfl hl_3.1 (Nat.le_of_ble_eq_true rfl) ⟨Nat.zero_le _, Nat.zero_le _⟩ dX11_answer_24 ?_
      intro H_9 lo_9 I_9
      refine lv_if_eq (tgt := 40) hx hb dX11_answer_27 (by decide) (fun c33 => ?_) (fun c33 => ?_)
      · replace hf := (if_pos c33).symm.trans hf
        refine lv_iload_n hx hb dX11_answer_40 rfl (lv_at hl_3 2 rfl) ?_
        obtain ⟨h10, hf⟩ := bd0_some hf
        refine s_callSv (As := [.int a0]) (rest := []) F I_9 (cC_LT_requireAnswer G E Dd P Z a0 h10) kX11_126 ⟨rfl, rfl⟩ ⟨Nat.le_trans (Nat.le_of_ble_eq_true rfl) hRf, Nat.le_trans (Nat.le_of_ble_eq_true rfl) hRl⟩ rfl rfl hl_3.1 (Nat.le_of_ble_eq_true rfl) ⟨Nat.zero_le _, Nat.zero_le _⟩ dX11_answer_41 ?_
        intro H_11 lo_11 I_11
        refine lv_aload_n hx hb dX11_answer_44 rfl (lv_at hl_3 1 rfl) ?_
        obtain ⟨G12, P13, h14, hf⟩ := bd2_some hf
        refine s_callVv (As := []) (rest := []) F I_11 (cC_LT_rememberStep G E Dd P Z hPZ G12 P13 h14) kX11_130 ⟨rfl, rfl⟩ ⟨Nat.le_trans (Nat.le_of_ble_eq_true rfl) hRf, Nat.le_trans (Nat.le_of_ble_eq_true rfl) hRl⟩ (0) 11 rfl rfl rfl rfl rfl hl_3.1 (Nat.le_of_ble_eq_true rfl) ⟨Nat.zero_le _, Nat.zero_le _⟩ dX11_answer_45 ?_
        intro H_15 lo_15 I_15
        have hzP13 := hzC_LT_rememberStep h14 hPZ 
        refine lv_aload_n hx hb dX11_answer_48 rfl (lv_at hl_3 1 rfl) ?_
        refine kgtX11_16_0 F I_15 dX11_answer_49 ?_
        refine lv_aload_n hx hb dX11_answer_52 rfl (lv_at hl_3 0 rfl) ?_
        refine kplX11_133 (hPZ _ _ hsz1) F I_15 dX11_answer_53 ?_
        refine lv_aload_n hx hb dX11_answer_56 rfl (lv_at hl_3 0 rfl) ?_
        refine lv_aload_n hx hb dX11_answer_57 rfl (lv_at hl_3 1 rfl) ?_
        refine kgtX11_99_0 F I_15 dX11_answer_58 ?_
        obtain ⟨r16, h17, hf⟩ := bd_some hf
        refine x_callVi (τ := pG z1) (As := [.int (G12 3 0)]) (rest := [.int (z1.2.2.1), .ref (ad 2)]) F I_15 (I_15.1.sub [0] rfl) (pl_sub I_15 (hPZ _ _ hsz1)) (pl_D I_15 (hPZ _ _ hsz1)) (cP_firstAt (pG z1) (G12 3 0) r16 h17) kX11_117 ⟨rfl, rfl⟩ ⟨Nat.le_trans (Nat.le_of_ble_eq_true rfl) hRf, Nat.le_trans (Nat.le_of_ble_eq_true rfl) hRl⟩ 0 4 rfl rfl rfl rfl rfl hl_3.1 (Nat.le_of_ble_eq_true rfl) ⟨Nat.zero_le _, Nat.zero_le _⟩ dX11_answer_61 ?_
        intro H_18 lo_18 I_18
        refine lv_aload_n hx hb dX11_answer_64 rfl (lv_at hl_3 0 rfl) ?_
        refine lv_aload_n hx hb dX11_answer_65 rfl (lv_at hl_3 1 rfl) ?_
        refine kgtX11_99_0 F I_18 dX11_answer_66 ?_
        obtain ⟨r19, h20, hf⟩ := bd_some hf
        refine x_callVi (τ := pG z1) (As := [.int (G12 3 0)]) (rest := [.int r16, .int (z1.2.2.1), .ref (ad 2)]) F I_18 (I_18.1.sub [0] rfl) (pl_sub I_18 (hPZ _ _ hsz1)) (pl_D I_18 (hPZ _ _ hsz1)) (cP_secondAt (pG z1) (G12 3 0) r19 h20) kX11_113 ⟨rfl, rfl⟩ ⟨Nat.le_trans (Nat.le_of_ble_eq_true rfl) hRf, Nat.le_trans (Nat.le_of_ble_eq_true rfl) hRl⟩ 0 4 rfl rfl rfl rfl rfl hl_3.1 (Nat.le_of_ble_eq_true rfl) ⟨Nat.zero_le _, Nat.zero_le _⟩ dX11_answer_69 ?_
        intro H_21 lo_21 I_21
        refine lv_iload_n hx hb dX11_answer_72 rfl (lv_at hl_3 2 rfl) ?_
        obtain ⟨r22, h23⟩ : ∃ z, z = C_CO_packed z1.2.2.1 r16 r19 a0 := ⟨_, rfl⟩
        replace hf := nm_some h23 hf
        refine s_callSi (As := [.int (z1.2.2.1), .int r16, .int r19, .int a0]) (rest := [.ref (ad 2)]) F I_21 (cC_CO_packed G12 E Dd P13 Z z1.2.2.1 r16 r19 a0 r22 h23) kX11_136 ⟨rfl, rfl⟩ ⟨Nat.le_trans (Nat.le_of_ble_eq_true rfl) hRf, Nat.le_trans (Nat.le_of_ble_eq_true rfl) hRl⟩ rfl rfl hl_3.1 (Nat.le_of_ble_eq_true rfl) ⟨Nat.zero_le _, Nat.zero_le _⟩ dX11_answer_73 ?_
        intro H_24 lo_24 I_24
        obtain ⟨G25, h26, hf⟩ := bd_some hf
        refine s_callVv (As := [.int r22]) (rest := []) F I_24 (cC_CO_put G12 E Dd P13 Z r22 G25 h26) kX11_140 ⟨rfl, rfl⟩ ⟨Nat.le_trans (Nat.le_of_ble_eq_true rfl) hRf, Nat.le_trans (Nat.le_of_ble_eq_true rfl) hRl⟩ (2) 1 rfl rfl rfl rfl rfl hl_3.1 (Nat.le_of_ble_eq_true rfl) ⟨Nat.zero_le _, Nat.zero_le _⟩ dX11_answer_76 ?_
        intro H_27 lo_27 I_27
        refine lv_aload_n hx hb dX11_answer_79 rfl (lv_at hl_3 1 rfl) ?_
        refine lv_dup hx hb dX11_answer_80 rfl ?_
        refine kgtX11_99_0 F I_27 dX11_answer_81 ?_
        refine lv_iconst (v := (1 : Int32)) hx hb dX11_answer_84 (by decide) ?_
        refine lv_iadd hx hb dX11_answer_85 ?_
        refine kptX11_99_0 F I_27 dX11_answer_86 ?_
        intro H_29 lo_29 G28 eG28 I_29
        replace hf := nm_some eG28 hf
        refine lv_aload_n hx hb dX11_answer_89 rfl (lv_at hl_3 1 rfl) ?_
        obtain ⟨r30, h31, hf⟩ := bd_some hf
        refine s_callVi (As := []) (rest := []) F I_29 (cC_LT_trialsLeft G28 E Dd P13 Z hzP13 r30 h31) kX11_143 ⟨rfl, rfl⟩ ⟨Nat.le_trans (Nat.le_of_ble_eq_true rfl) hRf, Nat.le_trans (Nat.le_of_ble_eq_true rfl) hRl⟩ (0) 11 rfl rfl rfl rfl rfl hl_3.1 (Nat.le_of_ble_eq_true rfl) ⟨Nat.zero_le _, Nat.zero_le _⟩ dX11_answer_90 ?_
        intro H_32 lo_32 I_32
        cases hf
        exact ret H_32 lo_32 _ ls_3 I_32 dX11_answer_93
      · replace hf := (if_neg c33).symm.trans hf
        cases hf
def C_LT_requireRoom (G : Nat → Nat → Int32) (a0 : Int32) : Option (Unit) :=
if (G 5 0) + a0 ≤ (48 : Int32) then
(some ())
else
(none)
set_option maxRecDepth 100000 in
set_option maxHeartbeats 4000000 in
theorem cC_LT_requireRoom (G : Nat → Nat → Int32) (E : Nat → Nat → Int64) (Dd : Nat → Nat → UInt64) (P : Nat → Option PRec) (Z : List PRec) (a0 : Int32)   (hf : C_LT_requireRoom G a0 = some ()) : sMv D (cT cI cJ cD cS) (cW ad cI cJ cD cS) l yX11_requireRoom (ws1 yX11_requireRoom cX11_requireRoom 2 none) ({ frames := 0, cells := 0, slots := 0, locals := 0 }) [.ref (ad 0), .int a0] (G, E, Dd, P, Z) (G, E, Dd, P, Z) := by
  unfold C_LT_requireRoom at hf
  refine sMv_of (by decide) (Nat.le_of_ble_eq_true rfl) ?_
  intro p e R s m args below meth c A Q ls H lo F hRf hRl I hl ret
  obtain ⟨hx, hb, hml, hown, hG⟩ := id F
  replace hl : lv_has ls 2 [(0, .ref (ad 0)), (1, .int a0)] := hl
  refine lv_aload_n hx hb dX11_requireRoom_0 rfl (lv_at hl 0 rfl) ?_
  refine kgtX11_16_0 F I dX11_requireRoom_1 ?_
  refine kgtX11_149_2 F I dX11_requireRoom_4 ?_
  refine lv_iload_n hx hb dX11_requireRoom_7 rfl (lv_at hl 1 rfl) ?_
  refine lv_iadd hx hb dX11_requireRoom_8 ?_
  refine lv_bipush (v := (48 : Int32)) hx hb dX11_requireRoom_9 (by decide) ?_
  refine lv_icmp_le (tgt := 25) hx hb dX11_requireRoom_11 (by decide) (fun c1 => ?_) (fun c1 => ?_)
  · replace hf := (if_pos c1).symm.trans hf
    cases hf
    exact ret H lo _ ls I dX11_requireRoom_25
  · replace hf := (if_neg c1).symm.trans hf
    cases hf
def C_LT_compare (G : Nat → Nat → Int32) (P : Nat → Option PRec) (a0 : Int32) (a1 : Int32) (a2 : Int32) (a3 : Int32) : Option (Int32 × (Nat → Nat → Int32) × (Nat → Option PRec)) :=
bd0 (C_LT_requireIndex a0 (G 1 0)) <|
bd0 (C_LT_requireIndex a1 (G 0 0)) <|
bd0 (C_LT_requireIndex a2 (G 0 0)) <|
bd (if a1 = a2 then
(some (0 : Int32))
else
(some (1 : Int32))) fun x8 =>
bd0 (C_LT_requireArgument x8) <|
bd0 (C_LT_requireAnswer a3) <|
bd0 (C_LT_requireRoom G (1 : Int32)) <|
bd2 (C_LT_rememberStep G P) fun G18 P19 =>
nm (C_CO_packed a0 a1 a2 a3) fun r22 =>
bd (C_CO_put G18 r22) fun G25 =>
some ((G25 5 0) - (1 : Int32), G25, P19)
set_option maxRecDepth 100000 in
set_option maxHeartbeats 4000000 in
theorem cC_LT_compare (G : Nat → Nat → Int32) (E : Nat → Nat → Int64) (Dd : Nat → Nat → UInt64) (P : Nat → Option PRec) (Z : List PRec) (hPZ : ∀ (k : Nat) (z : PRec), P k = some z → z ∈ Z) (a0 : Int32) (a1 : Int32) (a2 : Int32) (a3 : Int32) (rv : Int32) (newG : Nat → Nat → Int32) (newP : Nat → Option PRec) (hf : C_LT_compare G P a0 a1 a2 a3 = some (rv, newG, newP)) : sMi D (cT cI cJ cD cS) (cW ad cI cJ cD cS) l yX11_compare (ws1 yX11_compare cX11_compare 5 (some .int)) ({ frames := 4, cells := 0, slots := 0, locals := 104 }) [.ref (ad 0), .int a0, .int a1, .int a2, .int a3] (G, E, Dd, P, Z) (rv, (newG, E, Dd, newP, Z)) := by
  unfold C_LT_compare at hf
  refine sMi_of (by decide) (Nat.le_of_ble_eq_true rfl) ?_
  intro p e R s m args below meth c A Q ls H lo F hRf hRl I hl ret
  obtain ⟨hx, hb, hml, hown, hG⟩ := id F
  replace hl : lv_has ls 5 [(0, .ref (ad 0)), (1, .int a0), (2, .int a1), (3, .int a2), (4, .int a3)] := hl
  refine lv_iload_n hx hb dX11_compare_0 rfl (lv_at hl 1 rfl) ?_
  refine lv_aload_n hx hb dX11_compare_1 rfl (lv_at hl 0 rfl) ?_
  refine kgtX11_80_0 F I dX11_compare_2 ?_
  obtain ⟨h1, hf⟩ := bd0_some hf
  refine s_callSv (As := [.int a0, .int (G 1 0)]) (rest := []) F I (cC_LT_requireIndex G E Dd P Z a0 (G 1 0) h1) kX11_84 ⟨rfl, rfl⟩ ⟨Nat.le_trans (Nat.le_of_ble_eq_true rfl) hRf, Nat.le_trans (Nat.le_of_ble_eq_true rfl) hRl⟩ rfl rfl hl.1 (Nat.le_of_ble_eq_true rfl) ⟨Nat.zero_le _, Nat.zero_le _⟩ dX11_compare_5 ?_
  intro H_2 lo_2 I_2
  refine lv_iload_n hx hb dX11_compare_8 rfl (lv_at hl 2 rfl) ?_
  refine lv_aload_n hx hb dX11_compare_9 rfl (lv_at hl 0 rfl) ?_
  refine kgtX11_89_0 F I_2 dX11_compare_10 ?_
  obtain ⟨h3, hf⟩ := bd0_some hf
  refine s_callSv (As := [.int a1, .int (G 0 0)]) (rest := []) F I_2 (cC_LT_requireIndex G E Dd P Z a1 (G 0 0) h3) kX11_84 ⟨rfl, rfl⟩ ⟨Nat.le_trans (Nat.le_of_ble_eq_true rfl) hRf, Nat.le_trans (Nat.le_of_ble_eq_true rfl) hRl⟩ rfl rfl hl.1 (Nat.le_of_ble_eq_true rfl) ⟨Nat.zero_le _, Nat.zero_le _⟩ dX11_compare_13 ?_
  intro H_4 lo_4 I_4
  refine lv_iload_n hx hb dX11_compare_16 rfl (lv_at hl 3 rfl) ?_
  refine lv_aload_n hx hb dX11_compare_17 rfl (lv_at hl 0 rfl) ?_
  refine kgtX11_89_0 F I_4 dX11_compare_18 ?_
  obtain ⟨h5, hf⟩ := bd0_some hf
  refine s_callSv (As := [.int a2, .int (G 0 0)]) (rest := []) F I_4 (cC_LT_requireIndex G E Dd P Z a2 (G 0 0) h5) kX11_84 ⟨rfl, rfl⟩ ⟨Nat.le_trans (Nat.le_of_ble_eq_true rfl) hRf, Nat.le_trans (Nat.le_of_ble_eq_true rfl) hRl⟩ rfl rfl hl.1 (Nat.le_of_ble_eq_true rfl) ⟨Nat.zero_le _, Nat.zero_le _⟩ dX11_compare_21 ?_
  intro H_6 lo_6 I_6
  refine lv_iload_n hx hb dX11_compare_24 rfl (lv_at hl 2 rfl) ?_
  refine lv_iload_n hx hb dX11_compare_25 rfl (lv_at hl 3 rfl) ?_
  obtain ⟨x8, hv28, hf⟩ := bd_some hf
  have J7 : ∀ (H : Heap) (locs : List Loc), sInv D (cT cI cJ cD cS) (cW ad cI cJ cD cS) A s H locs (G, E, Dd, P, Z) → ∀ (ls : Array Slot), lv_has ls 5 [(0, .ref (ad 0)), (1, .int a0), (2, .int a1), (3, .int a2), (4, .int a3)] → W p l e R s m args below meth c H locs 0 0 Q (F0 m 34 ls [.int x8]) := by
    intro H_9 lo_9 I_9 ls_10 hl_10
    obtain ⟨h12, hf⟩ := bd0_some hf
    refine s_callSv (As := [.int x8]) (rest := []) F I_9 (cC_LT_requireArgument G E Dd P Z x8 h12) kX11_76 ⟨rfl, rfl⟩ ⟨Nat.le_trans (Nat.le_of_ble_eq_true rfl) hRf, Nat.le_trans (Nat.le_of_ble_eq_true rfl) hRl⟩ rfl rfl hl_10.1 (Nat.le_of_ble_eq_true rfl) ⟨Nat.zero_le _, Nat.zero_le _⟩ dX11_compare_34 ?_
    intro H_13 lo_13 I_13
    refine lv_iload hx hb dX11_compare_37 (lv_at hl_10 4 rfl) ?_
    obtain ⟨h14, hf⟩ := bd0_some hf
    refine s_callSv (As := [.int a3]) (rest := []) F I_13 (cC_LT_requireAnswer G E Dd P Z a3 h14) kX11_126 ⟨rfl, rfl⟩ ⟨Nat.le_trans (Nat.le_of_ble_eq_true rfl) hRf, Nat.le_trans (Nat.le_of_ble_eq_true rfl) hRl⟩ rfl rfl hl_10.1 (Nat.le_of_ble_eq_true rfl) ⟨Nat.zero_le _, Nat.zero_le _⟩ dX11_compare_39 ?_
    intro H_15 lo_15 I_15
    refine lv_aload_n hx hb dX11_compare_42 rfl (lv_at hl_10 0 rfl) ?_
    refine lv_iconst (v := (1 : Int32)) hx hb dX11_compare_43 (by decide) ?_
    obtain ⟨h16, hf⟩ := bd0_some hf
    refine s_callVv (As := [.int (1 : Int32)]) (rest := []) F I_15 (cC_LT_requireRoom G E Dd P Z (1 : Int32) h16) kX11_146 ⟨rfl, rfl⟩ ⟨Nat.le_trans (Nat.le_of_ble_eq_true rfl) hRf, Nat.le_trans (Nat.le_of_ble_eq_true rfl) hRl⟩ (0) 11 rfl rfl rfl rfl rfl hl_10.1 (Nat.le_of_ble_eq_true rfl) ⟨Nat.zero_le _, Nat.zero_le _⟩ dX11_compare_44 ?_
    intro H_17 lo_17 I_17
    refine lv_aload_n hx hb dX11_compare_47 rfl (lv_at hl_10 0 rfl) ?_
    obtain ⟨G18, P19, h20, hf⟩ := bd2_some hf
    refine s_callVv (As := []) (rest := []) F I_17 (cC_LT_rememberStep G E Dd P Z hPZ G18 P19 h20) kX11_130 ⟨rfl, rfl⟩ ⟨Nat.le_trans (Nat.le_of_ble_eq_true rfl) hRf, Nat.le_trans (Nat.le_of_ble_eq_true rfl) hRl⟩ (0) 11 rfl rfl rfl rfl rfl hl_10.1 (Nat.le_of_ble_eq_true rfl) ⟨Nat.zero_le _, Nat.zero_le _⟩ dX11_compare_48 ?_
    intro H_21 lo_21 I_21
    have hzP19 := hzC_LT_rememberStep h20 hPZ 
    refine lv_aload_n hx hb dX11_compare_51 rfl (lv_at hl_10 0 rfl) ?_
    refine kgtX11_16_0 F I_21 dX11_compare_52 ?_
    refine lv_iload_n hx hb dX11_compare_55 rfl (lv_at hl_10 1 rfl) ?_
    refine lv_iload_n hx hb dX11_compare_56 rfl (lv_at hl_10 2 rfl) ?_
    refine lv_iload_n hx hb dX11_compare_57 rfl (lv_at hl_10 3 rfl) ?_
    refine lv_iload hx hb dX11_compare_58 (lv_at hl_10 4 rfl) ?_
    obtain ⟨r22, h23⟩ : ∃ z, z = C_CO_packed a0 a1 a2 a3 := ⟨_, rfl⟩
    replace hf := nm_some h23 hf
    refine s_callSi (As := [.int a0, .int a1, .int a2, .int a3]) (rest := [.ref (ad 2)]) F I_21 (cC_CO_packed G18 E Dd P19 Z a0 a1 a2 a3 r22 h23) kX11_136 ⟨rfl, rfl⟩ ⟨Nat.le_trans (Nat.le_of_ble_eq_true rfl) hRf, Nat.le_trans (Nat.le_of_ble_eq_true rfl) hRl⟩ rfl rfl hl_10.1 (Nat.le_of_ble_eq_true rfl) ⟨Nat.zero_le _, Nat.zero_le _⟩ dX11_compare_60 ?_
    intro H_24 lo_24 I_24
    obtain ⟨G25, h26, hf⟩ := bd_some hf
    refine s_callVv (As := [.int r22]) (rest := []) F I_24 (cC_CO_put G18 E Dd P19 Z r22 G25 h26) kX11_140 ⟨rfl, rfl⟩ ⟨Nat.le_trans (Nat.le_of_ble_eq_true rfl) hRf, Nat.le_trans (Nat.le_of_ble_eq_true rfl) hRl⟩ (2) 1 rfl rfl rfl rfl rfl hl_10.1 (Nat.le_of_ble_eq_true rfl) ⟨Nat.zero_le _, Nat.zero_le _⟩ dX11_compare_63 ?_
    intro H_27 lo_27 I_27
    refine lv_aload_n hx hb dX11_compare_66 rfl (lv_at hl_10 0 rfl) ?_
    refine kgtX11_16_0 F I_27 dX11_compare_67 ?_
    refine kgtX11_149_2 F I_27 dX11_compare_70 ?_
    refine lv_iconst (v := (1 : Int32)) hx hb dX11_compare_73 (by decide) ?_
    refine lv_isub hx hb dX11_compare_74 ?_
    cases hf
    exact ret H_27 lo_27 _ ls_10 I_27 dX11_compare_75
  replace hf := hv28
  refine lv_icmp_eq (tgt := 33) hx hb dX11_compare_26 (by decide) (fun c29 => ?_) (fun c29 => ?_)
  · replace hf := (if_pos c29).symm.trans hf
    refine lv_iconst (v := (0 : Int32)) hx hb dX11_compare_33 (by decide) ?_
    cases hf
    exact J7 H_6 lo_6 I_6 ls (lv_sub hl [0, 1, 2, 3, 4] rfl)
  · replace hf := (if_neg c29).symm.trans hf
    refine lv_iconst (v := (1 : Int32)) hx hb dX11_compare_29 (by decide) ?_
    refine lv_goto (tgt := 34) hx hb dX11_compare_30 (by decide) ?_
    cases hf
    exact J7 H_6 lo_6 I_6 ls (lv_sub hl [0, 1, 2, 3, 4] rfl)
def C_LT_remove (G : Nat → Nat → Int32) (P : Nat → Option PRec) (a0 : Int32) : Option (Int32 × (Nat → Nat → Int32) × (Nat → Option PRec)) :=
bd0 (C_LT_requireIndex a0 (G 5 0)) <|
bd2 (C_LT_rememberStep G P) fun G3 P4 =>
bd (C_CO_takeOut G3 a0) fun G7 =>
some (G7 5 0, G7, P4)
set_option maxRecDepth 100000 in
set_option maxHeartbeats 4000000 in
theorem cC_LT_remove (G : Nat → Nat → Int32) (E : Nat → Nat → Int64) (Dd : Nat → Nat → UInt64) (P : Nat → Option PRec) (Z : List PRec) (hPZ : ∀ (k : Nat) (z : PRec), P k = some z → z ∈ Z) (a0 : Int32) (rv : Int32) (newG : Nat → Nat → Int32) (newP : Nat → Option PRec) (hf : C_LT_remove G P a0 = some (rv, newG, newP)) : sMi D (cT cI cJ cD cS) (cW ad cI cJ cD cS) l yX11_remove (ws1 yX11_remove cX11_remove 2 (some .int)) ({ frames := 4, cells := 0, slots := 0, locals := 104 }) [.ref (ad 0), .int a0] (G, E, Dd, P, Z) (rv, (newG, E, Dd, newP, Z)) := by
  unfold C_LT_remove at hf
  refine sMi_of (by decide) (Nat.le_of_ble_eq_true rfl) ?_
  intro p e R s m args below meth c A Q ls H lo F hRf hRl I hl ret
  obtain ⟨hx, hb, hml, hown, hG⟩ := id F
  replace hl : lv_has ls 2 [(0, .ref (ad 0)), (1, .int a0)] := hl
  refine lv_iload_n hx hb dX11_remove_0 rfl (lv_at hl 1 rfl) ?_
  refine lv_aload_n hx hb dX11_remove_1 rfl (lv_at hl 0 rfl) ?_
  refine kgtX11_16_0 F I dX11_remove_2 ?_
  refine kgtX11_149_2 F I dX11_remove_5 ?_
  obtain ⟨h1, hf⟩ := bd0_some hf
  refine s_callSv (As := [.int a0, .int (G 5 0)]) (rest := []) F I (cC_LT_requireIndex G E Dd P Z a0 (G 5 0) h1) kX11_84 ⟨rfl, rfl⟩ ⟨Nat.le_trans (Nat.le_of_ble_eq_true rfl) hRf, Nat.le_trans (Nat.le_of_ble_eq_true rfl) hRl⟩ rfl rfl hl.1 (Nat.le_of_ble_eq_true rfl) ⟨Nat.zero_le _, Nat.zero_le _⟩ dX11_remove_8 ?_
  intro H_2 lo_2 I_2
  refine lv_aload_n hx hb dX11_remove_11 rfl (lv_at hl 0 rfl) ?_
  obtain ⟨G3, P4, h5, hf⟩ := bd2_some hf
  refine s_callVv (As := []) (rest := []) F I_2 (cC_LT_rememberStep G E Dd P Z hPZ G3 P4 h5) kX11_130 ⟨rfl, rfl⟩ ⟨Nat.le_trans (Nat.le_of_ble_eq_true rfl) hRf, Nat.le_trans (Nat.le_of_ble_eq_true rfl) hRl⟩ (0) 11 rfl rfl rfl rfl rfl hl.1 (Nat.le_of_ble_eq_true rfl) ⟨Nat.zero_le _, Nat.zero_le _⟩ dX11_remove_12 ?_
  intro H_6 lo_6 I_6
  have hzP4 := hzC_LT_rememberStep h5 hPZ 
  refine lv_aload_n hx hb dX11_remove_15 rfl (lv_at hl 0 rfl) ?_
  refine kgtX11_16_0 F I_6 dX11_remove_16 ?_
  refine lv_iload_n hx hb dX11_remove_19 rfl (lv_at hl 1 rfl) ?_
  obtain ⟨G7, h8, hf⟩ := bd_some hf
  refine s_callVv (As := [.int a0]) (rest := []) F I_6 (cC_CO_takeOut G3 E Dd P4 Z a0 G7 h8) kX11_151 ⟨rfl, rfl⟩ ⟨Nat.le_trans (Nat.le_of_ble_eq_true rfl) hRf, Nat.le_trans (Nat.le_of_ble_eq_true rfl) hRl⟩ (2) 1 rfl rfl rfl rfl rfl hl.1 (Nat.le_of_ble_eq_true rfl) ⟨Nat.zero_le _, Nat.zero_le _⟩ dX11_remove_20 ?_
  intro H_9 lo_9 I_9
  refine lv_aload_n hx hb dX11_remove_23 rfl (lv_at hl 0 rfl) ?_
  refine kgtX11_16_0 F I_9 dX11_remove_24 ?_
  refine kgtX11_149_2 F I_9 dX11_remove_27 ?_
  cases hf
  exact ret H_9 lo_9 _ ls I_9 dX11_remove_30
def C_CO_copyFrom_from (j : Nat) (G : Nat → Nat → Int32) : (Nat → Nat → Int32) :=
nm (wc G (90 + j) 4 48) fun G1 =>
nm (wf G1 5 (G1 (70 + j) 0)) fun G3 =>
G3
set_option maxRecDepth 100000 in
set_option maxHeartbeats 4000000 in
theorem cC_CO_copyFrom_from (j : Nat) (hj : j < 12) (G : Nat → Nat → Int32) (E : Nat → Nat → Int64) (Dd : Nat → Nat → UInt64) (P : Nat → Option PRec) (Z : List PRec)   (newG : Nat → Nat → Int32) (hv : newG = C_CO_copyFrom_from j G) : sMv D (cT cI cJ cD cS) (cW ad cI cJ cD cS) l yX1_copyFrom (ws1 yX1_copyFrom cX1_copyFrom 2 none) ({ frames := 1, cells := 0, slots := 0, locals := 40 }) [.ref (ad 2), .ref (ad (39 + 3 * j))] (G, E, Dd, P, Z) (newG, E, Dd, P, Z) := by
  have hf : (nm (wc G (90 + j) 4 48) fun G1 =>
nm (wf G1 5 (G1 (70 + j) 0)) fun G3 =>
some G3) = some newG := by rw [hv]; rfl
  refine sMv_of (by decide) (Nat.le_of_ble_eq_true rfl) ?_
  intro p e R s m args below meth c A Q ls H lo F hRf hRl I hl ret
  obtain ⟨hx, hb, hml, hown, hG⟩ := id F
  replace hl : lv_has ls 2 [(0, .ref (ad 2)), (1, .ref (ad (39 + 3 * j)))] := hl
  refine lv_aload_n hx hb dX1_copyFrom_0 rfl (lv_at hl 1 rfl) ?_
  refine kgscX1_9 hj F I dX1_copyFrom_1 ?_
  refine lv_iconst (v := (0 : Int32)) hx hb dX1_copyFrom_4 (by decide) ?_
  refine lv_aload_n hx hb dX1_copyFrom_5 rfl (lv_at hl 0 rfl) ?_
  refine kgtX1_9_2 F I dX1_copyFrom_6 ?_
  refine lv_iconst (v := (0 : Int32)) hx hb dX1_copyFrom_9 (by decide) ?_
  refine lv_bipush (v := (48 : Int32)) hx hb dX1_copyFrom_10 (by decide) ?_
  refine kcpX1_36_from hj F I hl.1 (Nat.le_trans (Nat.le_of_ble_eq_true rfl) hRf) (Nat.le_trans (Nat.le_of_ble_eq_true rfl) hRl) (Nat.le_of_ble_eq_true rfl) dX1_copyFrom_12 ?_
  intro H_2 lo_2 G1 eG1 I_2
  replace hf := nm_some eG1 hf
  refine lv_aload_n hx hb dX1_copyFrom_15 rfl (lv_at hl 0 rfl) ?_
  refine lv_aload_n hx hb dX1_copyFrom_16 rfl (lv_at hl 1 rfl) ?_
  refine kgscX1_15 hj F I_2 dX1_copyFrom_17 ?_
  refine kptX1_15_2 F I_2 dX1_copyFrom_20 ?_
  intro H_4 lo_4 G3 eG3 I_4
  replace hf := nm_some eG3 hf
  cases hf
  exact ret H_4 lo_4 _ ls I_4 dX1_copyFrom_23
def C_LT_undo (G : Nat → Nat → Int32) (P : Nat → Option PRec) : Option (Int32 × (Nat → Nat → Int32) × (Nat → Option PRec)) :=
bd2 (C_HI_takeLatest G) fun r1 G2 =>
oc (r1) (none) (fun j5 => gd (j5 < 12) <|
nm (C_CO_copyFrom_from j5 G2) fun G8 =>
oc (P (1 + j5)) (nm (va_up P 0 none) fun P12 =>
nm (wf G8 3 (G8 (50 + j5) 0)) fun G14 =>
some (G14 5 0, G14, P12)) (fun z11 => nm (va_up P 0 (some z11)) fun P16 =>
nm (wf G8 3 (G8 (50 + j5) 0)) fun G18 =>
some (G18 5 0, G18, P16)))
set_option maxRecDepth 100000 in
set_option maxHeartbeats 4000000 in
theorem cC_LT_undo (G : Nat → Nat → Int32) (E : Nat → Nat → Int64) (Dd : Nat → Nat → UInt64) (P : Nat → Option PRec) (Z : List PRec) (hPZ : ∀ (k : Nat) (z : PRec), P k = some z → z ∈ Z)  (rv : Int32) (newG : Nat → Nat → Int32) (newP : Nat → Option PRec) (hf : C_LT_undo G P = some (rv, newG, newP)) : sMi D (cT cI cJ cD cS) (cW ad cI cJ cD cS) l yX11_undo (ws1 yX11_undo cX11_undo 2 (some .int)) ({ frames := 2, cells := 0, slots := 0, locals := 61 }) [.ref (ad 0)] (G, E, Dd, P, Z) (rv, (newG, E, Dd, newP, Z)) := by
  unfold C_LT_undo at hf
  refine sMi_of (by decide) (Nat.le_of_ble_eq_true rfl) ?_
  intro p e R s m args below meth c A Q ls H lo F hRf hRl I hl ret
  obtain ⟨hx, hb, hml, hown, hG⟩ := id F
  replace hl : lv_has ls 2 [(0, .ref (ad 0))] := hl
  refine lv_aload_n hx hb dX11_undo_0 rfl (lv_at hl 0 rfl) ?_
  refine kgtX11_23_0 F I dX11_undo_1 ?_
  obtain ⟨r1, G2, h3, hf⟩ := bd2_some hf
  refine s_callVq (As := []) (rest := []) F I (cC_HI_takeLatest G E Dd P Z r1 G2 h3) kX11_154 ⟨rfl, rfl⟩ ⟨Nat.le_trans (Nat.le_of_ble_eq_true rfl) hRf, Nat.le_trans (Nat.le_of_ble_eq_true rfl) hRl⟩ (4) 2 rfl rfl rfl rfl rfl hl.1 (Nat.le_of_ble_eq_true rfl) ⟨Nat.zero_le _, Nat.zero_le _⟩ dX11_undo_4 ?_
  intro H_4 lo_4 I_4
  rcases hsj5 : r1 with _ | j5
  · replace hf := (oc_none hsj5).symm.trans hf
    refine W.eq (g2 := F0 m 7 ls [.null]) rfl ?_
    refine lv_astore_nN (lv' := [(1, .null), (0, .ref (ad 0))]) hx hb dX11_undo_7 rfl hl (by decide) rfl (fun ls_6 hl_6 => ?_)
    refine lv_aload_nN hx hb dX11_undo_8 rfl (lv_at hl_6 0 rfl) ?_
    refine lv_ifnonnullN hx hb dX11_undo_9 ?_
    cases hf
  · replace hf := (oc_some hsj5).symm.trans hf
    refine W.eq (g2 := F0 m 7 ls [.ref (ad (38 + 3 * j5))]) rfl ?_
    obtain ⟨hjj5, hf⟩ := gd_some hf
    refine lv_astore_n (lv' := [(1, .ref (ad (38 + 3 * j5))), (0, .ref (ad 0))]) hx hb dX11_undo_7 rfl hl (by decide) rfl (fun ls_7 hl_7 => ?_)
    refine lv_aload_n hx hb dX11_undo_8 rfl (lv_at hl_7 0 rfl) ?_
    refine lv_ifnonnull (tgt := 22) hx hb dX11_undo_9 (by decide) ?_
    refine lv_aload_n hx hb dX11_undo_22 rfl (lv_at hl_7 1 rfl) ?_
    refine kgtX11_16_0 F I_4 dX11_undo_23 ?_
    refine lv_aload_n hx hb dX11_undo_26 rfl (lv_at hl_7 0 rfl) ?_
    refine kgstX11_160 hjj5 F I_4 dX11_undo_27 ?_
    obtain ⟨G8, h9⟩ : ∃ z, z = C_CO_copyFrom_from j5 G2 := ⟨_, rfl⟩
    replace hf := nm_some h9 hf
    refine s_callVv (As := [.ref (ad (39 + 3 * j5))]) (rest := []) F I_4 (cC_CO_copyFrom_from (j5) hjj5 G2 E Dd P Z G8 h9) kX11_163 ⟨rfl, rfl⟩ ⟨Nat.le_trans (Nat.le_of_ble_eq_true rfl) hRf, Nat.le_trans (Nat.le_of_ble_eq_true rfl) hRl⟩ (2) 1 rfl rfl rfl rfl rfl hl_7.1 (Nat.le_of_ble_eq_true rfl) ⟨Nat.zero_le _, Nat.zero_le _⟩ dX11_undo_30 ?_
    intro H_10 lo_10 I_10
    refine lv_aload_n hx hb dX11_undo_33 rfl (lv_at hl_7 1 rfl) ?_
    refine lv_aload_n hx hb dX11_undo_34 rfl (lv_at hl_7 0 rfl) ?_
    refine kgstX11_167 hjj5 F I_10 dX11_undo_35 ?_
    rcases hsz11 : P (1 + j5) with _ | z11
    · replace hf := (oc_none hsz11).symm.trans hf
      refine W.eq (g2 := F0 m 38 ls_7 [.null, .ref (ad 0)]) rfl ?_
      refine kppX11_95 (o := none) F I_10 dX11_undo_38 ?_
      intro H_13 lo_13 P12 eP12 I_13
      replace hf := nm_some eP12 hf
      have hzP12 := hz_up hPZ eP12 (fun _ h => by cases h)
      refine lv_aload_n hx hb dX11_undo_41 rfl (lv_at hl_7 1 rfl) ?_
      refine lv_aload_n hx hb dX11_undo_42 rfl (lv_at hl_7 0 rfl) ?_
      refine kgstX11_168 hjj5 F I_13 dX11_undo_43 ?_
      refine kptX11_99_0 F I_13 dX11_undo_46 ?_
      intro H_15 lo_15 G14 eG14 I_15
      replace hf := nm_some eG14 hf
      refine lv_aload_n hx hb dX11_undo_49 rfl (lv_at hl_7 1 rfl) ?_
      refine kgtX11_16_0 F I_15 dX11_undo_50 ?_
      refine kgtX11_149_2 F I_15 dX11_undo_53 ?_
      cases hf
      exact ret H_15 lo_15 _ ls_7 I_15 dX11_undo_56
    · replace hf := (oc_some hsz11).symm.trans hf
      refine W.eq (g2 := F0 m 38 ls_7 [.ref (z11.1), .ref (ad 0)]) rfl ?_
      refine kppX11_95 (o := (some z11)) F I_10 dX11_undo_38 ?_
      intro H_17 lo_17 P16 eP16 I_17
      replace hf := nm_some eP16 hf
      have hzP16 := hz_up hPZ eP16 (fun _ h => by cases h; exact (hPZ _ _ hsz11))
      refine lv_aload_n hx hb dX11_undo_41 rfl (lv_at hl_7 1 rfl) ?_
      refine lv_aload_n hx hb dX11_undo_42 rfl (lv_at hl_7 0 rfl) ?_
      refine kgstX11_168 hjj5 F I_17 dX11_undo_43 ?_
      refine kptX11_99_0 F I_17 dX11_undo_46 ?_
      intro H_19 lo_19 G18 eG18 I_19
      replace hf := nm_some eG18 hf
      refine lv_aload_n hx hb dX11_undo_49 rfl (lv_at hl_7 1 rfl) ?_
      refine kgtX11_16_0 F I_19 dX11_undo_50 ?_
      refine kgtX11_149_2 F I_19 dX11_undo_53 ?_
      cases hf
      exact ret H_19 lo_19 _ ls_7 I_19 dX11_undo_56
def C_LT_append (G : Nat → Nat → Int32) (a0 : Int32) : Option (Int32 × (Nat → Nat → Int32)) :=
bd (if a0 < (33 : Int32) then
(some (0 : Int32))
else
(if (126 : Int32) < a0 then
(some (0 : Int32))
else
(some (1 : Int32)))) fun x2 =>
bd0 (C_LT_requireArgument x2) <|
bd (C_TX_isFull G) fun r8 =>
if r8 = 0 then
(bd (C_TX_put G a0) fun G11 =>
some (G11 9 0, G11))
else
(none)
set_option maxRecDepth 100000 in
set_option maxHeartbeats 4000000 in
theorem cC_LT_append (G : Nat → Nat → Int32) (E : Nat → Nat → Int64) (Dd : Nat → Nat → UInt64) (P : Nat → Option PRec) (Z : List PRec) (a0 : Int32) (rv : Int32) (newG : Nat → Nat → Int32) (hf : C_LT_append G a0 = some (rv, newG)) : sMi D (cT cI cJ cD cS) (cW ad cI cJ cD cS) l yX11_append (ws1 yX11_append cX11_append 2 (some .int)) ({ frames := 2, cells := 0, slots := 0, locals := 41 }) [.ref (ad 0), .int a0] (G, E, Dd, P, Z) (rv, (newG, E, Dd, P, Z)) := by
  unfold C_LT_append at hf
  refine sMi_of (by decide) (Nat.le_of_ble_eq_true rfl) ?_
  intro p e R s m args below meth c A Q ls H lo F hRf hRl I hl ret
  obtain ⟨hx, hb, hml, hown, hG⟩ := id F
  replace hl : lv_has ls 2 [(0, .ref (ad 0)), (1, .int a0)] := hl
  refine lv_iload_n hx hb dX11_append_0 rfl (lv_at hl 1 rfl) ?_
  refine lv_bipush (v := (33 : Int32)) hx hb dX11_append_1 (by decide) ?_
  obtain ⟨x2, hv15, hf⟩ := bd_some hf
  have J1 : ∀ (H : Heap) (locs : List Loc), sInv D (cT cI cJ cD cS) (cW ad cI cJ cD cS) A s H locs (G, E, Dd, P, Z) → ∀ (ls : Array Slot), lv_has ls 2 [(0, .ref (ad 0)), (1, .int a0)] → W p l e R s m args below meth c H locs 0 0 Q (F0 m 17 ls [.int x2]) := by
    intro H_3 lo_3 I_3 ls_4 hl_4
    obtain ⟨h6, hf⟩ := bd0_some hf
    refine s_callSv (As := [.int x2]) (rest := []) F I_3 (cC_LT_requireArgument G E Dd P Z x2 h6) kX11_76 ⟨rfl, rfl⟩ ⟨Nat.le_trans (Nat.le_of_ble_eq_true rfl) hRf, Nat.le_trans (Nat.le_of_ble_eq_true rfl) hRl⟩ rfl rfl hl_4.1 (Nat.le_of_ble_eq_true rfl) ⟨Nat.zero_le _, Nat.zero_le _⟩ dX11_append_17 ?_
    intro H_7 lo_7 I_7
    refine lv_aload_n hx hb dX11_append_20 rfl (lv_at hl_4 0 rfl) ?_
    refine kgtX11_30_0 F I_7 dX11_append_21 ?_
    obtain ⟨r8, h9, hf⟩ := bd_some hf
    refine s_callVi (As := []) (rest := []) F I_7 (cC_TX_isFull G E Dd P Z r8 h9) kX11_169 ⟨rfl, rfl⟩ ⟨Nat.le_trans (Nat.le_of_ble_eq_true rfl) hRf, Nat.le_trans (Nat.le_of_ble_eq_true rfl) hRl⟩ (6) 10 rfl rfl rfl rfl rfl hl_4.1 (Nat.le_of_ble_eq_true rfl) ⟨Nat.zero_le _, Nat.zero_le _⟩ dX11_append_24 ?_
    intro H_10 lo_10 I_10
    refine lv_if_eq (tgt := 40) hx hb dX11_append_27 (by decide) (fun c14 => ?_) (fun c14 => ?_)
    · replace hf := (if_pos c14).symm.trans hf
      refine lv_aload_n hx hb dX11_append_40 rfl (lv_at hl_4 0 rfl) ?_
      refine kgtX11_30_0 F I_10 dX11_append_41 ?_
      refine lv_iload_n hx hb dX11_append_44 rfl (lv_at hl_4 1 rfl) ?_
      obtain ⟨G11, h12, hf⟩ := bd_some hf
      refine s_callVv (As := [.int a0]) (rest := []) F I_10 (cC_TX_put G E Dd P Z a0 G11 h12) kX11_172 ⟨rfl, rfl⟩ ⟨Nat.le_trans (Nat.le_of_ble_eq_true rfl) hRf, Nat.le_trans (Nat.le_of_ble_eq_true rfl) hRl⟩ (6) 10 rfl rfl rfl rfl rfl hl_4.1 (Nat.le_of_ble_eq_true rfl) ⟨Nat.zero_le _, Nat.zero_le _⟩ dX11_append_45 ?_
      intro H_13 lo_13 I_13
      refine lv_aload_n hx hb dX11_append_48 rfl (lv_at hl_4 0 rfl) ?_
      refine kgtX11_30_0 F I_13 dX11_append_49 ?_
      refine kgtX11_173_6 F I_13 dX11_append_52 ?_
      cases hf
      exact ret H_13 lo_13 _ ls_4 I_13 dX11_append_55
    · replace hf := (if_neg c14).symm.trans hf
      cases hf
  replace hf := hv15
  refine lv_icmp_lt (tgt := 16) hx hb dX11_append_3 (by decide) (fun c17 => ?_) (fun c17 => ?_)
  · replace hf := (if_pos c17).symm.trans hf
    refine lv_iconst (v := (0 : Int32)) hx hb dX11_append_16 (by decide) ?_
    cases hf
    exact J1 H lo I ls (lv_sub hl [0, 1] rfl)
  · replace hf := (if_neg c17).symm.trans hf
    refine lv_iload_n hx hb dX11_append_6 rfl (lv_at hl 1 rfl) ?_
    refine lv_bipush (v := (126 : Int32)) hx hb dX11_append_7 (by decide) ?_
    refine lv_icmp_gt (tgt := 16) hx hb dX11_append_9 (by decide) (fun c16 => ?_) (fun c16 => ?_)
    · replace hf := (if_pos c16).symm.trans hf
      refine lv_iconst (v := (0 : Int32)) hx hb dX11_append_16 (by decide) ?_
      cases hf
      exact J1 H lo I ls (lv_sub hl [0, 1] rfl)
    · replace hf := (if_neg c16).symm.trans hf
      refine lv_iconst (v := (1 : Int32)) hx hb dX11_append_12 (by decide) ?_
      refine lv_goto (tgt := 17) hx hb dX11_append_13 (by decide) ?_
      cases hf
      exact J1 H lo I ls (lv_sub hl [0, 1] rfl)
def C_LT_clearBuffer (G : Nat → Nat → Int32) : Option (Int32 × (Nat → Nat → Int32)) :=
nm (G 9 0 : Int32) fun x1 =>
nm (wf G 9 (0 : Int32)) fun G3 =>
some (x1, G3)
set_option maxRecDepth 100000 in
set_option maxHeartbeats 4000000 in
theorem cC_LT_clearBuffer (G : Nat → Nat → Int32) (E : Nat → Nat → Int64) (Dd : Nat → Nat → UInt64) (P : Nat → Option PRec) (Z : List PRec)  (rv : Int32) (newG : Nat → Nat → Int32) (hf : C_LT_clearBuffer G = some (rv, newG)) : sMi D (cT cI cJ cD cS) (cW ad cI cJ cD cS) l yX11_clearBuffer (ws1 yX11_clearBuffer cX11_clearBuffer 2 (some .int)) ({ frames := 0, cells := 0, slots := 0, locals := 0 }) [.ref (ad 0)] (G, E, Dd, P, Z) (rv, (newG, E, Dd, P, Z)) := by
  unfold C_LT_clearBuffer at hf
  refine sMi_of (by decide) (Nat.le_of_ble_eq_true rfl) ?_
  intro p e R s m args below meth c A Q ls H lo F hRf hRl I hl ret
  obtain ⟨hx, hb, hml, hown, hG⟩ := id F
  replace hl : lv_has ls 2 [(0, .ref (ad 0))] := hl
  refine lv_aload_n hx hb dX11_clearBuffer_0 rfl (lv_at hl 0 rfl) ?_
  refine kgtX11_30_0 F I dX11_clearBuffer_1 ?_
  refine kgtX11_173_6 F I dX11_clearBuffer_4 ?_
  refine lv_topi (fun x1 ex1 => ?_)
  replace hf := nm_some ex1 hf
  refine lv_istore_n (lv' := [(1, .int x1), (0, .ref (ad 0))]) hx hb dX11_clearBuffer_7 rfl hl (by decide) rfl (fun ls_2 hl_2 => ?_)
  refine lv_aload_n hx hb dX11_clearBuffer_8 rfl (lv_at hl_2 1 rfl) ?_
  refine kgtX11_30_0 F I dX11_clearBuffer_9 ?_
  refine lv_iconst (v := (0 : Int32)) hx hb dX11_clearBuffer_12 (by decide) ?_
  refine kptX11_173_6 F I dX11_clearBuffer_13 ?_
  intro H_4 lo_4 G3 eG3 I_4
  replace hf := nm_some eG3 hf
  refine lv_iload_n hx hb dX11_clearBuffer_16 rfl (lv_at hl_2 0 rfl) ?_
  cases hf
  exact ret H_4 lo_4 _ ls_2 I_4 dX11_clearBuffer_17
def C_LT_firstError (G : Nat → Nat → Int32) : Option (Int32 × (Nat → Nat → Int32)) :=
bd2 (C_TX_scan G (G 0 0) (G 1 0)) fun r1 G2 =>
some (r1, G2)
set_option maxRecDepth 100000 in
set_option maxHeartbeats 4000000 in
theorem cC_LT_firstError (G : Nat → Nat → Int32) (E : Nat → Nat → Int64) (Dd : Nat → Nat → UInt64) (P : Nat → Option PRec) (Z : List PRec)  (rv : Int32) (newG : Nat → Nat → Int32) (hf : C_LT_firstError G = some (rv, newG)) : sMi D (cT cI cJ cD cS) (cW ad cI cJ cD cS) l yX11_firstError (ws1 yX11_firstError cX11_firstError 1 (some .int)) ({ frames := 4, cells := 0, slots := 0, locals := 91 }) [.ref (ad 0)] (G, E, Dd, P, Z) (rv, (newG, E, Dd, P, Z)) := by
  unfold C_LT_firstError at hf
  refine sMi_of (by decide) (Nat.le_of_ble_eq_true rfl) ?_
  intro p e R s m args below meth c A Q ls H lo F hRf hRl I hl ret
  obtain ⟨hx, hb, hml, hown, hG⟩ := id F
  replace hl : lv_has ls 1 [(0, .ref (ad 0))] := hl
  refine lv_aload_n hx hb dX11_firstError_0 rfl (lv_at hl 0 rfl) ?_
  refine kgtX11_30_0 F I dX11_firstError_1 ?_
  refine lv_aload_n hx hb dX11_firstError_4 rfl (lv_at hl 0 rfl) ?_
  refine kgtX11_89_0 F I dX11_firstError_5 ?_
  refine lv_aload_n hx hb dX11_firstError_8 rfl (lv_at hl 0 rfl) ?_
  refine kgtX11_80_0 F I dX11_firstError_9 ?_
  obtain ⟨r1, G2, h3, hf⟩ := bd2_some hf
  refine s_callVi (As := [.int (G 0 0), .int (G 1 0)]) (rest := []) F I (cC_TX_scan G E Dd P Z (G 0 0) (G 1 0) r1 G2 h3) kX11_176 ⟨rfl, rfl⟩ ⟨Nat.le_trans (Nat.le_of_ble_eq_true rfl) hRf, Nat.le_trans (Nat.le_of_ble_eq_true rfl) hRl⟩ (6) 10 rfl rfl rfl rfl rfl hl.1 (Nat.le_of_ble_eq_true rfl) ⟨Nat.zero_le _, Nat.zero_le _⟩ dX11_firstError_12 ?_
  intro H_4 lo_4 I_4
  cases hf
  exact ret H_4 lo_4 _ ls I_4 dX11_firstError_15
def C_LT_load_s1 (x7 : Int32) (x16 : Int32) (G17 : Nat → Nat → Int32) : Option ((Int32 × (Nat → Nat → Int32)) ⊕ ((Nat → Nat → Int32))) :=
if x7 ≤ x16 then
(some (.inr G17))
else
(bd (C_TX_foundAt G17 x16) fun r27 =>
bd (C_CO_put G17 r27) fun G30 =>
nm (x16 + (1 : Int32) : Int32) fun x33 =>
some (.inl (x33, G30)))
def C_LT_load (G : Nat → Nat → Int32) (P : Nat → Option PRec) : Option (Int32 × (Nat → Nat → Int32) × (Nat → Option PRec)) :=
bd2 (C_TX_isWhole G (G 0 0) (G 1 0)) fun r1 G2 =>
bd0 (C_LT_requireArgument r1) <|
nm (G2 11 0 : Int32) fun x7 =>
bd0 (C_LT_requireRoom G2 x7) <|
bd2 (C_LT_rememberStep G2 P) fun G11 P12 =>
bd (lp (fun q => C_LT_load_s1 x7 q.1 q.2) FU ((0 : Int32), G11)) fun G18 =>
nm (wf G18 9 (0 : Int32)) fun G22 =>
some (x7, G22, P12)
set_option maxRecDepth 100000 in
set_option maxHeartbeats 4000000 in
theorem cC_LT_load (G : Nat → Nat → Int32) (E : Nat → Nat → Int64) (Dd : Nat → Nat → UInt64) (P : Nat → Option PRec) (Z : List PRec) (hPZ : ∀ (k : Nat) (z : PRec), P k = some z → z ∈ Z)  (rv : Int32) (newG : Nat → Nat → Int32) (newP : Nat → Option PRec) (hf : C_LT_load G P = some (rv, newG, newP)) : sMi D (cT cI cJ cD cS) (cW ad cI cJ cD cS) l yX11_load (ws1 yX11_load cX11_load 3 (some .int)) ({ frames := 5, cells := 0, slots := 0, locals := 113 }) [.ref (ad 0)] (G, E, Dd, P, Z) (rv, (newG, E, Dd, newP, Z)) := by
  unfold C_LT_load at hf
  refine sMi_of (by decide) (Nat.le_of_ble_eq_true rfl) ?_
  intro p e R s m args below meth c A Q ls H lo F hRf hRl I hl ret
  obtain ⟨hx, hb, hml, hown, hG⟩ := id F
  replace hl : lv_has ls 3 [(0, .ref (ad 0))] := hl
  refine lv_aload_n hx hb dX11_load_0 rfl (lv_at hl 0 rfl) ?_
  refine kgtX11_30_0 F I dX11_load_1 ?_
  refine lv_aload_n hx hb dX11_load_4 rfl (lv_at hl 0 rfl) ?_
  refine kgtX11_89_0 F I dX11_load_5 ?_
  refine lv_aload_n hx hb dX11_load_8 rfl (lv_at hl 0 rfl) ?_
  refine kgtX11_80_0 F I dX11_load_9 ?_
  obtain ⟨r1, G2, h3, hf⟩ := bd2_some hf
  refine s_callVi (As := [.int (G 0 0), .int (G 1 0)]) (rest := []) F I (cC_TX_isWhole G E Dd P Z (G 0 0) (G 1 0) r1 G2 h3) kX11_180 ⟨rfl, rfl⟩ ⟨Nat.le_trans (Nat.le_of_ble_eq_true rfl) hRf, Nat.le_trans (Nat.le_of_ble_eq_true rfl) hRl⟩ (6) 10 rfl rfl rfl rfl rfl hl.1 (Nat.le_of_ble_eq_true rfl) ⟨Nat.zero_le _, Nat.zero_le _⟩ dX11_load_12 ?_
  intro H_4 lo_4 I_4
  obtain ⟨h5, hf⟩ := bd0_some hf
  refine s_callSv (As := [.int r1]) (rest := []) F I_4 (cC_LT_requireArgument G2 E Dd P Z r1 h5) kX11_76 ⟨rfl, rfl⟩ ⟨Nat.le_trans (Nat.le_of_ble_eq_true rfl) hRf, Nat.le_trans (Nat.le_of_ble_eq_true rfl) hRl⟩ rfl rfl hl.1 (Nat.le_of_ble_eq_true rfl) ⟨Nat.zero_le _, Nat.zero_le _⟩ dX11_load_15 ?_
  intro H_6 lo_6 I_6
  refine lv_aload_n hx hb dX11_load_18 rfl (lv_at hl 0 rfl) ?_
  refine kgtX11_30_0 F I_6 dX11_load_19 ?_
  refine kgtX11_184_6 F I_6 dX11_load_22 ?_
  refine lv_topi (fun x7 ex7 => ?_)
  replace hf := nm_some ex7 hf
  refine lv_istore_n (lv' := [(1, .int x7), (0, .ref (ad 0))]) hx hb dX11_load_25 rfl hl (by decide) rfl (fun ls_8 hl_8 => ?_)
  refine lv_aload_n hx hb dX11_load_26 rfl (lv_at hl_8 1 rfl) ?_
  refine lv_iload_n hx hb dX11_load_27 rfl (lv_at hl_8 0 rfl) ?_
  obtain ⟨h9, hf⟩ := bd0_some hf
  refine s_callVv (As := [.int x7]) (rest := []) F I_6 (cC_LT_requireRoom G2 E Dd P Z x7 h9) kX11_146 ⟨rfl, rfl⟩ ⟨Nat.le_trans (Nat.le_of_ble_eq_true rfl) hRf, Nat.le_trans (Nat.le_of_ble_eq_true rfl) hRl⟩ (0) 11 rfl rfl rfl rfl rfl hl_8.1 (Nat.le_of_ble_eq_true rfl) ⟨Nat.zero_le _, Nat.zero_le _⟩ dX11_load_28 ?_
  intro H_10 lo_10 I_10
  refine lv_aload_n hx hb dX11_load_31 rfl (lv_at hl_8 1 rfl) ?_
  obtain ⟨G11, P12, h13, hf⟩ := bd2_some hf
  refine s_callVv (As := []) (rest := []) F I_10 (cC_LT_rememberStep G2 E Dd P Z hPZ G11 P12 h13) kX11_130 ⟨rfl, rfl⟩ ⟨Nat.le_trans (Nat.le_of_ble_eq_true rfl) hRf, Nat.le_trans (Nat.le_of_ble_eq_true rfl) hRl⟩ (0) 11 rfl rfl rfl rfl rfl hl_8.1 (Nat.le_of_ble_eq_true rfl) ⟨Nat.zero_le _, Nat.zero_le _⟩ dX11_load_32 ?_
  intro H_14 lo_14 I_14
  have hzP12 := hzC_LT_rememberStep h13 hPZ 
  refine lv_iconst (v := (0 : Int32)) hx hb dX11_load_35 (by decide) ?_
  refine lv_istore_n (lv' := [(2, .int (0 : Int32)), (1, .int x7), (0, .ref (ad 0))]) hx hb dX11_load_36 rfl hl_8 (by decide) rfl (fun ls_15 hl_15 => ?_)
  obtain ⟨G18, hq1, hf⟩ := bd_some hf
  have K1 : ∀ (H : Heap) (locs : List Loc), sInv D (cT cI cJ cD cS) (cW ad cI cJ cD cS) A s H locs (G18, E, Dd, P12, Z) → ∀ (ls : Array Slot), lv_has ls 3 [(0, .ref (ad 0)), (1, .int x7)] → W p l e R s m args below meth c H locs 0 0 Q (F0 m 63 ls []) := by
    intro H_19 lo_19 I_19 ls_20 hl_20
    refine lv_aload_n hx hb dX11_load_63 rfl (lv_at hl_20 0 rfl) ?_
    refine kgtX11_30_0 F I_19 dX11_load_64 ?_
    refine lv_iconst (v := (0 : Int32)) hx hb dX11_load_67 (by decide) ?_
    refine kptX11_173_6 F I_19 dX11_load_68 ?_
    intro H_23 lo_23 G22 eG22 I_23
    replace hf := nm_some eG22 hf
    refine lv_iload_n hx hb dX11_load_71 rfl (lv_at hl_20 1 rfl) ?_
    cases hf
    exact ret H_23 lo_23 _ ls_20 I_23 dX11_load_72
  have L1 : ∀ (n : Nat) (x16 : Int32) (G17 : Nat → Nat → Int32), lp (fun q => C_LT_load_s1 x7 q.1 q.2) n (x16, G17) = some G18 → ∀ (H : Heap) (locs : List Loc), sInv D (cT cI cJ cD cS) (cW ad cI cJ cD cS) A s H locs (G17, E, Dd, P12, Z) → ∀ (ls : Array Slot), lv_has ls 3 [(0, .ref (ad 0)), (1, .int x7), (2, .int x16)] → W p l e R s m args below meth c H locs 0 0 Q (F0 m 37 ls []) := by
    intro n
    induction n with
    | zero => intro x16 G17 hq; exact (lp_0 hq).elim
    | succ n ih1 =>
      intro x16 G17 hq H_24 lo_24 I_24 ls_25 hl_25
      obtain ⟨y1, hf, hK1⟩ := lp_go hq
      replace hf : C_LT_load_s1 x7 x16 G17 = some y1 := hf
      unfold C_LT_load_s1 at hf
      refine lv_iload_n hx hb dX11_load_37 rfl (lv_at hl_25 2 rfl) ?_
      refine lv_iload_n hx hb dX11_load_38 rfl (lv_at hl_25 1 rfl) ?_
      refine lv_icmp_ge (tgt := 63) hx hb dX11_load_39 (by decide) (fun c35 => ?_) (fun c35 => ?_)
      · replace hf := (if_pos c35).symm.trans hf
        cases hf
        cases (show G17 = G18 from hK1)
        exact K1 H_24 lo_24 I_24 ls_25 (lv_sub hl_25 [0, 1] rfl)
      · replace hf := (if_neg c35).symm.trans hf
        refine lv_aload_n hx hb dX11_load_42 rfl (lv_at hl_25 0 rfl) ?_
        refine kgtX11_16_0 F I_24 dX11_load_43 ?_
        refine lv_aload_n hx hb dX11_load_46 rfl (lv_at hl_25 0 rfl) ?_
        refine kgtX11_30_0 F I_24 dX11_load_47 ?_
        refine lv_iload_n hx hb dX11_load_50 rfl (lv_at hl_25 2 rfl) ?_
        obtain ⟨r27, h28, hf⟩ := bd_some hf
        refine s_callVi (As := [.int x16]) (rest := [.ref (ad 2)]) F I_24 (cC_TX_foundAt G17 E Dd P12 Z x16 r27 h28) kX11_187 ⟨rfl, rfl⟩ ⟨Nat.le_trans (Nat.le_of_ble_eq_true rfl) hRf, Nat.le_trans (Nat.le_of_ble_eq_true rfl) hRl⟩ (6) 10 rfl rfl rfl rfl rfl hl_25.1 (Nat.le_of_ble_eq_true rfl) ⟨Nat.zero_le _, Nat.zero_le _⟩ dX11_load_51 ?_
        intro H_29 lo_29 I_29
        obtain ⟨G30, h31, hf⟩ := bd_some hf
        refine s_callVv (As := [.int r27]) (rest := []) F I_29 (cC_CO_put G17 E Dd P12 Z r27 G30 h31) kX11_140 ⟨rfl, rfl⟩ ⟨Nat.le_trans (Nat.le_of_ble_eq_true rfl) hRf, Nat.le_trans (Nat.le_of_ble_eq_true rfl) hRl⟩ (2) 1 rfl rfl rfl rfl rfl hl_25.1 (Nat.le_of_ble_eq_true rfl) ⟨Nat.zero_le _, Nat.zero_le _⟩ dX11_load_54 ?_
        intro H_32 lo_32 I_32
        obtain ⟨x33, ex33⟩ : ∃ y : Int32, y = x16 + (1 : Int32) := ⟨_, rfl⟩
        replace hf := nm_some ex33 hf
        refine lv_iinc (v := x33) (lv' := [(2, .int x33), (0, .ref (ad 0)), (1, .int x7)]) hx hb dX11_load_57 hl_25 (k := 2) rfl (by rw [ex33]; rfl) (by decide) rfl (fun ls_34 hl_34 => ?_)
        refine lv_goto (tgt := 37) hx hb dX11_load_60 (by decide) ?_
        cases hf
        exact ih1 _ _ hK1 H_32 lo_32 I_32 ls_34 (lv_sub hl_34 [1, 2, 0] rfl)
  exact L1 FU _ _ hq1 H_14 lo_14 I_14 ls_15 (lv_sub hl_15 [2, 1, 0] rfl)
def C_LT_countOf (G : Nat → Nat → Int32) (P : Nat → Option PRec) (a0 : Int32) : Option (Int32) :=
oc (P 0) (if a0 = (0 : Int32) then
(some (G 0 0))
else if a0 = (1 : Int32) then
(some (G 1 0))
else if a0 = (2 : Int32) then
(some (G 5 0))
else if a0 = (3 : Int32) then
(bd (C_CO_countAnswers G (0 : Int32)) fun r7 =>
some r7)
else if a0 = (4 : Int32) then
(bd (C_CO_countAnswers G (1 : Int32)) fun r11 =>
some r11)
else if a0 = (5 : Int32) then
(bd (C_LT_trialsLeft G P) fun r15 =>
some r15)
else if a0 = (6 : Int32) then
(some (G 7 0))
else (some (-1 : Int32))) (fun z1 => if a0 = (0 : Int32) then
(some (G 0 0))
else if a0 = (1 : Int32) then
(some (G 1 0))
else if a0 = (2 : Int32) then
(some (G 5 0))
else if a0 = (3 : Int32) then
(bd (C_CO_countAnswers G (0 : Int32)) fun r24 =>
some r24)
else if a0 = (4 : Int32) then
(bd (C_CO_countAnswers G (1 : Int32)) fun r28 =>
some r28)
else if a0 = (5 : Int32) then
(bd (C_LT_trialsLeft G P) fun r32 =>
some r32)
else if a0 = (6 : Int32) then
(some (G 7 0))
else (some z1.2.2.1))
set_option maxRecDepth 100000 in
set_option maxHeartbeats 4000000 in
theorem cC_LT_countOf (G : Nat → Nat → Int32) (E : Nat → Nat → Int64) (Dd : Nat → Nat → UInt64) (P : Nat → Option PRec) (Z : List PRec) (hPZ : ∀ (k : Nat) (z : PRec), P k = some z → z ∈ Z) (a0 : Int32) (rv : Int32)  (hf : C_LT_countOf G P a0 = some rv) : sMi D (cT cI cJ cD cS) (cW ad cI cJ cD cS) l yX11_countOf (ws1 yX11_countOf cX11_countOf 3 (some .int)) ({ frames := 2, cells := 0, slots := 0, locals := 43 }) [.ref (ad 0), .int a0] (G, E, Dd, P, Z) (rv, (G, E, Dd, P, Z)) := by
  unfold C_LT_countOf at hf
  refine sMi_of (by decide) (Nat.le_of_ble_eq_true rfl) ?_
  intro p e R s m args below meth c A Q ls H lo F hRf hRl I hl ret
  obtain ⟨hx, hb, hml, hown, hG⟩ := id F
  replace hl : lv_has ls 3 [(0, .ref (ad 0)), (1, .int a0)] := hl
  refine lv_aload_n hx hb dX11_countOf_0 rfl (lv_at hl 0 rfl) ?_
  refine kgtX11_95_0 F I dX11_countOf_1 ?_
  rcases hsz1 : P 0 with _ | z1
  · replace hf := (oc_none hsz1).symm.trans hf
    refine W.eq (g2 := F0 m 4 ls [.null]) rfl ?_
    refine lv_astore_nN (lv' := [(2, .null), (0, .ref (ad 0)), (1, .int a0)]) hx hb dX11_countOf_4 rfl hl (by decide) rfl (fun ls_2 hl_2 => ?_)
    refine lv_iload_n hx hb dX11_countOf_5 rfl (lv_at hl_2 2 rfl) ?_
    by_cases c3 : a0 = (0 : Int32)
    · replace hf := (if_pos c3).symm.trans hf
      refine lv_tableIn (off := 42) (tgt := 48) hx hb dX11_countOf_6 (by rw [c3]; decide) (by rw [c3]; decide) (by rw [c3]; rfl) (by decide) ?_
      refine lv_aload_n hx hb dX11_countOf_48 rfl (lv_at hl_2 1 rfl) ?_
      refine kgtX11_89_0 F I dX11_countOf_49 ?_
      cases hf
      exact ret H lo _ ls_2 I dX11_countOf_52
    replace hf := (if_neg c3).symm.trans hf
    by_cases c4 : a0 = (1 : Int32)
    · replace hf := (if_pos c4).symm.trans hf
      refine lv_tableIn (off := 47) (tgt := 53) hx hb dX11_countOf_6 (by rw [c4]; decide) (by rw [c4]; decide) (by rw [c4]; rfl) (by decide) ?_
      refine lv_aload_n hx hb dX11_countOf_53 rfl (lv_at hl_2 1 rfl) ?_
      refine kgtX11_80_0 F I dX11_countOf_54 ?_
      cases hf
      exact ret H lo _ ls_2 I dX11_countOf_57
    replace hf := (if_neg c4).symm.trans hf
    by_cases c5 : a0 = (2 : Int32)
    · replace hf := (if_pos c5).symm.trans hf
      refine lv_tableIn (off := 52) (tgt := 58) hx hb dX11_countOf_6 (by rw [c5]; decide) (by rw [c5]; decide) (by rw [c5]; rfl) (by decide) ?_
      refine lv_aload_n hx hb dX11_countOf_58 rfl (lv_at hl_2 1 rfl) ?_
      refine kgtX11_16_0 F I dX11_countOf_59 ?_
      refine kgtX11_149_2 F I dX11_countOf_62 ?_
      cases hf
      exact ret H lo _ ls_2 I dX11_countOf_65
    replace hf := (if_neg c5).symm.trans hf
    by_cases c6 : a0 = (3 : Int32)
    · replace hf := (if_pos c6).symm.trans hf
      refine lv_tableIn (off := 60) (tgt := 66) hx hb dX11_countOf_6 (by rw [c6]; decide) (by rw [c6]; decide) (by rw [c6]; rfl) (by decide) ?_
      refine lv_aload_n hx hb dX11_countOf_66 rfl (lv_at hl_2 1 rfl) ?_
      refine kgtX11_16_0 F I dX11_countOf_67 ?_
      refine lv_iconst (v := (0 : Int32)) hx hb dX11_countOf_70 (by decide) ?_
      obtain ⟨r7, h8, hf⟩ := bd_some hf
      refine s_callVi (As := [.int (0 : Int32)]) (rest := []) F I (cC_CO_countAnswers G E Dd P Z (0 : Int32) r7 h8) kX11_253 ⟨rfl, rfl⟩ ⟨Nat.le_trans (Nat.le_of_ble_eq_true rfl) hRf, Nat.le_trans (Nat.le_of_ble_eq_true rfl) hRl⟩ (2) 1 rfl rfl rfl rfl rfl hl_2.1 (Nat.le_of_ble_eq_true rfl) ⟨Nat.zero_le _, Nat.zero_le _⟩ dX11_countOf_71 ?_
      intro H_9 lo_9 I_9
      cases hf
      exact ret H_9 lo_9 _ ls_2 I_9 dX11_countOf_74
    replace hf := (if_neg c6).symm.trans hf
    by_cases c10 : a0 = (4 : Int32)
    · replace hf := (if_pos c10).symm.trans hf
      refine lv_tableIn (off := 69) (tgt := 75) hx hb dX11_countOf_6 (by rw [c10]; decide) (by rw [c10]; decide) (by rw [c10]; rfl) (by decide) ?_
      refine lv_aload_n hx hb dX11_countOf_75 rfl (lv_at hl_2 1 rfl) ?_
      refine kgtX11_16_0 F I dX11_countOf_76 ?_
      refine lv_iconst (v := (1 : Int32)) hx hb dX11_countOf_79 (by decide) ?_
      obtain ⟨r11, h12, hf⟩ := bd_some hf
      refine s_callVi (As := [.int (1 : Int32)]) (rest := []) F I (cC_CO_countAnswers G E Dd P Z (1 : Int32) r11 h12) kX11_253 ⟨rfl, rfl⟩ ⟨Nat.le_trans (Nat.le_of_ble_eq_true rfl) hRf, Nat.le_trans (Nat.le_of_ble_eq_true rfl) hRl⟩ (2) 1 rfl rfl rfl rfl rfl hl_2.1 (Nat.le_of_ble_eq_true rfl) ⟨Nat.zero_le _, Nat.zero_le _⟩ dX11_countOf_80 ?_
      intro H_13 lo_13 I_13
      cases hf
      exact ret H_13 lo_13 _ ls_2 I_13 dX11_countOf_83
    replace hf := (if_neg c10).symm.trans hf
    by_cases c14 : a0 = (5 : Int32)
    · replace hf := (if_pos c14).symm.trans hf
      refine lv_tableIn (off := 78) (tgt := 84) hx hb dX11_countOf_6 (by rw [c14]; decide) (by rw [c14]; decide) (by rw [c14]; rfl) (by decide) ?_
      refine lv_aload_n hx hb dX11_countOf_84 rfl (lv_at hl_2 1 rfl) ?_
      obtain ⟨r15, h16, hf⟩ := bd_some hf
      refine s_callVi (As := []) (rest := []) F I (cC_LT_trialsLeft G E Dd P Z hPZ r15 h16) kX11_143 ⟨rfl, rfl⟩ ⟨Nat.le_trans (Nat.le_of_ble_eq_true rfl) hRf, Nat.le_trans (Nat.le_of_ble_eq_true rfl) hRl⟩ (0) 11 rfl rfl rfl rfl rfl hl_2.1 (Nat.le_of_ble_eq_true rfl) ⟨Nat.zero_le _, Nat.zero_le _⟩ dX11_countOf_85 ?_
      intro H_17 lo_17 I_17
      cases hf
      exact ret H_17 lo_17 _ ls_2 I_17 dX11_countOf_88
    replace hf := (if_neg c14).symm.trans hf
    by_cases c18 : a0 = (6 : Int32)
    · replace hf := (if_pos c18).symm.trans hf
      refine lv_tableIn (off := 83) (tgt := 89) hx hb dX11_countOf_6 (by rw [c18]; decide) (by rw [c18]; decide) (by rw [c18]; rfl) (by decide) ?_
      refine lv_aload_n hx hb dX11_countOf_89 rfl (lv_at hl_2 1 rfl) ?_
      refine kgtX11_23_0 F I dX11_countOf_90 ?_
      refine kgtX11_323_4 F I dX11_countOf_93 ?_
      cases hf
      exact ret H lo _ ls_2 I dX11_countOf_96
    replace hf := (if_neg c18).symm.trans hf
    refine lv_tableOut (tgt := 97) hx hb dX11_countOf_6 (tsw6 c3 c4 c5 c6 c10 c14 c18) (by decide) ?_
    refine lv_aload_nN hx hb dX11_countOf_97 rfl (lv_at hl_2 0 rfl) ?_
    refine lv_ifnonnullN hx hb dX11_countOf_98 ?_
    refine lv_iconst (v := (-1 : Int32)) hx hb dX11_countOf_101 (by decide) ?_
    refine lv_goto (tgt := 109) hx hb dX11_countOf_102 (by decide) ?_
    cases hf
    exact ret H lo _ ls_2 I dX11_countOf_109
  · replace hf := (oc_some hsz1).symm.trans hf
    refine W.eq (g2 := F0 m 4 ls [.ref (z1.1)]) rfl ?_
    refine lv_astore_n (lv' := [(2, .ref (z1.1)), (0, .ref (ad 0)), (1, .int a0)]) hx hb dX11_countOf_4 rfl hl (by decide) rfl (fun ls_19 hl_19 => ?_)
    refine lv_iload_n hx hb dX11_countOf_5 rfl (lv_at hl_19 2 rfl) ?_
    by_cases c20 : a0 = (0 : Int32)
    · replace hf := (if_pos c20).symm.trans hf
      refine lv_tableIn (off := 42) (tgt := 48) hx hb dX11_countOf_6 (by rw [c20]; decide) (by rw [c20]; decide) (by rw [c20]; rfl) (by decide) ?_
      refine lv_aload_n hx hb dX11_countOf_48 rfl (lv_at hl_19 1 rfl) ?_
      refine kgtX11_89_0 F I dX11_countOf_49 ?_
      cases hf
      exact ret H lo _ ls_19 I dX11_countOf_52
    replace hf := (if_neg c20).symm.trans hf
    by_cases c21 : a0 = (1 : Int32)
    · replace hf := (if_pos c21).symm.trans hf
      refine lv_tableIn (off := 47) (tgt := 53) hx hb dX11_countOf_6 (by rw [c21]; decide) (by rw [c21]; decide) (by rw [c21]; rfl) (by decide) ?_
      refine lv_aload_n hx hb dX11_countOf_53 rfl (lv_at hl_19 1 rfl) ?_
      refine kgtX11_80_0 F I dX11_countOf_54 ?_
      cases hf
      exact ret H lo _ ls_19 I dX11_countOf_57
    replace hf := (if_neg c21).symm.trans hf
    by_cases c22 : a0 = (2 : Int32)
    · replace hf := (if_pos c22).symm.trans hf
      refine lv_tableIn (off := 52) (tgt := 58) hx hb dX11_countOf_6 (by rw [c22]; decide) (by rw [c22]; decide) (by rw [c22]; rfl) (by decide) ?_
      refine lv_aload_n hx hb dX11_countOf_58 rfl (lv_at hl_19 1 rfl) ?_
      refine kgtX11_16_0 F I dX11_countOf_59 ?_
      refine kgtX11_149_2 F I dX11_countOf_62 ?_
      cases hf
      exact ret H lo _ ls_19 I dX11_countOf_65
    replace hf := (if_neg c22).symm.trans hf
    by_cases c23 : a0 = (3 : Int32)
    · replace hf := (if_pos c23).symm.trans hf
      refine lv_tableIn (off := 60) (tgt := 66) hx hb dX11_countOf_6 (by rw [c23]; decide) (by rw [c23]; decide) (by rw [c23]; rfl) (by decide) ?_
      refine lv_aload_n hx hb dX11_countOf_66 rfl (lv_at hl_19 1 rfl) ?_
      refine kgtX11_16_0 F I dX11_countOf_67 ?_
      refine lv_iconst (v := (0 : Int32)) hx hb dX11_countOf_70 (by decide) ?_
      obtain ⟨r24, h25, hf⟩ := bd_some hf
      refine s_callVi (As := [.int (0 : Int32)]) (rest := []) F I (cC_CO_countAnswers G E Dd P Z (0 : Int32) r24 h25) kX11_253 ⟨rfl, rfl⟩ ⟨Nat.le_trans (Nat.le_of_ble_eq_true rfl) hRf, Nat.le_trans (Nat.le_of_ble_eq_true rfl) hRl⟩ (2) 1 rfl rfl rfl rfl rfl hl_19.1 (Nat.le_of_ble_eq_true rfl) ⟨Nat.zero_le _, Nat.zero_le _⟩ dX11_countOf_71 ?_
      intro H_26 lo_26 I_26
      cases hf
      exact ret H_26 lo_26 _ ls_19 I_26 dX11_countOf_74
    replace hf := (if_neg c23).symm.trans hf
    by_cases c27 : a0 = (4 : Int32)
    · replace hf := (if_pos c27).symm.trans hf
      refine lv_tableIn (off := 69) (tgt := 75) hx hb dX11_countOf_6 (by rw [c27]; decide) (by rw [c27]; decide) (by rw [c27]; rfl) (by decide) ?_
      refine lv_aload_n hx hb dX11_countOf_75 rfl (lv_at hl_19 1 rfl) ?_
      refine kgtX11_16_0 F I dX11_countOf_76 ?_
      refine lv_iconst (v := (1 : Int32)) hx hb dX11_countOf_79 (by decide) ?_
      obtain ⟨r28, h29, hf⟩ := bd_some hf
      refine s_callVi (As := [.int (1 : Int32)]) (rest := []) F I (cC_CO_countAnswers G E Dd P Z (1 : Int32) r28 h29) kX11_253 ⟨rfl, rfl⟩ ⟨Nat.le_trans (Nat.le_of_ble_eq_true rfl) hRf, Nat.le_trans (Nat.le_of_ble_eq_true rfl) hRl⟩ (2) 1 rfl rfl rfl rfl rfl hl_19.1 (Nat.le_of_ble_eq_true rfl) ⟨Nat.zero_le _, Nat.zero_le _⟩ dX11_countOf_80 ?_
      intro H_30 lo_30 I_30
      cases hf
      exact ret H_30 lo_30 _ ls_19 I_30 dX11_countOf_83
    replace hf := (if_neg c27).symm.trans hf
    by_cases c31 : a0 = (5 : Int32)
    · replace hf := (if_pos c31).symm.trans hf
      refine lv_tableIn (off := 78) (tgt := 84) hx hb dX11_countOf_6 (by rw [c31]; decide) (by rw [c31]; decide) (by rw [c31]; rfl) (by decide) ?_
      refine lv_aload_n hx hb dX11_countOf_84 rfl (lv_at hl_19 1 rfl) ?_
      obtain ⟨r32, h33, hf⟩ := bd_some hf
      refine s_callVi (As := []) (rest := []) F I (cC_LT_trialsLeft G E Dd P Z hPZ r32 h33) kX11_143 ⟨rfl, rfl⟩ ⟨Nat.le_trans (Nat.le_of_ble_eq_true rfl) hRf, Nat.le_trans (Nat.le_of_ble_eq_true rfl) hRl⟩ (0) 11 rfl rfl rfl rfl rfl hl_19.1 (Nat.le_of_ble_eq_true rfl) ⟨Nat.zero_le _, Nat.zero_le _⟩ dX11_countOf_85 ?_
      intro H_34 lo_34 I_34
      cases hf
      exact ret H_34 lo_34 _ ls_19 I_34 dX11_countOf_88
    replace hf := (if_neg c31).symm.trans hf
    by_cases c35 : a0 = (6 : Int32)
    · replace hf := (if_pos c35).symm.trans hf
      refine lv_tableIn (off := 83) (tgt := 89) hx hb dX11_countOf_6 (by rw [c35]; decide) (by rw [c35]; decide) (by rw [c35]; rfl) (by decide) ?_
      refine lv_aload_n hx hb dX11_countOf_89 rfl (lv_at hl_19 1 rfl) ?_
      refine kgtX11_23_0 F I dX11_countOf_90 ?_
      refine kgtX11_323_4 F I dX11_countOf_93 ?_
      cases hf
      exact ret H lo _ ls_19 I dX11_countOf_96
    replace hf := (if_neg c35).symm.trans hf
    refine lv_tableOut (tgt := 97) hx hb dX11_countOf_6 (tsw6 c20 c21 c22 c23 c27 c31 c35) (by decide) ?_
    refine lv_aload_n hx hb dX11_countOf_97 rfl (lv_at hl_19 0 rfl) ?_
    refine lv_ifnonnull (tgt := 105) hx hb dX11_countOf_98 (by decide) ?_
    refine lv_aload_n hx hb dX11_countOf_105 rfl (lv_at hl_19 0 rfl) ?_
    refine kplX11_133 (hPZ _ _ hsz1) F I dX11_countOf_106 ?_
    cases hf
    exact ret H lo _ ls_19 I dX11_countOf_109
def C_LT_count (G : Nat → Nat → Int32) (P : Nat → Option PRec) (a0 : Int32) : Option (Int32) :=
bd (if a0 < 0 then
(some (0 : Int32))
else
(if (7 : Int32) < a0 then
(some (0 : Int32))
else
(some (1 : Int32)))) fun x2 =>
bd0 (C_LT_requireArgument x2) <|
bd (C_LT_countOf G P a0) fun r8 =>
some r8
set_option maxRecDepth 100000 in
set_option maxHeartbeats 4000000 in
theorem cC_LT_count (G : Nat → Nat → Int32) (E : Nat → Nat → Int64) (Dd : Nat → Nat → UInt64) (P : Nat → Option PRec) (Z : List PRec) (hPZ : ∀ (k : Nat) (z : PRec), P k = some z → z ∈ Z) (a0 : Int32) (rv : Int32)  (hf : C_LT_count G P a0 = some rv) : sMi D (cT cI cJ cD cS) (cW ad cI cJ cD cS) l yX11_count (ws1 yX11_count cX11_count 2 (some .int)) ({ frames := 3, cells := 0, slots := 0, locals := 65 }) [.ref (ad 0), .int a0] (G, E, Dd, P, Z) (rv, (G, E, Dd, P, Z)) := by
  unfold C_LT_count at hf
  refine sMi_of (by decide) (Nat.le_of_ble_eq_true rfl) ?_
  intro p e R s m args below meth c A Q ls H lo F hRf hRl I hl ret
  obtain ⟨hx, hb, hml, hown, hG⟩ := id F
  replace hl : lv_has ls 2 [(0, .ref (ad 0)), (1, .int a0)] := hl
  refine lv_iload_n hx hb dX11_count_0 rfl (lv_at hl 1 rfl) ?_
  obtain ⟨x2, hv11, hf⟩ := bd_some hf
  have J1 : ∀ (H : Heap) (locs : List Loc), sInv D (cT cI cJ cD cS) (cW ad cI cJ cD cS) A s H locs (G, E, Dd, P, Z) → ∀ (ls : Array Slot), lv_has ls 2 [(0, .ref (ad 0)), (1, .int a0)] → W p l e R s m args below meth c H locs 0 0 Q (F0 m 15 ls [.int x2]) := by
    intro H_3 lo_3 I_3 ls_4 hl_4
    obtain ⟨h6, hf⟩ := bd0_some hf
    refine s_callSv (As := [.int x2]) (rest := []) F I_3 (cC_LT_requireArgument G E Dd P Z x2 h6) kX11_76 ⟨rfl, rfl⟩ ⟨Nat.le_trans (Nat.le_of_ble_eq_true rfl) hRf, Nat.le_trans (Nat.le_of_ble_eq_true rfl) hRl⟩ rfl rfl hl_4.1 (Nat.le_of_ble_eq_true rfl) ⟨Nat.zero_le _, Nat.zero_le _⟩ dX11_count_15 ?_
    intro H_7 lo_7 I_7
    refine lv_aload_n hx hb dX11_count_18 rfl (lv_at hl_4 0 rfl) ?_
    refine lv_iload_n hx hb dX11_count_19 rfl (lv_at hl_4 1 rfl) ?_
    obtain ⟨r8, h9, hf⟩ := bd_some hf
    refine s_callVi (As := [.int a0]) (rest := []) F I_7 (cC_LT_countOf G E Dd P Z hPZ a0 r8 h9) kX11_190 ⟨rfl, rfl⟩ ⟨Nat.le_trans (Nat.le_of_ble_eq_true rfl) hRf, Nat.le_trans (Nat.le_of_ble_eq_true rfl) hRl⟩ (0) 11 rfl rfl rfl rfl rfl hl_4.1 (Nat.le_of_ble_eq_true rfl) ⟨Nat.zero_le _, Nat.zero_le _⟩ dX11_count_20 ?_
    intro H_10 lo_10 I_10
    cases hf
    exact ret H_10 lo_10 _ ls_4 I_10 dX11_count_23
  replace hf := hv11
  refine lv_if_lt (tgt := 14) hx hb dX11_count_1 (by decide) (fun c13 => ?_) (fun c13 => ?_)
  · replace hf := (if_pos c13).symm.trans hf
    refine lv_iconst (v := (0 : Int32)) hx hb dX11_count_14 (by decide) ?_
    cases hf
    exact J1 H lo I ls (lv_sub hl [0, 1] rfl)
  · replace hf := (if_neg c13).symm.trans hf
    refine lv_iload_n hx hb dX11_count_4 rfl (lv_at hl 1 rfl) ?_
    refine lv_bipush (v := (7 : Int32)) hx hb dX11_count_5 (by decide) ?_
    refine lv_icmp_gt (tgt := 14) hx hb dX11_count_7 (by decide) (fun c12 => ?_) (fun c12 => ?_)
    · replace hf := (if_pos c12).symm.trans hf
      refine lv_iconst (v := (0 : Int32)) hx hb dX11_count_14 (by decide) ?_
      cases hf
      exact J1 H lo I ls (lv_sub hl [0, 1] rfl)
    · replace hf := (if_neg c12).symm.trans hf
      refine lv_iconst (v := (1 : Int32)) hx hb dX11_count_10 (by decide) ?_
      refine lv_goto (tgt := 15) hx hb dX11_count_11 (by decide) ?_
      cases hf
      exact J1 H lo I ls (lv_sub hl [0, 1] rfl)
def C_LT_comparison (G : Nat → Nat → Int32) (a0 : Int32) (a1 : Int32) : Option (Int32) :=
bd0 (C_LT_requireIndex a0 (G 5 0)) <|
bd (if a1 < 0 then
(some (0 : Int32))
else
(if (3 : Int32) < a1 then
(some (0 : Int32))
else
(some (1 : Int32)))) fun x4 =>
bd0 (C_LT_requireArgument x4) <|
bd (C_CO_at G a0) fun r10 =>
bd (C_CO_propertyOf r10 a1) fun r13 =>
some r13
set_option maxRecDepth 100000 in
set_option maxHeartbeats 4000000 in
theorem cC_LT_comparison (G : Nat → Nat → Int32) (E : Nat → Nat → Int64) (Dd : Nat → Nat → UInt64) (P : Nat → Option PRec) (Z : List PRec) (a0 : Int32) (a1 : Int32) (rv : Int32)  (hf : C_LT_comparison G a0 a1 = some rv) : sMi D (cT cI cJ cD cS) (cW ad cI cJ cD cS) l yX11_comparison (ws1 yX11_comparison cX11_comparison 3 (some .int)) ({ frames := 2, cells := 0, slots := 0, locals := 41 }) [.ref (ad 0), .int a0, .int a1] (G, E, Dd, P, Z) (rv, (G, E, Dd, P, Z)) := by
  unfold C_LT_comparison at hf
  refine sMi_of (by decide) (Nat.le_of_ble_eq_true rfl) ?_
  intro p e R s m args below meth c A Q ls H lo F hRf hRl I hl ret
  obtain ⟨hx, hb, hml, hown, hG⟩ := id F
  replace hl : lv_has ls 3 [(0, .ref (ad 0)), (1, .int a0), (2, .int a1)] := hl
  refine lv_iload_n hx hb dX11_comparison_0 rfl (lv_at hl 1 rfl) ?_
  refine lv_aload_n hx hb dX11_comparison_1 rfl (lv_at hl 0 rfl) ?_
  refine kgtX11_16_0 F I dX11_comparison_2 ?_
  refine kgtX11_149_2 F I dX11_comparison_5 ?_
  obtain ⟨h1, hf⟩ := bd0_some hf
  refine s_callSv (As := [.int a0, .int (G 5 0)]) (rest := []) F I (cC_LT_requireIndex G E Dd P Z a0 (G 5 0) h1) kX11_84 ⟨rfl, rfl⟩ ⟨Nat.le_trans (Nat.le_of_ble_eq_true rfl) hRf, Nat.le_trans (Nat.le_of_ble_eq_true rfl) hRl⟩ rfl rfl hl.1 (Nat.le_of_ble_eq_true rfl) ⟨Nat.zero_le _, Nat.zero_le _⟩ dX11_comparison_8 ?_
  intro H_2 lo_2 I_2
  refine lv_iload_n hx hb dX11_comparison_11 rfl (lv_at hl 2 rfl) ?_
  obtain ⟨x4, hv16, hf⟩ := bd_some hf
  have J3 : ∀ (H : Heap) (locs : List Loc), sInv D (cT cI cJ cD cS) (cW ad cI cJ cD cS) A s H locs (G, E, Dd, P, Z) → ∀ (ls : Array Slot), lv_has ls 3 [(0, .ref (ad 0)), (1, .int a0), (2, .int a1)] → W p l e R s m args below meth c H locs 0 0 Q (F0 m 25 ls [.int x4]) := by
    intro H_5 lo_5 I_5 ls_6 hl_6
    obtain ⟨h8, hf⟩ := bd0_some hf
    refine s_callSv (As := [.int x4]) (rest := []) F I_5 (cC_LT_requireArgument G E Dd P Z x4 h8) kX11_76 ⟨rfl, rfl⟩ ⟨Nat.le_trans (Nat.le_of_ble_eq_true rfl) hRf, Nat.le_trans (Nat.le_of_ble_eq_true rfl) hRl⟩ rfl rfl hl_6.1 (Nat.le_of_ble_eq_true rfl) ⟨Nat.zero_le _, Nat.zero_le _⟩ dX11_comparison_25 ?_
    intro H_9 lo_9 I_9
    refine lv_aload_n hx hb dX11_comparison_28 rfl (lv_at hl_6 0 rfl) ?_
    refine kgtX11_16_0 F I_9 dX11_comparison_29 ?_
    refine lv_iload_n hx hb dX11_comparison_32 rfl (lv_at hl_6 1 rfl) ?_
    obtain ⟨r10, h11, hf⟩ := bd_some hf
    refine s_callVi (As := [.int a0]) (rest := []) F I_9 (cC_CO_at G E Dd P Z a0 r10 h11) kX11_193 ⟨rfl, rfl⟩ ⟨Nat.le_trans (Nat.le_of_ble_eq_true rfl) hRf, Nat.le_trans (Nat.le_of_ble_eq_true rfl) hRl⟩ (2) 1 rfl rfl rfl rfl rfl hl_6.1 (Nat.le_of_ble_eq_true rfl) ⟨Nat.zero_le _, Nat.zero_le _⟩ dX11_comparison_33 ?_
    intro H_12 lo_12 I_12
    refine lv_iload_n hx hb dX11_comparison_36 rfl (lv_at hl_6 2 rfl) ?_
    obtain ⟨r13, h14, hf⟩ := bd_some hf
    refine s_callSi (As := [.int r10, .int a1]) (rest := []) F I_12 (cC_CO_propertyOf G E Dd P Z r10 a1 r13 h14) kX11_196 ⟨rfl, rfl⟩ ⟨Nat.le_trans (Nat.le_of_ble_eq_true rfl) hRf, Nat.le_trans (Nat.le_of_ble_eq_true rfl) hRl⟩ rfl rfl hl_6.1 (Nat.le_of_ble_eq_true rfl) ⟨Nat.zero_le _, Nat.zero_le _⟩ dX11_comparison_37 ?_
    intro H_15 lo_15 I_15
    cases hf
    exact ret H_15 lo_15 _ ls_6 I_15 dX11_comparison_40
  replace hf := hv16
  refine lv_if_lt (tgt := 24) hx hb dX11_comparison_12 (by decide) (fun c18 => ?_) (fun c18 => ?_)
  · replace hf := (if_pos c18).symm.trans hf
    refine lv_iconst (v := (0 : Int32)) hx hb dX11_comparison_24 (by decide) ?_
    cases hf
    exact J3 H_2 lo_2 I_2 ls (lv_sub hl [0, 1, 2] rfl)
  · replace hf := (if_neg c18).symm.trans hf
    refine lv_iload_n hx hb dX11_comparison_15 rfl (lv_at hl 2 rfl) ?_
    refine lv_iconst (v := (3 : Int32)) hx hb dX11_comparison_16 (by decide) ?_
    refine lv_icmp_gt (tgt := 24) hx hb dX11_comparison_17 (by decide) (fun c17 => ?_) (fun c17 => ?_)
    · replace hf := (if_pos c17).symm.trans hf
      refine lv_iconst (v := (0 : Int32)) hx hb dX11_comparison_24 (by decide) ?_
      cases hf
      exact J3 H_2 lo_2 I_2 ls (lv_sub hl [0, 1, 2] rfl)
    · replace hf := (if_neg c17).symm.trans hf
      refine lv_iconst (v := (1 : Int32)) hx hb dX11_comparison_20 (by decide) ?_
      refine lv_goto (tgt := 25) hx hb dX11_comparison_21 (by decide) ?_
      cases hf
      exact J3 H_2 lo_2 I_2 ls (lv_sub hl [0, 1, 2] rfl)
def C_JA_fill_i_23_s1 (a1 : Int32) (x3 : Int32) (G4 : Nat → Nat → Int32) : Option ((Int32 × (Nat → Nat → Int32)) ⊕ ((Nat → Nat → Int32))) :=
if (64 : Int32) ≤ x3 then
(some (.inr G4))
else
(ri 64 x3 <|
nm (wr G4 20 x3 a1) fun G13 =>
nm (x3 + (1 : Int32) : Int32) fun x15 =>
some (.inl (x15, G13)))
def C_JA_fill_i_23 (G : Nat → Nat → Int32) (a1 : Int32) : Option ((Nat → Nat → Int32)) :=
bd (lp (fun q => C_JA_fill_i_23_s1 a1 q.1 q.2) FU ((0 : Int32), G)) fun G5 =>
some G5
set_option maxRecDepth 100000 in
set_option maxHeartbeats 4000000 in
theorem cC_JA_fill_i_23 (G : Nat → Nat → Int32) (E : Nat → Nat → Int64) (Dd : Nat → Nat → UInt64) (P : Nat → Option PRec) (Z : List PRec) (a1 : Int32)  (newG : Nat → Nat → Int32) (hf : C_JA_fill_i_23 G a1 = some newG) : sMv D (cT cI cJ cD cS) (cW ad cI cJ cD cS) l yJ7_fill_53178 (ws1 yJ7_fill_53178 cJ7_fill_53178 4 none) ({ frames := 0, cells := 0, slots := 0, locals := 0 }) [.ref (ad 23), .int a1] (G, E, Dd, P, Z) (newG, E, Dd, P, Z) := by
  unfold C_JA_fill_i_23 at hf
  refine sMv_of (by decide) (Nat.le_of_ble_eq_true rfl) ?_
  intro p e R s m args below meth c A Q ls H lo F hRf hRl I hl ret
  obtain ⟨hx, hb, hml, hown, hG⟩ := id F
  replace hl : lv_has ls 4 [(0, .ref (ad 23)), (1, .int a1)] := hl
  refine lv_iconst (v := (0 : Int32)) hx hb dJ7_fill_53178_0 (by decide) ?_
  refine lv_istore_n (lv' := [(2, .int (0 : Int32)), (0, .ref (ad 23)), (1, .int a1)]) hx hb dJ7_fill_53178_1 rfl hl (by decide) rfl (fun ls_1 hl_1 => ?_)
  refine lv_aload_n hx hb dJ7_fill_53178_2 rfl (lv_at hl_1 1 rfl) ?_
  refine kln23 F I dJ7_fill_53178_3 ?_
  refine lv_istore_n (lv' := [(3, .int (64 : Int32)), (2, .int (0 : Int32)), (0, .ref (ad 23)), (1, .int a1)]) hx hb dJ7_fill_53178_4 rfl hl_1 (by decide) rfl (fun ls_2 hl_2 => ?_)
  obtain ⟨G5, hq1, hf⟩ := bd_some hf
  have K1 : ∀ (H : Heap) (locs : List Loc), sInv D (cT cI cJ cD cS) (cW ad cI cJ cD cS) A s H locs (G5, E, Dd, P, Z) → ∀ (ls : Array Slot), lv_has ls 4 [] → W p l e R s m args below meth c H locs 0 0 Q (F0 m 20 ls []) := by
    intro H_6 lo_6 I_6 ls_7 hl_7
    cases hf
    exact ret H_6 lo_6 _ ls_7 I_6 dJ7_fill_53178_20
  have L1 : ∀ (n : Nat) (x3 : Int32) (G4 : Nat → Nat → Int32), lp (fun q => C_JA_fill_i_23_s1 a1 q.1 q.2) n (x3, G4) = some G5 → ∀ (H : Heap) (locs : List Loc), sInv D (cT cI cJ cD cS) (cW ad cI cJ cD cS) A s H locs (G4, E, Dd, P, Z) → ∀ (ls : Array Slot), lv_has ls 4 [(0, .ref (ad 23)), (1, .int a1), (2, .int x3), (3, .int (64 : Int32))] → W p l e R s m args below meth c H locs 0 0 Q (F0 m 5 ls []) := by
    intro n
    induction n with
    | zero => intro x3 G4 hq; exact (lp_0 hq).elim
    | succ n ih1 =>
      intro x3 G4 hq H_9 lo_9 I_9 ls_10 hl_10
      obtain ⟨y1, hf, hK1⟩ := lp_go hq
      replace hf : C_JA_fill_i_23_s1 a1 x3 G4 = some y1 := hf
      unfold C_JA_fill_i_23_s1 at hf
      refine lv_iload_n hx hb dJ7_fill_53178_5 rfl (lv_at hl_10 2 rfl) ?_
      refine lv_iload_n hx hb dJ7_fill_53178_6 rfl (lv_at hl_10 3 rfl) ?_
      refine lv_icmp_ge (tgt := 20) hx hb dJ7_fill_53178_7 (by decide) (fun c17 => ?_) (fun c17 => ?_)
      · replace hf := (if_pos c17).symm.trans hf
        cases hf
        cases (show G4 = G5 from hK1)
        exact K1 H_9 lo_9 I_9 ls_10 (lv_sub hl_10 [] rfl)
      · replace hf := (if_neg c17).symm.trans hf
        refine lv_aload_n hx hb dJ7_fill_53178_10 rfl (lv_at hl_10 0 rfl) ?_
        refine lv_iload_n hx hb dJ7_fill_53178_11 rfl (lv_at hl_10 2 rfl) ?_
        refine lv_iload_n hx hb dJ7_fill_53178_12 rfl (lv_at hl_10 1 rfl) ?_
        obtain ⟨g12, hf⟩ := ri_some hf
        refine kas23 F I_9 g12 dJ7_fill_53178_13 ?_
        intro H_14 lo_14 G13 eG13 I_14
        replace hf := nm_some eG13 hf
        obtain ⟨x15, ex15⟩ : ∃ y : Int32, y = x3 + (1 : Int32) := ⟨_, rfl⟩
        replace hf := nm_some ex15 hf
        refine lv_iinc (v := x15) (lv' := [(2, .int x15), (0, .ref (ad 23)), (1, .int a1), (3, .int (64 : Int32))]) hx hb dJ7_fill_53178_14 hl_10 (k := 2) rfl (by rw [ex15]; rfl) (by decide) rfl (fun ls_16 hl_16 => ?_)
        refine lv_goto (tgt := 5) hx hb dJ7_fill_53178_17 (by decide) ?_
        cases hf
        exact ih1 _ _ hK1 H_14 lo_14 I_14 ls_16 (lv_sub hl_16 [1, 2, 0, 3] rfl)
  exact L1 FU _ _ hq1 H lo I ls_2 (lv_sub hl_2 [2, 3, 1, 0] rfl)
def C_LE_clearAll_22 (G : Nat → Nat → Int32) : Option ((Nat → Nat → Int32)) :=
bd (C_JA_fill_i_23 G (0 : Int32)) fun G1 =>
some G1
set_option maxRecDepth 100000 in
set_option maxHeartbeats 4000000 in
theorem cC_LE_clearAll_22 (G : Nat → Nat → Int32) (E : Nat → Nat → Int64) (Dd : Nat → Nat → UInt64) (P : Nat → Option PRec) (Z : List PRec)   (newG : Nat → Nat → Int32) (hf : C_LE_clearAll_22 G = some newG) : sMv D (cT cI cJ cD cS) (cW ad cI cJ cD cS) l yX3_clearAll (ws1 yX3_clearAll cX3_clearAll 1 none) ({ frames := 1, cells := 0, slots := 0, locals := 23 }) [.ref (ad 22)] (G, E, Dd, P, Z) (newG, E, Dd, P, Z) := by
  unfold C_LE_clearAll_22 at hf
  refine sMv_of (by decide) (Nat.le_of_ble_eq_true rfl) ?_
  intro p e R s m args below meth c A Q ls H lo F hRf hRl I hl ret
  obtain ⟨hx, hb, hml, hown, hG⟩ := id F
  replace hl : lv_has ls 1 [(0, .ref (ad 22))] := hl
  refine lv_aload_n hx hb dX3_clearAll_0 rfl (lv_at hl 0 rfl) ?_
  refine kgtX3_9_22 F I dX3_clearAll_1 ?_
  refine lv_iconst (v := (0 : Int32)) hx hb dX3_clearAll_4 (by decide) ?_
  obtain ⟨G1, h2, hf⟩ := bd_some hf
  refine s_callSv (As := [.ref (ad 23), .int (0 : Int32)]) (rest := []) F I (cC_JA_fill_i_23 G E Dd P Z (0 : Int32) G1 h2) kX3_15 ⟨rfl, rfl⟩ ⟨Nat.le_trans (Nat.le_of_ble_eq_true rfl) hRf, Nat.le_trans (Nat.le_of_ble_eq_true rfl) hRl⟩ rfl rfl hl.1 (Nat.le_of_ble_eq_true rfl) ⟨Nat.zero_le _, Nat.zero_le _⟩ dX3_clearAll_5 ?_
  intro H_3 lo_3 I_3
  cases hf
  exact ret H_3 lo_3 _ ls I_3 dX3_clearAll_8
def C_JA_fill_i_18_s1 (a1 : Int32) (x3 : Int32) (G4 : Nat → Nat → Int32) : Option ((Int32 × (Nat → Nat → Int32)) ⊕ ((Nat → Nat → Int32))) :=
if (8 : Int32) ≤ x3 then
(some (.inr G4))
else
(ri 8 x3 <|
nm (wr G4 23 x3 a1) fun G13 =>
nm (x3 + (1 : Int32) : Int32) fun x15 =>
some (.inl (x15, G13)))
def C_JA_fill_i_18 (G : Nat → Nat → Int32) (a1 : Int32) : Option ((Nat → Nat → Int32)) :=
bd (lp (fun q => C_JA_fill_i_18_s1 a1 q.1 q.2) FU ((0 : Int32), G)) fun G5 =>
some G5
set_option maxRecDepth 100000 in
set_option maxHeartbeats 4000000 in
theorem cC_JA_fill_i_18 (G : Nat → Nat → Int32) (E : Nat → Nat → Int64) (Dd : Nat → Nat → UInt64) (P : Nat → Option PRec) (Z : List PRec) (a1 : Int32)  (newG : Nat → Nat → Int32) (hf : C_JA_fill_i_18 G a1 = some newG) : sMv D (cT cI cJ cD cS) (cW ad cI cJ cD cS) l yJ7_fill_53178 (ws1 yJ7_fill_53178 cJ7_fill_53178 4 none) ({ frames := 0, cells := 0, slots := 0, locals := 0 }) [.ref (ad 18), .int a1] (G, E, Dd, P, Z) (newG, E, Dd, P, Z) := by
  unfold C_JA_fill_i_18 at hf
  refine sMv_of (by decide) (Nat.le_of_ble_eq_true rfl) ?_
  intro p e R s m args below meth c A Q ls H lo F hRf hRl I hl ret
  obtain ⟨hx, hb, hml, hown, hG⟩ := id F
  replace hl : lv_has ls 4 [(0, .ref (ad 18)), (1, .int a1)] := hl
  refine lv_iconst (v := (0 : Int32)) hx hb dJ7_fill_53178_0 (by decide) ?_
  refine lv_istore_n (lv' := [(2, .int (0 : Int32)), (0, .ref (ad 18)), (1, .int a1)]) hx hb dJ7_fill_53178_1 rfl hl (by decide) rfl (fun ls_1 hl_1 => ?_)
  refine lv_aload_n hx hb dJ7_fill_53178_2 rfl (lv_at hl_1 1 rfl) ?_
  refine kln18 F I dJ7_fill_53178_3 ?_
  refine lv_istore_n (lv' := [(3, .int (8 : Int32)), (2, .int (0 : Int32)), (0, .ref (ad 18)), (1, .int a1)]) hx hb dJ7_fill_53178_4 rfl hl_1 (by decide) rfl (fun ls_2 hl_2 => ?_)
  obtain ⟨G5, hq1, hf⟩ := bd_some hf
  have K1 : ∀ (H : Heap) (locs : List Loc), sInv D (cT cI cJ cD cS) (cW ad cI cJ cD cS) A s H locs (G5, E, Dd, P, Z) → ∀ (ls : Array Slot), lv_has ls 4 [] → W p l e R s m args below meth c H locs 0 0 Q (F0 m 20 ls []) := by
    intro H_6 lo_6 I_6 ls_7 hl_7
    cases hf
    exact ret H_6 lo_6 _ ls_7 I_6 dJ7_fill_53178_20
  have L1 : ∀ (n : Nat) (x3 : Int32) (G4 : Nat → Nat → Int32), lp (fun q => C_JA_fill_i_18_s1 a1 q.1 q.2) n (x3, G4) = some G5 → ∀ (H : Heap) (locs : List Loc), sInv D (cT cI cJ cD cS) (cW ad cI cJ cD cS) A s H locs (G4, E, Dd, P, Z) → ∀ (ls : Array Slot), lv_has ls 4 [(0, .ref (ad 18)), (1, .int a1), (2, .int x3), (3, .int (8 : Int32))] → W p l e R s m args below meth c H locs 0 0 Q (F0 m 5 ls []) := by
    intro n
    induction n with
    | zero => intro x3 G4 hq; exact (lp_0 hq).elim
    | succ n ih1 =>
      intro x3 G4 hq H_9 lo_9 I_9 ls_10 hl_10
      obtain ⟨y1, hf, hK1⟩ := lp_go hq
      replace hf : C_JA_fill_i_18_s1 a1 x3 G4 = some y1 := hf
      unfold C_JA_fill_i_18_s1 at hf
      refine lv_iload_n hx hb dJ7_fill_53178_5 rfl (lv_at hl_10 2 rfl) ?_
      refine lv_iload_n hx hb dJ7_fill_53178_6 rfl (lv_at hl_10 3 rfl) ?_
      refine lv_icmp_ge (tgt := 20) hx hb dJ7_fill_53178_7 (by decide) (fun c17 => ?_) (fun c17 => ?_)
      · replace hf := (if_pos c17).symm.trans hf
        cases hf
        cases (show G4 = G5 from hK1)
        exact K1 H_9 lo_9 I_9 ls_10 (lv_sub hl_10 [] rfl)
      · replace hf := (if_neg c17).symm.trans hf
        refine lv_aload_n hx hb dJ7_fill_53178_10 rfl (lv_at hl_10 0 rfl) ?_
        refine lv_iload_n hx hb dJ7_fill_53178_11 rfl (lv_at hl_10 2 rfl) ?_
        refine lv_iload_n hx hb dJ7_fill_53178_12 rfl (lv_at hl_10 1 rfl) ?_
        obtain ⟨g12, hf⟩ := ri_some hf
        refine kas18 F I_9 g12 dJ7_fill_53178_13 ?_
        intro H_14 lo_14 G13 eG13 I_14
        replace hf := nm_some eG13 hf
        obtain ⟨x15, ex15⟩ : ∃ y : Int32, y = x3 + (1 : Int32) := ⟨_, rfl⟩
        replace hf := nm_some ex15 hf
        refine lv_iinc (v := x15) (lv' := [(2, .int x15), (0, .ref (ad 18)), (1, .int a1), (3, .int (8 : Int32))]) hx hb dJ7_fill_53178_14 hl_10 (k := 2) rfl (by rw [ex15]; rfl) (by decide) rfl (fun ls_16 hl_16 => ?_)
        refine lv_goto (tgt := 5) hx hb dJ7_fill_53178_17 (by decide) ?_
        cases hf
        exact ih1 _ _ hK1 H_14 lo_14 I_14 ls_16 (lv_sub hl_16 [1, 2, 0, 3] rfl)
  exact L1 FU _ _ hq1 H lo I ls_2 (lv_sub hl_2 [2, 3, 1, 0] rfl)
def C_LE_addWin_22 (G : Nat → Nat → Int32) (a0 : Int32) (a1 : Int32) : Option ((Nat → Nat → Int32)) :=
nm (C_CO_answerOf a0) fun r1 =>
if r1 = 0 then
(some G)
else
(bd (C_CO_winnerOf a0) fun r4 =>
bd (C_CO_loserOf a0) fun r8 =>
nm (C_LT_cell r4 r8) fun r12 =>
ri 64 r12 <|
ri 64 r12 <|
nm (wr G 20 r12 ((G 20 r12.toNatClampNeg) + a1)) fun G17 =>
nm (C_LT_cell r8 r4) fun r19 =>
ri 64 r19 <|
ri 64 r19 <|
nm (wr G17 20 r19 ((G17 20 r19.toNatClampNeg) - a1)) fun G24 =>
some G24)
set_option maxRecDepth 100000 in
set_option maxHeartbeats 4000000 in
theorem cC_LE_addWin_22 (G : Nat → Nat → Int32) (E : Nat → Nat → Int64) (Dd : Nat → Nat → UInt64) (P : Nat → Option PRec) (Z : List PRec) (a0 : Int32) (a1 : Int32)  (newG : Nat → Nat → Int32) (hf : C_LE_addWin_22 G a0 a1 = some newG) : sMv D (cT cI cJ cD cS) (cW ad cI cJ cD cS) l yX3_addWin (ws1 yX3_addWin cX3_addWin 5 none) ({ frames := 2, cells := 0, slots := 0, locals := 40 }) [.ref (ad 22), .int a0, .int a1] (G, E, Dd, P, Z) (newG, E, Dd, P, Z) := by
  unfold C_LE_addWin_22 at hf
  refine sMv_of (by decide) (Nat.le_of_ble_eq_true rfl) ?_
  intro p e R s m args below meth c A Q ls H lo F hRf hRl I hl ret
  obtain ⟨hx, hb, hml, hown, hG⟩ := id F
  replace hl : lv_has ls 5 [(0, .ref (ad 22)), (1, .int a0), (2, .int a1)] := hl
  refine lv_iload_n hx hb dX3_addWin_0 rfl (lv_at hl 1 rfl) ?_
  obtain ⟨r1, h2⟩ : ∃ z, z = C_CO_answerOf a0 := ⟨_, rfl⟩
  replace hf := nm_some h2 hf
  refine s_callSi (As := [.int a0]) (rest := []) F I (cC_CO_answerOf G E Dd P Z a0 r1 h2) kX3_41 ⟨rfl, rfl⟩ ⟨Nat.le_trans (Nat.le_of_ble_eq_true rfl) hRf, Nat.le_trans (Nat.le_of_ble_eq_true rfl) hRl⟩ rfl rfl hl.1 (Nat.le_of_ble_eq_true rfl) ⟨Nat.zero_le _, Nat.zero_le _⟩ dX3_addWin_1 ?_
  intro H_3 lo_3 I_3
  refine lv_if_eq (tgt := 48) hx hb dX3_addWin_4 (by decide) (fun c26 => ?_) (fun c26 => ?_)
  · replace hf := (if_pos c26).symm.trans hf
    cases hf
    exact ret H_3 lo_3 _ ls I_3 dX3_addWin_48
  · replace hf := (if_neg c26).symm.trans hf
    refine lv_iload_n hx hb dX3_addWin_7 rfl (lv_at hl 1 rfl) ?_
    obtain ⟨r4, h5, hf⟩ := bd_some hf
    refine s_callSi (As := [.int a0]) (rest := []) F I_3 (cC_CO_winnerOf G E Dd P Z a0 r4 h5) kX3_44 ⟨rfl, rfl⟩ ⟨Nat.le_trans (Nat.le_of_ble_eq_true rfl) hRf, Nat.le_trans (Nat.le_of_ble_eq_true rfl) hRl⟩ rfl rfl hl.1 (Nat.le_of_ble_eq_true rfl) ⟨Nat.zero_le _, Nat.zero_le _⟩ dX3_addWin_8 ?_
    intro H_6 lo_6 I_6
    refine lv_istore_n (lv' := [(3, .int r4), (0, .ref (ad 22)), (1, .int a0), (2, .int a1)]) hx hb dX3_addWin_11 rfl hl (by decide) rfl (fun ls_7 hl_7 => ?_)
    refine lv_iload_n hx hb dX3_addWin_12 rfl (lv_at hl_7 2 rfl) ?_
    obtain ⟨r8, h9, hf⟩ := bd_some hf
    refine s_callSi (As := [.int a0]) (rest := []) F I_6 (cC_CO_loserOf G E Dd P Z a0 r8 h9) kX3_47 ⟨rfl, rfl⟩ ⟨Nat.le_trans (Nat.le_of_ble_eq_true rfl) hRf, Nat.le_trans (Nat.le_of_ble_eq_true rfl) hRl⟩ rfl rfl hl_7.1 (Nat.le_of_ble_eq_true rfl) ⟨Nat.zero_le _, Nat.zero_le _⟩ dX3_addWin_13 ?_
    intro H_10 lo_10 I_10
    refine lv_istore (lv' := [(4, .int r8), (3, .int r4), (0, .ref (ad 22)), (1, .int a0), (2, .int a1)]) hx hb dX3_addWin_16 hl_7 (by decide) rfl (fun ls_11 hl_11 => ?_)
    refine lv_aload_n hx hb dX3_addWin_18 rfl (lv_at hl_11 2 rfl) ?_
    refine kgtX3_9_22 F I_10 dX3_addWin_19 ?_
    refine lv_iload_n hx hb dX3_addWin_22 rfl (lv_at hl_11 1 rfl) ?_
    refine lv_iload hx hb dX3_addWin_23 (lv_at hl_11 0 rfl) ?_
    obtain ⟨r12, h13⟩ : ∃ z, z = C_LT_cell r4 r8 := ⟨_, rfl⟩
    replace hf := nm_some h13 hf
    refine s_callSNi (As := [.int r4, .int r8]) (rest := [.ref (ad 23)]) F I_10 (cC_LT_cell G E Dd P Z r4 r8 r12 h13) kX3_50 ⟨rfl, rfl⟩ ⟨Nat.le_trans (Nat.le_of_ble_eq_true rfl) hRf, Nat.le_trans (Nat.le_of_ble_eq_true rfl) hRl⟩ rfl rfl hl_11.1 (Nat.le_of_ble_eq_true rfl) ⟨Nat.zero_le _, Nat.zero_le _⟩ dX3_addWin_25 ?_
    intro H_14 lo_14 I_14
    refine lv_dup2_11 hx hb dX3_addWin_28 rfl rfl ?_
    obtain ⟨g15, hf⟩ := ri_some hf
    refine kal23 F I_14 g15 dX3_addWin_29 ?_
    refine lv_iload_n hx hb dX3_addWin_30 rfl (lv_at hl_11 4 rfl) ?_
    refine lv_iadd hx hb dX3_addWin_31 ?_
    obtain ⟨g16, hf⟩ := ri_some hf
    refine kas23 F I_14 g16 dX3_addWin_32 ?_
    intro H_18 lo_18 G17 eG17 I_18
    replace hf := nm_some eG17 hf
    refine lv_aload_n hx hb dX3_addWin_33 rfl (lv_at hl_11 2 rfl) ?_
    refine kgtX3_9_22 F I_18 dX3_addWin_34 ?_
    refine lv_iload hx hb dX3_addWin_37 (lv_at hl_11 0 rfl) ?_
    refine lv_iload_n hx hb dX3_addWin_39 rfl (lv_at hl_11 1 rfl) ?_
    obtain ⟨r19, h20⟩ : ∃ z, z = C_LT_cell r8 r4 := ⟨_, rfl⟩
    replace hf := nm_some h20 hf
    refine s_callSNi (As := [.int r8, .int r4]) (rest := [.ref (ad 23)]) F I_18 (cC_LT_cell G17 E Dd P Z r8 r4 r19 h20) kX3_50 ⟨rfl, rfl⟩ ⟨Nat.le_trans (Nat.le_of_ble_eq_true rfl) hRf, Nat.le_trans (Nat.le_of_ble_eq_true rfl) hRl⟩ rfl rfl hl_11.1 (Nat.le_of_ble_eq_true rfl) ⟨Nat.zero_le _, Nat.zero_le _⟩ dX3_addWin_40 ?_
    intro H_21 lo_21 I_21
    refine lv_dup2_11 hx hb dX3_addWin_43 rfl rfl ?_
    obtain ⟨g22, hf⟩ := ri_some hf
    refine kal23 F I_21 g22 dX3_addWin_44 ?_
    refine lv_iload_n hx hb dX3_addWin_45 rfl (lv_at hl_11 4 rfl) ?_
    refine lv_isub hx hb dX3_addWin_46 ?_
    obtain ⟨g23, hf⟩ := ri_some hf
    refine kas23 F I_21 g23 dX3_addWin_47 ?_
    intro H_25 lo_25 G24 eG24 I_25
    replace hf := nm_some eG24 hf
    cases hf
    exact ret H_25 lo_25 _ ls_11 I_25 dX3_addWin_48
def C_SD_addPoints_18 (G : Nat → Nat → Int32) (a1 : Int32) (a2 : Int32) : Option ((Nat → Nat → Int32)) :=
nm (C_CO_answerOf a1) fun r1 =>
bd (if r1 = 0 then
(some (1 : Int32))
else
(if r1 = (1 : Int32) then
(some (2 : Int32))
else
(some (0 : Int32)))) fun x6 =>
if (8 : Int32) < (8 : Int32) then
(some G)
else
(nm (C_CO_firstOf a1) fun r11 =>
ri 8 r11 <|
ri 8 r11 <|
nm (wr G 23 r11 ((G 23 r11.toNatClampNeg) + (x6 * a2))) fun G16 =>
nm (C_CO_secondOf a1) fun r18 =>
ri 8 r18 <|
ri 8 r18 <|
nm (wr G16 23 r18 ((G16 23 r18.toNatClampNeg) + (((2 : Int32) - x6) * a2))) fun G23 =>
some G23)
set_option maxRecDepth 100000 in
set_option maxHeartbeats 4000000 in
theorem cC_SD_addPoints_18 (G : Nat → Nat → Int32) (E : Nat → Nat → Int64) (Dd : Nat → Nat → UInt64) (P : Nat → Option PRec) (Z : List PRec) (a1 : Int32) (a2 : Int32)  (newG : Nat → Nat → Int32) (hf : C_SD_addPoints_18 G a1 a2 = some newG) : sMv D (cT cI cJ cD cS) (cW ad cI cJ cD cS) l yX6_addPoints (ws1 yX6_addPoints cX6_addPoints 5 none) ({ frames := 1, cells := 0, slots := 0, locals := 20 }) [.ref (ad 18), .int a1, .int a2] (G, E, Dd, P, Z) (newG, E, Dd, P, Z) := by
  unfold C_SD_addPoints_18 at hf
  refine sMv_of (by decide) (Nat.le_of_ble_eq_true rfl) ?_
  intro p e R s m args below meth c A Q ls H lo F hRf hRl I hl ret
  obtain ⟨hx, hb, hml, hown, hG⟩ := id F
  replace hl : lv_has ls 5 [(0, .ref (ad 18)), (1, .int a1), (2, .int a2)] := hl
  refine lv_iload_n hx hb dX6_addPoints_0 rfl (lv_at hl 1 rfl) ?_
  obtain ⟨r1, h2⟩ : ∃ z, z = C_CO_answerOf a1 := ⟨_, rfl⟩
  replace hf := nm_some h2 hf
  refine s_callSi (As := [.int a1]) (rest := []) F I (cC_CO_answerOf G E Dd P Z a1 r1 h2) kX6_130 ⟨rfl, rfl⟩ ⟨Nat.le_trans (Nat.le_of_ble_eq_true rfl) hRf, Nat.le_trans (Nat.le_of_ble_eq_true rfl) hRl⟩ rfl rfl hl.1 (Nat.le_of_ble_eq_true rfl) ⟨Nat.zero_le _, Nat.zero_le _⟩ dX6_addPoints_1 ?_
  intro H_3 lo_3 I_3
  refine lv_istore_n (lv' := [(3, .int r1), (0, .ref (ad 18)), (1, .int a1), (2, .int a2)]) hx hb dX6_addPoints_4 rfl hl (by decide) rfl (fun ls_4 hl_4 => ?_)
  refine lv_iload_n hx hb dX6_addPoints_5 rfl (lv_at hl_4 0 rfl) ?_
  obtain ⟨x6, hv26, hf⟩ := bd_some hf
  have J5 : ∀ (H : Heap) (locs : List Loc), sInv D (cT cI cJ cD cS) (cW ad cI cJ cD cS) A s H locs (G, E, Dd, P, Z) → ∀ (ls : Array Slot), lv_has ls 5 [(0, .ref (ad 18)), (1, .int a1), (2, .int a2)] → W p l e R s m args below meth c H locs 0 0 Q (F0 m 23 ls [.int x6]) := by
    intro H_7 lo_7 I_7 ls_8 hl_8
    refine lv_istore (lv' := [(4, .int x6), (0, .ref (ad 18)), (1, .int a1), (2, .int a2)]) hx hb dX6_addPoints_23 hl_8 (by decide) rfl (fun ls_10 hl_10 => ?_)
    refine lv_aload_n hx hb dX6_addPoints_25 rfl (lv_at hl_10 1 rfl) ?_
    refine kln18 F I_7 dX6_addPoints_26 ?_
    refine lv_bipush (v := (8 : Int32)) hx hb dX6_addPoints_27 (by decide) ?_
    refine lv_icmp_lt (tgt := 60) hx hb dX6_addPoints_29 (by decide) (fun c25 => ?_) (fun c25 => ?_)
    · replace hf := (if_pos c25).symm.trans hf
      cases hf
      exact ret H_7 lo_7 _ ls_10 I_7 dX6_addPoints_60
    · replace hf := (if_neg c25).symm.trans hf
      refine lv_aload_n hx hb dX6_addPoints_32 rfl (lv_at hl_10 1 rfl) ?_
      refine lv_iload_n hx hb dX6_addPoints_33 rfl (lv_at hl_10 2 rfl) ?_
      obtain ⟨r11, h12⟩ : ∃ z, z = C_CO_firstOf a1 := ⟨_, rfl⟩
      replace hf := nm_some h12 hf
      refine s_callSi (As := [.int a1]) (rest := [.ref (ad 18)]) F I_7 (cC_CO_firstOf G E Dd P Z a1 r11 h12) kX6_133 ⟨rfl, rfl⟩ ⟨Nat.le_trans (Nat.le_of_ble_eq_true rfl) hRf, Nat.le_trans (Nat.le_of_ble_eq_true rfl) hRl⟩ rfl rfl hl_10.1 (Nat.le_of_ble_eq_true rfl) ⟨Nat.zero_le _, Nat.zero_le _⟩ dX6_addPoints_34 ?_
      intro H_13 lo_13 I_13
      refine lv_dup2_11 hx hb dX6_addPoints_37 rfl rfl ?_
      obtain ⟨g14, hf⟩ := ri_some hf
      refine kal18 F I_13 g14 dX6_addPoints_38 ?_
      refine lv_iload hx hb dX6_addPoints_39 (lv_at hl_10 0 rfl) ?_
      refine lv_iload_n hx hb dX6_addPoints_41 rfl (lv_at hl_10 3 rfl) ?_
      refine lv_imul hx hb dX6_addPoints_42 ?_
      refine lv_iadd hx hb dX6_addPoints_43 ?_
      obtain ⟨g15, hf⟩ := ri_some hf
      refine kas18 F I_13 g15 dX6_addPoints_44 ?_
      intro H_17 lo_17 G16 eG16 I_17
      replace hf := nm_some eG16 hf
      refine lv_aload_n hx hb dX6_addPoints_45 rfl (lv_at hl_10 1 rfl) ?_
      refine lv_iload_n hx hb dX6_addPoints_46 rfl (lv_at hl_10 2 rfl) ?_
      obtain ⟨r18, h19⟩ : ∃ z, z = C_CO_secondOf a1 := ⟨_, rfl⟩
      replace hf := nm_some h19 hf
      refine s_callSi (As := [.int a1]) (rest := [.ref (ad 18)]) F I_17 (cC_CO_secondOf G16 E Dd P Z a1 r18 h19) kX6_136 ⟨rfl, rfl⟩ ⟨Nat.le_trans (Nat.le_of_ble_eq_true rfl) hRf, Nat.le_trans (Nat.le_of_ble_eq_true rfl) hRl⟩ rfl rfl hl_10.1 (Nat.le_of_ble_eq_true rfl) ⟨Nat.zero_le _, Nat.zero_le _⟩ dX6_addPoints_47 ?_
      intro H_20 lo_20 I_20
      refine lv_dup2_11 hx hb dX6_addPoints_50 rfl rfl ?_
      obtain ⟨g21, hf⟩ := ri_some hf
      refine kal18 F I_20 g21 dX6_addPoints_51 ?_
      refine lv_iconst (v := (2 : Int32)) hx hb dX6_addPoints_52 (by decide) ?_
      refine lv_iload hx hb dX6_addPoints_53 (lv_at hl_10 0 rfl) ?_
      refine lv_isub hx hb dX6_addPoints_55 ?_
      refine lv_iload_n hx hb dX6_addPoints_56 rfl (lv_at hl_10 3 rfl) ?_
      refine lv_imul hx hb dX6_addPoints_57 ?_
      refine lv_iadd hx hb dX6_addPoints_58 ?_
      obtain ⟨g22, hf⟩ := ri_some hf
      refine kas18 F I_20 g22 dX6_addPoints_59 ?_
      intro H_24 lo_24 G23 eG23 I_24
      replace hf := nm_some eG23 hf
      cases hf
      exact ret H_24 lo_24 _ ls_10 I_24 dX6_addPoints_60
  replace hf := hv26
  refine lv_if_ne (tgt := 13) hx hb dX6_addPoints_6 (by decide) (fun c28 => ?_) (fun c28 => ?_)
  · replace hf := (if_neg c28).symm.trans hf
    refine lv_iload_n hx hb dX6_addPoints_13 rfl (lv_at hl_4 0 rfl) ?_
    refine lv_iconst (v := (1 : Int32)) hx hb dX6_addPoints_14 (by decide) ?_
    refine lv_icmp_ne (tgt := 22) hx hb dX6_addPoints_15 (by decide) (fun c27 => ?_) (fun c27 => ?_)
    · replace hf := (if_neg c27).symm.trans hf
      refine lv_iconst (v := (0 : Int32)) hx hb dX6_addPoints_22 (by decide) ?_
      cases hf
      exact J5 H_3 lo_3 I_3 ls_4 (lv_sub hl_4 [1, 2, 3] rfl)
    · replace hf := (if_pos c27).symm.trans hf
      refine lv_iconst (v := (2 : Int32)) hx hb dX6_addPoints_18 (by decide) ?_
      refine lv_goto (tgt := 23) hx hb dX6_addPoints_19 (by decide) ?_
      cases hf
      exact J5 H_3 lo_3 I_3 ls_4 (lv_sub hl_4 [1, 2, 3] rfl)
  · replace hf := (if_pos c28).symm.trans hf
    refine lv_iconst (v := (1 : Int32)) hx hb dX6_addPoints_9 (by decide) ?_
    refine lv_goto (tgt := 23) hx hb dX6_addPoints_10 (by decide) ?_
    cases hf
    exact J5 H_3 lo_3 I_3 ls_4 (lv_sub hl_4 [1, 2, 3] rfl)
def C_SD_weigh_1_s2  (x21 : Int32) (G22 : Nat → Nat → Int32) : Option ((Int32 × (Nat → Nat → Int32)) ⊕ ((Nat → Nat → Int32))) :=
if G22 5 0 ≤ x21 then
(some (.inr G22))
else
(bd (C_CO_at G22 x21) fun r30 =>
nm (C_CO_listenerOf r30) fun r34 =>
ri 8 r34 <|
nm (G22 22 r34.toNatClampNeg : Int32) fun x38 =>
bd (C_LE_addWin_22 G22 r30 x38) fun G40 =>
bd (C_SD_addPoints_18 G40 r30 x38) fun G43 =>
nm (x21 + (1 : Int32) : Int32) fun x46 =>
some (.inl (x46, G43)))
def C_SD_weigh_1_s1 (a3 : Int32) (x8 : Int32) (G9 : Nat → Nat → Int32) : Option ((Int32 × (Nat → Nat → Int32)) ⊕ ((Nat → Nat → Int32))) :=
if (8 : Int32) ≤ x8 then
(some (.inr G9))
else
(bd (if x8 = a3 then
(some (0 : Int32))
else
(if x8 < (8 : Int32) then
(ri 8 x8 <|
some (G9 2 x8.toNatClampNeg))
else
(some (0 : Int32)))) fun x53 =>
ri 8 x8 <|
nm (wr G9 22 x8 x53) fun G58 =>
nm (x8 + (1 : Int32) : Int32) fun x60 =>
some (.inl (x60, G58)))
def C_SD_weigh_1 (G : Nat → Nat → Int32) (a1 : Int32) (a3 : Int32) : Option ((Nat → Nat → Int32)) :=
nm (wf G 21 (if (8 : Int32) < a1 then (8 : Int32) else a1)) fun G1 =>
nm (wf G1 29 (0 : Int32)) fun G3 =>
nm (wf G3 30 (0 : Int32)) fun G5 =>
bd (lp (fun q => C_SD_weigh_1_s1 a3 q.1 q.2) FU ((0 : Int32), G5)) fun G10 =>
bd (C_LE_clearAll_22 G10) fun G14 =>
bd (C_JA_fill_i_18 G14 (0 : Int32)) fun G17 =>
bd (lp (fun q => C_SD_weigh_1_s2 q.1 q.2) FU ((0 : Int32), G17)) fun G23 =>
some G23
set_option maxRecDepth 100000 in
set_option maxHeartbeats 4000000 in
theorem cC_SD_weigh_1 (G : Nat → Nat → Int32) (E : Nat → Nat → Int64) (Dd : Nat → Nat → UInt64) (P : Nat → Option PRec) (Z : List PRec) (a1 : Int32) (a3 : Int32)  (newG : Nat → Nat → Int32) (hf : C_SD_weigh_1 G a1 a3 = some newG) : sMv D (cT cI cJ cD cS) (cW ad cI cJ cD cS) l yX6_weigh (ws1 yX6_weigh cX6_weigh 8 none) ({ frames := 3, cells := 0, slots := 0, locals := 64 }) [.ref (ad 16), .ref (ad 2), .int a1, .ref (ad 1), .int a3] (G, E, Dd, P, Z) (newG, E, Dd, P, Z) := by
  unfold C_SD_weigh_1 at hf
  refine sMv_of (by decide) (Nat.le_of_ble_eq_true rfl) ?_
  intro p e R s m args below meth c A Q ls H lo F hRf hRl I hl ret
  obtain ⟨hx, hb, hml, hown, hG⟩ := id F
  replace hl : lv_has ls 8 [(0, .ref (ad 16)), (1, .ref (ad 2)), (2, .int a1), (3, .ref (ad 1)), (4, .int a3)] := hl
  refine lv_aload_n hx hb dX6_weigh_0 rfl (lv_at hl 0 rfl) ?_
  refine lv_iload_n hx hb dX6_weigh_1 rfl (lv_at hl 2 rfl) ?_
  refine lv_bipush (v := (8 : Int32)) hx hb dX6_weigh_2 (by decide) ?_
  refine va_mmin (rest := [.ref (ad 16)]) hx hb (hml.trans hl.1.symm) hown (hG _ q579) (hG _ q467) (hG _ q126) (hG _ q468) (Nat.le_trans (Nat.le_of_ble_eq_true rfl) hRf) (Nat.le_trans (Nat.le_of_ble_eq_true rfl) hRl) (Nat.zero_le _) (Nat.zero_le _) dX6_weigh_4 ?_
  refine kptX6_9_16 F I dX6_weigh_7 ?_
  intro H_2 lo_2 G1 eG1 I_2
  replace hf := nm_some eG1 hf
  refine lv_aload_n hx hb dX6_weigh_10 rfl (lv_at hl 0 rfl) ?_
  refine lv_iconst (v := (0 : Int32)) hx hb dX6_weigh_11 (by decide) ?_
  refine kptX6_44_16 F I_2 (by decide) dX6_weigh_12 ?_
  intro H_4 lo_4 G3 eG3 I_4
  replace hf := nm_some eG3 hf
  refine lv_aload_n hx hb dX6_weigh_15 rfl (lv_at hl 0 rfl) ?_
  refine kgtX6_51_16 F I_4 dX6_weigh_16 ?_
  refine lv_iconst (v := (0 : Int32)) hx hb dX6_weigh_19 (by decide) ?_
  refine kptX6_61_24 F I_4 (by decide) dX6_weigh_20 ?_
  intro H_6 lo_6 G5 eG5 I_6
  replace hf := nm_some eG5 hf
  refine lv_iconst (v := (0 : Int32)) hx hb dX6_weigh_23 (by decide) ?_
  refine lv_istore (lv' := [(5, .int (0 : Int32)), (0, .ref (ad 16)), (1, .ref (ad 2)), (2, .int a1), (3, .ref (ad 1)), (4, .int a3)]) hx hb dX6_weigh_24 hl (by decide) rfl (fun ls_7 hl_7 => ?_)
  obtain ⟨G10, hq1, hf⟩ := bd_some hf
  have K1 : ∀ (H : Heap) (locs : List Loc), sInv D (cT cI cJ cD cS) (cW ad cI cJ cD cS) A s H locs (G10, E, Dd, P, Z) → ∀ (ls : Array Slot), lv_has ls 8 [(0, .ref (ad 16)), (1, .ref (ad 2))] → W p l e R s m args below meth c H locs 0 0 Q (F0 m 68 ls []) := by
    intro H_11 lo_11 I_11 ls_12 hl_12
    refine lv_aload_n hx hb dX6_weigh_68 rfl (lv_at hl_12 0 rfl) ?_
    refine kgtX6_22_16 F I_11 dX6_weigh_69 ?_
    obtain ⟨G14, h15, hf⟩ := bd_some hf
    refine s_callVv (As := []) (rest := []) F I_11 (cC_LE_clearAll_22 G10 E Dd P Z G14 h15) kX6_64 ⟨rfl, rfl⟩ ⟨Nat.le_trans (Nat.le_of_ble_eq_true rfl) hRf, Nat.le_trans (Nat.le_of_ble_eq_true rfl) hRl⟩ (22) 3 rfl rfl rfl rfl rfl hl_12.1 (Nat.le_of_ble_eq_true rfl) ⟨Nat.zero_le _, Nat.zero_le _⟩ dX6_weigh_72 ?_
    intro H_16 lo_16 I_16
    refine lv_aload_n hx hb dX6_weigh_75 rfl (lv_at hl_12 0 rfl) ?_
    refine kgtX6_26_16 F I_16 dX6_weigh_76 ?_
    refine lv_iconst (v := (0 : Int32)) hx hb dX6_weigh_79 (by decide) ?_
    obtain ⟨G17, h18, hf⟩ := bd_some hf
    refine s_callSv (As := [.ref (ad 18), .int (0 : Int32)]) (rest := []) F I_16 (cC_JA_fill_i_18 G14 E Dd P Z (0 : Int32) G17 h18) kX6_67 ⟨rfl, rfl⟩ ⟨Nat.le_trans (Nat.le_of_ble_eq_true rfl) hRf, Nat.le_trans (Nat.le_of_ble_eq_true rfl) hRl⟩ rfl rfl hl_12.1 (Nat.le_of_ble_eq_true rfl) ⟨Nat.zero_le _, Nat.zero_le _⟩ dX6_weigh_80 ?_
    intro H_19 lo_19 I_19
    refine lv_iconst (v := (0 : Int32)) hx hb dX6_weigh_83 (by decide) ?_
    refine lv_istore (lv' := [(5, .int (0 : Int32)), (0, .ref (ad 16)), (1, .ref (ad 2))]) hx hb dX6_weigh_84 hl_12 (by decide) rfl (fun ls_20 hl_20 => ?_)
    obtain ⟨G23, hq2, hf⟩ := bd_some hf
    have K2 : ∀ (H : Heap) (locs : List Loc), sInv D (cT cI cJ cD cS) (cW ad cI cJ cD cS) A s H locs (G23, E, Dd, P, Z) → ∀ (ls : Array Slot), lv_has ls 8 [] → W p l e R s m args below meth c H locs 0 0 Q (F0 m 143 ls []) := by
      intro H_24 lo_24 I_24 ls_25 hl_25
      cases hf
      exact ret H_24 lo_24 _ ls_25 I_24 dX6_weigh_143
    have L2 : ∀ (n : Nat) (x21 : Int32) (G22 : Nat → Nat → Int32), lp (fun q => C_SD_weigh_1_s2 q.1 q.2) n (x21, G22) = some G23 → ∀ (H : Heap) (locs : List Loc), sInv D (cT cI cJ cD cS) (cW ad cI cJ cD cS) A s H locs (G22, E, Dd, P, Z) → ∀ (ls : Array Slot), lv_has ls 8 [(0, .ref (ad 16)), (1, .ref (ad 2)), (5, .int x21)] → W p l e R s m args below meth c H locs 0 0 Q (F0 m 86 ls []) := by
      intro n
      induction n with
      | zero => intro x21 G22 hq; exact (lp_0 hq).elim
      | succ n ih2 =>
        intro x21 G22 hq H_27 lo_27 I_27 ls_28 hl_28
        obtain ⟨y2, hf, hK2⟩ := lp_go hq
        replace hf : C_SD_weigh_1_s2 x21 G22 = some y2 := hf
        unfold C_SD_weigh_1_s2 at hf
        refine lv_iload hx hb dX6_weigh_86 (lv_at hl_28 2 rfl) ?_
        refine lv_aload_n hx hb dX6_weigh_88 rfl (lv_at hl_28 1 rfl) ?_
        refine kgtX6_73_2 F I_27 dX6_weigh_89 ?_
        refine lv_icmp_ge (tgt := 143) hx hb dX6_weigh_92 (by decide) (fun c48 => ?_) (fun c48 => ?_)
        · replace hf := (if_pos c48).symm.trans hf
          cases hf
          cases (show G22 = G23 from hK2)
          exact K2 H_27 lo_27 I_27 ls_28 (lv_sub hl_28 [] rfl)
        · replace hf := (if_neg c48).symm.trans hf
          refine lv_aload_n hx hb dX6_weigh_95 rfl (lv_at hl_28 1 rfl) ?_
          refine lv_iload hx hb dX6_weigh_96 (lv_at hl_28 2 rfl) ?_
          obtain ⟨r30, h31, hf⟩ := bd_some hf
          refine s_callVi (As := [.int x21]) (rest := []) F I_27 (cC_CO_at G22 E Dd P Z x21 r30 h31) kX6_78 ⟨rfl, rfl⟩ ⟨Nat.le_trans (Nat.le_of_ble_eq_true rfl) hRf, Nat.le_trans (Nat.le_of_ble_eq_true rfl) hRl⟩ (2) 1 rfl rfl rfl rfl rfl hl_28.1 (Nat.le_of_ble_eq_true rfl) ⟨Nat.zero_le _, Nat.zero_le _⟩ dX6_weigh_98 ?_
          intro H_32 lo_32 I_32
          refine lv_istore (lv' := [(6, .int r30), (0, .ref (ad 16)), (1, .ref (ad 2)), (5, .int x21)]) hx hb dX6_weigh_101 hl_28 (by decide) rfl (fun ls_33 hl_33 => ?_)
          refine lv_aload_n hx hb dX6_weigh_103 rfl (lv_at hl_33 1 rfl) ?_
          refine kgtX6_15_16 F I_32 dX6_weigh_104 ?_
          refine lv_iload hx hb dX6_weigh_107 (lv_at hl_33 0 rfl) ?_
          obtain ⟨r34, h35⟩ : ∃ z, z = C_CO_listenerOf r30 := ⟨_, rfl⟩
          replace hf := nm_some h35 hf
          refine s_callSi (As := [.int r30]) (rest := [.ref (ad 17)]) F I_32 (cC_CO_listenerOf G22 E Dd P Z r30 r34 h35) kX6_82 ⟨rfl, rfl⟩ ⟨Nat.le_trans (Nat.le_of_ble_eq_true rfl) hRf, Nat.le_trans (Nat.le_of_ble_eq_true rfl) hRl⟩ rfl rfl hl_33.1 (Nat.le_of_ble_eq_true rfl) ⟨Nat.zero_le _, Nat.zero_le _⟩ dX6_weigh_109 ?_
          intro H_36 lo_36 I_36
          obtain ⟨g37, hf⟩ := ri_some hf
          refine kal17 F I_36 g37 dX6_weigh_112 ?_
          refine lv_topi (fun x38 ex38 => ?_)
          replace hf := nm_some ex38 hf
          refine lv_istore (lv' := [(7, .int x38), (6, .int r30), (0, .ref (ad 16)), (1, .ref (ad 2)), (5, .int x21)]) hx hb dX6_weigh_113 hl_33 (by decide) rfl (fun ls_39 hl_39 => ?_)
          refine lv_aload_n hx hb dX6_weigh_115 rfl (lv_at hl_39 2 rfl) ?_
          refine kgtX6_22_16 F I_36 dX6_weigh_116 ?_
          refine lv_iload hx hb dX6_weigh_119 (lv_at hl_39 1 rfl) ?_
          refine lv_iload hx hb dX6_weigh_121 (lv_at hl_39 0 rfl) ?_
          obtain ⟨G40, h41, hf⟩ := bd_some hf
          refine s_callVv (As := [.int r30, .int x38]) (rest := []) F I_36 (cC_LE_addWin_22 G22 E Dd P Z r30 x38 G40 h41) kX6_85 ⟨rfl, rfl⟩ ⟨Nat.le_trans (Nat.le_of_ble_eq_true rfl) hRf, Nat.le_trans (Nat.le_of_ble_eq_true rfl) hRl⟩ (22) 3 rfl rfl rfl rfl rfl hl_39.1 (Nat.le_of_ble_eq_true rfl) ⟨Nat.zero_le _, Nat.zero_le _⟩ dX6_weigh_123 ?_
          intro H_42 lo_42 I_42
          refine lv_aload_n hx hb dX6_weigh_126 rfl (lv_at hl_39 2 rfl) ?_
          refine kgtX6_26_16 F I_42 dX6_weigh_127 ?_
          refine lv_iload hx hb dX6_weigh_130 (lv_at hl_39 1 rfl) ?_
          refine lv_iload hx hb dX6_weigh_132 (lv_at hl_39 0 rfl) ?_
          obtain ⟨G43, h44, hf⟩ := bd_some hf
          refine s_callSv (As := [.ref (ad 18), .int r30, .int x38]) (rest := []) F I_42 (cC_SD_addPoints_18 G40 E Dd P Z r30 x38 G43 h44) kX6_89 ⟨rfl, rfl⟩ ⟨Nat.le_trans (Nat.le_of_ble_eq_true rfl) hRf, Nat.le_trans (Nat.le_of_ble_eq_true rfl) hRl⟩ rfl rfl hl_39.1 (Nat.le_of_ble_eq_true rfl) ⟨Nat.zero_le _, Nat.zero_le _⟩ dX6_weigh_134 ?_
          intro H_45 lo_45 I_45
          obtain ⟨x46, ex46⟩ : ∃ y : Int32, y = x21 + (1 : Int32) := ⟨_, rfl⟩
          replace hf := nm_some ex46 hf
          refine lv_iinc (v := x46) (lv' := [(5, .int x46), (7, .int x38), (6, .int r30), (0, .ref (ad 16)), (1, .ref (ad 2))]) hx hb dX6_weigh_137 hl_39 (k := 4) rfl (by rw [ex46]; rfl) (by decide) rfl (fun ls_47 hl_47 => ?_)
          refine lv_goto (tgt := 86) hx hb dX6_weigh_140 (by decide) ?_
          cases hf
          exact ih2 _ _ hK2 H_45 lo_45 I_45 ls_47 (lv_sub hl_47 [3, 4, 0] rfl)
    exact L2 FU _ _ hq2 H_19 lo_19 I_19 ls_20 (lv_sub hl_20 [1, 2, 0] rfl)
  have L1 : ∀ (n : Nat) (x8 : Int32) (G9 : Nat → Nat → Int32), lp (fun q => C_SD_weigh_1_s1 a3 q.1 q.2) n (x8, G9) = some G10 → ∀ (H : Heap) (locs : List Loc), sInv D (cT cI cJ cD cS) (cW ad cI cJ cD cS) A s H locs (G9, E, Dd, P, Z) → ∀ (ls : Array Slot), lv_has ls 8 [(0, .ref (ad 16)), (1, .ref (ad 2)), (3, .ref (ad 1)), (4, .int a3), (5, .int x8)] → W p l e R s m args below meth c H locs 0 0 Q (F0 m 26 ls []) := by
    intro n
    induction n with
    | zero => intro x8 G9 hq; exact (lp_0 hq).elim
    | succ n ih1 =>
      intro x8 G9 hq H_49 lo_49 I_49 ls_50 hl_50
      obtain ⟨y1, hf, hK1⟩ := lp_go hq
      replace hf : C_SD_weigh_1_s1 a3 x8 G9 = some y1 := hf
      unfold C_SD_weigh_1_s1 at hf
      refine lv_iload hx hb dX6_weigh_26 (lv_at hl_50 4 rfl) ?_
      refine lv_bipush (v := (8 : Int32)) hx hb dX6_weigh_28 (by decide) ?_
      refine lv_icmp_ge (tgt := 68) hx hb dX6_weigh_30 (by decide) (fun c66 => ?_) (fun c66 => ?_)
      · replace hf := (if_pos c66).symm.trans hf
        cases hf
        cases (show G9 = G10 from hK1)
        exact K1 H_49 lo_49 I_49 ls_50 (lv_sub hl_50 [0, 1] rfl)
      · replace hf := (if_neg c66).symm.trans hf
        refine lv_aload_n hx hb dX6_weigh_33 rfl (lv_at hl_50 0 rfl) ?_
        refine kgtX6_15_16 F I_49 dX6_weigh_34 ?_
        refine lv_iload hx hb dX6_weigh_37 (lv_at hl_50 4 rfl) ?_
        refine lv_iload hx hb dX6_weigh_39 (lv_at hl_50 4 rfl) ?_
        refine lv_iload hx hb dX6_weigh_41 (lv_at hl_50 3 rfl) ?_
        obtain ⟨x53, hv62, hf⟩ := bd_some hf
        have J52 : ∀ (H : Heap) (locs : List Loc), sInv D (cT cI cJ cD cS) (cW ad cI cJ cD cS) A s H locs (G9, E, Dd, P, Z) → ∀ (ls : Array Slot), lv_has ls 8 [(0, .ref (ad 16)), (1, .ref (ad 2)), (3, .ref (ad 1)), (4, .int a3), (5, .int x8)] → W p l e R s m args below meth c H locs 0 0 Q (F0 m 61 ls [.int x53, .int x8, .ref (ad 17)]) := by
          intro H_54 lo_54 I_54 ls_55 hl_55
          obtain ⟨g57, hf⟩ := ri_some hf
          refine kas17 F I_54 g57 dX6_weigh_61 ?_
          intro H_59 lo_59 G58 eG58 I_59
          replace hf := nm_some eG58 hf
          obtain ⟨x60, ex60⟩ : ∃ y : Int32, y = x8 + (1 : Int32) := ⟨_, rfl⟩
          replace hf := nm_some ex60 hf
          refine lv_iinc (v := x60) (lv' := [(5, .int x60), (0, .ref (ad 16)), (1, .ref (ad 2)), (3, .ref (ad 1)), (4, .int a3)]) hx hb dX6_weigh_62 hl_55 (k := 4) rfl (by rw [ex60]; rfl) (by decide) rfl (fun ls_61 hl_61 => ?_)
          refine lv_goto (tgt := 26) hx hb dX6_weigh_65 (by decide) ?_
          cases hf
          exact ih1 _ _ hK1 H_59 lo_59 I_59 ls_61 (lv_sub hl_61 [1, 2, 3, 4, 0] rfl)
        replace hf := hv62
        refine lv_icmp_eq (tgt := 53) hx hb dX6_weigh_43 (by decide) (fun c65 => ?_) (fun c65 => ?_)
        · replace hf := (if_pos c65).symm.trans hf
          refine lv_iconst (v := (0 : Int32)) hx hb dX6_weigh_53 (by decide) ?_
          refine lv_goto (tgt := 61) hx hb dX6_weigh_54 (by decide) ?_
          cases hf
          exact J52 H_49 lo_49 I_49 ls_50 (lv_sub hl_50 [0, 1, 2, 3, 4] rfl)
        · replace hf := (if_neg c65).symm.trans hf
          refine lv_iload hx hb dX6_weigh_46 (lv_at hl_50 4 rfl) ?_
          refine lv_aload_n hx hb dX6_weigh_48 rfl (lv_at hl_50 2 rfl) ?_
          refine kln1 F I_49 dX6_weigh_49 ?_
          refine lv_icmp_lt (tgt := 57) hx hb dX6_weigh_50 (by decide) (fun c64 => ?_) (fun c64 => ?_)
          · replace hf := (if_pos c64).symm.trans hf
            refine lv_aload_n hx hb dX6_weigh_57 rfl (lv_at hl_50 2 rfl) ?_
            refine lv_iload hx hb dX6_weigh_58 (lv_at hl_50 4 rfl) ?_
            obtain ⟨g63, hf⟩ := ri_some hf
            refine kal1 F I_49 g63 dX6_weigh_60 ?_
            cases hf
            exact J52 H_49 lo_49 I_49 ls_50 (lv_sub hl_50 [0, 1, 2, 3, 4] rfl)
          · replace hf := (if_neg c64).symm.trans hf
            refine lv_iconst (v := (0 : Int32)) hx hb dX6_weigh_53 (by decide) ?_
            refine lv_goto (tgt := 61) hx hb dX6_weigh_54 (by decide) ?_
            cases hf
            exact J52 H_49 lo_49 I_49 ls_50 (lv_sub hl_50 [0, 1, 2, 3, 4] rfl)
  exact L1 FU _ _ hq1 H_6 lo_6 I_6 ls_7 (lv_sub hl_7 [1, 2, 4, 5, 0] rfl)
def C_LT_weigh (G : Nat → Nat → Int32) (a0 : Int32) : Option ((Nat → Nat → Int32)) :=
bd (C_SD_weigh_1 G (G 0 0) a0) fun G1 =>
some G1
set_option maxRecDepth 100000 in
set_option maxHeartbeats 4000000 in
theorem cC_LT_weigh (G : Nat → Nat → Int32) (E : Nat → Nat → Int64) (Dd : Nat → Nat → UInt64) (P : Nat → Option PRec) (Z : List PRec) (a0 : Int32)  (newG : Nat → Nat → Int32) (hf : C_LT_weigh G a0 = some newG) : sMv D (cT cI cJ cD cS) (cW ad cI cJ cD cS) l yX11_weigh (ws1 yX11_weigh cX11_weigh 2 none) ({ frames := 4, cells := 0, slots := 0, locals := 91 }) [.ref (ad 0), .int a0] (G, E, Dd, P, Z) (newG, E, Dd, P, Z) := by
  unfold C_LT_weigh at hf
  refine sMv_of (by decide) (Nat.le_of_ble_eq_true rfl) ?_
  intro p e R s m args below meth c A Q ls H lo F hRf hRl I hl ret
  obtain ⟨hx, hb, hml, hown, hG⟩ := id F
  replace hl : lv_has ls 2 [(0, .ref (ad 0)), (1, .int a0)] := hl
  refine lv_aload_n hx hb dX11_weigh_0 rfl (lv_at hl 0 rfl) ?_
  refine kgtX11_54_0 F I dX11_weigh_1 ?_
  refine lv_aload_n hx hb dX11_weigh_4 rfl (lv_at hl 0 rfl) ?_
  refine kgtX11_16_0 F I dX11_weigh_5 ?_
  refine lv_aload_n hx hb dX11_weigh_8 rfl (lv_at hl 0 rfl) ?_
  refine kgtX11_89_0 F I dX11_weigh_9 ?_
  refine lv_aload_n hx hb dX11_weigh_12 rfl (lv_at hl 0 rfl) ?_
  refine kgtX11_9_0 F I dX11_weigh_13 ?_
  refine lv_iload_n hx hb dX11_weigh_16 rfl (lv_at hl 1 rfl) ?_
  obtain ⟨G1, h2, hf⟩ := bd_some hf
  refine s_callVv (As := [.ref (ad 2), .int (G 0 0), .ref (ad 1), .int a0]) (rest := []) F I (cC_SD_weigh_1 G E Dd P Z (G 0 0) a0 G1 h2) kX11_329 ⟨rfl, rfl⟩ ⟨Nat.le_trans (Nat.le_of_ble_eq_true rfl) hRf, Nat.le_trans (Nat.le_of_ble_eq_true rfl) hRl⟩ (16) 6 rfl rfl rfl rfl rfl hl.1 (Nat.le_of_ble_eq_true rfl) ⟨Nat.zero_le _, Nat.zero_le _⟩ dX11_weigh_17 ?_
  intro H_3 lo_3 I_3
  cases hf
  exact ret H_3 lo_3 _ ls I_3 dX11_weigh_20
def C_JA_fill_i_13_s1 (a1 : Int32) (x3 : Int32) (G4 : Nat → Nat → Int32) : Option ((Int32 × (Nat → Nat → Int32)) ⊕ ((Nat → Nat → Int32))) :=
if (64 : Int32) ≤ x3 then
(some (.inr G4))
else
(ri 64 x3 <|
nm (wr G4 18 x3 a1) fun G13 =>
nm (x3 + (1 : Int32) : Int32) fun x15 =>
some (.inl (x15, G13)))
def C_JA_fill_i_13 (G : Nat → Nat → Int32) (a1 : Int32) : Option ((Nat → Nat → Int32)) :=
bd (lp (fun q => C_JA_fill_i_13_s1 a1 q.1 q.2) FU ((0 : Int32), G)) fun G5 =>
some G5
set_option maxRecDepth 100000 in
set_option maxHeartbeats 4000000 in
theorem cC_JA_fill_i_13 (G : Nat → Nat → Int32) (E : Nat → Nat → Int64) (Dd : Nat → Nat → UInt64) (P : Nat → Option PRec) (Z : List PRec) (a1 : Int32)  (newG : Nat → Nat → Int32) (hf : C_JA_fill_i_13 G a1 = some newG) : sMv D (cT cI cJ cD cS) (cW ad cI cJ cD cS) l yJ7_fill_53178 (ws1 yJ7_fill_53178 cJ7_fill_53178 4 none) ({ frames := 0, cells := 0, slots := 0, locals := 0 }) [.ref (ad 13), .int a1] (G, E, Dd, P, Z) (newG, E, Dd, P, Z) := by
  unfold C_JA_fill_i_13 at hf
  refine sMv_of (by decide) (Nat.le_of_ble_eq_true rfl) ?_
  intro p e R s m args below meth c A Q ls H lo F hRf hRl I hl ret
  obtain ⟨hx, hb, hml, hown, hG⟩ := id F
  replace hl : lv_has ls 4 [(0, .ref (ad 13)), (1, .int a1)] := hl
  refine lv_iconst (v := (0 : Int32)) hx hb dJ7_fill_53178_0 (by decide) ?_
  refine lv_istore_n (lv' := [(2, .int (0 : Int32)), (0, .ref (ad 13)), (1, .int a1)]) hx hb dJ7_fill_53178_1 rfl hl (by decide) rfl (fun ls_1 hl_1 => ?_)
  refine lv_aload_n hx hb dJ7_fill_53178_2 rfl (lv_at hl_1 1 rfl) ?_
  refine kln13 F I dJ7_fill_53178_3 ?_
  refine lv_istore_n (lv' := [(3, .int (64 : Int32)), (2, .int (0 : Int32)), (0, .ref (ad 13)), (1, .int a1)]) hx hb dJ7_fill_53178_4 rfl hl_1 (by decide) rfl (fun ls_2 hl_2 => ?_)
  obtain ⟨G5, hq1, hf⟩ := bd_some hf
  have K1 : ∀ (H : Heap) (locs : List Loc), sInv D (cT cI cJ cD cS) (cW ad cI cJ cD cS) A s H locs (G5, E, Dd, P, Z) → ∀ (ls : Array Slot), lv_has ls 4 [] → W p l e R s m args below meth c H locs 0 0 Q (F0 m 20 ls []) := by
    intro H_6 lo_6 I_6 ls_7 hl_7
    cases hf
    exact ret H_6 lo_6 _ ls_7 I_6 dJ7_fill_53178_20
  have L1 : ∀ (n : Nat) (x3 : Int32) (G4 : Nat → Nat → Int32), lp (fun q => C_JA_fill_i_13_s1 a1 q.1 q.2) n (x3, G4) = some G5 → ∀ (H : Heap) (locs : List Loc), sInv D (cT cI cJ cD cS) (cW ad cI cJ cD cS) A s H locs (G4, E, Dd, P, Z) → ∀ (ls : Array Slot), lv_has ls 4 [(0, .ref (ad 13)), (1, .int a1), (2, .int x3), (3, .int (64 : Int32))] → W p l e R s m args below meth c H locs 0 0 Q (F0 m 5 ls []) := by
    intro n
    induction n with
    | zero => intro x3 G4 hq; exact (lp_0 hq).elim
    | succ n ih1 =>
      intro x3 G4 hq H_9 lo_9 I_9 ls_10 hl_10
      obtain ⟨y1, hf, hK1⟩ := lp_go hq
      replace hf : C_JA_fill_i_13_s1 a1 x3 G4 = some y1 := hf
      unfold C_JA_fill_i_13_s1 at hf
      refine lv_iload_n hx hb dJ7_fill_53178_5 rfl (lv_at hl_10 2 rfl) ?_
      refine lv_iload_n hx hb dJ7_fill_53178_6 rfl (lv_at hl_10 3 rfl) ?_
      refine lv_icmp_ge (tgt := 20) hx hb dJ7_fill_53178_7 (by decide) (fun c17 => ?_) (fun c17 => ?_)
      · replace hf := (if_pos c17).symm.trans hf
        cases hf
        cases (show G4 = G5 from hK1)
        exact K1 H_9 lo_9 I_9 ls_10 (lv_sub hl_10 [] rfl)
      · replace hf := (if_neg c17).symm.trans hf
        refine lv_aload_n hx hb dJ7_fill_53178_10 rfl (lv_at hl_10 0 rfl) ?_
        refine lv_iload_n hx hb dJ7_fill_53178_11 rfl (lv_at hl_10 2 rfl) ?_
        refine lv_iload_n hx hb dJ7_fill_53178_12 rfl (lv_at hl_10 1 rfl) ?_
        obtain ⟨g12, hf⟩ := ri_some hf
        refine kas13 F I_9 g12 dJ7_fill_53178_13 ?_
        intro H_14 lo_14 G13 eG13 I_14
        replace hf := nm_some eG13 hf
        obtain ⟨x15, ex15⟩ : ∃ y : Int32, y = x3 + (1 : Int32) := ⟨_, rfl⟩
        replace hf := nm_some ex15 hf
        refine lv_iinc (v := x15) (lv' := [(2, .int x15), (0, .ref (ad 13)), (1, .int a1), (3, .int (64 : Int32))]) hx hb dJ7_fill_53178_14 hl_10 (k := 2) rfl (by rw [ex15]; rfl) (by decide) rfl (fun ls_16 hl_16 => ?_)
        refine lv_goto (tgt := 5) hx hb dJ7_fill_53178_17 (by decide) ?_
        cases hf
        exact ih1 _ _ hK1 H_14 lo_14 I_14 ls_16 (lv_sub hl_16 [1, 2, 0, 3] rfl)
  exact L1 FU _ _ hq1 H lo I ls_2 (lv_sub hl_2 [2, 3, 1, 0] rfl)
def C_LE_clearAll_12 (G : Nat → Nat → Int32) : Option ((Nat → Nat → Int32)) :=
bd (C_JA_fill_i_13 G (0 : Int32)) fun G1 =>
some G1
set_option maxRecDepth 100000 in
set_option maxHeartbeats 4000000 in
theorem cC_LE_clearAll_12 (G : Nat → Nat → Int32) (E : Nat → Nat → Int64) (Dd : Nat → Nat → UInt64) (P : Nat → Option PRec) (Z : List PRec)   (newG : Nat → Nat → Int32) (hf : C_LE_clearAll_12 G = some newG) : sMv D (cT cI cJ cD cS) (cW ad cI cJ cD cS) l yX3_clearAll (ws1 yX3_clearAll cX3_clearAll 1 none) ({ frames := 1, cells := 0, slots := 0, locals := 23 }) [.ref (ad 12)] (G, E, Dd, P, Z) (newG, E, Dd, P, Z) := by
  unfold C_LE_clearAll_12 at hf
  refine sMv_of (by decide) (Nat.le_of_ble_eq_true rfl) ?_
  intro p e R s m args below meth c A Q ls H lo F hRf hRl I hl ret
  obtain ⟨hx, hb, hml, hown, hG⟩ := id F
  replace hl : lv_has ls 1 [(0, .ref (ad 12))] := hl
  refine lv_aload_n hx hb dX3_clearAll_0 rfl (lv_at hl 0 rfl) ?_
  refine kgtX3_9_12 F I dX3_clearAll_1 ?_
  refine lv_iconst (v := (0 : Int32)) hx hb dX3_clearAll_4 (by decide) ?_
  obtain ⟨G1, h2, hf⟩ := bd_some hf
  refine s_callSv (As := [.ref (ad 13), .int (0 : Int32)]) (rest := []) F I (cC_JA_fill_i_13 G E Dd P Z (0 : Int32) G1 h2) kX3_15 ⟨rfl, rfl⟩ ⟨Nat.le_trans (Nat.le_of_ble_eq_true rfl) hRf, Nat.le_trans (Nat.le_of_ble_eq_true rfl) hRl⟩ rfl rfl hl.1 (Nat.le_of_ble_eq_true rfl) ⟨Nat.zero_le _, Nat.zero_le _⟩ dX3_clearAll_5 ?_
  intro H_3 lo_3 I_3
  cases hf
  exact ret H_3 lo_3 _ ls I_3 dX3_clearAll_8
def C_LE_addWin_12 (G : Nat → Nat → Int32) (a0 : Int32) (a1 : Int32) : Option ((Nat → Nat → Int32)) :=
nm (C_CO_answerOf a0) fun r1 =>
if r1 = 0 then
(some G)
else
(bd (C_CO_winnerOf a0) fun r4 =>
bd (C_CO_loserOf a0) fun r8 =>
nm (C_LT_cell r4 r8) fun r12 =>
ri 64 r12 <|
ri 64 r12 <|
nm (wr G 18 r12 ((G 18 r12.toNatClampNeg) + a1)) fun G17 =>
nm (C_LT_cell r8 r4) fun r19 =>
ri 64 r19 <|
ri 64 r19 <|
nm (wr G17 18 r19 ((G17 18 r19.toNatClampNeg) - a1)) fun G24 =>
some G24)
set_option maxRecDepth 100000 in
set_option maxHeartbeats 4000000 in
theorem cC_LE_addWin_12 (G : Nat → Nat → Int32) (E : Nat → Nat → Int64) (Dd : Nat → Nat → UInt64) (P : Nat → Option PRec) (Z : List PRec) (a0 : Int32) (a1 : Int32)  (newG : Nat → Nat → Int32) (hf : C_LE_addWin_12 G a0 a1 = some newG) : sMv D (cT cI cJ cD cS) (cW ad cI cJ cD cS) l yX3_addWin (ws1 yX3_addWin cX3_addWin 5 none) ({ frames := 2, cells := 0, slots := 0, locals := 40 }) [.ref (ad 12), .int a0, .int a1] (G, E, Dd, P, Z) (newG, E, Dd, P, Z) := by
  unfold C_LE_addWin_12 at hf
  refine sMv_of (by decide) (Nat.le_of_ble_eq_true rfl) ?_
  intro p e R s m args below meth c A Q ls H lo F hRf hRl I hl ret
  obtain ⟨hx, hb, hml, hown, hG⟩ := id F
  replace hl : lv_has ls 5 [(0, .ref (ad 12)), (1, .int a0), (2, .int a1)] := hl
  refine lv_iload_n hx hb dX3_addWin_0 rfl (lv_at hl 1 rfl) ?_
  obtain ⟨r1, h2⟩ : ∃ z, z = C_CO_answerOf a0 := ⟨_, rfl⟩
  replace hf := nm_some h2 hf
  refine s_callSi (As := [.int a0]) (rest := []) F I (cC_CO_answerOf G E Dd P Z a0 r1 h2) kX3_41 ⟨rfl, rfl⟩ ⟨Nat.le_trans (Nat.le_of_ble_eq_true rfl) hRf, Nat.le_trans (Nat.le_of_ble_eq_true rfl) hRl⟩ rfl rfl hl.1 (Nat.le_of_ble_eq_true rfl) ⟨Nat.zero_le _, Nat.zero_le _⟩ dX3_addWin_1 ?_
  intro H_3 lo_3 I_3
  refine lv_if_eq (tgt := 48) hx hb dX3_addWin_4 (by decide) (fun c26 => ?_) (fun c26 => ?_)
  · replace hf := (if_pos c26).symm.trans hf
    cases hf
    exact ret H_3 lo_3 _ ls I_3 dX3_addWin_48
  · replace hf := (if_neg c26).symm.trans hf
    refine lv_iload_n hx hb dX3_addWin_7 rfl (lv_at hl 1 rfl) ?_
    obtain ⟨r4, h5, hf⟩ := bd_some hf
    refine s_callSi (As := [.int a0]) (rest := []) F I_3 (cC_CO_winnerOf G E Dd P Z a0 r4 h5) kX3_44 ⟨rfl, rfl⟩ ⟨Nat.le_trans (Nat.le_of_ble_eq_true rfl) hRf, Nat.le_trans (Nat.le_of_ble_eq_true rfl) hRl⟩ rfl rfl hl.1 (Nat.le_of_ble_eq_true rfl) ⟨Nat.zero_le _, Nat.zero_le _⟩ dX3_addWin_8 ?_
    intro H_6 lo_6 I_6
    refine lv_istore_n (lv' := [(3, .int r4), (0, .ref (ad 12)), (1, .int a0), (2, .int a1)]) hx hb dX3_addWin_11 rfl hl (by decide) rfl (fun ls_7 hl_7 => ?_)
    refine lv_iload_n hx hb dX3_addWin_12 rfl (lv_at hl_7 2 rfl) ?_
    obtain ⟨r8, h9, hf⟩ := bd_some hf
    refine s_callSi (As := [.int a0]) (rest := []) F I_6 (cC_CO_loserOf G E Dd P Z a0 r8 h9) kX3_47 ⟨rfl, rfl⟩ ⟨Nat.le_trans (Nat.le_of_ble_eq_true rfl) hRf, Nat.le_trans (Nat.le_of_ble_eq_true rfl) hRl⟩ rfl rfl hl_7.1 (Nat.le_of_ble_eq_true rfl) ⟨Nat.zero_le _, Nat.zero_le _⟩ dX3_addWin_13 ?_
    intro H_10 lo_10 I_10
    refine lv_istore (lv' := [(4, .int r8), (3, .int r4), (0, .ref (ad 12)), (1, .int a0), (2, .int a1)]) hx hb dX3_addWin_16 hl_7 (by decide) rfl (fun ls_11 hl_11 => ?_)
    refine lv_aload_n hx hb dX3_addWin_18 rfl (lv_at hl_11 2 rfl) ?_
    refine kgtX3_9_12 F I_10 dX3_addWin_19 ?_
    refine lv_iload_n hx hb dX3_addWin_22 rfl (lv_at hl_11 1 rfl) ?_
    refine lv_iload hx hb dX3_addWin_23 (lv_at hl_11 0 rfl) ?_
    obtain ⟨r12, h13⟩ : ∃ z, z = C_LT_cell r4 r8 := ⟨_, rfl⟩
    replace hf := nm_some h13 hf
    refine s_callSNi (As := [.int r4, .int r8]) (rest := [.ref (ad 13)]) F I_10 (cC_LT_cell G E Dd P Z r4 r8 r12 h13) kX3_50 ⟨rfl, rfl⟩ ⟨Nat.le_trans (Nat.le_of_ble_eq_true rfl) hRf, Nat.le_trans (Nat.le_of_ble_eq_true rfl) hRl⟩ rfl rfl hl_11.1 (Nat.le_of_ble_eq_true rfl) ⟨Nat.zero_le _, Nat.zero_le _⟩ dX3_addWin_25 ?_
    intro H_14 lo_14 I_14
    refine lv_dup2_11 hx hb dX3_addWin_28 rfl rfl ?_
    obtain ⟨g15, hf⟩ := ri_some hf
    refine kal13 F I_14 g15 dX3_addWin_29 ?_
    refine lv_iload_n hx hb dX3_addWin_30 rfl (lv_at hl_11 4 rfl) ?_
    refine lv_iadd hx hb dX3_addWin_31 ?_
    obtain ⟨g16, hf⟩ := ri_some hf
    refine kas13 F I_14 g16 dX3_addWin_32 ?_
    intro H_18 lo_18 G17 eG17 I_18
    replace hf := nm_some eG17 hf
    refine lv_aload_n hx hb dX3_addWin_33 rfl (lv_at hl_11 2 rfl) ?_
    refine kgtX3_9_12 F I_18 dX3_addWin_34 ?_
    refine lv_iload hx hb dX3_addWin_37 (lv_at hl_11 0 rfl) ?_
    refine lv_iload_n hx hb dX3_addWin_39 rfl (lv_at hl_11 1 rfl) ?_
    obtain ⟨r19, h20⟩ : ∃ z, z = C_LT_cell r8 r4 := ⟨_, rfl⟩
    replace hf := nm_some h20 hf
    refine s_callSNi (As := [.int r8, .int r4]) (rest := [.ref (ad 13)]) F I_18 (cC_LT_cell G17 E Dd P Z r8 r4 r19 h20) kX3_50 ⟨rfl, rfl⟩ ⟨Nat.le_trans (Nat.le_of_ble_eq_true rfl) hRf, Nat.le_trans (Nat.le_of_ble_eq_true rfl) hRl⟩ rfl rfl hl_11.1 (Nat.le_of_ble_eq_true rfl) ⟨Nat.zero_le _, Nat.zero_le _⟩ dX3_addWin_40 ?_
    intro H_21 lo_21 I_21
    refine lv_dup2_11 hx hb dX3_addWin_43 rfl rfl ?_
    obtain ⟨g22, hf⟩ := ri_some hf
    refine kal13 F I_21 g22 dX3_addWin_44 ?_
    refine lv_iload_n hx hb dX3_addWin_45 rfl (lv_at hl_11 4 rfl) ?_
    refine lv_isub hx hb dX3_addWin_46 ?_
    obtain ⟨g23, hf⟩ := ri_some hf
    refine kas13 F I_21 g23 dX3_addWin_47 ?_
    intro H_25 lo_25 G24 eG24 I_25
    replace hf := nm_some eG24 hf
    cases hf
    exact ret H_25 lo_25 _ ls_11 I_25 dX3_addWin_48
def C_LE_takeListener_12_s1 (a1 : Int32) (x5 : Int32) (G6 : Nat → Nat → Int32) : Option ((Int32 × (Nat → Nat → Int32)) ⊕ ((Nat → Nat → Int32))) :=
if G6 5 0 ≤ x5 then
(some (.inr G6))
else
(bd (C_CO_at G6 x5) fun r14 =>
nm (C_CO_listenerOf r14) fun r18 =>
bd (if r18 = a1 then
(bd (C_LE_addWin_12 G6 r14 (1 : Int32)) fun G29 =>
some G29)
else
(some G6)) fun G22 =>
nm (x5 + (1 : Int32) : Int32) fun x26 =>
some (.inl (x26, G22)))
def C_LE_takeListener_12 (G : Nat → Nat → Int32) (a1 : Int32) : Option ((Nat → Nat → Int32)) :=
bd (C_LE_clearAll_12 G) fun G1 =>
bd (lp (fun q => C_LE_takeListener_12_s1 a1 q.1 q.2) FU ((0 : Int32), G1)) fun G7 =>
some G7
set_option maxRecDepth 100000 in
set_option maxHeartbeats 4000000 in
theorem cC_LE_takeListener_12 (G : Nat → Nat → Int32) (E : Nat → Nat → Int64) (Dd : Nat → Nat → UInt64) (P : Nat → Option PRec) (Z : List PRec) (a1 : Int32)  (newG : Nat → Nat → Int32) (hf : C_LE_takeListener_12 G a1 = some newG) : sMv D (cT cI cJ cD cS) (cW ad cI cJ cD cS) l yX3_takeListener (ws1 yX3_takeListener cX3_takeListener 5 none) ({ frames := 3, cells := 0, slots := 0, locals := 64 }) [.ref (ad 12), .ref (ad 2), .int a1] (G, E, Dd, P, Z) (newG, E, Dd, P, Z) := by
  unfold C_LE_takeListener_12 at hf
  refine sMv_of (by decide) (Nat.le_of_ble_eq_true rfl) ?_
  intro p e R s m args below meth c A Q ls H lo F hRf hRl I hl ret
  obtain ⟨hx, hb, hml, hown, hG⟩ := id F
  replace hl : lv_has ls 5 [(0, .ref (ad 12)), (1, .ref (ad 2)), (2, .int a1)] := hl
  refine lv_aload_n hx hb dX3_takeListener_0 rfl (lv_at hl 0 rfl) ?_
  obtain ⟨G1, h2, hf⟩ := bd_some hf
  refine s_callVv (As := []) (rest := []) F I (cC_LE_clearAll_12 G E Dd P Z G1 h2) kX3_21 ⟨rfl, rfl⟩ ⟨Nat.le_trans (Nat.le_of_ble_eq_true rfl) hRf, Nat.le_trans (Nat.le_of_ble_eq_true rfl) hRl⟩ (12) 3 rfl rfl rfl rfl rfl hl.1 (Nat.le_of_ble_eq_true rfl) ⟨Nat.zero_le _, Nat.zero_le _⟩ dX3_takeListener_1 ?_
  intro H_3 lo_3 I_3
  refine lv_iconst (v := (0 : Int32)) hx hb dX3_takeListener_4 (by decide) ?_
  refine lv_istore_n (lv' := [(3, .int (0 : Int32)), (0, .ref (ad 12)), (1, .ref (ad 2)), (2, .int a1)]) hx hb dX3_takeListener_5 rfl hl (by decide) rfl (fun ls_4 hl_4 => ?_)
  obtain ⟨G7, hq1, hf⟩ := bd_some hf
  have K1 : ∀ (H : Heap) (locs : List Loc), sInv D (cT cI cJ cD cS) (cW ad cI cJ cD cS) A s H locs (G7, E, Dd, P, Z) → ∀ (ls : Array Slot), lv_has ls 5 [] → W p l e R s m args below meth c H locs 0 0 Q (F0 m 43 ls []) := by
    intro H_8 lo_8 I_8 ls_9 hl_9
    cases hf
    exact ret H_8 lo_8 _ ls_9 I_8 dX3_takeListener_43
  have L1 : ∀ (n : Nat) (x5 : Int32) (G6 : Nat → Nat → Int32), lp (fun q => C_LE_takeListener_12_s1 a1 q.1 q.2) n (x5, G6) = some G7 → ∀ (H : Heap) (locs : List Loc), sInv D (cT cI cJ cD cS) (cW ad cI cJ cD cS) A s H locs (G6, E, Dd, P, Z) → ∀ (ls : Array Slot), lv_has ls 5 [(0, .ref (ad 12)), (1, .ref (ad 2)), (2, .int a1), (3, .int x5)] → W p l e R s m args below meth c H locs 0 0 Q (F0 m 6 ls []) := by
    intro n
    induction n with
    | zero => intro x5 G6 hq; exact (lp_0 hq).elim
    | succ n ih1 =>
      intro x5 G6 hq H_11 lo_11 I_11 ls_12 hl_12
      obtain ⟨y1, hf, hK1⟩ := lp_go hq
      replace hf : C_LE_takeListener_12_s1 a1 x5 G6 = some y1 := hf
      unfold C_LE_takeListener_12_s1 at hf
      refine lv_iload_n hx hb dX3_takeListener_6 rfl (lv_at hl_12 3 rfl) ?_
      refine lv_aload_n hx hb dX3_takeListener_7 rfl (lv_at hl_12 1 rfl) ?_
      refine kgtX3_24_2 F I_11 dX3_takeListener_8 ?_
      refine lv_icmp_ge (tgt := 43) hx hb dX3_takeListener_11 (by decide) (fun c33 => ?_) (fun c33 => ?_)
      · replace hf := (if_pos c33).symm.trans hf
        cases hf
        cases (show G6 = G7 from hK1)
        exact K1 H_11 lo_11 I_11 ls_12 (lv_sub hl_12 [] rfl)
      · replace hf := (if_neg c33).symm.trans hf
        refine lv_aload_n hx hb dX3_takeListener_14 rfl (lv_at hl_12 1 rfl) ?_
        refine lv_iload_n hx hb dX3_takeListener_15 rfl (lv_at hl_12 3 rfl) ?_
        obtain ⟨r14, h15, hf⟩ := bd_some hf
        refine s_callVi (As := [.int x5]) (rest := []) F I_11 (cC_CO_at G6 E Dd P Z x5 r14 h15) kX3_30 ⟨rfl, rfl⟩ ⟨Nat.le_trans (Nat.le_of_ble_eq_true rfl) hRf, Nat.le_trans (Nat.le_of_ble_eq_true rfl) hRl⟩ (2) 1 rfl rfl rfl rfl rfl hl_12.1 (Nat.le_of_ble_eq_true rfl) ⟨Nat.zero_le _, Nat.zero_le _⟩ dX3_takeListener_16 ?_
        intro H_16 lo_16 I_16
        refine lv_istore (lv' := [(4, .int r14), (0, .ref (ad 12)), (1, .ref (ad 2)), (2, .int a1), (3, .int x5)]) hx hb dX3_takeListener_19 hl_12 (by decide) rfl (fun ls_17 hl_17 => ?_)
        refine lv_iload hx hb dX3_takeListener_21 (lv_at hl_17 0 rfl) ?_
        obtain ⟨r18, h19⟩ : ∃ z, z = C_CO_listenerOf r14 := ⟨_, rfl⟩
        replace hf := nm_some h19 hf
        refine s_callSi (As := [.int r14]) (rest := []) F I_16 (cC_CO_listenerOf G6 E Dd P Z r14 r18 h19) kX3_34 ⟨rfl, rfl⟩ ⟨Nat.le_trans (Nat.le_of_ble_eq_true rfl) hRf, Nat.le_trans (Nat.le_of_ble_eq_true rfl) hRl⟩ rfl rfl hl_17.1 (Nat.le_of_ble_eq_true rfl) ⟨Nat.zero_le _, Nat.zero_le _⟩ dX3_takeListener_23 ?_
        intro H_20 lo_20 I_20
        refine lv_iload_n hx hb dX3_takeListener_26 rfl (lv_at hl_17 3 rfl) ?_
        obtain ⟨G22, hv28, hf⟩ := bd_some hf
        have J21 : ∀ (H : Heap) (locs : List Loc), sInv D (cT cI cJ cD cS) (cW ad cI cJ cD cS) A s H locs (G22, E, Dd, P, Z) → ∀ (ls : Array Slot), lv_has ls 5 [(0, .ref (ad 12)), (1, .ref (ad 2)), (2, .int a1), (3, .int x5)] → W p l e R s m args below meth c H locs 0 0 Q (F0 m 37 ls []) := by
          intro H_23 lo_23 I_23 ls_24 hl_24
          obtain ⟨x26, ex26⟩ : ∃ y : Int32, y = x5 + (1 : Int32) := ⟨_, rfl⟩
          replace hf := nm_some ex26 hf
          refine lv_iinc (v := x26) (lv' := [(3, .int x26), (0, .ref (ad 12)), (1, .ref (ad 2)), (2, .int a1)]) hx hb dX3_takeListener_37 hl_24 (k := 3) rfl (by rw [ex26]; rfl) (by decide) rfl (fun ls_27 hl_27 => ?_)
          refine lv_goto (tgt := 6) hx hb dX3_takeListener_40 (by decide) ?_
          cases hf
          exact ih1 _ _ hK1 H_23 lo_23 I_23 ls_27 (lv_sub hl_27 [1, 2, 3, 0] rfl)
        replace hf := hv28
        refine lv_icmp_ne (tgt := 37) hx hb dX3_takeListener_27 (by decide) (fun c32 => ?_) (fun c32 => ?_)
        · replace hf := (if_neg c32).symm.trans hf
          cases hf
          exact J21 H_20 lo_20 I_20 ls_17 (lv_sub hl_17 [1, 2, 3, 4] rfl)
        · replace hf := (if_pos c32).symm.trans hf
          refine lv_aload_n hx hb dX3_takeListener_30 rfl (lv_at hl_17 1 rfl) ?_
          refine lv_iload hx hb dX3_takeListener_31 (lv_at hl_17 0 rfl) ?_
          refine lv_iconst (v := (1 : Int32)) hx hb dX3_takeListener_33 (by decide) ?_
          obtain ⟨G29, h30, hf⟩ := bd_some hf
          refine s_callVv (As := [.int r14, .int (1 : Int32)]) (rest := []) F I_20 (cC_LE_addWin_12 G6 E Dd P Z r14 (1 : Int32) G29 h30) kX3_37 ⟨rfl, rfl⟩ ⟨Nat.le_trans (Nat.le_of_ble_eq_true rfl) hRf, Nat.le_trans (Nat.le_of_ble_eq_true rfl) hRl⟩ (12) 3 rfl rfl rfl rfl rfl hl_17.1 (Nat.le_of_ble_eq_true rfl) ⟨Nat.zero_le _, Nat.zero_le _⟩ dX3_takeListener_34 ?_
          intro H_31 lo_31 I_31
          cases hf
          exact J21 H_31 lo_31 I_31 ls_17 (lv_sub hl_17 [1, 2, 3, 4] rfl)
  exact L1 FU _ _ hq1 H_3 lo_3 I_3 ls_4 (lv_sub hl_4 [1, 2, 3, 0] rfl)
end Meth
