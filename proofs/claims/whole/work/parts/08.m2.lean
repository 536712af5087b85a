section Meth
variable {D : va_G} {l : Launch} {ad : Nat → Nat} {cI cJ cD : ClassId}
def M_oneRound_s3 (x14 : UInt64) (G : Nat → Nat → Int32) (x19 : Int32) (Dd20 : Nat → Nat → UInt64) : Option ((Int32 × (Nat → Nat → UInt64)) ⊕ ((Nat → Nat → UInt64))) :=
if G 1 0 ≤ x19 then
(some (.inr Dd20))
else
(bd (if Op.cmpValue (FP.dcmp x14 FP.dconst0) CmpOp.l ≤ 0 then
(ri 8 x19 <|
some (Dd20 36 x19.toNatClampNeg))
else
(ri 8 x19 <|
some (FP.dmul (Dd20 36 x19.toNatClampNeg) (FP.ddiv (FP.i2d (G 1 0)) x14)))) fun x29 =>
ri 8 x19 <|
nm (wr Dd20 35 x19 x29) fun Dd34 =>
nm (x19 + (1 : Int32) : Int32) fun x36 =>
some (.inl (x36, Dd34)))
def M_oneRound_s2 (G : Nat → Nat → Int32) (Dd7 : Nat → Nat → UInt64) (x12 : UInt64) (x13 : Int32) : Option ((UInt64 × Int32) ⊕ (UInt64)) :=
if G 1 0 ≤ x13 then
(some (.inr x12))
else
(ri 8 x13 <|
nm ((FP.dadd x12 (Dd7 36 x13.toNatClampNeg)) : UInt64) fun x53 =>
nm (x13 + (1 : Int32) : Int32) fun x55 =>
some (.inl (x53, x55)))
def M_oneRound_s1 (G : Nat → Nat → Int32) (x5 : Int32) (Dd6 : Nat → Nat → UInt64) : Option ((Int32 × (Nat → Nat → UInt64)) ⊕ ((Nat → Nat → UInt64))) :=
if G 1 0 ≤ x5 then
(some (.inr Dd6))
else
(bd (M_freshOf G Dd6 x5) fun r61 =>
ri 8 x5 <|
nm (wr Dd6 36 x5 r61) fun Dd66 =>
nm (x5 + (1 : Int32) : Int32) fun x68 =>
some (.inl (x68, Dd66)))
def M_oneRound (G : Nat → Nat → Int32) (Dd : Nat → Nat → UInt64) : Option ((Nat → Nat → UInt64)) :=
nm (FP.dconst0 : UInt64) fun x1 =>
bd (lp (fun q => M_oneRound_s1 G q.1 q.2) FU ((0 : Int32), Dd)) fun Dd7 =>
bd (lp (fun q => M_oneRound_s2 G Dd7 q.1 q.2) FU (x1, (0 : Int32))) fun x14 =>
bd (lp (fun q => M_oneRound_s3 x14 G q.1 q.2) FU ((0 : Int32), Dd7)) fun Dd21 =>
some Dd21
set_option maxRecDepth 100000 in
set_option maxHeartbeats 4000000 in
theorem cM_oneRound (G : Nat → Nat → Int32) (E : Nat → Nat → Int64) (Dd : Nat → Nat → UInt64)   (newDd : Nat → Nat → UInt64) (hf : M_oneRound G Dd = some newDd) : sDv D (mT cI cJ cD) (mW ad cI cJ cD) mSm l yX12_oneRound (ws1 yX12_oneRound cX12_oneRound 4 none) ({ frames := 1, cells := 0, slots := 0, locals := 26 }) [.ref (ad 0)] (G, E, Dd) (G, E, newDd) := by
  unfold M_oneRound at hf
  refine sDv_of (by decide) (Nat.le_of_ble_eq_true rfl) ?_
  intro p e R s m args below meth c A Q ls H lo dr sgm F hRf hRl hd hsm I hl ret
  obtain ⟨_, _, Dm⟩ := sgm
  obtain ⟨rfl, rfl, ha⟩ := mSm_dest hsm
  obtain ⟨hx, hb, hml, hown, hG⟩ := id F
  replace hl : lv_has ls 4 [(0, .ref (ad 0))] := hl
  refine lv_dconst0 hx hb dX12_oneRound_0 ?_
  obtain ⟨x1, ex1⟩ : ∃ z : UInt64, z = FP.dconst0 := ⟨_, rfl⟩
  replace hf := nm_some ex1 hf
  have hx1 := al_eq2 ex1 (al_rf _)
  refine lv_topd (fun m2 em2 => ?_)
  have hm2 := al_eq em2 hx1
  refine lv_dstore_n (lv' := [(1, .double m2), (0, .ref (ad 0))]) hx hb dX12_oneRound_1 rfl hl (by decide) rfl (fun ls_3 hl_3 => ?_)
  refine lv_iconst (v := (0 : Int32)) hx hb dX12_oneRound_2 (by decide) ?_
  refine lv_istore_n (lv' := [(3, .int (0 : Int32)), (1, .double m2), (0, .ref (ad 0))]) hx hb dX12_oneRound_3 rfl hl_3 (by decide) rfl (fun ls_4 hl_4 => ?_)
  obtain ⟨Dd7, hq1, hf⟩ := bd_some hf
  have K1 : ∀ (H : Heap) (locs : List Loc) (d : Drawn) (Dm7 : Nat → Nat → UInt64), s.drawn.sameBut d lw_cs → alikeM Dm7 Dd7 → sInv D (mT cI cJ cD) (mW ad cI cJ cD) A s H locs (G, E, Dm7) → ∀ (ls : Array Slot), lv_has ls 4 [(0, .ref (ad 0)), (1, .double m2)] → W p l e R (s.setDrawn d) m args below meth c H locs 0 0 Q (F0 m 29 ls []) := by
    intro H_8 lo_8 dr_10 Dm7 hd_10 ha7 I_8 ls_9 hl_9
    refine lv_iconst (v := (0 : Int32)) hx hb dX12_oneRound_29 (by decide) ?_
    refine lv_istore_n (lv' := [(3, .int (0 : Int32)), (0, .ref (ad 0)), (1, .double m2)]) hx hb dX12_oneRound_30 rfl hl_9 (by decide) rfl (fun ls_11 hl_11 => ?_)
    obtain ⟨x14, hq2, hf⟩ := bd_some hf
    have K2 : ∀ (H : Heap) (locs : List Loc) (d : Drawn) (mx14 : UInt64), s.drawn.sameBut d lw_cs → alike64 mx14 x14 = true → sInv D (mT cI cJ cD) (mW ad cI cJ cD) A s H locs (G, E, Dm7) → ∀ (ls : Array Slot), lv_has ls 4 [(0, .ref (ad 0)), (1, .double mx14)] → W p l e R (s.setDrawn d) m args below meth c H locs 0 0 Q (F0 m 54 ls []) := by
      intro H_15 lo_15 dr_17 mx14 hd_17 hx14 I_15 ls_16 hl_16
      refine lv_iconst (v := (0 : Int32)) hx hb dX12_oneRound_54 (by decide) ?_
      refine lv_istore_n (lv' := [(3, .int (0 : Int32)), (0, .ref (ad 0)), (1, .double mx14)]) hx hb dX12_oneRound_55 rfl hl_16 (by decide) rfl (fun ls_18 hl_18 => ?_)
      obtain ⟨Dd21, hq3, hf⟩ := bd_some hf
      have K3 : ∀ (H : Heap) (locs : List Loc) (d : Drawn) (Dm21 : Nat → Nat → UInt64), s.drawn.sameBut d lw_cs → alikeM Dm21 Dd21 → sInv D (mT cI cJ cD) (mW ad cI cJ cD) A s H locs (G, E, Dm21) → ∀ (ls : Array Slot), lv_has ls 4 [] → W p l e R (s.setDrawn d) m args below meth c H locs 0 0 Q (F0 m 105 ls []) := by
        intro H_22 lo_22 dr_24 Dm21 hd_24 ha21 I_22 ls_23 hl_23
        cases hf
        exact ret H_22 lo_22 _ ls_23 dr_24 _ hd_24 I_22 ⟨rfl, rfl, ha21⟩ dX12_oneRound_105
      have L3 : ∀ (n : Nat) (x19 : Int32) (Dd20 : Nat → Nat → UInt64), lp (fun q => M_oneRound_s3 x14 G q.1 q.2) n (x19, Dd20) = some Dd21 → ∀ (H : Heap) (locs : List Loc) (d : Drawn) (Dm20 : Nat → Nat → UInt64), s.drawn.sameBut d lw_cs → alikeM Dm20 Dd20 → sInv D (mT cI cJ cD) (mW ad cI cJ cD) A s H locs (G, E, Dm20) → ∀ (ls : Array Slot), lv_has ls 4 [(0, .ref (ad 0)), (1, .double mx14), (3, .int x19)] → W p l e R (s.setDrawn d) m args below meth c H locs 0 0 Q (F0 m 56 ls []) := by
        intro n
        induction n with
        | zero => intro x19 Dd20 hq; exact (lp_0 hq).elim
        | succ n ih3 =>
          intro x19 Dd20 hq H_25 lo_25 dr_27 Dm20 hd_27 ha20 I_25 ls_26 hl_26
          obtain ⟨y3, hf, hK3⟩ := lp_go hq
          replace hf : M_oneRound_s3 x14 G x19 Dd20 = some y3 := hf
          unfold M_oneRound_s3 at hf
          refine lv_iload_n hx hb dX12_oneRound_56 rfl (lv_at hl_26 2 rfl) ?_
          refine lv_aload_n hx hb dX12_oneRound_57 rfl (lv_at hl_26 0 rfl) ?_
          refine mgtX12_92_0 (Fdr F) (Idr I_25) dX12_oneRound_58 ?_
          refine lv_icmp_ge (tgt := 105) hx hb dX12_oneRound_61 (by decide) (fun c46 => ?_) (fun c46 => ?_)
          · replace hf := (if_pos c46).symm.trans hf
            cases hf
            cases (show Dd20 = Dd21 from hK3)
            exact K3 H_25 lo_25 dr_27 Dm20 hd_27 ha20 I_25 ls_26 (lv_sub hl_26 [] rfl)
          · replace hf := (if_neg c46).symm.trans hf
            refine lv_aload_n hx hb dX12_oneRound_64 rfl (lv_at hl_26 0 rfl) ?_
            refine mgtX12_72_0 (Fdr F) (Idr I_25) dX12_oneRound_65 ?_
            refine lv_iload_n hx hb dX12_oneRound_68 rfl (lv_at hl_26 2 rfl) ?_
            refine lv_dload_n hx hb dX12_oneRound_69 rfl (lv_at hl_26 1 rfl) ?_
            refine lv_dconst0 hx hb dX12_oneRound_70 ?_
            refine lv_dcmp hx hb dX12_oneRound_71 ?_
            rw [al_dcmp hx14 (al_rf _)]
            obtain ⟨x29, hv38, hf⟩ := bd_some hf
            have J28 : ∀ (H : Heap) (locs : List Loc) (d : Drawn) (mx29 : UInt64), s.drawn.sameBut d lw_cs → alike64 mx29 x29 = true → sInv D (mT cI cJ cD) (mW ad cI cJ cD) A s H locs (G, E, Dm20) → ∀ (ls : Array Slot), lv_has ls 4 [(0, .ref (ad 0)), (1, .double mx14), (3, .int x19)] → W p l e R (s.setDrawn d) m args below meth c H locs 0 0 Q (F0 m 98 ls [.double mx29, .int x19, .ref (ad 20)]) := by
              intro H_30 lo_30 dr_32 mx29 hd_32 hx29 I_30 ls_31 hl_31
              obtain ⟨g33, hf⟩ := ri_some hf
              refine mas20 (Fdr F) (Idr I_30) g33 dX12_oneRound_98 ?_
              intro H_35 lo_35 Dm34 eDm34 I_35
              replace I_35 := Irr I_35
              obtain ⟨Dd34, eDd34⟩ : ∃ z, z = wr Dd20 35 x19 x29 := ⟨_, rfl⟩
              replace hf := nm_some eDd34 hf
              have ha34 : alikeM Dm34 Dd34 := alM_eq eDm34 eDd34 (al_wr ha20 hx29)
              obtain ⟨x36, ex36⟩ : ∃ y : Int32, y = x19 + (1 : Int32) := ⟨_, rfl⟩
              replace hf := nm_some ex36 hf
              refine lv_iinc (v := x36) (lv' := [(3, .int x36), (0, .ref (ad 0)), (1, .double mx14)]) hx hb dX12_oneRound_99 hl_31 (k := 2) rfl (by rw [ex36]; rfl) (by decide) rfl (fun ls_37 hl_37 => ?_)
              refine lv_goto (tgt := 56) hx hb dX12_oneRound_102 (by decide) ?_
              cases hf
              exact ih3 _ _ hK3 H_35 lo_35 dr_32 Dm34 hd_32 ha34 I_35 ls_37 (lv_sub hl_37 [1, 2, 0] rfl)
            replace hf := hv38
            refine lv_if_le (tgt := 92) hx hb dX12_oneRound_72 (by decide) (fun c45 => ?_) (fun c45 => ?_)
            · replace hf := (if_pos c45).symm.trans hf
              refine lv_aload_n hx hb dX12_oneRound_92 rfl (lv_at hl_26 0 rfl) ?_
              refine mgtX12_76_0 (Fdr F) (Idr I_25) dX12_oneRound_93 ?_
              refine lv_iload_n hx hb dX12_oneRound_96 rfl (lv_at hl_26 2 rfl) ?_
              obtain ⟨g39, hf⟩ := ri_some hf
              refine mal21 (Fdr F) (Idr I_25) g39 dX12_oneRound_97 ?_
              cases hf
              exact J28 H_25 lo_25 dr_27 (Dm20 36 x19.toNatClampNeg) hd_27 (ha20 36 _) I_25 ls_26 (lv_sub hl_26 [0, 1, 2] rfl)
            · replace hf := (if_neg c45).symm.trans hf
              refine lv_aload_n hx hb dX12_oneRound_75 rfl (lv_at hl_26 0 rfl) ?_
              refine mgtX12_76_0 (Fdr F) (Idr I_25) dX12_oneRound_76 ?_
              refine lv_iload_n hx hb dX12_oneRound_79 rfl (lv_at hl_26 2 rfl) ?_
              obtain ⟨g40, hf⟩ := ri_some hf
              refine mal21 (Fdr F) (Idr I_25) g40 dX12_oneRound_80 ?_
              refine lv_aload_n hx hb dX12_oneRound_81 rfl (lv_at hl_26 0 rfl) ?_
              refine mgtX12_92_0 (Fdr F) (Idr I_25) dX12_oneRound_82 ?_
              refine lv_i2d hx hb dX12_oneRound_85 ?_
              refine lv_dload_n hx hb dX12_oneRound_86 rfl (lv_at hl_26 1 rfl) ?_
              refine lv_ddiv_any hd_27 lw_bits hx hb dX12_oneRound_87 (fun u41 dr_42 alu41 hd_42 => ?_)
              have hu41 := al_ddiv alu41 (al_rf _) hx14
              refine lv_dmul_any hd_42 lw_bits hx hb dX12_oneRound_88 (fun u43 dr_44 alu43 hd_44 => ?_)
              have hu43 := al_dmul alu43 (ha20 36 _) hu41
              refine lv_goto (tgt := 98) hx hb dX12_oneRound_89 (by decide) ?_
              cases hf
              exact J28 H_25 lo_25 dr_44 u43 hd_44 hu43 I_25 ls_26 (lv_sub hl_26 [0, 1, 2] rfl)
      exact L3 FU _ _ hq3 H_15 lo_15 dr_17 Dm7 hd_17 ha7 I_15 ls_18 (lv_sub hl_18 [1, 2, 0] rfl)
    have L2 : ∀ (n : Nat) (x12 : UInt64) (x13 : Int32), lp (fun q => M_oneRound_s2 G Dd7 q.1 q.2) n (x12, x13) = some x14 → ∀ (H : Heap) (locs : List Loc) (d : Drawn) (mx12 : UInt64), s.drawn.sameBut d lw_cs → alike64 mx12 x12 = true → sInv D (mT cI cJ cD) (mW ad cI cJ cD) A s H locs (G, E, Dm7) → ∀ (ls : Array Slot), lv_has ls 4 [(0, .ref (ad 0)), (1, .double mx12), (3, .int x13)] → W p l e R (s.setDrawn d) m args below meth c H locs 0 0 Q (F0 m 31 ls []) := by
      intro n
      induction n with
      | zero => intro x12 x13 hq; exact (lp_0 hq).elim
      | succ n ih2 =>
        intro x12 x13 hq H_47 lo_47 dr_49 mx12 hd_49 hx12 I_47 ls_48 hl_48
        obtain ⟨y2, hf, hK2⟩ := lp_go hq
        replace hf : M_oneRound_s2 G Dd7 x12 x13 = some y2 := hf
        unfold M_oneRound_s2 at hf
        refine lv_iload_n hx hb dX12_oneRound_31 rfl (lv_at hl_48 2 rfl) ?_
        refine lv_aload_n hx hb dX12_oneRound_32 rfl (lv_at hl_48 0 rfl) ?_
        refine mgtX12_92_0 (Fdr F) (Idr I_47) dX12_oneRound_33 ?_
        refine lv_icmp_ge (tgt := 54) hx hb dX12_oneRound_36 (by decide) (fun c57 => ?_) (fun c57 => ?_)
        · replace hf := (if_pos c57).symm.trans hf
          cases hf
          cases (show x12 = x14 from hK2)
          exact K2 H_47 lo_47 dr_49 mx12 hd_49 hx12 I_47 ls_48 (lv_sub hl_48 [0, 1] rfl)
        · replace hf := (if_neg c57).symm.trans hf
          refine lv_dload_n hx hb dX12_oneRound_39 rfl (lv_at hl_48 1 rfl) ?_
          refine lv_aload_n hx hb dX12_oneRound_40 rfl (lv_at hl_48 0 rfl) ?_
          refine mgtX12_76_0 (Fdr F) (Idr I_47) dX12_oneRound_41 ?_
          refine lv_iload_n hx hb dX12_oneRound_44 rfl (lv_at hl_48 2 rfl) ?_
          obtain ⟨g50, hf⟩ := ri_some hf
          refine mal21 (Fdr F) (Idr I_47) g50 dX12_oneRound_45 ?_
          refine lv_dadd_any hd_49 lw_bits hx hb dX12_oneRound_46 (fun u51 dr_52 alu51 hd_52 => ?_)
          have hu51 := al_dadd alu51 hx12 (ha7 36 _)
          obtain ⟨x53, ex53⟩ : ∃ z : UInt64, z = (FP.dadd x12 (Dd7 36 x13.toNatClampNeg)) := ⟨_, rfl⟩
          replace hf := nm_some ex53 hf
          have hx53 := al_eq2 ex53 hu51
          refine lv_dstore_n (lv' := [(1, .double u51), (0, .ref (ad 0)), (3, .int x13)]) hx hb dX12_oneRound_47 rfl hl_48 (by decide) rfl (fun ls_54 hl_54 => ?_)
          obtain ⟨x55, ex55⟩ : ∃ y : Int32, y = x13 + (1 : Int32) := ⟨_, rfl⟩
          replace hf := nm_some ex55 hf
          refine lv_iinc (v := x55) (lv' := [(3, .int x55), (1, .double u51), (0, .ref (ad 0))]) hx hb dX12_oneRound_48 hl_54 (k := 2) rfl (by rw [ex55]; rfl) (by decide) rfl (fun ls_56 hl_56 => ?_)
          refine lv_goto (tgt := 31) hx hb dX12_oneRound_51 (by decide) ?_
          cases hf
          exact ih2 _ _ hK2 H_47 lo_47 dr_52 u51 hd_52 hx53 I_47 ls_56 (lv_sub hl_56 [2, 1, 0] rfl)
    exact L2 FU _ _ hq2 H_8 lo_8 dr_10 m2 hd_10 hm2 I_8 ls_11 (lv_sub hl_11 [1, 2, 0] rfl)
  have L1 : ∀ (n : Nat) (x5 : Int32) (Dd6 : Nat → Nat → UInt64), lp (fun q => M_oneRound_s1 G q.1 q.2) n (x5, Dd6) = some Dd7 → ∀ (H : Heap) (locs : List Loc) (d : Drawn) (Dm6 : Nat → Nat → UInt64), s.drawn.sameBut d lw_cs → alikeM Dm6 Dd6 → sInv D (mT cI cJ cD) (mW ad cI cJ cD) A s H locs (G, E, Dm6) → ∀ (ls : Array Slot), lv_has ls 4 [(0, .ref (ad 0)), (1, .double m2), (3, .int x5)] → W p l e R (s.setDrawn d) m args below meth c H locs 0 0 Q (F0 m 4 ls []) := by
    intro n
    induction n with
    | zero => intro x5 Dd6 hq; exact (lp_0 hq).elim
    | succ n ih1 =>
      intro x5 Dd6 hq H_58 lo_58 dr_60 Dm6 hd_60 ha6 I_58 ls_59 hl_59
      obtain ⟨y1, hf, hK1⟩ := lp_go hq
      replace hf : M_oneRound_s1 G x5 Dd6 = some y1 := hf
      unfold M_oneRound_s1 at hf
      refine lv_iload_n hx hb dX12_oneRound_4 rfl (lv_at hl_59 2 rfl) ?_
      refine lv_aload_n hx hb dX12_oneRound_5 rfl (lv_at hl_59 0 rfl) ?_
      refine mgtX12_92_0 (Fdr F) (Idr I_58) dX12_oneRound_6 ?_
      refine lv_icmp_ge (tgt := 29) hx hb dX12_oneRound_9 (by decide) (fun c70 => ?_) (fun c70 => ?_)
      · replace hf := (if_pos c70).symm.trans hf
        cases hf
        cases (show Dd6 = Dd7 from hK1)
        exact K1 H_58 lo_58 dr_60 Dm6 hd_60 ha6 I_58 ls_59 (lv_sub hl_59 [0, 1] rfl)
      · replace hf := (if_neg c70).symm.trans hf
        refine lv_aload_n hx hb dX12_oneRound_12 rfl (lv_at hl_59 0 rfl) ?_
        refine mgtX12_76_0 (Fdr F) (Idr I_58) dX12_oneRound_13 ?_
        refine lv_iload_n hx hb dX12_oneRound_16 rfl (lv_at hl_59 2 rfl) ?_
        refine lv_aload_n hx hb dX12_oneRound_17 rfl (lv_at hl_59 0 rfl) ?_
        refine lv_iload_n hx hb dX12_oneRound_18 rfl (lv_at hl_59 2 rfl) ?_
        obtain ⟨r61, h62, hf⟩ := bd_some hf
        refine d_callVd (As := [.int x5]) (rest := [.int x5, .ref (ad 21)]) F hd_60 I_58 ⟨rfl, rfl, ha6⟩ (cM_freshOf G E Dd6 x5 r61 h62) kX12_354 ⟨rfl, rfl⟩ ⟨Nat.le_trans (Nat.le_of_ble_eq_true rfl) hRf, Nat.le_trans (Nat.le_of_ble_eq_true rfl) hRl⟩ (0) 12 rfl rfl rfl rfl rfl hl_59.1 (Nat.le_of_ble_eq_true rfl) ⟨Nat.zero_le _, Nat.zero_le _⟩ dX12_oneRound_19 ?_
        intro H_63 lo_63 dr_64 sg64 mr61 hd_64 I_63 hs64 hr61
        obtain ⟨_, _, Dm64⟩ := sg64
        obtain ⟨rfl, rfl, ha64⟩ := mSm_dest hs64
        obtain ⟨g65, hf⟩ := ri_some hf
        refine mas21 (Fdr F) (Idr I_63) g65 dX12_oneRound_22 ?_
        intro H_67 lo_67 Dm66 eDm66 I_67
        replace I_67 := Irr I_67
        obtain ⟨Dd66, eDd66⟩ : ∃ z, z = wr Dd6 36 x5 r61 := ⟨_, rfl⟩
        replace hf := nm_some eDd66 hf
        have ha66 : alikeM Dm66 Dd66 := alM_eq eDm66 eDd66 (al_wr ha64 hr61)
        obtain ⟨x68, ex68⟩ : ∃ y : Int32, y = x5 + (1 : Int32) := ⟨_, rfl⟩
        replace hf := nm_some ex68 hf
        refine lv_iinc (v := x68) (lv' := [(3, .int x68), (0, .ref (ad 0)), (1, .double m2)]) hx hb dX12_oneRound_23 hl_59 (k := 2) rfl (by rw [ex68]; rfl) (by decide) rfl (fun ls_69 hl_69 => ?_)
        refine lv_goto (tgt := 4) hx hb dX12_oneRound_26 (by decide) ?_
        cases hf
        exact ih1 _ _ hK1 H_67 lo_67 dr_64 Dm66 hd_64 ha66 I_67 ls_69 (lv_sub hl_69 [1, 2, 0] rfl)
  exact L1 FU _ _ hq1 H lo dr Dm hd ha I ls_4 (lv_sub hl_4 [2, 1, 0] rfl)
def M_layStrengths_s2 (a0 : Int32) (G1 : Nat → Nat → Int32) (x14 : Int32) (Dd15 : Nat → Nat → UInt64) : Option ((Int32 × (Nat → Nat → UInt64)) ⊕ ((Nat → Nat → UInt64))) :=
if a0 ≤ x14 then
(some (.inr Dd15))
else
(bd (M_oneRound G1 Dd15) fun Dd23 =>
nm (x14 + (1 : Int32) : Int32) fun x27 =>
some (.inl (x27, Dd23)))
def M_layStrengths_s1 (G1 : Nat → Nat → Int32) (x7 : Int32) (Dd8 : Nat → Nat → UInt64) : Option ((Int32 × (Nat → Nat → UInt64)) ⊕ ((Nat → Nat → UInt64))) :=
if G1 1 0 ≤ x7 then
(some (.inr Dd8))
else
(ri 8 x7 <|
nm (wr Dd8 35 x7 FP.dconst1) fun Dd34 =>
nm (x7 + (1 : Int32) : Int32) fun x36 =>
some (.inl (x36, Dd34)))
def M_layStrengths (G : Nat → Nat → Int32) (Dd : Nat → Nat → UInt64) (a0 : Int32) : Option ((Nat → Nat → Int32) × (Nat → Nat → UInt64)) :=
bd2 (M_layWins G Dd) fun G1 Dd2 =>
bd (lp (fun q => M_layStrengths_s1 G1 q.1 q.2) FU ((0 : Int32), Dd2)) fun Dd9 =>
bd (lp (fun q => M_layStrengths_s2 a0 G1 q.1 q.2) FU ((0 : Int32), Dd9)) fun Dd16 =>
some (G1, Dd16)
set_option maxRecDepth 100000 in
set_option maxHeartbeats 4000000 in
theorem cM_layStrengths (G : Nat → Nat → Int32) (E : Nat → Nat → Int64) (Dd : Nat → Nat → UInt64) (a0 : Int32)  (newG : Nat → Nat → Int32) (newDd : Nat → Nat → UInt64) (hf : M_layStrengths G Dd a0 = some (newG, newDd)) : sDv D (mT cI cJ cD) (mW ad cI cJ cD) mSm l yX12_layStrengths (ws1 yX12_layStrengths cX12_layStrengths 3 none) ({ frames := 4, cells := 0, slots := 0, locals := 98 }) [.ref (ad 0), .int a0] (G, E, Dd) (newG, E, newDd) := by
  unfold M_layStrengths at hf
  refine sDv_of (by decide) (Nat.le_of_ble_eq_true rfl) ?_
  intro p e R s m args below meth c A Q ls H lo dr sgm F hRf hRl hd hsm I hl ret
  obtain ⟨_, _, Dm⟩ := sgm
  obtain ⟨rfl, rfl, ha⟩ := mSm_dest hsm
  obtain ⟨hx, hb, hml, hown, hG⟩ := id F
  replace hl : lv_has ls 3 [(0, .ref (ad 0)), (1, .int a0)] := hl
  refine lv_aload_n hx hb dX12_layStrengths_0 rfl (lv_at hl 0 rfl) ?_
  obtain ⟨G1, Dd2, h3, hf⟩ := bd2_some hf
  refine d_callVv (As := []) (rest := []) F hd I ⟨rfl, rfl, ha⟩ (cM_layWins G E Dd G1 Dd2 h3) kX12_358 ⟨rfl, rfl⟩ ⟨Nat.le_trans (Nat.le_of_ble_eq_true rfl) hRf, Nat.le_trans (Nat.le_of_ble_eq_true rfl) hRl⟩ (0) 12 rfl rfl rfl rfl rfl hl.1 (Nat.le_of_ble_eq_true rfl) ⟨Nat.zero_le _, Nat.zero_le _⟩ dX12_layStrengths_1 ?_
  intro H_4 lo_4 dr_5 sg5 hd_5 I_4 hs5
  obtain ⟨_, _, Dm5⟩ := sg5
  obtain ⟨rfl, rfl, ha5⟩ := mSm_dest hs5
  refine lv_iconst (v := (0 : Int32)) hx hb dX12_layStrengths_4 (by decide) ?_
  refine lv_istore_n (lv' := [(2, .int (0 : Int32)), (0, .ref (ad 0)), (1, .int a0)]) hx hb dX12_layStrengths_5 rfl hl (by decide) rfl (fun ls_6 hl_6 => ?_)
  obtain ⟨Dd9, hq1, hf⟩ := bd_some hf
  have K1 : ∀ (H : Heap) (locs : List Loc) (d : Drawn) (Dm9 : Nat → Nat → UInt64), s.drawn.sameBut d lw_cs → alikeM Dm9 Dd9 → sInv D (mT cI cJ cD) (mW ad cI cJ cD) A s H locs (G1, E, Dm9) → ∀ (ls : Array Slot), lv_has ls 3 [(0, .ref (ad 0)), (1, .int a0)] → W p l e R (s.setDrawn d) m args below meth c H locs 0 0 Q (F0 m 27 ls []) := by
    intro H_10 lo_10 dr_12 Dm9 hd_12 ha9 I_10 ls_11 hl_11
    refine lv_iconst (v := (0 : Int32)) hx hb dX12_layStrengths_27 (by decide) ?_
    refine lv_istore_n (lv' := [(2, .int (0 : Int32)), (0, .ref (ad 0)), (1, .int a0)]) hx hb dX12_layStrengths_28 rfl hl_11 (by decide) rfl (fun ls_13 hl_13 => ?_)
    obtain ⟨Dd16, hq2, hf⟩ := bd_some hf
    have K2 : ∀ (H : Heap) (locs : List Loc) (d : Drawn) (Dm16 : Nat → Nat → UInt64), s.drawn.sameBut d lw_cs → alikeM Dm16 Dd16 → sInv D (mT cI cJ cD) (mW ad cI cJ cD) A s H locs (G1, E, Dm16) → ∀ (ls : Array Slot), lv_has ls 3 [] → W p l e R (s.setDrawn d) m args below meth c H locs 0 0 Q (F0 m 44 ls []) := by
      intro H_17 lo_17 dr_19 Dm16 hd_19 ha16 I_17 ls_18 hl_18
      cases hf
      exact ret H_17 lo_17 _ ls_18 dr_19 _ hd_19 I_17 ⟨rfl, rfl, ha16⟩ dX12_layStrengths_44
    have L2 : ∀ (n : Nat) (x14 : Int32) (Dd15 : Nat → Nat → UInt64), lp (fun q => M_layStrengths_s2 a0 G1 q.1 q.2) n (x14, Dd15) = some Dd16 → ∀ (H : Heap) (locs : List Loc) (d : Drawn) (Dm15 : Nat → Nat → UInt64), s.drawn.sameBut d lw_cs → alikeM Dm15 Dd15 → sInv D (mT cI cJ cD) (mW ad cI cJ cD) A s H locs (G1, E, Dm15) → ∀ (ls : Array Slot), lv_has ls 3 [(0, .ref (ad 0)), (1, .int a0), (2, .int x14)] → W p l e R (s.setDrawn d) m args below meth c H locs 0 0 Q (F0 m 29 ls []) := by
      intro n
      induction n with
      | zero => intro x14 Dd15 hq; exact (lp_0 hq).elim
      | succ n ih2 =>
        intro x14 Dd15 hq H_20 lo_20 dr_22 Dm15 hd_22 ha15 I_20 ls_21 hl_21
        obtain ⟨y2, hf, hK2⟩ := lp_go hq
        replace hf : M_layStrengths_s2 a0 G1 x14 Dd15 = some y2 := hf
        unfold M_layStrengths_s2 at hf
        refine lv_iload_n hx hb dX12_layStrengths_29 rfl (lv_at hl_21 2 rfl) ?_
        refine lv_iload_n hx hb dX12_layStrengths_30 rfl (lv_at hl_21 1 rfl) ?_
        refine lv_icmp_ge (tgt := 44) hx hb dX12_layStrengths_31 (by decide) (fun c29 => ?_) (fun c29 => ?_)
        · replace hf := (if_pos c29).symm.trans hf
          cases hf
          cases (show Dd15 = Dd16 from hK2)
          exact K2 H_20 lo_20 dr_22 Dm15 hd_22 ha15 I_20 ls_21 (lv_sub hl_21 [] rfl)
        · replace hf := (if_neg c29).symm.trans hf
          refine lv_aload_n hx hb dX12_layStrengths_34 rfl (lv_at hl_21 0 rfl) ?_
          obtain ⟨Dd23, h24, hf⟩ := bd_some hf
          refine d_callVv (As := []) (rest := []) F hd_22 I_20 ⟨rfl, rfl, ha15⟩ (cM_oneRound G1 E Dd15 Dd23 h24) kX12_361 ⟨rfl, rfl⟩ ⟨Nat.le_trans (Nat.le_of_ble_eq_true rfl) hRf, Nat.le_trans (Nat.le_of_ble_eq_true rfl) hRl⟩ (0) 12 rfl rfl rfl rfl rfl hl_21.1 (Nat.le_of_ble_eq_true rfl) ⟨Nat.zero_le _, Nat.zero_le _⟩ dX12_layStrengths_35 ?_
          intro H_25 lo_25 dr_26 sg26 hd_26 I_25 hs26
          obtain ⟨_, _, Dm26⟩ := sg26
          obtain ⟨rfl, rfl, ha26⟩ := mSm_dest hs26
          obtain ⟨x27, ex27⟩ : ∃ y : Int32, y = x14 + (1 : Int32) := ⟨_, rfl⟩
          replace hf := nm_some ex27 hf
          refine lv_iinc (v := x27) (lv' := [(2, .int x27), (0, .ref (ad 0)), (1, .int a0)]) hx hb dX12_layStrengths_38 hl_21 (k := 2) rfl (by rw [ex27]; rfl) (by decide) rfl (fun ls_28 hl_28 => ?_)
          refine lv_goto (tgt := 29) hx hb dX12_layStrengths_41 (by decide) ?_
          cases hf
          exact ih2 _ _ hK2 H_25 lo_25 dr_26 Dm26 hd_26 ha26 I_25 ls_28 (lv_sub hl_28 [1, 2, 0] rfl)
    exact L2 FU _ _ hq2 H_10 lo_10 dr_12 Dm9 hd_12 ha9 I_10 ls_13 (lv_sub hl_13 [1, 2, 0] rfl)
  have L1 : ∀ (n : Nat) (x7 : Int32) (Dd8 : Nat → Nat → UInt64), lp (fun q => M_layStrengths_s1 G1 q.1 q.2) n (x7, Dd8) = some Dd9 → ∀ (H : Heap) (locs : List Loc) (d : Drawn) (Dm8 : Nat → Nat → UInt64), s.drawn.sameBut d lw_cs → alikeM Dm8 Dd8 → sInv D (mT cI cJ cD) (mW ad cI cJ cD) A s H locs (G1, E, Dm8) → ∀ (ls : Array Slot), lv_has ls 3 [(0, .ref (ad 0)), (1, .int a0), (2, .int x7)] → W p l e R (s.setDrawn d) m args below meth c H locs 0 0 Q (F0 m 6 ls []) := by
    intro n
    induction n with
    | zero => intro x7 Dd8 hq; exact (lp_0 hq).elim
    | succ n ih1 =>
      intro x7 Dd8 hq H_30 lo_30 dr_32 Dm8 hd_32 ha8 I_30 ls_31 hl_31
      obtain ⟨y1, hf, hK1⟩ := lp_go hq
      replace hf : M_layStrengths_s1 G1 x7 Dd8 = some y1 := hf
      unfold M_layStrengths_s1 at hf
      refine lv_iload_n hx hb dX12_layStrengths_6 rfl (lv_at hl_31 2 rfl) ?_
      refine lv_aload_n hx hb dX12_layStrengths_7 rfl (lv_at hl_31 0 rfl) ?_
      refine mgtX12_92_0 (Fdr F) (Idr I_30) dX12_layStrengths_8 ?_
      refine lv_icmp_ge (tgt := 27) hx hb dX12_layStrengths_11 (by decide) (fun c38 => ?_) (fun c38 => ?_)
      · replace hf := (if_pos c38).symm.trans hf
        cases hf
        cases (show Dd8 = Dd9 from hK1)
        exact K1 H_30 lo_30 dr_32 Dm8 hd_32 ha8 I_30 ls_31 (lv_sub hl_31 [0, 1] rfl)
      · replace hf := (if_neg c38).symm.trans hf
        refine lv_aload_n hx hb dX12_layStrengths_14 rfl (lv_at hl_31 0 rfl) ?_
        refine mgtX12_72_0 (Fdr F) (Idr I_30) dX12_layStrengths_15 ?_
        refine lv_iload_n hx hb dX12_layStrengths_18 rfl (lv_at hl_31 2 rfl) ?_
        refine lv_dconst1 hx hb dX12_layStrengths_19 ?_
        obtain ⟨g33, hf⟩ := ri_some hf
        refine mas20 (Fdr F) (Idr I_30) g33 dX12_layStrengths_20 ?_
        intro H_35 lo_35 Dm34 eDm34 I_35
        replace I_35 := Irr I_35
        obtain ⟨Dd34, eDd34⟩ : ∃ z, z = wr Dd8 35 x7 FP.dconst1 := ⟨_, rfl⟩
        replace hf := nm_some eDd34 hf
        have ha34 : alikeM Dm34 Dd34 := alM_eq eDm34 eDd34 (al_wr ha8 (al_rf _))
        obtain ⟨x36, ex36⟩ : ∃ y : Int32, y = x7 + (1 : Int32) := ⟨_, rfl⟩
        replace hf := nm_some ex36 hf
        refine lv_iinc (v := x36) (lv' := [(2, .int x36), (0, .ref (ad 0)), (1, .int a0)]) hx hb dX12_layStrengths_21 hl_31 (k := 2) rfl (by rw [ex36]; rfl) (by decide) rfl (fun ls_37 hl_37 => ?_)
        refine lv_goto (tgt := 6) hx hb dX12_layStrengths_24 (by decide) ?_
        cases hf
        exact ih1 _ _ hK1 H_35 lo_35 dr_32 Dm34 hd_32 ha34 I_35 ls_37 (lv_sub hl_37 [1, 2, 0] rfl)
  exact L1 FU _ _ hq1 H_4 lo_4 dr_5 Dm5 hd_5 ha5 I_4 ls_6 (lv_sub hl_6 [1, 2, 0] rfl)
def M_strength (G : Nat → Nat → Int32) (Dd : Nat → Nat → UInt64) (a0 : Int32) (a1 : Int32) : Option (UInt64 × (Nat → Nat → Int32) × (Nat → Nat → UInt64)) :=
bd (M_isSample G a0) fun r1 =>
bd (if r1 = 0 then
(some (1 : Int32))
else
(bd (M_within a1 (0 : Int32) (60 : Int32)) fun r19 =>
if r19 = 0 then
(some (2 : Int32))
else
(some (0 : Int32)))) fun x5 =>
nm (wf G 0 x5) fun G9 =>
if G9 0 0 ≤ 0 then
(bd2 (M_layStrengths G9 Dd a1) fun G11 Dd12 =>
ri 8 a0 <|
some ((Dd12 35 a0.toNatClampNeg), G11, Dd12))
else
(some (FP.dconst0, G9, Dd))
set_option maxRecDepth 100000 in
set_option maxHeartbeats 4000000 in
theorem cM_strength (G : Nat → Nat → Int32) (E : Nat → Nat → Int64) (Dd : Nat → Nat → UInt64) (a0 : Int32) (a1 : Int32) (rv : UInt64) (newG : Nat → Nat → Int32) (newDd : Nat → Nat → UInt64) (hf : M_strength G Dd a0 a1 = some (rv, newG, newDd)) : sDd D (mT cI cJ cD) (mW ad cI cJ cD) mSm l yX12_strength (ws1 yX12_strength cX12_strength 3 (some .double)) ({ frames := 5, cells := 0, slots := 0, locals := 120 }) [.ref (ad 0), .int a0, .int a1] (G, E, Dd) (rv, (newG, E, newDd)) := by
  unfold M_strength at hf
  refine sDd_of (by decide) (Nat.le_of_ble_eq_true rfl) ?_
  intro p e R s m args below meth c A Q ls H lo dr sgm F hRf hRl hd hsm I hl ret
  obtain ⟨_, _, Dm⟩ := sgm
  obtain ⟨rfl, rfl, ha⟩ := mSm_dest hsm
  obtain ⟨hx, hb, hml, hown, hG⟩ := id F
  replace hl : lv_has ls 3 [(0, .ref (ad 0)), (1, .int a0), (2, .int a1)] := hl
  refine lv_aload_n hx hb dX12_strength_0 rfl (lv_at hl 0 rfl) ?_
  refine lv_aload_n hx hb dX12_strength_1 rfl (lv_at hl 0 rfl) ?_
  refine lv_iload_n hx hb dX12_strength_2 rfl (lv_at hl 1 rfl) ?_
  obtain ⟨r1, h2, hf⟩ := bd_some hf
  refine s_callVi (As := [.int a0]) (rest := [.ref (ad 0)]) (Fdr F) (Idr I) (cM_isSample G E Dm a0 r1 h2) kX12_151 ⟨rfl, rfl⟩ ⟨Nat.le_trans (Nat.le_of_ble_eq_true rfl) hRf, Nat.le_trans (Nat.le_of_ble_eq_true rfl) hRl⟩ (0) 12 rfl rfl rfl rfl rfl hl.1 (Nat.le_of_ble_eq_true rfl) ⟨Nat.zero_le _, Nat.zero_le _⟩ dX12_strength_3 ?_
  intro H_3 lo_3 I_3
  replace I_3 := Irr I_3
  obtain ⟨x5, hv18, hf⟩ := bd_some hf
  have J4 : ∀ (H : Heap) (locs : List Loc) (d : Drawn), s.drawn.sameBut d lw_cs → sInv D (mT cI cJ cD) (mW ad cI cJ cD) A s H locs (G, E, Dm) → ∀ (ls : Array Slot), lv_has ls 3 [(0, .ref (ad 0)), (1, .int a0), (2, .int a1)] → W p l e R (s.setDrawn d) m args below meth c H locs 0 0 Q (F0 m 28 ls [.int x5, .ref (ad 0)]) := by
    intro H_6 lo_6 dr_8 hd_8 I_6 ls_7 hl_7
    refine mptX12_89_0 (Fdr F) (Idr I_6) dX12_strength_28 ?_
    intro H_10 lo_10 G9 eG9 I_10
    replace I_10 := Irr I_10
    replace hf := nm_some eG9 hf
    refine lv_aload_n hx hb dX12_strength_31 rfl (lv_at hl_7 0 rfl) ?_
    refine mgtX12_89_0 (Fdr F) (Idr I_10) dX12_strength_32 ?_
    refine lv_if_le (tgt := 40) hx hb dX12_strength_35 (by decide) (fun c17 => ?_) (fun c17 => ?_)
    · replace hf := (if_pos c17).symm.trans hf
      refine lv_aload_n hx hb dX12_strength_40 rfl (lv_at hl_7 0 rfl) ?_
      refine lv_iload_n hx hb dX12_strength_41 rfl (lv_at hl_7 2 rfl) ?_
      obtain ⟨G11, Dd12, h13, hf⟩ := bd2_some hf
      refine d_callVv (As := [.int a1]) (rest := []) F hd_8 I_10 ⟨rfl, rfl, ha⟩ (cM_layStrengths G9 E Dd a1 G11 Dd12 h13) kX12_364 ⟨rfl, rfl⟩ ⟨Nat.le_trans (Nat.le_of_ble_eq_true rfl) hRf, Nat.le_trans (Nat.le_of_ble_eq_true rfl) hRl⟩ (0) 12 rfl rfl rfl rfl rfl hl_7.1 (Nat.le_of_ble_eq_true rfl) ⟨Nat.zero_le _, Nat.zero_le _⟩ dX12_strength_42 ?_
      intro H_14 lo_14 dr_15 sg15 hd_15 I_14 hs15
      obtain ⟨_, _, Dm15⟩ := sg15
      obtain ⟨rfl, rfl, ha15⟩ := mSm_dest hs15
      refine lv_aload_n hx hb dX12_strength_45 rfl (lv_at hl_7 0 rfl) ?_
      refine mgtX12_72_0 (Fdr F) (Idr I_14) dX12_strength_46 ?_
      refine lv_iload_n hx hb dX12_strength_49 rfl (lv_at hl_7 1 rfl) ?_
      obtain ⟨g16, hf⟩ := ri_some hf
      refine mal20 (Fdr F) (Idr I_14) g16 dX12_strength_50 ?_
      cases hf
      exact ret H_14 lo_14 _ ls_7 dr_15 _ _ hd_15 I_14 ⟨rfl, rfl, ha15⟩ (ha15 35 _) dX12_strength_51
    · replace hf := (if_neg c17).symm.trans hf
      refine lv_dconst0 hx hb dX12_strength_38 ?_
      cases hf
      exact ret H_10 lo_10 _ ls_7 dr_8 _ _ hd_8 I_10 ⟨rfl, rfl, ha⟩ (al_rf _) dX12_strength_39
  replace hf := hv18
  refine lv_if_ne (tgt := 13) hx hb dX12_strength_6 (by decide) (fun c23 => ?_) (fun c23 => ?_)
  · replace hf := (if_neg c23).symm.trans hf
    refine lv_iload_n hx hb dX12_strength_13 rfl (lv_at hl 2 rfl) ?_
    refine lv_iconst (v := (0 : Int32)) hx hb dX12_strength_14 (by decide) ?_
    refine lv_bipush (v := (60 : Int32)) hx hb dX12_strength_15 (by decide) ?_
    obtain ⟨r19, h20, hf⟩ := bd_some hf
    refine s_callSi (As := [.int a1, .int (0 : Int32), .int (60 : Int32)]) (rest := [.ref (ad 0)]) (Fdr F) (Idr I_3) (cM_within G E Dm a1 (0 : Int32) (60 : Int32) r19 h20) kX12_95 ⟨rfl, rfl⟩ ⟨Nat.le_trans (Nat.le_of_ble_eq_true rfl) hRf, Nat.le_trans (Nat.le_of_ble_eq_true rfl) hRl⟩ rfl rfl hl.1 (Nat.le_of_ble_eq_true rfl) ⟨Nat.zero_le _, Nat.zero_le _⟩ dX12_strength_17 ?_
    intro H_21 lo_21 I_21
    replace I_21 := Irr I_21
    refine lv_if_eq (tgt := 27) hx hb dX12_strength_20 (by decide) (fun c22 => ?_) (fun c22 => ?_)
    · replace hf := (if_pos c22).symm.trans hf
      refine lv_iconst (v := (2 : Int32)) hx hb dX12_strength_27 (by decide) ?_
      cases hf
      exact J4 H_21 lo_21 dr hd I_21 ls (lv_sub hl [0, 1, 2] rfl)
    · replace hf := (if_neg c22).symm.trans hf
      refine lv_iconst (v := (0 : Int32)) hx hb dX12_strength_23 (by decide) ?_
      refine lv_goto (tgt := 28) hx hb dX12_strength_24 (by decide) ?_
      cases hf
      exact J4 H_21 lo_21 dr hd I_21 ls (lv_sub hl [0, 1, 2] rfl)
  · replace hf := (if_pos c23).symm.trans hf
    refine lv_iconst (v := (1 : Int32)) hx hb dX12_strength_9 (by decide) ?_
    refine lv_goto (tgt := 28) hx hb dX12_strength_10 (by decide) ?_
    cases hf
    exact J4 H_3 lo_3 dr hd I_3 ls (lv_sub hl [0, 1, 2] rfl)
def M_expected_s1 (a0 : Int32) (G : Nat → Nat → Int32) (Dd : Nat → Nat → UInt64) (x5 : UInt64) (x6 : Int32) : Option ((UInt64 × Int32) ⊕ (UInt64)) :=
if G 1 0 ≤ x6 then
(some (.inr x5))
else
(ri 8 a0 <|
ri 8 x6 <|
nm ((FP.dadd (Dd 35 a0.toNatClampNeg) (Dd 35 x6.toNatClampNeg)) : UInt64) fun x18 =>
ri 64 (((8 : Int32) * a0) + x6) <|
bd (if G 38 (((8 : Int32) * a0) + x6).toNatClampNeg ≤ 0 then
(some FP.dconst0)
else
(if Op.cmpValue (FP.dcmp x18 FP.dconst0) CmpOp.l ≤ 0 then
(some FP.dconst0)
else
(ri 64 (((8 : Int32) * a0) + x6) <|
ri 8 a0 <|
some (FP.ddiv (FP.dmul (FP.i2d (G 38 (((8 : Int32) * a0) + x6).toNatClampNeg)) (Dd 35 a0.toNatClampNeg)) x18)))) fun x22 =>
nm ((FP.dadd x5 x22) : UInt64) fun x28 =>
nm (x6 + (1 : Int32) : Int32) fun x30 =>
some (.inl (x28, x30)))
def M_expected (G : Nat → Nat → Int32) (Dd : Nat → Nat → UInt64) (a0 : Int32) : Option (UInt64) :=
nm (FP.dconst0 : UInt64) fun x1 =>
bd (lp (fun q => M_expected_s1 a0 G Dd q.1 q.2) FU (x1, (0 : Int32))) fun x7 =>
some x7
set_option maxRecDepth 100000 in
set_option maxHeartbeats 4000000 in
theorem cM_expected (G : Nat → Nat → Int32) (E : Nat → Nat → Int64) (Dd : Nat → Nat → UInt64) (a0 : Int32) (rv : UInt64)  (hf : M_expected G Dd a0 = some rv) : sDd D (mT cI cJ cD) (mW ad cI cJ cD) mSm l yX12_expected (ws1 yX12_expected cX12_expected 7 (some .double)) ({ frames := 0, cells := 0, slots := 0, locals := 0 }) [.ref (ad 0), .int a0] (G, E, Dd) (rv, (G, E, Dd)) := by
  unfold M_expected at hf
  refine sDd_of (by decide) (Nat.le_of_ble_eq_true rfl) ?_
  intro p e R s m args below meth c A Q ls H lo dr sgm F hRf hRl hd hsm I hl ret
  obtain ⟨_, _, Dm⟩ := sgm
  obtain ⟨rfl, rfl, ha⟩ := mSm_dest hsm
  obtain ⟨hx, hb, hml, hown, hG⟩ := id F
  replace hl : lv_has ls 7 [(0, .ref (ad 0)), (1, .int a0)] := hl
  refine lv_dconst0 hx hb dX12_expected_0 ?_
  obtain ⟨x1, ex1⟩ : ∃ z : UInt64, z = FP.dconst0 := ⟨_, rfl⟩
  replace hf := nm_some ex1 hf
  have hx1 := al_eq2 ex1 (al_rf _)
  refine lv_topd (fun m2 em2 => ?_)
  have hm2 := al_eq em2 hx1
  refine lv_dstore_n (lv' := [(2, .double m2), (0, .ref (ad 0)), (1, .int a0)]) hx hb dX12_expected_1 rfl hl (by decide) rfl (fun ls_3 hl_3 => ?_)
  refine lv_iconst (v := (0 : Int32)) hx hb dX12_expected_2 (by decide) ?_
  refine lv_istore (lv' := [(4, .int (0 : Int32)), (2, .double m2), (0, .ref (ad 0)), (1, .int a0)]) hx hb dX12_expected_3 hl_3 (by decide) rfl (fun ls_4 hl_4 => ?_)
  obtain ⟨x7, hq1, hf⟩ := bd_some hf
  have K1 : ∀ (H : Heap) (locs : List Loc) (d : Drawn) (mx7 : UInt64), s.drawn.sameBut d lw_cs → alike64 mx7 x7 = true → sInv D (mT cI cJ cD) (mW ad cI cJ cD) A s H locs (G, E, Dm) → ∀ (ls : Array Slot), lv_has ls 7 [(2, .double mx7)] → W p l e R (s.setDrawn d) m args below meth c H locs 0 0 Q (F0 m 88 ls []) := by
    intro H_8 lo_8 dr_10 mx7 hd_10 hx7 I_8 ls_9 hl_9
    refine lv_dload_n hx hb dX12_expected_88 rfl (lv_at hl_9 0 rfl) ?_
    cases hf
    exact ret H_8 lo_8 _ ls_9 dr_10 _ _ hd_10 I_8 ⟨rfl, rfl, ha⟩ hx7 dX12_expected_89
  have L1 : ∀ (n : Nat) (x5 : UInt64) (x6 : Int32), lp (fun q => M_expected_s1 a0 G Dd q.1 q.2) n (x5, x6) = some x7 → ∀ (H : Heap) (locs : List Loc) (d : Drawn) (mx5 : UInt64), s.drawn.sameBut d lw_cs → alike64 mx5 x5 = true → sInv D (mT cI cJ cD) (mW ad cI cJ cD) A s H locs (G, E, Dm) → ∀ (ls : Array Slot), lv_has ls 7 [(0, .ref (ad 0)), (1, .int a0), (2, .double mx5), (4, .int x6)] → W p l e R (s.setDrawn d) m args below meth c H locs 0 0 Q (F0 m 5 ls []) := by
    intro n
    induction n with
    | zero => intro x5 x6 hq; exact (lp_0 hq).elim
    | succ n ih1 =>
      intro x5 x6 hq H_11 lo_11 dr_13 mx5 hd_13 hx5 I_11 ls_12 hl_12
      obtain ⟨y1, hf, hK1⟩ := lp_go hq
      replace hf : M_expected_s1 a0 G Dd x5 x6 = some y1 := hf
      unfold M_expected_s1 at hf
      refine lv_iload hx hb dX12_expected_5 (lv_at hl_12 3 rfl) ?_
      refine lv_aload_n hx hb dX12_expected_7 rfl (lv_at hl_12 0 rfl) ?_
      refine mgtX12_92_0 (Fdr F) (Idr I_11) dX12_expected_8 ?_
      refine lv_icmp_ge (tgt := 88) hx hb dX12_expected_11 (by decide) (fun c41 => ?_) (fun c41 => ?_)
      · replace hf := (if_pos c41).symm.trans hf
        cases hf
        cases (show x5 = x7 from hK1)
        exact K1 H_11 lo_11 dr_13 mx5 hd_13 hx5 I_11 ls_12 (lv_sub hl_12 [2] rfl)
      · replace hf := (if_neg c41).symm.trans hf
        refine lv_aload_n hx hb dX12_expected_14 rfl (lv_at hl_12 0 rfl) ?_
        refine mgtX12_72_0 (Fdr F) (Idr I_11) dX12_expected_15 ?_
        refine lv_iload_n hx hb dX12_expected_18 rfl (lv_at hl_12 1 rfl) ?_
        obtain ⟨g14, hf⟩ := ri_some hf
        refine mal20 (Fdr F) (Idr I_11) g14 dX12_expected_19 ?_
        refine lv_aload_n hx hb dX12_expected_20 rfl (lv_at hl_12 0 rfl) ?_
        refine mgtX12_72_0 (Fdr F) (Idr I_11) dX12_expected_21 ?_
        refine lv_iload hx hb dX12_expected_24 (lv_at hl_12 3 rfl) ?_
        obtain ⟨g15, hf⟩ := ri_some hf
        refine mal20 (Fdr F) (Idr I_11) g15 dX12_expected_26 ?_
        refine lv_dadd_any hd_13 lw_bits hx hb dX12_expected_27 (fun u16 dr_17 alu16 hd_17 => ?_)
        have hu16 := al_dadd alu16 (ha 35 _) (ha 35 _)
        obtain ⟨x18, ex18⟩ : ∃ z : UInt64, z = (FP.dadd (Dd 35 a0.toNatClampNeg) (Dd 35 x6.toNatClampNeg)) := ⟨_, rfl⟩
        replace hf := nm_some ex18 hf
        have hx18 := al_eq2 ex18 hu16
        refine lv_dstore (lv' := [(5, .double u16), (0, .ref (ad 0)), (1, .int a0), (2, .double mx5), (4, .int x6)]) hx hb dX12_expected_28 hl_12 (by decide) rfl (fun ls_19 hl_19 => ?_)
        refine lv_dload_n hx hb dX12_expected_30 rfl (lv_at hl_19 3 rfl) ?_
        refine lv_aload_n hx hb dX12_expected_31 rfl (lv_at hl_19 1 rfl) ?_
        refine mgtX12_82_0 (Fdr F) (Idr I_11) dX12_expected_32 ?_
        refine lv_bipush (v := (8 : Int32)) hx hb dX12_expected_35 (by decide) ?_
        refine lv_iload_n hx hb dX12_expected_37 rfl (lv_at hl_19 2 rfl) ?_
        refine lv_imul hx hb dX12_expected_38 ?_
        refine lv_iload hx hb dX12_expected_39 (lv_at hl_19 4 rfl) ?_
        refine lv_iadd hx hb dX12_expected_41 ?_
        obtain ⟨g20, hf⟩ := ri_some hf
        refine mal23 (Fdr F) (Idr I_11) g20 dX12_expected_42 ?_
        obtain ⟨x22, hv32, hf⟩ := bd_some hf
        have J21 : ∀ (H : Heap) (locs : List Loc) (d : Drawn) (mx22 : UInt64), s.drawn.sameBut d lw_cs → alike64 mx22 x22 = true → sInv D (mT cI cJ cD) (mW ad cI cJ cD) A s H locs (G, E, Dm) → ∀ (ls : Array Slot), lv_has ls 7 [(0, .ref (ad 0)), (1, .int a0), (4, .int x6)] → W p l e R (s.setDrawn d) m args below meth c H locs 0 0 Q (F0 m 80 ls [.double mx22, .double mx5]) := by
          intro H_23 lo_23 dr_25 mx22 hd_25 hx22 I_23 ls_24 hl_24
          refine lv_dadd_any hd_25 lw_bits hx hb dX12_expected_80 (fun u26 dr_27 alu26 hd_27 => ?_)
          have hu26 := al_dadd alu26 hx5 hx22
          obtain ⟨x28, ex28⟩ : ∃ z : UInt64, z = (FP.dadd x5 x22) := ⟨_, rfl⟩
          replace hf := nm_some ex28 hf
          have hx28 := al_eq2 ex28 hu26
          refine lv_dstore_n (lv' := [(2, .double u26), (0, .ref (ad 0)), (1, .int a0), (4, .int x6)]) hx hb dX12_expected_81 rfl hl_24 (by decide) rfl (fun ls_29 hl_29 => ?_)
          obtain ⟨x30, ex30⟩ : ∃ y : Int32, y = x6 + (1 : Int32) := ⟨_, rfl⟩
          replace hf := nm_some ex30 hf
          refine lv_iinc (v := x30) (lv' := [(4, .int x30), (2, .double u26), (0, .ref (ad 0)), (1, .int a0)]) hx hb dX12_expected_82 hl_29 (k := 3) rfl (by rw [ex30]; rfl) (by decide) rfl (fun ls_31 hl_31 => ?_)
          refine lv_goto (tgt := 5) hx hb dX12_expected_85 (by decide) ?_
          cases hf
          exact ih1 _ _ hK1 H_23 lo_23 dr_27 u26 hd_27 hx28 I_23 ls_31 (lv_sub hl_31 [2, 3, 1, 0] rfl)
        replace hf := hv32
        refine lv_if_le (tgt := 79) hx hb dX12_expected_43 (by decide) (fun c40 => ?_) (fun c40 => ?_)
        · replace hf := (if_pos c40).symm.trans hf
          refine lv_dconst0 hx hb dX12_expected_79 ?_
          cases hf
          exact J21 H_11 lo_11 dr_17 FP.dconst0 hd_17 (al_rf _) I_11 ls_19 (lv_sub hl_19 [1, 2, 4] rfl)
        · replace hf := (if_neg c40).symm.trans hf
          refine lv_dload hx hb dX12_expected_46 (lv_at hl_19 0 rfl) ?_
          refine lv_dconst0 hx hb dX12_expected_48 ?_
          refine lv_dcmp hx hb dX12_expected_49 ?_
          rw [al_dcmp hx18 (al_rf _)]
          refine lv_if_le (tgt := 79) hx hb dX12_expected_50 (by decide) (fun c39 => ?_) (fun c39 => ?_)
          · replace hf := (if_pos c39).symm.trans hf
            refine lv_dconst0 hx hb dX12_expected_79 ?_
            cases hf
            exact J21 H_11 lo_11 dr_17 FP.dconst0 hd_17 (al_rf _) I_11 ls_19 (lv_sub hl_19 [1, 2, 4] rfl)
          · replace hf := (if_neg c39).symm.trans hf
            refine lv_aload_n hx hb dX12_expected_53 rfl (lv_at hl_19 1 rfl) ?_
            refine mgtX12_82_0 (Fdr F) (Idr I_11) dX12_expected_54 ?_
            refine lv_bipush (v := (8 : Int32)) hx hb dX12_expected_57 (by decide) ?_
            refine lv_iload_n hx hb dX12_expected_59 rfl (lv_at hl_19 2 rfl) ?_
            refine lv_imul hx hb dX12_expected_60 ?_
            refine lv_iload hx hb dX12_expected_61 (lv_at hl_19 4 rfl) ?_
            refine lv_iadd hx hb dX12_expected_63 ?_
            obtain ⟨g33, hf⟩ := ri_some hf
            refine mal23 (Fdr F) (Idr I_11) g33 dX12_expected_64 ?_
            refine lv_i2d hx hb dX12_expected_65 ?_
            refine lv_aload_n hx hb dX12_expected_66 rfl (lv_at hl_19 1 rfl) ?_
            refine mgtX12_72_0 (Fdr F) (Idr I_11) dX12_expected_67 ?_
            refine lv_iload_n hx hb dX12_expected_70 rfl (lv_at hl_19 2 rfl) ?_
            obtain ⟨g34, hf⟩ := ri_some hf
            refine mal20 (Fdr F) (Idr I_11) g34 dX12_expected_71 ?_
            refine lv_dmul_any hd_17 lw_bits hx hb dX12_expected_72 (fun u35 dr_36 alu35 hd_36 => ?_)
            have hu35 := al_dmul alu35 (al_rf _) (ha 35 _)
            refine lv_dload hx hb dX12_expected_73 (lv_at hl_19 0 rfl) ?_
            refine lv_ddiv_any hd_36 lw_bits hx hb dX12_expected_75 (fun u37 dr_38 alu37 hd_38 => ?_)
            have hu37 := al_ddiv alu37 hu35 hx18
            refine lv_goto (tgt := 80) hx hb dX12_expected_76 (by decide) ?_
            cases hf
            exact J21 H_11 lo_11 dr_38 u37 hd_38 hu37 I_11 ls_19 (lv_sub hl_19 [1, 2, 4] rfl)
  exact L1 FU _ _ hq1 H lo dr m2 hd hm2 I ls_4 (lv_sub hl_4 [2, 3, 1, 0] rfl)
def M_misfit_s1 (G11 : Nat → Nat → Int32) (Dd12 : Nat → Nat → UInt64) (x20 : UInt64) (x21 : Int32) : Option ((UInt64 × Int32) ⊕ (UInt64)) :=
if G11 1 0 ≤ x21 then
(some (.inr x20))
else
(ri 8 x21 <|
bd (M_expected G11 Dd12 x21) fun r32 =>
nm ((FP.dsub (Dd12 37 x21.toNatClampNeg) r32) : UInt64) fun x38 =>
nm ((FP.dadd x20 (FP.dmul x38 x38)) : UInt64) fun x44 =>
nm (x21 + (1 : Int32) : Int32) fun x46 =>
some (.inl (x44, x46)))
def M_misfit (G : Nat → Nat → Int32) (Dd : Nat → Nat → UInt64) (a0 : Int32) : Option (UInt64 × (Nat → Nat → Int32) × (Nat → Nat → UInt64)) :=
bd (M_within a0 (0 : Int32) (60 : Int32)) fun r1 =>
bd (if r1 = 0 then
(some (1 : Int32))
else
(some (0 : Int32))) fun x5 =>
nm (wf G 0 x5) fun G9 =>
if G9 0 0 ≤ 0 then
(bd2 (M_layStrengths G9 Dd a0) fun G11 Dd12 =>
nm (FP.dconst0 : UInt64) fun x16 =>
bd (lp (fun q => M_misfit_s1 G11 Dd12 q.1 q.2) FU (x16, (0 : Int32))) fun x23 =>
some (x23, G11, Dd12))
else
(some (FP.dconst0, G9, Dd))
set_option maxRecDepth 100000 in
set_option maxHeartbeats 4000000 in
theorem cM_misfit (G : Nat → Nat → Int32) (E : Nat → Nat → Int64) (Dd : Nat → Nat → UInt64) (a0 : Int32) (rv : UInt64) (newG : Nat → Nat → Int32) (newDd : Nat → Nat → UInt64) (hf : M_misfit G Dd a0 = some (rv, newG, newDd)) : sDd D (mT cI cJ cD) (mW ad cI cJ cD) mSm l yX12_misfit (ws1 yX12_misfit cX12_misfit 7 (some .double)) ({ frames := 5, cells := 0, slots := 0, locals := 120 }) [.ref (ad 0), .int a0] (G, E, Dd) (rv, (newG, E, newDd)) := by
  unfold M_misfit at hf
  refine sDd_of (by decide) (Nat.le_of_ble_eq_true rfl) ?_
  intro p e R s m args below meth c A Q ls H lo dr sgm F hRf hRl hd hsm I hl ret
  obtain ⟨_, _, Dm⟩ := sgm
  obtain ⟨rfl, rfl, ha⟩ := mSm_dest hsm
  obtain ⟨hx, hb, hml, hown, hG⟩ := id F
  replace hl : lv_has ls 7 [(0, .ref (ad 0)), (1, .int a0)] := hl
  refine lv_aload_n hx hb dX12_misfit_0 rfl (lv_at hl 0 rfl) ?_
  refine lv_iload_n hx hb dX12_misfit_1 rfl (lv_at hl 1 rfl) ?_
  refine lv_iconst (v := (0 : Int32)) hx hb dX12_misfit_2 (by decide) ?_
  refine lv_bipush (v := (60 : Int32)) hx hb dX12_misfit_3 (by decide) ?_
  obtain ⟨r1, h2, hf⟩ := bd_some hf
  refine s_callSi (As := [.int a0, .int (0 : Int32), .int (60 : Int32)]) (rest := [.ref (ad 0)]) (Fdr F) (Idr I) (cM_within G E Dm a0 (0 : Int32) (60 : Int32) r1 h2) kX12_95 ⟨rfl, rfl⟩ ⟨Nat.le_trans (Nat.le_of_ble_eq_true rfl) hRf, Nat.le_trans (Nat.le_of_ble_eq_true rfl) hRl⟩ rfl rfl hl.1 (Nat.le_of_ble_eq_true rfl) ⟨Nat.zero_le _, Nat.zero_le _⟩ dX12_misfit_5 ?_
  intro H_3 lo_3 I_3
  replace I_3 := Irr I_3
  obtain ⟨x5, hv50, hf⟩ := bd_some hf
  have J4 : ∀ (H : Heap) (locs : List Loc) (d : Drawn), s.drawn.sameBut d lw_cs → sInv D (mT cI cJ cD) (mW ad cI cJ cD) A s H locs (G, E, Dm) → ∀ (ls : Array Slot), lv_has ls 7 [(0, .ref (ad 0)), (1, .int a0)] → W p l e R (s.setDrawn d) m args below meth c H locs 0 0 Q (F0 m 16 ls [.int x5, .ref (ad 0)]) := by
    intro H_6 lo_6 dr_8 hd_8 I_6 ls_7 hl_7
    refine mptX12_89_0 (Fdr F) (Idr I_6) dX12_misfit_16 ?_
    intro H_10 lo_10 G9 eG9 I_10
    replace I_10 := Irr I_10
    replace hf := nm_some eG9 hf
    refine lv_aload_n hx hb dX12_misfit_19 rfl (lv_at hl_7 0 rfl) ?_
    refine mgtX12_89_0 (Fdr F) (Idr I_10) dX12_misfit_20 ?_
    refine lv_if_le (tgt := 28) hx hb dX12_misfit_23 (by decide) (fun c49 => ?_) (fun c49 => ?_)
    · replace hf := (if_pos c49).symm.trans hf
      refine lv_aload_n hx hb dX12_misfit_28 rfl (lv_at hl_7 0 rfl) ?_
      refine lv_iload_n hx hb dX12_misfit_29 rfl (lv_at hl_7 1 rfl) ?_
      obtain ⟨G11, Dd12, h13, hf⟩ := bd2_some hf
      refine d_callVv (As := [.int a0]) (rest := []) F hd_8 I_10 ⟨rfl, rfl, ha⟩ (cM_layStrengths G9 E Dd a0 G11 Dd12 h13) kX12_364 ⟨rfl, rfl⟩ ⟨Nat.le_trans (Nat.le_of_ble_eq_true rfl) hRf, Nat.le_trans (Nat.le_of_ble_eq_true rfl) hRl⟩ (0) 12 rfl rfl rfl rfl rfl hl_7.1 (Nat.le_of_ble_eq_true rfl) ⟨Nat.zero_le _, Nat.zero_le _⟩ dX12_misfit_30 ?_
      intro H_14 lo_14 dr_15 sg15 hd_15 I_14 hs15
      obtain ⟨_, _, Dm15⟩ := sg15
      obtain ⟨rfl, rfl, ha15⟩ := mSm_dest hs15
      refine lv_dconst0 hx hb dX12_misfit_33 ?_
      obtain ⟨x16, ex16⟩ : ∃ z : UInt64, z = FP.dconst0 := ⟨_, rfl⟩
      replace hf := nm_some ex16 hf
      have hx16 := al_eq2 ex16 (al_rf _)
      refine lv_topd (fun m17 em17 => ?_)
      have hm17 := al_eq em17 hx16
      refine lv_dstore_n (lv' := [(2, .double m17), (0, .ref (ad 0)), (1, .int a0)]) hx hb dX12_misfit_34 rfl hl_7 (by decide) rfl (fun ls_18 hl_18 => ?_)
      refine lv_iconst (v := (0 : Int32)) hx hb dX12_misfit_35 (by decide) ?_
      refine lv_istore (lv' := [(4, .int (0 : Int32)), (2, .double m17), (0, .ref (ad 0)), (1, .int a0)]) hx hb dX12_misfit_36 hl_18 (by decide) rfl (fun ls_19 hl_19 => ?_)
      obtain ⟨x23, hq1, hf⟩ := bd_some hf
      have K1 : ∀ (H : Heap) (locs : List Loc) (d : Drawn) (mx23 : UInt64) (Dm24 : Nat → Nat → UInt64), s.drawn.sameBut d lw_cs → alike64 mx23 x23 = true → alikeM Dm24 Dd12 → sInv D (mT cI cJ cD) (mW ad cI cJ cD) A s H locs (G11, E, Dm24) → ∀ (ls : Array Slot), lv_has ls 7 [(2, .double mx23)] → W p l e R (s.setDrawn d) m args below meth c H locs 0 0 Q (F0 m 77 ls []) := by
        intro H_25 lo_25 dr_27 mx23 Dm24 hd_27 hx23 ha24 I_25 ls_26 hl_26
        refine lv_dload_n hx hb dX12_misfit_77 rfl (lv_at hl_26 0 rfl) ?_
        cases hf
        exact ret H_25 lo_25 _ ls_26 dr_27 _ _ hd_27 I_25 ⟨rfl, rfl, ha24⟩ hx23 dX12_misfit_78
      have L1 : ∀ (n : Nat) (x20 : UInt64) (x21 : Int32), lp (fun q => M_misfit_s1 G11 Dd12 q.1 q.2) n (x20, x21) = some x23 → ∀ (H : Heap) (locs : List Loc) (d : Drawn) (mx20 : UInt64) (Dm22 : Nat → Nat → UInt64), s.drawn.sameBut d lw_cs → alike64 mx20 x20 = true → alikeM Dm22 Dd12 → sInv D (mT cI cJ cD) (mW ad cI cJ cD) A s H locs (G11, E, Dm22) → ∀ (ls : Array Slot), lv_has ls 7 [(0, .ref (ad 0)), (2, .double mx20), (4, .int x21)] → W p l e R (s.setDrawn d) m args below meth c H locs 0 0 Q (F0 m 38 ls []) := by
        intro n
        induction n with
        | zero => intro x20 x21 hq; exact (lp_0 hq).elim
        | succ n ih1 =>
          intro x20 x21 hq H_28 lo_28 dr_30 mx20 Dm22 hd_30 hx20 ha22 I_28 ls_29 hl_29
          obtain ⟨y1, hf, hK1⟩ := lp_go hq
          replace hf : M_misfit_s1 G11 Dd12 x20 x21 = some y1 := hf
          unfold M_misfit_s1 at hf
          refine lv_iload hx hb dX12_misfit_38 (lv_at hl_29 2 rfl) ?_
          refine lv_aload_n hx hb dX12_misfit_40 rfl (lv_at hl_29 0 rfl) ?_
          refine mgtX12_92_0 (Fdr F) (Idr I_28) dX12_misfit_41 ?_
          refine lv_icmp_ge (tgt := 77) hx hb dX12_misfit_44 (by decide) (fun c48 => ?_) (fun c48 => ?_)
          · replace hf := (if_pos c48).symm.trans hf
            cases hf
            cases (show x20 = x23 from hK1)
            exact K1 H_28 lo_28 dr_30 mx20 Dm22 hd_30 hx20 ha22 I_28 ls_29 (lv_sub hl_29 [1] rfl)
          · replace hf := (if_neg c48).symm.trans hf
            refine lv_aload_n hx hb dX12_misfit_47 rfl (lv_at hl_29 0 rfl) ?_
            refine mgtX12_79_0 (Fdr F) (Idr I_28) dX12_misfit_48 ?_
            refine lv_iload hx hb dX12_misfit_51 (lv_at hl_29 2 rfl) ?_
            obtain ⟨g31, hf⟩ := ri_some hf
            refine mal22 (Fdr F) (Idr I_28) g31 dX12_misfit_53 ?_
            refine lv_aload_n hx hb dX12_misfit_54 rfl (lv_at hl_29 0 rfl) ?_
            refine lv_iload hx hb dX12_misfit_55 (lv_at hl_29 2 rfl) ?_
            obtain ⟨r32, h33, hf⟩ := bd_some hf
            refine d_callVd (As := [.int x21]) (rest := [.double (Dm22 37 x21.toNatClampNeg)]) F hd_30 I_28 ⟨rfl, rfl, ha22⟩ (cM_expected G11 E Dd12 x21 r32 h33) kX12_367 ⟨rfl, rfl⟩ ⟨Nat.le_trans (Nat.le_of_ble_eq_true rfl) hRf, Nat.le_trans (Nat.le_of_ble_eq_true rfl) hRl⟩ (0) 12 rfl rfl rfl rfl rfl hl_29.1 (Nat.le_of_ble_eq_true rfl) ⟨Nat.zero_le _, Nat.zero_le _⟩ dX12_misfit_57 ?_
            intro H_34 lo_34 dr_35 sg35 mr32 hd_35 I_34 hs35 hr32
            obtain ⟨_, _, Dm35⟩ := sg35
            obtain ⟨rfl, rfl, ha35⟩ := mSm_dest hs35
            refine lv_dsub_any hd_35 lw_bits hx hb dX12_misfit_60 (fun u36 dr_37 alu36 hd_37 => ?_)
            have hu36 := al_dsub alu36 (ha22 37 _) hr32
            obtain ⟨x38, ex38⟩ : ∃ z : UInt64, z = (FP.dsub (Dd12 37 x21.toNatClampNeg) r32) := ⟨_, rfl⟩
            replace hf := nm_some ex38 hf
            have hx38 := al_eq2 ex38 hu36
            refine lv_dstore (lv' := [(5, .double u36), (0, .ref (ad 0)), (2, .double mx20), (4, .int x21)]) hx hb dX12_misfit_61 hl_29 (by decide) rfl (fun ls_39 hl_39 => ?_)
            refine lv_dload_n hx hb dX12_misfit_63 rfl (lv_at hl_39 2 rfl) ?_
            refine lv_dload hx hb dX12_misfit_64 (lv_at hl_39 0 rfl) ?_
            refine lv_dload hx hb dX12_misfit_66 (lv_at hl_39 0 rfl) ?_
            refine lv_dmul_any hd_37 lw_bits hx hb dX12_misfit_68 (fun u40 dr_41 alu40 hd_41 => ?_)
            have hu40 := al_dmul alu40 hx38 hx38
            refine lv_dadd_any hd_41 lw_bits hx hb dX12_misfit_69 (fun u42 dr_43 alu42 hd_43 => ?_)
            have hu42 := al_dadd alu42 hx20 hu40
            obtain ⟨x44, ex44⟩ : ∃ z : UInt64, z = (FP.dadd x20 (FP.dmul x38 x38)) := ⟨_, rfl⟩
            replace hf := nm_some ex44 hf
            have hx44 := al_eq2 ex44 hu42
            refine lv_dstore_n (lv' := [(2, .double u42), (5, .double u36), (0, .ref (ad 0)), (4, .int x21)]) hx hb dX12_misfit_70 rfl hl_39 (by decide) rfl (fun ls_45 hl_45 => ?_)
            obtain ⟨x46, ex46⟩ : ∃ y : Int32, y = x21 + (1 : Int32) := ⟨_, rfl⟩
            replace hf := nm_some ex46 hf
            refine lv_iinc (v := x46) (lv' := [(4, .int x46), (2, .double u42), (5, .double u36), (0, .ref (ad 0))]) hx hb dX12_misfit_71 hl_45 (k := 3) rfl (by rw [ex46]; rfl) (by decide) rfl (fun ls_47 hl_47 => ?_)
            refine lv_goto (tgt := 38) hx hb dX12_misfit_74 (by decide) ?_
            cases hf
            exact ih1 _ _ hK1 H_34 lo_34 dr_43 u42 Dm35 hd_43 hx44 ha35 I_34 ls_47 (lv_sub hl_47 [3, 1, 0] rfl)
      exact L1 FU _ _ hq1 H_14 lo_14 dr_15 m17 Dm15 hd_15 hm17 ha15 I_14 ls_19 (lv_sub hl_19 [2, 1, 0] rfl)
    · replace hf := (if_neg c49).symm.trans hf
      refine lv_dconst0 hx hb dX12_misfit_26 ?_
      cases hf
      exact ret H_10 lo_10 _ ls_7 dr_8 _ _ hd_8 I_10 ⟨rfl, rfl, ha⟩ (al_rf _) dX12_misfit_27
  replace hf := hv50
  refine lv_if_eq (tgt := 15) hx hb dX12_misfit_8 (by decide) (fun c51 => ?_) (fun c51 => ?_)
  · replace hf := (if_pos c51).symm.trans hf
    refine lv_iconst (v := (1 : Int32)) hx hb dX12_misfit_15 (by decide) ?_
    cases hf
    exact J4 H_3 lo_3 dr hd I_3 ls (lv_sub hl [0, 1] rfl)
  · replace hf := (if_neg c51).symm.trans hf
    refine lv_iconst (v := (0 : Int32)) hx hb dX12_misfit_11 (by decide) ?_
    refine lv_goto (tgt := 16) hx hb dX12_misfit_12 (by decide) ?_
    cases hf
    exact J4 H_3 lo_3 dr hd I_3 ls (lv_sub hl [0, 1] rfl)
def M_mixSamples_s4 (x22 : Int32) (G16 : Nat → Nat → Int32) (x33 : Int32) (E34 : Nat → Nat → Int64) : Option ((Int32 × (Nat → Nat → Int64)) ⊕ ((Nat → Nat → Int64))) :=
if G16 1 0 ≤ x33 then
(some (.inr E34))
else
(bd (M_margin G16 x22 x33) fun r44 =>
nm (M_mix E34 r44.toInt64) fun E47 =>
bd (M_chanceNow G16 x22 x33) fun r50 =>
nm (M_mix E47 r50) fun E53 =>
nm (x33 + (1 : Int32) : Int32) fun x56 =>
some (.inl (x56, E53)))
def M_mixSamples_s3 (G16 : Nat → Nat → Int32) (x22 : Int32) (E23 : Nat → Nat → Int64) : Option ((Int32 × (Nat → Nat → Int64)) ⊕ ((Nat → Nat → Int64))) :=
if G16 1 0 ≤ x22 then
(some (.inr E23))
else
(nm (x22 + (1 : Int32) : Int32) fun x31 =>
bd (lp (fun q => M_mixSamples_s4 x22 G16 q.1 q.2) FU (x31, E23)) fun E35 =>
nm (x22 + (1 : Int32) : Int32) fun x39 =>
some (.inl (x39, E35)))
def M_mixSamples_s2  (x13 : Int32) (G14 : Nat → Nat → Int32) (E15 : Nat → Nat → Int64) : Option ((Int32 × (Nat → Nat → Int32) × (Nat → Nat → Int64)) ⊕ ((Nat → Nat → Int32) × (Nat → Nat → Int64))) :=
if (6 : Int32) ≤ x13 then
(some (.inr (G14, E15)))
else
(bd2 (M_summaryNow G14 x13) fun r63 G64 =>
nm (M_mix E15 r63.toInt64) fun E67 =>
nm (x13 + (1 : Int32) : Int32) fun x70 =>
some (.inl (x70, G64, E67)))
def M_mixSamples_s5 (x2 : Int32) (x77 : Int32) (G78 : Nat → Nat → Int32) (E79 : Nat → Nat → Int64) : Option ((Int32 × (Nat → Nat → Int32) × (Nat → Nat → Int64)) ⊕ ((Nat → Nat → Int32) × (Nat → Nat → Int64))) :=
if (6 : Int32) ≤ x77 then
(some (.inr (G78, E79)))
else
(bd2 (M_sampleNow G78 x2 x77) fun r101 G102 =>
nm (M_mix E79 r101.toInt64) fun E105 =>
nm (x77 + (1 : Int32) : Int32) fun x108 =>
some (.inl (x108, G102, E105)))
def M_mixSamples_s1  (x2 : Int32) (G3 : Nat → Nat → Int32) (E4 : Nat → Nat → Int64) (Dd5 : Nat → Nat → UInt64) : Option ((Int32 × (Nat → Nat → Int32) × (Nat → Nat → Int64) × (Nat → Nat → UInt64)) ⊕ ((Nat → Nat → Int32) × (Nat → Nat → Int64) × (Nat → Nat → UInt64))) :=
if G3 1 0 ≤ x2 then
(some (.inr (G3, E4, Dd5)))
else
(bd2 (lp (fun q => M_mixSamples_s5 x2 q.1 q.2.1 q.2.2) FU ((0 : Int32), G3, E4)) fun G80 E81 =>
bd2 (M_layStrengths G80 Dd5 (8 : Int32)) fun G85 Dd86 =>
ri 8 x2 <|
nm (M_mix E81 (FP.d2l (FP.dmul (Dd86 35 x2.toNatClampNeg) (4696837146684686336 : UInt64)))) fun E93 =>
nm (x2 + (1 : Int32) : Int32) fun x96 =>
some (.inl (x96, G85, E93, Dd86)))
def M_mixSamples (G : Nat → Nat → Int32) (E : Nat → Nat → Int64) (Dd : Nat → Nat → UInt64) : Option ((Nat → Nat → Int32) × (Nat → Nat → Int64) × (Nat → Nat → UInt64)) :=
bd3 (lp (fun q => M_mixSamples_s1 q.1 q.2.1 q.2.2.1 q.2.2.2) FU ((0 : Int32), G, E, Dd)) fun G6 E7 Dd8 =>
bd2 (lp (fun q => M_mixSamples_s2 q.1 q.2.1 q.2.2) FU ((0 : Int32), G6, E7)) fun G16 E17 =>
bd (lp (fun q => M_mixSamples_s3 G16 q.1 q.2) FU ((0 : Int32), E17)) fun E24 =>
some (G16, E24, Dd8)
set_option maxRecDepth 100000 in
set_option maxHeartbeats 4000000 in
theorem cM_mixSamples (G : Nat → Nat → Int32) (E : Nat → Nat → Int64) (Dd : Nat → Nat → UInt64)   (newG : Nat → Nat → Int32) (newE : Nat → Nat → Int64) (newDd : Nat → Nat → UInt64) (hf : M_mixSamples G E Dd = some (newG, newE, newDd)) : sDv D (mT cI cJ cD) (mW ad cI cJ cD) mSm l yX12_mixSamples (ws1 yX12_mixSamples cX12_mixSamples 3 none) ({ frames := 7, cells := 0, slots := 0, locals := 166 }) [.ref (ad 0)] (G, E, Dd) (newG, newE, newDd) := by
  unfold M_mixSamples at hf
  refine sDv_of (by decide) (Nat.le_of_ble_eq_true rfl) ?_
  intro p e R s m args below meth c A Q ls H lo dr sgm F hRf hRl hd hsm I hl ret
  obtain ⟨_, _, Dm⟩ := sgm
  obtain ⟨rfl, rfl, ha⟩ := mSm_dest hsm
  obtain ⟨hx, hb, hml, hown, hG⟩ := id F
  replace hl : lv_has ls 3 [(0, .ref (ad 0))] := hl
  refine lv_iconst (v := (0 : Int32)) hx hb dX12_mixSamples_0 (by decide) ?_
  refine lv_istore_n (lv' := [(1, .int (0 : Int32)), (0, .ref (ad 0))]) hx hb dX12_mixSamples_1 rfl hl (by decide) rfl (fun ls_1 hl_1 => ?_)
  obtain ⟨G6, E7, Dd8, hq1, hf⟩ := bd3_some hf
  have K1 : ∀ (H : Heap) (locs : List Loc) (d : Drawn) (Dm8 : Nat → Nat → UInt64), s.drawn.sameBut d lw_cs → alikeM Dm8 Dd8 → sInv D (mT cI cJ cD) (mW ad cI cJ cD) A s H locs (G6, E7, Dm8) → ∀ (ls : Array Slot), lv_has ls 3 [(0, .ref (ad 0))] → W p l e R (s.setDrawn d) m args below meth c H locs 0 0 Q (F0 m 62 ls []) := by
    intro H_9 lo_9 dr_11 Dm8 hd_11 ha8 I_9 ls_10 hl_10
    refine lv_iconst (v := (0 : Int32)) hx hb dX12_mixSamples_62 (by decide) ?_
    refine lv_istore_n (lv' := [(1, .int (0 : Int32)), (0, .ref (ad 0))]) hx hb dX12_mixSamples_63 rfl hl_10 (by decide) rfl (fun ls_12 hl_12 => ?_)
    obtain ⟨G16, E17, hq2, hf⟩ := bd2_some hf
    have K2 : ∀ (H : Heap) (locs : List Loc) (d : Drawn), s.drawn.sameBut d lw_cs → sInv D (mT cI cJ cD) (mW ad cI cJ cD) A s H locs (G16, E17, Dm8) → ∀ (ls : Array Slot), lv_has ls 3 [(0, .ref (ad 0))] → W p l e R (s.setDrawn d) m args below meth c H locs 0 0 Q (F0 m 86 ls []) := by
      intro H_18 lo_18 dr_20 hd_20 I_18 ls_19 hl_19
      refine lv_iconst (v := (0 : Int32)) hx hb dX12_mixSamples_86 (by decide) ?_
      refine lv_istore_n (lv' := [(1, .int (0 : Int32)), (0, .ref (ad 0))]) hx hb dX12_mixSamples_87 rfl hl_19 (by decide) rfl (fun ls_21 hl_21 => ?_)
      obtain ⟨E24, hq3, hf⟩ := bd_some hf
      have K3 : ∀ (H : Heap) (locs : List Loc) (d : Drawn), s.drawn.sameBut d lw_cs → sInv D (mT cI cJ cD) (mW ad cI cJ cD) A s H locs (G16, E24, Dm8) → ∀ (ls : Array Slot), lv_has ls 3 [] → W p l e R (s.setDrawn d) m args below meth c H locs 0 0 Q (F0 m 141 ls []) := by
        intro H_25 lo_25 dr_27 hd_27 I_25 ls_26 hl_26
        cases hf
        exact ret H_25 lo_25 _ ls_26 dr_27 _ hd_27 I_25 ⟨rfl, rfl, ha8⟩ dX12_mixSamples_141
      have L3 : ∀ (n : Nat) (x22 : Int32) (E23 : Nat → Nat → Int64), lp (fun q => M_mixSamples_s3 G16 q.1 q.2) n (x22, E23) = some E24 → ∀ (H : Heap) (locs : List Loc) (d : Drawn), s.drawn.sameBut d lw_cs → sInv D (mT cI cJ cD) (mW ad cI cJ cD) A s H locs (G16, E23, Dm8) → ∀ (ls : Array Slot), lv_has ls 3 [(0, .ref (ad 0)), (1, .int x22)] → W p l e R (s.setDrawn d) m args below meth c H locs 0 0 Q (F0 m 88 ls []) := by
        intro n
        induction n with
        | zero => intro x22 E23 hq; exact (lp_0 hq).elim
        | succ n ih3 =>
          intro x22 E23 hq H_28 lo_28 dr_30 hd_30 I_28 ls_29 hl_29
          obtain ⟨y3, hf, hK3⟩ := lp_go hq
          replace hf : M_mixSamples_s3 G16 x22 E23 = some y3 := hf
          unfold M_mixSamples_s3 at hf
          refine lv_iload_n hx hb dX12_mixSamples_88 rfl (lv_at hl_29 1 rfl) ?_
          refine lv_aload_n hx hb dX12_mixSamples_89 rfl (lv_at hl_29 0 rfl) ?_
          refine mgtX12_92_0 (Fdr F) (Idr I_28) dX12_mixSamples_90 ?_
          refine lv_icmp_ge (tgt := 141) hx hb dX12_mixSamples_93 (by decide) (fun c59 => ?_) (fun c59 => ?_)
          · replace hf := (if_pos c59).symm.trans hf
            cases hf
            cases (show E23 = E24 from hK3)
            exact K3 H_28 lo_28 dr_30 hd_30 I_28 ls_29 (lv_sub hl_29 [] rfl)
          · replace hf := (if_neg c59).symm.trans hf
            refine lv_iload_n hx hb dX12_mixSamples_96 rfl (lv_at hl_29 1 rfl) ?_
            refine lv_iconst (v := (1 : Int32)) hx hb dX12_mixSamples_97 (by decide) ?_
            refine lv_iadd hx hb dX12_mixSamples_98 ?_
            refine lv_topi (fun x31 ex31 => ?_)
            replace hf := nm_some ex31 hf
            refine lv_istore_n (lv' := [(2, .int x31), (0, .ref (ad 0)), (1, .int x22)]) hx hb dX12_mixSamples_99 rfl hl_29 (by decide) rfl (fun ls_32 hl_32 => ?_)
            obtain ⟨E35, hq4, hf⟩ := bd_some hf
            have K4 : ∀ (H : Heap) (locs : List Loc) (d : Drawn), s.drawn.sameBut d lw_cs → sInv D (mT cI cJ cD) (mW ad cI cJ cD) A s H locs (G16, E35, Dm8) → ∀ (ls : Array Slot), lv_has ls 3 [(0, .ref (ad 0)), (1, .int x22)] → W p l e R (s.setDrawn d) m args below meth c H locs 0 0 Q (F0 m 135 ls []) := by
              intro H_36 lo_36 dr_38 hd_38 I_36 ls_37 hl_37
              obtain ⟨x39, ex39⟩ : ∃ y : Int32, y = x22 + (1 : Int32) := ⟨_, rfl⟩
              replace hf := nm_some ex39 hf
              refine lv_iinc (v := x39) (lv' := [(1, .int x39), (0, .ref (ad 0))]) hx hb dX12_mixSamples_135 hl_37 (k := 1) rfl (by rw [ex39]; rfl) (by decide) rfl (fun ls_40 hl_40 => ?_)
              refine lv_goto (tgt := 88) hx hb dX12_mixSamples_138 (by decide) ?_
              cases hf
              exact ih3 _ _ hK3 H_36 lo_36 dr_38 hd_38 I_36 ls_40 (lv_sub hl_40 [1, 0] rfl)
            have L4 : ∀ (n : Nat) (x33 : Int32) (E34 : Nat → Nat → Int64), lp (fun q => M_mixSamples_s4 x22 G16 q.1 q.2) n (x33, E34) = some E35 → ∀ (H : Heap) (locs : List Loc) (d : Drawn), s.drawn.sameBut d lw_cs → sInv D (mT cI cJ cD) (mW ad cI cJ cD) A s H locs (G16, E34, Dm8) → ∀ (ls : Array Slot), lv_has ls 3 [(0, .ref (ad 0)), (1, .int x22), (2, .int x33)] → W p l e R (s.setDrawn d) m args below meth c H locs 0 0 Q (F0 m 100 ls []) := by
              intro n
              induction n with
              | zero => intro x33 E34 hq; exact (lp_0 hq).elim
              | succ n ih4 =>
                intro x33 E34 hq H_41 lo_41 dr_43 hd_43 I_41 ls_42 hl_42
                obtain ⟨y4, hf, hK4⟩ := lp_go hq
                replace hf : M_mixSamples_s4 x22 G16 x33 E34 = some y4 := hf
                unfold M_mixSamples_s4 at hf
                refine lv_iload_n hx hb dX12_mixSamples_100 rfl (lv_at hl_42 2 rfl) ?_
                refine lv_aload_n hx hb dX12_mixSamples_101 rfl (lv_at hl_42 0 rfl) ?_
                refine mgtX12_92_0 (Fdr F) (Idr I_41) dX12_mixSamples_102 ?_
                refine lv_icmp_ge (tgt := 135) hx hb dX12_mixSamples_105 (by decide) (fun c58 => ?_) (fun c58 => ?_)
                · replace hf := (if_pos c58).symm.trans hf
                  cases hf
                  cases (show E34 = E35 from hK4)
                  exact K4 H_41 lo_41 dr_43 hd_43 I_41 ls_42 (lv_sub hl_42 [0, 1] rfl)
                · replace hf := (if_neg c58).symm.trans hf
                  refine lv_aload_n hx hb dX12_mixSamples_108 rfl (lv_at hl_42 0 rfl) ?_
                  refine lv_aload_n hx hb dX12_mixSamples_109 rfl (lv_at hl_42 0 rfl) ?_
                  refine lv_iload_n hx hb dX12_mixSamples_110 rfl (lv_at hl_42 1 rfl) ?_
                  refine lv_iload_n hx hb dX12_mixSamples_111 rfl (lv_at hl_42 2 rfl) ?_
                  obtain ⟨r44, h45, hf⟩ := bd_some hf
                  refine s_callVi (As := [.int x22, .int x33]) (rest := [.ref (ad 0)]) (Fdr F) (Idr I_41) (cM_margin G16 E34 Dm8 x22 x33 r44 h45) kX12_233 ⟨rfl, rfl⟩ ⟨Nat.le_trans (Nat.le_of_ble_eq_true rfl) hRf, Nat.le_trans (Nat.le_of_ble_eq_true rfl) hRl⟩ (0) 12 rfl rfl rfl rfl rfl hl_42.1 (Nat.le_of_ble_eq_true rfl) ⟨Nat.zero_le _, Nat.zero_le _⟩ dX12_mixSamples_112 ?_
                  intro H_46 lo_46 I_46
                  replace I_46 := Irr I_46
                  refine lv_i2l hx hb dX12_mixSamples_115 rfl ?_
                  obtain ⟨E47, h48⟩ : ∃ z, z = M_mix E34 r44.toInt64 := ⟨_, rfl⟩
                  replace hf := nm_some h48 hf
                  refine s_callVv (As := [.long (r44.toInt64)]) (rest := []) (Fdr F) (Idr I_46) (cM_mix G16 E34 Dm8 r44.toInt64 E47 h48) kX12_375 ⟨rfl, rfl⟩ ⟨Nat.le_trans (Nat.le_of_ble_eq_true rfl) hRf, Nat.le_trans (Nat.le_of_ble_eq_true rfl) hRl⟩ (0) 12 rfl rfl rfl rfl rfl hl_42.1 (Nat.le_of_ble_eq_true rfl) ⟨Nat.zero_le _, Nat.zero_le _⟩ dX12_mixSamples_116 ?_
                  intro H_49 lo_49 I_49
                  replace I_49 := Irr I_49
                  refine lv_aload_n hx hb dX12_mixSamples_119 rfl (lv_at hl_42 0 rfl) ?_
                  refine lv_aload_n hx hb dX12_mixSamples_120 rfl (lv_at hl_42 0 rfl) ?_
                  refine lv_iload_n hx hb dX12_mixSamples_121 rfl (lv_at hl_42 1 rfl) ?_
                  refine lv_iload_n hx hb dX12_mixSamples_122 rfl (lv_at hl_42 2 rfl) ?_
                  obtain ⟨r50, h51, hf⟩ := bd_some hf
                  refine s_callVl (As := [.int x22, .int x33]) (rest := [.ref (ad 0)]) (Fdr F) (Idr I_49) (cM_chanceNow G16 E47 Dm8 x22 x33 r50 h51) kX12_327 ⟨rfl, rfl⟩ ⟨Nat.le_trans (Nat.le_of_ble_eq_true rfl) hRf, Nat.le_trans (Nat.le_of_ble_eq_true rfl) hRl⟩ (0) 12 rfl rfl rfl rfl rfl hl_42.1 (Nat.le_of_ble_eq_true rfl) ⟨Nat.zero_le _, Nat.zero_le _⟩ dX12_mixSamples_123 ?_
                  intro H_52 lo_52 I_52
                  replace I_52 := Irr I_52
                  obtain ⟨E53, h54⟩ : ∃ z, z = M_mix E47 r50 := ⟨_, rfl⟩
                  replace hf := nm_some h54 hf
                  refine s_callVv (As := [.long r50]) (rest := []) (Fdr F) (Idr I_52) (cM_mix G16 E47 Dm8 r50 E53 h54) kX12_375 ⟨rfl, rfl⟩ ⟨Nat.le_trans (Nat.le_of_ble_eq_true rfl) hRf, Nat.le_trans (Nat.le_of_ble_eq_true rfl) hRl⟩ (0) 12 rfl rfl rfl rfl rfl hl_42.1 (Nat.le_of_ble_eq_true rfl) ⟨Nat.zero_le _, Nat.zero_le _⟩ dX12_mixSamples_126 ?_
                  intro H_55 lo_55 I_55
                  replace I_55 := Irr I_55
                  obtain ⟨x56, ex56⟩ : ∃ y : Int32, y = x33 + (1 : Int32) := ⟨_, rfl⟩
                  replace hf := nm_some ex56 hf
                  refine lv_iinc (v := x56) (lv' := [(2, .int x56), (0, .ref (ad 0)), (1, .int x22)]) hx hb dX12_mixSamples_129 hl_42 (k := 2) rfl (by rw [ex56]; rfl) (by decide) rfl (fun ls_57 hl_57 => ?_)
                  refine lv_goto (tgt := 100) hx hb dX12_mixSamples_132 (by decide) ?_
                  cases hf
                  exact ih4 _ _ hK4 H_55 lo_55 dr_43 hd_43 I_55 ls_57 (lv_sub hl_57 [1, 2, 0] rfl)
            exact L4 FU _ _ hq4 H_28 lo_28 dr_30 hd_30 I_28 ls_32 (lv_sub hl_32 [1, 2, 0] rfl)
      exact L3 FU _ _ hq3 H_18 lo_18 dr_20 hd_20 I_18 ls_21 (lv_sub hl_21 [1, 0] rfl)
    have L2 : ∀ (n : Nat) (x13 : Int32) (G14 : Nat → Nat → Int32) (E15 : Nat → Nat → Int64), lp (fun q => M_mixSamples_s2 q.1 q.2.1 q.2.2) n (x13, G14, E15) = some (G16, E17) → ∀ (H : Heap) (locs : List Loc) (d : Drawn), s.drawn.sameBut d lw_cs → sInv D (mT cI cJ cD) (mW ad cI cJ cD) A s H locs (G14, E15, Dm8) → ∀ (ls : Array Slot), lv_has ls 3 [(0, .ref (ad 0)), (1, .int x13)] → W p l e R (s.setDrawn d) m args below meth c H locs 0 0 Q (F0 m 64 ls []) := by
      intro n
      induction n with
      | zero => intro x13 G14 E15 hq; exact (lp_0 hq).elim
      | succ n ih2 =>
        intro x13 G14 E15 hq H_60 lo_60 dr_62 hd_62 I_60 ls_61 hl_61
        obtain ⟨y2, hf, hK2⟩ := lp_go hq
        replace hf : M_mixSamples_s2 x13 G14 E15 = some y2 := hf
        unfold M_mixSamples_s2 at hf
        refine lv_iload_n hx hb dX12_mixSamples_64 rfl (lv_at hl_61 1 rfl) ?_
        refine lv_bipush (v := (6 : Int32)) hx hb dX12_mixSamples_65 (by decide) ?_
        refine lv_icmp_ge (tgt := 86) hx hb dX12_mixSamples_67 (by decide) (fun c72 => ?_) (fun c72 => ?_)
        · replace hf := (if_pos c72).symm.trans hf
          cases hf
          cases (show (G14, E15) = (G16, E17) from hK2)
          exact K2 H_60 lo_60 dr_62 hd_62 I_60 ls_61 (lv_sub hl_61 [0] rfl)
        · replace hf := (if_neg c72).symm.trans hf
          refine lv_aload_n hx hb dX12_mixSamples_70 rfl (lv_at hl_61 0 rfl) ?_
          refine lv_aload_n hx hb dX12_mixSamples_71 rfl (lv_at hl_61 0 rfl) ?_
          refine lv_iload_n hx hb dX12_mixSamples_72 rfl (lv_at hl_61 1 rfl) ?_
          obtain ⟨r63, G64, h65, hf⟩ := bd2_some hf
          refine s_callVi (As := [.int x13]) (rest := [.ref (ad 0)]) (Fdr F) (Idr I_60) (cM_summaryNow G14 E15 Dm8 x13 r63 G64 h65) kX12_306 ⟨rfl, rfl⟩ ⟨Nat.le_trans (Nat.le_of_ble_eq_true rfl) hRf, Nat.le_trans (Nat.le_of_ble_eq_true rfl) hRl⟩ (0) 12 rfl rfl rfl rfl rfl hl_61.1 (Nat.le_of_ble_eq_true rfl) ⟨Nat.zero_le _, Nat.zero_le _⟩ dX12_mixSamples_73 ?_
          intro H_66 lo_66 I_66
          replace I_66 := Irr I_66
          refine lv_i2l hx hb dX12_mixSamples_76 rfl ?_
          obtain ⟨E67, h68⟩ : ∃ z, z = M_mix E15 r63.toInt64 := ⟨_, rfl⟩
          replace hf := nm_some h68 hf
          refine s_callVv (As := [.long (r63.toInt64)]) (rest := []) (Fdr F) (Idr I_66) (cM_mix G64 E15 Dm8 r63.toInt64 E67 h68) kX12_375 ⟨rfl, rfl⟩ ⟨Nat.le_trans (Nat.le_of_ble_eq_true rfl) hRf, Nat.le_trans (Nat.le_of_ble_eq_true rfl) hRl⟩ (0) 12 rfl rfl rfl rfl rfl hl_61.1 (Nat.le_of_ble_eq_true rfl) ⟨Nat.zero_le _, Nat.zero_le _⟩ dX12_mixSamples_77 ?_
          intro H_69 lo_69 I_69
          replace I_69 := Irr I_69
          obtain ⟨x70, ex70⟩ : ∃ y : Int32, y = x13 + (1 : Int32) := ⟨_, rfl⟩
          replace hf := nm_some ex70 hf
          refine lv_iinc (v := x70) (lv' := [(1, .int x70), (0, .ref (ad 0))]) hx hb dX12_mixSamples_80 hl_61 (k := 1) rfl (by rw [ex70]; rfl) (by decide) rfl (fun ls_71 hl_71 => ?_)
          refine lv_goto (tgt := 64) hx hb dX12_mixSamples_83 (by decide) ?_
          cases hf
          exact ih2 _ _ _ hK2 H_69 lo_69 dr_62 hd_62 I_69 ls_71 (lv_sub hl_71 [1, 0] rfl)
    exact L2 FU _ _ _ hq2 H_9 lo_9 dr_11 hd_11 I_9 ls_12 (lv_sub hl_12 [1, 0] rfl)
  have L1 : ∀ (n : Nat) (x2 : Int32) (G3 : Nat → Nat → Int32) (E4 : Nat → Nat → Int64) (Dd5 : Nat → Nat → UInt64), lp (fun q => M_mixSamples_s1 q.1 q.2.1 q.2.2.1 q.2.2.2) n (x2, G3, E4, Dd5) = some (G6, E7, Dd8) → ∀ (H : Heap) (locs : List Loc) (d : Drawn) (Dm5 : Nat → Nat → UInt64), s.drawn.sameBut d lw_cs → alikeM Dm5 Dd5 → sInv D (mT cI cJ cD) (mW ad cI cJ cD) A s H locs (G3, E4, Dm5) → ∀ (ls : Array Slot), lv_has ls 3 [(0, .ref (ad 0)), (1, .int x2)] → W p l e R (s.setDrawn d) m args below meth c H locs 0 0 Q (F0 m 2 ls []) := by
    intro n
    induction n with
    | zero => intro x2 G3 E4 Dd5 hq; exact (lp_0 hq).elim
    | succ n ih1 =>
      intro x2 G3 E4 Dd5 hq H_73 lo_73 dr_75 Dm5 hd_75 ha5 I_73 ls_74 hl_74
      obtain ⟨y1, hf, hK1⟩ := lp_go hq
      replace hf : M_mixSamples_s1 x2 G3 E4 Dd5 = some y1 := hf
      unfold M_mixSamples_s1 at hf
      refine lv_iload_n hx hb dX12_mixSamples_2 rfl (lv_at hl_74 1 rfl) ?_
      refine lv_aload_n hx hb dX12_mixSamples_3 rfl (lv_at hl_74 0 rfl) ?_
      refine mgtX12_92_0 (Fdr F) (Idr I_73) dX12_mixSamples_4 ?_
      refine lv_icmp_ge (tgt := 62) hx hb dX12_mixSamples_7 (by decide) (fun c111 => ?_) (fun c111 => ?_)
      · replace hf := (if_pos c111).symm.trans hf
        cases hf
        cases (show (G3, E4, Dd5) = (G6, E7, Dd8) from hK1)
        exact K1 H_73 lo_73 dr_75 Dm5 hd_75 ha5 I_73 ls_74 (lv_sub hl_74 [0] rfl)
      · replace hf := (if_neg c111).symm.trans hf
        refine lv_iconst (v := (0 : Int32)) hx hb dX12_mixSamples_10 (by decide) ?_
        refine lv_istore_n (lv' := [(2, .int (0 : Int32)), (0, .ref (ad 0)), (1, .int x2)]) hx hb dX12_mixSamples_11 rfl hl_74 (by decide) rfl (fun ls_76 hl_76 => ?_)
        obtain ⟨G80, E81, hq5, hf⟩ := bd2_some hf
        have K5 : ∀ (H : Heap) (locs : List Loc) (d : Drawn), s.drawn.sameBut d lw_cs → sInv D (mT cI cJ cD) (mW ad cI cJ cD) A s H locs (G80, E81, Dm5) → ∀ (ls : Array Slot), lv_has ls 3 [(0, .ref (ad 0)), (1, .int x2)] → W p l e R (s.setDrawn d) m args below meth c H locs 0 0 Q (F0 m 35 ls []) := by
          intro H_82 lo_82 dr_84 hd_84 I_82 ls_83 hl_83
          refine lv_aload_n hx hb dX12_mixSamples_35 rfl (lv_at hl_83 0 rfl) ?_
          refine lv_bipush (v := (8 : Int32)) hx hb dX12_mixSamples_36 (by decide) ?_
          obtain ⟨G85, Dd86, h87, hf⟩ := bd2_some hf
          refine d_callVv (As := [.int (8 : Int32)]) (rest := []) F hd_84 I_82 ⟨rfl, rfl, ha5⟩ (cM_layStrengths G80 E81 Dd5 (8 : Int32) G85 Dd86 h87) kX12_364 ⟨rfl, rfl⟩ ⟨Nat.le_trans (Nat.le_of_ble_eq_true rfl) hRf, Nat.le_trans (Nat.le_of_ble_eq_true rfl) hRl⟩ (0) 12 rfl rfl rfl rfl rfl hl_83.1 (Nat.le_of_ble_eq_true rfl) ⟨Nat.zero_le _, Nat.zero_le _⟩ dX12_mixSamples_38 ?_
          intro H_88 lo_88 dr_89 sg89 hd_89 I_88 hs89
          obtain ⟨_, _, Dm89⟩ := sg89
          obtain ⟨rfl, rfl, ha89⟩ := mSm_dest hs89
          refine lv_aload_n hx hb dX12_mixSamples_41 rfl (lv_at hl_83 0 rfl) ?_
          refine lv_aload_n hx hb dX12_mixSamples_42 rfl (lv_at hl_83 0 rfl) ?_
          refine mgtX12_72_0 (Fdr F) (Idr I_88) dX12_mixSamples_43 ?_
          refine lv_iload_n hx hb dX12_mixSamples_46 rfl (lv_at hl_83 1 rfl) ?_
          obtain ⟨g90, hf⟩ := ri_some hf
          refine mal20 (Fdr F) (Idr I_88) g90 dX12_mixSamples_47 ?_
          refine lv_ldc2d (v := (4696837146684686336 : UInt64)) hx hb hown (dr_words hG _ _ q1727) dX12_mixSamples_48 ?_
          refine lv_dmul_any hd_89 lw_bits hx hb dX12_mixSamples_51 (fun u91 dr_92 alu91 hd_92 => ?_)
          have hu91 := al_dmul alu91 (ha89 35 _) (al_rf _)
          refine lv_d2l hx hb dX12_mixSamples_52 ?_
          rw [al_d2l hu91]
          obtain ⟨E93, h94⟩ : ∃ z, z = M_mix E81 (FP.d2l (FP.dmul (Dd86 35 x2.toNatClampNeg) (4696837146684686336 : UInt64))) := ⟨_, rfl⟩
          replace hf := nm_some h94 hf
          refine s_callVv (As := [.long (FP.d2l (FP.dmul (Dd86 35 x2.toNatClampNeg) (4696837146684686336 : UInt64)))]) (rest := []) (Fdr F) (Idr I_88) (cM_mix G85 E81 Dm89 (FP.d2l (FP.dmul (Dd86 35 x2.toNatClampNeg) (4696837146684686336 : UInt64))) E93 h94) kX12_375 ⟨rfl, rfl⟩ ⟨Nat.le_trans (Nat.le_of_ble_eq_true rfl) hRf, Nat.le_trans (Nat.le_of_ble_eq_true rfl) hRl⟩ (0) 12 rfl rfl rfl rfl rfl hl_83.1 (Nat.le_of_ble_eq_true rfl) ⟨Nat.zero_le _, Nat.zero_le _⟩ dX12_mixSamples_53 ?_
          intro H_95 lo_95 I_95
          replace I_95 := Irr I_95
          obtain ⟨x96, ex96⟩ : ∃ y : Int32, y = x2 + (1 : Int32) := ⟨_, rfl⟩
          replace hf := nm_some ex96 hf
          refine lv_iinc (v := x96) (lv' := [(1, .int x96), (0, .ref (ad 0))]) hx hb dX12_mixSamples_56 hl_83 (k := 1) rfl (by rw [ex96]; rfl) (by decide) rfl (fun ls_97 hl_97 => ?_)
          refine lv_goto (tgt := 2) hx hb dX12_mixSamples_59 (by decide) ?_
          cases hf
          exact ih1 _ _ _ _ hK1 H_95 lo_95 dr_92 Dm89 hd_92 ha89 I_95 ls_97 (lv_sub hl_97 [1, 0] rfl)
        have L5 : ∀ (n : Nat) (x77 : Int32) (G78 : Nat → Nat → Int32) (E79 : Nat → Nat → Int64), lp (fun q => M_mixSamples_s5 x2 q.1 q.2.1 q.2.2) n (x77, G78, E79) = some (G80, E81) → ∀ (H : Heap) (locs : List Loc) (d : Drawn), s.drawn.sameBut d lw_cs → sInv D (mT cI cJ cD) (mW ad cI cJ cD) A s H locs (G78, E79, Dm5) → ∀ (ls : Array Slot), lv_has ls 3 [(0, .ref (ad 0)), (1, .int x2), (2, .int x77)] → W p l e R (s.setDrawn d) m args below meth c H locs 0 0 Q (F0 m 12 ls []) := by
          intro n
          induction n with
          | zero => intro x77 G78 E79 hq; exact (lp_0 hq).elim
          | succ n ih5 =>
            intro x77 G78 E79 hq H_98 lo_98 dr_100 hd_100 I_98 ls_99 hl_99
            obtain ⟨y5, hf, hK5⟩ := lp_go hq
            replace hf : M_mixSamples_s5 x2 x77 G78 E79 = some y5 := hf
            unfold M_mixSamples_s5 at hf
            refine lv_iload_n hx hb dX12_mixSamples_12 rfl (lv_at hl_99 2 rfl) ?_
            refine lv_bipush (v := (6 : Int32)) hx hb dX12_mixSamples_13 (by decide) ?_
            refine lv_icmp_ge (tgt := 35) hx hb dX12_mixSamples_15 (by decide) (fun c110 => ?_) (fun c110 => ?_)
            · replace hf := (if_pos c110).symm.trans hf
              cases hf
              cases (show (G78, E79) = (G80, E81) from hK5)
              exact K5 H_98 lo_98 dr_100 hd_100 I_98 ls_99 (lv_sub hl_99 [0, 1] rfl)
            · replace hf := (if_neg c110).symm.trans hf
              refine lv_aload_n hx hb dX12_mixSamples_18 rfl (lv_at hl_99 0 rfl) ?_
              refine lv_aload_n hx hb dX12_mixSamples_19 rfl (lv_at hl_99 0 rfl) ?_
              refine lv_iload_n hx hb dX12_mixSamples_20 rfl (lv_at hl_99 1 rfl) ?_
              refine lv_iload_n hx hb dX12_mixSamples_21 rfl (lv_at hl_99 2 rfl) ?_
              obtain ⟨r101, G102, h103, hf⟩ := bd2_some hf
              refine s_callVi (As := [.int x2, .int x77]) (rest := [.ref (ad 0)]) (Fdr F) (Idr I_98) (cM_sampleNow G78 E79 Dm5 x2 x77 r101 G102 h103) kX12_290 ⟨rfl, rfl⟩ ⟨Nat.le_trans (Nat.le_of_ble_eq_true rfl) hRf, Nat.le_trans (Nat.le_of_ble_eq_true rfl) hRl⟩ (0) 12 rfl rfl rfl rfl rfl hl_99.1 (Nat.le_of_ble_eq_true rfl) ⟨Nat.zero_le _, Nat.zero_le _⟩ dX12_mixSamples_22 ?_
              intro H_104 lo_104 I_104
              replace I_104 := Irr I_104
              refine lv_i2l hx hb dX12_mixSamples_25 rfl ?_
              obtain ⟨E105, h106⟩ : ∃ z, z = M_mix E79 r101.toInt64 := ⟨_, rfl⟩
              replace hf := nm_some h106 hf
              refine s_callVv (As := [.long (r101.toInt64)]) (rest := []) (Fdr F) (Idr I_104) (cM_mix G102 E79 Dm5 r101.toInt64 E105 h106) kX12_375 ⟨rfl, rfl⟩ ⟨Nat.le_trans (Nat.le_of_ble_eq_true rfl) hRf, Nat.le_trans (Nat.le_of_ble_eq_true rfl) hRl⟩ (0) 12 rfl rfl rfl rfl rfl hl_99.1 (Nat.le_of_ble_eq_true rfl) ⟨Nat.zero_le _, Nat.zero_le _⟩ dX12_mixSamples_26 ?_
              intro H_107 lo_107 I_107
              replace I_107 := Irr I_107
              obtain ⟨x108, ex108⟩ : ∃ y : Int32, y = x77 + (1 : Int32) := ⟨_, rfl⟩
              replace hf := nm_some ex108 hf
              refine lv_iinc (v := x108) (lv' := [(2, .int x108), (0, .ref (ad 0)), (1, .int x2)]) hx hb dX12_mixSamples_29 hl_99 (k := 2) rfl (by rw [ex108]; rfl) (by decide) rfl (fun ls_109 hl_109 => ?_)
              refine lv_goto (tgt := 12) hx hb dX12_mixSamples_32 (by decide) ?_
              cases hf
              exact ih5 _ _ _ hK5 H_107 lo_107 dr_100 hd_100 I_107 ls_109 (lv_sub hl_109 [1, 2, 0] rfl)
        exact L5 FU _ _ _ hq5 H_73 lo_73 dr_75 hd_75 I_73 ls_76 (lv_sub hl_76 [1, 2, 0] rfl)
  exact L1 FU _ _ _ _ hq1 H lo dr Dm hd ha I ls_1 (lv_sub hl_1 [1, 0] rfl)
def M_digest_s5 (G46 : Nat → Nat → Int32) (x57 : Int32) (E58 : Nat → Nat → Int64) : Option ((Int32 × (Nat → Nat → Int64)) ⊕ ((Nat → Nat → Int64))) :=
if G46 20 0 ≤ x57 then
(some (.inr E58))
else
(ri 60 x57 <|
nm (M_mix E58 ((G46 21 x57.toNatClampNeg).toInt64)) fun E67 =>
nm (x57 + (1 : Int32) : Int32) fun x70 =>
some (.inl (x70, E67)))
def M_digest_s4 (G1 : Nat → Nat → Int32) (x27 : Int32) (E28 : Nat → Nat → Int64) : Option ((Int32 × (Nat → Nat → Int64)) ⊕ ((Nat → Nat → Int64))) :=
if G1 10 0 ≤ x27 then
(some (.inr E28))
else
(ri 56 x27 <|
nm (M_mix E28 (((G1 12 x27.toNatClampNeg) / (10 : Int32)).toInt64)) fun E77 =>
ri 56 x27 <|
nm (M_mix E77 (((G1 12 x27.toNatClampNeg) - (G1 12 x27.toNatClampNeg) / (10 : Int32) * (10 : Int32)).toInt64)) fun E81 =>
nm (x27 + (1 : Int32) : Int32) fun x84 =>
some (.inl (x84, E81)))
def M_digest_s3 (G1 : Nat → Nat → Int32) (x20 : Int32) (E21 : Nat → Nat → Int64) : Option ((Int32 × (Nat → Nat → Int64)) ⊕ ((Nat → Nat → Int64))) :=
if (4 : Int32) * (G1 4 0) ≤ x20 then
(some (.inr E21))
else
(bd (M_property G1 (x20 / (4 : Int32)) (x20 - x20 / (4 : Int32) * (4 : Int32))) fun r90 =>
nm (M_mix E21 r90.toInt64) fun E93 =>
nm (x20 + (1 : Int32) : Int32) fun x96 =>
some (.inl (x96, E93)))
def M_digest_s2 (G1 : Nat → Nat → Int32) (x13 : Int32) (E14 : Nat → Nat → Int64) : Option ((Int32 × (Nat → Nat → Int64)) ⊕ ((Nat → Nat → Int64))) :=
if G1 2 0 ≤ x13 then
(some (.inr E14))
else
(ri 8 x13 <|
nm (M_mix E14 ((G1 3 x13.toNatClampNeg).toInt64)) fun E103 =>
bd (M_ringsOf G1 x13) fun r106 =>
nm (M_mix E103 r106.toInt64) fun E109 =>
nm (x13 + (1 : Int32) : Int32) fun x112 =>
some (.inl (x112, E109)))
def M_digest_s1 (G1 : Nat → Nat → Int32) (x6 : Int32) (E7 : Nat → Nat → Int64) : Option ((Int32 × (Nat → Nat → Int64)) ⊕ ((Nat → Nat → Int64))) :=
if (8 : Int32) ≤ x6 then
(some (.inr E7))
else
(bd (M_counted G1 x6) fun r118 =>
nm (M_mix E7 r118.toInt64) fun E121 =>
nm (x6 + (1 : Int32) : Int32) fun x124 =>
some (.inl (x124, E121)))
def M_digest (G : Nat → Nat → Int32) (E : Nat → Nat → Int64) (Dd : Nat → Nat → UInt64) : Option (Int64 × (Nat → Nat → Int32) × (Nat → Nat → Int64) × (Nat → Nat → UInt64)) :=
nm (wf G 0 (0 : Int32)) fun G1 =>
nm (wf E 39 (1889 : Int64)) fun E3 =>
bd (lp (fun q => M_digest_s1 G1 q.1 q.2) FU ((0 : Int32), E3)) fun E8 =>
bd (lp (fun q => M_digest_s2 G1 q.1 q.2) FU ((0 : Int32), E8)) fun E15 =>
bd (lp (fun q => M_digest_s3 G1 q.1 q.2) FU ((0 : Int32), E15)) fun E22 =>
bd (lp (fun q => M_digest_s4 G1 q.1 q.2) FU ((0 : Int32), E22)) fun E29 =>
bd3 (M_mixSamples G1 E29 Dd) fun G33 E34 Dd35 =>
bd (M_placeNow G33) fun r39 =>
nm (M_mix E34 r39) fun E42 =>
bd3 (M_provedMany G33 E42 (50 : Int32)) fun r45 G46 E47 =>
nm (M_mix E47 r45.toInt64) fun E50 =>
nm (M_mix E50 ((G46 20 0).toInt64)) fun E53 =>
bd (lp (fun q => M_digest_s5 G46 q.1 q.2) FU ((0 : Int32), E53)) fun E59 =>
some (E59 39 0, G46, E59, Dd35)
set_option maxRecDepth 100000 in
set_option maxHeartbeats 4000000 in
theorem cM_digest (G : Nat → Nat → Int32) (E : Nat → Nat → Int64) (Dd : Nat → Nat → UInt64)  (rv : Int64) (newG : Nat → Nat → Int32) (newE : Nat → Nat → Int64) (newDd : Nat → Nat → UInt64) (hf : M_digest G E Dd = some (rv, newG, newE, newDd)) : sDl D (mT cI cJ cD) (mW ad cI cJ cD) mSm l yX12_digest (ws1 yX12_digest cX12_digest 2 (some .long)) ({ frames := 8, cells := 0, slots := 0, locals := 188 }) [.ref (ad 0)] (G, E, Dd) (rv, (newG, newE, newDd)) := by
  unfold M_digest at hf
  refine sDl_of (by decide) (Nat.le_of_ble_eq_true rfl) ?_
  intro p e R s m args below meth c A Q ls H lo dr sgm F hRf hRl hd hsm I hl ret
  obtain ⟨_, _, Dm⟩ := sgm
  obtain ⟨rfl, rfl, ha⟩ := mSm_dest hsm
  obtain ⟨hx, hb, hml, hown, hG⟩ := id F
  replace hl : lv_has ls 2 [(0, .ref (ad 0))] := hl
  refine lv_aload_n hx hb dX12_digest_0 rfl (lv_at hl 0 rfl) ?_
  refine lv_iconst (v := (0 : Int32)) hx hb dX12_digest_1 (by decide) ?_
  refine mptX12_89_0 (Fdr F) (Idr I) dX12_digest_2 ?_
  intro H_2 lo_2 G1 eG1 I_2
  replace I_2 := Irr I_2
  replace hf := nm_some eG1 hf
  refine lv_aload_n hx hb dX12_digest_5 rfl (lv_at hl 0 rfl) ?_
  refine lv_ldc2 (v := (1889 : Int64)) hx hb hown (dr_words hG _ _ q1717) dX12_digest_6 ?_
  refine mptX12_372_0 (Fdr F) (Idr I_2) dX12_digest_9 ?_
  intro H_4 lo_4 E3 eE3 I_4
  replace I_4 := Irr I_4
  replace hf := nm_some eE3 hf
  refine lv_iconst (v := (0 : Int32)) hx hb dX12_digest_12 (by decide) ?_
  refine lv_istore_n (lv' := [(1, .int (0 : Int32)), (0, .ref (ad 0))]) hx hb dX12_digest_13 rfl hl (by decide) rfl (fun ls_5 hl_5 => ?_)
  obtain ⟨E8, hq1, hf⟩ := bd_some hf
  have K1 : ∀ (H : Heap) (locs : List Loc) (d : Drawn), s.drawn.sameBut d lw_cs → sInv D (mT cI cJ cD) (mW ad cI cJ cD) A s H locs (G1, E8, Dm) → ∀ (ls : Array Slot), lv_has ls 2 [(0, .ref (ad 0))] → W p l e R (s.setDrawn d) m args below meth c H locs 0 0 Q (F0 m 36 ls []) := by
    intro H_9 lo_9 dr_11 hd_11 I_9 ls_10 hl_10
    refine lv_iconst (v := (0 : Int32)) hx hb dX12_digest_36 (by decide) ?_
    refine lv_istore_n (lv' := [(1, .int (0 : Int32)), (0, .ref (ad 0))]) hx hb dX12_digest_37 rfl hl_10 (by decide) rfl (fun ls_12 hl_12 => ?_)
    obtain ⟨E15, hq2, hf⟩ := bd_some hf
    have K2 : ∀ (H : Heap) (locs : List Loc) (d : Drawn), s.drawn.sameBut d lw_cs → sInv D (mT cI cJ cD) (mW ad cI cJ cD) A s H locs (G1, E15, Dm) → ∀ (ls : Array Slot), lv_has ls 2 [(0, .ref (ad 0))] → W p l e R (s.setDrawn d) m args below meth c H locs 0 0 Q (F0 m 73 ls []) := by
      intro H_16 lo_16 dr_18 hd_18 I_16 ls_17 hl_17
      refine lv_iconst (v := (0 : Int32)) hx hb dX12_digest_73 (by decide) ?_
      refine lv_istore_n (lv' := [(1, .int (0 : Int32)), (0, .ref (ad 0))]) hx hb dX12_digest_74 rfl hl_17 (by decide) rfl (fun ls_19 hl_19 => ?_)
      obtain ⟨E22, hq3, hf⟩ := bd_some hf
      have K3 : ∀ (H : Heap) (locs : List Loc) (d : Drawn), s.drawn.sameBut d lw_cs → sInv D (mT cI cJ cD) (mW ad cI cJ cD) A s H locs (G1, E22, Dm) → ∀ (ls : Array Slot), lv_has ls 2 [(0, .ref (ad 0))] → W p l e R (s.setDrawn d) m args below meth c H locs 0 0 Q (F0 m 106 ls []) := by
        intro H_23 lo_23 dr_25 hd_25 I_23 ls_24 hl_24
        refine lv_iconst (v := (0 : Int32)) hx hb dX12_digest_106 (by decide) ?_
        refine lv_istore_n (lv' := [(1, .int (0 : Int32)), (0, .ref (ad 0))]) hx hb dX12_digest_107 rfl hl_24 (by decide) rfl (fun ls_26 hl_26 => ?_)
        obtain ⟨E29, hq4, hf⟩ := bd_some hf
        have K4 : ∀ (H : Heap) (locs : List Loc) (d : Drawn), s.drawn.sameBut d lw_cs → sInv D (mT cI cJ cD) (mW ad cI cJ cD) A s H locs (G1, E29, Dm) → ∀ (ls : Array Slot), lv_has ls 2 [(0, .ref (ad 0))] → W p l e R (s.setDrawn d) m args below meth c H locs 0 0 Q (F0 m 150 ls []) := by
          intro H_30 lo_30 dr_32 hd_32 I_30 ls_31 hl_31
          refine lv_aload_n hx hb dX12_digest_150 rfl (lv_at hl_31 0 rfl) ?_
          obtain ⟨G33, E34, Dd35, h36, hf⟩ := bd3_some hf
          refine d_callVv (As := []) (rest := []) F hd_32 I_30 ⟨rfl, rfl, ha⟩ (cM_mixSamples G1 E29 Dd G33 E34 Dd35 h36) kX12_383 ⟨rfl, rfl⟩ ⟨Nat.le_trans (Nat.le_of_ble_eq_true rfl) hRf, Nat.le_trans (Nat.le_of_ble_eq_true rfl) hRl⟩ (0) 12 rfl rfl rfl rfl rfl hl_31.1 (Nat.le_of_ble_eq_true rfl) ⟨Nat.zero_le _, Nat.zero_le _⟩ dX12_digest_151 ?_
          intro H_37 lo_37 dr_38 sg38 hd_38 I_37 hs38
          obtain ⟨_, _, Dm38⟩ := sg38
          obtain ⟨rfl, rfl, ha38⟩ := mSm_dest hs38
          refine lv_aload_n hx hb dX12_digest_154 rfl (lv_at hl_31 0 rfl) ?_
          refine lv_aload_n hx hb dX12_digest_155 rfl (lv_at hl_31 0 rfl) ?_
          obtain ⟨r39, h40, hf⟩ := bd_some hf
          refine s_callVl (As := []) (rest := [.ref (ad 0)]) (Fdr F) (Idr I_37) (cM_placeNow G33 E34 Dm38 r39 h40) kX12_330 ⟨rfl, rfl⟩ ⟨Nat.le_trans (Nat.le_of_ble_eq_true rfl) hRf, Nat.le_trans (Nat.le_of_ble_eq_true rfl) hRl⟩ (0) 12 rfl rfl rfl rfl rfl hl_31.1 (Nat.le_of_ble_eq_true rfl) ⟨Nat.zero_le _, Nat.zero_le _⟩ dX12_digest_156 ?_
          intro H_41 lo_41 I_41
          replace I_41 := Irr I_41
          obtain ⟨E42, h43⟩ : ∃ z, z = M_mix E34 r39 := ⟨_, rfl⟩
          replace hf := nm_some h43 hf
          refine s_callVv (As := [.long r39]) (rest := []) (Fdr F) (Idr I_41) (cM_mix G33 E34 Dm38 r39 E42 h43) kX12_375 ⟨rfl, rfl⟩ ⟨Nat.le_trans (Nat.le_of_ble_eq_true rfl) hRf, Nat.le_trans (Nat.le_of_ble_eq_true rfl) hRl⟩ (0) 12 rfl rfl rfl rfl rfl hl_31.1 (Nat.le_of_ble_eq_true rfl) ⟨Nat.zero_le _, Nat.zero_le _⟩ dX12_digest_159 ?_
          intro H_44 lo_44 I_44
          replace I_44 := Irr I_44
          refine lv_aload_n hx hb dX12_digest_162 rfl (lv_at hl_31 0 rfl) ?_
          refine lv_aload_n hx hb dX12_digest_163 rfl (lv_at hl_31 0 rfl) ?_
          refine lv_bipush (v := (50 : Int32)) hx hb dX12_digest_164 (by decide) ?_
          obtain ⟨r45, G46, E47, h48, hf⟩ := bd3_some hf
          refine s_callVi (As := [.int (50 : Int32)]) (rest := [.ref (ad 0)]) (Fdr F) (Idr I_44) (cM_provedMany G33 E42 Dm38 (50 : Int32) r45 G46 E47 h48) kX12_346 ⟨rfl, rfl⟩ ⟨Nat.le_trans (Nat.le_of_ble_eq_true rfl) hRf, Nat.le_trans (Nat.le_of_ble_eq_true rfl) hRl⟩ (0) 12 rfl rfl rfl rfl rfl hl_31.1 (Nat.le_of_ble_eq_true rfl) ⟨Nat.zero_le _, Nat.zero_le _⟩ dX12_digest_166 ?_
          intro H_49 lo_49 I_49
          replace I_49 := Irr I_49
          refine lv_i2l hx hb dX12_digest_169 rfl ?_
          obtain ⟨E50, h51⟩ : ∃ z, z = M_mix E47 r45.toInt64 := ⟨_, rfl⟩
          replace hf := nm_some h51 hf
          refine s_callVv (As := [.long (r45.toInt64)]) (rest := []) (Fdr F) (Idr I_49) (cM_mix G46 E47 Dm38 r45.toInt64 E50 h51) kX12_375 ⟨rfl, rfl⟩ ⟨Nat.le_trans (Nat.le_of_ble_eq_true rfl) hRf, Nat.le_trans (Nat.le_of_ble_eq_true rfl) hRl⟩ (0) 12 rfl rfl rfl rfl rfl hl_31.1 (Nat.le_of_ble_eq_true rfl) ⟨Nat.zero_le _, Nat.zero_le _⟩ dX12_digest_170 ?_
          intro H_52 lo_52 I_52
          replace I_52 := Irr I_52
          refine lv_aload_n hx hb dX12_digest_173 rfl (lv_at hl_31 0 rfl) ?_
          refine lv_aload_n hx hb dX12_digest_174 rfl (lv_at hl_31 0 rfl) ?_
          refine mgtX12_160_0 (Fdr F) (Idr I_52) dX12_digest_175 ?_
          refine lv_i2l hx hb dX12_digest_178 rfl ?_
          obtain ⟨E53, h54⟩ : ∃ z, z = M_mix E50 ((G46 20 0).toInt64) := ⟨_, rfl⟩
          replace hf := nm_some h54 hf
          refine s_callVv (As := [.long ((G46 20 0).toInt64)]) (rest := []) (Fdr F) (Idr I_52) (cM_mix G46 E50 Dm38 ((G46 20 0).toInt64) E53 h54) kX12_375 ⟨rfl, rfl⟩ ⟨Nat.le_trans (Nat.le_of_ble_eq_true rfl) hRf, Nat.le_trans (Nat.le_of_ble_eq_true rfl) hRl⟩ (0) 12 rfl rfl rfl rfl rfl hl_31.1 (Nat.le_of_ble_eq_true rfl) ⟨Nat.zero_le _, Nat.zero_le _⟩ dX12_digest_179 ?_
          intro H_55 lo_55 I_55
          replace I_55 := Irr I_55
          refine lv_iconst (v := (0 : Int32)) hx hb dX12_digest_182 (by decide) ?_
          refine lv_istore_n (lv' := [(1, .int (0 : Int32)), (0, .ref (ad 0))]) hx hb dX12_digest_183 rfl hl_31 (by decide) rfl (fun ls_56 hl_56 => ?_)
          obtain ⟨E59, hq5, hf⟩ := bd_some hf
          have K5 : ∀ (H : Heap) (locs : List Loc) (d : Drawn), s.drawn.sameBut d lw_cs → sInv D (mT cI cJ cD) (mW ad cI cJ cD) A s H locs (G46, E59, Dm38) → ∀ (ls : Array Slot), lv_has ls 2 [(0, .ref (ad 0))] → W p l e R (s.setDrawn d) m args below meth c H locs 0 0 Q (F0 m 209 ls []) := by
            intro H_60 lo_60 dr_62 hd_62 I_60 ls_61 hl_61
            refine lv_aload_n hx hb dX12_digest_209 rfl (lv_at hl_61 0 rfl) ?_
            refine mgtX12_372_0 (Fdr F) (Idr I_60) dX12_digest_210 ?_
            cases hf
            exact ret H_60 lo_60 _ ls_61 dr_62 _ hd_62 I_60 ⟨rfl, rfl, ha38⟩ dX12_digest_213
          have L5 : ∀ (n : Nat) (x57 : Int32) (E58 : Nat → Nat → Int64), lp (fun q => M_digest_s5 G46 q.1 q.2) n (x57, E58) = some E59 → ∀ (H : Heap) (locs : List Loc) (d : Drawn), s.drawn.sameBut d lw_cs → sInv D (mT cI cJ cD) (mW ad cI cJ cD) A s H locs (G46, E58, Dm38) → ∀ (ls : Array Slot), lv_has ls 2 [(0, .ref (ad 0)), (1, .int x57)] → W p l e R (s.setDrawn d) m args below meth c H locs 0 0 Q (F0 m 184 ls []) := by
            intro n
            induction n with
            | zero => intro x57 E58 hq; exact (lp_0 hq).elim
            | succ n ih5 =>
              intro x57 E58 hq H_63 lo_63 dr_65 hd_65 I_63 ls_64 hl_64
              obtain ⟨y5, hf, hK5⟩ := lp_go hq
              replace hf : M_digest_s5 G46 x57 E58 = some y5 := hf
              unfold M_digest_s5 at hf
              refine lv_iload_n hx hb dX12_digest_184 rfl (lv_at hl_64 1 rfl) ?_
              refine lv_aload_n hx hb dX12_digest_185 rfl (lv_at hl_64 0 rfl) ?_
              refine mgtX12_160_0 (Fdr F) (Idr I_63) dX12_digest_186 ?_
              refine lv_icmp_ge (tgt := 209) hx hb dX12_digest_189 (by decide) (fun c72 => ?_) (fun c72 => ?_)
              · replace hf := (if_pos c72).symm.trans hf
                cases hf
                cases (show E58 = E59 from hK5)
                exact K5 H_63 lo_63 dr_65 hd_65 I_63 ls_64 (lv_sub hl_64 [0] rfl)
              · replace hf := (if_neg c72).symm.trans hf
                refine lv_aload_n hx hb dX12_digest_192 rfl (lv_at hl_64 0 rfl) ?_
                refine lv_aload_n hx hb dX12_digest_193 rfl (lv_at hl_64 0 rfl) ?_
                refine mgtX12_50_0 (Fdr F) (Idr I_63) dX12_digest_194 ?_
                refine lv_iload_n hx hb dX12_digest_197 rfl (lv_at hl_64 1 rfl) ?_
                obtain ⟨g66, hf⟩ := ri_some hf
                refine mal13 (Fdr F) (Idr I_63) g66 dX12_digest_198 ?_
                refine lv_i2l hx hb dX12_digest_199 rfl ?_
                obtain ⟨E67, h68⟩ : ∃ z, z = M_mix E58 ((G46 21 x57.toNatClampNeg).toInt64) := ⟨_, rfl⟩
                replace hf := nm_some h68 hf
                refine s_callVv (As := [.long ((G46 21 x57.toNatClampNeg).toInt64)]) (rest := []) (Fdr F) (Idr I_63) (cM_mix G46 E58 Dm38 ((G46 21 x57.toNatClampNeg).toInt64) E67 h68) kX12_375 ⟨rfl, rfl⟩ ⟨Nat.le_trans (Nat.le_of_ble_eq_true rfl) hRf, Nat.le_trans (Nat.le_of_ble_eq_true rfl) hRl⟩ (0) 12 rfl rfl rfl rfl rfl hl_64.1 (Nat.le_of_ble_eq_true rfl) ⟨Nat.zero_le _, Nat.zero_le _⟩ dX12_digest_200 ?_
                intro H_69 lo_69 I_69
                replace I_69 := Irr I_69
                obtain ⟨x70, ex70⟩ : ∃ y : Int32, y = x57 + (1 : Int32) := ⟨_, rfl⟩
                replace hf := nm_some ex70 hf
                refine lv_iinc (v := x70) (lv' := [(1, .int x70), (0, .ref (ad 0))]) hx hb dX12_digest_203 hl_64 (k := 1) rfl (by rw [ex70]; rfl) (by decide) rfl (fun ls_71 hl_71 => ?_)
                refine lv_goto (tgt := 184) hx hb dX12_digest_206 (by decide) ?_
                cases hf
                exact ih5 _ _ hK5 H_69 lo_69 dr_65 hd_65 I_69 ls_71 (lv_sub hl_71 [1, 0] rfl)
          exact L5 FU _ _ hq5 H_55 lo_55 dr_38 hd_38 I_55 ls_56 (lv_sub hl_56 [1, 0] rfl)
        have L4 : ∀ (n : Nat) (x27 : Int32) (E28 : Nat → Nat → Int64), lp (fun q => M_digest_s4 G1 q.1 q.2) n (x27, E28) = some E29 → ∀ (H : Heap) (locs : List Loc) (d : Drawn), s.drawn.sameBut d lw_cs → sInv D (mT cI cJ cD) (mW ad cI cJ cD) A s H locs (G1, E28, Dm) → ∀ (ls : Array Slot), lv_has ls 2 [(0, .ref (ad 0)), (1, .int x27)] → W p l e R (s.setDrawn d) m args below meth c H locs 0 0 Q (F0 m 108 ls []) := by
          intro n
          induction n with
          | zero => intro x27 E28 hq; exact (lp_0 hq).elim
          | succ n ih4 =>
            intro x27 E28 hq H_73 lo_73 dr_75 hd_75 I_73 ls_74 hl_74
            obtain ⟨y4, hf, hK4⟩ := lp_go hq
            replace hf : M_digest_s4 G1 x27 E28 = some y4 := hf
            unfold M_digest_s4 at hf
            refine lv_iload_n hx hb dX12_digest_108 rfl (lv_at hl_74 1 rfl) ?_
            refine lv_aload_n hx hb dX12_digest_109 rfl (lv_at hl_74 0 rfl) ?_
            refine mgtX12_105_0 (Fdr F) (Idr I_73) dX12_digest_110 ?_
            refine lv_icmp_ge (tgt := 150) hx hb dX12_digest_113 (by decide) (fun c86 => ?_) (fun c86 => ?_)
            · replace hf := (if_pos c86).symm.trans hf
              cases hf
              cases (show E28 = E29 from hK4)
              exact K4 H_73 lo_73 dr_75 hd_75 I_73 ls_74 (lv_sub hl_74 [0] rfl)
            · replace hf := (if_neg c86).symm.trans hf
              refine lv_aload_n hx hb dX12_digest_116 rfl (lv_at hl_74 0 rfl) ?_
              refine lv_aload_n hx hb dX12_digest_117 rfl (lv_at hl_74 0 rfl) ?_
              refine mgtX12_29_0 (Fdr F) (Idr I_73) dX12_digest_118 ?_
              refine lv_iload_n hx hb dX12_digest_121 rfl (lv_at hl_74 1 rfl) ?_
              obtain ⟨g76, hf⟩ := ri_some hf
              refine mal6 (Fdr F) (Idr I_73) g76 dX12_digest_122 ?_
              refine lv_bipush (v := (10 : Int32)) hx hb dX12_digest_123 (by decide) ?_
              refine lv_idiv hx hb dX12_digest_125 (by decide) ?_
              refine lv_i2l hx hb dX12_digest_126 rfl ?_
              obtain ⟨E77, h78⟩ : ∃ z, z = M_mix E28 (((G1 12 x27.toNatClampNeg) / (10 : Int32)).toInt64) := ⟨_, rfl⟩
              replace hf := nm_some h78 hf
              refine s_callVv (As := [.long (((G1 12 x27.toNatClampNeg) / (10 : Int32)).toInt64)]) (rest := []) (Fdr F) (Idr I_73) (cM_mix G1 E28 Dm (((G1 12 x27.toNatClampNeg) / (10 : Int32)).toInt64) E77 h78) kX12_375 ⟨rfl, rfl⟩ ⟨Nat.le_trans (Nat.le_of_ble_eq_true rfl) hRf, Nat.le_trans (Nat.le_of_ble_eq_true rfl) hRl⟩ (0) 12 rfl rfl rfl rfl rfl hl_74.1 (Nat.le_of_ble_eq_true rfl) ⟨Nat.zero_le _, Nat.zero_le _⟩ dX12_digest_127 ?_
              intro H_79 lo_79 I_79
              replace I_79 := Irr I_79
              refine lv_aload_n hx hb dX12_digest_130 rfl (lv_at hl_74 0 rfl) ?_
              refine lv_aload_n hx hb dX12_digest_131 rfl (lv_at hl_74 0 rfl) ?_
              refine mgtX12_29_0 (Fdr F) (Idr I_79) dX12_digest_132 ?_
              refine lv_iload_n hx hb dX12_digest_135 rfl (lv_at hl_74 1 rfl) ?_
              obtain ⟨g80, hf⟩ := ri_some hf
              refine mal6 (Fdr F) (Idr I_79) g80 dX12_digest_136 ?_
              refine lv_bipush (v := (10 : Int32)) hx hb dX12_digest_137 (by decide) ?_
              refine lv_irem hx hb dX12_digest_139 (by decide) ?_
              refine lv_i2l hx hb dX12_digest_140 rfl ?_
              obtain ⟨E81, h82⟩ : ∃ z, z = M_mix E77 (((G1 12 x27.toNatClampNeg) - (G1 12 x27.toNatClampNeg) / (10 : Int32) * (10 : Int32)).toInt64) := ⟨_, rfl⟩
              replace hf := nm_some h82 hf
              refine s_callVv (As := [.long (((G1 12 x27.toNatClampNeg) - (G1 12 x27.toNatClampNeg) / (10 : Int32) * (10 : Int32)).toInt64)]) (rest := []) (Fdr F) (Idr I_79) (cM_mix G1 E77 Dm (((G1 12 x27.toNatClampNeg) - (G1 12 x27.toNatClampNeg) / (10 : Int32) * (10 : Int32)).toInt64) E81 h82) kX12_375 ⟨rfl, rfl⟩ ⟨Nat.le_trans (Nat.le_of_ble_eq_true rfl) hRf, Nat.le_trans (Nat.le_of_ble_eq_true rfl) hRl⟩ (0) 12 rfl rfl rfl rfl rfl hl_74.1 (Nat.le_of_ble_eq_true rfl) ⟨Nat.zero_le _, Nat.zero_le _⟩ dX12_digest_141 ?_
              intro H_83 lo_83 I_83
              replace I_83 := Irr I_83
              obtain ⟨x84, ex84⟩ : ∃ y : Int32, y = x27 + (1 : Int32) := ⟨_, rfl⟩
              replace hf := nm_some ex84 hf
              refine lv_iinc (v := x84) (lv' := [(1, .int x84), (0, .ref (ad 0))]) hx hb dX12_digest_144 hl_74 (k := 1) rfl (by rw [ex84]; rfl) (by decide) rfl (fun ls_85 hl_85 => ?_)
              refine lv_goto (tgt := 108) hx hb dX12_digest_147 (by decide) ?_
              cases hf
              exact ih4 _ _ hK4 H_83 lo_83 dr_75 hd_75 I_83 ls_85 (lv_sub hl_85 [1, 0] rfl)
        exact L4 FU _ _ hq4 H_23 lo_23 dr_25 hd_25 I_23 ls_26 (lv_sub hl_26 [1, 0] rfl)
      have L3 : ∀ (n : Nat) (x20 : Int32) (E21 : Nat → Nat → Int64), lp (fun q => M_digest_s3 G1 q.1 q.2) n (x20, E21) = some E22 → ∀ (H : Heap) (locs : List Loc) (d : Drawn), s.drawn.sameBut d lw_cs → sInv D (mT cI cJ cD) (mW ad cI cJ cD) A s H locs (G1, E21, Dm) → ∀ (ls : Array Slot), lv_has ls 2 [(0, .ref (ad 0)), (1, .int x20)] → W p l e R (s.setDrawn d) m args below meth c H locs 0 0 Q (F0 m 75 ls []) := by
        intro n
        induction n with
        | zero => intro x20 E21 hq; exact (lp_0 hq).elim
        | succ n ih3 =>
          intro x20 E21 hq H_87 lo_87 dr_89 hd_89 I_87 ls_88 hl_88
          obtain ⟨y3, hf, hK3⟩ := lp_go hq
          replace hf : M_digest_s3 G1 x20 E21 = some y3 := hf
          unfold M_digest_s3 at hf
          refine lv_iload_n hx hb dX12_digest_75 rfl (lv_at hl_88 1 rfl) ?_
          refine lv_iconst (v := (4 : Int32)) hx hb dX12_digest_76 (by decide) ?_
          refine lv_aload_n hx hb dX12_digest_77 rfl (lv_at hl_88 0 rfl) ?_
          refine mgtX12_102_0 (Fdr F) (Idr I_87) dX12_digest_78 ?_
          refine lv_imul hx hb dX12_digest_81 ?_
          refine lv_icmp_ge (tgt := 106) hx hb dX12_digest_82 (by decide) (fun c98 => ?_) (fun c98 => ?_)
          · replace hf := (if_pos c98).symm.trans hf
            cases hf
            cases (show E21 = E22 from hK3)
            exact K3 H_87 lo_87 dr_89 hd_89 I_87 ls_88 (lv_sub hl_88 [0] rfl)
          · replace hf := (if_neg c98).symm.trans hf
            refine lv_aload_n hx hb dX12_digest_85 rfl (lv_at hl_88 0 rfl) ?_
            refine lv_aload_n hx hb dX12_digest_86 rfl (lv_at hl_88 0 rfl) ?_
            refine lv_iload_n hx hb dX12_digest_87 rfl (lv_at hl_88 1 rfl) ?_
            refine lv_iconst (v := (4 : Int32)) hx hb dX12_digest_88 (by decide) ?_
            refine lv_idiv hx hb dX12_digest_89 (by decide) ?_
            refine lv_iload_n hx hb dX12_digest_90 rfl (lv_at hl_88 1 rfl) ?_
            refine lv_iconst (v := (4 : Int32)) hx hb dX12_digest_91 (by decide) ?_
            refine lv_irem hx hb dX12_digest_92 (by decide) ?_
            obtain ⟨r90, h91, hf⟩ := bd_some hf
            refine s_callVi (As := [.int (x20 / (4 : Int32)), .int (x20 - x20 / (4 : Int32) * (4 : Int32))]) (rest := [.ref (ad 0)]) (Fdr F) (Idr I_87) (cM_property G1 E21 Dm (x20 / (4 : Int32)) (x20 - x20 / (4 : Int32) * (4 : Int32)) r90 h91) kX12_210 ⟨rfl, rfl⟩ ⟨Nat.le_trans (Nat.le_of_ble_eq_true rfl) hRf, Nat.le_trans (Nat.le_of_ble_eq_true rfl) hRl⟩ (0) 12 rfl rfl rfl rfl rfl hl_88.1 (Nat.le_of_ble_eq_true rfl) ⟨Nat.zero_le _, Nat.zero_le _⟩ dX12_digest_93 ?_
            intro H_92 lo_92 I_92
            replace I_92 := Irr I_92
            refine lv_i2l hx hb dX12_digest_96 rfl ?_
            obtain ⟨E93, h94⟩ : ∃ z, z = M_mix E21 r90.toInt64 := ⟨_, rfl⟩
            replace hf := nm_some h94 hf
            refine s_callVv (As := [.long (r90.toInt64)]) (rest := []) (Fdr F) (Idr I_92) (cM_mix G1 E21 Dm r90.toInt64 E93 h94) kX12_375 ⟨rfl, rfl⟩ ⟨Nat.le_trans (Nat.le_of_ble_eq_true rfl) hRf, Nat.le_trans (Nat.le_of_ble_eq_true rfl) hRl⟩ (0) 12 rfl rfl rfl rfl rfl hl_88.1 (Nat.le_of_ble_eq_true rfl) ⟨Nat.zero_le _, Nat.zero_le _⟩ dX12_digest_97 ?_
            intro H_95 lo_95 I_95
            replace I_95 := Irr I_95
            obtain ⟨x96, ex96⟩ : ∃ y : Int32, y = x20 + (1 : Int32) := ⟨_, rfl⟩
            replace hf := nm_some ex96 hf
            refine lv_iinc (v := x96) (lv' := [(1, .int x96), (0, .ref (ad 0))]) hx hb dX12_digest_100 hl_88 (k := 1) rfl (by rw [ex96]; rfl) (by decide) rfl (fun ls_97 hl_97 => ?_)
            refine lv_goto (tgt := 75) hx hb dX12_digest_103 (by decide) ?_
            cases hf
            exact ih3 _ _ hK3 H_95 lo_95 dr_89 hd_89 I_95 ls_97 (lv_sub hl_97 [1, 0] rfl)
      exact L3 FU _ _ hq3 H_16 lo_16 dr_18 hd_18 I_16 ls_19 (lv_sub hl_19 [1, 0] rfl)
    have L2 : ∀ (n : Nat) (x13 : Int32) (E14 : Nat → Nat → Int64), lp (fun q => M_digest_s2 G1 q.1 q.2) n (x13, E14) = some E15 → ∀ (H : Heap) (locs : List Loc) (d : Drawn), s.drawn.sameBut d lw_cs → sInv D (mT cI cJ cD) (mW ad cI cJ cD) A s H locs (G1, E14, Dm) → ∀ (ls : Array Slot), lv_has ls 2 [(0, .ref (ad 0)), (1, .int x13)] → W p l e R (s.setDrawn d) m args below meth c H locs 0 0 Q (F0 m 38 ls []) := by
      intro n
      induction n with
      | zero => intro x13 E14 hq; exact (lp_0 hq).elim
      | succ n ih2 =>
        intro x13 E14 hq H_99 lo_99 dr_101 hd_101 I_99 ls_100 hl_100
        obtain ⟨y2, hf, hK2⟩ := lp_go hq
        replace hf : M_digest_s2 G1 x13 E14 = some y2 := hf
        unfold M_digest_s2 at hf
        refine lv_iload_n hx hb dX12_digest_38 rfl (lv_at hl_100 1 rfl) ?_
        refine lv_aload_n hx hb dX12_digest_39 rfl (lv_at hl_100 0 rfl) ?_
        refine mgtX12_99_0 (Fdr F) (Idr I_99) dX12_digest_40 ?_
        refine lv_icmp_ge (tgt := 73) hx hb dX12_digest_43 (by decide) (fun c114 => ?_) (fun c114 => ?_)
        · replace hf := (if_pos c114).symm.trans hf
          cases hf
          cases (show E14 = E15 from hK2)
          exact K2 H_99 lo_99 dr_101 hd_101 I_99 ls_100 (lv_sub hl_100 [0] rfl)
        · replace hf := (if_neg c114).symm.trans hf
          refine lv_aload_n hx hb dX12_digest_46 rfl (lv_at hl_100 0 rfl) ?_
          refine lv_aload_n hx hb dX12_digest_47 rfl (lv_at hl_100 0 rfl) ?_
          refine mgtX12_7_0 (Fdr F) (Idr I_99) dX12_digest_48 ?_
          refine lv_iload_n hx hb dX12_digest_51 rfl (lv_at hl_100 1 rfl) ?_
          obtain ⟨g102, hf⟩ := ri_some hf
          refine mal1 (Fdr F) (Idr I_99) g102 dX12_digest_52 ?_
          refine lv_i2l hx hb dX12_digest_53 rfl ?_
          obtain ⟨E103, h104⟩ : ∃ z, z = M_mix E14 ((G1 3 x13.toNatClampNeg).toInt64) := ⟨_, rfl⟩
          replace hf := nm_some h104 hf
          refine s_callVv (As := [.long ((G1 3 x13.toNatClampNeg).toInt64)]) (rest := []) (Fdr F) (Idr I_99) (cM_mix G1 E14 Dm ((G1 3 x13.toNatClampNeg).toInt64) E103 h104) kX12_375 ⟨rfl, rfl⟩ ⟨Nat.le_trans (Nat.le_of_ble_eq_true rfl) hRf, Nat.le_trans (Nat.le_of_ble_eq_true rfl) hRl⟩ (0) 12 rfl rfl rfl rfl rfl hl_100.1 (Nat.le_of_ble_eq_true rfl) ⟨Nat.zero_le _, Nat.zero_le _⟩ dX12_digest_54 ?_
          intro H_105 lo_105 I_105
          replace I_105 := Irr I_105
          refine lv_aload_n hx hb dX12_digest_57 rfl (lv_at hl_100 0 rfl) ?_
          refine lv_aload_n hx hb dX12_digest_58 rfl (lv_at hl_100 0 rfl) ?_
          refine lv_iload_n hx hb dX12_digest_59 rfl (lv_at hl_100 1 rfl) ?_
          obtain ⟨r106, h107, hf⟩ := bd_some hf
          refine s_callVi (As := [.int x13]) (rest := [.ref (ad 0)]) (Fdr F) (Idr I_105) (cM_ringsOf G1 E103 Dm x13 r106 h107) kX12_300 ⟨rfl, rfl⟩ ⟨Nat.le_trans (Nat.le_of_ble_eq_true rfl) hRf, Nat.le_trans (Nat.le_of_ble_eq_true rfl) hRl⟩ (0) 12 rfl rfl rfl rfl rfl hl_100.1 (Nat.le_of_ble_eq_true rfl) ⟨Nat.zero_le _, Nat.zero_le _⟩ dX12_digest_60 ?_
          intro H_108 lo_108 I_108
          replace I_108 := Irr I_108
          refine lv_i2l hx hb dX12_digest_63 rfl ?_
          obtain ⟨E109, h110⟩ : ∃ z, z = M_mix E103 r106.toInt64 := ⟨_, rfl⟩
          replace hf := nm_some h110 hf
          refine s_callVv (As := [.long (r106.toInt64)]) (rest := []) (Fdr F) (Idr I_108) (cM_mix G1 E103 Dm r106.toInt64 E109 h110) kX12_375 ⟨rfl, rfl⟩ ⟨Nat.le_trans (Nat.le_of_ble_eq_true rfl) hRf, Nat.le_trans (Nat.le_of_ble_eq_true rfl) hRl⟩ (0) 12 rfl rfl rfl rfl rfl hl_100.1 (Nat.le_of_ble_eq_true rfl) ⟨Nat.zero_le _, Nat.zero_le _⟩ dX12_digest_64 ?_
          intro H_111 lo_111 I_111
          replace I_111 := Irr I_111
          obtain ⟨x112, ex112⟩ : ∃ y : Int32, y = x13 + (1 : Int32) := ⟨_, rfl⟩
          replace hf := nm_some ex112 hf
          refine lv_iinc (v := x112) (lv' := [(1, .int x112), (0, .ref (ad 0))]) hx hb dX12_digest_67 hl_100 (k := 1) rfl (by rw [ex112]; rfl) (by decide) rfl (fun ls_113 hl_113 => ?_)
          refine lv_goto (tgt := 38) hx hb dX12_digest_70 (by decide) ?_
          cases hf
          exact ih2 _ _ hK2 H_111 lo_111 dr_101 hd_101 I_111 ls_113 (lv_sub hl_113 [1, 0] rfl)
    exact L2 FU _ _ hq2 H_9 lo_9 dr_11 hd_11 I_9 ls_12 (lv_sub hl_12 [1, 0] rfl)
  have L1 : ∀ (n : Nat) (x6 : Int32) (E7 : Nat → Nat → Int64), lp (fun q => M_digest_s1 G1 q.1 q.2) n (x6, E7) = some E8 → ∀ (H : Heap) (locs : List Loc) (d : Drawn), s.drawn.sameBut d lw_cs → sInv D (mT cI cJ cD) (mW ad cI cJ cD) A s H locs (G1, E7, Dm) → ∀ (ls : Array Slot), lv_has ls 2 [(0, .ref (ad 0)), (1, .int x6)] → W p l e R (s.setDrawn d) m args below meth c H locs 0 0 Q (F0 m 14 ls []) := by
    intro n
    induction n with
    | zero => intro x6 E7 hq; exact (lp_0 hq).elim
    | succ n ih1 =>
      intro x6 E7 hq H_115 lo_115 dr_117 hd_117 I_115 ls_116 hl_116
      obtain ⟨y1, hf, hK1⟩ := lp_go hq
      replace hf : M_digest_s1 G1 x6 E7 = some y1 := hf
      unfold M_digest_s1 at hf
      refine lv_iload_n hx hb dX12_digest_14 rfl (lv_at hl_116 1 rfl) ?_
      refine lv_bipush (v := (8 : Int32)) hx hb dX12_digest_15 (by decide) ?_
      refine lv_icmp_ge (tgt := 36) hx hb dX12_digest_17 (by decide) (fun c126 => ?_) (fun c126 => ?_)
      · replace hf := (if_pos c126).symm.trans hf
        cases hf
        cases (show E7 = E8 from hK1)
        exact K1 H_115 lo_115 dr_117 hd_117 I_115 ls_116 (lv_sub hl_116 [0] rfl)
      · replace hf := (if_neg c126).symm.trans hf
        refine lv_aload_n hx hb dX12_digest_20 rfl (lv_at hl_116 0 rfl) ?_
        refine lv_aload_n hx hb dX12_digest_21 rfl (lv_at hl_116 0 rfl) ?_
        refine lv_iload_n hx hb dX12_digest_22 rfl (lv_at hl_116 1 rfl) ?_
        obtain ⟨r118, h119, hf⟩ := bd_some hf
        refine s_callVi (As := [.int x6]) (rest := [.ref (ad 0)]) (Fdr F) (Idr I_115) (cM_counted G1 E7 Dm x6 r118 h119) kX12_207 ⟨rfl, rfl⟩ ⟨Nat.le_trans (Nat.le_of_ble_eq_true rfl) hRf, Nat.le_trans (Nat.le_of_ble_eq_true rfl) hRl⟩ (0) 12 rfl rfl rfl rfl rfl hl_116.1 (Nat.le_of_ble_eq_true rfl) ⟨Nat.zero_le _, Nat.zero_le _⟩ dX12_digest_23 ?_
        intro H_120 lo_120 I_120
        replace I_120 := Irr I_120
        refine lv_i2l hx hb dX12_digest_26 rfl ?_
        obtain ⟨E121, h122⟩ : ∃ z, z = M_mix E7 r118.toInt64 := ⟨_, rfl⟩
        replace hf := nm_some h122 hf
        refine s_callVv (As := [.long (r118.toInt64)]) (rest := []) (Fdr F) (Idr I_120) (cM_mix G1 E7 Dm r118.toInt64 E121 h122) kX12_375 ⟨rfl, rfl⟩ ⟨Nat.le_trans (Nat.le_of_ble_eq_true rfl) hRf, Nat.le_trans (Nat.le_of_ble_eq_true rfl) hRl⟩ (0) 12 rfl rfl rfl rfl rfl hl_116.1 (Nat.le_of_ble_eq_true rfl) ⟨Nat.zero_le _, Nat.zero_le _⟩ dX12_digest_27 ?_
        intro H_123 lo_123 I_123
        replace I_123 := Irr I_123
        obtain ⟨x124, ex124⟩ : ∃ y : Int32, y = x6 + (1 : Int32) := ⟨_, rfl⟩
        replace hf := nm_some ex124 hf
        refine lv_iinc (v := x124) (lv' := [(1, .int x124), (0, .ref (ad 0))]) hx hb dX12_digest_30 hl_116 (k := 1) rfl (by rw [ex124]; rfl) (by decide) rfl (fun ls_125 hl_125 => ?_)
        refine lv_goto (tgt := 14) hx hb dX12_digest_33 (by decide) ?_
        cases hf
        exact ih1 _ _ hK1 H_123 lo_123 dr_117 hd_117 I_123 ls_125 (lv_sub hl_125 [1, 0] rfl)
  exact L1 FU _ _ hq1 H_4 lo_4 dr hd I_4 ls_5 (lv_sub hl_5 [1, 0] rfl)
end Meth
