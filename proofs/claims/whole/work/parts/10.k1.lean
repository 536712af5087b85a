section Meth
variable {D : va_G} {l : Launch} {ad : Nat → Nat} {cI cJ cD cS : ClassId}
def C_TA_take_s1  (x8 : Int32) (G9 : Nat → Nat → Int32) : Option ((Int32 × (Nat → Nat → Int32)) ⊕ ((Nat → Nat → Int32))) :=
if G9 5 0 ≤ x8 then
(some (.inr G9))
else
(bd (C_CO_at G9 x8) fun r15 =>
nm (C_CO_answerOf r15) fun r19 =>
bd (if r19 = 0 then
(nm (C_CO_firstOf r15) fun r42 =>
nm (C_CO_secondOf r15) fun r45 =>
nm (C_LT_cell r42 r45) fun r48 =>
ri 64 r48 <|
ri 64 r48 <|
nm (wr G9 17 r48 ((G9 17 r48.toNatClampNeg) + (1 : Int32))) fun G53 =>
nm (C_CO_secondOf r15) fun r55 =>
nm (C_CO_firstOf r15) fun r58 =>
nm (C_LT_cell r55 r58) fun r61 =>
ri 64 r61 <|
ri 64 r61 <|
nm (wr G53 17 r61 ((G53 17 r61.toNatClampNeg) + (1 : Int32))) fun G66 =>
some G66)
else
(bd (C_CO_winnerOf r15) fun r29 =>
bd (C_CO_loserOf r15) fun r32 =>
nm (C_LT_cell r29 r32) fun r35 =>
ri 64 r35 <|
ri 64 r35 <|
nm (wr G9 16 r35 ((G9 16 r35.toNatClampNeg) + (1 : Int32))) fun G40 =>
some G40)) fun G23 =>
nm (x8 + (1 : Int32) : Int32) fun x26 =>
some (.inl (x26, G23)))
def C_TA_take (G : Nat → Nat → Int32) : Option ((Nat → Nat → Int32)) :=
bd (C_JA_fill_i_10 G (0 : Int32)) fun G1 =>
bd (C_JA_fill_i_11 G1 (0 : Int32)) fun G4 =>
bd (lp (fun q => C_TA_take_s1 q.1 q.2) FU ((0 : Int32), G4)) fun G10 =>
some G10
set_option maxRecDepth 100000 in
set_option maxHeartbeats 4000000 in
theorem cC_TA_take (G : Nat → Nat → Int32) (E : Nat → Nat → Int64) (Dd : Nat → Nat → UInt64) (P : Nat → Option Nat) (L : List Nat) (pf : Nat → va_E)   (newG : Nat → Nat → Int32) (hf : C_TA_take G = some newG) : sMv D (cT cI cJ cD cS) (cW ad cI cJ cD cS) l yX9_take (ws1 yX9_take cX9_take 4 none) ({ frames := 2, cells := 0, slots := 0, locals := 40 }) [.ref (ad 9), .ref (ad 2)] (G, E, Dd, P, L, pf) (newG, E, Dd, P, L, pf) := by
  unfold C_TA_take at hf
  refine sMv_of (by decide) (Nat.le_of_ble_eq_true rfl) ?_
  intro p e R s m args below meth c A Q ls H lo F hRf hRl I hl ret
  obtain ⟨hx, hb, hml, hown, hG⟩ := id F
  replace hl : lv_has ls 4 [(0, .ref (ad 9)), (1, .ref (ad 2))] := hl
  refine lv_aload_n hx hb dX9_take_0 rfl (lv_at hl 0 rfl) ?_
  refine kgtX9_9_9 F I dX9_take_1 ?_
  refine lv_iconst (v := (0 : Int32)) hx hb dX9_take_4 (by decide) ?_
  obtain ⟨G1, h2, hf⟩ := bd_some hf
  refine s_callSv (As := [.ref (ad 10), .int (0 : Int32)]) (rest := []) F I (cC_JA_fill_i_10 G E Dd P L pf (0 : Int32) G1 h2) kX9_18 ⟨rfl, rfl⟩ ⟨Nat.le_trans (Nat.le_of_ble_eq_true rfl) hRf, Nat.le_trans (Nat.le_of_ble_eq_true rfl) hRl⟩ rfl rfl hl.1 (Nat.le_of_ble_eq_true rfl) ⟨Nat.zero_le _, Nat.zero_le _⟩ dX9_take_5 ?_
  intro H_3 lo_3 I_3
  refine lv_aload_n hx hb dX9_take_8 rfl (lv_at hl 0 rfl) ?_
  refine kgtX9_15_9 F I_3 dX9_take_9 ?_
  refine lv_iconst (v := (0 : Int32)) hx hb dX9_take_12 (by decide) ?_
  obtain ⟨G4, h5, hf⟩ := bd_some hf
  refine s_callSv (As := [.ref (ad 11), .int (0 : Int32)]) (rest := []) F I_3 (cC_JA_fill_i_11 G1 E Dd P L pf (0 : Int32) G4 h5) kX9_18 ⟨rfl, rfl⟩ ⟨Nat.le_trans (Nat.le_of_ble_eq_true rfl) hRf, Nat.le_trans (Nat.le_of_ble_eq_true rfl) hRl⟩ rfl rfl hl.1 (Nat.le_of_ble_eq_true rfl) ⟨Nat.zero_le _, Nat.zero_le _⟩ dX9_take_13 ?_
  intro H_6 lo_6 I_6
  refine lv_iconst (v := (0 : Int32)) hx hb dX9_take_16 (by decide) ?_
  refine lv_istore_n (lv' := [(2, .int (0 : Int32)), (0, .ref (ad 9)), (1, .ref (ad 2))]) hx hb dX9_take_17 rfl hl (by decide) rfl (fun ls_7 hl_7 => ?_)
  obtain ⟨G10, hq1, hf⟩ := bd_some hf
  have K1 : ∀ (H : Heap) (locs : List Loc), sInv D (cT cI cJ cD cS) (cW ad cI cJ cD cS) A s H locs (G10, E, Dd, P, L, pf) → ∀ (ls : Array Slot), lv_has ls 4 [] → W p l e R s m args below meth c H locs 0 0 Q (F0 m 108 ls []) := by
    intro H_11 lo_11 I_11 ls_12 hl_12
    cases hf
    exact ret H_11 lo_11 _ ls_12 I_11 dX9_take_108
  have L1 : ∀ (n : Nat) (x8 : Int32) (G9 : Nat → Nat → Int32), lp (fun q => C_TA_take_s1 q.1 q.2) n (x8, G9) = some G10 → ∀ (H : Heap) (locs : List Loc), sInv D (cT cI cJ cD cS) (cW ad cI cJ cD cS) A s H locs (G9, E, Dd, P, L, pf) → ∀ (ls : Array Slot), lv_has ls 4 [(0, .ref (ad 9)), (1, .ref (ad 2)), (2, .int x8)] → W p l e R s m args below meth c H locs 0 0 Q (F0 m 18 ls []) := by
    intro n
    induction n with
    | zero => intro x8 G9 hq; exact (lp_0 hq).elim
    | succ n ih1 =>
      intro x8 G9 hq H_13 lo_13 I_13 ls_14 hl_14
      obtain ⟨y1, hf, hK1⟩ := lp_go hq
      replace hf : C_TA_take_s1 x8 G9 = some y1 := hf
      unfold C_TA_take_s1 at hf
      refine lv_iload_n hx hb dX9_take_18 rfl (lv_at hl_14 2 rfl) ?_
      refine lv_aload_n hx hb dX9_take_19 rfl (lv_at hl_14 1 rfl) ?_
      refine kgtX9_24_2 F I_13 dX9_take_20 ?_
      refine lv_icmp_ge (tgt := 108) hx hb dX9_take_23 (by decide) (fun c69 => ?_) (fun c69 => ?_)
      · replace hf := (if_pos c69).symm.trans hf
        cases hf
        cases (show G9 = G10 from hK1)
        exact K1 H_13 lo_13 I_13 ls_14 (lv_sub hl_14 [] rfl)
      · replace hf := (if_neg c69).symm.trans hf
        refine lv_aload_n hx hb dX9_take_26 rfl (lv_at hl_14 1 rfl) ?_
        refine lv_iload_n hx hb dX9_take_27 rfl (lv_at hl_14 2 rfl) ?_
        obtain ⟨r15, h16, hf⟩ := bd_some hf
        refine s_callVi (As := [.int x8]) (rest := []) F I_13 (cC_CO_at G9 E Dd P L pf x8 r15 h16) kX9_30 ⟨rfl, rfl⟩ ⟨Nat.le_trans (Nat.le_of_ble_eq_true rfl) hRf, Nat.le_trans (Nat.le_of_ble_eq_true rfl) hRl⟩ 2 1 rfl rfl rfl rfl rfl hl_14.1 (Nat.le_of_ble_eq_true rfl) ⟨Nat.zero_le _, Nat.zero_le _⟩ dX9_take_28 ?_
        intro H_17 lo_17 I_17
        refine lv_istore_n (lv' := [(3, .int r15), (0, .ref (ad 9)), (1, .ref (ad 2)), (2, .int x8)]) hx hb dX9_take_31 rfl hl_14 (by decide) rfl (fun ls_18 hl_18 => ?_)
        refine lv_iload_n hx hb dX9_take_32 rfl (lv_at hl_18 0 rfl) ?_
        obtain ⟨r19, h20⟩ : ∃ z, z = C_CO_answerOf r15 := ⟨_, rfl⟩
        replace hf := nm_some h20 hf
        refine s_callSi (As := [.int r15]) (rest := []) F I_17 (cC_CO_answerOf G9 E Dd P L pf r15 r19 h20) kX9_34 ⟨rfl, rfl⟩ ⟨Nat.le_trans (Nat.le_of_ble_eq_true rfl) hRf, Nat.le_trans (Nat.le_of_ble_eq_true rfl) hRl⟩ rfl rfl hl_18.1 (Nat.le_of_ble_eq_true rfl) ⟨Nat.zero_le _, Nat.zero_le _⟩ dX9_take_33 ?_
        intro H_21 lo_21 I_21
        obtain ⟨G23, hv28, hf⟩ := bd_some hf
        have J22 : ∀ (H : Heap) (locs : List Loc), sInv D (cT cI cJ cD cS) (cW ad cI cJ cD cS) A s H locs (G23, E, Dd, P, L, pf) → ∀ (ls : Array Slot), lv_has ls 4 [(0, .ref (ad 9)), (1, .ref (ad 2)), (2, .int x8)] → W p l e R s m args below meth c H locs 0 0 Q (F0 m 102 ls []) := by
          intro H_24 lo_24 I_24 ls_25 hl_25
          obtain ⟨x26, ex26⟩ : ∃ y : Int32, y = x8 + (1 : Int32) := ⟨_, rfl⟩
          replace hf := nm_some ex26 hf
          refine lv_iinc (v := x26) (lv' := [(2, .int x26), (0, .ref (ad 9)), (1, .ref (ad 2))]) hx hb dX9_take_102 hl_25 (k := 2) rfl (by rw [ex26]; rfl) (by decide) rfl (fun ls_27 hl_27 => ?_)
          refine lv_goto (tgt := 18) hx hb dX9_take_105 (by decide) ?_
          cases hf
          exact ih1 _ _ hK1 H_24 lo_24 I_24 ls_27 (lv_sub hl_27 [1, 2, 0] rfl)
        replace hf := hv28
        refine lv_if_ne (tgt := 82) hx hb dX9_take_36 (by decide) (fun c68 => ?_) (fun c68 => ?_)
        · replace hf := (if_neg c68).symm.trans hf
          refine lv_aload_n hx hb dX9_take_82 rfl (lv_at hl_18 1 rfl) ?_
          refine kgtX9_9_9 F I_21 dX9_take_83 ?_
          refine lv_iload_n hx hb dX9_take_86 rfl (lv_at hl_18 0 rfl) ?_
          obtain ⟨r29, h30, hf⟩ := bd_some hf
          refine s_callSi (As := [.int r15]) (rest := [.ref (ad 10)]) F I_21 (cC_CO_winnerOf G9 E Dd P L pf r15 r29 h30) kX9_47 ⟨rfl, rfl⟩ ⟨Nat.le_trans (Nat.le_of_ble_eq_true rfl) hRf, Nat.le_trans (Nat.le_of_ble_eq_true rfl) hRl⟩ rfl rfl hl_18.1 (Nat.le_of_ble_eq_true rfl) ⟨Nat.zero_le _, Nat.zero_le _⟩ dX9_take_87 ?_
          intro H_31 lo_31 I_31
          refine lv_iload_n hx hb dX9_take_90 rfl (lv_at hl_18 0 rfl) ?_
          obtain ⟨r32, h33, hf⟩ := bd_some hf
          refine s_callSi (As := [.int r15]) (rest := [.int r29, .ref (ad 10)]) F I_31 (cC_CO_loserOf G9 E Dd P L pf r15 r32 h33) kX9_50 ⟨rfl, rfl⟩ ⟨Nat.le_trans (Nat.le_of_ble_eq_true rfl) hRf, Nat.le_trans (Nat.le_of_ble_eq_true rfl) hRl⟩ rfl rfl hl_18.1 (Nat.le_of_ble_eq_true rfl) ⟨Nat.zero_le _, Nat.zero_le _⟩ dX9_take_91 ?_
          intro H_34 lo_34 I_34
          obtain ⟨r35, h36⟩ : ∃ z, z = C_LT_cell r29 r32 := ⟨_, rfl⟩
          replace hf := nm_some h36 hf
          refine s_callSNi (As := [.int r29, .int r32]) (rest := [.ref (ad 10)]) F I_34 (cC_LT_cell G9 E Dd P L pf r29 r32 r35 h36) kX9_43 ⟨rfl, rfl⟩ ⟨Nat.le_trans (Nat.le_of_ble_eq_true rfl) hRf, Nat.le_trans (Nat.le_of_ble_eq_true rfl) hRl⟩ rfl rfl hl_18.1 (Nat.le_of_ble_eq_true rfl) ⟨Nat.zero_le _, Nat.zero_le _⟩ dX9_take_94 ?_
          intro H_37 lo_37 I_37
          refine lv_dup2_11 hx hb dX9_take_97 rfl rfl ?_
          obtain ⟨g38, hf⟩ := ri_some hf
          refine kal10 F I_37 g38 dX9_take_98 ?_
          refine lv_iconst (v := (1 : Int32)) hx hb dX9_take_99 (by decide) ?_
          refine lv_iadd hx hb dX9_take_100 ?_
          obtain ⟨g39, hf⟩ := ri_some hf
          refine kas10 F I_37 g39 dX9_take_101 ?_
          intro H_41 lo_41 G40 eG40 I_41
          replace hf := nm_some eG40 hf
          cases hf
          exact J22 H_41 lo_41 I_41 ls_18 (lv_sub hl_18 [1, 2, 3] rfl)
        · replace hf := (if_pos c68).symm.trans hf
          refine lv_aload_n hx hb dX9_take_39 rfl (lv_at hl_18 1 rfl) ?_
          refine kgtX9_15_9 F I_21 dX9_take_40 ?_
          refine lv_iload_n hx hb dX9_take_43 rfl (lv_at hl_18 0 rfl) ?_
          obtain ⟨r42, h43⟩ : ∃ z, z = C_CO_firstOf r15 := ⟨_, rfl⟩
          replace hf := nm_some h43 hf
          refine s_callSi (As := [.int r15]) (rest := [.ref (ad 11)]) F I_21 (cC_CO_firstOf G9 E Dd P L pf r15 r42 h43) kX9_37 ⟨rfl, rfl⟩ ⟨Nat.le_trans (Nat.le_of_ble_eq_true rfl) hRf, Nat.le_trans (Nat.le_of_ble_eq_true rfl) hRl⟩ rfl rfl hl_18.1 (Nat.le_of_ble_eq_true rfl) ⟨Nat.zero_le _, Nat.zero_le _⟩ dX9_take_44 ?_
          intro H_44 lo_44 I_44
          refine lv_iload_n hx hb dX9_take_47 rfl (lv_at hl_18 0 rfl) ?_
          obtain ⟨r45, h46⟩ : ∃ z, z = C_CO_secondOf r15 := ⟨_, rfl⟩
          replace hf := nm_some h46 hf
          refine s_callSi (As := [.int r15]) (rest := [.int r42, .ref (ad 11)]) F I_44 (cC_CO_secondOf G9 E Dd P L pf r15 r45 h46) kX9_40 ⟨rfl, rfl⟩ ⟨Nat.le_trans (Nat.le_of_ble_eq_true rfl) hRf, Nat.le_trans (Nat.le_of_ble_eq_true rfl) hRl⟩ rfl rfl hl_18.1 (Nat.le_of_ble_eq_true rfl) ⟨Nat.zero_le _, Nat.zero_le _⟩ dX9_take_48 ?_
          intro H_47 lo_47 I_47
          obtain ⟨r48, h49⟩ : ∃ z, z = C_LT_cell r42 r45 := ⟨_, rfl⟩
          replace hf := nm_some h49 hf
          refine s_callSNi (As := [.int r42, .int r45]) (rest := [.ref (ad 11)]) F I_47 (cC_LT_cell G9 E Dd P L pf r42 r45 r48 h49) kX9_43 ⟨rfl, rfl⟩ ⟨Nat.le_trans (Nat.le_of_ble_eq_true rfl) hRf, Nat.le_trans (Nat.le_of_ble_eq_true rfl) hRl⟩ rfl rfl hl_18.1 (Nat.le_of_ble_eq_true rfl) ⟨Nat.zero_le _, Nat.zero_le _⟩ dX9_take_51 ?_
          intro H_50 lo_50 I_50
          refine lv_dup2_11 hx hb dX9_take_54 rfl rfl ?_
          obtain ⟨g51, hf⟩ := ri_some hf
          refine kal11 F I_50 g51 dX9_take_55 ?_
          refine lv_iconst (v := (1 : Int32)) hx hb dX9_take_56 (by decide) ?_
          refine lv_iadd hx hb dX9_take_57 ?_
          obtain ⟨g52, hf⟩ := ri_some hf
          refine kas11 F I_50 g52 dX9_take_58 ?_
          intro H_54 lo_54 G53 eG53 I_54
          replace hf := nm_some eG53 hf
          refine lv_aload_n hx hb dX9_take_59 rfl (lv_at hl_18 1 rfl) ?_
          refine kgtX9_15_9 F I_54 dX9_take_60 ?_
          refine lv_iload_n hx hb dX9_take_63 rfl (lv_at hl_18 0 rfl) ?_
          obtain ⟨r55, h56⟩ : ∃ z, z = C_CO_secondOf r15 := ⟨_, rfl⟩
          replace hf := nm_some h56 hf
          refine s_callSi (As := [.int r15]) (rest := [.ref (ad 11)]) F I_54 (cC_CO_secondOf G53 E Dd P L pf r15 r55 h56) kX9_40 ⟨rfl, rfl⟩ ⟨Nat.le_trans (Nat.le_of_ble_eq_true rfl) hRf, Nat.le_trans (Nat.le_of_ble_eq_true rfl) hRl⟩ rfl rfl hl_18.1 (Nat.le_of_ble_eq_true rfl) ⟨Nat.zero_le _, Nat.zero_le _⟩ dX9_take_64 ?_
          intro H_57 lo_57 I_57
          refine lv_iload_n hx hb dX9_take_67 rfl (lv_at hl_18 0 rfl) ?_
          obtain ⟨r58, h59⟩ : ∃ z, z = C_CO_firstOf r15 := ⟨_, rfl⟩
          replace hf := nm_some h59 hf
          refine s_callSi (As := [.int r15]) (rest := [.int r55, .ref (ad 11)]) F I_57 (cC_CO_firstOf G53 E Dd P L pf r15 r58 h59) kX9_37 ⟨rfl, rfl⟩ ⟨Nat.le_trans (Nat.le_of_ble_eq_true rfl) hRf, Nat.le_trans (Nat.le_of_ble_eq_true rfl) hRl⟩ rfl rfl hl_18.1 (Nat.le_of_ble_eq_true rfl) ⟨Nat.zero_le _, Nat.zero_le _⟩ dX9_take_68 ?_
          intro H_60 lo_60 I_60
          obtain ⟨r61, h62⟩ : ∃ z, z = C_LT_cell r55 r58 := ⟨_, rfl⟩
          replace hf := nm_some h62 hf
          refine s_callSNi (As := [.int r55, .int r58]) (rest := [.ref (ad 11)]) F I_60 (cC_LT_cell G53 E Dd P L pf r55 r58 r61 h62) kX9_43 ⟨rfl, rfl⟩ ⟨Nat.le_trans (Nat.le_of_ble_eq_true rfl) hRf, Nat.le_trans (Nat.le_of_ble_eq_true rfl) hRl⟩ rfl rfl hl_18.1 (Nat.le_of_ble_eq_true rfl) ⟨Nat.zero_le _, Nat.zero_le _⟩ dX9_take_71 ?_
          intro H_63 lo_63 I_63
          refine lv_dup2_11 hx hb dX9_take_74 rfl rfl ?_
          obtain ⟨g64, hf⟩ := ri_some hf
          refine kal11 F I_63 g64 dX9_take_75 ?_
          refine lv_iconst (v := (1 : Int32)) hx hb dX9_take_76 (by decide) ?_
          refine lv_iadd hx hb dX9_take_77 ?_
          obtain ⟨g65, hf⟩ := ri_some hf
          refine kas11 F I_63 g65 dX9_take_78 ?_
          intro H_67 lo_67 G66 eG66 I_67
          replace hf := nm_some eG66 hf
          refine lv_goto (tgt := 102) hx hb dX9_take_79 (by decide) ?_
          cases hf
          exact J22 H_67 lo_67 I_67 ls_18 (lv_sub hl_18 [1, 2, 3] rfl)
  exact L1 FU _ _ hq1 H_6 lo_6 I_6 ls_7 (lv_sub hl_7 [1, 2, 0] rfl)
def C_TA_tiesOf (G : Nat → Nat → Int32) (a0 : Int32) (a1 : Int32) : Option (Int32) :=
nm (C_LT_cell a0 a1) fun r1 =>
ri 64 r1 <|
some (G 17 r1.toNatClampNeg)
set_option maxRecDepth 100000 in
set_option maxHeartbeats 4000000 in
theorem cC_TA_tiesOf (G : Nat → Nat → Int32) (E : Nat → Nat → Int64) (Dd : Nat → Nat → UInt64) (P : Nat → Option Nat) (L : List Nat) (pf : Nat → va_E) (a0 : Int32) (a1 : Int32) (rv : Int32)  (hf : C_TA_tiesOf G a0 a1 = some rv) : sMi D (cT cI cJ cD cS) (cW ad cI cJ cD cS) l yX9_tiesOf (ws1 yX9_tiesOf cX9_tiesOf 3 (some .int)) ({ frames := 1, cells := 0, slots := 0, locals := 21 }) [.ref (ad 9), .int a0, .int a1] (G, E, Dd, P, L, pf) (rv, (G, E, Dd, P, L, pf)) := by
  unfold C_TA_tiesOf at hf
  refine sMi_of (by decide) (Nat.le_of_ble_eq_true rfl) ?_
  intro p e R s m args below meth c A Q ls H lo F hRf hRl I hl ret
  obtain ⟨hx, hb, hml, hown, hG⟩ := id F
  replace hl : lv_has ls 3 [(0, .ref (ad 9)), (1, .int a0), (2, .int a1)] := hl
  refine lv_aload_n hx hb dX9_tiesOf_0 rfl (lv_at hl 0 rfl) ?_
  refine kgtX9_15_9 F I dX9_tiesOf_1 ?_
  refine lv_iload_n hx hb dX9_tiesOf_4 rfl (lv_at hl 1 rfl) ?_
  refine lv_iload_n hx hb dX9_tiesOf_5 rfl (lv_at hl 2 rfl) ?_
  obtain ⟨r1, h2⟩ : ∃ z, z = C_LT_cell a0 a1 := ⟨_, rfl⟩
  replace hf := nm_some h2 hf
  refine s_callSNi (As := [.int a0, .int a1]) (rest := [.ref (ad 11)]) F I (cC_LT_cell G E Dd P L pf a0 a1 r1 h2) kX9_43 ⟨rfl, rfl⟩ ⟨Nat.le_trans (Nat.le_of_ble_eq_true rfl) hRf, Nat.le_trans (Nat.le_of_ble_eq_true rfl) hRl⟩ rfl rfl hl.1 (Nat.le_of_ble_eq_true rfl) ⟨Nat.zero_le _, Nat.zero_le _⟩ dX9_tiesOf_6 ?_
  intro H_3 lo_3 I_3
  obtain ⟨g4, hf⟩ := ri_some hf
  refine kal11 F I_3 g4 dX9_tiesOf_9 ?_
  cases hf
  exact ret H_3 lo_3 _ ls I_3 dX9_tiesOf_10
def C_TX_isFull (G : Nat → Nat → Int32) : Option (Int32) :=
if G 9 0 < (60 : Int32) then
(some (0 : Int32))
else
(some (1 : Int32))
set_option maxRecDepth 100000 in
set_option maxHeartbeats 4000000 in
theorem cC_TX_isFull (G : Nat → Nat → Int32) (E : Nat → Nat → Int64) (Dd : Nat → Nat → UInt64) (P : Nat → Option Nat) (L : List Nat) (pf : Nat → va_E)  (rv : Int32)  (hf : C_TX_isFull G = some rv) : sMi D (cT cI cJ cD cS) (cW ad cI cJ cD cS) l yX10_isFull (ws1 yX10_isFull cX10_isFull 1 (some .boolean)) ({ frames := 0, cells := 0, slots := 0, locals := 0 }) [.ref (ad 6)] (G, E, Dd, P, L, pf) (rv, (G, E, Dd, P, L, pf)) := by
  unfold C_TX_isFull at hf
  refine sMz_of (by decide) (Nat.le_of_ble_eq_true rfl) ?_
  intro p e R s m args below meth c A Q ls H lo F hRf hRl I hl ret
  obtain ⟨hx, hb, hml, hown, hG⟩ := id F
  replace hl : lv_has ls 1 [(0, .ref (ad 6))] := hl
  refine lv_aload_n hx hb dX10_isFull_0 rfl (lv_at hl 0 rfl) ?_
  refine kgtX10_15_6 F I dX10_isFull_1 ?_
  refine lv_bipush (v := (60 : Int32)) hx hb dX10_isFull_4 (by decide) ?_
  refine lv_icmp_lt (tgt := 13) hx hb dX10_isFull_6 (by decide) (fun c1 => ?_) (fun c1 => ?_)
  · replace hf := (if_pos c1).symm.trans hf
    refine lv_iconst (v := (0 : Int32)) hx hb dX10_isFull_13 (by decide) ?_
    cases hf
    exact ret H lo _ ls I (Or.inl rfl) dX10_isFull_14
  · replace hf := (if_neg c1).symm.trans hf
    refine lv_iconst (v := (1 : Int32)) hx hb dX10_isFull_9 (by decide) ?_
    refine lv_goto (tgt := 14) hx hb dX10_isFull_10 (by decide) ?_
    cases hf
    exact ret H lo _ ls I (Or.inr rfl) dX10_isFull_14
def C_TX_put (G : Nat → Nat → Int32) (a0 : Int32) : Option ((Nat → Nat → Int32)) :=
bd (C_TX_isFull G) fun r1 =>
if r1 = 0 then
(ri 60 (G 9 0) <|
nm (wr G 8 (G 9 0) a0) fun G5 =>
nm (wf G5 9 ((G5 9 0) + (1 : Int32))) fun G7 =>
some G7)
else
(some G)
set_option maxRecDepth 100000 in
set_option maxHeartbeats 4000000 in
theorem cC_TX_put (G : Nat → Nat → Int32) (E : Nat → Nat → Int64) (Dd : Nat → Nat → UInt64) (P : Nat → Option Nat) (L : List Nat) (pf : Nat → va_E) (a0 : Int32)  (newG : Nat → Nat → Int32) (hf : C_TX_put G a0 = some newG) : sMv D (cT cI cJ cD cS) (cW ad cI cJ cD cS) l yX10_put (ws1 yX10_put cX10_put 2 none) ({ frames := 1, cells := 0, slots := 0, locals := 20 }) [.ref (ad 6), .int a0] (G, E, Dd, P, L, pf) (newG, E, Dd, P, L, pf) := by
  unfold C_TX_put at hf
  refine sMv_of (by decide) (Nat.le_of_ble_eq_true rfl) ?_
  intro p e R s m args below meth c A Q ls H lo F hRf hRl I hl ret
  obtain ⟨hx, hb, hml, hown, hG⟩ := id F
  replace hl : lv_has ls 2 [(0, .ref (ad 6)), (1, .int a0)] := hl
  refine lv_aload_n hx hb dX10_put_0 rfl (lv_at hl 0 rfl) ?_
  obtain ⟨r1, h2, hf⟩ := bd_some hf
  refine s_callVi (As := []) (rest := []) F I (cC_TX_isFull G E Dd P L pf r1 h2) kX10_37 ⟨rfl, rfl⟩ ⟨Nat.le_trans (Nat.le_of_ble_eq_true rfl) hRf, Nat.le_trans (Nat.le_of_ble_eq_true rfl) hRl⟩ 6 10 rfl rfl rfl rfl rfl hl.1 (Nat.le_of_ble_eq_true rfl) ⟨Nat.zero_le _, Nat.zero_le _⟩ dX10_put_1 ?_
  intro H_3 lo_3 I_3
  refine lv_if_ne (tgt := 27) hx hb dX10_put_4 (by decide) (fun c9 => ?_) (fun c9 => ?_)
  · replace hf := (if_neg c9).symm.trans hf
    cases hf
    exact ret H_3 lo_3 _ ls I_3 dX10_put_27
  · replace hf := (if_pos c9).symm.trans hf
    refine lv_aload_n hx hb dX10_put_7 rfl (lv_at hl 0 rfl) ?_
    refine kgtX10_9_6 F I_3 dX10_put_8 ?_
    refine lv_aload_n hx hb dX10_put_11 rfl (lv_at hl 0 rfl) ?_
    refine kgtX10_15_6 F I_3 dX10_put_12 ?_
    refine lv_iload_n hx hb dX10_put_15 rfl (lv_at hl 1 rfl) ?_
    obtain ⟨g4, hf⟩ := ri_some hf
    refine kas7 F I_3 g4 dX10_put_16 ?_
    intro H_6 lo_6 G5 eG5 I_6
    replace hf := nm_some eG5 hf
    refine lv_aload_n hx hb dX10_put_17 rfl (lv_at hl 0 rfl) ?_
    refine lv_dup hx hb dX10_put_18 rfl ?_
    refine kgtX10_15_6 F I_6 dX10_put_19 ?_
    refine lv_iconst (v := (1 : Int32)) hx hb dX10_put_22 (by decide) ?_
    refine lv_iadd hx hb dX10_put_23 ?_
    refine kptX10_15_6 F I_6 dX10_put_24 ?_
    intro H_8 lo_8 G7 eG7 I_8
    replace hf := nm_some eG7 hf
    cases hf
    exact ret H_8 lo_8 _ ls I_8 dX10_put_27
def C_TX_codeAt (G : Nat → Nat → Int32) (a0 : Int32) : Option (Int32) :=
if a0 < 0 then
(some (0 : Int32))
else
(if G 9 0 ≤ a0 then
(some (0 : Int32))
else
(ri 60 a0 <|
some (G 8 a0.toNatClampNeg)))
set_option maxRecDepth 100000 in
set_option maxHeartbeats 4000000 in
theorem cC_TX_codeAt (G : Nat → Nat → Int32) (E : Nat → Nat → Int64) (Dd : Nat → Nat → UInt64) (P : Nat → Option Nat) (L : List Nat) (pf : Nat → va_E) (a0 : Int32) (rv : Int32)  (hf : C_TX_codeAt G a0 = some rv) : sMi D (cT cI cJ cD cS) (cW ad cI cJ cD cS) l yX10_codeAt (ws1 yX10_codeAt cX10_codeAt 2 (some .int)) ({ frames := 0, cells := 0, slots := 0, locals := 0 }) [.ref (ad 6), .int a0] (G, E, Dd, P, L, pf) (rv, (G, E, Dd, P, L, pf)) := by
  unfold C_TX_codeAt at hf
  refine sMi_of (by decide) (Nat.le_of_ble_eq_true rfl) ?_
  intro p e R s m args below meth c A Q ls H lo F hRf hRl I hl ret
  obtain ⟨hx, hb, hml, hown, hG⟩ := id F
  replace hl : lv_has ls 2 [(0, .ref (ad 6)), (1, .int a0)] := hl
  refine lv_iload_n hx hb dX10_codeAt_0 rfl (lv_at hl 1 rfl) ?_
  refine lv_if_lt (tgt := 21) hx hb dX10_codeAt_1 (by decide) (fun c3 => ?_) (fun c3 => ?_)
  · replace hf := (if_pos c3).symm.trans hf
    refine lv_iconst (v := (0 : Int32)) hx hb dX10_codeAt_21 (by decide) ?_
    cases hf
    exact ret H lo _ ls I dX10_codeAt_22
  · replace hf := (if_neg c3).symm.trans hf
    refine lv_iload_n hx hb dX10_codeAt_4 rfl (lv_at hl 1 rfl) ?_
    refine lv_aload_n hx hb dX10_codeAt_5 rfl (lv_at hl 0 rfl) ?_
    refine kgtX10_15_6 F I dX10_codeAt_6 ?_
    refine lv_icmp_ge (tgt := 21) hx hb dX10_codeAt_9 (by decide) (fun c2 => ?_) (fun c2 => ?_)
    · replace hf := (if_pos c2).symm.trans hf
      refine lv_iconst (v := (0 : Int32)) hx hb dX10_codeAt_21 (by decide) ?_
      cases hf
      exact ret H lo _ ls I dX10_codeAt_22
    · replace hf := (if_neg c2).symm.trans hf
      refine lv_aload_n hx hb dX10_codeAt_12 rfl (lv_at hl 0 rfl) ?_
      refine kgtX10_9_6 F I dX10_codeAt_13 ?_
      refine lv_iload_n hx hb dX10_codeAt_16 rfl (lv_at hl 1 rfl) ?_
      obtain ⟨g1, hf⟩ := ri_some hf
      refine kal7 F I g1 dX10_codeAt_17 ?_
      refine lv_goto (tgt := 22) hx hb dX10_codeAt_18 (by decide) ?_
      cases hf
      exact ret H lo _ ls I dX10_codeAt_22
def C_TX_foundAt (G : Nat → Nat → Int32) (a0 : Int32) : Option (Int32) :=
if a0 < 0 then
(some (0 : Int32))
else
(if G 11 0 ≤ a0 then
(some (0 : Int32))
else
(ri 15 a0 <|
some (G 10 a0.toNatClampNeg)))
set_option maxRecDepth 100000 in
set_option maxHeartbeats 4000000 in
theorem cC_TX_foundAt (G : Nat → Nat → Int32) (E : Nat → Nat → Int64) (Dd : Nat → Nat → UInt64) (P : Nat → Option Nat) (L : List Nat) (pf : Nat → va_E) (a0 : Int32) (rv : Int32)  (hf : C_TX_foundAt G a0 = some rv) : sMi D (cT cI cJ cD cS) (cW ad cI cJ cD cS) l yX10_foundAt (ws1 yX10_foundAt cX10_foundAt 2 (some .int)) ({ frames := 0, cells := 0, slots := 0, locals := 0 }) [.ref (ad 6), .int a0] (G, E, Dd, P, L, pf) (rv, (G, E, Dd, P, L, pf)) := by
  unfold C_TX_foundAt at hf
  refine sMi_of (by decide) (Nat.le_of_ble_eq_true rfl) ?_
  intro p e R s m args below meth c A Q ls H lo F hRf hRl I hl ret
  obtain ⟨hx, hb, hml, hown, hG⟩ := id F
  replace hl : lv_has ls 2 [(0, .ref (ad 6)), (1, .int a0)] := hl
  refine lv_iload_n hx hb dX10_foundAt_0 rfl (lv_at hl 1 rfl) ?_
  refine lv_if_lt (tgt := 21) hx hb dX10_foundAt_1 (by decide) (fun c3 => ?_) (fun c3 => ?_)
  · replace hf := (if_pos c3).symm.trans hf
    refine lv_iconst (v := (0 : Int32)) hx hb dX10_foundAt_21 (by decide) ?_
    cases hf
    exact ret H lo _ ls I dX10_foundAt_22
  · replace hf := (if_neg c3).symm.trans hf
    refine lv_iload_n hx hb dX10_foundAt_4 rfl (lv_at hl 1 rfl) ?_
    refine lv_aload_n hx hb dX10_foundAt_5 rfl (lv_at hl 0 rfl) ?_
    refine kgtX10_22_6 F I dX10_foundAt_6 ?_
    refine lv_icmp_ge (tgt := 21) hx hb dX10_foundAt_9 (by decide) (fun c2 => ?_) (fun c2 => ?_)
    · replace hf := (if_pos c2).symm.trans hf
      refine lv_iconst (v := (0 : Int32)) hx hb dX10_foundAt_21 (by decide) ?_
      cases hf
      exact ret H lo _ ls I dX10_foundAt_22
    · replace hf := (if_neg c2).symm.trans hf
      refine lv_aload_n hx hb dX10_foundAt_12 rfl (lv_at hl 0 rfl) ?_
      refine kgtX10_19_6 F I dX10_foundAt_13 ?_
      refine lv_iload_n hx hb dX10_foundAt_16 rfl (lv_at hl 1 rfl) ?_
      obtain ⟨g1, hf⟩ := ri_some hf
      refine kal8 F I g1 dX10_foundAt_17 ?_
      refine lv_goto (tgt := 22) hx hb dX10_foundAt_18 (by decide) ?_
      cases hf
      exact ret H lo _ ls I dX10_foundAt_22
def C_TX_answerOfSign (a0 : Int32) : Option (Int32) :=
if a0 = (60 : Int32) then
(some (2 : Int32))
else if a0 = (61 : Int32) then
(some (0 : Int32))
else if a0 = (62 : Int32) then
(some (1 : Int32))
else (some (-1 : Int32))
set_option maxRecDepth 100000 in
set_option maxHeartbeats 4000000 in
theorem cC_TX_answerOfSign (G : Nat → Nat → Int32) (E : Nat → Nat → Int64) (Dd : Nat → Nat → UInt64) (P : Nat → Option Nat) (L : List Nat) (pf : Nat → va_E) (a0 : Int32) (rv : Int32)  (hf : C_TX_answerOfSign a0 = some rv) : sMi D (cT cI cJ cD cS) (cW ad cI cJ cD cS) l yX10_answerOfSign (ws1 yX10_answerOfSign cX10_answerOfSign 1 (some .int)) ({ frames := 0, cells := 0, slots := 0, locals := 0 }) [.int a0] (G, E, Dd, P, L, pf) (rv, (G, E, Dd, P, L, pf)) := by
  unfold C_TX_answerOfSign at hf
  refine sMi_of (by decide) (Nat.le_of_ble_eq_true rfl) ?_
  intro p e R s m args below meth c A Q ls H lo F hRf hRl I hl ret
  obtain ⟨hx, hb, hml, hown, hG⟩ := id F
  replace hl : lv_has ls 1 [(0, .int a0)] := hl
  refine lv_iload_n hx hb dX10_answerOfSign_0 rfl (lv_at hl 0 rfl) ?_
  by_cases c1 : a0 = (60 : Int32)
  · replace hf := (if_pos c1).symm.trans hf
    refine lv_tableIn (off := 29) (tgt := 30) hx hb dX10_answerOfSign_1 (by rw [c1]; decide) (by rw [c1]; decide) (by rw [c1]; rfl) (by decide) ?_
    refine lv_iconst (v := (2 : Int32)) hx hb dX10_answerOfSign_30 (by decide) ?_
    cases hf
    exact ret H lo _ ls I dX10_answerOfSign_31
  replace hf := (if_neg c1).symm.trans hf
  by_cases c2 : a0 = (61 : Int32)
  · replace hf := (if_pos c2).symm.trans hf
    refine lv_tableIn (off := 31) (tgt := 32) hx hb dX10_answerOfSign_1 (by rw [c2]; decide) (by rw [c2]; decide) (by rw [c2]; rfl) (by decide) ?_
    refine lv_iconst (v := (0 : Int32)) hx hb dX10_answerOfSign_32 (by decide) ?_
    cases hf
    exact ret H lo _ ls I dX10_answerOfSign_33
  replace hf := (if_neg c2).symm.trans hf
  by_cases c3 : a0 = (62 : Int32)
  · replace hf := (if_pos c3).symm.trans hf
    refine lv_tableIn (off := 27) (tgt := 28) hx hb dX10_answerOfSign_1 (by rw [c3]; decide) (by rw [c3]; decide) (by rw [c3]; rfl) (by decide) ?_
    refine lv_iconst (v := (1 : Int32)) hx hb dX10_answerOfSign_28 (by decide) ?_
    cases hf
    exact ret H lo _ ls I dX10_answerOfSign_29
  replace hf := (if_neg c3).symm.trans hf
  refine lv_tableOut (tgt := 34) hx hb dX10_answerOfSign_1 (tsw60_62 c1 c2 c3) (by decide) ?_
  refine lv_iconst (v := (-1 : Int32)) hx hb dX10_answerOfSign_34 (by decide) ?_
  cases hf
  exact ret H lo _ ls I dX10_answerOfSign_35
def C_TX_takesSecond (G : Nat → Nat → Int32) (a0 : Int32) (a1 : Int32) : Option (Int32 × (Nat → Nat → Int32)) :=
if a0 < 0 then
(some ((0 : Int32), G))
else
(if a1 ≤ a0 then
(some ((0 : Int32), G))
else
(if a0 = G 14 0 then
(some ((0 : Int32), G))
else
(if G 11 0 < (15 : Int32) then
(nm (C_CO_packed (G 13 0) (G 14 0) a0 (G 15 0)) fun r1 =>
ri 15 (G 11 0) <|
nm (wr G 10 (G 11 0) r1) fun G5 =>
nm (wf G5 11 ((G5 11 0) + (1 : Int32))) fun G7 =>
some ((1 : Int32), G7))
else
(some ((0 : Int32), G)))))
set_option maxRecDepth 100000 in
set_option maxHeartbeats 4000000 in
theorem cC_TX_takesSecond (G : Nat → Nat → Int32) (E : Nat → Nat → Int64) (Dd : Nat → Nat → UInt64) (P : Nat → Option Nat) (L : List Nat) (pf : Nat → va_E) (a0 : Int32) (a1 : Int32) (rv : Int32) (newG : Nat → Nat → Int32) (hf : C_TX_takesSecond G a0 a1 = some (rv, newG)) : sMi D (cT cI cJ cD cS) (cW ad cI cJ cD cS) l yX10_takesSecond (ws1 yX10_takesSecond cX10_takesSecond 3 (some .boolean)) ({ frames := 1, cells := 0, slots := 0, locals := 23 }) [.ref (ad 6), .int a0, .int a1] (G, E, Dd, P, L, pf) (rv, (newG, E, Dd, P, L, pf)) := by
  unfold C_TX_takesSecond at hf
  refine sMz_of (by decide) (Nat.le_of_ble_eq_true rfl) ?_
  intro p e R s m args below meth c A Q ls H lo F hRf hRl I hl ret
  obtain ⟨hx, hb, hml, hown, hG⟩ := id F
  replace hl : lv_has ls 3 [(0, .ref (ad 6)), (1, .int a0), (2, .int a1)] := hl
  refine lv_iload_n hx hb dX10_takesSecond_0 rfl (lv_at hl 1 rfl) ?_
  refine lv_if_lt (tgt := 29) hx hb dX10_takesSecond_1 (by decide) (fun c12 => ?_) (fun c12 => ?_)
  · replace hf := (if_pos c12).symm.trans hf
    refine lv_iconst (v := (0 : Int32)) hx hb dX10_takesSecond_29 (by decide) ?_
    cases hf
    exact ret H lo _ ls I (Or.inl rfl) dX10_takesSecond_30
  · replace hf := (if_neg c12).symm.trans hf
    refine lv_iload_n hx hb dX10_takesSecond_4 rfl (lv_at hl 1 rfl) ?_
    refine lv_iload_n hx hb dX10_takesSecond_5 rfl (lv_at hl 2 rfl) ?_
    refine lv_icmp_ge (tgt := 29) hx hb dX10_takesSecond_6 (by decide) (fun c11 => ?_) (fun c11 => ?_)
    · replace hf := (if_pos c11).symm.trans hf
      refine lv_iconst (v := (0 : Int32)) hx hb dX10_takesSecond_29 (by decide) ?_
      cases hf
      exact ret H lo _ ls I (Or.inl rfl) dX10_takesSecond_30
    · replace hf := (if_neg c11).symm.trans hf
      refine lv_iload_n hx hb dX10_takesSecond_9 rfl (lv_at hl 1 rfl) ?_
      refine lv_aload_n hx hb dX10_takesSecond_10 rfl (lv_at hl 0 rfl) ?_
      refine kgtX10_31_6 F I dX10_takesSecond_11 ?_
      refine lv_icmp_eq (tgt := 29) hx hb dX10_takesSecond_14 (by decide) (fun c10 => ?_) (fun c10 => ?_)
      · replace hf := (if_pos c10).symm.trans hf
        refine lv_iconst (v := (0 : Int32)) hx hb dX10_takesSecond_29 (by decide) ?_
        cases hf
        exact ret H lo _ ls I (Or.inl rfl) dX10_takesSecond_30
      · replace hf := (if_neg c10).symm.trans hf
        refine lv_aload_n hx hb dX10_takesSecond_17 rfl (lv_at hl 0 rfl) ?_
        refine kgtX10_22_6 F I dX10_takesSecond_18 ?_
        refine lv_aload_n hx hb dX10_takesSecond_21 rfl (lv_at hl 0 rfl) ?_
        refine kgtX10_19_6 F I dX10_takesSecond_22 ?_
        refine kln8 F I dX10_takesSecond_25 ?_
        refine lv_icmp_lt (tgt := 31) hx hb dX10_takesSecond_26 (by decide) (fun c9 => ?_) (fun c9 => ?_)
        · replace hf := (if_pos c9).symm.trans hf
          refine lv_aload_n hx hb dX10_takesSecond_31 rfl (lv_at hl 0 rfl) ?_
          refine kgtX10_19_6 F I dX10_takesSecond_32 ?_
          refine lv_aload_n hx hb dX10_takesSecond_35 rfl (lv_at hl 0 rfl) ?_
          refine kgtX10_22_6 F I dX10_takesSecond_36 ?_
          refine lv_aload_n hx hb dX10_takesSecond_39 rfl (lv_at hl 0 rfl) ?_
          refine kgtX10_28_6 F I dX10_takesSecond_40 ?_
          refine lv_aload_n hx hb dX10_takesSecond_43 rfl (lv_at hl 0 rfl) ?_
          refine kgtX10_31_6 F I dX10_takesSecond_44 ?_
          refine lv_iload_n hx hb dX10_takesSecond_47 rfl (lv_at hl 1 rfl) ?_
          refine lv_aload_n hx hb dX10_takesSecond_48 rfl (lv_at hl 0 rfl) ?_
          refine kgtX10_34_6 F I dX10_takesSecond_49 ?_
          obtain ⟨r1, h2⟩ : ∃ z, z = C_CO_packed (G 13 0) (G 14 0) a0 (G 15 0) := ⟨_, rfl⟩
          replace hf := nm_some h2 hf
          refine s_callSi (As := [.int (G 13 0), .int (G 14 0), .int a0, .int (G 15 0)]) (rest := [.int (G 11 0), .ref (ad 8)]) F I (cC_CO_packed G E Dd P L pf (G 13 0) (G 14 0) a0 (G 15 0) r1 h2) kX10_57 ⟨rfl, rfl⟩ ⟨Nat.le_trans (Nat.le_of_ble_eq_true rfl) hRf, Nat.le_trans (Nat.le_of_ble_eq_true rfl) hRl⟩ rfl rfl hl.1 (Nat.le_of_ble_eq_true rfl) ⟨Nat.zero_le _, Nat.zero_le _⟩ dX10_takesSecond_52 ?_
          intro H_3 lo_3 I_3
          obtain ⟨g4, hf⟩ := ri_some hf
          refine kas8 F I_3 g4 dX10_takesSecond_55 ?_
          intro H_6 lo_6 G5 eG5 I_6
          replace hf := nm_some eG5 hf
          refine lv_aload_n hx hb dX10_takesSecond_56 rfl (lv_at hl 0 rfl) ?_
          refine lv_dup hx hb dX10_takesSecond_57 rfl ?_
          refine kgtX10_22_6 F I_6 dX10_takesSecond_58 ?_
          refine lv_iconst (v := (1 : Int32)) hx hb dX10_takesSecond_61 (by decide) ?_
          refine lv_iadd hx hb dX10_takesSecond_62 ?_
          refine kptX10_22_6 F I_6 dX10_takesSecond_63 ?_
          intro H_8 lo_8 G7 eG7 I_8
          replace hf := nm_some eG7 hf
          refine lv_iconst (v := (1 : Int32)) hx hb dX10_takesSecond_66 (by decide) ?_
          cases hf
          exact ret H_8 lo_8 _ ls I_8 (Or.inr rfl) dX10_takesSecond_67
        · replace hf := (if_neg c9).symm.trans hf
          refine lv_iconst (v := (0 : Int32)) hx hb dX10_takesSecond_29 (by decide) ?_
          cases hf
          exact ret H lo _ ls I (Or.inl rfl) dX10_takesSecond_30
def C_TX_takes (G : Nat → Nat → Int32) (a0 : Int32) (a1 : Int32) (a2 : Int32) : Option (Int32 × (Nat → Nat → Int32)) :=
nm (G 12 0 : Int32) fun x1 =>
if x1 = (0 : Int32) then
(nm (wf G 13 (a0 - (48 : Int32))) fun G3 =>
nm (wf G3 12 (1 : Int32)) fun G5 =>
if G5 13 0 < 0 then
(some ((0 : Int32), G5))
else
(if a2 ≤ G5 13 0 then
(some ((0 : Int32), G5))
else
(some ((1 : Int32), G5))))
else if x1 = (1 : Int32) then
(nm (wf G 12 (2 : Int32)) fun G10 =>
if a0 = (58 : Int32) then
(some ((1 : Int32), G10))
else
(some ((0 : Int32), G10)))
else if x1 = (2 : Int32) then
(nm (wf G 14 (a0 - (97 : Int32))) fun G14 =>
nm (wf G14 12 (3 : Int32)) fun G16 =>
if G16 14 0 < 0 then
(some ((0 : Int32), G16))
else
(if a1 ≤ G16 14 0 then
(some ((0 : Int32), G16))
else
(some ((1 : Int32), G16))))
else if x1 = (3 : Int32) then
(bd (C_TX_answerOfSign a0) fun r21 =>
nm (wf G 15 r21) fun G24 =>
nm (wf G24 12 (4 : Int32)) fun G26 =>
if G26 15 0 = (-1 : Int32) then
(some ((0 : Int32), G26))
else
(some ((1 : Int32), G26)))
else if x1 = (4 : Int32) then
(nm (wf G 12 (5 : Int32)) fun G30 =>
bd2 (C_TX_takesSecond G30 (a0 - (97 : Int32)) a1) fun r32 G33 =>
gd (r32 = 0 ∨ r32 = 1) <|
some (r32, G33))
else (bd (if a0 = (44 : Int32) then
(some (2 : Int32))
else
(some (0 : Int32))) fun x38 =>
nm (wf G 12 x38) fun G41 =>
if a0 = (44 : Int32) then
(some ((1 : Int32), G41))
else
(if a0 = (59 : Int32) then
(some ((1 : Int32), G41))
else
(some ((0 : Int32), G41))))
set_option maxRecDepth 100000 in
set_option maxHeartbeats 4000000 in
theorem cC_TX_takes (G : Nat → Nat → Int32) (E : Nat → Nat → Int64) (Dd : Nat → Nat → UInt64) (P : Nat → Option Nat) (L : List Nat) (pf : Nat → va_E) (a0 : Int32) (a1 : Int32) (a2 : Int32) (rv : Int32) (newG : Nat → Nat → Int32) (hf : C_TX_takes G a0 a1 a2 = some (rv, newG)) : sMi D (cT cI cJ cD cS) (cW ad cI cJ cD cS) l yX10_takes (ws1 yX10_takes cX10_takes 4 (some .boolean)) ({ frames := 2, cells := 0, slots := 0, locals := 45 }) [.ref (ad 6), .int a0, .int a1, .int a2] (G, E, Dd, P, L, pf) (rv, (newG, E, Dd, P, L, pf)) := by
  unfold C_TX_takes at hf
  refine sMz_of (by decide) (Nat.le_of_ble_eq_true rfl) ?_
  intro p e R s m args below meth c A Q ls H lo F hRf hRl I hl ret
  obtain ⟨hx, hb, hml, hown, hG⟩ := id F
  replace hl : lv_has ls 4 [(0, .ref (ad 6)), (1, .int a0), (2, .int a1), (3, .int a2)] := hl
  refine lv_aload_n hx hb dX10_takes_0 rfl (lv_at hl 0 rfl) ?_
  refine kgtX10_25_6 F I dX10_takes_1 ?_
  refine lv_topi (fun x1 ex1 => ?_)
  replace hf := nm_some ex1 hf
  by_cases c2 : x1 = (0 : Int32)
  · replace hf := (if_pos c2).symm.trans hf
    refine lv_tableIn (off := 36) (tgt := 40) hx hb dX10_takes_4 (by rw [c2]; decide) (by rw [c2]; decide) (by rw [c2]; rfl) (by decide) ?_
    refine lv_aload_n hx hb dX10_takes_40 rfl (lv_at hl 0 rfl) ?_
    refine lv_iload_n hx hb dX10_takes_41 rfl (lv_at hl 1 rfl) ?_
    refine lv_bipush (v := (48 : Int32)) hx hb dX10_takes_42 (by decide) ?_
    refine lv_isub hx hb dX10_takes_44 ?_
    refine kptX10_28_6 F I dX10_takes_45 ?_
    intro H_4 lo_4 G3 eG3 I_4
    replace hf := nm_some eG3 hf
    refine lv_aload_n hx hb dX10_takes_48 rfl (lv_at hl 0 rfl) ?_
    refine lv_iconst (v := (1 : Int32)) hx hb dX10_takes_49 (by decide) ?_
    refine kptX10_25_6 F I_4 dX10_takes_50 ?_
    intro H_6 lo_6 G5 eG5 I_6
    replace hf := nm_some eG5 hf
    refine lv_aload_n hx hb dX10_takes_53 rfl (lv_at hl 0 rfl) ?_
    refine kgtX10_28_6 F I_6 dX10_takes_54 ?_
    refine lv_if_lt (tgt := 72) hx hb dX10_takes_57 (by decide) (fun c8 => ?_) (fun c8 => ?_)
    · replace hf := (if_pos c8).symm.trans hf
      refine lv_iconst (v := (0 : Int32)) hx hb dX10_takes_72 (by decide) ?_
      cases hf
      exact ret H_6 lo_6 _ ls I_6 (Or.inl rfl) dX10_takes_73
    · replace hf := (if_neg c8).symm.trans hf
      refine lv_aload_n hx hb dX10_takes_60 rfl (lv_at hl 0 rfl) ?_
      refine kgtX10_28_6 F I_6 dX10_takes_61 ?_
      refine lv_iload_n hx hb dX10_takes_64 rfl (lv_at hl 3 rfl) ?_
      refine lv_icmp_ge (tgt := 72) hx hb dX10_takes_65 (by decide) (fun c7 => ?_) (fun c7 => ?_)
      · replace hf := (if_pos c7).symm.trans hf
        refine lv_iconst (v := (0 : Int32)) hx hb dX10_takes_72 (by decide) ?_
        cases hf
        exact ret H_6 lo_6 _ ls I_6 (Or.inl rfl) dX10_takes_73
      · replace hf := (if_neg c7).symm.trans hf
        refine lv_iconst (v := (1 : Int32)) hx hb dX10_takes_68 (by decide) ?_
        refine lv_goto (tgt := 73) hx hb dX10_takes_69 (by decide) ?_
        cases hf
        exact ret H_6 lo_6 _ ls I_6 (Or.inr rfl) dX10_takes_73
  replace hf := (if_neg c2).symm.trans hf
  by_cases c9 : x1 = (1 : Int32)
  · replace hf := (if_pos c9).symm.trans hf
    refine lv_tableIn (off := 70) (tgt := 74) hx hb dX10_takes_4 (by rw [c9]; decide) (by rw [c9]; decide) (by rw [c9]; rfl) (by decide) ?_
    refine lv_aload_n hx hb dX10_takes_74 rfl (lv_at hl 0 rfl) ?_
    refine lv_iconst (v := (2 : Int32)) hx hb dX10_takes_75 (by decide) ?_
    refine kptX10_25_6 F I dX10_takes_76 ?_
    intro H_11 lo_11 G10 eG10 I_11
    replace hf := nm_some eG10 hf
    refine lv_iload_n hx hb dX10_takes_79 rfl (lv_at hl 1 rfl) ?_
    refine lv_bipush (v := (58 : Int32)) hx hb dX10_takes_80 (by decide) ?_
    refine lv_icmp_ne (tgt := 89) hx hb dX10_takes_82 (by decide) (fun c12 => ?_) (fun c12 => ?_)
    · replace hf := (if_neg c12).symm.trans hf
      refine lv_iconst (v := (0 : Int32)) hx hb dX10_takes_89 (by decide) ?_
      cases hf
      exact ret H_11 lo_11 _ ls I_11 (Or.inl rfl) dX10_takes_90
    · replace hf := (if_pos c12).symm.trans hf
      refine lv_iconst (v := (1 : Int32)) hx hb dX10_takes_85 (by decide) ?_
      refine lv_goto (tgt := 90) hx hb dX10_takes_86 (by decide) ?_
      cases hf
      exact ret H_11 lo_11 _ ls I_11 (Or.inr rfl) dX10_takes_90
  replace hf := (if_neg c9).symm.trans hf
  by_cases c13 : x1 = (2 : Int32)
  · replace hf := (if_pos c13).symm.trans hf
    refine lv_tableIn (off := 87) (tgt := 91) hx hb dX10_takes_4 (by rw [c13]; decide) (by rw [c13]; decide) (by rw [c13]; rfl) (by decide) ?_
    refine lv_aload_n hx hb dX10_takes_91 rfl (lv_at hl 0 rfl) ?_
    refine lv_iload_n hx hb dX10_takes_92 rfl (lv_at hl 1 rfl) ?_
    refine lv_bipush (v := (97 : Int32)) hx hb dX10_takes_93 (by decide) ?_
    refine lv_isub hx hb dX10_takes_95 ?_
    refine kptX10_31_6 F I dX10_takes_96 ?_
    intro H_15 lo_15 G14 eG14 I_15
    replace hf := nm_some eG14 hf
    refine lv_aload_n hx hb dX10_takes_99 rfl (lv_at hl 0 rfl) ?_
    refine lv_iconst (v := (3 : Int32)) hx hb dX10_takes_100 (by decide) ?_
    refine kptX10_25_6 F I_15 dX10_takes_101 ?_
    intro H_17 lo_17 G16 eG16 I_17
    replace hf := nm_some eG16 hf
    refine lv_aload_n hx hb dX10_takes_104 rfl (lv_at hl 0 rfl) ?_
    refine kgtX10_31_6 F I_17 dX10_takes_105 ?_
    refine lv_if_lt (tgt := 123) hx hb dX10_takes_108 (by decide) (fun c19 => ?_) (fun c19 => ?_)
    · replace hf := (if_pos c19).symm.trans hf
      refine lv_iconst (v := (0 : Int32)) hx hb dX10_takes_123 (by decide) ?_
      cases hf
      exact ret H_17 lo_17 _ ls I_17 (Or.inl rfl) dX10_takes_124
    · replace hf := (if_neg c19).symm.trans hf
      refine lv_aload_n hx hb dX10_takes_111 rfl (lv_at hl 0 rfl) ?_
      refine kgtX10_31_6 F I_17 dX10_takes_112 ?_
      refine lv_iload_n hx hb dX10_takes_115 rfl (lv_at hl 2 rfl) ?_
      refine lv_icmp_ge (tgt := 123) hx hb dX10_takes_116 (by decide) (fun c18 => ?_) (fun c18 => ?_)
      · replace hf := (if_pos c18).symm.trans hf
        refine lv_iconst (v := (0 : Int32)) hx hb dX10_takes_123 (by decide) ?_
        cases hf
        exact ret H_17 lo_17 _ ls I_17 (Or.inl rfl) dX10_takes_124
      · replace hf := (if_neg c18).symm.trans hf
        refine lv_iconst (v := (1 : Int32)) hx hb dX10_takes_119 (by decide) ?_
        refine lv_goto (tgt := 124) hx hb dX10_takes_120 (by decide) ?_
        cases hf
        exact ret H_17 lo_17 _ ls I_17 (Or.inr rfl) dX10_takes_124
  replace hf := (if_neg c13).symm.trans hf
  by_cases c20 : x1 = (3 : Int32)
  · replace hf := (if_pos c20).symm.trans hf
    refine lv_tableIn (off := 121) (tgt := 125) hx hb dX10_takes_4 (by rw [c20]; decide) (by rw [c20]; decide) (by rw [c20]; rfl) (by decide) ?_
    refine lv_aload_n hx hb dX10_takes_125 rfl (lv_at hl 0 rfl) ?_
    refine lv_iload_n hx hb dX10_takes_126 rfl (lv_at hl 1 rfl) ?_
    obtain ⟨r21, h22, hf⟩ := bd_some hf
    refine s_callSi (As := [.int a0]) (rest := [.ref (ad 6)]) F I (cC_TX_answerOfSign G E Dd P L pf a0 r21 h22) kX10_49 ⟨rfl, rfl⟩ ⟨Nat.le_trans (Nat.le_of_ble_eq_true rfl) hRf, Nat.le_trans (Nat.le_of_ble_eq_true rfl) hRl⟩ rfl rfl hl.1 (Nat.le_of_ble_eq_true rfl) ⟨Nat.zero_le _, Nat.zero_le _⟩ dX10_takes_127 ?_
    intro H_23 lo_23 I_23
    refine kptX10_34_6 F I_23 dX10_takes_130 ?_
    intro H_25 lo_25 G24 eG24 I_25
    replace hf := nm_some eG24 hf
    refine lv_aload_n hx hb dX10_takes_133 rfl (lv_at hl 0 rfl) ?_
    refine lv_iconst (v := (4 : Int32)) hx hb dX10_takes_134 (by decide) ?_
    refine kptX10_25_6 F I_25 dX10_takes_135 ?_
    intro H_27 lo_27 G26 eG26 I_27
    replace hf := nm_some eG26 hf
    refine lv_aload_n hx hb dX10_takes_138 rfl (lv_at hl 0 rfl) ?_
    refine kgtX10_34_6 F I_27 dX10_takes_139 ?_
    refine lv_iconst (v := (-1 : Int32)) hx hb dX10_takes_142 (by decide) ?_
    refine lv_icmp_eq (tgt := 150) hx hb dX10_takes_143 (by decide) (fun c28 => ?_) (fun c28 => ?_)
    · replace hf := (if_pos c28).symm.trans hf
      refine lv_iconst (v := (0 : Int32)) hx hb dX10_takes_150 (by decide) ?_
      cases hf
      exact ret H_27 lo_27 _ ls I_27 (Or.inl rfl) dX10_takes_151
    · replace hf := (if_neg c28).symm.trans hf
      refine lv_iconst (v := (1 : Int32)) hx hb dX10_takes_146 (by decide) ?_
      refine lv_goto (tgt := 151) hx hb dX10_takes_147 (by decide) ?_
      cases hf
      exact ret H_27 lo_27 _ ls I_27 (Or.inr rfl) dX10_takes_151
  replace hf := (if_neg c20).symm.trans hf
  by_cases c29 : x1 = (4 : Int32)
  · replace hf := (if_pos c29).symm.trans hf
    refine lv_tableIn (off := 148) (tgt := 152) hx hb dX10_takes_4 (by rw [c29]; decide) (by rw [c29]; decide) (by rw [c29]; rfl) (by decide) ?_
    refine lv_aload_n hx hb dX10_takes_152 rfl (lv_at hl 0 rfl) ?_
    refine lv_iconst (v := (5 : Int32)) hx hb dX10_takes_153 (by decide) ?_
    refine kptX10_25_6 F I dX10_takes_154 ?_
    intro H_31 lo_31 G30 eG30 I_31
    replace hf := nm_some eG30 hf
    refine lv_aload_n hx hb dX10_takes_157 rfl (lv_at hl 0 rfl) ?_
    refine lv_iload_n hx hb dX10_takes_158 rfl (lv_at hl 1 rfl) ?_
    refine lv_bipush (v := (97 : Int32)) hx hb dX10_takes_159 (by decide) ?_
    refine lv_isub hx hb dX10_takes_161 ?_
    refine lv_iload_n hx hb dX10_takes_162 rfl (lv_at hl 2 rfl) ?_
    obtain ⟨r32, G33, h34, hf⟩ := bd2_some hf
    refine s_callVi (As := [.int (a0 - (97 : Int32)), .int a1]) (rest := []) F I_31 (cC_TX_takesSecond G30 E Dd P L pf (a0 - (97 : Int32)) a1 r32 G33 h34) kX10_53 ⟨rfl, rfl⟩ ⟨Nat.le_trans (Nat.le_of_ble_eq_true rfl) hRf, Nat.le_trans (Nat.le_of_ble_eq_true rfl) hRl⟩ 6 10 rfl rfl rfl rfl rfl hl.1 (Nat.le_of_ble_eq_true rfl) ⟨Nat.zero_le _, Nat.zero_le _⟩ dX10_takes_163 ?_
    intro H_35 lo_35 I_35
    obtain ⟨g36, hf⟩ := gd_some hf
    cases hf
    exact ret H_35 lo_35 _ ls I_35 g36 dX10_takes_166
  replace hf := (if_neg c29).symm.trans hf
  refine lv_tableOut (tgt := 167) hx hb dX10_takes_4 (tsw4 c2 c9 c13 c20 c29) (by decide) ?_
  refine lv_aload_n hx hb dX10_takes_167 rfl (lv_at hl 0 rfl) ?_
  refine lv_iload_n hx hb dX10_takes_168 rfl (lv_at hl 1 rfl) ?_
  refine lv_bipush (v := (44 : Int32)) hx hb dX10_takes_169 (by decide) ?_
  obtain ⟨x38, hv45, hf⟩ := bd_some hf
  have J37 : ∀ (H : Heap) (locs : List Loc), sInv D (cT cI cJ cD cS) (cW ad cI cJ cD cS) A s H locs (G, E, Dd, P, L, pf) → ∀ (ls : Array Slot), lv_has ls 4 [(1, .int a0)] → W p l e R s m args below meth c H locs 0 0 Q (F0 m 179 ls [.int x38, .ref (ad 6)]) := by
    intro H_39 lo_39 I_39 ls_40 hl_40
    refine kptX10_25_6 F I_39 dX10_takes_179 ?_
    intro H_42 lo_42 G41 eG41 I_42
    replace hf := nm_some eG41 hf
    refine lv_iload_n hx hb dX10_takes_182 rfl (lv_at hl_40 0 rfl) ?_
    refine lv_bipush (v := (44 : Int32)) hx hb dX10_takes_183 (by decide) ?_
    refine lv_icmp_eq (tgt := 194) hx hb dX10_takes_185 (by decide) (fun c44 => ?_) (fun c44 => ?_)
    · replace hf := (if_pos c44).symm.trans hf
      refine lv_iconst (v := (1 : Int32)) hx hb dX10_takes_194 (by decide) ?_
      refine lv_goto (tgt := 199) hx hb dX10_takes_195 (by decide) ?_
      cases hf
      exact ret H_42 lo_42 _ ls_40 I_42 (Or.inr rfl) dX10_takes_199
    · replace hf := (if_neg c44).symm.trans hf
      refine lv_iload_n hx hb dX10_takes_188 rfl (lv_at hl_40 0 rfl) ?_
      refine lv_bipush (v := (59 : Int32)) hx hb dX10_takes_189 (by decide) ?_
      refine lv_icmp_ne (tgt := 198) hx hb dX10_takes_191 (by decide) (fun c43 => ?_) (fun c43 => ?_)
      · replace hf := (if_neg c43).symm.trans hf
        refine lv_iconst (v := (0 : Int32)) hx hb dX10_takes_198 (by decide) ?_
        cases hf
        exact ret H_42 lo_42 _ ls_40 I_42 (Or.inl rfl) dX10_takes_199
      · replace hf := (if_pos c43).symm.trans hf
        refine lv_iconst (v := (1 : Int32)) hx hb dX10_takes_194 (by decide) ?_
        refine lv_goto (tgt := 199) hx hb dX10_takes_195 (by decide) ?_
        cases hf
        exact ret H_42 lo_42 _ ls_40 I_42 (Or.inr rfl) dX10_takes_199
  replace hf := hv45
  refine lv_icmp_ne (tgt := 178) hx hb dX10_takes_171 (by decide) (fun c46 => ?_) (fun c46 => ?_)
  · replace hf := (if_neg c46).symm.trans hf
    refine lv_iconst (v := (0 : Int32)) hx hb dX10_takes_178 (by decide) ?_
    cases hf
    exact J37 H lo I ls (lv_sub hl [1] rfl)
  · replace hf := (if_pos c46).symm.trans hf
    refine lv_iconst (v := (2 : Int32)) hx hb dX10_takes_174 (by decide) ?_
    refine lv_goto (tgt := 179) hx hb dX10_takes_175 (by decide) ?_
    cases hf
    exact J37 H lo I ls (lv_sub hl [1] rfl)
def C_TX_scan_s1 (a0 : Int32) (a1 : Int32) (x6 : Int32) (G7 : Nat → Nat → Int32) : Option ((Int32 × (Nat → Nat → Int32)) ⊕ (Int32 × (Nat → Nat → Int32))) :=
if G7 9 0 ≤ x6 then
(some (.inr (G7 9 0, G7)))
else
(ri 60 x6 <|
bd2 (C_TX_takes G7 (G7 8 x6.toNatClampNeg) a0 a1) fun r11 G12 =>
if r11 = 0 then
(some (.inr (x6, G12)))
else
(nm (x6 + (1 : Int32) : Int32) fun x15 =>
some (.inl (x15, G12))))
def C_TX_scan (G : Nat → Nat → Int32) (a0 : Int32) (a1 : Int32) : Option (Int32 × (Nat → Nat → Int32)) :=
nm (wf G 11 (0 : Int32)) fun G1 =>
nm (wf G1 12 (0 : Int32)) fun G3 =>
lp (fun q => C_TX_scan_s1 a0 a1 q.1 q.2) FU ((0 : Int32), G3)
set_option maxRecDepth 100000 in
set_option maxHeartbeats 4000000 in
theorem cC_TX_scan (G : Nat → Nat → Int32) (E : Nat → Nat → Int64) (Dd : Nat → Nat → UInt64) (P : Nat → Option Nat) (L : List Nat) (pf : Nat → va_E) (a0 : Int32) (a1 : Int32) (rv : Int32) (newG : Nat → Nat → Int32) (hf : C_TX_scan G a0 a1 = some (rv, newG)) : sMi D (cT cI cJ cD cS) (cW ad cI cJ cD cS) l yX10_scan (ws1 yX10_scan cX10_scan 4 (some .int)) ({ frames := 3, cells := 0, slots := 0, locals := 68 }) [.ref (ad 6), .int a0, .int a1] (G, E, Dd, P, L, pf) (rv, (newG, E, Dd, P, L, pf)) := by
  unfold C_TX_scan at hf
  refine sMi_of (by decide) (Nat.le_of_ble_eq_true rfl) ?_
  intro p e R s m args below meth c A Q ls H lo F hRf hRl I hl ret
  obtain ⟨hx, hb, hml, hown, hG⟩ := id F
  replace hl : lv_has ls 4 [(0, .ref (ad 6)), (1, .int a0), (2, .int a1)] := hl
  refine lv_aload_n hx hb dX10_scan_0 rfl (lv_at hl 0 rfl) ?_
  refine lv_iconst (v := (0 : Int32)) hx hb dX10_scan_1 (by decide) ?_
  refine kptX10_22_6 F I dX10_scan_2 ?_
  intro H_2 lo_2 G1 eG1 I_2
  replace hf := nm_some eG1 hf
  refine lv_aload_n hx hb dX10_scan_5 rfl (lv_at hl 0 rfl) ?_
  refine lv_iconst (v := (0 : Int32)) hx hb dX10_scan_6 (by decide) ?_
  refine kptX10_25_6 F I_2 dX10_scan_7 ?_
  intro H_4 lo_4 G3 eG3 I_4
  replace hf := nm_some eG3 hf
  refine lv_iconst (v := (0 : Int32)) hx hb dX10_scan_10 (by decide) ?_
  refine lv_istore_n (lv' := [(3, .int (0 : Int32)), (0, .ref (ad 6)), (1, .int a0), (2, .int a1)]) hx hb dX10_scan_11 rfl hl (by decide) rfl (fun ls_5 hl_5 => ?_)
  have hq1 : lp (fun q => C_TX_scan_s1 a0 a1 q.1 q.2) FU ((0 : Int32), G3) = some (rv, newG) := hf
  have L1 : ∀ (n : Nat) (x6 : Int32) (G7 : Nat → Nat → Int32), lp (fun q => C_TX_scan_s1 a0 a1 q.1 q.2) n (x6, G7) = some (rv, newG) → ∀ (H : Heap) (locs : List Loc), sInv D (cT cI cJ cD cS) (cW ad cI cJ cD cS) A s H locs (G7, E, Dd, P, L, pf) → ∀ (ls : Array Slot), lv_has ls 4 [(0, .ref (ad 6)), (1, .int a0), (2, .int a1), (3, .int x6)] → W p l e R s m args below meth c H locs 0 0 Q (F0 m 12 ls []) := by
    intro n
    induction n with
    | zero => intro x6 G7 hq; exact (lp_0 hq).elim
    | succ n ih1 =>
      intro x6 G7 hq H_8 lo_8 I_8 ls_9 hl_9
      obtain ⟨y1, hf, hK1⟩ := lp_go hq
      replace hf : C_TX_scan_s1 a0 a1 x6 G7 = some y1 := hf
      unfold C_TX_scan_s1 at hf
      refine lv_iload_n hx hb dX10_scan_12 rfl (lv_at hl_9 3 rfl) ?_
      refine lv_aload_n hx hb dX10_scan_13 rfl (lv_at hl_9 0 rfl) ?_
      refine kgtX10_15_6 F I_8 dX10_scan_14 ?_
      refine lv_icmp_ge (tgt := 43) hx hb dX10_scan_17 (by decide) (fun c18 => ?_) (fun c18 => ?_)
      · replace hf := (if_pos c18).symm.trans hf
        refine lv_aload_n hx hb dX10_scan_43 rfl (lv_at hl_9 0 rfl) ?_
        refine kgtX10_15_6 F I_8 dX10_scan_44 ?_
        cases hf
        have hf := congrArg some (show _ = _ from hK1)
        cases hf
        exact ret H_8 lo_8 _ ls_9 I_8 dX10_scan_47
      · replace hf := (if_neg c18).symm.trans hf
        refine lv_aload_n hx hb dX10_scan_20 rfl (lv_at hl_9 0 rfl) ?_
        refine lv_aload_n hx hb dX10_scan_21 rfl (lv_at hl_9 0 rfl) ?_
        refine kgtX10_9_6 F I_8 dX10_scan_22 ?_
        refine lv_iload_n hx hb dX10_scan_25 rfl (lv_at hl_9 3 rfl) ?_
        obtain ⟨g10, hf⟩ := ri_some hf
        refine kal7 F I_8 g10 dX10_scan_26 ?_
        refine lv_iload_n hx hb dX10_scan_27 rfl (lv_at hl_9 1 rfl) ?_
        refine lv_iload_n hx hb dX10_scan_28 rfl (lv_at hl_9 2 rfl) ?_
        obtain ⟨r11, G12, h13, hf⟩ := bd2_some hf
        refine s_callVi (As := [.int (G7 8 x6.toNatClampNeg), .int a0, .int a1]) (rest := []) F I_8 (cC_TX_takes G7 E Dd P L pf (G7 8 x6.toNatClampNeg) a0 a1 r11 G12 h13) kX10_45 ⟨rfl, rfl⟩ ⟨Nat.le_trans (Nat.le_of_ble_eq_true rfl) hRf, Nat.le_trans (Nat.le_of_ble_eq_true rfl) hRl⟩ 6 10 rfl rfl rfl rfl rfl hl_9.1 (Nat.le_of_ble_eq_true rfl) ⟨Nat.zero_le _, Nat.zero_le _⟩ dX10_scan_29 ?_
        intro H_14 lo_14 I_14
        refine lv_if_ne (tgt := 37) hx hb dX10_scan_32 (by decide) (fun c17 => ?_) (fun c17 => ?_)
        · replace hf := (if_neg c17).symm.trans hf
          obtain ⟨x15, ex15⟩ : ∃ y : Int32, y = x6 + (1 : Int32) := ⟨_, rfl⟩
          replace hf := nm_some ex15 hf
          refine lv_iinc (v := x15) (lv' := [(3, .int x15), (0, .ref (ad 6)), (1, .int a0), (2, .int a1)]) hx hb dX10_scan_37 hl_9 (k := 3) rfl (by rw [ex15]; rfl) (by decide) rfl (fun ls_16 hl_16 => ?_)
          refine lv_goto (tgt := 12) hx hb dX10_scan_40 (by decide) ?_
          cases hf
          exact ih1 _ _ hK1 H_14 lo_14 I_14 ls_16 (lv_sub hl_16 [1, 2, 3, 0] rfl)
        · replace hf := (if_pos c17).symm.trans hf
          refine lv_iload_n hx hb dX10_scan_35 rfl (lv_at hl_9 3 rfl) ?_
          cases hf
          have hf := congrArg some (show _ = _ from hK1)
          cases hf
          exact ret H_14 lo_14 _ ls_9 I_14 dX10_scan_36
  exact L1 FU _ _ hq1 H_4 lo_4 I_4 ls_5 (lv_sub hl_5 [1, 2, 3, 0] rfl)
def C_TX_isWhole (G : Nat → Nat → Int32) (a0 : Int32) (a1 : Int32) : Option (Int32 × (Nat → Nat → Int32)) :=
bd2 (C_TX_scan G a0 a1) fun r1 G2 =>
if r1 = G2 9 0 then
(if G2 12 0 = (5 : Int32) then
(some ((1 : Int32), G2))
else
(some ((0 : Int32), G2)))
else
(some ((0 : Int32), G2))
set_option maxRecDepth 100000 in
set_option maxHeartbeats 4000000 in
theorem cC_TX_isWhole (G : Nat → Nat → Int32) (E : Nat → Nat → Int64) (Dd : Nat → Nat → UInt64) (P : Nat → Option Nat) (L : List Nat) (pf : Nat → va_E) (a0 : Int32) (a1 : Int32) (rv : Int32) (newG : Nat → Nat → Int32) (hf : C_TX_isWhole G a0 a1 = some (rv, newG)) : sMi D (cT cI cJ cD cS) (cW ad cI cJ cD cS) l yX10_isWhole (ws1 yX10_isWhole cX10_isWhole 3 (some .boolean)) ({ frames := 4, cells := 0, slots := 0, locals := 91 }) [.ref (ad 6), .int a0, .int a1] (G, E, Dd, P, L, pf) (rv, (newG, E, Dd, P, L, pf)) := by
  unfold C_TX_isWhole at hf
  refine sMz_of (by decide) (Nat.le_of_ble_eq_true rfl) ?_
  intro p e R s m args below meth c A Q ls H lo F hRf hRl I hl ret
  obtain ⟨hx, hb, hml, hown, hG⟩ := id F
  replace hl : lv_has ls 3 [(0, .ref (ad 6)), (1, .int a0), (2, .int a1)] := hl
  refine lv_aload_n hx hb dX10_isWhole_0 rfl (lv_at hl 0 rfl) ?_
  refine lv_iload_n hx hb dX10_isWhole_1 rfl (lv_at hl 1 rfl) ?_
  refine lv_iload_n hx hb dX10_isWhole_2 rfl (lv_at hl 2 rfl) ?_
  obtain ⟨r1, G2, h3, hf⟩ := bd2_some hf
  refine s_callVi (As := [.int a0, .int a1]) (rest := []) F I (cC_TX_scan G E Dd P L pf a0 a1 r1 G2 h3) kX10_41 ⟨rfl, rfl⟩ ⟨Nat.le_trans (Nat.le_of_ble_eq_true rfl) hRf, Nat.le_trans (Nat.le_of_ble_eq_true rfl) hRl⟩ 6 10 rfl rfl rfl rfl rfl hl.1 (Nat.le_of_ble_eq_true rfl) ⟨Nat.zero_le _, Nat.zero_le _⟩ dX10_isWhole_3 ?_
  intro H_4 lo_4 I_4
  refine lv_aload_n hx hb dX10_isWhole_6 rfl (lv_at hl 0 rfl) ?_
  refine kgtX10_15_6 F I_4 dX10_isWhole_7 ?_
  refine lv_icmp_ne (tgt := 25) hx hb dX10_isWhole_10 (by decide) (fun c6 => ?_) (fun c6 => ?_)
  · replace hf := (if_neg c6).symm.trans hf
    refine lv_iconst (v := (0 : Int32)) hx hb dX10_isWhole_25 (by decide) ?_
    cases hf
    exact ret H_4 lo_4 _ ls I_4 (Or.inl rfl) dX10_isWhole_26
  · replace hf := (if_pos c6).symm.trans hf
    refine lv_aload_n hx hb dX10_isWhole_13 rfl (lv_at hl 0 rfl) ?_
    refine kgtX10_25_6 F I_4 dX10_isWhole_14 ?_
    refine lv_iconst (v := (5 : Int32)) hx hb dX10_isWhole_17 (by decide) ?_
    refine lv_icmp_ne (tgt := 25) hx hb dX10_isWhole_18 (by decide) (fun c5 => ?_) (fun c5 => ?_)
    · replace hf := (if_neg c5).symm.trans hf
      refine lv_iconst (v := (0 : Int32)) hx hb dX10_isWhole_25 (by decide) ?_
      cases hf
      exact ret H_4 lo_4 _ ls I_4 (Or.inl rfl) dX10_isWhole_26
    · replace hf := (if_pos c5).symm.trans hf
      refine lv_iconst (v := (1 : Int32)) hx hb dX10_isWhole_21 (by decide) ?_
      refine lv_goto (tgt := 26) hx hb dX10_isWhole_22 (by decide) ?_
      cases hf
      exact ret H_4 lo_4 _ ls I_4 (Or.inr rfl) dX10_isWhole_26
def C_LT_requireIndex (a0 : Int32) (a1 : Int32) : Option (Unit) :=
if a0 < 0 then
(none)
else
(if a0 < a1 then
(some ())
else
(none))
set_option maxRecDepth 100000 in
set_option maxHeartbeats 4000000 in
theorem cC_LT_requireIndex (G : Nat → Nat → Int32) (E : Nat → Nat → Int64) (Dd : Nat → Nat → UInt64) (P : Nat → Option Nat) (L : List Nat) (pf : Nat → va_E) (a0 : Int32) (a1 : Int32)   (hf : C_LT_requireIndex a0 a1 = some ()) : sMv D (cT cI cJ cD cS) (cW ad cI cJ cD cS) l yX11_requireIndex (ws1 yX11_requireIndex cX11_requireIndex 2 none) ({ frames := 0, cells := 0, slots := 0, locals := 0 }) [.int a0, .int a1] (G, E, Dd, P, L, pf) (G, E, Dd, P, L, pf) := by
  unfold C_LT_requireIndex at hf
  refine sMv_of (by decide) (Nat.le_of_ble_eq_true rfl) ?_
  intro p e R s m args below meth c A Q ls H lo F hRf hRl I hl ret
  obtain ⟨hx, hb, hml, hown, hG⟩ := id F
  replace hl : lv_has ls 2 [(0, .int a0), (1, .int a1)] := hl
  refine lv_iload_n hx hb dX11_requireIndex_0 rfl (lv_at hl 0 rfl) ?_
  refine lv_if_lt (tgt := 9) hx hb dX11_requireIndex_1 (by decide) (fun c2 => ?_) (fun c2 => ?_)
  · replace hf := (if_pos c2).symm.trans hf
    cases hf
  · replace hf := (if_neg c2).symm.trans hf
    refine lv_iload_n hx hb dX11_requireIndex_4 rfl (lv_at hl 0 rfl) ?_
    refine lv_iload_n hx hb dX11_requireIndex_5 rfl (lv_at hl 1 rfl) ?_
    refine lv_icmp_lt (tgt := 20) hx hb dX11_requireIndex_6 (by decide) (fun c1 => ?_) (fun c1 => ?_)
    · replace hf := (if_pos c1).symm.trans hf
      cases hf
      exact ret H lo _ ls I dX11_requireIndex_20
    · replace hf := (if_neg c1).symm.trans hf
      cases hf
def C_LT_requireArgument (a0 : Int32) : Option (Unit) :=
if a0 = 0 then
(none)
else
(some ())
set_option maxRecDepth 100000 in
set_option maxHeartbeats 4000000 in
theorem cC_LT_requireArgument (G : Nat → Nat → Int32) (E : Nat → Nat → Int64) (Dd : Nat → Nat → UInt64) (P : Nat → Option Nat) (L : List Nat) (pf : Nat → va_E) (a0 : Int32)   (hf : C_LT_requireArgument a0 = some ()) : sMv D (cT cI cJ cD cS) (cW ad cI cJ cD cS) l yX11_requireArgument (ws1 yX11_requireArgument cX11_requireArgument 1 none) ({ frames := 0, cells := 0, slots := 0, locals := 0 }) [.int a0] (G, E, Dd, P, L, pf) (G, E, Dd, P, L, pf) := by
  unfold C_LT_requireArgument at hf
  refine sMv_of (by decide) (Nat.le_of_ble_eq_true rfl) ?_
  intro p e R s m args below meth c A Q ls H lo F hRf hRl I hl ret
  obtain ⟨hx, hb, hml, hown, hG⟩ := id F
  replace hl : lv_has ls 1 [(0, .int a0)] := hl
  refine lv_iload_n hx hb dX11_requireArgument_0 rfl (lv_at hl 0 rfl) ?_
  refine lv_if_ne (tgt := 15) hx hb dX11_requireArgument_1 (by decide) (fun c1 => ?_) (fun c1 => ?_)
  · replace hf := (if_neg c1).symm.trans hf
    cases hf
    exact ret H lo _ ls I dX11_requireArgument_15
  · replace hf := (if_pos c1).symm.trans hf
    cases hf
def C_LT_setWeight (G : Nat → Nat → Int32) (a0 : Int32) (a1 : Int32) : Option (Int32 × (Nat → Nat → Int32)) :=
bd0 (C_LT_requireIndex a0 (G 1 0)) <|
bd (if a1 < 0 then
(some (0 : Int32))
else
(if (9 : Int32) < a1 then
(some (0 : Int32))
else
(some (1 : Int32)))) fun x4 =>
bd0 (C_LT_requireArgument x4) <|
ri 8 a0 <|
nm (G 2 a0.toNatClampNeg : Int32) fun x10 =>
ri 8 a0 <|
nm (wr G 2 a0 a1) fun G13 =>
some (x10, G13)
set_option maxRecDepth 100000 in
set_option maxHeartbeats 4000000 in
theorem cC_LT_setWeight (G : Nat → Nat → Int32) (E : Nat → Nat → Int64) (Dd : Nat → Nat → UInt64) (P : Nat → Option Nat) (L : List Nat) (pf : Nat → va_E) (a0 : Int32) (a1 : Int32) (rv : Int32) (newG : Nat → Nat → Int32) (hf : C_LT_setWeight G a0 a1 = some (rv, newG)) : sMi D (cT cI cJ cD cS) (cW ad cI cJ cD cS) l yX11_setWeight (ws1 yX11_setWeight cX11_setWeight 4 (some .int)) ({ frames := 1, cells := 0, slots := 0, locals := 21 }) [.ref (ad 0), .int a0, .int a1] (G, E, Dd, P, L, pf) (rv, (newG, E, Dd, P, L, pf)) := by
  unfold C_LT_setWeight at hf
  refine sMi_of (by decide) (Nat.le_of_ble_eq_true rfl) ?_
  intro p e R s m args below meth c A Q ls H lo F hRf hRl I hl ret
  obtain ⟨hx, hb, hml, hown, hG⟩ := id F
  replace hl : lv_has ls 4 [(0, .ref (ad 0)), (1, .int a0), (2, .int a1)] := hl
  refine lv_iload_n hx hb dX11_setWeight_0 rfl (lv_at hl 1 rfl) ?_
  refine lv_aload_n hx hb dX11_setWeight_1 rfl (lv_at hl 0 rfl) ?_
  refine kgtX11_80_0 F I dX11_setWeight_2 ?_
  obtain ⟨h1, hf⟩ := bd0_some hf
  refine s_callSv (As := [.int a0, .int (G 1 0)]) (rest := []) F I (cC_LT_requireIndex G E Dd P L pf a0 (G 1 0) h1) kX11_84 ⟨rfl, rfl⟩ ⟨Nat.le_trans (Nat.le_of_ble_eq_true rfl) hRf, Nat.le_trans (Nat.le_of_ble_eq_true rfl) hRl⟩ rfl rfl hl.1 (Nat.le_of_ble_eq_true rfl) ⟨Nat.zero_le _, Nat.zero_le _⟩ dX11_setWeight_5 ?_
  intro H_2 lo_2 I_2
  refine lv_iload_n hx hb dX11_setWeight_8 rfl (lv_at hl 2 rfl) ?_
  obtain ⟨x4, hv15, hf⟩ := bd_some hf
  have J3 : ∀ (H : Heap) (locs : List Loc), sInv D (cT cI cJ cD cS) (cW ad cI cJ cD cS) A s H locs (G, E, Dd, P, L, pf) → ∀ (ls : Array Slot), lv_has ls 4 [(0, .ref (ad 0)), (1, .int a0), (2, .int a1)] → W p l e R s m args below meth c H locs 0 0 Q (F0 m 23 ls [.int x4]) := by
    intro H_5 lo_5 I_5 ls_6 hl_6
    obtain ⟨h7, hf⟩ := bd0_some hf
    refine s_callSv (As := [.int x4]) (rest := []) F I_5 (cC_LT_requireArgument G E Dd P L pf x4 h7) kX11_76 ⟨rfl, rfl⟩ ⟨Nat.le_trans (Nat.le_of_ble_eq_true rfl) hRf, Nat.le_trans (Nat.le_of_ble_eq_true rfl) hRl⟩ rfl rfl hl_6.1 (Nat.le_of_ble_eq_true rfl) ⟨Nat.zero_le _, Nat.zero_le _⟩ dX11_setWeight_23 ?_
    intro H_8 lo_8 I_8
    refine lv_aload_n hx hb dX11_setWeight_26 rfl (lv_at hl_6 0 rfl) ?_
    refine kgtX11_9_0 F I_8 dX11_setWeight_27 ?_
    refine lv_iload_n hx hb dX11_setWeight_30 rfl (lv_at hl_6 1 rfl) ?_
    obtain ⟨g9, hf⟩ := ri_some hf
    refine kal1 F I_8 g9 dX11_setWeight_31 ?_
    refine lv_topi (fun x10 ex10 => ?_)
    replace hf := nm_some ex10 hf
    refine lv_istore_n (lv' := [(3, .int x10), (0, .ref (ad 0)), (1, .int a0), (2, .int a1)]) hx hb dX11_setWeight_32 rfl hl_6 (by decide) rfl (fun ls_11 hl_11 => ?_)
    refine lv_aload_n hx hb dX11_setWeight_33 rfl (lv_at hl_11 1 rfl) ?_
    refine kgtX11_9_0 F I_8 dX11_setWeight_34 ?_
    refine lv_iload_n hx hb dX11_setWeight_37 rfl (lv_at hl_11 2 rfl) ?_
    refine lv_iload_n hx hb dX11_setWeight_38 rfl (lv_at hl_11 3 rfl) ?_
    obtain ⟨g12, hf⟩ := ri_some hf
    refine kas1 F I_8 g12 dX11_setWeight_39 ?_
    intro H_14 lo_14 G13 eG13 I_14
    replace hf := nm_some eG13 hf
    refine lv_iload_n hx hb dX11_setWeight_40 rfl (lv_at hl_11 0 rfl) ?_
    cases hf
    exact ret H_14 lo_14 _ ls_11 I_14 dX11_setWeight_41
  replace hf := hv15
  refine lv_if_lt (tgt := 22) hx hb dX11_setWeight_9 (by decide) (fun c17 => ?_) (fun c17 => ?_)
  · replace hf := (if_pos c17).symm.trans hf
    refine lv_iconst (v := (0 : Int32)) hx hb dX11_setWeight_22 (by decide) ?_
    cases hf
    exact J3 H_2 lo_2 I_2 ls (lv_sub hl [0, 1, 2] rfl)
  · replace hf := (if_neg c17).symm.trans hf
    refine lv_iload_n hx hb dX11_setWeight_12 rfl (lv_at hl 2 rfl) ?_
    refine lv_bipush (v := (9 : Int32)) hx hb dX11_setWeight_13 (by decide) ?_
    refine lv_icmp_gt (tgt := 22) hx hb dX11_setWeight_15 (by decide) (fun c16 => ?_) (fun c16 => ?_)
    · replace hf := (if_pos c16).symm.trans hf
      refine lv_iconst (v := (0 : Int32)) hx hb dX11_setWeight_22 (by decide) ?_
      cases hf
      exact J3 H_2 lo_2 I_2 ls (lv_sub hl [0, 1, 2] rfl)
    · replace hf := (if_neg c16).symm.trans hf
      refine lv_iconst (v := (1 : Int32)) hx hb dX11_setWeight_18 (by decide) ?_
      refine lv_goto (tgt := 23) hx hb dX11_setWeight_19 (by decide) ?_
      cases hf
      exact J3 H_2 lo_2 I_2 ls (lv_sub hl [0, 1, 2] rfl)
def C_LT_append (G : Nat → Nat → Int32) (a0 : Int32) : Option (Int32 × (Nat → Nat → Int32)) :=
bd (if a0 < (33 : Int32) then
(some (0 : Int32))
else
(if (126 : Int32) < a0 then
(some (0 : Int32))
else
(some (1 : Int32)))) fun x2 =>
bd0 (C_LT_requireArgument x2) <|
bd (C_TX_isFull G) fun r7 =>
if r7 = 0 then
(bd (C_TX_put G a0) fun G10 =>
some (G10 9 0, G10))
else
(none)
set_option maxRecDepth 100000 in
set_option maxHeartbeats 4000000 in
theorem cC_LT_append (G : Nat → Nat → Int32) (E : Nat → Nat → Int64) (Dd : Nat → Nat → UInt64) (P : Nat → Option Nat) (L : List Nat) (pf : Nat → va_E) (a0 : Int32) (rv : Int32) (newG : Nat → Nat → Int32) (hf : C_LT_append G a0 = some (rv, newG)) : sMi D (cT cI cJ cD cS) (cW ad cI cJ cD cS) l yX11_append (ws1 yX11_append cX11_append 2 (some .int)) ({ frames := 2, cells := 0, slots := 0, locals := 41 }) [.ref (ad 0), .int a0] (G, E, Dd, P, L, pf) (rv, (newG, E, Dd, P, L, pf)) := by
  unfold C_LT_append at hf
  refine sMi_of (by decide) (Nat.le_of_ble_eq_true rfl) ?_
  intro p e R s m args below meth c A Q ls H lo F hRf hRl I hl ret
  obtain ⟨hx, hb, hml, hown, hG⟩ := id F
  replace hl : lv_has ls 2 [(0, .ref (ad 0)), (1, .int a0)] := hl
  refine lv_iload_n hx hb dX11_append_0 rfl (lv_at hl 1 rfl) ?_
  refine lv_bipush (v := (33 : Int32)) hx hb dX11_append_1 (by decide) ?_
  obtain ⟨x2, hv14, hf⟩ := bd_some hf
  have J1 : ∀ (H : Heap) (locs : List Loc), sInv D (cT cI cJ cD cS) (cW ad cI cJ cD cS) A s H locs (G, E, Dd, P, L, pf) → ∀ (ls : Array Slot), lv_has ls 2 [(0, .ref (ad 0)), (1, .int a0)] → W p l e R s m args below meth c H locs 0 0 Q (F0 m 17 ls [.int x2]) := by
    intro H_3 lo_3 I_3 ls_4 hl_4
    obtain ⟨h5, hf⟩ := bd0_some hf
    refine s_callSv (As := [.int x2]) (rest := []) F I_3 (cC_LT_requireArgument G E Dd P L pf x2 h5) kX11_76 ⟨rfl, rfl⟩ ⟨Nat.le_trans (Nat.le_of_ble_eq_true rfl) hRf, Nat.le_trans (Nat.le_of_ble_eq_true rfl) hRl⟩ rfl rfl hl_4.1 (Nat.le_of_ble_eq_true rfl) ⟨Nat.zero_le _, Nat.zero_le _⟩ dX11_append_17 ?_
    intro H_6 lo_6 I_6
    refine lv_aload_n hx hb dX11_append_20 rfl (lv_at hl_4 0 rfl) ?_
    refine kgtX11_30_0 F I_6 dX11_append_21 ?_
    obtain ⟨r7, h8, hf⟩ := bd_some hf
    refine s_callVi (As := []) (rest := []) F I_6 (cC_TX_isFull G E Dd P L pf r7 h8) kX11_169 ⟨rfl, rfl⟩ ⟨Nat.le_trans (Nat.le_of_ble_eq_true rfl) hRf, Nat.le_trans (Nat.le_of_ble_eq_true rfl) hRl⟩ 6 10 rfl rfl rfl rfl rfl hl_4.1 (Nat.le_of_ble_eq_true rfl) ⟨Nat.zero_le _, Nat.zero_le _⟩ dX11_append_24 ?_
    intro H_9 lo_9 I_9
    refine lv_if_eq (tgt := 40) hx hb dX11_append_27 (by decide) (fun c13 => ?_) (fun c13 => ?_)
    · replace hf := (if_pos c13).symm.trans hf
      refine lv_aload_n hx hb dX11_append_40 rfl (lv_at hl_4 0 rfl) ?_
      refine kgtX11_30_0 F I_9 dX11_append_41 ?_
      refine lv_iload_n hx hb dX11_append_44 rfl (lv_at hl_4 1 rfl) ?_
      obtain ⟨G10, h11, hf⟩ := bd_some hf
      refine s_callVv (As := [.int a0]) (rest := []) F I_9 (cC_TX_put G E Dd P L pf a0 G10 h11) kX11_172 ⟨rfl, rfl⟩ ⟨Nat.le_trans (Nat.le_of_ble_eq_true rfl) hRf, Nat.le_trans (Nat.le_of_ble_eq_true rfl) hRl⟩ 6 10 rfl rfl rfl rfl rfl hl_4.1 (Nat.le_of_ble_eq_true rfl) ⟨Nat.zero_le _, Nat.zero_le _⟩ dX11_append_45 ?_
      intro H_12 lo_12 I_12
      refine lv_aload_n hx hb dX11_append_48 rfl (lv_at hl_4 0 rfl) ?_
      refine kgtX11_30_0 F I_12 dX11_append_49 ?_
      refine kgtX11_173_6 F I_12 dX11_append_52 ?_
      cases hf
      exact ret H_12 lo_12 _ ls_4 I_12 dX11_append_55
    · replace hf := (if_neg c13).symm.trans hf
      cases hf
  replace hf := hv14
  refine lv_icmp_lt (tgt := 16) hx hb dX11_append_3 (by decide) (fun c16 => ?_) (fun c16 => ?_)
  · replace hf := (if_pos c16).symm.trans hf
    refine lv_iconst (v := (0 : Int32)) hx hb dX11_append_16 (by decide) ?_
    cases hf
    exact J1 H lo I ls (lv_sub hl [0, 1] rfl)
  · replace hf := (if_neg c16).symm.trans hf
    refine lv_iload_n hx hb dX11_append_6 rfl (lv_at hl 1 rfl) ?_
    refine lv_bipush (v := (126 : Int32)) hx hb dX11_append_7 (by decide) ?_
    refine lv_icmp_gt (tgt := 16) hx hb dX11_append_9 (by decide) (fun c15 => ?_) (fun c15 => ?_)
    · replace hf := (if_pos c15).symm.trans hf
      refine lv_iconst (v := (0 : Int32)) hx hb dX11_append_16 (by decide) ?_
      cases hf
      exact J1 H lo I ls (lv_sub hl [0, 1] rfl)
    · replace hf := (if_neg c15).symm.trans hf
      refine lv_iconst (v := (1 : Int32)) hx hb dX11_append_12 (by decide) ?_
      refine lv_goto (tgt := 17) hx hb dX11_append_13 (by decide) ?_
      cases hf
      exact J1 H lo I ls (lv_sub hl [0, 1] rfl)
def C_LT_clearBuffer (G : Nat → Nat → Int32) : Option (Int32 × (Nat → Nat → Int32)) :=
nm (G 9 0 : Int32) fun x1 =>
nm (wf G 9 (0 : Int32)) fun G3 =>
some (x1, G3)
set_option maxRecDepth 100000 in
set_option maxHeartbeats 4000000 in
theorem cC_LT_clearBuffer (G : Nat → Nat → Int32) (E : Nat → Nat → Int64) (Dd : Nat → Nat → UInt64) (P : Nat → Option Nat) (L : List Nat) (pf : Nat → va_E)  (rv : Int32) (newG : Nat → Nat → Int32) (hf : C_LT_clearBuffer G = some (rv, newG)) : sMi D (cT cI cJ cD cS) (cW ad cI cJ cD cS) l yX11_clearBuffer (ws1 yX11_clearBuffer cX11_clearBuffer 2 (some .int)) ({ frames := 0, cells := 0, slots := 0, locals := 0 }) [.ref (ad 0)] (G, E, Dd, P, L, pf) (rv, (newG, E, Dd, P, L, pf)) := by
  unfold C_LT_clearBuffer at hf
  refine sMi_of (by decide) (Nat.le_of_ble_eq_true rfl) ?_
  intro p e R s m args below meth c A Q ls H lo F hRf hRl I hl ret
  obtain ⟨hx, hb, hml, hown, hG⟩ := id F
  replace hl : lv_has ls 2 [(0, .ref (ad 0))] := hl
  refine lv_aload_n hx hb dX11_clearBuffer_0 rfl (lv_at hl 0 rfl) ?_
  refine kgtX11_30_0 F I dX11_clearBuffer_1 ?_
  refine kgtX11_173_6 F I dX11_clearBuffer_4 ?_
  refine lv_topi (fun x1 ex1 => ?_)
  replace hf := nm_some ex1 hf
  refine lv_istore_n (lv' := [(1, .int x1), (0, .ref (ad 0))]) hx hb dX11_clearBuffer_7 rfl hl (by decide) rfl (fun ls_2 hl_2 => ?_)
  refine lv_aload_n hx hb dX11_clearBuffer_8 rfl (lv_at hl_2 1 rfl) ?_
  refine kgtX11_30_0 F I dX11_clearBuffer_9 ?_
  refine lv_iconst (v := (0 : Int32)) hx hb dX11_clearBuffer_12 (by decide) ?_
  refine kptX11_173_6 F I dX11_clearBuffer_13 ?_
  intro H_4 lo_4 G3 eG3 I_4
  replace hf := nm_some eG3 hf
  refine lv_iload_n hx hb dX11_clearBuffer_16 rfl (lv_at hl_2 0 rfl) ?_
  cases hf
  exact ret H_4 lo_4 _ ls_2 I_4 dX11_clearBuffer_17
def C_LT_firstError (G : Nat → Nat → Int32) : Option (Int32 × (Nat → Nat → Int32)) :=
bd2 (C_TX_scan G (G 0 0) (G 1 0)) fun r1 G2 =>
some (r1, G2)
set_option maxRecDepth 100000 in
set_option maxHeartbeats 4000000 in
theorem cC_LT_firstError (G : Nat → Nat → Int32) (E : Nat → Nat → Int64) (Dd : Nat → Nat → UInt64) (P : Nat → Option Nat) (L : List Nat) (pf : Nat → va_E)  (rv : Int32) (newG : Nat → Nat → Int32) (hf : C_LT_firstError G = some (rv, newG)) : sMi D (cT cI cJ cD cS) (cW ad cI cJ cD cS) l yX11_firstError (ws1 yX11_firstError cX11_firstError 1 (some .int)) ({ frames := 4, cells := 0, slots := 0, locals := 91 }) [.ref (ad 0)] (G, E, Dd, P, L, pf) (rv, (newG, E, Dd, P, L, pf)) := by
  unfold C_LT_firstError at hf
  refine sMi_of (by decide) (Nat.le_of_ble_eq_true rfl) ?_
  intro p e R s m args below meth c A Q ls H lo F hRf hRl I hl ret
  obtain ⟨hx, hb, hml, hown, hG⟩ := id F
  replace hl : lv_has ls 1 [(0, .ref (ad 0))] := hl
  refine lv_aload_n hx hb dX11_firstError_0 rfl (lv_at hl 0 rfl) ?_
  refine kgtX11_30_0 F I dX11_firstError_1 ?_
  refine lv_aload_n hx hb dX11_firstError_4 rfl (lv_at hl 0 rfl) ?_
  refine kgtX11_89_0 F I dX11_firstError_5 ?_
  refine lv_aload_n hx hb dX11_firstError_8 rfl (lv_at hl 0 rfl) ?_
  refine kgtX11_80_0 F I dX11_firstError_9 ?_
  obtain ⟨r1, G2, h3, hf⟩ := bd2_some hf
  refine s_callVi (As := [.int (G 0 0), .int (G 1 0)]) (rest := []) F I (cC_TX_scan G E Dd P L pf (G 0 0) (G 1 0) r1 G2 h3) kX11_176 ⟨rfl, rfl⟩ ⟨Nat.le_trans (Nat.le_of_ble_eq_true rfl) hRf, Nat.le_trans (Nat.le_of_ble_eq_true rfl) hRl⟩ 6 10 rfl rfl rfl rfl rfl hl.1 (Nat.le_of_ble_eq_true rfl) ⟨Nat.zero_le _, Nat.zero_le _⟩ dX11_firstError_12 ?_
  intro H_4 lo_4 I_4
  cases hf
  exact ret H_4 lo_4 _ ls I_4 dX11_firstError_15
def C_LT_comparison (G : Nat → Nat → Int32) (a0 : Int32) (a1 : Int32) : Option (Int32) :=
bd0 (C_LT_requireIndex a0 (G 5 0)) <|
bd (if a1 < 0 then
(some (0 : Int32))
else
(if (3 : Int32) < a1 then
(some (0 : Int32))
else
(some (1 : Int32)))) fun x4 =>
bd0 (C_LT_requireArgument x4) <|
bd (C_CO_at G a0) fun r9 =>
bd (C_CO_propertyOf r9 a1) fun r12 =>
some r12
set_option maxRecDepth 100000 in
set_option maxHeartbeats 4000000 in
theorem cC_LT_comparison (G : Nat → Nat → Int32) (E : Nat → Nat → Int64) (Dd : Nat → Nat → UInt64) (P : Nat → Option Nat) (L : List Nat) (pf : Nat → va_E) (a0 : Int32) (a1 : Int32) (rv : Int32)  (hf : C_LT_comparison G a0 a1 = some rv) : sMi D (cT cI cJ cD cS) (cW ad cI cJ cD cS) l yX11_comparison (ws1 yX11_comparison cX11_comparison 3 (some .int)) ({ frames := 2, cells := 0, slots := 0, locals := 41 }) [.ref (ad 0), .int a0, .int a1] (G, E, Dd, P, L, pf) (rv, (G, E, Dd, P, L, pf)) := by
  unfold C_LT_comparison at hf
  refine sMi_of (by decide) (Nat.le_of_ble_eq_true rfl) ?_
  intro p e R s m args below meth c A Q ls H lo F hRf hRl I hl ret
  obtain ⟨hx, hb, hml, hown, hG⟩ := id F
  replace hl : lv_has ls 3 [(0, .ref (ad 0)), (1, .int a0), (2, .int a1)] := hl
  refine lv_iload_n hx hb dX11_comparison_0 rfl (lv_at hl 1 rfl) ?_
  refine lv_aload_n hx hb dX11_comparison_1 rfl (lv_at hl 0 rfl) ?_
  refine kgtX11_16_0 F I dX11_comparison_2 ?_
  refine kgtX11_149_2 F I dX11_comparison_5 ?_
  obtain ⟨h1, hf⟩ := bd0_some hf
  refine s_callSv (As := [.int a0, .int (G 5 0)]) (rest := []) F I (cC_LT_requireIndex G E Dd P L pf a0 (G 5 0) h1) kX11_84 ⟨rfl, rfl⟩ ⟨Nat.le_trans (Nat.le_of_ble_eq_true rfl) hRf, Nat.le_trans (Nat.le_of_ble_eq_true rfl) hRl⟩ rfl rfl hl.1 (Nat.le_of_ble_eq_true rfl) ⟨Nat.zero_le _, Nat.zero_le _⟩ dX11_comparison_8 ?_
  intro H_2 lo_2 I_2
  refine lv_iload_n hx hb dX11_comparison_11 rfl (lv_at hl 2 rfl) ?_
  obtain ⟨x4, hv15, hf⟩ := bd_some hf
  have J3 : ∀ (H : Heap) (locs : List Loc), sInv D (cT cI cJ cD cS) (cW ad cI cJ cD cS) A s H locs (G, E, Dd, P, L, pf) → ∀ (ls : Array Slot), lv_has ls 3 [(0, .ref (ad 0)), (1, .int a0), (2, .int a1)] → W p l e R s m args below meth c H locs 0 0 Q (F0 m 25 ls [.int x4]) := by
    intro H_5 lo_5 I_5 ls_6 hl_6
    obtain ⟨h7, hf⟩ := bd0_some hf
    refine s_callSv (As := [.int x4]) (rest := []) F I_5 (cC_LT_requireArgument G E Dd P L pf x4 h7) kX11_76 ⟨rfl, rfl⟩ ⟨Nat.le_trans (Nat.le_of_ble_eq_true rfl) hRf, Nat.le_trans (Nat.le_of_ble_eq_true rfl) hRl⟩ rfl rfl hl_6.1 (Nat.le_of_ble_eq_true rfl) ⟨Nat.zero_le _, Nat.zero_le _⟩ dX11_comparison_25 ?_
    intro H_8 lo_8 I_8
    refine lv_aload_n hx hb dX11_comparison_28 rfl (lv_at hl_6 0 rfl) ?_
    refine kgtX11_16_0 F I_8 dX11_comparison_29 ?_
    refine lv_iload_n hx hb dX11_comparison_32 rfl (lv_at hl_6 1 rfl) ?_
    obtain ⟨r9, h10, hf⟩ := bd_some hf
    refine s_callVi (As := [.int a0]) (rest := []) F I_8 (cC_CO_at G E Dd P L pf a0 r9 h10) kX11_193 ⟨rfl, rfl⟩ ⟨Nat.le_trans (Nat.le_of_ble_eq_true rfl) hRf, Nat.le_trans (Nat.le_of_ble_eq_true rfl) hRl⟩ 2 1 rfl rfl rfl rfl rfl hl_6.1 (Nat.le_of_ble_eq_true rfl) ⟨Nat.zero_le _, Nat.zero_le _⟩ dX11_comparison_33 ?_
    intro H_11 lo_11 I_11
    refine lv_iload_n hx hb dX11_comparison_36 rfl (lv_at hl_6 2 rfl) ?_
    obtain ⟨r12, h13, hf⟩ := bd_some hf
    refine s_callSi (As := [.int r9, .int a1]) (rest := []) F I_11 (cC_CO_propertyOf G E Dd P L pf r9 a1 r12 h13) kX11_196 ⟨rfl, rfl⟩ ⟨Nat.le_trans (Nat.le_of_ble_eq_true rfl) hRf, Nat.le_trans (Nat.le_of_ble_eq_true rfl) hRl⟩ rfl rfl hl_6.1 (Nat.le_of_ble_eq_true rfl) ⟨Nat.zero_le _, Nat.zero_le _⟩ dX11_comparison_37 ?_
    intro H_14 lo_14 I_14
    cases hf
    exact ret H_14 lo_14 _ ls_6 I_14 dX11_comparison_40
  replace hf := hv15
  refine lv_if_lt (tgt := 24) hx hb dX11_comparison_12 (by decide) (fun c17 => ?_) (fun c17 => ?_)
  · replace hf := (if_pos c17).symm.trans hf
    refine lv_iconst (v := (0 : Int32)) hx hb dX11_comparison_24 (by decide) ?_
    cases hf
    exact J3 H_2 lo_2 I_2 ls (lv_sub hl [0, 1, 2] rfl)
  · replace hf := (if_neg c17).symm.trans hf
    refine lv_iload_n hx hb dX11_comparison_15 rfl (lv_at hl 2 rfl) ?_
    refine lv_iconst (v := (3 : Int32)) hx hb dX11_comparison_16 (by decide) ?_
    refine lv_icmp_gt (tgt := 24) hx hb dX11_comparison_17 (by decide) (fun c16 => ?_) (fun c16 => ?_)
    · replace hf := (if_pos c16).symm.trans hf
      refine lv_iconst (v := (0 : Int32)) hx hb dX11_comparison_24 (by decide) ?_
      cases hf
      exact J3 H_2 lo_2 I_2 ls (lv_sub hl [0, 1, 2] rfl)
    · replace hf := (if_neg c16).symm.trans hf
      refine lv_iconst (v := (1 : Int32)) hx hb dX11_comparison_20 (by decide) ?_
      refine lv_goto (tgt := 25) hx hb dX11_comparison_21 (by decide) ?_
      cases hf
      exact J3 H_2 lo_2 I_2 ls (lv_sub hl [0, 1, 2] rfl)
def C_JA_fill_i_23_s1 (a1 : Int32) (x3 : Int32) (G4 : Nat → Nat → Int32) : Option ((Int32 × (Nat → Nat → Int32)) ⊕ ((Nat → Nat → Int32))) :=
if (64 : Int32) ≤ x3 then
(some (.inr G4))
else
(ri 64 x3 <|
nm (wr G4 20 x3 a1) fun G11 =>
nm (x3 + (1 : Int32) : Int32) fun x13 =>
some (.inl (x13, G11)))
def C_JA_fill_i_23 (G : Nat → Nat → Int32) (a1 : Int32) : Option ((Nat → Nat → Int32)) :=
bd (lp (fun q => C_JA_fill_i_23_s1 a1 q.1 q.2) FU ((0 : Int32), G)) fun G5 =>
some G5
set_option maxRecDepth 100000 in
set_option maxHeartbeats 4000000 in
theorem cC_JA_fill_i_23 (G : Nat → Nat → Int32) (E : Nat → Nat → Int64) (Dd : Nat → Nat → UInt64) (P : Nat → Option Nat) (L : List Nat) (pf : Nat → va_E) (a1 : Int32)  (newG : Nat → Nat → Int32) (hf : C_JA_fill_i_23 G a1 = some newG) : sMv D (cT cI cJ cD cS) (cW ad cI cJ cD cS) l yJ7_fill_53178 (ws1 yJ7_fill_53178 cJ7_fill_53178 4 none) ({ frames := 0, cells := 0, slots := 0, locals := 0 }) [.ref (ad 23), .int a1] (G, E, Dd, P, L, pf) (newG, E, Dd, P, L, pf) := by
  unfold C_JA_fill_i_23 at hf
  refine sMv_of (by decide) (Nat.le_of_ble_eq_true rfl) ?_
  intro p e R s m args below meth c A Q ls H lo F hRf hRl I hl ret
  obtain ⟨hx, hb, hml, hown, hG⟩ := id F
  replace hl : lv_has ls 4 [(0, .ref (ad 23)), (1, .int a1)] := hl
  refine lv_iconst (v := (0 : Int32)) hx hb dJ7_fill_53178_0 (by decide) ?_
  refine lv_istore_n (lv' := [(2, .int (0 : Int32)), (0, .ref (ad 23)), (1, .int a1)]) hx hb dJ7_fill_53178_1 rfl hl (by decide) rfl (fun ls_1 hl_1 => ?_)
  refine lv_aload_n hx hb dJ7_fill_53178_2 rfl (lv_at hl_1 1 rfl) ?_
  refine kln23 F I dJ7_fill_53178_3 ?_
  refine lv_istore_n (lv' := [(3, .int (64 : Int32)), (2, .int (0 : Int32)), (0, .ref (ad 23)), (1, .int a1)]) hx hb dJ7_fill_53178_4 rfl hl_1 (by decide) rfl (fun ls_2 hl_2 => ?_)
  obtain ⟨G5, hq1, hf⟩ := bd_some hf
  have K1 : ∀ (H : Heap) (locs : List Loc), sInv D (cT cI cJ cD cS) (cW ad cI cJ cD cS) A s H locs (G5, E, Dd, P, L, pf) → ∀ (ls : Array Slot), lv_has ls 4 [] → W p l e R s m args below meth c H locs 0 0 Q (F0 m 20 ls []) := by
    intro H_6 lo_6 I_6 ls_7 hl_7
    cases hf
    exact ret H_6 lo_6 _ ls_7 I_6 dJ7_fill_53178_20
  have L1 : ∀ (n : Nat) (x3 : Int32) (G4 : Nat → Nat → Int32), lp (fun q => C_JA_fill_i_23_s1 a1 q.1 q.2) n (x3, G4) = some G5 → ∀ (H : Heap) (locs : List Loc), sInv D (cT cI cJ cD cS) (cW ad cI cJ cD cS) A s H locs (G4, E, Dd, P, L, pf) → ∀ (ls : Array Slot), lv_has ls 4 [(0, .ref (ad 23)), (1, .int a1), (2, .int x3), (3, .int (64 : Int32))] → W p l e R s m args below meth c H locs 0 0 Q (F0 m 5 ls []) := by
    intro n
    induction n with
    | zero => intro x3 G4 hq; exact (lp_0 hq).elim
    | succ n ih1 =>
      intro x3 G4 hq H_8 lo_8 I_8 ls_9 hl_9
      obtain ⟨y1, hf, hK1⟩ := lp_go hq
      replace hf : C_JA_fill_i_23_s1 a1 x3 G4 = some y1 := hf
      unfold C_JA_fill_i_23_s1 at hf
      refine lv_iload_n hx hb dJ7_fill_53178_5 rfl (lv_at hl_9 2 rfl) ?_
      refine lv_iload_n hx hb dJ7_fill_53178_6 rfl (lv_at hl_9 3 rfl) ?_
      refine lv_icmp_ge (tgt := 20) hx hb dJ7_fill_53178_7 (by decide) (fun c15 => ?_) (fun c15 => ?_)
      · replace hf := (if_pos c15).symm.trans hf
        cases hf
        cases (show G4 = G5 from hK1)
        exact K1 H_8 lo_8 I_8 ls_9 (lv_sub hl_9 [] rfl)
      · replace hf := (if_neg c15).symm.trans hf
        refine lv_aload_n hx hb dJ7_fill_53178_10 rfl (lv_at hl_9 0 rfl) ?_
        refine lv_iload_n hx hb dJ7_fill_53178_11 rfl (lv_at hl_9 2 rfl) ?_
        refine lv_iload_n hx hb dJ7_fill_53178_12 rfl (lv_at hl_9 1 rfl) ?_
        obtain ⟨g10, hf⟩ := ri_some hf
        refine kas23 F I_8 g10 dJ7_fill_53178_13 ?_
        intro H_12 lo_12 G11 eG11 I_12
        replace hf := nm_some eG11 hf
        obtain ⟨x13, ex13⟩ : ∃ y : Int32, y = x3 + (1 : Int32) := ⟨_, rfl⟩
        replace hf := nm_some ex13 hf
        refine lv_iinc (v := x13) (lv' := [(2, .int x13), (0, .ref (ad 23)), (1, .int a1), (3, .int (64 : Int32))]) hx hb dJ7_fill_53178_14 hl_9 (k := 2) rfl (by rw [ex13]; rfl) (by decide) rfl (fun ls_14 hl_14 => ?_)
        refine lv_goto (tgt := 5) hx hb dJ7_fill_53178_17 (by decide) ?_
        cases hf
        exact ih1 _ _ hK1 H_12 lo_12 I_12 ls_14 (lv_sub hl_14 [1, 2, 0, 3] rfl)
  exact L1 FU _ _ hq1 H lo I ls_2 (lv_sub hl_2 [2, 3, 1, 0] rfl)
def C_LE_clearAll_22 (G : Nat → Nat → Int32) : Option ((Nat → Nat → Int32)) :=
bd (C_JA_fill_i_23 G (0 : Int32)) fun G1 =>
some G1
set_option maxRecDepth 100000 in
set_option maxHeartbeats 4000000 in
theorem cC_LE_clearAll_22 (G : Nat → Nat → Int32) (E : Nat → Nat → Int64) (Dd : Nat → Nat → UInt64) (P : Nat → Option Nat) (L : List Nat) (pf : Nat → va_E)   (newG : Nat → Nat → Int32) (hf : C_LE_clearAll_22 G = some newG) : sMv D (cT cI cJ cD cS) (cW ad cI cJ cD cS) l yX3_clearAll (ws1 yX3_clearAll cX3_clearAll 1 none) ({ frames := 1, cells := 0, slots := 0, locals := 23 }) [.ref (ad 22)] (G, E, Dd, P, L, pf) (newG, E, Dd, P, L, pf) := by
  unfold C_LE_clearAll_22 at hf
  refine sMv_of (by decide) (Nat.le_of_ble_eq_true rfl) ?_
  intro p e R s m args below meth c A Q ls H lo F hRf hRl I hl ret
  obtain ⟨hx, hb, hml, hown, hG⟩ := id F
  replace hl : lv_has ls 1 [(0, .ref (ad 22))] := hl
  refine lv_aload_n hx hb dX3_clearAll_0 rfl (lv_at hl 0 rfl) ?_
  refine kgtX3_9_22 F I dX3_clearAll_1 ?_
  refine lv_iconst (v := (0 : Int32)) hx hb dX3_clearAll_4 (by decide) ?_
  obtain ⟨G1, h2, hf⟩ := bd_some hf
  refine s_callSv (As := [.ref (ad 23), .int (0 : Int32)]) (rest := []) F I (cC_JA_fill_i_23 G E Dd P L pf (0 : Int32) G1 h2) kX3_15 ⟨rfl, rfl⟩ ⟨Nat.le_trans (Nat.le_of_ble_eq_true rfl) hRf, Nat.le_trans (Nat.le_of_ble_eq_true rfl) hRl⟩ rfl rfl hl.1 (Nat.le_of_ble_eq_true rfl) ⟨Nat.zero_le _, Nat.zero_le _⟩ dX3_clearAll_5 ?_
  intro H_3 lo_3 I_3
  cases hf
  exact ret H_3 lo_3 _ ls I_3 dX3_clearAll_8
def C_JA_fill_i_18_s1 (a1 : Int32) (x3 : Int32) (G4 : Nat → Nat → Int32) : Option ((Int32 × (Nat → Nat → Int32)) ⊕ ((Nat → Nat → Int32))) :=
if (8 : Int32) ≤ x3 then
(some (.inr G4))
else
(ri 8 x3 <|
nm (wr G4 23 x3 a1) fun G11 =>
nm (x3 + (1 : Int32) : Int32) fun x13 =>
some (.inl (x13, G11)))
def C_JA_fill_i_18 (G : Nat → Nat → Int32) (a1 : Int32) : Option ((Nat → Nat → Int32)) :=
bd (lp (fun q => C_JA_fill_i_18_s1 a1 q.1 q.2) FU ((0 : Int32), G)) fun G5 =>
some G5
set_option maxRecDepth 100000 in
set_option maxHeartbeats 4000000 in
theorem cC_JA_fill_i_18 (G : Nat → Nat → Int32) (E : Nat → Nat → Int64) (Dd : Nat → Nat → UInt64) (P : Nat → Option Nat) (L : List Nat) (pf : Nat → va_E) (a1 : Int32)  (newG : Nat → Nat → Int32) (hf : C_JA_fill_i_18 G a1 = some newG) : sMv D (cT cI cJ cD cS) (cW ad cI cJ cD cS) l yJ7_fill_53178 (ws1 yJ7_fill_53178 cJ7_fill_53178 4 none) ({ frames := 0, cells := 0, slots := 0, locals := 0 }) [.ref (ad 18), .int a1] (G, E, Dd, P, L, pf) (newG, E, Dd, P, L, pf) := by
  unfold C_JA_fill_i_18 at hf
  refine sMv_of (by decide) (Nat.le_of_ble_eq_true rfl) ?_
  intro p e R s m args below meth c A Q ls H lo F hRf hRl I hl ret
  obtain ⟨hx, hb, hml, hown, hG⟩ := id F
  replace hl : lv_has ls 4 [(0, .ref (ad 18)), (1, .int a1)] := hl
  refine lv_iconst (v := (0 : Int32)) hx hb dJ7_fill_53178_0 (by decide) ?_
  refine lv_istore_n (lv' := [(2, .int (0 : Int32)), (0, .ref (ad 18)), (1, .int a1)]) hx hb dJ7_fill_53178_1 rfl hl (by decide) rfl (fun ls_1 hl_1 => ?_)
  refine lv_aload_n hx hb dJ7_fill_53178_2 rfl (lv_at hl_1 1 rfl) ?_
  refine kln18 F I dJ7_fill_53178_3 ?_
  refine lv_istore_n (lv' := [(3, .int (8 : Int32)), (2, .int (0 : Int32)), (0, .ref (ad 18)), (1, .int a1)]) hx hb dJ7_fill_53178_4 rfl hl_1 (by decide) rfl (fun ls_2 hl_2 => ?_)
  obtain ⟨G5, hq1, hf⟩ := bd_some hf
  have K1 : ∀ (H : Heap) (locs : List Loc), sInv D (cT cI cJ cD cS) (cW ad cI cJ cD cS) A s H locs (G5, E, Dd, P, L, pf) → ∀ (ls : Array Slot), lv_has ls 4 [] → W p l e R s m args below meth c H locs 0 0 Q (F0 m 20 ls []) := by
    intro H_6 lo_6 I_6 ls_7 hl_7
    cases hf
    exact ret H_6 lo_6 _ ls_7 I_6 dJ7_fill_53178_20
  have L1 : ∀ (n : Nat) (x3 : Int32) (G4 : Nat → Nat → Int32), lp (fun q => C_JA_fill_i_18_s1 a1 q.1 q.2) n (x3, G4) = some G5 → ∀ (H : Heap) (locs : List Loc), sInv D (cT cI cJ cD cS) (cW ad cI cJ cD cS) A s H locs (G4, E, Dd, P, L, pf) → ∀ (ls : Array Slot), lv_has ls 4 [(0, .ref (ad 18)), (1, .int a1), (2, .int x3), (3, .int (8 : Int32))] → W p l e R s m args below meth c H locs 0 0 Q (F0 m 5 ls []) := by
    intro n
    induction n with
    | zero => intro x3 G4 hq; exact (lp_0 hq).elim
    | succ n ih1 =>
      intro x3 G4 hq H_8 lo_8 I_8 ls_9 hl_9
      obtain ⟨y1, hf, hK1⟩ := lp_go hq
      replace hf : C_JA_fill_i_18_s1 a1 x3 G4 = some y1 := hf
      unfold C_JA_fill_i_18_s1 at hf
      refine lv_iload_n hx hb dJ7_fill_53178_5 rfl (lv_at hl_9 2 rfl) ?_
      refine lv_iload_n hx hb dJ7_fill_53178_6 rfl (lv_at hl_9 3 rfl) ?_
      refine lv_icmp_ge (tgt := 20) hx hb dJ7_fill_53178_7 (by decide) (fun c15 => ?_) (fun c15 => ?_)
      · replace hf := (if_pos c15).symm.trans hf
        cases hf
        cases (show G4 = G5 from hK1)
        exact K1 H_8 lo_8 I_8 ls_9 (lv_sub hl_9 [] rfl)
      · replace hf := (if_neg c15).symm.trans hf
        refine lv_aload_n hx hb dJ7_fill_53178_10 rfl (lv_at hl_9 0 rfl) ?_
        refine lv_iload_n hx hb dJ7_fill_53178_11 rfl (lv_at hl_9 2 rfl) ?_
        refine lv_iload_n hx hb dJ7_fill_53178_12 rfl (lv_at hl_9 1 rfl) ?_
        obtain ⟨g10, hf⟩ := ri_some hf
        refine kas18 F I_8 g10 dJ7_fill_53178_13 ?_
        intro H_12 lo_12 G11 eG11 I_12
        replace hf := nm_some eG11 hf
        obtain ⟨x13, ex13⟩ : ∃ y : Int32, y = x3 + (1 : Int32) := ⟨_, rfl⟩
        replace hf := nm_some ex13 hf
        refine lv_iinc (v := x13) (lv' := [(2, .int x13), (0, .ref (ad 18)), (1, .int a1), (3, .int (8 : Int32))]) hx hb dJ7_fill_53178_14 hl_9 (k := 2) rfl (by rw [ex13]; rfl) (by decide) rfl (fun ls_14 hl_14 => ?_)
        refine lv_goto (tgt := 5) hx hb dJ7_fill_53178_17 (by decide) ?_
        cases hf
        exact ih1 _ _ hK1 H_12 lo_12 I_12 ls_14 (lv_sub hl_14 [1, 2, 0, 3] rfl)
  exact L1 FU _ _ hq1 H lo I ls_2 (lv_sub hl_2 [2, 3, 1, 0] rfl)
def C_LE_addWin_22 (G : Nat → Nat → Int32) (a0 : Int32) (a1 : Int32) : Option ((Nat → Nat → Int32)) :=
nm (C_CO_answerOf a0) fun r1 =>
if r1 = 0 then
(some G)
else
(bd (C_CO_winnerOf a0) fun r4 =>
bd (C_CO_loserOf a0) fun r8 =>
nm (C_LT_cell r4 r8) fun r12 =>
ri 64 r12 <|
ri 64 r12 <|
nm (wr G 20 r12 ((G 20 r12.toNatClampNeg) + a1)) fun G17 =>
nm (C_LT_cell r8 r4) fun r19 =>
ri 64 r19 <|
ri 64 r19 <|
nm (wr G17 20 r19 ((G17 20 r19.toNatClampNeg) - a1)) fun G24 =>
some G24)
set_option maxRecDepth 100000 in
set_option maxHeartbeats 4000000 in
theorem cC_LE_addWin_22 (G : Nat → Nat → Int32) (E : Nat → Nat → Int64) (Dd : Nat → Nat → UInt64) (P : Nat → Option Nat) (L : List Nat) (pf : Nat → va_E) (a0 : Int32) (a1 : Int32)  (newG : Nat → Nat → Int32) (hf : C_LE_addWin_22 G a0 a1 = some newG) : sMv D (cT cI cJ cD cS) (cW ad cI cJ cD cS) l yX3_addWin (ws1 yX3_addWin cX3_addWin 5 none) ({ frames := 2, cells := 0, slots := 0, locals := 40 }) [.ref (ad 22), .int a0, .int a1] (G, E, Dd, P, L, pf) (newG, E, Dd, P, L, pf) := by
  unfold C_LE_addWin_22 at hf
  refine sMv_of (by decide) (Nat.le_of_ble_eq_true rfl) ?_
  intro p e R s m args below meth c A Q ls H lo F hRf hRl I hl ret
  obtain ⟨hx, hb, hml, hown, hG⟩ := id F
  replace hl : lv_has ls 5 [(0, .ref (ad 22)), (1, .int a0), (2, .int a1)] := hl
  refine lv_iload_n hx hb dX3_addWin_0 rfl (lv_at hl 1 rfl) ?_
  obtain ⟨r1, h2⟩ : ∃ z, z = C_CO_answerOf a0 := ⟨_, rfl⟩
  replace hf := nm_some h2 hf
  refine s_callSi (As := [.int a0]) (rest := []) F I (cC_CO_answerOf G E Dd P L pf a0 r1 h2) kX3_41 ⟨rfl, rfl⟩ ⟨Nat.le_trans (Nat.le_of_ble_eq_true rfl) hRf, Nat.le_trans (Nat.le_of_ble_eq_true rfl) hRl⟩ rfl rfl hl.1 (Nat.le_of_ble_eq_true rfl) ⟨Nat.zero_le _, Nat.zero_le _⟩ dX3_addWin_1 ?_
  intro H_3 lo_3 I_3
  refine lv_if_eq (tgt := 48) hx hb dX3_addWin_4 (by decide) (fun c26 => ?_) (fun c26 => ?_)
  · replace hf := (if_pos c26).symm.trans hf
    cases hf
    exact ret H_3 lo_3 _ ls I_3 dX3_addWin_48
  · replace hf := (if_neg c26).symm.trans hf
    refine lv_iload_n hx hb dX3_addWin_7 rfl (lv_at hl 1 rfl) ?_
    obtain ⟨r4, h5, hf⟩ := bd_some hf
    refine s_callSi (As := [.int a0]) (rest := []) F I_3 (cC_CO_winnerOf G E Dd P L pf a0 r4 h5) kX3_44 ⟨rfl, rfl⟩ ⟨Nat.le_trans (Nat.le_of_ble_eq_true rfl) hRf, Nat.le_trans (Nat.le_of_ble_eq_true rfl) hRl⟩ rfl rfl hl.1 (Nat.le_of_ble_eq_true rfl) ⟨Nat.zero_le _, Nat.zero_le _⟩ dX3_addWin_8 ?_
    intro H_6 lo_6 I_6
    refine lv_istore_n (lv' := [(3, .int r4), (0, .ref (ad 22)), (1, .int a0), (2, .int a1)]) hx hb dX3_addWin_11 rfl hl (by decide) rfl (fun ls_7 hl_7 => ?_)
    refine lv_iload_n hx hb dX3_addWin_12 rfl (lv_at hl_7 2 rfl) ?_
    obtain ⟨r8, h9, hf⟩ := bd_some hf
    refine s_callSi (As := [.int a0]) (rest := []) F I_6 (cC_CO_loserOf G E Dd P L pf a0 r8 h9) kX3_47 ⟨rfl, rfl⟩ ⟨Nat.le_trans (Nat.le_of_ble_eq_true rfl) hRf, Nat.le_trans (Nat.le_of_ble_eq_true rfl) hRl⟩ rfl rfl hl_7.1 (Nat.le_of_ble_eq_true rfl) ⟨Nat.zero_le _, Nat.zero_le _⟩ dX3_addWin_13 ?_
    intro H_10 lo_10 I_10
    refine lv_istore (lv' := [(4, .int r8), (3, .int r4), (0, .ref (ad 22)), (1, .int a0), (2, .int a1)]) hx hb dX3_addWin_16 hl_7 (by decide) rfl (fun ls_11 hl_11 => ?_)
    refine lv_aload_n hx hb dX3_addWin_18 rfl (lv_at hl_11 2 rfl) ?_
    refine kgtX3_9_22 F I_10 dX3_addWin_19 ?_
    refine lv_iload_n hx hb dX3_addWin_22 rfl (lv_at hl_11 1 rfl) ?_
    refine lv_iload hx hb dX3_addWin_23 (lv_at hl_11 0 rfl) ?_
    obtain ⟨r12, h13⟩ : ∃ z, z = C_LT_cell r4 r8 := ⟨_, rfl⟩
    replace hf := nm_some h13 hf
    refine s_callSNi (As := [.int r4, .int r8]) (rest := [.ref (ad 23)]) F I_10 (cC_LT_cell G E Dd P L pf r4 r8 r12 h13) kX3_50 ⟨rfl, rfl⟩ ⟨Nat.le_trans (Nat.le_of_ble_eq_true rfl) hRf, Nat.le_trans (Nat.le_of_ble_eq_true rfl) hRl⟩ rfl rfl hl_11.1 (Nat.le_of_ble_eq_true rfl) ⟨Nat.zero_le _, Nat.zero_le _⟩ dX3_addWin_25 ?_
    intro H_14 lo_14 I_14
    refine lv_dup2_11 hx hb dX3_addWin_28 rfl rfl ?_
    obtain ⟨g15, hf⟩ := ri_some hf
    refine kal23 F I_14 g15 dX3_addWin_29 ?_
    refine lv_iload_n hx hb dX3_addWin_30 rfl (lv_at hl_11 4 rfl) ?_
    refine lv_iadd hx hb dX3_addWin_31 ?_
    obtain ⟨g16, hf⟩ := ri_some hf
    refine kas23 F I_14 g16 dX3_addWin_32 ?_
    intro H_18 lo_18 G17 eG17 I_18
    replace hf := nm_some eG17 hf
    refine lv_aload_n hx hb dX3_addWin_33 rfl (lv_at hl_11 2 rfl) ?_
    refine kgtX3_9_22 F I_18 dX3_addWin_34 ?_
    refine lv_iload hx hb dX3_addWin_37 (lv_at hl_11 0 rfl) ?_
    refine lv_iload_n hx hb dX3_addWin_39 rfl (lv_at hl_11 1 rfl) ?_
    obtain ⟨r19, h20⟩ : ∃ z, z = C_LT_cell r8 r4 := ⟨_, rfl⟩
    replace hf := nm_some h20 hf
    refine s_callSNi (As := [.int r8, .int r4]) (rest := [.ref (ad 23)]) F I_18 (cC_LT_cell G17 E Dd P L pf r8 r4 r19 h20) kX3_50 ⟨rfl, rfl⟩ ⟨Nat.le_trans (Nat.le_of_ble_eq_true rfl) hRf, Nat.le_trans (Nat.le_of_ble_eq_true rfl) hRl⟩ rfl rfl hl_11.1 (Nat.le_of_ble_eq_true rfl) ⟨Nat.zero_le _, Nat.zero_le _⟩ dX3_addWin_40 ?_
    intro H_21 lo_21 I_21
    refine lv_dup2_11 hx hb dX3_addWin_43 rfl rfl ?_
    obtain ⟨g22, hf⟩ := ri_some hf
    refine kal23 F I_21 g22 dX3_addWin_44 ?_
    refine lv_iload_n hx hb dX3_addWin_45 rfl (lv_at hl_11 4 rfl) ?_
    refine lv_isub hx hb dX3_addWin_46 ?_
    obtain ⟨g23, hf⟩ := ri_some hf
    refine kas23 F I_21 g23 dX3_addWin_47 ?_
    intro H_25 lo_25 G24 eG24 I_25
    replace hf := nm_some eG24 hf
    cases hf
    exact ret H_25 lo_25 _ ls_11 I_25 dX3_addWin_48
def C_SD_addPoints_18 (G : Nat → Nat → Int32) (a1 : Int32) (a2 : Int32) : Option ((Nat → Nat → Int32)) :=
nm (C_CO_answerOf a1) fun r1 =>
bd (if r1 = 0 then
(some (1 : Int32))
else
(if r1 = (1 : Int32) then
(some (2 : Int32))
else
(some (0 : Int32)))) fun x6 =>
if (8 : Int32) < (8 : Int32) then
(some G)
else
(nm (C_CO_firstOf a1) fun r10 =>
ri 8 r10 <|
ri 8 r10 <|
nm (wr G 23 r10 ((G 23 r10.toNatClampNeg) + (x6 * a2))) fun G15 =>
nm (C_CO_secondOf a1) fun r17 =>
ri 8 r17 <|
ri 8 r17 <|
nm (wr G15 23 r17 ((G15 23 r17.toNatClampNeg) + (((2 : Int32) - x6) * a2))) fun G22 =>
some G22)
set_option maxRecDepth 100000 in
set_option maxHeartbeats 4000000 in
theorem cC_SD_addPoints_18 (G : Nat → Nat → Int32) (E : Nat → Nat → Int64) (Dd : Nat → Nat → UInt64) (P : Nat → Option Nat) (L : List Nat) (pf : Nat → va_E) (a1 : Int32) (a2 : Int32)  (newG : Nat → Nat → Int32) (hf : C_SD_addPoints_18 G a1 a2 = some newG) : sMv D (cT cI cJ cD cS) (cW ad cI cJ cD cS) l yX6_addPoints (ws1 yX6_addPoints cX6_addPoints 5 none) ({ frames := 1, cells := 0, slots := 0, locals := 20 }) [.ref (ad 18), .int a1, .int a2] (G, E, Dd, P, L, pf) (newG, E, Dd, P, L, pf) := by
  unfold C_SD_addPoints_18 at hf
  refine sMv_of (by decide) (Nat.le_of_ble_eq_true rfl) ?_
  intro p e R s m args below meth c A Q ls H lo F hRf hRl I hl ret
  obtain ⟨hx, hb, hml, hown, hG⟩ := id F
  replace hl : lv_has ls 5 [(0, .ref (ad 18)), (1, .int a1), (2, .int a2)] := hl
  refine lv_iload_n hx hb dX6_addPoints_0 rfl (lv_at hl 1 rfl) ?_
  obtain ⟨r1, h2⟩ : ∃ z, z = C_CO_answerOf a1 := ⟨_, rfl⟩
  replace hf := nm_some h2 hf
  refine s_callSi (As := [.int a1]) (rest := []) F I (cC_CO_answerOf G E Dd P L pf a1 r1 h2) kX6_130 ⟨rfl, rfl⟩ ⟨Nat.le_trans (Nat.le_of_ble_eq_true rfl) hRf, Nat.le_trans (Nat.le_of_ble_eq_true rfl) hRl⟩ rfl rfl hl.1 (Nat.le_of_ble_eq_true rfl) ⟨Nat.zero_le _, Nat.zero_le _⟩ dX6_addPoints_1 ?_
  intro H_3 lo_3 I_3
  refine lv_istore_n (lv' := [(3, .int r1), (0, .ref (ad 18)), (1, .int a1), (2, .int a2)]) hx hb dX6_addPoints_4 rfl hl (by decide) rfl (fun ls_4 hl_4 => ?_)
  refine lv_iload_n hx hb dX6_addPoints_5 rfl (lv_at hl_4 0 rfl) ?_
  obtain ⟨x6, hv25, hf⟩ := bd_some hf
  have J5 : ∀ (H : Heap) (locs : List Loc), sInv D (cT cI cJ cD cS) (cW ad cI cJ cD cS) A s H locs (G, E, Dd, P, L, pf) → ∀ (ls : Array Slot), lv_has ls 5 [(0, .ref (ad 18)), (1, .int a1), (2, .int a2)] → W p l e R s m args below meth c H locs 0 0 Q (F0 m 23 ls [.int x6]) := by
    intro H_7 lo_7 I_7 ls_8 hl_8
    refine lv_istore (lv' := [(4, .int x6), (0, .ref (ad 18)), (1, .int a1), (2, .int a2)]) hx hb dX6_addPoints_23 hl_8 (by decide) rfl (fun ls_9 hl_9 => ?_)
    refine lv_aload_n hx hb dX6_addPoints_25 rfl (lv_at hl_9 1 rfl) ?_
    refine kln18 F I_7 dX6_addPoints_26 ?_
    refine lv_bipush (v := (8 : Int32)) hx hb dX6_addPoints_27 (by decide) ?_
    refine lv_icmp_lt (tgt := 60) hx hb dX6_addPoints_29 (by decide) (fun c24 => ?_) (fun c24 => ?_)
    · replace hf := (if_pos c24).symm.trans hf
      cases hf
      exact ret H_7 lo_7 _ ls_9 I_7 dX6_addPoints_60
    · replace hf := (if_neg c24).symm.trans hf
      refine lv_aload_n hx hb dX6_addPoints_32 rfl (lv_at hl_9 1 rfl) ?_
      refine lv_iload_n hx hb dX6_addPoints_33 rfl (lv_at hl_9 2 rfl) ?_
      obtain ⟨r10, h11⟩ : ∃ z, z = C_CO_firstOf a1 := ⟨_, rfl⟩
      replace hf := nm_some h11 hf
      refine s_callSi (As := [.int a1]) (rest := [.ref (ad 18)]) F I_7 (cC_CO_firstOf G E Dd P L pf a1 r10 h11) kX6_133 ⟨rfl, rfl⟩ ⟨Nat.le_trans (Nat.le_of_ble_eq_true rfl) hRf, Nat.le_trans (Nat.le_of_ble_eq_true rfl) hRl⟩ rfl rfl hl_9.1 (Nat.le_of_ble_eq_true rfl) ⟨Nat.zero_le _, Nat.zero_le _⟩ dX6_addPoints_34 ?_
      intro H_12 lo_12 I_12
      refine lv_dup2_11 hx hb dX6_addPoints_37 rfl rfl ?_
      obtain ⟨g13, hf⟩ := ri_some hf
      refine kal18 F I_12 g13 dX6_addPoints_38 ?_
      refine lv_iload hx hb dX6_addPoints_39 (lv_at hl_9 0 rfl) ?_
      refine lv_iload_n hx hb dX6_addPoints_41 rfl (lv_at hl_9 3 rfl) ?_
      refine lv_imul hx hb dX6_addPoints_42 ?_
      refine lv_iadd hx hb dX6_addPoints_43 ?_
      obtain ⟨g14, hf⟩ := ri_some hf
      refine kas18 F I_12 g14 dX6_addPoints_44 ?_
      intro H_16 lo_16 G15 eG15 I_16
      replace hf := nm_some eG15 hf
      refine lv_aload_n hx hb dX6_addPoints_45 rfl (lv_at hl_9 1 rfl) ?_
      refine lv_iload_n hx hb dX6_addPoints_46 rfl (lv_at hl_9 2 rfl) ?_
      obtain ⟨r17, h18⟩ : ∃ z, z = C_CO_secondOf a1 := ⟨_, rfl⟩
      replace hf := nm_some h18 hf
      refine s_callSi (As := [.int a1]) (rest := [.ref (ad 18)]) F I_16 (cC_CO_secondOf G15 E Dd P L pf a1 r17 h18) kX6_136 ⟨rfl, rfl⟩ ⟨Nat.le_trans (Nat.le_of_ble_eq_true rfl) hRf, Nat.le_trans (Nat.le_of_ble_eq_true rfl) hRl⟩ rfl rfl hl_9.1 (Nat.le_of_ble_eq_true rfl) ⟨Nat.zero_le _, Nat.zero_le _⟩ dX6_addPoints_47 ?_
      intro H_19 lo_19 I_19
      refine lv_dup2_11 hx hb dX6_addPoints_50 rfl rfl ?_
      obtain ⟨g20, hf⟩ := ri_some hf
      refine kal18 F I_19 g20 dX6_addPoints_51 ?_
      refine lv_iconst (v := (2 : Int32)) hx hb dX6_addPoints_52 (by decide) ?_
      refine lv_iload hx hb dX6_addPoints_53 (lv_at hl_9 0 rfl) ?_
      refine lv_isub hx hb dX6_addPoints_55 ?_
      refine lv_iload_n hx hb dX6_addPoints_56 rfl (lv_at hl_9 3 rfl) ?_
      refine lv_imul hx hb dX6_addPoints_57 ?_
      refine lv_iadd hx hb dX6_addPoints_58 ?_
      obtain ⟨g21, hf⟩ := ri_some hf
      refine kas18 F I_19 g21 dX6_addPoints_59 ?_
      intro H_23 lo_23 G22 eG22 I_23
      replace hf := nm_some eG22 hf
      cases hf
      exact ret H_23 lo_23 _ ls_9 I_23 dX6_addPoints_60
  replace hf := hv25
  refine lv_if_ne (tgt := 13) hx hb dX6_addPoints_6 (by decide) (fun c27 => ?_) (fun c27 => ?_)
  · replace hf := (if_neg c27).symm.trans hf
    refine lv_iload_n hx hb dX6_addPoints_13 rfl (lv_at hl_4 0 rfl) ?_
    refine lv_iconst (v := (1 : Int32)) hx hb dX6_addPoints_14 (by decide) ?_
    refine lv_icmp_ne (tgt := 22) hx hb dX6_addPoints_15 (by decide) (fun c26 => ?_) (fun c26 => ?_)
    · replace hf := (if_neg c26).symm.trans hf
      refine lv_iconst (v := (0 : Int32)) hx hb dX6_addPoints_22 (by decide) ?_
      cases hf
      exact J5 H_3 lo_3 I_3 ls_4 (lv_sub hl_4 [1, 2, 3] rfl)
    · replace hf := (if_pos c26).symm.trans hf
      refine lv_iconst (v := (2 : Int32)) hx hb dX6_addPoints_18 (by decide) ?_
      refine lv_goto (tgt := 23) hx hb dX6_addPoints_19 (by decide) ?_
      cases hf
      exact J5 H_3 lo_3 I_3 ls_4 (lv_sub hl_4 [1, 2, 3] rfl)
  · replace hf := (if_pos c27).symm.trans hf
    refine lv_iconst (v := (1 : Int32)) hx hb dX6_addPoints_9 (by decide) ?_
    refine lv_goto (tgt := 23) hx hb dX6_addPoints_10 (by decide) ?_
    cases hf
    exact J5 H_3 lo_3 I_3 ls_4 (lv_sub hl_4 [1, 2, 3] rfl)
def C_SD_weigh_1_s2  (x20 : Int32) (G21 : Nat → Nat → Int32) : Option ((Int32 × (Nat → Nat → Int32)) ⊕ ((Nat → Nat → Int32))) :=
if G21 5 0 ≤ x20 then
(some (.inr G21))
else
(bd (C_CO_at G21 x20) fun r27 =>
nm (C_CO_listenerOf r27) fun r31 =>
ri 8 r31 <|
nm (G21 22 r31.toNatClampNeg : Int32) fun x35 =>
bd (C_LE_addWin_22 G21 r27 x35) fun G37 =>
bd (C_SD_addPoints_18 G37 r27 x35) fun G40 =>
nm (x20 + (1 : Int32) : Int32) fun x43 =>
some (.inl (x43, G40)))
def C_SD_weigh_1_s1 (a3 : Int32) (x8 : Int32) (G9 : Nat → Nat → Int32) : Option ((Int32 × (Nat → Nat → Int32)) ⊕ ((Nat → Nat → Int32))) :=
if (8 : Int32) ≤ x8 then
(some (.inr G9))
else
(bd (if x8 = a3 then
(some (0 : Int32))
else
(if x8 < (8 : Int32) then
(ri 8 x8 <|
some (G9 2 x8.toNatClampNeg))
else
(some (0 : Int32)))) fun x49 =>
ri 8 x8 <|
nm (wr G9 22 x8 x49) fun G53 =>
nm (x8 + (1 : Int32) : Int32) fun x55 =>
some (.inl (x55, G53)))
def C_SD_weigh_1 (G : Nat → Nat → Int32) (a1 : Int32) (a3 : Int32) : Option ((Nat → Nat → Int32)) :=
nm (wf G 21 (if (8 : Int32) < a1 then (8 : Int32) else a1)) fun G1 =>
nm (wf G1 29 (0 : Int32)) fun G3 =>
nm (wf G3 30 (0 : Int32)) fun G5 =>
bd (lp (fun q => C_SD_weigh_1_s1 a3 q.1 q.2) FU ((0 : Int32), G5)) fun G10 =>
bd (C_LE_clearAll_22 G10) fun G13 =>
bd (C_JA_fill_i_18 G13 (0 : Int32)) fun G16 =>
bd (lp (fun q => C_SD_weigh_1_s2 q.1 q.2) FU ((0 : Int32), G16)) fun G22 =>
some G22
set_option maxRecDepth 100000 in
set_option maxHeartbeats 4000000 in
theorem cC_SD_weigh_1 (G : Nat → Nat → Int32) (E : Nat → Nat → Int64) (Dd : Nat → Nat → UInt64) (P : Nat → Option Nat) (L : List Nat) (pf : Nat → va_E) (a1 : Int32) (a3 : Int32)  (newG : Nat → Nat → Int32) (hf : C_SD_weigh_1 G a1 a3 = some newG) : sMv D (cT cI cJ cD cS) (cW ad cI cJ cD cS) l yX6_weigh (ws1 yX6_weigh cX6_weigh 8 none) ({ frames := 3, cells := 0, slots := 0, locals := 64 }) [.ref (ad 16), .ref (ad 2), .int a1, .ref (ad 1), .int a3] (G, E, Dd, P, L, pf) (newG, E, Dd, P, L, pf) := by
  unfold C_SD_weigh_1 at hf
  refine sMv_of (by decide) (Nat.le_of_ble_eq_true rfl) ?_
  intro p e R s m args below meth c A Q ls H lo F hRf hRl I hl ret
  obtain ⟨hx, hb, hml, hown, hG⟩ := id F
  replace hl : lv_has ls 8 [(0, .ref (ad 16)), (1, .ref (ad 2)), (2, .int a1), (3, .ref (ad 1)), (4, .int a3)] := hl
  refine lv_aload_n hx hb dX6_weigh_0 rfl (lv_at hl 0 rfl) ?_
  refine lv_iload_n hx hb dX6_weigh_1 rfl (lv_at hl 2 rfl) ?_
  refine lv_bipush (v := (8 : Int32)) hx hb dX6_weigh_2 (by decide) ?_
  refine va_mmin hx hb (hml.trans hl.1.symm) hown (hG _ q579) (hG _ q580) (hG _ q126) (hG _ q581) (Nat.le_trans (Nat.le_of_ble_eq_true rfl) hRf) (Nat.le_trans (Nat.le_of_ble_eq_true rfl) hRl) (Nat.zero_le _) (Nat.zero_le _) dX6_weigh_4 ?_
  refine kptX6_9_16 F I dX6_weigh_7 ?_
  intro H_2 lo_2 G1 eG1 I_2
  replace hf := nm_some eG1 hf
  refine lv_aload_n hx hb dX6_weigh_10 rfl (lv_at hl 0 rfl) ?_
  refine lv_iconst (v := (0 : Int32)) hx hb dX6_weigh_11 (by decide) ?_
  refine kptX6_44_16 F I_2 (by decide) dX6_weigh_12 ?_
  intro H_4 lo_4 G3 eG3 I_4
  replace hf := nm_some eG3 hf
  refine lv_aload_n hx hb dX6_weigh_15 rfl (lv_at hl 0 rfl) ?_
  refine kgtX6_51_16 F I_4 dX6_weigh_16 ?_
  refine lv_iconst (v := (0 : Int32)) hx hb dX6_weigh_19 (by decide) ?_
  refine kptX6_61_24 F I_4 (by decide) dX6_weigh_20 ?_
  intro H_6 lo_6 G5 eG5 I_6
  replace hf := nm_some eG5 hf
  refine lv_iconst (v := (0 : Int32)) hx hb dX6_weigh_23 (by decide) ?_
  refine lv_istore (lv' := [(5, .int (0 : Int32)), (0, .ref (ad 16)), (1, .ref (ad 2)), (2, .int a1), (3, .ref (ad 1)), (4, .int a3)]) hx hb dX6_weigh_24 hl (by decide) rfl (fun ls_7 hl_7 => ?_)
  obtain ⟨G10, hq1, hf⟩ := bd_some hf
  have K1 : ∀ (H : Heap) (locs : List Loc), sInv D (cT cI cJ cD cS) (cW ad cI cJ cD cS) A s H locs (G10, E, Dd, P, L, pf) → ∀ (ls : Array Slot), lv_has ls 8 [(0, .ref (ad 16)), (1, .ref (ad 2))] → W p l e R s m args below meth c H locs 0 0 Q (F0 m 68 ls []) := by
    intro H_11 lo_11 I_11 ls_12 hl_12
    refine lv_aload_n hx hb dX6_weigh_68 rfl (lv_at hl_12 0 rfl) ?_
    refine kgtX6_22_16 F I_11 dX6_weigh_69 ?_
    obtain ⟨G13, h14, hf⟩ := bd_some hf
    refine s_callVv (As := []) (rest := []) F I_11 (cC_LE_clearAll_22 G10 E Dd P L pf G13 h14) kX6_64 ⟨rfl, rfl⟩ ⟨Nat.le_trans (Nat.le_of_ble_eq_true rfl) hRf, Nat.le_trans (Nat.le_of_ble_eq_true rfl) hRl⟩ 22 3 rfl rfl rfl rfl rfl hl_12.1 (Nat.le_of_ble_eq_true rfl) ⟨Nat.zero_le _, Nat.zero_le _⟩ dX6_weigh_72 ?_
    intro H_15 lo_15 I_15
    refine lv_aload_n hx hb dX6_weigh_75 rfl (lv_at hl_12 0 rfl) ?_
    refine kgtX6_26_16 F I_15 dX6_weigh_76 ?_
    refine lv_iconst (v := (0 : Int32)) hx hb dX6_weigh_79 (by decide) ?_
    obtain ⟨G16, h17, hf⟩ := bd_some hf
    refine s_callSv (As := [.ref (ad 18), .int (0 : Int32)]) (rest := []) F I_15 (cC_JA_fill_i_18 G13 E Dd P L pf (0 : Int32) G16 h17) kX6_67 ⟨rfl, rfl⟩ ⟨Nat.le_trans (Nat.le_of_ble_eq_true rfl) hRf, Nat.le_trans (Nat.le_of_ble_eq_true rfl) hRl⟩ rfl rfl hl_12.1 (Nat.le_of_ble_eq_true rfl) ⟨Nat.zero_le _, Nat.zero_le _⟩ dX6_weigh_80 ?_
    intro H_18 lo_18 I_18
    refine lv_iconst (v := (0 : Int32)) hx hb dX6_weigh_83 (by decide) ?_
    refine lv_istore (lv' := [(5, .int (0 : Int32)), (0, .ref (ad 16)), (1, .ref (ad 2))]) hx hb dX6_weigh_84 hl_12 (by decide) rfl (fun ls_19 hl_19 => ?_)
    obtain ⟨G22, hq2, hf⟩ := bd_some hf
    have K2 : ∀ (H : Heap) (locs : List Loc), sInv D (cT cI cJ cD cS) (cW ad cI cJ cD cS) A s H locs (G22, E, Dd, P, L, pf) → ∀ (ls : Array Slot), lv_has ls 8 [] → W p l e R s m args below meth c H locs 0 0 Q (F0 m 143 ls []) := by
      intro H_23 lo_23 I_23 ls_24 hl_24
      cases hf
      exact ret H_23 lo_23 _ ls_24 I_23 dX6_weigh_143
    have L2 : ∀ (n : Nat) (x20 : Int32) (G21 : Nat → Nat → Int32), lp (fun q => C_SD_weigh_1_s2 q.1 q.2) n (x20, G21) = some G22 → ∀ (H : Heap) (locs : List Loc), sInv D (cT cI cJ cD cS) (cW ad cI cJ cD cS) A s H locs (G21, E, Dd, P, L, pf) → ∀ (ls : Array Slot), lv_has ls 8 [(0, .ref (ad 16)), (1, .ref (ad 2)), (5, .int x20)] → W p l e R s m args below meth c H locs 0 0 Q (F0 m 86 ls []) := by
      intro n
      induction n with
      | zero => intro x20 G21 hq; exact (lp_0 hq).elim
      | succ n ih2 =>
        intro x20 G21 hq H_25 lo_25 I_25 ls_26 hl_26
        obtain ⟨y2, hf, hK2⟩ := lp_go hq
        replace hf : C_SD_weigh_1_s2 x20 G21 = some y2 := hf
        unfold C_SD_weigh_1_s2 at hf
        refine lv_iload hx hb dX6_weigh_86 (lv_at hl_26 2 rfl) ?_
        refine lv_aload_n hx hb dX6_weigh_88 rfl (lv_at hl_26 1 rfl) ?_
        refine kgtX6_73_2 F I_25 dX6_weigh_89 ?_
        refine lv_icmp_ge (tgt := 143) hx hb dX6_weigh_92 (by decide) (fun c45 => ?_) (fun c45 => ?_)
        · replace hf := (if_pos c45).symm.trans hf
          cases hf
          cases (show G21 = G22 from hK2)
          exact K2 H_25 lo_25 I_25 ls_26 (lv_sub hl_26 [] rfl)
        · replace hf := (if_neg c45).symm.trans hf
          refine lv_aload_n hx hb dX6_weigh_95 rfl (lv_at hl_26 1 rfl) ?_
          refine lv_iload hx hb dX6_weigh_96 (lv_at hl_26 2 rfl) ?_
          obtain ⟨r27, h28, hf⟩ := bd_some hf
          refine s_callVi (As := [.int x20]) (rest := []) F I_25 (cC_CO_at G21 E Dd P L pf x20 r27 h28) kX6_78 ⟨rfl, rfl⟩ ⟨Nat.le_trans (Nat.le_of_ble_eq_true rfl) hRf, Nat.le_trans (Nat.le_of_ble_eq_true rfl) hRl⟩ 2 1 rfl rfl rfl rfl rfl hl_26.1 (Nat.le_of_ble_eq_true rfl) ⟨Nat.zero_le _, Nat.zero_le _⟩ dX6_weigh_98 ?_
          intro H_29 lo_29 I_29
          refine lv_istore (lv' := [(6, .int r27), (0, .ref (ad 16)), (1, .ref (ad 2)), (5, .int x20)]) hx hb dX6_weigh_101 hl_26 (by decide) rfl (fun ls_30 hl_30 => ?_)
          refine lv_aload_n hx hb dX6_weigh_103 rfl (lv_at hl_30 1 rfl) ?_
          refine kgtX6_15_16 F I_29 dX6_weigh_104 ?_
          refine lv_iload hx hb dX6_weigh_107 (lv_at hl_30 0 rfl) ?_
          obtain ⟨r31, h32⟩ : ∃ z, z = C_CO_listenerOf r27 := ⟨_, rfl⟩
          replace hf := nm_some h32 hf
          refine s_callSi (As := [.int r27]) (rest := [.ref (ad 17)]) F I_29 (cC_CO_listenerOf G21 E Dd P L pf r27 r31 h32) kX6_82 ⟨rfl, rfl⟩ ⟨Nat.le_trans (Nat.le_of_ble_eq_true rfl) hRf, Nat.le_trans (Nat.le_of_ble_eq_true rfl) hRl⟩ rfl rfl hl_30.1 (Nat.le_of_ble_eq_true rfl) ⟨Nat.zero_le _, Nat.zero_le _⟩ dX6_weigh_109 ?_
          intro H_33 lo_33 I_33
          obtain ⟨g34, hf⟩ := ri_some hf
          refine kal17 F I_33 g34 dX6_weigh_112 ?_
          refine lv_topi (fun x35 ex35 => ?_)
          replace hf := nm_some ex35 hf
          refine lv_istore (lv' := [(7, .int x35), (6, .int r27), (0, .ref (ad 16)), (1, .ref (ad 2)), (5, .int x20)]) hx hb dX6_weigh_113 hl_30 (by decide) rfl (fun ls_36 hl_36 => ?_)
          refine lv_aload_n hx hb dX6_weigh_115 rfl (lv_at hl_36 2 rfl) ?_
          refine kgtX6_22_16 F I_33 dX6_weigh_116 ?_
          refine lv_iload hx hb dX6_weigh_119 (lv_at hl_36 1 rfl) ?_
          refine lv_iload hx hb dX6_weigh_121 (lv_at hl_36 0 rfl) ?_
          obtain ⟨G37, h38, hf⟩ := bd_some hf
          refine s_callVv (As := [.int r27, .int x35]) (rest := []) F I_33 (cC_LE_addWin_22 G21 E Dd P L pf r27 x35 G37 h38) kX6_85 ⟨rfl, rfl⟩ ⟨Nat.le_trans (Nat.le_of_ble_eq_true rfl) hRf, Nat.le_trans (Nat.le_of_ble_eq_true rfl) hRl⟩ 22 3 rfl rfl rfl rfl rfl hl_36.1 (Nat.le_of_ble_eq_true rfl) ⟨Nat.zero_le _, Nat.zero_le _⟩ dX6_weigh_123 ?_
          intro H_39 lo_39 I_39
          refine lv_aload_n hx hb dX6_weigh_126 rfl (lv_at hl_36 2 rfl) ?_
          refine kgtX6_26_16 F I_39 dX6_weigh_127 ?_
          refine lv_iload hx hb dX6_weigh_130 (lv_at hl_36 1 rfl) ?_
          refine lv_iload hx hb dX6_weigh_132 (lv_at hl_36 0 rfl) ?_
          obtain ⟨G40, h41, hf⟩ := bd_some hf
          refine s_callSv (As := [.ref (ad 18), .int r27, .int x35]) (rest := []) F I_39 (cC_SD_addPoints_18 G37 E Dd P L pf r27 x35 G40 h41) kX6_89 ⟨rfl, rfl⟩ ⟨Nat.le_trans (Nat.le_of_ble_eq_true rfl) hRf, Nat.le_trans (Nat.le_of_ble_eq_true rfl) hRl⟩ rfl rfl hl_36.1 (Nat.le_of_ble_eq_true rfl) ⟨Nat.zero_le _, Nat.zero_le _⟩ dX6_weigh_134 ?_
          intro H_42 lo_42 I_42
          obtain ⟨x43, ex43⟩ : ∃ y : Int32, y = x20 + (1 : Int32) := ⟨_, rfl⟩
          replace hf := nm_some ex43 hf
          refine lv_iinc (v := x43) (lv' := [(5, .int x43), (7, .int x35), (6, .int r27), (0, .ref (ad 16)), (1, .ref (ad 2))]) hx hb dX6_weigh_137 hl_36 (k := 4) rfl (by rw [ex43]; rfl) (by decide) rfl (fun ls_44 hl_44 => ?_)
          refine lv_goto (tgt := 86) hx hb dX6_weigh_140 (by decide) ?_
          cases hf
          exact ih2 _ _ hK2 H_42 lo_42 I_42 ls_44 (lv_sub hl_44 [3, 4, 0] rfl)
    exact L2 FU _ _ hq2 H_18 lo_18 I_18 ls_19 (lv_sub hl_19 [1, 2, 0] rfl)
  have L1 : ∀ (n : Nat) (x8 : Int32) (G9 : Nat → Nat → Int32), lp (fun q => C_SD_weigh_1_s1 a3 q.1 q.2) n (x8, G9) = some G10 → ∀ (H : Heap) (locs : List Loc), sInv D (cT cI cJ cD cS) (cW ad cI cJ cD cS) A s H locs (G9, E, Dd, P, L, pf) → ∀ (ls : Array Slot), lv_has ls 8 [(0, .ref (ad 16)), (1, .ref (ad 2)), (3, .ref (ad 1)), (4, .int a3), (5, .int x8)] → W p l e R s m args below meth c H locs 0 0 Q (F0 m 26 ls []) := by
    intro n
    induction n with
    | zero => intro x8 G9 hq; exact (lp_0 hq).elim
    | succ n ih1 =>
      intro x8 G9 hq H_46 lo_46 I_46 ls_47 hl_47
      obtain ⟨y1, hf, hK1⟩ := lp_go hq
      replace hf : C_SD_weigh_1_s1 a3 x8 G9 = some y1 := hf
      unfold C_SD_weigh_1_s1 at hf
      refine lv_iload hx hb dX6_weigh_26 (lv_at hl_47 4 rfl) ?_
      refine lv_bipush (v := (8 : Int32)) hx hb dX6_weigh_28 (by decide) ?_
      refine lv_icmp_ge (tgt := 68) hx hb dX6_weigh_30 (by decide) (fun c61 => ?_) (fun c61 => ?_)
      · replace hf := (if_pos c61).symm.trans hf
        cases hf
        cases (show G9 = G10 from hK1)
        exact K1 H_46 lo_46 I_46 ls_47 (lv_sub hl_47 [0, 1] rfl)
      · replace hf := (if_neg c61).symm.trans hf
        refine lv_aload_n hx hb dX6_weigh_33 rfl (lv_at hl_47 0 rfl) ?_
        refine kgtX6_15_16 F I_46 dX6_weigh_34 ?_
        refine lv_iload hx hb dX6_weigh_37 (lv_at hl_47 4 rfl) ?_
        refine lv_iload hx hb dX6_weigh_39 (lv_at hl_47 4 rfl) ?_
        refine lv_iload hx hb dX6_weigh_41 (lv_at hl_47 3 rfl) ?_
        obtain ⟨x49, hv57, hf⟩ := bd_some hf
        have J48 : ∀ (H : Heap) (locs : List Loc), sInv D (cT cI cJ cD cS) (cW ad cI cJ cD cS) A s H locs (G9, E, Dd, P, L, pf) → ∀ (ls : Array Slot), lv_has ls 8 [(0, .ref (ad 16)), (1, .ref (ad 2)), (3, .ref (ad 1)), (4, .int a3), (5, .int x8)] → W p l e R s m args below meth c H locs 0 0 Q (F0 m 61 ls [.int x49, .int x8, .ref (ad 17)]) := by
          intro H_50 lo_50 I_50 ls_51 hl_51
          obtain ⟨g52, hf⟩ := ri_some hf
          refine kas17 F I_50 g52 dX6_weigh_61 ?_
          intro H_54 lo_54 G53 eG53 I_54
          replace hf := nm_some eG53 hf
          obtain ⟨x55, ex55⟩ : ∃ y : Int32, y = x8 + (1 : Int32) := ⟨_, rfl⟩
          replace hf := nm_some ex55 hf
          refine lv_iinc (v := x55) (lv' := [(5, .int x55), (0, .ref (ad 16)), (1, .ref (ad 2)), (3, .ref (ad 1)), (4, .int a3)]) hx hb dX6_weigh_62 hl_51 (k := 4) rfl (by rw [ex55]; rfl) (by decide) rfl (fun ls_56 hl_56 => ?_)
          refine lv_goto (tgt := 26) hx hb dX6_weigh_65 (by decide) ?_
          cases hf
          exact ih1 _ _ hK1 H_54 lo_54 I_54 ls_56 (lv_sub hl_56 [1, 2, 3, 4, 0] rfl)
        replace hf := hv57
        refine lv_icmp_eq (tgt := 53) hx hb dX6_weigh_43 (by decide) (fun c60 => ?_) (fun c60 => ?_)
        · replace hf := (if_pos c60).symm.trans hf
          refine lv_iconst (v := (0 : Int32)) hx hb dX6_weigh_53 (by decide) ?_
          refine lv_goto (tgt := 61) hx hb dX6_weigh_54 (by decide) ?_
          cases hf
          exact J48 H_46 lo_46 I_46 ls_47 (lv_sub hl_47 [0, 1, 2, 3, 4] rfl)
        · replace hf := (if_neg c60).symm.trans hf
          refine lv_iload hx hb dX6_weigh_46 (lv_at hl_47 4 rfl) ?_
          refine lv_aload_n hx hb dX6_weigh_48 rfl (lv_at hl_47 2 rfl) ?_
          refine kln1 F I_46 dX6_weigh_49 ?_
          refine lv_icmp_lt (tgt := 57) hx hb dX6_weigh_50 (by decide) (fun c59 => ?_) (fun c59 => ?_)
          · replace hf := (if_pos c59).symm.trans hf
            refine lv_aload_n hx hb dX6_weigh_57 rfl (lv_at hl_47 2 rfl) ?_
            refine lv_iload hx hb dX6_weigh_58 (lv_at hl_47 4 rfl) ?_
            obtain ⟨g58, hf⟩ := ri_some hf
            refine kal1 F I_46 g58 dX6_weigh_60 ?_
            cases hf
            exact J48 H_46 lo_46 I_46 ls_47 (lv_sub hl_47 [0, 1, 2, 3, 4] rfl)
          · replace hf := (if_neg c59).symm.trans hf
            refine lv_iconst (v := (0 : Int32)) hx hb dX6_weigh_53 (by decide) ?_
            refine lv_goto (tgt := 61) hx hb dX6_weigh_54 (by decide) ?_
            cases hf
            exact J48 H_46 lo_46 I_46 ls_47 (lv_sub hl_47 [0, 1, 2, 3, 4] rfl)
  exact L1 FU _ _ hq1 H_6 lo_6 I_6 ls_7 (lv_sub hl_7 [1, 2, 4, 5, 0] rfl)
def C_LT_weigh (G : Nat → Nat → Int32) (a0 : Int32) : Option ((Nat → Nat → Int32)) :=
bd (C_SD_weigh_1 G (G 0 0) a0) fun G1 =>
some G1
set_option maxRecDepth 100000 in
set_option maxHeartbeats 4000000 in
theorem cC_LT_weigh (G : Nat → Nat → Int32) (E : Nat → Nat → Int64) (Dd : Nat → Nat → UInt64) (P : Nat → Option Nat) (L : List Nat) (pf : Nat → va_E) (a0 : Int32)  (newG : Nat → Nat → Int32) (hf : C_LT_weigh G a0 = some newG) : sMv D (cT cI cJ cD cS) (cW ad cI cJ cD cS) l yX11_weigh (ws1 yX11_weigh cX11_weigh 2 none) ({ frames := 4, cells := 0, slots := 0, locals := 91 }) [.ref (ad 0), .int a0] (G, E, Dd, P, L, pf) (newG, E, Dd, P, L, pf) := by
  unfold C_LT_weigh at hf
  refine sMv_of (by decide) (Nat.le_of_ble_eq_true rfl) ?_
  intro p e R s m args below meth c A Q ls H lo F hRf hRl I hl ret
  obtain ⟨hx, hb, hml, hown, hG⟩ := id F
  replace hl : lv_has ls 2 [(0, .ref (ad 0)), (1, .int a0)] := hl
  refine lv_aload_n hx hb dX11_weigh_0 rfl (lv_at hl 0 rfl) ?_
  refine kgtX11_54_0 F I dX11_weigh_1 ?_
  refine lv_aload_n hx hb dX11_weigh_4 rfl (lv_at hl 0 rfl) ?_
  refine kgtX11_16_0 F I dX11_weigh_5 ?_
  refine lv_aload_n hx hb dX11_weigh_8 rfl (lv_at hl 0 rfl) ?_
  refine kgtX11_89_0 F I dX11_weigh_9 ?_
  refine lv_aload_n hx hb dX11_weigh_12 rfl (lv_at hl 0 rfl) ?_
  refine kgtX11_9_0 F I dX11_weigh_13 ?_
  refine lv_iload_n hx hb dX11_weigh_16 rfl (lv_at hl 1 rfl) ?_
  obtain ⟨G1, h2, hf⟩ := bd_some hf
  refine s_callVv (As := [.ref (ad 2), .int (G 0 0), .ref (ad 1), .int a0]) (rest := []) F I (cC_SD_weigh_1 G E Dd P L pf (G 0 0) a0 G1 h2) kX11_329 ⟨rfl, rfl⟩ ⟨Nat.le_trans (Nat.le_of_ble_eq_true rfl) hRf, Nat.le_trans (Nat.le_of_ble_eq_true rfl) hRl⟩ 16 6 rfl rfl rfl rfl rfl hl.1 (Nat.le_of_ble_eq_true rfl) ⟨Nat.zero_le _, Nat.zero_le _⟩ dX11_weigh_17 ?_
  intro H_3 lo_3 I_3
  cases hf
  exact ret H_3 lo_3 _ ls I_3 dX11_weigh_20
def C_JA_fill_i_13_s1 (a1 : Int32) (x3 : Int32) (G4 : Nat → Nat → Int32) : Option ((Int32 × (Nat → Nat → Int32)) ⊕ ((Nat → Nat → Int32))) :=
if (64 : Int32) ≤ x3 then
(some (.inr G4))
else
(ri 64 x3 <|
nm (wr G4 18 x3 a1) fun G11 =>
nm (x3 + (1 : Int32) : Int32) fun x13 =>
some (.inl (x13, G11)))
def C_JA_fill_i_13 (G : Nat → Nat → Int32) (a1 : Int32) : Option ((Nat → Nat → Int32)) :=
bd (lp (fun q => C_JA_fill_i_13_s1 a1 q.1 q.2) FU ((0 : Int32), G)) fun G5 =>
some G5
set_option maxRecDepth 100000 in
set_option maxHeartbeats 4000000 in
theorem cC_JA_fill_i_13 (G : Nat → Nat → Int32) (E : Nat → Nat → Int64) (Dd : Nat → Nat → UInt64) (P : Nat → Option Nat) (L : List Nat) (pf : Nat → va_E) (a1 : Int32)  (newG : Nat → Nat → Int32) (hf : C_JA_fill_i_13 G a1 = some newG) : sMv D (cT cI cJ cD cS) (cW ad cI cJ cD cS) l yJ7_fill_53178 (ws1 yJ7_fill_53178 cJ7_fill_53178 4 none) ({ frames := 0, cells := 0, slots := 0, locals := 0 }) [.ref (ad 13), .int a1] (G, E, Dd, P, L, pf) (newG, E, Dd, P, L, pf) := by
  unfold C_JA_fill_i_13 at hf
  refine sMv_of (by decide) (Nat.le_of_ble_eq_true rfl) ?_
  intro p e R s m args below meth c A Q ls H lo F hRf hRl I hl ret
  obtain ⟨hx, hb, hml, hown, hG⟩ := id F
  replace hl : lv_has ls 4 [(0, .ref (ad 13)), (1, .int a1)] := hl
  refine lv_iconst (v := (0 : Int32)) hx hb dJ7_fill_53178_0 (by decide) ?_
  refine lv_istore_n (lv' := [(2, .int (0 : Int32)), (0, .ref (ad 13)), (1, .int a1)]) hx hb dJ7_fill_53178_1 rfl hl (by decide) rfl (fun ls_1 hl_1 => ?_)
  refine lv_aload_n hx hb dJ7_fill_53178_2 rfl (lv_at hl_1 1 rfl) ?_
  refine kln13 F I dJ7_fill_53178_3 ?_
  refine lv_istore_n (lv' := [(3, .int (64 : Int32)), (2, .int (0 : Int32)), (0, .ref (ad 13)), (1, .int a1)]) hx hb dJ7_fill_53178_4 rfl hl_1 (by decide) rfl (fun ls_2 hl_2 => ?_)
  obtain ⟨G5, hq1, hf⟩ := bd_some hf
  have K1 : ∀ (H : Heap) (locs : List Loc), sInv D (cT cI cJ cD cS) (cW ad cI cJ cD cS) A s H locs (G5, E, Dd, P, L, pf) → ∀ (ls : Array Slot), lv_has ls 4 [] → W p l e R s m args below meth c H locs 0 0 Q (F0 m 20 ls []) := by
    intro H_6 lo_6 I_6 ls_7 hl_7
    cases hf
    exact ret H_6 lo_6 _ ls_7 I_6 dJ7_fill_53178_20
  have L1 : ∀ (n : Nat) (x3 : Int32) (G4 : Nat → Nat → Int32), lp (fun q => C_JA_fill_i_13_s1 a1 q.1 q.2) n (x3, G4) = some G5 → ∀ (H : Heap) (locs : List Loc), sInv D (cT cI cJ cD cS) (cW ad cI cJ cD cS) A s H locs (G4, E, Dd, P, L, pf) → ∀ (ls : Array Slot), lv_has ls 4 [(0, .ref (ad 13)), (1, .int a1), (2, .int x3), (3, .int (64 : Int32))] → W p l e R s m args below meth c H locs 0 0 Q (F0 m 5 ls []) := by
    intro n
    induction n with
    | zero => intro x3 G4 hq; exact (lp_0 hq).elim
    | succ n ih1 =>
      intro x3 G4 hq H_8 lo_8 I_8 ls_9 hl_9
      obtain ⟨y1, hf, hK1⟩ := lp_go hq
      replace hf : C_JA_fill_i_13_s1 a1 x3 G4 = some y1 := hf
      unfold C_JA_fill_i_13_s1 at hf
      refine lv_iload_n hx hb dJ7_fill_53178_5 rfl (lv_at hl_9 2 rfl) ?_
      refine lv_iload_n hx hb dJ7_fill_53178_6 rfl (lv_at hl_9 3 rfl) ?_
      refine lv_icmp_ge (tgt := 20) hx hb dJ7_fill_53178_7 (by decide) (fun c15 => ?_) (fun c15 => ?_)
      · replace hf := (if_pos c15).symm.trans hf
        cases hf
        cases (show G4 = G5 from hK1)
        exact K1 H_8 lo_8 I_8 ls_9 (lv_sub hl_9 [] rfl)
      · replace hf := (if_neg c15).symm.trans hf
        refine lv_aload_n hx hb dJ7_fill_53178_10 rfl (lv_at hl_9 0 rfl) ?_
        refine lv_iload_n hx hb dJ7_fill_53178_11 rfl (lv_at hl_9 2 rfl) ?_
        refine lv_iload_n hx hb dJ7_fill_53178_12 rfl (lv_at hl_9 1 rfl) ?_
        obtain ⟨g10, hf⟩ := ri_some hf
        refine kas13 F I_8 g10 dJ7_fill_53178_13 ?_
        intro H_12 lo_12 G11 eG11 I_12
        replace hf := nm_some eG11 hf
        obtain ⟨x13, ex13⟩ : ∃ y : Int32, y = x3 + (1 : Int32) := ⟨_, rfl⟩
        replace hf := nm_some ex13 hf
        refine lv_iinc (v := x13) (lv' := [(2, .int x13), (0, .ref (ad 13)), (1, .int a1), (3, .int (64 : Int32))]) hx hb dJ7_fill_53178_14 hl_9 (k := 2) rfl (by rw [ex13]; rfl) (by decide) rfl (fun ls_14 hl_14 => ?_)
        refine lv_goto (tgt := 5) hx hb dJ7_fill_53178_17 (by decide) ?_
        cases hf
        exact ih1 _ _ hK1 H_12 lo_12 I_12 ls_14 (lv_sub hl_14 [1, 2, 0, 3] rfl)
  exact L1 FU _ _ hq1 H lo I ls_2 (lv_sub hl_2 [2, 3, 1, 0] rfl)
def C_LE_clearAll_12 (G : Nat → Nat → Int32) : Option ((Nat → Nat → Int32)) :=
bd (C_JA_fill_i_13 G (0 : Int32)) fun G1 =>
some G1
set_option maxRecDepth 100000 in
set_option maxHeartbeats 4000000 in
theorem cC_LE_clearAll_12 (G : Nat → Nat → Int32) (E : Nat → Nat → Int64) (Dd : Nat → Nat → UInt64) (P : Nat → Option Nat) (L : List Nat) (pf : Nat → va_E)   (newG : Nat → Nat → Int32) (hf : C_LE_clearAll_12 G = some newG) : sMv D (cT cI cJ cD cS) (cW ad cI cJ cD cS) l yX3_clearAll (ws1 yX3_clearAll cX3_clearAll 1 none) ({ frames := 1, cells := 0, slots := 0, locals := 23 }) [.ref (ad 12)] (G, E, Dd, P, L, pf) (newG, E, Dd, P, L, pf) := by
  unfold C_LE_clearAll_12 at hf
  refine sMv_of (by decide) (Nat.le_of_ble_eq_true rfl) ?_
  intro p e R s m args below meth c A Q ls H lo F hRf hRl I hl ret
  obtain ⟨hx, hb, hml, hown, hG⟩ := id F
  replace hl : lv_has ls 1 [(0, .ref (ad 12))] := hl
  refine lv_aload_n hx hb dX3_clearAll_0 rfl (lv_at hl 0 rfl) ?_
  refine kgtX3_9_12 F I dX3_clearAll_1 ?_
  refine lv_iconst (v := (0 : Int32)) hx hb dX3_clearAll_4 (by decide) ?_
  obtain ⟨G1, h2, hf⟩ := bd_some hf
  refine s_callSv (As := [.ref (ad 13), .int (0 : Int32)]) (rest := []) F I (cC_JA_fill_i_13 G E Dd P L pf (0 : Int32) G1 h2) kX3_15 ⟨rfl, rfl⟩ ⟨Nat.le_trans (Nat.le_of_ble_eq_true rfl) hRf, Nat.le_trans (Nat.le_of_ble_eq_true rfl) hRl⟩ rfl rfl hl.1 (Nat.le_of_ble_eq_true rfl) ⟨Nat.zero_le _, Nat.zero_le _⟩ dX3_clearAll_5 ?_
  intro H_3 lo_3 I_3
  cases hf
  exact ret H_3 lo_3 _ ls I_3 dX3_clearAll_8
def C_LE_addWin_12 (G : Nat → Nat → Int32) (a0 : Int32) (a1 : Int32) : Option ((Nat → Nat → Int32)) :=
nm (C_CO_answerOf a0) fun r1 =>
if r1 = 0 then
(some G)
else
(bd (C_CO_winnerOf a0) fun r4 =>
bd (C_CO_loserOf a0) fun r8 =>
nm (C_LT_cell r4 r8) fun r12 =>
ri 64 r12 <|
ri 64 r12 <|
nm (wr G 18 r12 ((G 18 r12.toNatClampNeg) + a1)) fun G17 =>
nm (C_LT_cell r8 r4) fun r19 =>
ri 64 r19 <|
ri 64 r19 <|
nm (wr G17 18 r19 ((G17 18 r19.toNatClampNeg) - a1)) fun G24 =>
some G24)
set_option maxRecDepth 100000 in
set_option maxHeartbeats 4000000 in
theorem cC_LE_addWin_12 (G : Nat → Nat → Int32) (E : Nat → Nat → Int64) (Dd : Nat → Nat → UInt64) (P : Nat → Option Nat) (L : List Nat) (pf : Nat → va_E) (a0 : Int32) (a1 : Int32)  (newG : Nat → Nat → Int32) (hf : C_LE_addWin_12 G a0 a1 = some newG) : sMv D (cT cI cJ cD cS) (cW ad cI cJ cD cS) l yX3_addWin (ws1 yX3_addWin cX3_addWin 5 none) ({ frames := 2, cells := 0, slots := 0, locals := 40 }) [.ref (ad 12), .int a0, .int a1] (G, E, Dd, P, L, pf) (newG, E, Dd, P, L, pf) := by
  unfold C_LE_addWin_12 at hf
  refine sMv_of (by decide) (Nat.le_of_ble_eq_true rfl) ?_
  intro p e R s m args below meth c A Q ls H lo F hRf hRl I hl ret
  obtain ⟨hx, hb, hml, hown, hG⟩ := id F
  replace hl : lv_has ls 5 [(0, .ref (ad 12)), (1, .int a0), (2, .int a1)] := hl
  refine lv_iload_n hx hb dX3_addWin_0 rfl (lv_at hl 1 rfl) ?_
  obtain ⟨r1, h2⟩ : ∃ z, z = C_CO_answerOf a0 := ⟨_, rfl⟩
  replace hf := nm_some h2 hf
  refine s_callSi (As := [.int a0]) (rest := []) F I (cC_CO_answerOf G E Dd P L pf a0 r1 h2) kX3_41 ⟨rfl, rfl⟩ ⟨Nat.le_trans (Nat.le_of_ble_eq_true rfl) hRf, Nat.le_trans (Nat.le_of_ble_eq_true rfl) hRl⟩ rfl rfl hl.1 (Nat.le_of_ble_eq_true rfl) ⟨Nat.zero_le _, Nat.zero_le _⟩ dX3_addWin_1 ?_
  intro H_3 lo_3 I_3
  refine lv_if_eq (tgt := 48) hx hb dX3_addWin_4 (by decide) (fun c26 => ?_) (fun c26 => ?_)
  · replace hf := (if_pos c26).symm.trans hf
    cases hf
    exact ret H_3 lo_3 _ ls I_3 dX3_addWin_48
  · replace hf := (if_neg c26).symm.trans hf
    refine lv_iload_n hx hb dX3_addWin_7 rfl (lv_at hl 1 rfl) ?_
    obtain ⟨r4, h5, hf⟩ := bd_some hf
    refine s_callSi (As := [.int a0]) (rest := []) F I_3 (cC_CO_winnerOf G E Dd P L pf a0 r4 h5) kX3_44 ⟨rfl, rfl⟩ ⟨Nat.le_trans (Nat.le_of_ble_eq_true rfl) hRf, Nat.le_trans (Nat.le_of_ble_eq_true rfl) hRl⟩ rfl rfl hl.1 (Nat.le_of_ble_eq_true rfl) ⟨Nat.zero_le _, Nat.zero_le _⟩ dX3_addWin_8 ?_
    intro H_6 lo_6 I_6
    refine lv_istore_n (lv' := [(3, .int r4), (0, .ref (ad 12)), (1, .int a0), (2, .int a1)]) hx hb dX3_addWin_11 rfl hl (by decide) rfl (fun ls_7 hl_7 => ?_)
    refine lv_iload_n hx hb dX3_addWin_12 rfl (lv_at hl_7 2 rfl) ?_
    obtain ⟨r8, h9, hf⟩ := bd_some hf
    refine s_callSi (As := [.int a0]) (rest := []) F I_6 (cC_CO_loserOf G E Dd P L pf a0 r8 h9) kX3_47 ⟨rfl, rfl⟩ ⟨Nat.le_trans (Nat.le_of_ble_eq_true rfl) hRf, Nat.le_trans (Nat.le_of_ble_eq_true rfl) hRl⟩ rfl rfl hl_7.1 (Nat.le_of_ble_eq_true rfl) ⟨Nat.zero_le _, Nat.zero_le _⟩ dX3_addWin_13 ?_
    intro H_10 lo_10 I_10
    refine lv_istore (lv' := [(4, .int r8), (3, .int r4), (0, .ref (ad 12)), (1, .int a0), (2, .int a1)]) hx hb dX3_addWin_16 hl_7 (by decide) rfl (fun ls_11 hl_11 => ?_)
    refine lv_aload_n hx hb dX3_addWin_18 rfl (lv_at hl_11 2 rfl) ?_
    refine kgtX3_9_12 F I_10 dX3_addWin_19 ?_
    refine lv_iload_n hx hb dX3_addWin_22 rfl (lv_at hl_11 1 rfl) ?_
    refine lv_iload hx hb dX3_addWin_23 (lv_at hl_11 0 rfl) ?_
    obtain ⟨r12, h13⟩ : ∃ z, z = C_LT_cell r4 r8 := ⟨_, rfl⟩
    replace hf := nm_some h13 hf
    refine s_callSNi (As := [.int r4, .int r8]) (rest := [.ref (ad 13)]) F I_10 (cC_LT_cell G E Dd P L pf r4 r8 r12 h13) kX3_50 ⟨rfl, rfl⟩ ⟨Nat.le_trans (Nat.le_of_ble_eq_true rfl) hRf, Nat.le_trans (Nat.le_of_ble_eq_true rfl) hRl⟩ rfl rfl hl_11.1 (Nat.le_of_ble_eq_true rfl) ⟨Nat.zero_le _, Nat.zero_le _⟩ dX3_addWin_25 ?_
    intro H_14 lo_14 I_14
    refine lv_dup2_11 hx hb dX3_addWin_28 rfl rfl ?_
    obtain ⟨g15, hf⟩ := ri_some hf
    refine kal13 F I_14 g15 dX3_addWin_29 ?_
    refine lv_iload_n hx hb dX3_addWin_30 rfl (lv_at hl_11 4 rfl) ?_
    refine lv_iadd hx hb dX3_addWin_31 ?_
    obtain ⟨g16, hf⟩ := ri_some hf
    refine kas13 F I_14 g16 dX3_addWin_32 ?_
    intro H_18 lo_18 G17 eG17 I_18
    replace hf := nm_some eG17 hf
    refine lv_aload_n hx hb dX3_addWin_33 rfl (lv_at hl_11 2 rfl) ?_
    refine kgtX3_9_12 F I_18 dX3_addWin_34 ?_
    refine lv_iload hx hb dX3_addWin_37 (lv_at hl_11 0 rfl) ?_
    refine lv_iload_n hx hb dX3_addWin_39 rfl (lv_at hl_11 1 rfl) ?_
    obtain ⟨r19, h20⟩ : ∃ z, z = C_LT_cell r8 r4 := ⟨_, rfl⟩
    replace hf := nm_some h20 hf
    refine s_callSNi (As := [.int r8, .int r4]) (rest := [.ref (ad 13)]) F I_18 (cC_LT_cell G17 E Dd P L pf r8 r4 r19 h20) kX3_50 ⟨rfl, rfl⟩ ⟨Nat.le_trans (Nat.le_of_ble_eq_true rfl) hRf, Nat.le_trans (Nat.le_of_ble_eq_true rfl) hRl⟩ rfl rfl hl_11.1 (Nat.le_of_ble_eq_true rfl) ⟨Nat.zero_le _, Nat.zero_le _⟩ dX3_addWin_40 ?_
    intro H_21 lo_21 I_21
    refine lv_dup2_11 hx hb dX3_addWin_43 rfl rfl ?_
    obtain ⟨g22, hf⟩ := ri_some hf
    refine kal13 F I_21 g22 dX3_addWin_44 ?_
    refine lv_iload_n hx hb dX3_addWin_45 rfl (lv_at hl_11 4 rfl) ?_
    refine lv_isub hx hb dX3_addWin_46 ?_
    obtain ⟨g23, hf⟩ := ri_some hf
    refine kas13 F I_21 g23 dX3_addWin_47 ?_
    intro H_25 lo_25 G24 eG24 I_25
    replace hf := nm_some eG24 hf
    cases hf
    exact ret H_25 lo_25 _ ls_11 I_25 dX3_addWin_48
def C_LE_takeListener_12_s1 (a1 : Int32) (x5 : Int32) (G6 : Nat → Nat → Int32) : Option ((Int32 × (Nat → Nat → Int32)) ⊕ ((Nat → Nat → Int32))) :=
if G6 5 0 ≤ x5 then
(some (.inr G6))
else
(bd (C_CO_at G6 x5) fun r12 =>
nm (C_CO_listenerOf r12) fun r16 =>
bd (if r16 = a1 then
(bd (C_LE_addWin_12 G6 r12 (1 : Int32)) fun G26 =>
some G26)
else
(some G6)) fun G20 =>
nm (x5 + (1 : Int32) : Int32) fun x23 =>
some (.inl (x23, G20)))
def C_LE_takeListener_12 (G : Nat → Nat → Int32) (a1 : Int32) : Option ((Nat → Nat → Int32)) :=
bd (C_LE_clearAll_12 G) fun G1 =>
bd (lp (fun q => C_LE_takeListener_12_s1 a1 q.1 q.2) FU ((0 : Int32), G1)) fun G7 =>
some G7
set_option maxRecDepth 100000 in
set_option maxHeartbeats 4000000 in
theorem cC_LE_takeListener_12 (G : Nat → Nat → Int32) (E : Nat → Nat → Int64) (Dd : Nat → Nat → UInt64) (P : Nat → Option Nat) (L : List Nat) (pf : Nat → va_E) (a1 : Int32)  (newG : Nat → Nat → Int32) (hf : C_LE_takeListener_12 G a1 = some newG) : sMv D (cT cI cJ cD cS) (cW ad cI cJ cD cS) l yX3_takeListener (ws1 yX3_takeListener cX3_takeListener 5 none) ({ frames := 3, cells := 0, slots := 0, locals := 64 }) [.ref (ad 12), .ref (ad 2), .int a1] (G, E, Dd, P, L, pf) (newG, E, Dd, P, L, pf) := by
  unfold C_LE_takeListener_12 at hf
  refine sMv_of (by decide) (Nat.le_of_ble_eq_true rfl) ?_
  intro p e R s m args below meth c A Q ls H lo F hRf hRl I hl ret
  obtain ⟨hx, hb, hml, hown, hG⟩ := id F
  replace hl : lv_has ls 5 [(0, .ref (ad 12)), (1, .ref (ad 2)), (2, .int a1)] := hl
  refine lv_aload_n hx hb dX3_takeListener_0 rfl (lv_at hl 0 rfl) ?_
  obtain ⟨G1, h2, hf⟩ := bd_some hf
  refine s_callVv (As := []) (rest := []) F I (cC_LE_clearAll_12 G E Dd P L pf G1 h2) kX3_21 ⟨rfl, rfl⟩ ⟨Nat.le_trans (Nat.le_of_ble_eq_true rfl) hRf, Nat.le_trans (Nat.le_of_ble_eq_true rfl) hRl⟩ 12 3 rfl rfl rfl rfl rfl hl.1 (Nat.le_of_ble_eq_true rfl) ⟨Nat.zero_le _, Nat.zero_le _⟩ dX3_takeListener_1 ?_
  intro H_3 lo_3 I_3
  refine lv_iconst (v := (0 : Int32)) hx hb dX3_takeListener_4 (by decide) ?_
  refine lv_istore_n (lv' := [(3, .int (0 : Int32)), (0, .ref (ad 12)), (1, .ref (ad 2)), (2, .int a1)]) hx hb dX3_takeListener_5 rfl hl (by decide) rfl (fun ls_4 hl_4 => ?_)
  obtain ⟨G7, hq1, hf⟩ := bd_some hf
  have K1 : ∀ (H : Heap) (locs : List Loc), sInv D (cT cI cJ cD cS) (cW ad cI cJ cD cS) A s H locs (G7, E, Dd, P, L, pf) → ∀ (ls : Array Slot), lv_has ls 5 [] → W p l e R s m args below meth c H locs 0 0 Q (F0 m 43 ls []) := by
    intro H_8 lo_8 I_8 ls_9 hl_9
    cases hf
    exact ret H_8 lo_8 _ ls_9 I_8 dX3_takeListener_43
  have L1 : ∀ (n : Nat) (x5 : Int32) (G6 : Nat → Nat → Int32), lp (fun q => C_LE_takeListener_12_s1 a1 q.1 q.2) n (x5, G6) = some G7 → ∀ (H : Heap) (locs : List Loc), sInv D (cT cI cJ cD cS) (cW ad cI cJ cD cS) A s H locs (G6, E, Dd, P, L, pf) → ∀ (ls : Array Slot), lv_has ls 5 [(0, .ref (ad 12)), (1, .ref (ad 2)), (2, .int a1), (3, .int x5)] → W p l e R s m args below meth c H locs 0 0 Q (F0 m 6 ls []) := by
    intro n
    induction n with
    | zero => intro x5 G6 hq; exact (lp_0 hq).elim
    | succ n ih1 =>
      intro x5 G6 hq H_10 lo_10 I_10 ls_11 hl_11
      obtain ⟨y1, hf, hK1⟩ := lp_go hq
      replace hf : C_LE_takeListener_12_s1 a1 x5 G6 = some y1 := hf
      unfold C_LE_takeListener_12_s1 at hf
      refine lv_iload_n hx hb dX3_takeListener_6 rfl (lv_at hl_11 3 rfl) ?_
      refine lv_aload_n hx hb dX3_takeListener_7 rfl (lv_at hl_11 1 rfl) ?_
      refine kgtX3_24_2 F I_10 dX3_takeListener_8 ?_
      refine lv_icmp_ge (tgt := 43) hx hb dX3_takeListener_11 (by decide) (fun c30 => ?_) (fun c30 => ?_)
      · replace hf := (if_pos c30).symm.trans hf
        cases hf
        cases (show G6 = G7 from hK1)
        exact K1 H_10 lo_10 I_10 ls_11 (lv_sub hl_11 [] rfl)
      · replace hf := (if_neg c30).symm.trans hf
        refine lv_aload_n hx hb dX3_takeListener_14 rfl (lv_at hl_11 1 rfl) ?_
        refine lv_iload_n hx hb dX3_takeListener_15 rfl (lv_at hl_11 3 rfl) ?_
        obtain ⟨r12, h13, hf⟩ := bd_some hf
        refine s_callVi (As := [.int x5]) (rest := []) F I_10 (cC_CO_at G6 E Dd P L pf x5 r12 h13) kX3_30 ⟨rfl, rfl⟩ ⟨Nat.le_trans (Nat.le_of_ble_eq_true rfl) hRf, Nat.le_trans (Nat.le_of_ble_eq_true rfl) hRl⟩ 2 1 rfl rfl rfl rfl rfl hl_11.1 (Nat.le_of_ble_eq_true rfl) ⟨Nat.zero_le _, Nat.zero_le _⟩ dX3_takeListener_16 ?_
        intro H_14 lo_14 I_14
        refine lv_istore (lv' := [(4, .int r12), (0, .ref (ad 12)), (1, .ref (ad 2)), (2, .int a1), (3, .int x5)]) hx hb dX3_takeListener_19 hl_11 (by decide) rfl (fun ls_15 hl_15 => ?_)
        refine lv_iload hx hb dX3_takeListener_21 (lv_at hl_15 0 rfl) ?_
        obtain ⟨r16, h17⟩ : ∃ z, z = C_CO_listenerOf r12 := ⟨_, rfl⟩
        replace hf := nm_some h17 hf
        refine s_callSi (As := [.int r12]) (rest := []) F I_14 (cC_CO_listenerOf G6 E Dd P L pf r12 r16 h17) kX3_34 ⟨rfl, rfl⟩ ⟨Nat.le_trans (Nat.le_of_ble_eq_true rfl) hRf, Nat.le_trans (Nat.le_of_ble_eq_true rfl) hRl⟩ rfl rfl hl_15.1 (Nat.le_of_ble_eq_true rfl) ⟨Nat.zero_le _, Nat.zero_le _⟩ dX3_takeListener_23 ?_
        intro H_18 lo_18 I_18
        refine lv_iload_n hx hb dX3_takeListener_26 rfl (lv_at hl_15 3 rfl) ?_
        obtain ⟨G20, hv25, hf⟩ := bd_some hf
        have J19 : ∀ (H : Heap) (locs : List Loc), sInv D (cT cI cJ cD cS) (cW ad cI cJ cD cS) A s H locs (G20, E, Dd, P, L, pf) → ∀ (ls : Array Slot), lv_has ls 5 [(0, .ref (ad 12)), (1, .ref (ad 2)), (2, .int a1), (3, .int x5)] → W p l e R s m args below meth c H locs 0 0 Q (F0 m 37 ls []) := by
          intro H_21 lo_21 I_21 ls_22 hl_22
          obtain ⟨x23, ex23⟩ : ∃ y : Int32, y = x5 + (1 : Int32) := ⟨_, rfl⟩
          replace hf := nm_some ex23 hf
          refine lv_iinc (v := x23) (lv' := [(3, .int x23), (0, .ref (ad 12)), (1, .ref (ad 2)), (2, .int a1)]) hx hb dX3_takeListener_37 hl_22 (k := 3) rfl (by rw [ex23]; rfl) (by decide) rfl (fun ls_24 hl_24 => ?_)
          refine lv_goto (tgt := 6) hx hb dX3_takeListener_40 (by decide) ?_
          cases hf
          exact ih1 _ _ hK1 H_21 lo_21 I_21 ls_24 (lv_sub hl_24 [1, 2, 3, 0] rfl)
        replace hf := hv25
        refine lv_icmp_ne (tgt := 37) hx hb dX3_takeListener_27 (by decide) (fun c29 => ?_) (fun c29 => ?_)
        · replace hf := (if_neg c29).symm.trans hf
          cases hf
          exact J19 H_18 lo_18 I_18 ls_15 (lv_sub hl_15 [1, 2, 3, 4] rfl)
        · replace hf := (if_pos c29).symm.trans hf
          refine lv_aload_n hx hb dX3_takeListener_30 rfl (lv_at hl_15 1 rfl) ?_
          refine lv_iload hx hb dX3_takeListener_31 (lv_at hl_15 0 rfl) ?_
          refine lv_iconst (v := (1 : Int32)) hx hb dX3_takeListener_33 (by decide) ?_
          obtain ⟨G26, h27, hf⟩ := bd_some hf
          refine s_callVv (As := [.int r12, .int (1 : Int32)]) (rest := []) F I_18 (cC_LE_addWin_12 G6 E Dd P L pf r12 (1 : Int32) G26 h27) kX3_37 ⟨rfl, rfl⟩ ⟨Nat.le_trans (Nat.le_of_ble_eq_true rfl) hRf, Nat.le_trans (Nat.le_of_ble_eq_true rfl) hRl⟩ 12 3 rfl rfl rfl rfl rfl hl_15.1 (Nat.le_of_ble_eq_true rfl) ⟨Nat.zero_le _, Nat.zero_le _⟩ dX3_takeListener_34 ?_
          intro H_28 lo_28 I_28
          cases hf
          exact J19 H_28 lo_28 I_28 ls_15 (lv_sub hl_15 [1, 2, 3, 4] rfl)
  exact L1 FU _ _ hq1 H_3 lo_3 I_3 ls_4 (lv_sub hl_4 [1, 2, 3, 0] rfl)
def C_LE_isAhead_12 (G : Nat → Nat → Int32) (a0 : Int32) (a1 : Int32) : Option (Int32) :=
nm (C_LT_cell a0 a1) fun r1 =>
ri 64 r1 <|
if G 18 r1.toNatClampNeg ≤ 0 then
(some (0 : Int32))
else
(some (1 : Int32))
set_option maxRecDepth 100000 in
set_option maxHeartbeats 4000000 in
theorem cC_LE_isAhead_12 (G : Nat → Nat → Int32) (E : Nat → Nat → Int64) (Dd : Nat → Nat → UInt64) (P : Nat → Option Nat) (L : List Nat) (pf : Nat → va_E) (a0 : Int32) (a1 : Int32) (rv : Int32)  (hf : C_LE_isAhead_12 G a0 a1 = some rv) : sMi D (cT cI cJ cD cS) (cW ad cI cJ cD cS) l yX3_isAhead (ws1 yX3_isAhead cX3_isAhead 3 (some .boolean)) ({ frames := 1, cells := 0, slots := 0, locals := 21 }) [.ref (ad 12), .int a0, .int a1] (G, E, Dd, P, L, pf) (rv, (G, E, Dd, P, L, pf)) := by
  unfold C_LE_isAhead_12 at hf
  refine sMz_of (by decide) (Nat.le_of_ble_eq_true rfl) ?_
  intro p e R s m args below meth c A Q ls H lo F hRf hRl I hl ret
  obtain ⟨hx, hb, hml, hown, hG⟩ := id F
  replace hl : lv_has ls 3 [(0, .ref (ad 12)), (1, .int a0), (2, .int a1)] := hl
  refine lv_aload_n hx hb dX3_isAhead_0 rfl (lv_at hl 0 rfl) ?_
  refine kgtX3_9_12 F I dX3_isAhead_1 ?_
  refine lv_iload_n hx hb dX3_isAhead_4 rfl (lv_at hl 1 rfl) ?_
  refine lv_iload_n hx hb dX3_isAhead_5 rfl (lv_at hl 2 rfl) ?_
  obtain ⟨r1, h2⟩ : ∃ z, z = C_LT_cell a0 a1 := ⟨_, rfl⟩
  replace hf := nm_some h2 hf
  refine s_callSNi (As := [.int a0, .int a1]) (rest := [.ref (ad 13)]) F I (cC_LT_cell G E Dd P L pf a0 a1 r1 h2) kX3_50 ⟨rfl, rfl⟩ ⟨Nat.le_trans (Nat.le_of_ble_eq_true rfl) hRf, Nat.le_trans (Nat.le_of_ble_eq_true rfl) hRl⟩ rfl rfl hl.1 (Nat.le_of_ble_eq_true rfl) ⟨Nat.zero_le _, Nat.zero_le _⟩ dX3_isAhead_6 ?_
  intro H_3 lo_3 I_3
  obtain ⟨g4, hf⟩ := ri_some hf
  refine kal13 F I_3 g4 dX3_isAhead_9 ?_
  refine lv_if_le (tgt := 17) hx hb dX3_isAhead_10 (by decide) (fun c5 => ?_) (fun c5 => ?_)
  · replace hf := (if_pos c5).symm.trans hf
    refine lv_iconst (v := (0 : Int32)) hx hb dX3_isAhead_17 (by decide) ?_
    cases hf
    exact ret H_3 lo_3 _ ls I_3 (Or.inl rfl) dX3_isAhead_18
  · replace hf := (if_neg c5).symm.trans hf
    refine lv_iconst (v := (1 : Int32)) hx hb dX3_isAhead_13 (by decide) ?_
    refine lv_goto (tgt := 18) hx hb dX3_isAhead_14 (by decide) ?_
    cases hf
    exact ret H_3 lo_3 _ ls I_3 (Or.inr rfl) dX3_isAhead_18
def C_LT_preferring_s1 (a0 : Int32) (a1 : Int32) (x3 : Int32) (x4 : Int32) (G5 : Nat → Nat → Int32) : Option ((Int32 × Int32 × (Nat → Nat → Int32)) ⊕ (Int32 × (Nat → Nat → Int32))) :=
if G5 1 0 ≤ x4 then
(some (.inr (x3, G5)))
else
(bd (C_LE_takeListener_12 G5 x4) fun G12 =>
bd (C_LE_isAhead_12 G12 a0 a1) fun r15 =>
bd (if r15 = 0 then
(some x3)
else
(nm (x3 + (1 : Int32) : Int32) fun x25 =>
some x25)) fun x19 =>
nm (x4 + (1 : Int32) : Int32) fun x22 =>
some (.inl (x19, x22, G12)))
def C_LT_preferring (G : Nat → Nat → Int32) (a0 : Int32) (a1 : Int32) : Option (Int32 × (Nat → Nat → Int32)) :=
bd2 (lp (fun q => C_LT_preferring_s1 a0 a1 q.1 q.2.1 q.2.2) FU ((0 : Int32), (0 : Int32), G)) fun r6 G7 =>
some (r6, G7)
set_option maxRecDepth 100000 in
set_option maxHeartbeats 4000000 in
theorem cC_LT_preferring (G : Nat → Nat → Int32) (E : Nat → Nat → Int64) (Dd : Nat → Nat → UInt64) (P : Nat → Option Nat) (L : List Nat) (pf : Nat → va_E) (a0 : Int32) (a1 : Int32) (rv : Int32) (newG : Nat → Nat → Int32) (hf : C_LT_preferring G a0 a1 = some (rv, newG)) : sMi D (cT cI cJ cD cS) (cW ad cI cJ cD cS) l yX11_preferring (ws1 yX11_preferring cX11_preferring 5 (some .int)) ({ frames := 4, cells := 0, slots := 0, locals := 88 }) [.ref (ad 0), .int a0, .int a1] (G, E, Dd, P, L, pf) (rv, (newG, E, Dd, P, L, pf)) := by
  unfold C_LT_preferring at hf
  refine sMi_of (by decide) (Nat.le_of_ble_eq_true rfl) ?_
  intro p e R s m args below meth c A Q ls H lo F hRf hRl I hl ret
  obtain ⟨hx, hb, hml, hown, hG⟩ := id F
  replace hl : lv_has ls 5 [(0, .ref (ad 0)), (1, .int a0), (2, .int a1)] := hl
  refine lv_iconst (v := (0 : Int32)) hx hb dX11_preferring_0 (by decide) ?_
  refine lv_istore_n (lv' := [(3, .int (0 : Int32)), (0, .ref (ad 0)), (1, .int a0), (2, .int a1)]) hx hb dX11_preferring_1 rfl hl (by decide) rfl (fun ls_1 hl_1 => ?_)
  refine lv_iconst (v := (0 : Int32)) hx hb dX11_preferring_2 (by decide) ?_
  refine lv_istore (lv' := [(4, .int (0 : Int32)), (3, .int (0 : Int32)), (0, .ref (ad 0)), (1, .int a0), (2, .int a1)]) hx hb dX11_preferring_3 hl_1 (by decide) rfl (fun ls_2 hl_2 => ?_)
  obtain ⟨r6, G7, hq1, hf⟩ := bd2_some hf
  have K1 : ∀ (H : Heap) (locs : List Loc), sInv D (cT cI cJ cD cS) (cW ad cI cJ cD cS) A s H locs (G7, E, Dd, P, L, pf) → ∀ (ls : Array Slot), lv_has ls 5 [(3, .int r6)] → W p l e R s m args below meth c H locs 0 0 Q (F0 m 48 ls []) := by
    intro H_8 lo_8 I_8 ls_9 hl_9
    refine lv_iload_n hx hb dX11_preferring_48 rfl (lv_at hl_9 0 rfl) ?_
    cases hf
    exact ret H_8 lo_8 _ ls_9 I_8 dX11_preferring_49
  have L1 : ∀ (n : Nat) (x3 : Int32) (x4 : Int32) (G5 : Nat → Nat → Int32), lp (fun q => C_LT_preferring_s1 a0 a1 q.1 q.2.1 q.2.2) n (x3, x4, G5) = some (r6, G7) → ∀ (H : Heap) (locs : List Loc), sInv D (cT cI cJ cD cS) (cW ad cI cJ cD cS) A s H locs (G5, E, Dd, P, L, pf) → ∀ (ls : Array Slot), lv_has ls 5 [(0, .ref (ad 0)), (1, .int a0), (2, .int a1), (3, .int x3), (4, .int x4)] → W p l e R s m args below meth c H locs 0 0 Q (F0 m 5 ls []) := by
    intro n
    induction n with
    | zero => intro x3 x4 G5 hq; exact (lp_0 hq).elim
    | succ n ih1 =>
      intro x3 x4 G5 hq H_10 lo_10 I_10 ls_11 hl_11
      obtain ⟨y1, hf, hK1⟩ := lp_go hq
      replace hf : C_LT_preferring_s1 a0 a1 x3 x4 G5 = some y1 := hf
      unfold C_LT_preferring_s1 at hf
      refine lv_iload hx hb dX11_preferring_5 (lv_at hl_11 4 rfl) ?_
      refine lv_aload_n hx hb dX11_preferring_7 rfl (lv_at hl_11 0 rfl) ?_
      refine kgtX11_80_0 F I_10 dX11_preferring_8 ?_
      refine lv_icmp_ge (tgt := 48) hx hb dX11_preferring_11 (by decide) (fun c28 => ?_) (fun c28 => ?_)
      · replace hf := (if_pos c28).symm.trans hf
        cases hf
        cases (show (x3, G5) = (r6, G7) from hK1)
        exact K1 H_10 lo_10 I_10 ls_11 (lv_sub hl_11 [3] rfl)
      · replace hf := (if_neg c28).symm.trans hf
        refine lv_aload_n hx hb dX11_preferring_14 rfl (lv_at hl_11 0 rfl) ?_
        refine kgtX11_44_0 F I_10 dX11_preferring_15 ?_
        refine lv_aload_n hx hb dX11_preferring_18 rfl (lv_at hl_11 0 rfl) ?_
        refine kgtX11_16_0 F I_10 dX11_preferring_19 ?_
        refine lv_iload hx hb dX11_preferring_22 (lv_at hl_11 4 rfl) ?_
        obtain ⟨G12, h13, hf⟩ := bd_some hf
        refine s_callVv (As := [.ref (ad 2), .int x4]) (rest := []) F I_10 (cC_LE_takeListener_12 G5 E Dd P L pf x4 G12 h13) kX11_233 ⟨rfl, rfl⟩ ⟨Nat.le_trans (Nat.le_of_ble_eq_true rfl) hRf, Nat.le_trans (Nat.le_of_ble_eq_true rfl) hRl⟩ 12 3 rfl rfl rfl rfl rfl hl_11.1 (Nat.le_of_ble_eq_true rfl) ⟨Nat.zero_le _, Nat.zero_le _⟩ dX11_preferring_24 ?_
        intro H_14 lo_14 I_14
        refine lv_aload_n hx hb dX11_preferring_27 rfl (lv_at hl_11 0 rfl) ?_
        refine kgtX11_44_0 F I_14 dX11_preferring_28 ?_
        refine lv_iload_n hx hb dX11_preferring_31 rfl (lv_at hl_11 1 rfl) ?_
        refine lv_iload_n hx hb dX11_preferring_32 rfl (lv_at hl_11 2 rfl) ?_
        obtain ⟨r15, h16, hf⟩ := bd_some hf
        refine s_callVi (As := [.int a0, .int a1]) (rest := []) F I_14 (cC_LE_isAhead_12 G12 E Dd P L pf a0 a1 r15 h16) kX11_326 ⟨rfl, rfl⟩ ⟨Nat.le_trans (Nat.le_of_ble_eq_true rfl) hRf, Nat.le_trans (Nat.le_of_ble_eq_true rfl) hRl⟩ 12 3 rfl rfl rfl rfl rfl hl_11.1 (Nat.le_of_ble_eq_true rfl) ⟨Nat.zero_le _, Nat.zero_le _⟩ dX11_preferring_33 ?_
        intro H_17 lo_17 I_17
        obtain ⟨x19, hv24, hf⟩ := bd_some hf
        have J18 : ∀ (H : Heap) (locs : List Loc), sInv D (cT cI cJ cD cS) (cW ad cI cJ cD cS) A s H locs (G12, E, Dd, P, L, pf) → ∀ (ls : Array Slot), lv_has ls 5 [(0, .ref (ad 0)), (1, .int a0), (2, .int a1), (3, .int x19), (4, .int x4)] → W p l e R s m args below meth c H locs 0 0 Q (F0 m 42 ls []) := by
          intro H_20 lo_20 I_20 ls_21 hl_21
          obtain ⟨x22, ex22⟩ : ∃ y : Int32, y = x4 + (1 : Int32) := ⟨_, rfl⟩
          replace hf := nm_some ex22 hf
          refine lv_iinc (v := x22) (lv' := [(4, .int x22), (0, .ref (ad 0)), (1, .int a0), (2, .int a1), (3, .int x19)]) hx hb dX11_preferring_42 hl_21 (k := 4) rfl (by rw [ex22]; rfl) (by decide) rfl (fun ls_23 hl_23 => ?_)
          refine lv_goto (tgt := 5) hx hb dX11_preferring_45 (by decide) ?_
          cases hf
          exact ih1 _ _ _ hK1 H_20 lo_20 I_20 ls_23 (lv_sub hl_23 [1, 2, 3, 4, 0] rfl)
        replace hf := hv24
        refine lv_if_eq (tgt := 42) hx hb dX11_preferring_36 (by decide) (fun c27 => ?_) (fun c27 => ?_)
        · replace hf := (if_pos c27).symm.trans hf
          cases hf
          exact J18 H_17 lo_17 I_17 ls_11 (lv_sub hl_11 [0, 1, 2, 3, 4] rfl)
        · replace hf := (if_neg c27).symm.trans hf
          obtain ⟨x25, ex25⟩ : ∃ y : Int32, y = x3 + (1 : Int32) := ⟨_, rfl⟩
          replace hf := nm_some ex25 hf
          refine lv_iinc (v := x25) (lv' := [(3, .int x25), (0, .ref (ad 0)), (1, .int a0), (2, .int a1), (4, .int x4)]) hx hb dX11_preferring_39 hl_11 (k := 3) rfl (by rw [ex25]; rfl) (by decide) rfl (fun ls_26 hl_26 => ?_)
          cases hf
          exact J18 H_17 lo_17 I_17 ls_26 (lv_sub hl_26 [1, 2, 3, 0, 4] rfl)
  exact L1 FU _ _ _ hq1 H lo I ls_2 (lv_sub hl_2 [2, 3, 4, 1, 0] rfl)
def C_LT_result (G : Nat → Nat → Int32) (a0 : Int32) (a1 : Int32) (a2 : Int32) : Option (Int32 × (Nat → Nat → Int32)) :=
bd0 (C_LT_requireIndex a0 (G 0 0)) <|
bd0 (C_LT_requireIndex a1 (G 0 0)) <|
bd (if a2 < 0 then
(some (0 : Int32))
else
(if (3 : Int32) < a2 then
(some (0 : Int32))
else
(some (1 : Int32)))) fun x6 =>
bd0 (C_LT_requireArgument x6) <|
if a2 = (3 : Int32) then
(bd2 (C_LT_preferring G a0 a1) fun r28 G29 =>
some (r28, G29))
else
(if a2 = (2 : Int32) then
(bd (C_LT_weigh G (-1 : Int32)) fun G21 =>
bd (C_LE_lead_22 G21 a0 a1) fun r24 =>
some (r24, G21))
else
(bd (C_TA_take G) fun G11 =>
if a2 = 0 then
(bd (C_TA_winsOf G11 a0 a1) fun r17 =>
some (r17, G11))
else
(bd (C_TA_tiesOf G11 a0 a1) fun r14 =>
some (r14, G11))))
set_option maxRecDepth 100000 in
set_option maxHeartbeats 4000000 in
theorem cC_LT_result (G : Nat → Nat → Int32) (E : Nat → Nat → Int64) (Dd : Nat → Nat → UInt64) (P : Nat → Option Nat) (L : List Nat) (pf : Nat → va_E) (a0 : Int32) (a1 : Int32) (a2 : Int32) (rv : Int32) (newG : Nat → Nat → Int32) (hf : C_LT_result G a0 a1 a2 = some (rv, newG)) : sMi D (cT cI cJ cD cS) (cW ad cI cJ cD cS) l yX11_result (ws1 yX11_result cX11_result 4 (some .int)) ({ frames := 5, cells := 0, slots := 0, locals := 112 }) [.ref (ad 0), .int a0, .int a1, .int a2] (G, E, Dd, P, L, pf) (rv, (newG, E, Dd, P, L, pf)) := by
  unfold C_LT_result at hf
  refine sMi_of (by decide) (Nat.le_of_ble_eq_true rfl) ?_
  intro p e R s m args below meth c A Q ls H lo F hRf hRl I hl ret
  obtain ⟨hx, hb, hml, hown, hG⟩ := id F
  replace hl : lv_has ls 4 [(0, .ref (ad 0)), (1, .int a0), (2, .int a1), (3, .int a2)] := hl
  refine lv_iload_n hx hb dX11_result_0 rfl (lv_at hl 1 rfl) ?_
  refine lv_aload_n hx hb dX11_result_1 rfl (lv_at hl 0 rfl) ?_
  refine kgtX11_89_0 F I dX11_result_2 ?_
  obtain ⟨h1, hf⟩ := bd0_some hf
  refine s_callSv (As := [.int a0, .int (G 0 0)]) (rest := []) F I (cC_LT_requireIndex G E Dd P L pf a0 (G 0 0) h1) kX11_84 ⟨rfl, rfl⟩ ⟨Nat.le_trans (Nat.le_of_ble_eq_true rfl) hRf, Nat.le_trans (Nat.le_of_ble_eq_true rfl) hRl⟩ rfl rfl hl.1 (Nat.le_of_ble_eq_true rfl) ⟨Nat.zero_le _, Nat.zero_le _⟩ dX11_result_5 ?_
  intro H_2 lo_2 I_2
  refine lv_iload_n hx hb dX11_result_8 rfl (lv_at hl 2 rfl) ?_
  refine lv_aload_n hx hb dX11_result_9 rfl (lv_at hl 0 rfl) ?_
  refine kgtX11_89_0 F I_2 dX11_result_10 ?_
  obtain ⟨h3, hf⟩ := bd0_some hf
  refine s_callSv (As := [.int a1, .int (G 0 0)]) (rest := []) F I_2 (cC_LT_requireIndex G E Dd P L pf a1 (G 0 0) h3) kX11_84 ⟨rfl, rfl⟩ ⟨Nat.le_trans (Nat.le_of_ble_eq_true rfl) hRf, Nat.le_trans (Nat.le_of_ble_eq_true rfl) hRl⟩ rfl rfl hl.1 (Nat.le_of_ble_eq_true rfl) ⟨Nat.zero_le _, Nat.zero_le _⟩ dX11_result_13 ?_
  intro H_4 lo_4 I_4
  refine lv_iload_n hx hb dX11_result_16 rfl (lv_at hl 3 rfl) ?_
  obtain ⟨x6, hv33, hf⟩ := bd_some hf
  have J5 : ∀ (H : Heap) (locs : List Loc), sInv D (cT cI cJ cD cS) (cW ad cI cJ cD cS) A s H locs (G, E, Dd, P, L, pf) → ∀ (ls : Array Slot), lv_has ls 4 [(0, .ref (ad 0)), (1, .int a0), (2, .int a1), (3, .int a2)] → W p l e R s m args below meth c H locs 0 0 Q (F0 m 30 ls [.int x6]) := by
    intro H_7 lo_7 I_7 ls_8 hl_8
    obtain ⟨h9, hf⟩ := bd0_some hf
    refine s_callSv (As := [.int x6]) (rest := []) F I_7 (cC_LT_requireArgument G E Dd P L pf x6 h9) kX11_76 ⟨rfl, rfl⟩ ⟨Nat.le_trans (Nat.le_of_ble_eq_true rfl) hRf, Nat.le_trans (Nat.le_of_ble_eq_true rfl) hRl⟩ rfl rfl hl_8.1 (Nat.le_of_ble_eq_true rfl) ⟨Nat.zero_le _, Nat.zero_le _⟩ dX11_result_30 ?_
    intro H_10 lo_10 I_10
    refine lv_iload_n hx hb dX11_result_33 rfl (lv_at hl_8 3 rfl) ?_
    refine lv_iconst (v := (3 : Int32)) hx hb dX11_result_34 (by decide) ?_
    refine lv_icmp_ne (tgt := 45) hx hb dX11_result_35 (by decide) (fun c32 => ?_) (fun c32 => ?_)
    · replace hf := (if_neg c32).symm.trans hf
      refine lv_iload_n hx hb dX11_result_45 rfl (lv_at hl_8 3 rfl) ?_
      refine lv_iconst (v := (2 : Int32)) hx hb dX11_result_46 (by decide) ?_
      refine lv_icmp_ne (tgt := 68) hx hb dX11_result_47 (by decide) (fun c27 => ?_) (fun c27 => ?_)
      · replace hf := (if_neg c27).symm.trans hf
        refine lv_aload_n hx hb dX11_result_68 rfl (lv_at hl_8 0 rfl) ?_
        refine kgtX11_37_0 F I_10 dX11_result_69 ?_
        refine lv_aload_n hx hb dX11_result_72 rfl (lv_at hl_8 0 rfl) ?_
        refine kgtX11_16_0 F I_10 dX11_result_73 ?_
        obtain ⟨G11, h12, hf⟩ := bd_some hf
        refine s_callVv (As := [.ref (ad 2)]) (rest := []) F I_10 (cC_TA_take G E Dd P L pf G11 h12) kX11_211 ⟨rfl, rfl⟩ ⟨Nat.le_trans (Nat.le_of_ble_eq_true rfl) hRf, Nat.le_trans (Nat.le_of_ble_eq_true rfl) hRl⟩ 9 9 rfl rfl rfl rfl rfl hl_8.1 (Nat.le_of_ble_eq_true rfl) ⟨Nat.zero_le _, Nat.zero_le _⟩ dX11_result_76 ?_
        intro H_13 lo_13 I_13
        refine lv_iload_n hx hb dX11_result_79 rfl (lv_at hl_8 3 rfl) ?_
        refine lv_if_ne (tgt := 95) hx hb dX11_result_80 (by decide) (fun c20 => ?_) (fun c20 => ?_)
        · replace hf := (if_neg c20).symm.trans hf
          refine lv_aload_n hx hb dX11_result_95 rfl (lv_at hl_8 0 rfl) ?_
          refine kgtX11_37_0 F I_13 dX11_result_96 ?_
          refine lv_iload_n hx hb dX11_result_99 rfl (lv_at hl_8 1 rfl) ?_
          refine lv_iload_n hx hb dX11_result_100 rfl (lv_at hl_8 2 rfl) ?_
          obtain ⟨r14, h15, hf⟩ := bd_some hf
          refine s_callVi (As := [.int a0, .int a1]) (rest := []) F I_13 (cC_TA_tiesOf G11 E Dd P L pf a0 a1 r14 h15) kX11_217 ⟨rfl, rfl⟩ ⟨Nat.le_trans (Nat.le_of_ble_eq_true rfl) hRf, Nat.le_trans (Nat.le_of_ble_eq_true rfl) hRl⟩ 9 9 rfl rfl rfl rfl rfl hl_8.1 (Nat.le_of_ble_eq_true rfl) ⟨Nat.zero_le _, Nat.zero_le _⟩ dX11_result_101 ?_
          intro H_16 lo_16 I_16
          cases hf
          exact ret H_16 lo_16 _ ls_8 I_16 dX11_result_104
        · replace hf := (if_pos c20).symm.trans hf
          refine lv_aload_n hx hb dX11_result_83 rfl (lv_at hl_8 0 rfl) ?_
          refine kgtX11_37_0 F I_13 dX11_result_84 ?_
          refine lv_iload_n hx hb dX11_result_87 rfl (lv_at hl_8 1 rfl) ?_
          refine lv_iload_n hx hb dX11_result_88 rfl (lv_at hl_8 2 rfl) ?_
          obtain ⟨r17, h18, hf⟩ := bd_some hf
          refine s_callVi (As := [.int a0, .int a1]) (rest := []) F I_13 (cC_TA_winsOf G11 E Dd P L pf a0 a1 r17 h18) kX11_214 ⟨rfl, rfl⟩ ⟨Nat.le_trans (Nat.le_of_ble_eq_true rfl) hRf, Nat.le_trans (Nat.le_of_ble_eq_true rfl) hRl⟩ 9 9 rfl rfl rfl rfl rfl hl_8.1 (Nat.le_of_ble_eq_true rfl) ⟨Nat.zero_le _, Nat.zero_le _⟩ dX11_result_89 ?_
          intro H_19 lo_19 I_19
          refine lv_goto (tgt := 104) hx hb dX11_result_92 (by decide) ?_
          cases hf
          exact ret H_19 lo_19 _ ls_8 I_19 dX11_result_104
      · replace hf := (if_pos c27).symm.trans hf
        refine lv_aload_n hx hb dX11_result_50 rfl (lv_at hl_8 0 rfl) ?_
        refine lv_iconst (v := (-1 : Int32)) hx hb dX11_result_51 (by decide) ?_
        obtain ⟨G21, h22, hf⟩ := bd_some hf
        refine s_callVv (As := [.int (-1 : Int32)]) (rest := []) F I_10 (cC_LT_weigh G E Dd P L pf (-1 : Int32) G21 h22) kX11_202 ⟨rfl, rfl⟩ ⟨Nat.le_trans (Nat.le_of_ble_eq_true rfl) hRf, Nat.le_trans (Nat.le_of_ble_eq_true rfl) hRl⟩ 0 11 rfl rfl rfl rfl rfl hl_8.1 (Nat.le_of_ble_eq_true rfl) ⟨Nat.zero_le _, Nat.zero_le _⟩ dX11_result_52 ?_
        intro H_23 lo_23 I_23
        refine lv_aload_n hx hb dX11_result_55 rfl (lv_at hl_8 0 rfl) ?_
        refine kgtX11_54_0 F I_23 dX11_result_56 ?_
        refine kgtX11_205_16 F I_23 dX11_result_59 ?_
        refine lv_iload_n hx hb dX11_result_62 rfl (lv_at hl_8 1 rfl) ?_
        refine lv_iload_n hx hb dX11_result_63 rfl (lv_at hl_8 2 rfl) ?_
        obtain ⟨r24, h25, hf⟩ := bd_some hf
        refine s_callVi (As := [.int a0, .int a1]) (rest := []) F I_23 (cC_LE_lead_22 G21 E Dd P L pf a0 a1 r24 h25) kX11_208 ⟨rfl, rfl⟩ ⟨Nat.le_trans (Nat.le_of_ble_eq_true rfl) hRf, Nat.le_trans (Nat.le_of_ble_eq_true rfl) hRl⟩ 22 3 rfl rfl rfl rfl rfl hl_8.1 (Nat.le_of_ble_eq_true rfl) ⟨Nat.zero_le _, Nat.zero_le _⟩ dX11_result_64 ?_
        intro H_26 lo_26 I_26
        cases hf
        exact ret H_26 lo_26 _ ls_8 I_26 dX11_result_67
    · replace hf := (if_pos c32).symm.trans hf
      refine lv_aload_n hx hb dX11_result_38 rfl (lv_at hl_8 0 rfl) ?_
      refine lv_iload_n hx hb dX11_result_39 rfl (lv_at hl_8 1 rfl) ?_
      refine lv_iload_n hx hb dX11_result_40 rfl (lv_at hl_8 2 rfl) ?_
      obtain ⟨r28, G29, h30, hf⟩ := bd2_some hf
      refine s_callVi (As := [.int a0, .int a1]) (rest := []) F I_10 (cC_LT_preferring G E Dd P L pf a0 a1 r28 G29 h30) kX11_199 ⟨rfl, rfl⟩ ⟨Nat.le_trans (Nat.le_of_ble_eq_true rfl) hRf, Nat.le_trans (Nat.le_of_ble_eq_true rfl) hRl⟩ 0 11 rfl rfl rfl rfl rfl hl_8.1 (Nat.le_of_ble_eq_true rfl) ⟨Nat.zero_le _, Nat.zero_le _⟩ dX11_result_41 ?_
      intro H_31 lo_31 I_31
      cases hf
      exact ret H_31 lo_31 _ ls_8 I_31 dX11_result_44
  replace hf := hv33
  refine lv_if_lt (tgt := 29) hx hb dX11_result_17 (by decide) (fun c35 => ?_) (fun c35 => ?_)
  · replace hf := (if_pos c35).symm.trans hf
    refine lv_iconst (v := (0 : Int32)) hx hb dX11_result_29 (by decide) ?_
    cases hf
    exact J5 H_4 lo_4 I_4 ls (lv_sub hl [0, 1, 2, 3] rfl)
  · replace hf := (if_neg c35).symm.trans hf
    refine lv_iload_n hx hb dX11_result_20 rfl (lv_at hl 3 rfl) ?_
    refine lv_iconst (v := (3 : Int32)) hx hb dX11_result_21 (by decide) ?_
    refine lv_icmp_gt (tgt := 29) hx hb dX11_result_22 (by decide) (fun c34 => ?_) (fun c34 => ?_)
    · replace hf := (if_pos c34).symm.trans hf
      refine lv_iconst (v := (0 : Int32)) hx hb dX11_result_29 (by decide) ?_
      cases hf
      exact J5 H_4 lo_4 I_4 ls (lv_sub hl [0, 1, 2, 3] rfl)
    · replace hf := (if_neg c34).symm.trans hf
      refine lv_iconst (v := (1 : Int32)) hx hb dX11_result_25 (by decide) ?_
      refine lv_goto (tgt := 30) hx hb dX11_result_26 (by decide) ?_
      cases hf
      exact J5 H_4 lo_4 I_4 ls (lv_sub hl [0, 1, 2, 3] rfl)
def C_LT_sample (G : Nat → Nat → Int32) (a0 : Int32) (a1 : Int32) : Option (Int32 × (Nat → Nat → Int32)) :=
bd0 (C_LT_requireIndex a0 (G 0 0)) <|
bd (if a1 < 0 then
(some (0 : Int32))
else
(if (5 : Int32) < a1 then
(some (0 : Int32))
else
(some (1 : Int32)))) fun x4 =>
bd0 (C_LT_requireArgument x4) <|
bd (C_LT_weigh G (-1 : Int32)) fun G9 =>
bd2 (C_SD_propertyOf G9 a0 a1) fun r12 G13 =>
some (r12, G13)
set_option maxRecDepth 100000 in
set_option maxHeartbeats 4000000 in
theorem cC_LT_sample (G : Nat → Nat → Int32) (E : Nat → Nat → Int64) (Dd : Nat → Nat → UInt64) (P : Nat → Option Nat) (L : List Nat) (pf : Nat → va_E) (a0 : Int32) (a1 : Int32) (rv : Int32) (newG : Nat → Nat → Int32) (hf : C_LT_sample G a0 a1 = some (rv, newG)) : sMi D (cT cI cJ cD cS) (cW ad cI cJ cD cS) l yX11_sample (ws1 yX11_sample cX11_sample 3 (some .int)) ({ frames := 5, cells := 0, slots := 0, locals := 119 }) [.ref (ad 0), .int a0, .int a1] (G, E, Dd, P, L, pf) (rv, (newG, E, Dd, P, L, pf)) := by
  unfold C_LT_sample at hf
  refine sMi_of (by decide) (Nat.le_of_ble_eq_true rfl) ?_
  intro p e R s m args below meth c A Q ls H lo F hRf hRl I hl ret
  obtain ⟨hx, hb, hml, hown, hG⟩ := id F
  replace hl : lv_has ls 3 [(0, .ref (ad 0)), (1, .int a0), (2, .int a1)] := hl
  refine lv_iload_n hx hb dX11_sample_0 rfl (lv_at hl 1 rfl) ?_
  refine lv_aload_n hx hb dX11_sample_1 rfl (lv_at hl 0 rfl) ?_
  refine kgtX11_89_0 F I dX11_sample_2 ?_
  obtain ⟨h1, hf⟩ := bd0_some hf
  refine s_callSv (As := [.int a0, .int (G 0 0)]) (rest := []) F I (cC_LT_requireIndex G E Dd P L pf a0 (G 0 0) h1) kX11_84 ⟨rfl, rfl⟩ ⟨Nat.le_trans (Nat.le_of_ble_eq_true rfl) hRf, Nat.le_trans (Nat.le_of_ble_eq_true rfl) hRl⟩ rfl rfl hl.1 (Nat.le_of_ble_eq_true rfl) ⟨Nat.zero_le _, Nat.zero_le _⟩ dX11_sample_5 ?_
  intro H_2 lo_2 I_2
  refine lv_iload_n hx hb dX11_sample_8 rfl (lv_at hl 2 rfl) ?_
  obtain ⟨x4, hv16, hf⟩ := bd_some hf
  have J3 : ∀ (H : Heap) (locs : List Loc), sInv D (cT cI cJ cD cS) (cW ad cI cJ cD cS) A s H locs (G, E, Dd, P, L, pf) → ∀ (ls : Array Slot), lv_has ls 3 [(0, .ref (ad 0)), (1, .int a0), (2, .int a1)] → W p l e R s m args below meth c H locs 0 0 Q (F0 m 22 ls [.int x4]) := by
    intro H_5 lo_5 I_5 ls_6 hl_6
    obtain ⟨h7, hf⟩ := bd0_some hf
    refine s_callSv (As := [.int x4]) (rest := []) F I_5 (cC_LT_requireArgument G E Dd P L pf x4 h7) kX11_76 ⟨rfl, rfl⟩ ⟨Nat.le_trans (Nat.le_of_ble_eq_true rfl) hRf, Nat.le_trans (Nat.le_of_ble_eq_true rfl) hRl⟩ rfl rfl hl_6.1 (Nat.le_of_ble_eq_true rfl) ⟨Nat.zero_le _, Nat.zero_le _⟩ dX11_sample_22 ?_
    intro H_8 lo_8 I_8
    refine lv_aload_n hx hb dX11_sample_25 rfl (lv_at hl_6 0 rfl) ?_
    refine lv_iconst (v := (-1 : Int32)) hx hb dX11_sample_26 (by decide) ?_
    obtain ⟨G9, h10, hf⟩ := bd_some hf
    refine s_callVv (As := [.int (-1 : Int32)]) (rest := []) F I_8 (cC_LT_weigh G E Dd P L pf (-1 : Int32) G9 h10) kX11_202 ⟨rfl, rfl⟩ ⟨Nat.le_trans (Nat.le_of_ble_eq_true rfl) hRf, Nat.le_trans (Nat.le_of_ble_eq_true rfl) hRl⟩ 0 11 rfl rfl rfl rfl rfl hl_6.1 (Nat.le_of_ble_eq_true rfl) ⟨Nat.zero_le _, Nat.zero_le _⟩ dX11_sample_27 ?_
    intro H_11 lo_11 I_11
    refine lv_aload_n hx hb dX11_sample_30 rfl (lv_at hl_6 0 rfl) ?_
    refine kgtX11_54_0 F I_11 dX11_sample_31 ?_
    refine lv_aload_n hx hb dX11_sample_34 rfl (lv_at hl_6 0 rfl) ?_
    refine kgtX11_16_0 F I_11 dX11_sample_35 ?_
    refine lv_iload_n hx hb dX11_sample_38 rfl (lv_at hl_6 1 rfl) ?_
    refine lv_iload_n hx hb dX11_sample_39 rfl (lv_at hl_6 2 rfl) ?_
    obtain ⟨r12, G13, h14, hf⟩ := bd2_some hf
    refine s_callVi (As := [.ref (ad 2), .int a0, .int a1]) (rest := []) F I_11 (cC_SD_propertyOf G9 E Dd P L pf a0 a1 r12 G13 h14) kX11_220 ⟨rfl, rfl⟩ ⟨Nat.le_trans (Nat.le_of_ble_eq_true rfl) hRf, Nat.le_trans (Nat.le_of_ble_eq_true rfl) hRl⟩ 16 6 rfl rfl rfl rfl rfl hl_6.1 (Nat.le_of_ble_eq_true rfl) ⟨Nat.zero_le _, Nat.zero_le _⟩ dX11_sample_40 ?_
    intro H_15 lo_15 I_15
    cases hf
    exact ret H_15 lo_15 _ ls_6 I_15 dX11_sample_43
  replace hf := hv16
  refine lv_if_lt (tgt := 21) hx hb dX11_sample_9 (by decide) (fun c18 => ?_) (fun c18 => ?_)
  · replace hf := (if_pos c18).symm.trans hf
    refine lv_iconst (v := (0 : Int32)) hx hb dX11_sample_21 (by decide) ?_
    cases hf
    exact J3 H_2 lo_2 I_2 ls (lv_sub hl [0, 1, 2] rfl)
  · replace hf := (if_neg c18).symm.trans hf
    refine lv_iload_n hx hb dX11_sample_12 rfl (lv_at hl 2 rfl) ?_
    refine lv_iconst (v := (5 : Int32)) hx hb dX11_sample_13 (by decide) ?_
    refine lv_icmp_gt (tgt := 21) hx hb dX11_sample_14 (by decide) (fun c17 => ?_) (fun c17 => ?_)
    · replace hf := (if_pos c17).symm.trans hf
      refine lv_iconst (v := (0 : Int32)) hx hb dX11_sample_21 (by decide) ?_
      cases hf
      exact J3 H_2 lo_2 I_2 ls (lv_sub hl [0, 1, 2] rfl)
    · replace hf := (if_neg c17).symm.trans hf
      refine lv_iconst (v := (1 : Int32)) hx hb dX11_sample_17 (by decide) ?_
      refine lv_goto (tgt := 22) hx hb dX11_sample_18 (by decide) ?_
      cases hf
      exact J3 H_2 lo_2 I_2 ls (lv_sub hl [0, 1, 2] rfl)
def C_LT_order (G : Nat → Nat → Int32) (a0 : Int32) : Option (Int32 × (Nat → Nat → Int32)) :=
bd0 (C_LT_requireIndex a0 (G 0 0)) <|
bd (C_LT_weigh G (-1 : Int32)) fun G3 =>
bd2 (C_SD_sampleAt G3 a0) fun r6 G7 =>
some (r6, G7)
set_option maxRecDepth 100000 in
set_option maxHeartbeats 4000000 in
theorem cC_LT_order (G : Nat → Nat → Int32) (E : Nat → Nat → Int64) (Dd : Nat → Nat → UInt64) (P : Nat → Option Nat) (L : List Nat) (pf : Nat → va_E) (a0 : Int32) (rv : Int32) (newG : Nat → Nat → Int32) (hf : C_LT_order G a0 = some (rv, newG)) : sMi D (cT cI cJ cD cS) (cW ad cI cJ cD cS) l yX11_order (ws1 yX11_order cX11_order 2 (some .int)) ({ frames := 5, cells := 0, slots := 0, locals := 115 }) [.ref (ad 0), .int a0] (G, E, Dd, P, L, pf) (rv, (newG, E, Dd, P, L, pf)) := by
  unfold C_LT_order at hf
  refine sMi_of (by decide) (Nat.le_of_ble_eq_true rfl) ?_
  intro p e R s m args below meth c A Q ls H lo F hRf hRl I hl ret
  obtain ⟨hx, hb, hml, hown, hG⟩ := id F
  replace hl : lv_has ls 2 [(0, .ref (ad 0)), (1, .int a0)] := hl
  refine lv_iload_n hx hb dX11_order_0 rfl (lv_at hl 1 rfl) ?_
  refine lv_aload_n hx hb dX11_order_1 rfl (lv_at hl 0 rfl) ?_
  refine kgtX11_89_0 F I dX11_order_2 ?_
  obtain ⟨h1, hf⟩ := bd0_some hf
  refine s_callSv (As := [.int a0, .int (G 0 0)]) (rest := []) F I (cC_LT_requireIndex G E Dd P L pf a0 (G 0 0) h1) kX11_84 ⟨rfl, rfl⟩ ⟨Nat.le_trans (Nat.le_of_ble_eq_true rfl) hRf, Nat.le_trans (Nat.le_of_ble_eq_true rfl) hRl⟩ rfl rfl hl.1 (Nat.le_of_ble_eq_true rfl) ⟨Nat.zero_le _, Nat.zero_le _⟩ dX11_order_5 ?_
  intro H_2 lo_2 I_2
  refine lv_aload_n hx hb dX11_order_8 rfl (lv_at hl 0 rfl) ?_
  refine lv_iconst (v := (-1 : Int32)) hx hb dX11_order_9 (by decide) ?_
  obtain ⟨G3, h4, hf⟩ := bd_some hf
  refine s_callVv (As := [.int (-1 : Int32)]) (rest := []) F I_2 (cC_LT_weigh G E Dd P L pf (-1 : Int32) G3 h4) kX11_202 ⟨rfl, rfl⟩ ⟨Nat.le_trans (Nat.le_of_ble_eq_true rfl) hRf, Nat.le_trans (Nat.le_of_ble_eq_true rfl) hRl⟩ 0 11 rfl rfl rfl rfl rfl hl.1 (Nat.le_of_ble_eq_true rfl) ⟨Nat.zero_le _, Nat.zero_le _⟩ dX11_order_10 ?_
  intro H_5 lo_5 I_5
  refine lv_aload_n hx hb dX11_order_13 rfl (lv_at hl 0 rfl) ?_
  refine kgtX11_54_0 F I_5 dX11_order_14 ?_
  refine lv_iload_n hx hb dX11_order_17 rfl (lv_at hl 1 rfl) ?_
  obtain ⟨r6, G7, h8, hf⟩ := bd2_some hf
  refine s_callVi (As := [.int a0]) (rest := []) F I_5 (cC_SD_sampleAt G3 E Dd P L pf a0 r6 G7 h8) kX11_223 ⟨rfl, rfl⟩ ⟨Nat.le_trans (Nat.le_of_ble_eq_true rfl) hRf, Nat.le_trans (Nat.le_of_ble_eq_true rfl) hRl⟩ 16 6 rfl rfl rfl rfl rfl hl.1 (Nat.le_of_ble_eq_true rfl) ⟨Nat.zero_le _, Nat.zero_le _⟩ dX11_order_18 ?_
  intro H_9 lo_9 I_9
  cases hf
  exact ret H_9 lo_9 _ ls I_9 dX11_order_21
def C_LT_summary (G : Nat → Nat → Int32) (a0 : Int32) : Option (Int32 × (Nat → Nat → Int32)) :=
bd (if a0 < 0 then
(some (0 : Int32))
else
(if (5 : Int32) < a0 then
(some (0 : Int32))
else
(some (1 : Int32)))) fun x2 =>
bd0 (C_LT_requireArgument x2) <|
bd (C_LT_weigh G (-1 : Int32)) fun G7 =>
bd2 (C_SD_numberOf G7 a0) fun r10 G11 =>
some (r10, G11)
set_option maxRecDepth 100000 in
set_option maxHeartbeats 4000000 in
theorem cC_LT_summary (G : Nat → Nat → Int32) (E : Nat → Nat → Int64) (Dd : Nat → Nat → UInt64) (P : Nat → Option Nat) (L : List Nat) (pf : Nat → va_E) (a0 : Int32) (rv : Int32) (newG : Nat → Nat → Int32) (hf : C_LT_summary G a0 = some (rv, newG)) : sMi D (cT cI cJ cD cS) (cW ad cI cJ cD cS) l yX11_summary (ws1 yX11_summary cX11_summary 2 (some .int)) ({ frames := 5, cells := 0, slots := 0, locals := 118 }) [.ref (ad 0), .int a0] (G, E, Dd, P, L, pf) (rv, (newG, E, Dd, P, L, pf)) := by
  unfold C_LT_summary at hf
  refine sMi_of (by decide) (Nat.le_of_ble_eq_true rfl) ?_
  intro p e R s m args below meth c A Q ls H lo F hRf hRl I hl ret
  obtain ⟨hx, hb, hml, hown, hG⟩ := id F
  replace hl : lv_has ls 2 [(0, .ref (ad 0)), (1, .int a0)] := hl
  refine lv_iload_n hx hb dX11_summary_0 rfl (lv_at hl 1 rfl) ?_
  obtain ⟨x2, hv14, hf⟩ := bd_some hf
  have J1 : ∀ (H : Heap) (locs : List Loc), sInv D (cT cI cJ cD cS) (cW ad cI cJ cD cS) A s H locs (G, E, Dd, P, L, pf) → ∀ (ls : Array Slot), lv_has ls 2 [(0, .ref (ad 0)), (1, .int a0)] → W p l e R s m args below meth c H locs 0 0 Q (F0 m 14 ls [.int x2]) := by
    intro H_3 lo_3 I_3 ls_4 hl_4
    obtain ⟨h5, hf⟩ := bd0_some hf
    refine s_callSv (As := [.int x2]) (rest := []) F I_3 (cC_LT_requireArgument G E Dd P L pf x2 h5) kX11_76 ⟨rfl, rfl⟩ ⟨Nat.le_trans (Nat.le_of_ble_eq_true rfl) hRf, Nat.le_trans (Nat.le_of_ble_eq_true rfl) hRl⟩ rfl rfl hl_4.1 (Nat.le_of_ble_eq_true rfl) ⟨Nat.zero_le _, Nat.zero_le _⟩ dX11_summary_14 ?_
    intro H_6 lo_6 I_6
    refine lv_aload_n hx hb dX11_summary_17 rfl (lv_at hl_4 0 rfl) ?_
    refine lv_iconst (v := (-1 : Int32)) hx hb dX11_summary_18 (by decide) ?_
    obtain ⟨G7, h8, hf⟩ := bd_some hf
    refine s_callVv (As := [.int (-1 : Int32)]) (rest := []) F I_6 (cC_LT_weigh G E Dd P L pf (-1 : Int32) G7 h8) kX11_202 ⟨rfl, rfl⟩ ⟨Nat.le_trans (Nat.le_of_ble_eq_true rfl) hRf, Nat.le_trans (Nat.le_of_ble_eq_true rfl) hRl⟩ 0 11 rfl rfl rfl rfl rfl hl_4.1 (Nat.le_of_ble_eq_true rfl) ⟨Nat.zero_le _, Nat.zero_le _⟩ dX11_summary_19 ?_
    intro H_9 lo_9 I_9
    refine lv_aload_n hx hb dX11_summary_22 rfl (lv_at hl_4 0 rfl) ?_
    refine kgtX11_54_0 F I_9 dX11_summary_23 ?_
    refine lv_aload_n hx hb dX11_summary_26 rfl (lv_at hl_4 0 rfl) ?_
    refine kgtX11_16_0 F I_9 dX11_summary_27 ?_
    refine lv_iload_n hx hb dX11_summary_30 rfl (lv_at hl_4 1 rfl) ?_
    obtain ⟨r10, G11, h12, hf⟩ := bd2_some hf
    refine s_callVi (As := [.ref (ad 2), .int a0]) (rest := []) F I_9 (cC_SD_numberOf G7 E Dd P L pf a0 r10 G11 h12) kX11_226 ⟨rfl, rfl⟩ ⟨Nat.le_trans (Nat.le_of_ble_eq_true rfl) hRf, Nat.le_trans (Nat.le_of_ble_eq_true rfl) hRl⟩ 16 6 rfl rfl rfl rfl rfl hl_4.1 (Nat.le_of_ble_eq_true rfl) ⟨Nat.zero_le _, Nat.zero_le _⟩ dX11_summary_31 ?_
    intro H_13 lo_13 I_13
    cases hf
    exact ret H_13 lo_13 _ ls_4 I_13 dX11_summary_34
  replace hf := hv14
  refine lv_if_lt (tgt := 13) hx hb dX11_summary_1 (by decide) (fun c16 => ?_) (fun c16 => ?_)
  · replace hf := (if_pos c16).symm.trans hf
    refine lv_iconst (v := (0 : Int32)) hx hb dX11_summary_13 (by decide) ?_
    cases hf
    exact J1 H lo I ls (lv_sub hl [0, 1] rfl)
  · replace hf := (if_neg c16).symm.trans hf
    refine lv_iload_n hx hb dX11_summary_4 rfl (lv_at hl 1 rfl) ?_
    refine lv_iconst (v := (5 : Int32)) hx hb dX11_summary_5 (by decide) ?_
    refine lv_icmp_gt (tgt := 13) hx hb dX11_summary_6 (by decide) (fun c15 => ?_) (fun c15 => ?_)
    · replace hf := (if_pos c15).symm.trans hf
      refine lv_iconst (v := (0 : Int32)) hx hb dX11_summary_13 (by decide) ?_
      cases hf
      exact J1 H lo I ls (lv_sub hl [0, 1] rfl)
    · replace hf := (if_neg c15).symm.trans hf
      refine lv_iconst (v := (1 : Int32)) hx hb dX11_summary_9 (by decide) ?_
      refine lv_goto (tgt := 14) hx hb dX11_summary_10 (by decide) ?_
      cases hf
      exact J1 H lo I ls (lv_sub hl [0, 1] rfl)
def C_LT_without (G : Nat → Nat → Int32) (a0 : Int32) (a1 : Int32) (a2 : Int32) : Option (Int32 × (Nat → Nat → Int32)) :=
bd0 (C_LT_requireIndex a0 (G 1 0)) <|
bd0 (if a1 = (-1 : Int32) then
(some ())
else
(bd0 (C_LT_requireIndex a1 (G 0 0)) <|
some ())) <|
bd (if a2 < 0 then
(some (0 : Int32))
else
(if (5 : Int32) < a2 then
(some (0 : Int32))
else
(some (1 : Int32)))) fun x7 =>
bd0 (C_LT_requireArgument x7) <|
bd (C_LT_weigh G a0) fun G12 =>
if a1 = (-1 : Int32) then
(bd2 (C_SD_numberOf G12 a2) fun r19 G20 =>
some (r19, G20))
else
(bd2 (C_SD_propertyOf G12 a1 a2) fun r15 G16 =>
some (r15, G16))
set_option maxRecDepth 100000 in
set_option maxHeartbeats 4000000 in
theorem cC_LT_without (G : Nat → Nat → Int32) (E : Nat → Nat → Int64) (Dd : Nat → Nat → UInt64) (P : Nat → Option Nat) (L : List Nat) (pf : Nat → va_E) (a0 : Int32) (a1 : Int32) (a2 : Int32) (rv : Int32) (newG : Nat → Nat → Int32) (hf : C_LT_without G a0 a1 a2 = some (rv, newG)) : sMi D (cT cI cJ cD cS) (cW ad cI cJ cD cS) l yX11_without (ws1 yX11_without cX11_without 4 (some .int)) ({ frames := 5, cells := 0, slots := 0, locals := 119 }) [.ref (ad 0), .int a0, .int a1, .int a2] (G, E, Dd, P, L, pf) (rv, (newG, E, Dd, P, L, pf)) := by
  unfold C_LT_without at hf
  refine sMi_of (by decide) (Nat.le_of_ble_eq_true rfl) ?_
  intro p e R s m args below meth c A Q ls H lo F hRf hRl I hl ret
  obtain ⟨hx, hb, hml, hown, hG⟩ := id F
  replace hl : lv_has ls 4 [(0, .ref (ad 0)), (1, .int a0), (2, .int a1), (3, .int a2)] := hl
  refine lv_iload_n hx hb dX11_without_0 rfl (lv_at hl 1 rfl) ?_
  refine lv_aload_n hx hb dX11_without_1 rfl (lv_at hl 0 rfl) ?_
  refine kgtX11_80_0 F I dX11_without_2 ?_
  obtain ⟨h1, hf⟩ := bd0_some hf
  refine s_callSv (As := [.int a0, .int (G 1 0)]) (rest := []) F I (cC_LT_requireIndex G E Dd P L pf a0 (G 1 0) h1) kX11_84 ⟨rfl, rfl⟩ ⟨Nat.le_trans (Nat.le_of_ble_eq_true rfl) hRf, Nat.le_trans (Nat.le_of_ble_eq_true rfl) hRl⟩ rfl rfl hl.1 (Nat.le_of_ble_eq_true rfl) ⟨Nat.zero_le _, Nat.zero_le _⟩ dX11_without_5 ?_
  intro H_2 lo_2 I_2
  refine lv_iload_n hx hb dX11_without_8 rfl (lv_at hl 2 rfl) ?_
  refine lv_iconst (v := (-1 : Int32)) hx hb dX11_without_9 (by decide) ?_
  obtain ⟨hv27, hf⟩ := bd0_some hf
  have J3 : ∀ (H : Heap) (locs : List Loc), sInv D (cT cI cJ cD cS) (cW ad cI cJ cD cS) A s H locs (G, E, Dd, P, L, pf) → ∀ (ls : Array Slot), lv_has ls 4 [(0, .ref (ad 0)), (1, .int a0), (2, .int a1), (3, .int a2)] → W p l e R s m args below meth c H locs 0 0 Q (F0 m 21 ls []) := by
    intro H_4 lo_4 I_4 ls_5 hl_5
    refine lv_iload_n hx hb dX11_without_21 rfl (lv_at hl_5 3 rfl) ?_
    obtain ⟨x7, hv24, hf⟩ := bd_some hf
    have J6 : ∀ (H : Heap) (locs : List Loc), sInv D (cT cI cJ cD cS) (cW ad cI cJ cD cS) A s H locs (G, E, Dd, P, L, pf) → ∀ (ls : Array Slot), lv_has ls 4 [(0, .ref (ad 0)), (1, .int a0), (2, .int a1), (3, .int a2)] → W p l e R s m args below meth c H locs 0 0 Q (F0 m 35 ls [.int x7]) := by
      intro H_8 lo_8 I_8 ls_9 hl_9
      obtain ⟨h10, hf⟩ := bd0_some hf
      refine s_callSv (As := [.int x7]) (rest := []) F I_8 (cC_LT_requireArgument G E Dd P L pf x7 h10) kX11_76 ⟨rfl, rfl⟩ ⟨Nat.le_trans (Nat.le_of_ble_eq_true rfl) hRf, Nat.le_trans (Nat.le_of_ble_eq_true rfl) hRl⟩ rfl rfl hl_9.1 (Nat.le_of_ble_eq_true rfl) ⟨Nat.zero_le _, Nat.zero_le _⟩ dX11_without_35 ?_
      intro H_11 lo_11 I_11
      refine lv_aload_n hx hb dX11_without_38 rfl (lv_at hl_9 0 rfl) ?_
      refine lv_iload_n hx hb dX11_without_39 rfl (lv_at hl_9 1 rfl) ?_
      obtain ⟨G12, h13, hf⟩ := bd_some hf
      refine s_callVv (As := [.int a0]) (rest := []) F I_11 (cC_LT_weigh G E Dd P L pf a0 G12 h13) kX11_202 ⟨rfl, rfl⟩ ⟨Nat.le_trans (Nat.le_of_ble_eq_true rfl) hRf, Nat.le_trans (Nat.le_of_ble_eq_true rfl) hRl⟩ 0 11 rfl rfl rfl rfl rfl hl_9.1 (Nat.le_of_ble_eq_true rfl) ⟨Nat.zero_le _, Nat.zero_le _⟩ dX11_without_40 ?_
      intro H_14 lo_14 I_14
      refine lv_iload_n hx hb dX11_without_43 rfl (lv_at hl_9 2 rfl) ?_
      refine lv_iconst (v := (-1 : Int32)) hx hb dX11_without_44 (by decide) ?_
      refine lv_icmp_ne (tgt := 63) hx hb dX11_without_45 (by decide) (fun c23 => ?_) (fun c23 => ?_)
      · replace hf := (if_neg c23).symm.trans hf
        refine lv_aload_n hx hb dX11_without_63 rfl (lv_at hl_9 0 rfl) ?_
        refine kgtX11_54_0 F I_14 dX11_without_64 ?_
        refine lv_aload_n hx hb dX11_without_67 rfl (lv_at hl_9 0 rfl) ?_
        refine kgtX11_16_0 F I_14 dX11_without_68 ?_
        refine lv_iload_n hx hb dX11_without_71 rfl (lv_at hl_9 2 rfl) ?_
        refine lv_iload_n hx hb dX11_without_72 rfl (lv_at hl_9 3 rfl) ?_
        obtain ⟨r15, G16, h17, hf⟩ := bd2_some hf
        refine s_callVi (As := [.ref (ad 2), .int a1, .int a2]) (rest := []) F I_14 (cC_SD_propertyOf G12 E Dd P L pf a1 a2 r15 G16 h17) kX11_220 ⟨rfl, rfl⟩ ⟨Nat.le_trans (Nat.le_of_ble_eq_true rfl) hRf, Nat.le_trans (Nat.le_of_ble_eq_true rfl) hRl⟩ 16 6 rfl rfl rfl rfl rfl hl_9.1 (Nat.le_of_ble_eq_true rfl) ⟨Nat.zero_le _, Nat.zero_le _⟩ dX11_without_73 ?_
        intro H_18 lo_18 I_18
        cases hf
        exact ret H_18 lo_18 _ ls_9 I_18 dX11_without_76
      · replace hf := (if_pos c23).symm.trans hf
        refine lv_aload_n hx hb dX11_without_48 rfl (lv_at hl_9 0 rfl) ?_
        refine kgtX11_54_0 F I_14 dX11_without_49 ?_
        refine lv_aload_n hx hb dX11_without_52 rfl (lv_at hl_9 0 rfl) ?_
        refine kgtX11_16_0 F I_14 dX11_without_53 ?_
        refine lv_iload_n hx hb dX11_without_56 rfl (lv_at hl_9 3 rfl) ?_
        obtain ⟨r19, G20, h21, hf⟩ := bd2_some hf
        refine s_callVi (As := [.ref (ad 2), .int a2]) (rest := []) F I_14 (cC_SD_numberOf G12 E Dd P L pf a2 r19 G20 h21) kX11_226 ⟨rfl, rfl⟩ ⟨Nat.le_trans (Nat.le_of_ble_eq_true rfl) hRf, Nat.le_trans (Nat.le_of_ble_eq_true rfl) hRl⟩ 16 6 rfl rfl rfl rfl rfl hl_9.1 (Nat.le_of_ble_eq_true rfl) ⟨Nat.zero_le _, Nat.zero_le _⟩ dX11_without_57 ?_
        intro H_22 lo_22 I_22
        refine lv_goto (tgt := 76) hx hb dX11_without_60 (by decide) ?_
        cases hf
        exact ret H_22 lo_22 _ ls_9 I_22 dX11_without_76
    replace hf := hv24
    refine lv_if_lt (tgt := 34) hx hb dX11_without_22 (by decide) (fun c26 => ?_) (fun c26 => ?_)
    · replace hf := (if_pos c26).symm.trans hf
      refine lv_iconst (v := (0 : Int32)) hx hb dX11_without_34 (by decide) ?_
      cases hf
      exact J6 H_4 lo_4 I_4 ls_5 (lv_sub hl_5 [0, 1, 2, 3] rfl)
    · replace hf := (if_neg c26).symm.trans hf
      refine lv_iload_n hx hb dX11_without_25 rfl (lv_at hl_5 3 rfl) ?_
      refine lv_iconst (v := (5 : Int32)) hx hb dX11_without_26 (by decide) ?_
      refine lv_icmp_gt (tgt := 34) hx hb dX11_without_27 (by decide) (fun c25 => ?_) (fun c25 => ?_)
      · replace hf := (if_pos c25).symm.trans hf
        refine lv_iconst (v := (0 : Int32)) hx hb dX11_without_34 (by decide) ?_
        cases hf
        exact J6 H_4 lo_4 I_4 ls_5 (lv_sub hl_5 [0, 1, 2, 3] rfl)
      · replace hf := (if_neg c25).symm.trans hf
        refine lv_iconst (v := (1 : Int32)) hx hb dX11_without_30 (by decide) ?_
        refine lv_goto (tgt := 35) hx hb dX11_without_31 (by decide) ?_
        cases hf
        exact J6 H_4 lo_4 I_4 ls_5 (lv_sub hl_5 [0, 1, 2, 3] rfl)
  replace hf := hv27
  refine lv_icmp_eq (tgt := 21) hx hb dX11_without_10 (by decide) (fun c30 => ?_) (fun c30 => ?_)
  · replace hf := (if_pos c30).symm.trans hf
    cases hf
    exact J3 H_2 lo_2 I_2 ls (lv_sub hl [0, 1, 2, 3] rfl)
  · replace hf := (if_neg c30).symm.trans hf
    refine lv_iload_n hx hb dX11_without_13 rfl (lv_at hl 2 rfl) ?_
    refine lv_aload_n hx hb dX11_without_14 rfl (lv_at hl 0 rfl) ?_
    refine kgtX11_89_0 F I_2 dX11_without_15 ?_
    obtain ⟨h28, hf⟩ := bd0_some hf
    refine s_callSv (As := [.int a1, .int (G 0 0)]) (rest := []) F I_2 (cC_LT_requireIndex G E Dd P L pf a1 (G 0 0) h28) kX11_84 ⟨rfl, rfl⟩ ⟨Nat.le_trans (Nat.le_of_ble_eq_true rfl) hRf, Nat.le_trans (Nat.le_of_ble_eq_true rfl) hRl⟩ rfl rfl hl.1 (Nat.le_of_ble_eq_true rfl) ⟨Nat.zero_le _, Nat.zero_le _⟩ dX11_without_18 ?_
    intro H_29 lo_29 I_29
    cases hf
    exact J3 H_29 lo_29 I_29 ls (lv_sub hl [0, 1, 2, 3] rfl)
def C_LE_isRing_12 (G : Nat → Nat → Int32) (a0 : Int32) (a1 : Int32) (a2 : Int32) : Option (Int32) :=
bd (C_LE_isAhead_12 G a0 a1) fun r1 =>
if r1 = 0 then
(some (0 : Int32))
else
(bd (C_LE_isAhead_12 G a1 a2) fun r4 =>
if r4 = 0 then
(some (0 : Int32))
else
(bd (C_LE_isAhead_12 G a2 a0) fun r7 =>
if r7 = 0 then
(some (0 : Int32))
else
(some (1 : Int32))))
set_option maxRecDepth 100000 in
set_option maxHeartbeats 4000000 in
theorem cC_LE_isRing_12 (G : Nat → Nat → Int32) (E : Nat → Nat → Int64) (Dd : Nat → Nat → UInt64) (P : Nat → Option Nat) (L : List Nat) (pf : Nat → va_E) (a0 : Int32) (a1 : Int32) (a2 : Int32) (rv : Int32)  (hf : C_LE_isRing_12 G a0 a1 a2 = some rv) : sMi D (cT cI cJ cD cS) (cW ad cI cJ cD cS) l yX3_isRing (ws1 yX3_isRing cX3_isRing 4 (some .boolean)) ({ frames := 2, cells := 0, slots := 0, locals := 43 }) [.ref (ad 12), .int a0, .int a1, .int a2] (G, E, Dd, P, L, pf) (rv, (G, E, Dd, P, L, pf)) := by
  unfold C_LE_isRing_12 at hf
  refine sMz_of (by decide) (Nat.le_of_ble_eq_true rfl) ?_
  intro p e R s m args below meth c A Q ls H lo F hRf hRl I hl ret
  obtain ⟨hx, hb, hml, hown, hG⟩ := id F
  replace hl : lv_has ls 4 [(0, .ref (ad 12)), (1, .int a0), (2, .int a1), (3, .int a2)] := hl
  refine lv_aload_n hx hb dX3_isRing_0 rfl (lv_at hl 0 rfl) ?_
  refine lv_iload_n hx hb dX3_isRing_1 rfl (lv_at hl 1 rfl) ?_
  refine lv_iload_n hx hb dX3_isRing_2 rfl (lv_at hl 2 rfl) ?_
  obtain ⟨r1, h2, hf⟩ := bd_some hf
  refine s_callVi (As := [.int a0, .int a1]) (rest := []) F I (cC_LE_isAhead_12 G E Dd P L pf a0 a1 r1 h2) kX3_61 ⟨rfl, rfl⟩ ⟨Nat.le_trans (Nat.le_of_ble_eq_true rfl) hRf, Nat.le_trans (Nat.le_of_ble_eq_true rfl) hRl⟩ 12 3 rfl rfl rfl rfl rfl hl.1 (Nat.le_of_ble_eq_true rfl) ⟨Nat.zero_le _, Nat.zero_le _⟩ dX3_isRing_3 ?_
  intro H_3 lo_3 I_3
  refine lv_if_eq (tgt := 31) hx hb dX3_isRing_6 (by decide) (fun c12 => ?_) (fun c12 => ?_)
  · replace hf := (if_pos c12).symm.trans hf
    refine lv_iconst (v := (0 : Int32)) hx hb dX3_isRing_31 (by decide) ?_
    cases hf
    exact ret H_3 lo_3 _ ls I_3 (Or.inl rfl) dX3_isRing_32
  · replace hf := (if_neg c12).symm.trans hf
    refine lv_aload_n hx hb dX3_isRing_9 rfl (lv_at hl 0 rfl) ?_
    refine lv_iload_n hx hb dX3_isRing_10 rfl (lv_at hl 2 rfl) ?_
    refine lv_iload_n hx hb dX3_isRing_11 rfl (lv_at hl 3 rfl) ?_
    obtain ⟨r4, h5, hf⟩ := bd_some hf
    refine s_callVi (As := [.int a1, .int a2]) (rest := []) F I_3 (cC_LE_isAhead_12 G E Dd P L pf a1 a2 r4 h5) kX3_61 ⟨rfl, rfl⟩ ⟨Nat.le_trans (Nat.le_of_ble_eq_true rfl) hRf, Nat.le_trans (Nat.le_of_ble_eq_true rfl) hRl⟩ 12 3 rfl rfl rfl rfl rfl hl.1 (Nat.le_of_ble_eq_true rfl) ⟨Nat.zero_le _, Nat.zero_le _⟩ dX3_isRing_12 ?_
    intro H_6 lo_6 I_6
    refine lv_if_eq (tgt := 31) hx hb dX3_isRing_15 (by decide) (fun c11 => ?_) (fun c11 => ?_)
    · replace hf := (if_pos c11).symm.trans hf
      refine lv_iconst (v := (0 : Int32)) hx hb dX3_isRing_31 (by decide) ?_
      cases hf
      exact ret H_6 lo_6 _ ls I_6 (Or.inl rfl) dX3_isRing_32
    · replace hf := (if_neg c11).symm.trans hf
      refine lv_aload_n hx hb dX3_isRing_18 rfl (lv_at hl 0 rfl) ?_
      refine lv_iload_n hx hb dX3_isRing_19 rfl (lv_at hl 3 rfl) ?_
      refine lv_iload_n hx hb dX3_isRing_20 rfl (lv_at hl 1 rfl) ?_
      obtain ⟨r7, h8, hf⟩ := bd_some hf
      refine s_callVi (As := [.int a2, .int a0]) (rest := []) F I_6 (cC_LE_isAhead_12 G E Dd P L pf a2 a0 r7 h8) kX3_61 ⟨rfl, rfl⟩ ⟨Nat.le_trans (Nat.le_of_ble_eq_true rfl) hRf, Nat.le_trans (Nat.le_of_ble_eq_true rfl) hRl⟩ 12 3 rfl rfl rfl rfl rfl hl.1 (Nat.le_of_ble_eq_true rfl) ⟨Nat.zero_le _, Nat.zero_le _⟩ dX3_isRing_21 ?_
      intro H_9 lo_9 I_9
      refine lv_if_eq (tgt := 31) hx hb dX3_isRing_24 (by decide) (fun c10 => ?_) (fun c10 => ?_)
      · replace hf := (if_pos c10).symm.trans hf
        refine lv_iconst (v := (0 : Int32)) hx hb dX3_isRing_31 (by decide) ?_
        cases hf
        exact ret H_9 lo_9 _ ls I_9 (Or.inl rfl) dX3_isRing_32
      · replace hf := (if_neg c10).symm.trans hf
        refine lv_iconst (v := (1 : Int32)) hx hb dX3_isRing_27 (by decide) ?_
        refine lv_goto (tgt := 32) hx hb dX3_isRing_28 (by decide) ?_
        cases hf
        exact ret H_9 lo_9 _ ls I_9 (Or.inr rfl) dX3_isRing_32
def C_LE_countRings_12_s3 (a0 : Int32) (x4 : Int32) (x13 : Int32) (G : Nat → Nat → Int32) (x23 : Int32) (x24 : Int32) : Option ((Int32 × Int32) ⊕ (Int32)) :=
if a0 ≤ x24 then
(some (.inr x23))
else
(bd (C_LE_isRing_12 G x4 x13 x24) fun r32 =>
bd (if r32 = 0 then
(bd (C_LE_isRing_12 G x24 x13 x4) fun r44 =>
if r44 = 0 then
(some x23)
else
(nm (x23 + (1 : Int32) : Int32) fun x47 =>
some x47))
else
(nm (x23 + (1 : Int32) : Int32) fun x42 =>
some x42)) fun x36 =>
nm (x24 + (1 : Int32) : Int32) fun x39 =>
some (.inl (x36, x39)))
def C_LE_countRings_12_s2 (a0 : Int32) (x4 : Int32) (G : Nat → Nat → Int32) (x12 : Int32) (x13 : Int32) : Option ((Int32 × Int32) ⊕ (Int32)) :=
if a0 ≤ x13 then
(some (.inr x12))
else
(nm (x13 + (1 : Int32) : Int32) fun x21 =>
bd (lp (fun q => C_LE_countRings_12_s3 a0 x4 x13 G q.1 q.2) FU (x12, x21)) fun r25 =>
nm (x13 + (1 : Int32) : Int32) fun x28 =>
some (.inl (r25, x28)))
def C_LE_countRings_12_s1 (a0 : Int32) (G : Nat → Nat → Int32) (x3 : Int32) (x4 : Int32) : Option ((Int32 × Int32) ⊕ (Int32)) :=
if a0 ≤ x4 then
(some (.inr x3))
else
(nm (x4 + (1 : Int32) : Int32) fun x10 =>
bd (lp (fun q => C_LE_countRings_12_s2 a0 x4 G q.1 q.2) FU (x3, x10)) fun r14 =>
nm (x4 + (1 : Int32) : Int32) fun x17 =>
some (.inl (r14, x17)))
def C_LE_countRings_12 (G : Nat → Nat → Int32) (a0 : Int32) : Option (Int32) :=
bd (lp (fun q => C_LE_countRings_12_s1 a0 G q.1 q.2) FU ((0 : Int32), (0 : Int32))) fun r5 =>
some r5
set_option maxRecDepth 100000 in
set_option maxHeartbeats 4000000 in
theorem cC_LE_countRings_12 (G : Nat → Nat → Int32) (E : Nat → Nat → Int64) (Dd : Nat → Nat → UInt64) (P : Nat → Option Nat) (L : List Nat) (pf : Nat → va_E) (a0 : Int32) (rv : Int32)  (hf : C_LE_countRings_12 G a0 = some rv) : sMi D (cT cI cJ cD cS) (cW ad cI cJ cD cS) l yX3_countRings (ws1 yX3_countRings cX3_countRings 6 (some .int)) ({ frames := 3, cells := 0, slots := 0, locals := 66 }) [.ref (ad 12), .int a0] (G, E, Dd, P, L, pf) (rv, (G, E, Dd, P, L, pf)) := by
  unfold C_LE_countRings_12 at hf
  refine sMi_of (by decide) (Nat.le_of_ble_eq_true rfl) ?_
  intro p e R s m args below meth c A Q ls H lo F hRf hRl I hl ret
  obtain ⟨hx, hb, hml, hown, hG⟩ := id F
  replace hl : lv_has ls 6 [(0, .ref (ad 12)), (1, .int a0)] := hl
  refine lv_iconst (v := (0 : Int32)) hx hb dX3_countRings_0 (by decide) ?_
  refine lv_istore_n (lv' := [(2, .int (0 : Int32)), (0, .ref (ad 12)), (1, .int a0)]) hx hb dX3_countRings_1 rfl hl (by decide) rfl (fun ls_1 hl_1 => ?_)
  refine lv_iconst (v := (0 : Int32)) hx hb dX3_countRings_2 (by decide) ?_
  refine lv_istore_n (lv' := [(3, .int (0 : Int32)), (2, .int (0 : Int32)), (0, .ref (ad 12)), (1, .int a0)]) hx hb dX3_countRings_3 rfl hl_1 (by decide) rfl (fun ls_2 hl_2 => ?_)
  obtain ⟨r5, hq1, hf⟩ := bd_some hf
  have K1 : ∀ (H : Heap) (locs : List Loc), sInv D (cT cI cJ cD cS) (cW ad cI cJ cD cS) A s H locs (G, E, Dd, P, L, pf) → ∀ (ls : Array Slot), lv_has ls 6 [(2, .int r5)] → W p l e R s m args below meth c H locs 0 0 Q (F0 m 77 ls []) := by
    intro H_6 lo_6 I_6 ls_7 hl_7
    refine lv_iload_n hx hb dX3_countRings_77 rfl (lv_at hl_7 0 rfl) ?_
    cases hf
    exact ret H_6 lo_6 _ ls_7 I_6 dX3_countRings_78
  have L1 : ∀ (n : Nat) (x3 : Int32) (x4 : Int32), lp (fun q => C_LE_countRings_12_s1 a0 G q.1 q.2) n (x3, x4) = some r5 → ∀ (H : Heap) (locs : List Loc), sInv D (cT cI cJ cD cS) (cW ad cI cJ cD cS) A s H locs (G, E, Dd, P, L, pf) → ∀ (ls : Array Slot), lv_has ls 6 [(0, .ref (ad 12)), (1, .int a0), (2, .int x3), (3, .int x4)] → W p l e R s m args below meth c H locs 0 0 Q (F0 m 4 ls []) := by
    intro n
    induction n with
    | zero => intro x3 x4 hq; exact (lp_0 hq).elim
    | succ n ih1 =>
      intro x3 x4 hq H_8 lo_8 I_8 ls_9 hl_9
      obtain ⟨y1, hf, hK1⟩ := lp_go hq
      replace hf : C_LE_countRings_12_s1 a0 G x3 x4 = some y1 := hf
      unfold C_LE_countRings_12_s1 at hf
      refine lv_iload_n hx hb dX3_countRings_4 rfl (lv_at hl_9 3 rfl) ?_
      refine lv_iload_n hx hb dX3_countRings_5 rfl (lv_at hl_9 1 rfl) ?_
      refine lv_icmp_ge (tgt := 77) hx hb dX3_countRings_6 (by decide) (fun c53 => ?_) (fun c53 => ?_)
      · replace hf := (if_pos c53).symm.trans hf
        cases hf
        cases (show x3 = r5 from hK1)
        exact K1 H_8 lo_8 I_8 ls_9 (lv_sub hl_9 [2] rfl)
      · replace hf := (if_neg c53).symm.trans hf
        refine lv_iload_n hx hb dX3_countRings_9 rfl (lv_at hl_9 3 rfl) ?_
        refine lv_iconst (v := (1 : Int32)) hx hb dX3_countRings_10 (by decide) ?_
        refine lv_iadd hx hb dX3_countRings_11 ?_
        refine lv_topi (fun x10 ex10 => ?_)
        replace hf := nm_some ex10 hf
        refine lv_istore (lv' := [(4, .int x10), (0, .ref (ad 12)), (1, .int a0), (2, .int x3), (3, .int x4)]) hx hb dX3_countRings_12 hl_9 (by decide) rfl (fun ls_11 hl_11 => ?_)
        obtain ⟨r14, hq2, hf⟩ := bd_some hf
        have K2 : ∀ (H : Heap) (locs : List Loc), sInv D (cT cI cJ cD cS) (cW ad cI cJ cD cS) A s H locs (G, E, Dd, P, L, pf) → ∀ (ls : Array Slot), lv_has ls 6 [(0, .ref (ad 12)), (1, .int a0), (2, .int r14), (3, .int x4)] → W p l e R s m args below meth c H locs 0 0 Q (F0 m 71 ls []) := by
          intro H_15 lo_15 I_15 ls_16 hl_16
          obtain ⟨x17, ex17⟩ : ∃ y : Int32, y = x4 + (1 : Int32) := ⟨_, rfl⟩
          replace hf := nm_some ex17 hf
          refine lv_iinc (v := x17) (lv' := [(3, .int x17), (0, .ref (ad 12)), (1, .int a0), (2, .int r14)]) hx hb dX3_countRings_71 hl_16 (k := 3) rfl (by rw [ex17]; rfl) (by decide) rfl (fun ls_18 hl_18 => ?_)
          refine lv_goto (tgt := 4) hx hb dX3_countRings_74 (by decide) ?_
          cases hf
          exact ih1 _ _ hK1 H_15 lo_15 I_15 ls_18 (lv_sub hl_18 [1, 2, 3, 0] rfl)
        have L2 : ∀ (n : Nat) (x12 : Int32) (x13 : Int32), lp (fun q => C_LE_countRings_12_s2 a0 x4 G q.1 q.2) n (x12, x13) = some r14 → ∀ (H : Heap) (locs : List Loc), sInv D (cT cI cJ cD cS) (cW ad cI cJ cD cS) A s H locs (G, E, Dd, P, L, pf) → ∀ (ls : Array Slot), lv_has ls 6 [(0, .ref (ad 12)), (1, .int a0), (2, .int x12), (3, .int x4), (4, .int x13)] → W p l e R s m args below meth c H locs 0 0 Q (F0 m 14 ls []) := by
          intro n
          induction n with
          | zero => intro x12 x13 hq; exact (lp_0 hq).elim
          | succ n ih2 =>
            intro x12 x13 hq H_19 lo_19 I_19 ls_20 hl_20
            obtain ⟨y2, hf, hK2⟩ := lp_go hq
            replace hf : C_LE_countRings_12_s2 a0 x4 G x12 x13 = some y2 := hf
            unfold C_LE_countRings_12_s2 at hf
            refine lv_iload hx hb dX3_countRings_14 (lv_at hl_20 4 rfl) ?_
            refine lv_iload_n hx hb dX3_countRings_16 rfl (lv_at hl_20 1 rfl) ?_
            refine lv_icmp_ge (tgt := 71) hx hb dX3_countRings_17 (by decide) (fun c52 => ?_) (fun c52 => ?_)
            · replace hf := (if_pos c52).symm.trans hf
              cases hf
              cases (show x12 = r14 from hK2)
              exact K2 H_19 lo_19 I_19 ls_20 (lv_sub hl_20 [0, 1, 2, 3] rfl)
            · replace hf := (if_neg c52).symm.trans hf
              refine lv_iload hx hb dX3_countRings_20 (lv_at hl_20 4 rfl) ?_
              refine lv_iconst (v := (1 : Int32)) hx hb dX3_countRings_22 (by decide) ?_
              refine lv_iadd hx hb dX3_countRings_23 ?_
              refine lv_topi (fun x21 ex21 => ?_)
              replace hf := nm_some ex21 hf
              refine lv_istore (lv' := [(5, .int x21), (0, .ref (ad 12)), (1, .int a0), (2, .int x12), (3, .int x4), (4, .int x13)]) hx hb dX3_countRings_24 hl_20 (by decide) rfl (fun ls_22 hl_22 => ?_)
              obtain ⟨r25, hq3, hf⟩ := bd_some hf
              have K3 : ∀ (H : Heap) (locs : List Loc), sInv D (cT cI cJ cD cS) (cW ad cI cJ cD cS) A s H locs (G, E, Dd, P, L, pf) → ∀ (ls : Array Slot), lv_has ls 6 [(0, .ref (ad 12)), (1, .int a0), (2, .int r25), (3, .int x4), (4, .int x13)] → W p l e R s m args below meth c H locs 0 0 Q (F0 m 65 ls []) := by
                intro H_26 lo_26 I_26 ls_27 hl_27
                obtain ⟨x28, ex28⟩ : ∃ y : Int32, y = x13 + (1 : Int32) := ⟨_, rfl⟩
                replace hf := nm_some ex28 hf
                refine lv_iinc (v := x28) (lv' := [(4, .int x28), (0, .ref (ad 12)), (1, .int a0), (2, .int r25), (3, .int x4)]) hx hb dX3_countRings_65 hl_27 (k := 4) rfl (by rw [ex28]; rfl) (by decide) rfl (fun ls_29 hl_29 => ?_)
                refine lv_goto (tgt := 14) hx hb dX3_countRings_68 (by decide) ?_
                cases hf
                exact ih2 _ _ hK2 H_26 lo_26 I_26 ls_29 (lv_sub hl_29 [1, 2, 3, 4, 0] rfl)
              have L3 : ∀ (n : Nat) (x23 : Int32) (x24 : Int32), lp (fun q => C_LE_countRings_12_s3 a0 x4 x13 G q.1 q.2) n (x23, x24) = some r25 → ∀ (H : Heap) (locs : List Loc), sInv D (cT cI cJ cD cS) (cW ad cI cJ cD cS) A s H locs (G, E, Dd, P, L, pf) → ∀ (ls : Array Slot), lv_has ls 6 [(0, .ref (ad 12)), (1, .int a0), (2, .int x23), (3, .int x4), (4, .int x13), (5, .int x24)] → W p l e R s m args below meth c H locs 0 0 Q (F0 m 26 ls []) := by
                intro n
                induction n with
                | zero => intro x23 x24 hq; exact (lp_0 hq).elim
                | succ n ih3 =>
                  intro x23 x24 hq H_30 lo_30 I_30 ls_31 hl_31
                  obtain ⟨y3, hf, hK3⟩ := lp_go hq
                  replace hf : C_LE_countRings_12_s3 a0 x4 x13 G x23 x24 = some y3 := hf
                  unfold C_LE_countRings_12_s3 at hf
                  refine lv_iload hx hb dX3_countRings_26 (lv_at hl_31 5 rfl) ?_
                  refine lv_iload_n hx hb dX3_countRings_28 rfl (lv_at hl_31 1 rfl) ?_
                  refine lv_icmp_ge (tgt := 65) hx hb dX3_countRings_29 (by decide) (fun c51 => ?_) (fun c51 => ?_)
                  · replace hf := (if_pos c51).symm.trans hf
                    cases hf
                    cases (show x23 = r25 from hK3)
                    exact K3 H_30 lo_30 I_30 ls_31 (lv_sub hl_31 [0, 1, 2, 3, 4] rfl)
                  · replace hf := (if_neg c51).symm.trans hf
                    refine lv_aload_n hx hb dX3_countRings_32 rfl (lv_at hl_31 0 rfl) ?_
                    refine lv_iload_n hx hb dX3_countRings_33 rfl (lv_at hl_31 3 rfl) ?_
                    refine lv_iload hx hb dX3_countRings_34 (lv_at hl_31 4 rfl) ?_
                    refine lv_iload hx hb dX3_countRings_36 (lv_at hl_31 5 rfl) ?_
                    obtain ⟨r32, h33, hf⟩ := bd_some hf
                    refine s_callVi (As := [.int x4, .int x13, .int x24]) (rest := []) F I_30 (cC_LE_isRing_12 G E Dd P L pf x4 x13 x24 r32 h33) kX3_57 ⟨rfl, rfl⟩ ⟨Nat.le_trans (Nat.le_of_ble_eq_true rfl) hRf, Nat.le_trans (Nat.le_of_ble_eq_true rfl) hRl⟩ 12 3 rfl rfl rfl rfl rfl hl_31.1 (Nat.le_of_ble_eq_true rfl) ⟨Nat.zero_le _, Nat.zero_le _⟩ dX3_countRings_38 ?_
                    intro H_34 lo_34 I_34
                    obtain ⟨x36, hv41, hf⟩ := bd_some hf
                    have J35 : ∀ (H : Heap) (locs : List Loc), sInv D (cT cI cJ cD cS) (cW ad cI cJ cD cS) A s H locs (G, E, Dd, P, L, pf) → ∀ (ls : Array Slot), lv_has ls 6 [(0, .ref (ad 12)), (1, .int a0), (2, .int x36), (3, .int x4), (4, .int x13), (5, .int x24)] → W p l e R s m args below meth c H locs 0 0 Q (F0 m 59 ls []) := by
                      intro H_37 lo_37 I_37 ls_38 hl_38
                      obtain ⟨x39, ex39⟩ : ∃ y : Int32, y = x24 + (1 : Int32) := ⟨_, rfl⟩
                      replace hf := nm_some ex39 hf
                      refine lv_iinc (v := x39) (lv' := [(5, .int x39), (0, .ref (ad 12)), (1, .int a0), (2, .int x36), (3, .int x4), (4, .int x13)]) hx hb dX3_countRings_59 hl_38 (k := 5) rfl (by rw [ex39]; rfl) (by decide) rfl (fun ls_40 hl_40 => ?_)
                      refine lv_goto (tgt := 26) hx hb dX3_countRings_62 (by decide) ?_
                      cases hf
                      exact ih3 _ _ hK3 H_37 lo_37 I_37 ls_40 (lv_sub hl_40 [1, 2, 3, 4, 5, 0] rfl)
                    replace hf := hv41
                    refine lv_if_ne (tgt := 56) hx hb dX3_countRings_41 (by decide) (fun c50 => ?_) (fun c50 => ?_)
                    · replace hf := (if_neg c50).symm.trans hf
                      obtain ⟨x42, ex42⟩ : ∃ y : Int32, y = x23 + (1 : Int32) := ⟨_, rfl⟩
                      replace hf := nm_some ex42 hf
                      refine lv_iinc (v := x42) (lv' := [(2, .int x42), (0, .ref (ad 12)), (1, .int a0), (3, .int x4), (4, .int x13), (5, .int x24)]) hx hb dX3_countRings_56 hl_31 (k := 2) rfl (by rw [ex42]; rfl) (by decide) rfl (fun ls_43 hl_43 => ?_)
                      cases hf
                      exact J35 H_34 lo_34 I_34 ls_43 (lv_sub hl_43 [1, 2, 0, 3, 4, 5] rfl)
                    · replace hf := (if_pos c50).symm.trans hf
                      refine lv_aload_n hx hb dX3_countRings_44 rfl (lv_at hl_31 0 rfl) ?_
                      refine lv_iload hx hb dX3_countRings_45 (lv_at hl_31 5 rfl) ?_
                      refine lv_iload hx hb dX3_countRings_47 (lv_at hl_31 4 rfl) ?_
                      refine lv_iload_n hx hb dX3_countRings_49 rfl (lv_at hl_31 3 rfl) ?_
                      obtain ⟨r44, h45, hf⟩ := bd_some hf
                      refine s_callVi (As := [.int x24, .int x13, .int x4]) (rest := []) F I_34 (cC_LE_isRing_12 G E Dd P L pf x24 x13 x4 r44 h45) kX3_57 ⟨rfl, rfl⟩ ⟨Nat.le_trans (Nat.le_of_ble_eq_true rfl) hRf, Nat.le_trans (Nat.le_of_ble_eq_true rfl) hRl⟩ 12 3 rfl rfl rfl rfl rfl hl_31.1 (Nat.le_of_ble_eq_true rfl) ⟨Nat.zero_le _, Nat.zero_le _⟩ dX3_countRings_50 ?_
                      intro H_46 lo_46 I_46
                      refine lv_if_eq (tgt := 59) hx hb dX3_countRings_53 (by decide) (fun c49 => ?_) (fun c49 => ?_)
                      · replace hf := (if_pos c49).symm.trans hf
                        cases hf
                        exact J35 H_46 lo_46 I_46 ls_31 (lv_sub hl_31 [0, 1, 2, 3, 4, 5] rfl)
                      · replace hf := (if_neg c49).symm.trans hf
                        obtain ⟨x47, ex47⟩ : ∃ y : Int32, y = x23 + (1 : Int32) := ⟨_, rfl⟩
                        replace hf := nm_some ex47 hf
                        refine lv_iinc (v := x47) (lv' := [(2, .int x47), (0, .ref (ad 12)), (1, .int a0), (3, .int x4), (4, .int x13), (5, .int x24)]) hx hb dX3_countRings_56 hl_31 (k := 2) rfl (by rw [ex47]; rfl) (by decide) rfl (fun ls_48 hl_48 => ?_)
                        cases hf
                        exact J35 H_46 lo_46 I_46 ls_48 (lv_sub hl_48 [1, 2, 0, 3, 4, 5] rfl)
              exact L3 FU _ _ hq3 H_19 lo_19 I_19 ls_22 (lv_sub hl_22 [1, 2, 3, 4, 5, 0] rfl)
        exact L2 FU _ _ hq2 H_8 lo_8 I_8 ls_11 (lv_sub hl_11 [1, 2, 3, 4, 0] rfl)
  exact L1 FU _ _ hq1 H lo I ls_2 (lv_sub hl_2 [2, 3, 1, 0] rfl)
def C_LT_ringsOf (G : Nat → Nat → Int32) (a0 : Int32) : Option (Int32 × (Nat → Nat → Int32)) :=
bd (C_LE_takeListener_12 G a0) fun G1 =>
bd (C_LE_countRings_12 G1 (G1 0 0)) fun r4 =>
some (r4, G1)
set_option maxRecDepth 100000 in
set_option maxHeartbeats 4000000 in
theorem cC_LT_ringsOf (G : Nat → Nat → Int32) (E : Nat → Nat → Int64) (Dd : Nat → Nat → UInt64) (P : Nat → Option Nat) (L : List Nat) (pf : Nat → va_E) (a0 : Int32) (rv : Int32) (newG : Nat → Nat → Int32) (hf : C_LT_ringsOf G a0 = some (rv, newG)) : sMi D (cT cI cJ cD cS) (cW ad cI cJ cD cS) l yX11_ringsOf (ws1 yX11_ringsOf cX11_ringsOf 2 (some .int)) ({ frames := 4, cells := 0, slots := 0, locals := 91 }) [.ref (ad 0), .int a0] (G, E, Dd, P, L, pf) (rv, (newG, E, Dd, P, L, pf)) := by
  unfold C_LT_ringsOf at hf
  refine sMi_of (by decide) (Nat.le_of_ble_eq_true rfl) ?_
  intro p e R s m args below meth c A Q ls H lo F hRf hRl I hl ret
  obtain ⟨hx, hb, hml, hown, hG⟩ := id F
  replace hl : lv_has ls 2 [(0, .ref (ad 0)), (1, .int a0)] := hl
  refine lv_aload_n hx hb dX11_ringsOf_0 rfl (lv_at hl 0 rfl) ?_
  refine kgtX11_44_0 F I dX11_ringsOf_1 ?_
  refine lv_aload_n hx hb dX11_ringsOf_4 rfl (lv_at hl 0 rfl) ?_
  refine kgtX11_16_0 F I dX11_ringsOf_5 ?_
  refine lv_iload_n hx hb dX11_ringsOf_8 rfl (lv_at hl 1 rfl) ?_
  obtain ⟨G1, h2, hf⟩ := bd_some hf
  refine s_callVv (As := [.ref (ad 2), .int a0]) (rest := []) F I (cC_LE_takeListener_12 G E Dd P L pf a0 G1 h2) kX11_233 ⟨rfl, rfl⟩ ⟨Nat.le_trans (Nat.le_of_ble_eq_true rfl) hRf, Nat.le_trans (Nat.le_of_ble_eq_true rfl) hRl⟩ 12 3 rfl rfl rfl rfl rfl hl.1 (Nat.le_of_ble_eq_true rfl) ⟨Nat.zero_le _, Nat.zero_le _⟩ dX11_ringsOf_9 ?_
  intro H_3 lo_3 I_3
  refine lv_aload_n hx hb dX11_ringsOf_12 rfl (lv_at hl 0 rfl) ?_
  refine kgtX11_44_0 F I_3 dX11_ringsOf_13 ?_
  refine lv_aload_n hx hb dX11_ringsOf_16 rfl (lv_at hl 0 rfl) ?_
  refine kgtX11_89_0 F I_3 dX11_ringsOf_17 ?_
  obtain ⟨r4, h5, hf⟩ := bd_some hf
  refine s_callVi (As := [.int (G1 0 0)]) (rest := []) F I_3 (cC_LE_countRings_12 G1 E Dd P L pf (G1 0 0) r4 h5) kX11_246 ⟨rfl, rfl⟩ ⟨Nat.le_trans (Nat.le_of_ble_eq_true rfl) hRf, Nat.le_trans (Nat.le_of_ble_eq_true rfl) hRl⟩ 12 3 rfl rfl rfl rfl rfl hl.1 (Nat.le_of_ble_eq_true rfl) ⟨Nat.zero_le _, Nat.zero_le _⟩ dX11_ringsOf_20 ?_
  intro H_6 lo_6 I_6
  cases hf
  exact ret H_6 lo_6 _ ls I_6 dX11_ringsOf_23
def C_LT_rings (G : Nat → Nat → Int32) (a0 : Int32) : Option (Int32 × (Nat → Nat → Int32)) :=
bd0 (C_LT_requireIndex a0 (G 1 0)) <|
bd2 (C_LT_ringsOf G a0) fun r3 G4 =>
some (r3, G4)
set_option maxRecDepth 100000 in
set_option maxHeartbeats 4000000 in
theorem cC_LT_rings (G : Nat → Nat → Int32) (E : Nat → Nat → Int64) (Dd : Nat → Nat → UInt64) (P : Nat → Option Nat) (L : List Nat) (pf : Nat → va_E) (a0 : Int32) (rv : Int32) (newG : Nat → Nat → Int32) (hf : C_LT_rings G a0 = some (rv, newG)) : sMi D (cT cI cJ cD cS) (cW ad cI cJ cD cS) l yX11_rings (ws1 yX11_rings cX11_rings 2 (some .int)) ({ frames := 5, cells := 0, slots := 0, locals := 112 }) [.ref (ad 0), .int a0] (G, E, Dd, P, L, pf) (rv, (newG, E, Dd, P, L, pf)) := by
  unfold C_LT_rings at hf
  refine sMi_of (by decide) (Nat.le_of_ble_eq_true rfl) ?_
  intro p e R s m args below meth c A Q ls H lo F hRf hRl I hl ret
  obtain ⟨hx, hb, hml, hown, hG⟩ := id F
  replace hl : lv_has ls 2 [(0, .ref (ad 0)), (1, .int a0)] := hl
  refine lv_iload_n hx hb dX11_rings_0 rfl (lv_at hl 1 rfl) ?_
  refine lv_aload_n hx hb dX11_rings_1 rfl (lv_at hl 0 rfl) ?_
  refine kgtX11_80_0 F I dX11_rings_2 ?_
  obtain ⟨h1, hf⟩ := bd0_some hf
  refine s_callSv (As := [.int a0, .int (G 1 0)]) (rest := []) F I (cC_LT_requireIndex G E Dd P L pf a0 (G 1 0) h1) kX11_84 ⟨rfl, rfl⟩ ⟨Nat.le_trans (Nat.le_of_ble_eq_true rfl) hRf, Nat.le_trans (Nat.le_of_ble_eq_true rfl) hRl⟩ rfl rfl hl.1 (Nat.le_of_ble_eq_true rfl) ⟨Nat.zero_le _, Nat.zero_le _⟩ dX11_rings_5 ?_
  intro H_2 lo_2 I_2
  refine lv_aload_n hx hb dX11_rings_8 rfl (lv_at hl 0 rfl) ?_
  refine lv_iload_n hx hb dX11_rings_9 rfl (lv_at hl 1 rfl) ?_
  obtain ⟨r3, G4, h5, hf⟩ := bd2_some hf
  refine s_callVi (As := [.int a0]) (rest := []) F I_2 (cC_LT_ringsOf G E Dd P L pf a0 r3 G4 h5) kX11_230 ⟨rfl, rfl⟩ ⟨Nat.le_trans (Nat.le_of_ble_eq_true rfl) hRf, Nat.le_trans (Nat.le_of_ble_eq_true rfl) hRl⟩ 0 11 rfl rfl rfl rfl rfl hl.1 (Nat.le_of_ble_eq_true rfl) ⟨Nat.zero_le _, Nat.zero_le _⟩ dX11_rings_10 ?_
  intro H_6 lo_6 I_6
  cases hf
  exact ret H_6 lo_6 _ ls I_6 dX11_rings_13
def C_LT_chance (G : Nat → Nat → Int32) (a0 : Int32) (a1 : Int32) : Option (Int64 × (Nat → Nat → Int32)) :=
bd0 (C_LT_requireIndex a0 (G 0 0)) <|
bd0 (C_LT_requireIndex a1 (G 0 0)) <|
bd (if a0 = a1 then
(some (0 : Int32))
else
(some (1 : Int32))) fun x6 =>
bd0 (C_LT_requireArgument x6) <|
bd (C_TA_take G) fun G11 =>
bd (C_TA_chanceOf G11 a0 a1) fun r14 =>
some (r14, G11)
set_option maxRecDepth 100000 in
set_option maxHeartbeats 4000000 in
theorem cC_LT_chance (G : Nat → Nat → Int32) (E : Nat → Nat → Int64) (Dd : Nat → Nat → UInt64) (P : Nat → Option Nat) (L : List Nat) (pf : Nat → va_E) (a0 : Int32) (a1 : Int32) (rv : Int64) (newG : Nat → Nat → Int32) (hf : C_LT_chance G a0 a1 = some (rv, newG)) : sMl D (cT cI cJ cD cS) (cW ad cI cJ cD cS) l yX11_chance (ws1 yX11_chance cX11_chance 3 (some .long)) ({ frames := 3, cells := 0, slots := 0, locals := 73 }) [.ref (ad 0), .int a0, .int a1] (G, E, Dd, P, L, pf) (rv, (newG, E, Dd, P, L, pf)) := by
  unfold C_LT_chance at hf
  refine sMl_of (by decide) (Nat.le_of_ble_eq_true rfl) ?_
  intro p e R s m args below meth c A Q ls H lo F hRf hRl I hl ret
  obtain ⟨hx, hb, hml, hown, hG⟩ := id F
  replace hl : lv_has ls 3 [(0, .ref (ad 0)), (1, .int a0), (2, .int a1)] := hl
  refine lv_iload_n hx hb dX11_chance_0 rfl (lv_at hl 1 rfl) ?_
  refine lv_aload_n hx hb dX11_chance_1 rfl (lv_at hl 0 rfl) ?_
  refine kgtX11_89_0 F I dX11_chance_2 ?_
  obtain ⟨h1, hf⟩ := bd0_some hf
  refine s_callSv (As := [.int a0, .int (G 0 0)]) (rest := []) F I (cC_LT_requireIndex G E Dd P L pf a0 (G 0 0) h1) kX11_84 ⟨rfl, rfl⟩ ⟨Nat.le_trans (Nat.le_of_ble_eq_true rfl) hRf, Nat.le_trans (Nat.le_of_ble_eq_true rfl) hRl⟩ rfl rfl hl.1 (Nat.le_of_ble_eq_true rfl) ⟨Nat.zero_le _, Nat.zero_le _⟩ dX11_chance_5 ?_
  intro H_2 lo_2 I_2
  refine lv_iload_n hx hb dX11_chance_8 rfl (lv_at hl 2 rfl) ?_
  refine lv_aload_n hx hb dX11_chance_9 rfl (lv_at hl 0 rfl) ?_
  refine kgtX11_89_0 F I_2 dX11_chance_10 ?_
  obtain ⟨h3, hf⟩ := bd0_some hf
  refine s_callSv (As := [.int a1, .int (G 0 0)]) (rest := []) F I_2 (cC_LT_requireIndex G E Dd P L pf a1 (G 0 0) h3) kX11_84 ⟨rfl, rfl⟩ ⟨Nat.le_trans (Nat.le_of_ble_eq_true rfl) hRf, Nat.le_trans (Nat.le_of_ble_eq_true rfl) hRl⟩ rfl rfl hl.1 (Nat.le_of_ble_eq_true rfl) ⟨Nat.zero_le _, Nat.zero_le _⟩ dX11_chance_13 ?_
  intro H_4 lo_4 I_4
  refine lv_iload_n hx hb dX11_chance_16 rfl (lv_at hl 1 rfl) ?_
  refine lv_iload_n hx hb dX11_chance_17 rfl (lv_at hl 2 rfl) ?_
  obtain ⟨x6, hv17, hf⟩ := bd_some hf
  have J5 : ∀ (H : Heap) (locs : List Loc), sInv D (cT cI cJ cD cS) (cW ad cI cJ cD cS) A s H locs (G, E, Dd, P, L, pf) → ∀ (ls : Array Slot), lv_has ls 3 [(0, .ref (ad 0)), (1, .int a0), (2, .int a1)] → W p l e R s m args below meth c H locs 0 0 Q (F0 m 26 ls [.int x6]) := by
    intro H_7 lo_7 I_7 ls_8 hl_8
    obtain ⟨h9, hf⟩ := bd0_some hf
    refine s_callSv (As := [.int x6]) (rest := []) F I_7 (cC_LT_requireArgument G E Dd P L pf x6 h9) kX11_76 ⟨rfl, rfl⟩ ⟨Nat.le_trans (Nat.le_of_ble_eq_true rfl) hRf, Nat.le_trans (Nat.le_of_ble_eq_true rfl) hRl⟩ rfl rfl hl_8.1 (Nat.le_of_ble_eq_true rfl) ⟨Nat.zero_le _, Nat.zero_le _⟩ dX11_chance_26 ?_
    intro H_10 lo_10 I_10
    refine lv_aload_n hx hb dX11_chance_29 rfl (lv_at hl_8 0 rfl) ?_
    refine kgtX11_37_0 F I_10 dX11_chance_30 ?_
    refine lv_aload_n hx hb dX11_chance_33 rfl (lv_at hl_8 0 rfl) ?_
    refine kgtX11_16_0 F I_10 dX11_chance_34 ?_
    obtain ⟨G11, h12, hf⟩ := bd_some hf
    refine s_callVv (As := [.ref (ad 2)]) (rest := []) F I_10 (cC_TA_take G E Dd P L pf G11 h12) kX11_211 ⟨rfl, rfl⟩ ⟨Nat.le_trans (Nat.le_of_ble_eq_true rfl) hRf, Nat.le_trans (Nat.le_of_ble_eq_true rfl) hRl⟩ 9 9 rfl rfl rfl rfl rfl hl_8.1 (Nat.le_of_ble_eq_true rfl) ⟨Nat.zero_le _, Nat.zero_le _⟩ dX11_chance_37 ?_
    intro H_13 lo_13 I_13
    refine lv_aload_n hx hb dX11_chance_40 rfl (lv_at hl_8 0 rfl) ?_
    refine kgtX11_37_0 F I_13 dX11_chance_41 ?_
    refine lv_iload_n hx hb dX11_chance_44 rfl (lv_at hl_8 1 rfl) ?_
    refine lv_iload_n hx hb dX11_chance_45 rfl (lv_at hl_8 2 rfl) ?_
    obtain ⟨r14, h15, hf⟩ := bd_some hf
    refine s_callVl (As := [.int a0, .int a1]) (rest := []) F I_13 (cC_TA_chanceOf G11 E Dd P L pf a0 a1 r14 h15) kX11_249 ⟨rfl, rfl⟩ ⟨Nat.le_trans (Nat.le_of_ble_eq_true rfl) hRf, Nat.le_trans (Nat.le_of_ble_eq_true rfl) hRl⟩ 9 9 rfl rfl rfl rfl rfl hl_8.1 (Nat.le_of_ble_eq_true rfl) ⟨Nat.zero_le _, Nat.zero_le _⟩ dX11_chance_46 ?_
    intro H_16 lo_16 I_16
    cases hf
    exact ret H_16 lo_16 _ ls_8 I_16 dX11_chance_49
  replace hf := hv17
  refine lv_icmp_eq (tgt := 25) hx hb dX11_chance_18 (by decide) (fun c18 => ?_) (fun c18 => ?_)
  · replace hf := (if_pos c18).symm.trans hf
    refine lv_iconst (v := (0 : Int32)) hx hb dX11_chance_25 (by decide) ?_
    cases hf
    exact J5 H_4 lo_4 I_4 ls (lv_sub hl [0, 1, 2] rfl)
  · replace hf := (if_neg c18).symm.trans hf
    refine lv_iconst (v := (1 : Int32)) hx hb dX11_chance_21 (by decide) ?_
    refine lv_goto (tgt := 26) hx hb dX11_chance_22 (by decide) ?_
    cases hf
    exact J5 H_4 lo_4 I_4 ls (lv_sub hl [0, 1, 2] rfl)
def C_LT_placeChance (G : Nat → Nat → Int32) : Option (Int64) :=
bd (C_CO_countAnswers G (1 : Int32)) fun r1 =>
bd (C_CO_countAnswers G (2 : Int32)) fun r4 =>
bd (C_LT_coinChance r1 r4) fun r7 =>
some r7
set_option maxRecDepth 100000 in
set_option maxHeartbeats 4000000 in
theorem cC_LT_placeChance (G : Nat → Nat → Int32) (E : Nat → Nat → Int64) (Dd : Nat → Nat → UInt64) (P : Nat → Option Nat) (L : List Nat) (pf : Nat → va_E)  (rv : Int64)  (hf : C_LT_placeChance G = some rv) : sMl D (cT cI cJ cD cS) (cW ad cI cJ cD cS) l yX11_placeChance (ws1 yX11_placeChance cX11_placeChance 1 (some .long)) ({ frames := 2, cells := 0, slots := 0, locals := 51 }) [.ref (ad 0)] (G, E, Dd, P, L, pf) (rv, (G, E, Dd, P, L, pf)) := by
  unfold C_LT_placeChance at hf
  refine sMl_of (by decide) (Nat.le_of_ble_eq_true rfl) ?_
  intro p e R s m args below meth c A Q ls H lo F hRf hRl I hl ret
  obtain ⟨hx, hb, hml, hown, hG⟩ := id F
  replace hl : lv_has ls 1 [(0, .ref (ad 0))] := hl
  refine lv_aload_n hx hb dX11_placeChance_0 rfl (lv_at hl 0 rfl) ?_
  refine kgtX11_16_0 F I dX11_placeChance_1 ?_
  refine lv_iconst (v := (1 : Int32)) hx hb dX11_placeChance_4 (by decide) ?_
  obtain ⟨r1, h2, hf⟩ := bd_some hf
  refine s_callVi (As := [.int (1 : Int32)]) (rest := []) F I (cC_CO_countAnswers G E Dd P L pf (1 : Int32) r1 h2) kX11_253 ⟨rfl, rfl⟩ ⟨Nat.le_trans (Nat.le_of_ble_eq_true rfl) hRf, Nat.le_trans (Nat.le_of_ble_eq_true rfl) hRl⟩ 2 1 rfl rfl rfl rfl rfl hl.1 (Nat.le_of_ble_eq_true rfl) ⟨Nat.zero_le _, Nat.zero_le _⟩ dX11_placeChance_5 ?_
  intro H_3 lo_3 I_3
  refine lv_aload_n hx hb dX11_placeChance_8 rfl (lv_at hl 0 rfl) ?_
  refine kgtX11_16_0 F I_3 dX11_placeChance_9 ?_
  refine lv_iconst (v := (2 : Int32)) hx hb dX11_placeChance_12 (by decide) ?_
  obtain ⟨r4, h5, hf⟩ := bd_some hf
  refine s_callVi (As := [.int (2 : Int32)]) (rest := [.int r1]) F I_3 (cC_CO_countAnswers G E Dd P L pf (2 : Int32) r4 h5) kX11_253 ⟨rfl, rfl⟩ ⟨Nat.le_trans (Nat.le_of_ble_eq_true rfl) hRf, Nat.le_trans (Nat.le_of_ble_eq_true rfl) hRl⟩ 2 1 rfl rfl rfl rfl rfl hl.1 (Nat.le_of_ble_eq_true rfl) ⟨Nat.zero_le _, Nat.zero_le _⟩ dX11_placeChance_13 ?_
  intro H_6 lo_6 I_6
  obtain ⟨r7, h8, hf⟩ := bd_some hf
  refine s_callSl (As := [.int r1, .int r4]) (rest := []) F I_6 (cC_LT_coinChance G E Dd P L pf r1 r4 r7 h8) kX11_256 ⟨rfl, rfl⟩ ⟨Nat.le_trans (Nat.le_of_ble_eq_true rfl) hRf, Nat.le_trans (Nat.le_of_ble_eq_true rfl) hRl⟩ rfl rfl hl.1 (Nat.le_of_ble_eq_true rfl) ⟨Nat.zero_le _, Nat.zero_le _⟩ dX11_placeChance_16 ?_
  intro H_9 lo_9 I_9
  cases hf
  exact ret H_9 lo_9 _ ls I_9 dX11_placeChance_19
def C_LT_provedAt (G : Nat → Nat → Int32) (E : Nat → Nat → Int64) (a0 : Int32) : Option (Int32 × (Nat → Nat → Int32) × (Nat → Nat → Int64)) :=
bd (C_TA_take G) fun G1 =>
bd2 (C_PP_take G1 E (G1 0 0)) fun G4 E5 =>
bd (C_PP_countAt G4 E5 a0) fun r8 =>
some (r8, G4, E5)
set_option maxRecDepth 100000 in
set_option maxHeartbeats 4000000 in
theorem cC_LT_provedAt (G : Nat → Nat → Int32) (E : Nat → Nat → Int64) (Dd : Nat → Nat → UInt64) (P : Nat → Option Nat) (L : List Nat) (pf : Nat → va_E) (a0 : Int32) (rv : Int32) (newG : Nat → Nat → Int32) (newE : Nat → Nat → Int64) (hf : C_LT_provedAt G E a0 = some (rv, newG, newE)) : sMi D (cT cI cJ cD cS) (cW ad cI cJ cD cS) l yX11_provedAt (ws1 yX11_provedAt cX11_provedAt 2 (some .int)) ({ frames := 4, cells := 0, slots := 0, locals := 97 }) [.ref (ad 0), .int a0] (G, E, Dd, P, L, pf) (rv, (newG, newE, Dd, P, L, pf)) := by
  unfold C_LT_provedAt at hf
  refine sMi_of (by decide) (Nat.le_of_ble_eq_true rfl) ?_
  intro p e R s m args below meth c A Q ls H lo F hRf hRl I hl ret
  obtain ⟨hx, hb, hml, hown, hG⟩ := id F
  replace hl : lv_has ls 2 [(0, .ref (ad 0)), (1, .int a0)] := hl
  refine lv_aload_n hx hb dX11_provedAt_0 rfl (lv_at hl 0 rfl) ?_
  refine kgtX11_37_0 F I dX11_provedAt_1 ?_
  refine lv_aload_n hx hb dX11_provedAt_4 rfl (lv_at hl 0 rfl) ?_
  refine kgtX11_16_0 F I dX11_provedAt_5 ?_
  obtain ⟨G1, h2, hf⟩ := bd_some hf
  refine s_callVv (As := [.ref (ad 2)]) (rest := []) F I (cC_TA_take G E Dd P L pf G1 h2) kX11_211 ⟨rfl, rfl⟩ ⟨Nat.le_trans (Nat.le_of_ble_eq_true rfl) hRf, Nat.le_trans (Nat.le_of_ble_eq_true rfl) hRl⟩ 9 9 rfl rfl rfl rfl rfl hl.1 (Nat.le_of_ble_eq_true rfl) ⟨Nat.zero_le _, Nat.zero_le _⟩ dX11_provedAt_8 ?_
  intro H_3 lo_3 I_3
  refine lv_aload_n hx hb dX11_provedAt_11 rfl (lv_at hl 0 rfl) ?_
  refine kgtX11_61_0 F I_3 dX11_provedAt_12 ?_
  refine lv_aload_n hx hb dX11_provedAt_15 rfl (lv_at hl 0 rfl) ?_
  refine kgtX11_37_0 F I_3 dX11_provedAt_16 ?_
  refine lv_aload_n hx hb dX11_provedAt_19 rfl (lv_at hl 0 rfl) ?_
  refine kgtX11_89_0 F I_3 dX11_provedAt_20 ?_
  obtain ⟨G4, E5, h6, hf⟩ := bd2_some hf
  refine s_callVv (As := [.ref (ad 9), .int (G1 0 0)]) (rest := []) F I_3 (cC_PP_take G1 E Dd P L pf (G1 0 0) G4 E5 h6) kX11_332 ⟨rfl, rfl⟩ ⟨Nat.le_trans (Nat.le_of_ble_eq_true rfl) hRf, Nat.le_trans (Nat.le_of_ble_eq_true rfl) hRl⟩ 30 5 rfl rfl rfl rfl rfl hl.1 (Nat.le_of_ble_eq_true rfl) ⟨Nat.zero_le _, Nat.zero_le _⟩ dX11_provedAt_23 ?_
  intro H_7 lo_7 I_7
  refine lv_aload_n hx hb dX11_provedAt_26 rfl (lv_at hl 0 rfl) ?_
  refine kgtX11_61_0 F I_7 dX11_provedAt_27 ?_
  refine lv_iload_n hx hb dX11_provedAt_30 rfl (lv_at hl 1 rfl) ?_
  obtain ⟨r8, h9, hf⟩ := bd_some hf
  refine s_callVi (As := [.int a0]) (rest := []) F I_7 (cC_PP_countAt G4 E5 Dd P L pf a0 r8 h9) kX11_335 ⟨rfl, rfl⟩ ⟨Nat.le_trans (Nat.le_of_ble_eq_true rfl) hRf, Nat.le_trans (Nat.le_of_ble_eq_true rfl) hRl⟩ 30 5 rfl rfl rfl rfl rfl hl.1 (Nat.le_of_ble_eq_true rfl) ⟨Nat.zero_le _, Nat.zero_le _⟩ dX11_provedAt_31 ?_
  intro H_10 lo_10 I_10
  cases hf
  exact ret H_10 lo_10 _ ls I_10 dX11_provedAt_34
def C_LT_proved (G : Nat → Nat → Int32) (E : Nat → Nat → Int64) (a0 : Int32) (a1 : Int32) : Option (Int32 × (Nat → Nat → Int32) × (Nat → Nat → Int64)) :=
bd (if a0 < (1 : Int32) then
(some (0 : Int32))
else
(if (1000 : Int32) < a0 then
(some (0 : Int32))
else
(some (1 : Int32)))) fun x2 =>
bd0 (C_LT_requireArgument x2) <|
bd3 (C_LT_provedAt G E a0) fun r7 G8 E9 =>
if a1 = (-1 : Int32) then
(some (r7, G8, E9))
else
(bd0 (C_LT_requireIndex a1 r7) <|
bd (C_PP_namedPair G8 a1) fun r15 =>
some (r15, G8, E9))
set_option maxRecDepth 100000 in
set_option maxHeartbeats 4000000 in
theorem cC_LT_proved (G : Nat → Nat → Int32) (E : Nat → Nat → Int64) (Dd : Nat → Nat → UInt64) (P : Nat → Option Nat) (L : List Nat) (pf : Nat → va_E) (a0 : Int32) (a1 : Int32) (rv : Int32) (newG : Nat → Nat → Int32) (newE : Nat → Nat → Int64) (hf : C_LT_proved G E a0 a1 = some (rv, newG, newE)) : sMi D (cT cI cJ cD cS) (cW ad cI cJ cD cS) l yX11_proved (ws1 yX11_proved cX11_proved 4 (some .int)) ({ frames := 5, cells := 0, slots := 0, locals := 118 }) [.ref (ad 0), .int a0, .int a1] (G, E, Dd, P, L, pf) (rv, (newG, newE, Dd, P, L, pf)) := by
  unfold C_LT_proved at hf
  refine sMi_of (by decide) (Nat.le_of_ble_eq_true rfl) ?_
  intro p e R s m args below meth c A Q ls H lo F hRf hRl I hl ret
  obtain ⟨hx, hb, hml, hown, hG⟩ := id F
  replace hl : lv_has ls 4 [(0, .ref (ad 0)), (1, .int a0), (2, .int a1)] := hl
  refine lv_iload_n hx hb dX11_proved_0 rfl (lv_at hl 1 rfl) ?_
  refine lv_iconst (v := (1 : Int32)) hx hb dX11_proved_1 (by decide) ?_
  obtain ⟨x2, hv19, hf⟩ := bd_some hf
  have J1 : ∀ (H : Heap) (locs : List Loc), sInv D (cT cI cJ cD cS) (cW ad cI cJ cD cS) A s H locs (G, E, Dd, P, L, pf) → ∀ (ls : Array Slot), lv_has ls 4 [(0, .ref (ad 0)), (1, .int a0), (2, .int a1)] → W p l e R s m args below meth c H locs 0 0 Q (F0 m 17 ls [.int x2]) := by
    intro H_3 lo_3 I_3 ls_4 hl_4
    obtain ⟨h5, hf⟩ := bd0_some hf
    refine s_callSv (As := [.int x2]) (rest := []) F I_3 (cC_LT_requireArgument G E Dd P L pf x2 h5) kX11_76 ⟨rfl, rfl⟩ ⟨Nat.le_trans (Nat.le_of_ble_eq_true rfl) hRf, Nat.le_trans (Nat.le_of_ble_eq_true rfl) hRl⟩ rfl rfl hl_4.1 (Nat.le_of_ble_eq_true rfl) ⟨Nat.zero_le _, Nat.zero_le _⟩ dX11_proved_17 ?_
    intro H_6 lo_6 I_6
    refine lv_aload_n hx hb dX11_proved_20 rfl (lv_at hl_4 0 rfl) ?_
    refine lv_iload_n hx hb dX11_proved_21 rfl (lv_at hl_4 1 rfl) ?_
    obtain ⟨r7, G8, E9, h10, hf⟩ := bd3_some hf
    refine s_callVi (As := [.int a0]) (rest := []) F I_6 (cC_LT_provedAt G E Dd P L pf a0 r7 G8 E9 h10) kX11_259 ⟨rfl, rfl⟩ ⟨Nat.le_trans (Nat.le_of_ble_eq_true rfl) hRf, Nat.le_trans (Nat.le_of_ble_eq_true rfl) hRl⟩ 0 11 rfl rfl rfl rfl rfl hl_4.1 (Nat.le_of_ble_eq_true rfl) ⟨Nat.zero_le _, Nat.zero_le _⟩ dX11_proved_22 ?_
    intro H_11 lo_11 I_11
    refine lv_istore_n (lv' := [(3, .int r7), (0, .ref (ad 0)), (1, .int a0), (2, .int a1)]) hx hb dX11_proved_25 rfl hl_4 (by decide) rfl (fun ls_12 hl_12 => ?_)
    refine lv_iload_n hx hb dX11_proved_26 rfl (lv_at hl_12 3 rfl) ?_
    refine lv_iconst (v := (-1 : Int32)) hx hb dX11_proved_27 (by decide) ?_
    refine lv_icmp_ne (tgt := 33) hx hb dX11_proved_28 (by decide) (fun c18 => ?_) (fun c18 => ?_)
    · replace hf := (if_neg c18).symm.trans hf
      refine lv_iload_n hx hb dX11_proved_33 rfl (lv_at hl_12 3 rfl) ?_
      refine lv_iload_n hx hb dX11_proved_34 rfl (lv_at hl_12 0 rfl) ?_
      obtain ⟨h13, hf⟩ := bd0_some hf
      refine s_callSv (As := [.int a1, .int r7]) (rest := []) F I_11 (cC_LT_requireIndex G8 E9 Dd P L pf a1 r7 h13) kX11_84 ⟨rfl, rfl⟩ ⟨Nat.le_trans (Nat.le_of_ble_eq_true rfl) hRf, Nat.le_trans (Nat.le_of_ble_eq_true rfl) hRl⟩ rfl rfl hl_12.1 (Nat.le_of_ble_eq_true rfl) ⟨Nat.zero_le _, Nat.zero_le _⟩ dX11_proved_35 ?_
      intro H_14 lo_14 I_14
      refine lv_aload_n hx hb dX11_proved_38 rfl (lv_at hl_12 1 rfl) ?_
      refine kgtX11_61_0 F I_14 dX11_proved_39 ?_
      refine lv_aload_n hx hb dX11_proved_42 rfl (lv_at hl_12 1 rfl) ?_
      refine kgtX11_37_0 F I_14 dX11_proved_43 ?_
      refine lv_iload_n hx hb dX11_proved_46 rfl (lv_at hl_12 3 rfl) ?_
      obtain ⟨r15, h16, hf⟩ := bd_some hf
      refine s_callVi (As := [.ref (ad 9), .int a1]) (rest := []) F I_14 (cC_PP_namedPair G8 E9 Dd P L pf a1 r15 h16) kX11_262 ⟨rfl, rfl⟩ ⟨Nat.le_trans (Nat.le_of_ble_eq_true rfl) hRf, Nat.le_trans (Nat.le_of_ble_eq_true rfl) hRl⟩ 30 5 rfl rfl rfl rfl rfl hl_12.1 (Nat.le_of_ble_eq_true rfl) ⟨Nat.zero_le _, Nat.zero_le _⟩ dX11_proved_47 ?_
      intro H_17 lo_17 I_17
      cases hf
      exact ret H_17 lo_17 _ ls_12 I_17 dX11_proved_50
    · replace hf := (if_pos c18).symm.trans hf
      refine lv_iload_n hx hb dX11_proved_31 rfl (lv_at hl_12 0 rfl) ?_
      cases hf
      exact ret H_11 lo_11 _ ls_12 I_11 dX11_proved_32
  replace hf := hv19
  refine lv_icmp_lt (tgt := 16) hx hb dX11_proved_2 (by decide) (fun c21 => ?_) (fun c21 => ?_)
  · replace hf := (if_pos c21).symm.trans hf
    refine lv_iconst (v := (0 : Int32)) hx hb dX11_proved_16 (by decide) ?_
    cases hf
    exact J1 H lo I ls (lv_sub hl [0, 1, 2] rfl)
  · replace hf := (if_neg c21).symm.trans hf
    refine lv_iload_n hx hb dX11_proved_5 rfl (lv_at hl 1 rfl) ?_
    refine lv_sipush (v := (1000 : Int32)) hx hb dX11_proved_6 (by decide) ?_
    refine lv_icmp_gt (tgt := 16) hx hb dX11_proved_9 (by decide) (fun c20 => ?_) (fun c20 => ?_)
    · replace hf := (if_pos c20).symm.trans hf
      refine lv_iconst (v := (0 : Int32)) hx hb dX11_proved_16 (by decide) ?_
      cases hf
      exact J1 H lo I ls (lv_sub hl [0, 1, 2] rfl)
    · replace hf := (if_neg c20).symm.trans hf
      refine lv_iconst (v := (1 : Int32)) hx hb dX11_proved_12 (by decide) ?_
      refine lv_goto (tgt := 17) hx hb dX11_proved_13 (by decide) ?_
      cases hf
      exact J1 H lo I ls (lv_sub hl [0, 1, 2] rfl)
def C_LT_mixed (a0 : Int64) (a1 : Int64) : Int64 :=
(((31 : Int64) * a0) + a1)
set_option maxRecDepth 100000 in
set_option maxHeartbeats 4000000 in
theorem cC_LT_mixed (G : Nat → Nat → Int32) (E : Nat → Nat → Int64) (Dd : Nat → Nat → UInt64) (P : Nat → Option Nat) (L : List Nat) (pf : Nat → va_E) (a0 : Int64) (a1 : Int64) (rv : Int64)  (hv : rv = C_LT_mixed a0 a1) : sMl D (cT cI cJ cD cS) (cW ad cI cJ cD cS) l yX11_mixed (ws1 yX11_mixed cX11_mixed 4 (some .long)) ({ frames := 0, cells := 0, slots := 0, locals := 0 }) [.long a0, .long a1] (G, E, Dd, P, L, pf) (rv, (G, E, Dd, P, L, pf)) := by
  have hf : (some (((31 : Int64) * a0) + a1)) = some rv := by rw [hv]; rfl
  refine sMl_of (by decide) (Nat.le_of_ble_eq_true rfl) ?_
  intro p e R s m args below meth c A Q ls H lo F hRf hRl I hl ret
  obtain ⟨hx, hb, hml, hown, hG⟩ := id F
  replace hl : lv_has ls 4 [(0, .long a0), (2, .long a1)] := hl
  refine lv_ldc2 (v := (31 : Int64)) hx hb hown (hG _ q497) dX11_mixed_0 ?_
  refine lv_lload_n hx hb dX11_mixed_3 rfl (lv_at hl 0 rfl) ?_
  refine lv_lmul hx hb dX11_mixed_4 ?_
  refine lv_lload_n hx hb dX11_mixed_5 rfl (lv_at hl 1 rfl) ?_
  refine lv_ladd hx hb dX11_mixed_6 ?_
  cases hf
  exact ret H lo _ ls I dX11_mixed_7
def C_LT_hashPairs_s2 (x10 : Int32) (G5 : Nat → Nat → Int32) (x18 : Int64) (x19 : Int32) : Option ((Int64 × Int32) ⊕ (Int64)) :=
if G5 0 0 ≤ x19 then
(some (.inr x18))
else
(bd (C_LE_lead_22 G5 x10 x19) fun r27 =>
nm (C_LT_mixed x18 r27.toInt64) fun r30 =>
bd (C_TA_chanceOf G5 x10 x19) fun r34 =>
nm (C_LT_mixed r30 r34) fun r37 =>
nm (x19 + (1 : Int32) : Int32) fun x41 =>
some (.inl (r37, x41)))
def C_LT_hashPairs_s1 (G5 : Nat → Nat → Int32) (x9 : Int64) (x10 : Int32) : Option ((Int64 × Int32) ⊕ (Int64)) :=
if G5 0 0 ≤ x10 then
(some (.inr x9))
else
(nm (x10 + (1 : Int32) : Int32) fun x16 =>
bd (lp (fun q => C_LT_hashPairs_s2 x10 G5 q.1 q.2) FU (x9, x16)) fun r20 =>
nm (x10 + (1 : Int32) : Int32) fun x23 =>
some (.inl (r20, x23)))
def C_LT_hashPairs (G : Nat → Nat → Int32) (a0 : Int64) : Option (Int64 × (Nat → Nat → Int32)) :=
bd (C_LT_weigh G (-1 : Int32)) fun G2 =>
bd (C_TA_take G2) fun G5 =>
bd (lp (fun q => C_LT_hashPairs_s1 G5 q.1 q.2) FU (a0, (0 : Int32))) fun r11 =>
some (r11, G5)
set_option maxRecDepth 100000 in
set_option maxHeartbeats 4000000 in
theorem cC_LT_hashPairs (G : Nat → Nat → Int32) (E : Nat → Nat → Int64) (Dd : Nat → Nat → UInt64) (P : Nat → Option Nat) (L : List Nat) (pf : Nat → va_E) (a0 : Int64) (rv : Int64) (newG : Nat → Nat → Int32) (hf : C_LT_hashPairs G a0 = some (rv, newG)) : sMl D (cT cI cJ cD cS) (cW ad cI cJ cD cS) l yX11_hashPairs (ws1 yX11_hashPairs cX11_hashPairs 7 (some .long)) ({ frames := 5, cells := 0, slots := 0, locals := 112 }) [.ref (ad 0), .long a0] (G, E, Dd, P, L, pf) (rv, (newG, E, Dd, P, L, pf)) := by
  unfold C_LT_hashPairs at hf
  refine sMl_of (by decide) (Nat.le_of_ble_eq_true rfl) ?_
  intro p e R s m args below meth c A Q ls H lo F hRf hRl I hl ret
  obtain ⟨hx, hb, hml, hown, hG⟩ := id F
  replace hl : lv_has ls 7 [(0, .ref (ad 0)), (1, .long a0)] := hl
  refine lv_lload_n hx hb dX11_hashPairs_0 rfl (lv_at hl 1 rfl) ?_
  refine lv_lstore_n (lv' := [(3, .long a0), (0, .ref (ad 0)), (1, .long a0)]) hx hb dX11_hashPairs_1 rfl hl (by decide) rfl (fun ls_1 hl_1 => ?_)
  refine lv_aload_n hx hb dX11_hashPairs_2 rfl (lv_at hl_1 1 rfl) ?_
  refine lv_iconst (v := (-1 : Int32)) hx hb dX11_hashPairs_3 (by decide) ?_
  obtain ⟨G2, h3, hf⟩ := bd_some hf
  refine s_callVv (As := [.int (-1 : Int32)]) (rest := []) F I (cC_LT_weigh G E Dd P L pf (-1 : Int32) G2 h3) kX11_202 ⟨rfl, rfl⟩ ⟨Nat.le_trans (Nat.le_of_ble_eq_true rfl) hRf, Nat.le_trans (Nat.le_of_ble_eq_true rfl) hRl⟩ 0 11 rfl rfl rfl rfl rfl hl_1.1 (Nat.le_of_ble_eq_true rfl) ⟨Nat.zero_le _, Nat.zero_le _⟩ dX11_hashPairs_4 ?_
  intro H_4 lo_4 I_4
  refine lv_aload_n hx hb dX11_hashPairs_7 rfl (lv_at hl_1 1 rfl) ?_
  refine kgtX11_37_0 F I_4 dX11_hashPairs_8 ?_
  refine lv_aload_n hx hb dX11_hashPairs_11 rfl (lv_at hl_1 1 rfl) ?_
  refine kgtX11_16_0 F I_4 dX11_hashPairs_12 ?_
  obtain ⟨G5, h6, hf⟩ := bd_some hf
  refine s_callVv (As := [.ref (ad 2)]) (rest := []) F I_4 (cC_TA_take G2 E Dd P L pf G5 h6) kX11_211 ⟨rfl, rfl⟩ ⟨Nat.le_trans (Nat.le_of_ble_eq_true rfl) hRf, Nat.le_trans (Nat.le_of_ble_eq_true rfl) hRl⟩ 9 9 rfl rfl rfl rfl rfl hl_1.1 (Nat.le_of_ble_eq_true rfl) ⟨Nat.zero_le _, Nat.zero_le _⟩ dX11_hashPairs_15 ?_
  intro H_7 lo_7 I_7
  refine lv_iconst (v := (0 : Int32)) hx hb dX11_hashPairs_18 (by decide) ?_
  refine lv_istore (lv' := [(5, .int (0 : Int32)), (3, .long a0), (0, .ref (ad 0)), (1, .long a0)]) hx hb dX11_hashPairs_19 hl_1 (by decide) rfl (fun ls_8 hl_8 => ?_)
  obtain ⟨r11, hq1, hf⟩ := bd_some hf
  have K1 : ∀ (H : Heap) (locs : List Loc), sInv D (cT cI cJ cD cS) (cW ad cI cJ cD cS) A s H locs (G5, E, Dd, P, L, pf) → ∀ (ls : Array Slot), lv_has ls 7 [(3, .long r11)] → W p l e R s m args below meth c H locs 0 0 Q (F0 m 93 ls []) := by
    intro H_12 lo_12 I_12 ls_13 hl_13
    refine lv_lload_n hx hb dX11_hashPairs_93 rfl (lv_at hl_13 0 rfl) ?_
    cases hf
    exact ret H_12 lo_12 _ ls_13 I_12 dX11_hashPairs_94
  have L1 : ∀ (n : Nat) (x9 : Int64) (x10 : Int32), lp (fun q => C_LT_hashPairs_s1 G5 q.1 q.2) n (x9, x10) = some r11 → ∀ (H : Heap) (locs : List Loc), sInv D (cT cI cJ cD cS) (cW ad cI cJ cD cS) A s H locs (G5, E, Dd, P, L, pf) → ∀ (ls : Array Slot), lv_has ls 7 [(0, .ref (ad 0)), (3, .long x9), (5, .int x10)] → W p l e R s m args below meth c H locs 0 0 Q (F0 m 21 ls []) := by
    intro n
    induction n with
    | zero => intro x9 x10 hq; exact (lp_0 hq).elim
    | succ n ih1 =>
      intro x9 x10 hq H_14 lo_14 I_14 ls_15 hl_15
      obtain ⟨y1, hf, hK1⟩ := lp_go hq
      replace hf : C_LT_hashPairs_s1 G5 x9 x10 = some y1 := hf
      unfold C_LT_hashPairs_s1 at hf
      refine lv_iload hx hb dX11_hashPairs_21 (lv_at hl_15 2 rfl) ?_
      refine lv_aload_n hx hb dX11_hashPairs_23 rfl (lv_at hl_15 0 rfl) ?_
      refine kgtX11_89_0 F I_14 dX11_hashPairs_24 ?_
      refine lv_icmp_ge (tgt := 93) hx hb dX11_hashPairs_27 (by decide) (fun c44 => ?_) (fun c44 => ?_)
      · replace hf := (if_pos c44).symm.trans hf
        cases hf
        cases (show x9 = r11 from hK1)
        exact K1 H_14 lo_14 I_14 ls_15 (lv_sub hl_15 [1] rfl)
      · replace hf := (if_neg c44).symm.trans hf
        refine lv_iload hx hb dX11_hashPairs_30 (lv_at hl_15 2 rfl) ?_
        refine lv_iconst (v := (1 : Int32)) hx hb dX11_hashPairs_32 (by decide) ?_
        refine lv_iadd hx hb dX11_hashPairs_33 ?_
        refine lv_topi (fun x16 ex16 => ?_)
        replace hf := nm_some ex16 hf
        refine lv_istore (lv' := [(6, .int x16), (0, .ref (ad 0)), (3, .long x9), (5, .int x10)]) hx hb dX11_hashPairs_34 hl_15 (by decide) rfl (fun ls_17 hl_17 => ?_)
        obtain ⟨r20, hq2, hf⟩ := bd_some hf
        have K2 : ∀ (H : Heap) (locs : List Loc), sInv D (cT cI cJ cD cS) (cW ad cI cJ cD cS) A s H locs (G5, E, Dd, P, L, pf) → ∀ (ls : Array Slot), lv_has ls 7 [(0, .ref (ad 0)), (3, .long r20), (5, .int x10)] → W p l e R s m args below meth c H locs 0 0 Q (F0 m 87 ls []) := by
          intro H_21 lo_21 I_21 ls_22 hl_22
          obtain ⟨x23, ex23⟩ : ∃ y : Int32, y = x10 + (1 : Int32) := ⟨_, rfl⟩
          replace hf := nm_some ex23 hf
          refine lv_iinc (v := x23) (lv' := [(5, .int x23), (0, .ref (ad 0)), (3, .long r20)]) hx hb dX11_hashPairs_87 hl_22 (k := 2) rfl (by rw [ex23]; rfl) (by decide) rfl (fun ls_24 hl_24 => ?_)
          refine lv_goto (tgt := 21) hx hb dX11_hashPairs_90 (by decide) ?_
          cases hf
          exact ih1 _ _ hK1 H_21 lo_21 I_21 ls_24 (lv_sub hl_24 [1, 2, 0] rfl)
        have L2 : ∀ (n : Nat) (x18 : Int64) (x19 : Int32), lp (fun q => C_LT_hashPairs_s2 x10 G5 q.1 q.2) n (x18, x19) = some r20 → ∀ (H : Heap) (locs : List Loc), sInv D (cT cI cJ cD cS) (cW ad cI cJ cD cS) A s H locs (G5, E, Dd, P, L, pf) → ∀ (ls : Array Slot), lv_has ls 7 [(0, .ref (ad 0)), (3, .long x18), (5, .int x10), (6, .int x19)] → W p l e R s m args below meth c H locs 0 0 Q (F0 m 36 ls []) := by
          intro n
          induction n with
          | zero => intro x18 x19 hq; exact (lp_0 hq).elim
          | succ n ih2 =>
            intro x18 x19 hq H_25 lo_25 I_25 ls_26 hl_26
            obtain ⟨y2, hf, hK2⟩ := lp_go hq
            replace hf : C_LT_hashPairs_s2 x10 G5 x18 x19 = some y2 := hf
            unfold C_LT_hashPairs_s2 at hf
            refine lv_iload hx hb dX11_hashPairs_36 (lv_at hl_26 3 rfl) ?_
            refine lv_aload_n hx hb dX11_hashPairs_38 rfl (lv_at hl_26 0 rfl) ?_
            refine kgtX11_89_0 F I_25 dX11_hashPairs_39 ?_
            refine lv_icmp_ge (tgt := 87) hx hb dX11_hashPairs_42 (by decide) (fun c43 => ?_) (fun c43 => ?_)
            · replace hf := (if_pos c43).symm.trans hf
              cases hf
              cases (show x18 = r20 from hK2)
              exact K2 H_25 lo_25 I_25 ls_26 (lv_sub hl_26 [0, 1, 2] rfl)
            · replace hf := (if_neg c43).symm.trans hf
              refine lv_lload_n hx hb dX11_hashPairs_45 rfl (lv_at hl_26 1 rfl) ?_
              refine lv_aload_n hx hb dX11_hashPairs_46 rfl (lv_at hl_26 0 rfl) ?_
              refine kgtX11_54_0 F I_25 dX11_hashPairs_47 ?_
              refine kgtX11_205_16 F I_25 dX11_hashPairs_50 ?_
              refine lv_iload hx hb dX11_hashPairs_53 (lv_at hl_26 2 rfl) ?_
              refine lv_iload hx hb dX11_hashPairs_55 (lv_at hl_26 3 rfl) ?_
              obtain ⟨r27, h28, hf⟩ := bd_some hf
              refine s_callVi (As := [.int x10, .int x19]) (rest := [.long x18]) F I_25 (cC_LE_lead_22 G5 E Dd P L pf x10 x19 r27 h28) kX11_208 ⟨rfl, rfl⟩ ⟨Nat.le_trans (Nat.le_of_ble_eq_true rfl) hRf, Nat.le_trans (Nat.le_of_ble_eq_true rfl) hRl⟩ 22 3 rfl rfl rfl rfl rfl hl_26.1 (Nat.le_of_ble_eq_true rfl) ⟨Nat.zero_le _, Nat.zero_le _⟩ dX11_hashPairs_57 ?_
              intro H_29 lo_29 I_29
              refine lv_i2l hx hb dX11_hashPairs_60 rfl ?_
              obtain ⟨r30, h31⟩ : ∃ z, z = C_LT_mixed x18 r27.toInt64 := ⟨_, rfl⟩
              replace hf := nm_some h31 hf
              refine s_callSl (As := [.long x18, .long (r27.toInt64)]) (rest := []) F I_29 (cC_LT_mixed G5 E Dd P L pf x18 r27.toInt64 r30 h31) kX11_296 ⟨rfl, rfl⟩ ⟨Nat.le_trans (Nat.le_of_ble_eq_true rfl) hRf, Nat.le_trans (Nat.le_of_ble_eq_true rfl) hRl⟩ rfl rfl hl_26.1 (Nat.le_of_ble_eq_true rfl) ⟨Nat.zero_le _, Nat.zero_le _⟩ dX11_hashPairs_61 ?_
              intro H_32 lo_32 I_32
              refine lv_lstore_n (lv' := [(3, .long r30), (0, .ref (ad 0)), (5, .int x10), (6, .int x19)]) hx hb dX11_hashPairs_64 rfl hl_26 (by decide) rfl (fun ls_33 hl_33 => ?_)
              refine lv_lload_n hx hb dX11_hashPairs_65 rfl (lv_at hl_33 0 rfl) ?_
              refine lv_aload_n hx hb dX11_hashPairs_66 rfl (lv_at hl_33 1 rfl) ?_
              refine kgtX11_37_0 F I_32 dX11_hashPairs_67 ?_
              refine lv_iload hx hb dX11_hashPairs_70 (lv_at hl_33 2 rfl) ?_
              refine lv_iload hx hb dX11_hashPairs_72 (lv_at hl_33 3 rfl) ?_
              obtain ⟨r34, h35, hf⟩ := bd_some hf
              refine s_callVl (As := [.int x10, .int x19]) (rest := [.long r30]) F I_32 (cC_TA_chanceOf G5 E Dd P L pf x10 x19 r34 h35) kX11_249 ⟨rfl, rfl⟩ ⟨Nat.le_trans (Nat.le_of_ble_eq_true rfl) hRf, Nat.le_trans (Nat.le_of_ble_eq_true rfl) hRl⟩ 9 9 rfl rfl rfl rfl rfl hl_33.1 (Nat.le_of_ble_eq_true rfl) ⟨Nat.zero_le _, Nat.zero_le _⟩ dX11_hashPairs_74 ?_
              intro H_36 lo_36 I_36
              obtain ⟨r37, h38⟩ : ∃ z, z = C_LT_mixed r30 r34 := ⟨_, rfl⟩
              replace hf := nm_some h38 hf
              refine s_callSl (As := [.long r30, .long r34]) (rest := []) F I_36 (cC_LT_mixed G5 E Dd P L pf r30 r34 r37 h38) kX11_296 ⟨rfl, rfl⟩ ⟨Nat.le_trans (Nat.le_of_ble_eq_true rfl) hRf, Nat.le_trans (Nat.le_of_ble_eq_true rfl) hRl⟩ rfl rfl hl_33.1 (Nat.le_of_ble_eq_true rfl) ⟨Nat.zero_le _, Nat.zero_le _⟩ dX11_hashPairs_77 ?_
              intro H_39 lo_39 I_39
              refine lv_lstore_n (lv' := [(3, .long r37), (0, .ref (ad 0)), (5, .int x10), (6, .int x19)]) hx hb dX11_hashPairs_80 rfl hl_33 (by decide) rfl (fun ls_40 hl_40 => ?_)
              obtain ⟨x41, ex41⟩ : ∃ y : Int32, y = x19 + (1 : Int32) := ⟨_, rfl⟩
              replace hf := nm_some ex41 hf
              refine lv_iinc (v := x41) (lv' := [(6, .int x41), (3, .long r37), (0, .ref (ad 0)), (5, .int x10)]) hx hb dX11_hashPairs_81 hl_40 (k := 3) rfl (by rw [ex41]; rfl) (by decide) rfl (fun ls_42 hl_42 => ?_)
              refine lv_goto (tgt := 36) hx hb dX11_hashPairs_84 (by decide) ?_
              cases hf
              exact ih2 _ _ hK2 H_39 lo_39 I_39 ls_42 (lv_sub hl_42 [2, 1, 3, 0] rfl)
        exact L2 FU _ _ hq2 H_14 lo_14 I_14 ls_17 (lv_sub hl_17 [1, 2, 3, 0] rfl)
  exact L1 FU _ _ hq1 H_7 lo_7 I_7 ls_8 (lv_sub hl_8 [2, 1, 0] rfl)
def C_LT_requireRoom (G : Nat → Nat → Int32) (a0 : Int32) : Option (Unit) :=
if (G 5 0) + a0 ≤ (48 : Int32) then
(some ())
else
(none)
set_option maxRecDepth 100000 in
set_option maxHeartbeats 4000000 in
theorem cC_LT_requireRoom (G : Nat → Nat → Int32) (E : Nat → Nat → Int64) (Dd : Nat → Nat → UInt64) (P : Nat → Option Nat) (L : List Nat) (pf : Nat → va_E) (a0 : Int32)   (hf : C_LT_requireRoom G a0 = some ()) : sMv D (cT cI cJ cD cS) (cW ad cI cJ cD cS) l yX11_requireRoom (ws1 yX11_requireRoom cX11_requireRoom 2 none) ({ frames := 0, cells := 0, slots := 0, locals := 0 }) [.ref (ad 0), .int a0] (G, E, Dd, P, L, pf) (G, E, Dd, P, L, pf) := by
  unfold C_LT_requireRoom at hf
  refine sMv_of (by decide) (Nat.le_of_ble_eq_true rfl) ?_
  intro p e R s m args below meth c A Q ls H lo F hRf hRl I hl ret
  obtain ⟨hx, hb, hml, hown, hG⟩ := id F
  replace hl : lv_has ls 2 [(0, .ref (ad 0)), (1, .int a0)] := hl
  refine lv_aload_n hx hb dX11_requireRoom_0 rfl (lv_at hl 0 rfl) ?_
  refine kgtX11_16_0 F I dX11_requireRoom_1 ?_
  refine kgtX11_149_2 F I dX11_requireRoom_4 ?_
  refine lv_iload_n hx hb dX11_requireRoom_7 rfl (lv_at hl 1 rfl) ?_
  refine lv_iadd hx hb dX11_requireRoom_8 ?_
  refine lv_bipush (v := (48 : Int32)) hx hb dX11_requireRoom_9 (by decide) ?_
  refine lv_icmp_le (tgt := 25) hx hb dX11_requireRoom_11 (by decide) (fun c1 => ?_) (fun c1 => ?_)
  · replace hf := (if_pos c1).symm.trans hf
    cases hf
    exact ret H lo _ ls I dX11_requireRoom_25
  · replace hf := (if_neg c1).symm.trans hf
    cases hf
def C_LT_requireAnswer (a0 : Int32) : Option (Unit) :=
bd (if a0 < 0 then
(some (0 : Int32))
else
(if (2 : Int32) < a0 then
(some (0 : Int32))
else
(some (1 : Int32)))) fun x2 =>
bd0 (C_LT_requireArgument x2) <|
some ()
set_option maxRecDepth 100000 in
set_option maxHeartbeats 4000000 in
theorem cC_LT_requireAnswer (G : Nat → Nat → Int32) (E : Nat → Nat → Int64) (Dd : Nat → Nat → UInt64) (P : Nat → Option Nat) (L : List Nat) (pf : Nat → va_E) (a0 : Int32)   (hf : C_LT_requireAnswer a0 = some ()) : sMv D (cT cI cJ cD cS) (cW ad cI cJ cD cS) l yX11_requireAnswer (ws1 yX11_requireAnswer cX11_requireAnswer 1 none) ({ frames := 1, cells := 0, slots := 0, locals := 20 }) [.int a0] (G, E, Dd, P, L, pf) (G, E, Dd, P, L, pf) := by
  unfold C_LT_requireAnswer at hf
  refine sMv_of (by decide) (Nat.le_of_ble_eq_true rfl) ?_
  intro p e R s m args below meth c A Q ls H lo F hRf hRl I hl ret
  obtain ⟨hx, hb, hml, hown, hG⟩ := id F
  replace hl : lv_has ls 1 [(0, .int a0)] := hl
  refine lv_iload_n hx hb dX11_requireAnswer_0 rfl (lv_at hl 0 rfl) ?_
  obtain ⟨x2, hv7, hf⟩ := bd_some hf
  have J1 : ∀ (H : Heap) (locs : List Loc), sInv D (cT cI cJ cD cS) (cW ad cI cJ cD cS) A s H locs (G, E, Dd, P, L, pf) → ∀ (ls : Array Slot), lv_has ls 1 [] → W p l e R s m args below meth c H locs 0 0 Q (F0 m 14 ls [.int x2]) := by
    intro H_3 lo_3 I_3 ls_4 hl_4
    obtain ⟨h5, hf⟩ := bd0_some hf
    refine s_callSv (As := [.int x2]) (rest := []) F I_3 (cC_LT_requireArgument G E Dd P L pf x2 h5) kX11_76 ⟨rfl, rfl⟩ ⟨Nat.le_trans (Nat.le_of_ble_eq_true rfl) hRf, Nat.le_trans (Nat.le_of_ble_eq_true rfl) hRl⟩ rfl rfl hl_4.1 (Nat.le_of_ble_eq_true rfl) ⟨Nat.zero_le _, Nat.zero_le _⟩ dX11_requireAnswer_14 ?_
    intro H_6 lo_6 I_6
    cases hf
    exact ret H_6 lo_6 _ ls_4 I_6 dX11_requireAnswer_17
  replace hf := hv7
  refine lv_if_lt (tgt := 13) hx hb dX11_requireAnswer_1 (by decide) (fun c9 => ?_) (fun c9 => ?_)
  · replace hf := (if_pos c9).symm.trans hf
    refine lv_iconst (v := (0 : Int32)) hx hb dX11_requireAnswer_13 (by decide) ?_
    cases hf
    exact J1 H lo I ls (lv_sub hl [] rfl)
  · replace hf := (if_neg c9).symm.trans hf
    refine lv_iload_n hx hb dX11_requireAnswer_4 rfl (lv_at hl 0 rfl) ?_
    refine lv_iconst (v := (2 : Int32)) hx hb dX11_requireAnswer_5 (by decide) ?_
    refine lv_icmp_gt (tgt := 13) hx hb dX11_requireAnswer_6 (by decide) (fun c8 => ?_) (fun c8 => ?_)
    · replace hf := (if_pos c8).symm.trans hf
      refine lv_iconst (v := (0 : Int32)) hx hb dX11_requireAnswer_13 (by decide) ?_
      cases hf
      exact J1 H lo I ls (lv_sub hl [] rfl)
    · replace hf := (if_neg c8).symm.trans hf
      refine lv_iconst (v := (1 : Int32)) hx hb dX11_requireAnswer_9 (by decide) ?_
      refine lv_goto (tgt := 14) hx hb dX11_requireAnswer_10 (by decide) ?_
      cases hf
      exact J1 H lo I ls (lv_sub hl [] rfl)
def C_LT_mostRings (a0 : Int32) : Option (Int32) :=
if a0 - a0 / (2 : Int32) * (2 : Int32) = (1 : Int32) then
(some ((((a0 * a0) * a0) - a0) / (24 : Int32)))
else
(some ((((a0 * a0) * a0) - ((4 : Int32) * a0)) / (24 : Int32)))
set_option maxRecDepth 100000 in
set_option maxHeartbeats 4000000 in
theorem cC_LT_mostRings (G : Nat → Nat → Int32) (E : Nat → Nat → Int64) (Dd : Nat → Nat → UInt64) (P : Nat → Option Nat) (L : List Nat) (pf : Nat → va_E) (a0 : Int32) (rv : Int32)  (hf : C_LT_mostRings a0 = some rv) : sMi D (cT cI cJ cD cS) (cW ad cI cJ cD cS) l yX11_mostRings (ws1 yX11_mostRings cX11_mostRings 1 (some .int)) ({ frames := 0, cells := 0, slots := 0, locals := 0 }) [.int a0] (G, E, Dd, P, L, pf) (rv, (G, E, Dd, P, L, pf)) := by
  unfold C_LT_mostRings at hf
  refine sMi_of (by decide) (Nat.le_of_ble_eq_true rfl) ?_
  intro p e R s m args below meth c A Q ls H lo F hRf hRl I hl ret
  obtain ⟨hx, hb, hml, hown, hG⟩ := id F
  replace hl : lv_has ls 1 [(0, .int a0)] := hl
  refine lv_iload_n hx hb dX11_mostRings_0 rfl (lv_at hl 0 rfl) ?_
  refine lv_iconst (v := (2 : Int32)) hx hb dX11_mostRings_1 (by decide) ?_
  refine lv_irem hx hb dX11_mostRings_2 (by decide) ?_
  refine lv_iconst (v := (1 : Int32)) hx hb dX11_mostRings_3 (by decide) ?_
  refine lv_icmp_ne (tgt := 20) hx hb dX11_mostRings_4 (by decide) (fun c1 => ?_) (fun c1 => ?_)
  · replace hf := (if_neg c1).symm.trans hf
    refine lv_iload_n hx hb dX11_mostRings_20 rfl (lv_at hl 0 rfl) ?_
    refine lv_iload_n hx hb dX11_mostRings_21 rfl (lv_at hl 0 rfl) ?_
    refine lv_imul hx hb dX11_mostRings_22 ?_
    refine lv_iload_n hx hb dX11_mostRings_23 rfl (lv_at hl 0 rfl) ?_
    refine lv_imul hx hb dX11_mostRings_24 ?_
    refine lv_iconst (v := (4 : Int32)) hx hb dX11_mostRings_25 (by decide) ?_
    refine lv_iload_n hx hb dX11_mostRings_26 rfl (lv_at hl 0 rfl) ?_
    refine lv_imul hx hb dX11_mostRings_27 ?_
    refine lv_isub hx hb dX11_mostRings_28 ?_
    refine lv_bipush (v := (24 : Int32)) hx hb dX11_mostRings_29 (by decide) ?_
    refine lv_idiv hx hb dX11_mostRings_31 (by decide) ?_
    cases hf
    exact ret H lo _ ls I dX11_mostRings_32
  · replace hf := (if_pos c1).symm.trans hf
    refine lv_iload_n hx hb dX11_mostRings_7 rfl (lv_at hl 0 rfl) ?_
    refine lv_iload_n hx hb dX11_mostRings_8 rfl (lv_at hl 0 rfl) ?_
    refine lv_imul hx hb dX11_mostRings_9 ?_
    refine lv_iload_n hx hb dX11_mostRings_10 rfl (lv_at hl 0 rfl) ?_
    refine lv_imul hx hb dX11_mostRings_11 ?_
    refine lv_iload_n hx hb dX11_mostRings_12 rfl (lv_at hl 0 rfl) ?_
    refine lv_isub hx hb dX11_mostRings_13 ?_
    refine lv_bipush (v := (24 : Int32)) hx hb dX11_mostRings_14 (by decide) ?_
    refine lv_idiv hx hb dX11_mostRings_16 (by decide) ?_
    refine lv_goto (tgt := 32) hx hb dX11_mostRings_17 (by decide) ?_
    cases hf
    exact ret H lo _ ls I dX11_mostRings_32
end Meth
