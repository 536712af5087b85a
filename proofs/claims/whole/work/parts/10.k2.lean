section Meth
variable {D : va_G} {l : Launch} {ad : Nat → Nat} {cI cJ cD cS : ClassId}
def C_LE_isAhead_12 (G : Nat → Nat → Int32) (a0 : Int32) (a1 : Int32) : Option (Int32) :=
nm (C_LT_cell a0 a1) fun r1 =>
ri 64 r1 <|
if G 18 r1.toNatClampNeg ≤ 0 then
(some (0 : Int32))
else
(some (1 : Int32))
set_option maxRecDepth 100000 in
set_option maxHeartbeats 4000000 in
theorem cC_LE_isAhead_12 (G : Nat → Nat → Int32) (E : Nat → Nat → Int64) (Dd : Nat → Nat → UInt64) (P : Nat → Option PRec) (Z : List PRec) (a0 : Int32) (a1 : Int32) (rv : Int32)  (hf : C_LE_isAhead_12 G a0 a1 = some rv) : sMi D (cT cI cJ cD cS) (cW ad cI cJ cD cS) l yX3_isAhead (ws1 yX3_isAhead cX3_isAhead 3 (some .boolean)) ({ frames := 1, cells := 0, slots := 0, locals := 21 }) [.ref (ad 12), .int a0, .int a1] (G, E, Dd, P, Z) (rv, (G, E, Dd, P, Z)) := by
  unfold C_LE_isAhead_12 at hf
  refine sMz_of (by decide) (Nat.le_of_ble_eq_true rfl) ?_
  intro p e R s m args below meth c A Q ls H lo F hRf hRl I hl ret
  obtain ⟨hx, hb, hml, hown, hG⟩ := id F
  replace hl : lv_has ls 3 [(0, .ref (ad 12)), (1, .int a0), (2, .int a1)] := hl
  refine lv_aload_n hx hb dX3_isAhead_0 rfl (lv_at hl 0 rfl) ?_
  refine kgtX3_9_12 F I dX3_isAhead_1 ?_
  refine lv_iload_n hx hb dX3_isAhead_4 rfl (lv_at hl 1 rfl) ?_
  refine lv_iload_n hx hb dX3_isAhead_5 rfl (lv_at hl 2 rfl) ?_
  obtain ⟨r1, h2⟩ : ∃ z, z = C_LT_cell a0 a1 := ⟨_, rfl⟩
  replace hf := nm_some h2 hf
  refine s_callSNi (As := [.int a0, .int a1]) (rest := [.ref (ad 13)]) F I (cC_LT_cell G E Dd P Z a0 a1 r1 h2) kX3_50 ⟨rfl, rfl⟩ ⟨Nat.le_trans (Nat.le_of_ble_eq_true rfl) hRf, Nat.le_trans (Nat.le_of_ble_eq_true rfl) hRl⟩ rfl rfl hl.1 (Nat.le_of_ble_eq_true rfl) ⟨Nat.zero_le _, Nat.zero_le _⟩ dX3_isAhead_6 ?_
  intro H_3 lo_3 I_3
  obtain ⟨g4, hf⟩ := ri_some hf
  refine kal13 F I_3 g4 dX3_isAhead_9 ?_
  refine lv_if_le (tgt := 17) hx hb dX3_isAhead_10 (by decide) (fun c5 => ?_) (fun c5 => ?_)
  · replace hf := (if_pos c5).symm.trans hf
    refine lv_iconst (v := (0 : Int32)) hx hb dX3_isAhead_17 (by decide) ?_
    cases hf
    exact ret H_3 lo_3 _ ls I_3 (Or.inl rfl) dX3_isAhead_18
  · replace hf := (if_neg c5).symm.trans hf
    refine lv_iconst (v := (1 : Int32)) hx hb dX3_isAhead_13 (by decide) ?_
    refine lv_goto (tgt := 18) hx hb dX3_isAhead_14 (by decide) ?_
    cases hf
    exact ret H_3 lo_3 _ ls I_3 (Or.inr rfl) dX3_isAhead_18
def C_LT_preferring_s1 (a0 : Int32) (a1 : Int32) (x3 : Int32) (x4 : Int32) (G5 : Nat → Nat → Int32) : Option ((Int32 × Int32 × (Nat → Nat → Int32)) ⊕ (Int32 × (Nat → Nat → Int32))) :=
if G5 1 0 ≤ x4 then
(some (.inr (x3, G5)))
else
(bd (C_LE_takeListener_12 G5 x4) fun G14 =>
bd (C_LE_isAhead_12 G14 a0 a1) fun r17 =>
bd (if r17 = 0 then
(some x3)
else
(nm (x3 + (1 : Int32) : Int32) fun x28 =>
some x28)) fun x21 =>
nm (x4 + (1 : Int32) : Int32) fun x25 =>
some (.inl (x21, x25, G14)))
def C_LT_preferring (G : Nat → Nat → Int32) (a0 : Int32) (a1 : Int32) : Option (Int32 × (Nat → Nat → Int32)) :=
bd2 (lp (fun q => C_LT_preferring_s1 a0 a1 q.1 q.2.1 q.2.2) FU ((0 : Int32), (0 : Int32), G)) fun x6 G7 =>
some (x6, G7)
set_option maxRecDepth 100000 in
set_option maxHeartbeats 4000000 in
theorem cC_LT_preferring (G : Nat → Nat → Int32) (E : Nat → Nat → Int64) (Dd : Nat → Nat → UInt64) (P : Nat → Option PRec) (Z : List PRec) (a0 : Int32) (a1 : Int32) (rv : Int32) (newG : Nat → Nat → Int32) (hf : C_LT_preferring G a0 a1 = some (rv, newG)) : sMi D (cT cI cJ cD cS) (cW ad cI cJ cD cS) l yX11_preferring (ws1 yX11_preferring cX11_preferring 5 (some .int)) ({ frames := 4, cells := 0, slots := 0, locals := 88 }) [.ref (ad 0), .int a0, .int a1] (G, E, Dd, P, Z) (rv, (newG, E, Dd, P, Z)) := by
  unfold C_LT_preferring at hf
  refine sMi_of (by decide) (Nat.le_of_ble_eq_true rfl) ?_
  intro p e R s m args below meth c A Q ls H lo F hRf hRl I hl ret
  obtain ⟨hx, hb, hml, hown, hG⟩ := id F
  replace hl : lv_has ls 5 [(0, .ref (ad 0)), (1, .int a0), (2, .int a1)] := hl
  refine lv_iconst (v := (0 : Int32)) hx hb dX11_preferring_0 (by decide) ?_
  refine lv_istore_n (lv' := [(3, .int (0 : Int32)), (0, .ref (ad 0)), (1, .int a0), (2, .int a1)]) hx hb dX11_preferring_1 rfl hl (by decide) rfl (fun ls_1 hl_1 => ?_)
  refine lv_iconst (v := (0 : Int32)) hx hb dX11_preferring_2 (by decide) ?_
  refine lv_istore (lv' := [(4, .int (0 : Int32)), (3, .int (0 : Int32)), (0, .ref (ad 0)), (1, .int a0), (2, .int a1)]) hx hb dX11_preferring_3 hl_1 (by decide) rfl (fun ls_2 hl_2 => ?_)
  obtain ⟨x6, G7, hq1, hf⟩ := bd2_some hf
  have K1 : ∀ (H : Heap) (locs : List Loc), sInv D (cT cI cJ cD cS) (cW ad cI cJ cD cS) A s H locs (G7, E, Dd, P, Z) → ∀ (ls : Array Slot), lv_has ls 5 [(3, .int x6)] → W p l e R s m args below meth c H locs 0 0 Q (F0 m 48 ls []) := by
    intro H_8 lo_8 I_8 ls_9 hl_9
    refine lv_iload_n hx hb dX11_preferring_48 rfl (lv_at hl_9 0 rfl) ?_
    cases hf
    exact ret H_8 lo_8 _ ls_9 I_8 dX11_preferring_49
  have L1 : ∀ (n : Nat) (x3 : Int32) (x4 : Int32) (G5 : Nat → Nat → Int32), lp (fun q => C_LT_preferring_s1 a0 a1 q.1 q.2.1 q.2.2) n (x3, x4, G5) = some (x6, G7) → ∀ (H : Heap) (locs : List Loc), sInv D (cT cI cJ cD cS) (cW ad cI cJ cD cS) A s H locs (G5, E, Dd, P, Z) → ∀ (ls : Array Slot), lv_has ls 5 [(0, .ref (ad 0)), (1, .int a0), (2, .int a1), (3, .int x3), (4, .int x4)] → W p l e R s m args below meth c H locs 0 0 Q (F0 m 5 ls []) := by
    intro n
    induction n with
    | zero => intro x3 x4 G5 hq; exact (lp_0 hq).elim
    | succ n ih1 =>
      intro x3 x4 G5 hq H_11 lo_11 I_11 ls_12 hl_12
      obtain ⟨y1, hf, hK1⟩ := lp_go hq
      replace hf : C_LT_preferring_s1 a0 a1 x3 x4 G5 = some y1 := hf
      unfold C_LT_preferring_s1 at hf
      refine lv_iload hx hb dX11_preferring_5 (lv_at hl_12 4 rfl) ?_
      refine lv_aload_n hx hb dX11_preferring_7 rfl (lv_at hl_12 0 rfl) ?_
      refine kgtX11_80_0 F I_11 dX11_preferring_8 ?_
      refine lv_icmp_ge (tgt := 48) hx hb dX11_preferring_11 (by decide) (fun c31 => ?_) (fun c31 => ?_)
      · replace hf := (if_pos c31).symm.trans hf
        cases hf
        cases (show (x3, G5) = (x6, G7) from hK1)
        exact K1 H_11 lo_11 I_11 ls_12 (lv_sub hl_12 [3] rfl)
      · replace hf := (if_neg c31).symm.trans hf
        refine lv_aload_n hx hb dX11_preferring_14 rfl (lv_at hl_12 0 rfl) ?_
        refine kgtX11_44_0 F I_11 dX11_preferring_15 ?_
        refine lv_aload_n hx hb dX11_preferring_18 rfl (lv_at hl_12 0 rfl) ?_
        refine kgtX11_16_0 F I_11 dX11_preferring_19 ?_
        refine lv_iload hx hb dX11_preferring_22 (lv_at hl_12 4 rfl) ?_
        obtain ⟨G14, h15, hf⟩ := bd_some hf
        refine s_callVv (As := [.ref (ad 2), .int x4]) (rest := []) F I_11 (cC_LE_takeListener_12 G5 E Dd P Z x4 G14 h15) kX11_233 ⟨rfl, rfl⟩ ⟨Nat.le_trans (Nat.le_of_ble_eq_true rfl) hRf, Nat.le_trans (Nat.le_of_ble_eq_true rfl) hRl⟩ (12) 3 rfl rfl rfl rfl rfl hl_12.1 (Nat.le_of_ble_eq_true rfl) ⟨Nat.zero_le _, Nat.zero_le _⟩ dX11_preferring_24 ?_
        intro H_16 lo_16 I_16
        refine lv_aload_n hx hb dX11_preferring_27 rfl (lv_at hl_12 0 rfl) ?_
        refine kgtX11_44_0 F I_16 dX11_preferring_28 ?_
        refine lv_iload_n hx hb dX11_preferring_31 rfl (lv_at hl_12 1 rfl) ?_
        refine lv_iload_n hx hb dX11_preferring_32 rfl (lv_at hl_12 2 rfl) ?_
        obtain ⟨r17, h18, hf⟩ := bd_some hf
        refine s_callVi (As := [.int a0, .int a1]) (rest := []) F I_16 (cC_LE_isAhead_12 G14 E Dd P Z a0 a1 r17 h18) kX11_326 ⟨rfl, rfl⟩ ⟨Nat.le_trans (Nat.le_of_ble_eq_true rfl) hRf, Nat.le_trans (Nat.le_of_ble_eq_true rfl) hRl⟩ (12) 3 rfl rfl rfl rfl rfl hl_12.1 (Nat.le_of_ble_eq_true rfl) ⟨Nat.zero_le _, Nat.zero_le _⟩ dX11_preferring_33 ?_
        intro H_19 lo_19 I_19
        obtain ⟨x21, hv27, hf⟩ := bd_some hf
        have J20 : ∀ (H : Heap) (locs : List Loc), sInv D (cT cI cJ cD cS) (cW ad cI cJ cD cS) A s H locs (G14, E, Dd, P, Z) → ∀ (ls : Array Slot), lv_has ls 5 [(0, .ref (ad 0)), (1, .int a0), (2, .int a1), (3, .int x21), (4, .int x4)] → W p l e R s m args below meth c H locs 0 0 Q (F0 m 42 ls []) := by
          intro H_22 lo_22 I_22 ls_23 hl_23
          obtain ⟨x25, ex25⟩ : ∃ y : Int32, y = x4 + (1 : Int32) := ⟨_, rfl⟩
          replace hf := nm_some ex25 hf
          refine lv_iinc (v := x25) (lv' := [(4, .int x25), (0, .ref (ad 0)), (1, .int a0), (2, .int a1), (3, .int x21)]) hx hb dX11_preferring_42 hl_23 (k := 4) rfl (by rw [ex25]; rfl) (by decide) rfl (fun ls_26 hl_26 => ?_)
          refine lv_goto (tgt := 5) hx hb dX11_preferring_45 (by decide) ?_
          cases hf
          exact ih1 _ _ _ hK1 H_22 lo_22 I_22 ls_26 (lv_sub hl_26 [1, 2, 3, 4, 0] rfl)
        replace hf := hv27
        refine lv_if_eq (tgt := 42) hx hb dX11_preferring_36 (by decide) (fun c30 => ?_) (fun c30 => ?_)
        · replace hf := (if_pos c30).symm.trans hf
          cases hf
          exact J20 H_19 lo_19 I_19 ls_12 (lv_sub hl_12 [0, 1, 2, 3, 4] rfl)
        · replace hf := (if_neg c30).symm.trans hf
          obtain ⟨x28, ex28⟩ : ∃ y : Int32, y = x3 + (1 : Int32) := ⟨_, rfl⟩
          replace hf := nm_some ex28 hf
          refine lv_iinc (v := x28) (lv' := [(3, .int x28), (0, .ref (ad 0)), (1, .int a0), (2, .int a1), (4, .int x4)]) hx hb dX11_preferring_39 hl_12 (k := 3) rfl (by rw [ex28]; rfl) (by decide) rfl (fun ls_29 hl_29 => ?_)
          cases hf
          exact J20 H_19 lo_19 I_19 ls_29 (lv_sub hl_29 [1, 2, 3, 0, 4] rfl)
  exact L1 FU _ _ _ hq1 H lo I ls_2 (lv_sub hl_2 [2, 3, 4, 1, 0] rfl)
def C_LT_result (G : Nat → Nat → Int32) (a0 : Int32) (a1 : Int32) (a2 : Int32) : Option (Int32 × (Nat → Nat → Int32)) :=
bd0 (C_LT_requireIndex a0 (G 0 0)) <|
bd0 (C_LT_requireIndex a1 (G 0 0)) <|
bd (if a2 < 0 then
(some (0 : Int32))
else
(if (3 : Int32) < a2 then
(some (0 : Int32))
else
(some (1 : Int32)))) fun x6 =>
bd0 (C_LT_requireArgument x6) <|
if a2 = (3 : Int32) then
(bd2 (C_LT_preferring G a0 a1) fun r29 G30 =>
some (r29, G30))
else
(if a2 = (2 : Int32) then
(bd (C_LT_weigh G (-1 : Int32)) fun G22 =>
bd (C_LE_lead_22 G22 a0 a1) fun r25 =>
some (r25, G22))
else
(bd (C_TA_take G) fun G12 =>
if a2 = 0 then
(bd (C_TA_winsOf G12 a0 a1) fun r18 =>
some (r18, G12))
else
(bd (C_TA_tiesOf G12 a0 a1) fun r15 =>
some (r15, G12))))
set_option maxRecDepth 100000 in
set_option maxHeartbeats 4000000 in
theorem cC_LT_result (G : Nat → Nat → Int32) (E : Nat → Nat → Int64) (Dd : Nat → Nat → UInt64) (P : Nat → Option PRec) (Z : List PRec) (a0 : Int32) (a1 : Int32) (a2 : Int32) (rv : Int32) (newG : Nat → Nat → Int32) (hf : C_LT_result G a0 a1 a2 = some (rv, newG)) : sMi D (cT cI cJ cD cS) (cW ad cI cJ cD cS) l yX11_result (ws1 yX11_result cX11_result 4 (some .int)) ({ frames := 5, cells := 0, slots := 0, locals := 112 }) [.ref (ad 0), .int a0, .int a1, .int a2] (G, E, Dd, P, Z) (rv, (newG, E, Dd, P, Z)) := by
  unfold C_LT_result at hf
  refine sMi_of (by decide) (Nat.le_of_ble_eq_true rfl) ?_
  intro p e R s m args below meth c A Q ls H lo F hRf hRl I hl ret
  obtain ⟨hx, hb, hml, hown, hG⟩ := id F
  replace hl : lv_has ls 4 [(0, .ref (ad 0)), (1, .int a0), (2, .int a1), (3, .int a2)] := hl
  refine lv_iload_n hx hb dX11_result_0 rfl (lv_at hl 1 rfl) ?_
  refine lv_aload_n hx hb dX11_result_1 rfl (lv_at hl 0 rfl) ?_
  refine kgtX11_89_0 F I dX11_result_2 ?_
  obtain ⟨h1, hf⟩ := bd0_some hf
  refine s_callSv (As := [.int a0, .int (G 0 0)]) (rest := []) F I (cC_LT_requireIndex G E Dd P Z a0 (G 0 0) h1) kX11_84 ⟨rfl, rfl⟩ ⟨Nat.le_trans (Nat.le_of_ble_eq_true rfl) hRf, Nat.le_trans (Nat.le_of_ble_eq_true rfl) hRl⟩ rfl rfl hl.1 (Nat.le_of_ble_eq_true rfl) ⟨Nat.zero_le _, Nat.zero_le _⟩ dX11_result_5 ?_
  intro H_2 lo_2 I_2
  refine lv_iload_n hx hb dX11_result_8 rfl (lv_at hl 2 rfl) ?_
  refine lv_aload_n hx hb dX11_result_9 rfl (lv_at hl 0 rfl) ?_
  refine kgtX11_89_0 F I_2 dX11_result_10 ?_
  obtain ⟨h3, hf⟩ := bd0_some hf
  refine s_callSv (As := [.int a1, .int (G 0 0)]) (rest := []) F I_2 (cC_LT_requireIndex G E Dd P Z a1 (G 0 0) h3) kX11_84 ⟨rfl, rfl⟩ ⟨Nat.le_trans (Nat.le_of_ble_eq_true rfl) hRf, Nat.le_trans (Nat.le_of_ble_eq_true rfl) hRl⟩ rfl rfl hl.1 (Nat.le_of_ble_eq_true rfl) ⟨Nat.zero_le _, Nat.zero_le _⟩ dX11_result_13 ?_
  intro H_4 lo_4 I_4
  refine lv_iload_n hx hb dX11_result_16 rfl (lv_at hl 3 rfl) ?_
  obtain ⟨x6, hv34, hf⟩ := bd_some hf
  have J5 : ∀ (H : Heap) (locs : List Loc), sInv D (cT cI cJ cD cS) (cW ad cI cJ cD cS) A s H locs (G, E, Dd, P, Z) → ∀ (ls : Array Slot), lv_has ls 4 [(0, .ref (ad 0)), (1, .int a0), (2, .int a1), (3, .int a2)] → W p l e R s m args below meth c H locs 0 0 Q (F0 m 30 ls [.int x6]) := by
    intro H_7 lo_7 I_7 ls_8 hl_8
    obtain ⟨h10, hf⟩ := bd0_some hf
    refine s_callSv (As := [.int x6]) (rest := []) F I_7 (cC_LT_requireArgument G E Dd P Z x6 h10) kX11_76 ⟨rfl, rfl⟩ ⟨Nat.le_trans (Nat.le_of_ble_eq_true rfl) hRf, Nat.le_trans (Nat.le_of_ble_eq_true rfl) hRl⟩ rfl rfl hl_8.1 (Nat.le_of_ble_eq_true rfl) ⟨Nat.zero_le _, Nat.zero_le _⟩ dX11_result_30 ?_
    intro H_11 lo_11 I_11
    refine lv_iload_n hx hb dX11_result_33 rfl (lv_at hl_8 3 rfl) ?_
    refine lv_iconst (v := (3 : Int32)) hx hb dX11_result_34 (by decide) ?_
    refine lv_icmp_ne (tgt := 45) hx hb dX11_result_35 (by decide) (fun c33 => ?_) (fun c33 => ?_)
    · replace hf := (if_neg c33).symm.trans hf
      refine lv_iload_n hx hb dX11_result_45 rfl (lv_at hl_8 3 rfl) ?_
      refine lv_iconst (v := (2 : Int32)) hx hb dX11_result_46 (by decide) ?_
      refine lv_icmp_ne (tgt := 68) hx hb dX11_result_47 (by decide) (fun c28 => ?_) (fun c28 => ?_)
      · replace hf := (if_neg c28).symm.trans hf
        refine lv_aload_n hx hb dX11_result_68 rfl (lv_at hl_8 0 rfl) ?_
        refine kgtX11_37_0 F I_11 dX11_result_69 ?_
        refine lv_aload_n hx hb dX11_result_72 rfl (lv_at hl_8 0 rfl) ?_
        refine kgtX11_16_0 F I_11 dX11_result_73 ?_
        obtain ⟨G12, h13, hf⟩ := bd_some hf
        refine s_callVv (As := [.ref (ad 2)]) (rest := []) F I_11 (cC_TA_take G E Dd P Z G12 h13) kX11_211 ⟨rfl, rfl⟩ ⟨Nat.le_trans (Nat.le_of_ble_eq_true rfl) hRf, Nat.le_trans (Nat.le_of_ble_eq_true rfl) hRl⟩ (9) 9 rfl rfl rfl rfl rfl hl_8.1 (Nat.le_of_ble_eq_true rfl) ⟨Nat.zero_le _, Nat.zero_le _⟩ dX11_result_76 ?_
        intro H_14 lo_14 I_14
        refine lv_iload_n hx hb dX11_result_79 rfl (lv_at hl_8 3 rfl) ?_
        refine lv_if_ne (tgt := 95) hx hb dX11_result_80 (by decide) (fun c21 => ?_) (fun c21 => ?_)
        · replace hf := (if_neg c21).symm.trans hf
          refine lv_aload_n hx hb dX11_result_95 rfl (lv_at hl_8 0 rfl) ?_
          refine kgtX11_37_0 F I_14 dX11_result_96 ?_
          refine lv_iload_n hx hb dX11_result_99 rfl (lv_at hl_8 1 rfl) ?_
          refine lv_iload_n hx hb dX11_result_100 rfl (lv_at hl_8 2 rfl) ?_
          obtain ⟨r15, h16, hf⟩ := bd_some hf
          refine s_callVi (As := [.int a0, .int a1]) (rest := []) F I_14 (cC_TA_tiesOf G12 E Dd P Z a0 a1 r15 h16) kX11_217 ⟨rfl, rfl⟩ ⟨Nat.le_trans (Nat.le_of_ble_eq_true rfl) hRf, Nat.le_trans (Nat.le_of_ble_eq_true rfl) hRl⟩ (9) 9 rfl rfl rfl rfl rfl hl_8.1 (Nat.le_of_ble_eq_true rfl) ⟨Nat.zero_le _, Nat.zero_le _⟩ dX11_result_101 ?_
          intro H_17 lo_17 I_17
          cases hf
          exact ret H_17 lo_17 _ ls_8 I_17 dX11_result_104
        · replace hf := (if_pos c21).symm.trans hf
          refine lv_aload_n hx hb dX11_result_83 rfl (lv_at hl_8 0 rfl) ?_
          refine kgtX11_37_0 F I_14 dX11_result_84 ?_
          refine lv_iload_n hx hb dX11_result_87 rfl (lv_at hl_8 1 rfl) ?_
          refine lv_iload_n hx hb dX11_result_88 rfl (lv_at hl_8 2 rfl) ?_
          obtain ⟨r18, h19, hf⟩ := bd_some hf
          refine s_callVi (As := [.int a0, .int a1]) (rest := []) F I_14 (cC_TA_winsOf G12 E Dd P Z a0 a1 r18 h19) kX11_214 ⟨rfl, rfl⟩ ⟨Nat.le_trans (Nat.le_of_ble_eq_true rfl) hRf, Nat.le_trans (Nat.le_of_ble_eq_true rfl) hRl⟩ (9) 9 rfl rfl rfl rfl rfl hl_8.1 (Nat.le_of_ble_eq_true rfl) ⟨Nat.zero_le _, Nat.zero_le _⟩ dX11_result_89 ?_
          intro H_20 lo_20 I_20
          refine lv_goto (tgt := 104) hx hb dX11_result_92 (by decide) ?_
          cases hf
          exact ret H_20 lo_20 _ ls_8 I_20 dX11_result_104
      · replace hf := (if_pos c28).symm.trans hf
        refine lv_aload_n hx hb dX11_result_50 rfl (lv_at hl_8 0 rfl) ?_
        refine lv_iconst (v := (-1 : Int32)) hx hb dX11_result_51 (by decide) ?_
        obtain ⟨G22, h23, hf⟩ := bd_some hf
        refine s_callVv (As := [.int (-1 : Int32)]) (rest := []) F I_11 (cC_LT_weigh G E Dd P Z (-1 : Int32) G22 h23) kX11_202 ⟨rfl, rfl⟩ ⟨Nat.le_trans (Nat.le_of_ble_eq_true rfl) hRf, Nat.le_trans (Nat.le_of_ble_eq_true rfl) hRl⟩ (0) 11 rfl rfl rfl rfl rfl hl_8.1 (Nat.le_of_ble_eq_true rfl) ⟨Nat.zero_le _, Nat.zero_le _⟩ dX11_result_52 ?_
        intro H_24 lo_24 I_24
        refine lv_aload_n hx hb dX11_result_55 rfl (lv_at hl_8 0 rfl) ?_
        refine kgtX11_54_0 F I_24 dX11_result_56 ?_
        refine kgtX11_205_16 F I_24 dX11_result_59 ?_
        refine lv_iload_n hx hb dX11_result_62 rfl (lv_at hl_8 1 rfl) ?_
        refine lv_iload_n hx hb dX11_result_63 rfl (lv_at hl_8 2 rfl) ?_
        obtain ⟨r25, h26, hf⟩ := bd_some hf
        refine s_callVi (As := [.int a0, .int a1]) (rest := []) F I_24 (cC_LE_lead_22 G22 E Dd P Z a0 a1 r25 h26) kX11_208 ⟨rfl, rfl⟩ ⟨Nat.le_trans (Nat.le_of_ble_eq_true rfl) hRf, Nat.le_trans (Nat.le_of_ble_eq_true rfl) hRl⟩ (22) 3 rfl rfl rfl rfl rfl hl_8.1 (Nat.le_of_ble_eq_true rfl) ⟨Nat.zero_le _, Nat.zero_le _⟩ dX11_result_64 ?_
        intro H_27 lo_27 I_27
        cases hf
        exact ret H_27 lo_27 _ ls_8 I_27 dX11_result_67
    · replace hf := (if_pos c33).symm.trans hf
      refine lv_aload_n hx hb dX11_result_38 rfl (lv_at hl_8 0 rfl) ?_
      refine lv_iload_n hx hb dX11_result_39 rfl (lv_at hl_8 1 rfl) ?_
      refine lv_iload_n hx hb dX11_result_40 rfl (lv_at hl_8 2 rfl) ?_
      obtain ⟨r29, G30, h31, hf⟩ := bd2_some hf
      refine s_callVi (As := [.int a0, .int a1]) (rest := []) F I_11 (cC_LT_preferring G E Dd P Z a0 a1 r29 G30 h31) kX11_199 ⟨rfl, rfl⟩ ⟨Nat.le_trans (Nat.le_of_ble_eq_true rfl) hRf, Nat.le_trans (Nat.le_of_ble_eq_true rfl) hRl⟩ (0) 11 rfl rfl rfl rfl rfl hl_8.1 (Nat.le_of_ble_eq_true rfl) ⟨Nat.zero_le _, Nat.zero_le _⟩ dX11_result_41 ?_
      intro H_32 lo_32 I_32
      cases hf
      exact ret H_32 lo_32 _ ls_8 I_32 dX11_result_44
  replace hf := hv34
  refine lv_if_lt (tgt := 29) hx hb dX11_result_17 (by decide) (fun c36 => ?_) (fun c36 => ?_)
  · replace hf := (if_pos c36).symm.trans hf
    refine lv_iconst (v := (0 : Int32)) hx hb dX11_result_29 (by decide) ?_
    cases hf
    exact J5 H_4 lo_4 I_4 ls (lv_sub hl [0, 1, 2, 3] rfl)
  · replace hf := (if_neg c36).symm.trans hf
    refine lv_iload_n hx hb dX11_result_20 rfl (lv_at hl 3 rfl) ?_
    refine lv_iconst (v := (3 : Int32)) hx hb dX11_result_21 (by decide) ?_
    refine lv_icmp_gt (tgt := 29) hx hb dX11_result_22 (by decide) (fun c35 => ?_) (fun c35 => ?_)
    · replace hf := (if_pos c35).symm.trans hf
      refine lv_iconst (v := (0 : Int32)) hx hb dX11_result_29 (by decide) ?_
      cases hf
      exact J5 H_4 lo_4 I_4 ls (lv_sub hl [0, 1, 2, 3] rfl)
    · replace hf := (if_neg c35).symm.trans hf
      refine lv_iconst (v := (1 : Int32)) hx hb dX11_result_25 (by decide) ?_
      refine lv_goto (tgt := 30) hx hb dX11_result_26 (by decide) ?_
      cases hf
      exact J5 H_4 lo_4 I_4 ls (lv_sub hl [0, 1, 2, 3] rfl)
def C_LT_sample (G : Nat → Nat → Int32) (a0 : Int32) (a1 : Int32) : Option (Int32 × (Nat → Nat → Int32)) :=
bd0 (C_LT_requireIndex a0 (G 0 0)) <|
bd (if a1 < 0 then
(some (0 : Int32))
else
(if (5 : Int32) < a1 then
(some (0 : Int32))
else
(some (1 : Int32)))) fun x4 =>
bd0 (C_LT_requireArgument x4) <|
bd (C_LT_weigh G (-1 : Int32)) fun G10 =>
bd2 (C_SD_propertyOf G10 a0 a1) fun r13 G14 =>
some (r13, G14)
set_option maxRecDepth 100000 in
set_option maxHeartbeats 4000000 in
theorem cC_LT_sample (G : Nat → Nat → Int32) (E : Nat → Nat → Int64) (Dd : Nat → Nat → UInt64) (P : Nat → Option PRec) (Z : List PRec) (a0 : Int32) (a1 : Int32) (rv : Int32) (newG : Nat → Nat → Int32) (hf : C_LT_sample G a0 a1 = some (rv, newG)) : sMi D (cT cI cJ cD cS) (cW ad cI cJ cD cS) l yX11_sample (ws1 yX11_sample cX11_sample 3 (some .int)) ({ frames := 5, cells := 0, slots := 0, locals := 119 }) [.ref (ad 0), .int a0, .int a1] (G, E, Dd, P, Z) (rv, (newG, E, Dd, P, Z)) := by
  unfold C_LT_sample at hf
  refine sMi_of (by decide) (Nat.le_of_ble_eq_true rfl) ?_
  intro p e R s m args below meth c A Q ls H lo F hRf hRl I hl ret
  obtain ⟨hx, hb, hml, hown, hG⟩ := id F
  replace hl : lv_has ls 3 [(0, .ref (ad 0)), (1, .int a0), (2, .int a1)] := hl
  refine lv_iload_n hx hb dX11_sample_0 rfl (lv_at hl 1 rfl) ?_
  refine lv_aload_n hx hb dX11_sample_1 rfl (lv_at hl 0 rfl) ?_
  refine kgtX11_89_0 F I dX11_sample_2 ?_
  obtain ⟨h1, hf⟩ := bd0_some hf
  refine s_callSv (As := [.int a0, .int (G 0 0)]) (rest := []) F I (cC_LT_requireIndex G E Dd P Z a0 (G 0 0) h1) kX11_84 ⟨rfl, rfl⟩ ⟨Nat.le_trans (Nat.le_of_ble_eq_true rfl) hRf, Nat.le_trans (Nat.le_of_ble_eq_true rfl) hRl⟩ rfl rfl hl.1 (Nat.le_of_ble_eq_true rfl) ⟨Nat.zero_le _, Nat.zero_le _⟩ dX11_sample_5 ?_
  intro H_2 lo_2 I_2
  refine lv_iload_n hx hb dX11_sample_8 rfl (lv_at hl 2 rfl) ?_
  obtain ⟨x4, hv17, hf⟩ := bd_some hf
  have J3 : ∀ (H : Heap) (locs : List Loc), sInv D (cT cI cJ cD cS) (cW ad cI cJ cD cS) A s H locs (G, E, Dd, P, Z) → ∀ (ls : Array Slot), lv_has ls 3 [(0, .ref (ad 0)), (1, .int a0), (2, .int a1)] → W p l e R s m args below meth c H locs 0 0 Q (F0 m 22 ls [.int x4]) := by
    intro H_5 lo_5 I_5 ls_6 hl_6
    obtain ⟨h8, hf⟩ := bd0_some hf
    refine s_callSv (As := [.int x4]) (rest := []) F I_5 (cC_LT_requireArgument G E Dd P Z x4 h8) kX11_76 ⟨rfl, rfl⟩ ⟨Nat.le_trans (Nat.le_of_ble_eq_true rfl) hRf, Nat.le_trans (Nat.le_of_ble_eq_true rfl) hRl⟩ rfl rfl hl_6.1 (Nat.le_of_ble_eq_true rfl) ⟨Nat.zero_le _, Nat.zero_le _⟩ dX11_sample_22 ?_
    intro H_9 lo_9 I_9
    refine lv_aload_n hx hb dX11_sample_25 rfl (lv_at hl_6 0 rfl) ?_
    refine lv_iconst (v := (-1 : Int32)) hx hb dX11_sample_26 (by decide) ?_
    obtain ⟨G10, h11, hf⟩ := bd_some hf
    refine s_callVv (As := [.int (-1 : Int32)]) (rest := []) F I_9 (cC_LT_weigh G E Dd P Z (-1 : Int32) G10 h11) kX11_202 ⟨rfl, rfl⟩ ⟨Nat.le_trans (Nat.le_of_ble_eq_true rfl) hRf, Nat.le_trans (Nat.le_of_ble_eq_true rfl) hRl⟩ (0) 11 rfl rfl rfl rfl rfl hl_6.1 (Nat.le_of_ble_eq_true rfl) ⟨Nat.zero_le _, Nat.zero_le _⟩ dX11_sample_27 ?_
    intro H_12 lo_12 I_12
    refine lv_aload_n hx hb dX11_sample_30 rfl (lv_at hl_6 0 rfl) ?_
    refine kgtX11_54_0 F I_12 dX11_sample_31 ?_
    refine lv_aload_n hx hb dX11_sample_34 rfl (lv_at hl_6 0 rfl) ?_
    refine kgtX11_16_0 F I_12 dX11_sample_35 ?_
    refine lv_iload_n hx hb dX11_sample_38 rfl (lv_at hl_6 1 rfl) ?_
    refine lv_iload_n hx hb dX11_sample_39 rfl (lv_at hl_6 2 rfl) ?_
    obtain ⟨r13, G14, h15, hf⟩ := bd2_some hf
    refine s_callVi (As := [.ref (ad 2), .int a0, .int a1]) (rest := []) F I_12 (cC_SD_propertyOf G10 E Dd P Z a0 a1 r13 G14 h15) kX11_220 ⟨rfl, rfl⟩ ⟨Nat.le_trans (Nat.le_of_ble_eq_true rfl) hRf, Nat.le_trans (Nat.le_of_ble_eq_true rfl) hRl⟩ (16) 6 rfl rfl rfl rfl rfl hl_6.1 (Nat.le_of_ble_eq_true rfl) ⟨Nat.zero_le _, Nat.zero_le _⟩ dX11_sample_40 ?_
    intro H_16 lo_16 I_16
    cases hf
    exact ret H_16 lo_16 _ ls_6 I_16 dX11_sample_43
  replace hf := hv17
  refine lv_if_lt (tgt := 21) hx hb dX11_sample_9 (by decide) (fun c19 => ?_) (fun c19 => ?_)
  · replace hf := (if_pos c19).symm.trans hf
    refine lv_iconst (v := (0 : Int32)) hx hb dX11_sample_21 (by decide) ?_
    cases hf
    exact J3 H_2 lo_2 I_2 ls (lv_sub hl [0, 1, 2] rfl)
  · replace hf := (if_neg c19).symm.trans hf
    refine lv_iload_n hx hb dX11_sample_12 rfl (lv_at hl 2 rfl) ?_
    refine lv_iconst (v := (5 : Int32)) hx hb dX11_sample_13 (by decide) ?_
    refine lv_icmp_gt (tgt := 21) hx hb dX11_sample_14 (by decide) (fun c18 => ?_) (fun c18 => ?_)
    · replace hf := (if_pos c18).symm.trans hf
      refine lv_iconst (v := (0 : Int32)) hx hb dX11_sample_21 (by decide) ?_
      cases hf
      exact J3 H_2 lo_2 I_2 ls (lv_sub hl [0, 1, 2] rfl)
    · replace hf := (if_neg c18).symm.trans hf
      refine lv_iconst (v := (1 : Int32)) hx hb dX11_sample_17 (by decide) ?_
      refine lv_goto (tgt := 22) hx hb dX11_sample_18 (by decide) ?_
      cases hf
      exact J3 H_2 lo_2 I_2 ls (lv_sub hl [0, 1, 2] rfl)
def C_LT_order (G : Nat → Nat → Int32) (a0 : Int32) : Option (Int32 × (Nat → Nat → Int32)) :=
bd0 (C_LT_requireIndex a0 (G 0 0)) <|
bd (C_LT_weigh G (-1 : Int32)) fun G3 =>
bd2 (C_SD_sampleAt G3 a0) fun r6 G7 =>
some (r6, G7)
set_option maxRecDepth 100000 in
set_option maxHeartbeats 4000000 in
theorem cC_LT_order (G : Nat → Nat → Int32) (E : Nat → Nat → Int64) (Dd : Nat → Nat → UInt64) (P : Nat → Option PRec) (Z : List PRec) (a0 : Int32) (rv : Int32) (newG : Nat → Nat → Int32) (hf : C_LT_order G a0 = some (rv, newG)) : sMi D (cT cI cJ cD cS) (cW ad cI cJ cD cS) l yX11_order (ws1 yX11_order cX11_order 2 (some .int)) ({ frames := 5, cells := 0, slots := 0, locals := 115 }) [.ref (ad 0), .int a0] (G, E, Dd, P, Z) (rv, (newG, E, Dd, P, Z)) := by
  unfold C_LT_order at hf
  refine sMi_of (by decide) (Nat.le_of_ble_eq_true rfl) ?_
  intro p e R s m args below meth c A Q ls H lo F hRf hRl I hl ret
  obtain ⟨hx, hb, hml, hown, hG⟩ := id F
  replace hl : lv_has ls 2 [(0, .ref (ad 0)), (1, .int a0)] := hl
  refine lv_iload_n hx hb dX11_order_0 rfl (lv_at hl 1 rfl) ?_
  refine lv_aload_n hx hb dX11_order_1 rfl (lv_at hl 0 rfl) ?_
  refine kgtX11_89_0 F I dX11_order_2 ?_
  obtain ⟨h1, hf⟩ := bd0_some hf
  refine s_callSv (As := [.int a0, .int (G 0 0)]) (rest := []) F I (cC_LT_requireIndex G E Dd P Z a0 (G 0 0) h1) kX11_84 ⟨rfl, rfl⟩ ⟨Nat.le_trans (Nat.le_of_ble_eq_true rfl) hRf, Nat.le_trans (Nat.le_of_ble_eq_true rfl) hRl⟩ rfl rfl hl.1 (Nat.le_of_ble_eq_true rfl) ⟨Nat.zero_le _, Nat.zero_le _⟩ dX11_order_5 ?_
  intro H_2 lo_2 I_2
  refine lv_aload_n hx hb dX11_order_8 rfl (lv_at hl 0 rfl) ?_
  refine lv_iconst (v := (-1 : Int32)) hx hb dX11_order_9 (by decide) ?_
  obtain ⟨G3, h4, hf⟩ := bd_some hf
  refine s_callVv (As := [.int (-1 : Int32)]) (rest := []) F I_2 (cC_LT_weigh G E Dd P Z (-1 : Int32) G3 h4) kX11_202 ⟨rfl, rfl⟩ ⟨Nat.le_trans (Nat.le_of_ble_eq_true rfl) hRf, Nat.le_trans (Nat.le_of_ble_eq_true rfl) hRl⟩ (0) 11 rfl rfl rfl rfl rfl hl.1 (Nat.le_of_ble_eq_true rfl) ⟨Nat.zero_le _, Nat.zero_le _⟩ dX11_order_10 ?_
  intro H_5 lo_5 I_5
  refine lv_aload_n hx hb dX11_order_13 rfl (lv_at hl 0 rfl) ?_
  refine kgtX11_54_0 F I_5 dX11_order_14 ?_
  refine lv_iload_n hx hb dX11_order_17 rfl (lv_at hl 1 rfl) ?_
  obtain ⟨r6, G7, h8, hf⟩ := bd2_some hf
  refine s_callVi (As := [.int a0]) (rest := []) F I_5 (cC_SD_sampleAt G3 E Dd P Z a0 r6 G7 h8) kX11_223 ⟨rfl, rfl⟩ ⟨Nat.le_trans (Nat.le_of_ble_eq_true rfl) hRf, Nat.le_trans (Nat.le_of_ble_eq_true rfl) hRl⟩ (16) 6 rfl rfl rfl rfl rfl hl.1 (Nat.le_of_ble_eq_true rfl) ⟨Nat.zero_le _, Nat.zero_le _⟩ dX11_order_18 ?_
  intro H_9 lo_9 I_9
  cases hf
  exact ret H_9 lo_9 _ ls I_9 dX11_order_21
def C_LT_summary (G : Nat → Nat → Int32) (a0 : Int32) : Option (Int32 × (Nat → Nat → Int32)) :=
bd (if a0 < 0 then
(some (0 : Int32))
else
(if (5 : Int32) < a0 then
(some (0 : Int32))
else
(some (1 : Int32)))) fun x2 =>
bd0 (C_LT_requireArgument x2) <|
bd (C_LT_weigh G (-1 : Int32)) fun G8 =>
bd2 (C_SD_numberOf G8 a0) fun r11 G12 =>
some (r11, G12)
set_option maxRecDepth 100000 in
set_option maxHeartbeats 4000000 in
theorem cC_LT_summary (G : Nat → Nat → Int32) (E : Nat → Nat → Int64) (Dd : Nat → Nat → UInt64) (P : Nat → Option PRec) (Z : List PRec) (a0 : Int32) (rv : Int32) (newG : Nat → Nat → Int32) (hf : C_LT_summary G a0 = some (rv, newG)) : sMi D (cT cI cJ cD cS) (cW ad cI cJ cD cS) l yX11_summary (ws1 yX11_summary cX11_summary 2 (some .int)) ({ frames := 5, cells := 0, slots := 0, locals := 118 }) [.ref (ad 0), .int a0] (G, E, Dd, P, Z) (rv, (newG, E, Dd, P, Z)) := by
  unfold C_LT_summary at hf
  refine sMi_of (by decide) (Nat.le_of_ble_eq_true rfl) ?_
  intro p e R s m args below meth c A Q ls H lo F hRf hRl I hl ret
  obtain ⟨hx, hb, hml, hown, hG⟩ := id F
  replace hl : lv_has ls 2 [(0, .ref (ad 0)), (1, .int a0)] := hl
  refine lv_iload_n hx hb dX11_summary_0 rfl (lv_at hl 1 rfl) ?_
  obtain ⟨x2, hv15, hf⟩ := bd_some hf
  have J1 : ∀ (H : Heap) (locs : List Loc), sInv D (cT cI cJ cD cS) (cW ad cI cJ cD cS) A s H locs (G, E, Dd, P, Z) → ∀ (ls : Array Slot), lv_has ls 2 [(0, .ref (ad 0)), (1, .int a0)] → W p l e R s m args below meth c H locs 0 0 Q (F0 m 14 ls [.int x2]) := by
    intro H_3 lo_3 I_3 ls_4 hl_4
    obtain ⟨h6, hf⟩ := bd0_some hf
    refine s_callSv (As := [.int x2]) (rest := []) F I_3 (cC_LT_requireArgument G E Dd P Z x2 h6) kX11_76 ⟨rfl, rfl⟩ ⟨Nat.le_trans (Nat.le_of_ble_eq_true rfl) hRf, Nat.le_trans (Nat.le_of_ble_eq_true rfl) hRl⟩ rfl rfl hl_4.1 (Nat.le_of_ble_eq_true rfl) ⟨Nat.zero_le _, Nat.zero_le _⟩ dX11_summary_14 ?_
    intro H_7 lo_7 I_7
    refine lv_aload_n hx hb dX11_summary_17 rfl (lv_at hl_4 0 rfl) ?_
    refine lv_iconst (v := (-1 : Int32)) hx hb dX11_summary_18 (by decide) ?_
    obtain ⟨G8, h9, hf⟩ := bd_some hf
    refine s_callVv (As := [.int (-1 : Int32)]) (rest := []) F I_7 (cC_LT_weigh G E Dd P Z (-1 : Int32) G8 h9) kX11_202 ⟨rfl, rfl⟩ ⟨Nat.le_trans (Nat.le_of_ble_eq_true rfl) hRf, Nat.le_trans (Nat.le_of_ble_eq_true rfl) hRl⟩ (0) 11 rfl rfl rfl rfl rfl hl_4.1 (Nat.le_of_ble_eq_true rfl) ⟨Nat.zero_le _, Nat.zero_le _⟩ dX11_summary_19 ?_
    intro H_10 lo_10 I_10
    refine lv_aload_n hx hb dX11_summary_22 rfl (lv_at hl_4 0 rfl) ?_
    refine kgtX11_54_0 F I_10 dX11_summary_23 ?_
    refine lv_aload_n hx hb dX11_summary_26 rfl (lv_at hl_4 0 rfl) ?_
    refine kgtX11_16_0 F I_10 dX11_summary_27 ?_
    refine lv_iload_n hx hb dX11_summary_30 rfl (lv_at hl_4 1 rfl) ?_
    obtain ⟨r11, G12, h13, hf⟩ := bd2_some hf
    refine s_callVi (As := [.ref (ad 2), .int a0]) (rest := []) F I_10 (cC_SD_numberOf G8 E Dd P Z a0 r11 G12 h13) kX11_226 ⟨rfl, rfl⟩ ⟨Nat.le_trans (Nat.le_of_ble_eq_true rfl) hRf, Nat.le_trans (Nat.le_of_ble_eq_true rfl) hRl⟩ (16) 6 rfl rfl rfl rfl rfl hl_4.1 (Nat.le_of_ble_eq_true rfl) ⟨Nat.zero_le _, Nat.zero_le _⟩ dX11_summary_31 ?_
    intro H_14 lo_14 I_14
    cases hf
    exact ret H_14 lo_14 _ ls_4 I_14 dX11_summary_34
  replace hf := hv15
  refine lv_if_lt (tgt := 13) hx hb dX11_summary_1 (by decide) (fun c17 => ?_) (fun c17 => ?_)
  · replace hf := (if_pos c17).symm.trans hf
    refine lv_iconst (v := (0 : Int32)) hx hb dX11_summary_13 (by decide) ?_
    cases hf
    exact J1 H lo I ls (lv_sub hl [0, 1] rfl)
  · replace hf := (if_neg c17).symm.trans hf
    refine lv_iload_n hx hb dX11_summary_4 rfl (lv_at hl 1 rfl) ?_
    refine lv_iconst (v := (5 : Int32)) hx hb dX11_summary_5 (by decide) ?_
    refine lv_icmp_gt (tgt := 13) hx hb dX11_summary_6 (by decide) (fun c16 => ?_) (fun c16 => ?_)
    · replace hf := (if_pos c16).symm.trans hf
      refine lv_iconst (v := (0 : Int32)) hx hb dX11_summary_13 (by decide) ?_
      cases hf
      exact J1 H lo I ls (lv_sub hl [0, 1] rfl)
    · replace hf := (if_neg c16).symm.trans hf
      refine lv_iconst (v := (1 : Int32)) hx hb dX11_summary_9 (by decide) ?_
      refine lv_goto (tgt := 14) hx hb dX11_summary_10 (by decide) ?_
      cases hf
      exact J1 H lo I ls (lv_sub hl [0, 1] rfl)
def C_LT_without (G : Nat → Nat → Int32) (a0 : Int32) (a1 : Int32) (a2 : Int32) : Option (Int32 × (Nat → Nat → Int32)) :=
bd0 (C_LT_requireIndex a0 (G 1 0)) <|
bd0 (if a1 = (-1 : Int32) then
(some ())
else
(bd0 (C_LT_requireIndex a1 (G 0 0)) <|
some ())) <|
bd (if a2 < 0 then
(some (0 : Int32))
else
(if (5 : Int32) < a2 then
(some (0 : Int32))
else
(some (1 : Int32)))) fun x8 =>
bd0 (C_LT_requireArgument x8) <|
bd (C_LT_weigh G a0) fun G14 =>
if a1 = (-1 : Int32) then
(bd2 (C_SD_numberOf G14 a2) fun r21 G22 =>
some (r21, G22))
else
(bd2 (C_SD_propertyOf G14 a1 a2) fun r17 G18 =>
some (r17, G18))
set_option maxRecDepth 100000 in
set_option maxHeartbeats 4000000 in
theorem cC_LT_without (G : Nat → Nat → Int32) (E : Nat → Nat → Int64) (Dd : Nat → Nat → UInt64) (P : Nat → Option PRec) (Z : List PRec) (a0 : Int32) (a1 : Int32) (a2 : Int32) (rv : Int32) (newG : Nat → Nat → Int32) (hf : C_LT_without G a0 a1 a2 = some (rv, newG)) : sMi D (cT cI cJ cD cS) (cW ad cI cJ cD cS) l yX11_without (ws1 yX11_without cX11_without 4 (some .int)) ({ frames := 5, cells := 0, slots := 0, locals := 119 }) [.ref (ad 0), .int a0, .int a1, .int a2] (G, E, Dd, P, Z) (rv, (newG, E, Dd, P, Z)) := by
  unfold C_LT_without at hf
  refine sMi_of (by decide) (Nat.le_of_ble_eq_true rfl) ?_
  intro p e R s m args below meth c A Q ls H lo F hRf hRl I hl ret
  obtain ⟨hx, hb, hml, hown, hG⟩ := id F
  replace hl : lv_has ls 4 [(0, .ref (ad 0)), (1, .int a0), (2, .int a1), (3, .int a2)] := hl
  refine lv_iload_n hx hb dX11_without_0 rfl (lv_at hl 1 rfl) ?_
  refine lv_aload_n hx hb dX11_without_1 rfl (lv_at hl 0 rfl) ?_
  refine kgtX11_80_0 F I dX11_without_2 ?_
  obtain ⟨h1, hf⟩ := bd0_some hf
  refine s_callSv (As := [.int a0, .int (G 1 0)]) (rest := []) F I (cC_LT_requireIndex G E Dd P Z a0 (G 1 0) h1) kX11_84 ⟨rfl, rfl⟩ ⟨Nat.le_trans (Nat.le_of_ble_eq_true rfl) hRf, Nat.le_trans (Nat.le_of_ble_eq_true rfl) hRl⟩ rfl rfl hl.1 (Nat.le_of_ble_eq_true rfl) ⟨Nat.zero_le _, Nat.zero_le _⟩ dX11_without_5 ?_
  intro H_2 lo_2 I_2
  refine lv_iload_n hx hb dX11_without_8 rfl (lv_at hl 2 rfl) ?_
  refine lv_iconst (v := (-1 : Int32)) hx hb dX11_without_9 (by decide) ?_
  obtain ⟨hv29, hf⟩ := bd0_some hf
  have J3 : ∀ (H : Heap) (locs : List Loc), sInv D (cT cI cJ cD cS) (cW ad cI cJ cD cS) A s H locs (G, E, Dd, P, Z) → ∀ (ls : Array Slot), lv_has ls 4 [(0, .ref (ad 0)), (1, .int a0), (2, .int a1), (3, .int a2)] → W p l e R s m args below meth c H locs 0 0 Q (F0 m 21 ls []) := by
    intro H_4 lo_4 I_4 ls_5 hl_5
    refine lv_iload_n hx hb dX11_without_21 rfl (lv_at hl_5 3 rfl) ?_
    obtain ⟨x8, hv26, hf⟩ := bd_some hf
    have J7 : ∀ (H : Heap) (locs : List Loc), sInv D (cT cI cJ cD cS) (cW ad cI cJ cD cS) A s H locs (G, E, Dd, P, Z) → ∀ (ls : Array Slot), lv_has ls 4 [(0, .ref (ad 0)), (1, .int a0), (2, .int a1), (3, .int a2)] → W p l e R s m args below meth c H locs 0 0 Q (F0 m 35 ls [.int x8]) := by
      intro H_9 lo_9 I_9 ls_10 hl_10
      obtain ⟨h12, hf⟩ := bd0_some hf
      refine s_callSv (As := [.int x8]) (rest := []) F I_9 (cC_LT_requireArgument G E Dd P Z x8 h12) kX11_76 ⟨rfl, rfl⟩ ⟨Nat.le_trans (Nat.le_of_ble_eq_true rfl) hRf, Nat.le_trans (Nat.le_of_ble_eq_true rfl) hRl⟩ rfl rfl hl_10.1 (Nat.le_of_ble_eq_true rfl) ⟨Nat.zero_le _, Nat.zero_le _⟩ dX11_without_35 ?_
      intro H_13 lo_13 I_13
      refine lv_aload_n hx hb dX11_without_38 rfl (lv_at hl_10 0 rfl) ?_
      refine lv_iload_n hx hb dX11_without_39 rfl (lv_at hl_10 1 rfl) ?_
      obtain ⟨G14, h15, hf⟩ := bd_some hf
      refine s_callVv (As := [.int a0]) (rest := []) F I_13 (cC_LT_weigh G E Dd P Z a0 G14 h15) kX11_202 ⟨rfl, rfl⟩ ⟨Nat.le_trans (Nat.le_of_ble_eq_true rfl) hRf, Nat.le_trans (Nat.le_of_ble_eq_true rfl) hRl⟩ (0) 11 rfl rfl rfl rfl rfl hl_10.1 (Nat.le_of_ble_eq_true rfl) ⟨Nat.zero_le _, Nat.zero_le _⟩ dX11_without_40 ?_
      intro H_16 lo_16 I_16
      refine lv_iload_n hx hb dX11_without_43 rfl (lv_at hl_10 2 rfl) ?_
      refine lv_iconst (v := (-1 : Int32)) hx hb dX11_without_44 (by decide) ?_
      refine lv_icmp_ne (tgt := 63) hx hb dX11_without_45 (by decide) (fun c25 => ?_) (fun c25 => ?_)
      · replace hf := (if_neg c25).symm.trans hf
        refine lv_aload_n hx hb dX11_without_63 rfl (lv_at hl_10 0 rfl) ?_
        refine kgtX11_54_0 F I_16 dX11_without_64 ?_
        refine lv_aload_n hx hb dX11_without_67 rfl (lv_at hl_10 0 rfl) ?_
        refine kgtX11_16_0 F I_16 dX11_without_68 ?_
        refine lv_iload_n hx hb dX11_without_71 rfl (lv_at hl_10 2 rfl) ?_
        refine lv_iload_n hx hb dX11_without_72 rfl (lv_at hl_10 3 rfl) ?_
        obtain ⟨r17, G18, h19, hf⟩ := bd2_some hf
        refine s_callVi (As := [.ref (ad 2), .int a1, .int a2]) (rest := []) F I_16 (cC_SD_propertyOf G14 E Dd P Z a1 a2 r17 G18 h19) kX11_220 ⟨rfl, rfl⟩ ⟨Nat.le_trans (Nat.le_of_ble_eq_true rfl) hRf, Nat.le_trans (Nat.le_of_ble_eq_true rfl) hRl⟩ (16) 6 rfl rfl rfl rfl rfl hl_10.1 (Nat.le_of_ble_eq_true rfl) ⟨Nat.zero_le _, Nat.zero_le _⟩ dX11_without_73 ?_
        intro H_20 lo_20 I_20
        cases hf
        exact ret H_20 lo_20 _ ls_10 I_20 dX11_without_76
      · replace hf := (if_pos c25).symm.trans hf
        refine lv_aload_n hx hb dX11_without_48 rfl (lv_at hl_10 0 rfl) ?_
        refine kgtX11_54_0 F I_16 dX11_without_49 ?_
        refine lv_aload_n hx hb dX11_without_52 rfl (lv_at hl_10 0 rfl) ?_
        refine kgtX11_16_0 F I_16 dX11_without_53 ?_
        refine lv_iload_n hx hb dX11_without_56 rfl (lv_at hl_10 3 rfl) ?_
        obtain ⟨r21, G22, h23, hf⟩ := bd2_some hf
        refine s_callVi (As := [.ref (ad 2), .int a2]) (rest := []) F I_16 (cC_SD_numberOf G14 E Dd P Z a2 r21 G22 h23) kX11_226 ⟨rfl, rfl⟩ ⟨Nat.le_trans (Nat.le_of_ble_eq_true rfl) hRf, Nat.le_trans (Nat.le_of_ble_eq_true rfl) hRl⟩ (16) 6 rfl rfl rfl rfl rfl hl_10.1 (Nat.le_of_ble_eq_true rfl) ⟨Nat.zero_le _, Nat.zero_le _⟩ dX11_without_57 ?_
        intro H_24 lo_24 I_24
        refine lv_goto (tgt := 76) hx hb dX11_without_60 (by decide) ?_
        cases hf
        exact ret H_24 lo_24 _ ls_10 I_24 dX11_without_76
    replace hf := hv26
    refine lv_if_lt (tgt := 34) hx hb dX11_without_22 (by decide) (fun c28 => ?_) (fun c28 => ?_)
    · replace hf := (if_pos c28).symm.trans hf
      refine lv_iconst (v := (0 : Int32)) hx hb dX11_without_34 (by decide) ?_
      cases hf
      exact J7 H_4 lo_4 I_4 ls_5 (lv_sub hl_5 [0, 1, 2, 3] rfl)
    · replace hf := (if_neg c28).symm.trans hf
      refine lv_iload_n hx hb dX11_without_25 rfl (lv_at hl_5 3 rfl) ?_
      refine lv_iconst (v := (5 : Int32)) hx hb dX11_without_26 (by decide) ?_
      refine lv_icmp_gt (tgt := 34) hx hb dX11_without_27 (by decide) (fun c27 => ?_) (fun c27 => ?_)
      · replace hf := (if_pos c27).symm.trans hf
        refine lv_iconst (v := (0 : Int32)) hx hb dX11_without_34 (by decide) ?_
        cases hf
        exact J7 H_4 lo_4 I_4 ls_5 (lv_sub hl_5 [0, 1, 2, 3] rfl)
      · replace hf := (if_neg c27).symm.trans hf
        refine lv_iconst (v := (1 : Int32)) hx hb dX11_without_30 (by decide) ?_
        refine lv_goto (tgt := 35) hx hb dX11_without_31 (by decide) ?_
        cases hf
        exact J7 H_4 lo_4 I_4 ls_5 (lv_sub hl_5 [0, 1, 2, 3] rfl)
  replace hf := hv29
  refine lv_icmp_eq (tgt := 21) hx hb dX11_without_10 (by decide) (fun c32 => ?_) (fun c32 => ?_)
  · replace hf := (if_pos c32).symm.trans hf
    cases hf
    exact J3 H_2 lo_2 I_2 ls (lv_sub hl [0, 1, 2, 3] rfl)
  · replace hf := (if_neg c32).symm.trans hf
    refine lv_iload_n hx hb dX11_without_13 rfl (lv_at hl 2 rfl) ?_
    refine lv_aload_n hx hb dX11_without_14 rfl (lv_at hl 0 rfl) ?_
    refine kgtX11_89_0 F I_2 dX11_without_15 ?_
    obtain ⟨h30, hf⟩ := bd0_some hf
    refine s_callSv (As := [.int a1, .int (G 0 0)]) (rest := []) F I_2 (cC_LT_requireIndex G E Dd P Z a1 (G 0 0) h30) kX11_84 ⟨rfl, rfl⟩ ⟨Nat.le_trans (Nat.le_of_ble_eq_true rfl) hRf, Nat.le_trans (Nat.le_of_ble_eq_true rfl) hRl⟩ rfl rfl hl.1 (Nat.le_of_ble_eq_true rfl) ⟨Nat.zero_le _, Nat.zero_le _⟩ dX11_without_18 ?_
    intro H_31 lo_31 I_31
    cases hf
    exact J3 H_31 lo_31 I_31 ls (lv_sub hl [0, 1, 2, 3] rfl)
def C_LE_isRing_12 (G : Nat → Nat → Int32) (a0 : Int32) (a1 : Int32) (a2 : Int32) : Option (Int32) :=
bd (C_LE_isAhead_12 G a0 a1) fun r1 =>
if r1 = 0 then
(some (0 : Int32))
else
(bd (C_LE_isAhead_12 G a1 a2) fun r4 =>
if r4 = 0 then
(some (0 : Int32))
else
(bd (C_LE_isAhead_12 G a2 a0) fun r7 =>
if r7 = 0 then
(some (0 : Int32))
else
(some (1 : Int32))))
set_option maxRecDepth 100000 in
set_option maxHeartbeats 4000000 in
theorem cC_LE_isRing_12 (G : Nat → Nat → Int32) (E : Nat → Nat → Int64) (Dd : Nat → Nat → UInt64) (P : Nat → Option PRec) (Z : List PRec) (a0 : Int32) (a1 : Int32) (a2 : Int32) (rv : Int32)  (hf : C_LE_isRing_12 G a0 a1 a2 = some rv) : sMi D (cT cI cJ cD cS) (cW ad cI cJ cD cS) l yX3_isRing (ws1 yX3_isRing cX3_isRing 4 (some .boolean)) ({ frames := 2, cells := 0, slots := 0, locals := 43 }) [.ref (ad 12), .int a0, .int a1, .int a2] (G, E, Dd, P, Z) (rv, (G, E, Dd, P, Z)) := by
  unfold C_LE_isRing_12 at hf
  refine sMz_of (by decide) (Nat.le_of_ble_eq_true rfl) ?_
  intro p e R s m args below meth c A Q ls H lo F hRf hRl I hl ret
  obtain ⟨hx, hb, hml, hown, hG⟩ := id F
  replace hl : lv_has ls 4 [(0, .ref (ad 12)), (1, .int a0), (2, .int a1), (3, .int a2)] := hl
  refine lv_aload_n hx hb dX3_isRing_0 rfl (lv_at hl 0 rfl) ?_
  refine lv_iload_n hx hb dX3_isRing_1 rfl (lv_at hl 1 rfl) ?_
  refine lv_iload_n hx hb dX3_isRing_2 rfl (lv_at hl 2 rfl) ?_
  obtain ⟨r1, h2, hf⟩ := bd_some hf
  refine s_callVi (As := [.int a0, .int a1]) (rest := []) F I (cC_LE_isAhead_12 G E Dd P Z a0 a1 r1 h2) kX3_61 ⟨rfl, rfl⟩ ⟨Nat.le_trans (Nat.le_of_ble_eq_true rfl) hRf, Nat.le_trans (Nat.le_of_ble_eq_true rfl) hRl⟩ (12) 3 rfl rfl rfl rfl rfl hl.1 (Nat.le_of_ble_eq_true rfl) ⟨Nat.zero_le _, Nat.zero_le _⟩ dX3_isRing_3 ?_
  intro H_3 lo_3 I_3
  refine lv_if_eq (tgt := 31) hx hb dX3_isRing_6 (by decide) (fun c12 => ?_) (fun c12 => ?_)
  · replace hf := (if_pos c12).symm.trans hf
    refine lv_iconst (v := (0 : Int32)) hx hb dX3_isRing_31 (by decide) ?_
    cases hf
    exact ret H_3 lo_3 _ ls I_3 (Or.inl rfl) dX3_isRing_32
  · replace hf := (if_neg c12).symm.trans hf
    refine lv_aload_n hx hb dX3_isRing_9 rfl (lv_at hl 0 rfl) ?_
    refine lv_iload_n hx hb dX3_isRing_10 rfl (lv_at hl 2 rfl) ?_
    refine lv_iload_n hx hb dX3_isRing_11 rfl (lv_at hl 3 rfl) ?_
    obtain ⟨r4, h5, hf⟩ := bd_some hf
    refine s_callVi (As := [.int a1, .int a2]) (rest := []) F I_3 (cC_LE_isAhead_12 G E Dd P Z a1 a2 r4 h5) kX3_61 ⟨rfl, rfl⟩ ⟨Nat.le_trans (Nat.le_of_ble_eq_true rfl) hRf, Nat.le_trans (Nat.le_of_ble_eq_true rfl) hRl⟩ (12) 3 rfl rfl rfl rfl rfl hl.1 (Nat.le_of_ble_eq_true rfl) ⟨Nat.zero_le _, Nat.zero_le _⟩ dX3_isRing_12 ?_
    intro H_6 lo_6 I_6
    refine lv_if_eq (tgt := 31) hx hb dX3_isRing_15 (by decide) (fun c11 => ?_) (fun c11 => ?_)
    · replace hf := (if_pos c11).symm.trans hf
      refine lv_iconst (v := (0 : Int32)) hx hb dX3_isRing_31 (by decide) ?_
      cases hf
      exact ret H_6 lo_6 _ ls I_6 (Or.inl rfl) dX3_isRing_32
    · replace hf := (if_neg c11).symm.trans hf
      refine lv_aload_n hx hb dX3_isRing_18 rfl (lv_at hl 0 rfl) ?_
      refine lv_iload_n hx hb dX3_isRing_19 rfl (lv_at hl 3 rfl) ?_
      refine lv_iload_n hx hb dX3_isRing_20 rfl (lv_at hl 1 rfl) ?_
      obtain ⟨r7, h8, hf⟩ := bd_some hf
      refine s_callVi (As := [.int a2, .int a0]) (rest := []) F I_6 (cC_LE_isAhead_12 G E Dd P Z a2 a0 r7 h8) kX3_61 ⟨rfl, rfl⟩ ⟨Nat.le_trans (Nat.le_of_ble_eq_true rfl) hRf, Nat.le_trans (Nat.le_of_ble_eq_true rfl) hRl⟩ (12) 3 rfl rfl rfl rfl rfl hl.1 (Nat.le_of_ble_eq_true rfl) ⟨Nat.zero_le _, Nat.zero_le _⟩ dX3_isRing_21 ?_
      intro H_9 lo_9 I_9
      refine lv_if_eq (tgt := 31) hx hb dX3_isRing_24 (by decide) (fun c10 => ?_) (fun c10 => ?_)
      · replace hf := (if_pos c10).symm.trans hf
        refine lv_iconst (v := (0 : Int32)) hx hb dX3_isRing_31 (by decide) ?_
        cases hf
        exact ret H_9 lo_9 _ ls I_9 (Or.inl rfl) dX3_isRing_32
      · replace hf := (if_neg c10).symm.trans hf
        refine lv_iconst (v := (1 : Int32)) hx hb dX3_isRing_27 (by decide) ?_
        refine lv_goto (tgt := 32) hx hb dX3_isRing_28 (by decide) ?_
        cases hf
        exact ret H_9 lo_9 _ ls I_9 (Or.inr rfl) dX3_isRing_32
def C_LE_countRings_12_s3 (a0 : Int32) (x4 : Int32) (x15 : Int32) (G : Nat → Nat → Int32) (x27 : Int32) (x28 : Int32) : Option ((Int32 × Int32) ⊕ (Int32)) :=
if a0 ≤ x28 then
(some (.inr x27))
else
(bd (C_LE_isRing_12 G x4 x15 x28) fun r38 =>
bd (if r38 = 0 then
(bd (C_LE_isRing_12 G x28 x15 x4) fun r51 =>
if r51 = 0 then
(some x27)
else
(nm (x27 + (1 : Int32) : Int32) fun x54 =>
some x54))
else
(nm (x27 + (1 : Int32) : Int32) fun x49 =>
some x49)) fun x42 =>
nm (x28 + (1 : Int32) : Int32) fun x46 =>
some (.inl (x42, x46)))
def C_LE_countRings_12_s2 (a0 : Int32) (x4 : Int32) (G : Nat → Nat → Int32) (x14 : Int32) (x15 : Int32) : Option ((Int32 × Int32) ⊕ (Int32)) :=
if a0 ≤ x15 then
(some (.inr x14))
else
(nm (x15 + (1 : Int32) : Int32) fun x25 =>
bd (lp (fun q => C_LE_countRings_12_s3 a0 x4 x15 G q.1 q.2) FU (x14, x25)) fun x29 =>
nm (x15 + (1 : Int32) : Int32) fun x33 =>
some (.inl (x29, x33)))
def C_LE_countRings_12_s1 (a0 : Int32) (G : Nat → Nat → Int32) (x3 : Int32) (x4 : Int32) : Option ((Int32 × Int32) ⊕ (Int32)) :=
if a0 ≤ x4 then
(some (.inr x3))
else
(nm (x4 + (1 : Int32) : Int32) fun x12 =>
bd (lp (fun q => C_LE_countRings_12_s2 a0 x4 G q.1 q.2) FU (x3, x12)) fun x16 =>
nm (x4 + (1 : Int32) : Int32) fun x20 =>
some (.inl (x16, x20)))
def C_LE_countRings_12 (G : Nat → Nat → Int32) (a0 : Int32) : Option (Int32) :=
bd (lp (fun q => C_LE_countRings_12_s1 a0 G q.1 q.2) FU ((0 : Int32), (0 : Int32))) fun x5 =>
some x5
set_option maxRecDepth 100000 in
set_option maxHeartbeats 4000000 in
theorem cC_LE_countRings_12 (G : Nat → Nat → Int32) (E : Nat → Nat → Int64) (Dd : Nat → Nat → UInt64) (P : Nat → Option PRec) (Z : List PRec) (a0 : Int32) (rv : Int32)  (hf : C_LE_countRings_12 G a0 = some rv) : sMi D (cT cI cJ cD cS) (cW ad cI cJ cD cS) l yX3_countRings (ws1 yX3_countRings cX3_countRings 6 (some .int)) ({ frames := 3, cells := 0, slots := 0, locals := 66 }) [.ref (ad 12), .int a0] (G, E, Dd, P, Z) (rv, (G, E, Dd, P, Z)) := by
  unfold C_LE_countRings_12 at hf
  refine sMi_of (by decide) (Nat.le_of_ble_eq_true rfl) ?_
  intro p e R s m args below meth c A Q ls H lo F hRf hRl I hl ret
  obtain ⟨hx, hb, hml, hown, hG⟩ := id F
  replace hl : lv_has ls 6 [(0, .ref (ad 12)), (1, .int a0)] := hl
  refine lv_iconst (v := (0 : Int32)) hx hb dX3_countRings_0 (by decide) ?_
  refine lv_istore_n (lv' := [(2, .int (0 : Int32)), (0, .ref (ad 12)), (1, .int a0)]) hx hb dX3_countRings_1 rfl hl (by decide) rfl (fun ls_1 hl_1 => ?_)
  refine lv_iconst (v := (0 : Int32)) hx hb dX3_countRings_2 (by decide) ?_
  refine lv_istore_n (lv' := [(3, .int (0 : Int32)), (2, .int (0 : Int32)), (0, .ref (ad 12)), (1, .int a0)]) hx hb dX3_countRings_3 rfl hl_1 (by decide) rfl (fun ls_2 hl_2 => ?_)
  obtain ⟨x5, hq1, hf⟩ := bd_some hf
  have K1 : ∀ (H : Heap) (locs : List Loc), sInv D (cT cI cJ cD cS) (cW ad cI cJ cD cS) A s H locs (G, E, Dd, P, Z) → ∀ (ls : Array Slot), lv_has ls 6 [(2, .int x5)] → W p l e R s m args below meth c H locs 0 0 Q (F0 m 77 ls []) := by
    intro H_6 lo_6 I_6 ls_7 hl_7
    refine lv_iload_n hx hb dX3_countRings_77 rfl (lv_at hl_7 0 rfl) ?_
    cases hf
    exact ret H_6 lo_6 _ ls_7 I_6 dX3_countRings_78
  have L1 : ∀ (n : Nat) (x3 : Int32) (x4 : Int32), lp (fun q => C_LE_countRings_12_s1 a0 G q.1 q.2) n (x3, x4) = some x5 → ∀ (H : Heap) (locs : List Loc), sInv D (cT cI cJ cD cS) (cW ad cI cJ cD cS) A s H locs (G, E, Dd, P, Z) → ∀ (ls : Array Slot), lv_has ls 6 [(0, .ref (ad 12)), (1, .int a0), (2, .int x3), (3, .int x4)] → W p l e R s m args below meth c H locs 0 0 Q (F0 m 4 ls []) := by
    intro n
    induction n with
    | zero => intro x3 x4 hq; exact (lp_0 hq).elim
    | succ n ih1 =>
      intro x3 x4 hq H_9 lo_9 I_9 ls_10 hl_10
      obtain ⟨y1, hf, hK1⟩ := lp_go hq
      replace hf : C_LE_countRings_12_s1 a0 G x3 x4 = some y1 := hf
      unfold C_LE_countRings_12_s1 at hf
      refine lv_iload_n hx hb dX3_countRings_4 rfl (lv_at hl_10 3 rfl) ?_
      refine lv_iload_n hx hb dX3_countRings_5 rfl (lv_at hl_10 1 rfl) ?_
      refine lv_icmp_ge (tgt := 77) hx hb dX3_countRings_6 (by decide) (fun c60 => ?_) (fun c60 => ?_)
      · replace hf := (if_pos c60).symm.trans hf
        cases hf
        cases (show x3 = x5 from hK1)
        exact K1 H_9 lo_9 I_9 ls_10 (lv_sub hl_10 [2] rfl)
      · replace hf := (if_neg c60).symm.trans hf
        refine lv_iload_n hx hb dX3_countRings_9 rfl (lv_at hl_10 3 rfl) ?_
        refine lv_iconst (v := (1 : Int32)) hx hb dX3_countRings_10 (by decide) ?_
        refine lv_iadd hx hb dX3_countRings_11 ?_
        refine lv_topi (fun x12 ex12 => ?_)
        replace hf := nm_some ex12 hf
        refine lv_istore (lv' := [(4, .int x12), (0, .ref (ad 12)), (1, .int a0), (2, .int x3), (3, .int x4)]) hx hb dX3_countRings_12 hl_10 (by decide) rfl (fun ls_13 hl_13 => ?_)
        obtain ⟨x16, hq2, hf⟩ := bd_some hf
        have K2 : ∀ (H : Heap) (locs : List Loc), sInv D (cT cI cJ cD cS) (cW ad cI cJ cD cS) A s H locs (G, E, Dd, P, Z) → ∀ (ls : Array Slot), lv_has ls 6 [(0, .ref (ad 12)), (1, .int a0), (2, .int x16), (3, .int x4)] → W p l e R s m args below meth c H locs 0 0 Q (F0 m 71 ls []) := by
          intro H_17 lo_17 I_17 ls_18 hl_18
          obtain ⟨x20, ex20⟩ : ∃ y : Int32, y = x4 + (1 : Int32) := ⟨_, rfl⟩
          replace hf := nm_some ex20 hf
          refine lv_iinc (v := x20) (lv' := [(3, .int x20), (0, .ref (ad 12)), (1, .int a0), (2, .int x16)]) hx hb dX3_countRings_71 hl_18 (k := 3) rfl (by rw [ex20]; rfl) (by decide) rfl (fun ls_21 hl_21 => ?_)
          refine lv_goto (tgt := 4) hx hb dX3_countRings_74 (by decide) ?_
          cases hf
          exact ih1 _ _ hK1 H_17 lo_17 I_17 ls_21 (lv_sub hl_21 [1, 2, 3, 0] rfl)
        have L2 : ∀ (n : Nat) (x14 : Int32) (x15 : Int32), lp (fun q => C_LE_countRings_12_s2 a0 x4 G q.1 q.2) n (x14, x15) = some x16 → ∀ (H : Heap) (locs : List Loc), sInv D (cT cI cJ cD cS) (cW ad cI cJ cD cS) A s H locs (G, E, Dd, P, Z) → ∀ (ls : Array Slot), lv_has ls 6 [(0, .ref (ad 12)), (1, .int a0), (2, .int x14), (3, .int x4), (4, .int x15)] → W p l e R s m args below meth c H locs 0 0 Q (F0 m 14 ls []) := by
          intro n
          induction n with
          | zero => intro x14 x15 hq; exact (lp_0 hq).elim
          | succ n ih2 =>
            intro x14 x15 hq H_22 lo_22 I_22 ls_23 hl_23
            obtain ⟨y2, hf, hK2⟩ := lp_go hq
            replace hf : C_LE_countRings_12_s2 a0 x4 G x14 x15 = some y2 := hf
            unfold C_LE_countRings_12_s2 at hf
            refine lv_iload hx hb dX3_countRings_14 (lv_at hl_23 4 rfl) ?_
            refine lv_iload_n hx hb dX3_countRings_16 rfl (lv_at hl_23 1 rfl) ?_
            refine lv_icmp_ge (tgt := 71) hx hb dX3_countRings_17 (by decide) (fun c59 => ?_) (fun c59 => ?_)
            · replace hf := (if_pos c59).symm.trans hf
              cases hf
              cases (show x14 = x16 from hK2)
              exact K2 H_22 lo_22 I_22 ls_23 (lv_sub hl_23 [0, 1, 2, 3] rfl)
            · replace hf := (if_neg c59).symm.trans hf
              refine lv_iload hx hb dX3_countRings_20 (lv_at hl_23 4 rfl) ?_
              refine lv_iconst (v := (1 : Int32)) hx hb dX3_countRings_22 (by decide) ?_
              refine lv_iadd hx hb dX3_countRings_23 ?_
              refine lv_topi (fun x25 ex25 => ?_)
              replace hf := nm_some ex25 hf
              refine lv_istore (lv' := [(5, .int x25), (0, .ref (ad 12)), (1, .int a0), (2, .int x14), (3, .int x4), (4, .int x15)]) hx hb dX3_countRings_24 hl_23 (by decide) rfl (fun ls_26 hl_26 => ?_)
              obtain ⟨x29, hq3, hf⟩ := bd_some hf
              have K3 : ∀ (H : Heap) (locs : List Loc), sInv D (cT cI cJ cD cS) (cW ad cI cJ cD cS) A s H locs (G, E, Dd, P, Z) → ∀ (ls : Array Slot), lv_has ls 6 [(0, .ref (ad 12)), (1, .int a0), (2, .int x29), (3, .int x4), (4, .int x15)] → W p l e R s m args below meth c H locs 0 0 Q (F0 m 65 ls []) := by
                intro H_30 lo_30 I_30 ls_31 hl_31
                obtain ⟨x33, ex33⟩ : ∃ y : Int32, y = x15 + (1 : Int32) := ⟨_, rfl⟩
                replace hf := nm_some ex33 hf
                refine lv_iinc (v := x33) (lv' := [(4, .int x33), (0, .ref (ad 12)), (1, .int a0), (2, .int x29), (3, .int x4)]) hx hb dX3_countRings_65 hl_31 (k := 4) rfl (by rw [ex33]; rfl) (by decide) rfl (fun ls_34 hl_34 => ?_)
                refine lv_goto (tgt := 14) hx hb dX3_countRings_68 (by decide) ?_
                cases hf
                exact ih2 _ _ hK2 H_30 lo_30 I_30 ls_34 (lv_sub hl_34 [1, 2, 3, 4, 0] rfl)
              have L3 : ∀ (n : Nat) (x27 : Int32) (x28 : Int32), lp (fun q => C_LE_countRings_12_s3 a0 x4 x15 G q.1 q.2) n (x27, x28) = some x29 → ∀ (H : Heap) (locs : List Loc), sInv D (cT cI cJ cD cS) (cW ad cI cJ cD cS) A s H locs (G, E, Dd, P, Z) → ∀ (ls : Array Slot), lv_has ls 6 [(0, .ref (ad 12)), (1, .int a0), (2, .int x27), (3, .int x4), (4, .int x15), (5, .int x28)] → W p l e R s m args below meth c H locs 0 0 Q (F0 m 26 ls []) := by
                intro n
                induction n with
                | zero => intro x27 x28 hq; exact (lp_0 hq).elim
                | succ n ih3 =>
                  intro x27 x28 hq H_35 lo_35 I_35 ls_36 hl_36
                  obtain ⟨y3, hf, hK3⟩ := lp_go hq
                  replace hf : C_LE_countRings_12_s3 a0 x4 x15 G x27 x28 = some y3 := hf
                  unfold C_LE_countRings_12_s3 at hf
                  refine lv_iload hx hb dX3_countRings_26 (lv_at hl_36 5 rfl) ?_
                  refine lv_iload_n hx hb dX3_countRings_28 rfl (lv_at hl_36 1 rfl) ?_
                  refine lv_icmp_ge (tgt := 65) hx hb dX3_countRings_29 (by decide) (fun c58 => ?_) (fun c58 => ?_)
                  · replace hf := (if_pos c58).symm.trans hf
                    cases hf
                    cases (show x27 = x29 from hK3)
                    exact K3 H_35 lo_35 I_35 ls_36 (lv_sub hl_36 [0, 1, 2, 3, 4] rfl)
                  · replace hf := (if_neg c58).symm.trans hf
                    refine lv_aload_n hx hb dX3_countRings_32 rfl (lv_at hl_36 0 rfl) ?_
                    refine lv_iload_n hx hb dX3_countRings_33 rfl (lv_at hl_36 3 rfl) ?_
                    refine lv_iload hx hb dX3_countRings_34 (lv_at hl_36 4 rfl) ?_
                    refine lv_iload hx hb dX3_countRings_36 (lv_at hl_36 5 rfl) ?_
                    obtain ⟨r38, h39, hf⟩ := bd_some hf
                    refine s_callVi (As := [.int x4, .int x15, .int x28]) (rest := []) F I_35 (cC_LE_isRing_12 G E Dd P Z x4 x15 x28 r38 h39) kX3_57 ⟨rfl, rfl⟩ ⟨Nat.le_trans (Nat.le_of_ble_eq_true rfl) hRf, Nat.le_trans (Nat.le_of_ble_eq_true rfl) hRl⟩ (12) 3 rfl rfl rfl rfl rfl hl_36.1 (Nat.le_of_ble_eq_true rfl) ⟨Nat.zero_le _, Nat.zero_le _⟩ dX3_countRings_38 ?_
                    intro H_40 lo_40 I_40
                    obtain ⟨x42, hv48, hf⟩ := bd_some hf
                    have J41 : ∀ (H : Heap) (locs : List Loc), sInv D (cT cI cJ cD cS) (cW ad cI cJ cD cS) A s H locs (G, E, Dd, P, Z) → ∀ (ls : Array Slot), lv_has ls 6 [(0, .ref (ad 12)), (1, .int a0), (2, .int x42), (3, .int x4), (4, .int x15), (5, .int x28)] → W p l e R s m args below meth c H locs 0 0 Q (F0 m 59 ls []) := by
                      intro H_43 lo_43 I_43 ls_44 hl_44
                      obtain ⟨x46, ex46⟩ : ∃ y : Int32, y = x28 + (1 : Int32) := ⟨_, rfl⟩
                      replace hf := nm_some ex46 hf
                      refine lv_iinc (v := x46) (lv' := [(5, .int x46), (0, .ref (ad 12)), (1, .int a0), (2, .int x42), (3, .int x4), (4, .int x15)]) hx hb dX3_countRings_59 hl_44 (k := 5) rfl (by rw [ex46]; rfl) (by decide) rfl (fun ls_47 hl_47 => ?_)
                      refine lv_goto (tgt := 26) hx hb dX3_countRings_62 (by decide) ?_
                      cases hf
                      exact ih3 _ _ hK3 H_43 lo_43 I_43 ls_47 (lv_sub hl_47 [1, 2, 3, 4, 5, 0] rfl)
                    replace hf := hv48
                    refine lv_if_ne (tgt := 56) hx hb dX3_countRings_41 (by decide) (fun c57 => ?_) (fun c57 => ?_)
                    · replace hf := (if_neg c57).symm.trans hf
                      obtain ⟨x49, ex49⟩ : ∃ y : Int32, y = x27 + (1 : Int32) := ⟨_, rfl⟩
                      replace hf := nm_some ex49 hf
                      refine lv_iinc (v := x49) (lv' := [(2, .int x49), (0, .ref (ad 12)), (1, .int a0), (3, .int x4), (4, .int x15), (5, .int x28)]) hx hb dX3_countRings_56 hl_36 (k := 2) rfl (by rw [ex49]; rfl) (by decide) rfl (fun ls_50 hl_50 => ?_)
                      cases hf
                      exact J41 H_40 lo_40 I_40 ls_50 (lv_sub hl_50 [1, 2, 0, 3, 4, 5] rfl)
                    · replace hf := (if_pos c57).symm.trans hf
                      refine lv_aload_n hx hb dX3_countRings_44 rfl (lv_at hl_36 0 rfl) ?_
                      refine lv_iload hx hb dX3_countRings_45 (lv_at hl_36 5 rfl) ?_
                      refine lv_iload hx hb dX3_countRings_47 (lv_at hl_36 4 rfl) ?_
                      refine lv_iload_n hx hb dX3_countRings_49 rfl (lv_at hl_36 3 rfl) ?_
                      obtain ⟨r51, h52, hf⟩ := bd_some hf
                      refine s_callVi (As := [.int x28, .int x15, .int x4]) (rest := []) F I_40 (cC_LE_isRing_12 G E Dd P Z x28 x15 x4 r51 h52) kX3_57 ⟨rfl, rfl⟩ ⟨Nat.le_trans (Nat.le_of_ble_eq_true rfl) hRf, Nat.le_trans (Nat.le_of_ble_eq_true rfl) hRl⟩ (12) 3 rfl rfl rfl rfl rfl hl_36.1 (Nat.le_of_ble_eq_true rfl) ⟨Nat.zero_le _, Nat.zero_le _⟩ dX3_countRings_50 ?_
                      intro H_53 lo_53 I_53
                      refine lv_if_eq (tgt := 59) hx hb dX3_countRings_53 (by decide) (fun c56 => ?_) (fun c56 => ?_)
                      · replace hf := (if_pos c56).symm.trans hf
                        cases hf
                        exact J41 H_53 lo_53 I_53 ls_36 (lv_sub hl_36 [0, 1, 2, 3, 4, 5] rfl)
                      · replace hf := (if_neg c56).symm.trans hf
                        obtain ⟨x54, ex54⟩ : ∃ y : Int32, y = x27 + (1 : Int32) := ⟨_, rfl⟩
                        replace hf := nm_some ex54 hf
                        refine lv_iinc (v := x54) (lv' := [(2, .int x54), (0, .ref (ad 12)), (1, .int a0), (3, .int x4), (4, .int x15), (5, .int x28)]) hx hb dX3_countRings_56 hl_36 (k := 2) rfl (by rw [ex54]; rfl) (by decide) rfl (fun ls_55 hl_55 => ?_)
                        cases hf
                        exact J41 H_53 lo_53 I_53 ls_55 (lv_sub hl_55 [1, 2, 0, 3, 4, 5] rfl)
              exact L3 FU _ _ hq3 H_22 lo_22 I_22 ls_26 (lv_sub hl_26 [1, 2, 3, 4, 5, 0] rfl)
        exact L2 FU _ _ hq2 H_9 lo_9 I_9 ls_13 (lv_sub hl_13 [1, 2, 3, 4, 0] rfl)
  exact L1 FU _ _ hq1 H lo I ls_2 (lv_sub hl_2 [2, 3, 1, 0] rfl)
def C_LT_ringsOf (G : Nat → Nat → Int32) (a0 : Int32) : Option (Int32 × (Nat → Nat → Int32)) :=
bd (C_LE_takeListener_12 G a0) fun G1 =>
bd (C_LE_countRings_12 G1 (G1 0 0)) fun r4 =>
some (r4, G1)
set_option maxRecDepth 100000 in
set_option maxHeartbeats 4000000 in
theorem cC_LT_ringsOf (G : Nat → Nat → Int32) (E : Nat → Nat → Int64) (Dd : Nat → Nat → UInt64) (P : Nat → Option PRec) (Z : List PRec) (a0 : Int32) (rv : Int32) (newG : Nat → Nat → Int32) (hf : C_LT_ringsOf G a0 = some (rv, newG)) : sMi D (cT cI cJ cD cS) (cW ad cI cJ cD cS) l yX11_ringsOf (ws1 yX11_ringsOf cX11_ringsOf 2 (some .int)) ({ frames := 4, cells := 0, slots := 0, locals := 91 }) [.ref (ad 0), .int a0] (G, E, Dd, P, Z) (rv, (newG, E, Dd, P, Z)) := by
  unfold C_LT_ringsOf at hf
  refine sMi_of (by decide) (Nat.le_of_ble_eq_true rfl) ?_
  intro p e R s m args below meth c A Q ls H lo F hRf hRl I hl ret
  obtain ⟨hx, hb, hml, hown, hG⟩ := id F
  replace hl : lv_has ls 2 [(0, .ref (ad 0)), (1, .int a0)] := hl
  refine lv_aload_n hx hb dX11_ringsOf_0 rfl (lv_at hl 0 rfl) ?_
  refine kgtX11_44_0 F I dX11_ringsOf_1 ?_
  refine lv_aload_n hx hb dX11_ringsOf_4 rfl (lv_at hl 0 rfl) ?_
  refine kgtX11_16_0 F I dX11_ringsOf_5 ?_
  refine lv_iload_n hx hb dX11_ringsOf_8 rfl (lv_at hl 1 rfl) ?_
  obtain ⟨G1, h2, hf⟩ := bd_some hf
  refine s_callVv (As := [.ref (ad 2), .int a0]) (rest := []) F I (cC_LE_takeListener_12 G E Dd P Z a0 G1 h2) kX11_233 ⟨rfl, rfl⟩ ⟨Nat.le_trans (Nat.le_of_ble_eq_true rfl) hRf, Nat.le_trans (Nat.le_of_ble_eq_true rfl) hRl⟩ (12) 3 rfl rfl rfl rfl rfl hl.1 (Nat.le_of_ble_eq_true rfl) ⟨Nat.zero_le _, Nat.zero_le _⟩ dX11_ringsOf_9 ?_
  intro H_3 lo_3 I_3
  refine lv_aload_n hx hb dX11_ringsOf_12 rfl (lv_at hl 0 rfl) ?_
  refine kgtX11_44_0 F I_3 dX11_ringsOf_13 ?_
  refine lv_aload_n hx hb dX11_ringsOf_16 rfl (lv_at hl 0 rfl) ?_
  refine kgtX11_89_0 F I_3 dX11_ringsOf_17 ?_
  obtain ⟨r4, h5, hf⟩ := bd_some hf
  refine s_callVi (As := [.int (G1 0 0)]) (rest := []) F I_3 (cC_LE_countRings_12 G1 E Dd P Z (G1 0 0) r4 h5) kX11_246 ⟨rfl, rfl⟩ ⟨Nat.le_trans (Nat.le_of_ble_eq_true rfl) hRf, Nat.le_trans (Nat.le_of_ble_eq_true rfl) hRl⟩ (12) 3 rfl rfl rfl rfl rfl hl.1 (Nat.le_of_ble_eq_true rfl) ⟨Nat.zero_le _, Nat.zero_le _⟩ dX11_ringsOf_20 ?_
  intro H_6 lo_6 I_6
  cases hf
  exact ret H_6 lo_6 _ ls I_6 dX11_ringsOf_23
def C_LT_rings (G : Nat → Nat → Int32) (a0 : Int32) : Option (Int32 × (Nat → Nat → Int32)) :=
bd0 (C_LT_requireIndex a0 (G 1 0)) <|
bd2 (C_LT_ringsOf G a0) fun r3 G4 =>
some (r3, G4)
set_option maxRecDepth 100000 in
set_option maxHeartbeats 4000000 in
theorem cC_LT_rings (G : Nat → Nat → Int32) (E : Nat → Nat → Int64) (Dd : Nat → Nat → UInt64) (P : Nat → Option PRec) (Z : List PRec) (a0 : Int32) (rv : Int32) (newG : Nat → Nat → Int32) (hf : C_LT_rings G a0 = some (rv, newG)) : sMi D (cT cI cJ cD cS) (cW ad cI cJ cD cS) l yX11_rings (ws1 yX11_rings cX11_rings 2 (some .int)) ({ frames := 5, cells := 0, slots := 0, locals := 112 }) [.ref (ad 0), .int a0] (G, E, Dd, P, Z) (rv, (newG, E, Dd, P, Z)) := by
  unfold C_LT_rings at hf
  refine sMi_of (by decide) (Nat.le_of_ble_eq_true rfl) ?_
  intro p e R s m args below meth c A Q ls H lo F hRf hRl I hl ret
  obtain ⟨hx, hb, hml, hown, hG⟩ := id F
  replace hl : lv_has ls 2 [(0, .ref (ad 0)), (1, .int a0)] := hl
  refine lv_iload_n hx hb dX11_rings_0 rfl (lv_at hl 1 rfl) ?_
  refine lv_aload_n hx hb dX11_rings_1 rfl (lv_at hl 0 rfl) ?_
  refine kgtX11_80_0 F I dX11_rings_2 ?_
  obtain ⟨h1, hf⟩ := bd0_some hf
  refine s_callSv (As := [.int a0, .int (G 1 0)]) (rest := []) F I (cC_LT_requireIndex G E Dd P Z a0 (G 1 0) h1) kX11_84 ⟨rfl, rfl⟩ ⟨Nat.le_trans (Nat.le_of_ble_eq_true rfl) hRf, Nat.le_trans (Nat.le_of_ble_eq_true rfl) hRl⟩ rfl rfl hl.1 (Nat.le_of_ble_eq_true rfl) ⟨Nat.zero_le _, Nat.zero_le _⟩ dX11_rings_5 ?_
  intro H_2 lo_2 I_2
  refine lv_aload_n hx hb dX11_rings_8 rfl (lv_at hl 0 rfl) ?_
  refine lv_iload_n hx hb dX11_rings_9 rfl (lv_at hl 1 rfl) ?_
  obtain ⟨r3, G4, h5, hf⟩ := bd2_some hf
  refine s_callVi (As := [.int a0]) (rest := []) F I_2 (cC_LT_ringsOf G E Dd P Z a0 r3 G4 h5) kX11_230 ⟨rfl, rfl⟩ ⟨Nat.le_trans (Nat.le_of_ble_eq_true rfl) hRf, Nat.le_trans (Nat.le_of_ble_eq_true rfl) hRl⟩ (0) 11 rfl rfl rfl rfl rfl hl.1 (Nat.le_of_ble_eq_true rfl) ⟨Nat.zero_le _, Nat.zero_le _⟩ dX11_rings_10 ?_
  intro H_6 lo_6 I_6
  cases hf
  exact ret H_6 lo_6 _ ls I_6 dX11_rings_13
def C_LE_lead_12 (G : Nat → Nat → Int32) (a0 : Int32) (a1 : Int32) : Option (Int32) :=
nm (C_LT_cell a0 a1) fun r1 =>
ri 64 r1 <|
some (G 18 r1.toNatClampNeg)
set_option maxRecDepth 100000 in
set_option maxHeartbeats 4000000 in
theorem cC_LE_lead_12 (G : Nat → Nat → Int32) (E : Nat → Nat → Int64) (Dd : Nat → Nat → UInt64) (P : Nat → Option PRec) (Z : List PRec) (a0 : Int32) (a1 : Int32) (rv : Int32)  (hf : C_LE_lead_12 G a0 a1 = some rv) : sMi D (cT cI cJ cD cS) (cW ad cI cJ cD cS) l yX3_lead (ws1 yX3_lead cX3_lead 3 (some .int)) ({ frames := 1, cells := 0, slots := 0, locals := 21 }) [.ref (ad 12), .int a0, .int a1] (G, E, Dd, P, Z) (rv, (G, E, Dd, P, Z)) := by
  unfold C_LE_lead_12 at hf
  refine sMi_of (by decide) (Nat.le_of_ble_eq_true rfl) ?_
  intro p e R s m args below meth c A Q ls H lo F hRf hRl I hl ret
  obtain ⟨hx, hb, hml, hown, hG⟩ := id F
  replace hl : lv_has ls 3 [(0, .ref (ad 12)), (1, .int a0), (2, .int a1)] := hl
  refine lv_aload_n hx hb dX3_lead_0 rfl (lv_at hl 0 rfl) ?_
  refine kgtX3_9_12 F I dX3_lead_1 ?_
  refine lv_iload_n hx hb dX3_lead_4 rfl (lv_at hl 1 rfl) ?_
  refine lv_iload_n hx hb dX3_lead_5 rfl (lv_at hl 2 rfl) ?_
  obtain ⟨r1, h2⟩ : ∃ z, z = C_LT_cell a0 a1 := ⟨_, rfl⟩
  replace hf := nm_some h2 hf
  refine s_callSNi (As := [.int a0, .int a1]) (rest := [.ref (ad 13)]) F I (cC_LT_cell G E Dd P Z a0 a1 r1 h2) kX3_50 ⟨rfl, rfl⟩ ⟨Nat.le_trans (Nat.le_of_ble_eq_true rfl) hRf, Nat.le_trans (Nat.le_of_ble_eq_true rfl) hRl⟩ rfl rfl hl.1 (Nat.le_of_ble_eq_true rfl) ⟨Nat.zero_le _, Nat.zero_le _⟩ dX3_lead_6 ?_
  intro H_3 lo_3 I_3
  obtain ⟨g4, hf⟩ := ri_some hf
  refine kal13 F I_3 g4 dX3_lead_9 ?_
  cases hf
  exact ret H_3 lo_3 _ ls I_3 dX3_lead_10
def C_LE_isComplete_12_s2 (a0 : Int32) (x2 : Int32) (G : Nat → Nat → Int32) (x8 : Int32) : Option ((Int32) ⊕ ((Int32) ⊕ (Int32))) :=
if a0 ≤ x8 then
(nm (x2 + (1 : Int32) : Int32) fun x12 =>
some (.inr (.inl x12)))
else
(bd (C_LE_lead_12 G x2 x8) fun r14 =>
if r14 = 0 then
(some (.inr (.inr (0 : Int32))))
else
(nm (x8 + (1 : Int32) : Int32) fun x17 =>
some (.inl x17)))
def C_LE_isComplete_12_s1 (a0 : Int32) (G : Nat → Nat → Int32) (x2 : Int32) : Option ((Int32) ⊕ (Int32)) :=
if a0 ≤ x2 then
(some (.inr (1 : Int32)))
else
(nm (x2 + (1 : Int32) : Int32) fun x6 =>
lp (fun q => C_LE_isComplete_12_s2 a0 x2 G q) FU x6)
def C_LE_isComplete_12 (G : Nat → Nat → Int32) (a0 : Int32) : Option (Int32) :=
lp (fun q => C_LE_isComplete_12_s1 a0 G q) FU (0 : Int32)
set_option maxRecDepth 100000 in
set_option maxHeartbeats 4000000 in
theorem cC_LE_isComplete_12 (G : Nat → Nat → Int32) (E : Nat → Nat → Int64) (Dd : Nat → Nat → UInt64) (P : Nat → Option PRec) (Z : List PRec) (a0 : Int32) (rv : Int32)  (hf : C_LE_isComplete_12 G a0 = some rv) : sMi D (cT cI cJ cD cS) (cW ad cI cJ cD cS) l yX3_isComplete (ws1 yX3_isComplete cX3_isComplete 4 (some .boolean)) ({ frames := 2, cells := 0, slots := 0, locals := 43 }) [.ref (ad 12), .int a0] (G, E, Dd, P, Z) (rv, (G, E, Dd, P, Z)) := by
  unfold C_LE_isComplete_12 at hf
  refine sMz_of (by decide) (Nat.le_of_ble_eq_true rfl) ?_
  intro p e R s m args below meth c A Q ls H lo F hRf hRl I hl ret
  obtain ⟨hx, hb, hml, hown, hG⟩ := id F
  replace hl : lv_has ls 4 [(0, .ref (ad 12)), (1, .int a0)] := hl
  refine lv_iconst (v := (0 : Int32)) hx hb dX3_isComplete_0 (by decide) ?_
  refine lv_istore_n (lv' := [(2, .int (0 : Int32)), (0, .ref (ad 12)), (1, .int a0)]) hx hb dX3_isComplete_1 rfl hl (by decide) rfl (fun ls_1 hl_1 => ?_)
  have hq1 : lp (fun q => C_LE_isComplete_12_s1 a0 G q) FU (0 : Int32) = some rv := hf
  have L1 : ∀ (n : Nat) (x2 : Int32), lp (fun q => C_LE_isComplete_12_s1 a0 G q) n x2 = some rv → ∀ (H : Heap) (locs : List Loc), sInv D (cT cI cJ cD cS) (cW ad cI cJ cD cS) A s H locs (G, E, Dd, P, Z) → ∀ (ls : Array Slot), lv_has ls 4 [(0, .ref (ad 12)), (1, .int a0), (2, .int x2)] → W p l e R s m args below meth c H locs 0 0 Q (F0 m 2 ls []) := by
    intro n
    induction n with
    | zero => intro x2 hq; exact (lp_0 hq).elim
    | succ n ih1 =>
      intro x2 hq H_3 lo_3 I_3 ls_4 hl_4
      obtain ⟨y1, hf, hK1⟩ := lp_go hq
      replace hf : C_LE_isComplete_12_s1 a0 G x2 = some y1 := hf
      unfold C_LE_isComplete_12_s1 at hf
      refine lv_iload_n hx hb dX3_isComplete_2 rfl (lv_at hl_4 2 rfl) ?_
      refine lv_iload_n hx hb dX3_isComplete_3 rfl (lv_at hl_4 1 rfl) ?_
      refine lv_icmp_ge (tgt := 39) hx hb dX3_isComplete_4 (by decide) (fun c21 => ?_) (fun c21 => ?_)
      · replace hf := (if_pos c21).symm.trans hf
        refine lv_iconst (v := (1 : Int32)) hx hb dX3_isComplete_39 (by decide) ?_
        cases hf
        have hf := congrArg some (show _ = _ from hK1)
        cases hf
        exact ret H_3 lo_3 _ ls_4 I_3 (Or.inr rfl) dX3_isComplete_40
      · replace hf := (if_neg c21).symm.trans hf
        refine lv_iload_n hx hb dX3_isComplete_7 rfl (lv_at hl_4 2 rfl) ?_
        refine lv_iconst (v := (1 : Int32)) hx hb dX3_isComplete_8 (by decide) ?_
        refine lv_iadd hx hb dX3_isComplete_9 ?_
        refine lv_topi (fun x6 ex6 => ?_)
        replace hf := nm_some ex6 hf
        refine lv_istore_n (lv' := [(3, .int x6), (0, .ref (ad 12)), (1, .int a0), (2, .int x2)]) hx hb dX3_isComplete_10 rfl hl_4 (by decide) rfl (fun ls_7 hl_7 => ?_)
        have hq2 : lp (fun q => C_LE_isComplete_12_s2 a0 x2 G q) FU x6 = some y1 := hf
        have L2 : ∀ (n : Nat) (x8 : Int32), lp (fun q => C_LE_isComplete_12_s2 a0 x2 G q) n x8 = some y1 → ∀ (H : Heap) (locs : List Loc), sInv D (cT cI cJ cD cS) (cW ad cI cJ cD cS) A s H locs (G, E, Dd, P, Z) → ∀ (ls : Array Slot), lv_has ls 4 [(0, .ref (ad 12)), (1, .int a0), (2, .int x2), (3, .int x8)] → W p l e R s m args below meth c H locs 0 0 Q (F0 m 11 ls []) := by
          intro n
          induction n with
          | zero => intro x8 hq; exact (lp_0 hq).elim
          | succ n ih2 =>
            intro x8 hq H_9 lo_9 I_9 ls_10 hl_10
            obtain ⟨y2, hf, hK2⟩ := lp_go hq
            replace hf : C_LE_isComplete_12_s2 a0 x2 G x8 = some y2 := hf
            unfold C_LE_isComplete_12_s2 at hf
            refine lv_iload_n hx hb dX3_isComplete_11 rfl (lv_at hl_10 3 rfl) ?_
            refine lv_iload_n hx hb dX3_isComplete_12 rfl (lv_at hl_10 1 rfl) ?_
            refine lv_icmp_ge (tgt := 33) hx hb dX3_isComplete_13 (by decide) (fun c20 => ?_) (fun c20 => ?_)
            · replace hf := (if_pos c20).symm.trans hf
              obtain ⟨x12, ex12⟩ : ∃ y : Int32, y = x2 + (1 : Int32) := ⟨_, rfl⟩
              replace hf := nm_some ex12 hf
              refine lv_iinc (v := x12) (lv' := [(2, .int x12), (0, .ref (ad 12)), (1, .int a0), (3, .int x8)]) hx hb dX3_isComplete_33 hl_10 (k := 2) rfl (by rw [ex12]; rfl) (by decide) rfl (fun ls_13 hl_13 => ?_)
              refine lv_goto (tgt := 2) hx hb dX3_isComplete_36 (by decide) ?_
              cases hf
              have hf := congrArg some (show _ = _ from hK2)
              cases hf
              exact ih1 _ hK1 H_9 lo_9 I_9 ls_13 (lv_sub hl_13 [1, 2, 0] rfl)
            · replace hf := (if_neg c20).symm.trans hf
              refine lv_aload_n hx hb dX3_isComplete_16 rfl (lv_at hl_10 0 rfl) ?_
              refine lv_iload_n hx hb dX3_isComplete_17 rfl (lv_at hl_10 2 rfl) ?_
              refine lv_iload_n hx hb dX3_isComplete_18 rfl (lv_at hl_10 3 rfl) ?_
              obtain ⟨r14, h15, hf⟩ := bd_some hf
              refine s_callVi (As := [.int x2, .int x8]) (rest := []) F I_9 (cC_LE_lead_12 G E Dd P Z x2 x8 r14 h15) kX3_54 ⟨rfl, rfl⟩ ⟨Nat.le_trans (Nat.le_of_ble_eq_true rfl) hRf, Nat.le_trans (Nat.le_of_ble_eq_true rfl) hRl⟩ (12) 3 rfl rfl rfl rfl rfl hl_10.1 (Nat.le_of_ble_eq_true rfl) ⟨Nat.zero_le _, Nat.zero_le _⟩ dX3_isComplete_19 ?_
              intro H_16 lo_16 I_16
              refine lv_if_ne (tgt := 27) hx hb dX3_isComplete_22 (by decide) (fun c19 => ?_) (fun c19 => ?_)
              · replace hf := (if_neg c19).symm.trans hf
                obtain ⟨x17, ex17⟩ : ∃ y : Int32, y = x8 + (1 : Int32) := ⟨_, rfl⟩
                replace hf := nm_some ex17 hf
                refine lv_iinc (v := x17) (lv' := [(3, .int x17), (0, .ref (ad 12)), (1, .int a0), (2, .int x2)]) hx hb dX3_isComplete_27 hl_10 (k := 3) rfl (by rw [ex17]; rfl) (by decide) rfl (fun ls_18 hl_18 => ?_)
                refine lv_goto (tgt := 11) hx hb dX3_isComplete_30 (by decide) ?_
                cases hf
                exact ih2 _ hK2 H_16 lo_16 I_16 ls_18 (lv_sub hl_18 [1, 2, 3, 0] rfl)
              · replace hf := (if_pos c19).symm.trans hf
                refine lv_iconst (v := (0 : Int32)) hx hb dX3_isComplete_25 (by decide) ?_
                cases hf
                have hf := congrArg some (show _ = _ from hK2)
                cases hf
                have hf := congrArg some (show _ = _ from hK1)
                cases hf
                exact ret H_16 lo_16 _ ls_10 I_16 (Or.inl rfl) dX3_isComplete_26
        exact L2 FU _ hq2 H_3 lo_3 I_3 ls_7 (lv_sub hl_7 [1, 2, 3, 0] rfl)
  exact L1 FU _ hq1 H lo I ls_1 (lv_sub hl_1 [1, 2, 0] rfl)
def C_LT_mostRings (a0 : Int32) : Option (Int32) :=
if a0 - a0 / (2 : Int32) * (2 : Int32) = (1 : Int32) then
(some ((((a0 * a0) * a0) - a0) / (24 : Int32)))
else
(some ((((a0 * a0) * a0) - ((4 : Int32) * a0)) / (24 : Int32)))
set_option maxRecDepth 100000 in
set_option maxHeartbeats 4000000 in
theorem cC_LT_mostRings (G : Nat → Nat → Int32) (E : Nat → Nat → Int64) (Dd : Nat → Nat → UInt64) (P : Nat → Option PRec) (Z : List PRec) (a0 : Int32) (rv : Int32)  (hf : C_LT_mostRings a0 = some rv) : sMi D (cT cI cJ cD cS) (cW ad cI cJ cD cS) l yX11_mostRings (ws1 yX11_mostRings cX11_mostRings 1 (some .int)) ({ frames := 0, cells := 0, slots := 0, locals := 0 }) [.int a0] (G, E, Dd, P, Z) (rv, (G, E, Dd, P, Z)) := by
  unfold C_LT_mostRings at hf
  refine sMi_of (by decide) (Nat.le_of_ble_eq_true rfl) ?_
  intro p e R s m args below meth c A Q ls H lo F hRf hRl I hl ret
  obtain ⟨hx, hb, hml, hown, hG⟩ := id F
  replace hl : lv_has ls 1 [(0, .int a0)] := hl
  refine lv_iload_n hx hb dX11_mostRings_0 rfl (lv_at hl 0 rfl) ?_
  refine lv_iconst (v := (2 : Int32)) hx hb dX11_mostRings_1 (by decide) ?_
  refine lv_irem hx hb dX11_mostRings_2 (by decide) ?_
  refine lv_iconst (v := (1 : Int32)) hx hb dX11_mostRings_3 (by decide) ?_
  refine lv_icmp_ne (tgt := 20) hx hb dX11_mostRings_4 (by decide) (fun c1 => ?_) (fun c1 => ?_)
  · replace hf := (if_neg c1).symm.trans hf
    refine lv_iload_n hx hb dX11_mostRings_20 rfl (lv_at hl 0 rfl) ?_
    refine lv_iload_n hx hb dX11_mostRings_21 rfl (lv_at hl 0 rfl) ?_
    refine lv_imul hx hb dX11_mostRings_22 ?_
    refine lv_iload_n hx hb dX11_mostRings_23 rfl (lv_at hl 0 rfl) ?_
    refine lv_imul hx hb dX11_mostRings_24 ?_
    refine lv_iconst (v := (4 : Int32)) hx hb dX11_mostRings_25 (by decide) ?_
    refine lv_iload_n hx hb dX11_mostRings_26 rfl (lv_at hl 0 rfl) ?_
    refine lv_imul hx hb dX11_mostRings_27 ?_
    refine lv_isub hx hb dX11_mostRings_28 ?_
    refine lv_bipush (v := (24 : Int32)) hx hb dX11_mostRings_29 (by decide) ?_
    refine lv_idiv hx hb dX11_mostRings_31 (by decide) ?_
    cases hf
    exact ret H lo _ ls I dX11_mostRings_32
  · replace hf := (if_pos c1).symm.trans hf
    refine lv_iload_n hx hb dX11_mostRings_7 rfl (lv_at hl 0 rfl) ?_
    refine lv_iload_n hx hb dX11_mostRings_8 rfl (lv_at hl 0 rfl) ?_
    refine lv_imul hx hb dX11_mostRings_9 ?_
    refine lv_iload_n hx hb dX11_mostRings_10 rfl (lv_at hl 0 rfl) ?_
    refine lv_imul hx hb dX11_mostRings_11 ?_
    refine lv_iload_n hx hb dX11_mostRings_12 rfl (lv_at hl 0 rfl) ?_
    refine lv_isub hx hb dX11_mostRings_13 ?_
    refine lv_bipush (v := (24 : Int32)) hx hb dX11_mostRings_14 (by decide) ?_
    refine lv_idiv hx hb dX11_mostRings_16 (by decide) ?_
    refine lv_goto (tgt := 32) hx hb dX11_mostRings_17 (by decide) ?_
    cases hf
    exact ret H lo _ ls I dX11_mostRings_32
def C_LT_consistency (G : Nat → Nat → Int32) (a0 : Int32) : Option (UInt64 × (Nat → Nat → Int32)) :=
bd0 (C_LT_requireIndex a0 (G 1 0)) <|
bd (C_LE_takeListener_12 G a0) fun G3 =>
bd (C_LE_isComplete_12 G3 (G3 0 0)) fun r6 =>
if r6 = 0 then
(none)
else
(bd (C_LT_mostRings (G3 0 0)) fun r9 =>
if r9 = 0 then
(some (FP.dconst1, G3))
else
(bd (C_LE_countRings_12 G3 (G3 0 0)) fun r13 =>
some ((FP.dsub FP.dconst1 (FP.ddiv (FP.i2d r13) (FP.i2d r9))), G3)))
set_option maxRecDepth 100000 in
set_option maxHeartbeats 4000000 in
theorem cC_LT_consistency (G : Nat → Nat → Int32) (E : Nat → Nat → Int64) (Dd : Nat → Nat → UInt64) (P : Nat → Option PRec) (Z : List PRec) (a0 : Int32) (rv : UInt64) (newG : Nat → Nat → Int32) (hf : C_LT_consistency G a0 = some (rv, newG)) : sDd D (cT cI cJ cD cS) (cW ad cI cJ cD cS) cSm l yX11_consistency (ws1 yX11_consistency cX11_consistency 3 (some .double)) ({ frames := 4, cells := 0, slots := 0, locals := 91 }) [.ref (ad 0), .int a0] (G, E, Dd, P, Z) (rv, (newG, E, Dd, P, Z)) := by
  unfold C_LT_consistency at hf
  refine sDd_of (by decide) (Nat.le_of_ble_eq_true rfl) ?_
  intro p e R s m args below meth c A Q ls H lo dr sgm F hRf hRl hd hsm I hl ret
  obtain ⟨_, _, Dm, _⟩ := sgm
  obtain ⟨rfl, rfl, ha, rfl⟩ := cSm_dest hsm
  obtain ⟨hx, hb, hml, hown, hG⟩ := id F
  replace hl : lv_has ls 3 [(0, .ref (ad 0)), (1, .int a0)] := hl
  refine lv_iload_n hx hb dX11_consistency_0 rfl (lv_at hl 1 rfl) ?_
  refine lv_aload_n hx hb dX11_consistency_1 rfl (lv_at hl 0 rfl) ?_
  refine kgtX11_80_0 (Fdr F) (Idr I) dX11_consistency_2 ?_
  obtain ⟨h1, hf⟩ := bd0_some hf
  refine s_callSv (As := [.int a0, .int (G 1 0)]) (rest := []) (Fdr F) (Idr I) (cC_LT_requireIndex G E Dm P Z a0 (G 1 0) h1) kX11_84 ⟨rfl, rfl⟩ ⟨Nat.le_trans (Nat.le_of_ble_eq_true rfl) hRf, Nat.le_trans (Nat.le_of_ble_eq_true rfl) hRl⟩ rfl rfl hl.1 (Nat.le_of_ble_eq_true rfl) ⟨Nat.zero_le _, Nat.zero_le _⟩ dX11_consistency_5 ?_
  intro H_2 lo_2 I_2
  replace I_2 := Irr I_2
  refine lv_aload_n hx hb dX11_consistency_8 rfl (lv_at hl 0 rfl) ?_
  refine kgtX11_44_0 (Fdr F) (Idr I_2) dX11_consistency_9 ?_
  refine lv_aload_n hx hb dX11_consistency_12 rfl (lv_at hl 0 rfl) ?_
  refine kgtX11_16_0 (Fdr F) (Idr I_2) dX11_consistency_13 ?_
  refine lv_iload_n hx hb dX11_consistency_16 rfl (lv_at hl 1 rfl) ?_
  obtain ⟨G3, h4, hf⟩ := bd_some hf
  refine s_callVv (As := [.ref (ad 2), .int a0]) (rest := []) (Fdr F) (Idr I_2) (cC_LE_takeListener_12 G E Dm P Z a0 G3 h4) kX11_233 ⟨rfl, rfl⟩ ⟨Nat.le_trans (Nat.le_of_ble_eq_true rfl) hRf, Nat.le_trans (Nat.le_of_ble_eq_true rfl) hRl⟩ (12) 3 rfl rfl rfl rfl rfl hl.1 (Nat.le_of_ble_eq_true rfl) ⟨Nat.zero_le _, Nat.zero_le _⟩ dX11_consistency_17 ?_
  intro H_5 lo_5 I_5
  replace I_5 := Irr I_5
  refine lv_aload_n hx hb dX11_consistency_20 rfl (lv_at hl 0 rfl) ?_
  refine kgtX11_44_0 (Fdr F) (Idr I_5) dX11_consistency_21 ?_
  refine lv_aload_n hx hb dX11_consistency_24 rfl (lv_at hl 0 rfl) ?_
  refine kgtX11_89_0 (Fdr F) (Idr I_5) dX11_consistency_25 ?_
  obtain ⟨r6, h7, hf⟩ := bd_some hf
  refine s_callVi (As := [.int (G3 0 0)]) (rest := []) (Fdr F) (Idr I_5) (cC_LE_isComplete_12 G3 E Dm P Z (G3 0 0) r6 h7) kX11_237 ⟨rfl, rfl⟩ ⟨Nat.le_trans (Nat.le_of_ble_eq_true rfl) hRf, Nat.le_trans (Nat.le_of_ble_eq_true rfl) hRl⟩ (12) 3 rfl rfl rfl rfl rfl hl.1 (Nat.le_of_ble_eq_true rfl) ⟨Nat.zero_le _, Nat.zero_le _⟩ dX11_consistency_28 ?_
  intro H_8 lo_8 I_8
  replace I_8 := Irr I_8
  refine lv_if_ne (tgt := 44) hx hb dX11_consistency_31 (by decide) (fun c21 => ?_) (fun c21 => ?_)
  · replace hf := (if_neg c21).symm.trans hf
    refine lv_aload_n hx hb dX11_consistency_44 rfl (lv_at hl 0 rfl) ?_
    refine kgtX11_89_0 (Fdr F) (Idr I_8) dX11_consistency_45 ?_
    obtain ⟨r9, h10, hf⟩ := bd_some hf
    refine s_callSi (As := [.int (G3 0 0)]) (rest := []) (Fdr F) (Idr I_8) (cC_LT_mostRings G3 E Dm P Z (G3 0 0) r9 h10) kX11_243 ⟨rfl, rfl⟩ ⟨Nat.le_trans (Nat.le_of_ble_eq_true rfl) hRf, Nat.le_trans (Nat.le_of_ble_eq_true rfl) hRl⟩ rfl rfl hl.1 (Nat.le_of_ble_eq_true rfl) ⟨Nat.zero_le _, Nat.zero_le _⟩ dX11_consistency_48 ?_
    intro H_11 lo_11 I_11
    replace I_11 := Irr I_11
    refine lv_istore_n (lv' := [(2, .int r9), (0, .ref (ad 0)), (1, .int a0)]) hx hb dX11_consistency_51 rfl hl (by decide) rfl (fun ls_12 hl_12 => ?_)
    refine lv_iload_n hx hb dX11_consistency_52 rfl (lv_at hl_12 0 rfl) ?_
    refine lv_if_ne (tgt := 58) hx hb dX11_consistency_53 (by decide) (fun c20 => ?_) (fun c20 => ?_)
    · replace hf := (if_neg c20).symm.trans hf
      refine lv_dconst1 hx hb dX11_consistency_58 ?_
      refine lv_aload_n hx hb dX11_consistency_59 rfl (lv_at hl_12 1 rfl) ?_
      refine kgtX11_44_0 (Fdr F) (Idr I_11) dX11_consistency_60 ?_
      refine lv_aload_n hx hb dX11_consistency_63 rfl (lv_at hl_12 1 rfl) ?_
      refine kgtX11_89_0 (Fdr F) (Idr I_11) dX11_consistency_64 ?_
      obtain ⟨r13, h14, hf⟩ := bd_some hf
      refine s_callVi (As := [.int (G3 0 0)]) (rest := [.double (FP.dconst1)]) (Fdr F) (Idr I_11) (cC_LE_countRings_12 G3 E Dm P Z (G3 0 0) r13 h14) kX11_246 ⟨rfl, rfl⟩ ⟨Nat.le_trans (Nat.le_of_ble_eq_true rfl) hRf, Nat.le_trans (Nat.le_of_ble_eq_true rfl) hRl⟩ (12) 3 rfl rfl rfl rfl rfl hl_12.1 (Nat.le_of_ble_eq_true rfl) ⟨Nat.zero_le _, Nat.zero_le _⟩ dX11_consistency_67 ?_
      intro H_15 lo_15 I_15
      replace I_15 := Irr I_15
      refine lv_i2d hx hb dX11_consistency_70 ?_
      refine lv_iload_n hx hb dX11_consistency_71 rfl (lv_at hl_12 0 rfl) ?_
      refine lv_i2d hx hb dX11_consistency_72 ?_
      refine lv_ddiv_any hd lw_bits hx hb dX11_consistency_73 (fun u16 dr_17 alu16 hd_17 => ?_)
      have hu16 := al_ddiv alu16 (al_rf _) (al_rf _)
      refine lv_dsub_any hd_17 lw_bits hx hb dX11_consistency_74 (fun u18 dr_19 alu18 hd_19 => ?_)
      have hu18 := al_dsub alu18 (al_rf _) hu16
      cases hf
      exact ret H_15 lo_15 _ ls_12 dr_19 _ _ hd_19 I_15 ⟨rfl, rfl, ha, rfl⟩ hu18 dX11_consistency_75
    · replace hf := (if_pos c20).symm.trans hf
      refine lv_dconst1 hx hb dX11_consistency_56 ?_
      cases hf
      exact ret H_11 lo_11 _ ls_12 dr _ _ hd I_11 ⟨rfl, rfl, ha, rfl⟩ (al_rf _) dX11_consistency_57
  · replace hf := (if_pos c21).symm.trans hf
    cases hf
def C_JA_fill_i_15_s1 (a1 : Int32) (x3 : Int32) (G4 : Nat → Nat → Int32) : Option ((Int32 × (Nat → Nat → Int32)) ⊕ ((Nat → Nat → Int32))) :=
if (64 : Int32) ≤ x3 then
(some (.inr G4))
else
(ri 64 x3 <|
nm (wr G4 19 x3 a1) fun G13 =>
nm (x3 + (1 : Int32) : Int32) fun x15 =>
some (.inl (x15, G13)))
def C_JA_fill_i_15 (G : Nat → Nat → Int32) (a1 : Int32) : Option ((Nat → Nat → Int32)) :=
bd (lp (fun q => C_JA_fill_i_15_s1 a1 q.1 q.2) FU ((0 : Int32), G)) fun G5 =>
some G5
set_option maxRecDepth 100000 in
set_option maxHeartbeats 4000000 in
theorem cC_JA_fill_i_15 (G : Nat → Nat → Int32) (E : Nat → Nat → Int64) (Dd : Nat → Nat → UInt64) (P : Nat → Option PRec) (Z : List PRec) (a1 : Int32)  (newG : Nat → Nat → Int32) (hf : C_JA_fill_i_15 G a1 = some newG) : sMv D (cT cI cJ cD cS) (cW ad cI cJ cD cS) l yJ7_fill_53178 (ws1 yJ7_fill_53178 cJ7_fill_53178 4 none) ({ frames := 0, cells := 0, slots := 0, locals := 0 }) [.ref (ad 15), .int a1] (G, E, Dd, P, Z) (newG, E, Dd, P, Z) := by
  unfold C_JA_fill_i_15 at hf
  refine sMv_of (by decide) (Nat.le_of_ble_eq_true rfl) ?_
  intro p e R s m args below meth c A Q ls H lo F hRf hRl I hl ret
  obtain ⟨hx, hb, hml, hown, hG⟩ := id F
  replace hl : lv_has ls 4 [(0, .ref (ad 15)), (1, .int a1)] := hl
  refine lv_iconst (v := (0 : Int32)) hx hb dJ7_fill_53178_0 (by decide) ?_
  refine lv_istore_n (lv' := [(2, .int (0 : Int32)), (0, .ref (ad 15)), (1, .int a1)]) hx hb dJ7_fill_53178_1 rfl hl (by decide) rfl (fun ls_1 hl_1 => ?_)
  refine lv_aload_n hx hb dJ7_fill_53178_2 rfl (lv_at hl_1 1 rfl) ?_
  refine kln15 F I dJ7_fill_53178_3 ?_
  refine lv_istore_n (lv' := [(3, .int (64 : Int32)), (2, .int (0 : Int32)), (0, .ref (ad 15)), (1, .int a1)]) hx hb dJ7_fill_53178_4 rfl hl_1 (by decide) rfl (fun ls_2 hl_2 => ?_)
  obtain ⟨G5, hq1, hf⟩ := bd_some hf
  have K1 : ∀ (H : Heap) (locs : List Loc), sInv D (cT cI cJ cD cS) (cW ad cI cJ cD cS) A s H locs (G5, E, Dd, P, Z) → ∀ (ls : Array Slot), lv_has ls 4 [] → W p l e R s m args below meth c H locs 0 0 Q (F0 m 20 ls []) := by
    intro H_6 lo_6 I_6 ls_7 hl_7
    cases hf
    exact ret H_6 lo_6 _ ls_7 I_6 dJ7_fill_53178_20
  have L1 : ∀ (n : Nat) (x3 : Int32) (G4 : Nat → Nat → Int32), lp (fun q => C_JA_fill_i_15_s1 a1 q.1 q.2) n (x3, G4) = some G5 → ∀ (H : Heap) (locs : List Loc), sInv D (cT cI cJ cD cS) (cW ad cI cJ cD cS) A s H locs (G4, E, Dd, P, Z) → ∀ (ls : Array Slot), lv_has ls 4 [(0, .ref (ad 15)), (1, .int a1), (2, .int x3), (3, .int (64 : Int32))] → W p l e R s m args below meth c H locs 0 0 Q (F0 m 5 ls []) := by
    intro n
    induction n with
    | zero => intro x3 G4 hq; exact (lp_0 hq).elim
    | succ n ih1 =>
      intro x3 G4 hq H_9 lo_9 I_9 ls_10 hl_10
      obtain ⟨y1, hf, hK1⟩ := lp_go hq
      replace hf : C_JA_fill_i_15_s1 a1 x3 G4 = some y1 := hf
      unfold C_JA_fill_i_15_s1 at hf
      refine lv_iload_n hx hb dJ7_fill_53178_5 rfl (lv_at hl_10 2 rfl) ?_
      refine lv_iload_n hx hb dJ7_fill_53178_6 rfl (lv_at hl_10 3 rfl) ?_
      refine lv_icmp_ge (tgt := 20) hx hb dJ7_fill_53178_7 (by decide) (fun c17 => ?_) (fun c17 => ?_)
      · replace hf := (if_pos c17).symm.trans hf
        cases hf
        cases (show G4 = G5 from hK1)
        exact K1 H_9 lo_9 I_9 ls_10 (lv_sub hl_10 [] rfl)
      · replace hf := (if_neg c17).symm.trans hf
        refine lv_aload_n hx hb dJ7_fill_53178_10 rfl (lv_at hl_10 0 rfl) ?_
        refine lv_iload_n hx hb dJ7_fill_53178_11 rfl (lv_at hl_10 2 rfl) ?_
        refine lv_iload_n hx hb dJ7_fill_53178_12 rfl (lv_at hl_10 1 rfl) ?_
        obtain ⟨g12, hf⟩ := ri_some hf
        refine kas15 F I_9 g12 dJ7_fill_53178_13 ?_
        intro H_14 lo_14 G13 eG13 I_14
        replace hf := nm_some eG13 hf
        obtain ⟨x15, ex15⟩ : ∃ y : Int32, y = x3 + (1 : Int32) := ⟨_, rfl⟩
        replace hf := nm_some ex15 hf
        refine lv_iinc (v := x15) (lv' := [(2, .int x15), (0, .ref (ad 15)), (1, .int a1), (3, .int (64 : Int32))]) hx hb dJ7_fill_53178_14 hl_10 (k := 2) rfl (by rw [ex15]; rfl) (by decide) rfl (fun ls_16 hl_16 => ?_)
        refine lv_goto (tgt := 5) hx hb dJ7_fill_53178_17 (by decide) ?_
        cases hf
        exact ih1 _ _ hK1 H_14 lo_14 I_14 ls_16 (lv_sub hl_16 [1, 2, 0, 3] rfl)
  exact L1 FU _ _ hq1 H lo I ls_2 (lv_sub hl_2 [2, 3, 1, 0] rfl)
def C_LE_clearAll_14 (G : Nat → Nat → Int32) : Option ((Nat → Nat → Int32)) :=
bd (C_JA_fill_i_15 G (0 : Int32)) fun G1 =>
some G1
set_option maxRecDepth 100000 in
set_option maxHeartbeats 4000000 in
theorem cC_LE_clearAll_14 (G : Nat → Nat → Int32) (E : Nat → Nat → Int64) (Dd : Nat → Nat → UInt64) (P : Nat → Option PRec) (Z : List PRec)   (newG : Nat → Nat → Int32) (hf : C_LE_clearAll_14 G = some newG) : sMv D (cT cI cJ cD cS) (cW ad cI cJ cD cS) l yX3_clearAll (ws1 yX3_clearAll cX3_clearAll 1 none) ({ frames := 1, cells := 0, slots := 0, locals := 23 }) [.ref (ad 14)] (G, E, Dd, P, Z) (newG, E, Dd, P, Z) := by
  unfold C_LE_clearAll_14 at hf
  refine sMv_of (by decide) (Nat.le_of_ble_eq_true rfl) ?_
  intro p e R s m args below meth c A Q ls H lo F hRf hRl I hl ret
  obtain ⟨hx, hb, hml, hown, hG⟩ := id F
  replace hl : lv_has ls 1 [(0, .ref (ad 14))] := hl
  refine lv_aload_n hx hb dX3_clearAll_0 rfl (lv_at hl 0 rfl) ?_
  refine kgtX3_9_14 F I dX3_clearAll_1 ?_
  refine lv_iconst (v := (0 : Int32)) hx hb dX3_clearAll_4 (by decide) ?_
  obtain ⟨G1, h2, hf⟩ := bd_some hf
  refine s_callSv (As := [.ref (ad 15), .int (0 : Int32)]) (rest := []) F I (cC_JA_fill_i_15 G E Dd P Z (0 : Int32) G1 h2) kX3_15 ⟨rfl, rfl⟩ ⟨Nat.le_trans (Nat.le_of_ble_eq_true rfl) hRf, Nat.le_trans (Nat.le_of_ble_eq_true rfl) hRl⟩ rfl rfl hl.1 (Nat.le_of_ble_eq_true rfl) ⟨Nat.zero_le _, Nat.zero_le _⟩ dX3_clearAll_5 ?_
  intro H_3 lo_3 I_3
  cases hf
  exact ret H_3 lo_3 _ ls I_3 dX3_clearAll_8
def C_LE_addWin_14 (G : Nat → Nat → Int32) (a0 : Int32) (a1 : Int32) : Option ((Nat → Nat → Int32)) :=
nm (C_CO_answerOf a0) fun r1 =>
if r1 = 0 then
(some G)
else
(bd (C_CO_winnerOf a0) fun r4 =>
bd (C_CO_loserOf a0) fun r8 =>
nm (C_LT_cell r4 r8) fun r12 =>
ri 64 r12 <|
ri 64 r12 <|
nm (wr G 19 r12 ((G 19 r12.toNatClampNeg) + a1)) fun G17 =>
nm (C_LT_cell r8 r4) fun r19 =>
ri 64 r19 <|
ri 64 r19 <|
nm (wr G17 19 r19 ((G17 19 r19.toNatClampNeg) - a1)) fun G24 =>
some G24)
set_option maxRecDepth 100000 in
set_option maxHeartbeats 4000000 in
theorem cC_LE_addWin_14 (G : Nat → Nat → Int32) (E : Nat → Nat → Int64) (Dd : Nat → Nat → UInt64) (P : Nat → Option PRec) (Z : List PRec) (a0 : Int32) (a1 : Int32)  (newG : Nat → Nat → Int32) (hf : C_LE_addWin_14 G a0 a1 = some newG) : sMv D (cT cI cJ cD cS) (cW ad cI cJ cD cS) l yX3_addWin (ws1 yX3_addWin cX3_addWin 5 none) ({ frames := 2, cells := 0, slots := 0, locals := 40 }) [.ref (ad 14), .int a0, .int a1] (G, E, Dd, P, Z) (newG, E, Dd, P, Z) := by
  unfold C_LE_addWin_14 at hf
  refine sMv_of (by decide) (Nat.le_of_ble_eq_true rfl) ?_
  intro p e R s m args below meth c A Q ls H lo F hRf hRl I hl ret
  obtain ⟨hx, hb, hml, hown, hG⟩ := id F
  replace hl : lv_has ls 5 [(0, .ref (ad 14)), (1, .int a0), (2, .int a1)] := hl
  refine lv_iload_n hx hb dX3_addWin_0 rfl (lv_at hl 1 rfl) ?_
  obtain ⟨r1, h2⟩ : ∃ z, z = C_CO_answerOf a0 := ⟨_, rfl⟩
  replace hf := nm_some h2 hf
  refine s_callSi (As := [.int a0]) (rest := []) F I (cC_CO_answerOf G E Dd P Z a0 r1 h2) kX3_41 ⟨rfl, rfl⟩ ⟨Nat.le_trans (Nat.le_of_ble_eq_true rfl) hRf, Nat.le_trans (Nat.le_of_ble_eq_true rfl) hRl⟩ rfl rfl hl.1 (Nat.le_of_ble_eq_true rfl) ⟨Nat.zero_le _, Nat.zero_le _⟩ dX3_addWin_1 ?_
  intro H_3 lo_3 I_3
  refine lv_if_eq (tgt := 48) hx hb dX3_addWin_4 (by decide) (fun c26 => ?_) (fun c26 => ?_)
  · replace hf := (if_pos c26).symm.trans hf
    cases hf
    exact ret H_3 lo_3 _ ls I_3 dX3_addWin_48
  · replace hf := (if_neg c26).symm.trans hf
    refine lv_iload_n hx hb dX3_addWin_7 rfl (lv_at hl 1 rfl) ?_
    obtain ⟨r4, h5, hf⟩ := bd_some hf
    refine s_callSi (As := [.int a0]) (rest := []) F I_3 (cC_CO_winnerOf G E Dd P Z a0 r4 h5) kX3_44 ⟨rfl, rfl⟩ ⟨Nat.le_trans (Nat.le_of_ble_eq_true rfl) hRf, Nat.le_trans (Nat.le_of_ble_eq_true rfl) hRl⟩ rfl rfl hl.1 (Nat.le_of_ble_eq_true rfl) ⟨Nat.zero_le _, Nat.zero_le _⟩ dX3_addWin_8 ?_
    intro H_6 lo_6 I_6
    refine lv_istore_n (lv' := [(3, .int r4), (0, .ref (ad 14)), (1, .int a0), (2, .int a1)]) hx hb dX3_addWin_11 rfl hl (by decide) rfl (fun ls_7 hl_7 => ?_)
    refine lv_iload_n hx hb dX3_addWin_12 rfl (lv_at hl_7 2 rfl) ?_
    obtain ⟨r8, h9, hf⟩ := bd_some hf
    refine s_callSi (As := [.int a0]) (rest := []) F I_6 (cC_CO_loserOf G E Dd P Z a0 r8 h9) kX3_47 ⟨rfl, rfl⟩ ⟨Nat.le_trans (Nat.le_of_ble_eq_true rfl) hRf, Nat.le_trans (Nat.le_of_ble_eq_true rfl) hRl⟩ rfl rfl hl_7.1 (Nat.le_of_ble_eq_true rfl) ⟨Nat.zero_le _, Nat.zero_le _⟩ dX3_addWin_13 ?_
    intro H_10 lo_10 I_10
    refine lv_istore (lv' := [(4, .int r8), (3, .int r4), (0, .ref (ad 14)), (1, .int a0), (2, .int a1)]) hx hb dX3_addWin_16 hl_7 (by decide) rfl (fun ls_11 hl_11 => ?_)
    refine lv_aload_n hx hb dX3_addWin_18 rfl (lv_at hl_11 2 rfl) ?_
    refine kgtX3_9_14 F I_10 dX3_addWin_19 ?_
    refine lv_iload_n hx hb dX3_addWin_22 rfl (lv_at hl_11 1 rfl) ?_
    refine lv_iload hx hb dX3_addWin_23 (lv_at hl_11 0 rfl) ?_
    obtain ⟨r12, h13⟩ : ∃ z, z = C_LT_cell r4 r8 := ⟨_, rfl⟩
    replace hf := nm_some h13 hf
    refine s_callSNi (As := [.int r4, .int r8]) (rest := [.ref (ad 15)]) F I_10 (cC_LT_cell G E Dd P Z r4 r8 r12 h13) kX3_50 ⟨rfl, rfl⟩ ⟨Nat.le_trans (Nat.le_of_ble_eq_true rfl) hRf, Nat.le_trans (Nat.le_of_ble_eq_true rfl) hRl⟩ rfl rfl hl_11.1 (Nat.le_of_ble_eq_true rfl) ⟨Nat.zero_le _, Nat.zero_le _⟩ dX3_addWin_25 ?_
    intro H_14 lo_14 I_14
    refine lv_dup2_11 hx hb dX3_addWin_28 rfl rfl ?_
    obtain ⟨g15, hf⟩ := ri_some hf
    refine kal15 F I_14 g15 dX3_addWin_29 ?_
    refine lv_iload_n hx hb dX3_addWin_30 rfl (lv_at hl_11 4 rfl) ?_
    refine lv_iadd hx hb dX3_addWin_31 ?_
    obtain ⟨g16, hf⟩ := ri_some hf
    refine kas15 F I_14 g16 dX3_addWin_32 ?_
    intro H_18 lo_18 G17 eG17 I_18
    replace hf := nm_some eG17 hf
    refine lv_aload_n hx hb dX3_addWin_33 rfl (lv_at hl_11 2 rfl) ?_
    refine kgtX3_9_14 F I_18 dX3_addWin_34 ?_
    refine lv_iload hx hb dX3_addWin_37 (lv_at hl_11 0 rfl) ?_
    refine lv_iload_n hx hb dX3_addWin_39 rfl (lv_at hl_11 1 rfl) ?_
    obtain ⟨r19, h20⟩ : ∃ z, z = C_LT_cell r8 r4 := ⟨_, rfl⟩
    replace hf := nm_some h20 hf
    refine s_callSNi (As := [.int r8, .int r4]) (rest := [.ref (ad 15)]) F I_18 (cC_LT_cell G17 E Dd P Z r8 r4 r19 h20) kX3_50 ⟨rfl, rfl⟩ ⟨Nat.le_trans (Nat.le_of_ble_eq_true rfl) hRf, Nat.le_trans (Nat.le_of_ble_eq_true rfl) hRl⟩ rfl rfl hl_11.1 (Nat.le_of_ble_eq_true rfl) ⟨Nat.zero_le _, Nat.zero_le _⟩ dX3_addWin_40 ?_
    intro H_21 lo_21 I_21
    refine lv_dup2_11 hx hb dX3_addWin_43 rfl rfl ?_
    obtain ⟨g22, hf⟩ := ri_some hf
    refine kal15 F I_21 g22 dX3_addWin_44 ?_
    refine lv_iload_n hx hb dX3_addWin_45 rfl (lv_at hl_11 4 rfl) ?_
    refine lv_isub hx hb dX3_addWin_46 ?_
    obtain ⟨g23, hf⟩ := ri_some hf
    refine kas15 F I_21 g23 dX3_addWin_47 ?_
    intro H_25 lo_25 G24 eG24 I_25
    replace hf := nm_some eG24 hf
    cases hf
    exact ret H_25 lo_25 _ ls_11 I_25 dX3_addWin_48
def C_LE_takeListener_14_s1 (a1 : Int32) (x5 : Int32) (G6 : Nat → Nat → Int32) : Option ((Int32 × (Nat → Nat → Int32)) ⊕ ((Nat → Nat → Int32))) :=
if G6 5 0 ≤ x5 then
(some (.inr G6))
else
(bd (C_CO_at G6 x5) fun r14 =>
nm (C_CO_listenerOf r14) fun r18 =>
bd (if r18 = a1 then
(bd (C_LE_addWin_14 G6 r14 (1 : Int32)) fun G29 =>
some G29)
else
(some G6)) fun G22 =>
nm (x5 + (1 : Int32) : Int32) fun x26 =>
some (.inl (x26, G22)))
def C_LE_takeListener_14 (G : Nat → Nat → Int32) (a1 : Int32) : Option ((Nat → Nat → Int32)) :=
bd (C_LE_clearAll_14 G) fun G1 =>
bd (lp (fun q => C_LE_takeListener_14_s1 a1 q.1 q.2) FU ((0 : Int32), G1)) fun G7 =>
some G7
set_option maxRecDepth 100000 in
set_option maxHeartbeats 4000000 in
theorem cC_LE_takeListener_14 (G : Nat → Nat → Int32) (E : Nat → Nat → Int64) (Dd : Nat → Nat → UInt64) (P : Nat → Option PRec) (Z : List PRec) (a1 : Int32)  (newG : Nat → Nat → Int32) (hf : C_LE_takeListener_14 G a1 = some newG) : sMv D (cT cI cJ cD cS) (cW ad cI cJ cD cS) l yX3_takeListener (ws1 yX3_takeListener cX3_takeListener 5 none) ({ frames := 3, cells := 0, slots := 0, locals := 64 }) [.ref (ad 14), .ref (ad 2), .int a1] (G, E, Dd, P, Z) (newG, E, Dd, P, Z) := by
  unfold C_LE_takeListener_14 at hf
  refine sMv_of (by decide) (Nat.le_of_ble_eq_true rfl) ?_
  intro p e R s m args below meth c A Q ls H lo F hRf hRl I hl ret
  obtain ⟨hx, hb, hml, hown, hG⟩ := id F
  replace hl : lv_has ls 5 [(0, .ref (ad 14)), (1, .ref (ad 2)), (2, .int a1)] := hl
  refine lv_aload_n hx hb dX3_takeListener_0 rfl (lv_at hl 0 rfl) ?_
  obtain ⟨G1, h2, hf⟩ := bd_some hf
  refine s_callVv (As := []) (rest := []) F I (cC_LE_clearAll_14 G E Dd P Z G1 h2) kX3_21 ⟨rfl, rfl⟩ ⟨Nat.le_trans (Nat.le_of_ble_eq_true rfl) hRf, Nat.le_trans (Nat.le_of_ble_eq_true rfl) hRl⟩ (14) 3 rfl rfl rfl rfl rfl hl.1 (Nat.le_of_ble_eq_true rfl) ⟨Nat.zero_le _, Nat.zero_le _⟩ dX3_takeListener_1 ?_
  intro H_3 lo_3 I_3
  refine lv_iconst (v := (0 : Int32)) hx hb dX3_takeListener_4 (by decide) ?_
  refine lv_istore_n (lv' := [(3, .int (0 : Int32)), (0, .ref (ad 14)), (1, .ref (ad 2)), (2, .int a1)]) hx hb dX3_takeListener_5 rfl hl (by decide) rfl (fun ls_4 hl_4 => ?_)
  obtain ⟨G7, hq1, hf⟩ := bd_some hf
  have K1 : ∀ (H : Heap) (locs : List Loc), sInv D (cT cI cJ cD cS) (cW ad cI cJ cD cS) A s H locs (G7, E, Dd, P, Z) → ∀ (ls : Array Slot), lv_has ls 5 [] → W p l e R s m args below meth c H locs 0 0 Q (F0 m 43 ls []) := by
    intro H_8 lo_8 I_8 ls_9 hl_9
    cases hf
    exact ret H_8 lo_8 _ ls_9 I_8 dX3_takeListener_43
  have L1 : ∀ (n : Nat) (x5 : Int32) (G6 : Nat → Nat → Int32), lp (fun q => C_LE_takeListener_14_s1 a1 q.1 q.2) n (x5, G6) = some G7 → ∀ (H : Heap) (locs : List Loc), sInv D (cT cI cJ cD cS) (cW ad cI cJ cD cS) A s H locs (G6, E, Dd, P, Z) → ∀ (ls : Array Slot), lv_has ls 5 [(0, .ref (ad 14)), (1, .ref (ad 2)), (2, .int a1), (3, .int x5)] → W p l e R s m args below meth c H locs 0 0 Q (F0 m 6 ls []) := by
    intro n
    induction n with
    | zero => intro x5 G6 hq; exact (lp_0 hq).elim
    | succ n ih1 =>
      intro x5 G6 hq H_11 lo_11 I_11 ls_12 hl_12
      obtain ⟨y1, hf, hK1⟩ := lp_go hq
      replace hf : C_LE_takeListener_14_s1 a1 x5 G6 = some y1 := hf
      unfold C_LE_takeListener_14_s1 at hf
      refine lv_iload_n hx hb dX3_takeListener_6 rfl (lv_at hl_12 3 rfl) ?_
      refine lv_aload_n hx hb dX3_takeListener_7 rfl (lv_at hl_12 1 rfl) ?_
      refine kgtX3_24_2 F I_11 dX3_takeListener_8 ?_
      refine lv_icmp_ge (tgt := 43) hx hb dX3_takeListener_11 (by decide) (fun c33 => ?_) (fun c33 => ?_)
      · replace hf := (if_pos c33).symm.trans hf
        cases hf
        cases (show G6 = G7 from hK1)
        exact K1 H_11 lo_11 I_11 ls_12 (lv_sub hl_12 [] rfl)
      · replace hf := (if_neg c33).symm.trans hf
        refine lv_aload_n hx hb dX3_takeListener_14 rfl (lv_at hl_12 1 rfl) ?_
        refine lv_iload_n hx hb dX3_takeListener_15 rfl (lv_at hl_12 3 rfl) ?_
        obtain ⟨r14, h15, hf⟩ := bd_some hf
        refine s_callVi (As := [.int x5]) (rest := []) F I_11 (cC_CO_at G6 E Dd P Z x5 r14 h15) kX3_30 ⟨rfl, rfl⟩ ⟨Nat.le_trans (Nat.le_of_ble_eq_true rfl) hRf, Nat.le_trans (Nat.le_of_ble_eq_true rfl) hRl⟩ (2) 1 rfl rfl rfl rfl rfl hl_12.1 (Nat.le_of_ble_eq_true rfl) ⟨Nat.zero_le _, Nat.zero_le _⟩ dX3_takeListener_16 ?_
        intro H_16 lo_16 I_16
        refine lv_istore (lv' := [(4, .int r14), (0, .ref (ad 14)), (1, .ref (ad 2)), (2, .int a1), (3, .int x5)]) hx hb dX3_takeListener_19 hl_12 (by decide) rfl (fun ls_17 hl_17 => ?_)
        refine lv_iload hx hb dX3_takeListener_21 (lv_at hl_17 0 rfl) ?_
        obtain ⟨r18, h19⟩ : ∃ z, z = C_CO_listenerOf r14 := ⟨_, rfl⟩
        replace hf := nm_some h19 hf
        refine s_callSi (As := [.int r14]) (rest := []) F I_16 (cC_CO_listenerOf G6 E Dd P Z r14 r18 h19) kX3_34 ⟨rfl, rfl⟩ ⟨Nat.le_trans (Nat.le_of_ble_eq_true rfl) hRf, Nat.le_trans (Nat.le_of_ble_eq_true rfl) hRl⟩ rfl rfl hl_17.1 (Nat.le_of_ble_eq_true rfl) ⟨Nat.zero_le _, Nat.zero_le _⟩ dX3_takeListener_23 ?_
        intro H_20 lo_20 I_20
        refine lv_iload_n hx hb dX3_takeListener_26 rfl (lv_at hl_17 3 rfl) ?_
        obtain ⟨G22, hv28, hf⟩ := bd_some hf
        have J21 : ∀ (H : Heap) (locs : List Loc), sInv D (cT cI cJ cD cS) (cW ad cI cJ cD cS) A s H locs (G22, E, Dd, P, Z) → ∀ (ls : Array Slot), lv_has ls 5 [(0, .ref (ad 14)), (1, .ref (ad 2)), (2, .int a1), (3, .int x5)] → W p l e R s m args below meth c H locs 0 0 Q (F0 m 37 ls []) := by
          intro H_23 lo_23 I_23 ls_24 hl_24
          obtain ⟨x26, ex26⟩ : ∃ y : Int32, y = x5 + (1 : Int32) := ⟨_, rfl⟩
          replace hf := nm_some ex26 hf
          refine lv_iinc (v := x26) (lv' := [(3, .int x26), (0, .ref (ad 14)), (1, .ref (ad 2)), (2, .int a1)]) hx hb dX3_takeListener_37 hl_24 (k := 3) rfl (by rw [ex26]; rfl) (by decide) rfl (fun ls_27 hl_27 => ?_)
          refine lv_goto (tgt := 6) hx hb dX3_takeListener_40 (by decide) ?_
          cases hf
          exact ih1 _ _ hK1 H_23 lo_23 I_23 ls_27 (lv_sub hl_27 [1, 2, 3, 0] rfl)
        replace hf := hv28
        refine lv_icmp_ne (tgt := 37) hx hb dX3_takeListener_27 (by decide) (fun c32 => ?_) (fun c32 => ?_)
        · replace hf := (if_neg c32).symm.trans hf
          cases hf
          exact J21 H_20 lo_20 I_20 ls_17 (lv_sub hl_17 [1, 2, 3, 4] rfl)
        · replace hf := (if_pos c32).symm.trans hf
          refine lv_aload_n hx hb dX3_takeListener_30 rfl (lv_at hl_17 1 rfl) ?_
          refine lv_iload hx hb dX3_takeListener_31 (lv_at hl_17 0 rfl) ?_
          refine lv_iconst (v := (1 : Int32)) hx hb dX3_takeListener_33 (by decide) ?_
          obtain ⟨G29, h30, hf⟩ := bd_some hf
          refine s_callVv (As := [.int r14, .int (1 : Int32)]) (rest := []) F I_20 (cC_LE_addWin_14 G6 E Dd P Z r14 (1 : Int32) G29 h30) kX3_37 ⟨rfl, rfl⟩ ⟨Nat.le_trans (Nat.le_of_ble_eq_true rfl) hRf, Nat.le_trans (Nat.le_of_ble_eq_true rfl) hRl⟩ (14) 3 rfl rfl rfl rfl rfl hl_17.1 (Nat.le_of_ble_eq_true rfl) ⟨Nat.zero_le _, Nat.zero_le _⟩ dX3_takeListener_34 ?_
          intro H_31 lo_31 I_31
          cases hf
          exact J21 H_31 lo_31 I_31 ls_17 (lv_sub hl_17 [1, 2, 3, 4] rfl)
  exact L1 FU _ _ hq1 H_3 lo_3 I_3 ls_4 (lv_sub hl_4 [1, 2, 3, 0] rfl)
def C_LE_lead_14 (G : Nat → Nat → Int32) (a0 : Int32) (a1 : Int32) : Option (Int32) :=
nm (C_LT_cell a0 a1) fun r1 =>
ri 64 r1 <|
some (G 19 r1.toNatClampNeg)
set_option maxRecDepth 100000 in
set_option maxHeartbeats 4000000 in
theorem cC_LE_lead_14 (G : Nat → Nat → Int32) (E : Nat → Nat → Int64) (Dd : Nat → Nat → UInt64) (P : Nat → Option PRec) (Z : List PRec) (a0 : Int32) (a1 : Int32) (rv : Int32)  (hf : C_LE_lead_14 G a0 a1 = some rv) : sMi D (cT cI cJ cD cS) (cW ad cI cJ cD cS) l yX3_lead (ws1 yX3_lead cX3_lead 3 (some .int)) ({ frames := 1, cells := 0, slots := 0, locals := 21 }) [.ref (ad 14), .int a0, .int a1] (G, E, Dd, P, Z) (rv, (G, E, Dd, P, Z)) := by
  unfold C_LE_lead_14 at hf
  refine sMi_of (by decide) (Nat.le_of_ble_eq_true rfl) ?_
  intro p e R s m args below meth c A Q ls H lo F hRf hRl I hl ret
  obtain ⟨hx, hb, hml, hown, hG⟩ := id F
  replace hl : lv_has ls 3 [(0, .ref (ad 14)), (1, .int a0), (2, .int a1)] := hl
  refine lv_aload_n hx hb dX3_lead_0 rfl (lv_at hl 0 rfl) ?_
  refine kgtX3_9_14 F I dX3_lead_1 ?_
  refine lv_iload_n hx hb dX3_lead_4 rfl (lv_at hl 1 rfl) ?_
  refine lv_iload_n hx hb dX3_lead_5 rfl (lv_at hl 2 rfl) ?_
  obtain ⟨r1, h2⟩ : ∃ z, z = C_LT_cell a0 a1 := ⟨_, rfl⟩
  replace hf := nm_some h2 hf
  refine s_callSNi (As := [.int a0, .int a1]) (rest := [.ref (ad 15)]) F I (cC_LT_cell G E Dd P Z a0 a1 r1 h2) kX3_50 ⟨rfl, rfl⟩ ⟨Nat.le_trans (Nat.le_of_ble_eq_true rfl) hRf, Nat.le_trans (Nat.le_of_ble_eq_true rfl) hRl⟩ rfl rfl hl.1 (Nat.le_of_ble_eq_true rfl) ⟨Nat.zero_le _, Nat.zero_le _⟩ dX3_lead_6 ?_
  intro H_3 lo_3 I_3
  obtain ⟨g4, hf⟩ := ri_some hf
  refine kal15 F I_3 g4 dX3_lead_9 ?_
  cases hf
  exact ret H_3 lo_3 _ ls I_3 dX3_lead_10
def C_LT_agreement_s2 (x16 : Int32) (G8 : Nat → Nat → Int32) (x30 : Int32) (x31 : Int32) (x32 : Int32) : Option ((Int32 × Int32 × Int32) ⊕ (Int32 × Int32)) :=
if G8 0 0 ≤ x32 then
(some (.inr (x30, x31)))
else
(bd (C_LE_lead_12 G8 x16 x32) fun r43 =>
bd (C_LE_lead_14 G8 x16 x32) fun r47 =>
bd2 (if r43 = 0 then
(some (x30, x31))
else
(if r47 = 0 then
(some (x30, x31))
else
(nm (x30 + (1 : Int32) : Int32) fun x60 =>
bd (if r43 ≤ 0 then
(some (0 : Int32))
else
(some (1 : Int32))) fun x63 =>
bd (if r47 ≤ 0 then
(some (0 : Int32))
else
(some (1 : Int32))) fun x68 =>
bd (if x63 = x68 then
(some (1 : Int32))
else
(some (-1 : Int32))) fun x73 =>
nm (x31 + x73 : Int32) fun x77 =>
some (x60, x77)))) fun x52 x53 =>
nm (x32 + (1 : Int32) : Int32) fun x57 =>
some (.inl (x52, x53, x57)))
def C_LT_agreement_s1 (G8 : Nat → Nat → Int32) (x14 : Int32) (x15 : Int32) (x16 : Int32) : Option ((Int32 × Int32 × Int32) ⊕ (Int32 × Int32)) :=
if G8 0 0 ≤ x16 then
(some (.inr (x14, x15)))
else
(nm (x16 + (1 : Int32) : Int32) fun x28 =>
bd2 (lp (fun q => C_LT_agreement_s2 x16 G8 q.1 q.2.1 q.2.2) FU (x14, x15, x28)) fun x33 x34 =>
nm (x16 + (1 : Int32) : Int32) fun x38 =>
some (.inl (x33, x34, x38)))
def C_LT_agreement (G : Nat → Nat → Int32) (a0 : Int32) (a1 : Int32) : Option (UInt64 × (Nat → Nat → Int32)) :=
bd0 (C_LT_requireIndex a0 (G 1 0)) <|
bd0 (C_LT_requireIndex a1 (G 1 0)) <|
bd (C_LE_takeListener_12 G a0) fun G5 =>
bd (C_LE_takeListener_14 G5 a1) fun G8 =>
bd2 (lp (fun q => C_LT_agreement_s1 G8 q.1 q.2.1 q.2.2) FU ((0 : Int32), (0 : Int32), (0 : Int32))) fun x17 x18 =>
if x17 = 0 then
(some (FP.dconst0, G8))
else
(some ((FP.ddiv (FP.i2d x18) (FP.i2d x17)), G8))
set_option maxRecDepth 100000 in
set_option maxHeartbeats 4000000 in
theorem cC_LT_agreement (G : Nat → Nat → Int32) (E : Nat → Nat → Int64) (Dd : Nat → Nat → UInt64) (P : Nat → Option PRec) (Z : List PRec) (a0 : Int32) (a1 : Int32) (rv : UInt64) (newG : Nat → Nat → Int32) (hf : C_LT_agreement G a0 a1 = some (rv, newG)) : sDd D (cT cI cJ cD cS) (cW ad cI cJ cD cS) cSm l yX11_agreement (ws1 yX11_agreement cX11_agreement 9 (some .double)) ({ frames := 4, cells := 0, slots := 0, locals := 88 }) [.ref (ad 0), .int a0, .int a1] (G, E, Dd, P, Z) (rv, (newG, E, Dd, P, Z)) := by
  unfold C_LT_agreement at hf
  refine sDd_of (by decide) (Nat.le_of_ble_eq_true rfl) ?_
  intro p e R s m args below meth c A Q ls H lo dr sgm F hRf hRl hd hsm I hl ret
  obtain ⟨_, _, Dm, _⟩ := sgm
  obtain ⟨rfl, rfl, ha, rfl⟩ := cSm_dest hsm
  obtain ⟨hx, hb, hml, hown, hG⟩ := id F
  replace hl : lv_has ls 9 [(0, .ref (ad 0)), (1, .int a0), (2, .int a1)] := hl
  refine lv_iload_n hx hb dX11_agreement_0 rfl (lv_at hl 1 rfl) ?_
  refine lv_aload_n hx hb dX11_agreement_1 rfl (lv_at hl 0 rfl) ?_
  refine kgtX11_80_0 (Fdr F) (Idr I) dX11_agreement_2 ?_
  obtain ⟨h1, hf⟩ := bd0_some hf
  refine s_callSv (As := [.int a0, .int (G 1 0)]) (rest := []) (Fdr F) (Idr I) (cC_LT_requireIndex G E Dm P Z a0 (G 1 0) h1) kX11_84 ⟨rfl, rfl⟩ ⟨Nat.le_trans (Nat.le_of_ble_eq_true rfl) hRf, Nat.le_trans (Nat.le_of_ble_eq_true rfl) hRl⟩ rfl rfl hl.1 (Nat.le_of_ble_eq_true rfl) ⟨Nat.zero_le _, Nat.zero_le _⟩ dX11_agreement_5 ?_
  intro H_2 lo_2 I_2
  replace I_2 := Irr I_2
  refine lv_iload_n hx hb dX11_agreement_8 rfl (lv_at hl 2 rfl) ?_
  refine lv_aload_n hx hb dX11_agreement_9 rfl (lv_at hl 0 rfl) ?_
  refine kgtX11_80_0 (Fdr F) (Idr I_2) dX11_agreement_10 ?_
  obtain ⟨h3, hf⟩ := bd0_some hf
  refine s_callSv (As := [.int a1, .int (G 1 0)]) (rest := []) (Fdr F) (Idr I_2) (cC_LT_requireIndex G E Dm P Z a1 (G 1 0) h3) kX11_84 ⟨rfl, rfl⟩ ⟨Nat.le_trans (Nat.le_of_ble_eq_true rfl) hRf, Nat.le_trans (Nat.le_of_ble_eq_true rfl) hRl⟩ rfl rfl hl.1 (Nat.le_of_ble_eq_true rfl) ⟨Nat.zero_le _, Nat.zero_le _⟩ dX11_agreement_13 ?_
  intro H_4 lo_4 I_4
  replace I_4 := Irr I_4
  refine lv_aload_n hx hb dX11_agreement_16 rfl (lv_at hl 0 rfl) ?_
  refine kgtX11_44_0 (Fdr F) (Idr I_4) dX11_agreement_17 ?_
  refine lv_aload_n hx hb dX11_agreement_20 rfl (lv_at hl 0 rfl) ?_
  refine kgtX11_16_0 (Fdr F) (Idr I_4) dX11_agreement_21 ?_
  refine lv_iload_n hx hb dX11_agreement_24 rfl (lv_at hl 1 rfl) ?_
  obtain ⟨G5, h6, hf⟩ := bd_some hf
  refine s_callVv (As := [.ref (ad 2), .int a0]) (rest := []) (Fdr F) (Idr I_4) (cC_LE_takeListener_12 G E Dm P Z a0 G5 h6) kX11_233 ⟨rfl, rfl⟩ ⟨Nat.le_trans (Nat.le_of_ble_eq_true rfl) hRf, Nat.le_trans (Nat.le_of_ble_eq_true rfl) hRl⟩ (12) 3 rfl rfl rfl rfl rfl hl.1 (Nat.le_of_ble_eq_true rfl) ⟨Nat.zero_le _, Nat.zero_le _⟩ dX11_agreement_25 ?_
  intro H_7 lo_7 I_7
  replace I_7 := Irr I_7
  refine lv_aload_n hx hb dX11_agreement_28 rfl (lv_at hl 0 rfl) ?_
  refine kgtX11_48_0 (Fdr F) (Idr I_7) dX11_agreement_29 ?_
  refine lv_aload_n hx hb dX11_agreement_32 rfl (lv_at hl 0 rfl) ?_
  refine kgtX11_16_0 (Fdr F) (Idr I_7) dX11_agreement_33 ?_
  refine lv_iload_n hx hb dX11_agreement_36 rfl (lv_at hl 2 rfl) ?_
  obtain ⟨G8, h9, hf⟩ := bd_some hf
  refine s_callVv (As := [.ref (ad 2), .int a1]) (rest := []) (Fdr F) (Idr I_7) (cC_LE_takeListener_14 G5 E Dm P Z a1 G8 h9) kX11_233 ⟨rfl, rfl⟩ ⟨Nat.le_trans (Nat.le_of_ble_eq_true rfl) hRf, Nat.le_trans (Nat.le_of_ble_eq_true rfl) hRl⟩ (14) 3 rfl rfl rfl rfl rfl hl.1 (Nat.le_of_ble_eq_true rfl) ⟨Nat.zero_le _, Nat.zero_le _⟩ dX11_agreement_37 ?_
  intro H_10 lo_10 I_10
  replace I_10 := Irr I_10
  refine lv_iconst (v := (0 : Int32)) hx hb dX11_agreement_40 (by decide) ?_
  refine lv_istore_n (lv' := [(3, .int (0 : Int32)), (0, .ref (ad 0)), (1, .int a0), (2, .int a1)]) hx hb dX11_agreement_41 rfl hl (by decide) rfl (fun ls_11 hl_11 => ?_)
  refine lv_iconst (v := (0 : Int32)) hx hb dX11_agreement_42 (by decide) ?_
  refine lv_istore (lv' := [(4, .int (0 : Int32)), (3, .int (0 : Int32)), (0, .ref (ad 0)), (1, .int a0), (2, .int a1)]) hx hb dX11_agreement_43 hl_11 (by decide) rfl (fun ls_12 hl_12 => ?_)
  refine lv_iconst (v := (0 : Int32)) hx hb dX11_agreement_45 (by decide) ?_
  refine lv_istore (lv' := [(5, .int (0 : Int32)), (4, .int (0 : Int32)), (3, .int (0 : Int32)), (0, .ref (ad 0)), (1, .int a0), (2, .int a1)]) hx hb dX11_agreement_46 hl_12 (by decide) rfl (fun ls_13 hl_13 => ?_)
  obtain ⟨x17, x18, hq1, hf⟩ := bd2_some hf
  have K1 : ∀ (H : Heap) (locs : List Loc) (d : Drawn), s.drawn.sameBut d lw_cs → sInv D (cT cI cJ cD cS) (cW ad cI cJ cD cS) A s H locs (G8, E, Dm, P, Z) → ∀ (ls : Array Slot), lv_has ls 9 [(3, .int x17), (4, .int x18)] → W p l e R (s.setDrawn d) m args below meth c H locs 0 0 Q (F0 m 156 ls []) := by
    intro H_19 lo_19 dr_21 hd_21 I_19 ls_20 hl_20
    refine lv_iload_n hx hb dX11_agreement_156 rfl (lv_at hl_20 0 rfl) ?_
    refine lv_if_ne (tgt := 164) hx hb dX11_agreement_157 (by decide) (fun c24 => ?_) (fun c24 => ?_)
    · replace hf := (if_neg c24).symm.trans hf
      refine lv_iload hx hb dX11_agreement_164 (lv_at hl_20 1 rfl) ?_
      refine lv_i2d hx hb dX11_agreement_166 ?_
      refine lv_iload_n hx hb dX11_agreement_167 rfl (lv_at hl_20 0 rfl) ?_
      refine lv_i2d hx hb dX11_agreement_168 ?_
      refine lv_ddiv_any hd_21 lw_bits hx hb dX11_agreement_169 (fun u22 dr_23 alu22 hd_23 => ?_)
      have hu22 := al_ddiv alu22 (al_rf _) (al_rf _)
      cases hf
      exact ret H_19 lo_19 _ ls_20 dr_23 _ _ hd_23 I_19 ⟨rfl, rfl, ha, rfl⟩ hu22 dX11_agreement_170
    · replace hf := (if_pos c24).symm.trans hf
      refine lv_dconst0 hx hb dX11_agreement_160 ?_
      refine lv_goto (tgt := 170) hx hb dX11_agreement_161 (by decide) ?_
      cases hf
      exact ret H_19 lo_19 _ ls_20 dr_21 _ _ hd_21 I_19 ⟨rfl, rfl, ha, rfl⟩ (al_rf _) dX11_agreement_170
  have L1 : ∀ (n : Nat) (x14 : Int32) (x15 : Int32) (x16 : Int32), lp (fun q => C_LT_agreement_s1 G8 q.1 q.2.1 q.2.2) n (x14, x15, x16) = some (x17, x18) → ∀ (H : Heap) (locs : List Loc) (d : Drawn), s.drawn.sameBut d lw_cs → sInv D (cT cI cJ cD cS) (cW ad cI cJ cD cS) A s H locs (G8, E, Dm, P, Z) → ∀ (ls : Array Slot), lv_has ls 9 [(0, .ref (ad 0)), (3, .int x14), (4, .int x15), (5, .int x16)] → W p l e R (s.setDrawn d) m args below meth c H locs 0 0 Q (F0 m 48 ls []) := by
    intro n
    induction n with
    | zero => intro x14 x15 x16 hq; exact (lp_0 hq).elim
    | succ n ih1 =>
      intro x14 x15 x16 hq H_25 lo_25 dr_27 hd_27 I_25 ls_26 hl_26
      obtain ⟨y1, hf, hK1⟩ := lp_go hq
      replace hf : C_LT_agreement_s1 G8 x14 x15 x16 = some y1 := hf
      unfold C_LT_agreement_s1 at hf
      refine lv_iload hx hb dX11_agreement_48 (lv_at hl_26 3 rfl) ?_
      refine lv_aload_n hx hb dX11_agreement_50 rfl (lv_at hl_26 0 rfl) ?_
      refine kgtX11_89_0 (Fdr F) (Idr I_25) dX11_agreement_51 ?_
      refine lv_icmp_ge (tgt := 156) hx hb dX11_agreement_54 (by decide) (fun c88 => ?_) (fun c88 => ?_)
      · replace hf := (if_pos c88).symm.trans hf
        cases hf
        cases (show (x14, x15) = (x17, x18) from hK1)
        exact K1 H_25 lo_25 dr_27 hd_27 I_25 ls_26 (lv_sub hl_26 [1, 2] rfl)
      · replace hf := (if_neg c88).symm.trans hf
        refine lv_iload hx hb dX11_agreement_57 (lv_at hl_26 3 rfl) ?_
        refine lv_iconst (v := (1 : Int32)) hx hb dX11_agreement_59 (by decide) ?_
        refine lv_iadd hx hb dX11_agreement_60 ?_
        refine lv_topi (fun x28 ex28 => ?_)
        replace hf := nm_some ex28 hf
        refine lv_istore (lv' := [(6, .int x28), (0, .ref (ad 0)), (3, .int x14), (4, .int x15), (5, .int x16)]) hx hb dX11_agreement_61 hl_26 (by decide) rfl (fun ls_29 hl_29 => ?_)
        obtain ⟨x33, x34, hq2, hf⟩ := bd2_some hf
        have K2 : ∀ (H : Heap) (locs : List Loc) (d : Drawn), s.drawn.sameBut d lw_cs → sInv D (cT cI cJ cD cS) (cW ad cI cJ cD cS) A s H locs (G8, E, Dm, P, Z) → ∀ (ls : Array Slot), lv_has ls 9 [(0, .ref (ad 0)), (3, .int x33), (4, .int x34), (5, .int x16)] → W p l e R (s.setDrawn d) m args below meth c H locs 0 0 Q (F0 m 150 ls []) := by
          intro H_35 lo_35 dr_37 hd_37 I_35 ls_36 hl_36
          obtain ⟨x38, ex38⟩ : ∃ y : Int32, y = x16 + (1 : Int32) := ⟨_, rfl⟩
          replace hf := nm_some ex38 hf
          refine lv_iinc (v := x38) (lv' := [(5, .int x38), (0, .ref (ad 0)), (3, .int x33), (4, .int x34)]) hx hb dX11_agreement_150 hl_36 (k := 3) rfl (by rw [ex38]; rfl) (by decide) rfl (fun ls_39 hl_39 => ?_)
          refine lv_goto (tgt := 48) hx hb dX11_agreement_153 (by decide) ?_
          cases hf
          exact ih1 _ _ _ hK1 H_35 lo_35 dr_37 hd_37 I_35 ls_39 (lv_sub hl_39 [1, 2, 3, 0] rfl)
        have L2 : ∀ (n : Nat) (x30 : Int32) (x31 : Int32) (x32 : Int32), lp (fun q => C_LT_agreement_s2 x16 G8 q.1 q.2.1 q.2.2) n (x30, x31, x32) = some (x33, x34) → ∀ (H : Heap) (locs : List Loc) (d : Drawn), s.drawn.sameBut d lw_cs → sInv D (cT cI cJ cD cS) (cW ad cI cJ cD cS) A s H locs (G8, E, Dm, P, Z) → ∀ (ls : Array Slot), lv_has ls 9 [(0, .ref (ad 0)), (3, .int x30), (4, .int x31), (5, .int x16), (6, .int x32)] → W p l e R (s.setDrawn d) m args below meth c H locs 0 0 Q (F0 m 63 ls []) := by
          intro n
          induction n with
          | zero => intro x30 x31 x32 hq; exact (lp_0 hq).elim
          | succ n ih2 =>
            intro x30 x31 x32 hq H_40 lo_40 dr_42 hd_42 I_40 ls_41 hl_41
            obtain ⟨y2, hf, hK2⟩ := lp_go hq
            replace hf : C_LT_agreement_s2 x16 G8 x30 x31 x32 = some y2 := hf
            unfold C_LT_agreement_s2 at hf
            refine lv_iload hx hb dX11_agreement_63 (lv_at hl_41 4 rfl) ?_
            refine lv_aload_n hx hb dX11_agreement_65 rfl (lv_at hl_41 0 rfl) ?_
            refine kgtX11_89_0 (Fdr F) (Idr I_40) dX11_agreement_66 ?_
            refine lv_icmp_ge (tgt := 150) hx hb dX11_agreement_69 (by decide) (fun c87 => ?_) (fun c87 => ?_)
            · replace hf := (if_pos c87).symm.trans hf
              cases hf
              cases (show (x30, x31) = (x33, x34) from hK2)
              exact K2 H_40 lo_40 dr_42 hd_42 I_40 ls_41 (lv_sub hl_41 [0, 1, 2, 3] rfl)
            · replace hf := (if_neg c87).symm.trans hf
              refine lv_aload_n hx hb dX11_agreement_72 rfl (lv_at hl_41 0 rfl) ?_
              refine kgtX11_44_0 (Fdr F) (Idr I_40) dX11_agreement_73 ?_
              refine lv_iload hx hb dX11_agreement_76 (lv_at hl_41 3 rfl) ?_
              refine lv_iload hx hb dX11_agreement_78 (lv_at hl_41 4 rfl) ?_
              obtain ⟨r43, h44, hf⟩ := bd_some hf
              refine s_callVi (As := [.int x16, .int x32]) (rest := []) (Fdr F) (Idr I_40) (cC_LE_lead_12 G8 E Dm P Z x16 x32 r43 h44) kX11_208 ⟨rfl, rfl⟩ ⟨Nat.le_trans (Nat.le_of_ble_eq_true rfl) hRf, Nat.le_trans (Nat.le_of_ble_eq_true rfl) hRl⟩ (12) 3 rfl rfl rfl rfl rfl hl_41.1 (Nat.le_of_ble_eq_true rfl) ⟨Nat.zero_le _, Nat.zero_le _⟩ dX11_agreement_80 ?_
              intro H_45 lo_45 I_45
              replace I_45 := Irr I_45
              refine lv_istore (lv' := [(7, .int r43), (0, .ref (ad 0)), (3, .int x30), (4, .int x31), (5, .int x16), (6, .int x32)]) hx hb dX11_agreement_83 hl_41 (by decide) rfl (fun ls_46 hl_46 => ?_)
              refine lv_aload_n hx hb dX11_agreement_85 rfl (lv_at hl_46 1 rfl) ?_
              refine kgtX11_48_0 (Fdr F) (Idr I_45) dX11_agreement_86 ?_
              refine lv_iload hx hb dX11_agreement_89 (lv_at hl_46 4 rfl) ?_
              refine lv_iload hx hb dX11_agreement_91 (lv_at hl_46 5 rfl) ?_
              obtain ⟨r47, h48, hf⟩ := bd_some hf
              refine s_callVi (As := [.int x16, .int x32]) (rest := []) (Fdr F) (Idr I_45) (cC_LE_lead_14 G8 E Dm P Z x16 x32 r47 h48) kX11_208 ⟨rfl, rfl⟩ ⟨Nat.le_trans (Nat.le_of_ble_eq_true rfl) hRf, Nat.le_trans (Nat.le_of_ble_eq_true rfl) hRl⟩ (14) 3 rfl rfl rfl rfl rfl hl_46.1 (Nat.le_of_ble_eq_true rfl) ⟨Nat.zero_le _, Nat.zero_le _⟩ dX11_agreement_93 ?_
              intro H_49 lo_49 I_49
              replace I_49 := Irr I_49
              refine lv_istore (lv' := [(8, .int r47), (7, .int r43), (0, .ref (ad 0)), (3, .int x30), (4, .int x31), (5, .int x16), (6, .int x32)]) hx hb dX11_agreement_96 hl_46 (by decide) rfl (fun ls_50 hl_50 => ?_)
              refine lv_iload hx hb dX11_agreement_98 (lv_at hl_50 1 rfl) ?_
              obtain ⟨x52, x53, hv59, hf⟩ := bd2_some hf
              have J51 : ∀ (H : Heap) (locs : List Loc) (d : Drawn), s.drawn.sameBut d lw_cs → sInv D (cT cI cJ cD cS) (cW ad cI cJ cD cS) A s H locs (G8, E, Dm, P, Z) → ∀ (ls : Array Slot), lv_has ls 9 [(0, .ref (ad 0)), (3, .int x52), (4, .int x53), (5, .int x16), (6, .int x32)] → W p l e R (s.setDrawn d) m args below meth c H locs 0 0 Q (F0 m 144 ls []) := by
                intro H_54 lo_54 dr_56 hd_56 I_54 ls_55 hl_55
                obtain ⟨x57, ex57⟩ : ∃ y : Int32, y = x32 + (1 : Int32) := ⟨_, rfl⟩
                replace hf := nm_some ex57 hf
                refine lv_iinc (v := x57) (lv' := [(6, .int x57), (0, .ref (ad 0)), (3, .int x52), (4, .int x53), (5, .int x16)]) hx hb dX11_agreement_144 hl_55 (k := 4) rfl (by rw [ex57]; rfl) (by decide) rfl (fun ls_58 hl_58 => ?_)
                refine lv_goto (tgt := 63) hx hb dX11_agreement_147 (by decide) ?_
                cases hf
                exact ih2 _ _ _ hK2 H_54 lo_54 dr_56 hd_56 I_54 ls_58 (lv_sub hl_58 [1, 2, 3, 4, 0] rfl)
              replace hf := hv59
              refine lv_if_eq (tgt := 144) hx hb dX11_agreement_100 (by decide) (fun c86 => ?_) (fun c86 => ?_)
              · replace hf := (if_pos c86).symm.trans hf
                cases hf
                exact J51 H_49 lo_49 dr_42 hd_42 I_49 ls_50 (lv_sub hl_50 [2, 3, 4, 5, 6] rfl)
              · replace hf := (if_neg c86).symm.trans hf
                refine lv_iload hx hb dX11_agreement_103 (lv_at hl_50 0 rfl) ?_
                refine lv_if_eq (tgt := 144) hx hb dX11_agreement_105 (by decide) (fun c85 => ?_) (fun c85 => ?_)
                · replace hf := (if_pos c85).symm.trans hf
                  cases hf
                  exact J51 H_49 lo_49 dr_42 hd_42 I_49 ls_50 (lv_sub hl_50 [2, 3, 4, 5, 6] rfl)
                · replace hf := (if_neg c85).symm.trans hf
                  obtain ⟨x60, ex60⟩ : ∃ y : Int32, y = x30 + (1 : Int32) := ⟨_, rfl⟩
                  replace hf := nm_some ex60 hf
                  refine lv_iinc (v := x60) (lv' := [(3, .int x60), (8, .int r47), (7, .int r43), (0, .ref (ad 0)), (4, .int x31), (5, .int x16), (6, .int x32)]) hx hb dX11_agreement_108 hl_50 (k := 3) rfl (by rw [ex60]; rfl) (by decide) rfl (fun ls_61 hl_61 => ?_)
                  refine lv_iload hx hb dX11_agreement_111 (lv_at hl_61 4 rfl) ?_
                  refine lv_iload hx hb dX11_agreement_113 (lv_at hl_61 2 rfl) ?_
                  obtain ⟨x63, hv83, hf⟩ := bd_some hf
                  have J62 : ∀ (H : Heap) (locs : List Loc) (d : Drawn), s.drawn.sameBut d lw_cs → sInv D (cT cI cJ cD cS) (cW ad cI cJ cD cS) A s H locs (G8, E, Dm, P, Z) → ∀ (ls : Array Slot), lv_has ls 9 [(0, .ref (ad 0)), (3, .int x60), (5, .int x16), (6, .int x32), (8, .int r47)] → W p l e R (s.setDrawn d) m args below meth c H locs 0 0 Q (F0 m 123 ls [.int x63, .int x31]) := by
                    intro H_64 lo_64 dr_66 hd_66 I_64 ls_65 hl_65
                    refine lv_iload hx hb dX11_agreement_123 (lv_at hl_65 4 rfl) ?_
                    obtain ⟨x68, hv81, hf⟩ := bd_some hf
                    have J67 : ∀ (H : Heap) (locs : List Loc) (d : Drawn), s.drawn.sameBut d lw_cs → sInv D (cT cI cJ cD cS) (cW ad cI cJ cD cS) A s H locs (G8, E, Dm, P, Z) → ∀ (ls : Array Slot), lv_has ls 9 [(0, .ref (ad 0)), (3, .int x60), (5, .int x16), (6, .int x32)] → W p l e R (s.setDrawn d) m args below meth c H locs 0 0 Q (F0 m 133 ls [.int x68, .int x63, .int x31]) := by
                      intro H_69 lo_69 dr_71 hd_71 I_69 ls_70 hl_70
                      obtain ⟨x73, hv79, hf⟩ := bd_some hf
                      have J72 : ∀ (H : Heap) (locs : List Loc) (d : Drawn), s.drawn.sameBut d lw_cs → sInv D (cT cI cJ cD cS) (cW ad cI cJ cD cS) A s H locs (G8, E, Dm, P, Z) → ∀ (ls : Array Slot), lv_has ls 9 [(0, .ref (ad 0)), (3, .int x60), (5, .int x16), (6, .int x32)] → W p l e R (s.setDrawn d) m args below meth c H locs 0 0 Q (F0 m 141 ls [.int x73, .int x31]) := by
                        intro H_74 lo_74 dr_76 hd_76 I_74 ls_75 hl_75
                        refine lv_iadd hx hb dX11_agreement_141 ?_
                        refine lv_topi (fun x77 ex77 => ?_)
                        replace hf := nm_some ex77 hf
                        refine lv_istore (lv' := [(4, .int x77), (0, .ref (ad 0)), (3, .int x60), (5, .int x16), (6, .int x32)]) hx hb dX11_agreement_142 hl_75 (by decide) rfl (fun ls_78 hl_78 => ?_)
                        cases hf
                        exact J51 H_74 lo_74 dr_76 hd_76 I_74 ls_78 (lv_sub hl_78 [1, 2, 0, 3, 4] rfl)
                      replace hf := hv79
                      refine lv_icmp_ne (tgt := 140) hx hb dX11_agreement_133 (by decide) (fun c80 => ?_) (fun c80 => ?_)
                      · replace hf := (if_neg c80).symm.trans hf
                        refine lv_iconst (v := (-1 : Int32)) hx hb dX11_agreement_140 (by decide) ?_
                        cases hf
                        exact J72 H_69 lo_69 dr_71 hd_71 I_69 ls_70 (lv_sub hl_70 [0, 1, 2, 3] rfl)
                      · replace hf := (if_pos c80).symm.trans hf
                        refine lv_iconst (v := (1 : Int32)) hx hb dX11_agreement_136 (by decide) ?_
                        refine lv_goto (tgt := 141) hx hb dX11_agreement_137 (by decide) ?_
                        cases hf
                        exact J72 H_69 lo_69 dr_71 hd_71 I_69 ls_70 (lv_sub hl_70 [0, 1, 2, 3] rfl)
                    replace hf := hv81
                    refine lv_if_le (tgt := 132) hx hb dX11_agreement_125 (by decide) (fun c82 => ?_) (fun c82 => ?_)
                    · replace hf := (if_pos c82).symm.trans hf
                      refine lv_iconst (v := (0 : Int32)) hx hb dX11_agreement_132 (by decide) ?_
                      cases hf
                      exact J67 H_64 lo_64 dr_66 hd_66 I_64 ls_65 (lv_sub hl_65 [0, 1, 2, 3] rfl)
                    · replace hf := (if_neg c82).symm.trans hf
                      refine lv_iconst (v := (1 : Int32)) hx hb dX11_agreement_128 (by decide) ?_
                      refine lv_goto (tgt := 133) hx hb dX11_agreement_129 (by decide) ?_
                      cases hf
                      exact J67 H_64 lo_64 dr_66 hd_66 I_64 ls_65 (lv_sub hl_65 [0, 1, 2, 3] rfl)
                  replace hf := hv83
                  refine lv_if_le (tgt := 122) hx hb dX11_agreement_115 (by decide) (fun c84 => ?_) (fun c84 => ?_)
                  · replace hf := (if_pos c84).symm.trans hf
                    refine lv_iconst (v := (0 : Int32)) hx hb dX11_agreement_122 (by decide) ?_
                    cases hf
                    exact J62 H_49 lo_49 dr_42 hd_42 I_49 ls_61 (lv_sub hl_61 [3, 0, 5, 6, 1] rfl)
                  · replace hf := (if_neg c84).symm.trans hf
                    refine lv_iconst (v := (1 : Int32)) hx hb dX11_agreement_118 (by decide) ?_
                    refine lv_goto (tgt := 123) hx hb dX11_agreement_119 (by decide) ?_
                    cases hf
                    exact J62 H_49 lo_49 dr_42 hd_42 I_49 ls_61 (lv_sub hl_61 [3, 0, 5, 6, 1] rfl)
        exact L2 FU _ _ _ hq2 H_25 lo_25 dr_27 hd_27 I_25 ls_29 (lv_sub hl_29 [1, 2, 3, 4, 0] rfl)
  exact L1 FU _ _ _ hq1 H_10 lo_10 dr hd I_10 ls_13 (lv_sub hl_13 [3, 2, 1, 0] rfl)
def C_LT_chance (G : Nat → Nat → Int32) (a0 : Int32) (a1 : Int32) : Option (Int64 × (Nat → Nat → Int32)) :=
bd0 (C_LT_requireIndex a0 (G 0 0)) <|
bd0 (C_LT_requireIndex a1 (G 0 0)) <|
bd (if a0 = a1 then
(some (0 : Int32))
else
(some (1 : Int32))) fun x6 =>
bd0 (C_LT_requireArgument x6) <|
bd (C_TA_take G) fun G12 =>
bd (C_TA_chanceOf G12 a0 a1) fun r15 =>
some (r15, G12)
set_option maxRecDepth 100000 in
set_option maxHeartbeats 4000000 in
theorem cC_LT_chance (G : Nat → Nat → Int32) (E : Nat → Nat → Int64) (Dd : Nat → Nat → UInt64) (P : Nat → Option PRec) (Z : List PRec) (a0 : Int32) (a1 : Int32) (rv : Int64) (newG : Nat → Nat → Int32) (hf : C_LT_chance G a0 a1 = some (rv, newG)) : sMl D (cT cI cJ cD cS) (cW ad cI cJ cD cS) l yX11_chance (ws1 yX11_chance cX11_chance 3 (some .long)) ({ frames := 3, cells := 0, slots := 0, locals := 73 }) [.ref (ad 0), .int a0, .int a1] (G, E, Dd, P, Z) (rv, (newG, E, Dd, P, Z)) := by
  unfold C_LT_chance at hf
  refine sMl_of (by decide) (Nat.le_of_ble_eq_true rfl) ?_
  intro p e R s m args below meth c A Q ls H lo F hRf hRl I hl ret
  obtain ⟨hx, hb, hml, hown, hG⟩ := id F
  replace hl : lv_has ls 3 [(0, .ref (ad 0)), (1, .int a0), (2, .int a1)] := hl
  refine lv_iload_n hx hb dX11_chance_0 rfl (lv_at hl 1 rfl) ?_
  refine lv_aload_n hx hb dX11_chance_1 rfl (lv_at hl 0 rfl) ?_
  refine kgtX11_89_0 F I dX11_chance_2 ?_
  obtain ⟨h1, hf⟩ := bd0_some hf
  refine s_callSv (As := [.int a0, .int (G 0 0)]) (rest := []) F I (cC_LT_requireIndex G E Dd P Z a0 (G 0 0) h1) kX11_84 ⟨rfl, rfl⟩ ⟨Nat.le_trans (Nat.le_of_ble_eq_true rfl) hRf, Nat.le_trans (Nat.le_of_ble_eq_true rfl) hRl⟩ rfl rfl hl.1 (Nat.le_of_ble_eq_true rfl) ⟨Nat.zero_le _, Nat.zero_le _⟩ dX11_chance_5 ?_
  intro H_2 lo_2 I_2
  refine lv_iload_n hx hb dX11_chance_8 rfl (lv_at hl 2 rfl) ?_
  refine lv_aload_n hx hb dX11_chance_9 rfl (lv_at hl 0 rfl) ?_
  refine kgtX11_89_0 F I_2 dX11_chance_10 ?_
  obtain ⟨h3, hf⟩ := bd0_some hf
  refine s_callSv (As := [.int a1, .int (G 0 0)]) (rest := []) F I_2 (cC_LT_requireIndex G E Dd P Z a1 (G 0 0) h3) kX11_84 ⟨rfl, rfl⟩ ⟨Nat.le_trans (Nat.le_of_ble_eq_true rfl) hRf, Nat.le_trans (Nat.le_of_ble_eq_true rfl) hRl⟩ rfl rfl hl.1 (Nat.le_of_ble_eq_true rfl) ⟨Nat.zero_le _, Nat.zero_le _⟩ dX11_chance_13 ?_
  intro H_4 lo_4 I_4
  refine lv_iload_n hx hb dX11_chance_16 rfl (lv_at hl 1 rfl) ?_
  refine lv_iload_n hx hb dX11_chance_17 rfl (lv_at hl 2 rfl) ?_
  obtain ⟨x6, hv18, hf⟩ := bd_some hf
  have J5 : ∀ (H : Heap) (locs : List Loc), sInv D (cT cI cJ cD cS) (cW ad cI cJ cD cS) A s H locs (G, E, Dd, P, Z) → ∀ (ls : Array Slot), lv_has ls 3 [(0, .ref (ad 0)), (1, .int a0), (2, .int a1)] → W p l e R s m args below meth c H locs 0 0 Q (F0 m 26 ls [.int x6]) := by
    intro H_7 lo_7 I_7 ls_8 hl_8
    obtain ⟨h10, hf⟩ := bd0_some hf
    refine s_callSv (As := [.int x6]) (rest := []) F I_7 (cC_LT_requireArgument G E Dd P Z x6 h10) kX11_76 ⟨rfl, rfl⟩ ⟨Nat.le_trans (Nat.le_of_ble_eq_true rfl) hRf, Nat.le_trans (Nat.le_of_ble_eq_true rfl) hRl⟩ rfl rfl hl_8.1 (Nat.le_of_ble_eq_true rfl) ⟨Nat.zero_le _, Nat.zero_le _⟩ dX11_chance_26 ?_
    intro H_11 lo_11 I_11
    refine lv_aload_n hx hb dX11_chance_29 rfl (lv_at hl_8 0 rfl) ?_
    refine kgtX11_37_0 F I_11 dX11_chance_30 ?_
    refine lv_aload_n hx hb dX11_chance_33 rfl (lv_at hl_8 0 rfl) ?_
    refine kgtX11_16_0 F I_11 dX11_chance_34 ?_
    obtain ⟨G12, h13, hf⟩ := bd_some hf
    refine s_callVv (As := [.ref (ad 2)]) (rest := []) F I_11 (cC_TA_take G E Dd P Z G12 h13) kX11_211 ⟨rfl, rfl⟩ ⟨Nat.le_trans (Nat.le_of_ble_eq_true rfl) hRf, Nat.le_trans (Nat.le_of_ble_eq_true rfl) hRl⟩ (9) 9 rfl rfl rfl rfl rfl hl_8.1 (Nat.le_of_ble_eq_true rfl) ⟨Nat.zero_le _, Nat.zero_le _⟩ dX11_chance_37 ?_
    intro H_14 lo_14 I_14
    refine lv_aload_n hx hb dX11_chance_40 rfl (lv_at hl_8 0 rfl) ?_
    refine kgtX11_37_0 F I_14 dX11_chance_41 ?_
    refine lv_iload_n hx hb dX11_chance_44 rfl (lv_at hl_8 1 rfl) ?_
    refine lv_iload_n hx hb dX11_chance_45 rfl (lv_at hl_8 2 rfl) ?_
    obtain ⟨r15, h16, hf⟩ := bd_some hf
    refine s_callVl (As := [.int a0, .int a1]) (rest := []) F I_14 (cC_TA_chanceOf G12 E Dd P Z a0 a1 r15 h16) kX11_249 ⟨rfl, rfl⟩ ⟨Nat.le_trans (Nat.le_of_ble_eq_true rfl) hRf, Nat.le_trans (Nat.le_of_ble_eq_true rfl) hRl⟩ (9) 9 rfl rfl rfl rfl rfl hl_8.1 (Nat.le_of_ble_eq_true rfl) ⟨Nat.zero_le _, Nat.zero_le _⟩ dX11_chance_46 ?_
    intro H_17 lo_17 I_17
    cases hf
    exact ret H_17 lo_17 _ ls_8 I_17 dX11_chance_49
  replace hf := hv18
  refine lv_icmp_eq (tgt := 25) hx hb dX11_chance_18 (by decide) (fun c19 => ?_) (fun c19 => ?_)
  · replace hf := (if_pos c19).symm.trans hf
    refine lv_iconst (v := (0 : Int32)) hx hb dX11_chance_25 (by decide) ?_
    cases hf
    exact J5 H_4 lo_4 I_4 ls (lv_sub hl [0, 1, 2] rfl)
  · replace hf := (if_neg c19).symm.trans hf
    refine lv_iconst (v := (1 : Int32)) hx hb dX11_chance_21 (by decide) ?_
    refine lv_goto (tgt := 26) hx hb dX11_chance_22 (by decide) ?_
    cases hf
    exact J5 H_4 lo_4 I_4 ls (lv_sub hl [0, 1, 2] rfl)
def C_LT_placeChance (G : Nat → Nat → Int32) : Option (Int64) :=
bd (C_CO_countAnswers G (1 : Int32)) fun r1 =>
bd (C_CO_countAnswers G (2 : Int32)) fun r4 =>
bd (C_LT_coinChance r1 r4) fun r7 =>
some r7
set_option maxRecDepth 100000 in
set_option maxHeartbeats 4000000 in
theorem cC_LT_placeChance (G : Nat → Nat → Int32) (E : Nat → Nat → Int64) (Dd : Nat → Nat → UInt64) (P : Nat → Option PRec) (Z : List PRec)  (rv : Int64)  (hf : C_LT_placeChance G = some rv) : sMl D (cT cI cJ cD cS) (cW ad cI cJ cD cS) l yX11_placeChance (ws1 yX11_placeChance cX11_placeChance 1 (some .long)) ({ frames := 2, cells := 0, slots := 0, locals := 51 }) [.ref (ad 0)] (G, E, Dd, P, Z) (rv, (G, E, Dd, P, Z)) := by
  unfold C_LT_placeChance at hf
  refine sMl_of (by decide) (Nat.le_of_ble_eq_true rfl) ?_
  intro p e R s m args below meth c A Q ls H lo F hRf hRl I hl ret
  obtain ⟨hx, hb, hml, hown, hG⟩ := id F
  replace hl : lv_has ls 1 [(0, .ref (ad 0))] := hl
  refine lv_aload_n hx hb dX11_placeChance_0 rfl (lv_at hl 0 rfl) ?_
  refine kgtX11_16_0 F I dX11_placeChance_1 ?_
  refine lv_iconst (v := (1 : Int32)) hx hb dX11_placeChance_4 (by decide) ?_
  obtain ⟨r1, h2, hf⟩ := bd_some hf
  refine s_callVi (As := [.int (1 : Int32)]) (rest := []) F I (cC_CO_countAnswers G E Dd P Z (1 : Int32) r1 h2) kX11_253 ⟨rfl, rfl⟩ ⟨Nat.le_trans (Nat.le_of_ble_eq_true rfl) hRf, Nat.le_trans (Nat.le_of_ble_eq_true rfl) hRl⟩ (2) 1 rfl rfl rfl rfl rfl hl.1 (Nat.le_of_ble_eq_true rfl) ⟨Nat.zero_le _, Nat.zero_le _⟩ dX11_placeChance_5 ?_
  intro H_3 lo_3 I_3
  refine lv_aload_n hx hb dX11_placeChance_8 rfl (lv_at hl 0 rfl) ?_
  refine kgtX11_16_0 F I_3 dX11_placeChance_9 ?_
  refine lv_iconst (v := (2 : Int32)) hx hb dX11_placeChance_12 (by decide) ?_
  obtain ⟨r4, h5, hf⟩ := bd_some hf
  refine s_callVi (As := [.int (2 : Int32)]) (rest := [.int r1]) F I_3 (cC_CO_countAnswers G E Dd P Z (2 : Int32) r4 h5) kX11_253 ⟨rfl, rfl⟩ ⟨Nat.le_trans (Nat.le_of_ble_eq_true rfl) hRf, Nat.le_trans (Nat.le_of_ble_eq_true rfl) hRl⟩ (2) 1 rfl rfl rfl rfl rfl hl.1 (Nat.le_of_ble_eq_true rfl) ⟨Nat.zero_le _, Nat.zero_le _⟩ dX11_placeChance_13 ?_
  intro H_6 lo_6 I_6
  obtain ⟨r7, h8, hf⟩ := bd_some hf
  refine s_callSl (As := [.int r1, .int r4]) (rest := []) F I_6 (cC_LT_coinChance G E Dd P Z r1 r4 r7 h8) kX11_256 ⟨rfl, rfl⟩ ⟨Nat.le_trans (Nat.le_of_ble_eq_true rfl) hRf, Nat.le_trans (Nat.le_of_ble_eq_true rfl) hRl⟩ rfl rfl hl.1 (Nat.le_of_ble_eq_true rfl) ⟨Nat.zero_le _, Nat.zero_le _⟩ dX11_placeChance_16 ?_
  intro H_9 lo_9 I_9
  cases hf
  exact ret H_9 lo_9 _ ls I_9 dX11_placeChance_19
def C_LT_provedAt (G : Nat → Nat → Int32) (E : Nat → Nat → Int64) (a0 : Int32) : Option (Int32 × (Nat → Nat → Int32) × (Nat → Nat → Int64)) :=
bd (C_TA_take G) fun G1 =>
bd2 (C_PP_take G1 E (G1 0 0)) fun G4 E5 =>
bd (C_PP_countAt G4 E5 a0) fun r8 =>
some (r8, G4, E5)
set_option maxRecDepth 100000 in
set_option maxHeartbeats 4000000 in
theorem cC_LT_provedAt (G : Nat → Nat → Int32) (E : Nat → Nat → Int64) (Dd : Nat → Nat → UInt64) (P : Nat → Option PRec) (Z : List PRec) (a0 : Int32) (rv : Int32) (newG : Nat → Nat → Int32) (newE : Nat → Nat → Int64) (hf : C_LT_provedAt G E a0 = some (rv, newG, newE)) : sMi D (cT cI cJ cD cS) (cW ad cI cJ cD cS) l yX11_provedAt (ws1 yX11_provedAt cX11_provedAt 2 (some .int)) ({ frames := 4, cells := 0, slots := 0, locals := 97 }) [.ref (ad 0), .int a0] (G, E, Dd, P, Z) (rv, (newG, newE, Dd, P, Z)) := by
  unfold C_LT_provedAt at hf
  refine sMi_of (by decide) (Nat.le_of_ble_eq_true rfl) ?_
  intro p e R s m args below meth c A Q ls H lo F hRf hRl I hl ret
  obtain ⟨hx, hb, hml, hown, hG⟩ := id F
  replace hl : lv_has ls 2 [(0, .ref (ad 0)), (1, .int a0)] := hl
  refine lv_aload_n hx hb dX11_provedAt_0 rfl (lv_at hl 0 rfl) ?_
  refine kgtX11_37_0 F I dX11_provedAt_1 ?_
  refine lv_aload_n hx hb dX11_provedAt_4 rfl (lv_at hl 0 rfl) ?_
  refine kgtX11_16_0 F I dX11_provedAt_5 ?_
  obtain ⟨G1, h2, hf⟩ := bd_some hf
  refine s_callVv (As := [.ref (ad 2)]) (rest := []) F I (cC_TA_take G E Dd P Z G1 h2) kX11_211 ⟨rfl, rfl⟩ ⟨Nat.le_trans (Nat.le_of_ble_eq_true rfl) hRf, Nat.le_trans (Nat.le_of_ble_eq_true rfl) hRl⟩ (9) 9 rfl rfl rfl rfl rfl hl.1 (Nat.le_of_ble_eq_true rfl) ⟨Nat.zero_le _, Nat.zero_le _⟩ dX11_provedAt_8 ?_
  intro H_3 lo_3 I_3
  refine lv_aload_n hx hb dX11_provedAt_11 rfl (lv_at hl 0 rfl) ?_
  refine kgtX11_61_0 F I_3 dX11_provedAt_12 ?_
  refine lv_aload_n hx hb dX11_provedAt_15 rfl (lv_at hl 0 rfl) ?_
  refine kgtX11_37_0 F I_3 dX11_provedAt_16 ?_
  refine lv_aload_n hx hb dX11_provedAt_19 rfl (lv_at hl 0 rfl) ?_
  refine kgtX11_89_0 F I_3 dX11_provedAt_20 ?_
  obtain ⟨G4, E5, h6, hf⟩ := bd2_some hf
  refine s_callVv (As := [.ref (ad 9), .int (G1 0 0)]) (rest := []) F I_3 (cC_PP_take G1 E Dd P Z (G1 0 0) G4 E5 h6) kX11_332 ⟨rfl, rfl⟩ ⟨Nat.le_trans (Nat.le_of_ble_eq_true rfl) hRf, Nat.le_trans (Nat.le_of_ble_eq_true rfl) hRl⟩ (30) 5 rfl rfl rfl rfl rfl hl.1 (Nat.le_of_ble_eq_true rfl) ⟨Nat.zero_le _, Nat.zero_le _⟩ dX11_provedAt_23 ?_
  intro H_7 lo_7 I_7
  refine lv_aload_n hx hb dX11_provedAt_26 rfl (lv_at hl 0 rfl) ?_
  refine kgtX11_61_0 F I_7 dX11_provedAt_27 ?_
  refine lv_iload_n hx hb dX11_provedAt_30 rfl (lv_at hl 1 rfl) ?_
  obtain ⟨r8, h9, hf⟩ := bd_some hf
  refine s_callVi (As := [.int a0]) (rest := []) F I_7 (cC_PP_countAt G4 E5 Dd P Z a0 r8 h9) kX11_335 ⟨rfl, rfl⟩ ⟨Nat.le_trans (Nat.le_of_ble_eq_true rfl) hRf, Nat.le_trans (Nat.le_of_ble_eq_true rfl) hRl⟩ (30) 5 rfl rfl rfl rfl rfl hl.1 (Nat.le_of_ble_eq_true rfl) ⟨Nat.zero_le _, Nat.zero_le _⟩ dX11_provedAt_31 ?_
  intro H_10 lo_10 I_10
  cases hf
  exact ret H_10 lo_10 _ ls I_10 dX11_provedAt_34
def C_LT_proved (G : Nat → Nat → Int32) (E : Nat → Nat → Int64) (a0 : Int32) (a1 : Int32) : Option (Int32 × (Nat → Nat → Int32) × (Nat → Nat → Int64)) :=
bd (if a0 < (1 : Int32) then
(some (0 : Int32))
else
(if (1000 : Int32) < a0 then
(some (0 : Int32))
else
(some (1 : Int32)))) fun x2 =>
bd0 (C_LT_requireArgument x2) <|
bd3 (C_LT_provedAt G E a0) fun r8 G9 E10 =>
if a1 = (-1 : Int32) then
(some (r8, G9, E10))
else
(bd0 (C_LT_requireIndex a1 r8) <|
bd (C_PP_namedPair G9 a1) fun r16 =>
some (r16, G9, E10))
set_option maxRecDepth 100000 in
set_option maxHeartbeats 4000000 in
theorem cC_LT_proved (G : Nat → Nat → Int32) (E : Nat → Nat → Int64) (Dd : Nat → Nat → UInt64) (P : Nat → Option PRec) (Z : List PRec) (a0 : Int32) (a1 : Int32) (rv : Int32) (newG : Nat → Nat → Int32) (newE : Nat → Nat → Int64) (hf : C_LT_proved G E a0 a1 = some (rv, newG, newE)) : sMi D (cT cI cJ cD cS) (cW ad cI cJ cD cS) l yX11_proved (ws1 yX11_proved cX11_proved 4 (some .int)) ({ frames := 5, cells := 0, slots := 0, locals := 118 }) [.ref (ad 0), .int a0, .int a1] (G, E, Dd, P, Z) (rv, (newG, newE, Dd, P, Z)) := by
  unfold C_LT_proved at hf
  refine sMi_of (by decide) (Nat.le_of_ble_eq_true rfl) ?_
  intro p e R s m args below meth c A Q ls H lo F hRf hRl I hl ret
  obtain ⟨hx, hb, hml, hown, hG⟩ := id F
  replace hl : lv_has ls 4 [(0, .ref (ad 0)), (1, .int a0), (2, .int a1)] := hl
  refine lv_iload_n hx hb dX11_proved_0 rfl (lv_at hl 1 rfl) ?_
  refine lv_iconst (v := (1 : Int32)) hx hb dX11_proved_1 (by decide) ?_
  obtain ⟨x2, hv20, hf⟩ := bd_some hf
  have J1 : ∀ (H : Heap) (locs : List Loc), sInv D (cT cI cJ cD cS) (cW ad cI cJ cD cS) A s H locs (G, E, Dd, P, Z) → ∀ (ls : Array Slot), lv_has ls 4 [(0, .ref (ad 0)), (1, .int a0), (2, .int a1)] → W p l e R s m args below meth c H locs 0 0 Q (F0 m 17 ls [.int x2]) := by
    intro H_3 lo_3 I_3 ls_4 hl_4
    obtain ⟨h6, hf⟩ := bd0_some hf
    refine s_callSv (As := [.int x2]) (rest := []) F I_3 (cC_LT_requireArgument G E Dd P Z x2 h6) kX11_76 ⟨rfl, rfl⟩ ⟨Nat.le_trans (Nat.le_of_ble_eq_true rfl) hRf, Nat.le_trans (Nat.le_of_ble_eq_true rfl) hRl⟩ rfl rfl hl_4.1 (Nat.le_of_ble_eq_true rfl) ⟨Nat.zero_le _, Nat.zero_le _⟩ dX11_proved_17 ?_
    intro H_7 lo_7 I_7
    refine lv_aload_n hx hb dX11_proved_20 rfl (lv_at hl_4 0 rfl) ?_
    refine lv_iload_n hx hb dX11_proved_21 rfl (lv_at hl_4 1 rfl) ?_
    obtain ⟨r8, G9, E10, h11, hf⟩ := bd3_some hf
    refine s_callVi (As := [.int a0]) (rest := []) F I_7 (cC_LT_provedAt G E Dd P Z a0 r8 G9 E10 h11) kX11_259 ⟨rfl, rfl⟩ ⟨Nat.le_trans (Nat.le_of_ble_eq_true rfl) hRf, Nat.le_trans (Nat.le_of_ble_eq_true rfl) hRl⟩ (0) 11 rfl rfl rfl rfl rfl hl_4.1 (Nat.le_of_ble_eq_true rfl) ⟨Nat.zero_le _, Nat.zero_le _⟩ dX11_proved_22 ?_
    intro H_12 lo_12 I_12
    refine lv_istore_n (lv' := [(3, .int r8), (0, .ref (ad 0)), (1, .int a0), (2, .int a1)]) hx hb dX11_proved_25 rfl hl_4 (by decide) rfl (fun ls_13 hl_13 => ?_)
    refine lv_iload_n hx hb dX11_proved_26 rfl (lv_at hl_13 3 rfl) ?_
    refine lv_iconst (v := (-1 : Int32)) hx hb dX11_proved_27 (by decide) ?_
    refine lv_icmp_ne (tgt := 33) hx hb dX11_proved_28 (by decide) (fun c19 => ?_) (fun c19 => ?_)
    · replace hf := (if_neg c19).symm.trans hf
      refine lv_iload_n hx hb dX11_proved_33 rfl (lv_at hl_13 3 rfl) ?_
      refine lv_iload_n hx hb dX11_proved_34 rfl (lv_at hl_13 0 rfl) ?_
      obtain ⟨h14, hf⟩ := bd0_some hf
      refine s_callSv (As := [.int a1, .int r8]) (rest := []) F I_12 (cC_LT_requireIndex G9 E10 Dd P Z a1 r8 h14) kX11_84 ⟨rfl, rfl⟩ ⟨Nat.le_trans (Nat.le_of_ble_eq_true rfl) hRf, Nat.le_trans (Nat.le_of_ble_eq_true rfl) hRl⟩ rfl rfl hl_13.1 (Nat.le_of_ble_eq_true rfl) ⟨Nat.zero_le _, Nat.zero_le _⟩ dX11_proved_35 ?_
      intro H_15 lo_15 I_15
      refine lv_aload_n hx hb dX11_proved_38 rfl (lv_at hl_13 1 rfl) ?_
      refine kgtX11_61_0 F I_15 dX11_proved_39 ?_
      refine lv_aload_n hx hb dX11_proved_42 rfl (lv_at hl_13 1 rfl) ?_
      refine kgtX11_37_0 F I_15 dX11_proved_43 ?_
      refine lv_iload_n hx hb dX11_proved_46 rfl (lv_at hl_13 3 rfl) ?_
      obtain ⟨r16, h17, hf⟩ := bd_some hf
      refine s_callVi (As := [.ref (ad 9), .int a1]) (rest := []) F I_15 (cC_PP_namedPair G9 E10 Dd P Z a1 r16 h17) kX11_262 ⟨rfl, rfl⟩ ⟨Nat.le_trans (Nat.le_of_ble_eq_true rfl) hRf, Nat.le_trans (Nat.le_of_ble_eq_true rfl) hRl⟩ (30) 5 rfl rfl rfl rfl rfl hl_13.1 (Nat.le_of_ble_eq_true rfl) ⟨Nat.zero_le _, Nat.zero_le _⟩ dX11_proved_47 ?_
      intro H_18 lo_18 I_18
      cases hf
      exact ret H_18 lo_18 _ ls_13 I_18 dX11_proved_50
    · replace hf := (if_pos c19).symm.trans hf
      refine lv_iload_n hx hb dX11_proved_31 rfl (lv_at hl_13 0 rfl) ?_
      cases hf
      exact ret H_12 lo_12 _ ls_13 I_12 dX11_proved_32
  replace hf := hv20
  refine lv_icmp_lt (tgt := 16) hx hb dX11_proved_2 (by decide) (fun c22 => ?_) (fun c22 => ?_)
  · replace hf := (if_pos c22).symm.trans hf
    refine lv_iconst (v := (0 : Int32)) hx hb dX11_proved_16 (by decide) ?_
    cases hf
    exact J1 H lo I ls (lv_sub hl [0, 1, 2] rfl)
  · replace hf := (if_neg c22).symm.trans hf
    refine lv_iload_n hx hb dX11_proved_5 rfl (lv_at hl 1 rfl) ?_
    refine lv_sipush (v := (1000 : Int32)) hx hb dX11_proved_6 (by decide) ?_
    refine lv_icmp_gt (tgt := 16) hx hb dX11_proved_9 (by decide) (fun c21 => ?_) (fun c21 => ?_)
    · replace hf := (if_pos c21).symm.trans hf
      refine lv_iconst (v := (0 : Int32)) hx hb dX11_proved_16 (by decide) ?_
      cases hf
      exact J1 H lo I ls (lv_sub hl [0, 1, 2] rfl)
    · replace hf := (if_neg c21).symm.trans hf
      refine lv_iconst (v := (1 : Int32)) hx hb dX11_proved_12 (by decide) ?_
      refine lv_goto (tgt := 17) hx hb dX11_proved_13 (by decide) ?_
      cases hf
      exact J1 H lo I ls (lv_sub hl [0, 1, 2] rfl)
def C_LT_fitStrengths (G : Nat → Nat → Int32) (Dd : Nat → Nat → UInt64) (a0 : Int32) : Option ((Nat → Nat → Int32) × (Nat → Nat → UInt64)) :=
bd (C_TA_take G) fun G1 =>
bd2 (C_SR_fit G1 Dd (G1 0 0) a0) fun G4 Dd5 =>
some (G4, Dd5)
set_option maxRecDepth 100000 in
set_option maxHeartbeats 4000000 in
theorem cC_LT_fitStrengths (G : Nat → Nat → Int32) (E : Nat → Nat → Int64) (Dd : Nat → Nat → UInt64) (P : Nat → Option PRec) (Z : List PRec) (a0 : Int32)  (newG : Nat → Nat → Int32) (newDd : Nat → Nat → UInt64) (hf : C_LT_fitStrengths G Dd a0 = some (newG, newDd)) : sDv D (cT cI cJ cD cS) (cW ad cI cJ cD cS) cSm l yX11_fitStrengths (ws1 yX11_fitStrengths cX11_fitStrengths 2 none) ({ frames := 4, cells := 0, slots := 0, locals := 92 }) [.ref (ad 0), .int a0] (G, E, Dd, P, Z) (newG, E, newDd, P, Z) := by
  unfold C_LT_fitStrengths at hf
  refine sDv_of (by decide) (Nat.le_of_ble_eq_true rfl) ?_
  intro p e R s m args below meth c A Q ls H lo dr sgm F hRf hRl hd hsm I hl ret
  obtain ⟨_, _, Dm, _⟩ := sgm
  obtain ⟨rfl, rfl, ha, rfl⟩ := cSm_dest hsm
  obtain ⟨hx, hb, hml, hown, hG⟩ := id F
  replace hl : lv_has ls 2 [(0, .ref (ad 0)), (1, .int a0)] := hl
  refine lv_aload_n hx hb dX11_fitStrengths_0 rfl (lv_at hl 0 rfl) ?_
  refine kgtX11_37_0 (Fdr F) (Idr I) dX11_fitStrengths_1 ?_
  refine lv_aload_n hx hb dX11_fitStrengths_4 rfl (lv_at hl 0 rfl) ?_
  refine kgtX11_16_0 (Fdr F) (Idr I) dX11_fitStrengths_5 ?_
  obtain ⟨G1, h2, hf⟩ := bd_some hf
  refine s_callVv (As := [.ref (ad 2)]) (rest := []) (Fdr F) (Idr I) (cC_TA_take G E Dm P Z G1 h2) kX11_211 ⟨rfl, rfl⟩ ⟨Nat.le_trans (Nat.le_of_ble_eq_true rfl) hRf, Nat.le_trans (Nat.le_of_ble_eq_true rfl) hRl⟩ (9) 9 rfl rfl rfl rfl rfl hl.1 (Nat.le_of_ble_eq_true rfl) ⟨Nat.zero_le _, Nat.zero_le _⟩ dX11_fitStrengths_8 ?_
  intro H_3 lo_3 I_3
  replace I_3 := Irr I_3
  refine lv_aload_n hx hb dX11_fitStrengths_11 rfl (lv_at hl 0 rfl) ?_
  refine kgtX11_68_0 (Fdr F) (Idr I_3) dX11_fitStrengths_12 ?_
  refine lv_aload_n hx hb dX11_fitStrengths_15 rfl (lv_at hl 0 rfl) ?_
  refine kgtX11_37_0 (Fdr F) (Idr I_3) dX11_fitStrengths_16 ?_
  refine lv_aload_n hx hb dX11_fitStrengths_19 rfl (lv_at hl 0 rfl) ?_
  refine kgtX11_89_0 (Fdr F) (Idr I_3) dX11_fitStrengths_20 ?_
  refine lv_iload_n hx hb dX11_fitStrengths_23 rfl (lv_at hl 1 rfl) ?_
  obtain ⟨G4, Dd5, h6, hf⟩ := bd2_some hf
  refine d_callVv (As := [.ref (ad 9), .int (G1 0 0), .int a0]) (rest := []) F hd I_3 ⟨rfl, rfl, ha, rfl⟩ (cC_SR_fit G1 E Dd P Z (G1 0 0) a0 G4 Dd5 h6) kX11_338 ⟨rfl, rfl⟩ ⟨Nat.le_trans (Nat.le_of_ble_eq_true rfl) hRf, Nat.le_trans (Nat.le_of_ble_eq_true rfl) hRl⟩ (33) 8 rfl rfl rfl rfl rfl hl.1 (Nat.le_of_ble_eq_true rfl) ⟨Nat.zero_le _, Nat.zero_le _⟩ dX11_fitStrengths_24 ?_
  intro H_7 lo_7 dr_8 sg8 hd_8 I_7 hs8
  obtain ⟨_, _, Dm8, _⟩ := sg8
  obtain ⟨rfl, rfl, ha8, rfl⟩ := cSm_dest hs8
  cases hf
  exact ret H_7 lo_7 _ ls dr_8 _ hd_8 I_7 ⟨rfl, rfl, ha8, rfl⟩ dX11_fitStrengths_27
def C_LT_strength (G : Nat → Nat → Int32) (Dd : Nat → Nat → UInt64) (a0 : Int32) (a1 : Int32) : Option (UInt64 × (Nat → Nat → Int32) × (Nat → Nat → UInt64)) :=
bd0 (C_LT_requireIndex a0 (G 0 0)) <|
bd (if a1 < 0 then
(some (0 : Int32))
else
(if (60 : Int32) < a1 then
(some (0 : Int32))
else
(some (1 : Int32)))) fun x4 =>
bd0 (C_LT_requireArgument x4) <|
bd2 (C_LT_fitStrengths G Dd a1) fun G10 Dd11 =>
ri 8 a0 <|
some ((Dd11 1 a0.toNatClampNeg), G10, Dd11)
set_option maxRecDepth 100000 in
set_option maxHeartbeats 4000000 in
theorem cC_LT_strength (G : Nat → Nat → Int32) (E : Nat → Nat → Int64) (Dd : Nat → Nat → UInt64) (P : Nat → Option PRec) (Z : List PRec) (a0 : Int32) (a1 : Int32) (rv : UInt64) (newG : Nat → Nat → Int32) (newDd : Nat → Nat → UInt64) (hf : C_LT_strength G Dd a0 a1 = some (rv, newG, newDd)) : sDd D (cT cI cJ cD cS) (cW ad cI cJ cD cS) cSm l yX11_strength (ws1 yX11_strength cX11_strength 3 (some .double)) ({ frames := 5, cells := 0, slots := 0, locals := 113 }) [.ref (ad 0), .int a0, .int a1] (G, E, Dd, P, Z) (rv, (newG, E, newDd, P, Z)) := by
  unfold C_LT_strength at hf
  refine sDd_of (by decide) (Nat.le_of_ble_eq_true rfl) ?_
  intro p e R s m args below meth c A Q ls H lo dr sgm F hRf hRl hd hsm I hl ret
  obtain ⟨_, _, Dm, _⟩ := sgm
  obtain ⟨rfl, rfl, ha, rfl⟩ := cSm_dest hsm
  obtain ⟨hx, hb, hml, hown, hG⟩ := id F
  replace hl : lv_has ls 3 [(0, .ref (ad 0)), (1, .int a0), (2, .int a1)] := hl
  refine lv_iload_n hx hb dX11_strength_0 rfl (lv_at hl 1 rfl) ?_
  refine lv_aload_n hx hb dX11_strength_1 rfl (lv_at hl 0 rfl) ?_
  refine kgtX11_89_0 (Fdr F) (Idr I) dX11_strength_2 ?_
  obtain ⟨h1, hf⟩ := bd0_some hf
  refine s_callSv (As := [.int a0, .int (G 0 0)]) (rest := []) (Fdr F) (Idr I) (cC_LT_requireIndex G E Dm P Z a0 (G 0 0) h1) kX11_84 ⟨rfl, rfl⟩ ⟨Nat.le_trans (Nat.le_of_ble_eq_true rfl) hRf, Nat.le_trans (Nat.le_of_ble_eq_true rfl) hRl⟩ rfl rfl hl.1 (Nat.le_of_ble_eq_true rfl) ⟨Nat.zero_le _, Nat.zero_le _⟩ dX11_strength_5 ?_
  intro H_2 lo_2 I_2
  replace I_2 := Irr I_2
  refine lv_iload_n hx hb dX11_strength_8 rfl (lv_at hl 2 rfl) ?_
  obtain ⟨x4, hv16, hf⟩ := bd_some hf
  have J3 : ∀ (H : Heap) (locs : List Loc) (d : Drawn), s.drawn.sameBut d lw_cs → sInv D (cT cI cJ cD cS) (cW ad cI cJ cD cS) A s H locs (G, E, Dm, P, Z) → ∀ (ls : Array Slot), lv_has ls 3 [(0, .ref (ad 0)), (1, .int a0), (2, .int a1)] → W p l e R (s.setDrawn d) m args below meth c H locs 0 0 Q (F0 m 23 ls [.int x4]) := by
    intro H_5 lo_5 dr_7 hd_7 I_5 ls_6 hl_6
    obtain ⟨h8, hf⟩ := bd0_some hf
    refine s_callSv (As := [.int x4]) (rest := []) (Fdr F) (Idr I_5) (cC_LT_requireArgument G E Dm P Z x4 h8) kX11_76 ⟨rfl, rfl⟩ ⟨Nat.le_trans (Nat.le_of_ble_eq_true rfl) hRf, Nat.le_trans (Nat.le_of_ble_eq_true rfl) hRl⟩ rfl rfl hl_6.1 (Nat.le_of_ble_eq_true rfl) ⟨Nat.zero_le _, Nat.zero_le _⟩ dX11_strength_23 ?_
    intro H_9 lo_9 I_9
    replace I_9 := Irr I_9
    refine lv_aload_n hx hb dX11_strength_26 rfl (lv_at hl_6 0 rfl) ?_
    refine lv_iload_n hx hb dX11_strength_27 rfl (lv_at hl_6 2 rfl) ?_
    obtain ⟨G10, Dd11, h12, hf⟩ := bd2_some hf
    refine d_callVv (As := [.int a1]) (rest := []) F hd_7 I_9 ⟨rfl, rfl, ha, rfl⟩ (cC_LT_fitStrengths G E Dd P Z a1 G10 Dd11 h12) kX11_266 ⟨rfl, rfl⟩ ⟨Nat.le_trans (Nat.le_of_ble_eq_true rfl) hRf, Nat.le_trans (Nat.le_of_ble_eq_true rfl) hRl⟩ (0) 11 rfl rfl rfl rfl rfl hl_6.1 (Nat.le_of_ble_eq_true rfl) ⟨Nat.zero_le _, Nat.zero_le _⟩ dX11_strength_28 ?_
    intro H_13 lo_13 dr_14 sg14 hd_14 I_13 hs14
    obtain ⟨_, _, Dm14, _⟩ := sg14
    obtain ⟨rfl, rfl, ha14, rfl⟩ := cSm_dest hs14
    refine lv_aload_n hx hb dX11_strength_31 rfl (lv_at hl_6 0 rfl) ?_
    refine kgtX11_68_0 (Fdr F) (Idr I_13) dX11_strength_32 ?_
    refine kgtX11_269_33 (Fdr F) (Idr I_13) dX11_strength_35 ?_
    refine lv_iload_n hx hb dX11_strength_38 rfl (lv_at hl_6 1 rfl) ?_
    obtain ⟨g15, hf⟩ := ri_some hf
    refine kal36 (Fdr F) (Idr I_13) g15 dX11_strength_39 ?_
    cases hf
    exact ret H_13 lo_13 _ ls_6 dr_14 _ _ hd_14 I_13 ⟨rfl, rfl, ha14, rfl⟩ (ha14 1 _) dX11_strength_40
  replace hf := hv16
  refine lv_if_lt (tgt := 22) hx hb dX11_strength_9 (by decide) (fun c18 => ?_) (fun c18 => ?_)
  · replace hf := (if_pos c18).symm.trans hf
    refine lv_iconst (v := (0 : Int32)) hx hb dX11_strength_22 (by decide) ?_
    cases hf
    exact J3 H_2 lo_2 dr hd I_2 ls (lv_sub hl [0, 1, 2] rfl)
  · replace hf := (if_neg c18).symm.trans hf
    refine lv_iload_n hx hb dX11_strength_12 rfl (lv_at hl 2 rfl) ?_
    refine lv_bipush (v := (60 : Int32)) hx hb dX11_strength_13 (by decide) ?_
    refine lv_icmp_gt (tgt := 22) hx hb dX11_strength_15 (by decide) (fun c17 => ?_) (fun c17 => ?_)
    · replace hf := (if_pos c17).symm.trans hf
      refine lv_iconst (v := (0 : Int32)) hx hb dX11_strength_22 (by decide) ?_
      cases hf
      exact J3 H_2 lo_2 dr hd I_2 ls (lv_sub hl [0, 1, 2] rfl)
    · replace hf := (if_neg c17).symm.trans hf
      refine lv_iconst (v := (1 : Int32)) hx hb dX11_strength_18 (by decide) ?_
      refine lv_goto (tgt := 23) hx hb dX11_strength_19 (by decide) ?_
      cases hf
      exact J3 H_2 lo_2 dr hd I_2 ls (lv_sub hl [0, 1, 2] rfl)
def C_LT_misfit (G : Nat → Nat → Int32) (Dd : Nat → Nat → UInt64) (a0 : Int32) : Option (UInt64 × (Nat → Nat → Int32) × (Nat → Nat → UInt64)) :=
bd (if a0 < 0 then
(some (0 : Int32))
else
(if (60 : Int32) < a0 then
(some (0 : Int32))
else
(some (1 : Int32)))) fun x2 =>
bd0 (C_LT_requireArgument x2) <|
bd2 (C_LT_fitStrengths G Dd a0) fun G8 Dd9 =>
bd (C_SR_sumOfSquares G8 Dd9) fun r13 =>
some (r13, G8, Dd9)
set_option maxRecDepth 100000 in
set_option maxHeartbeats 4000000 in
theorem cC_LT_misfit (G : Nat → Nat → Int32) (E : Nat → Nat → Int64) (Dd : Nat → Nat → UInt64) (P : Nat → Option PRec) (Z : List PRec) (a0 : Int32) (rv : UInt64) (newG : Nat → Nat → Int32) (newDd : Nat → Nat → UInt64) (hf : C_LT_misfit G Dd a0 = some (rv, newG, newDd)) : sDd D (cT cI cJ cD cS) (cW ad cI cJ cD cS) cSm l yX11_misfit (ws1 yX11_misfit cX11_misfit 2 (some .double)) ({ frames := 5, cells := 0, slots := 0, locals := 113 }) [.ref (ad 0), .int a0] (G, E, Dd, P, Z) (rv, (newG, E, newDd, P, Z)) := by
  unfold C_LT_misfit at hf
  refine sDd_of (by decide) (Nat.le_of_ble_eq_true rfl) ?_
  intro p e R s m args below meth c A Q ls H lo dr sgm F hRf hRl hd hsm I hl ret
  obtain ⟨_, _, Dm, _⟩ := sgm
  obtain ⟨rfl, rfl, ha, rfl⟩ := cSm_dest hsm
  obtain ⟨hx, hb, hml, hown, hG⟩ := id F
  replace hl : lv_has ls 2 [(0, .ref (ad 0)), (1, .int a0)] := hl
  refine lv_iload_n hx hb dX11_misfit_0 rfl (lv_at hl 1 rfl) ?_
  obtain ⟨x2, hv17, hf⟩ := bd_some hf
  have J1 : ∀ (H : Heap) (locs : List Loc) (d : Drawn), s.drawn.sameBut d lw_cs → sInv D (cT cI cJ cD cS) (cW ad cI cJ cD cS) A s H locs (G, E, Dm, P, Z) → ∀ (ls : Array Slot), lv_has ls 2 [(0, .ref (ad 0)), (1, .int a0)] → W p l e R (s.setDrawn d) m args below meth c H locs 0 0 Q (F0 m 15 ls [.int x2]) := by
    intro H_3 lo_3 dr_5 hd_5 I_3 ls_4 hl_4
    obtain ⟨h6, hf⟩ := bd0_some hf
    refine s_callSv (As := [.int x2]) (rest := []) (Fdr F) (Idr I_3) (cC_LT_requireArgument G E Dm P Z x2 h6) kX11_76 ⟨rfl, rfl⟩ ⟨Nat.le_trans (Nat.le_of_ble_eq_true rfl) hRf, Nat.le_trans (Nat.le_of_ble_eq_true rfl) hRl⟩ rfl rfl hl_4.1 (Nat.le_of_ble_eq_true rfl) ⟨Nat.zero_le _, Nat.zero_le _⟩ dX11_misfit_15 ?_
    intro H_7 lo_7 I_7
    replace I_7 := Irr I_7
    refine lv_aload_n hx hb dX11_misfit_18 rfl (lv_at hl_4 0 rfl) ?_
    refine lv_iload_n hx hb dX11_misfit_19 rfl (lv_at hl_4 1 rfl) ?_
    obtain ⟨G8, Dd9, h10, hf⟩ := bd2_some hf
    refine d_callVv (As := [.int a0]) (rest := []) F hd_5 I_7 ⟨rfl, rfl, ha, rfl⟩ (cC_LT_fitStrengths G E Dd P Z a0 G8 Dd9 h10) kX11_266 ⟨rfl, rfl⟩ ⟨Nat.le_trans (Nat.le_of_ble_eq_true rfl) hRf, Nat.le_trans (Nat.le_of_ble_eq_true rfl) hRl⟩ (0) 11 rfl rfl rfl rfl rfl hl_4.1 (Nat.le_of_ble_eq_true rfl) ⟨Nat.zero_le _, Nat.zero_le _⟩ dX11_misfit_20 ?_
    intro H_11 lo_11 dr_12 sg12 hd_12 I_11 hs12
    obtain ⟨_, _, Dm12, _⟩ := sg12
    obtain ⟨rfl, rfl, ha12, rfl⟩ := cSm_dest hs12
    refine lv_aload_n hx hb dX11_misfit_23 rfl (lv_at hl_4 0 rfl) ?_
    refine kgtX11_68_0 (Fdr F) (Idr I_11) dX11_misfit_24 ?_
    obtain ⟨r13, h14, hf⟩ := bd_some hf
    refine d_callVd (As := []) (rest := []) F hd_12 I_11 ⟨rfl, rfl, ha12, rfl⟩ (cC_SR_sumOfSquares G8 E Dd9 P Z r13 h14) kX11_273 ⟨rfl, rfl⟩ ⟨Nat.le_trans (Nat.le_of_ble_eq_true rfl) hRf, Nat.le_trans (Nat.le_of_ble_eq_true rfl) hRl⟩ (33) 8 rfl rfl rfl rfl rfl hl_4.1 (Nat.le_of_ble_eq_true rfl) ⟨Nat.zero_le _, Nat.zero_le _⟩ dX11_misfit_27 ?_
    intro H_15 lo_15 dr_16 sg16 mr13 hd_16 I_15 hs16 hr13
    obtain ⟨_, _, Dm16, _⟩ := sg16
    obtain ⟨rfl, rfl, ha16, rfl⟩ := cSm_dest hs16
    cases hf
    exact ret H_15 lo_15 _ ls_4 dr_16 _ _ hd_16 I_15 ⟨rfl, rfl, ha16, rfl⟩ hr13 dX11_misfit_30
  replace hf := hv17
  refine lv_if_lt (tgt := 14) hx hb dX11_misfit_1 (by decide) (fun c19 => ?_) (fun c19 => ?_)
  · replace hf := (if_pos c19).symm.trans hf
    refine lv_iconst (v := (0 : Int32)) hx hb dX11_misfit_14 (by decide) ?_
    cases hf
    exact J1 H lo dr hd I ls (lv_sub hl [0, 1] rfl)
  · replace hf := (if_neg c19).symm.trans hf
    refine lv_iload_n hx hb dX11_misfit_4 rfl (lv_at hl 1 rfl) ?_
    refine lv_bipush (v := (60 : Int32)) hx hb dX11_misfit_5 (by decide) ?_
    refine lv_icmp_gt (tgt := 14) hx hb dX11_misfit_7 (by decide) (fun c18 => ?_) (fun c18 => ?_)
    · replace hf := (if_pos c18).symm.trans hf
      refine lv_iconst (v := (0 : Int32)) hx hb dX11_misfit_14 (by decide) ?_
      cases hf
      exact J1 H lo dr hd I ls (lv_sub hl [0, 1] rfl)
    · replace hf := (if_neg c18).symm.trans hf
      refine lv_iconst (v := (1 : Int32)) hx hb dX11_misfit_10 (by decide) ?_
      refine lv_goto (tgt := 15) hx hb dX11_misfit_11 (by decide) ?_
      cases hf
      exact J1 H lo dr hd I ls (lv_sub hl [0, 1] rfl)
def C_LT_mixed (a0 : Int64) (a1 : Int64) : Int64 :=
(((31 : Int64) * a0) + a1)
set_option maxRecDepth 100000 in
set_option maxHeartbeats 4000000 in
theorem cC_LT_mixed (G : Nat → Nat → Int32) (E : Nat → Nat → Int64) (Dd : Nat → Nat → UInt64) (P : Nat → Option PRec) (Z : List PRec) (a0 : Int64) (a1 : Int64) (rv : Int64)  (hv : rv = C_LT_mixed a0 a1) : sMl D (cT cI cJ cD cS) (cW ad cI cJ cD cS) l yX11_mixed (ws1 yX11_mixed cX11_mixed 4 (some .long)) ({ frames := 0, cells := 0, slots := 0, locals := 0 }) [.long a0, .long a1] (G, E, Dd, P, Z) (rv, (G, E, Dd, P, Z)) := by
  have hf : (some (((31 : Int64) * a0) + a1)) = some rv := by rw [hv]; rfl
  refine sMl_of (by decide) (Nat.le_of_ble_eq_true rfl) ?_
  intro p e R s m args below meth c A Q ls H lo F hRf hRl I hl ret
  obtain ⟨hx, hb, hml, hown, hG⟩ := id F
  replace hl : lv_has ls 4 [(0, .long a0), (2, .long a1)] := hl
  refine lv_ldc2 (v := (31 : Int64)) hx hb hown (hG _ q497) dX11_mixed_0 ?_
  refine lv_lload_n hx hb dX11_mixed_3 rfl (lv_at hl 0 rfl) ?_
  refine lv_lmul hx hb dX11_mixed_4 ?_
  refine lv_lload_n hx hb dX11_mixed_5 rfl (lv_at hl 1 rfl) ?_
  refine lv_ladd hx hb dX11_mixed_6 ?_
  cases hf
  exact ret H lo _ ls I dX11_mixed_7
def C_LT_hashAnswers_s4 (x20 : Int32) (G14 : Nat → Nat → Int32) (x29 : Int64) (x30 : Int32) : Option ((Int64 × Int32) ⊕ (Int64)) :=
if (3 : Int32) < x30 then
(some (.inr x29))
else
(bd (C_CO_at G14 x20) fun r40 =>
bd (C_CO_propertyOf r40 x30) fun r43 =>
nm (C_LT_mixed x29 r43.toInt64) fun r46 =>
nm (x30 + (1 : Int32) : Int32) fun x50 =>
some (.inl (r46, x50)))
def C_LT_hashAnswers_s3 (G14 : Nat → Nat → Int32) (x19 : Int64) (x20 : Int32) : Option ((Int64 × Int32) ⊕ (Int64)) :=
if G14 5 0 ≤ x20 then
(some (.inr x19))
else
(bd (lp (fun q => C_LT_hashAnswers_s4 x20 G14 q.1 q.2) FU (x19, (0 : Int32))) fun x31 =>
nm (x20 + (1 : Int32) : Int32) fun x35 =>
some (.inl (x31, x35)))
def C_LT_hashAnswers_s2  (x10 : Int64) (x11 : Int32) (G12 : Nat → Nat → Int32) : Option ((Int64 × Int32 × (Nat → Nat → Int32)) ⊕ (Int64 × (Nat → Nat → Int32))) :=
if G12 1 0 ≤ x11 then
(some (.inr (x10, G12)))
else
(ri 8 x11 <|
nm (C_LT_mixed x10 ((G12 2 x11.toNatClampNeg).toInt64)) fun r58 =>
bd2 (C_LT_ringsOf G12 x11) fun r62 G63 =>
nm (C_LT_mixed r58 r62.toInt64) fun r66 =>
nm (x11 + (1 : Int32) : Int32) fun x70 =>
some (.inl (r66, x70, G63)))
def C_LT_hashAnswers_s1 (G : Nat → Nat → Int32) (P : Nat → Option PRec) (x3 : Int64) (x4 : Int32) : Option ((Int64 × Int32) ⊕ (Int64)) :=
if (7 : Int32) < x4 then
(some (.inr x3))
else
(bd (C_LT_countOf G P x4) fun r76 =>
nm (C_LT_mixed x3 r76.toInt64) fun r79 =>
nm (x4 + (1 : Int32) : Int32) fun x83 =>
some (.inl (r79, x83)))
def C_LT_hashAnswers (G : Nat → Nat → Int32) (P : Nat → Option PRec) (a0 : Int64) : Option (Int64 × (Nat → Nat → Int32)) :=
bd (lp (fun q => C_LT_hashAnswers_s1 G P q.1 q.2) FU (a0, (0 : Int32))) fun x5 =>
bd2 (lp (fun q => C_LT_hashAnswers_s2 q.1 q.2.1 q.2.2) FU (x5, (0 : Int32), G)) fun x13 G14 =>
bd (lp (fun q => C_LT_hashAnswers_s3 G14 q.1 q.2) FU (x13, (0 : Int32))) fun x21 =>
some (x21, G14)
set_option maxRecDepth 100000 in
set_option maxHeartbeats 4000000 in
theorem cC_LT_hashAnswers (G : Nat → Nat → Int32) (E : Nat → Nat → Int64) (Dd : Nat → Nat → UInt64) (P : Nat → Option PRec) (Z : List PRec) (hPZ : ∀ (k : Nat) (z : PRec), P k = some z → z ∈ Z) (a0 : Int64) (rv : Int64) (newG : Nat → Nat → Int32) (hf : C_LT_hashAnswers G P a0 = some (rv, newG)) : sMl D (cT cI cJ cD cS) (cW ad cI cJ cD cS) l yX11_hashAnswers (ws1 yX11_hashAnswers cX11_hashAnswers 7 (some .long)) ({ frames := 5, cells := 0, slots := 0, locals := 112 }) [.ref (ad 0), .long a0] (G, E, Dd, P, Z) (rv, (newG, E, Dd, P, Z)) := by
  unfold C_LT_hashAnswers at hf
  refine sMl_of (by decide) (Nat.le_of_ble_eq_true rfl) ?_
  intro p e R s m args below meth c A Q ls H lo F hRf hRl I hl ret
  obtain ⟨hx, hb, hml, hown, hG⟩ := id F
  replace hl : lv_has ls 7 [(0, .ref (ad 0)), (1, .long a0)] := hl
  refine lv_lload_n hx hb dX11_hashAnswers_0 rfl (lv_at hl 1 rfl) ?_
  refine lv_lstore_n (lv' := [(3, .long a0), (0, .ref (ad 0)), (1, .long a0)]) hx hb dX11_hashAnswers_1 rfl hl (by decide) rfl (fun ls_1 hl_1 => ?_)
  refine lv_iconst (v := (0 : Int32)) hx hb dX11_hashAnswers_2 (by decide) ?_
  refine lv_istore (lv' := [(5, .int (0 : Int32)), (3, .long a0), (0, .ref (ad 0)), (1, .long a0)]) hx hb dX11_hashAnswers_3 hl_1 (by decide) rfl (fun ls_2 hl_2 => ?_)
  obtain ⟨x5, hq1, hf⟩ := bd_some hf
  have K1 : ∀ (H : Heap) (locs : List Loc), sInv D (cT cI cJ cD cS) (cW ad cI cJ cD cS) A s H locs (G, E, Dd, P, Z) → ∀ (ls : Array Slot), lv_has ls 7 [(0, .ref (ad 0)), (3, .long x5)] → W p l e R s m args below meth c H locs 0 0 Q (F0 m 30 ls []) := by
    intro H_6 lo_6 I_6 ls_7 hl_7
    refine lv_iconst (v := (0 : Int32)) hx hb dX11_hashAnswers_30 (by decide) ?_
    refine lv_istore (lv' := [(5, .int (0 : Int32)), (0, .ref (ad 0)), (3, .long x5)]) hx hb dX11_hashAnswers_31 hl_7 (by decide) rfl (fun ls_9 hl_9 => ?_)
    obtain ⟨x13, G14, hq2, hf⟩ := bd2_some hf
    have K2 : ∀ (H : Heap) (locs : List Loc), sInv D (cT cI cJ cD cS) (cW ad cI cJ cD cS) A s H locs (G14, E, Dd, P, Z) → ∀ (ls : Array Slot), lv_has ls 7 [(0, .ref (ad 0)), (3, .long x13)] → W p l e R s m args below meth c H locs 0 0 Q (F0 m 73 ls []) := by
      intro H_15 lo_15 I_15 ls_16 hl_16
      refine lv_iconst (v := (0 : Int32)) hx hb dX11_hashAnswers_73 (by decide) ?_
      refine lv_istore (lv' := [(5, .int (0 : Int32)), (0, .ref (ad 0)), (3, .long x13)]) hx hb dX11_hashAnswers_74 hl_16 (by decide) rfl (fun ls_18 hl_18 => ?_)
      obtain ⟨x21, hq3, hf⟩ := bd_some hf
      have K3 : ∀ (H : Heap) (locs : List Loc), sInv D (cT cI cJ cD cS) (cW ad cI cJ cD cS) A s H locs (G14, E, Dd, P, Z) → ∀ (ls : Array Slot), lv_has ls 7 [(3, .long x21)] → W p l e R s m args below meth c H locs 0 0 Q (F0 m 129 ls []) := by
        intro H_22 lo_22 I_22 ls_23 hl_23
        refine lv_lload_n hx hb dX11_hashAnswers_129 rfl (lv_at hl_23 0 rfl) ?_
        cases hf
        exact ret H_22 lo_22 _ ls_23 I_22 dX11_hashAnswers_130
      have L3 : ∀ (n : Nat) (x19 : Int64) (x20 : Int32), lp (fun q => C_LT_hashAnswers_s3 G14 q.1 q.2) n (x19, x20) = some x21 → ∀ (H : Heap) (locs : List Loc), sInv D (cT cI cJ cD cS) (cW ad cI cJ cD cS) A s H locs (G14, E, Dd, P, Z) → ∀ (ls : Array Slot), lv_has ls 7 [(0, .ref (ad 0)), (3, .long x19), (5, .int x20)] → W p l e R s m args below meth c H locs 0 0 Q (F0 m 76 ls []) := by
        intro n
        induction n with
        | zero => intro x19 x20 hq; exact (lp_0 hq).elim
        | succ n ih3 =>
          intro x19 x20 hq H_25 lo_25 I_25 ls_26 hl_26
          obtain ⟨y3, hf, hK3⟩ := lp_go hq
          replace hf : C_LT_hashAnswers_s3 G14 x19 x20 = some y3 := hf
          unfold C_LT_hashAnswers_s3 at hf
          refine lv_iload hx hb dX11_hashAnswers_76 (lv_at hl_26 2 rfl) ?_
          refine lv_aload_n hx hb dX11_hashAnswers_78 rfl (lv_at hl_26 0 rfl) ?_
          refine kgtX11_16_0 F I_25 dX11_hashAnswers_79 ?_
          refine kgtX11_149_2 F I_25 dX11_hashAnswers_82 ?_
          refine lv_icmp_ge (tgt := 129) hx hb dX11_hashAnswers_85 (by decide) (fun c53 => ?_) (fun c53 => ?_)
          · replace hf := (if_pos c53).symm.trans hf
            cases hf
            cases (show x19 = x21 from hK3)
            exact K3 H_25 lo_25 I_25 ls_26 (lv_sub hl_26 [1] rfl)
          · replace hf := (if_neg c53).symm.trans hf
            refine lv_iconst (v := (0 : Int32)) hx hb dX11_hashAnswers_88 (by decide) ?_
            refine lv_istore (lv' := [(6, .int (0 : Int32)), (0, .ref (ad 0)), (3, .long x19), (5, .int x20)]) hx hb dX11_hashAnswers_89 hl_26 (by decide) rfl (fun ls_28 hl_28 => ?_)
            obtain ⟨x31, hq4, hf⟩ := bd_some hf
            have K4 : ∀ (H : Heap) (locs : List Loc), sInv D (cT cI cJ cD cS) (cW ad cI cJ cD cS) A s H locs (G14, E, Dd, P, Z) → ∀ (ls : Array Slot), lv_has ls 7 [(0, .ref (ad 0)), (3, .long x31), (5, .int x20)] → W p l e R s m args below meth c H locs 0 0 Q (F0 m 123 ls []) := by
              intro H_32 lo_32 I_32 ls_33 hl_33
              obtain ⟨x35, ex35⟩ : ∃ y : Int32, y = x20 + (1 : Int32) := ⟨_, rfl⟩
              replace hf := nm_some ex35 hf
              refine lv_iinc (v := x35) (lv' := [(5, .int x35), (0, .ref (ad 0)), (3, .long x31)]) hx hb dX11_hashAnswers_123 hl_33 (k := 2) rfl (by rw [ex35]; rfl) (by decide) rfl (fun ls_36 hl_36 => ?_)
              refine lv_goto (tgt := 76) hx hb dX11_hashAnswers_126 (by decide) ?_
              cases hf
              exact ih3 _ _ hK3 H_32 lo_32 I_32 ls_36 (lv_sub hl_36 [1, 2, 0] rfl)
            have L4 : ∀ (n : Nat) (x29 : Int64) (x30 : Int32), lp (fun q => C_LT_hashAnswers_s4 x20 G14 q.1 q.2) n (x29, x30) = some x31 → ∀ (H : Heap) (locs : List Loc), sInv D (cT cI cJ cD cS) (cW ad cI cJ cD cS) A s H locs (G14, E, Dd, P, Z) → ∀ (ls : Array Slot), lv_has ls 7 [(0, .ref (ad 0)), (3, .long x29), (5, .int x20), (6, .int x30)] → W p l e R s m args below meth c H locs 0 0 Q (F0 m 91 ls []) := by
              intro n
              induction n with
              | zero => intro x29 x30 hq; exact (lp_0 hq).elim
              | succ n ih4 =>
                intro x29 x30 hq H_37 lo_37 I_37 ls_38 hl_38
                obtain ⟨y4, hf, hK4⟩ := lp_go hq
                replace hf : C_LT_hashAnswers_s4 x20 G14 x29 x30 = some y4 := hf
                unfold C_LT_hashAnswers_s4 at hf
                refine lv_iload hx hb dX11_hashAnswers_91 (lv_at hl_38 3 rfl) ?_
                refine lv_iconst (v := (3 : Int32)) hx hb dX11_hashAnswers_93 (by decide) ?_
                refine lv_icmp_gt (tgt := 123) hx hb dX11_hashAnswers_94 (by decide) (fun c52 => ?_) (fun c52 => ?_)
                · replace hf := (if_pos c52).symm.trans hf
                  cases hf
                  cases (show x29 = x31 from hK4)
                  exact K4 H_37 lo_37 I_37 ls_38 (lv_sub hl_38 [0, 1, 2] rfl)
                · replace hf := (if_neg c52).symm.trans hf
                  refine lv_lload_n hx hb dX11_hashAnswers_97 rfl (lv_at hl_38 1 rfl) ?_
                  refine lv_aload_n hx hb dX11_hashAnswers_98 rfl (lv_at hl_38 0 rfl) ?_
                  refine kgtX11_16_0 F I_37 dX11_hashAnswers_99 ?_
                  refine lv_iload hx hb dX11_hashAnswers_102 (lv_at hl_38 2 rfl) ?_
                  obtain ⟨r40, h41, hf⟩ := bd_some hf
                  refine s_callVi (As := [.int x20]) (rest := [.long x29]) F I_37 (cC_CO_at G14 E Dd P Z x20 r40 h41) kX11_193 ⟨rfl, rfl⟩ ⟨Nat.le_trans (Nat.le_of_ble_eq_true rfl) hRf, Nat.le_trans (Nat.le_of_ble_eq_true rfl) hRl⟩ (2) 1 rfl rfl rfl rfl rfl hl_38.1 (Nat.le_of_ble_eq_true rfl) ⟨Nat.zero_le _, Nat.zero_le _⟩ dX11_hashAnswers_104 ?_
                  intro H_42 lo_42 I_42
                  refine lv_iload hx hb dX11_hashAnswers_107 (lv_at hl_38 3 rfl) ?_
                  obtain ⟨r43, h44, hf⟩ := bd_some hf
                  refine s_callSi (As := [.int r40, .int x30]) (rest := [.long x29]) F I_42 (cC_CO_propertyOf G14 E Dd P Z r40 x30 r43 h44) kX11_196 ⟨rfl, rfl⟩ ⟨Nat.le_trans (Nat.le_of_ble_eq_true rfl) hRf, Nat.le_trans (Nat.le_of_ble_eq_true rfl) hRl⟩ rfl rfl hl_38.1 (Nat.le_of_ble_eq_true rfl) ⟨Nat.zero_le _, Nat.zero_le _⟩ dX11_hashAnswers_109 ?_
                  intro H_45 lo_45 I_45
                  refine lv_i2l hx hb dX11_hashAnswers_112 rfl ?_
                  obtain ⟨r46, h47⟩ : ∃ z, z = C_LT_mixed x29 r43.toInt64 := ⟨_, rfl⟩
                  replace hf := nm_some h47 hf
                  refine s_callSl (As := [.long x29, .long (r43.toInt64)]) (rest := []) F I_45 (cC_LT_mixed G14 E Dd P Z x29 r43.toInt64 r46 h47) kX11_296 ⟨rfl, rfl⟩ ⟨Nat.le_trans (Nat.le_of_ble_eq_true rfl) hRf, Nat.le_trans (Nat.le_of_ble_eq_true rfl) hRl⟩ rfl rfl hl_38.1 (Nat.le_of_ble_eq_true rfl) ⟨Nat.zero_le _, Nat.zero_le _⟩ dX11_hashAnswers_113 ?_
                  intro H_48 lo_48 I_48
                  refine lv_lstore_n (lv' := [(3, .long r46), (0, .ref (ad 0)), (5, .int x20), (6, .int x30)]) hx hb dX11_hashAnswers_116 rfl hl_38 (by decide) rfl (fun ls_49 hl_49 => ?_)
                  obtain ⟨x50, ex50⟩ : ∃ y : Int32, y = x30 + (1 : Int32) := ⟨_, rfl⟩
                  replace hf := nm_some ex50 hf
                  refine lv_iinc (v := x50) (lv' := [(6, .int x50), (3, .long r46), (0, .ref (ad 0)), (5, .int x20)]) hx hb dX11_hashAnswers_117 hl_49 (k := 3) rfl (by rw [ex50]; rfl) (by decide) rfl (fun ls_51 hl_51 => ?_)
                  refine lv_goto (tgt := 91) hx hb dX11_hashAnswers_120 (by decide) ?_
                  cases hf
                  exact ih4 _ _ hK4 H_48 lo_48 I_48 ls_51 (lv_sub hl_51 [2, 1, 3, 0] rfl)
            exact L4 FU _ _ hq4 H_25 lo_25 I_25 ls_28 (lv_sub hl_28 [1, 2, 3, 0] rfl)
      exact L3 FU _ _ hq3 H_15 lo_15 I_15 ls_18 (lv_sub hl_18 [1, 2, 0] rfl)
    have L2 : ∀ (n : Nat) (x10 : Int64) (x11 : Int32) (G12 : Nat → Nat → Int32), lp (fun q => C_LT_hashAnswers_s2 q.1 q.2.1 q.2.2) n (x10, x11, G12) = some (x13, G14) → ∀ (H : Heap) (locs : List Loc), sInv D (cT cI cJ cD cS) (cW ad cI cJ cD cS) A s H locs (G12, E, Dd, P, Z) → ∀ (ls : Array Slot), lv_has ls 7 [(0, .ref (ad 0)), (3, .long x10), (5, .int x11)] → W p l e R s m args below meth c H locs 0 0 Q (F0 m 33 ls []) := by
      intro n
      induction n with
      | zero => intro x10 x11 G12 hq; exact (lp_0 hq).elim
      | succ n ih2 =>
        intro x10 x11 G12 hq H_54 lo_54 I_54 ls_55 hl_55
        obtain ⟨y2, hf, hK2⟩ := lp_go hq
        replace hf : C_LT_hashAnswers_s2 x10 x11 G12 = some y2 := hf
        unfold C_LT_hashAnswers_s2 at hf
        refine lv_iload hx hb dX11_hashAnswers_33 (lv_at hl_55 2 rfl) ?_
        refine lv_aload_n hx hb dX11_hashAnswers_35 rfl (lv_at hl_55 0 rfl) ?_
        refine kgtX11_80_0 F I_54 dX11_hashAnswers_36 ?_
        refine lv_icmp_ge (tgt := 73) hx hb dX11_hashAnswers_39 (by decide) (fun c72 => ?_) (fun c72 => ?_)
        · replace hf := (if_pos c72).symm.trans hf
          cases hf
          cases (show (x10, G12) = (x13, G14) from hK2)
          exact K2 H_54 lo_54 I_54 ls_55 (lv_sub hl_55 [0, 1] rfl)
        · replace hf := (if_neg c72).symm.trans hf
          refine lv_lload_n hx hb dX11_hashAnswers_42 rfl (lv_at hl_55 1 rfl) ?_
          refine lv_aload_n hx hb dX11_hashAnswers_43 rfl (lv_at hl_55 0 rfl) ?_
          refine kgtX11_9_0 F I_54 dX11_hashAnswers_44 ?_
          refine lv_iload hx hb dX11_hashAnswers_47 (lv_at hl_55 2 rfl) ?_
          obtain ⟨g57, hf⟩ := ri_some hf
          refine kal1 F I_54 g57 dX11_hashAnswers_49 ?_
          refine lv_i2l hx hb dX11_hashAnswers_50 rfl ?_
          obtain ⟨r58, h59⟩ : ∃ z, z = C_LT_mixed x10 ((G12 2 x11.toNatClampNeg).toInt64) := ⟨_, rfl⟩
          replace hf := nm_some h59 hf
          refine s_callSl (As := [.long x10, .long ((G12 2 x11.toNatClampNeg).toInt64)]) (rest := []) F I_54 (cC_LT_mixed G12 E Dd P Z x10 ((G12 2 x11.toNatClampNeg).toInt64) r58 h59) kX11_296 ⟨rfl, rfl⟩ ⟨Nat.le_trans (Nat.le_of_ble_eq_true rfl) hRf, Nat.le_trans (Nat.le_of_ble_eq_true rfl) hRl⟩ rfl rfl hl_55.1 (Nat.le_of_ble_eq_true rfl) ⟨Nat.zero_le _, Nat.zero_le _⟩ dX11_hashAnswers_51 ?_
          intro H_60 lo_60 I_60
          refine lv_lstore_n (lv' := [(3, .long r58), (0, .ref (ad 0)), (5, .int x11)]) hx hb dX11_hashAnswers_54 rfl hl_55 (by decide) rfl (fun ls_61 hl_61 => ?_)
          refine lv_lload_n hx hb dX11_hashAnswers_55 rfl (lv_at hl_61 0 rfl) ?_
          refine lv_aload_n hx hb dX11_hashAnswers_56 rfl (lv_at hl_61 1 rfl) ?_
          refine lv_iload hx hb dX11_hashAnswers_57 (lv_at hl_61 2 rfl) ?_
          obtain ⟨r62, G63, h64, hf⟩ := bd2_some hf
          refine s_callVi (As := [.int x11]) (rest := [.long r58]) F I_60 (cC_LT_ringsOf G12 E Dd P Z x11 r62 G63 h64) kX11_230 ⟨rfl, rfl⟩ ⟨Nat.le_trans (Nat.le_of_ble_eq_true rfl) hRf, Nat.le_trans (Nat.le_of_ble_eq_true rfl) hRl⟩ (0) 11 rfl rfl rfl rfl rfl hl_61.1 (Nat.le_of_ble_eq_true rfl) ⟨Nat.zero_le _, Nat.zero_le _⟩ dX11_hashAnswers_59 ?_
          intro H_65 lo_65 I_65
          refine lv_i2l hx hb dX11_hashAnswers_62 rfl ?_
          obtain ⟨r66, h67⟩ : ∃ z, z = C_LT_mixed r58 r62.toInt64 := ⟨_, rfl⟩
          replace hf := nm_some h67 hf
          refine s_callSl (As := [.long r58, .long (r62.toInt64)]) (rest := []) F I_65 (cC_LT_mixed G63 E Dd P Z r58 r62.toInt64 r66 h67) kX11_296 ⟨rfl, rfl⟩ ⟨Nat.le_trans (Nat.le_of_ble_eq_true rfl) hRf, Nat.le_trans (Nat.le_of_ble_eq_true rfl) hRl⟩ rfl rfl hl_61.1 (Nat.le_of_ble_eq_true rfl) ⟨Nat.zero_le _, Nat.zero_le _⟩ dX11_hashAnswers_63 ?_
          intro H_68 lo_68 I_68
          refine lv_lstore_n (lv' := [(3, .long r66), (0, .ref (ad 0)), (5, .int x11)]) hx hb dX11_hashAnswers_66 rfl hl_61 (by decide) rfl (fun ls_69 hl_69 => ?_)
          obtain ⟨x70, ex70⟩ : ∃ y : Int32, y = x11 + (1 : Int32) := ⟨_, rfl⟩
          replace hf := nm_some ex70 hf
          refine lv_iinc (v := x70) (lv' := [(5, .int x70), (3, .long r66), (0, .ref (ad 0))]) hx hb dX11_hashAnswers_67 hl_69 (k := 2) rfl (by rw [ex70]; rfl) (by decide) rfl (fun ls_71 hl_71 => ?_)
          refine lv_goto (tgt := 33) hx hb dX11_hashAnswers_70 (by decide) ?_
          cases hf
          exact ih2 _ _ _ hK2 H_68 lo_68 I_68 ls_71 (lv_sub hl_71 [2, 1, 0] rfl)
    exact L2 FU _ _ _ hq2 H_6 lo_6 I_6 ls_9 (lv_sub hl_9 [1, 2, 0] rfl)
  have L1 : ∀ (n : Nat) (x3 : Int64) (x4 : Int32), lp (fun q => C_LT_hashAnswers_s1 G P q.1 q.2) n (x3, x4) = some x5 → ∀ (H : Heap) (locs : List Loc), sInv D (cT cI cJ cD cS) (cW ad cI cJ cD cS) A s H locs (G, E, Dd, P, Z) → ∀ (ls : Array Slot), lv_has ls 7 [(0, .ref (ad 0)), (3, .long x3), (5, .int x4)] → W p l e R s m args below meth c H locs 0 0 Q (F0 m 5 ls []) := by
    intro n
    induction n with
    | zero => intro x3 x4 hq; exact (lp_0 hq).elim
    | succ n ih1 =>
      intro x3 x4 hq H_73 lo_73 I_73 ls_74 hl_74
      obtain ⟨y1, hf, hK1⟩ := lp_go hq
      replace hf : C_LT_hashAnswers_s1 G P x3 x4 = some y1 := hf
      unfold C_LT_hashAnswers_s1 at hf
      refine lv_iload hx hb dX11_hashAnswers_5 (lv_at hl_74 2 rfl) ?_
      refine lv_bipush (v := (7 : Int32)) hx hb dX11_hashAnswers_7 (by decide) ?_
      refine lv_icmp_gt (tgt := 30) hx hb dX11_hashAnswers_9 (by decide) (fun c85 => ?_) (fun c85 => ?_)
      · replace hf := (if_pos c85).symm.trans hf
        cases hf
        cases (show x3 = x5 from hK1)
        exact K1 H_73 lo_73 I_73 ls_74 (lv_sub hl_74 [0, 1] rfl)
      · replace hf := (if_neg c85).symm.trans hf
        refine lv_lload_n hx hb dX11_hashAnswers_12 rfl (lv_at hl_74 1 rfl) ?_
        refine lv_aload_n hx hb dX11_hashAnswers_13 rfl (lv_at hl_74 0 rfl) ?_
        refine lv_iload hx hb dX11_hashAnswers_14 (lv_at hl_74 2 rfl) ?_
        obtain ⟨r76, h77, hf⟩ := bd_some hf
        refine s_callVi (As := [.int x4]) (rest := [.long x3]) F I_73 (cC_LT_countOf G E Dd P Z hPZ x4 r76 h77) kX11_190 ⟨rfl, rfl⟩ ⟨Nat.le_trans (Nat.le_of_ble_eq_true rfl) hRf, Nat.le_trans (Nat.le_of_ble_eq_true rfl) hRl⟩ (0) 11 rfl rfl rfl rfl rfl hl_74.1 (Nat.le_of_ble_eq_true rfl) ⟨Nat.zero_le _, Nat.zero_le _⟩ dX11_hashAnswers_16 ?_
        intro H_78 lo_78 I_78
        refine lv_i2l hx hb dX11_hashAnswers_19 rfl ?_
        obtain ⟨r79, h80⟩ : ∃ z, z = C_LT_mixed x3 r76.toInt64 := ⟨_, rfl⟩
        replace hf := nm_some h80 hf
        refine s_callSl (As := [.long x3, .long (r76.toInt64)]) (rest := []) F I_78 (cC_LT_mixed G E Dd P Z x3 r76.toInt64 r79 h80) kX11_296 ⟨rfl, rfl⟩ ⟨Nat.le_trans (Nat.le_of_ble_eq_true rfl) hRf, Nat.le_trans (Nat.le_of_ble_eq_true rfl) hRl⟩ rfl rfl hl_74.1 (Nat.le_of_ble_eq_true rfl) ⟨Nat.zero_le _, Nat.zero_le _⟩ dX11_hashAnswers_20 ?_
        intro H_81 lo_81 I_81
        refine lv_lstore_n (lv' := [(3, .long r79), (0, .ref (ad 0)), (5, .int x4)]) hx hb dX11_hashAnswers_23 rfl hl_74 (by decide) rfl (fun ls_82 hl_82 => ?_)
        obtain ⟨x83, ex83⟩ : ∃ y : Int32, y = x4 + (1 : Int32) := ⟨_, rfl⟩
        replace hf := nm_some ex83 hf
        refine lv_iinc (v := x83) (lv' := [(5, .int x83), (3, .long r79), (0, .ref (ad 0))]) hx hb dX11_hashAnswers_24 hl_82 (k := 2) rfl (by rw [ex83]; rfl) (by decide) rfl (fun ls_84 hl_84 => ?_)
        refine lv_goto (tgt := 5) hx hb dX11_hashAnswers_27 (by decide) ?_
        cases hf
        exact ih1 _ _ hK1 H_81 lo_81 I_81 ls_84 (lv_sub hl_84 [2, 1, 0] rfl)
  exact L1 FU _ _ hq1 H lo I ls_2 (lv_sub hl_2 [2, 1, 0] rfl)
def C_LT_hashPlan_s1 (z2 : PRec) (x6 : Int64) (x7 : Int32) : Option ((Int64 × Int32) ⊕ (Int64)) :=
nm (P_size z2.2.2.2.1) fun r15 =>
if r15 ≤ x7 then
(some (.inr x6))
else
(bd (P_firstAt z2.2.2.2.1 (pG z2) x7) fun r18 =>
nm (C_LT_mixed x6 r18.toInt64) fun r21 =>
bd (P_secondAt z2.2.2.2.1 (pG z2) x7) fun r25 =>
nm (C_LT_mixed r21 r25.toInt64) fun r28 =>
nm (x7 + (1 : Int32) : Int32) fun x32 =>
some (.inl (r28, x32)))
def C_LT_hashPlan (G : Nat → Nat → Int32) (P : Nat → Option PRec) (a0 : Int64) : Option (Int64) :=
oc (P 0) (some a0) (fun z2 => bd (lp (fun q => C_LT_hashPlan_s1 z2 q.1 q.2) FU (a0, (0 : Int32))) fun x8 =>
some x8)
set_option maxRecDepth 100000 in
set_option maxHeartbeats 4000000 in
theorem cC_LT_hashPlan (G : Nat → Nat → Int32) (E : Nat → Nat → Int64) (Dd : Nat → Nat → UInt64) (P : Nat → Option PRec) (Z : List PRec) (hPZ : ∀ (k : Nat) (z : PRec), P k = some z → z ∈ Z) (a0 : Int64) (rv : Int64)  (hf : C_LT_hashPlan G P a0 = some rv) : sMl D (cT cI cJ cD cS) (cW ad cI cJ cD cS) l yX11_hashPlan (ws1 yX11_hashPlan cX11_hashPlan 7 (some .long)) ({ frames := 1, cells := 0, slots := 0, locals := 23 }) [.ref (ad 0), .long a0] (G, E, Dd, P, Z) (rv, (G, E, Dd, P, Z)) := by
  unfold C_LT_hashPlan at hf
  refine sMl_of (by decide) (Nat.le_of_ble_eq_true rfl) ?_
  intro p e R s m args below meth c A Q ls H lo F hRf hRl I hl ret
  obtain ⟨hx, hb, hml, hown, hG⟩ := id F
  replace hl : lv_has ls 7 [(0, .ref (ad 0)), (1, .long a0)] := hl
  refine lv_lload_n hx hb dX11_hashPlan_0 rfl (lv_at hl 1 rfl) ?_
  refine lv_lstore_n (lv' := [(3, .long a0), (0, .ref (ad 0)), (1, .long a0)]) hx hb dX11_hashPlan_1 rfl hl (by decide) rfl (fun ls_1 hl_1 => ?_)
  refine lv_aload_n hx hb dX11_hashPlan_2 rfl (lv_at hl_1 1 rfl) ?_
  refine kgtX11_95_0 F I dX11_hashPlan_3 ?_
  rcases hsz2 : P 0 with _ | z2
  · replace hf := (oc_none hsz2).symm.trans hf
    refine W.eq (g2 := F0 m 6 ls_1 [.null]) rfl ?_
    refine lv_astoreN (lv' := [(5, .null), (3, .long a0), (0, .ref (ad 0)), (1, .long a0)]) hx hb dX11_hashPlan_6 hl_1 (by decide) rfl (fun ls_3 hl_3 => ?_)
    refine lv_aloadN hx hb dX11_hashPlan_8 (lv_at hl_3 0 rfl) ?_
    refine lv_ifnonnullN hx hb dX11_hashPlan_10 ?_
    refine lv_lload_n hx hb dX11_hashPlan_13 rfl (lv_at hl_3 1 rfl) ?_
    cases hf
    exact ret H lo _ ls_3 I dX11_hashPlan_14
  · replace hf := (oc_some hsz2).symm.trans hf
    refine W.eq (g2 := F0 m 6 ls_1 [.ref (z2.1)]) rfl ?_
    refine lv_astore (lv' := [(5, .ref (z2.1)), (3, .long a0), (0, .ref (ad 0)), (1, .long a0)]) hx hb dX11_hashPlan_6 hl_1 (by decide) rfl (fun ls_4 hl_4 => ?_)
    refine lv_aload hx hb dX11_hashPlan_8 (lv_at hl_4 0 rfl) ?_
    refine lv_ifnonnull (tgt := 15) hx hb dX11_hashPlan_10 (by decide) ?_
    refine lv_iconst (v := (0 : Int32)) hx hb dX11_hashPlan_15 (by decide) ?_
    refine lv_istore (lv' := [(6, .int (0 : Int32)), (5, .ref (z2.1)), (3, .long a0), (0, .ref (ad 0)), (1, .long a0)]) hx hb dX11_hashPlan_16 hl_4 (by decide) rfl (fun ls_5 hl_5 => ?_)
    obtain ⟨x8, hq1, hf⟩ := bd_some hf
    have K1 : ∀ (H : Heap) (locs : List Loc), sInv D (cT cI cJ cD cS) (cW ad cI cJ cD cS) A s H locs (G, E, Dd, P, Z) → ∀ (ls : Array Slot), lv_has ls 7 [(3, .long x8)] → W p l e R s m args below meth c H locs 0 0 Q (F0 m 60 ls []) := by
      intro H_9 lo_9 I_9 ls_10 hl_10
      refine lv_lload_n hx hb dX11_hashPlan_60 rfl (lv_at hl_10 0 rfl) ?_
      cases hf
      exact ret H_9 lo_9 _ ls_10 I_9 dX11_hashPlan_61
    have L1 : ∀ (n : Nat) (x6 : Int64) (x7 : Int32), lp (fun q => C_LT_hashPlan_s1 z2 q.1 q.2) n (x6, x7) = some x8 → ∀ (H : Heap) (locs : List Loc), sInv D (cT cI cJ cD cS) (cW ad cI cJ cD cS) A s H locs (G, E, Dd, P, Z) → ∀ (ls : Array Slot), lv_has ls 7 [(3, .long x6), (5, .ref (z2.1)), (6, .int x7)] → W p l e R s m args below meth c H locs 0 0 Q (F0 m 18 ls []) := by
      intro n
      induction n with
      | zero => intro x6 x7 hq; exact (lp_0 hq).elim
      | succ n ih1 =>
        intro x6 x7 hq H_12 lo_12 I_12 ls_13 hl_13
        obtain ⟨y1, hf, hK1⟩ := lp_go hq
        replace hf : C_LT_hashPlan_s1 z2 x6 x7 = some y1 := hf
        unfold C_LT_hashPlan_s1 at hf
        refine lv_iload hx hb dX11_hashPlan_18 (lv_at hl_13 2 rfl) ?_
        refine lv_aload hx hb dX11_hashPlan_20 (lv_at hl_13 1 rfl) ?_
        obtain ⟨r15, h16⟩ : ∃ z, z = P_size z2.2.2.2.1 := ⟨_, rfl⟩
        replace hf := nm_some h16 hf
        refine x_callVi (τ := pG z2) (As := []) (rest := [.int x7]) F I_12 (I_12.1.sub [0] rfl) (pl_sub I_12 (hPZ _ _ hsz2)) (pl_D I_12 (hPZ _ _ hsz2)) (cP_size (pG z2) r15 h16) kX11_102 ⟨rfl, rfl⟩ ⟨Nat.le_trans (Nat.le_of_ble_eq_true rfl) hRf, Nat.le_trans (Nat.le_of_ble_eq_true rfl) hRl⟩ 0 4 rfl rfl rfl rfl rfl hl_13.1 (Nat.le_of_ble_eq_true rfl) ⟨Nat.zero_le _, Nat.zero_le _⟩ dX11_hashPlan_22 ?_
        intro H_17 lo_17 I_17
        refine lv_icmp_ge (tgt := 60) hx hb dX11_hashPlan_25 (by decide) (fun c34 => ?_) (fun c34 => ?_)
        · replace hf := (if_pos c34).symm.trans hf
          cases hf
          cases (show x6 = x8 from hK1)
          exact K1 H_17 lo_17 I_17 ls_13 (lv_sub hl_13 [0] rfl)
        · replace hf := (if_neg c34).symm.trans hf
          refine lv_lload_n hx hb dX11_hashPlan_28 rfl (lv_at hl_13 0 rfl) ?_
          refine lv_aload hx hb dX11_hashPlan_29 (lv_at hl_13 1 rfl) ?_
          refine lv_iload hx hb dX11_hashPlan_31 (lv_at hl_13 2 rfl) ?_
          obtain ⟨r18, h19, hf⟩ := bd_some hf
          refine x_callVi (τ := pG z2) (As := [.int x7]) (rest := [.long x6]) F I_17 (I_17.1.sub [0] rfl) (pl_sub I_17 (hPZ _ _ hsz2)) (pl_D I_17 (hPZ _ _ hsz2)) (cP_firstAt (pG z2) x7 r18 h19) kX11_117 ⟨rfl, rfl⟩ ⟨Nat.le_trans (Nat.le_of_ble_eq_true rfl) hRf, Nat.le_trans (Nat.le_of_ble_eq_true rfl) hRl⟩ 0 4 rfl rfl rfl rfl rfl hl_13.1 (Nat.le_of_ble_eq_true rfl) ⟨Nat.zero_le _, Nat.zero_le _⟩ dX11_hashPlan_33 ?_
          intro H_20 lo_20 I_20
          refine lv_i2l hx hb dX11_hashPlan_36 rfl ?_
          obtain ⟨r21, h22⟩ : ∃ z, z = C_LT_mixed x6 r18.toInt64 := ⟨_, rfl⟩
          replace hf := nm_some h22 hf
          refine s_callSl (As := [.long x6, .long (r18.toInt64)]) (rest := []) F I_20 (cC_LT_mixed G E Dd P Z x6 r18.toInt64 r21 h22) kX11_296 ⟨rfl, rfl⟩ ⟨Nat.le_trans (Nat.le_of_ble_eq_true rfl) hRf, Nat.le_trans (Nat.le_of_ble_eq_true rfl) hRl⟩ rfl rfl hl_13.1 (Nat.le_of_ble_eq_true rfl) ⟨Nat.zero_le _, Nat.zero_le _⟩ dX11_hashPlan_37 ?_
          intro H_23 lo_23 I_23
          refine lv_lstore_n (lv' := [(3, .long r21), (5, .ref (z2.1)), (6, .int x7)]) hx hb dX11_hashPlan_40 rfl hl_13 (by decide) rfl (fun ls_24 hl_24 => ?_)
          refine lv_lload_n hx hb dX11_hashPlan_41 rfl (lv_at hl_24 0 rfl) ?_
          refine lv_aload hx hb dX11_hashPlan_42 (lv_at hl_24 1 rfl) ?_
          refine lv_iload hx hb dX11_hashPlan_44 (lv_at hl_24 2 rfl) ?_
          obtain ⟨r25, h26, hf⟩ := bd_some hf
          refine x_callVi (τ := pG z2) (As := [.int x7]) (rest := [.long r21]) F I_23 (I_23.1.sub [0] rfl) (pl_sub I_23 (hPZ _ _ hsz2)) (pl_D I_23 (hPZ _ _ hsz2)) (cP_secondAt (pG z2) x7 r25 h26) kX11_113 ⟨rfl, rfl⟩ ⟨Nat.le_trans (Nat.le_of_ble_eq_true rfl) hRf, Nat.le_trans (Nat.le_of_ble_eq_true rfl) hRl⟩ 0 4 rfl rfl rfl rfl rfl hl_24.1 (Nat.le_of_ble_eq_true rfl) ⟨Nat.zero_le _, Nat.zero_le _⟩ dX11_hashPlan_46 ?_
          intro H_27 lo_27 I_27
          refine lv_i2l hx hb dX11_hashPlan_49 rfl ?_
          obtain ⟨r28, h29⟩ : ∃ z, z = C_LT_mixed r21 r25.toInt64 := ⟨_, rfl⟩
          replace hf := nm_some h29 hf
          refine s_callSl (As := [.long r21, .long (r25.toInt64)]) (rest := []) F I_27 (cC_LT_mixed G E Dd P Z r21 r25.toInt64 r28 h29) kX11_296 ⟨rfl, rfl⟩ ⟨Nat.le_trans (Nat.le_of_ble_eq_true rfl) hRf, Nat.le_trans (Nat.le_of_ble_eq_true rfl) hRl⟩ rfl rfl hl_24.1 (Nat.le_of_ble_eq_true rfl) ⟨Nat.zero_le _, Nat.zero_le _⟩ dX11_hashPlan_50 ?_
          intro H_30 lo_30 I_30
          refine lv_lstore_n (lv' := [(3, .long r28), (5, .ref (z2.1)), (6, .int x7)]) hx hb dX11_hashPlan_53 rfl hl_24 (by decide) rfl (fun ls_31 hl_31 => ?_)
          obtain ⟨x32, ex32⟩ : ∃ y : Int32, y = x7 + (1 : Int32) := ⟨_, rfl⟩
          replace hf := nm_some ex32 hf
          refine lv_iinc (v := x32) (lv' := [(6, .int x32), (3, .long r28), (5, .ref (z2.1))]) hx hb dX11_hashPlan_54 hl_31 (k := 2) rfl (by rw [ex32]; rfl) (by decide) rfl (fun ls_33 hl_33 => ?_)
          refine lv_goto (tgt := 18) hx hb dX11_hashPlan_57 (by decide) ?_
          cases hf
          exact ih1 _ _ hK1 H_30 lo_30 I_30 ls_33 (lv_sub hl_33 [1, 2, 0] rfl)
    exact L1 FU _ _ hq1 H lo I ls_5 (lv_sub hl_5 [2, 1, 0] rfl)
def C_LT_hashRanks_s2  (x20 : Int64) (x21 : Int32) (G22 : Nat → Nat → Int32) : Option ((Int64 × Int32 × (Nat → Nat → Int32)) ⊕ (Int64 × (Nat → Nat → Int32))) :=
if (5 : Int32) < x21 then
(some (.inr (x20, G22)))
else
(bd2 (C_SD_numberOf G22 x21) fun r31 G32 =>
nm (C_LT_mixed x20 r31.toInt64) fun r35 =>
nm (x21 + (1 : Int32) : Int32) fun x39 =>
some (.inl (r35, x39, G32)))
def C_LT_hashRanks_s3 (x12 : Int32) (x46 : Int64) (x47 : Int32) (G48 : Nat → Nat → Int32) : Option ((Int64 × Int32 × (Nat → Nat → Int32)) ⊕ (Int64 × (Nat → Nat → Int32))) :=
if (5 : Int32) < x47 then
(some (.inr (x46, G48)))
else
(bd2 (C_SD_propertyOf G48 x12 x47) fun r66 G67 =>
nm (C_LT_mixed x46 r66.toInt64) fun r70 =>
nm (x47 + (1 : Int32) : Int32) fun x74 =>
some (.inl (r70, x74, G67)))
def C_LT_hashRanks_s1 (Dd6 : Nat → Nat → UInt64) (x11 : Int64) (x12 : Int32) (G13 : Nat → Nat → Int32) : Option ((Int64 × Int32 × (Nat → Nat → Int32)) ⊕ (Int64 × (Nat → Nat → Int32))) :=
if G13 0 0 ≤ x12 then
(some (.inr (x11, G13)))
else
(bd2 (lp (fun q => C_LT_hashRanks_s3 x12 q.1 q.2.1 q.2.2) FU (x11, (0 : Int32), G13)) fun x49 G50 =>
ri 8 x12 <|
nm (C_LT_mixed x49 (FP.d2l (FP.dmul (Dd6 1 x12.toNatClampNeg) (4696837146684686336 : UInt64)))) fun r57 =>
nm (x12 + (1 : Int32) : Int32) fun x61 =>
some (.inl (r57, x61, G50)))
def C_LT_hashRanks (G : Nat → Nat → Int32) (Dd : Nat → Nat → UInt64) (a0 : Int64) : Option (Int64 × (Nat → Nat → Int32) × (Nat → Nat → UInt64)) :=
bd (C_LT_weigh G (-1 : Int32)) fun G2 =>
bd2 (C_LT_fitStrengths G2 Dd (8 : Int32)) fun G5 Dd6 =>
bd2 (lp (fun q => C_LT_hashRanks_s1 Dd6 q.1 q.2.1 q.2.2) FU (a0, (0 : Int32), G5)) fun x14 G15 =>
bd2 (lp (fun q => C_LT_hashRanks_s2 q.1 q.2.1 q.2.2) FU (x14, (0 : Int32), G15)) fun x23 G24 =>
some (x23, G24, Dd6)
set_option maxRecDepth 100000 in
set_option maxHeartbeats 4000000 in
theorem cC_LT_hashRanks (G : Nat → Nat → Int32) (E : Nat → Nat → Int64) (Dd : Nat → Nat → UInt64) (P : Nat → Option PRec) (Z : List PRec) (a0 : Int64) (rv : Int64) (newG : Nat → Nat → Int32) (newDd : Nat → Nat → UInt64) (hf : C_LT_hashRanks G Dd a0 = some (rv, newG, newDd)) : sDl D (cT cI cJ cD cS) (cW ad cI cJ cD cS) cSm l yX11_hashRanks (ws1 yX11_hashRanks cX11_hashRanks 7 (some .long)) ({ frames := 5, cells := 0, slots := 0, locals := 119 }) [.ref (ad 0), .long a0] (G, E, Dd, P, Z) (rv, (newG, E, newDd, P, Z)) := by
  unfold C_LT_hashRanks at hf
  refine sDl_of (by decide) (Nat.le_of_ble_eq_true rfl) ?_
  intro p e R s m args below meth c A Q ls H lo dr sgm F hRf hRl hd hsm I hl ret
  obtain ⟨_, _, Dm, _⟩ := sgm
  obtain ⟨rfl, rfl, ha, rfl⟩ := cSm_dest hsm
  obtain ⟨hx, hb, hml, hown, hG⟩ := id F
  replace hl : lv_has ls 7 [(0, .ref (ad 0)), (1, .long a0)] := hl
  refine lv_lload_n hx hb dX11_hashRanks_0 rfl (lv_at hl 1 rfl) ?_
  refine lv_lstore_n (lv' := [(3, .long a0), (0, .ref (ad 0)), (1, .long a0)]) hx hb dX11_hashRanks_1 rfl hl (by decide) rfl (fun ls_1 hl_1 => ?_)
  refine lv_aload_n hx hb dX11_hashRanks_2 rfl (lv_at hl_1 1 rfl) ?_
  refine lv_iconst (v := (-1 : Int32)) hx hb dX11_hashRanks_3 (by decide) ?_
  obtain ⟨G2, h3, hf⟩ := bd_some hf
  refine s_callVv (As := [.int (-1 : Int32)]) (rest := []) (Fdr F) (Idr I) (cC_LT_weigh G E Dm P Z (-1 : Int32) G2 h3) kX11_202 ⟨rfl, rfl⟩ ⟨Nat.le_trans (Nat.le_of_ble_eq_true rfl) hRf, Nat.le_trans (Nat.le_of_ble_eq_true rfl) hRl⟩ (0) 11 rfl rfl rfl rfl rfl hl_1.1 (Nat.le_of_ble_eq_true rfl) ⟨Nat.zero_le _, Nat.zero_le _⟩ dX11_hashRanks_4 ?_
  intro H_4 lo_4 I_4
  replace I_4 := Irr I_4
  refine lv_aload_n hx hb dX11_hashRanks_7 rfl (lv_at hl_1 1 rfl) ?_
  refine lv_bipush (v := (8 : Int32)) hx hb dX11_hashRanks_8 (by decide) ?_
  obtain ⟨G5, Dd6, h7, hf⟩ := bd2_some hf
  refine d_callVv (As := [.int (8 : Int32)]) (rest := []) F hd I_4 ⟨rfl, rfl, ha, rfl⟩ (cC_LT_fitStrengths G2 E Dd P Z (8 : Int32) G5 Dd6 h7) kX11_266 ⟨rfl, rfl⟩ ⟨Nat.le_trans (Nat.le_of_ble_eq_true rfl) hRf, Nat.le_trans (Nat.le_of_ble_eq_true rfl) hRl⟩ (0) 11 rfl rfl rfl rfl rfl hl_1.1 (Nat.le_of_ble_eq_true rfl) ⟨Nat.zero_le _, Nat.zero_le _⟩ dX11_hashRanks_10 ?_
  intro H_8 lo_8 dr_9 sg9 hd_9 I_8 hs9
  obtain ⟨_, _, Dm9, _⟩ := sg9
  obtain ⟨rfl, rfl, ha9, rfl⟩ := cSm_dest hs9
  refine lv_iconst (v := (0 : Int32)) hx hb dX11_hashRanks_13 (by decide) ?_
  refine lv_istore (lv' := [(5, .int (0 : Int32)), (3, .long a0), (0, .ref (ad 0)), (1, .long a0)]) hx hb dX11_hashRanks_14 hl_1 (by decide) rfl (fun ls_10 hl_10 => ?_)
  obtain ⟨x14, G15, hq1, hf⟩ := bd2_some hf
  have K1 : ∀ (H : Heap) (locs : List Loc) (d : Drawn), s.drawn.sameBut d lw_cs → sInv D (cT cI cJ cD cS) (cW ad cI cJ cD cS) A s H locs (G15, E, Dm9, P, Z) → ∀ (ls : Array Slot), lv_has ls 7 [(0, .ref (ad 0)), (3, .long x14)] → W p l e R (s.setDrawn d) m args below meth c H locs 0 0 Q (F0 m 87 ls []) := by
    intro H_16 lo_16 dr_18 hd_18 I_16 ls_17 hl_17
    refine lv_iconst (v := (0 : Int32)) hx hb dX11_hashRanks_87 (by decide) ?_
    refine lv_istore (lv' := [(5, .int (0 : Int32)), (0, .ref (ad 0)), (3, .long x14)]) hx hb dX11_hashRanks_88 hl_17 (by decide) rfl (fun ls_19 hl_19 => ?_)
    obtain ⟨x23, G24, hq2, hf⟩ := bd2_some hf
    have K2 : ∀ (H : Heap) (locs : List Loc) (d : Drawn), s.drawn.sameBut d lw_cs → sInv D (cT cI cJ cD cS) (cW ad cI cJ cD cS) A s H locs (G24, E, Dm9, P, Z) → ∀ (ls : Array Slot), lv_has ls 7 [(3, .long x23)] → W p l e R (s.setDrawn d) m args below meth c H locs 0 0 Q (F0 m 121 ls []) := by
      intro H_25 lo_25 dr_27 hd_27 I_25 ls_26 hl_26
      refine lv_lload_n hx hb dX11_hashRanks_121 rfl (lv_at hl_26 0 rfl) ?_
      cases hf
      exact ret H_25 lo_25 _ ls_26 dr_27 _ hd_27 I_25 ⟨rfl, rfl, ha9, rfl⟩ dX11_hashRanks_122
    have L2 : ∀ (n : Nat) (x20 : Int64) (x21 : Int32) (G22 : Nat → Nat → Int32), lp (fun q => C_LT_hashRanks_s2 q.1 q.2.1 q.2.2) n (x20, x21, G22) = some (x23, G24) → ∀ (H : Heap) (locs : List Loc) (d : Drawn), s.drawn.sameBut d lw_cs → sInv D (cT cI cJ cD cS) (cW ad cI cJ cD cS) A s H locs (G22, E, Dm9, P, Z) → ∀ (ls : Array Slot), lv_has ls 7 [(0, .ref (ad 0)), (3, .long x20), (5, .int x21)] → W p l e R (s.setDrawn d) m args below meth c H locs 0 0 Q (F0 m 90 ls []) := by
      intro n
      induction n with
      | zero => intro x20 x21 G22 hq; exact (lp_0 hq).elim
      | succ n ih2 =>
        intro x20 x21 G22 hq H_28 lo_28 dr_30 hd_30 I_28 ls_29 hl_29
        obtain ⟨y2, hf, hK2⟩ := lp_go hq
        replace hf : C_LT_hashRanks_s2 x20 x21 G22 = some y2 := hf
        unfold C_LT_hashRanks_s2 at hf
        refine lv_iload hx hb dX11_hashRanks_90 (lv_at hl_29 2 rfl) ?_
        refine lv_iconst (v := (5 : Int32)) hx hb dX11_hashRanks_92 (by decide) ?_
        refine lv_icmp_gt (tgt := 121) hx hb dX11_hashRanks_93 (by decide) (fun c41 => ?_) (fun c41 => ?_)
        · replace hf := (if_pos c41).symm.trans hf
          cases hf
          cases (show (x20, G22) = (x23, G24) from hK2)
          exact K2 H_28 lo_28 dr_30 hd_30 I_28 ls_29 (lv_sub hl_29 [1] rfl)
        · replace hf := (if_neg c41).symm.trans hf
          refine lv_lload_n hx hb dX11_hashRanks_96 rfl (lv_at hl_29 1 rfl) ?_
          refine lv_aload_n hx hb dX11_hashRanks_97 rfl (lv_at hl_29 0 rfl) ?_
          refine kgtX11_54_0 (Fdr F) (Idr I_28) dX11_hashRanks_98 ?_
          refine lv_aload_n hx hb dX11_hashRanks_101 rfl (lv_at hl_29 0 rfl) ?_
          refine kgtX11_16_0 (Fdr F) (Idr I_28) dX11_hashRanks_102 ?_
          refine lv_iload hx hb dX11_hashRanks_105 (lv_at hl_29 2 rfl) ?_
          obtain ⟨r31, G32, h33, hf⟩ := bd2_some hf
          refine s_callVi (As := [.ref (ad 2), .int x21]) (rest := [.long x20]) (Fdr F) (Idr I_28) (cC_SD_numberOf G22 E Dm9 P Z x21 r31 G32 h33) kX11_226 ⟨rfl, rfl⟩ ⟨Nat.le_trans (Nat.le_of_ble_eq_true rfl) hRf, Nat.le_trans (Nat.le_of_ble_eq_true rfl) hRl⟩ (16) 6 rfl rfl rfl rfl rfl hl_29.1 (Nat.le_of_ble_eq_true rfl) ⟨Nat.zero_le _, Nat.zero_le _⟩ dX11_hashRanks_107 ?_
          intro H_34 lo_34 I_34
          replace I_34 := Irr I_34
          refine lv_i2l hx hb dX11_hashRanks_110 rfl ?_
          obtain ⟨r35, h36⟩ : ∃ z, z = C_LT_mixed x20 r31.toInt64 := ⟨_, rfl⟩
          replace hf := nm_some h36 hf
          refine s_callSl (As := [.long x20, .long (r31.toInt64)]) (rest := []) (Fdr F) (Idr I_34) (cC_LT_mixed G32 E Dm9 P Z x20 r31.toInt64 r35 h36) kX11_296 ⟨rfl, rfl⟩ ⟨Nat.le_trans (Nat.le_of_ble_eq_true rfl) hRf, Nat.le_trans (Nat.le_of_ble_eq_true rfl) hRl⟩ rfl rfl hl_29.1 (Nat.le_of_ble_eq_true rfl) ⟨Nat.zero_le _, Nat.zero_le _⟩ dX11_hashRanks_111 ?_
          intro H_37 lo_37 I_37
          replace I_37 := Irr I_37
          refine lv_lstore_n (lv' := [(3, .long r35), (0, .ref (ad 0)), (5, .int x21)]) hx hb dX11_hashRanks_114 rfl hl_29 (by decide) rfl (fun ls_38 hl_38 => ?_)
          obtain ⟨x39, ex39⟩ : ∃ y : Int32, y = x21 + (1 : Int32) := ⟨_, rfl⟩
          replace hf := nm_some ex39 hf
          refine lv_iinc (v := x39) (lv' := [(5, .int x39), (3, .long r35), (0, .ref (ad 0))]) hx hb dX11_hashRanks_115 hl_38 (k := 2) rfl (by rw [ex39]; rfl) (by decide) rfl (fun ls_40 hl_40 => ?_)
          refine lv_goto (tgt := 90) hx hb dX11_hashRanks_118 (by decide) ?_
          cases hf
          exact ih2 _ _ _ hK2 H_37 lo_37 dr_30 hd_30 I_37 ls_40 (lv_sub hl_40 [2, 1, 0] rfl)
    exact L2 FU _ _ _ hq2 H_16 lo_16 dr_18 hd_18 I_16 ls_19 (lv_sub hl_19 [1, 2, 0] rfl)
  have L1 : ∀ (n : Nat) (x11 : Int64) (x12 : Int32) (G13 : Nat → Nat → Int32), lp (fun q => C_LT_hashRanks_s1 Dd6 q.1 q.2.1 q.2.2) n (x11, x12, G13) = some (x14, G15) → ∀ (H : Heap) (locs : List Loc) (d : Drawn), s.drawn.sameBut d lw_cs → sInv D (cT cI cJ cD cS) (cW ad cI cJ cD cS) A s H locs (G13, E, Dm9, P, Z) → ∀ (ls : Array Slot), lv_has ls 7 [(0, .ref (ad 0)), (3, .long x11), (5, .int x12)] → W p l e R (s.setDrawn d) m args below meth c H locs 0 0 Q (F0 m 16 ls []) := by
    intro n
    induction n with
    | zero => intro x11 x12 G13 hq; exact (lp_0 hq).elim
    | succ n ih1 =>
      intro x11 x12 G13 hq H_42 lo_42 dr_44 hd_44 I_42 ls_43 hl_43
      obtain ⟨y1, hf, hK1⟩ := lp_go hq
      replace hf : C_LT_hashRanks_s1 Dd6 x11 x12 G13 = some y1 := hf
      unfold C_LT_hashRanks_s1 at hf
      refine lv_iload hx hb dX11_hashRanks_16 (lv_at hl_43 2 rfl) ?_
      refine lv_aload_n hx hb dX11_hashRanks_18 rfl (lv_at hl_43 0 rfl) ?_
      refine kgtX11_89_0 (Fdr F) (Idr I_42) dX11_hashRanks_19 ?_
      refine lv_icmp_ge (tgt := 87) hx hb dX11_hashRanks_22 (by decide) (fun c77 => ?_) (fun c77 => ?_)
      · replace hf := (if_pos c77).symm.trans hf
        cases hf
        cases (show (x11, G13) = (x14, G15) from hK1)
        exact K1 H_42 lo_42 dr_44 hd_44 I_42 ls_43 (lv_sub hl_43 [0, 1] rfl)
      · replace hf := (if_neg c77).symm.trans hf
        refine lv_iconst (v := (0 : Int32)) hx hb dX11_hashRanks_25 (by decide) ?_
        refine lv_istore (lv' := [(6, .int (0 : Int32)), (0, .ref (ad 0)), (3, .long x11), (5, .int x12)]) hx hb dX11_hashRanks_26 hl_43 (by decide) rfl (fun ls_45 hl_45 => ?_)
        obtain ⟨x49, G50, hq3, hf⟩ := bd2_some hf
        have K3 : ∀ (H : Heap) (locs : List Loc) (d : Drawn), s.drawn.sameBut d lw_cs → sInv D (cT cI cJ cD cS) (cW ad cI cJ cD cS) A s H locs (G50, E, Dm9, P, Z) → ∀ (ls : Array Slot), lv_has ls 7 [(0, .ref (ad 0)), (3, .long x49), (5, .int x12)] → W p l e R (s.setDrawn d) m args below meth c H locs 0 0 Q (F0 m 61 ls []) := by
          intro H_51 lo_51 dr_53 hd_53 I_51 ls_52 hl_52
          refine lv_lload_n hx hb dX11_hashRanks_61 rfl (lv_at hl_52 1 rfl) ?_
          refine lv_aload_n hx hb dX11_hashRanks_62 rfl (lv_at hl_52 0 rfl) ?_
          refine kgtX11_68_0 (Fdr F) (Idr I_51) dX11_hashRanks_63 ?_
          refine kgtX11_269_33 (Fdr F) (Idr I_51) dX11_hashRanks_66 ?_
          refine lv_iload hx hb dX11_hashRanks_69 (lv_at hl_52 2 rfl) ?_
          obtain ⟨g54, hf⟩ := ri_some hf
          refine kal36 (Fdr F) (Idr I_51) g54 dX11_hashRanks_71 ?_
          refine lv_ldc2d (v := (4696837146684686336 : UInt64)) hx hb hown (dr_words hG _ _ q731) dX11_hashRanks_72 ?_
          refine lv_dmul_any hd_53 lw_bits hx hb dX11_hashRanks_75 (fun u55 dr_56 alu55 hd_56 => ?_)
          have hu55 := al_dmul alu55 (ha9 1 _) (al_rf _)
          refine lv_d2l hx hb dX11_hashRanks_76 ?_
          rw [al_d2l hu55]
          obtain ⟨r57, h58⟩ : ∃ z, z = C_LT_mixed x49 (FP.d2l (FP.dmul (Dd6 1 x12.toNatClampNeg) (4696837146684686336 : UInt64))) := ⟨_, rfl⟩
          replace hf := nm_some h58 hf
          refine s_callSl (As := [.long x49, .long (FP.d2l (FP.dmul (Dd6 1 x12.toNatClampNeg) (4696837146684686336 : UInt64)))]) (rest := []) (Fdr F) (Idr I_51) (cC_LT_mixed G50 E Dm9 P Z x49 (FP.d2l (FP.dmul (Dd6 1 x12.toNatClampNeg) (4696837146684686336 : UInt64))) r57 h58) kX11_296 ⟨rfl, rfl⟩ ⟨Nat.le_trans (Nat.le_of_ble_eq_true rfl) hRf, Nat.le_trans (Nat.le_of_ble_eq_true rfl) hRl⟩ rfl rfl hl_52.1 (Nat.le_of_ble_eq_true rfl) ⟨Nat.zero_le _, Nat.zero_le _⟩ dX11_hashRanks_77 ?_
          intro H_59 lo_59 I_59
          replace I_59 := Irr I_59
          refine lv_lstore_n (lv' := [(3, .long r57), (0, .ref (ad 0)), (5, .int x12)]) hx hb dX11_hashRanks_80 rfl hl_52 (by decide) rfl (fun ls_60 hl_60 => ?_)
          obtain ⟨x61, ex61⟩ : ∃ y : Int32, y = x12 + (1 : Int32) := ⟨_, rfl⟩
          replace hf := nm_some ex61 hf
          refine lv_iinc (v := x61) (lv' := [(5, .int x61), (3, .long r57), (0, .ref (ad 0))]) hx hb dX11_hashRanks_81 hl_60 (k := 2) rfl (by rw [ex61]; rfl) (by decide) rfl (fun ls_62 hl_62 => ?_)
          refine lv_goto (tgt := 16) hx hb dX11_hashRanks_84 (by decide) ?_
          cases hf
          exact ih1 _ _ _ hK1 H_59 lo_59 dr_56 hd_56 I_59 ls_62 (lv_sub hl_62 [2, 1, 0] rfl)
        have L3 : ∀ (n : Nat) (x46 : Int64) (x47 : Int32) (G48 : Nat → Nat → Int32), lp (fun q => C_LT_hashRanks_s3 x12 q.1 q.2.1 q.2.2) n (x46, x47, G48) = some (x49, G50) → ∀ (H : Heap) (locs : List Loc) (d : Drawn), s.drawn.sameBut d lw_cs → sInv D (cT cI cJ cD cS) (cW ad cI cJ cD cS) A s H locs (G48, E, Dm9, P, Z) → ∀ (ls : Array Slot), lv_has ls 7 [(0, .ref (ad 0)), (3, .long x46), (5, .int x12), (6, .int x47)] → W p l e R (s.setDrawn d) m args below meth c H locs 0 0 Q (F0 m 28 ls []) := by
          intro n
          induction n with
          | zero => intro x46 x47 G48 hq; exact (lp_0 hq).elim
          | succ n ih3 =>
            intro x46 x47 G48 hq H_63 lo_63 dr_65 hd_65 I_63 ls_64 hl_64
            obtain ⟨y3, hf, hK3⟩ := lp_go hq
            replace hf : C_LT_hashRanks_s3 x12 x46 x47 G48 = some y3 := hf
            unfold C_LT_hashRanks_s3 at hf
            refine lv_iload hx hb dX11_hashRanks_28 (lv_at hl_64 3 rfl) ?_
            refine lv_iconst (v := (5 : Int32)) hx hb dX11_hashRanks_30 (by decide) ?_
            refine lv_icmp_gt (tgt := 61) hx hb dX11_hashRanks_31 (by decide) (fun c76 => ?_) (fun c76 => ?_)
            · replace hf := (if_pos c76).symm.trans hf
              cases hf
              cases (show (x46, G48) = (x49, G50) from hK3)
              exact K3 H_63 lo_63 dr_65 hd_65 I_63 ls_64 (lv_sub hl_64 [0, 1, 2] rfl)
            · replace hf := (if_neg c76).symm.trans hf
              refine lv_lload_n hx hb dX11_hashRanks_34 rfl (lv_at hl_64 1 rfl) ?_
              refine lv_aload_n hx hb dX11_hashRanks_35 rfl (lv_at hl_64 0 rfl) ?_
              refine kgtX11_54_0 (Fdr F) (Idr I_63) dX11_hashRanks_36 ?_
              refine lv_aload_n hx hb dX11_hashRanks_39 rfl (lv_at hl_64 0 rfl) ?_
              refine kgtX11_16_0 (Fdr F) (Idr I_63) dX11_hashRanks_40 ?_
              refine lv_iload hx hb dX11_hashRanks_43 (lv_at hl_64 2 rfl) ?_
              refine lv_iload hx hb dX11_hashRanks_45 (lv_at hl_64 3 rfl) ?_
              obtain ⟨r66, G67, h68, hf⟩ := bd2_some hf
              refine s_callVi (As := [.ref (ad 2), .int x12, .int x47]) (rest := [.long x46]) (Fdr F) (Idr I_63) (cC_SD_propertyOf G48 E Dm9 P Z x12 x47 r66 G67 h68) kX11_220 ⟨rfl, rfl⟩ ⟨Nat.le_trans (Nat.le_of_ble_eq_true rfl) hRf, Nat.le_trans (Nat.le_of_ble_eq_true rfl) hRl⟩ (16) 6 rfl rfl rfl rfl rfl hl_64.1 (Nat.le_of_ble_eq_true rfl) ⟨Nat.zero_le _, Nat.zero_le _⟩ dX11_hashRanks_47 ?_
              intro H_69 lo_69 I_69
              replace I_69 := Irr I_69
              refine lv_i2l hx hb dX11_hashRanks_50 rfl ?_
              obtain ⟨r70, h71⟩ : ∃ z, z = C_LT_mixed x46 r66.toInt64 := ⟨_, rfl⟩
              replace hf := nm_some h71 hf
              refine s_callSl (As := [.long x46, .long (r66.toInt64)]) (rest := []) (Fdr F) (Idr I_69) (cC_LT_mixed G67 E Dm9 P Z x46 r66.toInt64 r70 h71) kX11_296 ⟨rfl, rfl⟩ ⟨Nat.le_trans (Nat.le_of_ble_eq_true rfl) hRf, Nat.le_trans (Nat.le_of_ble_eq_true rfl) hRl⟩ rfl rfl hl_64.1 (Nat.le_of_ble_eq_true rfl) ⟨Nat.zero_le _, Nat.zero_le _⟩ dX11_hashRanks_51 ?_
              intro H_72 lo_72 I_72
              replace I_72 := Irr I_72
              refine lv_lstore_n (lv' := [(3, .long r70), (0, .ref (ad 0)), (5, .int x12), (6, .int x47)]) hx hb dX11_hashRanks_54 rfl hl_64 (by decide) rfl (fun ls_73 hl_73 => ?_)
              obtain ⟨x74, ex74⟩ : ∃ y : Int32, y = x47 + (1 : Int32) := ⟨_, rfl⟩
              replace hf := nm_some ex74 hf
              refine lv_iinc (v := x74) (lv' := [(6, .int x74), (3, .long r70), (0, .ref (ad 0)), (5, .int x12)]) hx hb dX11_hashRanks_55 hl_73 (k := 3) rfl (by rw [ex74]; rfl) (by decide) rfl (fun ls_75 hl_75 => ?_)
              refine lv_goto (tgt := 28) hx hb dX11_hashRanks_58 (by decide) ?_
              cases hf
              exact ih3 _ _ _ hK3 H_72 lo_72 dr_65 hd_65 I_72 ls_75 (lv_sub hl_75 [2, 1, 3, 0] rfl)
        exact L3 FU _ _ _ hq3 H_42 lo_42 dr_44 hd_44 I_42 ls_45 (lv_sub hl_45 [1, 2, 3, 0] rfl)
  exact L1 FU _ _ _ hq1 H_8 lo_8 dr_9 hd_9 I_8 ls_10 (lv_sub hl_10 [2, 1, 0] rfl)
def C_LT_hashPairs_s2 (x10 : Int32) (G5 : Nat → Nat → Int32) (x20 : Int64) (x21 : Int32) : Option ((Int64 × Int32) ⊕ (Int64)) :=
if G5 0 0 ≤ x21 then
(some (.inr x20))
else
(bd (C_LE_lead_22 G5 x10 x21) fun r31 =>
nm (C_LT_mixed x20 r31.toInt64) fun r34 =>
bd (C_TA_chanceOf G5 x10 x21) fun r38 =>
nm (C_LT_mixed r34 r38) fun r41 =>
nm (x21 + (1 : Int32) : Int32) fun x45 =>
some (.inl (r41, x45)))
def C_LT_hashPairs_s1 (G5 : Nat → Nat → Int32) (x9 : Int64) (x10 : Int32) : Option ((Int64 × Int32) ⊕ (Int64)) :=
if G5 0 0 ≤ x10 then
(some (.inr x9))
else
(nm (x10 + (1 : Int32) : Int32) fun x18 =>
bd (lp (fun q => C_LT_hashPairs_s2 x10 G5 q.1 q.2) FU (x9, x18)) fun x22 =>
nm (x10 + (1 : Int32) : Int32) fun x26 =>
some (.inl (x22, x26)))
def C_LT_hashPairs (G : Nat → Nat → Int32) (a0 : Int64) : Option (Int64 × (Nat → Nat → Int32)) :=
bd (C_LT_weigh G (-1 : Int32)) fun G2 =>
bd (C_TA_take G2) fun G5 =>
bd (lp (fun q => C_LT_hashPairs_s1 G5 q.1 q.2) FU (a0, (0 : Int32))) fun x11 =>
some (x11, G5)
set_option maxRecDepth 100000 in
set_option maxHeartbeats 4000000 in
theorem cC_LT_hashPairs (G : Nat → Nat → Int32) (E : Nat → Nat → Int64) (Dd : Nat → Nat → UInt64) (P : Nat → Option PRec) (Z : List PRec) (a0 : Int64) (rv : Int64) (newG : Nat → Nat → Int32) (hf : C_LT_hashPairs G a0 = some (rv, newG)) : sMl D (cT cI cJ cD cS) (cW ad cI cJ cD cS) l yX11_hashPairs (ws1 yX11_hashPairs cX11_hashPairs 7 (some .long)) ({ frames := 5, cells := 0, slots := 0, locals := 112 }) [.ref (ad 0), .long a0] (G, E, Dd, P, Z) (rv, (newG, E, Dd, P, Z)) := by
  unfold C_LT_hashPairs at hf
  refine sMl_of (by decide) (Nat.le_of_ble_eq_true rfl) ?_
  intro p e R s m args below meth c A Q ls H lo F hRf hRl I hl ret
  obtain ⟨hx, hb, hml, hown, hG⟩ := id F
  replace hl : lv_has ls 7 [(0, .ref (ad 0)), (1, .long a0)] := hl
  refine lv_lload_n hx hb dX11_hashPairs_0 rfl (lv_at hl 1 rfl) ?_
  refine lv_lstore_n (lv' := [(3, .long a0), (0, .ref (ad 0)), (1, .long a0)]) hx hb dX11_hashPairs_1 rfl hl (by decide) rfl (fun ls_1 hl_1 => ?_)
  refine lv_aload_n hx hb dX11_hashPairs_2 rfl (lv_at hl_1 1 rfl) ?_
  refine lv_iconst (v := (-1 : Int32)) hx hb dX11_hashPairs_3 (by decide) ?_
  obtain ⟨G2, h3, hf⟩ := bd_some hf
  refine s_callVv (As := [.int (-1 : Int32)]) (rest := []) F I (cC_LT_weigh G E Dd P Z (-1 : Int32) G2 h3) kX11_202 ⟨rfl, rfl⟩ ⟨Nat.le_trans (Nat.le_of_ble_eq_true rfl) hRf, Nat.le_trans (Nat.le_of_ble_eq_true rfl) hRl⟩ (0) 11 rfl rfl rfl rfl rfl hl_1.1 (Nat.le_of_ble_eq_true rfl) ⟨Nat.zero_le _, Nat.zero_le _⟩ dX11_hashPairs_4 ?_
  intro H_4 lo_4 I_4
  refine lv_aload_n hx hb dX11_hashPairs_7 rfl (lv_at hl_1 1 rfl) ?_
  refine kgtX11_37_0 F I_4 dX11_hashPairs_8 ?_
  refine lv_aload_n hx hb dX11_hashPairs_11 rfl (lv_at hl_1 1 rfl) ?_
  refine kgtX11_16_0 F I_4 dX11_hashPairs_12 ?_
  obtain ⟨G5, h6, hf⟩ := bd_some hf
  refine s_callVv (As := [.ref (ad 2)]) (rest := []) F I_4 (cC_TA_take G2 E Dd P Z G5 h6) kX11_211 ⟨rfl, rfl⟩ ⟨Nat.le_trans (Nat.le_of_ble_eq_true rfl) hRf, Nat.le_trans (Nat.le_of_ble_eq_true rfl) hRl⟩ (9) 9 rfl rfl rfl rfl rfl hl_1.1 (Nat.le_of_ble_eq_true rfl) ⟨Nat.zero_le _, Nat.zero_le _⟩ dX11_hashPairs_15 ?_
  intro H_7 lo_7 I_7
  refine lv_iconst (v := (0 : Int32)) hx hb dX11_hashPairs_18 (by decide) ?_
  refine lv_istore (lv' := [(5, .int (0 : Int32)), (3, .long a0), (0, .ref (ad 0)), (1, .long a0)]) hx hb dX11_hashPairs_19 hl_1 (by decide) rfl (fun ls_8 hl_8 => ?_)
  obtain ⟨x11, hq1, hf⟩ := bd_some hf
  have K1 : ∀ (H : Heap) (locs : List Loc), sInv D (cT cI cJ cD cS) (cW ad cI cJ cD cS) A s H locs (G5, E, Dd, P, Z) → ∀ (ls : Array Slot), lv_has ls 7 [(3, .long x11)] → W p l e R s m args below meth c H locs 0 0 Q (F0 m 93 ls []) := by
    intro H_12 lo_12 I_12 ls_13 hl_13
    refine lv_lload_n hx hb dX11_hashPairs_93 rfl (lv_at hl_13 0 rfl) ?_
    cases hf
    exact ret H_12 lo_12 _ ls_13 I_12 dX11_hashPairs_94
  have L1 : ∀ (n : Nat) (x9 : Int64) (x10 : Int32), lp (fun q => C_LT_hashPairs_s1 G5 q.1 q.2) n (x9, x10) = some x11 → ∀ (H : Heap) (locs : List Loc), sInv D (cT cI cJ cD cS) (cW ad cI cJ cD cS) A s H locs (G5, E, Dd, P, Z) → ∀ (ls : Array Slot), lv_has ls 7 [(0, .ref (ad 0)), (3, .long x9), (5, .int x10)] → W p l e R s m args below meth c H locs 0 0 Q (F0 m 21 ls []) := by
    intro n
    induction n with
    | zero => intro x9 x10 hq; exact (lp_0 hq).elim
    | succ n ih1 =>
      intro x9 x10 hq H_15 lo_15 I_15 ls_16 hl_16
      obtain ⟨y1, hf, hK1⟩ := lp_go hq
      replace hf : C_LT_hashPairs_s1 G5 x9 x10 = some y1 := hf
      unfold C_LT_hashPairs_s1 at hf
      refine lv_iload hx hb dX11_hashPairs_21 (lv_at hl_16 2 rfl) ?_
      refine lv_aload_n hx hb dX11_hashPairs_23 rfl (lv_at hl_16 0 rfl) ?_
      refine kgtX11_89_0 F I_15 dX11_hashPairs_24 ?_
      refine lv_icmp_ge (tgt := 93) hx hb dX11_hashPairs_27 (by decide) (fun c48 => ?_) (fun c48 => ?_)
      · replace hf := (if_pos c48).symm.trans hf
        cases hf
        cases (show x9 = x11 from hK1)
        exact K1 H_15 lo_15 I_15 ls_16 (lv_sub hl_16 [1] rfl)
      · replace hf := (if_neg c48).symm.trans hf
        refine lv_iload hx hb dX11_hashPairs_30 (lv_at hl_16 2 rfl) ?_
        refine lv_iconst (v := (1 : Int32)) hx hb dX11_hashPairs_32 (by decide) ?_
        refine lv_iadd hx hb dX11_hashPairs_33 ?_
        refine lv_topi (fun x18 ex18 => ?_)
        replace hf := nm_some ex18 hf
        refine lv_istore (lv' := [(6, .int x18), (0, .ref (ad 0)), (3, .long x9), (5, .int x10)]) hx hb dX11_hashPairs_34 hl_16 (by decide) rfl (fun ls_19 hl_19 => ?_)
        obtain ⟨x22, hq2, hf⟩ := bd_some hf
        have K2 : ∀ (H : Heap) (locs : List Loc), sInv D (cT cI cJ cD cS) (cW ad cI cJ cD cS) A s H locs (G5, E, Dd, P, Z) → ∀ (ls : Array Slot), lv_has ls 7 [(0, .ref (ad 0)), (3, .long x22), (5, .int x10)] → W p l e R s m args below meth c H locs 0 0 Q (F0 m 87 ls []) := by
          intro H_23 lo_23 I_23 ls_24 hl_24
          obtain ⟨x26, ex26⟩ : ∃ y : Int32, y = x10 + (1 : Int32) := ⟨_, rfl⟩
          replace hf := nm_some ex26 hf
          refine lv_iinc (v := x26) (lv' := [(5, .int x26), (0, .ref (ad 0)), (3, .long x22)]) hx hb dX11_hashPairs_87 hl_24 (k := 2) rfl (by rw [ex26]; rfl) (by decide) rfl (fun ls_27 hl_27 => ?_)
          refine lv_goto (tgt := 21) hx hb dX11_hashPairs_90 (by decide) ?_
          cases hf
          exact ih1 _ _ hK1 H_23 lo_23 I_23 ls_27 (lv_sub hl_27 [1, 2, 0] rfl)
        have L2 : ∀ (n : Nat) (x20 : Int64) (x21 : Int32), lp (fun q => C_LT_hashPairs_s2 x10 G5 q.1 q.2) n (x20, x21) = some x22 → ∀ (H : Heap) (locs : List Loc), sInv D (cT cI cJ cD cS) (cW ad cI cJ cD cS) A s H locs (G5, E, Dd, P, Z) → ∀ (ls : Array Slot), lv_has ls 7 [(0, .ref (ad 0)), (3, .long x20), (5, .int x10), (6, .int x21)] → W p l e R s m args below meth c H locs 0 0 Q (F0 m 36 ls []) := by
          intro n
          induction n with
          | zero => intro x20 x21 hq; exact (lp_0 hq).elim
          | succ n ih2 =>
            intro x20 x21 hq H_28 lo_28 I_28 ls_29 hl_29
            obtain ⟨y2, hf, hK2⟩ := lp_go hq
            replace hf : C_LT_hashPairs_s2 x10 G5 x20 x21 = some y2 := hf
            unfold C_LT_hashPairs_s2 at hf
            refine lv_iload hx hb dX11_hashPairs_36 (lv_at hl_29 3 rfl) ?_
            refine lv_aload_n hx hb dX11_hashPairs_38 rfl (lv_at hl_29 0 rfl) ?_
            refine kgtX11_89_0 F I_28 dX11_hashPairs_39 ?_
            refine lv_icmp_ge (tgt := 87) hx hb dX11_hashPairs_42 (by decide) (fun c47 => ?_) (fun c47 => ?_)
            · replace hf := (if_pos c47).symm.trans hf
              cases hf
              cases (show x20 = x22 from hK2)
              exact K2 H_28 lo_28 I_28 ls_29 (lv_sub hl_29 [0, 1, 2] rfl)
            · replace hf := (if_neg c47).symm.trans hf
              refine lv_lload_n hx hb dX11_hashPairs_45 rfl (lv_at hl_29 1 rfl) ?_
              refine lv_aload_n hx hb dX11_hashPairs_46 rfl (lv_at hl_29 0 rfl) ?_
              refine kgtX11_54_0 F I_28 dX11_hashPairs_47 ?_
              refine kgtX11_205_16 F I_28 dX11_hashPairs_50 ?_
              refine lv_iload hx hb dX11_hashPairs_53 (lv_at hl_29 2 rfl) ?_
              refine lv_iload hx hb dX11_hashPairs_55 (lv_at hl_29 3 rfl) ?_
              obtain ⟨r31, h32, hf⟩ := bd_some hf
              refine s_callVi (As := [.int x10, .int x21]) (rest := [.long x20]) F I_28 (cC_LE_lead_22 G5 E Dd P Z x10 x21 r31 h32) kX11_208 ⟨rfl, rfl⟩ ⟨Nat.le_trans (Nat.le_of_ble_eq_true rfl) hRf, Nat.le_trans (Nat.le_of_ble_eq_true rfl) hRl⟩ (22) 3 rfl rfl rfl rfl rfl hl_29.1 (Nat.le_of_ble_eq_true rfl) ⟨Nat.zero_le _, Nat.zero_le _⟩ dX11_hashPairs_57 ?_
              intro H_33 lo_33 I_33
              refine lv_i2l hx hb dX11_hashPairs_60 rfl ?_
              obtain ⟨r34, h35⟩ : ∃ z, z = C_LT_mixed x20 r31.toInt64 := ⟨_, rfl⟩
              replace hf := nm_some h35 hf
              refine s_callSl (As := [.long x20, .long (r31.toInt64)]) (rest := []) F I_33 (cC_LT_mixed G5 E Dd P Z x20 r31.toInt64 r34 h35) kX11_296 ⟨rfl, rfl⟩ ⟨Nat.le_trans (Nat.le_of_ble_eq_true rfl) hRf, Nat.le_trans (Nat.le_of_ble_eq_true rfl) hRl⟩ rfl rfl hl_29.1 (Nat.le_of_ble_eq_true rfl) ⟨Nat.zero_le _, Nat.zero_le _⟩ dX11_hashPairs_61 ?_
              intro H_36 lo_36 I_36
              refine lv_lstore_n (lv' := [(3, .long r34), (0, .ref (ad 0)), (5, .int x10), (6, .int x21)]) hx hb dX11_hashPairs_64 rfl hl_29 (by decide) rfl (fun ls_37 hl_37 => ?_)
              refine lv_lload_n hx hb dX11_hashPairs_65 rfl (lv_at hl_37 0 rfl) ?_
              refine lv_aload_n hx hb dX11_hashPairs_66 rfl (lv_at hl_37 1 rfl) ?_
              refine kgtX11_37_0 F I_36 dX11_hashPairs_67 ?_
              refine lv_iload hx hb dX11_hashPairs_70 (lv_at hl_37 2 rfl) ?_
              refine lv_iload hx hb dX11_hashPairs_72 (lv_at hl_37 3 rfl) ?_
              obtain ⟨r38, h39, hf⟩ := bd_some hf
              refine s_callVl (As := [.int x10, .int x21]) (rest := [.long r34]) F I_36 (cC_TA_chanceOf G5 E Dd P Z x10 x21 r38 h39) kX11_249 ⟨rfl, rfl⟩ ⟨Nat.le_trans (Nat.le_of_ble_eq_true rfl) hRf, Nat.le_trans (Nat.le_of_ble_eq_true rfl) hRl⟩ (9) 9 rfl rfl rfl rfl rfl hl_37.1 (Nat.le_of_ble_eq_true rfl) ⟨Nat.zero_le _, Nat.zero_le _⟩ dX11_hashPairs_74 ?_
              intro H_40 lo_40 I_40
              obtain ⟨r41, h42⟩ : ∃ z, z = C_LT_mixed r34 r38 := ⟨_, rfl⟩
              replace hf := nm_some h42 hf
              refine s_callSl (As := [.long r34, .long r38]) (rest := []) F I_40 (cC_LT_mixed G5 E Dd P Z r34 r38 r41 h42) kX11_296 ⟨rfl, rfl⟩ ⟨Nat.le_trans (Nat.le_of_ble_eq_true rfl) hRf, Nat.le_trans (Nat.le_of_ble_eq_true rfl) hRl⟩ rfl rfl hl_37.1 (Nat.le_of_ble_eq_true rfl) ⟨Nat.zero_le _, Nat.zero_le _⟩ dX11_hashPairs_77 ?_
              intro H_43 lo_43 I_43
              refine lv_lstore_n (lv' := [(3, .long r41), (0, .ref (ad 0)), (5, .int x10), (6, .int x21)]) hx hb dX11_hashPairs_80 rfl hl_37 (by decide) rfl (fun ls_44 hl_44 => ?_)
              obtain ⟨x45, ex45⟩ : ∃ y : Int32, y = x21 + (1 : Int32) := ⟨_, rfl⟩
              replace hf := nm_some ex45 hf
              refine lv_iinc (v := x45) (lv' := [(6, .int x45), (3, .long r41), (0, .ref (ad 0)), (5, .int x10)]) hx hb dX11_hashPairs_81 hl_44 (k := 3) rfl (by rw [ex45]; rfl) (by decide) rfl (fun ls_46 hl_46 => ?_)
              refine lv_goto (tgt := 36) hx hb dX11_hashPairs_84 (by decide) ?_
              cases hf
              exact ih2 _ _ hK2 H_43 lo_43 I_43 ls_46 (lv_sub hl_46 [2, 1, 3, 0] rfl)
        exact L2 FU _ _ hq2 H_15 lo_15 I_15 ls_19 (lv_sub hl_19 [1, 2, 3, 0] rfl)
  exact L1 FU _ _ hq1 H_7 lo_7 I_7 ls_8 (lv_sub hl_8 [2, 1, 0] rfl)
def C_LT_digest_s1 (G31 : Nat → Nat → Int32) (x44 : Int64) (x45 : Int32) : Option ((Int64 × Int32) ⊕ (Int64)) :=
if G31 9 0 ≤ x45 then
(some (.inr x44))
else
(bd (C_TX_codeAt G31 x45) fun r53 =>
nm (C_LT_mixed x44 r53.toInt64) fun r56 =>
nm (x45 + (1 : Int32) : Int32) fun x60 =>
some (.inl (r56, x60)))
def C_LT_digest (G : Nat → Nat → Int32) (E : Nat → Nat → Int64) (Dd : Nat → Nat → UInt64) (P : Nat → Option PRec) : Option (Int64 × (Nat → Nat → Int32) × (Nat → Nat → Int64) × (Nat → Nat → UInt64)) :=
bd2 (C_LT_hashAnswers G P (1889 : Int64)) fun r2 G3 =>
bd (C_LT_hashPlan G3 P r2) fun r7 =>
bd3 (C_LT_hashRanks G3 Dd r7) fun r11 G12 Dd13 =>
bd2 (C_LT_hashPairs G12 r11) fun r18 G19 =>
bd (C_LT_placeChance G19) fun r23 =>
nm (C_LT_mixed r18 r23) fun r26 =>
bd3 (C_LT_provedAt G19 E (50 : Int32)) fun r30 G31 E32 =>
nm (C_LT_mixed r26 r30.toInt64) fun r35 =>
nm (C_LT_mixed r35 ((G31 9 0).toInt64)) fun r39 =>
bd (lp (fun q => C_LT_digest_s1 G31 q.1 q.2) FU (r39, (0 : Int32))) fun x46 =>
some (x46, G31, E32, Dd13)
set_option maxRecDepth 100000 in
set_option maxHeartbeats 4000000 in
theorem cC_LT_digest (G : Nat → Nat → Int32) (E : Nat → Nat → Int64) (Dd : Nat → Nat → UInt64) (P : Nat → Option PRec) (Z : List PRec) (hPZ : ∀ (k : Nat) (z : PRec), P k = some z → z ∈ Z)  (rv : Int64) (newG : Nat → Nat → Int32) (newE : Nat → Nat → Int64) (newDd : Nat → Nat → UInt64) (hf : C_LT_digest G E Dd P = some (rv, newG, newE, newDd)) : sDl D (cT cI cJ cD cS) (cW ad cI cJ cD cS) cSm l yX11_digest (ws1 yX11_digest cX11_digest 4 (some .long)) ({ frames := 6, cells := 0, slots := 0, locals := 145 }) [.ref (ad 0)] (G, E, Dd, P, Z) (rv, (newG, newE, newDd, P, Z)) := by
  unfold C_LT_digest at hf
  refine sDl_of (by decide) (Nat.le_of_ble_eq_true rfl) ?_
  intro p e R s m args below meth c A Q ls H lo dr sgm F hRf hRl hd hsm I hl ret
  obtain ⟨_, _, Dm, _⟩ := sgm
  obtain ⟨rfl, rfl, ha, rfl⟩ := cSm_dest hsm
  obtain ⟨hx, hb, hml, hown, hG⟩ := id F
  replace hl : lv_has ls 4 [(0, .ref (ad 0))] := hl
  refine lv_ldc2 (v := (1889 : Int64)) hx hb hown (dr_words hG _ _ q477) dX11_digest_0 ?_
  refine lv_lstore_n (lv' := [(1, .long (1889 : Int64)), (0, .ref (ad 0))]) hx hb dX11_digest_3 rfl hl (by decide) rfl (fun ls_1 hl_1 => ?_)
  refine lv_aload_n hx hb dX11_digest_4 rfl (lv_at hl_1 1 rfl) ?_
  refine lv_lload_n hx hb dX11_digest_5 rfl (lv_at hl_1 0 rfl) ?_
  obtain ⟨r2, G3, h4, hf⟩ := bd2_some hf
  refine s_callVl (As := [.long (1889 : Int64)]) (rest := []) (Fdr F) (Idr I) (cC_LT_hashAnswers G E Dm P Z hPZ (1889 : Int64) r2 G3 h4) kX11_279 ⟨rfl, rfl⟩ ⟨Nat.le_trans (Nat.le_of_ble_eq_true rfl) hRf, Nat.le_trans (Nat.le_of_ble_eq_true rfl) hRl⟩ (0) 11 rfl rfl rfl rfl rfl hl_1.1 (Nat.le_of_ble_eq_true rfl) ⟨Nat.zero_le _, Nat.zero_le _⟩ dX11_digest_6 ?_
  intro H_5 lo_5 I_5
  replace I_5 := Irr I_5
  refine lv_lstore_n (lv' := [(1, .long r2), (0, .ref (ad 0))]) hx hb dX11_digest_9 rfl hl_1 (by decide) rfl (fun ls_6 hl_6 => ?_)
  refine lv_aload_n hx hb dX11_digest_10 rfl (lv_at hl_6 1 rfl) ?_
  refine lv_lload_n hx hb dX11_digest_11 rfl (lv_at hl_6 0 rfl) ?_
  obtain ⟨r7, h8, hf⟩ := bd_some hf
  refine s_callVl (As := [.long r2]) (rest := []) (Fdr F) (Idr I_5) (cC_LT_hashPlan G3 E Dm P Z hPZ r2 r7 h8) kX11_283 ⟨rfl, rfl⟩ ⟨Nat.le_trans (Nat.le_of_ble_eq_true rfl) hRf, Nat.le_trans (Nat.le_of_ble_eq_true rfl) hRl⟩ (0) 11 rfl rfl rfl rfl rfl hl_6.1 (Nat.le_of_ble_eq_true rfl) ⟨Nat.zero_le _, Nat.zero_le _⟩ dX11_digest_12 ?_
  intro H_9 lo_9 I_9
  replace I_9 := Irr I_9
  refine lv_lstore_n (lv' := [(1, .long r7), (0, .ref (ad 0))]) hx hb dX11_digest_15 rfl hl_6 (by decide) rfl (fun ls_10 hl_10 => ?_)
  refine lv_aload_n hx hb dX11_digest_16 rfl (lv_at hl_10 1 rfl) ?_
  refine lv_lload_n hx hb dX11_digest_17 rfl (lv_at hl_10 0 rfl) ?_
  obtain ⟨r11, G12, Dd13, h14, hf⟩ := bd3_some hf
  refine d_callVl (As := [.long r7]) (rest := []) F hd I_9 ⟨rfl, rfl, ha, rfl⟩ (cC_LT_hashRanks G3 E Dd P Z r7 r11 G12 Dd13 h14) kX11_286 ⟨rfl, rfl⟩ ⟨Nat.le_trans (Nat.le_of_ble_eq_true rfl) hRf, Nat.le_trans (Nat.le_of_ble_eq_true rfl) hRl⟩ (0) 11 rfl rfl rfl rfl rfl hl_10.1 (Nat.le_of_ble_eq_true rfl) ⟨Nat.zero_le _, Nat.zero_le _⟩ dX11_digest_18 ?_
  intro H_15 lo_15 dr_16 sg16 hd_16 I_15 hs16
  obtain ⟨_, _, Dm16, _⟩ := sg16
  obtain ⟨rfl, rfl, ha16, rfl⟩ := cSm_dest hs16
  refine lv_lstore_n (lv' := [(1, .long r11), (0, .ref (ad 0))]) hx hb dX11_digest_21 rfl hl_10 (by decide) rfl (fun ls_17 hl_17 => ?_)
  refine lv_aload_n hx hb dX11_digest_22 rfl (lv_at hl_17 1 rfl) ?_
  refine lv_lload_n hx hb dX11_digest_23 rfl (lv_at hl_17 0 rfl) ?_
  obtain ⟨r18, G19, h20, hf⟩ := bd2_some hf
  refine s_callVl (As := [.long r11]) (rest := []) (Fdr F) (Idr I_15) (cC_LT_hashPairs G12 E Dm16 P Z r11 r18 G19 h20) kX11_289 ⟨rfl, rfl⟩ ⟨Nat.le_trans (Nat.le_of_ble_eq_true rfl) hRf, Nat.le_trans (Nat.le_of_ble_eq_true rfl) hRl⟩ (0) 11 rfl rfl rfl rfl rfl hl_17.1 (Nat.le_of_ble_eq_true rfl) ⟨Nat.zero_le _, Nat.zero_le _⟩ dX11_digest_24 ?_
  intro H_21 lo_21 I_21
  replace I_21 := Irr I_21
  refine lv_lstore_n (lv' := [(1, .long r18), (0, .ref (ad 0))]) hx hb dX11_digest_27 rfl hl_17 (by decide) rfl (fun ls_22 hl_22 => ?_)
  refine lv_lload_n hx hb dX11_digest_28 rfl (lv_at hl_22 0 rfl) ?_
  refine lv_aload_n hx hb dX11_digest_29 rfl (lv_at hl_22 1 rfl) ?_
  obtain ⟨r23, h24, hf⟩ := bd_some hf
  refine s_callVl (As := []) (rest := [.long r18]) (Fdr F) (Idr I_21) (cC_LT_placeChance G19 E Dm16 P Z r23 h24) kX11_292 ⟨rfl, rfl⟩ ⟨Nat.le_trans (Nat.le_of_ble_eq_true rfl) hRf, Nat.le_trans (Nat.le_of_ble_eq_true rfl) hRl⟩ (0) 11 rfl rfl rfl rfl rfl hl_22.1 (Nat.le_of_ble_eq_true rfl) ⟨Nat.zero_le _, Nat.zero_le _⟩ dX11_digest_30 ?_
  intro H_25 lo_25 I_25
  replace I_25 := Irr I_25
  obtain ⟨r26, h27⟩ : ∃ z, z = C_LT_mixed r18 r23 := ⟨_, rfl⟩
  replace hf := nm_some h27 hf
  refine s_callSl (As := [.long r18, .long r23]) (rest := []) (Fdr F) (Idr I_25) (cC_LT_mixed G19 E Dm16 P Z r18 r23 r26 h27) kX11_296 ⟨rfl, rfl⟩ ⟨Nat.le_trans (Nat.le_of_ble_eq_true rfl) hRf, Nat.le_trans (Nat.le_of_ble_eq_true rfl) hRl⟩ rfl rfl hl_22.1 (Nat.le_of_ble_eq_true rfl) ⟨Nat.zero_le _, Nat.zero_le _⟩ dX11_digest_33 ?_
  intro H_28 lo_28 I_28
  replace I_28 := Irr I_28
  refine lv_lstore_n (lv' := [(1, .long r26), (0, .ref (ad 0))]) hx hb dX11_digest_36 rfl hl_22 (by decide) rfl (fun ls_29 hl_29 => ?_)
  refine lv_lload_n hx hb dX11_digest_37 rfl (lv_at hl_29 0 rfl) ?_
  refine lv_aload_n hx hb dX11_digest_38 rfl (lv_at hl_29 1 rfl) ?_
  refine lv_bipush (v := (50 : Int32)) hx hb dX11_digest_39 (by decide) ?_
  obtain ⟨r30, G31, E32, h33, hf⟩ := bd3_some hf
  refine s_callVi (As := [.int (50 : Int32)]) (rest := [.long r26]) (Fdr F) (Idr I_28) (cC_LT_provedAt G19 E Dm16 P Z (50 : Int32) r30 G31 E32 h33) kX11_259 ⟨rfl, rfl⟩ ⟨Nat.le_trans (Nat.le_of_ble_eq_true rfl) hRf, Nat.le_trans (Nat.le_of_ble_eq_true rfl) hRl⟩ (0) 11 rfl rfl rfl rfl rfl hl_29.1 (Nat.le_of_ble_eq_true rfl) ⟨Nat.zero_le _, Nat.zero_le _⟩ dX11_digest_41 ?_
  intro H_34 lo_34 I_34
  replace I_34 := Irr I_34
  refine lv_i2l hx hb dX11_digest_44 rfl ?_
  obtain ⟨r35, h36⟩ : ∃ z, z = C_LT_mixed r26 r30.toInt64 := ⟨_, rfl⟩
  replace hf := nm_some h36 hf
  refine s_callSl (As := [.long r26, .long (r30.toInt64)]) (rest := []) (Fdr F) (Idr I_34) (cC_LT_mixed G31 E32 Dm16 P Z r26 r30.toInt64 r35 h36) kX11_296 ⟨rfl, rfl⟩ ⟨Nat.le_trans (Nat.le_of_ble_eq_true rfl) hRf, Nat.le_trans (Nat.le_of_ble_eq_true rfl) hRl⟩ rfl rfl hl_29.1 (Nat.le_of_ble_eq_true rfl) ⟨Nat.zero_le _, Nat.zero_le _⟩ dX11_digest_45 ?_
  intro H_37 lo_37 I_37
  replace I_37 := Irr I_37
  refine lv_lstore_n (lv' := [(1, .long r35), (0, .ref (ad 0))]) hx hb dX11_digest_48 rfl hl_29 (by decide) rfl (fun ls_38 hl_38 => ?_)
  refine lv_lload_n hx hb dX11_digest_49 rfl (lv_at hl_38 0 rfl) ?_
  refine lv_aload_n hx hb dX11_digest_50 rfl (lv_at hl_38 1 rfl) ?_
  refine kgtX11_30_0 (Fdr F) (Idr I_37) dX11_digest_51 ?_
  refine kgtX11_173_6 (Fdr F) (Idr I_37) dX11_digest_54 ?_
  refine lv_i2l hx hb dX11_digest_57 rfl ?_
  obtain ⟨r39, h40⟩ : ∃ z, z = C_LT_mixed r35 ((G31 9 0).toInt64) := ⟨_, rfl⟩
  replace hf := nm_some h40 hf
  refine s_callSl (As := [.long r35, .long ((G31 9 0).toInt64)]) (rest := []) (Fdr F) (Idr I_37) (cC_LT_mixed G31 E32 Dm16 P Z r35 ((G31 9 0).toInt64) r39 h40) kX11_296 ⟨rfl, rfl⟩ ⟨Nat.le_trans (Nat.le_of_ble_eq_true rfl) hRf, Nat.le_trans (Nat.le_of_ble_eq_true rfl) hRl⟩ rfl rfl hl_38.1 (Nat.le_of_ble_eq_true rfl) ⟨Nat.zero_le _, Nat.zero_le _⟩ dX11_digest_58 ?_
  intro H_41 lo_41 I_41
  replace I_41 := Irr I_41
  refine lv_lstore_n (lv' := [(1, .long r39), (0, .ref (ad 0))]) hx hb dX11_digest_61 rfl hl_38 (by decide) rfl (fun ls_42 hl_42 => ?_)
  refine lv_iconst (v := (0 : Int32)) hx hb dX11_digest_62 (by decide) ?_
  refine lv_istore_n (lv' := [(3, .int (0 : Int32)), (1, .long r39), (0, .ref (ad 0))]) hx hb dX11_digest_63 rfl hl_42 (by decide) rfl (fun ls_43 hl_43 => ?_)
  obtain ⟨x46, hq1, hf⟩ := bd_some hf
  have K1 : ∀ (H : Heap) (locs : List Loc) (d : Drawn), s.drawn.sameBut d lw_cs → sInv D (cT cI cJ cD cS) (cW ad cI cJ cD cS) A s H locs (G31, E32, Dm16, P, Z) → ∀ (ls : Array Slot), lv_has ls 4 [(1, .long x46)] → W p l e R (s.setDrawn d) m args below meth c H locs 0 0 Q (F0 m 95 ls []) := by
    intro H_47 lo_47 dr_49 hd_49 I_47 ls_48 hl_48
    refine lv_lload_n hx hb dX11_digest_95 rfl (lv_at hl_48 0 rfl) ?_
    cases hf
    exact ret H_47 lo_47 _ ls_48 dr_49 _ hd_49 I_47 ⟨rfl, rfl, ha16, rfl⟩ dX11_digest_96
  have L1 : ∀ (n : Nat) (x44 : Int64) (x45 : Int32), lp (fun q => C_LT_digest_s1 G31 q.1 q.2) n (x44, x45) = some x46 → ∀ (H : Heap) (locs : List Loc) (d : Drawn), s.drawn.sameBut d lw_cs → sInv D (cT cI cJ cD cS) (cW ad cI cJ cD cS) A s H locs (G31, E32, Dm16, P, Z) → ∀ (ls : Array Slot), lv_has ls 4 [(0, .ref (ad 0)), (1, .long x44), (3, .int x45)] → W p l e R (s.setDrawn d) m args below meth c H locs 0 0 Q (F0 m 64 ls []) := by
    intro n
    induction n with
    | zero => intro x44 x45 hq; exact (lp_0 hq).elim
    | succ n ih1 =>
      intro x44 x45 hq H_50 lo_50 dr_52 hd_52 I_50 ls_51 hl_51
      obtain ⟨y1, hf, hK1⟩ := lp_go hq
      replace hf : C_LT_digest_s1 G31 x44 x45 = some y1 := hf
      unfold C_LT_digest_s1 at hf
      refine lv_iload_n hx hb dX11_digest_64 rfl (lv_at hl_51 2 rfl) ?_
      refine lv_aload_n hx hb dX11_digest_65 rfl (lv_at hl_51 0 rfl) ?_
      refine kgtX11_30_0 (Fdr F) (Idr I_50) dX11_digest_66 ?_
      refine kgtX11_173_6 (Fdr F) (Idr I_50) dX11_digest_69 ?_
      refine lv_icmp_ge (tgt := 95) hx hb dX11_digest_72 (by decide) (fun c62 => ?_) (fun c62 => ?_)
      · replace hf := (if_pos c62).symm.trans hf
        cases hf
        cases (show x44 = x46 from hK1)
        exact K1 H_50 lo_50 dr_52 hd_52 I_50 ls_51 (lv_sub hl_51 [1] rfl)
      · replace hf := (if_neg c62).symm.trans hf
        refine lv_lload_n hx hb dX11_digest_75 rfl (lv_at hl_51 1 rfl) ?_
        refine lv_aload_n hx hb dX11_digest_76 rfl (lv_at hl_51 0 rfl) ?_
        refine kgtX11_30_0 (Fdr F) (Idr I_50) dX11_digest_77 ?_
        refine lv_iload_n hx hb dX11_digest_80 rfl (lv_at hl_51 2 rfl) ?_
        obtain ⟨r53, h54, hf⟩ := bd_some hf
        refine s_callVi (As := [.int x45]) (rest := [.long x44]) (Fdr F) (Idr I_50) (cC_TX_codeAt G31 E32 Dm16 P Z x45 r53 h54) kX11_300 ⟨rfl, rfl⟩ ⟨Nat.le_trans (Nat.le_of_ble_eq_true rfl) hRf, Nat.le_trans (Nat.le_of_ble_eq_true rfl) hRl⟩ (6) 10 rfl rfl rfl rfl rfl hl_51.1 (Nat.le_of_ble_eq_true rfl) ⟨Nat.zero_le _, Nat.zero_le _⟩ dX11_digest_81 ?_
        intro H_55 lo_55 I_55
        replace I_55 := Irr I_55
        refine lv_i2l hx hb dX11_digest_84 rfl ?_
        obtain ⟨r56, h57⟩ : ∃ z, z = C_LT_mixed x44 r53.toInt64 := ⟨_, rfl⟩
        replace hf := nm_some h57 hf
        refine s_callSl (As := [.long x44, .long (r53.toInt64)]) (rest := []) (Fdr F) (Idr I_55) (cC_LT_mixed G31 E32 Dm16 P Z x44 r53.toInt64 r56 h57) kX11_296 ⟨rfl, rfl⟩ ⟨Nat.le_trans (Nat.le_of_ble_eq_true rfl) hRf, Nat.le_trans (Nat.le_of_ble_eq_true rfl) hRl⟩ rfl rfl hl_51.1 (Nat.le_of_ble_eq_true rfl) ⟨Nat.zero_le _, Nat.zero_le _⟩ dX11_digest_85 ?_
        intro H_58 lo_58 I_58
        replace I_58 := Irr I_58
        refine lv_lstore_n (lv' := [(1, .long r56), (0, .ref (ad 0)), (3, .int x45)]) hx hb dX11_digest_88 rfl hl_51 (by decide) rfl (fun ls_59 hl_59 => ?_)
        obtain ⟨x60, ex60⟩ : ∃ y : Int32, y = x45 + (1 : Int32) := ⟨_, rfl⟩
        replace hf := nm_some ex60 hf
        refine lv_iinc (v := x60) (lv' := [(3, .int x60), (1, .long r56), (0, .ref (ad 0))]) hx hb dX11_digest_89 hl_59 (k := 2) rfl (by rw [ex60]; rfl) (by decide) rfl (fun ls_61 hl_61 => ?_)
        refine lv_goto (tgt := 64) hx hb dX11_digest_92 (by decide) ?_
        cases hf
        exact ih1 _ _ hK1 H_58 lo_58 dr_52 hd_52 I_58 ls_61 (lv_sub hl_61 [2, 1, 0] rfl)
  exact L1 FU _ _ hq1 H_41 lo_41 dr_16 hd_16 I_41 ls_43 (lv_sub hl_43 [2, 1, 0] rfl)
end Meth
