section Meth
variable {D : va_G} {l : Launch} {ad : Nat → Nat} {cI cJ cD cS : ClassId}
def C_LT_chance (G : Nat → Nat → Int32) (a0 : Int32) (a1 : Int32) : Option (Int64 × (Nat → Nat → Int32)) :=
bd0 (C_LT_requireIndex a0 (G 0 0)) <|
bd0 (C_LT_requireIndex a1 (G 0 0)) <|
bd (if a0 = a1 then
(some (0 : Int32))
else
(some (1 : Int32))) fun x6 =>
bd0 (C_LT_requireArgument x6) <|
bd (C_TA_take G) fun G12 =>
bd (C_TA_chanceOf G12 a0 a1) fun r15 =>
some (r15, G12)
set_option maxRecDepth 100000 in
set_option maxHeartbeats 4000000 in
theorem cC_LT_chance (G : Nat → Nat → Int32) (E : Nat → Nat → Int64) (Dd : Nat → Nat → UInt64) (P : Nat → Option Nat) (L : List Nat) (pf : Nat → va_E) (a0 : Int32) (a1 : Int32) (rv : Int64) (newG : Nat → Nat → Int32) (hf : C_LT_chance G a0 a1 = some (rv, newG)) : sMl D (cT cI cJ cD cS) (cW ad cI cJ cD cS) l yX11_chance (ws1 yX11_chance cX11_chance 3 (some .long)) ({ frames := 3, cells := 0, slots := 0, locals := 73 }) [.ref (ad 0), .int a0, .int a1] (G, E, Dd, P, L, pf) (rv, (newG, E, Dd, P, L, pf)) := by
  unfold C_LT_chance at hf
  refine sMl_of (by decide) (Nat.le_of_ble_eq_true rfl) ?_
  intro p e R s m args below meth c A Q ls H lo F hRf hRl I hl ret
  obtain ⟨hx, hb, hml, hown, hG⟩ := id F
  replace hl : lv_has ls 3 [(0, .ref (ad 0)), (1, .int a0), (2, .int a1)] := hl
  refine lv_iload_n hx hb dX11_chance_0 rfl (lv_at hl 1 rfl) ?_
  refine lv_aload_n hx hb dX11_chance_1 rfl (lv_at hl 0 rfl) ?_
  refine kgtX11_89_0 F I dX11_chance_2 ?_
  obtain ⟨h1, hf⟩ := bd0_some hf
  refine s_callSv (As := [.int a0, .int (G 0 0)]) (rest := []) F I (cC_LT_requireIndex G E Dd P L pf a0 (G 0 0) h1) kX11_84 ⟨rfl, rfl⟩ ⟨Nat.le_trans (Nat.le_of_ble_eq_true rfl) hRf, Nat.le_trans (Nat.le_of_ble_eq_true rfl) hRl⟩ rfl rfl hl.1 (Nat.le_of_ble_eq_true rfl) ⟨Nat.zero_le _, Nat.zero_le _⟩ dX11_chance_5 ?_
  intro H_2 lo_2 I_2
  refine lv_iload_n hx hb dX11_chance_8 rfl (lv_at hl 2 rfl) ?_
  refine lv_aload_n hx hb dX11_chance_9 rfl (lv_at hl 0 rfl) ?_
  refine kgtX11_89_0 F I_2 dX11_chance_10 ?_
  obtain ⟨h3, hf⟩ := bd0_some hf
  refine s_callSv (As := [.int a1, .int (G 0 0)]) (rest := []) F I_2 (cC_LT_requireIndex G E Dd P L pf a1 (G 0 0) h3) kX11_84 ⟨rfl, rfl⟩ ⟨Nat.le_trans (Nat.le_of_ble_eq_true rfl) hRf, Nat.le_trans (Nat.le_of_ble_eq_true rfl) hRl⟩ rfl rfl hl.1 (Nat.le_of_ble_eq_true rfl) ⟨Nat.zero_le _, Nat.zero_le _⟩ dX11_chance_13 ?_
  intro H_4 lo_4 I_4
  refine lv_iload_n hx hb dX11_chance_16 rfl (lv_at hl 1 rfl) ?_
  refine lv_iload_n hx hb dX11_chance_17 rfl (lv_at hl 2 rfl) ?_
  obtain ⟨x6, hv18, hf⟩ := bd_some hf
  have J5 : ∀ (H : Heap) (locs : List Loc), sInv D (cT cI cJ cD cS) (cW ad cI cJ cD cS) A s H locs (G, E, Dd, P, L, pf) → ∀ (ls : Array Slot), lv_has ls 3 [(0, .ref (ad 0)), (1, .int a0), (2, .int a1)] → W p l e R s m args below meth c H locs 0 0 Q (F0 m 26 ls [.int x6]) := by
    intro H_7 lo_7 I_7 ls_8 hl_8
    obtain ⟨h10, hf⟩ := bd0_some hf
    refine s_callSv (As := [.int x6]) (rest := []) F I_7 (cC_LT_requireArgument G E Dd P L pf x6 h10) kX11_76 ⟨rfl, rfl⟩ ⟨Nat.le_trans (Nat.le_of_ble_eq_true rfl) hRf, Nat.le_trans (Nat.le_of_ble_eq_true rfl) hRl⟩ rfl rfl hl_8.1 (Nat.le_of_ble_eq_true rfl) ⟨Nat.zero_le _, Nat.zero_le _⟩ dX11_chance_26 ?_
    intro H_11 lo_11 I_11
    refine lv_aload_n hx hb dX11_chance_29 rfl (lv_at hl_8 0 rfl) ?_
    refine kgtX11_37_0 F I_11 dX11_chance_30 ?_
    refine lv_aload_n hx hb dX11_chance_33 rfl (lv_at hl_8 0 rfl) ?_
    refine kgtX11_16_0 F I_11 dX11_chance_34 ?_
    obtain ⟨G12, h13, hf⟩ := bd_some hf
    refine s_callVv (As := [.ref (ad 2)]) (rest := []) F I_11 (cC_TA_take G E Dd P L pf G12 h13) kX11_211 ⟨rfl, rfl⟩ ⟨Nat.le_trans (Nat.le_of_ble_eq_true rfl) hRf, Nat.le_trans (Nat.le_of_ble_eq_true rfl) hRl⟩ 9 9 rfl rfl rfl rfl rfl hl_8.1 (Nat.le_of_ble_eq_true rfl) ⟨Nat.zero_le _, Nat.zero_le _⟩ dX11_chance_37 ?_
    intro H_14 lo_14 I_14
    refine lv_aload_n hx hb dX11_chance_40 rfl (lv_at hl_8 0 rfl) ?_
    refine kgtX11_37_0 F I_14 dX11_chance_41 ?_
    refine lv_iload_n hx hb dX11_chance_44 rfl (lv_at hl_8 1 rfl) ?_
    refine lv_iload_n hx hb dX11_chance_45 rfl (lv_at hl_8 2 rfl) ?_
    obtain ⟨r15, h16, hf⟩ := bd_some hf
    refine s_callVl (As := [.int a0, .int a1]) (rest := []) F I_14 (cC_TA_chanceOf G12 E Dd P L pf a0 a1 r15 h16) kX11_249 ⟨rfl, rfl⟩ ⟨Nat.le_trans (Nat.le_of_ble_eq_true rfl) hRf, Nat.le_trans (Nat.le_of_ble_eq_true rfl) hRl⟩ 9 9 rfl rfl rfl rfl rfl hl_8.1 (Nat.le_of_ble_eq_true rfl) ⟨Nat.zero_le _, Nat.zero_le _⟩ dX11_chance_46 ?_
    intro H_17 lo_17 I_17
    cases hf
    exact ret H_17 lo_17 _ ls_8 I_17 dX11_chance_49
  replace hf := hv18
  refine lv_icmp_eq (tgt := 25) hx hb dX11_chance_18 (by decide) (fun c19 => ?_) (fun c19 => ?_)
  · replace hf := (if_pos c19).symm.trans hf
    refine lv_iconst (v := (0 : Int32)) hx hb dX11_chance_25 (by decide) ?_
    cases hf
    exact J5 H_4 lo_4 I_4 ls (lv_sub hl [0, 1, 2] rfl)
  · replace hf := (if_neg c19).symm.trans hf
    refine lv_iconst (v := (1 : Int32)) hx hb dX11_chance_21 (by decide) ?_
    refine lv_goto (tgt := 26) hx hb dX11_chance_22 (by decide) ?_
    cases hf
    exact J5 H_4 lo_4 I_4 ls (lv_sub hl [0, 1, 2] rfl)
def C_LT_placeChance (G : Nat → Nat → Int32) : Option (Int64) :=
bd (C_CO_countAnswers G (1 : Int32)) fun r1 =>
bd (C_CO_countAnswers G (2 : Int32)) fun r4 =>
bd (C_LT_coinChance r1 r4) fun r7 =>
some r7
set_option maxRecDepth 100000 in
set_option maxHeartbeats 4000000 in
theorem cC_LT_placeChance (G : Nat → Nat → Int32) (E : Nat → Nat → Int64) (Dd : Nat → Nat → UInt64) (P : Nat → Option Nat) (L : List Nat) (pf : Nat → va_E)  (rv : Int64)  (hf : C_LT_placeChance G = some rv) : sMl D (cT cI cJ cD cS) (cW ad cI cJ cD cS) l yX11_placeChance (ws1 yX11_placeChance cX11_placeChance 1 (some .long)) ({ frames := 2, cells := 0, slots := 0, locals := 51 }) [.ref (ad 0)] (G, E, Dd, P, L, pf) (rv, (G, E, Dd, P, L, pf)) := by
  unfold C_LT_placeChance at hf
  refine sMl_of (by decide) (Nat.le_of_ble_eq_true rfl) ?_
  intro p e R s m args below meth c A Q ls H lo F hRf hRl I hl ret
  obtain ⟨hx, hb, hml, hown, hG⟩ := id F
  replace hl : lv_has ls 1 [(0, .ref (ad 0))] := hl
  refine lv_aload_n hx hb dX11_placeChance_0 rfl (lv_at hl 0 rfl) ?_
  refine kgtX11_16_0 F I dX11_placeChance_1 ?_
  refine lv_iconst (v := (1 : Int32)) hx hb dX11_placeChance_4 (by decide) ?_
  obtain ⟨r1, h2, hf⟩ := bd_some hf
  refine s_callVi (As := [.int (1 : Int32)]) (rest := []) F I (cC_CO_countAnswers G E Dd P L pf (1 : Int32) r1 h2) kX11_253 ⟨rfl, rfl⟩ ⟨Nat.le_trans (Nat.le_of_ble_eq_true rfl) hRf, Nat.le_trans (Nat.le_of_ble_eq_true rfl) hRl⟩ 2 1 rfl rfl rfl rfl rfl hl.1 (Nat.le_of_ble_eq_true rfl) ⟨Nat.zero_le _, Nat.zero_le _⟩ dX11_placeChance_5 ?_
  intro H_3 lo_3 I_3
  refine lv_aload_n hx hb dX11_placeChance_8 rfl (lv_at hl 0 rfl) ?_
  refine kgtX11_16_0 F I_3 dX11_placeChance_9 ?_
  refine lv_iconst (v := (2 : Int32)) hx hb dX11_placeChance_12 (by decide) ?_
  obtain ⟨r4, h5, hf⟩ := bd_some hf
  refine s_callVi (As := [.int (2 : Int32)]) (rest := [.int r1]) F I_3 (cC_CO_countAnswers G E Dd P L pf (2 : Int32) r4 h5) kX11_253 ⟨rfl, rfl⟩ ⟨Nat.le_trans (Nat.le_of_ble_eq_true rfl) hRf, Nat.le_trans (Nat.le_of_ble_eq_true rfl) hRl⟩ 2 1 rfl rfl rfl rfl rfl hl.1 (Nat.le_of_ble_eq_true rfl) ⟨Nat.zero_le _, Nat.zero_le _⟩ dX11_placeChance_13 ?_
  intro H_6 lo_6 I_6
  obtain ⟨r7, h8, hf⟩ := bd_some hf
  refine s_callSl (As := [.int r1, .int r4]) (rest := []) F I_6 (cC_LT_coinChance G E Dd P L pf r1 r4 r7 h8) kX11_256 ⟨rfl, rfl⟩ ⟨Nat.le_trans (Nat.le_of_ble_eq_true rfl) hRf, Nat.le_trans (Nat.le_of_ble_eq_true rfl) hRl⟩ rfl rfl hl.1 (Nat.le_of_ble_eq_true rfl) ⟨Nat.zero_le _, Nat.zero_le _⟩ dX11_placeChance_16 ?_
  intro H_9 lo_9 I_9
  cases hf
  exact ret H_9 lo_9 _ ls I_9 dX11_placeChance_19
def C_LT_provedAt (G : Nat → Nat → Int32) (E : Nat → Nat → Int64) (a0 : Int32) : Option (Int32 × (Nat → Nat → Int32) × (Nat → Nat → Int64)) :=
bd (C_TA_take G) fun G1 =>
bd2 (C_PP_take G1 E (G1 0 0)) fun G4 E5 =>
bd (C_PP_countAt G4 E5 a0) fun r8 =>
some (r8, G4, E5)
set_option maxRecDepth 100000 in
set_option maxHeartbeats 4000000 in
theorem cC_LT_provedAt (G : Nat → Nat → Int32) (E : Nat → Nat → Int64) (Dd : Nat → Nat → UInt64) (P : Nat → Option Nat) (L : List Nat) (pf : Nat → va_E) (a0 : Int32) (rv : Int32) (newG : Nat → Nat → Int32) (newE : Nat → Nat → Int64) (hf : C_LT_provedAt G E a0 = some (rv, newG, newE)) : sMi D (cT cI cJ cD cS) (cW ad cI cJ cD cS) l yX11_provedAt (ws1 yX11_provedAt cX11_provedAt 2 (some .int)) ({ frames := 4, cells := 0, slots := 0, locals := 97 }) [.ref (ad 0), .int a0] (G, E, Dd, P, L, pf) (rv, (newG, newE, Dd, P, L, pf)) := by
  unfold C_LT_provedAt at hf
  refine sMi_of (by decide) (Nat.le_of_ble_eq_true rfl) ?_
  intro p e R s m args below meth c A Q ls H lo F hRf hRl I hl ret
  obtain ⟨hx, hb, hml, hown, hG⟩ := id F
  replace hl : lv_has ls 2 [(0, .ref (ad 0)), (1, .int a0)] := hl
  refine lv_aload_n hx hb dX11_provedAt_0 rfl (lv_at hl 0 rfl) ?_
  refine kgtX11_37_0 F I dX11_provedAt_1 ?_
  refine lv_aload_n hx hb dX11_provedAt_4 rfl (lv_at hl 0 rfl) ?_
  refine kgtX11_16_0 F I dX11_provedAt_5 ?_
  obtain ⟨G1, h2, hf⟩ := bd_some hf
  refine s_callVv (As := [.ref (ad 2)]) (rest := []) F I (cC_TA_take G E Dd P L pf G1 h2) kX11_211 ⟨rfl, rfl⟩ ⟨Nat.le_trans (Nat.le_of_ble_eq_true rfl) hRf, Nat.le_trans (Nat.le_of_ble_eq_true rfl) hRl⟩ 9 9 rfl rfl rfl rfl rfl hl.1 (Nat.le_of_ble_eq_true rfl) ⟨Nat.zero_le _, Nat.zero_le _⟩ dX11_provedAt_8 ?_
  intro H_3 lo_3 I_3
  refine lv_aload_n hx hb dX11_provedAt_11 rfl (lv_at hl 0 rfl) ?_
  refine kgtX11_61_0 F I_3 dX11_provedAt_12 ?_
  refine lv_aload_n hx hb dX11_provedAt_15 rfl (lv_at hl 0 rfl) ?_
  refine kgtX11_37_0 F I_3 dX11_provedAt_16 ?_
  refine lv_aload_n hx hb dX11_provedAt_19 rfl (lv_at hl 0 rfl) ?_
  refine kgtX11_89_0 F I_3 dX11_provedAt_20 ?_
  obtain ⟨G4, E5, h6, hf⟩ := bd2_some hf
  refine s_callVv (As := [.ref (ad 9), .int (G1 0 0)]) (rest := []) F I_3 (cC_PP_take G1 E Dd P L pf (G1 0 0) G4 E5 h6) kX11_332 ⟨rfl, rfl⟩ ⟨Nat.le_trans (Nat.le_of_ble_eq_true rfl) hRf, Nat.le_trans (Nat.le_of_ble_eq_true rfl) hRl⟩ 30 5 rfl rfl rfl rfl rfl hl.1 (Nat.le_of_ble_eq_true rfl) ⟨Nat.zero_le _, Nat.zero_le _⟩ dX11_provedAt_23 ?_
  intro H_7 lo_7 I_7
  refine lv_aload_n hx hb dX11_provedAt_26 rfl (lv_at hl 0 rfl) ?_
  refine kgtX11_61_0 F I_7 dX11_provedAt_27 ?_
  refine lv_iload_n hx hb dX11_provedAt_30 rfl (lv_at hl 1 rfl) ?_
  obtain ⟨r8, h9, hf⟩ := bd_some hf
  refine s_callVi (As := [.int a0]) (rest := []) F I_7 (cC_PP_countAt G4 E5 Dd P L pf a0 r8 h9) kX11_335 ⟨rfl, rfl⟩ ⟨Nat.le_trans (Nat.le_of_ble_eq_true rfl) hRf, Nat.le_trans (Nat.le_of_ble_eq_true rfl) hRl⟩ 30 5 rfl rfl rfl rfl rfl hl.1 (Nat.le_of_ble_eq_true rfl) ⟨Nat.zero_le _, Nat.zero_le _⟩ dX11_provedAt_31 ?_
  intro H_10 lo_10 I_10
  cases hf
  exact ret H_10 lo_10 _ ls I_10 dX11_provedAt_34
def C_LT_proved (G : Nat → Nat → Int32) (E : Nat → Nat → Int64) (a0 : Int32) (a1 : Int32) : Option (Int32 × (Nat → Nat → Int32) × (Nat → Nat → Int64)) :=
bd (if a0 < (1 : Int32) then
(some (0 : Int32))
else
(if (1000 : Int32) < a0 then
(some (0 : Int32))
else
(some (1 : Int32)))) fun x2 =>
bd0 (C_LT_requireArgument x2) <|
bd3 (C_LT_provedAt G E a0) fun r8 G9 E10 =>
if a1 = (-1 : Int32) then
(some (r8, G9, E10))
else
(bd0 (C_LT_requireIndex a1 r8) <|
bd (C_PP_namedPair G9 a1) fun r16 =>
some (r16, G9, E10))
set_option maxRecDepth 100000 in
set_option maxHeartbeats 4000000 in
theorem cC_LT_proved (G : Nat → Nat → Int32) (E : Nat → Nat → Int64) (Dd : Nat → Nat → UInt64) (P : Nat → Option Nat) (L : List Nat) (pf : Nat → va_E) (a0 : Int32) (a1 : Int32) (rv : Int32) (newG : Nat → Nat → Int32) (newE : Nat → Nat → Int64) (hf : C_LT_proved G E a0 a1 = some (rv, newG, newE)) : sMi D (cT cI cJ cD cS) (cW ad cI cJ cD cS) l yX11_proved (ws1 yX11_proved cX11_proved 4 (some .int)) ({ frames := 5, cells := 0, slots := 0, locals := 118 }) [.ref (ad 0), .int a0, .int a1] (G, E, Dd, P, L, pf) (rv, (newG, newE, Dd, P, L, pf)) := by
  unfold C_LT_proved at hf
  refine sMi_of (by decide) (Nat.le_of_ble_eq_true rfl) ?_
  intro p e R s m args below meth c A Q ls H lo F hRf hRl I hl ret
  obtain ⟨hx, hb, hml, hown, hG⟩ := id F
  replace hl : lv_has ls 4 [(0, .ref (ad 0)), (1, .int a0), (2, .int a1)] := hl
  refine lv_iload_n hx hb dX11_proved_0 rfl (lv_at hl 1 rfl) ?_
  refine lv_iconst (v := (1 : Int32)) hx hb dX11_proved_1 (by decide) ?_
  obtain ⟨x2, hv20, hf⟩ := bd_some hf
  have J1 : ∀ (H : Heap) (locs : List Loc), sInv D (cT cI cJ cD cS) (cW ad cI cJ cD cS) A s H locs (G, E, Dd, P, L, pf) → ∀ (ls : Array Slot), lv_has ls 4 [(0, .ref (ad 0)), (1, .int a0), (2, .int a1)] → W p l e R s m args below meth c H locs 0 0 Q (F0 m 17 ls [.int x2]) := by
    intro H_3 lo_3 I_3 ls_4 hl_4
    obtain ⟨h6, hf⟩ := bd0_some hf
    refine s_callSv (As := [.int x2]) (rest := []) F I_3 (cC_LT_requireArgument G E Dd P L pf x2 h6) kX11_76 ⟨rfl, rfl⟩ ⟨Nat.le_trans (Nat.le_of_ble_eq_true rfl) hRf, Nat.le_trans (Nat.le_of_ble_eq_true rfl) hRl⟩ rfl rfl hl_4.1 (Nat.le_of_ble_eq_true rfl) ⟨Nat.zero_le _, Nat.zero_le _⟩ dX11_proved_17 ?_
    intro H_7 lo_7 I_7
    refine lv_aload_n hx hb dX11_proved_20 rfl (lv_at hl_4 0 rfl) ?_
    refine lv_iload_n hx hb dX11_proved_21 rfl (lv_at hl_4 1 rfl) ?_
    obtain ⟨r8, G9, E10, h11, hf⟩ := bd3_some hf
    refine s_callVi (As := [.int a0]) (rest := []) F I_7 (cC_LT_provedAt G E Dd P L pf a0 r8 G9 E10 h11) kX11_259 ⟨rfl, rfl⟩ ⟨Nat.le_trans (Nat.le_of_ble_eq_true rfl) hRf, Nat.le_trans (Nat.le_of_ble_eq_true rfl) hRl⟩ 0 11 rfl rfl rfl rfl rfl hl_4.1 (Nat.le_of_ble_eq_true rfl) ⟨Nat.zero_le _, Nat.zero_le _⟩ dX11_proved_22 ?_
    intro H_12 lo_12 I_12
    refine lv_istore_n (lv' := [(3, .int r8), (0, .ref (ad 0)), (1, .int a0), (2, .int a1)]) hx hb dX11_proved_25 rfl hl_4 (by decide) rfl (fun ls_13 hl_13 => ?_)
    refine lv_iload_n hx hb dX11_proved_26 rfl (lv_at hl_13 3 rfl) ?_
    refine lv_iconst (v := (-1 : Int32)) hx hb dX11_proved_27 (by decide) ?_
    refine lv_icmp_ne (tgt := 33) hx hb dX11_proved_28 (by decide) (fun c19 => ?_) (fun c19 => ?_)
    · replace hf := (if_neg c19).symm.trans hf
      refine lv_iload_n hx hb dX11_proved_33 rfl (lv_at hl_13 3 rfl) ?_
      refine lv_iload_n hx hb dX11_proved_34 rfl (lv_at hl_13 0 rfl) ?_
      obtain ⟨h14, hf⟩ := bd0_some hf
      refine s_callSv (As := [.int a1, .int r8]) (rest := []) F I_12 (cC_LT_requireIndex G9 E10 Dd P L pf a1 r8 h14) kX11_84 ⟨rfl, rfl⟩ ⟨Nat.le_trans (Nat.le_of_ble_eq_true rfl) hRf, Nat.le_trans (Nat.le_of_ble_eq_true rfl) hRl⟩ rfl rfl hl_13.1 (Nat.le_of_ble_eq_true rfl) ⟨Nat.zero_le _, Nat.zero_le _⟩ dX11_proved_35 ?_
      intro H_15 lo_15 I_15
      refine lv_aload_n hx hb dX11_proved_38 rfl (lv_at hl_13 1 rfl) ?_
      refine kgtX11_61_0 F I_15 dX11_proved_39 ?_
      refine lv_aload_n hx hb dX11_proved_42 rfl (lv_at hl_13 1 rfl) ?_
      refine kgtX11_37_0 F I_15 dX11_proved_43 ?_
      refine lv_iload_n hx hb dX11_proved_46 rfl (lv_at hl_13 3 rfl) ?_
      obtain ⟨r16, h17, hf⟩ := bd_some hf
      refine s_callVi (As := [.ref (ad 9), .int a1]) (rest := []) F I_15 (cC_PP_namedPair G9 E10 Dd P L pf a1 r16 h17) kX11_262 ⟨rfl, rfl⟩ ⟨Nat.le_trans (Nat.le_of_ble_eq_true rfl) hRf, Nat.le_trans (Nat.le_of_ble_eq_true rfl) hRl⟩ 30 5 rfl rfl rfl rfl rfl hl_13.1 (Nat.le_of_ble_eq_true rfl) ⟨Nat.zero_le _, Nat.zero_le _⟩ dX11_proved_47 ?_
      intro H_18 lo_18 I_18
      cases hf
      exact ret H_18 lo_18 _ ls_13 I_18 dX11_proved_50
    · replace hf := (if_pos c19).symm.trans hf
      refine lv_iload_n hx hb dX11_proved_31 rfl (lv_at hl_13 0 rfl) ?_
      cases hf
      exact ret H_12 lo_12 _ ls_13 I_12 dX11_proved_32
  replace hf := hv20
  refine lv_icmp_lt (tgt := 16) hx hb dX11_proved_2 (by decide) (fun c22 => ?_) (fun c22 => ?_)
  · replace hf := (if_pos c22).symm.trans hf
    refine lv_iconst (v := (0 : Int32)) hx hb dX11_proved_16 (by decide) ?_
    cases hf
    exact J1 H lo I ls (lv_sub hl [0, 1, 2] rfl)
  · replace hf := (if_neg c22).symm.trans hf
    refine lv_iload_n hx hb dX11_proved_5 rfl (lv_at hl 1 rfl) ?_
    refine lv_sipush (v := (1000 : Int32)) hx hb dX11_proved_6 (by decide) ?_
    refine lv_icmp_gt (tgt := 16) hx hb dX11_proved_9 (by decide) (fun c21 => ?_) (fun c21 => ?_)
    · replace hf := (if_pos c21).symm.trans hf
      refine lv_iconst (v := (0 : Int32)) hx hb dX11_proved_16 (by decide) ?_
      cases hf
      exact J1 H lo I ls (lv_sub hl [0, 1, 2] rfl)
    · replace hf := (if_neg c21).symm.trans hf
      refine lv_iconst (v := (1 : Int32)) hx hb dX11_proved_12 (by decide) ?_
      refine lv_goto (tgt := 17) hx hb dX11_proved_13 (by decide) ?_
      cases hf
      exact J1 H lo I ls (lv_sub hl [0, 1, 2] rfl)
def C_LT_fitStrengths (G : Nat → Nat → Int32) (Dd : Nat → Nat → UInt64) (a0 : Int32) : Option ((Nat → Nat → Int32) × (Nat → Nat → UInt64)) :=
bd (C_TA_take G) fun G1 =>
bd2 (C_SR_fit G1 Dd (G1 0 0) a0) fun G4 Dd5 =>
some (G4, Dd5)
set_option maxRecDepth 100000 in
set_option maxHeartbeats 4000000 in
theorem cC_LT_fitStrengths (G : Nat → Nat → Int32) (E : Nat → Nat → Int64) (Dd : Nat → Nat → UInt64) (P : Nat → Option Nat) (L : List Nat) (pf : Nat → va_E) (a0 : Int32)  (newG : Nat → Nat → Int32) (newDd : Nat → Nat → UInt64) (hf : C_LT_fitStrengths G Dd a0 = some (newG, newDd)) : sDv D (cT cI cJ cD cS) (cW ad cI cJ cD cS) cSm l yX11_fitStrengths (ws1 yX11_fitStrengths cX11_fitStrengths 2 none) ({ frames := 4, cells := 0, slots := 0, locals := 92 }) [.ref (ad 0), .int a0] (G, E, Dd, P, L, pf) (newG, E, newDd, P, L, pf) := by
  unfold C_LT_fitStrengths at hf
  refine sDv_of (by decide) (Nat.le_of_ble_eq_true rfl) ?_
  intro p e R s m args below meth c A Q ls H lo dr sgm F hRf hRl hd hsm I hl ret
  obtain ⟨_, _, Dm, _⟩ := sgm
  obtain ⟨rfl, rfl, ha, rfl⟩ := cSm_dest hsm
  obtain ⟨hx, hb, hml, hown, hG⟩ := id F
  replace hl : lv_has ls 2 [(0, .ref (ad 0)), (1, .int a0)] := hl
  refine lv_aload_n hx hb dX11_fitStrengths_0 rfl (lv_at hl 0 rfl) ?_
  refine kgtX11_37_0 (Fdr F) (Idr I) dX11_fitStrengths_1 ?_
  refine lv_aload_n hx hb dX11_fitStrengths_4 rfl (lv_at hl 0 rfl) ?_
  refine kgtX11_16_0 (Fdr F) (Idr I) dX11_fitStrengths_5 ?_
  obtain ⟨G1, h2, hf⟩ := bd_some hf
  refine s_callVv (As := [.ref (ad 2)]) (rest := []) (Fdr F) (Idr I) (cC_TA_take G E Dm P L pf G1 h2) kX11_211 ⟨rfl, rfl⟩ ⟨Nat.le_trans (Nat.le_of_ble_eq_true rfl) hRf, Nat.le_trans (Nat.le_of_ble_eq_true rfl) hRl⟩ 9 9 rfl rfl rfl rfl rfl hl.1 (Nat.le_of_ble_eq_true rfl) ⟨Nat.zero_le _, Nat.zero_le _⟩ dX11_fitStrengths_8 ?_
  intro H_3 lo_3 I_3
  replace I_3 := Irr I_3
  refine lv_aload_n hx hb dX11_fitStrengths_11 rfl (lv_at hl 0 rfl) ?_
  refine kgtX11_68_0 (Fdr F) (Idr I_3) dX11_fitStrengths_12 ?_
  refine lv_aload_n hx hb dX11_fitStrengths_15 rfl (lv_at hl 0 rfl) ?_
  refine kgtX11_37_0 (Fdr F) (Idr I_3) dX11_fitStrengths_16 ?_
  refine lv_aload_n hx hb dX11_fitStrengths_19 rfl (lv_at hl 0 rfl) ?_
  refine kgtX11_89_0 (Fdr F) (Idr I_3) dX11_fitStrengths_20 ?_
  refine lv_iload_n hx hb dX11_fitStrengths_23 rfl (lv_at hl 1 rfl) ?_
  obtain ⟨G4, Dd5, h6, hf⟩ := bd2_some hf
  refine d_callVv (As := [.ref (ad 9), .int (G1 0 0), .int a0]) (rest := []) F hd I_3 ⟨rfl, rfl, ha, rfl⟩ (cC_SR_fit G1 E Dd P L pf (G1 0 0) a0 G4 Dd5 h6) kX11_338 ⟨rfl, rfl⟩ ⟨Nat.le_trans (Nat.le_of_ble_eq_true rfl) hRf, Nat.le_trans (Nat.le_of_ble_eq_true rfl) hRl⟩ 33 8 rfl rfl rfl rfl rfl hl.1 (Nat.le_of_ble_eq_true rfl) ⟨Nat.zero_le _, Nat.zero_le _⟩ dX11_fitStrengths_24 ?_
  intro H_7 lo_7 dr_8 sg8 hd_8 I_7 hs8
  obtain ⟨_, _, Dm8, _⟩ := sg8
  obtain ⟨rfl, rfl, ha8, rfl⟩ := cSm_dest hs8
  cases hf
  exact ret H_7 lo_7 _ ls dr_8 _ hd_8 I_7 ⟨rfl, rfl, ha8, rfl⟩ dX11_fitStrengths_27
def C_LT_strength (G : Nat → Nat → Int32) (Dd : Nat → Nat → UInt64) (a0 : Int32) (a1 : Int32) : Option (UInt64 × (Nat → Nat → Int32) × (Nat → Nat → UInt64)) :=
bd0 (C_LT_requireIndex a0 (G 0 0)) <|
bd (if a1 < 0 then
(some (0 : Int32))
else
(if (60 : Int32) < a1 then
(some (0 : Int32))
else
(some (1 : Int32)))) fun x4 =>
bd0 (C_LT_requireArgument x4) <|
bd2 (C_LT_fitStrengths G Dd a1) fun G10 Dd11 =>
ri 8 a0 <|
some ((Dd11 1 a0.toNatClampNeg), G10, Dd11)
set_option maxRecDepth 100000 in
set_option maxHeartbeats 4000000 in
theorem cC_LT_strength (G : Nat → Nat → Int32) (E : Nat → Nat → Int64) (Dd : Nat → Nat → UInt64) (P : Nat → Option Nat) (L : List Nat) (pf : Nat → va_E) (a0 : Int32) (a1 : Int32) (rv : UInt64) (newG : Nat → Nat → Int32) (newDd : Nat → Nat → UInt64) (hf : C_LT_strength G Dd a0 a1 = some (rv, newG, newDd)) : sDd D (cT cI cJ cD cS) (cW ad cI cJ cD cS) cSm l yX11_strength (ws1 yX11_strength cX11_strength 3 (some .double)) ({ frames := 5, cells := 0, slots := 0, locals := 113 }) [.ref (ad 0), .int a0, .int a1] (G, E, Dd, P, L, pf) (rv, (newG, E, newDd, P, L, pf)) := by
  unfold C_LT_strength at hf
  refine sDd_of (by decide) (Nat.le_of_ble_eq_true rfl) ?_
  intro p e R s m args below meth c A Q ls H lo dr sgm F hRf hRl hd hsm I hl ret
  obtain ⟨_, _, Dm, _⟩ := sgm
  obtain ⟨rfl, rfl, ha, rfl⟩ := cSm_dest hsm
  obtain ⟨hx, hb, hml, hown, hG⟩ := id F
  replace hl : lv_has ls 3 [(0, .ref (ad 0)), (1, .int a0), (2, .int a1)] := hl
  refine lv_iload_n hx hb dX11_strength_0 rfl (lv_at hl 1 rfl) ?_
  refine lv_aload_n hx hb dX11_strength_1 rfl (lv_at hl 0 rfl) ?_
  refine kgtX11_89_0 (Fdr F) (Idr I) dX11_strength_2 ?_
  obtain ⟨h1, hf⟩ := bd0_some hf
  refine s_callSv (As := [.int a0, .int (G 0 0)]) (rest := []) (Fdr F) (Idr I) (cC_LT_requireIndex G E Dm P L pf a0 (G 0 0) h1) kX11_84 ⟨rfl, rfl⟩ ⟨Nat.le_trans (Nat.le_of_ble_eq_true rfl) hRf, Nat.le_trans (Nat.le_of_ble_eq_true rfl) hRl⟩ rfl rfl hl.1 (Nat.le_of_ble_eq_true rfl) ⟨Nat.zero_le _, Nat.zero_le _⟩ dX11_strength_5 ?_
  intro H_2 lo_2 I_2
  replace I_2 := Irr I_2
  refine lv_iload_n hx hb dX11_strength_8 rfl (lv_at hl 2 rfl) ?_
  obtain ⟨x4, hv16, hf⟩ := bd_some hf
  have J3 : ∀ (H : Heap) (locs : List Loc) (d : Drawn), s.drawn.sameBut d lw_cs → sInv D (cT cI cJ cD cS) (cW ad cI cJ cD cS) A s H locs (G, E, Dm, P, L, pf) → ∀ (ls : Array Slot), lv_has ls 3 [(0, .ref (ad 0)), (1, .int a0), (2, .int a1)] → W p l e R (s.setDrawn d) m args below meth c H locs 0 0 Q (F0 m 23 ls [.int x4]) := by
    intro H_5 lo_5 dr_7 hd_7 I_5 ls_6 hl_6
    obtain ⟨h8, hf⟩ := bd0_some hf
    refine s_callSv (As := [.int x4]) (rest := []) (Fdr F) (Idr I_5) (cC_LT_requireArgument G E Dm P L pf x4 h8) kX11_76 ⟨rfl, rfl⟩ ⟨Nat.le_trans (Nat.le_of_ble_eq_true rfl) hRf, Nat.le_trans (Nat.le_of_ble_eq_true rfl) hRl⟩ rfl rfl hl_6.1 (Nat.le_of_ble_eq_true rfl) ⟨Nat.zero_le _, Nat.zero_le _⟩ dX11_strength_23 ?_
    intro H_9 lo_9 I_9
    replace I_9 := Irr I_9
    refine lv_aload_n hx hb dX11_strength_26 rfl (lv_at hl_6 0 rfl) ?_
    refine lv_iload_n hx hb dX11_strength_27 rfl (lv_at hl_6 2 rfl) ?_
    obtain ⟨G10, Dd11, h12, hf⟩ := bd2_some hf
    refine d_callVv (As := [.int a1]) (rest := []) F hd_7 I_9 ⟨rfl, rfl, ha, rfl⟩ (cC_LT_fitStrengths G E Dd P L pf a1 G10 Dd11 h12) kX11_266 ⟨rfl, rfl⟩ ⟨Nat.le_trans (Nat.le_of_ble_eq_true rfl) hRf, Nat.le_trans (Nat.le_of_ble_eq_true rfl) hRl⟩ 0 11 rfl rfl rfl rfl rfl hl_6.1 (Nat.le_of_ble_eq_true rfl) ⟨Nat.zero_le _, Nat.zero_le _⟩ dX11_strength_28 ?_
    intro H_13 lo_13 dr_14 sg14 hd_14 I_13 hs14
    obtain ⟨_, _, Dm14, _⟩ := sg14
    obtain ⟨rfl, rfl, ha14, rfl⟩ := cSm_dest hs14
    refine lv_aload_n hx hb dX11_strength_31 rfl (lv_at hl_6 0 rfl) ?_
    refine kgtX11_68_0 (Fdr F) (Idr I_13) dX11_strength_32 ?_
    refine kgtX11_269_33 (Fdr F) (Idr I_13) dX11_strength_35 ?_
    refine lv_iload_n hx hb dX11_strength_38 rfl (lv_at hl_6 1 rfl) ?_
    obtain ⟨g15, hf⟩ := ri_some hf
    refine kal36 (Fdr F) (Idr I_13) g15 dX11_strength_39 ?_
    cases hf
    exact ret H_13 lo_13 _ ls_6 dr_14 _ _ hd_14 I_13 ⟨rfl, rfl, ha14, rfl⟩ (ha14 1 _) dX11_strength_40
  replace hf := hv16
  refine lv_if_lt (tgt := 22) hx hb dX11_strength_9 (by decide) (fun c18 => ?_) (fun c18 => ?_)
  · replace hf := (if_pos c18).symm.trans hf
    refine lv_iconst (v := (0 : Int32)) hx hb dX11_strength_22 (by decide) ?_
    cases hf
    exact J3 H_2 lo_2 dr hd I_2 ls (lv_sub hl [0, 1, 2] rfl)
  · replace hf := (if_neg c18).symm.trans hf
    refine lv_iload_n hx hb dX11_strength_12 rfl (lv_at hl 2 rfl) ?_
    refine lv_bipush (v := (60 : Int32)) hx hb dX11_strength_13 (by decide) ?_
    refine lv_icmp_gt (tgt := 22) hx hb dX11_strength_15 (by decide) (fun c17 => ?_) (fun c17 => ?_)
    · replace hf := (if_pos c17).symm.trans hf
      refine lv_iconst (v := (0 : Int32)) hx hb dX11_strength_22 (by decide) ?_
      cases hf
      exact J3 H_2 lo_2 dr hd I_2 ls (lv_sub hl [0, 1, 2] rfl)
    · replace hf := (if_neg c17).symm.trans hf
      refine lv_iconst (v := (1 : Int32)) hx hb dX11_strength_18 (by decide) ?_
      refine lv_goto (tgt := 23) hx hb dX11_strength_19 (by decide) ?_
      cases hf
      exact J3 H_2 lo_2 dr hd I_2 ls (lv_sub hl [0, 1, 2] rfl)
def C_LT_misfit (G : Nat → Nat → Int32) (Dd : Nat → Nat → UInt64) (a0 : Int32) : Option (UInt64 × (Nat → Nat → Int32) × (Nat → Nat → UInt64)) :=
bd (if a0 < 0 then
(some (0 : Int32))
else
(if (60 : Int32) < a0 then
(some (0 : Int32))
else
(some (1 : Int32)))) fun x2 =>
bd0 (C_LT_requireArgument x2) <|
bd2 (C_LT_fitStrengths G Dd a0) fun G8 Dd9 =>
bd (C_SR_sumOfSquares G8 Dd9) fun r13 =>
some (r13, G8, Dd9)
set_option maxRecDepth 100000 in
set_option maxHeartbeats 4000000 in
theorem cC_LT_misfit (G : Nat → Nat → Int32) (E : Nat → Nat → Int64) (Dd : Nat → Nat → UInt64) (P : Nat → Option Nat) (L : List Nat) (pf : Nat → va_E) (a0 : Int32) (rv : UInt64) (newG : Nat → Nat → Int32) (newDd : Nat → Nat → UInt64) (hf : C_LT_misfit G Dd a0 = some (rv, newG, newDd)) : sDd D (cT cI cJ cD cS) (cW ad cI cJ cD cS) cSm l yX11_misfit (ws1 yX11_misfit cX11_misfit 2 (some .double)) ({ frames := 5, cells := 0, slots := 0, locals := 113 }) [.ref (ad 0), .int a0] (G, E, Dd, P, L, pf) (rv, (newG, E, newDd, P, L, pf)) := by
  unfold C_LT_misfit at hf
  refine sDd_of (by decide) (Nat.le_of_ble_eq_true rfl) ?_
  intro p e R s m args below meth c A Q ls H lo dr sgm F hRf hRl hd hsm I hl ret
  obtain ⟨_, _, Dm, _⟩ := sgm
  obtain ⟨rfl, rfl, ha, rfl⟩ := cSm_dest hsm
  obtain ⟨hx, hb, hml, hown, hG⟩ := id F
  replace hl : lv_has ls 2 [(0, .ref (ad 0)), (1, .int a0)] := hl
  refine lv_iload_n hx hb dX11_misfit_0 rfl (lv_at hl 1 rfl) ?_
  obtain ⟨x2, hv17, hf⟩ := bd_some hf
  have J1 : ∀ (H : Heap) (locs : List Loc) (d : Drawn), s.drawn.sameBut d lw_cs → sInv D (cT cI cJ cD cS) (cW ad cI cJ cD cS) A s H locs (G, E, Dm, P, L, pf) → ∀ (ls : Array Slot), lv_has ls 2 [(0, .ref (ad 0)), (1, .int a0)] → W p l e R (s.setDrawn d) m args below meth c H locs 0 0 Q (F0 m 15 ls [.int x2]) := by
    intro H_3 lo_3 dr_5 hd_5 I_3 ls_4 hl_4
    obtain ⟨h6, hf⟩ := bd0_some hf
    refine s_callSv (As := [.int x2]) (rest := []) (Fdr F) (Idr I_3) (cC_LT_requireArgument G E Dm P L pf x2 h6) kX11_76 ⟨rfl, rfl⟩ ⟨Nat.le_trans (Nat.le_of_ble_eq_true rfl) hRf, Nat.le_trans (Nat.le_of_ble_eq_true rfl) hRl⟩ rfl rfl hl_4.1 (Nat.le_of_ble_eq_true rfl) ⟨Nat.zero_le _, Nat.zero_le _⟩ dX11_misfit_15 ?_
    intro H_7 lo_7 I_7
    replace I_7 := Irr I_7
    refine lv_aload_n hx hb dX11_misfit_18 rfl (lv_at hl_4 0 rfl) ?_
    refine lv_iload_n hx hb dX11_misfit_19 rfl (lv_at hl_4 1 rfl) ?_
    obtain ⟨G8, Dd9, h10, hf⟩ := bd2_some hf
    refine d_callVv (As := [.int a0]) (rest := []) F hd_5 I_7 ⟨rfl, rfl, ha, rfl⟩ (cC_LT_fitStrengths G E Dd P L pf a0 G8 Dd9 h10) kX11_266 ⟨rfl, rfl⟩ ⟨Nat.le_trans (Nat.le_of_ble_eq_true rfl) hRf, Nat.le_trans (Nat.le_of_ble_eq_true rfl) hRl⟩ 0 11 rfl rfl rfl rfl rfl hl_4.1 (Nat.le_of_ble_eq_true rfl) ⟨Nat.zero_le _, Nat.zero_le _⟩ dX11_misfit_20 ?_
    intro H_11 lo_11 dr_12 sg12 hd_12 I_11 hs12
    obtain ⟨_, _, Dm12, _⟩ := sg12
    obtain ⟨rfl, rfl, ha12, rfl⟩ := cSm_dest hs12
    refine lv_aload_n hx hb dX11_misfit_23 rfl (lv_at hl_4 0 rfl) ?_
    refine kgtX11_68_0 (Fdr F) (Idr I_11) dX11_misfit_24 ?_
    obtain ⟨r13, h14, hf⟩ := bd_some hf
    refine d_callVd (As := []) (rest := []) F hd_12 I_11 ⟨rfl, rfl, ha12, rfl⟩ (cC_SR_sumOfSquares G8 E Dd9 P L pf r13 h14) kX11_273 ⟨rfl, rfl⟩ ⟨Nat.le_trans (Nat.le_of_ble_eq_true rfl) hRf, Nat.le_trans (Nat.le_of_ble_eq_true rfl) hRl⟩ 33 8 rfl rfl rfl rfl rfl hl_4.1 (Nat.le_of_ble_eq_true rfl) ⟨Nat.zero_le _, Nat.zero_le _⟩ dX11_misfit_27 ?_
    intro H_15 lo_15 dr_16 sg16 mr13 hd_16 I_15 hs16 hr13
    obtain ⟨_, _, Dm16, _⟩ := sg16
    obtain ⟨rfl, rfl, ha16, rfl⟩ := cSm_dest hs16
    cases hf
    exact ret H_15 lo_15 _ ls_4 dr_16 _ _ hd_16 I_15 ⟨rfl, rfl, ha16, rfl⟩ hr13 dX11_misfit_30
  replace hf := hv17
  refine lv_if_lt (tgt := 14) hx hb dX11_misfit_1 (by decide) (fun c19 => ?_) (fun c19 => ?_)
  · replace hf := (if_pos c19).symm.trans hf
    refine lv_iconst (v := (0 : Int32)) hx hb dX11_misfit_14 (by decide) ?_
    cases hf
    exact J1 H lo dr hd I ls (lv_sub hl [0, 1] rfl)
  · replace hf := (if_neg c19).symm.trans hf
    refine lv_iload_n hx hb dX11_misfit_4 rfl (lv_at hl 1 rfl) ?_
    refine lv_bipush (v := (60 : Int32)) hx hb dX11_misfit_5 (by decide) ?_
    refine lv_icmp_gt (tgt := 14) hx hb dX11_misfit_7 (by decide) (fun c18 => ?_) (fun c18 => ?_)
    · replace hf := (if_pos c18).symm.trans hf
      refine lv_iconst (v := (0 : Int32)) hx hb dX11_misfit_14 (by decide) ?_
      cases hf
      exact J1 H lo dr hd I ls (lv_sub hl [0, 1] rfl)
    · replace hf := (if_neg c18).symm.trans hf
      refine lv_iconst (v := (1 : Int32)) hx hb dX11_misfit_10 (by decide) ?_
      refine lv_goto (tgt := 15) hx hb dX11_misfit_11 (by decide) ?_
      cases hf
      exact J1 H lo dr hd I ls (lv_sub hl [0, 1] rfl)
def C_LT_mixed (a0 : Int64) (a1 : Int64) : Int64 :=
(((31 : Int64) * a0) + a1)
set_option maxRecDepth 100000 in
set_option maxHeartbeats 4000000 in
theorem cC_LT_mixed (G : Nat → Nat → Int32) (E : Nat → Nat → Int64) (Dd : Nat → Nat → UInt64) (P : Nat → Option Nat) (L : List Nat) (pf : Nat → va_E) (a0 : Int64) (a1 : Int64) (rv : Int64)  (hv : rv = C_LT_mixed a0 a1) : sMl D (cT cI cJ cD cS) (cW ad cI cJ cD cS) l yX11_mixed (ws1 yX11_mixed cX11_mixed 4 (some .long)) ({ frames := 0, cells := 0, slots := 0, locals := 0 }) [.long a0, .long a1] (G, E, Dd, P, L, pf) (rv, (G, E, Dd, P, L, pf)) := by
  have hf : (some (((31 : Int64) * a0) + a1)) = some rv := by rw [hv]; rfl
  refine sMl_of (by decide) (Nat.le_of_ble_eq_true rfl) ?_
  intro p e R s m args below meth c A Q ls H lo F hRf hRl I hl ret
  obtain ⟨hx, hb, hml, hown, hG⟩ := id F
  replace hl : lv_has ls 4 [(0, .long a0), (2, .long a1)] := hl
  refine lv_ldc2 (v := (31 : Int64)) hx hb hown (hG _ q497) dX11_mixed_0 ?_
  refine lv_lload_n hx hb dX11_mixed_3 rfl (lv_at hl 0 rfl) ?_
  refine lv_lmul hx hb dX11_mixed_4 ?_
  refine lv_lload_n hx hb dX11_mixed_5 rfl (lv_at hl 1 rfl) ?_
  refine lv_ladd hx hb dX11_mixed_6 ?_
  cases hf
  exact ret H lo _ ls I dX11_mixed_7
def C_LT_hashRanks_s2  (x20 : Int64) (x21 : Int32) (G22 : Nat → Nat → Int32) : Option ((Int64 × Int32 × (Nat → Nat → Int32)) ⊕ (Int64 × (Nat → Nat → Int32))) :=
if (5 : Int32) < x21 then
(some (.inr (x20, G22)))
else
(bd2 (C_SD_numberOf G22 x21) fun r31 G32 =>
nm (C_LT_mixed x20 r31.toInt64) fun r35 =>
nm (x21 + (1 : Int32) : Int32) fun x39 =>
some (.inl (r35, x39, G32)))
def C_LT_hashRanks_s3 (x12 : Int32) (x46 : Int64) (x47 : Int32) (G48 : Nat → Nat → Int32) : Option ((Int64 × Int32 × (Nat → Nat → Int32)) ⊕ (Int64 × (Nat → Nat → Int32))) :=
if (5 : Int32) < x47 then
(some (.inr (x46, G48)))
else
(bd2 (C_SD_propertyOf G48 x12 x47) fun r66 G67 =>
nm (C_LT_mixed x46 r66.toInt64) fun r70 =>
nm (x47 + (1 : Int32) : Int32) fun x74 =>
some (.inl (r70, x74, G67)))
def C_LT_hashRanks_s1 (Dd6 : Nat → Nat → UInt64) (x11 : Int64) (x12 : Int32) (G13 : Nat → Nat → Int32) : Option ((Int64 × Int32 × (Nat → Nat → Int32)) ⊕ (Int64 × (Nat → Nat → Int32))) :=
if G13 0 0 ≤ x12 then
(some (.inr (x11, G13)))
else
(bd2 (lp (fun q => C_LT_hashRanks_s3 x12 q.1 q.2.1 q.2.2) FU (x11, (0 : Int32), G13)) fun x49 G50 =>
ri 8 x12 <|
nm (C_LT_mixed x49 (FP.d2l (FP.dmul (Dd6 1 x12.toNatClampNeg) (4696837146684686336 : UInt64)))) fun r57 =>
nm (x12 + (1 : Int32) : Int32) fun x61 =>
some (.inl (r57, x61, G50)))
def C_LT_hashRanks (G : Nat → Nat → Int32) (Dd : Nat → Nat → UInt64) (a0 : Int64) : Option (Int64 × (Nat → Nat → Int32) × (Nat → Nat → UInt64)) :=
bd (C_LT_weigh G (-1 : Int32)) fun G2 =>
bd2 (C_LT_fitStrengths G2 Dd (8 : Int32)) fun G5 Dd6 =>
bd2 (lp (fun q => C_LT_hashRanks_s1 Dd6 q.1 q.2.1 q.2.2) FU (a0, (0 : Int32), G5)) fun x14 G15 =>
bd2 (lp (fun q => C_LT_hashRanks_s2 q.1 q.2.1 q.2.2) FU (x14, (0 : Int32), G15)) fun x23 G24 =>
some (x23, G24, Dd6)
set_option maxRecDepth 100000 in
set_option maxHeartbeats 4000000 in
theorem cC_LT_hashRanks (G : Nat → Nat → Int32) (E : Nat → Nat → Int64) (Dd : Nat → Nat → UInt64) (P : Nat → Option Nat) (L : List Nat) (pf : Nat → va_E) (a0 : Int64) (rv : Int64) (newG : Nat → Nat → Int32) (newDd : Nat → Nat → UInt64) (hf : C_LT_hashRanks G Dd a0 = some (rv, newG, newDd)) : sDl D (cT cI cJ cD cS) (cW ad cI cJ cD cS) cSm l yX11_hashRanks (ws1 yX11_hashRanks cX11_hashRanks 7 (some .long)) ({ frames := 5, cells := 0, slots := 0, locals := 119 }) [.ref (ad 0), .long a0] (G, E, Dd, P, L, pf) (rv, (newG, E, newDd, P, L, pf)) := by
  unfold C_LT_hashRanks at hf
  refine sDl_of (by decide) (Nat.le_of_ble_eq_true rfl) ?_
  intro p e R s m args below meth c A Q ls H lo dr sgm F hRf hRl hd hsm I hl ret
  obtain ⟨_, _, Dm, _⟩ := sgm
  obtain ⟨rfl, rfl, ha, rfl⟩ := cSm_dest hsm
  obtain ⟨hx, hb, hml, hown, hG⟩ := id F
  replace hl : lv_has ls 7 [(0, .ref (ad 0)), (1, .long a0)] := hl
  refine lv_lload_n hx hb dX11_hashRanks_0 rfl (lv_at hl 1 rfl) ?_
  refine lv_lstore_n (lv' := [(3, .long a0), (0, .ref (ad 0)), (1, .long a0)]) hx hb dX11_hashRanks_1 rfl hl (by decide) rfl (fun ls_1 hl_1 => ?_)
  refine lv_aload_n hx hb dX11_hashRanks_2 rfl (lv_at hl_1 1 rfl) ?_
  refine lv_iconst (v := (-1 : Int32)) hx hb dX11_hashRanks_3 (by decide) ?_
  obtain ⟨G2, h3, hf⟩ := bd_some hf
  refine s_callVv (As := [.int (-1 : Int32)]) (rest := []) (Fdr F) (Idr I) (cC_LT_weigh G E Dm P L pf (-1 : Int32) G2 h3) kX11_202 ⟨rfl, rfl⟩ ⟨Nat.le_trans (Nat.le_of_ble_eq_true rfl) hRf, Nat.le_trans (Nat.le_of_ble_eq_true rfl) hRl⟩ 0 11 rfl rfl rfl rfl rfl hl_1.1 (Nat.le_of_ble_eq_true rfl) ⟨Nat.zero_le _, Nat.zero_le _⟩ dX11_hashRanks_4 ?_
  intro H_4 lo_4 I_4
  replace I_4 := Irr I_4
  refine lv_aload_n hx hb dX11_hashRanks_7 rfl (lv_at hl_1 1 rfl) ?_
  refine lv_bipush (v := (8 : Int32)) hx hb dX11_hashRanks_8 (by decide) ?_
  obtain ⟨G5, Dd6, h7, hf⟩ := bd2_some hf
  refine d_callVv (As := [.int (8 : Int32)]) (rest := []) F hd I_4 ⟨rfl, rfl, ha, rfl⟩ (cC_LT_fitStrengths G2 E Dd P L pf (8 : Int32) G5 Dd6 h7) kX11_266 ⟨rfl, rfl⟩ ⟨Nat.le_trans (Nat.le_of_ble_eq_true rfl) hRf, Nat.le_trans (Nat.le_of_ble_eq_true rfl) hRl⟩ 0 11 rfl rfl rfl rfl rfl hl_1.1 (Nat.le_of_ble_eq_true rfl) ⟨Nat.zero_le _, Nat.zero_le _⟩ dX11_hashRanks_10 ?_
  intro H_8 lo_8 dr_9 sg9 hd_9 I_8 hs9
  obtain ⟨_, _, Dm9, _⟩ := sg9
  obtain ⟨rfl, rfl, ha9, rfl⟩ := cSm_dest hs9
  refine lv_iconst (v := (0 : Int32)) hx hb dX11_hashRanks_13 (by decide) ?_
  refine lv_istore (lv' := [(5, .int (0 : Int32)), (3, .long a0), (0, .ref (ad 0)), (1, .long a0)]) hx hb dX11_hashRanks_14 hl_1 (by decide) rfl (fun ls_10 hl_10 => ?_)
  obtain ⟨x14, G15, hq1, hf⟩ := bd2_some hf
  have K1 : ∀ (H : Heap) (locs : List Loc) (d : Drawn), s.drawn.sameBut d lw_cs → sInv D (cT cI cJ cD cS) (cW ad cI cJ cD cS) A s H locs (G15, E, Dm9, P, L, pf) → ∀ (ls : Array Slot), lv_has ls 7 [(0, .ref (ad 0)), (3, .long x14)] → W p l e R (s.setDrawn d) m args below meth c H locs 0 0 Q (F0 m 87 ls []) := by
    intro H_16 lo_16 dr_18 hd_18 I_16 ls_17 hl_17
    refine lv_iconst (v := (0 : Int32)) hx hb dX11_hashRanks_87 (by decide) ?_
    refine lv_istore (lv' := [(5, .int (0 : Int32)), (0, .ref (ad 0)), (3, .long x14)]) hx hb dX11_hashRanks_88 hl_17 (by decide) rfl (fun ls_19 hl_19 => ?_)
    obtain ⟨x23, G24, hq2, hf⟩ := bd2_some hf
    have K2 : ∀ (H : Heap) (locs : List Loc) (d : Drawn), s.drawn.sameBut d lw_cs → sInv D (cT cI cJ cD cS) (cW ad cI cJ cD cS) A s H locs (G24, E, Dm9, P, L, pf) → ∀ (ls : Array Slot), lv_has ls 7 [(3, .long x23)] → W p l e R (s.setDrawn d) m args below meth c H locs 0 0 Q (F0 m 121 ls []) := by
      intro H_25 lo_25 dr_27 hd_27 I_25 ls_26 hl_26
      refine lv_lload_n hx hb dX11_hashRanks_121 rfl (lv_at hl_26 0 rfl) ?_
      cases hf
      exact ret H_25 lo_25 _ ls_26 dr_27 _ hd_27 I_25 ⟨rfl, rfl, ha9, rfl⟩ dX11_hashRanks_122
    have L2 : ∀ (n : Nat) (x20 : Int64) (x21 : Int32) (G22 : Nat → Nat → Int32), lp (fun q => C_LT_hashRanks_s2 q.1 q.2.1 q.2.2) n (x20, x21, G22) = some (x23, G24) → ∀ (H : Heap) (locs : List Loc) (d : Drawn), s.drawn.sameBut d lw_cs → sInv D (cT cI cJ cD cS) (cW ad cI cJ cD cS) A s H locs (G22, E, Dm9, P, L, pf) → ∀ (ls : Array Slot), lv_has ls 7 [(0, .ref (ad 0)), (3, .long x20), (5, .int x21)] → W p l e R (s.setDrawn d) m args below meth c H locs 0 0 Q (F0 m 90 ls []) := by
      intro n
      induction n with
      | zero => intro x20 x21 G22 hq; exact (lp_0 hq).elim
      | succ n ih2 =>
        intro x20 x21 G22 hq H_28 lo_28 dr_30 hd_30 I_28 ls_29 hl_29
        obtain ⟨y2, hf, hK2⟩ := lp_go hq
        replace hf : C_LT_hashRanks_s2 x20 x21 G22 = some y2 := hf
        unfold C_LT_hashRanks_s2 at hf
        refine lv_iload hx hb dX11_hashRanks_90 (lv_at hl_29 2 rfl) ?_
        refine lv_iconst (v := (5 : Int32)) hx hb dX11_hashRanks_92 (by decide) ?_
        refine lv_icmp_gt (tgt := 121) hx hb dX11_hashRanks_93 (by decide) (fun c41 => ?_) (fun c41 => ?_)
        · replace hf := (if_pos c41).symm.trans hf
          cases hf
          cases (show (x20, G22) = (x23, G24) from hK2)
          exact K2 H_28 lo_28 dr_30 hd_30 I_28 ls_29 (lv_sub hl_29 [1] rfl)
        · replace hf := (if_neg c41).symm.trans hf
          refine lv_lload_n hx hb dX11_hashRanks_96 rfl (lv_at hl_29 1 rfl) ?_
          refine lv_aload_n hx hb dX11_hashRanks_97 rfl (lv_at hl_29 0 rfl) ?_
          refine kgtX11_54_0 (Fdr F) (Idr I_28) dX11_hashRanks_98 ?_
          refine lv_aload_n hx hb dX11_hashRanks_101 rfl (lv_at hl_29 0 rfl) ?_
          refine kgtX11_16_0 (Fdr F) (Idr I_28) dX11_hashRanks_102 ?_
          refine lv_iload hx hb dX11_hashRanks_105 (lv_at hl_29 2 rfl) ?_
          obtain ⟨r31, G32, h33, hf⟩ := bd2_some hf
          refine s_callVi (As := [.ref (ad 2), .int x21]) (rest := [.long x20]) (Fdr F) (Idr I_28) (cC_SD_numberOf G22 E Dm9 P L pf x21 r31 G32 h33) kX11_226 ⟨rfl, rfl⟩ ⟨Nat.le_trans (Nat.le_of_ble_eq_true rfl) hRf, Nat.le_trans (Nat.le_of_ble_eq_true rfl) hRl⟩ 16 6 rfl rfl rfl rfl rfl hl_29.1 (Nat.le_of_ble_eq_true rfl) ⟨Nat.zero_le _, Nat.zero_le _⟩ dX11_hashRanks_107 ?_
          intro H_34 lo_34 I_34
          replace I_34 := Irr I_34
          refine lv_i2l hx hb dX11_hashRanks_110 rfl ?_
          obtain ⟨r35, h36⟩ : ∃ z, z = C_LT_mixed x20 r31.toInt64 := ⟨_, rfl⟩
          replace hf := nm_some h36 hf
          refine s_callSl (As := [.long x20, .long (r31.toInt64)]) (rest := []) (Fdr F) (Idr I_34) (cC_LT_mixed G32 E Dm9 P L pf x20 r31.toInt64 r35 h36) kX11_296 ⟨rfl, rfl⟩ ⟨Nat.le_trans (Nat.le_of_ble_eq_true rfl) hRf, Nat.le_trans (Nat.le_of_ble_eq_true rfl) hRl⟩ rfl rfl hl_29.1 (Nat.le_of_ble_eq_true rfl) ⟨Nat.zero_le _, Nat.zero_le _⟩ dX11_hashRanks_111 ?_
          intro H_37 lo_37 I_37
          replace I_37 := Irr I_37
          refine lv_lstore_n (lv' := [(3, .long r35), (0, .ref (ad 0)), (5, .int x21)]) hx hb dX11_hashRanks_114 rfl hl_29 (by decide) rfl (fun ls_38 hl_38 => ?_)
          obtain ⟨x39, ex39⟩ : ∃ y : Int32, y = x21 + (1 : Int32) := ⟨_, rfl⟩
          replace hf := nm_some ex39 hf
          refine lv_iinc (v := x39) (lv' := [(5, .int x39), (3, .long r35), (0, .ref (ad 0))]) hx hb dX11_hashRanks_115 hl_38 (k := 2) rfl (by rw [ex39]; rfl) (by decide) rfl (fun ls_40 hl_40 => ?_)
          refine lv_goto (tgt := 90) hx hb dX11_hashRanks_118 (by decide) ?_
          cases hf
          exact ih2 _ _ _ hK2 H_37 lo_37 dr_30 hd_30 I_37 ls_40 (lv_sub hl_40 [2, 1, 0] rfl)
    exact L2 FU _ _ _ hq2 H_16 lo_16 dr_18 hd_18 I_16 ls_19 (lv_sub hl_19 [1, 2, 0] rfl)
  have L1 : ∀ (n : Nat) (x11 : Int64) (x12 : Int32) (G13 : Nat → Nat → Int32), lp (fun q => C_LT_hashRanks_s1 Dd6 q.1 q.2.1 q.2.2) n (x11, x12, G13) = some (x14, G15) → ∀ (H : Heap) (locs : List Loc) (d : Drawn), s.drawn.sameBut d lw_cs → sInv D (cT cI cJ cD cS) (cW ad cI cJ cD cS) A s H locs (G13, E, Dm9, P, L, pf) → ∀ (ls : Array Slot), lv_has ls 7 [(0, .ref (ad 0)), (3, .long x11), (5, .int x12)] → W p l e R (s.setDrawn d) m args below meth c H locs 0 0 Q (F0 m 16 ls []) := by
    intro n
    induction n with
    | zero => intro x11 x12 G13 hq; exact (lp_0 hq).elim
    | succ n ih1 =>
      intro x11 x12 G13 hq H_42 lo_42 dr_44 hd_44 I_42 ls_43 hl_43
      obtain ⟨y1, hf, hK1⟩ := lp_go hq
      replace hf : C_LT_hashRanks_s1 Dd6 x11 x12 G13 = some y1 := hf
      unfold C_LT_hashRanks_s1 at hf
      refine lv_iload hx hb dX11_hashRanks_16 (lv_at hl_43 2 rfl) ?_
      refine lv_aload_n hx hb dX11_hashRanks_18 rfl (lv_at hl_43 0 rfl) ?_
      refine kgtX11_89_0 (Fdr F) (Idr I_42) dX11_hashRanks_19 ?_
      refine lv_icmp_ge (tgt := 87) hx hb dX11_hashRanks_22 (by decide) (fun c77 => ?_) (fun c77 => ?_)
      · replace hf := (if_pos c77).symm.trans hf
        cases hf
        cases (show (x11, G13) = (x14, G15) from hK1)
        exact K1 H_42 lo_42 dr_44 hd_44 I_42 ls_43 (lv_sub hl_43 [0, 1] rfl)
      · replace hf := (if_neg c77).symm.trans hf
        refine lv_iconst (v := (0 : Int32)) hx hb dX11_hashRanks_25 (by decide) ?_
        refine lv_istore (lv' := [(6, .int (0 : Int32)), (0, .ref (ad 0)), (3, .long x11), (5, .int x12)]) hx hb dX11_hashRanks_26 hl_43 (by decide) rfl (fun ls_45 hl_45 => ?_)
        obtain ⟨x49, G50, hq3, hf⟩ := bd2_some hf
        have K3 : ∀ (H : Heap) (locs : List Loc) (d : Drawn), s.drawn.sameBut d lw_cs → sInv D (cT cI cJ cD cS) (cW ad cI cJ cD cS) A s H locs (G50, E, Dm9, P, L, pf) → ∀ (ls : Array Slot), lv_has ls 7 [(0, .ref (ad 0)), (3, .long x49), (5, .int x12)] → W p l e R (s.setDrawn d) m args below meth c H locs 0 0 Q (F0 m 61 ls []) := by
          intro H_51 lo_51 dr_53 hd_53 I_51 ls_52 hl_52
          refine lv_lload_n hx hb dX11_hashRanks_61 rfl (lv_at hl_52 1 rfl) ?_
          refine lv_aload_n hx hb dX11_hashRanks_62 rfl (lv_at hl_52 0 rfl) ?_
          refine kgtX11_68_0 (Fdr F) (Idr I_51) dX11_hashRanks_63 ?_
          refine kgtX11_269_33 (Fdr F) (Idr I_51) dX11_hashRanks_66 ?_
          refine lv_iload hx hb dX11_hashRanks_69 (lv_at hl_52 2 rfl) ?_
          obtain ⟨g54, hf⟩ := ri_some hf
          refine kal36 (Fdr F) (Idr I_51) g54 dX11_hashRanks_71 ?_
          refine lv_ldc2d (v := (4696837146684686336 : UInt64)) hx hb hown (dr_words hG _ _ q731) dX11_hashRanks_72 ?_
          refine lv_dmul_any hd_53 lw_bits hx hb dX11_hashRanks_75 (fun u55 dr_56 alu55 hd_56 => ?_)
          have hu55 := al_dmul alu55 (ha9 1 _) (al_rf _)
          refine lv_d2l hx hb dX11_hashRanks_76 ?_
          rw [al_d2l hu55]
          obtain ⟨r57, h58⟩ : ∃ z, z = C_LT_mixed x49 (FP.d2l (FP.dmul (Dd6 1 x12.toNatClampNeg) (4696837146684686336 : UInt64))) := ⟨_, rfl⟩
          replace hf := nm_some h58 hf
          refine s_callSl (As := [.long x49, .long (FP.d2l (FP.dmul (Dd6 1 x12.toNatClampNeg) (4696837146684686336 : UInt64)))]) (rest := []) (Fdr F) (Idr I_51) (cC_LT_mixed G50 E Dm9 P L pf x49 (FP.d2l (FP.dmul (Dd6 1 x12.toNatClampNeg) (4696837146684686336 : UInt64))) r57 h58) kX11_296 ⟨rfl, rfl⟩ ⟨Nat.le_trans (Nat.le_of_ble_eq_true rfl) hRf, Nat.le_trans (Nat.le_of_ble_eq_true rfl) hRl⟩ rfl rfl hl_52.1 (Nat.le_of_ble_eq_true rfl) ⟨Nat.zero_le _, Nat.zero_le _⟩ dX11_hashRanks_77 ?_
          intro H_59 lo_59 I_59
          replace I_59 := Irr I_59
          refine lv_lstore_n (lv' := [(3, .long r57), (0, .ref (ad 0)), (5, .int x12)]) hx hb dX11_hashRanks_80 rfl hl_52 (by decide) rfl (fun ls_60 hl_60 => ?_)
          obtain ⟨x61, ex61⟩ : ∃ y : Int32, y = x12 + (1 : Int32) := ⟨_, rfl⟩
          replace hf := nm_some ex61 hf
          refine lv_iinc (v := x61) (lv' := [(5, .int x61), (3, .long r57), (0, .ref (ad 0))]) hx hb dX11_hashRanks_81 hl_60 (k := 2) rfl (by rw [ex61]; rfl) (by decide) rfl (fun ls_62 hl_62 => ?_)
          refine lv_goto (tgt := 16) hx hb dX11_hashRanks_84 (by decide) ?_
          cases hf
          exact ih1 _ _ _ hK1 H_59 lo_59 dr_56 hd_56 I_59 ls_62 (lv_sub hl_62 [2, 1, 0] rfl)
        have L3 : ∀ (n : Nat) (x46 : Int64) (x47 : Int32) (G48 : Nat → Nat → Int32), lp (fun q => C_LT_hashRanks_s3 x12 q.1 q.2.1 q.2.2) n (x46, x47, G48) = some (x49, G50) → ∀ (H : Heap) (locs : List Loc) (d : Drawn), s.drawn.sameBut d lw_cs → sInv D (cT cI cJ cD cS) (cW ad cI cJ cD cS) A s H locs (G48, E, Dm9, P, L, pf) → ∀ (ls : Array Slot), lv_has ls 7 [(0, .ref (ad 0)), (3, .long x46), (5, .int x12), (6, .int x47)] → W p l e R (s.setDrawn d) m args below meth c H locs 0 0 Q (F0 m 28 ls []) := by
          intro n
          induction n with
          | zero => intro x46 x47 G48 hq; exact (lp_0 hq).elim
          | succ n ih3 =>
            intro x46 x47 G48 hq H_63 lo_63 dr_65 hd_65 I_63 ls_64 hl_64
            obtain ⟨y3, hf, hK3⟩ := lp_go hq
            replace hf : C_LT_hashRanks_s3 x12 x46 x47 G48 = some y3 := hf
            unfold C_LT_hashRanks_s3 at hf
            refine lv_iload hx hb dX11_hashRanks_28 (lv_at hl_64 3 rfl) ?_
            refine lv_iconst (v := (5 : Int32)) hx hb dX11_hashRanks_30 (by decide) ?_
            refine lv_icmp_gt (tgt := 61) hx hb dX11_hashRanks_31 (by decide) (fun c76 => ?_) (fun c76 => ?_)
            · replace hf := (if_pos c76).symm.trans hf
              cases hf
              cases (show (x46, G48) = (x49, G50) from hK3)
              exact K3 H_63 lo_63 dr_65 hd_65 I_63 ls_64 (lv_sub hl_64 [0, 1, 2] rfl)
            · replace hf := (if_neg c76).symm.trans hf
              refine lv_lload_n hx hb dX11_hashRanks_34 rfl (lv_at hl_64 1 rfl) ?_
              refine lv_aload_n hx hb dX11_hashRanks_35 rfl (lv_at hl_64 0 rfl) ?_
              refine kgtX11_54_0 (Fdr F) (Idr I_63) dX11_hashRanks_36 ?_
              refine lv_aload_n hx hb dX11_hashRanks_39 rfl (lv_at hl_64 0 rfl) ?_
              refine kgtX11_16_0 (Fdr F) (Idr I_63) dX11_hashRanks_40 ?_
              refine lv_iload hx hb dX11_hashRanks_43 (lv_at hl_64 2 rfl) ?_
              refine lv_iload hx hb dX11_hashRanks_45 (lv_at hl_64 3 rfl) ?_
              obtain ⟨r66, G67, h68, hf⟩ := bd2_some hf
              refine s_callVi (As := [.ref (ad 2), .int x12, .int x47]) (rest := [.long x46]) (Fdr F) (Idr I_63) (cC_SD_propertyOf G48 E Dm9 P L pf x12 x47 r66 G67 h68) kX11_220 ⟨rfl, rfl⟩ ⟨Nat.le_trans (Nat.le_of_ble_eq_true rfl) hRf, Nat.le_trans (Nat.le_of_ble_eq_true rfl) hRl⟩ 16 6 rfl rfl rfl rfl rfl hl_64.1 (Nat.le_of_ble_eq_true rfl) ⟨Nat.zero_le _, Nat.zero_le _⟩ dX11_hashRanks_47 ?_
              intro H_69 lo_69 I_69
              replace I_69 := Irr I_69
              refine lv_i2l hx hb dX11_hashRanks_50 rfl ?_
              obtain ⟨r70, h71⟩ : ∃ z, z = C_LT_mixed x46 r66.toInt64 := ⟨_, rfl⟩
              replace hf := nm_some h71 hf
              refine s_callSl (As := [.long x46, .long (r66.toInt64)]) (rest := []) (Fdr F) (Idr I_69) (cC_LT_mixed G67 E Dm9 P L pf x46 r66.toInt64 r70 h71) kX11_296 ⟨rfl, rfl⟩ ⟨Nat.le_trans (Nat.le_of_ble_eq_true rfl) hRf, Nat.le_trans (Nat.le_of_ble_eq_true rfl) hRl⟩ rfl rfl hl_64.1 (Nat.le_of_ble_eq_true rfl) ⟨Nat.zero_le _, Nat.zero_le _⟩ dX11_hashRanks_51 ?_
              intro H_72 lo_72 I_72
              replace I_72 := Irr I_72
              refine lv_lstore_n (lv' := [(3, .long r70), (0, .ref (ad 0)), (5, .int x12), (6, .int x47)]) hx hb dX11_hashRanks_54 rfl hl_64 (by decide) rfl (fun ls_73 hl_73 => ?_)
              obtain ⟨x74, ex74⟩ : ∃ y : Int32, y = x47 + (1 : Int32) := ⟨_, rfl⟩
              replace hf := nm_some ex74 hf
              refine lv_iinc (v := x74) (lv' := [(6, .int x74), (3, .long r70), (0, .ref (ad 0)), (5, .int x12)]) hx hb dX11_hashRanks_55 hl_73 (k := 3) rfl (by rw [ex74]; rfl) (by decide) rfl (fun ls_75 hl_75 => ?_)
              refine lv_goto (tgt := 28) hx hb dX11_hashRanks_58 (by decide) ?_
              cases hf
              exact ih3 _ _ _ hK3 H_72 lo_72 dr_65 hd_65 I_72 ls_75 (lv_sub hl_75 [2, 1, 3, 0] rfl)
        exact L3 FU _ _ _ hq3 H_42 lo_42 dr_44 hd_44 I_42 ls_45 (lv_sub hl_45 [1, 2, 3, 0] rfl)
  exact L1 FU _ _ _ hq1 H_8 lo_8 dr_9 hd_9 I_8 ls_10 (lv_sub hl_10 [2, 1, 0] rfl)
def C_LT_hashPairs_s2 (x10 : Int32) (G5 : Nat → Nat → Int32) (x20 : Int64) (x21 : Int32) : Option ((Int64 × Int32) ⊕ (Int64)) :=
if G5 0 0 ≤ x21 then
(some (.inr x20))
else
(bd (C_LE_lead_22 G5 x10 x21) fun r31 =>
nm (C_LT_mixed x20 r31.toInt64) fun r34 =>
bd (C_TA_chanceOf G5 x10 x21) fun r38 =>
nm (C_LT_mixed r34 r38) fun r41 =>
nm (x21 + (1 : Int32) : Int32) fun x45 =>
some (.inl (r41, x45)))
def C_LT_hashPairs_s1 (G5 : Nat → Nat → Int32) (x9 : Int64) (x10 : Int32) : Option ((Int64 × Int32) ⊕ (Int64)) :=
if G5 0 0 ≤ x10 then
(some (.inr x9))
else
(nm (x10 + (1 : Int32) : Int32) fun x18 =>
bd (lp (fun q => C_LT_hashPairs_s2 x10 G5 q.1 q.2) FU (x9, x18)) fun x22 =>
nm (x10 + (1 : Int32) : Int32) fun x26 =>
some (.inl (x22, x26)))
def C_LT_hashPairs (G : Nat → Nat → Int32) (a0 : Int64) : Option (Int64 × (Nat → Nat → Int32)) :=
bd (C_LT_weigh G (-1 : Int32)) fun G2 =>
bd (C_TA_take G2) fun G5 =>
bd (lp (fun q => C_LT_hashPairs_s1 G5 q.1 q.2) FU (a0, (0 : Int32))) fun x11 =>
some (x11, G5)
set_option maxRecDepth 100000 in
set_option maxHeartbeats 4000000 in
theorem cC_LT_hashPairs (G : Nat → Nat → Int32) (E : Nat → Nat → Int64) (Dd : Nat → Nat → UInt64) (P : Nat → Option Nat) (L : List Nat) (pf : Nat → va_E) (a0 : Int64) (rv : Int64) (newG : Nat → Nat → Int32) (hf : C_LT_hashPairs G a0 = some (rv, newG)) : sMl D (cT cI cJ cD cS) (cW ad cI cJ cD cS) l yX11_hashPairs (ws1 yX11_hashPairs cX11_hashPairs 7 (some .long)) ({ frames := 5, cells := 0, slots := 0, locals := 112 }) [.ref (ad 0), .long a0] (G, E, Dd, P, L, pf) (rv, (newG, E, Dd, P, L, pf)) := by
  unfold C_LT_hashPairs at hf
  refine sMl_of (by decide) (Nat.le_of_ble_eq_true rfl) ?_
  intro p e R s m args below meth c A Q ls H lo F hRf hRl I hl ret
  obtain ⟨hx, hb, hml, hown, hG⟩ := id F
  replace hl : lv_has ls 7 [(0, .ref (ad 0)), (1, .long a0)] := hl
  refine lv_lload_n hx hb dX11_hashPairs_0 rfl (lv_at hl 1 rfl) ?_
  refine lv_lstore_n (lv' := [(3, .long a0), (0, .ref (ad 0)), (1, .long a0)]) hx hb dX11_hashPairs_1 rfl hl (by decide) rfl (fun ls_1 hl_1 => ?_)
  refine lv_aload_n hx hb dX11_hashPairs_2 rfl (lv_at hl_1 1 rfl) ?_
  refine lv_iconst (v := (-1 : Int32)) hx hb dX11_hashPairs_3 (by decide) ?_
  obtain ⟨G2, h3, hf⟩ := bd_some hf
  refine s_callVv (As := [.int (-1 : Int32)]) (rest := []) F I (cC_LT_weigh G E Dd P L pf (-1 : Int32) G2 h3) kX11_202 ⟨rfl, rfl⟩ ⟨Nat.le_trans (Nat.le_of_ble_eq_true rfl) hRf, Nat.le_trans (Nat.le_of_ble_eq_true rfl) hRl⟩ 0 11 rfl rfl rfl rfl rfl hl_1.1 (Nat.le_of_ble_eq_true rfl) ⟨Nat.zero_le _, Nat.zero_le _⟩ dX11_hashPairs_4 ?_
  intro H_4 lo_4 I_4
  refine lv_aload_n hx hb dX11_hashPairs_7 rfl (lv_at hl_1 1 rfl) ?_
  refine kgtX11_37_0 F I_4 dX11_hashPairs_8 ?_
  refine lv_aload_n hx hb dX11_hashPairs_11 rfl (lv_at hl_1 1 rfl) ?_
  refine kgtX11_16_0 F I_4 dX11_hashPairs_12 ?_
  obtain ⟨G5, h6, hf⟩ := bd_some hf
  refine s_callVv (As := [.ref (ad 2)]) (rest := []) F I_4 (cC_TA_take G2 E Dd P L pf G5 h6) kX11_211 ⟨rfl, rfl⟩ ⟨Nat.le_trans (Nat.le_of_ble_eq_true rfl) hRf, Nat.le_trans (Nat.le_of_ble_eq_true rfl) hRl⟩ 9 9 rfl rfl rfl rfl rfl hl_1.1 (Nat.le_of_ble_eq_true rfl) ⟨Nat.zero_le _, Nat.zero_le _⟩ dX11_hashPairs_15 ?_
  intro H_7 lo_7 I_7
  refine lv_iconst (v := (0 : Int32)) hx hb dX11_hashPairs_18 (by decide) ?_
  refine lv_istore (lv' := [(5, .int (0 : Int32)), (3, .long a0), (0, .ref (ad 0)), (1, .long a0)]) hx hb dX11_hashPairs_19 hl_1 (by decide) rfl (fun ls_8 hl_8 => ?_)
  obtain ⟨x11, hq1, hf⟩ := bd_some hf
  have K1 : ∀ (H : Heap) (locs : List Loc), sInv D (cT cI cJ cD cS) (cW ad cI cJ cD cS) A s H locs (G5, E, Dd, P, L, pf) → ∀ (ls : Array Slot), lv_has ls 7 [(3, .long x11)] → W p l e R s m args below meth c H locs 0 0 Q (F0 m 93 ls []) := by
    intro H_12 lo_12 I_12 ls_13 hl_13
    refine lv_lload_n hx hb dX11_hashPairs_93 rfl (lv_at hl_13 0 rfl) ?_
    cases hf
    exact ret H_12 lo_12 _ ls_13 I_12 dX11_hashPairs_94
  have L1 : ∀ (n : Nat) (x9 : Int64) (x10 : Int32), lp (fun q => C_LT_hashPairs_s1 G5 q.1 q.2) n (x9, x10) = some x11 → ∀ (H : Heap) (locs : List Loc), sInv D (cT cI cJ cD cS) (cW ad cI cJ cD cS) A s H locs (G5, E, Dd, P, L, pf) → ∀ (ls : Array Slot), lv_has ls 7 [(0, .ref (ad 0)), (3, .long x9), (5, .int x10)] → W p l e R s m args below meth c H locs 0 0 Q (F0 m 21 ls []) := by
    intro n
    induction n with
    | zero => intro x9 x10 hq; exact (lp_0 hq).elim
    | succ n ih1 =>
      intro x9 x10 hq H_15 lo_15 I_15 ls_16 hl_16
      obtain ⟨y1, hf, hK1⟩ := lp_go hq
      replace hf : C_LT_hashPairs_s1 G5 x9 x10 = some y1 := hf
      unfold C_LT_hashPairs_s1 at hf
      refine lv_iload hx hb dX11_hashPairs_21 (lv_at hl_16 2 rfl) ?_
      refine lv_aload_n hx hb dX11_hashPairs_23 rfl (lv_at hl_16 0 rfl) ?_
      refine kgtX11_89_0 F I_15 dX11_hashPairs_24 ?_
      refine lv_icmp_ge (tgt := 93) hx hb dX11_hashPairs_27 (by decide) (fun c48 => ?_) (fun c48 => ?_)
      · replace hf := (if_pos c48).symm.trans hf
        cases hf
        cases (show x9 = x11 from hK1)
        exact K1 H_15 lo_15 I_15 ls_16 (lv_sub hl_16 [1] rfl)
      · replace hf := (if_neg c48).symm.trans hf
        refine lv_iload hx hb dX11_hashPairs_30 (lv_at hl_16 2 rfl) ?_
        refine lv_iconst (v := (1 : Int32)) hx hb dX11_hashPairs_32 (by decide) ?_
        refine lv_iadd hx hb dX11_hashPairs_33 ?_
        refine lv_topi (fun x18 ex18 => ?_)
        replace hf := nm_some ex18 hf
        refine lv_istore (lv' := [(6, .int x18), (0, .ref (ad 0)), (3, .long x9), (5, .int x10)]) hx hb dX11_hashPairs_34 hl_16 (by decide) rfl (fun ls_19 hl_19 => ?_)
        obtain ⟨x22, hq2, hf⟩ := bd_some hf
        have K2 : ∀ (H : Heap) (locs : List Loc), sInv D (cT cI cJ cD cS) (cW ad cI cJ cD cS) A s H locs (G5, E, Dd, P, L, pf) → ∀ (ls : Array Slot), lv_has ls 7 [(0, .ref (ad 0)), (3, .long x22), (5, .int x10)] → W p l e R s m args below meth c H locs 0 0 Q (F0 m 87 ls []) := by
          intro H_23 lo_23 I_23 ls_24 hl_24
          obtain ⟨x26, ex26⟩ : ∃ y : Int32, y = x10 + (1 : Int32) := ⟨_, rfl⟩
          replace hf := nm_some ex26 hf
          refine lv_iinc (v := x26) (lv' := [(5, .int x26), (0, .ref (ad 0)), (3, .long x22)]) hx hb dX11_hashPairs_87 hl_24 (k := 2) rfl (by rw [ex26]; rfl) (by decide) rfl (fun ls_27 hl_27 => ?_)
          refine lv_goto (tgt := 21) hx hb dX11_hashPairs_90 (by decide) ?_
          cases hf
          exact ih1 _ _ hK1 H_23 lo_23 I_23 ls_27 (lv_sub hl_27 [1, 2, 0] rfl)
        have L2 : ∀ (n : Nat) (x20 : Int64) (x21 : Int32), lp (fun q => C_LT_hashPairs_s2 x10 G5 q.1 q.2) n (x20, x21) = some x22 → ∀ (H : Heap) (locs : List Loc), sInv D (cT cI cJ cD cS) (cW ad cI cJ cD cS) A s H locs (G5, E, Dd, P, L, pf) → ∀ (ls : Array Slot), lv_has ls 7 [(0, .ref (ad 0)), (3, .long x20), (5, .int x10), (6, .int x21)] → W p l e R s m args below meth c H locs 0 0 Q (F0 m 36 ls []) := by
          intro n
          induction n with
          | zero => intro x20 x21 hq; exact (lp_0 hq).elim
          | succ n ih2 =>
            intro x20 x21 hq H_28 lo_28 I_28 ls_29 hl_29
            obtain ⟨y2, hf, hK2⟩ := lp_go hq
            replace hf : C_LT_hashPairs_s2 x10 G5 x20 x21 = some y2 := hf
            unfold C_LT_hashPairs_s2 at hf
            refine lv_iload hx hb dX11_hashPairs_36 (lv_at hl_29 3 rfl) ?_
            refine lv_aload_n hx hb dX11_hashPairs_38 rfl (lv_at hl_29 0 rfl) ?_
            refine kgtX11_89_0 F I_28 dX11_hashPairs_39 ?_
            refine lv_icmp_ge (tgt := 87) hx hb dX11_hashPairs_42 (by decide) (fun c47 => ?_) (fun c47 => ?_)
            · replace hf := (if_pos c47).symm.trans hf
              cases hf
              cases (show x20 = x22 from hK2)
              exact K2 H_28 lo_28 I_28 ls_29 (lv_sub hl_29 [0, 1, 2] rfl)
            · replace hf := (if_neg c47).symm.trans hf
              refine lv_lload_n hx hb dX11_hashPairs_45 rfl (lv_at hl_29 1 rfl) ?_
              refine lv_aload_n hx hb dX11_hashPairs_46 rfl (lv_at hl_29 0 rfl) ?_
              refine kgtX11_54_0 F I_28 dX11_hashPairs_47 ?_
              refine kgtX11_205_16 F I_28 dX11_hashPairs_50 ?_
              refine lv_iload hx hb dX11_hashPairs_53 (lv_at hl_29 2 rfl) ?_
              refine lv_iload hx hb dX11_hashPairs_55 (lv_at hl_29 3 rfl) ?_
              obtain ⟨r31, h32, hf⟩ := bd_some hf
              refine s_callVi (As := [.int x10, .int x21]) (rest := [.long x20]) F I_28 (cC_LE_lead_22 G5 E Dd P L pf x10 x21 r31 h32) kX11_208 ⟨rfl, rfl⟩ ⟨Nat.le_trans (Nat.le_of_ble_eq_true rfl) hRf, Nat.le_trans (Nat.le_of_ble_eq_true rfl) hRl⟩ 22 3 rfl rfl rfl rfl rfl hl_29.1 (Nat.le_of_ble_eq_true rfl) ⟨Nat.zero_le _, Nat.zero_le _⟩ dX11_hashPairs_57 ?_
              intro H_33 lo_33 I_33
              refine lv_i2l hx hb dX11_hashPairs_60 rfl ?_
              obtain ⟨r34, h35⟩ : ∃ z, z = C_LT_mixed x20 r31.toInt64 := ⟨_, rfl⟩
              replace hf := nm_some h35 hf
              refine s_callSl (As := [.long x20, .long (r31.toInt64)]) (rest := []) F I_33 (cC_LT_mixed G5 E Dd P L pf x20 r31.toInt64 r34 h35) kX11_296 ⟨rfl, rfl⟩ ⟨Nat.le_trans (Nat.le_of_ble_eq_true rfl) hRf, Nat.le_trans (Nat.le_of_ble_eq_true rfl) hRl⟩ rfl rfl hl_29.1 (Nat.le_of_ble_eq_true rfl) ⟨Nat.zero_le _, Nat.zero_le _⟩ dX11_hashPairs_61 ?_
              intro H_36 lo_36 I_36
              refine lv_lstore_n (lv' := [(3, .long r34), (0, .ref (ad 0)), (5, .int x10), (6, .int x21)]) hx hb dX11_hashPairs_64 rfl hl_29 (by decide) rfl (fun ls_37 hl_37 => ?_)
              refine lv_lload_n hx hb dX11_hashPairs_65 rfl (lv_at hl_37 0 rfl) ?_
              refine lv_aload_n hx hb dX11_hashPairs_66 rfl (lv_at hl_37 1 rfl) ?_
              refine kgtX11_37_0 F I_36 dX11_hashPairs_67 ?_
              refine lv_iload hx hb dX11_hashPairs_70 (lv_at hl_37 2 rfl) ?_
              refine lv_iload hx hb dX11_hashPairs_72 (lv_at hl_37 3 rfl) ?_
              obtain ⟨r38, h39, hf⟩ := bd_some hf
              refine s_callVl (As := [.int x10, .int x21]) (rest := [.long r34]) F I_36 (cC_TA_chanceOf G5 E Dd P L pf x10 x21 r38 h39) kX11_249 ⟨rfl, rfl⟩ ⟨Nat.le_trans (Nat.le_of_ble_eq_true rfl) hRf, Nat.le_trans (Nat.le_of_ble_eq_true rfl) hRl⟩ 9 9 rfl rfl rfl rfl rfl hl_37.1 (Nat.le_of_ble_eq_true rfl) ⟨Nat.zero_le _, Nat.zero_le _⟩ dX11_hashPairs_74 ?_
              intro H_40 lo_40 I_40
              obtain ⟨r41, h42⟩ : ∃ z, z = C_LT_mixed r34 r38 := ⟨_, rfl⟩
              replace hf := nm_some h42 hf
              refine s_callSl (As := [.long r34, .long r38]) (rest := []) F I_40 (cC_LT_mixed G5 E Dd P L pf r34 r38 r41 h42) kX11_296 ⟨rfl, rfl⟩ ⟨Nat.le_trans (Nat.le_of_ble_eq_true rfl) hRf, Nat.le_trans (Nat.le_of_ble_eq_true rfl) hRl⟩ rfl rfl hl_37.1 (Nat.le_of_ble_eq_true rfl) ⟨Nat.zero_le _, Nat.zero_le _⟩ dX11_hashPairs_77 ?_
              intro H_43 lo_43 I_43
              refine lv_lstore_n (lv' := [(3, .long r41), (0, .ref (ad 0)), (5, .int x10), (6, .int x21)]) hx hb dX11_hashPairs_80 rfl hl_37 (by decide) rfl (fun ls_44 hl_44 => ?_)
              obtain ⟨x45, ex45⟩ : ∃ y : Int32, y = x21 + (1 : Int32) := ⟨_, rfl⟩
              replace hf := nm_some ex45 hf
              refine lv_iinc (v := x45) (lv' := [(6, .int x45), (3, .long r41), (0, .ref (ad 0)), (5, .int x10)]) hx hb dX11_hashPairs_81 hl_44 (k := 3) rfl (by rw [ex45]; rfl) (by decide) rfl (fun ls_46 hl_46 => ?_)
              refine lv_goto (tgt := 36) hx hb dX11_hashPairs_84 (by decide) ?_
              cases hf
              exact ih2 _ _ hK2 H_43 lo_43 I_43 ls_46 (lv_sub hl_46 [2, 1, 3, 0] rfl)
        exact L2 FU _ _ hq2 H_15 lo_15 I_15 ls_19 (lv_sub hl_19 [1, 2, 3, 0] rfl)
  exact L1 FU _ _ hq1 H_7 lo_7 I_7 ls_8 (lv_sub hl_8 [2, 1, 0] rfl)
def C_LT_requireRoom (G : Nat → Nat → Int32) (a0 : Int32) : Option (Unit) :=
if (G 5 0) + a0 ≤ (48 : Int32) then
(some ())
else
(none)
set_option maxRecDepth 100000 in
set_option maxHeartbeats 4000000 in
theorem cC_LT_requireRoom (G : Nat → Nat → Int32) (E : Nat → Nat → Int64) (Dd : Nat → Nat → UInt64) (P : Nat → Option Nat) (L : List Nat) (pf : Nat → va_E) (a0 : Int32)   (hf : C_LT_requireRoom G a0 = some ()) : sMv D (cT cI cJ cD cS) (cW ad cI cJ cD cS) l yX11_requireRoom (ws1 yX11_requireRoom cX11_requireRoom 2 none) ({ frames := 0, cells := 0, slots := 0, locals := 0 }) [.ref (ad 0), .int a0] (G, E, Dd, P, L, pf) (G, E, Dd, P, L, pf) := by
  unfold C_LT_requireRoom at hf
  refine sMv_of (by decide) (Nat.le_of_ble_eq_true rfl) ?_
  intro p e R s m args below meth c A Q ls H lo F hRf hRl I hl ret
  obtain ⟨hx, hb, hml, hown, hG⟩ := id F
  replace hl : lv_has ls 2 [(0, .ref (ad 0)), (1, .int a0)] := hl
  refine lv_aload_n hx hb dX11_requireRoom_0 rfl (lv_at hl 0 rfl) ?_
  refine kgtX11_16_0 F I dX11_requireRoom_1 ?_
  refine kgtX11_149_2 F I dX11_requireRoom_4 ?_
  refine lv_iload_n hx hb dX11_requireRoom_7 rfl (lv_at hl 1 rfl) ?_
  refine lv_iadd hx hb dX11_requireRoom_8 ?_
  refine lv_bipush (v := (48 : Int32)) hx hb dX11_requireRoom_9 (by decide) ?_
  refine lv_icmp_le (tgt := 25) hx hb dX11_requireRoom_11 (by decide) (fun c1 => ?_) (fun c1 => ?_)
  · replace hf := (if_pos c1).symm.trans hf
    cases hf
    exact ret H lo _ ls I dX11_requireRoom_25
  · replace hf := (if_neg c1).symm.trans hf
    cases hf
def C_LT_requireAnswer (a0 : Int32) : Option (Unit) :=
bd (if a0 < 0 then
(some (0 : Int32))
else
(if (2 : Int32) < a0 then
(some (0 : Int32))
else
(some (1 : Int32)))) fun x2 =>
bd0 (C_LT_requireArgument x2) <|
some ()
set_option maxRecDepth 100000 in
set_option maxHeartbeats 4000000 in
theorem cC_LT_requireAnswer (G : Nat → Nat → Int32) (E : Nat → Nat → Int64) (Dd : Nat → Nat → UInt64) (P : Nat → Option Nat) (L : List Nat) (pf : Nat → va_E) (a0 : Int32)   (hf : C_LT_requireAnswer a0 = some ()) : sMv D (cT cI cJ cD cS) (cW ad cI cJ cD cS) l yX11_requireAnswer (ws1 yX11_requireAnswer cX11_requireAnswer 1 none) ({ frames := 1, cells := 0, slots := 0, locals := 20 }) [.int a0] (G, E, Dd, P, L, pf) (G, E, Dd, P, L, pf) := by
  unfold C_LT_requireAnswer at hf
  refine sMv_of (by decide) (Nat.le_of_ble_eq_true rfl) ?_
  intro p e R s m args below meth c A Q ls H lo F hRf hRl I hl ret
  obtain ⟨hx, hb, hml, hown, hG⟩ := id F
  replace hl : lv_has ls 1 [(0, .int a0)] := hl
  refine lv_iload_n hx hb dX11_requireAnswer_0 rfl (lv_at hl 0 rfl) ?_
  obtain ⟨x2, hv8, hf⟩ := bd_some hf
  have J1 : ∀ (H : Heap) (locs : List Loc), sInv D (cT cI cJ cD cS) (cW ad cI cJ cD cS) A s H locs (G, E, Dd, P, L, pf) → ∀ (ls : Array Slot), lv_has ls 1 [] → W p l e R s m args below meth c H locs 0 0 Q (F0 m 14 ls [.int x2]) := by
    intro H_3 lo_3 I_3 ls_4 hl_4
    obtain ⟨h6, hf⟩ := bd0_some hf
    refine s_callSv (As := [.int x2]) (rest := []) F I_3 (cC_LT_requireArgument G E Dd P L pf x2 h6) kX11_76 ⟨rfl, rfl⟩ ⟨Nat.le_trans (Nat.le_of_ble_eq_true rfl) hRf, Nat.le_trans (Nat.le_of_ble_eq_true rfl) hRl⟩ rfl rfl hl_4.1 (Nat.le_of_ble_eq_true rfl) ⟨Nat.zero_le _, Nat.zero_le _⟩ dX11_requireAnswer_14 ?_
    intro H_7 lo_7 I_7
    cases hf
    exact ret H_7 lo_7 _ ls_4 I_7 dX11_requireAnswer_17
  replace hf := hv8
  refine lv_if_lt (tgt := 13) hx hb dX11_requireAnswer_1 (by decide) (fun c10 => ?_) (fun c10 => ?_)
  · replace hf := (if_pos c10).symm.trans hf
    refine lv_iconst (v := (0 : Int32)) hx hb dX11_requireAnswer_13 (by decide) ?_
    cases hf
    exact J1 H lo I ls (lv_sub hl [] rfl)
  · replace hf := (if_neg c10).symm.trans hf
    refine lv_iload_n hx hb dX11_requireAnswer_4 rfl (lv_at hl 0 rfl) ?_
    refine lv_iconst (v := (2 : Int32)) hx hb dX11_requireAnswer_5 (by decide) ?_
    refine lv_icmp_gt (tgt := 13) hx hb dX11_requireAnswer_6 (by decide) (fun c9 => ?_) (fun c9 => ?_)
    · replace hf := (if_pos c9).symm.trans hf
      refine lv_iconst (v := (0 : Int32)) hx hb dX11_requireAnswer_13 (by decide) ?_
      cases hf
      exact J1 H lo I ls (lv_sub hl [] rfl)
    · replace hf := (if_neg c9).symm.trans hf
      refine lv_iconst (v := (1 : Int32)) hx hb dX11_requireAnswer_9 (by decide) ?_
      refine lv_goto (tgt := 14) hx hb dX11_requireAnswer_10 (by decide) ?_
      cases hf
      exact J1 H lo I ls (lv_sub hl [] rfl)
end Meth
